theorem k_126 : Cond.methodLink RL 13 yX8_post ∈ wsL_law := kc_6 _ (List.mem_of_getElem? (i := 6) rfl)
theorem k_135 : Cond.methodLink RL 17 yX9_post ∈ wsL_law := kc_6 _ (List.mem_of_getElem? (i := 15) rfl)
theorem k_143 : Cond.methodLink RL 18 yX8_road ∈ wsL_law := kc_6 _ (List.mem_of_getElem? (i := 23) rfl)
theorem k_167 : Cond.methodLink RL 22 yX9_road ∈ wsL_law := kc_7 _ (List.mem_of_getElem? (i := 23) rfl)
theorem k_172 : Cond.methodLink RL 23 yX8_odds ∈ wsL_law := kc_8 _ (List.mem_of_getElem? (i := 4) rfl)
theorem k_181 : Cond.methodLink RL 27 yX9_odds ∈ wsL_law := kc_8 _ (List.mem_of_getElem? (i := 13) rfl)
theorem k_185 : Cond.methodLink RL 28 yX8_roadOf ∈ wsL_law := kc_8 _ (List.mem_of_getElem? (i := 17) rfl)
theorem k_192 : Cond.methodLink RL 31 yX9_roadOf ∈ wsL_law := kc_9 _ (List.mem_of_getElem? (i := 0) rfl)
theorem k_196 : Cond.methodLink RL 32 yX8_tell ∈ wsL_law := kc_9 _ (List.mem_of_getElem? (i := 4) rfl)
theorem k_228 : Cond.methodLink RL 35 yX9_tell ∈ wsL_law := kc_10 _ (List.mem_of_getElem? (i := 12) rfl)
theorem k_245 : Cond.methodLink RL 36 yX8_all ∈ wsL_law := kc_11 _ (List.mem_of_getElem? (i := 5) rfl)
theorem k_262 : Cond.methodLink RL 39 yX9_all ∈ wsL_law := kc_11 _ (List.mem_of_getElem? (i := 22) rfl)
theorem k_266 : Cond.methodLink RL 40 yX8_paths ∈ wsL_law := kc_12 _ (List.mem_of_getElem? (i := 2) rfl)
theorem k_307 : Cond.methodLink RL 44 yX9_paths ∈ wsL_law := kc_13 _ (List.mem_of_getElem? (i := 19) rfl)
theorem k_330 : Cond.methodLink RL 45 yX8_rounds ∈ wsL_law := kc_14 _ (List.mem_of_getElem? (i := 18) rfl)
theorem k_339 : Cond.methodLink RL 49 yX9_rounds ∈ wsL_law := kc_15 _ (List.mem_of_getElem? (i := 3) rfl)
theorem k_343 : Cond.methodLink RL 50 yX8_trees ∈ wsL_law := kc_15 _ (List.mem_of_getElem? (i := 7) rfl)
theorem k_383 : Cond.methodLink RL 53 yX9_trees ∈ wsL_law := kc_16 _ (List.mem_of_getElem? (i := 23) rfl)
theorem k_394 : Cond.methodLink RL 54 yX8_pairs ∈ wsL_law := kc_17 _ (List.mem_of_getElem? (i := 10) rfl)
theorem k_406 : Cond.methodLink RL 57 yX9_pairs ∈ wsL_law := kc_17 _ (List.mem_of_getElem? (i := 22) rfl)
theorem k_410 : Cond.methodLink RL 58 yX8_parts ∈ wsL_law := kc_18 _ (List.mem_of_getElem? (i := 2) rfl)
theorem k_418 : Cond.methodLink RL 61 yX9_parts ∈ wsL_law := kc_18 _ (List.mem_of_getElem? (i := 10) rfl)
theorem k_426 : Cond.methodLink RL 62 yX8_degrees ∈ wsL_law := kc_18 _ (List.mem_of_getElem? (i := 18) rfl)
theorem k_445 : Cond.methodLink RL 66 yX9_degrees ∈ wsL_law := kc_19 _ (List.mem_of_getElem? (i := 13) rfl)
theorem k_457 : Cond.methodLink RL 67 yX8_join ∈ wsL_law := kc_20 _ (List.mem_of_getElem? (i := 1) rfl)
theorem k_544 : Cond.methodLink RL 70 yX9_join ∈ wsL_law := kc_23 _ (List.mem_of_getElem? (i := 16) rfl)
theorem k_572 : Cond.methodLink RL 71 yX8_thin ∈ wsL_law := kc_24 _ (List.mem_of_getElem? (i := 20) rfl)
theorem k_594 : Cond.methodLink RL 74 yX9_thin ∈ wsL_law := kc_25 _ (List.mem_of_getElem? (i := 18) rfl)
theorem k_610 : Cond.methodLink RL 75 yX8_by ∈ wsL_law := kc_26 _ (List.mem_of_getElem? (i := 10) rfl)
theorem k_620 : Cond.methodLink RL 78 yX9_by ∈ wsL_law := kc_26 _ (List.mem_of_getElem? (i := 20) rfl)
theorem k_624 : Cond.methodLink RL 79 yX8_within ∈ wsL_law := kc_27 _ (List.mem_of_getElem? (i := 0) rfl)
theorem k_644 : Cond.methodLink RL 82 yX9_within ∈ wsL_law := kc_27 _ (List.mem_of_getElem? (i := 20) rfl)
theorem k_652 : Cond.methodLink RL 83 yX8_drop ∈ wsL_law := kc_28 _ (List.mem_of_getElem? (i := 4) rfl)
theorem k_656 : Cond.methodLink RL 87 yX9_drop ∈ wsL_law := kc_28 _ (List.mem_of_getElem? (i := 8) rfl)
theorem k_660 : Cond.methodLink RL 88 yX8_close ∈ wsL_law := kc_28 _ (List.mem_of_getElem? (i := 12) rfl)
theorem k_669 : Cond.methodLink RL 91 yX9_close ∈ wsL_law := kc_28 _ (List.mem_of_getElem? (i := 21) rfl)
theorem k_673 : Cond.methodLink RL 92 yX8_count ∈ wsL_law := kc_29 _ (List.mem_of_getElem? (i := 1) rfl)
theorem k_677 : Cond.methodLink RL 95 yX9_count ∈ wsL_law := kc_29 _ (List.mem_of_getElem? (i := 5) rfl)
theorem k_681 : Cond.methodLink RL 96 yX8_told ∈ wsL_law := kc_29 _ (List.mem_of_getElem? (i := 9) rfl)
theorem k_728 : Cond.methodLink RL 99 yX9_told ∈ wsL_law := kc_31 _ (List.mem_of_getElem? (i := 8) rfl)
theorem k_744 : Cond.methodLink RL 100 yX8_total ∈ wsL_law := kc_32 _ (List.mem_of_getElem? (i := 0) rfl)
theorem k_750 : Cond.methodLink RL 104 yX9_total ∈ wsL_law := kc_32 _ (List.mem_of_getElem? (i := 6) rfl)
theorem k_754 : Cond.methodLink RL 105 yX8_often ∈ wsL_law := kc_32 _ (List.mem_of_getElem? (i := 10) rfl)
theorem k_758 : Cond.methodLink RL 108 yX9_often ∈ wsL_law := kc_32 _ (List.mem_of_getElem? (i := 14) rfl)
theorem k_762 : Cond.methodLink RL 109 yX8_has ∈ wsL_law := kc_32 _ (List.mem_of_getElem? (i := 18) rfl)
theorem k_767 : Cond.methodLink RL 112 yX9_has ∈ wsL_law := kc_32 _ (List.mem_of_getElem? (i := 23) rfl)
theorem k_771 : Cond.methodLink RL 113 yX8_way ∈ wsL_law := kc_33 _ (List.mem_of_getElem? (i := 3) rfl)
theorem k_785 : Cond.methodLink RL 116 yX9_way ∈ wsL_law := kc_33 _ (List.mem_of_getElem? (i := 17) rfl)
theorem k_796 : Cond.methodLink RL 117 yX8_rank ∈ wsL_law := kc_34 _ (List.mem_of_getElem? (i := 4) rfl)
theorem k_804 : Cond.methodLink RL 120 yX9_rank ∈ wsL_law := kc_34 _ (List.mem_of_getElem? (i := 12) rfl)
theorem k_808 : Cond.methodLink RL 121 yX8_best ∈ wsL_law := kc_34 _ (List.mem_of_getElem? (i := 16) rfl)
theorem k_826 : Cond.methodLink RL 124 yX9_best ∈ wsL_law := kc_35 _ (List.mem_of_getElem? (i := 10) rfl)
theorem k_830 : Cond.methodLink RL 125 yX8_draw ∈ wsL_law := kc_35 _ (List.mem_of_getElem? (i := 14) rfl)
theorem k_838 : Cond.methodLink RL 128 yX9_draw ∈ wsL_law := kc_35 _ (List.mem_of_getElem? (i := 22) rfl)
theorem k_843 : Cond.methodLink RL 129 yX8_same ∈ wsL_law := kc_36 _ (List.mem_of_getElem? (i := 3) rfl)
theorem k_851 : Cond.methodLink RL 132 yX9_same ∈ wsL_law := kc_36 _ (List.mem_of_getElem? (i := 11) rfl)
theorem k_855 : Cond.methodLink RL 133 yX8_chance ∈ wsL_law := kc_36 _ (List.mem_of_getElem? (i := 15) rfl)
theorem k_873 : Cond.methodLink RL 136 yX9_chance ∈ wsL_law := kc_37 _ (List.mem_of_getElem? (i := 9) rfl)
theorem k_882 : Cond.methodLink RL 137 yX8_matters ∈ wsL_law := kc_37 _ (List.mem_of_getElem? (i := 18) rfl)
theorem k_886 : Cond.methodLink RL 141 yX9_matters ∈ wsL_law := kc_37 _ (List.mem_of_getElem? (i := 22) rfl)
theorem k_890 : Cond.methodLink RL 142 yX8_turned ∈ wsL_law := kc_38 _ (List.mem_of_getElem? (i := 2) rfl)
theorem k_899 : Cond.methodLink RL 145 yX9_turned ∈ wsL_law := kc_38 _ (List.mem_of_getElem? (i := 11) rfl)
theorem k_903 : Cond.methodLink RL 146 yX8_write ∈ wsL_law := kc_38 _ (List.mem_of_getElem? (i := 15) rfl)
theorem k_907 : Cond.methodLink RL 149 yX9_write ∈ wsL_law := kc_38 _ (List.mem_of_getElem? (i := 19) rfl)
theorem k_929 : Cond.methodLink RL 150 yX8_row ∈ wsL_law := kc_39 _ (List.mem_of_getElem? (i := 17) rfl)
theorem k_935 : Cond.methodLink RL 153 yX9_row ∈ wsL_law := kc_39 _ (List.mem_of_getElem? (i := 23) rfl)
theorem k_939 : Cond.methodLink RL 154 yX8_forge ∈ wsL_law := kc_40 _ (List.mem_of_getElem? (i := 3) rfl)
theorem k_943 : Cond.methodLink RL 157 yX9_forge ∈ wsL_law := kc_40 _ (List.mem_of_getElem? (i := 7) rfl)
theorem k_947 : Cond.methodLink RL 158 yX8_check ∈ wsL_law := kc_40 _ (List.mem_of_getElem? (i := 11) rfl)
theorem k_970 : Cond.methodLink RL 161 yX9_check ∈ wsL_law := kc_41 _ (List.mem_of_getElem? (i := 10) rfl)
theorem k_986 : Cond.methodLink RL 162 yX8_sheet ∈ wsL_law := kc_42 _ (List.mem_of_getElem? (i := 2) rfl)
theorem k_998 : Cond.methodLink RL 165 yX9_sheet ∈ wsL_law := kc_42 _ (List.mem_of_getElem? (i := 14) rfl)
theorem k_1002 : Cond.methodLink RL 166 yX8_cell ∈ wsL_law := kc_42 _ (List.mem_of_getElem? (i := 18) rfl)
theorem k_1017 : Cond.methodLink RL 169 yX9_cell ∈ wsL_law := kc_43 _ (List.mem_of_getElem? (i := 9) rfl)
theorem k_1021 : Cond.methodLink RL 170 yX8_lay ∈ wsL_law := kc_43 _ (List.mem_of_getElem? (i := 13) rfl)
theorem k_1034 : Cond.methodLink RL 173 yX9_lay ∈ wsL_law := kc_44 _ (List.mem_of_getElem? (i := 2) rfl)
theorem k_1039 : Cond.methodLink RL 174 yX8_shelf ∈ wsL_law := kc_44 _ (List.mem_of_getElem? (i := 7) rfl)
theorem k_1053 : Cond.methodLink RL 177 yX9_shelf ∈ wsL_law := kc_44 _ (List.mem_of_getElem? (i := 21) rfl)
theorem k_1057 : Cond.methodLink RL 178 yX8_taken ∈ wsL_law := kc_45 _ (List.mem_of_getElem? (i := 1) rfl)
theorem k_1068 : Cond.methodLink RL 181 yX9_taken ∈ wsL_law := kc_45 _ (List.mem_of_getElem? (i := 12) rfl)
theorem k_1075 : Cond.methodLink RL 182 yX8_act ∈ wsL_law := kc_45 _ (List.mem_of_getElem? (i := 19) rfl)
theorem k_1104 : Cond.methodLink RL 185 yX9_act ∈ wsL_law := kc_47 _ (List.mem_of_getElem? (i := 0) rfl)
theorem k_1134 : Cond.methodLink RL 186 yX8_trace ∈ wsL_law := kc_48 _ (List.mem_of_getElem? (i := 6) rfl)
theorem k_1142 : Cond.methodLink RL 189 yX9_trace ∈ wsL_law := kc_48 _ (List.mem_of_getElem? (i := 14) rfl)
theorem k_1146 : Cond.methodLink RL 190 yX8_there ∈ wsL_law := kc_48 _ (List.mem_of_getElem? (i := 18) rfl)
theorem k_1152 : Cond.methodLink RL 193 yX9_there ∈ wsL_law := kc_49 _ (List.mem_of_getElem? (i := 0) rfl)
section LAWCASES
variable {p : Program} {l : Launch} {e : Env} {s : State} {m : MethodId} {args : Array Value} {below : List Frame} {meth : Method} {c : Code} {H : Heap} {locs : List Loc} {cells slots : Nat} {Q : State → Prop}
variable {ls : Array Slot} {D : va_G} {cy : Nat → ClassId} {q qr : Nat → Nat} {σ : DS} {τ : RS} {b L : Nat} {xs : Nat → Int32} {i : Int32}
def ST_post (I : DS → RS → Prop) : Prop := ∀ (σ : DS) (τ : RS), I σ τ → ∀ a1 : Int32, ∃ (r : Int32) (σ' : DS) (τ' : RS), (D8m_post σ a1 = some (r, σ')) ∧ (Rm_post τ a1 = some (r, τ')) ∧ I σ' τ'
set_option maxRecDepth 100000 in
set_option maxHeartbeats 4000000 in
theorem Lc_post (fx : FX p s m args meth c cL_law 4 RL D cy) (sb : SB s) (hX : va_X b L xs s s.heap) (hbl : b < s.heap.size) (hbA : ¬ s.heap.size ≤ b) (hC : LC D cy q qr s σ τ H locs) (hl : lv_has ls 4 [(0, .ref b), (1, .ref (q 0)), (2, .ref (qr 0)), (3, .int i)]) (hf : cells + 1 ≤ room_1.cells ∧ slots + 8 ≤ room_1.slots) (hv : ∀ k : Nat, k ≤ 4 → vp_in (i + Int32.ofNat k) L) {I : DS → RS → Prop} (hI : I σ τ) (st : ST_post I)
    (hk : ∀ (σ' : DS) (τ' : RS) (H1 : Heap) (locs1 : List Loc), I σ' τ' → LC D cy q qr s σ' τ' H1 locs1 → W p l e room_1 s m args below meth c H1 locs1 (cells + 1) (slots + 8) Q (F0 m 1670 ls [])) : W p l e room_1 s m args below meth c H locs cells slots Q (F0 m 220 ls []) := by
  have hx := fx.1
  have hb := fx.2.1
  have hf0 : cells ≤ room_1.cells ∧ slots ≤ room_1.slots := ⟨Nat.le_of_succ_le hf.1, Nat.le_trans (Nat.le_add_right _ 8) hf.2⟩
  obtain ⟨r, σ', τ', h1, h2, h3⟩ := st σ τ hI (xs (i + 1).toNatClampNeg)
  refine lv_aload_n hx hb dL_law_220 rfl (lv_at hl 1 rfl) ?_
  refine lv_aload_n hx hb dL_law_221 rfl (lv_at hl 0 rfl) ?_
  refine lv_iload_n hx hb dL_law_222 rfl (lv_at hl 3 rfl) ?_
  refine lv_iconst (v := (1 : Int32)) hx hb dL_law_223 (by decide) ?_
  refine lv_iadd hx hb dL_law_224 ?_
  refine va_sld hx hb hX hbl hbA hC.2.2 (hv 1 (by decide)) dL_law_225 ?_
  refine l_callD (As := [.int (xs (i + 1).toNatClampNeg)]) (rest := []) (res := some (.int r)) fx sb hC (D8c_post l σ (xs (i + 1).toNatClampNeg) h1) k_126 D8k_post D8h_post ⟨rfl, rfl⟩ ⟨Nat.le_of_ble_eq_true rfl, Nat.le_of_ble_eq_true rfl⟩ hf0 rfl hl.1 rfl (Nat.le_of_ble_eq_true rfl) dL_law_226 (fun H locs hC => ?_)
  refine W.eq (g2 := F0 m 229 ls [.int r]) rfl ?_
  refine lv_aload_n hx hb dL_law_229 rfl (lv_at hl 2 rfl) ?_
  refine lv_aload_n hx hb dL_law_230 rfl (lv_at hl 0 rfl) ?_
  refine lv_iload_n hx hb dL_law_231 rfl (lv_at hl 3 rfl) ?_
  refine lv_iconst (v := (1 : Int32)) hx hb dL_law_232 (by decide) ?_
  refine lv_iadd hx hb dL_law_233 ?_
  refine va_sld hx hb hX hbl hbA hC.2.2 (hv 1 (by decide)) dL_law_234 ?_
  refine l_callR (As := [.int (xs (i + 1).toNatClampNeg)]) (rest := [.int r]) (res := some (.int r)) fx hC (Rc_post l τ (xs (i + 1).toNatClampNeg) h2) k_135 Rk_post Rh_post ⟨rfl, rfl⟩ ⟨Nat.le_of_ble_eq_true rfl, Nat.le_of_ble_eq_true rfl⟩ hf0 rfl hl.1 rfl (Nat.le_of_ble_eq_true rfl) dL_law_235 (fun H locs hC => ?_)
  refine W.eq (g2 := F0 m 238 ls [.int r, .int r]) rfl ?_
  refine lv_icmp_eq (tgt := 1670) hx hb dL_law_238 (by decide) (fun _ => ?_) (fun c => absurd rfl c)
  exact W.widen (Nat.le_succ _) (Nat.le_add_right _ 8) (hk _ _ _ _ h3 hC)
def ST_road (I : DS → RS → Prop) : Prop := ∀ (σ : DS) (τ : RS), I σ τ → ∀ a1 a2 a3 : Int32, ∃ (r : Int32) (σ' : DS) (τ' : RS), (D8m_road σ a1 a2 a3 = some (r, σ')) ∧ (Rm_road τ a1 a2 a3 = some (r, τ')) ∧ I σ' τ'
set_option maxRecDepth 100000 in
set_option maxHeartbeats 4000000 in
theorem Lc_road (fx : FX p s m args meth c cL_law 4 RL D cy) (sb : SB s) (hX : va_X b L xs s s.heap) (hbl : b < s.heap.size) (hbA : ¬ s.heap.size ≤ b) (hC : LC D cy q qr s σ τ H locs) (hl : lv_has ls 4 [(0, .ref b), (1, .ref (q 0)), (2, .ref (qr 0)), (3, .int i)]) (hf : cells + 1 ≤ room_1.cells ∧ slots + 8 ≤ room_1.slots) (hv : ∀ k : Nat, k ≤ 4 → vp_in (i + Int32.ofNat k) L) {I : DS → RS → Prop} (hI : I σ τ) (st : ST_road I)
    (hk : ∀ (σ' : DS) (τ' : RS) (H1 : Heap) (locs1 : List Loc), I σ' τ' → LC D cy q qr s σ' τ' H1 locs1 → W p l e room_1 s m args below meth c H1 locs1 (cells + 1) (slots + 8) Q (F0 m 1670 ls [])) : W p l e room_1 s m args below meth c H locs cells slots Q (F0 m 243 ls []) := by
  have hx := fx.1
  have hb := fx.2.1
  have hf0 : cells ≤ room_1.cells ∧ slots ≤ room_1.slots := ⟨Nat.le_of_succ_le hf.1, Nat.le_trans (Nat.le_add_right _ 8) hf.2⟩
  obtain ⟨r, σ', τ', h1, h2, h3⟩ := st σ τ hI (xs (i + 1).toNatClampNeg) (xs (i + 2).toNatClampNeg) (xs (i + 3).toNatClampNeg)
  refine lv_aload_n hx hb dL_law_243 rfl (lv_at hl 1 rfl) ?_
  refine lv_aload_n hx hb dL_law_244 rfl (lv_at hl 0 rfl) ?_
  refine lv_iload_n hx hb dL_law_245 rfl (lv_at hl 3 rfl) ?_
  refine lv_iconst (v := (1 : Int32)) hx hb dL_law_246 (by decide) ?_
  refine lv_iadd hx hb dL_law_247 ?_
  refine va_sld hx hb hX hbl hbA hC.2.2 (hv 1 (by decide)) dL_law_248 ?_
  refine lv_aload_n hx hb dL_law_249 rfl (lv_at hl 0 rfl) ?_
  refine lv_iload_n hx hb dL_law_250 rfl (lv_at hl 3 rfl) ?_
  refine lv_iconst (v := (2 : Int32)) hx hb dL_law_251 (by decide) ?_
  refine lv_iadd hx hb dL_law_252 ?_
  refine va_sld hx hb hX hbl hbA hC.2.2 (hv 2 (by decide)) dL_law_253 ?_
  refine lv_aload_n hx hb dL_law_254 rfl (lv_at hl 0 rfl) ?_
  refine lv_iload_n hx hb dL_law_255 rfl (lv_at hl 3 rfl) ?_
  refine lv_iconst (v := (3 : Int32)) hx hb dL_law_256 (by decide) ?_
  refine lv_iadd hx hb dL_law_257 ?_
  refine va_sld hx hb hX hbl hbA hC.2.2 (hv 3 (by decide)) dL_law_258 ?_
  refine l_callD (As := [.int (xs (i + 1).toNatClampNeg), .int (xs (i + 2).toNatClampNeg), .int (xs (i + 3).toNatClampNeg)]) (rest := []) (res := some (.int r)) fx sb hC (D8c_road l σ (xs (i + 1).toNatClampNeg) (xs (i + 2).toNatClampNeg) (xs (i + 3).toNatClampNeg) h1) k_143 D8k_road D8h_road ⟨rfl, rfl⟩ ⟨Nat.le_of_ble_eq_true rfl, Nat.le_of_ble_eq_true rfl⟩ hf0 rfl hl.1 rfl (Nat.le_of_ble_eq_true rfl) dL_law_259 (fun H locs hC => ?_)
  refine W.eq (g2 := F0 m 262 ls [.int r]) rfl ?_
  refine lv_aload_n hx hb dL_law_262 rfl (lv_at hl 2 rfl) ?_
  refine lv_aload_n hx hb dL_law_263 rfl (lv_at hl 0 rfl) ?_
  refine lv_iload_n hx hb dL_law_264 rfl (lv_at hl 3 rfl) ?_
  refine lv_iconst (v := (1 : Int32)) hx hb dL_law_265 (by decide) ?_
  refine lv_iadd hx hb dL_law_266 ?_
  refine va_sld hx hb hX hbl hbA hC.2.2 (hv 1 (by decide)) dL_law_267 ?_
  refine lv_aload_n hx hb dL_law_268 rfl (lv_at hl 0 rfl) ?_
  refine lv_iload_n hx hb dL_law_269 rfl (lv_at hl 3 rfl) ?_
  refine lv_iconst (v := (2 : Int32)) hx hb dL_law_270 (by decide) ?_
  refine lv_iadd hx hb dL_law_271 ?_
  refine va_sld hx hb hX hbl hbA hC.2.2 (hv 2 (by decide)) dL_law_272 ?_
  refine lv_aload_n hx hb dL_law_273 rfl (lv_at hl 0 rfl) ?_
  refine lv_iload_n hx hb dL_law_274 rfl (lv_at hl 3 rfl) ?_
  refine lv_iconst (v := (3 : Int32)) hx hb dL_law_275 (by decide) ?_
  refine lv_iadd hx hb dL_law_276 ?_
  refine va_sld hx hb hX hbl hbA hC.2.2 (hv 3 (by decide)) dL_law_277 ?_
  refine l_callR (As := [.int (xs (i + 1).toNatClampNeg), .int (xs (i + 2).toNatClampNeg), .int (xs (i + 3).toNatClampNeg)]) (rest := [.int r]) (res := some (.int r)) fx hC (Rc_road l τ (xs (i + 1).toNatClampNeg) (xs (i + 2).toNatClampNeg) (xs (i + 3).toNatClampNeg) h2) k_167 Rk_road Rh_road ⟨rfl, rfl⟩ ⟨Nat.le_of_ble_eq_true rfl, Nat.le_of_ble_eq_true rfl⟩ hf0 rfl hl.1 rfl (Nat.le_of_ble_eq_true rfl) dL_law_278 (fun H locs hC => ?_)
  refine W.eq (g2 := F0 m 281 ls [.int r, .int r]) rfl ?_
  refine lv_icmp_eq (tgt := 1670) hx hb dL_law_281 (by decide) (fun _ => ?_) (fun c => absurd rfl c)
  exact W.widen (Nat.le_succ _) (Nat.le_add_right _ 8) (hk _ _ _ _ h3 hC)
def ST_odds (I : DS → RS → Prop) : Prop := ∀ (σ : DS) (τ : RS), I σ τ → ∀ a1 a2 : Int32, ∃ (r : Int32) (σ' : DS) (τ' : RS), (D8m_odds σ a1 a2 = some (r, σ')) ∧ (Rm_odds τ a1 a2 = some (r, τ')) ∧ I σ' τ'
set_option maxRecDepth 100000 in
set_option maxHeartbeats 4000000 in
theorem Lc_odds (fx : FX p s m args meth c cL_law 4 RL D cy) (sb : SB s) (hX : va_X b L xs s s.heap) (hbl : b < s.heap.size) (hbA : ¬ s.heap.size ≤ b) (hC : LC D cy q qr s σ τ H locs) (hl : lv_has ls 4 [(0, .ref b), (1, .ref (q 0)), (2, .ref (qr 0)), (3, .int i)]) (hf : cells + 1 ≤ room_1.cells ∧ slots + 8 ≤ room_1.slots) (hv : ∀ k : Nat, k ≤ 4 → vp_in (i + Int32.ofNat k) L) {I : DS → RS → Prop} (hI : I σ τ) (st : ST_odds I)
    (hk : ∀ (σ' : DS) (τ' : RS) (H1 : Heap) (locs1 : List Loc), I σ' τ' → LC D cy q qr s σ' τ' H1 locs1 → W p l e room_1 s m args below meth c H1 locs1 (cells + 1) (slots + 8) Q (F0 m 1670 ls [])) : W p l e room_1 s m args below meth c H locs cells slots Q (F0 m 286 ls []) := by
  have hx := fx.1
  have hb := fx.2.1
  have hf0 : cells ≤ room_1.cells ∧ slots ≤ room_1.slots := ⟨Nat.le_of_succ_le hf.1, Nat.le_trans (Nat.le_add_right _ 8) hf.2⟩
  obtain ⟨r, σ', τ', h1, h2, h3⟩ := st σ τ hI (xs (i + 1).toNatClampNeg) (xs (i + 2).toNatClampNeg)
  refine lv_aload_n hx hb dL_law_286 rfl (lv_at hl 1 rfl) ?_
  refine lv_aload_n hx hb dL_law_287 rfl (lv_at hl 0 rfl) ?_
  refine lv_iload_n hx hb dL_law_288 rfl (lv_at hl 3 rfl) ?_
  refine lv_iconst (v := (1 : Int32)) hx hb dL_law_289 (by decide) ?_
  refine lv_iadd hx hb dL_law_290 ?_
  refine va_sld hx hb hX hbl hbA hC.2.2 (hv 1 (by decide)) dL_law_291 ?_
  refine lv_aload_n hx hb dL_law_292 rfl (lv_at hl 0 rfl) ?_
  refine lv_iload_n hx hb dL_law_293 rfl (lv_at hl 3 rfl) ?_
  refine lv_iconst (v := (2 : Int32)) hx hb dL_law_294 (by decide) ?_
  refine lv_iadd hx hb dL_law_295 ?_
  refine va_sld hx hb hX hbl hbA hC.2.2 (hv 2 (by decide)) dL_law_296 ?_
  refine l_callD (As := [.int (xs (i + 1).toNatClampNeg), .int (xs (i + 2).toNatClampNeg)]) (rest := []) (res := some (.int r)) fx sb hC (D8c_odds l σ (xs (i + 1).toNatClampNeg) (xs (i + 2).toNatClampNeg) h1) k_172 D8k_odds D8h_odds ⟨rfl, rfl⟩ ⟨Nat.le_of_ble_eq_true rfl, Nat.le_of_ble_eq_true rfl⟩ hf0 rfl hl.1 rfl (Nat.le_of_ble_eq_true rfl) dL_law_297 (fun H locs hC => ?_)
  refine W.eq (g2 := F0 m 300 ls [.int r]) rfl ?_
  refine lv_aload_n hx hb dL_law_300 rfl (lv_at hl 2 rfl) ?_
  refine lv_aload_n hx hb dL_law_301 rfl (lv_at hl 0 rfl) ?_
  refine lv_iload_n hx hb dL_law_302 rfl (lv_at hl 3 rfl) ?_
  refine lv_iconst (v := (1 : Int32)) hx hb dL_law_303 (by decide) ?_
  refine lv_iadd hx hb dL_law_304 ?_
  refine va_sld hx hb hX hbl hbA hC.2.2 (hv 1 (by decide)) dL_law_305 ?_
  refine lv_aload_n hx hb dL_law_306 rfl (lv_at hl 0 rfl) ?_
  refine lv_iload_n hx hb dL_law_307 rfl (lv_at hl 3 rfl) ?_
  refine lv_iconst (v := (2 : Int32)) hx hb dL_law_308 (by decide) ?_
  refine lv_iadd hx hb dL_law_309 ?_
  refine va_sld hx hb hX hbl hbA hC.2.2 (hv 2 (by decide)) dL_law_310 ?_
  refine l_callR (As := [.int (xs (i + 1).toNatClampNeg), .int (xs (i + 2).toNatClampNeg)]) (rest := [.int r]) (res := some (.int r)) fx hC (Rc_odds l τ (xs (i + 1).toNatClampNeg) (xs (i + 2).toNatClampNeg) h2) k_181 Rk_odds Rh_odds ⟨rfl, rfl⟩ ⟨Nat.le_of_ble_eq_true rfl, Nat.le_of_ble_eq_true rfl⟩ hf0 rfl hl.1 rfl (Nat.le_of_ble_eq_true rfl) dL_law_311 (fun H locs hC => ?_)
  refine W.eq (g2 := F0 m 314 ls [.int r, .int r]) rfl ?_
  refine lv_icmp_eq (tgt := 1670) hx hb dL_law_314 (by decide) (fun _ => ?_) (fun c => absurd rfl c)
  exact W.widen (Nat.le_succ _) (Nat.le_add_right _ 8) (hk _ _ _ _ h3 hC)
def ST_roadOf (I : DS → RS → Prop) : Prop := ∀ (σ : DS) (τ : RS), I σ τ → ∀ a1 a2 : Int32, ∃ (r : Int32) (σ' : DS) (τ' : RS), (D8m_roadOf σ a1 a2 = some r ∧ σ' = σ) ∧ (Rm_roadOf τ a1 a2 = some r ∧ τ' = τ) ∧ I σ' τ'
set_option maxRecDepth 100000 in
set_option maxHeartbeats 4000000 in
theorem Lc_roadOf (fx : FX p s m args meth c cL_law 4 RL D cy) (sb : SB s) (hX : va_X b L xs s s.heap) (hbl : b < s.heap.size) (hbA : ¬ s.heap.size ≤ b) (hC : LC D cy q qr s σ τ H locs) (hl : lv_has ls 4 [(0, .ref b), (1, .ref (q 0)), (2, .ref (qr 0)), (3, .int i)]) (hf : cells + 1 ≤ room_1.cells ∧ slots + 8 ≤ room_1.slots) (hv : ∀ k : Nat, k ≤ 4 → vp_in (i + Int32.ofNat k) L) {I : DS → RS → Prop} (hI : I σ τ) (st : ST_roadOf I)
    (hk : ∀ (σ' : DS) (τ' : RS) (H1 : Heap) (locs1 : List Loc), I σ' τ' → LC D cy q qr s σ' τ' H1 locs1 → W p l e room_1 s m args below meth c H1 locs1 (cells + 1) (slots + 8) Q (F0 m 1670 ls [])) : W p l e room_1 s m args below meth c H locs cells slots Q (F0 m 319 ls []) := by
  have hx := fx.1
  have hb := fx.2.1
  have hf0 : cells ≤ room_1.cells ∧ slots ≤ room_1.slots := ⟨Nat.le_of_succ_le hf.1, Nat.le_trans (Nat.le_add_right _ 8) hf.2⟩
  obtain ⟨r, σ', τ', h1, h2, h3⟩ := st σ τ hI (xs (i + 1).toNatClampNeg) (xs (i + 2).toNatClampNeg)
  obtain ⟨h1, e1⟩ := h1
  rw [e1] at h3
  obtain ⟨h2, e2⟩ := h2
  rw [e2] at h3
  refine lv_aload_n hx hb dL_law_319 rfl (lv_at hl 1 rfl) ?_
  refine lv_aload_n hx hb dL_law_320 rfl (lv_at hl 0 rfl) ?_
  refine lv_iload_n hx hb dL_law_321 rfl (lv_at hl 3 rfl) ?_
  refine lv_iconst (v := (1 : Int32)) hx hb dL_law_322 (by decide) ?_
  refine lv_iadd hx hb dL_law_323 ?_
  refine va_sld hx hb hX hbl hbA hC.2.2 (hv 1 (by decide)) dL_law_324 ?_
  refine lv_aload_n hx hb dL_law_325 rfl (lv_at hl 0 rfl) ?_
  refine lv_iload_n hx hb dL_law_326 rfl (lv_at hl 3 rfl) ?_
  refine lv_iconst (v := (2 : Int32)) hx hb dL_law_327 (by decide) ?_
  refine lv_iadd hx hb dL_law_328 ?_
  refine va_sld hx hb hX hbl hbA hC.2.2 (hv 2 (by decide)) dL_law_329 ?_
  refine l_callD (As := [.int (xs (i + 1).toNatClampNeg), .int (xs (i + 2).toNatClampNeg)]) (rest := []) (res := some (.int r)) fx sb hC (D8c_roadOf l σ (xs (i + 1).toNatClampNeg) (xs (i + 2).toNatClampNeg) h1) k_185 D8k_roadOf D8h_roadOf ⟨rfl, rfl⟩ ⟨Nat.le_of_ble_eq_true rfl, Nat.le_of_ble_eq_true rfl⟩ hf0 rfl hl.1 rfl (Nat.le_of_ble_eq_true rfl) dL_law_330 (fun H locs hC => ?_)
  refine W.eq (g2 := F0 m 333 ls [.int r]) rfl ?_
  refine lv_aload_n hx hb dL_law_333 rfl (lv_at hl 2 rfl) ?_
  refine lv_aload_n hx hb dL_law_334 rfl (lv_at hl 0 rfl) ?_
  refine lv_iload_n hx hb dL_law_335 rfl (lv_at hl 3 rfl) ?_
  refine lv_iconst (v := (1 : Int32)) hx hb dL_law_336 (by decide) ?_
  refine lv_iadd hx hb dL_law_337 ?_
  refine va_sld hx hb hX hbl hbA hC.2.2 (hv 1 (by decide)) dL_law_338 ?_
  refine lv_aload_n hx hb dL_law_339 rfl (lv_at hl 0 rfl) ?_
  refine lv_iload_n hx hb dL_law_340 rfl (lv_at hl 3 rfl) ?_
  refine lv_iconst (v := (2 : Int32)) hx hb dL_law_341 (by decide) ?_
  refine lv_iadd hx hb dL_law_342 ?_
  refine va_sld hx hb hX hbl hbA hC.2.2 (hv 2 (by decide)) dL_law_343 ?_
  refine l_callR (As := [.int (xs (i + 1).toNatClampNeg), .int (xs (i + 2).toNatClampNeg)]) (rest := [.int r]) (res := some (.int r)) fx hC (Rc_roadOf l τ (xs (i + 1).toNatClampNeg) (xs (i + 2).toNatClampNeg) h2) k_192 Rk_roadOf Rh_roadOf ⟨rfl, rfl⟩ ⟨Nat.le_of_ble_eq_true rfl, Nat.le_of_ble_eq_true rfl⟩ hf0 rfl hl.1 rfl (Nat.le_of_ble_eq_true rfl) dL_law_344 (fun H locs hC => ?_)
  refine W.eq (g2 := F0 m 347 ls [.int r, .int r]) rfl ?_
  refine lv_icmp_eq (tgt := 1670) hx hb dL_law_347 (by decide) (fun _ => ?_) (fun c => absurd rfl c)
  exact W.widen (Nat.le_succ _) (Nat.le_add_right _ 8) (hk _ _ _ _ h3 hC)
def ST_tell (I : DS → RS → Prop) : Prop := ∀ (σ : DS) (τ : RS), I σ τ → ∀ a1 : Int32, ∃ (r : Int32) (σ' : DS) (τ' : RS), (D8m_tell σ a1 = some (r, σ')) ∧ (Rm_tell τ a1 = some (r, τ')) ∧ I σ' τ'
set_option maxRecDepth 100000 in
set_option maxHeartbeats 4000000 in
theorem Lc_tell (fx : FX p s m args meth c cL_law 4 RL D cy) (sb : SB s) (hX : va_X b L xs s s.heap) (hbl : b < s.heap.size) (hbA : ¬ s.heap.size ≤ b) (hC : LC D cy q qr s σ τ H locs) (hl : lv_has ls 4 [(0, .ref b), (1, .ref (q 0)), (2, .ref (qr 0)), (3, .int i)]) (hf : cells + 1 ≤ room_1.cells ∧ slots + 8 ≤ room_1.slots) (hv : ∀ k : Nat, k ≤ 4 → vp_in (i + Int32.ofNat k) L) {I : DS → RS → Prop} (hI : I σ τ) (st : ST_tell I)
    (hk : ∀ (σ' : DS) (τ' : RS) (H1 : Heap) (locs1 : List Loc), I σ' τ' → LC D cy q qr s σ' τ' H1 locs1 → W p l e room_1 s m args below meth c H1 locs1 (cells + 1) (slots + 8) Q (F0 m 1670 ls [])) : W p l e room_1 s m args below meth c H locs cells slots Q (F0 m 352 ls []) := by
  have hx := fx.1
  have hb := fx.2.1
  have hf0 : cells ≤ room_1.cells ∧ slots ≤ room_1.slots := ⟨Nat.le_of_succ_le hf.1, Nat.le_trans (Nat.le_add_right _ 8) hf.2⟩
  obtain ⟨r, σ', τ', h1, h2, h3⟩ := st σ τ hI (xs (i + 1).toNatClampNeg)
  refine lv_aload_n hx hb dL_law_352 rfl (lv_at hl 1 rfl) ?_
  refine lv_aload_n hx hb dL_law_353 rfl (lv_at hl 0 rfl) ?_
  refine lv_iload_n hx hb dL_law_354 rfl (lv_at hl 3 rfl) ?_
  refine lv_iconst (v := (1 : Int32)) hx hb dL_law_355 (by decide) ?_
  refine lv_iadd hx hb dL_law_356 ?_
  refine va_sld hx hb hX hbl hbA hC.2.2 (hv 1 (by decide)) dL_law_357 ?_
  refine l_callD (As := [.int (xs (i + 1).toNatClampNeg)]) (rest := []) (res := some (.int r)) fx sb hC (D8c_tell l σ (xs (i + 1).toNatClampNeg) h1) k_196 D8k_tell D8h_tell ⟨rfl, rfl⟩ ⟨Nat.le_of_ble_eq_true rfl, Nat.le_of_ble_eq_true rfl⟩ hf0 rfl hl.1 rfl (Nat.le_of_ble_eq_true rfl) dL_law_358 (fun H locs hC => ?_)
  refine W.eq (g2 := F0 m 361 ls [.int r]) rfl ?_
  refine lv_aload_n hx hb dL_law_361 rfl (lv_at hl 2 rfl) ?_
  refine lv_aload_n hx hb dL_law_362 rfl (lv_at hl 0 rfl) ?_
  refine lv_iload_n hx hb dL_law_363 rfl (lv_at hl 3 rfl) ?_
  refine lv_iconst (v := (1 : Int32)) hx hb dL_law_364 (by decide) ?_
  refine lv_iadd hx hb dL_law_365 ?_
  refine va_sld hx hb hX hbl hbA hC.2.2 (hv 1 (by decide)) dL_law_366 ?_
  refine l_callR (As := [.int (xs (i + 1).toNatClampNeg)]) (rest := [.int r]) (res := some (.int r)) fx hC (Rc_tell l τ (xs (i + 1).toNatClampNeg) h2) k_228 Rk_tell Rh_tell ⟨rfl, rfl⟩ ⟨Nat.le_of_ble_eq_true rfl, Nat.le_of_ble_eq_true rfl⟩ hf0 rfl hl.1 rfl (Nat.le_of_ble_eq_true rfl) dL_law_367 (fun H locs hC => ?_)
  refine W.eq (g2 := F0 m 370 ls [.int r, .int r]) rfl ?_
  refine lv_icmp_eq (tgt := 1670) hx hb dL_law_370 (by decide) (fun _ => ?_) (fun c => absurd rfl c)
  exact W.widen (Nat.le_succ _) (Nat.le_add_right _ 8) (hk _ _ _ _ h3 hC)
def ST_all (I : DS → RS → Prop) : Prop := ∀ (σ : DS) (τ : RS), I σ τ → ∀ a1 : Int32, ∃ (r : Int32) (σ' : DS) (τ' : RS), (D8m_all σ a1 = some (r, σ')) ∧ (Rm_all τ a1 = some (r, τ')) ∧ I σ' τ'
set_option maxRecDepth 100000 in
set_option maxHeartbeats 4000000 in
theorem Lc_all (fx : FX p s m args meth c cL_law 4 RL D cy) (sb : SB s) (hX : va_X b L xs s s.heap) (hbl : b < s.heap.size) (hbA : ¬ s.heap.size ≤ b) (hC : LC D cy q qr s σ τ H locs) (hl : lv_has ls 4 [(0, .ref b), (1, .ref (q 0)), (2, .ref (qr 0)), (3, .int i)]) (hf : cells + 1 ≤ room_1.cells ∧ slots + 8 ≤ room_1.slots) (hv : ∀ k : Nat, k ≤ 4 → vp_in (i + Int32.ofNat k) L) {I : DS → RS → Prop} (hI : I σ τ) (st : ST_all I)
    (hk : ∀ (σ' : DS) (τ' : RS) (H1 : Heap) (locs1 : List Loc), I σ' τ' → LC D cy q qr s σ' τ' H1 locs1 → W p l e room_1 s m args below meth c H1 locs1 (cells + 1) (slots + 8) Q (F0 m 1670 ls [])) : W p l e room_1 s m args below meth c H locs cells slots Q (F0 m 375 ls []) := by
  have hx := fx.1
  have hb := fx.2.1
  have hf0 : cells ≤ room_1.cells ∧ slots ≤ room_1.slots := ⟨Nat.le_of_succ_le hf.1, Nat.le_trans (Nat.le_add_right _ 8) hf.2⟩
  obtain ⟨r, σ', τ', h1, h2, h3⟩ := st σ τ hI (xs (i + 1).toNatClampNeg)
  refine lv_aload_n hx hb dL_law_375 rfl (lv_at hl 1 rfl) ?_
  refine lv_aload_n hx hb dL_law_376 rfl (lv_at hl 0 rfl) ?_
  refine lv_iload_n hx hb dL_law_377 rfl (lv_at hl 3 rfl) ?_
  refine lv_iconst (v := (1 : Int32)) hx hb dL_law_378 (by decide) ?_
  refine lv_iadd hx hb dL_law_379 ?_
  refine va_sld hx hb hX hbl hbA hC.2.2 (hv 1 (by decide)) dL_law_380 ?_
  refine l_callD (As := [.int (xs (i + 1).toNatClampNeg)]) (rest := []) (res := some (.int r)) fx sb hC (D8c_all l σ (xs (i + 1).toNatClampNeg) h1) k_245 D8k_all D8h_all ⟨rfl, rfl⟩ ⟨Nat.le_of_ble_eq_true rfl, Nat.le_of_ble_eq_true rfl⟩ hf0 rfl hl.1 rfl (Nat.le_of_ble_eq_true rfl) dL_law_381 (fun H locs hC => ?_)
  refine W.eq (g2 := F0 m 384 ls [.int r]) rfl ?_
  refine lv_aload_n hx hb dL_law_384 rfl (lv_at hl 2 rfl) ?_
  refine lv_aload_n hx hb dL_law_385 rfl (lv_at hl 0 rfl) ?_
  refine lv_iload_n hx hb dL_law_386 rfl (lv_at hl 3 rfl) ?_
  refine lv_iconst (v := (1 : Int32)) hx hb dL_law_387 (by decide) ?_
  refine lv_iadd hx hb dL_law_388 ?_
  refine va_sld hx hb hX hbl hbA hC.2.2 (hv 1 (by decide)) dL_law_389 ?_
  refine l_callR (As := [.int (xs (i + 1).toNatClampNeg)]) (rest := [.int r]) (res := some (.int r)) fx hC (Rc_all l τ (xs (i + 1).toNatClampNeg) h2) k_262 Rk_all Rh_all ⟨rfl, rfl⟩ ⟨Nat.le_of_ble_eq_true rfl, Nat.le_of_ble_eq_true rfl⟩ hf0 rfl hl.1 rfl (Nat.le_of_ble_eq_true rfl) dL_law_390 (fun H locs hC => ?_)
  refine W.eq (g2 := F0 m 393 ls [.int r, .int r]) rfl ?_
  refine lv_icmp_eq (tgt := 1670) hx hb dL_law_393 (by decide) (fun _ => ?_) (fun c => absurd rfl c)
  exact W.widen (Nat.le_succ _) (Nat.le_add_right _ 8) (hk _ _ _ _ h3 hC)
def ST_paths (I : DS → RS → Prop) : Prop := ∀ (σ : DS) (τ : RS), I σ τ → ∀ a1 a2 a3 : Int32, (a3 = 0 ∨ a3 = 1) → ∃ (r : Int32) (σ' : DS) (τ' : RS), (D8m_paths σ a1 a2 a3 = some (r, σ')) ∧ (Rm_paths τ a1 a2 a3 = some (r, τ')) ∧ I σ' τ'
set_option maxRecDepth 100000 in
set_option maxHeartbeats 4000000 in
theorem Lc_paths (fx : FX p s m args meth c cL_law 4 RL D cy) (sb : SB s) (hX : va_X b L xs s s.heap) (hbl : b < s.heap.size) (hbA : ¬ s.heap.size ≤ b) (hC : LC D cy q qr s σ τ H locs) (hl : lv_has ls 4 [(0, .ref b), (1, .ref (q 0)), (2, .ref (qr 0)), (3, .int i)]) (hf : cells + 1 ≤ room_1.cells ∧ slots + 8 ≤ room_1.slots) (hv : ∀ k : Nat, k ≤ 4 → vp_in (i + Int32.ofNat k) L) {I : DS → RS → Prop} (hI : I σ τ) (st : ST_paths I)
    (hk : ∀ (σ' : DS) (τ' : RS) (H1 : Heap) (locs1 : List Loc), I σ' τ' → LC D cy q qr s σ' τ' H1 locs1 → W p l e room_1 s m args below meth c H1 locs1 (cells + 1) (slots + 8) Q (F0 m 1670 ls [])) : W p l e room_1 s m args below meth c H locs cells slots Q (F0 m 398 ls []) := by
  have hx := fx.1
  have hb := fx.2.1
  have hf0 : cells ≤ room_1.cells ∧ slots ≤ room_1.slots := ⟨Nat.le_of_succ_le hf.1, Nat.le_trans (Nat.le_add_right _ 8) hf.2⟩
  obtain ⟨r, σ', τ', h1, h2, h3⟩ := st σ τ hI (xs (i + 1).toNatClampNeg) (xs (i + 2).toNatClampNeg) (bl (xs (i + 3).toNatClampNeg)) (bl_01 _)
  refine lv_aload_n hx hb dL_law_398 rfl (lv_at hl 1 rfl) ?_
  refine lv_aload_n hx hb dL_law_399 rfl (lv_at hl 0 rfl) ?_
  refine lv_iload_n hx hb dL_law_400 rfl (lv_at hl 3 rfl) ?_
  refine lv_iconst (v := (1 : Int32)) hx hb dL_law_401 (by decide) ?_
  refine lv_iadd hx hb dL_law_402 ?_
  refine va_sld hx hb hX hbl hbA hC.2.2 (hv 1 (by decide)) dL_law_403 ?_
  refine lv_aload_n hx hb dL_law_404 rfl (lv_at hl 0 rfl) ?_
  refine lv_iload_n hx hb dL_law_405 rfl (lv_at hl 3 rfl) ?_
  refine lv_iconst (v := (2 : Int32)) hx hb dL_law_406 (by decide) ?_
  refine lv_iadd hx hb dL_law_407 ?_
  refine va_sld hx hb hX hbl hbA hC.2.2 (hv 2 (by decide)) dL_law_408 ?_
  refine lv_aload_n hx hb dL_law_409 rfl (lv_at hl 0 rfl) ?_
  refine lv_iload_n hx hb dL_law_410 rfl (lv_at hl 3 rfl) ?_
  refine lv_iconst (v := (3 : Int32)) hx hb dL_law_411 (by decide) ?_
  refine lv_iadd hx hb dL_law_412 ?_
  refine va_sld hx hb hX hbl hbA hC.2.2 (hv 3 (by decide)) dL_law_413 ?_
  refine l_bool hx hb dL_law_414 dL_law_417 dL_law_418 dL_law_421 ?_
  refine l_callA (As := [.int (xs (i + 1).toNatClampNeg), .int (xs (i + 2).toNatClampNeg), .int (bl (xs (i + 3).toNatClampNeg))]) (rest := []) (res := some (.int r)) fx sb hC (D8c_paths l _ σ (xs (i + 1).toNatClampNeg) (xs (i + 2).toNatClampNeg) (bl (xs (i + 3).toNatClampNeg)) h1) k_266 D8k_paths D8h_paths ⟨rfl, rfl⟩ ⟨Nat.le_of_ble_eq_true rfl, Nat.le_of_ble_eq_true rfl⟩ hf rfl hl.1 rfl (Nat.le_of_ble_eq_true rfl) dL_law_422 (fun H locs hC => ?_)
  refine W.eq (g2 := F0 m 425 ls [.int r]) rfl ?_
  refine lv_aload_n hx hb dL_law_425 rfl (lv_at hl 2 rfl) ?_
  refine lv_aload_n hx hb dL_law_426 rfl (lv_at hl 0 rfl) ?_
  refine lv_iload_n hx hb dL_law_427 rfl (lv_at hl 3 rfl) ?_
  refine lv_iconst (v := (1 : Int32)) hx hb dL_law_428 (by decide) ?_
  refine lv_iadd hx hb dL_law_429 ?_
  refine va_sld hx hb hX hbl hbA hC.2.2 (hv 1 (by decide)) dL_law_430 ?_
  refine lv_aload_n hx hb dL_law_431 rfl (lv_at hl 0 rfl) ?_
  refine lv_iload_n hx hb dL_law_432 rfl (lv_at hl 3 rfl) ?_
  refine lv_iconst (v := (2 : Int32)) hx hb dL_law_433 (by decide) ?_
  refine lv_iadd hx hb dL_law_434 ?_
  refine va_sld hx hb hX hbl hbA hC.2.2 (hv 2 (by decide)) dL_law_435 ?_
  refine lv_aload_n hx hb dL_law_436 rfl (lv_at hl 0 rfl) ?_
  refine lv_iload_n hx hb dL_law_437 rfl (lv_at hl 3 rfl) ?_
  refine lv_iconst (v := (3 : Int32)) hx hb dL_law_438 (by decide) ?_
  refine lv_iadd hx hb dL_law_439 ?_
  refine va_sld hx hb hX hbl hbA hC.2.2 (hv 3 (by decide)) dL_law_440 ?_
  refine l_bool hx hb dL_law_441 dL_law_444 dL_law_445 dL_law_448 ?_
  refine l_callR (As := [.int (xs (i + 1).toNatClampNeg), .int (xs (i + 2).toNatClampNeg), .int (bl (xs (i + 3).toNatClampNeg))]) (rest := [.int r]) (res := some (.int r)) fx hC (Rc_paths l τ (xs (i + 1).toNatClampNeg) (xs (i + 2).toNatClampNeg) (bl (xs (i + 3).toNatClampNeg)) h2) k_307 Rk_paths Rh_paths ⟨rfl, rfl⟩ ⟨Nat.le_of_ble_eq_true rfl, Nat.le_of_ble_eq_true rfl⟩ hf rfl hl.1 rfl (Nat.le_of_ble_eq_true rfl) dL_law_449 (fun H locs hC => ?_)
  refine W.eq (g2 := F0 m 452 ls [.int r, .int r]) rfl ?_
  refine lv_icmp_eq (tgt := 1670) hx hb dL_law_452 (by decide) (fun _ => ?_) (fun c => absurd rfl c)
  exact hk _ _ _ _ h3 hC
def ST_rounds (I : DS → RS → Prop) : Prop := ∀ (σ : DS) (τ : RS), I σ τ → ∀ a1 : Int32, (a1 = 0 ∨ a1 = 1) → ∃ (r : Int32) (σ' : DS) (τ' : RS), (D8m_rounds σ a1 = some (r, σ')) ∧ (Rm_rounds τ a1 = some (r, τ')) ∧ I σ' τ'
set_option maxRecDepth 100000 in
set_option maxHeartbeats 4000000 in
theorem Lc_rounds (fx : FX p s m args meth c cL_law 4 RL D cy) (sb : SB s) (hX : va_X b L xs s s.heap) (hbl : b < s.heap.size) (hbA : ¬ s.heap.size ≤ b) (hC : LC D cy q qr s σ τ H locs) (hl : lv_has ls 4 [(0, .ref b), (1, .ref (q 0)), (2, .ref (qr 0)), (3, .int i)]) (hf : cells + 1 ≤ room_1.cells ∧ slots + 8 ≤ room_1.slots) (hv : ∀ k : Nat, k ≤ 4 → vp_in (i + Int32.ofNat k) L) {I : DS → RS → Prop} (hI : I σ τ) (st : ST_rounds I)
    (hk : ∀ (σ' : DS) (τ' : RS) (H1 : Heap) (locs1 : List Loc), I σ' τ' → LC D cy q qr s σ' τ' H1 locs1 → W p l e room_1 s m args below meth c H1 locs1 (cells + 1) (slots + 8) Q (F0 m 1670 ls [])) : W p l e room_1 s m args below meth c H locs cells slots Q (F0 m 457 ls []) := by
  have hx := fx.1
  have hb := fx.2.1
  have hf0 : cells ≤ room_1.cells ∧ slots ≤ room_1.slots := ⟨Nat.le_of_succ_le hf.1, Nat.le_trans (Nat.le_add_right _ 8) hf.2⟩
  obtain ⟨r, σ', τ', h1, h2, h3⟩ := st σ τ hI (bl (xs (i + 1).toNatClampNeg)) (bl_01 _)
  refine lv_aload_n hx hb dL_law_457 rfl (lv_at hl 1 rfl) ?_
  refine lv_aload_n hx hb dL_law_458 rfl (lv_at hl 0 rfl) ?_
  refine lv_iload_n hx hb dL_law_459 rfl (lv_at hl 3 rfl) ?_
  refine lv_iconst (v := (1 : Int32)) hx hb dL_law_460 (by decide) ?_
  refine lv_iadd hx hb dL_law_461 ?_
  refine va_sld hx hb hX hbl hbA hC.2.2 (hv 1 (by decide)) dL_law_462 ?_
  refine l_bool hx hb dL_law_463 dL_law_466 dL_law_467 dL_law_470 ?_
  refine l_callA (As := [.int (bl (xs (i + 1).toNatClampNeg))]) (rest := []) (res := some (.int r)) fx sb hC (D8c_rounds l _ σ (bl (xs (i + 1).toNatClampNeg)) h1) k_330 D8k_rounds D8h_rounds ⟨rfl, rfl⟩ ⟨Nat.le_of_ble_eq_true rfl, Nat.le_of_ble_eq_true rfl⟩ hf rfl hl.1 rfl (Nat.le_of_ble_eq_true rfl) dL_law_471 (fun H locs hC => ?_)
  refine W.eq (g2 := F0 m 474 ls [.int r]) rfl ?_
  refine lv_aload_n hx hb dL_law_474 rfl (lv_at hl 2 rfl) ?_
  refine lv_aload_n hx hb dL_law_475 rfl (lv_at hl 0 rfl) ?_
  refine lv_iload_n hx hb dL_law_476 rfl (lv_at hl 3 rfl) ?_
  refine lv_iconst (v := (1 : Int32)) hx hb dL_law_477 (by decide) ?_
  refine lv_iadd hx hb dL_law_478 ?_
  refine va_sld hx hb hX hbl hbA hC.2.2 (hv 1 (by decide)) dL_law_479 ?_
  refine l_bool hx hb dL_law_480 dL_law_483 dL_law_484 dL_law_487 ?_
  refine l_callR (As := [.int (bl (xs (i + 1).toNatClampNeg))]) (rest := [.int r]) (res := some (.int r)) fx hC (Rc_rounds l τ (bl (xs (i + 1).toNatClampNeg)) h2) k_339 Rk_rounds Rh_rounds ⟨rfl, rfl⟩ ⟨Nat.le_of_ble_eq_true rfl, Nat.le_of_ble_eq_true rfl⟩ hf rfl hl.1 rfl (Nat.le_of_ble_eq_true rfl) dL_law_488 (fun H locs hC => ?_)
  refine W.eq (g2 := F0 m 491 ls [.int r, .int r]) rfl ?_
  refine lv_icmp_eq (tgt := 1670) hx hb dL_law_491 (by decide) (fun _ => ?_) (fun c => absurd rfl c)
  exact hk _ _ _ _ h3 hC
def ST_trees (I : DS → RS → Prop) : Prop := ∀ (σ : DS) (τ : RS), I σ τ → ∀ a1 : Int32, ∃ (r : Int32) (σ' : DS) (τ' : RS), (D8m_trees σ a1 = some (r, σ')) ∧ (Rm_trees τ a1 = some (r, τ')) ∧ I σ' τ'
set_option maxRecDepth 100000 in
set_option maxHeartbeats 4000000 in
theorem Lc_trees (fx : FX p s m args meth c cL_law 4 RL D cy) (sb : SB s) (hX : va_X b L xs s s.heap) (hbl : b < s.heap.size) (hbA : ¬ s.heap.size ≤ b) (hC : LC D cy q qr s σ τ H locs) (hl : lv_has ls 4 [(0, .ref b), (1, .ref (q 0)), (2, .ref (qr 0)), (3, .int i)]) (hf : cells + 1 ≤ room_1.cells ∧ slots + 8 ≤ room_1.slots) (hv : ∀ k : Nat, k ≤ 4 → vp_in (i + Int32.ofNat k) L) {I : DS → RS → Prop} (hI : I σ τ) (st : ST_trees I)
    (hk : ∀ (σ' : DS) (τ' : RS) (H1 : Heap) (locs1 : List Loc), I σ' τ' → LC D cy q qr s σ' τ' H1 locs1 → W p l e room_1 s m args below meth c H1 locs1 (cells + 1) (slots + 8) Q (F0 m 1670 ls [])) : W p l e room_1 s m args below meth c H locs cells slots Q (F0 m 496 ls []) := by
  have hx := fx.1
  have hb := fx.2.1
  have hf0 : cells ≤ room_1.cells ∧ slots ≤ room_1.slots := ⟨Nat.le_of_succ_le hf.1, Nat.le_trans (Nat.le_add_right _ 8) hf.2⟩
  obtain ⟨r, σ', τ', h1, h2, h3⟩ := st σ τ hI (xs (i + 1).toNatClampNeg)
  refine lv_aload_n hx hb dL_law_496 rfl (lv_at hl 1 rfl) ?_
  refine lv_aload_n hx hb dL_law_497 rfl (lv_at hl 0 rfl) ?_
  refine lv_iload_n hx hb dL_law_498 rfl (lv_at hl 3 rfl) ?_
  refine lv_iconst (v := (1 : Int32)) hx hb dL_law_499 (by decide) ?_
  refine lv_iadd hx hb dL_law_500 ?_
  refine va_sld hx hb hX hbl hbA hC.2.2 (hv 1 (by decide)) dL_law_501 ?_
  refine l_callA (As := [.int (xs (i + 1).toNatClampNeg)]) (rest := []) (res := some (.int r)) fx sb hC (D8c_trees l _ σ (xs (i + 1).toNatClampNeg) h1) k_343 D8k_trees D8h_trees ⟨rfl, rfl⟩ ⟨Nat.le_of_ble_eq_true rfl, Nat.le_of_ble_eq_true rfl⟩ hf rfl hl.1 rfl (Nat.le_of_ble_eq_true rfl) dL_law_502 (fun H locs hC => ?_)
  refine W.eq (g2 := F0 m 505 ls [.int r]) rfl ?_
  refine lv_aload_n hx hb dL_law_505 rfl (lv_at hl 2 rfl) ?_
  refine lv_aload_n hx hb dL_law_506 rfl (lv_at hl 0 rfl) ?_
  refine lv_iload_n hx hb dL_law_507 rfl (lv_at hl 3 rfl) ?_
  refine lv_iconst (v := (1 : Int32)) hx hb dL_law_508 (by decide) ?_
  refine lv_iadd hx hb dL_law_509 ?_
  refine va_sld hx hb hX hbl hbA hC.2.2 (hv 1 (by decide)) dL_law_510 ?_
  refine l_callR (As := [.int (xs (i + 1).toNatClampNeg)]) (rest := [.int r]) (res := some (.int r)) fx hC (Rc_trees l τ (xs (i + 1).toNatClampNeg) h2) k_383 Rk_trees Rh_trees ⟨rfl, rfl⟩ ⟨Nat.le_of_ble_eq_true rfl, Nat.le_of_ble_eq_true rfl⟩ hf rfl hl.1 rfl (Nat.le_of_ble_eq_true rfl) dL_law_511 (fun H locs hC => ?_)
  refine W.eq (g2 := F0 m 514 ls [.int r, .int r]) rfl ?_
  refine lv_icmp_eq (tgt := 1670) hx hb dL_law_514 (by decide) (fun _ => ?_) (fun c => absurd rfl c)
  exact hk _ _ _ _ h3 hC
def ST_pairs (I : DS → RS → Prop) : Prop := ∀ (σ : DS) (τ : RS), I σ τ → ∀ a1 : Int32, (a1 = 0 ∨ a1 = 1) → ∃ (r : Int32) (σ' : DS) (τ' : RS), (D8m_pairs σ a1 = some (r, σ')) ∧ (Rm_pairs τ a1 = some (r, τ')) ∧ I σ' τ'
set_option maxRecDepth 100000 in
set_option maxHeartbeats 4000000 in
theorem Lc_pairs (fx : FX p s m args meth c cL_law 4 RL D cy) (sb : SB s) (hX : va_X b L xs s s.heap) (hbl : b < s.heap.size) (hbA : ¬ s.heap.size ≤ b) (hC : LC D cy q qr s σ τ H locs) (hl : lv_has ls 4 [(0, .ref b), (1, .ref (q 0)), (2, .ref (qr 0)), (3, .int i)]) (hf : cells + 1 ≤ room_1.cells ∧ slots + 8 ≤ room_1.slots) (hv : ∀ k : Nat, k ≤ 4 → vp_in (i + Int32.ofNat k) L) {I : DS → RS → Prop} (hI : I σ τ) (st : ST_pairs I)
    (hk : ∀ (σ' : DS) (τ' : RS) (H1 : Heap) (locs1 : List Loc), I σ' τ' → LC D cy q qr s σ' τ' H1 locs1 → W p l e room_1 s m args below meth c H1 locs1 (cells + 1) (slots + 8) Q (F0 m 1670 ls [])) : W p l e room_1 s m args below meth c H locs cells slots Q (F0 m 519 ls []) := by
  have hx := fx.1
  have hb := fx.2.1
  have hf0 : cells ≤ room_1.cells ∧ slots ≤ room_1.slots := ⟨Nat.le_of_succ_le hf.1, Nat.le_trans (Nat.le_add_right _ 8) hf.2⟩
  obtain ⟨r, σ', τ', h1, h2, h3⟩ := st σ τ hI (bl (xs (i + 1).toNatClampNeg)) (bl_01 _)
  refine lv_aload_n hx hb dL_law_519 rfl (lv_at hl 1 rfl) ?_
  refine lv_aload_n hx hb dL_law_520 rfl (lv_at hl 0 rfl) ?_
  refine lv_iload_n hx hb dL_law_521 rfl (lv_at hl 3 rfl) ?_
  refine lv_iconst (v := (1 : Int32)) hx hb dL_law_522 (by decide) ?_
  refine lv_iadd hx hb dL_law_523 ?_
  refine va_sld hx hb hX hbl hbA hC.2.2 (hv 1 (by decide)) dL_law_524 ?_
  refine l_bool hx hb dL_law_525 dL_law_528 dL_law_529 dL_law_532 ?_
  refine l_callA (As := [.int (bl (xs (i + 1).toNatClampNeg))]) (rest := []) (res := some (.int r)) fx sb hC (D8c_pairs l _ σ (bl (xs (i + 1).toNatClampNeg)) h1) k_394 D8k_pairs D8h_pairs ⟨rfl, rfl⟩ ⟨Nat.le_of_ble_eq_true rfl, Nat.le_of_ble_eq_true rfl⟩ hf rfl hl.1 rfl (Nat.le_of_ble_eq_true rfl) dL_law_533 (fun H locs hC => ?_)
  refine W.eq (g2 := F0 m 536 ls [.int r]) rfl ?_
  refine lv_aload_n hx hb dL_law_536 rfl (lv_at hl 2 rfl) ?_
  refine lv_aload_n hx hb dL_law_537 rfl (lv_at hl 0 rfl) ?_
  refine lv_iload_n hx hb dL_law_538 rfl (lv_at hl 3 rfl) ?_
  refine lv_iconst (v := (1 : Int32)) hx hb dL_law_539 (by decide) ?_
  refine lv_iadd hx hb dL_law_540 ?_
  refine va_sld hx hb hX hbl hbA hC.2.2 (hv 1 (by decide)) dL_law_541 ?_
  refine l_bool hx hb dL_law_542 dL_law_545 dL_law_546 dL_law_549 ?_
  refine l_callR (As := [.int (bl (xs (i + 1).toNatClampNeg))]) (rest := [.int r]) (res := some (.int r)) fx hC (Rc_pairs l τ (bl (xs (i + 1).toNatClampNeg)) h2) k_406 Rk_pairs Rh_pairs ⟨rfl, rfl⟩ ⟨Nat.le_of_ble_eq_true rfl, Nat.le_of_ble_eq_true rfl⟩ hf rfl hl.1 rfl (Nat.le_of_ble_eq_true rfl) dL_law_550 (fun H locs hC => ?_)
  refine W.eq (g2 := F0 m 553 ls [.int r, .int r]) rfl ?_
  refine lv_icmp_eq (tgt := 1670) hx hb dL_law_553 (by decide) (fun _ => ?_) (fun c => absurd rfl c)
  exact hk _ _ _ _ h3 hC
def ST_parts (I : DS → RS → Prop) : Prop := ∀ (σ : DS) (τ : RS), I σ τ → ∀ a1 a2 a3 : Int32, ∃ (r : Int32) (σ' : DS) (τ' : RS), (D8m_parts σ a1 a2 a3 = some (r, σ')) ∧ (Rm_parts τ a1 a2 a3 = some (r, τ')) ∧ I σ' τ'
set_option maxRecDepth 100000 in
set_option maxHeartbeats 4000000 in
theorem Lc_parts (fx : FX p s m args meth c cL_law 4 RL D cy) (sb : SB s) (hX : va_X b L xs s s.heap) (hbl : b < s.heap.size) (hbA : ¬ s.heap.size ≤ b) (hC : LC D cy q qr s σ τ H locs) (hl : lv_has ls 4 [(0, .ref b), (1, .ref (q 0)), (2, .ref (qr 0)), (3, .int i)]) (hf : cells + 1 ≤ room_1.cells ∧ slots + 8 ≤ room_1.slots) (hv : ∀ k : Nat, k ≤ 4 → vp_in (i + Int32.ofNat k) L) {I : DS → RS → Prop} (hI : I σ τ) (st : ST_parts I)
    (hk : ∀ (σ' : DS) (τ' : RS) (H1 : Heap) (locs1 : List Loc), I σ' τ' → LC D cy q qr s σ' τ' H1 locs1 → W p l e room_1 s m args below meth c H1 locs1 (cells + 1) (slots + 8) Q (F0 m 1670 ls [])) : W p l e room_1 s m args below meth c H locs cells slots Q (F0 m 558 ls []) := by
  have hx := fx.1
  have hb := fx.2.1
  have hf0 : cells ≤ room_1.cells ∧ slots ≤ room_1.slots := ⟨Nat.le_of_succ_le hf.1, Nat.le_trans (Nat.le_add_right _ 8) hf.2⟩
  obtain ⟨r, σ', τ', h1, h2, h3⟩ := st σ τ hI (xs (i + 1).toNatClampNeg) (xs (i + 2).toNatClampNeg) (xs (i + 3).toNatClampNeg)
  refine lv_aload_n hx hb dL_law_558 rfl (lv_at hl 1 rfl) ?_
  refine lv_aload_n hx hb dL_law_559 rfl (lv_at hl 0 rfl) ?_
  refine lv_iload_n hx hb dL_law_560 rfl (lv_at hl 3 rfl) ?_
  refine lv_iconst (v := (1 : Int32)) hx hb dL_law_561 (by decide) ?_
  refine lv_iadd hx hb dL_law_562 ?_
  refine va_sld hx hb hX hbl hbA hC.2.2 (hv 1 (by decide)) dL_law_563 ?_
  refine lv_aload_n hx hb dL_law_564 rfl (lv_at hl 0 rfl) ?_
  refine lv_iload_n hx hb dL_law_565 rfl (lv_at hl 3 rfl) ?_
  refine lv_iconst (v := (2 : Int32)) hx hb dL_law_566 (by decide) ?_
  refine lv_iadd hx hb dL_law_567 ?_
  refine va_sld hx hb hX hbl hbA hC.2.2 (hv 2 (by decide)) dL_law_568 ?_
  refine lv_aload_n hx hb dL_law_569 rfl (lv_at hl 0 rfl) ?_
  refine lv_iload_n hx hb dL_law_570 rfl (lv_at hl 3 rfl) ?_
  refine lv_iconst (v := (3 : Int32)) hx hb dL_law_571 (by decide) ?_
  refine lv_iadd hx hb dL_law_572 ?_
  refine va_sld hx hb hX hbl hbA hC.2.2 (hv 3 (by decide)) dL_law_573 ?_
  refine l_callA (As := [.int (xs (i + 1).toNatClampNeg), .int (xs (i + 2).toNatClampNeg), .int (xs (i + 3).toNatClampNeg)]) (rest := []) (res := some (.int r)) fx sb hC (D8c_parts l _ σ (xs (i + 1).toNatClampNeg) (xs (i + 2).toNatClampNeg) (xs (i + 3).toNatClampNeg) h1) k_410 D8k_parts D8h_parts ⟨rfl, rfl⟩ ⟨Nat.le_of_ble_eq_true rfl, Nat.le_of_ble_eq_true rfl⟩ hf rfl hl.1 rfl (Nat.le_of_ble_eq_true rfl) dL_law_574 (fun H locs hC => ?_)
  refine W.eq (g2 := F0 m 577 ls [.int r]) rfl ?_
  refine lv_aload_n hx hb dL_law_577 rfl (lv_at hl 2 rfl) ?_
  refine lv_aload_n hx hb dL_law_578 rfl (lv_at hl 0 rfl) ?_
  refine lv_iload_n hx hb dL_law_579 rfl (lv_at hl 3 rfl) ?_
  refine lv_iconst (v := (1 : Int32)) hx hb dL_law_580 (by decide) ?_
  refine lv_iadd hx hb dL_law_581 ?_
  refine va_sld hx hb hX hbl hbA hC.2.2 (hv 1 (by decide)) dL_law_582 ?_
  refine lv_aload_n hx hb dL_law_583 rfl (lv_at hl 0 rfl) ?_
  refine lv_iload_n hx hb dL_law_584 rfl (lv_at hl 3 rfl) ?_
  refine lv_iconst (v := (2 : Int32)) hx hb dL_law_585 (by decide) ?_
  refine lv_iadd hx hb dL_law_586 ?_
  refine va_sld hx hb hX hbl hbA hC.2.2 (hv 2 (by decide)) dL_law_587 ?_
  refine lv_aload_n hx hb dL_law_588 rfl (lv_at hl 0 rfl) ?_
  refine lv_iload_n hx hb dL_law_589 rfl (lv_at hl 3 rfl) ?_
  refine lv_iconst (v := (3 : Int32)) hx hb dL_law_590 (by decide) ?_
  refine lv_iadd hx hb dL_law_591 ?_
  refine va_sld hx hb hX hbl hbA hC.2.2 (hv 3 (by decide)) dL_law_592 ?_
  refine l_callR (As := [.int (xs (i + 1).toNatClampNeg), .int (xs (i + 2).toNatClampNeg), .int (xs (i + 3).toNatClampNeg)]) (rest := [.int r]) (res := some (.int r)) fx hC (Rc_parts l τ (xs (i + 1).toNatClampNeg) (xs (i + 2).toNatClampNeg) (xs (i + 3).toNatClampNeg) h2) k_418 Rk_parts Rh_parts ⟨rfl, rfl⟩ ⟨Nat.le_of_ble_eq_true rfl, Nat.le_of_ble_eq_true rfl⟩ hf rfl hl.1 rfl (Nat.le_of_ble_eq_true rfl) dL_law_593 (fun H locs hC => ?_)
  refine W.eq (g2 := F0 m 596 ls [.int r, .int r]) rfl ?_
  refine lv_icmp_eq (tgt := 1670) hx hb dL_law_596 (by decide) (fun _ => ?_) (fun c => absurd rfl c)
  exact hk _ _ _ _ h3 hC
def ST_degrees (I : DS → RS → Prop) : Prop := ∀ (σ : DS) (τ : RS), I σ τ → ∀ a1 a2 a3 a4 : Int32, ∃ (r : Int32) (σ' : DS) (τ' : RS), (D8m_degrees σ a1 a2 a3 a4 = some (r, σ')) ∧ (Rm_degrees τ a1 a2 a3 a4 = some (r, τ')) ∧ I σ' τ'
set_option maxRecDepth 100000 in
set_option maxHeartbeats 4000000 in
theorem Lc_degrees (fx : FX p s m args meth c cL_law 4 RL D cy) (sb : SB s) (hX : va_X b L xs s s.heap) (hbl : b < s.heap.size) (hbA : ¬ s.heap.size ≤ b) (hC : LC D cy q qr s σ τ H locs) (hl : lv_has ls 4 [(0, .ref b), (1, .ref (q 0)), (2, .ref (qr 0)), (3, .int i)]) (hf : cells + 1 ≤ room_1.cells ∧ slots + 8 ≤ room_1.slots) (hv : ∀ k : Nat, k ≤ 4 → vp_in (i + Int32.ofNat k) L) {I : DS → RS → Prop} (hI : I σ τ) (st : ST_degrees I)
    (hk : ∀ (σ' : DS) (τ' : RS) (H1 : Heap) (locs1 : List Loc), I σ' τ' → LC D cy q qr s σ' τ' H1 locs1 → W p l e room_1 s m args below meth c H1 locs1 (cells + 1) (slots + 8) Q (F0 m 1670 ls [])) : W p l e room_1 s m args below meth c H locs cells slots Q (F0 m 601 ls []) := by
  have hx := fx.1
  have hb := fx.2.1
  have hf0 : cells ≤ room_1.cells ∧ slots ≤ room_1.slots := ⟨Nat.le_of_succ_le hf.1, Nat.le_trans (Nat.le_add_right _ 8) hf.2⟩
  obtain ⟨r, σ', τ', h1, h2, h3⟩ := st σ τ hI (xs (i + 1).toNatClampNeg) (xs (i + 2).toNatClampNeg) (xs (i + 3).toNatClampNeg) (xs (i + 4).toNatClampNeg)
  refine lv_aload_n hx hb dL_law_601 rfl (lv_at hl 1 rfl) ?_
  refine lv_aload_n hx hb dL_law_602 rfl (lv_at hl 0 rfl) ?_
  refine lv_iload_n hx hb dL_law_603 rfl (lv_at hl 3 rfl) ?_
  refine lv_iconst (v := (1 : Int32)) hx hb dL_law_604 (by decide) ?_
  refine lv_iadd hx hb dL_law_605 ?_
  refine va_sld hx hb hX hbl hbA hC.2.2 (hv 1 (by decide)) dL_law_606 ?_
  refine lv_aload_n hx hb dL_law_607 rfl (lv_at hl 0 rfl) ?_
  refine lv_iload_n hx hb dL_law_608 rfl (lv_at hl 3 rfl) ?_
  refine lv_iconst (v := (2 : Int32)) hx hb dL_law_609 (by decide) ?_
  refine lv_iadd hx hb dL_law_610 ?_
  refine va_sld hx hb hX hbl hbA hC.2.2 (hv 2 (by decide)) dL_law_611 ?_
  refine lv_aload_n hx hb dL_law_612 rfl (lv_at hl 0 rfl) ?_
  refine lv_iload_n hx hb dL_law_613 rfl (lv_at hl 3 rfl) ?_
  refine lv_iconst (v := (3 : Int32)) hx hb dL_law_614 (by decide) ?_
  refine lv_iadd hx hb dL_law_615 ?_
  refine va_sld hx hb hX hbl hbA hC.2.2 (hv 3 (by decide)) dL_law_616 ?_
  refine lv_aload_n hx hb dL_law_617 rfl (lv_at hl 0 rfl) ?_
  refine lv_iload_n hx hb dL_law_618 rfl (lv_at hl 3 rfl) ?_
  refine lv_iconst (v := (4 : Int32)) hx hb dL_law_619 (by decide) ?_
  refine lv_iadd hx hb dL_law_620 ?_
  refine va_sld hx hb hX hbl hbA hC.2.2 (hv 4 (by decide)) dL_law_621 ?_
  refine l_callD (As := [.int (xs (i + 1).toNatClampNeg), .int (xs (i + 2).toNatClampNeg), .int (xs (i + 3).toNatClampNeg), .int (xs (i + 4).toNatClampNeg)]) (rest := []) (res := some (.int r)) fx sb hC (D8c_degrees l σ (xs (i + 1).toNatClampNeg) (xs (i + 2).toNatClampNeg) (xs (i + 3).toNatClampNeg) (xs (i + 4).toNatClampNeg) h1) k_426 D8k_degrees D8h_degrees ⟨rfl, rfl⟩ ⟨Nat.le_of_ble_eq_true rfl, Nat.le_of_ble_eq_true rfl⟩ hf0 rfl hl.1 rfl (Nat.le_of_ble_eq_true rfl) dL_law_622 (fun H locs hC => ?_)
  refine W.eq (g2 := F0 m 625 ls [.int r]) rfl ?_
  refine lv_aload_n hx hb dL_law_625 rfl (lv_at hl 2 rfl) ?_
  refine lv_aload_n hx hb dL_law_626 rfl (lv_at hl 0 rfl) ?_
  refine lv_iload_n hx hb dL_law_627 rfl (lv_at hl 3 rfl) ?_
  refine lv_iconst (v := (1 : Int32)) hx hb dL_law_628 (by decide) ?_
  refine lv_iadd hx hb dL_law_629 ?_
  refine va_sld hx hb hX hbl hbA hC.2.2 (hv 1 (by decide)) dL_law_630 ?_
  refine lv_aload_n hx hb dL_law_631 rfl (lv_at hl 0 rfl) ?_
  refine lv_iload_n hx hb dL_law_632 rfl (lv_at hl 3 rfl) ?_
  refine lv_iconst (v := (2 : Int32)) hx hb dL_law_633 (by decide) ?_
  refine lv_iadd hx hb dL_law_634 ?_
  refine va_sld hx hb hX hbl hbA hC.2.2 (hv 2 (by decide)) dL_law_635 ?_
  refine lv_aload_n hx hb dL_law_636 rfl (lv_at hl 0 rfl) ?_
  refine lv_iload_n hx hb dL_law_637 rfl (lv_at hl 3 rfl) ?_
  refine lv_iconst (v := (3 : Int32)) hx hb dL_law_638 (by decide) ?_
  refine lv_iadd hx hb dL_law_639 ?_
  refine va_sld hx hb hX hbl hbA hC.2.2 (hv 3 (by decide)) dL_law_640 ?_
  refine lv_aload_n hx hb dL_law_641 rfl (lv_at hl 0 rfl) ?_
  refine lv_iload_n hx hb dL_law_642 rfl (lv_at hl 3 rfl) ?_
  refine lv_iconst (v := (4 : Int32)) hx hb dL_law_643 (by decide) ?_
  refine lv_iadd hx hb dL_law_644 ?_
  refine va_sld hx hb hX hbl hbA hC.2.2 (hv 4 (by decide)) dL_law_645 ?_
  refine l_callR (As := [.int (xs (i + 1).toNatClampNeg), .int (xs (i + 2).toNatClampNeg), .int (xs (i + 3).toNatClampNeg), .int (xs (i + 4).toNatClampNeg)]) (rest := [.int r]) (res := some (.int r)) fx hC (Rc_degrees l τ (xs (i + 1).toNatClampNeg) (xs (i + 2).toNatClampNeg) (xs (i + 3).toNatClampNeg) (xs (i + 4).toNatClampNeg) h2) k_445 Rk_degrees Rh_degrees ⟨rfl, rfl⟩ ⟨Nat.le_of_ble_eq_true rfl, Nat.le_of_ble_eq_true rfl⟩ hf0 rfl hl.1 rfl (Nat.le_of_ble_eq_true rfl) dL_law_646 (fun H locs hC => ?_)
  refine W.eq (g2 := F0 m 649 ls [.int r, .int r]) rfl ?_
  refine lv_icmp_eq (tgt := 1670) hx hb dL_law_649 (by decide) (fun _ => ?_) (fun c => absurd rfl c)
  exact W.widen (Nat.le_succ _) (Nat.le_add_right _ 8) (hk _ _ _ _ h3 hC)
def ST_join (I : DS → RS → Prop) : Prop := ∀ (σ : DS) (τ : RS), I σ τ → ∀ a1 a2 a3 : Int32, ∃ (r : Int32) (σ' : DS) (τ' : RS), (D8m_join σ a1 a2 a3 = some (r, σ')) ∧ (Rm_join τ a1 a2 a3 = some (r, τ')) ∧ I σ' τ'
set_option maxRecDepth 100000 in
set_option maxHeartbeats 4000000 in
theorem Lc_join (fx : FX p s m args meth c cL_law 4 RL D cy) (sb : SB s) (hX : va_X b L xs s s.heap) (hbl : b < s.heap.size) (hbA : ¬ s.heap.size ≤ b) (hC : LC D cy q qr s σ τ H locs) (hl : lv_has ls 4 [(0, .ref b), (1, .ref (q 0)), (2, .ref (qr 0)), (3, .int i)]) (hf : cells + 1 ≤ room_1.cells ∧ slots + 8 ≤ room_1.slots) (hv : ∀ k : Nat, k ≤ 4 → vp_in (i + Int32.ofNat k) L) {I : DS → RS → Prop} (hI : I σ τ) (st : ST_join I)
    (hk : ∀ (σ' : DS) (τ' : RS) (H1 : Heap) (locs1 : List Loc), I σ' τ' → LC D cy q qr s σ' τ' H1 locs1 → W p l e room_1 s m args below meth c H1 locs1 (cells + 1) (slots + 8) Q (F0 m 1670 ls [])) : W p l e room_1 s m args below meth c H locs cells slots Q (F0 m 654 ls []) := by
  have hx := fx.1
  have hb := fx.2.1
  have hf0 : cells ≤ room_1.cells ∧ slots ≤ room_1.slots := ⟨Nat.le_of_succ_le hf.1, Nat.le_trans (Nat.le_add_right _ 8) hf.2⟩
  obtain ⟨r, σ', τ', h1, h2, h3⟩ := st σ τ hI (xs (i + 1).toNatClampNeg) (xs (i + 2).toNatClampNeg) (xs (i + 3).toNatClampNeg)
  refine lv_aload_n hx hb dL_law_654 rfl (lv_at hl 1 rfl) ?_
  refine lv_aload_n hx hb dL_law_655 rfl (lv_at hl 0 rfl) ?_
  refine lv_iload_n hx hb dL_law_656 rfl (lv_at hl 3 rfl) ?_
  refine lv_iconst (v := (1 : Int32)) hx hb dL_law_657 (by decide) ?_
  refine lv_iadd hx hb dL_law_658 ?_
  refine va_sld hx hb hX hbl hbA hC.2.2 (hv 1 (by decide)) dL_law_659 ?_
  refine lv_aload_n hx hb dL_law_660 rfl (lv_at hl 0 rfl) ?_
  refine lv_iload_n hx hb dL_law_661 rfl (lv_at hl 3 rfl) ?_
  refine lv_iconst (v := (2 : Int32)) hx hb dL_law_662 (by decide) ?_
  refine lv_iadd hx hb dL_law_663 ?_
  refine va_sld hx hb hX hbl hbA hC.2.2 (hv 2 (by decide)) dL_law_664 ?_
  refine lv_aload_n hx hb dL_law_665 rfl (lv_at hl 0 rfl) ?_
  refine lv_iload_n hx hb dL_law_666 rfl (lv_at hl 3 rfl) ?_
  refine lv_iconst (v := (3 : Int32)) hx hb dL_law_667 (by decide) ?_
  refine lv_iadd hx hb dL_law_668 ?_
  refine va_sld hx hb hX hbl hbA hC.2.2 (hv 3 (by decide)) dL_law_669 ?_
  refine l_callD (As := [.int (xs (i + 1).toNatClampNeg), .int (xs (i + 2).toNatClampNeg), .int (xs (i + 3).toNatClampNeg)]) (rest := []) (res := some (.int r)) fx sb hC (D8c_join l σ (xs (i + 1).toNatClampNeg) (xs (i + 2).toNatClampNeg) (xs (i + 3).toNatClampNeg) h1) k_457 D8k_join D8h_join ⟨rfl, rfl⟩ ⟨Nat.le_of_ble_eq_true rfl, Nat.le_of_ble_eq_true rfl⟩ hf0 rfl hl.1 rfl (Nat.le_of_ble_eq_true rfl) dL_law_670 (fun H locs hC => ?_)
  refine W.eq (g2 := F0 m 673 ls [.int r]) rfl ?_
  refine lv_aload_n hx hb dL_law_673 rfl (lv_at hl 2 rfl) ?_
  refine lv_aload_n hx hb dL_law_674 rfl (lv_at hl 0 rfl) ?_
  refine lv_iload_n hx hb dL_law_675 rfl (lv_at hl 3 rfl) ?_
  refine lv_iconst (v := (1 : Int32)) hx hb dL_law_676 (by decide) ?_
  refine lv_iadd hx hb dL_law_677 ?_
  refine va_sld hx hb hX hbl hbA hC.2.2 (hv 1 (by decide)) dL_law_678 ?_
  refine lv_aload_n hx hb dL_law_679 rfl (lv_at hl 0 rfl) ?_
  refine lv_iload_n hx hb dL_law_680 rfl (lv_at hl 3 rfl) ?_
  refine lv_iconst (v := (2 : Int32)) hx hb dL_law_681 (by decide) ?_
  refine lv_iadd hx hb dL_law_682 ?_
  refine va_sld hx hb hX hbl hbA hC.2.2 (hv 2 (by decide)) dL_law_683 ?_
  refine lv_aload_n hx hb dL_law_684 rfl (lv_at hl 0 rfl) ?_
  refine lv_iload_n hx hb dL_law_685 rfl (lv_at hl 3 rfl) ?_
  refine lv_iconst (v := (3 : Int32)) hx hb dL_law_686 (by decide) ?_
  refine lv_iadd hx hb dL_law_687 ?_
  refine va_sld hx hb hX hbl hbA hC.2.2 (hv 3 (by decide)) dL_law_688 ?_
  refine l_callR (As := [.int (xs (i + 1).toNatClampNeg), .int (xs (i + 2).toNatClampNeg), .int (xs (i + 3).toNatClampNeg)]) (rest := [.int r]) (res := some (.int r)) fx hC (Rc_join l τ (xs (i + 1).toNatClampNeg) (xs (i + 2).toNatClampNeg) (xs (i + 3).toNatClampNeg) h2) k_544 Rk_join Rh_join ⟨rfl, rfl⟩ ⟨Nat.le_of_ble_eq_true rfl, Nat.le_of_ble_eq_true rfl⟩ hf0 rfl hl.1 rfl (Nat.le_of_ble_eq_true rfl) dL_law_689 (fun H locs hC => ?_)
  refine W.eq (g2 := F0 m 692 ls [.int r, .int r]) rfl ?_
  refine lv_icmp_eq (tgt := 1670) hx hb dL_law_692 (by decide) (fun _ => ?_) (fun c => absurd rfl c)
  exact W.widen (Nat.le_succ _) (Nat.le_add_right _ 8) (hk _ _ _ _ h3 hC)
def ST_thin (I : DS → RS → Prop) : Prop := ∀ (σ : DS) (τ : RS), I σ τ → ∀ a1 a2 : Int32, ∃ (r : Int32) (σ' : DS) (τ' : RS), (D8m_thin σ a1 a2 = some (r, σ')) ∧ (Rm_thin τ a1 a2 = some (r, τ')) ∧ I σ' τ'
set_option maxRecDepth 100000 in
set_option maxHeartbeats 4000000 in
theorem Lc_thin (fx : FX p s m args meth c cL_law 4 RL D cy) (sb : SB s) (hX : va_X b L xs s s.heap) (hbl : b < s.heap.size) (hbA : ¬ s.heap.size ≤ b) (hC : LC D cy q qr s σ τ H locs) (hl : lv_has ls 4 [(0, .ref b), (1, .ref (q 0)), (2, .ref (qr 0)), (3, .int i)]) (hf : cells + 1 ≤ room_1.cells ∧ slots + 8 ≤ room_1.slots) (hv : ∀ k : Nat, k ≤ 4 → vp_in (i + Int32.ofNat k) L) {I : DS → RS → Prop} (hI : I σ τ) (st : ST_thin I)
    (hk : ∀ (σ' : DS) (τ' : RS) (H1 : Heap) (locs1 : List Loc), I σ' τ' → LC D cy q qr s σ' τ' H1 locs1 → W p l e room_1 s m args below meth c H1 locs1 (cells + 1) (slots + 8) Q (F0 m 1670 ls [])) : W p l e room_1 s m args below meth c H locs cells slots Q (F0 m 697 ls []) := by
  have hx := fx.1
  have hb := fx.2.1
  have hf0 : cells ≤ room_1.cells ∧ slots ≤ room_1.slots := ⟨Nat.le_of_succ_le hf.1, Nat.le_trans (Nat.le_add_right _ 8) hf.2⟩
  obtain ⟨r, σ', τ', h1, h2, h3⟩ := st σ τ hI (xs (i + 1).toNatClampNeg) (xs (i + 2).toNatClampNeg)
  refine lv_aload_n hx hb dL_law_697 rfl (lv_at hl 1 rfl) ?_
  refine lv_aload_n hx hb dL_law_698 rfl (lv_at hl 0 rfl) ?_
  refine lv_iload_n hx hb dL_law_699 rfl (lv_at hl 3 rfl) ?_
  refine lv_iconst (v := (1 : Int32)) hx hb dL_law_700 (by decide) ?_
  refine lv_iadd hx hb dL_law_701 ?_
  refine va_sld hx hb hX hbl hbA hC.2.2 (hv 1 (by decide)) dL_law_702 ?_
  refine lv_aload_n hx hb dL_law_703 rfl (lv_at hl 0 rfl) ?_
  refine lv_iload_n hx hb dL_law_704 rfl (lv_at hl 3 rfl) ?_
  refine lv_iconst (v := (2 : Int32)) hx hb dL_law_705 (by decide) ?_
  refine lv_iadd hx hb dL_law_706 ?_
  refine va_sld hx hb hX hbl hbA hC.2.2 (hv 2 (by decide)) dL_law_707 ?_
  refine l_callD (As := [.int (xs (i + 1).toNatClampNeg), .int (xs (i + 2).toNatClampNeg)]) (rest := []) (res := some (.int r)) fx sb hC (D8c_thin l σ (xs (i + 1).toNatClampNeg) (xs (i + 2).toNatClampNeg) h1) k_572 D8k_thin D8h_thin ⟨rfl, rfl⟩ ⟨Nat.le_of_ble_eq_true rfl, Nat.le_of_ble_eq_true rfl⟩ hf0 rfl hl.1 rfl (Nat.le_of_ble_eq_true rfl) dL_law_708 (fun H locs hC => ?_)
  refine W.eq (g2 := F0 m 711 ls [.int r]) rfl ?_
  refine lv_aload_n hx hb dL_law_711 rfl (lv_at hl 2 rfl) ?_
  refine lv_aload_n hx hb dL_law_712 rfl (lv_at hl 0 rfl) ?_
  refine lv_iload_n hx hb dL_law_713 rfl (lv_at hl 3 rfl) ?_
  refine lv_iconst (v := (1 : Int32)) hx hb dL_law_714 (by decide) ?_
  refine lv_iadd hx hb dL_law_715 ?_
  refine va_sld hx hb hX hbl hbA hC.2.2 (hv 1 (by decide)) dL_law_716 ?_
  refine lv_aload_n hx hb dL_law_717 rfl (lv_at hl 0 rfl) ?_
  refine lv_iload_n hx hb dL_law_718 rfl (lv_at hl 3 rfl) ?_
  refine lv_iconst (v := (2 : Int32)) hx hb dL_law_719 (by decide) ?_
  refine lv_iadd hx hb dL_law_720 ?_
  refine va_sld hx hb hX hbl hbA hC.2.2 (hv 2 (by decide)) dL_law_721 ?_
  refine l_callR (As := [.int (xs (i + 1).toNatClampNeg), .int (xs (i + 2).toNatClampNeg)]) (rest := [.int r]) (res := some (.int r)) fx hC (Rc_thin l τ (xs (i + 1).toNatClampNeg) (xs (i + 2).toNatClampNeg) h2) k_594 Rk_thin Rh_thin ⟨rfl, rfl⟩ ⟨Nat.le_of_ble_eq_true rfl, Nat.le_of_ble_eq_true rfl⟩ hf0 rfl hl.1 rfl (Nat.le_of_ble_eq_true rfl) dL_law_722 (fun H locs hC => ?_)
  refine W.eq (g2 := F0 m 725 ls [.int r, .int r]) rfl ?_
  refine lv_icmp_eq (tgt := 1670) hx hb dL_law_725 (by decide) (fun _ => ?_) (fun c => absurd rfl c)
  exact W.widen (Nat.le_succ _) (Nat.le_add_right _ 8) (hk _ _ _ _ h3 hC)
def ST_by (I : DS → RS → Prop) : Prop := ∀ (σ : DS) (τ : RS), I σ τ → ∀ a1 a2 a3 : Int32, ∃ (r : Int32) (σ' : DS) (τ' : RS), (D8m_by σ a1 a2 a3 = some (r, σ')) ∧ (Rm_by τ a1 a2 a3 = some (r, τ')) ∧ I σ' τ'
set_option maxRecDepth 100000 in
set_option maxHeartbeats 4000000 in
theorem Lc_by (fx : FX p s m args meth c cL_law 4 RL D cy) (sb : SB s) (hX : va_X b L xs s s.heap) (hbl : b < s.heap.size) (hbA : ¬ s.heap.size ≤ b) (hC : LC D cy q qr s σ τ H locs) (hl : lv_has ls 4 [(0, .ref b), (1, .ref (q 0)), (2, .ref (qr 0)), (3, .int i)]) (hf : cells + 1 ≤ room_1.cells ∧ slots + 8 ≤ room_1.slots) (hv : ∀ k : Nat, k ≤ 4 → vp_in (i + Int32.ofNat k) L) {I : DS → RS → Prop} (hI : I σ τ) (st : ST_by I)
    (hk : ∀ (σ' : DS) (τ' : RS) (H1 : Heap) (locs1 : List Loc), I σ' τ' → LC D cy q qr s σ' τ' H1 locs1 → W p l e room_1 s m args below meth c H1 locs1 (cells + 1) (slots + 8) Q (F0 m 1670 ls [])) : W p l e room_1 s m args below meth c H locs cells slots Q (F0 m 730 ls []) := by
  have hx := fx.1
  have hb := fx.2.1
  have hf0 : cells ≤ room_1.cells ∧ slots ≤ room_1.slots := ⟨Nat.le_of_succ_le hf.1, Nat.le_trans (Nat.le_add_right _ 8) hf.2⟩
  obtain ⟨r, σ', τ', h1, h2, h3⟩ := st σ τ hI (xs (i + 1).toNatClampNeg) (xs (i + 2).toNatClampNeg) (xs (i + 3).toNatClampNeg)
  refine lv_aload_n hx hb dL_law_730 rfl (lv_at hl 1 rfl) ?_
  refine lv_aload_n hx hb dL_law_731 rfl (lv_at hl 0 rfl) ?_
  refine lv_iload_n hx hb dL_law_732 rfl (lv_at hl 3 rfl) ?_
  refine lv_iconst (v := (1 : Int32)) hx hb dL_law_733 (by decide) ?_
  refine lv_iadd hx hb dL_law_734 ?_
  refine va_sld hx hb hX hbl hbA hC.2.2 (hv 1 (by decide)) dL_law_735 ?_
  refine lv_aload_n hx hb dL_law_736 rfl (lv_at hl 0 rfl) ?_
  refine lv_iload_n hx hb dL_law_737 rfl (lv_at hl 3 rfl) ?_
  refine lv_iconst (v := (2 : Int32)) hx hb dL_law_738 (by decide) ?_
  refine lv_iadd hx hb dL_law_739 ?_
  refine va_sld hx hb hX hbl hbA hC.2.2 (hv 2 (by decide)) dL_law_740 ?_
  refine lv_aload_n hx hb dL_law_741 rfl (lv_at hl 0 rfl) ?_
  refine lv_iload_n hx hb dL_law_742 rfl (lv_at hl 3 rfl) ?_
  refine lv_iconst (v := (3 : Int32)) hx hb dL_law_743 (by decide) ?_
  refine lv_iadd hx hb dL_law_744 ?_
  refine va_sld hx hb hX hbl hbA hC.2.2 (hv 3 (by decide)) dL_law_745 ?_
  refine l_callD (As := [.int (xs (i + 1).toNatClampNeg), .int (xs (i + 2).toNatClampNeg), .int (xs (i + 3).toNatClampNeg)]) (rest := []) (res := some (.int r)) fx sb hC (D8c_by l σ (xs (i + 1).toNatClampNeg) (xs (i + 2).toNatClampNeg) (xs (i + 3).toNatClampNeg) h1) k_610 D8k_by D8h_by ⟨rfl, rfl⟩ ⟨Nat.le_of_ble_eq_true rfl, Nat.le_of_ble_eq_true rfl⟩ hf0 rfl hl.1 rfl (Nat.le_of_ble_eq_true rfl) dL_law_746 (fun H locs hC => ?_)
  refine W.eq (g2 := F0 m 749 ls [.int r]) rfl ?_
  refine lv_aload_n hx hb dL_law_749 rfl (lv_at hl 2 rfl) ?_
  refine lv_aload_n hx hb dL_law_750 rfl (lv_at hl 0 rfl) ?_
  refine lv_iload_n hx hb dL_law_751 rfl (lv_at hl 3 rfl) ?_
  refine lv_iconst (v := (1 : Int32)) hx hb dL_law_752 (by decide) ?_
  refine lv_iadd hx hb dL_law_753 ?_
  refine va_sld hx hb hX hbl hbA hC.2.2 (hv 1 (by decide)) dL_law_754 ?_
  refine lv_aload_n hx hb dL_law_755 rfl (lv_at hl 0 rfl) ?_
  refine lv_iload_n hx hb dL_law_756 rfl (lv_at hl 3 rfl) ?_
  refine lv_iconst (v := (2 : Int32)) hx hb dL_law_757 (by decide) ?_
  refine lv_iadd hx hb dL_law_758 ?_
  refine va_sld hx hb hX hbl hbA hC.2.2 (hv 2 (by decide)) dL_law_759 ?_
  refine lv_aload_n hx hb dL_law_760 rfl (lv_at hl 0 rfl) ?_
  refine lv_iload_n hx hb dL_law_761 rfl (lv_at hl 3 rfl) ?_
  refine lv_iconst (v := (3 : Int32)) hx hb dL_law_762 (by decide) ?_
  refine lv_iadd hx hb dL_law_763 ?_
  refine va_sld hx hb hX hbl hbA hC.2.2 (hv 3 (by decide)) dL_law_764 ?_
  refine l_callR (As := [.int (xs (i + 1).toNatClampNeg), .int (xs (i + 2).toNatClampNeg), .int (xs (i + 3).toNatClampNeg)]) (rest := [.int r]) (res := some (.int r)) fx hC (Rc_by l τ (xs (i + 1).toNatClampNeg) (xs (i + 2).toNatClampNeg) (xs (i + 3).toNatClampNeg) h2) k_620 Rk_by Rh_by ⟨rfl, rfl⟩ ⟨Nat.le_of_ble_eq_true rfl, Nat.le_of_ble_eq_true rfl⟩ hf0 rfl hl.1 rfl (Nat.le_of_ble_eq_true rfl) dL_law_765 (fun H locs hC => ?_)
  refine W.eq (g2 := F0 m 768 ls [.int r, .int r]) rfl ?_
  refine lv_icmp_eq (tgt := 1670) hx hb dL_law_768 (by decide) (fun _ => ?_) (fun c => absurd rfl c)
  exact W.widen (Nat.le_succ _) (Nat.le_add_right _ 8) (hk _ _ _ _ h3 hC)
def ST_within (I : DS → RS → Prop) : Prop := ∀ (σ : DS) (τ : RS), I σ τ → ∀ a1 a2 a3 : Int32, ∃ (r : Int32) (σ' : DS) (τ' : RS), (D8m_within σ a1 a2 a3 = some (r, σ')) ∧ (Rm_within τ a1 a2 a3 = some (r, τ')) ∧ I σ' τ'
set_option maxRecDepth 100000 in
set_option maxHeartbeats 4000000 in
theorem Lc_within (fx : FX p s m args meth c cL_law 4 RL D cy) (sb : SB s) (hX : va_X b L xs s s.heap) (hbl : b < s.heap.size) (hbA : ¬ s.heap.size ≤ b) (hC : LC D cy q qr s σ τ H locs) (hl : lv_has ls 4 [(0, .ref b), (1, .ref (q 0)), (2, .ref (qr 0)), (3, .int i)]) (hf : cells + 1 ≤ room_1.cells ∧ slots + 8 ≤ room_1.slots) (hv : ∀ k : Nat, k ≤ 4 → vp_in (i + Int32.ofNat k) L) {I : DS → RS → Prop} (hI : I σ τ) (st : ST_within I)
    (hk : ∀ (σ' : DS) (τ' : RS) (H1 : Heap) (locs1 : List Loc), I σ' τ' → LC D cy q qr s σ' τ' H1 locs1 → W p l e room_1 s m args below meth c H1 locs1 (cells + 1) (slots + 8) Q (F0 m 1670 ls [])) : W p l e room_1 s m args below meth c H locs cells slots Q (F0 m 773 ls []) := by
  have hx := fx.1
  have hb := fx.2.1
  have hf0 : cells ≤ room_1.cells ∧ slots ≤ room_1.slots := ⟨Nat.le_of_succ_le hf.1, Nat.le_trans (Nat.le_add_right _ 8) hf.2⟩
  obtain ⟨r, σ', τ', h1, h2, h3⟩ := st σ τ hI (xs (i + 1).toNatClampNeg) (xs (i + 2).toNatClampNeg) (xs (i + 3).toNatClampNeg)
  refine lv_aload_n hx hb dL_law_773 rfl (lv_at hl 1 rfl) ?_
  refine lv_aload_n hx hb dL_law_774 rfl (lv_at hl 0 rfl) ?_
  refine lv_iload_n hx hb dL_law_775 rfl (lv_at hl 3 rfl) ?_
  refine lv_iconst (v := (1 : Int32)) hx hb dL_law_776 (by decide) ?_
  refine lv_iadd hx hb dL_law_777 ?_
  refine va_sld hx hb hX hbl hbA hC.2.2 (hv 1 (by decide)) dL_law_778 ?_
  refine lv_aload_n hx hb dL_law_779 rfl (lv_at hl 0 rfl) ?_
  refine lv_iload_n hx hb dL_law_780 rfl (lv_at hl 3 rfl) ?_
  refine lv_iconst (v := (2 : Int32)) hx hb dL_law_781 (by decide) ?_
  refine lv_iadd hx hb dL_law_782 ?_
  refine va_sld hx hb hX hbl hbA hC.2.2 (hv 2 (by decide)) dL_law_783 ?_
  refine lv_aload_n hx hb dL_law_784 rfl (lv_at hl 0 rfl) ?_
  refine lv_iload_n hx hb dL_law_785 rfl (lv_at hl 3 rfl) ?_
  refine lv_iconst (v := (3 : Int32)) hx hb dL_law_786 (by decide) ?_
  refine lv_iadd hx hb dL_law_787 ?_
  refine va_sld hx hb hX hbl hbA hC.2.2 (hv 3 (by decide)) dL_law_788 ?_
  refine l_callD (As := [.int (xs (i + 1).toNatClampNeg), .int (xs (i + 2).toNatClampNeg), .int (xs (i + 3).toNatClampNeg)]) (rest := []) (res := some (.int r)) fx sb hC (D8c_within l σ (xs (i + 1).toNatClampNeg) (xs (i + 2).toNatClampNeg) (xs (i + 3).toNatClampNeg) h1) k_624 D8k_within D8h_within ⟨rfl, rfl⟩ ⟨Nat.le_of_ble_eq_true rfl, Nat.le_of_ble_eq_true rfl⟩ hf0 rfl hl.1 rfl (Nat.le_of_ble_eq_true rfl) dL_law_789 (fun H locs hC => ?_)
  refine W.eq (g2 := F0 m 792 ls [.int r]) rfl ?_
  refine lv_aload_n hx hb dL_law_792 rfl (lv_at hl 2 rfl) ?_
  refine lv_aload_n hx hb dL_law_793 rfl (lv_at hl 0 rfl) ?_
  refine lv_iload_n hx hb dL_law_794 rfl (lv_at hl 3 rfl) ?_
  refine lv_iconst (v := (1 : Int32)) hx hb dL_law_795 (by decide) ?_
  refine lv_iadd hx hb dL_law_796 ?_
  refine va_sld hx hb hX hbl hbA hC.2.2 (hv 1 (by decide)) dL_law_797 ?_
  refine lv_aload_n hx hb dL_law_798 rfl (lv_at hl 0 rfl) ?_
  refine lv_iload_n hx hb dL_law_799 rfl (lv_at hl 3 rfl) ?_
  refine lv_iconst (v := (2 : Int32)) hx hb dL_law_800 (by decide) ?_
  refine lv_iadd hx hb dL_law_801 ?_
  refine va_sld hx hb hX hbl hbA hC.2.2 (hv 2 (by decide)) dL_law_802 ?_
  refine lv_aload_n hx hb dL_law_803 rfl (lv_at hl 0 rfl) ?_
  refine lv_iload_n hx hb dL_law_804 rfl (lv_at hl 3 rfl) ?_
  refine lv_iconst (v := (3 : Int32)) hx hb dL_law_805 (by decide) ?_
  refine lv_iadd hx hb dL_law_806 ?_
  refine va_sld hx hb hX hbl hbA hC.2.2 (hv 3 (by decide)) dL_law_807 ?_
  refine l_callR (As := [.int (xs (i + 1).toNatClampNeg), .int (xs (i + 2).toNatClampNeg), .int (xs (i + 3).toNatClampNeg)]) (rest := [.int r]) (res := some (.int r)) fx hC (Rc_within l τ (xs (i + 1).toNatClampNeg) (xs (i + 2).toNatClampNeg) (xs (i + 3).toNatClampNeg) h2) k_644 Rk_within Rh_within ⟨rfl, rfl⟩ ⟨Nat.le_of_ble_eq_true rfl, Nat.le_of_ble_eq_true rfl⟩ hf0 rfl hl.1 rfl (Nat.le_of_ble_eq_true rfl) dL_law_808 (fun H locs hC => ?_)
  refine W.eq (g2 := F0 m 811 ls [.int r, .int r]) rfl ?_
  refine lv_icmp_eq (tgt := 1670) hx hb dL_law_811 (by decide) (fun _ => ?_) (fun c => absurd rfl c)
  exact W.widen (Nat.le_succ _) (Nat.le_add_right _ 8) (hk _ _ _ _ h3 hC)
def ST_drop (I : DS → RS → Prop) : Prop := ∀ (σ : DS) (τ : RS), I σ τ → ∃ (r : Int32) (σ' : DS) (τ' : RS), (D8m_drop σ = some (r, σ')) ∧ (Rm_drop τ = some (r, τ')) ∧ I σ' τ'
set_option maxRecDepth 100000 in
set_option maxHeartbeats 4000000 in
theorem Lc_drop (fx : FX p s m args meth c cL_law 4 RL D cy) (sb : SB s) (hX : va_X b L xs s s.heap) (hbl : b < s.heap.size) (hbA : ¬ s.heap.size ≤ b) (hC : LC D cy q qr s σ τ H locs) (hl : lv_has ls 4 [(0, .ref b), (1, .ref (q 0)), (2, .ref (qr 0)), (3, .int i)]) (hf : cells + 1 ≤ room_1.cells ∧ slots + 8 ≤ room_1.slots) (hv : ∀ k : Nat, k ≤ 4 → vp_in (i + Int32.ofNat k) L) {I : DS → RS → Prop} (hI : I σ τ) (st : ST_drop I)
    (hk : ∀ (σ' : DS) (τ' : RS) (H1 : Heap) (locs1 : List Loc), I σ' τ' → LC D cy q qr s σ' τ' H1 locs1 → W p l e room_1 s m args below meth c H1 locs1 (cells + 1) (slots + 8) Q (F0 m 1670 ls [])) : W p l e room_1 s m args below meth c H locs cells slots Q (F0 m 816 ls []) := by
  have hx := fx.1
  have hb := fx.2.1
  have hf0 : cells ≤ room_1.cells ∧ slots ≤ room_1.slots := ⟨Nat.le_of_succ_le hf.1, Nat.le_trans (Nat.le_add_right _ 8) hf.2⟩
  obtain ⟨r, σ', τ', h1, h2, h3⟩ := st σ τ hI
  refine lv_aload_n hx hb dL_law_816 rfl (lv_at hl 1 rfl) ?_
  refine l_callD (As := []) (rest := []) (res := some (.int r)) fx sb hC (D8c_drop l σ h1) k_652 D8k_drop D8h_drop ⟨rfl, rfl⟩ ⟨Nat.le_of_ble_eq_true rfl, Nat.le_of_ble_eq_true rfl⟩ hf0 rfl hl.1 rfl (Nat.le_of_ble_eq_true rfl) dL_law_817 (fun H locs hC => ?_)
  refine W.eq (g2 := F0 m 820 ls [.int r]) rfl ?_
  refine lv_aload_n hx hb dL_law_820 rfl (lv_at hl 2 rfl) ?_
  refine l_callR (As := []) (rest := [.int r]) (res := some (.int r)) fx hC (Rc_drop l τ h2) k_656 Rk_drop Rh_drop ⟨rfl, rfl⟩ ⟨Nat.le_of_ble_eq_true rfl, Nat.le_of_ble_eq_true rfl⟩ hf0 rfl hl.1 rfl (Nat.le_of_ble_eq_true rfl) dL_law_821 (fun H locs hC => ?_)
  refine W.eq (g2 := F0 m 824 ls [.int r, .int r]) rfl ?_
  refine lv_icmp_eq (tgt := 1670) hx hb dL_law_824 (by decide) (fun _ => ?_) (fun c => absurd rfl c)
  exact W.widen (Nat.le_succ _) (Nat.le_add_right _ 8) (hk _ _ _ _ h3 hC)
def ST_close (I : DS → RS → Prop) : Prop := ∀ (σ : DS) (τ : RS), I σ τ → ∃ (r : Int32) (σ' : DS) (τ' : RS), (D8m_close σ = some (r, σ')) ∧ (Rm_close τ = some (r, τ')) ∧ I σ' τ'
set_option maxRecDepth 100000 in
set_option maxHeartbeats 4000000 in
theorem Lc_close (fx : FX p s m args meth c cL_law 4 RL D cy) (sb : SB s) (hX : va_X b L xs s s.heap) (hbl : b < s.heap.size) (hbA : ¬ s.heap.size ≤ b) (hC : LC D cy q qr s σ τ H locs) (hl : lv_has ls 4 [(0, .ref b), (1, .ref (q 0)), (2, .ref (qr 0)), (3, .int i)]) (hf : cells + 1 ≤ room_1.cells ∧ slots + 8 ≤ room_1.slots) (hv : ∀ k : Nat, k ≤ 4 → vp_in (i + Int32.ofNat k) L) {I : DS → RS → Prop} (hI : I σ τ) (st : ST_close I)
    (hk : ∀ (σ' : DS) (τ' : RS) (H1 : Heap) (locs1 : List Loc), I σ' τ' → LC D cy q qr s σ' τ' H1 locs1 → W p l e room_1 s m args below meth c H1 locs1 (cells + 1) (slots + 8) Q (F0 m 1670 ls [])) : W p l e room_1 s m args below meth c H locs cells slots Q (F0 m 829 ls []) := by
  have hx := fx.1
  have hb := fx.2.1
  have hf0 : cells ≤ room_1.cells ∧ slots ≤ room_1.slots := ⟨Nat.le_of_succ_le hf.1, Nat.le_trans (Nat.le_add_right _ 8) hf.2⟩
  obtain ⟨r, σ', τ', h1, h2, h3⟩ := st σ τ hI
  refine lv_aload_n hx hb dL_law_829 rfl (lv_at hl 1 rfl) ?_
  refine l_callD (As := []) (rest := []) (res := some (.int r)) fx sb hC (D8c_close l σ h1) k_660 D8k_close D8h_close ⟨rfl, rfl⟩ ⟨Nat.le_of_ble_eq_true rfl, Nat.le_of_ble_eq_true rfl⟩ hf0 rfl hl.1 rfl (Nat.le_of_ble_eq_true rfl) dL_law_830 (fun H locs hC => ?_)
  refine W.eq (g2 := F0 m 833 ls [.int r]) rfl ?_
  refine lv_aload_n hx hb dL_law_833 rfl (lv_at hl 2 rfl) ?_
  refine l_callR (As := []) (rest := [.int r]) (res := some (.int r)) fx hC (Rc_close l τ h2) k_669 Rk_close Rh_close ⟨rfl, rfl⟩ ⟨Nat.le_of_ble_eq_true rfl, Nat.le_of_ble_eq_true rfl⟩ hf0 rfl hl.1 rfl (Nat.le_of_ble_eq_true rfl) dL_law_834 (fun H locs hC => ?_)
  refine W.eq (g2 := F0 m 837 ls [.int r, .int r]) rfl ?_
  refine lv_icmp_eq (tgt := 1670) hx hb dL_law_837 (by decide) (fun _ => ?_) (fun c => absurd rfl c)
  exact W.widen (Nat.le_succ _) (Nat.le_add_right _ 8) (hk _ _ _ _ h3 hC)
def ST_count (I : DS → RS → Prop) : Prop := ∀ (σ : DS) (τ : RS), I σ τ → ∀ a1 : Int32, ∃ (r : Int32) (σ' : DS) (τ' : RS), (D8m_count σ a1 = some r ∧ σ' = σ) ∧ (Rm_count τ a1 = some r ∧ τ' = τ) ∧ I σ' τ'
set_option maxRecDepth 100000 in
set_option maxHeartbeats 4000000 in
theorem Lc_count (fx : FX p s m args meth c cL_law 4 RL D cy) (sb : SB s) (hX : va_X b L xs s s.heap) (hbl : b < s.heap.size) (hbA : ¬ s.heap.size ≤ b) (hC : LC D cy q qr s σ τ H locs) (hl : lv_has ls 4 [(0, .ref b), (1, .ref (q 0)), (2, .ref (qr 0)), (3, .int i)]) (hf : cells + 1 ≤ room_1.cells ∧ slots + 8 ≤ room_1.slots) (hv : ∀ k : Nat, k ≤ 4 → vp_in (i + Int32.ofNat k) L) {I : DS → RS → Prop} (hI : I σ τ) (st : ST_count I)
    (hk : ∀ (σ' : DS) (τ' : RS) (H1 : Heap) (locs1 : List Loc), I σ' τ' → LC D cy q qr s σ' τ' H1 locs1 → W p l e room_1 s m args below meth c H1 locs1 (cells + 1) (slots + 8) Q (F0 m 1670 ls [])) : W p l e room_1 s m args below meth c H locs cells slots Q (F0 m 842 ls []) := by
  have hx := fx.1
  have hb := fx.2.1
  have hf0 : cells ≤ room_1.cells ∧ slots ≤ room_1.slots := ⟨Nat.le_of_succ_le hf.1, Nat.le_trans (Nat.le_add_right _ 8) hf.2⟩
  obtain ⟨r, σ', τ', h1, h2, h3⟩ := st σ τ hI (xs (i + 1).toNatClampNeg)
  obtain ⟨h1, e1⟩ := h1
  rw [e1] at h3
  obtain ⟨h2, e2⟩ := h2
  rw [e2] at h3
  refine lv_aload_n hx hb dL_law_842 rfl (lv_at hl 1 rfl) ?_
  refine lv_aload_n hx hb dL_law_843 rfl (lv_at hl 0 rfl) ?_
  refine lv_iload_n hx hb dL_law_844 rfl (lv_at hl 3 rfl) ?_
  refine lv_iconst (v := (1 : Int32)) hx hb dL_law_845 (by decide) ?_
  refine lv_iadd hx hb dL_law_846 ?_
  refine va_sld hx hb hX hbl hbA hC.2.2 (hv 1 (by decide)) dL_law_847 ?_
  refine l_callD (As := [.int (xs (i + 1).toNatClampNeg)]) (rest := []) (res := some (.int r)) fx sb hC (D8c_count l σ (xs (i + 1).toNatClampNeg) h1) k_673 D8k_count D8h_count ⟨rfl, rfl⟩ ⟨Nat.le_of_ble_eq_true rfl, Nat.le_of_ble_eq_true rfl⟩ hf0 rfl hl.1 rfl (Nat.le_of_ble_eq_true rfl) dL_law_848 (fun H locs hC => ?_)
  refine W.eq (g2 := F0 m 851 ls [.int r]) rfl ?_
  refine lv_aload_n hx hb dL_law_851 rfl (lv_at hl 2 rfl) ?_
  refine lv_aload_n hx hb dL_law_852 rfl (lv_at hl 0 rfl) ?_
  refine lv_iload_n hx hb dL_law_853 rfl (lv_at hl 3 rfl) ?_
  refine lv_iconst (v := (1 : Int32)) hx hb dL_law_854 (by decide) ?_
  refine lv_iadd hx hb dL_law_855 ?_
  refine va_sld hx hb hX hbl hbA hC.2.2 (hv 1 (by decide)) dL_law_856 ?_
  refine l_callR (As := [.int (xs (i + 1).toNatClampNeg)]) (rest := [.int r]) (res := some (.int r)) fx hC (Rc_count l τ (xs (i + 1).toNatClampNeg) h2) k_677 Rk_count Rh_count ⟨rfl, rfl⟩ ⟨Nat.le_of_ble_eq_true rfl, Nat.le_of_ble_eq_true rfl⟩ hf0 rfl hl.1 rfl (Nat.le_of_ble_eq_true rfl) dL_law_857 (fun H locs hC => ?_)
  refine W.eq (g2 := F0 m 860 ls [.int r, .int r]) rfl ?_
  refine lv_icmp_eq (tgt := 1670) hx hb dL_law_860 (by decide) (fun _ => ?_) (fun c => absurd rfl c)
  exact W.widen (Nat.le_succ _) (Nat.le_add_right _ 8) (hk _ _ _ _ h3 hC)
def ST_told (I : DS → RS → Prop) : Prop := ∀ (σ : DS) (τ : RS), I σ τ → ∀ a1 a2 : Int32, ∃ (r : Int32) (σ' : DS) (τ' : RS), (D8m_told σ a1 a2 = some (r, σ')) ∧ (Rm_told τ a1 a2 = some (r, τ')) ∧ I σ' τ'
set_option maxRecDepth 100000 in
set_option maxHeartbeats 4000000 in
theorem Lc_told (fx : FX p s m args meth c cL_law 4 RL D cy) (sb : SB s) (hX : va_X b L xs s s.heap) (hbl : b < s.heap.size) (hbA : ¬ s.heap.size ≤ b) (hC : LC D cy q qr s σ τ H locs) (hl : lv_has ls 4 [(0, .ref b), (1, .ref (q 0)), (2, .ref (qr 0)), (3, .int i)]) (hf : cells + 1 ≤ room_1.cells ∧ slots + 8 ≤ room_1.slots) (hv : ∀ k : Nat, k ≤ 4 → vp_in (i + Int32.ofNat k) L) {I : DS → RS → Prop} (hI : I σ τ) (st : ST_told I)
    (hk : ∀ (σ' : DS) (τ' : RS) (H1 : Heap) (locs1 : List Loc), I σ' τ' → LC D cy q qr s σ' τ' H1 locs1 → W p l e room_1 s m args below meth c H1 locs1 (cells + 1) (slots + 8) Q (F0 m 1670 ls [])) : W p l e room_1 s m args below meth c H locs cells slots Q (F0 m 865 ls []) := by
  have hx := fx.1
  have hb := fx.2.1
  have hf0 : cells ≤ room_1.cells ∧ slots ≤ room_1.slots := ⟨Nat.le_of_succ_le hf.1, Nat.le_trans (Nat.le_add_right _ 8) hf.2⟩
  obtain ⟨r, σ', τ', h1, h2, h3⟩ := st σ τ hI (xs (i + 1).toNatClampNeg) (xs (i + 2).toNatClampNeg)
  refine lv_aload_n hx hb dL_law_865 rfl (lv_at hl 1 rfl) ?_
  refine lv_aload_n hx hb dL_law_866 rfl (lv_at hl 0 rfl) ?_
  refine lv_iload_n hx hb dL_law_867 rfl (lv_at hl 3 rfl) ?_
  refine lv_iconst (v := (1 : Int32)) hx hb dL_law_868 (by decide) ?_
  refine lv_iadd hx hb dL_law_869 ?_
  refine va_sld hx hb hX hbl hbA hC.2.2 (hv 1 (by decide)) dL_law_870 ?_
  refine lv_aload_n hx hb dL_law_871 rfl (lv_at hl 0 rfl) ?_
  refine lv_iload_n hx hb dL_law_872 rfl (lv_at hl 3 rfl) ?_
  refine lv_iconst (v := (2 : Int32)) hx hb dL_law_873 (by decide) ?_
  refine lv_iadd hx hb dL_law_874 ?_
  refine va_sld hx hb hX hbl hbA hC.2.2 (hv 2 (by decide)) dL_law_875 ?_
  refine l_callD (As := [.int (xs (i + 1).toNatClampNeg), .int (xs (i + 2).toNatClampNeg)]) (rest := []) (res := some (.int r)) fx sb hC (D8c_told l σ (xs (i + 1).toNatClampNeg) (xs (i + 2).toNatClampNeg) h1) k_681 D8k_told D8h_told ⟨rfl, rfl⟩ ⟨Nat.le_of_ble_eq_true rfl, Nat.le_of_ble_eq_true rfl⟩ hf0 rfl hl.1 rfl (Nat.le_of_ble_eq_true rfl) dL_law_876 (fun H locs hC => ?_)
  refine W.eq (g2 := F0 m 879 ls [.int r]) rfl ?_
  refine lv_aload_n hx hb dL_law_879 rfl (lv_at hl 2 rfl) ?_
  refine lv_aload_n hx hb dL_law_880 rfl (lv_at hl 0 rfl) ?_
  refine lv_iload_n hx hb dL_law_881 rfl (lv_at hl 3 rfl) ?_
  refine lv_iconst (v := (1 : Int32)) hx hb dL_law_882 (by decide) ?_
  refine lv_iadd hx hb dL_law_883 ?_
  refine va_sld hx hb hX hbl hbA hC.2.2 (hv 1 (by decide)) dL_law_884 ?_
  refine lv_aload_n hx hb dL_law_885 rfl (lv_at hl 0 rfl) ?_
  refine lv_iload_n hx hb dL_law_886 rfl (lv_at hl 3 rfl) ?_
  refine lv_iconst (v := (2 : Int32)) hx hb dL_law_887 (by decide) ?_
  refine lv_iadd hx hb dL_law_888 ?_
  refine va_sld hx hb hX hbl hbA hC.2.2 (hv 2 (by decide)) dL_law_889 ?_
  refine l_callR (As := [.int (xs (i + 1).toNatClampNeg), .int (xs (i + 2).toNatClampNeg)]) (rest := [.int r]) (res := some (.int r)) fx hC (Rc_told l τ (xs (i + 1).toNatClampNeg) (xs (i + 2).toNatClampNeg) h2) k_728 Rk_told Rh_told ⟨rfl, rfl⟩ ⟨Nat.le_of_ble_eq_true rfl, Nat.le_of_ble_eq_true rfl⟩ hf0 rfl hl.1 rfl (Nat.le_of_ble_eq_true rfl) dL_law_890 (fun H locs hC => ?_)
  refine W.eq (g2 := F0 m 893 ls [.int r, .int r]) rfl ?_
  refine lv_icmp_eq (tgt := 1670) hx hb dL_law_893 (by decide) (fun _ => ?_) (fun c => absurd rfl c)
  exact W.widen (Nat.le_succ _) (Nat.le_add_right _ 8) (hk _ _ _ _ h3 hC)
def ST_total (I : DS → RS → Prop) : Prop := ∀ (σ : DS) (τ : RS), I σ τ → ∀ a1 : Int32, ∃ (r : Int64) (σ' : DS) (τ' : RS), (D8m_total σ a1 = some r ∧ σ' = σ) ∧ (Rm_total τ a1 = some r ∧ τ' = τ) ∧ I σ' τ'
set_option maxRecDepth 100000 in
set_option maxHeartbeats 4000000 in
theorem Lc_total (fx : FX p s m args meth c cL_law 4 RL D cy) (sb : SB s) (hX : va_X b L xs s s.heap) (hbl : b < s.heap.size) (hbA : ¬ s.heap.size ≤ b) (hC : LC D cy q qr s σ τ H locs) (hl : lv_has ls 4 [(0, .ref b), (1, .ref (q 0)), (2, .ref (qr 0)), (3, .int i)]) (hf : cells + 1 ≤ room_1.cells ∧ slots + 8 ≤ room_1.slots) (hv : ∀ k : Nat, k ≤ 4 → vp_in (i + Int32.ofNat k) L) {I : DS → RS → Prop} (hI : I σ τ) (st : ST_total I)
    (hk : ∀ (σ' : DS) (τ' : RS) (H1 : Heap) (locs1 : List Loc), I σ' τ' → LC D cy q qr s σ' τ' H1 locs1 → W p l e room_1 s m args below meth c H1 locs1 (cells + 1) (slots + 8) Q (F0 m 1670 ls [])) : W p l e room_1 s m args below meth c H locs cells slots Q (F0 m 898 ls []) := by
  have hx := fx.1
  have hb := fx.2.1
  have hf0 : cells ≤ room_1.cells ∧ slots ≤ room_1.slots := ⟨Nat.le_of_succ_le hf.1, Nat.le_trans (Nat.le_add_right _ 8) hf.2⟩
  obtain ⟨r, σ', τ', h1, h2, h3⟩ := st σ τ hI (xs (i + 1).toNatClampNeg)
  obtain ⟨h1, e1⟩ := h1
  rw [e1] at h3
  obtain ⟨h2, e2⟩ := h2
  rw [e2] at h3
  refine lv_aload_n hx hb dL_law_898 rfl (lv_at hl 1 rfl) ?_
  refine lv_aload_n hx hb dL_law_899 rfl (lv_at hl 0 rfl) ?_
  refine lv_iload_n hx hb dL_law_900 rfl (lv_at hl 3 rfl) ?_
  refine lv_iconst (v := (1 : Int32)) hx hb dL_law_901 (by decide) ?_
  refine lv_iadd hx hb dL_law_902 ?_
  refine va_sld hx hb hX hbl hbA hC.2.2 (hv 1 (by decide)) dL_law_903 ?_
  refine l_callD (As := [.int (xs (i + 1).toNatClampNeg)]) (rest := []) (res := some (.long r)) fx sb hC (D8c_total l σ (xs (i + 1).toNatClampNeg) h1) k_744 D8k_total D8h_total ⟨rfl, rfl⟩ ⟨Nat.le_of_ble_eq_true rfl, Nat.le_of_ble_eq_true rfl⟩ hf0 rfl hl.1 rfl (Nat.le_of_ble_eq_true rfl) dL_law_904 (fun H locs hC => ?_)
  refine W.eq (g2 := F0 m 907 ls [.long r]) rfl ?_
  refine lv_aload_n hx hb dL_law_907 rfl (lv_at hl 2 rfl) ?_
  refine lv_aload_n hx hb dL_law_908 rfl (lv_at hl 0 rfl) ?_
  refine lv_iload_n hx hb dL_law_909 rfl (lv_at hl 3 rfl) ?_
  refine lv_iconst (v := (1 : Int32)) hx hb dL_law_910 (by decide) ?_
  refine lv_iadd hx hb dL_law_911 ?_
  refine va_sld hx hb hX hbl hbA hC.2.2 (hv 1 (by decide)) dL_law_912 ?_
  refine l_callR (As := [.int (xs (i + 1).toNatClampNeg)]) (rest := [.long r]) (res := some (.long r)) fx hC (Rc_total l τ (xs (i + 1).toNatClampNeg) h2) k_750 Rk_total Rh_total ⟨rfl, rfl⟩ ⟨Nat.le_of_ble_eq_true rfl, Nat.le_of_ble_eq_true rfl⟩ hf0 rfl hl.1 rfl (Nat.le_of_ble_eq_true rfl) dL_law_913 (fun H locs hC => ?_)
  refine W.eq (g2 := F0 m 916 ls [.long r, .long r]) rfl ?_
  refine W.lcmp hx hb dL_law_916 ?_
  refine lv_if_eq (tgt := 1670) hx hb dL_law_917 (by decide) (fun _ => ?_) (fun c => absurd (lg_self r) c)
  exact W.widen (Nat.le_succ _) (Nat.le_add_right _ 8) (hk _ _ _ _ h3 hC)
def ST_often (I : DS → RS → Prop) : Prop := ∀ (σ : DS) (τ : RS), I σ τ → ∀ a1 a2 : Int32, ∃ (r : Int32) (σ' : DS) (τ' : RS), (D8m_often σ a1 a2 = some r ∧ σ' = σ) ∧ (Rm_often τ a1 a2 = some r ∧ τ' = τ) ∧ I σ' τ'
set_option maxRecDepth 100000 in
set_option maxHeartbeats 4000000 in
theorem Lc_often (fx : FX p s m args meth c cL_law 4 RL D cy) (sb : SB s) (hX : va_X b L xs s s.heap) (hbl : b < s.heap.size) (hbA : ¬ s.heap.size ≤ b) (hC : LC D cy q qr s σ τ H locs) (hl : lv_has ls 4 [(0, .ref b), (1, .ref (q 0)), (2, .ref (qr 0)), (3, .int i)]) (hf : cells + 1 ≤ room_1.cells ∧ slots + 8 ≤ room_1.slots) (hv : ∀ k : Nat, k ≤ 4 → vp_in (i + Int32.ofNat k) L) {I : DS → RS → Prop} (hI : I σ τ) (st : ST_often I)
    (hk : ∀ (σ' : DS) (τ' : RS) (H1 : Heap) (locs1 : List Loc), I σ' τ' → LC D cy q qr s σ' τ' H1 locs1 → W p l e room_1 s m args below meth c H1 locs1 (cells + 1) (slots + 8) Q (F0 m 1670 ls [])) : W p l e room_1 s m args below meth c H locs cells slots Q (F0 m 922 ls []) := by
  have hx := fx.1
  have hb := fx.2.1
  have hf0 : cells ≤ room_1.cells ∧ slots ≤ room_1.slots := ⟨Nat.le_of_succ_le hf.1, Nat.le_trans (Nat.le_add_right _ 8) hf.2⟩
  obtain ⟨r, σ', τ', h1, h2, h3⟩ := st σ τ hI (xs (i + 1).toNatClampNeg) (xs (i + 2).toNatClampNeg)
  obtain ⟨h1, e1⟩ := h1
  rw [e1] at h3
  obtain ⟨h2, e2⟩ := h2
  rw [e2] at h3
  refine lv_aload_n hx hb dL_law_922 rfl (lv_at hl 1 rfl) ?_
  refine lv_aload_n hx hb dL_law_923 rfl (lv_at hl 0 rfl) ?_
  refine lv_iload_n hx hb dL_law_924 rfl (lv_at hl 3 rfl) ?_
  refine lv_iconst (v := (1 : Int32)) hx hb dL_law_925 (by decide) ?_
  refine lv_iadd hx hb dL_law_926 ?_
  refine va_sld hx hb hX hbl hbA hC.2.2 (hv 1 (by decide)) dL_law_927 ?_
  refine lv_aload_n hx hb dL_law_928 rfl (lv_at hl 0 rfl) ?_
  refine lv_iload_n hx hb dL_law_929 rfl (lv_at hl 3 rfl) ?_
  refine lv_iconst (v := (2 : Int32)) hx hb dL_law_930 (by decide) ?_
  refine lv_iadd hx hb dL_law_931 ?_
  refine va_sld hx hb hX hbl hbA hC.2.2 (hv 2 (by decide)) dL_law_932 ?_
  refine l_callD (As := [.int (xs (i + 1).toNatClampNeg), .int (xs (i + 2).toNatClampNeg)]) (rest := []) (res := some (.int r)) fx sb hC (D8c_often l σ (xs (i + 1).toNatClampNeg) (xs (i + 2).toNatClampNeg) h1) k_754 D8k_often D8h_often ⟨rfl, rfl⟩ ⟨Nat.le_of_ble_eq_true rfl, Nat.le_of_ble_eq_true rfl⟩ hf0 rfl hl.1 rfl (Nat.le_of_ble_eq_true rfl) dL_law_933 (fun H locs hC => ?_)
  refine W.eq (g2 := F0 m 936 ls [.int r]) rfl ?_
  refine lv_aload_n hx hb dL_law_936 rfl (lv_at hl 2 rfl) ?_
  refine lv_aload_n hx hb dL_law_937 rfl (lv_at hl 0 rfl) ?_
  refine lv_iload_n hx hb dL_law_938 rfl (lv_at hl 3 rfl) ?_
  refine lv_iconst (v := (1 : Int32)) hx hb dL_law_939 (by decide) ?_
  refine lv_iadd hx hb dL_law_940 ?_
  refine va_sld hx hb hX hbl hbA hC.2.2 (hv 1 (by decide)) dL_law_941 ?_
  refine lv_aload_n hx hb dL_law_942 rfl (lv_at hl 0 rfl) ?_
  refine lv_iload_n hx hb dL_law_943 rfl (lv_at hl 3 rfl) ?_
  refine lv_iconst (v := (2 : Int32)) hx hb dL_law_944 (by decide) ?_
  refine lv_iadd hx hb dL_law_945 ?_
  refine va_sld hx hb hX hbl hbA hC.2.2 (hv 2 (by decide)) dL_law_946 ?_
  refine l_callR (As := [.int (xs (i + 1).toNatClampNeg), .int (xs (i + 2).toNatClampNeg)]) (rest := [.int r]) (res := some (.int r)) fx hC (Rc_often l τ (xs (i + 1).toNatClampNeg) (xs (i + 2).toNatClampNeg) h2) k_758 Rk_often Rh_often ⟨rfl, rfl⟩ ⟨Nat.le_of_ble_eq_true rfl, Nat.le_of_ble_eq_true rfl⟩ hf0 rfl hl.1 rfl (Nat.le_of_ble_eq_true rfl) dL_law_947 (fun H locs hC => ?_)
  refine W.eq (g2 := F0 m 950 ls [.int r, .int r]) rfl ?_
  refine lv_icmp_eq (tgt := 1670) hx hb dL_law_950 (by decide) (fun _ => ?_) (fun c => absurd rfl c)
  exact W.widen (Nat.le_succ _) (Nat.le_add_right _ 8) (hk _ _ _ _ h3 hC)
def ST_has (I : DS → RS → Prop) : Prop := ∀ (σ : DS) (τ : RS), I σ τ → ∀ a1 a2 : Int32, ∃ (r : Int32) (σ' : DS) (τ' : RS), (D8m_has σ a1 a2 = some r ∧ σ' = σ) ∧ (Rm_has τ a1 a2 = some r ∧ τ' = τ) ∧ I σ' τ'
set_option maxRecDepth 100000 in
set_option maxHeartbeats 4000000 in
theorem Lc_has (fx : FX p s m args meth c cL_law 4 RL D cy) (sb : SB s) (hX : va_X b L xs s s.heap) (hbl : b < s.heap.size) (hbA : ¬ s.heap.size ≤ b) (hC : LC D cy q qr s σ τ H locs) (hl : lv_has ls 4 [(0, .ref b), (1, .ref (q 0)), (2, .ref (qr 0)), (3, .int i)]) (hf : cells + 1 ≤ room_1.cells ∧ slots + 8 ≤ room_1.slots) (hv : ∀ k : Nat, k ≤ 4 → vp_in (i + Int32.ofNat k) L) {I : DS → RS → Prop} (hI : I σ τ) (st : ST_has I)
    (hk : ∀ (σ' : DS) (τ' : RS) (H1 : Heap) (locs1 : List Loc), I σ' τ' → LC D cy q qr s σ' τ' H1 locs1 → W p l e room_1 s m args below meth c H1 locs1 (cells + 1) (slots + 8) Q (F0 m 1670 ls [])) : W p l e room_1 s m args below meth c H locs cells slots Q (F0 m 955 ls []) := by
  have hx := fx.1
  have hb := fx.2.1
  have hf0 : cells ≤ room_1.cells ∧ slots ≤ room_1.slots := ⟨Nat.le_of_succ_le hf.1, Nat.le_trans (Nat.le_add_right _ 8) hf.2⟩
  obtain ⟨r, σ', τ', h1, h2, h3⟩ := st σ τ hI (xs (i + 1).toNatClampNeg) (xs (i + 2).toNatClampNeg)
  obtain ⟨h1, e1⟩ := h1
  rw [e1] at h3
  obtain ⟨h2, e2⟩ := h2
  rw [e2] at h3
  refine lv_aload_n hx hb dL_law_955 rfl (lv_at hl 1 rfl) ?_
  refine lv_aload_n hx hb dL_law_956 rfl (lv_at hl 0 rfl) ?_
  refine lv_iload_n hx hb dL_law_957 rfl (lv_at hl 3 rfl) ?_
  refine lv_iconst (v := (1 : Int32)) hx hb dL_law_958 (by decide) ?_
  refine lv_iadd hx hb dL_law_959 ?_
  refine va_sld hx hb hX hbl hbA hC.2.2 (hv 1 (by decide)) dL_law_960 ?_
  refine lv_aload_n hx hb dL_law_961 rfl (lv_at hl 0 rfl) ?_
  refine lv_iload_n hx hb dL_law_962 rfl (lv_at hl 3 rfl) ?_
  refine lv_iconst (v := (2 : Int32)) hx hb dL_law_963 (by decide) ?_
  refine lv_iadd hx hb dL_law_964 ?_
  refine va_sld hx hb hX hbl hbA hC.2.2 (hv 2 (by decide)) dL_law_965 ?_
  refine l_callD (As := [.int (xs (i + 1).toNatClampNeg), .int (xs (i + 2).toNatClampNeg)]) (rest := []) (res := some (.int r)) fx sb hC (D8c_has l σ (xs (i + 1).toNatClampNeg) (xs (i + 2).toNatClampNeg) h1) k_762 D8k_has D8h_has ⟨rfl, rfl⟩ ⟨Nat.le_of_ble_eq_true rfl, Nat.le_of_ble_eq_true rfl⟩ hf0 rfl hl.1 rfl (Nat.le_of_ble_eq_true rfl) dL_law_966 (fun H locs hC => ?_)
  refine W.eq (g2 := F0 m 969 ls [.int r]) rfl ?_
  refine lv_aload_n hx hb dL_law_969 rfl (lv_at hl 2 rfl) ?_
  refine lv_aload_n hx hb dL_law_970 rfl (lv_at hl 0 rfl) ?_
  refine lv_iload_n hx hb dL_law_971 rfl (lv_at hl 3 rfl) ?_
  refine lv_iconst (v := (1 : Int32)) hx hb dL_law_972 (by decide) ?_
  refine lv_iadd hx hb dL_law_973 ?_
  refine va_sld hx hb hX hbl hbA hC.2.2 (hv 1 (by decide)) dL_law_974 ?_
  refine lv_aload_n hx hb dL_law_975 rfl (lv_at hl 0 rfl) ?_
  refine lv_iload_n hx hb dL_law_976 rfl (lv_at hl 3 rfl) ?_
  refine lv_iconst (v := (2 : Int32)) hx hb dL_law_977 (by decide) ?_
  refine lv_iadd hx hb dL_law_978 ?_
  refine va_sld hx hb hX hbl hbA hC.2.2 (hv 2 (by decide)) dL_law_979 ?_
  refine l_callR (As := [.int (xs (i + 1).toNatClampNeg), .int (xs (i + 2).toNatClampNeg)]) (rest := [.int r]) (res := some (.int r)) fx hC (Rc_has l τ (xs (i + 1).toNatClampNeg) (xs (i + 2).toNatClampNeg) h2) k_767 Rk_has Rh_has ⟨rfl, rfl⟩ ⟨Nat.le_of_ble_eq_true rfl, Nat.le_of_ble_eq_true rfl⟩ hf0 rfl hl.1 rfl (Nat.le_of_ble_eq_true rfl) dL_law_980 (fun H locs hC => ?_)
  refine W.eq (g2 := F0 m 983 ls [.int r, .int r]) rfl ?_
  refine lv_icmp_eq (tgt := 1670) hx hb dL_law_983 (by decide) (fun _ => ?_) (fun c => absurd rfl c)
  exact W.widen (Nat.le_succ _) (Nat.le_add_right _ 8) (hk _ _ _ _ h3 hC)
def ST_way (I : DS → RS → Prop) : Prop := ∀ (σ : DS) (τ : RS), I σ τ → ∀ a1 a2 : Int32, ∃ (r : Int32) (σ' : DS) (τ' : RS), (D8m_way σ a1 a2 = some r ∧ σ' = σ) ∧ (Rm_way τ a1 a2 = some r ∧ τ' = τ) ∧ I σ' τ'
set_option maxRecDepth 100000 in
set_option maxHeartbeats 4000000 in
theorem Lc_way (fx : FX p s m args meth c cL_law 4 RL D cy) (sb : SB s) (hX : va_X b L xs s s.heap) (hbl : b < s.heap.size) (hbA : ¬ s.heap.size ≤ b) (hC : LC D cy q qr s σ τ H locs) (hl : lv_has ls 4 [(0, .ref b), (1, .ref (q 0)), (2, .ref (qr 0)), (3, .int i)]) (hf : cells + 1 ≤ room_1.cells ∧ slots + 8 ≤ room_1.slots) (hv : ∀ k : Nat, k ≤ 4 → vp_in (i + Int32.ofNat k) L) {I : DS → RS → Prop} (hI : I σ τ) (st : ST_way I)
    (hk : ∀ (σ' : DS) (τ' : RS) (H1 : Heap) (locs1 : List Loc), I σ' τ' → LC D cy q qr s σ' τ' H1 locs1 → W p l e room_1 s m args below meth c H1 locs1 (cells + 1) (slots + 8) Q (F0 m 1670 ls [])) : W p l e room_1 s m args below meth c H locs cells slots Q (F0 m 988 ls []) := by
  have hx := fx.1
  have hb := fx.2.1
  have hf0 : cells ≤ room_1.cells ∧ slots ≤ room_1.slots := ⟨Nat.le_of_succ_le hf.1, Nat.le_trans (Nat.le_add_right _ 8) hf.2⟩
  obtain ⟨r, σ', τ', h1, h2, h3⟩ := st σ τ hI (xs (i + 1).toNatClampNeg) (xs (i + 2).toNatClampNeg)
  obtain ⟨h1, e1⟩ := h1
  rw [e1] at h3
  obtain ⟨h2, e2⟩ := h2
  rw [e2] at h3
  refine lv_aload_n hx hb dL_law_988 rfl (lv_at hl 1 rfl) ?_
  refine lv_aload_n hx hb dL_law_989 rfl (lv_at hl 0 rfl) ?_
  refine lv_iload_n hx hb dL_law_990 rfl (lv_at hl 3 rfl) ?_
  refine lv_iconst (v := (1 : Int32)) hx hb dL_law_991 (by decide) ?_
  refine lv_iadd hx hb dL_law_992 ?_
  refine va_sld hx hb hX hbl hbA hC.2.2 (hv 1 (by decide)) dL_law_993 ?_
  refine lv_aload_n hx hb dL_law_994 rfl (lv_at hl 0 rfl) ?_
  refine lv_iload_n hx hb dL_law_995 rfl (lv_at hl 3 rfl) ?_
  refine lv_iconst (v := (2 : Int32)) hx hb dL_law_996 (by decide) ?_
  refine lv_iadd hx hb dL_law_997 ?_
  refine va_sld hx hb hX hbl hbA hC.2.2 (hv 2 (by decide)) dL_law_998 ?_
  refine l_callD (As := [.int (xs (i + 1).toNatClampNeg), .int (xs (i + 2).toNatClampNeg)]) (rest := []) (res := some (.int r)) fx sb hC (D8c_way l σ (xs (i + 1).toNatClampNeg) (xs (i + 2).toNatClampNeg) h1) k_771 D8k_way D8h_way ⟨rfl, rfl⟩ ⟨Nat.le_of_ble_eq_true rfl, Nat.le_of_ble_eq_true rfl⟩ hf0 rfl hl.1 rfl (Nat.le_of_ble_eq_true rfl) dL_law_999 (fun H locs hC => ?_)
  refine W.eq (g2 := F0 m 1002 ls [.int r]) rfl ?_
  refine lv_aload_n hx hb dL_law_1002 rfl (lv_at hl 2 rfl) ?_
  refine lv_aload_n hx hb dL_law_1003 rfl (lv_at hl 0 rfl) ?_
  refine lv_iload_n hx hb dL_law_1004 rfl (lv_at hl 3 rfl) ?_
  refine lv_iconst (v := (1 : Int32)) hx hb dL_law_1005 (by decide) ?_
  refine lv_iadd hx hb dL_law_1006 ?_
  refine va_sld hx hb hX hbl hbA hC.2.2 (hv 1 (by decide)) dL_law_1007 ?_
  refine lv_aload_n hx hb dL_law_1008 rfl (lv_at hl 0 rfl) ?_
  refine lv_iload_n hx hb dL_law_1009 rfl (lv_at hl 3 rfl) ?_
  refine lv_iconst (v := (2 : Int32)) hx hb dL_law_1010 (by decide) ?_
  refine lv_iadd hx hb dL_law_1011 ?_
  refine va_sld hx hb hX hbl hbA hC.2.2 (hv 2 (by decide)) dL_law_1012 ?_
  refine l_callR (As := [.int (xs (i + 1).toNatClampNeg), .int (xs (i + 2).toNatClampNeg)]) (rest := [.int r]) (res := some (.int r)) fx hC (Rc_way l τ (xs (i + 1).toNatClampNeg) (xs (i + 2).toNatClampNeg) h2) k_785 Rk_way Rh_way ⟨rfl, rfl⟩ ⟨Nat.le_of_ble_eq_true rfl, Nat.le_of_ble_eq_true rfl⟩ hf0 rfl hl.1 rfl (Nat.le_of_ble_eq_true rfl) dL_law_1013 (fun H locs hC => ?_)
  refine W.eq (g2 := F0 m 1016 ls [.int r, .int r]) rfl ?_
  refine lv_icmp_eq (tgt := 1670) hx hb dL_law_1016 (by decide) (fun _ => ?_) (fun c => absurd rfl c)
  exact W.widen (Nat.le_succ _) (Nat.le_add_right _ 8) (hk _ _ _ _ h3 hC)
def ST_rank (I : DS → RS → Prop) : Prop := ∀ (σ : DS) (τ : RS), I σ τ → ∀ a1 a2 : Int32, ∃ (r : Int32) (σ' : DS) (τ' : RS), (D8m_rank σ a1 a2 = some r ∧ σ' = σ) ∧ (Rm_rank τ a1 a2 = some r ∧ τ' = τ) ∧ I σ' τ'
set_option maxRecDepth 100000 in
set_option maxHeartbeats 4000000 in
theorem Lc_rank (fx : FX p s m args meth c cL_law 4 RL D cy) (sb : SB s) (hX : va_X b L xs s s.heap) (hbl : b < s.heap.size) (hbA : ¬ s.heap.size ≤ b) (hC : LC D cy q qr s σ τ H locs) (hl : lv_has ls 4 [(0, .ref b), (1, .ref (q 0)), (2, .ref (qr 0)), (3, .int i)]) (hf : cells + 1 ≤ room_1.cells ∧ slots + 8 ≤ room_1.slots) (hv : ∀ k : Nat, k ≤ 4 → vp_in (i + Int32.ofNat k) L) {I : DS → RS → Prop} (hI : I σ τ) (st : ST_rank I)
    (hk : ∀ (σ' : DS) (τ' : RS) (H1 : Heap) (locs1 : List Loc), I σ' τ' → LC D cy q qr s σ' τ' H1 locs1 → W p l e room_1 s m args below meth c H1 locs1 (cells + 1) (slots + 8) Q (F0 m 1670 ls [])) : W p l e room_1 s m args below meth c H locs cells slots Q (F0 m 1021 ls []) := by
  have hx := fx.1
  have hb := fx.2.1
  have hf0 : cells ≤ room_1.cells ∧ slots ≤ room_1.slots := ⟨Nat.le_of_succ_le hf.1, Nat.le_trans (Nat.le_add_right _ 8) hf.2⟩
  obtain ⟨r, σ', τ', h1, h2, h3⟩ := st σ τ hI (xs (i + 1).toNatClampNeg) (xs (i + 2).toNatClampNeg)
  obtain ⟨h1, e1⟩ := h1
  rw [e1] at h3
  obtain ⟨h2, e2⟩ := h2
  rw [e2] at h3
  refine lv_aload_n hx hb dL_law_1021 rfl (lv_at hl 1 rfl) ?_
  refine lv_aload_n hx hb dL_law_1022 rfl (lv_at hl 0 rfl) ?_
  refine lv_iload_n hx hb dL_law_1023 rfl (lv_at hl 3 rfl) ?_
  refine lv_iconst (v := (1 : Int32)) hx hb dL_law_1024 (by decide) ?_
  refine lv_iadd hx hb dL_law_1025 ?_
  refine va_sld hx hb hX hbl hbA hC.2.2 (hv 1 (by decide)) dL_law_1026 ?_
  refine lv_aload_n hx hb dL_law_1027 rfl (lv_at hl 0 rfl) ?_
  refine lv_iload_n hx hb dL_law_1028 rfl (lv_at hl 3 rfl) ?_
  refine lv_iconst (v := (2 : Int32)) hx hb dL_law_1029 (by decide) ?_
  refine lv_iadd hx hb dL_law_1030 ?_
  refine va_sld hx hb hX hbl hbA hC.2.2 (hv 2 (by decide)) dL_law_1031 ?_
  refine l_callD (As := [.int (xs (i + 1).toNatClampNeg), .int (xs (i + 2).toNatClampNeg)]) (rest := []) (res := some (.int r)) fx sb hC (D8c_rank l σ (xs (i + 1).toNatClampNeg) (xs (i + 2).toNatClampNeg) h1) k_796 D8k_rank D8h_rank ⟨rfl, rfl⟩ ⟨Nat.le_of_ble_eq_true rfl, Nat.le_of_ble_eq_true rfl⟩ hf0 rfl hl.1 rfl (Nat.le_of_ble_eq_true rfl) dL_law_1032 (fun H locs hC => ?_)
  refine W.eq (g2 := F0 m 1035 ls [.int r]) rfl ?_
  refine lv_aload_n hx hb dL_law_1035 rfl (lv_at hl 2 rfl) ?_
  refine lv_aload_n hx hb dL_law_1036 rfl (lv_at hl 0 rfl) ?_
  refine lv_iload_n hx hb dL_law_1037 rfl (lv_at hl 3 rfl) ?_
  refine lv_iconst (v := (1 : Int32)) hx hb dL_law_1038 (by decide) ?_
  refine lv_iadd hx hb dL_law_1039 ?_
  refine va_sld hx hb hX hbl hbA hC.2.2 (hv 1 (by decide)) dL_law_1040 ?_
  refine lv_aload_n hx hb dL_law_1041 rfl (lv_at hl 0 rfl) ?_
  refine lv_iload_n hx hb dL_law_1042 rfl (lv_at hl 3 rfl) ?_
  refine lv_iconst (v := (2 : Int32)) hx hb dL_law_1043 (by decide) ?_
  refine lv_iadd hx hb dL_law_1044 ?_
  refine va_sld hx hb hX hbl hbA hC.2.2 (hv 2 (by decide)) dL_law_1045 ?_
  refine l_callR (As := [.int (xs (i + 1).toNatClampNeg), .int (xs (i + 2).toNatClampNeg)]) (rest := [.int r]) (res := some (.int r)) fx hC (Rc_rank l τ (xs (i + 1).toNatClampNeg) (xs (i + 2).toNatClampNeg) h2) k_804 Rk_rank Rh_rank ⟨rfl, rfl⟩ ⟨Nat.le_of_ble_eq_true rfl, Nat.le_of_ble_eq_true rfl⟩ hf0 rfl hl.1 rfl (Nat.le_of_ble_eq_true rfl) dL_law_1046 (fun H locs hC => ?_)
  refine W.eq (g2 := F0 m 1049 ls [.int r, .int r]) rfl ?_
  refine lv_icmp_eq (tgt := 1670) hx hb dL_law_1049 (by decide) (fun _ => ?_) (fun c => absurd rfl c)
  exact W.widen (Nat.le_succ _) (Nat.le_add_right _ 8) (hk _ _ _ _ h3 hC)
def ST_best (I : DS → RS → Prop) : Prop := ∀ (σ : DS) (τ : RS), I σ τ → ∀ a1 a2 a3 : Int32, ∃ (r : Int32) (σ' : DS) (τ' : RS), (D8m_best σ a1 a2 a3 = some (r, σ')) ∧ (Rm_best τ a1 a2 a3 = some r ∧ τ' = τ) ∧ I σ' τ'
set_option maxRecDepth 100000 in
set_option maxHeartbeats 4000000 in
theorem Lc_best (fx : FX p s m args meth c cL_law 4 RL D cy) (sb : SB s) (hX : va_X b L xs s s.heap) (hbl : b < s.heap.size) (hbA : ¬ s.heap.size ≤ b) (hC : LC D cy q qr s σ τ H locs) (hl : lv_has ls 4 [(0, .ref b), (1, .ref (q 0)), (2, .ref (qr 0)), (3, .int i)]) (hf : cells + 1 ≤ room_1.cells ∧ slots + 8 ≤ room_1.slots) (hv : ∀ k : Nat, k ≤ 4 → vp_in (i + Int32.ofNat k) L) {I : DS → RS → Prop} (hI : I σ τ) (st : ST_best I)
    (hk : ∀ (σ' : DS) (τ' : RS) (H1 : Heap) (locs1 : List Loc), I σ' τ' → LC D cy q qr s σ' τ' H1 locs1 → W p l e room_1 s m args below meth c H1 locs1 (cells + 1) (slots + 8) Q (F0 m 1670 ls [])) : W p l e room_1 s m args below meth c H locs cells slots Q (F0 m 1054 ls []) := by
  have hx := fx.1
  have hb := fx.2.1
  have hf0 : cells ≤ room_1.cells ∧ slots ≤ room_1.slots := ⟨Nat.le_of_succ_le hf.1, Nat.le_trans (Nat.le_add_right _ 8) hf.2⟩
  obtain ⟨r, σ', τ', h1, h2, h3⟩ := st σ τ hI (xs (i + 1).toNatClampNeg) (xs (i + 2).toNatClampNeg) (xs (i + 3).toNatClampNeg)
  obtain ⟨h2, e2⟩ := h2
  rw [e2] at h3
  refine lv_aload_n hx hb dL_law_1054 rfl (lv_at hl 1 rfl) ?_
  refine lv_aload_n hx hb dL_law_1055 rfl (lv_at hl 0 rfl) ?_
  refine lv_iload_n hx hb dL_law_1056 rfl (lv_at hl 3 rfl) ?_
  refine lv_iconst (v := (1 : Int32)) hx hb dL_law_1057 (by decide) ?_
  refine lv_iadd hx hb dL_law_1058 ?_
  refine va_sld hx hb hX hbl hbA hC.2.2 (hv 1 (by decide)) dL_law_1059 ?_
  refine lv_aload_n hx hb dL_law_1060 rfl (lv_at hl 0 rfl) ?_
  refine lv_iload_n hx hb dL_law_1061 rfl (lv_at hl 3 rfl) ?_
  refine lv_iconst (v := (2 : Int32)) hx hb dL_law_1062 (by decide) ?_
  refine lv_iadd hx hb dL_law_1063 ?_
  refine va_sld hx hb hX hbl hbA hC.2.2 (hv 2 (by decide)) dL_law_1064 ?_
  refine lv_aload_n hx hb dL_law_1065 rfl (lv_at hl 0 rfl) ?_
  refine lv_iload_n hx hb dL_law_1066 rfl (lv_at hl 3 rfl) ?_
  refine lv_iconst (v := (3 : Int32)) hx hb dL_law_1067 (by decide) ?_
  refine lv_iadd hx hb dL_law_1068 ?_
  refine va_sld hx hb hX hbl hbA hC.2.2 (hv 3 (by decide)) dL_law_1069 ?_
  refine l_callD (As := [.int (xs (i + 1).toNatClampNeg), .int (xs (i + 2).toNatClampNeg), .int (xs (i + 3).toNatClampNeg)]) (rest := []) (res := some (.int r)) fx sb hC (D8c_best l σ (xs (i + 1).toNatClampNeg) (xs (i + 2).toNatClampNeg) (xs (i + 3).toNatClampNeg) h1) k_808 D8k_best D8h_best ⟨rfl, rfl⟩ ⟨Nat.le_of_ble_eq_true rfl, Nat.le_of_ble_eq_true rfl⟩ hf0 rfl hl.1 rfl (Nat.le_of_ble_eq_true rfl) dL_law_1070 (fun H locs hC => ?_)
  refine W.eq (g2 := F0 m 1073 ls [.int r]) rfl ?_
  refine lv_aload_n hx hb dL_law_1073 rfl (lv_at hl 2 rfl) ?_
  refine lv_aload_n hx hb dL_law_1074 rfl (lv_at hl 0 rfl) ?_
  refine lv_iload_n hx hb dL_law_1075 rfl (lv_at hl 3 rfl) ?_
  refine lv_iconst (v := (1 : Int32)) hx hb dL_law_1076 (by decide) ?_
  refine lv_iadd hx hb dL_law_1077 ?_
  refine va_sld hx hb hX hbl hbA hC.2.2 (hv 1 (by decide)) dL_law_1078 ?_
  refine lv_aload_n hx hb dL_law_1079 rfl (lv_at hl 0 rfl) ?_
  refine lv_iload_n hx hb dL_law_1080 rfl (lv_at hl 3 rfl) ?_
  refine lv_iconst (v := (2 : Int32)) hx hb dL_law_1081 (by decide) ?_
  refine lv_iadd hx hb dL_law_1082 ?_
  refine va_sld hx hb hX hbl hbA hC.2.2 (hv 2 (by decide)) dL_law_1083 ?_
  refine lv_aload_n hx hb dL_law_1084 rfl (lv_at hl 0 rfl) ?_
  refine lv_iload_n hx hb dL_law_1085 rfl (lv_at hl 3 rfl) ?_
  refine lv_iconst (v := (3 : Int32)) hx hb dL_law_1086 (by decide) ?_
  refine lv_iadd hx hb dL_law_1087 ?_
  refine va_sld hx hb hX hbl hbA hC.2.2 (hv 3 (by decide)) dL_law_1088 ?_
  refine l_callR (As := [.int (xs (i + 1).toNatClampNeg), .int (xs (i + 2).toNatClampNeg), .int (xs (i + 3).toNatClampNeg)]) (rest := [.int r]) (res := some (.int r)) fx hC (Rc_best l τ (xs (i + 1).toNatClampNeg) (xs (i + 2).toNatClampNeg) (xs (i + 3).toNatClampNeg) h2) k_826 Rk_best Rh_best ⟨rfl, rfl⟩ ⟨Nat.le_of_ble_eq_true rfl, Nat.le_of_ble_eq_true rfl⟩ hf0 rfl hl.1 rfl (Nat.le_of_ble_eq_true rfl) dL_law_1089 (fun H locs hC => ?_)
  refine W.eq (g2 := F0 m 1092 ls [.int r, .int r]) rfl ?_
  refine lv_icmp_eq (tgt := 1670) hx hb dL_law_1092 (by decide) (fun _ => ?_) (fun c => absurd rfl c)
  exact W.widen (Nat.le_succ _) (Nat.le_add_right _ 8) (hk _ _ _ _ h3 hC)
def ST_draw (I : DS → RS → Prop) : Prop := ∀ (σ : DS) (τ : RS), I σ τ → ∀ a1 a2 : Int32, ∃ (r : Int32) (σ' : DS) (τ' : RS), (D8m_draw σ a1 a2 = some r ∧ σ' = σ) ∧ (Rm_draw τ a1 a2 = some r ∧ τ' = τ) ∧ I σ' τ'
set_option maxRecDepth 100000 in
set_option maxHeartbeats 4000000 in
theorem Lc_draw (fx : FX p s m args meth c cL_law 4 RL D cy) (sb : SB s) (hX : va_X b L xs s s.heap) (hbl : b < s.heap.size) (hbA : ¬ s.heap.size ≤ b) (hC : LC D cy q qr s σ τ H locs) (hl : lv_has ls 4 [(0, .ref b), (1, .ref (q 0)), (2, .ref (qr 0)), (3, .int i)]) (hf : cells + 1 ≤ room_1.cells ∧ slots + 8 ≤ room_1.slots) (hv : ∀ k : Nat, k ≤ 4 → vp_in (i + Int32.ofNat k) L) {I : DS → RS → Prop} (hI : I σ τ) (st : ST_draw I)
    (hk : ∀ (σ' : DS) (τ' : RS) (H1 : Heap) (locs1 : List Loc), I σ' τ' → LC D cy q qr s σ' τ' H1 locs1 → W p l e room_1 s m args below meth c H1 locs1 (cells + 1) (slots + 8) Q (F0 m 1670 ls [])) : W p l e room_1 s m args below meth c H locs cells slots Q (F0 m 1097 ls []) := by
  have hx := fx.1
  have hb := fx.2.1
  have hf0 : cells ≤ room_1.cells ∧ slots ≤ room_1.slots := ⟨Nat.le_of_succ_le hf.1, Nat.le_trans (Nat.le_add_right _ 8) hf.2⟩
  obtain ⟨r, σ', τ', h1, h2, h3⟩ := st σ τ hI (xs (i + 1).toNatClampNeg) (xs (i + 2).toNatClampNeg)
  obtain ⟨h1, e1⟩ := h1
  rw [e1] at h3
  obtain ⟨h2, e2⟩ := h2
  rw [e2] at h3
  refine lv_aload_n hx hb dL_law_1097 rfl (lv_at hl 1 rfl) ?_
  refine lv_aload_n hx hb dL_law_1098 rfl (lv_at hl 0 rfl) ?_
  refine lv_iload_n hx hb dL_law_1099 rfl (lv_at hl 3 rfl) ?_
  refine lv_iconst (v := (1 : Int32)) hx hb dL_law_1100 (by decide) ?_
  refine lv_iadd hx hb dL_law_1101 ?_
  refine va_sld hx hb hX hbl hbA hC.2.2 (hv 1 (by decide)) dL_law_1102 ?_
  refine lv_aload_n hx hb dL_law_1103 rfl (lv_at hl 0 rfl) ?_
  refine lv_iload_n hx hb dL_law_1104 rfl (lv_at hl 3 rfl) ?_
  refine lv_iconst (v := (2 : Int32)) hx hb dL_law_1105 (by decide) ?_
  refine lv_iadd hx hb dL_law_1106 ?_
  refine va_sld hx hb hX hbl hbA hC.2.2 (hv 2 (by decide)) dL_law_1107 ?_
  refine l_callD (As := [.int (xs (i + 1).toNatClampNeg), .int (xs (i + 2).toNatClampNeg)]) (rest := []) (res := some (.int r)) fx sb hC (D8c_draw l σ (xs (i + 1).toNatClampNeg) (xs (i + 2).toNatClampNeg) h1) k_830 D8k_draw D8h_draw ⟨rfl, rfl⟩ ⟨Nat.le_of_ble_eq_true rfl, Nat.le_of_ble_eq_true rfl⟩ hf0 rfl hl.1 rfl (Nat.le_of_ble_eq_true rfl) dL_law_1108 (fun H locs hC => ?_)
  refine W.eq (g2 := F0 m 1111 ls [.int r]) rfl ?_
  refine lv_aload_n hx hb dL_law_1111 rfl (lv_at hl 2 rfl) ?_
  refine lv_aload_n hx hb dL_law_1112 rfl (lv_at hl 0 rfl) ?_
  refine lv_iload_n hx hb dL_law_1113 rfl (lv_at hl 3 rfl) ?_
  refine lv_iconst (v := (1 : Int32)) hx hb dL_law_1114 (by decide) ?_
  refine lv_iadd hx hb dL_law_1115 ?_
  refine va_sld hx hb hX hbl hbA hC.2.2 (hv 1 (by decide)) dL_law_1116 ?_
  refine lv_aload_n hx hb dL_law_1117 rfl (lv_at hl 0 rfl) ?_
  refine lv_iload_n hx hb dL_law_1118 rfl (lv_at hl 3 rfl) ?_
  refine lv_iconst (v := (2 : Int32)) hx hb dL_law_1119 (by decide) ?_
  refine lv_iadd hx hb dL_law_1120 ?_
  refine va_sld hx hb hX hbl hbA hC.2.2 (hv 2 (by decide)) dL_law_1121 ?_
  refine l_callR (As := [.int (xs (i + 1).toNatClampNeg), .int (xs (i + 2).toNatClampNeg)]) (rest := [.int r]) (res := some (.int r)) fx hC (Rc_draw l τ (xs (i + 1).toNatClampNeg) (xs (i + 2).toNatClampNeg) h2) k_838 Rk_draw Rh_draw ⟨rfl, rfl⟩ ⟨Nat.le_of_ble_eq_true rfl, Nat.le_of_ble_eq_true rfl⟩ hf0 rfl hl.1 rfl (Nat.le_of_ble_eq_true rfl) dL_law_1122 (fun H locs hC => ?_)
  refine W.eq (g2 := F0 m 1125 ls [.int r, .int r]) rfl ?_
  refine lv_icmp_eq (tgt := 1670) hx hb dL_law_1125 (by decide) (fun _ => ?_) (fun c => absurd rfl c)
  exact W.widen (Nat.le_succ _) (Nat.le_add_right _ 8) (hk _ _ _ _ h3 hC)
def ST_same (I : DS → RS → Prop) : Prop := ∀ (σ : DS) (τ : RS), I σ τ → ∀ a1 a2 : Int32, ∃ (r : Int32) (σ' : DS) (τ' : RS), (D8m_same σ a1 a2 = some r ∧ σ' = σ) ∧ (Rm_same τ a1 a2 = some r ∧ τ' = τ) ∧ I σ' τ'
set_option maxRecDepth 100000 in
set_option maxHeartbeats 4000000 in
theorem Lc_same (fx : FX p s m args meth c cL_law 4 RL D cy) (sb : SB s) (hX : va_X b L xs s s.heap) (hbl : b < s.heap.size) (hbA : ¬ s.heap.size ≤ b) (hC : LC D cy q qr s σ τ H locs) (hl : lv_has ls 4 [(0, .ref b), (1, .ref (q 0)), (2, .ref (qr 0)), (3, .int i)]) (hf : cells + 1 ≤ room_1.cells ∧ slots + 8 ≤ room_1.slots) (hv : ∀ k : Nat, k ≤ 4 → vp_in (i + Int32.ofNat k) L) {I : DS → RS → Prop} (hI : I σ τ) (st : ST_same I)
    (hk : ∀ (σ' : DS) (τ' : RS) (H1 : Heap) (locs1 : List Loc), I σ' τ' → LC D cy q qr s σ' τ' H1 locs1 → W p l e room_1 s m args below meth c H1 locs1 (cells + 1) (slots + 8) Q (F0 m 1670 ls [])) : W p l e room_1 s m args below meth c H locs cells slots Q (F0 m 1130 ls []) := by
  have hx := fx.1
  have hb := fx.2.1
  have hf0 : cells ≤ room_1.cells ∧ slots ≤ room_1.slots := ⟨Nat.le_of_succ_le hf.1, Nat.le_trans (Nat.le_add_right _ 8) hf.2⟩
  obtain ⟨r, σ', τ', h1, h2, h3⟩ := st σ τ hI (xs (i + 1).toNatClampNeg) (xs (i + 2).toNatClampNeg)
  obtain ⟨h1, e1⟩ := h1
  rw [e1] at h3
  obtain ⟨h2, e2⟩ := h2
  rw [e2] at h3
  refine lv_aload_n hx hb dL_law_1130 rfl (lv_at hl 1 rfl) ?_
  refine lv_aload_n hx hb dL_law_1131 rfl (lv_at hl 0 rfl) ?_
  refine lv_iload_n hx hb dL_law_1132 rfl (lv_at hl 3 rfl) ?_
  refine lv_iconst (v := (1 : Int32)) hx hb dL_law_1133 (by decide) ?_
  refine lv_iadd hx hb dL_law_1134 ?_
  refine va_sld hx hb hX hbl hbA hC.2.2 (hv 1 (by decide)) dL_law_1135 ?_
  refine lv_aload_n hx hb dL_law_1136 rfl (lv_at hl 0 rfl) ?_
  refine lv_iload_n hx hb dL_law_1137 rfl (lv_at hl 3 rfl) ?_
  refine lv_iconst (v := (2 : Int32)) hx hb dL_law_1138 (by decide) ?_
  refine lv_iadd hx hb dL_law_1139 ?_
  refine va_sld hx hb hX hbl hbA hC.2.2 (hv 2 (by decide)) dL_law_1140 ?_
  refine l_callD (As := [.int (xs (i + 1).toNatClampNeg), .int (xs (i + 2).toNatClampNeg)]) (rest := []) (res := some (.int r)) fx sb hC (D8c_same l σ (xs (i + 1).toNatClampNeg) (xs (i + 2).toNatClampNeg) h1) k_843 D8k_same D8h_same ⟨rfl, rfl⟩ ⟨Nat.le_of_ble_eq_true rfl, Nat.le_of_ble_eq_true rfl⟩ hf0 rfl hl.1 rfl (Nat.le_of_ble_eq_true rfl) dL_law_1141 (fun H locs hC => ?_)
  refine W.eq (g2 := F0 m 1144 ls [.int r]) rfl ?_
  refine lv_aload_n hx hb dL_law_1144 rfl (lv_at hl 2 rfl) ?_
  refine lv_aload_n hx hb dL_law_1145 rfl (lv_at hl 0 rfl) ?_
  refine lv_iload_n hx hb dL_law_1146 rfl (lv_at hl 3 rfl) ?_
  refine lv_iconst (v := (1 : Int32)) hx hb dL_law_1147 (by decide) ?_
  refine lv_iadd hx hb dL_law_1148 ?_
  refine va_sld hx hb hX hbl hbA hC.2.2 (hv 1 (by decide)) dL_law_1149 ?_
  refine lv_aload_n hx hb dL_law_1150 rfl (lv_at hl 0 rfl) ?_
  refine lv_iload_n hx hb dL_law_1151 rfl (lv_at hl 3 rfl) ?_
  refine lv_iconst (v := (2 : Int32)) hx hb dL_law_1152 (by decide) ?_
  refine lv_iadd hx hb dL_law_1153 ?_
  refine va_sld hx hb hX hbl hbA hC.2.2 (hv 2 (by decide)) dL_law_1154 ?_
  refine l_callR (As := [.int (xs (i + 1).toNatClampNeg), .int (xs (i + 2).toNatClampNeg)]) (rest := [.int r]) (res := some (.int r)) fx hC (Rc_same l τ (xs (i + 1).toNatClampNeg) (xs (i + 2).toNatClampNeg) h2) k_851 Rk_same Rh_same ⟨rfl, rfl⟩ ⟨Nat.le_of_ble_eq_true rfl, Nat.le_of_ble_eq_true rfl⟩ hf0 rfl hl.1 rfl (Nat.le_of_ble_eq_true rfl) dL_law_1155 (fun H locs hC => ?_)
  refine W.eq (g2 := F0 m 1158 ls [.int r, .int r]) rfl ?_
  refine lv_icmp_eq (tgt := 1670) hx hb dL_law_1158 (by decide) (fun _ => ?_) (fun c => absurd rfl c)
  exact W.widen (Nat.le_succ _) (Nat.le_add_right _ 8) (hk _ _ _ _ h3 hC)
def ST_chance (I : DS → RS → Prop) : Prop := ∀ (σ : DS) (τ : RS), I σ τ → ∀ a1 : Int32, ∃ (r : Int64) (σ' : DS) (τ' : RS), (D8m_chance σ a1 = some (r, σ')) ∧ (Rm_chance τ a1 = some (r, τ')) ∧ I σ' τ'
set_option maxRecDepth 100000 in
set_option maxHeartbeats 4000000 in
theorem Lc_chance (fx : FX p s m args meth c cL_law 4 RL D cy) (sb : SB s) (hX : va_X b L xs s s.heap) (hbl : b < s.heap.size) (hbA : ¬ s.heap.size ≤ b) (hC : LC D cy q qr s σ τ H locs) (hl : lv_has ls 4 [(0, .ref b), (1, .ref (q 0)), (2, .ref (qr 0)), (3, .int i)]) (hf : cells + 1 ≤ room_1.cells ∧ slots + 8 ≤ room_1.slots) (hv : ∀ k : Nat, k ≤ 4 → vp_in (i + Int32.ofNat k) L) {I : DS → RS → Prop} (hI : I σ τ) (st : ST_chance I)
    (hk : ∀ (σ' : DS) (τ' : RS) (H1 : Heap) (locs1 : List Loc), I σ' τ' → LC D cy q qr s σ' τ' H1 locs1 → W p l e room_1 s m args below meth c H1 locs1 (cells + 1) (slots + 8) Q (F0 m 1670 ls [])) : W p l e room_1 s m args below meth c H locs cells slots Q (F0 m 1163 ls []) := by
  have hx := fx.1
  have hb := fx.2.1
  have hf0 : cells ≤ room_1.cells ∧ slots ≤ room_1.slots := ⟨Nat.le_of_succ_le hf.1, Nat.le_trans (Nat.le_add_right _ 8) hf.2⟩
  obtain ⟨r, σ', τ', h1, h2, h3⟩ := st σ τ hI (xs (i + 1).toNatClampNeg)
  refine lv_aload_n hx hb dL_law_1163 rfl (lv_at hl 1 rfl) ?_
  refine lv_aload_n hx hb dL_law_1164 rfl (lv_at hl 0 rfl) ?_
  refine lv_iload_n hx hb dL_law_1165 rfl (lv_at hl 3 rfl) ?_
  refine lv_iconst (v := (1 : Int32)) hx hb dL_law_1166 (by decide) ?_
  refine lv_iadd hx hb dL_law_1167 ?_
  refine va_sld hx hb hX hbl hbA hC.2.2 (hv 1 (by decide)) dL_law_1168 ?_
  refine l_callD (As := [.int (xs (i + 1).toNatClampNeg)]) (rest := []) (res := some (.long r)) fx sb hC (D8c_chance l σ (xs (i + 1).toNatClampNeg) h1) k_855 D8k_chance D8h_chance ⟨rfl, rfl⟩ ⟨Nat.le_of_ble_eq_true rfl, Nat.le_of_ble_eq_true rfl⟩ hf0 rfl hl.1 rfl (Nat.le_of_ble_eq_true rfl) dL_law_1169 (fun H locs hC => ?_)
  refine W.eq (g2 := F0 m 1172 ls [.long r]) rfl ?_
  refine lv_aload_n hx hb dL_law_1172 rfl (lv_at hl 2 rfl) ?_
  refine lv_aload_n hx hb dL_law_1173 rfl (lv_at hl 0 rfl) ?_
  refine lv_iload_n hx hb dL_law_1174 rfl (lv_at hl 3 rfl) ?_
  refine lv_iconst (v := (1 : Int32)) hx hb dL_law_1175 (by decide) ?_
  refine lv_iadd hx hb dL_law_1176 ?_
  refine va_sld hx hb hX hbl hbA hC.2.2 (hv 1 (by decide)) dL_law_1177 ?_
  refine l_callR (As := [.int (xs (i + 1).toNatClampNeg)]) (rest := [.long r]) (res := some (.long r)) fx hC (Rc_chance l τ (xs (i + 1).toNatClampNeg) h2) k_873 Rk_chance Rh_chance ⟨rfl, rfl⟩ ⟨Nat.le_of_ble_eq_true rfl, Nat.le_of_ble_eq_true rfl⟩ hf0 rfl hl.1 rfl (Nat.le_of_ble_eq_true rfl) dL_law_1178 (fun H locs hC => ?_)
  refine W.eq (g2 := F0 m 1181 ls [.long r, .long r]) rfl ?_
  refine W.lcmp hx hb dL_law_1181 ?_
  refine lv_if_eq (tgt := 1670) hx hb dL_law_1182 (by decide) (fun _ => ?_) (fun c => absurd (lg_self r) c)
  exact W.widen (Nat.le_succ _) (Nat.le_add_right _ 8) (hk _ _ _ _ h3 hC)
def ST_matters (I : DS → RS → Prop) : Prop := ∀ (σ : DS) (τ : RS), I σ τ → ∀ a1 a2 : Int32, ∃ (r : Int64) (σ' : DS) (τ' : RS), (D8m_matters σ a1 a2 = some (r, σ')) ∧ (Rm_matters τ a1 a2 = some (r, τ')) ∧ I σ' τ'
set_option maxRecDepth 100000 in
set_option maxHeartbeats 4000000 in
theorem Lc_matters (fx : FX p s m args meth c cL_law 4 RL D cy) (sb : SB s) (hX : va_X b L xs s s.heap) (hbl : b < s.heap.size) (hbA : ¬ s.heap.size ≤ b) (hC : LC D cy q qr s σ τ H locs) (hl : lv_has ls 4 [(0, .ref b), (1, .ref (q 0)), (2, .ref (qr 0)), (3, .int i)]) (hf : cells + 1 ≤ room_1.cells ∧ slots + 8 ≤ room_1.slots) (hv : ∀ k : Nat, k ≤ 4 → vp_in (i + Int32.ofNat k) L) {I : DS → RS → Prop} (hI : I σ τ) (st : ST_matters I)
    (hk : ∀ (σ' : DS) (τ' : RS) (H1 : Heap) (locs1 : List Loc), I σ' τ' → LC D cy q qr s σ' τ' H1 locs1 → W p l e room_1 s m args below meth c H1 locs1 (cells + 1) (slots + 8) Q (F0 m 1670 ls [])) : W p l e room_1 s m args below meth c H locs cells slots Q (F0 m 1187 ls []) := by
  have hx := fx.1
  have hb := fx.2.1
  have hf0 : cells ≤ room_1.cells ∧ slots ≤ room_1.slots := ⟨Nat.le_of_succ_le hf.1, Nat.le_trans (Nat.le_add_right _ 8) hf.2⟩
  obtain ⟨r, σ', τ', h1, h2, h3⟩ := st σ τ hI (xs (i + 1).toNatClampNeg) (xs (i + 2).toNatClampNeg)
  refine lv_aload_n hx hb dL_law_1187 rfl (lv_at hl 1 rfl) ?_
  refine lv_aload_n hx hb dL_law_1188 rfl (lv_at hl 0 rfl) ?_
  refine lv_iload_n hx hb dL_law_1189 rfl (lv_at hl 3 rfl) ?_
  refine lv_iconst (v := (1 : Int32)) hx hb dL_law_1190 (by decide) ?_
  refine lv_iadd hx hb dL_law_1191 ?_
  refine va_sld hx hb hX hbl hbA hC.2.2 (hv 1 (by decide)) dL_law_1192 ?_
  refine lv_aload_n hx hb dL_law_1193 rfl (lv_at hl 0 rfl) ?_
  refine lv_iload_n hx hb dL_law_1194 rfl (lv_at hl 3 rfl) ?_
  refine lv_iconst (v := (2 : Int32)) hx hb dL_law_1195 (by decide) ?_
  refine lv_iadd hx hb dL_law_1196 ?_
  refine va_sld hx hb hX hbl hbA hC.2.2 (hv 2 (by decide)) dL_law_1197 ?_
  refine l_callD (As := [.int (xs (i + 1).toNatClampNeg), .int (xs (i + 2).toNatClampNeg)]) (rest := []) (res := some (.long r)) fx sb hC (D8c_matters l σ (xs (i + 1).toNatClampNeg) (xs (i + 2).toNatClampNeg) h1) k_882 D8k_matters D8h_matters ⟨rfl, rfl⟩ ⟨Nat.le_of_ble_eq_true rfl, Nat.le_of_ble_eq_true rfl⟩ hf0 rfl hl.1 rfl (Nat.le_of_ble_eq_true rfl) dL_law_1198 (fun H locs hC => ?_)
  refine W.eq (g2 := F0 m 1201 ls [.long r]) rfl ?_
  refine lv_aload_n hx hb dL_law_1201 rfl (lv_at hl 2 rfl) ?_
  refine lv_aload_n hx hb dL_law_1202 rfl (lv_at hl 0 rfl) ?_
  refine lv_iload_n hx hb dL_law_1203 rfl (lv_at hl 3 rfl) ?_
  refine lv_iconst (v := (1 : Int32)) hx hb dL_law_1204 (by decide) ?_
  refine lv_iadd hx hb dL_law_1205 ?_
  refine va_sld hx hb hX hbl hbA hC.2.2 (hv 1 (by decide)) dL_law_1206 ?_
  refine lv_aload_n hx hb dL_law_1207 rfl (lv_at hl 0 rfl) ?_
  refine lv_iload_n hx hb dL_law_1208 rfl (lv_at hl 3 rfl) ?_
  refine lv_iconst (v := (2 : Int32)) hx hb dL_law_1209 (by decide) ?_
  refine lv_iadd hx hb dL_law_1210 ?_
  refine va_sld hx hb hX hbl hbA hC.2.2 (hv 2 (by decide)) dL_law_1211 ?_
  refine l_callR (As := [.int (xs (i + 1).toNatClampNeg), .int (xs (i + 2).toNatClampNeg)]) (rest := [.long r]) (res := some (.long r)) fx hC (Rc_matters l τ (xs (i + 1).toNatClampNeg) (xs (i + 2).toNatClampNeg) h2) k_886 Rk_matters Rh_matters ⟨rfl, rfl⟩ ⟨Nat.le_of_ble_eq_true rfl, Nat.le_of_ble_eq_true rfl⟩ hf0 rfl hl.1 rfl (Nat.le_of_ble_eq_true rfl) dL_law_1212 (fun H locs hC => ?_)
  refine W.eq (g2 := F0 m 1215 ls [.long r, .long r]) rfl ?_
  refine W.lcmp hx hb dL_law_1215 ?_
  refine lv_if_eq (tgt := 1670) hx hb dL_law_1216 (by decide) (fun _ => ?_) (fun c => absurd (lg_self r) c)
  exact W.widen (Nat.le_succ _) (Nat.le_add_right _ 8) (hk _ _ _ _ h3 hC)
def ST_turned (I : DS → RS → Prop) : Prop := ∀ (σ : DS) (τ : RS), I σ τ → ∀ a1 a2 : Int32, ∃ (r : Int32) (σ' : DS) (τ' : RS), (D8m_turned σ a1 a2 = some (r, σ')) ∧ (Rm_turned τ a1 a2 = some (r, τ')) ∧ I σ' τ'
set_option maxRecDepth 100000 in
set_option maxHeartbeats 4000000 in
theorem Lc_turned (fx : FX p s m args meth c cL_law 4 RL D cy) (sb : SB s) (hX : va_X b L xs s s.heap) (hbl : b < s.heap.size) (hbA : ¬ s.heap.size ≤ b) (hC : LC D cy q qr s σ τ H locs) (hl : lv_has ls 4 [(0, .ref b), (1, .ref (q 0)), (2, .ref (qr 0)), (3, .int i)]) (hf : cells + 1 ≤ room_1.cells ∧ slots + 8 ≤ room_1.slots) (hv : ∀ k : Nat, k ≤ 4 → vp_in (i + Int32.ofNat k) L) {I : DS → RS → Prop} (hI : I σ τ) (st : ST_turned I)
    (hk : ∀ (σ' : DS) (τ' : RS) (H1 : Heap) (locs1 : List Loc), I σ' τ' → LC D cy q qr s σ' τ' H1 locs1 → W p l e room_1 s m args below meth c H1 locs1 (cells + 1) (slots + 8) Q (F0 m 1670 ls [])) : W p l e room_1 s m args below meth c H locs cells slots Q (F0 m 1221 ls []) := by
  have hx := fx.1
  have hb := fx.2.1
  have hf0 : cells ≤ room_1.cells ∧ slots ≤ room_1.slots := ⟨Nat.le_of_succ_le hf.1, Nat.le_trans (Nat.le_add_right _ 8) hf.2⟩
  obtain ⟨r, σ', τ', h1, h2, h3⟩ := st σ τ hI (xs (i + 1).toNatClampNeg) (xs (i + 2).toNatClampNeg)
  refine lv_aload_n hx hb dL_law_1221 rfl (lv_at hl 1 rfl) ?_
  refine lv_aload_n hx hb dL_law_1222 rfl (lv_at hl 0 rfl) ?_
  refine lv_iload_n hx hb dL_law_1223 rfl (lv_at hl 3 rfl) ?_
  refine lv_iconst (v := (1 : Int32)) hx hb dL_law_1224 (by decide) ?_
  refine lv_iadd hx hb dL_law_1225 ?_
  refine va_sld hx hb hX hbl hbA hC.2.2 (hv 1 (by decide)) dL_law_1226 ?_
  refine lv_aload_n hx hb dL_law_1227 rfl (lv_at hl 0 rfl) ?_
  refine lv_iload_n hx hb dL_law_1228 rfl (lv_at hl 3 rfl) ?_
  refine lv_iconst (v := (2 : Int32)) hx hb dL_law_1229 (by decide) ?_
  refine lv_iadd hx hb dL_law_1230 ?_
  refine va_sld hx hb hX hbl hbA hC.2.2 (hv 2 (by decide)) dL_law_1231 ?_
  refine l_callD (As := [.int (xs (i + 1).toNatClampNeg), .int (xs (i + 2).toNatClampNeg)]) (rest := []) (res := some (.int r)) fx sb hC (D8c_turned l σ (xs (i + 1).toNatClampNeg) (xs (i + 2).toNatClampNeg) h1) k_890 D8k_turned D8h_turned ⟨rfl, rfl⟩ ⟨Nat.le_of_ble_eq_true rfl, Nat.le_of_ble_eq_true rfl⟩ hf0 rfl hl.1 rfl (Nat.le_of_ble_eq_true rfl) dL_law_1232 (fun H locs hC => ?_)
  refine W.eq (g2 := F0 m 1235 ls [.int r]) rfl ?_
  refine lv_aload_n hx hb dL_law_1235 rfl (lv_at hl 2 rfl) ?_
  refine lv_aload_n hx hb dL_law_1236 rfl (lv_at hl 0 rfl) ?_
  refine lv_iload_n hx hb dL_law_1237 rfl (lv_at hl 3 rfl) ?_
  refine lv_iconst (v := (1 : Int32)) hx hb dL_law_1238 (by decide) ?_
  refine lv_iadd hx hb dL_law_1239 ?_
  refine va_sld hx hb hX hbl hbA hC.2.2 (hv 1 (by decide)) dL_law_1240 ?_
  refine lv_aload_n hx hb dL_law_1241 rfl (lv_at hl 0 rfl) ?_
  refine lv_iload_n hx hb dL_law_1242 rfl (lv_at hl 3 rfl) ?_
  refine lv_iconst (v := (2 : Int32)) hx hb dL_law_1243 (by decide) ?_
  refine lv_iadd hx hb dL_law_1244 ?_
  refine va_sld hx hb hX hbl hbA hC.2.2 (hv 2 (by decide)) dL_law_1245 ?_
  refine l_callR (As := [.int (xs (i + 1).toNatClampNeg), .int (xs (i + 2).toNatClampNeg)]) (rest := [.int r]) (res := some (.int r)) fx hC (Rc_turned l τ (xs (i + 1).toNatClampNeg) (xs (i + 2).toNatClampNeg) h2) k_899 Rk_turned Rh_turned ⟨rfl, rfl⟩ ⟨Nat.le_of_ble_eq_true rfl, Nat.le_of_ble_eq_true rfl⟩ hf0 rfl hl.1 rfl (Nat.le_of_ble_eq_true rfl) dL_law_1246 (fun H locs hC => ?_)
  refine W.eq (g2 := F0 m 1249 ls [.int r, .int r]) rfl ?_
  refine lv_icmp_eq (tgt := 1670) hx hb dL_law_1249 (by decide) (fun _ => ?_) (fun c => absurd rfl c)
  exact W.widen (Nat.le_succ _) (Nat.le_add_right _ 8) (hk _ _ _ _ h3 hC)
def ST_write (I : DS → RS → Prop) : Prop := ∀ (σ : DS) (τ : RS), I σ τ → ∀ a1 : Int32, ∃ (r : Int32) (σ' : DS) (τ' : RS), (D8m_write σ a1 = some (r, σ')) ∧ (Rm_write τ a1 = some (r, τ')) ∧ I σ' τ'
set_option maxRecDepth 100000 in
set_option maxHeartbeats 4000000 in
theorem Lc_write (fx : FX p s m args meth c cL_law 4 RL D cy) (sb : SB s) (hX : va_X b L xs s s.heap) (hbl : b < s.heap.size) (hbA : ¬ s.heap.size ≤ b) (hC : LC D cy q qr s σ τ H locs) (hl : lv_has ls 4 [(0, .ref b), (1, .ref (q 0)), (2, .ref (qr 0)), (3, .int i)]) (hf : cells + 1 ≤ room_1.cells ∧ slots + 8 ≤ room_1.slots) (hv : ∀ k : Nat, k ≤ 4 → vp_in (i + Int32.ofNat k) L) {I : DS → RS → Prop} (hI : I σ τ) (st : ST_write I)
    (hk : ∀ (σ' : DS) (τ' : RS) (H1 : Heap) (locs1 : List Loc), I σ' τ' → LC D cy q qr s σ' τ' H1 locs1 → W p l e room_1 s m args below meth c H1 locs1 (cells + 1) (slots + 8) Q (F0 m 1670 ls [])) : W p l e room_1 s m args below meth c H locs cells slots Q (F0 m 1254 ls []) := by
  have hx := fx.1
  have hb := fx.2.1
  have hf0 : cells ≤ room_1.cells ∧ slots ≤ room_1.slots := ⟨Nat.le_of_succ_le hf.1, Nat.le_trans (Nat.le_add_right _ 8) hf.2⟩
  obtain ⟨r, σ', τ', h1, h2, h3⟩ := st σ τ hI (xs (i + 1).toNatClampNeg)
  refine lv_aload_n hx hb dL_law_1254 rfl (lv_at hl 1 rfl) ?_
  refine lv_aload_n hx hb dL_law_1255 rfl (lv_at hl 0 rfl) ?_
  refine lv_iload_n hx hb dL_law_1256 rfl (lv_at hl 3 rfl) ?_
  refine lv_iconst (v := (1 : Int32)) hx hb dL_law_1257 (by decide) ?_
  refine lv_iadd hx hb dL_law_1258 ?_
  refine va_sld hx hb hX hbl hbA hC.2.2 (hv 1 (by decide)) dL_law_1259 ?_
  refine l_callD (As := [.int (xs (i + 1).toNatClampNeg)]) (rest := []) (res := some (.int r)) fx sb hC (D8c_write l σ (xs (i + 1).toNatClampNeg) h1) k_903 D8k_write D8h_write ⟨rfl, rfl⟩ ⟨Nat.le_of_ble_eq_true rfl, Nat.le_of_ble_eq_true rfl⟩ hf0 rfl hl.1 rfl (Nat.le_of_ble_eq_true rfl) dL_law_1260 (fun H locs hC => ?_)
  refine W.eq (g2 := F0 m 1263 ls [.int r]) rfl ?_
  refine lv_aload_n hx hb dL_law_1263 rfl (lv_at hl 2 rfl) ?_
  refine lv_aload_n hx hb dL_law_1264 rfl (lv_at hl 0 rfl) ?_
  refine lv_iload_n hx hb dL_law_1265 rfl (lv_at hl 3 rfl) ?_
  refine lv_iconst (v := (1 : Int32)) hx hb dL_law_1266 (by decide) ?_
  refine lv_iadd hx hb dL_law_1267 ?_
  refine va_sld hx hb hX hbl hbA hC.2.2 (hv 1 (by decide)) dL_law_1268 ?_
  refine l_callR (As := [.int (xs (i + 1).toNatClampNeg)]) (rest := [.int r]) (res := some (.int r)) fx hC (Rc_write l τ (xs (i + 1).toNatClampNeg) h2) k_907 Rk_write Rh_write ⟨rfl, rfl⟩ ⟨Nat.le_of_ble_eq_true rfl, Nat.le_of_ble_eq_true rfl⟩ hf0 rfl hl.1 rfl (Nat.le_of_ble_eq_true rfl) dL_law_1269 (fun H locs hC => ?_)
  refine W.eq (g2 := F0 m 1272 ls [.int r, .int r]) rfl ?_
  refine lv_icmp_eq (tgt := 1670) hx hb dL_law_1272 (by decide) (fun _ => ?_) (fun c => absurd rfl c)
  exact W.widen (Nat.le_succ _) (Nat.le_add_right _ 8) (hk _ _ _ _ h3 hC)
def ST_row (I : DS → RS → Prop) : Prop := ∀ (σ : DS) (τ : RS), I σ τ → ∀ a1 a2 : Int32, ∃ (r : Int32) (σ' : DS) (τ' : RS), (D8m_row σ a1 a2 = some r ∧ σ' = σ) ∧ (Rm_row τ a1 a2 = some r ∧ τ' = τ) ∧ I σ' τ'
set_option maxRecDepth 100000 in
set_option maxHeartbeats 4000000 in
theorem Lc_row (fx : FX p s m args meth c cL_law 4 RL D cy) (sb : SB s) (hX : va_X b L xs s s.heap) (hbl : b < s.heap.size) (hbA : ¬ s.heap.size ≤ b) (hC : LC D cy q qr s σ τ H locs) (hl : lv_has ls 4 [(0, .ref b), (1, .ref (q 0)), (2, .ref (qr 0)), (3, .int i)]) (hf : cells + 1 ≤ room_1.cells ∧ slots + 8 ≤ room_1.slots) (hv : ∀ k : Nat, k ≤ 4 → vp_in (i + Int32.ofNat k) L) {I : DS → RS → Prop} (hI : I σ τ) (st : ST_row I)
    (hk : ∀ (σ' : DS) (τ' : RS) (H1 : Heap) (locs1 : List Loc), I σ' τ' → LC D cy q qr s σ' τ' H1 locs1 → W p l e room_1 s m args below meth c H1 locs1 (cells + 1) (slots + 8) Q (F0 m 1670 ls [])) : W p l e room_1 s m args below meth c H locs cells slots Q (F0 m 1277 ls []) := by
  have hx := fx.1
  have hb := fx.2.1
  have hf0 : cells ≤ room_1.cells ∧ slots ≤ room_1.slots := ⟨Nat.le_of_succ_le hf.1, Nat.le_trans (Nat.le_add_right _ 8) hf.2⟩
  obtain ⟨r, σ', τ', h1, h2, h3⟩ := st σ τ hI (xs (i + 1).toNatClampNeg) (xs (i + 2).toNatClampNeg)
  obtain ⟨h1, e1⟩ := h1
  rw [e1] at h3
  obtain ⟨h2, e2⟩ := h2
  rw [e2] at h3
  refine lv_aload_n hx hb dL_law_1277 rfl (lv_at hl 1 rfl) ?_
  refine lv_aload_n hx hb dL_law_1278 rfl (lv_at hl 0 rfl) ?_
  refine lv_iload_n hx hb dL_law_1279 rfl (lv_at hl 3 rfl) ?_
  refine lv_iconst (v := (1 : Int32)) hx hb dL_law_1280 (by decide) ?_
  refine lv_iadd hx hb dL_law_1281 ?_
  refine va_sld hx hb hX hbl hbA hC.2.2 (hv 1 (by decide)) dL_law_1282 ?_
  refine lv_aload_n hx hb dL_law_1283 rfl (lv_at hl 0 rfl) ?_
  refine lv_iload_n hx hb dL_law_1284 rfl (lv_at hl 3 rfl) ?_
  refine lv_iconst (v := (2 : Int32)) hx hb dL_law_1285 (by decide) ?_
  refine lv_iadd hx hb dL_law_1286 ?_
  refine va_sld hx hb hX hbl hbA hC.2.2 (hv 2 (by decide)) dL_law_1287 ?_
  refine l_callD (As := [.int (xs (i + 1).toNatClampNeg), .int (xs (i + 2).toNatClampNeg)]) (rest := []) (res := some (.int r)) fx sb hC (D8c_row l σ (xs (i + 1).toNatClampNeg) (xs (i + 2).toNatClampNeg) h1) k_929 D8k_row D8h_row ⟨rfl, rfl⟩ ⟨Nat.le_of_ble_eq_true rfl, Nat.le_of_ble_eq_true rfl⟩ hf0 rfl hl.1 rfl (Nat.le_of_ble_eq_true rfl) dL_law_1288 (fun H locs hC => ?_)
  refine W.eq (g2 := F0 m 1291 ls [.int r]) rfl ?_
  refine lv_aload_n hx hb dL_law_1291 rfl (lv_at hl 2 rfl) ?_
  refine lv_aload_n hx hb dL_law_1292 rfl (lv_at hl 0 rfl) ?_
  refine lv_iload_n hx hb dL_law_1293 rfl (lv_at hl 3 rfl) ?_
  refine lv_iconst (v := (1 : Int32)) hx hb dL_law_1294 (by decide) ?_
  refine lv_iadd hx hb dL_law_1295 ?_
  refine va_sld hx hb hX hbl hbA hC.2.2 (hv 1 (by decide)) dL_law_1296 ?_
  refine lv_aload_n hx hb dL_law_1297 rfl (lv_at hl 0 rfl) ?_
  refine lv_iload_n hx hb dL_law_1298 rfl (lv_at hl 3 rfl) ?_
  refine lv_iconst (v := (2 : Int32)) hx hb dL_law_1299 (by decide) ?_
  refine lv_iadd hx hb dL_law_1300 ?_
  refine va_sld hx hb hX hbl hbA hC.2.2 (hv 2 (by decide)) dL_law_1301 ?_
  refine l_callR (As := [.int (xs (i + 1).toNatClampNeg), .int (xs (i + 2).toNatClampNeg)]) (rest := [.int r]) (res := some (.int r)) fx hC (Rc_row l τ (xs (i + 1).toNatClampNeg) (xs (i + 2).toNatClampNeg) h2) k_935 Rk_row Rh_row ⟨rfl, rfl⟩ ⟨Nat.le_of_ble_eq_true rfl, Nat.le_of_ble_eq_true rfl⟩ hf0 rfl hl.1 rfl (Nat.le_of_ble_eq_true rfl) dL_law_1302 (fun H locs hC => ?_)
  refine W.eq (g2 := F0 m 1305 ls [.int r, .int r]) rfl ?_
  refine lv_icmp_eq (tgt := 1670) hx hb dL_law_1305 (by decide) (fun _ => ?_) (fun c => absurd rfl c)
  exact W.widen (Nat.le_succ _) (Nat.le_add_right _ 8) (hk _ _ _ _ h3 hC)
def ST_forge (I : DS → RS → Prop) : Prop := ∀ (σ : DS) (τ : RS), I σ τ → ∀ a1 a2 a3 : Int32, ∃ (r : Int32) (σ' : DS) (τ' : RS), (D8m_forge σ a1 a2 a3 = some (r, σ')) ∧ (Rm_forge τ a1 a2 a3 = some (r, τ')) ∧ I σ' τ'
set_option maxRecDepth 100000 in
set_option maxHeartbeats 4000000 in
theorem Lc_forge (fx : FX p s m args meth c cL_law 4 RL D cy) (sb : SB s) (hX : va_X b L xs s s.heap) (hbl : b < s.heap.size) (hbA : ¬ s.heap.size ≤ b) (hC : LC D cy q qr s σ τ H locs) (hl : lv_has ls 4 [(0, .ref b), (1, .ref (q 0)), (2, .ref (qr 0)), (3, .int i)]) (hf : cells + 1 ≤ room_1.cells ∧ slots + 8 ≤ room_1.slots) (hv : ∀ k : Nat, k ≤ 4 → vp_in (i + Int32.ofNat k) L) {I : DS → RS → Prop} (hI : I σ τ) (st : ST_forge I)
    (hk : ∀ (σ' : DS) (τ' : RS) (H1 : Heap) (locs1 : List Loc), I σ' τ' → LC D cy q qr s σ' τ' H1 locs1 → W p l e room_1 s m args below meth c H1 locs1 (cells + 1) (slots + 8) Q (F0 m 1670 ls [])) : W p l e room_1 s m args below meth c H locs cells slots Q (F0 m 1310 ls []) := by
  have hx := fx.1
  have hb := fx.2.1
  have hf0 : cells ≤ room_1.cells ∧ slots ≤ room_1.slots := ⟨Nat.le_of_succ_le hf.1, Nat.le_trans (Nat.le_add_right _ 8) hf.2⟩
  obtain ⟨r, σ', τ', h1, h2, h3⟩ := st σ τ hI (xs (i + 1).toNatClampNeg) (xs (i + 2).toNatClampNeg) (xs (i + 3).toNatClampNeg)
  refine lv_aload_n hx hb dL_law_1310 rfl (lv_at hl 1 rfl) ?_
  refine lv_aload_n hx hb dL_law_1311 rfl (lv_at hl 0 rfl) ?_
  refine lv_iload_n hx hb dL_law_1312 rfl (lv_at hl 3 rfl) ?_
  refine lv_iconst (v := (1 : Int32)) hx hb dL_law_1313 (by decide) ?_
  refine lv_iadd hx hb dL_law_1314 ?_
  refine va_sld hx hb hX hbl hbA hC.2.2 (hv 1 (by decide)) dL_law_1315 ?_
  refine lv_aload_n hx hb dL_law_1316 rfl (lv_at hl 0 rfl) ?_
  refine lv_iload_n hx hb dL_law_1317 rfl (lv_at hl 3 rfl) ?_
  refine lv_iconst (v := (2 : Int32)) hx hb dL_law_1318 (by decide) ?_
  refine lv_iadd hx hb dL_law_1319 ?_
  refine va_sld hx hb hX hbl hbA hC.2.2 (hv 2 (by decide)) dL_law_1320 ?_
  refine lv_aload_n hx hb dL_law_1321 rfl (lv_at hl 0 rfl) ?_
  refine lv_iload_n hx hb dL_law_1322 rfl (lv_at hl 3 rfl) ?_
  refine lv_iconst (v := (3 : Int32)) hx hb dL_law_1323 (by decide) ?_
  refine lv_iadd hx hb dL_law_1324 ?_
  refine va_sld hx hb hX hbl hbA hC.2.2 (hv 3 (by decide)) dL_law_1325 ?_
  refine l_callD (As := [.int (xs (i + 1).toNatClampNeg), .int (xs (i + 2).toNatClampNeg), .int (xs (i + 3).toNatClampNeg)]) (rest := []) (res := some (.int r)) fx sb hC (D8c_forge l σ (xs (i + 1).toNatClampNeg) (xs (i + 2).toNatClampNeg) (xs (i + 3).toNatClampNeg) h1) k_939 D8k_forge D8h_forge ⟨rfl, rfl⟩ ⟨Nat.le_of_ble_eq_true rfl, Nat.le_of_ble_eq_true rfl⟩ hf0 rfl hl.1 rfl (Nat.le_of_ble_eq_true rfl) dL_law_1326 (fun H locs hC => ?_)
  refine W.eq (g2 := F0 m 1329 ls [.int r]) rfl ?_
  refine lv_aload_n hx hb dL_law_1329 rfl (lv_at hl 2 rfl) ?_
  refine lv_aload_n hx hb dL_law_1330 rfl (lv_at hl 0 rfl) ?_
  refine lv_iload_n hx hb dL_law_1331 rfl (lv_at hl 3 rfl) ?_
  refine lv_iconst (v := (1 : Int32)) hx hb dL_law_1332 (by decide) ?_
  refine lv_iadd hx hb dL_law_1333 ?_
  refine va_sld hx hb hX hbl hbA hC.2.2 (hv 1 (by decide)) dL_law_1334 ?_
  refine lv_aload_n hx hb dL_law_1335 rfl (lv_at hl 0 rfl) ?_
  refine lv_iload_n hx hb dL_law_1336 rfl (lv_at hl 3 rfl) ?_
  refine lv_iconst (v := (2 : Int32)) hx hb dL_law_1337 (by decide) ?_
  refine lv_iadd hx hb dL_law_1338 ?_
  refine va_sld hx hb hX hbl hbA hC.2.2 (hv 2 (by decide)) dL_law_1339 ?_
  refine lv_aload_n hx hb dL_law_1340 rfl (lv_at hl 0 rfl) ?_
  refine lv_iload_n hx hb dL_law_1341 rfl (lv_at hl 3 rfl) ?_
  refine lv_iconst (v := (3 : Int32)) hx hb dL_law_1342 (by decide) ?_
  refine lv_iadd hx hb dL_law_1343 ?_
  refine va_sld hx hb hX hbl hbA hC.2.2 (hv 3 (by decide)) dL_law_1344 ?_
  refine l_callR (As := [.int (xs (i + 1).toNatClampNeg), .int (xs (i + 2).toNatClampNeg), .int (xs (i + 3).toNatClampNeg)]) (rest := [.int r]) (res := some (.int r)) fx hC (Rc_forge l τ (xs (i + 1).toNatClampNeg) (xs (i + 2).toNatClampNeg) (xs (i + 3).toNatClampNeg) h2) k_943 Rk_forge Rh_forge ⟨rfl, rfl⟩ ⟨Nat.le_of_ble_eq_true rfl, Nat.le_of_ble_eq_true rfl⟩ hf0 rfl hl.1 rfl (Nat.le_of_ble_eq_true rfl) dL_law_1345 (fun H locs hC => ?_)
  refine W.eq (g2 := F0 m 1348 ls [.int r, .int r]) rfl ?_
  refine lv_icmp_eq (tgt := 1670) hx hb dL_law_1348 (by decide) (fun _ => ?_) (fun c => absurd rfl c)
  exact W.widen (Nat.le_succ _) (Nat.le_add_right _ 8) (hk _ _ _ _ h3 hC)
def ST_check (I : DS → RS → Prop) : Prop := ∀ (σ : DS) (τ : RS), I σ τ → ∀ a1 : Int32, ∃ (r : Int32) (σ' : DS) (τ' : RS), (D8m_check σ a1 = some (r, σ')) ∧ (Rm_check τ a1 = some (r, τ')) ∧ I σ' τ'
set_option maxRecDepth 100000 in
set_option maxHeartbeats 4000000 in
theorem Lc_check (fx : FX p s m args meth c cL_law 4 RL D cy) (sb : SB s) (hX : va_X b L xs s s.heap) (hbl : b < s.heap.size) (hbA : ¬ s.heap.size ≤ b) (hC : LC D cy q qr s σ τ H locs) (hl : lv_has ls 4 [(0, .ref b), (1, .ref (q 0)), (2, .ref (qr 0)), (3, .int i)]) (hf : cells + 1 ≤ room_1.cells ∧ slots + 8 ≤ room_1.slots) (hv : ∀ k : Nat, k ≤ 4 → vp_in (i + Int32.ofNat k) L) {I : DS → RS → Prop} (hI : I σ τ) (st : ST_check I)
    (hk : ∀ (σ' : DS) (τ' : RS) (H1 : Heap) (locs1 : List Loc), I σ' τ' → LC D cy q qr s σ' τ' H1 locs1 → W p l e room_1 s m args below meth c H1 locs1 (cells + 1) (slots + 8) Q (F0 m 1670 ls [])) : W p l e room_1 s m args below meth c H locs cells slots Q (F0 m 1353 ls []) := by
  have hx := fx.1
  have hb := fx.2.1
  have hf0 : cells ≤ room_1.cells ∧ slots ≤ room_1.slots := ⟨Nat.le_of_succ_le hf.1, Nat.le_trans (Nat.le_add_right _ 8) hf.2⟩
  obtain ⟨r, σ', τ', h1, h2, h3⟩ := st σ τ hI (xs (i + 1).toNatClampNeg)
  refine lv_aload_n hx hb dL_law_1353 rfl (lv_at hl 1 rfl) ?_
  refine lv_aload_n hx hb dL_law_1354 rfl (lv_at hl 0 rfl) ?_
  refine lv_iload_n hx hb dL_law_1355 rfl (lv_at hl 3 rfl) ?_
  refine lv_iconst (v := (1 : Int32)) hx hb dL_law_1356 (by decide) ?_
  refine lv_iadd hx hb dL_law_1357 ?_
  refine va_sld hx hb hX hbl hbA hC.2.2 (hv 1 (by decide)) dL_law_1358 ?_
  refine l_callD (As := [.int (xs (i + 1).toNatClampNeg)]) (rest := []) (res := some (.int r)) fx sb hC (D8c_check l σ (xs (i + 1).toNatClampNeg) h1) k_947 D8k_check D8h_check ⟨rfl, rfl⟩ ⟨Nat.le_of_ble_eq_true rfl, Nat.le_of_ble_eq_true rfl⟩ hf0 rfl hl.1 rfl (Nat.le_of_ble_eq_true rfl) dL_law_1359 (fun H locs hC => ?_)
  refine W.eq (g2 := F0 m 1362 ls [.int r]) rfl ?_
  refine lv_aload_n hx hb dL_law_1362 rfl (lv_at hl 2 rfl) ?_
  refine lv_aload_n hx hb dL_law_1363 rfl (lv_at hl 0 rfl) ?_
  refine lv_iload_n hx hb dL_law_1364 rfl (lv_at hl 3 rfl) ?_
  refine lv_iconst (v := (1 : Int32)) hx hb dL_law_1365 (by decide) ?_
  refine lv_iadd hx hb dL_law_1366 ?_
  refine va_sld hx hb hX hbl hbA hC.2.2 (hv 1 (by decide)) dL_law_1367 ?_
  refine l_callR (As := [.int (xs (i + 1).toNatClampNeg)]) (rest := [.int r]) (res := some (.int r)) fx hC (Rc_check l τ (xs (i + 1).toNatClampNeg) h2) k_970 Rk_check Rh_check ⟨rfl, rfl⟩ ⟨Nat.le_of_ble_eq_true rfl, Nat.le_of_ble_eq_true rfl⟩ hf0 rfl hl.1 rfl (Nat.le_of_ble_eq_true rfl) dL_law_1368 (fun H locs hC => ?_)
  refine W.eq (g2 := F0 m 1371 ls [.int r, .int r]) rfl ?_
  refine lv_icmp_eq (tgt := 1670) hx hb dL_law_1371 (by decide) (fun _ => ?_) (fun c => absurd rfl c)
  exact W.widen (Nat.le_succ _) (Nat.le_add_right _ 8) (hk _ _ _ _ h3 hC)
def ST_sheet (I : DS → RS → Prop) : Prop := ∀ (σ : DS) (τ : RS), I σ τ → ∀ a1 a2 a3 : Int32, ∃ (r : Int32) (σ' : DS) (τ' : RS), (D8m_sheet σ a1 a2 a3 = some (r, σ')) ∧ (Rm_sheet τ a1 a2 a3 = some (r, τ')) ∧ I σ' τ'
set_option maxRecDepth 100000 in
set_option maxHeartbeats 4000000 in
theorem Lc_sheet (fx : FX p s m args meth c cL_law 4 RL D cy) (sb : SB s) (hX : va_X b L xs s s.heap) (hbl : b < s.heap.size) (hbA : ¬ s.heap.size ≤ b) (hC : LC D cy q qr s σ τ H locs) (hl : lv_has ls 4 [(0, .ref b), (1, .ref (q 0)), (2, .ref (qr 0)), (3, .int i)]) (hf : cells + 1 ≤ room_1.cells ∧ slots + 8 ≤ room_1.slots) (hv : ∀ k : Nat, k ≤ 4 → vp_in (i + Int32.ofNat k) L) {I : DS → RS → Prop} (hI : I σ τ) (st : ST_sheet I)
    (hk : ∀ (σ' : DS) (τ' : RS) (H1 : Heap) (locs1 : List Loc), I σ' τ' → LC D cy q qr s σ' τ' H1 locs1 → W p l e room_1 s m args below meth c H1 locs1 (cells + 1) (slots + 8) Q (F0 m 1670 ls [])) : W p l e room_1 s m args below meth c H locs cells slots Q (F0 m 1376 ls []) := by
  have hx := fx.1
  have hb := fx.2.1
  have hf0 : cells ≤ room_1.cells ∧ slots ≤ room_1.slots := ⟨Nat.le_of_succ_le hf.1, Nat.le_trans (Nat.le_add_right _ 8) hf.2⟩
  obtain ⟨r, σ', τ', h1, h2, h3⟩ := st σ τ hI (xs (i + 1).toNatClampNeg) (xs (i + 2).toNatClampNeg) (xs (i + 3).toNatClampNeg)
  refine lv_aload_n hx hb dL_law_1376 rfl (lv_at hl 1 rfl) ?_
  refine lv_aload_n hx hb dL_law_1377 rfl (lv_at hl 0 rfl) ?_
  refine lv_iload_n hx hb dL_law_1378 rfl (lv_at hl 3 rfl) ?_
  refine lv_iconst (v := (1 : Int32)) hx hb dL_law_1379 (by decide) ?_
  refine lv_iadd hx hb dL_law_1380 ?_
  refine va_sld hx hb hX hbl hbA hC.2.2 (hv 1 (by decide)) dL_law_1381 ?_
  refine lv_aload_n hx hb dL_law_1382 rfl (lv_at hl 0 rfl) ?_
  refine lv_iload_n hx hb dL_law_1383 rfl (lv_at hl 3 rfl) ?_
  refine lv_iconst (v := (2 : Int32)) hx hb dL_law_1384 (by decide) ?_
  refine lv_iadd hx hb dL_law_1385 ?_
  refine va_sld hx hb hX hbl hbA hC.2.2 (hv 2 (by decide)) dL_law_1386 ?_
  refine lv_aload_n hx hb dL_law_1387 rfl (lv_at hl 0 rfl) ?_
  refine lv_iload_n hx hb dL_law_1388 rfl (lv_at hl 3 rfl) ?_
  refine lv_iconst (v := (3 : Int32)) hx hb dL_law_1389 (by decide) ?_
  refine lv_iadd hx hb dL_law_1390 ?_
  refine va_sld hx hb hX hbl hbA hC.2.2 (hv 3 (by decide)) dL_law_1391 ?_
  refine l_callD (As := [.int (xs (i + 1).toNatClampNeg), .int (xs (i + 2).toNatClampNeg), .int (xs (i + 3).toNatClampNeg)]) (rest := []) (res := some (.int r)) fx sb hC (D8c_sheet l σ (xs (i + 1).toNatClampNeg) (xs (i + 2).toNatClampNeg) (xs (i + 3).toNatClampNeg) h1) k_986 D8k_sheet D8h_sheet ⟨rfl, rfl⟩ ⟨Nat.le_of_ble_eq_true rfl, Nat.le_of_ble_eq_true rfl⟩ hf0 rfl hl.1 rfl (Nat.le_of_ble_eq_true rfl) dL_law_1392 (fun H locs hC => ?_)
  refine W.eq (g2 := F0 m 1395 ls [.int r]) rfl ?_
  refine lv_aload_n hx hb dL_law_1395 rfl (lv_at hl 2 rfl) ?_
  refine lv_aload_n hx hb dL_law_1396 rfl (lv_at hl 0 rfl) ?_
  refine lv_iload_n hx hb dL_law_1397 rfl (lv_at hl 3 rfl) ?_
  refine lv_iconst (v := (1 : Int32)) hx hb dL_law_1398 (by decide) ?_
  refine lv_iadd hx hb dL_law_1399 ?_
  refine va_sld hx hb hX hbl hbA hC.2.2 (hv 1 (by decide)) dL_law_1400 ?_
  refine lv_aload_n hx hb dL_law_1401 rfl (lv_at hl 0 rfl) ?_
  refine lv_iload_n hx hb dL_law_1402 rfl (lv_at hl 3 rfl) ?_
  refine lv_iconst (v := (2 : Int32)) hx hb dL_law_1403 (by decide) ?_
  refine lv_iadd hx hb dL_law_1404 ?_
  refine va_sld hx hb hX hbl hbA hC.2.2 (hv 2 (by decide)) dL_law_1405 ?_
  refine lv_aload_n hx hb dL_law_1406 rfl (lv_at hl 0 rfl) ?_
  refine lv_iload_n hx hb dL_law_1407 rfl (lv_at hl 3 rfl) ?_
  refine lv_iconst (v := (3 : Int32)) hx hb dL_law_1408 (by decide) ?_
  refine lv_iadd hx hb dL_law_1409 ?_
  refine va_sld hx hb hX hbl hbA hC.2.2 (hv 3 (by decide)) dL_law_1410 ?_
  refine l_callR (As := [.int (xs (i + 1).toNatClampNeg), .int (xs (i + 2).toNatClampNeg), .int (xs (i + 3).toNatClampNeg)]) (rest := [.int r]) (res := some (.int r)) fx hC (Rc_sheet l τ (xs (i + 1).toNatClampNeg) (xs (i + 2).toNatClampNeg) (xs (i + 3).toNatClampNeg) h2) k_998 Rk_sheet Rh_sheet ⟨rfl, rfl⟩ ⟨Nat.le_of_ble_eq_true rfl, Nat.le_of_ble_eq_true rfl⟩ hf0 rfl hl.1 rfl (Nat.le_of_ble_eq_true rfl) dL_law_1411 (fun H locs hC => ?_)
  refine W.eq (g2 := F0 m 1414 ls [.int r, .int r]) rfl ?_
  refine lv_icmp_eq (tgt := 1670) hx hb dL_law_1414 (by decide) (fun _ => ?_) (fun c => absurd rfl c)
  exact W.widen (Nat.le_succ _) (Nat.le_add_right _ 8) (hk _ _ _ _ h3 hC)
def ST_cell (I : DS → RS → Prop) : Prop := ∀ (σ : DS) (τ : RS), I σ τ → ∀ a1 a2 a3 : Int32, ∃ (r : Int32) (σ' : DS) (τ' : RS), (D8m_cell σ a1 a2 a3 = some (r, σ')) ∧ (Rm_cell τ a1 a2 a3 = some (r, τ')) ∧ I σ' τ'
set_option maxRecDepth 100000 in
set_option maxHeartbeats 4000000 in
theorem Lc_cell (fx : FX p s m args meth c cL_law 4 RL D cy) (sb : SB s) (hX : va_X b L xs s s.heap) (hbl : b < s.heap.size) (hbA : ¬ s.heap.size ≤ b) (hC : LC D cy q qr s σ τ H locs) (hl : lv_has ls 4 [(0, .ref b), (1, .ref (q 0)), (2, .ref (qr 0)), (3, .int i)]) (hf : cells + 1 ≤ room_1.cells ∧ slots + 8 ≤ room_1.slots) (hv : ∀ k : Nat, k ≤ 4 → vp_in (i + Int32.ofNat k) L) {I : DS → RS → Prop} (hI : I σ τ) (st : ST_cell I)
    (hk : ∀ (σ' : DS) (τ' : RS) (H1 : Heap) (locs1 : List Loc), I σ' τ' → LC D cy q qr s σ' τ' H1 locs1 → W p l e room_1 s m args below meth c H1 locs1 (cells + 1) (slots + 8) Q (F0 m 1670 ls [])) : W p l e room_1 s m args below meth c H locs cells slots Q (F0 m 1419 ls []) := by
  have hx := fx.1
  have hb := fx.2.1
  have hf0 : cells ≤ room_1.cells ∧ slots ≤ room_1.slots := ⟨Nat.le_of_succ_le hf.1, Nat.le_trans (Nat.le_add_right _ 8) hf.2⟩
  obtain ⟨r, σ', τ', h1, h2, h3⟩ := st σ τ hI (xs (i + 1).toNatClampNeg) (xs (i + 2).toNatClampNeg) (xs (i + 3).toNatClampNeg)
  refine lv_aload_n hx hb dL_law_1419 rfl (lv_at hl 1 rfl) ?_
  refine lv_aload_n hx hb dL_law_1420 rfl (lv_at hl 0 rfl) ?_
  refine lv_iload_n hx hb dL_law_1421 rfl (lv_at hl 3 rfl) ?_
  refine lv_iconst (v := (1 : Int32)) hx hb dL_law_1422 (by decide) ?_
  refine lv_iadd hx hb dL_law_1423 ?_
  refine va_sld hx hb hX hbl hbA hC.2.2 (hv 1 (by decide)) dL_law_1424 ?_
  refine lv_aload_n hx hb dL_law_1425 rfl (lv_at hl 0 rfl) ?_
  refine lv_iload_n hx hb dL_law_1426 rfl (lv_at hl 3 rfl) ?_
  refine lv_iconst (v := (2 : Int32)) hx hb dL_law_1427 (by decide) ?_
  refine lv_iadd hx hb dL_law_1428 ?_
  refine va_sld hx hb hX hbl hbA hC.2.2 (hv 2 (by decide)) dL_law_1429 ?_
  refine lv_aload_n hx hb dL_law_1430 rfl (lv_at hl 0 rfl) ?_
  refine lv_iload_n hx hb dL_law_1431 rfl (lv_at hl 3 rfl) ?_
  refine lv_iconst (v := (3 : Int32)) hx hb dL_law_1432 (by decide) ?_
  refine lv_iadd hx hb dL_law_1433 ?_
  refine va_sld hx hb hX hbl hbA hC.2.2 (hv 3 (by decide)) dL_law_1434 ?_
  refine l_callD (As := [.int (xs (i + 1).toNatClampNeg), .int (xs (i + 2).toNatClampNeg), .int (xs (i + 3).toNatClampNeg)]) (rest := []) (res := some (.int r)) fx sb hC (D8c_cell l σ (xs (i + 1).toNatClampNeg) (xs (i + 2).toNatClampNeg) (xs (i + 3).toNatClampNeg) h1) k_1002 D8k_cell D8h_cell ⟨rfl, rfl⟩ ⟨Nat.le_of_ble_eq_true rfl, Nat.le_of_ble_eq_true rfl⟩ hf0 rfl hl.1 rfl (Nat.le_of_ble_eq_true rfl) dL_law_1435 (fun H locs hC => ?_)
  refine W.eq (g2 := F0 m 1438 ls [.int r]) rfl ?_
  refine lv_aload_n hx hb dL_law_1438 rfl (lv_at hl 2 rfl) ?_
  refine lv_aload_n hx hb dL_law_1439 rfl (lv_at hl 0 rfl) ?_
  refine lv_iload_n hx hb dL_law_1440 rfl (lv_at hl 3 rfl) ?_
  refine lv_iconst (v := (1 : Int32)) hx hb dL_law_1441 (by decide) ?_
  refine lv_iadd hx hb dL_law_1442 ?_
  refine va_sld hx hb hX hbl hbA hC.2.2 (hv 1 (by decide)) dL_law_1443 ?_
  refine lv_aload_n hx hb dL_law_1444 rfl (lv_at hl 0 rfl) ?_
  refine lv_iload_n hx hb dL_law_1445 rfl (lv_at hl 3 rfl) ?_
  refine lv_iconst (v := (2 : Int32)) hx hb dL_law_1446 (by decide) ?_
  refine lv_iadd hx hb dL_law_1447 ?_
  refine va_sld hx hb hX hbl hbA hC.2.2 (hv 2 (by decide)) dL_law_1448 ?_
  refine lv_aload_n hx hb dL_law_1449 rfl (lv_at hl 0 rfl) ?_
  refine lv_iload_n hx hb dL_law_1450 rfl (lv_at hl 3 rfl) ?_
  refine lv_iconst (v := (3 : Int32)) hx hb dL_law_1451 (by decide) ?_
  refine lv_iadd hx hb dL_law_1452 ?_
  refine va_sld hx hb hX hbl hbA hC.2.2 (hv 3 (by decide)) dL_law_1453 ?_
  refine l_callR (As := [.int (xs (i + 1).toNatClampNeg), .int (xs (i + 2).toNatClampNeg), .int (xs (i + 3).toNatClampNeg)]) (rest := [.int r]) (res := some (.int r)) fx hC (Rc_cell l τ (xs (i + 1).toNatClampNeg) (xs (i + 2).toNatClampNeg) (xs (i + 3).toNatClampNeg) h2) k_1017 Rk_cell Rh_cell ⟨rfl, rfl⟩ ⟨Nat.le_of_ble_eq_true rfl, Nat.le_of_ble_eq_true rfl⟩ hf0 rfl hl.1 rfl (Nat.le_of_ble_eq_true rfl) dL_law_1454 (fun H locs hC => ?_)
  refine W.eq (g2 := F0 m 1457 ls [.int r, .int r]) rfl ?_
  refine lv_icmp_eq (tgt := 1670) hx hb dL_law_1457 (by decide) (fun _ => ?_) (fun c => absurd rfl c)
  exact W.widen (Nat.le_succ _) (Nat.le_add_right _ 8) (hk _ _ _ _ h3 hC)
def ST_lay (I : DS → RS → Prop) : Prop := ∀ (σ : DS) (τ : RS), I σ τ → ∀ a1 a2 a3 : Int32, ∃ (r : Int32) (σ' : DS) (τ' : RS), (D8m_lay σ a1 a2 a3 = some (r, σ')) ∧ (Rm_lay τ a1 a2 a3 = some (r, τ')) ∧ I σ' τ'
set_option maxRecDepth 100000 in
set_option maxHeartbeats 4000000 in
theorem Lc_lay (fx : FX p s m args meth c cL_law 4 RL D cy) (sb : SB s) (hX : va_X b L xs s s.heap) (hbl : b < s.heap.size) (hbA : ¬ s.heap.size ≤ b) (hC : LC D cy q qr s σ τ H locs) (hl : lv_has ls 4 [(0, .ref b), (1, .ref (q 0)), (2, .ref (qr 0)), (3, .int i)]) (hf : cells + 1 ≤ room_1.cells ∧ slots + 8 ≤ room_1.slots) (hv : ∀ k : Nat, k ≤ 4 → vp_in (i + Int32.ofNat k) L) {I : DS → RS → Prop} (hI : I σ τ) (st : ST_lay I)
    (hk : ∀ (σ' : DS) (τ' : RS) (H1 : Heap) (locs1 : List Loc), I σ' τ' → LC D cy q qr s σ' τ' H1 locs1 → W p l e room_1 s m args below meth c H1 locs1 (cells + 1) (slots + 8) Q (F0 m 1670 ls [])) : W p l e room_1 s m args below meth c H locs cells slots Q (F0 m 1462 ls []) := by
  have hx := fx.1
  have hb := fx.2.1
  have hf0 : cells ≤ room_1.cells ∧ slots ≤ room_1.slots := ⟨Nat.le_of_succ_le hf.1, Nat.le_trans (Nat.le_add_right _ 8) hf.2⟩
  obtain ⟨r, σ', τ', h1, h2, h3⟩ := st σ τ hI (xs (i + 1).toNatClampNeg) (xs (i + 2).toNatClampNeg) (xs (i + 3).toNatClampNeg)
  refine lv_aload_n hx hb dL_law_1462 rfl (lv_at hl 1 rfl) ?_
  refine lv_aload_n hx hb dL_law_1463 rfl (lv_at hl 0 rfl) ?_
  refine lv_iload_n hx hb dL_law_1464 rfl (lv_at hl 3 rfl) ?_
  refine lv_iconst (v := (1 : Int32)) hx hb dL_law_1465 (by decide) ?_
  refine lv_iadd hx hb dL_law_1466 ?_
  refine va_sld hx hb hX hbl hbA hC.2.2 (hv 1 (by decide)) dL_law_1467 ?_
  refine lv_aload_n hx hb dL_law_1468 rfl (lv_at hl 0 rfl) ?_
  refine lv_iload_n hx hb dL_law_1469 rfl (lv_at hl 3 rfl) ?_
  refine lv_iconst (v := (2 : Int32)) hx hb dL_law_1470 (by decide) ?_
  refine lv_iadd hx hb dL_law_1471 ?_
  refine va_sld hx hb hX hbl hbA hC.2.2 (hv 2 (by decide)) dL_law_1472 ?_
  refine lv_aload_n hx hb dL_law_1473 rfl (lv_at hl 0 rfl) ?_
  refine lv_iload_n hx hb dL_law_1474 rfl (lv_at hl 3 rfl) ?_
  refine lv_iconst (v := (3 : Int32)) hx hb dL_law_1475 (by decide) ?_
  refine lv_iadd hx hb dL_law_1476 ?_
  refine va_sld hx hb hX hbl hbA hC.2.2 (hv 3 (by decide)) dL_law_1477 ?_
  refine l_callD (As := [.int (xs (i + 1).toNatClampNeg), .int (xs (i + 2).toNatClampNeg), .int (xs (i + 3).toNatClampNeg)]) (rest := []) (res := some (.int r)) fx sb hC (D8c_lay l σ (xs (i + 1).toNatClampNeg) (xs (i + 2).toNatClampNeg) (xs (i + 3).toNatClampNeg) h1) k_1021 D8k_lay D8h_lay ⟨rfl, rfl⟩ ⟨Nat.le_of_ble_eq_true rfl, Nat.le_of_ble_eq_true rfl⟩ hf0 rfl hl.1 rfl (Nat.le_of_ble_eq_true rfl) dL_law_1478 (fun H locs hC => ?_)
  refine W.eq (g2 := F0 m 1481 ls [.int r]) rfl ?_
  refine lv_aload_n hx hb dL_law_1481 rfl (lv_at hl 2 rfl) ?_
  refine lv_aload_n hx hb dL_law_1482 rfl (lv_at hl 0 rfl) ?_
  refine lv_iload_n hx hb dL_law_1483 rfl (lv_at hl 3 rfl) ?_
  refine lv_iconst (v := (1 : Int32)) hx hb dL_law_1484 (by decide) ?_
  refine lv_iadd hx hb dL_law_1485 ?_
  refine va_sld hx hb hX hbl hbA hC.2.2 (hv 1 (by decide)) dL_law_1486 ?_
  refine lv_aload_n hx hb dL_law_1487 rfl (lv_at hl 0 rfl) ?_
  refine lv_iload_n hx hb dL_law_1488 rfl (lv_at hl 3 rfl) ?_
  refine lv_iconst (v := (2 : Int32)) hx hb dL_law_1489 (by decide) ?_
  refine lv_iadd hx hb dL_law_1490 ?_
  refine va_sld hx hb hX hbl hbA hC.2.2 (hv 2 (by decide)) dL_law_1491 ?_
  refine lv_aload_n hx hb dL_law_1492 rfl (lv_at hl 0 rfl) ?_
  refine lv_iload_n hx hb dL_law_1493 rfl (lv_at hl 3 rfl) ?_
  refine lv_iconst (v := (3 : Int32)) hx hb dL_law_1494 (by decide) ?_
  refine lv_iadd hx hb dL_law_1495 ?_
  refine va_sld hx hb hX hbl hbA hC.2.2 (hv 3 (by decide)) dL_law_1496 ?_
  refine l_callR (As := [.int (xs (i + 1).toNatClampNeg), .int (xs (i + 2).toNatClampNeg), .int (xs (i + 3).toNatClampNeg)]) (rest := [.int r]) (res := some (.int r)) fx hC (Rc_lay l τ (xs (i + 1).toNatClampNeg) (xs (i + 2).toNatClampNeg) (xs (i + 3).toNatClampNeg) h2) k_1034 Rk_lay Rh_lay ⟨rfl, rfl⟩ ⟨Nat.le_of_ble_eq_true rfl, Nat.le_of_ble_eq_true rfl⟩ hf0 rfl hl.1 rfl (Nat.le_of_ble_eq_true rfl) dL_law_1497 (fun H locs hC => ?_)
  refine W.eq (g2 := F0 m 1500 ls [.int r, .int r]) rfl ?_
  refine lv_icmp_eq (tgt := 1670) hx hb dL_law_1500 (by decide) (fun _ => ?_) (fun c => absurd rfl c)
  exact W.widen (Nat.le_succ _) (Nat.le_add_right _ 8) (hk _ _ _ _ h3 hC)
def ST_shelf (I : DS → RS → Prop) : Prop := ∀ (σ : DS) (τ : RS), I σ τ → ∀ a1 a2 a3 : Int32, ∃ (r : Int32) (σ' : DS) (τ' : RS), (D8m_shelf σ a1 a2 a3 = some (r, σ')) ∧ (Rm_shelf τ a1 a2 a3 = some (r, τ')) ∧ I σ' τ'
set_option maxRecDepth 100000 in
set_option maxHeartbeats 4000000 in
theorem Lc_shelf (fx : FX p s m args meth c cL_law 4 RL D cy) (sb : SB s) (hX : va_X b L xs s s.heap) (hbl : b < s.heap.size) (hbA : ¬ s.heap.size ≤ b) (hC : LC D cy q qr s σ τ H locs) (hl : lv_has ls 4 [(0, .ref b), (1, .ref (q 0)), (2, .ref (qr 0)), (3, .int i)]) (hf : cells + 1 ≤ room_1.cells ∧ slots + 8 ≤ room_1.slots) (hv : ∀ k : Nat, k ≤ 4 → vp_in (i + Int32.ofNat k) L) {I : DS → RS → Prop} (hI : I σ τ) (st : ST_shelf I)
    (hk : ∀ (σ' : DS) (τ' : RS) (H1 : Heap) (locs1 : List Loc), I σ' τ' → LC D cy q qr s σ' τ' H1 locs1 → W p l e room_1 s m args below meth c H1 locs1 (cells + 1) (slots + 8) Q (F0 m 1670 ls [])) : W p l e room_1 s m args below meth c H locs cells slots Q (F0 m 1505 ls []) := by
  have hx := fx.1
  have hb := fx.2.1
  have hf0 : cells ≤ room_1.cells ∧ slots ≤ room_1.slots := ⟨Nat.le_of_succ_le hf.1, Nat.le_trans (Nat.le_add_right _ 8) hf.2⟩
  obtain ⟨r, σ', τ', h1, h2, h3⟩ := st σ τ hI (xs (i + 1).toNatClampNeg) (xs (i + 2).toNatClampNeg) (xs (i + 3).toNatClampNeg)
  refine lv_aload_n hx hb dL_law_1505 rfl (lv_at hl 1 rfl) ?_
  refine lv_aload_n hx hb dL_law_1506 rfl (lv_at hl 0 rfl) ?_
  refine lv_iload_n hx hb dL_law_1507 rfl (lv_at hl 3 rfl) ?_
  refine lv_iconst (v := (1 : Int32)) hx hb dL_law_1508 (by decide) ?_
  refine lv_iadd hx hb dL_law_1509 ?_
  refine va_sld hx hb hX hbl hbA hC.2.2 (hv 1 (by decide)) dL_law_1510 ?_
  refine lv_aload_n hx hb dL_law_1511 rfl (lv_at hl 0 rfl) ?_
  refine lv_iload_n hx hb dL_law_1512 rfl (lv_at hl 3 rfl) ?_
  refine lv_iconst (v := (2 : Int32)) hx hb dL_law_1513 (by decide) ?_
  refine lv_iadd hx hb dL_law_1514 ?_
  refine va_sld hx hb hX hbl hbA hC.2.2 (hv 2 (by decide)) dL_law_1515 ?_
  refine lv_aload_n hx hb dL_law_1516 rfl (lv_at hl 0 rfl) ?_
  refine lv_iload_n hx hb dL_law_1517 rfl (lv_at hl 3 rfl) ?_
  refine lv_iconst (v := (3 : Int32)) hx hb dL_law_1518 (by decide) ?_
  refine lv_iadd hx hb dL_law_1519 ?_
  refine va_sld hx hb hX hbl hbA hC.2.2 (hv 3 (by decide)) dL_law_1520 ?_
  refine l_callD (As := [.int (xs (i + 1).toNatClampNeg), .int (xs (i + 2).toNatClampNeg), .int (xs (i + 3).toNatClampNeg)]) (rest := []) (res := some (.int r)) fx sb hC (D8c_shelf l σ (xs (i + 1).toNatClampNeg) (xs (i + 2).toNatClampNeg) (xs (i + 3).toNatClampNeg) h1) k_1039 D8k_shelf D8h_shelf ⟨rfl, rfl⟩ ⟨Nat.le_of_ble_eq_true rfl, Nat.le_of_ble_eq_true rfl⟩ hf0 rfl hl.1 rfl (Nat.le_of_ble_eq_true rfl) dL_law_1521 (fun H locs hC => ?_)
  refine W.eq (g2 := F0 m 1524 ls [.int r]) rfl ?_
  refine lv_aload_n hx hb dL_law_1524 rfl (lv_at hl 2 rfl) ?_
  refine lv_aload_n hx hb dL_law_1525 rfl (lv_at hl 0 rfl) ?_
  refine lv_iload_n hx hb dL_law_1526 rfl (lv_at hl 3 rfl) ?_
  refine lv_iconst (v := (1 : Int32)) hx hb dL_law_1527 (by decide) ?_
  refine lv_iadd hx hb dL_law_1528 ?_
  refine va_sld hx hb hX hbl hbA hC.2.2 (hv 1 (by decide)) dL_law_1529 ?_
  refine lv_aload_n hx hb dL_law_1530 rfl (lv_at hl 0 rfl) ?_
  refine lv_iload_n hx hb dL_law_1531 rfl (lv_at hl 3 rfl) ?_
  refine lv_iconst (v := (2 : Int32)) hx hb dL_law_1532 (by decide) ?_
  refine lv_iadd hx hb dL_law_1533 ?_
  refine va_sld hx hb hX hbl hbA hC.2.2 (hv 2 (by decide)) dL_law_1534 ?_
  refine lv_aload_n hx hb dL_law_1535 rfl (lv_at hl 0 rfl) ?_
  refine lv_iload_n hx hb dL_law_1536 rfl (lv_at hl 3 rfl) ?_
  refine lv_iconst (v := (3 : Int32)) hx hb dL_law_1537 (by decide) ?_
  refine lv_iadd hx hb dL_law_1538 ?_
  refine va_sld hx hb hX hbl hbA hC.2.2 (hv 3 (by decide)) dL_law_1539 ?_
  refine l_callR (As := [.int (xs (i + 1).toNatClampNeg), .int (xs (i + 2).toNatClampNeg), .int (xs (i + 3).toNatClampNeg)]) (rest := [.int r]) (res := some (.int r)) fx hC (Rc_shelf l τ (xs (i + 1).toNatClampNeg) (xs (i + 2).toNatClampNeg) (xs (i + 3).toNatClampNeg) h2) k_1053 Rk_shelf Rh_shelf ⟨rfl, rfl⟩ ⟨Nat.le_of_ble_eq_true rfl, Nat.le_of_ble_eq_true rfl⟩ hf0 rfl hl.1 rfl (Nat.le_of_ble_eq_true rfl) dL_law_1540 (fun H locs hC => ?_)
  refine W.eq (g2 := F0 m 1543 ls [.int r, .int r]) rfl ?_
  refine lv_icmp_eq (tgt := 1670) hx hb dL_law_1543 (by decide) (fun _ => ?_) (fun c => absurd rfl c)
  exact W.widen (Nat.le_succ _) (Nat.le_add_right _ 8) (hk _ _ _ _ h3 hC)
def ST_taken (I : DS → RS → Prop) : Prop := ∀ (σ : DS) (τ : RS), I σ τ → ∀ a1 a2 : Int32, ∃ (r : Int32) (σ' : DS) (τ' : RS), (D8m_taken σ a1 a2 = some r ∧ σ' = σ) ∧ (Rm_taken τ a1 a2 = some r ∧ τ' = τ) ∧ I σ' τ'
set_option maxRecDepth 100000 in
set_option maxHeartbeats 4000000 in
theorem Lc_taken (fx : FX p s m args meth c cL_law 4 RL D cy) (sb : SB s) (hX : va_X b L xs s s.heap) (hbl : b < s.heap.size) (hbA : ¬ s.heap.size ≤ b) (hC : LC D cy q qr s σ τ H locs) (hl : lv_has ls 4 [(0, .ref b), (1, .ref (q 0)), (2, .ref (qr 0)), (3, .int i)]) (hf : cells + 1 ≤ room_1.cells ∧ slots + 8 ≤ room_1.slots) (hv : ∀ k : Nat, k ≤ 4 → vp_in (i + Int32.ofNat k) L) {I : DS → RS → Prop} (hI : I σ τ) (st : ST_taken I)
    (hk : ∀ (σ' : DS) (τ' : RS) (H1 : Heap) (locs1 : List Loc), I σ' τ' → LC D cy q qr s σ' τ' H1 locs1 → W p l e room_1 s m args below meth c H1 locs1 (cells + 1) (slots + 8) Q (F0 m 1670 ls [])) : W p l e room_1 s m args below meth c H locs cells slots Q (F0 m 1548 ls []) := by
  have hx := fx.1
  have hb := fx.2.1
  have hf0 : cells ≤ room_1.cells ∧ slots ≤ room_1.slots := ⟨Nat.le_of_succ_le hf.1, Nat.le_trans (Nat.le_add_right _ 8) hf.2⟩
  obtain ⟨r, σ', τ', h1, h2, h3⟩ := st σ τ hI (xs (i + 1).toNatClampNeg) (xs (i + 2).toNatClampNeg)
  obtain ⟨h1, e1⟩ := h1
  rw [e1] at h3
  obtain ⟨h2, e2⟩ := h2
  rw [e2] at h3
  refine lv_aload_n hx hb dL_law_1548 rfl (lv_at hl 1 rfl) ?_
  refine lv_aload_n hx hb dL_law_1549 rfl (lv_at hl 0 rfl) ?_
  refine lv_iload_n hx hb dL_law_1550 rfl (lv_at hl 3 rfl) ?_
  refine lv_iconst (v := (1 : Int32)) hx hb dL_law_1551 (by decide) ?_
  refine lv_iadd hx hb dL_law_1552 ?_
  refine va_sld hx hb hX hbl hbA hC.2.2 (hv 1 (by decide)) dL_law_1553 ?_
  refine lv_aload_n hx hb dL_law_1554 rfl (lv_at hl 0 rfl) ?_
  refine lv_iload_n hx hb dL_law_1555 rfl (lv_at hl 3 rfl) ?_
  refine lv_iconst (v := (2 : Int32)) hx hb dL_law_1556 (by decide) ?_
  refine lv_iadd hx hb dL_law_1557 ?_
  refine va_sld hx hb hX hbl hbA hC.2.2 (hv 2 (by decide)) dL_law_1558 ?_
  refine l_callD (As := [.int (xs (i + 1).toNatClampNeg), .int (xs (i + 2).toNatClampNeg)]) (rest := []) (res := some (.int r)) fx sb hC (D8c_taken l σ (xs (i + 1).toNatClampNeg) (xs (i + 2).toNatClampNeg) h1) k_1057 D8k_taken D8h_taken ⟨rfl, rfl⟩ ⟨Nat.le_of_ble_eq_true rfl, Nat.le_of_ble_eq_true rfl⟩ hf0 rfl hl.1 rfl (Nat.le_of_ble_eq_true rfl) dL_law_1559 (fun H locs hC => ?_)
  refine W.eq (g2 := F0 m 1562 ls [.int r]) rfl ?_
  refine lv_aload_n hx hb dL_law_1562 rfl (lv_at hl 2 rfl) ?_
  refine lv_aload_n hx hb dL_law_1563 rfl (lv_at hl 0 rfl) ?_
  refine lv_iload_n hx hb dL_law_1564 rfl (lv_at hl 3 rfl) ?_
  refine lv_iconst (v := (1 : Int32)) hx hb dL_law_1565 (by decide) ?_
  refine lv_iadd hx hb dL_law_1566 ?_
  refine va_sld hx hb hX hbl hbA hC.2.2 (hv 1 (by decide)) dL_law_1567 ?_
  refine lv_aload_n hx hb dL_law_1568 rfl (lv_at hl 0 rfl) ?_
  refine lv_iload_n hx hb dL_law_1569 rfl (lv_at hl 3 rfl) ?_
  refine lv_iconst (v := (2 : Int32)) hx hb dL_law_1570 (by decide) ?_
  refine lv_iadd hx hb dL_law_1571 ?_
  refine va_sld hx hb hX hbl hbA hC.2.2 (hv 2 (by decide)) dL_law_1572 ?_
  refine l_callR (As := [.int (xs (i + 1).toNatClampNeg), .int (xs (i + 2).toNatClampNeg)]) (rest := [.int r]) (res := some (.int r)) fx hC (Rc_taken l τ (xs (i + 1).toNatClampNeg) (xs (i + 2).toNatClampNeg) h2) k_1068 Rk_taken Rh_taken ⟨rfl, rfl⟩ ⟨Nat.le_of_ble_eq_true rfl, Nat.le_of_ble_eq_true rfl⟩ hf0 rfl hl.1 rfl (Nat.le_of_ble_eq_true rfl) dL_law_1573 (fun H locs hC => ?_)
  refine W.eq (g2 := F0 m 1576 ls [.int r, .int r]) rfl ?_
  refine lv_icmp_eq (tgt := 1670) hx hb dL_law_1576 (by decide) (fun _ => ?_) (fun c => absurd rfl c)
  exact W.widen (Nat.le_succ _) (Nat.le_add_right _ 8) (hk _ _ _ _ h3 hC)
def ST_act (I : DS → RS → Prop) : Prop := ∀ (σ : DS) (τ : RS), I σ τ → ∀ a1 a2 a3 : Int32, ∃ (r : Int32) (σ' : DS) (τ' : RS), (D8m_act σ a1 a2 a3 = some (r, σ')) ∧ (Rm_act τ a1 a2 a3 = some (r, τ')) ∧ I σ' τ'
set_option maxRecDepth 100000 in
set_option maxHeartbeats 4000000 in
theorem Lc_act (fx : FX p s m args meth c cL_law 4 RL D cy) (sb : SB s) (hX : va_X b L xs s s.heap) (hbl : b < s.heap.size) (hbA : ¬ s.heap.size ≤ b) (hC : LC D cy q qr s σ τ H locs) (hl : lv_has ls 4 [(0, .ref b), (1, .ref (q 0)), (2, .ref (qr 0)), (3, .int i)]) (hf : cells + 1 ≤ room_1.cells ∧ slots + 8 ≤ room_1.slots) (hv : ∀ k : Nat, k ≤ 4 → vp_in (i + Int32.ofNat k) L) {I : DS → RS → Prop} (hI : I σ τ) (st : ST_act I)
    (hk : ∀ (σ' : DS) (τ' : RS) (H1 : Heap) (locs1 : List Loc), I σ' τ' → LC D cy q qr s σ' τ' H1 locs1 → W p l e room_1 s m args below meth c H1 locs1 (cells + 1) (slots + 8) Q (F0 m 1670 ls [])) : W p l e room_1 s m args below meth c H locs cells slots Q (F0 m 1581 ls []) := by
  have hx := fx.1
  have hb := fx.2.1
  have hf0 : cells ≤ room_1.cells ∧ slots ≤ room_1.slots := ⟨Nat.le_of_succ_le hf.1, Nat.le_trans (Nat.le_add_right _ 8) hf.2⟩
  obtain ⟨r, σ', τ', h1, h2, h3⟩ := st σ τ hI (xs (i + 1).toNatClampNeg) (xs (i + 2).toNatClampNeg) (xs (i + 3).toNatClampNeg)
  refine lv_aload_n hx hb dL_law_1581 rfl (lv_at hl 1 rfl) ?_
  refine lv_aload_n hx hb dL_law_1582 rfl (lv_at hl 0 rfl) ?_
  refine lv_iload_n hx hb dL_law_1583 rfl (lv_at hl 3 rfl) ?_
  refine lv_iconst (v := (1 : Int32)) hx hb dL_law_1584 (by decide) ?_
  refine lv_iadd hx hb dL_law_1585 ?_
  refine va_sld hx hb hX hbl hbA hC.2.2 (hv 1 (by decide)) dL_law_1586 ?_
  refine lv_aload_n hx hb dL_law_1587 rfl (lv_at hl 0 rfl) ?_
  refine lv_iload_n hx hb dL_law_1588 rfl (lv_at hl 3 rfl) ?_
  refine lv_iconst (v := (2 : Int32)) hx hb dL_law_1589 (by decide) ?_
  refine lv_iadd hx hb dL_law_1590 ?_
  refine va_sld hx hb hX hbl hbA hC.2.2 (hv 2 (by decide)) dL_law_1591 ?_
  refine lv_aload_n hx hb dL_law_1592 rfl (lv_at hl 0 rfl) ?_
  refine lv_iload_n hx hb dL_law_1593 rfl (lv_at hl 3 rfl) ?_
  refine lv_iconst (v := (3 : Int32)) hx hb dL_law_1594 (by decide) ?_
  refine lv_iadd hx hb dL_law_1595 ?_
  refine va_sld hx hb hX hbl hbA hC.2.2 (hv 3 (by decide)) dL_law_1596 ?_
  refine l_callD (As := [.int (xs (i + 1).toNatClampNeg), .int (xs (i + 2).toNatClampNeg), .int (xs (i + 3).toNatClampNeg)]) (rest := []) (res := some (.int r)) fx sb hC (D8c_act l σ (xs (i + 1).toNatClampNeg) (xs (i + 2).toNatClampNeg) (xs (i + 3).toNatClampNeg) h1) k_1075 D8k_act D8h_act ⟨rfl, rfl⟩ ⟨Nat.le_of_ble_eq_true rfl, Nat.le_of_ble_eq_true rfl⟩ hf0 rfl hl.1 rfl (Nat.le_of_ble_eq_true rfl) dL_law_1597 (fun H locs hC => ?_)
  refine W.eq (g2 := F0 m 1600 ls [.int r]) rfl ?_
  refine lv_aload_n hx hb dL_law_1600 rfl (lv_at hl 2 rfl) ?_
  refine lv_aload_n hx hb dL_law_1601 rfl (lv_at hl 0 rfl) ?_
  refine lv_iload_n hx hb dL_law_1602 rfl (lv_at hl 3 rfl) ?_
  refine lv_iconst (v := (1 : Int32)) hx hb dL_law_1603 (by decide) ?_
  refine lv_iadd hx hb dL_law_1604 ?_
  refine va_sld hx hb hX hbl hbA hC.2.2 (hv 1 (by decide)) dL_law_1605 ?_
  refine lv_aload_n hx hb dL_law_1606 rfl (lv_at hl 0 rfl) ?_
  refine lv_iload_n hx hb dL_law_1607 rfl (lv_at hl 3 rfl) ?_
  refine lv_iconst (v := (2 : Int32)) hx hb dL_law_1608 (by decide) ?_
  refine lv_iadd hx hb dL_law_1609 ?_
  refine va_sld hx hb hX hbl hbA hC.2.2 (hv 2 (by decide)) dL_law_1610 ?_
  refine lv_aload_n hx hb dL_law_1611 rfl (lv_at hl 0 rfl) ?_
  refine lv_iload_n hx hb dL_law_1612 rfl (lv_at hl 3 rfl) ?_
  refine lv_iconst (v := (3 : Int32)) hx hb dL_law_1613 (by decide) ?_
  refine lv_iadd hx hb dL_law_1614 ?_
  refine va_sld hx hb hX hbl hbA hC.2.2 (hv 3 (by decide)) dL_law_1615 ?_
  refine l_callR (As := [.int (xs (i + 1).toNatClampNeg), .int (xs (i + 2).toNatClampNeg), .int (xs (i + 3).toNatClampNeg)]) (rest := [.int r]) (res := some (.int r)) fx hC (Rc_act l τ (xs (i + 1).toNatClampNeg) (xs (i + 2).toNatClampNeg) (xs (i + 3).toNatClampNeg) h2) k_1104 Rk_act Rh_act ⟨rfl, rfl⟩ ⟨Nat.le_of_ble_eq_true rfl, Nat.le_of_ble_eq_true rfl⟩ hf0 rfl hl.1 rfl (Nat.le_of_ble_eq_true rfl) dL_law_1616 (fun H locs hC => ?_)
  refine W.eq (g2 := F0 m 1619 ls [.int r, .int r]) rfl ?_
  refine lv_icmp_eq (tgt := 1670) hx hb dL_law_1619 (by decide) (fun _ => ?_) (fun c => absurd rfl c)
  exact W.widen (Nat.le_succ _) (Nat.le_add_right _ 8) (hk _ _ _ _ h3 hC)
def ST_trace (I : DS → RS → Prop) : Prop := ∀ (σ : DS) (τ : RS), I σ τ → ∀ a1 : Int32, ∃ (r : Int32) (σ' : DS) (τ' : RS), (D8m_trace σ a1 = some r ∧ σ' = σ) ∧ (Rm_trace τ a1 = some r ∧ τ' = τ) ∧ I σ' τ'
set_option maxRecDepth 100000 in
set_option maxHeartbeats 4000000 in
theorem Lc_trace (fx : FX p s m args meth c cL_law 4 RL D cy) (sb : SB s) (hX : va_X b L xs s s.heap) (hbl : b < s.heap.size) (hbA : ¬ s.heap.size ≤ b) (hC : LC D cy q qr s σ τ H locs) (hl : lv_has ls 4 [(0, .ref b), (1, .ref (q 0)), (2, .ref (qr 0)), (3, .int i)]) (hf : cells + 1 ≤ room_1.cells ∧ slots + 8 ≤ room_1.slots) (hv : ∀ k : Nat, k ≤ 4 → vp_in (i + Int32.ofNat k) L) {I : DS → RS → Prop} (hI : I σ τ) (st : ST_trace I)
    (hk : ∀ (σ' : DS) (τ' : RS) (H1 : Heap) (locs1 : List Loc), I σ' τ' → LC D cy q qr s σ' τ' H1 locs1 → W p l e room_1 s m args below meth c H1 locs1 (cells + 1) (slots + 8) Q (F0 m 1670 ls [])) : W p l e room_1 s m args below meth c H locs cells slots Q (F0 m 1624 ls []) := by
  have hx := fx.1
  have hb := fx.2.1
  have hf0 : cells ≤ room_1.cells ∧ slots ≤ room_1.slots := ⟨Nat.le_of_succ_le hf.1, Nat.le_trans (Nat.le_add_right _ 8) hf.2⟩
  obtain ⟨r, σ', τ', h1, h2, h3⟩ := st σ τ hI (xs (i + 1).toNatClampNeg)
  obtain ⟨h1, e1⟩ := h1
  rw [e1] at h3
  obtain ⟨h2, e2⟩ := h2
  rw [e2] at h3
  refine lv_aload_n hx hb dL_law_1624 rfl (lv_at hl 1 rfl) ?_
  refine lv_aload_n hx hb dL_law_1625 rfl (lv_at hl 0 rfl) ?_
  refine lv_iload_n hx hb dL_law_1626 rfl (lv_at hl 3 rfl) ?_
  refine lv_iconst (v := (1 : Int32)) hx hb dL_law_1627 (by decide) ?_
  refine lv_iadd hx hb dL_law_1628 ?_
  refine va_sld hx hb hX hbl hbA hC.2.2 (hv 1 (by decide)) dL_law_1629 ?_
  refine l_callD (As := [.int (xs (i + 1).toNatClampNeg)]) (rest := []) (res := some (.int r)) fx sb hC (D8c_trace l σ (xs (i + 1).toNatClampNeg) h1) k_1134 D8k_trace D8h_trace ⟨rfl, rfl⟩ ⟨Nat.le_of_ble_eq_true rfl, Nat.le_of_ble_eq_true rfl⟩ hf0 rfl hl.1 rfl (Nat.le_of_ble_eq_true rfl) dL_law_1630 (fun H locs hC => ?_)
  refine W.eq (g2 := F0 m 1633 ls [.int r]) rfl ?_
  refine lv_aload_n hx hb dL_law_1633 rfl (lv_at hl 2 rfl) ?_
  refine lv_aload_n hx hb dL_law_1634 rfl (lv_at hl 0 rfl) ?_
  refine lv_iload_n hx hb dL_law_1635 rfl (lv_at hl 3 rfl) ?_
  refine lv_iconst (v := (1 : Int32)) hx hb dL_law_1636 (by decide) ?_
  refine lv_iadd hx hb dL_law_1637 ?_
  refine va_sld hx hb hX hbl hbA hC.2.2 (hv 1 (by decide)) dL_law_1638 ?_
  refine l_callR (As := [.int (xs (i + 1).toNatClampNeg)]) (rest := [.int r]) (res := some (.int r)) fx hC (Rc_trace l τ (xs (i + 1).toNatClampNeg) h2) k_1142 Rk_trace Rh_trace ⟨rfl, rfl⟩ ⟨Nat.le_of_ble_eq_true rfl, Nat.le_of_ble_eq_true rfl⟩ hf0 rfl hl.1 rfl (Nat.le_of_ble_eq_true rfl) dL_law_1639 (fun H locs hC => ?_)
  refine W.eq (g2 := F0 m 1642 ls [.int r, .int r]) rfl ?_
  refine lv_icmp_eq (tgt := 1670) hx hb dL_law_1642 (by decide) (fun _ => ?_) (fun c => absurd rfl c)
  exact W.widen (Nat.le_succ _) (Nat.le_add_right _ 8) (hk _ _ _ _ h3 hC)
def ST_there (I : DS → RS → Prop) : Prop := ∀ (σ : DS) (τ : RS), I σ τ → ∀ a1 : Int32, ∃ (r : Int32) (σ' : DS) (τ' : RS), (D8m_there σ a1 = r ∧ σ' = σ) ∧ (Rm_there τ a1 = r ∧ τ' = τ) ∧ I σ' τ'
set_option maxRecDepth 100000 in
set_option maxHeartbeats 4000000 in
theorem Lc_there (fx : FX p s m args meth c cL_law 4 RL D cy) (sb : SB s) (hX : va_X b L xs s s.heap) (hbl : b < s.heap.size) (hbA : ¬ s.heap.size ≤ b) (hC : LC D cy q qr s σ τ H locs) (hl : lv_has ls 4 [(0, .ref b), (1, .ref (q 0)), (2, .ref (qr 0)), (3, .int i)]) (hf : cells + 1 ≤ room_1.cells ∧ slots + 8 ≤ room_1.slots) (hv : ∀ k : Nat, k ≤ 4 → vp_in (i + Int32.ofNat k) L) {I : DS → RS → Prop} (hI : I σ τ) (st : ST_there I)
    (hk : ∀ (σ' : DS) (τ' : RS) (H1 : Heap) (locs1 : List Loc), I σ' τ' → LC D cy q qr s σ' τ' H1 locs1 → W p l e room_1 s m args below meth c H1 locs1 (cells + 1) (slots + 8) Q (F0 m 1670 ls [])) : W p l e room_1 s m args below meth c H locs cells slots Q (F0 m 1647 ls []) := by
  have hx := fx.1
  have hb := fx.2.1
  have hf0 : cells ≤ room_1.cells ∧ slots ≤ room_1.slots := ⟨Nat.le_of_succ_le hf.1, Nat.le_trans (Nat.le_add_right _ 8) hf.2⟩
  obtain ⟨r, σ', τ', h1, h2, h3⟩ := st σ τ hI (xs (i + 1).toNatClampNeg)
  obtain ⟨h1, e1⟩ := h1
  rw [e1] at h3
  obtain ⟨h2, e2⟩ := h2
  rw [e2] at h3
  refine lv_aload_n hx hb dL_law_1647 rfl (lv_at hl 1 rfl) ?_
  refine lv_aload_n hx hb dL_law_1648 rfl (lv_at hl 0 rfl) ?_
  refine lv_iload_n hx hb dL_law_1649 rfl (lv_at hl 3 rfl) ?_
  refine lv_iconst (v := (1 : Int32)) hx hb dL_law_1650 (by decide) ?_
  refine lv_iadd hx hb dL_law_1651 ?_
  refine va_sld hx hb hX hbl hbA hC.2.2 (hv 1 (by decide)) dL_law_1652 ?_
  refine l_callD (As := [.int (xs (i + 1).toNatClampNeg)]) (rest := []) (res := some (.int r)) fx sb hC (h1 ▸ D8c_there l σ (xs (i + 1).toNatClampNeg)) k_1146 D8k_there D8h_there ⟨rfl, rfl⟩ ⟨Nat.le_of_ble_eq_true rfl, Nat.le_of_ble_eq_true rfl⟩ hf0 rfl hl.1 rfl (Nat.le_of_ble_eq_true rfl) dL_law_1653 (fun H locs hC => ?_)
  refine W.eq (g2 := F0 m 1656 ls [.int r]) rfl ?_
  refine lv_aload_n hx hb dL_law_1656 rfl (lv_at hl 2 rfl) ?_
  refine lv_aload_n hx hb dL_law_1657 rfl (lv_at hl 0 rfl) ?_
  refine lv_iload_n hx hb dL_law_1658 rfl (lv_at hl 3 rfl) ?_
  refine lv_iconst (v := (1 : Int32)) hx hb dL_law_1659 (by decide) ?_
  refine lv_iadd hx hb dL_law_1660 ?_
  refine va_sld hx hb hX hbl hbA hC.2.2 (hv 1 (by decide)) dL_law_1661 ?_
  refine l_callR (As := [.int (xs (i + 1).toNatClampNeg)]) (rest := [.int r]) (res := some (.int r)) fx hC (h2 ▸ Rc_there l τ (xs (i + 1).toNatClampNeg)) k_1152 Rk_there Rh_there ⟨rfl, rfl⟩ ⟨Nat.le_of_ble_eq_true rfl, Nat.le_of_ble_eq_true rfl⟩ hf0 rfl hl.1 rfl (Nat.le_of_ble_eq_true rfl) dL_law_1662 (fun H locs hC => ?_)
  refine W.eq (g2 := F0 m 1665 ls [.int r, .int r]) rfl ?_
  refine lv_icmp_eq (tgt := 1670) hx hb dL_law_1665 (by decide) (fun _ => ?_) (fun c => absurd rfl c)
  exact W.widen (Nat.le_succ _) (Nat.le_add_right _ 8) (hk _ _ _ _ h3 hC)
end LAWCASES

def lw_P (b : Addr) (xs : List Int32) (args : Array Value) (s : State) : Prop := args = #[.ref b] ∧ s.IntsAt b xs ∧ xs.length ≤ 2560 ∧ (Jvm.Cond.and given_1 narrow_1).before args s = true
def lw_Q (_ : Array Value) (s : State) (o : Outcome) (t : State) : Prop := o = .returned (some (.int 1)) ∧ Framed s o t [] 600000 7302250
def lw_Z (below : List Frame) (a : Array Value) (s : State) : State → Prop := fun t => ∃ o, t.status = .running ∧ Ended t below o ∧ lw_Q a s o t
/-- the law's own end, with 1 on the stack, nothing written that was there before, its room as the claim has it -/
theorem lw_ret {p : Program} {l : Launch} {e : Env} {s : State} {m : MethodId} {below : List Frame} {meth : Method} {c : Code} {b : Nat} (hx : p.tables.exec = Jvm.exec) (hb : c.code = code) (hr : meth.sig.returnType = ret) (hlocks : meth.locks = false) {pc : Nat} {H : Heap} {ls : Array Slot} (hdg : decode code pc = .ok (.ireturn, 1)) : W p l e room_1 s m #[Value.ref b] below meth c H [] 600000 7302250 (lw_Z below #[Value.ref b] s) (F0 m pc ls [.int 1]) := by
  intro T hT X
  obtain ⟨fs, hret, hrun, hended, hW, hframe⟩ := X.leave (v := some (.int 1)) (hlocks := hlocks) (fun h => by rw [hr] at h; cases h)
  have hmeth' : T.vm.method? m = some meth := X.method'
  refine ⟨T.setFrames fs, ?_, .returned (some (.int 1)), hrun, hended, rfl, ⟨_, rfl⟩, hW, hframe⟩
  jvm_step X.here [X.here.top, hx, hb, hdg, hmeth', hr, ret, narrow_b1]
  (try refine ⟨rfl, ?_⟩); (try refine ⟨rfl, ?_⟩)
  first | (intro acts; rw [hret _ acts rfl rfl rfl]) | rw [hret _ _ rfl rfl rfl]
  exact Steps.refl _
/-- what holds at the law's entry: the machine, the code, the tables' words (any of lw_tbl by 'hts w (by decide +kernel)'), the script of L ints xs at the cell b, what the Statement gives of the start (any of its parts by flat_of_before) -/
def lw_At (p : Program) (s : State) (m : MethodId) (meth : Method) (c : Code) (b L : Nat) (xs : Nat → Int32) : Prop :=
  p.tables.exec = Jvm.exec ∧ c.code = code ∧ meth.sig.returnType = ret ∧ c.maxLocals = 4 ∧ s.vm.findClass R_law = some m.cls ∧ (∀ w ∈ lw_tbl, w.before #[Value.ref b] s = true) ∧ va_X b L xs s s.heap ∧ b < s.heap.size ∧ meth.locks = false ∧ (Jvm.Cond.and given_1 narrow_1).before #[Value.ref b] s = true

/-- what is to be shown of every call: both answer, alike, and the relation is kept -/
def STS (I : DS → RS → Prop) : Prop := ST_post I ∧ ST_road I ∧ ST_odds I ∧ ST_roadOf I ∧ ST_tell I ∧ ST_all I ∧ ST_paths I ∧ ST_rounds I ∧ ST_trees I ∧ ST_pairs I ∧ ST_parts I ∧ ST_degrees I ∧ ST_join I ∧ ST_thin I ∧ ST_by I ∧ ST_within I ∧ ST_drop I ∧ ST_close I ∧ ST_count I ∧ ST_told I ∧ ST_total I ∧ ST_often I ∧ ST_has I ∧ ST_way I ∧ ST_rank I ∧ ST_best I ∧ ST_draw I ∧ ST_same I ∧ ST_chance I ∧ ST_matters I ∧ ST_turned I ∧ ST_write I ∧ ST_row I ∧ ST_forge I ∧ ST_check I ∧ ST_sheet I ∧ ST_cell I ∧ ST_lay I ∧ ST_shelf I ∧ ST_taken I ∧ ST_act I ∧ ST_trace I ∧ ST_there I
section LAWLOOP
variable {p : Program} {l : Launch} {e : Env} {s : State} {m : MethodId} {below : List Frame} {meth : Method} {c : Code} {H : Heap} {locs : List Loc} {cells slots : Nat}
variable {ls : Array Slot} {D : va_G} {cy : Nat → ClassId} {q qr : Nat → Nat} {σ : DS} {τ : RS} {b L : Nat} {xs : Nat → Int32} {i : Int32}

set_option maxRecDepth 100000 in
set_option maxHeartbeats 4000000 in
theorem L_turn {args : Array Value} {Q : State → Prop} (fx : FX p s m args meth c cL_law 4 RL D cy) (sb : SB s) (hX : va_X b L xs s s.heap) (hbl : b < s.heap.size) (hbA : ¬ s.heap.size ≤ b) (hC : LC D cy q qr s σ τ H locs) (hl : lv_has ls 4 [(0, .ref b), (1, .ref (q 0)), (2, .ref (qr 0)), (3, .int i)]) (hf : cells + 1 ≤ room_1.cells ∧ slots + 8 ≤ room_1.slots) (hv : ∀ k : Nat, k ≤ 4 → vp_in (i + Int32.ofNat k) L) (hv0 : vp_in i L) {I : DS → RS → Prop} (hI : I σ τ) (sts : STS I)
    (hk : ∀ (σ' : DS) (τ' : RS) (H1 : Heap) (locs1 : List Loc), I σ' τ' → LC D cy q qr s σ' τ' H1 locs1 → W p l e room_1 s m args below meth c H1 locs1 (cells + 1) (slots + 8) Q (F0 m 1670 ls [])) : W p l e room_1 s m args below meth c H locs cells slots Q (F0 m 26 ls []) := by
  have hx := fx.1
  have hb := fx.2.1
  refine lv_aload_n hx hb dL_law_26 rfl (lv_at hl 0 rfl) ?_
  refine lv_iload_n hx hb dL_law_27 rfl (lv_at hl 3 rfl) ?_
  refine va_sld hx hb hX hbl hbA hC.2.2 hv0 dL_law_28 ?_
  refine lv_bipush (v := (63 : Int32)) hx hb dL_law_29 (by decide) ?_
  refine lv_iand hx hb dL_law_31 ?_
  refine W.eq (g2 := F0 m 32 ls [.int (xs i.toNatClampNeg &&& 63)]) rfl ?_
  generalize xs i.toNatClampNeg &&& 63 = o
  obtain ⟨t0, t1, t2, t3, t4, t5, t6, t7, t8, t9, t10, t11, t12, t13, t14, t15, t16, t17, t18, t19, t20, t21, t22, t23, t24, t25, t26, t27, t28, t29, t30, t31, t32, t33, t34, t35, t36, t37, t38, t39, t40, t41, t42⟩ := sts
  have hc : o.toInt = 0 ∨ o.toInt = 1 ∨ o.toInt = 2 ∨ o.toInt = 3 ∨ o.toInt = 4 ∨ o.toInt = 5 ∨ o.toInt = 6 ∨ o.toInt = 7 ∨ o.toInt = 8 ∨ o.toInt = 9 ∨ o.toInt = 10 ∨ o.toInt = 11 ∨ o.toInt = 12 ∨ o.toInt = 13 ∨ o.toInt = 14 ∨ o.toInt = 15 ∨ o.toInt = 16 ∨ o.toInt = 17 ∨ o.toInt = 18 ∨ o.toInt = 19 ∨ o.toInt = 20 ∨ o.toInt = 21 ∨ o.toInt = 22 ∨ o.toInt = 23 ∨ o.toInt = 24 ∨ o.toInt = 25 ∨ o.toInt = 26 ∨ o.toInt = 27 ∨ o.toInt = 28 ∨ o.toInt = 29 ∨ o.toInt = 30 ∨ o.toInt = 31 ∨ o.toInt = 32 ∨ o.toInt = 33 ∨ o.toInt = 34 ∨ o.toInt = 35 ∨ o.toInt = 36 ∨ o.toInt = 37 ∨ o.toInt = 38 ∨ o.toInt = 39 ∨ o.toInt = 40 ∨ o.toInt = 41 ∨ o.toInt = 42 ∨ (o.toInt < 0 ∨ 42 < o.toInt) := by omega
  rcases hc with e0 | e0 | e0 | e0 | e0 | e0 | e0 | e0 | e0 | e0 | e0 | e0 | e0 | e0 | e0 | e0 | e0 | e0 | e0 | e0 | e0 | e0 | e0 | e0 | e0 | e0 | e0 | e0 | e0 | e0 | e0 | e0 | e0 | e0 | e0 | e0 | e0 | e0 | e0 | e0 | e0 | e0 | e0 | e0

  · refine lv_tableIn (off := 188) (tgt := 220) hx hb dL_law_32 (by rw [e0]; decide) (by rw [e0]; decide) (by rw [e0]; rfl) (by decide) ?_
    exact Lc_post fx sb hX hbl hbA hC hl hf hv hI t0 hk
  · refine lv_tableIn (off := 211) (tgt := 243) hx hb dL_law_32 (by rw [e0]; decide) (by rw [e0]; decide) (by rw [e0]; rfl) (by decide) ?_
    exact Lc_road fx sb hX hbl hbA hC hl hf hv hI t1 hk
  · refine lv_tableIn (off := 254) (tgt := 286) hx hb dL_law_32 (by rw [e0]; decide) (by rw [e0]; decide) (by rw [e0]; rfl) (by decide) ?_
    exact Lc_odds fx sb hX hbl hbA hC hl hf hv hI t2 hk
  · refine lv_tableIn (off := 287) (tgt := 319) hx hb dL_law_32 (by rw [e0]; decide) (by rw [e0]; decide) (by rw [e0]; rfl) (by decide) ?_
    exact Lc_roadOf fx sb hX hbl hbA hC hl hf hv hI t3 hk
  · refine lv_tableIn (off := 320) (tgt := 352) hx hb dL_law_32 (by rw [e0]; decide) (by rw [e0]; decide) (by rw [e0]; rfl) (by decide) ?_
    exact Lc_tell fx sb hX hbl hbA hC hl hf hv hI t4 hk
  · refine lv_tableIn (off := 343) (tgt := 375) hx hb dL_law_32 (by rw [e0]; decide) (by rw [e0]; decide) (by rw [e0]; rfl) (by decide) ?_
    exact Lc_all fx sb hX hbl hbA hC hl hf hv hI t5 hk
  · refine lv_tableIn (off := 366) (tgt := 398) hx hb dL_law_32 (by rw [e0]; decide) (by rw [e0]; decide) (by rw [e0]; rfl) (by decide) ?_
    exact Lc_paths fx sb hX hbl hbA hC hl hf hv hI t6 hk
  · refine lv_tableIn (off := 425) (tgt := 457) hx hb dL_law_32 (by rw [e0]; decide) (by rw [e0]; decide) (by rw [e0]; rfl) (by decide) ?_
    exact Lc_rounds fx sb hX hbl hbA hC hl hf hv hI t7 hk
  · refine lv_tableIn (off := 464) (tgt := 496) hx hb dL_law_32 (by rw [e0]; decide) (by rw [e0]; decide) (by rw [e0]; rfl) (by decide) ?_
    exact Lc_trees fx sb hX hbl hbA hC hl hf hv hI t8 hk
  · refine lv_tableIn (off := 487) (tgt := 519) hx hb dL_law_32 (by rw [e0]; decide) (by rw [e0]; decide) (by rw [e0]; rfl) (by decide) ?_
    exact Lc_pairs fx sb hX hbl hbA hC hl hf hv hI t9 hk
  · refine lv_tableIn (off := 526) (tgt := 558) hx hb dL_law_32 (by rw [e0]; decide) (by rw [e0]; decide) (by rw [e0]; rfl) (by decide) ?_
    exact Lc_parts fx sb hX hbl hbA hC hl hf hv hI t10 hk
  · refine lv_tableIn (off := 569) (tgt := 601) hx hb dL_law_32 (by rw [e0]; decide) (by rw [e0]; decide) (by rw [e0]; rfl) (by decide) ?_
    exact Lc_degrees fx sb hX hbl hbA hC hl hf hv hI t11 hk
  · refine lv_tableIn (off := 622) (tgt := 654) hx hb dL_law_32 (by rw [e0]; decide) (by rw [e0]; decide) (by rw [e0]; rfl) (by decide) ?_
    exact Lc_join fx sb hX hbl hbA hC hl hf hv hI t12 hk
  · refine lv_tableIn (off := 665) (tgt := 697) hx hb dL_law_32 (by rw [e0]; decide) (by rw [e0]; decide) (by rw [e0]; rfl) (by decide) ?_
    exact Lc_thin fx sb hX hbl hbA hC hl hf hv hI t13 hk
  · refine lv_tableIn (off := 698) (tgt := 730) hx hb dL_law_32 (by rw [e0]; decide) (by rw [e0]; decide) (by rw [e0]; rfl) (by decide) ?_
    exact Lc_by fx sb hX hbl hbA hC hl hf hv hI t14 hk
  · refine lv_tableIn (off := 741) (tgt := 773) hx hb dL_law_32 (by rw [e0]; decide) (by rw [e0]; decide) (by rw [e0]; rfl) (by decide) ?_
    exact Lc_within fx sb hX hbl hbA hC hl hf hv hI t15 hk
  · refine lv_tableIn (off := 784) (tgt := 816) hx hb dL_law_32 (by rw [e0]; decide) (by rw [e0]; decide) (by rw [e0]; rfl) (by decide) ?_
    exact Lc_drop fx sb hX hbl hbA hC hl hf hv hI t16 hk
  · refine lv_tableIn (off := 797) (tgt := 829) hx hb dL_law_32 (by rw [e0]; decide) (by rw [e0]; decide) (by rw [e0]; rfl) (by decide) ?_
    exact Lc_close fx sb hX hbl hbA hC hl hf hv hI t17 hk
  · refine lv_tableIn (off := 810) (tgt := 842) hx hb dL_law_32 (by rw [e0]; decide) (by rw [e0]; decide) (by rw [e0]; rfl) (by decide) ?_
    exact Lc_count fx sb hX hbl hbA hC hl hf hv hI t18 hk
  · refine lv_tableIn (off := 833) (tgt := 865) hx hb dL_law_32 (by rw [e0]; decide) (by rw [e0]; decide) (by rw [e0]; rfl) (by decide) ?_
    exact Lc_told fx sb hX hbl hbA hC hl hf hv hI t19 hk
  · refine lv_tableIn (off := 866) (tgt := 898) hx hb dL_law_32 (by rw [e0]; decide) (by rw [e0]; decide) (by rw [e0]; rfl) (by decide) ?_
    exact Lc_total fx sb hX hbl hbA hC hl hf hv hI t20 hk
  · refine lv_tableIn (off := 890) (tgt := 922) hx hb dL_law_32 (by rw [e0]; decide) (by rw [e0]; decide) (by rw [e0]; rfl) (by decide) ?_
    exact Lc_often fx sb hX hbl hbA hC hl hf hv hI t21 hk
  · refine lv_tableIn (off := 923) (tgt := 955) hx hb dL_law_32 (by rw [e0]; decide) (by rw [e0]; decide) (by rw [e0]; rfl) (by decide) ?_
    exact Lc_has fx sb hX hbl hbA hC hl hf hv hI t22 hk
  · refine lv_tableIn (off := 956) (tgt := 988) hx hb dL_law_32 (by rw [e0]; decide) (by rw [e0]; decide) (by rw [e0]; rfl) (by decide) ?_
    exact Lc_way fx sb hX hbl hbA hC hl hf hv hI t23 hk
  · refine lv_tableIn (off := 989) (tgt := 1021) hx hb dL_law_32 (by rw [e0]; decide) (by rw [e0]; decide) (by rw [e0]; rfl) (by decide) ?_
    exact Lc_rank fx sb hX hbl hbA hC hl hf hv hI t24 hk
  · refine lv_tableIn (off := 1022) (tgt := 1054) hx hb dL_law_32 (by rw [e0]; decide) (by rw [e0]; decide) (by rw [e0]; rfl) (by decide) ?_
    exact Lc_best fx sb hX hbl hbA hC hl hf hv hI t25 hk
  · refine lv_tableIn (off := 1065) (tgt := 1097) hx hb dL_law_32 (by rw [e0]; decide) (by rw [e0]; decide) (by rw [e0]; rfl) (by decide) ?_
    exact Lc_draw fx sb hX hbl hbA hC hl hf hv hI t26 hk
  · refine lv_tableIn (off := 1098) (tgt := 1130) hx hb dL_law_32 (by rw [e0]; decide) (by rw [e0]; decide) (by rw [e0]; rfl) (by decide) ?_
    exact Lc_same fx sb hX hbl hbA hC hl hf hv hI t27 hk
  · refine lv_tableIn (off := 1131) (tgt := 1163) hx hb dL_law_32 (by rw [e0]; decide) (by rw [e0]; decide) (by rw [e0]; rfl) (by decide) ?_
    exact Lc_chance fx sb hX hbl hbA hC hl hf hv hI t28 hk
  · refine lv_tableIn (off := 1155) (tgt := 1187) hx hb dL_law_32 (by rw [e0]; decide) (by rw [e0]; decide) (by rw [e0]; rfl) (by decide) ?_
    exact Lc_matters fx sb hX hbl hbA hC hl hf hv hI t29 hk
  · refine lv_tableIn (off := 1189) (tgt := 1221) hx hb dL_law_32 (by rw [e0]; decide) (by rw [e0]; decide) (by rw [e0]; rfl) (by decide) ?_
    exact Lc_turned fx sb hX hbl hbA hC hl hf hv hI t30 hk
  · refine lv_tableIn (off := 1222) (tgt := 1254) hx hb dL_law_32 (by rw [e0]; decide) (by rw [e0]; decide) (by rw [e0]; rfl) (by decide) ?_
    exact Lc_write fx sb hX hbl hbA hC hl hf hv hI t31 hk
  · refine lv_tableIn (off := 1245) (tgt := 1277) hx hb dL_law_32 (by rw [e0]; decide) (by rw [e0]; decide) (by rw [e0]; rfl) (by decide) ?_
    exact Lc_row fx sb hX hbl hbA hC hl hf hv hI t32 hk
  · refine lv_tableIn (off := 1278) (tgt := 1310) hx hb dL_law_32 (by rw [e0]; decide) (by rw [e0]; decide) (by rw [e0]; rfl) (by decide) ?_
    exact Lc_forge fx sb hX hbl hbA hC hl hf hv hI t33 hk
  · refine lv_tableIn (off := 1321) (tgt := 1353) hx hb dL_law_32 (by rw [e0]; decide) (by rw [e0]; decide) (by rw [e0]; rfl) (by decide) ?_
    exact Lc_check fx sb hX hbl hbA hC hl hf hv hI t34 hk
  · refine lv_tableIn (off := 1344) (tgt := 1376) hx hb dL_law_32 (by rw [e0]; decide) (by rw [e0]; decide) (by rw [e0]; rfl) (by decide) ?_
    exact Lc_sheet fx sb hX hbl hbA hC hl hf hv hI t35 hk
  · refine lv_tableIn (off := 1387) (tgt := 1419) hx hb dL_law_32 (by rw [e0]; decide) (by rw [e0]; decide) (by rw [e0]; rfl) (by decide) ?_
    exact Lc_cell fx sb hX hbl hbA hC hl hf hv hI t36 hk
  · refine lv_tableIn (off := 1430) (tgt := 1462) hx hb dL_law_32 (by rw [e0]; decide) (by rw [e0]; decide) (by rw [e0]; rfl) (by decide) ?_
    exact Lc_lay fx sb hX hbl hbA hC hl hf hv hI t37 hk
  · refine lv_tableIn (off := 1473) (tgt := 1505) hx hb dL_law_32 (by rw [e0]; decide) (by rw [e0]; decide) (by rw [e0]; rfl) (by decide) ?_
    exact Lc_shelf fx sb hX hbl hbA hC hl hf hv hI t38 hk
  · refine lv_tableIn (off := 1516) (tgt := 1548) hx hb dL_law_32 (by rw [e0]; decide) (by rw [e0]; decide) (by rw [e0]; rfl) (by decide) ?_
    exact Lc_taken fx sb hX hbl hbA hC hl hf hv hI t39 hk
  · refine lv_tableIn (off := 1549) (tgt := 1581) hx hb dL_law_32 (by rw [e0]; decide) (by rw [e0]; decide) (by rw [e0]; rfl) (by decide) ?_
    exact Lc_act fx sb hX hbl hbA hC hl hf hv hI t40 hk
  · refine lv_tableIn (off := 1592) (tgt := 1624) hx hb dL_law_32 (by rw [e0]; decide) (by rw [e0]; decide) (by rw [e0]; rfl) (by decide) ?_
    exact Lc_trace fx sb hX hbl hbA hC hl hf hv hI t41 hk
  · refine lv_tableIn (off := 1615) (tgt := 1647) hx hb dL_law_32 (by rw [e0]; decide) (by rw [e0]; decide) (by rw [e0]; rfl) (by decide) ?_
    exact Lc_there fx sb hX hbl hbA hC hl hf hv hI t42 hk
  · refine lv_tableOut (tgt := 1670) hx hb dL_law_32 e0 (by decide) ?_
    exact W.widen (Nat.le_succ _) (Nat.le_add_right _ 8) (hk _ _ _ _ hI hC)
set_option maxRecDepth 100000 in
set_option maxHeartbeats 4000000 in
/-- THE LAW'S LOOP -/
theorem law_loop (hr : meth.sig.returnType = ret) (hlocks : meth.locks = false) (hL : L ≤ 2560) {args : Array Value} (ha : args = #[Value.ref b]) (fx : FX p s m args meth c cL_law 4 RL D cy) (sb : SB s) (hX : va_X b L xs s s.heap) (hbl : b < s.heap.size) (hbA : ¬ s.heap.size ≤ b) {I : DS → RS → Prop} (sts : STS I) :
    ∀ (n j : Nat) (σ : DS) (τ : RS) (H : Heap) (locs : List Loc) (cells slots : Nat) (ls : Array Slot), 5 * j ≤ L → L < 5 * (j + n) → cells + n ≤ 600000 → slots + 8 * n ≤ 7302250 → I σ τ → LC D cy q qr s σ τ H locs → lv_has ls 4 [(0, .ref b), (1, .ref (q 0)), (2, .ref (qr 0)), (3, .int (nI (5 * j)))] →
      W p l e room_1 s m args below meth c H locs cells slots (lw_Z below #[Value.ref b] s) (F0 m 18 ls []) := by
  have hx := fx.1
  have hb := fx.2.1
  subst ha
  intro n
  induction n with
  | zero => intro j σ τ H locs cells slots ls h1 h2; exact absurd h2 (by omega)
  | succ n ih =>
    intro j σ τ H locs cells slots ls h1 h2 h3 h4 hI hC hl
    refine lv_iload_n hx hb dL_law_18 rfl (lv_at hl 3 rfl) ?_
    refine lv_aload_n hx hb dL_law_19 rfl (lv_at hl 0 rfl) ?_
    refine va_slen hx hb hX hbl hbA hC.2.2 dL_law_20 ?_
    refine lv_iconst (v := (5 : Int32)) hx hb dL_law_21 (by decide) ?_
    refine lv_isub hx hb dL_law_22 ?_
    have e5 : (Int32.ofNat L - 5).toInt = (L : Int) - 5 := by
      rw [Int32.toInt_sub]
      have e1 : (Int32.ofNat L).toInt = (L : Int) := nI_toInt (by omega)
      rw [e1, show (5 : Int32).toInt = 5 from rfl]
      exact Int.bmod_eq_of_le (by omega) (by omega)
    have e6 : (nI (5 * j)).toInt = ((5 * j : Nat) : Int) := nI_toInt (by omega)
    refine lv_icmp_gt (tgt := 1676) hx hb dL_law_23 (by decide) (fun c1 => ?_) (fun c1 => ?_)
    · refine lv_iconst (v := (1 : Int32)) hx hb dL_law_1676 (by decide) ?_
      refine va_forget (fun q hq => hC.2.2.2.2 q hq) ?_
      refine W.widen (k := 600000) (n := 7302250) (by omega) (by omega) ?_
      exact lw_ret hx hb hr hlocks dL_law_1677
    · have h5 : 5 * j + 5 ≤ L := by
        rw [Int32.lt_iff_toInt_lt, e5, e6] at c1
        omega
      refine L_turn fx sb hX hbl hbA hC hl ⟨show cells + 1 ≤ 600000 by omega, show slots + 8 ≤ 7302250 by omega⟩ (fun k hk => ?_) (vp_in_nI (by omega) (by omega)) hI sts (fun σ' τ' H1 locs1 hI' hC' => ?_)
      · show vp_in (nI (5 * j) + nI k) L
        rw [nI_add]
        exact vp_in_nI (by omega) (by omega)
      · refine lv_iinc (v := nI (5 * (j + 1))) (lv' := [(3, .int (nI (5 * (j + 1)))), (0, .ref b), (1, .ref (q 0)), (2, .ref (qr 0))]) hx hb dL_law_1670 hl (k := 3) rfl (by show nI (5 * j) + nI 5 = _; rw [nI_add]; rfl) (by decide) rfl (fun ls hl => ?_)
        refine lv_goto (tgt := 18) hx hb dL_law_1673 (by decide) ?_
        exact ih (j + 1) σ' τ' H1 locs1 _ _ ls (by omega) (by omega) (by omega) (by omega) hI' hC' (lv_sub hl [1, 2, 3, 0] rfl)
end LAWLOOP

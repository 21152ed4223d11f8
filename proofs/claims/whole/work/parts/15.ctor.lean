def gw (ws : va_W) (p : Nat) (e : Nat × va_E) (L : va_W) : va_W := ws.set p e ++ L
theorem gw_0 {ws : va_W} {p : Nat} {e : Nat × va_E} (h : ws[p]? = some e) : ws = gw ws p e [] := by
  unfold gw
  rw [List.append_nil]
  apply List.ext_getElem?
  intro j
  by_cases hj : j = p
  · subst hj; rw [h, List.getElem?_set_self (List.getElem?_eq_some_iff.mp h).1]
  · rw [List.getElem?_set_ne (fun z => hj z.symm)]
theorem gw_at {ws : va_W} {p : Nat} {e : Nat × va_E} {L : va_W} (h : p < ws.length) : (gw ws p e L)[p]? = some e := by
  unfold gw
  rw [List.getElem?_append_left (by rw [List.length_set]; exact h), List.getElem?_set_self h]
theorem gw_L {ws : va_W} {p k : Nat} {e : Nat × va_E} {L : va_W} : (gw ws p e L)[ws.length + k]? = L[k]? := by
  unfold gw
  rw [List.getElem?_append_right (by rw [List.length_set]; omega), List.length_set, show ws.length + k - ws.length = k by omega]
theorem gw_set {ws : va_W} {p : Nat} {e e2 : Nat × va_E} {L : va_W} (h : p < ws.length) : (gw ws p e L).set p e2 = gw ws p e2 L := by
  unfold gw
  rw [List.set_append_left _ _ (by rw [List.length_set]; exact h), List.set_set]
theorem gw_setL {ws : va_W} {p k : Nat} {e e2 : Nat × va_E} {L : va_W} : (gw ws p e L).set (ws.length + k) e2 = gw ws p e (L.set k e2) := by
  unfold gw
  rw [List.set_append_right _ _ (by rw [List.length_set]; omega), List.length_set, show ws.length + k - ws.length = k by omega]
theorem gw_app {ws : va_W} {p : Nat} {e x : Nat × va_E} {L : va_W} : gw ws p e L ++ [x] = gw ws p e (L ++ [x]) := by unfold gw; rw [List.append_assoc]
theorem gw_app2 {ws : va_W} {p : Nat} {e x : Nat × va_E} {L L2 : va_W} : (gw ws p e L ++ [x]) ++ L2 = gw ws p e (L ++ x :: L2) := by unfold gw; rw [List.append_assoc, List.append_assoc]; rfl
theorem GL.eq {D : va_G} {B : Nat} {s : State} {w1 w2 : va_W} {H : Heap} {locs : List Loc} (h : GL D B s w1 H locs) (e : w1 = w2) : GL D B s w2 H locs := e ▸ h
/-! Arrays.fill(int[], int) in such a world -/
def fi9 (n : Nat) (v : Int32) (f : Nat → Int32) : Nat → Int32 := fun j => if j < n then v else f j
theorem fi9_s {v : Int32} {f : Nat → Int32} {i : Nat} : upd (fi9 i v f) i v = fi9 (i + 1) v f := by
  funext j
  unfold upd fi9
  by_cases h : j = i
  · rw [if_pos h, if_pos (by omega)]
  · by_cases h2 : j < i
    · rw [if_neg h, if_pos h2, if_pos (by omega)]
    · rw [if_neg h, if_neg h2, if_neg (by omega)]
theorem fi9_0 {v : Int32} {f : Nat → Int32} : fi9 0 v f = f := by funext j; unfold fi9; rw [if_neg (by omega)]
abbrev Frm_fill : Room := { frames := 0, cells := 0, slots := 0, locals := 0 }
set_option maxRecDepth 100000 in
set_option maxHeartbeats 4000000 in
theorem F_fill (l : Launch) {D : va_G} {cy : Nat → ClassId} {B : Nat} (ws : va_W) (p0 a n : Nat) (f : Nat → Int32) (v : Int32) (he : ws[p0]? = some (a, .inl (cy 0, n, .inl f))) (hn : n < 2 ^ 31) :
    CM l yJ7_fill_53178 cJ7_fill_53178 4 Frm_fill D cy B [.ref a, .int v] ws (fun w => w = ws.set p0 (a, .inl (cy 0, n, .inl (fi9 n v f)))) 0 0 := by
  refine c_start RJ7 rfl (by decide) (Nat.le_of_ble_eq_true rfl) ?_
  intro p e s m args below meth c fx hnm ex hr hL ls hl
  have hx := fx.1
  have hb := fx.2.1
  have hl : lv_has ls 4 [(0, .ref a), (1, .int v)] := hl
  have hlen : p0 < ws.length := (List.getElem?_eq_some_iff.mp he).1
  refine lv_iconst (v := (0 : Int32)) hx hb dJ7_fill_53178_0 (by decide) ?_
  refine lv_istore_n (lv' := [(2, .int (0 : Int32)), (0, .ref a), (1, .int v)]) hx hb dJ7_fill_53178_1 rfl hl (by decide) rfl (fun ls hl => ?_)
  refine lv_aload_n hx hb dJ7_fill_53178_2 rfl (lv_at hl 1 rfl) ?_
  refine va_alen (x := (n, .inl f)) (ty := .int) fx.1 fx.2.1 fx.2.2.2.2.2.1 hL.1 p0 0 he rfl rfl dJ7_fill_53178_3 ?_
  refine lv_istore_n (lv' := [(3, .int (Int32.ofNat n)), (2, .int (0 : Int32)), (0, .ref a), (1, .int v)]) hx hb dJ7_fill_53178_4 rfl hl (by decide) rfl (fun ls hl => ?_)
  have key : ∀ (k i : Nat), i ≤ n → n - i = k → ∀ (H : Heap) (locs : List Loc) (ls : Array Slot), GL D B s (ws.set p0 (a, .inl (cy 0, n, .inl (fi9 i v f)))) H locs → lv_has ls 4 [(0, .ref a), (1, .int v), (2, .int (nI i)), (3, .int (Int32.ofNat n))] →
      W p l e Frm_fill s m args below meth c H locs 0 0 (MQ below (CQ D B (fun w => w = ws.set p0 (a, .inl (cy 0, n, .inl (fi9 n v f))))) args s 0 0 (fun x => B ≤ x)) (F0 m 5 ls []) := by
    intro k
    induction k with
    | zero =>
      intro i hi hk H locs ls hL hl
      have hin : i = n := by omega
      subst hin
      refine lv_iload_n hx hb dJ7_fill_53178_5 rfl (lv_at hl 2 rfl) ?_
      refine lv_iload_n hx hb dJ7_fill_53178_6 rfl (lv_at hl 3 rfl) ?_
      refine lv_icmp_ge (tgt := 20) hx hb dJ7_fill_53178_7 (by decide) (fun c9 => ?_) (fun c9 => ?_)
      · exact L_vret fx hr hL rfl (Nat.le_refl _) (Nat.le_refl _) dJ7_fill_53178_20
      · exact absurd (nI_le (Nat.le_refl _) hn) c9
    | succ k ih =>
      intro i hi hk H locs ls hL hl
      have hin : i < n := by omega
      refine lv_iload_n hx hb dJ7_fill_53178_5 rfl (lv_at hl 2 rfl) ?_
      refine lv_iload_n hx hb dJ7_fill_53178_6 rfl (lv_at hl 3 rfl) ?_
      refine lv_icmp_ge (tgt := 20) hx hb dJ7_fill_53178_7 (by decide) (fun c9 => ?_) (fun c9 => ?_)
      · exact absurd c9 (nI_ge hin hn)
      · refine lv_aload_n hx hb dJ7_fill_53178_10 rfl (lv_at hl 0 rfl) ?_
        refine lv_iload_n hx hb dJ7_fill_53178_11 rfl (lv_at hl 2 rfl) ?_
        refine lv_iload_n hx hb dJ7_fill_53178_12 rfl (lv_at hl 1 rfl) ?_
        refine L_iast (n := n) (f := fi9 i v f) fx hL (List.getElem?_set_self hlen) (vp_in_nI hin hn) dJ7_fill_53178_13 (fun H locs hL => ?_)
        rw [List.set_set, nI_clamp (Nat.lt_trans hin hn), fi9_s] at hL
        refine lv_iinc (v := nI (i + 1)) (lv' := [(2, .int (nI (i + 1))), (0, .ref a), (1, .int v), (3, .int (Int32.ofNat n))]) hx hb dJ7_fill_53178_14 hl (k := 2) rfl (nI_1 i) (by decide) rfl (fun ls hl => ?_)
        refine lv_goto (tgt := 5) hx hb dJ7_fill_53178_17 (by decide) ?_
        exact ih (i + 1) (by omega) (by omega) H locs ls hL (lv_sub hl [1, 2, 0, 3] rfl)
  have h0 : ws = ws.set p0 (a, .inl (cy 0, n, .inl (fi9 0 v f))) := by
    rw [fi9_0]
    have h9 := gw_0 he
    unfold gw at h9
    rw [List.append_nil] at h9
    exact h9
  exact key n 0 (Nat.zero_le _) (by omega) _ _ ls (hL.eq h0) (lv_sub hl [2, 3, 1, 0] rfl)
section LCALLS
variable {p : Program} {l : Launch} {e : Env} {R : Room} {s : State} {m : MethodId} {args : Array Value} {below : List Frame} {meth : Method} {c : Code} {H : Heap} {locs : List Loc} {cells slots : Nat} {Q : State → Prop}
variable {cc : ByteArray} {nL pc : Nat} {own : String} {ls : Array Slot} {rest st0 : List Value} {D : va_G} {cy : Nat → ClassId} {B : Nat} {ws : va_W}
theorem L_callS {y : MethodName} {b : ByteArray} {n n' : Nat} {rm : Room} {idx : Nat} {As : List Value} {Φ : va_W → Prop}
    (fx : FX p s m args meth c cc nL own D cy) (ex : EX s) (hL : GL D B s ws H locs) (hM : CM l y b n rm D cy B As ws Φ 0 0)
    (h1 : Cond.methodLink own idx y ∈ wsL_law) (h2 : Cond.static y ∈ wsL_law ∧ Cond.initialized y.cls ∈ wsL_law ∧ Cond.code y b n none ∈ wsL_law)
    (hd : y.cls ≠ "java/lang/invoke/MethodHandle" ∧ y.cls ≠ "java/lang/invoke/VarHandle" ∧ (parseMethodDescriptor y.desc).map (fun d => d.parameters.length) = some n')
    (hr0 : rm.cells = 0 ∧ rm.slots = 0) (hR : rm.frames + 1 ≤ R.frames ∧ 8 + (n + 11) + rm.locals ≤ R.locals) (hf : cells ≤ R.cells ∧ slots ≤ R.slots)
    (hn : As.length = n') (hl : ls.size = nL) (hst : st0 = As.reverse ++ rest) (hrest : (rest.map fun v => v.category).sum ≤ 8) (hdg : decode cc pc = .ok (.invokestatic idx, 3))
    (kk : ∀ (ws1 : va_W) (H1 : Heap) (locs1 : List Loc), Φ ws1 → GL D B s ws1 H1 locs1 → W p l e R s m args below meth c H1 locs1 cells slots Q (F0 m (pc + 3) ls rest)) : W p l e R s m args below meth c H locs cells slots Q (F0 m pc ls st0) := by
  obtain ⟨hx, hb, hml, hown, hts, hK, -⟩ := fx
  exact L_run (len := 3) (va_runS (Ts := wsL_law) (As := As) (n := n') (rest := rest) ⟨hx, hb, hml, hown, hts⟩ hM (va_cwS n' hts (gT1 h1 (gT1 h2.1 (gT1 h2.2.1 (gT1 h2.2.2 gT)))) rfl hr0.1 hr0.2 hd hR) ⟨c_blind, fun U hU hW => ⟨rfl, by rw [hU]; exact Nat.le_trans hL.2.2.2 hL.2.2.1.1, by rw [hU]; exact hL.1, va_K.moved hW.alike hK, hL.2.1, ex.moved hW⟩⟩ rfl hn hl hst (lv_room hrest) hdg hf) hL kk
end LCALLS
theorem k_22 : Cond.arrayClass .int ∈ wsL_law := kc_1 _ (List.mem_of_getElem? (i := 22) rfl)
theorem k_45 : Cond.instanceMethod yX2_init ∈ wsL_law := kc_2 _ (List.mem_of_getElem? (i := 21) rfl)
theorem k_46 : Cond.code yX2_init cX2_init 1 none ∈ wsL_law := kc_2 _ (List.mem_of_getElem? (i := 22) rfl)
theorem k_47 : Cond.methodLink RX2 3 objectInit ∈ wsL_law := kc_2 _ (List.mem_of_getElem? (i := 23) rfl)
theorem k_53 : Cond.instanceMethod yX7_init ∈ wsL_law := kc_3 _ (List.mem_of_getElem? (i := 5) rfl)
theorem k_54 : Cond.code yX7_init cX7_init 1 none ∈ wsL_law := kc_3 _ (List.mem_of_getElem? (i := 6) rfl)
theorem k_55 : Cond.methodLink RX7 3 objectInit ∈ wsL_law := kc_3 _ (List.mem_of_getElem? (i := 7) rfl)
theorem k_56 : Cond.arrayClass .long ∈ wsL_law := kc_3 _ (List.mem_of_getElem? (i := 8) rfl)
theorem k_58 : Cond.instanceMethod yX5_init ∈ wsL_law := kc_3 _ (List.mem_of_getElem? (i := 10) rfl)
theorem k_59 : Cond.code yX5_init cX5_init 1 none ∈ wsL_law := kc_3 _ (List.mem_of_getElem? (i := 11) rfl)
theorem k_60 : Cond.methodLink RX5 3 objectInit ∈ wsL_law := kc_3 _ (List.mem_of_getElem? (i := 12) rfl)
theorem k_65 : Cond.instanceMethod yX6_init ∈ wsL_law := kc_3 _ (List.mem_of_getElem? (i := 17) rfl)
theorem k_66 : Cond.code yX6_init cX6_init 1 none ∈ wsL_law := kc_3 _ (List.mem_of_getElem? (i := 18) rfl)
theorem k_67 : Cond.methodLink RX6 3 objectInit ∈ wsL_law := kc_3 _ (List.mem_of_getElem? (i := 19) rfl)
theorem k_70 : Cond.instanceMethod yX3_init ∈ wsL_law := kc_3 _ (List.mem_of_getElem? (i := 22) rfl)
theorem k_71 : Cond.code yX3_init cX3_init 1 none ∈ wsL_law := kc_3 _ (List.mem_of_getElem? (i := 23) rfl)
theorem k_72 : Cond.methodLink RX3 3 objectInit ∈ wsL_law := kc_4 _ (List.mem_of_getElem? (i := 0) rfl)
theorem k_73 : Cond.classLink RX3 11 "[[I" ∈ wsL_law := kc_4 _ (List.mem_of_getElem? (i := 1) rfl)
theorem k_78 : Cond.instanceMethod yX1_init ∈ wsL_law := kc_4 _ (List.mem_of_getElem? (i := 6) rfl)
theorem k_79 : Cond.code yX1_init cX1_init 1 none ∈ wsL_law := kc_4 _ (List.mem_of_getElem? (i := 7) rfl)
theorem k_80 : Cond.methodLink RX1 3 objectInit ∈ wsL_law := kc_4 _ (List.mem_of_getElem? (i := 8) rfl)
theorem k_83 : Cond.classLink RX1 18 "[[I" ∈ wsL_law := kc_4 _ (List.mem_of_getElem? (i := 11) rfl)
theorem k_91 : Cond.instanceMethod yX0_init ∈ wsL_law := kc_4 _ (List.mem_of_getElem? (i := 19) rfl)
theorem k_92 : Cond.code yX0_init cX0_init 1 none ∈ wsL_law := kc_4 _ (List.mem_of_getElem? (i := 20) rfl)
theorem k_93 : Cond.methodLink RX0 3 objectInit ∈ wsL_law := kc_4 _ (List.mem_of_getElem? (i := 21) rfl)
theorem k_96 : Cond.instanceMethod yX9_init ∈ wsL_law := kc_5 _ (List.mem_of_getElem? (i := 0) rfl)
theorem k_97 : Cond.code yX9_init cX9_init 2 none ∈ wsL_law := kc_5 _ (List.mem_of_getElem? (i := 1) rfl)
theorem k_98 : Cond.methodLink RX9 1 objectInit ∈ wsL_law := kc_5 _ (List.mem_of_getElem? (i := 2) rfl)
theorem k_104 : Cond.constant RX9 25 (122880) ∈ wsL_law := kc_5 _ (List.mem_of_getElem? (i := 8) rfl)
theorem k_105 : Cond.arrayClass .boolean ∈ wsL_law := kc_5 _ (List.mem_of_getElem? (i := 9) rfl)
abbrev D0rm_init : Room := { frames := 1, cells := 1, slots := 40, locals := 12 }
set_option maxRecDepth 100000 in
set_option maxHeartbeats 4000000 in
theorem D0c_init (l : Launch) {D : va_G} {cy : Nat → ClassId} {B : Nat} (ws : va_W) (p0 h : Nat) (he : ws[p0]? = some (h, .inr (0, [.int 0, .null, .int 0, .int 0]))) : CM l yX0_init cX0_init 1 D0rm_init D cy B [.ref h] ws (fun w => ∃ (a1 : Nat), w = gw ws p0 (h, .inr (0, [.int 0, .ref a1, .int 0, .int 0])) [(a1, .inl (cy 0, 40, .inl (fun _ => 0)))]) 1 40 := by
  refine c_start RX0 rfl (by decide) (Nat.le_of_ble_eq_true rfl) ?_
  intro p e s m args below meth c fx hnm ex hr hL ls hl
  have hx := fx.1
  have hb := fx.2.1
  have hts := fx.2.2.2.2.1
  have hlen : p0 < ws.length := (List.getElem?_eq_some_iff.mp he).1
  replace hL := hL.eq (gw_0 he)
  have hl : lv_has ls 1 [(0, .ref h)] := hl
  refine lv_aload_n hx hb dX0_init_0 rfl (lv_at hl 0 rfl) ?_
  refine W.objInit hx hb fx.2.2.2.1 (hts _ k_93) (hts _ k_10) (hts _ k_11) rfl (by rw [fx.2.2.1]; exact hl.1) rfl dX0_init_1 (Nat.le_of_ble_eq_true rfl) (Nat.le_of_ble_eq_true rfl) ?_
  refine W.eq (g2 := F0 m 4 ls []) rfl ?_
  refine lv_aload_n hx hb dX0_init_4 rfl (lv_at hl 0 rfl) ?_
  refine lv_bipush (v := (40 : Int32)) hx hb dX0_init_5 (by decide) ?_
  refine L_newa (atype := .int) (ty := .int) (a0 := (40, .inl (fun _ => 0))) (N' := 40) 0 fx hL rfl rfl (fun _ h => h) k_22 (fun _ => rfl) (by decide) rfl (Nat.le_of_ble_eq_true rfl) (Nat.le_of_ble_eq_true rfl) (Nat.le_of_ble_eq_true rfl) dX0_init_7 (fun a1 H hL => ?_)
  replace hL := hL.eq gw_app
  refine L_putF (C := RX0) (T := TX0) (M := 4) (ci := 0) (q0 := p0) (v := .ref a1) (ty := .array .int) fx hL inlX0 rfl tyX0 tyX0_ok nmX0 (gw_at hlen) 1 (by decide) k_94 (fun _ h => h) rfl (hnm.trans rfl) rfl (by decide +kernel) rfl rfl (Nat.le_of_ble_eq_true rfl) dX0_init_9 (fun H locs hL => ?_)
  replace hL := hL.eq (gw_set hlen)
  replace hL : GL D B s (gw ws p0 (h, .inr (0, [.int 0, .ref a1, .int 0, .int 0])) [(a1, .inl (cy 0, 40, .inl (fun _ => 0)))]) _ _ := hL
  exact L_vret fx hr hL ⟨a1, rfl⟩ (Nat.le_of_ble_eq_true rfl) (Nat.le_of_ble_eq_true rfl) dX0_init_12
theorem D0k_init : Cond.instanceMethod yX0_init ∈ wsL_law ∧ Cond.initialized yX0_init.cls ∈ wsL_law ∧ Cond.code yX0_init cX0_init 1 none ∈ wsL_law := ⟨k_91, k_43, k_92⟩
theorem D0h_init : yX0_init.cls ≠ "java/lang/invoke/MethodHandle" ∧ yX0_init.cls ≠ "java/lang/invoke/VarHandle" ∧ (parseMethodDescriptor yX0_init.desc).map (fun d => d.parameters.length) = some 0 := by decide +kernel
abbrev D1rm_init : Room := { frames := 1, cells := 11, slots := 270, locals := 23 }
set_option maxRecDepth 100000 in
set_option maxHeartbeats 4000000 in
theorem D1c_init (l : Launch) {D : va_G} {cy : Nat → ClassId} {B : Nat} (ws : va_W) (p0 h : Nat) (he : ws[p0]? = some (h, .inr (1, [.null, .null, .null, .null, .null]))) : CM l yX1_init cX1_init 1 D1rm_init D cy B [.ref h] ws (fun w => ∃ (a1 : Nat) (a2 : Nat) (a3 : Nat) (r4 : Nat → Nat) (a5 : Nat) (a6 : Nat), w = gw ws p0 (h, .inr (1, [.ref a1, .ref a2, .ref a3, .ref a5, .ref a6])) [(a1, .inl (cy 0, 6, .inl (fi9 6 (-1 : Int32) (fun _ => 0)))), (a2, .inl (cy 0, 6, .inl (fun _ => 0))), (a3, .inl (cy 4, 6, .inr (.inr (.inr (.inr (fun i => if i < 6 then some (r4 i) else none)))))), ((r4 0), .inl (cy 0, 40, .inl (fun _ => 0))), ((r4 1), .inl (cy 0, 40, .inl (fun _ => 0))), ((r4 2), .inl (cy 0, 40, .inl (fun _ => 0))), ((r4 3), .inl (cy 0, 40, .inl (fun _ => 0))), ((r4 4), .inl (cy 0, 40, .inl (fun _ => 0))), ((r4 5), .inl (cy 0, 40, .inl (fun _ => 0))), (a5, .inl (cy 0, 6, .inl (fi9 6 (-1 : Int32) (fun _ => 0)))), (a6, .inl (cy 0, 6, .inl (fun _ => 0)))]) 11 270 := by
  refine c_start RX1 rfl (by decide) (Nat.le_of_ble_eq_true rfl) ?_
  intro p e s m args below meth c fx hnm ex hr hL ls hl
  have hx := fx.1
  have hb := fx.2.1
  have hts := fx.2.2.2.2.1
  have hlen : p0 < ws.length := (List.getElem?_eq_some_iff.mp he).1
  replace hL := hL.eq (gw_0 he)
  have hl : lv_has ls 1 [(0, .ref h)] := hl
  refine lv_aload_n hx hb dX1_init_0 rfl (lv_at hl 0 rfl) ?_
  refine W.objInit hx hb fx.2.2.2.1 (hts _ k_80) (hts _ k_10) (hts _ k_11) rfl (by rw [fx.2.2.1]; exact hl.1) rfl dX1_init_1 (Nat.le_of_ble_eq_true rfl) (Nat.le_of_ble_eq_true rfl) ?_
  refine W.eq (g2 := F0 m 4 ls []) rfl ?_
  refine lv_aload_n hx hb dX1_init_4 rfl (lv_at hl 0 rfl) ?_
  refine lv_bipush (v := (6 : Int32)) hx hb dX1_init_5 (by decide) ?_
  refine L_newa (atype := .int) (ty := .int) (a0 := (6, .inl (fun _ => 0))) (N' := 6) 0 fx hL rfl rfl (fun _ h => h) k_22 (fun _ => rfl) (by decide) rfl (Nat.le_of_ble_eq_true rfl) (Nat.le_of_ble_eq_true rfl) (Nat.le_of_ble_eq_true rfl) dX1_init_7 (fun a1 H hL => ?_)
  replace hL := hL.eq gw_app
  refine L_putF (C := RX1) (T := TX1) (M := 5) (ci := 1) (q0 := p0) (v := .ref a1) (ty := .array .int) fx hL inlX1 rfl tyX1 tyX1_ok nmX1 (gw_at hlen) 0 (by decide) k_81 (fun _ h => h) rfl (hnm.trans rfl) rfl (by decide +kernel) rfl rfl (Nat.le_of_ble_eq_true rfl) dX1_init_9 (fun H locs hL => ?_)
  replace hL := hL.eq (gw_set hlen)
  replace hL : GL D B s (gw ws p0 (h, .inr (1, [.ref a1, .null, .null, .null, .null])) [(a1, .inl (cy 0, 6, .inl (fun _ => 0)))]) _ _ := hL
  refine lv_aload_n hx hb dX1_init_12 rfl (lv_at hl 0 rfl) ?_
  refine lv_bipush (v := (6 : Int32)) hx hb dX1_init_13 (by decide) ?_
  refine L_newa (atype := .int) (ty := .int) (a0 := (6, .inl (fun _ => 0))) (N' := 6) 0 fx hL rfl rfl (fun _ h => h) k_22 (fun _ => rfl) (by decide) rfl (Nat.le_of_ble_eq_true rfl) (Nat.le_of_ble_eq_true rfl) (Nat.le_of_ble_eq_true rfl) dX1_init_15 (fun a2 H hL => ?_)
  replace hL := hL.eq gw_app
  refine L_putF (C := RX1) (T := TX1) (M := 5) (ci := 1) (q0 := p0) (v := .ref a2) (ty := .array .int) fx hL inlX1 rfl tyX1 tyX1_ok nmX1 (gw_at hlen) 1 (by decide) k_82 (fun _ h => h) rfl (hnm.trans rfl) rfl (by decide +kernel) rfl rfl (Nat.le_of_ble_eq_true rfl) dX1_init_17 (fun H locs hL => ?_)
  replace hL := hL.eq (gw_set hlen)
  replace hL : GL D B s (gw ws p0 (h, .inr (1, [.ref a1, .ref a2, .null, .null, .null])) [(a1, .inl (cy 0, 6, .inl (fun _ => 0))), (a2, .inl (cy 0, 6, .inl (fun _ => 0)))]) _ _ := hL
  refine lv_aload_n hx hb dX1_init_20 rfl (lv_at hl 0 rfl) ?_
  refine lv_bipush (v := (6 : Int32)) hx hb dX1_init_21 (by decide) ?_
  refine lv_bipush (v := (40 : Int32)) hx hb dX1_init_23 (by decide) ?_
  refine L_mna (N' := 6) (K' := 40) fx hL k_83 ex.2.1 k_22 (by decide) (by decide) rfl rfl (Nat.le_of_ble_eq_true rfl) (Nat.le_of_ble_eq_true rfl) (Nat.le_of_ble_eq_true rfl) (Nat.le_of_ble_eq_true rfl) dX1_init_25 (fun a3 r4 H hL => ?_)
  replace hL := hL.eq gw_app2
  refine L_putF (C := RX1) (T := TX1) (M := 5) (ci := 1) (q0 := p0) (v := .ref a3) (ty := .array (.array .int)) fx hL inlX1 rfl tyX1 tyX1_ok nmX1 (gw_at hlen) 2 (by decide) k_84 (fun _ h => h) rfl (hnm.trans rfl) rfl (by decide +kernel) rfl rfl (Nat.le_of_ble_eq_true rfl) dX1_init_29 (fun H locs hL => ?_)
  replace hL := hL.eq (gw_set hlen)
  replace hL : GL D B s (gw ws p0 (h, .inr (1, [.ref a1, .ref a2, .ref a3, .null, .null])) [(a1, .inl (cy 0, 6, .inl (fun _ => 0))), (a2, .inl (cy 0, 6, .inl (fun _ => 0))), (a3, .inl (cy 4, 6, .inr (.inr (.inr (.inr (fun i => if i < 6 then some (r4 i) else none)))))), ((r4 0), .inl (cy 0, 40, .inl (fun _ => 0))), ((r4 1), .inl (cy 0, 40, .inl (fun _ => 0))), ((r4 2), .inl (cy 0, 40, .inl (fun _ => 0))), ((r4 3), .inl (cy 0, 40, .inl (fun _ => 0))), ((r4 4), .inl (cy 0, 40, .inl (fun _ => 0))), ((r4 5), .inl (cy 0, 40, .inl (fun _ => 0)))]) _ _ := hL
  refine lv_aload_n hx hb dX1_init_32 rfl (lv_at hl 0 rfl) ?_
  refine lv_bipush (v := (6 : Int32)) hx hb dX1_init_33 (by decide) ?_
  refine L_newa (atype := .int) (ty := .int) (a0 := (6, .inl (fun _ => 0))) (N' := 6) 0 fx hL rfl rfl (fun _ h => h) k_22 (fun _ => rfl) (by decide) rfl (Nat.le_of_ble_eq_true rfl) (Nat.le_of_ble_eq_true rfl) (Nat.le_of_ble_eq_true rfl) dX1_init_35 (fun a5 H hL => ?_)
  replace hL := hL.eq gw_app
  refine L_putF (C := RX1) (T := TX1) (M := 5) (ci := 1) (q0 := p0) (v := .ref a5) (ty := .array .int) fx hL inlX1 rfl tyX1 tyX1_ok nmX1 (gw_at hlen) 3 (by decide) k_85 (fun _ h => h) rfl (hnm.trans rfl) rfl (by decide +kernel) rfl rfl (Nat.le_of_ble_eq_true rfl) dX1_init_37 (fun H locs hL => ?_)
  replace hL := hL.eq (gw_set hlen)
  replace hL : GL D B s (gw ws p0 (h, .inr (1, [.ref a1, .ref a2, .ref a3, .ref a5, .null])) [(a1, .inl (cy 0, 6, .inl (fun _ => 0))), (a2, .inl (cy 0, 6, .inl (fun _ => 0))), (a3, .inl (cy 4, 6, .inr (.inr (.inr (.inr (fun i => if i < 6 then some (r4 i) else none)))))), ((r4 0), .inl (cy 0, 40, .inl (fun _ => 0))), ((r4 1), .inl (cy 0, 40, .inl (fun _ => 0))), ((r4 2), .inl (cy 0, 40, .inl (fun _ => 0))), ((r4 3), .inl (cy 0, 40, .inl (fun _ => 0))), ((r4 4), .inl (cy 0, 40, .inl (fun _ => 0))), ((r4 5), .inl (cy 0, 40, .inl (fun _ => 0))), (a5, .inl (cy 0, 6, .inl (fun _ => 0)))]) _ _ := hL
  refine lv_aload_n hx hb dX1_init_40 rfl (lv_at hl 0 rfl) ?_
  refine lv_bipush (v := (6 : Int32)) hx hb dX1_init_41 (by decide) ?_
  refine L_newa (atype := .int) (ty := .int) (a0 := (6, .inl (fun _ => 0))) (N' := 6) 0 fx hL rfl rfl (fun _ h => h) k_22 (fun _ => rfl) (by decide) rfl (Nat.le_of_ble_eq_true rfl) (Nat.le_of_ble_eq_true rfl) (Nat.le_of_ble_eq_true rfl) dX1_init_43 (fun a6 H hL => ?_)
  replace hL := hL.eq gw_app
  refine L_putF (C := RX1) (T := TX1) (M := 5) (ci := 1) (q0 := p0) (v := .ref a6) (ty := .array .int) fx hL inlX1 rfl tyX1 tyX1_ok nmX1 (gw_at hlen) 4 (by decide) k_86 (fun _ h => h) rfl (hnm.trans rfl) rfl (by decide +kernel) rfl rfl (Nat.le_of_ble_eq_true rfl) dX1_init_45 (fun H locs hL => ?_)
  replace hL := hL.eq (gw_set hlen)
  replace hL : GL D B s (gw ws p0 (h, .inr (1, [.ref a1, .ref a2, .ref a3, .ref a5, .ref a6])) [(a1, .inl (cy 0, 6, .inl (fun _ => 0))), (a2, .inl (cy 0, 6, .inl (fun _ => 0))), (a3, .inl (cy 4, 6, .inr (.inr (.inr (.inr (fun i => if i < 6 then some (r4 i) else none)))))), ((r4 0), .inl (cy 0, 40, .inl (fun _ => 0))), ((r4 1), .inl (cy 0, 40, .inl (fun _ => 0))), ((r4 2), .inl (cy 0, 40, .inl (fun _ => 0))), ((r4 3), .inl (cy 0, 40, .inl (fun _ => 0))), ((r4 4), .inl (cy 0, 40, .inl (fun _ => 0))), ((r4 5), .inl (cy 0, 40, .inl (fun _ => 0))), (a5, .inl (cy 0, 6, .inl (fun _ => 0))), (a6, .inl (cy 0, 6, .inl (fun _ => 0)))]) _ _ := hL
  refine lv_aload_n hx hb dX1_init_48 rfl (lv_at hl 0 rfl) ?_
  refine L_get (C := RX1) (T := TX1) (M := 5) (ci := 1) (q0 := p0) (v := .ref a1) fx hL inlX1 rfl (gw_at hlen) 0 (by decide) k_81 (fun _ h => h) rfl dX1_init_49 ?_
  refine lv_iconst (v := (-1 : Int32)) hx hb dX1_init_52 (by decide) ?_
  refine L_callS (As := [.ref a1, .int (-1 : Int32)]) (rest := []) fx ex hL (F_fill l _ (ws.length + 0) a1 6 (fun _ => 0) (-1 : Int32) (gw_L.trans rfl) (by decide)) k_87 J7k_fill_53178 J7h_fill_53178 ⟨rfl, rfl⟩ ⟨(Nat.le_of_ble_eq_true rfl), (Nat.le_of_ble_eq_true rfl)⟩ ⟨(Nat.le_of_ble_eq_true rfl), (Nat.le_of_ble_eq_true rfl)⟩ rfl hl.1 rfl (Nat.le_of_ble_eq_true rfl) dX1_init_53 (fun ws1 H locs hΦ hL => ?_)
  replace hL := hL.eq (hΦ.trans gw_setL)
  refine lv_aload_n hx hb dX1_init_56 rfl (lv_at hl 0 rfl) ?_
  refine L_get (C := RX1) (T := TX1) (M := 5) (ci := 1) (q0 := p0) (v := .ref a5) fx hL inlX1 rfl (gw_at hlen) 3 (by decide) k_85 (fun _ h => h) rfl dX1_init_57 ?_
  refine lv_iconst (v := (-1 : Int32)) hx hb dX1_init_60 (by decide) ?_
  refine L_callS (As := [.ref a5, .int (-1 : Int32)]) (rest := []) fx ex hL (F_fill l _ (ws.length + 9) a5 6 (fun _ => 0) (-1 : Int32) (gw_L.trans rfl) (by decide)) k_87 J7k_fill_53178 J7h_fill_53178 ⟨rfl, rfl⟩ ⟨(Nat.le_of_ble_eq_true rfl), (Nat.le_of_ble_eq_true rfl)⟩ ⟨(Nat.le_of_ble_eq_true rfl), (Nat.le_of_ble_eq_true rfl)⟩ rfl hl.1 rfl (Nat.le_of_ble_eq_true rfl) dX1_init_61 (fun ws1 H locs hΦ hL => ?_)
  replace hL := hL.eq (hΦ.trans gw_setL)
  exact L_vret fx hr hL ⟨a1, a2, a3, r4, a5, a6, rfl⟩ (Nat.le_of_ble_eq_true rfl) (Nat.le_of_ble_eq_true rfl) dX1_init_64
theorem D1k_init : Cond.instanceMethod yX1_init ∈ wsL_law ∧ Cond.initialized yX1_init.cls ∈ wsL_law ∧ Cond.code yX1_init cX1_init 1 none ∈ wsL_law := ⟨k_78, k_39, k_79⟩
theorem D1h_init : yX1_init.cls ≠ "java/lang/invoke/MethodHandle" ∧ yX1_init.cls ≠ "java/lang/invoke/VarHandle" ∧ (parseMethodDescriptor yX1_init.desc).map (fun d => d.parameters.length) = some 0 := by decide +kernel
abbrev D2rm_init : Room := { frames := 1, cells := 5, slots := 56, locals := 12 }
set_option maxRecDepth 100000 in
set_option maxHeartbeats 4000000 in
theorem D2c_init (l : Launch) {D : va_G} {cy : Nat → ClassId} {B : Nat} (ws : va_W) (p0 h : Nat) (he : ws[p0]? = some (h, .inr (2, [.int 0, .int 0, .null, .null, .null, .null, .null]))) : CM l yX2_init cX2_init 1 D2rm_init D cy B [.ref h] ws (fun w => ∃ (a1 : Nat) (a2 : Nat) (a3 : Nat) (a4 : Nat) (a5 : Nat), w = gw ws p0 (h, .inr (2, [.int 0, .int 0, .ref a1, .ref a2, .ref a3, .ref a4, .ref a5])) [(a1, .inl (cy 0, 8, .inl (fun _ => 0))), (a2, .inl (cy 0, 12, .inl (fun _ => 0))), (a3, .inl (cy 0, 12, .inl (fun _ => 0))), (a4, .inl (cy 0, 12, .inl (fun _ => 0))), (a5, .inl (cy 0, 12, .inl (fun _ => 0)))]) 5 56 := by
  refine c_start RX2 rfl (by decide) (Nat.le_of_ble_eq_true rfl) ?_
  intro p e s m args below meth c fx hnm ex hr hL ls hl
  have hx := fx.1
  have hb := fx.2.1
  have hts := fx.2.2.2.2.1
  have hlen : p0 < ws.length := (List.getElem?_eq_some_iff.mp he).1
  replace hL := hL.eq (gw_0 he)
  have hl : lv_has ls 1 [(0, .ref h)] := hl
  refine lv_aload_n hx hb dX2_init_0 rfl (lv_at hl 0 rfl) ?_
  refine W.objInit hx hb fx.2.2.2.1 (hts _ k_47) (hts _ k_10) (hts _ k_11) rfl (by rw [fx.2.2.1]; exact hl.1) rfl dX2_init_1 (Nat.le_of_ble_eq_true rfl) (Nat.le_of_ble_eq_true rfl) ?_
  refine W.eq (g2 := F0 m 4 ls []) rfl ?_
  refine lv_aload_n hx hb dX2_init_4 rfl (lv_at hl 0 rfl) ?_
  refine lv_bipush (v := (8 : Int32)) hx hb dX2_init_5 (by decide) ?_
  refine L_newa (atype := .int) (ty := .int) (a0 := (8, .inl (fun _ => 0))) (N' := 8) 0 fx hL rfl rfl (fun _ h => h) k_22 (fun _ => rfl) (by decide) rfl (Nat.le_of_ble_eq_true rfl) (Nat.le_of_ble_eq_true rfl) (Nat.le_of_ble_eq_true rfl) dX2_init_7 (fun a1 H hL => ?_)
  replace hL := hL.eq gw_app
  refine L_putF (C := RX2) (T := TX2) (M := 7) (ci := 2) (q0 := p0) (v := .ref a1) (ty := .array .int) fx hL inlX2 rfl tyX2 tyX2_ok nmX2 (gw_at hlen) 2 (by decide) k_48 (fun _ h => h) rfl (hnm.trans rfl) rfl (by decide +kernel) rfl rfl (Nat.le_of_ble_eq_true rfl) dX2_init_9 (fun H locs hL => ?_)
  replace hL := hL.eq (gw_set hlen)
  replace hL : GL D B s (gw ws p0 (h, .inr (2, [.int 0, .int 0, .ref a1, .null, .null, .null, .null])) [(a1, .inl (cy 0, 8, .inl (fun _ => 0)))]) _ _ := hL
  refine lv_aload_n hx hb dX2_init_12 rfl (lv_at hl 0 rfl) ?_
  refine lv_bipush (v := (12 : Int32)) hx hb dX2_init_13 (by decide) ?_
  refine L_newa (atype := .int) (ty := .int) (a0 := (12, .inl (fun _ => 0))) (N' := 12) 0 fx hL rfl rfl (fun _ h => h) k_22 (fun _ => rfl) (by decide) rfl (Nat.le_of_ble_eq_true rfl) (Nat.le_of_ble_eq_true rfl) (Nat.le_of_ble_eq_true rfl) dX2_init_15 (fun a2 H hL => ?_)
  replace hL := hL.eq gw_app
  refine L_putF (C := RX2) (T := TX2) (M := 7) (ci := 2) (q0 := p0) (v := .ref a2) (ty := .array .int) fx hL inlX2 rfl tyX2 tyX2_ok nmX2 (gw_at hlen) 3 (by decide) k_49 (fun _ h => h) rfl (hnm.trans rfl) rfl (by decide +kernel) rfl rfl (Nat.le_of_ble_eq_true rfl) dX2_init_17 (fun H locs hL => ?_)
  replace hL := hL.eq (gw_set hlen)
  replace hL : GL D B s (gw ws p0 (h, .inr (2, [.int 0, .int 0, .ref a1, .ref a2, .null, .null, .null])) [(a1, .inl (cy 0, 8, .inl (fun _ => 0))), (a2, .inl (cy 0, 12, .inl (fun _ => 0)))]) _ _ := hL
  refine lv_aload_n hx hb dX2_init_20 rfl (lv_at hl 0 rfl) ?_
  refine lv_bipush (v := (12 : Int32)) hx hb dX2_init_21 (by decide) ?_
  refine L_newa (atype := .int) (ty := .int) (a0 := (12, .inl (fun _ => 0))) (N' := 12) 0 fx hL rfl rfl (fun _ h => h) k_22 (fun _ => rfl) (by decide) rfl (Nat.le_of_ble_eq_true rfl) (Nat.le_of_ble_eq_true rfl) (Nat.le_of_ble_eq_true rfl) dX2_init_23 (fun a3 H hL => ?_)
  replace hL := hL.eq gw_app
  refine L_putF (C := RX2) (T := TX2) (M := 7) (ci := 2) (q0 := p0) (v := .ref a3) (ty := .array .int) fx hL inlX2 rfl tyX2 tyX2_ok nmX2 (gw_at hlen) 4 (by decide) k_50 (fun _ h => h) rfl (hnm.trans rfl) rfl (by decide +kernel) rfl rfl (Nat.le_of_ble_eq_true rfl) dX2_init_25 (fun H locs hL => ?_)
  replace hL := hL.eq (gw_set hlen)
  replace hL : GL D B s (gw ws p0 (h, .inr (2, [.int 0, .int 0, .ref a1, .ref a2, .ref a3, .null, .null])) [(a1, .inl (cy 0, 8, .inl (fun _ => 0))), (a2, .inl (cy 0, 12, .inl (fun _ => 0))), (a3, .inl (cy 0, 12, .inl (fun _ => 0)))]) _ _ := hL
  refine lv_aload_n hx hb dX2_init_28 rfl (lv_at hl 0 rfl) ?_
  refine lv_bipush (v := (12 : Int32)) hx hb dX2_init_29 (by decide) ?_
  refine L_newa (atype := .int) (ty := .int) (a0 := (12, .inl (fun _ => 0))) (N' := 12) 0 fx hL rfl rfl (fun _ h => h) k_22 (fun _ => rfl) (by decide) rfl (Nat.le_of_ble_eq_true rfl) (Nat.le_of_ble_eq_true rfl) (Nat.le_of_ble_eq_true rfl) dX2_init_31 (fun a4 H hL => ?_)
  replace hL := hL.eq gw_app
  refine L_putF (C := RX2) (T := TX2) (M := 7) (ci := 2) (q0 := p0) (v := .ref a4) (ty := .array .int) fx hL inlX2 rfl tyX2 tyX2_ok nmX2 (gw_at hlen) 5 (by decide) k_51 (fun _ h => h) rfl (hnm.trans rfl) rfl (by decide +kernel) rfl rfl (Nat.le_of_ble_eq_true rfl) dX2_init_33 (fun H locs hL => ?_)
  replace hL := hL.eq (gw_set hlen)
  replace hL : GL D B s (gw ws p0 (h, .inr (2, [.int 0, .int 0, .ref a1, .ref a2, .ref a3, .ref a4, .null])) [(a1, .inl (cy 0, 8, .inl (fun _ => 0))), (a2, .inl (cy 0, 12, .inl (fun _ => 0))), (a3, .inl (cy 0, 12, .inl (fun _ => 0))), (a4, .inl (cy 0, 12, .inl (fun _ => 0)))]) _ _ := hL
  refine lv_aload_n hx hb dX2_init_36 rfl (lv_at hl 0 rfl) ?_
  refine lv_bipush (v := (12 : Int32)) hx hb dX2_init_37 (by decide) ?_
  refine L_newa (atype := .int) (ty := .int) (a0 := (12, .inl (fun _ => 0))) (N' := 12) 0 fx hL rfl rfl (fun _ h => h) k_22 (fun _ => rfl) (by decide) rfl (Nat.le_of_ble_eq_true rfl) (Nat.le_of_ble_eq_true rfl) (Nat.le_of_ble_eq_true rfl) dX2_init_39 (fun a5 H hL => ?_)
  replace hL := hL.eq gw_app
  refine L_putF (C := RX2) (T := TX2) (M := 7) (ci := 2) (q0 := p0) (v := .ref a5) (ty := .array .int) fx hL inlX2 rfl tyX2 tyX2_ok nmX2 (gw_at hlen) 6 (by decide) k_52 (fun _ h => h) rfl (hnm.trans rfl) rfl (by decide +kernel) rfl rfl (Nat.le_of_ble_eq_true rfl) dX2_init_41 (fun H locs hL => ?_)
  replace hL := hL.eq (gw_set hlen)
  replace hL : GL D B s (gw ws p0 (h, .inr (2, [.int 0, .int 0, .ref a1, .ref a2, .ref a3, .ref a4, .ref a5])) [(a1, .inl (cy 0, 8, .inl (fun _ => 0))), (a2, .inl (cy 0, 12, .inl (fun _ => 0))), (a3, .inl (cy 0, 12, .inl (fun _ => 0))), (a4, .inl (cy 0, 12, .inl (fun _ => 0))), (a5, .inl (cy 0, 12, .inl (fun _ => 0)))]) _ _ := hL
  exact L_vret fx hr hL ⟨a1, a2, a3, a4, a5, rfl⟩ (Nat.le_of_ble_eq_true rfl) (Nat.le_of_ble_eq_true rfl) dX2_init_44
theorem D2k_init : Cond.instanceMethod yX2_init ∈ wsL_law ∧ Cond.initialized yX2_init.cls ∈ wsL_law ∧ Cond.code yX2_init cX2_init 1 none ∈ wsL_law := ⟨k_45, k_14, k_46⟩
theorem D2h_init : yX2_init.cls ≠ "java/lang/invoke/MethodHandle" ∧ yX2_init.cls ≠ "java/lang/invoke/VarHandle" ∧ (parseMethodDescriptor yX2_init.desc).map (fun d => d.parameters.length) = some 0 := by decide +kernel
abbrev D3rm_init : Room := { frames := 1, cells := 7, slots := 4100, locals := 12 }
set_option maxRecDepth 100000 in
set_option maxHeartbeats 4000000 in
theorem D3c_init (l : Launch) {D : va_G} {cy : Nat → ClassId} {B : Nat} (ws : va_W) (p0 h : Nat) (he : ws[p0]? = some (h, .inr (3, [.int 0, .null, .null, .null]))) : CM l yX3_init cX3_init 1 D3rm_init D cy B [.ref h] ws (fun w => ∃ (a1 : Nat) (r2 : Nat → Nat) (a3 : Nat) (a4 : Nat), w = gw ws p0 (h, .inr (3, [.int 0, .ref a1, .ref a3, .ref a4])) [(a1, .inl (cy 4, 4, .inr (.inr (.inr (.inr (fun i => if i < 4 then some (r2 i) else none)))))), ((r2 0), .inl (cy 0, 768, .inl (fun _ => 0))), ((r2 1), .inl (cy 0, 768, .inl (fun _ => 0))), ((r2 2), .inl (cy 0, 768, .inl (fun _ => 0))), ((r2 3), .inl (cy 0, 768, .inl (fun _ => 0))), (a3, .inl (cy 0, 256, .inl (fun _ => 0))), (a4, .inl (cy 0, 768, .inl (fun _ => 0)))]) 7 4100 := by
  refine c_start RX3 rfl (by decide) (Nat.le_of_ble_eq_true rfl) ?_
  intro p e s m args below meth c fx hnm ex hr hL ls hl
  have hx := fx.1
  have hb := fx.2.1
  have hts := fx.2.2.2.2.1
  have hlen : p0 < ws.length := (List.getElem?_eq_some_iff.mp he).1
  replace hL := hL.eq (gw_0 he)
  have hl : lv_has ls 1 [(0, .ref h)] := hl
  refine lv_aload_n hx hb dX3_init_0 rfl (lv_at hl 0 rfl) ?_
  refine W.objInit hx hb fx.2.2.2.1 (hts _ k_72) (hts _ k_10) (hts _ k_11) rfl (by rw [fx.2.2.1]; exact hl.1) rfl dX3_init_1 (Nat.le_of_ble_eq_true rfl) (Nat.le_of_ble_eq_true rfl) ?_
  refine W.eq (g2 := F0 m 4 ls []) rfl ?_
  refine lv_aload_n hx hb dX3_init_4 rfl (lv_at hl 0 rfl) ?_
  refine lv_iconst (v := (4 : Int32)) hx hb dX3_init_5 (by decide) ?_
  refine lv_sipush (v := (768 : Int32)) hx hb dX3_init_6 (by decide) ?_
  refine L_mna (N' := 4) (K' := 768) fx hL k_73 ex.2.1 k_22 (by decide) (by decide) rfl rfl (Nat.le_of_ble_eq_true rfl) (Nat.le_of_ble_eq_true rfl) (Nat.le_of_ble_eq_true rfl) (Nat.le_of_ble_eq_true rfl) dX3_init_9 (fun a1 r2 H hL => ?_)
  replace hL := hL.eq gw_app2
  refine L_putF (C := RX3) (T := TX3) (M := 4) (ci := 3) (q0 := p0) (v := .ref a1) (ty := .array (.array .int)) fx hL inlX3 rfl tyX3 tyX3_ok nmX3 (gw_at hlen) 1 (by decide) k_74 (fun _ h => h) rfl (hnm.trans rfl) rfl (by decide +kernel) rfl rfl (Nat.le_of_ble_eq_true rfl) dX3_init_13 (fun H locs hL => ?_)
  replace hL := hL.eq (gw_set hlen)
  replace hL : GL D B s (gw ws p0 (h, .inr (3, [.int 0, .ref a1, .null, .null])) [(a1, .inl (cy 4, 4, .inr (.inr (.inr (.inr (fun i => if i < 4 then some (r2 i) else none)))))), ((r2 0), .inl (cy 0, 768, .inl (fun _ => 0))), ((r2 1), .inl (cy 0, 768, .inl (fun _ => 0))), ((r2 2), .inl (cy 0, 768, .inl (fun _ => 0))), ((r2 3), .inl (cy 0, 768, .inl (fun _ => 0)))]) _ _ := hL
  refine lv_aload_n hx hb dX3_init_16 rfl (lv_at hl 0 rfl) ?_
  refine lv_sipush (v := (256 : Int32)) hx hb dX3_init_17 (by decide) ?_
  refine L_newa (atype := .int) (ty := .int) (a0 := (256, .inl (fun _ => 0))) (N' := 256) 0 fx hL rfl rfl (fun _ h => h) k_22 (fun _ => rfl) (by decide) rfl (Nat.le_of_ble_eq_true rfl) (Nat.le_of_ble_eq_true rfl) (Nat.le_of_ble_eq_true rfl) dX3_init_20 (fun a3 H hL => ?_)
  replace hL := hL.eq gw_app
  refine L_putF (C := RX3) (T := TX3) (M := 4) (ci := 3) (q0 := p0) (v := .ref a3) (ty := .array .int) fx hL inlX3 rfl tyX3 tyX3_ok nmX3 (gw_at hlen) 2 (by decide) k_75 (fun _ h => h) rfl (hnm.trans rfl) rfl (by decide +kernel) rfl rfl (Nat.le_of_ble_eq_true rfl) dX3_init_22 (fun H locs hL => ?_)
  replace hL := hL.eq (gw_set hlen)
  replace hL : GL D B s (gw ws p0 (h, .inr (3, [.int 0, .ref a1, .ref a3, .null])) [(a1, .inl (cy 4, 4, .inr (.inr (.inr (.inr (fun i => if i < 4 then some (r2 i) else none)))))), ((r2 0), .inl (cy 0, 768, .inl (fun _ => 0))), ((r2 1), .inl (cy 0, 768, .inl (fun _ => 0))), ((r2 2), .inl (cy 0, 768, .inl (fun _ => 0))), ((r2 3), .inl (cy 0, 768, .inl (fun _ => 0))), (a3, .inl (cy 0, 256, .inl (fun _ => 0)))]) _ _ := hL
  refine lv_aload_n hx hb dX3_init_25 rfl (lv_at hl 0 rfl) ?_
  refine lv_sipush (v := (768 : Int32)) hx hb dX3_init_26 (by decide) ?_
  refine L_newa (atype := .int) (ty := .int) (a0 := (768, .inl (fun _ => 0))) (N' := 768) 0 fx hL rfl rfl (fun _ h => h) k_22 (fun _ => rfl) (by decide) rfl (Nat.le_of_ble_eq_true rfl) (Nat.le_of_ble_eq_true rfl) (Nat.le_of_ble_eq_true rfl) dX3_init_29 (fun a4 H hL => ?_)
  replace hL := hL.eq gw_app
  refine L_putF (C := RX3) (T := TX3) (M := 4) (ci := 3) (q0 := p0) (v := .ref a4) (ty := .array .int) fx hL inlX3 rfl tyX3 tyX3_ok nmX3 (gw_at hlen) 3 (by decide) k_76 (fun _ h => h) rfl (hnm.trans rfl) rfl (by decide +kernel) rfl rfl (Nat.le_of_ble_eq_true rfl) dX3_init_31 (fun H locs hL => ?_)
  replace hL := hL.eq (gw_set hlen)
  replace hL : GL D B s (gw ws p0 (h, .inr (3, [.int 0, .ref a1, .ref a3, .ref a4])) [(a1, .inl (cy 4, 4, .inr (.inr (.inr (.inr (fun i => if i < 4 then some (r2 i) else none)))))), ((r2 0), .inl (cy 0, 768, .inl (fun _ => 0))), ((r2 1), .inl (cy 0, 768, .inl (fun _ => 0))), ((r2 2), .inl (cy 0, 768, .inl (fun _ => 0))), ((r2 3), .inl (cy 0, 768, .inl (fun _ => 0))), (a3, .inl (cy 0, 256, .inl (fun _ => 0))), (a4, .inl (cy 0, 768, .inl (fun _ => 0)))]) _ _ := hL
  exact L_vret fx hr hL ⟨a1, r2, a3, a4, rfl⟩ (Nat.le_of_ble_eq_true rfl) (Nat.le_of_ble_eq_true rfl) dX3_init_34
theorem D3k_init : Cond.instanceMethod yX3_init ∈ wsL_law ∧ Cond.initialized yX3_init.cls ∈ wsL_law ∧ Cond.code yX3_init cX3_init 1 none ∈ wsL_law := ⟨k_70, k_34, k_71⟩
theorem D3h_init : yX3_init.cls ≠ "java/lang/invoke/MethodHandle" ∧ yX3_init.cls ≠ "java/lang/invoke/VarHandle" ∧ (parseMethodDescriptor yX3_init.desc).map (fun d => d.parameters.length) = some 0 := by decide +kernel
abbrev D5rm_init : Room := { frames := 1, cells := 4, slots := 1341, locals := 12 }
set_option maxRecDepth 100000 in
set_option maxHeartbeats 4000000 in
theorem D5c_init (l : Launch) {D : va_G} {cy : Nat → ClassId} {B : Nat} (ws : va_W) (p0 h : Nat) (he : ws[p0]? = some (h, .inr (5, [.null, .null, .null, .null]))) : CM l yX5_init cX5_init 1 D5rm_init D cy B [.ref h] ws (fun w => ∃ (a1 : Nat) (a2 : Nat) (a3 : Nat) (a4 : Nat), w = gw ws p0 (h, .inr (5, [.ref a1, .ref a2, .ref a3, .ref a4])) [(a1, .inl (cy 0, 12, .inl (fun _ => 0))), (a2, .inl (cy 0, 64, .inl (fun _ => 0))), (a3, .inl (cy 0, 64, .inl (fun _ => 0))), (a4, .inl (cy 0, 1201, .inl (fun _ => 0)))]) 4 1341 := by
  refine c_start RX5 rfl (by decide) (Nat.le_of_ble_eq_true rfl) ?_
  intro p e s m args below meth c fx hnm ex hr hL ls hl
  have hx := fx.1
  have hb := fx.2.1
  have hts := fx.2.2.2.2.1
  have hlen : p0 < ws.length := (List.getElem?_eq_some_iff.mp he).1
  replace hL := hL.eq (gw_0 he)
  have hl : lv_has ls 1 [(0, .ref h)] := hl
  refine lv_aload_n hx hb dX5_init_0 rfl (lv_at hl 0 rfl) ?_
  refine W.objInit hx hb fx.2.2.2.1 (hts _ k_60) (hts _ k_10) (hts _ k_11) rfl (by rw [fx.2.2.1]; exact hl.1) rfl dX5_init_1 (Nat.le_of_ble_eq_true rfl) (Nat.le_of_ble_eq_true rfl) ?_
  refine W.eq (g2 := F0 m 4 ls []) rfl ?_
  refine lv_aload_n hx hb dX5_init_4 rfl (lv_at hl 0 rfl) ?_
  refine lv_bipush (v := (12 : Int32)) hx hb dX5_init_5 (by decide) ?_
  refine L_newa (atype := .int) (ty := .int) (a0 := (12, .inl (fun _ => 0))) (N' := 12) 0 fx hL rfl rfl (fun _ h => h) k_22 (fun _ => rfl) (by decide) rfl (Nat.le_of_ble_eq_true rfl) (Nat.le_of_ble_eq_true rfl) (Nat.le_of_ble_eq_true rfl) dX5_init_7 (fun a1 H hL => ?_)
  replace hL := hL.eq gw_app
  refine L_putF (C := RX5) (T := TX5) (M := 4) (ci := 5) (q0 := p0) (v := .ref a1) (ty := .array .int) fx hL inlX5 rfl tyX5 tyX5_ok nmX5 (gw_at hlen) 0 (by decide) k_61 (fun _ h => h) rfl (hnm.trans rfl) rfl (by decide +kernel) rfl rfl (Nat.le_of_ble_eq_true rfl) dX5_init_9 (fun H locs hL => ?_)
  replace hL := hL.eq (gw_set hlen)
  replace hL : GL D B s (gw ws p0 (h, .inr (5, [.ref a1, .null, .null, .null])) [(a1, .inl (cy 0, 12, .inl (fun _ => 0)))]) _ _ := hL
  refine lv_aload_n hx hb dX5_init_12 rfl (lv_at hl 0 rfl) ?_
  refine lv_bipush (v := (64 : Int32)) hx hb dX5_init_13 (by decide) ?_
  refine L_newa (atype := .int) (ty := .int) (a0 := (64, .inl (fun _ => 0))) (N' := 64) 0 fx hL rfl rfl (fun _ h => h) k_22 (fun _ => rfl) (by decide) rfl (Nat.le_of_ble_eq_true rfl) (Nat.le_of_ble_eq_true rfl) (Nat.le_of_ble_eq_true rfl) dX5_init_15 (fun a2 H hL => ?_)
  replace hL := hL.eq gw_app
  refine L_putF (C := RX5) (T := TX5) (M := 4) (ci := 5) (q0 := p0) (v := .ref a2) (ty := .array .int) fx hL inlX5 rfl tyX5 tyX5_ok nmX5 (gw_at hlen) 1 (by decide) k_62 (fun _ h => h) rfl (hnm.trans rfl) rfl (by decide +kernel) rfl rfl (Nat.le_of_ble_eq_true rfl) dX5_init_17 (fun H locs hL => ?_)
  replace hL := hL.eq (gw_set hlen)
  replace hL : GL D B s (gw ws p0 (h, .inr (5, [.ref a1, .ref a2, .null, .null])) [(a1, .inl (cy 0, 12, .inl (fun _ => 0))), (a2, .inl (cy 0, 64, .inl (fun _ => 0)))]) _ _ := hL
  refine lv_aload_n hx hb dX5_init_20 rfl (lv_at hl 0 rfl) ?_
  refine lv_bipush (v := (64 : Int32)) hx hb dX5_init_21 (by decide) ?_
  refine L_newa (atype := .int) (ty := .int) (a0 := (64, .inl (fun _ => 0))) (N' := 64) 0 fx hL rfl rfl (fun _ h => h) k_22 (fun _ => rfl) (by decide) rfl (Nat.le_of_ble_eq_true rfl) (Nat.le_of_ble_eq_true rfl) (Nat.le_of_ble_eq_true rfl) dX5_init_23 (fun a3 H hL => ?_)
  replace hL := hL.eq gw_app
  refine L_putF (C := RX5) (T := TX5) (M := 4) (ci := 5) (q0 := p0) (v := .ref a3) (ty := .array .int) fx hL inlX5 rfl tyX5 tyX5_ok nmX5 (gw_at hlen) 2 (by decide) k_63 (fun _ h => h) rfl (hnm.trans rfl) rfl (by decide +kernel) rfl rfl (Nat.le_of_ble_eq_true rfl) dX5_init_25 (fun H locs hL => ?_)
  replace hL := hL.eq (gw_set hlen)
  replace hL : GL D B s (gw ws p0 (h, .inr (5, [.ref a1, .ref a2, .ref a3, .null])) [(a1, .inl (cy 0, 12, .inl (fun _ => 0))), (a2, .inl (cy 0, 64, .inl (fun _ => 0))), (a3, .inl (cy 0, 64, .inl (fun _ => 0)))]) _ _ := hL
  refine lv_aload_n hx hb dX5_init_28 rfl (lv_at hl 0 rfl) ?_
  refine lv_sipush (v := (1201 : Int32)) hx hb dX5_init_29 (by decide) ?_
  refine L_newa (atype := .int) (ty := .int) (a0 := (1201, .inl (fun _ => 0))) (N' := 1201) 0 fx hL rfl rfl (fun _ h => h) k_22 (fun _ => rfl) (by decide) rfl (Nat.le_of_ble_eq_true rfl) (Nat.le_of_ble_eq_true rfl) (Nat.le_of_ble_eq_true rfl) dX5_init_32 (fun a4 H hL => ?_)
  replace hL := hL.eq gw_app
  refine L_putF (C := RX5) (T := TX5) (M := 4) (ci := 5) (q0 := p0) (v := .ref a4) (ty := .array .int) fx hL inlX5 rfl tyX5 tyX5_ok nmX5 (gw_at hlen) 3 (by decide) k_64 (fun _ h => h) rfl (hnm.trans rfl) rfl (by decide +kernel) rfl rfl (Nat.le_of_ble_eq_true rfl) dX5_init_34 (fun H locs hL => ?_)
  replace hL := hL.eq (gw_set hlen)
  replace hL : GL D B s (gw ws p0 (h, .inr (5, [.ref a1, .ref a2, .ref a3, .ref a4])) [(a1, .inl (cy 0, 12, .inl (fun _ => 0))), (a2, .inl (cy 0, 64, .inl (fun _ => 0))), (a3, .inl (cy 0, 64, .inl (fun _ => 0))), (a4, .inl (cy 0, 1201, .inl (fun _ => 0)))]) _ _ := hL
  exact L_vret fx hr hL ⟨a1, a2, a3, a4, rfl⟩ (Nat.le_of_ble_eq_true rfl) (Nat.le_of_ble_eq_true rfl) dX5_init_37
theorem D5k_init : Cond.instanceMethod yX5_init ∈ wsL_law ∧ Cond.initialized yX5_init.cls ∈ wsL_law ∧ Cond.code yX5_init cX5_init 1 none ∈ wsL_law := ⟨k_58, k_26, k_59⟩
theorem D5h_init : yX5_init.cls ≠ "java/lang/invoke/MethodHandle" ∧ yX5_init.cls ≠ "java/lang/invoke/VarHandle" ∧ (parseMethodDescriptor yX5_init.desc).map (fun d => d.parameters.length) = some 0 := by decide +kernel
abbrev D6rm_init : Room := { frames := 1, cells := 2, slots := 8192, locals := 12 }
set_option maxRecDepth 100000 in
set_option maxHeartbeats 4000000 in
theorem D6c_init (l : Launch) {D : va_G} {cy : Nat → ClassId} {B : Nat} (ws : va_W) (p0 h : Nat) (he : ws[p0]? = some (h, .inr (6, [.null, .null]))) : CM l yX6_init cX6_init 1 D6rm_init D cy B [.ref h] ws (fun w => ∃ (a1 : Nat) (a2 : Nat), w = gw ws p0 (h, .inr (6, [.ref a1, .ref a2])) [(a1, .inl (cy 1, 4096, .inr (.inl (fun _ => 0)))), (a2, .inl (cy 1, 4096, .inr (.inl (fun _ => 0))))]) 2 8192 := by
  refine c_start RX6 rfl (by decide) (Nat.le_of_ble_eq_true rfl) ?_
  intro p e s m args below meth c fx hnm ex hr hL ls hl
  have hx := fx.1
  have hb := fx.2.1
  have hts := fx.2.2.2.2.1
  have hlen : p0 < ws.length := (List.getElem?_eq_some_iff.mp he).1
  replace hL := hL.eq (gw_0 he)
  have hl : lv_has ls 1 [(0, .ref h)] := hl
  refine lv_aload_n hx hb dX6_init_0 rfl (lv_at hl 0 rfl) ?_
  refine W.objInit hx hb fx.2.2.2.1 (hts _ k_67) (hts _ k_10) (hts _ k_11) rfl (by rw [fx.2.2.1]; exact hl.1) rfl dX6_init_1 (Nat.le_of_ble_eq_true rfl) (Nat.le_of_ble_eq_true rfl) ?_
  refine W.eq (g2 := F0 m 4 ls []) rfl ?_
  refine lv_aload_n hx hb dX6_init_4 rfl (lv_at hl 0 rfl) ?_
  refine lv_sipush (v := (4096 : Int32)) hx hb dX6_init_5 (by decide) ?_
  refine L_newa (atype := .long) (ty := .long) (a0 := (4096, .inr (.inl (fun _ => 0)))) (N' := 4096) 1 fx hL rfl rfl (fun _ h => h) k_56 (fun _ => rfl) (by decide) rfl (Nat.le_of_ble_eq_true rfl) (Nat.le_of_ble_eq_true rfl) (Nat.le_of_ble_eq_true rfl) dX6_init_8 (fun a1 H hL => ?_)
  replace hL := hL.eq gw_app
  refine L_putF (C := RX6) (T := TX6) (M := 2) (ci := 6) (q0 := p0) (v := .ref a1) (ty := .array .long) fx hL inlX6 rfl tyX6 tyX6_ok nmX6 (gw_at hlen) 0 (by decide) k_68 (fun _ h => h) rfl (hnm.trans rfl) rfl (by decide +kernel) rfl rfl (Nat.le_of_ble_eq_true rfl) dX6_init_10 (fun H locs hL => ?_)
  replace hL := hL.eq (gw_set hlen)
  replace hL : GL D B s (gw ws p0 (h, .inr (6, [.ref a1, .null])) [(a1, .inl (cy 1, 4096, .inr (.inl (fun _ => 0))))]) _ _ := hL
  refine lv_aload_n hx hb dX6_init_13 rfl (lv_at hl 0 rfl) ?_
  refine lv_sipush (v := (4096 : Int32)) hx hb dX6_init_14 (by decide) ?_
  refine L_newa (atype := .long) (ty := .long) (a0 := (4096, .inr (.inl (fun _ => 0)))) (N' := 4096) 1 fx hL rfl rfl (fun _ h => h) k_56 (fun _ => rfl) (by decide) rfl (Nat.le_of_ble_eq_true rfl) (Nat.le_of_ble_eq_true rfl) (Nat.le_of_ble_eq_true rfl) dX6_init_17 (fun a2 H hL => ?_)
  replace hL := hL.eq gw_app
  refine L_putF (C := RX6) (T := TX6) (M := 2) (ci := 6) (q0 := p0) (v := .ref a2) (ty := .array .long) fx hL inlX6 rfl tyX6 tyX6_ok nmX6 (gw_at hlen) 1 (by decide) k_69 (fun _ h => h) rfl (hnm.trans rfl) rfl (by decide +kernel) rfl rfl (Nat.le_of_ble_eq_true rfl) dX6_init_19 (fun H locs hL => ?_)
  replace hL := hL.eq (gw_set hlen)
  replace hL : GL D B s (gw ws p0 (h, .inr (6, [.ref a1, .ref a2])) [(a1, .inl (cy 1, 4096, .inr (.inl (fun _ => 0)))), (a2, .inl (cy 1, 4096, .inr (.inl (fun _ => 0))))]) _ _ := hL
  exact L_vret fx hr hL ⟨a1, a2, rfl⟩ (Nat.le_of_ble_eq_true rfl) (Nat.le_of_ble_eq_true rfl) dX6_init_22
theorem D6k_init : Cond.instanceMethod yX6_init ∈ wsL_law ∧ Cond.initialized yX6_init.cls ∈ wsL_law ∧ Cond.code yX6_init cX6_init 1 none ∈ wsL_law := ⟨k_65, k_30, k_66⟩
theorem D6h_init : yX6_init.cls ≠ "java/lang/invoke/MethodHandle" ∧ yX6_init.cls ≠ "java/lang/invoke/VarHandle" ∧ (parseMethodDescriptor yX6_init.desc).map (fun d => d.parameters.length) = some 0 := by decide +kernel
abbrev D7rm_init : Room := { frames := 1, cells := 1, slots := 64, locals := 12 }
set_option maxRecDepth 100000 in
set_option maxHeartbeats 4000000 in
theorem D7c_init (l : Launch) {D : va_G} {cy : Nat → ClassId} {B : Nat} (ws : va_W) (p0 h : Nat) (he : ws[p0]? = some (h, .inr (7, [.int 0, .null]))) : CM l yX7_init cX7_init 1 D7rm_init D cy B [.ref h] ws (fun w => ∃ (a1 : Nat), w = gw ws p0 (h, .inr (7, [.int 0, .ref a1])) [(a1, .inl (cy 1, 64, .inr (.inl (fun _ => 0))))]) 1 64 := by
  refine c_start RX7 rfl (by decide) (Nat.le_of_ble_eq_true rfl) ?_
  intro p e s m args below meth c fx hnm ex hr hL ls hl
  have hx := fx.1
  have hb := fx.2.1
  have hts := fx.2.2.2.2.1
  have hlen : p0 < ws.length := (List.getElem?_eq_some_iff.mp he).1
  replace hL := hL.eq (gw_0 he)
  have hl : lv_has ls 1 [(0, .ref h)] := hl
  refine lv_aload_n hx hb dX7_init_0 rfl (lv_at hl 0 rfl) ?_
  refine W.objInit hx hb fx.2.2.2.1 (hts _ k_55) (hts _ k_10) (hts _ k_11) rfl (by rw [fx.2.2.1]; exact hl.1) rfl dX7_init_1 (Nat.le_of_ble_eq_true rfl) (Nat.le_of_ble_eq_true rfl) ?_
  refine W.eq (g2 := F0 m 4 ls []) rfl ?_
  refine lv_aload_n hx hb dX7_init_4 rfl (lv_at hl 0 rfl) ?_
  refine lv_bipush (v := (64 : Int32)) hx hb dX7_init_5 (by decide) ?_
  refine L_newa (atype := .long) (ty := .long) (a0 := (64, .inr (.inl (fun _ => 0)))) (N' := 64) 1 fx hL rfl rfl (fun _ h => h) k_56 (fun _ => rfl) (by decide) rfl (Nat.le_of_ble_eq_true rfl) (Nat.le_of_ble_eq_true rfl) (Nat.le_of_ble_eq_true rfl) dX7_init_7 (fun a1 H hL => ?_)
  replace hL := hL.eq gw_app
  refine L_putF (C := RX7) (T := TX7) (M := 2) (ci := 7) (q0 := p0) (v := .ref a1) (ty := .array .long) fx hL inlX7 rfl tyX7 tyX7_ok nmX7 (gw_at hlen) 1 (by decide) k_57 (fun _ h => h) rfl (hnm.trans rfl) rfl (by decide +kernel) rfl rfl (Nat.le_of_ble_eq_true rfl) dX7_init_9 (fun H locs hL => ?_)
  replace hL := hL.eq (gw_set hlen)
  replace hL : GL D B s (gw ws p0 (h, .inr (7, [.int 0, .ref a1])) [(a1, .inl (cy 1, 64, .inr (.inl (fun _ => 0))))]) _ _ := hL
  exact L_vret fx hr hL ⟨a1, rfl⟩ (Nat.le_of_ble_eq_true rfl) (Nat.le_of_ble_eq_true rfl) dX7_init_12
theorem D7k_init : Cond.instanceMethod yX7_init ∈ wsL_law ∧ Cond.initialized yX7_init.cls ∈ wsL_law ∧ Cond.code yX7_init cX7_init 1 none ∈ wsL_law := ⟨k_53, k_19, k_54⟩
theorem D7h_init : yX7_init.cls ≠ "java/lang/invoke/MethodHandle" ∧ yX7_init.cls ≠ "java/lang/invoke/VarHandle" ∧ (parseMethodDescriptor yX7_init.desc).map (fun d => d.parameters.length) = some 0 := by decide +kernel
abbrev Rrm_init : Room := { frames := 1, cells := 25, slots := 148852, locals := 12 }
set_option maxRecDepth 100000 in
set_option maxHeartbeats 4000000 in
theorem Rc_init (l : Launch) {D : va_G} {cy : Nat → ClassId} {B : Nat} (ws : va_W) (p0 h : Nat) (he : ws[p0]? = some (h, .inr (9, [.int 0, .null, .int 0, .null, .null, .null, .int 0, .null, .null, .int 0, .null, .null, .null, .null, .null, .null, .null, .null, .int 0, .null, .null, .null, .int 0, .null, .null, .null, .null, .null, .null, .null, .null, .int 0, .int 0]))) : CM l yX9_init cX9_init 2 Rrm_init D cy B [.ref h] ws (fun w => ∃ (a1 : Nat) (a2 : Nat) (a3 : Nat) (a4 : Nat) (a5 : Nat) (a6 : Nat) (a7 : Nat) (a8 : Nat) (a9 : Nat) (a10 : Nat) (a11 : Nat) (a12 : Nat) (a13 : Nat) (a14 : Nat) (a15 : Nat) (a16 : Nat) (a17 : Nat) (a18 : Nat) (a19 : Nat) (a20 : Nat) (a21 : Nat) (a22 : Nat) (a23 : Nat) (a24 : Nat) (a25 : Nat), w = gw ws p0 (h, .inr (9, [.int 0, .ref a1, .int 0, .ref a2, .ref a3, .ref a4, .int 0, .ref a5, .ref a6, .int 0, .ref a7, .ref a8, .ref a9, .ref a10, .ref a11, .ref a12, .ref a13, .ref a14, .int 0, .ref a15, .ref a16, .ref a17, .int 0, .ref a18, .ref a19, .ref a20, .ref a21, .ref a22, .ref a23, .ref a24, .ref a25, .int 0, .int 0])) [(a1, .inl (cy 0, 8, .inl (fun _ => 0))), (a2, .inl (cy 0, 24, .inl (fun _ => 0))), (a3, .inl (cy 0, 12, .inl (fun _ => 0))), (a4, .inl (cy 0, 12, .inl (fun _ => 0))), (a5, .inl (cy 0, 30, .inl (fun _ => 0))), (a6, .inl (cy 2, 122880, .inl (fun _ => 0))), (a7, .inl (cy 0, 4400, .inl (fun _ => 0))), (a8, .inl (cy 0, 6, .inl (upd (upd (upd (upd (upd (upd (fun _ => 0) 0 (-1 : Int32)) 1 (-1 : Int32)) 2 (-1 : Int32)) 3 (-1 : Int32)) 4 (-1 : Int32)) 5 (-1 : Int32)))), (a9, .inl (cy 0, 6, .inl (fun _ => 0))), (a10, .inl (cy 0, 240, .inl (fun _ => 0))), (a11, .inl (cy 0, 6, .inl (fun _ => 0))), (a12, .inl (cy 0, 6, .inl (fun _ => 0))), (a13, .inl (cy 0, 6, .inl (fun _ => 0))), (a14, .inl (cy 0, 40, .inl (fun _ => 0))), (a15, .inl (cy 0, 8, .inl (fun _ => 0))), (a16, .inl (cy 2, 4096, .inl (fun _ => 0))), (a17, .inl (cy 2, 4096, .inl (fun _ => 0))), (a18, .inl (cy 0, 1100, .inl (fun _ => 0))), (a19, .inl (cy 0, 1100, .inl (fun _ => 0))), (a20, .inl (cy 0, 1100, .inl (fun _ => 0))), (a21, .inl (cy 0, 4096, .inl (fun _ => 0))), (a22, .inl (cy 0, 1100, .inl (fun _ => 0))), (a23, .inl (cy 0, 40, .inl (fun _ => 0))), (a24, .inl (cy 0, 40, .inl (fun _ => 0))), (a25, .inl (cy 0, 4400, .inl (fun _ => 0)))]) 25 148852 := by
  refine c_start RX9 rfl (by decide) (Nat.le_of_ble_eq_true rfl) ?_
  intro p e s m args below meth c fx hnm ex hr hL ls hl
  have hx := fx.1
  have hb := fx.2.1
  have hts := fx.2.2.2.2.1
  have hlen : p0 < ws.length := (List.getElem?_eq_some_iff.mp he).1
  replace hL := hL.eq (gw_0 he)
  have hl : lv_has ls 2 [(0, .ref h)] := hl
  refine lv_aload_n hx hb dX9_init_0 rfl (lv_at hl 0 rfl) ?_
  refine W.objInit hx hb fx.2.2.2.1 (hts _ k_98) (hts _ k_10) (hts _ k_11) rfl (by rw [fx.2.2.1]; exact hl.1) rfl dX9_init_1 (Nat.le_of_ble_eq_true rfl) (Nat.le_of_ble_eq_true rfl) ?_
  refine W.eq (g2 := F0 m 4 ls []) rfl ?_
  refine lv_aload_n hx hb dX9_init_4 rfl (lv_at hl 0 rfl) ?_
  refine lv_bipush (v := (8 : Int32)) hx hb dX9_init_5 (by decide) ?_
  refine L_newa (atype := .int) (ty := .int) (a0 := (8, .inl (fun _ => 0))) (N' := 8) 0 fx hL rfl rfl (fun _ h => h) k_22 (fun _ => rfl) (by decide) rfl (Nat.le_of_ble_eq_true rfl) (Nat.le_of_ble_eq_true rfl) (Nat.le_of_ble_eq_true rfl) dX9_init_7 (fun a1 H hL => ?_)
  replace hL := hL.eq gw_app
  refine L_putF (C := RX9) (T := TX9) (M := 33) (ci := 9) (q0 := p0) (v := .ref a1) (ty := .array .int) fx hL inlX9 rfl tyX9 tyX9_ok nmX9 (gw_at hlen) 1 (by decide) k_99 (fun _ h => h) rfl (hnm.trans rfl) rfl (by decide +kernel) rfl rfl (Nat.le_of_ble_eq_true rfl) dX9_init_9 (fun H locs hL => ?_)
  replace hL := hL.eq (gw_set hlen)
  replace hL : GL D B s (gw ws p0 (h, .inr (9, [.int 0, .ref a1, .int 0, .null, .null, .null, .int 0, .null, .null, .int 0, .null, .null, .null, .null, .null, .null, .null, .null, .int 0, .null, .null, .null, .int 0, .null, .null, .null, .null, .null, .null, .null, .null, .int 0, .int 0])) [(a1, .inl (cy 0, 8, .inl (fun _ => 0)))]) _ _ := hL
  refine lv_aload_n hx hb dX9_init_12 rfl (lv_at hl 0 rfl) ?_
  refine lv_bipush (v := (24 : Int32)) hx hb dX9_init_13 (by decide) ?_
  refine L_newa (atype := .int) (ty := .int) (a0 := (24, .inl (fun _ => 0))) (N' := 24) 0 fx hL rfl rfl (fun _ h => h) k_22 (fun _ => rfl) (by decide) rfl (Nat.le_of_ble_eq_true rfl) (Nat.le_of_ble_eq_true rfl) (Nat.le_of_ble_eq_true rfl) dX9_init_15 (fun a2 H hL => ?_)
  replace hL := hL.eq gw_app
  refine L_putF (C := RX9) (T := TX9) (M := 33) (ci := 9) (q0 := p0) (v := .ref a2) (ty := .array .int) fx hL inlX9 rfl tyX9 tyX9_ok nmX9 (gw_at hlen) 3 (by decide) k_100 (fun _ h => h) rfl (hnm.trans rfl) rfl (by decide +kernel) rfl rfl (Nat.le_of_ble_eq_true rfl) dX9_init_17 (fun H locs hL => ?_)
  replace hL := hL.eq (gw_set hlen)
  replace hL : GL D B s (gw ws p0 (h, .inr (9, [.int 0, .ref a1, .int 0, .ref a2, .null, .null, .int 0, .null, .null, .int 0, .null, .null, .null, .null, .null, .null, .null, .null, .int 0, .null, .null, .null, .int 0, .null, .null, .null, .null, .null, .null, .null, .null, .int 0, .int 0])) [(a1, .inl (cy 0, 8, .inl (fun _ => 0))), (a2, .inl (cy 0, 24, .inl (fun _ => 0)))]) _ _ := hL
  refine lv_aload_n hx hb dX9_init_20 rfl (lv_at hl 0 rfl) ?_
  refine lv_bipush (v := (12 : Int32)) hx hb dX9_init_21 (by decide) ?_
  refine L_newa (atype := .int) (ty := .int) (a0 := (12, .inl (fun _ => 0))) (N' := 12) 0 fx hL rfl rfl (fun _ h => h) k_22 (fun _ => rfl) (by decide) rfl (Nat.le_of_ble_eq_true rfl) (Nat.le_of_ble_eq_true rfl) (Nat.le_of_ble_eq_true rfl) dX9_init_23 (fun a3 H hL => ?_)
  replace hL := hL.eq gw_app
  refine L_putF (C := RX9) (T := TX9) (M := 33) (ci := 9) (q0 := p0) (v := .ref a3) (ty := .array .int) fx hL inlX9 rfl tyX9 tyX9_ok nmX9 (gw_at hlen) 4 (by decide) k_101 (fun _ h => h) rfl (hnm.trans rfl) rfl (by decide +kernel) rfl rfl (Nat.le_of_ble_eq_true rfl) dX9_init_25 (fun H locs hL => ?_)
  replace hL := hL.eq (gw_set hlen)
  replace hL : GL D B s (gw ws p0 (h, .inr (9, [.int 0, .ref a1, .int 0, .ref a2, .ref a3, .null, .int 0, .null, .null, .int 0, .null, .null, .null, .null, .null, .null, .null, .null, .int 0, .null, .null, .null, .int 0, .null, .null, .null, .null, .null, .null, .null, .null, .int 0, .int 0])) [(a1, .inl (cy 0, 8, .inl (fun _ => 0))), (a2, .inl (cy 0, 24, .inl (fun _ => 0))), (a3, .inl (cy 0, 12, .inl (fun _ => 0)))]) _ _ := hL
  refine lv_aload_n hx hb dX9_init_28 rfl (lv_at hl 0 rfl) ?_
  refine lv_bipush (v := (12 : Int32)) hx hb dX9_init_29 (by decide) ?_
  refine L_newa (atype := .int) (ty := .int) (a0 := (12, .inl (fun _ => 0))) (N' := 12) 0 fx hL rfl rfl (fun _ h => h) k_22 (fun _ => rfl) (by decide) rfl (Nat.le_of_ble_eq_true rfl) (Nat.le_of_ble_eq_true rfl) (Nat.le_of_ble_eq_true rfl) dX9_init_31 (fun a4 H hL => ?_)
  replace hL := hL.eq gw_app
  refine L_putF (C := RX9) (T := TX9) (M := 33) (ci := 9) (q0 := p0) (v := .ref a4) (ty := .array .int) fx hL inlX9 rfl tyX9 tyX9_ok nmX9 (gw_at hlen) 5 (by decide) k_102 (fun _ h => h) rfl (hnm.trans rfl) rfl (by decide +kernel) rfl rfl (Nat.le_of_ble_eq_true rfl) dX9_init_33 (fun H locs hL => ?_)
  replace hL := hL.eq (gw_set hlen)
  replace hL : GL D B s (gw ws p0 (h, .inr (9, [.int 0, .ref a1, .int 0, .ref a2, .ref a3, .ref a4, .int 0, .null, .null, .int 0, .null, .null, .null, .null, .null, .null, .null, .null, .int 0, .null, .null, .null, .int 0, .null, .null, .null, .null, .null, .null, .null, .null, .int 0, .int 0])) [(a1, .inl (cy 0, 8, .inl (fun _ => 0))), (a2, .inl (cy 0, 24, .inl (fun _ => 0))), (a3, .inl (cy 0, 12, .inl (fun _ => 0))), (a4, .inl (cy 0, 12, .inl (fun _ => 0)))]) _ _ := hL
  refine lv_aload_n hx hb dX9_init_36 rfl (lv_at hl 0 rfl) ?_
  refine lv_bipush (v := (30 : Int32)) hx hb dX9_init_37 (by decide) ?_
  refine L_newa (atype := .int) (ty := .int) (a0 := (30, .inl (fun _ => 0))) (N' := 30) 0 fx hL rfl rfl (fun _ h => h) k_22 (fun _ => rfl) (by decide) rfl (Nat.le_of_ble_eq_true rfl) (Nat.le_of_ble_eq_true rfl) (Nat.le_of_ble_eq_true rfl) dX9_init_39 (fun a5 H hL => ?_)
  replace hL := hL.eq gw_app
  refine L_putF (C := RX9) (T := TX9) (M := 33) (ci := 9) (q0 := p0) (v := .ref a5) (ty := .array .int) fx hL inlX9 rfl tyX9 tyX9_ok nmX9 (gw_at hlen) 7 (by decide) k_103 (fun _ h => h) rfl (hnm.trans rfl) rfl (by decide +kernel) rfl rfl (Nat.le_of_ble_eq_true rfl) dX9_init_41 (fun H locs hL => ?_)
  replace hL := hL.eq (gw_set hlen)
  replace hL : GL D B s (gw ws p0 (h, .inr (9, [.int 0, .ref a1, .int 0, .ref a2, .ref a3, .ref a4, .int 0, .ref a5, .null, .int 0, .null, .null, .null, .null, .null, .null, .null, .null, .int 0, .null, .null, .null, .int 0, .null, .null, .null, .null, .null, .null, .null, .null, .int 0, .int 0])) [(a1, .inl (cy 0, 8, .inl (fun _ => 0))), (a2, .inl (cy 0, 24, .inl (fun _ => 0))), (a3, .inl (cy 0, 12, .inl (fun _ => 0))), (a4, .inl (cy 0, 12, .inl (fun _ => 0))), (a5, .inl (cy 0, 30, .inl (fun _ => 0)))]) _ _ := hL
  refine lv_aload_n hx hb dX9_init_44 rfl (lv_at hl 0 rfl) ?_
  refine lv_ldc hx hb fx.2.2.2.1 (fx.2.2.2.2.1 _ k_104) dX9_init_45 ?_
  refine L_newa (atype := .boolean) (ty := .boolean) (a0 := (122880, .inl (fun _ => 0))) (N' := 122880) 2 fx hL rfl rfl (fun _ h => h) k_105 (fun _ => rfl) (by decide) rfl (Nat.le_of_ble_eq_true rfl) (Nat.le_of_ble_eq_true rfl) (Nat.le_of_ble_eq_true rfl) dX9_init_47 (fun a6 H hL => ?_)
  replace hL := hL.eq gw_app
  refine L_putF (C := RX9) (T := TX9) (M := 33) (ci := 9) (q0 := p0) (v := .ref a6) (ty := .array .boolean) fx hL inlX9 rfl tyX9 tyX9_ok nmX9 (gw_at hlen) 8 (by decide) k_106 (fun _ h => h) rfl (hnm.trans rfl) rfl (by decide +kernel) rfl rfl (Nat.le_of_ble_eq_true rfl) dX9_init_49 (fun H locs hL => ?_)
  replace hL := hL.eq (gw_set hlen)
  replace hL : GL D B s (gw ws p0 (h, .inr (9, [.int 0, .ref a1, .int 0, .ref a2, .ref a3, .ref a4, .int 0, .ref a5, .ref a6, .int 0, .null, .null, .null, .null, .null, .null, .null, .null, .int 0, .null, .null, .null, .int 0, .null, .null, .null, .null, .null, .null, .null, .null, .int 0, .int 0])) [(a1, .inl (cy 0, 8, .inl (fun _ => 0))), (a2, .inl (cy 0, 24, .inl (fun _ => 0))), (a3, .inl (cy 0, 12, .inl (fun _ => 0))), (a4, .inl (cy 0, 12, .inl (fun _ => 0))), (a5, .inl (cy 0, 30, .inl (fun _ => 0))), (a6, .inl (cy 2, 122880, .inl (fun _ => 0)))]) _ _ := hL
  refine lv_aload_n hx hb dX9_init_52 rfl (lv_at hl 0 rfl) ?_
  refine lv_sipush (v := (4400 : Int32)) hx hb dX9_init_53 (by decide) ?_
  refine L_newa (atype := .int) (ty := .int) (a0 := (4400, .inl (fun _ => 0))) (N' := 4400) 0 fx hL rfl rfl (fun _ h => h) k_22 (fun _ => rfl) (by decide) rfl (Nat.le_of_ble_eq_true rfl) (Nat.le_of_ble_eq_true rfl) (Nat.le_of_ble_eq_true rfl) dX9_init_56 (fun a7 H hL => ?_)
  replace hL := hL.eq gw_app
  refine L_putF (C := RX9) (T := TX9) (M := 33) (ci := 9) (q0 := p0) (v := .ref a7) (ty := .array .int) fx hL inlX9 rfl tyX9 tyX9_ok nmX9 (gw_at hlen) 10 (by decide) k_107 (fun _ h => h) rfl (hnm.trans rfl) rfl (by decide +kernel) rfl rfl (Nat.le_of_ble_eq_true rfl) dX9_init_58 (fun H locs hL => ?_)
  replace hL := hL.eq (gw_set hlen)
  replace hL : GL D B s (gw ws p0 (h, .inr (9, [.int 0, .ref a1, .int 0, .ref a2, .ref a3, .ref a4, .int 0, .ref a5, .ref a6, .int 0, .ref a7, .null, .null, .null, .null, .null, .null, .null, .int 0, .null, .null, .null, .int 0, .null, .null, .null, .null, .null, .null, .null, .null, .int 0, .int 0])) [(a1, .inl (cy 0, 8, .inl (fun _ => 0))), (a2, .inl (cy 0, 24, .inl (fun _ => 0))), (a3, .inl (cy 0, 12, .inl (fun _ => 0))), (a4, .inl (cy 0, 12, .inl (fun _ => 0))), (a5, .inl (cy 0, 30, .inl (fun _ => 0))), (a6, .inl (cy 2, 122880, .inl (fun _ => 0))), (a7, .inl (cy 0, 4400, .inl (fun _ => 0)))]) _ _ := hL
  refine lv_aload_n hx hb dX9_init_61 rfl (lv_at hl 0 rfl) ?_
  refine lv_bipush (v := (6 : Int32)) hx hb dX9_init_62 (by decide) ?_
  refine L_newa (atype := .int) (ty := .int) (a0 := (6, .inl (fun _ => 0))) (N' := 6) 0 fx hL rfl rfl (fun _ h => h) k_22 (fun _ => rfl) (by decide) rfl (Nat.le_of_ble_eq_true rfl) (Nat.le_of_ble_eq_true rfl) (Nat.le_of_ble_eq_true rfl) dX9_init_64 (fun a8 H hL => ?_)
  replace hL := hL.eq gw_app
  refine L_putF (C := RX9) (T := TX9) (M := 33) (ci := 9) (q0 := p0) (v := .ref a8) (ty := .array .int) fx hL inlX9 rfl tyX9 tyX9_ok nmX9 (gw_at hlen) 11 (by decide) k_108 (fun _ h => h) rfl (hnm.trans rfl) rfl (by decide +kernel) rfl rfl (Nat.le_of_ble_eq_true rfl) dX9_init_66 (fun H locs hL => ?_)
  replace hL := hL.eq (gw_set hlen)
  replace hL : GL D B s (gw ws p0 (h, .inr (9, [.int 0, .ref a1, .int 0, .ref a2, .ref a3, .ref a4, .int 0, .ref a5, .ref a6, .int 0, .ref a7, .ref a8, .null, .null, .null, .null, .null, .null, .int 0, .null, .null, .null, .int 0, .null, .null, .null, .null, .null, .null, .null, .null, .int 0, .int 0])) [(a1, .inl (cy 0, 8, .inl (fun _ => 0))), (a2, .inl (cy 0, 24, .inl (fun _ => 0))), (a3, .inl (cy 0, 12, .inl (fun _ => 0))), (a4, .inl (cy 0, 12, .inl (fun _ => 0))), (a5, .inl (cy 0, 30, .inl (fun _ => 0))), (a6, .inl (cy 2, 122880, .inl (fun _ => 0))), (a7, .inl (cy 0, 4400, .inl (fun _ => 0))), (a8, .inl (cy 0, 6, .inl (fun _ => 0)))]) _ _ := hL
  refine lv_aload_n hx hb dX9_init_69 rfl (lv_at hl 0 rfl) ?_
  refine lv_bipush (v := (6 : Int32)) hx hb dX9_init_70 (by decide) ?_
  refine L_newa (atype := .int) (ty := .int) (a0 := (6, .inl (fun _ => 0))) (N' := 6) 0 fx hL rfl rfl (fun _ h => h) k_22 (fun _ => rfl) (by decide) rfl (Nat.le_of_ble_eq_true rfl) (Nat.le_of_ble_eq_true rfl) (Nat.le_of_ble_eq_true rfl) dX9_init_72 (fun a9 H hL => ?_)
  replace hL := hL.eq gw_app
  refine L_putF (C := RX9) (T := TX9) (M := 33) (ci := 9) (q0 := p0) (v := .ref a9) (ty := .array .int) fx hL inlX9 rfl tyX9 tyX9_ok nmX9 (gw_at hlen) 12 (by decide) k_109 (fun _ h => h) rfl (hnm.trans rfl) rfl (by decide +kernel) rfl rfl (Nat.le_of_ble_eq_true rfl) dX9_init_74 (fun H locs hL => ?_)
  replace hL := hL.eq (gw_set hlen)
  replace hL : GL D B s (gw ws p0 (h, .inr (9, [.int 0, .ref a1, .int 0, .ref a2, .ref a3, .ref a4, .int 0, .ref a5, .ref a6, .int 0, .ref a7, .ref a8, .ref a9, .null, .null, .null, .null, .null, .int 0, .null, .null, .null, .int 0, .null, .null, .null, .null, .null, .null, .null, .null, .int 0, .int 0])) [(a1, .inl (cy 0, 8, .inl (fun _ => 0))), (a2, .inl (cy 0, 24, .inl (fun _ => 0))), (a3, .inl (cy 0, 12, .inl (fun _ => 0))), (a4, .inl (cy 0, 12, .inl (fun _ => 0))), (a5, .inl (cy 0, 30, .inl (fun _ => 0))), (a6, .inl (cy 2, 122880, .inl (fun _ => 0))), (a7, .inl (cy 0, 4400, .inl (fun _ => 0))), (a8, .inl (cy 0, 6, .inl (fun _ => 0))), (a9, .inl (cy 0, 6, .inl (fun _ => 0)))]) _ _ := hL
  refine lv_aload_n hx hb dX9_init_77 rfl (lv_at hl 0 rfl) ?_
  refine lv_sipush (v := (240 : Int32)) hx hb dX9_init_78 (by decide) ?_
  refine L_newa (atype := .int) (ty := .int) (a0 := (240, .inl (fun _ => 0))) (N' := 240) 0 fx hL rfl rfl (fun _ h => h) k_22 (fun _ => rfl) (by decide) rfl (Nat.le_of_ble_eq_true rfl) (Nat.le_of_ble_eq_true rfl) (Nat.le_of_ble_eq_true rfl) dX9_init_81 (fun a10 H hL => ?_)
  replace hL := hL.eq gw_app
  refine L_putF (C := RX9) (T := TX9) (M := 33) (ci := 9) (q0 := p0) (v := .ref a10) (ty := .array .int) fx hL inlX9 rfl tyX9 tyX9_ok nmX9 (gw_at hlen) 13 (by decide) k_110 (fun _ h => h) rfl (hnm.trans rfl) rfl (by decide +kernel) rfl rfl (Nat.le_of_ble_eq_true rfl) dX9_init_83 (fun H locs hL => ?_)
  replace hL := hL.eq (gw_set hlen)
  replace hL : GL D B s (gw ws p0 (h, .inr (9, [.int 0, .ref a1, .int 0, .ref a2, .ref a3, .ref a4, .int 0, .ref a5, .ref a6, .int 0, .ref a7, .ref a8, .ref a9, .ref a10, .null, .null, .null, .null, .int 0, .null, .null, .null, .int 0, .null, .null, .null, .null, .null, .null, .null, .null, .int 0, .int 0])) [(a1, .inl (cy 0, 8, .inl (fun _ => 0))), (a2, .inl (cy 0, 24, .inl (fun _ => 0))), (a3, .inl (cy 0, 12, .inl (fun _ => 0))), (a4, .inl (cy 0, 12, .inl (fun _ => 0))), (a5, .inl (cy 0, 30, .inl (fun _ => 0))), (a6, .inl (cy 2, 122880, .inl (fun _ => 0))), (a7, .inl (cy 0, 4400, .inl (fun _ => 0))), (a8, .inl (cy 0, 6, .inl (fun _ => 0))), (a9, .inl (cy 0, 6, .inl (fun _ => 0))), (a10, .inl (cy 0, 240, .inl (fun _ => 0)))]) _ _ := hL
  refine lv_aload_n hx hb dX9_init_86 rfl (lv_at hl 0 rfl) ?_
  refine lv_bipush (v := (6 : Int32)) hx hb dX9_init_87 (by decide) ?_
  refine L_newa (atype := .int) (ty := .int) (a0 := (6, .inl (fun _ => 0))) (N' := 6) 0 fx hL rfl rfl (fun _ h => h) k_22 (fun _ => rfl) (by decide) rfl (Nat.le_of_ble_eq_true rfl) (Nat.le_of_ble_eq_true rfl) (Nat.le_of_ble_eq_true rfl) dX9_init_89 (fun a11 H hL => ?_)
  replace hL := hL.eq gw_app
  refine L_putF (C := RX9) (T := TX9) (M := 33) (ci := 9) (q0 := p0) (v := .ref a11) (ty := .array .int) fx hL inlX9 rfl tyX9 tyX9_ok nmX9 (gw_at hlen) 14 (by decide) k_111 (fun _ h => h) rfl (hnm.trans rfl) rfl (by decide +kernel) rfl rfl (Nat.le_of_ble_eq_true rfl) dX9_init_91 (fun H locs hL => ?_)
  replace hL := hL.eq (gw_set hlen)
  replace hL : GL D B s (gw ws p0 (h, .inr (9, [.int 0, .ref a1, .int 0, .ref a2, .ref a3, .ref a4, .int 0, .ref a5, .ref a6, .int 0, .ref a7, .ref a8, .ref a9, .ref a10, .ref a11, .null, .null, .null, .int 0, .null, .null, .null, .int 0, .null, .null, .null, .null, .null, .null, .null, .null, .int 0, .int 0])) [(a1, .inl (cy 0, 8, .inl (fun _ => 0))), (a2, .inl (cy 0, 24, .inl (fun _ => 0))), (a3, .inl (cy 0, 12, .inl (fun _ => 0))), (a4, .inl (cy 0, 12, .inl (fun _ => 0))), (a5, .inl (cy 0, 30, .inl (fun _ => 0))), (a6, .inl (cy 2, 122880, .inl (fun _ => 0))), (a7, .inl (cy 0, 4400, .inl (fun _ => 0))), (a8, .inl (cy 0, 6, .inl (fun _ => 0))), (a9, .inl (cy 0, 6, .inl (fun _ => 0))), (a10, .inl (cy 0, 240, .inl (fun _ => 0))), (a11, .inl (cy 0, 6, .inl (fun _ => 0)))]) _ _ := hL
  refine lv_aload_n hx hb dX9_init_94 rfl (lv_at hl 0 rfl) ?_
  refine lv_bipush (v := (6 : Int32)) hx hb dX9_init_95 (by decide) ?_
  refine L_newa (atype := .int) (ty := .int) (a0 := (6, .inl (fun _ => 0))) (N' := 6) 0 fx hL rfl rfl (fun _ h => h) k_22 (fun _ => rfl) (by decide) rfl (Nat.le_of_ble_eq_true rfl) (Nat.le_of_ble_eq_true rfl) (Nat.le_of_ble_eq_true rfl) dX9_init_97 (fun a12 H hL => ?_)
  replace hL := hL.eq gw_app
  refine L_putF (C := RX9) (T := TX9) (M := 33) (ci := 9) (q0 := p0) (v := .ref a12) (ty := .array .int) fx hL inlX9 rfl tyX9 tyX9_ok nmX9 (gw_at hlen) 15 (by decide) k_112 (fun _ h => h) rfl (hnm.trans rfl) rfl (by decide +kernel) rfl rfl (Nat.le_of_ble_eq_true rfl) dX9_init_99 (fun H locs hL => ?_)
  replace hL := hL.eq (gw_set hlen)
  replace hL : GL D B s (gw ws p0 (h, .inr (9, [.int 0, .ref a1, .int 0, .ref a2, .ref a3, .ref a4, .int 0, .ref a5, .ref a6, .int 0, .ref a7, .ref a8, .ref a9, .ref a10, .ref a11, .ref a12, .null, .null, .int 0, .null, .null, .null, .int 0, .null, .null, .null, .null, .null, .null, .null, .null, .int 0, .int 0])) [(a1, .inl (cy 0, 8, .inl (fun _ => 0))), (a2, .inl (cy 0, 24, .inl (fun _ => 0))), (a3, .inl (cy 0, 12, .inl (fun _ => 0))), (a4, .inl (cy 0, 12, .inl (fun _ => 0))), (a5, .inl (cy 0, 30, .inl (fun _ => 0))), (a6, .inl (cy 2, 122880, .inl (fun _ => 0))), (a7, .inl (cy 0, 4400, .inl (fun _ => 0))), (a8, .inl (cy 0, 6, .inl (fun _ => 0))), (a9, .inl (cy 0, 6, .inl (fun _ => 0))), (a10, .inl (cy 0, 240, .inl (fun _ => 0))), (a11, .inl (cy 0, 6, .inl (fun _ => 0))), (a12, .inl (cy 0, 6, .inl (fun _ => 0)))]) _ _ := hL
  refine lv_aload_n hx hb dX9_init_102 rfl (lv_at hl 0 rfl) ?_
  refine lv_bipush (v := (6 : Int32)) hx hb dX9_init_103 (by decide) ?_
  refine L_newa (atype := .int) (ty := .int) (a0 := (6, .inl (fun _ => 0))) (N' := 6) 0 fx hL rfl rfl (fun _ h => h) k_22 (fun _ => rfl) (by decide) rfl (Nat.le_of_ble_eq_true rfl) (Nat.le_of_ble_eq_true rfl) (Nat.le_of_ble_eq_true rfl) dX9_init_105 (fun a13 H hL => ?_)
  replace hL := hL.eq gw_app
  refine L_putF (C := RX9) (T := TX9) (M := 33) (ci := 9) (q0 := p0) (v := .ref a13) (ty := .array .int) fx hL inlX9 rfl tyX9 tyX9_ok nmX9 (gw_at hlen) 16 (by decide) k_113 (fun _ h => h) rfl (hnm.trans rfl) rfl (by decide +kernel) rfl rfl (Nat.le_of_ble_eq_true rfl) dX9_init_107 (fun H locs hL => ?_)
  replace hL := hL.eq (gw_set hlen)
  replace hL : GL D B s (gw ws p0 (h, .inr (9, [.int 0, .ref a1, .int 0, .ref a2, .ref a3, .ref a4, .int 0, .ref a5, .ref a6, .int 0, .ref a7, .ref a8, .ref a9, .ref a10, .ref a11, .ref a12, .ref a13, .null, .int 0, .null, .null, .null, .int 0, .null, .null, .null, .null, .null, .null, .null, .null, .int 0, .int 0])) [(a1, .inl (cy 0, 8, .inl (fun _ => 0))), (a2, .inl (cy 0, 24, .inl (fun _ => 0))), (a3, .inl (cy 0, 12, .inl (fun _ => 0))), (a4, .inl (cy 0, 12, .inl (fun _ => 0))), (a5, .inl (cy 0, 30, .inl (fun _ => 0))), (a6, .inl (cy 2, 122880, .inl (fun _ => 0))), (a7, .inl (cy 0, 4400, .inl (fun _ => 0))), (a8, .inl (cy 0, 6, .inl (fun _ => 0))), (a9, .inl (cy 0, 6, .inl (fun _ => 0))), (a10, .inl (cy 0, 240, .inl (fun _ => 0))), (a11, .inl (cy 0, 6, .inl (fun _ => 0))), (a12, .inl (cy 0, 6, .inl (fun _ => 0))), (a13, .inl (cy 0, 6, .inl (fun _ => 0)))]) _ _ := hL
  refine lv_aload_n hx hb dX9_init_110 rfl (lv_at hl 0 rfl) ?_
  refine lv_bipush (v := (40 : Int32)) hx hb dX9_init_111 (by decide) ?_
  refine L_newa (atype := .int) (ty := .int) (a0 := (40, .inl (fun _ => 0))) (N' := 40) 0 fx hL rfl rfl (fun _ h => h) k_22 (fun _ => rfl) (by decide) rfl (Nat.le_of_ble_eq_true rfl) (Nat.le_of_ble_eq_true rfl) (Nat.le_of_ble_eq_true rfl) dX9_init_113 (fun a14 H hL => ?_)
  replace hL := hL.eq gw_app
  refine L_putF (C := RX9) (T := TX9) (M := 33) (ci := 9) (q0 := p0) (v := .ref a14) (ty := .array .int) fx hL inlX9 rfl tyX9 tyX9_ok nmX9 (gw_at hlen) 17 (by decide) k_114 (fun _ h => h) rfl (hnm.trans rfl) rfl (by decide +kernel) rfl rfl (Nat.le_of_ble_eq_true rfl) dX9_init_115 (fun H locs hL => ?_)
  replace hL := hL.eq (gw_set hlen)
  replace hL : GL D B s (gw ws p0 (h, .inr (9, [.int 0, .ref a1, .int 0, .ref a2, .ref a3, .ref a4, .int 0, .ref a5, .ref a6, .int 0, .ref a7, .ref a8, .ref a9, .ref a10, .ref a11, .ref a12, .ref a13, .ref a14, .int 0, .null, .null, .null, .int 0, .null, .null, .null, .null, .null, .null, .null, .null, .int 0, .int 0])) [(a1, .inl (cy 0, 8, .inl (fun _ => 0))), (a2, .inl (cy 0, 24, .inl (fun _ => 0))), (a3, .inl (cy 0, 12, .inl (fun _ => 0))), (a4, .inl (cy 0, 12, .inl (fun _ => 0))), (a5, .inl (cy 0, 30, .inl (fun _ => 0))), (a6, .inl (cy 2, 122880, .inl (fun _ => 0))), (a7, .inl (cy 0, 4400, .inl (fun _ => 0))), (a8, .inl (cy 0, 6, .inl (fun _ => 0))), (a9, .inl (cy 0, 6, .inl (fun _ => 0))), (a10, .inl (cy 0, 240, .inl (fun _ => 0))), (a11, .inl (cy 0, 6, .inl (fun _ => 0))), (a12, .inl (cy 0, 6, .inl (fun _ => 0))), (a13, .inl (cy 0, 6, .inl (fun _ => 0))), (a14, .inl (cy 0, 40, .inl (fun _ => 0)))]) _ _ := hL
  refine lv_aload_n hx hb dX9_init_118 rfl (lv_at hl 0 rfl) ?_
  refine lv_bipush (v := (8 : Int32)) hx hb dX9_init_119 (by decide) ?_
  refine L_newa (atype := .int) (ty := .int) (a0 := (8, .inl (fun _ => 0))) (N' := 8) 0 fx hL rfl rfl (fun _ h => h) k_22 (fun _ => rfl) (by decide) rfl (Nat.le_of_ble_eq_true rfl) (Nat.le_of_ble_eq_true rfl) (Nat.le_of_ble_eq_true rfl) dX9_init_121 (fun a15 H hL => ?_)
  replace hL := hL.eq gw_app
  refine L_putF (C := RX9) (T := TX9) (M := 33) (ci := 9) (q0 := p0) (v := .ref a15) (ty := .array .int) fx hL inlX9 rfl tyX9 tyX9_ok nmX9 (gw_at hlen) 19 (by decide) k_115 (fun _ h => h) rfl (hnm.trans rfl) rfl (by decide +kernel) rfl rfl (Nat.le_of_ble_eq_true rfl) dX9_init_123 (fun H locs hL => ?_)
  replace hL := hL.eq (gw_set hlen)
  replace hL : GL D B s (gw ws p0 (h, .inr (9, [.int 0, .ref a1, .int 0, .ref a2, .ref a3, .ref a4, .int 0, .ref a5, .ref a6, .int 0, .ref a7, .ref a8, .ref a9, .ref a10, .ref a11, .ref a12, .ref a13, .ref a14, .int 0, .ref a15, .null, .null, .int 0, .null, .null, .null, .null, .null, .null, .null, .null, .int 0, .int 0])) [(a1, .inl (cy 0, 8, .inl (fun _ => 0))), (a2, .inl (cy 0, 24, .inl (fun _ => 0))), (a3, .inl (cy 0, 12, .inl (fun _ => 0))), (a4, .inl (cy 0, 12, .inl (fun _ => 0))), (a5, .inl (cy 0, 30, .inl (fun _ => 0))), (a6, .inl (cy 2, 122880, .inl (fun _ => 0))), (a7, .inl (cy 0, 4400, .inl (fun _ => 0))), (a8, .inl (cy 0, 6, .inl (fun _ => 0))), (a9, .inl (cy 0, 6, .inl (fun _ => 0))), (a10, .inl (cy 0, 240, .inl (fun _ => 0))), (a11, .inl (cy 0, 6, .inl (fun _ => 0))), (a12, .inl (cy 0, 6, .inl (fun _ => 0))), (a13, .inl (cy 0, 6, .inl (fun _ => 0))), (a14, .inl (cy 0, 40, .inl (fun _ => 0))), (a15, .inl (cy 0, 8, .inl (fun _ => 0)))]) _ _ := hL
  refine lv_aload_n hx hb dX9_init_126 rfl (lv_at hl 0 rfl) ?_
  refine lv_sipush (v := (4096 : Int32)) hx hb dX9_init_127 (by decide) ?_
  refine L_newa (atype := .boolean) (ty := .boolean) (a0 := (4096, .inl (fun _ => 0))) (N' := 4096) 2 fx hL rfl rfl (fun _ h => h) k_105 (fun _ => rfl) (by decide) rfl (Nat.le_of_ble_eq_true rfl) (Nat.le_of_ble_eq_true rfl) (Nat.le_of_ble_eq_true rfl) dX9_init_130 (fun a16 H hL => ?_)
  replace hL := hL.eq gw_app
  refine L_putF (C := RX9) (T := TX9) (M := 33) (ci := 9) (q0 := p0) (v := .ref a16) (ty := .array .boolean) fx hL inlX9 rfl tyX9 tyX9_ok nmX9 (gw_at hlen) 20 (by decide) k_116 (fun _ h => h) rfl (hnm.trans rfl) rfl (by decide +kernel) rfl rfl (Nat.le_of_ble_eq_true rfl) dX9_init_132 (fun H locs hL => ?_)
  replace hL := hL.eq (gw_set hlen)
  replace hL : GL D B s (gw ws p0 (h, .inr (9, [.int 0, .ref a1, .int 0, .ref a2, .ref a3, .ref a4, .int 0, .ref a5, .ref a6, .int 0, .ref a7, .ref a8, .ref a9, .ref a10, .ref a11, .ref a12, .ref a13, .ref a14, .int 0, .ref a15, .ref a16, .null, .int 0, .null, .null, .null, .null, .null, .null, .null, .null, .int 0, .int 0])) [(a1, .inl (cy 0, 8, .inl (fun _ => 0))), (a2, .inl (cy 0, 24, .inl (fun _ => 0))), (a3, .inl (cy 0, 12, .inl (fun _ => 0))), (a4, .inl (cy 0, 12, .inl (fun _ => 0))), (a5, .inl (cy 0, 30, .inl (fun _ => 0))), (a6, .inl (cy 2, 122880, .inl (fun _ => 0))), (a7, .inl (cy 0, 4400, .inl (fun _ => 0))), (a8, .inl (cy 0, 6, .inl (fun _ => 0))), (a9, .inl (cy 0, 6, .inl (fun _ => 0))), (a10, .inl (cy 0, 240, .inl (fun _ => 0))), (a11, .inl (cy 0, 6, .inl (fun _ => 0))), (a12, .inl (cy 0, 6, .inl (fun _ => 0))), (a13, .inl (cy 0, 6, .inl (fun _ => 0))), (a14, .inl (cy 0, 40, .inl (fun _ => 0))), (a15, .inl (cy 0, 8, .inl (fun _ => 0))), (a16, .inl (cy 2, 4096, .inl (fun _ => 0)))]) _ _ := hL
  refine lv_aload_n hx hb dX9_init_135 rfl (lv_at hl 0 rfl) ?_
  refine lv_sipush (v := (4096 : Int32)) hx hb dX9_init_136 (by decide) ?_
  refine L_newa (atype := .boolean) (ty := .boolean) (a0 := (4096, .inl (fun _ => 0))) (N' := 4096) 2 fx hL rfl rfl (fun _ h => h) k_105 (fun _ => rfl) (by decide) rfl (Nat.le_of_ble_eq_true rfl) (Nat.le_of_ble_eq_true rfl) (Nat.le_of_ble_eq_true rfl) dX9_init_139 (fun a17 H hL => ?_)
  replace hL := hL.eq gw_app
  refine L_putF (C := RX9) (T := TX9) (M := 33) (ci := 9) (q0 := p0) (v := .ref a17) (ty := .array .boolean) fx hL inlX9 rfl tyX9 tyX9_ok nmX9 (gw_at hlen) 21 (by decide) k_117 (fun _ h => h) rfl (hnm.trans rfl) rfl (by decide +kernel) rfl rfl (Nat.le_of_ble_eq_true rfl) dX9_init_141 (fun H locs hL => ?_)
  replace hL := hL.eq (gw_set hlen)
  replace hL : GL D B s (gw ws p0 (h, .inr (9, [.int 0, .ref a1, .int 0, .ref a2, .ref a3, .ref a4, .int 0, .ref a5, .ref a6, .int 0, .ref a7, .ref a8, .ref a9, .ref a10, .ref a11, .ref a12, .ref a13, .ref a14, .int 0, .ref a15, .ref a16, .ref a17, .int 0, .null, .null, .null, .null, .null, .null, .null, .null, .int 0, .int 0])) [(a1, .inl (cy 0, 8, .inl (fun _ => 0))), (a2, .inl (cy 0, 24, .inl (fun _ => 0))), (a3, .inl (cy 0, 12, .inl (fun _ => 0))), (a4, .inl (cy 0, 12, .inl (fun _ => 0))), (a5, .inl (cy 0, 30, .inl (fun _ => 0))), (a6, .inl (cy 2, 122880, .inl (fun _ => 0))), (a7, .inl (cy 0, 4400, .inl (fun _ => 0))), (a8, .inl (cy 0, 6, .inl (fun _ => 0))), (a9, .inl (cy 0, 6, .inl (fun _ => 0))), (a10, .inl (cy 0, 240, .inl (fun _ => 0))), (a11, .inl (cy 0, 6, .inl (fun _ => 0))), (a12, .inl (cy 0, 6, .inl (fun _ => 0))), (a13, .inl (cy 0, 6, .inl (fun _ => 0))), (a14, .inl (cy 0, 40, .inl (fun _ => 0))), (a15, .inl (cy 0, 8, .inl (fun _ => 0))), (a16, .inl (cy 2, 4096, .inl (fun _ => 0))), (a17, .inl (cy 2, 4096, .inl (fun _ => 0)))]) _ _ := hL
  refine lv_aload_n hx hb dX9_init_144 rfl (lv_at hl 0 rfl) ?_
  refine lv_sipush (v := (1100 : Int32)) hx hb dX9_init_145 (by decide) ?_
  refine L_newa (atype := .int) (ty := .int) (a0 := (1100, .inl (fun _ => 0))) (N' := 1100) 0 fx hL rfl rfl (fun _ h => h) k_22 (fun _ => rfl) (by decide) rfl (Nat.le_of_ble_eq_true rfl) (Nat.le_of_ble_eq_true rfl) (Nat.le_of_ble_eq_true rfl) dX9_init_148 (fun a18 H hL => ?_)
  replace hL := hL.eq gw_app
  refine L_putF (C := RX9) (T := TX9) (M := 33) (ci := 9) (q0 := p0) (v := .ref a18) (ty := .array .int) fx hL inlX9 rfl tyX9 tyX9_ok nmX9 (gw_at hlen) 23 (by decide) k_118 (fun _ h => h) rfl (hnm.trans rfl) rfl (by decide +kernel) rfl rfl (Nat.le_of_ble_eq_true rfl) dX9_init_150 (fun H locs hL => ?_)
  replace hL := hL.eq (gw_set hlen)
  replace hL : GL D B s (gw ws p0 (h, .inr (9, [.int 0, .ref a1, .int 0, .ref a2, .ref a3, .ref a4, .int 0, .ref a5, .ref a6, .int 0, .ref a7, .ref a8, .ref a9, .ref a10, .ref a11, .ref a12, .ref a13, .ref a14, .int 0, .ref a15, .ref a16, .ref a17, .int 0, .ref a18, .null, .null, .null, .null, .null, .null, .null, .int 0, .int 0])) [(a1, .inl (cy 0, 8, .inl (fun _ => 0))), (a2, .inl (cy 0, 24, .inl (fun _ => 0))), (a3, .inl (cy 0, 12, .inl (fun _ => 0))), (a4, .inl (cy 0, 12, .inl (fun _ => 0))), (a5, .inl (cy 0, 30, .inl (fun _ => 0))), (a6, .inl (cy 2, 122880, .inl (fun _ => 0))), (a7, .inl (cy 0, 4400, .inl (fun _ => 0))), (a8, .inl (cy 0, 6, .inl (fun _ => 0))), (a9, .inl (cy 0, 6, .inl (fun _ => 0))), (a10, .inl (cy 0, 240, .inl (fun _ => 0))), (a11, .inl (cy 0, 6, .inl (fun _ => 0))), (a12, .inl (cy 0, 6, .inl (fun _ => 0))), (a13, .inl (cy 0, 6, .inl (fun _ => 0))), (a14, .inl (cy 0, 40, .inl (fun _ => 0))), (a15, .inl (cy 0, 8, .inl (fun _ => 0))), (a16, .inl (cy 2, 4096, .inl (fun _ => 0))), (a17, .inl (cy 2, 4096, .inl (fun _ => 0))), (a18, .inl (cy 0, 1100, .inl (fun _ => 0)))]) _ _ := hL
  refine lv_aload_n hx hb dX9_init_153 rfl (lv_at hl 0 rfl) ?_
  refine lv_sipush (v := (1100 : Int32)) hx hb dX9_init_154 (by decide) ?_
  refine L_newa (atype := .int) (ty := .int) (a0 := (1100, .inl (fun _ => 0))) (N' := 1100) 0 fx hL rfl rfl (fun _ h => h) k_22 (fun _ => rfl) (by decide) rfl (Nat.le_of_ble_eq_true rfl) (Nat.le_of_ble_eq_true rfl) (Nat.le_of_ble_eq_true rfl) dX9_init_157 (fun a19 H hL => ?_)
  replace hL := hL.eq gw_app
  refine L_putF (C := RX9) (T := TX9) (M := 33) (ci := 9) (q0 := p0) (v := .ref a19) (ty := .array .int) fx hL inlX9 rfl tyX9 tyX9_ok nmX9 (gw_at hlen) 24 (by decide) k_119 (fun _ h => h) rfl (hnm.trans rfl) rfl (by decide +kernel) rfl rfl (Nat.le_of_ble_eq_true rfl) dX9_init_159 (fun H locs hL => ?_)
  replace hL := hL.eq (gw_set hlen)
  replace hL : GL D B s (gw ws p0 (h, .inr (9, [.int 0, .ref a1, .int 0, .ref a2, .ref a3, .ref a4, .int 0, .ref a5, .ref a6, .int 0, .ref a7, .ref a8, .ref a9, .ref a10, .ref a11, .ref a12, .ref a13, .ref a14, .int 0, .ref a15, .ref a16, .ref a17, .int 0, .ref a18, .ref a19, .null, .null, .null, .null, .null, .null, .int 0, .int 0])) [(a1, .inl (cy 0, 8, .inl (fun _ => 0))), (a2, .inl (cy 0, 24, .inl (fun _ => 0))), (a3, .inl (cy 0, 12, .inl (fun _ => 0))), (a4, .inl (cy 0, 12, .inl (fun _ => 0))), (a5, .inl (cy 0, 30, .inl (fun _ => 0))), (a6, .inl (cy 2, 122880, .inl (fun _ => 0))), (a7, .inl (cy 0, 4400, .inl (fun _ => 0))), (a8, .inl (cy 0, 6, .inl (fun _ => 0))), (a9, .inl (cy 0, 6, .inl (fun _ => 0))), (a10, .inl (cy 0, 240, .inl (fun _ => 0))), (a11, .inl (cy 0, 6, .inl (fun _ => 0))), (a12, .inl (cy 0, 6, .inl (fun _ => 0))), (a13, .inl (cy 0, 6, .inl (fun _ => 0))), (a14, .inl (cy 0, 40, .inl (fun _ => 0))), (a15, .inl (cy 0, 8, .inl (fun _ => 0))), (a16, .inl (cy 2, 4096, .inl (fun _ => 0))), (a17, .inl (cy 2, 4096, .inl (fun _ => 0))), (a18, .inl (cy 0, 1100, .inl (fun _ => 0))), (a19, .inl (cy 0, 1100, .inl (fun _ => 0)))]) _ _ := hL
  refine lv_aload_n hx hb dX9_init_162 rfl (lv_at hl 0 rfl) ?_
  refine lv_sipush (v := (1100 : Int32)) hx hb dX9_init_163 (by decide) ?_
  refine L_newa (atype := .int) (ty := .int) (a0 := (1100, .inl (fun _ => 0))) (N' := 1100) 0 fx hL rfl rfl (fun _ h => h) k_22 (fun _ => rfl) (by decide) rfl (Nat.le_of_ble_eq_true rfl) (Nat.le_of_ble_eq_true rfl) (Nat.le_of_ble_eq_true rfl) dX9_init_166 (fun a20 H hL => ?_)
  replace hL := hL.eq gw_app
  refine L_putF (C := RX9) (T := TX9) (M := 33) (ci := 9) (q0 := p0) (v := .ref a20) (ty := .array .int) fx hL inlX9 rfl tyX9 tyX9_ok nmX9 (gw_at hlen) 25 (by decide) k_120 (fun _ h => h) rfl (hnm.trans rfl) rfl (by decide +kernel) rfl rfl (Nat.le_of_ble_eq_true rfl) dX9_init_168 (fun H locs hL => ?_)
  replace hL := hL.eq (gw_set hlen)
  replace hL : GL D B s (gw ws p0 (h, .inr (9, [.int 0, .ref a1, .int 0, .ref a2, .ref a3, .ref a4, .int 0, .ref a5, .ref a6, .int 0, .ref a7, .ref a8, .ref a9, .ref a10, .ref a11, .ref a12, .ref a13, .ref a14, .int 0, .ref a15, .ref a16, .ref a17, .int 0, .ref a18, .ref a19, .ref a20, .null, .null, .null, .null, .null, .int 0, .int 0])) [(a1, .inl (cy 0, 8, .inl (fun _ => 0))), (a2, .inl (cy 0, 24, .inl (fun _ => 0))), (a3, .inl (cy 0, 12, .inl (fun _ => 0))), (a4, .inl (cy 0, 12, .inl (fun _ => 0))), (a5, .inl (cy 0, 30, .inl (fun _ => 0))), (a6, .inl (cy 2, 122880, .inl (fun _ => 0))), (a7, .inl (cy 0, 4400, .inl (fun _ => 0))), (a8, .inl (cy 0, 6, .inl (fun _ => 0))), (a9, .inl (cy 0, 6, .inl (fun _ => 0))), (a10, .inl (cy 0, 240, .inl (fun _ => 0))), (a11, .inl (cy 0, 6, .inl (fun _ => 0))), (a12, .inl (cy 0, 6, .inl (fun _ => 0))), (a13, .inl (cy 0, 6, .inl (fun _ => 0))), (a14, .inl (cy 0, 40, .inl (fun _ => 0))), (a15, .inl (cy 0, 8, .inl (fun _ => 0))), (a16, .inl (cy 2, 4096, .inl (fun _ => 0))), (a17, .inl (cy 2, 4096, .inl (fun _ => 0))), (a18, .inl (cy 0, 1100, .inl (fun _ => 0))), (a19, .inl (cy 0, 1100, .inl (fun _ => 0))), (a20, .inl (cy 0, 1100, .inl (fun _ => 0)))]) _ _ := hL
  refine lv_aload_n hx hb dX9_init_171 rfl (lv_at hl 0 rfl) ?_
  refine lv_sipush (v := (4096 : Int32)) hx hb dX9_init_172 (by decide) ?_
  refine L_newa (atype := .int) (ty := .int) (a0 := (4096, .inl (fun _ => 0))) (N' := 4096) 0 fx hL rfl rfl (fun _ h => h) k_22 (fun _ => rfl) (by decide) rfl (Nat.le_of_ble_eq_true rfl) (Nat.le_of_ble_eq_true rfl) (Nat.le_of_ble_eq_true rfl) dX9_init_175 (fun a21 H hL => ?_)
  replace hL := hL.eq gw_app
  refine L_putF (C := RX9) (T := TX9) (M := 33) (ci := 9) (q0 := p0) (v := .ref a21) (ty := .array .int) fx hL inlX9 rfl tyX9 tyX9_ok nmX9 (gw_at hlen) 26 (by decide) k_121 (fun _ h => h) rfl (hnm.trans rfl) rfl (by decide +kernel) rfl rfl (Nat.le_of_ble_eq_true rfl) dX9_init_177 (fun H locs hL => ?_)
  replace hL := hL.eq (gw_set hlen)
  replace hL : GL D B s (gw ws p0 (h, .inr (9, [.int 0, .ref a1, .int 0, .ref a2, .ref a3, .ref a4, .int 0, .ref a5, .ref a6, .int 0, .ref a7, .ref a8, .ref a9, .ref a10, .ref a11, .ref a12, .ref a13, .ref a14, .int 0, .ref a15, .ref a16, .ref a17, .int 0, .ref a18, .ref a19, .ref a20, .ref a21, .null, .null, .null, .null, .int 0, .int 0])) [(a1, .inl (cy 0, 8, .inl (fun _ => 0))), (a2, .inl (cy 0, 24, .inl (fun _ => 0))), (a3, .inl (cy 0, 12, .inl (fun _ => 0))), (a4, .inl (cy 0, 12, .inl (fun _ => 0))), (a5, .inl (cy 0, 30, .inl (fun _ => 0))), (a6, .inl (cy 2, 122880, .inl (fun _ => 0))), (a7, .inl (cy 0, 4400, .inl (fun _ => 0))), (a8, .inl (cy 0, 6, .inl (fun _ => 0))), (a9, .inl (cy 0, 6, .inl (fun _ => 0))), (a10, .inl (cy 0, 240, .inl (fun _ => 0))), (a11, .inl (cy 0, 6, .inl (fun _ => 0))), (a12, .inl (cy 0, 6, .inl (fun _ => 0))), (a13, .inl (cy 0, 6, .inl (fun _ => 0))), (a14, .inl (cy 0, 40, .inl (fun _ => 0))), (a15, .inl (cy 0, 8, .inl (fun _ => 0))), (a16, .inl (cy 2, 4096, .inl (fun _ => 0))), (a17, .inl (cy 2, 4096, .inl (fun _ => 0))), (a18, .inl (cy 0, 1100, .inl (fun _ => 0))), (a19, .inl (cy 0, 1100, .inl (fun _ => 0))), (a20, .inl (cy 0, 1100, .inl (fun _ => 0))), (a21, .inl (cy 0, 4096, .inl (fun _ => 0)))]) _ _ := hL
  refine lv_aload_n hx hb dX9_init_180 rfl (lv_at hl 0 rfl) ?_
  refine lv_sipush (v := (1100 : Int32)) hx hb dX9_init_181 (by decide) ?_
  refine L_newa (atype := .int) (ty := .int) (a0 := (1100, .inl (fun _ => 0))) (N' := 1100) 0 fx hL rfl rfl (fun _ h => h) k_22 (fun _ => rfl) (by decide) rfl (Nat.le_of_ble_eq_true rfl) (Nat.le_of_ble_eq_true rfl) (Nat.le_of_ble_eq_true rfl) dX9_init_184 (fun a22 H hL => ?_)
  replace hL := hL.eq gw_app
  refine L_putF (C := RX9) (T := TX9) (M := 33) (ci := 9) (q0 := p0) (v := .ref a22) (ty := .array .int) fx hL inlX9 rfl tyX9 tyX9_ok nmX9 (gw_at hlen) 27 (by decide) k_122 (fun _ h => h) rfl (hnm.trans rfl) rfl (by decide +kernel) rfl rfl (Nat.le_of_ble_eq_true rfl) dX9_init_186 (fun H locs hL => ?_)
  replace hL := hL.eq (gw_set hlen)
  replace hL : GL D B s (gw ws p0 (h, .inr (9, [.int 0, .ref a1, .int 0, .ref a2, .ref a3, .ref a4, .int 0, .ref a5, .ref a6, .int 0, .ref a7, .ref a8, .ref a9, .ref a10, .ref a11, .ref a12, .ref a13, .ref a14, .int 0, .ref a15, .ref a16, .ref a17, .int 0, .ref a18, .ref a19, .ref a20, .ref a21, .ref a22, .null, .null, .null, .int 0, .int 0])) [(a1, .inl (cy 0, 8, .inl (fun _ => 0))), (a2, .inl (cy 0, 24, .inl (fun _ => 0))), (a3, .inl (cy 0, 12, .inl (fun _ => 0))), (a4, .inl (cy 0, 12, .inl (fun _ => 0))), (a5, .inl (cy 0, 30, .inl (fun _ => 0))), (a6, .inl (cy 2, 122880, .inl (fun _ => 0))), (a7, .inl (cy 0, 4400, .inl (fun _ => 0))), (a8, .inl (cy 0, 6, .inl (fun _ => 0))), (a9, .inl (cy 0, 6, .inl (fun _ => 0))), (a10, .inl (cy 0, 240, .inl (fun _ => 0))), (a11, .inl (cy 0, 6, .inl (fun _ => 0))), (a12, .inl (cy 0, 6, .inl (fun _ => 0))), (a13, .inl (cy 0, 6, .inl (fun _ => 0))), (a14, .inl (cy 0, 40, .inl (fun _ => 0))), (a15, .inl (cy 0, 8, .inl (fun _ => 0))), (a16, .inl (cy 2, 4096, .inl (fun _ => 0))), (a17, .inl (cy 2, 4096, .inl (fun _ => 0))), (a18, .inl (cy 0, 1100, .inl (fun _ => 0))), (a19, .inl (cy 0, 1100, .inl (fun _ => 0))), (a20, .inl (cy 0, 1100, .inl (fun _ => 0))), (a21, .inl (cy 0, 4096, .inl (fun _ => 0))), (a22, .inl (cy 0, 1100, .inl (fun _ => 0)))]) _ _ := hL
  refine lv_aload_n hx hb dX9_init_189 rfl (lv_at hl 0 rfl) ?_
  refine lv_bipush (v := (40 : Int32)) hx hb dX9_init_190 (by decide) ?_
  refine L_newa (atype := .int) (ty := .int) (a0 := (40, .inl (fun _ => 0))) (N' := 40) 0 fx hL rfl rfl (fun _ h => h) k_22 (fun _ => rfl) (by decide) rfl (Nat.le_of_ble_eq_true rfl) (Nat.le_of_ble_eq_true rfl) (Nat.le_of_ble_eq_true rfl) dX9_init_192 (fun a23 H hL => ?_)
  replace hL := hL.eq gw_app
  refine L_putF (C := RX9) (T := TX9) (M := 33) (ci := 9) (q0 := p0) (v := .ref a23) (ty := .array .int) fx hL inlX9 rfl tyX9 tyX9_ok nmX9 (gw_at hlen) 28 (by decide) k_123 (fun _ h => h) rfl (hnm.trans rfl) rfl (by decide +kernel) rfl rfl (Nat.le_of_ble_eq_true rfl) dX9_init_194 (fun H locs hL => ?_)
  replace hL := hL.eq (gw_set hlen)
  replace hL : GL D B s (gw ws p0 (h, .inr (9, [.int 0, .ref a1, .int 0, .ref a2, .ref a3, .ref a4, .int 0, .ref a5, .ref a6, .int 0, .ref a7, .ref a8, .ref a9, .ref a10, .ref a11, .ref a12, .ref a13, .ref a14, .int 0, .ref a15, .ref a16, .ref a17, .int 0, .ref a18, .ref a19, .ref a20, .ref a21, .ref a22, .ref a23, .null, .null, .int 0, .int 0])) [(a1, .inl (cy 0, 8, .inl (fun _ => 0))), (a2, .inl (cy 0, 24, .inl (fun _ => 0))), (a3, .inl (cy 0, 12, .inl (fun _ => 0))), (a4, .inl (cy 0, 12, .inl (fun _ => 0))), (a5, .inl (cy 0, 30, .inl (fun _ => 0))), (a6, .inl (cy 2, 122880, .inl (fun _ => 0))), (a7, .inl (cy 0, 4400, .inl (fun _ => 0))), (a8, .inl (cy 0, 6, .inl (fun _ => 0))), (a9, .inl (cy 0, 6, .inl (fun _ => 0))), (a10, .inl (cy 0, 240, .inl (fun _ => 0))), (a11, .inl (cy 0, 6, .inl (fun _ => 0))), (a12, .inl (cy 0, 6, .inl (fun _ => 0))), (a13, .inl (cy 0, 6, .inl (fun _ => 0))), (a14, .inl (cy 0, 40, .inl (fun _ => 0))), (a15, .inl (cy 0, 8, .inl (fun _ => 0))), (a16, .inl (cy 2, 4096, .inl (fun _ => 0))), (a17, .inl (cy 2, 4096, .inl (fun _ => 0))), (a18, .inl (cy 0, 1100, .inl (fun _ => 0))), (a19, .inl (cy 0, 1100, .inl (fun _ => 0))), (a20, .inl (cy 0, 1100, .inl (fun _ => 0))), (a21, .inl (cy 0, 4096, .inl (fun _ => 0))), (a22, .inl (cy 0, 1100, .inl (fun _ => 0))), (a23, .inl (cy 0, 40, .inl (fun _ => 0)))]) _ _ := hL
  refine lv_aload_n hx hb dX9_init_197 rfl (lv_at hl 0 rfl) ?_
  refine lv_bipush (v := (40 : Int32)) hx hb dX9_init_198 (by decide) ?_
  refine L_newa (atype := .int) (ty := .int) (a0 := (40, .inl (fun _ => 0))) (N' := 40) 0 fx hL rfl rfl (fun _ h => h) k_22 (fun _ => rfl) (by decide) rfl (Nat.le_of_ble_eq_true rfl) (Nat.le_of_ble_eq_true rfl) (Nat.le_of_ble_eq_true rfl) dX9_init_200 (fun a24 H hL => ?_)
  replace hL := hL.eq gw_app
  refine L_putF (C := RX9) (T := TX9) (M := 33) (ci := 9) (q0 := p0) (v := .ref a24) (ty := .array .int) fx hL inlX9 rfl tyX9 tyX9_ok nmX9 (gw_at hlen) 29 (by decide) k_124 (fun _ h => h) rfl (hnm.trans rfl) rfl (by decide +kernel) rfl rfl (Nat.le_of_ble_eq_true rfl) dX9_init_202 (fun H locs hL => ?_)
  replace hL := hL.eq (gw_set hlen)
  replace hL : GL D B s (gw ws p0 (h, .inr (9, [.int 0, .ref a1, .int 0, .ref a2, .ref a3, .ref a4, .int 0, .ref a5, .ref a6, .int 0, .ref a7, .ref a8, .ref a9, .ref a10, .ref a11, .ref a12, .ref a13, .ref a14, .int 0, .ref a15, .ref a16, .ref a17, .int 0, .ref a18, .ref a19, .ref a20, .ref a21, .ref a22, .ref a23, .ref a24, .null, .int 0, .int 0])) [(a1, .inl (cy 0, 8, .inl (fun _ => 0))), (a2, .inl (cy 0, 24, .inl (fun _ => 0))), (a3, .inl (cy 0, 12, .inl (fun _ => 0))), (a4, .inl (cy 0, 12, .inl (fun _ => 0))), (a5, .inl (cy 0, 30, .inl (fun _ => 0))), (a6, .inl (cy 2, 122880, .inl (fun _ => 0))), (a7, .inl (cy 0, 4400, .inl (fun _ => 0))), (a8, .inl (cy 0, 6, .inl (fun _ => 0))), (a9, .inl (cy 0, 6, .inl (fun _ => 0))), (a10, .inl (cy 0, 240, .inl (fun _ => 0))), (a11, .inl (cy 0, 6, .inl (fun _ => 0))), (a12, .inl (cy 0, 6, .inl (fun _ => 0))), (a13, .inl (cy 0, 6, .inl (fun _ => 0))), (a14, .inl (cy 0, 40, .inl (fun _ => 0))), (a15, .inl (cy 0, 8, .inl (fun _ => 0))), (a16, .inl (cy 2, 4096, .inl (fun _ => 0))), (a17, .inl (cy 2, 4096, .inl (fun _ => 0))), (a18, .inl (cy 0, 1100, .inl (fun _ => 0))), (a19, .inl (cy 0, 1100, .inl (fun _ => 0))), (a20, .inl (cy 0, 1100, .inl (fun _ => 0))), (a21, .inl (cy 0, 4096, .inl (fun _ => 0))), (a22, .inl (cy 0, 1100, .inl (fun _ => 0))), (a23, .inl (cy 0, 40, .inl (fun _ => 0))), (a24, .inl (cy 0, 40, .inl (fun _ => 0)))]) _ _ := hL
  refine lv_aload_n hx hb dX9_init_205 rfl (lv_at hl 0 rfl) ?_
  refine lv_sipush (v := (4400 : Int32)) hx hb dX9_init_206 (by decide) ?_
  refine L_newa (atype := .int) (ty := .int) (a0 := (4400, .inl (fun _ => 0))) (N' := 4400) 0 fx hL rfl rfl (fun _ h => h) k_22 (fun _ => rfl) (by decide) rfl (Nat.le_of_ble_eq_true rfl) (Nat.le_of_ble_eq_true rfl) (Nat.le_of_ble_eq_true rfl) dX9_init_209 (fun a25 H hL => ?_)
  replace hL := hL.eq gw_app
  refine L_putF (C := RX9) (T := TX9) (M := 33) (ci := 9) (q0 := p0) (v := .ref a25) (ty := .array .int) fx hL inlX9 rfl tyX9 tyX9_ok nmX9 (gw_at hlen) 30 (by decide) k_125 (fun _ h => h) rfl (hnm.trans rfl) rfl (by decide +kernel) rfl rfl (Nat.le_of_ble_eq_true rfl) dX9_init_211 (fun H locs hL => ?_)
  replace hL := hL.eq (gw_set hlen)
  replace hL : GL D B s (gw ws p0 (h, .inr (9, [.int 0, .ref a1, .int 0, .ref a2, .ref a3, .ref a4, .int 0, .ref a5, .ref a6, .int 0, .ref a7, .ref a8, .ref a9, .ref a10, .ref a11, .ref a12, .ref a13, .ref a14, .int 0, .ref a15, .ref a16, .ref a17, .int 0, .ref a18, .ref a19, .ref a20, .ref a21, .ref a22, .ref a23, .ref a24, .ref a25, .int 0, .int 0])) [(a1, .inl (cy 0, 8, .inl (fun _ => 0))), (a2, .inl (cy 0, 24, .inl (fun _ => 0))), (a3, .inl (cy 0, 12, .inl (fun _ => 0))), (a4, .inl (cy 0, 12, .inl (fun _ => 0))), (a5, .inl (cy 0, 30, .inl (fun _ => 0))), (a6, .inl (cy 2, 122880, .inl (fun _ => 0))), (a7, .inl (cy 0, 4400, .inl (fun _ => 0))), (a8, .inl (cy 0, 6, .inl (fun _ => 0))), (a9, .inl (cy 0, 6, .inl (fun _ => 0))), (a10, .inl (cy 0, 240, .inl (fun _ => 0))), (a11, .inl (cy 0, 6, .inl (fun _ => 0))), (a12, .inl (cy 0, 6, .inl (fun _ => 0))), (a13, .inl (cy 0, 6, .inl (fun _ => 0))), (a14, .inl (cy 0, 40, .inl (fun _ => 0))), (a15, .inl (cy 0, 8, .inl (fun _ => 0))), (a16, .inl (cy 2, 4096, .inl (fun _ => 0))), (a17, .inl (cy 2, 4096, .inl (fun _ => 0))), (a18, .inl (cy 0, 1100, .inl (fun _ => 0))), (a19, .inl (cy 0, 1100, .inl (fun _ => 0))), (a20, .inl (cy 0, 1100, .inl (fun _ => 0))), (a21, .inl (cy 0, 4096, .inl (fun _ => 0))), (a22, .inl (cy 0, 1100, .inl (fun _ => 0))), (a23, .inl (cy 0, 40, .inl (fun _ => 0))), (a24, .inl (cy 0, 40, .inl (fun _ => 0))), (a25, .inl (cy 0, 4400, .inl (fun _ => 0)))]) _ _ := hL
  refine lv_iconst (v := (0 : Int32)) hx hb dX9_init_214 (by decide) ?_
  refine lv_istore_n (lv' := [(1, .int (0 : Int32)), (0, .ref h)]) hx hb dX9_init_215 rfl hl (by decide) rfl (fun ls hl => ?_)
  refine lv_iload_n hx hb dX9_init_216 rfl (lv_at hl 0 rfl) ?_
  refine lv_bipush (v := (6 : Int32)) hx hb dX9_init_217 (by decide) ?_
  refine lv_icmp_ge (tgt := 235) hx hb dX9_init_219 (by decide) (fun c9 => absurd c9 (by decide)) (fun c9 => ?_)
  clear c9
  refine lv_aload_n hx hb dX9_init_222 rfl (lv_at hl 1 rfl) ?_
  refine L_get (C := RX9) (T := TX9) (M := 33) (ci := 9) (q0 := p0) (v := .ref a8) fx hL inlX9 rfl (gw_at hlen) 11 (by decide) k_108 (fun _ h => h) rfl dX9_init_223 ?_
  refine lv_iload_n hx hb dX9_init_226 rfl (lv_at hl 0 rfl) ?_
  refine lv_iconst (v := (-1 : Int32)) hx hb dX9_init_227 (by decide) ?_
  refine L_iast (q0 := ws.length + 7) (n := 6) (f := fun _ => 0) fx hL (gw_L.trans rfl) (by unfold vp_in; decide) dX9_init_228 (fun H locs hL => ?_)
  replace hL := hL.eq gw_setL
  refine lv_iinc (v := (1 : Int32)) (lv' := [(1, .int (1 : Int32)), (0, .ref h)]) hx hb dX9_init_229 hl (k := 0) rfl (by decide) (by decide) rfl (fun ls hl => ?_)
  refine lv_goto (tgt := 216) hx hb dX9_init_232 (by decide) ?_
  refine lv_iload_n hx hb dX9_init_216 rfl (lv_at hl 0 rfl) ?_
  refine lv_bipush (v := (6 : Int32)) hx hb dX9_init_217 (by decide) ?_
  refine lv_icmp_ge (tgt := 235) hx hb dX9_init_219 (by decide) (fun c9 => absurd c9 (by decide)) (fun c9 => ?_)
  clear c9
  refine lv_aload_n hx hb dX9_init_222 rfl (lv_at hl 1 rfl) ?_
  refine L_get (C := RX9) (T := TX9) (M := 33) (ci := 9) (q0 := p0) (v := .ref a8) fx hL inlX9 rfl (gw_at hlen) 11 (by decide) k_108 (fun _ h => h) rfl dX9_init_223 ?_
  refine lv_iload_n hx hb dX9_init_226 rfl (lv_at hl 0 rfl) ?_
  refine lv_iconst (v := (-1 : Int32)) hx hb dX9_init_227 (by decide) ?_
  refine L_iast (q0 := ws.length + 7) (n := 6) (f := upd (fun _ => 0) 0 (-1 : Int32)) fx hL (gw_L.trans rfl) (by unfold vp_in; decide) dX9_init_228 (fun H locs hL => ?_)
  replace hL := hL.eq gw_setL
  refine lv_iinc (v := (2 : Int32)) (lv' := [(1, .int (2 : Int32)), (0, .ref h)]) hx hb dX9_init_229 hl (k := 0) rfl (by decide) (by decide) rfl (fun ls hl => ?_)
  refine lv_goto (tgt := 216) hx hb dX9_init_232 (by decide) ?_
  refine lv_iload_n hx hb dX9_init_216 rfl (lv_at hl 0 rfl) ?_
  refine lv_bipush (v := (6 : Int32)) hx hb dX9_init_217 (by decide) ?_
  refine lv_icmp_ge (tgt := 235) hx hb dX9_init_219 (by decide) (fun c9 => absurd c9 (by decide)) (fun c9 => ?_)
  clear c9
  refine lv_aload_n hx hb dX9_init_222 rfl (lv_at hl 1 rfl) ?_
  refine L_get (C := RX9) (T := TX9) (M := 33) (ci := 9) (q0 := p0) (v := .ref a8) fx hL inlX9 rfl (gw_at hlen) 11 (by decide) k_108 (fun _ h => h) rfl dX9_init_223 ?_
  refine lv_iload_n hx hb dX9_init_226 rfl (lv_at hl 0 rfl) ?_
  refine lv_iconst (v := (-1 : Int32)) hx hb dX9_init_227 (by decide) ?_
  refine L_iast (q0 := ws.length + 7) (n := 6) (f := upd (upd (fun _ => 0) 0 (-1 : Int32)) 1 (-1 : Int32)) fx hL (gw_L.trans rfl) (by unfold vp_in; decide) dX9_init_228 (fun H locs hL => ?_)
  replace hL := hL.eq gw_setL
  refine lv_iinc (v := (3 : Int32)) (lv' := [(1, .int (3 : Int32)), (0, .ref h)]) hx hb dX9_init_229 hl (k := 0) rfl (by decide) (by decide) rfl (fun ls hl => ?_)
  refine lv_goto (tgt := 216) hx hb dX9_init_232 (by decide) ?_
  refine lv_iload_n hx hb dX9_init_216 rfl (lv_at hl 0 rfl) ?_
  refine lv_bipush (v := (6 : Int32)) hx hb dX9_init_217 (by decide) ?_
  refine lv_icmp_ge (tgt := 235) hx hb dX9_init_219 (by decide) (fun c9 => absurd c9 (by decide)) (fun c9 => ?_)
  clear c9
  refine lv_aload_n hx hb dX9_init_222 rfl (lv_at hl 1 rfl) ?_
  refine L_get (C := RX9) (T := TX9) (M := 33) (ci := 9) (q0 := p0) (v := .ref a8) fx hL inlX9 rfl (gw_at hlen) 11 (by decide) k_108 (fun _ h => h) rfl dX9_init_223 ?_
  refine lv_iload_n hx hb dX9_init_226 rfl (lv_at hl 0 rfl) ?_
  refine lv_iconst (v := (-1 : Int32)) hx hb dX9_init_227 (by decide) ?_
  refine L_iast (q0 := ws.length + 7) (n := 6) (f := upd (upd (upd (fun _ => 0) 0 (-1 : Int32)) 1 (-1 : Int32)) 2 (-1 : Int32)) fx hL (gw_L.trans rfl) (by unfold vp_in; decide) dX9_init_228 (fun H locs hL => ?_)
  replace hL := hL.eq gw_setL
  refine lv_iinc (v := (4 : Int32)) (lv' := [(1, .int (4 : Int32)), (0, .ref h)]) hx hb dX9_init_229 hl (k := 0) rfl (by decide) (by decide) rfl (fun ls hl => ?_)
  refine lv_goto (tgt := 216) hx hb dX9_init_232 (by decide) ?_
  refine lv_iload_n hx hb dX9_init_216 rfl (lv_at hl 0 rfl) ?_
  refine lv_bipush (v := (6 : Int32)) hx hb dX9_init_217 (by decide) ?_
  refine lv_icmp_ge (tgt := 235) hx hb dX9_init_219 (by decide) (fun c9 => absurd c9 (by decide)) (fun c9 => ?_)
  clear c9
  refine lv_aload_n hx hb dX9_init_222 rfl (lv_at hl 1 rfl) ?_
  refine L_get (C := RX9) (T := TX9) (M := 33) (ci := 9) (q0 := p0) (v := .ref a8) fx hL inlX9 rfl (gw_at hlen) 11 (by decide) k_108 (fun _ h => h) rfl dX9_init_223 ?_
  refine lv_iload_n hx hb dX9_init_226 rfl (lv_at hl 0 rfl) ?_
  refine lv_iconst (v := (-1 : Int32)) hx hb dX9_init_227 (by decide) ?_
  refine L_iast (q0 := ws.length + 7) (n := 6) (f := upd (upd (upd (upd (fun _ => 0) 0 (-1 : Int32)) 1 (-1 : Int32)) 2 (-1 : Int32)) 3 (-1 : Int32)) fx hL (gw_L.trans rfl) (by unfold vp_in; decide) dX9_init_228 (fun H locs hL => ?_)
  replace hL := hL.eq gw_setL
  refine lv_iinc (v := (5 : Int32)) (lv' := [(1, .int (5 : Int32)), (0, .ref h)]) hx hb dX9_init_229 hl (k := 0) rfl (by decide) (by decide) rfl (fun ls hl => ?_)
  refine lv_goto (tgt := 216) hx hb dX9_init_232 (by decide) ?_
  refine lv_iload_n hx hb dX9_init_216 rfl (lv_at hl 0 rfl) ?_
  refine lv_bipush (v := (6 : Int32)) hx hb dX9_init_217 (by decide) ?_
  refine lv_icmp_ge (tgt := 235) hx hb dX9_init_219 (by decide) (fun c9 => absurd c9 (by decide)) (fun c9 => ?_)
  clear c9
  refine lv_aload_n hx hb dX9_init_222 rfl (lv_at hl 1 rfl) ?_
  refine L_get (C := RX9) (T := TX9) (M := 33) (ci := 9) (q0 := p0) (v := .ref a8) fx hL inlX9 rfl (gw_at hlen) 11 (by decide) k_108 (fun _ h => h) rfl dX9_init_223 ?_
  refine lv_iload_n hx hb dX9_init_226 rfl (lv_at hl 0 rfl) ?_
  refine lv_iconst (v := (-1 : Int32)) hx hb dX9_init_227 (by decide) ?_
  refine L_iast (q0 := ws.length + 7) (n := 6) (f := upd (upd (upd (upd (upd (fun _ => 0) 0 (-1 : Int32)) 1 (-1 : Int32)) 2 (-1 : Int32)) 3 (-1 : Int32)) 4 (-1 : Int32)) fx hL (gw_L.trans rfl) (by unfold vp_in; decide) dX9_init_228 (fun H locs hL => ?_)
  replace hL := hL.eq gw_setL
  refine lv_iinc (v := (6 : Int32)) (lv' := [(1, .int (6 : Int32)), (0, .ref h)]) hx hb dX9_init_229 hl (k := 0) rfl (by decide) (by decide) rfl (fun ls hl => ?_)
  refine lv_goto (tgt := 216) hx hb dX9_init_232 (by decide) ?_
  refine lv_iload_n hx hb dX9_init_216 rfl (lv_at hl 0 rfl) ?_
  refine lv_bipush (v := (6 : Int32)) hx hb dX9_init_217 (by decide) ?_
  refine lv_icmp_ge (tgt := 235) hx hb dX9_init_219 (by decide) (fun c9 => ?_) (fun c9 => absurd (by decide) c9)
  clear c9
  exact L_vret fx hr hL ⟨a1, a2, a3, a4, a5, a6, a7, a8, a9, a10, a11, a12, a13, a14, a15, a16, a17, a18, a19, a20, a21, a22, a23, a24, a25, rfl⟩ (Nat.le_of_ble_eq_true rfl) (Nat.le_of_ble_eq_true rfl) dX9_init_235
theorem Rk_init : Cond.instanceMethod yX9_init ∈ wsL_law ∧ Cond.initialized yX9_init.cls ∈ wsL_law ∧ Cond.code yX9_init cX9_init 2 none ∈ wsL_law := ⟨k_96, k_5, k_97⟩
theorem Rh_init : yX9_init.cls ≠ "java/lang/invoke/MethodHandle" ∧ yX9_init.cls ≠ "java/lang/invoke/VarHandle" ∧ (parseMethodDescriptor yX9_init.desc).map (fun d => d.parameters.length) = some 0 := by decide +kernel

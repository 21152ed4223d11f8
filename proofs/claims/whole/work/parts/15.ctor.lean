def gw (ws : va_W) (p : Nat) (e : Nat × va_E) (L : va_W) : va_W := ws.set p e ++ L
theorem gw_0 {ws : va_W} {p : Nat} {e : Nat × va_E} (h : ws[p]? = some e) : ws = gw ws p e [] := by
  unfold gw
  rw [List.append_nil]
  apply List.ext_getElem?
  intro j
  by_cases hj : j = p
  · subst hj; rw [h, List.getElem?_set_self (List.getElem?_eq_some_iff.mp h).1]
  · rw [List.getElem?_set_ne (fun z => hj z.symm)]
theorem gw_at {ws : va_W} {p : Nat} {e : Nat × va_E} {L : va_W} (h : p < ws.length) : (gw ws p e L)[p]? = some e := by
  unfold gw
  rw [List.getElem?_append_left (by rw [List.length_set]; exact h), List.getElem?_set_self h]
theorem gw_L {ws : va_W} {p k : Nat} {e : Nat × va_E} {L : va_W} : (gw ws p e L)[ws.length + k]? = L[k]? := by
  unfold gw
  rw [List.getElem?_append_right (by rw [List.length_set]; omega), List.length_set, show ws.length + k - ws.length = k by omega]
theorem gw_set {ws : va_W} {p : Nat} {e e2 : Nat × va_E} {L : va_W} (h : p < ws.length) : (gw ws p e L).set p e2 = gw ws p e2 L := by
  unfold gw
  rw [List.set_append_left _ _ (by rw [List.length_set]; exact h), List.set_set]
theorem gw_setL {ws : va_W} {p k : Nat} {e e2 : Nat × va_E} {L : va_W} : (gw ws p e L).set (ws.length + k) e2 = gw ws p e (L.set k e2) := by
  unfold gw
  rw [List.set_append_right _ _ (by rw [List.length_set]; omega), List.length_set, show ws.length + k - ws.length = k by omega]
theorem gw_app {ws : va_W} {p : Nat} {e x : Nat × va_E} {L : va_W} : gw ws p e L ++ [x] = gw ws p e (L ++ [x]) := by unfold gw; rw [List.append_assoc]
theorem gw_app2 {ws : va_W} {p : Nat} {e x : Nat × va_E} {L L2 : va_W} : (gw ws p e L ++ [x]) ++ L2 = gw ws p e (L ++ x :: L2) := by unfold gw; rw [List.append_assoc, List.append_assoc]; rfl
theorem GL.eq {D : va_G} {B : Nat} {s : State} {w1 w2 : va_W} {H : Heap} {locs : List Loc} (h : GL D B s w1 H locs) (e : w1 = w2) : GL D B s w2 H locs := e ▸ h
/-! Arrays.fill(int[], int) in such a world -/
def fi9 (n : Nat) (v : Int32) (f : Nat → Int32) : Nat → Int32 := fun j => if j < n then v else f j
theorem fi9_s {v : Int32} {f : Nat → Int32} {i : Nat} : upd (fi9 i v f) i v = fi9 (i + 1) v f := by
  funext j
  unfold upd fi9
  by_cases h : j = i
  · rw [if_pos h, if_pos (by omega)]
  · by_cases h2 : j < i
    · rw [if_neg h, if_pos h2, if_pos (by omega)]
    · rw [if_neg h, if_neg h2, if_neg (by omega)]
theorem fi9_0 {v : Int32} {f : Nat → Int32} : fi9 0 v f = f := by funext j; unfold fi9; rw [if_neg (by omega)]
abbrev Frm_fill : Room := { frames := 0, cells := 0, slots := 0, locals := 0 }
set_option maxRecDepth 100000 in
set_option maxHeartbeats 4000000 in
theorem F_fill (l : Launch) {D : va_G} {cy : Nat → ClassId} {B : Nat} (ws : va_W) (p0 a n : Nat) (f : Nat → Int32) (v : Int32) (he : ws[p0]? = some (a, .inl (cy 0, n, .inl f))) (hn : n < 2 ^ 31) :
    CM l yJ7_fill_53178 cJ7_fill_53178 4 Frm_fill D cy B [.ref a, .int v] ws (fun w => w = ws.set p0 (a, .inl (cy 0, n, .inl (fi9 n v f)))) 0 0 := by
  refine c_start RJ7 rfl (by decide) (Nat.le_of_ble_eq_true rfl) ?_
  intro p e s m args below meth c fx hnm ex hr hL ls hl
  have hx := fx.1
  have hb := fx.2.1
  have hl : lv_has ls 4 [(0, .ref a), (1, .int v)] := hl
  have hlen : p0 < ws.length := (List.getElem?_eq_some_iff.mp he).1
  refine lv_iconst (v := (0 : Int32)) hx hb dJ7_fill_53178_0 (by decide) ?_
  refine lv_istore_n (lv' := [(2, .int (0 : Int32)), (0, .ref a), (1, .int v)]) hx hb dJ7_fill_53178_1 rfl hl (by decide) rfl (fun ls hl => ?_)
  refine lv_aload_n hx hb dJ7_fill_53178_2 rfl (lv_at hl 1 rfl) ?_
  refine va_alen (x := (n, .inl f)) (ty := .int) fx.1 fx.2.1 fx.2.2.2.2.2.1 hL.1 p0 0 he rfl rfl dJ7_fill_53178_3 ?_
  refine lv_istore_n (lv' := [(3, .int (Int32.ofNat n)), (2, .int (0 : Int32)), (0, .ref a), (1, .int v)]) hx hb dJ7_fill_53178_4 rfl hl (by decide) rfl (fun ls hl => ?_)
  have key : ∀ (k i : Nat), i ≤ n → n - i = k → ∀ (H : Heap) (locs : List Loc) (ls : Array Slot), GL D B s (ws.set p0 (a, .inl (cy 0, n, .inl (fi9 i v f)))) H locs → lv_has ls 4 [(0, .ref a), (1, .int v), (2, .int (nI i)), (3, .int (Int32.ofNat n))] →
      W p l e Frm_fill s m args below meth c H locs 0 0 (MQ below (CQ D B (fun w => w = ws.set p0 (a, .inl (cy 0, n, .inl (fi9 n v f))))) args s 0 0 (fun x => B ≤ x)) (F0 m 5 ls []) := by
    intro k
    induction k with
    | zero =>
      intro i hi hk H locs ls hL hl
      have hin : i = n := by omega
      subst hin
      refine lv_iload_n hx hb dJ7_fill_53178_5 rfl (lv_at hl 2 rfl) ?_
      refine lv_iload_n hx hb dJ7_fill_53178_6 rfl (lv_at hl 3 rfl) ?_
      refine lv_icmp_ge (tgt := 20) hx hb dJ7_fill_53178_7 (by decide) (fun c9 => ?_) (fun c9 => ?_)
      · exact L_vret fx hr hL rfl (Nat.le_refl _) (Nat.le_refl _) dJ7_fill_53178_20
      · exact absurd (nI_le (Nat.le_refl _) hn) c9
    | succ k ih =>
      intro i hi hk H locs ls hL hl
      have hin : i < n := by omega
      refine lv_iload_n hx hb dJ7_fill_53178_5 rfl (lv_at hl 2 rfl) ?_
      refine lv_iload_n hx hb dJ7_fill_53178_6 rfl (lv_at hl 3 rfl) ?_
      refine lv_icmp_ge (tgt := 20) hx hb dJ7_fill_53178_7 (by decide) (fun c9 => ?_) (fun c9 => ?_)
      · exact absurd c9 (nI_ge hin hn)
      · refine lv_aload_n hx hb dJ7_fill_53178_10 rfl (lv_at hl 0 rfl) ?_
        refine lv_iload_n hx hb dJ7_fill_53178_11 rfl (lv_at hl 2 rfl) ?_
        refine lv_iload_n hx hb dJ7_fill_53178_12 rfl (lv_at hl 1 rfl) ?_
        refine L_iast (n := n) (f := fi9 i v f) fx hL (List.getElem?_set_self hlen) (vp_in_nI hin hn) dJ7_fill_53178_13 (fun H locs hL => ?_)
        rw [List.set_set, nI_clamp (Nat.lt_trans hin hn), fi9_s] at hL
        refine lv_iinc (v := nI (i + 1)) (lv' := [(2, .int (nI (i + 1))), (0, .ref a), (1, .int v), (3, .int (Int32.ofNat n))]) hx hb dJ7_fill_53178_14 hl (k := 2) rfl (nI_1 i) (by decide) rfl (fun ls hl => ?_)
        refine lv_goto (tgt := 5) hx hb dJ7_fill_53178_17 (by decide) ?_
        exact ih (i + 1) (by omega) (by omega) H locs ls hL (lv_sub hl [1, 2, 0, 3] rfl)
  have h0 : ws = ws.set p0 (a, .inl (cy 0, n, .inl (fi9 0 v f))) := by
    rw [fi9_0]
    have h9 := gw_0 he
    unfold gw at h9
    rw [List.append_nil] at h9
    exact h9
  exact key n 0 (Nat.zero_le _) (by omega) _ _ ls (hL.eq h0) (lv_sub hl [2, 3, 1, 0] rfl)
section LCALLS
variable {p : Program} {l : Launch} {e : Env} {R : Room} {s : State} {m : MethodId} {args : Array Value} {below : List Frame} {meth : Method} {c : Code} {H : Heap} {locs : List Loc} {cells slots : Nat} {Q : State → Prop}
variable {cc : ByteArray} {nL pc : Nat} {own : String} {ls : Array Slot} {rest st0 : List Value} {D : va_G} {cy : Nat → ClassId} {B : Nat} {ws : va_W}
theorem L_callS {y : MethodName} {b : ByteArray} {n n' : Nat} {rm : Room} {idx : Nat} {As : List Value} {Φ : va_W → Prop}
    (fx : FX p s m args meth c cc nL own D cy) (ex : EX s) (hL : GL D B s ws H locs) (hM : CM l y b n rm D cy B As ws Φ 0 0)
    (h1 : Cond.methodLink own idx y ∈ wsL_law) (h2 : Cond.static y ∈ wsL_law ∧ Cond.initialized y.cls ∈ wsL_law ∧ Cond.code y b n none ∈ wsL_law)
    (hd : y.cls ≠ "java/lang/invoke/MethodHandle" ∧ y.cls ≠ "java/lang/invoke/VarHandle" ∧ (parseMethodDescriptor y.desc).map (fun d => d.parameters.length) = some n')
    (hr0 : rm.cells = 0 ∧ rm.slots = 0) (hR : rm.frames + 1 ≤ R.frames ∧ 8 + (n + 11) + rm.locals ≤ R.locals) (hf : cells ≤ R.cells ∧ slots ≤ R.slots)
    (hn : As.length = n') (hl : ls.size = nL) (hst : st0 = As.reverse ++ rest) (hrest : (rest.map fun v => v.category).sum ≤ 8) (hdg : decode cc pc = .ok (.invokestatic idx, 3))
    (kk : ∀ (ws1 : va_W) (H1 : Heap) (locs1 : List Loc), Φ ws1 → GL D B s ws1 H1 locs1 → W p l e R s m args below meth c H1 locs1 cells slots Q (F0 m (pc + 3) ls rest)) : W p l e R s m args below meth c H locs cells slots Q (F0 m pc ls st0) := by
  obtain ⟨hx, hb, hml, hown, hts, hK, -⟩ := fx
  exact L_run (len := 3) (va_runS (Ts := wsL_law) (As := As) (n := n') (rest := rest) ⟨hx, hb, hml, hown, hts⟩ hM (va_cwS n' hts (gT1 h1 (gT1 h2.1 (gT1 h2.2.1 (gT1 h2.2.2 gT)))) rfl hr0.1 hr0.2 hd hR) ⟨c_blind, fun U hU hW => ⟨rfl, by rw [hU]; exact Nat.le_trans hL.2.2.2 hL.2.2.1.1, by rw [hU]; exact hL.1, va_K.moved hW.alike hK, hL.2.1, ex.moved hW⟩⟩ rfl hn hl hst (lv_room hrest) hdg hf) hL kk
end LCALLS

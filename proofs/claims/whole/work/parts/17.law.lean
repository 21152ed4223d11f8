def R_law : String := "WayBookLaw"
/-- the two objects, side by side, all above the law's start; nothing below was written -/
def LC (D : va_G) (cy : Nat → ClassId) (q qr : Nat → Nat) (s : State) (σ : DS) (τ : RS) (H : Heap) (locs : List Loc) : Prop :=
  va_P D vwCl (dW cy q σ ++ rW cy qr τ) H ∧ va_D (fun x => s.heap.size ≤ x) (dW cy q σ ++ rW cy qr τ) ∧ va_S (fun x => s.heap.size ≤ x) s.heap H locs
/-- the static rows, at the law's start: all its cells are old -/
def SB (s : State) : Prop := ∀ ad : List Nat, (∀ x ∈ ad, s.heap.size ≤ x) → SX ad s
def lad (cy : Nat → ClassId) (q qr : Nat → Nat) (σ : DS) (τ : RS) : List Nat := (dW cy q σ ++ rW cy qr τ).map (·.1)
theorem lad_ge {A : Nat → Prop} {ws : va_W} (h : va_D A ws) : ∀ x ∈ ws.map (·.1), A x := by
  intro x hx
  obtain ⟨y, hy, rfl⟩ := List.mem_map.mp hx
  obtain ⟨k, hk⟩ := List.getElem?_of_mem hy
  exact h.2 k y hk
theorem lad_D {A : Nat → Prop} {ws : va_W} (h : va_D A ws) : va_D (fun x => x ∈ ws.map (·.1)) ws := ⟨h.1, fun k x hk => List.mem_map.mpr ⟨x, List.mem_of_getElem? hk, rfl⟩⟩
theorem lg_self (x : Int64) : lg_cmp x x = 0 := by
  unfold lg_cmp
  have h : ¬ x < x := by rw [Int64.lt_iff_toInt_lt]; omega
  simp [h]
section LAWROWS
variable {p : Program} {l : Launch} {e : Env} {R : Room} {s : State} {m : MethodId} {args : Array Value} {below : List Frame} {meth : Method} {c : Code} {H : Heap} {locs : List Loc} {cells slots : Nat} {Q : State → Prop}
variable {cc : ByteArray} {nL pc : Nat} {own : String} {ls : Array Slot} {rest st0 : List Value} {D : va_G} {cy : Nat → ClassId} {q qr : Nat → Nat} {σ σ' : DS} {τ τ' : RS}
theorem l_run {σ0 : Type} {wd : σ0 → va_W} {u' : σ0} {ws ws' : va_W} {F : Nat → Prop} {a : Array Value} {res : Option Value} {mc ms : Nat} {Qc : Array Value → State → Outcome → State → Prop} (hr : va_Run p l e R s m args below meth c H locs cells slots mc ms (F0 m pc ls st0) rest (Qc a) F)
    (hQ : ∀ (st : State) (oc : Outcome) (t : State), Qc a st oc t → (oc = .returned res ∧ va_P D vwCl ws' t.heap) ∧ va_F F st t) (hD' : va_D (fun x => s.heap.size ≤ x) ws') (hS : va_S (fun x => s.heap.size ≤ x) s.heap H locs) (hF : ∀ x, F x → s.heap.size ≤ x)
    (kk : ∀ (H1 : Heap) (locs1 : List Loc), va_P D vwCl ws' H1 → va_S (fun x => s.heap.size ≤ x) s.heap H1 locs1 → W p l e R s m args below meth c H1 locs1 (cells + mc) (slots + ms) Q (F0 m (pc + 3) ls (res.toList ++ rest))) : W p l e R s m args below meth c H locs cells slots Q (F0 m pc ls st0) := by
  intro T hT X
  obtain ⟨v, st₀, t, T', L, h0, X', hL, e1, e2, hq, st⟩ := hr T hT X
  obtain ⟨⟨hv, hp⟩, hz, hk⟩ := hQ _ _ _ hq
  cases hv
  rw [h0] at hz hk
  obtain ⟨t2, a1, b1⟩ := kk T'.heap (locs ++ L) (by rw [e1]; exact hp) ⟨Nat.le_trans hS.1 (by rw [e1]; exact hz), fun x h1 h2 => by rw [e1, hk x (Nat.lt_of_lt_of_le h1 hS.1) (fun z => h2 (hF x z))]; exact hS.2.1 x h1 h2, fun x hx => by
      rcases List.mem_append.mp hx with h | h
      · exact hS.2.2 x h
      · exact hF _ (hL x h)⟩ T' rfl X'
  exact ⟨t2, st t2 a1, b1⟩
theorem l_callD {y : MethodName} {b : ByteArray} {n n' : Nat} {ret : Option FieldType} {rm : Room} {idx : Nat} {As : List Value} {res : Option Value}
    (fx : FX p s m args meth c cc nL own D cy) (sb : SB s) (hC : LC D cy q qr s σ τ H locs) (hM : DM l y b n ret rm D cy (dwd cy q (rW cy qr τ)) (lad cy q qr σ τ) (.ref (q 0) :: As) σ res σ')
    (h1 : Cond.methodLink own idx y ∈ wsL_law) (h2 : Cond.instanceMethod y ∈ wsL_law ∧ Cond.selects RX8 y y ∈ wsL_law ∧ Cond.initialized RX8 ∈ wsL_law ∧ Cond.code y b n ret ∈ wsL_law)
    (hd : y.cls = RX8 ∧ y.cls ≠ "java/lang/invoke/MethodHandle" ∧ y.cls ≠ "java/lang/invoke/VarHandle" ∧ (parseMethodDescriptor y.desc).map (fun d => d.parameters.length) = some n')
    (hr0 : rm.cells = 0 ∧ rm.slots = 0) (hR : rm.frames + 1 ≤ R.frames ∧ 8 + (n + 11) + rm.locals ≤ R.locals) (hf : cells ≤ R.cells ∧ slots ≤ R.slots)
    (hn : As.length = n') (hl : ls.size = nL) (hst : st0 = As.reverse ++ .ref (q 0) :: rest) (hrest : (rest.map fun v => v.category).sum ≤ 8) (hdg : decode cc pc = .ok (.invokevirtual idx, 3))
    (kk : ∀ (H1 : Heap) (locs1 : List Loc), LC D cy q qr s σ' τ H1 locs1 → W p l e R s m args below meth c H1 locs1 cells slots Q (F0 m (pc + 3) ls (res.toList ++ rest))) : W p l e R s m args below meth c H locs cells slots Q (F0 m pc ls st0) := by
  obtain ⟨hx, hb, hml, hown, hts, hK, -⟩ := fx
  obtain ⟨hP, hD, hS⟩ := hC
  have hD' : va_D (fun x => s.heap.size ≤ x) (dW cy q σ' ++ rW cy qr τ) := g_D (dw_w (cy := cy) (q := q) (X := rW cy qr τ) σ' σ) hD
  have hF : ∀ x, x ∈ lad cy q qr σ τ → s.heap.size ≤ x := lad_ge hD
  refine l_run (σ0 := DS) (wd := dwd cy q (rW cy qr τ)) (u' := σ') (ws := []) (ws' := dW cy q σ' ++ rW cy qr τ) (F := fun x => x ∈ lad cy q qr σ τ) (res := res) (Qc := GQ D (dwd cy q (rW cy qr τ)) (lad cy q qr σ τ) res σ') (va_runV (Ts := wsL_law) (As := As) (n := n') (rest := rest) (b := q 0) (C := RX8) ⟨hx, hb, hml, hown, hts⟩ hM (cwV n' hts (gT1 h1 (gT1 h2.1 (gT1 h2.2.1 (gT1 h2.2.2.1 (gT1 h2.2.2.2 gT))))) rfl hr0.1 hr0.2 hd hR) ⟨d_blind, va_recv (ci := 8) (q := (RX8, TX8, 12)) hK hP rfl (O_at O8), fun U hU hW => ⟨⟨rfl, by rw [hU]; exact hP, va_K.moved hW.alike hK, lad_D hD⟩, (sb _ hF).to hW (fun a h9 _ => by rw [hU]; exact hS.2.1 a h9 (Nat.not_le.mpr h9))⟩⟩ rfl hn hl hst (lv_room hrest) hdg hf) (fun st oc t h => h) hD' hS hF (fun H1 l1 h1 h2 => kk H1 l1 ⟨h1, hD', h2⟩)
theorem l_callR {y : MethodName} {b : ByteArray} {n n' : Nat} {ret : Option FieldType} {rm : Room} {idx : Nat} {As : List Value} {res : Option Value}
    (fx : FX p s m args meth c cc nL own D cy) (hC : LC D cy q qr s σ τ H locs) (hM : GM l y b n ret rm D cy (rwd cy qr (dW cy q σ)) (lad cy q qr σ τ) (.ref (qr 0) :: As) τ res τ')
    (h1 : Cond.methodLink own idx y ∈ wsL_law) (h2 : Cond.instanceMethod y ∈ wsL_law ∧ Cond.selects RX9 y y ∈ wsL_law ∧ Cond.initialized RX9 ∈ wsL_law ∧ Cond.code y b n ret ∈ wsL_law)
    (hd : y.cls = RX9 ∧ y.cls ≠ "java/lang/invoke/MethodHandle" ∧ y.cls ≠ "java/lang/invoke/VarHandle" ∧ (parseMethodDescriptor y.desc).map (fun d => d.parameters.length) = some n')
    (hr0 : rm.cells = 0 ∧ rm.slots = 0) (hR : rm.frames + 1 ≤ R.frames ∧ 8 + (n + 11) + rm.locals ≤ R.locals) (hf : cells ≤ R.cells ∧ slots ≤ R.slots)
    (hn : As.length = n') (hl : ls.size = nL) (hst : st0 = As.reverse ++ .ref (qr 0) :: rest) (hrest : (rest.map fun v => v.category).sum ≤ 8) (hdg : decode cc pc = .ok (.invokevirtual idx, 3))
    (kk : ∀ (H1 : Heap) (locs1 : List Loc), LC D cy q qr s σ τ' H1 locs1 → W p l e R s m args below meth c H1 locs1 cells slots Q (F0 m (pc + 3) ls (res.toList ++ rest))) : W p l e R s m args below meth c H locs cells slots Q (F0 m pc ls st0) := by
  obtain ⟨hx, hb, hml, hown, hts, hK, -⟩ := fx
  obtain ⟨hP, hD, hS⟩ := hC
  have hPr : va_P D vwCl (rW cy qr τ ++ dW cy q σ) H := va_P.swap (a := []) hP
  have hDr : va_D (fun x => s.heap.size ≤ x) (rW cy qr τ ++ dW cy q σ) := va_D.swap (a := []) hD
  have hDr' : va_D (fun x => s.heap.size ≤ x) (rW cy qr τ' ++ dW cy q σ) := g_D (rw_w (cy := cy) (q := qr) (X := dW cy q σ) τ' τ) hDr
  have hD' : va_D (fun x => s.heap.size ≤ x) (dW cy q σ ++ rW cy qr τ') := va_D.swap (a := []) hDr'
  have hF : ∀ x, x ∈ lad cy q qr σ τ → s.heap.size ≤ x := lad_ge hD
  have hDa : va_D (fun x => x ∈ lad cy q qr σ τ) (rW cy qr τ ++ dW cy q σ) := va_D.swap (a := []) (lad_D hD)
  refine l_run (σ0 := RS) (wd := rwd cy qr (dW cy q σ)) (u' := τ') (ws := []) (ws' := rW cy qr τ' ++ dW cy q σ) (F := fun x => x ∈ lad cy q qr σ τ) (res := res) (Qc := GQ D (rwd cy qr (dW cy q σ)) (lad cy q qr σ τ) res τ') (va_runV (Ts := wsL_law) (As := As) (n := n') (rest := rest) (b := qr 0) (C := RX9) ⟨hx, hb, hml, hown, hts⟩ hM (cwV n' hts (gT1 h1 (gT1 h2.1 (gT1 h2.2.1 (gT1 h2.2.2.1 (gT1 h2.2.2.2 gT))))) rfl hr0.1 hr0.2 hd hR) ⟨g_blind, va_recv (ci := 9) (q0 := 0) (q := (RX9, TX9, 33)) hK hPr rfl rfl, fun U hU hW => ⟨rfl, by rw [hU]; exact hPr, va_K.moved hW.alike hK, hDa⟩⟩ rfl hn hl hst (lv_room hrest) hdg hf) (fun st oc t h => h) hDr' hS hF (fun H1 l1 h1 h2 => kk H1 l1 ⟨va_P.swap (a := []) h1, hD', h2⟩)
theorem l_callA {y : MethodName} {b : ByteArray} {n n' : Nat} {ret : Option FieldType} {rm : Room} {idx : Nat} {As : List Value} {res : Option Value}
    (fx : FX p s m args meth c cc nL own D cy) (sb : SB s) (hC : LC D cy q qr s σ τ H locs) (hM : DMa l y b n ret rm D cy q (rW cy qr τ) (lad cy q qr σ τ) H.size (.ref (q 0) :: As) σ res σ')
    (h1 : Cond.methodLink own idx y ∈ wsL_law) (h2 : Cond.instanceMethod y ∈ wsL_law ∧ Cond.selects RX8 y y ∈ wsL_law ∧ Cond.initialized RX8 ∈ wsL_law ∧ Cond.code y b n ret ∈ wsL_law)
    (hd : y.cls = RX8 ∧ y.cls ≠ "java/lang/invoke/MethodHandle" ∧ y.cls ≠ "java/lang/invoke/VarHandle" ∧ (parseMethodDescriptor y.desc).map (fun d => d.parameters.length) = some n')
    (hr0 : rm.cells = 1 ∧ rm.slots = 8) (hR : rm.frames + 1 ≤ R.frames ∧ 8 + (n + 11) + rm.locals ≤ R.locals) (hf : cells + 1 ≤ R.cells ∧ slots + 8 ≤ R.slots)
    (hn : As.length = n') (hl : ls.size = nL) (hst : st0 = As.reverse ++ .ref (q 0) :: rest) (hrest : (rest.map fun v => v.category).sum ≤ 8) (hdg : decode cc pc = .ok (.invokevirtual idx, 3))
    (kk : ∀ (H1 : Heap) (locs1 : List Loc), LC D cy q qr s σ' τ H1 locs1 → W p l e R s m args below meth c H1 locs1 (cells + 1) (slots + 8) Q (F0 m (pc + 3) ls (res.toList ++ rest))) : W p l e R s m args below meth c H locs cells slots Q (F0 m pc ls st0) := by
  obtain ⟨hx, hb, hml, hown, hts, hK, -⟩ := fx
  obtain ⟨hP, hD, hS⟩ := hC
  have hD' : va_D (fun x => s.heap.size ≤ x) (dW cy q σ' ++ rW cy qr τ) := g_D (dw_w (cy := cy) (q := q) (X := rW cy qr τ) σ' σ) hD
  have hF : ∀ x, x ∈ lad cy q qr σ τ → s.heap.size ≤ x := lad_ge hD
  have hF2 : ∀ x, (x ∈ lad cy q qr σ τ ∨ H.size ≤ x) → s.heap.size ≤ x := fun x h => h.elim (hF x) (Nat.le_trans hS.1)
  have hbl : FrameBlind (fun v U => DP D cy (dwd cy q (rW cy qr τ)) (lad cy q qr σ τ) (.ref (q 0) :: As) σ v U ∧ U.heap.size = H.size) := fun a U g mk h => ⟨d_blind a U g mk h.1, h.2⟩
  refine l_run (σ0 := DS) (wd := dwd cy q (rW cy qr τ)) (u' := σ') (ws := []) (ws' := dW cy q σ' ++ rW cy qr τ) (F := fun x => x ∈ lad cy q qr σ τ ∨ H.size ≤ x) (res := res) (Qc := DQa D cy q (rW cy qr τ) (lad cy q qr σ τ) H.size res σ') (va_runV (Ts := wsL_law) (As := As) (n := n') (rest := rest) (b := q 0) (C := RX8) ⟨hx, hb, hml, hown, hts⟩ hM (cwV n' hts (gT1 h1 (gT1 h2.1 (gT1 h2.2.1 (gT1 h2.2.2.1 (gT1 h2.2.2.2 gT))))) rfl hr0.1 hr0.2 hd hR) ⟨hbl, va_recv (ci := 8) (q := (RX8, TX8, 12)) hK hP rfl (O_at O8), fun U hU hW => ⟨⟨⟨rfl, by rw [hU]; exact hP, va_K.moved hW.alike hK, lad_D hD⟩, (sb _ hF).to hW (fun a h9 _ => by rw [hU]; exact hS.2.1 a h9 (Nat.not_le.mpr h9))⟩, by rw [hU]⟩⟩ rfl hn hl hst (lv_room hrest) hdg hf) (fun st oc t h => h) hD' hS hF2 (fun H1 l1 h1 h2 => kk H1 l1 ⟨h1, hD', h2⟩)
end LAWROWS
def bl (x : Int32) : Int32 := if x = 0 then 0 else 1
theorem bl_01 (x : Int32) : bl x = 0 ∨ bl x = 1 := by
  unfold bl
  split
  · exact Or.inl rfl
  · exact Or.inr rfl
theorem l_bool {p : Program} {l : Launch} {e : Env} {R : Room} {s : State} {m : MethodId} {args : Array Value} {below : List Frame} {meth : Method} {c : Code} {H : Heap} {locs : List Loc} {cells slots : Nat} {Q : State → Prop} {cc : ByteArray} {pc : Nat} {ls : Array Slot} {rest : List Value} {x : Int32}
    (hx : p.tables.exec = Jvm.exec) (hb : c.code = cc) (h1 : decode cc pc = .ok (.ifCond .eq 7, 3)) (h2 : decode cc (pc + 3) = .ok (.iconst 1, 1)) (h3 : decode cc (pc + 4) = .ok (.goto 4, 3)) (h4 : decode cc (pc + 7) = .ok (.iconst 0, 1))
    (kk : W p l e R s m args below meth c H locs cells slots Q (F0 m (pc + 8) ls (.int (bl x) :: rest))) : W p l e R s m args below meth c H locs cells slots Q (F0 m pc ls (.int x :: rest)) := by
  refine lv_if_eq (tgt := pc + 7) hx hb h1 (by omega) (fun c0 => ?_) (fun c0 => ?_)
  · refine lv_iconst (v := (0 : Int32)) hx hb h4 (by decide) ?_
    rw [bl, if_pos c0] at kk
    exact kk
  · refine lv_iconst (v := (1 : Int32)) hx hb h2 (by decide) ?_
    refine lv_goto (tgt := pc + 8) hx hb h3 (by omega) ?_
    rw [bl, if_neg c0] at kk
    exact kk

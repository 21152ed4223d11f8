theorem KL_8 : Cond.classLink RL 7 RX8 ∈ wsL_law := kc_1 _ (List.mem_of_getElem? (i := 0) rfl)
theorem KL_8i : Cond.instantiable RX8 12 ∈ wsL_law := kc_1 _ (List.mem_of_getElem? (i := 1) rfl)
theorem KL_8n : Cond.initialized RX8 ∈ wsL_law := kc_1 _ (List.mem_of_getElem? (i := 2) rfl)
theorem KL_8m : Cond.methodLink RL 9 yX8_init ∈ wsL_law := kc_1 _ (List.mem_of_getElem? (i := 6) rfl)
theorem KL_9 : Cond.classLink RL 10 RX9 ∈ wsL_law := kc_1 _ (List.mem_of_getElem? (i := 3) rfl)
theorem KL_9i : Cond.instantiable RX9 33 ∈ wsL_law := kc_1 _ (List.mem_of_getElem? (i := 4) rfl)
theorem KL_9n : Cond.initialized RX9 ∈ wsL_law := kc_1 _ (List.mem_of_getElem? (i := 5) rfl)
theorem KL_9m : Cond.methodLink RL 12 yX9_init ∈ wsL_law := kc_4 _ (List.mem_of_getElem? (i := 23) rfl)
/-! ===== the law's start ===== -/
theorem arr_of {args : Array Value} {s : State} {ty : FieldType} (h : (Cond.arrayClass ty).before args s = true) (hra : ∀ c : ClassId, s.vm.findClass ("[" ++ ty.toString) = some c → va_RA s c ty) : ∃ c : ClassId, ArrOfT s c ty ∧ va_RA s c ty := by
  obtain ⟨c, k, comp, h1, h2, h3⟩ := Cond.arrayClass_spec h
  exact ⟨c, fun _ _ => ⟨fun _ h9 => (by cases h9), k, h2, comp, h3⟩, hra c h1⟩
theorem arr_ofO {args : Array Value} {s : State} {C : String} (h : (Cond.arrayOver (.object C)).before args s = true) : ∃ c : ClassId, ArrOfT s c (.object C) ∧ va_RA s c (.object C) := by
  obtain ⟨comp, c, k, h1, h2, h3, h4, h5⟩ := Cond.arrayOver_spec h
  exact ⟨c, fun _ _ => ⟨fun _ h9 => (by cases h9), k, h3, comp, h4⟩, k, comp, h3, h4, h1, h5⟩
theorem arr_ofA {args : Array Value} {s : State} {ty : FieldType} (h : (Cond.arrayOver (.array ty)).before args s = true) : ∃ c : ClassId, ArrOfT s c (.array ty) ∧ va_RA s c (.array ty) := by
  obtain ⟨comp, c, k, h1, h2, h3, h4⟩ := Cond.arrayOver_specA h
  exact ⟨c, fun _ _ => ⟨fun _ h9 => (by cases h9), k, h2, comp, h3⟩, h4⟩
theorem sb_of {args : Array Value} {s : State} {C n d : String} {ty : FieldType} {f : Nat → Value} (h1 : (Cond.laysStatic C n d).before args s = true) (h2 : (Cond.initialized C).before args s = true) (h3 : (Cond.arrayOf (.static C n d) ty).before args s = true) (h4 : (Cond.eq (.length (.static C n d)) (.int 6)).before args s = true)
    (h5 : ∀ j : Nat, j < 6 → (Term.elem (.static C n d) (.int (Int32.ofNat j))).eval args s none [] s = some (f j)) (ad : List Nat) (hA : ∀ x ∈ ad, s.heap.size ≤ x) : sT C n d ty f ad s := by
  have hA' : ∀ a : Nat, a < s.heap.size → ¬ (fun x => x ∈ ad) a := fun a ha hm => absurd (hA a hm) (Nat.not_le.mpr ha)
  obtain ⟨t, e1, e2⟩ := va_Tof (N := 6) (f := f) (A := fun x => x ∈ ad) (by decide) h3 (va_eqt h4) h5 hA'
  exact ⟨t, va_Zof h1 h2 e1 hA', e2⟩
set_option maxRecDepth 20000 in
set_option maxHeartbeats 4000000 in
theorem SB_of {b : Nat} {s : State} (hts : ∀ w ∈ lw_tbl, w.before #[Value.ref b] s = true) (hgv : (Jvm.Cond.and given_1 narrow_1).before #[Value.ref b] s = true) : SB s := by
  intro ad hA
  have hs := flat_of_before _ hgv
  refine ⟨?_, ?_, ?_, ?_, ?_, ?_, ?_⟩
  · refine sb_of (hts (.laysStatic "WayBook$Ways" "WITH" "[J") (by decide +kernel)) (hts (.initialized "WayBook$Ways") (by decide +kernel)) (hs (.arrayOf (.static "WayBook$Ways" "WITH" "[J") .long) (by decide +kernel)) (hs (.eq (.length (.static "WayBook$Ways" "WITH" "[J")) (.int 6)) (by decide +kernel)) (fun j hj => ?_) ad hA
    rcases (show j = 0 ∨ j = 1 ∨ j = 2 ∨ j = 3 ∨ j = 4 ∨ j = 5 by omega) with rfl | rfl | rfl | rfl | rfl | rfl
    · exact va_eqtl (hs (.eq (.elem (.static "WayBook$Ways" "WITH" "[J") (.int 0)) (.long (-6148914691236517206))) (by decide +kernel))
    · exact va_eqtl (hs (.eq (.elem (.static "WayBook$Ways" "WITH" "[J") (.int 1)) (.long (-3689348814741910324))) (by decide +kernel))
    · exact va_eqtl (hs (.eq (.elem (.static "WayBook$Ways" "WITH" "[J") (.int 2)) (.long (-1085102592571150096))) (by decide +kernel))
    · exact va_eqtl (hs (.eq (.elem (.static "WayBook$Ways" "WITH" "[J") (.int 3)) (.long (-71777214294589696))) (by decide +kernel))
    · exact va_eqtl (hs (.eq (.elem (.static "WayBook$Ways" "WITH" "[J") (.int 4)) (.long (-281470681808896))) (by decide +kernel))
    · exact va_eqtl (hs (.eq (.elem (.static "WayBook$Ways" "WITH" "[J") (.int 5)) (.long (-4294967296))) (by decide +kernel))
  · refine sb_of (hts (.laysStatic "WayBook" "KIND_ABOVE" "[I") (by decide +kernel)) (hts (.initialized "WayBook") (by decide +kernel)) (hs (.arrayOf (.static "WayBook" "KIND_ABOVE" "[I") .int) (by decide +kernel)) (hs (.eq (.length (.static "WayBook" "KIND_ABOVE" "[I")) (.int 6)) (by decide +kernel)) (fun j hj => ?_) ad hA
    rcases (show j = 0 ∨ j = 1 ∨ j = 2 ∨ j = 3 ∨ j = 4 ∨ j = 5 by omega) with rfl | rfl | rfl | rfl | rfl | rfl
    · exact va_eqt (hs (.eq (.elem (.static "WayBook" "KIND_ABOVE" "[I") (.int 0)) (.int (-1))) (by decide +kernel))
    · exact va_eqt (hs (.eq (.elem (.static "WayBook" "KIND_ABOVE" "[I") (.int 1)) (.int (0))) (by decide +kernel))
    · exact va_eqt (hs (.eq (.elem (.static "WayBook" "KIND_ABOVE" "[I") (.int 2)) (.int (1))) (by decide +kernel))
    · exact va_eqt (hs (.eq (.elem (.static "WayBook" "KIND_ABOVE" "[I") (.int 3)) (.int (0))) (by decide +kernel))
    · exact va_eqt (hs (.eq (.elem (.static "WayBook" "KIND_ABOVE" "[I") (.int 4)) (.int (0))) (by decide +kernel))
    · exact va_eqt (hs (.eq (.elem (.static "WayBook" "KIND_ABOVE" "[I") (.int 5)) (.int (3))) (by decide +kernel))
  · refine sb_of (hts (.laysStatic "WayBook$Acts" "FITTING" "[I") (by decide +kernel)) (hts (.initialized "WayBook$Acts") (by decide +kernel)) (hs (.arrayOf (.static "WayBook$Acts" "FITTING" "[I") .int) (by decide +kernel)) (hs (.eq (.length (.static "WayBook$Acts" "FITTING" "[I")) (.int 6)) (by decide +kernel)) (fun j hj => ?_) ad hA
    rcases (show j = 0 ∨ j = 1 ∨ j = 2 ∨ j = 3 ∨ j = 4 ∨ j = 5 by omega) with rfl | rfl | rfl | rfl | rfl | rfl
    · exact va_eqt (hs (.eq (.elem (.static "WayBook$Acts" "FITTING" "[I") (.int 0)) (.int (10))) (by decide +kernel))
    · exact va_eqt (hs (.eq (.elem (.static "WayBook$Acts" "FITTING" "[I") (.int 1)) (.int (20))) (by decide +kernel))
    · exact va_eqt (hs (.eq (.elem (.static "WayBook$Acts" "FITTING" "[I") (.int 2)) (.int (20))) (by decide +kernel))
    · exact va_eqt (hs (.eq (.elem (.static "WayBook$Acts" "FITTING" "[I") (.int 3)) (.int (10))) (by decide +kernel))
    · exact va_eqt (hs (.eq (.elem (.static "WayBook$Acts" "FITTING" "[I") (.int 4)) (.int (10))) (by decide +kernel))
    · exact va_eqt (hs (.eq (.elem (.static "WayBook$Acts" "FITTING" "[I") (.int 5)) (.int (60))) (by decide +kernel))
  · refine sb_of (hts (.laysStatic "WayBook$Acts" "JOINING" "[I") (by decide +kernel)) (hts (.initialized "WayBook$Acts") (by decide +kernel)) (hs (.arrayOf (.static "WayBook$Acts" "JOINING" "[I") .int) (by decide +kernel)) (hs (.eq (.length (.static "WayBook$Acts" "JOINING" "[I")) (.int 6)) (by decide +kernel)) (fun j hj => ?_) ad hA
    rcases (show j = 0 ∨ j = 1 ∨ j = 2 ∨ j = 3 ∨ j = 4 ∨ j = 5 by omega) with rfl | rfl | rfl | rfl | rfl | rfl
    · exact va_eqt (hs (.eq (.elem (.static "WayBook$Acts" "JOINING" "[I") (.int 0)) (.int (11))) (by decide +kernel))
    · exact va_eqt (hs (.eq (.elem (.static "WayBook$Acts" "JOINING" "[I") (.int 1)) (.int (11))) (by decide +kernel))
    · exact va_eqt (hs (.eq (.elem (.static "WayBook$Acts" "JOINING" "[I") (.int 2)) (.int (30))) (by decide +kernel))
    · exact va_eqt (hs (.eq (.elem (.static "WayBook$Acts" "JOINING" "[I") (.int 3)) (.int (40))) (by decide +kernel))
    · exact va_eqt (hs (.eq (.elem (.static "WayBook$Acts" "JOINING" "[I") (.int 4)) (.int (11))) (by decide +kernel))
    · exact va_eqt (hs (.eq (.elem (.static "WayBook$Acts" "JOINING" "[I") (.int 5)) (.int (61))) (by decide +kernel))
  · refine sb_of (hts (.laysStatic "WayBook$Acts" "WEIGHING" "[I") (by decide +kernel)) (hts (.initialized "WayBook$Acts") (by decide +kernel)) (hs (.arrayOf (.static "WayBook$Acts" "WEIGHING" "[I") .int) (by decide +kernel)) (hs (.eq (.length (.static "WayBook$Acts" "WEIGHING" "[I")) (.int 6)) (by decide +kernel)) (fun j hj => ?_) ad hA
    rcases (show j = 0 ∨ j = 1 ∨ j = 2 ∨ j = 3 ∨ j = 4 ∨ j = 5 by omega) with rfl | rfl | rfl | rfl | rfl | rfl
    · exact va_eqt (hs (.eq (.elem (.static "WayBook$Acts" "WEIGHING" "[I") (.int 0)) (.int (12))) (by decide +kernel))
    · exact va_eqt (hs (.eq (.elem (.static "WayBook$Acts" "WEIGHING" "[I") (.int 1)) (.int (21))) (by decide +kernel))
    · exact va_eqt (hs (.eq (.elem (.static "WayBook$Acts" "WEIGHING" "[I") (.int 2)) (.int (21))) (by decide +kernel))
    · exact va_eqt (hs (.eq (.elem (.static "WayBook$Acts" "WEIGHING" "[I") (.int 3)) (.int (12))) (by decide +kernel))
    · exact va_eqt (hs (.eq (.elem (.static "WayBook$Acts" "WEIGHING" "[I") (.int 4)) (.int (50))) (by decide +kernel))
    · exact va_eqt (hs (.eq (.elem (.static "WayBook$Acts" "WEIGHING" "[I") (.int 5)) (.int (12))) (by decide +kernel))
  · exact va_Nw.of rfl (hts (.fieldLinkNest "WayBook$Host" 54 "WayBook" "KIND_ABOVE" "[I" "WayBook") (by decide +kernel))
  · exact va_Nw.of rfl (hts (.fieldLinkNest "WayBook$Acts" 29 "WayBook" "KIND_ABOVE" "[I" "WayBook") (by decide +kernel))
set_option maxRecDepth 20000 in
set_option maxHeartbeats 4000000 in
theorem EX_of {b : Nat} {s : State} (hts : ∀ w ∈ lw_tbl, w.before #[Value.ref b] s = true) : EX s :=
  ⟨hts (.arrayOver (.object "WayBook$Ways")) (by decide +kernel), hts (.arrayOver (.array .int)) (by decide +kernel), va_Nw.of rfl (hts (.methodLinkNest "WayBook" 9 yX2_init "WayBook") (by decide +kernel)), va_Nw.of rfl (hts (.methodLinkNest "WayBook" 22 yX7_init "WayBook") (by decide +kernel)), va_Nw.of rfl (hts (.methodLinkNest "WayBook" 36 yX5_init "WayBook") (by decide +kernel)), va_Nw.of rfl (hts (.methodLinkNest "WayBook" 43 yX6_init "WayBook") (by decide +kernel)), va_Nw.of rfl (hts (.methodLinkNest "WayBook" 50 yX3_init "WayBook") (by decide +kernel)), va_Nw.of rfl (hts (.methodLinkNest "WayBook" 67 yX0_init "WayBook") (by decide +kernel))⟩
set_option maxRecDepth 20000 in
set_option maxHeartbeats 4000000 in
/-- the classes, from the tables -/
theorem K_of {b : Nat} {s : State} (hts : ∀ w ∈ lw_tbl, w.before #[Value.ref b] s = true) : ∃ (D : va_G) (cy : Nat → ClassId), va_K D vwCl (tyL cy) s := by
  have htl : ∀ w ∈ wsL_law, w.before #[Value.ref b] s = true := fun w h => hts w (wsL_law_in w h)
  obtain ⟨c0, i0, h0⟩ := u_known (C := RX0) (T := TX0) (N := 4) (n := 4) htl inlX0 (hts (.instantiable RX0 4) (by decide +kernel))
  obtain ⟨c1, i1, h1⟩ := u_known (C := RX1) (T := TX1) (N := 5) (n := 5) htl inlX1 (hts (.instantiable RX1 5) (by decide +kernel))
  obtain ⟨c2, i2, h2⟩ := u_known (C := RX2) (T := TX2) (N := 7) (n := 7) htl inlX2 (hts (.instantiable RX2 7) (by decide +kernel))
  obtain ⟨c3, i3, h3⟩ := u_known (C := RX3) (T := TX3) (N := 4) (n := 4) htl inlX3 (hts (.instantiable RX3 4) (by decide +kernel))
  obtain ⟨c4, i4, h4⟩ := u_known (C := RX4) (T := TX4) (N := 8) (n := 8) htl inlX4 (hts (.instantiable RX4 8) (by decide +kernel))
  obtain ⟨c5, i5, h5⟩ := u_known (C := RX5) (T := TX5) (N := 4) (n := 4) htl inlX5 (hts (.instantiable RX5 4) (by decide +kernel))
  obtain ⟨c6, i6, h6⟩ := u_known (C := RX6) (T := TX6) (N := 2) (n := 2) htl inlX6 (hts (.instantiable RX6 2) (by decide +kernel))
  obtain ⟨c7, i7, h7⟩ := u_known (C := RX7) (T := TX7) (N := 2) (n := 2) htl inlX7 (hts (.instantiable RX7 2) (by decide +kernel))
  obtain ⟨c8, i8, h8⟩ := u_known (C := RX8) (T := TX8) (N := 12) (n := 12) htl inlX8 (hts (.instantiable RX8 12) (by decide +kernel))
  obtain ⟨c9, i9, h9⟩ := u_known (C := RX9) (T := TX9) (N := 33) (n := 33) htl inlX9 (hts (.instantiable RX9 33) (by decide +kernel))
  obtain ⟨d0, g0⟩ := arr_of (ty := .int) (hts (.arrayClass .int) (by decide +kernel)) (fun _ h => h)
  obtain ⟨d1, g1⟩ := arr_of (ty := .long) (hts (.arrayClass .long) (by decide +kernel)) (fun _ h => h)
  obtain ⟨d2, g2⟩ := arr_of (ty := .boolean) (hts (.arrayClass .boolean) (by decide +kernel)) (fun _ h => h)
  obtain ⟨d3, g3⟩ := arr_ofO (hts (.arrayOver (.object "WayBook$Ways")) (by decide +kernel))
  obtain ⟨d4, g4⟩ := arr_ofA (hts (.arrayOver (.array .int)) (by decide +kernel))
  refine ⟨(fun k => match k with | 0 => c0 | 1 => c1 | 2 => c2 | 3 => c3 | 4 => c4 | 5 => c5 | 6 => c6 | 7 => c7 | 8 => c8 | _ => c9, fun k => match k with | 0 => i0 | 1 => i1 | 2 => i2 | 3 => i3 | 4 => i4 | 5 => i5 | 6 => i6 | 7 => i7 | 8 => i8 | _ => i9), (fun k => match k with | 0 => d0 | 1 => d1 | 2 => d2 | 3 => d3 | _ => d4), ?_, ?_⟩
  · intro k q hq
    have hk : k < 10 := (List.getElem?_eq_some_iff.mp hq).1
    rcases (show k = 0 ∨ k = 1 ∨ k = 2 ∨ k = 3 ∨ k = 4 ∨ k = 5 ∨ k = 6 ∨ k = 7 ∨ k = 8 ∨ k = 9 by omega) with rfl | rfl | rfl | rfl | rfl | rfl | rfl | rfl | rfl | rfl
    · cases hq; exact h0
    · cases hq; exact h1
    · cases hq; exact h2
    · cases hq; exact h3
    · cases hq; exact h4
    · cases hq; exact h5
    · cases hq; exact h6
    · cases hq; exact h7
    · cases hq; exact h8
    · cases hq; exact h9
  · intro k q hq
    have hk : k < 5 := (List.getElem?_eq_some_iff.mp hq).1
    rcases (show k = 0 ∨ k = 1 ∨ k = 2 ∨ k = 3 ∨ k = 4 by omega) with rfl | rfl | rfl | rfl | rfl
    · cases hq; exact g0
    · cases hq; exact g1
    · cases hq; exact g2
    · cases hq; exact g3
    · cases hq; exact g4
def sort0 : Nat → Int32 := upd (upd (upd (upd (upd (upd (fun _ => 0) 0 (-1 : Int32)) 1 (-1 : Int32)) 2 (-1 : Int32)) 3 (-1 : Int32)) 4 (-1 : Int32)) 5 (-1 : Int32)
/-- the reference, new -/
def τ0 : RS := (fun _ => 0, fun k => if k = 11 then sort0 else fun _ => 0)
set_option maxRecDepth 100000 in
set_option maxHeartbeats 4000000 in
/-- THE LAW, from its entry, over a relation that the start has and every call keeps -/
theorem whole_from {p : Program} {e : Env} {s : State} {m : MethodId} {below : List Frame} {meth : Method} {c : Code} (l : Launch) {b L : Nat} {xs : Nat → Int32} (hL : L ≤ 2560) (C0 : lw_At p s m meth c b L xs) {I : DS → RS → Prop} (hI : I σ0 τ0) (sts : STS I) : W p l e room_1 s m #[Value.ref b] below meth c s.heap [] 0 0 (lw_Z below #[Value.ref b] s) (entryFrame m ([Value.ref b] : List Value).toArray 4) := by
  obtain ⟨hx, hb, hr, hml, hown, hts, hX, hbl, hlocks, hgv⟩ := id C0
  have hbA : ¬ s.heap.size ≤ b := Nat.not_le.mpr hbl
  have htl : ∀ w ∈ wsL_law, w.before #[Value.ref b] s = true := fun w h => hts w (wsL_law_in w h)
  obtain ⟨D, cy, hK⟩ := K_of hts
  have sb : SB s := SB_of hts hgv
  have ex : EX s := EX_of hts
  have fx : FX p s m #[Value.ref b] meth c cL_law 4 RL D cy := ⟨hx, hb, hml, hown, htl, hK, hlocks⟩
  have hl := lv_entry ([.ref b]) (n := 4) (Nat.le_of_ble_eq_true rfl)
  rw [lg_entry_eq]
  generalize (lg_sl ([.ref b]) ++ List.replicate (4 - (lg_sl ([.ref b])).length) Slot.unset).toArray = ls at hl ⊢
  have hl : lv_has ls 4 [(0, .ref b)] := hl
  have hG : GL D s.heap.size s [] s.heap [] := ⟨fun k q h => by simp at h, ⟨fun i j p q h => by simp at h, fun k q h => by simp at h⟩, va_S.rf, Nat.le_refl _⟩
  refine L_new (C := RX8) (T := TX8) (M := 12) (ci := 8) (fs := [.null, .null, .int 0, .null, .null, .null, .null, .null, .null, .null, .null, .null]) fx hG inlX8 tyX8 tyX8_ok KL_8 KL_8i KL_8n rfl (fun j hj => by rcases (show j = 0 ∨ j = 1 ∨ j = 2 ∨ j = 3 ∨ j = 4 ∨ j = 5 ∨ j = 6 ∨ j = 7 ∨ j = 8 ∨ j = 9 ∨ j = 10 ∨ j = 11 by omega) with rfl | rfl | rfl | rfl | rfl | rfl | rfl | rfl | rfl | rfl | rfl | rfl <;> rfl) (Nat.le_of_ble_eq_true rfl) (Nat.le_of_ble_eq_true rfl) dL_law_0 (fun h1 H hGa => ?_)
  refine lv_dup hx hb dL_law_3 rfl ?_
  refine L_callI (As := []) (rest := [.ref h1]) fx ex hGa (D8c_init l h1) KL_8m D8k_init rfl D8h_init ⟨rfl, rfl⟩ ⟨Nat.le_of_ble_eq_true rfl, Nat.le_of_ble_eq_true rfl⟩ ⟨Nat.le_of_ble_eq_true rfl, Nat.le_of_ble_eq_true rfl⟩ rfl hl.1 rfl (Nat.le_of_ble_eq_true rfl) dL_law_4 (fun ws1 H locs hΦ hGb => ?_)
  clear hGa
  obtain ⟨q, hq0, rfl⟩ := hΦ
  subst hq0
  refine lv_astore_n (lv' := [(1, .ref (q 0)), (0, .ref b)]) hx hb dL_law_7 rfl hl (by decide) rfl (fun ls hl => ?_)
  refine L_new (C := RX9) (T := TX9) (M := 33) (ci := 9) (fs := [.int 0, .null, .int 0, .null, .null, .null, .int 0, .null, .null, .int 0, .null, .null, .null, .null, .null, .null, .null, .null, .int 0, .null, .null, .null, .int 0, .null, .null, .null, .null, .null, .null, .null, .null, .int 0, .int 0]) fx hGb inlX9 tyX9 tyX9_ok KL_9 KL_9i KL_9n rfl (fun j hj => by rcases (show j = 0 ∨ j = 1 ∨ j = 2 ∨ j = 3 ∨ j = 4 ∨ j = 5 ∨ j = 6 ∨ j = 7 ∨ j = 8 ∨ j = 9 ∨ j = 10 ∨ j = 11 ∨ j = 12 ∨ j = 13 ∨ j = 14 ∨ j = 15 ∨ j = 16 ∨ j = 17 ∨ j = 18 ∨ j = 19 ∨ j = 20 ∨ j = 21 ∨ j = 22 ∨ j = 23 ∨ j = 24 ∨ j = 25 ∨ j = 26 ∨ j = 27 ∨ j = 28 ∨ j = 29 ∨ j = 30 ∨ j = 31 ∨ j = 32 by omega) with rfl | rfl | rfl | rfl | rfl | rfl | rfl | rfl | rfl | rfl | rfl | rfl | rfl | rfl | rfl | rfl | rfl | rfl | rfl | rfl | rfl | rfl | rfl | rfl | rfl | rfl | rfl | rfl | rfl | rfl | rfl | rfl | rfl <;> rfl) (Nat.le_of_ble_eq_true rfl) (Nat.le_of_ble_eq_true rfl) dL_law_8 (fun h2 H hGc => ?_)
  refine lv_dup hx hb dL_law_11 rfl ?_
  have he : (dW cy q σ0 ++ [(h2, .inr (9, [.int 0, .null, .int 0, .null, .null, .null, .int 0, .null, .null, .int 0, .null, .null, .null, .null, .null, .null, .null, .null, .int 0, .null, .null, .null, .int 0, .null, .null, .null, .null, .null, .null, .null, .null, .int 0, .int 0]))])[111]? = some (h2, .inr (9, [.int 0, .null, .int 0, .null, .null, .null, .int 0, .null, .null, .int 0, .null, .null, .null, .null, .null, .null, .null, .null, .int 0, .null, .null, .null, .int 0, .null, .null, .null, .null, .null, .null, .null, .null, .int 0, .int 0])) := by
    rw [List.getElem?_append_right (by rw [dW_len]; omega), dW_len]
    rfl
  refine L_callI (As := []) (rest := [.ref h2]) fx ex hGc (Rc_init l _ 111 h2 he) KL_9m Rk_init rfl Rh_init ⟨rfl, rfl⟩ ⟨Nat.le_of_ble_eq_true rfl, Nat.le_of_ble_eq_true rfl⟩ ⟨Nat.le_of_ble_eq_true rfl, Nat.le_of_ble_eq_true rfl⟩ rfl hl.1 rfl (Nat.le_of_ble_eq_true rfl) dL_law_12 (fun ws2 H locs hΦ hGd => ?_)
  clear hGc hGb hG
  obtain ⟨a1, a2, a3, a4, a5, a6, a7, a8, a9, a10, a11, a12, a13, a14, a15, a16, a17, a18, a19, a20, a21, a22, a23, a24, a25, hw⟩ := hΦ
  have hw2 : ws2 = dW cy q σ0 ++ rW cy (qOf [h2, a1, 0, a2, a3, a4, 0, a5, a6, 0, a7, a8, a9, a10, a11, a12, a13, a14, 0, a15, a16, a17, 0, a18, a19, a20, a21, a22, a23, a24, a25]) τ0 := by
    rw [hw]
    unfold gw
    rw [List.set_append_right _ _ (by rw [dW_len]; omega), dW_len, List.append_assoc]
    rfl
  subst hw2
  generalize hqr : qOf [h2, a1, 0, a2, a3, a4, 0, a5, a6, 0, a7, a8, a9, a10, a11, a12, a13, a14, 0, a15, a16, a17, 0, a18, a19, a20, a21, a22, a23, a24, a25] = qr at hGd
  have hqr0 : qr 0 = h2 := by rw [← hqr]; rfl
  clear hw hqr
  refine lv_astore_n (lv' := [(2, .ref (qr 0)), (1, .ref (q 0)), (0, .ref b)]) hx hb dL_law_15 rfl hl (by decide) (by rw [hqr0]; rfl) (fun ls hl => ?_)
  refine lv_iconst (v := (0 : Int32)) hx hb dL_law_16 (by decide) ?_
  refine lv_istore_n (lv' := [(3, .int 0), (2, .ref (qr 0)), (1, .ref (q 0)), (0, .ref b)]) hx hb dL_law_17 rfl hl (by decide) rfl (fun ls hl => ?_)
  refine law_loop hr hlocks hL rfl fx sb hX hbl hbA sts 513 0 σ0 τ0 _ _ _ _ ls (by omega) (by omega) (by decide) (by decide) hI ⟨hGd.1, hGd.2.1, hGd.2.2.1⟩ ?_
  exact lv_sub hl [3, 2, 1, 0] rfl

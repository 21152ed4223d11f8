section PATHS
variable {P R : Nat} {ld eA eB od : Nat → Nat} {wt : Nat → Int32}
theorem NW.he (n1 : NW P R ld eA eB od wt) : ∀ i, i < R → eA i < P ∧ eB i < P ∧ eA i ≠ eB i := fun i hi => by have := n1.2.2.2.1 i hi; omega
theorem NW.un (n1 : NW P R ld eA eB od wt) : ∀ i j p t, i < R → j < R → p ≠ t → (eA i = p ∨ eB i = p) → (eA i = t ∨ eB i = t) → (eA j = p ∨ eB j = p) → (eA j = t ∨ eB j = t) → i = j := fun i j p t hi hj h a b c d => by
  have x := n1.2.2.2.1 i hi
  have y := n1.2.2.2.1 j hj
  exact n1.2.2.2.2 i j hi hj (by omega) (by omega)
theorem isOne_n (n1 : NW P R ld eA eB od wt) {τ : RS} (n3 : RN τ P R ld eA eB od wt) {m : Nat} (hm : m < 4096) : ∃ τ', Rm_isOne τ (nI m) = some (bI (cD (oneP P R eA eB m)), τ') ∧ rK_ (fun c => c = 19) τ τ' := by
  have hP := n1.1
  have hR := n1.2.1
  have oi := one_iff (P := P) (M := m) (fun i hi => ⟨(n1.he i hi).1, (n1.he i hi).2.1⟩)
  have lp : ∀ kx : Int32 → Option (Int32 × RS), it2 (Rs_isOne_4 (nI m) τ kx) fuel (0 : Int32) (0 : Int32) = kx (nI (fb_ct (fun p => decide (atP R eA eB m p = 0)) P)) := fun kx => by
    refine Eq.trans rfl (it2_seq (f := Rs_isOne_4 (nI m) τ kx) (fun j => nI (fb_ct (fun p => decide (atP R eA eB m p = 0)) j)) (fun j => nI j) P _ (by unfold fuel; omega) (fun j hj rc => ?_) (fun rc => ?_))
    · have hle : atP R eA eB m j ≤ R := fb_ct_le (fun r => m.testBit r && (decide (eA r = j) || decide (eB r = j))) R
      unfold Rs_isOne_4
      rw [n3.1, if_neg (nI_ge hj (by omega)), at_n n1 n3 hm (by omega), b1_s, pl1, fb_ct_succ]
      by_cases c : atP R eA eB m j = 0
      · rw [if_pos (by rw [c]; rfl), decide_eq_true c, if_pos rfl, pl1]
      · rw [if_neg (nI_ne0 (by omega) (by omega)), decide_eq_false c, if_neg (by decide), show ∀ n : Nat, nI n + (0 : Int32) = nI (n + 0) from fun n => nI_add n 0, pl1]
    · unfold Rs_isOne_4
      rw [n3.1, if_pos (nI_le (Nat.le_refl _) (by omega))]
  unfold Rm_isOne
  rw [lp]
  by_cases c : m = 0
  · refine ⟨τ, ?_, rK_.rf⟩
    rw [if_pos (by rw [c]; rfl), cD_f (fun q => (oi.mp q).1 c)]; rfl
  · rw [if_neg (nI_ne0 (by omega) (by omega))]
    obtain ⟨τ', e, k, -⟩ := heaps_n n1 n3 hm
    refine ⟨τ', ?_, k⟩
    have hle := fb_ct_le (fun p => decide (atP R eA eB m p = 0)) P
    rw [e, b2_s, pl1]
    by_cases d : P - hpC eA eB m R = fb_ct (fun p => decide (atP R eA eB m p = 0)) P + 1
    · rw [if_pos (congrArg nI d), cD_t (oi.mpr ⟨c, d⟩)]; rfl
    · rw [if_neg (fun q => d ((nI_eq (by omega) (by omega)).mp q)), cD_f (fun q => d (oi.mp q).2)]; rfl
theorem isPath_n (n1 : NW P R ld eA eB od wt) {τ : RS} (n3 : RN τ P R ld eA eB od wt) {m a b : Nat} (hm : m < 4096) (ha : a < P) (hb : b < P) (thr : Bool) : ∃ τ', Rm_isPath τ (nI m) (nI a) (nI b) (bI thr) = some (bI (cD (pathP P R eA eB a b thr m)), τ') ∧ rK_ (fun c => c = 19) τ τ' := by
  have hP := n1.1
  have hR := n1.2.1
  obtain ⟨t, e, k⟩ := isOne_n n1 n3 hm
  have n3' := n3.to k (fun c hc => by have : c = 19 := hc; omega)
  refine ⟨t, ?_, k⟩
  unfold Rm_isPath
  rw [e, b2_s, all_loop (f := Rs_isPath_10 (nI m) (nI a) (nI b) (bI thr) t (fun u_15 => gb u_15 (some (u_15, t)))) (N := P) (by unfold fuel; omega) (fun u_15 => gb u_15 (some (u_15, t))) (fun p => if p = a ∨ p = b then decide (atP R eA eB m p = 1) else (decide (atP R eA eB m p = 2) || (decide (atP R eA eB m p = 0) && !thr))) (fun rc w => by unfold Rs_isPath_10; rw [if_pos rfl]) (fun rc p hp => ?_) (fun rc => by unfold Rs_isPath_10; rw [if_neg (by decide), n3'.1, if_pos (nI_le (Nat.le_refl _) (by omega))]), gb_b]
  · congr 3
    apply cD_eq
    unfold pathP
    rw [Bool.and_eq_true, cD_iff, allB_iff]
    refine and_congr_right fun _ => forall_congr' fun p => forall_congr' fun hp => ?_
    by_cases c : p = a ∨ p = b
    · rw [if_pos c, if_pos c, decide_eq_true_eq]
    · rw [if_neg c, if_neg c, Bool.or_eq_true, Bool.and_eq_true, decide_eq_true_eq, decide_eq_true_eq, Bool.not_eq_true']
  · have hle : atP R eA eB m p ≤ R := fb_ct_le (fun r => m.testBit r && (decide (eA r = p) || decide (eB r = p))) R
    have one : ∀ x : Option (Int32 × RS), ∀ y, (if nI (atP R eA eB m p) = (1 : Int32) then x else y) = if atP R eA eB m p = 1 then x else y := fun x y => by
      by_cases c : atP R eA eB m p = 1
      · rw [if_pos c, if_pos (by rw [c]; rfl)]
      · rw [if_neg c, if_neg (show ¬ nI (atP R eA eB m p) = (1 : Int32) from fun q => c ((nI_eq (b := 1) (by omega) (by omega)).mp q))]
    unfold Rs_isPath_10
    rw [if_neg (by decide), n3'.1, if_neg (nI_ge hp (by omega)), at_n n1 n3' hm (by omega), b1_s, pl1]
    by_cases c1 : p = a
    · rw [if_pos (congrArg nI c1), if_pos (Or.inl c1), one]
      by_cases d : atP R eA eB m p = 1
      · rw [if_pos d, decide_eq_true d]; rfl
      · rw [if_neg d, decide_eq_false d]; rfl
    · rw [if_neg (fun q => c1 ((nI_eq (by omega) (by omega)).mp q))]
      by_cases c2 : p = b
      · rw [if_pos (congrArg nI c2), if_pos (Or.inr c2), one]
        by_cases d : atP R eA eB m p = 1
        · rw [if_pos d, decide_eq_true d]; rfl
        · rw [if_neg d, decide_eq_false d]; rfl
      · rw [if_neg (fun q => c2 ((nI_eq (by omega) (by omega)).mp q)), if_neg (show ¬ (p = a ∨ p = b) from fun q => q.elim c1 c2)]
        by_cases d2 : atP R eA eB m p = 2
        · rw [if_pos (by rw [d2]; rfl), decide_eq_true d2]; rfl
        · rw [if_neg (show ¬ nI (atP R eA eB m p) = (2 : Int32) from fun q => d2 ((nI_eq (b := 2) (by omega) (by omega)).mp q)), decide_eq_false d2, Bool.false_or]
          by_cases d0 : atP R eA eB m p = 0
          · rw [if_pos (by rw [d0]; rfl), decide_eq_true d0, Bool.true_and]
            cases thr <;> rfl
          · rw [if_neg (nI_ne0 (by omega) (by omega)), decide_eq_false d0]; rfl
end PATHS
theorem st_paths : ST_paths INV := by
  intro σ τ h a1 a2 a3 h3
  obtain ⟨⟨P, R, ld, eA, eB, od, wt, n1, n2, n3⟩, ⟨F, kd, W, f1, f2, f3⟩, -, -, -, ax⟩ := id h
  have hR := n1.2.1
  have hP := n1.1
  have hp := p2R hR
  obtain ⟨thr, rfl⟩ := bI_01' h3
  by_cases c1 : 0 ≤ a1.toInt ∧ a1.toInt < P
  · by_cases c2 : 0 ≤ a2.toInt ∧ a2.toInt < P
    · by_cases c3 : a1 = a2
      · refine ⟨-2, σ, τ, ?_, ?_, h⟩
        · unfold D8m_paths
          rw [if_neg (fun q => (isPost_0 n1 n2).mp q c1), if_neg (fun q => (isPost_0 n1 n2).mp q c2), if_pos c3]
        · unfold Rm_paths
          rw [if_neg (fun q => in_0.mp q (by rw [n3.1, sub1 (by omega), t0]; omega)), if_neg (fun q => in_0.mp q (by rw [n3.1, sub1 (by omega), t0]; omega)), if_pos c3]
      · obtain ⟨a, ha, rfl⟩ := of_range (x := a1) (n := P) (by omega) c1.1 c1.2
        obtain ⟨b, hb, rfl⟩ := of_range (x := a2) (n := P) (by omega) c2.1 c2.2
        have hab : a ≠ b := fun z => c3 (by rw [z])
        have er : Rm_paths τ (nI a) (nI b) (bI thr) = it2 (Rs_paths_39 (nI a) (nI b) (bI thr) (fun τ_17 => b2 (Rm_made τ_17 (1 : Int32)) (fun r_19 τ_20 => some (r_19, τ_20)))) fuel (0 : Int32) τ := by
          unfold Rm_paths
          rw [if_neg (fun q => in_0.mp q (by rw [n3.1, sub1 (by omega), t0]; omega)), if_neg (fun q => in_0.mp q (by rw [n3.1, sub1 (by omega), t0]; omega)), if_neg c3]
        rw [er]
        refine mk_put (kn := 1) (w := fun m => decide (m < 2 ^ R) && cD (pathP P R eA eB a b thr m)) (C := fun c => c = 19) h ⟨f1, f2, f3⟩ (by omega) ?_ (fun c hc => by have : c = 19 := hc; unfold rScr; omega) (fun rc h6 => ?_) (fun hF m τ1 rc hm hq => ?_) (fun τ1 rc hq => ?_)
        · unfold D8m_paths
          rw [if_neg (fun q => (isPost_0 n1 n2).mp q c1), if_neg (fun q => (isPost_0 n1 n2).mp q c2), if_neg c3]
          refine DMK.of f2.1 ax.1 (fun hF σ0 hb0 => ?_)
          have n2' := n2.to hb0.1 (fun c hc => by omega)
          have pa : 2 ^ a ≤ 2 ^ 7 := Nat.pow_le_pow_right (by decide) (by omega)
          obtain ⟨z1, e1, s1⟩ := walk_n n1 F b (if thr = true then P - 1 else 1) (by omega) (by split <;> omega) (z := dZ (dZ (σ0, fun _ => 0) 2 (nI b)) 3 (nI (if thr = true then P - 1 else 1))) (v := a) (S := 2 ^ a) ha (by omega) n2' rfl rfl
          refine ⟨z1.1, ?_, DON.mk hb0 s1.2.1 (fun c hc => by unfold dScr; omega) (fun x hx => ?_)⟩
          · unfold D4m_findPaths
            rw [nm_s, shl1 (by omega)]
            cases thr
            · rw [if_pos (by rfl), nm_s, show D4m_walk F 24 (dZ (dZ (σ0, fun _ => 0) 2 (nI b)) 3 (1 : Int32)) (nI a) (nI (2 ^ a)) 0 0 = _ from e1, b1_s, b1_s]
            · rw [if_neg (by decide), nm_s, show (dZ (σ0, fun _ => 0) 2 (nI b)).1.1 1 0 = nI P from n2'.1, show nI P - (1 : Int32) = nI (P - 1) from pk_sub (b := 1) (by omega), show D4m_walk F 24 (dZ (dZ (σ0, fun _ => 0) 2 (nI b)) 3 (nI (P - 1))) (nI a) (nI (2 ^ a)) 0 0 = _ from e1, b1_s, b1_s]
          · have hw : wb (dZ (dZ (σ0, fun _ => 0) 2 (nI b)) 3 (nI (if thr = true then P - 1 else 1))).1 F x = false := hb0.2.2.1 x hx
            rw [Bool.eq_iff_iff, s1.2.2 x hx, hw, Bool.and_eq_true, decide_eq_true_eq, cD_iff]
            constructor
            · rintro (q | ⟨M, h1, h2, h3, h4⟩)
              · exact absurd q (by decide)
              · rw [h4, mir_mir h1]
                have hM : M < 2 ^ R := by
                  obtain ⟨v, S, q, n, i, t, hi, -, -, hQ⟩ := goo_sound n1.he (Or.inl (by rw [Nat.testBit_two_pow, decide_eq_true rfl])) 8 a (2 ^ a) 0 0 (TR.st ha) h2
                  rw [hQ]
                  exact Nat.or_lt_two_pow t.1.2.1 (Nat.pow_lt_pow_right (by decide) hi)
                exact ⟨hM, (path_iff n1.he hP hR ha hb hab thr hM).mp ⟨h2, h3⟩⟩
            · rintro ⟨h1, h2⟩
              obtain ⟨g1, g2⟩ := (path_iff n1.he hP hR ha hb hab thr h1).mpr h2
              exact Or.inr ⟨mir x, by omega, g1, g2, (mir_mir hx).symm⟩
        · unfold Rs_paths_39
          rw [h6, if_neg (by decide), if_pos (by decide)]
          rfl
        · have n3' := n3.to hq.1 (fun c hc => hc.elim (fun e => by omega) (fun e => by have : c = 19 := e; omega))
          unfold Rs_paths_39
          rw [if_neg (show ¬ (4096 : Int32) ≤ nI m from nI_ge (b := 4096) (by omega) (by decide)), (hq.F (c := 6) (fun h => absurd (show (6 : Nat) = 19 from h) (by decide)) (by omega)).1, f3.1, if_neg (show ¬ (30 : Int32) ≤ nI F from nI_ge (b := 30) (by omega) (by decide)), net_n n1 n3']
          by_cases c : m < 2 ^ R
          · obtain ⟨τ2, e2, k2⟩ := isPath_n n1 n3' hm ha hb thr
            refine ⟨τ2, hq.sc rfl k2, ?_⟩
            rw [if_neg (nI_ge c (by omega)), e2, b2_s, decide_eq_true c, Bool.true_and]
            by_cases d : pathP P R eA eB a b thr m
            · rw [cD_t d, if_neg (by decide)]; rfl
            · rw [cD_f d, if_pos (by rfl)]; rfl
          · rw [if_pos (nI_le (by omega) (by omega)), decide_eq_false c, Bool.false_and]
            exact ⟨τ1, hq, rfl⟩
        · unfold Rs_paths_39
          rw [if_pos (show (4096 : Int32) ≤ nI 4096 by decide)]
          rfl
    · refine ⟨-2, σ, τ, ?_, ?_, h⟩
      · unfold D8m_paths
        rw [if_neg (fun q => (isPost_0 n1 n2).mp q c1), if_pos ((isPost_0 n1 n2).mpr c2)]
      · unfold Rm_paths
        rw [if_neg (fun q => in_0.mp q (by rw [n3.1, sub1 (by omega), t0]; omega)), if_pos (in_0.mpr (by rw [n3.1, sub1 (by omega), t0]; omega))]
  · refine ⟨-2, σ, τ, ?_, ?_, h⟩
    · unfold D8m_paths
      rw [if_pos ((isPost_0 n1 n2).mpr c1)]
    · unfold Rm_paths
      rw [if_pos (in_0.mpr (by rw [n3.1, sub1 (by omega), t0]; omega))]

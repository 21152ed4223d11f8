/-! ===== join: the call ===== -/
section REST
variable {τ : RS} {F f g : Nat} {W : Nat → Nat → Bool}
theorem rest_n (ha : AXr τ) (h : RW_ τ F W) (hF : F ≤ 30) (hf : f < F) (hg : g < F) : ∃ τ1, Rm_rest τ (nI f) (nI g) = some τ1 ∧ HND τ τ1 4096 (fun x => W f x && !cD (UNI (fun x => cD (OVR (W f) (W g) x)) (W g) x)) := by
  have hov : ∃ ov : Nat → Bool, ov = fun x => cD (OVR (W f) (W g) x) := ⟨_, rfl⟩
  obtain ⟨ov, hov⟩ := hov
  rw [← hov]
  unfold Rm_rest
  have first : ∀ kx : RS → Option RS, ∃ t, it2 (Rs_rest_2 (nI f) (nI g) kx) fuel (0 : Int32) τ = kx t ∧ HND τ t 4096 (W f) ∧ ∀ m, m < 4096 → t.2 21 m = bI (ov m) := fun kx => by
    refine it2_ind (f := Rs_rest_2 (nI f) (nI g) kx) (P := fun n v t => ∃ j, j + n = 4096 ∧ v = nI j ∧ HND τ t j (W f) ∧ ∀ m, m < j → t.2 21 m = bI (ov m)) (Q := fun o => ∃ t, o = kx t ∧ HND τ t 4096 (W f) ∧ ∀ m, m < 4096 → t.2 21 m = bI (ov m)) ?_ fuel 4096 (0 : Int32) τ (by unfold fuel; omega) ⟨0, rfl, rfl, HND.z ha, fun m hm => absurd hm (Nat.not_lt_zero m)⟩
    rintro n v t rc ⟨j, hj, rfl, ht, h21⟩ ih
    unfold Rs_rest_2
    by_cases c : j = 4096
    · subst c
      rw [if_pos (show (4096 : Int32) ≤ nI 4096 by decide)]
      exact ⟨t, rfl, ht, h21⟩
    · have hw : RW_ t F W := h.to (fun i _ => ht.2.2.2 i)
      have hw2 : RW_ (rA t 21 j (bI (ov j))) F W := hw.to (fun i _ => by rw [rA_1 (by decide)])
      have ho := isOver_n hw hF hf hg (m := j) (by omega)
      rw [show cD (OVR (W f) (W g) j) = ov j by rw [hov]] at ho
      rw [if_neg (show ¬ (4096 : Int32) ≤ nI j from nI_ge (b := 4096) (by omega) (by decide)), ho, b1_s, gi_n (by omega) (by decide), nm_s, tn _ (by omega), bI_and, isWay_n hw2 hF hf (by omega), b1_s, gi_n (by omega) (by decide), nm_s, bI_and, pl1]
      obtain ⟨h1, h2, h3, h4⟩ := ht
      refine ih (n - 1) _ _ (by omega) ⟨j + 1, by omega, rfl, ⟨h1.tr ((rK_A (by simp only [rScr]; omega)).tr (rK_A (by simp only [rScr]; omega))), fun x hx => ?_, h3.to (fun i => Or.inl rfl) (fun i => ?_) (fun i => ?_), fun i => h4 i⟩, fun x hx => ?_⟩
      · by_cases e : x = j
        · rw [e]; exact rA_s
        · rw [rA_n e, rA_1 (by decide)]; exact h2 x (by omega)
      · by_cases e : i = j
        · rw [e, rA_s]; exact Or.inr (bI_01 _)
        · rw [rA_n e, rA_1 (by decide)]; exact Or.inl rfl
      · rw [rA_1 (by decide)]
        by_cases e : i = j
        · rw [e, rA_s]; exact Or.inr (bI_01 _)
        · rw [rA_n e]; exact Or.inl rfl
      · rw [rA_1 (by decide)]
        by_cases e : x = j
        · rw [e, rA_s]
        · rw [rA_n e]; exact h21 x (by omega)
  obtain ⟨τ1, e1, h1, o1⟩ := first (fun τ_12 => it2 (Rs_rest_42 (nI g) (fun τ_32 => some τ_32)) fuel (0 : Int32) τ_12)
  rw [e1]
  refine it2_ind (f := Rs_rest_42 (nI g) (fun τ_32 => some τ_32)) (P := fun n v t => ∃ j, j + n = 4096 ∧ v = nI j ∧ HND τ t 4096 (fun x => W f x && !cD (∃ a b, a < j ∧ b < 4096 ∧ ov a = true ∧ W g b = true ∧ a ||| b = x)) ∧ ∀ m, m < 4096 → t.2 21 m = bI (ov m)) (Q := fun o => ∃ τ1, o = some τ1 ∧ HND τ τ1 4096 (fun x => W f x && !cD (UNI ov (W g) x))) ?_ fuel 4096 (0 : Int32) τ1 (by unfold fuel; omega) ⟨0, rfl, rfl, h1.cong (fun m hm => by rw [cD_f (fun ⟨a, b, q, _⟩ => absurd q (Nat.not_lt_zero a)), Bool.not_false, Bool.and_true]), o1⟩
  rintro n v t rc ⟨j, hj, rfl, ht, ot⟩ ih
  unfold Rs_rest_42
  by_cases c : j = 4096
  · subst c
    rw [if_pos (show (4096 : Int32) ≤ nI 4096 by decide)]
    exact ⟨t, rfl, ht⟩
  · rw [if_neg (show ¬ (4096 : Int32) ≤ nI j from nI_ge (b := 4096) (by omega) (by decide))]
    have step : ∃ t', it2 (Rs_rest_52 (nI g) (nI j) (fun τ_31 => rc (nI j + (1 : Int32)) τ_31)) fuel (0 : Int32) t = rc (nI j + (1 : Int32)) t' ∧ HND τ t' 4096 (fun x => W f x && !cD (∃ a b, a < j + 1 ∧ b < 4096 ∧ ov a = true ∧ W g b = true ∧ a ||| b = x)) ∧ ∀ m, m < 4096 → t'.2 21 m = bI (ov m) := by
      cases hv : ov j
      · refine ⟨t, it2_one fun rc2 => ?_, ht.cong (fun x hx => ?_), ot⟩
        · unfold Rs_rest_52
          rw [gi_n (by omega) (by decide), tn _ (by omega), ot j (by omega), hv, if_pos (by rfl)]
        · refine congrArg (fun z => W f x && !z) (cD_eq ?_)
          rw [cD_iff]
          constructor
          · rintro ⟨a, b, q, q2⟩
            exact ⟨a, b, by omega, q2⟩
          · rintro ⟨a, b, q, q1, q2, q3⟩
            refine ⟨a, b, ?_, q1, q2, q3⟩
            have : a ≠ j := fun e => by rw [e, hv] at q2; exact absurd q2 (by decide)
            omega
      · refine it2_ind (f := Rs_rest_52 (nI g) (nI j) (fun τ_31 => rc (nI j + (1 : Int32)) τ_31)) (P := fun n v t => ∃ w, w + n = 4096 ∧ v = nI w ∧ HND τ t 4096 (fun x => W f x && !cD (∃ a b, (a < j ∨ (a = j ∧ b < w)) ∧ b < 4096 ∧ ov a = true ∧ W g b = true ∧ a ||| b = x)) ∧ ∀ m, m < 4096 → t.2 21 m = bI (ov m)) (Q := fun o => ∃ t', o = rc (nI j + (1 : Int32)) t' ∧ HND τ t' 4096 (fun x => W f x && !cD (∃ a b, a < j + 1 ∧ b < 4096 ∧ ov a = true ∧ W g b = true ∧ a ||| b = x)) ∧ ∀ m, m < 4096 → t'.2 21 m = bI (ov m)) ?_ fuel 4096 (0 : Int32) t (by unfold fuel; omega) ⟨0, rfl, rfl, ht.cong (fun x hx => congrArg (fun z => W f x && !z) (cD_eq ?_)), ot⟩
        · rintro n2 v2 t2 rc2 ⟨w, hw, rfl, h2, o2⟩ ih2
          have hww : RW_ t2 F W := h.to (fun i _ => h2.2.2.2 i)
          unfold Rs_rest_52
          rw [gi_n (by omega) (by decide), tn _ (by omega), o2 j (by omega), hv, if_neg (by decide)]
          by_cases cw : w = 4096
          · subst cw
            rw [if_pos (show (4096 : Int32) ≤ nI 4096 by decide)]
            refine ⟨t2, rfl, h2.cong (fun x hx => congrArg (fun z => W f x && !z) (cD_eq ?_)), o2⟩
            rw [cD_iff]
            constructor
            · rintro ⟨a, b, q, q2⟩
              exact ⟨a, b, by omega, q2⟩
            · rintro ⟨a, b, q, q2⟩
              exact ⟨a, b, by omega, q2⟩
          · have hor : j ||| w < 4096 := Nat.or_lt_two_pow (n := 12) (by omega) (by omega)
            have hold := h2.2.1 _ hor
            dsimp only at hold
            rw [if_neg (show ¬ (4096 : Int32) ≤ nI w from nI_ge (b := 4096) (by omega) (by decide)), fa_or, gi_n (by omega) (by decide), gi_n (by omega) (by decide), tn _ (by omega), hold, isWay_n hww hF hg (by omega), b1_s, gi_n (by omega) (by decide), nm_s, nm_s, pl1]
            have fin : ∀ val : Int32, val = bI ((W f (j ||| w) && !cD (∃ a b, (a < j ∨ (a = j ∧ b < w)) ∧ b < 4096 ∧ ov a = true ∧ W g b = true ∧ a ||| b = j ||| w)) && !W g w) → ∃ t', rc2 (nI (w + 1)) (rA t2 20 (j ||| w) val) = rc (nI j + (1 : Int32)) t' ∧ HND τ t' 4096 (fun x => W f x && !cD (∃ a b, a < j + 1 ∧ b < 4096 ∧ ov a = true ∧ W g b = true ∧ a ||| b = x)) ∧ ∀ m, m < 4096 → t'.2 21 m = bI (ov m) := fun val hval => by
              subst hval
              refine ih2 (n2 - 1) _ _ (by omega) ⟨w + 1, by omega, rfl, (hnd_u _ h2).cong (fun x hx => ?_), fun m hm => by rw [rA_1 (by decide)]; exact o2 m hm⟩
              by_cases e : x = j ||| w
              · rw [if_pos e, e, Bool.and_assoc]
                refine congrArg (fun z => W f (j ||| w) && z) ?_
                rw [← Bool.not_or]
                refine congrArg (fun z => !z) (cD_eq ?_)
                rw [Bool.or_eq_true, cD_iff]
                constructor
                · rintro (⟨a, b, q, q2⟩ | q)
                  · exact ⟨a, b, by omega, q2⟩
                  · exact ⟨j, w, Or.inr ⟨rfl, by omega⟩, by omega, hv, q, rfl⟩
                · rintro ⟨a, b, q, q1, q2, q3, q4⟩
                  by_cases e2 : a = j ∧ b = w
                  · rw [e2.2] at q3; exact Or.inr q3
                  · exact Or.inl ⟨a, b, by omega, q1, q2, q3, q4⟩
              · rw [if_neg e]
                refine congrArg (fun z => W f x && !z) (cD_eq ?_)
                rw [cD_iff]
                constructor
                · rintro ⟨a, b, q, q2⟩
                  exact ⟨a, b, by omega, q2⟩
                · rintro ⟨a, b, q, q1, q2, q3, q4⟩
                  refine ⟨a, b, ?_, q1, q2, q3, q4⟩
                  have : ¬ (a = j ∧ b = w) := fun e2 => e (by rw [← q4, e2.1, e2.2])
                  omega
            cases dh : (W f (j ||| w) && !cD (∃ a b, (a < j ∨ (a = j ∧ b < w)) ∧ b < 4096 ∧ ov a = true ∧ W g b = true ∧ a ||| b = j ||| w))
            · rw [dh] at fin
              rw [if_pos (by rfl)]
              exact fin _ rfl
            · rw [dh] at fin
              rw [if_neg (by decide)]
              cases dg : W g w
              · rw [dg] at fin
                rw [if_pos (by rfl)]
                exact fin _ rfl
              · rw [dg] at fin
                rw [if_neg (by decide)]
                exact fin _ rfl
        · rw [cD_iff]
          constructor
          · rintro ⟨a, b, q, q2⟩
            exact ⟨a, b, Or.inl q, q2⟩
          · rintro ⟨a, b, q, q2⟩
            exact ⟨a, b, by omega, q2⟩
    obtain ⟨t', e2, h2, o2⟩ := step
    rw [e2, pl1]
    exact ih (n - 1) _ _ (by omega) ⟨j + 1, by omega, rfl, h2, o2⟩
end REST
theorem st_join : ST_join INV := by
  intro σ τ h a1 a2 a3
  obtain ⟨-, ⟨F, kd, W, f1, f2, f3⟩, -, -, -, ax⟩ := id h
  have hF := f1.1
  by_cases hf0 : 0 ≤ a2.toInt ∧ a2.toInt < F
  · obtain ⟨f, hf, rfl⟩ := of_range (by omega) hf0.1 hf0.2
    by_cases hg0 : 0 ≤ a3.toInt ∧ a3.toInt < F
    · obtain ⟨g, hg, rfl⟩ := of_range (x := a3) (by omega) hg0.1 hg0.2
      by_cases hh0 : 0 ≤ a1.toInt ∧ a1.toInt ≤ 7
      · obtain ⟨how, hh, rfl⟩ := of_range (x := a1) (n := 8) (by omega) hh0.1 (by omega)
        have dm : DMK σ F 0 (fun m => jW (W f) (W g) how m) (bqe (D8m_blank σ (nI 0)) (fun s => some (-4, s)) (fun r s => b1 (D8m_fillJoined s r (nI how) f g) (fun s2 => b2 (D8m_keep s2) (fun r s => some (r, s))))) := by
          refine DMK.of f2.1 ax.1 (fun hF9 σ0 hb0 => ?_)
          obtain ⟨σ1, e1, k1, z1, w1⟩ := fill_n (σ := σ0) hF9 hf hg hh hb0.2.1
          have old : ∀ i, i < F → ∀ q, q < 4096 → wb σ0 i q = W i (mir q) := fun i hi q hq => by
            rw [wb_dK hb0.1 (by omega), f2.P hi hq]
          refine ⟨σ1, by rw [e1, b1_s], k1.mo (fun c hc => by unfold jCells at hc; unfold dScr; omega), z1, fun m hm => ?_, ?_, ?_⟩
          · rw [w1 _ (mir_lt hm), jW_mir (V' := W f) (U' := W g) (old f hf) (old g hg) (mir_lt hm), mir_mir hm]
          · rw [(k1 11 (fun hc => by unfold jCells at hc; omega)).2.1]; exact hb0.2.2.2.1
          · rw [(k1 12 (fun hc => by unfold jCells at hc; omega)).2.1]; exact hb0.2.2.2.2
        have pD : D8m_join σ (nI how) (nI f) (nI g) = if nI how = 4 then (if nI (fb_ct (W g) 4096) = (0 : Int32) then some (-3, σ) else (bqe (D8m_blank σ (nI 0)) (fun s => some (-4, s)) (fun r s => b1 (D8m_fillJoined s r (nI how) f g) (fun s2 => b2 (D8m_keep s2) (fun r s => some (r, s)))))) else if nI how = 5 then (if nI (fb_ct (W g) 4096) = (0 : Int32) then some (-3, σ) else (bqe (D8m_blank σ (nI 0)) (fun s => some (-4, s)) (fun r s => b1 (D8m_fillJoined s r (nI how) f g) (fun s2 => b2 (D8m_keep s2) (fun r s => some (r, s)))))) else (bqe (D8m_blank σ (nI 0)) (fun s => some (-4, s)) (fun r s => b1 (D8m_fillJoined s r (nI how) f g) (fun s2 => b2 (D8m_keep s2) (fun r s => some (r, s))))) := by
          unfold D8m_join
          rw [family_n f2.1 hF hf, bq_k (by omega), family_n f2.1 hF hg, bq_k (by omega), if_neg (by rw [fa_lt, t0]; omega), if_neg (by rw [fa_lt, i32_7]; omega), size_n, b1_s, f2.ct hg]
          rfl
        have hct := fb_ct_le (W g) 4096
        by_cases st : (how = 4 ∨ how = 5) ∧ fb_ct (W g) 4096 = 0
        · refine ⟨-3, σ, τ, ?_, ?_, h⟩
          · rw [pD, st.2]
            rcases st.1 with rfl | rfl
            · rw [if_pos (by rfl), if_pos (by rfl)]
            · rw [if_neg (by decide), if_pos (by rfl), if_pos (by rfl)]
          · unfold Rm_join
            rw [if_neg (fun q => in_0.mp q ⟨by rw [t0]; omega, by rw [i32_7]; omega⟩), if_neg (fun q => (isFam_0 f3.1 hF).mp q hf0), if_neg (fun q => (isFam_0 f3.1 hF).mp q hg0), count0_n f3.R hF hg, b1_s, b1_s, st.2]
            rcases st.1 with rfl | rfl
            · rw [if_pos (by rfl), if_pos (by rfl)]
            · rw [if_neg (by decide), if_pos (by rfl), if_pos (by rfl)]
        · have eD : D8m_join σ (nI how) (nI f) (nI g) = (bqe (D8m_blank σ (nI 0)) (fun s => some (-4, s)) (fun r s => b1 (D8m_fillJoined s r (nI how) f g) (fun s2 => b2 (D8m_keep s2) (fun r s => some (r, s))))) := by
            rw [pD]
            by_cases c4 : how = 4
            · rw [if_pos (by rw [c4]; rfl), if_neg (nI_ne0 (by omega) (by omega))]
            · rw [if_neg (show ¬ nI how = (4 : Int32) from fun q => c4 ((nI_eq (b := 4) (by omega) (by omega)).mp q))]
              by_cases c5 : how = 5
              · rw [if_pos (by rw [c5]; rfl), if_neg (nI_ne0 (by omega) (by omega))]
              · rw [if_neg (show ¬ nI how = (5 : Int32) from fun q => c5 ((nI_eq (b := 5) (by omega) (by omega)).mp q))]
          rw [eD]
          have eR : ∃ τ1, Rm_join τ (nI how) (nI f) (nI g) = b2 (Rm_handed τ1) (fun r s => some (r, s)) ∧ HND τ τ1 4096 (fun m => jW (W f) (W g) how m) := by
            have simple : how ≠ 3 → how ≠ 5 → ∃ τ1, it2 (Rs_join_81 (nI how) (nI f) (nI g) (fun τ_16 => b2 (Rm_handed τ_16) (fun r_18 τ_19 => some (r_18, τ_19)))) fuel (0 : Int32) τ = b2 (Rm_handed τ1) (fun r s => some (r, s)) ∧ HND τ τ1 4096 (fun m => jW (W f) (W g) how m) := fun h3 h5 => by
              refine hand_loop (f := Rs_join_81 (nI how) (nI f) (nI g) (fun τ_16 => b2 (Rm_handed τ_16) (fun r_18 τ_19 => some (r_18, τ_19)))) (τ := τ) (fun t => b2 (Rm_handed t) (fun r s => some (r, s))) (fun m => jW (W f) (W g) how m) ax.2 (fun m τ1 rc hm hhd => ?_) (fun τ1 rc => ?_)
              · have hw : RW_ τ1 F W := f3.R.to (fun j _ => hhd.2.2.2 j)
                unfold Rs_join_81
                rw [if_neg (show ¬ (4096 : Int32) ≤ nI m from nI_ge (b := 4096) (by omega) (by decide)), joined_n hw hF hf hg hm hh h3 h5, b1_s, gi_n (by omega) (by decide), tn _ (by omega), bI_and, nm_s]
              · unfold Rs_join_81
                rw [if_pos (show (4096 : Int32) ≤ nI 4096 by decide)]
            unfold Rm_join
            rw [if_neg (fun q => in_0.mp q ⟨by rw [t0]; omega, by rw [i32_7]; omega⟩), if_neg (fun q => (isFam_0 f3.1 hF).mp q hf0), if_neg (fun q => (isFam_0 f3.1 hF).mp q hg0), count0_n f3.R hF hg, b1_s, b1_s]
            by_cases c4 : how = 4
            · rw [if_pos (by rw [c4]; rfl), if_neg (nI_ne0 (by omega) (by omega))]
              exact simple (by omega) (by omega)
            · rw [if_neg (show ¬ nI how = (4 : Int32) from fun q => c4 ((nI_eq (b := 4) (by omega) (by omega)).mp q))]
              by_cases c5 : how = 5
              · rw [if_pos (by rw [c5]; rfl), if_neg (nI_ne0 (by omega) (by omega))]
                obtain ⟨τ1, e1, h1⟩ := rest_n ax.2 f3.R hF hf hg
                exact ⟨τ1, by rw [e1, b1_s], h1.cong (fun m hm => by rw [c5]; rfl)⟩
              · rw [if_neg (show ¬ nI how = (5 : Int32) from fun q => c5 ((nI_eq (b := 5) (by omega) (by omega)).mp q))]
                by_cases c3 : how = 3
                · rw [if_pos (by rw [c3]; rfl)]
                  obtain ⟨τ1, e1, h1⟩ := unions_n ax.2 f3.R hF hf hg
                  exact ⟨τ1, by rw [e1, b1_s], h1.cong (fun m hm => by rw [c3]; rfl)⟩
                · rw [if_neg (show ¬ nI how = (3 : Int32) from fun q => c3 ((nI_eq (b := 3) (by omega) (by omega)).mp q))]
                  exact simple c3 c5
          obtain ⟨τ1, t1, t2⟩ := eR
          exact mk_hand (τ1 := τ1) h ⟨f1, f2, f3⟩ dm t1 t2
      · refine ⟨-2, σ, τ, ?_, ?_, h⟩
        · unfold D8m_join
          rw [family_n f2.1 hF hf, bq_k (by omega), family_n f2.1 hF hg, bq_k (by omega)]
          by_cases c1 : a1.toInt < 0
          · rw [if_pos (by rw [fa_lt, t0]; omega)]
          · rw [if_neg (by rw [fa_lt, t0]; omega), if_pos (by rw [fa_lt, i32_7]; omega)]
        · unfold Rm_join
          rw [if_pos (in_0.mpr (fun q => hh0 (by rw [t0, i32_7] at q; exact q)))]
    · refine ⟨-2, σ, τ, ?_, ?_, h⟩
      · unfold D8m_join
        rw [family_n f2.1 hF hf, bq_k (by omega), family_o f2.1 hF hg0, bq_n]
        repeat' split
        all_goals rfl
      · unfold Rm_join
        rw [if_neg (fun q => (isFam_0 f3.1 hF).mp q hf0), if_pos ((isFam_0 f3.1 hF).mpr hg0)]
        repeat' split
        all_goals rfl
  · refine ⟨-2, σ, τ, ?_, ?_, h⟩
    · unfold D8m_join
      rw [family_o f2.1 hF hf0, bq_n]
      by_cases hg0 : 0 ≤ a3.toInt ∧ a3.toInt < F
      · obtain ⟨g, hg, rfl⟩ := of_range (x := a3) (by omega) hg0.1 hg0.2
        rw [family_n f2.1 hF hg, bq_k (by omega)]
        repeat' split
        all_goals rfl
      · rw [family_o f2.1 hF hg0, bq_n]
        repeat' split
        all_goals rfl
    · unfold Rm_join
      rw [if_pos ((isFam_0 f3.1 hF).mpr hf0)]
      repeat' split
      all_goals rfl

/-! ===== chance, matters: the calls ===== -/
theorem chanceIf_n {σ : DS} {f : Nat} {V : Nat → Bool} {P R : Nat} {ld eA eB od : Nat → Nat} {wt : Nat → Int32} (n1 : NW P R ld eA eB od wt) (n2 : CN σ P R ld eA eB od wt) (hV : ∀ p, p < 4096 → wb σ f p = V (mir p)) {road : Int32} {e : Nat} (he : e ≤ 8) : ∃ σ', D8m_chanceIf σ f road (nI e) = some (lN (fb_sm (fun m => (if upM V m = true then 1 else 0) * rF (prO od road e) R m) (2 ^ R)), σ') ∧ dK_ (fun c => c = 15 ∨ c = 79 + 30) σ σ' := by
  have hR := n1.2.1
  obtain ⟨s1, e1, k1, w1⟩ := copy_n (σ := σ) (k := 30) (a := f)
  obtain ⟨s2, e2, k2, w2⟩ := up_n (σ := s1) (k := 30)
  have n2' := n2.to (k1.tr k2) (fun c hc => by omega)
  obtain ⟨s3, e3, k3⟩ := chanceOf_n n1 n2' (road := road) he
  refine ⟨s3, ?_, ((k1.tr k2).mo (fun c hc => Or.inr hc)).tr (k3.mo (fun c hc => Or.inl hc))⟩
  unfold D8m_chanceIf
  rw [e1, b1_s, e2, b1_s, e3, b2_s]
  refine congrArg (fun z => some (lN z, s3)) (chance_eq hR (prO od road e) (fun n => wb s2 30 (n * 2 ^ (12 - R))) (upM V) (fun n hn => ?_))
  have hl := pl_lt hR hn
  unfold upM rvR
  apply cD_eq
  rw [w2 _ hl]
  constructor
  · rintro ⟨p, hp, hs, hv⟩
    refine ⟨mir p, mir_lt hp, by rw [← hV p hp, ← w1 p hp]; exact hv, (sbs_mir hp hl).mpr hs⟩
  · rintro ⟨a, ha, hv, hs⟩
    refine ⟨mir a, mir_lt ha, (sbs_mir (mir_lt ha) hl).mp (by rw [mir_mir ha]; exact hs), ?_⟩
    rw [w1 _ (mir_lt ha), hV _ (mir_lt ha), mir_mir ha]
    exact hv
noncomputable def chV (V : Nat → Bool) (pr : Nat → Nat) (R : Nat) : Int64 := lN (fb_sm (fun m => (if upM V m = true then 1 else 0) * rF pr R m) (2 ^ R))
theorem st_chance : ST_chance INV := by
  intro σ τ h a1
  obtain ⟨⟨P, R, ld, eA, eB, od, wt, n1, n2, n3⟩, ⟨F, kd, W, f1, f2, f3⟩, -, -, -, ax⟩ := id h
  have hF := f1.1
  by_cases hf0 : 0 ≤ a1.toInt ∧ a1.toInt < F
  · obtain ⟨f, hf, rfl⟩ := of_range (by omega) hf0.1 hf0.2
    obtain ⟨σ', e1, k1⟩ := chanceIf_n (σ := σ) (f := f) n1 n2 (V := W f) (fun p hp => f2.P hf hp) (road := -1) (e := 0) (by omega)
    obtain ⟨τ', w, e2, h2⟩ := chance0_n n1 n3 ax.2 f3.R hF hf (road := -1) (e := 0) (by omega)
    refine ⟨chV (W f) (prO od (-1) 0) R, σ', τ', ?_, ?_, h.scr (fun F0 _ _ => k1.mo (fun c hc => by unfold dScr; omega)) h2.1 ⟨by rw [(k1 11 (by omega)).2.1, (k1 12 (by omega)).2.1]; exact ax.1, h2.2.2.1⟩⟩
    · unfold D8m_chance
      rw [family_n f2.1 hF hf, bq_k (by omega), show D8m_chanceIf σ f (-1) 0 = some (chV (W f) (prO od (-1) 0) R, σ') from e1, b2_s]
    · unfold Rm_chance
      rw [if_neg (fun q => (isFam_0 f3.1 hF).mp q hf0), show Rm_chance0 τ (nI f) (-1) 0 = some (chV (W f) (prO od (-1) 0) R, τ') from e2, b2_s]
  · refine ⟨-1, σ, τ, ?_, ?_, h⟩
    · unfold D8m_chance
      rw [family_o f2.1 hF hf0, bq_n]
    · unfold Rm_chance
      rw [if_pos ((isFam_0 f3.1 hF).mpr hf0)]
theorem st_matters : ST_matters INV := by
  intro σ τ h a1 a2
  obtain ⟨⟨P, R, ld, eA, eB, od, wt, n1, n2, n3⟩, ⟨F, kd, W, f1, f2, f3⟩, -, -, -, ax⟩ := id h
  have hF := f1.1
  have hR := n1.2.1
  by_cases hf0 : 0 ≤ a1.toInt ∧ a1.toInt < F
  · obtain ⟨f, hf, rfl⟩ := of_range (by omega) hf0.1 hf0.2
    by_cases hr0 : 0 ≤ a2.toInt ∧ a2.toInt < R
    · obtain ⟨σ1, e1, k1⟩ := chanceIf_n (σ := σ) (f := f) n1 n2 (V := W f) (fun p hp => f2.P hf hp) (road := a2) (e := 8) (by omega)
      obtain ⟨σ2, e2, k2⟩ := chanceIf_n (σ := σ1) (f := f) n1 (n2.to k1 (fun c hc => by omega)) (V := W f) (fun p hp => by rw [wb_dK k1 (by omega)]; exact f2.P hf hp) (road := a2) (e := 0) (by omega)
      obtain ⟨τ1, w, e3, h3⟩ := chance0_n n1 n3 ax.2 f3.R hF hf (road := a2) (e := 8) (by omega)
      obtain ⟨τ2, w2, e4, h4⟩ := chance0_n n1 (n3.to h3.1 (fun c hc => by simp only [rScr] at hc; omega)) h3.2.2.1 (f3.R.to (fun j _ => h3.2.2.2 j)) hF hf (road := a2) (e := 0) (by omega)
      refine ⟨chV (W f) (prO od a2 8) R - chV (W f) (prO od a2 0) R, σ2, τ2, ?_, ?_, h.scr (fun F0 _ _ => (k1.tr k2).mo (fun c hc => by unfold dScr; omega)) (h3.1.tr h4.1) ⟨by rw [((k1.tr k2) 11 (by omega)).2.1, ((k1.tr k2) 12 (by omega)).2.1]; exact ax.1, h4.2.2.1⟩⟩
      · unfold D8m_matters
        rw [family_n f2.1 hF hf, bq_k (by omega), if_neg (fun q => (isRoad_0 n1 n2).mp q hr0), show D8m_chanceIf σ f a2 8 = some (chV (W f) (prO od a2 8) R, σ1) from e1, b2_s, show D8m_chanceIf σ1 f a2 0 = some (chV (W f) (prO od a2 0) R, σ2) from e2, b2_s]
      · unfold Rm_matters
        rw [if_neg (fun q => (isFam_0 f3.1 hF).mp q hf0), if_neg (fun q => in_0.mp q ⟨by rw [t0]; omega, by rw [n3.2.1, sub1 (by omega)]; omega⟩), show Rm_chance0 τ (nI f) a2 8 = some (chV (W f) (prO od a2 8) R, τ1) from e3, b2_s, show Rm_chance0 τ1 (nI f) a2 0 = some (chV (W f) (prO od a2 0) R, τ2) from e4, b2_s]
    · refine ⟨-1, σ, τ, ?_, ?_, h⟩
      · unfold D8m_matters
        rw [family_n f2.1 hF hf, bq_k (by omega), if_pos ((isRoad_0 n1 n2).mpr hr0)]
      · unfold Rm_matters
        rw [if_neg (fun q => (isFam_0 f3.1 hF).mp q hf0), if_pos (in_0.mpr (fun q => hr0 (by rw [t0, n3.2.1, sub1 (by omega)] at q; omega)))]
  · refine ⟨-1, σ, τ, ?_, ?_, h⟩
    · unfold D8m_matters
      rw [family_o f2.1 hF hf0, bq_n]
    · unfold Rm_matters
      rw [if_pos ((isFam_0 f3.1 hF).mpr hf0)]

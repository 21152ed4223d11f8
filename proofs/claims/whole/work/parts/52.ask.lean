/-! ===== asked ===== -/
theorem CF.W {σ : DS} {F f : Nat} {kd : Nat → Nat} {W : Nat → Nat → Bool} (h : CF σ F kd W) (hf : f < F) {m : Nat} (hm : m < 4096) : wb σ f (mir m) = W f m := (h.2 f hf).2 m hm
theorem CF.P {σ : DS} {F f : Nat} {kd : Nat → Nat} {W : Nat → Nat → Bool} (h : CF σ F kd W) (hf : f < F) {p : Nat} (hp : p < 4096) : wb σ f p = W f (mir p) := by
  rw [← h.W hf (mir_lt hp), mir_mir hp]
theorem CF.ct {σ : DS} {F f : Nat} {kd : Nat → Nat} {W : Nat → Nat → Bool} (h : CF σ F kd W) (hf : f < F) : fb_ct (wb σ f) 4096 = fb_ct (W f) 4096 := by
  rw [← ct_mir (W f)]
  exact fb_ct_cong fun p hp => h.P hf hp
theorem RF.R {τ : RS} {F : Nat} {kd : Nat → Nat} {W : Nat → Nat → Bool} (h : RF τ F kd W) : RW_ τ F W := fun f hf m hm => (h.2 f hf).2 m hm
theorem RW_.to {τ τ' : RS} {F : Nat} {W : Nat → Nat → Bool} (h : RW_ τ F W) (e : ∀ j, j < 4096 * F → τ'.2 8 j = τ.2 8 j) : RW_ τ' F W := fun f hf m hm => by rw [e _ (by omega)]; exact h f hf m hm
theorem st_count : ST_count INV := by
  intro σ τ h a1
  obtain ⟨-, ⟨F, kd, W, f1, f2, f3⟩, -⟩ := id h
  have hF := f1.1
  by_cases hr : 0 ≤ a1.toInt ∧ a1.toInt < F
  · obtain ⟨f, hf, rfl⟩ := of_range (by omega) hr.1 hr.2
    refine ⟨nI (fb_ct (W f) 4096), σ, τ, ⟨?_, rfl⟩, ⟨?_, rfl⟩, h⟩
    · unfold D8m_count
      rw [family_n f2.1 hF hf, bq_k (by omega), size_n, b1_s, f2.ct hf]
    · unfold Rm_count
      rw [if_neg (fun q => (isFam_0 f3.1 hF).mp q hr), count0_n f3.R hF hf, b1_s]
  · refine ⟨-2, σ, τ, ⟨?_, rfl⟩, ⟨?_, rfl⟩, h⟩
    · unfold D8m_count
      rw [family_o f2.1 hF hr, bq_n]
    · unfold Rm_count
      rw [if_pos ((isFam_0 f3.1 hF).mpr hr)]
theorem st_has : ST_has INV := by
  intro σ τ h a1 a2
  obtain ⟨-, ⟨F, kd, W, f1, f2, f3⟩, -⟩ := id h
  have hF := f1.1
  by_cases hr : 0 ≤ a1.toInt ∧ a1.toInt < F
  · obtain ⟨f, hf, rfl⟩ := of_range (by omega) hr.1 hr.2
    by_cases c : a2.toInt < 0
    · refine ⟨-2, σ, τ, ⟨?_, rfl⟩, ⟨?_, rfl⟩, h⟩
      · unfold D8m_has
        rw [family_n f2.1 hF hf, bq_k (by omega)]
        ((try simp only [in_0]); simp (disch := omega) only [fa_lt, fa_le, fa_eq, it_nI, t0, i32_99, i32_8, i32_1, i32_2, i32_3, i32_4, i32_5, i32_6, i32_7, i32_11, i32_12, i32_13, i32_20, i32_30, i32_40, i32_50, i32_m50, i32_m1, i32_m2, i32_64, i32_256, i32_768, i32_4096, i32_600, i32_m600, i32_1000, i32_1201, if_pos, if_neg, reduceIte, b1_s, b2_s, nm_s, gi_n, tn, pl1, mi1, sub1, ml2, ml4, ml40, ml4096, ad, pl2, sub2, sub3, sub4, dA_p1, dA_p3, dS_p2, dS_p3, dJ_p1, dJ_p2, rA_p1, rS_p2])
      · unfold Rm_has
        rw [if_neg (fun q => (isFam_0 f3.1 hF).mp q hr)]
        ((try simp only [in_0]); simp (disch := omega) only [fa_lt, fa_le, fa_eq, it_nI, t0, i32_99, i32_8, i32_1, i32_2, i32_3, i32_4, i32_5, i32_6, i32_7, i32_11, i32_12, i32_13, i32_20, i32_30, i32_40, i32_50, i32_m50, i32_m1, i32_m2, i32_64, i32_256, i32_768, i32_4096, i32_600, i32_m600, i32_1000, i32_1201, if_pos, if_neg, reduceIte, b1_s, b2_s, nm_s, gi_n, tn, pl1, mi1, sub1, ml2, ml4, ml40, ml4096, ad, pl2, sub2, sub3, sub4, dA_p1, dA_p3, dS_p2, dS_p3, dJ_p1, dJ_p2, rA_p1, rS_p2])
    · by_cases d : 4096 ≤ a2.toInt
      · refine ⟨0, σ, τ, ⟨?_, rfl⟩, ⟨?_, rfl⟩, h⟩
        · unfold D8m_has
          rw [family_n f2.1 hF hf, bq_k (by omega)]
          ((try simp only [in_0]); simp (disch := omega) only [fa_lt, fa_le, fa_eq, it_nI, t0, i32_99, i32_8, i32_1, i32_2, i32_3, i32_4, i32_5, i32_6, i32_7, i32_11, i32_12, i32_13, i32_20, i32_30, i32_40, i32_50, i32_m50, i32_m1, i32_m2, i32_64, i32_256, i32_768, i32_4096, i32_600, i32_m600, i32_1000, i32_1201, if_pos, if_neg, reduceIte, b1_s, b2_s, nm_s, gi_n, tn, pl1, mi1, sub1, ml2, ml4, ml40, ml4096, ad, pl2, sub2, sub3, sub4, dA_p1, dA_p3, dS_p2, dS_p3, dJ_p1, dJ_p2, rA_p1, rS_p2])
        · unfold Rm_has
          rw [if_neg (fun q => (isFam_0 f3.1 hF).mp q hr)]
          ((try simp only [in_0]); simp (disch := omega) only [fa_lt, fa_le, fa_eq, it_nI, t0, i32_99, i32_8, i32_1, i32_2, i32_3, i32_4, i32_5, i32_6, i32_7, i32_11, i32_12, i32_13, i32_20, i32_30, i32_40, i32_50, i32_m50, i32_m1, i32_m2, i32_64, i32_256, i32_768, i32_4096, i32_600, i32_m600, i32_1000, i32_1201, if_pos, if_neg, reduceIte, b1_s, b2_s, nm_s, gi_n, tn, pl1, mi1, sub1, ml2, ml4, ml40, ml4096, ad, pl2, sub2, sub3, sub4, dA_p1, dA_p3, dS_p2, dS_p3, dJ_p1, dJ_p2, rA_p1, rS_p2])
      · obtain ⟨m, hm, rfl⟩ := of_range (x := a2) (n := 4096) (by omega) (by omega) (by omega)
        refine ⟨bI (W f m), σ, τ, ⟨?_, rfl⟩, ⟨?_, rfl⟩, h⟩
        · unfold D8m_has
          rw [family_n f2.1 hF hf, bq_k (by omega)]
          ((try simp only [in_0]); simp (disch := omega) only [mirrored_n hm, holds_n (mir_lt hm), fa_lt, fa_le, fa_eq, it_nI, t0, i32_99, i32_8, i32_1, i32_2, i32_3, i32_4, i32_5, i32_6, i32_7, i32_11, i32_12, i32_13, i32_20, i32_30, i32_40, i32_50, i32_m50, i32_m1, i32_m2, i32_64, i32_256, i32_768, i32_4096, i32_600, i32_m600, i32_1000, i32_1201, if_pos, if_neg, reduceIte, b1_s, b2_s, nm_s, gi_n, tn, pl1, mi1, sub1, ml2, ml4, ml40, ml4096, ad, pl2, sub2, sub3, sub4, dA_p1, dA_p3, dS_p2, dS_p3, dJ_p1, dJ_p2, rA_p1, rS_p2])
          rw [f2.W hf hm]
          cases W f m <;> rfl
        · unfold Rm_has
          rw [if_neg (fun q => (isFam_0 f3.1 hF).mp q hr)]
          ((try simp only [in_0]); simp (disch := omega) only [isWay_n f3.R hF hf hm, fa_lt, fa_le, fa_eq, it_nI, t0, i32_99, i32_8, i32_1, i32_2, i32_3, i32_4, i32_5, i32_6, i32_7, i32_11, i32_12, i32_13, i32_20, i32_30, i32_40, i32_50, i32_m50, i32_m1, i32_m2, i32_64, i32_256, i32_768, i32_4096, i32_600, i32_m600, i32_1000, i32_1201, if_pos, if_neg, reduceIte, b1_s, b2_s, nm_s, gi_n, tn, pl1, mi1, sub1, ml2, ml4, ml40, ml4096, ad, pl2, sub2, sub3, sub4, dA_p1, dA_p3, dS_p2, dS_p3, dJ_p1, dJ_p2, rA_p1, rS_p2])
          cases W f m <;> rfl
  · refine ⟨-2, σ, τ, ⟨?_, rfl⟩, ⟨?_, rfl⟩, h⟩
    · unfold D8m_has
      rw [family_o f2.1 hF hr, bq_n]
    · unfold Rm_has
      rw [if_pos ((isFam_0 f3.1 hF).mpr hr)]
theorem often_l {τ : RS} {F f r : Nat} {W : Nat → Nat → Bool} (h : RW_ τ F W) (hF : F ≤ 30) (hf : f < F) (hr2 : r < 12) : it2 (Rs_often_26 (nI f) (nI r) τ (fun u_8 => some u_8)) fuel (0 : Int32) (0 : Int32) = some (nI (fb_ct (fun m => W f m && m.testBit r) 4096)) := by
  refine Eq.trans rfl (it2_seq (f := Rs_often_26 (nI f) (nI r) τ (fun u_8 => some u_8)) (fun j => nI (fb_ct (fun m => W f m && m.testBit r) j)) (fun j => nI j) 4096 _ (by unfold fuel; omega) (fun j hj rc => ?_) (fun rc => ?_))
  · unfold Rs_often_26
    rw [if_neg (show ¬ (4096 : Int32) ≤ nI j from nI_ge (b := 4096) (by omega) (by decide)), isWay_n h hF hf hj, b1_s, fb_ct_succ, pl1, rholds_n (by omega) (by omega)]
    cases W f j
    · rw [if_pos (by rfl)]
      show rc (nI _ + nI 0) _ = _
      rw [ad]; rfl
    · rw [if_neg (by decide)]
      cases j.testBit r
      · rw [if_pos (by rfl)]
        show rc (nI _ + nI 0) _ = _
        rw [ad]; rfl
      · rw [if_neg (by decide), pl1]; rfl
  · unfold Rs_often_26
    ((try simp only [in_0]); simp (disch := omega) only [Int.le_refl, fa_lt, fa_le, fa_eq, it_nI, t0, i32_99, i32_8, i32_1, i32_2, i32_3, i32_4, i32_5, i32_6, i32_7, i32_11, i32_12, i32_13, i32_20, i32_30, i32_40, i32_50, i32_m50, i32_m1, i32_m2, i32_64, i32_256, i32_768, i32_4096, i32_600, i32_m600, i32_1000, i32_1201, if_pos, if_neg, reduceIte, b1_s, b2_s, nm_s, gi_n, tn, pl1, mi1, sub1, ml2, ml4, ml40, ml4096, ad, pl2, sub2, sub3, sub4, dA_p1, dA_p3, dS_p2, dS_p3, dJ_p1, dJ_p2, rA_p1, rS_p2])
theorem st_often : ST_often INV := by
  intro σ τ h a1 a2
  obtain ⟨-, ⟨F, kd, W, f1, f2, f3⟩, -⟩ := id h
  have hF := f1.1
  by_cases hr : 0 ≤ a1.toInt ∧ a1.toInt < F
  · obtain ⟨f, hf, rfl⟩ := of_range (by omega) hr.1 hr.2
    by_cases c : 0 ≤ a2.toInt ∧ a2.toInt < 12
    · obtain ⟨r, hr2, rfl⟩ := of_range (x := a2) (n := 12) (by omega) c.1 c.2
      refine ⟨nI (fb_ct (fun m => W f m && m.testBit r) 4096), σ, τ, ⟨?_, rfl⟩, ⟨?_, rfl⟩, h⟩
      · unfold D8m_often
        rw [family_n f2.1 hF hf, bq_k (by omega)]
        ((try simp only [in_0]); simp (disch := omega) only [fa_lt, fa_le, fa_eq, it_nI, t0, i32_99, i32_8, i32_1, i32_2, i32_3, i32_4, i32_5, i32_6, i32_7, i32_11, i32_12, i32_13, i32_20, i32_30, i32_40, i32_50, i32_m50, i32_m1, i32_m2, i32_64, i32_256, i32_768, i32_4096, i32_600, i32_m600, i32_1000, i32_1201, if_pos, if_neg, reduceIte, b1_s, b2_s, nm_s, gi_n, tn, pl1, mi1, sub1, ml2, ml4, ml40, ml4096, ad, pl2, sub2, sub3, sub4, dA_p1, dA_p3, dS_p2, dS_p3, dJ_p1, dJ_p2, rA_p1, rS_p2])
        rw [show (11 : Int32) - nI r = nI (11 - r) from pk_sub (a := 11) (by omega), sizeWith_n (by omega), b1_s, ← ct_mir (fun m => W f m && m.testBit r)]
        refine congrArg some (congrArg nI (fb_ct_cong fun p hp => ?_))
        rw [f2.P hf hp, mir_tb hp hr2]
      · unfold Rm_often
        rw [if_neg (fun q => (isFam_0 f3.1 hF).mp q hr)]
        ((try simp only [in_0, in_0]); simp (disch := omega) only [fa_lt, fa_le, fa_eq, it_nI, t0, i32_99, i32_8, i32_1, i32_2, i32_3, i32_4, i32_5, i32_6, i32_7, i32_11, i32_12, i32_13, i32_20, i32_30, i32_40, i32_50, i32_m50, i32_m1, i32_m2, i32_64, i32_256, i32_768, i32_4096, i32_600, i32_m600, i32_1000, i32_1201, if_pos, if_neg, reduceIte, b1_s, b2_s, nm_s, gi_n, tn, pl1, mi1, sub1, ml2, ml4, ml40, ml4096, ad, pl2, sub2, sub3, sub4, dA_p1, dA_p3, dS_p2, dS_p3, dJ_p1, dJ_p2, rA_p1, rS_p2])
        exact often_l f3.R hF hf hr2
    · refine ⟨-2, σ, τ, ⟨?_, rfl⟩, ⟨?_, rfl⟩, h⟩
      · unfold D8m_often
        rw [family_n f2.1 hF hf, bq_k (by omega)]
        ((try simp only [in_0]); simp (disch := omega) only [fa_lt, fa_le, fa_eq, it_nI, t0, i32_99, i32_8, i32_1, i32_2, i32_3, i32_4, i32_5, i32_6, i32_7, i32_11, i32_12, i32_13, i32_20, i32_30, i32_40, i32_50, i32_m50, i32_m1, i32_m2, i32_64, i32_256, i32_768, i32_4096, i32_600, i32_m600, i32_1000, i32_1201, if_pos, if_neg, reduceIte, b1_s, b2_s, nm_s, gi_n, tn, pl1, mi1, sub1, ml2, ml4, ml40, ml4096, ad, pl2, sub2, sub3, sub4, dA_p1, dA_p3, dS_p2, dS_p3, dJ_p1, dJ_p2, rA_p1, rS_p2])
        split
        · rfl
        · rfl
      · unfold Rm_often
        rw [if_neg (fun q => (isFam_0 f3.1 hF).mp q hr)]
        ((try simp only [in_0, in_0]); simp (disch := omega) only [fa_lt, fa_le, fa_eq, it_nI, t0, i32_99, i32_8, i32_1, i32_2, i32_3, i32_4, i32_5, i32_6, i32_7, i32_11, i32_12, i32_13, i32_20, i32_30, i32_40, i32_50, i32_m50, i32_m1, i32_m2, i32_64, i32_256, i32_768, i32_4096, i32_600, i32_m600, i32_1000, i32_1201, if_pos, if_neg, reduceIte, b1_s, b2_s, nm_s, gi_n, tn, pl1, mi1, sub1, ml2, ml4, ml40, ml4096, ad, pl2, sub2, sub3, sub4, dA_p1, dA_p3, dS_p2, dS_p3, dJ_p1, dJ_p2, rA_p1, rS_p2])
  · refine ⟨-2, σ, τ, ⟨?_, rfl⟩, ⟨?_, rfl⟩, h⟩
    · unfold D8m_often
      rw [family_o f2.1 hF hr, bq_n]
    · unfold Rm_often
      rw [if_pos ((isFam_0 f3.1 hF).mpr hr)]
theorem st_same : ST_same INV := by
  intro σ τ h a1 a2
  obtain ⟨-, ⟨F, kd, W, f1, f2, f3⟩, -⟩ := id h
  have hF := f1.1
  by_cases hr : 0 ≤ a1.toInt ∧ a1.toInt < F
  · obtain ⟨f, hf, rfl⟩ := of_range (by omega) hr.1 hr.2
    by_cases hs : 0 ≤ a2.toInt ∧ a2.toInt < F
    · obtain ⟨g, hg, rfl⟩ := of_range (x := a2) (by omega) hs.1 hs.2
      have key : ∀ (n : Nat) (v w : Int32), n < fuel → (∃ j, j + n = 4096 ∧ w = nI j ∧ ((v = 1 ∧ ∀ m, m < j → W f m = W g m) ∨ (v = 0 ∧ ¬ ∀ m, m < 4096 → W f m = W g m))) → (fun o : Option Int32 => ((∀ m, m < 4096 → W f m = W g m) → o = some 1) ∧ ((¬ ∀ m, m < 4096 → W f m = W g m) → o = some 0)) (it2 (Rs_same_24 (nI f) (nI g) τ (fun u_10 => if u_10 = (0 : Int32) then (some (0 : Int32)) else (some (1 : Int32)))) fuel v w) := fun n v w hn hp => by
        refine it2_ind (f := Rs_same_24 (nI f) (nI g) τ (fun u_10 => if u_10 = (0 : Int32) then (some (0 : Int32)) else (some (1 : Int32)))) (P := fun n v w => ∃ j, j + n = 4096 ∧ w = nI j ∧ ((v = 1 ∧ ∀ m, m < j → W f m = W g m) ∨ (v = 0 ∧ ¬ ∀ m, m < 4096 → W f m = W g m))) (Q := fun o => ((∀ m, m < 4096 → W f m = W g m) → o = some 1) ∧ ((¬ ∀ m, m < 4096 → W f m = W g m) → o = some 0)) ?_ fuel n v w hn hp
        rintro n v w rc ⟨j, hj, rfl, hv⟩ ih
        unfold Rs_same_24
        by_cases c : j = 4096
        · subst c
          rw [if_pos (show (4096 : Int32) ≤ nI 4096 by decide)]
          rcases hv with ⟨rfl, hv⟩ | ⟨rfl, hv⟩
          · exact ⟨fun _ => rfl, fun h => absurd hv h⟩
          · exact ⟨fun h => absurd h hv, fun _ => rfl⟩
        · rw [if_neg (show ¬ (4096 : Int32) ≤ nI j from nI_ge (b := 4096) (by omega) (by decide)), pl1]
          rcases hv with ⟨rfl, hv⟩ | ⟨rfl, hv⟩
          · rw [if_neg (by decide), isWay_n f3.R hF hf (by omega), b1_s, isWay_n f3.R hF hg (by omega), b1_s]
            by_cases d : W f j = W g j
            · rw [if_pos (by rw [d])]
              refine ih (n - 1) _ _ (by omega) ⟨j + 1, by omega, rfl, Or.inl ⟨rfl, fun m hm => ?_⟩⟩
              by_cases e : m = j
              · subst e; exact d
              · exact hv m (by omega)
            · rw [if_neg (fun h => d (bI_inj.mp h))]
              exact ih (n - 1) _ _ (by omega) ⟨j + 1, by omega, rfl, Or.inr ⟨rfl, fun h => d (h j (by omega))⟩⟩
          · rw [if_pos rfl]
            exact ih (n - 1) _ _ (by omega) ⟨j + 1, by omega, rfl, Or.inr ⟨rfl, hv⟩⟩
      have kr := key 4096 1 0 (by unfold fuel; omega) ⟨0, rfl, rfl, Or.inl ⟨rfl, fun m hm => by omega⟩⟩
      have kl := like_n (σ := σ) (k := f) (f := g)
      have hiff : (∀ q, q < 4096 → wb σ f q = wb σ g q) ↔ (∀ m, m < 4096 → W f m = W g m) := by
        constructor
        · intro hq m hm
          rw [← f2.W hf hm, ← f2.W hg hm, hq _ (mir_lt hm)]
        · intro hq p hp
          rw [f2.P hf hp, f2.P hg hp, hq _ (mir_lt hp)]
      by_cases c : ∀ m, m < 4096 → W f m = W g m
      · refine ⟨1, σ, τ, ⟨?_, rfl⟩, ⟨?_, rfl⟩, h⟩
        · unfold D8m_same
          rw [family_n f2.1 hF hf, bq_k (by omega), family_n f2.1 hF hg, bq_k (by omega), kl.1 (hiff.mpr c), b1_s]
          rfl
        · unfold Rm_same
          rw [if_neg (fun q => (isFam_0 f3.1 hF).mp q hr), if_neg (fun q => (isFam_0 f3.1 hF).mp q hs)]
          exact kr.1 c
      · refine ⟨0, σ, τ, ⟨?_, rfl⟩, ⟨?_, rfl⟩, h⟩
        · unfold D8m_same
          rw [family_n f2.1 hF hf, bq_k (by omega), family_n f2.1 hF hg, bq_k (by omega), kl.2 (fun q => c (hiff.mp q)), b1_s]
          rfl
        · unfold Rm_same
          rw [if_neg (fun q => (isFam_0 f3.1 hF).mp q hr), if_neg (fun q => (isFam_0 f3.1 hF).mp q hs)]
          exact kr.2 c
    · refine ⟨-2, σ, τ, ⟨?_, rfl⟩, ⟨?_, rfl⟩, h⟩
      · unfold D8m_same
        rw [family_n f2.1 hF hf, bq_k (by omega), family_o f2.1 hF hs, bq_n]
      · unfold Rm_same
        rw [if_neg (fun q => (isFam_0 f3.1 hF).mp q hr), if_pos ((isFam_0 f3.1 hF).mpr hs)]
  · refine ⟨-2, σ, τ, ⟨?_, rfl⟩, ⟨?_, rfl⟩, h⟩
    · unfold D8m_same
      rw [family_o f2.1 hF hr, bq_n]
      by_cases hs : 0 ≤ a2.toInt ∧ a2.toInt < F
      · obtain ⟨g, hg, rfl⟩ := of_range (x := a2) (by omega) hs.1 hs.2
        rw [family_n f2.1 hF hg, bq_k (by omega)]
      · rw [family_o f2.1 hF hs, bq_n]
    · unfold Rm_same
      rw [if_pos ((isFam_0 f3.1 hF).mpr hr)]

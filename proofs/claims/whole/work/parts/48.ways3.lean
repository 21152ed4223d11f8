/-! ===== the rest of a set of ways ===== -/
theorem by_n {σ : DS} {k f l : Nat} {b : Int32} (hl : l < 12) : ∃ σ', D7m_takeBy k σ f (nI l) b = some σ' ∧ dK_ (fun c => c = 79 + k) σ σ' ∧ ∀ q, q < 4096 → wb σ' k q = (wb σ f q && (q.testBit l == decide (b ≠ 0))) := by
  obtain ⟨g, hg⟩ : ∃ g : Nat → Int64, g = fun w => if b = 0 then σ.2.2 (79 + f) w &&& (hv w l ^^^ (-1)) else σ.2.2 (79 + f) w &&& hv w l := ⟨_, rfl⟩
  refine ⟨jFill σ (79 + k) 64 g, ?_, dK_JF rfl, fun q hq => ?_⟩
  · unfold D7m_takeBy
    have e0 : σ = jFill σ (79 + k) 0 g := jFill_0.symm
    refine Eq.trans ?_ (it2_seq (f := D7s_takeBy_3 k f (nI l) b (fun τ_12 => some τ_12)) (fun j => nI j) (fun j => jFill σ (79 + k) j g) 64 _ (by unfold fuel; omega) (fun j hj rc => ?_) (fun rc => ?_))
    · conv => lhs; rw [e0]
      rfl
    · unfold D7s_takeBy_3
      ((try simp only [in_0]); simp (disch := omega) only [having_n hj hl, fa_lt, fa_le, fa_eq, it_nI, t0, i32_99, i32_8, i32_1, i32_2, i32_3, i32_4, i32_5, i32_6, i32_7, i32_11, i32_12, i32_13, i32_20, i32_30, i32_40, i32_50, i32_m50, i32_m1, i32_m2, i32_64, i32_256, i32_768, i32_4096, i32_600, i32_m600, i32_1000, i32_1201, if_pos, if_neg, reduceIte, b1_s, b2_s, nm_s, gi_n, tn, pl1, mi1, sub1, ml2, ml4, ml40, ml4096, ad, pl2, sub2, sub3, sub4, dA_p1, dA_p3, dS_p2, dS_p3, dJ_p1, dJ_p2, rA_p1, rS_p2])
      rw [← jFill_s, jFill_o (Nat.le_refl j), hg]
      dsimp only
      by_cases c : b = 0
      · rw [if_pos (by rw [c]; rfl), if_pos c]
      · rw [if_neg (fun h => c (Int32.toInt_inj.mp (by rw [h]; rfl))), if_neg c]
    · unfold D7s_takeBy_3
      ((try simp only [in_0]); simp (disch := omega) only [Int.le_refl, fa_lt, fa_le, fa_eq, it_nI, t0, i32_99, i32_8, i32_1, i32_2, i32_3, i32_4, i32_5, i32_6, i32_7, i32_11, i32_12, i32_13, i32_20, i32_30, i32_40, i32_50, i32_m50, i32_m1, i32_m2, i32_64, i32_256, i32_768, i32_4096, i32_600, i32_m600, i32_1000, i32_1201, if_pos, if_neg, reduceIte, b1_s, b2_s, nm_s, gi_n, tn, pl1, mi1, sub1, ml2, ml4, ml40, ml4096, ad, pl2, sub2, sub3, sub4, dA_p1, dA_p3, dS_p2, dS_p3, dJ_p1, dJ_p2, rA_p1, rS_p2])
  · rw [wb_jf hq, hg]
    dsimp only
    have hm := Nat.mod_lt q (show 0 < 64 by decide)
    have hb := bL_hv (w := q / 64) (l := l) hm
    rw [Nat.div_add_mod] at hb
    by_cases c : b = 0
    · rw [if_pos c, bL_and, bL_not _ hm, hb, ← wb_eq, decide_eq_false (by simp [c])]
      cases q.testBit l <;> rfl
    · rw [if_neg c, bL_and, hb, ← wb_eq, decide_eq_true c]
      cases q.testBit l <;> rfl
theorem sizeWith_n {σ : DS} {k l : Nat} (hl : l < 12) : D7m_sizeWith k σ (nI l) = some (nI (fb_ct (fun p => wb σ k p && p.testBit l) 4096)) := by
  unfold D7m_sizeWith
  refine Eq.trans rfl (it2_seq (f := D7s_sizeWith_4 k (nI l) σ (fun u_6 => some u_6)) (fun j => nI (fb_ct (fun p => wb σ k p && p.testBit l) (64 * j))) (fun j => nI j) 64 _ (by unfold fuel; omega) (fun j hj rc => ?_) (fun rc => ?_))
  · unfold D7s_sizeWith_4
    ((try simp only [in_0]); simp (disch := omega) only [having_n hj hl, pop_w, fa_lt, fa_le, fa_eq, it_nI, t0, i32_99, i32_8, i32_1, i32_2, i32_3, i32_4, i32_5, i32_6, i32_7, i32_11, i32_12, i32_13, i32_20, i32_30, i32_40, i32_50, i32_m50, i32_m1, i32_m2, i32_64, i32_256, i32_768, i32_4096, i32_600, i32_m600, i32_1000, i32_1201, if_pos, if_neg, reduceIte, b1_s, b2_s, nm_s, gi_n, tn, pl1, mi1, sub1, ml2, ml4, ml40, ml4096, ad, pl2, sub2, sub3, sub4, dA_p1, dA_p3, dS_p2, dS_p3, dJ_p1, dJ_p2, rA_p1, rS_p2])
    congr 2
    rw [show 64 * (j + 1) = 64 * j + 64 by omega, ct_add]
    congr 1
    apply fb_ct_cong
    intro i hi
    rw [wb_eq, show (64 * j + i) / 64 = j by omega, show (64 * j + i) % 64 = i by omega, bL_and, bL_hv hi]
  · unfold D7s_sizeWith_4
    ((try simp only [in_0]); simp (disch := omega) only [Int.le_refl, fa_lt, fa_le, fa_eq, it_nI, t0, i32_99, i32_8, i32_1, i32_2, i32_3, i32_4, i32_5, i32_6, i32_7, i32_11, i32_12, i32_13, i32_20, i32_30, i32_40, i32_50, i32_m50, i32_m1, i32_m2, i32_64, i32_256, i32_768, i32_4096, i32_600, i32_m600, i32_1000, i32_1201, if_pos, if_neg, reduceIte, b1_s, b2_s, nm_s, gi_n, tn, pl1, mi1, sub1, ml2, ml4, ml40, ml4096, ad, pl2, sub2, sub3, sub4, dA_p1, dA_p3, dS_p2, dS_p3, dJ_p1, dJ_p2, rA_p1, rS_p2])
theorem ct_pos (p : Nat → Bool) : ∀ n, (0 < fb_ct p n ↔ ∃ i, i < n ∧ p i = true)
  | 0 => ⟨fun h => absurd h (Nat.lt_irrefl 0), fun ⟨i, h, _⟩ => by omega⟩
  | n + 1 => by
    rw [fb_ct_succ]
    have ih := ct_pos p n
    cases c : p n with
    | true => exact ⟨fun _ => ⟨n, by omega, c⟩, fun _ => by simp⟩
    | false =>
      simp only [Bool.false_eq_true, if_false, Nat.add_zero]
      rw [ih]
      constructor
      · rintro ⟨i, a, b⟩; exact ⟨i, by omega, b⟩
      · rintro ⟨i, a, b⟩
        refine ⟨i, ?_, b⟩
        by_cases e : i = n
        · subst e; rw [c] at b; exact absurd b (by decide)
        · omega
/-- the bits that some way has -/
def usdP (W : Nat → Bool) (u : Nat) : Prop := u < 4096 ∧ ∀ i, i < 12 → (u.testBit i = true ↔ ∃ p, p < 4096 ∧ W p = true ∧ p.testBit i = true)
theorem or_bit {u l : Nat} (hu : u < 2 ^ l) : ∀ i, (u ||| 2 ^ l).testBit i = if i = l then true else u.testBit i := by
  intro i
  rw [Nat.testBit_or, Nat.testBit_two_pow]
  by_cases e : i = l
  · rw [if_pos e, decide_eq_true e.symm, Bool.or_true]
  · rw [if_neg e, decide_eq_false (fun h => e h.symm), Bool.or_false]
theorem used_n {σ : DS} {k : Nat} : ∃ u, D7m_used k σ = some (nI u) ∧ usdP (wb σ k) u := by
  unfold D7m_used
  refine it2_ind (f := D7s_used_4 k σ (fun u_5 => some u_5)) (P := fun n v w => ∃ l u, l + n = 12 ∧ w = nI l ∧ v = nI u ∧ u < 2 ^ l ∧ ∀ i, i < l → (u.testBit i = true ↔ ∃ p, p < 4096 ∧ wb σ k p = true ∧ p.testBit i = true)) (Q := fun o => ∃ u, o = some (nI u) ∧ usdP (wb σ k) u) ?_ fuel 12 (0 : Int32) (0 : Int32) (by unfold fuel; omega) ⟨0, 0, rfl, rfl, rfl, by decide, fun i hi => absurd hi (Nat.not_lt_zero i)⟩
  rintro n v w rc ⟨l, u, hl, rfl, rfl, hu, hs⟩ ih
  unfold D7s_used_4
  by_cases c : l = 12
  · subst c
    ((try simp only [in_0]); simp (disch := omega) only [fa_lt, fa_le, fa_eq, it_nI, t0, i32_99, i32_8, i32_1, i32_2, i32_3, i32_4, i32_5, i32_6, i32_7, i32_11, i32_12, i32_13, i32_20, i32_30, i32_40, i32_50, i32_m50, i32_m1, i32_m2, i32_64, i32_256, i32_768, i32_4096, i32_600, i32_m600, i32_1000, i32_1201, if_pos, if_neg, reduceIte, b1_s, b2_s, nm_s, gi_n, tn, pl1, mi1, sub1, ml2, ml4, ml40, ml4096, ad, pl2, sub2, sub3, sub4, dA_p1, dA_p3, dS_p2, dS_p3, dJ_p1, dJ_p2, rA_p1, rS_p2])
    exact ⟨u, rfl, hu, hs⟩
  · have hL : 2 ^ l ≤ 2 ^ 11 := Nat.pow_le_pow_right (by decide) (by omega)
    ((try simp only [in_0]); simp (disch := omega) only [sizeWith_n (show l < 12 by omega), fa_lt, fa_le, fa_eq, it_nI, t0, i32_99, i32_8, i32_1, i32_2, i32_3, i32_4, i32_5, i32_6, i32_7, i32_11, i32_12, i32_13, i32_20, i32_30, i32_40, i32_50, i32_m50, i32_m1, i32_m2, i32_64, i32_256, i32_768, i32_4096, i32_600, i32_m600, i32_1000, i32_1201, if_pos, if_neg, reduceIte, b1_s, b2_s, nm_s, gi_n, tn, pl1, mi1, sub1, ml2, ml4, ml40, ml4096, ad, pl2, sub2, sub3, sub4, dA_p1, dA_p3, dS_p2, dS_p3, dJ_p1, dJ_p2, rA_p1, rS_p2])
    have hct := fb_ct_le (fun p => wb σ k p && p.testBit l) 4096
    have hp := ct_pos (fun p => wb σ k p && p.testBit l) 4096
    rw [it_nI (by omega)]
    by_cases d : 0 < fb_ct (fun p => wb σ k p && p.testBit l) 4096
    · rw [if_neg (by omega), shl1 (by omega), fa_or]
      refine ih (n - 1) _ _ (by omega) ⟨l + 1, u ||| 2 ^ l, by omega, rfl, rfl, ?_, fun i hi => ?_⟩
      · exact Nat.or_lt_two_pow (Nat.lt_of_lt_of_le hu (Nat.pow_le_pow_right (by decide) (by omega))) (Nat.pow_lt_pow_right (by decide) (by omega))
      · rw [or_bit hu]
        by_cases e : i = l
        · subst e
          rw [if_pos rfl]
          obtain ⟨p, a, b⟩ := hp.mp d
          simp only [Bool.and_eq_true] at b
          exact ⟨fun _ => ⟨p, a, b.1, b.2⟩, fun _ => rfl⟩
        · rw [if_neg e]; exact hs i (by omega)
    · rw [if_pos (by omega)]
      refine ih (n - 1) _ _ (by omega) ⟨l + 1, u, by omega, rfl, rfl, Nat.lt_of_lt_of_le hu (Nat.pow_le_pow_right (by decide) (by omega)), fun i hi => ?_⟩
      by_cases e : i = l
      · subst e
        rw [Nat.testBit_lt_two_pow hu]
        refine ⟨fun h => absurd h (by decide), ?_⟩
        rintro ⟨p, a, b, c'⟩
        exact absurd (hp.mpr ⟨p, a, by simp [b, c']⟩) d
      · exact hs i (by omega)
theorem below_n {u : Nat} (hu : u < 4096) : ∃ b, b ≤ 12 ∧ D7m_levelsBelow (nI u) = some (nI b) ∧ (∀ i, i < b → u.testBit i = false) ∧ (b < 12 → u.testBit b = true) := by
  unfold D7m_levelsBelow
  refine it1_ind (f := D7s_levelsBelow_2 (nI u) (fun u_3 => some u_3)) (P := fun n v => ∃ l, l + n = 12 ∧ v = nI l ∧ ∀ i, i < l → u.testBit i = false) (Q := fun o => ∃ b, b ≤ 12 ∧ o = some (nI b) ∧ (∀ i, i < b → u.testBit i = false) ∧ (b < 12 → u.testBit b = true)) ?_ fuel 12 (0 : Int32) (by unfold fuel; omega) ⟨0, rfl, rfl, fun i hi => absurd hi (Nat.not_lt_zero i)⟩
  rintro n v rc ⟨l, hl, rfl, hs⟩ ih
  unfold D7s_levelsBelow_2
  by_cases c : l = 12
  · subst c
    ((try simp only [in_0]); simp (disch := omega) only [fa_lt, fa_le, fa_eq, it_nI, t0, i32_99, i32_8, i32_1, i32_2, i32_3, i32_4, i32_5, i32_6, i32_7, i32_11, i32_12, i32_13, i32_20, i32_30, i32_40, i32_50, i32_m50, i32_m1, i32_m2, i32_64, i32_256, i32_768, i32_4096, i32_600, i32_m600, i32_1000, i32_1201, if_pos, if_neg, reduceIte, b1_s, b2_s, nm_s, gi_n, tn, pl1, mi1, sub1, ml2, ml4, ml40, ml4096, ad, pl2, sub2, sub3, sub4, dA_p1, dA_p3, dS_p2, dS_p3, dJ_p1, dJ_p2, rA_p1, rS_p2])
    exact ⟨12, by omega, rfl, hs, fun h => by omega⟩
  · rw [shl1 (by omega)]
    have hb := fa_bit (n := u) (j := l) (by omega)
    rw [if_neg (show ¬ (12 : Int32) ≤ nI l from nI_ge (a := l) (b := 12) (by omega) (by decide))]
    cases d : u.testBit l with
    | false =>
      rw [if_pos (hb.mpr d), pl1]
      refine ih (n - 1) _ (by omega) ⟨l + 1, by omega, rfl, fun i hi => ?_⟩
      by_cases e : i = l
      · subst e; exact d
      · exact hs i (by omega)
    | true =>
      rw [if_neg (fun h => by rw [hb.mp h] at d; exact absurd d (by decide))]
      exact ⟨l, by omega, rfl, hs, fun _ => d⟩
theorem like_n {σ : DS} {k f : Nat} : ((∀ q, q < 4096 → wb σ k q = wb σ f q) → D7m_isLike k σ f = some 1) ∧ (¬ (∀ q, q < 4096 → wb σ k q = wb σ f q) → D7m_isLike k σ f = some 0) := by
  unfold D7m_isLike
  refine it1_ind (f := D7s_isLike_2 k f σ (some (0 : Int32)) (some (1 : Int32))) (P := fun n v => ∃ l, l + n = 64 ∧ v = nI l ∧ ∀ q, q < 64 * l → wb σ k q = wb σ f q) (Q := fun o => ((∀ q, q < 4096 → wb σ k q = wb σ f q) → o = some 1) ∧ (¬ (∀ q, q < 4096 → wb σ k q = wb σ f q) → o = some 0)) ?_ fuel 64 (0 : Int32) (by unfold fuel; omega) ⟨0, rfl, rfl, fun i hi => by omega⟩
  rintro n v rc ⟨l, hl, rfl, hs⟩ ih
  unfold D7s_isLike_2
  by_cases c : l = 64
  · subst c
    ((try simp only [in_0]); simp (disch := omega) only [fa_lt, fa_le, fa_eq, it_nI, t0, i32_99, i32_8, i32_1, i32_2, i32_3, i32_4, i32_5, i32_6, i32_7, i32_11, i32_12, i32_13, i32_20, i32_30, i32_40, i32_50, i32_m50, i32_m1, i32_m2, i32_64, i32_256, i32_768, i32_4096, i32_600, i32_m600, i32_1000, i32_1201, if_pos, if_neg, reduceIte, b1_s, b2_s, nm_s, gi_n, tn, pl1, mi1, sub1, ml2, ml4, ml40, ml4096, ad, pl2, sub2, sub3, sub4, dA_p1, dA_p3, dS_p2, dS_p3, dJ_p1, dJ_p2, rA_p1, rS_p2])
    exact ⟨fun _ => trivial, fun h => absurd hs h⟩
  · ((try simp only [in_0]); simp (disch := omega) only [lg0i, fa_lt, fa_le, fa_eq, it_nI, t0, i32_99, i32_8, i32_1, i32_2, i32_3, i32_4, i32_5, i32_6, i32_7, i32_11, i32_12, i32_13, i32_20, i32_30, i32_40, i32_50, i32_m50, i32_m1, i32_m2, i32_64, i32_256, i32_768, i32_4096, i32_600, i32_m600, i32_1000, i32_1201, if_pos, if_neg, reduceIte, b1_s, b2_s, nm_s, gi_n, tn, pl1, mi1, sub1, ml2, ml4, ml40, ml4096, ad, pl2, sub2, sub3, sub4, dA_p1, dA_p3, dS_p2, dS_p3, dJ_p1, dJ_p2, rA_p1, rS_p2])
    by_cases d : σ.2.2 (79 + k) l = σ.2.2 (79 + f) l
    · rw [if_pos d]
      refine ih (n - 1) _ (by omega) ⟨l + 1, by omega, rfl, fun q hq => ?_⟩
      by_cases e : q < 64 * l
      · exact hs q e
      · rw [wb_eq, wb_eq, show q / 64 = l by omega, d]
    · rw [if_neg d]
      refine ⟨fun h => absurd (bL_ext fun i hi => ?_) d, fun _ => rfl⟩
      have := h (64 * l + i) (by omega)
      rw [wb_eq, wb_eq, show (64 * l + i) / 64 = l by omega, show (64 * l + i) % 64 = i by omega] at this
      exact this
theorem ahead_n {σ : DS} {k p : Nat} (hp : p < 4096) : D7m_sizeAhead k σ (nI p) = some (nI (fb_ct (wb σ k) p)) := by
  have hm := Nat.mod_lt p (show 0 < 64 by decide)
  have mask : ∀ b, b < 64 → ∀ i, i < 64 → bL (((1 : Int64) <<< ((nI b).toInt64 &&& 63)) - 1) i = decide (i < b) := by decide +kernel
  have full : ∀ j, j < p / 64 → fb_ct (wb σ k) (64 * (j + 1)) = fb_ct (wb σ k) (64 * j) + fb_ct (fun i => bL (σ.2.2 (79 + k) j &&& (-1)) i) 64 := fun j hj => by
    rw [show 64 * (j + 1) = 64 * j + 64 by omega, ct_add]
    congr 1
    apply fb_ct_cong
    intro i hi
    rw [wb_eq, show (64 * j + i) / 64 = j by omega, show (64 * j + i) % 64 = i by omega, bL_and, bL_m1 i hi, Bool.and_true]
  have ctl : ∀ (g : Nat → Bool) (b n : Nat), b ≤ n → fb_ct (fun i => g i && decide (i < b)) n = fb_ct g b := fun g b n hb => by
    obtain ⟨d, rfl⟩ : ∃ d, n = b + d := ⟨n - b, by omega⟩
    rw [ct_add]
    have e1 : fb_ct (fun i => g i && decide (i < b)) b = fb_ct g b := fb_ct_cong fun i hi => by rw [decide_eq_true hi, Bool.and_true]
    have e2 : ∀ d, fb_ct (fun i => g (b + i) && decide (b + i < b)) d = 0 := fun d => by
      induction d with
      | zero => rfl
      | succ d ih => rw [fb_ct_succ, ih, decide_eq_false (by omega), Bool.and_false]; rfl
    rw [e1, e2]
    rfl
  have last : fb_ct (wb σ k) p = fb_ct (wb σ k) (64 * (p / 64)) + fb_ct (fun i => bL (σ.2.2 (79 + k) (p / 64) &&& (((1 : Int64) <<< ((nI (p % 64)).toInt64 &&& 63)) - 1)) i) 64 := by
    have e : fb_ct (wb σ k) p = fb_ct (wb σ k) (64 * (p / 64) + p % 64) := by rw [Nat.div_add_mod]
    rw [e, ct_add]
    congr 1
    rw [← ctl (fun i => wb σ k (64 * (p / 64) + i)) (p % 64) 64 (by omega)]
    apply fb_ct_cong
    intro i hi
    rw [wb_eq, show (64 * (p / 64) + i) / 64 = p / 64 by omega, show (64 * (p / 64) + i) % 64 = i by omega, bL_and, mask _ hm i hi]
  unfold D7m_sizeAhead
  refine Eq.trans rfl (it2_seq (f := D7s_sizeAhead_4 k (nI p) σ (fun u_9 => some u_9)) (fun j => if j ≤ p / 64 then nI (fb_ct (wb σ k) (64 * j)) else nI (fb_ct (wb σ k) p)) (fun j => nI j) (p / 64 + 1) _ (by unfold fuel; omega) (fun j hj rc => ?_) (fun rc => ?_))
  · unfold D7s_sizeAhead_4
    rw [sh6 (by omega), an63 (by omega)]
    by_cases c : j < p / 64
    · ((try simp only [in_0]); simp (disch := omega) only [pop_w, fa_lt, fa_le, fa_eq, it_nI, t0, i32_99, i32_8, i32_1, i32_2, i32_3, i32_4, i32_5, i32_6, i32_7, i32_11, i32_12, i32_13, i32_20, i32_30, i32_40, i32_50, i32_m50, i32_m1, i32_m2, i32_64, i32_256, i32_768, i32_4096, i32_600, i32_m600, i32_1000, i32_1201, if_pos, if_neg, reduceIte, b1_s, b2_s, nm_s, gi_n, tn, pl1, mi1, sub1, ml2, ml4, ml40, ml4096, ad, pl2, sub2, sub3, sub4, dA_p1, dA_p3, dS_p2, dS_p3, dJ_p1, dJ_p2, rA_p1, rS_p2])
      rw [full j c]
    · have e : j = p / 64 := by omega
      subst e
      ((try simp only [in_0]); simp (disch := omega) only [pop_w, Int.le_refl, Nat.le_refl, fa_lt, fa_le, fa_eq, it_nI, t0, i32_99, i32_8, i32_1, i32_2, i32_3, i32_4, i32_5, i32_6, i32_7, i32_11, i32_12, i32_13, i32_20, i32_30, i32_40, i32_50, i32_m50, i32_m1, i32_m2, i32_64, i32_256, i32_768, i32_4096, i32_600, i32_m600, i32_1000, i32_1201, if_pos, if_neg, reduceIte, b1_s, b2_s, nm_s, gi_n, tn, pl1, mi1, sub1, ml2, ml4, ml40, ml4096, ad, pl2, sub2, sub3, sub4, dA_p1, dA_p3, dS_p2, dS_p3, dJ_p1, dJ_p2, rA_p1, rS_p2])
      rw [last]
  · unfold D7s_sizeAhead_4
    rw [sh6 (by omega)]
    by_cases c : p / 64 + 1 = 64
    · ((try simp only [in_0]); simp (disch := omega) only [fa_lt, fa_le, fa_eq, it_nI, t0, i32_99, i32_8, i32_1, i32_2, i32_3, i32_4, i32_5, i32_6, i32_7, i32_11, i32_12, i32_13, i32_20, i32_30, i32_40, i32_50, i32_m50, i32_m1, i32_m2, i32_64, i32_256, i32_768, i32_4096, i32_600, i32_m600, i32_1000, i32_1201, if_pos, if_neg, reduceIte, b1_s, b2_s, nm_s, gi_n, tn, pl1, mi1, sub1, ml2, ml4, ml40, ml4096, ad, pl2, sub2, sub3, sub4, dA_p1, dA_p3, dS_p2, dS_p3, dJ_p1, dJ_p2, rA_p1, rS_p2])
    · ((try simp only [in_0]); simp (disch := omega) only [fa_lt, fa_le, fa_eq, it_nI, t0, i32_99, i32_8, i32_1, i32_2, i32_3, i32_4, i32_5, i32_6, i32_7, i32_11, i32_12, i32_13, i32_20, i32_30, i32_40, i32_50, i32_m50, i32_m1, i32_m2, i32_64, i32_256, i32_768, i32_4096, i32_600, i32_m600, i32_1000, i32_1201, if_pos, if_neg, reduceIte, b1_s, b2_s, nm_s, gi_n, tn, pl1, mi1, sub1, ml2, ml4, ml40, ml4096, ad, pl2, sub2, sub3, sub4, dA_p1, dA_p3, dS_p2, dS_p3, dJ_p1, dJ_p2, rA_p1, rS_p2])
/-! the places of the ways, in order -/
theorem ct_mono_lt {p : Nat → Bool} {i n : Nat} (hi : i < n) (h : p i = true) : fb_ct p i < fb_ct p n := by
  have := fb_ct_mono p (show i + 1 ≤ n by omega)
  rw [fb_ct_succ, h] at this
  simp only [if_true] at this
  omega
theorem nthBit_n {x : Int64} {b i : Nat} (hb : b < 64) (h1 : bL x b = true) (h2 : fb_ct (bL x) b = i) : D7m_nthBit x (nI i) = some (nI b) := by
  have hi := fb_ct_le (bL x) b
  unfold D7m_nthBit
  refine Eq.trans ?_ (it2_seq (f := D7s_nthBit_5 x (fun u_4 => some u_4) (some (0 : Int32))) (fun j => nI (i - fb_ct (bL x) j)) (fun j => nI j) b _ (by unfold fuel; omega) (fun j hj rc => ?_) (fun rc => ?_))
  · rfl
  · unfold D7s_nthBit_5
    have hle := fb_ct_mono (bL x) (show j + 1 ≤ b by omega)
    have hs := fb_ct_succ (bL x) j
    have hbit := ts_bit (w := x) (s := ((nI j).toInt64.toUInt64 &&& Int64.toUInt64 63)) (j := j) (by omega) (by rw [wb_cu _ (by omega)]; exact u_tn (by omega))
    rw [if_neg (show ¬ (64 : Int32) ≤ nI j from nI_ge (b := 64) (by omega) (by decide))]
    cases d : bL x j with
    | false =>
      rw [d] at hs
      simp only [Bool.false_eq_true, if_false, Nat.add_zero] at hs
      rw [if_pos (lg0.mpr (hbit.mpr d)), hs, pl1]
    | true =>
      rw [d] at hs
      simp only [if_true] at hs
      rw [if_neg (fun h => by have := hbit.mp (lg0.mp h); unfold bL at d; rw [d] at this; exact absurd this (by decide)), if_neg (nI_ne0 (by omega) (by omega)), pl1, hs, show i - fb_ct (bL x) j = (i - (fb_ct (bL x) j + 1)) + 1 by omega, pk_m1]
  · unfold D7s_nthBit_5
    have hbit := ts_bit (w := x) (s := ((nI b).toInt64.toUInt64 &&& Int64.toUInt64 63)) (j := b) (by omega) (by rw [wb_cu _ (by omega)]; exact u_tn (by omega))
    rw [if_neg (show ¬ (64 : Int32) ≤ nI b from nI_ge (b := 64) (by omega) (by decide)), if_neg (fun h => by have := hbit.mp (lg0.mp h); unfold bL at h1; rw [h1] at this; exact absurd this (by decide)), h2, Nat.sub_self, if_pos nI_0]
theorem word_ct {σ : DS} {k j : Nat} (b : Nat) (hb : b ≤ 64) : fb_ct (wb σ k) (64 * j + b) = fb_ct (wb σ k) (64 * j) + fb_ct (bL (σ.2.2 (79 + k) j)) b := by
  rw [ct_add]
  congr 1
  apply fb_ct_cong
  intro i hi
  rw [wb_eq, show (64 * j + i) / 64 = j by omega, show (64 * j + i) % 64 = i by omega]
theorem nth_n {σ : DS} {k p : Nat} (hp : p < 4096) (h1 : wb σ k p = true) : D7m_nth k σ (nI (fb_ct (wb σ k) p)) = some (nI p) := by
  have hm := Nat.mod_lt p (show 0 < 64 by decide)
  obtain ⟨i, hi⟩ : ∃ i, i = fb_ct (wb σ k) p := ⟨_, rfl⟩
  have hile := fb_ct_le (wb σ k) p
  rw [← hi] at hile ⊢
  have e0 : i = fb_ct (wb σ k) (64 * (p / 64)) + fb_ct (bL (σ.2.2 (79 + k) (p / 64))) (p % 64) := by
    rw [hi, ← word_ct (p % 64) (by omega), Nat.div_add_mod]
  unfold D7m_nth
  refine Eq.trans ?_ (it2_seq (f := D7s_nth_4 k σ (fun u_6 u_7 => gi u_7 64 (b1 (D7m_nthBit (σ.2.2 (79 + k) (u_7).toNatClampNeg) u_6) (fun r_10 => some (((64 : Int32) * u_7) + r_10)))) (some (-1 : Int32))) (fun j => nI (i - fb_ct (wb σ k) (64 * j))) (fun j => nI j) (p / 64) _ (by unfold fuel; omega) (fun j hj rc => ?_) (fun rc => ?_))
  · rfl
  · unfold D7s_nth_4
    have hw := word_ct (σ := σ) (k := k) (j := j) 64 (by omega)
    rw [show 64 * j + 64 = 64 * (j + 1) by omega] at hw
    have hle := fb_ct_mono (wb σ k) (show 64 * (j + 1) ≤ 64 * (p / 64) by omega)
    have h64 := fb_ct_le (bL (σ.2.2 (79 + k) j)) 64
    ((try simp only [in_0]); simp (disch := omega) only [pop_w, fa_lt, fa_le, fa_eq, it_nI, t0, i32_99, i32_8, i32_1, i32_2, i32_3, i32_4, i32_5, i32_6, i32_7, i32_11, i32_12, i32_13, i32_20, i32_30, i32_40, i32_50, i32_m50, i32_m1, i32_m2, i32_64, i32_256, i32_768, i32_4096, i32_600, i32_m600, i32_1000, i32_1201, if_pos, if_neg, reduceIte, b1_s, b2_s, nm_s, gi_n, tn, pl1, mi1, sub1, ml2, ml4, ml40, ml4096, ad, pl2, sub2, sub3, sub4, dA_p1, dA_p3, dS_p2, dS_p3, dJ_p1, dJ_p2, rA_p1, rS_p2])
    rw [pk_sub (by omega), hw]
    congr 2
    omega
  · unfold D7s_nth_4
    have hw := word_ct (σ := σ) (k := k) (j := p / 64) 64 (by omega)
    have h64 := fb_ct_le (bL (σ.2.2 (79 + k) (p / 64))) 64
    have hbit : bL (σ.2.2 (79 + k) (p / 64)) (p % 64) = true := h1
    have hlt := ct_mono_lt hm hbit
    ((try simp only [in_0]); simp (disch := omega) only [pop_w, fa_lt, fa_le, fa_eq, it_nI, t0, i32_99, i32_8, i32_1, i32_2, i32_3, i32_4, i32_5, i32_6, i32_7, i32_11, i32_12, i32_13, i32_20, i32_30, i32_40, i32_50, i32_m50, i32_m1, i32_m2, i32_64, i32_256, i32_768, i32_4096, i32_600, i32_m600, i32_1000, i32_1201, if_pos, if_neg, reduceIte, b1_s, b2_s, nm_s, gi_n, tn, pl1, mi1, sub1, ml2, ml4, ml40, ml4096, ad, pl2, sub2, sub3, sub4, dA_p1, dA_p3, dS_p2, dS_p3, dJ_p1, dJ_p2, rA_p1, rS_p2])
    rw [nthBit_n hm hbit (by omega), b1_s]
    show some (nI 64 * nI (p / 64) + nI (p % 64)) = _
    rw [pk_mul, ad, Nat.div_add_mod]
theorem nth_o {σ : DS} {k : Nat} {x : Int32} (h : ¬ (0 ≤ x.toInt ∧ x.toInt < fb_ct (wb σ k) 4096)) : D7m_nth k σ x = some (-1) := by
  unfold D7m_nth
  by_cases c : x.toInt < 0
  · refine it2_ind (f := D7s_nth_4 k σ (fun u_6 u_7 => gi u_7 64 (b1 (D7m_nthBit (σ.2.2 (79 + k) (u_7).toNatClampNeg) u_6) (fun r_10 => some (((64 : Int32) * u_7) + r_10)))) (some (-1 : Int32))) (P := fun n v w => v = x ∧ w = 0) (Q := fun o => o = some (-1)) ?_ fuel 0 x (0 : Int32) (by unfold fuel; omega) ⟨rfl, rfl⟩
    rintro n v w rc ⟨rfl, rfl⟩ ih
    unfold D7s_nth_4
    ((try simp only [in_0]); simp (disch := omega) only [fa_lt, fa_le, fa_eq, it_nI, t0, i32_99, i32_8, i32_1, i32_2, i32_3, i32_4, i32_5, i32_6, i32_7, i32_11, i32_12, i32_13, i32_20, i32_30, i32_40, i32_50, i32_m50, i32_m1, i32_m2, i32_64, i32_256, i32_768, i32_4096, i32_600, i32_m600, i32_1000, i32_1201, if_pos, if_neg, reduceIte, b1_s, b2_s, nm_s, gi_n, tn, pl1, mi1, sub1, ml2, ml4, ml40, ml4096, ad, pl2, sub2, sub3, sub4, dA_p1, dA_p3, dS_p2, dS_p3, dJ_p1, dJ_p2, rA_p1, rS_p2])
  · obtain ⟨i, hi0, hi⟩ := nI_of (x := x) (by rw [fa_lt, t0]; exact c)
    subst hi
    rw [it_nI hi0] at h
    have hct := fb_ct_le (wb σ k) 4096
    refine Eq.trans ?_ (it2_seq (f := D7s_nth_4 k σ (fun u_6 u_7 => gi u_7 64 (b1 (D7m_nthBit (σ.2.2 (79 + k) (u_7).toNatClampNeg) u_6) (fun r_10 => some (((64 : Int32) * u_7) + r_10)))) (some (-1 : Int32))) (fun j => nI (i - fb_ct (wb σ k) (64 * j))) (fun j => nI j) 64 _ (by unfold fuel; omega) (fun j hj rc => ?_) (fun rc => ?_))
    · rfl
    · unfold D7s_nth_4
      have hw := word_ct (σ := σ) (k := k) (j := j) 64 (by omega)
      rw [show 64 * j + 64 = 64 * (j + 1) by omega] at hw
      have hle := fb_ct_mono (wb σ k) (show 64 * (j + 1) ≤ 4096 by omega)
      have h64 := fb_ct_le (bL (σ.2.2 (79 + k) j)) 64
      ((try simp only [in_0]); simp (disch := omega) only [pop_w, fa_lt, fa_le, fa_eq, it_nI, t0, i32_99, i32_8, i32_1, i32_2, i32_3, i32_4, i32_5, i32_6, i32_7, i32_11, i32_12, i32_13, i32_20, i32_30, i32_40, i32_50, i32_m50, i32_m1, i32_m2, i32_64, i32_256, i32_768, i32_4096, i32_600, i32_m600, i32_1000, i32_1201, if_pos, if_neg, reduceIte, b1_s, b2_s, nm_s, gi_n, tn, pl1, mi1, sub1, ml2, ml4, ml40, ml4096, ad, pl2, sub2, sub3, sub4, dA_p1, dA_p3, dS_p2, dS_p3, dJ_p1, dJ_p2, rA_p1, rS_p2])
      rw [pk_sub (by omega), hw]
      congr 2
      omega
    · unfold D7s_nth_4
      ((try simp only [in_0]); simp (disch := omega) only [fa_lt, fa_le, fa_eq, it_nI, t0, i32_99, i32_8, i32_1, i32_2, i32_3, i32_4, i32_5, i32_6, i32_7, i32_11, i32_12, i32_13, i32_20, i32_30, i32_40, i32_50, i32_m50, i32_m1, i32_m2, i32_64, i32_256, i32_768, i32_4096, i32_600, i32_m600, i32_1000, i32_1201, if_pos, if_neg, reduceIte, b1_s, b2_s, nm_s, gi_n, tn, pl1, mi1, sub1, ml2, ml4, ml40, ml4096, ad, pl2, sub2, sub3, sub4, dA_p1, dA_p3, dS_p2, dS_p3, dJ_p1, dJ_p2, rA_p1, rS_p2])

/-! ===== closures ===== -/
def sbs (p q : Nat) : Prop := ∀ i, p.testBit i = true → q.testBit i = true
theorem sbs.rf {p : Nat} : sbs p p := fun _ h => h
theorem sbs.tr {p q r : Nat} (h1 : sbs p q) (h2 : sbs q r) : sbs p r := fun i h => h2 i (h1 i h)
theorem tb_hi {p i : Nat} (hp : p < 4096) (hi : 12 ≤ i) : p.testBit i = false := Nat.testBit_lt_two_pow (Nat.lt_of_lt_of_le hp (by rw [show 4096 = 2 ^ 12 from rfl]; exact Nat.pow_le_pow_right (by decide) hi))
theorem tb_ext {p q : Nat} (hp : p < 4096) (hq : q < 4096) (h : ∀ i, i < 12 → p.testBit i = q.testBit i) : p = q := by
  apply Nat.eq_of_testBit_eq
  intro i
  by_cases c : i < 12
  · exact h i c
  · rw [tb_hi hp (by omega), tb_hi hq (by omega)]
theorem fl12 {q l : Nat} (hq : q < 4096) (hl : l < 12) : q ^^^ 2 ^ l < 4096 := fl_lt (n := 12) hq hl
/-- what is left out of q by one bit holds p: p is within q, and not q -/
theorem sbs_one {p q : Nat} (hp : p < 4096) (hq : q < 4096) : (∃ l, l < 12 ∧ q.testBit l = true ∧ sbs p (q ^^^ 2 ^ l)) ↔ sbs p q ∧ p ≠ q := by
  constructor
  · rintro ⟨l, hl, h1, h2⟩
    refine ⟨fun i hi => ?_, ?_⟩
    · have := h2 i hi
      rw [fl_t] at this
      by_cases e : i = l
      · subst e; exact h1
      · rw [if_neg e] at this; exact this
    · rintro rfl
      have := h2 l h1
      rw [fl_t, if_pos rfl, h1] at this
      exact absurd this (by decide)
  · rintro ⟨h1, h2⟩
    have : ∃ l, l < 12 ∧ p.testBit l ≠ q.testBit l := by
      apply Classical.byContradiction
      intro hn
      refine h2 (tb_ext hp hq fun i hi => ?_)
      apply Classical.byContradiction
      intro hne
      exact hn ⟨i, hi, hne⟩
    obtain ⟨l, hl, hne⟩ := this
    cases a : p.testBit l with
    | true => rw [a, h1 l a] at hne; exact absurd rfl hne
    | false =>
      cases b : q.testBit l with
      | false => rw [a, b] at hne; exact absurd rfl hne
      | true =>
        refine ⟨l, hl, b, fun i hi => ?_⟩
        rw [fl_t]
        by_cases e : i = l
        · subst e; rw [a] at hi; exact absurd hi (by decide)
        · rw [if_neg e]; exact h1 i hi
theorem up_n {σ : DS} {k : Nat} : ∃ σ', D7m_spreadUp k σ = some σ' ∧ dK_ (fun c => c = 79 + k) σ σ' ∧ ∀ q, q < 4096 → (wb σ' k q = true ↔ ∃ p, p < 4096 ∧ sbs p q ∧ wb σ k p = true) := by
  unfold D7m_spreadUp
  refine it2_ind (f := D7s_spreadUp_2 k (fun τ_4 => some τ_4)) (P := fun n v τ => ∃ l, l + n = 12 ∧ v = nI l ∧ dK_ (fun c => c = 79 + k) σ τ ∧ ∀ q, q < 4096 → (wb τ k q = true ↔ ∃ p, p < 4096 ∧ sbs p q ∧ (∀ i, l ≤ i → p.testBit i = q.testBit i) ∧ wb σ k p = true)) (Q := fun o => ∃ σ', o = some σ' ∧ dK_ (fun c => c = 79 + k) σ σ' ∧ ∀ q, q < 4096 → (wb σ' k q = true ↔ ∃ p, p < 4096 ∧ sbs p q ∧ wb σ k p = true)) ?_ fuel 12 (0 : Int32) σ (by unfold fuel; omega) ⟨0, rfl, rfl, dK_.rf, fun q hq => ?_⟩
  · rintro n v τ rc ⟨l, hl, rfl, hk, hs⟩ ih
    unfold D7s_spreadUp_2
    by_cases c : l = 12
    · subst c
      ((try simp only [in_0]); simp (disch := omega) only [fa_lt, fa_le, fa_eq, it_nI, t0, i32_99, i32_8, i32_1, i32_2, i32_3, i32_4, i32_5, i32_6, i32_7, i32_11, i32_12, i32_13, i32_20, i32_30, i32_40, i32_50, i32_m50, i32_m1, i32_m2, i32_64, i32_256, i32_768, i32_4096, i32_600, i32_m600, i32_1000, i32_1201, if_pos, if_neg, reduceIte, b1_s, b2_s, nm_s, gi_n, tn, pl1, mi1, sub1, ml2, ml4, ml40, ml4096, ad, pl2, sub2, sub3, sub4, dA_p1, dA_p3, dS_p2, dS_p3, dJ_p1, dJ_p2, rA_p1, rS_p2])
      refine ⟨τ, rfl, hk, fun q hq => ?_⟩
      rw [hs q hq]
      constructor
      · rintro ⟨p, h1, h2, -, h3⟩; exact ⟨p, h1, h2, h3⟩
      · rintro ⟨p, h1, h2, h3⟩; exact ⟨p, h1, h2, fun i hi => by rw [tb_hi h1 hi, tb_hi hq hi], h3⟩
    · obtain ⟨τ', e1, k1, s1⟩ := raise_n (σ := τ) (k := k) (f := k) (l := l) (by omega)
      ((try simp only [in_0]); simp (disch := omega) only [e1, fa_lt, fa_le, fa_eq, it_nI, t0, i32_99, i32_8, i32_1, i32_2, i32_3, i32_4, i32_5, i32_6, i32_7, i32_11, i32_12, i32_13, i32_20, i32_30, i32_40, i32_50, i32_m50, i32_m1, i32_m2, i32_64, i32_256, i32_768, i32_4096, i32_600, i32_m600, i32_1000, i32_1201, if_pos, if_neg, reduceIte, b1_s, b2_s, nm_s, gi_n, tn, pl1, mi1, sub1, ml2, ml4, ml40, ml4096, ad, pl2, sub2, sub3, sub4, dA_p1, dA_p3, dS_p2, dS_p3, dJ_p1, dJ_p2, rA_p1, rS_p2])
      refine ih (n - 1) _ τ' (by omega) ⟨l + 1, by omega, rfl, hk.tr k1, fun q hq => ?_⟩
      rw [s1 q hq, Bool.or_eq_true, Bool.and_eq_true, hs q hq]
      constructor
      · rintro (⟨p, h1, h2, h3, h4⟩ | ⟨hb, h⟩)
        · exact ⟨p, h1, h2, fun i hi => h3 i (by omega), h4⟩
        · obtain ⟨p, h1, h2, h3, h4⟩ := (hs _ (fl12 hq (by omega))).mp h
          refine ⟨p, h1, ((sbs_one h1 hq).mp ⟨l, by omega, hb, h2⟩).1, fun i hi => ?_, h4⟩
          rw [h3 i (by omega), fl_t, if_neg (by omega)]
      · rintro ⟨p, h1, h2, h3, h4⟩
        by_cases e : p.testBit l = q.testBit l
        · refine Or.inl ⟨p, h1, h2, fun i hi => ?_, h4⟩
          by_cases e2 : i = l
          · subst e2; exact e
          · exact h3 i (by omega)
        · have pf : p.testBit l = false := by
            cases a : p.testBit l with
            | false => rfl
            | true => rw [a, h2 l a] at e; exact absurd rfl e
          have qt : q.testBit l = true := by
            cases a : q.testBit l with
            | true => rfl
            | false => rw [a, pf] at e; exact absurd rfl e
          refine Or.inr ⟨qt, (hs _ (fl12 hq (by omega))).mpr ⟨p, h1, fun i hi => ?_, fun i hi => ?_, h4⟩⟩
          · rw [fl_t]
            by_cases e2 : i = l
            · subst e2; rw [pf] at hi; exact absurd hi (by decide)
            · rw [if_neg e2]; exact h2 i hi
          · rw [fl_t]
            by_cases e2 : i = l
            · subst e2; rw [if_pos rfl, pf, qt]; rfl
            · rw [if_neg e2]; exact h3 i (by omega)
  · constructor
    · intro h; exact ⟨q, hq, sbs.rf, fun _ _ => rfl, h⟩
    · rintro ⟨p, h1, h2, h3, h4⟩
      rw [← tb_ext h1 hq (fun i _ => h3 i (Nat.zero_le i))]
      exact h4
theorem down_n {σ : DS} {k : Nat} : ∃ σ', D7m_spreadDown k σ = some σ' ∧ dK_ (fun c => c = 79 + k) σ σ' ∧ ∀ q, q < 4096 → (wb σ' k q = true ↔ ∃ p, p < 4096 ∧ sbs q p ∧ wb σ k p = true) := by
  unfold D7m_spreadDown
  refine it2_ind (f := D7s_spreadDown_2 k (fun τ_4 => some τ_4)) (P := fun n v τ => ∃ l, l + n = 12 ∧ v = nI l ∧ dK_ (fun c => c = 79 + k) σ τ ∧ ∀ q, q < 4096 → (wb τ k q = true ↔ ∃ p, p < 4096 ∧ sbs q p ∧ (∀ i, l ≤ i → p.testBit i = q.testBit i) ∧ wb σ k p = true)) (Q := fun o => ∃ σ', o = some σ' ∧ dK_ (fun c => c = 79 + k) σ σ' ∧ ∀ q, q < 4096 → (wb σ' k q = true ↔ ∃ p, p < 4096 ∧ sbs q p ∧ wb σ k p = true)) ?_ fuel 12 (0 : Int32) σ (by unfold fuel; omega) ⟨0, rfl, rfl, dK_.rf, fun q hq => ?_⟩
  · rintro n v τ rc ⟨l, hl, rfl, hk, hs⟩ ih
    unfold D7s_spreadDown_2
    by_cases c : l = 12
    · subst c
      ((try simp only [in_0]); simp (disch := omega) only [fa_lt, fa_le, fa_eq, it_nI, t0, i32_99, i32_8, i32_1, i32_2, i32_3, i32_4, i32_5, i32_6, i32_7, i32_11, i32_12, i32_13, i32_20, i32_30, i32_40, i32_50, i32_m50, i32_m1, i32_m2, i32_64, i32_256, i32_768, i32_4096, i32_600, i32_m600, i32_1000, i32_1201, if_pos, if_neg, reduceIte, b1_s, b2_s, nm_s, gi_n, tn, pl1, mi1, sub1, ml2, ml4, ml40, ml4096, ad, pl2, sub2, sub3, sub4, dA_p1, dA_p3, dS_p2, dS_p3, dJ_p1, dJ_p2, rA_p1, rS_p2])
      refine ⟨τ, rfl, hk, fun q hq => ?_⟩
      rw [hs q hq]
      constructor
      · rintro ⟨p, h1, h2, -, h3⟩; exact ⟨p, h1, h2, h3⟩
      · rintro ⟨p, h1, h2, h3⟩; exact ⟨p, h1, h2, fun i hi => by rw [tb_hi h1 hi, tb_hi hq hi], h3⟩
    · obtain ⟨τ', e1, k1, s1⟩ := lower_n (σ := τ) (k := k) (f := k) (l := l) (by omega)
      ((try simp only [in_0]); simp (disch := omega) only [e1, fa_lt, fa_le, fa_eq, it_nI, t0, i32_99, i32_8, i32_1, i32_2, i32_3, i32_4, i32_5, i32_6, i32_7, i32_11, i32_12, i32_13, i32_20, i32_30, i32_40, i32_50, i32_m50, i32_m1, i32_m2, i32_64, i32_256, i32_768, i32_4096, i32_600, i32_m600, i32_1000, i32_1201, if_pos, if_neg, reduceIte, b1_s, b2_s, nm_s, gi_n, tn, pl1, mi1, sub1, ml2, ml4, ml40, ml4096, ad, pl2, sub2, sub3, sub4, dA_p1, dA_p3, dS_p2, dS_p3, dJ_p1, dJ_p2, rA_p1, rS_p2])
      refine ih (n - 1) _ τ' (by omega) ⟨l + 1, by omega, rfl, hk.tr k1, fun q hq => ?_⟩
      rw [s1 q hq, Bool.or_eq_true, Bool.and_eq_true, hs q hq, Bool.not_eq_true']
      constructor
      · rintro (⟨p, h1, h2, h3, h4⟩ | ⟨hb, h⟩)
        · exact ⟨p, h1, h2, fun i hi => h3 i (by omega), h4⟩
        · obtain ⟨p, h1, h2, h3, h4⟩ := (hs _ (fl12 hq (by omega))).mp h
          refine ⟨p, h1, fun i hi => h2 i ?_, fun i hi => ?_, h4⟩
          · rw [fl_t]
            by_cases e2 : i = l
            · subst e2; rw [hb] at hi; exact absurd hi (by decide)
            · rw [if_neg e2]; exact hi
          · rw [h3 i (by omega), fl_t, if_neg (by omega)]
      · rintro ⟨p, h1, h2, h3, h4⟩
        by_cases e : p.testBit l = q.testBit l
        · refine Or.inl ⟨p, h1, h2, fun i hi => ?_, h4⟩
          by_cases e2 : i = l
          · subst e2; exact e
          · exact h3 i (by omega)
        · have qf : q.testBit l = false := by
            cases a : q.testBit l with
            | false => rfl
            | true => rw [a, h2 l a] at e; exact absurd rfl e
          have pt : p.testBit l = true := by
            cases a : p.testBit l with
            | true => rfl
            | false => rw [a, qf] at e; exact absurd rfl e
          refine Or.inr ⟨qf, (hs _ (fl12 hq (by omega))).mpr ⟨p, h1, fun i hi => ?_, fun i hi => ?_, h4⟩⟩
          · rw [fl_t] at hi
            by_cases e2 : i = l
            · subst e2; exact pt
            · rw [if_neg e2] at hi; exact h2 i hi
          · rw [fl_t]
            by_cases e2 : i = l
            · subst e2; rw [if_pos rfl, pt, qf]; rfl
            · rw [if_neg e2]; exact h3 i (by omega)
  · constructor
    · intro h; exact ⟨q, hq, sbs.rf, fun _ _ => rfl, h⟩
    · rintro ⟨p, h1, h2, h3, h4⟩
      rw [← tb_ext h1 hq (fun i _ => h3 i (Nat.zero_le i))]
      exact h4
/-- the least ones -/
theorem least_n {σ : DS} {k f r : Nat} (h1 : k ≠ f) (h2 : r ≠ f) (h3 : r ≠ k) : ∃ σ', D7m_takeLeast k σ f r = some σ' ∧ dK_ (fun c => c = 79 + k ∨ c = 79 + r) σ σ' ∧ ∀ q, q < 4096 → (wb σ' k q = true ↔ wb σ f q = true ∧ ∀ p, p < 4096 → sbs p q → wb σ f p = true → p = q) := by
  obtain ⟨σ1, e1, k1, s1⟩ := copy_n (σ := σ) (k := r) (a := f)
  obtain ⟨σ2, e2, k2, s2⟩ := up_n (σ := σ1) (k := r)
  have s2' : ∀ q, q < 4096 → (wb σ2 r q = true ↔ ∃ p, p < 4096 ∧ sbs p q ∧ wb σ f p = true) := fun q hq => by
    rw [s2 q hq]
    constructor
    · rintro ⟨p, a, b, c⟩; exact ⟨p, a, b, by rw [s1 p a] at c; exact c⟩
    · rintro ⟨p, a, b, c⟩; exact ⟨p, a, b, by rw [s1 p a]; exact c⟩
  obtain ⟨σ3, e3⟩ : ∃ s, s = jFill σ2 (79 + k) 64 (fun _ => 0) := ⟨_, rfl⟩
  have k3 : dK_ (fun c => c = 79 + k) σ2 σ3 := by rw [e3]; exact dK_JF rfl
  unfold D7m_takeLeast
  rw [e1, b1_s, e2, b1_s, fillJ (by decide), b1_s, ← e3]
  have key := it2_ind (f := D7s_takeLeast_19 k f r (fun τ_10 => b1 (D7m_takeFirstAlone k τ_10 f k) (fun τ_12 => some τ_12))) (P := fun n v τ => ∃ l, l + n = 12 ∧ v = nI l ∧ dK_ (fun c => c = 79 + k) σ3 τ ∧ ∀ q, q < 4096 → (wb τ k q = true ↔ ∃ j, j < l ∧ q.testBit j = true ∧ wb σ2 r (q ^^^ 2 ^ j) = true)) (Q := fun o => ∃ τ, o = b1 (D7m_takeFirstAlone k τ f k) (fun τ_12 => some τ_12) ∧ dK_ (fun c => c = 79 + k) σ3 τ ∧ ∀ q, q < 4096 → (wb τ k q = true ↔ ∃ j, j < 12 ∧ q.testBit j = true ∧ wb σ2 r (q ^^^ 2 ^ j) = true)) (fun n v τ rc hp ih => by
    obtain ⟨l, hl, rfl, hk, hs⟩ := hp
    unfold D7s_takeLeast_19
    by_cases c : l = 12
    · subst c
      ((try simp only [in_0]); simp (disch := omega) only [Int.le_refl, fa_lt, fa_le, fa_eq, it_nI, t0, i32_99, i32_8, i32_1, i32_2, i32_3, i32_4, i32_5, i32_6, i32_7, i32_11, i32_12, i32_13, i32_20, i32_30, i32_40, i32_50, i32_m50, i32_m1, i32_m2, i32_64, i32_256, i32_768, i32_4096, i32_600, i32_m600, i32_1000, i32_1201, if_pos, if_neg, reduceIte, b1_s, b2_s, nm_s, gi_n, tn, pl1, mi1, sub1, ml2, ml4, ml40, ml4096, ad, pl2, sub2, sub3, sub4, dA_p1, dA_p3, dS_p2, dS_p3, dJ_p1, dJ_p2, rA_p1, rS_p2])
      exact ⟨τ, rfl, hk, hs⟩
    · obtain ⟨τ', g1, g2, g3⟩ := raise_n (σ := τ) (k := k) (f := r) (l := l) (by omega)
      ((try simp only [in_0]); simp (disch := omega) only [g1, fa_lt, fa_le, fa_eq, it_nI, t0, i32_99, i32_8, i32_1, i32_2, i32_3, i32_4, i32_5, i32_6, i32_7, i32_11, i32_12, i32_13, i32_20, i32_30, i32_40, i32_50, i32_m50, i32_m1, i32_m2, i32_64, i32_256, i32_768, i32_4096, i32_600, i32_m600, i32_1000, i32_1201, if_pos, if_neg, reduceIte, b1_s, b2_s, nm_s, gi_n, tn, pl1, mi1, sub1, ml2, ml4, ml40, ml4096, ad, pl2, sub2, sub3, sub4, dA_p1, dA_p3, dS_p2, dS_p3, dJ_p1, dJ_p2, rA_p1, rS_p2])
      refine ih (n - 1) _ τ' (by omega) ⟨l + 1, by omega, rfl, hk.tr g2, fun q hq => ?_⟩
      rw [g3 q hq, Bool.or_eq_true, Bool.and_eq_true, hs q hq, wb_dK hk (by omega), wb_dK k3 (by omega)]
      constructor
      · rintro (⟨j, a, b⟩ | ⟨a, b⟩)
        · exact ⟨j, by omega, b⟩
        · exact ⟨l, by omega, a, b⟩
      · rintro ⟨j, a, b⟩
        by_cases e : j = l
        · subst e; exact Or.inr b
        · exact Or.inl ⟨j, by omega, b⟩) fuel 12 (0 : Int32) σ3 (by unfold fuel; omega) ⟨0, rfl, rfl, dK_.rf, fun q hq => by
    rw [e3, wb_jf hq]
    constructor
    · intro h; rw [bL_0] at h; exact absurd h (by decide)
    · rintro ⟨j, a, -⟩; omega⟩
  obtain ⟨τ, o1, o2, o3⟩ := key
  rw [o1, alone_n, b1_s]
  refine ⟨_, rfl, ((k1.mo (fun c h => Or.inr h)).tr ((k2.mo (fun c h => Or.inr h)).tr ((k3.mo (fun c h => Or.inl h)).tr ((o2.mo (fun c h => Or.inl h)).tr (dK_JF (Or.inl rfl)))))), fun q hq => ?_⟩
  rw [wb_jf hq, bL_and, bL_not _ (Nat.mod_lt _ (by decide)), ← wb_eq, ← wb_eq, Bool.and_eq_true, Bool.not_eq_true']
  have ef : wb τ f q = wb σ f q := by rw [wb_dK o2 (by omega), wb_dK k3 (by omega), wb_dK k2 (by omega), wb_dK k1 (by omega)]
  rw [ef]
  refine and_congr_right fun _ => ?_
  rw [← Bool.not_eq_true, o3 q hq]
  constructor
  · intro hn p hp hs hf
    apply Classical.byContradiction
    intro hne
    obtain ⟨l, a, b, c⟩ := (sbs_one hp hq).mpr ⟨hs, hne⟩
    exact hn ⟨l, a, b, (s2' _ (fl12 hq a)).mpr ⟨p, hp, c, hf⟩⟩
  · rintro hn ⟨j, a, b, c⟩
    obtain ⟨p, d, e, g⟩ := (s2' _ (fl12 hq a)).mp c
    have := (sbs_one d hq).mp ⟨j, a, b, e⟩
    exact this.2 (hn p d this.1 g)
/-- the greatest ones -/
theorem greatest_n {σ : DS} {k f r : Nat} (h1 : k ≠ f) (h2 : r ≠ f) (h3 : r ≠ k) : ∃ σ', D7m_takeGreatest k σ f r = some σ' ∧ dK_ (fun c => c = 79 + k ∨ c = 79 + r) σ σ' ∧ ∀ q, q < 4096 → (wb σ' k q = true ↔ wb σ f q = true ∧ ∀ p, p < 4096 → sbs q p → wb σ f p = true → p = q) := by
  obtain ⟨σ1, e1, k1, s1⟩ := copy_n (σ := σ) (k := r) (a := f)
  obtain ⟨σ2, e2, k2, s2⟩ := down_n (σ := σ1) (k := r)
  have s2' : ∀ q, q < 4096 → (wb σ2 r q = true ↔ ∃ p, p < 4096 ∧ sbs q p ∧ wb σ f p = true) := fun q hq => by
    rw [s2 q hq]
    constructor
    · rintro ⟨p, a, b, c⟩; exact ⟨p, a, b, by rw [s1 p a] at c; exact c⟩
    · rintro ⟨p, a, b, c⟩; exact ⟨p, a, b, by rw [s1 p a]; exact c⟩
  obtain ⟨σ3, e3⟩ : ∃ s, s = jFill σ2 (79 + k) 64 (fun _ => 0) := ⟨_, rfl⟩
  have k3 : dK_ (fun c => c = 79 + k) σ2 σ3 := by rw [e3]; exact dK_JF rfl
  unfold D7m_takeGreatest
  rw [e1, b1_s, e2, b1_s, fillJ (by decide), b1_s, ← e3]
  have key := it2_ind (f := D7s_takeGreatest_19 k f r (fun τ_10 => b1 (D7m_takeFirstAlone k τ_10 f k) (fun τ_12 => some τ_12))) (P := fun n v τ => ∃ l, l + n = 12 ∧ v = nI l ∧ dK_ (fun c => c = 79 + k) σ3 τ ∧ ∀ q, q < 4096 → (wb τ k q = true ↔ ∃ j, j < l ∧ q.testBit j = false ∧ wb σ2 r (q ^^^ 2 ^ j) = true)) (Q := fun o => ∃ τ, o = b1 (D7m_takeFirstAlone k τ f k) (fun τ_12 => some τ_12) ∧ dK_ (fun c => c = 79 + k) σ3 τ ∧ ∀ q, q < 4096 → (wb τ k q = true ↔ ∃ j, j < 12 ∧ q.testBit j = false ∧ wb σ2 r (q ^^^ 2 ^ j) = true)) (fun n v τ rc hp ih => by
    obtain ⟨l, hl, rfl, hk, hs⟩ := hp
    unfold D7s_takeGreatest_19
    by_cases c : l = 12
    · subst c
      ((try simp only [in_0]); simp (disch := omega) only [Int.le_refl, fa_lt, fa_le, fa_eq, it_nI, t0, i32_99, i32_8, i32_1, i32_2, i32_3, i32_4, i32_5, i32_6, i32_7, i32_11, i32_12, i32_13, i32_20, i32_30, i32_40, i32_50, i32_m50, i32_m1, i32_m2, i32_64, i32_256, i32_768, i32_4096, i32_600, i32_m600, i32_1000, i32_1201, if_pos, if_neg, reduceIte, b1_s, b2_s, nm_s, gi_n, tn, pl1, mi1, sub1, ml2, ml4, ml40, ml4096, ad, pl2, sub2, sub3, sub4, dA_p1, dA_p3, dS_p2, dS_p3, dJ_p1, dJ_p2, rA_p1, rS_p2])
      exact ⟨τ, rfl, hk, hs⟩
    · obtain ⟨τ', g1, g2, g3⟩ := lower_n (σ := τ) (k := k) (f := r) (l := l) (by omega)
      ((try simp only [in_0]); simp (disch := omega) only [g1, fa_lt, fa_le, fa_eq, it_nI, t0, i32_99, i32_8, i32_1, i32_2, i32_3, i32_4, i32_5, i32_6, i32_7, i32_11, i32_12, i32_13, i32_20, i32_30, i32_40, i32_50, i32_m50, i32_m1, i32_m2, i32_64, i32_256, i32_768, i32_4096, i32_600, i32_m600, i32_1000, i32_1201, if_pos, if_neg, reduceIte, b1_s, b2_s, nm_s, gi_n, tn, pl1, mi1, sub1, ml2, ml4, ml40, ml4096, ad, pl2, sub2, sub3, sub4, dA_p1, dA_p3, dS_p2, dS_p3, dJ_p1, dJ_p2, rA_p1, rS_p2])
      refine ih (n - 1) _ τ' (by omega) ⟨l + 1, by omega, rfl, hk.tr g2, fun q hq => ?_⟩
      rw [g3 q hq, Bool.or_eq_true, Bool.and_eq_true, hs q hq, wb_dK hk (by omega), wb_dK k3 (by omega), Bool.not_eq_true']
      constructor
      · rintro (⟨j, a, b⟩ | ⟨a, b⟩)
        · exact ⟨j, by omega, b⟩
        · exact ⟨l, by omega, a, b⟩
      · rintro ⟨j, a, b⟩
        by_cases e : j = l
        · subst e; exact Or.inr b
        · exact Or.inl ⟨j, by omega, b⟩) fuel 12 (0 : Int32) σ3 (by unfold fuel; omega) ⟨0, rfl, rfl, dK_.rf, fun q hq => by
    rw [e3, wb_jf hq]
    constructor
    · intro h; rw [bL_0] at h; exact absurd h (by decide)
    · rintro ⟨j, a, -⟩; omega⟩
  obtain ⟨τ, o1, o2, o3⟩ := key
  rw [o1, alone_n, b1_s]
  refine ⟨_, rfl, ((k1.mo (fun c h => Or.inr h)).tr ((k2.mo (fun c h => Or.inr h)).tr ((k3.mo (fun c h => Or.inl h)).tr ((o2.mo (fun c h => Or.inl h)).tr (dK_JF (Or.inl rfl)))))), fun q hq => ?_⟩
  rw [wb_jf hq, bL_and, bL_not _ (Nat.mod_lt _ (by decide)), ← wb_eq, ← wb_eq, Bool.and_eq_true, Bool.not_eq_true']
  have ef : wb τ f q = wb σ f q := by rw [wb_dK o2 (by omega), wb_dK k3 (by omega), wb_dK k2 (by omega), wb_dK k1 (by omega)]
  rw [ef]
  refine and_congr_right fun _ => ?_
  rw [← Bool.not_eq_true, o3 q hq]
  -- q is within p and not p: one bit more of q is within p
  have one : ∀ p, p < 4096 → sbs q p → p ≠ q → ∃ j, j < 12 ∧ q.testBit j = false ∧ sbs (q ^^^ 2 ^ j) p := fun p hp hs hne => by
    obtain ⟨l, a, b, c⟩ := (sbs_one hq hp).mpr ⟨hs, fun e => hne e.symm⟩
    refine ⟨l, a, ?_, fun i hi => ?_⟩
    · cases d : q.testBit l with
      | false => rfl
      | true => have := c l d; rw [fl_t, if_pos rfl, b] at this; exact absurd this (by decide)
    · rw [fl_t] at hi
      by_cases e : i = l
      · subst e; exact b
      · rw [if_neg e] at hi; exact hs i hi
  constructor
  · intro hn p hp hs hf
    apply Classical.byContradiction
    intro hne
    obtain ⟨l, a, b, c⟩ := one p hp hs hne
    exact hn ⟨l, a, b, (s2' _ (fl12 hq a)).mpr ⟨p, hp, c, hf⟩⟩
  · rintro hn ⟨j, a, b, c⟩
    obtain ⟨p, d, e, g⟩ := (s2' _ (fl12 hq a)).mp c
    have h5 : p.testBit j = true := e j (by rw [fl_t, if_pos rfl, b]; rfl)
    have h6 : sbs q p := fun i hi => by
      by_cases e2 : i = j
      · subst e2; exact h5
      · exact e i (by rw [fl_t, if_neg e2]; exact hi)
    have := hn p d h6 g
    rw [this, b] at h5
    exact absurd h5 (by decide)

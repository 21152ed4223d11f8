/-! ===== told, turned ===== -/
def piK (k r : Nat) : Nat := (r + 1) * k % 13 - 1
def ivK (k : Nat) : Nat := k ^ 11 % 13
theorem piK_f : ∀ k, k < 13 → 1 ≤ k → (1 ≤ ivK k ∧ ivK k < 13 ∧ ivK (ivK k) = k) ∧ ∀ r, r < 12 → piK k r < 12 ∧ piK (ivK k) (piK k r) = r ∧ piK k (piK (ivK k) r) = r ∧ 1 ≤ (r + 1) * k % 13 := by decide +kernel
def tmP (k m : Nat) : Nat → Nat
  | 0 => 0
  | j + 1 => if m.testBit j = true then tmP k m j ||| 2 ^ piK k j else tmP k m j
section TURN
variable {k : Nat}
theorem tmP_tb (hk : k < 13) (h1 : 1 ≤ k) (m : Nat) : ∀ j, j ≤ 12 → tmP k m j < 4096 ∧ ∀ i, i < 12 → (tmP k m j).testBit i = (decide (piK (ivK k) i < j) && m.testBit (piK (ivK k) i))
  | 0, _ => ⟨show 0 < 4096 by decide, fun i hi => by
      show (0 : Nat).testBit i = _
      rw [Nat.zero_testBit, decide_eq_false (Nat.not_lt_zero _)]; rfl⟩
  | j + 1, hj => by
    obtain ⟨a1, a2⟩ := tmP_tb hk h1 m j (by omega)
    obtain ⟨⟨v1, v2, -⟩, pf⟩ := piK_f k hk h1
    obtain ⟨p1, p2, -, -⟩ := pf j (by omega)
    obtain ⟨-, pi⟩ := piK_f (ivK k) v2 v1
    have eqv : ∀ i, i < 12 → (piK k j = i ↔ piK (ivK k) i = j) := fun i hi => by
      obtain ⟨-, -, x, -⟩ := pf i hi
      exact ⟨fun e => by rw [← e]; exact p2, fun e => by rw [← e]; exact x⟩
    cases c : m.testBit j
    · have e : tmP k m (j + 1) = tmP k m j := by show (if m.testBit j = true then _ else _) = _; rw [c]; rfl
      rw [e]
      refine ⟨a1, fun i hi => ?_⟩
      rw [a2 i hi]
      by_cases d : piK (ivK k) i = j
      · rw [d, c, Bool.and_false, Bool.and_false]
      · rw [show decide (piK (ivK k) i < j + 1) = decide (piK (ivK k) i < j) from decide_eq_decide.mpr (by omega)]
    · have e : tmP k m (j + 1) = tmP k m j ||| 2 ^ piK k j := by show (if m.testBit j = true then _ else _) = _; rw [c]; rfl
      rw [e]
      refine ⟨Nat.or_lt_two_pow (n := 12) a1 (Nat.pow_lt_pow_right (by decide) p1), fun i hi => ?_⟩
      rw [Nat.testBit_or, Nat.testBit_two_pow, a2 i hi]
      by_cases d : piK (ivK k) i = j
      · rw [decide_eq_true ((eqv i hi).mpr d), Bool.or_true, d, c, decide_eq_true (by omega)]; rfl
      · rw [decide_eq_false (fun q => d ((eqv i hi).mp q)), Bool.or_false, show decide (piK (ivK k) i < j + 1) = decide (piK (ivK k) i < j) from decide_eq_decide.mpr (by omega)]
theorem tm_tb (hk : k < 13) (h1 : 1 ≤ k) (m : Nat) : tmP k m 12 < 4096 ∧ ∀ i, i < 12 → (tmP k m 12).testBit i = m.testBit (piK (ivK k) i) := by
  obtain ⟨a1, a2⟩ := tmP_tb hk h1 m 12 (Nat.le_refl _)
  obtain ⟨⟨v1, v2, -⟩, -⟩ := piK_f k hk h1
  obtain ⟨-, pi⟩ := piK_f (ivK k) v2 v1
  exact ⟨a1, fun i hi => by rw [a2 i hi, decide_eq_true (pi i hi).1]; rfl⟩
theorem tm_inj (hk : k < 13) (h1 : 1 ≤ k) {m m' : Nat} (hm : m < 4096) (hm' : m' < 4096) (e : tmP k m 12 = tmP k m' 12) : m = m' := by
  obtain ⟨-, a⟩ := tm_tb hk h1 m
  obtain ⟨-, b⟩ := tm_tb hk h1 m'
  obtain ⟨-, pf⟩ := piK_f k hk h1
  refine tb_ext hm hm' (fun r hr => ?_)
  obtain ⟨p1, p2, -, -⟩ := pf r hr
  have x := a (piK k r) p1
  have y := b (piK k r) p1
  rw [p2] at x y
  rw [← x, ← y, e]
theorem tm_sur (hk : k < 13) (h1 : 1 ≤ k) {y : Nat} (hy : y < 4096) : ∃ m, m < 4096 ∧ tmP k m 12 = y := by
  obtain ⟨⟨v1, v2, v3⟩, pf⟩ := piK_f k hk h1
  obtain ⟨a1, a2⟩ := tm_tb v2 v1 y
  obtain ⟨-, pi⟩ := piK_f (ivK k) v2 v1
  refine ⟨tmP (ivK k) y 12, a1, ?_⟩
  obtain ⟨b1, b2⟩ := tm_tb hk h1 (tmP (ivK k) y 12)
  refine tb_ext b1 hy (fun i hi => ?_)
  rw [b2 i hi, a2 _ (pi i hi).1, v3]
  rw [(pf i hi).2.2.1]
theorem turned_n (hk : k < 13) (h1 : 1 ≤ k) {m : Nat} (hm : m < 4096) : Rm_turnedMask (nI m) (nI k) = some (nI (tmP k m 12)) := by
  obtain ⟨-, pf⟩ := piK_f k hk h1
  unfold Rm_turnedMask
  refine Eq.trans rfl (it2_seq (f := Rs_turnedMask_4 (nI m) (nI k) (fun u_4 => some u_4)) (fun j => nI (tmP k m j)) (fun j => nI j) 12 _ (by unfold fuel; omega) (fun j hj rc => ?_) (fun rc => ?_))
  · obtain ⟨p1, p2, -, p4⟩ := pf j hj
    have hmul : (j + 1) * k < 2 ^ 31 := by
      have : (j + 1) * k ≤ 12 * 12 := Nat.mul_le_mul (by omega) (by omega)
      omega
    have hrem : nI (j + 1) * nI k - nI (j + 1) * nI k / (13 : Int32) * (13 : Int32) - (1 : Int32) = nI (piK k j) := by
      rw [pk_mul, show (13 : Int32) = nI 13 from rfl, pk_rem hmul (by decide) (by decide)]
      exact pk_sub (b := 1) p4
    unfold Rs_turnedMask_4
    rw [if_neg (show ¬ (12 : Int32) ≤ nI j from nI_ge (b := 12) (by omega) (by decide)), rholds_n (by omega) (by omega), pl1, hrem, shl1 (by omega), fa_or, nm_s]
    have es : tmP k m (j + 1) = if m.testBit j = true then tmP k m j ||| 2 ^ piK k j else tmP k m j := rfl
    rw [es]
    cases m.testBit j
    · rw [if_pos (by rfl), if_neg (by decide)]
      show rc (nI _ ||| nI 0) _ = _
      rw [fa_or, Nat.or_zero]
    · rw [if_neg (by decide), if_pos rfl]
  · unfold Rs_turnedMask_4
    rw [if_pos (show (12 : Int32) ≤ nI 12 by decide)]
/-- what the class adds up -/
def sNP (k p : Nat) : Nat → Nat
  | 0 => 0
  | j + 1 => if p.testBit j = true then sNP k p j + 2 ^ (11 - piK k (11 - j)) else sNP k p j
theorem add_bit {x n : Nat} (h : x.testBit n = false) : x + 2 ^ n = x ||| 2 ^ n := by
  have hs : sbs x (x ||| 2 ^ n) := fun i hi => by rw [Nat.testBit_or, hi, Bool.true_or]
  have e : (x ||| 2 ^ n) - x = 2 ^ n := Nat.eq_of_testBit_eq fun i => by
    rw [sub_tb i _ _ hs, Nat.testBit_or, Nat.testBit_two_pow]
    by_cases c : n = i
    · rw [← c, h, decide_eq_true rfl]; rfl
    · rw [decide_eq_false c, Bool.or_false]
      cases x.testBit i <;> rfl
  have := sbs_le hs
  omega
theorem sNP_tb (hk : k < 13) (h1 : 1 ≤ k) (p : Nat) : ∀ j, j ≤ 12 → sNP k p j < 4096 ∧ ∀ i, i < 12 → (sNP k p j).testBit i = (decide (11 - piK (ivK k) (11 - i) < j) && p.testBit (11 - piK (ivK k) (11 - i)))
  | 0, _ => ⟨show 0 < 4096 by decide, fun i hi => by
      show (0 : Nat).testBit i = _
      rw [Nat.zero_testBit, decide_eq_false (Nat.not_lt_zero _)]; rfl⟩
  | j + 1, hj => by
    obtain ⟨a1, a2⟩ := sNP_tb hk h1 p j (by omega)
    obtain ⟨⟨v1, v2, -⟩, pf⟩ := piK_f k hk h1
    obtain ⟨p1, p2, -, -⟩ := pf (11 - j) (by omega)
    obtain ⟨-, pi⟩ := piK_f (ivK k) v2 v1
    have eqv : ∀ i, i < 12 → (11 - piK k (11 - j) = i ↔ 11 - piK (ivK k) (11 - i) = j) := fun i hi => by
      obtain ⟨-, -, x, -⟩ := pf (11 - i) (by omega)
      obtain ⟨y, -, -, -⟩ := pi (11 - i) (by omega)
      constructor
      · intro e
        rw [show 11 - i = piK k (11 - j) by omega, p2]
        omega
      · intro e
        rw [show 11 - j = piK (ivK k) (11 - i) by omega, x]
        omega
    cases c : p.testBit j
    · have e : sNP k p (j + 1) = sNP k p j := by show (if p.testBit j = true then _ else _) = _; rw [c]; rfl
      rw [e]
      refine ⟨a1, fun i hi => ?_⟩
      rw [a2 i hi]
      by_cases d : 11 - piK (ivK k) (11 - i) = j
      · rw [d, c, Bool.and_false, Bool.and_false]
      · rw [show decide (11 - piK (ivK k) (11 - i) < j + 1) = decide (11 - piK (ivK k) (11 - i) < j) from decide_eq_decide.mpr (by omega)]
    · have hb : (sNP k p j).testBit (11 - piK k (11 - j)) = false := by
        rw [a2 _ (by omega), (eqv _ (by omega)).mp rfl, decide_eq_false (Nat.lt_irrefl j)]; rfl
      have e : sNP k p (j + 1) = sNP k p j ||| 2 ^ (11 - piK k (11 - j)) := by
        show (if p.testBit j = true then _ else _) = _
        rw [c, if_pos rfl, add_bit hb]
      rw [e]
      refine ⟨Nat.or_lt_two_pow (n := 12) a1 (Nat.pow_lt_pow_right (by decide) (by omega)), fun i hi => ?_⟩
      rw [Nat.testBit_or, Nat.testBit_two_pow, a2 i hi]
      by_cases d : 11 - piK (ivK k) (11 - i) = j
      · rw [decide_eq_true ((eqv i hi).mpr d), Bool.or_true, d, c, decide_eq_true (by omega)]; rfl
      · rw [decide_eq_false (fun q => d ((eqv i hi).mp q)), Bool.or_false, show decide (11 - piK (ivK k) (11 - i) < j + 1) = decide (11 - piK (ivK k) (11 - i) < j) from decide_eq_decide.mpr (by omega)]
theorem sNP_tm (hk : k < 13) (h1 : 1 ≤ k) {p : Nat} (hp : p < 4096) : sNP k p 12 = mir (tmP k (mir p) 12) := by
  obtain ⟨a1, a2⟩ := sNP_tb hk h1 p 12 (Nat.le_refl _)
  obtain ⟨b1, b2⟩ := tm_tb hk h1 (mir p)
  obtain ⟨⟨v1, v2, -⟩, -⟩ := piK_f k hk h1
  obtain ⟨-, pi⟩ := piK_f (ivK k) v2 v1
  refine tb_ext a1 (mir_lt b1) (fun i hi => ?_)
  rw [a2 i hi, mir_tb b1 hi, b2 _ (by omega), mir_tb hp (pi _ (by omega)).1, decide_eq_true (by omega)]
  rfl
def tAd (k l : Nat) : Int := ((2 ^ (11 - piK k (11 - l)) : Nat) : Int)
theorem tS_tAd (k p : Nat) : ∀ j, tS (tAd k) p j = (sNP k p j : Int)
  | 0 => rfl
  | j + 1 => by
    have ih := tS_tAd k p j
    unfold tS at ih ⊢
    rw [fb_si_succ, ih]
    show _ = ((if p.testBit j = true then sNP k p j + 2 ^ (11 - piK k (11 - j)) else sNP k p j : Nat) : Int)
    cases p.testBit j
    · rw [if_neg (by decide), if_neg (by decide), Int.add_zero]
    · rw [if_pos rfl, if_pos rfl, Int.natCast_add]
      rfl
theorem learnT_n (hk : k < 13) (h1 : 1 ≤ k) {σ : DS} (ax : σ.2.1 11 0 = 0 ∧ σ.2.1 12 0 = 0) : ∃ σ', D5m_learnTurn σ (nI k) = some σ' ∧ dK_ (fun c => c = 10 ∨ c = 11 ∨ c = 12) σ σ' ∧ LRN σ' (tAd k) := by
  obtain ⟨-, pf⟩ := piK_f k hk h1
  unfold D5m_learnTurn
  refine it2_ind (f := D5s_learnTurn_2 (nI k) (fun τ_6 => b1 (D5m_learn τ_6) (fun τ_8 => some τ_8))) (P := fun n v s => ∃ j, j + n = 12 ∧ v = nI j ∧ dK_ (fun c => c = 10) σ s ∧ ∀ l, l < j → s.2.1 10 l = Int32.ofInt (tAd k l)) (Q := fun o => ∃ s', o = some s' ∧ dK_ (fun c => c = 10 ∨ c = 11 ∨ c = 12) σ s' ∧ LRN s' (tAd k)) ?_ fuel 12 (0 : Int32) σ (by unfold fuel; omega) ⟨0, rfl, rfl, dK_.rf, fun l hl => by omega⟩
  rintro n v s rc ⟨j, hj, rfl, k1, w1⟩ ih
  unfold D5s_learnTurn_2
  by_cases c : j = 12
  · subst c
    rw [if_pos (show (12 : Int32) ≤ nI 12 by decide)]
    obtain ⟨s', e1, k2, w2⟩ := learn_n (σ := s) w1 ⟨by rw [(k1 11 (by omega)).2.1]; exact ax.1, by rw [(k1 12 (by omega)).2.1]; exact ax.2⟩
    exact ⟨s', by show b1 (D5m_learn s) (fun τ_9 => some τ_9) = _; rw [e1, b1_s], (k1.mo (fun c hc => Or.inl hc)).tr (k2.mo (fun c hc => Or.inr hc)), w2⟩
  · obtain ⟨p1, p2, -, p4⟩ := pf (11 - j) (by omega)
    have hmul : (12 - j) * k < 2 ^ 31 := by
      have : (12 - j) * k ≤ 12 * 12 := Nat.mul_le_mul (by omega) (by omega)
      omega
    rw [show 11 - j + 1 = 12 - j by omega] at p4
    have hrem : nI (12 - j) * nI k - nI (12 - j) * nI k / (13 : Int32) * (13 : Int32) - (1 : Int32) = nI (piK k (11 - j)) := by
      rw [pk_mul, show (13 : Int32) = nI 13 from rfl, pk_rem hmul (by decide) (by decide)]
      unfold piK
      rw [show 11 - j + 1 = 12 - j by omega]
      exact pk_sub (b := 1) p4
    rw [if_neg (show ¬ (12 : Int32) ≤ nI j from nI_ge (b := 12) (by omega) (by decide)), show (12 : Int32) - nI j = nI (12 - j) from pk_sub (a := 12) (by omega), hrem, nm_s, gi_n (by omega) (by decide), nm_s, placeOf_n _ p1, tn _ (by omega), pl1]
    refine ih (n - 1) _ _ (by omega) ⟨j + 1, by omega, rfl, k1.tr (dK_A rfl), fun l hl => ?_⟩
    by_cases e : l = j
    · subst e
      rw [dA_s]
      rfl
    · rw [dA_n e]; exact w1 l (by omega)
end TURN
theorem tm_1 {m : Nat} (hm : m < 4096) : tmP 1 m 12 = m := by
  obtain ⟨a1, a2⟩ := tm_tb (k := 1) (by decide) (by decide) m
  have id1 : ∀ i, i < 12 → piK (ivK 1) i = i := by decide
  exact tb_ext a1 hm (fun i hi => by rw [a2 i hi, id1 i hi])
/-- the reference's book of a family as it is -/
theorem book1_n {σ : DS} {τ : RS} {F f : Nat} {kd : Nat → Nat} {W : Nat → Nat → Bool} (f1 : FW F kd) (f2 : CF σ F kd W) (f3 : RF τ F kd W) (hf : f < F) : ∃ τ' K, Rm_bookOf τ (nI f) (1 : Int32) = some (enc K (tT (wb σ f) 12 0), τ') ∧ RTB τ' K ∧ CLO K ∧ LBD (wb σ f) K ∧ inn K (tT (wb σ f) 12 0) ∧ rK_ (fun c => 22 ≤ c ∧ c ≤ 26) τ τ' :=
  bookOf_n (V := wb σ f) (k := 1) f3.R f1.1 hf (fun m => m) (fun m hm => ⟨hm, by have := turned_n (k := 1) (by decide) (by decide) hm; rw [tm_1 hm] at this; exact this, f2.W hf hm⟩) (fun y hy => ⟨y, hy, rfl⟩)
theorem AXr.bk {τ τ' : RS} {C : Nat → Prop} (h : AXr τ) (r : rK_ C τ τ') (hc : ∀ c, C c → 22 ≤ c) : AXr τ' := fun j => by
  rw [(r 8 (fun q => by have := hc _ q; omega)).2, (r 20 (fun q => by have := hc _ q; omega)).2, (r 21 (fun q => by have := hc _ q; omega)).2]
  exact h j
theorem st_told : ST_told INV := by
  intro σ τ h a1 a2
  obtain ⟨-, ⟨F, kd, W, f1, f2, f3⟩, -, -, -, ax⟩ := id h
  have hF := f1.1
  by_cases hf0 : 0 ≤ a1.toInt ∧ a1.toInt < F
  · obtain ⟨f, hf, rfl⟩ := of_range (by omega) hf0.1 hf0.2
    by_cases hw0 : 0 ≤ a2.toInt ∧ a2.toInt ≤ 2
    · obtain ⟨w, hw, rfl⟩ := of_range (x := a2) (n := 3) (by omega) hw0.1 (by omega)
      have pR : Rm_told τ (nI f) (nI w) = (if nI w = (0 : Int32) then (some (nI (kd f), τ)) else (if nI w = (1 : Int32) then (b2 (Rm_bookOf τ (nI f) (1 : Int32)) (fun r_11 τ_12 => some ((τ_12.1 22), τ_12))) else (it2 (Rs_told_53 (nI f) τ (fun u_9 => some (u_9, τ))) fuel (0 : Int32) (0 : Int32)))) := by
        unfold Rm_told
        rw [if_neg (fun q => (isFam_0 f3.1 hF).mp q hf0), if_neg (fun q => in_0.mp q ⟨by rw [t0]; omega, by rw [i32_2]; omega⟩), gi_n (by omega) (by decide), tn _ (by omega), (f3.2 f hf).1]
      have pD : D8m_told σ (nI f) (nI w) = (if nI w = (0 : Int32) then (some (nI (kd f), σ)) else (if nI w = (1 : Int32) then (b2 (D3m_list 25 σ f) (fun r_8 τ_7 => some (r_8, τ_7))) else (if nI w = (2 : Int32) then (b1 (D7m_used f σ) (fun r_11 => b1 (D8m_mirrored r_11) (fun r_13 => some (r_13, σ)))) else (some ((-2 : Int32), σ))))) := by
        unfold D8m_told
        rw [family_n f2.1 hF hf, bq_k (by omega), (f2.2 f hf).1]
      rcases (show w = 0 ∨ w = 1 ∨ w = 2 by omega) with rfl | rfl | rfl
      · exact ⟨nI (kd f), σ, τ, by rw [pD, if_pos (by rfl)], by rw [pR, if_pos (by rfl)], h⟩
      · obtain ⟨σ', e1, T1, d1⟩ := list_b (b := 25) (σ := σ) (a := f) (V := wb σ f) (by omega) (by omega) (fun p _ => rfl)
        obtain ⟨τ', K, e2, T2, C2, B2, i2, d2⟩ := book1_n f1 f2 f3 hf
        refine ⟨nI (po 12 (tT (wb σ f) 12 0) []).length, σ', τ', ?_, ?_, h.scr (fun F0 _ _ => d1.mo (fun c hc => by unfold dScr; omega)) (d2.mo (fun c hc => by simp only [rScr]; omega)) ⟨by rw [(d1 11 (by omega)).2.1, (d1 12 (by omega)).2.1]; exact ax.1, AXr.bk ax.2 d2 (fun c hc => hc.1)⟩⟩
        · rw [pD, if_neg (by decide), if_pos (by rfl), e1, b2_s]
        · rw [pR, if_neg (by decide), if_pos (by rfl), e2, b2_s, T2.1, (same_len C2 B2 i2).1]
      · obtain ⟨u, e0, hu, hub⟩ := used_n (σ := σ) (k := f)
        refine ⟨nI (mir u), σ, τ, ?_, ?_, h⟩
        · rw [pD, if_neg (by decide), if_neg (by decide), if_pos (by rfl), e0, b1_s, mirrored_n hu, b1_s]
        · rw [pR, if_neg (by decide), if_neg (by decide)]
          refine it2_ind (f := Rs_told_53 (nI f) τ (fun u_9 => some (u_9, τ))) (P := fun n v w => ∃ j x, j + n = 4096 ∧ w = nI j ∧ v = nI x ∧ x < 4096 ∧ ∀ i, i < 12 → (x.testBit i = true ↔ ∃ m, m < j ∧ W f m = true ∧ m.testBit i = true)) (Q := fun o => o = some (nI (mir u), τ)) ?_ fuel 4096 (0 : Int32) (0 : Int32) (by unfold fuel; omega) ⟨0, 0, rfl, rfl, rfl, by omega, fun i hi => by rw [Nat.zero_testBit]; exact ⟨fun q => absurd q (by decide), fun ⟨m, q, _⟩ => absurd q (Nat.not_lt_zero m)⟩⟩
          rintro n v w rc ⟨j, x, hj, rfl, rfl, hx, hb⟩ ih
          unfold Rs_told_53
          by_cases c : j = 4096
          · subst c
            rw [if_pos (show (4096 : Int32) ≤ nI 4096 by decide)]
            refine congrArg (fun z => some (nI z, τ)) (tb_ext hx (mir_lt hu) (fun i hi => ?_))
            rw [Bool.eq_iff_iff, hb i hi, mir_tb hu hi, hub _ (by omega)]
            constructor
            · rintro ⟨m, m1, m2, m3⟩
              exact ⟨mir m, mir_lt m1, by rw [f2.W hf m1]; exact m2, by rw [mir_tb m1 (by omega), show 11 - (11 - i) = i by omega]; exact m3⟩
            · rintro ⟨p, p1, p2, p3⟩
              exact ⟨mir p, mir_lt p1, by rw [← f2.P hf p1]; exact p2, by rw [mir_tb p1 hi]; exact p3⟩
          · rw [if_neg (show ¬ (4096 : Int32) ≤ nI j from nI_ge (b := 4096) (by omega) (by decide)), isWay_n f3.R hF hf (by omega), b1_s, fa_or, pl1]
            have x0 : nI x ||| (0 : Int32) = nI x := by
              show nI x ||| nI 0 = _
              rw [fa_or, Nat.or_zero]
            rw [x0]
            cases d : W f j
            · rw [if_pos (by rfl)]
              refine ih (n - 1) _ _ (by omega) ⟨j + 1, x, by omega, rfl, rfl, hx, fun i hi => ?_⟩
              rw [hb i hi]
              constructor
              · rintro ⟨m, m1, m2⟩; exact ⟨m, by omega, m2⟩
              · rintro ⟨m, m1, m2, m3⟩
                refine ⟨m, ?_, m2, m3⟩
                have : m ≠ j := fun e => by rw [e, d] at m2; exact absurd m2 (by decide)
                omega
            · rw [if_neg (by decide)]
              refine ih (n - 1) _ _ (by omega) ⟨j + 1, x ||| j, by omega, rfl, rfl, Nat.or_lt_two_pow (n := 12) hx (by omega), fun i hi => ?_⟩
              rw [Nat.testBit_or, Bool.or_eq_true, hb i hi]
              constructor
              · rintro (⟨m, m1, m2⟩ | q)
                · exact ⟨m, by omega, m2⟩
                · exact ⟨j, by omega, d, q⟩
              · rintro ⟨m, m1, m2, m3⟩
                by_cases e : m = j
                · rw [e] at m3; exact Or.inr m3
                · exact Or.inl ⟨m, by omega, m2, m3⟩
    · refine ⟨-2, σ, τ, ?_, ?_, h⟩
      · unfold D8m_told
        rw [family_n f2.1 hF hf, bq_k (by omega), if_neg (fun q => hw0 (by rw [q, t0]; omega)), if_neg (fun q => hw0 (by rw [q, i32_1]; omega)), if_neg (fun q => hw0 (by rw [q, i32_2]; omega))]
      · unfold Rm_told
        rw [if_neg (fun q => (isFam_0 f3.1 hF).mp q hf0), if_pos (in_0.mpr (fun q => hw0 (by rw [t0, i32_2] at q; exact q)))]
  · refine ⟨-2, σ, τ, ?_, ?_, h⟩
    · unfold D8m_told
      rw [family_o f2.1 hF hf0, bq_n]
    · unfold Rm_told
      rw [if_pos ((isFam_0 f3.1 hF).mpr hf0)]
theorem st_turned : ST_turned INV := by
  intro σ τ h a1 a2
  obtain ⟨-, ⟨F, kd, W, f1, f2, f3⟩, -, -, -, ax⟩ := id h
  have hF := f1.1
  by_cases hf0 : 0 ≤ a1.toInt ∧ a1.toInt < F
  · obtain ⟨f, hf, rfl⟩ := of_range (by omega) hf0.1 hf0.2
    by_cases hk0 : 1 ≤ a2.toInt ∧ a2.toInt ≤ 12
    · obtain ⟨k, hk, rfl⟩ := of_range (x := a2) (n := 13) (by omega) (by omega) (by omega)
      have hk1 : 1 ≤ k := by rw [it_nI (by omega)] at hk0; omega
      obtain ⟨σ1, e1, k1, w1⟩ := learnT_n hk hk1 ax.1
      obtain ⟨σ2, hσ2⟩ : ∃ s, s = jFill (dS σ1 (47 + 30) 0 0) (79 + 30) 64 (fun _ => 0) := ⟨_, rfl⟩
      have e2 : D7m_clear 30 σ1 (0 : Int32) = some σ2 := by
        unfold D7m_clear
        rw [nm_s, fillJ (by omega), b1_s, hσ2]
      have k2 : dK_ (fun c => c = 47 + 30 ∨ c = 79 + 30) σ1 σ2 := by rw [hσ2]; exact (dK_S (Or.inl rfl)).tr (dK_JF (Or.inr rfl))
      have z2 : ∀ q, q < 4096 → wb σ2 30 q = false := fun q hq => by rw [hσ2, wb_jf hq, bL_0]
      obtain ⟨σl, e3, kl, hl⟩ := list_n (σ := σ2) (k := f)
      have old : ∀ p, p < 4096 → wb σ2 f p = W f (mir p) := fun p hp => by
        rw [wb_dK k2 (by omega), wb_dK k1 (by omega), f2.P hf hp]
      have hle := fb_ct_le (wb σ2 f) 4096
      have lp : ∀ kx : DS → Option (Int32 × DS), ∃ s, it2 (D8s_turned_53 (nI (fb_ct (wb σ2 f) 4096)) kx) fuel (0 : Int32) σl = kx s ∧ dK_ (fun c => c = 79 + 30) σl s ∧ ∀ q, q < 4096 → (wb s 30 q = true ↔ ∃ p, p < 4096 ∧ wb σ2 f p = true ∧ mir (tmP k (mir p) 12) = q) := fun kx => by
        refine list_loop (f := D8s_turned_53 (nI (fb_ct (wb σ2 f) 4096)) kx) (wb σ2 f) (fun j s => dK_ (fun c => c = 79 + 30) σl s ∧ ∀ q, q < 4096 → (wb s 30 q = true ↔ ∃ p, p < j ∧ wb σ2 f p = true ∧ mir (tmP k (mir p) 12) = q)) (fun o => ∃ s, o = kx s ∧ dK_ (fun c => c = 79 + 30) σl s ∧ ∀ q, q < 4096 → (wb s 30 q = true ↔ ∃ p, p < 4096 ∧ wb σ2 f p = true ∧ mir (tmP k (mir p) 12) = q)) ?_ ?_ ?_ ⟨dK_.rf, fun q hq => by rw [wb_dK kl (by omega), z2 q hq]; exact ⟨fun x => absurd x (by decide), fun ⟨p, x, _⟩ => absurd x (Nat.not_lt_zero p)⟩⟩
        · rintro j s hj hv ⟨ks, ws⟩
          refine ⟨ks, fun q hq => ?_⟩
          rw [ws q hq]
          constructor
          · rintro ⟨p, p1, p2⟩; exact ⟨p, by omega, p2⟩
          · rintro ⟨p, p1, p2, p3⟩
            refine ⟨p, ?_, p2, p3⟩
            have : p ≠ j := fun e => by rw [e, hv] at p2; exact absurd p2 (by decide)
            omega
        · rintro j s rc hj hv ⟨ks, ws⟩ ih
          have hlt := ct_mono_lt hj hv
          have hpl : s.2.1 8 (fb_ct (wb σ2 f) j) = nI j := by rw [(ks 8 (by omega)).2.1]; exact hl j hj hv
          have hlr : LRN s (tAd k) := ((w1.to k2 (by omega) (by omega)).to kl (by omega) (by omega)).to ks (by omega) (by omega)
          have hq : sNP k j 12 < 4096 := (sNP_tb hk hk1 j 12 (Nat.le_refl _)).1
          have hsum : Int32.ofInt (tS (tAd k) j 12) = nI (sNP k j 12) := by rw [tS_tAd]; rfl
          obtain ⟨s', e5, k5, w5⟩ := put_n (σ := s) (k := 30) hq
          unfold D8s_turned_53
          rw [if_neg (nI_ge hlt (by omega)), if_neg (show ¬ (4096 : Int32) ≤ nI (fb_ct (wb σ2 f) j) from nI_ge (b := 4096) (by omega) (by decide)), gi_n (by omega) (by decide), tn _ (by omega), hpl, of_n hlr hj, b1_s, hsum, e5, b1_s]
          refine ih s' ⟨ks.tr k5, fun q hq2 => ?_⟩
          rw [w5 q hq2, Bool.or_eq_true, decide_eq_true_eq, ws q hq2, sNP_tm hk hk1 hj]
          constructor
          · rintro (e | ⟨p, p1, p2⟩)
            · exact ⟨j, by omega, hv, e.symm⟩
            · exact ⟨p, by omega, p2⟩
          · rintro ⟨p, p1, p2, p3⟩
            by_cases e : p = j
            · rw [e] at p3; exact Or.inl p3.symm
            · exact Or.inr ⟨p, by omega, p2, p3⟩
        · rintro s rc ⟨ks, ws⟩
          unfold D8s_turned_53
          rw [if_pos (nI_le (Nat.le_refl _) (by omega))]
          exact ⟨s, rfl, ks, ws⟩
      obtain ⟨σ4, e4, k4, w4⟩ := lp (fun τ_20 => b2 (D3m_list 25 τ_20 30) (fun r_23 τ_22 => some (r_23, τ_22)))
      obtain ⟨σ5, e5, T5, k5⟩ := list_b (b := 25) (σ := σ4) (a := 30) (V := wb σ4 30) (by omega) (by omega) (fun p _ => rfl)
      obtain ⟨τ', K, e6, T6, C6, B6, i6, d6⟩ := bookOf_n (V := wb σ4 30) (k := k) f3.R hF hf (fun m => tmP k m 12) (fun m hm => ⟨(tm_tb hk hk1 m).1, turned_n hk hk1 hm, by
        have ht := (tm_tb hk hk1 m).1
        rw [Bool.eq_iff_iff, w4 _ (mir_lt ht)]
        constructor
        · rintro ⟨p, p1, p2, p3⟩
          have e7 := mir_inj (tm_tb hk hk1 (mir p)).1 ht p3
          have e8 := tm_inj hk hk1 (mir_lt p1) hm e7
          rw [old p p1, e8] at p2
          exact p2
        · intro q
          exact ⟨mir m, mir_lt hm, by rw [old _ (mir_lt hm), mir_mir hm]; exact q, by rw [mir_mir hm]⟩⟩) (fun y hy => tm_sur hk hk1 hy)
      have kall : ∀ F0, F0 ≤ 30 → dK_ (dScr F0) σ σ5 := fun F0 hF0 => (((k1.mo (fun c hc => by unfold dScr; omega)).tr ((k2.mo (fun c hc => by unfold dScr; omega)).tr (kl.mo (fun c hc => by unfold dScr; omega)))).tr (k4.mo (fun c hc => by unfold dScr; omega))).tr (k5.mo (fun c hc => by unfold dScr; omega))
      have z := ((((w1.to k2 (by omega) (by omega)).to kl (by omega) (by omega)).to k4 (by omega) (by omega)).to k5 (by omega) (by omega)).z
      refine ⟨nI (po 12 (tT (wb σ4 30) 12 0) []).length, σ5, τ', ?_, ?_, ?_⟩
      · unfold D8m_turned
        rw [family_n f2.1 hF hf, bq_k (by omega), if_neg (by rw [fa_lt, i32_1]; omega), if_pos (by rw [fa_le, i32_12]; omega), e1, b1_s, e2, b1_s, e3, b2_s, e4, e5, b2_s]
      · unfold Rm_turned
        rw [if_neg (fun q => (isFam_0 f3.1 hF).mp q hf0), if_neg (fun q => in_0.mp q ⟨by rw [i32_1]; omega, by rw [i32_12]; omega⟩), e6, b2_s, T6.1, (same_len C6 B6 i6).1]
      · obtain ⟨g1, ⟨F2, kd2, W2, g2, g3, g4⟩, g5⟩ := id h
        refine h.scr (fun F0 _ hF0 => ?_) (d6.mo (fun c hc => by simp only [rScr]; omega)) ⟨z, AXr.bk ax.2 d6 (fun c hc => hc.1)⟩
        exact kall F0 hF0
    · refine ⟨-2, σ, τ, ?_, ?_, h⟩
      · unfold D8m_turned
        rw [family_n f2.1 hF hf, bq_k (by omega)]
        by_cases d : a2.toInt < 1
        · rw [if_pos (by rw [fa_lt, i32_1]; exact d)]
        · rw [if_neg (by rw [fa_lt, i32_1]; exact d), if_neg (by rw [fa_le, i32_12]; omega)]
      · unfold Rm_turned
        rw [if_neg (fun q => (isFam_0 f3.1 hF).mp q hf0), if_pos (in_0.mpr (fun q => hk0 (by rw [i32_1, i32_12] at q; exact q)))]
  · refine ⟨-2, σ, τ, ?_, ?_, h⟩
    · unfold D8m_turned
      rw [family_o f2.1 hF hf0, bq_n]
    · unfold Rm_turned
      rw [if_pos ((isFam_0 f3.1 hF).mpr hf0)]

/-! ===== unions, by counting pairs ===== -/
theorem addW_n {σ : DS} {c N : Nat} {p2 : Int32} (hN : N ≤ 4096) (Z : Nat → Nat → Int64) (h0 : ∀ n, n < N → σ.2.2 c n = Z 0 n)
    (hs : ∀ l n, l < 12 → n < N → Z (l + 1) n = if n.testBit l = true then Z l n + p2.toInt64 * Z l (n ^^^ 2 ^ l) else Z l n) : ∃ σ', D6m_addWithin σ c 4096 (nI N) p2 = some σ' ∧ dK_ (fun x => x = c) σ σ' ∧ ∀ n, n < N → σ'.2.2 c n = Z 12 n := by
  unfold D6m_addWithin
  refine it2_ind (f := D6s_addWithin_2 c 4096 (nI N) p2 (fun τ_11 => some τ_11)) (P := fun n v s => ∃ l, l + n = 12 ∧ v = nI l ∧ dK_ (fun x => x = c) σ s ∧ ∀ n, n < N → s.2.2 c n = Z l n) (Q := fun o => ∃ σ', o = some σ' ∧ dK_ (fun x => x = c) σ σ' ∧ ∀ n, n < N → σ'.2.2 c n = Z 12 n) ?_ fuel 12 (0 : Int32) σ (by unfold fuel; omega) ⟨0, rfl, rfl, dK_.rf, h0⟩
  rintro n v s rc ⟨l, hl, rfl, k1, w1⟩ ih
  unfold D6s_addWithin_2
  by_cases cl : l = 12
  · subst cl
    rw [if_pos (show (12 : Int32) ≤ nI 12 by decide)]
    exact ⟨s, rfl, k1, w1⟩
  · rw [if_neg (show ¬ (12 : Int32) ≤ nI l from nI_ge (b := 12) (by omega) (by decide))]
    have inner : ∃ t, it2 (D6s_addWithin_11 c 4096 (nI N) p2 (nI l) (fun τ_10 => rc (nI l + (1 : Int32)) τ_10)) fuel (0 : Int32) s = rc (nI l + (1 : Int32)) t ∧ dK_ (fun x => x = c) σ t ∧ ∀ n, n < N → t.2.2 c n = Z (l + 1) n := by
      refine it2_ind (f := D6s_addWithin_11 c 4096 (nI N) p2 (nI l) (fun τ_10 => rc (nI l + (1 : Int32)) τ_10)) (P := fun n v t => ∃ j, j + n = N ∧ v = nI j ∧ dK_ (fun x => x = c) σ t ∧ ∀ x, x < N → t.2.2 c x = if x < j then Z (l + 1) x else Z l x) (Q := fun o => ∃ t, o = rc (nI l + (1 : Int32)) t ∧ dK_ (fun x => x = c) σ t ∧ ∀ n, n < N → t.2.2 c n = Z (l + 1) n) ?_ fuel N (0 : Int32) s (by unfold fuel; omega) ⟨0, by omega, rfl, k1, fun x hx => by rw [if_neg (Nat.not_lt_zero x)]; exact w1 x hx⟩
      rintro n2 v t rc2 ⟨j, hj, rfl, k2, w2⟩ ih2
      unfold D6s_addWithin_11
      by_cases cj : j = N
      · rw [if_pos (by rw [cj]; exact nI_le (Nat.le_refl _) (by omega))]
        exact ⟨t, rfl, k2, fun x hx => by rw [w2 x hx, if_pos (by omega)]⟩
      · have hb := fa_bit (n := j) (j := l) (by omega)
        have hsl := hs l j (by omega) (by omega)
        rw [if_neg (nI_ge (by omega) (by omega)), show Int32.ofNat 4096 = nI 4096 from rfl, if_neg (nI_ge (by omega) (by decide)), shl1 (by omega), pl1, nx_xor]
        cases d : j.testBit l
        · rw [d, if_neg (by decide)] at hsl
          rw [if_pos (hb.mpr d)]
          refine ih2 (n2 - 1) _ _ (by omega) ⟨j + 1, by omega, rfl, k2, fun x hx => ?_⟩
          rw [w2 x hx]
          by_cases e : x = j
          · rw [e, if_neg (Nat.lt_irrefl j), if_pos (by omega), hsl]
          · by_cases e2 : x < j
            · rw [if_pos e2, if_pos (by omega)]
            · rw [if_neg e2, if_neg (by omega)]
        · rw [d, if_pos rfl] at hsl
          have hle : j ^^^ 2 ^ l ≤ j := sbs_le (sbs_less d)
          have hne : j ^^^ 2 ^ l ≠ j := fun e => by
            have := congrArg (fun x => x.testBit l) e
            simp only [fl_t, if_true, d] at this
            exact absurd this (by decide)
          have hz : Z (l + 1) (j ^^^ 2 ^ l) = Z l (j ^^^ 2 ^ l) := by
            rw [hs l (j ^^^ 2 ^ l) (by omega) (by omega), fl_t, if_pos rfl, d]
            rfl
          rw [if_neg (fun q => by rw [hb.mp q] at d; exact absurd d (by decide)), gi_n (by omega) (by decide), gi_n (by omega) (by decide), gi_n (by omega) (by decide), nm_s, tn _ (by omega), tn _ (by omega), w2 j (by omega), w2 (j ^^^ 2 ^ l) (by omega), if_neg (Nat.lt_irrefl j), if_pos (by omega), hz, ← hsl]
          refine ih2 (n2 - 1) _ _ (by omega) ⟨j + 1, by omega, rfl, k2.tr (dK_J rfl), fun x hx => ?_⟩
          by_cases e : x = j
          · rw [e, dJ_s, if_pos (by omega)]
          · rw [dJ_n e, w2 x hx]
            by_cases e2 : x < j
            · rw [if_pos e2, if_pos (by omega)]
            · rw [if_neg e2, if_neg (by omega)]
    obtain ⟨t, e1, k2, w2⟩ := inner
    rw [e1, pl1]
    exact ih (n - 1) _ _ (by omega) ⟨l + 1, by omega, rfl, k2, w2⟩
/-- the sets within n in the lowest l levels and like n above -/
def agr (l n a : Nat) : Prop := (∀ i, i < l → a.testBit i = true → n.testBit i = true) ∧ ∀ i, l ≤ i → a.testBit i = n.testBit i
noncomputable def zC (V : Nat → Bool) (N l n : Nat) : Nat := fb_ct (fun a => V a && cD (agr l n a)) N
theorem zC_0 {V : Nat → Bool} {N n : Nat} (hn : n < N) : zC V N 0 n = if V n = true then 1 else 0 := by
  unfold zC
  have e : ∀ a, cD (agr 0 n a) = decide (a = n) := fun a => by
    symm
    apply cD_eq
    rw [decide_eq_true_eq]
    exact ⟨fun h => by rw [h]; exact ⟨fun _ _ h => h, fun _ _ => rfl⟩, fun h => Nat.eq_of_testBit_eq fun i => h.2 i (Nat.zero_le i)⟩
  have key : ∀ M, fb_ct (fun a => V a && cD (agr 0 n a)) M = if n < M then (if V n = true then 1 else 0) else 0 := fun M => by
    induction M with
    | zero => rfl
    | succ M ih =>
      rw [fb_ct_succ, ih, e M]
      by_cases c : M = n
      · subst c
        rw [if_neg (Nat.lt_irrefl _), if_pos (Nat.lt_succ_self _), decide_eq_true rfl, Bool.and_true, Nat.zero_add]
      · rw [decide_eq_false c, Bool.and_false, if_neg Bool.false_ne_true, Nat.add_zero]
        by_cases d : n < M
        · rw [if_pos d, if_pos (show n < M + 1 by omega)]
        · rw [if_neg d, if_neg (show ¬ n < M + 1 by omega)]
  rw [key, if_pos hn]
theorem agr_s {l n a : Nat} : (n.testBit l = false → (agr (l + 1) n a ↔ agr l n a)) ∧ (n.testBit l = true → (agr (l + 1) n a ↔ agr l n a ∨ agr l (n ^^^ 2 ^ l) a) ∧ ¬ (agr l n a ∧ agr l (n ^^^ 2 ^ l) a)) := by
  have ox : ∀ i, i ≠ l → (n ^^^ 2 ^ l).testBit i = n.testBit i := fun i hi => by rw [fl_t, if_neg hi]
  have ol : (n ^^^ 2 ^ l).testBit l = !n.testBit l := by rw [fl_t, if_pos rfl]
  constructor
  · intro h
    constructor
    · rintro ⟨a1, a2⟩
      refine ⟨fun i hi => a1 i (by omega), fun i hi => ?_⟩
      by_cases e : i = l
      · subst e
        cases q : a.testBit i
        · rw [h]
        · rw [a1 i (by omega) q]
      · exact a2 i (by omega)
    · rintro ⟨a1, a2⟩
      refine ⟨fun i hi hh => ?_, fun i hi => a2 i (by omega)⟩
      by_cases e : i = l
      · rw [← a2 i (by omega)]; exact hh
      · exact a1 i (by omega) hh
  · intro h
    refine ⟨⟨?_, ?_⟩, ?_⟩
    · rintro ⟨a1, a2⟩
      cases q : a.testBit l
      · refine Or.inr ⟨fun i hi hh => ?_, fun i hi => ?_⟩
        · rw [ox i (by omega)]; exact a1 i (by omega) hh
        · by_cases e : i = l
          · rw [e, q, ol, h]; rfl
          · rw [ox i e]; exact a2 i (by omega)
      · refine Or.inl ⟨fun i hi hh => a1 i (by omega) hh, fun i hi => ?_⟩
        by_cases e : i = l
        · rw [e, q, h]
        · exact a2 i (by omega)
    · rintro (⟨a1, a2⟩ | ⟨a1, a2⟩)
      · refine ⟨fun i hi hh => ?_, fun i hi => a2 i (by omega)⟩
        by_cases e : i = l
        · rw [e]; exact h
        · exact a1 i (by omega) hh
      · refine ⟨fun i hi hh => ?_, fun i hi => ?_⟩
        · by_cases e : i = l
          · rw [e]; exact h
          · rw [← ox i e]; exact a1 i (by omega) hh
        · rw [← ox i (by omega)]; exact a2 i (by omega)
    · rintro ⟨⟨-, a2⟩, ⟨-, b2⟩⟩
      have x := a2 l (Nat.le_refl _)
      have y := b2 l (Nat.le_refl _)
      rw [ol, h] at y
      rw [h] at x
      rw [x] at y
      exact absurd y (by decide)
theorem zC_s {V : Nat → Bool} {N l n : Nat} : zC V N (l + 1) n = if n.testBit l = true then zC V N l n + zC V N l (n ^^^ 2 ^ l) else zC V N l n := by
  obtain ⟨s1, s2⟩ : (n.testBit l = false → ∀ a, (agr (l + 1) n a ↔ agr l n a)) ∧ (n.testBit l = true → ∀ a, (agr (l + 1) n a ↔ agr l n a ∨ agr l (n ^^^ 2 ^ l) a) ∧ ¬ (agr l n a ∧ agr l (n ^^^ 2 ^ l) a)) := ⟨fun h a => agr_s.1 h, fun h a => agr_s.2 h⟩
  unfold zC
  cases d : n.testBit l
  · rw [if_neg (by decide)]
    refine fb_ct_cong fun a _ => ?_
    congr 1
    apply cD_eq
    rw [cD_iff]
    exact s1 d a
  · rw [if_pos rfl, ← fb_ct_or (fun a _ q => by
      rw [Bool.and_eq_true, Bool.and_eq_true, cD_iff, cD_iff] at q
      exact (s2 d a).2 ⟨q.1.2, q.2.2⟩)]
    refine fb_ct_cong fun a _ => ?_
    rw [← Bool.and_or_distrib_left]
    congr 1
    symm
    apply cD_eq
    rw [Bool.or_eq_true, cD_iff, cD_iff]
    exact ((s2 d a).1).symm
theorem agr_12 {n a : Nat} (hn : n < 4096) (ha : a < 4096) : agr 12 n a ↔ sbs a n := by
  constructor
  · rintro ⟨h1, h2⟩ i hi
    rcases Nat.lt_or_ge i 12 with c | c
    · exact h1 i c hi
    · rw [← h2 i c]; exact hi
  · intro h
    exact ⟨fun i _ hi => h i hi, fun i hi => by rw [tb_hi hn hi, tb_hi ha hi]⟩
/-- pairs whose union is like n in the lowest l levels, and within n above -/
def mob (l n a b : Nat) : Prop := (∀ i, i < l → (a ||| b).testBit i = n.testBit i) ∧ ∀ i, l ≤ i → (a.testBit i = true → n.testBit i = true) ∧ (b.testBit i = true → n.testBit i = true)
theorem mob_s {l n a b : Nat} : (n.testBit l = false → (mob (l + 1) n a b ↔ mob l n a b)) ∧ (n.testBit l = true → (mob l n a b ↔ mob (l + 1) n a b ∨ mob l (n ^^^ 2 ^ l) a b) ∧ ¬ (mob (l + 1) n a b ∧ mob l (n ^^^ 2 ^ l) a b)) := by
  have ox : ∀ i, i ≠ l → (n ^^^ 2 ^ l).testBit i = n.testBit i := fun i hi => by rw [fl_t, if_neg hi]
  have ol : (n ^^^ 2 ^ l).testBit l = !n.testBit l := by rw [fl_t, if_pos rfl]
  constructor
  · intro h
    constructor
    · rintro ⟨a1, a2⟩
      refine ⟨fun i hi => a1 i (by omega), fun i hi => ?_⟩
      by_cases e : i = l
      · subst e
        have := a1 i (by omega)
        rw [Nat.testBit_or, h, Bool.or_eq_false_iff] at this
        rw [this.1, this.2]
        exact ⟨fun q => absurd q (by decide), fun q => absurd q (by decide)⟩
      · exact a2 i (by omega)
    · rintro ⟨a1, a2⟩
      refine ⟨fun i hi => ?_, fun i hi => a2 i (by omega)⟩
      by_cases e : i = l
      · subst e
        obtain ⟨x, y⟩ := a2 i (Nat.le_refl _)
        rw [h] at x y ⊢
        rw [Nat.testBit_or, Bool.or_eq_false_iff]
        exact ⟨Bool.eq_false_iff.mpr (fun q => absurd (x q) (by decide)), Bool.eq_false_iff.mpr (fun q => absurd (y q) (by decide))⟩
      · exact a1 i (by omega)
  · intro h
    refine ⟨⟨?_, ?_⟩, ?_⟩
    · rintro ⟨a1, a2⟩
      cases q : (a ||| b).testBit l
      · refine Or.inr ⟨fun i hi => by rw [ox i (by omega)]; exact a1 i hi, fun i hi => ?_⟩
        by_cases e : i = l
        · subst e
          rw [Nat.testBit_or, Bool.or_eq_false_iff] at q
          rw [q.1, q.2]
          exact ⟨fun q => absurd q (by decide), fun q => absurd q (by decide)⟩
        · rw [ox i e]; exact a2 i (by omega)
      · refine Or.inl ⟨fun i hi => ?_, fun i hi => a2 i (by omega)⟩
        by_cases e : i = l
        · rw [e, q, h]
        · exact a1 i (by omega)
    · rintro (⟨a1, a2⟩ | ⟨a1, a2⟩)
      · refine ⟨fun i hi => a1 i (by omega), fun i hi => ?_⟩
        by_cases e : i = l
        · rw [e]; exact ⟨fun _ => h, fun _ => h⟩
        · exact a2 i (by omega)
      · refine ⟨fun i hi => by rw [← ox i (by omega)]; exact a1 i hi, fun i hi => ?_⟩
        by_cases e : i = l
        · rw [e]; exact ⟨fun _ => h, fun _ => h⟩
        · rw [← ox i e]; exact a2 i (by omega)
    · rintro ⟨⟨a1, -⟩, ⟨-, b2⟩⟩
      have x := a1 l (Nat.lt_succ_self _)
      obtain ⟨y, z⟩ := b2 l (Nat.le_refl _)
      rw [h, Nat.testBit_or, Bool.or_eq_true] at x
      rw [ol, h] at y z
      rcases x with x | x
      · exact absurd (y x) (by decide)
      · exact absurd (z x) (by decide)
noncomputable def mC (V U : Nat → Bool) (N l n : Nat) : Nat := fb_sm (fun a => fb_ct (fun b => V a && U b && cD (mob l n a b)) N) N
theorem mC_s {V U : Nat → Bool} {N l n : Nat} : (n.testBit l = false → mC V U N (l + 1) n = mC V U N l n) ∧ (n.testBit l = true → mC V U N l n = mC V U N (l + 1) n + mC V U N l (n ^^^ 2 ^ l)) := by
  obtain ⟨s1, s2⟩ : (n.testBit l = false → ∀ a b, (mob (l + 1) n a b ↔ mob l n a b)) ∧ (n.testBit l = true → ∀ a b, (mob l n a b ↔ mob (l + 1) n a b ∨ mob l (n ^^^ 2 ^ l) a b) ∧ ¬ (mob (l + 1) n a b ∧ mob l (n ^^^ 2 ^ l) a b)) := ⟨fun h a b => mob_s.1 h, fun h a b => mob_s.2 h⟩
  unfold mC
  constructor
  · intro d
    refine fb_sm_cong fun a _ => fb_ct_cong fun b _ => ?_
    congr 1
    apply cD_eq
    rw [cD_iff]
    exact s1 d a b
  · intro d
    rw [← fb_sm_add]
    refine fb_sm_cong fun a _ => ?_
    rw [← fb_ct_or (fun b _ q => by
      simp only [Bool.and_eq_true, cD_iff] at q
      exact (s2 d a b).2 ⟨q.1.2, q.2.2⟩)]
    refine fb_ct_cong fun b _ => ?_
    rw [← Bool.and_or_distrib_left]
    congr 1
    symm
    apply cD_eq
    rw [Bool.or_eq_true, cD_iff, cD_iff]
    exact ((s2 d a b).1).symm
theorem ct_mul (p : Nat → Bool) (c : Nat) : ∀ n, fb_sm (fun a => if p a = true then c else 0) n = fb_ct p n * c
  | 0 => by rw [show fb_ct p 0 = 0 from rfl, Nat.zero_mul]; rfl
  | n + 1 => by
    rw [fb_sm_succ, ct_mul p c n, fb_ct_succ]
    cases p n
    · rw [if_neg (by decide), if_neg (by decide)]; rfl
    · rw [if_pos rfl, if_pos rfl, Nat.add_mul, Nat.one_mul]
theorem mC_0 {V U : Nat → Bool} {N n : Nat} (hN : N ≤ 4096) (hn : n < N) : mC V U N 0 n = zC V N 12 n * zC U N 12 n := by
  unfold mC zC
  rw [← ct_mul]
  refine fb_sm_cong fun a ha => ?_
  have e : ∀ b, b < N → (V a && U b && cD (mob 0 n a b)) = ((V a && cD (agr 12 n a)) && (U b && cD (agr 12 n b))) := fun b hb => by
    have : cD (mob 0 n a b) = (cD (agr 12 n a) && cD (agr 12 n b)) := by
      symm
      apply cD_eq
      rw [Bool.and_eq_true, cD_iff, cD_iff, agr_12 (by omega) (by omega), agr_12 (by omega) (by omega)]
      exact ⟨fun ⟨x, y⟩ => ⟨fun i hi => absurd hi (Nat.not_lt_zero i), fun i _ => ⟨x i, y i⟩⟩, fun ⟨_, y⟩ => ⟨fun i => (y i (Nat.zero_le i)).1, fun i => (y i (Nat.zero_le i)).2⟩⟩
    rw [this]
    cases V a <;> cases U b <;> cases cD (agr 12 n a) <;> cases cD (agr 12 n b) <;> rfl
  rw [fb_ct_cong e]
  cases (V a && cD (agr 12 n a))
  · rw [if_neg (by decide)]
    exact fb_ct_zero.mpr (fun b _ => Bool.false_and _)
  · rw [if_pos rfl]
    exact fb_ct_cong fun b _ => Bool.true_and _
theorem mC_12 {V U : Nat → Bool} {N n : Nat} (hN : N ≤ 4096) (hn : n < N) : mC V U N 12 n ≠ 0 ↔ ∃ a b, a < N ∧ b < N ∧ V a = true ∧ U b = true ∧ a ||| b = n := by
  have hm : ∀ a b, a < N → b < N → (mob 12 n a b ↔ a ||| b = n) := fun a b ha hb => by
    constructor
    · rintro ⟨h1, -⟩
      exact tb_ext (Nat.or_lt_two_pow (n := 12) (by omega) (by omega)) (by omega) h1
    · intro h
      refine ⟨fun i _ => by rw [h], fun i hi => ?_⟩
      rw [tb_hi (by omega : a < 4096) hi, tb_hi (by omega : b < 4096) hi]
      exact ⟨fun q => absurd q (by decide), fun q => absurd q (by decide)⟩
  constructor
  · intro h
    apply Classical.byContradiction
    intro hn'
    apply h
    unfold mC
    rw [fb_sm_cong (g := fun _ => 0) (fun a ha => fb_ct_zero.mpr (fun b hb => ?_)), fb_sm_const, Nat.mul_zero]
    apply Bool.eq_false_iff.mpr
    intro q
    rw [Bool.and_eq_true, Bool.and_eq_true, cD_iff, hm a b ha hb] at q
    exact hn' ⟨a, b, ha, hb, q.1.1, q.1.2, q.2⟩
  · rintro ⟨a, b, ha, hb, h1, h2, h3⟩ h
    have := fb_sm_zero h a ha
    have := fb_ct_zero.mp this b hb
    rw [h1, h2, cD_t ((hm a b ha hb).mpr h3)] at this
    exact absurd this (by decide)
theorem mC_le {V U : Nat → Bool} {N l n : Nat} (hN : N ≤ 4096) : mC V U N l n ≤ 16777216 := by
  unfold mC
  have := fb_sm_bound (f := fun a => fb_ct (fun b => V a && U b && cD (mob l n a b)) N) (c := 4096) (n := N) (fun k _ => Nat.le_trans (fb_ct_le _ _) hN)
  have h2 := Nat.mul_le_mul_right 4096 hN
  omega
theorem lN_addz (x y : Nat) (hx : x < 2 ^ 40) (hy : y < 2 ^ 40) : lN x + (1 : Int32).toInt64 * lN y = lN (x + y) := by
  have u : ∀ n, n < 2 ^ 50 → uN (lN n) = n := fun n hn => wb_tn (by omega)
  apply uN_inj
  rw [uN_add, uN_mul, u x (by omega), u y (by omega), u (x + y) (by omega), show uN (1 : Int32).toInt64 = 1 from rfl]
  omega
theorem lN_subz (x y : Nat) (hx : x < 2 ^ 40) (hy : y < 2 ^ 40) : lN (x + y) + (-1 : Int32).toInt64 * lN y = lN x := by
  have u : ∀ n, n < 2 ^ 50 → uN (lN n) = n := fun n hn => wb_tn (by omega)
  apply uN_inj
  rw [uN_add, uN_mul, u (x + y) (by omega), u y (by omega), u x (by omega), show uN (-1 : Int32).toInt64 = 18446744073709551615 from rfl]
  omega
theorem lN_mulz (x y : Nat) (hx : x ≤ 4096) (hy : y ≤ 4096) : lN x * lN y = lN (x * y) := by
  have u : ∀ n, n < 2 ^ 50 → uN (lN n) = n := fun n hn => wb_tn (by omega)
  have hxy : x * y ≤ 4096 * 4096 := Nat.mul_le_mul hx hy
  apply uN_inj
  rw [uN_mul, u x (by omega), u y (by omega), u (x * y) (by omega), Nat.mod_eq_of_lt (by omega)]
theorem or_mul (a b k : Nat) : (a ||| b) * 2 ^ k = a * 2 ^ k ||| b * 2 ^ k := Nat.eq_of_testBit_eq fun i => by
  rw [mul_tb, Nat.testBit_or, Nat.testBit_or, mul_tb, mul_tb, Bool.and_or_distrib_left]
theorem l4096 {j : Nat} (h : j < 4096) : ¬ (4096 : Int32) ≤ nI j := fun q => by
  rw [fa_le, i32_4096, it_nI (by omega)] at q
  omega
theorem unite_n {σ : DS} {o f g : Nat} : ∃ σ', D6m_unite σ o f g = some σ' ∧ dK_ (fun c => c = 15 ∨ c = 16 ∨ c = 47 + o ∨ c = 79 + o) σ σ' ∧ σ'.1 (47 + o) 0 = 0 ∧ ∀ x, x < 4096 → (wb σ' o x = true ↔ ∃ a b, a < 4096 ∧ b < 4096 ∧ wb σ f a = true ∧ wb σ g b = true ∧ a ||| b = x) := by
  obtain ⟨u1, e1, hu1, hub1⟩ := used_n (σ := σ) (k := f)
  obtain ⟨u2, e2, hu2, hub2⟩ := used_n (σ := σ) (k := g)
  have hu : u1 ||| u2 < 4096 := Nat.or_lt_two_pow (n := 12) hu1 hu2
  obtain ⟨b, hb, e3, hb0, -⟩ := below_n hu
  have lowf : ∀ p, p < 4096 → wb σ f p = true → ∀ i, i < b → p.testBit i = false := fun p hp hv i hi => by
    have := hb0 i hi
    rw [Nat.testBit_or, Bool.or_eq_false_iff] at this
    cases d : p.testBit i
    · rfl
    · have q := (hub1 i (by omega)).mpr ⟨p, hp, hv, d⟩
      rw [this.1] at q
      exact absurd q (by decide)
  have lowg : ∀ p, p < 4096 → wb σ g p = true → ∀ i, i < b → p.testBit i = false := fun p hp hv i hi => by
    have := hb0 i hi
    rw [Nat.testBit_or, Bool.or_eq_false_iff] at this
    cases d : p.testBit i
    · rfl
    · have q := (hub2 i (by omega)).mpr ⟨p, hp, hv, d⟩
      rw [this.2] at q
      exact absurd q (by decide)
  obtain ⟨N, hN⟩ : ∃ N, N = 2 ^ (12 - b) := ⟨_, rfl⟩
  have hN4 : N ≤ 4096 := by rw [hN]; exact p2R (by omega)
  have hpw : N * 2 ^ b = 4096 := by rw [hN, ← Nat.pow_add, Nat.sub_add_cancel hb]
  have hb1 : 0 < 2 ^ b := Nat.two_pow_pos b
  have hlt : ∀ j, j < N → j * 2 ^ b < 4096 := fun j hj => by
    have : j * 2 ^ b + 2 ^ b ≤ 4096 := by
      rw [← hpw, ← Nat.succ_mul]
      exact Nat.mul_le_mul_right _ (by omega)
    omega
  have hV : ∃ V : Nat → Bool, ∀ n, V n = wb σ f (n * 2 ^ b) := ⟨_, fun _ => rfl⟩
  have hU : ∃ U : Nat → Bool, ∀ n, U n = wb σ g (n * 2 ^ b) := ⟨_, fun _ => rfl⟩
  obtain ⟨V, hV⟩ := hV
  obtain ⟨U, hU⟩ := hU
  have one : ∀ c : Bool, lN (if c = true then 1 else 0) = if c = true then (1 : Int64) else 0 := fun c => by cases c <;> rfl
  -- the two rows of counts
  have lpA : ∀ kx : DS → Option DS, ∃ s, it2 (D6s_unite_25 o f g (nI b) (nI N) kx) fuel (0 : Int32) σ = kx s ∧ dK_ (fun c => c = 15 ∨ c = 16) σ s ∧ ∀ n, n < N → s.2.2 15 n = lN (zC V N 0 n) ∧ s.2.2 16 n = lN (zC U N 0 n) := fun kx => by
    refine it2_ind (f := D6s_unite_25 o f g (nI b) (nI N) kx) (P := fun n v s => ∃ j, j + n = N ∧ v = nI j ∧ dK_ (fun c => c = 15 ∨ c = 16) σ s ∧ ∀ n, n < j → s.2.2 15 n = lN (zC V N 0 n) ∧ s.2.2 16 n = lN (zC U N 0 n)) (Q := fun r => ∃ s, r = kx s ∧ dK_ (fun c => c = 15 ∨ c = 16) σ s ∧ ∀ n, n < N → s.2.2 15 n = lN (zC V N 0 n) ∧ s.2.2 16 n = lN (zC U N 0 n)) ?_ fuel N (0 : Int32) σ (by unfold fuel; omega) ⟨0, by omega, rfl, dK_.rf, fun n hn => absurd hn (Nat.not_lt_zero n)⟩
    rintro n v s rc ⟨j, hj, rfl, k1, w1⟩ ih
    by_cases c : j = N
    · unfold D6s_unite_25
      rw [if_pos (by rw [c]; exact nI_le (Nat.le_refl _) (by omega))]
      exact ⟨s, rfl, k1, fun n hn => w1 n (by omega)⟩
    · have hjl := hlt j (by omega)
      have fin : ∀ x y : Int64, x = lN (zC V N 0 j) → y = lN (zC U N 0 j) → (∃ t, rc (nI (j + 1)) (dJ (dJ s 15 j x) 16 j y) = kx t ∧ dK_ (fun c => c = 15 ∨ c = 16) σ t ∧ ∀ n, n < N → t.2.2 15 n = lN (zC V N 0 n) ∧ t.2.2 16 n = lN (zC U N 0 n)) := fun x y hx hy => by
        refine ih (n - 1) _ _ (by omega) ⟨j + 1, by omega, rfl, k1.tr ((dK_J (Or.inl rfl)).tr (dK_J (Or.inr rfl))), fun n hn => ?_⟩
        by_cases e : n = j
        · subst e
          exact ⟨by rw [dJ_1 (by decide), dJ_s]; exact hx, by rw [dJ_s]; exact hy⟩
        · rw [dJ_1 (by decide), dJ_n e, dJ_n e, dJ_1 (by decide)]
          exact w1 n (by omega)
      have hv : wb s f (j * 2 ^ b) = V j := by rw [hV]; exact wb_dK k1 (by omega)
      have hu : ∀ x, wb (dJ s 15 j x) g (j * 2 ^ b) = U j := fun x => by rw [hU, wb_dK (C := fun c => c = 15) (dK_J rfl) (by omega)]; exact wb_dK k1 (by omega)
      unfold D6s_unite_25
      rw [if_neg (nI_ge (by omega) (by omega)), if_neg (l4096 (by omega)), shl_n (by omega) (by omega), holds_n hjl, b1_s, hv, pl1]
      have z1 := zC_0 (V := V) (N := N) (n := j) (by omega)
      have z2 := zC_0 (V := U) (N := N) (n := j) (by omega)
      cases dv : V j
      · rw [if_pos (by rfl), gi_n (by omega) (by decide), nm_s, tn _ (by omega), holds_n hjl, b1_s, hu]
        rw [dv] at z1
        cases du : U j
        · rw [du] at z2
          rw [if_pos (by rfl), gi_n (by omega) (by decide), nm_s]
          exact fin _ _ (by rw [z1]; rfl) (by rw [z2]; rfl)
        · rw [du] at z2
          rw [if_neg (by decide), gi_n (by omega) (by decide), nm_s]
          exact fin _ _ (by rw [z1]; rfl) (by rw [z2]; rfl)
      · rw [if_neg (by decide), gi_n (by omega) (by decide), nm_s, tn _ (by omega), holds_n hjl, b1_s, hu]
        rw [dv] at z1
        cases du : U j
        · rw [du] at z2
          rw [if_pos (by rfl), gi_n (by omega) (by decide), nm_s]
          exact fin _ _ (by rw [z1]; rfl) (by rw [z2]; rfl)
        · rw [du] at z2
          rw [if_neg (by decide), gi_n (by omega) (by decide), nm_s]
          exact fin _ _ (by rw [z1]; rfl) (by rw [z2]; rfl)
  obtain ⟨s1, q1, k1, w1⟩ := lpA (fun τ_36 => b1 (D6m_addWithin τ_36 15 4096 (nI N) (1 : Int32)) (fun τ_38 => b1 (D6m_addWithin τ_38 16 4096 (nI N) (1 : Int32)) (fun τ_40 => it2 (D6s_unite_117 o (nI b) (nI N) (fun τ_48 => b1 (D6m_addWithin τ_48 15 4096 (nI N) (-1 : Int32)) (fun τ_50 => b1 (D7m_clear o τ_50 (0 : Int32)) (fun τ_52 => it2 (D6s_unite_173 o (nI b) (nI N) (fun τ_59 => some τ_59)) fuel (0 : Int32) τ_52)))) fuel (0 : Int32) τ_40)))
  have zle : ∀ (X : Nat → Bool) l n, zC X N l n ≤ 4096 := fun X l n => Nat.le_trans (fb_ct_le _ _) hN4
  have zst : ∀ (X : Nat → Bool) (l n : Nat), l < 12 → n < N → lN (zC X N (l + 1) n) = if n.testBit l = true then lN (zC X N l n) + (1 : Int32).toInt64 * lN (zC X N l (n ^^^ 2 ^ l)) else lN (zC X N l n) := fun X l n _ _ => by
    have a := zle X l n
    have c := zle X l (n ^^^ 2 ^ l)
    rw [zC_s]
    cases n.testBit l
    · rfl
    · rw [if_pos rfl, if_pos rfl, lN_addz _ _ (by omega) (by omega)]
  obtain ⟨s2, q2, k2, w2⟩ := addW_n (σ := s1) (c := 15) (p2 := 1) hN4 (fun l n => lN (zC V N l n)) (fun n hn => (w1 n hn).1) (zst V)
  obtain ⟨s3, q3, k3, w3⟩ := addW_n (σ := s2) (c := 16) (p2 := 1) hN4 (fun l n => lN (zC U N l n)) (fun n hn => by rw [(k2 16 (by omega)).2.2]; exact (w1 n hn).2) (zst U)
  have m3 : ∀ n, n < N → s3.2.2 15 n = lN (zC V N 12 n) := fun n hn => by rw [(k3 15 (by omega)).2.2]; exact w2 n hn
  -- the products
  have lpB : ∀ kx : DS → Option DS, ∃ s, it2 (D6s_unite_117 o (nI b) (nI N) kx) fuel (0 : Int32) s3 = kx s ∧ dK_ (fun c => c = 15) s3 s ∧ ∀ n, n < N → s.2.2 15 n = lN (mC V U N 0 n) := fun kx => by
    refine it2_ind (f := D6s_unite_117 o (nI b) (nI N) kx) (P := fun n v s => ∃ j, j + n = N ∧ v = nI j ∧ dK_ (fun c => c = 15) s3 s ∧ ∀ n, n < N → s.2.2 15 n = if n < j then lN (mC V U N 0 n) else lN (zC V N 12 n)) (Q := fun r => ∃ s, r = kx s ∧ dK_ (fun c => c = 15) s3 s ∧ ∀ n, n < N → s.2.2 15 n = lN (mC V U N 0 n)) ?_ fuel N (0 : Int32) s3 (by unfold fuel; omega) ⟨0, by omega, rfl, dK_.rf, fun n hn => by rw [if_neg (Nat.not_lt_zero n)]; exact m3 n hn⟩
    rintro n v s rc ⟨j, hj, rfl, k4, w4⟩ ih
    unfold D6s_unite_117
    by_cases c : j = N
    · rw [if_pos (by rw [c]; exact nI_le (Nat.le_refl _) (by omega))]
      exact ⟨s, rfl, k4, fun n hn => by rw [w4 n hn, if_pos (by omega)]⟩
    · rw [if_neg (nI_ge (by omega) (by omega)), if_neg (l4096 (by omega)), gi_n (by omega) (by decide), gi_n (by omega) (by decide), gi_n (by omega) (by decide), nm_s, tn _ (by omega), w4 j (by omega), if_neg (Nat.lt_irrefl j), (k4 16 (by omega)).2.2, w3 j (by omega), lN_mulz _ _ (zle V 12 j) (zle U 12 j), ← mC_0 hN4 (by omega), pl1]
      refine ih (n - 1) _ _ (by omega) ⟨j + 1, by omega, rfl, k4.tr (dK_J rfl), fun x hx => ?_⟩
      by_cases e : x = j
      · rw [e, dJ_s, if_pos (by omega)]
      · rw [dJ_n e, w4 x hx]
        by_cases e2 : x < j
        · rw [if_pos e2, if_pos (by omega)]
        · rw [if_neg e2, if_neg (by omega)]
  obtain ⟨s4, q4, k4, w4⟩ := lpB (fun τ_48 => b1 (D6m_addWithin τ_48 15 4096 (nI N) (-1 : Int32)) (fun τ_50 => b1 (D7m_clear o τ_50 (0 : Int32)) (fun τ_52 => it2 (D6s_unite_173 o (nI b) (nI N) (fun τ_59 => some τ_59)) fuel (0 : Int32) τ_52)))
  obtain ⟨s5, q5, k5, w5⟩ := addW_n (σ := s4) (c := 15) (p2 := -1) hN4 (fun l n => lN (mC V U N l n)) w4 (fun l n _ _ => by
    have a := mC_s (V := V) (U := U) (N := N) (l := l) (n := n)
    have c := mC_le (V := V) (U := U) (N := N) (l := l + 1) (n := n) hN4
    have c2 := mC_le (V := V) (U := U) (N := N) (l := l) (n := n ^^^ 2 ^ l) hN4
    cases d : n.testBit l
    · rw [if_neg (by decide)]
      rw [a.1 d]
    · rw [if_pos rfl]
      rw [a.2 d, lN_subz _ _ (by omega) (by omega)])
  -- what isn't 0 is put
  have hclr : D7m_clear o s5 (0 : Int32) = some (jFill (dS s5 (47 + o) 0 0) (79 + o) 64 (fun _ => 0)) := by
    unfold D7m_clear
    rw [nm_s, fillJ (by omega), b1_s]
  have kc : dK_ (fun c => c = 47 + o ∨ c = 79 + o) s5 (jFill (dS s5 (47 + o) 0 0) (79 + o) 64 (fun _ => 0)) := (dK_S (Or.inl rfl)).tr (dK_JF (Or.inr rfl))
  have lpC : ∃ s, it2 (D6s_unite_173 o (nI b) (nI N) (fun τ_59 => some τ_59)) fuel (0 : Int32) (jFill (dS s5 (47 + o) 0 0) (79 + o) 64 (fun _ => 0)) = some s ∧ dK_ (fun c => c = 79 + o) (jFill (dS s5 (47 + o) 0 0) (79 + o) 64 (fun _ => 0)) s ∧ ∀ x, x < 4096 → (wb s o x = true ↔ ∃ n, n < N ∧ x = n * 2 ^ b ∧ mC V U N 12 n ≠ 0) := by
    refine it2_ind (f := D6s_unite_173 o (nI b) (nI N) (fun τ_59 => some τ_59)) (P := fun n v s => ∃ j, j + n = N ∧ v = nI j ∧ dK_ (fun c => c = 79 + o) (jFill (dS s5 (47 + o) 0 0) (79 + o) 64 (fun _ => 0)) s ∧ ∀ x, x < 4096 → (wb s o x = true ↔ ∃ n, n < j ∧ x = n * 2 ^ b ∧ mC V U N 12 n ≠ 0)) (Q := fun r => ∃ s, r = some s ∧ dK_ (fun c => c = 79 + o) (jFill (dS s5 (47 + o) 0 0) (79 + o) 64 (fun _ => 0)) s ∧ ∀ x, x < 4096 → (wb s o x = true ↔ ∃ n, n < N ∧ x = n * 2 ^ b ∧ mC V U N 12 n ≠ 0)) ?_ fuel N (0 : Int32) _ (by unfold fuel; omega) ⟨0, by omega, rfl, dK_.rf, fun x hx => by rw [wb_jf hx, bL_0]; exact ⟨fun q => absurd q (by decide), fun ⟨n, hn, _⟩ => absurd hn (Nat.not_lt_zero n)⟩⟩
    rintro n v s rc ⟨j, hj, rfl, k6, w6⟩ ih
    unfold D6s_unite_173
    by_cases c : j = N
    · rw [if_pos (by rw [c]; exact nI_le (Nat.le_refl _) (by omega))]
      exact ⟨s, rfl, k6, fun x hx => by rw [w6 x hx, c]⟩
    · have hjl := hlt j (by omega)
      have h15 : s.2.2 15 j = lN (mC V U N 12 j) := by
        rw [(k6 15 (by omega)).2.2, (kc 15 (by omega)).2.2]
        exact w5 j (by omega)
      have hml := mC_le (V := V) (U := U) (N := N) (l := 12) (n := j) hN4
      have hz : lg_cmp (lN (mC V U N 12 j)) 0 = 0 ↔ mC V U N 12 j = 0 := by
        rw [lg0, show (0 : Int64) = lN 0 from rfl, pk_lEQ (by omega) (by omega)]
      have upd : ∀ x, ((∃ n, n < j + 1 ∧ x = n * 2 ^ b ∧ mC V U N 12 n ≠ 0) ↔ (x = j * 2 ^ b ∧ mC V U N 12 j ≠ 0) ∨ ∃ n, n < j ∧ x = n * 2 ^ b ∧ mC V U N 12 n ≠ 0) := fun x => by
        constructor
        · rintro ⟨n, a1, a2, a3⟩
          by_cases e : n = j
          · subst e; exact Or.inl ⟨a2, a3⟩
          · exact Or.inr ⟨n, by omega, a2, a3⟩
        · rintro (⟨a2, a3⟩ | ⟨n, a1, a2, a3⟩)
          · exact ⟨j, by omega, a2, a3⟩
          · exact ⟨n, by omega, a2, a3⟩
      rw [if_neg (nI_ge (by omega) (by omega)), if_neg (l4096 (by omega)), gi_n (by omega) (by decide), tn _ (by omega), h15, pl1]
      by_cases d : mC V U N 12 j = 0
      · rw [if_pos (hz.mpr d)]
        refine ih (n - 1) _ _ (by omega) ⟨j + 1, by omega, rfl, k6, fun x hx => ?_⟩
        rw [w6 x hx, upd]
        exact ⟨Or.inr, fun q => q.elim (fun q => absurd d q.2) id⟩
      · rw [if_neg (fun q => d (hz.mp q)), shl_n (by omega) (by omega)]
        obtain ⟨s', e7, k7, w7⟩ := put_n (σ := s) (k := o) hjl
        rw [e7, b1_s]
        refine ih (n - 1) _ _ (by omega) ⟨j + 1, by omega, rfl, k6.tr k7, fun x hx => ?_⟩
        rw [w7 x hx, Bool.or_eq_true, decide_eq_true_eq, w6 x hx, upd]
        exact or_congr ⟨fun e => ⟨e, d⟩, fun e => e.1⟩ Iff.rfl
  obtain ⟨s6, q6, k6, w6⟩ := lpC
  refine ⟨s6, ?_, ?_, ?_, fun x hx => ?_⟩
  · unfold D6m_unite
    rw [e1, b1_s, e2, b1_s, fa_or, e3, b1_s, shr4096 b hb, ← hN, q1, q2, b1_s, q3, b1_s, q4, q5, b1_s, hclr, b1_s, q6]
  · exact (((((k1.mo (C' := fun c => c = 15 ∨ c = 16 ∨ c = 47 + o ∨ c = 79 + o) (fun c hc => by omega)).tr (k2.mo (fun c hc => by omega))).tr (k3.mo (fun c hc => by omega))).tr (k4.mo (fun c hc => by omega))).tr (k5.mo (fun c hc => by omega))).tr ((kc.mo (fun c hc => by omega)).tr (k6.mo (fun c hc => by omega)))
  · rw [(k6 (47 + o) (by omega)).1]
    exact dS_s
  · rw [w6 x hx]
    constructor
    · rintro ⟨n, hn, rfl, hm⟩
      obtain ⟨a, c, ha, hc, h1, h2, h3⟩ := (mC_12 hN4 hn).mp hm
      rw [hV] at h1
      rw [hU] at h2
      exact ⟨a * 2 ^ b, c * 2 ^ b, hlt a ha, hlt c hc, h1, h2, by rw [← or_mul, h3]⟩
    · rintro ⟨a, c, ha, hc, h1, h2, rfl⟩
      have ea := low_of (lowf a ha h1)
      have ec := low_of (lowg c hc h2)
      have dv : ∀ y, y < 4096 → y / 2 ^ b < N := fun y hy => by
        apply (Nat.div_lt_iff_lt_mul hb1).mpr
        rw [hpw]
        exact hy
      have hor : a / 2 ^ b ||| c / 2 ^ b < N := by
        rw [hN]
        exact Nat.or_lt_two_pow (by rw [← hN]; exact dv a ha) (by rw [← hN]; exact dv c hc)
      refine ⟨a / 2 ^ b ||| c / 2 ^ b, hor, by rw [or_mul, ← ea, ← ec], (mC_12 hN4 hor).mpr ⟨a / 2 ^ b, c / 2 ^ b, dv a ha, dv c hc, ?_, ?_, rfl⟩⟩
      · rw [hV, ← ea]; exact h1
      · rw [hU, ← ec]; exact h2

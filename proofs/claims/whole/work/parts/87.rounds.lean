section RING
variable {P R : Nat} {eA eB : Nat → Nat}
def roundP (P R : Nat) (eA eB : Nat → Nat) (thr : Bool) (M : Nat) : Prop := oneP P R eA eB M ∧ ∀ p, p < P → (atP R eA eB M p = 2 ∨ (atP R eA eB M p = 0 ∧ thr = false))
theorem rnd_fin {s S0 v S q n i : Nat} (h : TR P R eA eB s S0 v S q n) (he : ∀ i, i < R → eA i < P ∧ eB i < P ∧ eA i ≠ eB i) (hi : i < R) (hj : jns eA eB i v s) (hb : 3 ≤ fb_ct (fun k => (q ||| 2 ^ i).testBit k) R) :
    q.testBit i = false ∧ 2 ≤ n ∧ fb_ct (fun k => (q ||| 2 ^ i).testBit k) R = n + 1 ∧ ∀ p, atP R eA eB (q ||| 2 ^ i) p = atP R eA eB q p + (if p = v ∨ p = s then 1 else 0) := by
  obtain ⟨-, ⟨a6, a7, a8, a9⟩, -, d1, d2⟩ := id h
  have hq : q.testBit i = false := by
    cases hh : q.testBit i
    · rfl
    · have e : fb_ct (fun k => (q ||| 2 ^ i).testBit k) R = fb_ct (fun k => q.testBit k) R := fb_ct_cong fun k _ => by
        rw [tb_put]
        by_cases c : i = k
        · rw [← c, hh]; rfl
        · rw [decide_eq_false c, Bool.or_false]
      rw [e, a7] at hb
      exact absurd hj (d2 (by omega) i hi hh)
  have e := bits_add hi hq
  rw [a7] at e
  refine ⟨hq, by omega, e, fun p => ?_⟩
  rw [at_add hi hq]
  congr 1
  by_cases c : p = v ∨ p = s
  · rw [if_pos c, if_pos ((jns_t hj).mpr c)]
  · rw [if_neg c, if_neg (fun z => c ((jns_t hj).mp z))]
theorem three_bits (he : ∀ i, i < R → eA i < P ∧ eB i < P ∧ eA i ≠ eB i) (un : ∀ i j p t, i < R → j < R → p ≠ t → (eA i = p ∨ eB i = p) → (eA i = t ∨ eB i = t) → (eA j = p ∨ eB j = p) → (eA j = t ∨ eB j = t) → i = j) {M j : Nat} (hj : j < R) (ha : atP R eA eB M (eA j) = 2) (hb : atP R eA eB M (eB j) = 2) : 3 ≤ fb_ct (fun i => M.testBit i) R := by
  have sp : atP R eA eB M (eB j) = fb_ct (fun i => M.testBit i && (decide (eA i = eB j) || decide (eB i = eB j)) && (decide (eA i = eA j) || decide (eB i = eA j))) R + fb_ct (fun i => M.testBit i && (decide (eA i = eB j) || decide (eB i = eB j)) && !(decide (eA i = eA j) || decide (eB i = eA j))) R := by
    rw [← fb_ct_or]
    · refine fb_ct_cong fun i _ => ?_
      cases (M.testBit i && (decide (eA i = eB j) || decide (eB i = eB j))) <;> cases (decide (eA i = eA j) || decide (eB i = eA j)) <;> rfl
    · rintro i - ⟨a, b⟩
      rw [Bool.and_eq_true] at a b
      rw [a.2] at b
      exact absurd b.2 (by decide)
  have le1 : fb_ct (fun i => M.testBit i && (decide (eA i = eB j) || decide (eB i = eB j)) && (decide (eA i = eA j) || decide (eB i = eA j))) R ≤ 1 := by
    have l := fb_ct_sub (p := fun i => M.testBit i && (decide (eA i = eB j) || decide (eB i = eB j)) && (decide (eA i = eA j) || decide (eB i = eA j))) (q := fun i => decide (i = j)) (n := R) (fun k hk h => by
      rw [Bool.and_eq_true, Bool.and_eq_true, Bool.or_eq_true, Bool.or_eq_true, decide_eq_true_eq, decide_eq_true_eq, decide_eq_true_eq, decide_eq_true_eq] at h
      exact decide_eq_true (un k j (eB j) (eA j) hk hj (he j hj).2.2.symm h.1.2 h.2 (Or.inr rfl) (Or.inl rfl)))
    have o : fb_ct (fun i => decide (i = j)) R = 1 := ct_one.mpr ⟨j, hj, decide_eq_true rfl, fun k _ h => of_decide_eq_true h⟩
    omega
  have dis : fb_ct (fun i => (M.testBit i && (decide (eA i = eA j) || decide (eB i = eA j))) || (M.testBit i && (decide (eA i = eB j) || decide (eB i = eB j)) && !(decide (eA i = eA j) || decide (eB i = eA j)))) R = atP R eA eB M (eA j) + fb_ct (fun i => M.testBit i && (decide (eA i = eB j) || decide (eB i = eB j)) && !(decide (eA i = eA j) || decide (eB i = eA j))) R := fb_ct_or (by
    rintro i - ⟨a, b⟩
    rw [Bool.and_eq_true] at a b
    rw [a.2] at b
    exact absurd b.2 (by decide))
  have l := fb_ct_sub (p := fun i => (M.testBit i && (decide (eA i = eA j) || decide (eB i = eA j))) || (M.testBit i && (decide (eA i = eB j) || decide (eB i = eB j)) && !(decide (eA i = eA j) || decide (eB i = eA j)))) (q := fun i => M.testBit i) (n := R) (fun k _ h => by
    rw [Bool.or_eq_true, Bool.and_eq_true, Bool.and_eq_true, Bool.and_eq_true] at h
    rcases h with h | h
    · exact h.1
    · exact h.1.1)
  omega
theorem round_iff (he : ∀ i, i < R → eA i < P ∧ eB i < P ∧ eA i ≠ eB i) (un : ∀ i j p t, i < R → j < R → p ≠ t → (eA i = p ∨ eB i = p) → (eA i = t ∨ eB i = t) → (eA j = p ∨ eB j = p) → (eA j = t ∨ eB j = t) → i = j) (hP : P ≤ 8) (hR : R ≤ 12) {M : Nat} (thr : Bool) (hM : M < 2 ^ R) :
    (∃ s, s < P ∧ GOO R eA eB s 8 s (2 ^ s - 1) 0 M ∧ (if thr = true then (if 3 < P then P else 3) else 3) ≤ fb_ct (fun i => M.testBit i) 12) ↔ roundP P R eA eB thr M := by
  have fin : ∀ s, s < P → 3 ≤ fb_ct (fun i => M.testBit i) R → GOO R eA eB s 8 s (2 ^ s - 1) 0 M → ∃ v S q n, TR P R eA eB s (2 ^ s - 1) v S q n ∧ 2 ≤ n ∧ fb_ct (fun i => M.testBit i) R = n + 1 ∧ (∀ p, atP R eA eB M p = atP R eA eB q p + (if p = v ∨ p = s then 1 else 0)) ∧ ∀ i, i < R → q.testBit i = true → M.testBit i = true := fun s hs hb h => by
    obtain ⟨v, S, q, n, i, t, hi, hj, hS, hQ⟩ := goo_sound he (Or.inr rfl) 8 s (2 ^ s - 1) 0 0 (TR.st hs) h
    rw [hQ] at hb ⊢
    obtain ⟨-, h2, h3, h4⟩ := rnd_fin t he hi hj hb
    exact ⟨v, S, q, n, t, h2, h3, h4, fun k _ hk => by rw [tb_put, hk]; rfl⟩
  have every : ∀ s v S q n, TR P R eA eB s (2 ^ s - 1) v S q n → (n + 1 = P ↔ ∀ p, p < P → visB s (2 ^ s - 1) S p = true) := fun s v S q n t => by
    rw [← fb_ct_all, t.2.1.1]
  have visS : ∀ s S, visB s (2 ^ s - 1) S s = true := fun s S => by unfold visB; rw [decide_eq_true rfl]; rfl
  rw [ct12 hR hM]
  constructor
  · rintro ⟨s, hs, h, hl⟩
    have h3 : 3 ≤ fb_ct (fun i => M.testBit i) R := by
      refine Nat.le_trans ?_ hl
      cases thr
      · exact Nat.le_refl 3
      · rw [if_pos rfl]; split <;> omega
    obtain ⟨v, S, q, n, t, n2, nb, att, sub⟩ := fin s hs h3 h
    obtain ⟨⟨a1, -, -, -, a5⟩, ⟨a6, a7, -, a9⟩, ⟨b1, b2, b3⟩, -⟩ := id t
    obtain ⟨r1, r2, r3⟩ := a9 (by omega)
    have vis : ∀ p, 0 < atP R eA eB M p → visB s (2 ^ s - 1) S p = true := fun p hp => by
      cases hh : visB s (2 ^ s - 1) S p
      · have e1 : p ≠ v := fun z => by rw [z, b1] at hh; exact absurd hh (by decide)
        have e2 : p ≠ s := fun z => by rw [z, visS] at hh; exact absurd hh (by decide)
        rw [att, b3 p hh, if_neg (by omega)] at hp
        exact absurd hp (Nat.lt_irrefl 0)
      · rfl
    have deg : ∀ p, visB s (2 ^ s - 1) S p = true → atP R eA eB M p = 2 := fun p hp => by
      rw [att]
      by_cases e1 : p = s
      · rw [e1, r2, if_pos (Or.inr rfl)]
      · by_cases e2 : p = v
        · rw [e2, r3, if_pos (Or.inl rfl)]
        · rw [b2 p hp e1 e2, if_neg (by omega)]
    refine ⟨⟨s, hs, by rw [deg s (visS s S)]; decide, fun p _ hp => t.one sub p (vis p hp)⟩, fun p hp => ?_⟩
    cases hh : visB s (2 ^ s - 1) S p
    · refine Or.inr ⟨?_, ?_⟩
      · cases hz : atP R eA eB M p with
        | zero => rfl
        | succ k => rw [vis p (by omega)] at hh; exact absurd hh (by decide)
      · cases thr
        · rfl
        · rw [if_pos rfl, nb] at hl
          have le := fb_ct_le (visB s (2 ^ s - 1) S) P
          rw [a6] at le
          have := (every s v S q n t).mp (by split at hl <;> omega) p hp
          rw [hh] at this
          exact absurd this (by decide)
    · exact Or.inl (deg p hh)
  · rintro ⟨⟨s0, s1, s2, s3⟩, hd⟩
    obtain ⟨s, hs, hs1, hs2⟩ := fb_ct_kth (p := fun p => decide (0 < atP R eA eB M p)) (k := 0) (n := P) (fb_ct_pos.mpr ⟨s0, s1, decide_eq_true s2⟩)
    have hs1 : 0 < atP R eA eB M s := of_decide_eq_true hs1
    have hlow : ∀ p, p < s → atP R eA eB M p = 0 := fun p hp => by
      have := fb_ct_zero.mp hs2 p hp
      have := of_decide_eq_false this
      omega
    have deg2 : ∀ p, p < P → 0 < atP R eA eB M p → atP R eA eB M p = 2 := fun p hp h => by have := hd p hp; omega
    have bits3 : 3 ≤ fb_ct (fun i => M.testBit i) R := by
      obtain ⟨j, hj, hb, -⟩ := at_pos.mp hs1
      exact three_bits he un hj (deg2 _ (he j hj).1 (at_pos.mpr ⟨j, hj, hb, Or.inl rfl⟩)) (deg2 _ (he j hj).2.1 (at_pos.mpr ⟨j, hj, hb, Or.inr rfl⟩))
    have g := goo_complete he hP (s := s) (g := s) (S0 := 2 ^ s - 1) hM (fun p _ h _ => by rw [Nat.testBit_two_pow_sub_one, decide_eq_true_eq] at h; exact hlow p h) (fun p hp _ _ => by have := hd p hp; omega) hs1 (fun z => absurd rfl z) (fun _ => deg2 s hs hs1) (fun p hp h => by rw [s3 p hp h, s3 s hs hs1]) (fun _ => by rw [Nat.testBit_two_pow_sub_one, decide_eq_false (Nat.lt_irrefl s)]) 8 0 s (2 ^ s - 1) 0 rfl (TR.st hs) (fun i _ h => by rw [Nat.zero_testBit] at h; exact absurd h (by decide)) (Or.inr rfl)
    refine ⟨s, hs, g, ?_⟩
    cases thr
    · exact bits3
    · obtain ⟨v, S, q, n, t, n2, nb, att, sub⟩ := fin s hs bits3 g
      obtain ⟨-, -, ⟨b1, b2, b3⟩, -⟩ := id t
      have := (every s v S q n t).mpr (fun p hp => by
        cases hh : visB s (2 ^ s - 1) S p
        · have e1 : p ≠ v := fun z => by rw [z, b1] at hh; exact absurd hh (by decide)
          have e2 : p ≠ s := fun z => by rw [z, visS] at hh; exact absurd hh (by decide)
          have z := att p
          rw [b3 p hh, if_neg (by omega)] at z
          rcases hd p hp with q | q
          · omega
          · exact absurd q.2 (by decide)
        · rfl)
      rw [if_pos rfl, nb]
      split <;> omega
end RING

section FOUND
variable {P R : Nat} {eA eB : Nat → Nat}
theorem goo_sound (he : ∀ i, i < R → eA i < P ∧ eB i < P ∧ eA i ≠ eB i) {s g S0 Q : Nat} (hs : S0.testBit s = true ∨ g = s) : ∀ (d v S q n : Nat), TR P R eA eB s S0 v S q n → GOO R eA eB g d v S q Q →
    ∃ v' S' q' n' i, TR P R eA eB s S0 v' S' q' n' ∧ i < R ∧ jns eA eB i v' g ∧ S'.testBit g = false ∧ Q = q' ||| 2 ^ i := by
  intro d
  induction d with
  | zero =>
    rintro v S q n h ⟨i, hi, u, hj, hS, ha⟩
    exact ha.elim
  | succ d ih =>
    rintro v S q n h ⟨i, hi, u, hj, hS, ha⟩
    rcases ha with ⟨e, hq⟩ | ⟨e, ha⟩
    · subst e
      exact ⟨v, S, q, n, i, h, hi, hj, hS, hq⟩
    · have hus : u ≠ s := by
        rcases hs with q | q
        · intro z
          rw [z, h.1.2.2.2.1, q] at hS
          exact absurd hS (by decide)
        · rw [← q]; exact e
      exact ih u (S ||| 2 ^ u) (q ||| 2 ^ i) (n + 1) (h.step he hi hj hS hus) ha
theorem clos (he : ∀ i, i < R → eA i < P ∧ eB i < P ∧ eA i ≠ eB i) {M q s : Nat} (V : Nat → Prop) (hM : M < 2 ^ R) (hq : q < 2 ^ R) (sub : ∀ i, i < R → q.testBit i = true → M.testBit i = true) (h1 : ∀ p, V p → atP R eA eB q p = atP R eA eB M p) (h2 : ∀ p, 0 < atP R eA eB q p → V p) (h3 : V s)
    (one : ∀ p, p < P → 0 < atP R eA eB M p → hpP eA eB M R p = hpP eA eB M R s) : M = q := by
  have up : ∀ i p, i < R → M.testBit i = true → (eA i = p ∨ eB i = p) → V p → q.testBit i = true := fun i p hi hb ht hv => by
    cases hh : q.testBit i
    · exact absurd (h1 p hv) (Nat.ne_of_lt (at_less sub hi hb hh ht))
    · rfl
  have cl := hp_closed (m := M) V (r := R) (fun i hi hb => ⟨fun h => h2 _ (at_pos.mpr ⟨i, hi, up i _ hi hb (Or.inl rfl) h, Or.inr rfl⟩), fun h => h2 _ (at_pos.mpr ⟨i, hi, up i _ hi hb (Or.inr rfl) h, Or.inl rfl⟩)⟩)
  apply Nat.eq_of_testBit_eq
  intro i
  by_cases hi : i < R
  · cases hb : M.testBit i
    · cases hh : q.testBit i
      · rfl
      · rw [sub i hi hh] at hb; exact absurd hb (by decide)
    · have e := one (eA i) (he i hi).1 (at_pos.mpr ⟨i, hi, hb, Or.inl rfl⟩)
      exact (up i (eA i) hi hb (Or.inl rfl) ((cl (eA i)).mpr (by rw [e]; exact (cl s).mp h3))).symm
  · have z : 2 ^ R ≤ 2 ^ i := Nat.pow_le_pow_right (by decide) (by omega)
    rw [Nat.testBit_lt_two_pow (Nat.lt_of_lt_of_le hM z), Nat.testBit_lt_two_pow (Nat.lt_of_lt_of_le hq z)]
theorem sub_put {q M i : Nat} (sub : ∀ i, i < R → q.testBit i = true → M.testBit i = true) (hb : M.testBit i = true) : ∀ k, k < R → (q ||| 2 ^ i).testBit k = true → M.testBit k = true := fun k hk h => by
  rw [tb_put, Bool.or_eq_true, decide_eq_true_eq] at h
  rcases h with h | h
  · exact sub k hk h
  · rw [← h]; exact hb
theorem goo_complete (he : ∀ i, i < R → eA i < P ∧ eB i < P ∧ eA i ≠ eB i) (hP : P ≤ 8) {s g S0 M : Nat} (hM : M < 2 ^ R) (c1 : ∀ p, p < P → S0.testBit p = true → p ≠ s → atP R eA eB M p = 0) (c2 : ∀ p, p < P → p ≠ s → p ≠ g → atP R eA eB M p = 2 ∨ atP R eA eB M p = 0) (c3 : 0 < atP R eA eB M s)
    (c4 : g ≠ s → atP R eA eB M s = 1 ∧ atP R eA eB M g = 1) (c5 : g = s → atP R eA eB M s = 2) (one : ∀ p, p < P → 0 < atP R eA eB M p → hpP eA eB M R p = hpP eA eB M R s) (hs : g = s → S0.testBit s = false) :
    ∀ (d n v S q : Nat), n + d = 8 → TR P R eA eB s S0 v S q n → (∀ i, i < R → q.testBit i = true → M.testBit i = true) → (v ≠ g ∨ n = 0) → GOO R eA eB g d v S q M := by
  intro d
  induction d with
  | zero =>
    intro n v S q hn h sub hv
    have := fb_ct_le (visB s S0 S) P
    rw [h.2.1.1] at this
    omega
  | succ d ih =>
    intro n v S q hn h sub hv
    obtain ⟨⟨a1, a2, a3, a4, a5⟩, ⟨a6, a7, a8, a9⟩, ⟨b1, b2, b3⟩, d1, d2⟩ := id h
    have lt : atP R eA eB q v < atP R eA eB M v := by
      by_cases c : n = 0
      · obtain ⟨r1, r2⟩ := a8 c
        rw [r1, r2, at_none]
        exact c3
      · obtain ⟨r1, r2, r3⟩ := a9 (by omega)
        have l := at_le (eA := eA) (eB := eB) (p := v) sub
        have := c2 v a1 r1 (hv.resolve_right c)
        omega
    obtain ⟨i, hi, hb, hq, ht⟩ := at_more sub lt
    obtain ⟨ya, yb, yn⟩ := he i hi
    obtain ⟨w, hj, hwP, hwv⟩ : ∃ w, jns eA eB i v w ∧ w < P ∧ w ≠ v := by
      rcases ht with e | e
      · exact ⟨eB i, Or.inl ⟨e, rfl⟩, yb, by omega⟩
      · exact ⟨eA i, Or.inr ⟨rfl, e⟩, ya, by omega⟩
    have lw := at_less sub hi hb hq ((jns_t hj).mpr (Or.inr (rfl : w = w)))
    have sub' := sub_put sub hb
    have att : ∀ p, atP R eA eB (q ||| 2 ^ i) p = atP R eA eB q p + (if p = v ∨ p = w then 1 else 0) := fun p => by
      rw [at_add hi hq]
      congr 1
      by_cases c : p = v ∨ p = w
      · rw [if_pos c, if_pos ((jns_t hj).mpr c)]
      · rw [if_neg c, if_neg (fun z => c ((jns_t hj).mp z))]
    have hqq : q ||| 2 ^ i < 2 ^ R := Nat.or_lt_two_pow a2 (Nat.pow_lt_pow_right (by decide) hi)
    by_cases cs : w = s
    · have n0 : n ≠ 0 := fun z => hwv (by rw [cs, (a8 z).1])
      obtain ⟨r1, r2, r3⟩ := a9 (by omega)
      have gs : g = s := by
        refine Classical.byContradiction fun z => ?_
        have := (c4 z).1
        rw [cs, r2, this] at lw
        exact absurd lw (Nat.lt_irrefl 1)
      have eM : M = q ||| 2 ^ i := clos he (fun p => visB s S0 S p = true) hM hqq sub' (fun p hp => by
        have hpP := a5 p hp
        have l := at_le (eA := eA) (eB := eB) (p := p) sub'
        rw [att] at l ⊢
        by_cases e1 : p = s
        · rw [e1, r2, if_pos (Or.inr cs.symm), c5 gs]
        · by_cases e2 : p = v
          · rw [e2, r3, if_pos (Or.inl rfl)] at l ⊢
            have := c2 v a1 r1 (by rw [gs]; exact r1)
            omega
          · rw [b2 p hp e1 e2, if_neg (by omega)] at l ⊢
            have := c2 p hpP e1 (by rw [gs]; exact e1)
            omega) (fun p hp => by
        rw [att] at hp
        cases hh : visB s S0 S p
        · have e1 : p ≠ v := fun z => by rw [z, b1] at hh; exact absurd hh (by decide)
          have e2 : p ≠ w := fun z => by
            rw [z, cs] at hh
            unfold visB at hh
            rw [decide_eq_true rfl, Bool.true_or] at hh
            exact absurd hh (by decide)
          rw [b3 p hh, if_neg (by omega)] at hp
          exact absurd hp (by decide)
        · rfl) (s := s) (by show visB s S0 S s = true; unfold visB; rw [decide_eq_true rfl]; rfl) one
      exact ⟨i, hi, w, hj, by rw [cs, a4]; exact hs gs, Or.inl ⟨by rw [cs, gs], eM⟩⟩
    · have nvis : visB s S0 S w = false := by
        cases hh : visB s S0 S w
        · rfl
        · rw [b2 w hh cs hwv] at lw
          by_cases e : w = g
          · have := (c4 (by rw [← e]; exact cs)).2
            rw [e, this] at lw
            exact absurd lw (by decide)
          · have := c2 w hwP cs e
            omega
      have hSw : S.testBit w = false := by
        cases hh : S.testBit w
        · rfl
        · unfold visB at nvis
          rw [hh, Bool.true_and, Bool.or_eq_false_iff, Bool.not_eq_false'] at nvis
          rw [c1 w hwP nvis.2 cs] at lw
          exact absurd lw (Nat.not_lt_zero _)
      have st := h.step he hi hj hSw cs
      refine ⟨i, hi, w, hj, hSw, ?_⟩
      by_cases cg : w = g
      · refine Or.inl ⟨cg, ?_⟩
        have gs : g ≠ s := by rw [← cg]; exact cs
        obtain ⟨⟨-, -, -, -, a5'⟩, ⟨-, -, -, a9'⟩, ⟨-, b2', b3'⟩, -⟩ := id st
        obtain ⟨r1, r2, r3⟩ := a9' (by omega)
        refine clos he (fun p => visB s S0 (S ||| 2 ^ w) p = true) hM hqq sub' (fun p hp => ?_) (fun p hp => ?_) (s := s) (by show visB s S0 _ s = true; unfold visB; rw [decide_eq_true rfl]; rfl) one
        · by_cases e1 : p = s
          · rw [e1, r2, (c4 gs).1]
          · by_cases e2 : p = w
            · rw [e2, r3, cg, (c4 gs).2]
            · have l := at_le (eA := eA) (eB := eB) (p := p) sub'
              rw [b2' p hp e1 e2] at l ⊢
              have := c2 p (a5' p hp) e1 (by rw [← cg]; exact e2)
              omega
        · cases hh : visB s S0 (S ||| 2 ^ w) p
          · rw [b3' p hh] at hp
            exact absurd hp (Nat.lt_irrefl 0)
          · rfl
      · exact Or.inr ⟨cg, ih (n + 1) w (S ||| 2 ^ w) (q ||| 2 ^ i) (by omega) st sub' (Or.inl cg)⟩
theorem ct12 (hR : R ≤ 12) {m : Nat} (hm : m < 2 ^ R) : fb_ct (fun i => m.testBit i) 12 = fb_ct (fun i => m.testBit i) R := by
  have z : fb_ct (fun k => m.testBit (R + k)) (12 - R) = 0 := fb_ct_zero.mpr (fun k _ => Nat.testBit_lt_two_pow (Nat.lt_of_lt_of_le hm (Nat.pow_le_pow_right (by decide) (by omega))))
  have sp := fb_ct_split (fun i => m.testBit i) R (12 - R)
  rw [z, show R + (12 - R) = 12 by omega] at sp
  exact sp
/-- one trail: its posts lie in one heap -/
theorem TR.one {s S0 v S q n M : Nat} (h : TR P R eA eB s S0 v S q n) (sub : ∀ i, i < R → q.testBit i = true → M.testBit i = true) : ∀ p, visB s S0 S p = true → hpP eA eB M R p = hpP eA eB M R s := fun p hp =>
  (h.2.2.2.1 (fun x => hpP eA eB M R x = hpP eA eB M R s) (fun i hi hb => by
    show hpP eA eB M R (eA i) = _ ↔ hpP eA eB M R (eB i) = _
    rw [hp_road hi (sub i hi hb)]) p hp).mpr rfl
def pathP (P R : Nat) (eA eB : Nat → Nat) (a b : Nat) (thr : Bool) (M : Nat) : Prop := oneP P R eA eB M ∧ ∀ p, p < P → (if p = a ∨ p = b then atP R eA eB M p = 1 else (atP R eA eB M p = 2 ∨ (atP R eA eB M p = 0 ∧ thr = false)))
theorem path_iff (he : ∀ i, i < R → eA i < P ∧ eB i < P ∧ eA i ≠ eB i) (hP : P ≤ 8) (hR : R ≤ 12) {a b M : Nat} (ha : a < P) (hb : b < P) (hab : a ≠ b) (thr : Bool) (hM : M < 2 ^ R) : (GOO R eA eB b 8 a (2 ^ a) 0 M ∧ (if thr = true then P - 1 else 1) ≤ fb_ct (fun i => M.testBit i) 12) ↔ pathP P R eA eB a b thr M := by
  have fin : GOO R eA eB b 8 a (2 ^ a) 0 M → ∃ S n, TR P R eA eB a (2 ^ a) b S M (n + 1) := fun h => by
    have bit : (2 ^ a).testBit a = true := by rw [Nat.testBit_two_pow, decide_eq_true rfl]
    obtain ⟨v, S, q, n, i, t, hi, hj, hS, hQ⟩ := goo_sound he (Or.inl bit) 8 a (2 ^ a) 0 0 (TR.st ha) h
    rw [hQ]
    exact ⟨_, n, t.step he hi hj hS (fun z => hab z.symm)⟩
  have every : ∀ S n, TR P R eA eB a (2 ^ a) b S M (n + 1) → (n + 2 = P ↔ ∀ p, p < P → visB a (2 ^ a) S p = true) := fun S n t => by
    rw [← fb_ct_all, t.2.1.1]
  rw [ct12 hR hM]
  constructor
  · rintro ⟨h, hl⟩
    obtain ⟨S, n, t⟩ := fin h
    obtain ⟨⟨-, -, -, -, a5⟩, ⟨a6, a7, -, a9⟩, ⟨b1, b2, b3⟩, -⟩ := id t
    obtain ⟨r1, r2, r3⟩ := a9 (by omega)
    have vis : ∀ p, 0 < atP R eA eB M p → visB a (2 ^ a) S p = true := fun p hp => by
      cases hh : visB a (2 ^ a) S p
      · rw [b3 p hh] at hp; exact absurd hp (Nat.lt_irrefl 0)
      · rfl
    refine ⟨⟨a, ha, by omega, fun p _ hp => t.one (fun i _ h => h) p (vis p hp)⟩, fun p hp => ?_⟩
    by_cases c : p = a ∨ p = b
    · rw [if_pos c]
      rcases c with c | c
      · rw [c]; exact r2
      · rw [c]; exact r3
    · rw [if_neg c]
      cases hh : visB a (2 ^ a) S p
      · refine Or.inr ⟨b3 p hh, ?_⟩
        cases thr
        · rfl
        · rw [if_pos rfl, a7] at hl
          have le := fb_ct_le (visB a (2 ^ a) S) P
          rw [a6] at le
          have := (every S n t).mp (by omega) p hp
          rw [hh] at this
          exact absurd this (by decide)
      · exact Or.inl (b2 p hh (by omega) (by omega))
  · rintro ⟨⟨s, s1, s2, s3⟩, hd⟩
    have dega : atP R eA eB M a = 1 := by have := hd a ha; rw [if_pos (Or.inl rfl)] at this; exact this
    have degb : atP R eA eB M b = 1 := by have := hd b hb; rw [if_pos (Or.inr rfl)] at this; exact this
    have g := goo_complete he hP (s := a) (g := b) (S0 := 2 ^ a) hM (fun p _ h h' => by rw [Nat.testBit_two_pow, decide_eq_true_eq] at h; exact absurd h.symm h') (fun p hp h1 h2 => by
      have := hd p hp
      rw [if_neg (by omega)] at this
      omega) (by omega) (fun _ => ⟨dega, degb⟩) (fun z => absurd z.symm hab) (fun p hp h => by rw [s3 p hp h, s3 a ha (by omega)]) (fun z => absurd z.symm hab) 8 0 a (2 ^ a) 0 rfl (TR.st ha) (fun i _ h => by rw [Nat.zero_testBit] at h; exact absurd h (by decide)) (Or.inr rfl)
    refine ⟨g, ?_⟩
    obtain ⟨S, n, t⟩ := fin g
    obtain ⟨-, ⟨a6, a7, -, -⟩, ⟨b1, b2, b3⟩, -⟩ := id t
    rw [a7]
    cases thr
    · rw [if_neg (by decide)]; omega
    · rw [if_pos rfl]
      have := (every S n t).mpr (fun p hp => by
        cases hh : visB a (2 ^ a) S p
        · have z := b3 p hh
          have := hd p hp
          split at this
          · omega
          · rcases this with q | q
            · omega
            · exact absurd q.2 (by decide)
        · rfl)
      omega
end FOUND

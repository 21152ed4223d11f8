/-! ===== trails: the posts passed, the roads taken ===== -/
section TRAIL
variable {P R : Nat} {eA eB : Nat → Nat}
theorem at_pos {m p : Nat} : 0 < atP R eA eB m p ↔ ∃ i, i < R ∧ m.testBit i = true ∧ (eA i = p ∨ eB i = p) := by
  unfold atP
  rw [fb_ct_pos]
  refine exists_congr fun i => and_congr_right fun _ => ?_
  rw [Bool.and_eq_true, Bool.or_eq_true, decide_eq_true_eq, decide_eq_true_eq]
theorem at_none {p : Nat} : atP R eA eB 0 p = 0 := fb_ct_zero.mpr fun i _ => by rw [Nat.zero_testBit]; rfl
theorem tb_put {q i k : Nat} : (q ||| 2 ^ i).testBit k = (q.testBit k || decide (i = k)) := by rw [Nat.testBit_or, Nat.testBit_two_pow]
theorem at_add {q i p : Nat} (hi : i < R) (hq : q.testBit i = false) : atP R eA eB (q ||| 2 ^ i) p = atP R eA eB q p + (if eA i = p ∨ eB i = p then 1 else 0) := by
  have u := fb_ct_upd (fun r => q.testBit r && (decide (eA r = p) || decide (eB r = p))) (decide (eA i = p) || decide (eB i = p)) hi
  rw [hq, Bool.false_and, if_neg (by decide), Nat.add_zero] at u
  have e : atP R eA eB (q ||| 2 ^ i) p = fb_ct (fun k => if k = i then decide (eA i = p) || decide (eB i = p) else q.testBit k && (decide (eA k = p) || decide (eB k = p))) R := by
    unfold atP
    refine fb_ct_cong fun k _ => ?_
    rw [tb_put]
    by_cases c : k = i
    · subst c; rw [if_pos rfl, decide_eq_true rfl, Bool.or_true, Bool.true_and]
    · rw [if_neg c, decide_eq_false (fun z => c z.symm), Bool.or_false]
  rw [e, u]
  congr 1
  by_cases c : eA i = p ∨ eB i = p
  · rw [if_pos c, if_pos (by rw [Bool.or_eq_true, decide_eq_true_eq, decide_eq_true_eq]; exact c)]
  · rw [if_neg c, if_neg (by rw [Bool.or_eq_true, decide_eq_true_eq, decide_eq_true_eq]; exact c)]
theorem bits_add {q i : Nat} (hi : i < R) (hq : q.testBit i = false) : fb_ct (fun k => (q ||| 2 ^ i).testBit k) R = fb_ct (fun k => q.testBit k) R + 1 := by
  have u := fb_ct_upd (fun r => q.testBit r) true hi
  rw [hq, if_neg (by decide), if_pos rfl, Nat.add_zero] at u
  rw [← u]
  refine fb_ct_cong fun k _ => ?_
  rw [tb_put]
  by_cases c : k = i
  · subst c; rw [if_pos rfl, decide_eq_true rfl, Bool.or_true]
  · rw [if_neg c, decide_eq_false (fun z => c z.symm), Bool.or_false]
theorem at_diff {q M p : Nat} (sub : ∀ i, i < R → q.testBit i = true → M.testBit i = true) : atP R eA eB M p = atP R eA eB q p + fb_ct (fun i => M.testBit i && !q.testBit i && (decide (eA i = p) || decide (eB i = p))) R := by
  unfold atP
  rw [← fb_ct_or]
  · refine fb_ct_cong fun i hi => ?_
    have := sub i hi
    cases hq : q.testBit i <;> cases hM : M.testBit i <;> cases (decide (eA i = p) || decide (eB i = p)) <;> first | rfl | (rw [hq, hM] at this; exact absurd (this rfl) (by decide))
  · rintro i - ⟨a, b⟩
    rw [Bool.and_eq_true] at a
    rw [a.1, Bool.not_true, Bool.and_false, Bool.false_and] at b
    exact absurd b (by decide)
theorem at_more {q M p : Nat} (sub : ∀ i, i < R → q.testBit i = true → M.testBit i = true) (h : atP R eA eB q p < atP R eA eB M p) : ∃ i, i < R ∧ M.testBit i = true ∧ q.testBit i = false ∧ (eA i = p ∨ eB i = p) := by
  have d := at_diff (eA := eA) (eB := eB) (p := p) sub
  obtain ⟨i, hi, e⟩ := fb_ct_pos.mp (show 0 < fb_ct (fun i => M.testBit i && !q.testBit i && (decide (eA i = p) || decide (eB i = p))) R by omega)
  rw [Bool.and_eq_true, Bool.and_eq_true, Bool.or_eq_true, Bool.not_eq_true', decide_eq_true_eq, decide_eq_true_eq] at e
  exact ⟨i, hi, e.1.1, e.1.2, e.2⟩
theorem at_less {q M p i : Nat} (sub : ∀ i, i < R → q.testBit i = true → M.testBit i = true) (hi : i < R) (h1 : M.testBit i = true) (h2 : q.testBit i = false) (h3 : eA i = p ∨ eB i = p) : atP R eA eB q p < atP R eA eB M p := by
  have d := at_diff (eA := eA) (eB := eB) (p := p) sub
  have : 0 < fb_ct (fun i => M.testBit i && !q.testBit i && (decide (eA i = p) || decide (eB i = p))) R := fb_ct_pos.mpr ⟨i, hi, by
    rw [Bool.and_eq_true, Bool.and_eq_true, Bool.or_eq_true, Bool.not_eq_true', decide_eq_true_eq, decide_eq_true_eq]
    exact ⟨⟨h1, h2⟩, h3⟩⟩
  omega
theorem at_le {q M p : Nat} (sub : ∀ i, i < R → q.testBit i = true → M.testBit i = true) : atP R eA eB q p ≤ atP R eA eB M p := by
  have d := at_diff (eA := eA) (eB := eB) (p := p) sub
  omega
/-- one heap of roads -/
def oneP (P R : Nat) (eA eB : Nat → Nat) (M : Nat) : Prop := ∃ s, s < P ∧ 0 < atP R eA eB M s ∧ ∀ q, q < P → 0 < atP R eA eB M q → hpP eA eB M R q = hpP eA eB M R s
theorem ct_one {p : Nat → Bool} {n : Nat} : fb_ct p n = 1 ↔ ∃ i, i < n ∧ p i = true ∧ ∀ j, j < n → p j = true → j = i := by
  constructor
  · intro h
    obtain ⟨i, hi, h1⟩ := fb_ct_pos.mp (show 0 < fb_ct p n by omega)
    refine ⟨i, hi, h1, fun j hj h2 => fb_ct_kth_one h2 h1 ?_⟩
    have a := fb_ct_mono p (show i + 1 ≤ n from hi)
    have b := fb_ct_mono p (show j + 1 ≤ n from hj)
    rw [fb_ct_succ, if_pos h1] at a
    rw [fb_ct_succ, if_pos h2] at b
    omega
  · rintro ⟨i, hi, h1, h2⟩
    have u := fb_ct_upd (fun _ => false) true hi
    rw [if_neg (by decide), if_pos rfl, fb_ct_zero.mpr (fun k _ => rfl)] at u
    rw [show fb_ct p n = fb_ct (fun k => if k = i then true else false) n from fb_ct_cong fun k hk => ?_]
    · omega
    · by_cases c : k = i
      · rw [if_pos c, c]; exact h1
      · rw [if_neg c]
        cases hp : p k
        · rfl
        · exact absurd (h2 k hk hp) c
theorem one_iff (he : ∀ i, i < R → eA i < P ∧ eB i < P) {M : Nat} : oneP P R eA eB M ↔ M ≠ 0 ∧ P - hpC eA eB M R = fb_ct (fun p => decide (atP R eA eB M p = 0)) P + 1 := by
  have iso : ∀ p, atP R eA eB M p = 0 → hpP eA eB M R p = p := fun p h => by
    have np : ¬ 0 < atP R eA eB M p := by omega
    exact (hp_closed (m := M) (fun x => x = p) (r := R) (fun i hi hb => ⟨fun e => absurd (at_pos.mpr ⟨i, hi, hb, Or.inl e⟩) np, fun e => absurd (at_pos.mpr ⟨i, hi, hb, Or.inr e⟩) np⟩) p).mp rfl
  have non : ∀ p, 0 < atP R eA eB M p → 0 < atP R eA eB M (hpP eA eB M R p) := fun p h => (hp_closed (m := M) (fun x => 0 < atP R eA eB M x) (r := R) (fun i hi hb => ⟨fun _ => at_pos.mpr ⟨i, hi, hb, Or.inr rfl⟩, fun _ => at_pos.mpr ⟨i, hi, hb, Or.inl rfl⟩⟩) p).mp h
  have cnt := hp_count (m := M) he R (Nat.le_refl R)
  have sp : fb_ct (fun p => decide (hpP eA eB M R p = p)) P = fb_ct (fun p => decide (atP R eA eB M p = 0)) P + fb_ct (fun p => decide (hpP eA eB M R p = p) && !decide (atP R eA eB M p = 0)) P := by
    rw [← fb_ct_or]
    · refine fb_ct_cong fun p _ => ?_
      by_cases c : atP R eA eB M p = 0
      · rw [decide_eq_true c, decide_eq_true (iso p c)]; rfl
      · rw [decide_eq_false c, Bool.not_false, Bool.and_true, Bool.false_or]
    · rintro p - ⟨a, b⟩
      rw [a, Bool.not_true, Bool.and_false] at b
      exact absurd b (by decide)
  have key : oneP P R eA eB M ↔ fb_ct (fun p => decide (hpP eA eB M R p = p) && !decide (atP R eA eB M p = 0)) P = 1 := by
    rw [ct_one]
    constructor
    · rintro ⟨s, h1, h2, h3⟩
      refine ⟨hpP eA eB M R s, Nat.lt_of_le_of_lt (hp_le R s) h1, ?_, fun j hj h => ?_⟩
      · rw [decide_eq_true (hp_idem R s), decide_eq_false (by have := non s h2; omega)]; rfl
      · rw [Bool.and_eq_true, Bool.not_eq_true', decide_eq_true_eq, decide_eq_false_iff_not] at h
        rw [← h.1]
        exact h3 j hj (by omega)
    · rintro ⟨f, h1, h2, h3⟩
      rw [Bool.and_eq_true, Bool.not_eq_true', decide_eq_true_eq, decide_eq_false_iff_not] at h2
      refine ⟨f, h1, by omega, fun q hq h => ?_⟩
      rw [h2.1]
      refine h3 _ (Nat.lt_of_le_of_lt (hp_le R q) hq) ?_
      rw [decide_eq_true (hp_idem R q), decide_eq_false (by have := non q h; omega)]; rfl
  constructor
  · intro h
    refine ⟨fun e => ?_, by have := key.mp h; omega⟩
    obtain ⟨s, -, h2, -⟩ := h
    rw [e, at_none] at h2
    omega
  · rintro ⟨-, h⟩
    exact key.mpr (by omega)
/-- the posts passed -/
def visB (s S0 S p : Nat) : Bool := decide (p = s) || (S.testBit p && !S0.testBit p)
def TR (P R : Nat) (eA eB : Nat → Nat) (s S0 v S q n : Nat) : Prop :=
  (v < P ∧ q < 2 ^ R ∧ (∀ p, S0.testBit p = true → S.testBit p = true) ∧ S.testBit s = S0.testBit s ∧ (∀ p, visB s S0 S p = true → p < P)) ∧
  (fb_ct (visB s S0 S) P = n + 1 ∧ fb_ct (fun i => q.testBit i) R = n ∧ (n = 0 → v = s ∧ q = 0) ∧ (0 < n → v ≠ s ∧ atP R eA eB q s = 1 ∧ atP R eA eB q v = 1)) ∧
  (visB s S0 S v = true ∧ (∀ p, visB s S0 S p = true → p ≠ s → p ≠ v → atP R eA eB q p = 2) ∧ (∀ p, visB s S0 S p = false → atP R eA eB q p = 0)) ∧
  ((∀ C : Nat → Prop, (∀ i, i < R → q.testBit i = true → (C (eA i) ↔ C (eB i))) → ∀ p, visB s S0 S p = true → (C p ↔ C s)) ∧ (2 ≤ n → ∀ i, i < R → q.testBit i = true → ¬ jns eA eB i v s))
theorem TR.st {s S0 : Nat} (hs : s < P) : TR P R eA eB s S0 s S0 0 0 := by
  have vs : ∀ p, visB s S0 S0 p = decide (p = s) := fun p => by unfold visB; cases S0.testBit p <;> simp
  refine ⟨⟨hs, Nat.two_pow_pos R, fun p h => h, rfl, fun p h => ?_⟩, ⟨ct_one.mpr ⟨s, hs, by rw [vs]; exact decide_eq_true rfl, fun j _ h => by rw [vs, decide_eq_true_eq] at h; exact h⟩, fb_ct_zero.mpr fun i _ => Nat.zero_testBit i, fun _ => ⟨rfl, rfl⟩, fun h => absurd h (Nat.lt_irrefl 0)⟩, ⟨by rw [vs]; exact decide_eq_true rfl, fun p h h1 => ?_, fun p h => at_none⟩, fun C _ p h => ?_, fun h => absurd h (by decide)⟩
  · rw [vs, decide_eq_true_eq] at h; omega
  · rw [vs, decide_eq_true_eq] at h; exact absurd h h1
  · rw [vs, decide_eq_true_eq] at h; rw [h]
theorem jns_t {i v w p : Nat} (h : jns eA eB i v w) : (eA i = p ∨ eB i = p) ↔ (p = v ∨ p = w) := by
  unfold jns at h
  omega
theorem vis_no {s S0 S w : Nat} (h : S.testBit w = false) (hw : w ≠ s) : visB s S0 S w = false := by unfold visB; rw [h, decide_eq_false hw]; rfl
theorem TR.step {s S0 v S q n i w : Nat} (h : TR P R eA eB s S0 v S q n) (he : ∀ i, i < R → eA i < P ∧ eB i < P ∧ eA i ≠ eB i) (hi : i < R) (hj : jns eA eB i v w) (hS : S.testBit w = false) (hws : w ≠ s) : TR P R eA eB s S0 w (S ||| 2 ^ w) (q ||| 2 ^ i) (n + 1) := by
  obtain ⟨⟨a1, a2, a3, a4, a5⟩, ⟨a6, a7, a8, a9⟩, ⟨b1, b2, b3⟩, c1, c2⟩ := h
  obtain ⟨ya, yb, yn⟩ := he i hi
  have hwv : w ≠ v := by unfold jns at hj; omega
  have hwP : w < P := by unfold jns at hj; omega
  have S0w : S0.testBit w = false := by
    cases hh : S0.testBit w
    · rfl
    · rw [a3 w hh] at hS; exact hS
  have vw := vis_no (S0 := S0) hS hws
  have aw := b3 w vw
  have hq : q.testBit i = false := by
    cases hh : q.testBit i
    · rfl
    · exact absurd (at_pos.mpr ⟨i, hi, hh, (jns_t hj).mpr (Or.inr rfl)⟩) (by rw [aw]; decide)
  have vs : ∀ p, visB s S0 (S ||| 2 ^ w) p = if p = w then true else visB s S0 S p := fun p => by
    unfold visB
    rw [tb_put]
    by_cases c : p = w
    · subst c
      rw [if_pos rfl, decide_eq_true rfl, S0w, Bool.or_true]
      exact Bool.or_true _
    · rw [if_neg c, decide_eq_false (show ¬ w = p from fun z => c z.symm), Bool.or_false]
  have att : ∀ p, atP R eA eB (q ||| 2 ^ i) p = atP R eA eB q p + (if p = v ∨ p = w then 1 else 0) := fun p => by
    rw [at_add hi hq]
    congr 1
    by_cases c : p = v ∨ p = w
    · rw [if_pos c, if_pos ((jns_t hj).mpr c)]
    · rw [if_neg c, if_neg (fun z => c ((jns_t hj).mp z))]
  refine ⟨⟨hwP, ?_, fun p hp => ?_, ?_, fun p hp => ?_⟩, ⟨?_, ?_, fun z => absurd z (Nat.succ_ne_zero n), fun _ => ⟨hws, ?_, ?_⟩⟩, ⟨?_, fun p hp h1 h2 => ?_, fun p hp => ?_⟩, fun C hC p hp => ?_, fun hn j hjR hb hjj => ?_⟩
  · exact Nat.or_lt_two_pow a2 (Nat.pow_lt_pow_right (by decide) hi)
  · rw [tb_put, a3 p hp]; rfl
  · rw [tb_put, a4, decide_eq_false hws, Bool.or_false]
  · rw [vs] at hp
    by_cases c : p = w
    · omega
    · rw [if_neg c] at hp; exact a5 p hp
  · have u := fb_ct_upd (visB s S0 S) true hwP
    rw [vw, if_neg (by decide), if_pos rfl, a6] at u
    rw [fb_ct_cong (q := fun k => if k = w then true else visB s S0 S k) (fun k _ => vs k)]
    omega
  · rw [bits_add hi hq, a7]
  · rw [att]
    by_cases c : n = 0
    · obtain ⟨r1, r2⟩ := a8 c
      rw [r2, at_none, if_pos (Or.inl r1.symm)]
    · obtain ⟨r1, r2, r3⟩ := a9 (by omega)
      rw [r2, if_neg (by omega)]
  · rw [att, aw, if_pos (Or.inr rfl)]
  · rw [vs, if_pos rfl]
  · rw [vs, if_neg h2] at hp
    rw [att]
    by_cases c : p = v
    · rw [if_pos (Or.inl c)]
      have : 0 < n := Nat.pos_of_ne_zero (fun z => h1 (c.trans (a8 z).1))
      rw [c, (a9 this).2.2]
    · rw [if_neg (by omega), b2 p hp h1 c]
  · rw [vs] at hp
    by_cases c : p = w
    · rw [if_pos c] at hp; exact absurd hp (by decide)
    · rw [if_neg c] at hp
      have : p ≠ v := fun z => by rw [z, b1] at hp; exact absurd hp (by decide)
      rw [att, if_neg (by omega), b3 p hp]
  · have base := c1 C (fun j hj' hb => hC j hj' (by rw [tb_put, hb]; rfl))
    rw [vs] at hp
    by_cases c : p = w
    · have e := hC i hi (by rw [tb_put, decide_eq_true rfl, Bool.or_true])
      have ev := base v b1
      rw [c]
      rcases hj with ⟨r1, r2⟩ | ⟨r1, r2⟩
      · rw [r1, r2] at e; exact e.symm.trans ev
      · rw [r1, r2] at e; exact e.trans ev
    · rw [if_neg c] at hp; exact base p hp
  · rw [tb_put, Bool.or_eq_true, decide_eq_true_eq] at hb
    rcases hb with hb | hb
    · exact absurd (at_pos.mpr ⟨j, hjR, hb, (jns_t hjj).mpr (Or.inl rfl)⟩) (by rw [aw]; decide)
    · subst hb
      have : v = s := by unfold jns at hj hjj; omega
      exact (a9 (by omega)).1 this
end TRAIL

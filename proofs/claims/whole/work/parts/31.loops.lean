/-! ===== loops of the models ===== -/
theorem it1_ind {A ρ : Type} {f : (A → Option ρ) → A → Option ρ} (P : Nat → A → Prop) (Q : Option ρ → Prop) (h : ∀ (n : Nat) (a : A) (rc : A → Option ρ), P n a → (∀ (k : Nat) (a' : A), k < n → P k a' → Q (rc a')) → Q (f rc a)) : ∀ (N n : Nat) (a : A), n < N → P n a → Q (it1 f N a) := by
  intro N
  induction N with
  | zero => intro n a hn; omega
  | succ N ih => intro n a hn hP; exact h n a (it1 f N) hP (fun k a' hk hP' => ih k a' (by omega) hP')
theorem it2_ind {A B ρ : Type} {f : (A → B → Option ρ) → A → B → Option ρ} (P : Nat → A → B → Prop) (Q : Option ρ → Prop) (h : ∀ (n : Nat) (a : A) (b : B) (rc : A → B → Option ρ), P n a b → (∀ (k : Nat) (a' : A) (b' : B), k < n → P k a' b' → Q (rc a' b')) → Q (f rc a b)) : ∀ (N n : Nat) (a : A) (b : B), n < N → P n a b → Q (it2 f N a b) := by
  intro N
  induction N with
  | zero => intro n a b hn; omega
  | succ N ih => intro n a b hn hP; exact h n a b (it2 f N) hP (fun k a' b' hk hP' => ih k a' b' (by omega) hP')
theorem it3_ind {A B C ρ : Type} {f : (A → B → C → Option ρ) → A → B → C → Option ρ} (P : Nat → A → B → C → Prop) (Q : Option ρ → Prop) (h : ∀ (n : Nat) (a : A) (b : B) (c : C) (rc : A → B → C → Option ρ), P n a b c → (∀ (k : Nat) (a' : A) (b' : B) (c' : C), k < n → P k a' b' c' → Q (rc a' b' c')) → Q (f rc a b c)) : ∀ (N n : Nat) (a : A) (b : B) (c : C), n < N → P n a b c → Q (it3 f N a b c) := by
  intro N
  induction N with
  | zero => intro n a b c hn; omega
  | succ N ih => intro n a b c hn hP; exact h n a b c (it3 f N) hP (fun k a' b' c' hk hP' => ih k a' b' c' (by omega) hP')
theorem it4_ind {A B C D ρ : Type} {f : (A → B → C → D → Option ρ) → A → B → C → D → Option ρ} (P : Nat → A → B → C → D → Prop) (Q : Option ρ → Prop) (h : ∀ (n : Nat) (a : A) (b : B) (c : C) (d : D) (rc : A → B → C → D → Option ρ), P n a b c d → (∀ (k : Nat) (a' : A) (b' : B) (c' : C) (d' : D), k < n → P k a' b' c' d' → Q (rc a' b' c' d')) → Q (f rc a b c d)) : ∀ (N n : Nat) (a : A) (b : B) (c : C) (d : D), n < N → P n a b c d → Q (it4 f N a b c d) := by
  intro N
  induction N with
  | zero => intro n a b c d hn; omega
  | succ N ih => intro n a b c d hn hP; exact h n a b c d (it4 f N) hP (fun k a' b' c' d' hk hP' => ih k a' b' c' d' (by omega) hP')
theorem it5_ind {A B C D E ρ : Type} {f : (A → B → C → D → E → Option ρ) → A → B → C → D → E → Option ρ} (P : Nat → A → B → C → D → E → Prop) (Q : Option ρ → Prop) (h : ∀ (n : Nat) (a : A) (b : B) (c : C) (d : D) (e : E) (rc : A → B → C → D → E → Option ρ), P n a b c d e → (∀ (k : Nat) (a' : A) (b' : B) (c' : C) (d' : D) (e' : E), k < n → P k a' b' c' d' e' → Q (rc a' b' c' d' e')) → Q (f rc a b c d e)) : ∀ (N n : Nat) (a : A) (b : B) (c : C) (d : D) (e : E), n < N → P n a b c d e → Q (it5 f N a b c d e) := by
  intro N
  induction N with
  | zero => intro n a b c d e hn; omega
  | succ N ih => intro n a b c d e hn hP; exact h n a b c d e (it5 f N) hP (fun k a' b' c' d' e' hk hP' => ih k a' b' c' d' e' (by omega) hP')
/-- a loop that goes n turns and then leaves: its values known at each turn -/
theorem it1_seq {A ρ : Type} {f : (A → Option ρ) → A → Option ρ} (a : Nat → A) (n : Nat) (r : Option ρ) (hn : n < fuel) (hs : ∀ j : Nat, j < n → ∀ rc : A → Option ρ, f rc (a j) = rc (a (j + 1))) (he : ∀ rc : A → Option ρ, f rc (a n) = r) : it1 f fuel (a 0) = r := by
  refine it1_ind (P := fun k x => ∃ j, j + k = n ∧ x = a j) (Q := fun o => o = r) ?_ fuel n (a 0) hn ⟨0, by omega, rfl⟩
  rintro k x rc ⟨j, hj, rfl⟩ ih
  by_cases c : k = 0
  · rw [show j = n by omega]; exact he rc
  · rw [hs j (by omega) rc]; exact ih (k - 1) _ (by omega) ⟨j + 1, by omega, rfl⟩
theorem it2_seq {A B ρ : Type} {f : (A → B → Option ρ) → A → B → Option ρ} (a : Nat → A) (b : Nat → B) (n : Nat) (r : Option ρ) (hn : n < fuel) (hs : ∀ j : Nat, j < n → ∀ rc : A → B → Option ρ, f rc (a j) (b j) = rc (a (j + 1)) (b (j + 1))) (he : ∀ rc : A → B → Option ρ, f rc (a n) (b n) = r) : it2 f fuel (a 0) (b 0) = r := by
  refine it2_ind (P := fun k x y => ∃ j, j + k = n ∧ x = a j ∧ y = b j) (Q := fun o => o = r) ?_ fuel n (a 0) (b 0) hn ⟨0, by omega, rfl, rfl⟩
  rintro k x y rc ⟨j, hj, rfl, rfl⟩ ih
  by_cases c : k = 0
  · rw [show j = n by omega]; exact he rc
  · rw [hs j (by omega) rc]; exact ih (k - 1) _ _ (by omega) ⟨j + 1, by omega, rfl, rfl⟩
theorem it3_seq {A B C ρ : Type} {f : (A → B → C → Option ρ) → A → B → C → Option ρ} (a : Nat → A) (b : Nat → B) (c : Nat → C) (n : Nat) (r : Option ρ) (hn : n < fuel) (hs : ∀ j : Nat, j < n → ∀ rc : A → B → C → Option ρ, f rc (a j) (b j) (c j) = rc (a (j + 1)) (b (j + 1)) (c (j + 1))) (he : ∀ rc : A → B → C → Option ρ, f rc (a n) (b n) (c n) = r) : it3 f fuel (a 0) (b 0) (c 0) = r := by
  refine it3_ind (P := fun k x y z => ∃ j, j + k = n ∧ x = a j ∧ y = b j ∧ z = c j) (Q := fun o => o = r) ?_ fuel n (a 0) (b 0) (c 0) hn ⟨0, by omega, rfl, rfl, rfl⟩
  rintro k x y z rc ⟨j, hj, rfl, rfl, rfl⟩ ih
  by_cases q : k = 0
  · rw [show j = n by omega]; exact he rc
  · rw [hs j (by omega) rc]; exact ih (k - 1) _ _ _ (by omega) ⟨j + 1, by omega, rfl, rfl, rfl⟩
/-! ===== numbers ===== -/
theorem gi_n {ρ : Type} {n N : Nat} {k : Option ρ} (h : n < N) (hN : N < 2 ^ 31) : gi (nI n) N k = k := gi_ok (vp_in_nI h hN)
theorem tn (n : Nat) (h : n < 2 ^ 31) : (nI n).toNatClampNeg = n := nI_clamp h
theorem it_nI {n : Nat} (h : n < 2 ^ 31) : (nI n).toInt = (n : Int) := nI_toInt h
def bI (b : Bool) : Int32 := if b then 1 else 0
theorem bI_t : bI true = 1 := rfl
theorem bI_f : bI false = 0 := rfl
theorem bI_01 (b : Bool) : bI b = 0 ∨ bI b = 1 := by cases b <;> decide
theorem bI_eq0 (b : Bool) : bI b = 0 ↔ b = false := by cases b <;> decide
theorem bI_eq1 (b : Bool) : bI b = 1 ↔ b = true := by cases b <;> decide
theorem bI_nI (b : Bool) : bI b = nI (if b then 1 else 0) := by cases b <;> rfl
theorem bI_inj {a b : Bool} : bI a = bI b ↔ a = b := by cases a <;> cases b <;> decide
theorem bI_and (b : Bool) : bI b &&& 1 = bI b := by cases b <;> decide
theorem bI_01' {v : Int32} (h : v = 0 ∨ v = 1) : ∃ b, v = bI b := by
  rcases h with rfl | rfl
  · exact ⟨false, rfl⟩
  · exact ⟨true, rfl⟩
theorem in_iff {v lo hi : Int32} : Rm_in v lo hi = bI (decide (lo.toInt ≤ v.toInt ∧ v.toInt ≤ hi.toInt)) := by
  unfold Rm_in
  simp only [fa_lt]
  by_cases c1 : v.toInt < lo.toInt
  · rw [if_pos c1, decide_eq_false (by omega)]; rfl
  · rw [if_neg c1]
    by_cases c2 : hi.toInt < v.toInt
    · rw [if_pos c2, decide_eq_false (by omega)]; rfl
    · rw [if_neg c2, decide_eq_true (by omega)]; rfl
theorem in_0 {v lo hi : Int32} : Rm_in v lo hi = 0 ↔ ¬ (lo.toInt ≤ v.toInt ∧ v.toInt ≤ hi.toInt) := by
  rw [in_iff, bI_eq0, decide_eq_false_iff_not]
theorem of_toInt {x : Int32} {n : Nat} (hn : n < 2 ^ 31) (h : x.toInt = (n : Int)) : x = nI n := Int32.toInt_inj.mp (by rw [h, nI_toInt hn])
theorem sub1 {n : Nat} (h : n < 2 ^ 31) : (nI n - 1).toInt = (n : Int) - 1 := by
  rw [Int32.toInt_sub, nI_toInt h, show (1 : Int32).toInt = 1 from rfl]
  exact Int.bmod_eq_of_le (by omega) (by omega)
theorem of_range {x : Int32} {n : Nat} (hn : n < 2 ^ 31) (h0 : 0 ≤ x.toInt) (h : x.toInt < (n : Int)) : ∃ j : Nat, j < n ∧ x = nI j :=
  ⟨x.toInt.toNat, by omega, of_toInt (by omega) (by omega)⟩

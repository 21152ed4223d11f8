/-! ===== labels: eight times four bits ===== -/
def labN (x : Int32) (p : Nat) : Nat := x.toBitVec.toNat / 2 ^ (4 * p) % 2 ^ 4
theorem lab_lt {x : Int32} {p : Nat} : labN x p < 16 := Nat.mod_lt _ (by decide)
theorem lab_bit {x : Int32} {p i : Nat} : (labN x p).testBit i = (decide (i < 4) && bt x (4 * p + i)) := by
  unfold labN
  rw [Nat.testBit_mod_two_pow, Nat.testBit_div_two_pow, Nat.add_comm i]
  rfl
theorem bt_n (x i : Nat) : bt (nI x) i = (decide (i < 32) && x.testBit i) := by
  unfold bt; show (BitVec.ofNat 32 x).getLsbD i = _; rw [BitVec.getLsbD_ofNat]
theorem b_15 : ∀ i, i < 32 → bt 15 i = decide (i < 4) := by decide +kernel
theorem label_n {x : Int32} {p : Nat} (hp : p < 8) : D4m_label x (nI p) = nI (labN x p) := by
  unfold D4m_label
  rw [ml4]
  apply b_ext
  intro i hi
  rw [b_and, b_ushr (4 * p) (by omega), bt_n, lab_bit, decide_eq_true hi, Bool.true_and, b_15 i hi, Bool.and_comm]
theorem tb16 {n i : Nat} (h : n < 16) (hi : 4 ≤ i) : n.testBit i = false := Nat.testBit_lt_two_pow (Nat.lt_of_lt_of_le h (show 2 ^ 4 ≤ 2 ^ i from Nat.pow_le_pow_right (by decide) hi))
theorem xor_back (a b : Nat) : a ^^^ (a ^^^ b) = b := by rw [← Nat.xor_assoc, Nat.xor_self, Nat.zero_xor]
theorem lab_set {x : Int32} {f t v q : Nat} (hf : f < 16) (ht : t < 16) (hv : v < 8) (hq : q < 8) (h : labN x v = f) : labN (x ^^^ ((nI f ^^^ nI t) <<< (nI (4 * v) &&& 31))) q = if q = v then t else labN x q := by
  have hx : f ^^^ t < 16 := Nat.xor_lt_two_pow (n := 4) hf ht
  have key : ∀ i, (labN (x ^^^ ((nI f ^^^ nI t) <<< (nI (4 * v) &&& 31))) q).testBit i = ((labN x q).testBit i ^^ (decide (q = v) && (f ^^^ t).testBit i)) := fun i => by
    rw [lab_bit, lab_bit]
    by_cases c : i < 4
    · rw [decide_eq_true c, Bool.true_and, Bool.true_and, b_xor, b_shl (4 * v) (by omega) _ (by omega), nx_xor, bt_n]
      congr 1
      by_cases e : q = v
      · subst e
        rw [decide_eq_true (by omega), decide_eq_true (by omega), decide_eq_true rfl, Nat.add_sub_cancel_left]
        rfl
      · rw [decide_eq_false e, Bool.false_and]
        by_cases l : v < q
        · rw [tb16 hx (by omega), Bool.and_false, Bool.and_false]
        · rw [decide_eq_false (by omega), Bool.false_and]
    · rw [decide_eq_false c, Bool.false_and, Bool.false_and, tb16 hx (by omega), Bool.and_false]
      rfl
  apply Nat.eq_of_testBit_eq
  intro i
  rw [key]
  by_cases e : q = v
  · subst e
    rw [if_pos rfl, decide_eq_true rfl, Bool.true_and, h, ← Nat.testBit_xor, xor_back]
  · rw [if_neg e, decide_eq_false e, Bool.false_and, Bool.xor_false]
theorem relab_n {x : Int32} {f t : Nat} (hf : f < 16) (ht : t < 16) : ∃ y, D4m_relabelled x (nI f) (nI t) = some y ∧ ∀ q, q < 8 → labN y q = if labN x q = f then t else labN x q := by
  unfold D4m_relabelled
  refine it2_ind (f := D4s_relabelled_5 x (nI f) (nI t) (fun u_4 => some u_4)) (P := fun n v w => ∃ j, j + n = 8 ∧ w = nI j ∧ (∀ q, q < j → labN v q = if labN x q = f then t else labN x q) ∧ ∀ q, j ≤ q → q < 8 → labN v q = labN x q) (Q := fun o => ∃ y, o = some y ∧ ∀ q, q < 8 → labN y q = if labN x q = f then t else labN x q) ?_ fuel 8 x (0 : Int32) (by unfold fuel; omega) ⟨0, by omega, rfl, fun q hq => absurd hq (Nat.not_lt_zero q), fun q _ _ => rfl⟩
  rintro n v w rc ⟨j, hj, rfl, h, h'⟩ ih
  unfold D4s_relabelled_5
  by_cases c : j = 8
  · subst c
    rw [if_pos (by decide)]
    exact ⟨v, rfl, h⟩
  · have l1 : labN x j < 16 := lab_lt
    rw [if_neg (show ¬ (8 : Int32) ≤ nI j from nI_ge (b := 8) (by omega) (by decide)), label_n (by omega), ml4, pl1]
    by_cases e : labN x j = f
    · rw [if_pos (congrArg nI e), nm_s]
      have st := fun q (hq : q < 8) => lab_set (x := v) hf ht (show j < 8 by omega) hq ((h' j (Nat.le_refl _) (by omega)).trans e)
      refine ih (n - 1) _ _ (by omega) ⟨j + 1, by omega, rfl, fun q hq => ?_, fun q hq hq' => ?_⟩
      · rw [st q (by omega)]
        by_cases g : q = j
        · subst g; rw [if_pos rfl, if_pos e]
        · rw [if_neg g]; exact h q (by omega)
      · rw [st q hq', if_neg (by omega)]; exact h' q (by omega) hq'
    · rw [if_neg (fun q => e ((nI_eq (by omega) (by omega)).mp q))]
      refine ih (n - 1) _ _ (by omega) ⟨j + 1, by omega, rfl, fun q hq => ?_, fun q hq hq' => h' q (by omega) hq'⟩
      by_cases g : q = j
      · subst g; rw [if_neg e]; exact h' q (Nat.le_refl _) (by omega)
      · exact h q (by omega)
theorem lab_start : ∀ q, q < 8 → labN (1985229328 : Int32) q = q := by decide +kernel
/-- labels that tell posts apart as the roads do -/
def LBL (P : Nat) (eA eB : Nat → Nat) (m r : Nat) (x : Int32) : Prop := (∀ p, p < P → labN x p < P ∧ labN x (labN x p) = labN x p) ∧ ∀ p q, p < P → q < P → (labN x p = labN x q ↔ hpP eA eB m r p = hpP eA eB m r q)
theorem LBL.st {P : Nat} {eA eB : Nat → Nat} (hP : P ≤ 8) : LBL P eA eB 0 0 (1985229328 : Int32) :=
  ⟨fun p hp => by rw [lab_start p (by omega), lab_start p (by omega)]; exact ⟨hp, rfl⟩, fun p q hp hq => by rw [lab_start p (by omega), lab_start q (by omega)]; exact Iff.rfl⟩
theorem hp_up {eA eB : Nat → Nat} {m r : Nat} (hm : m < 2 ^ r) (p : Nat) : hpP eA eB (m + 2 ^ r) r p = hpP eA eB m r p := hp_cong (fun i hi => by
  rw [Nat.add_comm, tb_top hm, decide_eq_false (by omega), Bool.false_or]) p
theorem tb_up {m r : Nat} (hm : m < 2 ^ r) : (m + 2 ^ r).testBit r = true := by rw [Nat.add_comm, tb_top hm, decide_eq_true rfl]; rfl
theorem LBL.no {P m r : Nat} {eA eB : Nat → Nat} {x : Int32} (h : LBL P eA eB m r x) (hm : m < 2 ^ r) : LBL P eA eB m (r + 1) x :=
  ⟨h.1, fun p q hp hq => by rw [hp_no (Nat.testBit_lt_two_pow hm), hp_no (Nat.testBit_lt_two_pow hm)]; exact h.2 p q hp hq⟩
theorem LBL.same {P m r : Nat} {eA eB : Nat → Nat} {x : Int32} (h : LBL P eA eB m r x) (hm : m < 2 ^ r) (e : hpP eA eB m r (eA r) = hpP eA eB m r (eB r)) : LBL P eA eB (m + 2 ^ r) (r + 1) x :=
  ⟨h.1, fun p q hp hq => by
    rw [hp_eq (tb_up hm) (by rw [hp_up hm, hp_up hm]; exact e), hp_eq (tb_up hm) (by rw [hp_up hm, hp_up hm]; exact e), hp_up hm, hp_up hm]
    exact h.2 p q hp hq⟩
theorem LBL.join {P m r : Nat} {eA eB : Nat → Nat} {x y : Int32} (h : LBL P eA eB m r x) (hP : P ≤ 8) (hm : m < 2 ^ r) (ha : eA r < P) (hb : eB r < P) (e : ¬ hpP eA eB m r (eA r) = hpP eA eB m r (eB r))
    (hy : ∀ q, q < 8 → labN y q = if labN x q = labN x (eB r) then labN x (eA r) else labN x q) : LBL P eA eB (m + 2 ^ r) (r + 1) y := by
  have nab : labN x (eA r) ≠ labN x (eB r) := fun q => e ((h.2 _ _ ha hb).mp q)
  obtain ⟨pa, ja⟩ := h.1 _ ha
  refine ⟨fun p hp => ?_, fun p q hp hq => ?_⟩
  · obtain ⟨pp, jp⟩ := h.1 p hp
    rw [hy p (by omega)]
    split
    · rw [hy _ (by omega), ja, if_neg nab]
      exact ⟨pa, rfl⟩
    · rename_i c
      rw [hy _ (by omega), jp, if_neg c]
      exact ⟨pp, rfl⟩
  · have pA := h.2 p _ hp ha
    have pB := h.2 p _ hp hb
    have qA := h.2 q _ hq ha
    have qB := h.2 q _ hq hb
    have pq := h.2 p q hp hq
    rw [hy p (by omega), hy q (by omega), hp_yes (tb_up hm), hp_yes (tb_up hm), hp_up hm, hp_up hm, hp_up hm, hp_up hm]
    by_cases c1 : hpP eA eB m r p = hpP eA eB m r (eA r) ∨ hpP eA eB m r p = hpP eA eB m r (eB r)
    · rw [if_pos c1]
      by_cases c2 : hpP eA eB m r q = hpP eA eB m r (eA r) ∨ hpP eA eB m r q = hpP eA eB m r (eB r)
      · rw [if_pos c2]
        refine ⟨fun _ => rfl, fun _ => ?_⟩
        rcases c1 with c1 | c1 <;> rcases c2 with c2 | c2
        · rw [pA.mpr c1, qA.mpr c2]
        · rw [pA.mpr c1, qB.mpr c2, if_neg nab, if_pos rfl]
        · rw [pB.mpr c1, qA.mpr c2, if_neg nab, if_pos rfl]
        · rw [pB.mpr c1, qB.mpr c2]
      · rw [if_neg c2]
        have n1 : ¬ labN x q = labN x (eA r) := fun z => c2 (Or.inl (qA.mp z))
        have n2 : ¬ labN x q = labN x (eB r) := fun z => c2 (Or.inr (qB.mp z))
        rw [if_neg n2]
        refine ⟨fun z => absurd ?_ n1, fun z => absurd ?_ c2⟩
        · rcases c1 with c1 | c1
          · rw [pA.mpr c1, if_neg nab] at z; exact z.symm
          · rw [pB.mpr c1, if_pos rfl] at z; exact z.symm
        · omega
    · rw [if_neg c1]
      have n1 : ¬ labN x p = labN x (eA r) := fun z => c1 (Or.inl (pA.mp z))
      have n2 : ¬ labN x p = labN x (eB r) := fun z => c1 (Or.inr (pB.mp z))
      rw [if_neg n2]
      by_cases c2 : hpP eA eB m r q = hpP eA eB m r (eA r) ∨ hpP eA eB m r q = hpP eA eB m r (eB r)
      · rw [if_pos c2]
        refine ⟨fun z => absurd ?_ n1, fun z => absurd ?_ c1⟩
        · rcases c2 with c2 | c2
          · rw [qA.mpr c2, if_neg nab] at z; exact z
          · rw [qB.mpr c2, if_pos rfl] at z; exact z
        · omega
      · rw [if_neg c2]
        have n3 : ¬ labN x q = labN x (eB r) := fun z => c2 (Or.inr (qB.mp z))
        rw [if_neg n3]
        exact pq

/-! ===== twelve bits read backwards ===== -/
theorem all4096 {P : Nat → Prop} (h : ∀ a, a < 64 → ∀ b, b < 64 → P (64 * a + b)) : ∀ m, m < 4096 → P m := fun m hm => by
  have := h (m / 64) (by omega) (m % 64) (Nat.mod_lt _ (by decide))
  rw [Nat.div_add_mod] at this
  exact this
theorem mir_a : ∀ a, a < 64 → ∀ b, b < 64 → mir (64 * a + b) < 4096 ∧ mir (mir (64 * a + b)) = 64 * a + b := by decide +kernel
theorem mir_b : ∀ a, a < 64 → ∀ b, b < 64 → ∀ i, i < 12 → (mir (64 * a + b)).testBit i = (64 * a + b).testBit (11 - i) := by decide +kernel
theorem mir_lt {m : Nat} (h : m < 4096) : mir m < 4096 := (all4096 (P := fun m => mir m < 4096 ∧ mir (mir m) = m) mir_a m h).1
theorem mir_mir {m : Nat} (h : m < 4096) : mir (mir m) = m := (all4096 (P := fun m => mir m < 4096 ∧ mir (mir m) = m) mir_a m h).2
theorem mir_tb {m i : Nat} (h : m < 4096) (hi : i < 12) : (mir m).testBit i = m.testBit (11 - i) := all4096 (P := fun m => ∀ i, i < 12 → (mir m).testBit i = m.testBit (11 - i)) mir_b m h i hi

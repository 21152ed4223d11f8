/-! ===== evaluation ===== -/
theorem b1_s {α ρ : Type} {a : α} {k : α → Option ρ} : b1 (some a) k = k a := Eq.trans rfl rfl
theorem b2_s {α β ρ : Type} {a : α} {b : β} {k : α → β → Option ρ} : b2 (some (a, b)) k = k a b := Eq.trans rfl rfl
theorem b2_p {α β ρ : Type} {p : α × β} {k : α → β → Option ρ} : b2 (some p) k = k p.1 p.2 := Eq.trans rfl rfl
theorem nm_s {α β : Type} {a : α} {k : α → β} : nm a k = k a := Eq.trans rfl rfl
theorem dA_p1 {σ : DS} {c f : Nat} {v : Int32} : (dA σ c f v).1 = σ.1 := Eq.trans rfl rfl
theorem dA_p3 {σ : DS} {c f : Nat} {v : Int32} : (dA σ c f v).2.2 = σ.2.2 := Eq.trans rfl rfl
theorem dS_p2 {σ : DS} {c f : Nat} {v : Int32} : (dS σ c f v).2.1 = σ.2.1 := Eq.trans rfl rfl
theorem dS_p3 {σ : DS} {c f : Nat} {v : Int32} : (dS σ c f v).2.2 = σ.2.2 := Eq.trans rfl rfl
theorem dJ_p1 {σ : DS} {c f : Nat} {v : Int64} : (dJ σ c f v).1 = σ.1 := Eq.trans rfl rfl
theorem dJ_p2 {σ : DS} {c f : Nat} {v : Int64} : (dJ σ c f v).2.1 = σ.2.1 := Eq.trans rfl rfl
theorem rA_p1 {τ : RS} {k i : Nat} {v : Int32} : (rA τ k i v).1 = τ.1 := Eq.trans rfl rfl
theorem rS_p2 {τ : RS} {k : Nat} {v : Int32} : (rS τ k v).2 = τ.2 := Eq.trans rfl rfl
theorem pl1 {n : Nat} : nI n + (1 : Int32) = nI (n + 1) := nI_1 n
theorem mi1 {n : Nat} : nI (n + 1) - (1 : Int32) = nI n := nI_pred n
theorem t0 : (0 : Int32).toInt = 0 := Eq.trans rfl rfl
theorem i32_99 : (99 : Int32).toInt = 99 := Eq.trans rfl rfl
theorem i32_8 : (8 : Int32).toInt = 8 := Eq.trans rfl rfl
theorem i32_1 : (1 : Int32).toInt = 1 := Eq.trans rfl rfl
theorem i32_2 : (2 : Int32).toInt = 2 := Eq.trans rfl rfl
theorem i32_3 : (3 : Int32).toInt = 3 := Eq.trans rfl rfl
theorem i32_4 : (4 : Int32).toInt = 4 := Eq.trans rfl rfl
theorem i32_5 : (5 : Int32).toInt = 5 := Eq.trans rfl rfl
theorem i32_6 : (6 : Int32).toInt = 6 := Eq.trans rfl rfl
theorem i32_7 : (7 : Int32).toInt = 7 := Eq.trans rfl rfl
theorem i32_11 : (11 : Int32).toInt = 11 := Eq.trans rfl rfl
theorem i32_12 : (12 : Int32).toInt = 12 := Eq.trans rfl rfl
theorem i32_13 : (13 : Int32).toInt = 13 := Eq.trans rfl rfl
theorem i32_30 : (30 : Int32).toInt = 30 := Eq.trans rfl rfl
theorem i32_40 : (40 : Int32).toInt = 40 := Eq.trans rfl rfl
theorem i32_50 : (50 : Int32).toInt = 50 := Eq.trans rfl rfl
theorem i32_m50 : (-50 : Int32).toInt = -50 := Eq.trans rfl rfl
theorem i32_m1 : (-1 : Int32).toInt = -1 := Eq.trans rfl rfl
theorem i32_m2 : (-2 : Int32).toInt = -2 := Eq.trans rfl rfl
theorem i32_20 : (20 : Int32).toInt = 20 := Eq.trans rfl rfl
theorem i32_64 : (64 : Int32).toInt = 64 := Eq.trans rfl rfl
theorem i32_256 : (256 : Int32).toInt = 256 := Eq.trans rfl rfl
theorem i32_768 : (768 : Int32).toInt = 768 := Eq.trans rfl rfl
theorem i32_4096 : (4096 : Int32).toInt = 4096 := Eq.trans rfl rfl
theorem i32_600 : (600 : Int32).toInt = 600 := Eq.trans rfl rfl
theorem i32_m600 : (-600 : Int32).toInt = -600 := Eq.trans rfl rfl
theorem i32_1000 : (1000 : Int32).toInt = 1000 := Eq.trans rfl rfl
theorem i32_1201 : (1201 : Int32).toInt = 1201 := Eq.trans rfl rfl
theorem ml2 {a : Nat} : (2 : Int32) * nI a = nI (2 * a) := pk_mul 2 a
theorem ml4 {a : Nat} : (4 : Int32) * nI a = nI (4 * a) := pk_mul 4 a
theorem ml40 {a : Nat} : (40 : Int32) * nI a = nI (40 * a) := pk_mul 40 a
theorem ml4096 {a : Nat} : (4096 : Int32) * nI a = nI (4096 * a) := pk_mul 4096 a
theorem ad {a b : Nat} : nI a + nI b = nI (a + b) := nI_add a b
theorem pl2 {a : Nat} : nI a + (2 : Int32) = nI (a + 2) := nI_add a 2
theorem sub_k {n k : Nat} (h : n < 2 ^ 30) (hk : k < 2 ^ 30) : (nI n - nI k).toInt = (n : Int) - k := pk_sub_toInt h hk
theorem sub2 {n : Nat} (h : n < 2 ^ 30) : (nI n - (2 : Int32)).toInt = (n : Int) - 2 := pk_sub_toInt (b := 2) h (by decide)
theorem sub3 {n : Nat} (h : n < 2 ^ 30) : (nI n - (3 : Int32)).toInt = (n : Int) - 3 := pk_sub_toInt (b := 3) h (by decide)
theorem sub4 {n : Nat} (h : n < 2 ^ 30) : (nI n - (4 : Int32)).toInt = (n : Int) - 4 := pk_sub_toInt (b := 4) h (by decide)
theorem isPost_0 {σ : DS} {P R : Nat} {ld eA eB od : Nat → Nat} {wt : Nat → Int32} (n1 : NW P R ld eA eB od wt) (n2 : CN σ P R ld eA eB od wt) {x : Int32} : D2m_isPost σ x = 0 ↔ ¬ (0 ≤ x.toInt ∧ x.toInt < P) := by
  have hP := n1.1
  unfold D2m_isPost
  rw [n2.1]
  simp only [fa_lt, fa_le, t0, i32_8]
  rw [it_nI (by omega)]
  split
  · exact ⟨fun _ => by omega, fun _ => rfl⟩
  · split
    · exact ⟨fun _ => by omega, fun _ => rfl⟩
    · split
      · exact ⟨fun _ => by omega, fun _ => rfl⟩
      · exact ⟨fun h => absurd h (by decide), fun h => by omega⟩
theorem isRoad_0 {σ : DS} {P R : Nat} {ld eA eB od : Nat → Nat} {wt : Nat → Int32} (n1 : NW P R ld eA eB od wt) (n2 : CN σ P R ld eA eB od wt) {x : Int32} : D2m_isRoad σ x = 0 ↔ ¬ (0 ≤ x.toInt ∧ x.toInt < R) := by
  have hR := n1.2.1
  unfold D2m_isRoad
  rw [n2.2.1]
  simp only [fa_lt, fa_le, t0, i32_12]
  rw [it_nI (by omega)]
  split
  · exact ⟨fun _ => by omega, fun _ => rfl⟩
  · split
    · exact ⟨fun _ => by omega, fun _ => rfl⟩
    · split
      · exact ⟨fun _ => by omega, fun _ => rfl⟩
      · exact ⟨fun h => absurd h (by decide), fun h => by omega⟩
theorem isCell_0 {b N : Nat} {σ : DS} (hN : N ≤ 765) (h : σ.1 b 0 = nI N) {x y : Int32} : D3m_isCell b σ x y = 0 ↔ ¬ ((0 ≤ x.toInt ∧ x.toInt < N) ∧ (0 ≤ y.toInt ∧ y.toInt < 4)) := by
  unfold D3m_isCell
  rw [h]
  simp only [fa_lt, fa_le, t0, i32_768, i32_4]
  rw [it_nI (by omega)]
  repeat' split
  all_goals first | exact ⟨fun _ => by omega, fun _ => rfl⟩ | exact ⟨fun h => absurd h (by decide), fun h => by omega⟩
theorem isNum_0 {σ : DS} {x : Int32} : D1m_isNumber σ x = 0 ↔ ¬ (0 ≤ x.toInt ∧ x.toInt < 6) := by
  unfold D1m_isNumber
  simp only [fa_lt, fa_le, t0, i32_6]
  repeat' split
  all_goals first | exact ⟨fun _ => by omega, fun _ => rfl⟩ | exact ⟨fun h => absurd h (by decide), fun h => by omega⟩

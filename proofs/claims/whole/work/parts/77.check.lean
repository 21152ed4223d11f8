/-! ===== check ===== -/
theorem countOf_ex {σ : DS} {b n : Nat} (hn : n ≤ 768) (h : σ.1 b 0 = nI n) (x : Int32) : ∃ c, D3m_countOf b σ x = some c := by
  unfold D3m_countOf
  by_cases c : 0 ≤ x.toInt ∧ x.toInt < n
  · obtain ⟨j, hj, rfl⟩ := of_range (by omega) c.1 c.2
    rw [if_neg (show ¬ D3m_isCell b σ (nI j) (3 : Int32) = 0 from fun q => (isCell_n (x := nI j) (w := 3) hn h (by omega)).mp q c), gi3, gi_n (by omega) (by decide)]
    exact ⟨_, rfl⟩
  · rw [if_pos (show D3m_isCell b σ x (3 : Int32) = 0 from (isCell_n (x := x) (w := 3) hn h (by omega)).mpr c)]
    by_cases d : x = -2
    · rw [if_pos d]; exact ⟨_, rfl⟩
    · rw [if_neg d]; exact ⟨_, rfl⟩
section CHECK
variable {τ : RS} {N : Nat}
/-- the class's rows are the reference's -/
def RWE (σ : DS) (τ : RS) (N : Nat) : Prop := N ≤ 765 ∧ σ.1 17 0 = nI N ∧ τ.1 9 = nI N ∧ ∀ i, i < N → ∀ w, w < 4 → σ.2.1 (17 + 2 + w) i = τ.2 10 (4 * i + w)
theorem ix1 (i : Nat) : (4 : Int32) * nI i + (1 : Int32) = nI (4 * i + 1) := by rw [ml4]; exact nI_add _ 1
theorem ix2 (i : Nat) : (4 : Int32) * nI i + (2 : Int32) = nI (4 * i + 2) := by rw [ml4]; exact nI_add _ 2
theorem ix3 (i : Nat) : (4 : Int32) * nI i + (3 : Int32) = nI (4 * i + 3) := by rw [ml4]; exact nI_add _ 3
theorem lead_n {x : Int32} {i : Nat} (hi : i < 2 ^ 30) : D3m_isLead x (nI i) = 0 ↔ ¬ (-2 ≤ x.toInt ∧ x.toInt < i) := by
  unfold D3m_isLead
  simp only [fa_lt, fa_le, i32_m2]
  rw [it_nI (by omega)]
  repeat' split
  all_goals first | exact ⟨fun _ => by omega, fun _ => rfl⟩ | exact ⟨fun h => absurd h (by decide), fun h => by omega⟩
/-- how many, of what a row leads to -/
def rcV (τ : RS) (x : Int32) : Int32 := if x = -1 then 0 else if x = -2 then 1 else τ.2 10 (4 * x.toNatClampNeg + 3)
theorem wrong_n {σ : DS} (h : RWE σ τ N) {i : Nat} (hi : i < N) (hH : HT σ 25 i) (hR : ∀ j, j < i → isR σ 25 j (τ.2 10 (4 * j)) (τ.2 10 (4 * j + 1)) (τ.2 10 (4 * j + 2))) : ∃ w, w ≤ 5 ∧ D3m_wrongness 17 σ (nI i) 25 = some (nI w) ∧ Rm_wrong τ (nI i) = some (nI w) := by
  obtain ⟨hN, h0, h9, hc⟩ := h
  have c0 : σ.2.1 (17 + 2 + 0) i = τ.2 10 (4 * i) := hc i hi 0 (by omega)
  have c1 : σ.2.1 (17 + 2 + 1) i = τ.2 10 (4 * i + 1) := hc i hi 1 (by omega)
  have c2 : σ.2.1 (17 + 2 + 2) i = τ.2 10 (4 * i + 2) := hc i hi 2 (by omega)
  have c3 : σ.2.1 (17 + 2 + 3) i = τ.2 10 (4 * i + 3) := hc i hi 3 (by omega)
  obtain ⟨x, hx⟩ : ∃ x, x = τ.2 10 (4 * i) := ⟨_, rfl⟩
  obtain ⟨y, hy⟩ : ∃ y, y = τ.2 10 (4 * i + 1) := ⟨_, rfl⟩
  obtain ⟨z, hz⟩ : ∃ z, z = τ.2 10 (4 * i + 2) := ⟨_, rfl⟩
  obtain ⟨v, hv⟩ : ∃ v, v = τ.2 10 (4 * i + 3) := ⟨_, rfl⟩
  rw [← hx] at c0
  rw [← hy] at c1
  rw [← hz] at c2
  rw [← hv] at c3
  have im1 : (nI i - (1 : Int32)).toInt = (i : Int) - 1 := sub1 (by omega)
  have gi4400 : ∀ {ρ : Type} {k : Option ρ} (j : Nat), j < 4400 → gi (nI j) 4400 k = k := fun {ρ} {k} j hj => gi_n hj (by decide)
  -- what leads
  have rd : ∀ y : Int32, -2 ≤ y.toInt → y.toInt < i → (y.toInt < 0 ∧ D3m_roadOfLead 17 σ y = some 12 ∧ Rm_isAbove τ (nI i) y = some 1) ∨ (∃ j, j < i ∧ y = nI j ∧ D3m_roadOfLead 17 σ y = some (τ.2 10 (4 * j)) ∧ Rm_isAbove τ (nI i) y = some (if τ.2 10 (4 * j) ≤ x then 0 else 1)) := fun y h1 h2 => by
    by_cases c : y.toInt < 0
    · refine Or.inl ⟨c, ?_, ?_⟩
      · unfold D3m_roadOfLead
        rw [if_pos (show D3m_isCell 17 σ y (0 : Int32) = 0 from (isCell_n (x := y) (w := 0) (by omega) h0 (by omega)).mpr (by omega))]
      · unfold Rm_isAbove
        rw [if_pos (by rw [fa_lt, t0]; exact c)]
    · obtain ⟨j, hj, rfl⟩ := of_range (x := y) (n := i) (by omega) (by omega) h2
      refine Or.inr ⟨j, hj, rfl, ?_, ?_⟩
      · unfold D3m_roadOfLead
        rw [if_neg (show ¬ D3m_isCell 17 σ (nI j) (0 : Int32) = 0 from fun q => (isCell_n (x := nI j) (w := 0) (by omega) h0 (by omega)).mp q (by rw [it_nI (by omega)]; omega)), gi0, gi_n (by omega) (by decide), tc0, tn _ (by omega)]
        exact congrArg some (hc j (by omega) 0 (by omega))
      · unfold Rm_isAbove
        rw [if_neg (nI_pos (by omega)), ml4, ml4, gi4400 _ (by omega), gi4400 _ (by omega), tn _ (by omega), tn _ (by omega), ← hx]
        by_cases d : τ.2 10 (4 * j) ≤ x
        · rw [if_pos d, if_pos d]
        · rw [if_neg d, if_neg d]
  have cnt : ∀ y : Int32, -2 ≤ y.toInt → y.toInt < i → D3m_countOf 17 σ y = some (rcV τ y) ∧ Rm_rowCount τ y = some (rcV τ y) := fun y h1 h2 => by
    unfold rcV
    by_cases c : y.toInt < 0
    · have cell : D3m_isCell 17 σ y (3 : Int32) = 0 := (isCell_n (x := y) (w := 3) (by omega) h0 (by omega)).mpr (by omega)
      unfold D3m_countOf Rm_rowCount
      rw [if_pos cell]
      by_cases e1 : y = -1
      · rw [if_pos e1, if_pos e1, e1]
        exact ⟨rfl, rfl⟩
      · have e2 : y = -2 := by
          have : y.toInt ≠ -1 := fun e => e1 (by rw [fa_eq, e]; rfl)
          rw [fa_eq, i32_m2]
          omega
        rw [if_neg e1, if_neg e1, if_pos e2, if_pos e2, if_pos e2]
        exact ⟨rfl, rfl⟩
    · obtain ⟨j, hj, rfl⟩ := of_range (x := y) (n := i) (by omega) (by omega) h2
      have n1 : nI j ≠ -1 := fun q => by
        have := congrArg Int32.toInt q
        rw [it_nI (by omega), i32_m1] at this
        omega
      have n2 : nI j ≠ -2 := fun q => by
        have := congrArg Int32.toInt q
        rw [it_nI (by omega), i32_m2] at this
        omega
      unfold D3m_countOf Rm_rowCount
      simp only [if_neg n1, if_neg n2]
      rw [if_neg (show ¬ D3m_isCell 17 σ (nI j) (3 : Int32) = 0 from fun q => (isCell_n (x := nI j) (w := 3) (by omega) h0 (by omega)).mp q (by rw [it_nI (by omega)]; omega)), gi3, gi_n (by omega) (by decide), tc3, tn _ (by omega), ix3, gi4400 _ (by omega), tn _ (by omega)]
      exact ⟨congrArg some (hc j (by omega) 3 (by omega)), rfl⟩
  -- rows ahead
  have scan : ∀ (kx151 kx159 : Option Int32), it1 (Rs_wrong_95 (nI i) y z τ kx151 kx159) fuel (0 : Int32) = if (∃ j, j < i ∧ τ.2 10 (4 * j) = x ∧ τ.2 10 (4 * j + 1) = y ∧ τ.2 10 (4 * j + 2) = z) ∧ True then kx151 else kx159 := fun kx151 kx159 => by
    refine it1_ind (f := Rs_wrong_95 (nI i) y z τ kx151 kx159) (P := fun n v => ∃ j, j + n = i ∧ v = nI j ∧ ∀ l, l < j → ¬ (τ.2 10 (4 * l) = x ∧ τ.2 10 (4 * l + 1) = y ∧ τ.2 10 (4 * l + 2) = z)) (Q := fun o => o = if (∃ j, j < i ∧ τ.2 10 (4 * j) = x ∧ τ.2 10 (4 * j + 1) = y ∧ τ.2 10 (4 * j + 2) = z) ∧ True then kx151 else kx159) ?_ fuel i (0 : Int32) (by unfold fuel; omega) ⟨0, by omega, rfl, fun l hl => absurd hl (Nat.not_lt_zero l)⟩
    rintro n w rc ⟨j, hj, rfl, hno⟩ ih
    unfold Rs_wrong_95
    by_cases c : j = i
    · rw [if_pos (by rw [c]; exact nI_le (Nat.le_refl _) (by omega)), if_neg (fun ⟨⟨l, l1, l2⟩, _⟩ => hno l (by omega) l2)]
    · rw [if_neg (nI_ge (by omega) (by omega)), ix1, ix2, ml4, ml4, gi4400 _ (by omega), gi4400 _ (by omega), gi4400 _ (by omega), gi4400 _ (by omega), tn _ (by omega), tn _ (by omega), tn _ (by omega), tn _ (by omega), ← hx, pl1]
      by_cases d : τ.2 10 (4 * j) = x ∧ τ.2 10 (4 * j + 1) = y ∧ τ.2 10 (4 * j + 2) = z
      · rw [if_pos d.1, if_pos d.2.1, if_pos d.2.2, if_pos ⟨⟨j, by omega, d⟩, trivial⟩]
      · have nx := ih (n - 1) (nI (j + 1)) (by omega) ⟨j + 1, by omega, rfl, fun l hl => by
          by_cases e : l = j
          · rw [e]; exact d
          · exact hno l (by omega)⟩
        by_cases d1 : τ.2 10 (4 * j) = x
        · rw [if_pos d1]
          by_cases d2 : τ.2 10 (4 * j + 1) = y
          · rw [if_pos d2, if_neg (fun d3 => d ⟨d1, d2, d3⟩)]
            exact nx
          · rw [if_neg d2]; exact nx
        · rw [if_neg d1]; exact nx
  have pD : D3m_wrongness 17 σ (nI i) 25 = (if x < (0 : Int32) then (some (1 : Int32)) else (if (12 : Int32) ≤ x then (some (1 : Int32)) else (if (D3m_isLead y (nI i)) = (0 : Int32) then (some (1 : Int32)) else (if (D3m_isLead z (nI i)) = (0 : Int32) then (some (1 : Int32)) else (b1 (D3m_roadOfLead 17 σ y) (fun r_15 => if r_15 ≤ x then (some (2 : Int32)) else (b1 (D3m_roadOfLead 17 σ z) (fun r_18 => if x < r_18 then (if z = (-1 : Int32) then (some (3 : Int32)) else (b1 (D3m_find 25 σ x y z) (fun r_22 => if r_22 < (0 : Int32) then (b1 (D3m_countOf 17 σ y) (fun r_27 => b1 (D3m_countOf 17 σ z) (fun r_29 => if v = (r_27 + r_29) then (some (0 : Int32)) else (some (5 : Int32))))) else (some (4 : Int32))))) else (some (2 : Int32)))))))))) := by
    have e : ∀ {ρ : Type} {k : Option ρ}, gi (nI i) 768 k = k := fun {ρ} {k} => gi_n (by omega) (by decide)
    unfold D3m_wrongness
    simp only [gi0, gi1, gi2, gi3, tc0, tc1, tc2, tc3, e, tn _ (show i < 2 ^ 31 by omega), nm_s, c0, c1, c2, c3]
  have pR : Rm_wrong τ (nI i) = (if (Rm_in x (0 : Int32) (11 : Int32)) = (0 : Int32) then (some (1 : Int32)) else (if (Rm_in y (-2 : Int32) (nI i - (1 : Int32))) = (0 : Int32) then (some (1 : Int32)) else (if (Rm_in z (-2 : Int32) (nI i - (1 : Int32))) = (0 : Int32) then (some (1 : Int32)) else (b1 (Rm_isAbove τ (nI i) y) (fun r_10 => if r_10 = (0 : Int32) then (some (2 : Int32)) else (b1 (Rm_isAbove τ (nI i) z) (fun r_13 => if r_13 = (0 : Int32) then (some (2 : Int32)) else (if z = (-1 : Int32) then (some (3 : Int32)) else (it1 (Rs_wrong_95 (nI i) y z τ (some (4 : Int32)) (b1 (Rm_rowCount τ y) (fun r_26 => b1 (Rm_rowCount τ z) (fun r_28 => if v = (r_26 + r_28) then (some (0 : Int32)) else (some (5 : Int32)))))) fuel (0 : Int32)))))))))) := by
    unfold Rm_wrong
    rw [ix1, ix2, ix3, gi4400 _ (by omega), nm_s, gi4400 _ (by omega), nm_s, ml4, gi4400 _ (by omega), gi4400 _ (by omega), tn _ (by omega), tn _ (by omega), tn _ (by omega), tn _ (by omega), ← hx, ← hy, ← hz, ← hv]
  rw [pD, pR]
  by_cases a1 : 0 ≤ x.toInt ∧ x.toInt ≤ 11
  · rw [if_neg (show ¬ x < (0 : Int32) by rw [fa_lt, t0]; omega), if_neg (show ¬ (12 : Int32) ≤ x by rw [fa_le, i32_12]; omega), if_neg (show ¬ Rm_in x (0 : Int32) (11 : Int32) = 0 from fun q => in_0.mp q (by rw [t0, i32_11]; exact a1))]
    by_cases a2 : -2 ≤ y.toInt ∧ y.toInt < i
    · rw [if_neg (fun q => (lead_n (by omega)).mp q a2), if_neg (show ¬ Rm_in y (-2 : Int32) (nI i - (1 : Int32)) = 0 from fun q => in_0.mp q (by rw [i32_m2, im1]; omega))]
      by_cases a3 : -2 ≤ z.toInt ∧ z.toInt < i
      · rw [if_neg (fun q => (lead_n (by omega)).mp q a3), if_neg (show ¬ Rm_in z (-2 : Int32) (nI i - (1 : Int32)) = 0 from fun q => in_0.mp q (by rw [i32_m2, im1]; omega))]
        have tail : ∃ w, w ≤ 5 ∧ (if z = (-1 : Int32) then (some (3 : Int32)) else (b1 (D3m_find 25 σ x y z) (fun r_22 => if r_22 < (0 : Int32) then (b1 (D3m_countOf 17 σ y) (fun r_27 => b1 (D3m_countOf 17 σ z) (fun r_29 => if v = (r_27 + r_29) then (some (0 : Int32)) else (some (5 : Int32))))) else (some (4 : Int32))))) = some (nI w) ∧ (if z = (-1 : Int32) then (some (3 : Int32)) else (it1 (Rs_wrong_95 (nI i) y z τ (some (4 : Int32)) (b1 (Rm_rowCount τ y) (fun r_26 => b1 (Rm_rowCount τ z) (fun r_28 => if v = (r_26 + r_28) then (some (0 : Int32)) else (some (5 : Int32)))))) fuel (0 : Int32))) = some (nI w) := by
          by_cases a6 : z = -1
          · exact ⟨3, by omega, if_pos a6, if_pos a6⟩
          · rw [if_neg a6, if_neg a6, scan, (cnt y a2.1 a2.2).1, (cnt y a2.1 a2.2).2, (cnt z a3.1 a3.2).1, (cnt z a3.1 a3.2).2, b1_s, b1_s]
            have same : ∀ j, j < i → (isR σ 25 j x y z ↔ (τ.2 10 (4 * j) = x ∧ τ.2 10 (4 * j + 1) = y ∧ τ.2 10 (4 * j + 2) = z)) := fun j hj => by
              obtain ⟨q0, q1, q2⟩ := hR j hj
              unfold isR
              rw [q0, q1, q2]
            rcases find_n (by omega) hH x y z with ⟨j, j1, j2, j3⟩ | ⟨j1, j2⟩
            · rw [j3, b1_s, if_neg (nI_pos (by omega)), if_pos ⟨⟨j, j1, (same j j1).mp j2⟩, trivial⟩]
              exact ⟨4, by omega, rfl, rfl⟩
            · have nn : ¬ ((∃ j, j < i ∧ τ.2 10 (4 * j) = x ∧ τ.2 10 (4 * j + 1) = y ∧ τ.2 10 (4 * j + 2) = z) ∧ True) := by
                rintro ⟨⟨j, k1, k2⟩, -⟩
                exact j1 j k1 ((same j k1).mpr k2)
              rw [j2, b1_s, if_pos (by decide), if_neg nn]
              by_cases a8 : v = rcV τ y + rcV τ z
              · rw [if_pos a8]; exact ⟨0, by omega, rfl, rfl⟩
              · rw [if_neg a8]; exact ⟨5, by omega, rfl, rfl⟩
        have z12 : ¬ (12 : Int32) ≤ x := by rw [fa_le, i32_12]; omega
        have l12 : x < (12 : Int32) := by rw [fa_lt, i32_12]; omega
        have rz : ∃ w, w ≤ 5 ∧ (b1 (D3m_roadOfLead 17 σ z) (fun r_18 => if x < r_18 then (if z = (-1 : Int32) then (some (3 : Int32)) else (b1 (D3m_find 25 σ x y z) (fun r_22 => if r_22 < (0 : Int32) then (b1 (D3m_countOf 17 σ y) (fun r_27 => b1 (D3m_countOf 17 σ z) (fun r_29 => if v = (r_27 + r_29) then (some (0 : Int32)) else (some (5 : Int32))))) else (some (4 : Int32))))) else (some (2 : Int32)))) = some (nI w) ∧ (b1 (Rm_isAbove τ (nI i) z) (fun r_13 => if r_13 = (0 : Int32) then (some (2 : Int32)) else (if z = (-1 : Int32) then (some (3 : Int32)) else (it1 (Rs_wrong_95 (nI i) y z τ (some (4 : Int32)) (b1 (Rm_rowCount τ y) (fun r_26 => b1 (Rm_rowCount τ z) (fun r_28 => if v = (r_26 + r_28) then (some (0 : Int32)) else (some (5 : Int32)))))) fuel (0 : Int32))))) = some (nI w) := by
          rcases rd z a3.1 a3.2 with ⟨b0, b1', b2'⟩ | ⟨j, b0, b00, b1', b2'⟩
          · rw [b1', b2', b1_s, b1_s, if_pos l12, if_neg (show ¬ (1 : Int32) = 0 by decide)]
            exact tail
          · rw [b1', b2', b1_s, b1_s]
            by_cases d : τ.2 10 (4 * j) ≤ x
            · rw [if_pos d, if_neg (show ¬ x < τ.2 10 (4 * j) by rw [fa_le] at d; rw [fa_lt]; omega), if_pos rfl]
              exact ⟨2, by omega, rfl, rfl⟩
            · rw [if_neg d, if_pos (show x < τ.2 10 (4 * j) by rw [fa_le] at d; rw [fa_lt]; omega), if_neg (show ¬ (1 : Int32) = 0 by decide)]
              exact tail
        rcases rd y a2.1 a2.2 with ⟨b0, b1', b2'⟩ | ⟨j, b0, b00, b1', b2'⟩
        · rw [b1', b2', b1_s, b1_s, if_neg z12, if_neg (show ¬ (1 : Int32) = 0 by decide)]
          exact rz
        · rw [b1', b2', b1_s, b1_s]
          by_cases d : τ.2 10 (4 * j) ≤ x
          · rw [if_pos d, if_pos d, if_pos rfl]
            exact ⟨2, by omega, rfl, rfl⟩
          · rw [if_neg d, if_neg d, if_neg (show ¬ (1 : Int32) = 0 by decide)]
            exact rz
      · rw [if_pos ((lead_n (by omega)).mpr a3), if_pos (show Rm_in z (-2 : Int32) (nI i - (1 : Int32)) = 0 from in_0.mpr (by rw [i32_m2, im1]; omega))]
        exact ⟨1, by omega, rfl, rfl⟩
    · rw [if_pos ((lead_n (by omega)).mpr a2), if_pos (show Rm_in y (-2 : Int32) (nI i - (1 : Int32)) = 0 from in_0.mpr (by rw [i32_m2, im1]; omega))]
      exact ⟨1, by omega, rfl, rfl⟩
  · rw [if_pos (show Rm_in x (0 : Int32) (11 : Int32) = 0 from in_0.mpr (by rw [t0, i32_11]; exact a1))]
    refine ⟨1, by omega, ?_, rfl⟩
    by_cases d : x.toInt < 0
    · rw [if_pos (show x < (0 : Int32) by rw [fa_lt, t0]; exact d)]; rfl
    · rw [if_neg (show ¬ x < (0 : Int32) by rw [fa_lt, t0]; exact d), if_pos (show (12 : Int32) ≤ x by rw [fa_le, i32_12]; omega)]; rfl
theorem like_r {σ : DS} {L : List Nat} (hN : N ≤ 765) (h0 : σ.1 17 0 = nI N) (hl : L.length ≤ 765) (h1 : σ.1 25 0 = nI L.length) : D3m_isLike 17 σ 25 = some (bI (cD (N = L.length ∧ ∀ i, i < N → ∀ w, w < 4 → σ.2.1 (17 + 2 + w) i = σ.2.1 (25 + 2 + w) i))) := by
  unfold D3m_isLike
  rw [h0, h1]
  by_cases c : N = L.length
  · rw [if_pos (by rw [c])]
    have inner : ∀ (i : Nat) (kx56 kx64 : Option Int32), i < 768 → it1 (D3s_isLike_32 17 25 (nI i) σ kx56 kx64) fuel (0 : Int32) = if cD (∀ w, w < 4 → σ.2.1 (17 + 2 + w) i = σ.2.1 (25 + 2 + w) i) = true then kx64 else kx56 := fun i kx56 kx64 hi => by
      refine it1_ind (f := D3s_isLike_32 17 25 (nI i) σ kx56 kx64) (P := fun n v => ∃ w, w + n = 4 ∧ v = nI w ∧ ∀ l, l < w → σ.2.1 (17 + 2 + l) i = σ.2.1 (25 + 2 + l) i) (Q := fun o => o = if cD (∀ w, w < 4 → σ.2.1 (17 + 2 + w) i = σ.2.1 (25 + 2 + w) i) = true then kx64 else kx56) ?_ fuel 4 (0 : Int32) (by unfold fuel; omega) ⟨0, rfl, rfl, fun l hl => absurd hl (Nat.not_lt_zero l)⟩
      rintro n v rc ⟨w, hw, rfl, hs⟩ ih
      unfold D3s_isLike_32
      by_cases e : w = 4
      · subst e
        rw [if_pos (show (4 : Int32) ≤ nI 4 by decide), if_pos (cD_t hs)]
      · have g4 : ∀ {ρ : Type} {k : Option ρ}, gi (nI w) 4 k = k := fun {ρ} {k} => gi_n (by omega) (by decide)
        have g7 : ∀ {ρ : Type} {k : Option ρ}, gi (nI i) 768 k = k := fun {ρ} {k} => gi_n hi (by decide)
        rw [if_neg (show ¬ (4 : Int32) ≤ nI w from nI_ge (b := 4) (by omega) (by decide)), g4, g7, g4, g7, tn _ (by omega), tn _ (by omega), pl1]
        by_cases d : σ.2.1 (17 + 2 + w) i = σ.2.1 (25 + 2 + w) i
        · rw [if_pos d]
          refine ih (n - 1) _ (by omega) ⟨w + 1, by omega, rfl, fun l hl => ?_⟩
          by_cases e2 : l = w
          · rw [e2]; exact d
          · exact hs l (by omega)
        · rw [if_neg d, cD_f (fun q => d (q w (by omega)))]
          rfl
    refine it1_ind (f := D3s_isLike_15 17 25 σ (some (0 : Int32)) (some (1 : Int32))) (P := fun n v => ∃ j, j + n = N ∧ v = nI j ∧ ∀ i, i < j → ∀ w, w < 4 → σ.2.1 (17 + 2 + w) i = σ.2.1 (25 + 2 + w) i) (Q := fun o => o = some (bI (cD (N = L.length ∧ ∀ i, i < N → ∀ w, w < 4 → σ.2.1 (17 + 2 + w) i = σ.2.1 (25 + 2 + w) i)))) ?_ fuel N (0 : Int32) (by unfold fuel; omega) ⟨0, by omega, rfl, fun i hi => absurd hi (Nat.not_lt_zero i)⟩
    rintro n v rc ⟨j, hj, rfl, hs⟩ ih
    unfold D3s_isLike_15
    rw [h0]
    by_cases e : j = N
    · rw [if_pos (by rw [e]; exact nI_le (Nat.le_refl _) (by omega)), cD_t ⟨c, fun i hi => hs i (by omega)⟩]
      rfl
    · rw [if_neg (nI_ge (by omega) (by omega)), if_neg (show ¬ (768 : Int32) ≤ nI j from nI_ge (b := 768) (by omega) (by decide)), inner j _ _ (by omega), pl1]
      by_cases d : ∀ w, w < 4 → σ.2.1 (17 + 2 + w) j = σ.2.1 (25 + 2 + w) j
      · rw [if_pos (cD_t d)]
        refine ih (n - 1) _ (by omega) ⟨j + 1, by omega, rfl, fun i hi => ?_⟩
        by_cases e2 : i = j
        · rw [e2]; exact d
        · exact hs i (by omega)
      · rw [cD_f d, if_neg (by decide), cD_f (fun q => d (q.2 j (by omega)))]
        rfl
  · rw [if_neg (fun q => c ((nI_eq (by omega) (by omega)).mp q)), cD_f (fun q => c q.1)]
    rfl
end CHECK
theorem st_check : ST_check INV := by
  intro σ τ h a1
  obtain ⟨-, ⟨F, kd, W, f1, f2, f3⟩, -, h4, -, ax⟩ := id h
  have hF := f1.1
  by_cases hf0 : 0 ≤ a1.toInt ∧ a1.toInt < F
  · obtain ⟨f, hf, rfl⟩ := of_range (by omega) hf0.1 hf0.2
    obtain ⟨N, hN, hs17, ht9, hcell⟩ := h4
    obtain ⟨σ0, e0, k0, H0⟩ := clear_n (σ := σ) (b := 25)
    have rwe : ∀ s, dK_ (fun c => 25 ≤ c ∧ c ≤ 32) σ s → RWE s τ N := fun s ks => ⟨hN, by rw [(ks 17 (by omega)).1]; exact hs17, ht9, fun i hi w hw => by rw [(ks (17 + 2 + w) (by omega)).2.1]; exact hcell i hi w hw⟩
    have scr : ∀ s t, dK_ (fun c => 25 ≤ c ∧ c ≤ 32) σ s → rK_ (fun c => 22 ≤ c ∧ c ≤ 31) τ t → INV s t := fun s t ks kt =>
      h.scr (fun F0 _ _ => ks.mo (fun c hc => by unfold dScr; omega)) (kt.mo (fun c hc => by simp only [rScr]; omega)) ⟨by rw [(ks 11 (by omega)).2.1, (ks 12 (by omega)).2.1]; exact ax.1, AXr.bk ax.2 kt (fun c hc => hc.1)⟩
    have k0' : dK_ (fun c => 25 ≤ c ∧ c ≤ 32) σ σ0 := k0.mo (fun c hc => by omega)
    -- both look for the first wrong row
    have both : ∀ (kD : DS → Option (Int32 × DS)) (kR : Option (Int32 × RS)), (∃ j w s, j < N ∧ w ≤ 5 ∧ w ≠ 0 ∧ dK_ (fun c => 25 ≤ c ∧ c ≤ 32) σ s ∧ it2 (D3s_firstWrong_6 17 25 (fun u_17 u_18 τ_19 => some ((((8 : Int32) * u_17) + u_18), τ_19)) kD) fuel (0 : Int32) σ0 = some (nI (8 * j + w), s) ∧ it1 (Rs_check_13 (nI f) τ (fun u_6 u_7 => some ((((8 : Int32) * u_6) + u_7), τ)) kR) fuel (0 : Int32) = some (nI (8 * j + w), τ)) ∨ (∃ s, dK_ (fun c => 25 ≤ c ∧ c ≤ 32) σ s ∧ it2 (D3s_firstWrong_6 17 25 (fun u_17 u_18 τ_19 => some ((((8 : Int32) * u_17) + u_18), τ_19)) kD) fuel (0 : Int32) σ0 = kD s ∧ it1 (Rs_check_13 (nI f) τ (fun u_6 u_7 => some ((((8 : Int32) * u_6) + u_7), τ)) kR) fuel (0 : Int32) = kR) := fun kD kR => by
      have key : ∀ (d j : Nat) (X Y : Nat) (s : DS), j + d = N → d < X → d < Y → dK_ (fun c => 25 ≤ c ∧ c ≤ 32) σ s → HT s 25 j → (∀ i, i < j → isR s 25 i (τ.2 10 (4 * i)) (τ.2 10 (4 * i + 1)) (τ.2 10 (4 * i + 2))) → (∃ j w s', j < N ∧ w ≤ 5 ∧ w ≠ 0 ∧ dK_ (fun c => 25 ≤ c ∧ c ≤ 32) σ s' ∧ it2 (D3s_firstWrong_6 17 25 (fun u_17 u_18 τ_19 => some ((((8 : Int32) * u_17) + u_18), τ_19)) kD) X (nI (N - d)) s = some (nI (8 * j + w), s') ∧ it1 (Rs_check_13 (nI f) τ (fun u_6 u_7 => some ((((8 : Int32) * u_6) + u_7), τ)) kR) Y (nI (N - d)) = some (nI (8 * j + w), τ)) ∨ (∃ s', dK_ (fun c => 25 ≤ c ∧ c ≤ 32) σ s' ∧ it2 (D3s_firstWrong_6 17 25 (fun u_17 u_18 τ_19 => some ((((8 : Int32) * u_17) + u_18), τ_19)) kD) X (nI (N - d)) s = kD s' ∧ it1 (Rs_check_13 (nI f) τ (fun u_6 u_7 => some ((((8 : Int32) * u_6) + u_7), τ)) kR) Y (nI (N - d)) = kR) := by
        intro d
        induction d with
        | zero =>
          intro j X Y s hj hX hY ks hH hR
          obtain ⟨X, rfl⟩ : ∃ M, X = M + 1 := ⟨X - 1, by omega⟩
          obtain ⟨Y, rfl⟩ : ∃ M, Y = M + 1 := ⟨Y - 1, by omega⟩
          refine Or.inr ⟨s, ks, ?_, ?_⟩
          · show D3s_firstWrong_6 _ _ _ _ (it2 _ X) _ _ = _
            generalize it2 (D3s_firstWrong_6 17 25 (fun u_17 u_18 τ_19 => some ((((8 : Int32) * u_17) + u_18), τ_19)) kD) X = rc
            unfold D3s_firstWrong_6
            rw [Nat.sub_zero, (rwe s ks).2.1, if_pos (nI_le (Nat.le_refl _) (by omega))]
          · show Rs_check_13 _ _ _ _ (it1 _ Y) _ = _
            generalize it1 (Rs_check_13 (nI f) τ (fun u_6 u_7 => some ((((8 : Int32) * u_6) + u_7), τ)) kR) Y = rc
            unfold Rs_check_13
            rw [Nat.sub_zero, ht9, if_pos (nI_le (Nat.le_refl _) (by omega))]
        | succ d ih =>
          intro j X Y s hj hX hY ks hH hR
          obtain ⟨X, rfl⟩ : ∃ M, X = M + 1 := ⟨X - 1, by omega⟩
          obtain ⟨Y, rfl⟩ : ∃ M, Y = M + 1 := ⟨Y - 1, by omega⟩
          have hjN : j < N := by omega
          obtain ⟨w, w5, eD, eR⟩ := wrong_n (rwe s ks) hjN hH hR
          obtain ⟨-, -, -, hc⟩ := rwe s ks
          have c0 : s.2.1 (17 + 2 + 0) j = τ.2 10 (4 * j) := hc j hjN 0 (by omega)
          have c1 : s.2.1 (17 + 2 + 1) j = τ.2 10 (4 * j + 1) := hc j hjN 1 (by omega)
          have c2 : s.2.1 (17 + 2 + 2) j = τ.2 10 (4 * j + 2) := hc j hjN 2 (by omega)
          have stD : ∀ rc : Int32 → DS → Option (Int32 × DS), D3s_firstWrong_6 17 25 (fun u_17 u_18 τ_19 => some ((((8 : Int32) * u_17) + u_18), τ_19)) kD rc (nI j) s = if nI w = (0 : Int32) then b2 (D3m_add 25 s (τ.2 10 (4 * j)) (τ.2 10 (4 * j + 1)) (τ.2 10 (4 * j + 2))) (fun r_16 τ_15 => rc (nI (j + 1)) τ_15) else some (nI (8 * j + w), s) := fun rc => by
            have e : ∀ {ρ : Type} {k : Option ρ}, gi (nI j) 768 k = k := fun {ρ} {k} => gi_n (by omega) (by decide)
            have e8 : (8 : Int32) * nI j = nI (8 * j) := pk_mul 8 j
            unfold D3s_firstWrong_6
            rw [(rwe s ks).2.1, if_neg (nI_ge hjN (by omega)), if_neg (show ¬ (768 : Int32) ≤ nI j from nI_ge (b := 768) (by omega) (by decide)), eD, b1_s]
            simp only [gi0, gi1, gi2, tc0, tc1, tc2, e, tn _ (show j < 2 ^ 31 by omega), c0, c1, c2, pl1, e8, ad]
          have stR : ∀ rc : Int32 → Option (Int32 × RS), Rs_check_13 (nI f) τ (fun u_6 u_7 => some ((((8 : Int32) * u_6) + u_7), τ)) kR rc (nI j) = if nI w = (0 : Int32) then rc (nI (j + 1)) else some (nI (8 * j + w), τ) := fun rc => by
            have e8 : (8 : Int32) * nI j = nI (8 * j) := pk_mul 8 j
            unfold Rs_check_13
            rw [ht9, if_neg (nI_ge hjN (by omega)), eR, b1_s, pl1]
            dsimp only
            rw [e8, ad]
          have uX : it2 (D3s_firstWrong_6 17 25 (fun u_17 u_18 τ_19 => some ((((8 : Int32) * u_17) + u_18), τ_19)) kD) (X + 1) (nI (N - (d + 1))) s = D3s_firstWrong_6 17 25 (fun u_17 u_18 τ_19 => some ((((8 : Int32) * u_17) + u_18), τ_19)) kD (it2 (D3s_firstWrong_6 17 25 (fun u_17 u_18 τ_19 => some ((((8 : Int32) * u_17) + u_18), τ_19)) kD) X) (nI (N - (d + 1))) s := rfl
          have uY : it1 (Rs_check_13 (nI f) τ (fun u_6 u_7 => some ((((8 : Int32) * u_6) + u_7), τ)) kR) (Y + 1) (nI (N - (d + 1))) = Rs_check_13 (nI f) τ (fun u_6 u_7 => some ((((8 : Int32) * u_6) + u_7), τ)) kR (it1 (Rs_check_13 (nI f) τ (fun u_6 u_7 => some ((((8 : Int32) * u_6) + u_7), τ)) kR) Y) (nI (N - (d + 1))) := rfl
          rw [uX, uY, show N - (d + 1) = j by omega, stD, stR]
          by_cases c : w = 0
          · subst c
            rw [if_pos (show nI 0 = (0 : Int32) from rfl), if_pos (show nI 0 = (0 : Int32) from rfl)]
            obtain ⟨x1, hx1⟩ := countOf_ex (σ := s) (b := 25) (by omega) hH.1 (τ.2 10 (4 * j + 1))
            obtain ⟨x2, hx2⟩ := countOf_ex (σ := s) (b := 25) (by omega) hH.1 (τ.2 10 (4 * j + 2))
            obtain ⟨s', q1, q2, q3, q4, q5, q6⟩ := add_n (by omega) hH (x := τ.2 10 (4 * j)) hx1 hx2
            rw [q1, b2_s]
            have nx := ih (j + 1) X Y s' (by omega) (by omega) (by omega) (ks.tr q2) q3 (fun i hi => by
              by_cases e : i = j
              · rw [e]; exact q4
              · obtain ⟨r0, r1, r2⟩ := hR i (by omega)
                exact ⟨by rw [q6 0 (by omega) i e]; exact r0, by rw [q6 1 (by omega) i e]; exact r1, by rw [q6 2 (by omega) i e]; exact r2⟩)
            rw [show N - d = j + 1 by omega] at nx
            exact nx
          · rw [if_neg (nI_ne0 (by omega) (by omega)), if_neg (nI_ne0 (by omega) (by omega))]
            exact Or.inl ⟨j, w, s, hjN, w5, c, ks, rfl, rfl⟩
      have := key N 0 fuel fuel σ0 (by omega) (by unfold fuel; omega) (by unfold fuel; omega) k0' H0 (fun i hi => absurd hi (Nat.not_lt_zero i))
      rw [Nat.sub_self] at this
      exact this
    have pD : D8m_check σ (nI f) = b2 (it2 (D3s_firstWrong_6 17 25 (fun u_17 u_18 τ_19 => some ((((8 : Int32) * u_17) + u_18), τ_19)) (fun τ_20 => some ((-1 : Int32), τ_20))) fuel (0 : Int32) σ0) (fun r_6 τ_5 => if r_6 < (0 : Int32) then (b2 (D3m_list 25 τ_5 f) (fun r_10 τ_9 => b1 (D3m_isLike 17 τ_9 25) (fun r_12 => if r_12 = (0 : Int32) then (some ((-3 : Int32), τ_9)) else (some ((-1 : Int32), τ_9))))) else (some (r_6, τ_5))) := by
      unfold D8m_check D3m_firstWrong
      rw [family_n f2.1 hF hf, bq_k (by omega), e0, b1_s]
    obtain ⟨τ1, e2, n2, w2, hlen, r2⟩ := rowsOf_n f1 f2 f3 hf
    obtain ⟨L, hL⟩ : ∃ L, L = po 12 (tT (wb σ f) 12 0) [] := ⟨_, rfl⟩
    rw [← hL] at n2 w2 hlen
    have pR : Rm_check τ (nI f) = it1 (Rs_check_13 (nI f) τ (fun u_6 u_7 => some ((((8 : Int32) * u_6) + u_7), τ)) (b1 (some τ1) (fun τ_9 => if (τ_9.1 31) = (τ_9.1 9) then (it2 (Rs_check_68 τ_9 (fun u_18 => if u_18 = (0 : Int32) then (some ((-3 : Int32), τ_9)) else (some ((-1 : Int32), τ_9)))) fuel (1 : Int32) (0 : Int32)) else (it2 (Rs_check_68 τ_9 (fun u_16 => if u_16 = (0 : Int32) then (some ((-3 : Int32), τ_9)) else (some ((-1 : Int32), τ_9)))) fuel (0 : Int32) (0 : Int32))))) fuel (0 : Int32) := by
      unfold Rm_check
      rw [if_neg (fun q => (isFam_0 f3.1 hF).mp q hf0), e2]
    rw [pD, pR]
    rcases both (fun τ_20 => some ((-1 : Int32), τ_20)) (b1 (some τ1) (fun τ_9 => if (τ_9.1 31) = (τ_9.1 9) then (it2 (Rs_check_68 τ_9 (fun u_18 => if u_18 = (0 : Int32) then (some ((-3 : Int32), τ_9)) else (some ((-1 : Int32), τ_9)))) fuel (1 : Int32) (0 : Int32)) else (it2 (Rs_check_68 τ_9 (fun u_16 => if u_16 = (0 : Int32) then (some ((-3 : Int32), τ_9)) else (some ((-1 : Int32), τ_9)))) fuel (0 : Int32) (0 : Int32)))) with ⟨j, w, s, hj, hw5, hw0, ks, qD, qR⟩ | ⟨s, ks, qD, qR⟩
    · refine ⟨nI (8 * j + w), s, τ, ?_, qR, scr s τ ks rK_.rf⟩
      rw [qD, b2_s, if_neg (nI_pos (by omega))]
    · obtain ⟨s2, e3, T3, d3⟩ := list_b (b := 25) (σ := s) (a := f) (V := wb σ f) (by omega) (by omega) (fun p _ => wb_dK ks (by omega))
      rw [← hL] at e3 T3
      have ks2 := ks.tr d3
      have hlike := like_r (σ := s2) (N := N) (L := L) hN (rwe s2 ks2).2.1 hlen T3.1.1
      -- the two comparisons say the same
      have hrow : ∀ i t, L[i]? = some t → ∀ w, w < 4 → s2.2.1 (25 + 2 + w) i = τ1.2 30 (4 * i + w) := fun i t hi w hw => by rw [T3.2 i t hi w hw, w2 i t hi w hw]
      have h10 : τ1.2 10 = τ.2 10 := (r2 10 (by omega)).2
      have h9' : τ1.1 9 = nI N := by rw [(r2 9 (by omega)).1]; exact ht9
      have eR : b1 (some τ1) (fun τ_9 => if (τ_9.1 31) = (τ_9.1 9) then (it2 (Rs_check_68 τ_9 (fun u_18 => if u_18 = (0 : Int32) then (some ((-3 : Int32), τ_9)) else (some ((-1 : Int32), τ_9)))) fuel (1 : Int32) (0 : Int32)) else (it2 (Rs_check_68 τ_9 (fun u_16 => if u_16 = (0 : Int32) then (some ((-3 : Int32), τ_9)) else (some ((-1 : Int32), τ_9)))) fuel (0 : Int32) (0 : Int32))) = (if bI (cD (N = L.length ∧ ∀ i, i < N → ∀ w, w < 4 → s2.2.1 (17 + 2 + w) i = s2.2.1 (25 + 2 + w) i)) = (0 : Int32) then (some ((-3 : Int32), τ1)) else (some ((-1 : Int32), τ1))) := by
        have loop := fun b => all_loop (f := Rs_check_68 τ1 (fun u_18 => if u_18 = (0 : Int32) then (some ((-3 : Int32), τ1)) else (some ((-1 : Int32), τ1)))) (N := 4 * N) (by unfold fuel; omega) (fun u_18 => if u_18 = (0 : Int32) then (some ((-3 : Int32), τ1)) else (some ((-1 : Int32), τ1))) (fun k => decide (τ1.2 10 k = τ1.2 30 k)) (fun rc w => by unfold Rs_check_68; rw [if_pos rfl]) (fun rc w hw => by
          unfold Rs_check_68
          rw [if_neg (by decide), h9', ml4, if_neg (nI_ge hw (by omega)), gi_n (by omega) (by decide), gi_n (by omega) (by decide), tn _ (by omega), pl1]
          by_cases d : τ1.2 10 w = τ1.2 30 w
          · rw [if_pos d, decide_eq_true d]; rfl
          · rw [if_neg d, decide_eq_false d]; rfl) (fun rc => by unfold Rs_check_68; rw [if_neg (by decide), h9', ml4, if_pos (nI_le (Nat.le_refl _) (by omega))]) b
        rw [b1_s, n2, h9']
        by_cases c : N = L.length
        · rw [if_pos (by rw [c])]
          refine (loop true).trans ?_
          rw [Bool.true_and]
          have e : allB (fun k => decide (τ1.2 10 k = τ1.2 30 k)) (4 * N) = cD (N = L.length ∧ ∀ i, i < N → ∀ w, w < 4 → s2.2.1 (17 + 2 + w) i = s2.2.1 (25 + 2 + w) i) := by
            apply cD_eq
            rw [allB_iff]
            constructor
            · intro hh
              refine ⟨c, fun i hi w hw => ?_⟩
              have := hh (4 * i + w) (by omega)
              rw [decide_eq_true_eq, h10] at this
              rw [(rwe s2 ks2).2.2.2 i hi w hw, this]
              exact (hrow i _ (List.getElem?_eq_getElem (by omega)) w hw).symm
            · rintro ⟨-, hh⟩ k hk
              rw [decide_eq_true_eq, h10]
              have := hh (k / 4) (by omega) (k % 4) (by omega)
              rw [(rwe s2 ks2).2.2.2 (k / 4) (by omega) (k % 4) (by omega), hrow (k / 4) _ (List.getElem?_eq_getElem (by omega)) (k % 4) (by omega), show 4 * (k / 4) + k % 4 = k by omega] at this
              exact this
          rw [e]
        · rw [if_neg (fun q => c ((nI_eq (by omega) (by omega)).mp q).symm), cD_f (fun q => c q.1)]
          exact loop false
      have qR := qR.trans eR
      refine ⟨if bI (cD (N = L.length ∧ ∀ i, i < N → ∀ w, w < 4 → s2.2.1 (17 + 2 + w) i = s2.2.1 (25 + 2 + w) i)) = (0 : Int32) then -3 else -1, s2, τ1, ?_, ?_, scr s2 τ1 ks2 r2⟩
      · rw [qD, b2_s, if_pos (by decide), e3, b2_s, hlike, b1_s]
        split <;> rfl
      · rw [qR]
        split <;> rfl
  · refine ⟨-2, σ, τ, ?_, ?_, h⟩
    · unfold D8m_check
      rw [family_o f2.1 hF hf0, bq_n]
    · unfold Rm_check
      rw [if_pos ((isFam_0 f3.1 hF).mpr hf0)]

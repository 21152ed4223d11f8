/-! ===== rows, and where like ones are ===== -/
section HASH
variable {σ : DS} {b n : Nat}
theorem gi0 {ρ : Type} {k : Option ρ} : gi (0 : Int32) 4 k = k := gi_n (n := 0) (by decide) (by decide)
theorem gi1 {ρ : Type} {k : Option ρ} : gi (1 : Int32) 4 k = k := gi_n (n := 1) (by decide) (by decide)
theorem gi2 {ρ : Type} {k : Option ρ} : gi (2 : Int32) 4 k = k := gi_n (n := 2) (by decide) (by decide)
theorem gi3 {ρ : Type} {k : Option ρ} : gi (3 : Int32) 4 k = k := gi_n (n := 3) (by decide) (by decide)
theorem tc0 : (0 : Int32).toNatClampNeg = 0 := Eq.trans rfl rfl
theorem tc1 : (1 : Int32).toNatClampNeg = 1 := Eq.trans rfl rfl
theorem tc2 : (2 : Int32).toNatClampNeg = 2 := Eq.trans rfl rfl
theorem tc3 : (3 : Int32).toNatClampNeg = 3 := Eq.trans rfl rfl
/-- the latest one before n with mark m -/
def PRV (M : Nat → Int32) (n : Nat) (m v : Int32) : Prop := (v = -1 ∧ ∀ i, i < n → M i ≠ m) ∨ ∃ i, i < n ∧ v = nI i ∧ M i = m ∧ ∀ j, i < j → j < n → M j ≠ m
def mkR (σ : DS) (b i : Nat) : Int32 := D3m_mark (σ.2.1 (b + 2 + 0) i) (σ.2.1 (b + 2 + 1) i) (σ.2.1 (b + 2 + 2) i)
def HT (σ : DS) (b n : Nat) : Prop := σ.1 b 0 = nI n ∧ (∀ h, h < 256 → PRV (mkR σ b) n (nI h) (σ.2.1 (b + 6) h)) ∧ ∀ i, i < n → PRV (mkR σ b) i (mkR σ b i) (σ.2.1 (b + 7) i)
def isR (σ : DS) (b i : Nat) (x y z : Int32) : Prop := σ.2.1 (b + 2 + 0) i = x ∧ σ.2.1 (b + 2 + 1) i = y ∧ σ.2.1 (b + 2 + 2) i = z
theorem mark_n (x y z : Int32) : ∃ h, h < 256 ∧ D3m_mark x y z = nI h := by
  unfold D3m_mark
  rw [nm_s]
  exact pk_andE _ (m := 255) 8 (by decide)
theorem isCell_n {b n : Nat} {σ : DS} (hn : n ≤ 768) (h : σ.1 b 0 = nI n) {x : Int32} {w : Nat} (hw : w < 4) : D3m_isCell b σ x (nI w) = 0 ↔ ¬ (0 ≤ x.toInt ∧ x.toInt < n) := by
  unfold D3m_isCell
  rw [h]
  simp only [fa_lt, fa_le, t0, i32_768, i32_4]
  rw [it_nI (by omega), it_nI (by omega)]
  repeat' split
  all_goals first | exact ⟨fun _ => by omega, fun _ => rfl⟩ | exact ⟨fun h => absurd h (by decide), fun h => by omega⟩
theorem find_n (hn : n ≤ 767) (h : HT σ b n) (x y z : Int32) : (∃ i, i < n ∧ isR σ b i x y z ∧ D3m_find b σ x y z = some (nI i)) ∨ ((∀ i, i < n → ¬ isR σ b i x y z) ∧ D3m_find b σ x y z = some (-1)) := by
  obtain ⟨h0, h1, h2⟩ := h
  obtain ⟨m, hm, em⟩ := mark_n x y z
  have mr : ∀ i, isR σ b i x y z → mkR σ b i = nI m := fun i hi => by
    unfold mkR
    rw [hi.1, hi.2.1, hi.2.2, em]
  have lp : ∀ (d k : Nat) (v : Int32) (s : Nat), k < d → k ≤ n → s + k ≤ n → PRV (mkR σ b) k (nI m) v → (∃ i, i < k ∧ isR σ b i x y z ∧ it2 (D3s_find_16 b x y z σ (fun u_17 => some u_17) (some (-1 : Int32))) d v (nI s) = some (nI i)) ∨ ((∀ i, i < k → ¬ isR σ b i x y z) ∧ it2 (D3s_find_16 b x y z σ (fun u_17 => some u_17) (some (-1 : Int32))) d v (nI s) = some (-1)) := by
    intro d
    induction d with
    | zero => intro k v s hk; omega
    | succ d ih =>
      intro k v s hk hkn hs hp
      have h768 : ¬ (768 : Int32) ≤ nI s := nI_ge (b := 768) (by omega) (by decide)
      rcases hp with ⟨rfl, hp⟩ | ⟨i, hi, rfl, hp, hq⟩
      · refine Or.inr ⟨fun i hi hr => hp i hi (mr i hr), ?_⟩
        show D3s_find_16 b x y z σ _ _ (it2 _ d) _ _ = _
        unfold D3s_find_16
        rw [if_neg h768, if_pos (show D3m_isCell b σ (-1) (0 : Int32) = 0 from (isCell_n (x := -1) (w := 0) (by omega) h0 (by omega)).mpr (by rw [i32_m1]; omega))]
      · have step : ∀ rc : Int32 → Int32 → Option Int32, D3s_find_16 b x y z σ (fun u_17 => some u_17) (some (-1 : Int32)) rc (nI i) (nI s) = if σ.2.1 (b + 2 + 0) i = x then (if σ.2.1 (b + 2 + 1) i = y then (if σ.2.1 (b + 2 + 2) i = z then some (nI i) else rc (σ.2.1 (b + 7) i) (nI (s + 1))) else rc (σ.2.1 (b + 7) i) (nI (s + 1))) else rc (σ.2.1 (b + 7) i) (nI (s + 1)) := fun rc => by
          unfold D3s_find_16
          have e : ∀ {ρ : Type} {k : Option ρ}, gi (nI i) 768 k = k := fun {ρ} {k} => gi_n (by omega) (by decide)
          rw [if_neg h768, if_neg (show ¬ D3m_isCell b σ (nI i) (0 : Int32) = 0 from fun q => (isCell_n (x := nI i) (w := 0) (by omega) h0 (by omega)).mp q (by rw [it_nI (by omega)]; omega))]
          simp only [gi0, gi1, gi2, tc0, tc1, tc2, e, tn _ (show i < 2 ^ 31 by omega), pl1]
        have step := step (it2 (D3s_find_16 b x y z σ (fun u_17 => some u_17) (some (-1 : Int32))) d)
        have un : it2 (D3s_find_16 b x y z σ (fun u_17 => some u_17) (some (-1 : Int32))) (d + 1) (nI i) (nI s) = D3s_find_16 b x y z σ (fun u_17 => some u_17) (some (-1 : Int32)) (it2 (D3s_find_16 b x y z σ (fun u_17 => some u_17) (some (-1 : Int32))) d) (nI i) (nI s) := rfl
        rw [un, step]
        by_cases c : isR σ b i x y z
        · exact Or.inl ⟨i, hi, c, by rw [if_pos c.1, if_pos c.2.1, if_pos c.2.2]⟩
        · have e : (if σ.2.1 (b + 2 + 0) i = x then (if σ.2.1 (b + 2 + 1) i = y then (if σ.2.1 (b + 2 + 2) i = z then some (nI i) else it2 (D3s_find_16 b x y z σ (fun u_17 => some u_17) (some (-1 : Int32))) d (σ.2.1 (b + 7) i) (nI (s + 1))) else it2 (D3s_find_16 b x y z σ (fun u_17 => some u_17) (some (-1 : Int32))) d (σ.2.1 (b + 7) i) (nI (s + 1))) else it2 (D3s_find_16 b x y z σ (fun u_17 => some u_17) (some (-1 : Int32))) d (σ.2.1 (b + 7) i) (nI (s + 1))) = it2 (D3s_find_16 b x y z σ (fun u_17 => some u_17) (some (-1 : Int32))) d (σ.2.1 (b + 7) i) (nI (s + 1)) := by
            by_cases c1 : σ.2.1 (b + 2 + 0) i = x
            · by_cases c2 : σ.2.1 (b + 2 + 1) i = y
              · rw [if_pos c1, if_pos c2, if_neg (fun c3 => c ⟨c1, c2, c3⟩)]
              · rw [if_pos c1, if_neg c2]
            · rw [if_neg c1]
          rw [e]
          have hb := h2 i (by omega)
          rw [hp] at hb
          rcases ih i _ (s + 1) (by omega) (by omega) (by omega) hb with ⟨j, j1, j2, j3⟩ | ⟨j1, j2⟩
          · exact Or.inl ⟨j, by omega, j2, j3⟩
          · refine Or.inr ⟨fun j hj hr => ?_, j2⟩
            rcases Nat.lt_trichotomy j i with q | q | q
            · exact j1 j q hr
            · rw [q] at hr; exact c hr
            · exact hq j q hj (mr j hr)
  have hf : D3m_find b σ x y z = it2 (D3s_find_16 b x y z σ (fun u_17 => some u_17) (some (-1 : Int32))) fuel (σ.2.1 (b + 6) m) (0 : Int32) := by
    unfold D3m_find
    rw [em, gi_n hm (by decide), nm_s, tn _ (by omega)]
  rw [hf]
  exact lp fuel n _ 0 (by unfold fuel; omega) (Nat.le_refl _) (by omega) (h1 m hm)
theorem countOf_cong {σ' : DS} (h1 : σ'.1 b 0 = σ.1 b 0) (h2 : σ'.2.1 (b + 2 + 3) = σ.2.1 (b + 2 + 3)) (x : Int32) : D3m_countOf b σ' x = D3m_countOf b σ x := by
  unfold D3m_countOf D3m_isCell
  simp only [tc3, h1, h2]
theorem add_n (hn : n ≤ 767) (h : HT σ b n) {x y z c1 c2 : Int32} (hc1 : D3m_countOf b σ y = some c1) (hc2 : D3m_countOf b σ z = some c2) : ∃ σ', D3m_add b σ x y z = some (nI n, σ') ∧ dK_ (fun c => b ≤ c ∧ c ≤ b + 7) σ σ' ∧ HT σ' b (n + 1) ∧ isR σ' b n x y z ∧ σ'.2.1 (b + 2 + 3) n = c1 + c2 ∧ ∀ w, w < 4 → ∀ i, i ≠ n → σ'.2.1 (b + 2 + w) i = σ.2.1 (b + 2 + w) i := by
  obtain ⟨h0, h1, h2⟩ := h
  obtain ⟨m, hm, em⟩ := mark_n x y z
  obtain ⟨A4, hA4⟩ : ∃ A4, A4 = dA (dA (dA (dA σ (b + 2 + 0) n x) (b + 2 + 1) n y) (b + 2 + 2) n z) (b + 2 + 3) n (c1 + c2) := ⟨_, rfl⟩
  have a6 : A4.2.1 (b + 6) = σ.2.1 (b + 6) := by rw [hA4, dA_1 (by omega), dA_1 (by omega), dA_1 (by omega), dA_1 (by omega)]
  have a7 : A4.2.1 (b + 7) = σ.2.1 (b + 7) := by rw [hA4, dA_1 (by omega), dA_1 (by omega), dA_1 (by omega), dA_1 (by omega)]
  obtain ⟨σ', hσ⟩ : ∃ σ', σ' = dS (dA (dA A4 (b + 7) n (A4.2.1 (b + 6) m)) (b + 6) m (nI n)) b 0 (nI (n + 1)) := ⟨_, rfl⟩
  have s0 : ∀ i, σ'.2.1 (b + 2 + 0) i = if i = n then x else σ.2.1 (b + 2 + 0) i := fun i => by
    rw [hσ, dS_p2, dA_1 (by omega), dA_1 (by omega), hA4, dA_1 (by omega), dA_1 (by omega), dA_1 (by omega)]
    by_cases e : i = n
    · rw [if_pos e, e, dA_s]
    · rw [if_neg e, dA_n e]
  have s1 : ∀ i, σ'.2.1 (b + 2 + 1) i = if i = n then y else σ.2.1 (b + 2 + 1) i := fun i => by
    rw [hσ, dS_p2, dA_1 (by omega), dA_1 (by omega), hA4, dA_1 (by omega), dA_1 (by omega)]
    by_cases e : i = n
    · rw [if_pos e, e, dA_s]
    · rw [if_neg e, dA_n e, dA_1 (by omega)]
  have s2 : ∀ i, σ'.2.1 (b + 2 + 2) i = if i = n then z else σ.2.1 (b + 2 + 2) i := fun i => by
    rw [hσ, dS_p2, dA_1 (by omega), dA_1 (by omega), hA4, dA_1 (by omega)]
    by_cases e : i = n
    · rw [if_pos e, e, dA_s]
    · rw [if_neg e, dA_n e, dA_1 (by omega), dA_1 (by omega)]
  have s3 : ∀ i, σ'.2.1 (b + 2 + 3) i = if i = n then c1 + c2 else σ.2.1 (b + 2 + 3) i := fun i => by
    rw [hσ, dS_p2, dA_1 (by omega), dA_1 (by omega), hA4]
    by_cases e : i = n
    · rw [if_pos e, e, dA_s]
    · rw [if_neg e, dA_n e, dA_1 (by omega), dA_1 (by omega), dA_1 (by omega)]
  have s6 : ∀ i, σ'.2.1 (b + 6) i = if i = m then nI n else σ.2.1 (b + 6) i := fun i => by
    rw [hσ, dS_p2]
    by_cases e : i = m
    · rw [if_pos e, e, dA_s]
    · rw [if_neg e, dA_n e, dA_1 (by omega), a6]
  have s7 : ∀ i, σ'.2.1 (b + 7) i = if i = n then σ.2.1 (b + 6) m else σ.2.1 (b + 7) i := fun i => by
    rw [hσ, dS_p2, dA_1 (by omega)]
    by_cases e : i = n
    · rw [if_pos e, e, dA_s, a6]
    · rw [if_neg e, dA_n e, a7]
  have mk : ∀ i, i < n → mkR σ' b i = mkR σ b i := fun i hi => by
    unfold mkR
    rw [s0, s1, s2, if_neg (by omega), if_neg (by omega), if_neg (by omega)]
  have mkn : mkR σ' b n = nI m := by
    unfold mkR
    rw [s0, s1, s2, if_pos rfl, if_pos rfl, if_pos rfl, em]
  have pc : ∀ k, k ≤ n → ∀ q v, PRV (mkR σ b) k q v → PRV (mkR σ' b) k q v := fun k hk q v hp => by
    rcases hp with ⟨p1, p2⟩ | ⟨i, p1, p2, p3, p4⟩
    · exact Or.inl ⟨p1, fun i hi => by rw [mk i (by omega)]; exact p2 i hi⟩
    · exact Or.inr ⟨i, p1, p2, by rw [mk i (by omega)]; exact p3, fun j j1 j2 => by rw [mk j (by omega)]; exact p4 j j1 j2⟩
  refine ⟨σ', ?_, ?_, ⟨by rw [hσ]; exact dS_s, fun q hq => ?_, fun i hi => ?_⟩, ⟨by rw [s0, if_pos rfl], by rw [s1, if_pos rfl], by rw [s2, if_pos rfl]⟩, by rw [s3, if_pos rfl], fun w hw i hi => ?_⟩
  · have e3 : ∀ q : Int32, D3m_countOf b (dA (dA (dA σ (b + 2 + 0) n x) (b + 2 + 1) n y) (b + 2 + 2) n z) q = D3m_countOf b σ q := fun q => by
      refine countOf_cong (b := b) (σ := σ) (σ' := dA (dA (dA σ (b + 2 + 0) n x) (b + 2 + 1) n y) (b + 2 + 2) n z) rfl ?_ q
      rw [dA_1 (by omega), dA_1 (by omega), dA_1 (by omega)]
    unfold D3m_add
    rw [h0, em, if_neg (nI_pos (by omega)), if_pos (show nI n < (768 : Int32) from nI_lt (b := 768) (by omega) (by decide))]
    simp only [gi0, gi1, gi2, gi3, tc0, tc1, tc2, tc3, tn _ (show n < 2 ^ 31 by omega), tn _ (show m < 2 ^ 31 by omega)]
    rw [gi_n (by omega) (by decide), nm_s, gi_n (by omega) (by decide), nm_s, gi_n (by omega) (by decide), nm_s, e3, hc1, b1_s, e3, hc2, b1_s, gi_n (by omega) (by decide), nm_s, gi_n hm (by decide), gi_n (by omega) (by decide), nm_s, gi_n hm (by decide), nm_s, nm_s, ← hA4, hσ]
    have e0 : (dA (dA A4 (b + 7) n (A4.2.1 (b + 6) m)) (b + 6) m (nI n)).1 b 0 = nI n := by rw [dA_p1, dA_p1, hA4, dA_p1, dA_p1, dA_p1, dA_p1, h0]
    rw [e0, pl1]
  · rw [hσ, hA4]
    exact ((((((dK_A ⟨by omega, by omega⟩).tr (dK_A ⟨by omega, by omega⟩)).tr (dK_A ⟨by omega, by omega⟩)).tr (dK_A ⟨by omega, by omega⟩)).tr (dK_A ⟨by omega, by omega⟩)).tr (dK_A ⟨by omega, by omega⟩)).tr (dK_S ⟨by omega, by omega⟩)
  · rw [s6]
    by_cases e : q = m
    · rw [if_pos e]
      exact Or.inr ⟨n, by omega, rfl, by rw [mkn, e], fun j j1 j2 => by omega⟩
    · rw [if_neg e]
      rcases pc n (Nat.le_refl _) _ _ (h1 q hq) with ⟨p1, p2⟩ | ⟨i, p1, p2, p3, p4⟩
      · refine Or.inl ⟨p1, fun i hi => ?_⟩
        by_cases e2 : i = n
        · rw [e2, mkn]; exact fun q2 => e ((nI_eq (by omega) (by omega)).mp q2).symm
        · exact p2 i (by omega)
      · refine Or.inr ⟨i, by omega, p2, p3, fun j j1 j2 => ?_⟩
        by_cases e2 : j = n
        · rw [e2, mkn]; exact fun q2 => e ((nI_eq (by omega) (by omega)).mp q2).symm
        · exact p4 j j1 (by omega)
  · rw [s7]
    by_cases e : i = n
    · subst e
      rw [if_pos rfl, mkn]
      exact pc i (Nat.le_refl _) _ _ (h1 m hm)
    · rw [if_neg e, mk i (by omega)]
      exact pc i (by omega) _ _ (h2 i (by omega))
  · rcases (show w = 0 ∨ w = 1 ∨ w = 2 ∨ w = 3 by omega) with rfl | rfl | rfl | rfl
    · rw [s0, if_neg hi]
    · rw [s1, if_neg hi]
    · rw [s2, if_neg hi]
    · rw [s3, if_neg hi]
theorem clear_n : ∃ σ', D3m_clear b σ = some σ' ∧ dK_ (fun c => c = b ∨ c = b + 6) σ σ' ∧ HT σ' b 0 := by
  refine ⟨dFill (dS σ b 0 0) (b + 6) 0 256 (fun _ => -1), ?_, (dK_S (Or.inl rfl)).tr (dK_F (Or.inr rfl)), dS_s, fun h hh => ?_, fun i hi => absurd hi (Nat.not_lt_zero i)⟩
  · unfold D3m_clear
    rw [nm_s, fillI (by omega), b1_s]
  · rw [dFill_in (by omega)]
    exact Or.inl ⟨rfl, fun i hi => absurd hi (Nat.not_lt_zero i)⟩
end HASH

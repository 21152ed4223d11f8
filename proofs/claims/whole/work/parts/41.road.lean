/-! ===== road ===== -/
def jn (R : Nat) (eA eB : Nat → Nat) (lo hi : Nat) : Prop := ∃ r, r < R ∧ eA r = lo ∧ eB r = hi
theorem areJ {σ : DS} {P R : Nat} {ld eA eB od : Nat → Nat} {wt : Nat → Int32} (n1 : NW P R ld eA eB od wt) (n2 : CN σ P R ld eA eB od wt) {a b : Nat} (ha : a < P) (hb : b < P) :
    (jn R eA eB (min a b) (max a b) → D2m_areJoined σ (nI a) (nI b) = some 1) ∧ (¬ jn R eA eB (min a b) (max a b) → D2m_areJoined σ (nI a) (nI b) = some 0) := by
  have hP := n1.1
  have hR := n1.2.1
  have e1 : (if nI b < nI a then nI b else nI a) = nI (min a b) := by
    by_cases c : b < a
    · rw [if_pos (nI_lt c (by omega)), Nat.min_eq_right (by omega)]
    · rw [if_neg (nI_nlt (by omega) (by omega)), Nat.min_eq_left (by omega)]
  have e2 : (if nI a < nI b then nI b else nI a) = nI (max a b) := by
    by_cases c : a < b
    · rw [if_pos (nI_lt c (by omega)), Nat.max_eq_right (by omega)]
    · rw [if_neg (nI_nlt (by omega) (by omega)), Nat.max_eq_left (by omega)]
  have key := it1_ind (f := D2s_areJoined_2 (nI a) (nI b) σ (some (1 : Int32)) (some (0 : Int32))) (P := fun k v => ∃ j, j + k = R ∧ v = nI j ∧ ∀ r, r < j → ¬ (eA r = min a b ∧ eB r = max a b)) (Q := fun o => (jn R eA eB (min a b) (max a b) → o = some 1) ∧ (¬ jn R eA eB (min a b) (max a b) → o = some 0)) (fun k v rc hp ih => by
    obtain ⟨j, hj, rfl, hno⟩ := hp
    unfold D2s_areJoined_2
    rw [n2.2.1, e1, e2]
    by_cases c : R ≤ j
    · ((try simp only [in_0]); simp (disch := omega) only [fa_lt, fa_le, fa_eq, it_nI, t0, i32_99, i32_8, i32_1, i32_2, i32_3, i32_4, i32_5, i32_6, i32_7, i32_11, i32_12, i32_13, i32_20, i32_30, i32_40, i32_50, i32_m50, i32_m1, i32_m2, i32_64, i32_256, i32_768, i32_4096, i32_600, i32_m600, i32_1000, i32_1201, if_pos, if_neg, reduceIte, b1_s, b2_s, nm_s, gi_n, tn, pl1, mi1, sub1, ml2, ml4, ml40, ml4096, ad, pl2, sub2, sub3, sub4, dA_p1, dA_p3, dS_p2, dS_p3, dJ_p1, dJ_p2, rA_p1, rS_p2])
      refine ⟨fun h => ?_, fun _ => trivial⟩
      obtain ⟨r, h1, h2⟩ := h
      exact absurd h2 (hno r (by omega))
    · obtain ⟨x1, x2, x3, x4⟩ := n2.2.2.2 j (by omega)
      have hq := n1.2.2.2.1 j (by omega)
      have hm : min a b < 8 := by omega
      have hM : max a b < 8 := by omega
      ((try simp only [in_0]); simp (disch := omega) only [x1, x2, fa_lt, fa_le, fa_eq, it_nI, t0, i32_99, i32_8, i32_1, i32_2, i32_3, i32_4, i32_5, i32_6, i32_7, i32_11, i32_12, i32_13, i32_20, i32_30, i32_40, i32_50, i32_m50, i32_m1, i32_m2, i32_64, i32_256, i32_768, i32_4096, i32_600, i32_m600, i32_1000, i32_1201, if_pos, if_neg, reduceIte, b1_s, b2_s, nm_s, gi_n, tn, pl1, mi1, sub1, ml2, ml4, ml40, ml4096, ad, pl2, sub2, sub3, sub4, dA_p1, dA_p3, dS_p2, dS_p3, dJ_p1, dJ_p2, rA_p1, rS_p2])
      by_cases d : eA j = min a b
      · by_cases d2 : eB j = max a b
        · rw [if_pos (by omega), if_pos (by omega)]
          exact ⟨fun _ => rfl, fun h => absurd ⟨j, by omega, d, d2⟩ h⟩
        · rw [if_pos (by omega), if_neg (by omega)]
          exact ih (k - 1) _ (by omega) ⟨j + 1, by omega, rfl, fun r hr => by
            by_cases e : r = j
            · subst e; exact fun q => d2 q.2
            · exact hno r (by omega)⟩
      · rw [if_neg (by omega)]
        exact ih (k - 1) _ (by omega) ⟨j + 1, by omega, rfl, fun r hr => by
            by_cases e : r = j
            · subst e; exact fun q => d q.1
            · exact hno r (by omega)⟩) fuel R (nI 0) (by unfold fuel; omega) ⟨0, by omega, rfl, fun r hr => by omega⟩
  exact key
theorem roadJ {ρ : Type} {τ : RS} {P R : Nat} {ld eA eB od : Nat → Nat} {wt : Nat → Int32} (n1 : NW P R ld eA eB od wt) (n3 : RN τ P R ld eA eB od wt) {lo hi : Nat} (hl : lo < P) (hh : hi < P) (p3 : Int32) (k1 k2 : Option ρ) :
    (jn R eA eB lo hi → it1 (Rs_road_74 p3 (nI lo) (nI hi) τ k1 k2) fuel (0 : Int32) = k1) ∧ (¬ jn R eA eB lo hi → it1 (Rs_road_74 p3 (nI lo) (nI hi) τ k1 k2) fuel (0 : Int32) = k2) := by
  have hP := n1.1
  have hR := n1.2.1
  have key := it1_ind (f := Rs_road_74 p3 (nI lo) (nI hi) τ k1 k2) (P := fun k v => ∃ j, j + k = R ∧ v = nI j ∧ ∀ r, r < j → ¬ (eA r = lo ∧ eB r = hi)) (Q := fun o => (jn R eA eB lo hi → o = k1) ∧ (¬ jn R eA eB lo hi → o = k2)) (fun k v rc hp ih => by
    obtain ⟨j, hj, rfl, hno⟩ := hp
    unfold Rs_road_74
    rw [n3.2.1]
    by_cases c : R ≤ j
    · ((try simp only [in_0]); simp (disch := omega) only [fa_lt, fa_le, fa_eq, it_nI, t0, i32_99, i32_8, i32_1, i32_2, i32_3, i32_4, i32_5, i32_6, i32_7, i32_11, i32_12, i32_13, i32_20, i32_30, i32_40, i32_50, i32_m50, i32_m1, i32_m2, i32_64, i32_256, i32_768, i32_4096, i32_600, i32_m600, i32_1000, i32_1201, if_pos, if_neg, reduceIte, b1_s, b2_s, nm_s, gi_n, tn, pl1, mi1, sub1, ml2, ml4, ml40, ml4096, ad, pl2, sub2, sub3, sub4, dA_p1, dA_p3, dS_p2, dS_p3, dJ_p1, dJ_p2, rA_p1, rS_p2])
      refine ⟨fun h => ?_, fun _ => trivial⟩
      obtain ⟨r, h1, h2⟩ := h
      exact absurd h2 (hno r (by omega))
    · obtain ⟨x1, x2, x3, x4⟩ := n3.2.2.2 j (by omega)
      have hq := n1.2.2.2.1 j (by omega)
      ((try simp only [in_0]); simp (disch := omega) only [x1, x2, fa_lt, fa_le, fa_eq, it_nI, t0, i32_99, i32_8, i32_1, i32_2, i32_3, i32_4, i32_5, i32_6, i32_7, i32_11, i32_12, i32_13, i32_20, i32_30, i32_40, i32_50, i32_m50, i32_m1, i32_m2, i32_64, i32_256, i32_768, i32_4096, i32_600, i32_m600, i32_1000, i32_1201, if_pos, if_neg, reduceIte, b1_s, b2_s, nm_s, gi_n, tn, pl1, mi1, sub1, ml2, ml4, ml40, ml4096, ad, pl2, sub2, sub3, sub4, dA_p1, dA_p3, dS_p2, dS_p3, dJ_p1, dJ_p2, rA_p1, rS_p2])
      by_cases d : eA j = lo
      · by_cases d2 : eB j = hi
        · rw [if_pos (by omega), if_pos (by omega)]
          exact ⟨fun _ => rfl, fun h => absurd ⟨j, by omega, d, d2⟩ h⟩
        · rw [if_pos (by omega), if_neg (by omega)]
          exact ih (k - 1) _ (by omega) ⟨j + 1, by omega, rfl, fun r hr => by
            by_cases e : r = j
            · subst e; exact fun q => d2 q.2
            · exact hno r (by omega)⟩
      · rw [if_neg (by omega)]
        exact ih (k - 1) _ (by omega) ⟨j + 1, by omega, rfl, fun r hr => by
            by_cases e : r = j
            · subst e; exact fun q => d q.1
            · exact hno r (by omega)⟩) fuel R (nI 0) (by unfold fuel; omega) ⟨0, by omega, rfl, fun r hr => by omega⟩
  exact key
theorem st_road : ST_road INV := by
  intro σ τ h a1 a2 a3
  have h0 := h
  obtain ⟨⟨P, R, ld, eA, eB, od, wt, n1, n2, n3⟩, -⟩ := h
  have hP := n1.1
  have hR := n1.2.1
  by_cases hr : ((0 ≤ a1.toInt ∧ a1.toInt < P) ∧ (0 ≤ a2.toInt ∧ a2.toInt < P)) ∧ a1.toInt ≠ a2.toInt ∧ (-50 ≤ a3.toInt ∧ a3.toInt ≤ 50)
  · obtain ⟨a, ha, rfl⟩ := of_range (by omega) hr.1.1.1 hr.1.1.2
    obtain ⟨b, hb, rfl⟩ := of_range (by omega) hr.1.2.1 hr.1.2.2
    have hne : a ≠ b := by
      have := hr.2.1
      rw [it_nI (by omega), it_nI (by omega)] at this
      omega
    have hw := hr.2.2
    obtain ⟨lo, hlo⟩ : ∃ x, x = min a b := ⟨_, rfl⟩
    obtain ⟨hi, hhi⟩ : ∃ x, x = max a b := ⟨_, rfl⟩
    have hlP : lo < P := by omega
    have hhP : hi < P := by omega
    have hlh : lo < hi := by omega
    have J := areJ n1 n2 ha hb
    have e1 : (if nI b < nI a then nI b else nI a) = nI lo := by
      by_cases c : b < a
      · rw [if_pos (nI_lt c (by omega)), hlo, Nat.min_eq_right (by omega)]
      · rw [if_neg (nI_nlt (by omega) (by omega)), hlo, Nat.min_eq_left (by omega)]
    have e2 : (if nI a < nI b then nI b else nI a) = nI hi := by
      by_cases c : a < b
      · rw [if_pos (nI_lt c (by omega)), hhi, Nat.max_eq_right (by omega)]
      · rw [if_neg (nI_nlt (by omega) (by omega)), hhi, Nat.max_eq_left (by omega)]
    rw [← hlo, ← hhi] at J
    have JR : ∀ (k1 k2 : Option (Int32 × RS)), _ := fun k1 k2 => roadJ (ρ := Int32 × RS) n1 n3 hlP hhP a3 k1 k2
    by_cases hj : jn R eA eB lo hi
    · refine ⟨-3, σ, τ, ?_, ?_, h0⟩
      · ((try simp only [D8m_road, isPost_0 n1 n2, in_0]); simp (disch := omega) only [J.1 hj, fa_lt, fa_le, fa_eq, it_nI, t0, i32_99, i32_8, i32_1, i32_2, i32_3, i32_4, i32_5, i32_6, i32_7, i32_11, i32_12, i32_13, i32_20, i32_30, i32_40, i32_50, i32_m50, i32_m1, i32_m2, i32_64, i32_256, i32_768, i32_4096, i32_600, i32_m600, i32_1000, i32_1201, if_pos, if_neg, reduceIte, b1_s, b2_s, nm_s, gi_n, tn, pl1, mi1, sub1, ml2, ml4, ml40, ml4096, ad, pl2, sub2, sub3, sub4, dA_p1, dA_p3, dS_p2, dS_p3, dJ_p1, dJ_p2, rA_p1, rS_p2])
      · simp only [Rm_road, in_0, n3.1]
        by_cases c : b < a
        · rw [show b = lo by omega, show a = hi by omega]
          ((try simp only [in_0]); simp (disch := omega) only [(JR _ _).1 hj, fa_lt, fa_le, fa_eq, it_nI, t0, i32_99, i32_8, i32_1, i32_2, i32_3, i32_4, i32_5, i32_6, i32_7, i32_11, i32_12, i32_13, i32_20, i32_30, i32_40, i32_50, i32_m50, i32_m1, i32_m2, i32_64, i32_256, i32_768, i32_4096, i32_600, i32_m600, i32_1000, i32_1201, if_pos, if_neg, reduceIte, b1_s, b2_s, nm_s, gi_n, tn, pl1, mi1, sub1, ml2, ml4, ml40, ml4096, ad, pl2, sub2, sub3, sub4, dA_p1, dA_p3, dS_p2, dS_p3, dJ_p1, dJ_p2, rA_p1, rS_p2])
        · rw [show b = hi by omega, show a = lo by omega]
          ((try simp only [in_0]); simp (disch := omega) only [(JR _ _).1 hj, fa_lt, fa_le, fa_eq, it_nI, t0, i32_99, i32_8, i32_1, i32_2, i32_3, i32_4, i32_5, i32_6, i32_7, i32_11, i32_12, i32_13, i32_20, i32_30, i32_40, i32_50, i32_m50, i32_m1, i32_m2, i32_64, i32_256, i32_768, i32_4096, i32_600, i32_m600, i32_1000, i32_1201, if_pos, if_neg, reduceIte, b1_s, b2_s, nm_s, gi_n, tn, pl1, mi1, sub1, ml2, ml4, ml40, ml4096, ad, pl2, sub2, sub3, sub4, dA_p1, dA_p3, dS_p2, dS_p3, dJ_p1, dJ_p2, rA_p1, rS_p2])
    · by_cases h12 : R = 12
      · refine ⟨-4, σ, τ, ?_, ?_, h0⟩
        · ((try simp only [D8m_road, isPost_0 n1 n2, D2m_addRoad, n2.2.1, in_0]); simp (disch := omega) only [J.2 hj, fa_lt, fa_le, fa_eq, it_nI, t0, i32_99, i32_8, i32_1, i32_2, i32_3, i32_4, i32_5, i32_6, i32_7, i32_11, i32_12, i32_13, i32_20, i32_30, i32_40, i32_50, i32_m50, i32_m1, i32_m2, i32_64, i32_256, i32_768, i32_4096, i32_600, i32_m600, i32_1000, i32_1201, if_pos, if_neg, reduceIte, b1_s, b2_s, nm_s, gi_n, tn, pl1, mi1, sub1, ml2, ml4, ml40, ml4096, ad, pl2, sub2, sub3, sub4, dA_p1, dA_p3, dS_p2, dS_p3, dJ_p1, dJ_p2, rA_p1, rS_p2])
        · simp only [Rm_road, in_0, n3.1]
          by_cases c : b < a
          · rw [show b = lo by omega, show a = hi by omega]
            ((try simp only [in_0]); simp (disch := omega) only [(JR _ _).2 hj, n3.2.1, fa_lt, fa_le, fa_eq, it_nI, t0, i32_99, i32_8, i32_1, i32_2, i32_3, i32_4, i32_5, i32_6, i32_7, i32_11, i32_12, i32_13, i32_20, i32_30, i32_40, i32_50, i32_m50, i32_m1, i32_m2, i32_64, i32_256, i32_768, i32_4096, i32_600, i32_m600, i32_1000, i32_1201, if_pos, if_neg, reduceIte, b1_s, b2_s, nm_s, gi_n, tn, pl1, mi1, sub1, ml2, ml4, ml40, ml4096, ad, pl2, sub2, sub3, sub4, dA_p1, dA_p3, dS_p2, dS_p3, dJ_p1, dJ_p2, rA_p1, rS_p2])
          · rw [show b = hi by omega, show a = lo by omega]
            ((try simp only [in_0]); simp (disch := omega) only [(JR _ _).2 hj, n3.2.1, fa_lt, fa_le, fa_eq, it_nI, t0, i32_99, i32_8, i32_1, i32_2, i32_3, i32_4, i32_5, i32_6, i32_7, i32_11, i32_12, i32_13, i32_20, i32_30, i32_40, i32_50, i32_m50, i32_m1, i32_m2, i32_64, i32_256, i32_768, i32_4096, i32_600, i32_m600, i32_1000, i32_1201, if_pos, if_neg, reduceIte, b1_s, b2_s, nm_s, gi_n, tn, pl1, mi1, sub1, ml2, ml4, ml40, ml4096, ad, pl2, sub2, sub3, sub4, dA_p1, dA_p3, dS_p2, dS_p3, dJ_p1, dJ_p2, rA_p1, rS_p2])
      · refine ⟨nI R, dS (dA (dA (dA (dA σ 3 R (nI lo)) 4 R (nI hi)) 5 R a3) 6 R 4) 1 1 (nI (R + 1)), rS (rA (rA (rA (rA τ 3 (2 * R) (nI lo)) 3 (2 * R + 1) (nI hi)) 4 R a3) 5 R 4) 2 (nI (R + 1)), ?_, ?_, h0.net (P := P) (R := R + 1) (ld := ld) (eA := fun x => if x = R then lo else eA x) (eB := fun x => if x = R then hi else eB x) (od := fun x => if x = R then 4 else od x) (wt := fun x => if x = R then a3 else wt x) ((dK_A (by decide)).tr ((dK_A (by decide)).tr ((dK_A (by decide)).tr ((dK_A (by decide)).tr (dK_S (by decide)))))) ((rK_A (by decide)).tr ((rK_A (by decide)).tr ((rK_A (by decide)).tr ((rK_A (by decide)).tr (rK_S (by decide)))))) ⟨n1.1, by omega, n1.2.2.1, fun r hr1 => ?_, fun r s h1 h2 => ?_⟩ ⟨?_, dS_s, n2.2.2.1, fun r hr1 => ?_⟩ ⟨n3.1, rS_s, n3.2.2.1, fun r hr1 => ?_⟩⟩
        · ((try simp only [D8m_road, isPost_0 n1 n2, in_0]); simp (disch := omega) only [J.2 hj, fa_lt, fa_le, fa_eq, it_nI, t0, i32_99, i32_8, i32_1, i32_2, i32_3, i32_4, i32_5, i32_6, i32_7, i32_11, i32_12, i32_13, i32_20, i32_30, i32_40, i32_50, i32_m50, i32_m1, i32_m2, i32_64, i32_256, i32_768, i32_4096, i32_600, i32_m600, i32_1000, i32_1201, if_pos, if_neg, reduceIte, b1_s, b2_s, nm_s, gi_n, tn, pl1, mi1, sub1, ml2, ml4, ml40, ml4096, ad, pl2, sub2, sub3, sub4, dA_p1, dA_p3, dS_p2, dS_p3, dJ_p1, dJ_p2, rA_p1, rS_p2])
          rw [D2m_addRoad, e1, e2]
          ((try simp only [in_0]); simp (disch := omega) only [n2.2.1, dS_s, fa_lt, fa_le, fa_eq, it_nI, t0, i32_99, i32_8, i32_1, i32_2, i32_3, i32_4, i32_5, i32_6, i32_7, i32_11, i32_12, i32_13, i32_20, i32_30, i32_40, i32_50, i32_m50, i32_m1, i32_m2, i32_64, i32_256, i32_768, i32_4096, i32_600, i32_m600, i32_1000, i32_1201, if_pos, if_neg, reduceIte, b1_s, b2_s, nm_s, gi_n, tn, pl1, mi1, sub1, ml2, ml4, ml40, ml4096, ad, pl2, sub2, sub3, sub4, dA_p1, dA_p3, dS_p2, dS_p3, dJ_p1, dJ_p2, rA_p1, rS_p2])
        · simp only [Rm_road, in_0, n3.1]
          by_cases c : b < a
          · rw [show b = lo by omega, show a = hi by omega]
            ((try simp only [in_0]); simp (disch := omega) only [(JR _ _).2 hj, n3.2.1, rS_s, fa_lt, fa_le, fa_eq, it_nI, t0, i32_99, i32_8, i32_1, i32_2, i32_3, i32_4, i32_5, i32_6, i32_7, i32_11, i32_12, i32_13, i32_20, i32_30, i32_40, i32_50, i32_m50, i32_m1, i32_m2, i32_64, i32_256, i32_768, i32_4096, i32_600, i32_m600, i32_1000, i32_1201, if_pos, if_neg, reduceIte, b1_s, b2_s, nm_s, gi_n, tn, pl1, mi1, sub1, ml2, ml4, ml40, ml4096, ad, pl2, sub2, sub3, sub4, dA_p1, dA_p3, dS_p2, dS_p3, dJ_p1, dJ_p2, rA_p1, rS_p2])
          · rw [show b = hi by omega, show a = lo by omega]
            ((try simp only [in_0]); simp (disch := omega) only [(JR _ _).2 hj, n3.2.1, rS_s, fa_lt, fa_le, fa_eq, it_nI, t0, i32_99, i32_8, i32_1, i32_2, i32_3, i32_4, i32_5, i32_6, i32_7, i32_11, i32_12, i32_13, i32_20, i32_30, i32_40, i32_50, i32_m50, i32_m1, i32_m2, i32_64, i32_256, i32_768, i32_4096, i32_600, i32_m600, i32_1000, i32_1201, if_pos, if_neg, reduceIte, b1_s, b2_s, nm_s, gi_n, tn, pl1, mi1, sub1, ml2, ml4, ml40, ml4096, ad, pl2, sub2, sub3, sub4, dA_p1, dA_p3, dS_p2, dS_p3, dJ_p1, dJ_p2, rA_p1, rS_p2])
        · dsimp only
          by_cases e : r = R
          · rw [if_pos e, if_pos e, if_pos e, if_pos e]; exact ⟨hlh, hhP, by decide, hw⟩
          · rw [if_neg e, if_neg e, if_neg e, if_neg e]; exact n1.2.2.2.1 r (by omega)
        · dsimp only
          by_cases e : r = R
          · by_cases e' : s = R
            · intros; omega
            · rw [if_pos e, if_neg e', if_pos e, if_neg e']
              exact fun q1 q2 => absurd ⟨s, by omega, q1.symm, q2.symm⟩ hj
          · by_cases e' : s = R
            · rw [if_neg e, if_pos e', if_neg e, if_pos e']
              exact fun q1 q2 => absurd ⟨r, by omega, q1, q2⟩ hj
            · rw [if_neg e, if_neg e', if_neg e, if_neg e']
              exact n1.2.2.2.2 r s (by omega) (by omega)
        · rw [dS_n (by decide)]; exact n2.1
        · dsimp only
          simp only [dS_p2]
          by_cases e : r = R
          · subst e
            rw [if_pos rfl, if_pos rfl, if_pos rfl, if_pos rfl]
            refine ⟨?_, ?_, ?_, ?_⟩
            · rw [dA_1 (by decide), dA_1 (by decide), dA_1 (by decide)]; exact dA_s
            · rw [dA_1 (by decide), dA_1 (by decide)]; exact dA_s
            · rw [dA_1 (by decide)]; exact dA_s
            · exact dA_s
          · rw [if_neg e, if_neg e, if_neg e, if_neg e]
            obtain ⟨x1, x2, x3, x4⟩ := n2.2.2.2 r (by omega)
            refine ⟨?_, ?_, ?_, ?_⟩
            · rw [dA_1 (by decide), dA_1 (by decide), dA_1 (by decide), dA_n e]; exact x1
            · rw [dA_1 (by decide), dA_1 (by decide), dA_n e, dA_1 (by decide)]; exact x2
            · rw [dA_1 (by decide), dA_n e, dA_1 (by decide), dA_1 (by decide)]; exact x3
            · rw [dA_n e, dA_1 (by decide), dA_1 (by decide), dA_1 (by decide)]; exact x4
        · dsimp only
          simp only [rS_p2]
          by_cases e : r = R
          · subst e
            rw [if_pos rfl, if_pos rfl, if_pos rfl, if_pos rfl]
            refine ⟨?_, ?_, ?_, ?_⟩
            · rw [rA_1 (by decide), rA_1 (by decide), rA_n (by omega)]; exact rA_s
            · rw [rA_1 (by decide), rA_1 (by decide)]; exact rA_s
            · rw [rA_1 (by decide)]; exact rA_s
            · exact rA_s
          · rw [if_neg e, if_neg e, if_neg e, if_neg e]
            obtain ⟨x1, x2, x3, x4⟩ := n3.2.2.2 r (by omega)
            refine ⟨?_, ?_, ?_, ?_⟩
            · rw [rA_1 (by decide), rA_1 (by decide), rA_n (by omega), rA_n (by omega)]; exact x1
            · rw [rA_1 (by decide), rA_1 (by decide), rA_n (by omega), rA_n (by omega)]; exact x2
            · rw [rA_1 (by decide), rA_n e, rA_1 (by decide), rA_1 (by decide)]; exact x3
            · rw [rA_n e, rA_1 (by decide), rA_1 (by decide), rA_1 (by decide)]; exact x4
  · refine ⟨-2, σ, τ, ?_, ?_, h0⟩
    · ((try simp only [D8m_road, isPost_0 n1 n2, in_0]); simp (disch := omega) only [fa_lt, fa_le, fa_eq, it_nI, t0, i32_99, i32_8, i32_1, i32_2, i32_3, i32_4, i32_5, i32_6, i32_7, i32_11, i32_12, i32_13, i32_20, i32_30, i32_40, i32_50, i32_m50, i32_m1, i32_m2, i32_64, i32_256, i32_768, i32_4096, i32_600, i32_m600, i32_1000, i32_1201, if_pos, if_neg, reduceIte, b1_s, b2_s, nm_s, gi_n, tn, pl1, mi1, sub1, ml2, ml4, ml40, ml4096, ad, pl2, sub2, sub3, sub4, dA_p1, dA_p3, dS_p2, dS_p3, dJ_p1, dJ_p2, rA_p1, rS_p2])
      repeat' split
      all_goals first | rfl | omega
    · ((try simp only [Rm_road, n3.1, in_0]); simp (disch := omega) only [fa_lt, fa_le, fa_eq, it_nI, t0, i32_99, i32_8, i32_1, i32_2, i32_3, i32_4, i32_5, i32_6, i32_7, i32_11, i32_12, i32_13, i32_20, i32_30, i32_40, i32_50, i32_m50, i32_m1, i32_m2, i32_64, i32_256, i32_768, i32_4096, i32_600, i32_m600, i32_1000, i32_1201, if_pos, if_neg, reduceIte, b1_s, b2_s, nm_s, gi_n, tn, pl1, mi1, sub1, ml2, ml4, ml40, ml4096, ad, pl2, sub2, sub3, sub4, dA_p1, dA_p3, dS_p2, dS_p3, dJ_p1, dJ_p2, rA_p1, rS_p2])
      repeat' split
      all_goals first | rfl | omega

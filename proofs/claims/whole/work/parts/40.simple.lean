/-! ===== the net's calls ===== -/
theorem st_post : ST_post INV := by
  intro σ τ h a1
  have h0 := h
  obtain ⟨⟨P, R, ld, eA, eB, od, wt, n1, n2, n3⟩, -⟩ := h
  have hP := n1.1
  by_cases hr : 0 ≤ a1.toInt ∧ a1.toInt ≤ 99
  · obtain ⟨v, hv, rfl⟩ := of_range (n := 100) (by decide) hr.1 (by omega)
    by_cases h8 : P = 8
    · refine ⟨-4, σ, τ, ?_, ?_, h0⟩
      · ((try simp only [D8m_post, D2m_addPost, n2.1, in_0]); simp (disch := omega) only [fa_lt, fa_le, fa_eq, it_nI, t0, i32_99, i32_8, i32_1, i32_2, i32_3, i32_4, i32_5, i32_6, i32_7, i32_11, i32_12, i32_13, i32_20, i32_30, i32_40, i32_50, i32_m50, i32_m1, i32_m2, i32_64, i32_256, i32_768, i32_4096, i32_600, i32_m600, i32_1000, i32_1201, if_pos, if_neg, reduceIte, b1_s, b2_s, nm_s, gi_n, tn, pl1, mi1, sub1, ml2, ml4, ml40, ml4096, ad, pl2, sub2, sub3, sub4, dA_p1, dA_p3, dS_p2, dS_p3, dJ_p1, dJ_p2, rA_p1, rS_p2])
      · ((try simp only [Rm_post, n3.1, in_0]); simp (disch := omega) only [fa_lt, fa_le, fa_eq, it_nI, t0, i32_99, i32_8, i32_1, i32_2, i32_3, i32_4, i32_5, i32_6, i32_7, i32_11, i32_12, i32_13, i32_20, i32_30, i32_40, i32_50, i32_m50, i32_m1, i32_m2, i32_64, i32_256, i32_768, i32_4096, i32_600, i32_m600, i32_1000, i32_1201, if_pos, if_neg, reduceIte, b1_s, b2_s, nm_s, gi_n, tn, pl1, mi1, sub1, ml2, ml4, ml40, ml4096, ad, pl2, sub2, sub3, sub4, dA_p1, dA_p3, dS_p2, dS_p3, dJ_p1, dJ_p2, rA_p1, rS_p2])
    · refine ⟨nI P, dS (dA σ 2 P (nI v)) 1 0 (nI (P + 1)), rS (rA τ 1 P (nI v)) 0 (nI (P + 1)), ?_, ?_, h0.net (P := P + 1) (R := R) (ld := fun p => if p = P then v else ld p) (eA := eA) (eB := eB) (od := od) (wt := wt) ((dK_A (by decide)).tr (dK_S (by decide))) ((rK_A (by decide)).tr (rK_S (by decide))) ⟨by omega, n1.2.1, fun p hp => ?_, fun r hr => ?_, n1.2.2.2.2⟩ ⟨dS_s, ?_, fun p hp => ?_, n2.2.2.2⟩ ⟨rS_s, n3.2.1, fun p hp => ?_, n3.2.2.2⟩⟩
      · ((try simp only [D8m_post, D2m_addPost, n2.1, in_0]); simp (disch := omega) only [dS_s, n2.1, fa_lt, fa_le, fa_eq, it_nI, t0, i32_99, i32_8, i32_1, i32_2, i32_3, i32_4, i32_5, i32_6, i32_7, i32_11, i32_12, i32_13, i32_20, i32_30, i32_40, i32_50, i32_m50, i32_m1, i32_m2, i32_64, i32_256, i32_768, i32_4096, i32_600, i32_m600, i32_1000, i32_1201, if_pos, if_neg, reduceIte, b1_s, b2_s, nm_s, gi_n, tn, pl1, mi1, sub1, ml2, ml4, ml40, ml4096, ad, pl2, sub2, sub3, sub4, dA_p1, dA_p3, dS_p2, dS_p3, dJ_p1, dJ_p2, rA_p1, rS_p2])
      · ((try simp only [Rm_post, n3.1, in_0]); simp (disch := omega) only [rS_s, n3.1, fa_lt, fa_le, fa_eq, it_nI, t0, i32_99, i32_8, i32_1, i32_2, i32_3, i32_4, i32_5, i32_6, i32_7, i32_11, i32_12, i32_13, i32_20, i32_30, i32_40, i32_50, i32_m50, i32_m1, i32_m2, i32_64, i32_256, i32_768, i32_4096, i32_600, i32_m600, i32_1000, i32_1201, if_pos, if_neg, reduceIte, b1_s, b2_s, nm_s, gi_n, tn, pl1, mi1, sub1, ml2, ml4, ml40, ml4096, ad, pl2, sub2, sub3, sub4, dA_p1, dA_p3, dS_p2, dS_p3, dJ_p1, dJ_p2, rA_p1, rS_p2])
      · dsimp only
        by_cases e : p = P
        · rw [if_pos e]; omega
        · rw [if_neg e]; exact n1.2.2.1 p (by omega)
      · have := n1.2.2.2.1 r hr
        exact ⟨this.1, by omega, this.2.2⟩
      · rw [dS_n (by decide)]; exact n2.2.1
      · dsimp only
        show (dA σ 2 P (nI v)).2.1 2 p = _
        by_cases e : p = P
        · rw [if_pos e, e]; exact dA_s
        · rw [if_neg e, dA_n e]
          exact n2.2.2.1 p (by omega)
      · dsimp only
        show (rA τ 1 P (nI v)).2 1 p = _
        by_cases e : p = P
        · rw [if_pos e, e]; exact rA_s
        · rw [if_neg e, rA_n e]
          exact n3.2.2.1 p (by omega)
  · refine ⟨-2, σ, τ, ?_, ?_, h0⟩
    · ((try simp only [D8m_post, in_0]); simp (disch := omega) only [fa_lt, fa_le, fa_eq, it_nI, t0, i32_99, i32_8, i32_1, i32_2, i32_3, i32_4, i32_5, i32_6, i32_7, i32_11, i32_12, i32_13, i32_20, i32_30, i32_40, i32_50, i32_m50, i32_m1, i32_m2, i32_64, i32_256, i32_768, i32_4096, i32_600, i32_m600, i32_1000, i32_1201, if_pos, if_neg, reduceIte, b1_s, b2_s, nm_s, gi_n, tn, pl1, mi1, sub1, ml2, ml4, ml40, ml4096, ad, pl2, sub2, sub3, sub4, dA_p1, dA_p3, dS_p2, dS_p3, dJ_p1, dJ_p2, rA_p1, rS_p2])
      split
      · rfl
      · rfl
    · ((try simp only [Rm_post, in_0]); simp (disch := omega) only [fa_lt, fa_le, fa_eq, it_nI, t0, i32_99, i32_8, i32_1, i32_2, i32_3, i32_4, i32_5, i32_6, i32_7, i32_11, i32_12, i32_13, i32_20, i32_30, i32_40, i32_50, i32_m50, i32_m1, i32_m2, i32_64, i32_256, i32_768, i32_4096, i32_600, i32_m600, i32_1000, i32_1201, if_pos, if_neg, reduceIte, b1_s, b2_s, nm_s, gi_n, tn, pl1, mi1, sub1, ml2, ml4, ml40, ml4096, ad, pl2, sub2, sub3, sub4, dA_p1, dA_p3, dS_p2, dS_p3, dJ_p1, dJ_p2, rA_p1, rS_p2])
theorem st_odds : ST_odds INV := by
  intro σ τ h a1 a2
  have h0 := h
  obtain ⟨⟨P, R, ld, eA, eB, od, wt, n1, n2, n3⟩, -⟩ := h
  have hR := n1.2.1
  by_cases hr : 0 ≤ a1.toInt ∧ a1.toInt < R
  · obtain ⟨r, hr1, rfl⟩ := of_range (by omega) hr.1 hr.2
    by_cases he : 0 ≤ a2.toInt ∧ a2.toInt ≤ 8
    · obtain ⟨v, hv, rfl⟩ := of_range (n := 9) (by decide) he.1 (by omega)
      obtain ⟨a, b, c, d⟩ := n2.2.2.2 r hr1
      obtain ⟨a', b', c', d'⟩ := n3.2.2.2 r hr1
      refine ⟨nI (od r), dA σ 6 r (nI v), rA τ 5 r (nI v), ?_, ?_, h0.net (P := P) (R := R) (ld := ld) (eA := eA) (eB := eB) (od := fun x => if x = r then v else od x) (wt := wt) (dK_A (by decide)) (rK_A (by decide)) ⟨n1.1, n1.2.1, n1.2.2.1, fun s hs => ?_, n1.2.2.2.2⟩ ⟨n2.1, n2.2.1, n2.2.2.1, fun s hs => ?_⟩ ⟨n3.1, n3.2.1, n3.2.2.1, fun s hs => ?_⟩⟩
      · ((try simp only [D8m_odds, isRoad_0 n1 n2, in_0]); simp (disch := omega) only [d, fa_lt, fa_le, fa_eq, it_nI, t0, i32_99, i32_8, i32_1, i32_2, i32_3, i32_4, i32_5, i32_6, i32_7, i32_11, i32_12, i32_13, i32_20, i32_30, i32_40, i32_50, i32_m50, i32_m1, i32_m2, i32_64, i32_256, i32_768, i32_4096, i32_600, i32_m600, i32_1000, i32_1201, if_pos, if_neg, reduceIte, b1_s, b2_s, nm_s, gi_n, tn, pl1, mi1, sub1, ml2, ml4, ml40, ml4096, ad, pl2, sub2, sub3, sub4, dA_p1, dA_p3, dS_p2, dS_p3, dJ_p1, dJ_p2, rA_p1, rS_p2])
      · ((try simp only [Rm_odds, n3.2.1, in_0]); simp (disch := omega) only [d', fa_lt, fa_le, fa_eq, it_nI, t0, i32_99, i32_8, i32_1, i32_2, i32_3, i32_4, i32_5, i32_6, i32_7, i32_11, i32_12, i32_13, i32_20, i32_30, i32_40, i32_50, i32_m50, i32_m1, i32_m2, i32_64, i32_256, i32_768, i32_4096, i32_600, i32_m600, i32_1000, i32_1201, if_pos, if_neg, reduceIte, b1_s, b2_s, nm_s, gi_n, tn, pl1, mi1, sub1, ml2, ml4, ml40, ml4096, ad, pl2, sub2, sub3, sub4, dA_p1, dA_p3, dS_p2, dS_p3, dJ_p1, dJ_p2, rA_p1, rS_p2])
      · obtain ⟨x1, x2, x3, x4⟩ := n1.2.2.2.1 s hs
        refine ⟨x1, x2, ?_, x4⟩
        dsimp only
        split <;> omega
      · obtain ⟨x1, x2, x3, x4⟩ := n2.2.2.2 s hs
        refine ⟨x1, x2, x3, ?_⟩
        dsimp only
        by_cases e : s = r
        · rw [if_pos e, e]; exact dA_s
        · rw [if_neg e, dA_n e]; exact x4
      · obtain ⟨x1, x2, x3, x4⟩ := n3.2.2.2 s hs
        refine ⟨x1, x2, x3, ?_⟩
        dsimp only
        by_cases e : s = r
        · rw [if_pos e, e]; exact rA_s
        · rw [if_neg e, rA_n e]; exact x4
    · refine ⟨-2, σ, τ, ?_, ?_, h0⟩
      · ((try simp only [D8m_odds, isRoad_0 n1 n2, in_0]); simp (disch := omega) only [fa_lt, fa_le, fa_eq, it_nI, t0, i32_99, i32_8, i32_1, i32_2, i32_3, i32_4, i32_5, i32_6, i32_7, i32_11, i32_12, i32_13, i32_20, i32_30, i32_40, i32_50, i32_m50, i32_m1, i32_m2, i32_64, i32_256, i32_768, i32_4096, i32_600, i32_m600, i32_1000, i32_1201, if_pos, if_neg, reduceIte, b1_s, b2_s, nm_s, gi_n, tn, pl1, mi1, sub1, ml2, ml4, ml40, ml4096, ad, pl2, sub2, sub3, sub4, dA_p1, dA_p3, dS_p2, dS_p3, dJ_p1, dJ_p2, rA_p1, rS_p2])
        repeat' split
        all_goals first | rfl | omega
      · ((try simp only [Rm_odds, n3.2.1, in_0]); simp (disch := omega) only [fa_lt, fa_le, fa_eq, it_nI, t0, i32_99, i32_8, i32_1, i32_2, i32_3, i32_4, i32_5, i32_6, i32_7, i32_11, i32_12, i32_13, i32_20, i32_30, i32_40, i32_50, i32_m50, i32_m1, i32_m2, i32_64, i32_256, i32_768, i32_4096, i32_600, i32_m600, i32_1000, i32_1201, if_pos, if_neg, reduceIte, b1_s, b2_s, nm_s, gi_n, tn, pl1, mi1, sub1, ml2, ml4, ml40, ml4096, ad, pl2, sub2, sub3, sub4, dA_p1, dA_p3, dS_p2, dS_p3, dJ_p1, dJ_p2, rA_p1, rS_p2])
  · refine ⟨-2, σ, τ, ?_, ?_, h0⟩
    · ((try simp only [D8m_odds, isRoad_0 n1 n2, in_0]); simp (disch := omega) only [fa_lt, fa_le, fa_eq, it_nI, t0, i32_99, i32_8, i32_1, i32_2, i32_3, i32_4, i32_5, i32_6, i32_7, i32_11, i32_12, i32_13, i32_20, i32_30, i32_40, i32_50, i32_m50, i32_m1, i32_m2, i32_64, i32_256, i32_768, i32_4096, i32_600, i32_m600, i32_1000, i32_1201, if_pos, if_neg, reduceIte, b1_s, b2_s, nm_s, gi_n, tn, pl1, mi1, sub1, ml2, ml4, ml40, ml4096, ad, pl2, sub2, sub3, sub4, dA_p1, dA_p3, dS_p2, dS_p3, dJ_p1, dJ_p2, rA_p1, rS_p2])
    · ((try simp only [Rm_odds, n3.2.1, in_0]); simp (disch := omega) only [fa_lt, fa_le, fa_eq, it_nI, t0, i32_99, i32_8, i32_1, i32_2, i32_3, i32_4, i32_5, i32_6, i32_7, i32_11, i32_12, i32_13, i32_20, i32_30, i32_40, i32_50, i32_m50, i32_m1, i32_m2, i32_64, i32_256, i32_768, i32_4096, i32_600, i32_m600, i32_1000, i32_1201, if_pos, if_neg, reduceIte, b1_s, b2_s, nm_s, gi_n, tn, pl1, mi1, sub1, ml2, ml4, ml40, ml4096, ad, pl2, sub2, sub3, sub4, dA_p1, dA_p3, dS_p2, dS_p3, dJ_p1, dJ_p2, rA_p1, rS_p2])
theorem st_roadOf : ST_roadOf INV := by
  intro σ τ h a1 a2
  have h0 := h
  obtain ⟨⟨P, R, ld, eA, eB, od, wt, n1, n2, n3⟩, -⟩ := h
  have hR := n1.2.1
  by_cases hr : 0 ≤ a1.toInt ∧ a1.toInt < R
  · obtain ⟨r, hr1, rfl⟩ := of_range (by omega) hr.1 hr.2
    obtain ⟨a, b, c, d⟩ := n2.2.2.2 r hr1
    obtain ⟨a', b', c', d'⟩ := n3.2.2.2 r hr1
    by_cases he : 0 ≤ a2.toInt ∧ a2.toInt ≤ 3
    · obtain ⟨v, hv, rfl⟩ := of_range (n := 4) (by decide) he.1 (by omega)
      rcases (show v = 0 ∨ v = 1 ∨ v = 2 ∨ v = 3 by omega) with rfl | rfl | rfl | rfl
      · refine ⟨nI (eA r), σ, τ, ⟨?_, rfl⟩, ⟨?_, rfl⟩, h0⟩
        · ((try simp only [D8m_roadOf, isRoad_0 n1 n2, in_0]); simp (disch := omega) only [a, fa_lt, fa_le, fa_eq, it_nI, t0, i32_99, i32_8, i32_1, i32_2, i32_3, i32_4, i32_5, i32_6, i32_7, i32_11, i32_12, i32_13, i32_20, i32_30, i32_40, i32_50, i32_m50, i32_m1, i32_m2, i32_64, i32_256, i32_768, i32_4096, i32_600, i32_m600, i32_1000, i32_1201, if_pos, if_neg, reduceIte, b1_s, b2_s, nm_s, gi_n, tn, pl1, mi1, sub1, ml2, ml4, ml40, ml4096, ad, pl2, sub2, sub3, sub4, dA_p1, dA_p3, dS_p2, dS_p3, dJ_p1, dJ_p2, rA_p1, rS_p2])
        · ((try simp only [Rm_roadOf, n3.2.1, in_0]); simp (disch := omega) only [a', Nat.add_zero, fa_lt, fa_le, fa_eq, it_nI, t0, i32_99, i32_8, i32_1, i32_2, i32_3, i32_4, i32_5, i32_6, i32_7, i32_11, i32_12, i32_13, i32_20, i32_30, i32_40, i32_50, i32_m50, i32_m1, i32_m2, i32_64, i32_256, i32_768, i32_4096, i32_600, i32_m600, i32_1000, i32_1201, if_pos, if_neg, reduceIte, b1_s, b2_s, nm_s, gi_n, tn, pl1, mi1, sub1, ml2, ml4, ml40, ml4096, ad, pl2, sub2, sub3, sub4, dA_p1, dA_p3, dS_p2, dS_p3, dJ_p1, dJ_p2, rA_p1, rS_p2])
      · refine ⟨nI (eB r), σ, τ, ⟨?_, rfl⟩, ⟨?_, rfl⟩, h0⟩
        · ((try simp only [D8m_roadOf, isRoad_0 n1 n2, in_0]); simp (disch := omega) only [b, fa_lt, fa_le, fa_eq, it_nI, t0, i32_99, i32_8, i32_1, i32_2, i32_3, i32_4, i32_5, i32_6, i32_7, i32_11, i32_12, i32_13, i32_20, i32_30, i32_40, i32_50, i32_m50, i32_m1, i32_m2, i32_64, i32_256, i32_768, i32_4096, i32_600, i32_m600, i32_1000, i32_1201, if_pos, if_neg, reduceIte, b1_s, b2_s, nm_s, gi_n, tn, pl1, mi1, sub1, ml2, ml4, ml40, ml4096, ad, pl2, sub2, sub3, sub4, dA_p1, dA_p3, dS_p2, dS_p3, dJ_p1, dJ_p2, rA_p1, rS_p2])
        · ((try simp only [Rm_roadOf, n3.2.1, in_0]); simp (disch := omega) only [b', fa_lt, fa_le, fa_eq, it_nI, t0, i32_99, i32_8, i32_1, i32_2, i32_3, i32_4, i32_5, i32_6, i32_7, i32_11, i32_12, i32_13, i32_20, i32_30, i32_40, i32_50, i32_m50, i32_m1, i32_m2, i32_64, i32_256, i32_768, i32_4096, i32_600, i32_m600, i32_1000, i32_1201, if_pos, if_neg, reduceIte, b1_s, b2_s, nm_s, gi_n, tn, pl1, mi1, sub1, ml2, ml4, ml40, ml4096, ad, pl2, sub2, sub3, sub4, dA_p1, dA_p3, dS_p2, dS_p3, dJ_p1, dJ_p2, rA_p1, rS_p2])
      · refine ⟨wt r, σ, τ, ⟨?_, rfl⟩, ⟨?_, rfl⟩, h0⟩
        · ((try simp only [D8m_roadOf, isRoad_0 n1 n2, in_0]); simp (disch := omega) only [c, fa_lt, fa_le, fa_eq, it_nI, t0, i32_99, i32_8, i32_1, i32_2, i32_3, i32_4, i32_5, i32_6, i32_7, i32_11, i32_12, i32_13, i32_20, i32_30, i32_40, i32_50, i32_m50, i32_m1, i32_m2, i32_64, i32_256, i32_768, i32_4096, i32_600, i32_m600, i32_1000, i32_1201, if_pos, if_neg, reduceIte, b1_s, b2_s, nm_s, gi_n, tn, pl1, mi1, sub1, ml2, ml4, ml40, ml4096, ad, pl2, sub2, sub3, sub4, dA_p1, dA_p3, dS_p2, dS_p3, dJ_p1, dJ_p2, rA_p1, rS_p2])
        · ((try simp only [Rm_roadOf, n3.2.1, in_0]); simp (disch := omega) only [c', fa_lt, fa_le, fa_eq, it_nI, t0, i32_99, i32_8, i32_1, i32_2, i32_3, i32_4, i32_5, i32_6, i32_7, i32_11, i32_12, i32_13, i32_20, i32_30, i32_40, i32_50, i32_m50, i32_m1, i32_m2, i32_64, i32_256, i32_768, i32_4096, i32_600, i32_m600, i32_1000, i32_1201, if_pos, if_neg, reduceIte, b1_s, b2_s, nm_s, gi_n, tn, pl1, mi1, sub1, ml2, ml4, ml40, ml4096, ad, pl2, sub2, sub3, sub4, dA_p1, dA_p3, dS_p2, dS_p3, dJ_p1, dJ_p2, rA_p1, rS_p2])
      · refine ⟨nI (od r), σ, τ, ⟨?_, rfl⟩, ⟨?_, rfl⟩, h0⟩
        · ((try simp only [D8m_roadOf, isRoad_0 n1 n2, in_0]); simp (disch := omega) only [d, fa_lt, fa_le, fa_eq, it_nI, t0, i32_99, i32_8, i32_1, i32_2, i32_3, i32_4, i32_5, i32_6, i32_7, i32_11, i32_12, i32_13, i32_20, i32_30, i32_40, i32_50, i32_m50, i32_m1, i32_m2, i32_64, i32_256, i32_768, i32_4096, i32_600, i32_m600, i32_1000, i32_1201, if_pos, if_neg, reduceIte, b1_s, b2_s, nm_s, gi_n, tn, pl1, mi1, sub1, ml2, ml4, ml40, ml4096, ad, pl2, sub2, sub3, sub4, dA_p1, dA_p3, dS_p2, dS_p3, dJ_p1, dJ_p2, rA_p1, rS_p2])
        · ((try simp only [Rm_roadOf, n3.2.1, in_0]); simp (disch := omega) only [d', fa_lt, fa_le, fa_eq, it_nI, t0, i32_99, i32_8, i32_1, i32_2, i32_3, i32_4, i32_5, i32_6, i32_7, i32_11, i32_12, i32_13, i32_20, i32_30, i32_40, i32_50, i32_m50, i32_m1, i32_m2, i32_64, i32_256, i32_768, i32_4096, i32_600, i32_m600, i32_1000, i32_1201, if_pos, if_neg, reduceIte, b1_s, b2_s, nm_s, gi_n, tn, pl1, mi1, sub1, ml2, ml4, ml40, ml4096, ad, pl2, sub2, sub3, sub4, dA_p1, dA_p3, dS_p2, dS_p3, dJ_p1, dJ_p2, rA_p1, rS_p2])
    · refine ⟨-2, σ, τ, ⟨?_, rfl⟩, ⟨?_, rfl⟩, h0⟩
      · ((try simp only [D8m_roadOf, isRoad_0 n1 n2, in_0]); simp (disch := omega) only [fa_lt, fa_le, fa_eq, it_nI, t0, i32_99, i32_8, i32_1, i32_2, i32_3, i32_4, i32_5, i32_6, i32_7, i32_11, i32_12, i32_13, i32_20, i32_30, i32_40, i32_50, i32_m50, i32_m1, i32_m2, i32_64, i32_256, i32_768, i32_4096, i32_600, i32_m600, i32_1000, i32_1201, if_pos, if_neg, reduceIte, b1_s, b2_s, nm_s, gi_n, tn, pl1, mi1, sub1, ml2, ml4, ml40, ml4096, ad, pl2, sub2, sub3, sub4, dA_p1, dA_p3, dS_p2, dS_p3, dJ_p1, dJ_p2, rA_p1, rS_p2])
      · ((try simp only [Rm_roadOf, n3.2.1, in_0]); simp (disch := omega) only [fa_lt, fa_le, fa_eq, it_nI, t0, i32_99, i32_8, i32_1, i32_2, i32_3, i32_4, i32_5, i32_6, i32_7, i32_11, i32_12, i32_13, i32_20, i32_30, i32_40, i32_50, i32_m50, i32_m1, i32_m2, i32_64, i32_256, i32_768, i32_4096, i32_600, i32_m600, i32_1000, i32_1201, if_pos, if_neg, reduceIte, b1_s, b2_s, nm_s, gi_n, tn, pl1, mi1, sub1, ml2, ml4, ml40, ml4096, ad, pl2, sub2, sub3, sub4, dA_p1, dA_p3, dS_p2, dS_p3, dJ_p1, dJ_p2, rA_p1, rS_p2])
  · refine ⟨-2, σ, τ, ⟨?_, rfl⟩, ⟨?_, rfl⟩, h0⟩
    · ((try simp only [D8m_roadOf, isRoad_0 n1 n2, in_0]); simp (disch := omega) only [fa_lt, fa_le, fa_eq, it_nI, t0, i32_99, i32_8, i32_1, i32_2, i32_3, i32_4, i32_5, i32_6, i32_7, i32_11, i32_12, i32_13, i32_20, i32_30, i32_40, i32_50, i32_m50, i32_m1, i32_m2, i32_64, i32_256, i32_768, i32_4096, i32_600, i32_m600, i32_1000, i32_1201, if_pos, if_neg, reduceIte, b1_s, b2_s, nm_s, gi_n, tn, pl1, mi1, sub1, ml2, ml4, ml40, ml4096, ad, pl2, sub2, sub3, sub4, dA_p1, dA_p3, dS_p2, dS_p3, dJ_p1, dJ_p2, rA_p1, rS_p2])
    · ((try simp only [Rm_roadOf, n3.2.1, in_0]); simp (disch := omega) only [fa_lt, fa_le, fa_eq, it_nI, t0, i32_99, i32_8, i32_1, i32_2, i32_3, i32_4, i32_5, i32_6, i32_7, i32_11, i32_12, i32_13, i32_20, i32_30, i32_40, i32_50, i32_m50, i32_m1, i32_m2, i32_64, i32_256, i32_768, i32_4096, i32_600, i32_m600, i32_1000, i32_1201, if_pos, if_neg, reduceIte, b1_s, b2_s, nm_s, gi_n, tn, pl1, mi1, sub1, ml2, ml4, ml40, ml4096, ad, pl2, sub2, sub3, sub4, dA_p1, dA_p3, dS_p2, dS_p3, dJ_p1, dJ_p2, rA_p1, rS_p2])
theorem st_close : ST_close INV := by
  intro σ τ h
  have h0 := h
  obtain ⟨⟨P, R, ld, eA, eB, od, wt, n1, n2, n3⟩, -⟩ := h
  have hR := n1.2.1
  by_cases hr : R = 0
  · refine ⟨-2, σ, τ, ?_, ?_, h0⟩
    · ((try simp only [D8m_close, n2.2.1, in_0]); simp (disch := omega) only [fa_lt, fa_le, fa_eq, it_nI, t0, i32_99, i32_8, i32_1, i32_2, i32_3, i32_4, i32_5, i32_6, i32_7, i32_11, i32_12, i32_13, i32_20, i32_30, i32_40, i32_50, i32_m50, i32_m1, i32_m2, i32_64, i32_256, i32_768, i32_4096, i32_600, i32_m600, i32_1000, i32_1201, if_pos, if_neg, reduceIte, b1_s, b2_s, nm_s, gi_n, tn, pl1, mi1, sub1, ml2, ml4, ml40, ml4096, ad, pl2, sub2, sub3, sub4, dA_p1, dA_p3, dS_p2, dS_p3, dJ_p1, dJ_p2, rA_p1, rS_p2])
    · ((try simp only [Rm_close, n3.2.1, in_0]); simp (disch := omega) only [fa_lt, fa_le, fa_eq, it_nI, t0, i32_99, i32_8, i32_1, i32_2, i32_3, i32_4, i32_5, i32_6, i32_7, i32_11, i32_12, i32_13, i32_20, i32_30, i32_40, i32_50, i32_m50, i32_m1, i32_m2, i32_64, i32_256, i32_768, i32_4096, i32_600, i32_m600, i32_1000, i32_1201, if_pos, if_neg, reduceIte, b1_s, b2_s, nm_s, gi_n, tn, pl1, mi1, sub1, ml2, ml4, ml40, ml4096, ad, pl2, sub2, sub3, sub4, dA_p1, dA_p3, dS_p2, dS_p3, dJ_p1, dJ_p2, rA_p1, rS_p2])
  · obtain ⟨R, rfl⟩ : ∃ k, R = k + 1 := ⟨R - 1, by omega⟩
    refine ⟨nI R, dS σ 1 1 (nI R), rS τ 2 (nI R), ?_, ?_, h0.net (P := P) (R := R) (ld := ld) (eA := eA) (eB := eB) (od := od) (wt := wt) (dK_S (by decide)) (rK_S (by decide)) ⟨n1.1, by omega, n1.2.2.1, fun s hs => n1.2.2.2.1 s (by omega), fun r s h1 h2 => n1.2.2.2.2 r s (by omega) (by omega)⟩ ⟨?_, dS_s, n2.2.2.1, fun s hs => n2.2.2.2 s (by omega)⟩ ⟨n3.1, rS_s, n3.2.2.1, fun s hs => n3.2.2.2 s (by omega)⟩⟩
    · ((try simp only [D8m_close, D2m_loseRoad, n2.2.1, in_0]); simp (disch := omega) only [dS_s, fa_lt, fa_le, fa_eq, it_nI, t0, i32_99, i32_8, i32_1, i32_2, i32_3, i32_4, i32_5, i32_6, i32_7, i32_11, i32_12, i32_13, i32_20, i32_30, i32_40, i32_50, i32_m50, i32_m1, i32_m2, i32_64, i32_256, i32_768, i32_4096, i32_600, i32_m600, i32_1000, i32_1201, if_pos, if_neg, reduceIte, b1_s, b2_s, nm_s, gi_n, tn, pl1, mi1, sub1, ml2, ml4, ml40, ml4096, ad, pl2, sub2, sub3, sub4, dA_p1, dA_p3, dS_p2, dS_p3, dJ_p1, dJ_p2, rA_p1, rS_p2])
    · ((try simp only [Rm_close, n3.2.1, in_0]); simp (disch := omega) only [rS_s, fa_lt, fa_le, fa_eq, it_nI, t0, i32_99, i32_8, i32_1, i32_2, i32_3, i32_4, i32_5, i32_6, i32_7, i32_11, i32_12, i32_13, i32_20, i32_30, i32_40, i32_50, i32_m50, i32_m1, i32_m2, i32_64, i32_256, i32_768, i32_4096, i32_600, i32_m600, i32_1000, i32_1201, if_pos, if_neg, reduceIte, b1_s, b2_s, nm_s, gi_n, tn, pl1, mi1, sub1, ml2, ml4, ml40, ml4096, ad, pl2, sub2, sub3, sub4, dA_p1, dA_p3, dS_p2, dS_p3, dJ_p1, dJ_p2, rA_p1, rS_p2])
    · rw [dS_n (by decide)]; exact n2.1
theorem st_drop : ST_drop INV := by
  intro σ τ h
  have h0 := h
  obtain ⟨⟨P, R, ld, eA, eB, od, wt, n1, n2, n3⟩, ⟨F, kd, W, f1, f2, f3⟩, h3, h4, h5, h6⟩ := h
  have hF := f1.1
  by_cases hr : F = 0
  · refine ⟨-2, σ, τ, ?_, ?_, h0⟩
    · ((try simp only [D8m_drop, f2.1, in_0]); simp (disch := omega) only [fa_lt, fa_le, fa_eq, it_nI, t0, i32_99, i32_8, i32_1, i32_2, i32_3, i32_4, i32_5, i32_6, i32_7, i32_11, i32_12, i32_13, i32_20, i32_30, i32_40, i32_50, i32_m50, i32_m1, i32_m2, i32_64, i32_256, i32_768, i32_4096, i32_600, i32_m600, i32_1000, i32_1201, if_pos, if_neg, reduceIte, b1_s, b2_s, nm_s, gi_n, tn, pl1, mi1, sub1, ml2, ml4, ml40, ml4096, ad, pl2, sub2, sub3, sub4, dA_p1, dA_p3, dS_p2, dS_p3, dJ_p1, dJ_p2, rA_p1, rS_p2])
    · ((try simp only [Rm_drop, f3.1, in_0]); simp (disch := omega) only [fa_lt, fa_le, fa_eq, it_nI, t0, i32_99, i32_8, i32_1, i32_2, i32_3, i32_4, i32_5, i32_6, i32_7, i32_11, i32_12, i32_13, i32_20, i32_30, i32_40, i32_50, i32_m50, i32_m1, i32_m2, i32_64, i32_256, i32_768, i32_4096, i32_600, i32_m600, i32_1000, i32_1201, if_pos, if_neg, reduceIte, b1_s, b2_s, nm_s, gi_n, tn, pl1, mi1, sub1, ml2, ml4, ml40, ml4096, ad, pl2, sub2, sub3, sub4, dA_p1, dA_p3, dS_p2, dS_p3, dJ_p1, dJ_p2, rA_p1, rS_p2])
  · obtain ⟨F, rfl⟩ : ∃ k, F = k + 1 := ⟨F - 1, by omega⟩
    have k : dK_ (fun c => c = 0) σ (dS σ 0 2 (nI F)) := dK_S rfl
    have r : rK_ (fun c => c = 6) τ (rS τ 6 (nI F)) := rK_S rfl
    refine ⟨nI F, dS σ 0 2 (nI F), rS τ 6 (nI F), ?_, ?_, ⟨P, R, ld, eA, eB, od, wt, n1, n2.to k (fun c hc => by omega), n3.to r (fun c hc => by omega)⟩, ⟨F, kd, W, ⟨by omega, fun f hf => f1.2 f (by omega)⟩, ⟨dS_s, fun f hf => ?_⟩, ⟨rS_s, fun f hf => f3.2 f (by omega)⟩⟩, h3.to k (fun c hc => by omega) r (fun c hc => by omega), h4.to k (fun c hc => by omega) r (fun c hc => by omega), h5.to k (fun c hc => by omega) r (fun c hc => by omega), h6⟩
    · ((try simp only [D8m_drop, f2.1, in_0]); simp (disch := omega) only [dS_s, fa_lt, fa_le, fa_eq, it_nI, t0, i32_99, i32_8, i32_1, i32_2, i32_3, i32_4, i32_5, i32_6, i32_7, i32_11, i32_12, i32_13, i32_20, i32_30, i32_40, i32_50, i32_m50, i32_m1, i32_m2, i32_64, i32_256, i32_768, i32_4096, i32_600, i32_m600, i32_1000, i32_1201, if_pos, if_neg, reduceIte, b1_s, b2_s, nm_s, gi_n, tn, pl1, mi1, sub1, ml2, ml4, ml40, ml4096, ad, pl2, sub2, sub3, sub4, dA_p1, dA_p3, dS_p2, dS_p3, dJ_p1, dJ_p2, rA_p1, rS_p2])
    · ((try simp only [Rm_drop, f3.1, in_0]); simp (disch := omega) only [rS_s, fa_lt, fa_le, fa_eq, it_nI, t0, i32_99, i32_8, i32_1, i32_2, i32_3, i32_4, i32_5, i32_6, i32_7, i32_11, i32_12, i32_13, i32_20, i32_30, i32_40, i32_50, i32_m50, i32_m1, i32_m2, i32_64, i32_256, i32_768, i32_4096, i32_600, i32_m600, i32_1000, i32_1201, if_pos, if_neg, reduceIte, b1_s, b2_s, nm_s, gi_n, tn, pl1, mi1, sub1, ml2, ml4, ml40, ml4096, ad, pl2, sub2, sub3, sub4, dA_p1, dA_p3, dS_p2, dS_p3, dJ_p1, dJ_p2, rA_p1, rS_p2])
    · have := f2.2 f (by omega)
      refine ⟨?_, this.2⟩
      rw [dS_1 (by omega)]
      exact this.1
theorem st_there : ST_there INV := by
  intro σ τ h a1
  have h0 := h
  obtain ⟨⟨P, R, ld, eA, eB, od, wt, n1, n2, n3⟩, ⟨F, kd, W, f1, f2, f3⟩, h3, ⟨N, g1, g2, g3, g4⟩, ⟨t, e1, e2, e3, e4⟩, h6⟩ := h
  refine ⟨D8m_there σ a1, σ, τ, ⟨rfl, rfl⟩, ⟨?_, rfl⟩, h0⟩
  unfold D8m_there Rm_there
  rw [n2.1, n2.2.1, f2.1, g2, e2, n3.1, n3.2.1, f3.1, g3, e3]
theorem st_row : ST_row INV := by
  intro σ τ h a1 a2
  have h0 := h
  obtain ⟨-, -, -, ⟨N, g1, g2, g3, g4⟩, -⟩ := h
  by_cases hr : (0 ≤ a1.toInt ∧ a1.toInt < N) ∧ (0 ≤ a2.toInt ∧ a2.toInt < 4)
  · obtain ⟨i, hi, rfl⟩ := of_range (by omega) hr.1.1 hr.1.2
    obtain ⟨w, hw, rfl⟩ := of_range (n := 4) (by omega) hr.2.1 hr.2.2
    have := g4 i hi w hw
    refine ⟨τ.2 10 (4 * i + w), σ, τ, ⟨?_, rfl⟩, ⟨?_, rfl⟩, h0⟩
    · ((try simp only [D8m_row, isCell_0 g1 g2, in_0]); simp (disch := omega) only [this, fa_lt, fa_le, fa_eq, it_nI, t0, i32_99, i32_8, i32_1, i32_2, i32_3, i32_4, i32_5, i32_6, i32_7, i32_11, i32_12, i32_13, i32_20, i32_30, i32_40, i32_50, i32_m50, i32_m1, i32_m2, i32_64, i32_256, i32_768, i32_4096, i32_600, i32_m600, i32_1000, i32_1201, if_pos, if_neg, reduceIte, b1_s, b2_s, nm_s, gi_n, tn, pl1, mi1, sub1, ml2, ml4, ml40, ml4096, ad, pl2, sub2, sub3, sub4, dA_p1, dA_p3, dS_p2, dS_p3, dJ_p1, dJ_p2, rA_p1, rS_p2])
    · ((try simp only [Rm_row, g3, in_0]); simp (disch := omega) only [fa_lt, fa_le, fa_eq, it_nI, t0, i32_99, i32_8, i32_1, i32_2, i32_3, i32_4, i32_5, i32_6, i32_7, i32_11, i32_12, i32_13, i32_20, i32_30, i32_40, i32_50, i32_m50, i32_m1, i32_m2, i32_64, i32_256, i32_768, i32_4096, i32_600, i32_m600, i32_1000, i32_1201, if_pos, if_neg, reduceIte, b1_s, b2_s, nm_s, gi_n, tn, pl1, mi1, sub1, ml2, ml4, ml40, ml4096, ad, pl2, sub2, sub3, sub4, dA_p1, dA_p3, dS_p2, dS_p3, dJ_p1, dJ_p2, rA_p1, rS_p2])
  · refine ⟨-2, σ, τ, ⟨?_, rfl⟩, ⟨?_, rfl⟩, h0⟩
    · ((try simp only [D8m_row, isCell_0 g1 g2, in_0]); simp (disch := omega) only [fa_lt, fa_le, fa_eq, it_nI, t0, i32_99, i32_8, i32_1, i32_2, i32_3, i32_4, i32_5, i32_6, i32_7, i32_11, i32_12, i32_13, i32_20, i32_30, i32_40, i32_50, i32_m50, i32_m1, i32_m2, i32_64, i32_256, i32_768, i32_4096, i32_600, i32_m600, i32_1000, i32_1201, if_pos, if_neg, reduceIte, b1_s, b2_s, nm_s, gi_n, tn, pl1, mi1, sub1, ml2, ml4, ml40, ml4096, ad, pl2, sub2, sub3, sub4, dA_p1, dA_p3, dS_p2, dS_p3, dJ_p1, dJ_p2, rA_p1, rS_p2])
    · ((try simp only [Rm_row, g3, in_0]); simp (disch := omega) only [fa_lt, fa_le, fa_eq, it_nI, t0, i32_99, i32_8, i32_1, i32_2, i32_3, i32_4, i32_5, i32_6, i32_7, i32_11, i32_12, i32_13, i32_20, i32_30, i32_40, i32_50, i32_m50, i32_m1, i32_m2, i32_64, i32_256, i32_768, i32_4096, i32_600, i32_m600, i32_1000, i32_1201, if_pos, if_neg, reduceIte, b1_s, b2_s, nm_s, gi_n, tn, pl1, mi1, sub1, ml2, ml4, ml40, ml4096, ad, pl2, sub2, sub3, sub4, dA_p1, dA_p3, dS_p2, dS_p3, dJ_p1, dJ_p2, rA_p1, rS_p2])
      repeat' split
      all_goals first | rfl | omega
theorem st_forge : ST_forge INV := by
  intro σ τ h a1 a2 a3
  have h0 := h
  obtain ⟨-, -, -, ⟨N, g1, g2, g3, g4⟩, -, h6⟩ := h
  by_cases hr : (0 ≤ a1.toInt ∧ a1.toInt < N) ∧ (0 ≤ a2.toInt ∧ a2.toInt < 4)
  · obtain ⟨i, hi, rfl⟩ := of_range (by omega) hr.1.1 hr.1.2
    obtain ⟨w, hw, rfl⟩ := of_range (n := 4) (by omega) hr.2.1 hr.2.2
    refine ⟨1, dA σ (17 + 2 + w) i a3, rA τ 10 (4 * i + w) a3, ?_, ?_, h0.rows (fun F _ _ => dK_A (by omega)) (rK_A (by omega)) ⟨N, g1, ?_, g3, fun j hj v hv => ?_⟩ ?_⟩
    · ((try simp only [D8m_forge, isCell_0 g1 g2, in_0]); simp (disch := omega) only [fa_lt, fa_le, fa_eq, it_nI, t0, i32_99, i32_8, i32_1, i32_2, i32_3, i32_4, i32_5, i32_6, i32_7, i32_11, i32_12, i32_13, i32_20, i32_30, i32_40, i32_50, i32_m50, i32_m1, i32_m2, i32_64, i32_256, i32_768, i32_4096, i32_600, i32_m600, i32_1000, i32_1201, if_pos, if_neg, reduceIte, b1_s, b2_s, nm_s, gi_n, tn, pl1, mi1, sub1, ml2, ml4, ml40, ml4096, ad, pl2, sub2, sub3, sub4, dA_p1, dA_p3, dS_p2, dS_p3, dJ_p1, dJ_p2, rA_p1, rS_p2])
    · ((try simp only [Rm_forge, g3, in_0]); simp (disch := omega) only [fa_lt, fa_le, fa_eq, it_nI, t0, i32_99, i32_8, i32_1, i32_2, i32_3, i32_4, i32_5, i32_6, i32_7, i32_11, i32_12, i32_13, i32_20, i32_30, i32_40, i32_50, i32_m50, i32_m1, i32_m2, i32_64, i32_256, i32_768, i32_4096, i32_600, i32_m600, i32_1000, i32_1201, if_pos, if_neg, reduceIte, b1_s, b2_s, nm_s, gi_n, tn, pl1, mi1, sub1, ml2, ml4, ml40, ml4096, ad, pl2, sub2, sub3, sub4, dA_p1, dA_p3, dS_p2, dS_p3, dJ_p1, dJ_p2, rA_p1, rS_p2])
    · exact g2
    · have := g4 j hj v hv
      by_cases e : v = w
      · subst e
        by_cases e2 : j = i
        · subst e2
          rw [rA_s]
          exact dA_s
        · rw [rA_n (by omega), show 19 + v = 17 + 2 + v by omega, dA_n e2, show 17 + 2 + v = 19 + v by omega]
          exact this
      · rw [rA_n (by omega), dA_1 (by omega)]
        exact this
    · unfold AUX at *
      rw [dA_1 (by omega), dA_1 (by omega)]
      exact h6
  · refine ⟨-2, σ, τ, ?_, ?_, h0⟩
    · ((try simp only [D8m_forge, isCell_0 g1 g2, in_0]); simp (disch := omega) only [fa_lt, fa_le, fa_eq, it_nI, t0, i32_99, i32_8, i32_1, i32_2, i32_3, i32_4, i32_5, i32_6, i32_7, i32_11, i32_12, i32_13, i32_20, i32_30, i32_40, i32_50, i32_m50, i32_m1, i32_m2, i32_64, i32_256, i32_768, i32_4096, i32_600, i32_m600, i32_1000, i32_1201, if_pos, if_neg, reduceIte, b1_s, b2_s, nm_s, gi_n, tn, pl1, mi1, sub1, ml2, ml4, ml40, ml4096, ad, pl2, sub2, sub3, sub4, dA_p1, dA_p3, dS_p2, dS_p3, dJ_p1, dJ_p2, rA_p1, rS_p2])
    · ((try simp only [Rm_forge, g3, in_0]); simp (disch := omega) only [fa_lt, fa_le, fa_eq, it_nI, t0, i32_99, i32_8, i32_1, i32_2, i32_3, i32_4, i32_5, i32_6, i32_7, i32_11, i32_12, i32_13, i32_20, i32_30, i32_40, i32_50, i32_m50, i32_m1, i32_m2, i32_64, i32_256, i32_768, i32_4096, i32_600, i32_m600, i32_1000, i32_1201, if_pos, if_neg, reduceIte, b1_s, b2_s, nm_s, gi_n, tn, pl1, mi1, sub1, ml2, ml4, ml40, ml4096, ad, pl2, sub2, sub3, sub4, dA_p1, dA_p3, dS_p2, dS_p3, dJ_p1, dJ_p2, rA_p1, rS_p2])
      repeat' split
      all_goals first | rfl | omega
theorem st_trace : ST_trace INV := by
  intro σ τ h a1
  have h0 := h
  obtain ⟨-, -, -, -, ⟨t, e1, e2, e3, e4⟩, h6⟩ := h
  by_cases hr : (0 ≤ a1.toInt ∧ a1.toInt < t) ∧ a1.toInt < 40
  · obtain ⟨i, hi, rfl⟩ := of_range (by omega) hr.1.1 hr.1.2
    have hi4 : i < 40 := by have := hr.2; rw [it_nI (by omega)] at this; omega
    have := e4 i hi hi4
    refine ⟨τ.2 17 i, σ, τ, ⟨?_, rfl⟩, ⟨?_, rfl⟩, h0⟩
    · ((try simp only [D8m_trace, D0m_kept, e2, in_0]); simp (disch := omega) only [this, fa_lt, fa_le, fa_eq, it_nI, t0, i32_99, i32_8, i32_1, i32_2, i32_3, i32_4, i32_5, i32_6, i32_7, i32_11, i32_12, i32_13, i32_20, i32_30, i32_40, i32_50, i32_m50, i32_m1, i32_m2, i32_64, i32_256, i32_768, i32_4096, i32_600, i32_m600, i32_1000, i32_1201, if_pos, if_neg, reduceIte, b1_s, b2_s, nm_s, gi_n, tn, pl1, mi1, sub1, ml2, ml4, ml40, ml4096, ad, pl2, sub2, sub3, sub4, dA_p1, dA_p3, dS_p2, dS_p3, dJ_p1, dJ_p2, rA_p1, rS_p2])
    · by_cases c : 40 ≤ t
      · ((try simp only [Rm_trace, e3, in_0]); simp (disch := omega) only [show ((40 : Int32) - 1).toInt = 39 from rfl, fa_lt, fa_le, fa_eq, it_nI, t0, i32_99, i32_8, i32_1, i32_2, i32_3, i32_4, i32_5, i32_6, i32_7, i32_11, i32_12, i32_13, i32_20, i32_30, i32_40, i32_50, i32_m50, i32_m1, i32_m2, i32_64, i32_256, i32_768, i32_4096, i32_600, i32_m600, i32_1000, i32_1201, if_pos, if_neg, reduceIte, b1_s, b2_s, nm_s, gi_n, tn, pl1, mi1, sub1, ml2, ml4, ml40, ml4096, ad, pl2, sub2, sub3, sub4, dA_p1, dA_p3, dS_p2, dS_p3, dJ_p1, dJ_p2, rA_p1, rS_p2])
      · ((try simp only [Rm_trace, e3, in_0]); simp (disch := omega) only [fa_lt, fa_le, fa_eq, it_nI, t0, i32_99, i32_8, i32_1, i32_2, i32_3, i32_4, i32_5, i32_6, i32_7, i32_11, i32_12, i32_13, i32_20, i32_30, i32_40, i32_50, i32_m50, i32_m1, i32_m2, i32_64, i32_256, i32_768, i32_4096, i32_600, i32_m600, i32_1000, i32_1201, if_pos, if_neg, reduceIte, b1_s, b2_s, nm_s, gi_n, tn, pl1, mi1, sub1, ml2, ml4, ml40, ml4096, ad, pl2, sub2, sub3, sub4, dA_p1, dA_p3, dS_p2, dS_p3, dJ_p1, dJ_p2, rA_p1, rS_p2])
  · refine ⟨-1, σ, τ, ⟨?_, rfl⟩, ⟨?_, rfl⟩, h0⟩
    · ((try simp only [D8m_trace, D0m_kept, e2, in_0]); simp (disch := omega) only [fa_lt, fa_le, fa_eq, it_nI, t0, i32_99, i32_8, i32_1, i32_2, i32_3, i32_4, i32_5, i32_6, i32_7, i32_11, i32_12, i32_13, i32_20, i32_30, i32_40, i32_50, i32_m50, i32_m1, i32_m2, i32_64, i32_256, i32_768, i32_4096, i32_600, i32_m600, i32_1000, i32_1201, if_pos, if_neg, reduceIte, b1_s, b2_s, nm_s, gi_n, tn, pl1, mi1, sub1, ml2, ml4, ml40, ml4096, ad, pl2, sub2, sub3, sub4, dA_p1, dA_p3, dS_p2, dS_p3, dJ_p1, dJ_p2, rA_p1, rS_p2])
      repeat' split
      all_goals first | rfl | omega
    · by_cases c : 40 ≤ t
      · ((try simp only [Rm_trace, e3, in_0]); simp (disch := omega) only [show ((40 : Int32) - 1).toInt = 39 from rfl, fa_lt, fa_le, fa_eq, it_nI, t0, i32_99, i32_8, i32_1, i32_2, i32_3, i32_4, i32_5, i32_6, i32_7, i32_11, i32_12, i32_13, i32_20, i32_30, i32_40, i32_50, i32_m50, i32_m1, i32_m2, i32_64, i32_256, i32_768, i32_4096, i32_600, i32_m600, i32_1000, i32_1201, if_pos, if_neg, reduceIte, b1_s, b2_s, nm_s, gi_n, tn, pl1, mi1, sub1, ml2, ml4, ml40, ml4096, ad, pl2, sub2, sub3, sub4, dA_p1, dA_p3, dS_p2, dS_p3, dJ_p1, dJ_p2, rA_p1, rS_p2])
      · ((try simp only [Rm_trace, e3, in_0]); simp (disch := omega) only [fa_lt, fa_le, fa_eq, it_nI, t0, i32_99, i32_8, i32_1, i32_2, i32_3, i32_4, i32_5, i32_6, i32_7, i32_11, i32_12, i32_13, i32_20, i32_30, i32_40, i32_50, i32_m50, i32_m1, i32_m2, i32_64, i32_256, i32_768, i32_4096, i32_600, i32_m600, i32_1000, i32_1201, if_pos, if_neg, reduceIte, b1_s, b2_s, nm_s, gi_n, tn, pl1, mi1, sub1, ml2, ml4, ml40, ml4096, ad, pl2, sub2, sub3, sub4, dA_p1, dA_p3, dS_p2, dS_p3, dJ_p1, dJ_p2, rA_p1, rS_p2])

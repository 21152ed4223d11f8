/-! ===== sheets ===== -/
/-- a stretch of a row filled -/
def rFill (τ : RS) (k b n : Nat) (g : Nat → Int32) : RS := (τ.1, fun j => if j = k then (fun i => if b ≤ i ∧ i < b + n then g (i - b) else τ.2 k i) else τ.2 j)
theorem rFill_0 {τ : RS} {k b : Nat} {g : Nat → Int32} : rFill τ k b 0 g = τ := by
  unfold rFill
  refine Prod.ext rfl ?_
  funext j
  by_cases e : j = k
  · subst e
    simp only [if_true]
    funext i
    rw [if_neg (by omega)]
  · simp only [if_neg e]
theorem rFill_s {τ : RS} {k b n : Nat} {g : Nat → Int32} : rA (rFill τ k b n g) k (b + n) (g n) = rFill τ k b (n + 1) g := by
  unfold rFill rA
  refine Prod.ext rfl ?_
  funext j
  by_cases e : j = k
  · subst e
    simp only [if_true]
    funext i
    unfold upd
    by_cases e2 : i = b + n
    · rw [if_pos e2, if_pos (by omega), e2, Nat.add_sub_cancel_left]
    · rw [if_neg e2]
      dsimp only
      by_cases e3 : b ≤ i ∧ i < b + n
      · rw [if_pos e3, if_pos (by omega)]
      · rw [if_neg e3, if_neg (by omega)]
  · simp only [if_neg e]
theorem rFill_p1 {τ : RS} {k b n : Nat} {g : Nat → Int32} : (rFill τ k b n g).1 = τ.1 := rfl
theorem rFill_ne {τ : RS} {k b n j : Nat} {g : Nat → Int32} (h : j ≠ k) : (rFill τ k b n g).2 j = τ.2 j := if_neg h
theorem rFill_in {τ : RS} {k b n i : Nat} {g : Nat → Int32} (h : b ≤ i ∧ i < b + n) : (rFill τ k b n g).2 k i = g (i - b) := by
  unfold rFill
  simp only [if_true]
  exact if_pos h
theorem rFill_out {τ : RS} {k b n i : Nat} {g : Nat → Int32} (h : ¬ (b ≤ i ∧ i < b + n)) : (rFill τ k b n g).2 k i = τ.2 k i := by
  unfold rFill
  simp only [if_true]
  exact if_neg h
theorem rK_F {C : Nat → Prop} {τ : RS} {k b n : Nat} {g : Nat → Int32} (h : C k) : rK_ C τ (rFill τ k b n g) := fun x hx => ⟨rfl, rFill_ne (fun e => hx (e ▸ h))⟩
/-- the same for an int row of the class -/
def dFill (σ : DS) (c b n : Nat) (g : Nat → Int32) : DS := (σ.1, fun j => if j = c then (fun i => if b ≤ i ∧ i < b + n then g (i - b) else σ.2.1 c i) else σ.2.1 j, σ.2.2)
theorem dFill_0 {σ : DS} {k b : Nat} {g : Nat → Int32} : dFill σ k b 0 g = σ := by
  unfold dFill
  refine Prod.ext rfl (Prod.ext ?_ rfl)
  funext j
  by_cases e : j = k
  · subst e
    simp only [if_true]
    funext i
    rw [if_neg (by omega)]
  · simp only [if_neg e]
theorem dFill_s {σ : DS} {k b n : Nat} {g : Nat → Int32} : dA (dFill σ k b n g) k (b + n) (g n) = dFill σ k b (n + 1) g := by
  unfold dFill dA
  refine Prod.ext rfl (Prod.ext ?_ rfl)
  funext j
  by_cases e : j = k
  · subst e
    simp only [if_true]
    funext i
    unfold upd
    by_cases e2 : i = b + n
    · rw [if_pos e2, if_pos (by omega), e2, Nat.add_sub_cancel_left]
    · rw [if_neg e2]
      dsimp only
      by_cases e3 : b ≤ i ∧ i < b + n
      · rw [if_pos e3, if_pos (by omega)]
      · rw [if_neg e3, if_neg (by omega)]
  · simp only [if_neg e]
theorem dFill_ne {σ : DS} {k b n j : Nat} {g : Nat → Int32} (h : j ≠ k) : (dFill σ k b n g).2.1 j = σ.2.1 j := if_neg h
theorem dFill_in {σ : DS} {k b n i : Nat} {g : Nat → Int32} (h : b ≤ i ∧ i < b + n) : (dFill σ k b n g).2.1 k i = g (i - b) := by
  unfold dFill
  simp only [if_true]
  exact if_pos h
theorem dFill_out {σ : DS} {k b n i : Nat} {g : Nat → Int32} (h : ¬ (b ≤ i ∧ i < b + n)) : (dFill σ k b n g).2.1 k i = σ.2.1 k i := by
  unfold dFill
  simp only [if_true]
  exact if_neg h
theorem dK_F {C : Nat → Prop} {σ : DS} {k b n : Nat} {g : Nat → Int32} (h : C k) : dK_ C σ (dFill σ k b n g) := fun x hx => ⟨rfl, dFill_ne (fun e => hx (e ▸ h)), rfl⟩
/-- Arrays.fill of an int row -/
theorem fillI {σ : DS} {c n : Nat} {v : Int32} (hn : n < 100000) : J7m_fill_53178 σ c n v = some (dFill σ c 0 n (fun _ => v)) := by
  unfold J7m_fill_53178
  have e0 : σ = dFill σ c 0 0 (fun _ => v) := dFill_0.symm
  refine Eq.trans ?_ (it2_seq (f := J7s_fill_53178_5 c n v (Int32.ofNat n) (fun τ_5 => some τ_5)) (fun j => nI j) (fun j => dFill σ c 0 j (fun _ => v)) n _ (by unfold fuel; omega) (fun j hj rc => ?_) (fun rc => ?_))
  · rw [← e0]
    rfl
  · unfold J7s_fill_53178_5
    show (if nI n ≤ nI j then _ else _) = _
    ((try simp only [in_0]); simp (disch := omega) only [fa_lt, fa_le, fa_eq, it_nI, t0, i32_99, i32_8, i32_1, i32_2, i32_3, i32_4, i32_5, i32_6, i32_7, i32_11, i32_12, i32_13, i32_20, i32_30, i32_40, i32_50, i32_m50, i32_m1, i32_m2, i32_64, i32_256, i32_768, i32_4096, i32_600, i32_m600, i32_1000, i32_1201, if_pos, if_neg, reduceIte, b1_s, b2_s, nm_s, gi_n, tn, pl1, mi1, sub1, ml2, ml4, ml40, ml4096, ad, pl2, sub2, sub3, sub4, dA_p1, dA_p3, dS_p2, dS_p3, dJ_p1, dJ_p2, rA_p1, rS_p2])
    have := dFill_s (σ := σ) (k := c) (b := 0) (n := j) (g := fun _ => v)
    rw [Nat.zero_add] at this
    rw [this]
  · unfold J7s_fill_53178_5
    show (if nI n ≤ nI n then _ else _) = _
    ((try simp only [in_0]); simp (disch := omega) only [Int.le_refl, fa_lt, fa_le, fa_eq, it_nI, t0, i32_99, i32_8, i32_1, i32_2, i32_3, i32_4, i32_5, i32_6, i32_7, i32_11, i32_12, i32_13, i32_20, i32_30, i32_40, i32_50, i32_m50, i32_m1, i32_m2, i32_64, i32_256, i32_768, i32_4096, i32_600, i32_m600, i32_1000, i32_1201, if_pos, if_neg, reduceIte, b1_s, b2_s, nm_s, gi_n, tn, pl1, mi1, sub1, ml2, ml4, ml40, ml4096, ad, pl2, sub2, sub3, sub4, dA_p1, dA_p3, dS_p2, dS_p3, dJ_p1, dJ_p2, rA_p1, rS_p2])
theorem sheetL {τ : RS} {ρ : Type} {s : Nat} (hs : s < 6) (kx : RS → Option ρ) : it2 (Rs_sheet_70 (nI s) kx) fuel (0 : Int32) τ = kx (rFill τ 13 (40 * s) 40 (fun _ => 0)) := by
  have e0 : τ = rFill τ 13 (40 * s) 0 (fun _ => 0) := rFill_0.symm
  refine Eq.trans ?_ (it2_seq (f := Rs_sheet_70 (nI s) kx) (fun j => nI j) (fun j => rFill τ 13 (40 * s) j (fun _ => 0)) 40 _ (by unfold fuel; omega) (fun j hj rc => ?_) (fun rc => ?_))
  · rw [← e0]
    rfl
  · unfold Rs_sheet_70
    ((try simp only [in_0]); simp (disch := omega) only [fa_lt, fa_le, fa_eq, it_nI, t0, i32_99, i32_8, i32_1, i32_2, i32_3, i32_4, i32_5, i32_6, i32_7, i32_11, i32_12, i32_13, i32_20, i32_30, i32_40, i32_50, i32_m50, i32_m1, i32_m2, i32_64, i32_256, i32_768, i32_4096, i32_600, i32_m600, i32_1000, i32_1201, if_pos, if_neg, reduceIte, b1_s, b2_s, nm_s, gi_n, tn, pl1, mi1, sub1, ml2, ml4, ml40, ml4096, ad, pl2, sub2, sub3, sub4, dA_p1, dA_p3, dS_p2, dS_p3, dJ_p1, dJ_p2, rA_p1, rS_p2])
    rw [rFill_s]
  · unfold Rs_sheet_70
    ((try simp only [in_0]); simp (disch := omega) only [Int.le_refl, fa_lt, fa_le, fa_eq, it_nI, t0, i32_99, i32_8, i32_1, i32_2, i32_3, i32_4, i32_5, i32_6, i32_7, i32_11, i32_12, i32_13, i32_20, i32_30, i32_40, i32_50, i32_m50, i32_m1, i32_m2, i32_64, i32_256, i32_768, i32_4096, i32_600, i32_m600, i32_1000, i32_1201, if_pos, if_neg, reduceIte, b1_s, b2_s, nm_s, gi_n, tn, pl1, mi1, sub1, ml2, ml4, ml40, ml4096, ad, pl2, sub2, sub3, sub4, dA_p1, dA_p3, dS_p2, dS_p3, dJ_p1, dJ_p2, rA_p1, rS_p2])
theorem sheet_inv {σ : DS} {τ : RS} {a2 : Int32} {s : Nat} (h0 : INV σ τ) (hs : s < 6) (h2 : -1 ≤ a2.toInt ∧ a2.toInt ≤ 2) : ∀ (n : Nat), n ≤ 40 → INV (dFill (dA (dA σ 34 s a2) 35 s (nI n)) (37 + s) 0 40 (fun _ => 0)) (rFill (rA (rA τ 11 s a2) 12 s (nI n)) 13 (40 * s) 40 (fun _ => 0)) := by
      obtain ⟨-, -, h3, -, -, -⟩ := id h0
      intro n hn
      refine h0.host ((dK_A (by decide)).tr ((dK_A (by decide)).tr (dK_F (by omega)))) ((rK_A (by decide)).tr ((rK_A (by decide)).tr (rK_F (by decide)))) (fun k hk => ?_)
      obtain ⟨⟨⟨x1, x2, x3⟩, ⟨m, x4, x5, x6⟩, x7⟩, x8⟩ := h3 k hk
      have q43 : (dFill (dA (dA σ 34 s a2) 35 s (nI n)) (37 + s) 0 40 (fun _ => 0)).2.1 43 = σ.2.1 43 := by rw [dFill_ne (by omega)]; rfl
      have q44 : (dFill (dA (dA σ 34 s a2) 35 s (nI n)) (37 + s) 0 40 (fun _ => 0)).2.1 44 = σ.2.1 44 := by rw [dFill_ne (by omega)]; rfl
      have q34 : (dFill (dA (dA σ 34 s a2) 35 s (nI n)) (37 + s) 0 40 (fun _ => 0)).2.1 34 = (dA σ 34 s a2).2.1 34 := by rw [dFill_ne (by omega)]; rfl
      have q35 : (dFill (dA (dA σ 34 s a2) 35 s (nI n)) (37 + s) 0 40 (fun _ => 0)).2.1 35 = (dA (dA σ 34 s a2) 35 s (nI n)).2.1 35 := by rw [dFill_ne (by omega)]
      rw [q43, q44, q34, q35]
      show ((_ = (rA τ 11 s a2).2 11 k ∧ -1 ≤ ((rA τ 11 s a2).2 11 k).toInt ∧ ((rA τ 11 s a2).2 11 k).toInt ≤ 2) ∧ (∃ n_1, n_1 ≤ 40 ∧ _ = nI n_1 ∧ (rA (rA τ 11 s a2) 12 s (nI n)).2 12 k = nI n_1) ∧ _) ∧ _
      refine ⟨⟨?_, ?_, ?_⟩, x8⟩
      · by_cases e : k = s
        · subst e
          rw [dA_s, rA_s]
          exact ⟨rfl, h2⟩
        · rw [dA_n e, rA_n e]
          exact ⟨x1, x2, x3⟩
      · by_cases e : k = s
        · subst e
          exact ⟨n, hn, dA_s, rA_s⟩
        · rw [dA_n e, rA_n e, dA_1 (by decide), rA_1 (by decide)]
          exact ⟨m, x4, x5, x6⟩
      · intro i hi
        by_cases e : k = s
        · subst e
          rw [dFill_in (by omega), rFill_in (by omega)]
        · rw [dFill_ne (by omega), rFill_out (by omega), dA_1 (by omega), dA_1 (by omega), rA_1 (by decide), rA_1 (by decide)]
          exact x7 i hi
theorem sheet_d {σ : DS} {a2 a3 : Int32} {s : Nat} (hs : s < 6) (h2 : -1 ≤ a2.toInt ∧ a2.toInt ≤ 2) (c : a2.toInt = -1) : D8m_sheet σ (nI s) a2 a3 = some (1, dFill (dA (dA σ 34 s a2) 35 s 0) (37 + s) 0 40 (fun _ => 0)) := by
  ((try simp only [D8m_sheet, D1m_layOut, isNum_0, in_0]); simp (disch := omega) only [fillI, fa_lt, fa_le, fa_eq, it_nI, t0, i32_99, i32_8, i32_1, i32_2, i32_3, i32_4, i32_5, i32_6, i32_7, i32_11, i32_12, i32_13, i32_20, i32_30, i32_40, i32_50, i32_m50, i32_m1, i32_m2, i32_64, i32_256, i32_768, i32_4096, i32_600, i32_m600, i32_1000, i32_1201, if_pos, if_neg, reduceIte, b1_s, b2_s, nm_s, gi_n, tn, pl1, mi1, sub1, ml2, ml4, ml40, ml4096, ad, pl2, sub2, sub3, sub4, dA_p1, dA_p3, dS_p2, dS_p3, dJ_p1, dJ_p2, rA_p1, rS_p2])
theorem sheet_d2 {σ : DS} {a2 : Int32} {s n : Nat} (hs : s < 6) (hn : n ≤ 40) (h2 : -1 ≤ a2.toInt ∧ a2.toInt ≤ 2) (c : a2.toInt ≠ -1) : D8m_sheet σ (nI s) a2 (nI n) = some (1, dFill (dA (dA σ 34 s a2) 35 s (nI n)) (37 + s) 0 40 (fun _ => 0)) := by
  ((try simp only [D8m_sheet, D1m_layOut, isNum_0, in_0]); simp (disch := omega) only [fillI, fa_lt, fa_le, fa_eq, it_nI, t0, i32_99, i32_8, i32_1, i32_2, i32_3, i32_4, i32_5, i32_6, i32_7, i32_11, i32_12, i32_13, i32_20, i32_30, i32_40, i32_50, i32_m50, i32_m1, i32_m2, i32_64, i32_256, i32_768, i32_4096, i32_600, i32_m600, i32_1000, i32_1201, if_pos, if_neg, reduceIte, b1_s, b2_s, nm_s, gi_n, tn, pl1, mi1, sub1, ml2, ml4, ml40, ml4096, ad, pl2, sub2, sub3, sub4, dA_p1, dA_p3, dS_p2, dS_p3, dJ_p1, dJ_p2, rA_p1, rS_p2])
theorem sheet_r {τ : RS} {a2 a3 : Int32} {s : Nat} (hs : s < 6) (h2 : -1 ≤ a2.toInt ∧ a2.toInt ≤ 2) (c : a2.toInt = -1) : Rm_sheet τ (nI s) a2 a3 = some (1, rFill (rA (rA τ 11 s a2) 12 s 0) 13 (40 * s) 40 (fun _ => 0)) := by
  ((try simp only [Rm_sheet, in_0]); simp (disch := omega) only [fa_lt, fa_le, fa_eq, it_nI, t0, i32_99, i32_8, i32_1, i32_2, i32_3, i32_4, i32_5, i32_6, i32_7, i32_11, i32_12, i32_13, i32_20, i32_30, i32_40, i32_50, i32_m50, i32_m1, i32_m2, i32_64, i32_256, i32_768, i32_4096, i32_600, i32_m600, i32_1000, i32_1201, if_pos, if_neg, reduceIte, b1_s, b2_s, nm_s, gi_n, tn, pl1, mi1, sub1, ml2, ml4, ml40, ml4096, ad, pl2, sub2, sub3, sub4, dA_p1, dA_p3, dS_p2, dS_p3, dJ_p1, dJ_p2, rA_p1, rS_p2])
  rw [sheetL hs]
theorem sheet_r2 {τ : RS} {a2 : Int32} {s n : Nat} (hs : s < 6) (hn : n ≤ 40) (h2 : -1 ≤ a2.toInt ∧ a2.toInt ≤ 2) (c : a2.toInt ≠ -1) : Rm_sheet τ (nI s) a2 (nI n) = some (1, rFill (rA (rA τ 11 s a2) 12 s (nI n)) 13 (40 * s) 40 (fun _ => 0)) := by
  ((try simp only [Rm_sheet, in_0]); simp (disch := omega) only [fa_lt, fa_le, fa_eq, it_nI, t0, i32_99, i32_8, i32_1, i32_2, i32_3, i32_4, i32_5, i32_6, i32_7, i32_11, i32_12, i32_13, i32_20, i32_30, i32_40, i32_50, i32_m50, i32_m1, i32_m2, i32_64, i32_256, i32_768, i32_4096, i32_600, i32_m600, i32_1000, i32_1201, if_pos, if_neg, reduceIte, b1_s, b2_s, nm_s, gi_n, tn, pl1, mi1, sub1, ml2, ml4, ml40, ml4096, ad, pl2, sub2, sub3, sub4, dA_p1, dA_p3, dS_p2, dS_p3, dJ_p1, dJ_p2, rA_p1, rS_p2])
  rw [sheetL hs]
theorem st_sheet : ST_sheet INV := by
  intro σ τ h a1 a2 a3
  by_cases hr : ((0 ≤ a1.toInt ∧ a1.toInt < 6) ∧ (-1 ≤ a2.toInt ∧ a2.toInt ≤ 2)) ∧ (a2.toInt ≠ -1 → a3.toInt ≤ 40)
  · obtain ⟨s, hs, rfl⟩ := of_range (n := 6) (by omega) hr.1.1.1 hr.1.1.2
    have h2 := hr.1.2
    by_cases c : a2.toInt = -1
    · exact ⟨1, _, _, sheet_d hs h2 c, sheet_r hs h2 c, sheet_inv h hs h2 0 (by omega)⟩
    · by_cases d : a3.toInt < 0
      · have := hr.2 c
        refine ⟨-14, σ, τ, ?_, ?_, h⟩
        · ((try simp only [D8m_sheet, D1m_layOut, isNum_0, in_0]); simp (disch := omega) only [fa_lt, fa_le, fa_eq, it_nI, t0, i32_99, i32_8, i32_1, i32_2, i32_3, i32_4, i32_5, i32_6, i32_7, i32_11, i32_12, i32_13, i32_20, i32_30, i32_40, i32_50, i32_m50, i32_m1, i32_m2, i32_64, i32_256, i32_768, i32_4096, i32_600, i32_m600, i32_1000, i32_1201, if_pos, if_neg, reduceIte, b1_s, b2_s, nm_s, gi_n, tn, pl1, mi1, sub1, ml2, ml4, ml40, ml4096, ad, pl2, sub2, sub3, sub4, dA_p1, dA_p3, dS_p2, dS_p3, dJ_p1, dJ_p2, rA_p1, rS_p2])
        · ((try simp only [Rm_sheet, in_0]); simp (disch := omega) only [fa_lt, fa_le, fa_eq, it_nI, t0, i32_99, i32_8, i32_1, i32_2, i32_3, i32_4, i32_5, i32_6, i32_7, i32_11, i32_12, i32_13, i32_20, i32_30, i32_40, i32_50, i32_m50, i32_m1, i32_m2, i32_64, i32_256, i32_768, i32_4096, i32_600, i32_m600, i32_1000, i32_1201, if_pos, if_neg, reduceIte, b1_s, b2_s, nm_s, gi_n, tn, pl1, mi1, sub1, ml2, ml4, ml40, ml4096, ad, pl2, sub2, sub3, sub4, dA_p1, dA_p3, dS_p2, dS_p3, dJ_p1, dJ_p2, rA_p1, rS_p2])
      · have := hr.2 c
        obtain ⟨n, hn, rfl⟩ := of_range (x := a3) (n := 41) (by omega) (by omega) (by omega)
        exact ⟨1, _, _, sheet_d2 hs (by omega) h2 c, sheet_r2 hs (by omega) h2 c, sheet_inv h hs h2 n (by omega)⟩
  · refine ⟨-2, σ, τ, ?_, ?_, h⟩
    · ((try simp only [D8m_sheet, D1m_layOut, isNum_0, in_0]); simp (disch := omega) only [fa_lt, fa_le, fa_eq, it_nI, t0, i32_99, i32_8, i32_1, i32_2, i32_3, i32_4, i32_5, i32_6, i32_7, i32_11, i32_12, i32_13, i32_20, i32_30, i32_40, i32_50, i32_m50, i32_m1, i32_m2, i32_64, i32_256, i32_768, i32_4096, i32_600, i32_m600, i32_1000, i32_1201, if_pos, if_neg, reduceIte, b1_s, b2_s, nm_s, gi_n, tn, pl1, mi1, sub1, ml2, ml4, ml40, ml4096, ad, pl2, sub2, sub3, sub4, dA_p1, dA_p3, dS_p2, dS_p3, dJ_p1, dJ_p2, rA_p1, rS_p2])
      repeat' split
      all_goals first | rfl | omega
    · ((try simp only [Rm_sheet, in_0]); simp (disch := omega) only [fa_lt, fa_le, fa_eq, it_nI, t0, i32_99, i32_8, i32_1, i32_2, i32_3, i32_4, i32_5, i32_6, i32_7, i32_11, i32_12, i32_13, i32_20, i32_30, i32_40, i32_50, i32_m50, i32_m1, i32_m2, i32_64, i32_256, i32_768, i32_4096, i32_600, i32_m600, i32_1000, i32_1201, if_pos, if_neg, reduceIte, b1_s, b2_s, nm_s, gi_n, tn, pl1, mi1, sub1, ml2, ml4, ml40, ml4096, ad, pl2, sub2, sub3, sub4, dA_p1, dA_p3, dS_p2, dS_p3, dJ_p1, dJ_p2, rA_p1, rS_p2])
      repeat' split
      all_goals first | rfl | omega
theorem isItem_0 {σ : DS} {s n : Nat} (hs : s < 6) (hn : n ≤ 40) (e : σ.2.1 35 s = nI n) {x : Int32} : (D1m_isItem σ (nI s) x = some 0 ∧ ¬ (0 ≤ x.toInt ∧ x.toInt < n)) ∨ (D1m_isItem σ (nI s) x = some 1 ∧ (0 ≤ x.toInt ∧ x.toInt < n)) := by
  by_cases c : 0 ≤ x.toInt ∧ x.toInt < n
  · right
    refine ⟨?_, c⟩
    ((try simp only [D1m_isItem, isNum_0, in_0]); simp (disch := omega) only [e, fa_lt, fa_le, fa_eq, it_nI, t0, i32_99, i32_8, i32_1, i32_2, i32_3, i32_4, i32_5, i32_6, i32_7, i32_11, i32_12, i32_13, i32_20, i32_30, i32_40, i32_50, i32_m50, i32_m1, i32_m2, i32_64, i32_256, i32_768, i32_4096, i32_600, i32_m600, i32_1000, i32_1201, if_pos, if_neg, reduceIte, b1_s, b2_s, nm_s, gi_n, tn, pl1, mi1, sub1, ml2, ml4, ml40, ml4096, ad, pl2, sub2, sub3, sub4, dA_p1, dA_p3, dS_p2, dS_p3, dJ_p1, dJ_p2, rA_p1, rS_p2])
  · left
    refine ⟨?_, c⟩
    ((try simp only [D1m_isItem, isNum_0, in_0]); simp (disch := omega) only [e, fa_lt, fa_le, fa_eq, it_nI, t0, i32_99, i32_8, i32_1, i32_2, i32_3, i32_4, i32_5, i32_6, i32_7, i32_11, i32_12, i32_13, i32_20, i32_30, i32_40, i32_50, i32_m50, i32_m1, i32_m2, i32_64, i32_256, i32_768, i32_4096, i32_600, i32_m600, i32_1000, i32_1201, if_pos, if_neg, reduceIte, b1_s, b2_s, nm_s, gi_n, tn, pl1, mi1, sub1, ml2, ml4, ml40, ml4096, ad, pl2, sub2, sub3, sub4, dA_p1, dA_p3, dS_p2, dS_p3, dJ_p1, dJ_p2, rA_p1, rS_p2])
    repeat' split
    all_goals first | rfl | omega
theorem st_cell : ST_cell INV := by
  intro σ τ h a1 a2 a3
  have h0 := h
  obtain ⟨-, -, h3, -, -, -⟩ := h
  by_cases hr : 0 ≤ a1.toInt ∧ a1.toInt < 6
  · obtain ⟨s, hs, rfl⟩ := of_range (n := 6) (by omega) hr.1 hr.2
    obtain ⟨⟨⟨x1, x2, x3⟩, ⟨m, x4, x5, x6⟩, x7⟩, x8⟩ := h3 s hs
    by_cases c : (τ.2 11 s).toInt = -1
    · refine ⟨-11, σ, τ, ?_, ?_, h0⟩
      · ((try simp only [D8m_cell, D1m_fill, isNum_0, in_0]); simp (disch := omega) only [x1, fa_lt, fa_le, fa_eq, it_nI, t0, i32_99, i32_8, i32_1, i32_2, i32_3, i32_4, i32_5, i32_6, i32_7, i32_11, i32_12, i32_13, i32_20, i32_30, i32_40, i32_50, i32_m50, i32_m1, i32_m2, i32_64, i32_256, i32_768, i32_4096, i32_600, i32_m600, i32_1000, i32_1201, if_pos, if_neg, reduceIte, b1_s, b2_s, nm_s, gi_n, tn, pl1, mi1, sub1, ml2, ml4, ml40, ml4096, ad, pl2, sub2, sub3, sub4, dA_p1, dA_p3, dS_p2, dS_p3, dJ_p1, dJ_p2, rA_p1, rS_p2])
      · ((try simp only [Rm_cell, in_0]); simp (disch := omega) only [fa_lt, fa_le, fa_eq, it_nI, t0, i32_99, i32_8, i32_1, i32_2, i32_3, i32_4, i32_5, i32_6, i32_7, i32_11, i32_12, i32_13, i32_20, i32_30, i32_40, i32_50, i32_m50, i32_m1, i32_m2, i32_64, i32_256, i32_768, i32_4096, i32_600, i32_m600, i32_1000, i32_1201, if_pos, if_neg, reduceIte, b1_s, b2_s, nm_s, gi_n, tn, pl1, mi1, sub1, ml2, ml4, ml40, ml4096, ad, pl2, sub2, sub3, sub4, dA_p1, dA_p3, dS_p2, dS_p3, dJ_p1, dJ_p2, rA_p1, rS_p2])
    · rcases isItem_0 hs x4 x5 (x := a2) with ⟨i1, i2⟩ | ⟨i1, i2⟩
      · refine ⟨-12, σ, τ, ?_, ?_, h0⟩
        · ((try simp only [D8m_cell, D1m_fill, isNum_0, in_0]); simp (disch := omega) only [x1, i1, fa_lt, fa_le, fa_eq, it_nI, t0, i32_99, i32_8, i32_1, i32_2, i32_3, i32_4, i32_5, i32_6, i32_7, i32_11, i32_12, i32_13, i32_20, i32_30, i32_40, i32_50, i32_m50, i32_m1, i32_m2, i32_64, i32_256, i32_768, i32_4096, i32_600, i32_m600, i32_1000, i32_1201, if_pos, if_neg, reduceIte, b1_s, b2_s, nm_s, gi_n, tn, pl1, mi1, sub1, ml2, ml4, ml40, ml4096, ad, pl2, sub2, sub3, sub4, dA_p1, dA_p3, dS_p2, dS_p3, dJ_p1, dJ_p2, rA_p1, rS_p2])
        · ((try simp only [Rm_cell, in_0]); simp (disch := omega) only [x6, fa_lt, fa_le, fa_eq, it_nI, t0, i32_99, i32_8, i32_1, i32_2, i32_3, i32_4, i32_5, i32_6, i32_7, i32_11, i32_12, i32_13, i32_20, i32_30, i32_40, i32_50, i32_m50, i32_m1, i32_m2, i32_64, i32_256, i32_768, i32_4096, i32_600, i32_m600, i32_1000, i32_1201, if_pos, if_neg, reduceIte, b1_s, b2_s, nm_s, gi_n, tn, pl1, mi1, sub1, ml2, ml4, ml40, ml4096, ad, pl2, sub2, sub3, sub4, dA_p1, dA_p3, dS_p2, dS_p3, dJ_p1, dJ_p2, rA_p1, rS_p2])
      · obtain ⟨i, hi, rfl⟩ := of_range (x := a2) (by omega) i2.1 i2.2
        have key : ∀ v : Int32, INV (dA σ (37 + s) i v) (rA τ 13 (40 * s + i) v) := fun v => by
          refine h0.host (dK_A (by omega)) (rK_A (by decide)) (fun k hk => ?_)
          obtain ⟨⟨y1, y2, y3⟩, y8⟩ := h3 k hk
          refine ⟨⟨?_, ?_, ?_⟩, ?_⟩
          · rw [dA_1 (by omega), rA_1 (by decide)]; exact y1
          · rw [dA_1 (by omega), rA_1 (by decide)]; exact y2
          · intro j hj
            by_cases e : k = s
            · subst e
              by_cases e2 : j = i
              · subst e2; rw [dA_s, rA_s]
              · rw [dA_n e2, rA_n (by omega)]; exact y3 j hj
            · rw [dA_1 (by omega), rA_n (by omega)]; exact y3 j hj
          · rw [dA_1 (by omega), dA_1 (by omega), rA_1 (by decide), rA_1 (by decide), rA_1 (by decide)]; exact y8
        refine ⟨1, _, _, ?_, ?_, key (D1m_cut (τ.2 11 s) a3)⟩
        · ((try simp only [D8m_cell, D1m_fill, isNum_0, in_0]); simp (disch := omega) only [x1, i1, fa_lt, fa_le, fa_eq, it_nI, t0, i32_99, i32_8, i32_1, i32_2, i32_3, i32_4, i32_5, i32_6, i32_7, i32_11, i32_12, i32_13, i32_20, i32_30, i32_40, i32_50, i32_m50, i32_m1, i32_m2, i32_64, i32_256, i32_768, i32_4096, i32_600, i32_m600, i32_1000, i32_1201, if_pos, if_neg, reduceIte, b1_s, b2_s, nm_s, gi_n, tn, pl1, mi1, sub1, ml2, ml4, ml40, ml4096, ad, pl2, sub2, sub3, sub4, dA_p1, dA_p3, dS_p2, dS_p3, dJ_p1, dJ_p2, rA_p1, rS_p2])
        · ((try simp only [Rm_cell, in_0]); simp (disch := omega) only [x6, fa_lt, fa_le, fa_eq, it_nI, t0, i32_99, i32_8, i32_1, i32_2, i32_3, i32_4, i32_5, i32_6, i32_7, i32_11, i32_12, i32_13, i32_20, i32_30, i32_40, i32_50, i32_m50, i32_m1, i32_m2, i32_64, i32_256, i32_768, i32_4096, i32_600, i32_m600, i32_1000, i32_1201, if_pos, if_neg, reduceIte, b1_s, b2_s, nm_s, gi_n, tn, pl1, mi1, sub1, ml2, ml4, ml40, ml4096, ad, pl2, sub2, sub3, sub4, dA_p1, dA_p3, dS_p2, dS_p3, dJ_p1, dJ_p2, rA_p1, rS_p2])
          unfold D1m_cut
          simp only [fa_eq, t0, i32_1]
          split
          · rfl
          · split <;> rfl
  · refine ⟨-2, σ, τ, ?_, ?_, h0⟩
    · ((try simp only [D8m_cell, D1m_fill, isNum_0, in_0]); simp (disch := omega) only [fa_lt, fa_le, fa_eq, it_nI, t0, i32_99, i32_8, i32_1, i32_2, i32_3, i32_4, i32_5, i32_6, i32_7, i32_11, i32_12, i32_13, i32_20, i32_30, i32_40, i32_50, i32_m50, i32_m1, i32_m2, i32_64, i32_256, i32_768, i32_4096, i32_600, i32_m600, i32_1000, i32_1201, if_pos, if_neg, reduceIte, b1_s, b2_s, nm_s, gi_n, tn, pl1, mi1, sub1, ml2, ml4, ml40, ml4096, ad, pl2, sub2, sub3, sub4, dA_p1, dA_p3, dS_p2, dS_p3, dJ_p1, dJ_p2, rA_p1, rS_p2])
    · ((try simp only [Rm_cell, in_0]); simp (disch := omega) only [fa_lt, fa_le, fa_eq, it_nI, t0, i32_99, i32_8, i32_1, i32_2, i32_3, i32_4, i32_5, i32_6, i32_7, i32_11, i32_12, i32_13, i32_20, i32_30, i32_40, i32_50, i32_m50, i32_m1, i32_m2, i32_64, i32_256, i32_768, i32_4096, i32_600, i32_m600, i32_1000, i32_1201, if_pos, if_neg, reduceIte, b1_s, b2_s, nm_s, gi_n, tn, pl1, mi1, sub1, ml2, ml4, ml40, ml4096, ad, pl2, sub2, sub3, sub4, dA_p1, dA_p3, dS_p2, dS_p3, dJ_p1, dJ_p2, rA_p1, rS_p2])
theorem item_s {σ : DS} {s n i : Nat} (hs : s < 6) (hn : n ≤ 40) (e : σ.2.1 35 s = nI n) (hi : i < n) : D1m_item σ (nI s) (nI i) = some (σ.2.1 (37 + s) i) := by
  rcases isItem_0 hs hn e (x := nI i) with ⟨i1, i2⟩ | ⟨i1, i2⟩
  · exact absurd ⟨by rw [it_nI (by omega)]; omega, by rw [it_nI (by omega)]; omega⟩ i2
  · unfold D1m_item
    rw [i1]
    ((try simp only [in_0]); simp (disch := omega) only [fa_lt, fa_le, fa_eq, it_nI, t0, i32_99, i32_8, i32_1, i32_2, i32_3, i32_4, i32_5, i32_6, i32_7, i32_11, i32_12, i32_13, i32_20, i32_30, i32_40, i32_50, i32_m50, i32_m1, i32_m2, i32_64, i32_256, i32_768, i32_4096, i32_600, i32_m600, i32_1000, i32_1201, if_pos, if_neg, reduceIte, b1_s, b2_s, nm_s, gi_n, tn, pl1, mi1, sub1, ml2, ml4, ml40, ml4096, ad, pl2, sub2, sub3, sub4, dA_p1, dA_p3, dS_p2, dS_p3, dJ_p1, dJ_p2, rA_p1, rS_p2])
theorem st_lay : ST_lay INV := by
  intro σ τ h a1 a2 a3
  have h0 := h
  obtain ⟨-, -, h3, -, -, -⟩ := h
  by_cases hr : (0 ≤ a1.toInt ∧ a1.toInt < 6) ∧ (0 ≤ a2.toInt ∧ a2.toInt ≤ 2)
  · obtain ⟨s, hs, rfl⟩ := of_range (n := 6) (by omega) hr.1.1 hr.1.2
    obtain ⟨⟨⟨x1, x2, x3⟩, ⟨m, x4, x5, x6⟩, x7⟩, x8⟩ := h3 s hs
    have h2 := hr.2
    by_cases c : (τ.2 11 s).toInt = -1
    · refine ⟨-11, σ, τ, ?_, ?_, h0⟩
      · ((try simp only [D8m_lay, D1m_refusalOfThree, isNum_0, in_0]); simp (disch := omega) only [x1, fa_lt, fa_le, fa_eq, it_nI, t0, i32_99, i32_8, i32_1, i32_2, i32_3, i32_4, i32_5, i32_6, i32_7, i32_11, i32_12, i32_13, i32_20, i32_30, i32_40, i32_50, i32_m50, i32_m1, i32_m2, i32_64, i32_256, i32_768, i32_4096, i32_600, i32_m600, i32_1000, i32_1201, if_pos, if_neg, reduceIte, b1_s, b2_s, nm_s, gi_n, tn, pl1, mi1, sub1, ml2, ml4, ml40, ml4096, ad, pl2, sub2, sub3, sub4, dA_p1, dA_p3, dS_p2, dS_p3, dJ_p1, dJ_p2, rA_p1, rS_p2])
        rfl
      · ((try simp only [Rm_lay, in_0]); simp (disch := omega) only [fa_lt, fa_le, fa_eq, it_nI, t0, i32_99, i32_8, i32_1, i32_2, i32_3, i32_4, i32_5, i32_6, i32_7, i32_11, i32_12, i32_13, i32_20, i32_30, i32_40, i32_50, i32_m50, i32_m1, i32_m2, i32_64, i32_256, i32_768, i32_4096, i32_600, i32_m600, i32_1000, i32_1201, if_pos, if_neg, reduceIte, b1_s, b2_s, nm_s, gi_n, tn, pl1, mi1, sub1, ml2, ml4, ml40, ml4096, ad, pl2, sub2, sub3, sub4, dA_p1, dA_p3, dS_p2, dS_p3, dJ_p1, dJ_p2, rA_p1, rS_p2])
    · by_cases d : (τ.2 11 s).toInt = a2.toInt
      · by_cases q : 0 ≤ a3.toInt ∧ a3.toInt < m - 2
        · obtain ⟨i, hi, rfl⟩ := of_range (x := a3) (n := m - 2) (by omega) q.1 (by omega)
          obtain ⟨r, σ', τ', r1, r2, r3⟩ := st_road σ τ h0 (τ.2 13 (40 * s + i)) (τ.2 13 (40 * s + i + 1)) (τ.2 13 (40 * s + i + 2))
          refine ⟨r, σ', τ', ?_, ?_, r3⟩
          · have e1 : D1m_refusalOfThree σ (nI s) a2 (nI i) = some 0 := by
              ((try simp only [D1m_refusalOfThree, isNum_0, in_0]); simp (disch := omega) only [x1, x5, fa_lt, fa_le, fa_eq, it_nI, t0, i32_99, i32_8, i32_1, i32_2, i32_3, i32_4, i32_5, i32_6, i32_7, i32_11, i32_12, i32_13, i32_20, i32_30, i32_40, i32_50, i32_m50, i32_m1, i32_m2, i32_64, i32_256, i32_768, i32_4096, i32_600, i32_m600, i32_1000, i32_1201, if_pos, if_neg, reduceIte, b1_s, b2_s, nm_s, gi_n, tn, pl1, mi1, sub1, ml2, ml4, ml40, ml4096, ad, pl2, sub2, sub3, sub4, dA_p1, dA_p3, dS_p2, dS_p3, dJ_p1, dJ_p2, rA_p1, rS_p2])
            unfold D8m_lay
            rw [e1]
            ((try simp only [in_0]); simp (disch := omega) only [item_s hs x4 x5, fa_lt, fa_le, fa_eq, it_nI, t0, i32_99, i32_8, i32_1, i32_2, i32_3, i32_4, i32_5, i32_6, i32_7, i32_11, i32_12, i32_13, i32_20, i32_30, i32_40, i32_50, i32_m50, i32_m1, i32_m2, i32_64, i32_256, i32_768, i32_4096, i32_600, i32_m600, i32_1000, i32_1201, if_pos, if_neg, reduceIte, b1_s, b2_s, nm_s, gi_n, tn, pl1, mi1, sub1, ml2, ml4, ml40, ml4096, ad, pl2, sub2, sub3, sub4, dA_p1, dA_p3, dS_p2, dS_p3, dJ_p1, dJ_p2, rA_p1, rS_p2])
            rw [x7 i (by omega), x7 (i + 1) (by omega), x7 (i + 2) (by omega), show 40 * s + (i + 1) = 40 * s + i + 1 by omega, show 40 * s + (i + 2) = 40 * s + i + 2 by omega, r1]
            rfl
          · ((try simp only [Rm_lay, in_0]); simp (disch := omega) only [x6, fa_lt, fa_le, fa_eq, it_nI, t0, i32_99, i32_8, i32_1, i32_2, i32_3, i32_4, i32_5, i32_6, i32_7, i32_11, i32_12, i32_13, i32_20, i32_30, i32_40, i32_50, i32_m50, i32_m1, i32_m2, i32_64, i32_256, i32_768, i32_4096, i32_600, i32_m600, i32_1000, i32_1201, if_pos, if_neg, reduceIte, b1_s, b2_s, nm_s, gi_n, tn, pl1, mi1, sub1, ml2, ml4, ml40, ml4096, ad, pl2, sub2, sub3, sub4, dA_p1, dA_p3, dS_p2, dS_p3, dJ_p1, dJ_p2, rA_p1, rS_p2])
            rw [r2]
            rfl
        · refine ⟨-12, σ, τ, ?_, ?_, h0⟩
          · have e1 : D1m_refusalOfThree σ (nI s) a2 a3 = some (-12) := by
              ((try simp only [D1m_refusalOfThree, isNum_0, in_0]); simp (disch := omega) only [x1, x5, fa_lt, fa_le, fa_eq, it_nI, t0, i32_99, i32_8, i32_1, i32_2, i32_3, i32_4, i32_5, i32_6, i32_7, i32_11, i32_12, i32_13, i32_20, i32_30, i32_40, i32_50, i32_m50, i32_m1, i32_m2, i32_64, i32_256, i32_768, i32_4096, i32_600, i32_m600, i32_1000, i32_1201, if_pos, if_neg, reduceIte, b1_s, b2_s, nm_s, gi_n, tn, pl1, mi1, sub1, ml2, ml4, ml40, ml4096, ad, pl2, sub2, sub3, sub4, dA_p1, dA_p3, dS_p2, dS_p3, dJ_p1, dJ_p2, rA_p1, rS_p2])
              repeat' split
              all_goals first | rfl | omega
            unfold D8m_lay
            rw [e1]
            rfl
          · ((try simp only [Rm_lay, in_0]); simp (disch := omega) only [x6, fa_lt, fa_le, fa_eq, it_nI, t0, i32_99, i32_8, i32_1, i32_2, i32_3, i32_4, i32_5, i32_6, i32_7, i32_11, i32_12, i32_13, i32_20, i32_30, i32_40, i32_50, i32_m50, i32_m1, i32_m2, i32_64, i32_256, i32_768, i32_4096, i32_600, i32_m600, i32_1000, i32_1201, if_pos, if_neg, reduceIte, b1_s, b2_s, nm_s, gi_n, tn, pl1, mi1, sub1, ml2, ml4, ml40, ml4096, ad, pl2, sub2, sub3, sub4, dA_p1, dA_p3, dS_p2, dS_p3, dJ_p1, dJ_p2, rA_p1, rS_p2])
            repeat' split
            all_goals first | rfl | omega
      · refine ⟨-13, σ, τ, ?_, ?_, h0⟩
        · ((try simp only [D8m_lay, D1m_refusalOfThree, isNum_0, in_0]); simp (disch := omega) only [x1, fa_lt, fa_le, fa_eq, it_nI, t0, i32_99, i32_8, i32_1, i32_2, i32_3, i32_4, i32_5, i32_6, i32_7, i32_11, i32_12, i32_13, i32_20, i32_30, i32_40, i32_50, i32_m50, i32_m1, i32_m2, i32_64, i32_256, i32_768, i32_4096, i32_600, i32_m600, i32_1000, i32_1201, if_pos, if_neg, reduceIte, b1_s, b2_s, nm_s, gi_n, tn, pl1, mi1, sub1, ml2, ml4, ml40, ml4096, ad, pl2, sub2, sub3, sub4, dA_p1, dA_p3, dS_p2, dS_p3, dJ_p1, dJ_p2, rA_p1, rS_p2])
          rfl
        · ((try simp only [Rm_lay, in_0]); simp (disch := omega) only [fa_lt, fa_le, fa_eq, it_nI, t0, i32_99, i32_8, i32_1, i32_2, i32_3, i32_4, i32_5, i32_6, i32_7, i32_11, i32_12, i32_13, i32_20, i32_30, i32_40, i32_50, i32_m50, i32_m1, i32_m2, i32_64, i32_256, i32_768, i32_4096, i32_600, i32_m600, i32_1000, i32_1201, if_pos, if_neg, reduceIte, b1_s, b2_s, nm_s, gi_n, tn, pl1, mi1, sub1, ml2, ml4, ml40, ml4096, ad, pl2, sub2, sub3, sub4, dA_p1, dA_p3, dS_p2, dS_p3, dJ_p1, dJ_p2, rA_p1, rS_p2])
  · refine ⟨-2, σ, τ, ?_, ?_, h0⟩
    · have e1 : D1m_refusalOfThree σ a1 a2 a3 = some (-2) := by
        ((try simp only [D1m_refusalOfThree, isNum_0, in_0]); simp (disch := omega) only [fa_lt, fa_le, fa_eq, it_nI, t0, i32_99, i32_8, i32_1, i32_2, i32_3, i32_4, i32_5, i32_6, i32_7, i32_11, i32_12, i32_13, i32_20, i32_30, i32_40, i32_50, i32_m50, i32_m1, i32_m2, i32_64, i32_256, i32_768, i32_4096, i32_600, i32_m600, i32_1000, i32_1201, if_pos, if_neg, reduceIte, b1_s, b2_s, nm_s, gi_n, tn, pl1, mi1, sub1, ml2, ml4, ml40, ml4096, ad, pl2, sub2, sub3, sub4, dA_p1, dA_p3, dS_p2, dS_p3, dJ_p1, dJ_p2, rA_p1, rS_p2])
        repeat' split
        all_goals first | rfl | omega
      unfold D8m_lay
      rw [e1]
      rfl
    · ((try simp only [Rm_lay, in_0]); simp (disch := omega) only [fa_lt, fa_le, fa_eq, it_nI, t0, i32_99, i32_8, i32_1, i32_2, i32_3, i32_4, i32_5, i32_6, i32_7, i32_11, i32_12, i32_13, i32_20, i32_30, i32_40, i32_50, i32_m50, i32_m1, i32_m2, i32_64, i32_256, i32_768, i32_4096, i32_600, i32_m600, i32_1000, i32_1201, if_pos, if_neg, reduceIte, b1_s, b2_s, nm_s, gi_n, tn, pl1, mi1, sub1, ml2, ml4, ml40, ml4096, ad, pl2, sub2, sub3, sub4, dA_p1, dA_p3, dS_p2, dS_p3, dJ_p1, dJ_p2, rA_p1, rS_p2])
      repeat' split
      all_goals first | rfl | omega
/-! ===== shelves ===== -/
theorem isOne_k : ∀ c : Nat, c ≤ 5 → ∀ o : Nat, o ≤ 8 → D1m_isOne (nI c) (nI o) = some (if o ≤ 5 then Rm_isOf (nI c) (nI o) else 0) := by
  intro c hc o ho
  unfold D1m_isOne
  rw [show fuel = 999990 + 10 from rfl]
  generalize 999990 = n
  rcases (show c = 0 ∨ c = 1 ∨ c = 2 ∨ c = 3 ∨ c = 4 ∨ c = 5 by omega) with rfl | rfl | rfl | rfl | rfl | rfl <;> rcases (show o = 0 ∨ o = 1 ∨ o = 2 ∨ o = 3 ∨ o = 4 ∨ o = 5 ∨ o = 6 ∨ o = 7 ∨ o = 8 by omega) with rfl | rfl | rfl | rfl | rfl | rfl | rfl | rfl | rfl <;> rfl
theorem isOne_r : ∀ c : Nat, c ≤ 2 → ∀ o : Nat, o ≤ 8 → D1m_isOne (nI (6 + c)) (nI o) = some (if o = 6 + c then 1 else 0) := by
  intro c hc o ho
  unfold D1m_isOne
  rw [show fuel = 999990 + 10 from rfl]
  generalize 999990 = n
  rcases (show c = 0 ∨ c = 1 ∨ c = 2 by omega) with rfl | rfl | rfl <;> rcases (show o = 0 ∨ o = 1 ∨ o = 2 ∨ o = 3 ∨ o = 4 ∨ o = 5 ∨ o = 6 ∨ o = 7 ∨ o = 8 by omega) with rfl | rfl | rfl | rfl | rfl | rfl | rfl | rfl | rfl <;> rfl
theorem st_taken : ST_taken INV := by
  intro σ τ h a1 a2
  have h0 := h
  obtain ⟨-, -, h3, -, -, -⟩ := h
  by_cases hr : (0 ≤ a1.toInt ∧ a1.toInt < 6) ∧ (0 ≤ a2.toInt ∧ a2.toInt ≤ 8)
  · obtain ⟨s, hs, rfl⟩ := of_range (n := 6) (by omega) hr.1.1 hr.1.2
    obtain ⟨o, ho, rfl⟩ := of_range (x := a2) (n := 9) (by omega) hr.2.1 (by omega)
    obtain ⟨-, x8⟩ := h3 s hs
    rcases x8 with ⟨x1, x2⟩ | ⟨c, hc, x1, x2, x3, x4⟩ | ⟨c, hc, x1, x2, x3⟩
    · refine ⟨-11, σ, τ, ⟨?_, rfl⟩, ⟨?_, rfl⟩, h0⟩
      · ((try simp only [D8m_taken, D1m_heldFor, isNum_0, in_0]); simp (disch := omega) only [x2, fa_lt, fa_le, fa_eq, it_nI, t0, i32_99, i32_8, i32_1, i32_2, i32_3, i32_4, i32_5, i32_6, i32_7, i32_11, i32_12, i32_13, i32_20, i32_30, i32_40, i32_50, i32_m50, i32_m1, i32_m2, i32_64, i32_256, i32_768, i32_4096, i32_600, i32_m600, i32_1000, i32_1201, if_pos, if_neg, reduceIte, b1_s, b2_s, nm_s, gi_n, tn, pl1, mi1, sub1, ml2, ml4, ml40, ml4096, ad, pl2, sub2, sub3, sub4, dA_p1, dA_p3, dS_p2, dS_p3, dJ_p1, dJ_p2, rA_p1, rS_p2])
      · ((try simp only [Rm_taken, in_0]); simp (disch := omega) only [x1, fa_lt, fa_le, fa_eq, it_nI, t0, i32_99, i32_8, i32_1, i32_2, i32_3, i32_4, i32_5, i32_6, i32_7, i32_11, i32_12, i32_13, i32_20, i32_30, i32_40, i32_50, i32_m50, i32_m1, i32_m2, i32_64, i32_256, i32_768, i32_4096, i32_600, i32_m600, i32_1000, i32_1201, if_pos, if_neg, reduceIte, b1_s, b2_s, nm_s, gi_n, tn, pl1, mi1, sub1, ml2, ml4, ml40, ml4096, ad, pl2, sub2, sub3, sub4, dA_p1, dA_p3, dS_p2, dS_p3, dJ_p1, dJ_p2, rA_p1, rS_p2])
    · have q := isOne_k c hc o (by omega)
      by_cases e : o ≤ 5
      · rw [if_pos e] at q
        by_cases w : Rm_isOf (nI c) (nI o) = 0
        · rw [w] at q
          refine ⟨-13, σ, τ, ⟨?_, rfl⟩, ⟨?_, rfl⟩, h0⟩
          · ((try simp only [D8m_taken, D1m_heldFor, isNum_0, in_0]); simp (disch := omega) only [x3, q, fa_lt, fa_le, fa_eq, it_nI, t0, i32_99, i32_8, i32_1, i32_2, i32_3, i32_4, i32_5, i32_6, i32_7, i32_11, i32_12, i32_13, i32_20, i32_30, i32_40, i32_50, i32_m50, i32_m1, i32_m2, i32_64, i32_256, i32_768, i32_4096, i32_600, i32_m600, i32_1000, i32_1201, if_pos, if_neg, reduceIte, b1_s, b2_s, nm_s, gi_n, tn, pl1, mi1, sub1, ml2, ml4, ml40, ml4096, ad, pl2, sub2, sub3, sub4, dA_p1, dA_p3, dS_p2, dS_p3, dJ_p1, dJ_p2, rA_p1, rS_p2])
          · ((try simp only [Rm_taken, in_0]); simp (disch := omega) only [x1, x2, w, fa_lt, fa_le, fa_eq, it_nI, t0, i32_99, i32_8, i32_1, i32_2, i32_3, i32_4, i32_5, i32_6, i32_7, i32_11, i32_12, i32_13, i32_20, i32_30, i32_40, i32_50, i32_m50, i32_m1, i32_m2, i32_64, i32_256, i32_768, i32_4096, i32_600, i32_m600, i32_1000, i32_1201, if_pos, if_neg, reduceIte, b1_s, b2_s, nm_s, gi_n, tn, pl1, mi1, sub1, ml2, ml4, ml40, ml4096, ad, pl2, sub2, sub3, sub4, dA_p1, dA_p3, dS_p2, dS_p3, dJ_p1, dJ_p2, rA_p1, rS_p2])
        · have w1 : Rm_isOf (nI c) (nI o) = 1 := by
            unfold Rm_isOf at w ⊢
            repeat' split
            all_goals simp_all
          rw [w1] at q
          refine ⟨τ.2 16 s, σ, τ, ⟨?_, rfl⟩, ⟨?_, rfl⟩, h0⟩
          · ((try simp only [D8m_taken, D1m_heldFor, isNum_0, in_0]); simp (disch := omega) only [x3, q, x4, fa_lt, fa_le, fa_eq, it_nI, t0, i32_99, i32_8, i32_1, i32_2, i32_3, i32_4, i32_5, i32_6, i32_7, i32_11, i32_12, i32_13, i32_20, i32_30, i32_40, i32_50, i32_m50, i32_m1, i32_m2, i32_64, i32_256, i32_768, i32_4096, i32_600, i32_m600, i32_1000, i32_1201, if_pos, if_neg, reduceIte, b1_s, b2_s, nm_s, gi_n, tn, pl1, mi1, sub1, ml2, ml4, ml40, ml4096, ad, pl2, sub2, sub3, sub4, dA_p1, dA_p3, dS_p2, dS_p3, dJ_p1, dJ_p2, rA_p1, rS_p2])
          · ((try simp only [Rm_taken, in_0]); simp (disch := omega) only [x1, x2, w1, fa_lt, fa_le, fa_eq, it_nI, t0, i32_99, i32_8, i32_1, i32_2, i32_3, i32_4, i32_5, i32_6, i32_7, i32_11, i32_12, i32_13, i32_20, i32_30, i32_40, i32_50, i32_m50, i32_m1, i32_m2, i32_64, i32_256, i32_768, i32_4096, i32_600, i32_m600, i32_1000, i32_1201, if_pos, if_neg, reduceIte, b1_s, b2_s, nm_s, gi_n, tn, pl1, mi1, sub1, ml2, ml4, ml40, ml4096, ad, pl2, sub2, sub3, sub4, dA_p1, dA_p3, dS_p2, dS_p3, dJ_p1, dJ_p2, rA_p1, rS_p2])
      · rw [if_neg e] at q
        refine ⟨-13, σ, τ, ⟨?_, rfl⟩, ⟨?_, rfl⟩, h0⟩
        · ((try simp only [D8m_taken, D1m_heldFor, isNum_0, in_0]); simp (disch := omega) only [x3, q, fa_lt, fa_le, fa_eq, it_nI, t0, i32_99, i32_8, i32_1, i32_2, i32_3, i32_4, i32_5, i32_6, i32_7, i32_11, i32_12, i32_13, i32_20, i32_30, i32_40, i32_50, i32_m50, i32_m1, i32_m2, i32_64, i32_256, i32_768, i32_4096, i32_600, i32_m600, i32_1000, i32_1201, if_pos, if_neg, reduceIte, b1_s, b2_s, nm_s, gi_n, tn, pl1, mi1, sub1, ml2, ml4, ml40, ml4096, ad, pl2, sub2, sub3, sub4, dA_p1, dA_p3, dS_p2, dS_p3, dJ_p1, dJ_p2, rA_p1, rS_p2])
        · ((try simp only [Rm_taken, in_0]); simp (disch := omega) only [x1, fa_lt, fa_le, fa_eq, it_nI, t0, i32_99, i32_8, i32_1, i32_2, i32_3, i32_4, i32_5, i32_6, i32_7, i32_11, i32_12, i32_13, i32_20, i32_30, i32_40, i32_50, i32_m50, i32_m1, i32_m2, i32_64, i32_256, i32_768, i32_4096, i32_600, i32_m600, i32_1000, i32_1201, if_pos, if_neg, reduceIte, b1_s, b2_s, nm_s, gi_n, tn, pl1, mi1, sub1, ml2, ml4, ml40, ml4096, ad, pl2, sub2, sub3, sub4, dA_p1, dA_p3, dS_p2, dS_p3, dJ_p1, dJ_p2, rA_p1, rS_p2])
    · have q := isOne_r c hc o (by omega)
      by_cases e : o = 6 + c
      · rw [if_pos e] at q
        refine ⟨τ.2 16 s, σ, τ, ⟨?_, rfl⟩, ⟨?_, rfl⟩, h0⟩
        · ((try simp only [D8m_taken, D1m_heldFor, isNum_0, in_0]); simp (disch := omega) only [x2, q, x3, fa_lt, fa_le, fa_eq, it_nI, t0, i32_99, i32_8, i32_1, i32_2, i32_3, i32_4, i32_5, i32_6, i32_7, i32_11, i32_12, i32_13, i32_20, i32_30, i32_40, i32_50, i32_m50, i32_m1, i32_m2, i32_64, i32_256, i32_768, i32_4096, i32_600, i32_m600, i32_1000, i32_1201, if_pos, if_neg, reduceIte, b1_s, b2_s, nm_s, gi_n, tn, pl1, mi1, sub1, ml2, ml4, ml40, ml4096, ad, pl2, sub2, sub3, sub4, dA_p1, dA_p3, dS_p2, dS_p3, dJ_p1, dJ_p2, rA_p1, rS_p2])
        · ((try simp only [Rm_taken, in_0]); simp (disch := omega) only [x1, fa_lt, fa_le, fa_eq, it_nI, t0, i32_99, i32_8, i32_1, i32_2, i32_3, i32_4, i32_5, i32_6, i32_7, i32_11, i32_12, i32_13, i32_20, i32_30, i32_40, i32_50, i32_m50, i32_m1, i32_m2, i32_64, i32_256, i32_768, i32_4096, i32_600, i32_m600, i32_1000, i32_1201, if_pos, if_neg, reduceIte, b1_s, b2_s, nm_s, gi_n, tn, pl1, mi1, sub1, ml2, ml4, ml40, ml4096, ad, pl2, sub2, sub3, sub4, dA_p1, dA_p3, dS_p2, dS_p3, dJ_p1, dJ_p2, rA_p1, rS_p2])
      · rw [if_neg e] at q
        refine ⟨-13, σ, τ, ⟨?_, rfl⟩, ⟨?_, rfl⟩, h0⟩
        · ((try simp only [D8m_taken, D1m_heldFor, isNum_0, in_0]); simp (disch := omega) only [x2, q, fa_lt, fa_le, fa_eq, it_nI, t0, i32_99, i32_8, i32_1, i32_2, i32_3, i32_4, i32_5, i32_6, i32_7, i32_11, i32_12, i32_13, i32_20, i32_30, i32_40, i32_50, i32_m50, i32_m1, i32_m2, i32_64, i32_256, i32_768, i32_4096, i32_600, i32_m600, i32_1000, i32_1201, if_pos, if_neg, reduceIte, b1_s, b2_s, nm_s, gi_n, tn, pl1, mi1, sub1, ml2, ml4, ml40, ml4096, ad, pl2, sub2, sub3, sub4, dA_p1, dA_p3, dS_p2, dS_p3, dJ_p1, dJ_p2, rA_p1, rS_p2])
        · by_cases e2 : 6 ≤ o
          · ((try simp only [Rm_taken, in_0]); simp (disch := omega) only [x1, fa_lt, fa_le, fa_eq, it_nI, t0, i32_99, i32_8, i32_1, i32_2, i32_3, i32_4, i32_5, i32_6, i32_7, i32_11, i32_12, i32_13, i32_20, i32_30, i32_40, i32_50, i32_m50, i32_m1, i32_m2, i32_64, i32_256, i32_768, i32_4096, i32_600, i32_m600, i32_1000, i32_1201, if_pos, if_neg, reduceIte, b1_s, b2_s, nm_s, gi_n, tn, pl1, mi1, sub1, ml2, ml4, ml40, ml4096, ad, pl2, sub2, sub3, sub4, dA_p1, dA_p3, dS_p2, dS_p3, dJ_p1, dJ_p2, rA_p1, rS_p2])
          · ((try simp only [Rm_taken, in_0]); simp (disch := omega) only [x1, fa_lt, fa_le, fa_eq, it_nI, t0, i32_99, i32_8, i32_1, i32_2, i32_3, i32_4, i32_5, i32_6, i32_7, i32_11, i32_12, i32_13, i32_20, i32_30, i32_40, i32_50, i32_m50, i32_m1, i32_m2, i32_64, i32_256, i32_768, i32_4096, i32_600, i32_m600, i32_1000, i32_1201, if_pos, if_neg, reduceIte, b1_s, b2_s, nm_s, gi_n, tn, pl1, mi1, sub1, ml2, ml4, ml40, ml4096, ad, pl2, sub2, sub3, sub4, dA_p1, dA_p3, dS_p2, dS_p3, dJ_p1, dJ_p2, rA_p1, rS_p2])
  · refine ⟨-2, σ, τ, ⟨?_, rfl⟩, ⟨?_, rfl⟩, h0⟩
    · ((try simp only [D8m_taken, D1m_heldFor, isNum_0, in_0]); simp (disch := omega) only [fa_lt, fa_le, fa_eq, it_nI, t0, i32_99, i32_8, i32_1, i32_2, i32_3, i32_4, i32_5, i32_6, i32_7, i32_11, i32_12, i32_13, i32_20, i32_30, i32_40, i32_50, i32_m50, i32_m1, i32_m2, i32_64, i32_256, i32_768, i32_4096, i32_600, i32_m600, i32_1000, i32_1201, if_pos, if_neg, reduceIte, b1_s, b2_s, nm_s, gi_n, tn, pl1, mi1, sub1, ml2, ml4, ml40, ml4096, ad, pl2, sub2, sub3, sub4, dA_p1, dA_p3, dS_p2, dS_p3, dJ_p1, dJ_p2, rA_p1, rS_p2])
      repeat' split
      all_goals first | rfl | omega
    · ((try simp only [Rm_taken, in_0]); simp (disch := omega) only [fa_lt, fa_le, fa_eq, it_nI, t0, i32_99, i32_8, i32_1, i32_2, i32_3, i32_4, i32_5, i32_6, i32_7, i32_11, i32_12, i32_13, i32_20, i32_30, i32_40, i32_50, i32_m50, i32_m1, i32_m2, i32_64, i32_256, i32_768, i32_4096, i32_600, i32_m600, i32_1000, i32_1201, if_pos, if_neg, reduceIte, b1_s, b2_s, nm_s, gi_n, tn, pl1, mi1, sub1, ml2, ml4, ml40, ml4096, ad, pl2, sub2, sub3, sub4, dA_p1, dA_p3, dS_p2, dS_p3, dJ_p1, dJ_p2, rA_p1, rS_p2])
      repeat' split
      all_goals first | rfl | omega

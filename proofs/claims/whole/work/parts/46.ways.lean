/-! ===== shifts, levels ===== -/
theorem shr_n {w j : Nat} (hw : w < 2 ^ 31) (hj : j < 32) : nI w >>> (nI j &&& 31) = nI (w / 2 ^ j) := pk_shrN hw _ j (s_l j hj)
theorem shl_n {a j : Nat} (hj : j < 32) (h : a * 2 ^ j < 2 ^ 32) : nI a <<< (nI j &&& 31) = nI (a * 2 ^ j) := pk_shlN _ j (s_l j hj) h
theorem shl1 {j : Nat} (hj : j < 31) : (1 : Int32) <<< (nI j &&& 31) = nI (2 ^ j) := by
  have := shl_n (a := 1) (j := j) (by omega) (by rw [Nat.one_mul]; exact Nat.pow_lt_pow_right (by decide) (by omega))
  rw [Nat.one_mul] at this
  exact this
theorem tb_dm (w j : Nat) : nI (w / 2 ^ j % 2) = bI (w.testBit j) := by
  rw [Nat.testBit_eq_decide_div_mod_eq]
  rcases Nat.mod_two_eq_zero_or_one (w / 2 ^ j) with h | h <;> rw [h] <;> rfl
theorem bit1 {w j : Nat} (hw : w < 2 ^ 31) (hj : j < 32) : (nI w >>> (nI j &&& 31)) &&& (1 : Int32) = bI (w.testBit j) := by
  rw [shr_n hw hj, pk_andN (m := 1) (by have := Nat.div_le_self w (2 ^ j); omega) 1 (by decide), Nat.pow_one, tb_dm]
theorem tb64 {w b i : Nat} (hb : b < 64) : (64 * w + b).testBit i = if i < 6 then b.testBit i else w.testBit (i - 6) := Nat.testBit_two_pow_mul_add (i := 6) w hb i
theorem tb_q (q i : Nat) : q.testBit i = if i < 6 then (q % 64).testBit i else (q / 64).testBit (i - 6) := by
  have := tb64 (w := q / 64) (b := q % 64) (i := i) (Nat.mod_lt _ (by decide))
  rw [Nat.div_add_mod] at this
  exact this
/-- the places that have a level's bit, of a word -/
def hv (w l : Nat) : Int64 := if l < 6 then zWITH l else if w.testBit (l - 6) then -1 else 0
theorem zW_b : ∀ l, l < 6 → ∀ b, b < 64 → bL (zWITH l) b = b.testBit l := by decide +kernel
theorem bL_hv {w l b : Nat} (hb : b < 64) : bL (hv w l) b = (64 * w + b).testBit l := by
  rw [tb64 hb]
  unfold hv
  by_cases c : l < 6
  · rw [if_pos c, if_pos c, zW_b l c b hb]
  · rw [if_neg c, if_neg c]
    cases w.testBit (l - 6)
    · exact bL_0 b
    · exact bL_m1 b hb
theorem sub6 {l : Nat} (h : 6 ≤ l) : nI l - (6 : Int32) = nI (l - 6) := pk_sub (b := 6) h
theorem having_n {w l : Nat} (hw : w < 64) (hl : l < 12) : D7m_having (nI w) (nI l) = some (hv w l) := by
  unfold D7m_having hv
  by_cases c : l < 6
  · rw [if_pos c]
    ((try simp only [in_0]); simp (disch := omega) only [fa_lt, fa_le, fa_eq, it_nI, t0, i32_99, i32_8, i32_1, i32_2, i32_3, i32_4, i32_5, i32_6, i32_7, i32_11, i32_12, i32_13, i32_20, i32_30, i32_40, i32_50, i32_m50, i32_m1, i32_m2, i32_64, i32_256, i32_768, i32_4096, i32_600, i32_m600, i32_1000, i32_1201, if_pos, if_neg, reduceIte, b1_s, b2_s, nm_s, gi_n, tn, pl1, mi1, sub1, ml2, ml4, ml40, ml4096, ad, pl2, sub2, sub3, sub4, dA_p1, dA_p3, dS_p2, dS_p3, dJ_p1, dJ_p2, rA_p1, rS_p2])
  · rw [if_neg c, sub6 (by omega), bit1 (by omega) (by omega)]
    ((try simp only [in_0]); simp (disch := omega) only [fa_lt, fa_le, fa_eq, it_nI, t0, i32_99, i32_8, i32_1, i32_2, i32_3, i32_4, i32_5, i32_6, i32_7, i32_11, i32_12, i32_13, i32_20, i32_30, i32_40, i32_50, i32_m50, i32_m1, i32_m2, i32_64, i32_256, i32_768, i32_4096, i32_600, i32_m600, i32_1000, i32_1201, if_pos, if_neg, reduceIte, b1_s, b2_s, nm_s, gi_n, tn, pl1, mi1, sub1, ml2, ml4, ml40, ml4096, ad, pl2, sub2, sub3, sub4, dA_p1, dA_p3, dS_p2, dS_p3, dJ_p1, dJ_p2, rA_p1, rS_p2])
    cases w.testBit (l - 6) <;> rfl
theorem bL_ushr (x : Int64) {m b : Nat} (hm : m < 64) : bL ((x.toUInt64 >>> ((nI m).toInt64.toUInt64 &&& Int64.toUInt64 63)).toInt64) b = bL x (b + m) := by
  rw [← uN_bL, ← uN_bL, uN_sk x hm, Nat.testBit_div_two_pow]
theorem bL_shl (x : Int64) {m b : Nat} (hm : m < 64) (hb : b < 64) : bL (x <<< ((nI m).toInt64 &&& 63)) b = (decide (m ≤ b) && bL x (b - m)) := by
  obtain ⟨n, hn, rfl⟩ := wb_of x
  rw [wb_shl n hm]
  unfold bL
  rw [lN_bv, lN_bv, BitVec.getLsbD_ofNat, BitVec.getLsbD_ofNat, ← Nat.shiftLeft_eq, Nat.testBit_shiftLeft, decide_eq_true hb, Bool.true_and, decide_eq_true (by omega : b - m < 64), Bool.true_and]
/-! one bit turned over -/
theorem fl_t {q l i : Nat} : (q ^^^ 2 ^ l).testBit i = if i = l then !q.testBit i else q.testBit i := by
  rw [Nat.testBit_xor, Nat.testBit_two_pow]
  by_cases e : i = l
  · rw [if_pos e, decide_eq_true e.symm, Bool.xor_true]
  · rw [if_neg e, decide_eq_false (fun h => e h.symm), Bool.xor_false]
theorem fl_lt {q l n : Nat} (hq : q < 2 ^ n) (hl : l < n) : q ^^^ 2 ^ l < 2 ^ n := Nat.xor_lt_two_pow hq (Nat.pow_lt_pow_right (by decide) hl)
theorem fl_lo {w b l : Nat} (hb : b < 64) (hl : l < 6) : (64 * w + b) ^^^ 2 ^ l = 64 * w + (b ^^^ 2 ^ l) := by
  have hb2 : b ^^^ 2 ^ l < 64 := fl_lt (n := 6) hb hl
  apply Nat.eq_of_testBit_eq
  intro i
  rw [fl_t, tb64 hb, tb64 hb2, fl_t]
  by_cases c : i < 6
  · rw [if_pos c, if_pos c]
  · rw [if_neg c, if_neg c, if_neg (by omega)]
theorem fl_hi {w b l : Nat} (hb : b < 64) (hl : 6 ≤ l) : (64 * w + b) ^^^ 2 ^ l = 64 * (w ^^^ 2 ^ (l - 6)) + b := by
  apply Nat.eq_of_testBit_eq
  intro i
  rw [fl_t, tb64 hb, tb64 hb, fl_t]
  by_cases c : i < 6
  · rw [if_pos c, if_pos c, if_neg (by omega)]
  · rw [if_neg c, if_neg c]
    by_cases e : i = l
    · rw [if_pos e, if_pos (by omega)]
    · rw [if_neg e, if_neg (by omega)]
theorem fl6a : ∀ b, b < 64 → ∀ l, l < 6 → (b.testBit l = true → 2 ^ l ≤ b ∧ b ^^^ 2 ^ l = b - 2 ^ l) ∧ (b.testBit l = false → b ^^^ 2 ^ l = b + 2 ^ l ∧ b + 2 ^ l < 64) ∧ (decide (2 ^ l ≤ b) && !(b - 2 ^ l).testBit l) = b.testBit l ∧ (decide (b + 2 ^ l < 64) && (b + 2 ^ l).testBit l) = !b.testBit l := by decide +kernel
theorem clr6 : ∀ w, w < 64 → ∀ j, j < 6 → nI w &&& (((1 : Int32) <<< (nI j &&& 31)) ^^^ (-1 : Int32)) = nI (if w.testBit j then w ^^^ 2 ^ j else w) := by decide +kernel
theorem set6 : ∀ w, w < 64 → ∀ j, j < 6 → nI w ||| ((1 : Int32) <<< (nI j &&& 31)) = nI (if w.testBit j then w else w ^^^ 2 ^ j) := by decide +kernel
theorem fl_q {q l : Nat} (hq : q < 4096) (hl : l < 12) : (l < 6 → (q ^^^ 2 ^ l) / 64 = q / 64 ∧ (q ^^^ 2 ^ l) % 64 = (q % 64) ^^^ 2 ^ l) ∧ (6 ≤ l → (q ^^^ 2 ^ l) / 64 = (q / 64) ^^^ 2 ^ (l - 6) ∧ (q ^^^ 2 ^ l) % 64 = q % 64) := by
  have hm := Nat.mod_lt q (show 0 < 64 by decide)
  constructor
  · intro c
    have := fl_lo (w := q / 64) hm c
    rw [Nat.div_add_mod] at this
    have h2 : (q % 64) ^^^ 2 ^ l < 64 := fl_lt (n := 6) hm c
    rw [this]
    omega
  · intro c
    have := fl_hi (w := q / 64) hm c
    rw [Nat.div_add_mod] at this
    rw [this]
    omega
/-! raise and lower -/
def rsW (σ : DS) (k f l w : Nat) : Int64 := if l < 6 then σ.2.2 (79 + k) w ||| ((σ.2.2 (79 + f) w &&& (hv w l ^^^ (-1))) <<< ((nI (2 ^ l)).toInt64 &&& 63)) else if w.testBit (l - 6) then σ.2.2 (79 + k) w ||| σ.2.2 (79 + f) (w ^^^ 2 ^ (l - 6)) else σ.2.2 (79 + k) w
theorem raise_n {σ : DS} {k f l : Nat} (hl : l < 12) : ∃ σ', D7m_raise k σ f (nI l) = some σ' ∧ dK_ (fun c => c = 79 + k) σ σ' ∧ ∀ q, q < 4096 → wb σ' k q = (wb σ k q || (q.testBit l && wb σ f (q ^^^ 2 ^ l))) := by
  refine ⟨jFill σ (79 + k) 64 (rsW σ k f l), ?_, dK_JF rfl, fun q hq => ?_⟩
  · unfold D7m_raise
    have e0 : σ = jFill σ (79 + k) 0 (rsW σ k f l) := jFill_0.symm
    refine Eq.trans ?_ (it2_seq (f := D7s_raise_2 k f (nI l) (fun τ_18 => some τ_18)) (fun j => nI j) (fun j => jFill σ (79 + k) j (rsW σ k f l)) 64 _ (by unfold fuel; omega) (fun j hj rc => ?_) (fun rc => ?_))
    · conv => lhs; rw [e0]
      rfl
    · unfold D7s_raise_2
      by_cases c : l < 6
      · ((try simp only [in_0]); simp (disch := omega) only [having_n hj hl, shl1, fa_lt, fa_le, fa_eq, it_nI, t0, i32_99, i32_8, i32_1, i32_2, i32_3, i32_4, i32_5, i32_6, i32_7, i32_11, i32_12, i32_13, i32_20, i32_30, i32_40, i32_50, i32_m50, i32_m1, i32_m2, i32_64, i32_256, i32_768, i32_4096, i32_600, i32_m600, i32_1000, i32_1201, if_pos, if_neg, reduceIte, b1_s, b2_s, nm_s, gi_n, tn, pl1, mi1, sub1, ml2, ml4, ml40, ml4096, ad, pl2, sub2, sub3, sub4, dA_p1, dA_p3, dS_p2, dS_p3, dJ_p1, dJ_p2, rA_p1, rS_p2])
        rw [jFill_o (Nat.le_refl j), jFill_o (Nat.le_refl j), show σ.2.2 (79 + k) j ||| ((σ.2.2 (79 + f) j &&& (hv j l ^^^ (-1))) <<< ((nI (2 ^ l)).toInt64 &&& 63)) = rsW σ k f l j by unfold rsW; rw [if_pos c], jFill_s]
      · rw [sub6 (by omega), clr6 j hj (l - 6) (by omega)]
        cases b : j.testBit (l - 6)
        · simp only [Bool.false_eq_true, reduceIte]
          ((try simp only [in_0]); simp (disch := omega) only [fa_lt, fa_le, fa_eq, it_nI, t0, i32_99, i32_8, i32_1, i32_2, i32_3, i32_4, i32_5, i32_6, i32_7, i32_11, i32_12, i32_13, i32_20, i32_30, i32_40, i32_50, i32_m50, i32_m1, i32_m2, i32_64, i32_256, i32_768, i32_4096, i32_600, i32_m600, i32_1000, i32_1201, if_pos, if_neg, reduceIte, b1_s, b2_s, nm_s, gi_n, tn, pl1, mi1, sub1, ml2, ml4, ml40, ml4096, ad, pl2, sub2, sub3, sub4, dA_p1, dA_p3, dS_p2, dS_p3, dJ_p1, dJ_p2, rA_p1, rS_p2])
          rw [jFill_k (by unfold rsW; rw [if_neg c, b]; rfl)]
        · have h3 := (fl6a j hj (l - 6) (by omega)).1 b
          have h4 : 0 < 2 ^ (l - 6) := Nat.two_pow_pos _
          have h5 : ¬ (j ^^^ 2 ^ (l - 6)) = j := by rw [h3.2]; omega
          have h6 : j ^^^ 2 ^ (l - 6) < j := by rw [h3.2]; omega
          have h7 : (j ^^^ 2 ^ (l - 6)).testBit (l - 6) = false := by rw [fl_t, if_pos rfl, b]; rfl
          simp only [reduceIte]
          ((try simp only [in_0]); simp (disch := omega) only [fa_lt, fa_le, fa_eq, it_nI, t0, i32_99, i32_8, i32_1, i32_2, i32_3, i32_4, i32_5, i32_6, i32_7, i32_11, i32_12, i32_13, i32_20, i32_30, i32_40, i32_50, i32_m50, i32_m1, i32_m2, i32_64, i32_256, i32_768, i32_4096, i32_600, i32_m600, i32_1000, i32_1201, if_pos, if_neg, reduceIte, b1_s, b2_s, nm_s, gi_n, tn, pl1, mi1, sub1, ml2, ml4, ml40, ml4096, ad, pl2, sub2, sub3, sub4, dA_p1, dA_p3, dS_p2, dS_p3, dJ_p1, dJ_p2, rA_p1, rS_p2])
          have h8 : (jFill σ (79 + k) j (rsW σ k f l)).2.2 (79 + f) (j ^^^ 2 ^ (l - 6)) = σ.2.2 (79 + f) (j ^^^ 2 ^ (l - 6)) := by
            by_cases e : f = k
            · subst e
              rw [jFill_in h6]
              unfold rsW
              rw [if_neg c, h7]
              rfl
            · rw [jFill_ne (by omega)]
          rw [h8, jFill_o (Nat.le_refl j), show σ.2.2 (79 + k) j ||| σ.2.2 (79 + f) (j ^^^ 2 ^ (l - 6)) = rsW σ k f l j by unfold rsW; rw [if_neg c, b]; rfl, jFill_s]
    · unfold D7s_raise_2
      ((try simp only [in_0]); simp (disch := omega) only [Int.le_refl, fa_lt, fa_le, fa_eq, it_nI, t0, i32_99, i32_8, i32_1, i32_2, i32_3, i32_4, i32_5, i32_6, i32_7, i32_11, i32_12, i32_13, i32_20, i32_30, i32_40, i32_50, i32_m50, i32_m1, i32_m2, i32_64, i32_256, i32_768, i32_4096, i32_600, i32_m600, i32_1000, i32_1201, if_pos, if_neg, reduceIte, b1_s, b2_s, nm_s, gi_n, tn, pl1, mi1, sub1, ml2, ml4, ml40, ml4096, ad, pl2, sub2, sub3, sub4, dA_p1, dA_p3, dS_p2, dS_p3, dJ_p1, dJ_p2, rA_p1, rS_p2])
  · rw [wb_jf hq]
    have hw : q / 64 < 64 := by omega
    have hb := Nat.mod_lt q (show 0 < 64 by decide)
    unfold rsW
    by_cases c : l < 6
    · obtain ⟨x1, x2⟩ := (fl_q hq hl).1 c
      obtain ⟨y1, -, y3, -⟩ := fl6a (q % 64) hb l c
      have hp : 2 ^ l < 64 := Nat.pow_lt_pow_right (n := 6) (by decide) c
      have hs : q % 64 - 2 ^ l < 64 := Nat.lt_of_le_of_lt (Nat.sub_le _ _) hb
      rw [if_pos c, bL_or, bL_shl _ hp hb, wb_eq σ k q, wb_eq σ f, x1, x2]
      congr 1
      rw [show q.testBit l = (q % 64).testBit l by rw [tb_q q l, if_pos c]]
      cases d : (q % 64).testBit l
      · rw [d] at y3
        by_cases e : 2 ^ l ≤ q % 64
        · rw [decide_eq_true e, Bool.true_and] at y3 ⊢
          rw [bL_and, bL_not _ hs, bL_hv hs, tb64 hs, if_pos c, y3, Bool.and_false, Bool.false_and]
        · rw [decide_eq_false e]; rfl
      · obtain ⟨z1, z2⟩ := y1 d
        rw [d, decide_eq_true z1, Bool.true_and] at y3
        rw [decide_eq_true z1, Bool.true_and, Bool.true_and, bL_and, bL_not _ hs, bL_hv hs, tb64 hs, if_pos c, y3, Bool.and_true, z2]
    · obtain ⟨x1, x2⟩ := (fl_q hq hl).2 (by omega)
      rw [if_neg c, wb_eq σ k q, wb_eq σ f, x1, x2, show q.testBit l = (q / 64).testBit (l - 6) by rw [tb_q q l, if_neg c]]
      cases d : (q / 64).testBit (l - 6)
      · rw [Bool.false_and, Bool.or_false]; rfl
      · rw [if_pos rfl, bL_or, Bool.true_and]
def lwW (σ : DS) (k f l w : Nat) : Int64 := if l < 6 then σ.2.2 (79 + k) w ||| ((σ.2.2 (79 + f) w &&& hv w l).toUInt64 >>> ((nI (2 ^ l)).toInt64.toUInt64 &&& Int64.toUInt64 63)).toInt64 else if w.testBit (l - 6) then σ.2.2 (79 + k) w else σ.2.2 (79 + k) w ||| σ.2.2 (79 + f) (w ^^^ 2 ^ (l - 6))
theorem lower_n {σ : DS} {k f l : Nat} (hl : l < 12) : ∃ σ', D7m_lower k σ f (nI l) = some σ' ∧ dK_ (fun c => c = 79 + k) σ σ' ∧ ∀ q, q < 4096 → wb σ' k q = (wb σ k q || (!q.testBit l && wb σ f (q ^^^ 2 ^ l))) := by
  refine ⟨jFill σ (79 + k) 64 (lwW σ k f l), ?_, dK_JF rfl, fun q hq => ?_⟩
  · unfold D7m_lower
    have e0 : σ = jFill σ (79 + k) 0 (lwW σ k f l) := jFill_0.symm
    refine Eq.trans ?_ (it2_seq (f := D7s_lower_2 k f (nI l) (fun τ_18 => some τ_18)) (fun j => nI j) (fun j => jFill σ (79 + k) j (lwW σ k f l)) 64 _ (by unfold fuel; omega) (fun j hj rc => ?_) (fun rc => ?_))
    · conv => lhs; rw [e0]
      rfl
    · unfold D7s_lower_2
      by_cases c : l < 6
      · ((try simp only [in_0]); simp (disch := omega) only [having_n hj hl, shl1, fa_lt, fa_le, fa_eq, it_nI, t0, i32_99, i32_8, i32_1, i32_2, i32_3, i32_4, i32_5, i32_6, i32_7, i32_11, i32_12, i32_13, i32_20, i32_30, i32_40, i32_50, i32_m50, i32_m1, i32_m2, i32_64, i32_256, i32_768, i32_4096, i32_600, i32_m600, i32_1000, i32_1201, if_pos, if_neg, reduceIte, b1_s, b2_s, nm_s, gi_n, tn, pl1, mi1, sub1, ml2, ml4, ml40, ml4096, ad, pl2, sub2, sub3, sub4, dA_p1, dA_p3, dS_p2, dS_p3, dJ_p1, dJ_p2, rA_p1, rS_p2])
        rw [jFill_o (Nat.le_refl j), jFill_o (Nat.le_refl j), show σ.2.2 (79 + k) j ||| ((σ.2.2 (79 + f) j &&& hv j l).toUInt64 >>> ((nI (2 ^ l)).toInt64.toUInt64 &&& Int64.toUInt64 63)).toInt64 = lwW σ k f l j by unfold lwW; rw [if_pos c], jFill_s]
      · rw [sub6 (by omega), set6 j hj (l - 6) (by omega)]
        cases b : j.testBit (l - 6)
        · have h3 := (fl6a j hj (l - 6) (by omega)).2.1 b
          have h4 : 0 < 2 ^ (l - 6) := Nat.two_pow_pos _
          have h5 : ¬ (j ^^^ 2 ^ (l - 6)) = j := by rw [h3.1]; omega
          have h6 : j ≤ j ^^^ 2 ^ (l - 6) := by rw [h3.1]; omega
          have h7 : j ^^^ 2 ^ (l - 6) < 64 := by rw [h3.1]; omega
          simp only [Bool.false_eq_true, reduceIte]
          ((try simp only [in_0]); simp (disch := omega) only [fa_lt, fa_le, fa_eq, it_nI, t0, i32_99, i32_8, i32_1, i32_2, i32_3, i32_4, i32_5, i32_6, i32_7, i32_11, i32_12, i32_13, i32_20, i32_30, i32_40, i32_50, i32_m50, i32_m1, i32_m2, i32_64, i32_256, i32_768, i32_4096, i32_600, i32_m600, i32_1000, i32_1201, if_pos, if_neg, reduceIte, b1_s, b2_s, nm_s, gi_n, tn, pl1, mi1, sub1, ml2, ml4, ml40, ml4096, ad, pl2, sub2, sub3, sub4, dA_p1, dA_p3, dS_p2, dS_p3, dJ_p1, dJ_p2, rA_p1, rS_p2])
          rw [jFill_o h6, jFill_o (Nat.le_refl j), show σ.2.2 (79 + k) j ||| σ.2.2 (79 + f) (j ^^^ 2 ^ (l - 6)) = lwW σ k f l j by unfold lwW; rw [if_neg c, b]; rfl, jFill_s]
        · simp only [reduceIte]
          ((try simp only [in_0]); simp (disch := omega) only [fa_lt, fa_le, fa_eq, it_nI, t0, i32_99, i32_8, i32_1, i32_2, i32_3, i32_4, i32_5, i32_6, i32_7, i32_11, i32_12, i32_13, i32_20, i32_30, i32_40, i32_50, i32_m50, i32_m1, i32_m2, i32_64, i32_256, i32_768, i32_4096, i32_600, i32_m600, i32_1000, i32_1201, if_pos, if_neg, reduceIte, b1_s, b2_s, nm_s, gi_n, tn, pl1, mi1, sub1, ml2, ml4, ml40, ml4096, ad, pl2, sub2, sub3, sub4, dA_p1, dA_p3, dS_p2, dS_p3, dJ_p1, dJ_p2, rA_p1, rS_p2])
          rw [jFill_k (by unfold lwW; rw [if_neg c, b]; rfl)]
    · unfold D7s_lower_2
      ((try simp only [in_0]); simp (disch := omega) only [Int.le_refl, fa_lt, fa_le, fa_eq, it_nI, t0, i32_99, i32_8, i32_1, i32_2, i32_3, i32_4, i32_5, i32_6, i32_7, i32_11, i32_12, i32_13, i32_20, i32_30, i32_40, i32_50, i32_m50, i32_m1, i32_m2, i32_64, i32_256, i32_768, i32_4096, i32_600, i32_m600, i32_1000, i32_1201, if_pos, if_neg, reduceIte, b1_s, b2_s, nm_s, gi_n, tn, pl1, mi1, sub1, ml2, ml4, ml40, ml4096, ad, pl2, sub2, sub3, sub4, dA_p1, dA_p3, dS_p2, dS_p3, dJ_p1, dJ_p2, rA_p1, rS_p2])
  · rw [wb_jf hq]
    have hw : q / 64 < 64 := by omega
    have hb := Nat.mod_lt q (show 0 < 64 by decide)
    unfold lwW
    by_cases c : l < 6
    · obtain ⟨x1, x2⟩ := (fl_q hq hl).1 c
      obtain ⟨-, y2, -, y4⟩ := fl6a (q % 64) hb l c
      have hp : 2 ^ l < 64 := Nat.pow_lt_pow_right (n := 6) (by decide) c
      rw [if_pos c, bL_or, bL_ushr _ hp, wb_eq σ k q, wb_eq σ f, x1, x2]
      congr 1
      rw [show q.testBit l = (q % 64).testBit l by rw [tb_q q l, if_pos c]]
      cases d : (q % 64).testBit l
      · obtain ⟨z1, z2⟩ := y2 d
        rw [d, decide_eq_true z2, Bool.true_and] at y4
        rw [bL_and, bL_hv z2, tb64 z2, if_pos c, y4, Bool.not_false, Bool.and_true, Bool.true_and, z1]
      · rw [d] at y4
        by_cases e : q % 64 + 2 ^ l < 64
        · rw [decide_eq_true e, Bool.true_and] at y4
          rw [bL_and, bL_hv e, tb64 e, if_pos c, y4, Bool.not_true, Bool.and_false, Bool.false_and]
        · have : bL (σ.2.2 (79 + f) (q / 64) &&& hv (q / 64) l) (q % 64 + 2 ^ l) = false := BitVec.getLsbD_of_ge _ _ (by omega)
          rw [this]; rfl
    · obtain ⟨x1, x2⟩ := (fl_q hq hl).2 (by omega)
      rw [if_neg c, wb_eq σ k q, wb_eq σ f, x1, x2, show q.testBit l = (q / 64).testBit (l - 6) by rw [tb_q q l, if_neg c]]
      cases d : (q / 64).testBit (l - 6)
      · rw [if_neg (by decide), bL_or, Bool.not_false, Bool.true_and]
      · rw [Bool.not_true, Bool.false_and, Bool.or_false]; rfl

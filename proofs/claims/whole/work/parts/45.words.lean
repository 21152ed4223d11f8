/-! ===== the words of a set of ways ===== -/
def bL (x : Int64) (i : Nat) : Bool := x.toBitVec.getLsbD i
theorem bL_and (x y : Int64) (i : Nat) : bL (x &&& y) i = (bL x i && bL y i) := by unfold bL; rw [Int64.toBitVec_and, BitVec.getLsbD_and]
theorem bL_or (x y : Int64) (i : Nat) : bL (x ||| y) i = (bL x i || bL y i) := by unfold bL; rw [Int64.toBitVec_or, BitVec.getLsbD_or]
theorem bL_m1 : ∀ i, i < 64 → bL (-1) i = true := by decide +kernel
theorem bL_0 (i : Nat) : bL 0 i = false := by unfold bL; simp
theorem bL_not (x : Int64) {i : Nat} (h : i < 64) : bL (x ^^^ (-1)) i = !bL x i := by
  have e := bL_m1 i h
  unfold bL at *
  rw [Int64.toBitVec_xor, BitVec.getLsbD_xor, e, Bool.xor_true]
theorem bL_ext {x y : Int64} (h : ∀ i, i < 64 → bL x i = bL y i) : x = y := Int64.toBitVec_inj.mp (BitVec.eq_of_getLsbD_eq (fun i hi => h i hi))
theorem bL_one : ∀ b, b < 64 → ∀ i, i < 64 → bL ((1 : Int64) <<< ((nI b).toInt64 &&& 63)) i = decide (i = b) := by decide +kernel
theorem uN_bL (x : Int64) (i : Nat) : (uN x).testBit i = bL x i := rfl
theorem wb_eq (σ : DS) (k p : Nat) : wb σ k p = bL (σ.2.2 (79 + k) (p / 64)) (p % 64) := rfl
theorem lg0 {x y : Int64} : lg_cmp x y = 0 ↔ x = y := by
  constructor
  · intro h
    unfold lg_cmp at h
    by_cases c : y < x
    · rw [if_pos c] at h; exact absurd h (by decide)
    · rw [if_neg c] at h
      by_cases d : x = y
      · exact d
      · rw [if_neg d] at h; exact absurd h (by decide)
  · rintro rfl; exact lg_self x
theorem lg0i {x y : Int64} : (lg_cmp x y).toInt = 0 ↔ x = y := by
  rw [← lg0, fa_eq, t0]
theorem sh6 {p : Nat} (h : p < 2 ^ 31) : nI p >>> ((6 : Int32) &&& 31) = nI (p / 64) := pk_shrN h _ 6 (by decide)
theorem an63 {p : Nat} (h : p < 2 ^ 31) : nI p &&& (63 : Int32) = nI (p % 64) := pk_andN (by omega) 6 (by decide)
/-- the first n words given -/
def jFill (σ : DS) (c n : Nat) (g : Nat → Int64) : DS := (σ.1, σ.2.1, fun j => if j = c then (fun i => if i < n then g i else σ.2.2 c i) else σ.2.2 j)
theorem jFill_0 {σ : DS} {c : Nat} {g : Nat → Int64} : jFill σ c 0 g = σ := by
  unfold jFill
  refine Prod.ext rfl (Prod.ext rfl ?_)
  funext j
  by_cases e : j = c
  · subst e
    simp
  · simp only [if_neg e]
theorem jFill_s {σ : DS} {c n : Nat} {g : Nat → Int64} : dJ (jFill σ c n g) c n (g n) = jFill σ c (n + 1) g := by
  unfold jFill dJ
  refine Prod.ext rfl (Prod.ext rfl ?_)
  funext j
  by_cases e : j = c
  · subst e
    simp only [if_true]
    funext i
    unfold vp_updL
    by_cases e2 : i = n
    · rw [if_pos e2, if_pos (by omega), e2]
    · rw [if_neg e2]
      dsimp only
      by_cases e3 : i < n
      · rw [if_pos e3, if_pos (by omega)]
      · rw [if_neg e3, if_neg (by omega)]
  · simp only [if_neg e]
theorem jFill_k {σ : DS} {c n : Nat} {g : Nat → Int64} (h : σ.2.2 c n = g n) : jFill σ c (n + 1) g = jFill σ c n g := by
  unfold jFill
  refine Prod.ext rfl (Prod.ext rfl ?_)
  funext j
  by_cases e : j = c
  · subst e
    simp only [if_true]
    funext i
    by_cases e3 : i < n
    · rw [if_pos e3, if_pos (by omega)]
    · by_cases e2 : i = n
      · subst e2; rw [if_pos (by omega), if_neg e3, h]
      · rw [if_neg e3, if_neg (by omega)]
  · simp only [if_neg e]
theorem jFill_p1 {σ : DS} {c n : Nat} {g : Nat → Int64} : (jFill σ c n g).1 = σ.1 := Eq.trans rfl rfl
theorem jFill_p2 {σ : DS} {c n : Nat} {g : Nat → Int64} : (jFill σ c n g).2.1 = σ.2.1 := Eq.trans rfl rfl
theorem jFill_ne {σ : DS} {c n j : Nat} {g : Nat → Int64} (h : j ≠ c) : (jFill σ c n g).2.2 j = σ.2.2 j := if_neg h
theorem jFill_in {σ : DS} {c n i : Nat} {g : Nat → Int64} (h : i < n) : (jFill σ c n g).2.2 c i = g i := by
  unfold jFill
  simp only [if_true]
  exact if_pos h
theorem jFill_out {σ : DS} {c n i : Nat} {g : Nat → Int64} (h : ¬ i < n) : (jFill σ c n g).2.2 c i = σ.2.2 c i := by
  unfold jFill
  simp only [if_true]
  exact if_neg h
/-- a word not yet reached -/
theorem jFill_o {σ : DS} {c n i a : Nat} {g : Nat → Int64} (h : n ≤ i) : (jFill σ c n g).2.2 a i = σ.2.2 a i := by
  by_cases e : a = c
  · subst e; exact jFill_out (by omega)
  · rw [jFill_ne e]
theorem dK_JF {C : Nat → Prop} {σ : DS} {c n : Nat} {g : Nat → Int64} (h : C c) : dK_ C σ (jFill σ c n g) := fun x hx => ⟨rfl, rfl, jFill_ne (fun e => hx (e ▸ h))⟩
theorem wb_jf {σ : DS} {k p : Nat} {g : Nat → Int64} (hp : p < 4096) : wb (jFill σ (79 + k) 64 g) k p = bL (g (p / 64)) (p % 64) := by
  rw [wb_eq, jFill_in (by omega)]
theorem wb_jo {σ : DS} {k f p n : Nat} {g : Nat → Int64} (h : f ≠ k) : wb (jFill σ (79 + k) n g) f p = wb σ f p := by
  rw [wb_eq, jFill_ne (by omega), wb_eq]
theorem wb_dK {C : Nat → Prop} {σ σ' : DS} {k p : Nat} (h : dK_ C σ σ') (hc : ¬ C (79 + k)) : wb σ' k p = wb σ k p := by
  rw [wb_eq, wb_eq, (h _ hc).2.2]
/-- Arrays.fill of words -/
theorem fillJ {σ : DS} {c n : Nat} {v : Int64} (hn : n < 100000) : J7m_fill_d0a16 σ c n v = some (jFill σ c n (fun _ => v)) := by
  unfold J7m_fill_d0a16
  have e0 : σ = jFill σ c 0 (fun _ => v) := jFill_0.symm
  refine Eq.trans ?_ (it2_seq (f := J7s_fill_d0a16_6 c n v (Int32.ofNat n) (fun τ_5 => some τ_5)) (fun j => nI j) (fun j => jFill σ c j (fun _ => v)) n _ (by unfold fuel; omega) (fun j hj rc => ?_) (fun rc => ?_))
  · rw [← e0]
    rfl
  · unfold J7s_fill_d0a16_6
    show (if nI n ≤ nI j then _ else _) = _
    ((try simp only [in_0]); simp (disch := omega) only [fa_lt, fa_le, fa_eq, it_nI, t0, i32_99, i32_8, i32_1, i32_2, i32_3, i32_4, i32_5, i32_6, i32_7, i32_11, i32_12, i32_13, i32_20, i32_30, i32_40, i32_50, i32_m50, i32_m1, i32_m2, i32_64, i32_256, i32_768, i32_4096, i32_600, i32_m600, i32_1000, i32_1201, if_pos, if_neg, reduceIte, b1_s, b2_s, nm_s, gi_n, tn, pl1, mi1, sub1, ml2, ml4, ml40, ml4096, ad, pl2, sub2, sub3, sub4, dA_p1, dA_p3, dS_p2, dS_p3, dJ_p1, dJ_p2, rA_p1, rS_p2])
    rw [jFill_s (g := fun _ => v)]
  · unfold J7s_fill_d0a16_6
    show (if nI n ≤ nI n then _ else _) = _
    ((try simp only [in_0]); simp (disch := omega) only [Int.le_refl, fa_lt, fa_le, fa_eq, it_nI, t0, i32_99, i32_8, i32_1, i32_2, i32_3, i32_4, i32_5, i32_6, i32_7, i32_11, i32_12, i32_13, i32_20, i32_30, i32_40, i32_50, i32_m50, i32_m1, i32_m2, i32_64, i32_256, i32_768, i32_4096, i32_600, i32_m600, i32_1000, i32_1201, if_pos, if_neg, reduceIte, b1_s, b2_s, nm_s, gi_n, tn, pl1, mi1, sub1, ml2, ml4, ml40, ml4096, ad, pl2, sub2, sub3, sub4, dA_p1, dA_p3, dS_p2, dS_p3, dJ_p1, dJ_p2, rA_p1, rS_p2])
theorem holds_n {σ : DS} {k p : Nat} (hp : p < 4096) : D7m_holds k σ (nI p) = some (bI (wb σ k p)) := by
  unfold D7m_holds
  rw [sh6 (by omega), an63 (by omega)]
  ((try simp only [in_0]); simp (disch := omega) only [fa_lt, fa_le, fa_eq, it_nI, t0, i32_99, i32_8, i32_1, i32_2, i32_3, i32_4, i32_5, i32_6, i32_7, i32_11, i32_12, i32_13, i32_20, i32_30, i32_40, i32_50, i32_m50, i32_m1, i32_m2, i32_64, i32_256, i32_768, i32_4096, i32_600, i32_m600, i32_1000, i32_1201, if_pos, if_neg, reduceIte, b1_s, b2_s, nm_s, gi_n, tn, pl1, mi1, sub1, ml2, ml4, ml40, ml4096, ad, pl2, sub2, sub3, sub4, dA_p1, dA_p3, dS_p2, dS_p3, dJ_p1, dJ_p2, rA_p1, rS_p2])
  have h1 := ts_bit (w := σ.2.2 (79 + k) (p / 64)) (s := ((nI (p % 64)).toInt64.toUInt64 &&& Int64.toUInt64 63)) (j := p % 64) (Nat.mod_lt _ (by decide)) (by rw [wb_cu _ (Nat.mod_lt _ (by decide))]; exact u_tn (by omega))
  rw [wb_eq]
  unfold bL
  by_cases c : (σ.2.2 (79 + k) (p / 64)).toBitVec.getLsbD (p % 64) = false
  · rw [if_pos (lg0i.mpr (h1.mpr c)), c]; rfl
  · rw [if_neg (fun h => c (h1.mp (lg0i.mp h))), eq_true_of_ne_false c]; rfl
theorem holds_o {σ : DS} {k : Nat} {x : Int32} (h : ¬ (0 ≤ x.toInt ∧ x.toInt < 4096)) : D7m_holds k σ x = some 0 := by
  unfold D7m_holds
  simp only [fa_lt, fa_le, t0, i32_4096]
  by_cases c : x.toInt < 0
  · rw [if_pos c]
  · rw [if_neg c, if_pos (by omega)]
theorem wb_put {σ : DS} {k p : Nat} (hp : p < 4096) {v : Int64} : ∀ q, q < 4096 → wb (dJ σ (79 + k) (p / 64) v) k q = if q / 64 = p / 64 then bL v (q % 64) else wb σ k q := by
  intro q hq
  rw [wb_eq]
  by_cases e : q / 64 = p / 64
  · rw [if_pos e, e, dJ_s]
  · rw [if_neg e, dJ_n e, wb_eq]
theorem put_n {σ : DS} {k p : Nat} (hp : p < 4096) : ∃ σ', D7m_put k σ (nI p) = some σ' ∧ dK_ (fun c => c = 79 + k) σ σ' ∧ ∀ q, q < 4096 → wb σ' k q = (decide (q = p) || wb σ k q) := by
  refine ⟨dJ σ (79 + k) (p / 64) (σ.2.2 (79 + k) (p / 64) ||| ((1 : Int64) <<< ((nI (p % 64)).toInt64 &&& 63))), ?_, dK_J rfl, fun q hq => ?_⟩
  · unfold D7m_put
    rw [sh6 (by omega), an63 (by omega)]
    ((try simp only [in_0]); simp (disch := omega) only [fa_lt, fa_le, fa_eq, it_nI, t0, i32_99, i32_8, i32_1, i32_2, i32_3, i32_4, i32_5, i32_6, i32_7, i32_11, i32_12, i32_13, i32_20, i32_30, i32_40, i32_50, i32_m50, i32_m1, i32_m2, i32_64, i32_256, i32_768, i32_4096, i32_600, i32_m600, i32_1000, i32_1201, if_pos, if_neg, reduceIte, b1_s, b2_s, nm_s, gi_n, tn, pl1, mi1, sub1, ml2, ml4, ml40, ml4096, ad, pl2, sub2, sub3, sub4, dA_p1, dA_p3, dS_p2, dS_p3, dJ_p1, dJ_p2, rA_p1, rS_p2])
  · rw [wb_put hp q hq]
    by_cases e : q / 64 = p / 64
    · rw [if_pos e, bL_or, bL_one _ (Nat.mod_lt _ (by decide)) _ (Nat.mod_lt _ (by decide)), wb_eq, e, Bool.or_comm]
      congr 1
      apply decide_eq_decide.mpr
      omega
    · rw [if_neg e, decide_eq_false (by omega), Bool.false_or]
theorem put_o {σ : DS} {k : Nat} {x : Int32} (h : ¬ (0 ≤ x.toInt ∧ x.toInt < 4096)) : D7m_put k σ x = some σ := by
  unfold D7m_put
  simp only [fa_lt, fa_le, t0, i32_4096]
  by_cases c : x.toInt < 0
  · rw [if_pos c]
  · rw [if_neg c, if_pos (by omega)]
theorem take_n {σ : DS} {k p : Nat} (hp : p < 4096) : ∃ σ', D7m_take k σ (nI p) = some σ' ∧ dK_ (fun c => c = 79 + k) σ σ' ∧ ∀ q, q < 4096 → wb σ' k q = (!decide (q = p) && wb σ k q) := by
  refine ⟨dJ σ (79 + k) (p / 64) (σ.2.2 (79 + k) (p / 64) &&& (((1 : Int64) <<< ((nI (p % 64)).toInt64 &&& 63)) ^^^ (-1 : Int64))), ?_, dK_J rfl, fun q hq => ?_⟩
  · unfold D7m_take
    rw [sh6 (by omega), an63 (by omega)]
    ((try simp only [in_0]); simp (disch := omega) only [fa_lt, fa_le, fa_eq, it_nI, t0, i32_99, i32_8, i32_1, i32_2, i32_3, i32_4, i32_5, i32_6, i32_7, i32_11, i32_12, i32_13, i32_20, i32_30, i32_40, i32_50, i32_m50, i32_m1, i32_m2, i32_64, i32_256, i32_768, i32_4096, i32_600, i32_m600, i32_1000, i32_1201, if_pos, if_neg, reduceIte, b1_s, b2_s, nm_s, gi_n, tn, pl1, mi1, sub1, ml2, ml4, ml40, ml4096, ad, pl2, sub2, sub3, sub4, dA_p1, dA_p3, dS_p2, dS_p3, dJ_p1, dJ_p2, rA_p1, rS_p2])
  · rw [wb_put hp q hq]
    by_cases e : q / 64 = p / 64
    · rw [if_pos e, bL_and, bL_not _ (Nat.mod_lt _ (by decide)), bL_one _ (Nat.mod_lt _ (by decide)) _ (Nat.mod_lt _ (by decide)), wb_eq, e, Bool.and_comm]
      congr 2
      apply decide_eq_decide.mpr
      omega
    · rw [if_neg e, decide_eq_false (by omega), Bool.not_false, Bool.true_and]
/-! word by word -/
theorem both_n {σ : DS} {k a b : Nat} : D7m_takeBoth k σ a b = some (jFill σ (79 + k) 64 (fun w => σ.2.2 (79 + a) w &&& σ.2.2 (79 + b) w)) := by
  unfold D7m_takeBoth
  have e0 : σ = jFill σ (79 + k) 0 (fun w => σ.2.2 (79 + a) w &&& σ.2.2 (79 + b) w) := jFill_0.symm
  refine Eq.trans ?_ (it2_seq (f := D7s_takeBoth_2 k a b (fun τ_7 => some τ_7)) (fun j => nI j) (fun j => jFill σ (79 + k) j (fun w => σ.2.2 (79 + a) w &&& σ.2.2 (79 + b) w)) 64 _ (by unfold fuel; omega) (fun j hj rc => ?_) (fun rc => ?_))
  · conv => lhs; rw [e0]
    rfl
  · unfold D7s_takeBoth_2
    ((try simp only [in_0]); simp (disch := omega) only [fa_lt, fa_le, fa_eq, it_nI, t0, i32_99, i32_8, i32_1, i32_2, i32_3, i32_4, i32_5, i32_6, i32_7, i32_11, i32_12, i32_13, i32_20, i32_30, i32_40, i32_50, i32_m50, i32_m1, i32_m2, i32_64, i32_256, i32_768, i32_4096, i32_600, i32_m600, i32_1000, i32_1201, if_pos, if_neg, reduceIte, b1_s, b2_s, nm_s, gi_n, tn, pl1, mi1, sub1, ml2, ml4, ml40, ml4096, ad, pl2, sub2, sub3, sub4, dA_p1, dA_p3, dS_p2, dS_p3, dJ_p1, dJ_p2, rA_p1, rS_p2])
    rw [jFill_o (Nat.le_refl j), jFill_o (Nat.le_refl j), jFill_s (g := fun w => σ.2.2 (79 + a) w &&& σ.2.2 (79 + b) w)]
  · unfold D7s_takeBoth_2
    ((try simp only [in_0]); simp (disch := omega) only [Int.le_refl, fa_lt, fa_le, fa_eq, it_nI, t0, i32_99, i32_8, i32_1, i32_2, i32_3, i32_4, i32_5, i32_6, i32_7, i32_11, i32_12, i32_13, i32_20, i32_30, i32_40, i32_50, i32_m50, i32_m1, i32_m2, i32_64, i32_256, i32_768, i32_4096, i32_600, i32_m600, i32_1000, i32_1201, if_pos, if_neg, reduceIte, b1_s, b2_s, nm_s, gi_n, tn, pl1, mi1, sub1, ml2, ml4, ml40, ml4096, ad, pl2, sub2, sub3, sub4, dA_p1, dA_p3, dS_p2, dS_p3, dJ_p1, dJ_p2, rA_p1, rS_p2])
theorem either_n {σ : DS} {k a b : Nat} : D7m_takeEither k σ a b = some (jFill σ (79 + k) 64 (fun w => σ.2.2 (79 + a) w ||| σ.2.2 (79 + b) w)) := by
  unfold D7m_takeEither
  have e0 : σ = jFill σ (79 + k) 0 (fun w => σ.2.2 (79 + a) w ||| σ.2.2 (79 + b) w) := jFill_0.symm
  refine Eq.trans ?_ (it2_seq (f := D7s_takeEither_2 k a b (fun τ_7 => some τ_7)) (fun j => nI j) (fun j => jFill σ (79 + k) j (fun w => σ.2.2 (79 + a) w ||| σ.2.2 (79 + b) w)) 64 _ (by unfold fuel; omega) (fun j hj rc => ?_) (fun rc => ?_))
  · conv => lhs; rw [e0]
    rfl
  · unfold D7s_takeEither_2
    ((try simp only [in_0]); simp (disch := omega) only [fa_lt, fa_le, fa_eq, it_nI, t0, i32_99, i32_8, i32_1, i32_2, i32_3, i32_4, i32_5, i32_6, i32_7, i32_11, i32_12, i32_13, i32_20, i32_30, i32_40, i32_50, i32_m50, i32_m1, i32_m2, i32_64, i32_256, i32_768, i32_4096, i32_600, i32_m600, i32_1000, i32_1201, if_pos, if_neg, reduceIte, b1_s, b2_s, nm_s, gi_n, tn, pl1, mi1, sub1, ml2, ml4, ml40, ml4096, ad, pl2, sub2, sub3, sub4, dA_p1, dA_p3, dS_p2, dS_p3, dJ_p1, dJ_p2, rA_p1, rS_p2])
    rw [jFill_o (Nat.le_refl j), jFill_o (Nat.le_refl j), jFill_s (g := fun w => σ.2.2 (79 + a) w ||| σ.2.2 (79 + b) w)]
  · unfold D7s_takeEither_2
    ((try simp only [in_0]); simp (disch := omega) only [Int.le_refl, fa_lt, fa_le, fa_eq, it_nI, t0, i32_99, i32_8, i32_1, i32_2, i32_3, i32_4, i32_5, i32_6, i32_7, i32_11, i32_12, i32_13, i32_20, i32_30, i32_40, i32_50, i32_m50, i32_m1, i32_m2, i32_64, i32_256, i32_768, i32_4096, i32_600, i32_m600, i32_1000, i32_1201, if_pos, if_neg, reduceIte, b1_s, b2_s, nm_s, gi_n, tn, pl1, mi1, sub1, ml2, ml4, ml40, ml4096, ad, pl2, sub2, sub3, sub4, dA_p1, dA_p3, dS_p2, dS_p3, dJ_p1, dJ_p2, rA_p1, rS_p2])
theorem alone_n {σ : DS} {k a b : Nat} : D7m_takeFirstAlone k σ a b = some (jFill σ (79 + k) 64 (fun w => σ.2.2 (79 + a) w &&& (σ.2.2 (79 + b) w ^^^ (-1)))) := by
  unfold D7m_takeFirstAlone
  have e0 : σ = jFill σ (79 + k) 0 (fun w => σ.2.2 (79 + a) w &&& (σ.2.2 (79 + b) w ^^^ (-1))) := jFill_0.symm
  refine Eq.trans ?_ (it2_seq (f := D7s_takeFirstAlone_2 k a b (fun τ_7 => some τ_7)) (fun j => nI j) (fun j => jFill σ (79 + k) j (fun w => σ.2.2 (79 + a) w &&& (σ.2.2 (79 + b) w ^^^ (-1)))) 64 _ (by unfold fuel; omega) (fun j hj rc => ?_) (fun rc => ?_))
  · conv => lhs; rw [e0]
    rfl
  · unfold D7s_takeFirstAlone_2
    ((try simp only [in_0]); simp (disch := omega) only [fa_lt, fa_le, fa_eq, it_nI, t0, i32_99, i32_8, i32_1, i32_2, i32_3, i32_4, i32_5, i32_6, i32_7, i32_11, i32_12, i32_13, i32_20, i32_30, i32_40, i32_50, i32_m50, i32_m1, i32_m2, i32_64, i32_256, i32_768, i32_4096, i32_600, i32_m600, i32_1000, i32_1201, if_pos, if_neg, reduceIte, b1_s, b2_s, nm_s, gi_n, tn, pl1, mi1, sub1, ml2, ml4, ml40, ml4096, ad, pl2, sub2, sub3, sub4, dA_p1, dA_p3, dS_p2, dS_p3, dJ_p1, dJ_p2, rA_p1, rS_p2])
    rw [jFill_o (Nat.le_refl j), jFill_o (Nat.le_refl j), jFill_s (g := fun w => σ.2.2 (79 + a) w &&& (σ.2.2 (79 + b) w ^^^ (-1)))]
  · unfold D7s_takeFirstAlone_2
    ((try simp only [in_0]); simp (disch := omega) only [Int.le_refl, fa_lt, fa_le, fa_eq, it_nI, t0, i32_99, i32_8, i32_1, i32_2, i32_3, i32_4, i32_5, i32_6, i32_7, i32_11, i32_12, i32_13, i32_20, i32_30, i32_40, i32_50, i32_m50, i32_m1, i32_m2, i32_64, i32_256, i32_768, i32_4096, i32_600, i32_m600, i32_1000, i32_1201, if_pos, if_neg, reduceIte, b1_s, b2_s, nm_s, gi_n, tn, pl1, mi1, sub1, ml2, ml4, ml40, ml4096, ad, pl2, sub2, sub3, sub4, dA_p1, dA_p3, dS_p2, dS_p3, dJ_p1, dJ_p2, rA_p1, rS_p2])
theorem copy_n {σ : DS} {k a : Nat} : ∃ σ', D7m_copy k σ a = some σ' ∧ dK_ (fun c => c = 79 + k) σ σ' ∧ ∀ q, q < 4096 → wb σ' k q = wb σ a q := by
  refine ⟨dY σ (79 + k) (79 + a) 0 0 64, rfl, fun x hx => ⟨rfl, rfl, if_neg hx⟩, fun q hq => ?_⟩
  rw [wb_eq, wb_eq]
  unfold dY
  simp only [if_true]
  rw [pk_cpy_in (by omega) (by omega)]
  simp
/-! counting -/
theorem ct_add (p : Nat → Bool) (m : Nat) : ∀ j, fb_ct p (m + j) = fb_ct p m + fb_ct (fun i => p (m + i)) j
  | 0 => rfl
  | j + 1 => by rw [← Nat.add_assoc, fb_ct_succ, ct_add p m j, fb_ct_succ]; omega
theorem pop_w {x : Int64} : J13m_bitCount_95d88 x = nI (fb_ct (bL x) 64) := popL x
theorem size_n {σ : DS} {k : Nat} : D7m_size k σ = some (nI (fb_ct (wb σ k) 4096)) := by
  unfold D7m_size
  refine Eq.trans rfl (it2_seq (f := D7s_size_4 k σ (fun u_4 => some u_4)) (fun j => nI (fb_ct (wb σ k) (64 * j))) (fun j => nI j) 64 _ (by unfold fuel; omega) (fun j hj rc => ?_) (fun rc => ?_))
  · unfold D7s_size_4
    ((try simp only [in_0]); simp (disch := omega) only [pop_w, fa_lt, fa_le, fa_eq, it_nI, t0, i32_99, i32_8, i32_1, i32_2, i32_3, i32_4, i32_5, i32_6, i32_7, i32_11, i32_12, i32_13, i32_20, i32_30, i32_40, i32_50, i32_m50, i32_m1, i32_m2, i32_64, i32_256, i32_768, i32_4096, i32_600, i32_m600, i32_1000, i32_1201, if_pos, if_neg, reduceIte, b1_s, b2_s, nm_s, gi_n, tn, pl1, mi1, sub1, ml2, ml4, ml40, ml4096, ad, pl2, sub2, sub3, sub4, dA_p1, dA_p3, dS_p2, dS_p3, dJ_p1, dJ_p2, rA_p1, rS_p2])
    congr 2
    rw [show 64 * (j + 1) = 64 * j + 64 by omega, ct_add]
    congr 1
    apply fb_ct_cong
    intro i hi
    rw [wb_eq, show (64 * j + i) / 64 = j by omega, show (64 * j + i) % 64 = i by omega]
  · unfold D7s_size_4
    ((try simp only [in_0]); simp (disch := omega) only [Int.le_refl, fa_lt, fa_le, fa_eq, it_nI, t0, i32_99, i32_8, i32_1, i32_2, i32_3, i32_4, i32_5, i32_6, i32_7, i32_11, i32_12, i32_13, i32_20, i32_30, i32_40, i32_50, i32_m50, i32_m1, i32_m2, i32_64, i32_256, i32_768, i32_4096, i32_600, i32_m600, i32_1000, i32_1201, if_pos, if_neg, reduceIte, b1_s, b2_s, nm_s, gi_n, tn, pl1, mi1, sub1, ml2, ml4, ml40, ml4096, ad, pl2, sub2, sub3, sub4, dA_p1, dA_p3, dS_p2, dS_p3, dJ_p1, dJ_p2, rA_p1, rS_p2])

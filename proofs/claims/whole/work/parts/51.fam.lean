/-! ===== masks and places ===== -/
def mirP (m j : Nat) : Nat := (List.range j).foldl (fun v r => 2 * v + (m >>> r) % 2) 0
theorem mirP_s (m j : Nat) : mirP m (j + 1) = 2 * mirP m j + (m >>> j) % 2 := by
  unfold mirP
  rw [List.range_succ, List.foldl_append]
  rfl
theorem mirP_lt (m : Nat) : ∀ j, mirP m j < 2 ^ j
  | 0 => Nat.one_pos
  | j + 1 => by
    have := mirP_lt m j
    rw [mirP_s, Nat.pow_succ]
    omega
theorem sh1_n {v : Nat} (h : v < 2 ^ 30) : nI v <<< ((1 : Int32) &&& 31) = nI (2 * v) := by
  have := shl_n (a := v) (j := 1) (by decide) (by omega)
  rw [Nat.pow_one, Nat.mul_comm] at this
  exact this
theorem mirrored_n {m : Nat} (hm : m < 4096) : D8m_mirrored (nI m) = some (nI (mir m)) := by
  unfold D8m_mirrored
  refine Eq.trans rfl (it2_seq (f := D8s_mirrored_4 (nI m) (fun u_3 => some u_3)) (fun j => nI (mirP m j)) (fun j => nI j) 12 _ (by unfold fuel; omega) (fun j hj rc => ?_) (fun rc => ?_))
  · unfold D8s_mirrored_4
    have h1 := mirP_lt m j
    have h2 : 2 ^ j ≤ 2 ^ 12 := Nat.pow_le_pow_right (by decide) (by omega)
    rw [if_neg (show ¬ (12 : Int32) ≤ nI j from nI_ge (b := 12) (by omega) (by decide)), nm_s, bit1 (by omega) (by omega), sh1_n (by omega), mirP_s, Nat.shiftRight_eq_div_pow, ← tb_dm, fa_or, pl1]
    have h3 := Nat.mod_two_eq_zero_or_one (m / 2 ^ j)
    have h4 := Nat.two_pow_add_eq_or_of_lt (b := m / 2 ^ j % 2) (i := 1) (by omega) (mirP m j)
    rw [Nat.pow_one] at h4
    rw [h4]
  · unfold D8s_mirrored_4
    ((try simp only [in_0]); simp (disch := omega) only [Int.le_refl, fa_lt, fa_le, fa_eq, it_nI, t0, i32_99, i32_8, i32_1, i32_2, i32_3, i32_4, i32_5, i32_6, i32_7, i32_11, i32_12, i32_13, i32_20, i32_30, i32_40, i32_50, i32_m50, i32_m1, i32_m2, i32_64, i32_256, i32_768, i32_4096, i32_600, i32_m600, i32_1000, i32_1201, if_pos, if_neg, reduceIte, b1_s, b2_s, nm_s, gi_n, tn, pl1, mi1, sub1, ml2, ml4, ml40, ml4096, ad, pl2, sub2, sub3, sub4, dA_p1, dA_p3, dS_p2, dS_p3, dJ_p1, dJ_p2, rA_p1, rS_p2])
    rfl
def ordP (m j : Nat) : Nat := (List.range j).foldl (fun v r => if m.testBit r then v ||| 2 ^ (11 - r) else v) 0
theorem ordP_s (m j : Nat) : ordP m (j + 1) = if m.testBit j then ordP m j ||| 2 ^ (11 - j) else ordP m j := by
  unfold ordP
  rw [List.range_succ, List.foldl_append]
  rfl
theorem ordP_tb (m : Nat) : ∀ j, j ≤ 12 → ∀ i, (ordP m j).testBit i = (decide (i < 12 ∧ 11 - i < j) && m.testBit (11 - i))
  | 0, _, i => by
    rw [decide_eq_false (by omega), Bool.false_and]
    exact Nat.zero_testBit i
  | j + 1, hj, i => by
    rw [ordP_s]
    have ih := ordP_tb m j (by omega) i
    by_cases c : m.testBit j = true
    · rw [if_pos c, Nat.testBit_or, ih, Nat.testBit_two_pow]
      by_cases e : 11 - j = i
      · rw [decide_eq_true e, Bool.or_true, decide_eq_true (by omega), show 11 - i = j by omega, c]; rfl
      · rw [decide_eq_false e, Bool.or_false]
        congr 1
        apply decide_eq_decide.mpr
        omega
    · rw [if_neg c, ih]
      by_cases e : 11 - j = i
      · have : 11 - i = j := by omega
        rw [this, Bool.eq_false_iff.mpr c, Bool.and_false, Bool.and_false]
      · congr 1
        apply decide_eq_decide.mpr
        omega
theorem ordP_mir {m : Nat} (hm : m < 4096) : ordP m 12 = mir m := by
  apply Nat.eq_of_testBit_eq
  intro i
  rw [ordP_tb m 12 (Nat.le_refl _)]
  by_cases c : i < 12
  · rw [decide_eq_true (by omega), Bool.true_and, mir_tb hm c]
  · rw [decide_eq_false (by omega), tb_hi (mir_lt hm) (by omega)]; rfl
theorem rholds_n {m r : Nat} (hm : m < 2 ^ 31) (hr : r < 32) : Rm_holds (nI m) (nI r) = bI (m.testBit r) := by
  unfold Rm_holds
  rw [bit1 hm hr]
  cases m.testBit r <;> rfl
theorem ordered_n {m : Nat} (hm : m < 4096) : Rm_ordered (nI m) = some (nI (mir m)) := by
  unfold Rm_ordered
  rw [← ordP_mir hm]
  refine Eq.trans rfl (it2_seq (f := Rs_ordered_4 (nI m) (fun u_4 => some u_4)) (fun j => nI (ordP m j)) (fun j => nI j) 12 _ (by unfold fuel; omega) (fun j hj rc => ?_) (fun rc => ?_))
  · unfold Rs_ordered_4
    rw [if_neg (show ¬ (12 : Int32) ≤ nI j from nI_ge (b := 12) (by omega) (by decide)), rholds_n (by omega) (by omega), ordP_s, pl1]
    cases c : m.testBit j
    · rw [if_pos (by rfl), if_neg (by decide)]
      show rc (nI (ordP m j) ||| nI 0) _ = _
      rw [fa_or, Nat.or_zero]
    · rw [if_neg (by decide), if_pos rfl, nm_s, show (11 : Int32) - nI j = nI (11 - j) from pk_sub (a := 11) (by omega), shl1 (by omega), fa_or]
  · unfold Rs_ordered_4
    ((try simp only [in_0]); simp (disch := omega) only [Int.le_refl, fa_lt, fa_le, fa_eq, it_nI, t0, i32_99, i32_8, i32_1, i32_2, i32_3, i32_4, i32_5, i32_6, i32_7, i32_11, i32_12, i32_13, i32_20, i32_30, i32_40, i32_50, i32_m50, i32_m1, i32_m2, i32_64, i32_256, i32_768, i32_4096, i32_600, i32_m600, i32_1000, i32_1201, if_pos, if_neg, reduceIte, b1_s, b2_s, nm_s, gi_n, tn, pl1, mi1, sub1, ml2, ml4, ml40, ml4096, ad, pl2, sub2, sub3, sub4, dA_p1, dA_p3, dS_p2, dS_p3, dJ_p1, dJ_p2, rA_p1, rS_p2])
/-! ===== families ===== -/
theorem bq_n {ρ : Type} {A : Option ρ} {B : Nat → Option ρ} : bq (some none) A B = A := Eq.trans rfl rfl
theorem bq_k {ρ : Type} {A : Option ρ} {B : Nat → Option ρ} {k : Nat} (h : k < 32) : bq (some (some k)) A B = B k := if_pos h
theorem bqe_n {ρ : Type} {A : DS → Option ρ} {B : Nat → DS → Option ρ} {s : DS} : bqe (some (none, s)) A B = A s := Eq.trans rfl rfl
theorem bqe_k {ρ : Type} {A : DS → Option ρ} {B : Nat → DS → Option ρ} {s : DS} {k : Nat} (h : k < 32) : bqe (some (some k, s)) A B = B k s := if_pos h
section FAM
variable {σ : DS} {τ : RS} {F : Nat} {kd : Nat → Nat} {W : Nat → Nat → Bool}
theorem family_n {f : Nat} (h : σ.1 0 2 = nI F) (hF : F ≤ 30) (hf : f < F) : D8m_family σ (nI f) = some (some f) := by
  ((try simp only [D8m_family, in_0]); simp (disch := omega) only [h, fa_lt, fa_le, fa_eq, it_nI, t0, i32_99, i32_8, i32_1, i32_2, i32_3, i32_4, i32_5, i32_6, i32_7, i32_11, i32_12, i32_13, i32_20, i32_30, i32_40, i32_50, i32_m50, i32_m1, i32_m2, i32_64, i32_256, i32_768, i32_4096, i32_600, i32_m600, i32_1000, i32_1201, if_pos, if_neg, reduceIte, b1_s, b2_s, nm_s, gi_n, tn, pl1, mi1, sub1, ml2, ml4, ml40, ml4096, ad, pl2, sub2, sub3, sub4, dA_p1, dA_p3, dS_p2, dS_p3, dJ_p1, dJ_p2, rA_p1, rS_p2])
theorem family_o {x : Int32} (h : σ.1 0 2 = nI F) (hF : F ≤ 30) (hx : ¬ (0 ≤ x.toInt ∧ x.toInt < F)) : D8m_family σ x = some none := by
  unfold D8m_family
  rw [h]
  ((try simp only [in_0]); simp (disch := omega) only [fa_lt, fa_le, fa_eq, it_nI, t0, i32_99, i32_8, i32_1, i32_2, i32_3, i32_4, i32_5, i32_6, i32_7, i32_11, i32_12, i32_13, i32_20, i32_30, i32_40, i32_50, i32_m50, i32_m1, i32_m2, i32_64, i32_256, i32_768, i32_4096, i32_600, i32_m600, i32_1000, i32_1201, if_pos, if_neg, reduceIte, b1_s, b2_s, nm_s, gi_n, tn, pl1, mi1, sub1, ml2, ml4, ml40, ml4096, ad, pl2, sub2, sub3, sub4, dA_p1, dA_p3, dS_p2, dS_p3, dJ_p1, dJ_p2, rA_p1, rS_p2])
  repeat' split
  all_goals first | rfl | omega
theorem isFam_0 {x : Int32} (h : τ.1 6 = nI F) (hF : F ≤ 30) : Rm_isFamily τ x = 0 ↔ ¬ (0 ≤ x.toInt ∧ x.toInt < F) := by
  unfold Rm_isFamily
  rw [in_0, h, sub1 (by omega), t0]
  omega
/-- what the reference keeps of the ways of the first families -/
def RW_ (τ : RS) (F : Nat) (W : Nat → Nat → Bool) : Prop := ∀ f, f < F → ∀ m, m < 4096 → τ.2 8 (4096 * f + m) = bI (W f m)
theorem isWay_n {f m : Nat} (h : RW_ τ F W) (hF : F ≤ 30) (hf : f < F) (hm : m < 4096) : Rm_isWay τ (nI f) (nI m) = some (bI (W f m)) := by
  unfold Rm_isWay
  have e : (4096 : Int32) * nI f + nI m = nI (4096 * f + m) := by rw [ml4096, ad]
  rw [e, gi_n (by omega) (by decide), tn _ (by omega), h f hf m hm, gb_ok (bI_01 _)]
theorem count0_n {f : Nat} (h : RW_ τ F W) (hF : F ≤ 30) (hf : f < F) : Rm_count0 τ (nI f) = some (nI (fb_ct (W f) 4096)) := by
  unfold Rm_count0
  refine Eq.trans rfl (it2_seq (f := Rs_count0_4 (nI f) τ (fun u_5 => some u_5)) (fun j => nI (fb_ct (W f) j)) (fun j => nI j) 4096 _ (by unfold fuel; omega) (fun j hj rc => ?_) (fun rc => ?_))
  · unfold Rs_count0_4
    rw [if_neg (show ¬ (4096 : Int32) ≤ nI j from nI_ge (b := 4096) (by omega) (by decide)), isWay_n h hF hf hj, b1_s, fb_ct_succ, pl1]
    cases W f j
    · rw [if_pos (by rfl)]
      show rc (nI _ + nI 0) _ = _
      rw [ad]; rfl
    · rw [if_neg (by decide), pl1]; rfl
  · unfold Rs_count0_4
    ((try simp only [in_0]); simp (disch := omega) only [Int.le_refl, fa_lt, fa_le, fa_eq, it_nI, t0, i32_99, i32_8, i32_1, i32_2, i32_3, i32_4, i32_5, i32_6, i32_7, i32_11, i32_12, i32_13, i32_20, i32_30, i32_40, i32_50, i32_m50, i32_m1, i32_m2, i32_64, i32_256, i32_768, i32_4096, i32_600, i32_m600, i32_1000, i32_1201, if_pos, if_neg, reduceIte, b1_s, b2_s, nm_s, gi_n, tn, pl1, mi1, sub1, ml2, ml4, ml40, ml4096, ad, pl2, sub2, sub3, sub4, dA_p1, dA_p3, dS_p2, dS_p3, dJ_p1, dJ_p2, rA_p1, rS_p2])
end FAM
/-! counts under mir -/
theorem fb_ct_sm (p : Nat → Bool) : ∀ n, fb_ct p n = fb_sm (fun i => if p i then 1 else 0) n
  | 0 => rfl
  | n + 1 => by rw [fb_ct_succ, fb_sm_succ, fb_ct_sm p n]
theorem sm_swap (g : Nat → Nat → Nat) (m : Nat) : ∀ n, fb_sm (fun i => fb_sm (fun j => g i j) m) n = fb_sm (fun j => fb_sm (fun i => g i j) n) m
  | 0 => by
    show 0 = fb_sm (fun _ => 0) m
    rw [fb_sm_const]; omega
  | n + 1 => by
    rw [fb_sm_succ, sm_swap g m n, ← fb_sm_add]
    rfl
theorem sm_pick (f : Nat → Nat) {a : Nat} : ∀ n, fb_sm (fun j => if a = j then f j else 0) n = if a < n then f a else 0
  | 0 => by rw [if_neg (by omega)]; rfl
  | n + 1 => by
    rw [fb_sm_succ, sm_pick f n]
    by_cases c : a = n
    · subst c; rw [if_neg (by omega), if_pos rfl, if_pos (by omega)]; omega
    · rw [if_neg c]
      by_cases d : a < n
      · rw [if_pos d, if_pos (by omega)]; omega
      · rw [if_neg d, if_neg (by omega)]
/-- a sum over places, by an h that is its own inverse -/
theorem sm_inv (h : Nat → Nat) (N : Nat) (h1 : ∀ i, i < N → h i < N ∧ h (h i) = i) (f : Nat → Nat) : fb_sm (fun i => f (h i)) N = fb_sm f N := by
  have e1 : fb_sm (fun i => f (h i)) N = fb_sm (fun i => fb_sm (fun j => if h i = j then f j else 0) N) N := fb_sm_cong fun i hi => by
    rw [sm_pick, if_pos (h1 i hi).1]
  rw [e1, sm_swap]
  apply fb_sm_cong
  intro j hj
  have e2 : fb_sm (fun i => if h i = j then f j else 0) N = fb_sm (fun i => if h j = i then f j else 0) N := fb_sm_cong fun i hi => by
    by_cases c : h i = j
    · rw [if_pos c, if_pos (by rw [← c]; exact (h1 i hi).2)]
    · rw [if_neg c, if_neg (fun e => c (by rw [← e]; exact (h1 j hj).2))]
  rw [e2, sm_pick (fun _ => f j), if_pos (h1 j hj).1]
theorem ct_mir (p : Nat → Bool) : fb_ct (fun i => p (mir i)) 4096 = fb_ct p 4096 := by
  rw [fb_ct_sm, fb_ct_sm]
  exact sm_inv mir 4096 (fun i hi => ⟨mir_lt hi, mir_mir hi⟩) (fun i => if p i then 1 else 0)

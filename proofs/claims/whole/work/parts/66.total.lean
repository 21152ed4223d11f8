/-! ===== total ===== -/
theorem si_swap (g : Nat → Nat → Int) (m : Nat) : ∀ n, fb_si (fun i => fb_si (fun j => g i j) m) n = fb_si (fun j => fb_si (fun i => g i j) n) m
  | 0 => by
    show 0 = fb_si (fun _ => 0) m
    induction m with
    | zero => rfl
    | succ m ih => rw [fb_si_succ, ← ih]; rfl
  | n + 1 => by
    rw [fb_si_succ, si_swap g m n, ← fb_si_add]
    rfl
theorem si_ct (p : Nat → Bool) (c : Int) : ∀ n, fb_si (fun a => if p a = true then c else 0) n = c * (fb_ct p n : Int)
  | 0 => by rw [show fb_ct p 0 = 0 from rfl]; exact (Int.mul_zero c).symm
  | n + 1 => by
    rw [fb_si_succ, si_ct p c n, fb_ct_succ]
    cases p n
    · rw [if_neg (by decide), if_neg (by decide), Nat.add_zero, Int.add_zero]
    · rw [if_pos rfl, if_pos rfl, Int.natCast_add, Int.mul_add, show ((1 : Nat) : Int) = 1 from rfl, Int.mul_one]
theorem si_if (b : Bool) (g : Nat → Int) (n : Nat) : (if b = true then fb_si g n else 0) = fb_si (fun r => if b = true then g r else 0) n := by
  cases b
  · rw [if_neg (by decide), fb_si_cong (g := fun _ => 0) (fun k _ => if_neg (by decide))]
    induction n with
    | zero => rfl
    | succ m ih => rw [fb_si_succ, ← ih]; rfl
  · rw [if_pos rfl]
    exact fb_si_cong fun k _ => (if_pos rfl).symm
theorem total_swap {R : Nat} (hR : R ≤ 12) (wt : Nat → Int32) (V : Nat → Bool) : fb_si (fun m => if V m = true then sumW R wt m else 0) 4096 = fb_si (fun r => (if r < R then (wt r).toInt else 0) * (fb_ct (fun m => V m && m.testBit r) 4096 : Int)) 12 := by
  have e1 : ∀ m, m < 4096 → (if V m = true then sumW R wt m else 0) = fb_si (fun r => if V m = true then (if r < R then (if m.testBit r = true then (wt r).toInt else 0) else 0) else 0) 12 := fun m _ => by
    unfold sumW
    rw [← si_to hR, si_if]
  rw [fb_si_cong e1, si_swap]
  refine fb_si_cong fun r hr => ?_
  rw [← si_ct]
  refine fb_si_cong fun m hm => ?_
  cases V m <;> cases m.testBit r <;> by_cases c : r < R <;> simp [c]
theorem l64 (x : Int32) : x.toInt64 = Int64.ofInt x.toInt := by
  have := Int64.ofInt_toInt x.toInt64
  rw [Int32.toInt_toInt64] at this
  exact this.symm
theorem o64_add (a b : Int) : Int64.ofInt a + Int64.ofInt b = Int64.ofInt (a + b) := (Int64.ofInt_add a b).symm
theorem o64_mul (a b : Int) : Int64.ofInt a * Int64.ofInt b = Int64.ofInt (a * b) := (Int64.ofInt_mul a b).symm
theorem st_total : ST_total INV := by
  intro σ τ h a1
  obtain ⟨⟨P, R, ld, eA, eB, od, wt, n1, n2, n3⟩, ⟨F, kd, W, f1, f2, f3⟩, -⟩ := id h
  have hF := f1.1
  have hR := n1.2.1
  by_cases hf0 : 0 ≤ a1.toInt ∧ a1.toInt < F
  · obtain ⟨f, hf, rfl⟩ := of_range (by omega) hf0.1 hf0.2
    refine ⟨Int64.ofInt (fb_si (fun m => if W f m = true then sumW R wt m else 0) 4096), σ, τ, ⟨?_, rfl⟩, ⟨?_, rfl⟩, h⟩
    · unfold D8m_total
      rw [family_n f2.1 hF hf, bq_k (by omega), total_swap hR]
      refine Eq.trans ?_ (it2_seq (f := D8s_total_15 f σ (fun u_9 => some u_9)) (fun j => Int64.ofInt (fb_si (fun r => (if r < R then (wt r).toInt else 0) * (fb_ct (fun m => W f m && m.testBit r) 4096 : Int)) j)) (fun j => nI j) 12 _ (by unfold fuel; omega) (fun j hj rc => ?_) (fun rc => ?_))
      · rfl
      · unfold D8s_total_15
        have hc : fb_ct (fun p => wb σ f p && p.testBit (11 - j)) 4096 = fb_ct (fun m => W f m && m.testBit j) 4096 := by
          rw [← ct_mir (fun m => W f m && m.testBit j)]
          exact fb_ct_cong fun p hp => by rw [f2.P hf hp, mir_tb hp hj]
        have hle := fb_ct_le (fun m => W f m && m.testBit j) 4096
        rw [if_neg (show ¬ (12 : Int32) ≤ nI j from nI_ge (b := 12) (by omega) (by decide)), weightOf_n n1 n2 hj, b1_s, show (11 : Int32) - nI j = nI (11 - j) from pk_sub (a := 11) (by omega), sizeWith_n (by omega), b1_s, hc, l64, l64, it_nI (by omega), o64_mul, o64_add, fb_si_succ, pl1]
        refine congrArg (fun z => rc (Int64.ofInt (fb_si (fun r => (if r < R then (wt r).toInt else 0) * (fb_ct (fun m => W f m && m.testBit r) 4096 : Int)) j + z * (fb_ct (fun m => W f m && m.testBit j) 4096 : Int))) (nI (j + 1))) ?_
        split <;> rfl
      · unfold D8s_total_15
        rw [if_pos (show (12 : Int32) ≤ nI 12 by decide)]
    · unfold Rm_total
      refine Eq.trans ?_ (it2_seq (f := Rs_total_5 (nI f) τ (fun u_8 => some u_8)) (fun j => Int64.ofInt (fb_si (fun m => if W f m = true then sumW R wt m else 0) j)) (fun j => nI j) 4096 _ (by unfold fuel; omega) (fun j hj rc => ?_) (fun rc => ?_))
      · rfl
      · unfold Rs_total_5
        have hb := sumW_b n1 j
        rw [if_neg (show ¬ (4096 : Int32) ≤ nI j from nI_ge (b := 4096) (by omega) (by decide)), if_neg (fun q => (isFam_0 f3.1 hF).mp q hf0), isWay_n f3.R hF hf hj, b1_s, sumOf_n n1 n3 hj, b1_s, l64, fb_ofI (by omega) (by omega), o64_add, fb_si_succ, pl1]
        cases W f j
        · rw [if_pos (by rfl), if_neg (by decide)]
          show rc (Int64.ofInt _ + Int64.ofInt 0) _ = _
          rw [o64_add]
        · rw [if_neg (by decide), if_pos rfl]
      · unfold Rs_total_5
        rw [if_pos (show (4096 : Int32) ≤ nI 4096 by decide)]
  · refine ⟨0, σ, τ, ⟨?_, rfl⟩, ⟨?_, rfl⟩, h⟩
    · unfold D8m_total
      rw [family_o f2.1 hF hf0, bq_n]
    · unfold Rm_total
      refine it2_one fun rc => ?_
      unfold Rs_total_5
      rw [if_neg (by decide), if_pos ((isFam_0 f3.1 hF).mpr hf0)]

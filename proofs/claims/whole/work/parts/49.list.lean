/-! ===== the list of places ===== -/
def LST (σ τ : DS) (k n : Nat) : Prop := dK_ (fun c => c = 8) σ τ ∧ ∀ p, p < n → wb σ k p = true → τ.2.1 8 (fb_ct (wb σ k) p) = nI p
theorem bL0 (x : Int64) : (x &&& 1) = 0 ↔ bL x 0 = false := by
  rw [uN_bit, ← uN_bL, Nat.testBit_zero, decide_eq_false_iff_not]
  omega
theorem bL_zero {x : Int64} (h : x = 0) (i : Nat) : bL x i = false := by rw [h]; exact bL_0 i
theorem ct_flat {p : Nat → Bool} {a : Nat} : ∀ {d : Nat}, (∀ i, i < d → p (a + i) = false) → fb_ct p (a + d) = fb_ct p a
  | 0, _ => rfl
  | d + 1, h => by rw [← Nat.add_assoc, fb_ct_succ, ct_flat (fun i hi => h i (by omega)), h d (by omega)]; rfl
theorem list_w {ρ : Type} {σ : DS} {k w : Nat} (hw : w < 64) (kx : Int32 → DS → Option ρ) {τ : DS} (hL : LST σ τ k (64 * w)) : ∃ τ', it4 (D7s_list_21 k (nI w) kx) fuel (nI (fb_ct (wb σ k) (64 * w))) (σ.2.2 (79 + k) w) (0 : Int32) τ = kx (nI (fb_ct (wb σ k) (64 * (w + 1)))) τ' ∧ LST σ τ' k (64 * (w + 1)) := by
  refine it4_ind (f := D7s_list_21 k (nI w) kx) (P := fun n v2 v4 v6 τ => ∃ b, b + n = 64 ∧ v6 = nI b ∧ v2 = nI (fb_ct (wb σ k) (64 * w + b)) ∧ (∀ i, b + i < 64 → bL v4 i = bL (σ.2.2 (79 + k) w) (b + i)) ∧ LST σ τ k (64 * w + b)) (Q := fun o => ∃ τ', o = kx (nI (fb_ct (wb σ k) (64 * (w + 1)))) τ' ∧ LST σ τ' k (64 * (w + 1))) ?_ fuel 64 (nI (fb_ct (wb σ k) (64 * w))) (σ.2.2 (79 + k) w) (0 : Int32) τ (by unfold fuel; omega) ⟨0, rfl, rfl, rfl, fun i _ => by rw [Nat.zero_add], hL⟩
  rintro n v2 v4 v6 τ rc ⟨b, hb, rfl, rfl, hx, hK, hS⟩ ih
  unfold D7s_list_21
  by_cases c : b = 64
  · subst c
    ((try simp only [in_0]); simp (disch := omega) only [fa_lt, fa_le, fa_eq, it_nI, t0, i32_99, i32_8, i32_1, i32_2, i32_3, i32_4, i32_5, i32_6, i32_7, i32_11, i32_12, i32_13, i32_20, i32_30, i32_40, i32_50, i32_m50, i32_m1, i32_m2, i32_64, i32_256, i32_768, i32_4096, i32_600, i32_m600, i32_1000, i32_1201, if_pos, if_neg, reduceIte, b1_s, b2_s, nm_s, gi_n, tn, pl1, mi1, sub1, ml2, ml4, ml40, ml4096, ad, pl2, sub2, sub3, sub4, dA_p1, dA_p3, dS_p2, dS_p3, dJ_p1, dJ_p2, rA_p1, rS_p2])
    exact ⟨τ, rfl, hK, hS⟩
  · have wbb : ∀ i, b + i < 64 → wb σ k (64 * w + b + i) = bL v4 i := fun i hi => by
      rw [hx i hi, wb_eq, show (64 * w + b + i) / 64 = w by omega, show (64 * w + b + i) % 64 = b + i by omega]
    have hle := fb_ct_le (wb σ k) (64 * w + b)
    have nxt : ∀ i, b + 1 + i < 64 → bL (v4.toUInt64 >>> ((1 : Int32).toInt64.toUInt64 &&& Int64.toUInt64 63)).toInt64 i = bL (σ.2.2 (79 + k) w) (b + 1 + i) := fun i hi => by
      have := bL_ushr v4 (m := 1) (b := i) (by decide)
      rw [show b + 1 + i = b + (i + 1) by omega, ← hx (i + 1) (by omega)]
      exact this
    rw [if_neg (show ¬ (64 : Int32) ≤ nI b from nI_ge (b := 64) (by omega) (by decide))]
    simp only [lg0, nm_s]
    by_cases z : v4 = 0
    · rw [if_pos z]
      have flat : fb_ct (wb σ k) (64 * (w + 1)) = fb_ct (wb σ k) (64 * w + b) := by
        rw [show 64 * (w + 1) = 64 * w + b + n by omega]
        exact ct_flat (fun i hi => by rw [wbb i (by omega), bL_zero z])
      refine ⟨τ, by rw [flat], hK, fun p hp hpw => ?_⟩
      by_cases d : p < 64 * w + b
      · exact hS p d hpw
      · obtain ⟨i, rfl⟩ : ∃ i, p = 64 * w + b + i := ⟨p - (64 * w + b), by omega⟩
        rw [wbb i (by omega), bL_zero z] at hpw
        exact absurd hpw (by decide)
    · rw [if_neg z]
      have h0 := wbb 0 (by omega)
      rw [Nat.add_zero] at h0
      by_cases y : v4 &&& 1 = 0
      · have y0 := (bL0 v4).mp y
        rw [if_pos y, pl1]
        refine ih (n - 1) _ _ _ τ (by omega) ⟨b + 1, by omega, rfl, ?_, nxt, hK, fun p hp hpw => ?_⟩
        · rw [← Nat.add_assoc, fb_ct_succ, h0, y0]; rfl
        · by_cases d : p < 64 * w + b
          · exact hS p d hpw
          · rw [show p = 64 * w + b by omega, h0, y0] at hpw
            exact absurd hpw (by decide)
      · have y0 : bL v4 0 = true := by
          cases e : bL v4 0 with
          | true => rfl
          | false => exact absurd ((bL0 v4).mpr e) y
        rw [if_neg y, if_neg (show ¬ Int32.ofNat 4096 ≤ nI (fb_ct (wb σ k) (64 * w + b)) from nI_ge (b := 4096) (by omega) (by decide)), gi_n (by omega) (by decide), tn _ (by omega), pl1, pl1]
        refine ih (n - 1) _ _ _ _ (by omega) ⟨b + 1, by omega, rfl, ?_, nxt, hK.tr (dK_A rfl), fun p hp hpw => ?_⟩
        · rw [← Nat.add_assoc, fb_ct_succ, h0, y0]; rfl
        · by_cases d : p < 64 * w + b
          · have := ct_mono_lt d hpw
            rw [dA_n (by omega)]
            exact hS p d hpw
          · rw [show p = 64 * w + b by omega, dA_s]
            show nI 64 * nI w + nI b = _
            rw [pk_mul, ad]
theorem list_n {σ : DS} {k : Nat} : ∃ σ', D7m_list k σ = some (nI (fb_ct (wb σ k) 4096), σ') ∧ LST σ σ' k 4096 := by
  unfold D7m_list
  refine it3_ind (f := D7s_list_4 k (fun u_15 τ_16 => some (u_15, τ_16))) (P := fun n v2 v3 τ => ∃ w, w + n = 64 ∧ v3 = nI w ∧ v2 = nI (fb_ct (wb σ k) (64 * w)) ∧ LST σ τ k (64 * w)) (Q := fun o => ∃ σ', o = some (nI (fb_ct (wb σ k) 4096), σ') ∧ LST σ σ' k 4096) ?_ fuel 64 (0 : Int32) (0 : Int32) σ (by unfold fuel; omega) ⟨0, rfl, rfl, rfl, dK_.rf, fun p hp => by omega⟩
  rintro n v2 v3 τ rc ⟨w, hw, rfl, rfl, hL⟩ ih
  unfold D7s_list_4
  by_cases c : w = 64
  · subst c
    ((try simp only [in_0]); simp (disch := omega) only [fa_lt, fa_le, fa_eq, it_nI, t0, i32_99, i32_8, i32_1, i32_2, i32_3, i32_4, i32_5, i32_6, i32_7, i32_11, i32_12, i32_13, i32_20, i32_30, i32_40, i32_50, i32_m50, i32_m1, i32_m2, i32_64, i32_256, i32_768, i32_4096, i32_600, i32_m600, i32_1000, i32_1201, if_pos, if_neg, reduceIte, b1_s, b2_s, nm_s, gi_n, tn, pl1, mi1, sub1, ml2, ml4, ml40, ml4096, ad, pl2, sub2, sub3, sub4, dA_p1, dA_p3, dS_p2, dS_p3, dJ_p1, dJ_p2, rA_p1, rS_p2])
    exact ⟨τ, rfl, hL⟩
  · rw [if_neg (show ¬ (64 : Int32) ≤ nI w from nI_ge (b := 64) (by omega) (by decide)), gi_n (by omega) (by decide), tn _ (by omega), (hL.1 (79 + k) (by omega)).2.2]
    obtain ⟨τ', e1, e2⟩ := list_w (by omega) (fun u_13 τ_14 => rc u_13 (nI w + (1 : Int32)) τ_14) hL
    rw [e1, pl1]
    exact ih (n - 1) _ _ τ' (by omega) ⟨w + 1, by omega, rfl, rfl, e2⟩

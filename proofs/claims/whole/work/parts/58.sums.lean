/-! ===== sums ===== -/
def tS (aw : Nat → Int) (x n : Nat) : Int := fb_si (fun l => if x.testBit l then aw l else 0) n
def LRN (σ : DS) (aw : Nat → Int) : Prop := ∀ x, x < 64 → σ.2.1 11 x = Int32.ofInt (tS aw x 6) ∧ σ.2.1 12 x = Int32.ofInt (tS (fun l => aw (l + 6)) x 6)
theorem LRN.z {σ : DS} {aw : Nat → Int} (h : LRN σ aw) : σ.2.1 11 0 = 0 ∧ σ.2.1 12 0 = 0 := by
  have z : ∀ (g : Nat → Int), tS g 0 6 = 0 := fun g => by
    unfold tS
    rw [fb_si_cong (g := fun _ => 0) (fun k _ => by rw [Nat.zero_testBit]; rfl)]
    rfl
  obtain ⟨h1, h2⟩ := h 0 (by omega)
  rw [z] at h1 h2
  exact ⟨h1, h2⟩
theorem bits_b : ∀ b, b < 6 → ∀ x, x < 32 → x < 2 ^ b → (x.testBit b = false ∧ ∀ l, l < 6 → (2 ^ b + x).testBit l = (decide (l = b) || x.testBit l)) := by decide +kernel
theorem tS_b (aw : Nat → Int) {b x : Nat} (hb : b < 6) (hx : x < 2 ^ b) : tS aw (2 ^ b + x) 6 = tS aw x 6 + aw b := by
  have hb5 : 2 ^ b ≤ 2 ^ 5 := Nat.pow_le_pow_right (by decide) (by omega)
  obtain ⟨h1, h2⟩ := bits_b b hb x (by omega) hx
  unfold tS
  have e := fb_si_upd (fun l => if x.testBit l then aw l else 0) (aw b) (i := b) (n := 6) hb
  rw [fb_si_cong (g := fun k => if k = b then aw b else (if x.testBit k then aw k else 0)) (fun k hk => by
    rw [h2 k hk]
    by_cases c : k = b
    · subst c; rw [decide_eq_true rfl, Bool.true_or, if_pos rfl, if_pos rfl]
    · rw [decide_eq_false c, Bool.false_or, if_neg c]), e]
  rw [h1]
  simp
theorem ofI_add (a b : Int) : Int32.ofInt a + Int32.ofInt b = Int32.ofInt (a + b) := (Int32.ofInt_add a b).symm
theorem learn_n {σ : DS} {aw : Nat → Int} (h10 : ∀ l, l < 12 → σ.2.1 10 l = Int32.ofInt (aw l)) (ax : σ.2.1 11 0 = 0 ∧ σ.2.1 12 0 = 0) : ∃ σ', D5m_learn σ = some σ' ∧ dK_ (fun c => c = 11 ∨ c = 12) σ σ' ∧ LRN σ' aw := by
  -- how far: the first n of both
  have inner : ∀ (b : Nat) (hb : b < 6) (s : DS) (kx : DS → Option DS), dK_ (fun c => c = 11 ∨ c = 12) σ s → (∀ x, x < 2 ^ b → s.2.1 11 x = Int32.ofInt (tS aw x 6) ∧ s.2.1 12 x = Int32.ofInt (tS (fun l => aw (l + 6)) x 6)) → ∃ s', it2 (D5s_learn_10 (nI b) kx) fuel (0 : Int32) s = kx s' ∧ dK_ (fun c => c = 11 ∨ c = 12) σ s' ∧ (∀ x, x < 2 ^ (b + 1) → s'.2.1 11 x = Int32.ofInt (tS aw x 6) ∧ s'.2.1 12 x = Int32.ofInt (tS (fun l => aw (l + 6)) x 6)) := by
    intro b hb s kx k0 w0
    have hb5 : 2 ^ b ≤ 2 ^ 5 := Nat.pow_le_pow_right (by decide) (by omega)
    have hb1 : 2 ^ (b + 1) = 2 ^ b + 2 ^ b := by rw [Nat.pow_succ]; omega
    refine it2_ind (f := D5s_learn_10 (nI b) kx) (P := fun n v s => ∃ j, j + n = 2 ^ b ∧ v = nI j ∧ dK_ (fun c => c = 11 ∨ c = 12) σ s ∧ (∀ x, x < 2 ^ b + j → s.2.1 11 x = Int32.ofInt (tS aw x 6) ∧ s.2.1 12 x = Int32.ofInt (tS (fun l => aw (l + 6)) x 6))) (Q := fun o => ∃ s', o = kx s' ∧ dK_ (fun c => c = 11 ∨ c = 12) σ s' ∧ (∀ x, x < 2 ^ (b + 1) → s'.2.1 11 x = Int32.ofInt (tS aw x 6) ∧ s'.2.1 12 x = Int32.ofInt (tS (fun l => aw (l + 6)) x 6))) ?_ fuel (2 ^ b) (0 : Int32) s (by unfold fuel; omega) ⟨0, by omega, rfl, k0, w0⟩
    rintro n v s rc ⟨j, hj, rfl, k1, w1⟩ ih
    unfold D5s_learn_10
    rw [shl1 (by omega)]
    by_cases c : j = 2 ^ b
    · rw [if_pos (by rw [c]; exact nI_le (Nat.le_refl _) (by omega))]
      exact ⟨s, rfl, k1, fun x hx => w1 x (by omega)⟩
    · have hjb : j < 2 ^ b := by omega
      obtain ⟨y1, y2⟩ := w1 j (by omega)
      have z1 : s.2.1 10 b = Int32.ofInt (aw b) := by rw [(k1 10 (by omega)).2.1]; exact h10 b (by omega)
      have z2 : s.2.1 10 (b + 6) = Int32.ofInt (aw (b + 6)) := by rw [(k1 10 (by omega)).2.1]; exact h10 (b + 6) (by omega)
      have b6 : nI b + (6 : Int32) = nI (b + 6) := nI_add b 6
      rw [if_neg (nI_ge hjb (by omega)), ad, b6, gi_n (by omega) (by decide), gi_n (by omega) (by decide), gi_n (by omega) (by decide), nm_s, gi_n (by omega) (by decide), gi_n (by omega) (by decide), gi_n (by omega) (by decide), nm_s, tn _ (by omega), tn _ (by omega), tn _ (by omega), tn _ (by omega), y1, z1, pl1, dA_1 (j := 12) (by decide), dA_1 (j := 10) (by decide), y2, z2, ofI_add, ofI_add, ← tS_b aw hb hjb, ← tS_b (fun l => aw (l + 6)) hb hjb]
      refine ih (n - 1) _ _ (by omega) ⟨j + 1, by omega, rfl, k1.tr ((dK_A (Or.inl rfl)).tr (dK_A (Or.inr rfl))), fun x hx => ?_⟩
      by_cases e : x = 2 ^ b + j
      · subst e
        exact ⟨by rw [dA_1 (by decide), dA_s], dA_s⟩
      · obtain ⟨u1, u2⟩ := w1 x (by omega)
        exact ⟨by rw [dA_1 (by decide), dA_n e]; exact u1, by rw [dA_n e, dA_1 (by decide)]; exact u2⟩
  unfold D5m_learn
  refine it2_ind (f := D5s_learn_2 (fun τ_14 => some τ_14)) (P := fun n v s => ∃ b, b + n = 6 ∧ v = nI b ∧ dK_ (fun c => c = 11 ∨ c = 12) σ s ∧ (∀ x, x < 2 ^ b → s.2.1 11 x = Int32.ofInt (tS aw x 6) ∧ s.2.1 12 x = Int32.ofInt (tS (fun l => aw (l + 6)) x 6))) (Q := fun o => ∃ s', o = some s' ∧ dK_ (fun c => c = 11 ∨ c = 12) σ s' ∧ LRN s' aw) ?_ fuel 6 (0 : Int32) σ (by unfold fuel; omega) ⟨0, rfl, rfl, dK_.rf, fun x hx => ?_⟩
  · rintro n v s rc ⟨b, hb, rfl, k1, w1⟩ ih
    unfold D5s_learn_2
    by_cases c : b = 6
    · subst c
      rw [if_pos (show (6 : Int32) ≤ nI 6 by decide)]
      exact ⟨s, rfl, k1, w1⟩
    · rw [if_neg (show ¬ (6 : Int32) ≤ nI b from nI_ge (b := 6) (by omega) (by decide))]
      obtain ⟨s', e, k2, w2⟩ := inner b (by omega) s (fun τ_13 => rc (nI b + (1 : Int32)) τ_13) k1 w1
      rw [e, pl1]
      exact ih (n - 1) _ _ (by omega) ⟨b + 1, by omega, rfl, k2, w2⟩
  · have : x = 0 := by omega
    subst this
    have z : ∀ (g : Nat → Int), tS g 0 6 = 0 := fun g => by
      unfold tS
      rw [fb_si_cong (g := fun _ => 0) (fun k _ => by rw [Nat.zero_testBit]; rfl)]
      rfl
    rw [z, z]
    exact ax
theorem LRN.to {σ σ' : DS} {aw : Nat → Int} (h : LRN σ aw) {C : Nat → Prop} (k : dK_ C σ σ') (h1 : ¬ C 11) (h2 : ¬ C 12) : LRN σ' aw := fun x hx => by
  rw [(k 11 h1).2.1, (k 12 h2).2.1]; exact h x hx
theorem of_n {σ : DS} {aw : Nat → Int} (h : LRN σ aw) {p : Nat} (hp : p < 4096) : D5m_of σ (nI p) = some (Int32.ofInt (tS aw p 12)) := by
  unfold D5m_of
  have h1 := (h (p % 64) (Nat.mod_lt _ (by decide))).1
  have h2 := (h (p / 64) (by omega)).2
  rw [sh6 (by omega), an63 (by omega), an63 (by omega), show p / 64 % 64 = p / 64 by omega, gi_n (Nat.mod_lt _ (by decide)) (by decide), gi_n (by omega) (by decide), tn _ (by omega), tn _ (by omega), h1, h2, ofI_add]
  congr 2
  unfold tS
  rw [show (12 : Nat) = 6 + 6 from rfl, fb_si_split]
  congr 1
  · exact fb_si_cong fun l hl => by rw [tb_q p l, if_pos hl]
  · exact fb_si_cong fun l hl => by
      have e : p.testBit (6 + l) = (p / 64).testBit l := by rw [tb_q p (6 + l), if_neg (by omega), show 6 + l - 6 = l by omega]
      rw [e, Nat.add_comm 6 l]
def wAd (R : Nat) (wt : Nat → Int32) (l : Nat) : Int := if 11 - l < R then (wt (11 - l)).toInt else 0
def sumW (R : Nat) (wt : Nat → Int32) (m : Nat) : Int := fb_si (fun r => if m.testBit r then (wt r).toInt else 0) R
theorem si_rev (f : Nat → Int) : fb_si (fun i => f (11 - i)) 12 = fb_si f 12 := by
  simp only [fb_si, Nat.sub_zero, Nat.reduceSub]
  omega
theorem si_to {g : Nat → Int} {R N : Nat} (h : R ≤ N) : fb_si (fun r => if r < R then g r else 0) N = fb_si g R := by
  obtain ⟨d, rfl⟩ : ∃ d, N = R + d := ⟨N - R, by omega⟩
  rw [fb_si_split, fb_si_cong (n := R) (g := g) (fun k hk => if_pos hk), fb_si_cong (n := d) (g := fun _ => 0) (fun k hk => if_neg (by omega))]
  have : ∀ d, fb_si (fun _ => 0) d = 0 := fun d => by
    induction d with
    | zero => rfl
    | succ d ih => rw [fb_si_succ, ih]; rfl
  rw [this]
  omega
theorem tS_wAd {R : Nat} (hR : R ≤ 12) (wt : Nat → Int32) {p : Nat} (hp : p < 4096) : tS (wAd R wt) p 12 = sumW R wt (mir p) := by
  unfold tS sumW
  rw [← si_to hR, ← si_rev]
  apply fb_si_cong
  intro l hl
  unfold wAd
  rw [mir_tb hp (by omega), show 11 - (11 - l) = l by omega]
  by_cases c : l < R
  · rw [if_pos c, if_pos c]
  · rw [if_neg c, if_neg c]
    split <;> rfl
section SUMS
variable {σ : DS} {τ : RS} {P R : Nat} {ld eA eB od : Nat → Nat} {wt : Nat → Int32}
theorem sumW_b (n1 : NW P R ld eA eB od wt) (m : Nat) : -600 ≤ sumW R wt m ∧ sumW R wt m ≤ 600 := by
  have hR := n1.2.1
  unfold sumW
  have := fb_si_bound (f := fun r => if m.testBit r then (wt r).toInt else 0) (c := 50) (by decide) (n := R) (fun k hk => by
    obtain ⟨-, -, -, h1, h2⟩ := n1.2.2.2.1 k hk
    split <;> omega)
  omega
theorem sumOf_n (n1 : NW P R ld eA eB od wt) (n3 : RN τ P R ld eA eB od wt) {m : Nat} (hm : m < 4096) : Rm_sumOf τ (nI m) = some (Int32.ofInt (sumW R wt m)) := by
  have hR := n1.2.1
  unfold Rm_sumOf sumW
  refine Eq.trans rfl (it2_seq (f := Rs_sumOf_4 (nI m) τ (fun u_4 => some u_4)) (fun j => Int32.ofInt (fb_si (fun r => if m.testBit r then (wt r).toInt else 0) j)) (fun j => nI j) R _ (by unfold fuel; omega) (fun j hj rc => ?_) (fun rc => ?_))
  · unfold Rs_sumOf_4
    obtain ⟨x1, x2, x3, x4⟩ := n3.2.2.2 j hj
    rw [n3.2.1, if_neg (nI_ge hj (by omega)), rholds_n (by omega) (by omega), gi_n (by omega) (by decide), tn _ (by omega), x3, fb_si_succ, pl1]
    cases m.testBit j
    · rw [if_pos (by rfl), if_neg (by decide)]
      show rc (Int32.ofInt _ + Int32.ofInt 0) _ = _
      rw [ofI_add]
    · rw [if_neg (by decide), if_pos rfl, ← ofI_add, Int32.ofInt_toInt]
  · unfold Rs_sumOf_4
    rw [n3.2.1, if_pos (nI_le (Nat.le_refl _) (by omega))]
theorem weightOf_n (n1 : NW P R ld eA eB od wt) (n2 : CN σ P R ld eA eB od wt) {r : Nat} (hr : r < 12) : D2m_weightOf σ (nI r) = some (if r < R then wt r else 0) := by
  unfold D2m_weightOf
  by_cases c : r < R
  · rw [if_neg (fun q => (isRoad_0 n1 n2).mp q (by rw [it_nI (by omega)]; omega)), gi_n (by omega) (by decide), tn _ (by omega), (n2.2.2.2 r c).2.2.1, if_pos c]
  · rw [if_pos ((isRoad_0 n1 n2).mpr (by rw [it_nI (by omega)]; omega)), if_neg c]
theorem learnW_n (n1 : NW P R ld eA eB od wt) (n2 : CN σ P R ld eA eB od wt) (ax : σ.2.1 11 0 = 0 ∧ σ.2.1 12 0 = 0) : ∃ σ', D5m_learnWeights σ = some σ' ∧ dK_ (fun c => c = 10 ∨ c = 11 ∨ c = 12) σ σ' ∧ LRN σ' (wAd R wt) := by
  unfold D5m_learnWeights
  refine it2_ind (f := D5s_learnWeights_2 (fun τ_7 => b1 (D5m_learn τ_7) (fun τ_9 => some τ_9))) (P := fun n v s => ∃ j, j + n = 12 ∧ v = nI j ∧ dK_ (fun c => c = 10) σ s ∧ ∀ l, l < j → s.2.1 10 l = Int32.ofInt (wAd R wt l)) (Q := fun o => ∃ s', o = some s' ∧ dK_ (fun c => c = 10 ∨ c = 11 ∨ c = 12) σ s' ∧ LRN s' (wAd R wt)) ?_ fuel 12 (0 : Int32) σ (by unfold fuel; omega) ⟨0, rfl, rfl, dK_.rf, fun l hl => by omega⟩
  rintro n v s rc ⟨j, hj, rfl, k1, w1⟩ ih
  unfold D5s_learnWeights_2
  by_cases c : j = 12
  · subst c
    rw [if_pos (show (12 : Int32) ≤ nI 12 by decide)]
    obtain ⟨s', e1, k2, w2⟩ := learn_n (σ := s) w1 ⟨by rw [(k1 11 (by omega)).2.1]; exact ax.1, by rw [(k1 12 (by omega)).2.1]; exact ax.2⟩
    exact ⟨s', by show b1 (D5m_learn s) (fun τ_9 => some τ_9) = _; rw [e1, b1_s], (k1.mo (fun c hc => Or.inl hc)).tr (k2.mo (fun c hc => Or.inr hc)), w2⟩
  · have n2' := n2.to k1 (fun c hc => by omega)
    rw [if_neg (show ¬ (12 : Int32) ≤ nI j from nI_ge (b := 12) (by omega) (by decide)), show (11 : Int32) - nI j = nI (11 - j) from pk_sub (a := 11) (by omega), weightOf_n n1 n2' (by omega), b1_s, gi_n (by omega) (by decide), nm_s, tn _ (by omega), pl1]
    refine ih (n - 1) _ _ (by omega) ⟨j + 1, by omega, rfl, k1.tr (dK_A rfl), fun l hl => ?_⟩
    by_cases e : l = j
    · subst e
      rw [dA_s]
      unfold wAd
      split
      · rw [Int32.ofInt_toInt]
      · rfl
    · rw [dA_n e]; exact w1 l (by omega)
end SUMS
theorem st_within : ST_within INV := by
  intro σ τ h a1 a2 a3
  obtain ⟨⟨P, R, ld, eA, eB, od, wt, n1, n2, n3⟩, ⟨F, kd, W, f1, f2, f3⟩, -, -, -, ax⟩ := id h
  have hF := f1.1
  have hR := n1.2.1
  by_cases hf0 : 0 ≤ a1.toInt ∧ a1.toInt < F
  · obtain ⟨f, hf, rfl⟩ := of_range (by omega) hf0.1 hf0.2
    have hsv : ∀ m, (Int32.ofInt (sumW R wt m)).toInt = sumW R wt m := fun m => fb_ofI (by have := sumW_b n1 m; omega) (by have := sumW_b n1 m; omega)
    have er : Rm_within τ (nI f) a2 a3 = it2 (Rs_within_14 (nI f) a2 a3 (fun τ_18 => b2 (Rm_handed τ_18) (fun r_20 τ_21 => some (r_20, τ_21)))) fuel (0 : Int32) τ := by
      unfold Rm_within
      rw [if_neg (fun q => (isFam_0 f3.1 hF).mp q hf0)]
    rw [er]
    obtain ⟨τ1, t1, t2⟩ := hand_loop (f := Rs_within_14 (nI f) a2 a3 (fun τ_18 => b2 (Rm_handed τ_18) (fun r_20 τ_21 => some (r_20, τ_21)))) (τ := τ) (fun t => b2 (Rm_handed t) (fun r s => some (r, s))) (fun m => W f m && decide (a2.toInt ≤ sumW R wt m ∧ sumW R wt m ≤ a3.toInt)) ax.2 (fun m τ1 rc hm hh => by
      have hw : RW_ τ1 F W := f3.R.to (fun j _ => hh.2.2.2 j)
      have n3' := n3.to hh.1 (fun c hc => by simp only [rScr] at hc; omega)
      unfold Rs_within_14
      rw [if_neg (show ¬ (4096 : Int32) ≤ nI m from nI_ge (b := 4096) (by omega) (by decide)), isWay_n hw hF hf hm, b1_s, sumOf_n n1 n3' hm, b1_s, in_iff, hsv, gi_n (by omega) (by decide), gi_n (by omega) (by decide), tn _ (by omega)]
      cases W f m
      · rw [if_pos (by rfl)]; rfl
      · rw [if_neg (by decide), Bool.true_and]
        cases decide (a2.toInt ≤ sumW R wt m ∧ sumW R wt m ≤ a3.toInt) <;> rfl) (fun τ1 rc => by
      unfold Rs_within_14
      rw [if_pos (show (4096 : Int32) ≤ nI 4096 by decide)])
    refine mk_hand (τ1 := τ1) h ⟨f1, f2, f3⟩ ?_ t1 t2
    unfold D8m_within
    rw [family_n f2.1 hF hf, bq_k (by omega)]
    refine DMK.of f2.1 ax.1 (fun hF9 σ0 hb0 => ?_)
    have n2' := n2.to hb0.1 (fun c hc => by omega)
    obtain ⟨σ1, e1, k1, w1⟩ := learnW_n n1 n2' hb0.2.2.2
    obtain ⟨σl, e2, kl, hl⟩ := list_n (σ := σ1) (k := f)
    have old : ∀ q, q < 4096 → wb σ1 f q = W f (mir q) := fun q hq => by
      rw [wb_dK k1 (by omega), wb_dK hb0.1 (by omega), f2.P hf hq]
    have hle := fb_ct_le (wb σ1 f) 4096
    obtain ⟨σ3, e3, k3, w3⟩ := filt (f := D8s_within_55 a2 a3 F (nI (fb_ct (wb σ1 f) 4096)) (fun τ_23 => b2 (D8m_keep τ_23) (fun r_26 τ_25 => some (r_26, τ_25)))) (σl := σl) (F := F) (wb σ1 f) (fun q => decide (a2.toInt ≤ sumW R wt (mir q) ∧ sumW R wt (mir q) ≤ a3.toInt)) (fun s => b2 (D8m_keep s) (fun r s => some (r, s))) (fun q s rc hq hv ks => by
      have hlt := ct_mono_lt hq hv
      have hpl : s.2.1 8 (fb_ct (wb σ1 f) q) = nI q := by rw [(ks 8 (by omega)).2.1]; exact hl q hq hv
      have hlr : LRN s (wAd R wt) := (w1.to kl (by omega) (by omega)).to ks (by omega) (by omega)
      unfold D8s_within_55
      rw [if_neg (nI_ge hlt (by omega)), if_neg (show ¬ (4096 : Int32) ≤ nI (fb_ct (wb σ1 f) q) from nI_ge (b := 4096) (by omega) (by decide)), gi_n (by omega) (by decide), gi_n (by omega) (by decide), tn _ (by omega), hpl, of_n hlr hq, tS_wAd hR wt hq, b1_s]
      simp only [fa_lt, hsv]
      by_cases d1 : sumW R wt (mir q) < a2.toInt
      · rw [if_pos d1, if_neg (by rw [decide_eq_true_eq]; omega)]
      · rw [if_neg d1]
        by_cases d2 : a3.toInt < sumW R wt (mir q)
        · rw [if_pos d2, if_neg (by rw [decide_eq_true_eq]; omega)]
        · rw [if_neg d2, if_pos (by rw [decide_eq_true_eq]; omega)]) (fun s rc => by
      unfold D8s_within_55
      rw [if_pos (nI_le (Nat.le_refl _) (by omega))])
    have kall := k1.mo (C' := dScr F) (fun c hc => by unfold dScr; omega)
    have z := ((w1.to kl (by omega) (by omega)).to k3 (by omega) (by omega)).z
    refine ⟨σ3, ?_, (kall.tr (kl.mo (fun c hc => by unfold dScr; omega))).tr (k3.mo (fun c hc => by unfold dScr; omega)), ?_, fun m hm => ?_, z.1, z.2⟩
    · rw [e1, b1_s, e2, b2_s, e3]
    · rw [(k3 (47 + F) (by omega)).1, (kl (47 + F) (by omega)).1, (k1 (47 + F) (by omega)).1]; exact hb0.2.1
    · rw [w3 _ (mir_lt hm), wb_dK kl (by omega), wb_dK k1 (by omega), hb0.2.2.1 _ (mir_lt hm), old _ (mir_lt hm), mir_mir hm, Bool.false_or]
  · refine ⟨-2, σ, τ, ?_, ?_, h⟩
    · unfold D8m_within
      rw [family_o f2.1 hF hf0, bq_n]
    · unfold Rm_within
      rw [if_pos ((isFam_0 f3.1 hF).mpr hf0)]

/-! ===== best ===== -/
theorem it2_flip {A B ρ : Type} {f : (A → B → Option ρ) → A → B → Option ρ} : ∀ (N : Nat) (a : A) (b : B), it2 f N a b = it2 (fun rc b a => f (fun a b => rc b a) a b) N b a
  | 0, _, _ => rfl
  | N + 1, a, b => by
    show f (it2 f N) a b = f (fun a b => it2 (fun rc b a => f (fun a b => rc b a) a b) N b a) a b
    congr 1
    funext a b
    exact it2_flip N a b
theorem ofI_inj {a b : Int} (ha : -700 ≤ a ∧ a ≤ 700) (hb : -700 ≤ b ∧ b ≤ 700) : Int32.ofInt a = Int32.ofInt b ↔ a = b := by
  constructor
  · intro h
    have := congrArg Int32.toInt h
    rwa [fb_ofI (by omega) (by omega), fb_ofI (by omega) (by omega)] at this
  · rintro rfl; rfl
theorem ofI_600 {s : Int} (h : -600 ≤ s ∧ s ≤ 600) : Int32.ofInt s + (600 : Int32) = nI (s + 600).toNat := by
  apply of_toInt (by omega)
  rw [fb_addI, fb_ofI (by omega) (by omega), show (600 : Int32).toInt = 600 from rfl]
  · omega
  · rw [fb_ofI (by omega) (by omega), show (600 : Int32).toInt = 600 from rfl]; omega
  · rw [fb_ofI (by omega) (by omega), show (600 : Int32).toInt = 600 from rfl]; omega
section BEST
variable {σ : DS} {τ : RS} {F f : Nat} {W : Nat → Nat → Bool} {V : Nat → Bool} {S : Nat → Int}
/-- what a sum's ways are, and the sums of the places -/
def bS (V : Nat → Bool) (S : Nat → Int) (T : Int) (p : Nat) : Bool := V p && decide (S p = T)
theorem count_n {aw : Nat → Int} (hS : ∀ p, p < 4096 → tS aw p 12 = S p ∧ -600 ≤ S p ∧ S p ≤ 600) (hl : LRN σ aw) (hp : ∀ p, p < 4096 → V p = true → σ.2.1 8 (fb_ct V p) = nI p) : ∃ σ', D5m_countSums σ (nI (fb_ct V 4096)) = some σ' ∧ dK_ (fun c => c = 13) σ σ' ∧ ∀ k, k < 1201 → σ'.2.1 13 k = nI (fb_ct (bS V S ((k : Int) - 600)) 4096) := by
  have hle := fb_ct_le V 4096
  unfold D5m_countSums
  rw [fillI (by omega), b1_s]
  refine list_loop (f := D5s_countSums_10 (nI (fb_ct V 4096)) (fun τ_14 => some τ_14)) V (fun p s => dK_ (fun c => c = 13) σ s ∧ ∀ k, k < 1201 → s.2.1 13 k = nI (fb_ct (bS V S ((k : Int) - 600)) p)) (fun o => ∃ σ', o = some σ' ∧ dK_ (fun c => c = 13) σ σ' ∧ ∀ k, k < 1201 → σ'.2.1 13 k = nI (fb_ct (bS V S ((k : Int) - 600)) 4096)) ?_ ?_ ?_ ⟨dK_F rfl, fun k hk => by rw [dFill_in (by omega)]; rfl⟩
  · rintro p s hp4 hv ⟨k1, w1⟩
    refine ⟨k1, fun k hk => ?_⟩
    rw [w1 k hk, fb_ct_succ]
    unfold bS
    rw [hv]
    rfl
  · rintro p s rc hp4 hv ⟨k1, w1⟩ ih
    have hlt := ct_mono_lt hp4 hv
    obtain ⟨s1, s2, s3⟩ := hS p hp4
    have hpl : s.2.1 8 (fb_ct V p) = nI p := by rw [(k1 8 (by omega)).2.1]; exact hp p hp4 hv
    have h1201 : Int32.ofNat 1201 = nI 1201 := rfl
    have h4096 : Int32.ofNat 4096 = nI 4096 := rfl
    unfold D5s_countSums_10
    rw [if_neg (nI_ge hlt (by omega)), h4096, h1201, if_neg (nI_ge (by omega) (by decide)), gi_n (by omega) (by decide), tn _ (by omega), hpl, of_n (hl.to k1 (by omega) (by omega)) hp4, b1_s, s1, ofI_600 ⟨s2, s3⟩, if_neg (nI_pos (by omega)), if_neg (nI_ge (by omega) (by decide)), gi_n (by omega) (by decide), gi_n (by omega) (by decide), nm_s, tn _ (by omega), w1 _ (by omega)]
    refine ih _ ⟨k1.tr (dK_A rfl), fun k hk => ?_⟩
    rw [fb_ct_succ]
    unfold bS
    rw [hv, Bool.true_and]
    by_cases e : k = (S p + 600).toNat
    · subst e
      rw [dA_s, pl1, if_pos (decide_eq_true (by omega))]
    · rw [dA_n e, w1 k hk, if_neg (by rw [decide_eq_true_eq]; omega)]
      rfl
  · rintro s rc ⟨k1, w1⟩
    unfold D5s_countSums_10
    rw [if_pos (nI_le (Nat.le_refl _) (by omega))]
    exact ⟨s, rfl, k1, w1⟩
theorem nthOf_n {aw : Nat → Int} (hS : ∀ p, p < 4096 → tS aw p 12 = S p ∧ -600 ≤ S p ∧ S p ≤ 600) (hl : LRN σ aw) (hp : ∀ p, p < 4096 → V p = true → σ.2.1 8 (fb_ct V p) = nI p) {T : Int} (hT : -600 ≤ T ∧ T ≤ 600) {p0 : Nat} (h0 : p0 < 4096) (hB : bS V S T p0 = true) : D5m_nthOfSum σ (nI (fb_ct V 4096)) (Int32.ofInt T) (nI (fb_ct (bS V S T) p0)) = some (nI p0) := by
  have hle := fb_ct_le V 4096
  have hleB := fb_ct_le (bS V S T) p0
  have hV0 : V p0 = true := by
    unfold bS at hB
    rw [Bool.and_eq_true] at hB
    exact hB.1
  unfold D5m_nthOfSum
  rw [it2_flip]
  refine list_loop (f := fun rc b a => D5s_nthOfSum_7 (nI (fb_ct V 4096)) (Int32.ofInt T) σ (fun u_8 => gi u_8 4096 (some (σ.2.1 8 (u_8).toNatClampNeg))) (some (-1 : Int32)) (fun a b => rc b a) a b) V (fun p v => p ≤ p0 ∧ v = nI (fb_ct (bS V S T) p0 - fb_ct (bS V S T) p)) (fun o => o = some (nI p0)) ?_ ?_ ?_ ⟨Nat.zero_le _, rfl⟩
  · rintro p v hp4 hv ⟨h1, rfl⟩
    have hne : p ≠ p0 := fun e => by rw [e, hV0] at hv; exact absurd hv (by decide)
    refine ⟨by omega, ?_⟩
    rw [fb_ct_succ, show bS V S T p = false by unfold bS; rw [hv]; rfl]
    rfl
  · rintro p v rc hp4 hv ⟨h1, rfl⟩ ih
    have hlt := ct_mono_lt hp4 hv
    obtain ⟨s1, s2, s3⟩ := hS p hp4
    have h4096 : Int32.ofNat 4096 = nI 4096 := rfl
    have hm := fb_ct_mono (bS V S T) h1
    unfold D5s_nthOfSum_7
    rw [if_neg (nI_ge hlt (by omega)), h4096, if_neg (nI_ge (by omega) (by decide)), gi_n (by omega) (by decide), tn _ (by omega), hp p hp4 hv, of_n hl hp4, b1_s, s1]
    by_cases c : S p = T
    · have hBp : bS V S T p = true := by unfold bS; rw [hv, decide_eq_true c]; rfl
      rw [if_pos (by rw [c])]
      by_cases e : p = p0
      · subst e
        rw [Nat.sub_self, if_pos nI_0]
        show gi (nI (fb_ct V p)) 4096 (some (σ.2.1 8 (nI (fb_ct V p)).toNatClampNeg)) = _
        rw [gi_n (by omega) (by decide), tn _ (by omega), hp p hp4 hv]
      · have hl2 := ct_mono_lt (show p < p0 by omega) hBp
        have hs := fb_ct_succ (bS V S T) p
        rw [hBp] at hs
        simp only [if_true] at hs
        rw [if_neg (nI_ne0 (by omega) (by omega)), show fb_ct (bS V S T) p0 - fb_ct (bS V S T) p = (fb_ct (bS V S T) p0 - fb_ct (bS V S T) (p + 1)) + 1 by omega, pk_m1]
        exact ih _ ⟨by omega, rfl⟩
    · rw [if_neg (fun q => c ((ofI_inj (by omega) (by omega)).mp q))]
      have hBp : bS V S T p = false := by unfold bS; rw [hv, decide_eq_false c]; rfl
      have e : p ≠ p0 := fun e => by rw [e, hB] at hBp; exact absurd hBp (by decide)
      exact ih _ ⟨by omega, by rw [fb_ct_succ, hBp]; rfl⟩
  · rintro v rc ⟨h1, -⟩
    omega
/-- the reference's inner loop -/
def rCmp (a2 p5 : Int32) (T : Int) : Prop := (a2 = 0 ∧ p5 = Int32.ofInt T) ∨ (a2 ≠ 0 ∧ -p5 = Int32.ofInt T)
theorem best_step {ρ : Type} (h : RW_ τ F W) (hF : F ≤ 30) (hf : f < F) (hV : ∀ p, p < 4096 → W f (mir p) = V p) (hS : ∀ p, p < 4096 → Rm_sumOf τ (nI (mir p)) = some (Int32.ofInt (S p)) ∧ -600 ≤ S p ∧ S p ≤ 600) {T : Int} (hT : -600 ≤ T ∧ T ≤ 600) {a2 p5 : Int32} (hc : rCmp a2 p5 T) (kx96 kx108 : Int32 → Option ρ) (rc : Int32 → Int32 → Option ρ) {p : Nat} (hp : p < 4096) (v : Int32) :
    Rs_best_45 (nI f) a2 p5 τ kx96 kx108 rc v (nI p) = if bS V S T p = true then (if v = 0 then kx96 (nI (mir p)) else rc (v + (-1 : Int32)) (nI (p + 1))) else rc v (nI (p + 1)) := by
  obtain ⟨s1, s2, s3⟩ := hS p hp
  unfold Rs_best_45 bS
  rw [if_neg (show ¬ (4096 : Int32) ≤ nI p from nI_ge (b := 4096) (by omega) (by decide)), ordered_n hp, b1_s, isWay_n h hF hf (mir_lt hp), b1_s, hV p hp, s1, b1_s, pl1]
  cases V p
  · rw [if_pos (by rfl)]; rfl
  · rw [if_neg (by decide), Bool.true_and]
    have hh := ofI_inj (a := S p) (b := T) (by omega) (by omega)
    rcases hc with ⟨rfl, rfl⟩ | ⟨h1, h2⟩
    · rw [if_pos rfl]
      by_cases c : S p = T
      · rw [if_pos (hh.mpr c), if_pos (decide_eq_true c)]
      · rw [if_neg (fun q => c (hh.mp q)), if_neg (by rw [decide_eq_true_eq]; exact c)]
    · rw [if_neg h1, h2]
      by_cases c : S p = T
      · rw [if_pos (hh.mpr c), if_pos (decide_eq_true c)]
      · rw [if_neg (fun q => c (hh.mp q)), if_neg (by rw [decide_eq_true_eq]; exact c)]
theorem best_in {ρ : Type} (h : RW_ τ F W) (hF : F ≤ 30) (hf : f < F) (hV : ∀ p, p < 4096 → W f (mir p) = V p) (hS : ∀ p, p < 4096 → Rm_sumOf τ (nI (mir p)) = some (Int32.ofInt (S p)) ∧ -600 ≤ S p ∧ S p ≤ 600) {T : Int} (hT : -600 ≤ T ∧ T ≤ 600) {a2 p5 : Int32} (hc : rCmp a2 p5 T) (kx96 kx108 : Int32 → Option ρ) {p0 : Nat} (h0 : p0 < 4096) (hB : bS V S T p0 = true) :
    it2 (Rs_best_45 (nI f) a2 p5 τ kx96 kx108) fuel (nI (fb_ct (bS V S T) p0)) (0 : Int32) = kx96 (nI (mir p0)) := by
  have hleB := fb_ct_le (bS V S T) p0
  refine Eq.trans ?_ (it2_seq (f := Rs_best_45 (nI f) a2 p5 τ kx96 kx108) (fun j => nI (fb_ct (bS V S T) p0 - fb_ct (bS V S T) j)) (fun j => nI j) p0 _ (by unfold fuel; omega) (fun j hj rc => ?_) (fun rc => ?_))
  · rfl
  · have hm := fb_ct_mono (bS V S T) (show j + 1 ≤ p0 by omega)
    have hs := fb_ct_succ (bS V S T) j
    rw [best_step h hF hf hV hS hT hc kx96 kx108 rc (by omega)]
    cases d : bS V S T j
    · rw [d] at hs
      simp only [Bool.false_eq_true, if_false, Nat.add_zero] at hs
      rw [if_neg (by decide), hs]
    · rw [d] at hs
      simp only [if_true] at hs
      rw [if_pos rfl, if_neg (nI_ne0 (by omega) (by omega)), hs, show fb_ct (bS V S T) p0 - fb_ct (bS V S T) j = (fb_ct (bS V S T) p0 - (fb_ct (bS V S T) j + 1)) + 1 by omega, pk_m1]
  · rw [best_step h hF hf hV hS hT hc kx96 kx108 rc h0, hB, if_pos rfl, Nat.sub_self, if_pos nI_0]
theorem best_out {ρ : Type} (h : RW_ τ F W) (hF : F ≤ 30) (hf : f < F) (hV : ∀ p, p < 4096 → W f (mir p) = V p) (hS : ∀ p, p < 4096 → Rm_sumOf τ (nI (mir p)) = some (Int32.ofInt (S p)) ∧ -600 ≤ S p ∧ S p ≤ 600) {T : Int} (hT : -600 ≤ T ∧ T ≤ 600) {a2 p5 : Int32} (hc : rCmp a2 p5 T) (kx96 kx108 : Int32 → Option ρ) {i : Nat} (hi : i < 2 ^ 31) (hB : fb_ct (bS V S T) 4096 ≤ i) :
    it2 (Rs_best_45 (nI f) a2 p5 τ kx96 kx108) fuel (nI i) (0 : Int32) = kx108 (nI (i - fb_ct (bS V S T) 4096)) := by
  refine Eq.trans ?_ (it2_seq (f := Rs_best_45 (nI f) a2 p5 τ kx96 kx108) (fun j => nI (i - fb_ct (bS V S T) j)) (fun j => nI j) 4096 _ (by unfold fuel; omega) (fun j hj rc => ?_) (fun rc => ?_))
  · rfl
  · have hm := fb_ct_mono (bS V S T) (show j + 1 ≤ 4096 by omega)
    have hs := fb_ct_succ (bS V S T) j
    rw [best_step h hF hf hV hS hT hc kx96 kx108 rc (by omega)]
    cases d : bS V S T j
    · rw [d] at hs
      simp only [Bool.false_eq_true, if_false, Nat.add_zero] at hs
      rw [if_neg (by decide), hs]
    · rw [d] at hs
      simp only [if_true] at hs
      rw [if_pos rfl, if_neg (nI_ne0 (by omega) (by omega)), hs, show i - fb_ct (bS V S T) j = (i - (fb_ct (bS V S T) j + 1)) + 1 by omega, pk_m1]
  · unfold Rs_best_45
    rw [if_pos (show (4096 : Int32) ≤ nI 4096 by decide)]
/-- both loops over the sums -/
theorem best_l {σ' : DS} {aw : Nat → Int} (h : RW_ τ F W) (hF : F ≤ 30) (hf : f < F) (hV : ∀ p, p < 4096 → W f (mir p) = V p) (hR : ∀ p, p < 4096 → Rm_sumOf τ (nI (mir p)) = some (Int32.ofInt (S p)) ∧ -600 ≤ S p ∧ S p ≤ 600)
    (hS : ∀ p, p < 4096 → tS aw p 12 = S p ∧ -600 ≤ S p ∧ S p ≤ 600) (hl : LRN σ' aw) (hp : ∀ p, p < 4096 → V p = true → σ'.2.1 8 (fb_ct V p) = nI p) (h13 : ∀ k, k < 1201 → σ'.2.1 13 k = nI (fb_ct (bS V S ((k : Int) - 600)) 4096)) {a2 gr : Int32} (hg : (a2 = 0 ∧ gr = 1) ∨ (a2 = 1 ∧ gr = 0)) :
    ∀ (d n N M i : Nat), n + d = 1201 → d < N → d < M → i < 2 ^ 31 → ∃ x r : Int32, ((x = -1 ∧ r = -1) ∨ ∃ p, p < 4096 ∧ x = nI p ∧ r = nI (mir p)) ∧ it2 (D5s_nthBest_13 (nI (fb_ct V 4096)) gr σ' (fun u_13 u_14 => b1 (D5m_nthOfSum σ' (nI (fb_ct V 4096)) (u_14 - (600 : Int32)) u_13) (fun r_16 => some (r_16, σ'))) (some ((-1 : Int32), σ'))) N (nI i) (nI n) = some (x, σ') ∧ it2 (Rs_best_34 (nI f) a2 τ (fun u_20 => some u_20) (some (-1 : Int32))) M (nI i) (Int32.ofInt (600 - (n : Int))) = some r := by
  have h1201 : Int32.ofNat 1201 = nI 1201 := rfl
  intro d
  induction d with
  | zero =>
    intro n N M i hn hN hM hi
    obtain ⟨N, rfl⟩ : ∃ k, N = k + 1 := ⟨N - 1, by omega⟩
    obtain ⟨M, rfl⟩ : ∃ k, M = k + 1 := ⟨M - 1, by omega⟩
    have : n = 1201 := by omega
    subst this
    refine ⟨-1, -1, Or.inl ⟨rfl, rfl⟩, ?_, ?_⟩
    · show D5s_nthBest_13 _ _ _ _ _ (it2 _ N) _ _ = _
      unfold D5s_nthBest_13
      rw [h1201, if_pos (nI_le (Nat.le_refl _) (by decide))]
    · show Rs_best_34 _ _ _ _ _ (it2 _ M) _ _ = _
      unfold Rs_best_34
      rw [if_pos (by rw [fa_lt, fb_ofI (by omega) (by omega)]; show _ < (-600 : Int); omega)]
  | succ d ih =>
    intro n N M i hn hN hM hi
    obtain ⟨N, rfl⟩ : ∃ k, N = k + 1 := ⟨N - 1, by omega⟩
    obtain ⟨M, rfl⟩ : ∃ k, M = k + 1 := ⟨M - 1, by omega⟩
    -- the sum in question
    obtain ⟨T, k, hT, hk, hkT, hc, hat⟩ : ∃ (T : Int) (k : Nat), (-600 ≤ T ∧ T ≤ 600) ∧ k < 1201 ∧ (k : Int) - 600 = T ∧ rCmp a2 (Int32.ofInt (600 - (n : Int))) T ∧ ((gr = 0 ∧ k = n) ∨ (gr = 1 ∧ nI 1201 - (1 : Int32) - nI n = nI k)) := by
      rcases hg with ⟨rfl, rfl⟩ | ⟨rfl, rfl⟩
      · exact ⟨600 - (n : Int), 1200 - n, by omega, by omega, by omega, Or.inl ⟨rfl, rfl⟩, Or.inr ⟨rfl, pk_sub (a := 1200) (by omega)⟩⟩
      · refine ⟨(n : Int) - 600, n, by omega, by omega, by omega, Or.inr ⟨by decide, ?_⟩, Or.inl ⟨rfl, rfl⟩⟩
        rw [fa_eq, fb_negI (by rw [fb_ofI (by omega) (by omega)]; omega), fb_ofI (by omega) (by omega), fb_ofI (by omega) (by omega)]
        omega
    have hc13 := h13 k hk
    rw [hkT] at hc13
    have hleC := fb_ct_le (bS V S T) 4096
    have hk6 : nI k - (600 : Int32) = Int32.ofInt T := by
      rw [fa_eq, show (600 : Int32) = nI 600 from rfl, pk_sub_toInt (by omega) (by omega), fb_ofI (by omega) (by omega)]
      omega
    have eD : ∀ rc' : Int32 → Int32 → Option (Int32 × DS), D5s_nthBest_13 (nI (fb_ct V 4096)) gr σ' (fun u_13 u_14 => b1 (D5m_nthOfSum σ' (nI (fb_ct V 4096)) (u_14 - (600 : Int32)) u_13) (fun r_16 => some (r_16, σ'))) (some ((-1 : Int32), σ')) rc' (nI i) (nI n) = if nI (fb_ct (bS V S T) 4096) ≤ nI i then rc' (nI i - nI (fb_ct (bS V S T) 4096)) (nI (n + 1)) else b1 (D5m_nthOfSum σ' (nI (fb_ct V 4096)) (Int32.ofInt T) (nI i)) (fun r_16 => some (r_16, σ')) := fun rc' => by
      unfold D5s_nthBest_13
      rw [h1201, if_neg (nI_ge (by omega) (by decide)), if_neg (nI_pos hi)]
      rcases hat with ⟨rfl, rfl⟩ | ⟨rfl, hat⟩
      · rw [if_pos rfl, gi_n (by omega) (by decide), gi_n (by omega) (by decide), tn _ (by omega), hc13, pl1]
        dsimp only
        rw [hk6]
      · rw [if_neg (by decide), hat, nm_s, gi_n (by omega) (by decide), gi_n (by omega) (by decide), tn _ (by omega), hc13, pl1]
        dsimp only
        rw [hk6]
    have eR : ∀ rc' : Int32 → Int32 → Option Int32, Rs_best_34 (nI f) a2 τ (fun u_20 => some u_20) (some (-1 : Int32)) rc' (nI i) (Int32.ofInt (600 - (n : Int))) = it2 (Rs_best_45 (nI f) a2 (Int32.ofInt (600 - (n : Int))) τ (fun u_18 => some u_18) (fun u_19 => rc' u_19 (Int32.ofInt (600 - (n : Int)) + (-1 : Int32)))) fuel (nI i) (0 : Int32) := fun rc' => by
      unfold Rs_best_34
      rw [if_neg (by rw [fa_lt, fb_ofI (by omega) (by omega)]; show ¬ _ < (-600 : Int); omega)]
    by_cases c : fb_ct (bS V S T) 4096 ≤ i
    · obtain ⟨x, r, x1, x2, x3⟩ := ih (n + 1) N M (i - fb_ct (bS V S T) 4096) (by omega) (by omega) (by omega) (by omega)
      refine ⟨x, r, x1, ?_, ?_⟩
      · refine Eq.trans (eD _) ?_
        rw [if_pos (nI_le c (by omega)), pk_sub c]
        exact x2
      · refine Eq.trans (eR _) ?_
        rw [best_out h hF hf hV hR hT hc _ _ hi c, show Int32.ofInt (600 - (n : Int)) + (-1 : Int32) = Int32.ofInt (600 - ((n + 1 : Nat) : Int)) by
          rw [show (-1 : Int32) = Int32.ofInt (-1) from rfl, ofI_add]
          exact congrArg Int32.ofInt (by omega)]
        exact x3
    · obtain ⟨p0, q1, q2, q3⟩ := fb_ct_kth (p := bS V S T) (n := 4096) (k := i) (by omega)
      refine ⟨nI p0, nI (mir p0), Or.inr ⟨p0, q1, rfl, rfl⟩, ?_, ?_⟩
      · refine Eq.trans (eD _) ?_
        rw [if_neg (nI_ge (by omega) (by omega)), ← q3, nthOf_n hS hl hp hT q1 q2, b1_s]
      · refine Eq.trans (eR _) ?_
        rw [← q3, best_in h hF hf hV hR hT hc _ _ q1 q2]
end BEST
theorem AUX.D {σ σ' : DS} {τ : RS} (h : AUX σ τ) (h1 : σ'.2.1 11 0 = 0 ∧ σ'.2.1 12 0 = 0) : AUX σ' τ := ⟨h1, h.2⟩
theorem st_best : ST_best INV := by
  intro σ τ h a1 a2 a3
  obtain ⟨⟨P, R, ld, eA, eB, od, wt, n1, n2, n3⟩, ⟨F, kd, W, f1, f2, f3⟩, -, -, -, ax⟩ := id h
  have hF := f1.1
  have hR := n1.2.1
  by_cases hf0 : 0 ≤ a1.toInt ∧ a1.toInt < F
  · obtain ⟨f, hf, rfl⟩ := of_range (by omega) hf0.1 hf0.2
    by_cases hw0 : 0 ≤ a2.toInt ∧ a2.toInt ≤ 1
    · obtain ⟨σ1, e1, k1, w1⟩ := learnW_n n1 n2 ax.1
      obtain ⟨σl, e2, kl, hl⟩ := list_n (σ := σ1) (k := f)
      have old : ∀ q, q < 4096 → W f (mir q) = wb σ1 f q := fun q hq => by
        rw [wb_dK k1 (by omega), f2.P hf hq]
      have hS : ∀ p, p < 4096 → tS (wAd R wt) p 12 = sumW R wt (mir p) ∧ -600 ≤ sumW R wt (mir p) ∧ sumW R wt (mir p) ≤ 600 := fun p hp => ⟨tS_wAd hR wt hp, sumW_b n1 (mir p)⟩
      have wl := w1.to kl (by omega) (by omega)
      obtain ⟨σ', e3, k3, w3⟩ := count_n (V := wb σ1 f) (S := fun p => sumW R wt (mir p)) hS wl hl
      have w' := wl.to k3 (by omega) (by omega)
      have kall : ∀ F0, dK_ (dScr F0) σ σ' := fun F0 => ((k1.mo (fun c hc => by unfold dScr; omega)).tr (kl.mo (fun c hc => by unfold dScr; omega))).tr (k3.mo (fun c hc => by unfold dScr; omega))
      have hI : INV σ' τ := h.scr (fun F0 _ _ => kall F0) rK_.rf (ax.D w'.z)
      have core : ∀ gr : Int32, ((a2 = 0 ∧ gr = 1) ∨ (a2 = 1 ∧ gr = 0)) → ∃ x r : Int32, D8m_maskAt x = some r ∧ D5m_nthBest σl (nI (fb_ct (wb σ1 f) 4096)) gr a3 = some (x, σ') ∧ Rm_best τ (nI f) a2 a3 = some r := fun gr hg => by
        have eR : Rm_best τ (nI f) a2 a3 = if (0 : Int32) ≤ a3 then (it2 (Rs_best_34 (nI f) a2 τ (fun u_20 => some u_20) (some (-1 : Int32))) fuel a3 (600 : Int32)) else (some (-1 : Int32)) := by
          unfold Rm_best
          rw [if_neg (fun q => (isFam_0 f3.1 hF).mp q hf0), if_neg (fun q => in_0.mp q ⟨by rw [t0]; omega, by rw [i32_1]; omega⟩)]
        unfold D5m_nthBest
        rw [e3, b1_s, eR]
        by_cases c : a3.toInt < 0
        · refine ⟨-1, -1, maskAt_o, it2_one fun rc => ?_, if_neg (by rw [fa_le, t0]; omega)⟩
          unfold D5s_nthBest_13
          rw [if_neg (by decide), if_pos (by rw [fa_lt, t0]; exact c)]
        · obtain ⟨i, hi, rfl⟩ := nI_of (x := a3) (by rw [fa_lt, t0]; exact c)
          obtain ⟨x, r, x1, x2, x3⟩ := best_l (σ' := σ') (V := wb σ1 f) (S := fun p => sumW R wt (mir p)) f3.R hF hf old (fun p hp => ⟨sumOf_n n1 n3 (mir_lt hp), sumW_b n1 (mir p)⟩) hS w' (fun p hp hv => by rw [(k3 8 (by omega)).2.1]; exact hl p hp hv) w3 hg 1201 0 fuel fuel i (by omega) (by unfold fuel; omega) (by unfold fuel; omega) hi
          refine ⟨x, r, ?_, x2, ?_⟩
          · rcases x1 with ⟨rfl, rfl⟩ | ⟨p, hp, rfl, rfl⟩
            · exact maskAt_o
            · exact maskAt_n hp
          · rw [if_pos (nI_pos' hi)]
            exact x3
      by_cases c0 : a2 = 0
      · obtain ⟨x, r, y1, y2, y3⟩ := core 1 (Or.inl ⟨c0, rfl⟩)
        refine ⟨r, σ', τ, ?_, ⟨y3, rfl⟩, hI⟩
        unfold D8m_best
        rw [family_n f2.1 hF hf, bq_k (by omega), if_neg (by rw [fa_lt, t0]; omega), if_pos (by rw [fa_le, i32_1]; omega), e1, b1_s, e2, b2_s, if_pos c0, y2, b2_s, y1, b1_s]
      · have c1 : a2 = 1 := by
          rw [fa_eq, i32_1]
          have : a2.toInt ≠ 0 := fun e => c0 (by rw [fa_eq, e, t0])
          omega
        obtain ⟨x, r, y1, y2, y3⟩ := core 0 (Or.inr ⟨c1, rfl⟩)
        refine ⟨r, σ', τ, ?_, ⟨y3, rfl⟩, hI⟩
        unfold D8m_best
        rw [family_n f2.1 hF hf, bq_k (by omega), if_neg (by rw [fa_lt, t0]; omega), if_pos (by rw [fa_le, i32_1]; omega), e1, b1_s, e2, b2_s, if_neg c0, y2, b2_s, y1, b1_s]
    · refine ⟨-2, σ, τ, ?_, ⟨?_, rfl⟩, h⟩
      · unfold D8m_best
        rw [family_n f2.1 hF hf, bq_k (by omega)]
        by_cases d : a2.toInt < 0
        · rw [if_pos (by rw [fa_lt, t0]; exact d)]
        · rw [if_neg (by rw [fa_lt, t0]; exact d), if_neg (by rw [fa_le, i32_1]; omega)]
      · unfold Rm_best
        rw [if_neg (fun q => (isFam_0 f3.1 hF).mp q hf0), if_pos (in_0.mpr (fun q => hw0 (by rw [t0, i32_1] at q; exact q)))]
  · refine ⟨-2, σ, τ, ?_, ⟨?_, rfl⟩, h⟩
    · unfold D8m_best
      rw [family_o f2.1 hF hf0, bq_n]
    · unfold Rm_best
      rw [if_pos ((isFam_0 f3.1 hF).mpr hf0)]

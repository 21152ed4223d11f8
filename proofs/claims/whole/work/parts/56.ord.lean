/-! ===== way, rank, draw ===== -/
section ORD
variable {τ : RS} {F f : Nat} {W : Nat → Nat → Bool}
theorem way0_n {p : Nat} (h : RW_ τ F W) (hF : F ≤ 30) (hf : f < F) (hp : p < 4096) (hV : W f (mir p) = true) : Rm_way0 τ (nI f) (nI (fb_ct (fun q => W f (mir q)) p)) = some (nI (mir p)) := by
  unfold Rm_way0
  have hle := fb_ct_le (fun q => W f (mir q)) p
  refine Eq.trans ?_ (it2_seq (f := Rs_way0_5 (nI f) τ (fun u_9 => b1 (Rm_ordered u_9) (fun r_11 => some r_11)) (some (-1 : Int32))) (fun j => nI (fb_ct (fun q => W f (mir q)) p - fb_ct (fun q => W f (mir q)) j)) (fun j => nI j) p _ (by unfold fuel; omega) (fun j hj rc => ?_) (fun rc => ?_))
  · rfl
  · unfold Rs_way0_5
    have hm := fb_ct_mono (fun q => W f (mir q)) (show j + 1 ≤ p by omega)
    have hs := fb_ct_succ (fun q => W f (mir q)) j
    rw [if_neg (show ¬ (4096 : Int32) ≤ nI j from nI_ge (b := 4096) (by omega) (by decide)), if_neg (nI_pos (by omega)), ordered_n (by omega), b1_s, isWay_n h hF hf (mir_lt (by omega)), b1_s, pl1]
    cases d : W f (mir j)
    · rw [d] at hs
      simp only [Bool.false_eq_true, if_false, Nat.add_zero] at hs
      rw [if_pos (by rfl), hs]
    · rw [d] at hs
      simp only [if_true] at hs
      rw [if_neg (by decide), if_neg (nI_ne0 (by omega) (by omega)), hs, show fb_ct (fun q => W f (mir q)) p - fb_ct (fun q => W f (mir q)) j = (fb_ct (fun q => W f (mir q)) p - (fb_ct (fun q => W f (mir q)) j + 1)) + 1 by omega, pk_m1]
  · unfold Rs_way0_5
    rw [if_neg (show ¬ (4096 : Int32) ≤ nI p from nI_ge (b := 4096) (by omega) (by decide)), if_neg (nI_pos (by omega)), ordered_n (by omega), b1_s, isWay_n h hF hf (mir_lt (by omega)), b1_s, hV, if_neg (by decide), Nat.sub_self, if_pos nI_0]
    dsimp only
    rw [ordered_n hp, b1_s]
theorem way0_o {x : Int32} (h : RW_ τ F W) (hF : F ≤ 30) (hf : f < F) (hx : ¬ (0 ≤ x.toInt ∧ x.toInt < fb_ct (fun q => W f (mir q)) 4096)) : Rm_way0 τ (nI f) x = some (-1) := by
  unfold Rm_way0
  by_cases c : x.toInt < 0
  · refine it2_one fun rc => ?_
    unfold Rs_way0_5
    rw [if_neg (by decide), if_pos (by rw [fa_lt, t0]; exact c)]
  · obtain ⟨i, hi0, hi⟩ := nI_of (x := x) (by rw [fa_lt, t0]; exact c)
    subst hi
    rw [it_nI hi0] at hx
    have hle := fb_ct_le (fun q => W f (mir q)) 4096
    refine Eq.trans ?_ (it2_seq (f := Rs_way0_5 (nI f) τ (fun u_9 => b1 (Rm_ordered u_9) (fun r_11 => some r_11)) (some (-1 : Int32))) (fun j => nI (i - fb_ct (fun q => W f (mir q)) j)) (fun j => nI j) 4096 _ (by unfold fuel; omega) (fun j hj rc => ?_) (fun rc => ?_))
    · rfl
    · unfold Rs_way0_5
      have hm := fb_ct_mono (fun q => W f (mir q)) (show j + 1 ≤ 4096 by omega)
      have hs := fb_ct_succ (fun q => W f (mir q)) j
      rw [if_neg (show ¬ (4096 : Int32) ≤ nI j from nI_ge (b := 4096) (by omega) (by decide)), if_neg (nI_pos (by omega)), ordered_n (by omega), b1_s, isWay_n h hF hf (mir_lt (by omega)), b1_s, pl1]
      cases d : W f (mir j)
      · rw [d] at hs
        simp only [Bool.false_eq_true, if_false, Nat.add_zero] at hs
        rw [if_pos (by rfl), hs]
      · rw [d] at hs
        simp only [if_true] at hs
        rw [if_neg (by decide), if_neg (nI_ne0 (by omega) (by omega)), hs, show i - fb_ct (fun q => W f (mir q)) j = (i - (fb_ct (fun q => W f (mir q)) j + 1)) + 1 by omega, pk_m1]
    · unfold Rs_way0_5
      rw [if_pos (show (4096 : Int32) ≤ nI 4096 by decide)]
end ORD
theorem maskAt_n {p : Nat} (hp : p < 4096) : D8m_maskAt (nI p) = some (nI (mir p)) := by
  unfold D8m_maskAt
  rw [if_pos (nI_pos' (by omega)), mirrored_n hp, b1_s]
theorem maskAt_o : D8m_maskAt (-1) = some (-1) := by
  unfold D8m_maskAt
  rw [if_neg (by decide)]
theorem CF.V {σ : DS} {F f : Nat} {kd : Nat → Nat} {W : Nat → Nat → Bool} (h : CF σ F kd W) (hf : f < F) {n : Nat} (hn : n ≤ 4096) : fb_ct (wb σ f) n = fb_ct (fun q => W f (mir q)) n := fb_ct_cong fun p hp => h.P hf (by omega)
/-- a number below the count is the number of some place -/
theorem nth_of {V : Nat → Bool} {x : Int32} (h : 0 ≤ x.toInt ∧ x.toInt < fb_ct V 4096) : ∃ p, p < 4096 ∧ V p = true ∧ x = nI (fb_ct V p) := by
  have hle := fb_ct_le V 4096
  obtain ⟨i, hi, rfl⟩ := of_range (x := x) (by omega) h.1 h.2
  obtain ⟨p, h1, h2, h3⟩ := fb_ct_kth hi
  exact ⟨p, h1, h2, by rw [h3]⟩
theorem st_way : ST_way INV := by
  intro σ τ h a1 a2
  obtain ⟨-, ⟨F, kd, W, f1, f2, f3⟩, -⟩ := id h
  have hF := f1.1
  by_cases hr : 0 ≤ a1.toInt ∧ a1.toInt < F
  · obtain ⟨f, hf, rfl⟩ := of_range (by omega) hr.1 hr.2
    have hV := f2.V hf (Nat.le_refl _)
    by_cases c : 0 ≤ a2.toInt ∧ a2.toInt < fb_ct (fun q => W f (mir q)) 4096
    · obtain ⟨p, hp, hp1, rfl⟩ := nth_of c
      refine ⟨nI (mir p), σ, τ, ⟨?_, rfl⟩, ⟨?_, rfl⟩, h⟩
      · unfold D8m_way
        rw [family_n f2.1 hF hf, bq_k (by omega), ← f2.V hf (by omega), nth_n hp (by rw [f2.P hf hp]; exact hp1), b1_s, maskAt_n hp, b1_s]
      · unfold Rm_way
        rw [if_neg (fun q => (isFam_0 f3.1 hF).mp q hr), way0_n f3.R hF hf hp hp1, b1_s]
    · refine ⟨-1, σ, τ, ⟨?_, rfl⟩, ⟨?_, rfl⟩, h⟩
      · unfold D8m_way
        rw [family_n f2.1 hF hf, bq_k (by omega), nth_o (by rw [hV]; exact c), b1_s, maskAt_o, b1_s]
      · unfold Rm_way
        rw [if_neg (fun q => (isFam_0 f3.1 hF).mp q hr), way0_o f3.R hF hf c, b1_s]
  · refine ⟨-2, σ, τ, ⟨?_, rfl⟩, ⟨?_, rfl⟩, h⟩
    · unfold D8m_way
      rw [family_o f2.1 hF hr, bq_n]
    · unfold Rm_way
      rw [if_pos ((isFam_0 f3.1 hF).mpr hr)]
theorem st_rank : ST_rank INV := by
  intro σ τ h a1 a2
  obtain ⟨-, ⟨F, kd, W, f1, f2, f3⟩, -⟩ := id h
  have hF := f1.1
  by_cases hr : 0 ≤ a1.toInt ∧ a1.toInt < F
  · obtain ⟨f, hf, rfl⟩ := of_range (by omega) hr.1 hr.2
    by_cases c : 0 ≤ a2.toInt ∧ a2.toInt < (4096 : Nat)
    · obtain ⟨m, hm, rfl⟩ := of_range (x := a2) (by omega) c.1 c.2
      have hml := mir_lt hm
      refine ⟨nI (fb_ct (fun q => W f (mir q)) (mir m)), σ, τ, ⟨?_, rfl⟩, ⟨?_, rfl⟩, h⟩
      · unfold D8m_rank
        rw [family_n f2.1 hF hf, bq_k (by omega), if_neg (nI_pos (by omega)), if_pos (by rw [fa_lt, it_nI (by omega), i32_4096]; omega), mirrored_n hm, b1_s, ahead_n hml, b1_s, f2.V hf (by omega)]
      · unfold Rm_rank
        rw [if_neg (fun q => (isFam_0 f3.1 hF).mp q hr), if_neg (fun q => in_0.mp q ⟨by rw [t0]; omega, by rw [it_nI (by omega)]; show (m : Int) ≤ 4095; omega⟩)]
        refine Eq.trans rfl (it2_seq (f := Rs_rank_27 (nI f) (nI m) τ (fun u_11 => some u_11)) (fun j => nI (fb_ct (fun q => W f (mir q)) j)) (fun j => nI j) (mir m) _ (by unfold fuel; omega) (fun j hj rc => ?_) (fun rc => ?_))
        · unfold Rs_rank_27
          rw [ordered_n hm, b1_s, if_neg (nI_ge hj (by omega)), ordered_n (by omega), b1_s, isWay_n f3.R hF hf (mir_lt (by omega)), b1_s, fb_ct_succ, pl1]
          cases W f (mir j)
          · rw [if_pos (by rfl)]
            show rc (nI _ + nI 0) _ = _
            rw [ad]; rfl
          · rw [if_neg (by decide), pl1]; rfl
        · unfold Rs_rank_27
          rw [ordered_n hm, b1_s, if_pos (nI_le (Nat.le_refl _) (by omega))]
    · refine ⟨-2, σ, τ, ⟨?_, rfl⟩, ⟨?_, rfl⟩, h⟩
      · unfold D8m_rank
        rw [family_n f2.1 hF hf, bq_k (by omega)]
        by_cases d : a2.toInt < 0
        · rw [if_pos (by rw [fa_lt, t0]; exact d)]
        · rw [if_neg (by rw [fa_lt, t0]; exact d), if_neg (by rw [fa_lt, i32_4096]; omega)]
      · unfold Rm_rank
        rw [if_neg (fun q => (isFam_0 f3.1 hF).mp q hr), if_pos (in_0.mpr (fun q => c (by rw [t0, show (4095 : Int32).toInt = 4095 from rfl] at q; omega)))]
  · refine ⟨-2, σ, τ, ⟨?_, rfl⟩, ⟨?_, rfl⟩, h⟩
    · unfold D8m_rank
      rw [family_o f2.1 hF hr, bq_n]
    · unfold Rm_rank
      rw [if_pos ((isFam_0 f3.1 hF).mpr hr)]
/-! drawing -/
theorem ush_n (x : Int32) {b : Nat} (hb : 0 < b) (hb2 : b ≤ 12) : ∃ y, y < 2 ^ b ∧ (x.toUInt32 >>> (((32 : Int32) - nI b).toUInt32 &&& Int32.toUInt32 31)).toInt32 = nI y := by
  obtain ⟨y, hy, e⟩ := wb_of32 ((x.toUInt32 >>> (((32 : Int32) - nI b).toUInt32 &&& Int32.toUInt32 31)).toInt32)
  refine ⟨y, ?_, e⟩
  have h32 : (32 : Int32) - nI b = nI (32 - b) := pk_sub (a := 32) (by omega)
  have := pk_ushr x (nI (32 - b)) (32 - b) (s_u (32 - b) (by omega))
  rw [← h32, e, pk_tn hy] at this
  have hx : x.toBitVec.toNat < 2 ^ 32 := x.toBitVec.isLt
  rw [this]
  apply (Nat.div_lt_iff_lt_mul (Nat.two_pow_pos _)).mpr
  rw [← Nat.pow_add, show b + (32 - b) = 32 by omega]
  exact hx
theorem draw_l {n b : Nat} (hn0 : 0 < n) (hn : n ≤ 4096) (hb : b ≤ 12) (hnb : n ≤ 2 ^ b) (f1 : Int32) (τ : RS) (K : Int32 → Option Int32) :
    ∀ (t N k : Nat) (s vd : Int32) (vr : Nat), t + 2 ≤ N → k + t = 1000 → n ≤ vr → vr < 8192 → (k = 0 ∨ vd = nI vr) →
      ∃ u u' : Nat, u < n ∧ u' % n = u ∧ u' < 8192 ∧ it3 (D8s_drawn_29 (nI n) (nI b) (fun u_10 => some u_10) (fun u_11 => if nI n ≤ (0 : Int32) then (some (0 : Int32)) else (gz (nI n) (some (u_11 - u_11 / nI n * nI n))))) N s vd (nI k) = some (nI u) ∧ it3 (Rs_draw_49 f1 (nI n) (nI b) τ K) N s (nI vr) (nI k) = K (nI u') := by
  intro t
  induction t with
  | zero =>
    intro N k s vd vr hN hk hv hv2 hvd
    obtain ⟨N, rfl⟩ : ∃ M, N = M + 1 := ⟨N - 1, by omega⟩
    have hk1 : k = 1000 := by omega
    subst hk1
    have hvd := hvd.resolve_left (by decide)
    subst hvd
    refine ⟨vr % n, vr, Nat.mod_lt _ hn0, rfl, hv2, ?_, ?_⟩
    · show D8s_drawn_29 _ _ _ _ (it3 _ N) s (nI vr) (nI 1000) = _
      unfold D8s_drawn_29
      rw [if_pos (show (1000 : Int32) ≤ nI 1000 by decide)]
      dsimp only
      rw [if_neg (nI_nle hn0 (by omega))]
      unfold gz
      rw [if_neg (nI_ne0 hn0 (by omega)), pk_rem (by omega) hn0 (by omega)]
    · show Rs_draw_49 _ _ _ _ _ (it3 _ N) s (nI vr) (nI 1000) = _
      unfold Rs_draw_49
      rw [if_pos (show (1000 : Int32) ≤ nI 1000 by decide)]
  | succ t ih =>
    intro N k s vd vr hN hk hv hv2 hvd
    obtain ⟨N, rfl⟩ : ∃ M, N = M + 2 := ⟨N - 2, by omega⟩
    have hp : 2 ^ b ≤ 4096 := p2R hb
    -- the next value, for both
    have step : ∀ y : Nat, y < 2 ^ b → D8s_drawn_29 (nI n) (nI b) (fun u_10 => some u_10) (fun u_11 => if nI n ≤ (0 : Int32) then (some (0 : Int32)) else (gz (nI n) (some (u_11 - u_11 / nI n * nI n)))) (it3 (D8s_drawn_29 (nI n) (nI b) (fun u_10 => some u_10) (fun u_11 => if nI n ≤ (0 : Int32) then (some (0 : Int32)) else (gz (nI n) (some (u_11 - u_11 / nI n * nI n))))) (N + 1)) s vd (nI k) = (if nI n ≤ nI y then it3 (D8s_drawn_29 (nI n) (nI b) (fun u_10 => some u_10) (fun u_11 => if nI n ≤ (0 : Int32) then (some (0 : Int32)) else (gz (nI n) (some (u_11 - u_11 / nI n * nI n))))) (N + 1) (s * (1103515245 : Int32) + (12345 : Int32)) (nI y) (nI (k + 1)) else some (nI y)) → Rs_draw_49 f1 (nI n) (nI b) τ K (it3 (Rs_draw_49 f1 (nI n) (nI b) τ K) (N + 1)) s (nI vr) (nI k) = it3 (Rs_draw_49 f1 (nI n) (nI b) τ K) (N + 1) (s * (1103515245 : Int32) + (12345 : Int32)) (nI y) (nI (k + 1)) → ∃ u u' : Nat, u < n ∧ u' % n = u ∧ u' < 8192 ∧ it3 (D8s_drawn_29 (nI n) (nI b) (fun u_10 => some u_10) (fun u_11 => if nI n ≤ (0 : Int32) then (some (0 : Int32)) else (gz (nI n) (some (u_11 - u_11 / nI n * nI n))))) (N + 2) s vd (nI k) = some (nI u) ∧ it3 (Rs_draw_49 f1 (nI n) (nI b) τ K) (N + 2) s (nI vr) (nI k) = K (nI u') := fun y hy hd hr => by
      by_cases c : n ≤ y
      · obtain ⟨u, u', x1, x2, x3, x4, x5⟩ := ih (N + 1) (k + 1) (s * (1103515245 : Int32) + (12345 : Int32)) (nI y) y (by omega) (by omega) c (by omega) (Or.inr rfl)
        refine ⟨u, u', x1, x2, x3, ?_, hr.trans x5⟩
        rw [if_pos (nI_le c (by omega))] at hd
        exact hd.trans x4
      · refine ⟨y, y, by omega, Nat.mod_eq_of_lt (by omega), by omega, ?_, hr.trans ?_⟩
        · rw [if_neg (nI_ge (by omega) (by omega))] at hd
          exact hd
        · show Rs_draw_49 _ _ _ _ _ (it3 _ N) _ _ _ = _
          unfold Rs_draw_49
          by_cases q : k + 1 = 1000
          · rw [q, if_pos (show (1000 : Int32) ≤ nI 1000 by decide)]
          · rw [if_neg (show ¬ (1000 : Int32) ≤ nI (k + 1) from nI_ge (b := 1000) (by omega) (by decide)), if_pos (nI_lt (by omega) (by omega))]
    by_cases b0 : b = 0
    · subst b0
      refine step 0 (by decide) ?_ ?_
      · unfold D8s_drawn_29
        rw [if_neg (show ¬ (1000 : Int32) ≤ nI k from nI_ge (b := 1000) (by omega) (by decide)), nm_s, if_pos (show nI 0 = 0 by rfl), pl1]
        rfl
      · unfold Rs_draw_49
        rw [if_neg (show ¬ (1000 : Int32) ≤ nI k from nI_ge (b := 1000) (by omega) (by decide)), if_neg (nI_nlt hv (by omega)), nm_s, if_pos (show nI 0 = 0 by rfl), pl1]
        rfl
    · obtain ⟨y, hy, e⟩ := ush_n (s * (1103515245 : Int32) + (12345 : Int32)) (b := b) (by omega) hb
      refine step y hy ?_ ?_
      · unfold D8s_drawn_29
        rw [if_neg (show ¬ (1000 : Int32) ≤ nI k from nI_ge (b := 1000) (by omega) (by decide)), nm_s, if_neg (nI_ne0 (by omega) (by omega)), e, nm_s, pl1]
      · unfold Rs_draw_49
        rw [if_neg (show ¬ (1000 : Int32) ≤ nI k from nI_ge (b := 1000) (by omega) (by decide)), if_neg (nI_nlt hv (by omega)), nm_s, if_neg (nI_ne0 (by omega) (by omega)), e, nm_s, pl1]
theorem st_draw : ST_draw INV := by
  intro σ τ h a1 a2
  obtain ⟨-, ⟨F, kd, W, f1, f2, f3⟩, -⟩ := id h
  have hF := f1.1
  by_cases hr : 0 ≤ a1.toInt ∧ a1.toInt < F
  · obtain ⟨f, hf, rfl⟩ := of_range (by omega) hr.1 hr.2
    have hV := f2.V hf (Nat.le_refl _)
    have hct : fb_ct (fun q => W f (mir q)) 4096 = fb_ct (W f) 4096 := ct_mir (W f)
    have hle := fb_ct_le (fun q => W f (mir q)) 4096
    obtain ⟨n, hn⟩ : ∃ n, n = fb_ct (fun q => W f (mir q)) 4096 := ⟨_, rfl⟩
    have hd0 : D7m_size f σ = some (nI n) := by rw [size_n, hV, hn]
    have hr0 : Rm_count0 τ (nI f) = some (nI n) := by rw [count0_n f3.R hF hf, ← hct, hn]
    by_cases c : n = 0
    · subst c
      refine ⟨-1, σ, τ, ⟨?_, rfl⟩, ⟨?_, rfl⟩, h⟩
      · unfold D8m_draw
        rw [family_n f2.1 hF hf, bq_k (by omega), hd0, b1_s, if_pos (by rfl)]
      · unfold Rm_draw
        rw [if_neg (fun q => (isFam_0 f3.1 hF).mp q hr), hr0, b1_s, if_pos (by rfl)]
    · obtain ⟨b, hb1, hb2⟩ := pk_least (fun b => n ≤ 2 ^ b) ⟨12, by show n ≤ 2 ^ 12; omega⟩
      have hb : b ≤ 12 := by
        rcases Nat.lt_or_ge 12 b with q | q
        · exact absurd (show n ≤ 2 ^ 12 by omega) (hb2 12 q)
        · exact q
      obtain ⟨u, u', x1, x2, x3, x4, x5⟩ := draw_l (n := n) (b := b) (by omega) (by omega) hb hb1 (nI f) τ (fun u_12 => gz (nI n) (b1 (Rm_way0 τ (nI f) (u_12 - u_12 / nI n * nI n)) (fun r_15 => some r_15))) 1000 fuel 0 a2 0 n (by unfold fuel; omega) (by omega) (Nat.le_refl _) (by omega) (Or.inl rfl)
      have hu := nth_of (V := fun q => W f (mir q)) (x := nI u) (by rw [it_nI (by omega)]; omega)
      obtain ⟨p, hp, hp1, hpu⟩ := hu
      refine ⟨nI (mir p), σ, τ, ⟨?_, rfl⟩, ⟨?_, rfl⟩, h⟩
      · have e1 : D8m_drawn (nI n) a2 = some (nI u) := by
          unfold D8m_drawn
          refine Eq.trans rfl ((it1_seq (f := D8s_drawn_2 (nI n) a2 (fun u_3 => it3 (D8s_drawn_29 (nI n) u_3 (fun u_10 => some u_10) (fun u_11 => if nI n ≤ (0 : Int32) then (some (0 : Int32)) else (gz (nI n) (some (u_11 - u_11 / nI n * nI n))))) fuel a2 (0 : Int32) (0 : Int32))) (fun j => nI j) b _ (by unfold fuel; omega) (fun j hj rc => ?_) (fun rc => ?_)).trans x4)
          · unfold D8s_drawn_2
            have hj2 := hb2 j hj
            have hj3 : 2 ^ j ≤ 4096 := p2R (by omega)
            rw [if_neg (show ¬ (12 : Int32) ≤ nI j from nI_ge (b := 12) (by omega) (by decide)), shl1 (by omega), if_neg (nI_ge (by omega) (by omega)), pl1]
          · unfold D8s_drawn_2
            have hj3 : 2 ^ b ≤ 4096 := p2R hb
            by_cases q : b = 12
            · subst q
              rw [if_pos (show (12 : Int32) ≤ nI 12 by decide)]
              rfl
            · rw [if_neg (show ¬ (12 : Int32) ≤ nI b from nI_ge (b := 12) (by omega) (by decide)), shl1 (by omega), if_pos (nI_le hb1 (by omega))]
              rfl
        unfold D8m_draw
        rw [family_n f2.1 hF hf, bq_k (by omega), hd0, b1_s, if_neg (nI_ne0 (by omega) (by omega)), e1, b1_s, hpu, ← f2.V hf (by omega), nth_n hp (by rw [f2.P hf hp]; exact hp1), b1_s, maskAt_n hp, b1_s]
      · unfold Rm_draw
        rw [if_neg (fun q => (isFam_0 f3.1 hF).mp q hr), hr0, b1_s, if_neg (nI_ne0 (by omega) (by omega))]
        refine Eq.trans rfl ((it1_seq (f := Rs_draw_26 (nI f) a2 (nI n) τ (fun u_6 => it3 (Rs_draw_49 (nI f) (nI n) u_6 τ (fun u_12 => gz (nI n) (b1 (Rm_way0 τ (nI f) (u_12 - u_12 / nI n * nI n)) (fun r_15 => some r_15)))) fuel a2 (nI n) (0 : Int32))) (fun j => nI j) b (it3 (Rs_draw_49 (nI f) (nI n) (nI b) τ (fun u_12 => gz (nI n) (b1 (Rm_way0 τ (nI f) (u_12 - u_12 / nI n * nI n)) (fun r_15 => some r_15)))) fuel a2 (nI n) (0 : Int32)) (by unfold fuel; omega) (fun j hj rc => ?_) (fun rc => ?_)).trans (Eq.trans x5 ?_))
        · unfold Rs_draw_26
          have hj2 := hb2 j hj
          have hj3 : 2 ^ j ≤ 4096 := p2R (by omega)
          rw [shl1 (by omega), if_neg (nI_ge (by omega) (by omega)), pl1]
        · unfold Rs_draw_26
          have hj3 : 2 ^ b ≤ 4096 := p2R hb
          rw [shl1 (by omega), if_pos (nI_le hb1 (by omega))]
        · unfold gz
          rw [if_neg (nI_ne0 (by omega) (by omega)), pk_rem (by omega) (by omega) (by omega), x2, hpu, way0_n f3.R hF hf hp hp1, b1_s]
  · refine ⟨-2, σ, τ, ⟨?_, rfl⟩, ⟨?_, rfl⟩, h⟩
    · unfold D8m_draw
      rw [family_o f2.1 hF hr, bq_n]
    · unfold Rm_draw
      rw [if_pos ((isFam_0 f3.1 hF).mpr hr)]

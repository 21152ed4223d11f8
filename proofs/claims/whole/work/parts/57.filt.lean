/-! ===== loops over the list of places; degrees, within ===== -/
theorem list_loop {B ρ : Type} {f : (Int32 → B → Option ρ) → Int32 → B → Option ρ} (V : Nat → Bool) (P : Nat → B → Prop) (Q : Option ρ → Prop)
    (hskip : ∀ p b, p < 4096 → V p = false → P p b → P (p + 1) b)
    (hstep : ∀ (p : Nat) (b : B) (rc : Int32 → B → Option ρ), p < 4096 → V p = true → P p b → (∀ b', P (p + 1) b' → Q (rc (nI (fb_ct V p) + 1) b')) → Q (f rc (nI (fb_ct V p)) b))
    (hend : ∀ (b : B) (rc : Int32 → B → Option ρ), P 4096 b → Q (f rc (nI (fb_ct V 4096)) b)) {b : B} (h0 : P 0 b) : Q (it2 f fuel (0 : Int32) b) := by
  have nxt : ∀ d p b, p + d = 4096 → P p b → (∃ p', p ≤ p' ∧ p' < 4096 ∧ V p' = true ∧ fb_ct V p' = fb_ct V p ∧ P p' b) ∨ (P 4096 b ∧ fb_ct V 4096 = fb_ct V p) := by
    intro d
    induction d with
    | zero =>
      intro p b hp h
      have : p = 4096 := by omega
      subst this
      exact Or.inr ⟨h, rfl⟩
    | succ d ih =>
      intro p b hp h
      cases hv : V p with
      | true => exact Or.inl ⟨p, Nat.le_refl _, by omega, hv, rfl, h⟩
      | false =>
        have e : fb_ct V (p + 1) = fb_ct V p := by rw [fb_ct_succ, hv]; rfl
        rcases ih (p + 1) b (by omega) (hskip p b (by omega) hv h) with ⟨p', a1, a2, a3, a4, a5⟩ | ⟨a1, a2⟩
        · exact Or.inl ⟨p', by omega, a2, a3, by omega, a5⟩
        · exact Or.inr ⟨a1, by omega⟩
  refine it2_ind (f := f) (P := fun n v b => ∃ p, p + n = 4096 ∧ v = nI (fb_ct V p) ∧ P p b) (Q := Q) ?_ fuel 4096 (0 : Int32) b (by unfold fuel; omega) ⟨0, rfl, rfl, h0⟩
  rintro n v b rc ⟨p, hp, rfl, h⟩ ih
  rcases nxt n p b hp h with ⟨p', a1, a2, a3, a4, a5⟩ | ⟨a1, a2⟩
  · rw [← a4]
    exact hstep p' b rc a2 a3 a5 (fun b' hb' => ih (4096 - (p' + 1)) _ _ (by omega) ⟨p' + 1, by omega, by rw [pl1, fb_ct_succ, a3]; rfl, hb'⟩)
  · rw [← a2]
    exact hend b rc a1
/-- the ways that pass a test are put -/
theorem filt {ρ : Type} {f : (Int32 → DS → Option ρ) → Int32 → DS → Option ρ} {σl : DS} {F : Nat} (V T : Nat → Bool) (kx : DS → Option ρ)
    (hs : ∀ (p : Nat) (s : DS) (rc : Int32 → DS → Option ρ), p < 4096 → V p = true → dK_ (fun c => c = 79 + F) σl s → f rc (nI (fb_ct V p)) s = if T p = true then b1 (D7m_put F s (nI p)) (fun s' => rc (nI (fb_ct V p) + 1) s') else rc (nI (fb_ct V p) + 1) s)
    (he : ∀ (s : DS) (rc : Int32 → DS → Option ρ), f rc (nI (fb_ct V 4096)) s = kx s) : ∃ s', it2 f fuel (0 : Int32) σl = kx s' ∧ dK_ (fun c => c = 79 + F) σl s' ∧ ∀ q, q < 4096 → wb s' F q = (wb σl F q || (V q && T q)) := by
  refine list_loop (f := f) V (fun p s => dK_ (fun c => c = 79 + F) σl s ∧ ∀ q, q < 4096 → wb s F q = (wb σl F q || (decide (q < p) && (V q && T q)))) (fun o => ∃ s', o = kx s' ∧ dK_ (fun c => c = 79 + F) σl s' ∧ ∀ q, q < 4096 → wb s' F q = (wb σl F q || (V q && T q))) ?_ ?_ ?_ ⟨dK_.rf, fun q hq => by rw [decide_eq_false (by omega), Bool.false_and, Bool.or_false]⟩
  · rintro p s hp hv ⟨k, w⟩
    refine ⟨k, fun q hq => ?_⟩
    rw [w q hq]
    by_cases e : q = p
    · subst e
      rw [hv, Bool.false_and, Bool.and_false, Bool.and_false]
    · rw [show decide (q < p + 1) = decide (q < p) from decide_eq_decide.mpr (by omega)]
  · rintro p s rc hp hv ⟨k, w⟩ hk
    rw [hs p s rc hp hv k]
    cases ht : T p with
    | false =>
      rw [if_neg (by decide)]
      refine hk s ⟨k, fun q hq => ?_⟩
      rw [w q hq]
      by_cases e : q = p
      · subst e
        rw [ht, Bool.and_false, Bool.and_false, Bool.and_false]
      · rw [show decide (q < p + 1) = decide (q < p) from decide_eq_decide.mpr (by omega)]
    | true =>
      rw [if_pos rfl]
      obtain ⟨s', e1, k1, w1⟩ := put_n (σ := s) (k := F) hp
      rw [e1, b1_s]
      refine hk s' ⟨k.tr k1, fun q hq => ?_⟩
      rw [w1 q hq, w q hq]
      by_cases e : q = p
      · subst e
        rw [decide_eq_true rfl, Bool.true_or, decide_eq_true (by omega), hv, ht, Bool.and_true, Bool.and_true, Bool.or_true]
      · rw [decide_eq_false e, Bool.false_or, show decide (q < p + 1) = decide (q < p) from decide_eq_decide.mpr (by omega)]
  · rintro s rc ⟨k, w⟩
    refine ⟨s, he s rc, k, fun q hq => ?_⟩
    rw [w q hq, decide_eq_true hq, Bool.true_and]
/-! how many roads of a way have a post -/
def atP (R : Nat) (eA eB : Nat → Nat) (m p : Nat) : Nat := fb_ct (fun r => m.testBit r && (decide (eA r = p) || decide (eB r = p))) R
section AT
variable {σ : DS} {τ : RS} {P R : Nat} {ld eA eB od : Nat → Nat} {wt : Nat → Int32}
theorem NW.e8 (n1 : NW P R ld eA eB od wt) {r : Nat} (hr : r < R) : eA r < 8 ∧ eB r < 8 ∧ eA r ≠ eB r := by
  have := n1.1
  have := n1.2.2.2.1 r hr
  omega
theorem at_n (n1 : NW P R ld eA eB od wt) (n3 : RN τ P R ld eA eB od wt) {m p : Nat} (hm : m < 4096) (hp : p < 8) : Rm_at τ (nI m) (nI p) = some (nI (atP R eA eB m p)) := by
  have hR := n1.2.1
  unfold Rm_at atP
  refine Eq.trans rfl (it2_seq (f := Rs_at_5 (nI m) (nI p) τ (fun u_7 => some u_7)) (fun j => nI (fb_ct (fun r => m.testBit r && (decide (eA r = p) || decide (eB r = p))) j)) (fun j => nI j) R _ (by unfold fuel; omega) (fun j hj rc => ?_) (fun rc => ?_))
  · unfold Rs_at_5
    obtain ⟨x1, x2, x3, x4⟩ := n3.2.2.2 j hj
    obtain ⟨y1, y2, -⟩ := n1.e8 hj
    rw [n3.2.1, if_neg (nI_ge hj (by omega)), rholds_n (by omega) (by omega), ml2, pl1, pl1, pl1, gi_n (by omega) (by decide), gi_n (by omega) (by decide), tn _ (by omega), tn _ (by omega), x1, x2, fb_ct_succ]
    have a0 : ∀ a : Nat, nI a + (0 : Int32) = nI a := fun a => nI_add a 0
    rw [a0]
    cases m.testBit j
    · rw [if_pos (by rfl)]; rfl
    · rw [if_neg (by decide), Bool.true_and]
      by_cases c1 : eA j = p
      · rw [if_pos (by rw [c1]), decide_eq_true c1]; rfl
      · rw [if_neg (fun q => c1 ((nI_eq (by omega) (by omega)).mp q)), decide_eq_false c1, Bool.false_or]
        by_cases c2 : eB j = p
        · rw [if_pos (by rw [c2]), decide_eq_true c2]; rfl
        · rw [if_neg (fun q => c2 ((nI_eq (by omega) (by omega)).mp q)), decide_eq_false c2]; rfl
  · unfold Rs_at_5
    rw [n3.2.1, if_pos (nI_le (Nat.le_refl _) (by omega))]
theorem placeOf_n : ∀ r, r < 12 → D2m_placeOf (nI r) = nI (2 ^ (11 - r)) := by decide +kernel
theorem beyond_n (n1 : NW P R ld eA eB od wt) (n2 : CN σ P R ld eA eB od wt) {r p : Nat} (hr : r < R) (hp : p < 8) : D2m_beyond σ (nI r) (nI p) = some (if eA r = p then nI (eB r) else if eB r = p then nI (eA r) else -1) := by
  have hR := n1.2.1
  obtain ⟨x1, x2, x3, x4⟩ := n2.2.2.2 r hr
  obtain ⟨y1, y2, -⟩ := n1.e8 hr
  unfold D2m_beyond
  rw [if_neg (fun q => (isRoad_0 n1 n2).mp q (by rw [it_nI (by omega)]; omega)), gi_n (by omega) (by decide), gi_n (by omega) (by decide), gi_n (by omega) (by decide), gi_n (by omega) (by decide), tn _ (by omega), x1, x2]
  by_cases c1 : eA r = p
  · rw [if_pos (by rw [c1]), if_pos c1]
  · rw [if_neg (fun q => c1 ((nI_eq (by omega) (by omega)).mp q)), if_neg c1]
    by_cases c2 : eB r = p
    · rw [if_pos (by rw [c2]), if_pos c2]
    · rw [if_neg (fun q => c2 ((nI_eq (by omega) (by omega)).mp q)), if_neg c2]
theorem roadsAt_n (n1 : NW P R ld eA eB od wt) (n2 : CN σ P R ld eA eB od wt) {p : Nat} (hp : p < 8) : ∃ x, x < 4096 ∧ D2m_roadsAt σ (nI p) = some (nI x) ∧ ∀ i, i < 12 → x.testBit i = decide (11 - i < R ∧ (eA (11 - i) = p ∨ eB (11 - i) = p)) := by
  have hR := n1.2.1
  unfold D2m_roadsAt
  refine it2_ind (f := D2s_roadsAt_4 (nI p) σ (fun u_5 => some u_5)) (P := fun n v w => ∃ j x, j + n = R ∧ w = nI j ∧ v = nI x ∧ x < 4096 ∧ ∀ i, i < 12 → x.testBit i = decide (11 - i < j ∧ (eA (11 - i) = p ∨ eB (11 - i) = p))) (Q := fun o => ∃ x, x < 4096 ∧ o = some (nI x) ∧ ∀ i, i < 12 → x.testBit i = decide (11 - i < R ∧ (eA (11 - i) = p ∨ eB (11 - i) = p))) ?_ fuel R (0 : Int32) (0 : Int32) (by unfold fuel; omega) ⟨0, 0, by omega, rfl, rfl, by omega, fun i hi => by rw [Nat.zero_testBit, decide_eq_false (by omega)]⟩
  rintro n v w rc ⟨j, x, hj, rfl, rfl, hx, hb⟩ ih
  unfold D2s_roadsAt_4
  rw [n2.2.1]
  by_cases c : j = R
  · rw [if_pos (by rw [c]; exact nI_le (Nat.le_refl _) (by omega))]
    exact ⟨x, hx, rfl, fun i hi => by rw [hb i hi, c]⟩
  · obtain ⟨y1, y2, -⟩ := n1.e8 (r := j) (by omega)
    rw [if_neg (nI_ge (by omega) (by omega)), beyond_n n1 n2 (by omega) hp, b1_s, pl1, placeOf_n j (by omega), fa_or]
    have none : (eA j = p ∨ eB j = p) → (if eA j = p then nI (eB j) else if eB j = p then nI (eA j) else (-1 : Int32)) ≠ -1 := fun h => by
      have nn : ∀ a : Nat, a < 8 → nI a ≠ (-1 : Int32) := by decide
      by_cases c1 : eA j = p
      · rw [if_pos c1]; exact nn _ y2
      · rw [if_neg c1, if_pos (h.resolve_left c1)]; exact nn _ y1
    by_cases d : eA j = p ∨ eB j = p
    · rw [if_neg (none d)]
      refine ih (n - 1) _ _ (by omega) ⟨j + 1, x ||| 2 ^ (11 - j), by omega, rfl, rfl, Nat.or_lt_two_pow (n := 12) hx (Nat.pow_lt_pow_right (by decide) (by omega)), fun i hi => ?_⟩
      rw [Nat.testBit_or, Nat.testBit_two_pow, hb i hi]
      by_cases e : 11 - j = i
      · rw [decide_eq_true e, Bool.or_true, decide_eq_true (by rw [show 11 - i = j by omega]; exact ⟨by omega, d⟩)]
      · rw [decide_eq_false e, Bool.or_false]
        exact decide_eq_decide.mpr (and_congr (by omega) Iff.rfl)
    · rw [if_pos (by rw [if_neg (fun q => d (Or.inl q)), if_neg (fun q => d (Or.inr q))])]
      refine ih (n - 1) _ _ (by omega) ⟨j + 1, x, by omega, rfl, rfl, hx, fun i hi => ?_⟩
      rw [hb i hi]
      apply decide_eq_decide.mpr
      by_cases e : 11 - i = j
      · rw [e]; exact ⟨fun q => absurd q.2 d, fun q => absurd q.2 d⟩
      · exact and_congr (by omega) Iff.rfl
end AT
theorem pop12 : ∀ m, m < 4096 → J6m_bitCount_0f7a4 (nI m) = nI (fb_ct (fun i => m.testBit i) 12) := all4096 (P := fun m => J6m_bitCount_0f7a4 (nI m) = nI (fb_ct (fun i => m.testBit i) 12)) (by decide +kernel)
theorem ct_rev (p : Nat → Bool) : fb_ct (fun i => p (11 - i)) 12 = fb_ct p 12 := by
  rw [fb_ct_sm, fb_ct_sm]
  exact sm_inv (fun i => 11 - i) 12 (fun i hi => ⟨by omega, by omega⟩) (fun i => if p i then 1 else 0)
/-- a count up to R is one up to twelve -/
theorem ct_to {p : Nat → Bool} {R N : Nat} (h : R ≤ N) : fb_ct (fun r => decide (r < R) && p r) N = fb_ct p R := by
  obtain ⟨d, rfl⟩ : ∃ d, N = R + d := ⟨N - R, by omega⟩
  rw [ct_flat (fun i hi => by rw [decide_eq_false (by omega), Bool.false_and])]
  exact fb_ct_cong fun i hi => by rw [decide_eq_true hi, Bool.true_and]
theorem degree_n {R p x q : Nat} {eA eB : Nat → Nat} (hR : R ≤ 12) (hx : x < 4096) (hq : q < 4096) (hb : ∀ i, i < 12 → x.testBit i = decide (11 - i < R ∧ (eA (11 - i) = p ∨ eB (11 - i) = p))) : J6m_bitCount_0f7a4 (nI q &&& nI x) = nI (atP R eA eB (mir q) p) := by
  rw [fa_and, pop12 _ (Nat.lt_of_le_of_lt Nat.and_le_left hq)]
  unfold atP
  rw [← ct_to hR, ← ct_rev]
  refine congrArg nI (fb_ct_cong fun i hi => ?_)
  rw [Nat.testBit_and, hb (11 - i) (by omega), mir_tb hq hi, show 11 - (11 - i) = i by omega]
  by_cases c1 : i < R
  · rw [decide_eq_true c1, Bool.true_and]
    congr 1
    rw [← Bool.decide_or]
    exact decide_eq_decide.mpr ⟨fun h => h.2, fun h => ⟨c1, h⟩⟩
  · rw [decide_eq_false c1, Bool.false_and, decide_eq_false (fun h => c1 h.1), Bool.and_false]
theorem st_degrees : ST_degrees INV := by
  intro σ τ h a1 a2 a3 a4
  obtain ⟨⟨P, R, ld, eA, eB, od, wt, n1, n2, n3⟩, ⟨F, kd, W, f1, f2, f3⟩, -, -, -, ax⟩ := id h
  have hF := f1.1
  have hP := n1.1
  by_cases hf0 : 0 ≤ a1.toInt ∧ a1.toInt < F
  · obtain ⟨f, hf, rfl⟩ := of_range (by omega) hf0.1 hf0.2
    by_cases hp0 : 0 ≤ a2.toInt ∧ a2.toInt < P
    · obtain ⟨p, hp, rfl⟩ := of_range (x := a2) (by omega) hp0.1 hp0.2
      have er : Rm_degrees τ (nI f) (nI p) a3 a4 = it2 (Rs_degrees_28 (nI f) (nI p) a3 a4 (fun τ_17 => b2 (Rm_made τ_17 (0 : Int32)) (fun r_19 τ_20 => some (r_19, τ_20)))) fuel (0 : Int32) τ := by
        unfold Rm_degrees
        rw [if_neg (fun q => (isFam_0 f3.1 hF).mp q hf0), if_neg (fun q => in_0.mp q ⟨by rw [t0]; omega, by rw [n3.1, sub1 (by omega)]; omega⟩)]
      rw [er]
      refine mk_put (kn := 0) (w := fun m => W f m && decide (a3.toInt ≤ (atP R eA eB m p : Int) ∧ (atP R eA eB m p : Int) ≤ a4.toInt)) (C := fun _ => False) h ⟨f1, f2, f3⟩ (by omega) ?_ (fun _ h => h.elim) (fun rc h6 => ?_) (fun hF9 m τ1 rc hm hq => ⟨τ1, hq, ?_⟩) (fun τ1 rc hq => ?_)
      · unfold D8m_degrees
        rw [family_n f2.1 hF hf, bq_k (by omega), if_neg (fun q => (isPost_0 n1 n2).mp q hp0)]
        refine DMK.of f2.1 ax.1 (fun hF9 σ0 hb0 => ?_)
        have n2' := n2.to hb0.1 (fun c hc => by omega)
        obtain ⟨x, hx, e1, hxb⟩ := roadsAt_n n1 n2' (p := p) (by omega)
        obtain ⟨σl, e2, kl, hl⟩ := list_n (σ := σ0) (k := f)
        have old : ∀ q, q < 4096 → wb σ0 f q = W f (mir q) := fun q hq => by
          rw [wb_dK hb0.1 (by omega), f2.P hf hq]
        have hle := fb_ct_le (wb σ0 f) 4096
        obtain ⟨σ1, e3, k3, w3⟩ := filt (f := D8s_degrees_65 a3 a4 F (nI x) (nI (fb_ct (wb σ0 f) 4096)) (fun τ_23 => b2 (D8m_keep τ_23) (fun r_26 τ_25 => some (r_26, τ_25)))) (σl := σl) (F := F) (wb σ0 f) (fun q => decide (a3.toInt ≤ (atP R eA eB (mir q) p : Int) ∧ (atP R eA eB (mir q) p : Int) ≤ a4.toInt)) (fun s => b2 (D8m_keep s) (fun r s => some (r, s))) (fun q s rc hq hv ks => by
          have hlt := ct_mono_lt hq hv
          have hpl : s.2.1 8 (fb_ct (wb σ0 f) q) = nI q := by rw [(ks 8 (by omega)).2.1]; exact hl q hq hv
          have hat : (nI (atP R eA eB (mir q) p)).toInt = (atP R eA eB (mir q) p : Int) := it_nI (Nat.lt_of_le_of_lt (fb_ct_le _ _) (by have := n1.2.1; omega))
          unfold D8s_degrees_65
          rw [if_neg (nI_ge hlt (by omega)), if_neg (show ¬ (4096 : Int32) ≤ nI (fb_ct (wb σ0 f) q) from nI_ge (b := 4096) (by omega) (by decide)), gi_n (by omega) (by decide), gi_n (by omega) (by decide), tn _ (by omega), hpl, degree_n n1.2.1 hx hq hxb, nm_s]
          simp only [fa_lt, hat]
          by_cases d1 : (atP R eA eB (mir q) p : Int) < a3.toInt
          · rw [if_pos d1, if_neg (by rw [decide_eq_true_eq]; omega)]
          · rw [if_neg d1]
            by_cases d2 : a4.toInt < (atP R eA eB (mir q) p : Int)
            · rw [if_pos d2, if_neg (by rw [decide_eq_true_eq]; omega)]
            · rw [if_neg d2, if_pos (by rw [decide_eq_true_eq]; omega)]) (fun s rc => by
          unfold D8s_degrees_65
          rw [if_pos (nI_le (Nat.le_refl _) (by omega))])
        refine ⟨σ1, ?_, DON.mk hb0 ((kl.mo (C' := fun c => c = 8 ∨ c = 79 + F) (fun c hc => Or.inl hc)).tr (k3.mo (fun c hc => Or.inr hc))) (fun c hc => by unfold dScr; omega) (fun q hq => ?_)⟩
        · rw [e1, b1_s, e2, b2_s, e3]
        · rw [w3 q hq, wb_dK kl (by omega), hb0.2.2.1 q hq, old q hq, Bool.false_or]
      · unfold Rs_degrees_28
        rw [h6, if_neg (by decide), if_pos (by decide)]
        rfl
      · unfold Rs_degrees_28
        have n3' := n3.to hq.1 (fun c hc => hc.elim (fun e => by omega) False.elim)
        have hw : RW_ τ1 F W := f3.R.to (fun j hj => hq.2.2.1 j (by omega))
        have hat : (nI (atP R eA eB m p)).toInt = (atP R eA eB m p : Int) := it_nI (Nat.lt_of_le_of_lt (fb_ct_le _ _) (by have := n1.2.1; omega))
        rw [if_neg (show ¬ (4096 : Int32) ≤ nI m from nI_ge (b := 4096) (by omega) (by decide)), (hq.F (c := 6) (fun h => h) (by omega)).1, f3.1, if_neg (show ¬ (30 : Int32) ≤ nI F from nI_ge (b := 30) (by omega) (by decide)), isWay_n hw hF hf hm, b1_s, at_n n1 n3' hm (by omega), b1_s]
        cases W f m
        · rw [if_pos (by rfl)]; rfl
        · rw [if_neg (by decide), Bool.true_and, in_iff, hat]
          cases decide (a3.toInt ≤ (atP R eA eB m p : Int) ∧ (atP R eA eB m p : Int) ≤ a4.toInt) <;> rfl
      · unfold Rs_degrees_28
        ((try simp only [in_0]); simp (disch := omega) only [Int.le_refl, fa_lt, fa_le, fa_eq, it_nI, t0, i32_99, i32_8, i32_1, i32_2, i32_3, i32_4, i32_5, i32_6, i32_7, i32_11, i32_12, i32_13, i32_20, i32_30, i32_40, i32_50, i32_m50, i32_m1, i32_m2, i32_64, i32_256, i32_768, i32_4096, i32_600, i32_m600, i32_1000, i32_1201, if_pos, if_neg, reduceIte, b1_s, b2_s, nm_s, gi_n, tn, pl1, mi1, sub1, ml2, ml4, ml40, ml4096, ad, pl2, sub2, sub3, sub4, dA_p1, dA_p3, dS_p2, dS_p3, dJ_p1, dJ_p2, rA_p1, rS_p2])
        rfl
    · refine ⟨-2, σ, τ, ?_, ?_, h⟩
      · unfold D8m_degrees
        rw [family_n f2.1 hF hf, bq_k (by omega), if_pos ((isPost_0 n1 n2).mpr hp0)]
      · unfold Rm_degrees
        rw [if_neg (fun q => (isFam_0 f3.1 hF).mp q hf0), if_pos (in_0.mpr (fun q => hp0 (by rw [t0, n3.1, sub1 (by omega)] at q; omega)))]
  · refine ⟨-2, σ, τ, ?_, ?_, h⟩
    · unfold D8m_degrees
      rw [family_o f2.1 hF hf0, bq_n]
    · unfold Rm_degrees
      rw [if_pos ((isFam_0 f3.1 hF).mpr hf0)]

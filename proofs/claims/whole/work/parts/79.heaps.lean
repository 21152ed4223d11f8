/-! ===== posts joined by roads ===== -/
def hpP (eA eB : Nat → Nat) (m : Nat) : Nat → Nat → Nat
  | 0, p => p
  | r + 1, p => if m.testBit r = true ∧ (hpP eA eB m r p = hpP eA eB m r (eA r) ∨ hpP eA eB m r p = hpP eA eB m r (eB r)) then min (hpP eA eB m r (eA r)) (hpP eA eB m r (eB r)) else hpP eA eB m r p
def mgB (eA eB : Nat → Nat) (m r : Nat) : Bool := m.testBit r && !decide (hpP eA eB m r (eA r) = hpP eA eB m r (eB r))
def hpC (eA eB : Nat → Nat) (m r : Nat) : Nat := fb_ct (mgB eA eB m) r
section HEAPS
variable {P R : Nat} {ld eA eB od : Nat → Nat} {wt : Nat → Int32} {m : Nat}
theorem hp_s (r p : Nat) : hpP eA eB m (r + 1) p = if m.testBit r = true ∧ (hpP eA eB m r p = hpP eA eB m r (eA r) ∨ hpP eA eB m r p = hpP eA eB m r (eB r)) then min (hpP eA eB m r (eA r)) (hpP eA eB m r (eB r)) else hpP eA eB m r p := rfl
theorem hp_cong {M : Nat} : ∀ {r : Nat}, (∀ i, i < r → M.testBit i = m.testBit i) → ∀ p, hpP eA eB M r p = hpP eA eB m r p
  | 0, _, _ => rfl
  | r + 1, h, p => by
    have ih := hp_cong (r := r) (fun i hi => h i (by omega))
    rw [hp_s, hp_s, ih, ih, ih, h r (by omega)]
theorem hpC_cong {M r : Nat} (h : ∀ i, i < r → M.testBit i = m.testBit i) : hpC eA eB M r = hpC eA eB m r := fb_ct_cong fun i hi => by
  unfold mgB
  rw [h i hi, hp_cong (fun j hj => h j (by omega)), hp_cong (fun j hj => h j (by omega))]
theorem hp_le : ∀ r p, hpP eA eB m r p ≤ p
  | 0, p => Nat.le_refl p
  | r + 1, p => by
    have ih := hp_le r p
    rw [hp_s]
    split
    · rename_i h
      have := h.2
      omega
    · exact ih
theorem hp_idem : ∀ r p, hpP eA eB m r (hpP eA eB m r p) = hpP eA eB m r p
  | 0, p => rfl
  | r + 1, p => by
    have ip := hp_idem r p
    have ia := hp_idem r (eA r)
    have ib := hp_idem r (eB r)
    rw [hp_s r p]
    split
    · rename_i h
      have e : hpP eA eB m r (min (hpP eA eB m r (eA r)) (hpP eA eB m r (eB r))) = min (hpP eA eB m r (eA r)) (hpP eA eB m r (eB r)) := by
        rcases Nat.le_total (hpP eA eB m r (eA r)) (hpP eA eB m r (eB r)) with q | q
        · rw [Nat.min_eq_left q]; exact ia
        · rw [Nat.min_eq_right q]; exact ib
      rw [hp_s, e, if_pos ⟨h.1, by omega⟩]
    · rename_i h
      rw [hp_s, ip, if_neg h]
theorem hp_keep {r : Nat} : ∀ {s p q : Nat}, r ≤ s → hpP eA eB m r p = hpP eA eB m r q → hpP eA eB m s p = hpP eA eB m s q
  | 0, p, q, h, e => by
    have : r = 0 := by omega
    subst this; exact e
  | s + 1, p, q, h, e => by
    by_cases c : r = s + 1
    · subst c; exact e
    · have := hp_keep (s := s) (by omega) e
      rw [hp_s, hp_s, this]
theorem hp_road {r i : Nat} (hi : i < r) (h : m.testBit i = true) : hpP eA eB m r (eA i) = hpP eA eB m r (eB i) :=
  hp_keep (r := i + 1) hi (by rw [hp_s, hp_s, if_pos ⟨h, Or.inl rfl⟩, if_pos ⟨h, Or.inr rfl⟩])
theorem hp_closed (C : Nat → Prop) : ∀ {r : Nat}, (∀ i, i < r → m.testBit i = true → (C (eA i) ↔ C (eB i))) → ∀ p, C p ↔ C (hpP eA eB m r p)
  | 0, _, p => Iff.rfl
  | r + 1, h, p => by
    have ih := hp_closed C (r := r) (fun i hi => h i (by omega))
    rw [hp_s]
    split
    · rename_i q
      have ia := ih (eA r)
      have ib := ih (eB r)
      have hr := h r (by omega) q.1
      have ip := ih p
      have e : C (hpP eA eB m r p) ↔ C (hpP eA eB m r (eA r)) := by
        rcases q.2 with x | x
        · rw [x]
        · rw [x]; exact (ib.symm.trans hr.symm).trans ia
      rcases Nat.le_total (hpP eA eB m r (eA r)) (hpP eA eB m r (eB r)) with y | y
      · rw [Nat.min_eq_left y]; exact ip.trans e
      · rw [Nat.min_eq_right y]; exact (ip.trans e).trans ((ia.symm.trans hr).trans ib)
    · exact ih p
theorem hp_no {r : Nat} (h : m.testBit r = false) (p : Nat) : hpP eA eB m (r + 1) p = hpP eA eB m r p := by
  rw [hp_s, if_neg (fun q => by rw [h] at q; exact absurd q.1 (by decide))]
theorem hp_yes {r : Nat} (h : m.testBit r = true) (p : Nat) : hpP eA eB m (r + 1) p = if hpP eA eB m r p = hpP eA eB m r (eA r) ∨ hpP eA eB m r p = hpP eA eB m r (eB r) then min (hpP eA eB m r (eA r)) (hpP eA eB m r (eB r)) else hpP eA eB m r p := by
  rw [hp_s]
  by_cases c : hpP eA eB m r p = hpP eA eB m r (eA r) ∨ hpP eA eB m r p = hpP eA eB m r (eB r)
  · rw [if_pos ⟨h, c⟩, if_pos c]
  · rw [if_neg (fun q => c q.2), if_neg c]
theorem hp_eq {r : Nat} (h : m.testBit r = true) (e : hpP eA eB m r (eA r) = hpP eA eB m r (eB r)) (p : Nat) : hpP eA eB m (r + 1) p = hpP eA eB m r p := by
  rw [hp_yes h]
  split
  · omega
  · rfl
theorem mg_f {r : Nat} (h : m.testBit r = false) : mgB eA eB m r = false := by unfold mgB; rw [h]; rfl
theorem mg_e {r : Nat} (e : hpP eA eB m r (eA r) = hpP eA eB m r (eB r)) : mgB eA eB m r = false := by unfold mgB; rw [decide_eq_true e, Bool.not_true, Bool.and_false]
theorem mg_t {r : Nat} (h : m.testBit r = true) (e : ¬ hpP eA eB m r (eA r) = hpP eA eB m r (eB r)) : mgB eA eB m r = true := by unfold mgB; rw [h, decide_eq_false e]; rfl
theorem hpC_s (r : Nat) : hpC eA eB m (r + 1) = hpC eA eB m r + (if mgB eA eB m r then 1 else 0) := rfl
theorem hpC_0 {r : Nat} (h : mgB eA eB m r = false) : hpC eA eB m (r + 1) = hpC eA eB m r := by rw [hpC_s, h]; rfl
theorem hpC_1 {r : Nat} (h : mgB eA eB m r = true) : hpC eA eB m (r + 1) = hpC eA eB m r + 1 := by rw [hpC_s, h]; rfl
theorem mg_pt {a b x p : Nat} (e : ¬ a = b) (h1 : p = a → x = a) (h2 : p = b → x = b) : decide ((if x = a ∨ x = b then min a b else x) = p) = if p = max a b then false else decide (x = p) := by
  by_cases c : p = max a b
  · rw [if_pos c]
    apply decide_eq_false
    split <;> omega
  · rw [if_neg c]
    by_cases d : x = a ∨ x = b
    · rw [if_pos d]
      by_cases f : x = p
      · rw [decide_eq_true f, decide_eq_true (by omega)]
      · rw [decide_eq_false f, decide_eq_false (by omega)]
    · rw [if_neg d]
theorem hp_count (he : ∀ i, i < R → eA i < P ∧ eB i < P) : ∀ r, r ≤ R → fb_ct (fun p => decide (hpP eA eB m r p = p)) P + hpC eA eB m r = P
  | 0, _ => by
    show fb_ct _ P + 0 = P
    rw [Nat.add_zero]
    exact fb_ct_all.mpr (fun k _ => decide_eq_true rfl)
  | r + 1, h => by
    have ih := hp_count he r (by omega)
    obtain ⟨ya, yb⟩ := he r (by omega)
    cases hb : m.testBit r with
    | false =>
      rw [hpC_0 (mg_f hb), fb_ct_cong (q := fun p => decide (hpP eA eB m r p = p)) (fun k _ => by rw [hp_no hb])]
      exact ih
    | true =>
      by_cases e : hpP eA eB m r (eA r) = hpP eA eB m r (eB r)
      · rw [hpC_0 (mg_e e), fb_ct_cong (q := fun p => decide (hpP eA eB m r p = p)) (fun k _ => by rw [hp_eq hb e])]
        exact ih
      · have ia := hp_idem (eA := eA) (eB := eB) (m := m) r (eA r)
        have ib := hp_idem (eA := eA) (eB := eB) (m := m) r (eB r)
        have la := hp_le (eA := eA) (eB := eB) (m := m) r (eA r)
        have lb := hp_le (eA := eA) (eB := eB) (m := m) r (eB r)
        have hk : hpP eA eB m r (max (hpP eA eB m r (eA r)) (hpP eA eB m r (eB r))) = max (hpP eA eB m r (eA r)) (hpP eA eB m r (eB r)) := by
          rcases Nat.le_total (hpP eA eB m r (eA r)) (hpP eA eB m r (eB r)) with q | q
          · rw [Nat.max_eq_right q]; exact ib
          · rw [Nat.max_eq_left q]; exact ia
        have u := fb_ct_upd (fun p => decide (hpP eA eB m r p = p)) false (i := max (hpP eA eB m r (eA r)) (hpP eA eB m r (eB r))) (n := P) (by omega)
        rw [if_pos (decide_eq_true hk), if_neg (by decide)] at u
        rw [hpC_1 (mg_t hb e), fb_ct_cong (q := fun k => if k = max (hpP eA eB m r (eA r)) (hpP eA eB m r (eB r)) then false else decide (hpP eA eB m r k = k)) (fun p _ => ?_)]
        · omega
        · rw [hp_yes hb]
          exact mg_pt e (fun q => by rw [q]; exact ia) (fun q => by rw [q]; exact ib)
theorem hpC_le (he : ∀ i, i < R → eA i < P ∧ eB i < P) {r : Nat} (h : r ≤ R) : hpC eA eB m r ≤ P := by
  have := hp_count (m := m) he r h
  omega
theorem hpC_up {r s : Nat} (h : r ≤ s) : hpC eA eB m r ≤ hpC eA eB m s ∧ hpC eA eB m s ≤ hpC eA eB m r + (s - r) := by
  obtain ⟨d, rfl⟩ : ∃ d, s = r + d := ⟨s - r, by omega⟩
  refine ⟨fb_ct_mono _ h, ?_⟩
  unfold hpC
  rw [fb_ct_split]
  have := fb_ct_le (fun k => mgB eA eB m (r + k)) d
  omega
/-- the heaps of the second computation -/
theorem heaps_n (n1 : NW P R ld eA eB od wt) {τ : RS} (n3 : RN τ P R ld eA eB od wt) {m : Nat} (hm : m < 4096) : ∃ τ', Rm_heaps τ (nI m) = some (nI (P - hpC eA eB m R), τ') ∧ rK_ (fun c => c = 19) τ τ' ∧ ∀ p, p < P → τ'.2 19 p = nI (hpP eA eB m R p) := by
  have hP := n1.1
  have hR := n1.2.1
  have he : ∀ i, i < R → eA i < P ∧ eB i < P := fun i hi => by have := n1.2.2.2.1 i hi; omega
  have l1 : ∀ kx : RS → Option (Int32 × RS), ∃ τ', it2 (Rs_heaps_2 (nI m) kx) fuel (0 : Int32) τ = kx τ' ∧ rK_ (fun c => c = 19) τ τ' ∧ ∀ p, p < P → τ'.2 19 p = nI p := fun kx => by
    refine it2_ind (f := Rs_heaps_2 (nI m) kx) (P := fun n v t => ∃ j, j + n = P ∧ v = nI j ∧ rK_ (fun c => c = 19) τ t ∧ ∀ p, p < j → t.2 19 p = nI p) (Q := fun o => ∃ τ', o = kx τ' ∧ rK_ (fun c => c = 19) τ τ' ∧ ∀ p, p < P → τ'.2 19 p = nI p) ?_ fuel P (0 : Int32) τ (by unfold fuel; omega) ⟨0, by omega, rfl, rK_.rf, fun p hp => absurd hp (Nat.not_lt_zero p)⟩
    rintro n v t rc ⟨j, hj, rfl, k, h⟩ ih
    have n3' := n3.to k (fun c hc => by have : c = 19 := hc; omega)
    unfold Rs_heaps_2
    rw [n3'.1]
    by_cases c : j = P
    · subst c
      rw [if_pos (nI_le (Nat.le_refl _) (by omega))]
      exact ⟨t, rfl, k, h⟩
    · rw [if_neg (nI_ge (by omega) (by omega)), gi_n (by omega) (by decide), nm_s, tn _ (by omega), pl1]
      refine ih (n - 1) _ _ (by omega) ⟨j + 1, by omega, rfl, k.tr (rK_A rfl), fun p hp => ?_⟩
      by_cases e : p = j
      · subst e; exact rA_s
      · rw [rA_n e]; exact h p (by omega)
  have l3 : ∀ (p2 p3 : Int32) (a b : Nat) (t1 : RS) (old : Nat → Nat) (kx : RS → Option (Int32 × RS)), a < 8 → b < 8 → (∀ p, p < P → old p < 8) → rK_ (fun c => c = 19) τ t1 → (∀ p, p < P → t1.2 19 p = nI (old p)) → ∃ t', it2 (Rs_heaps_88 (nI m) p2 p3 (nI a) (nI b) kx) fuel (0 : Int32) t1 = kx t' ∧ rK_ (fun c => c = 19) τ t' ∧ ∀ p, p < P → t'.2 19 p = nI (if old p = a ∨ old p = b then min a b else old p) := fun p2 p3 a b t1 old kx ha hb ho k1 h1 => by
    refine it2_ind (f := Rs_heaps_88 (nI m) p2 p3 (nI a) (nI b) kx) (P := fun n v t => ∃ j, j + n = P ∧ v = nI j ∧ rK_ (fun c => c = 19) τ t ∧ (∀ p, p < j → t.2 19 p = nI (if old p = a ∨ old p = b then min a b else old p)) ∧ ∀ p, j ≤ p → p < P → t.2 19 p = nI (old p)) (Q := fun o => ∃ t', o = kx t' ∧ rK_ (fun c => c = 19) τ t' ∧ ∀ p, p < P → t'.2 19 p = nI (if old p = a ∨ old p = b then min a b else old p)) ?_ fuel P (0 : Int32) t1 (by unfold fuel; omega) ⟨0, by omega, rfl, k1, fun p hp => absurd hp (Nat.not_lt_zero p), fun p _ hp => h1 p hp⟩
    rintro n v t rc ⟨j, hj, rfl, k, h, h'⟩ ih
    have n3' := n3.to k (fun c hc => by have : c = 19 := hc; omega)
    by_cases c : j = P
    · subst c
      unfold Rs_heaps_88
      rw [n3'.1, if_pos (nI_le (Nat.le_refl _) (by omega))]
      exact ⟨t, rfl, k, h⟩
    · have hoj := ho j (by omega)
      have body : Rs_heaps_88 (nI m) p2 p3 (nI a) (nI b) kx rc (nI j) t = rc (nI (j + 1)) (rA t 19 j (nI (if old j = a ∨ old j = b then min a b else old j))) := by
        unfold Rs_heaps_88
        have g : ∀ q : Option (Int32 × RS), gi (nI j) 8 q = q := fun q => gi_n (by omega) (by decide)
        simp only [n3'.1, g, tn j (by omega), h' j (Nat.le_refl _) (by omega), nm_s, pl1]
        rw [if_neg (nI_ge (by omega) (by omega))]
        by_cases ca : old j = a
        · rw [if_pos (congrArg nI ca), if_pos (Or.inl ca)]
          by_cases l : b ≤ a
          · rw [if_pos (nI_le l (by omega)), Nat.min_eq_right l]
          · rw [if_neg (nI_ge (by omega) (by omega)), Nat.min_eq_left (by omega)]
        · rw [if_neg (fun q => ca ((nI_eq (by omega) (by omega)).mp q))]
          by_cases cb : old j = b
          · rw [if_pos (congrArg nI cb), if_pos (Or.inr cb)]
            by_cases l : b ≤ a
            · rw [if_pos (nI_le l (by omega)), Nat.min_eq_right l]
            · rw [if_neg (nI_ge (by omega) (by omega)), Nat.min_eq_left (by omega)]
          · rw [if_neg (fun q => cb ((nI_eq (by omega) (by omega)).mp q)), if_neg (fun q => q.elim ca cb)]
      rw [body]
      refine ih (n - 1) _ _ (by omega) ⟨j + 1, by omega, rfl, k.tr (rK_A rfl), fun p hp => ?_, fun p hp hq => ?_⟩
      · by_cases e : p = j
        · subst e; exact rA_s
        · rw [rA_n e]; exact h p (by omega)
      · rw [rA_n (by omega)]; exact h' p (by omega) hq
  obtain ⟨t0, e0, k0, h0⟩ := l1 (fun τ_5 => it3 (Rs_heaps_30 (nI m) (fun u_39 τ_40 => some (u_39, τ_40))) fuel (τ_5.1 0) (0 : Int32) τ_5)
  rw [show Rm_heaps τ (nI m) = _ from e0]
  have n0 := n3.to k0 (fun c hc => by have : c = 19 := hc; omega)
  rw [n0.1]
  refine it3_ind (f := Rs_heaps_30 (nI m) (fun u_39 τ_40 => some (u_39, τ_40))) (P := fun n v w t => ∃ r, r + n = R ∧ w = nI r ∧ v = nI (P - hpC eA eB m r) ∧ rK_ (fun c => c = 19) τ t ∧ ∀ p, p < P → t.2 19 p = nI (hpP eA eB m r p)) (Q := fun o => ∃ τ', o = some (nI (P - hpC eA eB m R), τ') ∧ rK_ (fun c => c = 19) τ τ' ∧ ∀ p, p < P → τ'.2 19 p = nI (hpP eA eB m R p)) ?_ fuel R (nI P) (0 : Int32) t0 (by unfold fuel; omega) ⟨0, by omega, rfl, rfl, k0, h0⟩
  rintro n v w t rc ⟨r, hr, rfl, rfl, k, h⟩ ih
  have n3' := n3.to k (fun c hc => by have : c = 19 := hc; omega)
  by_cases c : r = R
  · subst c
    unfold Rs_heaps_30
    rw [n3'.2.1, if_pos (nI_le (Nat.le_refl _) (by omega))]
    exact ⟨t, rfl, k, h⟩
  · obtain ⟨x1, x2, -, -⟩ := n3'.2.2.2 r (by omega)
    obtain ⟨ya, yb⟩ := he r (by omega)
    have la := hp_le (eA := eA) (eB := eB) (m := m) r (eA r)
    have lb := hp_le (eA := eA) (eB := eB) (m := m) r (eB r)
    have g1 : ∀ q : Option (Int32 × RS), gi (nI (2 * r)) 24 q = q := fun q => gi_n (by omega) (by decide)
    have g2 : ∀ q : Option (Int32 × RS), gi (nI (2 * r + 1)) 24 q = q := fun q => gi_n (by omega) (by decide)
    have g3 : ∀ q : Option (Int32 × RS), gi (nI (eA r)) 8 q = q := fun q => gi_n (by omega) (by decide)
    have g4 : ∀ q : Option (Int32 × RS), gi (nI (eB r)) 8 q = q := fun q => gi_n (by omega) (by decide)
    unfold Rs_heaps_30
    simp only [n3'.2.1, ml2, pl1, g1, g2, tn (2 * r) (by omega), tn (2 * r + 1) (by omega), x1, x2, g3, g4, tn (eA r) (by omega), tn (eB r) (by omega), h _ ya, h _ yb, nm_s, rholds_n (m := m) (r := r) (by omega) (by omega)]
    rw [if_neg (nI_ge (by omega) (by omega))]
    cases hb : m.testBit r with
    | false =>
      rw [if_pos (by rfl)]
      exact ih (n - 1) _ _ _ (by omega) ⟨r + 1, by omega, rfl, by rw [hpC_0 (mg_f hb)], k, fun p hp => by rw [hp_no hb]; exact h p hp⟩
    | true =>
      rw [if_neg (by decide)]
      by_cases e : hpP eA eB m r (eA r) = hpP eA eB m r (eB r)
      · rw [if_pos (congrArg nI e)]
        exact ih (n - 1) _ _ _ (by omega) ⟨r + 1, by omega, rfl, by rw [hpC_0 (mg_e e)], k, fun p hp => by rw [hp_eq hb e]; exact h p hp⟩
      · rw [if_neg (fun q => e ((nI_eq (by omega) (by omega)).mp q))]
        have lc := hpC_le (m := m) he (show r + 1 ≤ R by omega)
        rw [hpC_1 (mg_t hb e)] at lc
        obtain ⟨t', e', k', h''⟩ := l3 (nI (P - hpC eA eB m r)) (nI r) (hpP eA eB m r (eA r)) (hpP eA eB m r (eB r)) t (hpP eA eB m r) (fun τ_38 => rc (nI (P - hpC eA eB m r) + (-1 : Int32)) (nI (r + 1)) τ_38) (by omega) (by omega) (fun p hp => by have := hp_le (eA := eA) (eB := eB) (m := m) r p; omega) k h
        rw [e']
        refine ih (n - 1) _ _ _ (by omega) ⟨r + 1, by omega, rfl, ?_, k', fun p hp => by rw [hp_yes hb]; exact h'' p hp⟩
        rw [hpC_1 (mg_t hb e), show P - hpC eA eB m r = (P - (hpC eA eB m r + 1)) + 1 by omega, pk_m1]
end HEAPS

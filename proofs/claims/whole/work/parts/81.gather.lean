/-! ===== searches: trees, parts ===== -/
theorem PUTS.sc {C : Nat → Prop} {τ τ1 τ2 : RS} {F n : Nat} {w : Nat → Bool} (h : PUTS C τ τ1 F n w) (hC : C 19) (k : rK_ (fun c => c = 19) τ1 τ2) : PUTS C τ τ2 F n w := by
  have e : ∀ c, c ≠ 19 → τ2.2 c = τ1.2 c := fun c hc => (k c hc).2
  refine ⟨h.1.tr (k.mo (fun c hc => Or.inr (hc ▸ hC))), fun m hm => by rw [e 8 (by decide)]; exact h.2.1 m hm, fun j hj => by rw [e 8 (by decide)]; exact h.2.2.1 j hj, ?_⟩
  exact h.2.2.2.to (fun j => Or.inl (by rw [e 8 (by decide)])) (fun j => Or.inl (by rw [e 20 (by decide)])) (fun j => Or.inl (by rw [e 21 (by decide)]))
theorem it1_all {ρ : Type} {f : (Int32 → Option ρ) → Int32 → Option ρ} {N : Nat} (hN : N < fuel) (c : Nat → Bool) (kt kf : Option ρ) (hs : ∀ rc j, j < N → f rc (nI j) = if c j = true then rc (nI (j + 1)) else kf) (he : ∀ rc, f rc (nI N) = kt) : it1 f fuel (0 : Int32) = if allB c N = true then kt else kf := by
  refine it1_ind (f := f) (P := fun n v => ∃ j, j + n = N ∧ v = nI j ∧ allB c j = true) (Q := fun o => o = if allB c N = true then kt else kf) ?_ fuel N (0 : Int32) hN ⟨0, by omega, rfl, rfl⟩
  rintro n v rc ⟨j, hj, rfl, h⟩ ih
  by_cases q : j = N
  · subst q
    rw [he, if_pos h]
  · rw [hs rc j (by omega)]
    by_cases g : c j = true
    · rw [if_pos g]
      exact ih (n - 1) _ (by omega) ⟨j + 1, by omega, rfl, by show (allB c j && c j) = true; rw [h, g]; rfl⟩
    · rw [if_neg g, if_neg (fun z => g (allB_iff.mp z j (by omega)))]
section GATHER
variable {P R : Nat} {ld eA eB od : Nat → Nat} {wt : Nat → Int32}
def ldS (P : Nat) (ld g : Nat → Nat) (p : Nat) : Nat := fb_sm (fun q => if g q = p then ld q else 0) P
def okT (P R : Nat) (eA eB : Nat → Nat) (w M : Nat) : Prop := (∀ i, i < R → M.testBit i = true → ¬ hpP eA eB M i (eA i) = hpP eA eB M i (eB i)) ∧ P - hpC eA eB M R = w
def okL (P R : Nat) (ld eA eB : Nat → Nat) (lo hi : Int32) (M : Nat) : Prop := (∀ i, i < R → M.testBit i = true ∨ ¬ hpP eA eB M R (eA i) = hpP eA eB M R (eB i)) ∧ ∀ p, p < P → lo.toInt ≤ (nI (ldS P ld (hpP eA eB M R) (hpP eA eB M R p))).toInt ∧ (nI (ldS P ld (hpP eA eB M R) (hpP eA eB M R p))).toInt ≤ hi.toInt
def okG (P R : Nat) (ld eA eB : Nat → Nat) (b : Bool) (w : Nat) (lo hi : Int32) (M : Nat) : Prop := (b = false → okT P R eA eB w M) ∧ (b = true → P - hpC eA eB M R = w ∧ okL P R ld eA eB lo hi M)
theorem fit_n {k : Nat} {z : DZ} {v : Int32} : D4m_isFitting k z v = bI (decide ((z.2 6).toInt ≤ v.toInt ∧ v.toInt ≤ (z.2 7).toInt)) := by
  unfold D4m_isFitting
  by_cases c : v < z.2 6
  · rw [if_pos c, decide_eq_false (fun q => by rw [fa_lt] at c; omega)]; rfl
  · rw [if_neg c]
    by_cases d : z.2 7 < v
    · rw [if_pos d, decide_eq_false (fun q => by rw [fa_lt] at d; omega)]; rfl
    · rw [if_neg d, decide_eq_true (by rw [fa_lt] at c d; omega)]; rfl
theorem ldS_le {g : Nat → Nat} (n1 : NW P R ld eA eB od wt) (p : Nat) : ∀ j, j ≤ P → fb_sm (fun q => if g q = p then ld q else 0) j ≤ 99 * j
  | 0, _ => Nat.le_refl 0
  | j + 1, h => by
    have ih := ldS_le (g := g) n1 p j (by omega)
    have := n1.2.2.1 j (by omega)
    rw [fb_sm_succ]
    split <;> omega
theorem load_n (n1 : NW P R ld eA eB od wt) {k : Nat} {z : DZ} (hc : CN z.1 P R ld eA eB od wt) {p : Nat} (hp : p < 8) {x : Int32} : D4m_loadOf k z (nI p) x = some (nI (ldS P ld (labN x) p)) := by
  have hP := n1.1
  unfold D4m_loadOf
  refine Eq.trans rfl (it2_seq (f := D4s_loadOf_5 k (nI p) x z (fun u_5 => some u_5)) (fun j => nI (fb_sm (fun q => if labN x q = p then ld q else 0) j)) (fun j => nI j) P _ (by unfold fuel; omega) (fun j hj rc => ?_) (fun rc => ?_))
  · have l1 : labN x j < 16 := lab_lt
    unfold D4s_loadOf_5
    rw [hc.1, if_neg (nI_ge hj (by omega)), if_neg (show ¬ (8 : Int32) ≤ nI j from nI_ge (b := 8) (by omega) (by decide)), label_n (by omega), pl1, fb_sm_succ]
    by_cases e : labN x j = p
    · rw [if_pos (congrArg nI e), if_pos e, gi_n (by omega) (by decide), tn _ (by omega), hc.2.2.1 j hj, ad]
    · rw [if_neg (fun q => e ((nI_eq (by omega) (by omega)).mp q)), if_neg e]
      rfl
  · unfold D4s_loadOf_5
    rw [hc.1, if_pos (nI_le (Nat.le_refl _) (by omega))]
    rfl
theorem place_0 {m r : Nat} (hm : m < 4096) (hr : r < 12) : nI (mir m) &&& D2m_placeOf (nI r) = 0 ↔ m.testBit r = false := by
  rw [placeOf_n r hr, fa_bit (by omega), mir_tb hm (by omega), show 11 - (11 - r) = r by omega]
theorem parting_n (n1 : NW P R ld eA eB od wt) {k : Nat} {z : DZ} (hc : CN z.1 P R ld eA eB od wt) {m : Nat} (hm : m < 2 ^ R) {x : Int32} (hx : LBL P eA eB m R x) : D4m_isParting k z (nI (mir m)) x = some (bI (cD (okL P R ld eA eB (z.2 6) (z.2 7) m))) := by
  have hP := n1.1
  have hR := n1.2.1
  have hm4 : m < 4096 := Nat.lt_of_lt_of_le hm (p2R hR)
  have he : ∀ i, i < R → eA i < P ∧ eB i < P := fun i hi => by have := n1.2.2.2.1 i hi; omega
  have e1 := it1_all (f := D4s_isParting_2 k (nI (mir m)) x z (some (0 : Int32)) (it1 (D4s_isParting_79 k x z (some (0 : Int32)) (some (1 : Int32))) fuel (0 : Int32))) (N := R) (by unfold fuel; omega) (fun i => m.testBit i || !decide (labN x (eA i) = labN x (eB i))) (it1 (D4s_isParting_79 k x z (some (0 : Int32)) (some (1 : Int32))) fuel (0 : Int32)) (some 0) (fun rc j hj => by
    obtain ⟨x1, x2, -, -⟩ := hc.2.2.2 j hj
    obtain ⟨y1, y2, -⟩ := n1.e8 hj
    have la : labN x (eA j) < 16 := lab_lt
    have lb : labN x (eB j) < 16 := lab_lt
    unfold D4s_isParting_2
    rw [hc.2.1, if_neg (nI_ge hj (by omega)), if_neg (show ¬ (12 : Int32) ≤ nI j from nI_ge (b := 12) (by omega) (by decide)), pl1]
    cases hb : m.testBit j with
    | true => rw [if_neg (fun q => by rw [place_0 hm4 (by omega), hb] at q; exact absurd q (by decide)), if_pos (by rfl)]
    | false =>
      rw [if_pos ((place_0 hm4 (by omega)).mpr hb), gi_n (by omega) (by decide), gi_n (by omega) (by decide), tn _ (by omega), x1, x2, label_n y1, label_n y2, Bool.false_or]
      by_cases e : labN x (eA j) = labN x (eB j)
      · rw [if_pos (congrArg nI e), decide_eq_true e]; rfl
      · rw [if_neg (fun q => e ((nI_eq (by omega) (by omega)).mp q)), decide_eq_false e]; rfl) (fun rc => by
    unfold D4s_isParting_2
    rw [hc.2.1, if_pos (nI_le (Nat.le_refl _) (by omega))])
  have e2 := it1_all (f := D4s_isParting_79 k x z (some (0 : Int32)) (some (1 : Int32))) (N := P) (by unfold fuel; omega) (fun j => !decide (labN x j = j) || decide ((z.2 6).toInt ≤ (nI (ldS P ld (labN x) j)).toInt ∧ (nI (ldS P ld (labN x) j)).toInt ≤ (z.2 7).toInt)) (some 1) (some 0) (fun rc j hj => by
    have lj : labN x j < 16 := lab_lt
    unfold D4s_isParting_79
    rw [hc.1, if_neg (nI_ge hj (by omega)), label_n (by omega), pl1]
    by_cases e : labN x j = j
    · rw [if_pos (congrArg nI e), load_n n1 hc (by omega), b1_s, fit_n, decide_eq_true e, Bool.not_true, Bool.false_or]
      by_cases d : (z.2 6).toInt ≤ (nI (ldS P ld (labN x) j)).toInt ∧ (nI (ldS P ld (labN x) j)).toInt ≤ (z.2 7).toInt
      · rw [decide_eq_true d, if_neg (by decide), if_pos rfl]
      · rw [decide_eq_false d, if_pos (by rfl), if_neg (by decide)]
    · rw [if_neg (fun q => e ((nI_eq (by omega) (by omega)).mp q)), decide_eq_false e, if_pos (by rfl)]) (fun rc => by
    unfold D4s_isParting_79
    rw [hc.1, if_pos (nI_le (Nat.le_refl _) (by omega))])
  have sums : ∀ p, p < P → ldS P ld (labN x) (labN x p) = ldS P ld (hpP eA eB m R) (hpP eA eB m R p) := fun p hp => by
    unfold ldS
    refine fb_sm_cong fun q hq => ?_
    by_cases e : labN x q = labN x p
    · rw [if_pos e, if_pos ((hx.2 q p hq hp).mp e)]
    · rw [if_neg e, if_neg (fun y => e ((hx.2 q p hq hp).mpr y))]
  have b1' : allB (fun i => m.testBit i || !decide (labN x (eA i) = labN x (eB i))) R = true ↔ ∀ i, i < R → m.testBit i = true ∨ ¬ hpP eA eB m R (eA i) = hpP eA eB m R (eB i) := by
    rw [allB_iff]
    refine forall_congr' fun i => forall_congr' fun hi => ?_
    obtain ⟨ya, yb⟩ := he i hi
    rw [Bool.or_eq_true, Bool.not_eq_true', decide_eq_false_iff_not, hx.2 _ _ ya yb]
  have b2' : allB (fun j => !decide (labN x j = j) || decide ((z.2 6).toInt ≤ (nI (ldS P ld (labN x) j)).toInt ∧ (nI (ldS P ld (labN x) j)).toInt ≤ (z.2 7).toInt)) P = true ↔ ∀ p, p < P → (z.2 6).toInt ≤ (nI (ldS P ld (hpP eA eB m R) (hpP eA eB m R p))).toInt ∧ (nI (ldS P ld (hpP eA eB m R) (hpP eA eB m R p))).toInt ≤ (z.2 7).toInt := by
    rw [allB_iff]
    constructor
    · intro h p hp
      obtain ⟨pp, jp⟩ := hx.1 p hp
      have := h _ pp
      rw [decide_eq_true jp, Bool.not_true, Bool.false_or, decide_eq_true_eq, sums p hp] at this
      exact this
    · intro h j hj
      by_cases e : labN x j = j
      · have := h j hj
        rw [← sums j hj, e] at this
        rw [decide_eq_true this, Bool.or_true]
      · rw [decide_eq_false e]; rfl
  rw [show D4m_isParting k z (nI (mir m)) x = _ from e1, e2]
  by_cases c1 : allB (fun i => m.testBit i || !decide (labN x (eA i) = labN x (eB i))) R = true
  · rw [if_pos c1]
    by_cases c2 : allB (fun j => !decide (labN x j = j) || decide ((z.2 6).toInt ≤ (nI (ldS P ld (labN x) j)).toInt ∧ (nI (ldS P ld (labN x) j)).toInt ≤ (z.2 7).toInt)) P = true
    · rw [if_pos c2, cD_t ⟨b1'.mp c1, b2'.mp c2⟩]; rfl
    · rw [if_neg c2, cD_f (fun q => c2 (b2'.mpr q.2))]; rfl
  · rw [if_neg c1, cD_f (fun q => c1 (b1'.mpr q.1))]; rfl
end GATHER

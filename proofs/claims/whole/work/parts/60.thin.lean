/-! ===== thin ===== -/
noncomputable def cD (p : Prop) : Bool := @decide p (Classical.propDecidable p)
theorem cD_iff {p : Prop} : cD p = true ↔ p := by unfold cD; exact @decide_eq_true_iff p (Classical.propDecidable p)
theorem cD_t {p : Prop} (h : p) : cD p = true := cD_iff.mpr h
theorem cD_f {p : Prop} (h : ¬ p) : cD p = false := by
  cases c : cD p
  · rfl
  · exact absurd (cD_iff.mp c) h
theorem cD_eq {b : Bool} {p : Prop} (h : b = true ↔ p) : b = cD p := by rw [Bool.eq_iff_iff, h, cD_iff]
def allB (c : Nat → Bool) : Nat → Bool
  | 0 => true
  | n + 1 => allB c n && c n
theorem allB_iff {c : Nat → Bool} : ∀ {n : Nat}, allB c n = true ↔ ∀ w, w < n → c w = true
  | 0 => ⟨fun _ w hw => absurd hw (Nat.not_lt_zero w), fun _ => rfl⟩
  | n + 1 => by
    show (allB c n && c n) = true ↔ _
    rw [Bool.and_eq_true, allB_iff]
    constructor
    · rintro ⟨h1, h2⟩ w hw
      by_cases e : w = n
      · rw [e]; exact h2
      · exact h1 w (by omega)
    · intro h
      exact ⟨fun w hw => h w (by omega), h n (by omega)⟩
def anyB (c : Nat → Bool) : Nat → Bool
  | 0 => false
  | n + 1 => anyB c n || c n
theorem anyB_iff {c : Nat → Bool} : ∀ {n : Nat}, anyB c n = true ↔ ∃ w, w < n ∧ c w = true
  | 0 => ⟨fun h => absurd h Bool.false_ne_true, fun ⟨w, hw, _⟩ => absurd hw (Nat.not_lt_zero w)⟩
  | n + 1 => by
    show (anyB c n || c n) = true ↔ _
    rw [Bool.or_eq_true, anyB_iff]
    constructor
    · rintro (⟨w, h1, h2⟩ | h)
      · exact ⟨w, by omega, h2⟩
      · exact ⟨n, by omega, h⟩
    · rintro ⟨w, h1, h2⟩
      by_cases e : w = n
      · rw [← e]; exact Or.inr h2
      · exact Or.inl ⟨w, by omega, h2⟩
/-- a loop that goes on while all is well -/
theorem all_loop {ρ : Type} {f : (Int32 → Int32 → Option ρ) → Int32 → Int32 → Option ρ} {N : Nat} (hN : N < fuel) (kx : Int32 → Option ρ) (c : Nat → Bool)
    (h0 : ∀ rc w, f rc 0 w = kx 0) (hs : ∀ rc w, w < N → f rc 1 (nI w) = rc (bI (c w)) (nI (w + 1))) (he : ∀ rc, f rc 1 (nI N) = kx 1) (b : Bool) : it2 f fuel (bI b) (0 : Int32) = kx (bI (b && allB c N)) := by
  refine it2_ind (f := f) (P := fun n v w => ∃ j, j + n = N ∧ w = nI j ∧ v = bI (b && allB c j)) (Q := fun o => o = kx (bI (b && allB c N))) ?_ fuel N (bI b) (0 : Int32) hN ⟨0, by omega, rfl, by show _ = bI (b && true); rw [Bool.and_true]⟩
  rintro n v w rc ⟨j, hj, rfl, rfl⟩ ih
  have mono : ∀ d, allB c j = false → allB c (j + d) = false := fun d h => by
    induction d with
    | zero => exact h
    | succ d ih => show (allB c (j + d) && c (j + d)) = false; rw [ih]; rfl
  cases d : (b && allB c j)
  · have e : (b && allB c N) = false := by
      cases b
      · rfl
      · rw [Bool.true_and] at d ⊢
        have := mono n d
        rw [hj] at this
        exact this
    rw [e]
    exact h0 rc (nI j)
  · rw [Bool.and_eq_true] at d
    by_cases c1 : j = N
    · subst c1
      rw [d.1, d.2]
      exact he rc
    · show f rc 1 (nI j) = _
      rw [hs rc j (by omega)]
      refine ih (n - 1) _ _ (by omega) ⟨j + 1, by omega, rfl, ?_⟩
      show bI (c j) = bI (b && (allB c j && c j))
      rw [d.1, d.2]
      rfl
/-- a loop that goes on till something is found -/
theorem any_loop {ρ : Type} {f : (Int32 → Int32 → Option ρ) → Int32 → Int32 → Option ρ} {N : Nat} (hN : N < fuel) (kx : Int32 → Option ρ) (c : Nat → Bool)
    (h0 : ∀ rc w, f rc 1 w = kx 1) (hs : ∀ rc w, w < N → f rc 0 (nI w) = rc (bI (c w)) (nI (w + 1))) (he : ∀ rc, f rc 0 (nI N) = kx 0) : it2 f fuel (0 : Int32) (0 : Int32) = kx (bI (anyB c N)) := by
  refine it2_ind (f := f) (P := fun n v w => ∃ j, j + n = N ∧ w = nI j ∧ v = bI (anyB c j)) (Q := fun o => o = kx (bI (anyB c N))) ?_ fuel N (0 : Int32) (0 : Int32) hN ⟨0, by omega, rfl, rfl⟩
  rintro n v w rc ⟨j, hj, rfl, rfl⟩ ih
  have mono : ∀ d, anyB c j = true → anyB c (j + d) = true := fun d h => by
    induction d with
    | zero => exact h
    | succ d ih => show (anyB c (j + d) || c (j + d)) = true; rw [ih]; rfl
  cases d : anyB c j
  · by_cases c1 : j = N
    · subst c1
      rw [d]
      exact he rc
    · show f rc 0 (nI j) = _
      rw [hs rc j (by omega)]
      refine ih (n - 1) _ _ (by omega) ⟨j + 1, by omega, rfl, ?_⟩
      show bI (c j) = bI (anyB c j || c j)
      rw [d, Bool.false_or]
  · have e : anyB c N = true := by
      have := mono n d
      rw [hj] at this
      exact this
    rw [e]
    exact h0 rc (nI j)
theorem gb_b {b : Bool} {ρ : Type} {k : Option ρ} : gb (bI b) k = k := gb_ok (bI_01 b)
/-! a set of roads within another, as masks and as places -/
theorem sbs_mir {p q : Nat} (hp : p < 4096) (hq : q < 4096) : sbs (mir p) (mir q) ↔ sbs p q := by
  have a : ∀ p q, p < 4096 → q < 4096 → sbs p q → sbs (mir p) (mir q) := fun p q hp hq h i hi => by
    rcases Nat.lt_or_ge i 12 with c | c
    · rw [mir_tb hp c] at hi
      rw [mir_tb hq c]
      exact h _ hi
    · rw [tb_hi (mir_lt hp) c] at hi; exact absurd hi (by decide)
  constructor
  · intro h
    have := a _ _ (mir_lt hp) (mir_lt hq) h
    rwa [mir_mir hp, mir_mir hq] at this
  · exact a p q hp hq
theorem mir_inj {p q : Nat} (hp : p < 4096) (hq : q < 4096) (h : mir p = mir q) : p = q := by
  rw [← mir_mir hp, h, mir_mir hq]
section THIN
variable {τ : RS} {F f : Nat} {W : Nat → Nat → Bool}
theorem isThin_n (h : RW_ τ F W) (hF : F ≤ 30) (hf : f < F) {m : Nat} (hm : m < 4096) (L : Bool) : Rm_isThin τ (nI f) (nI m) (bI L) = some (bI (W f m && allB (fun w => decide (w = m) || !W f w || !cD (if L = true then sbs w m else sbs m w)) 4096)) := by
  unfold Rm_isThin
  rw [isWay_n h hF hf hm, b1_s]
  refine (all_loop (f := Rs_isThin_11 (nI f) (nI m) (bI L) τ (fun u_12 => gb u_12 (some u_12))) (N := 4096) (by unfold fuel; omega) (fun u_12 => gb u_12 (some u_12)) (fun w => decide (w = m) || !W f w || !cD (if L = true then sbs w m else sbs m w)) (fun rc w => by unfold Rs_isThin_11; rw [if_pos rfl]) (fun rc w hw => ?_) (fun rc => by unfold Rs_isThin_11; rw [if_neg (by decide), if_pos (show (4096 : Int32) ≤ nI 4096 by decide)]) (W f m)).trans gb_b
  unfold Rs_isThin_11
  rw [if_neg (by decide), if_neg (show ¬ (4096 : Int32) ≤ nI w from nI_ge (b := 4096) (by omega) (by decide)), pl1]
  by_cases c : w = m
  · rw [if_pos (by rw [c]), decide_eq_true c]; rfl
  · rw [if_neg (fun q => c ((nI_eq (by omega) (by omega)).mp q)), decide_eq_false c, Bool.false_or, isWay_n h hF hf hw, b1_s]
    cases W f w
    · rw [if_pos (by rfl)]; rfl
    · rw [if_neg (by decide), Bool.not_true, Bool.false_or]
      cases L
      · rw [if_pos (by rfl), if_neg Bool.false_ne_true]
        by_cases d : sbs m w
        · rw [if_pos ((and_not_0 hm hw).mpr d), cD_t d]; rfl
        · rw [if_neg (fun q => d ((and_not_0 hm hw).mp q)), cD_f d]; rfl
      · rw [if_neg (by decide), if_pos rfl]
        by_cases d : sbs w m
        · rw [if_pos ((and_not_0 hw hm).mpr d), cD_t d]; rfl
        · rw [if_neg (fun q => d ((and_not_0 hw hm).mp q)), cD_f d]; rfl
/-- a set of roads that shares one with each way -/
def hits (V : Nat → Bool) (q : Nat) : Prop := ∀ p, p < 4096 → V p = true → ∃ i, p.testBit i = true ∧ q.testBit i = true
theorem hits_mono {V : Nat → Bool} {q q' : Nat} (h : hits V q) (hs : sbs q q') : hits V q' := fun p hp hv => by
  obtain ⟨i, h1, h2⟩ := h p hp hv
  exact ⟨i, h1, hs i h2⟩
theorem and_0 {a b : Nat} : (¬ ∃ i, a.testBit i = true ∧ b.testBit i = true) ↔ a &&& b = 0 := by
  constructor
  · intro h
    apply Nat.eq_of_testBit_eq
    intro i
    rw [Nat.testBit_and, Nat.zero_testBit]
    cases c : a.testBit i
    · rfl
    · cases d : b.testBit i
      · rfl
      · exact absurd ⟨i, c, d⟩ h
  · rintro h ⟨i, h1, h2⟩
    have := congrArg (fun x => x.testBit i) h
    simp only [Nat.testBit_and, h1, h2, Nat.zero_testBit] at this
    exact absurd this (by decide)
theorem meets_n (h : RW_ τ F W) (hF : F ≤ 30) (hf : f < F) {m : Nat} (hm : m < 4096) : Rm_meets τ (nI f) (nI m) = some (bI (cD (hits (W f) m))) := by
  have e : cD (hits (W f) m) = (true && allB (fun w => !W f w || !decide (w &&& m = 0)) 4096) := by
    rw [Bool.true_and]
    symm
    apply cD_eq
    rw [allB_iff]
    constructor
    · intro q p hp hv
      have := q p hp
      rw [hv, Bool.not_true, Bool.false_or, Bool.not_eq_true', decide_eq_false_iff_not] at this
      exact Classical.byContradiction fun c => this (and_0.mp c)
    · intro q w hw
      cases hv : W f w
      · rfl
      · rw [Bool.not_true, Bool.false_or, Bool.not_eq_true', decide_eq_false_iff_not]
        exact fun c => (and_0.mpr c) (q w hw hv)
  rw [e]
  unfold Rm_meets
  refine (all_loop (f := Rs_meets_5 (nI f) (nI m) τ (fun u_7 => gb u_7 (some u_7))) (N := 4096) (by unfold fuel; omega) (fun u_7 => gb u_7 (some u_7)) (fun w => !W f w || !decide (w &&& m = 0)) (fun rc w => by unfold Rs_meets_5; rw [if_pos rfl]) (fun rc w hw => ?_) (fun rc => by unfold Rs_meets_5; rw [if_neg (by decide), if_pos (show (4096 : Int32) ≤ nI 4096 by decide)]) true).trans gb_b
  unfold Rs_meets_5
  rw [if_neg (by decide), if_neg (show ¬ (4096 : Int32) ≤ nI w from nI_ge (b := 4096) (by omega) (by decide)), pl1, isWay_n h hF hf hw, b1_s, fa_and]
  have hlt : w &&& m < 4096 := Nat.lt_of_le_of_lt Nat.and_le_left hw
  cases W f w
  · rw [if_pos (by rfl)]; rfl
  · rw [if_neg (by decide), Bool.not_true, Bool.false_or]
    by_cases d : w &&& m = 0
    · rw [if_pos (by rw [d]; rfl), decide_eq_true d]; rfl
    · rw [if_neg (nI_ne0 (by omega) (by omega)), decide_eq_false d]; rfl
theorem clr12 {m r : Nat} (hm : m < 4096) (hr : r < 12) : nI m &&& (((1 : Int32) <<< (nI r &&& 31)) ^^^ (-1 : Int32)) = nI (if m.testBit r then m ^^^ 2 ^ r else m) := by
  have hb : ∀ x : Nat, ∀ i, bt (nI x) i = (decide (i < 32) && x.testBit i) := fun x i => by
    unfold bt; show (BitVec.ofNat 32 x).getLsbD i = _; rw [BitVec.getLsbD_ofNat]
  rw [shl1 (by omega)]
  apply b_ext
  intro i hi
  rw [b_and, b_xor, hb, hb, b_m1 i hi, decide_eq_true hi, Bool.true_and, Bool.true_and, Bool.xor_true, hb, decide_eq_true hi, Bool.true_and, Nat.testBit_two_pow]
  cases c : m.testBit r
  · rw [if_neg (by decide)]
    by_cases e : r = i
    · rw [← e, c]; rfl
    · rw [decide_eq_false e, Bool.not_false, Bool.and_true]
  · rw [if_pos rfl, fl_t]
    by_cases e : i = r
    · rw [if_pos e, decide_eq_true e.symm, e, c]; rfl
    · rw [if_neg e, decide_eq_false (fun q => e q.symm), Bool.not_false, Bool.and_true]
theorem leastM_n {P R : Nat} {ld eA eB od : Nat → Nat} {wt : Nat → Int32} (n1 : NW P R ld eA eB od wt) (n3 : RN τ P R ld eA eB od wt) (h : RW_ τ F W) (hF : F ≤ 30) (hf : f < F) {m : Nat} (hm : m < 4096) : Rm_isLeastMeeting τ (nI f) (nI m) = some (bI (cD (hits (W f) m ∧ ∀ r, r < R → m.testBit r = true → ¬ hits (W f) (m ^^^ 2 ^ r)))) := by
  have hR := n1.2.1
  have e : cD (hits (W f) m ∧ ∀ r, r < R → m.testBit r = true → ¬ hits (W f) (m ^^^ 2 ^ r)) = (cD (hits (W f) m) && allB (fun r => !m.testBit r || !cD (hits (W f) (m ^^^ 2 ^ r))) R) := by
    symm
    apply cD_eq
    rw [Bool.and_eq_true, cD_iff, allB_iff]
    refine and_congr Iff.rfl (forall_congr' fun r => forall_congr' fun hr => ?_)
    cases m.testBit r
    · exact ⟨fun _ q => absurd q (by decide), fun _ => rfl⟩
    · rw [Bool.not_true, Bool.false_or, Bool.not_eq_true']
      constructor
      · intro q _ c
        rw [cD_t c] at q
        exact absurd q (by decide)
      · intro q
        exact cD_f (q rfl)
  rw [e]
  unfold Rm_isLeastMeeting
  rw [meets_n h hF hf hm, b1_s]
  refine (all_loop (f := Rs_isLeastMeeting_10 (nI f) (nI m) τ (fun u_9 => gb u_9 (some u_9))) (N := R) (by unfold fuel; omega) (fun u_9 => gb u_9 (some u_9)) (fun r => !m.testBit r || !cD (hits (W f) (m ^^^ 2 ^ r))) (fun rc w => by unfold Rs_isLeastMeeting_10; rw [if_pos rfl]) (fun rc r hr => ?_) (fun rc => by unfold Rs_isLeastMeeting_10; rw [if_neg (by decide), n3.2.1, if_pos (nI_le (Nat.le_refl _) (by omega))]) (cD (hits (W f) m))).trans gb_b
  unfold Rs_isLeastMeeting_10
  rw [if_neg (by decide), n3.2.1, if_neg (nI_ge hr (by omega)), rholds_n (by omega) (by omega), pl1, clr12 hm (by omega)]
  cases c : m.testBit r
  · rw [if_pos (by rfl)]; rfl
  · rw [if_neg (by decide), if_pos rfl, meets_n h hF hf (fl12 hm (by omega)), b1_s, Bool.not_true, Bool.false_or]
    cases cD (hits (W f) (m ^^^ 2 ^ r)) <;> rfl
end THIN
theorem hits_mir {V : Nat → Bool} {q : Nat} (hq : q < 4096) : hits V (mir q) ↔ hits (fun p => V (mir p)) q := by
  constructor
  · intro h p hp hv
    obtain ⟨i, h1, h2⟩ := h (mir p) (mir_lt hp) hv
    rcases Nat.lt_or_ge i 12 with c | c
    · rw [mir_tb hp c] at h1
      rw [mir_tb hq c] at h2
      exact ⟨_, h1, h2⟩
    · rw [tb_hi (mir_lt hp) c] at h1; exact absurd h1 (by decide)
  · intro h p hp hv
    obtain ⟨i, h1, h2⟩ := h (mir p) (mir_lt hp) (by show V (mir (mir p)) = true; rw [mir_mir hp]; exact hv)
    rcases Nat.lt_or_ge i 12 with c | c
    · rw [mir_tb hp c] at h1
      exact ⟨11 - i, h1, by rw [mir_tb hq (by omega), show 11 - (11 - i) = i by omega]; exact h2⟩
    · rw [tb_hi (mir_lt hp) c] at h1; exact absurd h1 (by decide)
/-- the sets without the lowest b levels that hit all -/
theorem compl_b {p i : Nat} (hp : p < 4096) : (4095 - p).testBit i = (decide (i < 12) && !p.testBit i) := by
  rw [show 4095 - p = 2 ^ 12 - (p + 1) by omega]
  exact Nat.testBit_two_pow_sub_succ (n := 12) hp i
theorem shr4096 : ∀ b, b ≤ 12 → (4096 : Int32) >>> (nI b &&& 31) = nI (2 ^ (12 - b)) := by decide +kernel
theorem mul_tb (n b i : Nat) : (n * 2 ^ b).testBit i = (decide (b ≤ i) && n.testBit (i - b)) := by
  rw [← Nat.shiftLeft_eq, Nat.testBit_shiftLeft]
theorem low_of {p b : Nat} (hb : ∀ i, i < b → p.testBit i = false) : p = p / 2 ^ b * 2 ^ b := by
  apply Nat.eq_of_testBit_eq
  intro i
  rw [mul_tb, Nat.testBit_div_two_pow]
  by_cases c : b ≤ i
  · rw [decide_eq_true c, Bool.true_and, Nat.sub_add_cancel c]
  · rw [decide_eq_false c, Bool.false_and, hb i (by omega)]
theorem hitting_n {σ : DS} {k f r : Nat} (h1 : k ≠ f) (h2 : r ≠ f) (h3 : r ≠ k) : ∃ σ' b, D7m_takeHitting k σ f r = some σ' ∧ dK_ (fun c => c = 79 + k ∨ c = 79 + r) σ σ' ∧ b ≤ 12 ∧ (∀ i, i < b → ∀ p, p < 4096 → wb σ f p = true → p.testBit i = false) ∧ ∀ q, q < 4096 → (wb σ' k q = true ↔ (∀ i, i < b → q.testBit i = false) ∧ hits (wb σ f) q) := by
  obtain ⟨σ1, e1, k1, w1⟩ := copy_n (σ := σ) (k := r) (a := f)
  obtain ⟨σ2, e2, k2, w2⟩ := up_n (σ := σ1) (k := r)
  obtain ⟨u, e4, hu, hub⟩ := used_n (σ := jFill σ2 (79 + k) 64 (fun _ => 0)) (k := f)
  obtain ⟨b, hb, e5, hb0, -⟩ := below_n hu
  have oldf : ∀ p, p < 4096 → wb (jFill σ2 (79 + k) 64 (fun _ => 0)) f p = wb σ f p := fun p hp => by
    rw [wb_jo (fun e => h1 e.symm), wb_dK k2 (by omega), wb_dK k1 (by omega)]
  have hx : ∀ q, q < 4096 → (wb (jFill σ2 (79 + k) 64 (fun _ => 0)) r (4095 - q) = false ↔ hits (wb σ f) q) := fun q hq => by
    rw [wb_jo h3, ← Bool.not_eq_true, w2 _ (by omega)]
    constructor
    · intro h p hp hv
      apply Classical.byContradiction
      intro hn
      refine h ⟨p, hp, fun i hi => ?_, by rw [w1 p hp]; exact hv⟩
      rw [compl_b hq]
      rcases Nat.lt_or_ge i 12 with c | c
      · rw [decide_eq_true c, Bool.true_and]
        cases d : q.testBit i
        · rfl
        · exact absurd ⟨i, hi, d⟩ hn
      · rw [tb_hi hp c] at hi; exact absurd hi (by decide)
    · rintro h ⟨p, hp, hs, hv⟩
      rw [w1 p hp] at hv
      obtain ⟨i, i1, i2⟩ := h p hp hv
      have := hs i i1
      rw [compl_b hq, i2, Bool.not_true, Bool.and_false] at this
      exact absurd this (by decide)
  have lp : ∃ σ', it2 (D7s_takeHitting_28 k r (nI b) (fun τ_17 => some τ_17)) fuel (0 : Int32) (jFill σ2 (79 + k) 64 (fun _ => 0)) = some σ' ∧ dK_ (fun c => c = 79 + k) (jFill σ2 (79 + k) 64 (fun _ => 0)) σ' ∧ ∀ q, q < 4096 → (wb σ' k q = true ↔ ∃ n, n < 2 ^ (12 - b) ∧ q = n * 2 ^ b ∧ hits (wb σ f) q) := by
    have hpw : 2 ^ (12 - b) * 2 ^ b = 4096 := by rw [← Nat.pow_add, Nat.sub_add_cancel hb]
    refine it2_ind (f := D7s_takeHitting_28 k r (nI b) (fun τ_17 => some τ_17)) (P := fun n v s => ∃ j, j + n = 2 ^ (12 - b) ∧ v = nI j ∧ dK_ (fun c => c = 79 + k) (jFill σ2 (79 + k) 64 (fun _ => 0)) s ∧ ∀ q, q < 4096 → (wb s k q = true ↔ ∃ n, n < j ∧ q = n * 2 ^ b ∧ hits (wb σ f) q)) (Q := fun o => ∃ σ', o = some σ' ∧ dK_ (fun c => c = 79 + k) (jFill σ2 (79 + k) 64 (fun _ => 0)) σ' ∧ ∀ q, q < 4096 → (wb σ' k q = true ↔ ∃ n, n < 2 ^ (12 - b) ∧ q = n * 2 ^ b ∧ hits (wb σ f) q)) ?_ fuel (2 ^ (12 - b)) (0 : Int32) _ (by have := p2R (R := 12 - b) (by omega); unfold fuel; omega) ⟨0, by omega, rfl, dK_.rf, fun q hq => ?_⟩
    · rintro n v s rc ⟨j, hj, rfl, k3, w3⟩ ih
      have hp2 := p2R (R := 12 - b) (by omega)
      unfold D7s_takeHitting_28
      rw [shr4096 b hb]
      by_cases c : j = 2 ^ (12 - b)
      · rw [if_pos (by rw [c]; exact nI_le (Nat.le_refl _) (by omega))]
        exact ⟨s, rfl, k3, fun q hq => by rw [w3 q hq, c]⟩
      · have hjb : j * 2 ^ b + 2 ^ b ≤ 4096 := by
          rw [← hpw, ← Nat.succ_mul]
          exact Nat.mul_le_mul_right _ (by omega)
        have hb1 : 0 < 2 ^ b := Nat.two_pow_pos b
        have hlt : j * 2 ^ b < 4096 := by omega
        have h4 : (4095 : Int32) - nI (j * 2 ^ b) = nI (4095 - j * 2 ^ b) := pk_sub (a := 4095) (by omega)
        rw [if_neg (nI_ge (by omega) (by omega)), shl_n (by omega) (by omega), h4, holds_n (by omega), b1_s, pl1, wb_dK k3 (by omega)]
        have hxx := hx (j * 2 ^ b) hlt
        have upd : ∀ q, ((∃ n, n < j + 1 ∧ q = n * 2 ^ b ∧ hits (wb σ f) q) ↔ (q = j * 2 ^ b ∧ hits (wb σ f) q) ∨ ∃ n, n < j ∧ q = n * 2 ^ b ∧ hits (wb σ f) q) := fun q => by
          constructor
          · rintro ⟨n, a1, a2, a3⟩
            by_cases e : n = j
            · subst e; exact Or.inl ⟨a2, a3⟩
            · exact Or.inr ⟨n, by omega, a2, a3⟩
          · rintro (⟨a2, a3⟩ | ⟨n, a1, a2, a3⟩)
            · exact ⟨j, by omega, a2, a3⟩
            · exact ⟨n, by omega, a2, a3⟩
        cases d : wb (jFill σ2 (79 + k) 64 (fun _ => 0)) r (4095 - j * 2 ^ b)
        · rw [if_pos (by rfl)]
          obtain ⟨s', e6, k6, w6⟩ := put_n (σ := s) (k := k) hlt
          rw [e6, b1_s]
          refine ih (n - 1) _ _ (by omega) ⟨j + 1, by omega, rfl, k3.tr k6, fun q hq => ?_⟩
          rw [w6 q hq, Bool.or_eq_true, decide_eq_true_eq, w3 q hq, upd]
          refine or_congr ⟨fun e => ⟨e, by rw [e]; exact hxx.mp d⟩, fun e => e.1⟩ Iff.rfl
        · rw [if_neg (by decide)]
          refine ih (n - 1) _ _ (by omega) ⟨j + 1, by omega, rfl, k3, fun q hq => ?_⟩
          rw [w3 q hq, upd]
          constructor
          · exact Or.inr
          · rintro (⟨a2, a3⟩ | a)
            · rw [a2] at a3
              rw [hxx.mpr a3] at d
              exact absurd d (by decide)
            · exact a
    · rw [wb_jf hq, bL_0]
      exact ⟨fun q => absurd q (by decide), fun ⟨n, a, _⟩ => absurd a (Nat.not_lt_zero n)⟩
  obtain ⟨σ', e6, k6, w6⟩ := lp
  refine ⟨σ', b, ?_, ?_, hb, fun i hi p hp hv => ?_, fun q hq => ?_⟩
  · unfold D7m_takeHitting
    rw [e1, b1_s, e2, b1_s, fillJ (by omega), b1_s, e4, b1_s, e5, b1_s, e6]
  · exact (((k1.mo (fun c hc => Or.inr hc)).tr (k2.mo (fun c hc => Or.inr hc))).tr (dK_JF (C := fun c => c = 79 + k ∨ c = 79 + r) (Or.inl rfl))).tr (k6.mo (fun c hc => Or.inl hc))
  · cases d : p.testBit i
    · rfl
    · have := (hub i (by omega)).mpr ⟨p, hp, by rw [oldf p hp]; exact hv, d⟩
      rw [hb0 i hi] at this
      exact absurd this (by decide)
  · rw [w6 q hq]
    constructor
    · rintro ⟨n, a1, a2, a3⟩
      refine ⟨fun i hi => ?_, a3⟩
      rw [a2, mul_tb, decide_eq_false (by omega), Bool.false_and]
    · rintro ⟨a1, a2⟩
      refine ⟨q / 2 ^ b, ?_, low_of a1, a2⟩
      apply (Nat.div_lt_iff_lt_mul (Nat.two_pow_pos _)).mpr
      rw [← Nat.pow_add, Nat.sub_add_cancel hb]
      exact hq
/-- taking one road out leaves what a way without it needs -/
theorem hits_less {V : Nat → Bool} {q l : Nat} (h : hits V q) (hl : ∀ p, p < 4096 → V p = true → p.testBit l = false) : hits V (q ^^^ 2 ^ l) := fun p hp hv => by
  obtain ⟨i, h1, h2⟩ := h p hp hv
  refine ⟨i, h1, ?_⟩
  rw [fl_t, if_neg (fun e => by rw [e, hl p hp hv] at h1; exact absurd h1 (by decide))]
  exact h2
theorem sbs_less {q l : Nat} (h : q.testBit l = true) : sbs (q ^^^ 2 ^ l) q := fun i hi => by
  rw [fl_t] at hi
  by_cases e : i = l
  · rw [e]; exact h
  · rw [if_neg e] at hi; exact hi
theorem lt_2R {m R : Nat} (hm : m < 4096) (hR : R ≤ 12) : m < 2 ^ R ↔ ∀ i, i < 12 → R ≤ i → m.testBit i = false := by
  constructor
  · intro h i _ hi
    exact Nat.testBit_lt_two_pow (Nat.lt_of_lt_of_le h (Nat.pow_le_pow_right (by decide) hi))
  · intro h
    apply Nat.lt_pow_two_of_testBit
    intro i hi
    rcases Nat.lt_or_ge i 12 with c | c
    · exact h i c hi
    · exact tb_hi hm c
/-- the least hitting sets, both ways -/
theorem least_hit {V : Nat → Bool} {b R q : Nat} (hR : R ≤ 12) (hq : q < 4096) (hV : ∀ p, p < 4096 → V p = true → mir p < 2 ^ R) (hb : ∀ i, i < b → ∀ p, p < 4096 → V p = true → p.testBit i = false) :
    (((∀ i, i < b → q.testBit i = false) ∧ hits V q) ∧ ∀ p, p < 4096 → sbs p q → ((∀ i, i < b → p.testBit i = false) ∧ hits V p) → p = q) ↔ (mir q < 2 ^ R ∧ hits V q ∧ ∀ r, r < R → (mir q).testBit r = true → ¬ hits V (q ^^^ 2 ^ (11 - r))) := by
  have ne : ∀ l, q ^^^ 2 ^ l ≠ q := fun l e => by
    have := congrArg (fun x => x.testBit l) e
    simp only [fl_t, if_true] at this
    cases h : q.testBit l <;> rw [h] at this <;> exact absurd this (by decide)
  constructor
  · rintro ⟨⟨h1, h2⟩, h3⟩
    have cut : ∀ l, l < 12 → q.testBit l = true → ¬ hits V (q ^^^ 2 ^ l) := fun l hl hql hh => by
      refine ne l (h3 _ (fl12 hq hl) (sbs_less hql) ⟨fun i hi => ?_, hh⟩)
      rw [fl_t]
      by_cases e : i = l
      · rw [← e, h1 i hi] at hql; exact absurd hql (by decide)
      · rw [if_neg e]; exact h1 i hi
    refine ⟨(lt_2R (mir_lt hq) hR).mpr (fun i hi hRi => ?_), h2, fun r hr hm => ?_⟩
    · rw [mir_tb hq hi]
      cases d : q.testBit (11 - i)
      · rfl
      · refine absurd (hits_less h2 (fun p hp hv => ?_)) (cut (11 - i) (by omega) d)
        have := (lt_2R (mir_lt hp) hR).mp (hV p hp hv) i hi hRi
        rw [mir_tb hp hi] at this
        exact this
    · rw [mir_tb hq (by omega)] at hm
      exact cut (11 - r) (by omega) hm
  · rintro ⟨h1, h2, h3⟩
    have cut : ∀ l, l < 12 → q.testBit l = true → ¬ hits V (q ^^^ 2 ^ l) := fun l hl hql => by
      have hb2 : (mir q).testBit (11 - l) = true := by rw [mir_tb hq (by omega), show 11 - (11 - l) = l by omega]; exact hql
      have hlr : 11 - l < R := by
        rcases Nat.lt_or_ge (11 - l) R with c | c
        · exact c
        · rw [(lt_2R (mir_lt hq) hR).mp h1 (11 - l) (by omega) c] at hb2
          exact absurd hb2 (by decide)
      have := h3 (11 - l) hlr hb2
      rwa [show 11 - (11 - l) = l by omega] at this
    refine ⟨⟨fun i hi => ?_, h2⟩, fun p hp hs hh => ?_⟩
    · cases d : q.testBit i
      · rfl
      · rcases Nat.lt_or_ge i 12 with c | c
        · exact absurd (hits_less h2 (hb i hi)) (cut i c d)
        · rw [tb_hi hq c] at d; exact absurd d (by decide)
    · refine Classical.byContradiction fun hne => ?_
      obtain ⟨l, hl, hql, hsl⟩ := (sbs_one hp hq).mpr ⟨hs, hne⟩
      exact cut l hl hql (hits_mono hh.2 hsl)

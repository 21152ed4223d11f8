/-! ===== the subsets of a set, one after the other; f OVER g ===== -/
theorem sbs_le {p q : Nat} (h : sbs p q) : p ≤ q := by
  have e : p &&& q = p := Nat.eq_of_testBit_eq fun i => by
    rw [Nat.testBit_and]
    cases c : p.testBit i
    · rfl
    · rw [h i c]; rfl
  rw [← e]
  exact Nat.and_le_right
theorem sub_tb : ∀ (i p q : Nat), sbs p q → (q - p).testBit i = (q.testBit i && !p.testBit i)
  | 0, p, q, h => by
    have hle := sbs_le h
    have h0 := h 0
    rw [Nat.testBit_zero, Nat.testBit_zero] at h0
    rw [Nat.testBit_zero, Nat.testBit_zero, Nat.testBit_zero]
    rcases Nat.mod_two_eq_zero_or_one p with a | a <;> rcases Nat.mod_two_eq_zero_or_one q with b | b
    · rw [decide_eq_false (by omega), decide_eq_false (by omega : ¬ q % 2 = 1)]; rfl
    · rw [decide_eq_true (by omega), decide_eq_true b, decide_eq_false (by omega : ¬ p % 2 = 1)]; rfl
    · have := h0 (decide_eq_true a)
      rw [decide_eq_true_eq] at this
      omega
    · rw [decide_eq_false (by omega), decide_eq_true b, decide_eq_true a]; rfl
  | i + 1, p, q, h => by
    have hle := sbs_le h
    have h0 := h 0
    rw [Nat.testBit_zero, Nat.testBit_zero, decide_eq_true_eq, decide_eq_true_eq] at h0
    have h2 : sbs (p / 2) (q / 2) := fun j hj => by
      rw [← Nat.testBit_succ] at hj ⊢
      exact h _ hj
    rw [Nat.testBit_succ, Nat.testBit_succ, Nat.testBit_succ, ← sub_tb i (p / 2) (q / 2) h2]
    congr 1
    rcases Nat.mod_two_eq_zero_or_one p with a | a <;> rcases Nat.mod_two_eq_zero_or_one q with b | b <;> omega
theorem lt_tb : ∀ (y x : Nat), x < y → ∃ i, x.testBit i = false ∧ y.testBit i = true ∧ ∀ j, i < j → x.testBit j = y.testBit j := by
  intro y
  induction y using Nat.strongRecOn with
  | ind y ih =>
    intro x hx
    by_cases c : x / 2 < y / 2
    · obtain ⟨i, a1, a2, a3⟩ := ih (y / 2) (by omega) (x / 2) c
      refine ⟨i + 1, by rw [Nat.testBit_succ]; exact a1, by rw [Nat.testBit_succ]; exact a2, fun j hj => ?_⟩
      obtain ⟨j, rfl⟩ : ∃ k, j = k + 1 := ⟨j - 1, by omega⟩
      rw [Nat.testBit_succ, Nat.testBit_succ]
      exact a3 j (by omega)
    · have e : x / 2 = y / 2 := by omega
      refine ⟨0, by rw [Nat.testBit_zero]; exact decide_eq_false (by omega), by rw [Nat.testBit_zero]; exact decide_eq_true (by omega), fun j hj => ?_⟩
      obtain ⟨j, rfl⟩ : ∃ k, j = k + 1 := ⟨j - 1, by omega⟩
      rw [Nat.testBit_succ, Nat.testBit_succ, e]
theorem tb_lt {x y : Nat} (i : Nat) (h1 : x.testBit i = false) (h2 : y.testBit i = true) (h3 : ∀ j, i < j → x.testBit j = y.testBit j) : x < y := by
  rcases Nat.lt_trichotomy x y with c | c | c
  · exact c
  · rw [c, h2] at h1; exact absurd h1 (by decide)
  · obtain ⟨j, j1, j2, j3⟩ := lt_tb _ _ c
    rcases Nat.lt_trichotomy i j with d | d | d
    · rw [h3 j d, j1] at j2; exact absurd j2 (by decide)
    · rw [← d, h2] at j1; exact absurd j1 (by decide)
    · rw [← j3 i d, h2] at h1; exact absurd h1 (by decide)
theorem pred_tb {d l : Nat} (h1 : d.testBit l = true) (h2 : ∀ i, i < l → d.testBit i = false) (i : Nat) : (d - 1).testBit i = (decide (i < l) || (decide (l < i) && d.testBit i)) := by
  have e := low_of h2
  have ho : d / 2 ^ l % 2 = 1 := by
    have : (d / 2 ^ l).testBit 0 = true := by rw [Nat.testBit_div_two_pow, Nat.zero_add]; exact h1
    rw [Nat.testBit_zero, decide_eq_true_eq] at this
    exact this
  have hp : 0 < 2 ^ l := Nat.two_pow_pos l
  obtain ⟨k, hk⟩ : ∃ k, d / 2 ^ l = 2 * k + 1 := ⟨d / 2 ^ l / 2, by omega⟩
  have ed : d = 2 ^ l * (2 * k) + 2 ^ l := by
    rw [hk] at e
    rw [e, Nat.add_mul, Nat.one_mul, Nat.mul_comm]
  have e1 : d - 1 = 2 ^ l * (2 * k) + (2 ^ l - 1) := by omega
  rw [e1, Nat.testBit_two_pow_mul_add _ (by omega)]
  by_cases c : i < l
  · rw [if_pos c, Nat.testBit_two_pow_sub_one, decide_eq_true c]; rfl
  · rw [if_neg c, decide_eq_false c, Bool.false_or]
    by_cases c2 : i = l
    · rw [c2, Nat.sub_self, Nat.testBit_zero, decide_eq_false (by omega), decide_eq_false (by omega)]; rfl
    · rw [decide_eq_true (by omega), Bool.true_and]
      have e2 : d = 2 ^ l * (2 * k + 1) + 0 := by rw [ed, Nat.mul_add, Nat.mul_one]; rfl
      rw [e2, Nat.testBit_two_pow_mul_add _ hp, if_neg c]
      obtain ⟨j, hj⟩ : ∃ j, i - l = j + 1 := ⟨i - l - 1, by omega⟩
      rw [hj, Nat.testBit_succ, Nat.testBit_succ]
      congr 1
      omega
theorem sub_nI {p q : Nat} (h : p ≤ q) (hq : q < 4096) : nI p - nI q = nI (2 ^ 32 - (q - p)) := by
  apply Int32.toBitVec_inj.mp
  apply BitVec.eq_of_toNat_eq
  rw [Int32.toBitVec_sub, BitVec.toNat_sub]
  show (2 ^ 32 - (BitVec.ofNat 32 q).toNat + (BitVec.ofNat 32 p).toNat) % 2 ^ 32 = (BitVec.ofNat 32 (2 ^ 32 - (q - p))).toNat
  rw [BitVec.toNat_ofNat, BitVec.toNat_ofNat, BitVec.toNat_ofNat]
  omega
noncomputable def sB (fr x : Nat) : Bool := cD (sbs x fr)
theorem next_n {p fr : Nat} (hp : sbs p fr) (hf : fr < 4096) (hne : p ≠ fr) : ∃ p', D7m_nextWithin (nI p) (nI fr) = nI p' ∧ p < p' ∧ p' < 4096 ∧ sbs p' fr ∧ ∀ x, p < x → sbs x fr → p' ≤ x := by
  have hle := sbs_le hp
  have hd := sub_tb
  obtain ⟨l, hl1, hl2⟩ := pk_least (fun l => (fr - p).testBit l = true) (Nat.exists_testBit_of_ne_zero (by omega))
  have hl3 : ∀ i, i < l → (fr - p).testBit i = false := fun i hi => Bool.eq_false_iff.mpr (hl2 i hi)
  have hl1' := hl1
  rw [sub_tb l p fr hp, Bool.and_eq_true, Bool.not_eq_true'] at hl1'
  have hbits : ∀ i, ((2 ^ 32 - (fr - p)) &&& fr).testBit i = if i < l then false else if i = l then true else p.testBit i := fun i => by
    rw [Nat.testBit_and, show 2 ^ 32 - (fr - p) = 2 ^ 32 - ((fr - p - 1) + 1) by omega, Nat.testBit_two_pow_sub_succ (by omega), pred_tb hl1 hl3]
    by_cases c : i < l
    · rw [if_pos c, decide_eq_true c, Bool.true_or, Bool.not_true, Bool.and_false, Bool.false_and]
    · rw [if_neg c, decide_eq_false c, Bool.false_or]
      by_cases c2 : i = l
      · rw [if_pos c2, c2, decide_eq_false (Nat.lt_irrefl l), Bool.false_and, Bool.not_false, Bool.and_true, hl1'.1, Bool.and_true]
        have : l < 12 := by
          rcases Nat.lt_or_ge l 12 with q | q
          · exact q
          · rw [tb_hi hf q] at hl1'; exact absurd hl1'.1 (by decide)
        exact decide_eq_true (by omega)
      · rw [if_neg c2, decide_eq_true (show l < i by omega), Bool.true_and, sub_tb i p fr hp]
        rcases Nat.lt_or_ge i 12 with q | q
        · rw [decide_eq_true (by omega), Bool.true_and]
          cases a : p.testBit i
          · cases fr.testBit i <;> rfl
          · rw [hp i a]; rfl
        · rw [tb_hi hf q, Bool.and_false]
          cases a : p.testBit i
          · rfl
          · have := hp i a
            rw [tb_hi hf q] at this
            exact absurd this (by decide)
  have hlt : p < (2 ^ 32 - (fr - p)) &&& fr := tb_lt l hl1'.2 (by rw [hbits, if_neg (Nat.lt_irrefl l), if_pos rfl]) (fun j hj => by rw [hbits, if_neg (by omega), if_neg (by omega)])
  refine ⟨(2 ^ 32 - (fr - p)) &&& fr, ?_, hlt, Nat.lt_of_le_of_lt Nat.and_le_right hf, fun i hi => ?_, fun x hx hs => ?_⟩
  · unfold D7m_nextWithin
    rw [sub_nI hle hf, fa_and]
  · rw [Nat.testBit_and, Bool.and_eq_true] at hi
    exact hi.2
  · rcases Nat.lt_or_ge x ((2 ^ 32 - (fr - p)) &&& fr) with q | q
    · exfalso
      obtain ⟨i, i1, i2, i3⟩ := lt_tb _ _ hx
      obtain ⟨j, j1, j2, j3⟩ := lt_tb _ _ q
      have hil : l ≤ i := by
        rcases Nat.lt_or_ge i l with c | c
        · have := hl3 i c
          rw [sub_tb i p fr hp, hs i i2, i1] at this
          exact absurd this (by decide)
        · exact c
      have hjl : l ≤ j := by
        rcases Nat.lt_or_ge j l with c | c
        · rw [hbits, if_pos c] at j2
          exact absurd j2 (by decide)
        · exact c
      rcases Nat.lt_trichotomy i j with c | c | c
      · have a := i3 j c
        rw [j1, show p.testBit j = ((2 ^ 32 - (fr - p)) &&& fr).testBit j by rw [hbits, if_neg (by omega), if_neg (by omega)], j2] at a
        exact absurd a (by decide)
      · rw [c, j1] at i2
        exact absurd i2 (by decide)
      · have a := j3 i c
        rw [i2, hbits, if_neg (by omega), if_neg (by omega), i1] at a
        exact absurd a (by decide)
    · exact q
theorem next_0 {fr : Nat} : D7m_nextWithin (nI fr) (nI fr) = 0 := by
  unfold D7m_nextWithin
  rw [Int32.sub_self]
  exact Int32.zero_and
theorem tb_top {l i : Nat} (h : i < 2 ^ l) (j : Nat) : (2 ^ l + i).testBit j = (decide (j = l) || i.testBit j) := by
  rw [show 2 ^ l + i = 2 ^ l * 1 + i by omega, Nat.testBit_two_pow_mul_add _ h]
  by_cases c : j < l
  · rw [if_pos c, decide_eq_false (by omega), Bool.false_or]
  · rw [if_neg c, show (1 : Nat) = 2 ^ 0 from rfl, Nat.testBit_two_pow, show i.testBit j = false from Nat.testBit_lt_two_pow (Nat.lt_of_lt_of_le h (Nat.pow_le_pow_right (by decide) (by omega))), Bool.or_false]
    exact decide_eq_decide.mpr (by omega)
theorem ct_sub (fr : Nat) : ∀ l, fb_ct (sB fr) (2 ^ l) = 2 ^ fb_ct (fun i => fr.testBit i) l
  | 0 => by
    show fb_ct (sB fr) 1 = 1
    rw [fb_ct_succ]
    unfold sB
    rw [cD_t (p := sbs 0 fr) (fun i hi => by rw [Nat.zero_testBit] at hi; exact absurd hi (by decide))]
    rfl
  | l + 1 => by
    rw [Nat.pow_succ, Nat.mul_two, ct_add, ct_sub fr l, fb_ct_succ]
    have hs : ∀ i, i < 2 ^ l → sB fr (2 ^ l + i) = (fr.testBit l && sB fr i) := fun i hi => by
      unfold sB
      symm
      apply cD_eq
      rw [Bool.and_eq_true, cD_iff]
      constructor
      · rintro ⟨a, b⟩ j hj
        rw [tb_top hi, Bool.or_eq_true, decide_eq_true_eq] at hj
        rcases hj with rfl | hj
        · exact a
        · exact b j hj
      · intro a
        exact ⟨a l (by rw [tb_top hi, decide_eq_true rfl, Bool.true_or]), fun j hj => a j (by rw [tb_top hi, hj, Bool.or_true])⟩
    rw [fb_ct_cong hs]
    cases fr.testBit l
    · rw [if_neg (by decide), Nat.add_zero, fb_ct_zero.mpr (fun k _ => Bool.false_and _), Nat.add_zero]
    · rw [if_pos rfl, fb_ct_cong (q := sB fr) (fun k _ => Bool.true_and _), ct_sub fr l, Nat.pow_succ, Nat.mul_two]
theorem ct_sub12 {fr : Nat} (h : fr < 4096) : (1 : Int32) <<< ((J6m_bitCount_0f7a4 (nI fr)) &&& 31) = nI (fb_ct (sB fr) 4096) := by
  rw [pop12 fr h, shl1 (Nat.lt_of_le_of_lt (fb_ct_le _ 12) (by decide)), ← ct_sub fr 12]
/-- a loop over all subsets -/
theorem sub_loop {B ρ : Type} {f : (Int32 → Int32 → B → Option ρ) → Int32 → Int32 → B → Option ρ} {fr : Nat} (hfr : fr < 4096) (P : Nat → B → Prop) (Q : Option ρ → Prop)
    (hskip : ∀ p b, p < 4096 → ¬ sbs p fr → P p b → P (p + 1) b)
    (hstep : ∀ (p : Nat) (b : B) (rc : Int32 → Int32 → B → Option ρ), p < 4096 → sbs p fr → fb_ct (sB fr) p < fb_ct (sB fr) 4096 → P p b → (∀ b', P (p + 1) b' → Q (rc (D7m_nextWithin (nI p) (nI fr)) (nI (fb_ct (sB fr) p + 1)) b')) → Q (f rc (nI p) (nI (fb_ct (sB fr) p)) b))
    (hend : ∀ (v : Int32) (b : B) (rc : Int32 → Int32 → B → Option ρ), P 4096 b → Q (f rc v (nI (fb_ct (sB fr) 4096)) b)) {b : B} (h0 : P 0 b) : Q (it3 f fuel (0 : Int32) (0 : Int32) b) := by
  have skip : ∀ (d a : Nat) (b : B), a + d ≤ 4096 → (∀ x, a ≤ x → x < a + d → ¬ sbs x fr) → P a b → P (a + d) b ∧ fb_ct (sB fr) (a + d) = fb_ct (sB fr) a := by
    intro d
    induction d with
    | zero => intro a b _ _ h; exact ⟨h, rfl⟩
    | succ d ih =>
      intro a b had hx h
      obtain ⟨h1, h2⟩ := ih a b (by omega) (fun x h1 h2 => hx x h1 (by omega)) h
      have hn := hx (a + d) (by omega) (by omega)
      refine ⟨hskip (a + d) b (by omega) hn h1, ?_⟩
      rw [← Nat.add_assoc, fb_ct_succ, h2]
      unfold sB
      rw [cD_f hn]
      rfl
  refine it3_ind (f := f) (P := fun n v w b => (∃ p, p + n = 4096 ∧ 0 < n ∧ sbs p fr ∧ v = nI p ∧ w = nI (fb_ct (sB fr) p) ∧ P p b) ∨ (w = nI (fb_ct (sB fr) 4096) ∧ P 4096 b)) (Q := Q) ?_ fuel 4096 (0 : Int32) (0 : Int32) b (by unfold fuel; omega) (Or.inl ⟨0, rfl, by decide, fun i hi => by rw [Nat.zero_testBit] at hi; exact absurd hi (by decide), rfl, rfl, h0⟩)
  rintro n v w b rc (⟨p, hp, hn, hs, rfl, rfl, h⟩ | ⟨rfl, h⟩) ih
  · have hB : sB fr p = true := cD_t hs
    refine hstep p b rc (by omega) hs (ct_mono_lt (by omega) hB) h (fun b' hb' => ?_)
    have e1 : fb_ct (sB fr) (p + 1) = fb_ct (sB fr) p + 1 := by rw [fb_ct_succ, hB]; rfl
    by_cases c : p = fr
    · have := skip (4096 - (p + 1)) (p + 1) b' (by omega) (fun x h1 h2 hx => by have := sbs_le hx; omega) hb'
      rw [Nat.add_sub_cancel' (by omega)] at this
      refine ih 0 _ _ _ hn (Or.inr ⟨?_, this.1⟩)
      rw [this.2, e1]
    · obtain ⟨p', n1, n2, n3, n4, n5⟩ := next_n hs hfr c
      have := skip (p' - (p + 1)) (p + 1) b' (by omega) (fun x h1 h2 hx => by have := n5 x (by omega) hx; omega) hb'
      rw [Nat.add_sub_cancel' (by omega)] at this
      refine ih (4096 - p') _ _ _ (by omega) (Or.inl ⟨p', by omega, by omega, n4, n1, ?_, this.1⟩)
      rw [this.2, e1]
  · exact hend v b rc h
theorem free_n {u : Nat} (hu : u < 4096) : (4095 : Int32) &&& (nI u ^^^ (-1 : Int32)) = nI (4095 - u) := by
  have hb : ∀ x : Nat, ∀ i, bt (nI x) i = (decide (i < 32) && x.testBit i) := fun x i => by
    unfold bt; show (BitVec.ofNat 32 x).getLsbD i = _; rw [BitVec.getLsbD_ofNat]
  apply b_ext
  intro i hi
  rw [show (4095 : Int32) = nI 4095 from rfl, b_and, b_xor, hb, hb, hb, b_m1 i hi, decide_eq_true hi, Bool.true_and, Bool.true_and, Bool.true_and, Bool.xor_true, compl_b hu]
  rw [show (4095 : Nat) = 2 ^ 12 - 1 from rfl, Nat.testBit_two_pow_sub_one]
theorem over_n {σ : DS} {k f g : Nat} (h1 : k ≠ f) (h2 : k ≠ g) : ∃ σ', D7m_takeOver k σ f g = some σ' ∧ dK_ (fun c => c = 8 ∨ c = 79 + k) σ σ' ∧ ∀ x, x < 4096 → (wb σ' k x = true ↔ ∀ w, w < 4096 → wb σ g w = true → x &&& w = 0 ∧ wb σ f (x ||| w) = true) := by
  obtain ⟨u, e2, hu, hub⟩ := used_n (σ := jFill σ (79 + k) 64 (fun _ => 0)) (k := g)
  have oldg : ∀ p, wb (jFill σ (79 + k) 64 (fun _ => 0)) g p = wb σ g p := fun p => wb_jo (fun e => h2 e.symm)
  have hfr : 4095 - u < 4096 := by omega
  have hsub : ∀ x, x < 4096 → (sbs x (4095 - u) ↔ ∀ w, w < 4096 → wb σ g w = true → x &&& w = 0) := fun x hx => by
    constructor
    · intro h w hw hv
      refine and_0.mp ?_
      rintro ⟨i, i1, i2⟩
      have a := h i i1
      rcases Nat.lt_or_ge i 12 with c | c
      · rw [compl_b hu, (hub i c).mpr ⟨w, hw, by rw [oldg]; exact hv, i2⟩, Bool.not_true, Bool.and_false] at a
        exact absurd a (by decide)
      · rw [tb_hi hx c] at i1; exact absurd i1 (by decide)
    · intro h i hi
      rcases Nat.lt_or_ge i 12 with c | c
      · rw [compl_b hu, decide_eq_true c, Bool.true_and]
        cases d : u.testBit i
        · rfl
        · obtain ⟨w, hw, hv, hwb⟩ := (hub i c).mp d
          rw [oldg] at hv
          exact absurd (h w hw hv) (fun q => (and_0.mpr q) ⟨i, hi, hwb⟩)
      · rw [tb_hi hx c] at hi; exact absurd hi (by decide)
  -- all that share none are put
  have hlen := fb_ct_le (sB (4095 - u)) 4096
  have lp1 : ∀ kx : DS → Option DS, ∃ s, it3 (D7s_takeOver_35 k f g (nI (4095 - u)) (nI (fb_ct (sB (4095 - u)) 4096)) kx) fuel (0 : Int32) (0 : Int32) (jFill σ (79 + k) 64 (fun _ => 0)) = kx s ∧ dK_ (fun c => c = 79 + k) (jFill σ (79 + k) 64 (fun _ => 0)) s ∧ ∀ x, x < 4096 → (wb s k x = true ↔ sbs x (4095 - u)) := fun kx => by
    refine sub_loop (f := D7s_takeOver_35 k f g (nI (4095 - u)) (nI (fb_ct (sB (4095 - u)) 4096)) kx) hfr (fun p s => dK_ (fun c => c = 79 + k) (jFill σ (79 + k) 64 (fun _ => 0)) s ∧ ∀ x, x < 4096 → (wb s k x = true ↔ x < p ∧ sbs x (4095 - u))) (fun o => ∃ s, o = kx s ∧ dK_ (fun c => c = 79 + k) (jFill σ (79 + k) 64 (fun _ => 0)) s ∧ ∀ x, x < 4096 → (wb s k x = true ↔ sbs x (4095 - u))) ?_ ?_ ?_ ⟨dK_.rf, fun x hx => by rw [wb_jf hx, bL_0]; exact ⟨fun q => absurd q (by decide), fun q => absurd q.1 (Nat.not_lt_zero x)⟩⟩
    · rintro p s hp hn ⟨k1, w1⟩
      refine ⟨k1, fun x hx => ?_⟩
      rw [w1 x hx]
      constructor
      · rintro ⟨a, b⟩; exact ⟨by omega, b⟩
      · rintro ⟨a, b⟩
        refine ⟨?_, b⟩
        rcases Nat.lt_or_ge x p with q | q
        · exact q
        · rw [show x = p by omega] at b; exact absurd b hn
    · rintro p s rc hp hs hlt ⟨k1, w1⟩ ih
      obtain ⟨s', e1, k2, w2⟩ := put_n (σ := s) (k := k) hp
      unfold D7s_takeOver_35
      rw [if_neg (nI_ge hlt (by omega)), e1, b1_s, pl1]
      refine ih s' ⟨k1.tr k2, fun x hx => ?_⟩
      rw [w2 x hx, Bool.or_eq_true, decide_eq_true_eq, w1 x hx]
      constructor
      · rintro (rfl | ⟨a, b⟩)
        · exact ⟨by omega, hs⟩
        · exact ⟨by omega, b⟩
      · rintro ⟨a, b⟩
        rcases Nat.lt_or_ge x p with q | q
        · exact Or.inr ⟨q, b⟩
        · exact Or.inl (by omega)
    · rintro v s rc ⟨k1, w1⟩
      unfold D7s_takeOver_35
      rw [if_pos (nI_le (Nat.le_refl _) (by omega))]
      exact ⟨s, rfl, k1, fun x hx => by rw [w1 x hx]; exact ⟨fun q => q.2, fun q => ⟨hx, q⟩⟩⟩
  obtain ⟨s1, e3, k3, w3⟩ := lp1 (fun τ_10 => b2 (D7m_list g τ_10) (fun r_13 τ_12 => it2 (D7s_takeOver_73 k f (nI (4095 - u)) (nI (fb_ct (sB (4095 - u)) 4096)) r_13 (fun τ_24 => some τ_24)) fuel (0 : Int32) τ_12))
  obtain ⟨sl, e4, kl, hl⟩ := list_n (σ := s1) (k := g)
  have g1 : ∀ p, p < 4096 → wb s1 g p = wb σ g p := fun p _ => by rw [wb_dK k3 (by omega), oldg]
  have hleg := fb_ct_le (wb s1 g) 4096
  have f1 : ∀ s, dK_ (fun c => c = 79 + k) sl s → ∀ p, wb s f p = wb σ f p := fun s ks p => by
    rw [wb_dK ks (by omega), wb_dK kl (by omega), wb_dK k3 (by omega), wb_jo (fun e => h1 e.symm)]
  -- those that don't fit some way are taken
  have lp2 : ∃ s, it2 (D7s_takeOver_73 k f (nI (4095 - u)) (nI (fb_ct (sB (4095 - u)) 4096)) (nI (fb_ct (wb s1 g) 4096)) (fun τ_24 => some τ_24)) fuel (0 : Int32) sl = some s ∧ dK_ (fun c => c = 79 + k) sl s ∧ ∀ x, x < 4096 → (wb s k x = true ↔ sbs x (4095 - u) ∧ ∀ w, w < 4096 → wb s1 g w = true → wb σ f (x ||| w) = true) := by
    refine list_loop (f := D7s_takeOver_73 k f (nI (4095 - u)) (nI (fb_ct (sB (4095 - u)) 4096)) (nI (fb_ct (wb s1 g) 4096)) (fun τ_24 => some τ_24)) (wb s1 g) (fun q s => dK_ (fun c => c = 79 + k) sl s ∧ ∀ x, x < 4096 → (wb s k x = true ↔ sbs x (4095 - u) ∧ ∀ w, w < q → wb s1 g w = true → wb σ f (x ||| w) = true)) (fun o => ∃ s, o = some s ∧ dK_ (fun c => c = 79 + k) sl s ∧ ∀ x, x < 4096 → (wb s k x = true ↔ sbs x (4095 - u) ∧ ∀ w, w < 4096 → wb s1 g w = true → wb σ f (x ||| w) = true)) ?_ ?_ ?_ ⟨dK_.rf, fun x hx => by rw [wb_dK kl (by omega), w3 x hx]; exact ⟨fun q => ⟨q, fun w hw => absurd hw (Nat.not_lt_zero w)⟩, fun q => q.1⟩⟩
    · rintro q s hq hv ⟨k1, w1⟩
      refine ⟨k1, fun x hx => ?_⟩
      rw [w1 x hx]
      refine and_congr Iff.rfl ⟨fun a w hw hwv => ?_, fun a w hw hwv => a w (by omega) hwv⟩
      by_cases c : w = q
      · rw [c, hv] at hwv; exact absurd hwv (by decide)
      · exact a w (by omega) hwv
    · rintro q s rc hq hv ⟨k1, w1⟩ ih
      have hlt := ct_mono_lt hq hv
      have hpl : ∀ t, dK_ (fun c => c = 79 + k) s t → t.2.1 8 (fb_ct (wb s1 g) q) = nI q := fun t kt => by rw [(kt 8 (by omega)).2.1, (k1 8 (by omega)).2.1]; exact hl q hq hv
      unfold D7s_takeOver_73
      rw [if_neg (nI_ge hlt (by omega)), show Int32.ofNat 4096 = nI 4096 from rfl, if_neg (nI_ge (by omega) (by decide))]
      have inner : ∃ t, it3 (D7s_takeOver_93 k f (nI (4095 - u)) (nI (fb_ct (sB (4095 - u)) 4096)) (nI (fb_ct (wb s1 g) 4096)) (nI (fb_ct (wb s1 g) q)) (fun τ_23 => rc (nI (fb_ct (wb s1 g) q) + (1 : Int32)) τ_23)) fuel (0 : Int32) (0 : Int32) s = rc (nI (fb_ct (wb s1 g) q) + (1 : Int32)) t ∧ dK_ (fun c => c = 79 + k) s t ∧ ∀ x, x < 4096 → (wb t k x = true ↔ wb s k x = true ∧ (sbs x (4095 - u) → wb σ f (x ||| q) = true)) := by
        refine sub_loop (f := D7s_takeOver_93 k f (nI (4095 - u)) (nI (fb_ct (sB (4095 - u)) 4096)) (nI (fb_ct (wb s1 g) 4096)) (nI (fb_ct (wb s1 g) q)) (fun τ_23 => rc (nI (fb_ct (wb s1 g) q) + (1 : Int32)) τ_23)) hfr (fun p t => dK_ (fun c => c = 79 + k) s t ∧ ∀ x, x < 4096 → (wb t k x = true ↔ wb s k x = true ∧ (x < p → sbs x (4095 - u) → wb σ f (x ||| q) = true))) (fun o => ∃ t, o = rc (nI (fb_ct (wb s1 g) q) + (1 : Int32)) t ∧ dK_ (fun c => c = 79 + k) s t ∧ ∀ x, x < 4096 → (wb t k x = true ↔ wb s k x = true ∧ (sbs x (4095 - u) → wb σ f (x ||| q) = true))) ?_ ?_ ?_ ⟨dK_.rf, fun x hx => ⟨fun a => ⟨a, fun b => absurd b (Nat.not_lt_zero x)⟩, fun a => a.1⟩⟩
        · rintro p t hp hn ⟨k2, w2⟩
          refine ⟨k2, fun x hx => ?_⟩
          rw [w2 x hx]
          refine and_congr Iff.rfl ⟨fun a hxp hxs => ?_, fun a hxp hxs => a (by omega) hxs⟩
          by_cases c : x = p
          · rw [c] at hxs; exact absurd hxs hn
          · exact a (by omega) hxs
        · rintro p t rc2 hp hs hltp ⟨k2, w2⟩ ih2
          have hor : p ||| q < 4096 := Nat.or_lt_two_pow (n := 12) hp hq
          unfold D7s_takeOver_93
          rw [if_neg (nI_ge hltp (by omega)), gi_n (by omega) (by decide), tn _ (by omega), hpl t k2, fa_or, holds_n hor, b1_s, f1 t (k1.tr k2), pl1]
          cases d : wb σ f (p ||| q)
          · rw [if_pos (by rfl)]
            obtain ⟨t', e6, k6, w6⟩ := take_n (σ := t) (k := k) hp
            rw [e6, b1_s]
            refine ih2 t' ⟨k2.tr k6, fun x hx => ?_⟩
            rw [w6 x hx, Bool.and_eq_true, Bool.not_eq_true', decide_eq_false_iff_not, w2 x hx]
            constructor
            · rintro ⟨a, b, c⟩
              exact ⟨b, fun h3 h4 => c (by omega) h4⟩
            · rintro ⟨a, b⟩
              refine ⟨fun e => ?_, a, fun h3 h4 => b (by omega) h4⟩
              rw [e] at b
              have := b (by omega) hs
              rw [d] at this
              exact absurd this (by decide)
          · rw [if_neg (by decide)]
            refine ih2 t ⟨k2, fun x hx => ?_⟩
            rw [w2 x hx]
            refine and_congr Iff.rfl ⟨fun a h3 h4 => ?_, fun a h3 h4 => a (by omega) h4⟩
            by_cases c : x = p
            · rw [c]; exact d
            · exact a (by omega) h4
        · rintro v t rc2 ⟨k2, w2⟩
          unfold D7s_takeOver_93
          rw [if_pos (nI_le (Nat.le_refl _) (by omega))]
          exact ⟨t, rfl, k2, fun x hx => by rw [w2 x hx]; exact and_congr Iff.rfl ⟨fun a => a hx, fun a _ => a⟩⟩
      obtain ⟨t, e5, k5, w5⟩ := inner
      rw [e5]
      refine ih t ⟨k1.tr k5, fun x hx => ?_⟩
      rw [w5 x hx, w1 x hx]
      constructor
      · rintro ⟨⟨a, b⟩, c⟩
        refine ⟨a, fun w hw hwv => ?_⟩
        by_cases e : w = q
        · rw [e]; exact c a
        · exact b w (by omega) hwv
      · rintro ⟨a, b⟩
        exact ⟨⟨a, fun w hw hwv => b w (by omega) hwv⟩, fun _ => b q (by omega) hv⟩
    · rintro s rc ⟨k1, w1⟩
      unfold D7s_takeOver_73
      rw [if_pos (nI_le (Nat.le_refl _) (by omega))]
      exact ⟨s, rfl, k1, w1⟩
  obtain ⟨s2, e5, k5, w5⟩ := lp2
  refine ⟨s2, ?_, ?_, fun x hx => ?_⟩
  · unfold D7m_takeOver
    rw [fillJ (by omega), b1_s, e2, b1_s, free_n hu, nm_s, ct_sub12 hfr, nm_s, e3, e4, b2_s, e5]
  · exact (((dK_JF (C := fun c => c = 8 ∨ c = 79 + k) (Or.inr rfl)).tr (k3.mo (fun c hc => Or.inr hc))).tr (kl.mo (fun c hc => Or.inl hc))).tr (k5.mo (fun c hc => Or.inr hc))
  · rw [w5 x hx, hsub x hx]
    constructor
    · rintro ⟨a, b⟩ w hw hv
      exact ⟨a w hw hv, b w hw (by rw [g1 w hw]; exact hv)⟩
    · intro a
      exact ⟨fun w hw hv => (a w hw hv).1, fun w hw hv => (a w hw (by rw [← g1 w hw]; exact hv)).2⟩

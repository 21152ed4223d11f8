/-! ===== searches: pairs ===== -/
/-- some sets are put, nothing else is changed -/
def SP (k : Nat) (z z' : DZ) (S : Nat → Prop) : Prop := z'.2 = z.2 ∧ dK_ (fun c => c = 79 + k) z.1 z'.1 ∧ ∀ x, x < 4096 → (wb z'.1 k x = true ↔ wb z.1 k x = true ∨ S x)
theorem SP.no {k : Nat} {z : DZ} {S : Nat → Prop} (h : ∀ x, x < 4096 → ¬ S x) : SP k z z S := ⟨rfl, dK_.rf, fun x hx => ⟨Or.inl, fun q => q.elim id (fun y => absurd y (h x hx))⟩⟩
theorem SP.tr {k : Nat} {z1 z2 z3 : DZ} {S1 S2 S : Nat → Prop} (h1 : SP k z1 z2 S1) (h2 : SP k z2 z3 S2) (h : ∀ x, x < 4096 → (S x ↔ S1 x ∨ S2 x)) : SP k z1 z3 S :=
  ⟨h2.1.trans h1.1, h1.2.1.tr h2.2.1, fun x hx => by rw [h2.2.2 x hx, h1.2.2 x hx, h x hx]; exact or_assoc⟩
theorem SP.cg {k : Nat} {z1 z2 : DZ} {S S' : Nat → Prop} (h1 : SP k z1 z2 S) (h : ∀ x, x < 4096 → (S' x ↔ S x)) : SP k z1 z2 S' :=
  ⟨h1.1, h1.2.1, fun x hx => by rw [h1.2.2 x hx, h x hx]⟩
theorem SP.put {k p : Nat} {z : DZ} (hp : p < 4096) : ∃ s, D7m_put k z.1 (nI p) = some s ∧ SP k z (s, z.2) (fun x => x = p) := by
  obtain ⟨s, e, k1, w1⟩ := put_n (σ := z.1) (k := k) hp
  refine ⟨s, e, rfl, k1, fun x hx => ?_⟩
  rw [w1 x hx, Bool.or_eq_true, decide_eq_true_eq]
  exact or_comm
theorem mir_2 : ∀ r, r < 12 → mir (2 ^ r) = 2 ^ (11 - r) := by decide +kernel
theorem mir_add {m r : Nat} (hr : r < 12) (hm : m < 2 ^ r) : nI (mir m) ||| D2m_placeOf (nI r) = nI (mir (m + 2 ^ r)) := by
  have hp : 2 ^ r ≤ 2 ^ 11 := Nat.pow_le_pow_right (by decide) (by omega)
  have e : m + 2 ^ r = m ||| 2 ^ r := add_bit (Nat.testBit_lt_two_pow hm)
  rw [placeOf_n r hr, fa_or, e, mir_or (by omega) (by omega), mir_2 r hr]
/-- the masks that go on from m: without road r, with it -/
theorem mod_s {M m r : Nat} (hm : m < 2 ^ r) : M % 2 ^ r = m ↔ M % 2 ^ (r + 1) = m ∨ M % 2 ^ (r + 1) = m + 2 ^ r := by
  have hp := Nat.two_pow_pos r
  have e : M % 2 ^ (r + 1) = M % 2 ^ r + 2 ^ r * (M / 2 ^ r % 2) := Nat.mod_mul
  have h2 := Nat.mod_two_eq_zero_or_one (M / 2 ^ r)
  have hl := Nat.mod_lt M hp
  rcases h2 with h | h
  · rw [e, h, Nat.mul_zero, Nat.add_zero]
    exact ⟨Or.inl, fun q => q.elim id (fun y => by omega)⟩
  · rw [e, h, Nat.mul_one]
    exact ⟨fun q => Or.inr (by omega), fun q => q.elim (fun y => by omega) (fun y => by omega)⟩
theorem mod_bit {M m r : Nat} (h : M % 2 ^ (r + 1) = m + 2 ^ r) (hm : m < 2 ^ r) : M.testBit r = true ∧ M % 2 ^ r = m := by
  refine ⟨?_, (mod_s hm).mpr (Or.inr h)⟩
  have : (M % 2 ^ (r + 1)).testBit r = true := by rw [h, Nat.add_comm, tb_top hm, decide_eq_true rfl]; rfl
  rw [Nat.testBit_mod_two_pow, Bool.and_eq_true] at this
  exact this.2
theorem mod_bit0 {M m r : Nat} (h : M % 2 ^ (r + 1) = m) (hm : m < 2 ^ r) : M.testBit r = false ∧ M % 2 ^ r = m := by
  refine ⟨?_, (mod_s hm).mpr (Or.inl h)⟩
  have : (M % 2 ^ (r + 1)).testBit r = false := by rw [h]; exact Nat.testBit_lt_two_pow hm
  rw [Nat.testBit_mod_two_pow, decide_eq_true (by omega), Bool.true_and] at this
  exact this
theorem mod_low {M m r i : Nat} (h : M % 2 ^ r = m) (hi : i < r) : M.testBit i = m.testBit i := by
  rw [← h, Nat.testBit_mod_two_pow, decide_eq_true hi, Bool.true_and]
section PAIRS
variable {P R : Nat} {ld eA eB od : Nat → Nat} {wt : Nat → Int32}
theorem atP_s {eA eB : Nat → Nat} (m p r : Nat) : atP (r + 1) eA eB m p = atP r eA eB m p + (if (m.testBit r && (decide (eA r = p) || decide (eB r = p))) = true then 1 else 0) := rfl
theorem atP_mod {M m r p : Nat} (h : M % 2 ^ r = m) : atP r eA eB M p = atP r eA eB m p := fb_ct_cong fun i hi => by rw [mod_low h hi]
theorem atP_mono {M p r s : Nat} (h : r ≤ s) : atP r eA eB M p ≤ atP s eA eB M p := fb_ct_mono _ h
/-- busy posts -/
def BSY (r P : Nat) (eA eB : Nat → Nat) (m y : Nat) : Prop := y < 2 ^ P ∧ (∀ p, p < P → (y.testBit p = true ↔ atP r eA eB m p = 1)) ∧ ∀ p, p < P → atP r eA eB m p ≤ 1
def okP (P R : Nat) (eA eB : Nat → Nat) (all : Bool) (M : Nat) : Prop := ∀ p, p < P → atP R eA eB M p = 1 ∨ (atP R eA eB M p = 0 ∧ all = false)
theorem match_n (n1 : NW P R ld eA eB od wt) (k : Nat) (all : Bool) : ∀ (d r n m y : Nat) (z : DZ), r + d = R → d < n → m < 2 ^ r → BSY r P eA eB m y → CN z.1 P R ld eA eB od wt → z.2 5 = bI all →
    ∃ z', D4m_match k n z (nI r) (nI (mir m)) (nI y) = some z' ∧ SP k z z' (fun x => ∃ M, M < 2 ^ R ∧ M % 2 ^ r = m ∧ okP P R eA eB all M ∧ x = mir M) := by
  have hR := n1.2.1
  have hP := n1.1
  intro d
  induction d with
  | zero =>
    intro r n m y z hr hn hm hb hc h5
    obtain ⟨n, rfl⟩ : ∃ q, n = q + 1 := ⟨n - 1, by omega⟩
    have hrR : r = R := by omega
    subst hrR
    have hm4 : m < 4096 := Nat.lt_of_lt_of_le hm (p2R hR)
    have only : ∀ M, M < 2 ^ r → M % 2 ^ r = m → M = m := fun M h1 h2 => by rw [Nat.mod_eq_of_lt h1] at h2; exact h2
    have put : okP P r eA eB all m → ∃ z', b1 (D7m_put k z.1 (nI (mir m))) (fun s => nm (s, z.2) (fun q => some q)) = some z' ∧ SP k z z' (fun x => ∃ M, M < 2 ^ r ∧ M % 2 ^ r = m ∧ okP P r eA eB all M ∧ x = mir M) := fun ok => by
      obtain ⟨s, e, sp⟩ := SP.put (k := k) (z := z) (mir_lt hm4)
      refine ⟨(s, z.2), by rw [e, b1_s, nm_s], sp.cg (fun x hx => ⟨?_, ?_⟩)⟩
      · rintro ⟨M, h1, h2, h3, h4⟩
        rw [only M h1 h2] at h4
        exact h4
      · intro h4
        exact ⟨m, hm, Nat.mod_eq_of_lt hm, ok, h4⟩
    have no : ¬ okP P r eA eB all m → SP k z z (fun x => ∃ M, M < 2 ^ r ∧ M % 2 ^ r = m ∧ okP P r eA eB all M ∧ x = mir M) := fun nok => SP.no (by
      rintro x hx ⟨M, h1, h2, h3, -⟩
      rw [only M h1 h2] at h3
      exact nok h3)
    show ∃ z', D4b_match k (it4 (D4b_match k) n) z _ _ _ = some z' ∧ _
    unfold D4b_match
    rw [if_pos ((isRoad_0 n1 hc).mpr (by rw [it_nI (by omega)]; omega)), h5]
    cases all
    · rw [if_pos (by rfl)]
      refine put (fun p hp => ?_)
      rcases (show atP r eA eB m p = 1 ∨ atP r eA eB m p = 0 by have := hb.2.2 p hp; omega) with q | q
      · exact Or.inl q
      · exact Or.inr ⟨q, rfl⟩
    · rw [if_neg (by decide), hc.1, shl1 (by omega)]
      have hpp : 2 ^ P ≤ 2 ^ 8 := Nat.pow_le_pow_right (by decide) hP
      have hpos := Nat.two_pow_pos P
      have hy := hb.1
      rw [show nI (2 ^ P) - (1 : Int32) = nI (2 ^ P - 1) from pk_sub (b := 1) hpos]
      by_cases c : y = 2 ^ P - 1
      · rw [if_pos (by rw [c])]
        refine put (fun p hp => Or.inl ((hb.2.1 p hp).mp ?_))
        rw [c, Nat.testBit_two_pow_sub_one, decide_eq_true hp]
      · rw [if_neg (fun q => c ((nI_eq (by omega) (by omega)).mp q))]
        refine ⟨z, rfl, no (fun ok => c ?_)⟩
        apply Nat.eq_of_testBit_eq
        intro i
        rw [Nat.testBit_two_pow_sub_one]
        by_cases hi : i < P
        · rw [decide_eq_true hi, (hb.2.1 i hi)]
          exact (ok i hi).resolve_right (fun q => absurd q.2 (by decide))
        · rw [decide_eq_false hi]
          exact Nat.testBit_lt_two_pow (Nat.lt_of_lt_of_le hy (Nat.pow_le_pow_right (by decide) (by omega)))
  | succ d ih =>
    intro r n m y z hr hn hm hb hc h5
    obtain ⟨n, rfl⟩ : ∃ q, n = q + 1 := ⟨n - 1, by omega⟩
    have hrR : r < R := by omega
    have hp1 : 2 ^ (r + 1) = 2 ^ r + 2 ^ r := by rw [Nat.pow_succ, Nat.mul_two]
    obtain ⟨x1, x2, x3, x4⟩ := hc.2.2.2 r hrR
    obtain ⟨y1, y2, y3⟩ := n1.e8 hrR
    have yP : eA r < P ∧ eB r < P := by
      have := n1.2.2.2.1 r hrR
      omega
    have hb' : BSY (r + 1) P eA eB m y := ⟨hb.1, fun p hp => by rw [atP_s, Nat.testBit_lt_two_pow hm]; exact hb.2.1 p hp, fun p hp => by rw [atP_s, Nat.testBit_lt_two_pow hm]; exact hb.2.2 p hp⟩
    obtain ⟨z1, e1, s1⟩ := ih (r + 1) n m y z (by omega) (by omega) (by omega) hb' hc h5
    have hc1 : CN z1.1 P R ld eA eB od wt := hc.to s1.2.1 (fun c h => by omega)
    have h51 : z1.2 5 = bI all := by rw [s1.1]; exact h5
    obtain ⟨x1', x2', -, -⟩ := hc1.2.2.2 r hrR
    show ∃ z', D4b_match k (it4 (D4b_match k) n) z _ _ _ = some z' ∧ _
    have e0 : ∀ (s : DZ) (a b c : Int32), it4 (D4b_match k) n s a b c = D4m_match k n s a b c := fun _ _ _ _ => rfl
    generalize it4 (D4b_match k) n = rf at e0 ⊢
    unfold D4b_match
    have hyb : y < 2 ^ 8 := Nat.lt_of_lt_of_le hb.1 (Nat.pow_le_pow_right (by decide) hP)
    have pa : 2 ^ eA r < 2 ^ 8 := Nat.pow_lt_pow_right (by decide) y1
    have pb : 2 ^ eB r < 2 ^ 8 := Nat.pow_lt_pow_right (by decide) y2
    have hor : 2 ^ eA r ||| 2 ^ eB r < 2 ^ 8 := Nat.or_lt_two_pow pa pb
    rw [if_neg (fun q => (isRoad_0 n1 hc).mp q (by rw [it_nI (by omega)]; omega)), nI_1, e0, e1, b1_s, gi_n (by omega) (by decide), gi_n (by omega) (by decide), tn _ (by omega), x1', x2', shl1 (by omega), shl1 (by omega), fa_or, nm_s, fa_and, mir_add (by omega) hm, fa_or]
    have meet : y &&& (2 ^ eA r ||| 2 ^ eB r) = 0 ↔ atP r eA eB m (eA r) = 0 ∧ atP r eA eB m (eB r) = 0 := by
      have ba := hb.2.1 (eA r) yP.1
      have bb := hb.2.1 (eB r) yP.2
      have la := hb.2.2 (eA r) yP.1
      have lb := hb.2.2 (eB r) yP.2
      rw [← and_0]
      constructor
      · intro h
        constructor
        · rcases Nat.lt_or_ge (atP r eA eB m (eA r)) 1 with q | q
          · omega
          · exact absurd ⟨eA r, ba.mpr (by omega), by rw [Nat.testBit_or, Nat.testBit_two_pow, decide_eq_true rfl, Bool.true_or]⟩ h
        · rcases Nat.lt_or_ge (atP r eA eB m (eB r)) 1 with q | q
          · omega
          · exact absurd ⟨eB r, bb.mpr (by omega), by rw [Nat.testBit_or, Nat.testBit_two_pow, Nat.testBit_two_pow, decide_eq_true (rfl : eB r = eB r), Bool.or_true]⟩ h
      · rintro ⟨h1, h2⟩ ⟨i, i1, i2⟩
        rw [Nat.testBit_or, Nat.testBit_two_pow, Nat.testBit_two_pow, Bool.or_eq_true, decide_eq_true_eq, decide_eq_true_eq] at i2
        rcases i2 with e | e
        · subst e; rw [ba] at i1; omega
        · subst e; rw [bb] at i1; omega
    have atn : ∀ p, atP (r + 1) eA eB (m + 2 ^ r) p = atP r eA eB m p + (if eA r = p ∨ eB r = p then 1 else 0) := fun p => by
      rw [atP_s, show atP r eA eB (m + 2 ^ r) p = atP r eA eB m p from atP_mod (by rw [Nat.add_mod_right, Nat.mod_eq_of_lt hm]), Nat.add_comm m, tb_top hm, decide_eq_true rfl, Bool.true_or, Bool.true_and]
      congr 1
      by_cases a : eA r = p
      · rw [if_pos (by rw [decide_eq_true a]; rfl), if_pos (Or.inl a)]
      · by_cases b : eB r = p
        · rw [if_pos (by rw [decide_eq_true b, Bool.or_true]), if_pos (Or.inr b)]
        · rw [if_neg (by rw [decide_eq_false a, decide_eq_false b]; decide), if_neg (fun q => q.elim a b)]
    by_cases c : y &&& (2 ^ eA r ||| 2 ^ eB r) = 0
    · obtain ⟨ca, cb⟩ := meet.mp c
      have hyu : y ||| (2 ^ eA r ||| 2 ^ eB r) < 2 ^ P := Nat.or_lt_two_pow hb.1 (Nat.or_lt_two_pow (Nat.pow_lt_pow_right (by decide) yP.1) (Nat.pow_lt_pow_right (by decide) yP.2))
      have hb2 : BSY (r + 1) P eA eB (m + 2 ^ r) (y ||| (2 ^ eA r ||| 2 ^ eB r)) := by
        refine ⟨hyu, fun p hp => ?_, fun p hp => ?_⟩
        · rw [atn, Nat.testBit_or, Nat.testBit_or, Nat.testBit_two_pow, Nat.testBit_two_pow, Bool.or_eq_true, Bool.or_eq_true, decide_eq_true_eq, decide_eq_true_eq, hb.2.1 p hp]
          by_cases q : eA r = p ∨ eB r = p
          · rw [if_pos q]
            have : atP r eA eB m p = 0 := by rcases q with rfl | rfl; exact ca; exact cb
            exact ⟨fun _ => by omega, fun _ => Or.inr q⟩
          · rw [if_neg q]
            exact ⟨fun x => x.elim id (fun y => absurd y q), fun x => Or.inl x⟩
        · rw [atn]
          have := hb.2.2 p hp
          by_cases q : eA r = p ∨ eB r = p
          · rw [if_pos q]
            have : atP r eA eB m p = 0 := by rcases q with rfl | rfl; exact ca; exact cb
            omega
          · rw [if_neg q]; exact this
      obtain ⟨z2, e2, s2⟩ := ih (r + 1) n (m + 2 ^ r) (y ||| (2 ^ eA r ||| 2 ^ eB r)) z1 (by omega) (by omega) (by omega) hb2 hc1 h51
      refine ⟨z2, by rw [if_pos (by rw [c]; rfl), e0, e2, b1_s], s1.tr s2 (fun x hx => ?_)⟩
      constructor
      · rintro ⟨M, h1, h2, h3⟩
        rcases (mod_s hm).mp h2 with q | q
        · exact Or.inl ⟨M, h1, q, h3⟩
        · exact Or.inr ⟨M, h1, q, h3⟩
      · rintro (⟨M, h1, h2, h3⟩ | ⟨M, h1, h2, h3⟩)
        · exact ⟨M, h1, (mod_s hm).mpr (Or.inl h2), h3⟩
        · exact ⟨M, h1, (mod_s hm).mpr (Or.inr h2), h3⟩
    · have hlt : y &&& (2 ^ eA r ||| 2 ^ eB r) < 2 ^ 8 := Nat.lt_of_le_of_lt Nat.and_le_left hyb
      refine ⟨z1, by rw [if_neg (nI_ne0 (by omega) (by omega))], s1.cg (fun x hx => ?_)⟩
      constructor
      · rintro ⟨M, h1, h2, h3, h4⟩
        rcases (mod_s hm).mp h2 with q | q
        · exact ⟨M, h1, q, h3, h4⟩
        · exfalso
          have key : ∀ p, p < P → (eA r = p ∨ eB r = p) → 1 ≤ atP r eA eB m p → False := fun p hp hq h6 => by
            have a1 : atP (r + 1) eA eB M p = atP (r + 1) eA eB (m + 2 ^ r) p := atP_mod q
            have a2 := atP_mono (eA := eA) (eB := eB) (M := M) (p := p) (show r + 1 ≤ R by omega)
            rw [a1, atn, if_pos hq] at a2
            have := h3 p hp
            omega
          by_cases g1 : atP r eA eB m (eA r) = 0
          · have g2 : atP r eA eB m (eB r) ≠ 0 := fun g2 => c (meet.mpr ⟨g1, g2⟩)
            exact key _ yP.2 (Or.inr rfl) (by omega)
          · exact key _ yP.1 (Or.inl rfl) (by omega)
      · rintro ⟨M, h1, h2, h3⟩
        exact ⟨M, h1, (mod_s hm).mpr (Or.inl h2), h3⟩
end PAIRS
theorem st_pairs : ST_pairs INV := by
  intro σ τ h a1 ha1
  obtain ⟨⟨P, R, ld, eA, eB, od, wt, n1, n2, n3⟩, ⟨F, kd, W, f1, f2, f3⟩, -, -, -, ax⟩ := id h
  have hR := n1.2.1
  have hP := n1.1
  have hp := p2R hR
  obtain ⟨all, rfl⟩ := bI_01' ha1
  have er : Rm_pairs τ (bI all) = it2 (Rs_pairs_2 (bI all) (fun τ_17 => b2 (Rm_made τ_17 (4 : Int32)) (fun r_19 τ_20 => some (r_19, τ_20)))) fuel (0 : Int32) τ := rfl
  rw [er]
  refine mk_put (kn := 4) (w := fun m => decide (m < 2 ^ R) && cD (okP P R eA eB all m)) (C := fun _ => False) h ⟨f1, f2, f3⟩ (by omega) ?_ (fun _ h => h.elim) (fun rc h6 => ?_) (fun hF m τ1 rc hm hq => ⟨τ1, hq, ?_⟩) (fun τ1 rc hq => ?_)
  · unfold D8m_pairs
    refine DMK.of f2.1 ax.1 (fun hF σ0 hb0 => ?_)
    have n2' := n2.to hb0.1 (fun c hc => by omega)
    obtain ⟨z1, e1, s1⟩ := match_n n1 F all R 0 24 0 0 (dZ (σ0, fun _ => 0) 5 (bI all)) (by omega) (by omega) (by decide) ⟨Nat.two_pow_pos P, fun p hp => by rw [Nat.zero_testBit]; exact ⟨fun q => absurd q (by decide), fun q => absurd (show (0 : Nat) = 1 from q) (by decide)⟩, fun p hp => Nat.zero_le 1⟩ n2' (by unfold dZ; rfl)
    refine ⟨z1.1, ?_, DON.mk hb0 s1.2.1 (fun c hc => by unfold dScr; omega) (fun x hx => ?_)⟩
    · unfold D4m_findPairs
      rw [gb_b, nm_s, show D4m_match F 24 (dZ (σ0, fun _ => 0) 5 (bI all)) 0 0 0 = _ from e1, b1_s, b1_s]
    · have hw : wb (dZ (σ0, fun _ => 0) 5 (bI all)).1 F x = false := hb0.2.2.1 x hx
      rw [Bool.eq_iff_iff, s1.2.2 x hx, hw, Bool.and_eq_true, decide_eq_true_eq, cD_iff]
      constructor
      · rintro (q | ⟨M, h1, h2, h3, h4⟩)
        · exact absurd q (by decide)
        · rw [h4, mir_mir (by omega)]
          exact ⟨h1, h3⟩
      · rintro ⟨h1, h2⟩
        exact Or.inr ⟨mir x, h1, by rw [Nat.pow_zero, Nat.mod_one], h2, (mir_mir hx).symm⟩
  · unfold Rs_pairs_2
    rw [h6, if_neg (by decide), if_pos (by decide)]
    rfl
  · have n3' := n3.to hq.1 (fun c hc => hc.elim (fun e => by omega) False.elim)
    have lp : ∀ (kx : Int32 → Option (Int32 × RS)) (b : Bool), it2 (Rs_pairs_35 (bI all) (nI m) τ1 kx) fuel (bI b) (0 : Int32) = kx (bI (b && cD (okP P R eA eB all m))) := fun kx b => by
      have e : cD (okP P R eA eB all m) = allB (fun p => decide (atP R eA eB m p = 1) || (decide (atP R eA eB m p = 0) && !all)) P := by
        symm
        apply cD_eq
        rw [allB_iff]
        refine forall_congr' fun p => forall_congr' fun hp => ?_
        rw [Bool.or_eq_true, Bool.and_eq_true, decide_eq_true_eq, decide_eq_true_eq, Bool.not_eq_true']
      rw [e]
      refine all_loop (f := Rs_pairs_35 (bI all) (nI m) τ1 kx) (N := P) (by unfold fuel; omega) kx _ (fun rc w => by unfold Rs_pairs_35; rw [if_pos rfl]) (fun rc p hp => ?_) (fun rc => by unfold Rs_pairs_35; rw [if_neg (by decide), n3'.1, if_pos (nI_le (Nat.le_refl _) (by omega))]) b
      have hle := fb_ct_le (fun r => m.testBit r && (decide (eA r = p) || decide (eB r = p))) R
      have hle : atP R eA eB m p ≤ R := hle
      unfold Rs_pairs_35
      rw [if_neg (by decide), n3'.1, if_neg (nI_ge hp (by omega)), at_n n1 n3' hm (by omega), b1_s, pl1]
      by_cases c1 : atP R eA eB m p = 1
      · rw [if_pos (by rw [c1]; rfl), decide_eq_true c1]; rfl
      · rw [if_neg (show ¬ nI (atP R eA eB m p) = (1 : Int32) from fun q => c1 ((nI_eq (b := 1) (by omega) (by omega)).mp q)), decide_eq_false c1, Bool.false_or]
        by_cases c0 : atP R eA eB m p = 0
        · rw [if_pos (by rw [c0]; rfl), decide_eq_true c0, Bool.true_and]
          cases all <;> rfl
        · rw [if_neg (nI_ne0 (by omega) (by omega)), decide_eq_false c0]; rfl
    unfold Rs_pairs_2
    rw [if_neg (show ¬ (4096 : Int32) ≤ nI m from nI_ge (b := 4096) (by omega) (by decide)), (hq.F (c := 6) (fun h => h) (by omega)).1, f3.1, if_neg (show ¬ (30 : Int32) ≤ nI F from nI_ge (b := 30) (by omega) (by decide)), net_n n1 n3']
    by_cases c : m < 2 ^ R
    · rw [if_neg (nI_ge c (by omega)), show (1 : Int32) = bI true from rfl, lp, decide_eq_true c]
    · rw [if_pos (nI_le (by omega) (by omega)), show it2 (Rs_pairs_35 (bI all) (nI m) τ1 (fun u_11 => b1 (Rm_put τ1 (nI m) u_11) (fun τ_13 => rc (nI m + (1 : Int32)) τ_13))) fuel (0 : Int32) (0 : Int32) = _ from lp _ false, decide_eq_false c, Bool.false_and]
  · unfold Rs_pairs_2
    rw [if_pos (show (4096 : Int32) ≤ nI 4096 by decide)]
    rfl

section GATHER2
variable {P R : Nat} {ld eA eB od : Nat → Nat} {wt : Nat → Int32}
theorem tb_same {m r i : Nat} (hm : m < 2 ^ r) (hi : i < r) : (m + 2 ^ r).testBit i = m.testBit i := by
  rw [Nat.add_comm, tb_top hm, decide_eq_false (by omega), Bool.false_or]
theorem bitv {m j : Nat} (hm : m < 4096) (hj : j < 12) : (nI m >>> (nI j &&& 31)) &&& (1 : Int32) = nI (if m.testBit j = true then 1 else 0) := (bit1 (by omega) (by omega)).trans (bI_nI _)
theorem gather_n (n1 : NW P R ld eA eB od wt) (k : Nat) (b : Bool) (w : Nat) (lo hi : Int32) (hw1 : 1 ≤ w) (hw : w ≤ P) : ∀ (d r n m : Nat) (x : Int32) (z : DZ), r + d = R → d < n → m < 2 ^ r → LBL P eA eB m r x → CN z.1 P R ld eA eB od wt → (z.2 4 = nI w ∧ z.2 5 = bI b ∧ z.2 6 = lo ∧ z.2 7 = hi) → (b = false → ∀ i, i < r → m.testBit i = true → ¬ hpP eA eB m i (eA i) = hpP eA eB m i (eB i)) →
    ∃ z', D4m_gather k n z (nI r) (nI (mir m)) x (nI (P - hpC eA eB m r)) = some z' ∧ SP k z z' (fun y => ∃ M, M < 2 ^ R ∧ M % 2 ^ r = m ∧ okG P R ld eA eB b w lo hi M ∧ y = mir M) := by
  have hR := n1.2.1
  have hP := n1.1
  have he : ∀ i, i < R → eA i < P ∧ eB i < P := fun i hi => by have := n1.2.2.2.1 i hi; omega
  have okw : ∀ M, okG P R ld eA eB b w lo hi M → P - hpC eA eB M R = w := fun M h => by
    cases b
    · exact (h.1 rfl).2
    · exact (h.2 rfl).1
  intro d
  induction d with
  | zero =>
    intro r n m x z hr hn hm hx hc hz ht
    obtain ⟨n, rfl⟩ : ∃ q, n = q + 1 := ⟨n - 1, by omega⟩
    have hrR : r = R := by omega
    subst hrR
    obtain ⟨h4, h5, h6, h7⟩ := hz
    have hm4 : m < 4096 := Nat.lt_of_lt_of_le hm (p2R hR)
    have only : ∀ M, M < 2 ^ r → M % 2 ^ r = m → M = m := fun M h1 h2 => by rw [Nat.mod_eq_of_lt h1] at h2; exact h2
    have put : okG P r ld eA eB b w lo hi m → ∃ z', b1 (D7m_put k z.1 (nI (mir m))) (fun s => nm (s, z.2) (fun q => some q)) = some z' ∧ SP k z z' (fun y => ∃ M, M < 2 ^ r ∧ M % 2 ^ r = m ∧ okG P r ld eA eB b w lo hi M ∧ y = mir M) := fun ok => by
      obtain ⟨s, e, sp⟩ := SP.put (k := k) (z := z) (mir_lt hm4)
      refine ⟨(s, z.2), by rw [e, b1_s, nm_s], sp.cg (fun x hx => ⟨?_, ?_⟩)⟩
      · rintro ⟨M, h1, h2, h3, h4⟩
        rw [only M h1 h2] at h4
        exact h4
      · intro h4
        exact ⟨m, hm, Nat.mod_eq_of_lt hm, ok, h4⟩
    have no : ¬ okG P r ld eA eB b w lo hi m → SP k z z (fun y => ∃ M, M < 2 ^ r ∧ M % 2 ^ r = m ∧ okG P r ld eA eB b w lo hi M ∧ y = mir M) := fun nok => SP.no (by
      rintro x hx ⟨M, h1, h2, h3, -⟩
      rw [only M h1 h2] at h3
      exact nok h3)
    show ∃ z', D4b_gather k (it5 (D4b_gather k) n) z _ _ _ _ = some z' ∧ _
    unfold D4b_gather
    rw [h4, hc.2.1, pk_sub (Nat.le_refl r), Nat.sub_self, show nI (P - hpC eA eB m r) - nI 0 = nI (P - hpC eA eB m r) from pk_sub (Nat.zero_le _)]
    by_cases c1 : P - hpC eA eB m r < w
    · rw [if_pos (nI_lt c1 (by omega))]
      exact ⟨z, rfl, no (fun q => by have := okw m q; omega)⟩
    · rw [if_neg (nI_nlt (by omega) (by omega))]
      by_cases c2 : P - hpC eA eB m r ≤ w
      · have ew : P - hpC eA eB m r = w := by omega
        rw [if_pos (nI_le c2 (by omega)), if_pos ((isRoad_0 n1 hc).mpr (by rw [it_nI (by omega)]; omega)), h5]
        cases b
        · rw [if_pos (by rfl)]
          exact put ⟨fun _ => ⟨fun i hi hb => ht rfl i hi hb, ew⟩, fun q => absurd q (by decide)⟩
        · rw [if_neg (by decide), parting_n n1 hc hm hx, b1_s, h6, h7]
          by_cases c3 : okL P r ld eA eB lo hi m
          · rw [cD_t c3, if_neg (by decide)]
            exact put ⟨fun q => absurd q (by decide), fun _ => ⟨ew, c3⟩⟩
          · rw [cD_f c3, if_pos (by rfl)]
            exact ⟨z, rfl, no (fun q => c3 (q.2 rfl).2)⟩
      · rw [if_neg (nI_ge (by omega) (by omega))]
        exact ⟨z, rfl, no (fun q => by have := okw m q; omega)⟩
  | succ d ih =>
    intro r n m x z hr hn hm hx hc hz ht
    obtain ⟨n, rfl⟩ : ∃ q, n = q + 1 := ⟨n - 1, by omega⟩
    have hrR : r < R := by omega
    have hp1 : 2 ^ (r + 1) = 2 ^ r + 2 ^ r := by rw [Nat.pow_succ, Nat.mul_two]
    obtain ⟨h4, h5, h6, h7⟩ := id hz
    obtain ⟨x1, x2, -, -⟩ := hc.2.2.2 r hrR
    obtain ⟨y1, y2, y3⟩ := n1.e8 hrR
    obtain ⟨ya, yb⟩ := he r hrR
    have hbit : m.testBit r = false := Nat.testBit_lt_two_pow hm
    have hC : ∀ M, M % 2 ^ r = m → hpC eA eB M r = hpC eA eB m r := fun M h => hpC_cong fun i hi => mod_low h hi
    have hH : ∀ M, M % 2 ^ r = m → ∀ p, hpP eA eB M r p = hpP eA eB m r p := fun M h => hp_cong fun i hi => mod_low h hi
    have hup := fun M => hpC_up (eA := eA) (eB := eB) (m := M) (show r ≤ R by omega)
    show ∃ z', D4b_gather k (it5 (D4b_gather k) n) z _ _ _ _ = some z' ∧ _
    have e0 : ∀ (s : DZ) (a b c d : Int32), it5 (D4b_gather k) n s a b c d = D4m_gather k n s a b c d := fun _ _ _ _ _ => rfl
    generalize it5 (D4b_gather k) n = rf at e0 ⊢
    unfold D4b_gather
    rw [h4, hc.2.1, pk_sub (show r ≤ R by omega)]
    by_cases c1 : P - hpC eA eB m r < w
    · rw [if_pos (nI_lt c1 (by omega))]
      refine ⟨z, rfl, SP.no ?_⟩
      rintro y - ⟨M, h1, h2, h3, -⟩
      have := okw M h3
      have := hup M
      rw [hC M h2] at this
      omega
    · rw [if_neg (nI_nlt (by omega) (by omega))]
      by_cases c2 : P - hpC eA eB m r ≤ w + (R - r)
      · rw [if_pos (by rw [fa_le, sub_k (by omega) (by omega), it_nI (by omega)]; omega), if_neg (fun q => (isRoad_0 n1 hc).mp q (by rw [it_nI (by omega)]; omega)), gi_n (by omega) (by decide), nm_s, gi_n (by omega) (by decide), nm_s, tn _ (by omega), x1, x2, label_n y1, label_n y2, pl1, mir_add (by omega) hm]
        have la : labN x (eA r) < 16 := lab_lt
        have lb : labN x (eB r) < 16 := lab_lt
        have tno : b = false → ∀ i, i < r + 1 → m.testBit i = true → ¬ hpP eA eB m i (eA i) = hpP eA eB m i (eB i) := fun hb i hi q => by
          by_cases c : i = r
          · subst c; rw [hbit] at q; exact absurd q (by decide)
          · exact ht hb i (by omega) q
        obtain ⟨zn, en, sn⟩ := ih (r + 1) n m x z (by omega) (by omega) (by omega) (hx.no hm) hc hz tno
        rw [hpC_0 (mg_f hbit)] at en
        by_cases e : labN x (eA r) = labN x (eB r)
        · have eH := (hx.2 _ _ ya yb).mp e
          rw [if_pos (congrArg nI e), h5]
          cases b
          · rw [if_pos (by rfl), e0, en, b1_s, sn.1, h5, if_pos (by rfl)]
            refine ⟨zn, rfl, sn.cg (fun y hy => ⟨?_, ?_⟩)⟩
            · rintro ⟨M, h1, h2, h3⟩
              rcases (mod_s hm).mp h2 with q | q
              · exact ⟨M, h1, q, h3⟩
              · obtain ⟨q1, q2⟩ := mod_bit q hm
                exact absurd (by rw [hH M q2, hH M q2]; exact eH) ((h3.1.1 rfl).1 r hrR q1)
            · rintro ⟨M, h1, h2, h3⟩
              exact ⟨M, h1, (mod_s hm).mpr (Or.inl h2), h3⟩
          · rw [if_neg (by decide)]
            obtain ⟨zy, ey, sy⟩ := ih (r + 1) n (m + 2 ^ r) x z (by omega) (by omega) (by omega) (hx.same hm eH) hc hz (fun q => absurd q (by decide))
            rw [hpC_0 (mg_e (by rw [hp_up hm, hp_up hm]; exact eH)), hpC_cong (m := m) (fun i hi => tb_same hm hi)] at ey
            rw [e0, ey, b1_s]
            refine ⟨zy, rfl, sy.cg (fun y hy => ⟨?_, ?_⟩)⟩
            · rintro ⟨M, h1, h2, h3⟩
              rcases (mod_s hm).mp h2 with q | q
              · obtain ⟨q1, q2⟩ := mod_bit0 q hm
                rcases (h3.1.2 rfl).2.1 r hrR with g | g
                · rw [q1] at g; exact absurd g (by decide)
                · exact absurd (hp_keep (show r ≤ R by omega) (by rw [hH M q2, hH M q2]; exact eH)) g
              · exact ⟨M, h1, q, h3⟩
            · rintro ⟨M, h1, h2, h3⟩
              exact ⟨M, h1, (mod_s hm).mpr (Or.inr h2), h3⟩
        · have eH : ¬ hpP eA eB m r (eA r) = hpP eA eB m r (eB r) := fun q => e ((hx.2 _ _ ya yb).mpr q)
          rw [if_neg (fun q => e ((nI_eq (by omega) (by omega)).mp q)), e0, en, b1_s]
          obtain ⟨x', ex, hx'⟩ := relab_n (x := x) lb la
          have hcn : CN zn.1 P R ld eA eB od wt := hc.to sn.2.1 (fun c h => by have : c = 79 + k := h; omega)
          have tyes : b = false → ∀ i, i < r + 1 → (m + 2 ^ r).testBit i = true → ¬ hpP eA eB (m + 2 ^ r) i (eA i) = hpP eA eB (m + 2 ^ r) i (eB i) := fun hb i hi q => by
            have hh : ∀ p, hpP eA eB (m + 2 ^ r) i p = hpP eA eB m i p := hp_cong fun j hj => tb_same hm (by omega)
            rw [hh, hh]
            by_cases c : i = r
            · subst c; exact eH
            · exact ht hb i (by omega) (by rw [← tb_same hm (show i < r by omega)]; exact q)
          obtain ⟨zy, ey, sy⟩ := ih (r + 1) n (m + 2 ^ r) x' zn (by omega) (by omega) (by omega) (hx.join hP hm ya yb eH hx') hcn (by rw [sn.1]; exact hz) tyes
          rw [hpC_1 (mg_t (tb_up hm) (by rw [hp_up hm, hp_up hm]; exact eH)), hpC_cong (m := m) (fun i hi => tb_same hm hi)] at ey
          rw [ex, b1_s, e0, show nI (P - hpC eA eB m r) - (1 : Int32) = nI (P - (hpC eA eB m r + 1)) by rw [show P - hpC eA eB m r = (P - (hpC eA eB m r + 1)) + 1 by omega, mi1], ey, b1_s]
          refine ⟨zy, rfl, sn.tr sy (fun y hy => ⟨?_, ?_⟩)⟩
          · rintro ⟨M, h1, h2, h3⟩
            rcases (mod_s hm).mp h2 with q | q
            · exact Or.inl ⟨M, h1, q, h3⟩
            · exact Or.inr ⟨M, h1, q, h3⟩
          · rintro (⟨M, h1, h2, h3⟩ | ⟨M, h1, h2, h3⟩)
            · exact ⟨M, h1, (mod_s hm).mpr (Or.inl h2), h3⟩
            · exact ⟨M, h1, (mod_s hm).mpr (Or.inr h2), h3⟩
      · rw [if_neg (by rw [fa_le, sub_k (by omega) (by omega), it_nI (by omega)]; omega)]
        refine ⟨z, rfl, SP.no ?_⟩
        rintro y - ⟨M, h1, h2, h3, -⟩
        have := okw M h3
        have := hup M
        rw [hC M h2] at this
        omega
theorem bits_n {m : Nat} (hm : m < 4096) : Rm_bits (nI m) = some (nI (fb_ct (fun i => m.testBit i) 12)) := by
  unfold Rm_bits
  refine Eq.trans rfl (it2_seq (f := Rs_bits_4 (nI m) (fun u_3 => some u_3)) (fun j => nI (fb_ct (fun i => m.testBit i) j)) (fun j => nI j) 12 _ (by unfold fuel; omega) (fun j hj rc => ?_) (fun rc => ?_))
  · unfold Rs_bits_4
    rw [if_neg (show ¬ (12 : Int32) ≤ nI j from nI_ge (b := 12) (by omega) (by decide)), bitv hm hj, nm_s, pl1, fb_ct_succ, ad]
  · unfold Rs_bits_4
    rw [if_pos (by decide)]
theorem ring_n (n1 : NW P R ld eA eB od wt) {τ : RS} (n3 : RN τ P R ld eA eB od wt) {m : Nat} (hm : m < 2 ^ R) : ∃ τ', Rm_hasRing τ (nI m) = some (bI (!cD (∀ i, i < R → m.testBit i = true → ¬ hpP eA eB m i (eA i) = hpP eA eB m i (eB i))), τ') ∧ rK_ (fun c => c = 19) τ τ' := by
  have hP := n1.1
  have hR := n1.2.1
  have he : ∀ i, i < R → eA i < P ∧ eB i < P := fun i hi => by have := n1.2.2.2.1 i hi; omega
  have hm4 : m < 4096 := Nat.lt_of_lt_of_le hm (p2R hR)
  obtain ⟨τ', e, k, -⟩ := heaps_n n1 n3 hm4
  have hl := hpC_le (m := m) he (Nat.le_refl R)
  refine ⟨τ', ?_, k⟩
  unfold Rm_hasRing
  rw [e, b2_s, bits_n hm4, b1_s, n3.1, pk_sub (show P - hpC eA eB m R ≤ P by omega), show P - (P - hpC eA eB m R) = hpC eA eB m R by omega]
  have e12 : fb_ct (fun i => m.testBit i) 12 = fb_ct (fun i => m.testBit i) R := by
    have z : fb_ct (fun k => m.testBit (R + k)) (12 - R) = 0 := fb_ct_zero.mpr (fun k _ => Nat.testBit_lt_two_pow (Nat.lt_of_lt_of_le hm (Nat.pow_le_pow_right (by decide) (by omega))))
    have sp := fb_ct_split (fun i => m.testBit i) R (12 - R)
    rw [z, show R + (12 - R) = 12 by omega] at sp
    exact sp
  have hb := fb_ct_le (fun i => m.testBit i) R
  have iff : hpC eA eB m R = fb_ct (fun i => m.testBit i) R ↔ ∀ i, i < R → m.testBit i = true → ¬ hpP eA eB m i (eA i) = hpP eA eB m i (eB i) := by
    have sp : fb_ct (fun i => m.testBit i) R = hpC eA eB m R + fb_ct (fun i => m.testBit i && decide (hpP eA eB m i (eA i) = hpP eA eB m i (eB i))) R := by
      unfold hpC
      rw [← fb_ct_or]
      · refine fb_ct_cong fun i _ => ?_
        unfold mgB
        cases m.testBit i <;> cases decide (hpP eA eB m i (eA i) = hpP eA eB m i (eB i)) <;> rfl
      · rintro i - ⟨q1, q2⟩
        unfold mgB at q1
        rw [Bool.and_eq_true] at q1 q2
        rw [q2.2] at q1
        exact absurd q1.2 (by decide)
    rw [sp]
    constructor
    · intro q i hi hb' e'
      have := fb_ct_zero.mp (show fb_ct (fun i => m.testBit i && decide (hpP eA eB m i (eA i) = hpP eA eB m i (eB i))) R = 0 by omega) i hi
      rw [hb', decide_eq_true e'] at this
      exact absurd this (by decide)
    · intro q
      rw [fb_ct_zero.mpr (fun i hi => ?_)]
      · rfl
      · cases hb' : m.testBit i with
        | false => rfl
        | true => rw [decide_eq_false (q i hi hb')]; rfl
  rw [e12]
  by_cases c : hpC eA eB m R = fb_ct (fun i => m.testBit i) R
  · rw [if_pos (congrArg nI c), cD_t (iff.mp c)]; rfl
  · rw [if_neg (fun q => c ((nI_eq (by omega) (by omega)).mp q)), cD_f (fun q => c (iff.mpr q))]; rfl
end GATHER2

theorem st_trees : ST_trees INV := by
  intro σ τ h a1
  obtain ⟨⟨P, R, ld, eA, eB, od, wt, n1, n2, n3⟩, ⟨F, kd, W, f1, f2, f3⟩, -, -, -, ax⟩ := id h
  have hR := n1.2.1
  have hP := n1.1
  have hp := p2R hR
  by_cases hw : 1 ≤ a1.toInt ∧ a1.toInt ≤ P
  · obtain ⟨w, rfl, hw1, hw2⟩ : ∃ w : Nat, a1 = nI w ∧ 1 ≤ w ∧ w ≤ P := ⟨a1.toInt.toNat, of_toInt (by omega) (by omega), by omega, by omega⟩
    have er : Rm_trees τ (nI w) = it2 (Rs_trees_17 (nI w) (fun τ_21 => b2 (Rm_made τ_21 (3 : Int32)) (fun r_23 τ_24 => some (r_23, τ_24)))) fuel (0 : Int32) τ := by
      unfold Rm_trees
      rw [if_neg (fun q => in_0.mp q (by rw [n3.1, it_nI (by omega), it_nI (by omega), i32_1]; omega))]
    rw [er]
    refine mk_put (kn := 3) (w := fun m => decide (m < 2 ^ R) && cD (okT P R eA eB w m)) (C := fun c => c = 19) h ⟨f1, f2, f3⟩ (by omega) ?_ (fun c hc => by have : c = 19 := hc; unfold rScr; omega) (fun rc h6 => ?_) (fun hF m τ1 rc hm hq => ?_) (fun τ1 rc hq => ?_)
    · unfold D8m_trees
      rw [if_neg (show ¬ nI w < (1 : Int32) from nI_nlt (b := 1) hw1 (by omega)), n2.1, if_pos (nI_le hw2 (by omega))]
      refine DMK.of f2.1 ax.1 (fun hF σ0 hb0 => ?_)
      have n2' := n2.to hb0.1 (fun c hc => by omega)
      obtain ⟨z1, e1, s1⟩ := gather_n n1 F false w 0 0 hw1 hw2 R 0 24 0 (1985229328 : Int32) (dZ (dZ (σ0, fun _ => 0) 4 (nI w)) 5 (0 : Int32)) (by omega) (by omega) (by decide) (LBL.st hP) n2' ⟨rfl, rfl, rfl, rfl⟩ (fun _ i hi => absurd hi (Nat.not_lt_zero i))
      refine ⟨z1.1, ?_, DON.mk hb0 s1.2.1 (fun c hc => by unfold dScr; omega) (fun x hx => ?_)⟩
      · unfold D4m_findTrees
        rw [nm_s, nm_s, show (dZ (dZ (σ0, fun _ => 0) 4 (nI w)) 5 (0 : Int32)).1.1 1 0 = nI P from n2'.1, show D4m_gather F 24 (dZ (dZ (σ0, fun _ => 0) 4 (nI w)) 5 (0 : Int32)) 0 0 1985229328 (nI P) = _ from e1, b1_s, b1_s]
      · have hw : wb (dZ (dZ (σ0, fun _ => 0) 4 (nI w)) 5 (0 : Int32)).1 F x = false := hb0.2.2.1 x hx
        rw [Bool.eq_iff_iff, s1.2.2 x hx, hw, Bool.and_eq_true, decide_eq_true_eq, cD_iff]
        constructor
        · rintro (q | ⟨M, h1, h2, h3, h4⟩)
          · exact absurd q (by decide)
          · rw [h4, mir_mir (by omega)]
            exact ⟨h1, h3.1 rfl⟩
        · rintro ⟨h1, h2⟩
          exact Or.inr ⟨mir x, h1, by rw [Nat.pow_zero, Nat.mod_one], ⟨fun _ => h2, fun q => absurd q (by decide)⟩, (mir_mir hx).symm⟩
    · unfold Rs_trees_17
      rw [h6, if_neg (by decide), if_pos (by decide)]
      rfl
    · have n3' := n3.to hq.1 (fun c hc => hc.elim (fun e => by omega) (fun e => by have : c = 19 := e; omega))
      unfold Rs_trees_17
      rw [if_neg (show ¬ (4096 : Int32) ≤ nI m from nI_ge (b := 4096) (by omega) (by decide)), (hq.F (c := 6) (fun h => absurd (show (6 : Nat) = 19 from h) (by decide)) (by omega)).1, f3.1, if_neg (show ¬ (30 : Int32) ≤ nI F from nI_ge (b := 30) (by omega) (by decide)), net_n n1 n3']
      by_cases c : m < 2 ^ R
      · obtain ⟨τ2, e2, k2⟩ := ring_n n1 n3' c
        have n3'' := n3'.to k2 (fun c hc => by have : c = 19 := hc; omega)
        obtain ⟨τ3, e3, k3, -⟩ := heaps_n n1 n3'' hm
        have q2 := hq.sc rfl k2
        have q3 := q2.sc rfl k3
        rw [if_neg (nI_ge c (by omega)), e2, b2_s, decide_eq_true c, Bool.true_and]
        by_cases c1 : ∀ i, i < R → m.testBit i = true → ¬ hpP eA eB m i (eA i) = hpP eA eB m i (eB i)
        · rw [cD_t c1, if_pos (by rfl), e3, b2_s]
          by_cases c2 : P - hpC eA eB m R = w
          · rw [if_pos (congrArg nI c2), cD_t (show okT P R eA eB w m from ⟨c1, c2⟩)]
            exact ⟨τ3, q3, rfl⟩
          · rw [if_neg (fun q => c2 ((nI_eq (by omega) (by omega)).mp q)), cD_f (show ¬ okT P R eA eB w m from fun q => c2 q.2)]
            exact ⟨τ3, q3, rfl⟩
        · rw [cD_f c1, if_neg (by decide), cD_f (show ¬ okT P R eA eB w m from fun q => c1 q.1)]
          exact ⟨τ2, q2, rfl⟩
      · rw [if_pos (nI_le (by omega) (by omega)), decide_eq_false c, Bool.false_and]
        exact ⟨τ1, hq, rfl⟩
    · unfold Rs_trees_17
      rw [if_pos (show (4096 : Int32) ≤ nI 4096 by decide)]
      rfl
  · refine ⟨-2, σ, τ, ?_, ?_, h⟩
    · unfold D8m_trees
      by_cases c : a1 < 1
      · rw [if_pos c]
      · rw [if_neg c, n2.1, if_neg (by rw [fa_lt, i32_1] at c; rw [fa_le, it_nI (by omega)]; omega)]
    · unfold Rm_trees
      rw [if_pos (in_0.mpr (by rw [n3.1, it_nI (by omega), i32_1]; omega))]

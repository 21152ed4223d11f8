section PARTS
variable {P R : Nat} {ld eA eB od : Nat → Nat} {wt : Nat → Int32}
theorem isPart_n (n1 : NW P R ld eA eB od wt) {τ : RS} (n3 : RN τ P R ld eA eB od wt) {m w : Nat} {lo hi : Int32} (hm : m < 2 ^ R) (hw : w ≤ P) : ∃ τ', Rm_isPart τ (nI m) (nI w) lo hi = some (bI (cD (P - hpC eA eB m R = w ∧ okL P R ld eA eB lo hi m)), τ') ∧ rK_ (fun c => c = 19) τ τ' := by
  have hP := n1.1
  have hR := n1.2.1
  have he : ∀ i, i < R → eA i < P ∧ eB i < P := fun i hi => by have := n1.2.2.2.1 i hi; omega
  have hm4 : m < 4096 := Nat.lt_of_lt_of_le hm (p2R hR)
  obtain ⟨t, e, k, row⟩ := heaps_n n1 n3 hm4
  have n3' := n3.to k (fun c hc => by have : c = 19 := hc; omega)
  refine ⟨t, ?_, k⟩
  have hH : ∀ p, p < P → hpP eA eB m R p < P := fun p hp => Nat.lt_of_le_of_lt (hp_le R p) hp
  have roads : ∀ (b : Bool) (kx : Int32 → Option (Int32 × RS)), it2 (Rs_isPart_19 (nI m) lo hi t kx) fuel (bI b) (0 : Int32) = kx (bI (b && allB (fun i => m.testBit i || !decide (hpP eA eB m R (eA i) = hpP eA eB m R (eB i))) R)) := fun b kx => by
    refine Eq.trans (by rw [show bI b = bI (b && allB (fun i => m.testBit i || !decide (hpP eA eB m R (eA i) = hpP eA eB m R (eB i))) 0) by rw [show allB (fun i => m.testBit i || !decide (hpP eA eB m R (eA i) = hpP eA eB m R (eB i))) 0 = true from rfl, Bool.and_true]]; rfl) (it2_seq (f := Rs_isPart_19 (nI m) lo hi t kx) (fun j => bI (b && allB (fun i => m.testBit i || !decide (hpP eA eB m R (eA i) = hpP eA eB m R (eB i))) j)) (fun j => nI j) R _ (by unfold fuel; omega) (fun j hj rc => ?_) (fun rc => ?_))
    · obtain ⟨x1, x2, -, -⟩ := n3'.2.2.2 j hj
      obtain ⟨y1, y2, -⟩ := n1.e8 hj
      obtain ⟨ya, yb⟩ := he j hj
      have la := hH _ ya
      have lb := hH _ yb
      unfold Rs_isPart_19
      rw [n3'.2.1, if_neg (nI_ge hj (by omega)), pl1, show allB (fun i => m.testBit i || !decide (hpP eA eB m R (eA i) = hpP eA eB m R (eB i))) (j + 1) = (allB (fun i => m.testBit i || !decide (hpP eA eB m R (eA i) = hpP eA eB m R (eB i))) j && (m.testBit j || !decide (hpP eA eB m R (eA j) = hpP eA eB m R (eB j)))) from rfl, ← Bool.and_assoc]
      cases hb : (b && allB (fun i => m.testBit i || !decide (hpP eA eB m R (eA i) = hpP eA eB m R (eB i))) j) with
      | false =>
        rw [if_pos (by rfl), Bool.false_and]
        rfl
      | true =>
        rw [if_neg (by decide), Bool.true_and, rholds_n (by omega) (by omega)]
        cases hc : m.testBit j with
        | true => rw [if_neg (by decide)]; rfl
        | false =>
          rw [if_pos (by rfl), ml2, pl1, gi_n (by omega) (by decide), tn _ (by omega), x1, gi_n (by omega) (by decide), gi_n (by omega) (by decide), tn (2 * j + 1) (by omega), x2, gi_n (by omega) (by decide), tn _ (by omega), tn _ (by omega), row _ ya, row _ yb, Bool.false_or]
          by_cases q : hpP eA eB m R (eA j) = hpP eA eB m R (eB j)
          · rw [if_pos (congrArg nI q), decide_eq_true q]; rfl
          · rw [if_neg (fun z => q ((nI_eq (by omega) (by omega)).mp z)), decide_eq_false q]; rfl
    · unfold Rs_isPart_19
      rw [n3'.2.1, if_pos (nI_le (Nat.le_refl _) (by omega))]
  have sums : ∀ (p : Nat) (kx : Int32 → Option (Int32 × RS)), p < P → it2 (Rs_isPart_111 lo hi (nI p) t kx) fuel (0 : Int32) (0 : Int32) = kx (nI (ldS P ld (hpP eA eB m R) (hpP eA eB m R p))) := fun p kx hp => by
    refine Eq.trans rfl (it2_seq (f := Rs_isPart_111 lo hi (nI p) t kx) (fun j => nI (fb_sm (fun q => if hpP eA eB m R q = hpP eA eB m R p then ld q else 0) j)) (fun j => nI j) P _ (by unfold fuel; omega) (fun j hj rc => ?_) (fun rc => ?_))
    · have la := hH _ hp
      have lb := hH _ hj
      unfold Rs_isPart_111
      rw [n3'.1, if_neg (nI_ge hj (by omega)), gi_n (by omega) (by decide), gi_n (by omega) (by decide), tn _ (by omega), tn _ (by omega), row _ hp, row _ hj, pl1, fb_sm_succ]
      by_cases q : hpP eA eB m R j = hpP eA eB m R p
      · rw [if_pos (congrArg nI q), if_pos q, gi_n (by omega) (by decide), n3'.2.2.1 j hj, ad]
      · rw [if_neg (fun z => q ((nI_eq (by omega) (by omega)).mp z)), if_neg q, show ∀ n : Nat, nI n + (0 : Int32) = nI (n + 0) from fun n => nI_add n 0]
    · unfold Rs_isPart_111
      rw [n3'.1, if_pos (nI_le (Nat.le_refl _) (by omega))]
      rfl
  have posts : ∀ (b : Bool) (kx : Int32 → Option (Int32 × RS)), it2 (Rs_isPart_91 lo hi t kx) fuel (bI b) (0 : Int32) = kx (bI (b && allB (fun p => decide (lo.toInt ≤ (nI (ldS P ld (hpP eA eB m R) (hpP eA eB m R p))).toInt ∧ (nI (ldS P ld (hpP eA eB m R) (hpP eA eB m R p))).toInt ≤ hi.toInt)) P)) := fun b kx => by
    refine all_loop (f := Rs_isPart_91 lo hi t kx) (N := P) (by unfold fuel; omega) kx _ (fun rc w => by unfold Rs_isPart_91; rw [if_pos rfl]) (fun rc p hp => ?_) (fun rc => by unfold Rs_isPart_91; rw [if_neg (by decide), n3'.1, if_pos (nI_le (Nat.le_refl _) (by omega))]) b
    unfold Rs_isPart_91
    rw [if_neg (by decide), n3'.1, if_neg (nI_ge hp (by omega)), sums p _ hp, pl1, in_iff]
  have res : ∀ b : Bool, it2 (Rs_isPart_19 (nI m) lo hi t (fun u_24 => it2 (Rs_isPart_91 lo hi t (fun u_25 => gb u_25 (some (u_25, t)))) fuel u_24 (0 : Int32))) fuel (bI b) (0 : Int32) = some (bI (b && cD (okL P R ld eA eB lo hi m)), t) := fun b => by
    rw [roads, posts, gb_b, Bool.and_assoc]
    congr 4
    apply cD_eq
    rw [Bool.and_eq_true, allB_iff, allB_iff]
    unfold okL
    refine and_congr (forall_congr' fun i => forall_congr' fun hi => ?_) (forall_congr' fun p => forall_congr' fun hp => ?_)
    · rw [Bool.or_eq_true, Bool.not_eq_true', decide_eq_false_iff_not]
    · rw [decide_eq_true_eq]
  unfold Rm_isPart
  rw [e, b2_s]
  by_cases c : P - hpC eA eB m R = w
  · rw [if_pos (congrArg nI c), show (1 : Int32) = bI true from rfl, res, Bool.true_and]
    congr 4
    exact propext ⟨fun q => ⟨c, q⟩, fun q => q.2⟩
  · rw [if_neg (fun q => c ((nI_eq (by omega) (by omega)).mp q)), show it2 (Rs_isPart_19 (nI m) lo hi t (fun u_13 => it2 (Rs_isPart_91 lo hi t (fun u_22 => gb u_22 (some (u_22, t)))) fuel u_13 (0 : Int32))) fuel (0 : Int32) (0 : Int32) = _ from res false, Bool.false_and, cD_f (fun q => c q.1)]
end PARTS
theorem st_parts : ST_parts INV := by
  intro σ τ h a1 lo hi
  obtain ⟨⟨P, R, ld, eA, eB, od, wt, n1, n2, n3⟩, ⟨F, kd, W, f1, f2, f3⟩, -, -, -, ax⟩ := id h
  have hR := n1.2.1
  have hP := n1.1
  have hp := p2R hR
  by_cases hw : 1 ≤ a1.toInt ∧ a1.toInt ≤ P
  · obtain ⟨w, rfl, hw1, hw2⟩ : ∃ w : Nat, a1 = nI w ∧ 1 ≤ w ∧ w ≤ P := ⟨a1.toInt.toNat, of_toInt (by omega) (by omega), by omega, by omega⟩
    have er : Rm_parts τ (nI w) lo hi = it2 (Rs_parts_18 (nI w) lo hi (fun τ_15 => b2 (Rm_made τ_15 (5 : Int32)) (fun r_17 τ_18 => some (r_17, τ_18)))) fuel (0 : Int32) τ := by
      unfold Rm_parts
      rw [if_neg (fun q => in_0.mp q (by rw [n3.1, it_nI (by omega), it_nI (by omega), i32_1]; omega))]
    rw [er]
    refine mk_put (kn := 5) (w := fun m => decide (m < 2 ^ R) && cD (P - hpC eA eB m R = w ∧ okL P R ld eA eB lo hi m)) (C := fun c => c = 19) h ⟨f1, f2, f3⟩ (by omega) ?_ (fun c hc => by have : c = 19 := hc; unfold rScr; omega) (fun rc h6 => ?_) (fun hF m τ1 rc hm hq => ?_) (fun τ1 rc hq => ?_)
    · unfold D8m_parts
      rw [if_neg (show ¬ nI w < (1 : Int32) from nI_nlt (b := 1) hw1 (by omega)), n2.1, if_pos (nI_le hw2 (by omega))]
      refine DMK.of f2.1 ax.1 (fun hF σ0 hb0 => ?_)
      have n2' := n2.to hb0.1 (fun c hc => by omega)
      obtain ⟨z1, e1, s1⟩ := gather_n n1 F true w lo hi hw1 hw2 R 0 24 0 (1985229328 : Int32) (dZ (dZ (dZ (dZ (σ0, fun _ => 0) 4 (nI w)) 5 (1 : Int32)) 6 lo) 7 hi) (by omega) (by omega) (by decide) (LBL.st hP) n2' ⟨rfl, rfl, rfl, rfl⟩ (fun _ i hi => absurd hi (Nat.not_lt_zero i))
      refine ⟨z1.1, ?_, DON.mk hb0 s1.2.1 (fun c hc => by unfold dScr; omega) (fun x hx => ?_)⟩
      · unfold D4m_findParts
        rw [nm_s, nm_s, nm_s, nm_s, show (dZ (dZ (dZ (dZ (σ0, fun _ => 0) 4 (nI w)) 5 (1 : Int32)) 6 lo) 7 hi).1.1 1 0 = nI P from n2'.1, show D4m_gather F 24 (dZ (dZ (dZ (dZ (σ0, fun _ => 0) 4 (nI w)) 5 (1 : Int32)) 6 lo) 7 hi) 0 0 1985229328 (nI P) = _ from e1, b1_s, b1_s]
      · have hw : wb (dZ (dZ (dZ (dZ (σ0, fun _ => 0) 4 (nI w)) 5 (1 : Int32)) 6 lo) 7 hi).1 F x = false := hb0.2.2.1 x hx
        rw [Bool.eq_iff_iff, s1.2.2 x hx, hw, Bool.and_eq_true, decide_eq_true_eq, cD_iff]
        constructor
        · rintro (q | ⟨M, h1, h2, h3, h4⟩)
          · exact absurd q (by decide)
          · rw [h4, mir_mir (by omega)]
            exact ⟨h1, h3.2 rfl⟩
        · rintro ⟨h1, h2⟩
          exact Or.inr ⟨mir x, h1, by rw [Nat.pow_zero, Nat.mod_one], ⟨fun q => absurd q (by decide), fun _ => h2⟩, (mir_mir hx).symm⟩
    · unfold Rs_parts_18
      rw [h6, if_neg (by decide), if_pos (by decide)]
      rfl
    · have n3' := n3.to hq.1 (fun c hc => hc.elim (fun e => by omega) (fun e => by have : c = 19 := e; omega))
      unfold Rs_parts_18
      rw [if_neg (show ¬ (4096 : Int32) ≤ nI m from nI_ge (b := 4096) (by omega) (by decide)), (hq.F (c := 6) (fun h => absurd (show (6 : Nat) = 19 from h) (by decide)) (by omega)).1, f3.1, if_neg (show ¬ (30 : Int32) ≤ nI F from nI_ge (b := 30) (by omega) (by decide)), net_n n1 n3']
      by_cases c : m < 2 ^ R
      · obtain ⟨τ2, e2, k2⟩ := isPart_n (lo := lo) (hi := hi) n1 n3' c hw2
        have q2 := hq.sc rfl k2
        rw [if_neg (nI_ge c (by omega)), e2, b2_s, decide_eq_true c, Bool.true_and]
        refine ⟨τ2, q2, ?_⟩
        by_cases c1 : P - hpC eA eB m R = w ∧ okL P R ld eA eB lo hi m
        · rw [cD_t c1, if_neg (by decide)]; rfl
        · rw [cD_f c1, if_pos (by rfl)]; rfl
      · rw [if_pos (nI_le (by omega) (by omega)), decide_eq_false c, Bool.false_and]
        exact ⟨τ1, hq, rfl⟩
    · unfold Rs_parts_18
      rw [if_pos (show (4096 : Int32) ≤ nI 4096 by decide)]
      rfl
  · refine ⟨-2, σ, τ, ?_, ?_, h⟩
    · unfold D8m_parts
      by_cases c : a1 < 1
      · rw [if_pos c]
      · rw [if_neg c, n2.1, if_neg (by rw [fa_lt, i32_1] at c; rw [fa_le, it_nI (by omega)]; omega)]
    · unfold Rm_parts
      rw [if_pos (in_0.mpr (by rw [n3.1, it_nI (by omega), i32_1]; omega))]

section ROUNDS
variable {P R : Nat} {ld eA eB od : Nat → Nat} {wt : Nat → Int32}
theorem ring_loop (n1 : NW P R ld eA eB od wt) {τ : RS} (n3 : RN τ P R ld eA eB od wt) {m : Nat} (hm : m < 4096) (thr b : Bool) (kx : Int32 → Option (Int32 × RS)) : it2 (Rs_rounds_43 (bI thr) (nI m) τ kx) fuel (bI b) (0 : Int32) = kx (bI (b && allB (fun p => decide (atP R eA eB m p = 2) || (decide (atP R eA eB m p = 0) && !thr)) P)) := by
  have hP := n1.1
  have hR := n1.2.1
  refine all_loop (f := Rs_rounds_43 (bI thr) (nI m) τ kx) (N := P) (by unfold fuel; omega) kx _ (fun rc w => by unfold Rs_rounds_43; rw [if_pos rfl]) (fun rc p hp => ?_) (fun rc => by unfold Rs_rounds_43; rw [if_neg (by decide), n3.1, if_pos (nI_le (Nat.le_refl _) (by omega))]) b
  have hle : atP R eA eB m p ≤ R := fb_ct_le (fun r => m.testBit r && (decide (eA r = p) || decide (eB r = p))) R
  unfold Rs_rounds_43
  rw [if_neg (by decide), n3.1, if_neg (nI_ge hp (by omega)), at_n n1 n3 hm (by omega), b1_s, pl1]
  by_cases d2 : atP R eA eB m p = 2
  · rw [if_pos (by rw [d2]; rfl), decide_eq_true d2]; rfl
  · rw [if_neg (show ¬ nI (atP R eA eB m p) = (2 : Int32) from fun q => d2 ((nI_eq (b := 2) (by omega) (by omega)).mp q)), decide_eq_false d2, Bool.false_or]
    by_cases d0 : atP R eA eB m p = 0
    · rw [if_pos (by rw [d0]; rfl), decide_eq_true d0, Bool.true_and]
      cases thr <;> rfl
    · rw [if_neg (nI_ne0 (by omega) (by omega)), decide_eq_false d0]; rfl
theorem rings_n (n1 : NW P R ld eA eB od wt) (k least : Nat) (hl : least < 100) {z : DZ} (hc : CN z.1 P R ld eA eB od wt) (h3 : z.2 3 = nI least) :
    ∃ z', it2 (D4s_findRounds_25 k (fun t => some t)) fuel (0 : Int32) z = some z' ∧ dK_ (fun c => c = 79 + k) z.1 z'.1 ∧ ∀ x, x < 4096 → (wb z'.1 k x = true ↔ wb z.1 k x = true ∨ ∃ Q, Q < 4096 ∧ (∃ s, s < P ∧ GOO R eA eB s 8 s (2 ^ s - 1) 0 Q) ∧ least ≤ fb_ct (fun i => Q.testBit i) 12 ∧ x = mir Q) := by
  have hP := n1.1
  have hR := n1.2.1
  refine it2_ind (f := D4s_findRounds_25 k (fun t => some t)) (P := fun n v t => ∃ j, j + n = P ∧ v = nI j ∧ t.2 3 = nI least ∧ SP k (z.1, z.2) (t.1, z.2) (fun x => ∃ Q, Q < 4096 ∧ (∃ s, s < j ∧ GOO R eA eB s 8 s (2 ^ s - 1) 0 Q) ∧ least ≤ fb_ct (fun i => Q.testBit i) 12 ∧ x = mir Q)) (Q := fun o => ∃ z', o = some z' ∧ dK_ (fun c => c = 79 + k) z.1 z'.1 ∧ ∀ x, x < 4096 → (wb z'.1 k x = true ↔ wb z.1 k x = true ∨ ∃ Q, Q < 4096 ∧ (∃ s, s < P ∧ GOO R eA eB s 8 s (2 ^ s - 1) 0 Q) ∧ least ≤ fb_ct (fun i => Q.testBit i) 12 ∧ x = mir Q)) ?_ fuel P (0 : Int32) z (by unfold fuel; omega) ⟨0, by omega, rfl, h3, SP.no (by rintro x hx ⟨Q, -, ⟨s, hs, -⟩, -⟩; exact absurd hs (Nat.not_lt_zero s))⟩
  rintro n v t rc ⟨j, hj, rfl, ht, sp⟩ ih
  have hct : CN t.1 P R ld eA eB od wt := hc.to sp.2.1 (fun c h => by have : c = 79 + k := h; omega)
  unfold D4s_findRounds_25
  rw [hct.1]
  by_cases c : j = P
  · subst c
    rw [if_pos (nI_le (Nat.le_refl _) (by omega))]
    exact ⟨t, rfl, sp.2.1, sp.2.2⟩
  · have p2 : 2 ^ j ≤ 2 ^ 7 := Nat.pow_le_pow_right (by decide) (by omega)
    have pp := Nat.two_pow_pos j
    obtain ⟨z1, e1, s1⟩ := walk_n n1 k j least (by omega) hl (z := dZ t 2 (nI j)) (v := j) (S := 2 ^ j - 1) (by omega) (by omega) hct rfl (by rw [← ht]; rfl)
    rw [if_neg (nI_ge (by omega) (by omega)), nm_s, shl1 (by omega), show nI (2 ^ j) - (1 : Int32) = nI (2 ^ j - 1) from pk_sub (b := 1) pp, e1, b1_s, pl1]
    refine ih (n - 1) _ _ (by omega) ⟨j + 1, by omega, rfl, by rw [s1.1]; exact ht, SP.tr sp (z3 := (z1.1, z.2)) (show SP k (t.1, z.2) (z1.1, z.2) _ from ⟨rfl, s1.2.1, s1.2.2⟩) (fun x hx => ?_)⟩
    constructor
    · rintro ⟨Q, h1, ⟨s, hs, h⟩, h'⟩
      by_cases e : s = j
      · subst e; exact Or.inr ⟨Q, h1, h, h'⟩
      · exact Or.inl ⟨Q, h1, ⟨s, by omega, h⟩, h'⟩
    · rintro (⟨Q, h1, ⟨s, hs, h⟩, h'⟩ | ⟨Q, h1, h, h'⟩)
      · exact ⟨Q, h1, ⟨s, by omega, h⟩, h'⟩
      · exact ⟨Q, h1, ⟨j, by omega, h⟩, h'⟩
end ROUNDS
theorem st_rounds : ST_rounds INV := by
  intro σ τ h a1 h1
  obtain ⟨⟨P, R, ld, eA, eB, od, wt, n1, n2, n3⟩, ⟨F, kd, W, f1, f2, f3⟩, -, -, -, ax⟩ := id h
  have hR := n1.2.1
  have hP := n1.1
  have hp := p2R hR
  obtain ⟨thr, rfl⟩ := bI_01' h1
  have er : Rm_rounds τ (bI thr) = it2 (Rs_rounds_2 (bI thr) (fun τ_24 => b2 (Rm_made τ_24 (2 : Int32)) (fun r_26 τ_27 => some (r_26, τ_27)))) fuel (0 : Int32) τ := rfl
  rw [er]
  refine mk_put (kn := 2) (w := fun m => decide (m < 2 ^ R) && cD (roundP P R eA eB thr m)) (C := fun c => c = 19) h ⟨f1, f2, f3⟩ (by omega) ?_ (fun c hc => by have : c = 19 := hc; unfold rScr; omega) (fun rc h6 => ?_) (fun hF m τ1 rc hm hq => ?_) (fun τ1 rc hq => ?_)
  · unfold D8m_rounds
    refine DMK.of f2.1 ax.1 (fun hF σ0 hb0 => ?_)
    have n2' := n2.to hb0.1 (fun c hc => by omega)
    obtain ⟨z1, e1, k1, w1⟩ := rings_n n1 F (if thr = true then (if 3 < P then P else 3) else 3) (by split <;> (try split) <;> omega) (z := dZ (σ0, fun _ => 0) 3 (nI (if thr = true then (if 3 < P then P else 3) else 3))) n2' rfl
    refine ⟨z1.1, ?_, DON.mk hb0 k1 (fun c hc => by unfold dScr; omega) (fun x hx => ?_)⟩
    · unfold D4m_findRounds
      cases thr
      · rw [if_pos (by rfl), nm_s, show it2 (D4s_findRounds_25 F (fun τ_9 => some τ_9)) fuel (0 : Int32) (dZ (σ0, fun _ => 0) 3 (3 : Int32)) = _ from e1, b1_s]
      · have ee : (if (3 : Int32) < ((σ0, fun _ => 0) : DZ).1.1 1 0 then ((σ0, fun _ => 0) : DZ).1.1 1 0 else (3 : Int32)) = nI (if 3 < P then P else 3) := by
          rw [show ((σ0, fun _ => 0) : DZ).1.1 1 0 = nI P from n2'.1]
          by_cases c : 3 < P
          · rw [if_pos c, if_pos (show (3 : Int32) < nI P from nI_lt (a := 3) c (by omega))]
          · rw [if_neg c, if_neg (show ¬ (3 : Int32) < nI P from nI_nlt (a := 3) (by omega) (by omega))]; rfl
        rw [if_neg (by decide), ee, nm_s, show it2 (D4s_findRounds_25 F (fun τ_12 => some τ_12)) fuel (0 : Int32) (dZ (σ0, fun _ => 0) 3 (nI (if 3 < P then P else 3))) = _ from e1, b1_s]
    · have hw : wb (dZ (σ0, fun _ => 0) 3 (nI (if thr = true then (if 3 < P then P else 3) else 3))).1 F x = false := hb0.2.2.1 x hx
      rw [Bool.eq_iff_iff, w1 x hx, hw, Bool.and_eq_true, decide_eq_true_eq, cD_iff]
      constructor
      · rintro (q | ⟨M, h1, ⟨s, hs, h2⟩, h3, h4⟩)
        · exact absurd q (by decide)
        · rw [h4, mir_mir h1]
          have hM : M < 2 ^ R := by
            obtain ⟨v, S, q, n, i, t, hi, -, -, hQ⟩ := goo_sound n1.he (Or.inr rfl) 8 s (2 ^ s - 1) 0 0 (TR.st hs) h2
            rw [hQ]
            exact Nat.or_lt_two_pow t.1.2.1 (Nat.pow_lt_pow_right (by decide) hi)
          exact ⟨hM, (round_iff n1.he n1.un hP hR thr hM).mp ⟨s, hs, h2, h3⟩⟩
      · rintro ⟨h1, h2⟩
        obtain ⟨s, hs, g1, g2⟩ := (round_iff n1.he n1.un hP hR thr h1).mpr h2
        exact Or.inr ⟨mir x, by omega, ⟨s, hs, g1⟩, g2, (mir_mir hx).symm⟩
  · unfold Rs_rounds_2
    rw [h6, if_neg (by decide), if_pos (by decide)]
    rfl
  · have n3' := n3.to hq.1 (fun c hc => hc.elim (fun e => by omega) (fun e => by have : c = 19 := e; omega))
    unfold Rs_rounds_2
    rw [if_neg (show ¬ (4096 : Int32) ≤ nI m from nI_ge (b := 4096) (by omega) (by decide)), (hq.F (c := 6) (fun h => absurd (show (6 : Nat) = 19 from h) (by decide)) (by omega)).1, f3.1, if_neg (show ¬ (30 : Int32) ≤ nI F from nI_ge (b := 30) (by omega) (by decide)), net_n n1 n3']
    by_cases c : m < 2 ^ R
    · obtain ⟨τ2, e2, k2⟩ := isOne_n n1 n3' hm
      have n3'' := n3'.to k2 (fun c hc => by have : c = 19 := hc; omega)
      refine ⟨τ2, hq.sc rfl k2, ?_⟩
      have all : cD (roundP P R eA eB thr m) = (cD (oneP P R eA eB m) && allB (fun p => decide (atP R eA eB m p = 2) || (decide (atP R eA eB m p = 0) && !thr)) P) := by
        symm
        apply cD_eq
        unfold roundP
        rw [Bool.and_eq_true, cD_iff, allB_iff]
        refine and_congr_right fun _ => forall_congr' fun p => forall_congr' fun hp => ?_
        rw [Bool.or_eq_true, Bool.and_eq_true, decide_eq_true_eq, decide_eq_true_eq, Bool.not_eq_true']
      rw [if_neg (nI_ge c (by omega)), e2, b2_s, decide_eq_true c, Bool.true_and, all]
      by_cases d : oneP P R eA eB m
      · rw [cD_t d, if_neg (by decide), show (1 : Int32) = bI true from rfl, ring_loop n1 n3'' hm]
      · rw [cD_f d, if_pos (by rfl), show it2 (Rs_rounds_43 (bI thr) (nI m) τ2 (fun u_18 => b1 (Rm_put τ2 (nI m) u_18) (fun τ_20 => rc (nI m + (1 : Int32)) τ_20))) fuel (0 : Int32) (0 : Int32) = _ from ring_loop n1 n3'' hm thr false _]
    · refine ⟨τ1, hq, ?_⟩
      rw [if_pos (nI_le (by omega) (by omega)), show it2 (Rs_rounds_43 (bI thr) (nI m) τ1 (fun u_11 => b1 (Rm_put τ1 (nI m) u_11) (fun τ_13 => rc (nI m + (1 : Int32)) τ_13))) fuel (0 : Int32) (0 : Int32) = _ from ring_loop n1 n3' hm thr false _, decide_eq_false c, Bool.false_and]
      rfl
  · unfold Rs_rounds_2
    rw [if_pos (show (4096 : Int32) ≤ nI 4096 by decide)]
    rfl

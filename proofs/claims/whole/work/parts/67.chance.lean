/-! ===== the chance ===== -/
def fbP (f : Nat → Nat) : Nat → Nat
  | 0 => 1
  | n + 1 => fbP f n * f n
theorem fbP_cong {f g : Nat → Nat} : ∀ {n : Nat}, (∀ k, k < n → f k = g k) → fbP f n = fbP g n
  | 0, _ => rfl
  | n + 1, h => by
    show fbP f n * f n = fbP g n * g n
    rw [fbP_cong (fun k hk => h k (by omega)), h n (by omega)]
theorem fbP_add (f : Nat → Nat) (m : Nat) : ∀ n, fbP f (m + n) = fbP f m * fbP (fun i => f (m + i)) n
  | 0 => (Nat.mul_one _).symm
  | n + 1 => by
    show fbP f (m + n) * f (m + n) = fbP f m * (fbP (fun i => f (m + i)) n * f (m + n))
    rw [fbP_add f m n, Nat.mul_assoc]
theorem fbP_8 : ∀ n, fbP (fun _ => 8) n = 2 ^ (3 * n)
  | 0 => rfl
  | n + 1 => by
    show fbP (fun _ => 8) n * 8 = _
    rw [fbP_8 n, Nat.mul_add, Nat.pow_add]
theorem sm_mulr (f : Nat → Nat) (c : Nat) : ∀ n, fb_sm (fun i => f i * c) n = fb_sm f n * c
  | 0 => (Nat.zero_mul c).symm
  | n + 1 => by rw [fb_sm_succ, sm_mulr f c n, fb_sm_succ, Nat.add_mul]
theorem sm_pair (g : Nat → Nat) : ∀ n, fb_sm g (2 * n) = fb_sm (fun i => g (2 * i) + g (2 * i + 1)) n
  | 0 => rfl
  | n + 1 => by
    rw [show 2 * (n + 1) = 2 * n + 1 + 1 by omega, fb_sm_succ, fb_sm_succ, sm_pair g n, fb_sm_succ]
    omega
def qv (pr : Nat → Nat) (r : Nat) (b : Bool) : Nat := if b = true then pr r else 8 - pr r
def qQ (pr : Nat → Nat) (k n : Nat) : Nat := fbP (fun r => qv pr r (n.testBit (k - 1 - r))) k
theorem qQ_s (pr : Nat → Nat) (k n : Nat) (c : Nat) (hc : c < 2) : qQ pr (k + 1) (2 * n + c) = qQ pr k n * qv pr k (decide (c = 1)) := by
  unfold qQ
  show fbP (fun r => qv pr r ((2 * n + c).testBit (k + 1 - 1 - r))) k * qv pr k ((2 * n + c).testBit (k + 1 - 1 - k)) = _
  have e0 : (2 * n + c).testBit (k + 1 - 1 - k) = decide (c = 1) := by
    rw [show k + 1 - 1 - k = 0 by omega, Nat.testBit_zero]
    exact decide_eq_decide.mpr (by omega)
  rw [e0]
  refine congrArg (fun z => z * qv pr k (decide (c = 1))) (fbP_cong fun r hr => ?_)
  obtain ⟨j, hj⟩ : ∃ j, k + 1 - 1 - r = j + 1 := ⟨k - 1 - r, by omega⟩
  rw [hj, Nat.testBit_succ, show (2 * n + c) / 2 = n by omega, show j = k - 1 - r by omega]
/-- reading R bits backwards -/
def rvR (R n : Nat) : Nat := mir (n * 2 ^ (12 - R))
theorem pl_lt {R n : Nat} (hR : R ≤ 12) (hn : n < 2 ^ R) : n * 2 ^ (12 - R) < 4096 := by
  have : n * 2 ^ (12 - R) < 2 ^ R * 2 ^ (12 - R) := Nat.mul_lt_mul_of_pos_right hn (Nat.two_pow_pos _)
  rwa [← Nat.pow_add, Nat.add_sub_cancel' hR] at this
theorem rvR_tb {R n : Nat} (hR : R ≤ 12) (hn : n < 2 ^ R) (i : Nat) : (rvR R n).testBit i = (decide (i < R) && n.testBit (R - 1 - i)) := by
  unfold rvR
  have hl := pl_lt hR hn
  rcases Nat.lt_or_ge i 12 with c | c
  · rw [mir_tb hl c, mul_tb]
    by_cases d : i < R
    · rw [decide_eq_true d, decide_eq_true (by omega), show 11 - i - (12 - R) = R - 1 - i by omega]
    · rw [decide_eq_false d, decide_eq_false (by omega)]; rfl
  · rw [tb_hi (mir_lt hl) c, decide_eq_false (by omega)]; rfl
theorem rvR_lt {R n : Nat} (hR : R ≤ 12) (hn : n < 2 ^ R) : rvR R n < 2 ^ R :=
  (lt_2R (mir_lt (pl_lt hR hn)) hR).mpr fun i _ hi => by
    have := rvR_tb hR hn i
    rw [decide_eq_false (by omega)] at this
    exact this
theorem rvR_rvR {R n : Nat} (hR : R ≤ 12) (hn : n < 2 ^ R) : rvR R (rvR R n) = n := by
  apply Nat.eq_of_testBit_eq
  intro i
  rw [rvR_tb hR (rvR_lt hR hn), rvR_tb hR hn]
  by_cases c : i < R
  · rw [decide_eq_true c, decide_eq_true (by omega), show R - 1 - (R - 1 - i) = i by omega]; rfl
  · rw [decide_eq_false c, show n.testBit i = false from Nat.testBit_lt_two_pow (Nat.lt_of_lt_of_le hn (Nat.pow_le_pow_right (by decide) (by omega)))]; rfl
section CHD
variable {σ : DS} {τ : RS} {P R : Nat} {ld eA eB od : Nat → Nat} {wt : Nat → Int32}
def prO (od : Nat → Nat) (road : Int32) (e r : Nat) : Nat := if nI r = road then e else od r
theorem eighths_n (n1 : NW P R ld eA eB od wt) (n2 : CN σ P R ld eA eB od wt) {r : Nat} (hr : r < R) : D2m_eighthsOf σ (nI r) = some (nI (od r)) := by
  have hR := n1.2.1
  unfold D2m_eighthsOf
  rw [if_neg (fun q => (isRoad_0 n1 n2).mp q (by rw [it_nI (by omega)]; omega)), gi_n (by omega) (by decide), tn _ (by omega), (n2.2.2.2 r hr).2.2.2]
theorem l2048 {j : Nat} (h : j < 2048) : ¬ (2048 : Int32) ≤ nI j := fun q => by
  rw [fa_le, show (2048 : Int32).toInt = 2048 from rfl, it_nI (by omega)] at q
  omega
theorem chanceOf_n (n1 : NW P R ld eA eB od wt) (n2 : CN σ P R ld eA eB od wt) {road : Int32} {e : Nat} (he : e ≤ 8) : ∃ σ', D6m_chanceOf σ 30 road (nI e) = some (lN (fb_sm (fun n => (if wb σ 30 (n * 2 ^ (12 - R)) = true then 1 else 0) * qQ (prO od road e) R n) (2 ^ R) * 2 ^ (3 * (12 - R))), σ') ∧ dK_ (fun c => c = 15) σ σ' := by
  have hR := n1.2.1
  have hp2 := p2R hR
  have h12 : (12 : Int32) - nI R = nI (12 - R) := pk_sub (a := 12) hR
  have hpr : ∀ r, r < R → prO od road e r ≤ 8 := fun r hr => by
    unfold prO
    have := (n1.2.2.2.1 r hr).2.2.1
    split <;> omega
  -- the row of yes and no
  have lpA : ∀ kx : DS → Option (Int64 × DS), ∃ s, it2 (D6s_chanceOf_20 30 road (nI e) (nI (12 - R)) (nI (2 ^ R)) kx) fuel (0 : Int32) σ = kx s ∧ dK_ (fun c => c = 15) σ s ∧ ∀ n, n < 2 ^ R → s.2.2 15 n = lN (if wb σ 30 (n * 2 ^ (12 - R)) = true then 1 else 0) := fun kx => by
    refine it2_ind (f := D6s_chanceOf_20 30 road (nI e) (nI (12 - R)) (nI (2 ^ R)) kx) (P := fun n v s => ∃ j, j + n = 2 ^ R ∧ v = nI j ∧ dK_ (fun c => c = 15) σ s ∧ ∀ n, n < j → s.2.2 15 n = lN (if wb σ 30 (n * 2 ^ (12 - R)) = true then 1 else 0)) (Q := fun r => ∃ s, r = kx s ∧ dK_ (fun c => c = 15) σ s ∧ ∀ n, n < 2 ^ R → s.2.2 15 n = lN (if wb σ 30 (n * 2 ^ (12 - R)) = true then 1 else 0)) ?_ fuel (2 ^ R) (0 : Int32) σ (by unfold fuel; omega) ⟨0, by omega, rfl, dK_.rf, fun n hn => absurd hn (Nat.not_lt_zero n)⟩
    rintro n v s rc ⟨j, hj, rfl, k1, w1⟩ ih
    unfold D6s_chanceOf_20
    by_cases c : j = 2 ^ R
    · rw [if_pos (by rw [c]; exact nI_le (Nat.le_refl _) (by omega))]
      exact ⟨s, rfl, k1, fun n hn => w1 n (by omega)⟩
    · have hjl := pl_lt hR (show j < 2 ^ R by omega)
      rw [if_neg (nI_ge (by omega) (by omega)), if_neg (l4096 (by omega)), shl_n (by omega) (by omega), holds_n hjl, b1_s, wb_dK k1 (by omega), gi_n (by omega) (by decide), gi_n (by omega) (by decide), nm_s, nm_s, tn _ (by omega), pl1]
      have fin : ∀ x : Int64, x = lN (if wb σ 30 (j * 2 ^ (12 - R)) = true then 1 else 0) → ∃ t, rc (nI (j + 1)) (dJ s 15 j x) = kx t ∧ dK_ (fun c => c = 15) σ t ∧ ∀ n, n < 2 ^ R → t.2.2 15 n = lN (if wb σ 30 (n * 2 ^ (12 - R)) = true then 1 else 0) := fun x hx => by
        refine ih (n - 1) _ _ (by omega) ⟨j + 1, by omega, rfl, k1.tr (dK_J rfl), fun n hn => ?_⟩
        by_cases e : n = j
        · subst e; rw [dJ_s]; exact hx
        · rw [dJ_n e]; exact w1 n (by omega)
      cases d : wb σ 30 (j * 2 ^ (12 - R))
      · rw [d] at fin
        rw [if_pos (by rfl)]
        exact fin _ rfl
      · rw [d] at fin
        rw [if_neg (by decide)]
        exact fin _ rfl
  -- one road folded
  have fold : ∀ (k : Nat) (hk : k < R) (s : DS) (A : Nat → Nat) (kx : DS → Option (Int64 × DS)) (v7 : Int32), (∀ n, n < 2 ^ (k + 1) → s.2.2 15 n = lN (A n)) → ∃ t, it2 (D6s_chanceOf_106 road (nI e) (nI (12 - R)) (nI (2 ^ k)) v7 (nI (prO od road e k)) kx) fuel (0 : Int32) s = kx t ∧ dK_ (fun c => c = 15) s t ∧ ∀ n, n < 2 ^ k → t.2.2 15 n = lN (A (2 * n) * (8 - prO od road e k) + A (2 * n + 1) * prO od road e k) := fun k hk s A kx v7 hA => by
    have hk1 : 2 ^ (k + 1) = 2 * 2 ^ k := by rw [Nat.pow_succ, Nat.mul_comm]
    have hk2 : 2 ^ (k + 1) ≤ 4096 := p2R (by omega)
    have h8 : (8 : Int32) - nI (prO od road e k) = nI (8 - prO od road e k) := pk_sub (a := 8) (hpr k hk)
    have hpk := hpr k hk
    refine it2_ind (f := D6s_chanceOf_106 road (nI e) (nI (12 - R)) (nI (2 ^ k)) v7 (nI (prO od road e k)) kx) (P := fun n v t => ∃ j, j + n = 2 ^ k ∧ v = nI j ∧ dK_ (fun c => c = 15) s t ∧ ∀ x, x < 2 ^ (k + 1) → t.2.2 15 x = if x < j then lN (A (2 * x) * (8 - prO od road e k) + A (2 * x + 1) * prO od road e k) else lN (A x)) (Q := fun r => ∃ t, r = kx t ∧ dK_ (fun c => c = 15) s t ∧ ∀ n, n < 2 ^ k → t.2.2 15 n = lN (A (2 * n) * (8 - prO od road e k) + A (2 * n + 1) * prO od road e k)) ?_ fuel (2 ^ k) (0 : Int32) s (by unfold fuel; omega) ⟨0, by omega, rfl, dK_.rf, fun x hx => by rw [if_neg (Nat.not_lt_zero x)]; exact hA x hx⟩
    rintro n v t rc ⟨j, hj, rfl, k1, w1⟩ ih
    unfold D6s_chanceOf_106
    by_cases c : j = 2 ^ k
    · rw [if_pos (by rw [c]; exact nI_le (Nat.le_refl _) (by omega))]
      exact ⟨t, rfl, k1, fun x hx => by rw [w1 x (by omega), if_pos (by omega)]⟩
    · rw [if_neg (nI_ge (by omega) (by omega)), if_neg (l2048 (by omega)), ml2, pl1, pl1, gi_n (by omega) (by decide), gi_n (by omega) (by decide), gi_n (by omega) (by decide), nm_s, tn _ (by omega), tn _ (by omega), tn _ (by omega), w1 (2 * j) (by omega), w1 (2 * j + 1) (by omega), if_neg (by omega), if_neg (by omega), h8, nI_l (by omega), nI_l (by omega), lN_mul, lN_mul, lN_add]
      refine ih (n - 1) _ _ (by omega) ⟨j + 1, by omega, rfl, k1.tr (dK_J rfl), fun x hx => ?_⟩
      by_cases e1 : x = j
      · rw [e1, dJ_s, if_pos (by omega)]
      · rw [dJ_n e1, w1 x hx]
        by_cases e2 : x < j
        · rw [if_pos e2, if_pos (by omega)]
        · rw [if_neg e2, if_neg (by omega)]
  obtain ⟨s1, q1, k1, w1⟩ := lpA (fun τ_13 => it3 (D6s_chanceOf_73 road (nI e) (nI (12 - R)) (fun τ_27 => gi (0 : Int32) 4096 (some (((τ_27.2.2 15 ((0 : Int32)).toNatClampNeg) <<< ((((3 : Int32) * (nI (12 - R)))).toInt64 &&& 63)), τ_27)))) fuel (nI (2 ^ R)) ((τ_13.1 1 1) - (1 : Int32)) τ_13)
  have lpB : ∃ s, it3 (D6s_chanceOf_73 road (nI e) (nI (12 - R)) (fun τ_27 => gi (0 : Int32) 4096 (some (((τ_27.2.2 15 ((0 : Int32)).toNatClampNeg) <<< ((((3 : Int32) * (nI (12 - R)))).toInt64 &&& 63)), τ_27)))) fuel (nI (2 ^ R)) ((s1.1 1 1) - (1 : Int32)) s1 = some (lN (fb_sm (fun n => (if wb σ 30 (n * 2 ^ (12 - R)) = true then 1 else 0) * qQ (prO od road e) R n) (2 ^ R) * 2 ^ (3 * (12 - R))), s) ∧ dK_ (fun c => c = 15) σ s := by
    generalize hT : fb_sm (fun n => (if wb σ 30 (n * 2 ^ (12 - R)) = true then 1 else 0) * qQ (prO od road e) R n) (2 ^ R) = T
    refine it3_ind (f := D6s_chanceOf_73 road (nI e) (nI (12 - R)) (fun τ_27 => gi (0 : Int32) 4096 (some (((τ_27.2.2 15 ((0 : Int32)).toNatClampNeg) <<< ((((3 : Int32) * (nI (12 - R)))).toInt64 &&& 63)), τ_27)))) (P := fun k v w s => k ≤ R ∧ v = nI (2 ^ k) ∧ w.toInt = (k : Int) - 1 ∧ dK_ (fun c => c = 15) σ s ∧ ∃ A : Nat → Nat, (∀ n, n < 2 ^ k → s.2.2 15 n = lN (A n)) ∧ fb_sm (fun n => A n * qQ (prO od road e) k n) (2 ^ k) = T) (Q := fun o => ∃ s, o = some (lN (T * 2 ^ (3 * (12 - R))), s) ∧ dK_ (fun c => c = 15) σ s) ?_ fuel R (nI (2 ^ R)) ((s1.1 1 1) - (1 : Int32)) s1 (by unfold fuel; omega) ⟨Nat.le_refl _, rfl, ?_, k1, _, w1, hT⟩
    · rintro k v w s rc ⟨hk, rfl, hw, k2, A, hA, hAT⟩ ih
      unfold D6s_chanceOf_73
      by_cases c : k = 0
      · subst c
        rw [if_pos (by rw [fa_lt, t0]; omega)]
        refine ⟨s, ?_, k2⟩
        have hA0 : A 0 = T := by
          have : fb_sm (fun n => A n * qQ (prO od road e) 0 n) 1 = T := hAT
          rw [fb_sm_succ] at this
          have e1 : fb_sm (fun n => A n * qQ (prO od road e) 0 n) 0 = 0 := rfl
          have e2 : qQ (prO od road e) 0 0 = 1 := rfl
          rw [e1, e2, Nat.zero_add, Nat.mul_one] at this
          exact this
        show gi (nI 0) 4096 _ = _
        rw [gi_n (by omega) (by decide), show (0 : Int32).toNatClampNeg = 0 from rfl, hA 0 (by decide), hA0, show (3 : Int32) * nI (12 - R) = nI (3 * (12 - R)) from pk_mul 3 (12 - R), wb_shl T (by omega)]
      · obtain ⟨k, rfl⟩ : ∃ j, k = j + 1 := ⟨k - 1, by omega⟩
        have hwk : w = nI k := of_toInt (by omega) (by omega)
        subst hwk
        have hk2 : 2 ^ (k + 1) ≤ 4096 := p2R (by omega)
        have hk1 : 2 ^ (k + 1) = 2 * 2 ^ k := by rw [Nat.pow_succ, Nat.mul_comm]
        have hdiv : nI (2 ^ (k + 1)) / (2 : Int32) = nI (2 ^ k) := by
          rw [show (2 : Int32) = nI 2 from rfl, pk_div (by omega) (by decide) (by decide), hk1, Nat.mul_div_cancel_left _ (by decide)]
        have nxt : ∀ t, dK_ (fun c => c = 15) s t → (∀ n, n < 2 ^ k → t.2.2 15 n = lN (A (2 * n) * (8 - prO od road e k) + A (2 * n + 1) * prO od road e k)) → ∃ s, rc (nI (2 ^ k)) (nI k + (-1 : Int32)) t = some (lN (T * 2 ^ (3 * (12 - R))), s) ∧ dK_ (fun c => c = 15) σ s := fun t kt wt => by
          refine ih k _ _ _ (by omega) ⟨by omega, rfl, ?_, k2.tr kt, _, wt, ?_⟩
          · rw [fb_addI, it_nI (by omega), i32_m1]
            · omega
            · rw [it_nI (by omega), i32_m1]; omega
            · rw [it_nI (by omega), i32_m1]; omega
          · rw [← hAT, hk1, sm_pair]
            refine fb_sm_cong fun n hn => ?_
            have s0 : qQ (prO od road e) (k + 1) (2 * n) = _ := qQ_s (prO od road e) k n 0 (by omega)
            have s1 := qQ_s (prO od road e) k n 1 (by omega)
            rw [s0, s1]
            show (A (2 * n) * (8 - prO od road e k) + A (2 * n + 1) * prO od road e k) * qQ (prO od road e) k n = A (2 * n) * (qQ (prO od road e) k n * (8 - prO od road e k)) + A (2 * n + 1) * (qQ (prO od road e) k n * prO od road e k)
            rw [Nat.add_mul, Nat.mul_assoc, Nat.mul_assoc, Nat.mul_comm (8 - prO od road e k), Nat.mul_comm (prO od road e k)]
        have n2' := n2.to k2 (fun c hc => by omega)
        rw [if_neg (nI_pos (by omega)), hdiv, eighths_n n1 n2' (by omega), b1_s]
        by_cases d : nI k = road
        · rw [if_pos d]
          have ep : prO od road e k = e := if_pos d
          obtain ⟨t, e1, kt, wt⟩ := fold k (by omega) s A (fun τ_26 => rc (nI (2 ^ k)) (nI k + (-1 : Int32)) τ_26) (nI k) hA
          rw [ep] at e1
          rw [e1]
          exact nxt t kt wt
        · rw [if_neg d]
          have ep : prO od road e k = od k := if_neg d
          obtain ⟨t, e1, kt, wt⟩ := fold k (by omega) s A (fun τ_25 => rc (nI (2 ^ k)) (nI k + (-1 : Int32)) τ_25) (nI k) hA
          rw [ep] at e1
          rw [e1]
          exact nxt t kt wt
    · rw [(k1 1 (by omega)).1, n2.2.1, sub1 (by omega)]
  obtain ⟨s, q2, k2⟩ := lpB
  refine ⟨s, ?_, k2⟩
  unfold D6m_chanceOf
  rw [n2.2.1, h12, shr4096 (12 - R) (by omega), nm_s, show 12 - (12 - R) = R by omega, q1, q2]
end CHD
/-! the reference -/
section CHR
variable {τ : RS} {F f : Nat} {W : Nat → Nat → Bool} {P R : Nat} {ld eA eB od : Nat → Nat} {wt : Nat → Int32}
noncomputable def upM (V : Nat → Bool) (m : Nat) : Bool := cD (∃ a, a < 4096 ∧ V a = true ∧ sbs a m)
def rF (pr : Nat → Nat) (R m : Nat) : Nat := fbP (fun r => if R ≤ r then 8 else qv pr r (m.testBit r)) 12
theorem chance0_n (n1 : NW P R ld eA eB od wt) (n3 : RN τ P R ld eA eB od wt) (ha : AXr τ) (h : RW_ τ F W) (hF : F ≤ 30) (hf : f < F) {road : Int32} {e : Nat} (he : e ≤ 8) : ∃ τ1 w, Rm_chance0 τ (nI f) road (nI e) = some (lN (fb_sm (fun m => (if upM (W f) m = true then 1 else 0) * rF (prO od road e) R m) (2 ^ R)), τ1) ∧ HND τ τ1 4096 w := by
  have hR := n1.2.1
  have hp2 := p2R hR
  unfold Rm_chance0
  obtain ⟨τ1, e1, h1⟩ := hand_loop (f := Rs_chance0_3 (nI f) road (nI e) (fun τ_7 => it2 (Rs_chance0_34 road (nI e) (fun τ_28 => it2 (Rs_chance0_119 road (nI e) τ_28 (fun u_48 => some (u_48, τ_28))) fuel (0 : Int64) (0 : Int32))) fuel (0 : Int32) τ_7)) (τ := τ) (fun τ_7 => it2 (Rs_chance0_34 road (nI e) (fun τ_28 => it2 (Rs_chance0_119 road (nI e) τ_28 (fun u_48 => some (u_48, τ_28))) fuel (0 : Int64) (0 : Int32))) fuel (0 : Int32) τ_7) (W f) ha (fun m τ1 rc hm hh => by
    have hw : RW_ τ1 F W := h.to (fun j _ => hh.2.2.2 j)
    unfold Rs_chance0_3
    rw [if_neg (show ¬ (4096 : Int32) ≤ nI m from nI_ge (b := 4096) (by omega) (by decide)), isWay_n hw hF hf hm, b1_s, gi_n (by omega) (by decide), nm_s, tn _ (by omega), bI_and]) (fun τ1 rc => by
    unfold Rs_chance0_3
    rw [if_pos (show (4096 : Int32) ≤ nI 4096 by decide)])
  rw [e1]
  -- upwards
  have clo : ∀ kx : RS → Option (Int64 × RS), ∃ t, it2 (Rs_chance0_34 road (nI e) kx) fuel (0 : Int32) τ1 = kx t ∧ HND τ t 4096 (upM (W f)) := fun kx => by
    refine it2_ind (f := Rs_chance0_34 road (nI e) kx) (P := fun n v t => ∃ l, l + n = 12 ∧ v = nI l ∧ HND τ t 4096 (fun m => cD (∃ a, a < 4096 ∧ W f a = true ∧ agr l m a))) (Q := fun o => ∃ t, o = kx t ∧ HND τ t 4096 (upM (W f))) ?_ fuel 12 (0 : Int32) τ1 (by unfold fuel; omega) ⟨0, rfl, rfl, h1.cong (fun m hm => cD_eq ?_)⟩
    · rintro n v t rc ⟨l, hl, rfl, ht⟩ ih
      unfold Rs_chance0_34
      by_cases c : l = 12
      · subst c
        rw [if_pos (show (12 : Int32) ≤ nI 12 by decide)]
        refine ⟨t, rfl, ht.cong (fun m hm => ?_)⟩
        unfold upM
        apply cD_eq
        rw [cD_iff]
        exact exists_congr fun a => ⟨fun ⟨a1, a2, a3⟩ => ⟨a1, a2, (agr_12 hm a1).mp a3⟩, fun ⟨a1, a2, a3⟩ => ⟨a1, a2, (agr_12 hm a1).mpr a3⟩⟩
      · rw [if_neg (show ¬ (12 : Int32) ≤ nI l from nI_ge (b := 12) (by omega) (by decide))]
        have inner : ∃ t2, it2 (Rs_chance0_44 road (nI e) (nI l) (fun τ_27 => rc (nI l + (1 : Int32)) τ_27)) fuel (0 : Int32) t = rc (nI l + (1 : Int32)) t2 ∧ HND τ t2 4096 (fun m => cD (∃ a, a < 4096 ∧ W f a = true ∧ agr (l + 1) m a)) := by
          refine it2_ind (f := Rs_chance0_44 road (nI e) (nI l) (fun τ_27 => rc (nI l + (1 : Int32)) τ_27)) (P := fun n v t2 => ∃ j, j + n = 4096 ∧ v = nI j ∧ HND τ t2 4096 (fun m => if m < j then cD (∃ a, a < 4096 ∧ W f a = true ∧ agr (l + 1) m a) else cD (∃ a, a < 4096 ∧ W f a = true ∧ agr l m a))) (Q := fun o => ∃ t2, o = rc (nI l + (1 : Int32)) t2 ∧ HND τ t2 4096 (fun m => cD (∃ a, a < 4096 ∧ W f a = true ∧ agr (l + 1) m a))) ?_ fuel 4096 (0 : Int32) t (by unfold fuel; omega) ⟨0, rfl, rfl, ht.cong (fun m hm => by rw [if_neg (Nat.not_lt_zero m)])⟩
          rintro n2 v2 t2 rc2 ⟨j, hj, rfl, h2⟩ ih2
          unfold Rs_chance0_44
          by_cases cj : j = 4096
          · subst cj
            rw [if_pos (show (4096 : Int32) ≤ nI 4096 by decide)]
            exact ⟨t2, rfl, h2.cong (fun m hm => by rw [if_pos hm])⟩
          · have hold := h2.2.1 j (by omega)
            dsimp only at hold
            rw [if_neg (Nat.lt_irrefl j)] at hold
            have fin : ∀ val : Int32, val = bI (cD (∃ a, a < 4096 ∧ W f a = true ∧ agr (l + 1) j a)) → ∃ t', rc2 (nI (j + 1)) (rA t2 20 j val) = rc (nI l + (1 : Int32)) t' ∧ HND τ t' 4096 (fun m => cD (∃ a, a < 4096 ∧ W f a = true ∧ agr (l + 1) m a)) := fun val hval => by
              subst hval
              refine ih2 (n2 - 1) _ _ (by omega) ⟨j + 1, by omega, rfl, (hnd_u _ h2).cong (fun x hx => ?_)⟩
              by_cases e2 : x = j
              · rw [if_pos e2, if_pos (by omega), e2]
              · rw [if_neg e2]
                by_cases e3 : x < j
                · rw [if_pos e3, if_pos (by omega)]
                · rw [if_neg e3, if_neg (by omega)]
            obtain ⟨ag1, ag2⟩ : (j.testBit l = false → ∀ a, (agr (l + 1) j a ↔ agr l j a)) ∧ (j.testBit l = true → ∀ a, (agr (l + 1) j a ↔ agr l j a ∨ agr l (j ^^^ 2 ^ l) a)) := ⟨fun q a => agr_s.1 q, fun q a => (agr_s.2 q).1⟩
            rw [if_neg (show ¬ (4096 : Int32) ≤ nI j from nI_ge (b := 4096) (by omega) (by decide)), gi_n (by omega) (by decide), tn _ (by omega), hold, rholds_n (by omega) (by omega), clr12 (by omega) (by omega)]
            cases d : j.testBit l
            · have ee : cD (∃ a, a < 4096 ∧ W f a = true ∧ agr (l + 1) j a) = cD (∃ a, a < 4096 ∧ W f a = true ∧ agr l j a) := cD_eq (by rw [cD_iff]; exact exists_congr fun a => and_congr Iff.rfl (and_congr Iff.rfl (ag1 d a)))
              rw [ee] at fin
              rw [if_pos (show bI false = 0 by rfl), gi_n (by omega) (by decide), gi_n (by omega) (by decide), nm_s, nm_s, pl1]
              cases dd : cD (∃ a, a < 4096 ∧ W f a = true ∧ agr l j a)
              · rw [dd] at fin
                rw [if_pos (by rfl)]
                exact fin _ rfl
              · rw [dd] at fin
                rw [if_neg (by decide)]
                exact fin _ rfl
            · have hle : j ^^^ 2 ^ l ≤ j := sbs_le (sbs_less d)
              have hne : j ^^^ 2 ^ l ≠ j := fun q => by
                have := congrArg (fun x => x.testBit l) q
                simp only [fl_t, if_true, d] at this
                exact absurd this (by decide)
              have hold2 := h2.2.1 (j ^^^ 2 ^ l) (by omega)
              dsimp only at hold2
              rw [if_pos (by omega)] at hold2
              have e4 : cD (∃ a, a < 4096 ∧ W f a = true ∧ agr (l + 1) (j ^^^ 2 ^ l) a) = cD (∃ a, a < 4096 ∧ W f a = true ∧ agr l (j ^^^ 2 ^ l) a) := cD_eq (by
                rw [cD_iff]
                exact exists_congr fun a => and_congr Iff.rfl (and_congr Iff.rfl (agr_s.1 (by rw [fl_t, if_pos rfl, d]; rfl))))
              rw [e4] at hold2
              have ee : cD (∃ a, a < 4096 ∧ W f a = true ∧ agr (l + 1) j a) = (cD (∃ a, a < 4096 ∧ W f a = true ∧ agr l j a) || cD (∃ a, a < 4096 ∧ W f a = true ∧ agr l (j ^^^ 2 ^ l) a)) := by
                symm
                apply cD_eq
                rw [Bool.or_eq_true, cD_iff, cD_iff]
                constructor
                · rintro (⟨a, a1, a2, a3⟩ | ⟨a, a1, a2, a3⟩)
                  · exact ⟨a, a1, a2, (ag2 d a).mpr (Or.inl a3)⟩
                  · exact ⟨a, a1, a2, (ag2 d a).mpr (Or.inr a3)⟩
                · rintro ⟨a, a1, a2, a3⟩
                  rcases (ag2 d a).mp a3 with q | q
                  · exact Or.inl ⟨a, a1, a2, q⟩
                  · exact Or.inr ⟨a, a1, a2, q⟩
              rw [ee] at fin
              rw [if_neg (show ¬ bI true = 0 by decide), if_pos rfl, gi_n (by omega) (by decide), gi_n (by omega) (by decide), gi_n (by omega) (by decide), nm_s, nm_s, pl1, tn _ (by omega), hold2]
              cases dd : cD (∃ a, a < 4096 ∧ W f a = true ∧ agr l j a)
              · rw [dd] at fin
                rw [if_pos (by rfl)]
                cases d2 : cD (∃ a, a < 4096 ∧ W f a = true ∧ agr l (j ^^^ 2 ^ l) a)
                · rw [d2] at fin
                  rw [if_pos (by rfl)]
                  exact fin _ rfl
                · rw [d2] at fin
                  rw [if_neg (by decide)]
                  exact fin _ rfl
              · rw [dd] at fin
                rw [if_neg (by decide)]
                exact fin _ rfl
        obtain ⟨t2, e2, h2⟩ := inner
        rw [e2, pl1]
        exact ih (n - 1) _ _ (by omega) ⟨l + 1, by omega, rfl, h2⟩
    · constructor
      · intro q
        exact ⟨m, hm, q, fun _ _ x => x, fun _ _ => rfl⟩
      · rintro ⟨a, a1, a2, -, a3⟩
        rw [← Nat.eq_of_testBit_eq (fun i => a3 i (Nat.zero_le i))]
        exact a2
  obtain ⟨t, e2, ht⟩ := clo (fun τ_28 => it2 (Rs_chance0_119 road (nI e) τ_28 (fun u_48 => some (u_48, τ_28))) fuel (0 : Int64) (0 : Int32))
  refine ⟨t, _, ?_, ht⟩
  rw [e2]
  have n3' := n3.to ht.1 (fun c hc => by simp only [rScr] at hc; omega)
  have hpr : ∀ r, r < R → prO od road e r ≤ 8 := fun r hr => by
    unfold prO
    have := (n1.2.2.2.1 r hr).2.2.1
    split <;> omega
  -- one product
  have prod : ∀ (m u : Nat) (v4 : Int64) (kx : Int64 → Option (Int64 × RS)), m < 4096 → it2 (Rs_chance0_148 road (nI e) v4 (nI m) t kx) fuel (lN u) (0 : Int32) = kx (lN (u * rF (prO od road e) R m)) := fun m u v4 kx hm => by
    unfold rF
    refine Eq.trans ?_ (it2_seq (f := Rs_chance0_148 road (nI e) v4 (nI m) t kx) (fun j => lN (u * fbP (fun r => if R ≤ r then 8 else qv (prO od road e) r (m.testBit r)) j)) (fun j => nI j) 12 _ (by unfold fuel; omega) (fun j hj rc => ?_) (fun rc => ?_))
    · show it2 _ fuel (lN u) (0 : Int32) = it2 _ fuel (lN (u * 1)) (nI 0)
      rw [Nat.mul_one]
      rfl
    · have es : fbP (fun r => if R ≤ r then 8 else qv (prO od road e) r (m.testBit r)) (j + 1) = fbP (fun r => if R ≤ r then 8 else qv (prO od road e) r (m.testBit r)) j * (if R ≤ j then 8 else qv (prO od road e) j (m.testBit j)) := rfl
      unfold Rs_chance0_148
      rw [if_neg (show ¬ (12 : Int32) ≤ nI j from nI_ge (b := 12) (by omega) (by decide)), n3'.2.1, rholds_n (by omega) (by omega), pl1, es, ← Nat.mul_assoc]
      by_cases c : j < R
      · have h8 : ∀ x, x ≤ 8 → (8 : Int32) - nI x = nI (8 - x) := fun x hx => pk_sub (a := 8) hx
        have ho := (n1.2.2.2.1 j c).2.2.1
        rw [if_pos (nI_lt c (by omega)), if_neg (show ¬ nI R ≤ nI j from nI_ge c (by omega)), if_neg (show ¬ R ≤ j by omega), if_neg (show ¬ nI R ≤ nI j from nI_ge c (by omega)), gi_n (by omega) (by decide), tn _ (by omega), (n3'.2.2.2 j c).2.2.2, h8 e he, h8 _ ho, nI_l (by omega), nI_l (by omega), nI_l (by omega), nI_l (by omega), nm_s, nm_s, lN_mul, lN_mul, lN_mul, lN_mul]
        unfold qv
        by_cases d : nI j = road
        · have ep : prO od road e j = e := if_pos d
          rw [if_pos d, ep]
          cases m.testBit j <;> rfl
        · have ep : prO od road e j = od j := if_neg d
          rw [if_neg d, ep]
          cases m.testBit j <;> rfl
      · rw [if_neg (nI_nlt (by omega) (by omega)), if_pos (nI_le (show R ≤ j by omega) (by omega)), if_pos (show R ≤ j by omega), show (8 : Int32).toInt64 = lN 8 from rfl, lN_mul]
    · unfold Rs_chance0_148
      rw [if_pos (show (12 : Int32) ≤ nI 12 by decide)]
  refine Eq.trans ?_ (it2_seq (f := Rs_chance0_119 road (nI e) t (fun u_48 => some (u_48, t))) (fun j => lN (fb_sm (fun m => (if upM (W f) m = true then 1 else 0) * rF (prO od road e) R m) j)) (fun j => nI j) (2 ^ R) _ (by unfold fuel; omega) (fun j hj rc => ?_) (fun rc => ?_))
  · rfl
  · unfold Rs_chance0_119
    rw [net_n n1 n3', if_neg (nI_ge hj (by omega)), gi_n (by omega) (by decide), tn _ (by omega), ht.2.1 j (by omega), show (0 : Int64) = lN 0 from rfl, show (1 : Int64) = lN 1 from rfl, prod j 0 _ _ (by omega), prod j 1 _ _ (by omega), lN_add, lN_add, fb_sm_succ, pl1]
    cases upM (W f) j <;> rfl
  · unfold Rs_chance0_119
    rw [net_n n1 n3', if_pos (nI_le (Nat.le_refl _) (by omega))]
end CHR
/-- the two are the same -/
theorem chance_eq {R : Nat} (hR : R ≤ 12) (pr : Nat → Nat) (u u' : Nat → Bool) (hu : ∀ n, n < 2 ^ R → u n = u' (rvR R n)) : fb_sm (fun n => (if u n = true then 1 else 0) * qQ pr R n) (2 ^ R) * 2 ^ (3 * (12 - R)) = fb_sm (fun m => (if u' m = true then 1 else 0) * rF pr R m) (2 ^ R) := by
  have e1 : ∀ m, rF pr R m = fbP (fun r => qv pr r (m.testBit r)) R * 2 ^ (3 * (12 - R)) := fun m => by
    unfold rF
    rw [show (12 : Nat) = R + (12 - R) by omega, fbP_add, show R + (12 - R) - R = 12 - R by omega]
    rw [fbP_cong (n := R) (g := fun r => qv pr r (m.testBit r)) (fun k hk => if_neg (by omega)), fbP_cong (n := 12 - R) (g := fun _ => 8) (fun k hk => if_pos (by omega)), fbP_8]
  have e2 : fb_sm (fun m => (if u' m = true then 1 else 0) * rF pr R m) (2 ^ R) = fb_sm (fun i => (if u' (rvR R i) = true then 1 else 0) * fbP (fun r => qv pr r ((rvR R i).testBit r)) R) (2 ^ R) * 2 ^ (3 * (12 - R)) := by
    rw [fb_sm_cong (f := fun m => (if u' m = true then 1 else 0) * rF pr R m) (g := fun m => ((if u' m = true then 1 else 0) * fbP (fun r => qv pr r (m.testBit r)) R) * 2 ^ (3 * (12 - R))) (fun m _ => by rw [e1, Nat.mul_assoc]), sm_mulr]
    exact congrArg (fun z => z * 2 ^ (3 * (12 - R))) (sm_inv (rvR R) (2 ^ R) (fun i hi => ⟨rvR_lt hR hi, rvR_rvR hR hi⟩) (fun m => (if u' m = true then 1 else 0) * fbP (fun r => qv pr r (m.testBit r)) R)).symm
  rw [e2]
  refine congrArg (fun z => z * 2 ^ (3 * (12 - R))) (fb_sm_cong fun n hn => ?_)
  rw [hu n hn]
  refine congrArg (fun z => (if u' (rvR R n) = true then 1 else 0) * z) ?_
  unfold qQ
  exact fbP_cong fun r hr => by rw [rvR_tb hR hn, decide_eq_true hr, Bool.true_and]

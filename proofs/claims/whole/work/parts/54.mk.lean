/-! ===== families made: the frame ===== -/
theorem it1_one {A ρ : Type} {f : (A → Option ρ) → A → Option ρ} {a : A} {r : Option ρ} (h : ∀ rc, f rc a = r) : it1 f fuel a = r :=
  it1_ind (P := fun _ x => x = a) (Q := fun o => o = r) (by rintro n x rc rfl _; exact h rc) fuel 0 a (by unfold fuel; omega) rfl
theorem it2_one {A B ρ : Type} {f : (A → B → Option ρ) → A → B → Option ρ} {a : A} {b : B} {r : Option ρ} (h : ∀ rc, f rc a b = r) : it2 f fuel a b = r :=
  it2_ind (P := fun _ x y => x = a ∧ y = b) (Q := fun o => o = r) (by rintro n x y rc ⟨rfl, rfl⟩ _; exact h rc) fuel 0 a b (by unfold fuel; omega) ⟨rfl, rfl⟩
theorem p2R {R : Nat} (h : R ≤ 12) : 2 ^ R ≤ 4096 := Nat.pow_le_pow_right (n := 2) (by decide) h
theorem hasRoads_0 {σ : DS} {P R : Nat} {ld eA eB od : Nat → Nat} {wt : Nat → Int32} (n1 : NW P R ld eA eB od wt) (n2 : CN σ P R ld eA eB od wt) {x : Int32} : D2m_hasRoads σ x = 0 ↔ ¬ (0 ≤ x.toInt ∧ x.toInt < ((2 ^ R : Nat) : Int)) := by
  have hR := n1.2.1
  have hp := p2R hR
  unfold D2m_hasRoads
  rw [n2.2.1, shl1 (by omega)]
  simp only [fa_lt, fa_le, t0]
  rw [it_nI (by omega)]
  repeat' split
  all_goals first | exact ⟨fun _ => by omega, fun _ => rfl⟩ | exact ⟨fun h => absurd h (by decide), fun h => by omega⟩
theorem net_n {τ : RS} {P R : Nat} {ld eA eB od : Nat → Nat} {wt : Nat → Int32} (n1 : NW P R ld eA eB od wt) (n3 : RN τ P R ld eA eB od wt) : Rm_net τ = nI (2 ^ R) := by
  have hR := n1.2.1
  unfold Rm_net
  rw [n3.2.1, shl1 (by omega)]
/-- a new family, still empty -/
def BLK (σ : DS) (F kn : Nat) (σ0 : DS) : Prop := dK_ (fun c => c = 47 + F ∨ c = 79 + F) σ σ0 ∧ σ0.1 (47 + F) 0 = nI kn ∧ (∀ q, q < 4096 → wb σ0 F q = false) ∧ σ0.2.1 11 0 = 0 ∧ σ0.2.1 12 0 = 0
/-- it is filled -/
def DON (F kn : Nat) (w : Nat → Bool) (σ0 σ1 : DS) : Prop := dK_ (dScr F) σ0 σ1 ∧ σ1.1 (47 + F) 0 = nI kn ∧ (∀ m, m < 4096 → wb σ1 F (mir m) = w m) ∧ σ1.2.1 11 0 = 0 ∧ σ1.2.1 12 0 = 0
theorem DON.mk {C : Nat → Prop} {σ σ0 σ1 : DS} {F kn : Nat} {w : Nat → Bool} (hb : BLK σ F kn σ0) (k : dK_ C σ0 σ1) (hC : ∀ c, C c → dScr F c ∧ c ≠ 11 ∧ c ≠ 12 ∧ c ≠ 47 + F) (hw : ∀ p, p < 4096 → wb σ1 F p = w (mir p)) : DON F kn w σ0 σ1 := by
  refine ⟨k.mo (fun c hc => (hC c hc).1), ?_, fun m hm => ?_, ?_, ?_⟩
  · rw [(k (47 + F) (fun hc => (hC _ hc).2.2.2 rfl)).1]; exact hb.2.1
  · rw [hw _ (mir_lt hm), mir_mir hm]
  · rw [(k 11 (fun hc => (hC _ hc).2.1 rfl)).2.1]; exact hb.2.2.2.1
  · rw [(k 12 (fun hc => (hC _ hc).2.2.1 rfl)).2.1]; exact hb.2.2.2.2
def DMK (σ : DS) (F kn : Nat) (w : Nat → Bool) (dc : Option (Int32 × DS)) : Prop :=
  (F = 30 → dc = some (-4, σ)) ∧ (F < 30 → ∃ σ1, dc = b2 (D8m_keep σ1) (fun r s => some (r, s)) ∧ DON F kn w σ σ1)
theorem DMK.of {σ : DS} {F kn : Nat} {w : Nat → Bool} {g : Nat → DS → Option (Int32 × DS)} (h : σ.1 0 2 = nI F) (ax : σ.2.1 11 0 = 0 ∧ σ.2.1 12 0 = 0)
    (hg : F < 30 → ∀ σ0, BLK σ F kn σ0 → ∃ σ1, g F σ0 = b2 (D8m_keep σ1) (fun r s => some (r, s)) ∧ DON F kn w σ0 σ1) : DMK σ F kn w (bqe (D8m_blank σ (nI kn)) (fun s => some (-4, s)) g) := by
  refine ⟨fun e => ?_, fun hF => ?_⟩
  · subst e
    rw [blank_f h, bqe_n]
  · obtain ⟨σ0, e0, k0, k1, k2⟩ := blank_n (kn := kn) h hF
    obtain ⟨σ1, e1, d1, d2⟩ := hg hF σ0 ⟨k0, k1, k2, by rw [(k0 11 (by omega)).2.1]; exact ax.1, by rw [(k0 12 (by omega)).2.1]; exact ax.2⟩
    refine ⟨σ1, by rw [e0, bqe_k (by omega), e1], (k0.mo (fun c hc => by unfold dScr; omega)).tr d1, d2⟩
section MK
variable {σ : DS} {τ : RS} {F kn : Nat} {kd : Nat → Nat} {W : Nat → Nat → Bool} {w : Nat → Bool} {dc : Option (Int32 × DS)}
theorem mk_put {C : Nat → Prop} {f : (Int32 → RS → Option (Int32 × RS)) → Int32 → RS → Option (Int32 × RS)} (h : INV σ τ) (hf : FW F kd ∧ CF σ F kd W ∧ RF τ F kd W) (hk : kn ≤ 5) (hd : DMK σ F kn w dc) (hC : ∀ c, C c → rScr c)
    (hfull : ∀ rc, τ.1 6 = nI 30 → f rc (0 : Int32) τ = b2 (Rm_made τ (nI kn)) (fun r s => some (r, s)))
    (hb : F < 30 → ∀ (m : Nat) (τ1 : RS) (rc : Int32 → RS → Option (Int32 × RS)), m < 4096 → PUTS C τ τ1 F m w → ∃ τ2, PUTS C τ τ2 F m w ∧ f rc (nI m) τ1 = b1 (Rm_put τ2 (nI m) (bI (w m))) (fun τ3 => rc (nI m + 1) τ3))
    (he : ∀ (τ1 : RS) (rc : Int32 → RS → Option (Int32 × RS)), PUTS C τ τ1 F 4096 w → f rc (nI 4096) τ1 = b2 (Rm_made τ1 (nI kn)) (fun r s => some (r, s))) :
    ∃ (r : Int32) (σ' : DS) (τ' : RS), dc = some (r, σ') ∧ it2 f fuel (0 : Int32) τ = some (r, τ') ∧ INV σ' τ' := by
  have hF := hf.1.1
  have h6 := hf.2.2.1
  have ax := h.2.2.2.2.2
  by_cases c : F = 30
  · subst c
    exact fam_full h h6 (hd.1 rfl) (it2_one fun rc => hfull rc h6) rK_.rf ax.2
  · obtain ⟨σ1, e1, d1, d2, d3, d4⟩ := hd.2 (by omega)
    obtain ⟨τ1, t1, p1, p2, p3, p4⟩ := put_loop (fun t => b2 (Rm_made t (nI kn)) (fun r s => some (r, s))) w hC h6 (by omega) ax.2 (hb (by omega)) he
    exact fam_done h (by omega) hf hk w e1 d1 d2 d3 d4 t1 (p1.mo (fun c hc => hc.imp id (hC c))) p2 (fun j hj => p3 j (by omega)) p4
theorem mk_hand {τ1 : RS} {rc : Option (Int32 × RS)} (h : INV σ τ) (hf : FW F kd ∧ CF σ F kd W ∧ RF τ F kd W) (hd : DMK σ F 0 w dc) (hr : rc = b2 (Rm_handed τ1) (fun r s => some (r, s))) (hh : HND τ τ1 4096 w) :
    ∃ (r : Int32) (σ' : DS) (τ' : RS), dc = some (r, σ') ∧ rc = some (r, τ') ∧ INV σ' τ' := by
  have hF := hf.1.1
  have h6 : τ1.1 6 = nI F := by rw [(hh.F (by omega)).1]; exact hf.2.2.1
  obtain ⟨h1, h2, h3, h4⟩ := hh
  have idl : ∀ o : Option (Int32 × RS), b2 (b2 o (fun r s => some (r, s))) (fun r s => some (r, s)) = b2 o (fun r s => some (r, s)) := fun o => by cases o <;> rfl
  by_cases c : F = 30
  · subst c
    exact fam_full (τ1 := τ1) (kn := nI 0) h hf.2.2.1 (hd.1 rfl) (by rw [hr, handed_f h6, idl]) h1 h3
  · obtain ⟨σ1, e1, d1, d2, d3, d4⟩ := hd.2 (by omega)
    obtain ⟨τ2, t1, p1, p2, p3, p4⟩ := handed_n h6 (by omega) h3 h2
    refine fam_done h (by omega) hf (by omega) w e1 d1 d2 d3 d4 (hr.trans (by rw [t1, idl])) ((h1.mo (fun c hc => Or.inr hc)).tr (p1.mo (fun c hc => hc.imp id False.elim))) p2 (fun j hj => ?_) p4
    rw [p3 j (by omega), h4 j]
end MK
theorem st_tell : ST_tell INV := by
  intro σ τ h a1
  obtain ⟨⟨P, R, ld, eA, eB, od, wt, n1, n2, n3⟩, ⟨F, kd, W, f1, f2, f3⟩, -, -, -, ax⟩ := id h
  have hR := n1.2.1
  have hp := p2R hR
  by_cases hb : a1 = -1 ∨ (0 ≤ a1.toInt ∧ a1.toInt < ((2 ^ R : Nat) : Int))
  · have er : Rm_tell τ a1 = it2 (Rs_tell_18 a1 (fun τ_10 => b2 (Rm_made τ_10 (0 : Int32)) (fun r_12 τ_13 => some (r_12, τ_13)))) fuel (0 : Int32) τ := by
      unfold Rm_tell
      rw [net_n n1 n3]
      rcases hb with rfl | hb
      · have := Nat.two_pow_pos R
        rw [if_neg (by decide), if_pos (by rw [fa_lt, i32_m1, it_nI (by omega)]; omega)]
      · rw [if_neg (by rw [fa_lt, i32_m1]; omega), if_pos (by rw [fa_lt, it_nI (by omega)]; omega)]
    rw [er]
    refine mk_put (kn := 0) (w := fun m => decide (nI m = a1)) (C := fun _ => False) h ⟨f1, f2, f3⟩ (by omega) ?_ (fun _ h => h.elim) (fun rc h6 => ?_) (fun hF m τ1 rc hm hq => ⟨τ1, hq, ?_⟩) (fun τ1 rc hq => ?_)
    · by_cases e : a1 = -1
      · subst e
        unfold D8m_tell
        rw [if_pos rfl]
        refine DMK.of f2.1 ax.1 (fun hF σ0 hb0 => ⟨σ0, rfl, DON.mk hb0 dK_.rf (C := fun _ => False) (fun _ h => h.elim) (fun p hp4 => ?_)⟩)
        rw [hb0.2.2.1 p hp4]
        exact (decide_eq_false (by rw [fa_eq, it_nI (by have := mir_lt hp4; omega), i32_m1]; omega)).symm
      · have hb2 := hb.resolve_left e
        obtain ⟨m0, hm0, rfl⟩ := of_range (x := a1) (n := 2 ^ R) (by omega) hb2.1 hb2.2
        unfold D8m_tell
        rw [if_neg e, if_neg (fun q => (hasRoads_0 n1 n2).mp q hb2)]
        refine DMK.of f2.1 ax.1 (fun hF σ0 hb0 => ?_)
        obtain ⟨σ1, e1, k1, w1⟩ := put_n (σ := σ0) (k := F) (p := mir m0) (mir_lt (by omega))
        refine ⟨σ1, ?_, DON.mk hb0 k1 (fun c hc => by unfold dScr; omega) (fun p hp4 => ?_)⟩
        · rw [mirrored_n (by omega), b1_s, e1, b1_s]
        · rw [w1 p hp4, hb0.2.2.1 p hp4, Bool.or_false]
          apply decide_eq_decide.mpr
          rw [nI_eq (by have := mir_lt hp4; omega) (by omega)]
          exact ⟨fun q => by rw [q, mir_mir (by omega)], fun q => by rw [← q, mir_mir hp4]⟩
    · unfold Rs_tell_18
      rw [h6, if_neg (by decide), if_pos (by decide)]
      rfl
    · unfold Rs_tell_18
      rw [(hq.F (c := 6) (fun h => h) (by omega)).1, f3.1, if_neg (show ¬ (4096 : Int32) ≤ nI m from nI_ge (b := 4096) (by omega) (by decide)), if_neg (show ¬ (30 : Int32) ≤ nI F from nI_ge (b := 30) (by omega) (by decide))]
      by_cases c : nI m = a1
      · rw [if_pos c, decide_eq_true c]; rfl
      · rw [if_neg c, decide_eq_false c]; rfl
    · unfold Rs_tell_18
      ((try simp only [in_0]); simp (disch := omega) only [Int.le_refl, fa_lt, fa_le, fa_eq, it_nI, t0, i32_99, i32_8, i32_1, i32_2, i32_3, i32_4, i32_5, i32_6, i32_7, i32_11, i32_12, i32_13, i32_20, i32_30, i32_40, i32_50, i32_m50, i32_m1, i32_m2, i32_64, i32_256, i32_768, i32_4096, i32_600, i32_m600, i32_1000, i32_1201, if_pos, if_neg, reduceIte, b1_s, b2_s, nm_s, gi_n, tn, pl1, mi1, sub1, ml2, ml4, ml40, ml4096, ad, pl2, sub2, sub3, sub4, dA_p1, dA_p3, dS_p2, dS_p3, dJ_p1, dJ_p2, rA_p1, rS_p2])
      rfl
  · have hb1 : a1 ≠ -1 := fun e => hb (Or.inl e)
    have hb2 : ¬ (0 ≤ a1.toInt ∧ a1.toInt < ((2 ^ R : Nat) : Int)) := fun e => hb (Or.inr e)
    refine ⟨-2, σ, τ, ?_, ?_, h⟩
    · unfold D8m_tell
      rw [if_neg hb1, if_pos ((hasRoads_0 n1 n2).mpr hb2)]
    · unfold Rm_tell
      rw [net_n n1 n3]
      have : a1.toInt ≠ -1 := fun e => hb1 (by rw [fa_eq, e]; rfl)
      by_cases c : a1.toInt < -1
      · rw [if_pos (by rw [fa_lt, i32_m1]; exact c)]
      · rw [if_neg (by rw [fa_lt, i32_m1]; omega), if_neg (by rw [fa_lt, it_nI (by omega)]; omega)]
theorem and_not_0 {m k : Nat} (hm : m < 4096) (hk : k < 4096) : nI m &&& (nI k ^^^ (-1 : Int32)) = 0 ↔ sbs m k := by
  have hb : ∀ x : Nat, ∀ i, bt (nI x) i = (decide (i < 32) && x.testBit i) := fun x i => by
    unfold bt; show (BitVec.ofNat 32 x).getLsbD i = _; rw [BitVec.getLsbD_ofNat]
  constructor
  · intro h i hi
    have hi12 : i < 12 := by
      rcases Nat.lt_or_ge i 12 with q | q
      · exact q
      · rw [tb_hi hm q] at hi; exact absurd hi (by decide)
    have := congrArg (fun z => bt z i) h
    simp only [b_and, b_xor, b_0, hb, b_m1 i (by omega), hi, decide_eq_true (show i < 32 by omega), Bool.true_and, Bool.xor_true] at this
    cases hk2 : k.testBit i
    · rw [hk2] at this; exact absurd this (by decide)
    · rfl
  · intro h
    apply b_ext
    intro i hi
    rw [b_and, b_xor, b_0, hb, hb, b_m1 i hi, decide_eq_true hi, Bool.true_and, Bool.true_and, Bool.xor_true]
    cases hm2 : m.testBit i
    · rfl
    · rw [h i hm2]; rfl
theorem st_all : ST_all INV := by
  intro σ τ h a1
  obtain ⟨⟨P, R, ld, eA, eB, od, wt, n1, n2, n3⟩, ⟨F, kd, W, f1, f2, f3⟩, -, -, -, ax⟩ := id h
  have hR := n1.2.1
  have hp := p2R hR
  by_cases hb : 0 ≤ a1.toInt ∧ a1.toInt < ((2 ^ R : Nat) : Int)
  · obtain ⟨m0, hm0, rfl⟩ := of_range (x := a1) (n := 2 ^ R) (by omega) hb.1 hb.2
    have er : Rm_all τ (nI m0) = it2 (Rs_all_17 (nI m0) (fun τ_10 => b2 (Rm_made τ_10 (0 : Int32)) (fun r_12 τ_13 => some (r_12, τ_13)))) fuel (0 : Int32) τ := by
      unfold Rm_all
      rw [net_n n1 n3, if_neg (by rw [fa_lt, t0]; omega), if_pos (by rw [fa_lt, it_nI (by omega), it_nI (by omega)]; omega)]
    rw [er]
    refine mk_put (kn := 0) (w := fun m => decide (nI m &&& (nI m0 ^^^ (-1 : Int32)) = 0)) (C := fun _ => False) h ⟨f1, f2, f3⟩ (by omega) ?_ (fun _ h => h.elim) (fun rc h6 => ?_) (fun hF m τ1 rc hm hq => ⟨τ1, hq, ?_⟩) (fun τ1 rc hq => ?_)
    · unfold D8m_all
      rw [if_neg (fun q => (hasRoads_0 n1 n2).mp q hb)]
      refine DMK.of f2.1 ax.1 (fun hF σ0 hb0 => ?_)
      obtain ⟨σ1, e1, k1, w1⟩ := put_n (σ := σ0) (k := F) (p := mir m0) (mir_lt (by omega))
      obtain ⟨σ2, e2, k2, w2⟩ := down_n (σ := σ1) (k := F)
      refine ⟨σ2, ?_, DON.mk hb0 (k1.tr k2) (fun c hc => by unfold dScr; omega) (fun p hp4 => ?_)⟩
      · rw [mirrored_n (by omega), b1_s, e1, b1_s, e2, b1_s]
      · rw [Bool.eq_iff_iff, w2 p hp4, decide_eq_true_eq, and_not_0 (mir_lt hp4) (by omega)]
        have hs : sbs p (mir m0) ↔ sbs (mir p) m0 := by
          constructor
          · intro hs i hi
            rcases Nat.lt_or_ge i 12 with q | q
            · rw [mir_tb hp4 q] at hi
              have := hs _ hi
              rw [mir_tb (by omega) (by omega), show 11 - (11 - i) = i by omega] at this
              exact this
            · rw [tb_hi (mir_lt hp4) q] at hi; exact absurd hi (by decide)
          · intro hs i hi
            rcases Nat.lt_or_ge i 12 with q | q
            · rw [mir_tb (by omega) q]
              apply hs
              rw [mir_tb hp4 (by omega), show 11 - (11 - i) = i by omega]
              exact hi
            · rw [tb_hi hp4 q] at hi; exact absurd hi (by decide)
        constructor
        · rintro ⟨q, hq, s1, s2⟩
          rw [w1 q hq, hb0.2.2.1 q hq, Bool.or_false, decide_eq_true_eq] at s2
          subst s2
          exact hs.mp s1
        · intro s1
          exact ⟨mir m0, mir_lt (by omega), hs.mpr s1, by rw [w1 _ (mir_lt (by omega)), decide_eq_true rfl, Bool.true_or]⟩
    · unfold Rs_all_17
      rw [h6, if_neg (by decide), if_pos (by decide)]
      rfl
    · unfold Rs_all_17
      rw [(hq.F (c := 6) (fun h => h) (by omega)).1, f3.1, if_neg (show ¬ (4096 : Int32) ≤ nI m from nI_ge (b := 4096) (by omega) (by decide)), if_neg (show ¬ (30 : Int32) ≤ nI F from nI_ge (b := 30) (by omega) (by decide))]
      by_cases c : nI m &&& (nI m0 ^^^ (-1 : Int32)) = 0
      · rw [if_pos c, decide_eq_true c]; rfl
      · rw [if_neg c, decide_eq_false c]; rfl
    · unfold Rs_all_17
      ((try simp only [in_0]); simp (disch := omega) only [Int.le_refl, fa_lt, fa_le, fa_eq, it_nI, t0, i32_99, i32_8, i32_1, i32_2, i32_3, i32_4, i32_5, i32_6, i32_7, i32_11, i32_12, i32_13, i32_20, i32_30, i32_40, i32_50, i32_m50, i32_m1, i32_m2, i32_64, i32_256, i32_768, i32_4096, i32_600, i32_m600, i32_1000, i32_1201, if_pos, if_neg, reduceIte, b1_s, b2_s, nm_s, gi_n, tn, pl1, mi1, sub1, ml2, ml4, ml40, ml4096, ad, pl2, sub2, sub3, sub4, dA_p1, dA_p3, dS_p2, dS_p3, dJ_p1, dJ_p2, rA_p1, rS_p2])
      rfl
  · refine ⟨-2, σ, τ, ?_, ?_, h⟩
    · unfold D8m_all
      rw [if_pos ((hasRoads_0 n1 n2).mpr hb)]
    · unfold Rm_all
      rw [net_n n1 n3]
      by_cases c : a1.toInt < 0
      · rw [if_pos (by rw [fa_lt, t0]; exact c)]
      · rw [if_neg (by rw [fa_lt, t0]; omega), if_neg (by rw [fa_lt, it_nI (by omega)]; omega)]

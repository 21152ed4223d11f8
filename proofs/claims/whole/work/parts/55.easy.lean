/-! ===== by, act, shelf, way, rank, draw ===== -/
theorem mir_fl {q l : Nat} (hq : q < 4096) (hl : l < 12) : mir (q ^^^ 2 ^ l) = mir q ^^^ 2 ^ (11 - l) := by
  refine tb_ext (mir_lt (fl12 hq hl)) (fl12 (mir_lt hq) (by omega)) (fun i hi => ?_)
  rw [mir_tb (fl12 hq hl) hi, fl_t, fl_t, mir_tb hq hi]
  by_cases c : 11 - i = l
  · rw [if_pos c, if_pos (by omega)]
  · rw [if_neg c, if_neg (by omega)]
theorem st_by : ST_by INV := by
  intro σ τ h a1 a2 a3
  obtain ⟨-, ⟨F, kd, W, f1, f2, f3⟩, -, -, -, ax⟩ := id h
  have hF := f1.1
  by_cases hf0 : 0 ≤ a2.toInt ∧ a2.toInt < F
  · obtain ⟨f, hf, rfl⟩ := of_range (by omega) hf0.1 hf0.2
    by_cases hg : (0 ≤ a1.toInt ∧ a1.toInt ≤ 2) ∧ (0 ≤ a3.toInt ∧ a3.toInt ≤ 11)
    · obtain ⟨r, hr, rfl⟩ := of_range (x := a3) (n := 12) (by omega) hg.2.1 (by omega)
      have hsub : (11 : Int32) - nI r = nI (11 - r) := pk_sub (a := 11) (by omega)
      have er : Rm_by τ a1 (nI f) (nI r) = it2 (Rs_by_33 a1 (nI f) (nI r) (fun τ_32 => b2 (Rm_handed τ_32) (fun r_34 τ_35 => some (r_34, τ_35)))) fuel (0 : Int32) τ := by
        unfold Rm_by
        rw [if_neg (fun q => in_0.mp q ⟨by rw [t0]; omega, by rw [i32_2]; omega⟩), if_neg (fun q => (isFam_0 f3.1 hF).mp q hf0), if_neg (fun q => in_0.mp q ⟨by rw [t0]; omega, by rw [i32_11]; omega⟩)]
      rw [er]
      obtain ⟨τ1, t1, t2⟩ := hand_loop (f := Rs_by_33 a1 (nI f) (nI r) (fun τ_32 => b2 (Rm_handed τ_32) (fun r_34 τ_35 => some (r_34, τ_35)))) (τ := τ) (fun t => b2 (Rm_handed t) (fun r s => some (r, s))) (fun m => if a1 = 2 then W f (m ^^^ 2 ^ r) else W f m && (m.testBit r == decide (a1 = 1))) ax.2 (fun m τ1 rc hm hh => by
        have hw : RW_ τ1 F W := f3.R.to (fun j _ => hh.2.2.2 j)
        unfold Rs_by_33
        rw [if_neg (show ¬ (4096 : Int32) ≤ nI m from nI_ge (b := 4096) (by omega) (by decide)), rholds_n (by omega) (by omega)]
        by_cases c2 : a1 = 2
        · rw [if_pos c2, if_pos c2, shl1 (by omega), nx_xor, isWay_n hw hF hf (fl12 hm hr), b1_s, gi_n (by omega) (by decide), tn _ (by omega), nm_s, bI_and]
        · rw [if_neg c2, if_neg c2, isWay_n hw hF hf hm, b1_s, gi_n (by omega) (by decide), gi_n (by omega) (by decide), tn _ (by omega)]
          by_cases c1 : a1 = 1
          · rw [if_pos c1, decide_eq_true c1]
            cases W f m <;> cases m.testBit r <;> rfl
          · rw [if_neg c1, decide_eq_false c1]
            cases W f m <;> cases m.testBit r <;> rfl) (fun τ1 rc => by
        unfold Rs_by_33
        rw [if_pos (show (4096 : Int32) ≤ nI 4096 by decide)])
      refine mk_hand (τ1 := τ1) h ⟨f1, f2, f3⟩ ?_ t1 t2
      unfold D8m_by
      rw [family_n f2.1 hF hf, bq_k (by omega), if_neg (by rw [fa_lt, t0]; omega), if_neg (by rw [fa_lt, i32_2]; omega), if_neg (by rw [fa_lt, t0]; omega), if_pos (by rw [fa_lt, i32_12]; omega), hsub]
      refine DMK.of f2.1 ax.1 (fun hF9 σ0 hb0 => ?_)
      have old : ∀ p, p < 4096 → wb σ0 f p = W f (mir p) := fun p hp => by
        rw [wb_dK hb0.1 (by omega), f2.P hf hp]
      by_cases c2 : a1 = 2
      · obtain ⟨σ1, e1, k1, w1⟩ := raise_n (σ := σ0) (k := F) (f := f) (l := 11 - r) (by omega)
        obtain ⟨σ2, e2, k2, w2⟩ := lower_n (σ := σ1) (k := F) (f := f) (l := 11 - r) (by omega)
        refine ⟨σ2, by rw [if_pos c2, e1, b1_s, e2, b1_s], DON.mk hb0 (k1.tr k2) (fun c hc => by unfold dScr; omega) (fun p hp => ?_)⟩
        rw [if_pos c2, w2 p hp, w1 p hp, hb0.2.2.1 p hp, wb_dK k1 (by omega), old _ (fl12 hp (by omega)), mir_fl hp (by omega), show 11 - (11 - r) = r by omega, Bool.false_or]
        cases p.testBit (11 - r)
        · rw [Bool.false_and, Bool.false_or, Bool.not_false, Bool.true_and]
        · rw [Bool.true_and, Bool.not_true, Bool.false_and, Bool.or_false]
      · by_cases c1 : a1 = 1
        · obtain ⟨σ1, e1, k1, w1⟩ := by_n (σ := σ0) (k := F) (f := f) (l := 11 - r) (b := 1) (by omega)
          refine ⟨σ1, by rw [if_neg c2, if_pos c1, e1, b1_s], DON.mk hb0 k1 (fun c hc => by unfold dScr; omega) (fun p hp => ?_)⟩
          rw [if_neg c2, w1 p hp, old p hp, mir_tb hp hr, decide_eq_true c1]
          rfl
        · obtain ⟨σ1, e1, k1, w1⟩ := by_n (σ := σ0) (k := F) (f := f) (l := 11 - r) (b := 0) (by omega)
          refine ⟨σ1, by rw [if_neg c2, if_neg c1, e1, b1_s], DON.mk hb0 k1 (fun c hc => by unfold dScr; omega) (fun p hp => ?_)⟩
          rw [if_neg c2, w1 p hp, old p hp, mir_tb hp hr, decide_eq_false c1]
          rfl
    · refine ⟨-2, σ, τ, ?_, ?_, h⟩
      · unfold D8m_by
        rw [family_n f2.1 hF hf, bq_k (by omega)]
        by_cases c1 : a1.toInt < 0
        · rw [if_pos (by rw [fa_lt, t0]; omega)]
        · rw [if_neg (by rw [fa_lt, t0]; omega)]
          by_cases c2 : 2 < a1.toInt
          · rw [if_pos (by rw [fa_lt, i32_2]; omega)]
          · rw [if_neg (by rw [fa_lt, i32_2]; omega)]
            by_cases c3 : a3.toInt < 0
            · rw [if_pos (by rw [fa_lt, t0]; omega)]
            · rw [if_neg (by rw [fa_lt, t0]; omega), if_neg (by rw [fa_lt, i32_12]; omega)]
      · unfold Rm_by
        by_cases c1 : 0 ≤ a1.toInt ∧ a1.toInt ≤ 2
        · rw [if_neg (fun q => in_0.mp q ⟨by rw [t0]; omega, by rw [i32_2]; omega⟩), if_neg (fun q => (isFam_0 f3.1 hF).mp q hf0), if_pos (in_0.mpr (fun q => hg ⟨c1, by rw [t0, i32_11] at q; exact q⟩))]
        · rw [if_pos (in_0.mpr (fun q => c1 (by rw [t0, i32_2] at q; exact q)))]
  · refine ⟨-2, σ, τ, ?_, ?_, h⟩
    · unfold D8m_by
      rw [family_o f2.1 hF hf0, bq_n]
      repeat' split
      all_goals rfl
    · unfold Rm_by
      rw [if_pos ((isFam_0 f3.1 hF).mpr hf0)]
      repeat' split
      all_goals rfl
theorem st_act : ST_act INV := by
  intro σ τ h a1 a2 a3
  obtain ⟨-, ⟨F, kd, W, f1, f2, f3⟩, -, -, -, ax⟩ := id h
  have hF := f1.1
  have e0 : (dS σ 45 0 (0 : Int32)).1 0 2 = nI F := by rw [dS_1 (by decide)]; exact f2.1
  have e1 : (rS τ 18 (0 : Int32)).1 6 = nI F := by rw [rS_1 (by decide)]; exact f3.1
  have hI : INV (dS σ 45 0 0) (rS τ 18 0) := h.act (dK_S (Or.inl rfl)) (rK_S (Or.inr (Or.inl rfl))) ⟨0, by omega, dS_s, rS_s, fun i hi => absurd hi (Nat.not_lt_zero i)⟩
  by_cases hr : 0 ≤ a1.toInt ∧ a1.toInt < F
  · obtain ⟨f, hf, rfl⟩ := of_range (by omega) hr.1 hr.2
    by_cases hs : 0 ≤ a2.toInt ∧ a2.toInt ≤ 2
    · obtain ⟨b, hb, rfl⟩ := of_range (x := a2) (n := 3) (by omega) hs.1 (by omega)
      have hk := f1.2 f hf
      obtain ⟨c, hc⟩ : ∃ c, c = nI (fb_ct (W f) 4096) := ⟨_, rfl⟩
      have hT : TRC (dS (dS (dS σ 45 0 0) 45 2 (nI (kd f))) 45 3 c) (rS (rS τ 18 0) 32 c) 0 (kd f) c := ⟨by rw [dS_n (by decide), dS_n (by decide), dS_s]; rfl, by rw [rS_1 (by decide), rS_s]; rfl, fun i hi => absurd hi (Nat.not_lt_zero i), by rw [dS_n (by decide), dS_s], dS_s, rS_s⟩
      have hd : D8m_act σ (nI f) (nI b) a3 = b2 (b2 (it5 D0b_run 24 (dS (dS (dS σ 45 0 0) 45 2 (nI (kd f))) 45 3 c) (nI (kd f)) (nI b) a3 (nI 0)) (fun r s => some (r, s))) (fun r s => some (r, s)) := by
        unfold D8m_act D0m_forget
        rw [nm_s, b1_s, family_n e0 hF hf, bq_k (by omega), if_neg (by rw [fa_lt, t0]; omega), if_pos (by rw [fa_le, i32_2]; omega), size_n, b1_s]
        unfold D0m_begin D0m_run
        rw [nm_s, nm_s, dS_n (f := 3) (g := 2) (by decide), dS_s, dS_1 (by omega), (f2.2 f hf).1, hc, ← f2.ct hf]
        rfl
      have hN : Rm_count0 (rS τ 18 0) (nI f) = some c := by rw [count0_n (τ := rS τ 18 0) (F := F) (W := W) (f3.R.to fun _ _ => rfl) hF hf, hc]
      have k7 : (rS (rS τ 18 0) 32 c).2 7 f = nI (kd f) := (f3.2 f hf).1
      have key : ∀ (n : Nat) (fr : RS → Option (Int32 × RS)), n ≤ 20 → SAME (kd f) c n (fun s => it5 D0b_run 24 s (nI (kd f)) (nI b) a3 (nI 0)) fr → Rm_act τ (nI f) (nI b) a3 = b2 (fr (rS (rS τ 18 0) 32 c)) (fun r s => some (r, s)) → ∃ (r : Int32) (σ' : DS) (τ' : RS), D8m_act σ (nI f) (nI b) a3 = some (r, σ') ∧ Rm_act τ (nI f) (nI b) a3 = some (r, τ') ∧ INV σ' τ' := fun n fr hn hS hR => by
        obtain ⟨r, σ', τ', t', g1, g2, g3, g4, g5, g6⟩ := hS _ _ 0 hT (by omega)
        have g1 : it5 D0b_run 24 (dS (dS (dS σ 45 0 0) 45 2 (nI (kd f))) 45 3 c) (nI (kd f)) (nI b) a3 (nI 0) = some (r, σ') := g1
        refine ⟨r, σ', τ', by rw [hd, g1]; rfl, by rw [hR, g2]; rfl, h.act (((dK_S (Or.inl rfl)).tr ((dK_S (Or.inl rfl)).tr (dK_S (Or.inl rfl)))).tr g5) (((rK_S (Or.inr (Or.inl rfl))).tr (rK_S (Or.inr (Or.inr rfl)))).tr g6) ⟨t', by omega, g4.1, g4.2.1, g4.2.2.1⟩⟩
      have pre : ∀ fr : RS → Option (Int32 × RS), Rm_act τ (nI f) (nI b) a3 = (if nI b = (0 : Int32) then (b2 (Rm_fits (rS (rS τ 18 0) 32 c) (nI (kd f)) a3) (fun r s => some (r, s))) else (if nI b = (1 : Int32) then (b2 (Rm_joins (rS (rS τ 18 0) 32 c) (nI (kd f)) a3) (fun r s => some (r, s))) else (b2 (Rm_weighs (rS (rS τ 18 0) 32 c) (nI (kd f)) a3) (fun r s => some (r, s))))) := fun fr => by
        unfold Rm_act
        rw [nm_s, if_neg (fun q => (isFam_0 e1 hF).mp q hr), if_neg (fun q => in_0.mp q ⟨by rw [t0]; omega, by rw [i32_2]; omega⟩), hN, b1_s, nm_s, gi_n (by omega) (by decide), gi_n (by omega) (by decide), gi_n (by omega) (by decide), tn _ (by omega), k7]
      rcases (show b = 0 ∨ b = 1 ∨ b = 2 by omega) with rfl | rfl | rfl
      · exact key 2 _ (by omega) (fitsS (n := 22) (d := 0) hk (by omega)) ((pre (fun _ => none)).trans (if_pos rfl))
      · exact key 6 _ (by omega) (joinsS (n := 19) (d := 0) hk (by omega)) ((pre (fun _ => none)).trans ((if_neg (by decide)).trans (if_pos rfl)))
      · exact key 13 _ (by omega) (weighsS (n := 17) (d := 0) hk (by omega)) ((pre (fun _ => none)).trans ((if_neg (by decide)).trans (if_neg (by decide))))
    · refine ⟨0, _, _, ?_, ?_, hI⟩
      · unfold D8m_act D0m_forget
        rw [nm_s, b1_s, family_n e0 hF hf, bq_k (by omega)]
        by_cases c : a2.toInt < 0
        · rw [if_pos (by rw [fa_lt, t0]; omega)]
        · rw [if_neg (by rw [fa_lt, t0]; omega), if_neg (by rw [fa_le, i32_2]; omega)]
      · unfold Rm_act
        rw [nm_s, if_neg (fun q => (isFam_0 e1 hF).mp q hr), if_pos (in_0.mpr (fun q => hs (by rw [t0, i32_2] at q; exact q)))]
  · refine ⟨0, _, _, ?_, ?_, hI⟩
    · unfold D8m_act D0m_forget
      rw [nm_s, b1_s, family_o e0 hF hr, bq_n]
    · unfold Rm_act
      rw [nm_s, if_pos ((isFam_0 e1 hF).mpr hr)]
theorem hst_shelf {σ : DS} {τ : RS} (h : INV σ τ) {s : Nat} (hs : s < 6) {hs1 hs2 k1 k2 k3 : Int32} (hc : (k1 = 0 ∧ hs1 = -1) ∨ (∃ c, c ≤ 5 ∧ k1 = 1 ∧ k2 = nI c ∧ hs1 = nI c ∧ hs2 = k3) ∨ (∃ c, c ≤ 2 ∧ k1 = nI (2 + c) ∧ hs1 = nI (6 + c) ∧ hs2 = k3)) : INV (dA (dA σ 43 s hs1) 44 s hs2) (rA (rA (rA τ 14 s k1) 15 s k2) 16 s k3) := by
  have h3 := h.2.2.1
  refine h.host ((dK_A (by omega)).tr (dK_A (by omega))) (((rK_A (by omega)).tr (rK_A (by omega))).tr (rK_A (by omega))) (fun k hk => ?_)
  obtain ⟨⟨x1, x2, x3⟩, x8⟩ := h3 k hk
  have a34 : (dA (dA σ 43 s hs1) 44 s hs2).2.1 34 = σ.2.1 34 := by rw [dA_1 (by decide), dA_1 (by decide)]
  have a35 : (dA (dA σ 43 s hs1) 44 s hs2).2.1 35 = σ.2.1 35 := by rw [dA_1 (by decide), dA_1 (by decide)]
  have a37 : (dA (dA σ 43 s hs1) 44 s hs2).2.1 (37 + k) = σ.2.1 (37 + k) := by rw [dA_1 (by omega), dA_1 (by omega)]
  have r11 : (rA (rA (rA τ 14 s k1) 15 s k2) 16 s k3).2 11 = τ.2 11 := by rw [rA_1 (by decide), rA_1 (by decide), rA_1 (by decide)]
  have r12 : (rA (rA (rA τ 14 s k1) 15 s k2) 16 s k3).2 12 = τ.2 12 := by rw [rA_1 (by decide), rA_1 (by decide), rA_1 (by decide)]
  have r13 : (rA (rA (rA τ 14 s k1) 15 s k2) 16 s k3).2 13 = τ.2 13 := by rw [rA_1 (by decide), rA_1 (by decide), rA_1 (by decide)]
  refine ⟨⟨by rw [a34, r11]; exact x1, by rw [a35, r12]; exact x2, by rw [a37, r13]; exact x3⟩, ?_⟩
  by_cases e : k = s
  · subst e
    have b1 : (dA (dA σ 43 k hs1) 44 k hs2).2.1 43 k = hs1 := by rw [dA_1 (by decide), dA_s]
    have b2 : (dA (dA σ 43 k hs1) 44 k hs2).2.1 44 k = hs2 := dA_s
    have b3 : (rA (rA (rA τ 14 k k1) 15 k k2) 16 k k3).2 14 k = k1 := by rw [rA_1 (by decide), rA_1 (by decide), rA_s]
    have b4 : (rA (rA (rA τ 14 k k1) 15 k k2) 16 k k3).2 15 k = k2 := by rw [rA_1 (by decide), rA_s]
    have b5 : (rA (rA (rA τ 14 k k1) 15 k k2) 16 k k3).2 16 k = k3 := rA_s
    rw [b1, b2, b3, b4, b5]
    exact hc
  · have b1 : (dA (dA σ 43 s hs1) 44 s hs2).2.1 43 k = σ.2.1 43 k := by rw [dA_1 (by decide), dA_n e]
    have b2 : (dA (dA σ 43 s hs1) 44 s hs2).2.1 44 k = σ.2.1 44 k := by rw [dA_n e, dA_1 (by decide)]
    have b3 : (rA (rA (rA τ 14 s k1) 15 s k2) 16 s k3).2 14 k = τ.2 14 k := by rw [rA_1 (by decide), rA_1 (by decide), rA_n e]
    have b4 : (rA (rA (rA τ 14 s k1) 15 s k2) 16 s k3).2 15 k = τ.2 15 k := by rw [rA_1 (by decide), rA_n e, rA_1 (by decide)]
    have b5 : (rA (rA (rA τ 14 s k1) 15 s k2) 16 s k3).2 16 k = τ.2 16 k := by rw [rA_n e, rA_1 (by decide), rA_1 (by decide)]
    rw [b1, b2, b3, b4, b5]
    exact x8
theorem hold_n {σ : DS} {s : Nat} (hs : s < 6) {x y : Int32} : D1m_hold σ (nI s) x y = some (1, dA (dA σ 43 s x) 44 s y) := by
  unfold D1m_hold
  rw [if_neg (fun q => isNum_0.mp q (by rw [it_nI (by omega)]; omega)), gi_n (by omega) (by decide), nm_s, gi_n (by omega) (by decide), nm_s, tn _ (by omega)]
theorem st_shelf : ST_shelf INV := by
  intro σ τ h a1 a2 a3
  obtain ⟨-, ⟨F, kd, W, f1, f2, f3⟩, h3, -, -, ax⟩ := id h
  have hF := f1.1
  by_cases hs0 : 0 ≤ a1.toInt ∧ a1.toInt < 6
  · obtain ⟨s, hs, rfl⟩ := of_range (n := 6) (by omega) hs0.1 hs0.2
    have in1 : ¬ Rm_in (nI s) (0 : Int32) (5 : Int32) = 0 := fun q => in_0.mp q ⟨by rw [t0]; omega, by rw [i32_5]; omega⟩
    have num1 : ¬ D1m_isNumber σ (nI s) = 0 := fun q => isNum_0.mp q hs0
    by_cases c2 : a2 = 2
    · subst c2
      refine ⟨1, _, _, ?_, ?_, hst_shelf h hs (hs1 := -1) (hs2 := 0) (k1 := 0) (k2 := 0) (k3 := 0) (Or.inl ⟨rfl, rfl⟩)⟩
      · unfold D8m_shelf
        rw [if_neg num1, if_neg (by decide), if_neg (by decide), if_pos rfl, hold_n hs]
        rfl
      · unfold Rm_shelf
        rw [if_pos rfl, if_neg in1, gi_n (by omega) (by decide), nm_s, gi_n (by omega) (by decide), nm_s, gi_n (by omega) (by decide), nm_s, tn _ (by omega)]
    · by_cases c0 : a2 = 0
      · subst c0
        by_cases hf0 : 0 ≤ a3.toInt ∧ a3.toInt < F
        · obtain ⟨f, hf, rfl⟩ := of_range (x := a3) (by omega) hf0.1 hf0.2
          refine ⟨1, _, _, ?_, ?_, hst_shelf h hs (hs1 := nI (kd f)) (hs2 := nI (fb_ct (W f) 4096)) (k1 := 1) (k2 := nI (kd f)) (k3 := nI (fb_ct (W f) 4096)) (Or.inr (Or.inl ⟨kd f, f1.2 f hf, rfl, rfl, rfl, rfl⟩))⟩
          · unfold D8m_shelf
            rw [if_neg num1, if_pos rfl, family_n f2.1 hF hf, bq_k (by omega), size_n, b1_s, (f2.2 f hf).1, f2.ct hf, hold_n hs]
            rfl
          · unfold Rm_shelf
            rw [if_neg (by decide), if_pos rfl, if_neg (fun q => (isFam_0 f3.1 hF).mp q hf0), if_neg in1, gi_n (by omega) (by decide), nm_s, gi_n (by omega) (by decide), gi_n (by omega) (by decide), nm_s, tn _ (by omega), tn _ (by omega), count0_n (F := F) (W := W) (f3.R.to fun j _ => by rw [rA_1 (by decide), rA_1 (by decide)]) hF hf, b1_s, gi_n (by omega) (by decide), nm_s, show (rA τ 14 s 1).2 7 f = nI (kd f) by rw [rA_1 (by decide)]; exact (f3.2 f hf).1]
        · refine ⟨-2, σ, τ, ?_, ?_, h⟩
          · unfold D8m_shelf
            rw [if_neg num1, if_pos rfl, family_o f2.1 hF hf0, bq_n]
          · unfold Rm_shelf
            rw [if_neg (by decide), if_pos rfl, if_pos ((isFam_0 f3.1 hF).mpr hf0), if_neg in1]
      · by_cases c1 : a2 = 1
        · subst c1
          by_cases hn0 : 0 ≤ a3.toInt ∧ a3.toInt < 6
          · obtain ⟨n, hn, rfl⟩ := of_range (x := a3) (n := 6) (by omega) hn0.1 hn0.2
            obtain ⟨⟨⟨x1, x2, x3⟩, ⟨q, x4, x5, x6⟩, x7⟩, x8⟩ := h3 n hn
            have in3 : ¬ Rm_in (nI n) (0 : Int32) (5 : Int32) = 0 := fun q => in_0.mp q ⟨by rw [t0]; omega, by rw [i32_5]; omega⟩
            have num3 : ¬ D1m_isNumber σ (nI n) = 0 := fun q => isNum_0.mp q hn0
            by_cases cm : τ.2 11 n = -1
            · refine ⟨1, _, _, ?_, ?_, hst_shelf h hs (hs1 := -1) (hs2 := nI q) (k1 := 0) (k2 := 0) (k3 := 0) (Or.inl ⟨rfl, rfl⟩)⟩
              · unfold D8m_shelf D1m_holdSheet
                rw [if_neg num1, if_neg (by decide), if_pos rfl, if_neg num3, if_neg num3, gi_n (by omega) (by decide), gi_n (by omega) (by decide), tn _ (by omega), x1, if_pos cm, x5, hold_n hs]
                rfl
              · unfold Rm_shelf
                rw [if_neg (by decide), if_neg (by decide), if_pos rfl, if_neg in3, if_neg in1, gi_n (by omega) (by decide), tn _ (by omega), if_pos cm, gi_n (by omega) (by decide), nm_s, gi_n (by omega) (by decide), nm_s, gi_n (by omega) (by decide), nm_s, tn _ (by omega)]
            · have hne : (τ.2 11 n).toInt ≠ -1 := fun e => cm (by rw [fa_eq, e]; rfl)
              obtain ⟨c, hc, ec⟩ := of_range (x := τ.2 11 n) (n := 3) (by omega) (by omega) (by omega)
              refine ⟨1, _, _, ?_, ?_, hst_shelf h hs (hs1 := nI (6 + c)) (hs2 := nI q) (k1 := nI (2 + c)) (k2 := 0) (k3 := nI q) (Or.inr (Or.inr ⟨c, by omega, rfl, rfl, rfl⟩))⟩
              · unfold D8m_shelf D1m_holdSheet
                rw [if_neg num1, if_neg (by decide), if_pos rfl, if_neg num3, if_neg num3, gi_n (by omega) (by decide), gi_n (by omega) (by decide), gi_n (by omega) (by decide), tn _ (by omega), x1, if_neg cm, x5, ec, show (6 : Int32) + nI c = nI (6 + c) from nI_add 6 c, hold_n hs]
                rfl
              · unfold Rm_shelf
                rw [if_neg (by decide), if_neg (by decide), if_pos rfl, if_neg in3, if_neg in1, gi_n (by omega) (by decide), tn _ (by omega), if_neg cm, gi_n (by omega) (by decide), gi_n (by omega) (by decide), nm_s, gi_n (by omega) (by decide), nm_s, gi_n (by omega) (by decide), gi_n (by omega) (by decide), nm_s, tn _ (by omega), ec, show (2 : Int32) + nI c = nI (2 + c) from nI_add 2 c, show (rA (rA τ 14 s (nI (2 + c))) 15 s 0).2 12 n = nI q by rw [rA_1 (by decide), rA_1 (by decide)]; exact x6]
          · refine ⟨-2, σ, τ, ?_, ?_, h⟩
            · unfold D8m_shelf
              rw [if_neg num1, if_neg (by decide), if_pos rfl, if_pos (isNum_0.mpr hn0)]
            · unfold Rm_shelf
              rw [if_neg (by decide), if_neg (by decide), if_pos rfl, if_pos (in_0.mpr (fun q => hn0 (by rw [t0, i32_5] at q; omega))), if_neg in1]
        · refine ⟨-2, σ, τ, ?_, ?_, h⟩
          · unfold D8m_shelf
            rw [if_neg num1, if_neg c0, if_neg c1, if_neg c2]
          · unfold Rm_shelf
            rw [if_neg c2, if_neg c0, if_neg c1, if_neg in1]
  · have in1 : Rm_in a1 (0 : Int32) (5 : Int32) = 0 := in_0.mpr (fun q => hs0 (by rw [t0, i32_5] at q; omega))
    refine ⟨-2, σ, τ, ?_, ?_, h⟩
    · unfold D8m_shelf
      rw [if_pos (isNum_0.mpr hs0)]
    · unfold Rm_shelf
      simp only [if_pos in1]
      repeat' split
      all_goals rfl

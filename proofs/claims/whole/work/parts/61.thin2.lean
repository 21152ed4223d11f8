/-! ===== thin: the call ===== -/
theorem thin_iff {V : Nat → Bool} {m : Nat} {Rel : Nat → Prop} : allB (fun w => decide (w = m) || !V w || !cD (Rel w)) 4096 = true ↔ ∀ w, w < 4096 → V w = true → Rel w → w = m := by
  rw [allB_iff]
  refine forall_congr' fun w => forall_congr' fun hw => ?_
  rw [Bool.or_eq_true, Bool.or_eq_true, decide_eq_true_eq, Bool.not_eq_true', Bool.not_eq_true']
  constructor
  · rintro ((h | h) | h) hv hr
    · exact h
    · rw [hv] at h; exact absurd h (by decide)
    · rw [cD_t hr] at h; exact absurd h (by decide)
  · intro h
    by_cases e : w = m
    · exact Or.inl (Or.inl e)
    · cases hv : V w
      · exact Or.inl (Or.inr rfl)
      · exact Or.inr (cD_f fun hr => e (h hv hr))
theorem hits_cong {V V' : Nat → Bool} {q : Nat} (h : ∀ p, p < 4096 → V p = V' p) : hits V q ↔ hits V' q :=
  ⟨fun k p hp hv => k p hp (by rw [h p hp]; exact hv), fun k p hp hv => k p hp (by rw [← h p hp]; exact hv)⟩
theorem st_thin : ST_thin INV := by
  intro σ τ h a1 a2
  obtain ⟨⟨P, R, ld, eA, eB, od, wt, n1, n2, n3⟩, ⟨F, kd, W, f1, f2, f3⟩, -, -, -, ax⟩ := id h
  have hF := f1.1
  have hR := n1.2.1
  have hp2 := p2R hR
  by_cases hf0 : 0 ≤ a2.toInt ∧ a2.toInt < F
  · obtain ⟨f, hf, rfl⟩ := of_range (by omega) hf0.1 hf0.2
    by_cases hg : 0 ≤ a1.toInt ∧ a1.toInt ≤ 2
    · have old : ∀ (σ0 : DS), BLK σ F 0 σ0 → ∀ p, p < 4096 → wb σ0 f p = W f (mir p) := fun σ0 hb0 p hp => by
        rw [wb_dK hb0.1 (by omega), f2.P hf hp]
      have er0 : Rm_thin τ a1 (nI f) = it1 (Rs_thin_25 a1 (nI f) τ (some ((-3 : Int32), τ)) (it2 (Rs_thin_57 a1 (nI f) (fun τ_34 => b2 (Rm_handed τ_34) (fun r_36 τ_37 => some (r_36, τ_37)))) fuel (0 : Int32) τ)) fuel (nI (2 ^ R)) := by
        unfold Rm_thin
        rw [if_neg (fun q => in_0.mp q ⟨by rw [t0]; omega, by rw [i32_2]; omega⟩), if_neg (fun q => (isFam_0 f3.1 hF).mp q hf0), net_n n1 n3]
      have dd : ∀ X Y Z : Option (Int32 × DS), (if a1 < (0 : Int32) then X else (if (2 : Int32) < a1 then Y else Z)) = Z := fun X Y Z => by
        rw [if_neg (by rw [fa_lt, t0]; omega), if_neg (by rw [fa_lt, i32_2]; omega)]
      by_cases c2 : a1 = 2
      · subst c2
        by_cases ok : ∀ m, m < 4096 → W f m = true → m < 2 ^ R
        · -- all roads are there
          have er : Rm_thin τ 2 (nI f) = it2 (Rs_thin_57 2 (nI f) (fun τ_34 => b2 (Rm_handed τ_34) (fun r_36 τ_37 => some (r_36, τ_37)))) fuel (0 : Int32) τ := by
            rw [er0]
            refine it1_ind (f := Rs_thin_25 2 (nI f) τ (some ((-3 : Int32), τ)) (it2 (Rs_thin_57 2 (nI f) (fun τ_34 => b2 (Rm_handed τ_34) (fun r_36 τ_37 => some (r_36, τ_37)))) fuel (0 : Int32) τ)) (P := fun n v => ∃ m, m + n = 4096 ∧ 2 ^ R ≤ m ∧ v = nI m) (Q := fun o => o = it2 (Rs_thin_57 2 (nI f) (fun τ_34 => b2 (Rm_handed τ_34) (fun r_36 τ_37 => some (r_36, τ_37)))) fuel (0 : Int32) τ) ?_ fuel (4096 - 2 ^ R) (nI (2 ^ R)) (Nat.lt_of_le_of_lt (Nat.sub_le _ _) (by unfold fuel; omega)) ⟨2 ^ R, Nat.add_sub_cancel' hp2, Nat.le_refl _, rfl⟩
            rintro n v rc ⟨m, hm, hm2, rfl⟩ ih
            unfold Rs_thin_25
            by_cases c : m = 4096
            · rw [if_pos (show (4096 : Int32) ≤ nI m by rw [c]; decide)]
            · rw [if_neg (show ¬ (4096 : Int32) ≤ nI m from nI_ge (b := 4096) (by omega) (by decide)), if_pos rfl, isWay_n f3.R hF hf (by omega), b1_s, pl1]
              cases d : W f m
              · rw [if_pos (by rfl)]
                exact ih (n - 1) _ (by omega) ⟨m + 1, by omega, by omega, rfl⟩
              · have := ok m (by omega) d
                omega
          rw [er]
          obtain ⟨τ1, t1, t2⟩ := hand_loop (f := Rs_thin_57 2 (nI f) (fun τ_34 => b2 (Rm_handed τ_34) (fun r_36 τ_37 => some (r_36, τ_37)))) (τ := τ) (fun t => b2 (Rm_handed t) (fun r s => some (r, s))) (fun m => decide (m < 2 ^ R) && cD (hits (W f) m ∧ ∀ r, r < R → m.testBit r = true → ¬ hits (W f) (m ^^^ 2 ^ r))) ax.2 (fun m τ1 rc hm hh => by
            have hw : RW_ τ1 F W := f3.R.to (fun j _ => hh.2.2.2 j)
            have n3' := n3.to hh.1 (fun c hc => by simp only [rScr] at hc; omega)
            unfold Rs_thin_57
            rw [if_neg (show ¬ (4096 : Int32) ≤ nI m from nI_ge (b := 4096) (by omega) (by decide)), if_pos rfl, net_n n1 n3', gi_n (by omega) (by decide), gi_n (by omega) (by decide), tn _ (by omega), leastM_n n1 n3' hw hF hf hm, b1_s]
            by_cases c : m < 2 ^ R
            · rw [if_neg (nI_ge c (by omega)), decide_eq_true c, Bool.true_and]
              cases cD (hits (W f) m ∧ ∀ r, r < R → m.testBit r = true → ¬ hits (W f) (m ^^^ 2 ^ r)) <;> rfl
            · rw [if_pos (nI_le (by omega) (by omega)), decide_eq_false c]; rfl) (fun τ1 rc => by
            unfold Rs_thin_57
            rw [if_pos (show (4096 : Int32) ≤ nI 4096 by decide)])
          refine mk_hand (τ1 := τ1) h ⟨f1, f2, f3⟩ ?_ t1 t2
          obtain ⟨u, e0, hu, hub⟩ := used_n (σ := σ) (k := f)
          have hroad : 0 ≤ (nI (mir u)).toInt ∧ (nI (mir u)).toInt < ((2 ^ R : Nat) : Int) := by
            have hml := mir_lt hu
            rw [it_nI (by omega)]
            refine ⟨by omega, ?_⟩
            have : mir u < 2 ^ R := (lt_2R hml hR).mpr fun i hi hRi => by
              rw [mir_tb hu hi]
              cases d : u.testBit (11 - i)
              · rfl
              · obtain ⟨p, hp, hv, hpb⟩ := (hub _ (by omega)).mp d
                rw [f2.P hf hp] at hv
                have := (lt_2R (mir_lt hp) hR).mp (ok _ (mir_lt hp) hv) i hi hRi
                rw [mir_tb hp hi, hpb] at this
                exact absurd this (by decide)
            omega
          unfold D8m_thin
          rw [family_n f2.1 hF hf, bq_k (by omega), dd, if_pos rfl, e0, b1_s, mirrored_n hu, b1_s, if_neg (fun q => (hasRoads_0 n1 n2).mp q hroad)]
          refine DMK.of f2.1 ax.1 (fun hF9 σ0 hb0 => ?_)
          obtain ⟨σ1, b, e1, k1, hb, hbz, w1⟩ := hitting_n (σ := σ0) (k := 31) (f := f) (r := 30) (by omega) (by omega) (by omega)
          obtain ⟨σ2, e2, k2, w2⟩ := least_n (σ := σ1) (k := F) (f := 31) (r := 30) (by omega) (by omega) (by omega)
          refine ⟨σ2, by rw [e1, b1_s, e2, b1_s], DON.mk hb0 ((k1.mo (C' := fun c => c = 79 + 31 ∨ c = 79 + 30 ∨ c = 79 + F) (fun c hc => by omega)).tr (k2.mo (fun c hc => by omega))) (fun c hc => by unfold dScr; omega) (fun q hq => ?_)⟩
          have ho := old σ0 hb0
          rw [Bool.eq_iff_iff, w2 q hq, Bool.and_eq_true, decide_eq_true_eq, cD_iff]
          have step : (wb σ1 31 q = true ∧ ∀ p, p < 4096 → sbs p q → wb σ1 31 p = true → p = q) ↔ (((∀ i, i < b → q.testBit i = false) ∧ hits (wb σ0 f) q) ∧ ∀ p, p < 4096 → sbs p q → ((∀ i, i < b → p.testBit i = false) ∧ hits (wb σ0 f) p) → p = q) :=
            and_congr (w1 q hq) (forall_congr' fun p => forall_congr' fun hp => forall_congr' fun _ => by rw [w1 p hp])
          rw [step, least_hit hR hq (fun p hp hv => ok _ (mir_lt hp) (by rw [← ho p hp]; exact hv)) hbz]
          have cg : ∀ x, hits (wb σ0 f) x ↔ hits (fun p => W f (mir p)) x := fun x => hits_cong fun p hp => ho p hp
          refine and_congr Iff.rfl (and_congr ?_ (forall_congr' fun r => forall_congr' fun hr => forall_congr' fun _ => not_congr ?_))
          · rw [cg, hits_mir hq]
          · rw [cg, ← hits_mir (fl12 hq (by omega)), mir_fl hq (by omega), show 11 - (11 - r) = r by omega]
        · -- some way has a road that there is not
          obtain ⟨m, hm, hmv, hmr⟩ : ∃ m, m < 4096 ∧ W f m = true ∧ ¬ m < 2 ^ R := by
            apply Classical.byContradiction
            intro hn
            exact ok fun m hm hv => Classical.byContradiction fun q => hn ⟨m, hm, hv, q⟩
          refine ⟨-3, σ, τ, ?_, ?_, h⟩
          · obtain ⟨u, e0, hu, hub⟩ := used_n (σ := σ) (k := f)
            unfold D8m_thin
            rw [family_n f2.1 hF hf, bq_k (by omega), dd, if_pos rfl, e0, b1_s, mirrored_n hu, b1_s, if_pos ((hasRoads_0 n1 n2).mpr ?_)]
            rintro ⟨-, q⟩
            have hml := mir_lt hu
            rw [it_nI (by omega)] at q
            have q2 := (lt_2R hml hR).mp (by omega)
            refine hmr ((lt_2R hm hR).mpr fun i hi hRi => ?_)
            have := q2 i hi hRi
            rw [mir_tb hu hi] at this
            cases d : m.testBit i
            · rfl
            · have hh := (hub (11 - i) (by omega)).mpr ⟨mir m, mir_lt hm, by rw [f2.W hf hm]; exact hmv, by rw [mir_tb hm (by omega), show 11 - (11 - i) = i by omega]; exact d⟩
              rw [this] at hh
              exact absurd hh (by decide)
          · rw [er0]
            refine it1_ind (f := Rs_thin_25 2 (nI f) τ (some ((-3 : Int32), τ)) (it2 (Rs_thin_57 2 (nI f) (fun τ_34 => b2 (Rm_handed τ_34) (fun r_36 τ_37 => some (r_36, τ_37)))) fuel (0 : Int32) τ)) (P := fun n v => ∃ j, j + n = m ∧ v = nI j) (Q := fun o => o = some ((-3 : Int32), τ)) ?_ fuel (m - 2 ^ R) (nI (2 ^ R)) (Nat.lt_of_le_of_lt (Nat.sub_le _ _) (by unfold fuel; omega)) ⟨2 ^ R, Nat.add_sub_cancel' (Nat.le_of_not_lt hmr), rfl⟩
            rintro n v rc ⟨j, hj, rfl⟩ ih
            unfold Rs_thin_25
            rw [if_neg (show ¬ (4096 : Int32) ≤ nI j from nI_ge (b := 4096) (by omega) (by decide)), if_pos rfl, isWay_n f3.R hF hf (by omega), b1_s, pl1]
            cases d : W f j
            · rw [if_pos (by rfl)]
              have : j ≠ m := fun e => by rw [e, hmv] at d; exact absurd d (by decide)
              exact ih (n - 1) _ (by omega) ⟨j + 1, by omega, rfl⟩
            · rw [if_neg (by decide)]
      · have er : Rm_thin τ a1 (nI f) = it2 (Rs_thin_57 a1 (nI f) (fun τ_34 => b2 (Rm_handed τ_34) (fun r_36 τ_37 => some (r_36, τ_37)))) fuel (0 : Int32) τ := by
          rw [er0]
          refine it1_one fun rc => ?_
          unfold Rs_thin_25
          rw [if_neg c2]
          split <;> rfl
        rw [er]
        have hc01 : a1.toInt = 0 ∨ a1.toInt = 1 := by
          have : a1.toInt ≠ 2 := fun e => c2 (by rw [fa_eq, e]; rfl)
          omega
        have hc1 : ¬ a1 = 0 → a1 = 1 := fun c0 => by
          rw [fa_eq] at c0 ⊢
          rw [t0] at c0
          rw [i32_1]
          omega
        obtain ⟨τ1, t1, t2⟩ := hand_loop (f := Rs_thin_57 a1 (nI f) (fun τ_34 => b2 (Rm_handed τ_34) (fun r_36 τ_37 => some (r_36, τ_37)))) (τ := τ) (fun t => b2 (Rm_handed t) (fun r s => some (r, s))) (fun m => W f m && allB (fun w => decide (w = m) || !W f w || !cD (if decide (a1 = 0) = true then sbs w m else sbs m w)) 4096) ax.2 (fun m τ1 rc hm hh => by
          have hw : RW_ τ1 F W := f3.R.to (fun j _ => hh.2.2.2 j)
          unfold Rs_thin_57
          rw [if_neg (show ¬ (4096 : Int32) ≤ nI m from nI_ge (b := 4096) (by omega) (by decide)), if_neg c2]
          have iT := isThin_n hw hF hf hm true
          have iF := isThin_n hw hF hf hm false
          by_cases c0 : a1 = 0
          · rw [if_pos c0, decide_eq_true c0, show Rm_isThin τ1 (nI f) (nI m) 1 = _ from iT, b1_s, gi_n (by omega) (by decide), tn _ (by omega), bI_and, nm_s]
          · rw [if_neg c0, decide_eq_false c0, show Rm_isThin τ1 (nI f) (nI m) 0 = _ from iF, b1_s, gi_n (by omega) (by decide), tn _ (by omega), bI_and, nm_s]) (fun τ1 rc => by
          unfold Rs_thin_57
          rw [if_pos (show (4096 : Int32) ≤ nI 4096 by decide)])
        refine mk_hand (τ1 := τ1) h ⟨f1, f2, f3⟩ ?_ t1 t2
        unfold D8m_thin
        rw [family_n f2.1 hF hf, bq_k (by omega), dd, if_neg c2]
        refine DMK.of f2.1 ax.1 (fun hF9 σ0 hb0 => ?_)
        have ho := old σ0 hb0
        by_cases c0 : a1 = 0
        · obtain ⟨σ1, e1, k1, w1⟩ := least_n (σ := σ0) (k := F) (f := f) (r := 30) (by omega) (by omega) (by omega)
          refine ⟨σ1, by rw [if_pos c0, e1, b1_s], DON.mk hb0 k1 (fun c hc => by unfold dScr; omega) (fun q hq => ?_)⟩
          rw [Bool.eq_iff_iff, w1 q hq, Bool.and_eq_true, decide_eq_true c0, ho q hq, thin_iff]
          refine and_congr Iff.rfl ⟨fun hh w hw hv hs => ?_, fun hh p hp hs hv => ?_⟩
          · rw [if_pos rfl] at hs
            have := hh (mir w) (mir_lt hw) (by rw [← sbs_mir (mir_lt hw) hq, mir_mir hw]; exact hs) (by rw [ho _ (mir_lt hw), mir_mir hw]; exact hv)
            rw [← this, mir_mir hw]
          · exact mir_inj hp hq (hh (mir p) (mir_lt hp) (by rw [← ho p hp]; exact hv) (by rw [if_pos rfl]; exact (sbs_mir hp hq).mpr hs))
        · obtain ⟨σ1, e1, k1, w1⟩ := greatest_n (σ := σ0) (k := F) (f := f) (r := 30) (by omega) (by omega) (by omega)
          refine ⟨σ1, by rw [if_neg c0, if_pos (hc1 c0), e1, b1_s], DON.mk hb0 k1 (fun c hc => by unfold dScr; omega) (fun q hq => ?_)⟩
          rw [Bool.eq_iff_iff, w1 q hq, Bool.and_eq_true, decide_eq_false c0, ho q hq, thin_iff]
          refine and_congr Iff.rfl ⟨fun hh w hw hv hs => ?_, fun hh p hp hs hv => ?_⟩
          · rw [if_neg (by decide)] at hs
            have := hh (mir w) (mir_lt hw) (by rw [← sbs_mir hq (mir_lt hw), mir_mir hw]; exact hs) (by rw [ho _ (mir_lt hw), mir_mir hw]; exact hv)
            rw [← this, mir_mir hw]
          · exact mir_inj hp hq (hh (mir p) (mir_lt hp) (by rw [← ho p hp]; exact hv) (by rw [if_neg (by decide)]; exact (sbs_mir hq hp).mpr hs))
    · refine ⟨-2, σ, τ, ?_, ?_, h⟩
      · unfold D8m_thin
        rw [family_n f2.1 hF hf, bq_k (by omega)]
        by_cases c1 : a1.toInt < 0
        · rw [if_pos (by rw [fa_lt, t0]; omega)]
        · rw [if_neg (by rw [fa_lt, t0]; omega), if_pos (by rw [fa_lt, i32_2]; omega)]
      · unfold Rm_thin
        rw [if_pos (in_0.mpr (fun q => hg (by rw [t0, i32_2] at q; exact q)))]
  · refine ⟨-2, σ, τ, ?_, ?_, h⟩
    · unfold D8m_thin
      rw [family_o f2.1 hF hf0, bq_n]
      repeat' split
      all_goals rfl
    · unfold Rm_thin
      rw [if_pos ((isFam_0 f3.1 hF).mpr hf0)]
      repeat' split
      all_goals rfl

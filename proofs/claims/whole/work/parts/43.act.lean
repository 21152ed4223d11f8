/-! ===== acts ===== -/
/-- the two traces stand alike at t, and what the two hold of kind and count -/
def TRC (σ : DS) (τ : RS) (t : Nat) (kn : Nat) (w : Int32) : Prop := σ.1 45 0 = nI t ∧ τ.1 18 = nI t ∧ (∀ i, i < t → i < 40 → σ.2.1 46 i = τ.2 17 i) ∧ σ.1 45 2 = nI kn ∧ σ.1 45 3 = w ∧ τ.1 32 = w
theorem note_ran {σ : DS} {τ : RS} {t kn : Nat} {w : Int32} (h : TRC σ τ t kn w) (ht : t < 1000) (b : Int32) : ∃ (σ' : DS) (τ' : RS), D0m_note σ b = some σ' ∧ Rm_ran τ b = some τ' ∧ TRC σ' τ' (t + 1) kn w ∧ dK_ (fun c => c = 45 ∨ c = 46) σ σ' ∧ rK_ (fun c => c = 17 ∨ c = 18 ∨ c = 32) τ τ' := by
  obtain ⟨h1, h2, h3, h4, h5, h6⟩ := h
  by_cases c : 40 ≤ t
  · refine ⟨dS σ 45 0 (nI (t + 1)), rS τ 18 (nI (t + 1)), ?_, ?_, ⟨dS_s, rS_s, fun i hi hi4 => h3 i (by omega) hi4, ?_, ?_, ?_⟩, dK_S (Or.inl rfl), rK_S (Or.inr (Or.inl rfl))⟩
    · ((try simp only [D0m_note, h1, in_0]); simp (disch := omega) only [fa_lt, fa_le, fa_eq, it_nI, t0, i32_99, i32_8, i32_1, i32_2, i32_3, i32_4, i32_5, i32_6, i32_7, i32_11, i32_12, i32_13, i32_20, i32_30, i32_40, i32_50, i32_m50, i32_m1, i32_m2, i32_64, i32_256, i32_768, i32_4096, i32_600, i32_m600, i32_1000, i32_1201, if_pos, if_neg, reduceIte, b1_s, b2_s, nm_s, gi_n, tn, pl1, mi1, sub1, ml2, ml4, ml40, ml4096, ad, pl2, sub2, sub3, sub4, dA_p1, dA_p3, dS_p2, dS_p3, dJ_p1, dJ_p2, rA_p1, rS_p2])
    · ((try simp only [Rm_ran, h2, in_0]); simp (disch := omega) only [fa_lt, fa_le, fa_eq, it_nI, t0, i32_99, i32_8, i32_1, i32_2, i32_3, i32_4, i32_5, i32_6, i32_7, i32_11, i32_12, i32_13, i32_20, i32_30, i32_40, i32_50, i32_m50, i32_m1, i32_m2, i32_64, i32_256, i32_768, i32_4096, i32_600, i32_m600, i32_1000, i32_1201, if_pos, if_neg, reduceIte, b1_s, b2_s, nm_s, gi_n, tn, pl1, mi1, sub1, ml2, ml4, ml40, ml4096, ad, pl2, sub2, sub3, sub4, dA_p1, dA_p3, dS_p2, dS_p3, dJ_p1, dJ_p2, rA_p1, rS_p2])
    · rw [dS_n (by decide)]; exact h4
    · rw [dS_n (by decide)]; exact h5
    · rw [rS_1 (by decide)]; exact h6
  · refine ⟨dS (dA σ 46 t b) 45 0 (nI (t + 1)), rS (rA τ 17 t b) 18 (nI (t + 1)), ?_, ?_, ⟨dS_s, rS_s, fun i hi hi4 => ?_, ?_, ?_, ?_⟩, (dK_A (Or.inr rfl)).tr (dK_S (Or.inl rfl)), (rK_A (Or.inl rfl)).tr (rK_S (Or.inr (Or.inl rfl)))⟩
    · ((try simp only [D0m_note, h1, in_0]); simp (disch := omega) only [h1, fa_lt, fa_le, fa_eq, it_nI, t0, i32_99, i32_8, i32_1, i32_2, i32_3, i32_4, i32_5, i32_6, i32_7, i32_11, i32_12, i32_13, i32_20, i32_30, i32_40, i32_50, i32_m50, i32_m1, i32_m2, i32_64, i32_256, i32_768, i32_4096, i32_600, i32_m600, i32_1000, i32_1201, if_pos, if_neg, reduceIte, b1_s, b2_s, nm_s, gi_n, tn, pl1, mi1, sub1, ml2, ml4, ml40, ml4096, ad, pl2, sub2, sub3, sub4, dA_p1, dA_p3, dS_p2, dS_p3, dJ_p1, dJ_p2, rA_p1, rS_p2])
    · ((try simp only [Rm_ran, h2, in_0]); simp (disch := omega) only [h2, fa_lt, fa_le, fa_eq, it_nI, t0, i32_99, i32_8, i32_1, i32_2, i32_3, i32_4, i32_5, i32_6, i32_7, i32_11, i32_12, i32_13, i32_20, i32_30, i32_40, i32_50, i32_m50, i32_m1, i32_m2, i32_64, i32_256, i32_768, i32_4096, i32_600, i32_m600, i32_1000, i32_1201, if_pos, if_neg, reduceIte, b1_s, b2_s, nm_s, gi_n, tn, pl1, mi1, sub1, ml2, ml4, ml40, ml4096, ad, pl2, sub2, sub3, sub4, dA_p1, dA_p3, dS_p2, dS_p3, dJ_p1, dJ_p2, rA_p1, rS_p2])
    · show (dA σ 46 t b).2.1 46 i = (rA τ 17 t b).2 17 i
      by_cases e : i = t
      · subst e; rw [dA_s, rA_s]
      · rw [dA_n e, rA_n e]; exact h3 i (by omega) hi4
    · rw [dS_n (by decide)]; exact h4
    · rw [dS_n (by decide)]; exact h5
    · rw [rS_1 (by decide)]; exact h6
/-- both go on alike: whatever the trace was -/
def SAME (kn : Nat) (w : Int32) (n : Nat) (fd : DS → Option (Int32 × DS)) (fr : RS → Option (Int32 × RS)) : Prop :=
  ∀ (σ : DS) (τ : RS) (t : Nat), TRC σ τ t kn w → t + n < 1000 → ∃ (r : Int32) (σ' : DS) (τ' : RS) (t' : Nat), fd σ = some (r, σ') ∧ fr τ = some (r, τ') ∧ t' ≤ t + n ∧ TRC σ' τ' t' kn w ∧ dK_ (fun c => c = 45 ∨ c = 46) σ σ' ∧ rK_ (fun c => c = 17 ∨ c = 18 ∨ c = 32) τ τ'
/-- one body noted -/
theorem SAME.note {kn : Nat} {w : Int32} {n : Nat} {fd : DS → Option (Int32 × DS)} {fr : RS → Option (Int32 × RS)} (h : SAME kn w n fd fr) (b : Int32) : SAME kn w (n + 1) (fun σ => b1 (D0m_note σ b) fd) (fun τ => b1 (Rm_ran τ b) fr) := by
  intro σ τ t hT ht
  obtain ⟨σ', τ', e1, e2, hT', k1, k2⟩ := note_ran hT (by omega) b
  obtain ⟨r, σ2, τ2, t2, g1, g2, g3, g4, g5, g6⟩ := h σ' τ' (t + 1) hT' (by omega)
  exact ⟨r, σ2, τ2, t2, by dsimp only; rw [e1]; exact g1, by dsimp only; rw [e2]; exact g2, by omega, g4, k1.tr g5, k2.tr g6⟩
theorem SAME.map {kn : Nat} {w : Int32} {n : Nat} {fd : DS → Option (Int32 × DS)} {fr : RS → Option (Int32 × RS)} (h : SAME kn w n fd fr) (g : Int32 → Int32) : SAME kn w n (fun σ => b2 (fd σ) (fun r s => some (g r, s))) (fun τ => b2 (fr τ) (fun r s => some (g r, s))) := by
  intro σ τ t hT ht
  obtain ⟨r, σ2, τ2, t2, g1, g2, g3⟩ := h σ τ t hT ht
  exact ⟨g r, σ2, τ2, t2, by dsimp only; rw [g1]; rfl, by dsimp only; rw [g2]; rfl, g3⟩
theorem SAME.bin {kn : Nat} {w : Int32} {n m : Nat} {fd gd : DS → Option (Int32 × DS)} {fr gr : RS → Option (Int32 × RS)} (h : SAME kn w n fd fr) (h2 : SAME kn w m gd gr) (g : Int32 → Int32 → Int32) : SAME kn w (n + m) (fun σ => b2 (fd σ) (fun r s => b2 (gd s) (fun r2 s2 => some (g r r2, s2)))) (fun τ => b2 (fr τ) (fun r s => b2 (gr s) (fun r2 s2 => some (g r r2, s2)))) := by
  intro σ τ t hT ht
  obtain ⟨r, σ2, τ2, t2, g1, g2, g3, g4, g5, g6⟩ := h σ τ t hT (by omega)
  obtain ⟨r', σ3, τ3, t3, f1, f2, f3, f4, f5, f6⟩ := h2 σ2 τ2 t2 g4 (by omega)
  exact ⟨g r r', σ3, τ3, t3, by simp only [g1, b2_s, f1], by simp only [g2, b2_s, f2], by omega, f4, g5.tr f5, g6.tr f6⟩
/-- what a body does, once noted -/
def aB (rf : DS → Int32 → Int32 → Int32 → Int32 → Option (Int32 × DS)) (r x d1 : Int32) (s : DS) : Option (Int32 × DS) :=
  if r = (10 : Int32) then (some ((x + (s.1 45 3)), s)) else (if r = (11 : Int32) then (b2 (rf s (s.1 45 2) (0 : Int32) x d1) (fun r_10 τ_9 => some ((r_10 * (3 : Int32)), τ_9))) else (if r = (12 : Int32) then (b2 (rf s (s.1 45 2) (1 : Int32) x d1) (fun r_14 τ_13 => b2 (rf τ_13 (τ_13.1 45 2) (0 : Int32) (x + (1 : Int32)) d1) (fun r_17 τ_16 => some ((r_14 - r_17), τ_16)))) else (if r = (20 : Int32) then (b2 (rf s (0 : Int32) (0 : Int32) x d1) (fun r_21 τ_20 => some ((r_21 * (2 : Int32)), τ_20))) else (if r = (21 : Int32) then (b2 (rf s (0 : Int32) (2 : Int32) x d1) (fun r_25 τ_24 => some ((r_25 ^^^ (5 : Int32)), τ_24))) else (if r = (30 : Int32) then (b2 (rf s (1 : Int32) (1 : Int32) x d1) (fun r_29 τ_28 => b2 (rf τ_28 (τ_28.1 45 2) (0 : Int32) x d1) (fun r2 τ_31 => some ((r_29 + r2), τ_31)))) else (if r = (40 : Int32) then (b2 (rf s (0 : Int32) (1 : Int32) (x + (s.1 45 3)) d1) (fun r6 τ_35 => some (r6, τ_35))) else (if r = (50 : Int32) then (b2 (rf s (s.1 45 2) (0 : Int32) x d1) (fun r_40 τ_39 => b2 (rf τ_39 (0 : Int32) (2 : Int32) x d1) (fun r_43 τ_42 => some ((r_40 - r_43), τ_42)))) else (if r = (60 : Int32) then (b2 (rf s (3 : Int32) (0 : Int32) x d1) (fun r_47 τ_46 => some ((r_47 + (7 : Int32)), τ_46))) else (if r = (61 : Int32) then (b2 (rf s (3 : Int32) (1 : Int32) x d1) (fun r_51 s0 => some ((r_51 * (2 : Int32)), s0))) else (some ((0 : Int32), s)))))))))))
theorem run_step {n : Nat} {σ : DS} {a b x : Int32} {d : Nat} (hd : d ≤ 20) {r : Int32} (hb : D0m_bodyOf a b = some r) : it5 D0b_run (n + 1) σ a b x (nI d) = b1 (D0m_note σ r) (fun s => aB (it5 D0b_run n) r x (nI (d + 1)) s) := by
  show D0b_run (it5 D0b_run n) σ a b x (nI d) = _
  unfold D0b_run
  rw [hb, if_pos (by rw [fa_le, it_nI (by omega)]; show (d : Int) ≤ 20; omega), ← nI_1]
  rfl
theorem SAME.eq {kn : Nat} {w : Int32} {n : Nat} {fd fd' : DS → Option (Int32 × DS)} {fr fr' : RS → Option (Int32 × RS)} (h : SAME kn w n fd' fr') (he : ∀ (σ : DS) (τ : RS) (t : Nat), TRC σ τ t kn w → fd σ = fd' σ ∧ fr τ = fr' τ) : SAME kn w n fd fr := by
  intro σ τ t hT ht
  rw [(he σ τ t hT).1, (he σ τ t hT).2]
  exact h σ τ t hT ht
theorem SAME.wk {kn : Nat} {w : Int32} {n m : Nat} {fd : DS → Option (Int32 × DS)} {fr : RS → Option (Int32 × RS)} (h : SAME kn w n fd fr) (hm : n ≤ m) : SAME kn w m fd fr := by
  intro σ τ t hT ht
  obtain ⟨r, σ2, τ2, t2, g1, g2, g3, g4⟩ := h σ τ t hT (by omega)
  exact ⟨r, σ2, τ2, t2, g1, g2, by omega, g4⟩
theorem SAME.id {kn : Nat} {w : Int32} {n : Nat} {fd : DS → Option (Int32 × DS)} {fr : RS → Option (Int32 × RS)} (h : SAME kn w n fd fr) : SAME kn w n fd (fun τ => b2 (fr τ) (fun r s => some (r, s))) := by
  refine h.eq (fun σ τ t _ => ⟨rfl, ?_⟩)
  cases fr τ with
  | none => rfl
  | some p => rfl
theorem SAME.idD {kn : Nat} {w : Int32} {n : Nat} {fd : DS → Option (Int32 × DS)} {fr : RS → Option (Int32 × RS)} (h : SAME kn w n fd fr) : SAME kn w n (fun τ => b2 (fd τ) (fun r s => some (r, s))) fr := by
  refine h.eq (fun σ τ t _ => ⟨?_, rfl⟩)
  cases fd σ with
  | none => rfl
  | some p => rfl
theorem SAME.leaf {w x : Int32} (kn : Nat) : SAME kn w 0 (fun s => some (x + s.1 45 3, s)) (fun τ => some (x + τ.1 32, τ)) := by
  intro σ τ t hT ht
  exact ⟨x + w, σ, τ, t, by show some (x + σ.1 45 3, σ) = _; rw [hT.2.2.2.2.1], by show some (x + τ.1 32, τ) = _; rw [hT.2.2.2.2.2], by omega, hT, dK_.rf, rK_.rf⟩
theorem SAME.run {kn : Nat} {w : Int32} {n N : Nat} {a b x r : Int32} {d : Nat} {fr : RS → Option (Int32 × RS)} (hd : d ≤ 20) (hb : D0m_bodyOf a b = some r) (h : SAME kn w N (aB (it5 D0b_run n) r x (nI (d + 1))) fr) : SAME kn w (N + 1) (fun σ => it5 D0b_run (n + 1) σ a b x (nI d)) (fun τ => b1 (Rm_ran τ r) fr) :=
  (h.note r).eq (fun σ τ t _ => ⟨run_step hd hb, rfl⟩)
section ACTS
variable {kn : Nat} {w x : Int32} {n d : Nat}
theorem run10 {a : Int32} (hd : d ≤ 20) (hb : D0m_bodyOf a 0 = some 10) : SAME kn w 1 (fun σ => it5 D0b_run (n + 1) σ a 0 x (nI d)) (fun τ => b1 (Rm_ran τ 10) (fun τ => some (x + τ.1 32, τ))) :=
  SAME.run hd hb ((SAME.leaf (w := w) (x := x) kn).eq (fun σ τ t _ => ⟨rfl, rfl⟩))
theorem fitsS (hk : kn ≤ 5) (hd : d ≤ 19) : SAME kn w 2 (fun σ => it5 D0b_run (n + 2) σ (nI kn) 0 x (nI d)) (fun τ => Rm_fits τ (nI kn) x) := by
  have A : D0m_bodyOf (nI kn) 0 = some 10 → (∀ τ, Rm_fits τ (nI kn) x = b1 (Rm_ran τ 10) (fun τ => some (x + τ.1 32, τ))) → SAME kn w 2 (fun σ => it5 D0b_run (n + 2) σ (nI kn) 0 x (nI d)) (fun τ => Rm_fits τ (nI kn) x) := fun hb hr =>
    ((run10 (n := n + 1) (by omega) hb).wk (by omega)).eq (fun σ τ t _ => ⟨rfl, hr τ⟩)
  have B : ∀ (r f : Int32) (g : Int32 → Int32), D0m_bodyOf (nI kn) 0 = some r → D0m_bodyOf f 0 = some 10 → (∀ s, aB (it5 D0b_run (n + 1)) r x (nI (d + 1)) s = b2 (it5 D0b_run (n + 1) s f 0 x (nI (d + 1))) (fun r s => some (g r, s))) → (∀ τ, Rm_fits τ (nI kn) x = b1 (Rm_ran τ r) (fun τ => b1 (Rm_ran τ 10) (fun τ => some (g (x + τ.1 32), τ)))) → SAME kn w 2 (fun σ => it5 D0b_run (n + 2) σ (nI kn) 0 x (nI d)) (fun τ => Rm_fits τ (nI kn) x) := fun r f g hb hb2 ha hr => by
    refine (SAME.run (n := n + 1) (d := d) (x := x) (by omega) hb (((run10 (n := n) (d := d + 1) (x := x) (by omega) hb2).map g).eq (fun σ τ t _ => ⟨ha σ, rfl⟩))).eq (fun σ τ t _ => ⟨rfl, ?_⟩)
    rw [hr τ]
    congr 1
    funext τ2
    cases Rm_ran τ2 10 <;> rfl
  rcases (show kn = 0 ∨ kn = 1 ∨ kn = 2 ∨ kn = 3 ∨ kn = 4 ∨ kn = 5 by omega) with rfl | rfl | rfl | rfl | rfl | rfl
  · exact A rfl (fun _ => rfl)
  · exact B 20 0 (fun r => r * 2) rfl rfl (fun _ => rfl) (fun _ => rfl)
  · exact B 20 0 (fun r => r * 2) rfl rfl (fun _ => rfl) (fun _ => rfl)
  · exact A rfl (fun _ => rfl)
  · exact A rfl (fun _ => rfl)
  · exact B 60 3 (fun r => r + 7) rfl rfl (fun _ => rfl) (fun _ => rfl)
theorem fitsK (hk : kn ≤ 5) (hd : d ≤ 19) : SAME kn w 2 (fun s => it5 D0b_run (n + 2) s (s.1 45 2) 0 x (nI d)) (fun τ => Rm_fits τ (nI kn) x) :=
  (fitsS (n := n) (d := d) (x := x) (w := w) hk hd).eq (fun σ τ t hT => ⟨by rw [hT.2.2.2.1], rfl⟩)
theorem fjS {a : Int32} (hk : kn ≤ 5) (hd : d ≤ 18) (hb : D0m_bodyOf a 1 = some 11) : SAME kn w 3 (fun σ => it5 D0b_run (n + 3) σ a 1 x (nI d)) (fun τ => Rm_familyJoins τ (nI kn) x) :=
  SAME.run (n := n + 2) (by omega) hb (((fitsK (n := n) (d := d + 1) (x := x) (w := w) hk (by omega)).map (fun r => r * 3)).eq (fun σ τ t hT => ⟨rfl, rfl⟩))
theorem joinsS (hk : kn ≤ 5) (hd : d ≤ 16) : SAME kn w 6 (fun σ => it5 D0b_run (n + 5) σ (nI kn) 1 x (nI d)) (fun τ => Rm_joins τ (nI kn) x) := by
  have F40 : ∀ (d : Nat), d ≤ 17 → ∀ n, SAME kn w 3 (fun s => b2 (it5 D0b_run (n + 3) s 0 1 (x + s.1 45 3) (nI (d + 1))) (fun r s => some (r, s))) (fun τ => b2 (Rm_familyJoins τ (nI kn) (x + τ.1 32)) (fun r s => some (r, s))) := fun d hd n =>
    ((fjS (n := n) (d := d + 1) (x := x + w) (w := w) (a := 0) hk (by omega) rfl).map (fun r => r)).eq (fun σ τ t hT => ⟨by rw [hT.2.2.2.2.1], by rw [hT.2.2.2.2.2]⟩)
  have A : D0m_bodyOf (nI kn) 1 = some 11 → (∀ τ, Rm_joins τ (nI kn) x = b2 (Rm_familyJoins τ (nI kn) x) (fun r s => some (r, s))) → SAME kn w 6 (fun σ => it5 D0b_run (n + 5) σ (nI kn) 1 x (nI d)) (fun τ => Rm_joins τ (nI kn) x) := fun hb hr =>
    ((fjS (n := n + 2) (by omega) (by omega) hb).id.wk (by omega)).eq (fun σ τ t _ => ⟨rfl, hr τ⟩)
  rcases (show kn = 0 ∨ kn = 1 ∨ kn = 2 ∨ kn = 3 ∨ kn = 4 ∨ kn = 5 by omega) with rfl | rfl | rfl | rfl | rfl | rfl
  · exact A rfl (fun _ => rfl)
  · exact A rfl (fun _ => rfl)
  · exact (SAME.run (n := n + 4) (d := d) (x := x) (N := 5) (by omega) (r := 30) rfl (((fjS (n := n + 1) (d := d + 1) (x := x) (a := 1) hk (by omega) rfl).bin (fitsK (n := n + 2) (d := d + 1) (x := x) hk (by omega)) (fun r s => r + s)).eq (fun σ τ t hT => ⟨rfl, rfl⟩))).eq (fun σ τ t _ => ⟨rfl, rfl⟩)
  · exact ((SAME.run (n := n + 4) (d := d) (x := x) (by omega) (r := 40) rfl (F40 d (by omega) (n + 1))).wk (by omega)).eq (fun σ τ t _ => ⟨rfl, rfl⟩)
  · exact A rfl (fun _ => rfl)
  · refine (SAME.run (n := n + 4) (d := d) (x := x) (N := 5) (by omega) (r := 61) rfl ((((SAME.run (n := n + 3) (d := d + 1) (x := x) (a := 3) (b := 1) (by omega) (r := 40) rfl (F40 (d + 1) (by omega) n)).map (fun r => r * 2)).wk (by omega)).eq (fun σ τ t hT => ⟨rfl, rfl⟩))).eq (fun σ τ t _ => ⟨rfl, ?_⟩)
    show b1 (Rm_ran τ 61) (fun τ_18 => b1 (Rm_ran τ_18 40) (fun τ_20 => b2 (Rm_familyJoins τ_20 5 (x + τ_20.1 32)) (fun r_22 τ_23 => some ((r_22 * 2), τ_23)))) = b1 (Rm_ran τ 61) (fun τ => b2 (b1 (Rm_ran τ 40) (fun τ => b2 (Rm_familyJoins τ 5 (x + τ.1 32)) (fun r s => some (r, s)))) (fun r s => some (r * 2, s)))
    congr 1
    funext τ2
    cases Rm_ran τ2 40 with
    | none => rfl
    | some τ3 =>
      simp only [b1_s]
      cases Rm_familyJoins τ3 5 (x + τ3.1 32) with
      | none => rfl
      | some p => rfl
theorem joinsK (hk : kn ≤ 5) (hd : d ≤ 16) : SAME kn w 6 (fun s => it5 D0b_run (n + 5) s (s.1 45 2) 1 x (nI d)) (fun τ => Rm_joins τ (nI kn) x) :=
  (joinsS (n := n) (d := d) (x := x) (w := w) hk hd).eq (fun σ τ t hT => ⟨by rw [hT.2.2.2.1], rfl⟩)
theorem fwS {a : Int32} (hk : kn ≤ 5) (hd : d ≤ 15) (hb : D0m_bodyOf a 2 = some 12) : SAME kn w 9 (fun σ => it5 D0b_run (n + 6) σ a 2 x (nI d)) (fun τ => Rm_familyWeighs τ (nI kn) x) :=
  SAME.run (n := n + 5) (by omega) hb (((joinsK (n := n) (d := d + 1) (x := x) (w := w) hk (by omega)).bin (fitsK (n := n + 3) (d := d + 1) (x := x + 1) (w := w) hk (by omega)) (fun r s => r - s)).eq (fun σ τ t hT => ⟨rfl, rfl⟩))
theorem weighsS (hk : kn ≤ 5) (hd : d ≤ 14) : SAME kn w 13 (fun σ => it5 D0b_run (n + 7) σ (nI kn) 2 x (nI d)) (fun τ => Rm_weighs τ (nI kn) x) := by
  have A : D0m_bodyOf (nI kn) 2 = some 12 → (∀ τ, Rm_weighs τ (nI kn) x = b2 (Rm_familyWeighs τ (nI kn) x) (fun r s => some (r, s))) → SAME kn w 13 (fun σ => it5 D0b_run (n + 7) σ (nI kn) 2 x (nI d)) (fun τ => Rm_weighs τ (nI kn) x) := fun hb hr =>
    ((fwS (n := n + 1) (by omega) (by omega) hb).id.wk (by omega)).eq (fun σ τ t _ => ⟨rfl, hr τ⟩)
  have B : D0m_bodyOf (nI kn) 2 = some 21 → (∀ τ, Rm_weighs τ (nI kn) x = b1 (Rm_ran τ 21) (fun τ => b2 (Rm_familyWeighs τ (nI kn) x) (fun r s => some (r ^^^ 5, s)))) → SAME kn w 13 (fun σ => it5 D0b_run (n + 7) σ (nI kn) 2 x (nI d)) (fun τ => Rm_weighs τ (nI kn) x) := fun hb hr =>
    ((SAME.run (n := n + 6) (d := d) (x := x) (by omega) hb (((fwS (n := n) (d := d + 1) (x := x) (a := 0) (w := w) hk (by omega) rfl).map (fun r => r ^^^ 5)).eq (fun σ τ t hT => ⟨rfl, rfl⟩))).wk (by omega)).eq (fun σ τ t _ => ⟨rfl, hr τ⟩)
  rcases (show kn = 0 ∨ kn = 1 ∨ kn = 2 ∨ kn = 3 ∨ kn = 4 ∨ kn = 5 by omega) with rfl | rfl | rfl | rfl | rfl | rfl
  · exact A rfl (fun _ => rfl)
  · exact B rfl (fun _ => rfl)
  · exact B rfl (fun _ => rfl)
  · exact A rfl (fun _ => rfl)
  · exact ((SAME.run (n := n + 6) (d := d) (x := x) (r := 50) (by omega) rfl (((fitsK (n := n + 4) (d := d + 1) (x := x) (w := w) hk (by omega)).bin (fwS (n := n) (d := d + 1) (x := x) (a := 0) (w := w) hk (by omega) rfl) (fun r s => r - s)).eq (fun σ τ t hT => ⟨rfl, rfl⟩))).wk (by omega)).eq (fun σ τ t _ => ⟨rfl, rfl⟩)
  · exact A rfl (fun _ => rfl)
end ACTS

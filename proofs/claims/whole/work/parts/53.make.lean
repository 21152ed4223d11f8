/-! ===== families made ===== -/
def AXr (τ : RS) : Prop := ∀ j, (τ.2 8 j = 0 ∨ τ.2 8 j = 1) ∧ (τ.2 20 j = 0 ∨ τ.2 20 j = 1) ∧ (τ.2 21 j = 0 ∨ τ.2 21 j = 1)
theorem AXr.to {τ τ' : RS} (h : AXr τ) (h8 : ∀ j, τ'.2 8 j = τ.2 8 j ∨ τ'.2 8 j = 0 ∨ τ'.2 8 j = 1) (h20 : ∀ j, τ'.2 20 j = τ.2 20 j ∨ τ'.2 20 j = 0 ∨ τ'.2 20 j = 1) (h21 : ∀ j, τ'.2 21 j = τ.2 21 j ∨ τ'.2 21 j = 0 ∨ τ'.2 21 j = 1) : AXr τ' := fun j =>
  ⟨(h8 j).elim (fun e => by rw [e]; exact (h j).1) id, (h20 j).elim (fun e => by rw [e]; exact (h j).2.1) id, (h21 j).elim (fun e => by rw [e]; exact (h j).2.2) id⟩
theorem blank_n {σ : DS} {F kn : Nat} (h : σ.1 0 2 = nI F) (hF : F < 30) : ∃ σ', D8m_blank σ (nI kn) = some (some F, σ') ∧ dK_ (fun c => c = 47 + F ∨ c = 79 + F) σ σ' ∧ σ'.1 (47 + F) 0 = nI kn ∧ ∀ q, q < 4096 → wb σ' F q = false := by
  refine ⟨jFill (dS σ (47 + F) 0 (nI kn)) (79 + F) 64 (fun _ => 0), ?_, (dK_S (Or.inl rfl)).tr (dK_JF (Or.inr rfl)), dS_s, fun q hq => ?_⟩
  · unfold D8m_blank D7m_clear
    rw [h]
    ((try simp only [in_0]); simp (disch := omega) only [fillJ (show 64 < 100000 by decide), fa_lt, fa_le, fa_eq, it_nI, t0, i32_99, i32_8, i32_1, i32_2, i32_3, i32_4, i32_5, i32_6, i32_7, i32_11, i32_12, i32_13, i32_20, i32_30, i32_40, i32_50, i32_m50, i32_m1, i32_m2, i32_64, i32_256, i32_768, i32_4096, i32_600, i32_m600, i32_1000, i32_1201, if_pos, if_neg, reduceIte, b1_s, b2_s, nm_s, gi_n, tn, pl1, mi1, sub1, ml2, ml4, ml40, ml4096, ad, pl2, sub2, sub3, sub4, dA_p1, dA_p3, dS_p2, dS_p3, dJ_p1, dJ_p2, rA_p1, rS_p2])
  · rw [wb_jf hq, bL_0]
theorem blank_f {σ : DS} {kn : Int32} (h : σ.1 0 2 = nI 30) : D8m_blank σ kn = some (none, σ) := by
  unfold D8m_blank
  rw [h]
  rfl
theorem keep_n {σ : DS} {F : Nat} (h : σ.1 0 2 = nI F) : D8m_keep σ = some (nI F, dS σ 0 2 (nI (F + 1))) := by
  unfold D8m_keep
  rw [h, nm_s, pl1, dS_s, mi1]
theorem made_n {τ : RS} {F : Nat} {kn : Int32} (h : τ.1 6 = nI F) (hF : F < 30) : Rm_made τ kn = some (nI F, rS (rA τ 7 F kn) 6 (nI (F + 1))) := by
  unfold Rm_made
  rw [h]
  ((try simp only [in_0]); simp (disch := omega) only [h, rS_s, fa_lt, fa_le, fa_eq, it_nI, t0, i32_99, i32_8, i32_1, i32_2, i32_3, i32_4, i32_5, i32_6, i32_7, i32_11, i32_12, i32_13, i32_20, i32_30, i32_40, i32_50, i32_m50, i32_m1, i32_m2, i32_64, i32_256, i32_768, i32_4096, i32_600, i32_m600, i32_1000, i32_1201, if_pos, if_neg, reduceIte, b1_s, b2_s, nm_s, gi_n, tn, pl1, mi1, sub1, ml2, ml4, ml40, ml4096, ad, pl2, sub2, sub3, sub4, dA_p1, dA_p3, dS_p2, dS_p3, dJ_p1, dJ_p2, rA_p1, rS_p2])
theorem made_f {τ : RS} {kn : Int32} (h : τ.1 6 = nI 30) : Rm_made τ kn = some (-4, τ) := by
  unfold Rm_made
  rw [h]
  rfl
/-- both made a family of the same ways -/
theorem fam_done {σ σ1 : DS} {τ τ1 : RS} {F kn : Nat} {kd : Nat → Nat} {W : Nat → Nat → Bool} {dc : Option (Int32 × DS)} {rc : Option (Int32 × RS)} (h : INV σ τ) (hF : F < 30) (hf : FW F kd ∧ CF σ F kd W ∧ RF τ F kd W) (hk : kn ≤ 5) (w : Nat → Bool)
    (hd : dc = b2 (D8m_keep σ1) (fun r s => some (r, s))) (d1 : dK_ (dScr F) σ σ1) (d2 : σ1.1 (47 + F) 0 = nI kn) (d3 : ∀ m, m < 4096 → wb σ1 F (mir m) = w m) (d4 : σ1.2.1 11 0 = 0 ∧ σ1.2.1 12 0 = 0)
    (hr : rc = b2 (Rm_made τ1 (nI kn)) (fun r s => some (r, s))) (r1 : rK_ (fun c => c = 8 ∨ rScr c) τ τ1) (r2 : ∀ m, m < 4096 → τ1.2 8 (4096 * F + m) = bI (w m)) (r3 : ∀ j, j < 4096 * F → τ1.2 8 j = τ.2 8 j) (r4 : AXr τ1) :
    ∃ (r : Int32) (σ' : DS) (τ' : RS), dc = some (r, σ') ∧ rc = some (r, τ') ∧ INV σ' τ' := by
  have e1 : σ1.1 0 2 = nI F := by rw [(d1 0 (by unfold dScr; omega)).1]; exact hf.2.1.1
  have e2 : τ1.1 6 = nI F := by rw [(r1 6 (by simp only [rScr]; omega)).1]; exact hf.2.2.1
  refine ⟨nI F, dS σ1 0 2 (nI (F + 1)), rS (rA τ1 7 F (nI kn)) 6 (nI (F + 1)), ?_, ?_, ?_⟩
  · rw [hd, keep_n e1]; rfl
  · rw [hr, made_n e2 hF]; rfl
  · refine h.made hF hf ((d1.mo (fun c hc => Or.inr hc)).tr (dK_S (Or.inl rfl))) ((r1.mo (fun c hc => by rcases hc with hc | hc; exact Or.inr (Or.inr (Or.inl hc)); exact Or.inr (Or.inr (Or.inr hc)))).tr ((rK_A (Or.inr (Or.inl rfl))).tr (rK_S (Or.inl rfl)))) ⟨d4, fun j => ?_⟩ kn w hk dS_s ?_ d3 rS_s ?_ (fun f hf9 => ?_) r2 r3
    · exact r4 j
    · rw [dS_1 (by omega)]; exact d2
    · show (rA τ1 7 F (nI kn)).2 7 F = _; exact rA_s
    · rw [show (rS (rA τ1 7 F (nI kn)) 6 (nI (F + 1))).2 7 f = (rA τ1 7 F (nI kn)).2 7 f from rfl, rA_n (by omega), (r1 7 (by simp only [rScr]; omega)).2]
/-- there were thirty -/
theorem fam_full {σ : DS} {τ τ1 : RS} {dc : Option (Int32 × DS)} {rc : Option (Int32 × RS)} (h : INV σ τ) (h6 : τ.1 6 = nI 30) {kn : Int32} (hd : dc = some (-4, σ)) (hr : rc = b2 (Rm_made τ1 kn) (fun r s => some (r, s))) (r1 : rK_ rScr τ τ1) (r4 : AXr τ1) :
    ∃ (r : Int32) (σ' : DS) (τ' : RS), dc = some (r, σ') ∧ rc = some (r, τ') ∧ INV σ' τ' := by
  have e2 : τ1.1 6 = nI 30 := by rw [(r1 6 (by simp only [rScr]; omega)).1]; exact h6
  refine ⟨-4, σ, τ1, hd, by rw [hr, made_f e2]; rfl, h.scr (fun _ _ _ => dK_.rf) r1 ⟨h.2.2.2.2.2.1, r4⟩⟩
/-! put, one after the other -/
def PUTS (C : Nat → Prop) (τ τ1 : RS) (F n : Nat) (w : Nat → Bool) : Prop :=
  rK_ (fun c => c = 8 ∨ C c) τ τ1 ∧ (∀ m, m < n → τ1.2 8 (4096 * F + m) = bI (w m)) ∧ (∀ j, ¬ (4096 * F ≤ j ∧ j < 4096 * F + n) → τ1.2 8 j = τ.2 8 j) ∧ AXr τ1
theorem PUTS.F {C : Nat → Prop} {τ τ1 : RS} {F n : Nat} {w : Nat → Bool} (h : PUTS C τ τ1 F n w) {c : Nat} (hc : ¬ C c) (h8 : c ≠ 8) : τ1.1 c = τ.1 c ∧ τ1.2 c = τ.2 c := h.1 c (fun q => q.elim h8 hc)
theorem put_s {C : Nat → Prop} {τ τ1 : RS} {F m : Nat} {w : Nat → Bool} (h : PUTS C τ τ1 F m w) (hC : ∀ c, C c → rScr c) (h6 : τ.1 6 = nI F) (hF : F < 30) (hm : m < 4096) : ∃ τ2, Rm_put τ1 (nI m) (bI (w m)) = some τ2 ∧ PUTS C τ τ2 F (m + 1) w := by
  obtain ⟨h1, h2, h3, h4⟩ := id h
  have e6 : τ1.1 6 = nI F := by rw [(h.F (c := 6) (fun q => absurd (hC 6 q) (by simp only [rScr]; omega)) (by omega)).1]; exact h6
  refine ⟨rA τ1 8 (4096 * F + m) (bI (w m)), ?_, h1.tr (rK_A (Or.inl rfl)), fun j hj => ?_, fun j hj => ?_, ?_⟩
  · unfold Rm_put
    rw [e6, ml4096, ad, gi_n (by omega) (by decide), tn _ (by omega), bI_and, nm_s]
  · by_cases e : j = m
    · subst e; exact rA_s
    · rw [rA_n (by omega)]; exact h2 j (by omega)
  · rw [rA_n (by omega)]; exact h3 j (by omega)
  · refine h4.to (fun j => ?_) (fun j => Or.inl rfl) (fun j => Or.inl rfl)
    by_cases e : j = 4096 * F + m
    · subst e; rw [rA_s]; exact Or.inr (bI_01 _)
    · rw [rA_n e]; exact Or.inl rfl
theorem PUTS.z {C : Nat → Prop} {τ : RS} {F : Nat} {w : Nat → Bool} (h : AXr τ) : PUTS C τ τ F 0 w := ⟨rK_.rf, fun m hm => by omega, fun j _ => rfl, h⟩
theorem put_loop {ρ : Type} {C : Nat → Prop} {f : (Int32 → RS → Option ρ) → Int32 → RS → Option ρ} {τ : RS} {F : Nat} (kx : RS → Option ρ) (w : Nat → Bool) (hC : ∀ c, C c → rScr c) (h6 : τ.1 6 = nI F) (hF : F < 30) (ha : AXr τ)
    (hb : ∀ (m : Nat) (τ1 : RS) (rc : Int32 → RS → Option ρ), m < 4096 → PUTS C τ τ1 F m w → ∃ τ2, PUTS C τ τ2 F m w ∧ f rc (nI m) τ1 = b1 (Rm_put τ2 (nI m) (bI (w m))) (fun τ3 => rc (nI m + 1) τ3))
    (he : ∀ (τ1 : RS) (rc : Int32 → RS → Option ρ), PUTS C τ τ1 F 4096 w → f rc (nI 4096) τ1 = kx τ1) : ∃ τ1, it2 f fuel (0 : Int32) τ = kx τ1 ∧ PUTS C τ τ1 F 4096 w := by
  refine it2_ind (P := fun n v t => ∃ m, m + n = 4096 ∧ v = nI m ∧ PUTS C τ t F m w) (Q := fun o => ∃ τ1, o = kx τ1 ∧ PUTS C τ τ1 F 4096 w) ?_ fuel 4096 (0 : Int32) τ (by unfold fuel; omega) ⟨0, rfl, rfl, PUTS.z ha⟩
  rintro n v t rc ⟨m, hm, rfl, hp⟩ ih
  by_cases c : m = 4096
  · subst c; exact ⟨t, he t rc hp, hp⟩
  · obtain ⟨τ2, p2, e2⟩ := hb m t rc (by omega) hp
    obtain ⟨τ3, e3, p3⟩ := put_s p2 hC h6 hF (by omega)
    rw [e2, e3, b1_s, pl1]
    exact ih (n - 1) _ _ (by omega) ⟨m + 1, by omega, rfl, p3⟩
/-! the hand -/
def HND (τ τ1 : RS) (n : Nat) (w : Nat → Bool) : Prop := rK_ rScr τ τ1 ∧ (∀ m, m < n → τ1.2 20 m = bI (w m)) ∧ AXr τ1 ∧ ∀ j, τ1.2 8 j = τ.2 8 j
theorem HND.z {τ : RS} {w : Nat → Bool} (h : AXr τ) : HND τ τ 0 w := ⟨rK_.rf, fun m hm => by omega, h, fun _ => rfl⟩
theorem HND.F {τ τ1 : RS} {n : Nat} {w : Nat → Bool} (h : HND τ τ1 n w) {c : Nat} (hc : c ≤ 18) : τ1.1 c = τ.1 c ∧ τ1.2 c = τ.2 c := h.1 c (by simp only [rScr]; omega)
theorem hnd_s {τ τ1 : RS} {m : Nat} {w : Nat → Bool} (h : HND τ τ1 m w) : HND τ (rA τ1 20 m (bI (w m))) (m + 1) w := by
  obtain ⟨h1, h2, h3, h4⟩ := h
  refine ⟨h1.tr (rK_A (by simp only [rScr]; omega)), fun j hj => ?_, h3.to (fun j => Or.inl rfl) (fun j => ?_) (fun j => Or.inl rfl), fun j => h4 j⟩
  · by_cases e : j = m
    · subst e; exact rA_s
    · rw [rA_n e]; exact h2 j (by omega)
  · by_cases e : j = m
    · subst e; rw [rA_s]; exact Or.inr (bI_01 _)
    · rw [rA_n e]; exact Or.inl rfl
theorem hand_loop {ρ : Type} {f : (Int32 → RS → Option ρ) → Int32 → RS → Option ρ} {τ : RS} (kx : RS → Option ρ) (w : Nat → Bool) (ha : AXr τ)
    (hb : ∀ (m : Nat) (τ1 : RS) (rc : Int32 → RS → Option ρ), m < 4096 → HND τ τ1 m w → f rc (nI m) τ1 = rc (nI m + 1) (rA τ1 20 m (bI (w m))))
    (he : ∀ (τ1 : RS) (rc : Int32 → RS → Option ρ), f rc (nI 4096) τ1 = kx τ1) : ∃ τ1, it2 f fuel (0 : Int32) τ = kx τ1 ∧ HND τ τ1 4096 w := by
  refine it2_ind (P := fun n v t => ∃ m, m + n = 4096 ∧ v = nI m ∧ HND τ t m w) (Q := fun o => ∃ τ1, o = kx τ1 ∧ HND τ τ1 4096 w) ?_ fuel 4096 (0 : Int32) τ (by unfold fuel; omega) ⟨0, rfl, rfl, HND.z ha⟩
  rintro n v t rc ⟨m, hm, rfl, hp⟩ ih
  by_cases c : m = 4096
  · subst c; exact ⟨t, he t rc, hp⟩
  · rw [hb m t rc (by omega) hp, pl1]
    exact ih (n - 1) _ _ (by omega) ⟨m + 1, by omega, rfl, hnd_s hp⟩
/-- the hand handed on -/
theorem handed_n {τ : RS} {F : Nat} {w : Nat → Bool} (h6 : τ.1 6 = nI F) (hF : F < 30) (ha : AXr τ) (hw : ∀ m, m < 4096 → τ.2 20 m = bI (w m)) : ∃ τ1, Rm_handed τ = b2 (Rm_made τ1 (nI 0)) (fun r s => some (r, s)) ∧ PUTS (fun _ => False) τ τ1 F 4096 w := by
  refine put_loop (f := Rs_handed_2 (fun τ_6 => b2 (Rm_made τ_6 (0 : Int32)) (fun r_8 τ_9 => some (r_8, τ_9)))) (C := fun _ => False) (τ := τ) (F := F) (fun t => b2 (Rm_made t (0 : Int32)) (fun r s => some (r, s))) w (fun _ h => h.elim) h6 hF ha (fun m t rc hm hp => ⟨t, hp, ?_⟩) (fun t rc hp => ?_)
  · unfold Rs_handed_2
    rw [(hp.F (c := 6) (fun h => h) (by omega)).1, h6, (hp.F (c := 20) (fun h => h) (by omega)).2]
    ((try simp only [in_0]); simp (disch := omega) only [hw m hm, fa_lt, fa_le, fa_eq, it_nI, t0, i32_99, i32_8, i32_1, i32_2, i32_3, i32_4, i32_5, i32_6, i32_7, i32_11, i32_12, i32_13, i32_20, i32_30, i32_40, i32_50, i32_m50, i32_m1, i32_m2, i32_64, i32_256, i32_768, i32_4096, i32_600, i32_m600, i32_1000, i32_1201, if_pos, if_neg, reduceIte, b1_s, b2_s, nm_s, gi_n, tn, pl1, mi1, sub1, ml2, ml4, ml40, ml4096, ad, pl2, sub2, sub3, sub4, dA_p1, dA_p3, dS_p2, dS_p3, dJ_p1, dJ_p2, rA_p1, rS_p2])
  · unfold Rs_handed_2
    ((try simp only [in_0]); simp (disch := omega) only [Int.le_refl, fa_lt, fa_le, fa_eq, it_nI, t0, i32_99, i32_8, i32_1, i32_2, i32_3, i32_4, i32_5, i32_6, i32_7, i32_11, i32_12, i32_13, i32_20, i32_30, i32_40, i32_50, i32_m50, i32_m1, i32_m2, i32_64, i32_256, i32_768, i32_4096, i32_600, i32_m600, i32_1000, i32_1201, if_pos, if_neg, reduceIte, b1_s, b2_s, nm_s, gi_n, tn, pl1, mi1, sub1, ml2, ml4, ml40, ml4096, ad, pl2, sub2, sub3, sub4, dA_p1, dA_p3, dS_p2, dS_p3, dJ_p1, dJ_p2, rA_p1, rS_p2])
theorem handed_f {τ : RS} (h6 : τ.1 6 = nI 30) : Rm_handed τ = b2 (Rm_made τ (nI 0)) (fun r s => some (r, s)) := by
  unfold Rm_handed
  refine it2_ind (f := Rs_handed_2 (fun τ_6 => b2 (Rm_made τ_6 (0 : Int32)) (fun r_8 τ_9 => some (r_8, τ_9)))) (P := fun n v t => v = 0 ∧ t = τ) (Q := fun o => o = b2 (Rm_made τ (nI 0)) (fun r s => some (r, s))) ?_ fuel 0 (0 : Int32) τ (by unfold fuel; omega) ⟨rfl, rfl⟩
  rintro n v t rc ⟨rfl, rfl⟩ ih
  unfold Rs_handed_2
  rw [h6, if_neg (by decide), if_pos (by decide)]
  rfl

/-! ===== write ===== -/
theorem st_write : ST_write INV := by
  intro σ τ h a1
  obtain ⟨-, ⟨F, kd, W, f1, f2, f3⟩, -, -, -, ax⟩ := id h
  have hF := f1.1
  by_cases hf0 : 0 ≤ a1.toInt ∧ a1.toInt < F
  · obtain ⟨f, hf, rfl⟩ := of_range (by omega) hf0.1 hf0.2
    obtain ⟨σ', e1, T1, d1⟩ := list_b (b := 17) (σ := σ) (a := f) (V := wb σ f) (by omega) (by omega) (fun p _ => rfl)
    obtain ⟨τ1, e2, n2, w2, hlen, r2⟩ := rowsOf_n f1 f2 f3 hf
    obtain ⟨L, hL⟩ : ∃ L, L = po 12 (tT (wb σ f) 12 0) [] := ⟨_, rfl⟩
    rw [← hL] at e1 T1 n2 w2 hlen
    have lp : ∃ t, it2 (Rs_write_26 (fun τ_11 => some ((τ_11.1 9), τ_11))) fuel (0 : Int32) (rS τ1 9 (nI L.length)) = some (nI L.length, t) ∧ rK_ (fun c => c = 9 ∨ c = 10) τ1 t ∧ t.1 9 = nI L.length ∧ ∀ j, j < 4 * L.length → t.2 10 j = τ1.2 30 j := by
      refine it2_ind (f := Rs_write_26 (fun τ_11 => some ((τ_11.1 9), τ_11))) (P := fun n v t => ∃ j, j + n = 4 * L.length ∧ v = nI j ∧ rK_ (fun c => c = 9 ∨ c = 10) τ1 t ∧ t.1 9 = nI L.length ∧ ∀ i, i < j → t.2 10 i = τ1.2 30 i) (Q := fun o => ∃ t, o = some (nI L.length, t) ∧ rK_ (fun c => c = 9 ∨ c = 10) τ1 t ∧ t.1 9 = nI L.length ∧ ∀ j, j < 4 * L.length → t.2 10 j = τ1.2 30 j) ?_ fuel (4 * L.length) (0 : Int32) (rS τ1 9 (nI L.length)) (by unfold fuel; omega) ⟨0, by omega, rfl, rK_S (Or.inl rfl), rS_s, fun i hi => absurd hi (Nat.not_lt_zero i)⟩
      rintro n v t rc ⟨j, hj, rfl, k1, z1, q1⟩ ih
      unfold Rs_write_26
      rw [z1, ml4]
      by_cases c : j = 4 * L.length
      · rw [if_pos (by rw [c]; exact nI_le (Nat.le_refl _) (by omega))]
        exact ⟨t, by show some (t.1 9, t) = _; rw [z1], k1, z1, fun i hi => q1 i (by omega)⟩
      · rw [if_neg (nI_ge (by omega) (by omega)), gi_n (by omega) (by decide), gi_n (by omega) (by decide), nm_s, tn _ (by omega), pl1]
        refine ih (n - 1) _ _ (by omega) ⟨j + 1, by omega, rfl, k1.tr (rK_A (Or.inr rfl)), z1, fun i hi => ?_⟩
        by_cases e : i = j
        · rw [e, rA_s, (k1 30 (by omega)).2]
        · rw [rA_n e]; exact q1 i (by omega)
    obtain ⟨t, e3, k3, z3, q3⟩ := lp
    refine ⟨nI L.length, σ', t, ?_, ?_, h.rows (fun F0 _ _ => d1.mo (fun c hc => Or.inl (by omega))) ((r2.mo (fun c hc => by simp only [rScr]; omega)).tr (k3.mo (fun c hc => by simp only [rScr]; omega))) ⟨L.length, hlen, T1.1.1, z3, fun i hi w hw => ?_⟩ ⟨by rw [(d1 11 (by omega)).2.1, (d1 12 (by omega)).2.1]; exact ax.1, fun j => ?_⟩⟩
    · unfold D8m_write
      rw [family_n f2.1 hF hf, bq_k (by omega), e1, b2_s]
    · unfold Rm_write
      rw [if_neg (fun q => (isFam_0 f3.1 hF).mp q hf0), e2, b1_s, n2, nm_s, e3]
    · have hg : L[i]? = some L[i] := List.getElem?_eq_getElem hi
      rw [q3 _ (by omega), w2 i _ hg w hw]
      exact T1.2 i _ hg w hw
    · rw [(k3 8 (by omega)).2, (k3 20 (by omega)).2, (k3 21 (by omega)).2]
      exact AXr.bk ax.2 r2 (fun c hc => hc.1) j
  · refine ⟨-2, σ, τ, ?_, ?_, h⟩
    · unfold D8m_write
      rw [family_o f2.1 hF hf0, bq_n]
    · unfold Rm_write
      rw [if_pos ((isFam_0 f3.1 hF).mpr hf0)]

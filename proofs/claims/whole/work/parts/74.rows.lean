/-! ===== the reference's rows ===== -/
def DF (K : List Nat) (τ : RS) (acc : List Nat) : Prop := RTB τ K ∧ τ.1 31 = nI acc.length ∧ (∀ i t, K[i]? = some t → τ.2 27 i = if t ∈ acc then nI (acc.idxOf t) else -1) ∧ (∀ i t, acc[i]? = some t → ∀ w, w < 4 → τ.2 30 (4 * i + w) = rw_ acc t w) ∧ CLO acc ∧ ∀ t, t ∈ acc → t ∈ K
theorem enc_neg {L : List Nat} {x : Nat} (c : x < 2) : enc L x = -1 ∨ enc L x = -2 := by
  rcases (show x = 0 ∨ x = 1 by omega) with rfl | rfl
  · exact Or.inl rfl
  · exact Or.inr rfl
section ROWS
variable {V : Nat → Bool} {K : List Nat}
theorem po_id {L : List Nat} (h : CLO L) : ∀ (k q : Nat), inn L (tT V k q) → po k (tT V k q) L = L := by
  intro k
  induction k with
  | zero => intro q _; rfl
  | succ k ih =>
    intro q hi
    obtain ⟨ia, ib⟩ := inn_child h hi
    rw [po_s, ih (2 * q) ia, ih (2 * q + 1) ib]
    by_cases c0 : tT V k (2 * q + 1) = 0
    · rw [if_pos c0]
    · obtain ⟨-, -, -, k4, -⟩ := kk_of (tT_lt V k (2 * q)) (tT_lt V k (2 * q + 1)) c0
      have k4 : 2 ≤ tT V (k + 1) q := k4
      rw [if_neg c0, if_pos (hi.resolve_left (by omega))]
theorem po_le : ∀ (k q : Nat) (L : List Nat) (t : Nat), t ∈ po k (tT V k q) L → t ∈ L ∨ t ≤ tT V k q := by
  intro k
  induction k with
  | zero => intro q L t ht; exact Or.inl ht
  | succ k ih =>
    intro q L t ht
    have et : tT V (k + 1) q = tT V k (2 * q) + 2 ^ 2 ^ k * tT V k (2 * q + 1) := rfl
    have hle : tT V k (2 * q + 1) ≤ 2 ^ 2 ^ k * tT V k (2 * q + 1) := Nat.le_mul_of_pos_left _ (pp_pos k)
    have both : t ∈ po k (tT V k (2 * q + 1)) (po k (tT V k (2 * q)) L) → t ∈ L ∨ t ≤ tT V (k + 1) q := fun q1 => by
      rcases ih (2 * q + 1) _ t q1 with q2 | q2
      · rcases ih (2 * q) L t q2 with q3 | q3
        · exact Or.inl q3
        · exact Or.inr (by omega)
      · exact Or.inr (by omega)
    rw [po_s] at ht
    by_cases c0 : tT V k (2 * q + 1) = 0
    · rw [if_pos c0] at ht; exact both ht
    · rw [if_neg c0] at ht
      by_cases c1 : tT V (k + 1) q ∈ po k (tT V k (2 * q + 1)) (po k (tT V k (2 * q)) L)
      · rw [if_pos c1] at ht; exact both ht
      · rw [if_neg c1, List.mem_append, List.mem_singleton] at ht
        rcases ht with ht | ht
        · exact both ht
        · exact Or.inr (by omega)
theorem po_len {L : List Nat} (h : CLO L) (hB : LBD V L) {k q : Nat} (hk : k ≤ 12) (hq : q < 2 ^ (12 - k)) : L.length ≤ (po k (tT V k q) L).length :=
  nodup_le h.1 (po_clo (V := V) k q L hk hq h hB).2.2.1
/-- a reference, numbered anew -/
theorem ref_n {τ : RS} {acc : List Nat} (hK : K.length ≤ 765) (hD : DF K τ acc) {x : Nat} (hx : inn acc x) : Rm_ref τ (enc K x) = some (enc acc x) := by
  unfold Rm_ref
  by_cases c : x < 2
  · have e : enc K x = enc acc x := by unfold enc; rcases (show x = 0 ∨ x = 1 by omega) with rfl | rfl <;> rfl
    have n : ¬ (0 : Int32) ≤ enc K x := by rcases enc_neg (L := K) c with z | z <;> rw [z] <;> decide
    rw [if_neg n, e]
  · have hm := hx.resolve_left c
    have hmK := hD.2.2.2.2.2 x hm
    have hi := List.idxOf_lt_length_of_mem hmK
    rw [enc_in (by omega), enc_in (by omega), if_pos (nI_pos' (by omega)), gi_n (by omega) (by decide), tn _ (by omega), hD.2.2.1 _ x (by rw [List.getElem?_eq_getElem hi, List.getElem_idxOf]), if_pos hm]
theorem rcount_n {τ : RS} {acc : List Nat} (hl : acc.length ≤ 765) (hW : ∀ i t, acc[i]? = some t → ∀ w, w < 4 → τ.2 30 (4 * i + w) = rw_ acc t w) {x : Nat} (hx : inn acc x) : Rm_countOf τ (enc acc x) = some (nI (cn x)) := by
  unfold Rm_countOf
  by_cases c0 : x = 0
  · rw [c0, if_pos (show enc acc 0 = -1 from if_pos rfl), cn_0]; rfl
  · by_cases c1 : x = 1
    · rw [c1, if_neg (show ¬ enc acc 1 = -1 from fun q => absurd (show (-2 : Int32) = -1 from q) (by decide)), if_pos (show enc acc 1 = -2 from rfl), cn_1]; rfl
    · have hm := hx.resolve_left (by omega)
      have hi := List.idxOf_lt_length_of_mem hm
      have ne1 : nI (acc.idxOf x) ≠ -1 := fun q => by
        have := congrArg Int32.toInt q
        rw [it_nI (by omega), i32_m1] at this
        omega
      have ne2 : nI (acc.idxOf x) ≠ -2 := fun q => by
        have := congrArg Int32.toInt q
        rw [it_nI (by omega), i32_m2] at this
        omega
      have e3 : nI (4 * acc.idxOf x) + (3 : Int32) = nI (4 * acc.idxOf x + 3) := nI_add _ 3
      rw [enc_in (by omega), if_neg ne1, if_neg ne2, ml4, e3, gi_n (by omega) (by decide), tn _ (by omega), hW _ x (by rw [List.getElem?_eq_getElem hi, List.getElem_idxOf]) 3 (by omega)]
      rfl
theorem writeKnot_n {τ : RS} {acc : List Nat} (hC : CLO K) (hK : K.length ≤ 765) (hD : DF K τ acc) (hla : acc.length ≤ 765) {k q : Nat} (hk : k ≤ 11) (c0 : tT V k (2 * q + 1) ≠ 0) (hm : tT V (k + 1) q ∈ K) (hn : tT V (k + 1) q ∉ acc) (ia : inn acc (tT V k (2 * q))) (ib : inn acc (tT V k (2 * q + 1))) : ∃ τ', Rm_writeKnot τ (nI (K.idxOf (tT V (k + 1) q))) = some τ' ∧ DF K τ' (acc ++ [tT V (k + 1) q]) ∧ rK_ (fun c => c = 27 ∨ c = 30 ∨ c = 31) τ τ' := by
  have ha := tT_lt V k (2 * q)
  have hb := tT_lt V k (2 * q + 1)
  obtain ⟨k1, k2, k3, k4, -⟩ := kk_of ha hb c0
  have et : tT V (k + 1) q = tT V k (2 * q) + 2 ^ 2 ^ k * tT V k (2 * q + 1) := rfl
  rw [← et] at k1 k2 k3 k4
  obtain ⟨d1, d2, d3, d4, d5, d6⟩ := id hD
  have hi := List.idxOf_lt_length_of_mem hm
  obtain ⟨ix, hix⟩ : ∃ ix, ix = K.idxOf (tT V (k + 1) q) := ⟨_, rfl⟩
  rw [← hix] at hi ⊢
  have hg : K[ix]? = some (tT V (k + 1) q) := by subst hix; rw [List.getElem?_eq_getElem hi, List.getElem_idxOf]
  obtain ⟨r0, r1, r2⟩ := d1.2 ix _ hg
  have r0' : τ.2 23 ix = nI (11 - k) := by rw [r0]; show nI (11 - kk _) = _; rw [k1]
  have r1' : τ.2 24 ix = enc K (tT V k (2 * q)) := by rw [r1]; show enc K (_ % 2 ^ 2 ^ kk _) = _; rw [k1, k2]
  have r2' : τ.2 25 ix = enc K (tT V k (2 * q + 1)) := by rw [r2]; show enc K (_ / 2 ^ 2 ^ kk _) = _; rw [k1, k3]
  have na : tT V k (2 * q) ≠ tT V (k + 1) q := by
    have : 1 ≤ tT V k (2 * q + 1) := by omega
    have h2 : 2 ^ 2 ^ k * 1 ≤ 2 ^ 2 ^ k * tT V k (2 * q + 1) := Nat.mul_le_mul_left _ this
    have := pp_pos k
    omega
  have nb : tT V k (2 * q + 1) ≠ tT V (k + 1) q := by
    have h2 : 2 * tT V k (2 * q + 1) ≤ 2 ^ 2 ^ k * tT V k (2 * q + 1) := Nat.mul_le_mul_right _ (pp_2 k)
    omega
  obtain ⟨n, hnl⟩ : ∃ n, n = acc.length := ⟨_, rfl⟩
  rw [← hnl] at d2 hla
  -- the states on the way
  obtain ⟨τ1, h1⟩ : ∃ t, t = rA τ 27 ix (nI n) := ⟨_, rfl⟩
  have q1 : DF K τ1 acc ∨ True := Or.inr trivial
  have refs : ∀ (t : RS), t.2 27 = τ1.2 27 → ∀ x, inn acc x → x ≠ tT V (k + 1) q → Rm_ref t (enc K x) = some (enc acc x) := fun t ht x hx hne => by
    unfold Rm_ref
    by_cases c : x < 2
    · have e : enc K x = enc acc x := by unfold enc; rcases (show x = 0 ∨ x = 1 by omega) with rfl | rfl <;> rfl
      have n : ¬ (0 : Int32) ≤ enc K x := by rcases enc_neg (L := K) c with z | z <;> rw [z] <;> decide
      rw [if_neg n, e]
    · have hm2 := hx.resolve_left c
      have hmK := d6 x hm2
      have hi2 := List.idxOf_lt_length_of_mem hmK
      have hne2 : K.idxOf x ≠ ix := fun e => by
        have g1 := List.getElem_idxOf hi2
        have g2 := (List.getElem?_eq_some_iff.mp hg).2
        apply hne
        rw [← g1, ← g2]
        congr 1
      rw [enc_in (by omega), enc_in (by omega), if_pos (nI_pos' (by omega)), gi_n (by omega) (by decide), tn _ (by omega), ht, h1, rA_n hne2, d3 _ x (by rw [List.getElem?_eq_getElem hi2, List.getElem_idxOf]), if_pos hm2]
  have cnts : ∀ (t : RS), (∀ j, j < 4 * n → t.2 30 j = τ.2 30 j) → ∀ x, inn acc x → Rm_countOf t (enc acc x) = some (nI (cn x)) := fun t ht x hx =>
    rcount_n (by omega) (fun i s hi w hw => by
      have : i < acc.length := (List.getElem?_eq_some_iff.mp hi).1
      rw [ht _ (by omega)]
      exact d4 i s hi w hw) hx
  obtain ⟨τ2, h2⟩ : ∃ t, t = rA τ1 30 (4 * n) (nI (11 - k)) := ⟨_, rfl⟩
  obtain ⟨τ3, h3⟩ : ∃ t, t = rA τ2 30 (4 * n + 1) (enc acc (tT V k (2 * q))) := ⟨_, rfl⟩
  obtain ⟨τ4, h4⟩ : ∃ t, t = rA τ3 30 (4 * n + 2) (enc acc (tT V k (2 * q + 1))) := ⟨_, rfl⟩
  obtain ⟨τ5, h5⟩ : ∃ t, t = rA τ4 30 (4 * n + 3) (nI (cn (tT V k (2 * q))) + nI (cn (tT V k (2 * q + 1)))) := ⟨_, rfl⟩
  have e27 : τ2.2 27 = τ1.2 27 ∧ τ3.2 27 = τ1.2 27 ∧ τ4.2 27 = τ1.2 27 ∧ τ5.2 27 = τ1.2 27 := by
    have a2 : τ2.2 27 = τ1.2 27 := by rw [h2, rA_1 (by decide)]
    have a3 : τ3.2 27 = τ1.2 27 := by rw [h3, rA_1 (by decide), a2]
    have a4 : τ4.2 27 = τ1.2 27 := by rw [h4, rA_1 (by decide), a3]
    exact ⟨a2, a3, a4, by rw [h5, rA_1 (by decide), a4]⟩
  have e24 : τ1.2 24 = τ.2 24 ∧ τ2.2 24 = τ.2 24 ∧ τ3.2 24 = τ.2 24 ∧ τ4.2 24 = τ.2 24 := by
    have a1 : τ1.2 24 = τ.2 24 := by rw [h1, rA_1 (by decide)]
    have a2 : τ2.2 24 = τ.2 24 := by rw [h2, rA_1 (by decide), a1]
    have a3 : τ3.2 24 = τ.2 24 := by rw [h3, rA_1 (by decide), a2]
    exact ⟨a1, a2, a3, by rw [h4, rA_1 (by decide), a3]⟩
  have e25 : τ1.2 25 = τ.2 25 ∧ τ2.2 25 = τ.2 25 ∧ τ3.2 25 = τ.2 25 ∧ τ4.2 25 = τ.2 25 := by
    have a1 : τ1.2 25 = τ.2 25 := by rw [h1, rA_1 (by decide)]
    have a2 : τ2.2 25 = τ.2 25 := by rw [h2, rA_1 (by decide), a1]
    have a3 : τ3.2 25 = τ.2 25 := by rw [h3, rA_1 (by decide), a2]
    exact ⟨a1, a2, a3, by rw [h4, rA_1 (by decide), a3]⟩
  have e23 : τ1.2 23 = τ.2 23 := by rw [h1, rA_1 (by decide)]
  have e31 : τ1.1 31 = nI n ∧ τ2.1 31 = nI n ∧ τ3.1 31 = nI n ∧ τ4.1 31 = nI n ∧ τ5.1 31 = nI n := by
    rw [h5, h4, h3, h2, h1]
    exact ⟨d2, d2, d2, d2, d2⟩
  have z30 : ∀ j, τ4.2 30 j = if j = 4 * n + 2 then enc acc (tT V k (2 * q + 1)) else if j = 4 * n + 1 then enc acc (tT V k (2 * q)) else if j = 4 * n then nI (11 - k) else τ.2 30 j := fun j => by
    rw [h4, h3, h2, h1]
    by_cases a : j = 4 * n + 2
    · rw [if_pos a, a, rA_s]
    · rw [if_neg a, rA_n a]
      by_cases b : j = 4 * n + 1
      · rw [if_pos b, b, rA_s]
      · rw [if_neg b, rA_n b]
        by_cases c : j = 4 * n
        · rw [if_pos c, c, rA_s]
        · rw [if_neg c, rA_n c, rA_1 (by decide)]
  have z30' : ∀ j, j < 4 * n → τ4.2 30 j = τ.2 30 j := fun j hj => by rw [z30, if_neg (by omega), if_neg (by omega), if_neg (by omega)]
  have p1 : nI (4 * n) + (1 : Int32) = nI (4 * n + 1) := pl1
  have p2 : nI (4 * n) + (2 : Int32) = nI (4 * n + 2) := nI_add _ 2
  have p3 : nI (4 * n) + (3 : Int32) = nI (4 * n + 3) := nI_add _ 3
  refine ⟨rS τ5 31 (nI (n + 1)), ?_, ⟨⟨?_, fun i t hi2 => ?_⟩, by rw [rS_s, List.length_append, ← hnl]; rfl, fun i t hi2 => ?_, fun i t hi2 w hw => ?_, ?_, fun t ht => ?_⟩, ?_⟩
  · unfold Rm_writeKnot
    rw [d2, gi_n (by omega) (by decide), nm_s, tn _ (by omega), ← h1, e31.1, ml4, gi_n (by omega) (by decide), gi_n (by omega) (by decide), nm_s, tn _ (by omega), e23, r0', ← h2, gi_n (by omega) (by decide), e24.2.1, r1', refs τ2 e27.1 _ ia na, b1_s, e31.2.1, ml4, p1, gi_n (by omega) (by decide), nm_s, tn _ (by omega), ← h3, gi_n (by omega) (by decide), e25.2.2.1, r2', refs τ3 e27.2.1 _ ib nb, b1_s, e31.2.2.1, ml4, p2, gi_n (by omega) (by decide), nm_s, tn _ (by omega), ← h4, gi_n (by omega) (by decide), e24.2.2.2, r1', refs τ4 e27.2.2.1 _ ia na, b1_s, cnts τ4 z30' _ ia, b1_s, gi_n (by omega) (by decide), e25.2.2.2, r2', refs τ4 e27.2.2.1 _ ib nb, b1_s, cnts τ4 z30' _ ib, b1_s, e31.2.2.2.1, ml4, p3, gi_n (by omega) (by decide), nm_s, tn _ (by omega), ← h5, e31.2.2.2.2, nm_s, pl1]
  · show τ5.1 22 = _
    rw [h5, h4, h3, h2, h1]
    exact d1.1
  · show τ5.2 23 i = _ ∧ τ5.2 24 i = _ ∧ τ5.2 25 i = _
    rw [h5, rA_1 (by decide), rA_1 (by decide), rA_1 (by decide), e24.2.2.2, e25.2.2.2, h4, rA_1 (by decide), h3, rA_1 (by decide), h2, rA_1 (by decide), e23]
    exact d1.2 i t hi2
  · show τ5.2 27 i = _
    rw [e27.2.2.2, h1]
    by_cases e : i = ix
    · subst e
      rw [hg] at hi2
      have ht := Option.some.inj hi2
      subst ht
      rw [rA_s, if_pos (List.mem_append_right _ (List.mem_singleton.mpr rfl)), List.idxOf_append, if_neg hn, List.idxOf_cons_self, Nat.zero_add, hnl]
    · rw [rA_n e, d3 i t hi2]
      have hne : t ≠ tT V (k + 1) q := fun e2 => by
        apply e
        have l1 : i < K.length := (List.getElem?_eq_some_iff.mp hi2).1
        have g1 := (List.getElem?_eq_some_iff.mp hi2).2
        have g2 := (List.getElem?_eq_some_iff.mp hg).2
        have x1 := List.Nodup.idxOf_getElem hC.1 i l1
        have x2 := List.Nodup.idxOf_getElem hC.1 ix hi
        rw [g1] at x1
        rw [g2] at x2
        rw [← x1, ← x2, e2]
      by_cases c : t ∈ acc
      · rw [if_pos c, if_pos (List.mem_append_left _ c), List.idxOf_append, if_pos c]
      · rw [if_neg c, if_neg (fun x => by
          rw [List.mem_append, List.mem_singleton] at x
          exact x.elim c hne)]
  · show τ5.2 30 (4 * i + w) = _
    by_cases e : i < acc.length
    · rw [List.getElem?_append_left e] at hi2
      rw [rw_app d5 (List.mem_of_getElem? hi2), h5, rA_n (by omega), z30' _ (by omega)]
      exact d4 i t hi2 w hw
    · have hil : i = acc.length := by
        have : i < (acc ++ [tT V (k + 1) q]).length := (List.getElem?_eq_some_iff.mp hi2).1
        rw [List.length_append] at this
        have h1 : [tT V (k + 1) q].length = 1 := rfl
        omega
      rw [hil] at hi2
      rw [List.getElem?_append_right (Nat.le_refl _), Nat.sub_self] at hi2
      have ht : t = tT V (k + 1) q := (Option.some.inj hi2).symm
      subst ht
      have hin : i = n := by omega
      subst hin
      rcases (show w = 0 ∨ w = 1 ∨ w = 2 ∨ w = 3 by omega) with rfl | rfl | rfl | rfl
      · rw [h5, rA_n (by omega), z30, if_neg (by omega), if_neg (by omega), if_pos (by omega)]; show _ = nI (11 - kk _); rw [k1]
      · rw [h5, rA_n (by omega), z30, if_neg (by omega), if_pos (by omega)]; show _ = enc _ (_ % 2 ^ 2 ^ kk _); rw [k1, k2, enc_app ia]
      · rw [h5, rA_n (by omega), z30, if_pos (by omega)]; show _ = enc _ (_ / 2 ^ 2 ^ kk _); rw [k1, k3, enc_app ib]
      · rw [h5, rA_s]; show nI _ + nI _ = nI (cn _); rw [ad, et, cn_add hk ha hb]
  · exact d5.app hk ha hb c0 ia ib hn
  · rw [List.mem_append, List.mem_singleton] at ht
    rcases ht with ht | rfl
    · exact d6 t ht
    · exact hm
  · rw [h5, h4, h3, h2, h1]
    exact ((((rK_A (by omega)).tr (rK_A (by omega))).tr (rK_A (by omega))).tr ((rK_A (by omega)).tr (rK_A (by omega)))).tr (rK_S (by omega))
end ROWS

/-! ===== from the uppermost knot down ===== -/
section DFS
variable {V : Nat → Bool} {K : List Nat}
def SAMEb (n : Nat) (τ τ' : RS) : Prop := ∀ x, x < n → τ'.2 28 x = τ.2 28 x ∧ τ'.2 29 x = τ.2 29 x
theorem DF.push {τ : RS} {acc : List Nat} (h : DF K τ acc) {c i : Nat} {v : Int32} (hc : c = 28 ∨ c = 29) : DF K (rA τ c i v) acc := by
  obtain ⟨⟨a, b⟩, d2, d3, d4, d5, d6⟩ := h
  refine ⟨⟨a, fun i t hi => ?_⟩, d2, fun i t hi => ?_, fun i t hi w hw => ?_, d5, d6⟩
  · rw [rA_1 (by omega), rA_1 (by omega), rA_1 (by omega)]; exact b i t hi
  · rw [rA_1 (by omega)]; exact d3 i t hi
  · rw [rA_1 (by omega)]; exact d4 i t hi w hw
/-- a knot not numbered yet, lying on the stack at n -/
def GOES (V : Nat → Bool) (K : List Nat) (k : Nat) : Prop := ∀ (q n N : Nat) (τ : RS) (acc : List Nat) (kx : RS → Option RS), q < 2 ^ (12 - k) → tT V k q ∈ K → tT V k q ∉ acc → n + k ≤ 20 → DF K τ acc → LBD V acc → τ.2 28 n = nI (K.idxOf (tT V k q)) → τ.2 29 n = 0 →
  ∃ τ', it2 (Rs_rowsOf_61 kx) (N + 3 * ((po k (tT V k q) acc).length - acc.length)) (nI (n + 1)) τ = it2 (Rs_rowsOf_61 kx) N (nI n) τ' ∧ DF K τ' (po k (tT V k q) acc) ∧ SAMEb n τ τ' ∧ rK_ (fun c => 27 ≤ c ∧ c ≤ 31) τ τ'
/-- from a knot on the stack to one of its sides and back -/
theorem side_n (hK : K.length ≤ 765) {k : Nat} (G : GOES V K k) (hk : k ≤ 11) {q n N : Nat} {τ : RS} {acc : List Nat} {kx : RS → Option RS} (hq : q < 2 ^ (12 - k)) (hx : inn K (tT V k q)) (hn : n + 1 + k ≤ 20) (hD : DF K τ acc) (hB : LBD V acc)
    (hit : ∀ rc : Int32 → RS → Option RS, Rs_rowsOf_61 kx rc (nI (n + 1)) τ = (if enc K (tT V k q) < (0 : Int32) then rc (nI (n + 1)) (rA τ 29 n (τ.2 29 n + 1)) else gi (enc K (tT V k q)) 1100 (if (rA τ 29 n (τ.2 29 n + 1)).2 27 (enc K (tT V k q)).toNatClampNeg = (-1 : Int32) then gi (nI (n + 1)) 40 (nm (rA (rA τ 29 n (τ.2 29 n + 1)) 28 (nI (n + 1)).toNatClampNeg (enc K (tT V k q))) (fun t => gi (nI (n + 1)) 40 (nm (rA t 29 (nI (n + 1)).toNatClampNeg (0 : Int32)) (fun t2 => rc (nI (n + 1) + 1) t2)))) else rc (nI (n + 1)) (rA τ 29 n (τ.2 29 n + 1))))) :
    ∃ τ', it2 (Rs_rowsOf_61 kx) (N + 1 + 3 * ((po k (tT V k q) acc).length - acc.length)) (nI (n + 1)) τ = it2 (Rs_rowsOf_61 kx) N (nI (n + 1)) τ' ∧ DF K τ' (po k (tT V k q) acc) ∧ SAMEb n τ τ' ∧ τ'.2 28 n = τ.2 28 n ∧ τ'.2 29 n = τ.2 29 n + 1 ∧ rK_ (fun c => 27 ≤ c ∧ c ≤ 31) τ τ' := by
  obtain ⟨τ1, h1⟩ : ∃ t, t = rA τ 29 n (τ.2 29 n + 1) := ⟨_, rfl⟩
  rw [← h1] at hit
  have D1 : DF K τ1 acc := by rw [h1]; exact hD.push (Or.inr rfl)
  have s28 : τ1.2 28 = τ.2 28 := by rw [h1, rA_1 (by decide)]
  have s29 : ∀ x, x ≠ n → τ1.2 29 x = τ.2 29 x := fun x hx => by rw [h1, rA_n hx]
  have s29n : τ1.2 29 n = τ.2 29 n + 1 := by rw [h1, rA_s]
  have rk1 : rK_ (fun c => 27 ≤ c ∧ c ≤ 31) τ τ1 := by rw [h1]; exact rK_A ⟨by omega, by omega⟩
  have un : ∀ M, it2 (Rs_rowsOf_61 kx) (M + 1) (nI (n + 1)) τ = Rs_rowsOf_61 kx (it2 (Rs_rowsOf_61 kx) M) (nI (n + 1)) τ := fun M => rfl
  have stay : inn acc (tT V k q) → (∀ rc : Int32 → RS → Option RS, Rs_rowsOf_61 kx rc (nI (n + 1)) τ = rc (nI (n + 1)) τ1) → ∃ τ', it2 (Rs_rowsOf_61 kx) (N + 1 + 3 * ((po k (tT V k q) acc).length - acc.length)) (nI (n + 1)) τ = it2 (Rs_rowsOf_61 kx) N (nI (n + 1)) τ' ∧ DF K τ' (po k (tT V k q) acc) ∧ SAMEb n τ τ' ∧ τ'.2 28 n = τ.2 28 n ∧ τ'.2 29 n = τ.2 29 n + 1 ∧ rK_ (fun c => 27 ≤ c ∧ c ≤ 31) τ τ' := fun hi hs => by
    rw [po_id hD.2.2.2.2.1 k q hi, Nat.sub_self, Nat.mul_zero, Nat.add_zero, un, hs]
    exact ⟨τ1, rfl, D1, fun x hx => ⟨by rw [s28], s29 x (by omega)⟩, by rw [s28], s29n, rk1⟩
  by_cases c : tT V k q < 2
  · refine stay (Or.inl c) (fun rc => ?_)
    rw [hit, if_pos (by rcases enc_neg (L := K) c with z | z <;> rw [z] <;> decide)]
  · have hm := hx.resolve_left c
    have hi := List.idxOf_lt_length_of_mem hm
    have e27 : τ1.2 27 (K.idxOf (tT V k q)) = if tT V k q ∈ acc then nI (acc.idxOf (tT V k q)) else -1 := D1.2.2.1 _ _ (by rw [List.getElem?_eq_getElem hi, List.getElem_idxOf])
    have hla : acc.length ≤ 765 := Nat.le_trans (nodup_le hD.2.2.2.2.1.1 hD.2.2.2.2.2) hK
    have hit2 : ∀ rc : Int32 → RS → Option RS, Rs_rowsOf_61 kx rc (nI (n + 1)) τ = if τ1.2 27 (K.idxOf (tT V k q)) = (-1 : Int32) then rc (nI (n + 2)) (rA (rA τ1 28 (n + 1) (nI (K.idxOf (tT V k q)))) 29 (n + 1) 0) else rc (nI (n + 1)) τ1 := fun rc => by
      rw [hit, enc_in (by omega), if_neg (nI_pos (by omega)), gi_n (by omega) (by decide), tn _ (by omega), gi_n (by omega) (by decide), nm_s, gi_n (by omega) (by decide), nm_s, tn _ (by omega), pl1]
    by_cases ca : tT V k q ∈ acc
    · refine stay (Or.inr ca) (fun rc => ?_)
      have hia := List.idxOf_lt_length_of_mem ca
      rw [hit2, e27, if_pos ca, if_neg (fun z => by
        have := congrArg Int32.toInt z
        rw [it_nI (by omega), i32_m1] at this
        omega)]
    · obtain ⟨τ2, h2⟩ : ∃ t, t = rA (rA τ1 28 (n + 1) (nI (K.idxOf (tT V k q)))) 29 (n + 1) 0 := ⟨_, rfl⟩
      have D2 : DF K τ2 acc := by rw [h2]; exact (D1.push (Or.inl rfl)).push (Or.inr rfl)
      have t28 : ∀ x, x ≠ n + 1 → τ2.2 28 x = τ.2 28 x := fun x hx => by rw [h2, rA_1 (by decide), rA_n hx, s28]
      have t29 : ∀ x, x ≠ n + 1 → τ2.2 29 x = τ1.2 29 x := fun x hx => by rw [h2, rA_n hx, rA_1 (by decide)]
      obtain ⟨τ', g1, g2, g3, g4⟩ := G q (n + 1) N τ2 acc kx hq hm ca hn D2 hB (by rw [h2, rA_1 (by decide), rA_s]) (by rw [h2, rA_s])
      refine ⟨τ', ?_, g2, fun x hx => ?_, ?_, ?_, (rk1.tr (by rw [h2]; exact (rK_A ⟨by omega, by omega⟩).tr (rK_A ⟨by omega, by omega⟩))).tr g4⟩
      · rw [show N + 1 + 3 * ((po k (tT V k q) acc).length - acc.length) = N + 3 * ((po k (tT V k q) acc).length - acc.length) + 1 by omega, un, hit2, e27, if_neg ca, if_pos rfl, ← h2]
        exact g1
      · obtain ⟨x1, x2⟩ := g3 x (by omega)
        exact ⟨by rw [x1, t28 x (by omega)], by rw [x2, t29 x (by omega), s29 x (by omega)]⟩
      · rw [(g3 n (by omega)).1, t28 n (by omega)]
      · rw [(g3 n (by omega)).2, t29 n (by omega), s29n]
theorem goes_n (hC : CLO K) (hKB : LBD V K) : ∀ k, k ≤ 12 → GOES V K k := by
  have hK := len_n hC hKB
  intro k
  induction k with
  | zero =>
    intro _ q n N τ acc kx hq hm
    have : tT V 0 q < 2 := tT_lt V 0 q
    have := (hC.2 _ hm).1
    omega
  | succ k ih =>
    intro hk q n N τ acc kx hq hm hna hn hD hB h28 h29
    have G := ih (by omega)
    have hq2 : 2 * q + 1 < 2 ^ (12 - k) := by
      rw [show 12 - k = (12 - (k + 1)) + 1 by omega, Nat.pow_succ]
      omega
    have et : tT V (k + 1) q = tT V k (2 * q) + 2 ^ 2 ^ k * tT V k (2 * q + 1) := rfl
    obtain ⟨ia, ib⟩ := inn_child hC (Or.inr hm : inn K (tT V (k + 1) q))
    by_cases c0 : tT V k (2 * q + 1) = 0
    · have e : tT V (k + 1) q = tT V k (2 * q) := by rw [et, c0, Nat.mul_zero, Nat.add_zero]
      have ep : po (k + 1) (tT V (k + 1) q) acc = po k (tT V k (2 * q)) acc := by
        rw [po_s, if_pos c0, c0, po_small k 0 _ (by omega)]
      rw [ep]
      rw [e] at hm hna h28
      exact G (2 * q) n N τ acc kx (by omega) hm hna (by omega) hD hB h28 h29
    · obtain ⟨k1, k2, k3, k4, -⟩ := kk_of (tT_lt V k (2 * q)) (tT_lt V k (2 * q + 1)) c0
      rw [← et] at k1 k2 k3 k4
      have hi := List.idxOf_lt_length_of_mem hm
      obtain ⟨ix, hix⟩ : ∃ ix, ix = K.idxOf (tT V (k + 1) q) := ⟨_, rfl⟩
      have hg : K[ix]? = some (tT V (k + 1) q) := by subst hix; rw [List.getElem?_eq_getElem hi, List.getElem_idxOf]
      have no_yes : ∀ t : RS, RTB t K → t.2 24 ix = enc K (tT V k (2 * q)) ∧ t.2 25 ix = enc K (tT V k (2 * q + 1)) := fun t ht => by
        obtain ⟨r0, r1, r2⟩ := ht.2 ix _ hg
        exact ⟨by rw [r1]; show enc K (_ % 2 ^ 2 ^ kk _) = _; rw [k1, k2], by rw [r2]; show enc K (_ / 2 ^ 2 ^ kk _) = _; rw [k1, k3]⟩
      rw [← hix] at h28 hi
      have m1 : nI (n + 1) - (1 : Int32) = nI n := mi1
      have h1 : ∀ rc : Int32 → RS → Option RS, Rs_rowsOf_61 kx rc (nI (n + 1)) τ = (if enc K (tT V k (2 * q)) < (0 : Int32) then rc (nI (n + 1)) (rA τ 29 n (τ.2 29 n + 1)) else gi (enc K (tT V k (2 * q))) 1100 (if (rA τ 29 n (τ.2 29 n + 1)).2 27 (enc K (tT V k (2 * q))).toNatClampNeg = (-1 : Int32) then gi (nI (n + 1)) 40 (nm (rA (rA τ 29 n (τ.2 29 n + 1)) 28 (nI (n + 1)).toNatClampNeg (enc K (tT V k (2 * q)))) (fun t => gi (nI (n + 1)) 40 (nm (rA t 29 (nI (n + 1)).toNatClampNeg (0 : Int32)) (fun t2 => rc (nI (n + 1) + 1) t2)))) else rc (nI (n + 1)) (rA τ 29 n (τ.2 29 n + 1)))) := fun rc => by
        unfold Rs_rowsOf_61
        rw [if_neg (nI_nle (by omega) (by omega)), m1, gi_n (by omega) (by decide), nm_s, tn _ (by omega), h28, gi_n (by omega) (by decide), if_pos h29, gi_n (by omega) (by decide), gi_n (by omega) (by decide), gi_n (by omega) (by decide), gi_n (by omega) (by decide), nm_s, tn _ (by omega), (no_yes τ hD.1).1]
      obtain ⟨τ1, g1, D1, S1, a1, b1', r1⟩ := side_n hK G (by omega) (q := 2 * q) (n := n) (N := N + 2 + 3 * ((po k (tT V k (2 * q + 1)) (po k (tT V k (2 * q)) acc)).length - (po k (tT V k (2 * q)) acc).length)) (kx := kx) (by omega) ia (by omega) hD hB h1
      obtain ⟨p1, p2, p3, p4⟩ := po_clo (V := V) k (2 * q) acc (by omega) (by omega) hD.2.2.2.2.1 hB
      have h29' : τ1.2 29 n = 1 := by rw [b1', h29]; rfl
      have h28' : τ1.2 28 n = nI ix := by rw [a1, h28]
      have h2 : ∀ rc : Int32 → RS → Option RS, Rs_rowsOf_61 kx rc (nI (n + 1)) τ1 = (if enc K (tT V k (2 * q + 1)) < (0 : Int32) then rc (nI (n + 1)) (rA τ1 29 n (τ1.2 29 n + 1)) else gi (enc K (tT V k (2 * q + 1))) 1100 (if (rA τ1 29 n (τ1.2 29 n + 1)).2 27 (enc K (tT V k (2 * q + 1))).toNatClampNeg = (-1 : Int32) then gi (nI (n + 1)) 40 (nm (rA (rA τ1 29 n (τ1.2 29 n + 1)) 28 (nI (n + 1)).toNatClampNeg (enc K (tT V k (2 * q + 1)))) (fun t => gi (nI (n + 1)) 40 (nm (rA t 29 (nI (n + 1)).toNatClampNeg (0 : Int32)) (fun t2 => rc (nI (n + 1) + 1) t2)))) else rc (nI (n + 1)) (rA τ1 29 n (τ1.2 29 n + 1)))) := fun rc => by
        unfold Rs_rowsOf_61
        rw [if_neg (nI_nle (by omega) (by omega)), m1, gi_n (by omega) (by decide), nm_s, tn _ (by omega), h28', gi_n (by omega) (by decide), if_neg (by rw [h29']; decide), gi_n (by omega) (by decide), gi_n (by omega) (by decide), if_neg (by rw [h29']; decide), gi_n (by omega) (by decide), gi_n (by omega) (by decide), nm_s, tn _ (by omega), (no_yes τ1 D1.1).2]
      obtain ⟨τ2, g2, D2, S2, a2, b2', r2⟩ := side_n hK G (by omega) (q := 2 * q + 1) (n := n) (N := N + 1) (kx := kx) hq2 ib (by omega) D1 p2 h2
      obtain ⟨q1, q2, q3, q4⟩ := po_clo (V := V) k (2 * q + 1) _ (by omega) hq2 p1 p2
      have h29'' : τ2.2 29 n = 2 := by rw [b2', h29']; rfl
      have h28'' : τ2.2 28 n = nI ix := by rw [a2, h28']
      have l1 := po_len (V := V) hD.2.2.2.2.1 hB (k := k) (q := 2 * q) (by omega) (by omega)
      have l2 := po_len (V := V) p1 p2 (k := k) (q := 2 * q + 1) (by omega) hq2
      have hnot : tT V (k + 1) q ∉ po k (tT V k (2 * q + 1)) (po k (tT V k (2 * q)) acc) := fun hh => by
        have hb1 : 1 ≤ tT V k (2 * q + 1) := by omega
        have z1 : 2 * tT V k (2 * q + 1) ≤ 2 ^ 2 ^ k * tT V k (2 * q + 1) := Nat.mul_le_mul_right _ (pp_2 k)
        rcases po_le _ _ _ _ hh with z | z
        · rcases po_le _ _ _ _ z with z2 | z2
          · exact hna z2
          · omega
        · omega
      have ep : po (k + 1) (tT V (k + 1) q) acc = po k (tT V k (2 * q + 1)) (po k (tT V k (2 * q)) acc) ++ [tT V (k + 1) q] := by
        rw [po_s, if_neg c0, if_neg hnot]
      have hl2 : (po k (tT V k (2 * q + 1)) (po k (tT V k (2 * q)) acc)).length ≤ 765 := len_n q1 q2
      obtain ⟨τ3, g3, D3, r3⟩ := writeKnot_n hC hK D2 hl2 (by omega) c0 hm hnot (p4.imp id (q3 _)) q4
      rw [← hix] at g3
      refine ⟨τ3, ?_, by rw [ep]; exact D3, fun x hx => ?_, (r1.tr r2).tr (r3.mo (fun c hc => by omega))⟩
      · rw [ep, List.length_append, show [tT V (k + 1) q].length = 1 from rfl, show N + 3 * ((po k (tT V k (2 * q + 1)) (po k (tT V k (2 * q)) acc)).length + 1 - acc.length) = N + 2 + 3 * ((po k (tT V k (2 * q + 1)) (po k (tT V k (2 * q)) acc)).length - (po k (tT V k (2 * q)) acc).length) + 1 + 3 * ((po k (tT V k (2 * q)) acc).length - acc.length) by omega, g1, show N + 2 + 3 * ((po k (tT V k (2 * q + 1)) (po k (tT V k (2 * q)) acc)).length - (po k (tT V k (2 * q)) acc).length) = N + 1 + 1 + 3 * ((po k (tT V k (2 * q + 1)) (po k (tT V k (2 * q)) acc)).length - (po k (tT V k (2 * q)) acc).length) by omega, g2]
        show Rs_rowsOf_61 kx (it2 (Rs_rowsOf_61 kx) N) (nI (n + 1)) τ2 = _
        generalize it2 (Rs_rowsOf_61 kx) N = rc
        unfold Rs_rowsOf_61
        rw [if_neg (nI_nle (by omega) (by omega)), m1, gi_n (by omega) (by decide), nm_s, tn _ (by omega), h28'', gi_n (by omega) (by decide), if_neg (by rw [h29'']; decide), gi_n (by omega) (by decide), gi_n (by omega) (by decide), if_pos h29'', g3, b1_s, pk_m1]
      · obtain ⟨x1, x2⟩ := S1 x hx
        obtain ⟨y1, y2⟩ := S2 x hx
        exact ⟨by rw [(r3 28 (by omega)).2, y1, x1], by rw [(r3 29 (by omega)).2, y2, x2]⟩
end DFS
/-- all of a family's rows, as the reference has them -/
theorem rowsOf_n {σ : DS} {τ : RS} {F f : Nat} {kd : Nat → Nat} {W : Nat → Nat → Bool} (f1 : FW F kd) (f2 : CF σ F kd W) (f3 : RF τ F kd W) (hf : f < F) : ∃ τ', Rm_rowsOf τ (nI f) = some τ' ∧ τ'.1 31 = nI (po 12 (tT (wb σ f) 12 0) []).length ∧ (∀ i t, (po 12 (tT (wb σ f) 12 0) [])[i]? = some t → ∀ w, w < 4 → τ'.2 30 (4 * i + w) = rw_ (po 12 (tT (wb σ f) 12 0) []) t w) ∧ (po 12 (tT (wb σ f) 12 0) []).length ≤ 765 ∧ rK_ (fun c => 22 ≤ c ∧ c ≤ 31) τ τ' := by
  obtain ⟨τ1, K, e1, T1, C1, B1, i1, r1⟩ := book1_n f1 f2 f3 hf
  have hK := len_n C1 B1
  have c0 : CLO [] := ⟨List.nodup_nil, fun t ht => absurd ht List.not_mem_nil⟩
  have b0 : LBD (wb σ f) [] := fun t ht => absurd ht List.not_mem_nil
  obtain ⟨p1, p2, -, -⟩ := po_clo (V := wb σ f) 12 0 [] (by omega) (by decide) c0 b0
  have hlen := len_n p1 p2
  have l1 : ∀ kx : RS → Option RS, ∃ t, it2 (Rs_rowsOf_14 (enc K (tT (wb σ f) 12 0)) kx) fuel (0 : Int32) (rS τ1 31 (0 : Int32)) = kx t ∧ rK_ (fun c => c = 27 ∨ c = 31) τ1 t ∧ t.1 31 = 0 ∧ ∀ i, i < K.length → t.2 27 i = -1 := fun kx => by
    refine it2_ind (f := Rs_rowsOf_14 (enc K (tT (wb σ f) 12 0)) kx) (P := fun n v t => ∃ j, j + n = K.length ∧ v = nI j ∧ rK_ (fun c => c = 27 ∨ c = 31) τ1 t ∧ t.1 31 = 0 ∧ t.1 22 = nI K.length ∧ ∀ i, i < j → t.2 27 i = -1) (Q := fun o => ∃ t, o = kx t ∧ rK_ (fun c => c = 27 ∨ c = 31) τ1 t ∧ t.1 31 = 0 ∧ ∀ i, i < K.length → t.2 27 i = -1) ?_ fuel K.length (0 : Int32) (rS τ1 31 (0 : Int32)) (by unfold fuel; omega) ⟨0, by omega, rfl, rK_S (Or.inr rfl), rS_s, T1.1, fun i hi => absurd hi (Nat.not_lt_zero i)⟩
    rintro n v t rc ⟨j, hj, rfl, k1, z1, z2, w1⟩ ih
    unfold Rs_rowsOf_14
    rw [z2]
    by_cases c : j = K.length
    · rw [if_pos (by rw [c]; exact nI_le (Nat.le_refl _) (by omega))]
      exact ⟨t, rfl, k1, z1, fun i hi => w1 i (by omega)⟩
    · rw [if_neg (nI_ge (by omega) (by omega)), gi_n (by omega) (by decide), nm_s, tn _ (by omega), pl1]
      refine ih (n - 1) _ _ (by omega) ⟨j + 1, by omega, rfl, k1.tr (rK_A (Or.inl rfl)), z1, z2, fun i hi => ?_⟩
      by_cases e : i = j
      · rw [e, rA_s]
      · rw [rA_n e]; exact w1 i (by omega)
  obtain ⟨t, e2, k2, z2, w2⟩ := l1 (fun τ_10 => gi (0 : Int32) 40 (nm (rA τ_10 28 ((0 : Int32)).toNatClampNeg (enc K (tT (wb σ f) 12 0))) (fun τ_12 => gi (0 : Int32) 40 (nm (rA τ_12 29 ((0 : Int32)).toNatClampNeg (0 : Int32)) (fun τ_15 => if (0 : Int32) ≤ (enc K (tT (wb σ f) 12 0)) then (it2 (Rs_rowsOf_61 (fun τ_57 => some τ_57)) fuel (1 : Int32) τ_15) else (it2 (Rs_rowsOf_61 (fun τ_58 => some τ_58)) fuel (0 : Int32) τ_15))))))
  have T2 : RTB t K := ⟨by rw [(k2 22 (by omega)).1]; exact T1.1, fun i s hi => by rw [(k2 23 (by omega)).2, (k2 24 (by omega)).2, (k2 25 (by omega)).2]; exact T1.2 i s hi⟩
  have D0 : DF K t [] := ⟨T2, z2, fun i s hi => by rw [w2 i (List.getElem?_eq_some_iff.mp hi).1, if_neg List.not_mem_nil], fun i s hi => absurd hi (by simp), c0, fun s hs => absurd hs List.not_mem_nil⟩
  obtain ⟨t3, h3⟩ : ∃ s, s = rA (rA t 28 0 (enc K (tT (wb σ f) 12 0))) 29 0 0 := ⟨_, rfl⟩
  have D3 : DF K t3 [] := by rw [h3]; exact (D0.push (Or.inl rfl)).push (Or.inr rfl)
  have r3 : rK_ (fun c => 27 ≤ c ∧ c ≤ 31) t t3 := by rw [h3]; exact (rK_A ⟨by omega, by omega⟩).tr (rK_A ⟨by omega, by omega⟩)
  have gi40 : ∀ {ρ : Type} {k : Option ρ}, gi (0 : Int32) 40 k = k := fun {ρ} {k} => gi_n (n := 0) (by decide) (by decide)
  have fin : ∃ τ', (if (0 : Int32) ≤ (enc K (tT (wb σ f) 12 0)) then (it2 (Rs_rowsOf_61 (fun τ_57 => some τ_57)) fuel (1 : Int32) t3) else (it2 (Rs_rowsOf_61 (fun τ_58 => some τ_58)) fuel (0 : Int32) t3)) = some τ' ∧ DF K τ' (po 12 (tT (wb σ f) 12 0) []) ∧ rK_ (fun c => 27 ≤ c ∧ c ≤ 31) t3 τ' := by
    by_cases c : tT (wb σ f) 12 0 < 2
    · rw [if_neg (by rcases enc_neg (L := K) c with z | z <;> rw [z] <;> decide), po_small 12 _ _ c]
      refine ⟨t3, it2_one fun rc => ?_, D3, rK_.rf⟩
      unfold Rs_rowsOf_61
      rw [if_pos (by decide)]
    · have hm := i1.resolve_left c
      have hi := List.idxOf_lt_length_of_mem hm
      rw [if_pos (by rw [enc_in (by omega)]; exact nI_pos' (by omega))]
      obtain ⟨τ', g1, g2, g3, g4⟩ := goes_n C1 B1 12 (by omega) 0 0 (fuel - 3 * ((po 12 (tT (wb σ f) 12 0) []).length - ([] : List Nat).length)) t3 [] (fun τ_57 => some τ_57) (by decide) hm List.not_mem_nil (by omega) D3 b0 (by rw [h3, rA_1 (by decide), rA_s, enc_in (by omega)]) (by rw [h3, rA_s])
      have hle : 3 * ((po 12 (tT (wb σ f) 12 0) []).length - ([] : List Nat).length) ≤ 3000 := by omega
      rw [Nat.sub_add_cancel (by unfold fuel; omega)] at g1
      refine ⟨τ', g1.trans ?_, g2, g4⟩
      obtain ⟨M, hM⟩ : ∃ M, fuel - 3 * ((po 12 (tT (wb σ f) 12 0) []).length - ([] : List Nat).length) = M + 1 := ⟨fuel - 3 * ((po 12 (tT (wb σ f) 12 0) []).length - ([] : List Nat).length) - 1, by unfold fuel; omega⟩
      rw [hM]
      show Rs_rowsOf_61 _ (it2 _ M) (nI 0) τ' = _
      generalize it2 (Rs_rowsOf_61 (fun τ_57 => some τ_57)) M = rc
      unfold Rs_rowsOf_61
      rw [if_pos (by decide)]
  obtain ⟨τ', g1, g2, g3⟩ := fin
  refine ⟨τ', ?_, g2.2.1, g2.2.2.2.1, hlen, ((r1.mo (fun c hc => by omega)).tr (k2.mo (fun c hc => by omega))).tr ((r3.mo (fun c hc => by omega)).tr (g3.mo (fun c hc => by omega)))⟩
  unfold Rm_rowsOf
  rw [e1, b2_s, nm_s, e2, gi40, nm_s, gi40, nm_s, tc0, ← h3]
  exact g1

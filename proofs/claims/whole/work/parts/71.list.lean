/-! ===== the class lists a book ===== -/
def TAB (σ : DS) (b : Nat) (L : List Nat) : Prop := HT σ b L.length ∧ ∀ i t, L[i]? = some t → ∀ w, w < 4 → σ.2.1 (b + 2 + w) i = rw_ L t w
theorem rw_app {L : List Nat} {t s w : Nat} (h : CLO L) (ht : t ∈ L) : rw_ (L ++ [s]) t w = rw_ L t w := by
  obtain ⟨-, -, x3, x4⟩ := h.2 t ht
  unfold rw_
  rw [enc_app x3, enc_app x4]
section LIST
variable {b : Nat} {V : Nat → Bool}
theorem cOf_n {σ : DS} {L : List Nat} (hT : TAB σ b L) (hl : L.length ≤ 768) {t : Nat} (ht : inn L t) : D3m_countOf b σ (enc L t) = some (nI (cn t)) := by
  unfold D3m_countOf
  by_cases c0 : t = 0
  · subst c0
    rw [show enc L 0 = -1 from if_pos rfl, if_pos (show D3m_isCell b σ (-1) (3 : Int32) = 0 from (isCell_n (x := -1) (w := 3) hl hT.1.1 (by omega)).mpr (by rw [i32_m1]; omega)), if_neg (by decide), cn_0]
    rfl
  · by_cases c1 : t = 1
    · subst c1
      rw [show enc L 1 = -2 from rfl, if_pos (show D3m_isCell b σ (-2) (3 : Int32) = 0 from (isCell_n (x := -2) (w := 3) hl hT.1.1 (by omega)).mpr (by rw [i32_m2]; omega)), if_pos rfl, cn_1]
      rfl
    · have hm := ht.resolve_left (by omega)
      have hi := List.idxOf_lt_length_of_mem hm
      rw [enc_in (by omega), if_neg (show ¬ D3m_isCell b σ (nI (L.idxOf t)) (3 : Int32) = 0 from fun q => (isCell_n (x := nI (L.idxOf t)) (w := 3) hl hT.1.1 (by omega)).mp q (by rw [it_nI (by omega)]; omega)), gi3, gi_n (by omega) (by decide), tc3, tn _ (by omega), hT.2 (L.idxOf t) t (by rw [List.getElem?_eq_getElem hi, List.getElem_idxOf]) 3 (by omega)]
      rfl
theorem knot_n {σ : DS} {L : List Nat} (hT : TAB σ b L) (hC : CLO L) (hB : LBD V L) {k q : Nat} (hk : k ≤ 11) (hq : q < 2 ^ (11 - k)) (ia : inn L (tT V k (2 * q))) (ib : inn L (tT V k (2 * q + 1))) (L' : List Nat) (hL' : L' = if tT V k (2 * q + 1) = 0 then L else if tT V (k + 1) q ∈ L then L else L ++ [tT V (k + 1) q]) : ∃ σ', D3m_knot b σ (nI (11 - k)) (enc L (tT V k (2 * q))) (enc L (tT V k (2 * q + 1))) = some (enc L' (tT V (k + 1) q), σ') ∧ TAB σ' b L' ∧ dK_ (fun c => b ≤ c ∧ c ≤ b + 7) σ σ' := by
  have hlen := len_n hC hB
  have ha := tT_lt V k (2 * q)
  have hb := tT_lt V k (2 * q + 1)
  have et : tT V (k + 1) q = tT V k (2 * q) + 2 ^ 2 ^ k * tT V k (2 * q + 1) := rfl
  by_cases c0 : tT V k (2 * q + 1) = 0
  · rw [if_pos c0] at hL'
    rw [hL']
    refine ⟨σ, ?_, hT, dK_.rf⟩
    unfold D3m_knot
    rw [c0, if_pos (show enc L 0 = -1 from if_pos rfl), et, c0, Nat.mul_zero, Nat.add_zero]
  · rw [if_neg c0] at hL'
    obtain ⟨k1, k2, k3, k4, -⟩ := kk_of ha hb c0
    rw [← et] at k1 k2 k3 k4
    have hne : enc L (tT V k (2 * q + 1)) ≠ -1 := fun e => by
      have := enc_inj (by omega) ib (Or.inl (show 0 < 2 by omega)) (e.trans (show (-1 : Int32) = enc L 0 from (if_pos rfl).symm))
      exact c0 this
    have row : ∀ i t, L[i]? = some t → (isR σ b i (nI (11 - k)) (enc L (tT V k (2 * q))) (enc L (tT V k (2 * q + 1))) ↔ t = tT V (k + 1) q) := fun i t hi => by
      have hm : t ∈ L := List.mem_of_getElem? hi
      obtain ⟨x1, x2, x3, x4⟩ := hC.2 t hm
      have r0 := hT.2 i t hi 0 (by omega)
      have r1 := hT.2 i t hi 1 (by omega)
      have r2 := hT.2 i t hi 2 (by omega)
      constructor
      · rintro ⟨y0, y1, y2⟩
        rw [r0] at y0
        rw [r1] at y1
        rw [r2] at y2
        have e0 : 11 - kk t = 11 - k := (nI_eq (by omega) (by omega)).mp y0
        have ek : kk t = k := by omega
        have e1 : t % 2 ^ 2 ^ kk t = tT V k (2 * q) := enc_inj (by omega) x3 ia y1
        have e2 : t / 2 ^ 2 ^ kk t = tT V k (2 * q + 1) := enc_inj (by omega) x4 ib y2
        rw [split_t (kk t) t, e1, e2, ek]
        rfl
      · intro e
        subst e
        refine ⟨?_, ?_, ?_⟩
        · rw [r0]; show nI (11 - kk _) = _; rw [k1]
        · rw [r1]; show enc L (_ % 2 ^ 2 ^ kk _) = _; rw [k1, k2]
        · rw [r2]; show enc L (_ / 2 ^ 2 ^ kk _) = _; rw [k1, k3]
    unfold D3m_knot
    rw [if_neg hne]
    rcases find_n (by omega) hT.1 (nI (11 - k)) (enc L (tT V k (2 * q))) (enc L (tT V k (2 * q + 1))) with ⟨i, hi, hr, hf⟩ | ⟨hr, hf⟩
    · have hg : L[i]? = some L[i] := List.getElem?_eq_getElem hi
      have e := (row i _ hg).mp hr
      have hm : tT V (k + 1) q ∈ L := by rw [← e]; exact List.getElem_mem hi
      rw [if_pos hm] at hL'
      rw [hL']
      refine ⟨σ, ?_, hT, dK_.rf⟩
      rw [hf, b1_s, if_neg (nI_pos (by omega)), enc_in k4, ← e, List.Nodup.idxOf_getElem hC.1 i hi]
    · have hm : tT V (k + 1) q ∉ L := fun hm => by
        have hi := List.idxOf_lt_length_of_mem hm
        exact hr _ hi ((row (L.idxOf (tT V (k + 1) q)) (tT V (k + 1) q) (by rw [List.getElem?_eq_getElem hi, List.getElem_idxOf])).mpr rfl)
      rw [if_neg hm] at hL'
      subst hL'
      obtain ⟨σ', e1, kσ, hH, hR, hc, hold⟩ := add_n (by omega) hT.1 (x := nI (11 - k)) (cOf_n hT (by omega) ia) (cOf_n hT (by omega) ib)
      refine ⟨σ', ?_, ⟨by rw [List.length_append]; exact hH, fun i t hi w hw => ?_⟩, kσ⟩
      · rw [hf, b1_s, if_pos (by decide), e1, b2_s, enc_in k4, List.idxOf_append, if_neg hm]
        show some (nI L.length, σ') = some (nI (List.idxOf _ [_] + L.length), σ')
        rw [List.idxOf_cons_self, Nat.zero_add]
      · by_cases e : i < L.length
        · rw [List.getElem?_append_left e] at hi
          rw [hold w hw i (by omega), hT.2 i t hi w hw, rw_app hC (List.mem_of_getElem? hi)]
        · have hil : i = L.length := by
            have : i < (L ++ [tT V (k + 1) q]).length := (List.getElem?_eq_some_iff.mp hi).1
            rw [List.length_append] at this
            have h1 : [tT V (k + 1) q].length = 1 := rfl
            omega
          subst hil
          rw [List.getElem?_append_right (Nat.le_refl _), Nat.sub_self] at hi
          have ht : t = tT V (k + 1) q := (Option.some.inj hi).symm
          subst ht
          rcases (show w = 0 ∨ w = 1 ∨ w = 2 ∨ w = 3 by omega) with rfl | rfl | rfl | rfl
          · rw [hR.1]; show _ = nI (11 - kk _); rw [k1]
          · rw [hR.2.1]; show _ = enc _ (_ % 2 ^ 2 ^ kk _); rw [k1, k2, enc_app ia]
          · rw [hR.2.2]; show _ = enc _ (_ / 2 ^ 2 ^ kk _); rw [k1, k3, enc_app ib]
          · rw [hc]; show nI _ + nI _ = nI (cn _); rw [ad, et, cn_add hk ha hb]
theorem po_s (k q : Nat) (L : List Nat) : po (k + 1) (tT V (k + 1) q) L = if tT V k (2 * q + 1) = 0 then po k (tT V k (2 * q + 1)) (po k (tT V k (2 * q)) L) else if tT V (k + 1) q ∈ po k (tT V k (2 * q + 1)) (po k (tT V k (2 * q)) L) then po k (tT V k (2 * q + 1)) (po k (tT V k (2 * q)) L) else po k (tT V k (2 * q + 1)) (po k (tT V k (2 * q)) L) ++ [tT V (k + 1) q] := by
  obtain ⟨m1, m2⟩ := tT_mod V k q
  conv => lhs; unfold po
  rw [m1, m2]
/-- references stay as they are while the list grows -/
theorem enc_po {L : List Nat} {t k q : Nat} (h : CLO L) (hB : LBD V L) (hk : k ≤ 12) (hq : q < 2 ^ (12 - k)) (ht : inn L t) : enc (po k (tT V k q) L) t = enc L t := by
  have key : ∀ (k q : Nat) (L : List Nat), k ≤ 12 → q < 2 ^ (12 - k) → CLO L → LBD V L → inn L t → enc (po k (tT V k q) L) t = enc L t := by
    intro k
    induction k with
    | zero => intro q L _ _ _ _ _; rfl
    | succ k ih =>
      intro q L hk hq h hB ht
      have hq2 : 2 * q + 1 < 2 ^ (12 - k) := by
        rw [show 12 - k = (12 - (k + 1)) + 1 by omega, Nat.pow_succ]
        omega
      obtain ⟨a1, a2, a3, a4⟩ := po_clo (V := V) k (2 * q) L (by omega) (by omega) h hB
      obtain ⟨b1, b2, b3, b4⟩ := po_clo (V := V) k (2 * q + 1) _ (by omega) hq2 a1 a2
      have e1 := ih (2 * q) L (by omega) (by omega) h hB ht
      have e2 := ih (2 * q + 1) _ (by omega) hq2 a1 a2 (ht.imp id (a3 t))
      rw [po_s]
      by_cases c0 : tT V k (2 * q + 1) = 0
      · rw [if_pos c0, e2, e1]
      · rw [if_neg c0]
        by_cases c1 : tT V (k + 1) q ∈ po k (tT V k (2 * q + 1)) (po k (tT V k (2 * q)) L)
        · rw [if_pos c1, e2, e1]
        · rw [if_neg c1, enc_app (ht.imp id (fun x => b3 t (a3 t x))), e2, e1]
  exact key k q L hk hq h hB ht
theorem lgz {x : Nat} (hx : x < 2 ^ 64) : (lg_cmp (lN x) 0 = 0 ↔ x = 0) ∧ (lg_cmp (lN x) 1 = 0 ↔ x = 1) := by
  have inj : ∀ y, y < 2 ^ 64 → (lN x = lN y ↔ x = y) := fun y hy => by
    constructor
    · intro h
      have := congrArg uN h
      rwa [show uN (lN x) = x from wb_tn hx, show uN (lN y) = y from wb_tn hy] at this
    · rintro rfl; rfl
  exact ⟨by rw [lg0]; exact inj 0 (by omega), by rw [lg0]; exact inj 1 (by omega)⟩
theorem under_n : ∀ (k n : Nat) (q : Nat) (σ : DS) (L : List Nat), k < n → k ≤ 6 → q < 2 ^ (12 - k) → TAB σ b L → CLO L → LBD V L → ∃ σ', D3m_under b n σ (lN (tT V k q)) (nI (12 - k)) = some (enc (po k (tT V k q) L) (tT V k q), σ') ∧ TAB σ' b (po k (tT V k q) L) ∧ dK_ (fun c => b ≤ c ∧ c ≤ b + 7) σ σ' := by
  intro k
  induction k with
  | zero =>
    intro n q σ L hn _ hq hT hC hB
    obtain ⟨n, rfl⟩ : ∃ m, n = m + 1 := ⟨n - 1, by omega⟩
    have hlt : tT V 0 q < 2 := tT_lt V 0 q
    obtain ⟨z0, z1⟩ := lgz (x := tT V 0 q) (by omega)
    refine ⟨σ, ?_, hT, dK_.rf⟩
    show D3b_under b (it3 (D3b_under b) n) σ _ _ = _
    unfold D3b_under
    by_cases c0 : tT V 0 q = 0
    · rw [if_pos (z0.mpr c0)]
      show some (-1, σ) = some (enc L _, σ)
      rw [c0]; rfl
    · have c1 : tT V 0 q = 1 := by omega
      rw [if_neg (fun x => c0 (z0.mp x)), if_pos (z1.mpr c1)]
      show some (-2, σ) = some (enc L _, σ)
      rw [c1]; rfl
  | succ k ih =>
    intro n q σ L hn hk hq hT hC hB
    obtain ⟨n, rfl⟩ : ∃ m, n = m + 1 := ⟨n - 1, by omega⟩
    have h6 : 2 ^ 2 ^ (k + 1) ≤ 2 ^ 64 := Nat.pow_le_pow_right (by decide) (Nat.pow_le_pow_right (n := 2) (j := 6) (by decide) hk)
    have hlt : tT V (k + 1) q < 2 ^ 64 := Nat.lt_of_lt_of_le (tT_lt V (k + 1) q) h6
    obtain ⟨z0, z1⟩ := lgz hlt
    have ps : ∀ t, t < 2 → po (k + 1) t L = L := fun t ht => po_small (k + 1) t L ht
    show ∃ σ', D3b_under b (it3 (D3b_under b) n) σ _ _ = _ ∧ _
    have e0 : ∀ (s : DS) (x : Int64) (y : Int32), it3 (D3b_under b) n s x y = D3m_under b n s x y := fun _ _ _ => rfl
    generalize it3 (D3b_under b) n = rf at e0 ⊢
    unfold D3b_under
    by_cases c0 : tT V (k + 1) q = 0
    · refine ⟨σ, ?_, by rw [ps _ (by omega)]; exact hT, dK_.rf⟩
      rw [if_pos (z0.mpr c0), ps _ (by omega), c0]
      rfl
    · rw [if_neg (fun x => c0 (z0.mp x))]
      by_cases c1 : tT V (k + 1) q = 1
      · refine ⟨σ, ?_, by rw [ps _ (by omega)]; exact hT, dK_.rf⟩
        rw [if_pos (z1.mpr c1), ps _ (by omega), c1]
        rfl
      · have hq2 : 2 * q + 1 < 2 ^ (12 - k) := by
          rw [show 12 - k = (12 - (k + 1)) + 1 by omega, Nat.pow_succ]
          omega
        obtain ⟨m1, m2⟩ := tT_mod V k q
        have hk5 : 2 ^ k ≤ 2 ^ 5 := Nat.pow_le_pow_right (by decide) (by omega)
        have hmask : (((1 : Int64) <<< ((nI (2 ^ k)).toInt64 &&& 63)) - (1 : Int64)) = lN (2 ^ 2 ^ k - 1) := by
          have := wb_shl 1 (k := 2 ^ k) (by omega)
          rw [show (1 : Int64) = lN 1 from rfl, this, Nat.one_mul]
          apply wb_inj
          rw [Int64.toBitVec_sub, wb_tb, wb_tb, wb_tb]
          apply BitVec.eq_of_toNat_eq
          rw [BitVec.toNat_sub, BitVec.toNat_ofNat, BitVec.toNat_ofNat, BitVec.toNat_ofNat]
          have hp : 2 ^ 2 ^ k ≤ 2 ^ 2 ^ 5 := Nat.pow_le_pow_right (by decide) hk5
          have hp0 := pp_pos k
          have : (2 : Nat) ^ 2 ^ 5 = 4294967296 := by decide
          omega
        rw [if_neg (fun x => c1 (z1.mp x)), if_pos (show nI (12 - (k + 1)) < (12 : Int32) from nI_lt (b := 12) (by omega) (by decide)), show (11 : Int32) - nI (12 - (k + 1)) = nI k by rw [show nI k = nI (11 - (12 - (k + 1))) by congr 1; omega]; exact pk_sub (a := 11) (by omega), shl1 (by omega), nm_s, hmask, wb_mask hlt (by omega), wb_shr hlt (by omega), m1, m2, nI_1, show 12 - (k + 1) + 1 = 12 - k by omega]
        obtain ⟨σ1, e1, T1, d1⟩ := ih n (2 * q) σ L (by omega) (by omega) (by omega) hT hC hB
        obtain ⟨a1, a2, a3, a4⟩ := po_clo (V := V) k (2 * q) L (by omega) (by omega) hC hB
        obtain ⟨σ2, e2, T2, d2⟩ := ih n (2 * q + 1) σ1 _ (by omega) (by omega) hq2 T1 a1 a2
        obtain ⟨b1', b2', b3, b4⟩ := po_clo (V := V) k (2 * q + 1) _ (by omega) hq2 a1 a2
        obtain ⟨σ3, e3, T3, d3⟩ := knot_n T2 b1' b2' (k := k) (q := q) (by omega) (by rw [show 11 - k = 12 - (k + 1) by omega]; exact hq) (a4.imp id (b3 _)) b4 _ (po_s k q L)
        refine ⟨σ3, ?_, T3, (d1.tr d2).tr d3⟩
        rw [e0, e1, b2_s, e0, e2, b2_s, ← enc_po a1 a2 (V := V) (k := k) (q := 2 * q + 1) (by omega) hq2 a4, show nI (12 - (k + 1)) = nI (11 - k) by congr 1; omega, e3, b2_s]
theorem over_k {a : Nat} {σ0 : DS} (ha : a < 32) (hb25 : b ≤ 40) (hV : ∀ p, p < 4096 → wb σ0 a p = V p) : ∀ (j n : Nat) (q : Nat) (σ : DS) (L : List Nat), j < n → j ≤ 6 → q < 2 ^ (6 - j) → dK_ (fun c => b ≤ c ∧ c ≤ b + 7) σ0 σ → TAB σ b L → CLO L → LBD V L → ∃ σ', D3m_over b n σ a (nI (6 - j)) (nI (q * 2 ^ j)) = some (enc (po (j + 6) (tT V (j + 6) q) L) (tT V (j + 6) q), σ') ∧ TAB σ' b (po (j + 6) (tT V (j + 6) q) L) ∧ dK_ (fun c => b ≤ c ∧ c ≤ b + 7) σ0 σ' := by
  intro j
  induction j with
  | zero =>
    intro n q σ L hn _ hq k0 hT hC hB
    obtain ⟨n, rfl⟩ : ∃ m, n = m + 1 := ⟨n - 1, by omega⟩
    have hq64 : q < 64 := hq
    obtain ⟨σ', e1, T1, d1⟩ := under_n (b := b) (V := V) 6 24 q σ L (by omega) (by omega) hq hT hC hB
    refine ⟨σ', ?_, T1, k0.tr d1⟩
    show D3b_over b (it4 (D3b_over b) n) σ a _ _ = _
    have e0 : ∀ (s : DS) (a : Nat) (x y : Int32), it4 (D3b_over b) n s a x y = D3m_over b n s a x y := fun _ _ _ _ => rfl
    generalize it4 (D3b_over b) n = rf at e0 ⊢
    unfold D3b_over
    have hw : σ.2.2 (79 + a) q = lN (tT V 6 q) := by
      apply uN_inj
      have hlt : tT V 6 q < 2 ^ 64 := tT_lt V 6 q
      rw [show uN (lN (tT V 6 q)) = tT V 6 q from wb_tn hlt]
      apply Nat.eq_of_testBit_eq
      intro i
      rw [uN_bL]
      by_cases c : i < 64
      · rw [tT_tb V 6 q i c, ← hV _ (by omega), wb_eq, show (q * 2 ^ 6 + i) / 64 = q by omega, show (q * 2 ^ 6 + i) % 64 = i by omega, (k0 (79 + a) (by omega)).2.2]
      · rw [show (tT V 6 q).testBit i = false from Nat.testBit_lt_two_pow (Nat.lt_of_lt_of_le hlt (Nat.pow_le_pow_right (by decide) (by omega)))]
        exact BitVec.getLsbD_of_ge _ _ (by omega)
    rw [show q * 2 ^ 0 = q by omega, if_neg (nI_pos (by omega)), if_pos (show nI q < (64 : Int32) from nI_lt (b := 64) (by omega) (by decide)), if_neg (by decide), gi_n (by omega) (by decide), tn _ (by omega), hw, show nI (6 - 0) = nI (12 - 6) from rfl, e1, b2_s]
  | succ j ih =>
    intro n q σ L hn hj hq k0 hT hC hB
    obtain ⟨n, rfl⟩ : ∃ m, n = m + 1 := ⟨n - 1, by omega⟩
    have hq2 : 2 * q + 1 < 2 ^ (6 - j) := by
      rw [show 6 - j = (6 - (j + 1)) + 1 by omega, Nat.pow_succ]
      omega
    have hw64 : q * 2 ^ (j + 1) + 2 ^ (j + 1) ≤ 64 := by
      have : (q + 1) * 2 ^ (j + 1) ≤ 2 ^ (6 - (j + 1)) * 2 ^ (j + 1) := Nat.mul_le_mul_right _ (by omega)
      rw [← Nat.pow_add, Nat.sub_add_cancel hj] at this
      rw [Nat.add_mul, Nat.one_mul] at this
      exact this
    have hj2 : 2 ^ (j + 1) = 2 * 2 ^ j := by rw [Nat.pow_succ, Nat.mul_comm]
    have hpj := Nat.two_pow_pos j
    have e2q : q * 2 ^ (j + 1) = 2 * q * 2 ^ j := by rw [hj2, ← Nat.mul_assoc, Nat.mul_comm q 2]
    obtain ⟨σ1, e1, T1, d1⟩ := ih n (2 * q) σ L (by omega) (by omega) (by omega) k0 hT hC hB
    have h12 : ∀ x, x ≤ 6 → 12 - (x + 6) = 6 - x := fun x hx => by omega
    obtain ⟨a1, a2, a3, a4⟩ := po_clo (V := V) (j + 6) (2 * q) L (by omega) (by rw [h12 j (by omega)]; omega) hC hB
    obtain ⟨σ2, e2, T2, d2⟩ := ih n (2 * q + 1) σ1 _ (by omega) (by omega) hq2 d1 T1 a1 a2
    obtain ⟨b1', b2', b3, b4⟩ := po_clo (V := V) (j + 6) (2 * q + 1) _ (by omega) (by rw [h12 j (by omega)]; exact hq2) a1 a2
    obtain ⟨σ3, e3, T3, d3⟩ := knot_n T2 b1' b2' (k := j + 6) (q := q) (by omega) (by rw [show 11 - (j + 6) = 6 - (j + 1) by omega]; exact hq) (a4.imp id (b3 _)) b4 _ (po_s (j + 6) q L)
    refine ⟨σ3, ?_, by rw [show j + 1 + 6 = j + 6 + 1 by omega]; exact T3, d2.tr d3⟩
    show D3b_over b (it4 (D3b_over b) n) σ a _ _ = _
    have e0 : ∀ (s : DS) (a : Nat) (x y : Int32), it4 (D3b_over b) n s a x y = D3m_over b n s a x y := fun _ _ _ _ => rfl
    generalize it4 (D3b_over b) n = rf at e0 ⊢
    unfold D3b_over
    have hsh : ∀ x, x < 6 → (32 : Int32) >>> (nI (6 - (x + 1)) &&& 31) = nI (2 ^ x) := by decide +kernel
    rw [if_neg (nI_pos (by omega)), if_pos (show nI (q * 2 ^ (j + 1)) < (64 : Int32) from nI_lt (b := 64) (by omega) (by decide)), if_pos (show nI (6 - (j + 1)) < (6 : Int32) from nI_lt (b := 6) (by omega) (by decide)), hsh j (by omega), nI_1, show 6 - (j + 1) + 1 = 6 - j by omega, ad, e2q, show 2 * q * 2 ^ j + 2 ^ j = (2 * q + 1) * 2 ^ j by rw [Nat.add_mul, Nat.one_mul], e0, e1, b2_s, e0, e2, b2_s, ← enc_po a1 a2 (V := V) (k := j + 6) (q := 2 * q + 1) (by omega) (by rw [h12 j (by omega)]; exact hq2) a4, show nI (6 - (j + 1)) = nI (11 - (j + 6)) by congr 1; omega, e3, b2_s, show j + 1 + 6 = j + 6 + 1 by omega]
theorem list_b {a : Nat} {σ : DS} (ha : a < 32) (hb25 : b ≤ 40) (hV : ∀ p, p < 4096 → wb σ a p = V p) : ∃ σ', D3m_list b σ a = some (nI (po 12 (tT V 12 0) []).length, σ') ∧ TAB σ' b (po 12 (tT V 12 0) []) ∧ dK_ (fun c => b ≤ c ∧ c ≤ b + 7) σ σ' := by
  obtain ⟨σ1, e1, k1, h1⟩ := clear_n (σ := σ) (b := b)
  have c0 : CLO [] := ⟨List.nodup_nil, fun t ht => absurd ht List.not_mem_nil⟩
  have b0 : LBD V [] := fun t ht => absurd ht List.not_mem_nil
  have k1' : dK_ (fun c => b ≤ c ∧ c ≤ b + 7) σ σ1 := k1.mo (fun c hc => by omega)
  obtain ⟨σ2, e2, T2, d2⟩ := over_k (b := b) (V := V) (σ0 := σ) ha hb25 hV 6 24 0 σ1 [] (by omega) (by omega) (by decide) k1' ⟨h1, fun i t hi => absurd hi (by simp)⟩ c0 b0
  refine ⟨σ2, ?_, T2, d2⟩
  unfold D3m_list
  rw [e1, b1_s, show D3m_over b 24 σ1 a 0 0 = _ from e2, b2_s, T2.1.1]
end LIST

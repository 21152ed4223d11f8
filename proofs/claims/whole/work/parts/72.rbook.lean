/-! ===== the reference's book ===== -/
def RTB (τ : RS) (K : List Nat) : Prop := τ.1 22 = nI K.length ∧ ∀ i t, K[i]? = some t → τ.2 23 i = rw_ K t 0 ∧ τ.2 24 i = rw_ K t 1 ∧ τ.2 25 i = rw_ K t 2
theorem nodup_le {A B : List Nat} (hA : A.Nodup) (h : ∀ t, t ∈ A → t ∈ B) : A.length ≤ B.length := by
  have g : ∀ i (hi : i < A.length), A.getD i 0 = A[i] := fun i hi => by rw [List.getD_eq_getElem?_getD, List.getElem?_eq_getElem hi]; rfl
  refine fb_holes B.length A.length (fun i => B.idxOf (A.getD i 0)) (fun i hi => ?_) (fun i j hij hj e => ?_)
  · rw [g i hi]
    exact List.idxOf_lt_length_of_mem (h _ (List.getElem_mem hi))
  · have hi : i < A.length := by omega
    rw [g i hi, g j hj] at e
    have m1 := h _ (List.getElem_mem hi)
    have m2 := h _ (List.getElem_mem hj)
    have q1 := List.getElem_idxOf (List.idxOf_lt_length_of_mem m1)
    have q2 := List.getElem_idxOf (List.idxOf_lt_length_of_mem m2)
    have e2 : A[i] = A[j] := by
      rw [← q1, ← q2]
      congr 1
    have := List.Nodup.idxOf_getElem hA i hi
    rw [e2, List.Nodup.idxOf_getElem hA j hj] at this
    omega
section RB
variable {V : Nat → Bool}
theorem inn_child {L : List Nat} (h : CLO L) {k q : Nat} (hi : inn L (tT V (k + 1) q)) : inn L (tT V k (2 * q)) ∧ inn L (tT V k (2 * q + 1)) := by
  have ha := tT_lt V k (2 * q)
  have hb := tT_lt V k (2 * q + 1)
  have et : tT V (k + 1) q = tT V k (2 * q) + 2 ^ 2 ^ k * tT V k (2 * q + 1) := rfl
  by_cases c0 : tT V k (2 * q + 1) = 0
  · rw [et, c0, Nat.mul_zero, Nat.add_zero] at hi
    exact ⟨hi, Or.inl (by omega)⟩
  · obtain ⟨k1, k2, k3, k4, -⟩ := kk_of ha hb c0
    rw [← et] at k1 k2 k3 k4
    have hm := hi.resolve_left (by omega)
    obtain ⟨-, -, x3, x4⟩ := h.2 _ hm
    rw [k1, k2] at x3
    rw [k1, k3] at x4
    exact ⟨x3, x4⟩
theorem inn_all {L : List Nat} (h : CLO L) (hi : inn L (tT V 12 0)) : ∀ (d k q : Nat), k + d = 12 → q < 2 ^ d → inn L (tT V k q) := by
  intro d
  induction d with
  | zero =>
    intro k q hk hq
    have : k = 12 := by omega
    have hq0 : q = 0 := by rw [Nat.pow_zero] at hq; omega
    rw [this, hq0]
    exact hi
  | succ d ih =>
    intro k q hk hq
    rw [Nat.pow_succ] at hq
    have hp := ih (k + 1) (q / 2) (by omega) (by omega)
    obtain ⟨x, y⟩ := inn_child h hp
    rcases Nat.mod_two_eq_zero_or_one q with e | e
    · rw [show 2 * (q / 2) = q by omega] at x; exact x
    · rw [show 2 * (q / 2) + 1 = q by omega] at y; exact y
theorem po_sub {K : List Nat} (h : CLO K) : ∀ (k q : Nat) (L : List Nat), inn K (tT V k q) → ∀ t, t ∈ po k (tT V k q) L → t ∈ L ∨ t ∈ K := by
  intro k
  induction k with
  | zero => intro q L _ t ht; exact Or.inl ht
  | succ k ih =>
    intro q L hi t ht
    obtain ⟨ia, ib⟩ := inn_child h hi
    have both : t ∈ po k (tT V k (2 * q + 1)) (po k (tT V k (2 * q)) L) → t ∈ L ∨ t ∈ K := fun q1 => by
      rcases ih (2 * q + 1) _ ib t q1 with q2 | q2
      · exact ih (2 * q) L ia t q2
      · exact Or.inr q2
    rw [po_s] at ht
    by_cases c0 : tT V k (2 * q + 1) = 0
    · rw [if_pos c0] at ht; exact both ht
    · rw [if_neg c0] at ht
      by_cases c1 : tT V (k + 1) q ∈ po k (tT V k (2 * q + 1)) (po k (tT V k (2 * q)) L)
      · rw [if_pos c1] at ht; exact both ht
      · rw [if_neg c1, List.mem_append, List.mem_singleton] at ht
        rcases ht with ht | ht
        · exact both ht
        · obtain ⟨-, -, -, k4, -⟩ := kk_of (tT_lt V k (2 * q)) (tT_lt V k (2 * q + 1)) c0
          have k4 : 2 ≤ tT V (k + 1) q := k4
          rw [ht]
          exact Or.inr (hi.resolve_left (by omega))
/-- both lists have the same knots -/
theorem same_len {K : List Nat} (h : CLO K) (hb : LBD V K) (hi : inn K (tT V 12 0)) : K.length = (po 12 (tT V 12 0) []).length ∧ ∀ t, t ∈ K ↔ t ∈ po 12 (tT V 12 0) [] := by
  have c0 : CLO [] := ⟨List.nodup_nil, fun t ht => absurd ht List.not_mem_nil⟩
  have b0 : LBD V [] := fun t ht => absurd ht List.not_mem_nil
  obtain ⟨p1, p2, -, p4⟩ := po_clo (V := V) 12 0 [] (by omega) (by decide) c0 b0
  have s1 : ∀ t, t ∈ po 12 (tT V 12 0) [] → t ∈ K := fun t ht => (po_sub h 12 0 [] hi t ht).resolve_left List.not_mem_nil
  have s2 : ∀ t, t ∈ K → t ∈ po 12 (tT V 12 0) [] := fun t ht => by
    obtain ⟨k, q, hk, hq, e⟩ := hb t ht
    have := inn_all p1 p4 (12 - k) k q (by omega) hq
    rw [← e] at this
    exact this.resolve_left (by have := (h.2 t ht).1; omega)
  have l1 := nodup_le h.1 s2
  have l2 := nodup_le p1.1 s1
  exact ⟨by omega, fun t => ⟨s2 t, s1 t⟩⟩
/-- one knot of the reference -/
theorem knotR_n {τ : RS} {L : List Nat} (hT : RTB τ L) (hC : CLO L) (hB : LBD V L) {k q : Nat} (hk : k ≤ 11) (hq : q < 2 ^ (11 - k)) (ia : inn L (tT V k (2 * q))) (ib : inn L (tT V k (2 * q + 1))) : ∃ τ' L', Rm_knot τ (nI (11 - k)) (enc L (tT V k (2 * q))) (enc L (tT V k (2 * q + 1))) = some (enc L' (tT V (k + 1) q), τ') ∧ RTB τ' L' ∧ CLO L' ∧ LBD V L' ∧ inn L' (tT V (k + 1) q) ∧ (∀ t, inn L t → inn L' t ∧ enc L' t = enc L t) ∧ rK_ (fun c => 22 ≤ c ∧ c ≤ 25) τ τ' := by
  have hlen := len_n hC hB
  have ha := tT_lt V k (2 * q)
  have hb := tT_lt V k (2 * q + 1)
  have et : tT V (k + 1) q = tT V k (2 * q) + 2 ^ 2 ^ k * tT V k (2 * q + 1) := rfl
  by_cases c0 : tT V k (2 * q + 1) = 0
  · refine ⟨τ, L, ?_, hT, hC, hB, ?_, fun t ht => ⟨ht, rfl⟩, rK_.rf⟩
    · unfold Rm_knot
      rw [c0, if_pos (show enc L 0 = -1 from if_pos rfl), et, c0, Nat.mul_zero, Nat.add_zero]
    · rw [et, c0, Nat.mul_zero, Nat.add_zero]; exact ia
  · obtain ⟨k1, k2, k3, k4, -⟩ := kk_of ha hb c0
    rw [← et] at k1 k2 k3 k4
    have hne : enc L (tT V k (2 * q + 1)) ≠ -1 := fun e => by
      have := enc_inj (by omega) ib (Or.inl (show 0 < 2 by omega)) (e.trans (show (-1 : Int32) = enc L 0 from (if_pos rfl).symm))
      exact c0 this
    have row : ∀ i t, L[i]? = some t → ((τ.2 23 i = nI (11 - k) ∧ τ.2 24 i = enc L (tT V k (2 * q)) ∧ τ.2 25 i = enc L (tT V k (2 * q + 1))) ↔ t = tT V (k + 1) q) := fun i t hi => by
      have hm : t ∈ L := List.mem_of_getElem? hi
      obtain ⟨x1, x2, x3, x4⟩ := hC.2 t hm
      obtain ⟨r0, r1, r2⟩ := hT.2 i t hi
      constructor
      · rintro ⟨y0, y1, y2⟩
        rw [r0] at y0
        rw [r1] at y1
        rw [r2] at y2
        have e0 : 11 - kk t = 11 - k := (nI_eq (by omega) (by omega)).mp y0
        have ek : kk t = k := by omega
        have e1 : t % 2 ^ 2 ^ kk t = tT V k (2 * q) := enc_inj (by omega) x3 ia y1
        have e2 : t / 2 ^ 2 ^ kk t = tT V k (2 * q + 1) := enc_inj (by omega) x4 ib y2
        rw [split_t (kk t) t, e1, e2, ek]
        rfl
      · intro e
        subst e
        refine ⟨?_, ?_, ?_⟩
        · rw [r0]; show nI (11 - kk _) = _; rw [k1]
        · rw [r1]; show enc L (_ % 2 ^ 2 ^ kk _) = _; rw [k1, k2]
        · rw [r2]; show enc L (_ / 2 ^ 2 ^ kk _) = _; rw [k1, k3]
    have scan : ∀ (kx52 : Int32 → Option (Int32 × RS)) (kx61 : Option (Int32 × RS)), (∃ i t, L[i]? = some t ∧ t = tT V (k + 1) q ∧ it1 (Rs_knot_10 (nI (11 - k)) (enc L (tT V k (2 * q))) (enc L (tT V k (2 * q + 1))) τ kx52 kx61) fuel (0 : Int32) = kx52 (nI i)) ∨ (tT V (k + 1) q ∉ L ∧ it1 (Rs_knot_10 (nI (11 - k)) (enc L (tT V k (2 * q))) (enc L (tT V k (2 * q + 1))) τ kx52 kx61) fuel (0 : Int32) = kx61) := fun kx52 kx61 => by
      refine it1_ind (f := Rs_knot_10 (nI (11 - k)) (enc L (tT V k (2 * q))) (enc L (tT V k (2 * q + 1))) τ kx52 kx61) (P := fun n v => ∃ j, j + n = L.length ∧ v = nI j ∧ ∀ i t, i < j → L[i]? = some t → t ≠ tT V (k + 1) q) (Q := fun o => (∃ i t, L[i]? = some t ∧ t = tT V (k + 1) q ∧ o = kx52 (nI i)) ∨ (tT V (k + 1) q ∉ L ∧ o = kx61)) ?_ fuel L.length (0 : Int32) (by unfold fuel; omega) ⟨0, by omega, rfl, fun i t hi => absurd hi (Nat.not_lt_zero i)⟩
      rintro n v rc ⟨j, hj, rfl, hno⟩ ih
      unfold Rs_knot_10
      rw [hT.1]
      by_cases c : j = L.length
      · rw [if_pos (by rw [c]; exact nI_le (Nat.le_refl _) (by omega))]
        refine Or.inr ⟨fun hm => ?_, rfl⟩
        have hi := List.idxOf_lt_length_of_mem hm
        exact hno (L.idxOf (tT V (k + 1) q)) (tT V (k + 1) q) (by omega) (by rw [List.getElem?_eq_getElem hi, List.getElem_idxOf]) rfl
      · have hjl : j < L.length := by omega
        have hg : L[j]? = some L[j] := List.getElem?_eq_getElem hjl
        have hr := row j _ hg
        rw [if_neg (nI_ge hjl (by omega)), gi_n (by omega) (by decide), gi_n (by omega) (by decide), gi_n (by omega) (by decide), tn _ (by omega), pl1]
        by_cases e : L[j] = tT V (k + 1) q
        · obtain ⟨y0, y1, y2⟩ := hr.mpr e
          rw [if_pos y0, if_pos y1, if_pos y2]
          exact Or.inl ⟨j, _, hg, e, rfl⟩
        · have nx := ih (n - 1) (nI (j + 1)) (by omega) ⟨j + 1, by omega, rfl, fun i t hi ht => by
            by_cases e2 : i = j
            · subst e2
              rw [hg] at ht
              rw [← Option.some.inj ht]
              exact e
            · exact hno i t (by omega) ht⟩
          have nr := fun y => e (hr.mp y)
          by_cases y0 : τ.2 23 j = nI (11 - k)
          · rw [if_pos y0]
            by_cases y1 : τ.2 24 j = enc L (tT V k (2 * q))
            · rw [if_pos y1, if_neg (fun y2 => nr ⟨y0, y1, y2⟩)]
              exact nx
            · rw [if_neg y1]; exact nx
          · rw [if_neg y0]; exact nx
    unfold Rm_knot
    rw [if_neg hne]
    rcases scan (fun u_9 => some (u_9, τ)) _ with ⟨i, t, hg, e, h1⟩ | ⟨hm, h1⟩
    · have hi : i < L.length := (List.getElem?_eq_some_iff.mp hg).1
      have hm : t ∈ L := List.mem_of_getElem? hg
      refine ⟨τ, L, ?_, hT, hC, hB, Or.inr (by rw [← e]; exact hm), fun t ht => ⟨ht, rfl⟩, rK_.rf⟩
      rw [h1]
      show some (nI i, τ) = _
      have hg2 : L[i] = t := (List.getElem?_eq_some_iff.mp hg).2
      rw [enc_in k4, ← e, ← hg2, List.Nodup.idxOf_getElem hC.1 i hi]
    · have h23 : ∀ j : Nat, j ≠ 23 → (rA τ 23 L.length (nI (11 - k))).2 j = τ.2 j := fun j hj => rA_1 hj
      refine ⟨rS (rA (rA (rA τ 23 L.length (nI (11 - k))) 24 L.length (enc L (tT V k (2 * q)))) 25 L.length (enc L (tT V k (2 * q + 1)))) 22 (nI (L.length + 1)), L ++ [tT V (k + 1) q], ?_, ⟨by rw [List.length_append]; exact rS_s, fun i t hi => ?_⟩, hC.app hk ha hb c0 ia ib hm, fun t ht => ?_, Or.inr (List.mem_append_right _ (List.mem_singleton.mpr rfl)), fun t ht => ⟨ht.imp id (fun x => List.mem_append_left _ x), enc_app ht⟩, ((rK_A ⟨by omega, by omega⟩).tr ((rK_A ⟨by omega, by omega⟩).tr (rK_A ⟨by omega, by omega⟩))).tr (rK_S ⟨by omega, by omega⟩)⟩
      · rw [h1, hT.1, gi_n (by omega) (by decide), nm_s, show (rA τ 23 (nI L.length).toNatClampNeg (nI (11 - k))).1 22 = nI L.length from hT.1, gi_n (by omega) (by decide), nm_s, show (rA (rA τ 23 (nI L.length).toNatClampNeg (nI (11 - k))) 24 (nI L.length).toNatClampNeg (enc L (tT V k (2 * q)))).1 22 = nI L.length from hT.1, gi_n (by omega) (by decide), nm_s, show (rA (rA (rA τ 23 (nI L.length).toNatClampNeg (nI (11 - k))) 24 (nI L.length).toNatClampNeg (enc L (tT V k (2 * q)))) 25 (nI L.length).toNatClampNeg (enc L (tT V k (2 * q + 1)))).1 22 = nI L.length from hT.1, nm_s, rS_s, pl1, mi1, tn _ (by omega), enc_in k4, List.idxOf_append, if_neg hm, List.idxOf_cons_self, Nat.zero_add]
      · rw [rS_p2]
        by_cases e : i < L.length
        · rw [List.getElem?_append_left e] at hi
          obtain ⟨r0, r1, r2⟩ := hT.2 i t hi
          have hm2 := List.mem_of_getElem? hi
          rw [rw_app hC hm2, rw_app hC hm2, rw_app hC hm2]
          exact ⟨by rw [rA_1 (by decide), rA_1 (by decide), rA_n (by omega)]; exact r0, by rw [rA_1 (by decide), rA_n (by omega), rA_1 (by decide)]; exact r1, by rw [rA_n (by omega), rA_1 (by decide), rA_1 (by decide)]; exact r2⟩
        · have hil : i = L.length := by
            have : i < (L ++ [tT V (k + 1) q]).length := (List.getElem?_eq_some_iff.mp hi).1
            rw [List.length_append] at this
            have h1 : [tT V (k + 1) q].length = 1 := rfl
            omega
          subst hil
          rw [List.getElem?_append_right (Nat.le_refl _), Nat.sub_self] at hi
          have ht : t = tT V (k + 1) q := (Option.some.inj hi).symm
          subst ht
          refine ⟨?_, ?_, ?_⟩
          · rw [rA_1 (by decide), rA_1 (by decide), rA_s]; show _ = nI (11 - kk _); rw [k1]
          · rw [rA_1 (by decide), rA_s]; show _ = enc _ (_ % 2 ^ 2 ^ kk _); rw [k1, k2, enc_app ia]
          · rw [rA_s]; show _ = enc _ (_ / 2 ^ 2 ^ kk _); rw [k1, k3, enc_app ib]
      · rw [List.mem_append, List.mem_singleton] at ht
        rcases ht with ht | rfl
        · exact hB t ht
        · exact ⟨k + 1, q, by omega, by rw [show 12 - (k + 1) = 11 - k by omega]; exact hq, rfl⟩
theorem rv_s {R p : Nat} (hR : R < 12) (hp : p < 2 ^ R) : rvR (R + 1) p = 2 * rvR R p ∧ rvR (R + 1) (p + 2 ^ R) = 2 * rvR R p + 1 := by
  have hp1 : 2 ^ (R + 1) = 2 ^ R + 2 ^ R := by rw [Nat.pow_succ, Nat.mul_two]
  have pb : ∀ i, R ≤ i → p.testBit i = false := fun i hi => Nat.testBit_lt_two_pow (Nat.lt_of_lt_of_le hp (Nat.pow_le_pow_right (by decide) hi))
  have rb : ∀ i, R ≤ i → (rvR R p).testBit i = false := fun i hi => by
    rw [rvR_tb (by omega) hp, decide_eq_false (by omega)]; rfl
  constructor
  · apply Nat.eq_of_testBit_eq
    intro i
    rw [rvR_tb (by omega) (by omega)]
    cases i with
    | zero =>
      rw [show R + 1 - 1 - 0 = R by omega, pb R (Nat.le_refl _), Bool.and_false, Nat.testBit_zero, decide_eq_false (by omega)]
    | succ i =>
      rw [Nat.testBit_succ, show 2 * rvR R p / 2 = rvR R p by omega, rvR_tb (by omega) hp, show R + 1 - 1 - (i + 1) = R - 1 - i by omega]
      congr 1
      exact decide_eq_decide.mpr (by omega)
  · apply Nat.eq_of_testBit_eq
    intro i
    rw [rvR_tb (by omega) (by omega), Nat.add_comm p, tb_top hp]
    cases i with
    | zero =>
      rw [show R + 1 - 1 - 0 = R by omega, decide_eq_true rfl, Bool.true_or, Bool.and_true, Nat.testBit_zero]
      exact decide_eq_decide.mpr (by omega)
    | succ i =>
      rw [Nat.testBit_succ, show (2 * rvR R p + 1) / 2 = rvR R p by omega, rvR_tb (by omega) hp, show R + 1 - 1 - (i + 1) = R - 1 - i by omega]
      by_cases c : i < R
      · rw [decide_eq_true c, decide_eq_true (by omega), decide_eq_false (by omega), Bool.false_or]
      · rw [decide_eq_false c, decide_eq_false (by omega)]; rfl
theorem rv_0 (R : Nat) : rvR R 0 = 0 := by
  unfold rvR
  rw [Nat.zero_mul]
  decide
theorem rv_12 {p : Nat} : rvR 12 p = mir p := by
  unfold rvR
  rw [Nat.sub_self, Nat.pow_zero, Nat.mul_one]
theorem bookOf_n {τ : RS} {F f k : Nat} {W : Nat → Nat → Bool} (h : RW_ τ F W) (hF : F ≤ 30) (hf : f < F) (tm : Nat → Nat) (htm : ∀ m, m < 4096 → tm m < 4096 ∧ Rm_turnedMask (nI m) (nI k) = some (nI (tm m)) ∧ V (mir (tm m)) = W f m) (hsur : ∀ y, y < 4096 → ∃ m, m < 4096 ∧ tm m = y) : ∃ τ' K, Rm_bookOf τ (nI f) (nI k) = some (enc K (tT V 12 0), τ') ∧ RTB τ' K ∧ CLO K ∧ LBD V K ∧ inn K (tT V 12 0) ∧ rK_ (fun c => 22 ≤ c ∧ c ≤ 26) τ τ' := by
  -- yes and no of every mask
  have l1 : ∀ kx : RS → Option (Int32 × RS), ∃ t, it2 (Rs_bookOf_7 (nI f) (nI k) kx) fuel (0 : Int32) (rS τ 22 (0 : Int32)) = kx t ∧ rK_ (fun c => 22 ≤ c ∧ c ≤ 26) τ t ∧ t.1 22 = 0 ∧ ∀ y, y < 4096 → t.2 26 y = enc [] (tT V 0 (rvR 12 y)) := fun kx => by
    refine it2_ind (f := Rs_bookOf_7 (nI f) (nI k) kx) (P := fun n v t => ∃ j, j + n = 4096 ∧ v = nI j ∧ rK_ (fun c => 22 ≤ c ∧ c ≤ 26) τ t ∧ t.1 22 = 0 ∧ ∀ m, m < j → t.2 26 (tm m) = enc [] (tT V 0 (rvR 12 (tm m)))) (Q := fun o => ∃ t, o = kx t ∧ rK_ (fun c => 22 ≤ c ∧ c ≤ 26) τ t ∧ t.1 22 = 0 ∧ ∀ y, y < 4096 → t.2 26 y = enc [] (tT V 0 (rvR 12 y))) ?_ fuel 4096 (0 : Int32) (rS τ 22 (0 : Int32)) (by unfold fuel; omega) ⟨0, rfl, rfl, rK_S ⟨by omega, by omega⟩, rS_s, fun m hm => absurd hm (Nat.not_lt_zero m)⟩
    rintro n v t rc ⟨j, hj, rfl, k1, z1, w1⟩ ih
    unfold Rs_bookOf_7
    by_cases c : j = 4096
    · subst c
      rw [if_pos (show (4096 : Int32) ≤ nI 4096 by decide)]
      refine ⟨t, rfl, k1, z1, fun y hy => ?_⟩
      obtain ⟨m, hm, rfl⟩ := hsur y hy
      exact w1 m hm
    · obtain ⟨m1, m2, m3⟩ := htm j (by omega)
      have hw : RW_ t F W := h.to (fun i _ => by rw [(k1 8 (by omega)).2])
      rw [if_neg (show ¬ (4096 : Int32) ≤ nI j from nI_ge (b := 4096) (by omega) (by decide)), m2, b1_s, isWay_n hw hF hf (by omega), b1_s, gi_n (by omega) (by decide), gi_n (by omega) (by decide), nm_s, nm_s, tn _ (by omega), pl1]
      have fin : ∀ x : Int32, x = enc [] (tT V 0 (rvR 12 (tm j))) → ∃ t', rc (nI (j + 1)) (rA t 26 (tm j) x) = kx t' ∧ rK_ (fun c => 22 ≤ c ∧ c ≤ 26) τ t' ∧ t'.1 22 = 0 ∧ ∀ y, y < 4096 → t'.2 26 y = enc [] (tT V 0 (rvR 12 y)) := fun x hx => by
        refine ih (n - 1) _ _ (by omega) ⟨j + 1, by omega, rfl, k1.tr (rK_A ⟨by omega, by omega⟩), z1, fun m hm => ?_⟩
        by_cases e : tm m = tm j
        · rw [e, rA_s]; exact hx
        · rw [rA_n e]
          refine w1 m ?_
          have : m ≠ j := fun e2 => e (by rw [e2])
          omega
      have ev : tT V 0 (rvR 12 (tm j)) = if W f j = true then 1 else 0 := by
        rw [rv_12, ← m3]; rfl
      rw [ev] at fin
      cases d : W f j
      · rw [d] at fin
        rw [if_pos (by rfl)]
        exact fin _ rfl
      · rw [d] at fin
        rw [if_neg (by decide)]
        exact fin _ rfl
  obtain ⟨t1, e1, k1, z1, w1⟩ := l1 (fun τ_15 => it2 (Rs_bookOf_48 (fun τ_27 => gi (0 : Int32) 4096 (some ((τ_27.2 26 ((0 : Int32)).toNatClampNeg), τ_27)))) fuel (11 : Int32) τ_15)
  have c0 : CLO [] := ⟨List.nodup_nil, fun t ht => absurd ht List.not_mem_nil⟩
  have b0 : LBD V [] := fun t ht => absurd ht List.not_mem_nil
  have l2 : ∃ t K, it2 (Rs_bookOf_48 (fun τ_27 => gi (0 : Int32) 4096 (some ((τ_27.2 26 ((0 : Int32)).toNatClampNeg), τ_27)))) fuel (11 : Int32) t1 = some (enc K (tT V 12 0), t) ∧ RTB t K ∧ CLO K ∧ LBD V K ∧ inn K (tT V 12 0) ∧ rK_ (fun c => 22 ≤ c ∧ c ≤ 26) τ t := by
    refine it2_ind (f := Rs_bookOf_48 (fun τ_27 => gi (0 : Int32) 4096 (some ((τ_27.2 26 ((0 : Int32)).toNatClampNeg), τ_27)))) (P := fun n v t => ∃ j K, j + n = 12 ∧ v.toInt = 11 - (j : Int) ∧ rK_ (fun c => 22 ≤ c ∧ c ≤ 26) τ t ∧ RTB t K ∧ CLO K ∧ LBD V K ∧ ∀ p, p < 2 ^ (12 - j) → t.2 26 p = enc K (tT V j (rvR (12 - j) p)) ∧ inn K (tT V j (rvR (12 - j) p))) (Q := fun o => ∃ t K, o = some (enc K (tT V 12 0), t) ∧ RTB t K ∧ CLO K ∧ LBD V K ∧ inn K (tT V 12 0) ∧ rK_ (fun c => 22 ≤ c ∧ c ≤ 26) τ t) ?_ fuel 12 (11 : Int32) t1 (by unfold fuel; omega) ⟨0, [], rfl, rfl, k1, ⟨z1, fun i t hi => absurd hi (by simp)⟩, c0, b0, fun p hp => ⟨w1 p hp, Or.inl (tT_lt V 0 _)⟩⟩
    rintro n v t rc ⟨j, K, hj, hv, k2, T2, C2, B2, w2⟩ ih
    unfold Rs_bookOf_48
    by_cases c : j = 12
    · subst c
      rw [if_pos (by rw [fa_lt, t0]; omega)]
      obtain ⟨x1, x2⟩ := w2 0 (by decide)
      rw [rv_0] at x1 x2
      refine ⟨t, K, ?_, T2, C2, B2, x2, k2⟩
      show gi (nI 0) 4096 _ = _
      rw [gi_n (by omega) (by decide), tc0, x1]
    · have hvn : v = nI (11 - j) := of_toInt (by omega) (by omega)
      subst hvn
      rw [if_neg (nI_pos (by omega))]
      have hr4 : 2 ^ (11 - j) ≤ 2048 := Nat.pow_le_pow_right (n := 2) (j := 11) (by decide) (by omega)
      have hr1 : 2 ^ (12 - j) = 2 ^ (11 - j) + 2 ^ (11 - j) := by rw [show 12 - j = (11 - j) + 1 by omega, Nat.pow_succ, Nat.mul_two]
      have inner : ∃ t' K', it2 (Rs_bookOf_55 (nI (11 - j)) (fun τ_26 => rc (nI (11 - j) + (-1 : Int32)) τ_26)) fuel (0 : Int32) t = rc (nI (11 - j) + (-1 : Int32)) t' ∧ rK_ (fun c => 22 ≤ c ∧ c ≤ 26) τ t' ∧ RTB t' K' ∧ CLO K' ∧ LBD V K' ∧ ∀ p, p < 2 ^ (11 - j) → t'.2 26 p = enc K' (tT V (j + 1) (rvR (11 - j) p)) ∧ inn K' (tT V (j + 1) (rvR (11 - j) p)) := by
        refine it2_ind (f := Rs_bookOf_55 (nI (11 - j)) (fun τ_26 => rc (nI (11 - j) + (-1 : Int32)) τ_26)) (P := fun n v s => ∃ p K, p + n = 2 ^ (11 - j) ∧ v = nI p ∧ rK_ (fun c => 22 ≤ c ∧ c ≤ 26) τ s ∧ RTB s K ∧ CLO K ∧ LBD V K ∧ (∀ x, x < p → s.2 26 x = enc K (tT V (j + 1) (rvR (11 - j) x)) ∧ inn K (tT V (j + 1) (rvR (11 - j) x))) ∧ ∀ x, p ≤ x → x < 2 ^ (12 - j) → s.2 26 x = enc K (tT V j (rvR (12 - j) x)) ∧ inn K (tT V j (rvR (12 - j) x))) (Q := fun o => ∃ t' K', o = rc (nI (11 - j) + (-1 : Int32)) t' ∧ rK_ (fun c => 22 ≤ c ∧ c ≤ 26) τ t' ∧ RTB t' K' ∧ CLO K' ∧ LBD V K' ∧ ∀ p, p < 2 ^ (11 - j) → t'.2 26 p = enc K' (tT V (j + 1) (rvR (11 - j) p)) ∧ inn K' (tT V (j + 1) (rvR (11 - j) p))) ?_ fuel (2 ^ (11 - j)) (0 : Int32) t (by unfold fuel; omega) ⟨0, K, by omega, rfl, k2, T2, C2, B2, fun x hx => absurd hx (Nat.not_lt_zero x), fun x _ hx => w2 x hx⟩
        rintro n2 v2 s rc2 ⟨p, K3, hp, rfl, k3, T3, C3, B3, lo, hi⟩ ih2
        unfold Rs_bookOf_55
        rw [shl1 (by omega)]
        by_cases cp : p = 2 ^ (11 - j)
        · rw [if_pos (by rw [cp]; exact nI_le (Nat.le_refl _) (by omega))]
          exact ⟨s, K3, rfl, k3, T3, C3, B3, fun x hx => lo x (by omega)⟩
        · have hp2 : p < 2 ^ (11 - j) := by omega
          have hor : p ||| 2 ^ (11 - j) = p + 2 ^ (11 - j) := by
            have := Nat.two_pow_add_eq_or_of_lt hp2 1
            rw [Nat.mul_one] at this
            rw [Nat.add_comm, this, Nat.or_comm]
          obtain ⟨r1, r2⟩ := rv_s (R := 11 - j) (p := p) (by omega) hp2
          rw [show 11 - j + 1 = 12 - j by omega] at r1 r2
          obtain ⟨x1, x2⟩ := hi p (Nat.le_refl _) (by omega)
          obtain ⟨y1, y2⟩ := hi (p + 2 ^ (11 - j)) (by omega) (by omega)
          rw [r1] at x1 x2
          rw [r2] at y1 y2
          obtain ⟨s', K', q1, q2, q3, q4, q5, q6, q7⟩ := knotR_n T3 C3 B3 (k := j) (q := rvR (11 - j) p) (by omega) (rvR_lt (by omega) hp2) x2 y2
          rw [if_neg (nI_ge hp2 (by omega)), fa_or, hor, gi_n (by omega) (by decide), gi_n (by omega) (by decide), tn _ (by omega), tn _ (by omega), x1, y1, q1, b2_s, gi_n (by omega) (by decide), nm_s, pl1]
          have h26 : s'.2 26 = s.2 26 := (q7 26 (by omega)).2
          refine ih2 (n2 - 1) _ _ (by omega) ⟨p + 1, K', by omega, rfl, (k3.tr (q7.mo (fun c hc => by omega))).tr (rK_A ⟨by omega, by omega⟩), ⟨q2.1, fun i t hi => by rw [rA_1 (by decide), rA_1 (by decide), rA_1 (by decide)]; exact q2.2 i t hi⟩, q3, q4, fun x hx => ?_, fun x hx1 hx2 => ?_⟩
          · by_cases e : x = p
            · rw [e, rA_s]; exact ⟨rfl, q5⟩
            · obtain ⟨l1, l2⟩ := lo x (by omega)
              rw [rA_n e, h26, l1]
              exact ⟨(q6 _ l2).2.symm, (q6 _ l2).1⟩
          · obtain ⟨l1, l2⟩ := hi x (by omega) hx2
            rw [rA_n (by omega), h26, l1]
            exact ⟨(q6 _ l2).2.symm, (q6 _ l2).1⟩
      obtain ⟨t', K', e3, k3, T3, C3, B3, w3⟩ := inner
      rw [e3]
      refine ih (n - 1) _ _ (by omega) ⟨j + 1, K', by omega, ?_, k3, T3, C3, B3, by rw [show 12 - (j + 1) = 11 - j by omega]; exact w3⟩
      rw [fb_addI, it_nI (by omega), i32_m1]
      · omega
      · rw [it_nI (by omega), i32_m1]; omega
      · rw [it_nI (by omega), i32_m1]; omega
  obtain ⟨t, K, e2, r⟩ := l2
  refine ⟨t, K, ?_, r⟩
  unfold Rm_bookOf
  rw [nm_s, e1, e2]
end RB

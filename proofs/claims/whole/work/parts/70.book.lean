/-! ===== the book of a family, as numbers ===== -/
def po : Nat → Nat → List Nat → List Nat
  | 0, _, acc => acc
  | k + 1, t, acc => if t / 2 ^ 2 ^ k = 0 then po k (t / 2 ^ 2 ^ k) (po k (t % 2 ^ 2 ^ k) acc) else if t ∈ po k (t / 2 ^ 2 ^ k) (po k (t % 2 ^ 2 ^ k) acc) then po k (t / 2 ^ 2 ^ k) (po k (t % 2 ^ 2 ^ k) acc) else po k (t / 2 ^ 2 ^ k) (po k (t % 2 ^ 2 ^ k) acc) ++ [t]
def kk (t : Nat) : Nat := Nat.log2 (Nat.log2 t)
def enc (L : List Nat) (t : Nat) : Int32 := if t = 0 then -1 else if t = 1 then -2 else nI (L.idxOf t)
def cn (t : Nat) : Nat := fb_ct (fun i => t.testBit i) 4096
def rw_ (L : List Nat) (t w : Nat) : Int32 := if w = 0 then nI (11 - kk t) else if w = 1 then enc L (t % 2 ^ 2 ^ kk t) else if w = 2 then enc L (t / 2 ^ 2 ^ kk t) else nI (cn t)
/-- nothing, all, or one of the list -/
def inn (L : List Nat) (t : Nat) : Prop := t < 2 ∨ t ∈ L
def CLO (L : List Nat) : Prop := L.Nodup ∧ ∀ t, t ∈ L → 2 ≤ t ∧ kk t ≤ 11 ∧ inn L (t % 2 ^ 2 ^ kk t) ∧ inn L (t / 2 ^ 2 ^ kk t)
theorem pp_pos (k : Nat) : 0 < 2 ^ 2 ^ k := Nat.two_pow_pos _
theorem pp_2 (k : Nat) : 2 ≤ 2 ^ 2 ^ k := by
  have := Nat.pow_le_pow_right (n := 2) (by decide) (Nat.one_le_two_pow (n := k))
  rwa [Nat.pow_one] at this
theorem pp_s (k : Nat) : 2 ^ 2 ^ (k + 1) = 2 ^ 2 ^ k * 2 ^ 2 ^ k := by rw [← Nat.pow_add, Nat.pow_succ, Nat.mul_two]
theorem kk_of {k a b : Nat} (ha : a < 2 ^ 2 ^ k) (hb : b < 2 ^ 2 ^ k) (h0 : b ≠ 0) : kk (a + 2 ^ 2 ^ k * b) = k ∧ (a + 2 ^ 2 ^ k * b) % 2 ^ 2 ^ k = a ∧ (a + 2 ^ 2 ^ k * b) / 2 ^ 2 ^ k = b ∧ 2 ≤ a + 2 ^ 2 ^ k * b ∧ a + 2 ^ 2 ^ k * b < 2 ^ 2 ^ (k + 1) := by
  have hp := pp_pos k
  have h2 := pp_2 k
  have hge : 2 ^ 2 ^ k ≤ a + 2 ^ 2 ^ k * b := by
    have : 2 ^ 2 ^ k * 1 ≤ 2 ^ 2 ^ k * b := Nat.mul_le_mul_left _ (by omega)
    omega
  have hlt : a + 2 ^ 2 ^ k * b < 2 ^ 2 ^ (k + 1) := by
    rw [pp_s]
    have : 2 ^ 2 ^ k * (b + 1) ≤ 2 ^ 2 ^ k * 2 ^ 2 ^ k := Nat.mul_le_mul_left _ (by omega)
    rw [Nat.mul_add, Nat.mul_one] at this
    omega
  have hne : a + 2 ^ 2 ^ k * b ≠ 0 := by omega
  have l1 : 2 ^ k ≤ Nat.log2 (a + 2 ^ 2 ^ k * b) := (Nat.le_log2 hne).mpr hge
  have l2 : Nat.log2 (a + 2 ^ 2 ^ k * b) < 2 ^ (k + 1) := (Nat.log2_lt hne).mpr hlt
  have hne2 : Nat.log2 (a + 2 ^ 2 ^ k * b) ≠ 0 := by have := Nat.two_pow_pos k; omega
  have m1 : k ≤ kk (a + 2 ^ 2 ^ k * b) := (Nat.le_log2 hne2).mpr l1
  have m2 : kk (a + 2 ^ 2 ^ k * b) < k + 1 := (Nat.log2_lt hne2).mpr l2
  refine ⟨by omega, ?_, ?_, by omega, hlt⟩
  · rw [Nat.add_mul_mod_self_left, Nat.mod_eq_of_lt ha]
  · rw [Nat.add_mul_div_left _ _ hp, Nat.div_eq_of_lt ha, Nat.zero_add]
theorem split_t (k t : Nat) : t = t % 2 ^ 2 ^ k + 2 ^ 2 ^ k * (t / 2 ^ 2 ^ k) := (Nat.mod_add_div t _).symm
theorem po_small : ∀ (k t : Nat) (L : List Nat), t < 2 → po k t L = L
  | 0, _, _, _ => rfl
  | k + 1, t, L, h => by
    have h2 := pp_2 k
    have e1 : t / 2 ^ 2 ^ k = 0 := Nat.div_eq_of_lt (by omega)
    show (if t / 2 ^ 2 ^ k = 0 then _ else _) = _
    rw [if_pos e1, e1, Nat.mod_eq_of_lt (by omega), po_small k t L h, po_small k 0 L (by decide)]
theorem enc_in {L : List Nat} {t : Nat} (h2 : 2 ≤ t) : enc L t = nI (L.idxOf t) := by
  unfold enc
  rw [if_neg (by omega), if_neg (by omega)]
theorem enc_app {L : List Nat} {t s : Nat} (h : inn L t) : enc (L ++ [s]) t = enc L t := by
  unfold enc
  by_cases c0 : t = 0
  · rw [if_pos c0, if_pos c0]
  · rw [if_neg c0, if_neg c0]
    by_cases c1 : t = 1
    · rw [if_pos c1, if_pos c1]
    · rw [if_neg c1, if_neg c1, List.idxOf_append, if_pos (h.resolve_left (by omega))]
theorem enc_inj {L : List Nat} (hl : L.length < 2 ^ 31) {s t : Nat} (hs : inn L s) (ht : inn L t) (h : enc L s = enc L t) : s = t := by
  have neg : ∀ i, i < 2 ^ 31 → nI i ≠ (-1 : Int32) ∧ nI i ≠ (-2 : Int32) := fun i hi => by
    constructor
    · intro e
      have := congrArg Int32.toInt e
      rw [it_nI hi, i32_m1] at this
      omega
    · intro e
      have := congrArg Int32.toInt e
      rw [it_nI hi, i32_m2] at this
      omega
  have idx : ∀ x, x ∈ L → L.idxOf x < 2 ^ 31 := fun x hx => Nat.lt_trans (List.idxOf_lt_length_of_mem hx) hl
  unfold enc at h
  by_cases s0 : s = 0
  · by_cases t0 : t = 0
    · omega
    · rw [if_pos s0, if_neg t0] at h
      by_cases t1 : t = 1
      · rw [if_pos t1] at h; exact absurd h (by decide)
      · rw [if_neg t1] at h; exact absurd h.symm (neg _ (idx t (ht.resolve_left (by omega)))).1
  · rw [if_neg s0] at h
    by_cases s1 : s = 1
    · rw [if_pos s1] at h
      by_cases t0 : t = 0
      · rw [if_pos t0] at h; exact absurd h (by decide)
      · rw [if_neg t0] at h
        by_cases t1 : t = 1
        · omega
        · rw [if_neg t1] at h; exact absurd h.symm (neg _ (idx t (ht.resolve_left (by omega)))).2
    · rw [if_neg s1] at h
      have ms := hs.resolve_left (by omega)
      by_cases t0 : t = 0
      · rw [if_pos t0] at h; exact absurd h (neg _ (idx s ms)).1
      · rw [if_neg t0] at h
        by_cases t1 : t = 1
        · rw [if_pos t1] at h; exact absurd h (neg _ (idx s ms)).2
        · rw [if_neg t1] at h
          have mt := ht.resolve_left (by omega)
          have e := (nI_eq (idx s ms) (idx t mt)).mp h
          have q1 := List.getElem_idxOf (List.idxOf_lt_length_of_mem ms)
          have q2 := List.getElem_idxOf (List.idxOf_lt_length_of_mem mt)
          rw [← q1, ← q2]
          congr 1
theorem cn_lt : ∀ {t n : Nat}, n ≤ 4096 → t < 2 ^ n → cn t = fb_ct (fun i => t.testBit i) n := fun {t n} hn ht => by
  unfold cn
  obtain ⟨d, hd⟩ : ∃ d, 4096 = n + d := ⟨4096 - n, by omega⟩
  rw [hd, ct_flat (fun i _ => Nat.testBit_lt_two_pow (Nat.lt_of_lt_of_le ht (Nat.pow_le_pow_right (by decide) (by omega))))]
theorem cn_0 : cn 0 = 0 := fb_ct_zero.mpr (fun k _ => Nat.zero_testBit k)
theorem cn_1 : cn 1 = 1 := by
  rw [cn_lt (n := 1) (by omega) (by decide)]
  rfl
theorem cn_add {k a b : Nat} (hk : k ≤ 11) (ha : a < 2 ^ 2 ^ k) (hb : b < 2 ^ 2 ^ k) : cn (a + 2 ^ 2 ^ k * b) = cn a + cn b := by
  have hk2 : 2 ^ (k + 1) ≤ 4096 := p2R (R := k + 1) (by omega)
  have hk1 : 2 ^ (k + 1) = 2 ^ k + 2 ^ k := by rw [Nat.pow_succ, Nat.mul_two]
  have hlt : a + 2 ^ 2 ^ k * b < 2 ^ 2 ^ (k + 1) := by
    rw [pp_s]
    have : 2 ^ 2 ^ k * (b + 1) ≤ 2 ^ 2 ^ k * 2 ^ 2 ^ k := Nat.mul_le_mul_left _ (by omega)
    rw [Nat.mul_add, Nat.mul_one] at this
    omega
  rw [cn_lt hk2 hlt, cn_lt (show 2 ^ k ≤ 4096 by omega) ha, cn_lt (show 2 ^ k ≤ 4096 by omega) hb, hk1, ct_add]
  have e : ∀ i, (a + 2 ^ 2 ^ k * b).testBit i = if i < 2 ^ k then a.testBit i else b.testBit (i - 2 ^ k) := fun i => by
    rw [Nat.add_comm, Nat.testBit_two_pow_mul_add b ha]
  congr 1
  · exact fb_ct_cong fun i hi => by rw [e, if_pos hi]
  · exact fb_ct_cong fun i hi => by rw [e, if_neg (by omega), Nat.add_sub_cancel_left]
/-! the parts of a truth table -/
def tT (V : Nat → Bool) : Nat → Nat → Nat
  | 0, q => if V q = true then 1 else 0
  | k + 1, q => tT V k (2 * q) + 2 ^ 2 ^ k * tT V k (2 * q + 1)
theorem tT_lt (V : Nat → Bool) : ∀ k q, tT V k q < 2 ^ 2 ^ k
  | 0, q => by
    show (if V q = true then 1 else 0) < 2
    split <;> omega
  | k + 1, q => by
    show tT V k (2 * q) + 2 ^ 2 ^ k * tT V k (2 * q + 1) < _
    have h1 := tT_lt V k (2 * q)
    have h2 := tT_lt V k (2 * q + 1)
    rw [pp_s]
    have : 2 ^ 2 ^ k * (tT V k (2 * q + 1) + 1) ≤ 2 ^ 2 ^ k * 2 ^ 2 ^ k := Nat.mul_le_mul_left _ (by omega)
    rw [Nat.mul_add, Nat.mul_one] at this
    omega
theorem tT_mod (V : Nat → Bool) (k q : Nat) : tT V (k + 1) q % 2 ^ 2 ^ k = tT V k (2 * q) ∧ tT V (k + 1) q / 2 ^ 2 ^ k = tT V k (2 * q + 1) := by
  have h1 := tT_lt V k (2 * q)
  constructor
  · show (tT V k (2 * q) + 2 ^ 2 ^ k * tT V k (2 * q + 1)) % 2 ^ 2 ^ k = _
    rw [Nat.add_mul_mod_self_left, Nat.mod_eq_of_lt h1]
  · show (tT V k (2 * q) + 2 ^ 2 ^ k * tT V k (2 * q + 1)) / 2 ^ 2 ^ k = _
    rw [Nat.add_mul_div_left _ _ (pp_pos k), Nat.div_eq_of_lt h1, Nat.zero_add]
theorem tT_tb (V : Nat → Bool) : ∀ k q x, x < 2 ^ k → (tT V k q).testBit x = V (q * 2 ^ k + x)
  | 0, q, x, h => by
    have : x = 0 := by rw [Nat.pow_zero] at h; omega
    subst this
    show (if V q = true then 1 else 0).testBit 0 = _
    rw [Nat.pow_zero, Nat.mul_one, Nat.add_zero]
    cases V q <;> rfl
  | k + 1, q, x, h => by
    have hk1 : 2 ^ (k + 1) = 2 ^ k + 2 ^ k := by rw [Nat.pow_succ, Nat.mul_two]
    show (tT V k (2 * q) + 2 ^ 2 ^ k * tT V k (2 * q + 1)).testBit x = _
    rw [Nat.add_comm, Nat.testBit_two_pow_mul_add _ (tT_lt V k (2 * q))]
    by_cases c : x < 2 ^ k
    · rw [if_pos c, tT_tb V k (2 * q) x c]
      congr 1
      rw [hk1, Nat.mul_add, Nat.mul_comm 2 q, Nat.mul_assoc, Nat.two_mul, Nat.mul_add]
    · rw [if_neg c, tT_tb V k (2 * q + 1) (x - 2 ^ k) (by omega)]
      congr 1
      rw [hk1, Nat.mul_add, Nat.add_mul, Nat.mul_comm 2 q, Nat.mul_assoc, Nat.two_mul, Nat.mul_add]
      omega
def LBD (V : Nat → Bool) (L : List Nat) : Prop := ∀ t, t ∈ L → ∃ k q, k ≤ 12 ∧ q < 2 ^ (12 - k) ∧ t = tT V k q
/-- never more than 765 -/
theorem len_n {V : Nat → Bool} {L : List Nat} (h : CLO L) (hb : LBD V L) : L.length ≤ 765 := by
  have REL : ∀ i, i < L.length → ∃ c, c < 765 ∧ ((L.getD i 0 < 256 ∧ c = L.getD i 0 - 2) ∨ (∃ r q, r ≤ 8 ∧ q < 2 ^ r ∧ L.getD i 0 = tT V (12 - r) q ∧ c = 254 + (2 ^ r - 1 + q))) := fun i hi => by
    have hm : L.getD i 0 ∈ L := by
      rw [List.getD_eq_getElem?_getD, List.getElem?_eq_getElem hi]
      exact List.getElem_mem hi
    have h2 := (h.2 _ hm).1
    by_cases c : L.getD i 0 < 256
    · exact ⟨_, by omega, Or.inl ⟨c, rfl⟩⟩
    · obtain ⟨k, q, hk, hq, e⟩ := hb _ hm
      have hk4 : 4 ≤ k := by
        rcases Nat.lt_or_ge k 4 with d | d
        · exfalso
          apply c
          rw [e]
          have := tT_lt V k q
          have h8 : 2 ^ 2 ^ k ≤ 2 ^ 2 ^ 3 := Nat.pow_le_pow_right (by decide) (Nat.pow_le_pow_right (by decide) (by omega))
          have : (2 : Nat) ^ 2 ^ 3 = 256 := by decide
          omega
        · exact d
      have hr : 2 ^ (12 - k) ≤ 2 ^ 8 := Nat.pow_le_pow_right (by decide) (by omega)
      refine ⟨254 + (2 ^ (12 - k) - 1 + q), by omega, Or.inr ⟨12 - k, q, by omega, hq, by rw [e, show 12 - (12 - k) = k by omega], rfl⟩⟩
  have inj : ∀ i j, i < L.length → j < L.length → L.getD i 0 = L.getD j 0 → i = j := fun i j hi hj e => by
    rw [List.getD_eq_getElem?_getD, List.getElem?_eq_getElem hi, List.getD_eq_getElem?_getD, List.getElem?_eq_getElem hj] at e
    have e2 : L[i] = L[j] := e
    have := List.Nodup.idxOf_getElem h.1 i hi
    rw [e2, List.Nodup.idxOf_getElem h.1 j hj] at this
    exact this.symm
  have ge2 : ∀ i, i < L.length → 2 ≤ L.getD i 0 := fun i hi => by
    have hm : L.getD i 0 ∈ L := by
      rw [List.getD_eq_getElem?_getD, List.getElem?_eq_getElem hi]
      exact List.getElem_mem hi
    exact (h.2 _ hm).1
  have F : ∃ f : Nat → Nat, ∀ i, i < L.length → f i < 765 ∧ ((L.getD i 0 < 256 ∧ f i = L.getD i 0 - 2) ∨ (∃ r q, r ≤ 8 ∧ q < 2 ^ r ∧ L.getD i 0 = tT V (12 - r) q ∧ f i = 254 + (2 ^ r - 1 + q))) := by
    refine ⟨fun i => if hi : i < L.length then Classical.choose (REL i hi) else 0, fun i hi => ?_⟩
    dsimp only
    rw [dif_pos hi]
    exact Classical.choose_spec (REL i hi)
  obtain ⟨f, hf⟩ := F
  refine fb_holes 765 L.length f (fun i hi => (hf i hi).1) (fun i j hij hj e => ?_)
  have hi : i < L.length := by omega
  have gi := ge2 i hi
  have gj := ge2 j hj
  have := inj i j hi hj
  rcases (hf i hi).2 with ⟨a1, a2⟩ | ⟨r, q, a1, a2, a3, a4⟩
  · rcases (hf j hj).2 with ⟨b1, b2⟩ | ⟨s, p, b1, b2, b3, b4⟩
    · exact absurd (this (by omega)) (by omega)
    · omega
  · rcases (hf j hj).2 with ⟨b1, b2⟩ | ⟨s, p, b1, b2, b3, b4⟩
    · omega
    · rcases Nat.lt_trichotomy r s with c | c | c
      · have : 2 ^ (r + 1) ≤ 2 ^ s := Nat.pow_le_pow_right (by decide) c
        rw [Nat.pow_succ] at this
        omega
      · subst c
        have e2 : q = p := by omega
        exact absurd (this (by rw [a3, b3, e2])) (by omega)
      · have : 2 ^ (s + 1) ≤ 2 ^ r := Nat.pow_le_pow_right (by decide) c
        rw [Nat.pow_succ] at this
        omega
/-- closed lists stay closed -/
theorem CLO.app {L : List Nat} {k a b : Nat} (h : CLO L) (hk : k ≤ 11) (ha : a < 2 ^ 2 ^ k) (hb : b < 2 ^ 2 ^ k) (h0 : b ≠ 0) (ia : inn L a) (ib : inn L b) (hn : a + 2 ^ 2 ^ k * b ∉ L) : CLO (L ++ [a + 2 ^ 2 ^ k * b]) := by
  obtain ⟨e1, e2, e3, e4, -⟩ := kk_of ha hb h0
  have up : ∀ t, inn L t → inn (L ++ [a + 2 ^ 2 ^ k * b]) t := fun t ht => ht.imp id (fun q => List.mem_append_left _ q)
  constructor
  · rw [List.nodup_append]
    refine ⟨h.1, List.nodup_cons.mpr ⟨List.not_mem_nil, List.nodup_nil⟩, fun x hx y hy => ?_⟩
    rw [List.mem_singleton] at hy
    intro e
    rw [e, hy] at hx
    exact hn hx
  · intro t ht
    rw [List.mem_append, List.mem_singleton] at ht
    rcases ht with ht | rfl
    · obtain ⟨x1, x2, x3, x4⟩ := h.2 t ht
      exact ⟨x1, x2, up _ x3, up _ x4⟩
    · rw [e1, e2, e3]
      exact ⟨e4, hk, up _ ia, up _ ib⟩
theorem po_clo {V : Nat → Bool} : ∀ (k q : Nat) (L : List Nat), k ≤ 12 → q < 2 ^ (12 - k) → CLO L → LBD V L → CLO (po k (tT V k q) L) ∧ LBD V (po k (tT V k q) L) ∧ (∀ t, t ∈ L → t ∈ po k (tT V k q) L) ∧ inn (po k (tT V k q) L) (tT V k q)
  | 0, q, L, _, _, h, hb => ⟨h, hb, fun _ x => x, Or.inl (tT_lt V 0 q)⟩
  | k + 1, q, L, hk, hq, h, hb => by
    have hq2 : 2 * q + 1 < 2 ^ (12 - k) := by
      rw [show 12 - k = (12 - (k + 1)) + 1 by omega, Nat.pow_succ]
      omega
    obtain ⟨a1, a2, a3, a4⟩ := po_clo (V := V) k (2 * q) L (by omega) (by omega) h hb
    obtain ⟨b1, b2, b3, b4⟩ := po_clo (V := V) k (2 * q + 1) _ (by omega) hq2 a1 a2
    obtain ⟨m1, m2⟩ := tT_mod V k q
    show CLO (if tT V (k + 1) q / 2 ^ 2 ^ k = 0 then _ else _) ∧ LBD V (if tT V (k + 1) q / 2 ^ 2 ^ k = 0 then _ else _) ∧ (∀ t, t ∈ L → t ∈ (if tT V (k + 1) q / 2 ^ 2 ^ k = 0 then _ else _)) ∧ inn (if tT V (k + 1) q / 2 ^ 2 ^ k = 0 then _ else _) _
    rw [m1, m2]
    have ia : inn (po k (tT V k (2 * q + 1)) (po k (tT V k (2 * q)) L)) (tT V k (2 * q)) := a4.imp id (b3 _)
    by_cases c0 : tT V k (2 * q + 1) = 0
    · rw [if_pos c0]
      refine ⟨b1, b2, fun t ht => b3 t (a3 t ht), ?_⟩
      have : tT V (k + 1) q = tT V k (2 * q) := by
        show tT V k (2 * q) + 2 ^ 2 ^ k * tT V k (2 * q + 1) = _
        rw [c0, Nat.mul_zero, Nat.add_zero]
      rw [this]
      exact ia
    · rw [if_neg c0]
      by_cases c1 : tT V (k + 1) q ∈ po k (tT V k (2 * q + 1)) (po k (tT V k (2 * q)) L)
      · rw [if_pos c1]
        exact ⟨b1, b2, fun t ht => b3 t (a3 t ht), Or.inr c1⟩
      · rw [if_neg c1]
        refine ⟨b1.app (by omega) (tT_lt V k (2 * q)) (tT_lt V k (2 * q + 1)) c0 ia b4 c1, fun t ht => ?_, fun t ht => List.mem_append_left _ (b3 t (a3 t ht)), Or.inr (List.mem_append_right _ (List.mem_singleton.mpr rfl))⟩
        rw [List.mem_append, List.mem_singleton] at ht
        rcases ht with ht | rfl
        · exact b2 t ht
        · exact ⟨k + 1, q, hk, hq, rfl⟩

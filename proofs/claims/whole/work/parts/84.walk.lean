/-! ===== searches: paths, rounds ===== -/
section WALK
variable {P R : Nat} {ld eA eB od : Nat → Nat} {wt : Nat → Int32}
def jns (eA eB : Nat → Nat) (i v w : Nat) : Prop := (eA i = v ∧ eB i = w) ∨ (eA i = w ∧ eB i = v)
/-- arrival at w, with so many steps left; going on from v -/
def ARR (R : Nat) (eA eB : Nat → Nat) (g : Nat) : Nat → Nat → Nat → Nat → Nat → Prop
  | 0, _, _, _, _ => False
  | d + 1, w, S, q, Q => (w = g ∧ Q = q) ∨ (w ≠ g ∧ ∃ i, i < R ∧ ∃ u, jns eA eB i w u ∧ S.testBit u = false ∧ ARR R eA eB g d u (S ||| 2 ^ u) (q ||| 2 ^ i) Q)
def GOO (R : Nat) (eA eB : Nat → Nat) (g d v S q Q : Nat) : Prop := ∃ i, i < R ∧ ∃ u, jns eA eB i v u ∧ S.testBit u = false ∧ ARR R eA eB g d u (S ||| 2 ^ u) (q ||| 2 ^ i) Q
theorem pop_mir : ∀ m, m < 4096 → J6m_bitCount_0f7a4 (nI (mir m)) = nI (fb_ct (fun i => m.testBit i) 12) := all4096 (P := fun m => J6m_bitCount_0f7a4 (nI (mir m)) = nI (fb_ct (fun i => m.testBit i) 12)) (by decide +kernel)
theorem mir_orr {m r : Nat} (hr : r < 12) (hm : m < 4096) : nI (mir m) ||| D2m_placeOf (nI r) = nI (mir (m ||| 2 ^ r)) := by
  have hp : 2 ^ r ≤ 2 ^ 11 := Nat.pow_le_pow_right (by decide) (by omega)
  rw [placeOf_n r hr, fa_or, mir_or hm (by omega), mir_2 r hr]
def WKS (k g least : Nat) (z z' : DZ) (T : Nat → Prop) : Prop := SP k z z' (fun x => ∃ Q, Q < 4096 ∧ T Q ∧ least ≤ fb_ct (fun i => Q.testBit i) 12 ∧ x = mir Q)
theorem loop_n (n1 : NW P R ld eA eB od wt) {k g least d : Nat} {rf : DZ → Int32 → Int32 → Int32 → Int32 → Option DZ} {e : Int32} {v S q : Nat} (hv : v < P) (hS : S < 256) (hq : q < 4096)
    (hrf : ∀ (z : DZ) (u S' q' : Nat), u < P → S' < 256 → q' < 4096 → CN z.1 P R ld eA eB od wt → z.2 2 = nI g → z.2 3 = nI least → ∃ z', rf z (nI u) (nI S') (nI (mir q')) (e + 1) = some z' ∧ WKS k g least z z' (ARR R eA eB g d u S' q'))
    (z : DZ) (hc : CN z.1 P R ld eA eB od wt) (h2 : z.2 2 = nI g) (h3 : z.2 3 = nI least) : ∃ z', it2 (D4s_walk_44 rf k (nI v) (nI S) (nI (mir q)) e (fun t => some t)) fuel (0 : Int32) z = some z' ∧ WKS k g least z z' (GOO R eA eB g d v S q) := by
  have hP := n1.1
  have hR := n1.2.1
  refine it2_ind (f := D4s_walk_44 rf k (nI v) (nI S) (nI (mir q)) e (fun t => some t)) (P := fun n x t => ∃ j, j + n = R ∧ x = nI j ∧ WKS k g least z t (fun Q => ∃ i, i < j ∧ ∃ u, jns eA eB i v u ∧ S.testBit u = false ∧ ARR R eA eB g d u (S ||| 2 ^ u) (q ||| 2 ^ i) Q)) (Q := fun o => ∃ z', o = some z' ∧ WKS k g least z z' (GOO R eA eB g d v S q)) ?_ fuel R (0 : Int32) z (by unfold fuel; omega) ⟨0, by omega, rfl, SP.no (by rintro x hx ⟨Q, -, ⟨i, hi, -⟩, -⟩; exact absurd hi (Nat.not_lt_zero i))⟩
  rintro n x t rc ⟨j, hj, rfl, sp⟩ ih
  have hct : CN t.1 P R ld eA eB od wt := hc.to sp.2.1 (fun c h => by have : c = 79 + k := h; omega)
  unfold D4s_walk_44
  rw [hct.2.1]
  by_cases c : j = R
  · subst c
    rw [if_pos (nI_le (Nat.le_refl _) (by omega))]
    exact ⟨t, rfl, sp⟩
  · have hjR : j < R := by omega
    obtain ⟨y1, y2, y3⟩ := n1.e8 hjR
    have hAB := n1.2.2.2.1 j hjR
    have stay : (∀ u, jns eA eB j v u → S.testBit u = true) → WKS k g least z t (fun Q => ∃ i, i < j + 1 ∧ ∃ u, jns eA eB i v u ∧ S.testBit u = false ∧ ARR R eA eB g d u (S ||| 2 ^ u) (q ||| 2 ^ i) Q) := fun hno => sp.cg (by
      intro x hx
      constructor
      · rintro ⟨Q, h1, ⟨i, hi, u, a1, a2, a3⟩, h4⟩
        by_cases e : i = j
        · subst e; rw [hno u a1] at a2; exact absurd a2 (by decide)
        · exact ⟨Q, h1, ⟨i, by omega, u, a1, a2, a3⟩, h4⟩
      · rintro ⟨Q, h1, ⟨i, hi, a⟩, h4⟩
        exact ⟨Q, h1, ⟨i, by omega, a⟩, h4⟩)
    have key : ∀ u, u < P → jns eA eB j v u → (∀ u', jns eA eB j v u' → u' = u) → ∃ z', (if nI u < (0 : Int32) then rc (nI j + (1 : Int32)) t else (if (nI S &&& ((1 : Int32) <<< (nI u &&& 31))) = (0 : Int32) then (b1 (rf t (nI u) (nI S ||| ((1 : Int32) <<< (nI u &&& 31))) (nI (mir q) ||| (D2m_placeOf (nI j))) (e + (1 : Int32))) (fun τ_9 => rc (nI j + (1 : Int32)) τ_9)) else (rc (nI j + (1 : Int32)) t))) = some z' ∧ WKS k g least z z' (GOO R eA eB g d v S q) := fun u hu ju huniq => by
      have p2 : 2 ^ u ≤ 2 ^ 7 := Nat.pow_le_pow_right (by decide) (by omega)
      rw [if_neg (show ¬ nI u < (0 : Int32) from nI_nlt (b := 0) (Nat.zero_le _) (by omega)), shl1 (by omega), fa_or, mir_orr (by omega) hq, pl1]
      cases hb : S.testBit u with
      | false =>
        rw [if_pos ((fa_bit (by omega)).mpr hb)]
        have hpj : 2 ^ j ≤ 2 ^ 11 := Nat.pow_le_pow_right (by decide) (by omega)
        obtain ⟨t', e', sp'⟩ := hrf t u (S ||| 2 ^ u) (q ||| 2 ^ j) hu (Nat.or_lt_two_pow (n := 8) hS (by omega)) (Nat.or_lt_two_pow (n := 12) hq (by omega)) hct (by rw [sp.1]; exact h2) (by rw [sp.1]; exact h3)
        rw [e', b1_s]
        refine ih (n - 1) _ _ (by omega) ⟨j + 1, by omega, rfl, SP.tr sp sp' (fun x hx => ?_)⟩
        constructor
        · rintro ⟨Q, h1, ⟨i, hi, u', a1, a2, a3⟩, h4⟩
          by_cases e : i = j
          · subst e
            rw [huniq u' a1] at a3
            exact Or.inr ⟨Q, h1, a3, h4⟩
          · exact Or.inl ⟨Q, h1, ⟨i, by omega, u', a1, a2, a3⟩, h4⟩
        · rintro (⟨Q, h1, ⟨i, hi, a⟩, h4⟩ | ⟨Q, h1, a, h4⟩)
          · exact ⟨Q, h1, ⟨i, by omega, a⟩, h4⟩
          · exact ⟨Q, h1, ⟨j, by omega, u, ju, hb, a⟩, h4⟩
      | true =>
        rw [if_neg (fun q => by rw [fa_bit (by omega), hb] at q; exact absurd q (by decide))]
        exact ih (n - 1) _ _ (by omega) ⟨j + 1, by omega, rfl, stay (fun u' h' => by rw [huniq u' h']; exact hb)⟩
    rw [if_neg (nI_ge hjR (by omega)), beyond_n n1 hct hjR (by omega), b1_s]
    by_cases c1 : eA j = v
    · rw [if_pos c1]
      exact key (eB j) (by omega) (Or.inl ⟨c1, rfl⟩) (fun u' h' => by rcases h' with h' | h' <;> omega)
    · rw [if_neg c1]
      by_cases c2 : eB j = v
      · rw [if_pos c2]
        exact key (eA j) (by omega) (Or.inr ⟨rfl, c2⟩) (fun u' h' => by rcases h' with h' | h' <;> omega)
      · rw [if_neg c2, if_pos (by decide), pl1]
        exact ih (n - 1) _ _ (by omega) ⟨j + 1, by omega, rfl, stay (fun u' h' => by rcases h' with h' | h' <;> omega)⟩
theorem arr_n (n1 : NW P R ld eA eB od wt) (k g least : Nat) (hg : g < 8) (hl : least < 100) : ∀ (d e n : Nat) (z : DZ) (w S q : Nat), e + d = 9 → 1 ≤ e → d < n → w < P → S < 256 → q < 4096 → CN z.1 P R ld eA eB od wt → z.2 2 = nI g → z.2 3 = nI least →
    ∃ z', D4m_walk k n z (nI w) (nI S) (nI (mir q)) (nI e) = some z' ∧ WKS k g least z z' (ARR R eA eB g d w S q) := by
  have hP := n1.1
  intro d
  induction d with
  | zero =>
    intro e n z w S q he h1 hn hw hS hq hc h2 h3
    obtain ⟨n, rfl⟩ : ∃ q, n = q + 1 := ⟨n - 1, by omega⟩
    show ∃ z', D4b_walk k (it5 (D4b_walk k) n) z _ _ _ _ = some z' ∧ _
    unfold D4b_walk
    rw [if_neg (show ¬ nI e ≤ (8 : Int32) from nI_ge (a := 8) (by omega) (by omega))]
    exact ⟨z, rfl, SP.no (by rintro x hx ⟨Q, -, h, -⟩; exact h)⟩
  | succ d ih =>
    intro e n z w S q he h1 hn hw hS hq hc h2 h3
    obtain ⟨n, rfl⟩ : ∃ q, n = q + 1 := ⟨n - 1, by omega⟩
    show ∃ z', D4b_walk k (it5 (D4b_walk k) n) z _ _ _ _ = some z' ∧ _
    have e0 : ∀ (s : DZ) (a b c d : Int32), it5 (D4b_walk k) n s a b c d = D4m_walk k n s a b c d := fun _ _ _ _ _ => rfl
    generalize it5 (D4b_walk k) n = rf at e0 ⊢
    unfold D4b_walk
    rw [if_pos (show nI e ≤ (8 : Int32) from nI_le (b := 8) (by omega) (by decide)), if_neg (show ¬ nI e ≤ (0 : Int32) from nI_ge (a := 0) h1 (by omega)), h2]
    by_cases c : w = g
    · rw [if_pos (congrArg nI c), h3, pop_mir q hq]
      have hct := fb_ct_le (fun i => q.testBit i) 12
      by_cases l : fb_ct (fun i => q.testBit i) 12 < least
      · rw [if_pos (nI_lt l (by omega))]
        refine ⟨z, rfl, SP.no ?_⟩
        rintro x hx ⟨Q, -, h, h', -⟩
        rcases h with h | h
        · rw [h.2] at h'; omega
        · exact h.1 c
      · rw [if_neg (nI_nlt (by omega) (by omega))]
        obtain ⟨s, es, sp⟩ := SP.put (k := k) (z := z) (mir_lt hq)
        refine ⟨(s, z.2), by rw [es, b1_s, nm_s], SP.cg sp (fun x hx => ?_)⟩
        constructor
        · rintro ⟨Q, -, h, -, h'⟩
          rcases h with h | h
          · rw [h'] ; exact congrArg mir h.2
          · exact absurd c h.1
        · intro h
          exact ⟨q, hq, Or.inl ⟨c, rfl⟩, by omega, h⟩
    · rw [if_neg (fun q => c ((nI_eq (by omega) (by omega)).mp q))]
      obtain ⟨z', e', sp⟩ := loop_n n1 (k := k) (g := g) (least := least) (d := d) (rf := rf) (e := nI e) (v := w) (S := S) (q := q) hw hS hq (fun z u S' q' hu hS' hq' hc' h2' h3' => by
        rw [e0, pl1]
        exact ih (e + 1) n z u S' q' (by omega) (by omega) (by omega) hu hS' hq' hc' h2' h3') z hc h2 h3
      refine ⟨z', e', SP.cg sp (fun x hx => ?_)⟩
      constructor
      · rintro ⟨Q, h1, h, h'⟩
        rcases h with h | h
        · exact absurd h.1 c
        · exact ⟨Q, h1, h.2, h'⟩
      · rintro ⟨Q, h1, h, h'⟩
        exact ⟨Q, h1, Or.inr ⟨c, h⟩, h'⟩
theorem walk_s (k n : Nat) (z : DZ) (a b c d : Int32) : D4m_walk k (n + 1) z a b c d = D4b_walk k (it5 (D4b_walk k) n) z a b c d := rfl
/-- a walk from its start -/
theorem walk_n (n1 : NW P R ld eA eB od wt) (k g least : Nat) (hg : g < 8) (hl : least < 100) {z : DZ} {v S : Nat} (hv : v < P) (hS : S < 256) (hc : CN z.1 P R ld eA eB od wt) (h2 : z.2 2 = nI g) (h3 : z.2 3 = nI least) :
    ∃ z', D4m_walk k 24 z (nI v) (nI S) (0 : Int32) (0 : Int32) = some z' ∧ WKS k g least z z' (GOO R eA eB g 8 v S 0) := by
  have gen : ∀ n, 8 < n → ∃ z', D4m_walk k (n + 1) z (nI v) (nI S) (0 : Int32) (0 : Int32) = some z' ∧ WKS k g least z z' (GOO R eA eB g 8 v S 0) := fun n hn => by
    rw [walk_s]
    have e0 : ∀ (s : DZ) (a b c d : Int32), it5 (D4b_walk k) n s a b c d = D4m_walk k n s a b c d := fun _ _ _ _ _ => rfl
    generalize it5 (D4b_walk k) n = rf at e0 ⊢
    unfold D4b_walk
    rw [if_pos (by decide), if_pos (by decide)]
    exact loop_n n1 (k := k) (g := g) (least := least) (d := 8) (rf := rf) (e := (0 : Int32)) (v := v) (S := S) (q := 0) hv hS (by decide) (fun z u S' q' hu hS' hq' hc' h2' h3' => by
      rw [e0]
      exact arr_n n1 k g least hg hl 8 1 n z u S' q' (by decide) (by decide) hn hu hS' hq' hc' h2' h3') z hc h2 h3
  exact gen 23 (by decide)
end WALK

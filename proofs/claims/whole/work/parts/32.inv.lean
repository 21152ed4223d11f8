/-! ===== what class and reference have in common ===== -/
/-- the bit of a place in the words of Ways number k -/
def wb (σ : DS) (k p : Nat) : Bool := (σ.2.2 (79 + k) (p / 64)).toBitVec.getLsbD (p % 64)
/-- twelve bits read backwards -/
def mir (m : Nat) : Nat := (List.range 12).foldl (fun v r => 2 * v + (m >>> r) % 2) 0
/-- a net -/
def NW (P R : Nat) (ld eA eB od : Nat → Nat) (wt : Nat → Int32) : Prop :=
  P ≤ 8 ∧ R ≤ 12 ∧ (∀ p, p < P → ld p ≤ 99) ∧ (∀ r, r < R → eA r < eB r ∧ eB r < P ∧ od r ≤ 8 ∧ -50 ≤ (wt r).toInt ∧ (wt r).toInt ≤ 50) ∧ (∀ r s, r < R → s < R → eA r = eA s → eB r = eB s → r = s)
def CN (σ : DS) (P R : Nat) (ld eA eB od : Nat → Nat) (wt : Nat → Int32) : Prop :=
  σ.1 1 0 = nI P ∧ σ.1 1 1 = nI R ∧ (∀ p, p < P → σ.2.1 2 p = nI (ld p)) ∧ ∀ r, r < R → σ.2.1 3 r = nI (eA r) ∧ σ.2.1 4 r = nI (eB r) ∧ σ.2.1 5 r = wt r ∧ σ.2.1 6 r = nI (od r)
def RN (τ : RS) (P R : Nat) (ld eA eB od : Nat → Nat) (wt : Nat → Int32) : Prop :=
  τ.1 0 = nI P ∧ τ.1 2 = nI R ∧ (∀ p, p < P → τ.2 1 p = nI (ld p)) ∧ ∀ r, r < R → τ.2 3 (2 * r) = nI (eA r) ∧ τ.2 3 (2 * r + 1) = nI (eB r) ∧ τ.2 4 r = wt r ∧ τ.2 5 r = nI (od r)
/-- the families: how many, their kinds, their ways as masks -/
def CF (σ : DS) (F : Nat) (kd : Nat → Nat) (W : Nat → Nat → Bool) : Prop :=
  σ.1 0 2 = nI F ∧ ∀ f, f < F → σ.1 (47 + f) 0 = nI (kd f) ∧ ∀ m, m < 4096 → wb σ f (mir m) = W f m
def RF (τ : RS) (F : Nat) (kd : Nat → Nat) (W : Nat → Nat → Bool) : Prop :=
  τ.1 6 = nI F ∧ ∀ f, f < F → τ.2 7 f = nI (kd f) ∧ ∀ m, m < 4096 → τ.2 8 (4096 * f + m) = bI (W f m)
def FW (F : Nat) (kd : Nat → Nat) : Prop := F ≤ 30 ∧ ∀ f, f < F → kd f ≤ 5
/-- sheets and shelves -/
def HST (σ : DS) (τ : RS) : Prop := ∀ k, k < 6 → ((σ.2.1 34 k = τ.2 11 k ∧ -1 ≤ (τ.2 11 k).toInt ∧ (τ.2 11 k).toInt ≤ 2) ∧ (∃ n, n ≤ 40 ∧ σ.2.1 35 k = nI n ∧ τ.2 12 k = nI n) ∧ (∀ i, i < 40 → σ.2.1 (37 + k) i = τ.2 13 (40 * k + i))) ∧
  ((τ.2 14 k = 0 ∧ σ.2.1 43 k = -1) ∨ (∃ c, c ≤ 5 ∧ τ.2 14 k = 1 ∧ τ.2 15 k = nI c ∧ σ.2.1 43 k = nI c ∧ σ.2.1 44 k = τ.2 16 k) ∨ (∃ c, c ≤ 2 ∧ τ.2 14 k = nI (2 + c) ∧ σ.2.1 43 k = nI (6 + c) ∧ σ.2.1 44 k = τ.2 16 k))
/-- the rows -/
def RWS (σ : DS) (τ : RS) : Prop := ∃ N, N ≤ 765 ∧ σ.1 17 0 = nI N ∧ τ.1 9 = nI N ∧ ∀ i, i < N → ∀ w, w < 4 → σ.2.1 (19 + w) i = τ.2 10 (4 * i + w)
/-- the trace -/
def ACT (σ : DS) (τ : RS) : Prop := ∃ t, t ≤ 1000 ∧ σ.1 45 0 = nI t ∧ τ.1 18 = nI t ∧ ∀ i, i < t → i < 40 → σ.2.1 46 i = τ.2 17 i
def AUX (σ : DS) (τ : RS) : Prop := (σ.2.1 11 0 = 0 ∧ σ.2.1 12 0 = 0) ∧ ∀ j, (τ.2 8 j = 0 ∨ τ.2 8 j = 1) ∧ (τ.2 20 j = 0 ∨ τ.2 20 j = 1) ∧ (τ.2 21 j = 0 ∨ τ.2 21 j = 1)
def INV (σ : DS) (τ : RS) : Prop :=
  (∃ (P R : Nat) (ld eA eB od : Nat → Nat) (wt : Nat → Int32), NW P R ld eA eB od wt ∧ CN σ P R ld eA eB od wt ∧ RN τ P R ld eA eB od wt) ∧
  (∃ (F : Nat) (kd : Nat → Nat) (W : Nat → Nat → Bool), FW F kd ∧ CF σ F kd W ∧ RF τ F kd W) ∧ HST σ τ ∧ RWS σ τ ∧ ACT σ τ ∧ AUX σ τ
/-! ===== what is left as it was ===== -/
def dK_ (C : Nat → Prop) (σ σ' : DS) : Prop := ∀ c, ¬ C c → σ'.1 c = σ.1 c ∧ σ'.2.1 c = σ.2.1 c ∧ σ'.2.2 c = σ.2.2 c
def rK_ (C : Nat → Prop) (τ τ' : RS) : Prop := ∀ k, ¬ C k → τ'.1 k = τ.1 k ∧ τ'.2 k = τ.2 k
theorem dK_.rf {C : Nat → Prop} {σ : DS} : dK_ C σ σ := fun _ _ => ⟨rfl, rfl, rfl⟩
theorem rK_.rf {C : Nat → Prop} {τ : RS} : rK_ C τ τ := fun _ _ => ⟨rfl, rfl⟩
theorem dK_.tr {C : Nat → Prop} {a b c : DS} (h1 : dK_ C a b) (h2 : dK_ C b c) : dK_ C a c := fun x hx =>
  ⟨(h2 x hx).1.trans (h1 x hx).1, (h2 x hx).2.1.trans (h1 x hx).2.1, (h2 x hx).2.2.trans (h1 x hx).2.2⟩
theorem rK_.tr {C : Nat → Prop} {a b c : RS} (h1 : rK_ C a b) (h2 : rK_ C b c) : rK_ C a c := fun x hx =>
  ⟨(h2 x hx).1.trans (h1 x hx).1, (h2 x hx).2.trans (h1 x hx).2⟩
theorem dK_.mo {C C' : Nat → Prop} {a b : DS} (h : dK_ C a b) (hc : ∀ x, C x → C' x) : dK_ C' a b := fun x hx => h x (fun q => hx (hc x q))
theorem rK_.mo {C C' : Nat → Prop} {a b : RS} (h : rK_ C a b) (hc : ∀ x, C x → C' x) : rK_ C' a b := fun x hx => h x (fun q => hx (hc x q))
theorem dS_1 {σ : DS} {c f : Nat} {v : Int32} {j : Nat} (h : j ≠ c) : (dS σ c f v).1 j = σ.1 j := if_neg h
theorem dS_s {σ : DS} {c f : Nat} {v : Int32} : (dS σ c f v).1 c f = v := by unfold dS; simp
theorem dS_n {σ : DS} {c f g : Nat} {v : Int32} (h : g ≠ f) : (dS σ c f v).1 c g = σ.1 c g := by unfold dS; simp [h]
theorem dA_1 {σ : DS} {c f : Nat} {v : Int32} {j : Nat} (h : j ≠ c) : (dA σ c f v).2.1 j = σ.2.1 j := if_neg h
theorem dA_s {σ : DS} {c f : Nat} {v : Int32} : (dA σ c f v).2.1 c f = v := by unfold dA; simp [upd]
theorem dA_n {σ : DS} {c f g : Nat} {v : Int32} (h : g ≠ f) : (dA σ c f v).2.1 c g = σ.2.1 c g := by unfold dA; simp [upd, h]
theorem dJ_1 {σ : DS} {c f : Nat} {v : Int64} {j : Nat} (h : j ≠ c) : (dJ σ c f v).2.2 j = σ.2.2 j := if_neg h
theorem dJ_s {σ : DS} {c f : Nat} {v : Int64} : (dJ σ c f v).2.2 c f = v := by unfold dJ; simp [vp_updL]
theorem dJ_n {σ : DS} {c f g : Nat} {v : Int64} (h : g ≠ f) : (dJ σ c f v).2.2 c g = σ.2.2 c g := by unfold dJ; simp [vp_updL, h]
theorem dK_S {C : Nat → Prop} {σ : DS} {c f : Nat} {v : Int32} (h : C c) : dK_ C σ (dS σ c f v) := fun x hx => ⟨dS_1 (fun e => hx (e ▸ h)), rfl, rfl⟩
theorem dK_A {C : Nat → Prop} {σ : DS} {c f : Nat} {v : Int32} (h : C c) : dK_ C σ (dA σ c f v) := fun x hx => ⟨rfl, dA_1 (fun e => hx (e ▸ h)), rfl⟩
theorem dK_J {C : Nat → Prop} {σ : DS} {c f : Nat} {v : Int64} (h : C c) : dK_ C σ (dJ σ c f v) := fun x hx => ⟨rfl, rfl, dJ_1 (fun e => hx (e ▸ h))⟩
theorem rS_1 {τ : RS} {k j : Nat} {v : Int32} (h : j ≠ k) : (rS τ k v).1 j = τ.1 j := if_neg h
theorem rS_s {τ : RS} {k : Nat} {v : Int32} : (rS τ k v).1 k = v := if_pos rfl
theorem rA_1 {τ : RS} {k i j : Nat} {v : Int32} (h : j ≠ k) : (rA τ k i v).2 j = τ.2 j := if_neg h
theorem rA_s {τ : RS} {k i : Nat} {v : Int32} : (rA τ k i v).2 k i = v := by unfold rA; simp [upd]
theorem rA_n {τ : RS} {k i g : Nat} {v : Int32} (h : g ≠ i) : (rA τ k i v).2 k g = τ.2 k g := by unfold rA; simp [upd, h]
theorem rK_S {C : Nat → Prop} {τ : RS} {k : Nat} {v : Int32} (h : C k) : rK_ C τ (rS τ k v) := fun x hx => ⟨rS_1 (fun e => hx (e ▸ h)), rfl⟩
theorem rK_A {C : Nat → Prop} {τ : RS} {k i : Nat} {v : Int32} (h : C k) : rK_ C τ (rA τ k i v) := fun x hx => ⟨rfl, rA_1 (fun e => hx (e ▸ h))⟩
theorem CN.to {σ σ' : DS} {P R : Nat} {ld eA eB od : Nat → Nat} {wt : Nat → Int32} (h : CN σ P R ld eA eB od wt) {C : Nat → Prop} (k : dK_ C σ σ') (hC : ∀ c, C c → c < 1 ∨ 6 < c) : CN σ' P R ld eA eB od wt := by
  have q : ∀ c, 1 ≤ c → c ≤ 6 → σ'.1 c = σ.1 c ∧ σ'.2.1 c = σ.2.1 c := fun c h1 h2 => by
    have := k c (fun hc => by have := hC c hc; omega)
    exact ⟨this.1, this.2.1⟩
  unfold CN at *
  rw [(q 1 (by omega) (by omega)).1, (q 2 (by omega) (by omega)).2, (q 3 (by omega) (by omega)).2, (q 4 (by omega) (by omega)).2, (q 5 (by omega) (by omega)).2, (q 6 (by omega) (by omega)).2]
  exact h
theorem RN.to {τ τ' : RS} {P R : Nat} {ld eA eB od : Nat → Nat} {wt : Nat → Int32} (h : RN τ P R ld eA eB od wt) {C : Nat → Prop} (k : rK_ C τ τ') (hC : ∀ c, C c → 5 < c) : RN τ' P R ld eA eB od wt := by
  have q : ∀ c, c ≤ 5 → τ'.1 c = τ.1 c ∧ τ'.2 c = τ.2 c := fun c h2 => k c (fun hc => by have := hC c hc; omega)
  unfold RN at *
  rw [(q 0 (by omega)).1, (q 2 (by omega)).1, (q 1 (by omega)).2, (q 3 (by omega)).2, (q 4 (by omega)).2, (q 5 (by omega)).2]
  exact h
theorem CF.to {σ σ' : DS} {F : Nat} {kd : Nat → Nat} {W : Nat → Nat → Bool} (h : CF σ F kd W) (hF : F ≤ 30) {C : Nat → Prop} (k : dK_ C σ σ') (hC : ∀ c, C c → ¬ c = 0 ∧ (c < 47 ∨ 47 + F ≤ c) ∧ (c < 79 ∨ 79 + F ≤ c)) : CF σ' F kd W := by
  refine ⟨by rw [(k 0 (fun hc => (hC 0 hc).1 rfl)).1]; exact h.1, fun f hf => ?_⟩
  have e1 := k (47 + f) (fun hc => by have := hC _ hc; omega)
  have e2 := k (79 + f) (fun hc => by have := hC _ hc; omega)
  refine ⟨by rw [e1.1]; exact (h.2 f hf).1, fun m hm => ?_⟩
  have := (h.2 f hf).2 m hm
  unfold wb at *
  rw [e2.2.2]
  exact this
theorem RF.to {τ τ' : RS} {F : Nat} {kd : Nat → Nat} {W : Nat → Nat → Bool} (h : RF τ F kd W) {C : Nat → Prop} (k : rK_ C τ τ') (hC : ∀ c, C c → c < 6 ∨ 8 < c) : RF τ' F kd W := by
  have q : ∀ c, 6 ≤ c → c ≤ 8 → τ'.1 c = τ.1 c ∧ τ'.2 c = τ.2 c := fun c h1 h2 => k c (fun hc => by have := hC c hc; omega)
  unfold RF at *
  rw [(q 6 (by omega) (by omega)).1, (q 7 (by omega) (by omega)).2, (q 8 (by omega) (by omega)).2]
  exact h
theorem HST.to {σ σ' : DS} {τ τ' : RS} (h : HST σ τ) {C E : Nat → Prop} (k : dK_ C σ σ') (hC : ∀ c, C c → c < 34 ∨ 44 < c) (r : rK_ E τ τ') (hE : ∀ c, E c → c < 11 ∨ 16 < c) : HST σ' τ' := by
  have q : ∀ c, 34 ≤ c → c ≤ 44 → σ'.2.1 c = σ.2.1 c := fun c h1 h2 => (k c (fun hc => by have := hC c hc; omega)).2.1
  have q2 : ∀ c, 11 ≤ c → c ≤ 16 → τ'.2 c = τ.2 c := fun c h1 h2 => (r c (fun hc => by have := hE c hc; omega)).2
  intro j hj
  have := h j hj
  rw [q 34 (by omega) (by omega), q 35 (by omega) (by omega), q (37 + j) (by omega) (by omega), q 43 (by omega) (by omega), q 44 (by omega) (by omega), q2 11 (by omega) (by omega), q2 12 (by omega) (by omega), q2 13 (by omega) (by omega), q2 14 (by omega) (by omega), q2 15 (by omega) (by omega), q2 16 (by omega) (by omega)]
  exact this
theorem RWS.to {σ σ' : DS} {τ τ' : RS} (h : RWS σ τ) {C E : Nat → Prop} (k : dK_ C σ σ') (hC : ∀ c, C c → c < 17 ∨ 22 < c) (r : rK_ E τ τ') (hE : ∀ c, E c → c < 9 ∨ 10 < c) : RWS σ' τ' := by
  have q : ∀ c, 17 ≤ c → c ≤ 22 → σ'.1 c = σ.1 c ∧ σ'.2.1 c = σ.2.1 c := fun c h1 h2 => by
    have := k c (fun hc => by have := hC c hc; omega)
    exact ⟨this.1, this.2.1⟩
  have q2 : ∀ c, 9 ≤ c → c ≤ 10 → τ'.1 c = τ.1 c ∧ τ'.2 c = τ.2 c := fun c h1 h2 => r c (fun hc => by have := hE c hc; omega)
  obtain ⟨N, h1, h2, h3, h4⟩ := h
  refine ⟨N, h1, by rw [(q 17 (by omega) (by omega)).1]; exact h2, by rw [(q2 9 (by omega) (by omega)).1]; exact h3, fun i hi w hw => ?_⟩
  rw [(q (19 + w) (by omega) (by omega)).2, (q2 10 (by omega) (by omega)).2]
  exact h4 i hi w hw
theorem ACT.to {σ σ' : DS} {τ τ' : RS} (h : ACT σ τ) {C E : Nat → Prop} (k : dK_ C σ σ') (hC : ∀ c, C c → c < 45 ∨ 46 < c) (r : rK_ E τ τ') (hE : ∀ c, E c → c < 17 ∨ 18 < c) : ACT σ' τ' := by
  obtain ⟨t, h1, h2, h3, h4⟩ := h
  have a := k 45 (fun hc => by have := hC _ hc; omega)
  have b := k 46 (fun hc => by have := hC _ hc; omega)
  have c := r 17 (fun hc => by have := hE _ hc; omega)
  have d := r 18 (fun hc => by have := hE _ hc; omega)
  exact ⟨t, h1, by rw [a.1]; exact h2, by rw [d.1]; exact h3, fun i hi hi2 => by rw [b.2.1, c.2]; exact h4 i hi hi2⟩
/-! the scratch cells -/
def dScr (F c : Nat) : Prop := c = 8 ∨ (10 ≤ c ∧ c ≤ 16) ∨ (25 ≤ c ∧ c ≤ 32) ∨ (47 + F ≤ c ∧ c < 79) ∨ 79 + F ≤ c
def rScr (k : Nat) : Prop := 19 ≤ k
/-- calls that leave all but scratch as it was -/
theorem INV.scr {σ σ' : DS} {τ τ' : RS} (h : INV σ τ) (k : ∀ F, σ.1 0 2 = nI F → F ≤ 30 → dK_ (dScr F) σ σ') (r : rK_ rScr τ τ') (ha : AUX σ' τ') : INV σ' τ' := by
  obtain ⟨⟨P, R, ld, eA, eB, od, wt, n1, n2, n3⟩, ⟨F, kd, W, f1, f2, f3⟩, h3, h4, h5, h6⟩ := h
  have k := k F f2.1 f1.1
  have hF := f1.1
  refine ⟨⟨P, R, ld, eA, eB, od, wt, n1, n2.to k (fun c hc => ?_), n3.to r (fun c hc => ?_)⟩, ⟨F, kd, W, f1, f2.to hF k (fun c hc => ?_), f3.to r (fun c hc => ?_)⟩, h3.to k (fun c hc => ?_) r (fun c hc => ?_), h4.to k (fun c hc => ?_) r (fun c hc => ?_), h5.to k (fun c hc => ?_) r (fun c hc => ?_), ha⟩ <;> simp only [dScr, rScr] at hc <;> omega
/-- calls that make a family -/
theorem INV.made {σ σ' : DS} {τ τ' : RS} {F : Nat} {kd : Nat → Nat} {W : Nat → Nat → Bool} (h : INV σ τ) (hF : F < 30) (hf : FW F kd ∧ CF σ F kd W ∧ RF τ F kd W) (k : dK_ (fun c => c = 0 ∨ dScr F c) σ σ') (r : rK_ (fun c => c = 6 ∨ c = 7 ∨ c = 8 ∨ rScr c) τ τ') (ha : AUX σ' τ')
    (kn : Nat) (w : Nat → Bool) (hk : kn ≤ 5) (s1 : σ'.1 0 2 = nI (F + 1)) (s2 : σ'.1 (47 + F) 0 = nI kn) (s3 : ∀ m, m < 4096 → wb σ' F (mir m) = w m)
    (t1 : τ'.1 6 = nI (F + 1)) (t2 : τ'.2 7 F = nI kn) (t3 : ∀ f, f < F → τ'.2 7 f = τ.2 7 f) (t4 : ∀ m, m < 4096 → τ'.2 8 (4096 * F + m) = bI (w m)) (t5 : ∀ j, j < 4096 * F → τ'.2 8 j = τ.2 8 j) : INV σ' τ' := by
  obtain ⟨f1, f2, f3⟩ := hf
  obtain ⟨⟨P, R, ld, eA, eB, od, wt, n1, n2, n3⟩, -, h3, h4, h5, h6⟩ := h
  refine ⟨⟨P, R, ld, eA, eB, od, wt, n1, n2.to k (fun c hc => ?_), n3.to r (fun c hc => ?_)⟩, ⟨F + 1, fun f => if f = F then kn else kd f, fun f => if f = F then w else W f, ⟨by omega, fun f hf => ?_⟩, ⟨s1, fun f hf => ?_⟩, ⟨t1, fun f hf => ?_⟩⟩, h3.to k (fun c hc => ?_) r (fun c hc => ?_), h4.to k (fun c hc => ?_) r (fun c hc => ?_), h5.to k (fun c hc => ?_) r (fun c hc => ?_), ha⟩
  case refine_3 =>
    dsimp only
    by_cases e : f = F
    · rw [if_pos e]; exact hk
    · rw [if_neg e]; exact f1.2 f (by omega)
  case refine_4 =>
    dsimp only
    by_cases e : f = F
    · subst e
      rw [if_pos rfl, if_pos rfl]
      exact ⟨s2, s3⟩
    · rw [if_neg e, if_neg e]
      have e1 := k (47 + f) (fun hc => by unfold dScr at hc; omega)
      have e2 := k (79 + f) (fun hc => by unfold dScr at hc; omega)
      refine ⟨by rw [e1.1]; exact (f2.2 f (by omega)).1, fun m hm => ?_⟩
      have := (f2.2 f (by omega)).2 m hm
      unfold wb at *
      rw [e2.2.2]
      exact this
  case refine_5 =>
    dsimp only
    by_cases e : f = F
    · subst e
      rw [if_pos rfl, if_pos rfl]
      exact ⟨t2, t4⟩
    · rw [if_neg e, if_neg e]
      refine ⟨by rw [t3 f (by omega)]; exact (f3.2 f (by omega)).1, fun m hm => ?_⟩
      rw [t5 _ (by omega)]
      exact (f3.2 f (by omega)).2 m hm
  all_goals simp only [dScr, rScr] at hc <;> omega
theorem INV.net {σ σ' : DS} {τ τ' : RS} (h : INV σ τ) (k : dK_ (fun c => 1 ≤ c ∧ c ≤ 6) σ σ') (r : rK_ (fun c => c ≤ 5) τ τ') {P R : Nat} {ld eA eB od : Nat → Nat} {wt : Nat → Int32} (n1 : NW P R ld eA eB od wt) (n2 : CN σ' P R ld eA eB od wt) (n3 : RN τ' P R ld eA eB od wt) : INV σ' τ' := by
  obtain ⟨-, ⟨F, kd, W, f1, f2, f3⟩, h3, h4, h5, h6⟩ := h
  refine ⟨⟨P, R, ld, eA, eB, od, wt, n1, n2, n3⟩, ⟨F, kd, W, f1, f2.to f1.1 k (fun c hc => by omega), f3.to r (fun c hc => by omega)⟩, h3.to k (fun c hc => by omega) r (fun c hc => by omega), h4.to k (fun c hc => by omega) r (fun c hc => by omega), h5.to k (fun c hc => by omega) r (fun c hc => by omega), ?_⟩
  unfold AUX at *
  rw [(k 11 (by omega)).2.1, (k 12 (by omega)).2.1, (r 8 (by omega)).2, (r 20 (by omega)).2, (r 21 (by omega)).2]
  exact h6
theorem INV.host {σ σ' : DS} {τ τ' : RS} (h : INV σ τ) (k : dK_ (fun c => 34 ≤ c ∧ c ≤ 44) σ σ') (r : rK_ (fun c => 11 ≤ c ∧ c ≤ 16) τ τ') (h3 : HST σ' τ') : INV σ' τ' := by
  obtain ⟨⟨P, R, ld, eA, eB, od, wt, n1, n2, n3⟩, ⟨F, kd, W, f1, f2, f3⟩, -, h4, h5, h6⟩ := h
  refine ⟨⟨P, R, ld, eA, eB, od, wt, n1, n2.to k (fun c hc => by omega), n3.to r (fun c hc => by omega)⟩, ⟨F, kd, W, f1, f2.to f1.1 k (fun c hc => by have := f1.1; omega), f3.to r (fun c hc => by omega)⟩, h3, h4.to k (fun c hc => by omega) r (fun c hc => by omega), h5.to k (fun c hc => by omega) r (fun c hc => by omega), ?_⟩
  unfold AUX at *
  rw [(k 11 (by omega)).2.1, (k 12 (by omega)).2.1, (r 8 (by omega)).2, (r 20 (by omega)).2, (r 21 (by omega)).2]
  exact h6
theorem INV.rows {σ σ' : DS} {τ τ' : RS} (h : INV σ τ) (k : ∀ F, σ.1 0 2 = nI F → F ≤ 30 → dK_ (fun c => (17 ≤ c ∧ c ≤ 24) ∨ dScr F c) σ σ') (r : rK_ (fun c => c = 9 ∨ c = 10 ∨ rScr c) τ τ') (h4 : RWS σ' τ') (h6 : AUX σ' τ') : INV σ' τ' := by
  obtain ⟨⟨P, R, ld, eA, eB, od, wt, n1, n2, n3⟩, ⟨F, kd, W, f1, f2, f3⟩, h3, -, h5, -⟩ := h
  have k := k F f2.1 f1.1
  have hF := f1.1
  refine ⟨⟨P, R, ld, eA, eB, od, wt, n1, n2.to k (fun c hc => ?_), n3.to r (fun c hc => ?_)⟩, ⟨F, kd, W, f1, f2.to f1.1 k (fun c hc => ?_), f3.to r (fun c hc => ?_)⟩, h3.to k (fun c hc => ?_) r (fun c hc => ?_), h4, h5.to k (fun c hc => ?_) r (fun c hc => ?_), h6⟩ <;> simp only [dScr, rScr] at hc <;> omega
theorem INV.act {σ σ' : DS} {τ τ' : RS} (h : INV σ τ) (k : dK_ (fun c => c = 45 ∨ c = 46) σ σ') (r : rK_ (fun c => c = 17 ∨ c = 18 ∨ c = 32) τ τ') (h5 : ACT σ' τ') : INV σ' τ' := by
  obtain ⟨⟨P, R, ld, eA, eB, od, wt, n1, n2, n3⟩, ⟨F, kd, W, f1, f2, f3⟩, h3, h4, -, h6⟩ := h
  refine ⟨⟨P, R, ld, eA, eB, od, wt, n1, n2.to k (fun c hc => by omega), n3.to r (fun c hc => by omega)⟩, ⟨F, kd, W, f1, f2.to f1.1 k (fun c hc => by have := f1.1; omega), f3.to r (fun c hc => by omega)⟩, h3.to k (fun c hc => by omega) r (fun c hc => by omega), h4.to k (fun c hc => by omega) r (fun c hc => by omega), h5, ?_⟩
  unfold AUX at *
  rw [(k 11 (by omega)).2.1, (k 12 (by omega)).2.1, (r 8 (by omega)).2, (r 20 (by omega)).2, (r 21 (by omega)).2]
  exact h6

/-! ===== models: options, guards, loops ===== -/
def gi {ρ : Type} (i : Int32) (n : Nat) (k : Option ρ) : Option ρ := if i < 0 ∨ n ≤ i.toNatClampNeg then none else k
theorem gi_in {ρ : Type} {i : Int32} {n : Nat} {k : Option ρ} {o : ρ} (h : gi i n k = some o) : vp_in i n ∧ k = some o := by
  unfold gi at h
  by_cases c : i < 0 ∨ n ≤ i.toNatClampNeg
  · rw [if_pos c] at h; cases h
  · rw [if_neg c] at h; exact ⟨c, h⟩
theorem gi_ok {ρ : Type} {i : Int32} {n : Nat} {k : Option ρ} (h : vp_in i n) : gi i n k = k := if_neg h
def gb {ρ : Type} (v : Int32) (k : Option ρ) : Option ρ := if v = 0 ∨ v = 1 then k else none
theorem gb_in {ρ : Type} {v : Int32} {k : Option ρ} {o : ρ} (h : gb v k = some o) : narrow .boolean (.int v) = .int v ∧ k = some o := by
  unfold gb at h
  by_cases c : v = 0 ∨ v = 1
  · rw [if_pos c] at h
    refine ⟨?_, h⟩
    rcases c with rfl | rfl <;> rfl
  · rw [if_neg c] at h; cases h
theorem gb_ok {ρ : Type} {v : Int32} {k : Option ρ} (h : v = 0 ∨ v = 1) : gb v k = k := if_pos h
def gz {ρ : Type} (v : Int32) (k : Option ρ) : Option ρ := if v = 0 then none else k
theorem gz_in {ρ : Type} {v : Int32} {k : Option ρ} {o : ρ} (h : gz v k = some o) : ¬ v = 0 ∧ k = some o := by
  unfold gz at h
  by_cases c : v = 0
  · rw [if_pos c] at h; cases h
  · rw [if_neg c] at h; exact ⟨c, h⟩
theorem gz_ok {ρ : Type} {v : Int32} {k : Option ρ} (h : ¬ v = 0) : gz v k = k := if_neg h
def b1 {α ρ : Type} (o : Option α) (k : α → Option ρ) : Option ρ := match o with
  | none => none
  | some a => k a
theorem b1_in {α ρ : Type} {o : Option α} {k : α → Option ρ} {r : ρ} (h : b1 o k = some r) : ∃ a, o = some a ∧ k a = some r := by
  cases o with
  | none => cases h
  | some a => exact ⟨a, rfl, h⟩
theorem b1_ok {α ρ : Type} {o : Option α} {k : α → Option ρ} {a : α} (h : o = some a) : b1 o k = k a := by rw [h]; rfl
def b2 {α β ρ : Type} (o : Option (α × β)) (k : α → β → Option ρ) : Option ρ := match o with
  | none => none
  | some p => k p.1 p.2
theorem b2_in {α β ρ : Type} {o : Option (α × β)} {k : α → β → Option ρ} {r : ρ} (h : b2 o k = some r) : ∃ a b, o = some (a, b) ∧ k a b = some r := by
  cases o with
  | none => cases h
  | some p => exact ⟨p.1, p.2, rfl, h⟩
theorem b2_ok {α β ρ : Type} {o : Option (α × β)} {k : α → β → Option ρ} {a : α} {b : β} (h : o = some (a, b)) : b2 o k = k a b := by rw [h]; rfl
def nm {α β : Type} (a : α) (k : α → β) : β := k a
theorem nm_in {α β : Type} {a x : α} {k : α → β} {r : β} (h : nm a k = r) (e : x = a) : k x = r := by rw [e]; exact h
theorem nm_ok {α β : Type} (a : α) (k : α → β) : nm a k = k a := rfl
def it1 {A ρ : Type} (f : (A → Option ρ) → A → Option ρ) : Nat → A → Option ρ
  | 0, _ => none
  | n + 1, a => f (it1 f n) a
def it2 {A B ρ : Type} (f : (A → B → Option ρ) → A → B → Option ρ) : Nat → A → B → Option ρ
  | 0, _, _ => none
  | n + 1, a, b => f (it2 f n) a b
def it3 {A B C ρ : Type} (f : (A → B → C → Option ρ) → A → B → C → Option ρ) : Nat → A → B → C → Option ρ
  | 0, _, _, _ => none
  | n + 1, a, b, c => f (it3 f n) a b c
def it4 {A B C D ρ : Type} (f : (A → B → C → D → Option ρ) → A → B → C → D → Option ρ) : Nat → A → B → C → D → Option ρ
  | 0, _, _, _, _ => none
  | n + 1, a, b, c, d => f (it4 f n) a b c d
def it5 {A B C D E ρ : Type} (f : (A → B → C → D → E → Option ρ) → A → B → C → D → E → Option ρ) : Nat → A → B → C → D → E → Option ρ
  | 0, _, _, _, _, _ => none
  | n + 1, a, b, c, d, e => f (it5 f n) a b c d e
theorem it1_z {A ρ : Type} {f : (A → Option ρ) → A → Option ρ} {a : A} {o : ρ} (h : it1 f 0 a = some o) : False := by cases h
theorem it2_z {A B ρ : Type} {f : (A → B → Option ρ) → A → B → Option ρ} {a : A} {b : B} {o : ρ} (h : it2 f 0 a b = some o) : False := by cases h
theorem it3_z {A B C ρ : Type} {f : (A → B → C → Option ρ) → A → B → C → Option ρ} {a : A} {b : B} {c : C} {o : ρ} (h : it3 f 0 a b c = some o) : False := by cases h
theorem it4_z {A B C D ρ : Type} {f : (A → B → C → D → Option ρ) → A → B → C → D → Option ρ} {a : A} {b : B} {c : C} {d : D} {o : ρ} (h : it4 f 0 a b c d = some o) : False := by cases h
theorem it5_z {A B C D E ρ : Type} {f : (A → B → C → D → E → Option ρ) → A → B → C → D → E → Option ρ} {a : A} {b : B} {c : C} {d : D} {e : E} {o : ρ} (h : it5 f 0 a b c d e = some o) : False := by cases h
/-- how many turns a loop of a model may take -/
def fuel : Nat := 1000000
/-! ===== the tables' words: one list for all methods ===== -/
theorem gT : GoodIn wsL_law wsL_law := fun w h => ⟨h, wsL_good w h⟩
theorem gT1 {w : Cond} {l : List Cond} (h : w ∈ wsL_law) (hl : GoodIn wsL_law l) : GoodIn wsL_law (w :: l) := fun x hx => (List.mem_cons.mp hx).elim (fun e => by rw [e]; exact gT w h) (fun h9 => hl x h9)
def tyL (cy : Nat → ClassId) : List (ClassId × FieldType) := [(cy 0, .int), (cy 1, .long), (cy 2, .boolean), (cy 3, .object "WayBook$Ways"), (cy 4, .array .int)]
/-- what stays the same in a method: the machine, its code, the words, the classes -/
def FX (p : Program) (s : State) (m : MethodId) (args : Array Value) (meth : Method) (c : Code) (cc : ByteArray) (nL : Nat) (own : String) (D : va_G) (cy : Nat → ClassId) : Prop :=
  p.tables.exec = Jvm.exec ∧ c.code = cc ∧ c.maxLocals = nL ∧ s.vm.findClass own = some m.cls ∧ (∀ w ∈ wsL_law, w.before args s = true) ∧ va_K D vwCl (tyL cy) s ∧ meth.locks = false
/-- the world holds τ, its cells being ad, and nothing else was written -/
def GC {σ : Type} (D : va_G) (wd : σ → va_W) (ad : List Nat) (s : State) (τ : σ) (H : Heap) (locs : List Loc) : Prop :=
  va_P D vwCl (wd τ) H ∧ va_D (fun x => x ∈ ad) (wd τ) ∧ va_S (fun x => x ∈ ad) s.heap H locs
def GP {σ : Type} (D : va_G) (cy : Nat → ClassId) (wd : σ → va_W) (ad : List Nat) (av : List Value) (τ : σ) : Array Value → State → Prop :=
  fun v U => v = av.toArray ∧ va_P D vwCl (wd τ) U.heap ∧ va_K D vwCl (tyL cy) U ∧ va_D (fun x => x ∈ ad) (wd τ)
def GQ {σ : Type} (D : va_G) (wd : σ → va_W) (ad : List Nat) (res : Option Value) (τ' : σ) : Array Value → State → Outcome → State → Prop :=
  fun _ st oc t => (oc = .returned res ∧ va_P D vwCl (wd τ') t.heap) ∧ va_F (fun x => x ∈ ad) st t
/-- the contract of a method that makes nothing new: from τ it answers res and leaves τ' -/
def GM {σ : Type} (l : Launch) (y : MethodName) (b : ByteArray) (n : Nat) (ret : Option FieldType) (rm : Room) (D : va_G) (cy : Nat → ClassId) (wd : σ → va_W) (ad : List Nat) (av : List Value) (τ : σ) (res : Option Value) (τ' : σ) : Prop :=
  Met l y (Cond.code y b n ret :: wsL_law) rm (GP D cy wd ad av τ) (GQ D wd ad res τ') 0 0 (fun x => x ∈ ad)
theorem g_blind {σ : Type} {D : va_G} {cy : Nat → ClassId} {wd : σ → va_W} {ad : List Nat} {av : List Value} {τ : σ} : FrameBlind (GP D cy wd ad av τ) :=
  fun a U g mk q => ⟨q.1, q.2.1, va_K.moved (u := U) (U := U.calling g mk a) (Vm.Alike.refl U.vm) q.2.2.1, q.2.2.2⟩
theorem g_D {A : Nat → Prop} {w1 w2 : va_W} (hw : w2.map (·.1) = w1.map (·.1)) (h : va_D A w1) : va_D A w2 := by
  have key : ∀ (k : Nat) (q : Nat × va_E), w2[k]? = some q → ∃ q0, w1[k]? = some q0 ∧ q0.1 = q.1 := by
    intro k q hq
    have h1 : (w2.map (·.1))[k]? = some q.1 := by rw [List.getElem?_map, hq]; rfl
    rw [hw, List.getElem?_map] at h1
    cases h2 : w1[k]? with
    | none => rw [h2] at h1; cases h1
    | some z => rw [h2] at h1; exact ⟨z, rfl, Option.some.inj h1⟩
  refine ⟨fun i j a b hi hj e => ?_, fun k q hk => ?_⟩
  · obtain ⟨a0, ha, ea⟩ := key i a hi
    obtain ⟨b0, hb, eb⟩ := key j b hj
    exact h.1 i j a0 b0 ha hb (by rw [ea, eb]; exact e)
  · obtain ⟨q0, h1, e⟩ := key k q hk
    rw [← e]
    exact h.2 k q0 h1
section GRUN
variable {p : Program} {l : Launch} {e : Env} {R : Room} {s : State} {m : MethodId} {args : Array Value} {below : List Frame} {meth : Method} {c : Code} {H : Heap} {locs : List Loc} {cells slots : Nat} {Q : State → Prop}
variable {cc : ByteArray} {nL pc : Nat} {own : String} {ls : Array Slot} {rest st0 : List Value} {D : va_G} {cy : Nat → ClassId} {σ : Type} {wd : σ → va_W} {ad : List Nat} {τ τ' : σ}
theorem g_run {a : Array Value} {res : Option Value} (hr : va_Run p l e R s m args below meth c H locs cells slots 0 0 (F0 m pc ls st0) rest (GQ D wd ad res τ' a) (fun x => x ∈ ad)) (hC : GC D wd ad s τ H locs) (hw : ∀ x y : σ, (wd x).map (·.1) = (wd y).map (·.1))
    (kk : ∀ (H1 : Heap) (locs1 : List Loc), GC D wd ad s τ' H1 locs1 → W p l e R s m args below meth c H1 locs1 cells slots Q (F0 m (pc + 3) ls (res.toList ++ rest))) : W p l e R s m args below meth c H locs cells slots Q (F0 m pc ls st0) := by
  intro T hT X
  obtain ⟨v, st₀, t, T', L, h0, X', hL, e1, e2, ⟨⟨hv, hp⟩, hz, hk⟩, st⟩ := hr T hT X
  cases hv
  rw [h0] at hz hk
  obtain ⟨hP, hD, hS⟩ := hC
  obtain ⟨t2, a1, b1⟩ := kk T'.heap (locs ++ L) ⟨by rw [e1]; exact hp, g_D (hw τ' τ) hD, Nat.le_trans hS.1 (by rw [e1]; exact hz), fun q h1 h2 => by rw [e1, hk q (Nat.lt_of_lt_of_le h1 hS.1) h2]; exact hS.2.1 q h1 h2, fun q hq => by
      rcases List.mem_append.mp hq with h | h
      · exact hS.2.2 q h
      · exact hL q h⟩ T' rfl X'
  exact ⟨t2, st t2 a1, b1⟩
/-- a call of a method of an object of the world -/
theorem g_callV {y : MethodName} {b : ByteArray} {n n' : Nat} {ret : Option FieldType} {rm : Room} {C : String} {idx : Nat} {As : List Value} {a k0 ci : Nat} {fs : List Value} {qc : vw_C} {res : Option Value}
    (fx : FX p s m args meth c cc nL own D cy) (hC : GC D wd ad s τ H locs) (hw : ∀ x y : σ, (wd x).map (·.1) = (wd y).map (·.1)) (hM : GM l y b n ret rm D cy wd ad (.ref a :: As) τ res τ')
    (h1 : Cond.methodLink own idx y ∈ wsL_law) (h2 : Cond.instanceMethod y ∈ wsL_law ∧ Cond.selects C y y ∈ wsL_law ∧ Cond.initialized C ∈ wsL_law ∧ Cond.code y b n ret ∈ wsL_law)
    (hd : y.cls = C ∧ y.cls ≠ "java/lang/invoke/MethodHandle" ∧ y.cls ≠ "java/lang/invoke/VarHandle" ∧ (parseMethodDescriptor y.desc).map (fun d => d.parameters.length) = some n')
    (hci : vwCl[ci]? = some qc) (hqc : qc.1 = C) (he : (wd τ)[k0]? = some (a, .inr (ci, fs))) (hr0 : rm.cells = 0 ∧ rm.slots = 0) (hR : rm.frames + 1 ≤ R.frames ∧ 8 + (n + 11) + rm.locals ≤ R.locals) (hf : cells ≤ R.cells ∧ slots ≤ R.slots)
    (hn : As.length = n') (hl : ls.size = nL) (hst : st0 = As.reverse ++ .ref a :: rest) (hrest : (rest.map fun v => v.category).sum ≤ 8) (hdg : decode cc pc = .ok (.invokevirtual idx, 3))
    (kk : ∀ (H1 : Heap) (locs1 : List Loc), GC D wd ad s τ' H1 locs1 → W p l e R s m args below meth c H1 locs1 cells slots Q (F0 m (pc + 3) ls (res.toList ++ rest))) : W p l e R s m args below meth c H locs cells slots Q (F0 m pc ls st0) := by
  obtain ⟨hx, hb, hml, hown, hts, hK, -⟩ := fx
  subst hqc
  refine g_run (va_runV (Ts := wsL_law) (As := As) (n := n') (rest := rest) (b := a) (C := qc.1) ⟨hx, hb, hml, hown, hts⟩ hM (cwV n' hts (gT1 h1 (gT1 h2.1 (gT1 h2.2.1 (gT1 h2.2.2.1 (gT1 h2.2.2.2 gT))))) rfl hr0.1 hr0.2 hd hR) ⟨g_blind, va_recv hK hC.1 hci he, fun U hU hW => ⟨rfl, by rw [hU]; exact hC.1, va_K.moved hW.alike hK, hC.2.1⟩⟩ rfl hn hl hst (lv_room hrest) hdg hf) hC hw kk
/-- a call of a static method -/
theorem g_callS {y : MethodName} {b : ByteArray} {n n' : Nat} {ret : Option FieldType} {rm : Room} {idx : Nat} {As : List Value} {res : Option Value}
    (fx : FX p s m args meth c cc nL own D cy) (hC : GC D wd ad s τ H locs) (hw : ∀ x y : σ, (wd x).map (·.1) = (wd y).map (·.1)) (hM : GM l y b n ret rm D cy wd ad As τ res τ')
    (h1 : Cond.methodLink own idx y ∈ wsL_law) (h2 : Cond.static y ∈ wsL_law ∧ Cond.initialized y.cls ∈ wsL_law ∧ Cond.code y b n ret ∈ wsL_law)
    (hd : y.cls ≠ "java/lang/invoke/MethodHandle" ∧ y.cls ≠ "java/lang/invoke/VarHandle" ∧ (parseMethodDescriptor y.desc).map (fun d => d.parameters.length) = some n')
    (hr0 : rm.cells = 0 ∧ rm.slots = 0) (hR : rm.frames + 1 ≤ R.frames ∧ 8 + (n + 11) + rm.locals ≤ R.locals) (hf : cells ≤ R.cells ∧ slots ≤ R.slots)
    (hn : As.length = n') (hl : ls.size = nL) (hst : st0 = As.reverse ++ rest) (hrest : (rest.map fun v => v.category).sum ≤ 8) (hdg : decode cc pc = .ok (.invokestatic idx, 3))
    (kk : ∀ (H1 : Heap) (locs1 : List Loc), GC D wd ad s τ' H1 locs1 → W p l e R s m args below meth c H1 locs1 cells slots Q (F0 m (pc + 3) ls (res.toList ++ rest))) : W p l e R s m args below meth c H locs cells slots Q (F0 m pc ls st0) := by
  obtain ⟨hx, hb, hml, hown, hts, hK, -⟩ := fx
  refine g_run (va_runS (Ts := wsL_law) (As := As) (n := n') (rest := rest) ⟨hx, hb, hml, hown, hts⟩ hM (va_cwS n' hts (gT1 h1 (gT1 h2.1 (gT1 h2.2.1 (gT1 h2.2.2 gT)))) rfl hr0.1 hr0.2 hd hR) ⟨g_blind, fun U hU hW => ⟨rfl, by rw [hU]; exact hC.1, va_K.moved hW.alike hK, hC.2.1⟩⟩ rfl hn hl hst (lv_room hrest) hdg hf) hC hw kk
theorem g_iret {res : Option Value} {v : Int32} (fx : FX p s m args meth c cc nL own D cy) (hr : meth.sig.returnType = some .int) (hC : GC D wd ad s τ' H locs) (hres : res = some (.int v)) (hdg : decode cc pc = .ok (.ireturn, 1)) :
    W p l e R s m args below meth c H locs cells slots (MQ below (GQ D wd ad res τ') args s cells slots (fun x => x ∈ ad)) (F0 m pc ls [.int v]) := by
  subst hres
  have hlocks : meth.locks = false := fx.2.2.2.2.2.2
  exact W.iret fx.1 fx.2.1 hr (fun t ht hW => ⟨⟨rfl, by rw [ht]; exact hC.1⟩, hC.2.2.F ht⟩) hC.2.2.2.2 hdg
theorem g_zret {res : Option Value} {v : Int32} {ty : FieldType} (fx : FX p s m args meth c cc nL own D cy) (hr : meth.sig.returnType = some ty) (hn : narrow ty (.int v) = .int v) (hC : GC D wd ad s τ' H locs) (hres : res = some (.int v)) (hdg : decode cc pc = .ok (.ireturn, 1)) :
    W p l e R s m args below meth c H locs cells slots (MQ below (GQ D wd ad res τ') args s cells slots (fun x => x ∈ ad)) (F0 m pc ls [.int v]) := by
  subst hres
  have hlocks : meth.locks = false := fx.2.2.2.2.2.2
  exact W.zret fx.1 fx.2.1 hr hn (fun t ht hW => ⟨⟨rfl, by rw [ht]; exact hC.1⟩, hC.2.2.F ht⟩) hC.2.2.2.2 hdg
theorem g_lret {res : Option Value} {v : Int64} (fx : FX p s m args meth c cc nL own D cy) (hr : meth.sig.returnType = some .long) (hC : GC D wd ad s τ' H locs) (hres : res = some (.long v)) (hdg : decode cc pc = .ok (.lreturn, 1)) :
    W p l e R s m args below meth c H locs cells slots (MQ below (GQ D wd ad res τ') args s cells slots (fun x => x ∈ ad)) (F0 m pc ls [.long v]) := by
  subst hres
  have hlocks : meth.locks = false := fx.2.2.2.2.2.2
  exact W.lret fx.1 fx.2.1 hr (fun t ht hW => ⟨⟨rfl, by rw [ht]; exact hC.1⟩, hC.2.2.F ht⟩) hC.2.2.2.2 hdg
theorem g_vret {res : Option Value} (fx : FX p s m args meth c cc nL own D cy) (hr : meth.sig.returnType = none) (hC : GC D wd ad s τ' H locs) (hres : res = none) (hdg : decode cc pc = .ok (.return_, 1)) :
    W p l e R s m args below meth c H locs cells slots (MQ below (GQ D wd ad res τ') args s cells slots (fun x => x ∈ ad)) (F0 m pc ls []) := by
  subst hres
  have hlocks : meth.locks = false := fx.2.2.2.2.2.2
  exact W.vret fx.1 fx.2.1 hr (fun t ht hW => ⟨⟨rfl, by rw [ht]; exact hC.1⟩, hC.2.2.F ht⟩) hC.2.2.2.2 hdg
end GRUN
theorem g_start {σ : Type} {l : Launch} {y : MethodName} {b : ByteArray} {n : Nat} {ret : Option FieldType} {rm : Room} {D : va_G} {cy : Nat → ClassId} {wd : σ → va_W} {ad : List Nat} {av : List Value} {τ τ' : σ} {res : Option Value} (own : String)
    (ho : y.cls = own) (hy : plainName y.cls = true) (hsl : (lg_sl av).length ≤ n)
    (body : ∀ (p : Program) (e : Env) (s : State) (m : MethodId) (args : Array Value) (below : List Frame) (meth : Method) (c : Code), FX p s m args meth c b n own D cy → meth.sig.returnType = ret → GC D wd ad s τ s.heap [] → ∀ ls : Array Slot, lv_has ls n (lv_args 0 av) →
      W p l e rm s m args below meth c s.heap [] 0 0 (MQ below (GQ D wd ad res τ') args s 0 0 (fun x => x ∈ ad)) (F0 m 0 ls [])) : GM l y b n ret rm D cy wd ad av τ res τ' := by
  refine Met.ofW (cc := b) (maxL := n) (ret := ret) hy rfl ?_
  intro p e s m args below meth c s₁ B hml hv
  obtain ⟨rfl, hP, hK, hD⟩ := hv
  have hts := atoms_spec (ws := Cond.code y b n ret :: wsL_law) B.pre
  have hown : s.vm.findClass own = some m.cls := by rw [← ho]; exact findClass_of_methodNamed B.named
  rw [lg_entry_eq]
  exact body p e s m _ below meth c ⟨B.exec, B.bytes, hml, hown, fun w h => hts w (List.mem_cons_of_mem _ h), hK, B.notSynchronized⟩ B.returns ⟨hP, hD, va_S.rf⟩ _ (lv_entry av hsl)
theorem ifp {α : Sort _} {c : Prop} [Decidable c] {a b o : α} (h : (if c then a else b) = o) (hc : c) : a = o := by rw [if_pos hc] at h; exact h
theorem ifn {α : Sort _} {c : Prop} [Decidable c] {a b o : α} (h : (if c then a else b) = o) (hc : ¬ c) : b = o := by rw [if_neg hc] at h; exact h
section GRUN2
variable {p : Program} {l : Launch} {e : Env} {R : Room} {s : State} {m : MethodId} {args : Array Value} {below : List Frame} {meth : Method} {c : Code} {H : Heap} {locs : List Loc} {cells slots : Nat} {Q : State → Prop}
variable {cc : ByteArray} {nL pc : Nat} {own : String} {ls : Array Slot} {rest st0 : List Value} {D : va_G} {cy : Nat → ClassId} {σ : Type} {wd : σ → va_W} {ad : List Nat} {τ τ' : σ}
theorem g_callVi {y : MethodName} {b : ByteArray} {n n' : Nat} {ret : Option FieldType} {rm : Room} {C : String} {idx : Nat} {As : List Value} {a k0 ci : Nat} {fs : List Value} {qc : vw_C} {r : Int32}
    (fx : FX p s m args meth c cc nL own D cy) (hC : GC D wd ad s τ H locs) (hw : ∀ x y : σ, (wd x).map (·.1) = (wd y).map (·.1)) (hM : GM l y b n ret rm D cy wd ad (.ref a :: As) τ (some (.int r)) τ')
    (h1 : Cond.methodLink own idx y ∈ wsL_law) (h2 : Cond.instanceMethod y ∈ wsL_law ∧ Cond.selects C y y ∈ wsL_law ∧ Cond.initialized C ∈ wsL_law ∧ Cond.code y b n ret ∈ wsL_law)
    (hd : y.cls = C ∧ y.cls ≠ "java/lang/invoke/MethodHandle" ∧ y.cls ≠ "java/lang/invoke/VarHandle" ∧ (parseMethodDescriptor y.desc).map (fun d => d.parameters.length) = some n')
    (hci : vwCl[ci]? = some qc) (hqc : qc.1 = C) (he : (wd τ)[k0]? = some (a, .inr (ci, fs))) (hr0 : rm.cells = 0 ∧ rm.slots = 0) (hR : rm.frames + 1 ≤ R.frames ∧ 8 + (n + 11) + rm.locals ≤ R.locals) (hf : cells ≤ R.cells ∧ slots ≤ R.slots)
    (hn : As.length = n') (hl : ls.size = nL) (hst : st0 = As.reverse ++ .ref a :: rest) (hrest : (rest.map fun v => v.category).sum ≤ 8) (hdg : decode cc pc = .ok (.invokevirtual idx, 3))
    (kk : ∀ (H1 : Heap) (locs1 : List Loc), GC D wd ad s τ' H1 locs1 → W p l e R s m args below meth c H1 locs1 cells slots Q (F0 m (pc + 3) ls (.int r :: rest))) : W p l e R s m args below meth c H locs cells slots Q (F0 m pc ls st0) :=
  g_callV fx hC hw hM h1 h2 hd hci hqc he hr0 hR hf hn hl hst hrest hdg kk
theorem g_callVl {y : MethodName} {b : ByteArray} {n n' : Nat} {ret : Option FieldType} {rm : Room} {C : String} {idx : Nat} {As : List Value} {a k0 ci : Nat} {fs : List Value} {qc : vw_C} {r : Int64}
    (fx : FX p s m args meth c cc nL own D cy) (hC : GC D wd ad s τ H locs) (hw : ∀ x y : σ, (wd x).map (·.1) = (wd y).map (·.1)) (hM : GM l y b n ret rm D cy wd ad (.ref a :: As) τ (some (.long r)) τ')
    (h1 : Cond.methodLink own idx y ∈ wsL_law) (h2 : Cond.instanceMethod y ∈ wsL_law ∧ Cond.selects C y y ∈ wsL_law ∧ Cond.initialized C ∈ wsL_law ∧ Cond.code y b n ret ∈ wsL_law)
    (hd : y.cls = C ∧ y.cls ≠ "java/lang/invoke/MethodHandle" ∧ y.cls ≠ "java/lang/invoke/VarHandle" ∧ (parseMethodDescriptor y.desc).map (fun d => d.parameters.length) = some n')
    (hci : vwCl[ci]? = some qc) (hqc : qc.1 = C) (he : (wd τ)[k0]? = some (a, .inr (ci, fs))) (hr0 : rm.cells = 0 ∧ rm.slots = 0) (hR : rm.frames + 1 ≤ R.frames ∧ 8 + (n + 11) + rm.locals ≤ R.locals) (hf : cells ≤ R.cells ∧ slots ≤ R.slots)
    (hn : As.length = n') (hl : ls.size = nL) (hst : st0 = As.reverse ++ .ref a :: rest) (hrest : (rest.map fun v => v.category).sum ≤ 8) (hdg : decode cc pc = .ok (.invokevirtual idx, 3))
    (kk : ∀ (H1 : Heap) (locs1 : List Loc), GC D wd ad s τ' H1 locs1 → W p l e R s m args below meth c H1 locs1 cells slots Q (F0 m (pc + 3) ls (.long r :: rest))) : W p l e R s m args below meth c H locs cells slots Q (F0 m pc ls st0) :=
  g_callV fx hC hw hM h1 h2 hd hci hqc he hr0 hR hf hn hl hst hrest hdg kk
theorem g_callVv {y : MethodName} {b : ByteArray} {n n' : Nat} {ret : Option FieldType} {rm : Room} {C : String} {idx : Nat} {As : List Value} {a k0 ci : Nat} {fs : List Value} {qc : vw_C}
    (fx : FX p s m args meth c cc nL own D cy) (hC : GC D wd ad s τ H locs) (hw : ∀ x y : σ, (wd x).map (·.1) = (wd y).map (·.1)) (hM : GM l y b n ret rm D cy wd ad (.ref a :: As) τ none τ')
    (h1 : Cond.methodLink own idx y ∈ wsL_law) (h2 : Cond.instanceMethod y ∈ wsL_law ∧ Cond.selects C y y ∈ wsL_law ∧ Cond.initialized C ∈ wsL_law ∧ Cond.code y b n ret ∈ wsL_law)
    (hd : y.cls = C ∧ y.cls ≠ "java/lang/invoke/MethodHandle" ∧ y.cls ≠ "java/lang/invoke/VarHandle" ∧ (parseMethodDescriptor y.desc).map (fun d => d.parameters.length) = some n')
    (hci : vwCl[ci]? = some qc) (hqc : qc.1 = C) (he : (wd τ)[k0]? = some (a, .inr (ci, fs))) (hr0 : rm.cells = 0 ∧ rm.slots = 0) (hR : rm.frames + 1 ≤ R.frames ∧ 8 + (n + 11) + rm.locals ≤ R.locals) (hf : cells ≤ R.cells ∧ slots ≤ R.slots)
    (hn : As.length = n') (hl : ls.size = nL) (hst : st0 = As.reverse ++ .ref a :: rest) (hrest : (rest.map fun v => v.category).sum ≤ 8) (hdg : decode cc pc = .ok (.invokevirtual idx, 3))
    (kk : ∀ (H1 : Heap) (locs1 : List Loc), GC D wd ad s τ' H1 locs1 → W p l e R s m args below meth c H1 locs1 cells slots Q (F0 m (pc + 3) ls (rest))) : W p l e R s m args below meth c H locs cells slots Q (F0 m pc ls st0) :=
  g_callV fx hC hw hM h1 h2 hd hci hqc he hr0 hR hf hn hl hst hrest hdg kk
theorem g_callSi {y : MethodName} {b : ByteArray} {n n' : Nat} {ret : Option FieldType} {rm : Room} {idx : Nat} {As : List Value} {r : Int32}
    (fx : FX p s m args meth c cc nL own D cy) (hC : GC D wd ad s τ H locs) (hw : ∀ x y : σ, (wd x).map (·.1) = (wd y).map (·.1)) (hM : GM l y b n ret rm D cy wd ad As τ (some (.int r)) τ')
    (h1 : Cond.methodLink own idx y ∈ wsL_law) (h2 : Cond.static y ∈ wsL_law ∧ Cond.initialized y.cls ∈ wsL_law ∧ Cond.code y b n ret ∈ wsL_law)
    (hd : y.cls ≠ "java/lang/invoke/MethodHandle" ∧ y.cls ≠ "java/lang/invoke/VarHandle" ∧ (parseMethodDescriptor y.desc).map (fun d => d.parameters.length) = some n')
    (hr0 : rm.cells = 0 ∧ rm.slots = 0) (hR : rm.frames + 1 ≤ R.frames ∧ 8 + (n + 11) + rm.locals ≤ R.locals) (hf : cells ≤ R.cells ∧ slots ≤ R.slots)
    (hn : As.length = n') (hl : ls.size = nL) (hst : st0 = As.reverse ++ rest) (hrest : (rest.map fun v => v.category).sum ≤ 8) (hdg : decode cc pc = .ok (.invokestatic idx, 3))
    (kk : ∀ (H1 : Heap) (locs1 : List Loc), GC D wd ad s τ' H1 locs1 → W p l e R s m args below meth c H1 locs1 cells slots Q (F0 m (pc + 3) ls (.int r :: rest))) : W p l e R s m args below meth c H locs cells slots Q (F0 m pc ls st0) :=
  g_callS fx hC hw hM h1 h2 hd hr0 hR hf hn hl hst hrest hdg kk
theorem g_callSl {y : MethodName} {b : ByteArray} {n n' : Nat} {ret : Option FieldType} {rm : Room} {idx : Nat} {As : List Value} {r : Int64}
    (fx : FX p s m args meth c cc nL own D cy) (hC : GC D wd ad s τ H locs) (hw : ∀ x y : σ, (wd x).map (·.1) = (wd y).map (·.1)) (hM : GM l y b n ret rm D cy wd ad As τ (some (.long r)) τ')
    (h1 : Cond.methodLink own idx y ∈ wsL_law) (h2 : Cond.static y ∈ wsL_law ∧ Cond.initialized y.cls ∈ wsL_law ∧ Cond.code y b n ret ∈ wsL_law)
    (hd : y.cls ≠ "java/lang/invoke/MethodHandle" ∧ y.cls ≠ "java/lang/invoke/VarHandle" ∧ (parseMethodDescriptor y.desc).map (fun d => d.parameters.length) = some n')
    (hr0 : rm.cells = 0 ∧ rm.slots = 0) (hR : rm.frames + 1 ≤ R.frames ∧ 8 + (n + 11) + rm.locals ≤ R.locals) (hf : cells ≤ R.cells ∧ slots ≤ R.slots)
    (hn : As.length = n') (hl : ls.size = nL) (hst : st0 = As.reverse ++ rest) (hrest : (rest.map fun v => v.category).sum ≤ 8) (hdg : decode cc pc = .ok (.invokestatic idx, 3))
    (kk : ∀ (H1 : Heap) (locs1 : List Loc), GC D wd ad s τ' H1 locs1 → W p l e R s m args below meth c H1 locs1 cells slots Q (F0 m (pc + 3) ls (.long r :: rest))) : W p l e R s m args below meth c H locs cells slots Q (F0 m pc ls st0) :=
  g_callS fx hC hw hM h1 h2 hd hr0 hR hf hn hl hst hrest hdg kk
theorem g_callSv {y : MethodName} {b : ByteArray} {n n' : Nat} {ret : Option FieldType} {rm : Room} {idx : Nat} {As : List Value}
    (fx : FX p s m args meth c cc nL own D cy) (hC : GC D wd ad s τ H locs) (hw : ∀ x y : σ, (wd x).map (·.1) = (wd y).map (·.1)) (hM : GM l y b n ret rm D cy wd ad As τ none τ')
    (h1 : Cond.methodLink own idx y ∈ wsL_law) (h2 : Cond.static y ∈ wsL_law ∧ Cond.initialized y.cls ∈ wsL_law ∧ Cond.code y b n ret ∈ wsL_law)
    (hd : y.cls ≠ "java/lang/invoke/MethodHandle" ∧ y.cls ≠ "java/lang/invoke/VarHandle" ∧ (parseMethodDescriptor y.desc).map (fun d => d.parameters.length) = some n')
    (hr0 : rm.cells = 0 ∧ rm.slots = 0) (hR : rm.frames + 1 ≤ R.frames ∧ 8 + (n + 11) + rm.locals ≤ R.locals) (hf : cells ≤ R.cells ∧ slots ≤ R.slots)
    (hn : As.length = n') (hl : ls.size = nL) (hst : st0 = As.reverse ++ rest) (hrest : (rest.map fun v => v.category).sum ≤ 8) (hdg : decode cc pc = .ok (.invokestatic idx, 3))
    (kk : ∀ (H1 : Heap) (locs1 : List Loc), GC D wd ad s τ' H1 locs1 → W p l e R s m args below meth c H1 locs1 cells slots Q (F0 m (pc + 3) ls (rest))) : W p l e R s m args below meth c H locs cells slots Q (F0 m pc ls st0) :=
  g_callS fx hC hw hM h1 h2 hd hr0 hR hf hn hl hst hrest hdg kk
theorem g_tab (hexec : p.tables.exec = Jvm.exec) (hb : c.code = cc) {dflt lo hi : Int} {offs : Array Int} {len : Nat} {x : Int32} {tgt : Nat} (hdg : decode cc pc = .ok (.tableswitch dflt lo hi offs, len)) (ht : (pc : Int) + dflt = (tgt : Int))
    (h : (x.toInt < lo ∨ hi < x.toInt) ∨ (¬ x.toInt < lo ∧ ¬ hi < x.toInt ∧ offs[(x.toInt - lo).toNat]? = some dflt)) (k : W p l e R s m args below meth c H locs cells slots Q (F0 m tgt ls rest)) : W p l e R s m args below meth c H locs cells slots Q (F0 m pc ls (.int x :: rest)) := by
  rcases h with h | ⟨h1, h2, h3⟩
  · exact lv_tableOut hexec hb hdg h ht k
  · exact lv_tableIn hexec hb hdg h1 h2 h3 ht k
end GRUN2

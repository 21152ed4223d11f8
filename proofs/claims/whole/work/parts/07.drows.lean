/-! ===== the class's world: cells 0 .. 110 of the object graph, each at its address q j ===== -/
abbrev DS : Type := (Nat → Nat → Int32) × (Nat → Nat → Int32) × (Nat → Nat → Int64)
def dS (σ : DS) (c f : Nat) (v : Int32) : DS := (fun j => if j = c then (fun i => if i = f then v else σ.1 c i) else σ.1 j, σ.2)
def dA (σ : DS) (c i : Nat) (v : Int32) : DS := (σ.1, fun j => if j = c then upd (σ.2.1 c) i v else σ.2.1 j, σ.2.2)
def dJ (σ : DS) (c i : Nat) (v : Int64) : DS := (σ.1, σ.2.1, fun j => if j = c then vp_updL (σ.2.2 c) i v else σ.2.2 j)
def dY (σ : DS) (c t sp dp n : Nat) : DS := (σ.1, σ.2.1, fun j => if j = c then va_cpy (σ.2.2 t) (σ.2.2 c) sp dp n else σ.2.2 j)
def dI (cy : Nat → ClassId) (n : Nat) (g : Nat → Int32) : va_E := .inl (cy 0, n, .inl g)
def dL (cy : Nat → ClassId) (n : Nat) (h : Nat → Int64) : va_E := .inl (cy 1, n, .inr (.inl h))
def dQ (cy : Nat → ClassId) (k n b : Nat) (q : Nat → Nat) : va_E := .inl (cy k, n, .inr (.inr (.inr (.inr (fun i => if i < n then some (q (b + i)) else none)))))
/-- the objects' fields -/
def d8 (q : Nat → Nat) (f : Nat → Int32) : List Value := [.ref (q 1), .ref (q 7), .int (f 2), .ref (q 77), .ref (q 78), .ref (q 8), .ref (q 9), .ref (q 14), .ref (q 17), .ref (q 25), .ref (q 33), .ref (q 45)]
def d2 (q : Nat → Nat) (f : Nat → Int32) : List Value := [.int (f 0), .int (f 1), .ref (q 2), .ref (q 3), .ref (q 4), .ref (q 5), .ref (q 6)]
def d5 (q : Nat → Nat) : List Value := [.ref (q 10), .ref (q 11), .ref (q 12), .ref (q 13)]
def d6 (q : Nat → Nat) : List Value := [.ref (q 15), .ref (q 16)]
def d3 (q : Nat → Nat) (b : Nat) (f : Nat → Int32) : List Value := [.int (f 0), .ref (q (b + 1)), .ref (q (b + 6)), .ref (q (b + 7))]
def d1 (q : Nat → Nat) : List Value := [.ref (q 34), .ref (q 35), .ref (q 36), .ref (q 43), .ref (q 44)]
def d0 (q : Nat → Nat) (f : Nat → Int32) : List Value := [.int (f 0), .ref (q 46), .int (f 2), .int (f 3)]
def d7 (q : Nat → Nat) (k : Nat) (f : Nat → Int32) : List Value := [.int (f 0), .ref (q (79 + k))]
def dK (cy : Nat → ClassId) (q : Nat → Nat) (j : Nat) (f g : Nat → Int32) (h : Nat → Int64) : va_E :=
  if j < 47 then (match j with
    | 0 => .inr (8, d8 q f) | 1 => .inr (2, d2 q f) | 2 => dI cy 8 g | 3 => dI cy 12 g | 4 => dI cy 12 g | 5 => dI cy 12 g | 6 => dI cy 12 g
    | 7 => dQ cy 3 30 47 q | 8 => dI cy 4096 g | 9 => .inr (5, d5 q) | 10 => dI cy 12 g | 11 => dI cy 64 g | 12 => dI cy 64 g | 13 => dI cy 1201 g
    | 14 => .inr (6, d6 q) | 15 => dL cy 4096 h | 16 => dL cy 4096 h
    | 17 => .inr (3, d3 q 17 f) | 18 => dQ cy 4 4 19 q | 19 => dI cy 768 g | 20 => dI cy 768 g | 21 => dI cy 768 g | 22 => dI cy 768 g | 23 => dI cy 256 g | 24 => dI cy 768 g
    | 25 => .inr (3, d3 q 25 f) | 26 => dQ cy 4 4 27 q | 27 => dI cy 768 g | 28 => dI cy 768 g | 29 => dI cy 768 g | 30 => dI cy 768 g | 31 => dI cy 256 g | 32 => dI cy 768 g
    | 33 => .inr (1, d1 q) | 34 => dI cy 6 g | 35 => dI cy 6 g | 36 => dQ cy 4 6 37 q | 37 => dI cy 40 g | 38 => dI cy 40 g | 39 => dI cy 40 g | 40 => dI cy 40 g | 41 => dI cy 40 g | 42 => dI cy 40 g | 43 => dI cy 6 g | 44 => dI cy 6 g
    | 45 => .inr (0, d0 q f) | _ => dI cy 40 g)
  else if j < 79 then .inr (7, d7 q (j - 47) f) else dL cy 64 h
def dW (cy : Nat → ClassId) (q : Nat → Nat) (σ : DS) : va_W := (List.range 111).map (fun j => (q j, dK cy q j (σ.1 j) (σ.2.1 j) (σ.2.2 j)))
abbrev dwd (cy : Nat → ClassId) (q : Nat → Nat) (X : va_W) : DS → va_W := fun σ => dW cy q σ ++ X
theorem dw_w {cy : Nat → ClassId} {q : Nat → Nat} {X : va_W} : ∀ x y : DS, (dwd cy q X x).map (·.1) = (dwd cy q X y).map (·.1) := fun x y => by simp only [dwd, dW, List.map_append, List.map_map]; rfl
/-- what kind of cell a place is -/
def KI (cy : Nat → ClassId) (q : Nat → Nat) (c n : Nat) : Prop := c < 111 ∧ n < 2 ^ 31 ∧ ∀ f g h, dK cy q c f g h = dI cy n g
def KJ (cy : Nat → ClassId) (q : Nat → Nat) (c n : Nat) : Prop := c < 111 ∧ n < 2 ^ 31 ∧ ∀ f g h, dK cy q c f g h = dL cy n h
def KQ (cy : Nat → ClassId) (q : Nat → Nat) (c k n b : Nat) : Prop := c < 111 ∧ ∀ f g h, dK cy q c f g h = dQ cy k n b q
def KO (cy : Nat → ClassId) (q : Nat → Nat) (c ci : Nat) (fl : (Nat → Int32) → List Value) : Prop := c < 111 ∧ ∀ f g h, dK cy q c f g h = .inr (ci, fl f)
theorem dW_len {cy : Nat → ClassId} {q : Nat → Nat} {σ : DS} : (dW cy q σ).length = 111 := by simp [dW]
theorem dW_at {cy : Nat → ClassId} {q : Nat → Nat} {X : va_W} {σ : DS} {c : Nat} (hc : c < 111) : (dwd cy q X σ)[c]? = some (q c, dK cy q c (σ.1 c) (σ.2.1 c) (σ.2.2 c)) := by
  show (dW cy q σ ++ X)[c]? = _
  rw [List.getElem?_append_left (by rw [dW_len]; exact hc)]
  simp [dW, List.getElem?_range hc]
theorem dW_set {cy : Nat → ClassId} {q : Nat → Nat} {X : va_W} {σ σ' : DS} {c : Nat} {e : va_E} (hc : c < 111) (he : dK cy q c (σ'.1 c) (σ'.2.1 c) (σ'.2.2 c) = e) (h1 : ∀ j, j ≠ c → σ'.1 j = σ.1 j) (h2 : ∀ j, j ≠ c → σ'.2.1 j = σ.2.1 j) (h3 : ∀ j, j ≠ c → σ'.2.2 j = σ.2.2 j) : (dwd cy q X σ).set c (q c, e) = dwd cy q X σ' := by
  show (dW cy q σ ++ X).set c (q c, e) = dW cy q σ' ++ X
  rw [List.set_append_left _ _ (by rw [dW_len]; exact hc)]
  congr 1
  apply List.ext_getElem?
  intro j
  by_cases hj : j < 111
  · by_cases hjc : j = c
    · subst hjc
      rw [List.getElem?_set_self (by rw [dW_len]; exact hc)]
      simp [dW, List.getElem?_range hj, he]
    · rw [List.getElem?_set_ne (fun h => hjc h.symm)]
      simp [dW, List.getElem?_range hj, h1 j hjc, h2 j hjc, h3 j hjc]
  · rw [List.getElem?_eq_none (by rw [List.length_set, dW_len]; omega), List.getElem?_eq_none (by rw [dW_len]; omega)]
theorem K7 {cy : Nat → ClassId} {q : Nat → Nat} {k : Nat} (hk : k < 32) : KO cy q (47 + k) 7 (d7 q k) := ⟨by omega, fun f g h => by
  unfold dK
  rw [if_neg (by omega), if_pos (by omega), show 47 + k - 47 = k by omega]⟩
theorem K7w {cy : Nat → ClassId} {q : Nat → Nat} {k : Nat} (hk : k < 32) : KJ cy q (79 + k) 64 := ⟨by omega, by omega, fun f g h => by
  unfold dK
  rw [if_neg (by omega), if_neg (by omega)]⟩
theorem K3 {cy : Nat → ClassId} {q : Nat → Nat} {b : Nat} (hb : b = 17 ∨ b = 25) : KO cy q b 3 (d3 q b) := by rcases hb with rfl | rfl <;> exact ⟨by omega, fun _ _ _ => rfl⟩
theorem K3q {cy : Nat → ClassId} {q : Nat → Nat} {b : Nat} (hb : b = 17 ∨ b = 25) : KQ cy q (b + 1) 4 4 (b + 2) := by rcases hb with rfl | rfl <;> exact ⟨by omega, fun _ _ _ => rfl⟩
theorem K3c {cy : Nat → ClassId} {q : Nat → Nat} {b : Nat} (hb : b = 17 ∨ b = 25) {w : Nat} (hw : w < 4) : KI cy q (b + 2 + w) 768 := by
  rcases (show w = 0 ∨ w = 1 ∨ w = 2 ∨ w = 3 by omega) with rfl | rfl | rfl | rfl <;> rcases hb with rfl | rfl <;> exact ⟨by omega, by omega, fun _ _ _ => rfl⟩
theorem K3l {cy : Nat → ClassId} {q : Nat → Nat} {b : Nat} (hb : b = 17 ∨ b = 25) : KI cy q (b + 6) 256 := by rcases hb with rfl | rfl <;> exact ⟨by omega, by omega, fun _ _ _ => rfl⟩
theorem K3b {cy : Nat → ClassId} {q : Nat → Nat} {b : Nat} (hb : b = 17 ∨ b = 25) : KI cy q (b + 7) 768 := by rcases hb with rfl | rfl <;> exact ⟨by omega, by omega, fun _ _ _ => rfl⟩
theorem K1i {cy : Nat → ClassId} {q : Nat → Nat} {w : Nat} (hw : w < 6) : KI cy q (37 + w) 40 := by
  rcases (show w = 0 ∨ w = 1 ∨ w = 2 ∨ w = 3 ∨ w = 4 ∨ w = 5 by omega) with rfl | rfl | rfl | rfl | rfl | rfl <;> exact ⟨by omega, by omega, fun _ _ _ => rfl⟩
/-! the constants that stand in static rows -/
def zWITH : Nat → Int64 := fun j => [(-6148914691236517206 : Int64), -3689348814741910324, -1085102592571150096, -71777214294589696, -281470681808896, -4294967296].getD j 0
def zABOVE : Nat → Int32 := fun j => [(-1 : Int32), 0, 1, 0, 0, 3].getD j 0
def zFIT : Nat → Int32 := fun j => [(10 : Int32), 20, 20, 10, 10, 60].getD j 0
def zJOIN : Nat → Int32 := fun j => [(11 : Int32), 11, 30, 40, 11, 61].getD j 0
def zWEIGH : Nat → Int32 := fun j => [(12 : Int32), 21, 21, 12, 50, 12].getD j 0
def sT (C n d : String) (ty : FieldType) (f : Nat → Value) (ad : List Nat) (U : State) : Prop := ∃ t : Nat, va_Z C n d (.ref t) (fun x => x ∈ ad) U U.heap ∧ va_T ty t 6 f (fun x => x ∈ ad) U U.heap
def SX (ad : List Nat) (U : State) : Prop :=
  sT "WayBook$Ways" "WITH" "[J" .long (fun j => .long (zWITH j)) ad U ∧ sT "WayBook" "KIND_ABOVE" "[I" .int (fun j => .int (zABOVE j)) ad U ∧ sT "WayBook$Acts" "FITTING" "[I" .int (fun j => .int (zFIT j)) ad U ∧ sT "WayBook$Acts" "JOINING" "[I" .int (fun j => .int (zJOIN j)) ad U ∧ sT "WayBook$Acts" "WEIGHING" "[I" .int (fun j => .int (zWEIGH j)) ad U ∧
  va_Nw (.fieldLinkNest "WayBook$Host" 54 "WayBook" "KIND_ABOVE" "[I" "WayBook") U ∧ va_Nw (.fieldLinkNest "WayBook$Acts" 29 "WayBook" "KIND_ABOVE" "[I" "WayBook") U
theorem sT.to {C n d : String} {ty : FieldType} {f : Nat → Value} {ad : List Nat} {s U : State} (h : sT C n d ty f ad s) (hvm : s.vm.Alike U.vm) (hq : ∀ a : Nat, a < s.heap.size → ¬ a ∈ ad → U.heap[a]? = s.heap[a]?) : sT C n d ty f ad U := by
  obtain ⟨t, h1, h2⟩ := h
  exact ⟨t, va_Z.kept (va_Z.moved hvm h1) hq, va_T.kept (va_T.moved hvm h2) hq⟩
theorem SX.to {ad : List Nat} {s U : State} (h : SX ad s) (hW : s.WarmedH U.vm) (hq : ∀ a : Nat, a < s.heap.size → ¬ a ∈ ad → U.heap[a]? = s.heap[a]?) : SX ad U := by
  obtain ⟨h1, h2, h3, h4, h5, h6, h7⟩ := h
  exact ⟨h1.to hW.alike hq, h2.to hW.alike hq, h3.to hW.alike hq, h4.to hW.alike hq, h5.to hW.alike hq, h6.warmF hW, h7.warmF hW⟩
theorem SX.calling {ad : List Nat} {U : State} {g : JFrame} {mk : MethodId} {a : Array Value} (h : SX ad U) : SX ad (U.calling g mk a) := by
  have hvm : U.vm.Alike (U.calling g mk a).vm := Vm.Alike.refl U.vm
  obtain ⟨h1, h2, h3, h4, h5, h6, h7⟩ := h
  exact ⟨h1.to hvm (fun _ _ _ => rfl), h2.to hvm (fun _ _ _ => rfl), h3.to hvm (fun _ _ _ => rfl), h4.to hvm (fun _ _ _ => rfl), h5.to hvm (fun _ _ _ => rfl), va_Nw.same rfl (u := U) rfl h6, va_Nw.same rfl (u := U) rfl h7⟩
def DP {σ : Type} (D : va_G) (cy : Nat → ClassId) (wd : σ → va_W) (ad : List Nat) (av : List Value) (τ : σ) : Array Value → State → Prop := fun v U => GP D cy wd ad av τ v U ∧ SX ad U
def DM {σ : Type} (l : Launch) (y : MethodName) (b : ByteArray) (n : Nat) (ret : Option FieldType) (rm : Room) (D : va_G) (cy : Nat → ClassId) (wd : σ → va_W) (ad : List Nat) (av : List Value) (τ : σ) (res : Option Value) (τ' : σ) : Prop :=
  Met l y (Cond.code y b n ret :: wsL_law) rm (DP D cy wd ad av τ) (GQ D wd ad res τ') 0 0 (fun x => x ∈ ad)
theorem d_blind {σ : Type} {D : va_G} {cy : Nat → ClassId} {wd : σ → va_W} {ad : List Nat} {av : List Value} {τ : σ} : FrameBlind (DP D cy wd ad av τ) :=
  fun a U g mk q => ⟨g_blind a U g mk q.1, q.2.calling⟩
theorem d_start {σ : Type} {l : Launch} {y : MethodName} {b : ByteArray} {n : Nat} {ret : Option FieldType} {rm : Room} {D : va_G} {cy : Nat → ClassId} {wd : σ → va_W} {ad : List Nat} {av : List Value} {τ τ' : σ} {res : Option Value} (own : String)
    (ho : y.cls = own) (hy : plainName y.cls = true) (hsl : (lg_sl av).length ≤ n)
    (body : ∀ (p : Program) (e : Env) (s : State) (m : MethodId) (args : Array Value) (below : List Frame) (meth : Method) (c : Code), FX p s m args meth c b n own D cy → SX ad s → meth.sig.returnType = ret → GC D wd ad s τ s.heap [] → ∀ ls : Array Slot, lv_has ls n (lv_args 0 av) →
      W p l e rm s m args below meth c s.heap [] 0 0 (MQ below (GQ D wd ad res τ') args s 0 0 (fun x => x ∈ ad)) (F0 m 0 ls [])) : DM l y b n ret rm D cy wd ad av τ res τ' := by
  refine Met.ofW (cc := b) (maxL := n) (ret := ret) hy rfl ?_
  intro p e s m args below meth c s₁ B hml hv
  obtain ⟨⟨rfl, hP, hK, hD⟩, hsx⟩ := hv
  have hts := atoms_spec (ws := Cond.code y b n ret :: wsL_law) B.pre
  have hown : s.vm.findClass own = some m.cls := by rw [← ho]; exact findClass_of_methodNamed B.named
  rw [lg_entry_eq]
  exact body p e s m _ below meth c ⟨B.exec, B.bytes, hml, hown, fun w h => hts w (List.mem_cons_of_mem _ h), hK, B.notSynchronized⟩ hsx B.returns ⟨hP, hD, va_S.rf⟩ _ (lv_entry av hsl)
section DROWS
variable {p : Program} {l : Launch} {e : Env} {R : Room} {s : State} {m : MethodId} {args : Array Value} {below : List Frame} {meth : Method} {c : Code} {H : Heap} {locs : List Loc} {cells slots : Nat} {Q : State → Prop}
variable {cc : ByteArray} {nL pc : Nat} {own : String} {ls : Array Slot} {rest st0 : List Value} {D : va_G} {cy : Nat → ClassId} {σ : Type} {wd : σ → va_W} {ad : List Nat} {τ τ' : σ} {q : Nat → Nat} {X : va_W} {u : DS}
theorem d_callV {y : MethodName} {b : ByteArray} {n n' : Nat} {ret : Option FieldType} {rm : Room} {C : String} {idx : Nat} {As : List Value} {a k0 ci : Nat} {fs : List Value} {qc : vw_C} {res : Option Value}
    (fx : FX p s m args meth c cc nL own D cy) (sx : SX ad s) (hC : GC D wd ad s τ H locs) (hw : ∀ x y : σ, (wd x).map (·.1) = (wd y).map (·.1)) (hM : DM l y b n ret rm D cy wd ad (.ref a :: As) τ res τ')
    (h1 : Cond.methodLink own idx y ∈ wsL_law) (h2 : Cond.instanceMethod y ∈ wsL_law ∧ Cond.selects C y y ∈ wsL_law ∧ Cond.initialized C ∈ wsL_law ∧ Cond.code y b n ret ∈ wsL_law)
    (hd : y.cls = C ∧ y.cls ≠ "java/lang/invoke/MethodHandle" ∧ y.cls ≠ "java/lang/invoke/VarHandle" ∧ (parseMethodDescriptor y.desc).map (fun d => d.parameters.length) = some n')
    (hci : vwCl[ci]? = some qc) (hqc : qc.1 = C) (he : (wd τ)[k0]? = some (a, .inr (ci, fs))) (hr0 : rm.cells = 0 ∧ rm.slots = 0) (hR : rm.frames + 1 ≤ R.frames ∧ 8 + (n + 11) + rm.locals ≤ R.locals) (hf : cells ≤ R.cells ∧ slots ≤ R.slots)
    (hn : As.length = n') (hl : ls.size = nL) (hst : st0 = As.reverse ++ .ref a :: rest) (hrest : (rest.map fun v => v.category).sum ≤ 8) (hdg : decode cc pc = .ok (.invokevirtual idx, 3))
    (kk : ∀ (H1 : Heap) (locs1 : List Loc), GC D wd ad s τ' H1 locs1 → W p l e R s m args below meth c H1 locs1 cells slots Q (F0 m (pc + 3) ls (res.toList ++ rest))) : W p l e R s m args below meth c H locs cells slots Q (F0 m pc ls st0) := by
  obtain ⟨hx, hb, hml, hown, hts, hK, -⟩ := fx
  subst hqc
  refine g_run (va_runV (Ts := wsL_law) (As := As) (n := n') (rest := rest) (b := a) (C := qc.1) ⟨hx, hb, hml, hown, hts⟩ hM (cwV n' hts (gT1 h1 (gT1 h2.1 (gT1 h2.2.1 (gT1 h2.2.2.1 (gT1 h2.2.2.2 gT))))) rfl hr0.1 hr0.2 hd hR) ⟨d_blind, va_recv hK hC.1 hci he, fun U hU hW => ⟨⟨rfl, by rw [hU]; exact hC.1, va_K.moved hW.alike hK, hC.2.1⟩, sx.to hW (by rw [hU]; exact hC.2.2.2.1)⟩⟩ rfl hn hl hst (lv_room hrest) hdg hf) hC hw kk
theorem d_callS {y : MethodName} {b : ByteArray} {n n' : Nat} {ret : Option FieldType} {rm : Room} {idx : Nat} {As : List Value} {res : Option Value}
    (fx : FX p s m args meth c cc nL own D cy) (sx : SX ad s) (hC : GC D wd ad s τ H locs) (hw : ∀ x y : σ, (wd x).map (·.1) = (wd y).map (·.1)) (hM : DM l y b n ret rm D cy wd ad As τ res τ')
    (h1 : Cond.methodLink own idx y ∈ wsL_law) (h2 : Cond.static y ∈ wsL_law ∧ Cond.initialized y.cls ∈ wsL_law ∧ Cond.code y b n ret ∈ wsL_law)
    (hd : y.cls ≠ "java/lang/invoke/MethodHandle" ∧ y.cls ≠ "java/lang/invoke/VarHandle" ∧ (parseMethodDescriptor y.desc).map (fun d => d.parameters.length) = some n')
    (hr0 : rm.cells = 0 ∧ rm.slots = 0) (hR : rm.frames + 1 ≤ R.frames ∧ 8 + (n + 11) + rm.locals ≤ R.locals) (hf : cells ≤ R.cells ∧ slots ≤ R.slots)
    (hn : As.length = n') (hl : ls.size = nL) (hst : st0 = As.reverse ++ rest) (hrest : (rest.map fun v => v.category).sum ≤ 8) (hdg : decode cc pc = .ok (.invokestatic idx, 3))
    (kk : ∀ (H1 : Heap) (locs1 : List Loc), GC D wd ad s τ' H1 locs1 → W p l e R s m args below meth c H1 locs1 cells slots Q (F0 m (pc + 3) ls (res.toList ++ rest))) : W p l e R s m args below meth c H locs cells slots Q (F0 m pc ls st0) := by
  obtain ⟨hx, hb, hml, hown, hts, hK, -⟩ := fx
  refine g_run (va_runS (Ts := wsL_law) (As := As) (n := n') (rest := rest) ⟨hx, hb, hml, hown, hts⟩ hM (va_cwS n' hts (gT1 h1 (gT1 h2.1 (gT1 h2.2.1 (gT1 h2.2.2 gT)))) rfl hr0.1 hr0.2 hd hR) ⟨d_blind, fun U hU hW => ⟨⟨rfl, by rw [hU]; exact hC.1, va_K.moved hW.alike hK, hC.2.1⟩, sx.to hW (by rw [hU]; exact hC.2.2.2.1)⟩⟩ rfl hn hl hst (lv_room hrest) hdg hf) hC hw kk
theorem g_aret {res : Option Value} {v : Value} {rt : FieldType} (fx : FX p s m args meth c cc nL own D cy) (hr : meth.sig.returnType = some rt) (hrt : (∃ n, rt = .object n) ∨ ∃ t, rt = .array t) (hv : v = .null ∨ ∃ a, v = .ref a) (hC : GC D wd ad s τ' H locs) (hres : res = some v) (hdg : decode cc pc = .ok (.areturn, 1)) :
    W p l e R s m args below meth c H locs cells slots (MQ below (GQ D wd ad res τ') args s cells slots (fun x => x ∈ ad)) (F0 m pc ls [v]) := by
  subst hres
  have hlocks : meth.locks = false := fx.2.2.2.2.2.2
  exact W.aret fx.1 fx.2.1 hr hrt hv (fun t ht hW => ⟨⟨rfl, by rw [ht]; exact hC.1⟩, hC.2.2.F ht⟩) hC.2.2.2.2 hdg
/-- a field of an object of the class's world -/
theorem Dget {ref C : String} {T : u_T} {N ci c0 idx : Nat} {fl : (Nat → Int32) → List Value} (fx : FX p s m args meth c cc nL own D cy) (hC : GC D (dwd cy q X) ad s u H locs) (ho : KO cy q c0 ci fl) (hin : ∀ w ∈ u_ws C T N, w ∈ wsL_law) (hc : vwCl[ci]? = some (C, T, N)) (k : Nat) (hk : k < N) (hlink : Cond.fieldLink own idx ref (T k).2.1 (T k).2.2.1 ∈ wsL_law) (hsame : ∀ x, s.fieldFound? (T k).1 (T k).2.1 (T k).2.2.1 = some x → s.fieldFound? ref (T k).2.1 (T k).2.2.1 = some x) {v : Value} (hv : (fl (u.1 c0))[k]? = some v) (hdg : decode cc pc = .ok (.getfield idx, 3))
    (kk : W p l e R s m args below meth c H locs cells slots Q (F0 m (pc + 3) ls (v :: rest))) : W p l e R s m args below meth c H locs cells slots Q (F0 m pc ls (.ref (q c0) :: rest)) :=
  va_get (ci := ci) (v := v) (C := C) (T := T) (N := N) fx.1 fx.2.1 fx.2.2.2.2.1 hin fx.2.2.2.1 fx.2.2.2.2.2.1 hC.1 c0 (by rw [dW_at ho.1, ho.2]) hc k hk (fx.2.2.2.2.1 _ hlink) hsame hv hdg kk
theorem Dput {ref C : String} {T : u_T} {N ci c0 idx : Nat} {fl : (Nat → Int32) → List Value} {x : Int32} {ty : FieldType} (fx : FX p s m args meth c cc nL own D cy) (hC : GC D (dwd cy q X) ad s u H locs) (ho : KO cy q c0 ci fl) (hin : ∀ w ∈ u_ws C T N, w ∈ wsL_law) (hc : vwCl[ci]? = some (C, T, N)) (ty0 : Nat → FieldType) (hty : ∀ k, k < N → parseFieldDescriptor (T k).2.2.1 = some (ty0 k)) (hnm : ∀ a, a < N → ∀ b, b < N → a ≠ b → (T a).2.1 ≠ (T b).2.1) (k : Nat) (hk : k < N) (hlink : Cond.fieldLink own idx ref (T k).2.1 (T k).2.2.1 ∈ wsL_law) (hsame : ∀ x, s.fieldFound? (T k).1 (T k).2.1 (T k).2.2.1 = some x → s.fieldFound? ref (T k).2.1 (T k).2.2.1 = some x) (hfin : (T k).2.2.2 = false) (hd : parseFieldDescriptor (T k).2.2.1 = some ty) (hn : narrow ty (.int x) = .int x) (hfit : fits ty (.int x) = true) (hlen : k < (fl (u.1 c0)).length)
    (hset : fl (dS u c0 k x |>.1 c0) = (fl (u.1 c0)).set k (.int x)) (hdg : decode cc pc = .ok (.putfield idx, 3))
    (kk : ∀ (H1 : Heap) (locs1 : List Loc), GC D (dwd cy q X) ad s (dS u c0 k x) H1 locs1 → W p l e R s m args below meth c H1 locs1 cells slots Q (F0 m (pc + 3) ls rest)) : W p l e R s m args below meth c H locs cells slots Q (F0 m pc ls (.int x :: .ref (q c0) :: rest)) := by
  have e : (dwd cy q X u).set c0 (q c0, .inr (ci, (fl (u.1 c0)).set k (.int x))) = dwd cy q X (dS u c0 k x) := dW_set ho.1 (by rw [ho.2, hset]) (fun j h => if_neg h) (fun _ _ => rfl) (fun _ _ => rfl)
  exact va_put (ci := ci) (v := .int x) (ty := ty) (C := C) (T := T) (N := N) fx.1 fx.2.1 fx.2.2.2.2.1 hin ty0 hty hnm fx.2.2.2.1 fx.2.2.2.2.2.1 hC.1 hC.2.1 hC.2.2 c0 (by rw [dW_at ho.1, ho.2]) hc k hk (fx.2.2.2.2.1 _ hlink) hsame hfin hd hn hfit hlen hdg (fun H1 l1 h1 h2 h3 => kk H1 l1 ⟨e ▸ h1, e ▸ h2, h3⟩)
theorem DLi {c0 n : Nat} {i : Int32} (fx : FX p s m args meth c cc nL own D cy) (hC : GC D (dwd cy q X) ad s u H locs) (ho : KI cy q c0 n) (hin : vp_in i n) (hdg : decode cc pc = .ok (.iaload, 1))
    (kk : W p l e R s m args below meth c H locs cells slots Q (F0 m (pc + 1) ls (.int (u.2.1 c0 i.toNatClampNeg) :: rest))) : W p l e R s m args below meth c H locs cells slots Q (F0 m pc ls (.int i :: .ref (q c0) :: rest)) :=
  va_iald (n := n) (f := u.2.1 c0) fx.1 fx.2.1 fx.2.2.2.2.2.1 hC.1 c0 0 (by rw [dW_at ho.1, ho.2.2]; rfl) rfl hin hdg kk
theorem DSi {c0 n : Nat} {i x : Int32} (fx : FX p s m args meth c cc nL own D cy) (hC : GC D (dwd cy q X) ad s u H locs) (ho : KI cy q c0 n) (hin : vp_in i n) (hdg : decode cc pc = .ok (.iastore, 1))
    (kk : ∀ (H1 : Heap) (locs1 : List Loc), GC D (dwd cy q X) ad s (dA u c0 i.toNatClampNeg x) H1 locs1 → W p l e R s m args below meth c H1 locs1 cells slots Q (F0 m (pc + 1) ls rest)) : W p l e R s m args below meth c H locs cells slots Q (F0 m pc ls (.int x :: .int i :: .ref (q c0) :: rest)) := by
  have e : (dwd cy q X u).set c0 (q c0, .inl (cy 0, n, .inl (upd (u.2.1 c0) i.toNatClampNeg x))) = dwd cy q X (dA u c0 i.toNatClampNeg x) := dW_set ho.1 (by rw [ho.2.2]; show dI cy n (if c0 = c0 then _ else _) = _; rw [if_pos rfl]; rfl) (fun _ _ => rfl) (fun j h => if_neg h) (fun _ _ => rfl)
  exact va_iast (n := n) (f := u.2.1 c0) fx.1 fx.2.1 fx.2.2.2.2.2.1 hC.1 hC.2.1 hC.2.2 c0 0 (by rw [dW_at ho.1, ho.2.2]; rfl) rfl hin hdg (fun H1 l1 h1 h2 h3 => kk H1 l1 ⟨e ▸ h1, e ▸ h2, h3⟩)
theorem DLj {c0 n : Nat} {i : Int32} (fx : FX p s m args meth c cc nL own D cy) (hC : GC D (dwd cy q X) ad s u H locs) (ho : KJ cy q c0 n) (hin : vp_in i n) (hdg : decode cc pc = .ok (.laload, 1))
    (kk : W p l e R s m args below meth c H locs cells slots Q (F0 m (pc + 1) ls (.long (u.2.2 c0 i.toNatClampNeg) :: rest))) : W p l e R s m args below meth c H locs cells slots Q (F0 m pc ls (.int i :: .ref (q c0) :: rest)) :=
  va_lald (n := n) (f := u.2.2 c0) fx.1 fx.2.1 fx.2.2.2.2.2.1 hC.1 c0 1 (by rw [dW_at ho.1, ho.2.2]; rfl) rfl hin hdg kk
theorem DSj {c0 n : Nat} {i : Int32} {x : Int64} (fx : FX p s m args meth c cc nL own D cy) (hC : GC D (dwd cy q X) ad s u H locs) (ho : KJ cy q c0 n) (hin : vp_in i n) (hdg : decode cc pc = .ok (.lastore, 1))
    (kk : ∀ (H1 : Heap) (locs1 : List Loc), GC D (dwd cy q X) ad s (dJ u c0 i.toNatClampNeg x) H1 locs1 → W p l e R s m args below meth c H1 locs1 cells slots Q (F0 m (pc + 1) ls rest)) : W p l e R s m args below meth c H locs cells slots Q (F0 m pc ls (.long x :: .int i :: .ref (q c0) :: rest)) := by
  have e : (dwd cy q X u).set c0 (q c0, .inl (cy 1, n, .inr (.inl (vp_updL (u.2.2 c0) i.toNatClampNeg x)))) = dwd cy q X (dJ u c0 i.toNatClampNeg x) := dW_set ho.1 (by rw [ho.2.2]; show dL cy n (if c0 = c0 then _ else _) = _; rw [if_pos rfl]; rfl) (fun _ _ => rfl) (fun _ _ => rfl) (fun j h => if_neg h)
  exact va_last (n := n) (f := u.2.2 c0) fx.1 fx.2.1 fx.2.2.2.2.2.1 hC.1 hC.2.1 hC.2.2 c0 1 (by rw [dW_at ho.1, ho.2.2]; rfl) rfl hin hdg (fun H1 l1 h1 h2 h3 => kk H1 l1 ⟨e ▸ h1, e ▸ h2, h3⟩)
theorem DNi {c0 n : Nat} (fx : FX p s m args meth c cc nL own D cy) (hC : GC D (dwd cy q X) ad s u H locs) (ho : KI cy q c0 n) (hdg : decode cc pc = .ok (.arraylength, 1))
    (kk : W p l e R s m args below meth c H locs cells slots Q (F0 m (pc + 1) ls (.int (Int32.ofNat n) :: rest))) : W p l e R s m args below meth c H locs cells slots Q (F0 m pc ls (.ref (q c0) :: rest)) :=
  va_alen (x := (n, .inl (u.2.1 c0))) (ty := .int) fx.1 fx.2.1 fx.2.2.2.2.2.1 hC.1 c0 0 (by rw [dW_at ho.1, ho.2.2]; rfl) rfl rfl hdg kk
theorem DNj {c0 n : Nat} (fx : FX p s m args meth c cc nL own D cy) (hC : GC D (dwd cy q X) ad s u H locs) (ho : KJ cy q c0 n) (hdg : decode cc pc = .ok (.arraylength, 1))
    (kk : W p l e R s m args below meth c H locs cells slots Q (F0 m (pc + 1) ls (.int (Int32.ofNat n) :: rest))) : W p l e R s m args below meth c H locs cells slots Q (F0 m pc ls (.ref (q c0) :: rest)) :=
  va_alen (x := (n, .inr (.inl (u.2.2 c0)))) (ty := .long) fx.1 fx.2.1 fx.2.2.2.2.2.1 hC.1 c0 1 (by rw [dW_at ho.1, ho.2.2]; rfl) rfl rfl hdg kk
/-- a row out of a row of rows (k = 3: of Ways; 4: of ints) -/
theorem DLq {c0 k n b : Nat} {i : Int32} (fx : FX p s m args meth c cc nL own D cy) (hC : GC D (dwd cy q X) ad s u H locs) (ho : KQ cy q c0 k n b) (hk : k = 3 ∨ k = 4) (hin : vp_in i n) (hdg : decode cc pc = .ok (.aaload, 1))
    (kk : W p l e R s m args below meth c H locs cells slots Q (F0 m (pc + 1) ls (.ref (q (b + i.toNatClampNeg)) :: rest))) : W p l e R s m args below meth c H locs cells slots Q (F0 m pc ls (.int i :: .ref (q c0) :: rest)) := by
  have hlt : i.toNatClampNeg < n := Nat.not_le.mp fun z => hin (Or.inr z)
  have hP := hC.1 c0 _ (dW_at (cy := cy) (q := q) (X := X) (σ := u) ho.1)
  rw [ho.2] at hP
  have hv : (if i.toNatClampNeg < n then some (q (b + i.toNatClampNeg)) else none) = some (q (b + i.toNatClampNeg)) := if_pos hlt
  have hcell : H[q c0]? = some (vp_cell (cy k) (n, .inr (.inr (.inr (.inr (fun i => if i < n then some (q (b + i)) else none)))))) := hP
  rw [vp_cell_q] at hcell
  rcases hk with rfl | rfl
  · exact W.aald (v := .ref (q (b + i.toNatClampNeg))) (ty := .object "WayBook$Ways") fx.1 fx.2.1 hcell ((fx.2.2.2.2.2.1.2 3 _ rfl).1 n _) rfl (fun z => by cases z) (by rw [arrV_size]; exact hin) (by rw [arrV_read _ _ hlt, hv]; rfl) rfl rfl hdg kk
  · exact W.aald (v := .ref (q (b + i.toNatClampNeg))) (ty := .array .int) fx.1 fx.2.1 hcell ((fx.2.2.2.2.2.1.2 4 _ rfl).1 n _) rfl (fun z => by cases z) (by rw [arrV_size]; exact hin) (by rw [arrV_read _ _ hlt, hv]; rfl) rfl rfl hdg kk
/-- System.arraycopy of a whole row of longs -/
theorem DYj {c0 t n0 n1 : Nat} {sp dp n : Int32} {idx : Nat} (fx : FX p s m args meth c cc nL own D cy) (hC : GC D (dwd cy q X) ad s u H locs) (ho : KJ cy q c0 n1) (ht : KJ cy q t n0) (hl : ls.size = nL) (k1 : Cond.methodLink own idx arraycopyName ∈ wsL_law) (k2 : Cond.native arraycopyName ∈ wsL_law) (k3 : Cond.static arraycopyName ∈ wsL_law) (k4 : Cond.initialized "java/lang/System" ∈ wsL_law)
    (h1 : ¬ sp < 0) (h2 : ¬ dp < 0) (h3 : ¬ n < 0) (h4 : sp.toNatClampNeg + n.toNatClampNeg ≤ n0) (h5 : dp.toNatClampNeg + n.toNatClampNeg ≤ n1) (hR : 1 ≤ R.frames ∧ (rest.map fun v => v.category).sum + 18 ≤ R.locals) (hdg : decode cc pc = .ok (.invokestatic idx, 3))
    (kk : ∀ (H1 : Heap) (locs1 : List Loc), GC D (dwd cy q X) ad s (dY u c0 t sp.toNatClampNeg dp.toNatClampNeg n.toNatClampNeg) H1 locs1 → W p l e R s m args below meth c H1 locs1 cells slots Q (F0 m (pc + 3) ls rest)) : W p l e R s m args below meth c H locs cells slots Q (F0 m pc ls (.int n :: .int dp :: .ref (q c0) :: .int sp :: .ref (q t) :: rest)) := by
  have e : (dwd cy q X u).set c0 (q c0, .inl (cy 1, n1, .inr (.inl (va_cpy (u.2.2 t) (u.2.2 c0) sp.toNatClampNeg dp.toNatClampNeg n.toNatClampNeg)))) = dwd cy q X (dY u c0 t sp.toNatClampNeg dp.toNatClampNeg n.toNatClampNeg) := dW_set ho.1 (by rw [ho.2.2]; show dL cy n1 (if c0 = c0 then _ else _) = _; rw [if_pos rfl]; rfl) (fun _ _ => rfl) (fun _ _ => rfl) (fun j h => if_neg h)
  exact va_copyl (ty := .long) (f := u.2.2 t) (g := u.2.2 c0) fx.1 fx.2.1 (by rw [hl]; exact fx.2.2.1) fx.2.2.2.1 (fx.2.2.2.2.1 _ k1) (fx.2.2.2.2.1 _ k2) (fx.2.2.2.2.1 _ k3) (fx.2.2.2.2.1 _ k4) fx.2.2.2.2.2.1 hC.1 hC.2.1 hC.2.2 t c0 1 1 (by rw [dW_at ht.1, ht.2.2]; rfl) (by rw [dW_at ho.1, ho.2.2]; rfl) rfl rfl rfl h1 h2 h3 h4 h5 (fun _ _ => rfl) hR.1 hR.2 hdg (fun H1 l1 h1 h2 h3 => kk H1 l1 ⟨e ▸ h1, e ▸ h2, h3⟩)
end DROWS

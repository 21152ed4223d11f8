theorem k_10 : Cond.instanceMethod objectInit ∈ wsL_law := kc_1 _ (List.mem_of_getElem? (i := 10) rfl)
theorem k_11 : Cond.code objectInit ⟨#[0xb1]⟩ 1 none ∈ wsL_law := kc_1 _ (List.mem_of_getElem? (i := 11) rfl)
theorem k_267 : Cond.instanceMethod yX8_paths ∈ wsL_law := kc_12 _ (List.mem_of_getElem? (i := 3) rfl)
theorem k_268 : Cond.selects RX8 yX8_paths yX8_paths ∈ wsL_law := kc_12 _ (List.mem_of_getElem? (i := 4) rfl)
theorem k_269 : Cond.code yX8_paths cX8_paths 5 (some .int) ∈ wsL_law := kc_12 _ (List.mem_of_getElem? (i := 5) rfl)
theorem k_270 : Cond.classLink RX8 124 RX4 ∈ wsL_law := kc_12 _ (List.mem_of_getElem? (i := 6) rfl)
theorem k_271 : Cond.instantiable RX4 8 ∈ wsL_law := kc_12 _ (List.mem_of_getElem? (i := 7) rfl)
theorem k_273 : Cond.methodLink RX8 126 yX4_init ∈ wsL_law := kc_12 _ (List.mem_of_getElem? (i := 9) rfl)
theorem k_274 : Cond.instanceMethod yX4_init ∈ wsL_law := kc_12 _ (List.mem_of_getElem? (i := 10) rfl)
theorem k_275 : Cond.code yX4_init cX4_init 3 none ∈ wsL_law := kc_12 _ (List.mem_of_getElem? (i := 11) rfl)
theorem k_276 : Cond.methodLink RX4 3 objectInit ∈ wsL_law := kc_12 _ (List.mem_of_getElem? (i := 12) rfl)
theorem k_279 : Cond.methodLink RX8 129 yX4_findPaths ∈ wsL_law := kc_12 _ (List.mem_of_getElem? (i := 15) rfl)
theorem k_331 : Cond.instanceMethod yX8_rounds ∈ wsL_law := kc_14 _ (List.mem_of_getElem? (i := 19) rfl)
theorem k_332 : Cond.selects RX8 yX8_rounds yX8_rounds ∈ wsL_law := kc_14 _ (List.mem_of_getElem? (i := 20) rfl)
theorem k_333 : Cond.code yX8_rounds cX8_rounds 3 (some .int) ∈ wsL_law := kc_14 _ (List.mem_of_getElem? (i := 21) rfl)
theorem k_334 : Cond.methodLink RX8 133 yX4_findRounds ∈ wsL_law := kc_14 _ (List.mem_of_getElem? (i := 22) rfl)
theorem k_344 : Cond.instanceMethod yX8_trees ∈ wsL_law := kc_15 _ (List.mem_of_getElem? (i := 8) rfl)
theorem k_345 : Cond.selects RX8 yX8_trees yX8_trees ∈ wsL_law := kc_15 _ (List.mem_of_getElem? (i := 9) rfl)
theorem k_346 : Cond.code yX8_trees cX8_trees 3 (some .int) ∈ wsL_law := kc_15 _ (List.mem_of_getElem? (i := 10) rfl)
theorem k_348 : Cond.methodLink RX8 141 yX4_findTrees ∈ wsL_law := kc_15 _ (List.mem_of_getElem? (i := 12) rfl)
theorem k_395 : Cond.instanceMethod yX8_pairs ∈ wsL_law := kc_17 _ (List.mem_of_getElem? (i := 11) rfl)
theorem k_396 : Cond.selects RX8 yX8_pairs yX8_pairs ∈ wsL_law := kc_17 _ (List.mem_of_getElem? (i := 12) rfl)
theorem k_397 : Cond.code yX8_pairs cX8_pairs 3 (some .int) ∈ wsL_law := kc_17 _ (List.mem_of_getElem? (i := 13) rfl)
theorem k_398 : Cond.methodLink RX8 144 yX4_findPairs ∈ wsL_law := kc_17 _ (List.mem_of_getElem? (i := 14) rfl)
theorem k_411 : Cond.instanceMethod yX8_parts ∈ wsL_law := kc_18 _ (List.mem_of_getElem? (i := 3) rfl)
theorem k_412 : Cond.selects RX8 yX8_parts yX8_parts ∈ wsL_law := kc_18 _ (List.mem_of_getElem? (i := 4) rfl)
theorem k_413 : Cond.code yX8_parts cX8_parts 5 (some .int) ∈ wsL_law := kc_18 _ (List.mem_of_getElem? (i := 5) rfl)
theorem k_414 : Cond.methodLink RX8 147 yX4_findParts ∈ wsL_law := kc_18 _ (List.mem_of_getElem? (i := 6) rfl)
theorem KW_OI4 : Cond.methodLink RX4 3 objectInit ∈ wsL_law := k_276
theorem KW_OI : Cond.instanceMethod objectInit ∈ wsL_law := k_10
theorem KW_OC : Cond.code objectInit ⟨#[0xb1]⟩ 1 none ∈ wsL_law := k_11
theorem KW_F0 : Cond.fieldLink RX4 9 "WayBook$Search" "net" "LWayBook$Net;" ∈ wsL_law := k_277
theorem KW_F1 : Cond.fieldLink RX4 15 "WayBook$Search" "found" "LWayBook$Ways;" ∈ wsL_law := k_278
theorem KW_I4 : Cond.instanceMethod yX4_init ∈ wsL_law ∧ Cond.initialized yX4_init.cls ∈ wsL_law ∧ Cond.code yX4_init cX4_init 3 none ∈ wsL_law := ⟨k_274, k_272, k_275⟩
theorem KH_I4 : yX4_init.cls ≠ "java/lang/invoke/MethodHandle" ∧ yX4_init.cls ≠ "java/lang/invoke/VarHandle" ∧ (parseMethodDescriptor yX4_init.desc).map (fun d => d.parameters.length) = some 2 := by decide +kernel
/-! ===== making: new objects and rows, at the heap's end ===== -/
section MAKE
variable {p : Program} {l : Launch} {e : Env} {R : Room} {s : State} {m : MethodId} {args : Array Value} {below : List Frame} {meth : Method} {c : Code} {H : Heap} {locs : List Loc} {cells slots : Nat} {Q : State → Prop}
variable {cc : ByteArray} {nL pc : Nat} {own : String} {ls : Array Slot} {rest st0 : List Value} {D : va_G} {cy : Nat → ClassId} {ad : List Nat} {q : Nat → Nat} {X : va_W} {u : DS} {ws : va_W}
theorem n_new {C : String} {T : u_T} {N ci idx : Nat} (fx : FX p s m args meth c cc nL own D cy) (hP : va_P D vwCl ws H) (hin : ∀ w ∈ u_ws C T N, w ∈ wsL_law) (ty : Nat → FieldType) (hty : ∀ k, k < N → parseFieldDescriptor (T k).2.2.1 = some (ty k)) (hcl : Cond.classLink own idx C ∈ wsL_law) (hinst : Cond.instantiable C N ∈ wsL_law) (hini : Cond.initialized C ∈ wsL_law)
    (hc : vwCl[ci]? = some (C, T, N)) {fs : List Value} (hfs : ∀ j, j < N → defaultValue (ty j) = vp_V fs j) (hcells : cells + 1 ≤ R.cells) (hslots : slots + N ≤ R.slots) (hdg : decode cc pc = .ok (.new idx, 3))
    (kk : ∀ H1 : Heap, va_P D vwCl (ws ++ [(H.size, .inr (ci, fs))]) H1 → H1.size = H.size + 1 → (∀ x, x < H.size → H1[x]? = H[x]?) → W p l e R s m args below meth c H1 locs (cells + 1) (slots + N) Q (F0 m (pc + 3) ls (.ref H.size :: rest))) : W p l e R s m args below meth c H locs cells slots Q (F0 m pc ls rest) := by
  have hts := fx.2.2.2.2.1
  have hKn := fx.2.2.2.2.2.1.1 ci _ hc
  refine W.newcK fx.1 fx.2.1 fx.2.2.2.1 (hts _ hcl) (hts _ hinst) (hts _ hini) rfl hdg hcells hslots hKn.2.1 rfl fun H1 kC hkC e1 z1 o1 => ?_
  have hk : ∀ (k : Nat) (x : Nat × va_E), ws[k]? = some x → H1[x.1]? = H[x.1]? := fun k x hx => o1 x.1 ((hP k x hx).lt)
  refine kk H1 ((hP.kept hk).app (fun k x hx => ?_)) z1 o1
  have hz : k < 1 := (List.getElem?_eq_some_iff.mp hx).1
  rw [show k = 0 by omega] at hx
  cases hx
  exact ⟨_, hc, (u_born ty hts hin hKn hkC e1 hty).to hfs⟩
/-- a cell behind the class's world -/
theorem x_at {z : Nat} {e : va_E} : (dwd cy q (X ++ [(z, e)]) u)[111 + X.length]? = some (z, e) := by
  show (dW cy q u ++ (X ++ [(z, e)]))[111 + X.length]? = _
  rw [List.getElem?_append_right (by rw [dW_len]; omega), dW_len, List.getElem?_append_right (by omega), show 111 + X.length - 111 - X.length = 0 by omega]
  rfl
theorem x_set {z : Nat} {e e2 : va_E} : (dwd cy q (X ++ [(z, e)]) u).set (111 + X.length) (z, e2) = dwd cy q (X ++ [(z, e2)]) u := by
  show (dW cy q u ++ (X ++ [(z, e)])).set (111 + X.length) _ = dW cy q u ++ (X ++ [(z, e2)])
  rw [List.set_append_right _ _ (by rw [dW_len]; omega), dW_len, List.set_append_right _ _ (by omega), show 111 + X.length - 111 - X.length = 0 by omega]
  rfl
def raw4 : List Value := [.null, .null, .int 0, .int 0, .int 0, .int 0, .int 0, .int 0]
theorem sT.grow {C n d : String} {ty : FieldType} {f : Nat → Value} {z : Nat} (h : sT C n d ty f ad s) (hz : s.heap.size ≤ z) : sT C n d ty f (ad ++ [z]) s := by
  obtain ⟨t, ⟨cf, kf, fi, fd, a, cell, h1, h2, h3, h4, h5, h6, h7, h8⟩, cell2, g1, g2, g3, g4, g5, g6, g7⟩ := h
  have ha : a < s.heap.size := (Array.getElem?_eq_some_iff.mp h5).1
  have ht : t < s.heap.size := (Array.getElem?_eq_some_iff.mp g1).1
  refine ⟨t, ⟨cf, kf, fi, fd, a, cell, h1, h2, h3, h4, h5, h6, h7, fun hm => ?_⟩, cell2, g1, g2, g3, g4, g5, g6, fun hm => ?_⟩
  · rcases List.mem_append.mp hm with hm | hm
    · exact h8 hm
    · rw [List.mem_singleton.mp hm] at ha; omega
  · rcases List.mem_append.mp hm with hm | hm
    · exact g7 hm
    · rw [List.mem_singleton.mp hm] at ht; omega
theorem SX.grow {z : Nat} (h : SX ad s) (hz : s.heap.size ≤ z) : SX (ad ++ [z]) s := by
  obtain ⟨h1, h2, h3, h4, h5, h6, h7⟩ := h
  exact ⟨h1.grow hz, h2.grow hz, h3.grow hz, h4.grow hz, h5.grow hz, h6, h7⟩
theorem d_new {idx : Nat} (fx : FX p s m args meth c cc nL own D cy) (hC : GC D (dwd cy q X) ad s u H locs) (hcl : Cond.classLink own idx RX4 ∈ wsL_law) (hinst : Cond.instantiable RX4 8 ∈ wsL_law) (hini : Cond.initialized RX4 ∈ wsL_law) (hR : cells + 1 ≤ R.cells ∧ slots + 8 ≤ R.slots) (hdg : decode cc pc = .ok (.new idx, 3))
    (kk : ∀ (z : Nat) (H1 : Heap), s.heap.size ≤ z → GC D (fun fs : List Value => dwd cy q (X ++ [(z, .inr (4, fs))]) u) (ad ++ [z]) s raw4 H1 locs → W p l e R s m args below meth c H1 locs (cells + 1) (slots + 8) Q (F0 m (pc + 3) ls (.ref z :: rest))) : W p l e R s m args below meth c H locs cells slots Q (F0 m pc ls rest) := by
  obtain ⟨hP, hD, hS⟩ := hC
  refine n_new (ci := 4) (fs := raw4) (C := RX4) (T := TX4) (N := 8) fx hP inlX4 tyX4 tyX4_ok hcl hinst hini rfl (fun j hj => by rcases (show j = 0 ∨ j = 1 ∨ j = 2 ∨ j = 3 ∨ j = 4 ∨ j = 5 ∨ j = 6 ∨ j = 7 by omega) with rfl | rfl | rfl | rfl | rfl | rfl | rfl | rfl <;> rfl) hR.1 hR.2 hdg fun H1 hP1 hz1 ho => ?_
  refine kk H.size H1 hS.1 ⟨?_, ?_, ?_, ?_, ?_⟩
  · show va_P D vwCl (dW cy q u ++ (X ++ [(H.size, .inr (4, raw4))])) H1
    rw [← List.append_assoc]; exact hP1
  · show va_D (fun x => x ∈ ad ++ [H.size]) (dW cy q u ++ (X ++ [(H.size, .inr (4, raw4))]))
    rw [← List.append_assoc]
    exact va_D.push (A := fun x => x ∈ ad ++ [H.size]) (hD.weaken (fun k x _ h => List.mem_append_left _ h)) hP rfl (List.mem_append_right _ (List.mem_singleton.mpr rfl))
  · rw [hz1]; have := hS.1; omega
  · intro x h1 h2
    rw [ho x (Nat.lt_of_lt_of_le h1 hS.1)]
    exact hS.2.1 x h1 (fun h => h2 (List.mem_append_left _ h))
  · exact fun x hx => List.mem_append_left _ (hS.2.2 x hx)
theorem d_callI {σ : Type} {wd : σ → va_W} {τ τ' : σ} {y : MethodName} {b : ByteArray} {n n' : Nat} {rm : Room} {idx : Nat} {As : List Value} {a : Nat}
    (fx : FX p s m args meth c cc nL own D cy) (sx : SX ad s) (hC : GC D wd ad s τ H locs) (hw : ∀ x y : σ, (wd x).map (·.1) = (wd y).map (·.1)) (hM : DM l y b n none rm D cy wd ad (.ref a :: As) τ none τ')
    (h1 : Cond.methodLink own idx y ∈ wsL_law) (h2 : Cond.instanceMethod y ∈ wsL_law ∧ Cond.initialized y.cls ∈ wsL_law ∧ Cond.code y b n none ∈ wsL_law) (hy1 : y.name = "<init>")
    (hd : y.cls ≠ "java/lang/invoke/MethodHandle" ∧ y.cls ≠ "java/lang/invoke/VarHandle" ∧ (parseMethodDescriptor y.desc).map (fun d => d.parameters.length) = some n')
    (hr0 : rm.cells = 0 ∧ rm.slots = 0) (hR : rm.frames + 1 ≤ R.frames ∧ 8 + (n + 11) + rm.locals ≤ R.locals) (hf : cells ≤ R.cells ∧ slots ≤ R.slots)
    (hn : As.length = n') (hl : ls.size = nL) (hst : st0 = As.reverse ++ .ref a :: rest) (hrest : (rest.map fun v => v.category).sum ≤ 8) (hdg : decode cc pc = .ok (.invokespecial idx, 3))
    (kk : ∀ (H1 : Heap) (locs1 : List Loc), GC D wd ad s τ' H1 locs1 → W p l e R s m args below meth c H1 locs1 cells slots Q (F0 m (pc + 3) ls rest)) : W p l e R s m args below meth c H locs cells slots Q (F0 m pc ls st0) := by
  obtain ⟨hx, hb, hml, hown, hts, hK, -⟩ := fx
  exact g_run (va_runI (Ts := wsL_law) (As := As) (n := n') (rest := rest) (b := a) ⟨hx, hb, hml, hown, hts⟩ hM (cwI n' hts (gT1 h2.2.2 gT) rfl hr0.1 hr0.2 (hts _ h2.2.1) (hts _ h1) (hts _ h2.1) hy1 hd hR) ⟨d_blind, fun U hU hW => ⟨⟨rfl, by rw [hU]; exact hC.1, va_K.moved hW.alike hK, hC.2.1⟩, sx.to hW (by rw [hU]; exact hC.2.2.2.1)⟩⟩ rfl hn hl hst (lv_room hrest) hdg hf) hC hw kk
end MAKE
/-- as d_start, for a constructor -/
theorem d_startI {σ : Type} {l : Launch} {y : MethodName} {b : ByteArray} {n : Nat} {rm : Room} {D : va_G} {cy : Nat → ClassId} {wd : σ → va_W} {ad : List Nat} {av : List Value} {τ τ' : σ} (own : String)
    (ho : y.cls = own) (hn : y.name = "<init>") (hy : plainName y.cls = true) (hsl : (lg_sl av).length ≤ n)
    (body : ∀ (p : Program) (e : Env) (s : State) (m : MethodId) (args : Array Value) (below : List Frame) (meth : Method) (c : Code), FX p s m args meth c b n own D cy → meth.name = "<init>" → SX ad s → meth.sig.returnType = none → GC D wd ad s τ s.heap [] → ∀ ls : Array Slot, lv_has ls n (lv_args 0 av) →
      W p l e rm s m args below meth c s.heap [] 0 0 (MQ below (GQ D wd ad none τ') args s 0 0 (fun x => x ∈ ad)) (F0 m 0 ls [])) : DM l y b n none rm D cy wd ad av τ none τ' := by
  refine Met.ofW (cc := b) (maxL := n) (ret := none) hy rfl ?_
  intro p e s m args below meth c s₁ B hml hv
  obtain ⟨⟨rfl, hP, hK, hD⟩, hsx⟩ := hv
  have hts := atoms_spec (ws := Cond.code y b n none :: wsL_law) B.pre
  have hown : s.vm.findClass own = some m.cls := by rw [← ho]; exact findClass_of_methodNamed B.named
  rw [lg_entry_eq]
  exact body p e s m _ below meth c ⟨B.exec, B.bytes, hml, hown, fun w h => hts w (List.mem_cons_of_mem _ h), hK, B.notSynchronized⟩ (by rw [(name_of_methodNamed B.named B.method).1]; exact hn) hsx B.returns ⟨hP, hD, va_S.rf⟩ _ (lv_entry av hsl)
abbrev D4rm_init : Room := { frames := 1, cells := 0, slots := 0, locals := 12 }
abbrev xwd (cy : Nat → ClassId) (q : Nat → Nat) (X : va_W) (z : Nat) (u : DS) : List Value → va_W := fun fs => dwd cy q (X ++ [(z, .inr (4, fs))]) u
theorem xw_w {cy : Nat → ClassId} {q : Nat → Nat} {X : va_W} {z : Nat} {u : DS} : ∀ x y : List Value, (xwd cy q X z u x).map (·.1) = (xwd cy q X z u y).map (·.1) := fun x y => by simp only [xwd, dwd, dW, List.map_append, List.map_map]; rfl
set_option maxRecDepth 100000 in
set_option maxHeartbeats 4000000 in
theorem D4c_init (l : Launch) {D : va_G} {cy : Nat → ClassId} {ad : List Nat} {q : Nat → Nat} {X : va_W} (z k : Nat) (u : DS) : DM l yX4_init cX4_init 3 none D4rm_init D cy (xwd cy q X z u) ad [.ref z, .ref (q 1), .ref (q (47 + k))] raw4 none (d4 q k (fun _ => 0)) := by
  refine d_startI RX4 rfl rfl (by decide) (Nat.le_of_ble_eq_true rfl) ?_
  intro p e s m args below meth c fx hin sx hr hC ls hl
  have hx := fx.1
  have hb := fx.2.1
  have hts := fx.2.2.2.2.1
  have hl : lv_has ls 3 [(0, .ref z), (1, .ref (q 1)), (2, .ref (q (47 + k)))] := hl
  refine lv_aload_n hx hb dX4_init_0 rfl (lv_at hl 0 rfl) ?_
  refine W.objInit hx hb fx.2.2.2.1 (hts _ KW_OI4) (hts _ KW_OI) (hts _ KW_OC) rfl (by rw [fx.2.2.1]; exact hl.1) rfl dX4_init_1 (Nat.le_of_ble_eq_true rfl) (Nat.le_of_ble_eq_true rfl) ?_
  refine W.eq (g2 := F0 m 4 ls []) rfl ?_
  refine lv_aload_n hx hb dX4_init_4 rfl (lv_at hl 0 rfl) ?_
  refine lv_aload_n hx hb dX4_init_5 rfl (lv_at hl 1 rfl) ?_
  refine va_putF (ci := 4) (v := .ref (q 1)) (ty := .object "WayBook$Net") (C := RX4) (T := TX4) (N := 8) fx.1 fx.2.1 fx.2.2.2.2.1 inlX4 tyX4 tyX4_ok nmX4 fx.2.2.2.1 fx.2.2.2.2.2.1 hC.1 hC.2.1 hC.2.2 (111 + X.length) x_at rfl 0 (by decide) (hts _ KW_F0) (fun _ h => h) rfl hin rfl (by decide +kernel) rfl rfl (Nat.le_of_ble_eq_true rfl) dX4_init_6 (fun H locs hP hD hS => ?_)
  have e1 := x_set (cy := cy) (q := q) (X := X) (u := u) (z := z) (e := .inr (4, raw4)) (e2 := .inr (4, raw4.set 0 (.ref (q 1))))
  have hC : GC D (xwd cy q X z u) ad s [.ref (q 1), .null, .int 0, .int 0, .int 0, .int 0, .int 0, .int 0] H locs := ⟨e1.subst (motive := fun w => va_P D vwCl w H) hP, e1.subst (motive := fun w => va_D (fun x => x ∈ ad) w) hD, hS⟩
  clear hP hD hS
  refine lv_aload_n hx hb dX4_init_9 rfl (lv_at hl 0 rfl) ?_
  refine lv_aload_n hx hb dX4_init_10 rfl (lv_at hl 2 rfl) ?_
  refine va_putF (ci := 4) (v := .ref (q (47 + k))) (ty := .object "WayBook$Ways") (C := RX4) (T := TX4) (N := 8) fx.1 fx.2.1 fx.2.2.2.2.1 inlX4 tyX4 tyX4_ok nmX4 fx.2.2.2.1 fx.2.2.2.2.2.1 hC.1 hC.2.1 hC.2.2 (111 + X.length) x_at rfl 1 (by decide) (hts _ KW_F1) (fun _ h => h) rfl hin rfl (by decide +kernel) rfl rfl (Nat.le_of_ble_eq_true rfl) dX4_init_11 (fun H locs hP hD hS => ?_)
  have e2 := x_set (cy := cy) (q := q) (X := X) (u := u) (z := z) (e := .inr (4, raw4.set 0 (.ref (q 1)))) (e2 := .inr (4, (raw4.set 0 (.ref (q 1))).set 1 (.ref (q (47 + k)))))
  have hC : GC D (xwd cy q X z u) ad s (d4 q k (fun _ => 0)) H locs := ⟨e2.subst (motive := fun w => va_P D vwCl w H) hP, e2.subst (motive := fun w => va_D (fun x => x ∈ ad) w) hD, hS⟩
  exact g_vret fx hr hC rfl dX4_init_14
/-! ===== the contract of a method that makes one Search ===== -/
def DQa (D : va_G) (cy : Nat → ClassId) (q : Nat → Nat) (X : va_W) (ad : List Nat) (sz : Nat) (res : Option Value) (τ' : DS) : Array Value → State → Outcome → State → Prop :=
  fun _ st oc t => (oc = .returned res ∧ va_P D vwCl (dwd cy q X τ') t.heap) ∧ va_F (fun x => x ∈ ad ∨ sz ≤ x) st t
def DMa (l : Launch) (y : MethodName) (b : ByteArray) (n : Nat) (ret : Option FieldType) (rm : Room) (D : va_G) (cy : Nat → ClassId) (q : Nat → Nat) (X : va_W) (ad : List Nat) (sz : Nat) (av : List Value) (τ : DS) (res : Option Value) (τ' : DS) : Prop :=
  Met l y (Cond.code y b n ret :: wsL_law) rm (fun v U => DP D cy (dwd cy q X) ad av τ v U ∧ U.heap.size = sz) (DQa D cy q X ad sz res τ') 1 8 (fun x => x ∈ ad ∨ sz ≤ x)
theorem a_start {l : Launch} {y : MethodName} {b : ByteArray} {n : Nat} {ret : Option FieldType} {rm : Room} {D : va_G} {cy : Nat → ClassId} {q : Nat → Nat} {X : va_W} {ad : List Nat} {sz : Nat} {av : List Value} {τ τ' : DS} {res : Option Value} (own : String)
    (ho : y.cls = own) (hy : plainName y.cls = true) (hsl : (lg_sl av).length ≤ n)
    (body : ∀ (p : Program) (e : Env) (s : State) (m : MethodId) (args : Array Value) (below : List Frame) (meth : Method) (c : Code), FX p s m args meth c b n own D cy → SX ad s → s.heap.size = sz → meth.sig.returnType = ret → GC D (dwd cy q X) ad s τ s.heap [] → ∀ ls : Array Slot, lv_has ls n (lv_args 0 av) →
      W p l e rm s m args below meth c s.heap [] 0 0 (MQ below (DQa D cy q X ad sz res τ') args s 1 8 (fun x => x ∈ ad ∨ sz ≤ x)) (F0 m 0 ls [])) : DMa l y b n ret rm D cy q X ad sz av τ res τ' := by
  refine Met.ofW (cc := b) (maxL := n) (ret := ret) hy rfl ?_
  intro p e s m args below meth c s₁ B hml hv
  obtain ⟨⟨⟨rfl, hP, hK, hD⟩, hsx⟩, hsz⟩ := hv
  have hts := atoms_spec (ws := Cond.code y b n ret :: wsL_law) B.pre
  have hown : s.vm.findClass own = some m.cls := by rw [← ho]; exact findClass_of_methodNamed B.named
  rw [lg_entry_eq]
  exact body p e s m _ below meth c ⟨B.exec, B.bytes, hml, hown, fun w h => hts w (List.mem_cons_of_mem _ h), hK, B.notSynchronized⟩ hsx hsz B.returns ⟨hP, hD, va_S.rf⟩ _ (lv_entry av hsl)
theorem a_iret {p : Program} {l : Launch} {e : Env} {R : Room} {s : State} {m : MethodId} {args : Array Value} {below : List Frame} {meth : Method} {c : Code} {H : Heap} {locs : List Loc} {cc : ByteArray} {nL pc : Nat} {own : String} {ls : Array Slot} {D : va_G} {cy : Nat → ClassId} {ad ad2 : List Nat} {q : Nat → Nat} {X Y : va_W} {τ' : DS} {sz : Nat} {res : Option Value} {v : Int32} {cells slots : Nat}
    (fx : FX p s m args meth c cc nL own D cy) (hr : meth.sig.returnType = some .int) (hsz : s.heap.size = sz) (hC : GC D (dwd cy q (X ++ Y)) ad2 s τ' H locs) (had : ∀ x ∈ ad2, x ∈ ad ∨ sz ≤ x) (hc : cells ≤ 1) (hs : slots ≤ 8) (hres : res = some (.int v)) (hdg : decode cc pc = .ok (.ireturn, 1)) :
    W p l e R s m args below meth c H locs cells slots (MQ below (DQa D cy q X ad sz res τ') args s 1 8 (fun x => x ∈ ad ∨ sz ≤ x)) (F0 m pc ls [.int v]) := by
  subst hres
  have hlocks : meth.locks = false := fx.2.2.2.2.2.2
  refine W.widen (k := 1) (n := 8) hc hs ?_
  have hP : va_P D vwCl (dwd cy q X τ') H := by
    have h := hC.1
    have h2 : va_P D vwCl ((dW cy q τ' ++ X) ++ Y) H := by rw [List.append_assoc]; exact h
    exact fun k x hk => h2 k x (by rw [List.getElem?_append_left (List.getElem?_eq_some_iff.mp hk).1]; exact hk)
  exact W.iret fx.1 fx.2.1 hr (fun t ht hW => ⟨⟨rfl, by rw [ht]; exact hP⟩, by rw [ht]; exact hC.2.2.1, fun x h1 h2 => by rw [ht]; exact hC.2.2.2.1 x h1 (fun h => h2 (had x h))⟩) (fun x hx => had _ (hC.2.2.2.2 x hx)) hdg
theorem D8k_paths : Cond.instanceMethod yX8_paths ∈ wsL_law ∧ Cond.selects RX8 yX8_paths yX8_paths ∈ wsL_law ∧ Cond.initialized RX8 ∈ wsL_law ∧ Cond.code yX8_paths cX8_paths 5 (some .int) ∈ wsL_law := ⟨k_267, k_268, k_2, k_269⟩
theorem D8h_paths : yX8_paths.cls = RX8 ∧ yX8_paths.cls ≠ "java/lang/invoke/MethodHandle" ∧ yX8_paths.cls ≠ "java/lang/invoke/VarHandle" ∧ (parseMethodDescriptor yX8_paths.desc).map (fun d => d.parameters.length) = some 3 := by decide +kernel
theorem D8k_rounds : Cond.instanceMethod yX8_rounds ∈ wsL_law ∧ Cond.selects RX8 yX8_rounds yX8_rounds ∈ wsL_law ∧ Cond.initialized RX8 ∈ wsL_law ∧ Cond.code yX8_rounds cX8_rounds 3 (some .int) ∈ wsL_law := ⟨k_331, k_332, k_2, k_333⟩
theorem D8h_rounds : yX8_rounds.cls = RX8 ∧ yX8_rounds.cls ≠ "java/lang/invoke/MethodHandle" ∧ yX8_rounds.cls ≠ "java/lang/invoke/VarHandle" ∧ (parseMethodDescriptor yX8_rounds.desc).map (fun d => d.parameters.length) = some 1 := by decide +kernel
theorem D8k_trees : Cond.instanceMethod yX8_trees ∈ wsL_law ∧ Cond.selects RX8 yX8_trees yX8_trees ∈ wsL_law ∧ Cond.initialized RX8 ∈ wsL_law ∧ Cond.code yX8_trees cX8_trees 3 (some .int) ∈ wsL_law := ⟨k_344, k_345, k_2, k_346⟩
theorem D8h_trees : yX8_trees.cls = RX8 ∧ yX8_trees.cls ≠ "java/lang/invoke/MethodHandle" ∧ yX8_trees.cls ≠ "java/lang/invoke/VarHandle" ∧ (parseMethodDescriptor yX8_trees.desc).map (fun d => d.parameters.length) = some 1 := by decide +kernel
theorem D8k_pairs : Cond.instanceMethod yX8_pairs ∈ wsL_law ∧ Cond.selects RX8 yX8_pairs yX8_pairs ∈ wsL_law ∧ Cond.initialized RX8 ∈ wsL_law ∧ Cond.code yX8_pairs cX8_pairs 3 (some .int) ∈ wsL_law := ⟨k_395, k_396, k_2, k_397⟩
theorem D8h_pairs : yX8_pairs.cls = RX8 ∧ yX8_pairs.cls ≠ "java/lang/invoke/MethodHandle" ∧ yX8_pairs.cls ≠ "java/lang/invoke/VarHandle" ∧ (parseMethodDescriptor yX8_pairs.desc).map (fun d => d.parameters.length) = some 1 := by decide +kernel
theorem D8k_parts : Cond.instanceMethod yX8_parts ∈ wsL_law ∧ Cond.selects RX8 yX8_parts yX8_parts ∈ wsL_law ∧ Cond.initialized RX8 ∈ wsL_law ∧ Cond.code yX8_parts cX8_parts 5 (some .int) ∈ wsL_law := ⟨k_411, k_412, k_2, k_413⟩
theorem D8h_parts : yX8_parts.cls = RX8 ∧ yX8_parts.cls ≠ "java/lang/invoke/MethodHandle" ∧ yX8_parts.cls ≠ "java/lang/invoke/VarHandle" ∧ (parseMethodDescriptor yX8_parts.desc).map (fun d => d.parameters.length) = some 3 := by decide +kernel
def D8m_paths (τ : DS) (a1 : Int32) (a2 : Int32) (a3 : Int32) : Option (Int32 × DS) :=
  if (D2m_isPost τ a1) = (0 : Int32) then (some ((-2 : Int32), τ)) else (if (D2m_isPost τ a2) = (0 : Int32) then (some ((-2 : Int32), τ)) else (if a1 = a2 then (some ((-2 : Int32), τ)) else (bqe (D8m_blank τ (1 : Int32)) (fun τ_7 => some ((-4 : Int32), τ_7)) (fun r_5 τ_7 => b1 (D4m_findPaths r_5 (τ_7, fun _ => 0) a1 a2 a3) (fun τ_8 => b2 (D8m_keep τ_8.1) (fun r_12 τ_11 => some (r_12, τ_11)))))))
abbrev D8rm_paths : Room := { frames := 28, cells := 1, slots := 8, locals := 716 }
set_option maxRecDepth 100000 in
set_option maxHeartbeats 4000000 in
theorem D8c_paths (l : Launch) {D : va_G} {cy : Nat → ClassId} {ad : List Nat} {q : Nat → Nat} {X : va_W} (sz : Nat) (τ : DS) (a1 : Int32) (a2 : Int32) (a3 : Int32) {o : Int32 × DS} (hm : D8m_paths τ a1 a2 a3 = some o) : DMa l yX8_paths cX8_paths 5 (some .int) D8rm_paths D cy q X ad sz [.ref (q 0), .int a1, .int a2, .int a3] τ (some (.int o.1)) o.2 := by
  refine a_start RX8 rfl (by decide) (Nat.le_of_ble_eq_true rfl) ?_
  intro p e s m args below meth c fx sx hsz hr hC ls hl
  have hx := fx.1
  have hb := fx.2.1
  have hR : 28 ≤ (D8rm_paths).frames ∧ 716 ≤ (D8rm_paths).locals := ⟨Nat.le_refl _, Nat.le_refl _⟩
  have hf : 0 ≤ (D8rm_paths).cells ∧ 0 ≤ (D8rm_paths).slots := ⟨Nat.zero_le _, Nat.zero_le _⟩
  have hl : lv_has ls 5 [(0, .ref (q 0)), (1, .int a1), (2, .int a2), (3, .int a3)] := hl
  unfold D8m_paths at hm
  refine lv_aload_n hx hb dX8_paths_0 rfl (lv_at hl 0 rfl) ?_
  refine D8g_0 fx hC k_15 dX8_paths_1 ?_
  refine lv_iload_n hx hb dX8_paths_4 rfl (lv_at hl 1 rfl) ?_
  refine d_callVi (ci := 2) (As := [.int a1]) (rest := []) fx sx hC dw_w (D2c_isPost l τ a1) k_147 D2k_isPost D2h_isPost rfl rfl (O_at O2) ⟨rfl, rfl⟩ ⟨Nat.le_trans (Nat.le_of_ble_eq_true rfl) hR.1, Nat.le_trans (Nat.le_of_ble_eq_true rfl) hR.2⟩ hf rfl hl.1 rfl (Nat.le_of_ble_eq_true rfl) dX8_paths_5 (fun H locs hC => ?_)
  refine lv_if_eq (tgt := 27) hx hb dX8_paths_8 (by decide) (fun c_1 => ?_) (fun c_1 => ?_)
  · replace hm := ifp hm c_1
    refine lv_bipush (v := (-2 : Int32)) hx hb dX8_paths_27 (by decide) ?_
    cases hm
    exact a_iret (X := X) (Y := []) fx hr hsz (by rw [List.append_nil]; exact hC) (fun x hx => Or.inl hx) (Nat.zero_le _) (Nat.zero_le _) rfl dX8_paths_29
  · replace hm := ifn hm c_1
    refine lv_aload_n hx hb dX8_paths_11 rfl (lv_at hl 0 rfl) ?_
    refine D8g_0 fx hC k_15 dX8_paths_12 ?_
    refine lv_iload_n hx hb dX8_paths_15 rfl (lv_at hl 2 rfl) ?_
    refine d_callVi (ci := 2) (As := [.int a2]) (rest := []) fx sx hC dw_w (D2c_isPost l τ a2) k_147 D2k_isPost D2h_isPost rfl rfl (O_at O2) ⟨rfl, rfl⟩ ⟨Nat.le_trans (Nat.le_of_ble_eq_true rfl) hR.1, Nat.le_trans (Nat.le_of_ble_eq_true rfl) hR.2⟩ hf rfl hl.1 rfl (Nat.le_of_ble_eq_true rfl) dX8_paths_16 (fun H locs hC => ?_)
    refine lv_if_eq (tgt := 27) hx hb dX8_paths_19 (by decide) (fun c_2 => ?_) (fun c_2 => ?_)
    · replace hm := ifp hm c_2
      refine lv_bipush (v := (-2 : Int32)) hx hb dX8_paths_27 (by decide) ?_
      cases hm
      exact a_iret (X := X) (Y := []) fx hr hsz (by rw [List.append_nil]; exact hC) (fun x hx => Or.inl hx) (Nat.zero_le _) (Nat.zero_le _) rfl dX8_paths_29
    · replace hm := ifn hm c_2
      refine lv_iload_n hx hb dX8_paths_22 rfl (lv_at hl 1 rfl) ?_
      refine lv_iload_n hx hb dX8_paths_23 rfl (lv_at hl 2 rfl) ?_
      refine lv_icmp_ne (tgt := 30) hx hb dX8_paths_24 (by decide) (fun c_3 => ?_) (fun c_3 => ?_)
      · replace hm := ifn hm c_3
        refine lv_aload_n hx hb dX8_paths_30 rfl (lv_at hl 0 rfl) ?_
        refine lv_iconst (v := (1 : Int32)) hx hb dX8_paths_31 (by decide) ?_
        rcases bqe_in hm with ⟨τ_7, e_4, hm⟩ | ⟨r_5, τ_7, e_4, h_6, hm⟩
        · refine d_callVn (ci := 8) (As := [.int (1 : Int32)]) (rest := []) fx sx hC dw_w (D8c_blank l τ (1 : Int32) e_4) k_204 D8k_blank D8h_blank rfl rfl (O_at O8) ⟨rfl, rfl⟩ ⟨Nat.le_trans (Nat.le_of_ble_eq_true rfl) hR.1, Nat.le_trans (Nat.le_of_ble_eq_true rfl) hR.2⟩ hf rfl hl.1 rfl (Nat.le_of_ble_eq_true rfl) dX8_paths_32 (fun H locs hC => ?_)
          refine lv_astoreN (lv' := [(4, .null), (0, .ref (q 0)), (1, .int a1), (2, .int a2), (3, .int a3)]) hx hb dX8_paths_35 hl (by decide) rfl (fun ls hl => ?_)
          refine lv_aloadN hx hb dX8_paths_37 (lv_at hl 0 rfl) ?_
          refine lv_ifnonnullN hx hb dX8_paths_39 ?_
          refine lv_bipush (v := (-4 : Int32)) hx hb dX8_paths_42 (by decide) ?_
          cases hm
          exact a_iret (X := X) (Y := []) fx hr hsz (by rw [List.append_nil]; exact hC) (fun x hx => Or.inl hx) (Nat.zero_le _) (Nat.zero_le _) rfl dX8_paths_44
        · refine d_callVr (ci := 8) (As := [.int (1 : Int32)]) (rest := []) fx sx hC dw_w (D8c_blank l τ (1 : Int32) e_4) k_204 D8k_blank D8h_blank rfl rfl (O_at O8) ⟨rfl, rfl⟩ ⟨Nat.le_trans (Nat.le_of_ble_eq_true rfl) hR.1, Nat.le_trans (Nat.le_of_ble_eq_true rfl) hR.2⟩ hf rfl hl.1 rfl (Nat.le_of_ble_eq_true rfl) dX8_paths_32 (fun H locs hC => ?_)
          refine lv_astore (lv' := [(4, .ref (q (47 + r_5))), (0, .ref (q 0)), (1, .int a1), (2, .int a2), (3, .int a3)]) hx hb dX8_paths_35 hl (by decide) rfl (fun ls hl => ?_)
          refine lv_aload hx hb dX8_paths_37 (lv_at hl 0 rfl) ?_
          refine lv_ifnonnull (tgt := 45) hx hb dX8_paths_39 (by decide) ?_
          refine d_new fx hC k_270 k_271 k_272 ⟨Nat.le_of_ble_eq_true rfl, Nat.le_of_ble_eq_true rfl⟩ dX8_paths_45 (fun z H hz hC => ?_)
          replace sx := SX.grow sx hz
          have hf : 1 ≤ (D8rm_paths).cells ∧ 8 ≤ (D8rm_paths).slots := ⟨Nat.le_refl _, Nat.le_refl _⟩
          have hC2 : GC D (dwd cy q (X ++ [(z, .inr (4, raw4))])) (ad ++ [z]) s τ_7 H locs := hC
          refine lv_dup hx hb dX8_paths_48 rfl ?_
          refine lv_aload_n hx hb dX8_paths_49 rfl (lv_at hl 1 rfl) ?_
          refine D8g_0 fx hC2 k_15 dX8_paths_50 ?_
          refine lv_aload hx hb dX8_paths_53 (lv_at hl 0 rfl) ?_
          refine d_callI (wd := xwd cy q X z τ_7) (As := [.ref (q 1), .ref (q (47 + r_5))]) (rest := [.ref z]) fx sx hC xw_w (D4c_init l z r_5 τ_7) k_273 KW_I4 rfl KH_I4 ⟨rfl, rfl⟩ ⟨Nat.le_trans (Nat.le_of_ble_eq_true rfl) hR.1, Nat.le_trans (Nat.le_of_ble_eq_true rfl) hR.2⟩ hf rfl hl.1 rfl (Nat.le_of_ble_eq_true rfl) dX8_paths_55 (fun H locs hC => ?_)
          replace hC : GC D (swd cy q X z r_5) (ad ++ [z]) s (τ_7, fun _ => 0) _ _ := hC
          refine lv_iload_n hx hb dX8_paths_58 rfl (lv_at hl 2 rfl) ?_
          refine lv_iload_n hx hb dX8_paths_59 rfl (lv_at hl 3 rfl) ?_
          refine lv_iload_n hx hb dX8_paths_60 rfl (lv_at hl 4 rfl) ?_
          obtain ⟨τ_8, e_9, hm⟩ := b1_in hm
          refine d_callVv (ci := 4) (As := [.int a1, .int a2, .int a3]) (rest := []) fx sx hC sw_w (D4c_findPaths l z r_5 h_6 (τ_7, fun _ => 0) a1 a2 a3 e_9) k_279 D4k_findPaths D4h_findPaths rfl rfl s_at ⟨rfl, rfl⟩ ⟨Nat.le_trans (Nat.le_of_ble_eq_true rfl) hR.1, Nat.le_trans (Nat.le_of_ble_eq_true rfl) hR.2⟩ hf rfl hl.1 rfl (Nat.le_of_ble_eq_true rfl) dX8_paths_61 (fun H locs hC => ?_)
          replace hC : GC D (dwd cy q (X ++ [(z, .inr (4, d4 q r_5 τ_8.2))])) (ad ++ [z]) s τ_8.1 _ _ := hC
          refine lv_aload_n hx hb dX8_paths_64 rfl (lv_at hl 1 rfl) ?_
          obtain ⟨r_12, τ_11, e_10, hm⟩ := b2_in hm
          refine d_callVi (ci := 8) (As := []) (rest := []) fx sx hC dw_w (D8c_keep l τ_8.1 e_10) k_224 D8k_keep D8h_keep rfl rfl (O_at O8) ⟨rfl, rfl⟩ ⟨Nat.le_trans (Nat.le_of_ble_eq_true rfl) hR.1, Nat.le_trans (Nat.le_of_ble_eq_true rfl) hR.2⟩ hf rfl hl.1 rfl (Nat.le_of_ble_eq_true rfl) dX8_paths_65 (fun H locs hC => ?_)
          cases hm
          exact a_iret (X := X) fx hr hsz hC (fun x hx => by rcases List.mem_append.mp hx with h9 | h9; exact Or.inl h9; rw [List.mem_singleton.mp h9]; exact Or.inr (hsz ▸ hz)) (Nat.le_refl _) (Nat.le_refl _) rfl dX8_paths_68
      · replace hm := ifp hm c_3
        refine lv_bipush (v := (-2 : Int32)) hx hb dX8_paths_27 (by decide) ?_
        cases hm
        exact a_iret (X := X) (Y := []) fx hr hsz (by rw [List.append_nil]; exact hC) (fun x hx => Or.inl hx) (Nat.zero_le _) (Nat.zero_le _) rfl dX8_paths_29
def D8m_rounds (τ : DS) (a1 : Int32) : Option (Int32 × DS) :=
  bqe (D8m_blank τ (2 : Int32)) (fun τ_4 => some ((-4 : Int32), τ_4)) (fun r_2 τ_4 => b1 (D4m_findRounds r_2 (τ_4, fun _ => 0) a1) (fun τ_5 => b2 (D8m_keep τ_5.1) (fun r_9 τ_8 => some (r_9, τ_8))))
abbrev D8rm_rounds : Room := { frames := 28, cells := 1, slots := 8, locals := 715 }
set_option maxRecDepth 100000 in
set_option maxHeartbeats 4000000 in
theorem D8c_rounds (l : Launch) {D : va_G} {cy : Nat → ClassId} {ad : List Nat} {q : Nat → Nat} {X : va_W} (sz : Nat) (τ : DS) (a1 : Int32) {o : Int32 × DS} (hm : D8m_rounds τ a1 = some o) : DMa l yX8_rounds cX8_rounds 3 (some .int) D8rm_rounds D cy q X ad sz [.ref (q 0), .int a1] τ (some (.int o.1)) o.2 := by
  refine a_start RX8 rfl (by decide) (Nat.le_of_ble_eq_true rfl) ?_
  intro p e s m args below meth c fx sx hsz hr hC ls hl
  have hx := fx.1
  have hb := fx.2.1
  have hR : 28 ≤ (D8rm_rounds).frames ∧ 715 ≤ (D8rm_rounds).locals := ⟨Nat.le_refl _, Nat.le_refl _⟩
  have hf : 0 ≤ (D8rm_rounds).cells ∧ 0 ≤ (D8rm_rounds).slots := ⟨Nat.zero_le _, Nat.zero_le _⟩
  have hl : lv_has ls 3 [(0, .ref (q 0)), (1, .int a1)] := hl
  unfold D8m_rounds at hm
  refine lv_aload_n hx hb dX8_rounds_0 rfl (lv_at hl 0 rfl) ?_
  refine lv_iconst (v := (2 : Int32)) hx hb dX8_rounds_1 (by decide) ?_
  rcases bqe_in hm with ⟨τ_4, e_1, hm⟩ | ⟨r_2, τ_4, e_1, h_3, hm⟩
  · refine d_callVn (ci := 8) (As := [.int (2 : Int32)]) (rest := []) fx sx hC dw_w (D8c_blank l τ (2 : Int32) e_1) k_204 D8k_blank D8h_blank rfl rfl (O_at O8) ⟨rfl, rfl⟩ ⟨Nat.le_trans (Nat.le_of_ble_eq_true rfl) hR.1, Nat.le_trans (Nat.le_of_ble_eq_true rfl) hR.2⟩ hf rfl hl.1 rfl (Nat.le_of_ble_eq_true rfl) dX8_rounds_2 (fun H locs hC => ?_)
    refine lv_astore_nN (lv' := [(2, .null), (0, .ref (q 0)), (1, .int a1)]) hx hb dX8_rounds_5 rfl hl (by decide) rfl (fun ls hl => ?_)
    refine lv_aload_nN hx hb dX8_rounds_6 rfl (lv_at hl 0 rfl) ?_
    refine lv_ifnonnullN hx hb dX8_rounds_7 ?_
    refine lv_bipush (v := (-4 : Int32)) hx hb dX8_rounds_10 (by decide) ?_
    cases hm
    exact a_iret (X := X) (Y := []) fx hr hsz (by rw [List.append_nil]; exact hC) (fun x hx => Or.inl hx) (Nat.zero_le _) (Nat.zero_le _) rfl dX8_rounds_12
  · refine d_callVr (ci := 8) (As := [.int (2 : Int32)]) (rest := []) fx sx hC dw_w (D8c_blank l τ (2 : Int32) e_1) k_204 D8k_blank D8h_blank rfl rfl (O_at O8) ⟨rfl, rfl⟩ ⟨Nat.le_trans (Nat.le_of_ble_eq_true rfl) hR.1, Nat.le_trans (Nat.le_of_ble_eq_true rfl) hR.2⟩ hf rfl hl.1 rfl (Nat.le_of_ble_eq_true rfl) dX8_rounds_2 (fun H locs hC => ?_)
    refine lv_astore_n (lv' := [(2, .ref (q (47 + r_2))), (0, .ref (q 0)), (1, .int a1)]) hx hb dX8_rounds_5 rfl hl (by decide) rfl (fun ls hl => ?_)
    refine lv_aload_n hx hb dX8_rounds_6 rfl (lv_at hl 0 rfl) ?_
    refine lv_ifnonnull (tgt := 13) hx hb dX8_rounds_7 (by decide) ?_
    refine d_new fx hC k_270 k_271 k_272 ⟨Nat.le_of_ble_eq_true rfl, Nat.le_of_ble_eq_true rfl⟩ dX8_rounds_13 (fun z H hz hC => ?_)
    replace sx := SX.grow sx hz
    have hf : 1 ≤ (D8rm_rounds).cells ∧ 8 ≤ (D8rm_rounds).slots := ⟨Nat.le_refl _, Nat.le_refl _⟩
    have hC2 : GC D (dwd cy q (X ++ [(z, .inr (4, raw4))])) (ad ++ [z]) s τ_4 H locs := hC
    refine lv_dup hx hb dX8_rounds_16 rfl ?_
    refine lv_aload_n hx hb dX8_rounds_17 rfl (lv_at hl 1 rfl) ?_
    refine D8g_0 fx hC2 k_15 dX8_rounds_18 ?_
    refine lv_aload_n hx hb dX8_rounds_21 rfl (lv_at hl 0 rfl) ?_
    refine d_callI (wd := xwd cy q X z τ_4) (As := [.ref (q 1), .ref (q (47 + r_2))]) (rest := [.ref z]) fx sx hC xw_w (D4c_init l z r_2 τ_4) k_273 KW_I4 rfl KH_I4 ⟨rfl, rfl⟩ ⟨Nat.le_trans (Nat.le_of_ble_eq_true rfl) hR.1, Nat.le_trans (Nat.le_of_ble_eq_true rfl) hR.2⟩ hf rfl hl.1 rfl (Nat.le_of_ble_eq_true rfl) dX8_rounds_22 (fun H locs hC => ?_)
    replace hC : GC D (swd cy q X z r_2) (ad ++ [z]) s (τ_4, fun _ => 0) _ _ := hC
    refine lv_iload_n hx hb dX8_rounds_25 rfl (lv_at hl 2 rfl) ?_
    obtain ⟨τ_5, e_6, hm⟩ := b1_in hm
    refine d_callVv (ci := 4) (As := [.int a1]) (rest := []) fx sx hC sw_w (D4c_findRounds l z r_2 h_3 (τ_4, fun _ => 0) a1 e_6) k_334 D4k_findRounds D4h_findRounds rfl rfl s_at ⟨rfl, rfl⟩ ⟨Nat.le_trans (Nat.le_of_ble_eq_true rfl) hR.1, Nat.le_trans (Nat.le_of_ble_eq_true rfl) hR.2⟩ hf rfl hl.1 rfl (Nat.le_of_ble_eq_true rfl) dX8_rounds_26 (fun H locs hC => ?_)
    replace hC : GC D (dwd cy q (X ++ [(z, .inr (4, d4 q r_2 τ_5.2))])) (ad ++ [z]) s τ_5.1 _ _ := hC
    refine lv_aload_n hx hb dX8_rounds_29 rfl (lv_at hl 1 rfl) ?_
    obtain ⟨r_9, τ_8, e_7, hm⟩ := b2_in hm
    refine d_callVi (ci := 8) (As := []) (rest := []) fx sx hC dw_w (D8c_keep l τ_5.1 e_7) k_224 D8k_keep D8h_keep rfl rfl (O_at O8) ⟨rfl, rfl⟩ ⟨Nat.le_trans (Nat.le_of_ble_eq_true rfl) hR.1, Nat.le_trans (Nat.le_of_ble_eq_true rfl) hR.2⟩ hf rfl hl.1 rfl (Nat.le_of_ble_eq_true rfl) dX8_rounds_30 (fun H locs hC => ?_)
    cases hm
    exact a_iret (X := X) fx hr hsz hC (fun x hx => by rcases List.mem_append.mp hx with h9 | h9; exact Or.inl h9; rw [List.mem_singleton.mp h9]; exact Or.inr (hsz ▸ hz)) (Nat.le_refl _) (Nat.le_refl _) rfl dX8_rounds_33
def D8m_trees (τ : DS) (a1 : Int32) : Option (Int32 × DS) :=
  if a1 < (1 : Int32) then (some ((-2 : Int32), τ)) else (if a1 ≤ (τ.1 1 0) then (bqe (D8m_blank τ (3 : Int32)) (fun τ_6 => some ((-4 : Int32), τ_6)) (fun r_4 τ_6 => b1 (D4m_findTrees r_4 (τ_6, fun _ => 0) a1) (fun τ_7 => b2 (D8m_keep τ_7.1) (fun r_11 τ_10 => some (r_11, τ_10))))) else (some ((-2 : Int32), τ)))
abbrev D8rm_trees : Room := { frames := 29, cells := 1, slots := 8, locals := 740 }
set_option maxRecDepth 100000 in
set_option maxHeartbeats 4000000 in
theorem D8c_trees (l : Launch) {D : va_G} {cy : Nat → ClassId} {ad : List Nat} {q : Nat → Nat} {X : va_W} (sz : Nat) (τ : DS) (a1 : Int32) {o : Int32 × DS} (hm : D8m_trees τ a1 = some o) : DMa l yX8_trees cX8_trees 3 (some .int) D8rm_trees D cy q X ad sz [.ref (q 0), .int a1] τ (some (.int o.1)) o.2 := by
  refine a_start RX8 rfl (by decide) (Nat.le_of_ble_eq_true rfl) ?_
  intro p e s m args below meth c fx sx hsz hr hC ls hl
  have hx := fx.1
  have hb := fx.2.1
  have hR : 29 ≤ (D8rm_trees).frames ∧ 740 ≤ (D8rm_trees).locals := ⟨Nat.le_refl _, Nat.le_refl _⟩
  have hf : 0 ≤ (D8rm_trees).cells ∧ 0 ≤ (D8rm_trees).slots := ⟨Nat.zero_le _, Nat.zero_le _⟩
  have hl : lv_has ls 3 [(0, .ref (q 0)), (1, .int a1)] := hl
  unfold D8m_trees at hm
  refine lv_iload_n hx hb dX8_trees_0 rfl (lv_at hl 1 rfl) ?_
  refine lv_iconst (v := (1 : Int32)) hx hb dX8_trees_1 (by decide) ?_
  refine lv_icmp_lt (tgt := 16) hx hb dX8_trees_2 (by decide) (fun c_1 => ?_) (fun c_1 => ?_)
  · replace hm := ifp hm c_1
    refine lv_bipush (v := (-2 : Int32)) hx hb dX8_trees_16 (by decide) ?_
    cases hm
    exact a_iret (X := X) (Y := []) fx hr hsz (by rw [List.append_nil]; exact hC) (fun x hx => Or.inl hx) (Nat.zero_le _) (Nat.zero_le _) rfl dX8_trees_18
  · replace hm := ifn hm c_1
    refine lv_iload_n hx hb dX8_trees_5 rfl (lv_at hl 1 rfl) ?_
    refine lv_aload_n hx hb dX8_trees_6 rfl (lv_at hl 0 rfl) ?_
    refine D8g_0 fx hC k_15 dX8_trees_7 ?_
    refine D2g_0 fx hC k_347 dX8_trees_10 ?_
    refine lv_icmp_le (tgt := 19) hx hb dX8_trees_13 (by decide) (fun c_2 => ?_) (fun c_2 => ?_)
    · replace hm := ifp hm c_2
      refine lv_aload_n hx hb dX8_trees_19 rfl (lv_at hl 0 rfl) ?_
      refine lv_iconst (v := (3 : Int32)) hx hb dX8_trees_20 (by decide) ?_
      rcases bqe_in hm with ⟨τ_6, e_3, hm⟩ | ⟨r_4, τ_6, e_3, h_5, hm⟩
      · refine d_callVn (ci := 8) (As := [.int (3 : Int32)]) (rest := []) fx sx hC dw_w (D8c_blank l τ (3 : Int32) e_3) k_204 D8k_blank D8h_blank rfl rfl (O_at O8) ⟨rfl, rfl⟩ ⟨Nat.le_trans (Nat.le_of_ble_eq_true rfl) hR.1, Nat.le_trans (Nat.le_of_ble_eq_true rfl) hR.2⟩ hf rfl hl.1 rfl (Nat.le_of_ble_eq_true rfl) dX8_trees_21 (fun H locs hC => ?_)
        refine lv_astore_nN (lv' := [(2, .null), (0, .ref (q 0)), (1, .int a1)]) hx hb dX8_trees_24 rfl hl (by decide) rfl (fun ls hl => ?_)
        refine lv_aload_nN hx hb dX8_trees_25 rfl (lv_at hl 0 rfl) ?_
        refine lv_ifnonnullN hx hb dX8_trees_26 ?_
        refine lv_bipush (v := (-4 : Int32)) hx hb dX8_trees_29 (by decide) ?_
        cases hm
        exact a_iret (X := X) (Y := []) fx hr hsz (by rw [List.append_nil]; exact hC) (fun x hx => Or.inl hx) (Nat.zero_le _) (Nat.zero_le _) rfl dX8_trees_31
      · refine d_callVr (ci := 8) (As := [.int (3 : Int32)]) (rest := []) fx sx hC dw_w (D8c_blank l τ (3 : Int32) e_3) k_204 D8k_blank D8h_blank rfl rfl (O_at O8) ⟨rfl, rfl⟩ ⟨Nat.le_trans (Nat.le_of_ble_eq_true rfl) hR.1, Nat.le_trans (Nat.le_of_ble_eq_true rfl) hR.2⟩ hf rfl hl.1 rfl (Nat.le_of_ble_eq_true rfl) dX8_trees_21 (fun H locs hC => ?_)
        refine lv_astore_n (lv' := [(2, .ref (q (47 + r_4))), (0, .ref (q 0)), (1, .int a1)]) hx hb dX8_trees_24 rfl hl (by decide) rfl (fun ls hl => ?_)
        refine lv_aload_n hx hb dX8_trees_25 rfl (lv_at hl 0 rfl) ?_
        refine lv_ifnonnull (tgt := 32) hx hb dX8_trees_26 (by decide) ?_
        refine d_new fx hC k_270 k_271 k_272 ⟨Nat.le_of_ble_eq_true rfl, Nat.le_of_ble_eq_true rfl⟩ dX8_trees_32 (fun z H hz hC => ?_)
        replace sx := SX.grow sx hz
        have hf : 1 ≤ (D8rm_trees).cells ∧ 8 ≤ (D8rm_trees).slots := ⟨Nat.le_refl _, Nat.le_refl _⟩
        have hC2 : GC D (dwd cy q (X ++ [(z, .inr (4, raw4))])) (ad ++ [z]) s τ_6 H locs := hC
        refine lv_dup hx hb dX8_trees_35 rfl ?_
        refine lv_aload_n hx hb dX8_trees_36 rfl (lv_at hl 1 rfl) ?_
        refine D8g_0 fx hC2 k_15 dX8_trees_37 ?_
        refine lv_aload_n hx hb dX8_trees_40 rfl (lv_at hl 0 rfl) ?_
        refine d_callI (wd := xwd cy q X z τ_6) (As := [.ref (q 1), .ref (q (47 + r_4))]) (rest := [.ref z]) fx sx hC xw_w (D4c_init l z r_4 τ_6) k_273 KW_I4 rfl KH_I4 ⟨rfl, rfl⟩ ⟨Nat.le_trans (Nat.le_of_ble_eq_true rfl) hR.1, Nat.le_trans (Nat.le_of_ble_eq_true rfl) hR.2⟩ hf rfl hl.1 rfl (Nat.le_of_ble_eq_true rfl) dX8_trees_41 (fun H locs hC => ?_)
        replace hC : GC D (swd cy q X z r_4) (ad ++ [z]) s (τ_6, fun _ => 0) _ _ := hC
        refine lv_iload_n hx hb dX8_trees_44 rfl (lv_at hl 2 rfl) ?_
        obtain ⟨τ_7, e_8, hm⟩ := b1_in hm
        refine d_callVv (ci := 4) (As := [.int a1]) (rest := []) fx sx hC sw_w (D4c_findTrees l z r_4 h_5 (τ_6, fun _ => 0) a1 e_8) k_348 D4k_findTrees D4h_findTrees rfl rfl s_at ⟨rfl, rfl⟩ ⟨Nat.le_trans (Nat.le_of_ble_eq_true rfl) hR.1, Nat.le_trans (Nat.le_of_ble_eq_true rfl) hR.2⟩ hf rfl hl.1 rfl (Nat.le_of_ble_eq_true rfl) dX8_trees_45 (fun H locs hC => ?_)
        replace hC : GC D (dwd cy q (X ++ [(z, .inr (4, d4 q r_4 τ_7.2))])) (ad ++ [z]) s τ_7.1 _ _ := hC
        refine lv_aload_n hx hb dX8_trees_48 rfl (lv_at hl 1 rfl) ?_
        obtain ⟨r_11, τ_10, e_9, hm⟩ := b2_in hm
        refine d_callVi (ci := 8) (As := []) (rest := []) fx sx hC dw_w (D8c_keep l τ_7.1 e_9) k_224 D8k_keep D8h_keep rfl rfl (O_at O8) ⟨rfl, rfl⟩ ⟨Nat.le_trans (Nat.le_of_ble_eq_true rfl) hR.1, Nat.le_trans (Nat.le_of_ble_eq_true rfl) hR.2⟩ hf rfl hl.1 rfl (Nat.le_of_ble_eq_true rfl) dX8_trees_49 (fun H locs hC => ?_)
        cases hm
        exact a_iret (X := X) fx hr hsz hC (fun x hx => by rcases List.mem_append.mp hx with h9 | h9; exact Or.inl h9; rw [List.mem_singleton.mp h9]; exact Or.inr (hsz ▸ hz)) (Nat.le_refl _) (Nat.le_refl _) rfl dX8_trees_52
    · replace hm := ifn hm c_2
      refine lv_bipush (v := (-2 : Int32)) hx hb dX8_trees_16 (by decide) ?_
      cases hm
      exact a_iret (X := X) (Y := []) fx hr hsz (by rw [List.append_nil]; exact hC) (fun x hx => Or.inl hx) (Nat.zero_le _) (Nat.zero_le _) rfl dX8_trees_18
def D8m_pairs (τ : DS) (a1 : Int32) : Option (Int32 × DS) :=
  bqe (D8m_blank τ (4 : Int32)) (fun τ_4 => some ((-4 : Int32), τ_4)) (fun r_2 τ_4 => b1 (D4m_findPairs r_2 (τ_4, fun _ => 0) a1) (fun τ_5 => b2 (D8m_keep τ_5.1) (fun r_9 τ_8 => some (r_9, τ_8))))
abbrev D8rm_pairs : Room := { frames := 27, cells := 1, slots := 8, locals := 642 }
set_option maxRecDepth 100000 in
set_option maxHeartbeats 4000000 in
theorem D8c_pairs (l : Launch) {D : va_G} {cy : Nat → ClassId} {ad : List Nat} {q : Nat → Nat} {X : va_W} (sz : Nat) (τ : DS) (a1 : Int32) {o : Int32 × DS} (hm : D8m_pairs τ a1 = some o) : DMa l yX8_pairs cX8_pairs 3 (some .int) D8rm_pairs D cy q X ad sz [.ref (q 0), .int a1] τ (some (.int o.1)) o.2 := by
  refine a_start RX8 rfl (by decide) (Nat.le_of_ble_eq_true rfl) ?_
  intro p e s m args below meth c fx sx hsz hr hC ls hl
  have hx := fx.1
  have hb := fx.2.1
  have hR : 27 ≤ (D8rm_pairs).frames ∧ 642 ≤ (D8rm_pairs).locals := ⟨Nat.le_refl _, Nat.le_refl _⟩
  have hf : 0 ≤ (D8rm_pairs).cells ∧ 0 ≤ (D8rm_pairs).slots := ⟨Nat.zero_le _, Nat.zero_le _⟩
  have hl : lv_has ls 3 [(0, .ref (q 0)), (1, .int a1)] := hl
  unfold D8m_pairs at hm
  refine lv_aload_n hx hb dX8_pairs_0 rfl (lv_at hl 0 rfl) ?_
  refine lv_iconst (v := (4 : Int32)) hx hb dX8_pairs_1 (by decide) ?_
  rcases bqe_in hm with ⟨τ_4, e_1, hm⟩ | ⟨r_2, τ_4, e_1, h_3, hm⟩
  · refine d_callVn (ci := 8) (As := [.int (4 : Int32)]) (rest := []) fx sx hC dw_w (D8c_blank l τ (4 : Int32) e_1) k_204 D8k_blank D8h_blank rfl rfl (O_at O8) ⟨rfl, rfl⟩ ⟨Nat.le_trans (Nat.le_of_ble_eq_true rfl) hR.1, Nat.le_trans (Nat.le_of_ble_eq_true rfl) hR.2⟩ hf rfl hl.1 rfl (Nat.le_of_ble_eq_true rfl) dX8_pairs_2 (fun H locs hC => ?_)
    refine lv_astore_nN (lv' := [(2, .null), (0, .ref (q 0)), (1, .int a1)]) hx hb dX8_pairs_5 rfl hl (by decide) rfl (fun ls hl => ?_)
    refine lv_aload_nN hx hb dX8_pairs_6 rfl (lv_at hl 0 rfl) ?_
    refine lv_ifnonnullN hx hb dX8_pairs_7 ?_
    refine lv_bipush (v := (-4 : Int32)) hx hb dX8_pairs_10 (by decide) ?_
    cases hm
    exact a_iret (X := X) (Y := []) fx hr hsz (by rw [List.append_nil]; exact hC) (fun x hx => Or.inl hx) (Nat.zero_le _) (Nat.zero_le _) rfl dX8_pairs_12
  · refine d_callVr (ci := 8) (As := [.int (4 : Int32)]) (rest := []) fx sx hC dw_w (D8c_blank l τ (4 : Int32) e_1) k_204 D8k_blank D8h_blank rfl rfl (O_at O8) ⟨rfl, rfl⟩ ⟨Nat.le_trans (Nat.le_of_ble_eq_true rfl) hR.1, Nat.le_trans (Nat.le_of_ble_eq_true rfl) hR.2⟩ hf rfl hl.1 rfl (Nat.le_of_ble_eq_true rfl) dX8_pairs_2 (fun H locs hC => ?_)
    refine lv_astore_n (lv' := [(2, .ref (q (47 + r_2))), (0, .ref (q 0)), (1, .int a1)]) hx hb dX8_pairs_5 rfl hl (by decide) rfl (fun ls hl => ?_)
    refine lv_aload_n hx hb dX8_pairs_6 rfl (lv_at hl 0 rfl) ?_
    refine lv_ifnonnull (tgt := 13) hx hb dX8_pairs_7 (by decide) ?_
    refine d_new fx hC k_270 k_271 k_272 ⟨Nat.le_of_ble_eq_true rfl, Nat.le_of_ble_eq_true rfl⟩ dX8_pairs_13 (fun z H hz hC => ?_)
    replace sx := SX.grow sx hz
    have hf : 1 ≤ (D8rm_pairs).cells ∧ 8 ≤ (D8rm_pairs).slots := ⟨Nat.le_refl _, Nat.le_refl _⟩
    have hC2 : GC D (dwd cy q (X ++ [(z, .inr (4, raw4))])) (ad ++ [z]) s τ_4 H locs := hC
    refine lv_dup hx hb dX8_pairs_16 rfl ?_
    refine lv_aload_n hx hb dX8_pairs_17 rfl (lv_at hl 1 rfl) ?_
    refine D8g_0 fx hC2 k_15 dX8_pairs_18 ?_
    refine lv_aload_n hx hb dX8_pairs_21 rfl (lv_at hl 0 rfl) ?_
    refine d_callI (wd := xwd cy q X z τ_4) (As := [.ref (q 1), .ref (q (47 + r_2))]) (rest := [.ref z]) fx sx hC xw_w (D4c_init l z r_2 τ_4) k_273 KW_I4 rfl KH_I4 ⟨rfl, rfl⟩ ⟨Nat.le_trans (Nat.le_of_ble_eq_true rfl) hR.1, Nat.le_trans (Nat.le_of_ble_eq_true rfl) hR.2⟩ hf rfl hl.1 rfl (Nat.le_of_ble_eq_true rfl) dX8_pairs_22 (fun H locs hC => ?_)
    replace hC : GC D (swd cy q X z r_2) (ad ++ [z]) s (τ_4, fun _ => 0) _ _ := hC
    refine lv_iload_n hx hb dX8_pairs_25 rfl (lv_at hl 2 rfl) ?_
    obtain ⟨τ_5, e_6, hm⟩ := b1_in hm
    refine d_callVv (ci := 4) (As := [.int a1]) (rest := []) fx sx hC sw_w (D4c_findPairs l z r_2 h_3 (τ_4, fun _ => 0) a1 e_6) k_398 D4k_findPairs D4h_findPairs rfl rfl s_at ⟨rfl, rfl⟩ ⟨Nat.le_trans (Nat.le_of_ble_eq_true rfl) hR.1, Nat.le_trans (Nat.le_of_ble_eq_true rfl) hR.2⟩ hf rfl hl.1 rfl (Nat.le_of_ble_eq_true rfl) dX8_pairs_26 (fun H locs hC => ?_)
    replace hC : GC D (dwd cy q (X ++ [(z, .inr (4, d4 q r_2 τ_5.2))])) (ad ++ [z]) s τ_5.1 _ _ := hC
    refine lv_aload_n hx hb dX8_pairs_29 rfl (lv_at hl 1 rfl) ?_
    obtain ⟨r_9, τ_8, e_7, hm⟩ := b2_in hm
    refine d_callVi (ci := 8) (As := []) (rest := []) fx sx hC dw_w (D8c_keep l τ_5.1 e_7) k_224 D8k_keep D8h_keep rfl rfl (O_at O8) ⟨rfl, rfl⟩ ⟨Nat.le_trans (Nat.le_of_ble_eq_true rfl) hR.1, Nat.le_trans (Nat.le_of_ble_eq_true rfl) hR.2⟩ hf rfl hl.1 rfl (Nat.le_of_ble_eq_true rfl) dX8_pairs_30 (fun H locs hC => ?_)
    cases hm
    exact a_iret (X := X) fx hr hsz hC (fun x hx => by rcases List.mem_append.mp hx with h9 | h9; exact Or.inl h9; rw [List.mem_singleton.mp h9]; exact Or.inr (hsz ▸ hz)) (Nat.le_refl _) (Nat.le_refl _) rfl dX8_pairs_33
def D8m_parts (τ : DS) (a1 : Int32) (a2 : Int32) (a3 : Int32) : Option (Int32 × DS) :=
  if a1 < (1 : Int32) then (some ((-2 : Int32), τ)) else (if a1 ≤ (τ.1 1 0) then (bqe (D8m_blank τ (5 : Int32)) (fun τ_6 => some ((-4 : Int32), τ_6)) (fun r_4 τ_6 => b1 (D4m_findParts r_4 (τ_6, fun _ => 0) a1 a2 a3) (fun τ_7 => b2 (D8m_keep τ_7.1) (fun r_11 τ_10 => some (r_11, τ_10))))) else (some ((-2 : Int32), τ)))
abbrev D8rm_parts : Room := { frames := 29, cells := 1, slots := 8, locals := 742 }
set_option maxRecDepth 100000 in
set_option maxHeartbeats 4000000 in
theorem D8c_parts (l : Launch) {D : va_G} {cy : Nat → ClassId} {ad : List Nat} {q : Nat → Nat} {X : va_W} (sz : Nat) (τ : DS) (a1 : Int32) (a2 : Int32) (a3 : Int32) {o : Int32 × DS} (hm : D8m_parts τ a1 a2 a3 = some o) : DMa l yX8_parts cX8_parts 5 (some .int) D8rm_parts D cy q X ad sz [.ref (q 0), .int a1, .int a2, .int a3] τ (some (.int o.1)) o.2 := by
  refine a_start RX8 rfl (by decide) (Nat.le_of_ble_eq_true rfl) ?_
  intro p e s m args below meth c fx sx hsz hr hC ls hl
  have hx := fx.1
  have hb := fx.2.1
  have hR : 29 ≤ (D8rm_parts).frames ∧ 742 ≤ (D8rm_parts).locals := ⟨Nat.le_refl _, Nat.le_refl _⟩
  have hf : 0 ≤ (D8rm_parts).cells ∧ 0 ≤ (D8rm_parts).slots := ⟨Nat.zero_le _, Nat.zero_le _⟩
  have hl : lv_has ls 5 [(0, .ref (q 0)), (1, .int a1), (2, .int a2), (3, .int a3)] := hl
  unfold D8m_parts at hm
  refine lv_iload_n hx hb dX8_parts_0 rfl (lv_at hl 1 rfl) ?_
  refine lv_iconst (v := (1 : Int32)) hx hb dX8_parts_1 (by decide) ?_
  refine lv_icmp_lt (tgt := 16) hx hb dX8_parts_2 (by decide) (fun c_1 => ?_) (fun c_1 => ?_)
  · replace hm := ifp hm c_1
    refine lv_bipush (v := (-2 : Int32)) hx hb dX8_parts_16 (by decide) ?_
    cases hm
    exact a_iret (X := X) (Y := []) fx hr hsz (by rw [List.append_nil]; exact hC) (fun x hx => Or.inl hx) (Nat.zero_le _) (Nat.zero_le _) rfl dX8_parts_18
  · replace hm := ifn hm c_1
    refine lv_iload_n hx hb dX8_parts_5 rfl (lv_at hl 1 rfl) ?_
    refine lv_aload_n hx hb dX8_parts_6 rfl (lv_at hl 0 rfl) ?_
    refine D8g_0 fx hC k_15 dX8_parts_7 ?_
    refine D2g_0 fx hC k_347 dX8_parts_10 ?_
    refine lv_icmp_le (tgt := 19) hx hb dX8_parts_13 (by decide) (fun c_2 => ?_) (fun c_2 => ?_)
    · replace hm := ifp hm c_2
      refine lv_aload_n hx hb dX8_parts_19 rfl (lv_at hl 0 rfl) ?_
      refine lv_iconst (v := (5 : Int32)) hx hb dX8_parts_20 (by decide) ?_
      rcases bqe_in hm with ⟨τ_6, e_3, hm⟩ | ⟨r_4, τ_6, e_3, h_5, hm⟩
      · refine d_callVn (ci := 8) (As := [.int (5 : Int32)]) (rest := []) fx sx hC dw_w (D8c_blank l τ (5 : Int32) e_3) k_204 D8k_blank D8h_blank rfl rfl (O_at O8) ⟨rfl, rfl⟩ ⟨Nat.le_trans (Nat.le_of_ble_eq_true rfl) hR.1, Nat.le_trans (Nat.le_of_ble_eq_true rfl) hR.2⟩ hf rfl hl.1 rfl (Nat.le_of_ble_eq_true rfl) dX8_parts_21 (fun H locs hC => ?_)
        refine lv_astoreN (lv' := [(4, .null), (0, .ref (q 0)), (1, .int a1), (2, .int a2), (3, .int a3)]) hx hb dX8_parts_24 hl (by decide) rfl (fun ls hl => ?_)
        refine lv_aloadN hx hb dX8_parts_26 (lv_at hl 0 rfl) ?_
        refine lv_ifnonnullN hx hb dX8_parts_28 ?_
        refine lv_bipush (v := (-4 : Int32)) hx hb dX8_parts_31 (by decide) ?_
        cases hm
        exact a_iret (X := X) (Y := []) fx hr hsz (by rw [List.append_nil]; exact hC) (fun x hx => Or.inl hx) (Nat.zero_le _) (Nat.zero_le _) rfl dX8_parts_33
      · refine d_callVr (ci := 8) (As := [.int (5 : Int32)]) (rest := []) fx sx hC dw_w (D8c_blank l τ (5 : Int32) e_3) k_204 D8k_blank D8h_blank rfl rfl (O_at O8) ⟨rfl, rfl⟩ ⟨Nat.le_trans (Nat.le_of_ble_eq_true rfl) hR.1, Nat.le_trans (Nat.le_of_ble_eq_true rfl) hR.2⟩ hf rfl hl.1 rfl (Nat.le_of_ble_eq_true rfl) dX8_parts_21 (fun H locs hC => ?_)
        refine lv_astore (lv' := [(4, .ref (q (47 + r_4))), (0, .ref (q 0)), (1, .int a1), (2, .int a2), (3, .int a3)]) hx hb dX8_parts_24 hl (by decide) rfl (fun ls hl => ?_)
        refine lv_aload hx hb dX8_parts_26 (lv_at hl 0 rfl) ?_
        refine lv_ifnonnull (tgt := 34) hx hb dX8_parts_28 (by decide) ?_
        refine d_new fx hC k_270 k_271 k_272 ⟨Nat.le_of_ble_eq_true rfl, Nat.le_of_ble_eq_true rfl⟩ dX8_parts_34 (fun z H hz hC => ?_)
        replace sx := SX.grow sx hz
        have hf : 1 ≤ (D8rm_parts).cells ∧ 8 ≤ (D8rm_parts).slots := ⟨Nat.le_refl _, Nat.le_refl _⟩
        have hC2 : GC D (dwd cy q (X ++ [(z, .inr (4, raw4))])) (ad ++ [z]) s τ_6 H locs := hC
        refine lv_dup hx hb dX8_parts_37 rfl ?_
        refine lv_aload_n hx hb dX8_parts_38 rfl (lv_at hl 1 rfl) ?_
        refine D8g_0 fx hC2 k_15 dX8_parts_39 ?_
        refine lv_aload hx hb dX8_parts_42 (lv_at hl 0 rfl) ?_
        refine d_callI (wd := xwd cy q X z τ_6) (As := [.ref (q 1), .ref (q (47 + r_4))]) (rest := [.ref z]) fx sx hC xw_w (D4c_init l z r_4 τ_6) k_273 KW_I4 rfl KH_I4 ⟨rfl, rfl⟩ ⟨Nat.le_trans (Nat.le_of_ble_eq_true rfl) hR.1, Nat.le_trans (Nat.le_of_ble_eq_true rfl) hR.2⟩ hf rfl hl.1 rfl (Nat.le_of_ble_eq_true rfl) dX8_parts_44 (fun H locs hC => ?_)
        replace hC : GC D (swd cy q X z r_4) (ad ++ [z]) s (τ_6, fun _ => 0) _ _ := hC
        refine lv_iload_n hx hb dX8_parts_47 rfl (lv_at hl 2 rfl) ?_
        refine lv_iload_n hx hb dX8_parts_48 rfl (lv_at hl 3 rfl) ?_
        refine lv_iload_n hx hb dX8_parts_49 rfl (lv_at hl 4 rfl) ?_
        obtain ⟨τ_7, e_8, hm⟩ := b1_in hm
        refine d_callVv (ci := 4) (As := [.int a1, .int a2, .int a3]) (rest := []) fx sx hC sw_w (D4c_findParts l z r_4 h_5 (τ_6, fun _ => 0) a1 a2 a3 e_8) k_414 D4k_findParts D4h_findParts rfl rfl s_at ⟨rfl, rfl⟩ ⟨Nat.le_trans (Nat.le_of_ble_eq_true rfl) hR.1, Nat.le_trans (Nat.le_of_ble_eq_true rfl) hR.2⟩ hf rfl hl.1 rfl (Nat.le_of_ble_eq_true rfl) dX8_parts_50 (fun H locs hC => ?_)
        replace hC : GC D (dwd cy q (X ++ [(z, .inr (4, d4 q r_4 τ_7.2))])) (ad ++ [z]) s τ_7.1 _ _ := hC
        refine lv_aload_n hx hb dX8_parts_53 rfl (lv_at hl 1 rfl) ?_
        obtain ⟨r_11, τ_10, e_9, hm⟩ := b2_in hm
        refine d_callVi (ci := 8) (As := []) (rest := []) fx sx hC dw_w (D8c_keep l τ_7.1 e_9) k_224 D8k_keep D8h_keep rfl rfl (O_at O8) ⟨rfl, rfl⟩ ⟨Nat.le_trans (Nat.le_of_ble_eq_true rfl) hR.1, Nat.le_trans (Nat.le_of_ble_eq_true rfl) hR.2⟩ hf rfl hl.1 rfl (Nat.le_of_ble_eq_true rfl) dX8_parts_54 (fun H locs hC => ?_)
        cases hm
        exact a_iret (X := X) fx hr hsz hC (fun x hx => by rcases List.mem_append.mp hx with h9 | h9; exact Or.inl h9; rw [List.mem_singleton.mp h9]; exact Or.inr (hsz ▸ hz)) (Nat.le_refl _) (Nat.le_refl _) rfl dX8_parts_57
    · replace hm := ifn hm c_2
      refine lv_bipush (v := (-2 : Int32)) hx hb dX8_parts_16 (by decide) ?_
      cases hm
      exact a_iret (X := X) (Y := []) fx hr hsz (by rw [List.append_nil]; exact hC) (fun x hx => Or.inl hx) (Nat.zero_le _) (Nat.zero_le _) rfl dX8_parts_18

/-! ===== constructors: a world that grows at the heap's end ===== -/
def va_AOA (ty : FieldType) (U : State) : Prop := (Cond.arrayOver (.array ty)).before #[] U = true
theorem va_AOA.use {ty : FieldType} {A : Array Value} {U : State} (h : va_AOA ty U) : (Cond.arrayOver (.array ty)).before A U = true := h
theorem idx_alike {u U : Vm} (hvm : u.Alike U) (P : Class → Bool) (hP : ∀ k k' : Class, k'.kind = k.kind → P k' = P k) : U.classes.findIdx? P = u.classes.findIdx? P := by
  have e : ∀ vm : Vm, vm.bare.classes.findIdx? P = vm.classes.findIdx? P := by
    intro vm
    simp only [Vm.bare, Array.findIdx?_map]
    congr 1
    funext k
    exact hP _ _ rfl
  rw [← e U, ← e u]
  first | rw [hvm.bare_eq] | rw [← hvm.bare_eq]
theorem va_AOA.moved {ty : FieldType} {u U : State} (hvm : u.vm.Alike U.vm) (h : va_AOA ty u) : va_AOA ty U := by
  unfold va_AOA Cond.before Cond.holds at h
  simp only [Cond.value, beq_iff_eq] at h
  cases hc : u.vm.findClass (FieldType.array ty).toString with
  | none => simp [hc] at h
  | some comp =>
    simp only [hc, Option.bind_some, Option.bind_eq_some_iff, Option.map_eq_some_iff] at h
    obtain ⟨cc, hi, k, hk, hb⟩ := h
    obtain ⟨k', hk', he⟩ := hvm.2.2 _ _ hk
    have hi2 := (idx_alike hvm _ (fun k k' e => by simp only [e])).trans hi
    have f2 : ∀ n : String, U.vm.findClass n = u.vm.findClass n := fun n => by rw [hvm.findClass]
    have hkk : k'.kind = k.kind := by rw [he]
    unfold va_AOA Cond.before Cond.holds
    simp only [Cond.value, f2, hc, Option.bind_some]
    simp only [hi2, Option.bind_some, hk', Option.map_some, hkk]
    exact congrArg (fun b : Bool => (some b == some true)) hb
/-! ===== BEGIN new T[n][m]: the outer array a place, the inner ones among the pooled ===== -/
/-- f, but v at every address of l -/
def vr_up {α : Type} (f : Nat → α) (l : List Nat) (v : α) : Nat → α := fun a => if a ∈ l then v else f a
theorem vr_up_in {α : Type} {f : Nat → α} {l : List Nat} {v : α} {a : Nat} (h : a ∈ l) : vr_up f l v a = v := if_pos h
theorem vr_up_ne {α : Type} {f : Nat → α} {l : List Nat} {v : α} {a : Nat} (h : a ∉ l) : vr_up f l v a = f a := if_neg h
theorem vr_rows {L l : List Nat} {f : Nat → va_E} {e : va_E} (h : ∀ a, a ∈ l → a ∉ L) : va_pl L f ++ l.map (fun a => (a, e)) = va_pl (L ++ l) (vr_up f l e) := by
  unfold va_pl
  rw [List.map_append]
  congr 1
  · apply List.map_congr_left
    intro a ha
    rw [vr_up_ne (fun q => h a q ha)]
  · apply List.map_congr_left
    intro a ha
    rw [vr_up_in ha]
theorem vr_lay {X rows : va_W} {x : Nat × va_E} {pl : va_W} {D : va_G} {cl : List vw_C} {H : Heap} (hP : va_P D cl (((X ++ pl) ++ [x]) ++ rows) H) : va_P D cl ((X ++ [x]) ++ (pl ++ rows)) H := by
  rw [List.append_assoc (X ++ pl)] at hP
  have h := va_P.swap hP
  rw [← List.append_assoc X] at h
  have h2 := va_P.swap h
  rw [List.append_assoc (X ++ [x])] at h2
  exact h2
theorem vr_layD {X rows : va_W} {x : Nat × va_E} {pl : va_W} {A : Nat → Prop} (hD : va_D A (((X ++ pl) ++ [x]) ++ rows)) : va_D A ((X ++ [x]) ++ (pl ++ rows)) := by
  rw [List.append_assoc (X ++ pl)] at hD
  have h := va_D.swap hD
  rw [← List.append_assoc X] at h
  have h2 := va_D.swap h
  rw [List.append_assoc (X ++ [x])] at h2
  exact h2
theorem vr_outer (c : ClassId) (N h0 : Nat) : ∀ i : Nat, Jvm.Free.Multi.outerC c N h0 i = arrV c N (fun j => va_rf (if j < i then some (h0 + 1 + j) else none))
  | 0 => by
    show ({ cls := c, slots := Array.replicate N .null, vm := .none } : Cell) = _
    rw [arrV_new]
    refine congrArg (arrV c N) (funext fun j => ?_)
    simp [va_rf]
  | i + 1 => by
    show (Jvm.Free.Multi.outerC c N h0 i).setSlot i (.ref (h0 + 1 + i)) = _
    rw [vr_outer c N h0 i, arrV_store]
    refine congrArg (arrV c N) (funext fun j => ?_)
    by_cases e : j = i
    · subst e
      simp [updV, va_rf]
    · by_cases h : j < i
      · simp [updV, e, h, Nat.lt_succ_of_lt h]
      · simp [updV, e, h, show ¬ j < i + 1 by omega]
section VGM
variable {p : Program} {l : Launch} {e : Env} {R : Room} {s : State} {m : MethodId} {args : Array Value} {below : List Frame} {meth : Method} {c : Code} {H : Heap} {locs : List Loc} {cells slots : Nat} {Q : State → Prop}
variable {cc : ByteArray} {pc : Nat} {ls : Array Slot} {rest : List Value} {D : va_G} {cl : List vw_C} {A : Nat → Prop} {a : Nat} {tys : List (ClassId × FieldType)} {ws : va_W} {H0 : Heap}
theorem va_mna {X : va_W} {L : List Nat} {f : Nat → va_E} {cc : ByteArray} (hexec : p.tables.exec = Jvm.exec) (hb : c.code = cc) {own : String} {index : Nat} {ty : FieldType} {cy : ClassId} (hown : s.vm.findClass own = some m.cls) (hclink : (Cond.classLink own index ("[" ++ (FieldType.array ty).toString)).before args s = true) (hover : va_AOA ty s) (harr : (Cond.arrayClass ty).before args s = true) (hcy : s.vm.findClass (FieldType.array ty).toString = some cy)
    (hK : va_K D cl tys s) (hP : va_P D cl (X ++ va_pl L f) H) (hD : va_D A (X ++ va_pl L f)) (hS : va_S A H0 H locs) (hA : ∀ q, H0.size ≤ q → A q) {n k : Int32} {N' K' : Nat} {z : vp_A} (hn : ¬ n < 0) (hk : ¬ k < 0) (hN : n.toNatClampNeg = N') (hM : k.toNatClampNeg = K')
    (hb1 : N' * 4 ≤ 536870912) (hb2 : K' * componentBytes ty ≤ 536870912) (hb3 : K' ≤ 536870912) (hdf : fits ty (defaultValue ty) = true) (hdd : (defaultValue ty).isDefault = true) (hcells : cells + (1 + N') ≤ R.cells) (hslots : slots + (N' + N' * K') ≤ R.slots) (hz : ∀ c : ClassId, Jvm.Free.Multi.innerC c K' (defaultValue ty) = vp_cell c z) (hdg : decode cc pc = .ok (.multianewarray index 2, 4))
    (kk : ∀ (q : Nat) (r : Nat → Nat) (cA : ClassId) (H1 : Heap), (∀ i j : Nat, i < N' → j < N' → r i = r j → i = j) → (∀ i : Nat, i < N' → r i ∉ L) → va_K D cl (tys ++ [(cA, .array ty)]) s →
      va_P D cl ((X ++ [(q, .inl (cA, N', .inr (.inr (.inr (.inr (fun i => if i < N' then some (r i) else none))))))]) ++ va_pl (L ++ (List.range N').map r) (vr_up f ((List.range N').map r) (.inl (cy, z)))) H1 → va_D A ((X ++ [(q, .inl (cA, N', .inr (.inr (.inr (.inr (fun i => if i < N' then some (r i) else none))))))]) ++ va_pl (L ++ (List.range N').map r) (vr_up f ((List.range N').map r) (.inl (cy, z)))) → va_S A H0 H1 locs →
      W p l e R s m args below meth c H1 locs (cells + 1 + N') (slots + N' + N' * K') Q (F0 m (pc + 4) ls (.ref q :: rest))) : W p l e R s m args below meth c H locs cells slots Q (F0 m pc ls (.int k :: .int n :: rest)) := by
  subst hN
  subst hM
  intro T hT Xs
  obtain ⟨vm₁, cA, comp, -, fA, fC, hO, -, X', step⟩ := Xs.multianewarray2F hexec hown hclink (va_AOA.use hover) harr (g := F0 m pc ls (.int k :: .int n :: rest)) rfl (by rw [hb]; exact hdg) rfl hn hk hb1 hb2 hb3 hdf hdd hcells hslots
  have ec : some cy = some comp := hcy.symm.trans fC
  cases ec
  generalize hF : Jvm.Free.Multi.fill (T.setVm vm₁) cA cy n.toNatClampNeg k.toNatClampNeg (defaultValue ty) n.toNatClampNeg = F at X' step
  have hTh : (T.setVm vm₁).heap = H := hT
  obtain ⟨f1, f2, -, -⟩ := Jvm.Free.Multi.fill_facts (T.setVm vm₁) cA cy n.toNatClampNeg k.toNatClampNeg (defaultValue ty) n.toNatClampNeg
  rw [hF, hTh] at f1 f2
  have hold : ∀ x : Nat, x < H.size → F.heap[x]? = H[x]? := fun x hx => by
    have := Jvm.Free.Multi.fill_old (T.setVm vm₁) cA cy n.toNatClampNeg k.toNatClampNeg (defaultValue ty) (a := x) (by rw [hTh]; exact hx) n.toNatClampNeg
    rw [hF, hTh] at this
    exact this
  have hrow : ∀ j : Nat, j < n.toNatClampNeg → F.heap[H.size + 1 + j]? = some (vp_cell cy z) := fun j hj => by
    have := Jvm.Free.Multi.fill_inner (T.setVm vm₁) cA cy n.toNatClampNeg k.toNatClampNeg (defaultValue ty) n.toNatClampNeg j hj
    rw [hF, hTh, hz] at this
    exact this
  have hout : Jvm.Free.Multi.outerC cA n.toNatClampNeg H.size n.toNatClampNeg = vp_cell cA (n.toNatClampNeg, .inr (.inr (.inr (.inr (fun i => if i < n.toNatClampNeg then some (H.size + 1 + i) else none))))) := by
    rw [vp_cell_q]
    exact vr_outer cA n.toNatClampNeg H.size n.toNatClampNeg
  rw [hout] at f2
  have hlt : ∀ a, a ∈ L → a < H.size := fun a ha => by
    obtain ⟨k9, hk9⟩ := va_pl_get (X := X) (f := f) ha
    exact (hP k9 _ hk9).lt
  have hnl : ∀ i : Nat, i < n.toNatClampNeg → H.size + 1 + i ∉ L := fun i _ h => by
    have := hlt _ h
    omega
  have hnm : ∀ a, a ∈ (List.range n.toNatClampNeg).map (fun i => H.size + 1 + i) → a ∉ L := fun a ha h => by
    obtain ⟨i, -, rfl⟩ := List.mem_map.mp ha
    have := hlt _ h
    omega
  have hP0 : va_P D cl (X ++ va_pl L f) F.heap := hP.kept (fun k9 x hx => hold x.1 ((hP k9 x hx).lt))
  have hP1 : va_P D cl ((X ++ va_pl L f) ++ [(H.size, .inl (cA, n.toNatClampNeg, .inr (.inr (.inr (.inr (fun i => if i < n.toNatClampNeg then some (H.size + 1 + i) else none))))))]) F.heap := hP0.app (fun k9 x hx => by
    have h0 : k9 < 1 := (List.getElem?_eq_some_iff.mp hx).1
    rw [show k9 = 0 by omega] at hx
    cases hx
    exact f2)
  have hP2 : va_P D cl (((X ++ va_pl L f) ++ [(H.size, .inl (cA, n.toNatClampNeg, .inr (.inr (.inr (.inr (fun i => if i < n.toNatClampNeg then some (H.size + 1 + i) else none))))))]) ++ ((List.range n.toNatClampNeg).map (fun i => H.size + 1 + i)).map (fun a => (a, .inl (cy, z)))) F.heap := hP1.app (fun k9 x hx => by
    obtain ⟨a, ha, rfl⟩ := List.mem_map.mp (List.mem_of_getElem? hx)
    obtain ⟨i, hi, rfl⟩ := List.mem_map.mp ha
    exact hrow i (List.mem_range.mp hi))
  have hD2 : va_D A (((X ++ va_pl L f) ++ [(H.size, .inl (cA, n.toNatClampNeg, .inr (.inr (.inr (.inr (fun i => if i < n.toNatClampNeg then some (H.size + 1 + i) else none))))))]) ++ ((List.range n.toNatClampNeg).map (fun i => H.size + 1 + i)).map (fun a => (a, .inl (cy, z)))) := by
    have hD1 := hD.push (e := .inl (cA, n.toNatClampNeg, .inr (.inr (.inr (.inr (fun i => if i < n.toNatClampNeg then some (H.size + 1 + i) else none)))))) hP rfl (hA _ hS.1)
    generalize hW1 : (X ++ va_pl L f) ++ [(H.size, .inl (cA, n.toNatClampNeg, .inr (.inr (.inr (.inr (fun i => if i < n.toNatClampNeg then some (H.size + 1 + i) else none))))))] = W1 at hD1 hP1 ⊢
    have hle : ∀ (k9 : Nat) (x : Nat × va_E), W1[k9]? = some x → x.1 ≤ H.size := fun k9 x hx => by
      rw [← hW1] at hx
      by_cases hl : k9 < (X ++ va_pl L f).length
      · rw [List.getElem?_append_left hl] at hx
        exact Nat.le_of_lt ((hP k9 x hx).lt)
      · rw [List.getElem?_append_right (by omega)] at hx
        have h0 : k9 - (X ++ va_pl L f).length < 1 := (List.getElem?_eq_some_iff.mp hx).1
        rw [show k9 - (X ++ va_pl L f).length = 0 by omega] at hx
        cases hx
        exact Nat.le_refl _
    have hr : ∀ (k9 : Nat) (x : Nat × va_E), (((List.range n.toNatClampNeg).map (fun i => H.size + 1 + i)).map (fun a => ((a, .inl (cy, z)) : Nat × va_E)))[k9]? = some x → x.1 = H.size + 1 + k9 := fun k9 x hx => by
      rw [List.getElem?_map, List.getElem?_map] at hx
      by_cases h9 : k9 < n.toNatClampNeg
      · rw [List.getElem?_range h9] at hx
        cases hx
        rfl
      · have hn0 : (List.range n.toNatClampNeg)[k9]? = none := List.getElem?_eq_none (by rw [List.length_range]; omega)
        rw [hn0] at hx
        cases hx
    refine ⟨fun i j x y hi hj hxy => ?_, fun k9 x hx => ?_⟩
    · by_cases h1 : i < W1.length <;> by_cases h2 : j < W1.length
      · rw [List.getElem?_append_left h1] at hi
        rw [List.getElem?_append_left h2] at hj
        exact hD1.1 i j x y hi hj hxy
      · rw [List.getElem?_append_left h1] at hi
        rw [List.getElem?_append_right (by omega)] at hj
        have := hle _ _ hi
        have := hr _ _ hj
        omega
      · rw [List.getElem?_append_right (by omega)] at hi
        rw [List.getElem?_append_left h2] at hj
        have := hle _ _ hj
        have := hr _ _ hi
        omega
      · rw [List.getElem?_append_right (by omega)] at hi hj
        have := hr _ _ hi
        have := hr _ _ hj
        omega
    · by_cases h1 : k9 < W1.length
      · rw [List.getElem?_append_left h1] at hx
        exact hD1.2 k9 x hx
      · rw [List.getElem?_append_right (by omega)] at hx
        have := hr _ _ hx
        exact hA _ (by have := hS.1; omega)
  have hAr : ArrOfT s cA (.array ty) := fun N9 z9 => by
    obtain ⟨-, k9, hk9, cm9, hkk9⟩ := (hO 0 0 0).1
    exact ⟨(fun q hq => by cases hq), k9, hk9, cm9, hkk9⟩
  have hK2 : va_K D cl (tys ++ [(cA, .array ty)]) s := ⟨hK.1, fun k9 x hx => by
    by_cases hl : k9 < tys.length
    · rw [List.getElem?_append_left hl] at hx
      exact hK.2 k9 x hx
    · rw [List.getElem?_append_right (by omega)] at hx
      have h0 : k9 - tys.length < 1 := (List.getElem?_eq_some_iff.mp hx).1
      rw [show k9 - tys.length = 0 by omega] at hx
      cases hx
      exact ⟨hAr, fA⟩⟩
  obtain ⟨t, a1, b1⟩ := kk H.size (fun i => H.size + 1 + i) cA F.heap (fun i j _ _ h => by have h9 : H.size + 1 + i = H.size + 1 + j := h; omega) hnl hK2 (by rw [← vr_rows hnm]; exact vr_lay hP2) (by rw [← vr_rows hnm]; exact vr_layD hD2) ⟨by rw [f1]; have := hS.1; omega, fun x h1 h2 => (hold x (Nat.lt_of_lt_of_le h1 hS.1)).trans (hS.2.1 x h1 h2), hS.2.2⟩ F rfl X'
  refine ⟨t, step t ?_, b1⟩
  have e : T.heap.size = H.size := by rw [hT]
  rw [e]
  exact a1
end VGM
/-! ===== END ===== -/
/-- what the constructors need of the tables beside the words -/
def EX (U : State) : Prop := va_AO "WayBook$Ways" U ∧ va_AOA .int U ∧ va_Nw (.methodLinkNest "WayBook" 9 yX2_init "WayBook") U ∧ va_Nw (.methodLinkNest "WayBook" 22 yX7_init "WayBook") U ∧ va_Nw (.methodLinkNest "WayBook" 36 yX5_init "WayBook") U ∧ va_Nw (.methodLinkNest "WayBook" 43 yX6_init "WayBook") U ∧ va_Nw (.methodLinkNest "WayBook" 50 yX3_init "WayBook") U ∧ va_Nw (.methodLinkNest "WayBook" 67 yX0_init "WayBook") U
theorem EX.moved {s U : State} (h : EX s) (hW : s.WarmedH U.vm) : EX U := ⟨h.1.moved hW.alike, h.2.1.moved hW.alike, h.2.2.1.warmM hW, h.2.2.2.1.warmM hW, h.2.2.2.2.1.warmM hW, h.2.2.2.2.2.1.warmM hW, h.2.2.2.2.2.2.1.warmM hW, h.2.2.2.2.2.2.2.warmM hW⟩
theorem EX.calling {U : State} {g : JFrame} {mk : MethodId} {a : Array Value} (h : EX U) : EX (U.calling g mk a) :=
  ⟨h.1.moved (Vm.Alike.refl U.vm), h.2.1.moved (Vm.Alike.refl U.vm), va_Nw.same rfl (u := U) rfl h.2.2.1, va_Nw.same rfl (u := U) rfl h.2.2.2.1, va_Nw.same rfl (u := U) rfl h.2.2.2.2.1, va_Nw.same rfl (u := U) rfl h.2.2.2.2.2.1, va_Nw.same rfl (u := U) rfl h.2.2.2.2.2.2.1, va_Nw.same rfl (u := U) rfl h.2.2.2.2.2.2.2⟩
def GL (D : va_G) (B : Nat) (s : State) (ws : va_W) (H : Heap) (locs : List Loc) : Prop := va_P D vwCl ws H ∧ va_D (fun x => B ≤ x) ws ∧ va_S (fun x => B ≤ x) s.heap H locs ∧ B ≤ s.heap.size
def CP (D : va_G) (cy : Nat → ClassId) (B : Nat) (av : List Value) (ws : va_W) : Array Value → State → Prop := fun v U => v = av.toArray ∧ B ≤ U.heap.size ∧ va_P D vwCl ws U.heap ∧ va_K D vwCl (tyL cy) U ∧ va_D (fun x => B ≤ x) ws ∧ EX U
def CQ (D : va_G) (B : Nat) (Φ : va_W → Prop) : Array Value → State → Outcome → State → Prop := fun _ st oc t => (oc = .returned none ∧ ∃ ws : va_W, Φ ws ∧ va_P D vwCl ws t.heap ∧ va_D (fun x => B ≤ x) ws) ∧ va_F (fun x => B ≤ x) st t
def CM (l : Launch) (y : MethodName) (b : ByteArray) (n : Nat) (rm : Room) (D : va_G) (cy : Nat → ClassId) (B : Nat) (av : List Value) (ws : va_W) (Φ : va_W → Prop) (mc ms : Nat) : Prop :=
  Met l y (Cond.code y b n none :: wsL_law) rm (CP D cy B av ws) (CQ D B Φ) mc ms (fun x => B ≤ x)
theorem c_blind {D : va_G} {cy : Nat → ClassId} {B : Nat} {av : List Value} {ws : va_W} : FrameBlind (CP D cy B av ws) :=
  fun a U g mk q => ⟨q.1, q.2.1, q.2.2.1, va_K.moved (u := U) (U := U.calling g mk a) (Vm.Alike.refl U.vm) q.2.2.2.1, q.2.2.2.2.1, q.2.2.2.2.2.calling⟩
theorem c_start {l : Launch} {y : MethodName} {b : ByteArray} {n : Nat} {rm : Room} {D : va_G} {cy : Nat → ClassId} {B : Nat} {av : List Value} {mc ms : Nat} {ws : va_W} {Φ : va_W → Prop} (own : String)
    (ho : y.cls = own) (hy : plainName y.cls = true) (hsl : (lg_sl av).length ≤ n)
    (body : ∀ (p : Program) (e : Env) (s : State) (m : MethodId) (args : Array Value) (below : List Frame) (meth : Method) (c : Code), FX p s m args meth c b n own D cy → meth.name = y.name → EX s → meth.sig.returnType = none → GL D B s ws s.heap [] → ∀ ls : Array Slot, lv_has ls n (lv_args 0 av) →
      W p l e rm s m args below meth c s.heap [] 0 0 (MQ below (CQ D B Φ) args s mc ms (fun x => B ≤ x)) (F0 m 0 ls [])) : CM l y b n rm D cy B av ws Φ mc ms := by
  refine Met.ofW (cc := b) (maxL := n) (ret := none) hy rfl ?_
  intro p e s m args below meth c s₁ Bd hml hv
  obtain ⟨rfl, hB, hP, hK, hD, hE⟩ := hv
  have hts := atoms_spec (ws := Cond.code y b n none :: wsL_law) Bd.pre
  have hown : s.vm.findClass own = some m.cls := by rw [← ho]; exact findClass_of_methodNamed Bd.named
  rw [lg_entry_eq]
  exact body p e s m _ below meth c ⟨Bd.exec, Bd.bytes, hml, hown, fun w h => hts w (List.mem_cons_of_mem _ h), hK, Bd.notSynchronized⟩ (name_of_methodNamed Bd.named Bd.method).1 hE Bd.returns ⟨hP, hD, va_S.rf, hB⟩ _ (lv_entry av hsl)
section MAKE2
variable {p : Program} {l : Launch} {e : Env} {R : Room} {s : State} {m : MethodId} {args : Array Value} {below : List Frame} {meth : Method} {c : Code} {H : Heap} {locs : List Loc} {cells slots : Nat} {Q : State → Prop}
variable {cc : ByteArray} {nL pc : Nat} {own : String} {ls : Array Slot} {rest st0 : List Value} {D : va_G} {cy : Nat → ClassId} {B : Nat} {ws : va_W}
theorem GL.all (h : GL D B s ws H locs) : ∀ x : Nat, s.heap.size ≤ x → (fun x => B ≤ x) x := fun _ hx => Nat.le_trans h.2.2.2 hx
theorem L_new {C : String} {T : u_T} {M ci idx : Nat} (fx : FX p s m args meth c cc nL own D cy) (hL : GL D B s ws H locs) (hin : ∀ w ∈ u_ws C T M, w ∈ wsL_law) (ty : Nat → FieldType) (hty : ∀ k, k < M → parseFieldDescriptor (T k).2.2.1 = some (ty k)) (hcl : Cond.classLink own idx C ∈ wsL_law) (hinst : Cond.instantiable C M ∈ wsL_law) (hini : Cond.initialized C ∈ wsL_law)
    (hc : vwCl[ci]? = some (C, T, M)) {fs : List Value} (hfs : ∀ j, j < M → defaultValue (ty j) = vp_V fs j) (hcells : cells + 1 ≤ R.cells) (hslots : slots + M ≤ R.slots) (hdg : decode cc pc = .ok (.new idx, 3))
    (kk : ∀ (z : Nat) (H1 : Heap), GL D B s (ws ++ [(z, .inr (ci, fs))]) H1 locs → W p l e R s m args below meth c H1 locs (cells + 1) (slots + M) Q (F0 m (pc + 3) ls (.ref z :: rest))) : W p l e R s m args below meth c H locs cells slots Q (F0 m pc ls rest) :=
  va_new (ci := ci) (fs := fs) (C := C) (T := T) (N := M) fx.1 fx.2.1 fx.2.2.2.2.1 hin ty hty fx.2.2.2.1 (fx.2.2.2.2.1 _ hcl) (fx.2.2.2.2.1 _ hinst) (fx.2.2.2.2.1 _ hini) fx.2.2.2.2.2.1 hL.1 hL.2.1 hL.2.2.1 hL.all hc hfs hcells hslots hdg (fun z H1 h1 h2 h3 => kk z H1 ⟨h1, h2, h3, hL.2.2.2⟩)
theorem L_newa {atype : ArrayType} {ty : FieldType} {cA : ClassId} (t0 : Nat) (fx : FX p s m args meth c cc nL own D cy) (hL : GL D B s ws H locs) (hty : newarray.typeOf atype = ty) (ht : (tyL cy)[t0]? = some (cA, ty)) (hra : ∀ cB, va_RA s cB ty → s.vm.findClass ("[" ++ ty.toString) = some cB) (harr : Cond.arrayClass ty ∈ wsL_law)
    {n : Int32} {N' : Nat} {a0 : vp_A} (ha : ∀ cA, vp_cell cA a0 = arrV cA N' (fun _ => defaultValue ty)) (hn : ¬ n < 0) (hN : n.toNatClampNeg = N') (hbytes : N' * componentBytes ty ≤ 536870912) (hcells : cells + 1 ≤ R.cells) (hslots : slots + N' ≤ R.slots) (hdg : decode cc pc = .ok (.newarray atype, 2))
    (kk : ∀ (z : Nat) (H1 : Heap), GL D B s (ws ++ [(z, .inl (cA, a0))]) H1 locs → W p l e R s m args below meth c H1 locs (cells + 1) (slots + N') Q (F0 m (pc + 2) ls (.ref z :: rest))) : W p l e R s m args below meth c H locs cells slots Q (F0 m pc ls (.int n :: rest)) := by
  subst hty
  refine va_newa (atype := atype) (a0 := a0) fx.1 fx.2.1 (fx.2.2.2.2.1 _ harr) rfl fx.2.2.2.2.2.1 hL.1 hL.2.1 hL.2.2.1 hL.all ha hn hN hbytes hcells hslots hdg (fun z cB H1 hK h1 h2 h3 => ?_)
  have e1 := hra _ (hK.2 5 _ rfl).2
  have e2 := hra _ (fx.2.2.2.2.2.1.2 t0 _ ht).2
  have hcB : cB = cA := Option.some.inj (e1.symm.trans e2)
  subst hcB
  exact kk z H1 ⟨h1, h2, h3, hL.2.2.2⟩
theorem L_newq {idx : Nat} (fx : FX p s m args meth c cc nL own D cy) (hL : GL D B s ws H locs) (hcl : Cond.classLink own idx "WayBook$Ways" ∈ wsL_law) (hao : va_AO "WayBook$Ways" s) {n : Int32} {N' : Nat} (hn : ¬ n < 0) (hN : n.toNatClampNeg = N') (hbytes : N' * 4 ≤ 536870912) (hcells : cells + 1 ≤ R.cells) (hslots : slots + N' ≤ R.slots) (hdg : decode cc pc = .ok (.anewarray idx, 3))
    (kk : ∀ (z : Nat) (H1 : Heap), GL D B s (ws ++ [(z, .inl (cy 3, N', .inr (.inr (.inr (.inr (fun _ => none))))))]) H1 locs → W p l e R s m args below meth c H1 locs (cells + 1) (slots + N') Q (F0 m (pc + 3) ls (.ref z :: rest))) : W p l e R s m args below meth c H locs cells slots Q (F0 m pc ls (.int n :: rest)) := by
  refine va_newq fx.1 fx.2.1 fx.2.2.2.1 (fx.2.2.2.2.1 _ hcl) hao fx.2.2.2.2.2.1 hL.1 hL.2.1 hL.2.2.1 hL.all hn hN hbytes hcells hslots hdg (fun z cB H1 hK h1 h2 h3 => ?_)
  obtain ⟨-, -, -, -, -, g4⟩ := (fx.2.2.2.2.2.1.2 3 _ rfl).2
  obtain ⟨-, -, -, -, -, g5⟩ := (hK.2 5 _ rfl).2
  have hcB : cB = cy 3 := Option.some.inj (g5.symm.trans g4)
  subst hcB
  exact kk z H1 ⟨h1, h2, h3, hL.2.2.2⟩
/-- int[n][k] -/
theorem L_mna {idx : Nat} (fx : FX p s m args meth c cc nL own D cy) (hL : GL D B s ws H locs) (hcl : Cond.classLink own idx "[[I" ∈ wsL_law) (hao : va_AOA .int s) (harr : Cond.arrayClass .int ∈ wsL_law) {n k : Int32} {N' K' : Nat} (hn : ¬ n < 0) (hk : ¬ k < 0) (hN : n.toNatClampNeg = N') (hM : k.toNatClampNeg = K') (hb1 : N' * 4 ≤ 536870912) (hb2 : K' * 4 ≤ 536870912) (hcells : cells + (1 + N') ≤ R.cells) (hslots : slots + (N' + N' * K') ≤ R.slots) (hdg : decode cc pc = .ok (.multianewarray idx 2, 4))
    (kk : ∀ (z : Nat) (r : Nat → Nat) (H1 : Heap), GL D B s ((ws ++ [(z, .inl (cy 4, N', .inr (.inr (.inr (.inr (fun i => if i < N' then some (r i) else none))))))]) ++ (List.range N').map (fun i => (r i, .inl (cy 0, K', .inl (fun _ => 0))))) H1 locs → W p l e R s m args below meth c H1 locs (cells + 1 + N') (slots + N' + N' * K') Q (F0 m (pc + 4) ls (.ref z :: rest))) : W p l e R s m args below meth c H locs cells slots Q (F0 m pc ls (.int k :: .int n :: rest)) := by
  have hcy : s.vm.findClass (FieldType.array .int).toString = some (cy 0) := (fx.2.2.2.2.2.1.2 0 _ rfl).2
  have e0 : ws = ws ++ va_pl [] (fun _ => .inr (0, [])) := by simp [va_pl]
  refine va_mna (X := ws) (L := []) (f := fun _ => .inr (0, [])) (ty := .int) (z := (K', .inl (fun _ => 0))) fx.1 fx.2.1 fx.2.2.2.1 (fx.2.2.2.2.1 _ hcl) hao (fx.2.2.2.2.1 _ harr) hcy fx.2.2.2.2.2.1 (e0 ▸ hL.1) (e0 ▸ hL.2.1) hL.2.2.1 hL.all hn hk hN hM hb1 hb2 (by have : componentBytes .int = 4 := rfl; omega) rfl rfl hcells hslots (fun cA => by rw [vp_cell_i]; simp [Jvm.Free.Multi.innerC, ← arrV_new]; exact Or.inr rfl) hdg (fun z r cA H1 hi hnl hK h1 h2 h3 => ?_)
  have g4 : s.vm.findClass ("[" ++ (FieldType.array .int).toString) = some (cy 4) := (fx.2.2.2.2.2.1.2 4 _ rfl).2
  have g5 : s.vm.findClass ("[" ++ (FieldType.array .int).toString) = some cA := (hK.2 5 _ rfl).2
  have hcB : cA = cy 4 := Option.some.inj (g5.symm.trans g4)
  subst hcB
  have e2 : va_pl ([] ++ (List.range N').map r) (vr_up (fun _ => .inr (0, [])) ((List.range N').map r) (.inl (cy 0, K', .inl (fun _ => 0)))) = (List.range N').map (fun i => (r i, .inl (cy 0, K', .inl (fun _ => 0)))) := by
    unfold va_pl
    rw [List.nil_append, List.map_map]
    apply List.map_congr_left
    intro i hi9
    simp only [Function.comp]
    rw [vr_up_in (List.mem_map.mpr ⟨i, hi9, rfl⟩)]
  rw [e2] at h1 h2
  exact kk z r H1 ⟨h1, h2, h3, hL.2.2.2⟩
theorem L_putF {ref C : String} {T : u_T} {M ci idx q0 a : Nat} {fs : List Value} {v : Value} {ty : FieldType} (fx : FX p s m args meth c cc nL own D cy) (hL : GL D B s ws H locs) (hin : ∀ w ∈ u_ws C T M, w ∈ wsL_law) (hc : vwCl[ci]? = some (C, T, M)) (ty0 : Nat → FieldType) (hty : ∀ k, k < M → parseFieldDescriptor (T k).2.2.1 = some (ty0 k)) (hnm : ∀ a, a < M → ∀ b, b < M → a ≠ b → (T a).2.1 ≠ (T b).2.1) (he : ws[q0]? = some (a, .inr (ci, fs))) (k : Nat) (hk : k < M) (hlink : Cond.fieldLink own idx ref (T k).2.1 (T k).2.2.1 ∈ wsL_law) (hsame : ∀ x, s.fieldFound? (T k).1 (T k).2.1 (T k).2.2.1 = some x → s.fieldFound? ref (T k).2.1 (T k).2.2.1 = some x) (hfin : (T k).2.2.2 = true) (hn : meth.name = "<init>") (hdecl : (T k).1 = own) (hd : parseFieldDescriptor (T k).2.2.1 = some ty) (hnr : narrow ty v = v) (hfit : fits ty v = true) (hlen : k < fs.length) (hdg : decode cc pc = .ok (.putfield idx, 3))
    (kk : ∀ (H1 : Heap) (locs1 : List Loc), GL D B s (ws.set q0 (a, .inr (ci, fs.set k v))) H1 locs1 → W p l e R s m args below meth c H1 locs1 cells slots Q (F0 m (pc + 3) ls rest)) : W p l e R s m args below meth c H locs cells slots Q (F0 m pc ls (v :: .ref a :: rest)) :=
  va_putF (ci := ci) (v := v) (ty := ty) (C := C) (T := T) (N := M) fx.1 fx.2.1 fx.2.2.2.2.1 hin ty0 hty hnm fx.2.2.2.1 fx.2.2.2.2.2.1 hL.1 hL.2.1 hL.2.2.1 q0 he hc k hk (fx.2.2.2.2.1 _ hlink) hsame hfin hn hdecl hd hnr hfit hlen hdg (fun H1 l1 h1 h2 h3 => kk H1 l1 ⟨h1, h2, h3, hL.2.2.2⟩)
theorem L_get {ref C : String} {T : u_T} {M ci idx q0 a : Nat} {fs : List Value} {v : Value} (fx : FX p s m args meth c cc nL own D cy) (hL : GL D B s ws H locs) (hin : ∀ w ∈ u_ws C T M, w ∈ wsL_law) (hc : vwCl[ci]? = some (C, T, M)) (he : ws[q0]? = some (a, .inr (ci, fs))) (k : Nat) (hk : k < M) (hlink : Cond.fieldLink own idx ref (T k).2.1 (T k).2.2.1 ∈ wsL_law) (hsame : ∀ x, s.fieldFound? (T k).1 (T k).2.1 (T k).2.2.1 = some x → s.fieldFound? ref (T k).2.1 (T k).2.2.1 = some x) (hv : fs[k]? = some v) (hdg : decode cc pc = .ok (.getfield idx, 3))
    (kk : W p l e R s m args below meth c H locs cells slots Q (F0 m (pc + 3) ls (v :: rest))) : W p l e R s m args below meth c H locs cells slots Q (F0 m pc ls (.ref a :: rest)) :=
  va_get (ci := ci) (v := v) (C := C) (T := T) (N := M) fx.1 fx.2.1 fx.2.2.2.2.1 hin fx.2.2.2.1 fx.2.2.2.2.2.1 hL.1 q0 he hc k hk (fx.2.2.2.2.1 _ hlink) hsame hv hdg kk
theorem L_iast {q0 a n : Nat} {f : Nat → Int32} {i x : Int32} (fx : FX p s m args meth c cc nL own D cy) (hL : GL D B s ws H locs) (he : ws[q0]? = some (a, .inl (cy 0, n, .inl f))) (hin : vp_in i n) (hdg : decode cc pc = .ok (.iastore, 1))
    (kk : ∀ (H1 : Heap) (locs1 : List Loc), GL D B s (ws.set q0 (a, .inl (cy 0, n, .inl (upd f i.toNatClampNeg x)))) H1 locs1 → W p l e R s m args below meth c H1 locs1 cells slots Q (F0 m (pc + 1) ls rest)) : W p l e R s m args below meth c H locs cells slots Q (F0 m pc ls (.int x :: .int i :: .ref a :: rest)) :=
  va_iast (n := n) (f := f) fx.1 fx.2.1 fx.2.2.2.2.2.1 hL.1 hL.2.1 hL.2.2.1 q0 0 he rfl hin hdg (fun H1 l1 h1 h2 h3 => kk H1 l1 ⟨h1, h2, h3, hL.2.2.2⟩)
theorem L_astq {q0 qk a n v : Nat} {vs : List Value} {f : Nat → Option Nat} {i : Int32} (fx : FX p s m args meth c cc nL own D cy) (hL : GL D B s ws H locs) (he : ws[q0]? = some (a, .inl (cy 3, n, .inr (.inr (.inr (.inr f)))))) (hv : ws[qk]? = some (v, .inr (7, vs))) (hin : vp_in i n) (hdg : decode cc pc = .ok (.aastore, 1))
    (kk : ∀ (H1 : Heap) (locs1 : List Loc), GL D B s (ws.set q0 (a, .inl (cy 3, n, .inr (.inr (.inr (.inr (va_up f i.toNatClampNeg (some v)))))))) H1 locs1 → W p l e R s m args below meth c H1 locs1 cells slots Q (F0 m (pc + 1) ls rest)) : W p l e R s m args below meth c H locs cells slots Q (F0 m pc ls (.ref v :: .int i :: .ref a :: rest)) :=
  va_astq (r := (RX7, TX7, 2)) (n := n) (f := f) fx.1 fx.2.1 fx.2.2.2.2.2.1 hL.1 hL.2.1 hL.2.2.1 q0 3 qk 7 he rfl hv rfl hin hdg (fun H1 l1 h1 h2 h3 => kk H1 l1 ⟨h1, h2, h3, hL.2.2.2⟩)
theorem L_run {a : Array Value} {mc ms : Nat} {Φ : va_W → Prop} {len : Nat} (hr : va_Run p l e R s m args below meth c H locs cells slots mc ms (F0 m pc ls st0) rest (CQ D B Φ a) (fun x => B ≤ x)) (hL : GL D B s ws H locs)
    (kk : ∀ (ws1 : va_W) (H1 : Heap) (locs1 : List Loc), Φ ws1 → GL D B s ws1 H1 locs1 → W p l e R s m args below meth c H1 locs1 (cells + mc) (slots + ms) Q (F0 m (pc + 3) ls rest)) : W p l e R s m args below meth c H locs cells slots Q (F0 m pc ls st0) := by
  intro T hT X
  obtain ⟨v, st₀, t, T', L, h0, X', hL9, e1, e2, ⟨⟨hv, ws1, hΦ, hp, hd⟩, hz, hk⟩, st⟩ := hr T hT X
  cases hv
  rw [h0] at hz hk
  obtain ⟨hP, hD, hS, hB⟩ := hL
  obtain ⟨t2, a1, b1⟩ := kk ws1 T'.heap (locs ++ L) hΦ ⟨by rw [e1]; exact hp, hd, ⟨Nat.le_trans hS.1 (by rw [e1]; exact hz), fun q h1 h2 => by rw [e1, hk q (Nat.lt_of_lt_of_le h1 hS.1) h2]; exact hS.2.1 q h1 h2, fun q hq => by
      rcases List.mem_append.mp hq with h | h
      · exact hS.2.2 q h
      · exact hL9 q h⟩, hB⟩ T' rfl X'
  exact ⟨t2, st t2 a1, b1⟩
/-- a constructor called of a class whose constructor isn't private -/
theorem L_callI {y : MethodName} {b : ByteArray} {n n' : Nat} {rm : Room} {idx mc ms a : Nat} {As : List Value} {Φ : va_W → Prop}
    (fx : FX p s m args meth c cc nL own D cy) (ex : EX s) (hL : GL D B s ws H locs) (hM : CM l y b n rm D cy B (.ref a :: As) ws Φ mc ms)
    (h1 : Cond.methodLink own idx y ∈ wsL_law) (h2 : Cond.instanceMethod y ∈ wsL_law ∧ Cond.initialized y.cls ∈ wsL_law ∧ Cond.code y b n none ∈ wsL_law) (hy1 : y.name = "<init>")
    (hd : y.cls ≠ "java/lang/invoke/MethodHandle" ∧ y.cls ≠ "java/lang/invoke/VarHandle" ∧ (parseMethodDescriptor y.desc).map (fun d => d.parameters.length) = some n')
    (hr0 : rm.cells = mc ∧ rm.slots = ms) (hR : rm.frames + 1 ≤ R.frames ∧ 8 + (n + 11) + rm.locals ≤ R.locals) (hf : cells + mc ≤ R.cells ∧ slots + ms ≤ R.slots)
    (hn : As.length = n') (hl : ls.size = nL) (hst : st0 = As.reverse ++ .ref a :: rest) (hrest : (rest.map fun v => v.category).sum ≤ 8) (hdg : decode cc pc = .ok (.invokespecial idx, 3))
    (kk : ∀ (ws1 : va_W) (H1 : Heap) (locs1 : List Loc), Φ ws1 → GL D B s ws1 H1 locs1 → W p l e R s m args below meth c H1 locs1 (cells + mc) (slots + ms) Q (F0 m (pc + 3) ls rest)) : W p l e R s m args below meth c H locs cells slots Q (F0 m pc ls st0) := by
  obtain ⟨hx, hb, hml, hown, hts, hK, -⟩ := fx
  exact L_run (len := 3) (va_runI (Ts := wsL_law) (As := As) (n := n') (rest := rest) (b := a) ⟨hx, hb, hml, hown, hts⟩ hM (cwI n' hts (gT1 h2.2.2 gT) rfl hr0.1 hr0.2 (hts _ h2.2.1) (hts _ h1) (hts _ h2.1) hy1 hd hR) ⟨c_blind, fun U hU hW => ⟨rfl, by rw [hU]; exact Nat.le_trans hL.2.2.2 hL.2.2.1.1, by rw [hU]; exact hL.1, va_K.moved hW.alike hK, hL.2.1, ex.moved hW⟩⟩ rfl hn hl hst (lv_room hrest) hdg hf) hL kk
/-- and of one whose constructor is private (a nest mate's) -/
theorem L_callN {y : MethodName} {b : ByteArray} {n n' : Nat} {rm : Room} {idx mc ms a : Nat} {As : List Value} {Φ : va_W → Prop} {host : String}
    (fx : FX p s m args meth c cc nL own D cy) (ex : EX s) (hL : GL D B s ws H locs) (hM : CM l y b n rm D cy B (.ref a :: As) ws Φ mc ms)
    (h1 : va_Nw (.methodLinkNest own idx y host) s) (h2 : Cond.instanceMethod y ∈ wsL_law ∧ Cond.initialized y.cls ∈ wsL_law ∧ Cond.code y b n none ∈ wsL_law) (hy1 : y.name = "<init>")
    (hd : y.cls ≠ "java/lang/invoke/MethodHandle" ∧ y.cls ≠ "java/lang/invoke/VarHandle" ∧ (parseMethodDescriptor y.desc).map (fun d => d.parameters.length) = some n')
    (hr0 : rm.cells = mc ∧ rm.slots = ms) (hR : rm.frames + 1 ≤ R.frames ∧ 8 + (n + 11) + rm.locals ≤ R.locals) (hf : cells + mc ≤ R.cells ∧ slots + ms ≤ R.slots)
    (hn : As.length = n') (hl : ls.size = nL) (hst : st0 = As.reverse ++ .ref a :: rest) (hrest : (rest.map fun v => v.category).sum ≤ 8) (hdg : decode cc pc = .ok (.invokespecial idx, 3))
    (kk : ∀ (ws1 : va_W) (H1 : Heap) (locs1 : List Loc), Φ ws1 → GL D B s ws1 H1 locs1 → W p l e R s m args below meth c H1 locs1 (cells + mc) (slots + ms) Q (F0 m (pc + 3) ls rest)) : W p l e R s m args below meth c H locs cells slots Q (F0 m pc ls st0) := by
  obtain ⟨hx, hb, hml, hown, hts, hK, -⟩ := fx
  exact L_run (len := 3) (va_runIN (Ts := wsL_law) (As := As) (n := n') (rest := rest) (b := a) ⟨hx, hb, hml, hown, hts⟩ hM ⟨va_cnB n' hts (gT1 h2.2.2 gT) rfl hr0.1 hr0.2 h1 (hts _ h2.2.1) hd hR, hy1, hts _ h2.1⟩ ⟨c_blind, fun U hU hW => ⟨rfl, by rw [hU]; exact Nat.le_trans hL.2.2.2 hL.2.2.1.1, by rw [hU]; exact hL.1, va_K.moved hW.alike hK, hL.2.1, ex.moved hW⟩⟩ rfl hn hl hst (lv_room hrest) hdg hf) hL kk
theorem L_vret {mc ms : Nat} {Φ : va_W → Prop} (fx : FX p s m args meth c cc nL own D cy) (hr : meth.sig.returnType = none) (hL : GL D B s ws H locs) (hΦ : Φ ws) (hc : cells ≤ mc) (hs : slots ≤ ms) (hdg : decode cc pc = .ok (.return_, 1)) :
    W p l e R s m args below meth c H locs cells slots (MQ below (CQ D B Φ) args s mc ms (fun x => B ≤ x)) (F0 m pc ls []) := by
  have hlocks : meth.locks = false := fx.2.2.2.2.2.2
  refine W.widen (k := mc) (n := ms) hc hs ?_
  exact W.vret fx.1 fx.2.1 hr (fun t ht hW => ⟨⟨rfl, ws, hΦ, by rw [ht]; exact hL.1, hL.2.1⟩, hL.2.2.1.F ht⟩) hL.2.2.1.2.2 hdg
end MAKE2

def Rm_in (a1 : Int32) (a2 : Int32) (a3 : Int32) : Int32 :=
  if a1 < a2 then ((0 : Int32)) else (if a3 < a1 then ((0 : Int32)) else ((1 : Int32)))
abbrev Rrm_in : Room := { frames := 0, cells := 0, slots := 0, locals := 0 }
set_option maxRecDepth 100000 in
set_option maxHeartbeats 4000000 in
theorem Rc_in (l : Launch) {D : va_G} {cy : Nat → ClassId} {ad : List Nat} {σ : Type} {wd : σ → va_W} (hw : ∀ x y : σ, (wd x).map (·.1) = (wd y).map (·.1)) (τ : σ) (a1 : Int32) (a2 : Int32) (a3 : Int32) : GM l yX9_in cX9_in 3 (some .boolean) Rrm_in D cy wd ad [.int a1, .int a2, .int a3] τ (some (.int (Rm_in a1 a2 a3))) τ := by
  refine g_start RX9 rfl (by decide) (Nat.le_of_ble_eq_true rfl) ?_
  intro p e s m args below meth c fx hr hC ls hl
  have hx := fx.1
  have hb := fx.2.1
  have hR : 0 ≤ (Rrm_in).frames ∧ 0 ≤ (Rrm_in).locals := ⟨Nat.le_refl _, Nat.le_refl _⟩
  have hf : 0 ≤ (Rrm_in).cells ∧ 0 ≤ (Rrm_in).slots := ⟨Nat.zero_le _, Nat.zero_le _⟩
  have hl : lv_has ls 3 [(0, .int a1), (1, .int a2), (2, .int a3)] := hl
  obtain ⟨o, hm⟩ : ∃ z, z = Rm_in a1 a2 a3 := ⟨_, rfl⟩
  rw [← hm]
  replace hm := hm.symm
  unfold Rm_in at hm
  refine lv_iload_n hx hb dX9_in_0 rfl (lv_at hl 0 rfl) ?_
  refine lv_iload_n hx hb dX9_in_1 rfl (lv_at hl 1 rfl) ?_
  refine lv_icmp_lt (tgt := 14) hx hb dX9_in_2 (by decide) (fun c_1 => ?_) (fun c_1 => ?_)
  · replace hm := ifp hm c_1
    refine lv_iconst (v := (0 : Int32)) hx hb dX9_in_14 (by decide) ?_
    exact g_zret fx hr rfl hC (by rw [← hm]) dX9_in_15
  · replace hm := ifn hm c_1
    refine lv_iload_n hx hb dX9_in_5 rfl (lv_at hl 0 rfl) ?_
    refine lv_iload_n hx hb dX9_in_6 rfl (lv_at hl 2 rfl) ?_
    refine lv_icmp_gt (tgt := 14) hx hb dX9_in_7 (by decide) (fun c_2 => ?_) (fun c_2 => ?_)
    · replace hm := ifp hm c_2
      refine lv_iconst (v := (0 : Int32)) hx hb dX9_in_14 (by decide) ?_
      exact g_zret fx hr rfl hC (by rw [← hm]) dX9_in_15
    · replace hm := ifn hm c_2
      refine lv_iconst (v := (1 : Int32)) hx hb dX9_in_10 (by decide) ?_
      refine lv_goto (tgt := 15) hx hb dX9_in_11 (by decide) ?_
      exact g_zret fx hr rfl hC (by rw [← hm]) dX9_in_15
theorem Rz_in (a1 : Int32) (a2 : Int32) (a3 : Int32) : narrow .boolean (.int (Rm_in a1 a2 a3)) = .int (Rm_in a1 a2 a3) := by
  unfold Rm_in
  repeat' (first | rfl | split)
def Rm_holds (a1 : Int32) (a2 : Int32) : Int32 :=
  if ((a1 >>> (a2 &&& 31)) &&& (1 : Int32)) = (1 : Int32) then ((1 : Int32)) else ((0 : Int32))
abbrev Rrm_holds : Room := { frames := 0, cells := 0, slots := 0, locals := 0 }
set_option maxRecDepth 100000 in
set_option maxHeartbeats 4000000 in
theorem Rc_holds (l : Launch) {D : va_G} {cy : Nat → ClassId} {ad : List Nat} {σ : Type} {wd : σ → va_W} (hw : ∀ x y : σ, (wd x).map (·.1) = (wd y).map (·.1)) (τ : σ) (a1 : Int32) (a2 : Int32) : GM l yX9_holds cX9_holds 2 (some .boolean) Rrm_holds D cy wd ad [.int a1, .int a2] τ (some (.int (Rm_holds a1 a2))) τ := by
  refine g_start RX9 rfl (by decide) (Nat.le_of_ble_eq_true rfl) ?_
  intro p e s m args below meth c fx hr hC ls hl
  have hx := fx.1
  have hb := fx.2.1
  have hR : 0 ≤ (Rrm_holds).frames ∧ 0 ≤ (Rrm_holds).locals := ⟨Nat.le_refl _, Nat.le_refl _⟩
  have hf : 0 ≤ (Rrm_holds).cells ∧ 0 ≤ (Rrm_holds).slots := ⟨Nat.zero_le _, Nat.zero_le _⟩
  have hl : lv_has ls 2 [(0, .int a1), (1, .int a2)] := hl
  obtain ⟨o, hm⟩ : ∃ z, z = Rm_holds a1 a2 := ⟨_, rfl⟩
  rw [← hm]
  replace hm := hm.symm
  unfold Rm_holds at hm
  refine lv_iload_n hx hb dX9_holds_0 rfl (lv_at hl 0 rfl) ?_
  refine lv_iload_n hx hb dX9_holds_1 rfl (lv_at hl 1 rfl) ?_
  refine lv_ishr hx hb dX9_holds_2 ?_
  refine lv_iconst (v := (1 : Int32)) hx hb dX9_holds_3 (by decide) ?_
  refine lv_iand hx hb dX9_holds_4 ?_
  refine lv_iconst (v := (1 : Int32)) hx hb dX9_holds_5 (by decide) ?_
  refine lv_icmp_ne (tgt := 13) hx hb dX9_holds_6 (by decide) (fun c_1 => ?_) (fun c_1 => ?_)
  · replace hm := ifn hm c_1
    refine lv_iconst (v := (0 : Int32)) hx hb dX9_holds_13 (by decide) ?_
    exact g_zret fx hr rfl hC (by rw [← hm]) dX9_holds_14
  · replace hm := ifp hm c_1
    refine lv_iconst (v := (1 : Int32)) hx hb dX9_holds_9 (by decide) ?_
    refine lv_goto (tgt := 14) hx hb dX9_holds_10 (by decide) ?_
    exact g_zret fx hr rfl hC (by rw [← hm]) dX9_holds_14
theorem Rz_holds (a1 : Int32) (a2 : Int32) : narrow .boolean (.int (Rm_holds a1 a2)) = .int (Rm_holds a1 a2) := by
  unfold Rm_holds
  repeat' (first | rfl | split)
def Rs_bits_4 {ρ : Type} (p0 : Int32) (kx24 : Int32 → Option ρ) (rc : Int32 → Int32 → Option ρ) (v1 : Int32) (v2 : Int32) : Option ρ :=
  if (12 : Int32) ≤ v2 then (kx24 v1) else (nm (v1 + ((p0 >>> (v2 &&& 31)) &&& (1 : Int32))) (fun x_2 => rc x_2 (v2 + (1 : Int32))))
def Rm_bits (a1 : Int32) : Option Int32 :=
  it2 (Rs_bits_4 a1 (fun u_3 => some u_3)) fuel (0 : Int32) (0 : Int32)
abbrev Rrm_bits : Room := { frames := 0, cells := 0, slots := 0, locals := 0 }
set_option maxRecDepth 100000 in
set_option maxHeartbeats 4000000 in
theorem Rw_bits_4 {ρ : Type} {out : ρ} {p : Program} {l : Launch} {e : Env} {R : Room} {s : State} {m : MethodId} {args : Array Value} {below : List Frame} {meth : Method} {c : Code} {cells slots : Nat} {Q : State → Prop} {D : va_G} {cy : Nat → ClassId} {ad : List Nat} {σ : Type} {wd : σ → va_W} (hw : ∀ x y : σ, (wd x).map (·.1) = (wd y).map (·.1)) {τ : σ} (fx : FX p s m args meth c cX9_bits 3 RX9 D cy) (hR : 0 ≤ R.frames ∧ 0 ≤ R.locals) (hf : cells ≤ R.cells ∧ slots ≤ R.slots) (p0 : Int32) {kx24 : Int32 → Option ρ} :
    ∀ (n : Nat) (v1 : Int32) (v2 : Int32), it2 (Rs_bits_4 p0 kx24) n v1 v2 = some out → ∀ (H : Heap) (locs : List Loc) (ls : Array Slot), GC D wd ad s τ H locs → lv_has ls 3 [(0, .int p0), (1, .int v1), (2, .int v2)] → (∀ (u1 : Int32) (H : Heap) (locs : List Loc) (ls : Array Slot), kx24 u1 = some out → GC D wd ad s τ H locs → lv_has ls 3 [(1, .int u1)] → W p l e R s m args below meth c H locs cells slots Q (F0 m 24 ls [])) → W p l e R s m args below meth c H locs cells slots Q (F0 m 4 ls []) := by
  have hx := fx.1
  have hb := fx.2.1
  intro n
  induction n with
  | zero => intro v1 v2 hm; exact (it2_z hm).elim
  | succ n ih =>
    intro v1 v2 hm H locs ls hC hl hx24
    obtain ⟨rc, hrc⟩ : ∃ z, z = it2 (Rs_bits_4 p0 kx24) n := ⟨_, rfl⟩
    replace hm : Rs_bits_4 p0 kx24 rc v1 v2 = some out := by rw [hrc]; exact hm
    unfold Rs_bits_4 at hm
    refine lv_iload_n hx hb dX9_bits_4 rfl (lv_at hl 2 rfl) ?_
    refine lv_bipush (v := (12 : Int32)) hx hb dX9_bits_5 (by decide) ?_
    refine lv_icmp_ge (tgt := 24) hx hb dX9_bits_7 (by decide) (fun c_1 => ?_) (fun c_1 => ?_)
    · replace hm := ifp hm c_1
      exact hx24 _ _ _ _ hm hC (lv_sub hl [1] rfl)
    · replace hm := ifn hm c_1
      refine lv_iload_n hx hb dX9_bits_10 rfl (lv_at hl 1 rfl) ?_
      refine lv_iload_n hx hb dX9_bits_11 rfl (lv_at hl 0 rfl) ?_
      refine lv_iload_n hx hb dX9_bits_12 rfl (lv_at hl 2 rfl) ?_
      refine lv_ishr hx hb dX9_bits_13 ?_
      refine lv_iconst (v := (1 : Int32)) hx hb dX9_bits_14 (by decide) ?_
      refine lv_iand hx hb dX9_bits_15 ?_
      refine lv_iadd hx hb dX9_bits_16 ?_
      refine lv_topi (fun x_2 ex_2 => ?_)
      replace hm := nm_in hm ex_2
      refine lv_istore_n (lv' := [(1, .int x_2), (0, .int p0), (2, .int v2)]) hx hb dX9_bits_17 rfl hl (by decide) rfl (fun ls hl => ?_)
      refine lv_iinc (v := (v2 + (1 : Int32))) (lv' := [(2, .int (v2 + (1 : Int32))), (1, .int x_2), (0, .int p0)]) hx hb dX9_bits_18 hl (k := 2) rfl rfl (by decide) rfl (fun ls hl => ?_)
      refine lv_goto (tgt := 4) hx hb dX9_bits_21 (by decide) ?_
      rw [hrc] at hm
      exact ih _ _ hm _ _ _ hC (lv_sub hl [2, 1, 0] rfl) hx24
set_option maxRecDepth 100000 in
set_option maxHeartbeats 4000000 in
theorem Rc_bits (l : Launch) {D : va_G} {cy : Nat → ClassId} {ad : List Nat} {σ : Type} {wd : σ → va_W} (hw : ∀ x y : σ, (wd x).map (·.1) = (wd y).map (·.1)) (τ : σ) (a1 : Int32) {o : Int32} (hm : Rm_bits a1 = some o) : GM l yX9_bits cX9_bits 3 (some .int) Rrm_bits D cy wd ad [.int a1] τ (some (.int o)) τ := by
  refine g_start RX9 rfl (by decide) (Nat.le_of_ble_eq_true rfl) ?_
  intro p e s m args below meth c fx hr hC ls hl
  have hx := fx.1
  have hb := fx.2.1
  have hR : 0 ≤ (Rrm_bits).frames ∧ 0 ≤ (Rrm_bits).locals := ⟨Nat.le_refl _, Nat.le_refl _⟩
  have hf : 0 ≤ (Rrm_bits).cells ∧ 0 ≤ (Rrm_bits).slots := ⟨Nat.zero_le _, Nat.zero_le _⟩
  have hl : lv_has ls 3 [(0, .int a1)] := hl
  unfold Rm_bits at hm
  refine lv_iconst (v := (0 : Int32)) hx hb dX9_bits_0 (by decide) ?_
  refine lv_istore_n (lv' := [(1, .int (0 : Int32)), (0, .int a1)]) hx hb dX9_bits_1 rfl hl (by decide) rfl (fun ls hl => ?_)
  refine lv_iconst (v := (0 : Int32)) hx hb dX9_bits_2 (by decide) ?_
  refine lv_istore_n (lv' := [(2, .int (0 : Int32)), (1, .int (0 : Int32)), (0, .int a1)]) hx hb dX9_bits_3 rfl hl (by decide) rfl (fun ls hl => ?_)
  refine Rw_bits_4 hw fx hR hf a1 fuel (0 : Int32) (0 : Int32) hm _ _ _ hC (lv_sub hl [2, 1, 0] rfl) (fun u_3 H locs ls hm hC hl => ?_)
  refine lv_iload_n hx hb dX9_bits_24 rfl (lv_at hl 0 rfl) ?_
  cases hm
  exact g_iret fx hr hC rfl dX9_bits_25
def Rm_isFamily (τ : RS) (a1 : Int32) : Int32 :=
  (Rm_in a1 (0 : Int32) ((τ.1 6) - (1 : Int32)))
abbrev Rrm_isFamily : Room := { frames := 1, cells := 0, slots := 0, locals := 22 }
set_option maxRecDepth 100000 in
set_option maxHeartbeats 4000000 in
theorem Rc_isFamily (l : Launch) {D : va_G} {cy : Nat → ClassId} {ad : List Nat} {q : Nat → Nat} {X : va_W} (τ : RS) (a1 : Int32) : GM l yX9_isFamily cX9_isFamily 2 (some .boolean) Rrm_isFamily D cy (rwd cy q X) ad [.ref (q 0), .int a1] τ (some (.int (Rm_isFamily τ a1))) τ := by
  refine g_start RX9 rfl (by decide) (Nat.le_of_ble_eq_true rfl) ?_
  intro p e s m args below meth c fx hr hC ls hl
  have hx := fx.1
  have hb := fx.2.1
  have hR : 1 ≤ (Rrm_isFamily).frames ∧ 22 ≤ (Rrm_isFamily).locals := ⟨Nat.le_refl _, Nat.le_refl _⟩
  have hf : 0 ≤ (Rrm_isFamily).cells ∧ 0 ≤ (Rrm_isFamily).slots := ⟨Nat.zero_le _, Nat.zero_le _⟩
  have hl : lv_has ls 2 [(0, .ref (q 0)), (1, .int a1)] := hl
  obtain ⟨o, hm⟩ : ∃ z, z = Rm_isFamily τ a1 := ⟨_, rfl⟩
  rw [← hm]
  replace hm := hm.symm
  unfold Rm_isFamily at hm
  refine lv_iload_n hx hb dX9_isFamily_0 rfl (lv_at hl 1 rfl) ?_
  refine lv_iconst (v := (0 : Int32)) hx hb dX9_isFamily_1 (by decide) ?_
  refine lv_aload_n hx hb dX9_isFamily_2 rfl (lv_at hl 0 rfl) ?_
  refine Rg_6 fx hC dX9_isFamily_3 ?_
  refine lv_iconst (v := (1 : Int32)) hx hb dX9_isFamily_6 (by decide) ?_
  refine lv_isub hx hb dX9_isFamily_7 ?_
  refine g_callSi (As := [.int a1, .int (0 : Int32), .int ((τ.1 6) - (1 : Int32))]) (rest := []) fx hC rw_w (Rc_in l rw_w τ a1 (0 : Int32) ((τ.1 6) - (1 : Int32))) k_140 Rk_in Rh_in ⟨rfl, rfl⟩ ⟨Nat.le_trans (Nat.le_of_ble_eq_true rfl) hR.1, Nat.le_trans (Nat.le_of_ble_eq_true rfl) hR.2⟩ hf rfl hl.1 rfl (Nat.le_of_ble_eq_true rfl) dX9_isFamily_8 (fun H locs hC => ?_)
  exact g_zret fx hr (Rz_in a1 (0 : Int32) ((τ.1 6) - (1 : Int32))) hC (by rw [← hm]) dX9_isFamily_11
theorem Rz_isFamily (τ : RS) (a1 : Int32) : narrow .boolean (.int (Rm_isFamily τ a1)) = .int (Rm_isFamily τ a1) := by
  unfold Rm_isFamily
  repeat' (first | rfl | apply Rz_in | split)
def Rm_isWay (τ : RS) (a1 : Int32) (a2 : Int32) : Option Int32 :=
  gi (((4096 : Int32) * a1) + a2) 122880 (gb (τ.2 8 ((((4096 : Int32) * a1) + a2)).toNatClampNeg) (some (τ.2 8 ((((4096 : Int32) * a1) + a2)).toNatClampNeg)))
abbrev Rrm_isWay : Room := { frames := 0, cells := 0, slots := 0, locals := 0 }
set_option maxRecDepth 100000 in
set_option maxHeartbeats 4000000 in
theorem Rc_isWay (l : Launch) {D : va_G} {cy : Nat → ClassId} {ad : List Nat} {q : Nat → Nat} {X : va_W} (τ : RS) (a1 : Int32) (a2 : Int32) {o : Int32} (hm : Rm_isWay τ a1 a2 = some o) : GM l yX9_isWay cX9_isWay 3 (some .boolean) Rrm_isWay D cy (rwd cy q X) ad [.ref (q 0), .int a1, .int a2] τ (some (.int o)) τ := by
  refine g_start RX9 rfl (by decide) (Nat.le_of_ble_eq_true rfl) ?_
  intro p e s m args below meth c fx hr hC ls hl
  have hx := fx.1
  have hb := fx.2.1
  have hR : 0 ≤ (Rrm_isWay).frames ∧ 0 ≤ (Rrm_isWay).locals := ⟨Nat.le_refl _, Nat.le_refl _⟩
  have hf : 0 ≤ (Rrm_isWay).cells ∧ 0 ≤ (Rrm_isWay).slots := ⟨Nat.zero_le _, Nat.zero_le _⟩
  have hl : lv_has ls 3 [(0, .ref (q 0)), (1, .int a1), (2, .int a2)] := hl
  unfold Rm_isWay at hm
  refine lv_aload_n hx hb dX9_isWay_0 rfl (lv_at hl 0 rfl) ?_
  refine Rg_8 fx hC dX9_isWay_1 ?_
  refine lv_sipush (v := (4096 : Int32)) hx hb dX9_isWay_4 (by decide) ?_
  refine lv_iload_n hx hb dX9_isWay_7 rfl (lv_at hl 1 rfl) ?_
  refine lv_imul hx hb dX9_isWay_8 ?_
  refine lv_iload_n hx hb dX9_isWay_9 rfl (lv_at hl 2 rfl) ?_
  refine lv_iadd hx hb dX9_isWay_10 ?_
  have h_1 := (gi_in hm).1
  replace hm := (gi_in hm).2
  refine Rl_8 fx hC h_1 dX9_isWay_11 ?_
  have h_2 := (gb_in hm).1
  replace hm := (gb_in hm).2
  cases hm
  exact g_zret fx hr h_2 hC rfl dX9_isWay_12
def Rm_post (τ : RS) (a1 : Int32) : Option (Int32 × RS) :=
  if (Rm_in a1 (0 : Int32) (99 : Int32)) = (0 : Int32) then (some ((-2 : Int32), τ)) else (if (τ.1 0) = (8 : Int32) then (some ((-4 : Int32), τ)) else (gi (τ.1 0) 8 (nm (rA τ 1 ((τ.1 0)).toNatClampNeg a1) (fun τ_4 => nm (rS τ_4 0 ((τ_4.1 0) + (1 : Int32))) (fun τ_6 => some (((τ_6.1 0) - (1 : Int32)), τ_6))))))
abbrev Rrm_post : Room := { frames := 1, cells := 0, slots := 0, locals := 22 }
set_option maxRecDepth 100000 in
set_option maxHeartbeats 4000000 in
theorem Rc_post (l : Launch) {D : va_G} {cy : Nat → ClassId} {ad : List Nat} {q : Nat → Nat} {X : va_W} (τ : RS) (a1 : Int32) {o : Int32 × RS} (hm : Rm_post τ a1 = some o) : GM l yX9_post cX9_post 2 (some .int) Rrm_post D cy (rwd cy q X) ad [.ref (q 0), .int a1] τ (some (.int o.1)) o.2 := by
  refine g_start RX9 rfl (by decide) (Nat.le_of_ble_eq_true rfl) ?_
  intro p e s m args below meth c fx hr hC ls hl
  have hx := fx.1
  have hb := fx.2.1
  have hR : 1 ≤ (Rrm_post).frames ∧ 22 ≤ (Rrm_post).locals := ⟨Nat.le_refl _, Nat.le_refl _⟩
  have hf : 0 ≤ (Rrm_post).cells ∧ 0 ≤ (Rrm_post).slots := ⟨Nat.zero_le _, Nat.zero_le _⟩
  have hl : lv_has ls 2 [(0, .ref (q 0)), (1, .int a1)] := hl
  unfold Rm_post at hm
  refine lv_iload_n hx hb dX9_post_0 rfl (lv_at hl 1 rfl) ?_
  refine lv_iconst (v := (0 : Int32)) hx hb dX9_post_1 (by decide) ?_
  refine lv_bipush (v := (99 : Int32)) hx hb dX9_post_2 (by decide) ?_
  refine g_callSi (As := [.int a1, .int (0 : Int32), .int (99 : Int32)]) (rest := []) fx hC rw_w (Rc_in l rw_w τ a1 (0 : Int32) (99 : Int32)) k_140 Rk_in Rh_in ⟨rfl, rfl⟩ ⟨Nat.le_trans (Nat.le_of_ble_eq_true rfl) hR.1, Nat.le_trans (Nat.le_of_ble_eq_true rfl) hR.2⟩ hf rfl hl.1 rfl (Nat.le_of_ble_eq_true rfl) dX9_post_4 (fun H locs hC => ?_)
  refine lv_if_ne (tgt := 13) hx hb dX9_post_7 (by decide) (fun c_1 => ?_) (fun c_1 => ?_)
  · replace hm := ifn hm c_1
    refine lv_aload_n hx hb dX9_post_13 rfl (lv_at hl 0 rfl) ?_
    refine Rg_0 fx hC dX9_post_14 ?_
    refine lv_bipush (v := (8 : Int32)) hx hb dX9_post_17 (by decide) ?_
    refine lv_icmp_ne (tgt := 25) hx hb dX9_post_19 (by decide) (fun c_2 => ?_) (fun c_2 => ?_)
    · replace hm := ifn hm c_2
      refine lv_aload_n hx hb dX9_post_25 rfl (lv_at hl 0 rfl) ?_
      refine Rg_1 fx hC dX9_post_26 ?_
      refine lv_aload_n hx hb dX9_post_29 rfl (lv_at hl 0 rfl) ?_
      refine Rg_0 fx hC dX9_post_30 ?_
      refine lv_iload_n hx hb dX9_post_33 rfl (lv_at hl 1 rfl) ?_
      have h_3 := (gi_in hm).1
      replace hm := (gi_in hm).2
      refine Rs_1 fx hC h_3 dX9_post_34 (fun H locs hC => ?_)
      obtain ⟨τ_4, e_5⟩ : ∃ z, z = (rA τ 1 ((τ.1 0)).toNatClampNeg a1) := ⟨_, rfl⟩
      rw [← e_5] at hC
      replace hm := nm_in hm e_5
      refine lv_aload_n hx hb dX9_post_35 rfl (lv_at hl 0 rfl) ?_
      refine lv_dup hx hb dX9_post_36 rfl ?_
      refine Rg_0 fx hC dX9_post_37 ?_
      refine lv_iconst (v := (1 : Int32)) hx hb dX9_post_40 (by decide) ?_
      refine lv_iadd hx hb dX9_post_41 ?_
      refine Rp_0 fx hC dX9_post_42 (fun H locs hC => ?_)
      obtain ⟨τ_6, e_7⟩ : ∃ z, z = (rS τ_4 0 ((τ_4.1 0) + (1 : Int32))) := ⟨_, rfl⟩
      rw [← e_7] at hC
      replace hm := nm_in hm e_7
      refine lv_aload_n hx hb dX9_post_45 rfl (lv_at hl 0 rfl) ?_
      refine Rg_0 fx hC dX9_post_46 ?_
      refine lv_iconst (v := (1 : Int32)) hx hb dX9_post_49 (by decide) ?_
      refine lv_isub hx hb dX9_post_50 ?_
      cases hm
      exact g_iret fx hr hC rfl dX9_post_51
    · replace hm := ifp hm c_2
      refine lv_bipush (v := (-4 : Int32)) hx hb dX9_post_22 (by decide) ?_
      cases hm
      exact g_iret fx hr hC rfl dX9_post_24
  · replace hm := ifp hm c_1
    refine lv_bipush (v := (-2 : Int32)) hx hb dX9_post_10 (by decide) ?_
    cases hm
    exact g_iret fx hr hC rfl dX9_post_12
def Rs_road_74 {ρ : Type} (p3 : Int32) (p4 : Int32) (p5 : Int32) (τ : RS) (kx113 : Option ρ) (kx122 : Option ρ) (rc : Int32 → Option ρ) (v6 : Int32) : Option ρ :=
  if (τ.1 2) ≤ v6 then (kx122) else (gi ((2 : Int32) * v6) 24 (if (τ.2 3 (((2 : Int32) * v6)).toNatClampNeg) = p4 then (gi (((2 : Int32) * v6) + (1 : Int32)) 24 (if (τ.2 3 ((((2 : Int32) * v6) + (1 : Int32))).toNatClampNeg) = p5 then (kx113) else (rc (v6 + (1 : Int32))))) else (rc (v6 + (1 : Int32)))))
def Rm_road (τ : RS) (a1 : Int32) (a2 : Int32) (a3 : Int32) : Option (Int32 × RS) :=
  if (Rm_in a1 (0 : Int32) ((τ.1 0) - (1 : Int32))) = (0 : Int32) then (some ((-2 : Int32), τ)) else (if (Rm_in a2 (0 : Int32) ((τ.1 0) - (1 : Int32))) = (0 : Int32) then (some ((-2 : Int32), τ)) else (if a1 = a2 then (some ((-2 : Int32), τ)) else (if (Rm_in a3 (-50 : Int32) (50 : Int32)) = (0 : Int32) then (some ((-2 : Int32), τ)) else (if a2 ≤ a1 then (it1 (Rs_road_74 a3 a2 a1 τ (some ((-3 : Int32), τ)) (if (τ.1 2) = (12 : Int32) then (some ((-4 : Int32), τ)) else (gi ((2 : Int32) * (τ.1 2)) 24 (nm (rA τ 3 (((2 : Int32) * (τ.1 2))).toNatClampNeg a2) (fun τ_14 => gi (((2 : Int32) * (τ_14.1 2)) + (1 : Int32)) 24 (nm (rA τ_14 3 ((((2 : Int32) * (τ_14.1 2)) + (1 : Int32))).toNatClampNeg a1) (fun τ_17 => gi (τ_17.1 2) 12 (nm (rA τ_17 4 ((τ_17.1 2)).toNatClampNeg a3) (fun τ_20 => gi (τ_20.1 2) 12 (nm (rA τ_20 5 ((τ_20.1 2)).toNatClampNeg (4 : Int32)) (fun τ_23 => nm (rS τ_23 2 ((τ_23.1 2) + (1 : Int32))) (fun τ_25 => some (((τ_25.1 2) - (1 : Int32)), τ_25))))))))))))) fuel (0 : Int32)) else (it1 (Rs_road_74 a3 a1 a2 τ (some ((-3 : Int32), τ)) (if (τ.1 2) = (12 : Int32) then (some ((-4 : Int32), τ)) else (gi ((2 : Int32) * (τ.1 2)) 24 (nm (rA τ 3 (((2 : Int32) * (τ.1 2))).toNatClampNeg a1) (fun τ_30 => gi (((2 : Int32) * (τ_30.1 2)) + (1 : Int32)) 24 (nm (rA τ_30 3 ((((2 : Int32) * (τ_30.1 2)) + (1 : Int32))).toNatClampNeg a2) (fun τ_33 => gi (τ_33.1 2) 12 (nm (rA τ_33 4 ((τ_33.1 2)).toNatClampNeg a3) (fun τ_36 => gi (τ_36.1 2) 12 (nm (rA τ_36 5 ((τ_36.1 2)).toNatClampNeg (4 : Int32)) (fun τ_39 => nm (rS τ_39 2 ((τ_39.1 2) + (1 : Int32))) (fun τ_41 => some (((τ_41.1 2) - (1 : Int32)), τ_41))))))))))))) fuel (0 : Int32))))))
abbrev Rrm_road : Room := { frames := 1, cells := 0, slots := 0, locals := 22 }
set_option maxRecDepth 100000 in
set_option maxHeartbeats 4000000 in
theorem Rw_road_74 {ρ : Type} {out : ρ} {p : Program} {l : Launch} {e : Env} {R : Room} {s : State} {m : MethodId} {args : Array Value} {below : List Frame} {meth : Method} {c : Code} {cells slots : Nat} {Q : State → Prop} {D : va_G} {cy : Nat → ClassId} {ad : List Nat} {q : Nat → Nat} {X : va_W} (τ : RS) (fx : FX p s m args meth c cX9_road 7 RX9 D cy) (hR : 1 ≤ R.frames ∧ 22 ≤ R.locals) (hf : cells ≤ R.cells ∧ slots ≤ R.slots) (p3 : Int32) (p4 : Int32) (p5 : Int32) {kx113 : Option ρ} {kx122 : Option ρ} :
    ∀ (n : Nat) (v6 : Int32), it1 (Rs_road_74 p3 p4 p5 τ kx113 kx122) n v6 = some out → ∀ (H : Heap) (locs : List Loc) (ls : Array Slot), GC D (rwd cy q X) ad s τ H locs → lv_has ls 7 [(0, .ref (q 0)), (3, .int p3), (4, .int p4), (5, .int p5), (6, .int v6)] → (∀ (H : Heap) (locs : List Loc) (ls : Array Slot), kx113 = some out → GC D (rwd cy q X) ad s τ H locs → lv_has ls 7 [] → W p l e R s m args below meth c H locs cells slots Q (F0 m 113 ls [])) → (∀ (H : Heap) (locs : List Loc) (ls : Array Slot), kx122 = some out → GC D (rwd cy q X) ad s τ H locs → lv_has ls 7 [(0, .ref (q 0)), (3, .int p3), (4, .int p4), (5, .int p5)] → W p l e R s m args below meth c H locs cells slots Q (F0 m 122 ls [])) → W p l e R s m args below meth c H locs cells slots Q (F0 m 74 ls []) := by
  have hx := fx.1
  have hb := fx.2.1
  intro n
  induction n with
  | zero => intro v6 hm; exact (it1_z hm).elim
  | succ n ih =>
    intro v6 hm H locs ls hC hl hx113 hx122
    obtain ⟨rc, hrc⟩ : ∃ z, z = it1 (Rs_road_74 p3 p4 p5 τ kx113 kx122) n := ⟨_, rfl⟩
    replace hm : Rs_road_74 p3 p4 p5 τ kx113 kx122 rc v6 = some out := by rw [hrc]; exact hm
    unfold Rs_road_74 at hm
    refine lv_iload hx hb dX9_road_74 (lv_at hl 4 rfl) ?_
    refine lv_aload_n hx hb dX9_road_76 rfl (lv_at hl 0 rfl) ?_
    refine Rg_2 fx hC dX9_road_77 ?_
    refine lv_icmp_ge (tgt := 122) hx hb dX9_road_80 (by decide) (fun c_7 => ?_) (fun c_7 => ?_)
    · replace hm := ifp hm c_7
      exact hx122 _ _ _ hm hC (lv_sub hl [0, 1, 2, 3] rfl)
    · replace hm := ifn hm c_7
      refine lv_aload_n hx hb dX9_road_83 rfl (lv_at hl 0 rfl) ?_
      refine Rg_3 fx hC dX9_road_84 ?_
      refine lv_iconst (v := (2 : Int32)) hx hb dX9_road_87 (by decide) ?_
      refine lv_iload hx hb dX9_road_88 (lv_at hl 4 rfl) ?_
      refine lv_imul hx hb dX9_road_90 ?_
      have h_8 := (gi_in hm).1
      replace hm := (gi_in hm).2
      refine Rl_3 fx hC h_8 dX9_road_91 ?_
      refine lv_iload hx hb dX9_road_92 (lv_at hl 2 rfl) ?_
      refine lv_icmp_ne (tgt := 116) hx hb dX9_road_94 (by decide) (fun c_9 => ?_) (fun c_9 => ?_)
      · replace hm := ifn hm c_9
        refine lv_iinc (v := (v6 + (1 : Int32))) (lv' := [(6, .int (v6 + (1 : Int32))), (0, .ref (q 0)), (3, .int p3), (4, .int p4), (5, .int p5)]) hx hb dX9_road_116 hl (k := 4) rfl rfl (by decide) rfl (fun ls hl => ?_)
        refine lv_goto (tgt := 74) hx hb dX9_road_119 (by decide) ?_
        rw [hrc] at hm
        exact ih _ hm _ _ _ hC (lv_sub hl [1, 2, 3, 4, 0] rfl) hx113 hx122
      · replace hm := ifp hm c_9
        refine lv_aload_n hx hb dX9_road_97 rfl (lv_at hl 0 rfl) ?_
        refine Rg_3 fx hC dX9_road_98 ?_
        refine lv_iconst (v := (2 : Int32)) hx hb dX9_road_101 (by decide) ?_
        refine lv_iload hx hb dX9_road_102 (lv_at hl 4 rfl) ?_
        refine lv_imul hx hb dX9_road_104 ?_
        refine lv_iconst (v := (1 : Int32)) hx hb dX9_road_105 (by decide) ?_
        refine lv_iadd hx hb dX9_road_106 ?_
        have h_10 := (gi_in hm).1
        replace hm := (gi_in hm).2
        refine Rl_3 fx hC h_10 dX9_road_107 ?_
        refine lv_iload hx hb dX9_road_108 (lv_at hl 3 rfl) ?_
        refine lv_icmp_ne (tgt := 116) hx hb dX9_road_110 (by decide) (fun c_11 => ?_) (fun c_11 => ?_)
        · replace hm := ifn hm c_11
          refine lv_iinc (v := (v6 + (1 : Int32))) (lv' := [(6, .int (v6 + (1 : Int32))), (0, .ref (q 0)), (3, .int p3), (4, .int p4), (5, .int p5)]) hx hb dX9_road_116 hl (k := 4) rfl rfl (by decide) rfl (fun ls hl => ?_)
          refine lv_goto (tgt := 74) hx hb dX9_road_119 (by decide) ?_
          rw [hrc] at hm
          exact ih _ hm _ _ _ hC (lv_sub hl [1, 2, 3, 4, 0] rfl) hx113 hx122
        · replace hm := ifp hm c_11
          exact hx113 _ _ _ hm hC (lv_sub hl [] rfl)
set_option maxRecDepth 100000 in
set_option maxHeartbeats 4000000 in
theorem Rc_road (l : Launch) {D : va_G} {cy : Nat → ClassId} {ad : List Nat} {q : Nat → Nat} {X : va_W} (τ : RS) (a1 : Int32) (a2 : Int32) (a3 : Int32) {o : Int32 × RS} (hm : Rm_road τ a1 a2 a3 = some o) : GM l yX9_road cX9_road 7 (some .int) Rrm_road D cy (rwd cy q X) ad [.ref (q 0), .int a1, .int a2, .int a3] τ (some (.int o.1)) o.2 := by
  refine g_start RX9 rfl (by decide) (Nat.le_of_ble_eq_true rfl) ?_
  intro p e s m args below meth c fx hr hC ls hl
  have hx := fx.1
  have hb := fx.2.1
  have hR : 1 ≤ (Rrm_road).frames ∧ 22 ≤ (Rrm_road).locals := ⟨Nat.le_refl _, Nat.le_refl _⟩
  have hf : 0 ≤ (Rrm_road).cells ∧ 0 ≤ (Rrm_road).slots := ⟨Nat.zero_le _, Nat.zero_le _⟩
  have hl : lv_has ls 7 [(0, .ref (q 0)), (1, .int a1), (2, .int a2), (3, .int a3)] := hl
  unfold Rm_road at hm
  refine lv_iload_n hx hb dX9_road_0 rfl (lv_at hl 1 rfl) ?_
  refine lv_iconst (v := (0 : Int32)) hx hb dX9_road_1 (by decide) ?_
  refine lv_aload_n hx hb dX9_road_2 rfl (lv_at hl 0 rfl) ?_
  refine Rg_0 fx hC dX9_road_3 ?_
  refine lv_iconst (v := (1 : Int32)) hx hb dX9_road_6 (by decide) ?_
  refine lv_isub hx hb dX9_road_7 ?_
  refine g_callSi (As := [.int a1, .int (0 : Int32), .int ((τ.1 0) - (1 : Int32))]) (rest := []) fx hC rw_w (Rc_in l rw_w τ a1 (0 : Int32) ((τ.1 0) - (1 : Int32))) k_140 Rk_in Rh_in ⟨rfl, rfl⟩ ⟨Nat.le_trans (Nat.le_of_ble_eq_true rfl) hR.1, Nat.le_trans (Nat.le_of_ble_eq_true rfl) hR.2⟩ hf rfl hl.1 rfl (Nat.le_of_ble_eq_true rfl) dX9_road_8 (fun H locs hC => ?_)
  refine lv_if_eq (tgt := 44) hx hb dX9_road_11 (by decide) (fun c_1 => ?_) (fun c_1 => ?_)
  · replace hm := ifp hm c_1
    refine lv_bipush (v := (-2 : Int32)) hx hb dX9_road_44 (by decide) ?_
    cases hm
    exact g_iret fx hr hC rfl dX9_road_46
  · replace hm := ifn hm c_1
    refine lv_iload_n hx hb dX9_road_14 rfl (lv_at hl 2 rfl) ?_
    refine lv_iconst (v := (0 : Int32)) hx hb dX9_road_15 (by decide) ?_
    refine lv_aload_n hx hb dX9_road_16 rfl (lv_at hl 0 rfl) ?_
    refine Rg_0 fx hC dX9_road_17 ?_
    refine lv_iconst (v := (1 : Int32)) hx hb dX9_road_20 (by decide) ?_
    refine lv_isub hx hb dX9_road_21 ?_
    refine g_callSi (As := [.int a2, .int (0 : Int32), .int ((τ.1 0) - (1 : Int32))]) (rest := []) fx hC rw_w (Rc_in l rw_w τ a2 (0 : Int32) ((τ.1 0) - (1 : Int32))) k_140 Rk_in Rh_in ⟨rfl, rfl⟩ ⟨Nat.le_trans (Nat.le_of_ble_eq_true rfl) hR.1, Nat.le_trans (Nat.le_of_ble_eq_true rfl) hR.2⟩ hf rfl hl.1 rfl (Nat.le_of_ble_eq_true rfl) dX9_road_22 (fun H locs hC => ?_)
    refine lv_if_eq (tgt := 44) hx hb dX9_road_25 (by decide) (fun c_2 => ?_) (fun c_2 => ?_)
    · replace hm := ifp hm c_2
      refine lv_bipush (v := (-2 : Int32)) hx hb dX9_road_44 (by decide) ?_
      cases hm
      exact g_iret fx hr hC rfl dX9_road_46
    · replace hm := ifn hm c_2
      refine lv_iload_n hx hb dX9_road_28 rfl (lv_at hl 1 rfl) ?_
      refine lv_iload_n hx hb dX9_road_29 rfl (lv_at hl 2 rfl) ?_
      refine lv_icmp_eq (tgt := 44) hx hb dX9_road_30 (by decide) (fun c_3 => ?_) (fun c_3 => ?_)
      · replace hm := ifp hm c_3
        refine lv_bipush (v := (-2 : Int32)) hx hb dX9_road_44 (by decide) ?_
        cases hm
        exact g_iret fx hr hC rfl dX9_road_46
      · replace hm := ifn hm c_3
        refine lv_iload_n hx hb dX9_road_33 rfl (lv_at hl 3 rfl) ?_
        refine lv_bipush (v := (-50 : Int32)) hx hb dX9_road_34 (by decide) ?_
        refine lv_bipush (v := (50 : Int32)) hx hb dX9_road_36 (by decide) ?_
        refine g_callSi (As := [.int a3, .int (-50 : Int32), .int (50 : Int32)]) (rest := []) fx hC rw_w (Rc_in l rw_w τ a3 (-50 : Int32) (50 : Int32)) k_140 Rk_in Rh_in ⟨rfl, rfl⟩ ⟨Nat.le_trans (Nat.le_of_ble_eq_true rfl) hR.1, Nat.le_trans (Nat.le_of_ble_eq_true rfl) hR.2⟩ hf rfl hl.1 rfl (Nat.le_of_ble_eq_true rfl) dX9_road_38 (fun H locs hC => ?_)
        refine lv_if_ne (tgt := 47) hx hb dX9_road_41 (by decide) (fun c_4 => ?_) (fun c_4 => ?_)
        · replace hm := ifn hm c_4
          refine lv_iload_n hx hb dX9_road_47 rfl (lv_at hl 1 rfl) ?_
          refine lv_iload_n hx hb dX9_road_48 rfl (lv_at hl 2 rfl) ?_
          refine lv_icmp_ge (tgt := 56) hx hb dX9_road_49 (by decide) (fun c_5 => ?_) (fun c_5 => ?_)
          · replace hm := ifp hm c_5
            refine lv_iload_n hx hb dX9_road_56 rfl (lv_at hl 2 rfl) ?_
            refine lv_istore (lv' := [(4, .int a2), (0, .ref (q 0)), (1, .int a1), (2, .int a2), (3, .int a3)]) hx hb dX9_road_57 hl (by decide) rfl (fun ls hl => ?_)
            refine lv_iload_n hx hb dX9_road_59 rfl (lv_at hl 2 rfl) ?_
            refine lv_iload_n hx hb dX9_road_60 rfl (lv_at hl 3 rfl) ?_
            refine lv_icmp_ge (tgt := 68) hx hb dX9_road_61 (by decide) (fun c_6 => ?_) (fun c_6 => ?_)
            · refine lv_iload_n hx hb dX9_road_68 rfl (lv_at hl 2 rfl) ?_
              refine lv_istore (lv' := [(5, .int a1), (4, .int a2), (0, .ref (q 0)), (1, .int a1), (2, .int a2), (3, .int a3)]) hx hb dX9_road_69 hl (by decide) rfl (fun ls hl => ?_)
              refine lv_iconst (v := (0 : Int32)) hx hb dX9_road_71 (by decide) ?_
              refine lv_istore (lv' := [(6, .int (0 : Int32)), (5, .int a1), (4, .int a2), (0, .ref (q 0)), (1, .int a1), (2, .int a2), (3, .int a3)]) hx hb dX9_road_72 hl (by decide) rfl (fun ls hl => ?_)
              refine Rw_road_74 τ fx hR hf a3 a2 a1 fuel (0 : Int32) hm _ _ _ hC (lv_sub hl [3, 6, 2, 1, 0] rfl) (fun  H locs ls hm hC hl => ?_) (fun  H locs ls hm hC hl => ?_)
              · refine lv_bipush (v := (-3 : Int32)) hx hb dX9_road_113 (by decide) ?_
                cases hm
                exact g_iret fx hr hC rfl dX9_road_115
              · refine lv_aload_n hx hb dX9_road_122 rfl (lv_at hl 0 rfl) ?_
                refine Rg_2 fx hC dX9_road_123 ?_
                refine lv_bipush (v := (12 : Int32)) hx hb dX9_road_126 (by decide) ?_
                refine lv_icmp_ne (tgt := 134) hx hb dX9_road_128 (by decide) (fun c_12 => ?_) (fun c_12 => ?_)
                · replace hm := ifn hm c_12
                  refine lv_aload_n hx hb dX9_road_134 rfl (lv_at hl 0 rfl) ?_
                  refine Rg_3 fx hC dX9_road_135 ?_
                  refine lv_iconst (v := (2 : Int32)) hx hb dX9_road_138 (by decide) ?_
                  refine lv_aload_n hx hb dX9_road_139 rfl (lv_at hl 0 rfl) ?_
                  refine Rg_2 fx hC dX9_road_140 ?_
                  refine lv_imul hx hb dX9_road_143 ?_
                  refine lv_iload hx hb dX9_road_144 (lv_at hl 2 rfl) ?_
                  have h_13 := (gi_in hm).1
                  replace hm := (gi_in hm).2
                  refine Rs_3 fx hC h_13 dX9_road_146 (fun H locs hC => ?_)
                  obtain ⟨τ_14, e_15⟩ : ∃ z, z = (rA τ 3 (((2 : Int32) * (τ.1 2))).toNatClampNeg a2) := ⟨_, rfl⟩
                  rw [← e_15] at hC
                  replace hm := nm_in hm e_15
                  refine lv_aload_n hx hb dX9_road_147 rfl (lv_at hl 0 rfl) ?_
                  refine Rg_3 fx hC dX9_road_148 ?_
                  refine lv_iconst (v := (2 : Int32)) hx hb dX9_road_151 (by decide) ?_
                  refine lv_aload_n hx hb dX9_road_152 rfl (lv_at hl 0 rfl) ?_
                  refine Rg_2 fx hC dX9_road_153 ?_
                  refine lv_imul hx hb dX9_road_156 ?_
                  refine lv_iconst (v := (1 : Int32)) hx hb dX9_road_157 (by decide) ?_
                  refine lv_iadd hx hb dX9_road_158 ?_
                  refine lv_iload hx hb dX9_road_159 (lv_at hl 3 rfl) ?_
                  have h_16 := (gi_in hm).1
                  replace hm := (gi_in hm).2
                  refine Rs_3 fx hC h_16 dX9_road_161 (fun H locs hC => ?_)
                  obtain ⟨τ_17, e_18⟩ : ∃ z, z = (rA τ_14 3 ((((2 : Int32) * (τ_14.1 2)) + (1 : Int32))).toNatClampNeg a1) := ⟨_, rfl⟩
                  rw [← e_18] at hC
                  replace hm := nm_in hm e_18
                  refine lv_aload_n hx hb dX9_road_162 rfl (lv_at hl 0 rfl) ?_
                  refine Rg_4 fx hC dX9_road_163 ?_
                  refine lv_aload_n hx hb dX9_road_166 rfl (lv_at hl 0 rfl) ?_
                  refine Rg_2 fx hC dX9_road_167 ?_
                  refine lv_iload_n hx hb dX9_road_170 rfl (lv_at hl 1 rfl) ?_
                  have h_19 := (gi_in hm).1
                  replace hm := (gi_in hm).2
                  refine Rs_4 fx hC h_19 dX9_road_171 (fun H locs hC => ?_)
                  obtain ⟨τ_20, e_21⟩ : ∃ z, z = (rA τ_17 4 ((τ_17.1 2)).toNatClampNeg a3) := ⟨_, rfl⟩
                  rw [← e_21] at hC
                  replace hm := nm_in hm e_21
                  refine lv_aload_n hx hb dX9_road_172 rfl (lv_at hl 0 rfl) ?_
                  refine Rg_5 fx hC dX9_road_173 ?_
                  refine lv_aload_n hx hb dX9_road_176 rfl (lv_at hl 0 rfl) ?_
                  refine Rg_2 fx hC dX9_road_177 ?_
                  refine lv_iconst (v := (4 : Int32)) hx hb dX9_road_180 (by decide) ?_
                  have h_22 := (gi_in hm).1
                  replace hm := (gi_in hm).2
                  refine Rs_5 fx hC h_22 dX9_road_181 (fun H locs hC => ?_)
                  obtain ⟨τ_23, e_24⟩ : ∃ z, z = (rA τ_20 5 ((τ_20.1 2)).toNatClampNeg (4 : Int32)) := ⟨_, rfl⟩
                  rw [← e_24] at hC
                  replace hm := nm_in hm e_24
                  refine lv_aload_n hx hb dX9_road_182 rfl (lv_at hl 0 rfl) ?_
                  refine lv_dup hx hb dX9_road_183 rfl ?_
                  refine Rg_2 fx hC dX9_road_184 ?_
                  refine lv_iconst (v := (1 : Int32)) hx hb dX9_road_187 (by decide) ?_
                  refine lv_iadd hx hb dX9_road_188 ?_
                  refine Rp_2 fx hC dX9_road_189 (fun H locs hC => ?_)
                  obtain ⟨τ_25, e_26⟩ : ∃ z, z = (rS τ_23 2 ((τ_23.1 2) + (1 : Int32))) := ⟨_, rfl⟩
                  rw [← e_26] at hC
                  replace hm := nm_in hm e_26
                  refine lv_aload_n hx hb dX9_road_192 rfl (lv_at hl 0 rfl) ?_
                  refine Rg_2 fx hC dX9_road_193 ?_
                  refine lv_iconst (v := (1 : Int32)) hx hb dX9_road_196 (by decide) ?_
                  refine lv_isub hx hb dX9_road_197 ?_
                  cases hm
                  exact g_iret fx hr hC rfl dX9_road_198
                · replace hm := ifp hm c_12
                  refine lv_bipush (v := (-4 : Int32)) hx hb dX9_road_131 (by decide) ?_
                  cases hm
                  exact g_iret fx hr hC rfl dX9_road_133
            · exact absurd c_5 c_6
          · replace hm := ifn hm c_5
            refine lv_iload_n hx hb dX9_road_52 rfl (lv_at hl 1 rfl) ?_
            refine lv_goto (tgt := 57) hx hb dX9_road_53 (by decide) ?_
            refine lv_istore (lv' := [(4, .int a1), (0, .ref (q 0)), (1, .int a1), (2, .int a2), (3, .int a3)]) hx hb dX9_road_57 hl (by decide) rfl (fun ls hl => ?_)
            refine lv_iload_n hx hb dX9_road_59 rfl (lv_at hl 2 rfl) ?_
            refine lv_iload_n hx hb dX9_road_60 rfl (lv_at hl 3 rfl) ?_
            refine lv_icmp_ge (tgt := 68) hx hb dX9_road_61 (by decide) (fun c_27 => ?_) (fun c_27 => ?_)
            · exact absurd c_27 c_5
            · refine lv_iload_n hx hb dX9_road_64 rfl (lv_at hl 3 rfl) ?_
              refine lv_goto (tgt := 69) hx hb dX9_road_65 (by decide) ?_
              refine lv_istore (lv' := [(5, .int a2), (4, .int a1), (0, .ref (q 0)), (1, .int a1), (2, .int a2), (3, .int a3)]) hx hb dX9_road_69 hl (by decide) rfl (fun ls hl => ?_)
              refine lv_iconst (v := (0 : Int32)) hx hb dX9_road_71 (by decide) ?_
              refine lv_istore (lv' := [(6, .int (0 : Int32)), (5, .int a2), (4, .int a1), (0, .ref (q 0)), (1, .int a1), (2, .int a2), (3, .int a3)]) hx hb dX9_road_72 hl (by decide) rfl (fun ls hl => ?_)
              refine Rw_road_74 τ fx hR hf a3 a1 a2 fuel (0 : Int32) hm _ _ _ hC (lv_sub hl [3, 6, 2, 1, 0] rfl) (fun  H locs ls hm hC hl => ?_) (fun  H locs ls hm hC hl => ?_)
              · refine lv_bipush (v := (-3 : Int32)) hx hb dX9_road_113 (by decide) ?_
                cases hm
                exact g_iret fx hr hC rfl dX9_road_115
              · refine lv_aload_n hx hb dX9_road_122 rfl (lv_at hl 0 rfl) ?_
                refine Rg_2 fx hC dX9_road_123 ?_
                refine lv_bipush (v := (12 : Int32)) hx hb dX9_road_126 (by decide) ?_
                refine lv_icmp_ne (tgt := 134) hx hb dX9_road_128 (by decide) (fun c_28 => ?_) (fun c_28 => ?_)
                · replace hm := ifn hm c_28
                  refine lv_aload_n hx hb dX9_road_134 rfl (lv_at hl 0 rfl) ?_
                  refine Rg_3 fx hC dX9_road_135 ?_
                  refine lv_iconst (v := (2 : Int32)) hx hb dX9_road_138 (by decide) ?_
                  refine lv_aload_n hx hb dX9_road_139 rfl (lv_at hl 0 rfl) ?_
                  refine Rg_2 fx hC dX9_road_140 ?_
                  refine lv_imul hx hb dX9_road_143 ?_
                  refine lv_iload hx hb dX9_road_144 (lv_at hl 2 rfl) ?_
                  have h_29 := (gi_in hm).1
                  replace hm := (gi_in hm).2
                  refine Rs_3 fx hC h_29 dX9_road_146 (fun H locs hC => ?_)
                  obtain ⟨τ_30, e_31⟩ : ∃ z, z = (rA τ 3 (((2 : Int32) * (τ.1 2))).toNatClampNeg a1) := ⟨_, rfl⟩
                  rw [← e_31] at hC
                  replace hm := nm_in hm e_31
                  refine lv_aload_n hx hb dX9_road_147 rfl (lv_at hl 0 rfl) ?_
                  refine Rg_3 fx hC dX9_road_148 ?_
                  refine lv_iconst (v := (2 : Int32)) hx hb dX9_road_151 (by decide) ?_
                  refine lv_aload_n hx hb dX9_road_152 rfl (lv_at hl 0 rfl) ?_
                  refine Rg_2 fx hC dX9_road_153 ?_
                  refine lv_imul hx hb dX9_road_156 ?_
                  refine lv_iconst (v := (1 : Int32)) hx hb dX9_road_157 (by decide) ?_
                  refine lv_iadd hx hb dX9_road_158 ?_
                  refine lv_iload hx hb dX9_road_159 (lv_at hl 3 rfl) ?_
                  have h_32 := (gi_in hm).1
                  replace hm := (gi_in hm).2
                  refine Rs_3 fx hC h_32 dX9_road_161 (fun H locs hC => ?_)
                  obtain ⟨τ_33, e_34⟩ : ∃ z, z = (rA τ_30 3 ((((2 : Int32) * (τ_30.1 2)) + (1 : Int32))).toNatClampNeg a2) := ⟨_, rfl⟩
                  rw [← e_34] at hC
                  replace hm := nm_in hm e_34
                  refine lv_aload_n hx hb dX9_road_162 rfl (lv_at hl 0 rfl) ?_
                  refine Rg_4 fx hC dX9_road_163 ?_
                  refine lv_aload_n hx hb dX9_road_166 rfl (lv_at hl 0 rfl) ?_
                  refine Rg_2 fx hC dX9_road_167 ?_
                  refine lv_iload_n hx hb dX9_road_170 rfl (lv_at hl 1 rfl) ?_
                  have h_35 := (gi_in hm).1
                  replace hm := (gi_in hm).2
                  refine Rs_4 fx hC h_35 dX9_road_171 (fun H locs hC => ?_)
                  obtain ⟨τ_36, e_37⟩ : ∃ z, z = (rA τ_33 4 ((τ_33.1 2)).toNatClampNeg a3) := ⟨_, rfl⟩
                  rw [← e_37] at hC
                  replace hm := nm_in hm e_37
                  refine lv_aload_n hx hb dX9_road_172 rfl (lv_at hl 0 rfl) ?_
                  refine Rg_5 fx hC dX9_road_173 ?_
                  refine lv_aload_n hx hb dX9_road_176 rfl (lv_at hl 0 rfl) ?_
                  refine Rg_2 fx hC dX9_road_177 ?_
                  refine lv_iconst (v := (4 : Int32)) hx hb dX9_road_180 (by decide) ?_
                  have h_38 := (gi_in hm).1
                  replace hm := (gi_in hm).2
                  refine Rs_5 fx hC h_38 dX9_road_181 (fun H locs hC => ?_)
                  obtain ⟨τ_39, e_40⟩ : ∃ z, z = (rA τ_36 5 ((τ_36.1 2)).toNatClampNeg (4 : Int32)) := ⟨_, rfl⟩
                  rw [← e_40] at hC
                  replace hm := nm_in hm e_40
                  refine lv_aload_n hx hb dX9_road_182 rfl (lv_at hl 0 rfl) ?_
                  refine lv_dup hx hb dX9_road_183 rfl ?_
                  refine Rg_2 fx hC dX9_road_184 ?_
                  refine lv_iconst (v := (1 : Int32)) hx hb dX9_road_187 (by decide) ?_
                  refine lv_iadd hx hb dX9_road_188 ?_
                  refine Rp_2 fx hC dX9_road_189 (fun H locs hC => ?_)
                  obtain ⟨τ_41, e_42⟩ : ∃ z, z = (rS τ_39 2 ((τ_39.1 2) + (1 : Int32))) := ⟨_, rfl⟩
                  rw [← e_42] at hC
                  replace hm := nm_in hm e_42
                  refine lv_aload_n hx hb dX9_road_192 rfl (lv_at hl 0 rfl) ?_
                  refine Rg_2 fx hC dX9_road_193 ?_
                  refine lv_iconst (v := (1 : Int32)) hx hb dX9_road_196 (by decide) ?_
                  refine lv_isub hx hb dX9_road_197 ?_
                  cases hm
                  exact g_iret fx hr hC rfl dX9_road_198
                · replace hm := ifp hm c_28
                  refine lv_bipush (v := (-4 : Int32)) hx hb dX9_road_131 (by decide) ?_
                  cases hm
                  exact g_iret fx hr hC rfl dX9_road_133
        · replace hm := ifp hm c_4
          refine lv_bipush (v := (-2 : Int32)) hx hb dX9_road_44 (by decide) ?_
          cases hm
          exact g_iret fx hr hC rfl dX9_road_46
def Rm_odds (τ : RS) (a1 : Int32) (a2 : Int32) : Option (Int32 × RS) :=
  if (Rm_in a1 (0 : Int32) ((τ.1 2) - (1 : Int32))) = (0 : Int32) then (some ((-2 : Int32), τ)) else (if (Rm_in a2 (0 : Int32) (8 : Int32)) = (0 : Int32) then (some ((-2 : Int32), τ)) else (gi a1 12 (gi a1 12 (nm (rA τ 5 (a1).toNatClampNeg a2) (fun τ_5 => some ((τ.2 5 (a1).toNatClampNeg), τ_5))))))
abbrev Rrm_odds : Room := { frames := 1, cells := 0, slots := 0, locals := 22 }
set_option maxRecDepth 100000 in
set_option maxHeartbeats 4000000 in
theorem Rc_odds (l : Launch) {D : va_G} {cy : Nat → ClassId} {ad : List Nat} {q : Nat → Nat} {X : va_W} (τ : RS) (a1 : Int32) (a2 : Int32) {o : Int32 × RS} (hm : Rm_odds τ a1 a2 = some o) : GM l yX9_odds cX9_odds 4 (some .int) Rrm_odds D cy (rwd cy q X) ad [.ref (q 0), .int a1, .int a2] τ (some (.int o.1)) o.2 := by
  refine g_start RX9 rfl (by decide) (Nat.le_of_ble_eq_true rfl) ?_
  intro p e s m args below meth c fx hr hC ls hl
  have hx := fx.1
  have hb := fx.2.1
  have hR : 1 ≤ (Rrm_odds).frames ∧ 22 ≤ (Rrm_odds).locals := ⟨Nat.le_refl _, Nat.le_refl _⟩
  have hf : 0 ≤ (Rrm_odds).cells ∧ 0 ≤ (Rrm_odds).slots := ⟨Nat.zero_le _, Nat.zero_le _⟩
  have hl : lv_has ls 4 [(0, .ref (q 0)), (1, .int a1), (2, .int a2)] := hl
  unfold Rm_odds at hm
  refine lv_iload_n hx hb dX9_odds_0 rfl (lv_at hl 1 rfl) ?_
  refine lv_iconst (v := (0 : Int32)) hx hb dX9_odds_1 (by decide) ?_
  refine lv_aload_n hx hb dX9_odds_2 rfl (lv_at hl 0 rfl) ?_
  refine Rg_2 fx hC dX9_odds_3 ?_
  refine lv_iconst (v := (1 : Int32)) hx hb dX9_odds_6 (by decide) ?_
  refine lv_isub hx hb dX9_odds_7 ?_
  refine g_callSi (As := [.int a1, .int (0 : Int32), .int ((τ.1 2) - (1 : Int32))]) (rest := []) fx hC rw_w (Rc_in l rw_w τ a1 (0 : Int32) ((τ.1 2) - (1 : Int32))) k_140 Rk_in Rh_in ⟨rfl, rfl⟩ ⟨Nat.le_trans (Nat.le_of_ble_eq_true rfl) hR.1, Nat.le_trans (Nat.le_of_ble_eq_true rfl) hR.2⟩ hf rfl hl.1 rfl (Nat.le_of_ble_eq_true rfl) dX9_odds_8 (fun H locs hC => ?_)
  refine lv_if_eq (tgt := 24) hx hb dX9_odds_11 (by decide) (fun c_1 => ?_) (fun c_1 => ?_)
  · replace hm := ifp hm c_1
    refine lv_bipush (v := (-2 : Int32)) hx hb dX9_odds_24 (by decide) ?_
    cases hm
    exact g_iret fx hr hC rfl dX9_odds_26
  · replace hm := ifn hm c_1
    refine lv_iload_n hx hb dX9_odds_14 rfl (lv_at hl 2 rfl) ?_
    refine lv_iconst (v := (0 : Int32)) hx hb dX9_odds_15 (by decide) ?_
    refine lv_bipush (v := (8 : Int32)) hx hb dX9_odds_16 (by decide) ?_
    refine g_callSi (As := [.int a2, .int (0 : Int32), .int (8 : Int32)]) (rest := []) fx hC rw_w (Rc_in l rw_w τ a2 (0 : Int32) (8 : Int32)) k_140 Rk_in Rh_in ⟨rfl, rfl⟩ ⟨Nat.le_trans (Nat.le_of_ble_eq_true rfl) hR.1, Nat.le_trans (Nat.le_of_ble_eq_true rfl) hR.2⟩ hf rfl hl.1 rfl (Nat.le_of_ble_eq_true rfl) dX9_odds_18 (fun H locs hC => ?_)
    refine lv_if_ne (tgt := 27) hx hb dX9_odds_21 (by decide) (fun c_2 => ?_) (fun c_2 => ?_)
    · replace hm := ifn hm c_2
      refine lv_aload_n hx hb dX9_odds_27 rfl (lv_at hl 0 rfl) ?_
      refine Rg_5 fx hC dX9_odds_28 ?_
      refine lv_iload_n hx hb dX9_odds_31 rfl (lv_at hl 1 rfl) ?_
      have h_3 := (gi_in hm).1
      replace hm := (gi_in hm).2
      refine Rl_5 fx hC h_3 dX9_odds_32 ?_
      refine lv_istore_n (lv' := [(3, .int (τ.2 5 (a1).toNatClampNeg)), (0, .ref (q 0)), (1, .int a1), (2, .int a2)]) hx hb dX9_odds_33 rfl hl (by decide) rfl (fun ls hl => ?_)
      refine lv_aload_n hx hb dX9_odds_34 rfl (lv_at hl 1 rfl) ?_
      refine Rg_5 fx hC dX9_odds_35 ?_
      refine lv_iload_n hx hb dX9_odds_38 rfl (lv_at hl 2 rfl) ?_
      refine lv_iload_n hx hb dX9_odds_39 rfl (lv_at hl 3 rfl) ?_
      have h_4 := (gi_in hm).1
      replace hm := (gi_in hm).2
      refine Rs_5 fx hC h_4 dX9_odds_40 (fun H locs hC => ?_)
      obtain ⟨τ_5, e_6⟩ : ∃ z, z = (rA τ 5 (a1).toNatClampNeg a2) := ⟨_, rfl⟩
      rw [← e_6] at hC
      replace hm := nm_in hm e_6
      refine lv_iload_n hx hb dX9_odds_41 rfl (lv_at hl 0 rfl) ?_
      cases hm
      exact g_iret fx hr hC rfl dX9_odds_42
    · replace hm := ifp hm c_2
      refine lv_bipush (v := (-2 : Int32)) hx hb dX9_odds_24 (by decide) ?_
      cases hm
      exact g_iret fx hr hC rfl dX9_odds_26
def Rm_roadOf (τ : RS) (a1 : Int32) (a2 : Int32) : Option Int32 :=
  if (Rm_in a1 (0 : Int32) ((τ.1 2) - (1 : Int32))) = (0 : Int32) then (some (-2 : Int32)) else (if (Rm_in a2 (0 : Int32) (3 : Int32)) = (0 : Int32) then (some (-2 : Int32)) else (if (2 : Int32) ≤ a2 then (if a2 = (2 : Int32) then (gi a1 12 (some (τ.2 4 (a1).toNatClampNeg))) else (gi a1 12 (some (τ.2 5 (a1).toNatClampNeg)))) else (gi (((2 : Int32) * a1) + a2) 24 (some (τ.2 3 ((((2 : Int32) * a1) + a2)).toNatClampNeg)))))
abbrev Rrm_roadOf : Room := { frames := 1, cells := 0, slots := 0, locals := 22 }
set_option maxRecDepth 100000 in
set_option maxHeartbeats 4000000 in
theorem Rc_roadOf (l : Launch) {D : va_G} {cy : Nat → ClassId} {ad : List Nat} {q : Nat → Nat} {X : va_W} (τ : RS) (a1 : Int32) (a2 : Int32) {o : Int32} (hm : Rm_roadOf τ a1 a2 = some o) : GM l yX9_roadOf cX9_roadOf 3 (some .int) Rrm_roadOf D cy (rwd cy q X) ad [.ref (q 0), .int a1, .int a2] τ (some (.int o)) τ := by
  refine g_start RX9 rfl (by decide) (Nat.le_of_ble_eq_true rfl) ?_
  intro p e s m args below meth c fx hr hC ls hl
  have hx := fx.1
  have hb := fx.2.1
  have hR : 1 ≤ (Rrm_roadOf).frames ∧ 22 ≤ (Rrm_roadOf).locals := ⟨Nat.le_refl _, Nat.le_refl _⟩
  have hf : 0 ≤ (Rrm_roadOf).cells ∧ 0 ≤ (Rrm_roadOf).slots := ⟨Nat.zero_le _, Nat.zero_le _⟩
  have hl : lv_has ls 3 [(0, .ref (q 0)), (1, .int a1), (2, .int a2)] := hl
  unfold Rm_roadOf at hm
  refine lv_iload_n hx hb dX9_roadOf_0 rfl (lv_at hl 1 rfl) ?_
  refine lv_iconst (v := (0 : Int32)) hx hb dX9_roadOf_1 (by decide) ?_
  refine lv_aload_n hx hb dX9_roadOf_2 rfl (lv_at hl 0 rfl) ?_
  refine Rg_2 fx hC dX9_roadOf_3 ?_
  refine lv_iconst (v := (1 : Int32)) hx hb dX9_roadOf_6 (by decide) ?_
  refine lv_isub hx hb dX9_roadOf_7 ?_
  refine g_callSi (As := [.int a1, .int (0 : Int32), .int ((τ.1 2) - (1 : Int32))]) (rest := []) fx hC rw_w (Rc_in l rw_w τ a1 (0 : Int32) ((τ.1 2) - (1 : Int32))) k_140 Rk_in Rh_in ⟨rfl, rfl⟩ ⟨Nat.le_trans (Nat.le_of_ble_eq_true rfl) hR.1, Nat.le_trans (Nat.le_of_ble_eq_true rfl) hR.2⟩ hf rfl hl.1 rfl (Nat.le_of_ble_eq_true rfl) dX9_roadOf_8 (fun H locs hC => ?_)
  refine lv_if_eq (tgt := 23) hx hb dX9_roadOf_11 (by decide) (fun c_1 => ?_) (fun c_1 => ?_)
  · replace hm := ifp hm c_1
    refine lv_bipush (v := (-2 : Int32)) hx hb dX9_roadOf_23 (by decide) ?_
    cases hm
    exact g_iret fx hr hC rfl dX9_roadOf_25
  · replace hm := ifn hm c_1
    refine lv_iload_n hx hb dX9_roadOf_14 rfl (lv_at hl 2 rfl) ?_
    refine lv_iconst (v := (0 : Int32)) hx hb dX9_roadOf_15 (by decide) ?_
    refine lv_iconst (v := (3 : Int32)) hx hb dX9_roadOf_16 (by decide) ?_
    refine g_callSi (As := [.int a2, .int (0 : Int32), .int (3 : Int32)]) (rest := []) fx hC rw_w (Rc_in l rw_w τ a2 (0 : Int32) (3 : Int32)) k_140 Rk_in Rh_in ⟨rfl, rfl⟩ ⟨Nat.le_trans (Nat.le_of_ble_eq_true rfl) hR.1, Nat.le_trans (Nat.le_of_ble_eq_true rfl) hR.2⟩ hf rfl hl.1 rfl (Nat.le_of_ble_eq_true rfl) dX9_roadOf_17 (fun H locs hC => ?_)
    refine lv_if_ne (tgt := 26) hx hb dX9_roadOf_20 (by decide) (fun c_2 => ?_) (fun c_2 => ?_)
    · replace hm := ifn hm c_2
      refine lv_iload_n hx hb dX9_roadOf_26 rfl (lv_at hl 2 rfl) ?_
      refine lv_iconst (v := (2 : Int32)) hx hb dX9_roadOf_27 (by decide) ?_
      refine lv_icmp_ge (tgt := 44) hx hb dX9_roadOf_28 (by decide) (fun c_3 => ?_) (fun c_3 => ?_)
      · replace hm := ifp hm c_3
        refine lv_iload_n hx hb dX9_roadOf_44 rfl (lv_at hl 2 rfl) ?_
        refine lv_iconst (v := (2 : Int32)) hx hb dX9_roadOf_45 (by decide) ?_
        refine lv_icmp_ne (tgt := 58) hx hb dX9_roadOf_46 (by decide) (fun c_4 => ?_) (fun c_4 => ?_)
        · replace hm := ifn hm c_4
          refine lv_aload_n hx hb dX9_roadOf_58 rfl (lv_at hl 0 rfl) ?_
          refine Rg_5 fx hC dX9_roadOf_59 ?_
          refine lv_iload_n hx hb dX9_roadOf_62 rfl (lv_at hl 1 rfl) ?_
          have h_5 := (gi_in hm).1
          replace hm := (gi_in hm).2
          refine Rl_5 fx hC h_5 dX9_roadOf_63 ?_
          cases hm
          exact g_iret fx hr hC rfl dX9_roadOf_64
        · replace hm := ifp hm c_4
          refine lv_aload_n hx hb dX9_roadOf_49 rfl (lv_at hl 0 rfl) ?_
          refine Rg_4 fx hC dX9_roadOf_50 ?_
          refine lv_iload_n hx hb dX9_roadOf_53 rfl (lv_at hl 1 rfl) ?_
          have h_6 := (gi_in hm).1
          replace hm := (gi_in hm).2
          refine Rl_4 fx hC h_6 dX9_roadOf_54 ?_
          refine lv_goto (tgt := 64) hx hb dX9_roadOf_55 (by decide) ?_
          cases hm
          exact g_iret fx hr hC rfl dX9_roadOf_64
      · replace hm := ifn hm c_3
        refine lv_aload_n hx hb dX9_roadOf_31 rfl (lv_at hl 0 rfl) ?_
        refine Rg_3 fx hC dX9_roadOf_32 ?_
        refine lv_iconst (v := (2 : Int32)) hx hb dX9_roadOf_35 (by decide) ?_
        refine lv_iload_n hx hb dX9_roadOf_36 rfl (lv_at hl 1 rfl) ?_
        refine lv_imul hx hb dX9_roadOf_37 ?_
        refine lv_iload_n hx hb dX9_roadOf_38 rfl (lv_at hl 2 rfl) ?_
        refine lv_iadd hx hb dX9_roadOf_39 ?_
        have h_7 := (gi_in hm).1
        replace hm := (gi_in hm).2
        refine Rl_3 fx hC h_7 dX9_roadOf_40 ?_
        refine lv_goto (tgt := 64) hx hb dX9_roadOf_41 (by decide) ?_
        cases hm
        exact g_iret fx hr hC rfl dX9_roadOf_64
    · replace hm := ifp hm c_2
      refine lv_bipush (v := (-2 : Int32)) hx hb dX9_roadOf_23 (by decide) ?_
      cases hm
      exact g_iret fx hr hC rfl dX9_roadOf_25
def Rs_at_5 {ρ : Type} (p1 : Int32) (p2 : Int32) (τ : RS) (kx65 : Int32 → Option ρ) (rc : Int32 → Int32 → Option ρ) (v3 : Int32) (v4 : Int32) : Option ρ :=
  if (τ.1 2) ≤ v4 then (kx65 v3) else (if (Rm_holds p1 v4) = (0 : Int32) then (rc (v3 + (0 : Int32)) (v4 + (1 : Int32))) else (gi ((2 : Int32) * v4) 24 (if (τ.2 3 (((2 : Int32) * v4)).toNatClampNeg) = p2 then (rc (v3 + (1 : Int32)) (v4 + (1 : Int32))) else (gi (((2 : Int32) * v4) + (1 : Int32)) 24 (if (τ.2 3 ((((2 : Int32) * v4) + (1 : Int32))).toNatClampNeg) = p2 then (rc (v3 + (1 : Int32)) (v4 + (1 : Int32))) else (rc (v3 + (0 : Int32)) (v4 + (1 : Int32))))))))
def Rm_at (τ : RS) (a1 : Int32) (a2 : Int32) : Option Int32 :=
  it2 (Rs_at_5 a1 a2 τ (fun u_7 => some u_7)) fuel (0 : Int32) (0 : Int32)
abbrev Rrm_at : Room := { frames := 1, cells := 0, slots := 0, locals := 21 }
set_option maxRecDepth 100000 in
set_option maxHeartbeats 4000000 in
theorem Rw_at_5 {ρ : Type} {out : ρ} {p : Program} {l : Launch} {e : Env} {R : Room} {s : State} {m : MethodId} {args : Array Value} {below : List Frame} {meth : Method} {c : Code} {cells slots : Nat} {Q : State → Prop} {D : va_G} {cy : Nat → ClassId} {ad : List Nat} {q : Nat → Nat} {X : va_W} (τ : RS) (fx : FX p s m args meth c cX9_at 5 RX9 D cy) (hR : 1 ≤ R.frames ∧ 21 ≤ R.locals) (hf : cells ≤ R.cells ∧ slots ≤ R.slots) (p1 : Int32) (p2 : Int32) {kx65 : Int32 → Option ρ} :
    ∀ (n : Nat) (v3 : Int32) (v4 : Int32), it2 (Rs_at_5 p1 p2 τ kx65) n v3 v4 = some out → ∀ (H : Heap) (locs : List Loc) (ls : Array Slot), GC D (rwd cy q X) ad s τ H locs → lv_has ls 5 [(0, .ref (q 0)), (1, .int p1), (2, .int p2), (3, .int v3), (4, .int v4)] → (∀ (u3 : Int32) (H : Heap) (locs : List Loc) (ls : Array Slot), kx65 u3 = some out → GC D (rwd cy q X) ad s τ H locs → lv_has ls 5 [(3, .int u3)] → W p l e R s m args below meth c H locs cells slots Q (F0 m 65 ls [])) → W p l e R s m args below meth c H locs cells slots Q (F0 m 5 ls []) := by
  have hx := fx.1
  have hb := fx.2.1
  intro n
  induction n with
  | zero => intro v3 v4 hm; exact (it2_z hm).elim
  | succ n ih =>
    intro v3 v4 hm H locs ls hC hl hx65
    obtain ⟨rc, hrc⟩ : ∃ z, z = it2 (Rs_at_5 p1 p2 τ kx65) n := ⟨_, rfl⟩
    replace hm : Rs_at_5 p1 p2 τ kx65 rc v3 v4 = some out := by rw [hrc]; exact hm
    unfold Rs_at_5 at hm
    refine lv_iload hx hb dX9_at_5 (lv_at hl 4 rfl) ?_
    refine lv_aload_n hx hb dX9_at_7 rfl (lv_at hl 0 rfl) ?_
    refine Rg_2 fx hC dX9_at_8 ?_
    refine lv_icmp_ge (tgt := 65) hx hb dX9_at_11 (by decide) (fun c_1 => ?_) (fun c_1 => ?_)
    · replace hm := ifp hm c_1
      exact hx65 _ _ _ _ hm hC (lv_sub hl [3] rfl)
    · replace hm := ifn hm c_1
      refine lv_iload_n hx hb dX9_at_14 rfl (lv_at hl 3 rfl) ?_
      refine lv_iload_n hx hb dX9_at_15 rfl (lv_at hl 1 rfl) ?_
      refine lv_iload hx hb dX9_at_16 (lv_at hl 4 rfl) ?_
      refine g_callSi (As := [.int p1, .int v4]) (rest := [.int v3]) fx hC rw_w (Rc_holds l rw_w τ p1 v4) k_323 Rk_holds Rh_holds ⟨rfl, rfl⟩ ⟨Nat.le_trans (Nat.le_of_ble_eq_true rfl) hR.1, Nat.le_trans (Nat.le_of_ble_eq_true rfl) hR.2⟩ hf rfl hl.1 rfl (Nat.le_of_ble_eq_true rfl) dX9_at_18 (fun H locs hC => ?_)
      refine lv_if_eq (tgt := 56) hx hb dX9_at_21 (by decide) (fun c_2 => ?_) (fun c_2 => ?_)
      · replace hm := ifp hm c_2
        refine lv_iconst (v := (0 : Int32)) hx hb dX9_at_56 (by decide) ?_
        refine lv_iadd hx hb dX9_at_57 ?_
        refine lv_istore_n (lv' := [(3, .int (v3 + (0 : Int32))), (0, .ref (q 0)), (1, .int p1), (2, .int p2), (4, .int v4)]) hx hb dX9_at_58 rfl hl (by decide) rfl (fun ls hl => ?_)
        refine lv_iinc (v := (v4 + (1 : Int32))) (lv' := [(4, .int (v4 + (1 : Int32))), (3, .int (v3 + (0 : Int32))), (0, .ref (q 0)), (1, .int p1), (2, .int p2)]) hx hb dX9_at_59 hl (k := 4) rfl rfl (by decide) rfl (fun ls hl => ?_)
        refine lv_goto (tgt := 5) hx hb dX9_at_62 (by decide) ?_
        rw [hrc] at hm
        exact ih _ _ hm _ _ _ hC (lv_sub hl [2, 3, 4, 1, 0] rfl) hx65
      · replace hm := ifn hm c_2
        refine lv_aload_n hx hb dX9_at_24 rfl (lv_at hl 0 rfl) ?_
        refine Rg_3 fx hC dX9_at_25 ?_
        refine lv_iconst (v := (2 : Int32)) hx hb dX9_at_28 (by decide) ?_
        refine lv_iload hx hb dX9_at_29 (lv_at hl 4 rfl) ?_
        refine lv_imul hx hb dX9_at_31 ?_
        have h_3 := (gi_in hm).1
        replace hm := (gi_in hm).2
        refine Rl_3 fx hC h_3 dX9_at_32 ?_
        refine lv_iload_n hx hb dX9_at_33 rfl (lv_at hl 2 rfl) ?_
        refine lv_icmp_eq (tgt := 52) hx hb dX9_at_34 (by decide) (fun c_4 => ?_) (fun c_4 => ?_)
        · replace hm := ifp hm c_4
          refine lv_iconst (v := (1 : Int32)) hx hb dX9_at_52 (by decide) ?_
          refine lv_goto (tgt := 57) hx hb dX9_at_53 (by decide) ?_
          refine lv_iadd hx hb dX9_at_57 ?_
          refine lv_istore_n (lv' := [(3, .int (v3 + (1 : Int32))), (0, .ref (q 0)), (1, .int p1), (2, .int p2), (4, .int v4)]) hx hb dX9_at_58 rfl hl (by decide) rfl (fun ls hl => ?_)
          refine lv_iinc (v := (v4 + (1 : Int32))) (lv' := [(4, .int (v4 + (1 : Int32))), (3, .int (v3 + (1 : Int32))), (0, .ref (q 0)), (1, .int p1), (2, .int p2)]) hx hb dX9_at_59 hl (k := 4) rfl rfl (by decide) rfl (fun ls hl => ?_)
          refine lv_goto (tgt := 5) hx hb dX9_at_62 (by decide) ?_
          rw [hrc] at hm
          exact ih _ _ hm _ _ _ hC (lv_sub hl [2, 3, 4, 1, 0] rfl) hx65
        · replace hm := ifn hm c_4
          refine lv_aload_n hx hb dX9_at_37 rfl (lv_at hl 0 rfl) ?_
          refine Rg_3 fx hC dX9_at_38 ?_
          refine lv_iconst (v := (2 : Int32)) hx hb dX9_at_41 (by decide) ?_
          refine lv_iload hx hb dX9_at_42 (lv_at hl 4 rfl) ?_
          refine lv_imul hx hb dX9_at_44 ?_
          refine lv_iconst (v := (1 : Int32)) hx hb dX9_at_45 (by decide) ?_
          refine lv_iadd hx hb dX9_at_46 ?_
          have h_5 := (gi_in hm).1
          replace hm := (gi_in hm).2
          refine Rl_3 fx hC h_5 dX9_at_47 ?_
          refine lv_iload_n hx hb dX9_at_48 rfl (lv_at hl 2 rfl) ?_
          refine lv_icmp_ne (tgt := 56) hx hb dX9_at_49 (by decide) (fun c_6 => ?_) (fun c_6 => ?_)
          · replace hm := ifn hm c_6
            refine lv_iconst (v := (0 : Int32)) hx hb dX9_at_56 (by decide) ?_
            refine lv_iadd hx hb dX9_at_57 ?_
            refine lv_istore_n (lv' := [(3, .int (v3 + (0 : Int32))), (0, .ref (q 0)), (1, .int p1), (2, .int p2), (4, .int v4)]) hx hb dX9_at_58 rfl hl (by decide) rfl (fun ls hl => ?_)
            refine lv_iinc (v := (v4 + (1 : Int32))) (lv' := [(4, .int (v4 + (1 : Int32))), (3, .int (v3 + (0 : Int32))), (0, .ref (q 0)), (1, .int p1), (2, .int p2)]) hx hb dX9_at_59 hl (k := 4) rfl rfl (by decide) rfl (fun ls hl => ?_)
            refine lv_goto (tgt := 5) hx hb dX9_at_62 (by decide) ?_
            rw [hrc] at hm
            exact ih _ _ hm _ _ _ hC (lv_sub hl [2, 3, 4, 1, 0] rfl) hx65
          · replace hm := ifp hm c_6
            refine lv_iconst (v := (1 : Int32)) hx hb dX9_at_52 (by decide) ?_
            refine lv_goto (tgt := 57) hx hb dX9_at_53 (by decide) ?_
            refine lv_iadd hx hb dX9_at_57 ?_
            refine lv_istore_n (lv' := [(3, .int (v3 + (1 : Int32))), (0, .ref (q 0)), (1, .int p1), (2, .int p2), (4, .int v4)]) hx hb dX9_at_58 rfl hl (by decide) rfl (fun ls hl => ?_)
            refine lv_iinc (v := (v4 + (1 : Int32))) (lv' := [(4, .int (v4 + (1 : Int32))), (3, .int (v3 + (1 : Int32))), (0, .ref (q 0)), (1, .int p1), (2, .int p2)]) hx hb dX9_at_59 hl (k := 4) rfl rfl (by decide) rfl (fun ls hl => ?_)
            refine lv_goto (tgt := 5) hx hb dX9_at_62 (by decide) ?_
            rw [hrc] at hm
            exact ih _ _ hm _ _ _ hC (lv_sub hl [2, 3, 4, 1, 0] rfl) hx65
set_option maxRecDepth 100000 in
set_option maxHeartbeats 4000000 in
theorem Rc_at (l : Launch) {D : va_G} {cy : Nat → ClassId} {ad : List Nat} {q : Nat → Nat} {X : va_W} (τ : RS) (a1 : Int32) (a2 : Int32) {o : Int32} (hm : Rm_at τ a1 a2 = some o) : GM l yX9_at cX9_at 5 (some .int) Rrm_at D cy (rwd cy q X) ad [.ref (q 0), .int a1, .int a2] τ (some (.int o)) τ := by
  refine g_start RX9 rfl (by decide) (Nat.le_of_ble_eq_true rfl) ?_
  intro p e s m args below meth c fx hr hC ls hl
  have hx := fx.1
  have hb := fx.2.1
  have hR : 1 ≤ (Rrm_at).frames ∧ 21 ≤ (Rrm_at).locals := ⟨Nat.le_refl _, Nat.le_refl _⟩
  have hf : 0 ≤ (Rrm_at).cells ∧ 0 ≤ (Rrm_at).slots := ⟨Nat.zero_le _, Nat.zero_le _⟩
  have hl : lv_has ls 5 [(0, .ref (q 0)), (1, .int a1), (2, .int a2)] := hl
  unfold Rm_at at hm
  refine lv_iconst (v := (0 : Int32)) hx hb dX9_at_0 (by decide) ?_
  refine lv_istore_n (lv' := [(3, .int (0 : Int32)), (0, .ref (q 0)), (1, .int a1), (2, .int a2)]) hx hb dX9_at_1 rfl hl (by decide) rfl (fun ls hl => ?_)
  refine lv_iconst (v := (0 : Int32)) hx hb dX9_at_2 (by decide) ?_
  refine lv_istore (lv' := [(4, .int (0 : Int32)), (3, .int (0 : Int32)), (0, .ref (q 0)), (1, .int a1), (2, .int a2)]) hx hb dX9_at_3 hl (by decide) rfl (fun ls hl => ?_)
  refine Rw_at_5 τ fx hR hf a1 a2 fuel (0 : Int32) (0 : Int32) hm _ _ _ hC (lv_sub hl [2, 3, 4, 1, 0] rfl) (fun u_7 H locs ls hm hC hl => ?_)
  refine lv_iload_n hx hb dX9_at_65 rfl (lv_at hl 0 rfl) ?_
  cases hm
  exact g_iret fx hr hC rfl dX9_at_66
def Rs_heaps_2 {ρ : Type} (p1 : Int32) (kx23 : RS → Option ρ) (rc : Int32 → RS → Option ρ) (v2 : Int32) (τ : RS) : Option ρ :=
  if (τ.1 0) ≤ v2 then (kx23  τ) else (gi v2 8 (nm (rA τ 19 (v2).toNatClampNeg v2) (fun τ_3 => rc (v2 + (1 : Int32)) τ_3)))
def Rs_heaps_88 {ρ : Type} (p1 : Int32) (p2 : Int32) (p3 : Int32) (p4 : Int32) (p5 : Int32) (kx158 : RS → Option ρ) (rc : Int32 → RS → Option ρ) (v6 : Int32) (τ : RS) : Option ρ :=
  if (τ.1 0) ≤ v6 then (kx158  τ) else (gi v6 8 (if (τ.2 19 (v6).toNatClampNeg) = p4 then (if p5 ≤ p4 then (gi v6 8 (nm (rA τ 19 (v6).toNatClampNeg p5) (fun τ_20 => rc (v6 + (1 : Int32)) τ_20))) else (gi v6 8 (nm (rA τ 19 (v6).toNatClampNeg p4) (fun τ_23 => rc (v6 + (1 : Int32)) τ_23)))) else (gi v6 8 (if (τ.2 19 (v6).toNatClampNeg) = p5 then (if p5 ≤ p4 then (gi v6 8 (nm (rA τ 19 (v6).toNatClampNeg p5) (fun τ_33 => rc (v6 + (1 : Int32)) τ_33))) else (gi v6 8 (nm (rA τ 19 (v6).toNatClampNeg p4) (fun τ_36 => rc (v6 + (1 : Int32)) τ_36)))) else (gi v6 8 (gi v6 8 (nm (rA τ 19 (v6).toNatClampNeg (τ.2 19 (v6).toNatClampNeg)) (fun τ_29 => rc (v6 + (1 : Int32)) τ_29))))))))
def Rs_heaps_30 {ρ : Type} (p1 : Int32) (kx167 : Int32 → RS → Option ρ) (rc : Int32 → Int32 → RS → Option ρ) (v2 : Int32) (v3 : Int32) (τ : RS) : Option ρ :=
  if (τ.1 2) ≤ v3 then (kx167 v2 τ) else (gi ((2 : Int32) * v3) 24 (gi (τ.2 3 (((2 : Int32) * v3)).toNatClampNeg) 8 (nm (τ.2 19 ((τ.2 3 (((2 : Int32) * v3)).toNatClampNeg)).toNatClampNeg) (fun x_9 => gi (((2 : Int32) * v3) + (1 : Int32)) 24 (gi (τ.2 3 ((((2 : Int32) * v3) + (1 : Int32))).toNatClampNeg) 8 (nm (τ.2 19 ((τ.2 3 ((((2 : Int32) * v3) + (1 : Int32))).toNatClampNeg)).toNatClampNeg) (fun x_12 => if (Rm_holds p1 v3) = (0 : Int32) then (rc v2 (v3 + (1 : Int32)) τ) else (if x_9 = x_12 then (rc v2 (v3 + (1 : Int32)) τ) else (it2 (Rs_heaps_88 p1 v2 v3 x_9 x_12 (fun τ_38 => rc (v2 + (-1 : Int32)) (v3 + (1 : Int32)) τ_38)) fuel (0 : Int32) τ)))))))))
def Rm_heaps (τ : RS) (a1 : Int32) : Option (Int32 × RS) :=
  it2 (Rs_heaps_2 a1 (fun τ_5 => it3 (Rs_heaps_30 a1 (fun u_39 τ_40 => some (u_39, τ_40))) fuel (τ_5.1 0) (0 : Int32) τ_5)) fuel (0 : Int32) τ
abbrev Rrm_heaps : Room := { frames := 1, cells := 0, slots := 0, locals := 21 }
set_option maxRecDepth 100000 in
set_option maxHeartbeats 4000000 in
theorem Rw_heaps_2 {ρ : Type} {out : ρ} {p : Program} {l : Launch} {e : Env} {R : Room} {s : State} {m : MethodId} {args : Array Value} {below : List Frame} {meth : Method} {c : Code} {cells slots : Nat} {Q : State → Prop} {D : va_G} {cy : Nat → ClassId} {ad : List Nat} {q : Nat → Nat} {X : va_W} (fx : FX p s m args meth c cX9_heaps 7 RX9 D cy) (hR : 1 ≤ R.frames ∧ 21 ≤ R.locals) (hf : cells ≤ R.cells ∧ slots ≤ R.slots) (p1 : Int32) {kx23 : RS → Option ρ} :
    ∀ (n : Nat) (v2 : Int32) (τ : RS), it2 (Rs_heaps_2 p1 kx23) n v2 τ = some out → ∀ (H : Heap) (locs : List Loc) (ls : Array Slot), GC D (rwd cy q X) ad s τ H locs → lv_has ls 7 [(0, .ref (q 0)), (1, .int p1), (2, .int v2)] → (∀ (τ2 : RS) (H : Heap) (locs : List Loc) (ls : Array Slot), kx23 τ2 = some out → GC D (rwd cy q X) ad s τ2 H locs → lv_has ls 7 [(0, .ref (q 0)), (1, .int p1)] → W p l e R s m args below meth c H locs cells slots Q (F0 m 23 ls [])) → W p l e R s m args below meth c H locs cells slots Q (F0 m 2 ls []) := by
  have hx := fx.1
  have hb := fx.2.1
  intro n
  induction n with
  | zero => intro v2 τ hm; exact (it2_z hm).elim
  | succ n ih =>
    intro v2 τ hm H locs ls hC hl hx23
    obtain ⟨rc, hrc⟩ : ∃ z, z = it2 (Rs_heaps_2 p1 kx23) n := ⟨_, rfl⟩
    replace hm : Rs_heaps_2 p1 kx23 rc v2 τ = some out := by rw [hrc]; exact hm
    unfold Rs_heaps_2 at hm
    refine lv_iload_n hx hb dX9_heaps_2 rfl (lv_at hl 2 rfl) ?_
    refine lv_aload_n hx hb dX9_heaps_3 rfl (lv_at hl 0 rfl) ?_
    refine Rg_0 fx hC dX9_heaps_4 ?_
    refine lv_icmp_ge (tgt := 23) hx hb dX9_heaps_7 (by decide) (fun c_1 => ?_) (fun c_1 => ?_)
    · replace hm := ifp hm c_1
      exact hx23 _ _ _ _ hm hC (lv_sub hl [0, 1] rfl)
    · replace hm := ifn hm c_1
      refine lv_aload_n hx hb dX9_heaps_10 rfl (lv_at hl 0 rfl) ?_
      refine Rg_19 fx hC dX9_heaps_11 ?_
      refine lv_iload_n hx hb dX9_heaps_14 rfl (lv_at hl 2 rfl) ?_
      refine lv_iload_n hx hb dX9_heaps_15 rfl (lv_at hl 2 rfl) ?_
      have h_2 := (gi_in hm).1
      replace hm := (gi_in hm).2
      refine Rs_19 fx hC h_2 dX9_heaps_16 (fun H locs hC => ?_)
      obtain ⟨τ_3, e_4⟩ : ∃ z, z = (rA τ 19 (v2).toNatClampNeg v2) := ⟨_, rfl⟩
      rw [← e_4] at hC
      replace hm := nm_in hm e_4
      refine lv_iinc (v := (v2 + (1 : Int32))) (lv' := [(2, .int (v2 + (1 : Int32))), (0, .ref (q 0)), (1, .int p1)]) hx hb dX9_heaps_17 hl (k := 2) rfl rfl (by decide) rfl (fun ls hl => ?_)
      refine lv_goto (tgt := 2) hx hb dX9_heaps_20 (by decide) ?_
      rw [hrc] at hm
      exact ih _ _ hm _ _ _ hC (lv_sub hl [1, 2, 0] rfl) hx23
set_option maxRecDepth 100000 in
set_option maxHeartbeats 4000000 in
theorem Rw_heaps_88 {ρ : Type} {out : ρ} {p : Program} {l : Launch} {e : Env} {R : Room} {s : State} {m : MethodId} {args : Array Value} {below : List Frame} {meth : Method} {c : Code} {cells slots : Nat} {Q : State → Prop} {D : va_G} {cy : Nat → ClassId} {ad : List Nat} {q : Nat → Nat} {X : va_W} (fx : FX p s m args meth c cX9_heaps 7 RX9 D cy) (hR : 1 ≤ R.frames ∧ 21 ≤ R.locals) (hf : cells ≤ R.cells ∧ slots ≤ R.slots) (p1 : Int32) (p2 : Int32) (p3 : Int32) (p4 : Int32) (p5 : Int32) {kx158 : RS → Option ρ} :
    ∀ (n : Nat) (v6 : Int32) (τ : RS), it2 (Rs_heaps_88 p1 p2 p3 p4 p5 kx158) n v6 τ = some out → ∀ (H : Heap) (locs : List Loc) (ls : Array Slot), GC D (rwd cy q X) ad s τ H locs → lv_has ls 7 [(0, .ref (q 0)), (1, .int p1), (2, .int p2), (3, .int p3), (4, .int p4), (5, .int p5), (6, .int v6)] → (∀ (τ2 : RS) (H : Heap) (locs : List Loc) (ls : Array Slot), kx158 τ2 = some out → GC D (rwd cy q X) ad s τ2 H locs → lv_has ls 7 [(0, .ref (q 0)), (1, .int p1), (2, .int p2), (3, .int p3)] → W p l e R s m args below meth c H locs cells slots Q (F0 m 158 ls [])) → W p l e R s m args below meth c H locs cells slots Q (F0 m 88 ls []) := by
  have hx := fx.1
  have hb := fx.2.1
  intro n
  induction n with
  | zero => intro v6 τ hm; exact (it2_z hm).elim
  | succ n ih =>
    intro v6 τ hm H locs ls hC hl hx158
    obtain ⟨rc, hrc⟩ : ∃ z, z = it2 (Rs_heaps_88 p1 p2 p3 p4 p5 kx158) n := ⟨_, rfl⟩
    replace hm : Rs_heaps_88 p1 p2 p3 p4 p5 kx158 rc v6 τ = some out := by rw [hrc]; exact hm
    unfold Rs_heaps_88 at hm
    refine lv_iload hx hb dX9_heaps_88 (lv_at hl 6 rfl) ?_
    refine lv_aload_n hx hb dX9_heaps_90 rfl (lv_at hl 0 rfl) ?_
    refine Rg_0 fx hC dX9_heaps_91 ?_
    refine lv_icmp_ge (tgt := 158) hx hb dX9_heaps_94 (by decide) (fun c_15 => ?_) (fun c_15 => ?_)
    · replace hm := ifp hm c_15
      exact hx158 _ _ _ _ hm hC (lv_sub hl [0, 1, 2, 3] rfl)
    · replace hm := ifn hm c_15
      refine lv_aload_n hx hb dX9_heaps_97 rfl (lv_at hl 0 rfl) ?_
      refine Rg_19 fx hC dX9_heaps_98 ?_
      refine lv_iload hx hb dX9_heaps_101 (lv_at hl 6 rfl) ?_
      refine lv_aload_n hx hb dX9_heaps_103 rfl (lv_at hl 0 rfl) ?_
      refine Rg_19 fx hC dX9_heaps_104 ?_
      refine lv_iload hx hb dX9_heaps_107 (lv_at hl 6 rfl) ?_
      have h_16 := (gi_in hm).1
      replace hm := (gi_in hm).2
      refine Rl_19 fx hC h_16 dX9_heaps_109 ?_
      refine lv_iload hx hb dX9_heaps_110 (lv_at hl 4 rfl) ?_
      refine lv_icmp_eq (tgt := 127) hx hb dX9_heaps_112 (by decide) (fun c_17 => ?_) (fun c_17 => ?_)
      · replace hm := ifp hm c_17
        refine lv_iload hx hb dX9_heaps_127 (lv_at hl 4 rfl) ?_
        refine lv_iload hx hb dX9_heaps_129 (lv_at hl 5 rfl) ?_
        refine lv_icmp_ge (tgt := 139) hx hb dX9_heaps_131 (by decide) (fun c_18 => ?_) (fun c_18 => ?_)
        · replace hm := ifp hm c_18
          refine lv_iload hx hb dX9_heaps_139 (lv_at hl 5 rfl) ?_
          refine lv_goto (tgt := 151) hx hb dX9_heaps_141 (by decide) ?_
          have h_19 := (gi_in hm).1
          replace hm := (gi_in hm).2
          refine Rs_19 fx hC h_19 dX9_heaps_151 (fun H locs hC => ?_)
          obtain ⟨τ_20, e_21⟩ : ∃ z, z = (rA τ 19 (v6).toNatClampNeg p5) := ⟨_, rfl⟩
          rw [← e_21] at hC
          replace hm := nm_in hm e_21
          refine lv_iinc (v := (v6 + (1 : Int32))) (lv' := [(6, .int (v6 + (1 : Int32))), (0, .ref (q 0)), (1, .int p1), (2, .int p2), (3, .int p3), (4, .int p4), (5, .int p5)]) hx hb dX9_heaps_152 hl (k := 6) rfl rfl (by decide) rfl (fun ls hl => ?_)
          refine lv_goto (tgt := 88) hx hb dX9_heaps_155 (by decide) ?_
          rw [hrc] at hm
          exact ih _ _ hm _ _ _ hC (lv_sub hl [1, 2, 3, 4, 5, 6, 0] rfl) hx158
        · replace hm := ifn hm c_18
          refine lv_iload hx hb dX9_heaps_134 (lv_at hl 4 rfl) ?_
          refine lv_goto (tgt := 151) hx hb dX9_heaps_136 (by decide) ?_
          have h_22 := (gi_in hm).1
          replace hm := (gi_in hm).2
          refine Rs_19 fx hC h_22 dX9_heaps_151 (fun H locs hC => ?_)
          obtain ⟨τ_23, e_24⟩ : ∃ z, z = (rA τ 19 (v6).toNatClampNeg p4) := ⟨_, rfl⟩
          rw [← e_24] at hC
          replace hm := nm_in hm e_24
          refine lv_iinc (v := (v6 + (1 : Int32))) (lv' := [(6, .int (v6 + (1 : Int32))), (0, .ref (q 0)), (1, .int p1), (2, .int p2), (3, .int p3), (4, .int p4), (5, .int p5)]) hx hb dX9_heaps_152 hl (k := 6) rfl rfl (by decide) rfl (fun ls hl => ?_)
          refine lv_goto (tgt := 88) hx hb dX9_heaps_155 (by decide) ?_
          rw [hrc] at hm
          exact ih _ _ hm _ _ _ hC (lv_sub hl [1, 2, 3, 4, 5, 6, 0] rfl) hx158
      · replace hm := ifn hm c_17
        refine lv_aload_n hx hb dX9_heaps_115 rfl (lv_at hl 0 rfl) ?_
        refine Rg_19 fx hC dX9_heaps_116 ?_
        refine lv_iload hx hb dX9_heaps_119 (lv_at hl 6 rfl) ?_
        have h_25 := (gi_in hm).1
        replace hm := (gi_in hm).2
        refine Rl_19 fx hC h_25 dX9_heaps_121 ?_
        refine lv_iload hx hb dX9_heaps_122 (lv_at hl 5 rfl) ?_
        refine lv_icmp_ne (tgt := 144) hx hb dX9_heaps_124 (by decide) (fun c_26 => ?_) (fun c_26 => ?_)
        · replace hm := ifn hm c_26
          refine lv_aload_n hx hb dX9_heaps_144 rfl (lv_at hl 0 rfl) ?_
          refine Rg_19 fx hC dX9_heaps_145 ?_
          refine lv_iload hx hb dX9_heaps_148 (lv_at hl 6 rfl) ?_
          have h_27 := (gi_in hm).1
          replace hm := (gi_in hm).2
          refine Rl_19 fx hC h_27 dX9_heaps_150 ?_
          have h_28 := (gi_in hm).1
          replace hm := (gi_in hm).2
          refine Rs_19 fx hC h_28 dX9_heaps_151 (fun H locs hC => ?_)
          obtain ⟨τ_29, e_30⟩ : ∃ z, z = (rA τ 19 (v6).toNatClampNeg (τ.2 19 (v6).toNatClampNeg)) := ⟨_, rfl⟩
          rw [← e_30] at hC
          replace hm := nm_in hm e_30
          refine lv_iinc (v := (v6 + (1 : Int32))) (lv' := [(6, .int (v6 + (1 : Int32))), (0, .ref (q 0)), (1, .int p1), (2, .int p2), (3, .int p3), (4, .int p4), (5, .int p5)]) hx hb dX9_heaps_152 hl (k := 6) rfl rfl (by decide) rfl (fun ls hl => ?_)
          refine lv_goto (tgt := 88) hx hb dX9_heaps_155 (by decide) ?_
          rw [hrc] at hm
          exact ih _ _ hm _ _ _ hC (lv_sub hl [1, 2, 3, 4, 5, 6, 0] rfl) hx158
        · replace hm := ifp hm c_26
          refine lv_iload hx hb dX9_heaps_127 (lv_at hl 4 rfl) ?_
          refine lv_iload hx hb dX9_heaps_129 (lv_at hl 5 rfl) ?_
          refine lv_icmp_ge (tgt := 139) hx hb dX9_heaps_131 (by decide) (fun c_31 => ?_) (fun c_31 => ?_)
          · replace hm := ifp hm c_31
            refine lv_iload hx hb dX9_heaps_139 (lv_at hl 5 rfl) ?_
            refine lv_goto (tgt := 151) hx hb dX9_heaps_141 (by decide) ?_
            have h_32 := (gi_in hm).1
            replace hm := (gi_in hm).2
            refine Rs_19 fx hC h_32 dX9_heaps_151 (fun H locs hC => ?_)
            obtain ⟨τ_33, e_34⟩ : ∃ z, z = (rA τ 19 (v6).toNatClampNeg p5) := ⟨_, rfl⟩
            rw [← e_34] at hC
            replace hm := nm_in hm e_34
            refine lv_iinc (v := (v6 + (1 : Int32))) (lv' := [(6, .int (v6 + (1 : Int32))), (0, .ref (q 0)), (1, .int p1), (2, .int p2), (3, .int p3), (4, .int p4), (5, .int p5)]) hx hb dX9_heaps_152 hl (k := 6) rfl rfl (by decide) rfl (fun ls hl => ?_)
            refine lv_goto (tgt := 88) hx hb dX9_heaps_155 (by decide) ?_
            rw [hrc] at hm
            exact ih _ _ hm _ _ _ hC (lv_sub hl [1, 2, 3, 4, 5, 6, 0] rfl) hx158
          · replace hm := ifn hm c_31
            refine lv_iload hx hb dX9_heaps_134 (lv_at hl 4 rfl) ?_
            refine lv_goto (tgt := 151) hx hb dX9_heaps_136 (by decide) ?_
            have h_35 := (gi_in hm).1
            replace hm := (gi_in hm).2
            refine Rs_19 fx hC h_35 dX9_heaps_151 (fun H locs hC => ?_)
            obtain ⟨τ_36, e_37⟩ : ∃ z, z = (rA τ 19 (v6).toNatClampNeg p4) := ⟨_, rfl⟩
            rw [← e_37] at hC
            replace hm := nm_in hm e_37
            refine lv_iinc (v := (v6 + (1 : Int32))) (lv' := [(6, .int (v6 + (1 : Int32))), (0, .ref (q 0)), (1, .int p1), (2, .int p2), (3, .int p3), (4, .int p4), (5, .int p5)]) hx hb dX9_heaps_152 hl (k := 6) rfl rfl (by decide) rfl (fun ls hl => ?_)
            refine lv_goto (tgt := 88) hx hb dX9_heaps_155 (by decide) ?_
            rw [hrc] at hm
            exact ih _ _ hm _ _ _ hC (lv_sub hl [1, 2, 3, 4, 5, 6, 0] rfl) hx158
set_option maxRecDepth 100000 in
set_option maxHeartbeats 4000000 in
theorem Rw_heaps_30 {ρ : Type} {out : ρ} {p : Program} {l : Launch} {e : Env} {R : Room} {s : State} {m : MethodId} {args : Array Value} {below : List Frame} {meth : Method} {c : Code} {cells slots : Nat} {Q : State → Prop} {D : va_G} {cy : Nat → ClassId} {ad : List Nat} {q : Nat → Nat} {X : va_W} (fx : FX p s m args meth c cX9_heaps 7 RX9 D cy) (hR : 1 ≤ R.frames ∧ 21 ≤ R.locals) (hf : cells ≤ R.cells ∧ slots ≤ R.slots) (p1 : Int32) {kx167 : Int32 → RS → Option ρ} :
    ∀ (n : Nat) (v2 : Int32) (v3 : Int32) (τ : RS), it3 (Rs_heaps_30 p1 kx167) n v2 v3 τ = some out → ∀ (H : Heap) (locs : List Loc) (ls : Array Slot), GC D (rwd cy q X) ad s τ H locs → lv_has ls 7 [(0, .ref (q 0)), (1, .int p1), (2, .int v2), (3, .int v3)] → (∀ (u2 : Int32) (τ2 : RS) (H : Heap) (locs : List Loc) (ls : Array Slot), kx167 u2 τ2 = some out → GC D (rwd cy q X) ad s τ2 H locs → lv_has ls 7 [(2, .int u2)] → W p l e R s m args below meth c H locs cells slots Q (F0 m 167 ls [])) → W p l e R s m args below meth c H locs cells slots Q (F0 m 30 ls []) := by
  have hx := fx.1
  have hb := fx.2.1
  intro n
  induction n with
  | zero => intro v2 v3 τ hm; exact (it3_z hm).elim
  | succ n ih =>
    intro v2 v3 τ hm H locs ls hC hl hx167
    obtain ⟨rc, hrc⟩ : ∃ z, z = it3 (Rs_heaps_30 p1 kx167) n := ⟨_, rfl⟩
    replace hm : Rs_heaps_30 p1 kx167 rc v2 v3 τ = some out := by rw [hrc]; exact hm
    unfold Rs_heaps_30 at hm
    refine lv_iload_n hx hb dX9_heaps_30 rfl (lv_at hl 3 rfl) ?_
    refine lv_aload_n hx hb dX9_heaps_31 rfl (lv_at hl 0 rfl) ?_
    refine Rg_2 fx hC dX9_heaps_32 ?_
    refine lv_icmp_ge (tgt := 167) hx hb dX9_heaps_35 (by decide) (fun c_6 => ?_) (fun c_6 => ?_)
    · replace hm := ifp hm c_6
      exact hx167 _ _ _ _ _ hm hC (lv_sub hl [2] rfl)
    · replace hm := ifn hm c_6
      refine lv_aload_n hx hb dX9_heaps_38 rfl (lv_at hl 0 rfl) ?_
      refine Rg_19 fx hC dX9_heaps_39 ?_
      refine lv_aload_n hx hb dX9_heaps_42 rfl (lv_at hl 0 rfl) ?_
      refine Rg_3 fx hC dX9_heaps_43 ?_
      refine lv_iconst (v := (2 : Int32)) hx hb dX9_heaps_46 (by decide) ?_
      refine lv_iload_n hx hb dX9_heaps_47 rfl (lv_at hl 3 rfl) ?_
      refine lv_imul hx hb dX9_heaps_48 ?_
      have h_7 := (gi_in hm).1
      replace hm := (gi_in hm).2
      refine Rl_3 fx hC h_7 dX9_heaps_49 ?_
      have h_8 := (gi_in hm).1
      replace hm := (gi_in hm).2
      refine Rl_19 fx hC h_8 dX9_heaps_50 ?_
      refine lv_topi (fun x_9 ex_9 => ?_)
      replace hm := nm_in hm ex_9
      refine lv_istore (lv' := [(4, .int x_9), (0, .ref (q 0)), (1, .int p1), (2, .int v2), (3, .int v3)]) hx hb dX9_heaps_51 hl (by decide) rfl (fun ls hl => ?_)
      refine lv_aload_n hx hb dX9_heaps_53 rfl (lv_at hl 1 rfl) ?_
      refine Rg_19 fx hC dX9_heaps_54 ?_
      refine lv_aload_n hx hb dX9_heaps_57 rfl (lv_at hl 1 rfl) ?_
      refine Rg_3 fx hC dX9_heaps_58 ?_
      refine lv_iconst (v := (2 : Int32)) hx hb dX9_heaps_61 (by decide) ?_
      refine lv_iload_n hx hb dX9_heaps_62 rfl (lv_at hl 4 rfl) ?_
      refine lv_imul hx hb dX9_heaps_63 ?_
      refine lv_iconst (v := (1 : Int32)) hx hb dX9_heaps_64 (by decide) ?_
      refine lv_iadd hx hb dX9_heaps_65 ?_
      have h_10 := (gi_in hm).1
      replace hm := (gi_in hm).2
      refine Rl_3 fx hC h_10 dX9_heaps_66 ?_
      have h_11 := (gi_in hm).1
      replace hm := (gi_in hm).2
      refine Rl_19 fx hC h_11 dX9_heaps_67 ?_
      refine lv_topi (fun x_12 ex_12 => ?_)
      replace hm := nm_in hm ex_12
      refine lv_istore (lv' := [(5, .int x_12), (4, .int x_9), (0, .ref (q 0)), (1, .int p1), (2, .int v2), (3, .int v3)]) hx hb dX9_heaps_68 hl (by decide) rfl (fun ls hl => ?_)
      refine lv_iload_n hx hb dX9_heaps_70 rfl (lv_at hl 3 rfl) ?_
      refine lv_iload_n hx hb dX9_heaps_71 rfl (lv_at hl 5 rfl) ?_
      refine g_callSi (As := [.int p1, .int v3]) (rest := []) fx hC rw_w (Rc_holds l rw_w τ p1 v3) k_323 Rk_holds Rh_holds ⟨rfl, rfl⟩ ⟨Nat.le_trans (Nat.le_of_ble_eq_true rfl) hR.1, Nat.le_trans (Nat.le_of_ble_eq_true rfl) hR.2⟩ hf rfl hl.1 rfl (Nat.le_of_ble_eq_true rfl) dX9_heaps_72 (fun H locs hC => ?_)
      refine lv_if_eq (tgt := 161) hx hb dX9_heaps_75 (by decide) (fun c_13 => ?_) (fun c_13 => ?_)
      · replace hm := ifp hm c_13
        refine lv_iinc (v := (v3 + (1 : Int32))) (lv' := [(3, .int (v3 + (1 : Int32))), (5, .int x_12), (4, .int x_9), (0, .ref (q 0)), (1, .int p1), (2, .int v2)]) hx hb dX9_heaps_161 hl (k := 5) rfl rfl (by decide) rfl (fun ls hl => ?_)
        refine lv_goto (tgt := 30) hx hb dX9_heaps_164 (by decide) ?_
        rw [hrc] at hm
        exact ih _ _ _ hm _ _ _ hC (lv_sub hl [3, 4, 5, 0] rfl) hx167
      · replace hm := ifn hm c_13
        refine lv_iload hx hb dX9_heaps_78 (lv_at hl 1 rfl) ?_
        refine lv_iload hx hb dX9_heaps_80 (lv_at hl 0 rfl) ?_
        refine lv_icmp_eq (tgt := 161) hx hb dX9_heaps_82 (by decide) (fun c_14 => ?_) (fun c_14 => ?_)
        · replace hm := ifp hm c_14
          refine lv_iinc (v := (v3 + (1 : Int32))) (lv' := [(3, .int (v3 + (1 : Int32))), (5, .int x_12), (4, .int x_9), (0, .ref (q 0)), (1, .int p1), (2, .int v2)]) hx hb dX9_heaps_161 hl (k := 5) rfl rfl (by decide) rfl (fun ls hl => ?_)
          refine lv_goto (tgt := 30) hx hb dX9_heaps_164 (by decide) ?_
          rw [hrc] at hm
          exact ih _ _ _ hm _ _ _ hC (lv_sub hl [3, 4, 5, 0] rfl) hx167
        · replace hm := ifn hm c_14
          refine lv_iconst (v := (0 : Int32)) hx hb dX9_heaps_85 (by decide) ?_
          refine lv_istore (lv' := [(6, .int (0 : Int32)), (5, .int x_12), (4, .int x_9), (0, .ref (q 0)), (1, .int p1), (2, .int v2), (3, .int v3)]) hx hb dX9_heaps_86 hl (by decide) rfl (fun ls hl => ?_)
          refine Rw_heaps_88 fx hR hf p1 v2 v3 x_9 x_12 fuel (0 : Int32) τ hm _ _ _ hC (lv_sub hl [3, 4, 5, 6, 2, 1, 0] rfl) (fun τ_38 H locs ls hm hC hl => ?_)
          refine lv_iinc (v := (v2 + (-1 : Int32))) (lv' := [(2, .int (v2 + (-1 : Int32))), (0, .ref (q 0)), (1, .int p1), (3, .int v3)]) hx hb dX9_heaps_158 hl (k := 2) rfl rfl (by decide) rfl (fun ls hl => ?_)
          refine lv_iinc (v := (v3 + (1 : Int32))) (lv' := [(3, .int (v3 + (1 : Int32))), (2, .int (v2 + (-1 : Int32))), (0, .ref (q 0)), (1, .int p1)]) hx hb dX9_heaps_161 hl (k := 3) rfl rfl (by decide) rfl (fun ls hl => ?_)
          refine lv_goto (tgt := 30) hx hb dX9_heaps_164 (by decide) ?_
          rw [hrc] at hm
          exact ih _ _ _ hm _ _ _ hC (lv_sub hl [2, 3, 1, 0] rfl) hx167
set_option maxRecDepth 100000 in
set_option maxHeartbeats 4000000 in
theorem Rc_heaps (l : Launch) {D : va_G} {cy : Nat → ClassId} {ad : List Nat} {q : Nat → Nat} {X : va_W} (τ : RS) (a1 : Int32) {o : Int32 × RS} (hm : Rm_heaps τ a1 = some o) : GM l yX9_heaps cX9_heaps 7 (some .int) Rrm_heaps D cy (rwd cy q X) ad [.ref (q 0), .int a1] τ (some (.int o.1)) o.2 := by
  refine g_start RX9 rfl (by decide) (Nat.le_of_ble_eq_true rfl) ?_
  intro p e s m args below meth c fx hr hC ls hl
  have hx := fx.1
  have hb := fx.2.1
  have hR : 1 ≤ (Rrm_heaps).frames ∧ 21 ≤ (Rrm_heaps).locals := ⟨Nat.le_refl _, Nat.le_refl _⟩
  have hf : 0 ≤ (Rrm_heaps).cells ∧ 0 ≤ (Rrm_heaps).slots := ⟨Nat.zero_le _, Nat.zero_le _⟩
  have hl : lv_has ls 7 [(0, .ref (q 0)), (1, .int a1)] := hl
  unfold Rm_heaps at hm
  refine lv_iconst (v := (0 : Int32)) hx hb dX9_heaps_0 (by decide) ?_
  refine lv_istore_n (lv' := [(2, .int (0 : Int32)), (0, .ref (q 0)), (1, .int a1)]) hx hb dX9_heaps_1 rfl hl (by decide) rfl (fun ls hl => ?_)
  refine Rw_heaps_2 fx hR hf a1 fuel (0 : Int32) τ hm _ _ _ hC (lv_sub hl [1, 2, 0] rfl) (fun τ_5 H locs ls hm hC hl => ?_)
  refine lv_aload_n hx hb dX9_heaps_23 rfl (lv_at hl 0 rfl) ?_
  refine Rg_0 fx hC dX9_heaps_24 ?_
  refine lv_istore_n (lv' := [(2, .int (τ_5.1 0)), (0, .ref (q 0)), (1, .int a1)]) hx hb dX9_heaps_27 rfl hl (by decide) rfl (fun ls hl => ?_)
  refine lv_iconst (v := (0 : Int32)) hx hb dX9_heaps_28 (by decide) ?_
  refine lv_istore_n (lv' := [(3, .int (0 : Int32)), (2, .int (τ_5.1 0)), (0, .ref (q 0)), (1, .int a1)]) hx hb dX9_heaps_29 rfl hl (by decide) rfl (fun ls hl => ?_)
  refine Rw_heaps_30 fx hR hf a1 fuel (τ_5.1 0) (0 : Int32) τ_5 hm _ _ _ hC (lv_sub hl [2, 3, 1, 0] rfl) (fun u_39 τ_40 H locs ls hm hC hl => ?_)
  refine lv_iload_n hx hb dX9_heaps_167 rfl (lv_at hl 0 rfl) ?_
  cases hm
  exact g_iret fx hr hC rfl dX9_heaps_168
def Rm_hasRing (τ : RS) (a1 : Int32) : Option (Int32 × RS) :=
  b2 (Rm_heaps τ a1) (fun r_2 τ_3 => b1 (Rm_bits a1) (fun r_5 => if ((τ.1 0) - r_2) = r_5 then (some ((0 : Int32), τ_3)) else (some ((1 : Int32), τ_3))))
abbrev Rrm_hasRing : Room := { frames := 2, cells := 0, slots := 0, locals := 47 }
set_option maxRecDepth 100000 in
set_option maxHeartbeats 4000000 in
theorem Rc_hasRing (l : Launch) {D : va_G} {cy : Nat → ClassId} {ad : List Nat} {q : Nat → Nat} {X : va_W} (τ : RS) (a1 : Int32) {o : Int32 × RS} (hm : Rm_hasRing τ a1 = some o) : GM l yX9_hasRing cX9_hasRing 2 (some .boolean) Rrm_hasRing D cy (rwd cy q X) ad [.ref (q 0), .int a1] τ (some (.int o.1)) o.2 := by
  refine g_start RX9 rfl (by decide) (Nat.le_of_ble_eq_true rfl) ?_
  intro p e s m args below meth c fx hr hC ls hl
  have hx := fx.1
  have hb := fx.2.1
  have hR : 2 ≤ (Rrm_hasRing).frames ∧ 47 ≤ (Rrm_hasRing).locals := ⟨Nat.le_refl _, Nat.le_refl _⟩
  have hf : 0 ≤ (Rrm_hasRing).cells ∧ 0 ≤ (Rrm_hasRing).slots := ⟨Nat.zero_le _, Nat.zero_le _⟩
  have hl : lv_has ls 2 [(0, .ref (q 0)), (1, .int a1)] := hl
  unfold Rm_hasRing at hm
  refine lv_aload_n hx hb dX9_hasRing_0 rfl (lv_at hl 0 rfl) ?_
  refine Rg_0 fx hC dX9_hasRing_1 ?_
  refine lv_aload_n hx hb dX9_hasRing_4 rfl (lv_at hl 0 rfl) ?_
  refine lv_iload_n hx hb dX9_hasRing_5 rfl (lv_at hl 1 rfl) ?_
  obtain ⟨r_2, τ_3, e_1, hm⟩ := b2_in hm
  refine g_callVi (k0 := 0) (ci := 9) (As := [.int a1]) (rest := [.int (τ.1 0)]) fx hC rw_w (Rc_heaps l τ a1 e_1) k_326 Rk_heaps Rh_heaps rfl rfl rfl ⟨rfl, rfl⟩ ⟨Nat.le_trans (Nat.le_of_ble_eq_true rfl) hR.1, Nat.le_trans (Nat.le_of_ble_eq_true rfl) hR.2⟩ hf rfl hl.1 rfl (Nat.le_of_ble_eq_true rfl) dX9_hasRing_6 (fun H locs hC => ?_)
  refine lv_isub hx hb dX9_hasRing_9 ?_
  refine lv_iload_n hx hb dX9_hasRing_10 rfl (lv_at hl 1 rfl) ?_
  obtain ⟨r_5, e_4, hm⟩ := b1_in hm
  refine g_callSi (As := [.int a1]) (rest := [.int ((τ.1 0) - r_2)]) fx hC rw_w (Rc_bits l rw_w τ_3 a1 e_4) k_391 Rk_bits Rh_bits ⟨rfl, rfl⟩ ⟨Nat.le_trans (Nat.le_of_ble_eq_true rfl) hR.1, Nat.le_trans (Nat.le_of_ble_eq_true rfl) hR.2⟩ hf rfl hl.1 rfl (Nat.le_of_ble_eq_true rfl) dX9_hasRing_11 (fun H locs hC => ?_)
  refine lv_icmp_eq (tgt := 21) hx hb dX9_hasRing_14 (by decide) (fun c_6 => ?_) (fun c_6 => ?_)
  · replace hm := ifp hm c_6
    refine lv_iconst (v := (0 : Int32)) hx hb dX9_hasRing_21 (by decide) ?_
    cases hm
    exact g_zret fx hr rfl hC rfl dX9_hasRing_22
  · replace hm := ifn hm c_6
    refine lv_iconst (v := (1 : Int32)) hx hb dX9_hasRing_17 (by decide) ?_
    refine lv_goto (tgt := 22) hx hb dX9_hasRing_18 (by decide) ?_
    cases hm
    exact g_zret fx hr rfl hC rfl dX9_hasRing_22
def Rs_sumOf_4 {ρ : Type} (p1 : Int32) (τ : RS) (kx39 : Int32 → Option ρ) (rc : Int32 → Int32 → Option ρ) (v2 : Int32) (v3 : Int32) : Option ρ :=
  if (τ.1 2) ≤ v3 then (kx39 v2) else (if (Rm_holds p1 v3) = (0 : Int32) then (rc (v2 + (0 : Int32)) (v3 + (1 : Int32))) else (gi v3 12 (rc (v2 + (τ.2 4 (v3).toNatClampNeg)) (v3 + (1 : Int32)))))
def Rm_sumOf (τ : RS) (a1 : Int32) : Option Int32 :=
  it2 (Rs_sumOf_4 a1 τ (fun u_4 => some u_4)) fuel (0 : Int32) (0 : Int32)
abbrev Rrm_sumOf : Room := { frames := 1, cells := 0, slots := 0, locals := 21 }
set_option maxRecDepth 100000 in
set_option maxHeartbeats 4000000 in
theorem Rw_sumOf_4 {ρ : Type} {out : ρ} {p : Program} {l : Launch} {e : Env} {R : Room} {s : State} {m : MethodId} {args : Array Value} {below : List Frame} {meth : Method} {c : Code} {cells slots : Nat} {Q : State → Prop} {D : va_G} {cy : Nat → ClassId} {ad : List Nat} {q : Nat → Nat} {X : va_W} (τ : RS) (fx : FX p s m args meth c cX9_sumOf 4 RX9 D cy) (hR : 1 ≤ R.frames ∧ 21 ≤ R.locals) (hf : cells ≤ R.cells ∧ slots ≤ R.slots) (p1 : Int32) {kx39 : Int32 → Option ρ} :
    ∀ (n : Nat) (v2 : Int32) (v3 : Int32), it2 (Rs_sumOf_4 p1 τ kx39) n v2 v3 = some out → ∀ (H : Heap) (locs : List Loc) (ls : Array Slot), GC D (rwd cy q X) ad s τ H locs → lv_has ls 4 [(0, .ref (q 0)), (1, .int p1), (2, .int v2), (3, .int v3)] → (∀ (u2 : Int32) (H : Heap) (locs : List Loc) (ls : Array Slot), kx39 u2 = some out → GC D (rwd cy q X) ad s τ H locs → lv_has ls 4 [(2, .int u2)] → W p l e R s m args below meth c H locs cells slots Q (F0 m 39 ls [])) → W p l e R s m args below meth c H locs cells slots Q (F0 m 4 ls []) := by
  have hx := fx.1
  have hb := fx.2.1
  intro n
  induction n with
  | zero => intro v2 v3 hm; exact (it2_z hm).elim
  | succ n ih =>
    intro v2 v3 hm H locs ls hC hl hx39
    obtain ⟨rc, hrc⟩ : ∃ z, z = it2 (Rs_sumOf_4 p1 τ kx39) n := ⟨_, rfl⟩
    replace hm : Rs_sumOf_4 p1 τ kx39 rc v2 v3 = some out := by rw [hrc]; exact hm
    unfold Rs_sumOf_4 at hm
    refine lv_iload_n hx hb dX9_sumOf_4 rfl (lv_at hl 3 rfl) ?_
    refine lv_aload_n hx hb dX9_sumOf_5 rfl (lv_at hl 0 rfl) ?_
    refine Rg_2 fx hC dX9_sumOf_6 ?_
    refine lv_icmp_ge (tgt := 39) hx hb dX9_sumOf_9 (by decide) (fun c_1 => ?_) (fun c_1 => ?_)
    · replace hm := ifp hm c_1
      exact hx39 _ _ _ _ hm hC (lv_sub hl [2] rfl)
    · replace hm := ifn hm c_1
      refine lv_iload_n hx hb dX9_sumOf_12 rfl (lv_at hl 2 rfl) ?_
      refine lv_iload_n hx hb dX9_sumOf_13 rfl (lv_at hl 1 rfl) ?_
      refine lv_iload_n hx hb dX9_sumOf_14 rfl (lv_at hl 3 rfl) ?_
      refine g_callSi (As := [.int p1, .int v3]) (rest := [.int v2]) fx hC rw_w (Rc_holds l rw_w τ p1 v3) k_323 Rk_holds Rh_holds ⟨rfl, rfl⟩ ⟨Nat.le_trans (Nat.le_of_ble_eq_true rfl) hR.1, Nat.le_trans (Nat.le_of_ble_eq_true rfl) hR.2⟩ hf rfl hl.1 rfl (Nat.le_of_ble_eq_true rfl) dX9_sumOf_15 (fun H locs hC => ?_)
      refine lv_if_eq (tgt := 30) hx hb dX9_sumOf_18 (by decide) (fun c_2 => ?_) (fun c_2 => ?_)
      · replace hm := ifp hm c_2
        refine lv_iconst (v := (0 : Int32)) hx hb dX9_sumOf_30 (by decide) ?_
        refine lv_iadd hx hb dX9_sumOf_31 ?_
        refine lv_istore_n (lv' := [(2, .int (v2 + (0 : Int32))), (0, .ref (q 0)), (1, .int p1), (3, .int v3)]) hx hb dX9_sumOf_32 rfl hl (by decide) rfl (fun ls hl => ?_)
        refine lv_iinc (v := (v3 + (1 : Int32))) (lv' := [(3, .int (v3 + (1 : Int32))), (2, .int (v2 + (0 : Int32))), (0, .ref (q 0)), (1, .int p1)]) hx hb dX9_sumOf_33 hl (k := 3) rfl rfl (by decide) rfl (fun ls hl => ?_)
        refine lv_goto (tgt := 4) hx hb dX9_sumOf_36 (by decide) ?_
        rw [hrc] at hm
        exact ih _ _ hm _ _ _ hC (lv_sub hl [2, 3, 1, 0] rfl) hx39
      · replace hm := ifn hm c_2
        refine lv_aload_n hx hb dX9_sumOf_21 rfl (lv_at hl 0 rfl) ?_
        refine Rg_4 fx hC dX9_sumOf_22 ?_
        refine lv_iload_n hx hb dX9_sumOf_25 rfl (lv_at hl 3 rfl) ?_
        have h_3 := (gi_in hm).1
        replace hm := (gi_in hm).2
        refine Rl_4 fx hC h_3 dX9_sumOf_26 ?_
        refine lv_goto (tgt := 31) hx hb dX9_sumOf_27 (by decide) ?_
        refine lv_iadd hx hb dX9_sumOf_31 ?_
        refine lv_istore_n (lv' := [(2, .int (v2 + (τ.2 4 (v3).toNatClampNeg))), (0, .ref (q 0)), (1, .int p1), (3, .int v3)]) hx hb dX9_sumOf_32 rfl hl (by decide) rfl (fun ls hl => ?_)
        refine lv_iinc (v := (v3 + (1 : Int32))) (lv' := [(3, .int (v3 + (1 : Int32))), (2, .int (v2 + (τ.2 4 (v3).toNatClampNeg))), (0, .ref (q 0)), (1, .int p1)]) hx hb dX9_sumOf_33 hl (k := 3) rfl rfl (by decide) rfl (fun ls hl => ?_)
        refine lv_goto (tgt := 4) hx hb dX9_sumOf_36 (by decide) ?_
        rw [hrc] at hm
        exact ih _ _ hm _ _ _ hC (lv_sub hl [2, 3, 1, 0] rfl) hx39
set_option maxRecDepth 100000 in
set_option maxHeartbeats 4000000 in
theorem Rc_sumOf (l : Launch) {D : va_G} {cy : Nat → ClassId} {ad : List Nat} {q : Nat → Nat} {X : va_W} (τ : RS) (a1 : Int32) {o : Int32} (hm : Rm_sumOf τ a1 = some o) : GM l yX9_sumOf cX9_sumOf 4 (some .int) Rrm_sumOf D cy (rwd cy q X) ad [.ref (q 0), .int a1] τ (some (.int o)) τ := by
  refine g_start RX9 rfl (by decide) (Nat.le_of_ble_eq_true rfl) ?_
  intro p e s m args below meth c fx hr hC ls hl
  have hx := fx.1
  have hb := fx.2.1
  have hR : 1 ≤ (Rrm_sumOf).frames ∧ 21 ≤ (Rrm_sumOf).locals := ⟨Nat.le_refl _, Nat.le_refl _⟩
  have hf : 0 ≤ (Rrm_sumOf).cells ∧ 0 ≤ (Rrm_sumOf).slots := ⟨Nat.zero_le _, Nat.zero_le _⟩
  have hl : lv_has ls 4 [(0, .ref (q 0)), (1, .int a1)] := hl
  unfold Rm_sumOf at hm
  refine lv_iconst (v := (0 : Int32)) hx hb dX9_sumOf_0 (by decide) ?_
  refine lv_istore_n (lv' := [(2, .int (0 : Int32)), (0, .ref (q 0)), (1, .int a1)]) hx hb dX9_sumOf_1 rfl hl (by decide) rfl (fun ls hl => ?_)
  refine lv_iconst (v := (0 : Int32)) hx hb dX9_sumOf_2 (by decide) ?_
  refine lv_istore_n (lv' := [(3, .int (0 : Int32)), (2, .int (0 : Int32)), (0, .ref (q 0)), (1, .int a1)]) hx hb dX9_sumOf_3 rfl hl (by decide) rfl (fun ls hl => ?_)
  refine Rw_sumOf_4 τ fx hR hf a1 fuel (0 : Int32) (0 : Int32) hm _ _ _ hC (lv_sub hl [2, 3, 1, 0] rfl) (fun u_4 H locs ls hm hC hl => ?_)
  refine lv_iload_n hx hb dX9_sumOf_39 rfl (lv_at hl 0 rfl) ?_
  cases hm
  exact g_iret fx hr hC rfl dX9_sumOf_40
def Rm_put (τ : RS) (a1 : Int32) (a2 : Int32) : Option RS :=
  gi (((4096 : Int32) * (τ.1 6)) + a1) 122880 (nm (rA τ 8 ((((4096 : Int32) * (τ.1 6)) + a1)).toNatClampNeg (a2 &&& 1)) (fun τ_2 => some τ_2))
abbrev Rrm_put : Room := { frames := 0, cells := 0, slots := 0, locals := 0 }
set_option maxRecDepth 100000 in
set_option maxHeartbeats 4000000 in
theorem Rc_put (l : Launch) {D : va_G} {cy : Nat → ClassId} {ad : List Nat} {q : Nat → Nat} {X : va_W} (τ : RS) (a1 : Int32) (a2 : Int32) {o : RS} (hm : Rm_put τ a1 a2 = some o) : GM l yX9_put cX9_put 3 none Rrm_put D cy (rwd cy q X) ad [.ref (q 0), .int a1, .int a2] τ none o := by
  refine g_start RX9 rfl (by decide) (Nat.le_of_ble_eq_true rfl) ?_
  intro p e s m args below meth c fx hr hC ls hl
  have hx := fx.1
  have hb := fx.2.1
  have hR : 0 ≤ (Rrm_put).frames ∧ 0 ≤ (Rrm_put).locals := ⟨Nat.le_refl _, Nat.le_refl _⟩
  have hf : 0 ≤ (Rrm_put).cells ∧ 0 ≤ (Rrm_put).slots := ⟨Nat.zero_le _, Nat.zero_le _⟩
  have hl : lv_has ls 3 [(0, .ref (q 0)), (1, .int a1), (2, .int a2)] := hl
  unfold Rm_put at hm
  refine lv_aload_n hx hb dX9_put_0 rfl (lv_at hl 0 rfl) ?_
  refine Rg_8 fx hC dX9_put_1 ?_
  refine lv_sipush (v := (4096 : Int32)) hx hb dX9_put_4 (by decide) ?_
  refine lv_aload_n hx hb dX9_put_7 rfl (lv_at hl 0 rfl) ?_
  refine Rg_6 fx hC dX9_put_8 ?_
  refine lv_imul hx hb dX9_put_11 ?_
  refine lv_iload_n hx hb dX9_put_12 rfl (lv_at hl 1 rfl) ?_
  refine lv_iadd hx hb dX9_put_13 ?_
  refine lv_iload_n hx hb dX9_put_14 rfl (lv_at hl 2 rfl) ?_
  have h_1 := (gi_in hm).1
  replace hm := (gi_in hm).2
  refine Rs_8 fx hC h_1 dX9_put_15 (fun H locs hC => ?_)
  obtain ⟨τ_2, e_3⟩ : ∃ z, z = (rA τ 8 ((((4096 : Int32) * (τ.1 6)) + a1)).toNatClampNeg (a2 &&& 1)) := ⟨_, rfl⟩
  rw [← e_3] at hC
  replace hm := nm_in hm e_3
  cases hm
  exact g_vret fx hr hC rfl dX9_put_16
def Rm_made (τ : RS) (a1 : Int32) : Option (Int32 × RS) :=
  if (τ.1 6) = (30 : Int32) then (some ((-4 : Int32), τ)) else (gi (τ.1 6) 30 (nm (rA τ 7 ((τ.1 6)).toNatClampNeg a1) (fun τ_3 => nm (rS τ_3 6 ((τ_3.1 6) + (1 : Int32))) (fun τ_5 => some (((τ_5.1 6) - (1 : Int32)), τ_5)))))
abbrev Rrm_made : Room := { frames := 0, cells := 0, slots := 0, locals := 0 }
set_option maxRecDepth 100000 in
set_option maxHeartbeats 4000000 in
theorem Rc_made (l : Launch) {D : va_G} {cy : Nat → ClassId} {ad : List Nat} {q : Nat → Nat} {X : va_W} (τ : RS) (a1 : Int32) {o : Int32 × RS} (hm : Rm_made τ a1 = some o) : GM l yX9_made cX9_made 2 (some .int) Rrm_made D cy (rwd cy q X) ad [.ref (q 0), .int a1] τ (some (.int o.1)) o.2 := by
  refine g_start RX9 rfl (by decide) (Nat.le_of_ble_eq_true rfl) ?_
  intro p e s m args below meth c fx hr hC ls hl
  have hx := fx.1
  have hb := fx.2.1
  have hR : 0 ≤ (Rrm_made).frames ∧ 0 ≤ (Rrm_made).locals := ⟨Nat.le_refl _, Nat.le_refl _⟩
  have hf : 0 ≤ (Rrm_made).cells ∧ 0 ≤ (Rrm_made).slots := ⟨Nat.zero_le _, Nat.zero_le _⟩
  have hl : lv_has ls 2 [(0, .ref (q 0)), (1, .int a1)] := hl
  unfold Rm_made at hm
  refine lv_aload_n hx hb dX9_made_0 rfl (lv_at hl 0 rfl) ?_
  refine Rg_6 fx hC dX9_made_1 ?_
  refine lv_bipush (v := (30 : Int32)) hx hb dX9_made_4 (by decide) ?_
  refine lv_icmp_ne (tgt := 12) hx hb dX9_made_6 (by decide) (fun c_1 => ?_) (fun c_1 => ?_)
  · replace hm := ifn hm c_1
    refine lv_aload_n hx hb dX9_made_12 rfl (lv_at hl 0 rfl) ?_
    refine Rg_7 fx hC dX9_made_13 ?_
    refine lv_aload_n hx hb dX9_made_16 rfl (lv_at hl 0 rfl) ?_
    refine Rg_6 fx hC dX9_made_17 ?_
    refine lv_iload_n hx hb dX9_made_20 rfl (lv_at hl 1 rfl) ?_
    have h_2 := (gi_in hm).1
    replace hm := (gi_in hm).2
    refine Rs_7 fx hC h_2 dX9_made_21 (fun H locs hC => ?_)
    obtain ⟨τ_3, e_4⟩ : ∃ z, z = (rA τ 7 ((τ.1 6)).toNatClampNeg a1) := ⟨_, rfl⟩
    rw [← e_4] at hC
    replace hm := nm_in hm e_4
    refine lv_aload_n hx hb dX9_made_22 rfl (lv_at hl 0 rfl) ?_
    refine lv_dup hx hb dX9_made_23 rfl ?_
    refine Rg_6 fx hC dX9_made_24 ?_
    refine lv_iconst (v := (1 : Int32)) hx hb dX9_made_27 (by decide) ?_
    refine lv_iadd hx hb dX9_made_28 ?_
    refine Rp_6 fx hC dX9_made_29 (fun H locs hC => ?_)
    obtain ⟨τ_5, e_6⟩ : ∃ z, z = (rS τ_3 6 ((τ_3.1 6) + (1 : Int32))) := ⟨_, rfl⟩
    rw [← e_6] at hC
    replace hm := nm_in hm e_6
    refine lv_aload_n hx hb dX9_made_32 rfl (lv_at hl 0 rfl) ?_
    refine Rg_6 fx hC dX9_made_33 ?_
    refine lv_iconst (v := (1 : Int32)) hx hb dX9_made_36 (by decide) ?_
    refine lv_isub hx hb dX9_made_37 ?_
    cases hm
    exact g_iret fx hr hC rfl dX9_made_38
  · replace hm := ifp hm c_1
    refine lv_bipush (v := (-4 : Int32)) hx hb dX9_made_9 (by decide) ?_
    cases hm
    exact g_iret fx hr hC rfl dX9_made_11
def Rm_net (τ : RS) : Int32 :=
  ((1 : Int32) <<< ((τ.1 2) &&& 31))
abbrev Rrm_net : Room := { frames := 0, cells := 0, slots := 0, locals := 0 }
set_option maxRecDepth 100000 in
set_option maxHeartbeats 4000000 in
theorem Rc_net (l : Launch) {D : va_G} {cy : Nat → ClassId} {ad : List Nat} {q : Nat → Nat} {X : va_W} (τ : RS) : GM l yX9_net cX9_net 1 (some .int) Rrm_net D cy (rwd cy q X) ad [.ref (q 0)] τ (some (.int (Rm_net τ))) τ := by
  refine g_start RX9 rfl (by decide) (Nat.le_of_ble_eq_true rfl) ?_
  intro p e s m args below meth c fx hr hC ls hl
  have hx := fx.1
  have hb := fx.2.1
  have hR : 0 ≤ (Rrm_net).frames ∧ 0 ≤ (Rrm_net).locals := ⟨Nat.le_refl _, Nat.le_refl _⟩
  have hf : 0 ≤ (Rrm_net).cells ∧ 0 ≤ (Rrm_net).slots := ⟨Nat.zero_le _, Nat.zero_le _⟩
  have hl : lv_has ls 1 [(0, .ref (q 0))] := hl
  obtain ⟨o, hm⟩ : ∃ z, z = Rm_net τ := ⟨_, rfl⟩
  rw [← hm]
  replace hm := hm.symm
  unfold Rm_net at hm
  refine lv_iconst (v := (1 : Int32)) hx hb dX9_net_0 (by decide) ?_
  refine lv_aload_n hx hb dX9_net_1 rfl (lv_at hl 0 rfl) ?_
  refine Rg_2 fx hC dX9_net_2 ?_
  refine lv_ishl hx hb dX9_net_5 ?_
  exact g_iret fx hr hC (by rw [← hm]) dX9_net_6
def Rs_tell_18 {ρ : Type} (p1 : Int32) (kx55 : RS → Option ρ) (rc : Int32 → RS → Option ρ) (v2 : Int32) (τ : RS) : Option ρ :=
  if (4096 : Int32) ≤ v2 then (kx55  τ) else (if (30 : Int32) ≤ (τ.1 6) then (kx55  τ) else (if v2 = p1 then (b1 (Rm_put τ v2 (1 : Int32)) (fun τ_9 => rc (v2 + (1 : Int32)) τ_9)) else (b1 (Rm_put τ v2 (0 : Int32)) (fun τ_7 => rc (v2 + (1 : Int32)) τ_7))))
def Rm_tell (τ : RS) (a1 : Int32) : Option (Int32 × RS) :=
  if a1 < (-1 : Int32) then (some ((-2 : Int32), τ)) else (if a1 < (Rm_net τ) then (it2 (Rs_tell_18 a1 (fun τ_10 => b2 (Rm_made τ_10 (0 : Int32)) (fun r_12 τ_13 => some (r_12, τ_13)))) fuel (0 : Int32) τ) else (some ((-2 : Int32), τ)))
abbrev Rrm_tell : Room := { frames := 1, cells := 0, slots := 0, locals := 22 }
set_option maxRecDepth 100000 in
set_option maxHeartbeats 4000000 in
theorem Rw_tell_18 {ρ : Type} {out : ρ} {p : Program} {l : Launch} {e : Env} {R : Room} {s : State} {m : MethodId} {args : Array Value} {below : List Frame} {meth : Method} {c : Code} {cells slots : Nat} {Q : State → Prop} {D : va_G} {cy : Nat → ClassId} {ad : List Nat} {q : Nat → Nat} {X : va_W} (fx : FX p s m args meth c cX9_tell 3 RX9 D cy) (hR : 1 ≤ R.frames ∧ 22 ≤ R.locals) (hf : cells ≤ R.cells ∧ slots ≤ R.slots) (p1 : Int32) {kx55 : RS → Option ρ} :
    ∀ (n : Nat) (v2 : Int32) (τ : RS), it2 (Rs_tell_18 p1 kx55) n v2 τ = some out → ∀ (H : Heap) (locs : List Loc) (ls : Array Slot), GC D (rwd cy q X) ad s τ H locs → lv_has ls 3 [(0, .ref (q 0)), (1, .int p1), (2, .int v2)] → (∀ (τ2 : RS) (H : Heap) (locs : List Loc) (ls : Array Slot), kx55 τ2 = some out → GC D (rwd cy q X) ad s τ2 H locs → lv_has ls 3 [(0, .ref (q 0))] → W p l e R s m args below meth c H locs cells slots Q (F0 m 55 ls [])) → W p l e R s m args below meth c H locs cells slots Q (F0 m 18 ls []) := by
  have hx := fx.1
  have hb := fx.2.1
  intro n
  induction n with
  | zero => intro v2 τ hm; exact (it2_z hm).elim
  | succ n ih =>
    intro v2 τ hm H locs ls hC hl hx55
    obtain ⟨rc, hrc⟩ : ∃ z, z = it2 (Rs_tell_18 p1 kx55) n := ⟨_, rfl⟩
    replace hm : Rs_tell_18 p1 kx55 rc v2 τ = some out := by rw [hrc]; exact hm
    unfold Rs_tell_18 at hm
    refine lv_iload_n hx hb dX9_tell_18 rfl (lv_at hl 2 rfl) ?_
    refine lv_sipush (v := (4096 : Int32)) hx hb dX9_tell_19 (by decide) ?_
    refine lv_icmp_ge (tgt := 55) hx hb dX9_tell_22 (by decide) (fun c_3 => ?_) (fun c_3 => ?_)
    · replace hm := ifp hm c_3
      exact hx55 _ _ _ _ hm hC (lv_sub hl [0] rfl)
    · replace hm := ifn hm c_3
      refine lv_aload_n hx hb dX9_tell_25 rfl (lv_at hl 0 rfl) ?_
      refine Rg_6 fx hC dX9_tell_26 ?_
      refine lv_bipush (v := (30 : Int32)) hx hb dX9_tell_29 (by decide) ?_
      refine lv_icmp_ge (tgt := 55) hx hb dX9_tell_31 (by decide) (fun c_4 => ?_) (fun c_4 => ?_)
      · replace hm := ifp hm c_4
        exact hx55 _ _ _ _ hm hC (lv_sub hl [0] rfl)
      · replace hm := ifn hm c_4
        refine lv_aload_n hx hb dX9_tell_34 rfl (lv_at hl 0 rfl) ?_
        refine lv_iload_n hx hb dX9_tell_35 rfl (lv_at hl 2 rfl) ?_
        refine lv_iload_n hx hb dX9_tell_36 rfl (lv_at hl 2 rfl) ?_
        refine lv_iload_n hx hb dX9_tell_37 rfl (lv_at hl 1 rfl) ?_
        refine lv_icmp_ne (tgt := 45) hx hb dX9_tell_38 (by decide) (fun c_5 => ?_) (fun c_5 => ?_)
        · replace hm := ifn hm c_5
          refine lv_iconst (v := (0 : Int32)) hx hb dX9_tell_45 (by decide) ?_
          obtain ⟨τ_7, e_6, hm⟩ := b1_in hm
          refine g_callVv (k0 := 0) (ci := 9) (As := [.int v2, .int (0 : Int32)]) (rest := []) fx hC rw_w (Rc_put l τ v2 (0 : Int32) e_6) k_237 Rk_put Rh_put rfl rfl rfl ⟨rfl, rfl⟩ ⟨Nat.le_trans (Nat.le_of_ble_eq_true rfl) hR.1, Nat.le_trans (Nat.le_of_ble_eq_true rfl) hR.2⟩ hf rfl hl.1 rfl (Nat.le_of_ble_eq_true rfl) dX9_tell_46 (fun H locs hC => ?_)
          refine lv_iinc (v := (v2 + (1 : Int32))) (lv' := [(2, .int (v2 + (1 : Int32))), (0, .ref (q 0)), (1, .int p1)]) hx hb dX9_tell_49 hl (k := 2) rfl rfl (by decide) rfl (fun ls hl => ?_)
          refine lv_goto (tgt := 18) hx hb dX9_tell_52 (by decide) ?_
          rw [hrc] at hm
          exact ih _ _ hm _ _ _ hC (lv_sub hl [1, 2, 0] rfl) hx55
        · replace hm := ifp hm c_5
          refine lv_iconst (v := (1 : Int32)) hx hb dX9_tell_41 (by decide) ?_
          refine lv_goto (tgt := 46) hx hb dX9_tell_42 (by decide) ?_
          obtain ⟨τ_9, e_8, hm⟩ := b1_in hm
          refine g_callVv (k0 := 0) (ci := 9) (As := [.int v2, .int (1 : Int32)]) (rest := []) fx hC rw_w (Rc_put l τ v2 (1 : Int32) e_8) k_237 Rk_put Rh_put rfl rfl rfl ⟨rfl, rfl⟩ ⟨Nat.le_trans (Nat.le_of_ble_eq_true rfl) hR.1, Nat.le_trans (Nat.le_of_ble_eq_true rfl) hR.2⟩ hf rfl hl.1 rfl (Nat.le_of_ble_eq_true rfl) dX9_tell_46 (fun H locs hC => ?_)
          refine lv_iinc (v := (v2 + (1 : Int32))) (lv' := [(2, .int (v2 + (1 : Int32))), (0, .ref (q 0)), (1, .int p1)]) hx hb dX9_tell_49 hl (k := 2) rfl rfl (by decide) rfl (fun ls hl => ?_)
          refine lv_goto (tgt := 18) hx hb dX9_tell_52 (by decide) ?_
          rw [hrc] at hm
          exact ih _ _ hm _ _ _ hC (lv_sub hl [1, 2, 0] rfl) hx55
set_option maxRecDepth 100000 in
set_option maxHeartbeats 4000000 in
theorem Rc_tell (l : Launch) {D : va_G} {cy : Nat → ClassId} {ad : List Nat} {q : Nat → Nat} {X : va_W} (τ : RS) (a1 : Int32) {o : Int32 × RS} (hm : Rm_tell τ a1 = some o) : GM l yX9_tell cX9_tell 3 (some .int) Rrm_tell D cy (rwd cy q X) ad [.ref (q 0), .int a1] τ (some (.int o.1)) o.2 := by
  refine g_start RX9 rfl (by decide) (Nat.le_of_ble_eq_true rfl) ?_
  intro p e s m args below meth c fx hr hC ls hl
  have hx := fx.1
  have hb := fx.2.1
  have hR : 1 ≤ (Rrm_tell).frames ∧ 22 ≤ (Rrm_tell).locals := ⟨Nat.le_refl _, Nat.le_refl _⟩
  have hf : 0 ≤ (Rrm_tell).cells ∧ 0 ≤ (Rrm_tell).slots := ⟨Nat.zero_le _, Nat.zero_le _⟩
  have hl : lv_has ls 3 [(0, .ref (q 0)), (1, .int a1)] := hl
  unfold Rm_tell at hm
  refine lv_iload_n hx hb dX9_tell_0 rfl (lv_at hl 1 rfl) ?_
  refine lv_iconst (v := (-1 : Int32)) hx hb dX9_tell_1 (by decide) ?_
  refine lv_icmp_lt (tgt := 13) hx hb dX9_tell_2 (by decide) (fun c_1 => ?_) (fun c_1 => ?_)
  · replace hm := ifp hm c_1
    refine lv_bipush (v := (-2 : Int32)) hx hb dX9_tell_13 (by decide) ?_
    cases hm
    exact g_iret fx hr hC rfl dX9_tell_15
  · replace hm := ifn hm c_1
    refine lv_iload_n hx hb dX9_tell_5 rfl (lv_at hl 1 rfl) ?_
    refine lv_aload_n hx hb dX9_tell_6 rfl (lv_at hl 0 rfl) ?_
    refine g_callVi (k0 := 0) (ci := 9) (As := []) (rest := [.int a1]) fx hC rw_w (Rc_net l τ) k_233 Rk_net Rh_net rfl rfl rfl ⟨rfl, rfl⟩ ⟨Nat.le_trans (Nat.le_of_ble_eq_true rfl) hR.1, Nat.le_trans (Nat.le_of_ble_eq_true rfl) hR.2⟩ hf rfl hl.1 rfl (Nat.le_of_ble_eq_true rfl) dX9_tell_7 (fun H locs hC => ?_)
    refine lv_icmp_lt (tgt := 16) hx hb dX9_tell_10 (by decide) (fun c_2 => ?_) (fun c_2 => ?_)
    · replace hm := ifp hm c_2
      refine lv_iconst (v := (0 : Int32)) hx hb dX9_tell_16 (by decide) ?_
      refine lv_istore_n (lv' := [(2, .int (0 : Int32)), (0, .ref (q 0)), (1, .int a1)]) hx hb dX9_tell_17 rfl hl (by decide) rfl (fun ls hl => ?_)
      refine Rw_tell_18 fx hR hf a1 fuel (0 : Int32) τ hm _ _ _ hC (lv_sub hl [1, 2, 0] rfl) (fun τ_10 H locs ls hm hC hl => ?_)
      refine lv_aload_n hx hb dX9_tell_55 rfl (lv_at hl 0 rfl) ?_
      refine lv_iconst (v := (0 : Int32)) hx hb dX9_tell_56 (by decide) ?_
      obtain ⟨r_12, τ_13, e_11, hm⟩ := b2_in hm
      refine g_callVi (k0 := 0) (ci := 9) (As := [.int (0 : Int32)]) (rest := []) fx hC rw_w (Rc_made l τ_10 (0 : Int32) e_11) k_241 Rk_made Rh_made rfl rfl rfl ⟨rfl, rfl⟩ ⟨Nat.le_trans (Nat.le_of_ble_eq_true rfl) hR.1, Nat.le_trans (Nat.le_of_ble_eq_true rfl) hR.2⟩ hf rfl hl.1 rfl (Nat.le_of_ble_eq_true rfl) dX9_tell_57 (fun H locs hC => ?_)
      cases hm
      exact g_iret fx hr hC rfl dX9_tell_60
    · replace hm := ifn hm c_2
      refine lv_bipush (v := (-2 : Int32)) hx hb dX9_tell_13 (by decide) ?_
      cases hm
      exact g_iret fx hr hC rfl dX9_tell_15
def Rs_all_17 {ρ : Type} (p1 : Int32) (kx57 : RS → Option ρ) (rc : Int32 → RS → Option ρ) (v2 : Int32) (τ : RS) : Option ρ :=
  if (4096 : Int32) ≤ v2 then (kx57  τ) else (if (30 : Int32) ≤ (τ.1 6) then (kx57  τ) else (if (v2 &&& (p1 ^^^ (-1 : Int32))) = (0 : Int32) then (b1 (Rm_put τ v2 (1 : Int32)) (fun τ_9 => rc (v2 + (1 : Int32)) τ_9)) else (b1 (Rm_put τ v2 (0 : Int32)) (fun τ_7 => rc (v2 + (1 : Int32)) τ_7))))
def Rm_all (τ : RS) (a1 : Int32) : Option (Int32 × RS) :=
  if a1 < (0 : Int32) then (some ((-2 : Int32), τ)) else (if a1 < (Rm_net τ) then (it2 (Rs_all_17 a1 (fun τ_10 => b2 (Rm_made τ_10 (0 : Int32)) (fun r_12 τ_13 => some (r_12, τ_13)))) fuel (0 : Int32) τ) else (some ((-2 : Int32), τ)))
abbrev Rrm_all : Room := { frames := 1, cells := 0, slots := 0, locals := 22 }
set_option maxRecDepth 100000 in
set_option maxHeartbeats 4000000 in
theorem Rw_all_17 {ρ : Type} {out : ρ} {p : Program} {l : Launch} {e : Env} {R : Room} {s : State} {m : MethodId} {args : Array Value} {below : List Frame} {meth : Method} {c : Code} {cells slots : Nat} {Q : State → Prop} {D : va_G} {cy : Nat → ClassId} {ad : List Nat} {q : Nat → Nat} {X : va_W} (fx : FX p s m args meth c cX9_all 3 RX9 D cy) (hR : 1 ≤ R.frames ∧ 22 ≤ R.locals) (hf : cells ≤ R.cells ∧ slots ≤ R.slots) (p1 : Int32) {kx57 : RS → Option ρ} :
    ∀ (n : Nat) (v2 : Int32) (τ : RS), it2 (Rs_all_17 p1 kx57) n v2 τ = some out → ∀ (H : Heap) (locs : List Loc) (ls : Array Slot), GC D (rwd cy q X) ad s τ H locs → lv_has ls 3 [(0, .ref (q 0)), (1, .int p1), (2, .int v2)] → (∀ (τ2 : RS) (H : Heap) (locs : List Loc) (ls : Array Slot), kx57 τ2 = some out → GC D (rwd cy q X) ad s τ2 H locs → lv_has ls 3 [(0, .ref (q 0))] → W p l e R s m args below meth c H locs cells slots Q (F0 m 57 ls [])) → W p l e R s m args below meth c H locs cells slots Q (F0 m 17 ls []) := by
  have hx := fx.1
  have hb := fx.2.1
  intro n
  induction n with
  | zero => intro v2 τ hm; exact (it2_z hm).elim
  | succ n ih =>
    intro v2 τ hm H locs ls hC hl hx57
    obtain ⟨rc, hrc⟩ : ∃ z, z = it2 (Rs_all_17 p1 kx57) n := ⟨_, rfl⟩
    replace hm : Rs_all_17 p1 kx57 rc v2 τ = some out := by rw [hrc]; exact hm
    unfold Rs_all_17 at hm
    refine lv_iload_n hx hb dX9_all_17 rfl (lv_at hl 2 rfl) ?_
    refine lv_sipush (v := (4096 : Int32)) hx hb dX9_all_18 (by decide) ?_
    refine lv_icmp_ge (tgt := 57) hx hb dX9_all_21 (by decide) (fun c_3 => ?_) (fun c_3 => ?_)
    · replace hm := ifp hm c_3
      exact hx57 _ _ _ _ hm hC (lv_sub hl [0] rfl)
    · replace hm := ifn hm c_3
      refine lv_aload_n hx hb dX9_all_24 rfl (lv_at hl 0 rfl) ?_
      refine Rg_6 fx hC dX9_all_25 ?_
      refine lv_bipush (v := (30 : Int32)) hx hb dX9_all_28 (by decide) ?_
      refine lv_icmp_ge (tgt := 57) hx hb dX9_all_30 (by decide) (fun c_4 => ?_) (fun c_4 => ?_)
      · replace hm := ifp hm c_4
        exact hx57 _ _ _ _ hm hC (lv_sub hl [0] rfl)
      · replace hm := ifn hm c_4
        refine lv_aload_n hx hb dX9_all_33 rfl (lv_at hl 0 rfl) ?_
        refine lv_iload_n hx hb dX9_all_34 rfl (lv_at hl 2 rfl) ?_
        refine lv_iload_n hx hb dX9_all_35 rfl (lv_at hl 2 rfl) ?_
        refine lv_iload_n hx hb dX9_all_36 rfl (lv_at hl 1 rfl) ?_
        refine lv_iconst (v := (-1 : Int32)) hx hb dX9_all_37 (by decide) ?_
        refine lv_ixor hx hb dX9_all_38 ?_
        refine lv_iand hx hb dX9_all_39 ?_
        refine lv_if_ne (tgt := 47) hx hb dX9_all_40 (by decide) (fun c_5 => ?_) (fun c_5 => ?_)
        · replace hm := ifn hm c_5
          refine lv_iconst (v := (0 : Int32)) hx hb dX9_all_47 (by decide) ?_
          obtain ⟨τ_7, e_6, hm⟩ := b1_in hm
          refine g_callVv (k0 := 0) (ci := 9) (As := [.int v2, .int (0 : Int32)]) (rest := []) fx hC rw_w (Rc_put l τ v2 (0 : Int32) e_6) k_237 Rk_put Rh_put rfl rfl rfl ⟨rfl, rfl⟩ ⟨Nat.le_trans (Nat.le_of_ble_eq_true rfl) hR.1, Nat.le_trans (Nat.le_of_ble_eq_true rfl) hR.2⟩ hf rfl hl.1 rfl (Nat.le_of_ble_eq_true rfl) dX9_all_48 (fun H locs hC => ?_)
          refine lv_iinc (v := (v2 + (1 : Int32))) (lv' := [(2, .int (v2 + (1 : Int32))), (0, .ref (q 0)), (1, .int p1)]) hx hb dX9_all_51 hl (k := 2) rfl rfl (by decide) rfl (fun ls hl => ?_)
          refine lv_goto (tgt := 17) hx hb dX9_all_54 (by decide) ?_
          rw [hrc] at hm
          exact ih _ _ hm _ _ _ hC (lv_sub hl [1, 2, 0] rfl) hx57
        · replace hm := ifp hm c_5
          refine lv_iconst (v := (1 : Int32)) hx hb dX9_all_43 (by decide) ?_
          refine lv_goto (tgt := 48) hx hb dX9_all_44 (by decide) ?_
          obtain ⟨τ_9, e_8, hm⟩ := b1_in hm
          refine g_callVv (k0 := 0) (ci := 9) (As := [.int v2, .int (1 : Int32)]) (rest := []) fx hC rw_w (Rc_put l τ v2 (1 : Int32) e_8) k_237 Rk_put Rh_put rfl rfl rfl ⟨rfl, rfl⟩ ⟨Nat.le_trans (Nat.le_of_ble_eq_true rfl) hR.1, Nat.le_trans (Nat.le_of_ble_eq_true rfl) hR.2⟩ hf rfl hl.1 rfl (Nat.le_of_ble_eq_true rfl) dX9_all_48 (fun H locs hC => ?_)
          refine lv_iinc (v := (v2 + (1 : Int32))) (lv' := [(2, .int (v2 + (1 : Int32))), (0, .ref (q 0)), (1, .int p1)]) hx hb dX9_all_51 hl (k := 2) rfl rfl (by decide) rfl (fun ls hl => ?_)
          refine lv_goto (tgt := 17) hx hb dX9_all_54 (by decide) ?_
          rw [hrc] at hm
          exact ih _ _ hm _ _ _ hC (lv_sub hl [1, 2, 0] rfl) hx57
set_option maxRecDepth 100000 in
set_option maxHeartbeats 4000000 in
theorem Rc_all (l : Launch) {D : va_G} {cy : Nat → ClassId} {ad : List Nat} {q : Nat → Nat} {X : va_W} (τ : RS) (a1 : Int32) {o : Int32 × RS} (hm : Rm_all τ a1 = some o) : GM l yX9_all cX9_all 3 (some .int) Rrm_all D cy (rwd cy q X) ad [.ref (q 0), .int a1] τ (some (.int o.1)) o.2 := by
  refine g_start RX9 rfl (by decide) (Nat.le_of_ble_eq_true rfl) ?_
  intro p e s m args below meth c fx hr hC ls hl
  have hx := fx.1
  have hb := fx.2.1
  have hR : 1 ≤ (Rrm_all).frames ∧ 22 ≤ (Rrm_all).locals := ⟨Nat.le_refl _, Nat.le_refl _⟩
  have hf : 0 ≤ (Rrm_all).cells ∧ 0 ≤ (Rrm_all).slots := ⟨Nat.zero_le _, Nat.zero_le _⟩
  have hl : lv_has ls 3 [(0, .ref (q 0)), (1, .int a1)] := hl
  unfold Rm_all at hm
  refine lv_iload_n hx hb dX9_all_0 rfl (lv_at hl 1 rfl) ?_
  refine lv_if_lt (tgt := 12) hx hb dX9_all_1 (by decide) (fun c_1 => ?_) (fun c_1 => ?_)
  · replace hm := ifp hm c_1
    refine lv_bipush (v := (-2 : Int32)) hx hb dX9_all_12 (by decide) ?_
    cases hm
    exact g_iret fx hr hC rfl dX9_all_14
  · replace hm := ifn hm c_1
    refine lv_iload_n hx hb dX9_all_4 rfl (lv_at hl 1 rfl) ?_
    refine lv_aload_n hx hb dX9_all_5 rfl (lv_at hl 0 rfl) ?_
    refine g_callVi (k0 := 0) (ci := 9) (As := []) (rest := [.int a1]) fx hC rw_w (Rc_net l τ) k_233 Rk_net Rh_net rfl rfl rfl ⟨rfl, rfl⟩ ⟨Nat.le_trans (Nat.le_of_ble_eq_true rfl) hR.1, Nat.le_trans (Nat.le_of_ble_eq_true rfl) hR.2⟩ hf rfl hl.1 rfl (Nat.le_of_ble_eq_true rfl) dX9_all_6 (fun H locs hC => ?_)
    refine lv_icmp_lt (tgt := 15) hx hb dX9_all_9 (by decide) (fun c_2 => ?_) (fun c_2 => ?_)
    · replace hm := ifp hm c_2
      refine lv_iconst (v := (0 : Int32)) hx hb dX9_all_15 (by decide) ?_
      refine lv_istore_n (lv' := [(2, .int (0 : Int32)), (0, .ref (q 0)), (1, .int a1)]) hx hb dX9_all_16 rfl hl (by decide) rfl (fun ls hl => ?_)
      refine Rw_all_17 fx hR hf a1 fuel (0 : Int32) τ hm _ _ _ hC (lv_sub hl [1, 2, 0] rfl) (fun τ_10 H locs ls hm hC hl => ?_)
      refine lv_aload_n hx hb dX9_all_57 rfl (lv_at hl 0 rfl) ?_
      refine lv_iconst (v := (0 : Int32)) hx hb dX9_all_58 (by decide) ?_
      obtain ⟨r_12, τ_13, e_11, hm⟩ := b2_in hm
      refine g_callVi (k0 := 0) (ci := 9) (As := [.int (0 : Int32)]) (rest := []) fx hC rw_w (Rc_made l τ_10 (0 : Int32) e_11) k_241 Rk_made Rh_made rfl rfl rfl ⟨rfl, rfl⟩ ⟨Nat.le_trans (Nat.le_of_ble_eq_true rfl) hR.1, Nat.le_trans (Nat.le_of_ble_eq_true rfl) hR.2⟩ hf rfl hl.1 rfl (Nat.le_of_ble_eq_true rfl) dX9_all_59 (fun H locs hC => ?_)
      cases hm
      exact g_iret fx hr hC rfl dX9_all_62
    · replace hm := ifn hm c_2
      refine lv_bipush (v := (-2 : Int32)) hx hb dX9_all_12 (by decide) ?_
      cases hm
      exact g_iret fx hr hC rfl dX9_all_14
def Rs_isOne_4 {ρ : Type} (p1 : Int32) (τ : RS) (kx35 : Int32 → Option ρ) (rc : Int32 → Int32 → Option ρ) (v2 : Int32) (v3 : Int32) : Option ρ :=
  if (τ.1 0) ≤ v3 then (kx35 v2) else (b1 (Rm_at τ p1 v3) (fun r_3 => if r_3 = (0 : Int32) then (rc (v2 + (1 : Int32)) (v3 + (1 : Int32))) else (rc (v2 + (0 : Int32)) (v3 + (1 : Int32)))))
def Rm_isOne (τ : RS) (a1 : Int32) : Option (Int32 × RS) :=
  it2 (Rs_isOne_4 a1 τ (fun u_5 => if a1 = (0 : Int32) then (some ((0 : Int32), τ)) else (b2 (Rm_heaps τ a1) (fun r_8 τ_9 => if r_8 = (u_5 + (1 : Int32)) then (some ((1 : Int32), τ_9)) else (some ((0 : Int32), τ_9)))))) fuel (0 : Int32) (0 : Int32)
abbrev Rrm_isOne : Room := { frames := 2, cells := 0, slots := 0, locals := 47 }
set_option maxRecDepth 100000 in
set_option maxHeartbeats 4000000 in
theorem Rw_isOne_4 {ρ : Type} {out : ρ} {p : Program} {l : Launch} {e : Env} {R : Room} {s : State} {m : MethodId} {args : Array Value} {below : List Frame} {meth : Method} {c : Code} {cells slots : Nat} {Q : State → Prop} {D : va_G} {cy : Nat → ClassId} {ad : List Nat} {q : Nat → Nat} {X : va_W} (τ : RS) (fx : FX p s m args meth c cX9_isOne 4 RX9 D cy) (hR : 2 ≤ R.frames ∧ 47 ≤ R.locals) (hf : cells ≤ R.cells ∧ slots ≤ R.slots) (p1 : Int32) {kx35 : Int32 → Option ρ} :
    ∀ (n : Nat) (v2 : Int32) (v3 : Int32), it2 (Rs_isOne_4 p1 τ kx35) n v2 v3 = some out → ∀ (H : Heap) (locs : List Loc) (ls : Array Slot), GC D (rwd cy q X) ad s τ H locs → lv_has ls 4 [(0, .ref (q 0)), (1, .int p1), (2, .int v2), (3, .int v3)] → (∀ (u2 : Int32) (H : Heap) (locs : List Loc) (ls : Array Slot), kx35 u2 = some out → GC D (rwd cy q X) ad s τ H locs → lv_has ls 4 [(0, .ref (q 0)), (1, .int p1), (2, .int u2)] → W p l e R s m args below meth c H locs cells slots Q (F0 m 35 ls [])) → W p l e R s m args below meth c H locs cells slots Q (F0 m 4 ls []) := by
  have hx := fx.1
  have hb := fx.2.1
  intro n
  induction n with
  | zero => intro v2 v3 hm; exact (it2_z hm).elim
  | succ n ih =>
    intro v2 v3 hm H locs ls hC hl hx35
    obtain ⟨rc, hrc⟩ : ∃ z, z = it2 (Rs_isOne_4 p1 τ kx35) n := ⟨_, rfl⟩
    replace hm : Rs_isOne_4 p1 τ kx35 rc v2 v3 = some out := by rw [hrc]; exact hm
    unfold Rs_isOne_4 at hm
    refine lv_iload_n hx hb dX9_isOne_4 rfl (lv_at hl 3 rfl) ?_
    refine lv_aload_n hx hb dX9_isOne_5 rfl (lv_at hl 0 rfl) ?_
    refine Rg_0 fx hC dX9_isOne_6 ?_
    refine lv_icmp_ge (tgt := 35) hx hb dX9_isOne_9 (by decide) (fun c_1 => ?_) (fun c_1 => ?_)
    · replace hm := ifp hm c_1
      exact hx35 _ _ _ _ hm hC (lv_sub hl [0, 1, 2] rfl)
    · replace hm := ifn hm c_1
      refine lv_iload_n hx hb dX9_isOne_12 rfl (lv_at hl 2 rfl) ?_
      refine lv_aload_n hx hb dX9_isOne_13 rfl (lv_at hl 0 rfl) ?_
      refine lv_iload_n hx hb dX9_isOne_14 rfl (lv_at hl 1 rfl) ?_
      refine lv_iload_n hx hb dX9_isOne_15 rfl (lv_at hl 3 rfl) ?_
      obtain ⟨r_3, e_2, hm⟩ := b1_in hm
      refine g_callVi (k0 := 0) (ci := 9) (As := [.int p1, .int v3]) (rest := [.int v2]) fx hC rw_w (Rc_at l τ p1 v3 e_2) k_319 Rk_at Rh_at rfl rfl rfl ⟨rfl, rfl⟩ ⟨Nat.le_trans (Nat.le_of_ble_eq_true rfl) hR.1, Nat.le_trans (Nat.le_of_ble_eq_true rfl) hR.2⟩ hf rfl hl.1 rfl (Nat.le_of_ble_eq_true rfl) dX9_isOne_16 (fun H locs hC => ?_)
      refine lv_if_ne (tgt := 26) hx hb dX9_isOne_19 (by decide) (fun c_4 => ?_) (fun c_4 => ?_)
      · replace hm := ifn hm c_4
        refine lv_iconst (v := (0 : Int32)) hx hb dX9_isOne_26 (by decide) ?_
        refine lv_iadd hx hb dX9_isOne_27 ?_
        refine lv_istore_n (lv' := [(2, .int (v2 + (0 : Int32))), (0, .ref (q 0)), (1, .int p1), (3, .int v3)]) hx hb dX9_isOne_28 rfl hl (by decide) rfl (fun ls hl => ?_)
        refine lv_iinc (v := (v3 + (1 : Int32))) (lv' := [(3, .int (v3 + (1 : Int32))), (2, .int (v2 + (0 : Int32))), (0, .ref (q 0)), (1, .int p1)]) hx hb dX9_isOne_29 hl (k := 3) rfl rfl (by decide) rfl (fun ls hl => ?_)
        refine lv_goto (tgt := 4) hx hb dX9_isOne_32 (by decide) ?_
        rw [hrc] at hm
        exact ih _ _ hm _ _ _ hC (lv_sub hl [2, 3, 1, 0] rfl) hx35
      · replace hm := ifp hm c_4
        refine lv_iconst (v := (1 : Int32)) hx hb dX9_isOne_22 (by decide) ?_
        refine lv_goto (tgt := 27) hx hb dX9_isOne_23 (by decide) ?_
        refine lv_iadd hx hb dX9_isOne_27 ?_
        refine lv_istore_n (lv' := [(2, .int (v2 + (1 : Int32))), (0, .ref (q 0)), (1, .int p1), (3, .int v3)]) hx hb dX9_isOne_28 rfl hl (by decide) rfl (fun ls hl => ?_)
        refine lv_iinc (v := (v3 + (1 : Int32))) (lv' := [(3, .int (v3 + (1 : Int32))), (2, .int (v2 + (1 : Int32))), (0, .ref (q 0)), (1, .int p1)]) hx hb dX9_isOne_29 hl (k := 3) rfl rfl (by decide) rfl (fun ls hl => ?_)
        refine lv_goto (tgt := 4) hx hb dX9_isOne_32 (by decide) ?_
        rw [hrc] at hm
        exact ih _ _ hm _ _ _ hC (lv_sub hl [2, 3, 1, 0] rfl) hx35
set_option maxRecDepth 100000 in
set_option maxHeartbeats 4000000 in
theorem Rc_isOne (l : Launch) {D : va_G} {cy : Nat → ClassId} {ad : List Nat} {q : Nat → Nat} {X : va_W} (τ : RS) (a1 : Int32) {o : Int32 × RS} (hm : Rm_isOne τ a1 = some o) : GM l yX9_isOne cX9_isOne 4 (some .boolean) Rrm_isOne D cy (rwd cy q X) ad [.ref (q 0), .int a1] τ (some (.int o.1)) o.2 := by
  refine g_start RX9 rfl (by decide) (Nat.le_of_ble_eq_true rfl) ?_
  intro p e s m args below meth c fx hr hC ls hl
  have hx := fx.1
  have hb := fx.2.1
  have hR : 2 ≤ (Rrm_isOne).frames ∧ 47 ≤ (Rrm_isOne).locals := ⟨Nat.le_refl _, Nat.le_refl _⟩
  have hf : 0 ≤ (Rrm_isOne).cells ∧ 0 ≤ (Rrm_isOne).slots := ⟨Nat.zero_le _, Nat.zero_le _⟩
  have hl : lv_has ls 4 [(0, .ref (q 0)), (1, .int a1)] := hl
  unfold Rm_isOne at hm
  refine lv_iconst (v := (0 : Int32)) hx hb dX9_isOne_0 (by decide) ?_
  refine lv_istore_n (lv' := [(2, .int (0 : Int32)), (0, .ref (q 0)), (1, .int a1)]) hx hb dX9_isOne_1 rfl hl (by decide) rfl (fun ls hl => ?_)
  refine lv_iconst (v := (0 : Int32)) hx hb dX9_isOne_2 (by decide) ?_
  refine lv_istore_n (lv' := [(3, .int (0 : Int32)), (2, .int (0 : Int32)), (0, .ref (q 0)), (1, .int a1)]) hx hb dX9_isOne_3 rfl hl (by decide) rfl (fun ls hl => ?_)
  refine Rw_isOne_4 τ fx hR hf a1 fuel (0 : Int32) (0 : Int32) hm _ _ _ hC (lv_sub hl [2, 3, 1, 0] rfl) (fun u_5 H locs ls hm hC hl => ?_)
  refine lv_iload_n hx hb dX9_isOne_35 rfl (lv_at hl 1 rfl) ?_
  refine lv_if_eq (tgt := 54) hx hb dX9_isOne_36 (by decide) (fun c_6 => ?_) (fun c_6 => ?_)
  · replace hm := ifp hm c_6
    refine lv_iconst (v := (0 : Int32)) hx hb dX9_isOne_54 (by decide) ?_
    cases hm
    exact g_zret fx hr rfl hC rfl dX9_isOne_55
  · replace hm := ifn hm c_6
    refine lv_aload_n hx hb dX9_isOne_39 rfl (lv_at hl 0 rfl) ?_
    refine lv_iload_n hx hb dX9_isOne_40 rfl (lv_at hl 1 rfl) ?_
    obtain ⟨r_8, τ_9, e_7, hm⟩ := b2_in hm
    refine g_callVi (k0 := 0) (ci := 9) (As := [.int a1]) (rest := []) fx hC rw_w (Rc_heaps l τ a1 e_7) k_326 Rk_heaps Rh_heaps rfl rfl rfl ⟨rfl, rfl⟩ ⟨Nat.le_trans (Nat.le_of_ble_eq_true rfl) hR.1, Nat.le_trans (Nat.le_of_ble_eq_true rfl) hR.2⟩ hf rfl hl.1 rfl (Nat.le_of_ble_eq_true rfl) dX9_isOne_41 (fun H locs hC => ?_)
    refine lv_iload_n hx hb dX9_isOne_44 rfl (lv_at hl 2 rfl) ?_
    refine lv_iconst (v := (1 : Int32)) hx hb dX9_isOne_45 (by decide) ?_
    refine lv_iadd hx hb dX9_isOne_46 ?_
    refine lv_icmp_ne (tgt := 54) hx hb dX9_isOne_47 (by decide) (fun c_10 => ?_) (fun c_10 => ?_)
    · replace hm := ifn hm c_10
      refine lv_iconst (v := (0 : Int32)) hx hb dX9_isOne_54 (by decide) ?_
      cases hm
      exact g_zret fx hr rfl hC rfl dX9_isOne_55
    · replace hm := ifp hm c_10
      refine lv_iconst (v := (1 : Int32)) hx hb dX9_isOne_50 (by decide) ?_
      refine lv_goto (tgt := 55) hx hb dX9_isOne_51 (by decide) ?_
      cases hm
      exact g_zret fx hr rfl hC rfl dX9_isOne_55
def Rs_isPath_10 {ρ : Type} (p1 : Int32) (p2 : Int32) (p3 : Int32) (p4 : Int32) (τ : RS) (kx88 : Int32 → Option ρ) (rc : Int32 → Int32 → Option ρ) (v5 : Int32) (v6 : Int32) : Option ρ :=
  if v5 = (0 : Int32) then (kx88 v5) else (if (τ.1 0) ≤ v6 then (kx88 v5) else (b1 (Rm_at τ p1 v6) (fun r_7 => if v6 = p2 then (if r_7 = (1 : Int32) then (rc (1 : Int32) (v6 + (1 : Int32))) else (rc (0 : Int32) (v6 + (1 : Int32)))) else (if v6 = p3 then (if r_7 = (1 : Int32) then (rc (1 : Int32) (v6 + (1 : Int32))) else (rc (0 : Int32) (v6 + (1 : Int32)))) else (if r_7 = (2 : Int32) then (rc (1 : Int32) (v6 + (1 : Int32))) else (if r_7 = (0 : Int32) then (if p4 = (0 : Int32) then (rc (1 : Int32) (v6 + (1 : Int32))) else (rc (0 : Int32) (v6 + (1 : Int32)))) else (rc (0 : Int32) (v6 + (1 : Int32)))))))))
def Rm_isPath (τ : RS) (a1 : Int32) (a2 : Int32) (a3 : Int32) (a4 : Int32) : Option (Int32 × RS) :=
  b2 (Rm_isOne τ a1) (fun r_2 τ_3 => it2 (Rs_isPath_10 a1 a2 a3 a4 τ_3 (fun u_15 => gb u_15 (some (u_15, τ_3)))) fuel r_2 (0 : Int32))
abbrev Rrm_isPath : Room := { frames := 3, cells := 0, slots := 0, locals := 70 }
set_option maxRecDepth 100000 in
set_option maxHeartbeats 4000000 in
theorem Rw_isPath_10 {ρ : Type} {out : ρ} {p : Program} {l : Launch} {e : Env} {R : Room} {s : State} {m : MethodId} {args : Array Value} {below : List Frame} {meth : Method} {c : Code} {cells slots : Nat} {Q : State → Prop} {D : va_G} {cy : Nat → ClassId} {ad : List Nat} {q : Nat → Nat} {X : va_W} (τ : RS) (fx : FX p s m args meth c cX9_isPath 8 RX9 D cy) (hR : 3 ≤ R.frames ∧ 70 ≤ R.locals) (hf : cells ≤ R.cells ∧ slots ≤ R.slots) (p1 : Int32) (p2 : Int32) (p3 : Int32) (p4 : Int32) {kx88 : Int32 → Option ρ} :
    ∀ (n : Nat) (v5 : Int32) (v6 : Int32), it2 (Rs_isPath_10 p1 p2 p3 p4 τ kx88) n v5 v6 = some out → ∀ (H : Heap) (locs : List Loc) (ls : Array Slot), GC D (rwd cy q X) ad s τ H locs → lv_has ls 8 [(0, .ref (q 0)), (1, .int p1), (2, .int p2), (3, .int p3), (4, .int p4), (5, .int v5), (6, .int v6)] → (∀ (u5 : Int32) (H : Heap) (locs : List Loc) (ls : Array Slot), kx88 u5 = some out → GC D (rwd cy q X) ad s τ H locs → lv_has ls 8 [(5, .int u5)] → W p l e R s m args below meth c H locs cells slots Q (F0 m 88 ls [])) → W p l e R s m args below meth c H locs cells slots Q (F0 m 10 ls []) := by
  have hx := fx.1
  have hb := fx.2.1
  intro n
  induction n with
  | zero => intro v5 v6 hm; exact (it2_z hm).elim
  | succ n ih =>
    intro v5 v6 hm H locs ls hC hl hx88
    obtain ⟨rc, hrc⟩ : ∃ z, z = it2 (Rs_isPath_10 p1 p2 p3 p4 τ kx88) n := ⟨_, rfl⟩
    replace hm : Rs_isPath_10 p1 p2 p3 p4 τ kx88 rc v5 v6 = some out := by rw [hrc]; exact hm
    unfold Rs_isPath_10 at hm
    refine lv_iload hx hb dX9_isPath_10 (lv_at hl 5 rfl) ?_
    refine lv_if_eq (tgt := 88) hx hb dX9_isPath_12 (by decide) (fun c_4 => ?_) (fun c_4 => ?_)
    · replace hm := ifp hm c_4
      exact hx88 _ _ _ _ hm hC (lv_sub hl [5] rfl)
    · replace hm := ifn hm c_4
      refine lv_iload hx hb dX9_isPath_15 (lv_at hl 6 rfl) ?_
      refine lv_aload_n hx hb dX9_isPath_17 rfl (lv_at hl 0 rfl) ?_
      refine Rg_0 fx hC dX9_isPath_18 ?_
      refine lv_icmp_ge (tgt := 88) hx hb dX9_isPath_21 (by decide) (fun c_5 => ?_) (fun c_5 => ?_)
      · replace hm := ifp hm c_5
        exact hx88 _ _ _ _ hm hC (lv_sub hl [5] rfl)
      · replace hm := ifn hm c_5
        refine lv_aload_n hx hb dX9_isPath_24 rfl (lv_at hl 0 rfl) ?_
        refine lv_iload_n hx hb dX9_isPath_25 rfl (lv_at hl 1 rfl) ?_
        refine lv_iload hx hb dX9_isPath_26 (lv_at hl 6 rfl) ?_
        obtain ⟨r_7, e_6, hm⟩ := b1_in hm
        refine g_callVi (k0 := 0) (ci := 9) (As := [.int p1, .int v6]) (rest := []) fx hC rw_w (Rc_at l τ p1 v6 e_6) k_319 Rk_at Rh_at rfl rfl rfl ⟨rfl, rfl⟩ ⟨Nat.le_trans (Nat.le_of_ble_eq_true rfl) hR.1, Nat.le_trans (Nat.le_of_ble_eq_true rfl) hR.2⟩ hf rfl hl.1 rfl (Nat.le_of_ble_eq_true rfl) dX9_isPath_28 (fun H locs hC => ?_)
        refine lv_istore (lv' := [(7, .int r_7), (0, .ref (q 0)), (1, .int p1), (2, .int p2), (3, .int p3), (4, .int p4), (5, .int v5), (6, .int v6)]) hx hb dX9_isPath_31 hl (by decide) rfl (fun ls hl => ?_)
        refine lv_iload hx hb dX9_isPath_33 (lv_at hl 7 rfl) ?_
        refine lv_iload_n hx hb dX9_isPath_35 rfl (lv_at hl 3 rfl) ?_
        refine lv_icmp_eq (tgt := 45) hx hb dX9_isPath_36 (by decide) (fun c_8 => ?_) (fun c_8 => ?_)
        · replace hm := ifp hm c_8
          refine lv_iload hx hb dX9_isPath_45 (lv_at hl 0 rfl) ?_
          refine lv_iconst (v := (1 : Int32)) hx hb dX9_isPath_47 (by decide) ?_
          refine lv_icmp_ne (tgt := 55) hx hb dX9_isPath_48 (by decide) (fun c_9 => ?_) (fun c_9 => ?_)
          · replace hm := ifn hm c_9
            refine lv_iconst (v := (0 : Int32)) hx hb dX9_isPath_55 (by decide) ?_
            refine lv_goto (tgt := 80) hx hb dX9_isPath_56 (by decide) ?_
            refine lv_istore (lv' := [(5, .int (0 : Int32)), (7, .int r_7), (0, .ref (q 0)), (1, .int p1), (2, .int p2), (3, .int p3), (4, .int p4), (6, .int v6)]) hx hb dX9_isPath_80 hl (by decide) rfl (fun ls hl => ?_)
            refine lv_iinc (v := (v6 + (1 : Int32))) (lv' := [(6, .int (v6 + (1 : Int32))), (5, .int (0 : Int32)), (7, .int r_7), (0, .ref (q 0)), (1, .int p1), (2, .int p2), (3, .int p3), (4, .int p4)]) hx hb dX9_isPath_82 hl (k := 7) rfl rfl (by decide) rfl (fun ls hl => ?_)
            refine lv_goto (tgt := 10) hx hb dX9_isPath_85 (by decide) ?_
            rw [hrc] at hm
            exact ih _ _ hm _ _ _ hC (lv_sub hl [3, 4, 5, 6, 7, 1, 0] rfl) hx88
          · replace hm := ifp hm c_9
            refine lv_iconst (v := (1 : Int32)) hx hb dX9_isPath_51 (by decide) ?_
            refine lv_goto (tgt := 80) hx hb dX9_isPath_52 (by decide) ?_
            refine lv_istore (lv' := [(5, .int (1 : Int32)), (7, .int r_7), (0, .ref (q 0)), (1, .int p1), (2, .int p2), (3, .int p3), (4, .int p4), (6, .int v6)]) hx hb dX9_isPath_80 hl (by decide) rfl (fun ls hl => ?_)
            refine lv_iinc (v := (v6 + (1 : Int32))) (lv' := [(6, .int (v6 + (1 : Int32))), (5, .int (1 : Int32)), (7, .int r_7), (0, .ref (q 0)), (1, .int p1), (2, .int p2), (3, .int p3), (4, .int p4)]) hx hb dX9_isPath_82 hl (k := 7) rfl rfl (by decide) rfl (fun ls hl => ?_)
            refine lv_goto (tgt := 10) hx hb dX9_isPath_85 (by decide) ?_
            rw [hrc] at hm
            exact ih _ _ hm _ _ _ hC (lv_sub hl [3, 4, 5, 6, 7, 1, 0] rfl) hx88
        · replace hm := ifn hm c_8
          refine lv_iload hx hb dX9_isPath_39 (lv_at hl 7 rfl) ?_
          refine lv_iload_n hx hb dX9_isPath_41 rfl (lv_at hl 4 rfl) ?_
          refine lv_icmp_ne (tgt := 59) hx hb dX9_isPath_42 (by decide) (fun c_10 => ?_) (fun c_10 => ?_)
          · replace hm := ifn hm c_10
            refine lv_iload hx hb dX9_isPath_59 (lv_at hl 0 rfl) ?_
            refine lv_iconst (v := (2 : Int32)) hx hb dX9_isPath_61 (by decide) ?_
            refine lv_icmp_eq (tgt := 75) hx hb dX9_isPath_62 (by decide) (fun c_11 => ?_) (fun c_11 => ?_)
            · replace hm := ifp hm c_11
              refine lv_iconst (v := (1 : Int32)) hx hb dX9_isPath_75 (by decide) ?_
              refine lv_goto (tgt := 80) hx hb dX9_isPath_76 (by decide) ?_
              refine lv_istore (lv' := [(5, .int (1 : Int32)), (7, .int r_7), (0, .ref (q 0)), (1, .int p1), (2, .int p2), (3, .int p3), (4, .int p4), (6, .int v6)]) hx hb dX9_isPath_80 hl (by decide) rfl (fun ls hl => ?_)
              refine lv_iinc (v := (v6 + (1 : Int32))) (lv' := [(6, .int (v6 + (1 : Int32))), (5, .int (1 : Int32)), (7, .int r_7), (0, .ref (q 0)), (1, .int p1), (2, .int p2), (3, .int p3), (4, .int p4)]) hx hb dX9_isPath_82 hl (k := 7) rfl rfl (by decide) rfl (fun ls hl => ?_)
              refine lv_goto (tgt := 10) hx hb dX9_isPath_85 (by decide) ?_
              rw [hrc] at hm
              exact ih _ _ hm _ _ _ hC (lv_sub hl [3, 4, 5, 6, 7, 1, 0] rfl) hx88
            · replace hm := ifn hm c_11
              refine lv_iload hx hb dX9_isPath_65 (lv_at hl 0 rfl) ?_
              refine lv_if_ne (tgt := 79) hx hb dX9_isPath_67 (by decide) (fun c_12 => ?_) (fun c_12 => ?_)
              · replace hm := ifn hm c_12
                refine lv_iconst (v := (0 : Int32)) hx hb dX9_isPath_79 (by decide) ?_
                refine lv_istore (lv' := [(5, .int (0 : Int32)), (7, .int r_7), (0, .ref (q 0)), (1, .int p1), (2, .int p2), (3, .int p3), (4, .int p4), (6, .int v6)]) hx hb dX9_isPath_80 hl (by decide) rfl (fun ls hl => ?_)
                refine lv_iinc (v := (v6 + (1 : Int32))) (lv' := [(6, .int (v6 + (1 : Int32))), (5, .int (0 : Int32)), (7, .int r_7), (0, .ref (q 0)), (1, .int p1), (2, .int p2), (3, .int p3), (4, .int p4)]) hx hb dX9_isPath_82 hl (k := 7) rfl rfl (by decide) rfl (fun ls hl => ?_)
                refine lv_goto (tgt := 10) hx hb dX9_isPath_85 (by decide) ?_
                rw [hrc] at hm
                exact ih _ _ hm _ _ _ hC (lv_sub hl [3, 4, 5, 6, 7, 1, 0] rfl) hx88
              · replace hm := ifp hm c_12
                refine lv_iload hx hb dX9_isPath_70 (lv_at hl 5 rfl) ?_
                refine lv_if_ne (tgt := 79) hx hb dX9_isPath_72 (by decide) (fun c_13 => ?_) (fun c_13 => ?_)
                · replace hm := ifn hm c_13
                  refine lv_iconst (v := (0 : Int32)) hx hb dX9_isPath_79 (by decide) ?_
                  refine lv_istore (lv' := [(5, .int (0 : Int32)), (7, .int r_7), (0, .ref (q 0)), (1, .int p1), (2, .int p2), (3, .int p3), (4, .int p4), (6, .int v6)]) hx hb dX9_isPath_80 hl (by decide) rfl (fun ls hl => ?_)
                  refine lv_iinc (v := (v6 + (1 : Int32))) (lv' := [(6, .int (v6 + (1 : Int32))), (5, .int (0 : Int32)), (7, .int r_7), (0, .ref (q 0)), (1, .int p1), (2, .int p2), (3, .int p3), (4, .int p4)]) hx hb dX9_isPath_82 hl (k := 7) rfl rfl (by decide) rfl (fun ls hl => ?_)
                  refine lv_goto (tgt := 10) hx hb dX9_isPath_85 (by decide) ?_
                  rw [hrc] at hm
                  exact ih _ _ hm _ _ _ hC (lv_sub hl [3, 4, 5, 6, 7, 1, 0] rfl) hx88
                · replace hm := ifp hm c_13
                  refine lv_iconst (v := (1 : Int32)) hx hb dX9_isPath_75 (by decide) ?_
                  refine lv_goto (tgt := 80) hx hb dX9_isPath_76 (by decide) ?_
                  refine lv_istore (lv' := [(5, .int (1 : Int32)), (7, .int r_7), (0, .ref (q 0)), (1, .int p1), (2, .int p2), (3, .int p3), (4, .int p4), (6, .int v6)]) hx hb dX9_isPath_80 hl (by decide) rfl (fun ls hl => ?_)
                  refine lv_iinc (v := (v6 + (1 : Int32))) (lv' := [(6, .int (v6 + (1 : Int32))), (5, .int (1 : Int32)), (7, .int r_7), (0, .ref (q 0)), (1, .int p1), (2, .int p2), (3, .int p3), (4, .int p4)]) hx hb dX9_isPath_82 hl (k := 7) rfl rfl (by decide) rfl (fun ls hl => ?_)
                  refine lv_goto (tgt := 10) hx hb dX9_isPath_85 (by decide) ?_
                  rw [hrc] at hm
                  exact ih _ _ hm _ _ _ hC (lv_sub hl [3, 4, 5, 6, 7, 1, 0] rfl) hx88
          · replace hm := ifp hm c_10
            refine lv_iload hx hb dX9_isPath_45 (lv_at hl 0 rfl) ?_
            refine lv_iconst (v := (1 : Int32)) hx hb dX9_isPath_47 (by decide) ?_
            refine lv_icmp_ne (tgt := 55) hx hb dX9_isPath_48 (by decide) (fun c_14 => ?_) (fun c_14 => ?_)
            · replace hm := ifn hm c_14
              refine lv_iconst (v := (0 : Int32)) hx hb dX9_isPath_55 (by decide) ?_
              refine lv_goto (tgt := 80) hx hb dX9_isPath_56 (by decide) ?_
              refine lv_istore (lv' := [(5, .int (0 : Int32)), (7, .int r_7), (0, .ref (q 0)), (1, .int p1), (2, .int p2), (3, .int p3), (4, .int p4), (6, .int v6)]) hx hb dX9_isPath_80 hl (by decide) rfl (fun ls hl => ?_)
              refine lv_iinc (v := (v6 + (1 : Int32))) (lv' := [(6, .int (v6 + (1 : Int32))), (5, .int (0 : Int32)), (7, .int r_7), (0, .ref (q 0)), (1, .int p1), (2, .int p2), (3, .int p3), (4, .int p4)]) hx hb dX9_isPath_82 hl (k := 7) rfl rfl (by decide) rfl (fun ls hl => ?_)
              refine lv_goto (tgt := 10) hx hb dX9_isPath_85 (by decide) ?_
              rw [hrc] at hm
              exact ih _ _ hm _ _ _ hC (lv_sub hl [3, 4, 5, 6, 7, 1, 0] rfl) hx88
            · replace hm := ifp hm c_14
              refine lv_iconst (v := (1 : Int32)) hx hb dX9_isPath_51 (by decide) ?_
              refine lv_goto (tgt := 80) hx hb dX9_isPath_52 (by decide) ?_
              refine lv_istore (lv' := [(5, .int (1 : Int32)), (7, .int r_7), (0, .ref (q 0)), (1, .int p1), (2, .int p2), (3, .int p3), (4, .int p4), (6, .int v6)]) hx hb dX9_isPath_80 hl (by decide) rfl (fun ls hl => ?_)
              refine lv_iinc (v := (v6 + (1 : Int32))) (lv' := [(6, .int (v6 + (1 : Int32))), (5, .int (1 : Int32)), (7, .int r_7), (0, .ref (q 0)), (1, .int p1), (2, .int p2), (3, .int p3), (4, .int p4)]) hx hb dX9_isPath_82 hl (k := 7) rfl rfl (by decide) rfl (fun ls hl => ?_)
              refine lv_goto (tgt := 10) hx hb dX9_isPath_85 (by decide) ?_
              rw [hrc] at hm
              exact ih _ _ hm _ _ _ hC (lv_sub hl [3, 4, 5, 6, 7, 1, 0] rfl) hx88
set_option maxRecDepth 100000 in
set_option maxHeartbeats 4000000 in
theorem Rc_isPath (l : Launch) {D : va_G} {cy : Nat → ClassId} {ad : List Nat} {q : Nat → Nat} {X : va_W} (τ : RS) (a1 : Int32) (a2 : Int32) (a3 : Int32) (a4 : Int32) {o : Int32 × RS} (hm : Rm_isPath τ a1 a2 a3 a4 = some o) : GM l yX9_isPath cX9_isPath 8 (some .boolean) Rrm_isPath D cy (rwd cy q X) ad [.ref (q 0), .int a1, .int a2, .int a3, .int a4] τ (some (.int o.1)) o.2 := by
  refine g_start RX9 rfl (by decide) (Nat.le_of_ble_eq_true rfl) ?_
  intro p e s m args below meth c fx hr hC ls hl
  have hx := fx.1
  have hb := fx.2.1
  have hR : 3 ≤ (Rrm_isPath).frames ∧ 70 ≤ (Rrm_isPath).locals := ⟨Nat.le_refl _, Nat.le_refl _⟩
  have hf : 0 ≤ (Rrm_isPath).cells ∧ 0 ≤ (Rrm_isPath).slots := ⟨Nat.zero_le _, Nat.zero_le _⟩
  have hl : lv_has ls 8 [(0, .ref (q 0)), (1, .int a1), (2, .int a2), (3, .int a3), (4, .int a4)] := hl
  unfold Rm_isPath at hm
  refine lv_aload_n hx hb dX9_isPath_0 rfl (lv_at hl 0 rfl) ?_
  refine lv_iload_n hx hb dX9_isPath_1 rfl (lv_at hl 1 rfl) ?_
  obtain ⟨r_2, τ_3, e_1, hm⟩ := b2_in hm
  refine g_callVi (k0 := 0) (ci := 9) (As := [.int a1]) (rest := []) fx hC rw_w (Rc_isOne l τ a1 e_1) k_315 Rk_isOne Rh_isOne rfl rfl rfl ⟨rfl, rfl⟩ ⟨Nat.le_trans (Nat.le_of_ble_eq_true rfl) hR.1, Nat.le_trans (Nat.le_of_ble_eq_true rfl) hR.2⟩ hf rfl hl.1 rfl (Nat.le_of_ble_eq_true rfl) dX9_isPath_2 (fun H locs hC => ?_)
  refine lv_istore (lv' := [(5, .int r_2), (0, .ref (q 0)), (1, .int a1), (2, .int a2), (3, .int a3), (4, .int a4)]) hx hb dX9_isPath_5 hl (by decide) rfl (fun ls hl => ?_)
  refine lv_iconst (v := (0 : Int32)) hx hb dX9_isPath_7 (by decide) ?_
  refine lv_istore (lv' := [(6, .int (0 : Int32)), (5, .int r_2), (0, .ref (q 0)), (1, .int a1), (2, .int a2), (3, .int a3), (4, .int a4)]) hx hb dX9_isPath_8 hl (by decide) rfl (fun ls hl => ?_)
  refine Rw_isPath_10 τ_3 fx hR hf a1 a2 a3 a4 fuel r_2 (0 : Int32) hm _ _ _ hC (lv_sub hl [2, 3, 4, 5, 6, 1, 0] rfl) (fun u_15 H locs ls hm hC hl => ?_)
  refine lv_iload hx hb dX9_isPath_88 (lv_at hl 0 rfl) ?_
  have h_16 := (gb_in hm).1
  replace hm := (gb_in hm).2
  cases hm
  exact g_zret fx hr h_16 hC rfl dX9_isPath_90
def Rs_paths_39 {ρ : Type} (p1 : Int32) (p2 : Int32) (p3 : Int32) (kx94 : RS → Option ρ) (rc : Int32 → RS → Option ρ) (v4 : Int32) (τ : RS) : Option ρ :=
  if (4096 : Int32) ≤ v4 then (kx94  τ) else (if (30 : Int32) ≤ (τ.1 6) then (kx94  τ) else (if (Rm_net τ) ≤ v4 then (b1 (Rm_put τ v4 (0 : Int32)) (fun τ_8 => rc (v4 + (1 : Int32)) τ_8)) else (b2 (Rm_isPath τ v4 p1 p2 p3) (fun r_10 τ_11 => if r_10 = (0 : Int32) then (b1 (Rm_put τ_11 v4 (0 : Int32)) (fun τ_14 => rc (v4 + (1 : Int32)) τ_14)) else (b1 (Rm_put τ_11 v4 (1 : Int32)) (fun τ_16 => rc (v4 + (1 : Int32)) τ_16))))))
def Rm_paths (τ : RS) (a1 : Int32) (a2 : Int32) (a3 : Int32) : Option (Int32 × RS) :=
  if (Rm_in a1 (0 : Int32) ((τ.1 0) - (1 : Int32))) = (0 : Int32) then (some ((-2 : Int32), τ)) else (if (Rm_in a2 (0 : Int32) ((τ.1 0) - (1 : Int32))) = (0 : Int32) then (some ((-2 : Int32), τ)) else (if a1 = a2 then (some ((-2 : Int32), τ)) else (it2 (Rs_paths_39 a1 a2 a3 (fun τ_17 => b2 (Rm_made τ_17 (1 : Int32)) (fun r_19 τ_20 => some (r_19, τ_20)))) fuel (0 : Int32) τ)))
abbrev Rrm_paths : Room := { frames := 4, cells := 0, slots := 0, locals := 97 }
set_option maxRecDepth 100000 in
set_option maxHeartbeats 4000000 in
theorem Rw_paths_39 {ρ : Type} {out : ρ} {p : Program} {l : Launch} {e : Env} {R : Room} {s : State} {m : MethodId} {args : Array Value} {below : List Frame} {meth : Method} {c : Code} {cells slots : Nat} {Q : State → Prop} {D : va_G} {cy : Nat → ClassId} {ad : List Nat} {q : Nat → Nat} {X : va_W} (fx : FX p s m args meth c cX9_paths 5 RX9 D cy) (hR : 4 ≤ R.frames ∧ 97 ≤ R.locals) (hf : cells ≤ R.cells ∧ slots ≤ R.slots) (p1 : Int32) (p2 : Int32) (p3 : Int32) {kx94 : RS → Option ρ} :
    ∀ (n : Nat) (v4 : Int32) (τ : RS), it2 (Rs_paths_39 p1 p2 p3 kx94) n v4 τ = some out → ∀ (H : Heap) (locs : List Loc) (ls : Array Slot), GC D (rwd cy q X) ad s τ H locs → lv_has ls 5 [(0, .ref (q 0)), (1, .int p1), (2, .int p2), (3, .int p3), (4, .int v4)] → (∀ (τ2 : RS) (H : Heap) (locs : List Loc) (ls : Array Slot), kx94 τ2 = some out → GC D (rwd cy q X) ad s τ2 H locs → lv_has ls 5 [(0, .ref (q 0))] → W p l e R s m args below meth c H locs cells slots Q (F0 m 94 ls [])) → W p l e R s m args below meth c H locs cells slots Q (F0 m 39 ls []) := by
  have hx := fx.1
  have hb := fx.2.1
  intro n
  induction n with
  | zero => intro v4 τ hm; exact (it2_z hm).elim
  | succ n ih =>
    intro v4 τ hm H locs ls hC hl hx94
    obtain ⟨rc, hrc⟩ : ∃ z, z = it2 (Rs_paths_39 p1 p2 p3 kx94) n := ⟨_, rfl⟩
    replace hm : Rs_paths_39 p1 p2 p3 kx94 rc v4 τ = some out := by rw [hrc]; exact hm
    unfold Rs_paths_39 at hm
    refine lv_iload hx hb dX9_paths_39 (lv_at hl 4 rfl) ?_
    refine lv_sipush (v := (4096 : Int32)) hx hb dX9_paths_41 (by decide) ?_
    refine lv_icmp_ge (tgt := 94) hx hb dX9_paths_44 (by decide) (fun c_4 => ?_) (fun c_4 => ?_)
    · replace hm := ifp hm c_4
      exact hx94 _ _ _ _ hm hC (lv_sub hl [0] rfl)
    · replace hm := ifn hm c_4
      refine lv_aload_n hx hb dX9_paths_47 rfl (lv_at hl 0 rfl) ?_
      refine Rg_6 fx hC dX9_paths_48 ?_
      refine lv_bipush (v := (30 : Int32)) hx hb dX9_paths_51 (by decide) ?_
      refine lv_icmp_ge (tgt := 94) hx hb dX9_paths_53 (by decide) (fun c_5 => ?_) (fun c_5 => ?_)
      · replace hm := ifp hm c_5
        exact hx94 _ _ _ _ hm hC (lv_sub hl [0] rfl)
      · replace hm := ifn hm c_5
        refine lv_aload_n hx hb dX9_paths_56 rfl (lv_at hl 0 rfl) ?_
        refine lv_iload hx hb dX9_paths_57 (lv_at hl 4 rfl) ?_
        refine lv_iload hx hb dX9_paths_59 (lv_at hl 4 rfl) ?_
        refine lv_aload_n hx hb dX9_paths_61 rfl (lv_at hl 0 rfl) ?_
        refine g_callVi (k0 := 0) (ci := 9) (As := []) (rest := [.int v4, .int v4, .ref (q 0)]) fx hC rw_w (Rc_net l τ) k_233 Rk_net Rh_net rfl rfl rfl ⟨rfl, rfl⟩ ⟨Nat.le_trans (Nat.le_of_ble_eq_true rfl) hR.1, Nat.le_trans (Nat.le_of_ble_eq_true rfl) hR.2⟩ hf rfl hl.1 rfl (Nat.le_of_ble_eq_true rfl) dX9_paths_62 (fun H locs hC => ?_)
        refine lv_icmp_ge (tgt := 84) hx hb dX9_paths_65 (by decide) (fun c_6 => ?_) (fun c_6 => ?_)
        · replace hm := ifp hm c_6
          refine lv_iconst (v := (0 : Int32)) hx hb dX9_paths_84 (by decide) ?_
          obtain ⟨τ_8, e_7, hm⟩ := b1_in hm
          refine g_callVv (k0 := 0) (ci := 9) (As := [.int v4, .int (0 : Int32)]) (rest := []) fx hC rw_w (Rc_put l τ v4 (0 : Int32) e_7) k_237 Rk_put Rh_put rfl rfl rfl ⟨rfl, rfl⟩ ⟨Nat.le_trans (Nat.le_of_ble_eq_true rfl) hR.1, Nat.le_trans (Nat.le_of_ble_eq_true rfl) hR.2⟩ hf rfl hl.1 rfl (Nat.le_of_ble_eq_true rfl) dX9_paths_85 (fun H locs hC => ?_)
          refine lv_iinc (v := (v4 + (1 : Int32))) (lv' := [(4, .int (v4 + (1 : Int32))), (0, .ref (q 0)), (1, .int p1), (2, .int p2), (3, .int p3)]) hx hb dX9_paths_88 hl (k := 4) rfl rfl (by decide) rfl (fun ls hl => ?_)
          refine lv_goto (tgt := 39) hx hb dX9_paths_91 (by decide) ?_
          rw [hrc] at hm
          exact ih _ _ hm _ _ _ hC (lv_sub hl [1, 2, 3, 4, 0] rfl) hx94
        · replace hm := ifn hm c_6
          refine lv_aload_n hx hb dX9_paths_68 rfl (lv_at hl 0 rfl) ?_
          refine lv_iload hx hb dX9_paths_69 (lv_at hl 4 rfl) ?_
          refine lv_iload_n hx hb dX9_paths_71 rfl (lv_at hl 1 rfl) ?_
          refine lv_iload_n hx hb dX9_paths_72 rfl (lv_at hl 2 rfl) ?_
          refine lv_iload_n hx hb dX9_paths_73 rfl (lv_at hl 3 rfl) ?_
          obtain ⟨r_10, τ_11, e_9, hm⟩ := b2_in hm
          refine g_callVi (k0 := 0) (ci := 9) (As := [.int v4, .int p1, .int p2, .int p3]) (rest := [.int v4, .ref (q 0)]) fx hC rw_w (Rc_isPath l τ v4 p1 p2 p3 e_9) k_311 Rk_isPath Rh_isPath rfl rfl rfl ⟨rfl, rfl⟩ ⟨Nat.le_trans (Nat.le_of_ble_eq_true rfl) hR.1, Nat.le_trans (Nat.le_of_ble_eq_true rfl) hR.2⟩ hf rfl hl.1 rfl (Nat.le_of_ble_eq_true rfl) dX9_paths_74 (fun H locs hC => ?_)
          refine lv_if_eq (tgt := 84) hx hb dX9_paths_77 (by decide) (fun c_12 => ?_) (fun c_12 => ?_)
          · replace hm := ifp hm c_12
            refine lv_iconst (v := (0 : Int32)) hx hb dX9_paths_84 (by decide) ?_
            obtain ⟨τ_14, e_13, hm⟩ := b1_in hm
            refine g_callVv (k0 := 0) (ci := 9) (As := [.int v4, .int (0 : Int32)]) (rest := []) fx hC rw_w (Rc_put l τ_11 v4 (0 : Int32) e_13) k_237 Rk_put Rh_put rfl rfl rfl ⟨rfl, rfl⟩ ⟨Nat.le_trans (Nat.le_of_ble_eq_true rfl) hR.1, Nat.le_trans (Nat.le_of_ble_eq_true rfl) hR.2⟩ hf rfl hl.1 rfl (Nat.le_of_ble_eq_true rfl) dX9_paths_85 (fun H locs hC => ?_)
            refine lv_iinc (v := (v4 + (1 : Int32))) (lv' := [(4, .int (v4 + (1 : Int32))), (0, .ref (q 0)), (1, .int p1), (2, .int p2), (3, .int p3)]) hx hb dX9_paths_88 hl (k := 4) rfl rfl (by decide) rfl (fun ls hl => ?_)
            refine lv_goto (tgt := 39) hx hb dX9_paths_91 (by decide) ?_
            rw [hrc] at hm
            exact ih _ _ hm _ _ _ hC (lv_sub hl [1, 2, 3, 4, 0] rfl) hx94
          · replace hm := ifn hm c_12
            refine lv_iconst (v := (1 : Int32)) hx hb dX9_paths_80 (by decide) ?_
            refine lv_goto (tgt := 85) hx hb dX9_paths_81 (by decide) ?_
            obtain ⟨τ_16, e_15, hm⟩ := b1_in hm
            refine g_callVv (k0 := 0) (ci := 9) (As := [.int v4, .int (1 : Int32)]) (rest := []) fx hC rw_w (Rc_put l τ_11 v4 (1 : Int32) e_15) k_237 Rk_put Rh_put rfl rfl rfl ⟨rfl, rfl⟩ ⟨Nat.le_trans (Nat.le_of_ble_eq_true rfl) hR.1, Nat.le_trans (Nat.le_of_ble_eq_true rfl) hR.2⟩ hf rfl hl.1 rfl (Nat.le_of_ble_eq_true rfl) dX9_paths_85 (fun H locs hC => ?_)
            refine lv_iinc (v := (v4 + (1 : Int32))) (lv' := [(4, .int (v4 + (1 : Int32))), (0, .ref (q 0)), (1, .int p1), (2, .int p2), (3, .int p3)]) hx hb dX9_paths_88 hl (k := 4) rfl rfl (by decide) rfl (fun ls hl => ?_)
            refine lv_goto (tgt := 39) hx hb dX9_paths_91 (by decide) ?_
            rw [hrc] at hm
            exact ih _ _ hm _ _ _ hC (lv_sub hl [1, 2, 3, 4, 0] rfl) hx94
set_option maxRecDepth 100000 in
set_option maxHeartbeats 4000000 in
theorem Rc_paths (l : Launch) {D : va_G} {cy : Nat → ClassId} {ad : List Nat} {q : Nat → Nat} {X : va_W} (τ : RS) (a1 : Int32) (a2 : Int32) (a3 : Int32) {o : Int32 × RS} (hm : Rm_paths τ a1 a2 a3 = some o) : GM l yX9_paths cX9_paths 5 (some .int) Rrm_paths D cy (rwd cy q X) ad [.ref (q 0), .int a1, .int a2, .int a3] τ (some (.int o.1)) o.2 := by
  refine g_start RX9 rfl (by decide) (Nat.le_of_ble_eq_true rfl) ?_
  intro p e s m args below meth c fx hr hC ls hl
  have hx := fx.1
  have hb := fx.2.1
  have hR : 4 ≤ (Rrm_paths).frames ∧ 97 ≤ (Rrm_paths).locals := ⟨Nat.le_refl _, Nat.le_refl _⟩
  have hf : 0 ≤ (Rrm_paths).cells ∧ 0 ≤ (Rrm_paths).slots := ⟨Nat.zero_le _, Nat.zero_le _⟩
  have hl : lv_has ls 5 [(0, .ref (q 0)), (1, .int a1), (2, .int a2), (3, .int a3)] := hl
  unfold Rm_paths at hm
  refine lv_iload_n hx hb dX9_paths_0 rfl (lv_at hl 1 rfl) ?_
  refine lv_iconst (v := (0 : Int32)) hx hb dX9_paths_1 (by decide) ?_
  refine lv_aload_n hx hb dX9_paths_2 rfl (lv_at hl 0 rfl) ?_
  refine Rg_0 fx hC dX9_paths_3 ?_
  refine lv_iconst (v := (1 : Int32)) hx hb dX9_paths_6 (by decide) ?_
  refine lv_isub hx hb dX9_paths_7 ?_
  refine g_callSi (As := [.int a1, .int (0 : Int32), .int ((τ.1 0) - (1 : Int32))]) (rest := []) fx hC rw_w (Rc_in l rw_w τ a1 (0 : Int32) ((τ.1 0) - (1 : Int32))) k_140 Rk_in Rh_in ⟨rfl, rfl⟩ ⟨Nat.le_trans (Nat.le_of_ble_eq_true rfl) hR.1, Nat.le_trans (Nat.le_of_ble_eq_true rfl) hR.2⟩ hf rfl hl.1 rfl (Nat.le_of_ble_eq_true rfl) dX9_paths_8 (fun H locs hC => ?_)
  refine lv_if_eq (tgt := 33) hx hb dX9_paths_11 (by decide) (fun c_1 => ?_) (fun c_1 => ?_)
  · replace hm := ifp hm c_1
    refine lv_bipush (v := (-2 : Int32)) hx hb dX9_paths_33 (by decide) ?_
    cases hm
    exact g_iret fx hr hC rfl dX9_paths_35
  · replace hm := ifn hm c_1
    refine lv_iload_n hx hb dX9_paths_14 rfl (lv_at hl 2 rfl) ?_
    refine lv_iconst (v := (0 : Int32)) hx hb dX9_paths_15 (by decide) ?_
    refine lv_aload_n hx hb dX9_paths_16 rfl (lv_at hl 0 rfl) ?_
    refine Rg_0 fx hC dX9_paths_17 ?_
    refine lv_iconst (v := (1 : Int32)) hx hb dX9_paths_20 (by decide) ?_
    refine lv_isub hx hb dX9_paths_21 ?_
    refine g_callSi (As := [.int a2, .int (0 : Int32), .int ((τ.1 0) - (1 : Int32))]) (rest := []) fx hC rw_w (Rc_in l rw_w τ a2 (0 : Int32) ((τ.1 0) - (1 : Int32))) k_140 Rk_in Rh_in ⟨rfl, rfl⟩ ⟨Nat.le_trans (Nat.le_of_ble_eq_true rfl) hR.1, Nat.le_trans (Nat.le_of_ble_eq_true rfl) hR.2⟩ hf rfl hl.1 rfl (Nat.le_of_ble_eq_true rfl) dX9_paths_22 (fun H locs hC => ?_)
    refine lv_if_eq (tgt := 33) hx hb dX9_paths_25 (by decide) (fun c_2 => ?_) (fun c_2 => ?_)
    · replace hm := ifp hm c_2
      refine lv_bipush (v := (-2 : Int32)) hx hb dX9_paths_33 (by decide) ?_
      cases hm
      exact g_iret fx hr hC rfl dX9_paths_35
    · replace hm := ifn hm c_2
      refine lv_iload_n hx hb dX9_paths_28 rfl (lv_at hl 1 rfl) ?_
      refine lv_iload_n hx hb dX9_paths_29 rfl (lv_at hl 2 rfl) ?_
      refine lv_icmp_ne (tgt := 36) hx hb dX9_paths_30 (by decide) (fun c_3 => ?_) (fun c_3 => ?_)
      · replace hm := ifn hm c_3
        refine lv_iconst (v := (0 : Int32)) hx hb dX9_paths_36 (by decide) ?_
        refine lv_istore (lv' := [(4, .int (0 : Int32)), (0, .ref (q 0)), (1, .int a1), (2, .int a2), (3, .int a3)]) hx hb dX9_paths_37 hl (by decide) rfl (fun ls hl => ?_)
        refine Rw_paths_39 fx hR hf a1 a2 a3 fuel (0 : Int32) τ hm _ _ _ hC (lv_sub hl [1, 2, 3, 4, 0] rfl) (fun τ_17 H locs ls hm hC hl => ?_)
        refine lv_aload_n hx hb dX9_paths_94 rfl (lv_at hl 0 rfl) ?_
        refine lv_iconst (v := (1 : Int32)) hx hb dX9_paths_95 (by decide) ?_
        obtain ⟨r_19, τ_20, e_18, hm⟩ := b2_in hm
        refine g_callVi (k0 := 0) (ci := 9) (As := [.int (1 : Int32)]) (rest := []) fx hC rw_w (Rc_made l τ_17 (1 : Int32) e_18) k_241 Rk_made Rh_made rfl rfl rfl ⟨rfl, rfl⟩ ⟨Nat.le_trans (Nat.le_of_ble_eq_true rfl) hR.1, Nat.le_trans (Nat.le_of_ble_eq_true rfl) hR.2⟩ hf rfl hl.1 rfl (Nat.le_of_ble_eq_true rfl) dX9_paths_96 (fun H locs hC => ?_)
        cases hm
        exact g_iret fx hr hC rfl dX9_paths_99
      · replace hm := ifp hm c_3
        refine lv_bipush (v := (-2 : Int32)) hx hb dX9_paths_33 (by decide) ?_
        cases hm
        exact g_iret fx hr hC rfl dX9_paths_35
def Rs_rounds_43 {ρ : Type} (p1 : Int32) (p2 : Int32) (τ : RS) (kx92 : Int32 → Option ρ) (rc : Int32 → Int32 → Option ρ) (v3 : Int32) (v4 : Int32) : Option ρ :=
  if v3 = (0 : Int32) then (kx92 v3) else (if (τ.1 0) ≤ v4 then (kx92 v3) else (b1 (Rm_at τ p2 v4) (fun r_7 => if r_7 = (2 : Int32) then (rc (1 : Int32) (v4 + (1 : Int32))) else (if r_7 = (0 : Int32) then (if p1 = (0 : Int32) then (rc (1 : Int32) (v4 + (1 : Int32))) else (rc (0 : Int32) (v4 + (1 : Int32)))) else (rc (0 : Int32) (v4 + (1 : Int32)))))))
def Rs_rounds_2 {ρ : Type} (p1 : Int32) (kx104 : RS → Option ρ) (rc : Int32 → RS → Option ρ) (v2 : Int32) (τ : RS) : Option ρ :=
  if (4096 : Int32) ≤ v2 then (kx104  τ) else (if (30 : Int32) ≤ (τ.1 6) then (kx104  τ) else (if (Rm_net τ) ≤ v2 then (it2 (Rs_rounds_43 p1 v2 τ (fun u_11 => b1 (Rm_put τ v2 u_11) (fun τ_13 => rc (v2 + (1 : Int32)) τ_13))) fuel (0 : Int32) (0 : Int32)) else (b2 (Rm_isOne τ v2) (fun r_15 τ_16 => if r_15 = (0 : Int32) then (it2 (Rs_rounds_43 p1 v2 τ_16 (fun u_18 => b1 (Rm_put τ_16 v2 u_18) (fun τ_20 => rc (v2 + (1 : Int32)) τ_20))) fuel (0 : Int32) (0 : Int32)) else (it2 (Rs_rounds_43 p1 v2 τ_16 (fun u_21 => b1 (Rm_put τ_16 v2 u_21) (fun τ_23 => rc (v2 + (1 : Int32)) τ_23))) fuel (1 : Int32) (0 : Int32))))))
def Rm_rounds (τ : RS) (a1 : Int32) : Option (Int32 × RS) :=
  it2 (Rs_rounds_2 a1 (fun τ_24 => b2 (Rm_made τ_24 (2 : Int32)) (fun r_26 τ_27 => some (r_26, τ_27)))) fuel (0 : Int32) τ
abbrev Rrm_rounds : Room := { frames := 3, cells := 0, slots := 0, locals := 70 }
set_option maxRecDepth 100000 in
set_option maxHeartbeats 4000000 in
theorem Rw_rounds_43 {ρ : Type} {out : ρ} {p : Program} {l : Launch} {e : Env} {R : Room} {s : State} {m : MethodId} {args : Array Value} {below : List Frame} {meth : Method} {c : Code} {cells slots : Nat} {Q : State → Prop} {D : va_G} {cy : Nat → ClassId} {ad : List Nat} {q : Nat → Nat} {X : va_W} (τ : RS) (fx : FX p s m args meth c cX9_rounds 6 RX9 D cy) (hR : 3 ≤ R.frames ∧ 70 ≤ R.locals) (hf : cells ≤ R.cells ∧ slots ≤ R.slots) (p1 : Int32) (p2 : Int32) {kx92 : Int32 → Option ρ} :
    ∀ (n : Nat) (v3 : Int32) (v4 : Int32), it2 (Rs_rounds_43 p1 p2 τ kx92) n v3 v4 = some out → ∀ (H : Heap) (locs : List Loc) (ls : Array Slot), GC D (rwd cy q X) ad s τ H locs → lv_has ls 6 [(0, .ref (q 0)), (1, .int p1), (2, .int p2), (3, .int v3), (4, .int v4)] → (∀ (u3 : Int32) (H : Heap) (locs : List Loc) (ls : Array Slot), kx92 u3 = some out → GC D (rwd cy q X) ad s τ H locs → lv_has ls 6 [(0, .ref (q 0)), (1, .int p1), (2, .int p2), (3, .int u3)] → W p l e R s m args below meth c H locs cells slots Q (F0 m 92 ls [])) → W p l e R s m args below meth c H locs cells slots Q (F0 m 43 ls []) := by
  have hx := fx.1
  have hb := fx.2.1
  intro n
  induction n with
  | zero => intro v3 v4 hm; exact (it2_z hm).elim
  | succ n ih =>
    intro v3 v4 hm H locs ls hC hl hx92
    obtain ⟨rc, hrc⟩ : ∃ z, z = it2 (Rs_rounds_43 p1 p2 τ kx92) n := ⟨_, rfl⟩
    replace hm : Rs_rounds_43 p1 p2 τ kx92 rc v3 v4 = some out := by rw [hrc]; exact hm
    unfold Rs_rounds_43 at hm
    refine lv_iload_n hx hb dX9_rounds_43 rfl (lv_at hl 3 rfl) ?_
    refine lv_if_eq (tgt := 92) hx hb dX9_rounds_44 (by decide) (fun c_4 => ?_) (fun c_4 => ?_)
    · replace hm := ifp hm c_4
      exact hx92 _ _ _ _ hm hC (lv_sub hl [0, 1, 2, 3] rfl)
    · replace hm := ifn hm c_4
      refine lv_iload hx hb dX9_rounds_47 (lv_at hl 4 rfl) ?_
      refine lv_aload_n hx hb dX9_rounds_49 rfl (lv_at hl 0 rfl) ?_
      refine Rg_0 fx hC dX9_rounds_50 ?_
      refine lv_icmp_ge (tgt := 92) hx hb dX9_rounds_53 (by decide) (fun c_5 => ?_) (fun c_5 => ?_)
      · replace hm := ifp hm c_5
        exact hx92 _ _ _ _ hm hC (lv_sub hl [0, 1, 2, 3] rfl)
      · replace hm := ifn hm c_5
        refine lv_aload_n hx hb dX9_rounds_56 rfl (lv_at hl 0 rfl) ?_
        refine lv_iload_n hx hb dX9_rounds_57 rfl (lv_at hl 2 rfl) ?_
        refine lv_iload hx hb dX9_rounds_58 (lv_at hl 4 rfl) ?_
        obtain ⟨r_7, e_6, hm⟩ := b1_in hm
        refine g_callVi (k0 := 0) (ci := 9) (As := [.int p2, .int v4]) (rest := []) fx hC rw_w (Rc_at l τ p2 v4 e_6) k_319 Rk_at Rh_at rfl rfl rfl ⟨rfl, rfl⟩ ⟨Nat.le_trans (Nat.le_of_ble_eq_true rfl) hR.1, Nat.le_trans (Nat.le_of_ble_eq_true rfl) hR.2⟩ hf rfl hl.1 rfl (Nat.le_of_ble_eq_true rfl) dX9_rounds_60 (fun H locs hC => ?_)
        refine lv_istore (lv' := [(5, .int r_7), (0, .ref (q 0)), (1, .int p1), (2, .int p2), (3, .int v3), (4, .int v4)]) hx hb dX9_rounds_63 hl (by decide) rfl (fun ls hl => ?_)
        refine lv_iload hx hb dX9_rounds_65 (lv_at hl 0 rfl) ?_
        refine lv_iconst (v := (2 : Int32)) hx hb dX9_rounds_67 (by decide) ?_
        refine lv_icmp_eq (tgt := 80) hx hb dX9_rounds_68 (by decide) (fun c_8 => ?_) (fun c_8 => ?_)
        · replace hm := ifp hm c_8
          refine lv_iconst (v := (1 : Int32)) hx hb dX9_rounds_80 (by decide) ?_
          refine lv_goto (tgt := 85) hx hb dX9_rounds_81 (by decide) ?_
          refine lv_istore_n (lv' := [(3, .int (1 : Int32)), (5, .int r_7), (0, .ref (q 0)), (1, .int p1), (2, .int p2), (4, .int v4)]) hx hb dX9_rounds_85 rfl hl (by decide) rfl (fun ls hl => ?_)
          refine lv_iinc (v := (v4 + (1 : Int32))) (lv' := [(4, .int (v4 + (1 : Int32))), (3, .int (1 : Int32)), (5, .int r_7), (0, .ref (q 0)), (1, .int p1), (2, .int p2)]) hx hb dX9_rounds_86 hl (k := 5) rfl rfl (by decide) rfl (fun ls hl => ?_)
          refine lv_goto (tgt := 43) hx hb dX9_rounds_89 (by decide) ?_
          rw [hrc] at hm
          exact ih _ _ hm _ _ _ hC (lv_sub hl [3, 4, 5, 1, 0] rfl) hx92
        · replace hm := ifn hm c_8
          refine lv_iload hx hb dX9_rounds_71 (lv_at hl 0 rfl) ?_
          refine lv_if_ne (tgt := 84) hx hb dX9_rounds_73 (by decide) (fun c_9 => ?_) (fun c_9 => ?_)
          · replace hm := ifn hm c_9
            refine lv_iconst (v := (0 : Int32)) hx hb dX9_rounds_84 (by decide) ?_
            refine lv_istore_n (lv' := [(3, .int (0 : Int32)), (5, .int r_7), (0, .ref (q 0)), (1, .int p1), (2, .int p2), (4, .int v4)]) hx hb dX9_rounds_85 rfl hl (by decide) rfl (fun ls hl => ?_)
            refine lv_iinc (v := (v4 + (1 : Int32))) (lv' := [(4, .int (v4 + (1 : Int32))), (3, .int (0 : Int32)), (5, .int r_7), (0, .ref (q 0)), (1, .int p1), (2, .int p2)]) hx hb dX9_rounds_86 hl (k := 5) rfl rfl (by decide) rfl (fun ls hl => ?_)
            refine lv_goto (tgt := 43) hx hb dX9_rounds_89 (by decide) ?_
            rw [hrc] at hm
            exact ih _ _ hm _ _ _ hC (lv_sub hl [3, 4, 5, 1, 0] rfl) hx92
          · replace hm := ifp hm c_9
            refine lv_iload_n hx hb dX9_rounds_76 rfl (lv_at hl 2 rfl) ?_
            refine lv_if_ne (tgt := 84) hx hb dX9_rounds_77 (by decide) (fun c_10 => ?_) (fun c_10 => ?_)
            · replace hm := ifn hm c_10
              refine lv_iconst (v := (0 : Int32)) hx hb dX9_rounds_84 (by decide) ?_
              refine lv_istore_n (lv' := [(3, .int (0 : Int32)), (5, .int r_7), (0, .ref (q 0)), (1, .int p1), (2, .int p2), (4, .int v4)]) hx hb dX9_rounds_85 rfl hl (by decide) rfl (fun ls hl => ?_)
              refine lv_iinc (v := (v4 + (1 : Int32))) (lv' := [(4, .int (v4 + (1 : Int32))), (3, .int (0 : Int32)), (5, .int r_7), (0, .ref (q 0)), (1, .int p1), (2, .int p2)]) hx hb dX9_rounds_86 hl (k := 5) rfl rfl (by decide) rfl (fun ls hl => ?_)
              refine lv_goto (tgt := 43) hx hb dX9_rounds_89 (by decide) ?_
              rw [hrc] at hm
              exact ih _ _ hm _ _ _ hC (lv_sub hl [3, 4, 5, 1, 0] rfl) hx92
            · replace hm := ifp hm c_10
              refine lv_iconst (v := (1 : Int32)) hx hb dX9_rounds_80 (by decide) ?_
              refine lv_goto (tgt := 85) hx hb dX9_rounds_81 (by decide) ?_
              refine lv_istore_n (lv' := [(3, .int (1 : Int32)), (5, .int r_7), (0, .ref (q 0)), (1, .int p1), (2, .int p2), (4, .int v4)]) hx hb dX9_rounds_85 rfl hl (by decide) rfl (fun ls hl => ?_)
              refine lv_iinc (v := (v4 + (1 : Int32))) (lv' := [(4, .int (v4 + (1 : Int32))), (3, .int (1 : Int32)), (5, .int r_7), (0, .ref (q 0)), (1, .int p1), (2, .int p2)]) hx hb dX9_rounds_86 hl (k := 5) rfl rfl (by decide) rfl (fun ls hl => ?_)
              refine lv_goto (tgt := 43) hx hb dX9_rounds_89 (by decide) ?_
              rw [hrc] at hm
              exact ih _ _ hm _ _ _ hC (lv_sub hl [3, 4, 5, 1, 0] rfl) hx92
set_option maxRecDepth 100000 in
set_option maxHeartbeats 4000000 in
theorem Rw_rounds_2 {ρ : Type} {out : ρ} {p : Program} {l : Launch} {e : Env} {R : Room} {s : State} {m : MethodId} {args : Array Value} {below : List Frame} {meth : Method} {c : Code} {cells slots : Nat} {Q : State → Prop} {D : va_G} {cy : Nat → ClassId} {ad : List Nat} {q : Nat → Nat} {X : va_W} (fx : FX p s m args meth c cX9_rounds 6 RX9 D cy) (hR : 3 ≤ R.frames ∧ 70 ≤ R.locals) (hf : cells ≤ R.cells ∧ slots ≤ R.slots) (p1 : Int32) {kx104 : RS → Option ρ} :
    ∀ (n : Nat) (v2 : Int32) (τ : RS), it2 (Rs_rounds_2 p1 kx104) n v2 τ = some out → ∀ (H : Heap) (locs : List Loc) (ls : Array Slot), GC D (rwd cy q X) ad s τ H locs → lv_has ls 6 [(0, .ref (q 0)), (1, .int p1), (2, .int v2)] → (∀ (τ2 : RS) (H : Heap) (locs : List Loc) (ls : Array Slot), kx104 τ2 = some out → GC D (rwd cy q X) ad s τ2 H locs → lv_has ls 6 [(0, .ref (q 0))] → W p l e R s m args below meth c H locs cells slots Q (F0 m 104 ls [])) → W p l e R s m args below meth c H locs cells slots Q (F0 m 2 ls []) := by
  have hx := fx.1
  have hb := fx.2.1
  intro n
  induction n with
  | zero => intro v2 τ hm; exact (it2_z hm).elim
  | succ n ih =>
    intro v2 τ hm H locs ls hC hl hx104
    obtain ⟨rc, hrc⟩ : ∃ z, z = it2 (Rs_rounds_2 p1 kx104) n := ⟨_, rfl⟩
    replace hm : Rs_rounds_2 p1 kx104 rc v2 τ = some out := by rw [hrc]; exact hm
    unfold Rs_rounds_2 at hm
    refine lv_iload_n hx hb dX9_rounds_2 rfl (lv_at hl 2 rfl) ?_
    refine lv_sipush (v := (4096 : Int32)) hx hb dX9_rounds_3 (by decide) ?_
    refine lv_icmp_ge (tgt := 104) hx hb dX9_rounds_6 (by decide) (fun c_1 => ?_) (fun c_1 => ?_)
    · replace hm := ifp hm c_1
      exact hx104 _ _ _ _ hm hC (lv_sub hl [0] rfl)
    · replace hm := ifn hm c_1
      refine lv_aload_n hx hb dX9_rounds_9 rfl (lv_at hl 0 rfl) ?_
      refine Rg_6 fx hC dX9_rounds_10 ?_
      refine lv_bipush (v := (30 : Int32)) hx hb dX9_rounds_13 (by decide) ?_
      refine lv_icmp_ge (tgt := 104) hx hb dX9_rounds_15 (by decide) (fun c_2 => ?_) (fun c_2 => ?_)
      · replace hm := ifp hm c_2
        exact hx104 _ _ _ _ hm hC (lv_sub hl [0] rfl)
      · replace hm := ifn hm c_2
        refine lv_iload_n hx hb dX9_rounds_18 rfl (lv_at hl 2 rfl) ?_
        refine lv_aload_n hx hb dX9_rounds_19 rfl (lv_at hl 0 rfl) ?_
        refine g_callVi (k0 := 0) (ci := 9) (As := []) (rest := [.int v2]) fx hC rw_w (Rc_net l τ) k_233 Rk_net Rh_net rfl rfl rfl ⟨rfl, rfl⟩ ⟨Nat.le_trans (Nat.le_of_ble_eq_true rfl) hR.1, Nat.le_trans (Nat.le_of_ble_eq_true rfl) hR.2⟩ hf rfl hl.1 rfl (Nat.le_of_ble_eq_true rfl) dX9_rounds_20 (fun H locs hC => ?_)
        refine lv_icmp_ge (tgt := 38) hx hb dX9_rounds_23 (by decide) (fun c_3 => ?_) (fun c_3 => ?_)
        · replace hm := ifp hm c_3
          refine lv_iconst (v := (0 : Int32)) hx hb dX9_rounds_38 (by decide) ?_
          refine lv_istore_n (lv' := [(3, .int (0 : Int32)), (0, .ref (q 0)), (1, .int p1), (2, .int v2)]) hx hb dX9_rounds_39 rfl hl (by decide) rfl (fun ls hl => ?_)
          refine lv_iconst (v := (0 : Int32)) hx hb dX9_rounds_40 (by decide) ?_
          refine lv_istore (lv' := [(4, .int (0 : Int32)), (3, .int (0 : Int32)), (0, .ref (q 0)), (1, .int p1), (2, .int v2)]) hx hb dX9_rounds_41 hl (by decide) rfl (fun ls hl => ?_)
          refine Rw_rounds_43 τ fx hR hf p1 v2 fuel (0 : Int32) (0 : Int32) hm _ _ _ hC (lv_sub hl [2, 3, 4, 1, 0] rfl) (fun u_11 H locs ls hm hC hl => ?_)
          refine lv_aload_n hx hb dX9_rounds_92 rfl (lv_at hl 0 rfl) ?_
          refine lv_iload_n hx hb dX9_rounds_93 rfl (lv_at hl 2 rfl) ?_
          refine lv_iload_n hx hb dX9_rounds_94 rfl (lv_at hl 3 rfl) ?_
          obtain ⟨τ_13, e_12, hm⟩ := b1_in hm
          refine g_callVv (k0 := 0) (ci := 9) (As := [.int v2, .int u_11]) (rest := []) fx hC rw_w (Rc_put l τ v2 u_11 e_12) k_237 Rk_put Rh_put rfl rfl rfl ⟨rfl, rfl⟩ ⟨Nat.le_trans (Nat.le_of_ble_eq_true rfl) hR.1, Nat.le_trans (Nat.le_of_ble_eq_true rfl) hR.2⟩ hf rfl hl.1 rfl (Nat.le_of_ble_eq_true rfl) dX9_rounds_95 (fun H locs hC => ?_)
          refine lv_iinc (v := (v2 + (1 : Int32))) (lv' := [(2, .int (v2 + (1 : Int32))), (0, .ref (q 0)), (1, .int p1), (3, .int u_11)]) hx hb dX9_rounds_98 hl (k := 2) rfl rfl (by decide) rfl (fun ls hl => ?_)
          refine lv_goto (tgt := 2) hx hb dX9_rounds_101 (by decide) ?_
          rw [hrc] at hm
          exact ih _ _ hm _ _ _ hC (lv_sub hl [1, 2, 0] rfl) hx104
        · replace hm := ifn hm c_3
          refine lv_aload_n hx hb dX9_rounds_26 rfl (lv_at hl 0 rfl) ?_
          refine lv_iload_n hx hb dX9_rounds_27 rfl (lv_at hl 2 rfl) ?_
          obtain ⟨r_15, τ_16, e_14, hm⟩ := b2_in hm
          refine g_callVi (k0 := 0) (ci := 9) (As := [.int v2]) (rest := []) fx hC rw_w (Rc_isOne l τ v2 e_14) k_315 Rk_isOne Rh_isOne rfl rfl rfl ⟨rfl, rfl⟩ ⟨Nat.le_trans (Nat.le_of_ble_eq_true rfl) hR.1, Nat.le_trans (Nat.le_of_ble_eq_true rfl) hR.2⟩ hf rfl hl.1 rfl (Nat.le_of_ble_eq_true rfl) dX9_rounds_28 (fun H locs hC => ?_)
          refine lv_if_eq (tgt := 38) hx hb dX9_rounds_31 (by decide) (fun c_17 => ?_) (fun c_17 => ?_)
          · replace hm := ifp hm c_17
            refine lv_iconst (v := (0 : Int32)) hx hb dX9_rounds_38 (by decide) ?_
            refine lv_istore_n (lv' := [(3, .int (0 : Int32)), (0, .ref (q 0)), (1, .int p1), (2, .int v2)]) hx hb dX9_rounds_39 rfl hl (by decide) rfl (fun ls hl => ?_)
            refine lv_iconst (v := (0 : Int32)) hx hb dX9_rounds_40 (by decide) ?_
            refine lv_istore (lv' := [(4, .int (0 : Int32)), (3, .int (0 : Int32)), (0, .ref (q 0)), (1, .int p1), (2, .int v2)]) hx hb dX9_rounds_41 hl (by decide) rfl (fun ls hl => ?_)
            refine Rw_rounds_43 τ_16 fx hR hf p1 v2 fuel (0 : Int32) (0 : Int32) hm _ _ _ hC (lv_sub hl [2, 3, 4, 1, 0] rfl) (fun u_18 H locs ls hm hC hl => ?_)
            refine lv_aload_n hx hb dX9_rounds_92 rfl (lv_at hl 0 rfl) ?_
            refine lv_iload_n hx hb dX9_rounds_93 rfl (lv_at hl 2 rfl) ?_
            refine lv_iload_n hx hb dX9_rounds_94 rfl (lv_at hl 3 rfl) ?_
            obtain ⟨τ_20, e_19, hm⟩ := b1_in hm
            refine g_callVv (k0 := 0) (ci := 9) (As := [.int v2, .int u_18]) (rest := []) fx hC rw_w (Rc_put l τ_16 v2 u_18 e_19) k_237 Rk_put Rh_put rfl rfl rfl ⟨rfl, rfl⟩ ⟨Nat.le_trans (Nat.le_of_ble_eq_true rfl) hR.1, Nat.le_trans (Nat.le_of_ble_eq_true rfl) hR.2⟩ hf rfl hl.1 rfl (Nat.le_of_ble_eq_true rfl) dX9_rounds_95 (fun H locs hC => ?_)
            refine lv_iinc (v := (v2 + (1 : Int32))) (lv' := [(2, .int (v2 + (1 : Int32))), (0, .ref (q 0)), (1, .int p1), (3, .int u_18)]) hx hb dX9_rounds_98 hl (k := 2) rfl rfl (by decide) rfl (fun ls hl => ?_)
            refine lv_goto (tgt := 2) hx hb dX9_rounds_101 (by decide) ?_
            rw [hrc] at hm
            exact ih _ _ hm _ _ _ hC (lv_sub hl [1, 2, 0] rfl) hx104
          · replace hm := ifn hm c_17
            refine lv_iconst (v := (1 : Int32)) hx hb dX9_rounds_34 (by decide) ?_
            refine lv_goto (tgt := 39) hx hb dX9_rounds_35 (by decide) ?_
            refine lv_istore_n (lv' := [(3, .int (1 : Int32)), (0, .ref (q 0)), (1, .int p1), (2, .int v2)]) hx hb dX9_rounds_39 rfl hl (by decide) rfl (fun ls hl => ?_)
            refine lv_iconst (v := (0 : Int32)) hx hb dX9_rounds_40 (by decide) ?_
            refine lv_istore (lv' := [(4, .int (0 : Int32)), (3, .int (1 : Int32)), (0, .ref (q 0)), (1, .int p1), (2, .int v2)]) hx hb dX9_rounds_41 hl (by decide) rfl (fun ls hl => ?_)
            refine Rw_rounds_43 τ_16 fx hR hf p1 v2 fuel (1 : Int32) (0 : Int32) hm _ _ _ hC (lv_sub hl [2, 3, 4, 1, 0] rfl) (fun u_21 H locs ls hm hC hl => ?_)
            refine lv_aload_n hx hb dX9_rounds_92 rfl (lv_at hl 0 rfl) ?_
            refine lv_iload_n hx hb dX9_rounds_93 rfl (lv_at hl 2 rfl) ?_
            refine lv_iload_n hx hb dX9_rounds_94 rfl (lv_at hl 3 rfl) ?_
            obtain ⟨τ_23, e_22, hm⟩ := b1_in hm
            refine g_callVv (k0 := 0) (ci := 9) (As := [.int v2, .int u_21]) (rest := []) fx hC rw_w (Rc_put l τ_16 v2 u_21 e_22) k_237 Rk_put Rh_put rfl rfl rfl ⟨rfl, rfl⟩ ⟨Nat.le_trans (Nat.le_of_ble_eq_true rfl) hR.1, Nat.le_trans (Nat.le_of_ble_eq_true rfl) hR.2⟩ hf rfl hl.1 rfl (Nat.le_of_ble_eq_true rfl) dX9_rounds_95 (fun H locs hC => ?_)
            refine lv_iinc (v := (v2 + (1 : Int32))) (lv' := [(2, .int (v2 + (1 : Int32))), (0, .ref (q 0)), (1, .int p1), (3, .int u_21)]) hx hb dX9_rounds_98 hl (k := 2) rfl rfl (by decide) rfl (fun ls hl => ?_)
            refine lv_goto (tgt := 2) hx hb dX9_rounds_101 (by decide) ?_
            rw [hrc] at hm
            exact ih _ _ hm _ _ _ hC (lv_sub hl [1, 2, 0] rfl) hx104
set_option maxRecDepth 100000 in
set_option maxHeartbeats 4000000 in
theorem Rc_rounds (l : Launch) {D : va_G} {cy : Nat → ClassId} {ad : List Nat} {q : Nat → Nat} {X : va_W} (τ : RS) (a1 : Int32) {o : Int32 × RS} (hm : Rm_rounds τ a1 = some o) : GM l yX9_rounds cX9_rounds 6 (some .int) Rrm_rounds D cy (rwd cy q X) ad [.ref (q 0), .int a1] τ (some (.int o.1)) o.2 := by
  refine g_start RX9 rfl (by decide) (Nat.le_of_ble_eq_true rfl) ?_
  intro p e s m args below meth c fx hr hC ls hl
  have hx := fx.1
  have hb := fx.2.1
  have hR : 3 ≤ (Rrm_rounds).frames ∧ 70 ≤ (Rrm_rounds).locals := ⟨Nat.le_refl _, Nat.le_refl _⟩
  have hf : 0 ≤ (Rrm_rounds).cells ∧ 0 ≤ (Rrm_rounds).slots := ⟨Nat.zero_le _, Nat.zero_le _⟩
  have hl : lv_has ls 6 [(0, .ref (q 0)), (1, .int a1)] := hl
  unfold Rm_rounds at hm
  refine lv_iconst (v := (0 : Int32)) hx hb dX9_rounds_0 (by decide) ?_
  refine lv_istore_n (lv' := [(2, .int (0 : Int32)), (0, .ref (q 0)), (1, .int a1)]) hx hb dX9_rounds_1 rfl hl (by decide) rfl (fun ls hl => ?_)
  refine Rw_rounds_2 fx hR hf a1 fuel (0 : Int32) τ hm _ _ _ hC (lv_sub hl [1, 2, 0] rfl) (fun τ_24 H locs ls hm hC hl => ?_)
  refine lv_aload_n hx hb dX9_rounds_104 rfl (lv_at hl 0 rfl) ?_
  refine lv_iconst (v := (2 : Int32)) hx hb dX9_rounds_105 (by decide) ?_
  obtain ⟨r_26, τ_27, e_25, hm⟩ := b2_in hm
  refine g_callVi (k0 := 0) (ci := 9) (As := [.int (2 : Int32)]) (rest := []) fx hC rw_w (Rc_made l τ_24 (2 : Int32) e_25) k_241 Rk_made Rh_made rfl rfl rfl ⟨rfl, rfl⟩ ⟨Nat.le_trans (Nat.le_of_ble_eq_true rfl) hR.1, Nat.le_trans (Nat.le_of_ble_eq_true rfl) hR.2⟩ hf rfl hl.1 rfl (Nat.le_of_ble_eq_true rfl) dX9_rounds_106 (fun H locs hC => ?_)
  cases hm
  exact g_iret fx hr hC rfl dX9_rounds_109
def Rs_trees_17 {ρ : Type} (p1 : Int32) (kx74 : RS → Option ρ) (rc : Int32 → RS → Option ρ) (v2 : Int32) (τ : RS) : Option ρ :=
  if (4096 : Int32) ≤ v2 then (kx74  τ) else (if (30 : Int32) ≤ (τ.1 6) then (kx74  τ) else (if (Rm_net τ) ≤ v2 then (b1 (Rm_put τ v2 (0 : Int32)) (fun τ_6 => rc (v2 + (1 : Int32)) τ_6)) else (b2 (Rm_hasRing τ v2) (fun r_8 τ_9 => if r_8 = (0 : Int32) then (b2 (Rm_heaps τ_9 v2) (fun r_14 τ_15 => if r_14 = p1 then (b1 (Rm_put τ_15 v2 (1 : Int32)) (fun τ_20 => rc (v2 + (1 : Int32)) τ_20)) else (b1 (Rm_put τ_15 v2 (0 : Int32)) (fun τ_18 => rc (v2 + (1 : Int32)) τ_18)))) else (b1 (Rm_put τ_9 v2 (0 : Int32)) (fun τ_12 => rc (v2 + (1 : Int32)) τ_12))))))
def Rm_trees (τ : RS) (a1 : Int32) : Option (Int32 × RS) :=
  if (Rm_in a1 (1 : Int32) (τ.1 0)) = (0 : Int32) then (some ((-2 : Int32), τ)) else (it2 (Rs_trees_17 a1 (fun τ_21 => b2 (Rm_made τ_21 (3 : Int32)) (fun r_23 τ_24 => some (r_23, τ_24)))) fuel (0 : Int32) τ)
abbrev Rrm_trees : Room := { frames := 3, cells := 0, slots := 0, locals := 68 }
set_option maxRecDepth 100000 in
set_option maxHeartbeats 4000000 in
theorem Rw_trees_17 {ρ : Type} {out : ρ} {p : Program} {l : Launch} {e : Env} {R : Room} {s : State} {m : MethodId} {args : Array Value} {below : List Frame} {meth : Method} {c : Code} {cells slots : Nat} {Q : State → Prop} {D : va_G} {cy : Nat → ClassId} {ad : List Nat} {q : Nat → Nat} {X : va_W} (fx : FX p s m args meth c cX9_trees 3 RX9 D cy) (hR : 3 ≤ R.frames ∧ 68 ≤ R.locals) (hf : cells ≤ R.cells ∧ slots ≤ R.slots) (p1 : Int32) {kx74 : RS → Option ρ} :
    ∀ (n : Nat) (v2 : Int32) (τ : RS), it2 (Rs_trees_17 p1 kx74) n v2 τ = some out → ∀ (H : Heap) (locs : List Loc) (ls : Array Slot), GC D (rwd cy q X) ad s τ H locs → lv_has ls 3 [(0, .ref (q 0)), (1, .int p1), (2, .int v2)] → (∀ (τ2 : RS) (H : Heap) (locs : List Loc) (ls : Array Slot), kx74 τ2 = some out → GC D (rwd cy q X) ad s τ2 H locs → lv_has ls 3 [(0, .ref (q 0))] → W p l e R s m args below meth c H locs cells slots Q (F0 m 74 ls [])) → W p l e R s m args below meth c H locs cells slots Q (F0 m 17 ls []) := by
  have hx := fx.1
  have hb := fx.2.1
  intro n
  induction n with
  | zero => intro v2 τ hm; exact (it2_z hm).elim
  | succ n ih =>
    intro v2 τ hm H locs ls hC hl hx74
    obtain ⟨rc, hrc⟩ : ∃ z, z = it2 (Rs_trees_17 p1 kx74) n := ⟨_, rfl⟩
    replace hm : Rs_trees_17 p1 kx74 rc v2 τ = some out := by rw [hrc]; exact hm
    unfold Rs_trees_17 at hm
    refine lv_iload_n hx hb dX9_trees_17 rfl (lv_at hl 2 rfl) ?_
    refine lv_sipush (v := (4096 : Int32)) hx hb dX9_trees_18 (by decide) ?_
    refine lv_icmp_ge (tgt := 74) hx hb dX9_trees_21 (by decide) (fun c_2 => ?_) (fun c_2 => ?_)
    · replace hm := ifp hm c_2
      exact hx74 _ _ _ _ hm hC (lv_sub hl [0] rfl)
    · replace hm := ifn hm c_2
      refine lv_aload_n hx hb dX9_trees_24 rfl (lv_at hl 0 rfl) ?_
      refine Rg_6 fx hC dX9_trees_25 ?_
      refine lv_bipush (v := (30 : Int32)) hx hb dX9_trees_28 (by decide) ?_
      refine lv_icmp_ge (tgt := 74) hx hb dX9_trees_30 (by decide) (fun c_3 => ?_) (fun c_3 => ?_)
      · replace hm := ifp hm c_3
        exact hx74 _ _ _ _ hm hC (lv_sub hl [0] rfl)
      · replace hm := ifn hm c_3
        refine lv_aload_n hx hb dX9_trees_33 rfl (lv_at hl 0 rfl) ?_
        refine lv_iload_n hx hb dX9_trees_34 rfl (lv_at hl 2 rfl) ?_
        refine lv_iload_n hx hb dX9_trees_35 rfl (lv_at hl 2 rfl) ?_
        refine lv_aload_n hx hb dX9_trees_36 rfl (lv_at hl 0 rfl) ?_
        refine g_callVi (k0 := 0) (ci := 9) (As := []) (rest := [.int v2, .int v2, .ref (q 0)]) fx hC rw_w (Rc_net l τ) k_233 Rk_net Rh_net rfl rfl rfl ⟨rfl, rfl⟩ ⟨Nat.le_trans (Nat.le_of_ble_eq_true rfl) hR.1, Nat.le_trans (Nat.le_of_ble_eq_true rfl) hR.2⟩ hf rfl hl.1 rfl (Nat.le_of_ble_eq_true rfl) dX9_trees_37 (fun H locs hC => ?_)
        refine lv_icmp_ge (tgt := 64) hx hb dX9_trees_40 (by decide) (fun c_4 => ?_) (fun c_4 => ?_)
        · replace hm := ifp hm c_4
          refine lv_iconst (v := (0 : Int32)) hx hb dX9_trees_64 (by decide) ?_
          obtain ⟨τ_6, e_5, hm⟩ := b1_in hm
          refine g_callVv (k0 := 0) (ci := 9) (As := [.int v2, .int (0 : Int32)]) (rest := []) fx hC rw_w (Rc_put l τ v2 (0 : Int32) e_5) k_237 Rk_put Rh_put rfl rfl rfl ⟨rfl, rfl⟩ ⟨Nat.le_trans (Nat.le_of_ble_eq_true rfl) hR.1, Nat.le_trans (Nat.le_of_ble_eq_true rfl) hR.2⟩ hf rfl hl.1 rfl (Nat.le_of_ble_eq_true rfl) dX9_trees_65 (fun H locs hC => ?_)
          refine lv_iinc (v := (v2 + (1 : Int32))) (lv' := [(2, .int (v2 + (1 : Int32))), (0, .ref (q 0)), (1, .int p1)]) hx hb dX9_trees_68 hl (k := 2) rfl rfl (by decide) rfl (fun ls hl => ?_)
          refine lv_goto (tgt := 17) hx hb dX9_trees_71 (by decide) ?_
          rw [hrc] at hm
          exact ih _ _ hm _ _ _ hC (lv_sub hl [1, 2, 0] rfl) hx74
        · replace hm := ifn hm c_4
          refine lv_aload_n hx hb dX9_trees_43 rfl (lv_at hl 0 rfl) ?_
          refine lv_iload_n hx hb dX9_trees_44 rfl (lv_at hl 2 rfl) ?_
          obtain ⟨r_8, τ_9, e_7, hm⟩ := b2_in hm
          refine g_callVi (k0 := 0) (ci := 9) (As := [.int v2]) (rest := [.int v2, .ref (q 0)]) fx hC rw_w (Rc_hasRing l τ v2 e_7) k_387 Rk_hasRing Rh_hasRing rfl rfl rfl ⟨rfl, rfl⟩ ⟨Nat.le_trans (Nat.le_of_ble_eq_true rfl) hR.1, Nat.le_trans (Nat.le_of_ble_eq_true rfl) hR.2⟩ hf rfl hl.1 rfl (Nat.le_of_ble_eq_true rfl) dX9_trees_45 (fun H locs hC => ?_)
          refine lv_if_ne (tgt := 64) hx hb dX9_trees_48 (by decide) (fun c_10 => ?_) (fun c_10 => ?_)
          · replace hm := ifn hm c_10
            refine lv_iconst (v := (0 : Int32)) hx hb dX9_trees_64 (by decide) ?_
            obtain ⟨τ_12, e_11, hm⟩ := b1_in hm
            refine g_callVv (k0 := 0) (ci := 9) (As := [.int v2, .int (0 : Int32)]) (rest := []) fx hC rw_w (Rc_put l τ_9 v2 (0 : Int32) e_11) k_237 Rk_put Rh_put rfl rfl rfl ⟨rfl, rfl⟩ ⟨Nat.le_trans (Nat.le_of_ble_eq_true rfl) hR.1, Nat.le_trans (Nat.le_of_ble_eq_true rfl) hR.2⟩ hf rfl hl.1 rfl (Nat.le_of_ble_eq_true rfl) dX9_trees_65 (fun H locs hC => ?_)
            refine lv_iinc (v := (v2 + (1 : Int32))) (lv' := [(2, .int (v2 + (1 : Int32))), (0, .ref (q 0)), (1, .int p1)]) hx hb dX9_trees_68 hl (k := 2) rfl rfl (by decide) rfl (fun ls hl => ?_)
            refine lv_goto (tgt := 17) hx hb dX9_trees_71 (by decide) ?_
            rw [hrc] at hm
            exact ih _ _ hm _ _ _ hC (lv_sub hl [1, 2, 0] rfl) hx74
          · replace hm := ifp hm c_10
            refine lv_aload_n hx hb dX9_trees_51 rfl (lv_at hl 0 rfl) ?_
            refine lv_iload_n hx hb dX9_trees_52 rfl (lv_at hl 2 rfl) ?_
            obtain ⟨r_14, τ_15, e_13, hm⟩ := b2_in hm
            refine g_callVi (k0 := 0) (ci := 9) (As := [.int v2]) (rest := [.int v2, .ref (q 0)]) fx hC rw_w (Rc_heaps l τ_9 v2 e_13) k_326 Rk_heaps Rh_heaps rfl rfl rfl ⟨rfl, rfl⟩ ⟨Nat.le_trans (Nat.le_of_ble_eq_true rfl) hR.1, Nat.le_trans (Nat.le_of_ble_eq_true rfl) hR.2⟩ hf rfl hl.1 rfl (Nat.le_of_ble_eq_true rfl) dX9_trees_53 (fun H locs hC => ?_)
            refine lv_iload_n hx hb dX9_trees_56 rfl (lv_at hl 1 rfl) ?_
            refine lv_icmp_ne (tgt := 64) hx hb dX9_trees_57 (by decide) (fun c_16 => ?_) (fun c_16 => ?_)
            · replace hm := ifn hm c_16
              refine lv_iconst (v := (0 : Int32)) hx hb dX9_trees_64 (by decide) ?_
              obtain ⟨τ_18, e_17, hm⟩ := b1_in hm
              refine g_callVv (k0 := 0) (ci := 9) (As := [.int v2, .int (0 : Int32)]) (rest := []) fx hC rw_w (Rc_put l τ_15 v2 (0 : Int32) e_17) k_237 Rk_put Rh_put rfl rfl rfl ⟨rfl, rfl⟩ ⟨Nat.le_trans (Nat.le_of_ble_eq_true rfl) hR.1, Nat.le_trans (Nat.le_of_ble_eq_true rfl) hR.2⟩ hf rfl hl.1 rfl (Nat.le_of_ble_eq_true rfl) dX9_trees_65 (fun H locs hC => ?_)
              refine lv_iinc (v := (v2 + (1 : Int32))) (lv' := [(2, .int (v2 + (1 : Int32))), (0, .ref (q 0)), (1, .int p1)]) hx hb dX9_trees_68 hl (k := 2) rfl rfl (by decide) rfl (fun ls hl => ?_)
              refine lv_goto (tgt := 17) hx hb dX9_trees_71 (by decide) ?_
              rw [hrc] at hm
              exact ih _ _ hm _ _ _ hC (lv_sub hl [1, 2, 0] rfl) hx74
            · replace hm := ifp hm c_16
              refine lv_iconst (v := (1 : Int32)) hx hb dX9_trees_60 (by decide) ?_
              refine lv_goto (tgt := 65) hx hb dX9_trees_61 (by decide) ?_
              obtain ⟨τ_20, e_19, hm⟩ := b1_in hm
              refine g_callVv (k0 := 0) (ci := 9) (As := [.int v2, .int (1 : Int32)]) (rest := []) fx hC rw_w (Rc_put l τ_15 v2 (1 : Int32) e_19) k_237 Rk_put Rh_put rfl rfl rfl ⟨rfl, rfl⟩ ⟨Nat.le_trans (Nat.le_of_ble_eq_true rfl) hR.1, Nat.le_trans (Nat.le_of_ble_eq_true rfl) hR.2⟩ hf rfl hl.1 rfl (Nat.le_of_ble_eq_true rfl) dX9_trees_65 (fun H locs hC => ?_)
              refine lv_iinc (v := (v2 + (1 : Int32))) (lv' := [(2, .int (v2 + (1 : Int32))), (0, .ref (q 0)), (1, .int p1)]) hx hb dX9_trees_68 hl (k := 2) rfl rfl (by decide) rfl (fun ls hl => ?_)
              refine lv_goto (tgt := 17) hx hb dX9_trees_71 (by decide) ?_
              rw [hrc] at hm
              exact ih _ _ hm _ _ _ hC (lv_sub hl [1, 2, 0] rfl) hx74
set_option maxRecDepth 100000 in
set_option maxHeartbeats 4000000 in
theorem Rc_trees (l : Launch) {D : va_G} {cy : Nat → ClassId} {ad : List Nat} {q : Nat → Nat} {X : va_W} (τ : RS) (a1 : Int32) {o : Int32 × RS} (hm : Rm_trees τ a1 = some o) : GM l yX9_trees cX9_trees 3 (some .int) Rrm_trees D cy (rwd cy q X) ad [.ref (q 0), .int a1] τ (some (.int o.1)) o.2 := by
  refine g_start RX9 rfl (by decide) (Nat.le_of_ble_eq_true rfl) ?_
  intro p e s m args below meth c fx hr hC ls hl
  have hx := fx.1
  have hb := fx.2.1
  have hR : 3 ≤ (Rrm_trees).frames ∧ 68 ≤ (Rrm_trees).locals := ⟨Nat.le_refl _, Nat.le_refl _⟩
  have hf : 0 ≤ (Rrm_trees).cells ∧ 0 ≤ (Rrm_trees).slots := ⟨Nat.zero_le _, Nat.zero_le _⟩
  have hl : lv_has ls 3 [(0, .ref (q 0)), (1, .int a1)] := hl
  unfold Rm_trees at hm
  refine lv_iload_n hx hb dX9_trees_0 rfl (lv_at hl 1 rfl) ?_
  refine lv_iconst (v := (1 : Int32)) hx hb dX9_trees_1 (by decide) ?_
  refine lv_aload_n hx hb dX9_trees_2 rfl (lv_at hl 0 rfl) ?_
  refine Rg_0 fx hC dX9_trees_3 ?_
  refine g_callSi (As := [.int a1, .int (1 : Int32), .int (τ.1 0)]) (rest := []) fx hC rw_w (Rc_in l rw_w τ a1 (1 : Int32) (τ.1 0)) k_140 Rk_in Rh_in ⟨rfl, rfl⟩ ⟨Nat.le_trans (Nat.le_of_ble_eq_true rfl) hR.1, Nat.le_trans (Nat.le_of_ble_eq_true rfl) hR.2⟩ hf rfl hl.1 rfl (Nat.le_of_ble_eq_true rfl) dX9_trees_6 (fun H locs hC => ?_)
  refine lv_if_ne (tgt := 15) hx hb dX9_trees_9 (by decide) (fun c_1 => ?_) (fun c_1 => ?_)
  · replace hm := ifn hm c_1
    refine lv_iconst (v := (0 : Int32)) hx hb dX9_trees_15 (by decide) ?_
    refine lv_istore_n (lv' := [(2, .int (0 : Int32)), (0, .ref (q 0)), (1, .int a1)]) hx hb dX9_trees_16 rfl hl (by decide) rfl (fun ls hl => ?_)
    refine Rw_trees_17 fx hR hf a1 fuel (0 : Int32) τ hm _ _ _ hC (lv_sub hl [1, 2, 0] rfl) (fun τ_21 H locs ls hm hC hl => ?_)
    refine lv_aload_n hx hb dX9_trees_74 rfl (lv_at hl 0 rfl) ?_
    refine lv_iconst (v := (3 : Int32)) hx hb dX9_trees_75 (by decide) ?_
    obtain ⟨r_23, τ_24, e_22, hm⟩ := b2_in hm
    refine g_callVi (k0 := 0) (ci := 9) (As := [.int (3 : Int32)]) (rest := []) fx hC rw_w (Rc_made l τ_21 (3 : Int32) e_22) k_241 Rk_made Rh_made rfl rfl rfl ⟨rfl, rfl⟩ ⟨Nat.le_trans (Nat.le_of_ble_eq_true rfl) hR.1, Nat.le_trans (Nat.le_of_ble_eq_true rfl) hR.2⟩ hf rfl hl.1 rfl (Nat.le_of_ble_eq_true rfl) dX9_trees_76 (fun H locs hC => ?_)
    cases hm
    exact g_iret fx hr hC rfl dX9_trees_79
  · replace hm := ifp hm c_1
    refine lv_bipush (v := (-2 : Int32)) hx hb dX9_trees_12 (by decide) ?_
    cases hm
    exact g_iret fx hr hC rfl dX9_trees_14
def Rs_pairs_35 {ρ : Type} (p1 : Int32) (p2 : Int32) (τ : RS) (kx84 : Int32 → Option ρ) (rc : Int32 → Int32 → Option ρ) (v3 : Int32) (v4 : Int32) : Option ρ :=
  if v3 = (0 : Int32) then (kx84 v3) else (if (τ.1 0) ≤ v4 then (kx84 v3) else (b1 (Rm_at τ p2 v4) (fun r_7 => if r_7 = (1 : Int32) then (rc (1 : Int32) (v4 + (1 : Int32))) else (if r_7 = (0 : Int32) then (if p1 = (0 : Int32) then (rc (1 : Int32) (v4 + (1 : Int32))) else (rc (0 : Int32) (v4 + (1 : Int32)))) else (rc (0 : Int32) (v4 + (1 : Int32)))))))
def Rs_pairs_2 {ρ : Type} (p1 : Int32) (kx96 : RS → Option ρ) (rc : Int32 → RS → Option ρ) (v2 : Int32) (τ : RS) : Option ρ :=
  if (4096 : Int32) ≤ v2 then (kx96  τ) else (if (30 : Int32) ≤ (τ.1 6) then (kx96  τ) else (if (Rm_net τ) ≤ v2 then (it2 (Rs_pairs_35 p1 v2 τ (fun u_11 => b1 (Rm_put τ v2 u_11) (fun τ_13 => rc (v2 + (1 : Int32)) τ_13))) fuel (0 : Int32) (0 : Int32)) else (it2 (Rs_pairs_35 p1 v2 τ (fun u_14 => b1 (Rm_put τ v2 u_14) (fun τ_16 => rc (v2 + (1 : Int32)) τ_16))) fuel (1 : Int32) (0 : Int32))))
def Rm_pairs (τ : RS) (a1 : Int32) : Option (Int32 × RS) :=
  it2 (Rs_pairs_2 a1 (fun τ_17 => b2 (Rm_made τ_17 (4 : Int32)) (fun r_19 τ_20 => some (r_19, τ_20)))) fuel (0 : Int32) τ
abbrev Rrm_pairs : Room := { frames := 2, cells := 0, slots := 0, locals := 45 }
set_option maxRecDepth 100000 in
set_option maxHeartbeats 4000000 in
theorem Rw_pairs_35 {ρ : Type} {out : ρ} {p : Program} {l : Launch} {e : Env} {R : Room} {s : State} {m : MethodId} {args : Array Value} {below : List Frame} {meth : Method} {c : Code} {cells slots : Nat} {Q : State → Prop} {D : va_G} {cy : Nat → ClassId} {ad : List Nat} {q : Nat → Nat} {X : va_W} (τ : RS) (fx : FX p s m args meth c cX9_pairs 6 RX9 D cy) (hR : 2 ≤ R.frames ∧ 45 ≤ R.locals) (hf : cells ≤ R.cells ∧ slots ≤ R.slots) (p1 : Int32) (p2 : Int32) {kx84 : Int32 → Option ρ} :
    ∀ (n : Nat) (v3 : Int32) (v4 : Int32), it2 (Rs_pairs_35 p1 p2 τ kx84) n v3 v4 = some out → ∀ (H : Heap) (locs : List Loc) (ls : Array Slot), GC D (rwd cy q X) ad s τ H locs → lv_has ls 6 [(0, .ref (q 0)), (1, .int p1), (2, .int p2), (3, .int v3), (4, .int v4)] → (∀ (u3 : Int32) (H : Heap) (locs : List Loc) (ls : Array Slot), kx84 u3 = some out → GC D (rwd cy q X) ad s τ H locs → lv_has ls 6 [(0, .ref (q 0)), (1, .int p1), (2, .int p2), (3, .int u3)] → W p l e R s m args below meth c H locs cells slots Q (F0 m 84 ls [])) → W p l e R s m args below meth c H locs cells slots Q (F0 m 35 ls []) := by
  have hx := fx.1
  have hb := fx.2.1
  intro n
  induction n with
  | zero => intro v3 v4 hm; exact (it2_z hm).elim
  | succ n ih =>
    intro v3 v4 hm H locs ls hC hl hx84
    obtain ⟨rc, hrc⟩ : ∃ z, z = it2 (Rs_pairs_35 p1 p2 τ kx84) n := ⟨_, rfl⟩
    replace hm : Rs_pairs_35 p1 p2 τ kx84 rc v3 v4 = some out := by rw [hrc]; exact hm
    unfold Rs_pairs_35 at hm
    refine lv_iload_n hx hb dX9_pairs_35 rfl (lv_at hl 3 rfl) ?_
    refine lv_if_eq (tgt := 84) hx hb dX9_pairs_36 (by decide) (fun c_4 => ?_) (fun c_4 => ?_)
    · replace hm := ifp hm c_4
      exact hx84 _ _ _ _ hm hC (lv_sub hl [0, 1, 2, 3] rfl)
    · replace hm := ifn hm c_4
      refine lv_iload hx hb dX9_pairs_39 (lv_at hl 4 rfl) ?_
      refine lv_aload_n hx hb dX9_pairs_41 rfl (lv_at hl 0 rfl) ?_
      refine Rg_0 fx hC dX9_pairs_42 ?_
      refine lv_icmp_ge (tgt := 84) hx hb dX9_pairs_45 (by decide) (fun c_5 => ?_) (fun c_5 => ?_)
      · replace hm := ifp hm c_5
        exact hx84 _ _ _ _ hm hC (lv_sub hl [0, 1, 2, 3] rfl)
      · replace hm := ifn hm c_5
        refine lv_aload_n hx hb dX9_pairs_48 rfl (lv_at hl 0 rfl) ?_
        refine lv_iload_n hx hb dX9_pairs_49 rfl (lv_at hl 2 rfl) ?_
        refine lv_iload hx hb dX9_pairs_50 (lv_at hl 4 rfl) ?_
        obtain ⟨r_7, e_6, hm⟩ := b1_in hm
        refine g_callVi (k0 := 0) (ci := 9) (As := [.int p2, .int v4]) (rest := []) fx hC rw_w (Rc_at l τ p2 v4 e_6) k_319 Rk_at Rh_at rfl rfl rfl ⟨rfl, rfl⟩ ⟨Nat.le_trans (Nat.le_of_ble_eq_true rfl) hR.1, Nat.le_trans (Nat.le_of_ble_eq_true rfl) hR.2⟩ hf rfl hl.1 rfl (Nat.le_of_ble_eq_true rfl) dX9_pairs_52 (fun H locs hC => ?_)
        refine lv_istore (lv' := [(5, .int r_7), (0, .ref (q 0)), (1, .int p1), (2, .int p2), (3, .int v3), (4, .int v4)]) hx hb dX9_pairs_55 hl (by decide) rfl (fun ls hl => ?_)
        refine lv_iload hx hb dX9_pairs_57 (lv_at hl 0 rfl) ?_
        refine lv_iconst (v := (1 : Int32)) hx hb dX9_pairs_59 (by decide) ?_
        refine lv_icmp_eq (tgt := 72) hx hb dX9_pairs_60 (by decide) (fun c_8 => ?_) (fun c_8 => ?_)
        · replace hm := ifp hm c_8
          refine lv_iconst (v := (1 : Int32)) hx hb dX9_pairs_72 (by decide) ?_
          refine lv_goto (tgt := 77) hx hb dX9_pairs_73 (by decide) ?_
          refine lv_istore_n (lv' := [(3, .int (1 : Int32)), (5, .int r_7), (0, .ref (q 0)), (1, .int p1), (2, .int p2), (4, .int v4)]) hx hb dX9_pairs_77 rfl hl (by decide) rfl (fun ls hl => ?_)
          refine lv_iinc (v := (v4 + (1 : Int32))) (lv' := [(4, .int (v4 + (1 : Int32))), (3, .int (1 : Int32)), (5, .int r_7), (0, .ref (q 0)), (1, .int p1), (2, .int p2)]) hx hb dX9_pairs_78 hl (k := 5) rfl rfl (by decide) rfl (fun ls hl => ?_)
          refine lv_goto (tgt := 35) hx hb dX9_pairs_81 (by decide) ?_
          rw [hrc] at hm
          exact ih _ _ hm _ _ _ hC (lv_sub hl [3, 4, 5, 1, 0] rfl) hx84
        · replace hm := ifn hm c_8
          refine lv_iload hx hb dX9_pairs_63 (lv_at hl 0 rfl) ?_
          refine lv_if_ne (tgt := 76) hx hb dX9_pairs_65 (by decide) (fun c_9 => ?_) (fun c_9 => ?_)
          · replace hm := ifn hm c_9
            refine lv_iconst (v := (0 : Int32)) hx hb dX9_pairs_76 (by decide) ?_
            refine lv_istore_n (lv' := [(3, .int (0 : Int32)), (5, .int r_7), (0, .ref (q 0)), (1, .int p1), (2, .int p2), (4, .int v4)]) hx hb dX9_pairs_77 rfl hl (by decide) rfl (fun ls hl => ?_)
            refine lv_iinc (v := (v4 + (1 : Int32))) (lv' := [(4, .int (v4 + (1 : Int32))), (3, .int (0 : Int32)), (5, .int r_7), (0, .ref (q 0)), (1, .int p1), (2, .int p2)]) hx hb dX9_pairs_78 hl (k := 5) rfl rfl (by decide) rfl (fun ls hl => ?_)
            refine lv_goto (tgt := 35) hx hb dX9_pairs_81 (by decide) ?_
            rw [hrc] at hm
            exact ih _ _ hm _ _ _ hC (lv_sub hl [3, 4, 5, 1, 0] rfl) hx84
          · replace hm := ifp hm c_9
            refine lv_iload_n hx hb dX9_pairs_68 rfl (lv_at hl 2 rfl) ?_
            refine lv_if_ne (tgt := 76) hx hb dX9_pairs_69 (by decide) (fun c_10 => ?_) (fun c_10 => ?_)
            · replace hm := ifn hm c_10
              refine lv_iconst (v := (0 : Int32)) hx hb dX9_pairs_76 (by decide) ?_
              refine lv_istore_n (lv' := [(3, .int (0 : Int32)), (5, .int r_7), (0, .ref (q 0)), (1, .int p1), (2, .int p2), (4, .int v4)]) hx hb dX9_pairs_77 rfl hl (by decide) rfl (fun ls hl => ?_)
              refine lv_iinc (v := (v4 + (1 : Int32))) (lv' := [(4, .int (v4 + (1 : Int32))), (3, .int (0 : Int32)), (5, .int r_7), (0, .ref (q 0)), (1, .int p1), (2, .int p2)]) hx hb dX9_pairs_78 hl (k := 5) rfl rfl (by decide) rfl (fun ls hl => ?_)
              refine lv_goto (tgt := 35) hx hb dX9_pairs_81 (by decide) ?_
              rw [hrc] at hm
              exact ih _ _ hm _ _ _ hC (lv_sub hl [3, 4, 5, 1, 0] rfl) hx84
            · replace hm := ifp hm c_10
              refine lv_iconst (v := (1 : Int32)) hx hb dX9_pairs_72 (by decide) ?_
              refine lv_goto (tgt := 77) hx hb dX9_pairs_73 (by decide) ?_
              refine lv_istore_n (lv' := [(3, .int (1 : Int32)), (5, .int r_7), (0, .ref (q 0)), (1, .int p1), (2, .int p2), (4, .int v4)]) hx hb dX9_pairs_77 rfl hl (by decide) rfl (fun ls hl => ?_)
              refine lv_iinc (v := (v4 + (1 : Int32))) (lv' := [(4, .int (v4 + (1 : Int32))), (3, .int (1 : Int32)), (5, .int r_7), (0, .ref (q 0)), (1, .int p1), (2, .int p2)]) hx hb dX9_pairs_78 hl (k := 5) rfl rfl (by decide) rfl (fun ls hl => ?_)
              refine lv_goto (tgt := 35) hx hb dX9_pairs_81 (by decide) ?_
              rw [hrc] at hm
              exact ih _ _ hm _ _ _ hC (lv_sub hl [3, 4, 5, 1, 0] rfl) hx84
set_option maxRecDepth 100000 in
set_option maxHeartbeats 4000000 in
theorem Rw_pairs_2 {ρ : Type} {out : ρ} {p : Program} {l : Launch} {e : Env} {R : Room} {s : State} {m : MethodId} {args : Array Value} {below : List Frame} {meth : Method} {c : Code} {cells slots : Nat} {Q : State → Prop} {D : va_G} {cy : Nat → ClassId} {ad : List Nat} {q : Nat → Nat} {X : va_W} (fx : FX p s m args meth c cX9_pairs 6 RX9 D cy) (hR : 2 ≤ R.frames ∧ 45 ≤ R.locals) (hf : cells ≤ R.cells ∧ slots ≤ R.slots) (p1 : Int32) {kx96 : RS → Option ρ} :
    ∀ (n : Nat) (v2 : Int32) (τ : RS), it2 (Rs_pairs_2 p1 kx96) n v2 τ = some out → ∀ (H : Heap) (locs : List Loc) (ls : Array Slot), GC D (rwd cy q X) ad s τ H locs → lv_has ls 6 [(0, .ref (q 0)), (1, .int p1), (2, .int v2)] → (∀ (τ2 : RS) (H : Heap) (locs : List Loc) (ls : Array Slot), kx96 τ2 = some out → GC D (rwd cy q X) ad s τ2 H locs → lv_has ls 6 [(0, .ref (q 0))] → W p l e R s m args below meth c H locs cells slots Q (F0 m 96 ls [])) → W p l e R s m args below meth c H locs cells slots Q (F0 m 2 ls []) := by
  have hx := fx.1
  have hb := fx.2.1
  intro n
  induction n with
  | zero => intro v2 τ hm; exact (it2_z hm).elim
  | succ n ih =>
    intro v2 τ hm H locs ls hC hl hx96
    obtain ⟨rc, hrc⟩ : ∃ z, z = it2 (Rs_pairs_2 p1 kx96) n := ⟨_, rfl⟩
    replace hm : Rs_pairs_2 p1 kx96 rc v2 τ = some out := by rw [hrc]; exact hm
    unfold Rs_pairs_2 at hm
    refine lv_iload_n hx hb dX9_pairs_2 rfl (lv_at hl 2 rfl) ?_
    refine lv_sipush (v := (4096 : Int32)) hx hb dX9_pairs_3 (by decide) ?_
    refine lv_icmp_ge (tgt := 96) hx hb dX9_pairs_6 (by decide) (fun c_1 => ?_) (fun c_1 => ?_)
    · replace hm := ifp hm c_1
      exact hx96 _ _ _ _ hm hC (lv_sub hl [0] rfl)
    · replace hm := ifn hm c_1
      refine lv_aload_n hx hb dX9_pairs_9 rfl (lv_at hl 0 rfl) ?_
      refine Rg_6 fx hC dX9_pairs_10 ?_
      refine lv_bipush (v := (30 : Int32)) hx hb dX9_pairs_13 (by decide) ?_
      refine lv_icmp_ge (tgt := 96) hx hb dX9_pairs_15 (by decide) (fun c_2 => ?_) (fun c_2 => ?_)
      · replace hm := ifp hm c_2
        exact hx96 _ _ _ _ hm hC (lv_sub hl [0] rfl)
      · replace hm := ifn hm c_2
        refine lv_iload_n hx hb dX9_pairs_18 rfl (lv_at hl 2 rfl) ?_
        refine lv_aload_n hx hb dX9_pairs_19 rfl (lv_at hl 0 rfl) ?_
        refine g_callVi (k0 := 0) (ci := 9) (As := []) (rest := [.int v2]) fx hC rw_w (Rc_net l τ) k_233 Rk_net Rh_net rfl rfl rfl ⟨rfl, rfl⟩ ⟨Nat.le_trans (Nat.le_of_ble_eq_true rfl) hR.1, Nat.le_trans (Nat.le_of_ble_eq_true rfl) hR.2⟩ hf rfl hl.1 rfl (Nat.le_of_ble_eq_true rfl) dX9_pairs_20 (fun H locs hC => ?_)
        refine lv_icmp_ge (tgt := 30) hx hb dX9_pairs_23 (by decide) (fun c_3 => ?_) (fun c_3 => ?_)
        · replace hm := ifp hm c_3
          refine lv_iconst (v := (0 : Int32)) hx hb dX9_pairs_30 (by decide) ?_
          refine lv_istore_n (lv' := [(3, .int (0 : Int32)), (0, .ref (q 0)), (1, .int p1), (2, .int v2)]) hx hb dX9_pairs_31 rfl hl (by decide) rfl (fun ls hl => ?_)
          refine lv_iconst (v := (0 : Int32)) hx hb dX9_pairs_32 (by decide) ?_
          refine lv_istore (lv' := [(4, .int (0 : Int32)), (3, .int (0 : Int32)), (0, .ref (q 0)), (1, .int p1), (2, .int v2)]) hx hb dX9_pairs_33 hl (by decide) rfl (fun ls hl => ?_)
          refine Rw_pairs_35 τ fx hR hf p1 v2 fuel (0 : Int32) (0 : Int32) hm _ _ _ hC (lv_sub hl [2, 3, 4, 1, 0] rfl) (fun u_11 H locs ls hm hC hl => ?_)
          refine lv_aload_n hx hb dX9_pairs_84 rfl (lv_at hl 0 rfl) ?_
          refine lv_iload_n hx hb dX9_pairs_85 rfl (lv_at hl 2 rfl) ?_
          refine lv_iload_n hx hb dX9_pairs_86 rfl (lv_at hl 3 rfl) ?_
          obtain ⟨τ_13, e_12, hm⟩ := b1_in hm
          refine g_callVv (k0 := 0) (ci := 9) (As := [.int v2, .int u_11]) (rest := []) fx hC rw_w (Rc_put l τ v2 u_11 e_12) k_237 Rk_put Rh_put rfl rfl rfl ⟨rfl, rfl⟩ ⟨Nat.le_trans (Nat.le_of_ble_eq_true rfl) hR.1, Nat.le_trans (Nat.le_of_ble_eq_true rfl) hR.2⟩ hf rfl hl.1 rfl (Nat.le_of_ble_eq_true rfl) dX9_pairs_87 (fun H locs hC => ?_)
          refine lv_iinc (v := (v2 + (1 : Int32))) (lv' := [(2, .int (v2 + (1 : Int32))), (0, .ref (q 0)), (1, .int p1), (3, .int u_11)]) hx hb dX9_pairs_90 hl (k := 2) rfl rfl (by decide) rfl (fun ls hl => ?_)
          refine lv_goto (tgt := 2) hx hb dX9_pairs_93 (by decide) ?_
          rw [hrc] at hm
          exact ih _ _ hm _ _ _ hC (lv_sub hl [1, 2, 0] rfl) hx96
        · replace hm := ifn hm c_3
          refine lv_iconst (v := (1 : Int32)) hx hb dX9_pairs_26 (by decide) ?_
          refine lv_goto (tgt := 31) hx hb dX9_pairs_27 (by decide) ?_
          refine lv_istore_n (lv' := [(3, .int (1 : Int32)), (0, .ref (q 0)), (1, .int p1), (2, .int v2)]) hx hb dX9_pairs_31 rfl hl (by decide) rfl (fun ls hl => ?_)
          refine lv_iconst (v := (0 : Int32)) hx hb dX9_pairs_32 (by decide) ?_
          refine lv_istore (lv' := [(4, .int (0 : Int32)), (3, .int (1 : Int32)), (0, .ref (q 0)), (1, .int p1), (2, .int v2)]) hx hb dX9_pairs_33 hl (by decide) rfl (fun ls hl => ?_)
          refine Rw_pairs_35 τ fx hR hf p1 v2 fuel (1 : Int32) (0 : Int32) hm _ _ _ hC (lv_sub hl [2, 3, 4, 1, 0] rfl) (fun u_14 H locs ls hm hC hl => ?_)
          refine lv_aload_n hx hb dX9_pairs_84 rfl (lv_at hl 0 rfl) ?_
          refine lv_iload_n hx hb dX9_pairs_85 rfl (lv_at hl 2 rfl) ?_
          refine lv_iload_n hx hb dX9_pairs_86 rfl (lv_at hl 3 rfl) ?_
          obtain ⟨τ_16, e_15, hm⟩ := b1_in hm
          refine g_callVv (k0 := 0) (ci := 9) (As := [.int v2, .int u_14]) (rest := []) fx hC rw_w (Rc_put l τ v2 u_14 e_15) k_237 Rk_put Rh_put rfl rfl rfl ⟨rfl, rfl⟩ ⟨Nat.le_trans (Nat.le_of_ble_eq_true rfl) hR.1, Nat.le_trans (Nat.le_of_ble_eq_true rfl) hR.2⟩ hf rfl hl.1 rfl (Nat.le_of_ble_eq_true rfl) dX9_pairs_87 (fun H locs hC => ?_)
          refine lv_iinc (v := (v2 + (1 : Int32))) (lv' := [(2, .int (v2 + (1 : Int32))), (0, .ref (q 0)), (1, .int p1), (3, .int u_14)]) hx hb dX9_pairs_90 hl (k := 2) rfl rfl (by decide) rfl (fun ls hl => ?_)
          refine lv_goto (tgt := 2) hx hb dX9_pairs_93 (by decide) ?_
          rw [hrc] at hm
          exact ih _ _ hm _ _ _ hC (lv_sub hl [1, 2, 0] rfl) hx96
set_option maxRecDepth 100000 in
set_option maxHeartbeats 4000000 in
theorem Rc_pairs (l : Launch) {D : va_G} {cy : Nat → ClassId} {ad : List Nat} {q : Nat → Nat} {X : va_W} (τ : RS) (a1 : Int32) {o : Int32 × RS} (hm : Rm_pairs τ a1 = some o) : GM l yX9_pairs cX9_pairs 6 (some .int) Rrm_pairs D cy (rwd cy q X) ad [.ref (q 0), .int a1] τ (some (.int o.1)) o.2 := by
  refine g_start RX9 rfl (by decide) (Nat.le_of_ble_eq_true rfl) ?_
  intro p e s m args below meth c fx hr hC ls hl
  have hx := fx.1
  have hb := fx.2.1
  have hR : 2 ≤ (Rrm_pairs).frames ∧ 45 ≤ (Rrm_pairs).locals := ⟨Nat.le_refl _, Nat.le_refl _⟩
  have hf : 0 ≤ (Rrm_pairs).cells ∧ 0 ≤ (Rrm_pairs).slots := ⟨Nat.zero_le _, Nat.zero_le _⟩
  have hl : lv_has ls 6 [(0, .ref (q 0)), (1, .int a1)] := hl
  unfold Rm_pairs at hm
  refine lv_iconst (v := (0 : Int32)) hx hb dX9_pairs_0 (by decide) ?_
  refine lv_istore_n (lv' := [(2, .int (0 : Int32)), (0, .ref (q 0)), (1, .int a1)]) hx hb dX9_pairs_1 rfl hl (by decide) rfl (fun ls hl => ?_)
  refine Rw_pairs_2 fx hR hf a1 fuel (0 : Int32) τ hm _ _ _ hC (lv_sub hl [1, 2, 0] rfl) (fun τ_17 H locs ls hm hC hl => ?_)
  refine lv_aload_n hx hb dX9_pairs_96 rfl (lv_at hl 0 rfl) ?_
  refine lv_iconst (v := (4 : Int32)) hx hb dX9_pairs_97 (by decide) ?_
  obtain ⟨r_19, τ_20, e_18, hm⟩ := b2_in hm
  refine g_callVi (k0 := 0) (ci := 9) (As := [.int (4 : Int32)]) (rest := []) fx hC rw_w (Rc_made l τ_17 (4 : Int32) e_18) k_241 Rk_made Rh_made rfl rfl rfl ⟨rfl, rfl⟩ ⟨Nat.le_trans (Nat.le_of_ble_eq_true rfl) hR.1, Nat.le_trans (Nat.le_of_ble_eq_true rfl) hR.2⟩ hf rfl hl.1 rfl (Nat.le_of_ble_eq_true rfl) dX9_pairs_98 (fun H locs hC => ?_)
  cases hm
  exact g_iret fx hr hC rfl dX9_pairs_101
def Rs_isPart_19 {ρ : Type} (p1 : Int32) (p3 : Int32) (p4 : Int32) (τ : RS) (kx88 : Int32 → Option ρ) (rc : Int32 → Int32 → Option ρ) (v5 : Int32) (v6 : Int32) : Option ρ :=
  if (τ.1 2) ≤ v6 then (kx88 v5) else (if v5 = (0 : Int32) then (rc (0 : Int32) (v6 + (1 : Int32))) else (if (Rm_holds p1 v6) = (0 : Int32) then (gi ((2 : Int32) * v6) 24 (gi (τ.2 3 (((2 : Int32) * v6)).toNatClampNeg) 8 (gi (((2 : Int32) * v6) + (1 : Int32)) 24 (gi (τ.2 3 ((((2 : Int32) * v6) + (1 : Int32))).toNatClampNeg) 8 (if (τ.2 19 ((τ.2 3 (((2 : Int32) * v6)).toNatClampNeg)).toNatClampNeg) = (τ.2 19 ((τ.2 3 ((((2 : Int32) * v6) + (1 : Int32))).toNatClampNeg)).toNatClampNeg) then (rc (0 : Int32) (v6 + (1 : Int32))) else (rc (1 : Int32) (v6 + (1 : Int32)))))))) else (rc (1 : Int32) (v6 + (1 : Int32)))))
def Rs_isPart_111 {ρ : Type} (p3 : Int32) (p4 : Int32) (p6 : Int32) (τ : RS) (kx159 : Int32 → Option ρ) (rc : Int32 → Int32 → Option ρ) (v7 : Int32) (v8 : Int32) : Option ρ :=
  if (τ.1 0) ≤ v8 then (kx159 v7) else (gi v8 8 (gi p6 8 (if (τ.2 19 (v8).toNatClampNeg) = (τ.2 19 (p6).toNatClampNeg) then (gi v8 8 (rc (v7 + (τ.2 1 (v8).toNatClampNeg)) (v8 + (1 : Int32)))) else (rc (v7 + (0 : Int32)) (v8 + (1 : Int32))))))
def Rs_isPart_91 {ρ : Type} (p3 : Int32) (p4 : Int32) (τ : RS) (kx175 : Int32 → Option ρ) (rc : Int32 → Int32 → Option ρ) (v5 : Int32) (v6 : Int32) : Option ρ :=
  if v5 = (0 : Int32) then (kx175 v5) else (if (τ.1 0) ≤ v6 then (kx175 v5) else (it2 (Rs_isPart_111 p3 p4 v6 τ (fun u_21 => rc (Rm_in u_21 p3 p4) (v6 + (1 : Int32)))) fuel (0 : Int32) (0 : Int32)))
def Rm_isPart (τ : RS) (a1 : Int32) (a2 : Int32) (a3 : Int32) (a4 : Int32) : Option (Int32 × RS) :=
  b2 (Rm_heaps τ a1) (fun r_2 τ_3 => if r_2 = a2 then (it2 (Rs_isPart_19 a1 a3 a4 τ_3 (fun u_24 => it2 (Rs_isPart_91 a3 a4 τ_3 (fun u_25 => gb u_25 (some (u_25, τ_3)))) fuel u_24 (0 : Int32))) fuel (1 : Int32) (0 : Int32)) else (it2 (Rs_isPart_19 a1 a3 a4 τ_3 (fun u_13 => it2 (Rs_isPart_91 a3 a4 τ_3 (fun u_22 => gb u_22 (some (u_22, τ_3)))) fuel u_13 (0 : Int32))) fuel (0 : Int32) (0 : Int32)))
abbrev Rrm_isPart : Room := { frames := 2, cells := 0, slots := 0, locals := 47 }
set_option maxRecDepth 100000 in
set_option maxHeartbeats 4000000 in
theorem Rw_isPart_19 {ρ : Type} {out : ρ} {p : Program} {l : Launch} {e : Env} {R : Room} {s : State} {m : MethodId} {args : Array Value} {below : List Frame} {meth : Method} {c : Code} {cells slots : Nat} {Q : State → Prop} {D : va_G} {cy : Nat → ClassId} {ad : List Nat} {q : Nat → Nat} {X : va_W} (τ : RS) (fx : FX p s m args meth c cX9_isPart 9 RX9 D cy) (hR : 2 ≤ R.frames ∧ 47 ≤ R.locals) (hf : cells ≤ R.cells ∧ slots ≤ R.slots) (p1 : Int32) (p3 : Int32) (p4 : Int32) {kx88 : Int32 → Option ρ} :
    ∀ (n : Nat) (v5 : Int32) (v6 : Int32), it2 (Rs_isPart_19 p1 p3 p4 τ kx88) n v5 v6 = some out → ∀ (H : Heap) (locs : List Loc) (ls : Array Slot), GC D (rwd cy q X) ad s τ H locs → lv_has ls 9 [(0, .ref (q 0)), (1, .int p1), (3, .int p3), (4, .int p4), (5, .int v5), (6, .int v6)] → (∀ (u5 : Int32) (H : Heap) (locs : List Loc) (ls : Array Slot), kx88 u5 = some out → GC D (rwd cy q X) ad s τ H locs → lv_has ls 9 [(0, .ref (q 0)), (3, .int p3), (4, .int p4), (5, .int u5)] → W p l e R s m args below meth c H locs cells slots Q (F0 m 88 ls [])) → W p l e R s m args below meth c H locs cells slots Q (F0 m 19 ls []) := by
  have hx := fx.1
  have hb := fx.2.1
  intro n
  induction n with
  | zero => intro v5 v6 hm; exact (it2_z hm).elim
  | succ n ih =>
    intro v5 v6 hm H locs ls hC hl hx88
    obtain ⟨rc, hrc⟩ : ∃ z, z = it2 (Rs_isPart_19 p1 p3 p4 τ kx88) n := ⟨_, rfl⟩
    replace hm : Rs_isPart_19 p1 p3 p4 τ kx88 rc v5 v6 = some out := by rw [hrc]; exact hm
    unfold Rs_isPart_19 at hm
    refine lv_iload hx hb dX9_isPart_19 (lv_at hl 5 rfl) ?_
    refine lv_aload_n hx hb dX9_isPart_21 rfl (lv_at hl 0 rfl) ?_
    refine Rg_2 fx hC dX9_isPart_22 ?_
    refine lv_icmp_ge (tgt := 88) hx hb dX9_isPart_25 (by decide) (fun c_5 => ?_) (fun c_5 => ?_)
    · replace hm := ifp hm c_5
      exact hx88 _ _ _ _ hm hC (lv_sub hl [0, 2, 3, 4] rfl)
    · replace hm := ifn hm c_5
      refine lv_iload hx hb dX9_isPart_28 (lv_at hl 4 rfl) ?_
      refine lv_if_eq (tgt := 79) hx hb dX9_isPart_30 (by decide) (fun c_6 => ?_) (fun c_6 => ?_)
      · replace hm := ifp hm c_6
        refine lv_iconst (v := (0 : Int32)) hx hb dX9_isPart_79 (by decide) ?_
        refine lv_istore (lv' := [(5, .int (0 : Int32)), (0, .ref (q 0)), (1, .int p1), (3, .int p3), (4, .int p4), (6, .int v6)]) hx hb dX9_isPart_80 hl (by decide) rfl (fun ls hl => ?_)
        refine lv_iinc (v := (v6 + (1 : Int32))) (lv' := [(6, .int (v6 + (1 : Int32))), (5, .int (0 : Int32)), (0, .ref (q 0)), (1, .int p1), (3, .int p3), (4, .int p4)]) hx hb dX9_isPart_82 hl (k := 5) rfl rfl (by decide) rfl (fun ls hl => ?_)
        refine lv_goto (tgt := 19) hx hb dX9_isPart_85 (by decide) ?_
        rw [hrc] at hm
        exact ih _ _ hm _ _ _ hC (lv_sub hl [2, 3, 4, 5, 1, 0] rfl) hx88
      · replace hm := ifn hm c_6
        refine lv_iload_n hx hb dX9_isPart_33 rfl (lv_at hl 1 rfl) ?_
        refine lv_iload hx hb dX9_isPart_34 (lv_at hl 5 rfl) ?_
        refine g_callSi (As := [.int p1, .int v6]) (rest := []) fx hC rw_w (Rc_holds l rw_w τ p1 v6) k_323 Rk_holds Rh_holds ⟨rfl, rfl⟩ ⟨Nat.le_trans (Nat.le_of_ble_eq_true rfl) hR.1, Nat.le_trans (Nat.le_of_ble_eq_true rfl) hR.2⟩ hf rfl hl.1 rfl (Nat.le_of_ble_eq_true rfl) dX9_isPart_36 (fun H locs hC => ?_)
        refine lv_if_ne (tgt := 75) hx hb dX9_isPart_39 (by decide) (fun c_7 => ?_) (fun c_7 => ?_)
        · replace hm := ifn hm c_7
          refine lv_iconst (v := (1 : Int32)) hx hb dX9_isPart_75 (by decide) ?_
          refine lv_goto (tgt := 80) hx hb dX9_isPart_76 (by decide) ?_
          refine lv_istore (lv' := [(5, .int (1 : Int32)), (0, .ref (q 0)), (1, .int p1), (3, .int p3), (4, .int p4), (6, .int v6)]) hx hb dX9_isPart_80 hl (by decide) rfl (fun ls hl => ?_)
          refine lv_iinc (v := (v6 + (1 : Int32))) (lv' := [(6, .int (v6 + (1 : Int32))), (5, .int (1 : Int32)), (0, .ref (q 0)), (1, .int p1), (3, .int p3), (4, .int p4)]) hx hb dX9_isPart_82 hl (k := 5) rfl rfl (by decide) rfl (fun ls hl => ?_)
          refine lv_goto (tgt := 19) hx hb dX9_isPart_85 (by decide) ?_
          rw [hrc] at hm
          exact ih _ _ hm _ _ _ hC (lv_sub hl [2, 3, 4, 5, 1, 0] rfl) hx88
        · replace hm := ifp hm c_7
          refine lv_aload_n hx hb dX9_isPart_42 rfl (lv_at hl 0 rfl) ?_
          refine Rg_19 fx hC dX9_isPart_43 ?_
          refine lv_aload_n hx hb dX9_isPart_46 rfl (lv_at hl 0 rfl) ?_
          refine Rg_3 fx hC dX9_isPart_47 ?_
          refine lv_iconst (v := (2 : Int32)) hx hb dX9_isPart_50 (by decide) ?_
          refine lv_iload hx hb dX9_isPart_51 (lv_at hl 5 rfl) ?_
          refine lv_imul hx hb dX9_isPart_53 ?_
          have h_8 := (gi_in hm).1
          replace hm := (gi_in hm).2
          refine Rl_3 fx hC h_8 dX9_isPart_54 ?_
          have h_9 := (gi_in hm).1
          replace hm := (gi_in hm).2
          refine Rl_19 fx hC h_9 dX9_isPart_55 ?_
          refine lv_aload_n hx hb dX9_isPart_56 rfl (lv_at hl 0 rfl) ?_
          refine Rg_19 fx hC dX9_isPart_57 ?_
          refine lv_aload_n hx hb dX9_isPart_60 rfl (lv_at hl 0 rfl) ?_
          refine Rg_3 fx hC dX9_isPart_61 ?_
          refine lv_iconst (v := (2 : Int32)) hx hb dX9_isPart_64 (by decide) ?_
          refine lv_iload hx hb dX9_isPart_65 (lv_at hl 5 rfl) ?_
          refine lv_imul hx hb dX9_isPart_67 ?_
          refine lv_iconst (v := (1 : Int32)) hx hb dX9_isPart_68 (by decide) ?_
          refine lv_iadd hx hb dX9_isPart_69 ?_
          have h_10 := (gi_in hm).1
          replace hm := (gi_in hm).2
          refine Rl_3 fx hC h_10 dX9_isPart_70 ?_
          have h_11 := (gi_in hm).1
          replace hm := (gi_in hm).2
          refine Rl_19 fx hC h_11 dX9_isPart_71 ?_
          refine lv_icmp_eq (tgt := 79) hx hb dX9_isPart_72 (by decide) (fun c_12 => ?_) (fun c_12 => ?_)
          · replace hm := ifp hm c_12
            refine lv_iconst (v := (0 : Int32)) hx hb dX9_isPart_79 (by decide) ?_
            refine lv_istore (lv' := [(5, .int (0 : Int32)), (0, .ref (q 0)), (1, .int p1), (3, .int p3), (4, .int p4), (6, .int v6)]) hx hb dX9_isPart_80 hl (by decide) rfl (fun ls hl => ?_)
            refine lv_iinc (v := (v6 + (1 : Int32))) (lv' := [(6, .int (v6 + (1 : Int32))), (5, .int (0 : Int32)), (0, .ref (q 0)), (1, .int p1), (3, .int p3), (4, .int p4)]) hx hb dX9_isPart_82 hl (k := 5) rfl rfl (by decide) rfl (fun ls hl => ?_)
            refine lv_goto (tgt := 19) hx hb dX9_isPart_85 (by decide) ?_
            rw [hrc] at hm
            exact ih _ _ hm _ _ _ hC (lv_sub hl [2, 3, 4, 5, 1, 0] rfl) hx88
          · replace hm := ifn hm c_12
            refine lv_iconst (v := (1 : Int32)) hx hb dX9_isPart_75 (by decide) ?_
            refine lv_goto (tgt := 80) hx hb dX9_isPart_76 (by decide) ?_
            refine lv_istore (lv' := [(5, .int (1 : Int32)), (0, .ref (q 0)), (1, .int p1), (3, .int p3), (4, .int p4), (6, .int v6)]) hx hb dX9_isPart_80 hl (by decide) rfl (fun ls hl => ?_)
            refine lv_iinc (v := (v6 + (1 : Int32))) (lv' := [(6, .int (v6 + (1 : Int32))), (5, .int (1 : Int32)), (0, .ref (q 0)), (1, .int p1), (3, .int p3), (4, .int p4)]) hx hb dX9_isPart_82 hl (k := 5) rfl rfl (by decide) rfl (fun ls hl => ?_)
            refine lv_goto (tgt := 19) hx hb dX9_isPart_85 (by decide) ?_
            rw [hrc] at hm
            exact ih _ _ hm _ _ _ hC (lv_sub hl [2, 3, 4, 5, 1, 0] rfl) hx88
set_option maxRecDepth 100000 in
set_option maxHeartbeats 4000000 in
theorem Rw_isPart_111 {ρ : Type} {out : ρ} {p : Program} {l : Launch} {e : Env} {R : Room} {s : State} {m : MethodId} {args : Array Value} {below : List Frame} {meth : Method} {c : Code} {cells slots : Nat} {Q : State → Prop} {D : va_G} {cy : Nat → ClassId} {ad : List Nat} {q : Nat → Nat} {X : va_W} (τ : RS) (fx : FX p s m args meth c cX9_isPart 9 RX9 D cy) (hR : 2 ≤ R.frames ∧ 47 ≤ R.locals) (hf : cells ≤ R.cells ∧ slots ≤ R.slots) (p3 : Int32) (p4 : Int32) (p6 : Int32) {kx159 : Int32 → Option ρ} :
    ∀ (n : Nat) (v7 : Int32) (v8 : Int32), it2 (Rs_isPart_111 p3 p4 p6 τ kx159) n v7 v8 = some out → ∀ (H : Heap) (locs : List Loc) (ls : Array Slot), GC D (rwd cy q X) ad s τ H locs → lv_has ls 9 [(0, .ref (q 0)), (3, .int p3), (4, .int p4), (6, .int p6), (7, .int v7), (8, .int v8)] → (∀ (u7 : Int32) (H : Heap) (locs : List Loc) (ls : Array Slot), kx159 u7 = some out → GC D (rwd cy q X) ad s τ H locs → lv_has ls 9 [(0, .ref (q 0)), (3, .int p3), (4, .int p4), (6, .int p6), (7, .int u7)] → W p l e R s m args below meth c H locs cells slots Q (F0 m 159 ls [])) → W p l e R s m args below meth c H locs cells slots Q (F0 m 111 ls []) := by
  have hx := fx.1
  have hb := fx.2.1
  intro n
  induction n with
  | zero => intro v7 v8 hm; exact (it2_z hm).elim
  | succ n ih =>
    intro v7 v8 hm H locs ls hC hl hx159
    obtain ⟨rc, hrc⟩ : ∃ z, z = it2 (Rs_isPart_111 p3 p4 p6 τ kx159) n := ⟨_, rfl⟩
    replace hm : Rs_isPart_111 p3 p4 p6 τ kx159 rc v7 v8 = some out := by rw [hrc]; exact hm
    unfold Rs_isPart_111 at hm
    refine lv_iload hx hb dX9_isPart_111 (lv_at hl 5 rfl) ?_
    refine lv_aload_n hx hb dX9_isPart_113 rfl (lv_at hl 0 rfl) ?_
    refine Rg_0 fx hC dX9_isPart_114 ?_
    refine lv_icmp_ge (tgt := 159) hx hb dX9_isPart_117 (by decide) (fun c_16 => ?_) (fun c_16 => ?_)
    · replace hm := ifp hm c_16
      exact hx159 _ _ _ _ hm hC (lv_sub hl [0, 1, 2, 3, 4] rfl)
    · replace hm := ifn hm c_16
      refine lv_iload hx hb dX9_isPart_120 (lv_at hl 4 rfl) ?_
      refine lv_aload_n hx hb dX9_isPart_122 rfl (lv_at hl 0 rfl) ?_
      refine Rg_19 fx hC dX9_isPart_123 ?_
      refine lv_iload hx hb dX9_isPart_126 (lv_at hl 5 rfl) ?_
      have h_17 := (gi_in hm).1
      replace hm := (gi_in hm).2
      refine Rl_19 fx hC h_17 dX9_isPart_128 ?_
      refine lv_aload_n hx hb dX9_isPart_129 rfl (lv_at hl 0 rfl) ?_
      refine Rg_19 fx hC dX9_isPart_130 ?_
      refine lv_iload hx hb dX9_isPart_133 (lv_at hl 3 rfl) ?_
      have h_18 := (gi_in hm).1
      replace hm := (gi_in hm).2
      refine Rl_19 fx hC h_18 dX9_isPart_135 ?_
      refine lv_icmp_ne (tgt := 149) hx hb dX9_isPart_136 (by decide) (fun c_19 => ?_) (fun c_19 => ?_)
      · replace hm := ifn hm c_19
        refine lv_iconst (v := (0 : Int32)) hx hb dX9_isPart_149 (by decide) ?_
        refine lv_iadd hx hb dX9_isPart_150 ?_
        refine lv_istore (lv' := [(7, .int (v7 + (0 : Int32))), (0, .ref (q 0)), (3, .int p3), (4, .int p4), (6, .int p6), (8, .int v8)]) hx hb dX9_isPart_151 hl (by decide) rfl (fun ls hl => ?_)
        refine lv_iinc (v := (v8 + (1 : Int32))) (lv' := [(8, .int (v8 + (1 : Int32))), (7, .int (v7 + (0 : Int32))), (0, .ref (q 0)), (3, .int p3), (4, .int p4), (6, .int p6)]) hx hb dX9_isPart_153 hl (k := 5) rfl rfl (by decide) rfl (fun ls hl => ?_)
        refine lv_goto (tgt := 111) hx hb dX9_isPart_156 (by decide) ?_
        rw [hrc] at hm
        exact ih _ _ hm _ _ _ hC (lv_sub hl [2, 3, 4, 5, 1, 0] rfl) hx159
      · replace hm := ifp hm c_19
        refine lv_aload_n hx hb dX9_isPart_139 rfl (lv_at hl 0 rfl) ?_
        refine Rg_1 fx hC dX9_isPart_140 ?_
        refine lv_iload hx hb dX9_isPart_143 (lv_at hl 5 rfl) ?_
        have h_20 := (gi_in hm).1
        replace hm := (gi_in hm).2
        refine Rl_1 fx hC h_20 dX9_isPart_145 ?_
        refine lv_goto (tgt := 150) hx hb dX9_isPart_146 (by decide) ?_
        refine lv_iadd hx hb dX9_isPart_150 ?_
        refine lv_istore (lv' := [(7, .int (v7 + (τ.2 1 (v8).toNatClampNeg))), (0, .ref (q 0)), (3, .int p3), (4, .int p4), (6, .int p6), (8, .int v8)]) hx hb dX9_isPart_151 hl (by decide) rfl (fun ls hl => ?_)
        refine lv_iinc (v := (v8 + (1 : Int32))) (lv' := [(8, .int (v8 + (1 : Int32))), (7, .int (v7 + (τ.2 1 (v8).toNatClampNeg))), (0, .ref (q 0)), (3, .int p3), (4, .int p4), (6, .int p6)]) hx hb dX9_isPart_153 hl (k := 5) rfl rfl (by decide) rfl (fun ls hl => ?_)
        refine lv_goto (tgt := 111) hx hb dX9_isPart_156 (by decide) ?_
        rw [hrc] at hm
        exact ih _ _ hm _ _ _ hC (lv_sub hl [2, 3, 4, 5, 1, 0] rfl) hx159
set_option maxRecDepth 100000 in
set_option maxHeartbeats 4000000 in
theorem Rw_isPart_91 {ρ : Type} {out : ρ} {p : Program} {l : Launch} {e : Env} {R : Room} {s : State} {m : MethodId} {args : Array Value} {below : List Frame} {meth : Method} {c : Code} {cells slots : Nat} {Q : State → Prop} {D : va_G} {cy : Nat → ClassId} {ad : List Nat} {q : Nat → Nat} {X : va_W} (τ : RS) (fx : FX p s m args meth c cX9_isPart 9 RX9 D cy) (hR : 2 ≤ R.frames ∧ 47 ≤ R.locals) (hf : cells ≤ R.cells ∧ slots ≤ R.slots) (p3 : Int32) (p4 : Int32) {kx175 : Int32 → Option ρ} :
    ∀ (n : Nat) (v5 : Int32) (v6 : Int32), it2 (Rs_isPart_91 p3 p4 τ kx175) n v5 v6 = some out → ∀ (H : Heap) (locs : List Loc) (ls : Array Slot), GC D (rwd cy q X) ad s τ H locs → lv_has ls 9 [(0, .ref (q 0)), (3, .int p3), (4, .int p4), (5, .int v5), (6, .int v6)] → (∀ (u5 : Int32) (H : Heap) (locs : List Loc) (ls : Array Slot), kx175 u5 = some out → GC D (rwd cy q X) ad s τ H locs → lv_has ls 9 [(5, .int u5)] → W p l e R s m args below meth c H locs cells slots Q (F0 m 175 ls [])) → W p l e R s m args below meth c H locs cells slots Q (F0 m 91 ls []) := by
  have hx := fx.1
  have hb := fx.2.1
  intro n
  induction n with
  | zero => intro v5 v6 hm; exact (it2_z hm).elim
  | succ n ih =>
    intro v5 v6 hm H locs ls hC hl hx175
    obtain ⟨rc, hrc⟩ : ∃ z, z = it2 (Rs_isPart_91 p3 p4 τ kx175) n := ⟨_, rfl⟩
    replace hm : Rs_isPart_91 p3 p4 τ kx175 rc v5 v6 = some out := by rw [hrc]; exact hm
    unfold Rs_isPart_91 at hm
    refine lv_iload hx hb dX9_isPart_91 (lv_at hl 3 rfl) ?_
    refine lv_if_eq (tgt := 175) hx hb dX9_isPart_93 (by decide) (fun c_14 => ?_) (fun c_14 => ?_)
    · replace hm := ifp hm c_14
      exact hx175 _ _ _ _ hm hC (lv_sub hl [3] rfl)
    · replace hm := ifn hm c_14
      refine lv_iload hx hb dX9_isPart_96 (lv_at hl 4 rfl) ?_
      refine lv_aload_n hx hb dX9_isPart_98 rfl (lv_at hl 0 rfl) ?_
      refine Rg_0 fx hC dX9_isPart_99 ?_
      refine lv_icmp_ge (tgt := 175) hx hb dX9_isPart_102 (by decide) (fun c_15 => ?_) (fun c_15 => ?_)
      · replace hm := ifp hm c_15
        exact hx175 _ _ _ _ hm hC (lv_sub hl [3] rfl)
      · replace hm := ifn hm c_15
        refine lv_iconst (v := (0 : Int32)) hx hb dX9_isPart_105 (by decide) ?_
        refine lv_istore (lv' := [(7, .int (0 : Int32)), (0, .ref (q 0)), (3, .int p3), (4, .int p4), (5, .int v5), (6, .int v6)]) hx hb dX9_isPart_106 hl (by decide) rfl (fun ls hl => ?_)
        refine lv_iconst (v := (0 : Int32)) hx hb dX9_isPart_108 (by decide) ?_
        refine lv_istore (lv' := [(8, .int (0 : Int32)), (7, .int (0 : Int32)), (0, .ref (q 0)), (3, .int p3), (4, .int p4), (5, .int v5), (6, .int v6)]) hx hb dX9_isPart_109 hl (by decide) rfl (fun ls hl => ?_)
        refine Rw_isPart_111 τ fx hR hf p3 p4 v6 fuel (0 : Int32) (0 : Int32) hm _ _ _ hC (lv_sub hl [2, 3, 4, 6, 1, 0] rfl) (fun u_21 H locs ls hm hC hl => ?_)
        refine lv_iload hx hb dX9_isPart_159 (lv_at hl 4 rfl) ?_
        refine lv_iload_n hx hb dX9_isPart_161 rfl (lv_at hl 1 rfl) ?_
        refine lv_iload hx hb dX9_isPart_162 (lv_at hl 2 rfl) ?_
        refine g_callSi (As := [.int u_21, .int p3, .int p4]) (rest := []) fx hC rw_w (Rc_in l rw_w τ u_21 p3 p4) k_140 Rk_in Rh_in ⟨rfl, rfl⟩ ⟨Nat.le_trans (Nat.le_of_ble_eq_true rfl) hR.1, Nat.le_trans (Nat.le_of_ble_eq_true rfl) hR.2⟩ hf rfl hl.1 rfl (Nat.le_of_ble_eq_true rfl) dX9_isPart_164 (fun H locs hC => ?_)
        refine lv_istore (lv' := [(5, .int (Rm_in u_21 p3 p4)), (0, .ref (q 0)), (3, .int p3), (4, .int p4), (6, .int v6), (7, .int u_21)]) hx hb dX9_isPart_167 hl (by decide) rfl (fun ls hl => ?_)
        refine lv_iinc (v := (v6 + (1 : Int32))) (lv' := [(6, .int (v6 + (1 : Int32))), (5, .int (Rm_in u_21 p3 p4)), (0, .ref (q 0)), (3, .int p3), (4, .int p4), (7, .int u_21)]) hx hb dX9_isPart_169 hl (k := 4) rfl rfl (by decide) rfl (fun ls hl => ?_)
        refine lv_goto (tgt := 91) hx hb dX9_isPart_172 (by decide) ?_
        rw [hrc] at hm
        exact ih _ _ hm _ _ _ hC (lv_sub hl [2, 3, 4, 1, 0] rfl) hx175
set_option maxRecDepth 100000 in
set_option maxHeartbeats 4000000 in
theorem Rc_isPart (l : Launch) {D : va_G} {cy : Nat → ClassId} {ad : List Nat} {q : Nat → Nat} {X : va_W} (τ : RS) (a1 : Int32) (a2 : Int32) (a3 : Int32) (a4 : Int32) {o : Int32 × RS} (hm : Rm_isPart τ a1 a2 a3 a4 = some o) : GM l yX9_isPart cX9_isPart 9 (some .boolean) Rrm_isPart D cy (rwd cy q X) ad [.ref (q 0), .int a1, .int a2, .int a3, .int a4] τ (some (.int o.1)) o.2 := by
  refine g_start RX9 rfl (by decide) (Nat.le_of_ble_eq_true rfl) ?_
  intro p e s m args below meth c fx hr hC ls hl
  have hx := fx.1
  have hb := fx.2.1
  have hR : 2 ≤ (Rrm_isPart).frames ∧ 47 ≤ (Rrm_isPart).locals := ⟨Nat.le_refl _, Nat.le_refl _⟩
  have hf : 0 ≤ (Rrm_isPart).cells ∧ 0 ≤ (Rrm_isPart).slots := ⟨Nat.zero_le _, Nat.zero_le _⟩
  have hl : lv_has ls 9 [(0, .ref (q 0)), (1, .int a1), (2, .int a2), (3, .int a3), (4, .int a4)] := hl
  unfold Rm_isPart at hm
  refine lv_aload_n hx hb dX9_isPart_0 rfl (lv_at hl 0 rfl) ?_
  refine lv_iload_n hx hb dX9_isPart_1 rfl (lv_at hl 1 rfl) ?_
  obtain ⟨r_2, τ_3, e_1, hm⟩ := b2_in hm
  refine g_callVi (k0 := 0) (ci := 9) (As := [.int a1]) (rest := []) fx hC rw_w (Rc_heaps l τ a1 e_1) k_326 Rk_heaps Rh_heaps rfl rfl rfl ⟨rfl, rfl⟩ ⟨Nat.le_trans (Nat.le_of_ble_eq_true rfl) hR.1, Nat.le_trans (Nat.le_of_ble_eq_true rfl) hR.2⟩ hf rfl hl.1 rfl (Nat.le_of_ble_eq_true rfl) dX9_isPart_2 (fun H locs hC => ?_)
  refine lv_iload_n hx hb dX9_isPart_5 rfl (lv_at hl 2 rfl) ?_
  refine lv_icmp_ne (tgt := 13) hx hb dX9_isPart_6 (by decide) (fun c_4 => ?_) (fun c_4 => ?_)
  · replace hm := ifn hm c_4
    refine lv_iconst (v := (0 : Int32)) hx hb dX9_isPart_13 (by decide) ?_
    refine lv_istore (lv' := [(5, .int (0 : Int32)), (0, .ref (q 0)), (1, .int a1), (2, .int a2), (3, .int a3), (4, .int a4)]) hx hb dX9_isPart_14 hl (by decide) rfl (fun ls hl => ?_)
    refine lv_iconst (v := (0 : Int32)) hx hb dX9_isPart_16 (by decide) ?_
    refine lv_istore (lv' := [(6, .int (0 : Int32)), (5, .int (0 : Int32)), (0, .ref (q 0)), (1, .int a1), (2, .int a2), (3, .int a3), (4, .int a4)]) hx hb dX9_isPart_17 hl (by decide) rfl (fun ls hl => ?_)
    refine Rw_isPart_19 τ_3 fx hR hf a1 a3 a4 fuel (0 : Int32) (0 : Int32) hm _ _ _ hC (lv_sub hl [2, 3, 5, 6, 1, 0] rfl) (fun u_13 H locs ls hm hC hl => ?_)
    refine lv_iconst (v := (0 : Int32)) hx hb dX9_isPart_88 (by decide) ?_
    refine lv_istore (lv' := [(6, .int (0 : Int32)), (0, .ref (q 0)), (3, .int a3), (4, .int a4), (5, .int u_13)]) hx hb dX9_isPart_89 hl (by decide) rfl (fun ls hl => ?_)
    refine Rw_isPart_91 τ_3 fx hR hf a3 a4 fuel u_13 (0 : Int32) hm _ _ _ hC (lv_sub hl [1, 2, 3, 4, 0] rfl) (fun u_22 H locs ls hm hC hl => ?_)
    refine lv_iload hx hb dX9_isPart_175 (lv_at hl 0 rfl) ?_
    have h_23 := (gb_in hm).1
    replace hm := (gb_in hm).2
    cases hm
    exact g_zret fx hr h_23 hC rfl dX9_isPart_177
  · replace hm := ifp hm c_4
    refine lv_iconst (v := (1 : Int32)) hx hb dX9_isPart_9 (by decide) ?_
    refine lv_goto (tgt := 14) hx hb dX9_isPart_10 (by decide) ?_
    refine lv_istore (lv' := [(5, .int (1 : Int32)), (0, .ref (q 0)), (1, .int a1), (2, .int a2), (3, .int a3), (4, .int a4)]) hx hb dX9_isPart_14 hl (by decide) rfl (fun ls hl => ?_)
    refine lv_iconst (v := (0 : Int32)) hx hb dX9_isPart_16 (by decide) ?_
    refine lv_istore (lv' := [(6, .int (0 : Int32)), (5, .int (1 : Int32)), (0, .ref (q 0)), (1, .int a1), (2, .int a2), (3, .int a3), (4, .int a4)]) hx hb dX9_isPart_17 hl (by decide) rfl (fun ls hl => ?_)
    refine Rw_isPart_19 τ_3 fx hR hf a1 a3 a4 fuel (1 : Int32) (0 : Int32) hm _ _ _ hC (lv_sub hl [2, 3, 5, 6, 1, 0] rfl) (fun u_24 H locs ls hm hC hl => ?_)
    refine lv_iconst (v := (0 : Int32)) hx hb dX9_isPart_88 (by decide) ?_
    refine lv_istore (lv' := [(6, .int (0 : Int32)), (0, .ref (q 0)), (3, .int a3), (4, .int a4), (5, .int u_24)]) hx hb dX9_isPart_89 hl (by decide) rfl (fun ls hl => ?_)
    refine Rw_isPart_91 τ_3 fx hR hf a3 a4 fuel u_24 (0 : Int32) hm _ _ _ hC (lv_sub hl [1, 2, 3, 4, 0] rfl) (fun u_25 H locs ls hm hC hl => ?_)
    refine lv_iload hx hb dX9_isPart_175 (lv_at hl 0 rfl) ?_
    have h_26 := (gb_in hm).1
    replace hm := (gb_in hm).2
    cases hm
    exact g_zret fx hr h_26 hC rfl dX9_isPart_177
def Rs_parts_18 {ρ : Type} (p1 : Int32) (p2 : Int32) (p3 : Int32) (kx73 : RS → Option ρ) (rc : Int32 → RS → Option ρ) (v4 : Int32) (τ : RS) : Option ρ :=
  if (4096 : Int32) ≤ v4 then (kx73  τ) else (if (30 : Int32) ≤ (τ.1 6) then (kx73  τ) else (if (Rm_net τ) ≤ v4 then (b1 (Rm_put τ v4 (0 : Int32)) (fun τ_6 => rc (v4 + (1 : Int32)) τ_6)) else (b2 (Rm_isPart τ v4 p1 p2 p3) (fun r_8 τ_9 => if r_8 = (0 : Int32) then (b1 (Rm_put τ_9 v4 (0 : Int32)) (fun τ_12 => rc (v4 + (1 : Int32)) τ_12)) else (b1 (Rm_put τ_9 v4 (1 : Int32)) (fun τ_14 => rc (v4 + (1 : Int32)) τ_14))))))
def Rm_parts (τ : RS) (a1 : Int32) (a2 : Int32) (a3 : Int32) : Option (Int32 × RS) :=
  if (Rm_in a1 (1 : Int32) (τ.1 0)) = (0 : Int32) then (some ((-2 : Int32), τ)) else (it2 (Rs_parts_18 a1 a2 a3 (fun τ_15 => b2 (Rm_made τ_15 (5 : Int32)) (fun r_17 τ_18 => some (r_17, τ_18)))) fuel (0 : Int32) τ)
abbrev Rrm_parts : Room := { frames := 3, cells := 0, slots := 0, locals := 75 }
set_option maxRecDepth 100000 in
set_option maxHeartbeats 4000000 in
theorem Rw_parts_18 {ρ : Type} {out : ρ} {p : Program} {l : Launch} {e : Env} {R : Room} {s : State} {m : MethodId} {args : Array Value} {below : List Frame} {meth : Method} {c : Code} {cells slots : Nat} {Q : State → Prop} {D : va_G} {cy : Nat → ClassId} {ad : List Nat} {q : Nat → Nat} {X : va_W} (fx : FX p s m args meth c cX9_parts 5 RX9 D cy) (hR : 3 ≤ R.frames ∧ 75 ≤ R.locals) (hf : cells ≤ R.cells ∧ slots ≤ R.slots) (p1 : Int32) (p2 : Int32) (p3 : Int32) {kx73 : RS → Option ρ} :
    ∀ (n : Nat) (v4 : Int32) (τ : RS), it2 (Rs_parts_18 p1 p2 p3 kx73) n v4 τ = some out → ∀ (H : Heap) (locs : List Loc) (ls : Array Slot), GC D (rwd cy q X) ad s τ H locs → lv_has ls 5 [(0, .ref (q 0)), (1, .int p1), (2, .int p2), (3, .int p3), (4, .int v4)] → (∀ (τ2 : RS) (H : Heap) (locs : List Loc) (ls : Array Slot), kx73 τ2 = some out → GC D (rwd cy q X) ad s τ2 H locs → lv_has ls 5 [(0, .ref (q 0))] → W p l e R s m args below meth c H locs cells slots Q (F0 m 73 ls [])) → W p l e R s m args below meth c H locs cells slots Q (F0 m 18 ls []) := by
  have hx := fx.1
  have hb := fx.2.1
  intro n
  induction n with
  | zero => intro v4 τ hm; exact (it2_z hm).elim
  | succ n ih =>
    intro v4 τ hm H locs ls hC hl hx73
    obtain ⟨rc, hrc⟩ : ∃ z, z = it2 (Rs_parts_18 p1 p2 p3 kx73) n := ⟨_, rfl⟩
    replace hm : Rs_parts_18 p1 p2 p3 kx73 rc v4 τ = some out := by rw [hrc]; exact hm
    unfold Rs_parts_18 at hm
    refine lv_iload hx hb dX9_parts_18 (lv_at hl 4 rfl) ?_
    refine lv_sipush (v := (4096 : Int32)) hx hb dX9_parts_20 (by decide) ?_
    refine lv_icmp_ge (tgt := 73) hx hb dX9_parts_23 (by decide) (fun c_2 => ?_) (fun c_2 => ?_)
    · replace hm := ifp hm c_2
      exact hx73 _ _ _ _ hm hC (lv_sub hl [0] rfl)
    · replace hm := ifn hm c_2
      refine lv_aload_n hx hb dX9_parts_26 rfl (lv_at hl 0 rfl) ?_
      refine Rg_6 fx hC dX9_parts_27 ?_
      refine lv_bipush (v := (30 : Int32)) hx hb dX9_parts_30 (by decide) ?_
      refine lv_icmp_ge (tgt := 73) hx hb dX9_parts_32 (by decide) (fun c_3 => ?_) (fun c_3 => ?_)
      · replace hm := ifp hm c_3
        exact hx73 _ _ _ _ hm hC (lv_sub hl [0] rfl)
      · replace hm := ifn hm c_3
        refine lv_aload_n hx hb dX9_parts_35 rfl (lv_at hl 0 rfl) ?_
        refine lv_iload hx hb dX9_parts_36 (lv_at hl 4 rfl) ?_
        refine lv_iload hx hb dX9_parts_38 (lv_at hl 4 rfl) ?_
        refine lv_aload_n hx hb dX9_parts_40 rfl (lv_at hl 0 rfl) ?_
        refine g_callVi (k0 := 0) (ci := 9) (As := []) (rest := [.int v4, .int v4, .ref (q 0)]) fx hC rw_w (Rc_net l τ) k_233 Rk_net Rh_net rfl rfl rfl ⟨rfl, rfl⟩ ⟨Nat.le_trans (Nat.le_of_ble_eq_true rfl) hR.1, Nat.le_trans (Nat.le_of_ble_eq_true rfl) hR.2⟩ hf rfl hl.1 rfl (Nat.le_of_ble_eq_true rfl) dX9_parts_41 (fun H locs hC => ?_)
        refine lv_icmp_ge (tgt := 63) hx hb dX9_parts_44 (by decide) (fun c_4 => ?_) (fun c_4 => ?_)
        · replace hm := ifp hm c_4
          refine lv_iconst (v := (0 : Int32)) hx hb dX9_parts_63 (by decide) ?_
          obtain ⟨τ_6, e_5, hm⟩ := b1_in hm
          refine g_callVv (k0 := 0) (ci := 9) (As := [.int v4, .int (0 : Int32)]) (rest := []) fx hC rw_w (Rc_put l τ v4 (0 : Int32) e_5) k_237 Rk_put Rh_put rfl rfl rfl ⟨rfl, rfl⟩ ⟨Nat.le_trans (Nat.le_of_ble_eq_true rfl) hR.1, Nat.le_trans (Nat.le_of_ble_eq_true rfl) hR.2⟩ hf rfl hl.1 rfl (Nat.le_of_ble_eq_true rfl) dX9_parts_64 (fun H locs hC => ?_)
          refine lv_iinc (v := (v4 + (1 : Int32))) (lv' := [(4, .int (v4 + (1 : Int32))), (0, .ref (q 0)), (1, .int p1), (2, .int p2), (3, .int p3)]) hx hb dX9_parts_67 hl (k := 4) rfl rfl (by decide) rfl (fun ls hl => ?_)
          refine lv_goto (tgt := 18) hx hb dX9_parts_70 (by decide) ?_
          rw [hrc] at hm
          exact ih _ _ hm _ _ _ hC (lv_sub hl [1, 2, 3, 4, 0] rfl) hx73
        · replace hm := ifn hm c_4
          refine lv_aload_n hx hb dX9_parts_47 rfl (lv_at hl 0 rfl) ?_
          refine lv_iload hx hb dX9_parts_48 (lv_at hl 4 rfl) ?_
          refine lv_iload_n hx hb dX9_parts_50 rfl (lv_at hl 1 rfl) ?_
          refine lv_iload_n hx hb dX9_parts_51 rfl (lv_at hl 2 rfl) ?_
          refine lv_iload_n hx hb dX9_parts_52 rfl (lv_at hl 3 rfl) ?_
          obtain ⟨r_8, τ_9, e_7, hm⟩ := b2_in hm
          refine g_callVi (k0 := 0) (ci := 9) (As := [.int v4, .int p1, .int p2, .int p3]) (rest := [.int v4, .ref (q 0)]) fx hC rw_w (Rc_isPart l τ v4 p1 p2 p3 e_7) k_422 Rk_isPart Rh_isPart rfl rfl rfl ⟨rfl, rfl⟩ ⟨Nat.le_trans (Nat.le_of_ble_eq_true rfl) hR.1, Nat.le_trans (Nat.le_of_ble_eq_true rfl) hR.2⟩ hf rfl hl.1 rfl (Nat.le_of_ble_eq_true rfl) dX9_parts_53 (fun H locs hC => ?_)
          refine lv_if_eq (tgt := 63) hx hb dX9_parts_56 (by decide) (fun c_10 => ?_) (fun c_10 => ?_)
          · replace hm := ifp hm c_10
            refine lv_iconst (v := (0 : Int32)) hx hb dX9_parts_63 (by decide) ?_
            obtain ⟨τ_12, e_11, hm⟩ := b1_in hm
            refine g_callVv (k0 := 0) (ci := 9) (As := [.int v4, .int (0 : Int32)]) (rest := []) fx hC rw_w (Rc_put l τ_9 v4 (0 : Int32) e_11) k_237 Rk_put Rh_put rfl rfl rfl ⟨rfl, rfl⟩ ⟨Nat.le_trans (Nat.le_of_ble_eq_true rfl) hR.1, Nat.le_trans (Nat.le_of_ble_eq_true rfl) hR.2⟩ hf rfl hl.1 rfl (Nat.le_of_ble_eq_true rfl) dX9_parts_64 (fun H locs hC => ?_)
            refine lv_iinc (v := (v4 + (1 : Int32))) (lv' := [(4, .int (v4 + (1 : Int32))), (0, .ref (q 0)), (1, .int p1), (2, .int p2), (3, .int p3)]) hx hb dX9_parts_67 hl (k := 4) rfl rfl (by decide) rfl (fun ls hl => ?_)
            refine lv_goto (tgt := 18) hx hb dX9_parts_70 (by decide) ?_
            rw [hrc] at hm
            exact ih _ _ hm _ _ _ hC (lv_sub hl [1, 2, 3, 4, 0] rfl) hx73
          · replace hm := ifn hm c_10
            refine lv_iconst (v := (1 : Int32)) hx hb dX9_parts_59 (by decide) ?_
            refine lv_goto (tgt := 64) hx hb dX9_parts_60 (by decide) ?_
            obtain ⟨τ_14, e_13, hm⟩ := b1_in hm
            refine g_callVv (k0 := 0) (ci := 9) (As := [.int v4, .int (1 : Int32)]) (rest := []) fx hC rw_w (Rc_put l τ_9 v4 (1 : Int32) e_13) k_237 Rk_put Rh_put rfl rfl rfl ⟨rfl, rfl⟩ ⟨Nat.le_trans (Nat.le_of_ble_eq_true rfl) hR.1, Nat.le_trans (Nat.le_of_ble_eq_true rfl) hR.2⟩ hf rfl hl.1 rfl (Nat.le_of_ble_eq_true rfl) dX9_parts_64 (fun H locs hC => ?_)
            refine lv_iinc (v := (v4 + (1 : Int32))) (lv' := [(4, .int (v4 + (1 : Int32))), (0, .ref (q 0)), (1, .int p1), (2, .int p2), (3, .int p3)]) hx hb dX9_parts_67 hl (k := 4) rfl rfl (by decide) rfl (fun ls hl => ?_)
            refine lv_goto (tgt := 18) hx hb dX9_parts_70 (by decide) ?_
            rw [hrc] at hm
            exact ih _ _ hm _ _ _ hC (lv_sub hl [1, 2, 3, 4, 0] rfl) hx73
set_option maxRecDepth 100000 in
set_option maxHeartbeats 4000000 in
theorem Rc_parts (l : Launch) {D : va_G} {cy : Nat → ClassId} {ad : List Nat} {q : Nat → Nat} {X : va_W} (τ : RS) (a1 : Int32) (a2 : Int32) (a3 : Int32) {o : Int32 × RS} (hm : Rm_parts τ a1 a2 a3 = some o) : GM l yX9_parts cX9_parts 5 (some .int) Rrm_parts D cy (rwd cy q X) ad [.ref (q 0), .int a1, .int a2, .int a3] τ (some (.int o.1)) o.2 := by
  refine g_start RX9 rfl (by decide) (Nat.le_of_ble_eq_true rfl) ?_
  intro p e s m args below meth c fx hr hC ls hl
  have hx := fx.1
  have hb := fx.2.1
  have hR : 3 ≤ (Rrm_parts).frames ∧ 75 ≤ (Rrm_parts).locals := ⟨Nat.le_refl _, Nat.le_refl _⟩
  have hf : 0 ≤ (Rrm_parts).cells ∧ 0 ≤ (Rrm_parts).slots := ⟨Nat.zero_le _, Nat.zero_le _⟩
  have hl : lv_has ls 5 [(0, .ref (q 0)), (1, .int a1), (2, .int a2), (3, .int a3)] := hl
  unfold Rm_parts at hm
  refine lv_iload_n hx hb dX9_parts_0 rfl (lv_at hl 1 rfl) ?_
  refine lv_iconst (v := (1 : Int32)) hx hb dX9_parts_1 (by decide) ?_
  refine lv_aload_n hx hb dX9_parts_2 rfl (lv_at hl 0 rfl) ?_
  refine Rg_0 fx hC dX9_parts_3 ?_
  refine g_callSi (As := [.int a1, .int (1 : Int32), .int (τ.1 0)]) (rest := []) fx hC rw_w (Rc_in l rw_w τ a1 (1 : Int32) (τ.1 0)) k_140 Rk_in Rh_in ⟨rfl, rfl⟩ ⟨Nat.le_trans (Nat.le_of_ble_eq_true rfl) hR.1, Nat.le_trans (Nat.le_of_ble_eq_true rfl) hR.2⟩ hf rfl hl.1 rfl (Nat.le_of_ble_eq_true rfl) dX9_parts_6 (fun H locs hC => ?_)
  refine lv_if_ne (tgt := 15) hx hb dX9_parts_9 (by decide) (fun c_1 => ?_) (fun c_1 => ?_)
  · replace hm := ifn hm c_1
    refine lv_iconst (v := (0 : Int32)) hx hb dX9_parts_15 (by decide) ?_
    refine lv_istore (lv' := [(4, .int (0 : Int32)), (0, .ref (q 0)), (1, .int a1), (2, .int a2), (3, .int a3)]) hx hb dX9_parts_16 hl (by decide) rfl (fun ls hl => ?_)
    refine Rw_parts_18 fx hR hf a1 a2 a3 fuel (0 : Int32) τ hm _ _ _ hC (lv_sub hl [1, 2, 3, 4, 0] rfl) (fun τ_15 H locs ls hm hC hl => ?_)
    refine lv_aload_n hx hb dX9_parts_73 rfl (lv_at hl 0 rfl) ?_
    refine lv_iconst (v := (5 : Int32)) hx hb dX9_parts_74 (by decide) ?_
    obtain ⟨r_17, τ_18, e_16, hm⟩ := b2_in hm
    refine g_callVi (k0 := 0) (ci := 9) (As := [.int (5 : Int32)]) (rest := []) fx hC rw_w (Rc_made l τ_15 (5 : Int32) e_16) k_241 Rk_made Rh_made rfl rfl rfl ⟨rfl, rfl⟩ ⟨Nat.le_trans (Nat.le_of_ble_eq_true rfl) hR.1, Nat.le_trans (Nat.le_of_ble_eq_true rfl) hR.2⟩ hf rfl hl.1 rfl (Nat.le_of_ble_eq_true rfl) dX9_parts_75 (fun H locs hC => ?_)
    cases hm
    exact g_iret fx hr hC rfl dX9_parts_78
  · replace hm := ifp hm c_1
    refine lv_bipush (v := (-2 : Int32)) hx hb dX9_parts_12 (by decide) ?_
    cases hm
    exact g_iret fx hr hC rfl dX9_parts_14
def Rs_degrees_28 {ρ : Type} (p1 : Int32) (p2 : Int32) (p3 : Int32) (p4 : Int32) (kx88 : RS → Option ρ) (rc : Int32 → RS → Option ρ) (v5 : Int32) (τ : RS) : Option ρ :=
  if (4096 : Int32) ≤ v5 then (kx88  τ) else (if (30 : Int32) ≤ (τ.1 6) then (kx88  τ) else (b1 (Rm_isWay τ p1 v5) (fun r_6 => if r_6 = (0 : Int32) then (b1 (Rm_put τ v5 (0 : Int32)) (fun τ_9 => rc (v5 + (1 : Int32)) τ_9)) else (b1 (Rm_at τ v5 p2) (fun r_11 => if (Rm_in r_11 p3 p4) = (0 : Int32) then (b1 (Rm_put τ v5 (0 : Int32)) (fun τ_14 => rc (v5 + (1 : Int32)) τ_14)) else (b1 (Rm_put τ v5 (1 : Int32)) (fun τ_16 => rc (v5 + (1 : Int32)) τ_16)))))))
def Rm_degrees (τ : RS) (a1 : Int32) (a2 : Int32) (a3 : Int32) (a4 : Int32) : Option (Int32 × RS) :=
  if (Rm_isFamily τ a1) = (0 : Int32) then (some ((-2 : Int32), τ)) else (if (Rm_in a2 (0 : Int32) ((τ.1 0) - (1 : Int32))) = (0 : Int32) then (some ((-2 : Int32), τ)) else (it2 (Rs_degrees_28 a1 a2 a3 a4 (fun τ_17 => b2 (Rm_made τ_17 (0 : Int32)) (fun r_19 τ_20 => some (r_19, τ_20)))) fuel (0 : Int32) τ))
abbrev Rrm_degrees : Room := { frames := 2, cells := 0, slots := 0, locals := 45 }
set_option maxRecDepth 100000 in
set_option maxHeartbeats 4000000 in
theorem Rw_degrees_28 {ρ : Type} {out : ρ} {p : Program} {l : Launch} {e : Env} {R : Room} {s : State} {m : MethodId} {args : Array Value} {below : List Frame} {meth : Method} {c : Code} {cells slots : Nat} {Q : State → Prop} {D : va_G} {cy : Nat → ClassId} {ad : List Nat} {q : Nat → Nat} {X : va_W} (fx : FX p s m args meth c cX9_degrees 6 RX9 D cy) (hR : 2 ≤ R.frames ∧ 45 ≤ R.locals) (hf : cells ≤ R.cells ∧ slots ≤ R.slots) (p1 : Int32) (p2 : Int32) (p3 : Int32) (p4 : Int32) {kx88 : RS → Option ρ} :
    ∀ (n : Nat) (v5 : Int32) (τ : RS), it2 (Rs_degrees_28 p1 p2 p3 p4 kx88) n v5 τ = some out → ∀ (H : Heap) (locs : List Loc) (ls : Array Slot), GC D (rwd cy q X) ad s τ H locs → lv_has ls 6 [(0, .ref (q 0)), (1, .int p1), (2, .int p2), (3, .int p3), (4, .int p4), (5, .int v5)] → (∀ (τ2 : RS) (H : Heap) (locs : List Loc) (ls : Array Slot), kx88 τ2 = some out → GC D (rwd cy q X) ad s τ2 H locs → lv_has ls 6 [(0, .ref (q 0))] → W p l e R s m args below meth c H locs cells slots Q (F0 m 88 ls [])) → W p l e R s m args below meth c H locs cells slots Q (F0 m 28 ls []) := by
  have hx := fx.1
  have hb := fx.2.1
  intro n
  induction n with
  | zero => intro v5 τ hm; exact (it2_z hm).elim
  | succ n ih =>
    intro v5 τ hm H locs ls hC hl hx88
    obtain ⟨rc, hrc⟩ : ∃ z, z = it2 (Rs_degrees_28 p1 p2 p3 p4 kx88) n := ⟨_, rfl⟩
    replace hm : Rs_degrees_28 p1 p2 p3 p4 kx88 rc v5 τ = some out := by rw [hrc]; exact hm
    unfold Rs_degrees_28 at hm
    refine lv_iload hx hb dX9_degrees_28 (lv_at hl 5 rfl) ?_
    refine lv_sipush (v := (4096 : Int32)) hx hb dX9_degrees_30 (by decide) ?_
    refine lv_icmp_ge (tgt := 88) hx hb dX9_degrees_33 (by decide) (fun c_3 => ?_) (fun c_3 => ?_)
    · replace hm := ifp hm c_3
      exact hx88 _ _ _ _ hm hC (lv_sub hl [0] rfl)
    · replace hm := ifn hm c_3
      refine lv_aload_n hx hb dX9_degrees_36 rfl (lv_at hl 0 rfl) ?_
      refine Rg_6 fx hC dX9_degrees_37 ?_
      refine lv_bipush (v := (30 : Int32)) hx hb dX9_degrees_40 (by decide) ?_
      refine lv_icmp_ge (tgt := 88) hx hb dX9_degrees_42 (by decide) (fun c_4 => ?_) (fun c_4 => ?_)
      · replace hm := ifp hm c_4
        exact hx88 _ _ _ _ hm hC (lv_sub hl [0] rfl)
      · replace hm := ifn hm c_4
        refine lv_aload_n hx hb dX9_degrees_45 rfl (lv_at hl 0 rfl) ?_
        refine lv_iload hx hb dX9_degrees_46 (lv_at hl 5 rfl) ?_
        refine lv_aload_n hx hb dX9_degrees_48 rfl (lv_at hl 0 rfl) ?_
        refine lv_iload_n hx hb dX9_degrees_49 rfl (lv_at hl 1 rfl) ?_
        refine lv_iload hx hb dX9_degrees_50 (lv_at hl 5 rfl) ?_
        obtain ⟨r_6, e_5, hm⟩ := b1_in hm
        refine g_callVi (k0 := 0) (ci := 9) (As := [.int p1, .int v5]) (rest := [.int v5, .ref (q 0)]) fx hC rw_w (Rc_isWay l τ p1 v5 e_5) k_453 Rk_isWay Rh_isWay rfl rfl rfl ⟨rfl, rfl⟩ ⟨Nat.le_trans (Nat.le_of_ble_eq_true rfl) hR.1, Nat.le_trans (Nat.le_of_ble_eq_true rfl) hR.2⟩ hf rfl hl.1 rfl (Nat.le_of_ble_eq_true rfl) dX9_degrees_52 (fun H locs hC => ?_)
        refine lv_if_eq (tgt := 78) hx hb dX9_degrees_55 (by decide) (fun c_7 => ?_) (fun c_7 => ?_)
        · replace hm := ifp hm c_7
          refine lv_iconst (v := (0 : Int32)) hx hb dX9_degrees_78 (by decide) ?_
          obtain ⟨τ_9, e_8, hm⟩ := b1_in hm
          refine g_callVv (k0 := 0) (ci := 9) (As := [.int v5, .int (0 : Int32)]) (rest := []) fx hC rw_w (Rc_put l τ v5 (0 : Int32) e_8) k_237 Rk_put Rh_put rfl rfl rfl ⟨rfl, rfl⟩ ⟨Nat.le_trans (Nat.le_of_ble_eq_true rfl) hR.1, Nat.le_trans (Nat.le_of_ble_eq_true rfl) hR.2⟩ hf rfl hl.1 rfl (Nat.le_of_ble_eq_true rfl) dX9_degrees_79 (fun H locs hC => ?_)
          refine lv_iinc (v := (v5 + (1 : Int32))) (lv' := [(5, .int (v5 + (1 : Int32))), (0, .ref (q 0)), (1, .int p1), (2, .int p2), (3, .int p3), (4, .int p4)]) hx hb dX9_degrees_82 hl (k := 5) rfl rfl (by decide) rfl (fun ls hl => ?_)
          refine lv_goto (tgt := 28) hx hb dX9_degrees_85 (by decide) ?_
          rw [hrc] at hm
          exact ih _ _ hm _ _ _ hC (lv_sub hl [1, 2, 3, 4, 5, 0] rfl) hx88
        · replace hm := ifn hm c_7
          refine lv_aload_n hx hb dX9_degrees_58 rfl (lv_at hl 0 rfl) ?_
          refine lv_iload hx hb dX9_degrees_59 (lv_at hl 5 rfl) ?_
          refine lv_iload_n hx hb dX9_degrees_61 rfl (lv_at hl 2 rfl) ?_
          obtain ⟨r_11, e_10, hm⟩ := b1_in hm
          refine g_callVi (k0 := 0) (ci := 9) (As := [.int v5, .int p2]) (rest := [.int v5, .ref (q 0)]) fx hC rw_w (Rc_at l τ v5 p2 e_10) k_319 Rk_at Rh_at rfl rfl rfl ⟨rfl, rfl⟩ ⟨Nat.le_trans (Nat.le_of_ble_eq_true rfl) hR.1, Nat.le_trans (Nat.le_of_ble_eq_true rfl) hR.2⟩ hf rfl hl.1 rfl (Nat.le_of_ble_eq_true rfl) dX9_degrees_62 (fun H locs hC => ?_)
          refine lv_iload_n hx hb dX9_degrees_65 rfl (lv_at hl 3 rfl) ?_
          refine lv_iload hx hb dX9_degrees_66 (lv_at hl 4 rfl) ?_
          refine g_callSi (As := [.int r_11, .int p3, .int p4]) (rest := [.int v5, .ref (q 0)]) fx hC rw_w (Rc_in l rw_w τ r_11 p3 p4) k_140 Rk_in Rh_in ⟨rfl, rfl⟩ ⟨Nat.le_trans (Nat.le_of_ble_eq_true rfl) hR.1, Nat.le_trans (Nat.le_of_ble_eq_true rfl) hR.2⟩ hf rfl hl.1 rfl (Nat.le_of_ble_eq_true rfl) dX9_degrees_68 (fun H locs hC => ?_)
          refine lv_if_eq (tgt := 78) hx hb dX9_degrees_71 (by decide) (fun c_12 => ?_) (fun c_12 => ?_)
          · replace hm := ifp hm c_12
            refine lv_iconst (v := (0 : Int32)) hx hb dX9_degrees_78 (by decide) ?_
            obtain ⟨τ_14, e_13, hm⟩ := b1_in hm
            refine g_callVv (k0 := 0) (ci := 9) (As := [.int v5, .int (0 : Int32)]) (rest := []) fx hC rw_w (Rc_put l τ v5 (0 : Int32) e_13) k_237 Rk_put Rh_put rfl rfl rfl ⟨rfl, rfl⟩ ⟨Nat.le_trans (Nat.le_of_ble_eq_true rfl) hR.1, Nat.le_trans (Nat.le_of_ble_eq_true rfl) hR.2⟩ hf rfl hl.1 rfl (Nat.le_of_ble_eq_true rfl) dX9_degrees_79 (fun H locs hC => ?_)
            refine lv_iinc (v := (v5 + (1 : Int32))) (lv' := [(5, .int (v5 + (1 : Int32))), (0, .ref (q 0)), (1, .int p1), (2, .int p2), (3, .int p3), (4, .int p4)]) hx hb dX9_degrees_82 hl (k := 5) rfl rfl (by decide) rfl (fun ls hl => ?_)
            refine lv_goto (tgt := 28) hx hb dX9_degrees_85 (by decide) ?_
            rw [hrc] at hm
            exact ih _ _ hm _ _ _ hC (lv_sub hl [1, 2, 3, 4, 5, 0] rfl) hx88
          · replace hm := ifn hm c_12
            refine lv_iconst (v := (1 : Int32)) hx hb dX9_degrees_74 (by decide) ?_
            refine lv_goto (tgt := 79) hx hb dX9_degrees_75 (by decide) ?_
            obtain ⟨τ_16, e_15, hm⟩ := b1_in hm
            refine g_callVv (k0 := 0) (ci := 9) (As := [.int v5, .int (1 : Int32)]) (rest := []) fx hC rw_w (Rc_put l τ v5 (1 : Int32) e_15) k_237 Rk_put Rh_put rfl rfl rfl ⟨rfl, rfl⟩ ⟨Nat.le_trans (Nat.le_of_ble_eq_true rfl) hR.1, Nat.le_trans (Nat.le_of_ble_eq_true rfl) hR.2⟩ hf rfl hl.1 rfl (Nat.le_of_ble_eq_true rfl) dX9_degrees_79 (fun H locs hC => ?_)
            refine lv_iinc (v := (v5 + (1 : Int32))) (lv' := [(5, .int (v5 + (1 : Int32))), (0, .ref (q 0)), (1, .int p1), (2, .int p2), (3, .int p3), (4, .int p4)]) hx hb dX9_degrees_82 hl (k := 5) rfl rfl (by decide) rfl (fun ls hl => ?_)
            refine lv_goto (tgt := 28) hx hb dX9_degrees_85 (by decide) ?_
            rw [hrc] at hm
            exact ih _ _ hm _ _ _ hC (lv_sub hl [1, 2, 3, 4, 5, 0] rfl) hx88
set_option maxRecDepth 100000 in
set_option maxHeartbeats 4000000 in
theorem Rc_degrees (l : Launch) {D : va_G} {cy : Nat → ClassId} {ad : List Nat} {q : Nat → Nat} {X : va_W} (τ : RS) (a1 : Int32) (a2 : Int32) (a3 : Int32) (a4 : Int32) {o : Int32 × RS} (hm : Rm_degrees τ a1 a2 a3 a4 = some o) : GM l yX9_degrees cX9_degrees 6 (some .int) Rrm_degrees D cy (rwd cy q X) ad [.ref (q 0), .int a1, .int a2, .int a3, .int a4] τ (some (.int o.1)) o.2 := by
  refine g_start RX9 rfl (by decide) (Nat.le_of_ble_eq_true rfl) ?_
  intro p e s m args below meth c fx hr hC ls hl
  have hx := fx.1
  have hb := fx.2.1
  have hR : 2 ≤ (Rrm_degrees).frames ∧ 45 ≤ (Rrm_degrees).locals := ⟨Nat.le_refl _, Nat.le_refl _⟩
  have hf : 0 ≤ (Rrm_degrees).cells ∧ 0 ≤ (Rrm_degrees).slots := ⟨Nat.zero_le _, Nat.zero_le _⟩
  have hl : lv_has ls 6 [(0, .ref (q 0)), (1, .int a1), (2, .int a2), (3, .int a3), (4, .int a4)] := hl
  unfold Rm_degrees at hm
  refine lv_aload_n hx hb dX9_degrees_0 rfl (lv_at hl 0 rfl) ?_
  refine lv_iload_n hx hb dX9_degrees_1 rfl (lv_at hl 1 rfl) ?_
  refine g_callVi (k0 := 0) (ci := 9) (As := [.int a1]) (rest := []) fx hC rw_w (Rc_isFamily l τ a1) k_449 Rk_isFamily Rh_isFamily rfl rfl rfl ⟨rfl, rfl⟩ ⟨Nat.le_trans (Nat.le_of_ble_eq_true rfl) hR.1, Nat.le_trans (Nat.le_of_ble_eq_true rfl) hR.2⟩ hf rfl hl.1 rfl (Nat.le_of_ble_eq_true rfl) dX9_degrees_2 (fun H locs hC => ?_)
  refine lv_if_eq (tgt := 22) hx hb dX9_degrees_5 (by decide) (fun c_1 => ?_) (fun c_1 => ?_)
  · replace hm := ifp hm c_1
    refine lv_bipush (v := (-2 : Int32)) hx hb dX9_degrees_22 (by decide) ?_
    cases hm
    exact g_iret fx hr hC rfl dX9_degrees_24
  · replace hm := ifn hm c_1
    refine lv_iload_n hx hb dX9_degrees_8 rfl (lv_at hl 2 rfl) ?_
    refine lv_iconst (v := (0 : Int32)) hx hb dX9_degrees_9 (by decide) ?_
    refine lv_aload_n hx hb dX9_degrees_10 rfl (lv_at hl 0 rfl) ?_
    refine Rg_0 fx hC dX9_degrees_11 ?_
    refine lv_iconst (v := (1 : Int32)) hx hb dX9_degrees_14 (by decide) ?_
    refine lv_isub hx hb dX9_degrees_15 ?_
    refine g_callSi (As := [.int a2, .int (0 : Int32), .int ((τ.1 0) - (1 : Int32))]) (rest := []) fx hC rw_w (Rc_in l rw_w τ a2 (0 : Int32) ((τ.1 0) - (1 : Int32))) k_140 Rk_in Rh_in ⟨rfl, rfl⟩ ⟨Nat.le_trans (Nat.le_of_ble_eq_true rfl) hR.1, Nat.le_trans (Nat.le_of_ble_eq_true rfl) hR.2⟩ hf rfl hl.1 rfl (Nat.le_of_ble_eq_true rfl) dX9_degrees_16 (fun H locs hC => ?_)
    refine lv_if_ne (tgt := 25) hx hb dX9_degrees_19 (by decide) (fun c_2 => ?_) (fun c_2 => ?_)
    · replace hm := ifn hm c_2
      refine lv_iconst (v := (0 : Int32)) hx hb dX9_degrees_25 (by decide) ?_
      refine lv_istore (lv' := [(5, .int (0 : Int32)), (0, .ref (q 0)), (1, .int a1), (2, .int a2), (3, .int a3), (4, .int a4)]) hx hb dX9_degrees_26 hl (by decide) rfl (fun ls hl => ?_)
      refine Rw_degrees_28 fx hR hf a1 a2 a3 a4 fuel (0 : Int32) τ hm _ _ _ hC (lv_sub hl [1, 2, 3, 4, 5, 0] rfl) (fun τ_17 H locs ls hm hC hl => ?_)
      refine lv_aload_n hx hb dX9_degrees_88 rfl (lv_at hl 0 rfl) ?_
      refine lv_iconst (v := (0 : Int32)) hx hb dX9_degrees_89 (by decide) ?_
      obtain ⟨r_19, τ_20, e_18, hm⟩ := b2_in hm
      refine g_callVi (k0 := 0) (ci := 9) (As := [.int (0 : Int32)]) (rest := []) fx hC rw_w (Rc_made l τ_17 (0 : Int32) e_18) k_241 Rk_made Rh_made rfl rfl rfl ⟨rfl, rfl⟩ ⟨Nat.le_trans (Nat.le_of_ble_eq_true rfl) hR.1, Nat.le_trans (Nat.le_of_ble_eq_true rfl) hR.2⟩ hf rfl hl.1 rfl (Nat.le_of_ble_eq_true rfl) dX9_degrees_90 (fun H locs hC => ?_)
      cases hm
      exact g_iret fx hr hC rfl dX9_degrees_93
    · replace hm := ifp hm c_2
      refine lv_bipush (v := (-2 : Int32)) hx hb dX9_degrees_22 (by decide) ?_
      cases hm
      exact g_iret fx hr hC rfl dX9_degrees_24
def Rs_handed_2 {ρ : Type} (kx35 : RS → Option ρ) (rc : Int32 → RS → Option ρ) (v1 : Int32) (τ : RS) : Option ρ :=
  if (4096 : Int32) ≤ v1 then (kx35  τ) else (if (30 : Int32) ≤ (τ.1 6) then (kx35  τ) else (gi v1 4096 (b1 (Rm_put τ v1 (τ.2 20 (v1).toNatClampNeg)) (fun τ_5 => rc (v1 + (1 : Int32)) τ_5))))
def Rm_handed (τ : RS) : Option (Int32 × RS) :=
  it2 (Rs_handed_2 (fun τ_6 => b2 (Rm_made τ_6 (0 : Int32)) (fun r_8 τ_9 => some (r_8, τ_9)))) fuel (0 : Int32) τ
abbrev Rrm_handed : Room := { frames := 1, cells := 0, slots := 0, locals := 22 }
set_option maxRecDepth 100000 in
set_option maxHeartbeats 4000000 in
theorem Rw_handed_2 {ρ : Type} {out : ρ} {p : Program} {l : Launch} {e : Env} {R : Room} {s : State} {m : MethodId} {args : Array Value} {below : List Frame} {meth : Method} {c : Code} {cells slots : Nat} {Q : State → Prop} {D : va_G} {cy : Nat → ClassId} {ad : List Nat} {q : Nat → Nat} {X : va_W} (fx : FX p s m args meth c cX9_handed 2 RX9 D cy) (hR : 1 ≤ R.frames ∧ 22 ≤ R.locals) (hf : cells ≤ R.cells ∧ slots ≤ R.slots) {kx35 : RS → Option ρ} :
    ∀ (n : Nat) (v1 : Int32) (τ : RS), it2 (Rs_handed_2 kx35) n v1 τ = some out → ∀ (H : Heap) (locs : List Loc) (ls : Array Slot), GC D (rwd cy q X) ad s τ H locs → lv_has ls 2 [(0, .ref (q 0)), (1, .int v1)] → (∀ (τ2 : RS) (H : Heap) (locs : List Loc) (ls : Array Slot), kx35 τ2 = some out → GC D (rwd cy q X) ad s τ2 H locs → lv_has ls 2 [(0, .ref (q 0))] → W p l e R s m args below meth c H locs cells slots Q (F0 m 35 ls [])) → W p l e R s m args below meth c H locs cells slots Q (F0 m 2 ls []) := by
  have hx := fx.1
  have hb := fx.2.1
  intro n
  induction n with
  | zero => intro v1 τ hm; exact (it2_z hm).elim
  | succ n ih =>
    intro v1 τ hm H locs ls hC hl hx35
    obtain ⟨rc, hrc⟩ : ∃ z, z = it2 (Rs_handed_2 kx35) n := ⟨_, rfl⟩
    replace hm : Rs_handed_2 kx35 rc v1 τ = some out := by rw [hrc]; exact hm
    unfold Rs_handed_2 at hm
    refine lv_iload_n hx hb dX9_handed_2 rfl (lv_at hl 1 rfl) ?_
    refine lv_sipush (v := (4096 : Int32)) hx hb dX9_handed_3 (by decide) ?_
    refine lv_icmp_ge (tgt := 35) hx hb dX9_handed_6 (by decide) (fun c_1 => ?_) (fun c_1 => ?_)
    · replace hm := ifp hm c_1
      exact hx35 _ _ _ _ hm hC (lv_sub hl [0] rfl)
    · replace hm := ifn hm c_1
      refine lv_aload_n hx hb dX9_handed_9 rfl (lv_at hl 0 rfl) ?_
      refine Rg_6 fx hC dX9_handed_10 ?_
      refine lv_bipush (v := (30 : Int32)) hx hb dX9_handed_13 (by decide) ?_
      refine lv_icmp_ge (tgt := 35) hx hb dX9_handed_15 (by decide) (fun c_2 => ?_) (fun c_2 => ?_)
      · replace hm := ifp hm c_2
        exact hx35 _ _ _ _ hm hC (lv_sub hl [0] rfl)
      · replace hm := ifn hm c_2
        refine lv_aload_n hx hb dX9_handed_18 rfl (lv_at hl 0 rfl) ?_
        refine lv_iload_n hx hb dX9_handed_19 rfl (lv_at hl 1 rfl) ?_
        refine lv_aload_n hx hb dX9_handed_20 rfl (lv_at hl 0 rfl) ?_
        refine Rg_20 fx hC dX9_handed_21 ?_
        refine lv_iload_n hx hb dX9_handed_24 rfl (lv_at hl 1 rfl) ?_
        have h_3 := (gi_in hm).1
        replace hm := (gi_in hm).2
        refine Rl_20 fx hC h_3 dX9_handed_25 ?_
        obtain ⟨τ_5, e_4, hm⟩ := b1_in hm
        refine g_callVv (k0 := 0) (ci := 9) (As := [.int v1, .int (τ.2 20 (v1).toNatClampNeg)]) (rest := []) fx hC rw_w (Rc_put l τ v1 (τ.2 20 (v1).toNatClampNeg) e_4) k_237 Rk_put Rh_put rfl rfl rfl ⟨rfl, rfl⟩ ⟨Nat.le_trans (Nat.le_of_ble_eq_true rfl) hR.1, Nat.le_trans (Nat.le_of_ble_eq_true rfl) hR.2⟩ hf rfl hl.1 rfl (Nat.le_of_ble_eq_true rfl) dX9_handed_26 (fun H locs hC => ?_)
        refine lv_iinc (v := (v1 + (1 : Int32))) (lv' := [(1, .int (v1 + (1 : Int32))), (0, .ref (q 0))]) hx hb dX9_handed_29 hl (k := 1) rfl rfl (by decide) rfl (fun ls hl => ?_)
        refine lv_goto (tgt := 2) hx hb dX9_handed_32 (by decide) ?_
        rw [hrc] at hm
        exact ih _ _ hm _ _ _ hC (lv_sub hl [1, 0] rfl) hx35
set_option maxRecDepth 100000 in
set_option maxHeartbeats 4000000 in
theorem Rc_handed (l : Launch) {D : va_G} {cy : Nat → ClassId} {ad : List Nat} {q : Nat → Nat} {X : va_W} (τ : RS) {o : Int32 × RS} (hm : Rm_handed τ = some o) : GM l yX9_handed cX9_handed 2 (some .int) Rrm_handed D cy (rwd cy q X) ad [.ref (q 0)] τ (some (.int o.1)) o.2 := by
  refine g_start RX9 rfl (by decide) (Nat.le_of_ble_eq_true rfl) ?_
  intro p e s m args below meth c fx hr hC ls hl
  have hx := fx.1
  have hb := fx.2.1
  have hR : 1 ≤ (Rrm_handed).frames ∧ 22 ≤ (Rrm_handed).locals := ⟨Nat.le_refl _, Nat.le_refl _⟩
  have hf : 0 ≤ (Rrm_handed).cells ∧ 0 ≤ (Rrm_handed).slots := ⟨Nat.zero_le _, Nat.zero_le _⟩
  have hl : lv_has ls 2 [(0, .ref (q 0))] := hl
  unfold Rm_handed at hm
  refine lv_iconst (v := (0 : Int32)) hx hb dX9_handed_0 (by decide) ?_
  refine lv_istore_n (lv' := [(1, .int (0 : Int32)), (0, .ref (q 0))]) hx hb dX9_handed_1 rfl hl (by decide) rfl (fun ls hl => ?_)
  refine Rw_handed_2 fx hR hf fuel (0 : Int32) τ hm _ _ _ hC (lv_sub hl [1, 0] rfl) (fun τ_6 H locs ls hm hC hl => ?_)
  refine lv_aload_n hx hb dX9_handed_35 rfl (lv_at hl 0 rfl) ?_
  refine lv_iconst (v := (0 : Int32)) hx hb dX9_handed_36 (by decide) ?_
  obtain ⟨r_8, τ_9, e_7, hm⟩ := b2_in hm
  refine g_callVi (k0 := 0) (ci := 9) (As := [.int (0 : Int32)]) (rest := []) fx hC rw_w (Rc_made l τ_6 (0 : Int32) e_7) k_241 Rk_made Rh_made rfl rfl rfl ⟨rfl, rfl⟩ ⟨Nat.le_trans (Nat.le_of_ble_eq_true rfl) hR.1, Nat.le_trans (Nat.le_of_ble_eq_true rfl) hR.2⟩ hf rfl hl.1 rfl (Nat.le_of_ble_eq_true rfl) dX9_handed_37 (fun H locs hC => ?_)
  cases hm
  exact g_iret fx hr hC rfl dX9_handed_40
def Rs_isOver_6 {ρ : Type} (p1 : Int32) (p2 : Int32) (p3 : Int32) (τ : RS) (kx61 : Int32 → Option ρ) (rc : Int32 → Int32 → Option ρ) (v4 : Int32) (v5 : Int32) : Option ρ :=
  if v4 = (0 : Int32) then (kx61 v4) else (if (4096 : Int32) ≤ v5 then (kx61 v4) else (b1 (Rm_isWay τ p2 v5) (fun r_4 => if r_4 = (0 : Int32) then (rc (1 : Int32) (v5 + (1 : Int32))) else (if (p3 &&& v5) = (0 : Int32) then (b1 (Rm_isWay τ p1 (p3 ||| v5)) (fun r_8 => if r_8 = (0 : Int32) then (rc (0 : Int32) (v5 + (1 : Int32))) else (rc (1 : Int32) (v5 + (1 : Int32))))) else (rc (0 : Int32) (v5 + (1 : Int32)))))))
def Rm_isOver (τ : RS) (a1 : Int32) (a2 : Int32) (a3 : Int32) : Option Int32 :=
  it2 (Rs_isOver_6 a1 a2 a3 τ (fun u_10 => gb u_10 (some u_10))) fuel (1 : Int32) (0 : Int32)
abbrev Rrm_isOver : Room := { frames := 1, cells := 0, slots := 0, locals := 22 }
set_option maxRecDepth 100000 in
set_option maxHeartbeats 4000000 in
theorem Rw_isOver_6 {ρ : Type} {out : ρ} {p : Program} {l : Launch} {e : Env} {R : Room} {s : State} {m : MethodId} {args : Array Value} {below : List Frame} {meth : Method} {c : Code} {cells slots : Nat} {Q : State → Prop} {D : va_G} {cy : Nat → ClassId} {ad : List Nat} {q : Nat → Nat} {X : va_W} (τ : RS) (fx : FX p s m args meth c cX9_isOver 6 RX9 D cy) (hR : 1 ≤ R.frames ∧ 22 ≤ R.locals) (hf : cells ≤ R.cells ∧ slots ≤ R.slots) (p1 : Int32) (p2 : Int32) (p3 : Int32) {kx61 : Int32 → Option ρ} :
    ∀ (n : Nat) (v4 : Int32) (v5 : Int32), it2 (Rs_isOver_6 p1 p2 p3 τ kx61) n v4 v5 = some out → ∀ (H : Heap) (locs : List Loc) (ls : Array Slot), GC D (rwd cy q X) ad s τ H locs → lv_has ls 6 [(0, .ref (q 0)), (1, .int p1), (2, .int p2), (3, .int p3), (4, .int v4), (5, .int v5)] → (∀ (u4 : Int32) (H : Heap) (locs : List Loc) (ls : Array Slot), kx61 u4 = some out → GC D (rwd cy q X) ad s τ H locs → lv_has ls 6 [(4, .int u4)] → W p l e R s m args below meth c H locs cells slots Q (F0 m 61 ls [])) → W p l e R s m args below meth c H locs cells slots Q (F0 m 6 ls []) := by
  have hx := fx.1
  have hb := fx.2.1
  intro n
  induction n with
  | zero => intro v4 v5 hm; exact (it2_z hm).elim
  | succ n ih =>
    intro v4 v5 hm H locs ls hC hl hx61
    obtain ⟨rc, hrc⟩ : ∃ z, z = it2 (Rs_isOver_6 p1 p2 p3 τ kx61) n := ⟨_, rfl⟩
    replace hm : Rs_isOver_6 p1 p2 p3 τ kx61 rc v4 v5 = some out := by rw [hrc]; exact hm
    unfold Rs_isOver_6 at hm
    refine lv_iload hx hb dX9_isOver_6 (lv_at hl 4 rfl) ?_
    refine lv_if_eq (tgt := 61) hx hb dX9_isOver_8 (by decide) (fun c_1 => ?_) (fun c_1 => ?_)
    · replace hm := ifp hm c_1
      exact hx61 _ _ _ _ hm hC (lv_sub hl [4] rfl)
    · replace hm := ifn hm c_1
      refine lv_iload hx hb dX9_isOver_11 (lv_at hl 5 rfl) ?_
      refine lv_sipush (v := (4096 : Int32)) hx hb dX9_isOver_13 (by decide) ?_
      refine lv_icmp_ge (tgt := 61) hx hb dX9_isOver_16 (by decide) (fun c_2 => ?_) (fun c_2 => ?_)
      · replace hm := ifp hm c_2
        exact hx61 _ _ _ _ hm hC (lv_sub hl [4] rfl)
      · replace hm := ifn hm c_2
        refine lv_aload_n hx hb dX9_isOver_19 rfl (lv_at hl 0 rfl) ?_
        refine lv_iload_n hx hb dX9_isOver_20 rfl (lv_at hl 2 rfl) ?_
        refine lv_iload hx hb dX9_isOver_21 (lv_at hl 5 rfl) ?_
        obtain ⟨r_4, e_3, hm⟩ := b1_in hm
        refine g_callVi (k0 := 0) (ci := 9) (As := [.int p2, .int v5]) (rest := []) fx hC rw_w (Rc_isWay l τ p2 v5 e_3) k_453 Rk_isWay Rh_isWay rfl rfl rfl ⟨rfl, rfl⟩ ⟨Nat.le_trans (Nat.le_of_ble_eq_true rfl) hR.1, Nat.le_trans (Nat.le_of_ble_eq_true rfl) hR.2⟩ hf rfl hl.1 rfl (Nat.le_of_ble_eq_true rfl) dX9_isOver_23 (fun H locs hC => ?_)
        refine lv_if_eq (tgt := 48) hx hb dX9_isOver_26 (by decide) (fun c_5 => ?_) (fun c_5 => ?_)
        · replace hm := ifp hm c_5
          refine lv_iconst (v := (1 : Int32)) hx hb dX9_isOver_48 (by decide) ?_
          refine lv_goto (tgt := 53) hx hb dX9_isOver_49 (by decide) ?_
          refine lv_istore (lv' := [(4, .int (1 : Int32)), (0, .ref (q 0)), (1, .int p1), (2, .int p2), (3, .int p3), (5, .int v5)]) hx hb dX9_isOver_53 hl (by decide) rfl (fun ls hl => ?_)
          refine lv_iinc (v := (v5 + (1 : Int32))) (lv' := [(5, .int (v5 + (1 : Int32))), (4, .int (1 : Int32)), (0, .ref (q 0)), (1, .int p1), (2, .int p2), (3, .int p3)]) hx hb dX9_isOver_55 hl (k := 5) rfl rfl (by decide) rfl (fun ls hl => ?_)
          refine lv_goto (tgt := 6) hx hb dX9_isOver_58 (by decide) ?_
          rw [hrc] at hm
          exact ih _ _ hm _ _ _ hC (lv_sub hl [2, 3, 4, 5, 1, 0] rfl) hx61
        · replace hm := ifn hm c_5
          refine lv_iload_n hx hb dX9_isOver_29 rfl (lv_at hl 3 rfl) ?_
          refine lv_iload hx hb dX9_isOver_30 (lv_at hl 5 rfl) ?_
          refine lv_iand hx hb dX9_isOver_32 ?_
          refine lv_if_ne (tgt := 52) hx hb dX9_isOver_33 (by decide) (fun c_6 => ?_) (fun c_6 => ?_)
          · replace hm := ifn hm c_6
            refine lv_iconst (v := (0 : Int32)) hx hb dX9_isOver_52 (by decide) ?_
            refine lv_istore (lv' := [(4, .int (0 : Int32)), (0, .ref (q 0)), (1, .int p1), (2, .int p2), (3, .int p3), (5, .int v5)]) hx hb dX9_isOver_53 hl (by decide) rfl (fun ls hl => ?_)
            refine lv_iinc (v := (v5 + (1 : Int32))) (lv' := [(5, .int (v5 + (1 : Int32))), (4, .int (0 : Int32)), (0, .ref (q 0)), (1, .int p1), (2, .int p2), (3, .int p3)]) hx hb dX9_isOver_55 hl (k := 5) rfl rfl (by decide) rfl (fun ls hl => ?_)
            refine lv_goto (tgt := 6) hx hb dX9_isOver_58 (by decide) ?_
            rw [hrc] at hm
            exact ih _ _ hm _ _ _ hC (lv_sub hl [2, 3, 4, 5, 1, 0] rfl) hx61
          · replace hm := ifp hm c_6
            refine lv_aload_n hx hb dX9_isOver_36 rfl (lv_at hl 0 rfl) ?_
            refine lv_iload_n hx hb dX9_isOver_37 rfl (lv_at hl 1 rfl) ?_
            refine lv_iload_n hx hb dX9_isOver_38 rfl (lv_at hl 3 rfl) ?_
            refine lv_iload hx hb dX9_isOver_39 (lv_at hl 5 rfl) ?_
            refine lv_ior hx hb dX9_isOver_41 ?_
            obtain ⟨r_8, e_7, hm⟩ := b1_in hm
            refine g_callVi (k0 := 0) (ci := 9) (As := [.int p1, .int (p3 ||| v5)]) (rest := []) fx hC rw_w (Rc_isWay l τ p1 (p3 ||| v5) e_7) k_453 Rk_isWay Rh_isWay rfl rfl rfl ⟨rfl, rfl⟩ ⟨Nat.le_trans (Nat.le_of_ble_eq_true rfl) hR.1, Nat.le_trans (Nat.le_of_ble_eq_true rfl) hR.2⟩ hf rfl hl.1 rfl (Nat.le_of_ble_eq_true rfl) dX9_isOver_42 (fun H locs hC => ?_)
            refine lv_if_eq (tgt := 52) hx hb dX9_isOver_45 (by decide) (fun c_9 => ?_) (fun c_9 => ?_)
            · replace hm := ifp hm c_9
              refine lv_iconst (v := (0 : Int32)) hx hb dX9_isOver_52 (by decide) ?_
              refine lv_istore (lv' := [(4, .int (0 : Int32)), (0, .ref (q 0)), (1, .int p1), (2, .int p2), (3, .int p3), (5, .int v5)]) hx hb dX9_isOver_53 hl (by decide) rfl (fun ls hl => ?_)
              refine lv_iinc (v := (v5 + (1 : Int32))) (lv' := [(5, .int (v5 + (1 : Int32))), (4, .int (0 : Int32)), (0, .ref (q 0)), (1, .int p1), (2, .int p2), (3, .int p3)]) hx hb dX9_isOver_55 hl (k := 5) rfl rfl (by decide) rfl (fun ls hl => ?_)
              refine lv_goto (tgt := 6) hx hb dX9_isOver_58 (by decide) ?_
              rw [hrc] at hm
              exact ih _ _ hm _ _ _ hC (lv_sub hl [2, 3, 4, 5, 1, 0] rfl) hx61
            · replace hm := ifn hm c_9
              refine lv_iconst (v := (1 : Int32)) hx hb dX9_isOver_48 (by decide) ?_
              refine lv_goto (tgt := 53) hx hb dX9_isOver_49 (by decide) ?_
              refine lv_istore (lv' := [(4, .int (1 : Int32)), (0, .ref (q 0)), (1, .int p1), (2, .int p2), (3, .int p3), (5, .int v5)]) hx hb dX9_isOver_53 hl (by decide) rfl (fun ls hl => ?_)
              refine lv_iinc (v := (v5 + (1 : Int32))) (lv' := [(5, .int (v5 + (1 : Int32))), (4, .int (1 : Int32)), (0, .ref (q 0)), (1, .int p1), (2, .int p2), (3, .int p3)]) hx hb dX9_isOver_55 hl (k := 5) rfl rfl (by decide) rfl (fun ls hl => ?_)
              refine lv_goto (tgt := 6) hx hb dX9_isOver_58 (by decide) ?_
              rw [hrc] at hm
              exact ih _ _ hm _ _ _ hC (lv_sub hl [2, 3, 4, 5, 1, 0] rfl) hx61
set_option maxRecDepth 100000 in
set_option maxHeartbeats 4000000 in
theorem Rc_isOver (l : Launch) {D : va_G} {cy : Nat → ClassId} {ad : List Nat} {q : Nat → Nat} {X : va_W} (τ : RS) (a1 : Int32) (a2 : Int32) (a3 : Int32) {o : Int32} (hm : Rm_isOver τ a1 a2 a3 = some o) : GM l yX9_isOver cX9_isOver 6 (some .boolean) Rrm_isOver D cy (rwd cy q X) ad [.ref (q 0), .int a1, .int a2, .int a3] τ (some (.int o)) τ := by
  refine g_start RX9 rfl (by decide) (Nat.le_of_ble_eq_true rfl) ?_
  intro p e s m args below meth c fx hr hC ls hl
  have hx := fx.1
  have hb := fx.2.1
  have hR : 1 ≤ (Rrm_isOver).frames ∧ 22 ≤ (Rrm_isOver).locals := ⟨Nat.le_refl _, Nat.le_refl _⟩
  have hf : 0 ≤ (Rrm_isOver).cells ∧ 0 ≤ (Rrm_isOver).slots := ⟨Nat.zero_le _, Nat.zero_le _⟩
  have hl : lv_has ls 6 [(0, .ref (q 0)), (1, .int a1), (2, .int a2), (3, .int a3)] := hl
  unfold Rm_isOver at hm
  refine lv_iconst (v := (1 : Int32)) hx hb dX9_isOver_0 (by decide) ?_
  refine lv_istore (lv' := [(4, .int (1 : Int32)), (0, .ref (q 0)), (1, .int a1), (2, .int a2), (3, .int a3)]) hx hb dX9_isOver_1 hl (by decide) rfl (fun ls hl => ?_)
  refine lv_iconst (v := (0 : Int32)) hx hb dX9_isOver_3 (by decide) ?_
  refine lv_istore (lv' := [(5, .int (0 : Int32)), (4, .int (1 : Int32)), (0, .ref (q 0)), (1, .int a1), (2, .int a2), (3, .int a3)]) hx hb dX9_isOver_4 hl (by decide) rfl (fun ls hl => ?_)
  refine Rw_isOver_6 τ fx hR hf a1 a2 a3 fuel (1 : Int32) (0 : Int32) hm _ _ _ hC (lv_sub hl [2, 3, 4, 5, 1, 0] rfl) (fun u_10 H locs ls hm hC hl => ?_)
  refine lv_iload hx hb dX9_isOver_61 (lv_at hl 0 rfl) ?_
  have h_11 := (gb_in hm).1
  replace hm := (gb_in hm).2
  cases hm
  exact g_zret fx hr h_11 hC rfl dX9_isOver_63
def Rs_joined_104 {ρ : Type} (p1 : Int32) (p2 : Int32) (p3 : Int32) (p4 : Int32) (τ : RS) (kx179 : Int32 → Option ρ) (rc : Int32 → Int32 → Option ρ) (v5 : Int32) (v6 : Int32) : Option ρ :=
  if v5 = (0 : Int32) then (if (4096 : Int32) ≤ v6 then (kx179 v5) else (b1 (Rm_isWay τ p2 p4) (fun r_6 => if r_6 = (0 : Int32) then (kx179 v5) else (b1 (Rm_isWay τ p3 v6) (fun r_9 => if r_9 = (0 : Int32) then (rc (0 : Int32) (v6 + (1 : Int32))) else (if p1 = (6 : Int32) then (if (v6 &&& (p4 ^^^ (-1 : Int32))) = (0 : Int32) then (rc (1 : Int32) (v6 + (1 : Int32))) else (rc (0 : Int32) (v6 + (1 : Int32)))) else (if (p4 &&& (v6 ^^^ (-1 : Int32))) = (0 : Int32) then (rc (1 : Int32) (v6 + (1 : Int32))) else (rc (0 : Int32) (v6 + (1 : Int32)))))))))) else (kx179 v5)
def Rm_joined (τ : RS) (a1 : Int32) (a2 : Int32) (a3 : Int32) (a4 : Int32) : Option Int32 :=
  if (3 : Int32) ≤ a1 then (if a1 = (4 : Int32) then (b1 (Rm_isOver τ a2 a3 a4) (fun r_17 => gb r_17 (some r_17))) else (it2 (Rs_joined_104 a1 a2 a3 a4 τ (fun u_14 => gb u_14 (some u_14))) fuel (0 : Int32) (0 : Int32))) else (b1 (Rm_isWay τ a2 a4) (fun r_20 => b1 (Rm_isWay τ a3 a4) (fun r_22 => if a1 = (0 : Int32) then (if r_20 = (0 : Int32) then (some (0 : Int32)) else (if r_22 = (0 : Int32) then (some (0 : Int32)) else (some (1 : Int32)))) else (if a1 = (1 : Int32) then (if r_20 = (0 : Int32) then (if r_22 = (0 : Int32) then (some (0 : Int32)) else (some (1 : Int32))) else (some (1 : Int32))) else (if r_20 = (0 : Int32) then (some (0 : Int32)) else (if r_22 = (0 : Int32) then (some (1 : Int32)) else (some (0 : Int32))))))))
abbrev Rrm_joined : Room := { frames := 2, cells := 0, slots := 0, locals := 47 }
set_option maxRecDepth 100000 in
set_option maxHeartbeats 4000000 in
theorem Rw_joined_104 {ρ : Type} {out : ρ} {p : Program} {l : Launch} {e : Env} {R : Room} {s : State} {m : MethodId} {args : Array Value} {below : List Frame} {meth : Method} {c : Code} {cells slots : Nat} {Q : State → Prop} {D : va_G} {cy : Nat → ClassId} {ad : List Nat} {q : Nat → Nat} {X : va_W} (τ : RS) (fx : FX p s m args meth c cX9_joined 7 RX9 D cy) (hR : 2 ≤ R.frames ∧ 47 ≤ R.locals) (hf : cells ≤ R.cells ∧ slots ≤ R.slots) (p1 : Int32) (p2 : Int32) (p3 : Int32) (p4 : Int32) {kx179 : Int32 → Option ρ} :
    ∀ (n : Nat) (v5 : Int32) (v6 : Int32), it2 (Rs_joined_104 p1 p2 p3 p4 τ kx179) n v5 v6 = some out → ∀ (H : Heap) (locs : List Loc) (ls : Array Slot), GC D (rwd cy q X) ad s τ H locs → lv_has ls 7 [(0, .ref (q 0)), (1, .int p1), (2, .int p2), (3, .int p3), (4, .int p4), (5, .int v5), (6, .int v6)] → (∀ (u5 : Int32) (H : Heap) (locs : List Loc) (ls : Array Slot), kx179 u5 = some out → GC D (rwd cy q X) ad s τ H locs → lv_has ls 7 [(5, .int u5)] → W p l e R s m args below meth c H locs cells slots Q (F0 m 179 ls [])) → W p l e R s m args below meth c H locs cells slots Q (F0 m 104 ls []) := by
  have hx := fx.1
  have hb := fx.2.1
  intro n
  induction n with
  | zero => intro v5 v6 hm; exact (it2_z hm).elim
  | succ n ih =>
    intro v5 v6 hm H locs ls hC hl hx179
    obtain ⟨rc, hrc⟩ : ∃ z, z = it2 (Rs_joined_104 p1 p2 p3 p4 τ kx179) n := ⟨_, rfl⟩
    replace hm : Rs_joined_104 p1 p2 p3 p4 τ kx179 rc v5 v6 = some out := by rw [hrc]; exact hm
    unfold Rs_joined_104 at hm
    refine lv_iload hx hb dX9_joined_104 (lv_at hl 5 rfl) ?_
    refine lv_if_ne (tgt := 179) hx hb dX9_joined_106 (by decide) (fun c_3 => ?_) (fun c_3 => ?_)
    · replace hm := ifn hm c_3
      exact hx179 _ _ _ _ hm hC (lv_sub hl [5] rfl)
    · replace hm := ifp hm c_3
      refine lv_iload hx hb dX9_joined_109 (lv_at hl 6 rfl) ?_
      refine lv_sipush (v := (4096 : Int32)) hx hb dX9_joined_111 (by decide) ?_
      refine lv_icmp_ge (tgt := 179) hx hb dX9_joined_114 (by decide) (fun c_4 => ?_) (fun c_4 => ?_)
      · replace hm := ifp hm c_4
        exact hx179 _ _ _ _ hm hC (lv_sub hl [5] rfl)
      · replace hm := ifn hm c_4
        refine lv_aload_n hx hb dX9_joined_117 rfl (lv_at hl 0 rfl) ?_
        refine lv_iload_n hx hb dX9_joined_118 rfl (lv_at hl 2 rfl) ?_
        refine lv_iload hx hb dX9_joined_119 (lv_at hl 4 rfl) ?_
        obtain ⟨r_6, e_5, hm⟩ := b1_in hm
        refine g_callVi (k0 := 0) (ci := 9) (As := [.int p2, .int p4]) (rest := []) fx hC rw_w (Rc_isWay l τ p2 p4 e_5) k_453 Rk_isWay Rh_isWay rfl rfl rfl ⟨rfl, rfl⟩ ⟨Nat.le_trans (Nat.le_of_ble_eq_true rfl) hR.1, Nat.le_trans (Nat.le_of_ble_eq_true rfl) hR.2⟩ hf rfl hl.1 rfl (Nat.le_of_ble_eq_true rfl) dX9_joined_121 (fun H locs hC => ?_)
        refine lv_if_eq (tgt := 179) hx hb dX9_joined_124 (by decide) (fun c_7 => ?_) (fun c_7 => ?_)
        · replace hm := ifp hm c_7
          exact hx179 _ _ _ _ hm hC (lv_sub hl [5] rfl)
        · replace hm := ifn hm c_7
          refine lv_aload_n hx hb dX9_joined_127 rfl (lv_at hl 0 rfl) ?_
          refine lv_iload_n hx hb dX9_joined_128 rfl (lv_at hl 3 rfl) ?_
          refine lv_iload hx hb dX9_joined_129 (lv_at hl 6 rfl) ?_
          obtain ⟨r_9, e_8, hm⟩ := b1_in hm
          refine g_callVi (k0 := 0) (ci := 9) (As := [.int p3, .int v6]) (rest := []) fx hC rw_w (Rc_isWay l τ p3 v6 e_8) k_453 Rk_isWay Rh_isWay rfl rfl rfl ⟨rfl, rfl⟩ ⟨Nat.le_trans (Nat.le_of_ble_eq_true rfl) hR.1, Nat.le_trans (Nat.le_of_ble_eq_true rfl) hR.2⟩ hf rfl hl.1 rfl (Nat.le_of_ble_eq_true rfl) dX9_joined_131 (fun H locs hC => ?_)
          refine lv_if_eq (tgt := 170) hx hb dX9_joined_134 (by decide) (fun c_10 => ?_) (fun c_10 => ?_)
          · replace hm := ifp hm c_10
            refine lv_iconst (v := (0 : Int32)) hx hb dX9_joined_170 (by decide) ?_
            refine lv_istore (lv' := [(5, .int (0 : Int32)), (0, .ref (q 0)), (1, .int p1), (2, .int p2), (3, .int p3), (4, .int p4), (6, .int v6)]) hx hb dX9_joined_171 hl (by decide) rfl (fun ls hl => ?_)
            refine lv_iinc (v := (v6 + (1 : Int32))) (lv' := [(6, .int (v6 + (1 : Int32))), (5, .int (0 : Int32)), (0, .ref (q 0)), (1, .int p1), (2, .int p2), (3, .int p3), (4, .int p4)]) hx hb dX9_joined_173 hl (k := 6) rfl rfl (by decide) rfl (fun ls hl => ?_)
            refine lv_goto (tgt := 104) hx hb dX9_joined_176 (by decide) ?_
            rw [hrc] at hm
            exact ih _ _ hm _ _ _ hC (lv_sub hl [2, 3, 4, 5, 6, 1, 0] rfl) hx179
          · replace hm := ifn hm c_10
            refine lv_iload_n hx hb dX9_joined_137 rfl (lv_at hl 1 rfl) ?_
            refine lv_bipush (v := (6 : Int32)) hx hb dX9_joined_138 (by decide) ?_
            refine lv_icmp_ne (tgt := 156) hx hb dX9_joined_140 (by decide) (fun c_11 => ?_) (fun c_11 => ?_)
            · replace hm := ifn hm c_11
              refine lv_iload hx hb dX9_joined_156 (lv_at hl 4 rfl) ?_
              refine lv_iload hx hb dX9_joined_158 (lv_at hl 6 rfl) ?_
              refine lv_iconst (v := (-1 : Int32)) hx hb dX9_joined_160 (by decide) ?_
              refine lv_ixor hx hb dX9_joined_161 ?_
              refine lv_iand hx hb dX9_joined_162 ?_
              refine lv_if_ne (tgt := 170) hx hb dX9_joined_163 (by decide) (fun c_12 => ?_) (fun c_12 => ?_)
              · replace hm := ifn hm c_12
                refine lv_iconst (v := (0 : Int32)) hx hb dX9_joined_170 (by decide) ?_
                refine lv_istore (lv' := [(5, .int (0 : Int32)), (0, .ref (q 0)), (1, .int p1), (2, .int p2), (3, .int p3), (4, .int p4), (6, .int v6)]) hx hb dX9_joined_171 hl (by decide) rfl (fun ls hl => ?_)
                refine lv_iinc (v := (v6 + (1 : Int32))) (lv' := [(6, .int (v6 + (1 : Int32))), (5, .int (0 : Int32)), (0, .ref (q 0)), (1, .int p1), (2, .int p2), (3, .int p3), (4, .int p4)]) hx hb dX9_joined_173 hl (k := 6) rfl rfl (by decide) rfl (fun ls hl => ?_)
                refine lv_goto (tgt := 104) hx hb dX9_joined_176 (by decide) ?_
                rw [hrc] at hm
                exact ih _ _ hm _ _ _ hC (lv_sub hl [2, 3, 4, 5, 6, 1, 0] rfl) hx179
              · replace hm := ifp hm c_12
                refine lv_iconst (v := (1 : Int32)) hx hb dX9_joined_166 (by decide) ?_
                refine lv_goto (tgt := 171) hx hb dX9_joined_167 (by decide) ?_
                refine lv_istore (lv' := [(5, .int (1 : Int32)), (0, .ref (q 0)), (1, .int p1), (2, .int p2), (3, .int p3), (4, .int p4), (6, .int v6)]) hx hb dX9_joined_171 hl (by decide) rfl (fun ls hl => ?_)
                refine lv_iinc (v := (v6 + (1 : Int32))) (lv' := [(6, .int (v6 + (1 : Int32))), (5, .int (1 : Int32)), (0, .ref (q 0)), (1, .int p1), (2, .int p2), (3, .int p3), (4, .int p4)]) hx hb dX9_joined_173 hl (k := 6) rfl rfl (by decide) rfl (fun ls hl => ?_)
                refine lv_goto (tgt := 104) hx hb dX9_joined_176 (by decide) ?_
                rw [hrc] at hm
                exact ih _ _ hm _ _ _ hC (lv_sub hl [2, 3, 4, 5, 6, 1, 0] rfl) hx179
            · replace hm := ifp hm c_11
              refine lv_iload hx hb dX9_joined_143 (lv_at hl 6 rfl) ?_
              refine lv_iload hx hb dX9_joined_145 (lv_at hl 4 rfl) ?_
              refine lv_iconst (v := (-1 : Int32)) hx hb dX9_joined_147 (by decide) ?_
              refine lv_ixor hx hb dX9_joined_148 ?_
              refine lv_iand hx hb dX9_joined_149 ?_
              refine lv_if_ne (tgt := 170) hx hb dX9_joined_150 (by decide) (fun c_13 => ?_) (fun c_13 => ?_)
              · replace hm := ifn hm c_13
                refine lv_iconst (v := (0 : Int32)) hx hb dX9_joined_170 (by decide) ?_
                refine lv_istore (lv' := [(5, .int (0 : Int32)), (0, .ref (q 0)), (1, .int p1), (2, .int p2), (3, .int p3), (4, .int p4), (6, .int v6)]) hx hb dX9_joined_171 hl (by decide) rfl (fun ls hl => ?_)
                refine lv_iinc (v := (v6 + (1 : Int32))) (lv' := [(6, .int (v6 + (1 : Int32))), (5, .int (0 : Int32)), (0, .ref (q 0)), (1, .int p1), (2, .int p2), (3, .int p3), (4, .int p4)]) hx hb dX9_joined_173 hl (k := 6) rfl rfl (by decide) rfl (fun ls hl => ?_)
                refine lv_goto (tgt := 104) hx hb dX9_joined_176 (by decide) ?_
                rw [hrc] at hm
                exact ih _ _ hm _ _ _ hC (lv_sub hl [2, 3, 4, 5, 6, 1, 0] rfl) hx179
              · replace hm := ifp hm c_13
                refine lv_goto (tgt := 166) hx hb dX9_joined_153 (by decide) ?_
                refine lv_iconst (v := (1 : Int32)) hx hb dX9_joined_166 (by decide) ?_
                refine lv_goto (tgt := 171) hx hb dX9_joined_167 (by decide) ?_
                refine lv_istore (lv' := [(5, .int (1 : Int32)), (0, .ref (q 0)), (1, .int p1), (2, .int p2), (3, .int p3), (4, .int p4), (6, .int v6)]) hx hb dX9_joined_171 hl (by decide) rfl (fun ls hl => ?_)
                refine lv_iinc (v := (v6 + (1 : Int32))) (lv' := [(6, .int (v6 + (1 : Int32))), (5, .int (1 : Int32)), (0, .ref (q 0)), (1, .int p1), (2, .int p2), (3, .int p3), (4, .int p4)]) hx hb dX9_joined_173 hl (k := 6) rfl rfl (by decide) rfl (fun ls hl => ?_)
                refine lv_goto (tgt := 104) hx hb dX9_joined_176 (by decide) ?_
                rw [hrc] at hm
                exact ih _ _ hm _ _ _ hC (lv_sub hl [2, 3, 4, 5, 6, 1, 0] rfl) hx179
set_option maxRecDepth 100000 in
set_option maxHeartbeats 4000000 in
theorem Rc_joined (l : Launch) {D : va_G} {cy : Nat → ClassId} {ad : List Nat} {q : Nat → Nat} {X : va_W} (τ : RS) (a1 : Int32) (a2 : Int32) (a3 : Int32) (a4 : Int32) {o : Int32} (hm : Rm_joined τ a1 a2 a3 a4 = some o) : GM l yX9_joined cX9_joined 7 (some .boolean) Rrm_joined D cy (rwd cy q X) ad [.ref (q 0), .int a1, .int a2, .int a3, .int a4] τ (some (.int o)) τ := by
  refine g_start RX9 rfl (by decide) (Nat.le_of_ble_eq_true rfl) ?_
  intro p e s m args below meth c fx hr hC ls hl
  have hx := fx.1
  have hb := fx.2.1
  have hR : 2 ≤ (Rrm_joined).frames ∧ 47 ≤ (Rrm_joined).locals := ⟨Nat.le_refl _, Nat.le_refl _⟩
  have hf : 0 ≤ (Rrm_joined).cells ∧ 0 ≤ (Rrm_joined).slots := ⟨Nat.zero_le _, Nat.zero_le _⟩
  have hl : lv_has ls 7 [(0, .ref (q 0)), (1, .int a1), (2, .int a2), (3, .int a3), (4, .int a4)] := hl
  unfold Rm_joined at hm
  refine lv_iload_n hx hb dX9_joined_0 rfl (lv_at hl 1 rfl) ?_
  refine lv_iconst (v := (3 : Int32)) hx hb dX9_joined_1 (by decide) ?_
  refine lv_icmp_ge (tgt := 84) hx hb dX9_joined_2 (by decide) (fun c_1 => ?_) (fun c_1 => ?_)
  · replace hm := ifp hm c_1
    refine lv_iload_n hx hb dX9_joined_84 rfl (lv_at hl 1 rfl) ?_
    refine lv_iconst (v := (4 : Int32)) hx hb dX9_joined_85 (by decide) ?_
    refine lv_icmp_ne (tgt := 98) hx hb dX9_joined_86 (by decide) (fun c_2 => ?_) (fun c_2 => ?_)
    · replace hm := ifn hm c_2
      refine lv_iconst (v := (0 : Int32)) hx hb dX9_joined_98 (by decide) ?_
      refine lv_istore (lv' := [(5, .int (0 : Int32)), (0, .ref (q 0)), (1, .int a1), (2, .int a2), (3, .int a3), (4, .int a4)]) hx hb dX9_joined_99 hl (by decide) rfl (fun ls hl => ?_)
      refine lv_iconst (v := (0 : Int32)) hx hb dX9_joined_101 (by decide) ?_
      refine lv_istore (lv' := [(6, .int (0 : Int32)), (5, .int (0 : Int32)), (0, .ref (q 0)), (1, .int a1), (2, .int a2), (3, .int a3), (4, .int a4)]) hx hb dX9_joined_102 hl (by decide) rfl (fun ls hl => ?_)
      refine Rw_joined_104 τ fx hR hf a1 a2 a3 a4 fuel (0 : Int32) (0 : Int32) hm _ _ _ hC (lv_sub hl [2, 3, 4, 5, 6, 1, 0] rfl) (fun u_14 H locs ls hm hC hl => ?_)
      refine lv_iload hx hb dX9_joined_179 (lv_at hl 0 rfl) ?_
      have h_15 := (gb_in hm).1
      replace hm := (gb_in hm).2
      cases hm
      exact g_zret fx hr h_15 hC rfl dX9_joined_181
    · replace hm := ifp hm c_2
      refine lv_aload_n hx hb dX9_joined_89 rfl (lv_at hl 0 rfl) ?_
      refine lv_iload_n hx hb dX9_joined_90 rfl (lv_at hl 2 rfl) ?_
      refine lv_iload_n hx hb dX9_joined_91 rfl (lv_at hl 3 rfl) ?_
      refine lv_iload hx hb dX9_joined_92 (lv_at hl 4 rfl) ?_
      obtain ⟨r_17, e_16, hm⟩ := b1_in hm
      refine g_callVi (k0 := 0) (ci := 9) (As := [.int a2, .int a3, .int a4]) (rest := []) fx hC rw_w (Rc_isOver l τ a2 a3 a4 e_16) k_560 Rk_isOver Rh_isOver rfl rfl rfl ⟨rfl, rfl⟩ ⟨Nat.le_trans (Nat.le_of_ble_eq_true rfl) hR.1, Nat.le_trans (Nat.le_of_ble_eq_true rfl) hR.2⟩ hf rfl hl.1 rfl (Nat.le_of_ble_eq_true rfl) dX9_joined_94 (fun H locs hC => ?_)
      have h_18 := (gb_in hm).1
      replace hm := (gb_in hm).2
      cases hm
      exact g_zret fx hr h_18 hC rfl dX9_joined_97
  · replace hm := ifn hm c_1
    refine lv_aload_n hx hb dX9_joined_5 rfl (lv_at hl 0 rfl) ?_
    refine lv_iload_n hx hb dX9_joined_6 rfl (lv_at hl 2 rfl) ?_
    refine lv_iload hx hb dX9_joined_7 (lv_at hl 4 rfl) ?_
    obtain ⟨r_20, e_19, hm⟩ := b1_in hm
    refine g_callVi (k0 := 0) (ci := 9) (As := [.int a2, .int a4]) (rest := []) fx hC rw_w (Rc_isWay l τ a2 a4 e_19) k_453 Rk_isWay Rh_isWay rfl rfl rfl ⟨rfl, rfl⟩ ⟨Nat.le_trans (Nat.le_of_ble_eq_true rfl) hR.1, Nat.le_trans (Nat.le_of_ble_eq_true rfl) hR.2⟩ hf rfl hl.1 rfl (Nat.le_of_ble_eq_true rfl) dX9_joined_9 (fun H locs hC => ?_)
    refine lv_istore (lv' := [(5, .int r_20), (0, .ref (q 0)), (1, .int a1), (2, .int a2), (3, .int a3), (4, .int a4)]) hx hb dX9_joined_12 hl (by decide) rfl (fun ls hl => ?_)
    refine lv_aload_n hx hb dX9_joined_14 rfl (lv_at hl 1 rfl) ?_
    refine lv_iload_n hx hb dX9_joined_15 rfl (lv_at hl 4 rfl) ?_
    refine lv_iload hx hb dX9_joined_16 (lv_at hl 5 rfl) ?_
    obtain ⟨r_22, e_21, hm⟩ := b1_in hm
    refine g_callVi (k0 := 0) (ci := 9) (As := [.int a3, .int a4]) (rest := []) fx hC rw_w (Rc_isWay l τ a3 a4 e_21) k_453 Rk_isWay Rh_isWay rfl rfl rfl ⟨rfl, rfl⟩ ⟨Nat.le_trans (Nat.le_of_ble_eq_true rfl) hR.1, Nat.le_trans (Nat.le_of_ble_eq_true rfl) hR.2⟩ hf rfl hl.1 rfl (Nat.le_of_ble_eq_true rfl) dX9_joined_18 (fun H locs hC => ?_)
    refine lv_istore (lv' := [(6, .int r_22), (5, .int r_20), (0, .ref (q 0)), (1, .int a1), (2, .int a2), (3, .int a3), (4, .int a4)]) hx hb dX9_joined_21 hl (by decide) rfl (fun ls hl => ?_)
    refine lv_iload_n hx hb dX9_joined_23 rfl (lv_at hl 3 rfl) ?_
    refine lv_if_ne (tgt := 45) hx hb dX9_joined_24 (by decide) (fun c_23 => ?_) (fun c_23 => ?_)
    · replace hm := ifn hm c_23
      refine lv_iload_n hx hb dX9_joined_45 rfl (lv_at hl 3 rfl) ?_
      refine lv_iconst (v := (1 : Int32)) hx hb dX9_joined_46 (by decide) ?_
      refine lv_icmp_ne (tgt := 68) hx hb dX9_joined_47 (by decide) (fun c_24 => ?_) (fun c_24 => ?_)
      · replace hm := ifn hm c_24
        refine lv_iload hx hb dX9_joined_68 (lv_at hl 1 rfl) ?_
        refine lv_if_eq (tgt := 82) hx hb dX9_joined_70 (by decide) (fun c_25 => ?_) (fun c_25 => ?_)
        · replace hm := ifp hm c_25
          refine lv_iconst (v := (0 : Int32)) hx hb dX9_joined_82 (by decide) ?_
          cases hm
          exact g_zret fx hr rfl hC rfl dX9_joined_83
        · replace hm := ifn hm c_25
          refine lv_iload hx hb dX9_joined_73 (lv_at hl 0 rfl) ?_
          refine lv_if_ne (tgt := 82) hx hb dX9_joined_75 (by decide) (fun c_26 => ?_) (fun c_26 => ?_)
          · replace hm := ifn hm c_26
            refine lv_iconst (v := (0 : Int32)) hx hb dX9_joined_82 (by decide) ?_
            cases hm
            exact g_zret fx hr rfl hC rfl dX9_joined_83
          · replace hm := ifp hm c_26
            refine lv_iconst (v := (1 : Int32)) hx hb dX9_joined_78 (by decide) ?_
            refine lv_goto (tgt := 83) hx hb dX9_joined_79 (by decide) ?_
            cases hm
            exact g_zret fx hr rfl hC rfl dX9_joined_83
      · replace hm := ifp hm c_24
        refine lv_iload hx hb dX9_joined_50 (lv_at hl 1 rfl) ?_
        refine lv_if_ne (tgt := 60) hx hb dX9_joined_52 (by decide) (fun c_27 => ?_) (fun c_27 => ?_)
        · replace hm := ifn hm c_27
          refine lv_iconst (v := (1 : Int32)) hx hb dX9_joined_60 (by decide) ?_
          refine lv_goto (tgt := 83) hx hb dX9_joined_61 (by decide) ?_
          cases hm
          exact g_zret fx hr rfl hC rfl dX9_joined_83
        · replace hm := ifp hm c_27
          refine lv_iload hx hb dX9_joined_55 (lv_at hl 0 rfl) ?_
          refine lv_if_eq (tgt := 64) hx hb dX9_joined_57 (by decide) (fun c_28 => ?_) (fun c_28 => ?_)
          · replace hm := ifp hm c_28
            refine lv_iconst (v := (0 : Int32)) hx hb dX9_joined_64 (by decide) ?_
            refine lv_goto (tgt := 83) hx hb dX9_joined_65 (by decide) ?_
            cases hm
            exact g_zret fx hr rfl hC rfl dX9_joined_83
          · replace hm := ifn hm c_28
            refine lv_iconst (v := (1 : Int32)) hx hb dX9_joined_60 (by decide) ?_
            refine lv_goto (tgt := 83) hx hb dX9_joined_61 (by decide) ?_
            cases hm
            exact g_zret fx hr rfl hC rfl dX9_joined_83
    · replace hm := ifp hm c_23
      refine lv_iload hx hb dX9_joined_27 (lv_at hl 1 rfl) ?_
      refine lv_if_eq (tgt := 41) hx hb dX9_joined_29 (by decide) (fun c_29 => ?_) (fun c_29 => ?_)
      · replace hm := ifp hm c_29
        refine lv_iconst (v := (0 : Int32)) hx hb dX9_joined_41 (by decide) ?_
        refine lv_goto (tgt := 83) hx hb dX9_joined_42 (by decide) ?_
        cases hm
        exact g_zret fx hr rfl hC rfl dX9_joined_83
      · replace hm := ifn hm c_29
        refine lv_iload hx hb dX9_joined_32 (lv_at hl 0 rfl) ?_
        refine lv_if_eq (tgt := 41) hx hb dX9_joined_34 (by decide) (fun c_30 => ?_) (fun c_30 => ?_)
        · replace hm := ifp hm c_30
          refine lv_iconst (v := (0 : Int32)) hx hb dX9_joined_41 (by decide) ?_
          refine lv_goto (tgt := 83) hx hb dX9_joined_42 (by decide) ?_
          cases hm
          exact g_zret fx hr rfl hC rfl dX9_joined_83
        · replace hm := ifn hm c_30
          refine lv_iconst (v := (1 : Int32)) hx hb dX9_joined_37 (by decide) ?_
          refine lv_goto (tgt := 83) hx hb dX9_joined_38 (by decide) ?_
          cases hm
          exact g_zret fx hr rfl hC rfl dX9_joined_83

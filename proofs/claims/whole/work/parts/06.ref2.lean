def Rs_count0_4 {ρ : Type} (p1 : Int32) (τ : RS) (kx34 : Int32 → Option ρ) (rc : Int32 → Int32 → Option ρ) (v2 : Int32) (v3 : Int32) : Option ρ :=
  if (4096 : Int32) ≤ v3 then (kx34 v2) else (b1 (Rm_isWay τ p1 v3) (fun r_3 => if r_3 = (0 : Int32) then (rc (v2 + (0 : Int32)) (v3 + (1 : Int32))) else (rc (v2 + (1 : Int32)) (v3 + (1 : Int32)))))
def Rm_count0 (τ : RS) (a1 : Int32) : Option Int32 :=
  it2 (Rs_count0_4 a1 τ (fun u_5 => some u_5)) fuel (0 : Int32) (0 : Int32)
abbrev Rrm_count0 : Room := { frames := 1, cells := 0, slots := 0, locals := 22 }
set_option maxRecDepth 100000 in
set_option maxHeartbeats 4000000 in
theorem Rw_count0_4 {ρ : Type} {out : ρ} {p : Program} {l : Launch} {e : Env} {R : Room} {s : State} {m : MethodId} {args : Array Value} {below : List Frame} {meth : Method} {c : Code} {cells slots : Nat} {Q : State → Prop} {D : va_G} {cy : Nat → ClassId} {ad : List Nat} {q : Nat → Nat} {X : va_W} (τ : RS) (fx : FX p s m args meth c cX9_count0 4 RX9 D cy) (hR : 1 ≤ R.frames ∧ 22 ≤ R.locals) (hf : cells ≤ R.cells ∧ slots ≤ R.slots) (p1 : Int32) {kx34 : Int32 → Option ρ} :
    ∀ (n : Nat) (v2 : Int32) (v3 : Int32), it2 (Rs_count0_4 p1 τ kx34) n v2 v3 = some out → ∀ (H : Heap) (locs : List Loc) (ls : Array Slot), GC D (rwd cy q X) ad s τ H locs → lv_has ls 4 [(0, .ref (q 0)), (1, .int p1), (2, .int v2), (3, .int v3)] → (∀ (u2 : Int32) (H : Heap) (locs : List Loc) (ls : Array Slot), kx34 u2 = some out → GC D (rwd cy q X) ad s τ H locs → lv_has ls 4 [(2, .int u2)] → W p l e R s m args below meth c H locs cells slots Q (F0 m 34 ls [])) → W p l e R s m args below meth c H locs cells slots Q (F0 m 4 ls []) := by
  have hx := fx.1
  have hb := fx.2.1
  intro n
  induction n with
  | zero => intro v2 v3 hm; exact (it2_z hm).elim
  | succ n ih =>
    intro v2 v3 hm H locs ls hC hl hx34
    obtain ⟨rc, hrc⟩ : ∃ z, z = it2 (Rs_count0_4 p1 τ kx34) n := ⟨_, rfl⟩
    replace hm : Rs_count0_4 p1 τ kx34 rc v2 v3 = some out := by rw [hrc]; exact hm
    unfold Rs_count0_4 at hm
    refine lv_iload_n hx hb dX9_count0_4 rfl (lv_at hl 3 rfl) ?_
    refine lv_sipush (v := (4096 : Int32)) hx hb dX9_count0_5 (by decide) ?_
    refine lv_icmp_ge (tgt := 34) hx hb dX9_count0_8 (by decide) (fun c_1 => ?_) (fun c_1 => ?_)
    · replace hm := ifp hm c_1
      exact hx34 _ _ _ _ hm hC (lv_sub hl [2] rfl)
    · replace hm := ifn hm c_1
      refine lv_iload_n hx hb dX9_count0_11 rfl (lv_at hl 2 rfl) ?_
      refine lv_aload_n hx hb dX9_count0_12 rfl (lv_at hl 0 rfl) ?_
      refine lv_iload_n hx hb dX9_count0_13 rfl (lv_at hl 1 rfl) ?_
      refine lv_iload_n hx hb dX9_count0_14 rfl (lv_at hl 3 rfl) ?_
      obtain ⟨r_3, e_2, hm⟩ := b1_in hm
      refine g_callVi (k0 := 0) (ci := 9) (As := [.int p1, .int v3]) (rest := [.int v2]) fx hC rw_w (Rc_isWay l τ p1 v3 e_2) k_453 Rk_isWay Rh_isWay rfl rfl rfl ⟨rfl, rfl⟩ ⟨Nat.le_trans (Nat.le_of_ble_eq_true rfl) hR.1, Nat.le_trans (Nat.le_of_ble_eq_true rfl) hR.2⟩ hf rfl hl.1 rfl (Nat.le_of_ble_eq_true rfl) dX9_count0_15 (fun H locs hC => ?_)
      refine lv_if_eq (tgt := 25) hx hb dX9_count0_18 (by decide) (fun c_4 => ?_) (fun c_4 => ?_)
      · replace hm := ifp hm c_4
        refine lv_iconst (v := (0 : Int32)) hx hb dX9_count0_25 (by decide) ?_
        refine lv_iadd hx hb dX9_count0_26 ?_
        refine lv_istore_n (lv' := [(2, .int (v2 + (0 : Int32))), (0, .ref (q 0)), (1, .int p1), (3, .int v3)]) hx hb dX9_count0_27 rfl hl (by decide) rfl (fun ls hl => ?_)
        refine lv_iinc (v := (v3 + (1 : Int32))) (lv' := [(3, .int (v3 + (1 : Int32))), (2, .int (v2 + (0 : Int32))), (0, .ref (q 0)), (1, .int p1)]) hx hb dX9_count0_28 hl (k := 3) rfl rfl (by decide) rfl (fun ls hl => ?_)
        refine lv_goto (tgt := 4) hx hb dX9_count0_31 (by decide) ?_
        rw [hrc] at hm
        exact ih _ _ hm _ _ _ hC (lv_sub hl [2, 3, 1, 0] rfl) hx34
      · replace hm := ifn hm c_4
        refine lv_iconst (v := (1 : Int32)) hx hb dX9_count0_21 (by decide) ?_
        refine lv_goto (tgt := 26) hx hb dX9_count0_22 (by decide) ?_
        refine lv_iadd hx hb dX9_count0_26 ?_
        refine lv_istore_n (lv' := [(2, .int (v2 + (1 : Int32))), (0, .ref (q 0)), (1, .int p1), (3, .int v3)]) hx hb dX9_count0_27 rfl hl (by decide) rfl (fun ls hl => ?_)
        refine lv_iinc (v := (v3 + (1 : Int32))) (lv' := [(3, .int (v3 + (1 : Int32))), (2, .int (v2 + (1 : Int32))), (0, .ref (q 0)), (1, .int p1)]) hx hb dX9_count0_28 hl (k := 3) rfl rfl (by decide) rfl (fun ls hl => ?_)
        refine lv_goto (tgt := 4) hx hb dX9_count0_31 (by decide) ?_
        rw [hrc] at hm
        exact ih _ _ hm _ _ _ hC (lv_sub hl [2, 3, 1, 0] rfl) hx34
set_option maxRecDepth 100000 in
set_option maxHeartbeats 4000000 in
theorem Rc_count0 (l : Launch) {D : va_G} {cy : Nat → ClassId} {ad : List Nat} {q : Nat → Nat} {X : va_W} (τ : RS) (a1 : Int32) {o : Int32} (hm : Rm_count0 τ a1 = some o) : GM l yX9_count0 cX9_count0 4 (some .int) Rrm_count0 D cy (rwd cy q X) ad [.ref (q 0), .int a1] τ (some (.int o)) τ := by
  refine g_start RX9 rfl (by decide) (Nat.le_of_ble_eq_true rfl) ?_
  intro p e s m args below meth c fx hr hC ls hl
  have hx := fx.1
  have hb := fx.2.1
  have hR : 1 ≤ (Rrm_count0).frames ∧ 22 ≤ (Rrm_count0).locals := ⟨Nat.le_refl _, Nat.le_refl _⟩
  have hf : 0 ≤ (Rrm_count0).cells ∧ 0 ≤ (Rrm_count0).slots := ⟨Nat.zero_le _, Nat.zero_le _⟩
  have hl : lv_has ls 4 [(0, .ref (q 0)), (1, .int a1)] := hl
  unfold Rm_count0 at hm
  refine lv_iconst (v := (0 : Int32)) hx hb dX9_count0_0 (by decide) ?_
  refine lv_istore_n (lv' := [(2, .int (0 : Int32)), (0, .ref (q 0)), (1, .int a1)]) hx hb dX9_count0_1 rfl hl (by decide) rfl (fun ls hl => ?_)
  refine lv_iconst (v := (0 : Int32)) hx hb dX9_count0_2 (by decide) ?_
  refine lv_istore_n (lv' := [(3, .int (0 : Int32)), (2, .int (0 : Int32)), (0, .ref (q 0)), (1, .int a1)]) hx hb dX9_count0_3 rfl hl (by decide) rfl (fun ls hl => ?_)
  refine Rw_count0_4 τ fx hR hf a1 fuel (0 : Int32) (0 : Int32) hm _ _ _ hC (lv_sub hl [2, 3, 1, 0] rfl) (fun u_5 H locs ls hm hC hl => ?_)
  refine lv_iload_n hx hb dX9_count0_34 rfl (lv_at hl 0 rfl) ?_
  cases hm
  exact g_iret fx hr hC rfl dX9_count0_35
def Rs_rest_2 {ρ : Type} (p1 : Int32) (p2 : Int32) (kx40 : RS → Option ρ) (rc : Int32 → RS → Option ρ) (v3 : Int32) (τ : RS) : Option ρ :=
  if (4096 : Int32) ≤ v3 then (kx40  τ) else (b1 (Rm_isOver τ p1 p2 v3) (fun r_3 => gi v3 4096 (nm (rA τ 21 (v3).toNatClampNeg (r_3 &&& 1)) (fun τ_5 => b1 (Rm_isWay τ_5 p1 v3) (fun r_8 => gi v3 4096 (nm (rA τ_5 20 (v3).toNatClampNeg (r_8 &&& 1)) (fun τ_10 => rc (v3 + (1 : Int32)) τ_10)))))))
def Rs_rest_52 {ρ : Type} (p2 : Int32) (p3 : Int32) (kx111 : RS → Option ρ) (rc : Int32 → RS → Option ρ) (v4 : Int32) (τ : RS) : Option ρ :=
  gi p3 4096 (if (τ.2 21 (p3).toNatClampNeg) = (0 : Int32) then (kx111  τ) else (if (4096 : Int32) ≤ v4 then (kx111  τ) else (gi (p3 ||| v4) 4096 (if (τ.2 20 ((p3 ||| v4)).toNatClampNeg) = (0 : Int32) then (gi (p3 ||| v4) 4096 (nm (rA τ 20 ((p3 ||| v4)).toNatClampNeg ((0 : Int32) &&& 1)) (fun τ_20 => rc (v4 + (1 : Int32)) τ_20))) else (b1 (Rm_isWay τ p2 v4) (fun r_23 => if r_23 = (0 : Int32) then (gi (p3 ||| v4) 4096 (nm (rA τ 20 ((p3 ||| v4)).toNatClampNeg ((1 : Int32) &&& 1)) (fun τ_29 => rc (v4 + (1 : Int32)) τ_29))) else (gi (p3 ||| v4) 4096 (nm (rA τ 20 ((p3 ||| v4)).toNatClampNeg ((0 : Int32) &&& 1)) (fun τ_26 => rc (v4 + (1 : Int32)) τ_26)))))))))
def Rs_rest_42 {ρ : Type} (p2 : Int32) (kx117 : RS → Option ρ) (rc : Int32 → RS → Option ρ) (v3 : Int32) (τ : RS) : Option ρ :=
  if (4096 : Int32) ≤ v3 then (kx117  τ) else (it2 (Rs_rest_52 p2 v3 (fun τ_31 => rc (v3 + (1 : Int32)) τ_31)) fuel (0 : Int32) τ)
def Rm_rest (τ : RS) (a1 : Int32) (a2 : Int32) : Option RS :=
  it2 (Rs_rest_2 a1 a2 (fun τ_12 => it2 (Rs_rest_42 a2 (fun τ_32 => some τ_32)) fuel (0 : Int32) τ_12)) fuel (0 : Int32) τ
abbrev Rrm_rest : Room := { frames := 2, cells := 0, slots := 0, locals := 47 }
set_option maxRecDepth 100000 in
set_option maxHeartbeats 4000000 in
theorem Rw_rest_2 {ρ : Type} {out : ρ} {p : Program} {l : Launch} {e : Env} {R : Room} {s : State} {m : MethodId} {args : Array Value} {below : List Frame} {meth : Method} {c : Code} {cells slots : Nat} {Q : State → Prop} {D : va_G} {cy : Nat → ClassId} {ad : List Nat} {q : Nat → Nat} {X : va_W} (fx : FX p s m args meth c cX9_rest 5 RX9 D cy) (hR : 2 ≤ R.frames ∧ 47 ≤ R.locals) (hf : cells ≤ R.cells ∧ slots ≤ R.slots) (p1 : Int32) (p2 : Int32) {kx40 : RS → Option ρ} :
    ∀ (n : Nat) (v3 : Int32) (τ : RS), it2 (Rs_rest_2 p1 p2 kx40) n v3 τ = some out → ∀ (H : Heap) (locs : List Loc) (ls : Array Slot), GC D (rwd cy q X) ad s τ H locs → lv_has ls 5 [(0, .ref (q 0)), (1, .int p1), (2, .int p2), (3, .int v3)] → (∀ (τ2 : RS) (H : Heap) (locs : List Loc) (ls : Array Slot), kx40 τ2 = some out → GC D (rwd cy q X) ad s τ2 H locs → lv_has ls 5 [(0, .ref (q 0)), (2, .int p2)] → W p l e R s m args below meth c H locs cells slots Q (F0 m 40 ls [])) → W p l e R s m args below meth c H locs cells slots Q (F0 m 2 ls []) := by
  have hx := fx.1
  have hb := fx.2.1
  intro n
  induction n with
  | zero => intro v3 τ hm; exact (it2_z hm).elim
  | succ n ih =>
    intro v3 τ hm H locs ls hC hl hx40
    obtain ⟨rc, hrc⟩ : ∃ z, z = it2 (Rs_rest_2 p1 p2 kx40) n := ⟨_, rfl⟩
    replace hm : Rs_rest_2 p1 p2 kx40 rc v3 τ = some out := by rw [hrc]; exact hm
    unfold Rs_rest_2 at hm
    refine lv_iload_n hx hb dX9_rest_2 rfl (lv_at hl 3 rfl) ?_
    refine lv_sipush (v := (4096 : Int32)) hx hb dX9_rest_3 (by decide) ?_
    refine lv_icmp_ge (tgt := 40) hx hb dX9_rest_6 (by decide) (fun c_1 => ?_) (fun c_1 => ?_)
    · replace hm := ifp hm c_1
      exact hx40 _ _ _ _ hm hC (lv_sub hl [0, 2] rfl)
    · replace hm := ifn hm c_1
      refine lv_aload_n hx hb dX9_rest_9 rfl (lv_at hl 0 rfl) ?_
      refine Rg_21 fx hC dX9_rest_10 ?_
      refine lv_iload_n hx hb dX9_rest_13 rfl (lv_at hl 3 rfl) ?_
      refine lv_aload_n hx hb dX9_rest_14 rfl (lv_at hl 0 rfl) ?_
      refine lv_iload_n hx hb dX9_rest_15 rfl (lv_at hl 1 rfl) ?_
      refine lv_iload_n hx hb dX9_rest_16 rfl (lv_at hl 2 rfl) ?_
      refine lv_iload_n hx hb dX9_rest_17 rfl (lv_at hl 3 rfl) ?_
      obtain ⟨r_3, e_2, hm⟩ := b1_in hm
      refine g_callVi (k0 := 0) (ci := 9) (As := [.int p1, .int p2, .int v3]) (rest := [.int v3, .ref (q 21)]) fx hC rw_w (Rc_isOver l τ p1 p2 v3 e_2) k_560 Rk_isOver Rh_isOver rfl rfl rfl ⟨rfl, rfl⟩ ⟨Nat.le_trans (Nat.le_of_ble_eq_true rfl) hR.1, Nat.le_trans (Nat.le_of_ble_eq_true rfl) hR.2⟩ hf rfl hl.1 rfl (Nat.le_of_ble_eq_true rfl) dX9_rest_18 (fun H locs hC => ?_)
      have h_4 := (gi_in hm).1
      replace hm := (gi_in hm).2
      refine Rs_21 fx hC h_4 dX9_rest_21 (fun H locs hC => ?_)
      obtain ⟨τ_5, e_6⟩ : ∃ z, z = (rA τ 21 (v3).toNatClampNeg (r_3 &&& 1)) := ⟨_, rfl⟩
      rw [← e_6] at hC
      replace hm := nm_in hm e_6
      refine lv_aload_n hx hb dX9_rest_22 rfl (lv_at hl 0 rfl) ?_
      refine Rg_20 fx hC dX9_rest_23 ?_
      refine lv_iload_n hx hb dX9_rest_26 rfl (lv_at hl 3 rfl) ?_
      refine lv_aload_n hx hb dX9_rest_27 rfl (lv_at hl 0 rfl) ?_
      refine lv_iload_n hx hb dX9_rest_28 rfl (lv_at hl 1 rfl) ?_
      refine lv_iload_n hx hb dX9_rest_29 rfl (lv_at hl 3 rfl) ?_
      obtain ⟨r_8, e_7, hm⟩ := b1_in hm
      refine g_callVi (k0 := 0) (ci := 9) (As := [.int p1, .int v3]) (rest := [.int v3, .ref (q 20)]) fx hC rw_w (Rc_isWay l τ_5 p1 v3 e_7) k_453 Rk_isWay Rh_isWay rfl rfl rfl ⟨rfl, rfl⟩ ⟨Nat.le_trans (Nat.le_of_ble_eq_true rfl) hR.1, Nat.le_trans (Nat.le_of_ble_eq_true rfl) hR.2⟩ hf rfl hl.1 rfl (Nat.le_of_ble_eq_true rfl) dX9_rest_30 (fun H locs hC => ?_)
      have h_9 := (gi_in hm).1
      replace hm := (gi_in hm).2
      refine Rs_20 fx hC h_9 dX9_rest_33 (fun H locs hC => ?_)
      obtain ⟨τ_10, e_11⟩ : ∃ z, z = (rA τ_5 20 (v3).toNatClampNeg (r_8 &&& 1)) := ⟨_, rfl⟩
      rw [← e_11] at hC
      replace hm := nm_in hm e_11
      refine lv_iinc (v := (v3 + (1 : Int32))) (lv' := [(3, .int (v3 + (1 : Int32))), (0, .ref (q 0)), (1, .int p1), (2, .int p2)]) hx hb dX9_rest_34 hl (k := 3) rfl rfl (by decide) rfl (fun ls hl => ?_)
      refine lv_goto (tgt := 2) hx hb dX9_rest_37 (by decide) ?_
      rw [hrc] at hm
      exact ih _ _ hm _ _ _ hC (lv_sub hl [1, 2, 3, 0] rfl) hx40
set_option maxRecDepth 100000 in
set_option maxHeartbeats 4000000 in
theorem Rw_rest_52 {ρ : Type} {out : ρ} {p : Program} {l : Launch} {e : Env} {R : Room} {s : State} {m : MethodId} {args : Array Value} {below : List Frame} {meth : Method} {c : Code} {cells slots : Nat} {Q : State → Prop} {D : va_G} {cy : Nat → ClassId} {ad : List Nat} {q : Nat → Nat} {X : va_W} (fx : FX p s m args meth c cX9_rest 5 RX9 D cy) (hR : 2 ≤ R.frames ∧ 47 ≤ R.locals) (hf : cells ≤ R.cells ∧ slots ≤ R.slots) (p2 : Int32) (p3 : Int32) {kx111 : RS → Option ρ} :
    ∀ (n : Nat) (v4 : Int32) (τ : RS), it2 (Rs_rest_52 p2 p3 kx111) n v4 τ = some out → ∀ (H : Heap) (locs : List Loc) (ls : Array Slot), GC D (rwd cy q X) ad s τ H locs → lv_has ls 5 [(0, .ref (q 0)), (2, .int p2), (3, .int p3), (4, .int v4)] → (∀ (τ2 : RS) (H : Heap) (locs : List Loc) (ls : Array Slot), kx111 τ2 = some out → GC D (rwd cy q X) ad s τ2 H locs → lv_has ls 5 [(0, .ref (q 0)), (2, .int p2), (3, .int p3)] → W p l e R s m args below meth c H locs cells slots Q (F0 m 111 ls [])) → W p l e R s m args below meth c H locs cells slots Q (F0 m 52 ls []) := by
  have hx := fx.1
  have hb := fx.2.1
  intro n
  induction n with
  | zero => intro v4 τ hm; exact (it2_z hm).elim
  | succ n ih =>
    intro v4 τ hm H locs ls hC hl hx111
    obtain ⟨rc, hrc⟩ : ∃ z, z = it2 (Rs_rest_52 p2 p3 kx111) n := ⟨_, rfl⟩
    replace hm : Rs_rest_52 p2 p3 kx111 rc v4 τ = some out := by rw [hrc]; exact hm
    unfold Rs_rest_52 at hm
    refine lv_aload_n hx hb dX9_rest_52 rfl (lv_at hl 0 rfl) ?_
    refine Rg_21 fx hC dX9_rest_53 ?_
    refine lv_iload_n hx hb dX9_rest_56 rfl (lv_at hl 2 rfl) ?_
    have h_14 := (gi_in hm).1
    replace hm := (gi_in hm).2
    refine Rl_21 fx hC h_14 dX9_rest_57 ?_
    refine lv_if_eq (tgt := 111) hx hb dX9_rest_58 (by decide) (fun c_15 => ?_) (fun c_15 => ?_)
    · replace hm := ifp hm c_15
      exact hx111 _ _ _ _ hm hC (lv_sub hl [0, 1, 2] rfl)
    · replace hm := ifn hm c_15
      refine lv_iload hx hb dX9_rest_61 (lv_at hl 3 rfl) ?_
      refine lv_sipush (v := (4096 : Int32)) hx hb dX9_rest_63 (by decide) ?_
      refine lv_icmp_ge (tgt := 111) hx hb dX9_rest_66 (by decide) (fun c_16 => ?_) (fun c_16 => ?_)
      · replace hm := ifp hm c_16
        exact hx111 _ _ _ _ hm hC (lv_sub hl [0, 1, 2] rfl)
      · replace hm := ifn hm c_16
        refine lv_aload_n hx hb dX9_rest_69 rfl (lv_at hl 0 rfl) ?_
        refine Rg_20 fx hC dX9_rest_70 ?_
        refine lv_iload_n hx hb dX9_rest_73 rfl (lv_at hl 2 rfl) ?_
        refine lv_iload hx hb dX9_rest_74 (lv_at hl 3 rfl) ?_
        refine lv_ior hx hb dX9_rest_76 ?_
        refine lv_aload_n hx hb dX9_rest_77 rfl (lv_at hl 0 rfl) ?_
        refine Rg_20 fx hC dX9_rest_78 ?_
        refine lv_iload_n hx hb dX9_rest_81 rfl (lv_at hl 2 rfl) ?_
        refine lv_iload hx hb dX9_rest_82 (lv_at hl 3 rfl) ?_
        refine lv_ior hx hb dX9_rest_84 ?_
        have h_17 := (gi_in hm).1
        replace hm := (gi_in hm).2
        refine Rl_20 fx hC h_17 dX9_rest_85 ?_
        refine lv_if_eq (tgt := 103) hx hb dX9_rest_86 (by decide) (fun c_18 => ?_) (fun c_18 => ?_)
        · replace hm := ifp hm c_18
          refine lv_iconst (v := (0 : Int32)) hx hb dX9_rest_103 (by decide) ?_
          have h_19 := (gi_in hm).1
          replace hm := (gi_in hm).2
          refine Rs_20 fx hC h_19 dX9_rest_104 (fun H locs hC => ?_)
          obtain ⟨τ_20, e_21⟩ : ∃ z, z = (rA τ 20 ((p3 ||| v4)).toNatClampNeg ((0 : Int32) &&& 1)) := ⟨_, rfl⟩
          rw [← e_21] at hC
          replace hm := nm_in hm e_21
          refine lv_iinc (v := (v4 + (1 : Int32))) (lv' := [(4, .int (v4 + (1 : Int32))), (0, .ref (q 0)), (2, .int p2), (3, .int p3)]) hx hb dX9_rest_105 hl (k := 3) rfl rfl (by decide) rfl (fun ls hl => ?_)
          refine lv_goto (tgt := 52) hx hb dX9_rest_108 (by decide) ?_
          rw [hrc] at hm
          exact ih _ _ hm _ _ _ hC (lv_sub hl [1, 2, 3, 0] rfl) hx111
        · replace hm := ifn hm c_18
          refine lv_aload_n hx hb dX9_rest_89 rfl (lv_at hl 0 rfl) ?_
          refine lv_iload_n hx hb dX9_rest_90 rfl (lv_at hl 1 rfl) ?_
          refine lv_iload hx hb dX9_rest_91 (lv_at hl 3 rfl) ?_
          obtain ⟨r_23, e_22, hm⟩ := b1_in hm
          refine g_callVi (k0 := 0) (ci := 9) (As := [.int p2, .int v4]) (rest := [.int (p3 ||| v4), .ref (q 20)]) fx hC rw_w (Rc_isWay l τ p2 v4 e_22) k_453 Rk_isWay Rh_isWay rfl rfl rfl ⟨rfl, rfl⟩ ⟨Nat.le_trans (Nat.le_of_ble_eq_true rfl) hR.1, Nat.le_trans (Nat.le_of_ble_eq_true rfl) hR.2⟩ hf rfl hl.1 rfl (Nat.le_of_ble_eq_true rfl) dX9_rest_93 (fun H locs hC => ?_)
          refine lv_if_ne (tgt := 103) hx hb dX9_rest_96 (by decide) (fun c_24 => ?_) (fun c_24 => ?_)
          · replace hm := ifn hm c_24
            refine lv_iconst (v := (0 : Int32)) hx hb dX9_rest_103 (by decide) ?_
            have h_25 := (gi_in hm).1
            replace hm := (gi_in hm).2
            refine Rs_20 fx hC h_25 dX9_rest_104 (fun H locs hC => ?_)
            obtain ⟨τ_26, e_27⟩ : ∃ z, z = (rA τ 20 ((p3 ||| v4)).toNatClampNeg ((0 : Int32) &&& 1)) := ⟨_, rfl⟩
            rw [← e_27] at hC
            replace hm := nm_in hm e_27
            refine lv_iinc (v := (v4 + (1 : Int32))) (lv' := [(4, .int (v4 + (1 : Int32))), (0, .ref (q 0)), (2, .int p2), (3, .int p3)]) hx hb dX9_rest_105 hl (k := 3) rfl rfl (by decide) rfl (fun ls hl => ?_)
            refine lv_goto (tgt := 52) hx hb dX9_rest_108 (by decide) ?_
            rw [hrc] at hm
            exact ih _ _ hm _ _ _ hC (lv_sub hl [1, 2, 3, 0] rfl) hx111
          · replace hm := ifp hm c_24
            refine lv_iconst (v := (1 : Int32)) hx hb dX9_rest_99 (by decide) ?_
            refine lv_goto (tgt := 104) hx hb dX9_rest_100 (by decide) ?_
            have h_28 := (gi_in hm).1
            replace hm := (gi_in hm).2
            refine Rs_20 fx hC h_28 dX9_rest_104 (fun H locs hC => ?_)
            obtain ⟨τ_29, e_30⟩ : ∃ z, z = (rA τ 20 ((p3 ||| v4)).toNatClampNeg ((1 : Int32) &&& 1)) := ⟨_, rfl⟩
            rw [← e_30] at hC
            replace hm := nm_in hm e_30
            refine lv_iinc (v := (v4 + (1 : Int32))) (lv' := [(4, .int (v4 + (1 : Int32))), (0, .ref (q 0)), (2, .int p2), (3, .int p3)]) hx hb dX9_rest_105 hl (k := 3) rfl rfl (by decide) rfl (fun ls hl => ?_)
            refine lv_goto (tgt := 52) hx hb dX9_rest_108 (by decide) ?_
            rw [hrc] at hm
            exact ih _ _ hm _ _ _ hC (lv_sub hl [1, 2, 3, 0] rfl) hx111
set_option maxRecDepth 100000 in
set_option maxHeartbeats 4000000 in
theorem Rw_rest_42 {ρ : Type} {out : ρ} {p : Program} {l : Launch} {e : Env} {R : Room} {s : State} {m : MethodId} {args : Array Value} {below : List Frame} {meth : Method} {c : Code} {cells slots : Nat} {Q : State → Prop} {D : va_G} {cy : Nat → ClassId} {ad : List Nat} {q : Nat → Nat} {X : va_W} (fx : FX p s m args meth c cX9_rest 5 RX9 D cy) (hR : 2 ≤ R.frames ∧ 47 ≤ R.locals) (hf : cells ≤ R.cells ∧ slots ≤ R.slots) (p2 : Int32) {kx117 : RS → Option ρ} :
    ∀ (n : Nat) (v3 : Int32) (τ : RS), it2 (Rs_rest_42 p2 kx117) n v3 τ = some out → ∀ (H : Heap) (locs : List Loc) (ls : Array Slot), GC D (rwd cy q X) ad s τ H locs → lv_has ls 5 [(0, .ref (q 0)), (2, .int p2), (3, .int v3)] → (∀ (τ2 : RS) (H : Heap) (locs : List Loc) (ls : Array Slot), kx117 τ2 = some out → GC D (rwd cy q X) ad s τ2 H locs → lv_has ls 5 [] → W p l e R s m args below meth c H locs cells slots Q (F0 m 117 ls [])) → W p l e R s m args below meth c H locs cells slots Q (F0 m 42 ls []) := by
  have hx := fx.1
  have hb := fx.2.1
  intro n
  induction n with
  | zero => intro v3 τ hm; exact (it2_z hm).elim
  | succ n ih =>
    intro v3 τ hm H locs ls hC hl hx117
    obtain ⟨rc, hrc⟩ : ∃ z, z = it2 (Rs_rest_42 p2 kx117) n := ⟨_, rfl⟩
    replace hm : Rs_rest_42 p2 kx117 rc v3 τ = some out := by rw [hrc]; exact hm
    unfold Rs_rest_42 at hm
    refine lv_iload_n hx hb dX9_rest_42 rfl (lv_at hl 2 rfl) ?_
    refine lv_sipush (v := (4096 : Int32)) hx hb dX9_rest_43 (by decide) ?_
    refine lv_icmp_ge (tgt := 117) hx hb dX9_rest_46 (by decide) (fun c_13 => ?_) (fun c_13 => ?_)
    · replace hm := ifp hm c_13
      exact hx117 _ _ _ _ hm hC (lv_sub hl [] rfl)
    · replace hm := ifn hm c_13
      refine lv_iconst (v := (0 : Int32)) hx hb dX9_rest_49 (by decide) ?_
      refine lv_istore (lv' := [(4, .int (0 : Int32)), (0, .ref (q 0)), (2, .int p2), (3, .int v3)]) hx hb dX9_rest_50 hl (by decide) rfl (fun ls hl => ?_)
      refine Rw_rest_52 fx hR hf p2 v3 fuel (0 : Int32) τ hm _ _ _ hC (lv_sub hl [1, 2, 3, 0] rfl) (fun τ_31 H locs ls hm hC hl => ?_)
      refine lv_iinc (v := (v3 + (1 : Int32))) (lv' := [(3, .int (v3 + (1 : Int32))), (0, .ref (q 0)), (2, .int p2)]) hx hb dX9_rest_111 hl (k := 2) rfl rfl (by decide) rfl (fun ls hl => ?_)
      refine lv_goto (tgt := 42) hx hb dX9_rest_114 (by decide) ?_
      rw [hrc] at hm
      exact ih _ _ hm _ _ _ hC (lv_sub hl [1, 2, 0] rfl) hx117
set_option maxRecDepth 100000 in
set_option maxHeartbeats 4000000 in
theorem Rc_rest (l : Launch) {D : va_G} {cy : Nat → ClassId} {ad : List Nat} {q : Nat → Nat} {X : va_W} (τ : RS) (a1 : Int32) (a2 : Int32) {o : RS} (hm : Rm_rest τ a1 a2 = some o) : GM l yX9_rest cX9_rest 5 none Rrm_rest D cy (rwd cy q X) ad [.ref (q 0), .int a1, .int a2] τ none o := by
  refine g_start RX9 rfl (by decide) (Nat.le_of_ble_eq_true rfl) ?_
  intro p e s m args below meth c fx hr hC ls hl
  have hx := fx.1
  have hb := fx.2.1
  have hR : 2 ≤ (Rrm_rest).frames ∧ 47 ≤ (Rrm_rest).locals := ⟨Nat.le_refl _, Nat.le_refl _⟩
  have hf : 0 ≤ (Rrm_rest).cells ∧ 0 ≤ (Rrm_rest).slots := ⟨Nat.zero_le _, Nat.zero_le _⟩
  have hl : lv_has ls 5 [(0, .ref (q 0)), (1, .int a1), (2, .int a2)] := hl
  unfold Rm_rest at hm
  refine lv_iconst (v := (0 : Int32)) hx hb dX9_rest_0 (by decide) ?_
  refine lv_istore_n (lv' := [(3, .int (0 : Int32)), (0, .ref (q 0)), (1, .int a1), (2, .int a2)]) hx hb dX9_rest_1 rfl hl (by decide) rfl (fun ls hl => ?_)
  refine Rw_rest_2 fx hR hf a1 a2 fuel (0 : Int32) τ hm _ _ _ hC (lv_sub hl [1, 2, 3, 0] rfl) (fun τ_12 H locs ls hm hC hl => ?_)
  refine lv_iconst (v := (0 : Int32)) hx hb dX9_rest_40 (by decide) ?_
  refine lv_istore_n (lv' := [(3, .int (0 : Int32)), (0, .ref (q 0)), (2, .int a2)]) hx hb dX9_rest_41 rfl hl (by decide) rfl (fun ls hl => ?_)
  refine Rw_rest_42 fx hR hf a2 fuel (0 : Int32) τ_12 hm _ _ _ hC (lv_sub hl [1, 2, 0] rfl) (fun τ_32 H locs ls hm hC hl => ?_)
  cases hm
  exact g_vret fx hr hC rfl dX9_rest_117
def Rs_unions_2 {ρ : Type} (p1 : Int32) (p2 : Int32) (kx22 : RS → Option ρ) (rc : Int32 → RS → Option ρ) (v3 : Int32) (τ : RS) : Option ρ :=
  if (4096 : Int32) ≤ v3 then (kx22  τ) else (gi v3 4096 (nm (rA τ 20 (v3).toNatClampNeg ((0 : Int32) &&& 1)) (fun τ_3 => rc (v3 + (1 : Int32)) τ_3)))
def Rs_unions_34 {ρ : Type} (p1 : Int32) (p2 : Int32) (p3 : Int32) (kx93 : RS → Option ρ) (rc : Int32 → RS → Option ρ) (v4 : Int32) (τ : RS) : Option ρ :=
  b1 (Rm_isWay τ p1 p3) (fun r_8 => if r_8 = (0 : Int32) then (kx93  τ) else (if (4096 : Int32) ≤ v4 then (kx93  τ) else (gi (p3 ||| v4) 4096 (if (τ.2 20 ((p3 ||| v4)).toNatClampNeg) = (0 : Int32) then (b1 (Rm_isWay τ p2 v4) (fun r_17 => if r_17 = (0 : Int32) then (gi (p3 ||| v4) 4096 (nm (rA τ 20 ((p3 ||| v4)).toNatClampNeg ((0 : Int32) &&& 1)) (fun τ_20 => rc (v4 + (1 : Int32)) τ_20))) else (gi (p3 ||| v4) 4096 (nm (rA τ 20 ((p3 ||| v4)).toNatClampNeg ((1 : Int32) &&& 1)) (fun τ_23 => rc (v4 + (1 : Int32)) τ_23))))) else (gi (p3 ||| v4) 4096 (nm (rA τ 20 ((p3 ||| v4)).toNatClampNeg ((1 : Int32) &&& 1)) (fun τ_14 => rc (v4 + (1 : Int32)) τ_14)))))))
def Rs_unions_24 {ρ : Type} (p1 : Int32) (p2 : Int32) (kx99 : RS → Option ρ) (rc : Int32 → RS → Option ρ) (v3 : Int32) (τ : RS) : Option ρ :=
  if (4096 : Int32) ≤ v3 then (kx99  τ) else (it2 (Rs_unions_34 p1 p2 v3 (fun τ_25 => rc (v3 + (1 : Int32)) τ_25)) fuel (0 : Int32) τ)
def Rm_unions (τ : RS) (a1 : Int32) (a2 : Int32) : Option RS :=
  it2 (Rs_unions_2 a1 a2 (fun τ_5 => it2 (Rs_unions_24 a1 a2 (fun τ_26 => some τ_26)) fuel (0 : Int32) τ_5)) fuel (0 : Int32) τ
abbrev Rrm_unions : Room := { frames := 1, cells := 0, slots := 0, locals := 22 }
set_option maxRecDepth 100000 in
set_option maxHeartbeats 4000000 in
theorem Rw_unions_2 {ρ : Type} {out : ρ} {p : Program} {l : Launch} {e : Env} {R : Room} {s : State} {m : MethodId} {args : Array Value} {below : List Frame} {meth : Method} {c : Code} {cells slots : Nat} {Q : State → Prop} {D : va_G} {cy : Nat → ClassId} {ad : List Nat} {q : Nat → Nat} {X : va_W} (fx : FX p s m args meth c cX9_unions 5 RX9 D cy) (hR : 1 ≤ R.frames ∧ 22 ≤ R.locals) (hf : cells ≤ R.cells ∧ slots ≤ R.slots) (p1 : Int32) (p2 : Int32) {kx22 : RS → Option ρ} :
    ∀ (n : Nat) (v3 : Int32) (τ : RS), it2 (Rs_unions_2 p1 p2 kx22) n v3 τ = some out → ∀ (H : Heap) (locs : List Loc) (ls : Array Slot), GC D (rwd cy q X) ad s τ H locs → lv_has ls 5 [(0, .ref (q 0)), (1, .int p1), (2, .int p2), (3, .int v3)] → (∀ (τ2 : RS) (H : Heap) (locs : List Loc) (ls : Array Slot), kx22 τ2 = some out → GC D (rwd cy q X) ad s τ2 H locs → lv_has ls 5 [(0, .ref (q 0)), (1, .int p1), (2, .int p2)] → W p l e R s m args below meth c H locs cells slots Q (F0 m 22 ls [])) → W p l e R s m args below meth c H locs cells slots Q (F0 m 2 ls []) := by
  have hx := fx.1
  have hb := fx.2.1
  intro n
  induction n with
  | zero => intro v3 τ hm; exact (it2_z hm).elim
  | succ n ih =>
    intro v3 τ hm H locs ls hC hl hx22
    obtain ⟨rc, hrc⟩ : ∃ z, z = it2 (Rs_unions_2 p1 p2 kx22) n := ⟨_, rfl⟩
    replace hm : Rs_unions_2 p1 p2 kx22 rc v3 τ = some out := by rw [hrc]; exact hm
    unfold Rs_unions_2 at hm
    refine lv_iload_n hx hb dX9_unions_2 rfl (lv_at hl 3 rfl) ?_
    refine lv_sipush (v := (4096 : Int32)) hx hb dX9_unions_3 (by decide) ?_
    refine lv_icmp_ge (tgt := 22) hx hb dX9_unions_6 (by decide) (fun c_1 => ?_) (fun c_1 => ?_)
    · replace hm := ifp hm c_1
      exact hx22 _ _ _ _ hm hC (lv_sub hl [0, 1, 2] rfl)
    · replace hm := ifn hm c_1
      refine lv_aload_n hx hb dX9_unions_9 rfl (lv_at hl 0 rfl) ?_
      refine Rg_20 fx hC dX9_unions_10 ?_
      refine lv_iload_n hx hb dX9_unions_13 rfl (lv_at hl 3 rfl) ?_
      refine lv_iconst (v := (0 : Int32)) hx hb dX9_unions_14 (by decide) ?_
      have h_2 := (gi_in hm).1
      replace hm := (gi_in hm).2
      refine Rs_20 fx hC h_2 dX9_unions_15 (fun H locs hC => ?_)
      obtain ⟨τ_3, e_4⟩ : ∃ z, z = (rA τ 20 (v3).toNatClampNeg ((0 : Int32) &&& 1)) := ⟨_, rfl⟩
      rw [← e_4] at hC
      replace hm := nm_in hm e_4
      refine lv_iinc (v := (v3 + (1 : Int32))) (lv' := [(3, .int (v3 + (1 : Int32))), (0, .ref (q 0)), (1, .int p1), (2, .int p2)]) hx hb dX9_unions_16 hl (k := 3) rfl rfl (by decide) rfl (fun ls hl => ?_)
      refine lv_goto (tgt := 2) hx hb dX9_unions_19 (by decide) ?_
      rw [hrc] at hm
      exact ih _ _ hm _ _ _ hC (lv_sub hl [1, 2, 3, 0] rfl) hx22
set_option maxRecDepth 100000 in
set_option maxHeartbeats 4000000 in
theorem Rw_unions_34 {ρ : Type} {out : ρ} {p : Program} {l : Launch} {e : Env} {R : Room} {s : State} {m : MethodId} {args : Array Value} {below : List Frame} {meth : Method} {c : Code} {cells slots : Nat} {Q : State → Prop} {D : va_G} {cy : Nat → ClassId} {ad : List Nat} {q : Nat → Nat} {X : va_W} (fx : FX p s m args meth c cX9_unions 5 RX9 D cy) (hR : 1 ≤ R.frames ∧ 22 ≤ R.locals) (hf : cells ≤ R.cells ∧ slots ≤ R.slots) (p1 : Int32) (p2 : Int32) (p3 : Int32) {kx93 : RS → Option ρ} :
    ∀ (n : Nat) (v4 : Int32) (τ : RS), it2 (Rs_unions_34 p1 p2 p3 kx93) n v4 τ = some out → ∀ (H : Heap) (locs : List Loc) (ls : Array Slot), GC D (rwd cy q X) ad s τ H locs → lv_has ls 5 [(0, .ref (q 0)), (1, .int p1), (2, .int p2), (3, .int p3), (4, .int v4)] → (∀ (τ2 : RS) (H : Heap) (locs : List Loc) (ls : Array Slot), kx93 τ2 = some out → GC D (rwd cy q X) ad s τ2 H locs → lv_has ls 5 [(0, .ref (q 0)), (1, .int p1), (2, .int p2), (3, .int p3)] → W p l e R s m args below meth c H locs cells slots Q (F0 m 93 ls [])) → W p l e R s m args below meth c H locs cells slots Q (F0 m 34 ls []) := by
  have hx := fx.1
  have hb := fx.2.1
  intro n
  induction n with
  | zero => intro v4 τ hm; exact (it2_z hm).elim
  | succ n ih =>
    intro v4 τ hm H locs ls hC hl hx93
    obtain ⟨rc, hrc⟩ : ∃ z, z = it2 (Rs_unions_34 p1 p2 p3 kx93) n := ⟨_, rfl⟩
    replace hm : Rs_unions_34 p1 p2 p3 kx93 rc v4 τ = some out := by rw [hrc]; exact hm
    unfold Rs_unions_34 at hm
    refine lv_aload_n hx hb dX9_unions_34 rfl (lv_at hl 0 rfl) ?_
    refine lv_iload_n hx hb dX9_unions_35 rfl (lv_at hl 1 rfl) ?_
    refine lv_iload_n hx hb dX9_unions_36 rfl (lv_at hl 3 rfl) ?_
    obtain ⟨r_8, e_7, hm⟩ := b1_in hm
    refine g_callVi (k0 := 0) (ci := 9) (As := [.int p1, .int p3]) (rest := []) fx hC rw_w (Rc_isWay l τ p1 p3 e_7) k_453 Rk_isWay Rh_isWay rfl rfl rfl ⟨rfl, rfl⟩ ⟨Nat.le_trans (Nat.le_of_ble_eq_true rfl) hR.1, Nat.le_trans (Nat.le_of_ble_eq_true rfl) hR.2⟩ hf rfl hl.1 rfl (Nat.le_of_ble_eq_true rfl) dX9_unions_37 (fun H locs hC => ?_)
    refine lv_if_eq (tgt := 93) hx hb dX9_unions_40 (by decide) (fun c_9 => ?_) (fun c_9 => ?_)
    · replace hm := ifp hm c_9
      exact hx93 _ _ _ _ hm hC (lv_sub hl [0, 1, 2, 3] rfl)
    · replace hm := ifn hm c_9
      refine lv_iload hx hb dX9_unions_43 (lv_at hl 4 rfl) ?_
      refine lv_sipush (v := (4096 : Int32)) hx hb dX9_unions_45 (by decide) ?_
      refine lv_icmp_ge (tgt := 93) hx hb dX9_unions_48 (by decide) (fun c_10 => ?_) (fun c_10 => ?_)
      · replace hm := ifp hm c_10
        exact hx93 _ _ _ _ hm hC (lv_sub hl [0, 1, 2, 3] rfl)
      · replace hm := ifn hm c_10
        refine lv_aload_n hx hb dX9_unions_51 rfl (lv_at hl 0 rfl) ?_
        refine Rg_20 fx hC dX9_unions_52 ?_
        refine lv_iload_n hx hb dX9_unions_55 rfl (lv_at hl 3 rfl) ?_
        refine lv_iload hx hb dX9_unions_56 (lv_at hl 4 rfl) ?_
        refine lv_ior hx hb dX9_unions_58 ?_
        refine lv_aload_n hx hb dX9_unions_59 rfl (lv_at hl 0 rfl) ?_
        refine Rg_20 fx hC dX9_unions_60 ?_
        refine lv_iload_n hx hb dX9_unions_63 rfl (lv_at hl 3 rfl) ?_
        refine lv_iload hx hb dX9_unions_64 (lv_at hl 4 rfl) ?_
        refine lv_ior hx hb dX9_unions_66 ?_
        have h_11 := (gi_in hm).1
        replace hm := (gi_in hm).2
        refine Rl_20 fx hC h_11 dX9_unions_67 ?_
        refine lv_if_ne (tgt := 81) hx hb dX9_unions_68 (by decide) (fun c_12 => ?_) (fun c_12 => ?_)
        · replace hm := ifn hm c_12
          refine lv_iconst (v := (1 : Int32)) hx hb dX9_unions_81 (by decide) ?_
          refine lv_goto (tgt := 86) hx hb dX9_unions_82 (by decide) ?_
          have h_13 := (gi_in hm).1
          replace hm := (gi_in hm).2
          refine Rs_20 fx hC h_13 dX9_unions_86 (fun H locs hC => ?_)
          obtain ⟨τ_14, e_15⟩ : ∃ z, z = (rA τ 20 ((p3 ||| v4)).toNatClampNeg ((1 : Int32) &&& 1)) := ⟨_, rfl⟩
          rw [← e_15] at hC
          replace hm := nm_in hm e_15
          refine lv_iinc (v := (v4 + (1 : Int32))) (lv' := [(4, .int (v4 + (1 : Int32))), (0, .ref (q 0)), (1, .int p1), (2, .int p2), (3, .int p3)]) hx hb dX9_unions_87 hl (k := 4) rfl rfl (by decide) rfl (fun ls hl => ?_)
          refine lv_goto (tgt := 34) hx hb dX9_unions_90 (by decide) ?_
          rw [hrc] at hm
          exact ih _ _ hm _ _ _ hC (lv_sub hl [1, 2, 3, 4, 0] rfl) hx93
        · replace hm := ifp hm c_12
          refine lv_aload_n hx hb dX9_unions_71 rfl (lv_at hl 0 rfl) ?_
          refine lv_iload_n hx hb dX9_unions_72 rfl (lv_at hl 2 rfl) ?_
          refine lv_iload hx hb dX9_unions_73 (lv_at hl 4 rfl) ?_
          obtain ⟨r_17, e_16, hm⟩ := b1_in hm
          refine g_callVi (k0 := 0) (ci := 9) (As := [.int p2, .int v4]) (rest := [.int (p3 ||| v4), .ref (q 20)]) fx hC rw_w (Rc_isWay l τ p2 v4 e_16) k_453 Rk_isWay Rh_isWay rfl rfl rfl ⟨rfl, rfl⟩ ⟨Nat.le_trans (Nat.le_of_ble_eq_true rfl) hR.1, Nat.le_trans (Nat.le_of_ble_eq_true rfl) hR.2⟩ hf rfl hl.1 rfl (Nat.le_of_ble_eq_true rfl) dX9_unions_75 (fun H locs hC => ?_)
          refine lv_if_eq (tgt := 85) hx hb dX9_unions_78 (by decide) (fun c_18 => ?_) (fun c_18 => ?_)
          · replace hm := ifp hm c_18
            refine lv_iconst (v := (0 : Int32)) hx hb dX9_unions_85 (by decide) ?_
            have h_19 := (gi_in hm).1
            replace hm := (gi_in hm).2
            refine Rs_20 fx hC h_19 dX9_unions_86 (fun H locs hC => ?_)
            obtain ⟨τ_20, e_21⟩ : ∃ z, z = (rA τ 20 ((p3 ||| v4)).toNatClampNeg ((0 : Int32) &&& 1)) := ⟨_, rfl⟩
            rw [← e_21] at hC
            replace hm := nm_in hm e_21
            refine lv_iinc (v := (v4 + (1 : Int32))) (lv' := [(4, .int (v4 + (1 : Int32))), (0, .ref (q 0)), (1, .int p1), (2, .int p2), (3, .int p3)]) hx hb dX9_unions_87 hl (k := 4) rfl rfl (by decide) rfl (fun ls hl => ?_)
            refine lv_goto (tgt := 34) hx hb dX9_unions_90 (by decide) ?_
            rw [hrc] at hm
            exact ih _ _ hm _ _ _ hC (lv_sub hl [1, 2, 3, 4, 0] rfl) hx93
          · replace hm := ifn hm c_18
            refine lv_iconst (v := (1 : Int32)) hx hb dX9_unions_81 (by decide) ?_
            refine lv_goto (tgt := 86) hx hb dX9_unions_82 (by decide) ?_
            have h_22 := (gi_in hm).1
            replace hm := (gi_in hm).2
            refine Rs_20 fx hC h_22 dX9_unions_86 (fun H locs hC => ?_)
            obtain ⟨τ_23, e_24⟩ : ∃ z, z = (rA τ 20 ((p3 ||| v4)).toNatClampNeg ((1 : Int32) &&& 1)) := ⟨_, rfl⟩
            rw [← e_24] at hC
            replace hm := nm_in hm e_24
            refine lv_iinc (v := (v4 + (1 : Int32))) (lv' := [(4, .int (v4 + (1 : Int32))), (0, .ref (q 0)), (1, .int p1), (2, .int p2), (3, .int p3)]) hx hb dX9_unions_87 hl (k := 4) rfl rfl (by decide) rfl (fun ls hl => ?_)
            refine lv_goto (tgt := 34) hx hb dX9_unions_90 (by decide) ?_
            rw [hrc] at hm
            exact ih _ _ hm _ _ _ hC (lv_sub hl [1, 2, 3, 4, 0] rfl) hx93
set_option maxRecDepth 100000 in
set_option maxHeartbeats 4000000 in
theorem Rw_unions_24 {ρ : Type} {out : ρ} {p : Program} {l : Launch} {e : Env} {R : Room} {s : State} {m : MethodId} {args : Array Value} {below : List Frame} {meth : Method} {c : Code} {cells slots : Nat} {Q : State → Prop} {D : va_G} {cy : Nat → ClassId} {ad : List Nat} {q : Nat → Nat} {X : va_W} (fx : FX p s m args meth c cX9_unions 5 RX9 D cy) (hR : 1 ≤ R.frames ∧ 22 ≤ R.locals) (hf : cells ≤ R.cells ∧ slots ≤ R.slots) (p1 : Int32) (p2 : Int32) {kx99 : RS → Option ρ} :
    ∀ (n : Nat) (v3 : Int32) (τ : RS), it2 (Rs_unions_24 p1 p2 kx99) n v3 τ = some out → ∀ (H : Heap) (locs : List Loc) (ls : Array Slot), GC D (rwd cy q X) ad s τ H locs → lv_has ls 5 [(0, .ref (q 0)), (1, .int p1), (2, .int p2), (3, .int v3)] → (∀ (τ2 : RS) (H : Heap) (locs : List Loc) (ls : Array Slot), kx99 τ2 = some out → GC D (rwd cy q X) ad s τ2 H locs → lv_has ls 5 [] → W p l e R s m args below meth c H locs cells slots Q (F0 m 99 ls [])) → W p l e R s m args below meth c H locs cells slots Q (F0 m 24 ls []) := by
  have hx := fx.1
  have hb := fx.2.1
  intro n
  induction n with
  | zero => intro v3 τ hm; exact (it2_z hm).elim
  | succ n ih =>
    intro v3 τ hm H locs ls hC hl hx99
    obtain ⟨rc, hrc⟩ : ∃ z, z = it2 (Rs_unions_24 p1 p2 kx99) n := ⟨_, rfl⟩
    replace hm : Rs_unions_24 p1 p2 kx99 rc v3 τ = some out := by rw [hrc]; exact hm
    unfold Rs_unions_24 at hm
    refine lv_iload_n hx hb dX9_unions_24 rfl (lv_at hl 3 rfl) ?_
    refine lv_sipush (v := (4096 : Int32)) hx hb dX9_unions_25 (by decide) ?_
    refine lv_icmp_ge (tgt := 99) hx hb dX9_unions_28 (by decide) (fun c_6 => ?_) (fun c_6 => ?_)
    · replace hm := ifp hm c_6
      exact hx99 _ _ _ _ hm hC (lv_sub hl [] rfl)
    · replace hm := ifn hm c_6
      refine lv_iconst (v := (0 : Int32)) hx hb dX9_unions_31 (by decide) ?_
      refine lv_istore (lv' := [(4, .int (0 : Int32)), (0, .ref (q 0)), (1, .int p1), (2, .int p2), (3, .int v3)]) hx hb dX9_unions_32 hl (by decide) rfl (fun ls hl => ?_)
      refine Rw_unions_34 fx hR hf p1 p2 v3 fuel (0 : Int32) τ hm _ _ _ hC (lv_sub hl [1, 2, 3, 4, 0] rfl) (fun τ_25 H locs ls hm hC hl => ?_)
      refine lv_iinc (v := (v3 + (1 : Int32))) (lv' := [(3, .int (v3 + (1 : Int32))), (0, .ref (q 0)), (1, .int p1), (2, .int p2)]) hx hb dX9_unions_93 hl (k := 3) rfl rfl (by decide) rfl (fun ls hl => ?_)
      refine lv_goto (tgt := 24) hx hb dX9_unions_96 (by decide) ?_
      rw [hrc] at hm
      exact ih _ _ hm _ _ _ hC (lv_sub hl [1, 2, 3, 0] rfl) hx99
set_option maxRecDepth 100000 in
set_option maxHeartbeats 4000000 in
theorem Rc_unions (l : Launch) {D : va_G} {cy : Nat → ClassId} {ad : List Nat} {q : Nat → Nat} {X : va_W} (τ : RS) (a1 : Int32) (a2 : Int32) {o : RS} (hm : Rm_unions τ a1 a2 = some o) : GM l yX9_unions cX9_unions 5 none Rrm_unions D cy (rwd cy q X) ad [.ref (q 0), .int a1, .int a2] τ none o := by
  refine g_start RX9 rfl (by decide) (Nat.le_of_ble_eq_true rfl) ?_
  intro p e s m args below meth c fx hr hC ls hl
  have hx := fx.1
  have hb := fx.2.1
  have hR : 1 ≤ (Rrm_unions).frames ∧ 22 ≤ (Rrm_unions).locals := ⟨Nat.le_refl _, Nat.le_refl _⟩
  have hf : 0 ≤ (Rrm_unions).cells ∧ 0 ≤ (Rrm_unions).slots := ⟨Nat.zero_le _, Nat.zero_le _⟩
  have hl : lv_has ls 5 [(0, .ref (q 0)), (1, .int a1), (2, .int a2)] := hl
  unfold Rm_unions at hm
  refine lv_iconst (v := (0 : Int32)) hx hb dX9_unions_0 (by decide) ?_
  refine lv_istore_n (lv' := [(3, .int (0 : Int32)), (0, .ref (q 0)), (1, .int a1), (2, .int a2)]) hx hb dX9_unions_1 rfl hl (by decide) rfl (fun ls hl => ?_)
  refine Rw_unions_2 fx hR hf a1 a2 fuel (0 : Int32) τ hm _ _ _ hC (lv_sub hl [1, 2, 3, 0] rfl) (fun τ_5 H locs ls hm hC hl => ?_)
  refine lv_iconst (v := (0 : Int32)) hx hb dX9_unions_22 (by decide) ?_
  refine lv_istore_n (lv' := [(3, .int (0 : Int32)), (0, .ref (q 0)), (1, .int a1), (2, .int a2)]) hx hb dX9_unions_23 rfl hl (by decide) rfl (fun ls hl => ?_)
  refine Rw_unions_24 fx hR hf a1 a2 fuel (0 : Int32) τ_5 hm _ _ _ hC (lv_sub hl [1, 2, 3, 0] rfl) (fun τ_26 H locs ls hm hC hl => ?_)
  cases hm
  exact g_vret fx hr hC rfl dX9_unions_99
def Rs_join_81 {ρ : Type} (p1 : Int32) (p2 : Int32) (p3 : Int32) (kx111 : RS → Option ρ) (rc : Int32 → RS → Option ρ) (v4 : Int32) (τ : RS) : Option ρ :=
  if (4096 : Int32) ≤ v4 then (kx111  τ) else (b1 (Rm_joined τ p1 p2 p3 v4) (fun r_12 => gi v4 4096 (nm (rA τ 20 (v4).toNatClampNeg (r_12 &&& 1)) (fun τ_14 => rc (v4 + (1 : Int32)) τ_14))))
def Rm_join (τ : RS) (a1 : Int32) (a2 : Int32) (a3 : Int32) : Option (Int32 × RS) :=
  if (Rm_in a1 (0 : Int32) (7 : Int32)) = (0 : Int32) then (some ((-2 : Int32), τ)) else (if (Rm_isFamily τ a2) = (0 : Int32) then (some ((-2 : Int32), τ)) else (if (Rm_isFamily τ a3) = (0 : Int32) then (some ((-2 : Int32), τ)) else (if a1 = (4 : Int32) then (b1 (Rm_count0 τ a3) (fun r_6 => if r_6 = (0 : Int32) then (some ((-3 : Int32), τ)) else (it2 (Rs_join_81 a1 a2 a3 (fun τ_16 => b2 (Rm_handed τ_16) (fun r_18 τ_19 => some (r_18, τ_19)))) fuel (0 : Int32) τ))) else (if a1 = (5 : Int32) then (b1 (Rm_count0 τ a3) (fun r_33 => if r_33 = (0 : Int32) then (some ((-3 : Int32), τ)) else (b1 (Rm_rest τ a2 a3) (fun τ_38 => b2 (Rm_handed τ_38) (fun r_40 τ_41 => some (r_40, τ_41)))))) else (if a1 = (3 : Int32) then (b1 (Rm_unions τ a2 a3) (fun τ_28 => b2 (Rm_handed τ_28) (fun r_30 τ_31 => some (r_30, τ_31)))) else (it2 (Rs_join_81 a1 a2 a3 (fun τ_23 => b2 (Rm_handed τ_23) (fun r_25 τ_26 => some (r_25, τ_26)))) fuel (0 : Int32) τ))))))
abbrev Rrm_join : Room := { frames := 3, cells := 0, slots := 0, locals := 73 }
set_option maxRecDepth 100000 in
set_option maxHeartbeats 4000000 in
theorem Rw_join_81 {ρ : Type} {out : ρ} {p : Program} {l : Launch} {e : Env} {R : Room} {s : State} {m : MethodId} {args : Array Value} {below : List Frame} {meth : Method} {c : Code} {cells slots : Nat} {Q : State → Prop} {D : va_G} {cy : Nat → ClassId} {ad : List Nat} {q : Nat → Nat} {X : va_W} (fx : FX p s m args meth c cX9_join 5 RX9 D cy) (hR : 3 ≤ R.frames ∧ 73 ≤ R.locals) (hf : cells ≤ R.cells ∧ slots ≤ R.slots) (p1 : Int32) (p2 : Int32) (p3 : Int32) {kx111 : RS → Option ρ} :
    ∀ (n : Nat) (v4 : Int32) (τ : RS), it2 (Rs_join_81 p1 p2 p3 kx111) n v4 τ = some out → ∀ (H : Heap) (locs : List Loc) (ls : Array Slot), GC D (rwd cy q X) ad s τ H locs → lv_has ls 5 [(0, .ref (q 0)), (1, .int p1), (2, .int p2), (3, .int p3), (4, .int v4)] → (∀ (τ2 : RS) (H : Heap) (locs : List Loc) (ls : Array Slot), kx111 τ2 = some out → GC D (rwd cy q X) ad s τ2 H locs → lv_has ls 5 [(0, .ref (q 0))] → W p l e R s m args below meth c H locs cells slots Q (F0 m 111 ls [])) → W p l e R s m args below meth c H locs cells slots Q (F0 m 81 ls []) := by
  have hx := fx.1
  have hb := fx.2.1
  intro n
  induction n with
  | zero => intro v4 τ hm; exact (it2_z hm).elim
  | succ n ih =>
    intro v4 τ hm H locs ls hC hl hx111
    obtain ⟨rc, hrc⟩ : ∃ z, z = it2 (Rs_join_81 p1 p2 p3 kx111) n := ⟨_, rfl⟩
    replace hm : Rs_join_81 p1 p2 p3 kx111 rc v4 τ = some out := by rw [hrc]; exact hm
    unfold Rs_join_81 at hm
    refine lv_iload hx hb dX9_join_81 (lv_at hl 4 rfl) ?_
    refine lv_sipush (v := (4096 : Int32)) hx hb dX9_join_83 (by decide) ?_
    refine lv_icmp_ge (tgt := 111) hx hb dX9_join_86 (by decide) (fun c_10 => ?_) (fun c_10 => ?_)
    · replace hm := ifp hm c_10
      exact hx111 _ _ _ _ hm hC (lv_sub hl [0] rfl)
    · replace hm := ifn hm c_10
      refine lv_aload_n hx hb dX9_join_89 rfl (lv_at hl 0 rfl) ?_
      refine Rg_20 fx hC dX9_join_90 ?_
      refine lv_iload hx hb dX9_join_93 (lv_at hl 4 rfl) ?_
      refine lv_aload_n hx hb dX9_join_95 rfl (lv_at hl 0 rfl) ?_
      refine lv_iload_n hx hb dX9_join_96 rfl (lv_at hl 1 rfl) ?_
      refine lv_iload_n hx hb dX9_join_97 rfl (lv_at hl 2 rfl) ?_
      refine lv_iload_n hx hb dX9_join_98 rfl (lv_at hl 3 rfl) ?_
      refine lv_iload hx hb dX9_join_99 (lv_at hl 4 rfl) ?_
      obtain ⟨r_12, e_11, hm⟩ := b1_in hm
      refine g_callVi (k0 := 0) (ci := 9) (As := [.int p1, .int p2, .int p3, .int v4]) (rest := [.int v4, .ref (q 20)]) fx hC rw_w (Rc_joined l τ p1 p2 p3 v4 e_11) k_564 Rk_joined Rh_joined rfl rfl rfl ⟨rfl, rfl⟩ ⟨Nat.le_trans (Nat.le_of_ble_eq_true rfl) hR.1, Nat.le_trans (Nat.le_of_ble_eq_true rfl) hR.2⟩ hf rfl hl.1 rfl (Nat.le_of_ble_eq_true rfl) dX9_join_101 (fun H locs hC => ?_)
      have h_13 := (gi_in hm).1
      replace hm := (gi_in hm).2
      refine Rs_20 fx hC h_13 dX9_join_104 (fun H locs hC => ?_)
      obtain ⟨τ_14, e_15⟩ : ∃ z, z = (rA τ 20 (v4).toNatClampNeg (r_12 &&& 1)) := ⟨_, rfl⟩
      rw [← e_15] at hC
      replace hm := nm_in hm e_15
      refine lv_iinc (v := (v4 + (1 : Int32))) (lv' := [(4, .int (v4 + (1 : Int32))), (0, .ref (q 0)), (1, .int p1), (2, .int p2), (3, .int p3)]) hx hb dX9_join_105 hl (k := 4) rfl rfl (by decide) rfl (fun ls hl => ?_)
      refine lv_goto (tgt := 81) hx hb dX9_join_108 (by decide) ?_
      rw [hrc] at hm
      exact ih _ _ hm _ _ _ hC (lv_sub hl [1, 2, 3, 4, 0] rfl) hx111
set_option maxRecDepth 100000 in
set_option maxHeartbeats 4000000 in
theorem Rc_join (l : Launch) {D : va_G} {cy : Nat → ClassId} {ad : List Nat} {q : Nat → Nat} {X : va_W} (τ : RS) (a1 : Int32) (a2 : Int32) (a3 : Int32) {o : Int32 × RS} (hm : Rm_join τ a1 a2 a3 = some o) : GM l yX9_join cX9_join 5 (some .int) Rrm_join D cy (rwd cy q X) ad [.ref (q 0), .int a1, .int a2, .int a3] τ (some (.int o.1)) o.2 := by
  refine g_start RX9 rfl (by decide) (Nat.le_of_ble_eq_true rfl) ?_
  intro p e s m args below meth c fx hr hC ls hl
  have hx := fx.1
  have hb := fx.2.1
  have hR : 3 ≤ (Rrm_join).frames ∧ 73 ≤ (Rrm_join).locals := ⟨Nat.le_refl _, Nat.le_refl _⟩
  have hf : 0 ≤ (Rrm_join).cells ∧ 0 ≤ (Rrm_join).slots := ⟨Nat.zero_le _, Nat.zero_le _⟩
  have hl : lv_has ls 5 [(0, .ref (q 0)), (1, .int a1), (2, .int a2), (3, .int a3)] := hl
  unfold Rm_join at hm
  refine lv_iload_n hx hb dX9_join_0 rfl (lv_at hl 1 rfl) ?_
  refine lv_iconst (v := (0 : Int32)) hx hb dX9_join_1 (by decide) ?_
  refine lv_bipush (v := (7 : Int32)) hx hb dX9_join_2 (by decide) ?_
  refine g_callSi (As := [.int a1, .int (0 : Int32), .int (7 : Int32)]) (rest := []) fx hC rw_w (Rc_in l rw_w τ a1 (0 : Int32) (7 : Int32)) k_140 Rk_in Rh_in ⟨rfl, rfl⟩ ⟨Nat.le_trans (Nat.le_of_ble_eq_true rfl) hR.1, Nat.le_trans (Nat.le_of_ble_eq_true rfl) hR.2⟩ hf rfl hl.1 rfl (Nat.le_of_ble_eq_true rfl) dX9_join_4 (fun H locs hC => ?_)
  refine lv_if_eq (tgt := 26) hx hb dX9_join_7 (by decide) (fun c_1 => ?_) (fun c_1 => ?_)
  · replace hm := ifp hm c_1
    refine lv_bipush (v := (-2 : Int32)) hx hb dX9_join_26 (by decide) ?_
    cases hm
    exact g_iret fx hr hC rfl dX9_join_28
  · replace hm := ifn hm c_1
    refine lv_aload_n hx hb dX9_join_10 rfl (lv_at hl 0 rfl) ?_
    refine lv_iload_n hx hb dX9_join_11 rfl (lv_at hl 2 rfl) ?_
    refine g_callVi (k0 := 0) (ci := 9) (As := [.int a2]) (rest := []) fx hC rw_w (Rc_isFamily l τ a2) k_449 Rk_isFamily Rh_isFamily rfl rfl rfl ⟨rfl, rfl⟩ ⟨Nat.le_trans (Nat.le_of_ble_eq_true rfl) hR.1, Nat.le_trans (Nat.le_of_ble_eq_true rfl) hR.2⟩ hf rfl hl.1 rfl (Nat.le_of_ble_eq_true rfl) dX9_join_12 (fun H locs hC => ?_)
    refine lv_if_eq (tgt := 26) hx hb dX9_join_15 (by decide) (fun c_2 => ?_) (fun c_2 => ?_)
    · replace hm := ifp hm c_2
      refine lv_bipush (v := (-2 : Int32)) hx hb dX9_join_26 (by decide) ?_
      cases hm
      exact g_iret fx hr hC rfl dX9_join_28
    · replace hm := ifn hm c_2
      refine lv_aload_n hx hb dX9_join_18 rfl (lv_at hl 0 rfl) ?_
      refine lv_iload_n hx hb dX9_join_19 rfl (lv_at hl 3 rfl) ?_
      refine g_callVi (k0 := 0) (ci := 9) (As := [.int a3]) (rest := []) fx hC rw_w (Rc_isFamily l τ a3) k_449 Rk_isFamily Rh_isFamily rfl rfl rfl ⟨rfl, rfl⟩ ⟨Nat.le_trans (Nat.le_of_ble_eq_true rfl) hR.1, Nat.le_trans (Nat.le_of_ble_eq_true rfl) hR.2⟩ hf rfl hl.1 rfl (Nat.le_of_ble_eq_true rfl) dX9_join_20 (fun H locs hC => ?_)
      refine lv_if_ne (tgt := 29) hx hb dX9_join_23 (by decide) (fun c_3 => ?_) (fun c_3 => ?_)
      · replace hm := ifn hm c_3
        refine lv_iload_n hx hb dX9_join_29 rfl (lv_at hl 1 rfl) ?_
        refine lv_iconst (v := (4 : Int32)) hx hb dX9_join_30 (by decide) ?_
        refine lv_icmp_eq (tgt := 39) hx hb dX9_join_31 (by decide) (fun c_4 => ?_) (fun c_4 => ?_)
        · replace hm := ifp hm c_4
          refine lv_aload_n hx hb dX9_join_39 rfl (lv_at hl 0 rfl) ?_
          refine lv_iload_n hx hb dX9_join_40 rfl (lv_at hl 3 rfl) ?_
          obtain ⟨r_6, e_5, hm⟩ := b1_in hm
          refine g_callVi (k0 := 0) (ci := 9) (As := [.int a3]) (rest := []) fx hC rw_w (Rc_count0 l τ a3 e_5) k_548 Rk_count0 Rh_count0 rfl rfl rfl ⟨rfl, rfl⟩ ⟨Nat.le_trans (Nat.le_of_ble_eq_true rfl) hR.1, Nat.le_trans (Nat.le_of_ble_eq_true rfl) hR.2⟩ hf rfl hl.1 rfl (Nat.le_of_ble_eq_true rfl) dX9_join_41 (fun H locs hC => ?_)
          refine lv_if_ne (tgt := 50) hx hb dX9_join_44 (by decide) (fun c_7 => ?_) (fun c_7 => ?_)
          · replace hm := ifn hm c_7
            refine lv_iload_n hx hb dX9_join_50 rfl (lv_at hl 1 rfl) ?_
            refine lv_iconst (v := (3 : Int32)) hx hb dX9_join_51 (by decide) ?_
            refine lv_icmp_ne (tgt := 64) hx hb dX9_join_52 (by decide) (fun c_8 => ?_) (fun c_8 => ?_)
            · refine lv_iload_n hx hb dX9_join_64 rfl (lv_at hl 1 rfl) ?_
              refine lv_iconst (v := (5 : Int32)) hx hb dX9_join_65 (by decide) ?_
              refine lv_icmp_ne (tgt := 78) hx hb dX9_join_66 (by decide) (fun c_9 => ?_) (fun c_9 => ?_)
              · refine lv_iconst (v := (0 : Int32)) hx hb dX9_join_78 (by decide) ?_
                refine lv_istore (lv' := [(4, .int (0 : Int32)), (0, .ref (q 0)), (1, .int a1), (2, .int a2), (3, .int a3)]) hx hb dX9_join_79 hl (by decide) rfl (fun ls hl => ?_)
                refine Rw_join_81 fx hR hf a1 a2 a3 fuel (0 : Int32) τ hm _ _ _ hC (lv_sub hl [1, 2, 3, 4, 0] rfl) (fun τ_16 H locs ls hm hC hl => ?_)
                refine lv_aload_n hx hb dX9_join_111 rfl (lv_at hl 0 rfl) ?_
                obtain ⟨r_18, τ_19, e_17, hm⟩ := b2_in hm
                refine g_callVi (k0 := 0) (ci := 9) (As := []) (rest := []) fx hC rw_w (Rc_handed l τ_16 e_17) k_568 Rk_handed Rh_handed rfl rfl rfl ⟨rfl, rfl⟩ ⟨Nat.le_trans (Nat.le_of_ble_eq_true rfl) hR.1, Nat.le_trans (Nat.le_of_ble_eq_true rfl) hR.2⟩ hf rfl hl.1 rfl (Nat.le_of_ble_eq_true rfl) dX9_join_112 (fun H locs hC => ?_)
                cases hm
                exact g_iret fx hr hC rfl dX9_join_115
              · exact absurd c_9 (fun z => absurd (c_4.symm.trans z) (by decide))
            · exact absurd c_8 (fun z => absurd (c_4.symm.trans z) (by decide))
          · replace hm := ifp hm c_7
            refine lv_bipush (v := (-3 : Int32)) hx hb dX9_join_47 (by decide) ?_
            cases hm
            exact g_iret fx hr hC rfl dX9_join_49
        · replace hm := ifn hm c_4
          refine lv_iload_n hx hb dX9_join_34 rfl (lv_at hl 1 rfl) ?_
          refine lv_iconst (v := (5 : Int32)) hx hb dX9_join_35 (by decide) ?_
          refine lv_icmp_ne (tgt := 50) hx hb dX9_join_36 (by decide) (fun c_20 => ?_) (fun c_20 => ?_)
          · replace hm := ifn hm c_20
            refine lv_iload_n hx hb dX9_join_50 rfl (lv_at hl 1 rfl) ?_
            refine lv_iconst (v := (3 : Int32)) hx hb dX9_join_51 (by decide) ?_
            refine lv_icmp_ne (tgt := 64) hx hb dX9_join_52 (by decide) (fun c_21 => ?_) (fun c_21 => ?_)
            · replace hm := ifn hm c_21
              refine lv_iload_n hx hb dX9_join_64 rfl (lv_at hl 1 rfl) ?_
              refine lv_iconst (v := (5 : Int32)) hx hb dX9_join_65 (by decide) ?_
              refine lv_icmp_ne (tgt := 78) hx hb dX9_join_66 (by decide) (fun c_22 => ?_) (fun c_22 => ?_)
              · refine lv_iconst (v := (0 : Int32)) hx hb dX9_join_78 (by decide) ?_
                refine lv_istore (lv' := [(4, .int (0 : Int32)), (0, .ref (q 0)), (1, .int a1), (2, .int a2), (3, .int a3)]) hx hb dX9_join_79 hl (by decide) rfl (fun ls hl => ?_)
                refine Rw_join_81 fx hR hf a1 a2 a3 fuel (0 : Int32) τ hm _ _ _ hC (lv_sub hl [1, 2, 3, 4, 0] rfl) (fun τ_23 H locs ls hm hC hl => ?_)
                refine lv_aload_n hx hb dX9_join_111 rfl (lv_at hl 0 rfl) ?_
                obtain ⟨r_25, τ_26, e_24, hm⟩ := b2_in hm
                refine g_callVi (k0 := 0) (ci := 9) (As := []) (rest := []) fx hC rw_w (Rc_handed l τ_23 e_24) k_568 Rk_handed Rh_handed rfl rfl rfl ⟨rfl, rfl⟩ ⟨Nat.le_trans (Nat.le_of_ble_eq_true rfl) hR.1, Nat.le_trans (Nat.le_of_ble_eq_true rfl) hR.2⟩ hf rfl hl.1 rfl (Nat.le_of_ble_eq_true rfl) dX9_join_112 (fun H locs hC => ?_)
                cases hm
                exact g_iret fx hr hC rfl dX9_join_115
              · exact absurd c_22 c_20
            · replace hm := ifp hm c_21
              refine lv_aload_n hx hb dX9_join_55 rfl (lv_at hl 0 rfl) ?_
              refine lv_iload_n hx hb dX9_join_56 rfl (lv_at hl 2 rfl) ?_
              refine lv_iload_n hx hb dX9_join_57 rfl (lv_at hl 3 rfl) ?_
              obtain ⟨τ_28, e_27, hm⟩ := b1_in hm
              refine g_callVv (k0 := 0) (ci := 9) (As := [.int a2, .int a3]) (rest := []) fx hC rw_w (Rc_unions l τ a2 a3 e_27) k_552 Rk_unions Rh_unions rfl rfl rfl ⟨rfl, rfl⟩ ⟨Nat.le_trans (Nat.le_of_ble_eq_true rfl) hR.1, Nat.le_trans (Nat.le_of_ble_eq_true rfl) hR.2⟩ hf rfl hl.1 rfl (Nat.le_of_ble_eq_true rfl) dX9_join_58 (fun H locs hC => ?_)
              refine lv_goto (tgt := 111) hx hb dX9_join_61 (by decide) ?_
              refine lv_aload_n hx hb dX9_join_111 rfl (lv_at hl 0 rfl) ?_
              obtain ⟨r_30, τ_31, e_29, hm⟩ := b2_in hm
              refine g_callVi (k0 := 0) (ci := 9) (As := []) (rest := []) fx hC rw_w (Rc_handed l τ_28 e_29) k_568 Rk_handed Rh_handed rfl rfl rfl ⟨rfl, rfl⟩ ⟨Nat.le_trans (Nat.le_of_ble_eq_true rfl) hR.1, Nat.le_trans (Nat.le_of_ble_eq_true rfl) hR.2⟩ hf rfl hl.1 rfl (Nat.le_of_ble_eq_true rfl) dX9_join_112 (fun H locs hC => ?_)
              cases hm
              exact g_iret fx hr hC rfl dX9_join_115
          · replace hm := ifp hm c_20
            refine lv_aload_n hx hb dX9_join_39 rfl (lv_at hl 0 rfl) ?_
            refine lv_iload_n hx hb dX9_join_40 rfl (lv_at hl 3 rfl) ?_
            obtain ⟨r_33, e_32, hm⟩ := b1_in hm
            refine g_callVi (k0 := 0) (ci := 9) (As := [.int a3]) (rest := []) fx hC rw_w (Rc_count0 l τ a3 e_32) k_548 Rk_count0 Rh_count0 rfl rfl rfl ⟨rfl, rfl⟩ ⟨Nat.le_trans (Nat.le_of_ble_eq_true rfl) hR.1, Nat.le_trans (Nat.le_of_ble_eq_true rfl) hR.2⟩ hf rfl hl.1 rfl (Nat.le_of_ble_eq_true rfl) dX9_join_41 (fun H locs hC => ?_)
            refine lv_if_ne (tgt := 50) hx hb dX9_join_44 (by decide) (fun c_34 => ?_) (fun c_34 => ?_)
            · replace hm := ifn hm c_34
              refine lv_iload_n hx hb dX9_join_50 rfl (lv_at hl 1 rfl) ?_
              refine lv_iconst (v := (3 : Int32)) hx hb dX9_join_51 (by decide) ?_
              refine lv_icmp_ne (tgt := 64) hx hb dX9_join_52 (by decide) (fun c_35 => ?_) (fun c_35 => ?_)
              · refine lv_iload_n hx hb dX9_join_64 rfl (lv_at hl 1 rfl) ?_
                refine lv_iconst (v := (5 : Int32)) hx hb dX9_join_65 (by decide) ?_
                refine lv_icmp_ne (tgt := 78) hx hb dX9_join_66 (by decide) (fun c_36 => ?_) (fun c_36 => ?_)
                · exact absurd c_20 c_36
                · refine lv_aload_n hx hb dX9_join_69 rfl (lv_at hl 0 rfl) ?_
                  refine lv_iload_n hx hb dX9_join_70 rfl (lv_at hl 2 rfl) ?_
                  refine lv_iload_n hx hb dX9_join_71 rfl (lv_at hl 3 rfl) ?_
                  obtain ⟨τ_38, e_37, hm⟩ := b1_in hm
                  refine g_callVv (k0 := 0) (ci := 9) (As := [.int a2, .int a3]) (rest := []) fx hC rw_w (Rc_rest l τ a2 a3 e_37) k_556 Rk_rest Rh_rest rfl rfl rfl ⟨rfl, rfl⟩ ⟨Nat.le_trans (Nat.le_of_ble_eq_true rfl) hR.1, Nat.le_trans (Nat.le_of_ble_eq_true rfl) hR.2⟩ hf rfl hl.1 rfl (Nat.le_of_ble_eq_true rfl) dX9_join_72 (fun H locs hC => ?_)
                  refine lv_goto (tgt := 111) hx hb dX9_join_75 (by decide) ?_
                  refine lv_aload_n hx hb dX9_join_111 rfl (lv_at hl 0 rfl) ?_
                  obtain ⟨r_40, τ_41, e_39, hm⟩ := b2_in hm
                  refine g_callVi (k0 := 0) (ci := 9) (As := []) (rest := []) fx hC rw_w (Rc_handed l τ_38 e_39) k_568 Rk_handed Rh_handed rfl rfl rfl ⟨rfl, rfl⟩ ⟨Nat.le_trans (Nat.le_of_ble_eq_true rfl) hR.1, Nat.le_trans (Nat.le_of_ble_eq_true rfl) hR.2⟩ hf rfl hl.1 rfl (Nat.le_of_ble_eq_true rfl) dX9_join_112 (fun H locs hC => ?_)
                  cases hm
                  exact g_iret fx hr hC rfl dX9_join_115
              · exact absurd c_35 (fun z => absurd (c_20.symm.trans z) (by decide))
            · replace hm := ifp hm c_34
              refine lv_bipush (v := (-3 : Int32)) hx hb dX9_join_47 (by decide) ?_
              cases hm
              exact g_iret fx hr hC rfl dX9_join_49
      · replace hm := ifp hm c_3
        refine lv_bipush (v := (-2 : Int32)) hx hb dX9_join_26 (by decide) ?_
        cases hm
        exact g_iret fx hr hC rfl dX9_join_28
def Rs_isThin_11 {ρ : Type} (p1 : Int32) (p2 : Int32) (p3 : Int32) (τ : RS) (kx78 : Int32 → Option ρ) (rc : Int32 → Int32 → Option ρ) (v4 : Int32) (v5 : Int32) : Option ρ :=
  if v4 = (0 : Int32) then (kx78 v4) else (if (4096 : Int32) ≤ v5 then (kx78 v4) else (if v5 = p2 then (rc (1 : Int32) (v5 + (1 : Int32))) else (b1 (Rm_isWay τ p1 v5) (fun r_7 => if r_7 = (0 : Int32) then (rc (1 : Int32) (v5 + (1 : Int32))) else (if p3 = (0 : Int32) then (if (p2 &&& (v5 ^^^ (-1 : Int32))) = (0 : Int32) then (rc (0 : Int32) (v5 + (1 : Int32))) else (rc (1 : Int32) (v5 + (1 : Int32)))) else (if (v5 &&& (p2 ^^^ (-1 : Int32))) = (0 : Int32) then (rc (0 : Int32) (v5 + (1 : Int32))) else (rc (1 : Int32) (v5 + (1 : Int32)))))))))
def Rm_isThin (τ : RS) (a1 : Int32) (a2 : Int32) (a3 : Int32) : Option Int32 :=
  b1 (Rm_isWay τ a1 a2) (fun r_2 => it2 (Rs_isThin_11 a1 a2 a3 τ (fun u_12 => gb u_12 (some u_12))) fuel r_2 (0 : Int32))
abbrev Rrm_isThin : Room := { frames := 1, cells := 0, slots := 0, locals := 22 }
set_option maxRecDepth 100000 in
set_option maxHeartbeats 4000000 in
theorem Rw_isThin_11 {ρ : Type} {out : ρ} {p : Program} {l : Launch} {e : Env} {R : Room} {s : State} {m : MethodId} {args : Array Value} {below : List Frame} {meth : Method} {c : Code} {cells slots : Nat} {Q : State → Prop} {D : va_G} {cy : Nat → ClassId} {ad : List Nat} {q : Nat → Nat} {X : va_W} (τ : RS) (fx : FX p s m args meth c cX9_isThin 6 RX9 D cy) (hR : 1 ≤ R.frames ∧ 22 ≤ R.locals) (hf : cells ≤ R.cells ∧ slots ≤ R.slots) (p1 : Int32) (p2 : Int32) (p3 : Int32) {kx78 : Int32 → Option ρ} :
    ∀ (n : Nat) (v4 : Int32) (v5 : Int32), it2 (Rs_isThin_11 p1 p2 p3 τ kx78) n v4 v5 = some out → ∀ (H : Heap) (locs : List Loc) (ls : Array Slot), GC D (rwd cy q X) ad s τ H locs → lv_has ls 6 [(0, .ref (q 0)), (1, .int p1), (2, .int p2), (3, .int p3), (4, .int v4), (5, .int v5)] → (∀ (u4 : Int32) (H : Heap) (locs : List Loc) (ls : Array Slot), kx78 u4 = some out → GC D (rwd cy q X) ad s τ H locs → lv_has ls 6 [(4, .int u4)] → W p l e R s m args below meth c H locs cells slots Q (F0 m 78 ls [])) → W p l e R s m args below meth c H locs cells slots Q (F0 m 11 ls []) := by
  have hx := fx.1
  have hb := fx.2.1
  intro n
  induction n with
  | zero => intro v4 v5 hm; exact (it2_z hm).elim
  | succ n ih =>
    intro v4 v5 hm H locs ls hC hl hx78
    obtain ⟨rc, hrc⟩ : ∃ z, z = it2 (Rs_isThin_11 p1 p2 p3 τ kx78) n := ⟨_, rfl⟩
    replace hm : Rs_isThin_11 p1 p2 p3 τ kx78 rc v4 v5 = some out := by rw [hrc]; exact hm
    unfold Rs_isThin_11 at hm
    refine lv_iload hx hb dX9_isThin_11 (lv_at hl 4 rfl) ?_
    refine lv_if_eq (tgt := 78) hx hb dX9_isThin_13 (by decide) (fun c_3 => ?_) (fun c_3 => ?_)
    · replace hm := ifp hm c_3
      exact hx78 _ _ _ _ hm hC (lv_sub hl [4] rfl)
    · replace hm := ifn hm c_3
      refine lv_iload hx hb dX9_isThin_16 (lv_at hl 5 rfl) ?_
      refine lv_sipush (v := (4096 : Int32)) hx hb dX9_isThin_18 (by decide) ?_
      refine lv_icmp_ge (tgt := 78) hx hb dX9_isThin_21 (by decide) (fun c_4 => ?_) (fun c_4 => ?_)
      · replace hm := ifp hm c_4
        exact hx78 _ _ _ _ hm hC (lv_sub hl [4] rfl)
      · replace hm := ifn hm c_4
        refine lv_iload hx hb dX9_isThin_24 (lv_at hl 5 rfl) ?_
        refine lv_iload_n hx hb dX9_isThin_26 rfl (lv_at hl 2 rfl) ?_
        refine lv_icmp_eq (tgt := 65) hx hb dX9_isThin_27 (by decide) (fun c_5 => ?_) (fun c_5 => ?_)
        · replace hm := ifp hm c_5
          refine lv_iconst (v := (1 : Int32)) hx hb dX9_isThin_65 (by decide) ?_
          refine lv_goto (tgt := 70) hx hb dX9_isThin_66 (by decide) ?_
          refine lv_istore (lv' := [(4, .int (1 : Int32)), (0, .ref (q 0)), (1, .int p1), (2, .int p2), (3, .int p3), (5, .int v5)]) hx hb dX9_isThin_70 hl (by decide) rfl (fun ls hl => ?_)
          refine lv_iinc (v := (v5 + (1 : Int32))) (lv' := [(5, .int (v5 + (1 : Int32))), (4, .int (1 : Int32)), (0, .ref (q 0)), (1, .int p1), (2, .int p2), (3, .int p3)]) hx hb dX9_isThin_72 hl (k := 5) rfl rfl (by decide) rfl (fun ls hl => ?_)
          refine lv_goto (tgt := 11) hx hb dX9_isThin_75 (by decide) ?_
          rw [hrc] at hm
          exact ih _ _ hm _ _ _ hC (lv_sub hl [2, 3, 4, 5, 1, 0] rfl) hx78
        · replace hm := ifn hm c_5
          refine lv_aload_n hx hb dX9_isThin_30 rfl (lv_at hl 0 rfl) ?_
          refine lv_iload_n hx hb dX9_isThin_31 rfl (lv_at hl 1 rfl) ?_
          refine lv_iload hx hb dX9_isThin_32 (lv_at hl 5 rfl) ?_
          obtain ⟨r_7, e_6, hm⟩ := b1_in hm
          refine g_callVi (k0 := 0) (ci := 9) (As := [.int p1, .int v5]) (rest := []) fx hC rw_w (Rc_isWay l τ p1 v5 e_6) k_453 Rk_isWay Rh_isWay rfl rfl rfl ⟨rfl, rfl⟩ ⟨Nat.le_trans (Nat.le_of_ble_eq_true rfl) hR.1, Nat.le_trans (Nat.le_of_ble_eq_true rfl) hR.2⟩ hf rfl hl.1 rfl (Nat.le_of_ble_eq_true rfl) dX9_isThin_34 (fun H locs hC => ?_)
          refine lv_if_eq (tgt := 65) hx hb dX9_isThin_37 (by decide) (fun c_8 => ?_) (fun c_8 => ?_)
          · replace hm := ifp hm c_8
            refine lv_iconst (v := (1 : Int32)) hx hb dX9_isThin_65 (by decide) ?_
            refine lv_goto (tgt := 70) hx hb dX9_isThin_66 (by decide) ?_
            refine lv_istore (lv' := [(4, .int (1 : Int32)), (0, .ref (q 0)), (1, .int p1), (2, .int p2), (3, .int p3), (5, .int v5)]) hx hb dX9_isThin_70 hl (by decide) rfl (fun ls hl => ?_)
            refine lv_iinc (v := (v5 + (1 : Int32))) (lv' := [(5, .int (v5 + (1 : Int32))), (4, .int (1 : Int32)), (0, .ref (q 0)), (1, .int p1), (2, .int p2), (3, .int p3)]) hx hb dX9_isThin_72 hl (k := 5) rfl rfl (by decide) rfl (fun ls hl => ?_)
            refine lv_goto (tgt := 11) hx hb dX9_isThin_75 (by decide) ?_
            rw [hrc] at hm
            exact ih _ _ hm _ _ _ hC (lv_sub hl [2, 3, 4, 5, 1, 0] rfl) hx78
          · replace hm := ifn hm c_8
            refine lv_iload_n hx hb dX9_isThin_40 rfl (lv_at hl 3 rfl) ?_
            refine lv_if_eq (tgt := 56) hx hb dX9_isThin_41 (by decide) (fun c_9 => ?_) (fun c_9 => ?_)
            · replace hm := ifp hm c_9
              refine lv_iload_n hx hb dX9_isThin_56 rfl (lv_at hl 2 rfl) ?_
              refine lv_iload hx hb dX9_isThin_57 (lv_at hl 5 rfl) ?_
              refine lv_iconst (v := (-1 : Int32)) hx hb dX9_isThin_59 (by decide) ?_
              refine lv_ixor hx hb dX9_isThin_60 ?_
              refine lv_iand hx hb dX9_isThin_61 ?_
              refine lv_if_eq (tgt := 69) hx hb dX9_isThin_62 (by decide) (fun c_10 => ?_) (fun c_10 => ?_)
              · replace hm := ifp hm c_10
                refine lv_iconst (v := (0 : Int32)) hx hb dX9_isThin_69 (by decide) ?_
                refine lv_istore (lv' := [(4, .int (0 : Int32)), (0, .ref (q 0)), (1, .int p1), (2, .int p2), (3, .int p3), (5, .int v5)]) hx hb dX9_isThin_70 hl (by decide) rfl (fun ls hl => ?_)
                refine lv_iinc (v := (v5 + (1 : Int32))) (lv' := [(5, .int (v5 + (1 : Int32))), (4, .int (0 : Int32)), (0, .ref (q 0)), (1, .int p1), (2, .int p2), (3, .int p3)]) hx hb dX9_isThin_72 hl (k := 5) rfl rfl (by decide) rfl (fun ls hl => ?_)
                refine lv_goto (tgt := 11) hx hb dX9_isThin_75 (by decide) ?_
                rw [hrc] at hm
                exact ih _ _ hm _ _ _ hC (lv_sub hl [2, 3, 4, 5, 1, 0] rfl) hx78
              · replace hm := ifn hm c_10
                refine lv_iconst (v := (1 : Int32)) hx hb dX9_isThin_65 (by decide) ?_
                refine lv_goto (tgt := 70) hx hb dX9_isThin_66 (by decide) ?_
                refine lv_istore (lv' := [(4, .int (1 : Int32)), (0, .ref (q 0)), (1, .int p1), (2, .int p2), (3, .int p3), (5, .int v5)]) hx hb dX9_isThin_70 hl (by decide) rfl (fun ls hl => ?_)
                refine lv_iinc (v := (v5 + (1 : Int32))) (lv' := [(5, .int (v5 + (1 : Int32))), (4, .int (1 : Int32)), (0, .ref (q 0)), (1, .int p1), (2, .int p2), (3, .int p3)]) hx hb dX9_isThin_72 hl (k := 5) rfl rfl (by decide) rfl (fun ls hl => ?_)
                refine lv_goto (tgt := 11) hx hb dX9_isThin_75 (by decide) ?_
                rw [hrc] at hm
                exact ih _ _ hm _ _ _ hC (lv_sub hl [2, 3, 4, 5, 1, 0] rfl) hx78
            · replace hm := ifn hm c_9
              refine lv_iload hx hb dX9_isThin_44 (lv_at hl 5 rfl) ?_
              refine lv_iload_n hx hb dX9_isThin_46 rfl (lv_at hl 2 rfl) ?_
              refine lv_iconst (v := (-1 : Int32)) hx hb dX9_isThin_47 (by decide) ?_
              refine lv_ixor hx hb dX9_isThin_48 ?_
              refine lv_iand hx hb dX9_isThin_49 ?_
              refine lv_if_eq (tgt := 69) hx hb dX9_isThin_50 (by decide) (fun c_11 => ?_) (fun c_11 => ?_)
              · replace hm := ifp hm c_11
                refine lv_iconst (v := (0 : Int32)) hx hb dX9_isThin_69 (by decide) ?_
                refine lv_istore (lv' := [(4, .int (0 : Int32)), (0, .ref (q 0)), (1, .int p1), (2, .int p2), (3, .int p3), (5, .int v5)]) hx hb dX9_isThin_70 hl (by decide) rfl (fun ls hl => ?_)
                refine lv_iinc (v := (v5 + (1 : Int32))) (lv' := [(5, .int (v5 + (1 : Int32))), (4, .int (0 : Int32)), (0, .ref (q 0)), (1, .int p1), (2, .int p2), (3, .int p3)]) hx hb dX9_isThin_72 hl (k := 5) rfl rfl (by decide) rfl (fun ls hl => ?_)
                refine lv_goto (tgt := 11) hx hb dX9_isThin_75 (by decide) ?_
                rw [hrc] at hm
                exact ih _ _ hm _ _ _ hC (lv_sub hl [2, 3, 4, 5, 1, 0] rfl) hx78
              · replace hm := ifn hm c_11
                refine lv_goto (tgt := 65) hx hb dX9_isThin_53 (by decide) ?_
                refine lv_iconst (v := (1 : Int32)) hx hb dX9_isThin_65 (by decide) ?_
                refine lv_goto (tgt := 70) hx hb dX9_isThin_66 (by decide) ?_
                refine lv_istore (lv' := [(4, .int (1 : Int32)), (0, .ref (q 0)), (1, .int p1), (2, .int p2), (3, .int p3), (5, .int v5)]) hx hb dX9_isThin_70 hl (by decide) rfl (fun ls hl => ?_)
                refine lv_iinc (v := (v5 + (1 : Int32))) (lv' := [(5, .int (v5 + (1 : Int32))), (4, .int (1 : Int32)), (0, .ref (q 0)), (1, .int p1), (2, .int p2), (3, .int p3)]) hx hb dX9_isThin_72 hl (k := 5) rfl rfl (by decide) rfl (fun ls hl => ?_)
                refine lv_goto (tgt := 11) hx hb dX9_isThin_75 (by decide) ?_
                rw [hrc] at hm
                exact ih _ _ hm _ _ _ hC (lv_sub hl [2, 3, 4, 5, 1, 0] rfl) hx78
set_option maxRecDepth 100000 in
set_option maxHeartbeats 4000000 in
theorem Rc_isThin (l : Launch) {D : va_G} {cy : Nat → ClassId} {ad : List Nat} {q : Nat → Nat} {X : va_W} (τ : RS) (a1 : Int32) (a2 : Int32) (a3 : Int32) {o : Int32} (hm : Rm_isThin τ a1 a2 a3 = some o) : GM l yX9_isThin cX9_isThin 6 (some .boolean) Rrm_isThin D cy (rwd cy q X) ad [.ref (q 0), .int a1, .int a2, .int a3] τ (some (.int o)) τ := by
  refine g_start RX9 rfl (by decide) (Nat.le_of_ble_eq_true rfl) ?_
  intro p e s m args below meth c fx hr hC ls hl
  have hx := fx.1
  have hb := fx.2.1
  have hR : 1 ≤ (Rrm_isThin).frames ∧ 22 ≤ (Rrm_isThin).locals := ⟨Nat.le_refl _, Nat.le_refl _⟩
  have hf : 0 ≤ (Rrm_isThin).cells ∧ 0 ≤ (Rrm_isThin).slots := ⟨Nat.zero_le _, Nat.zero_le _⟩
  have hl : lv_has ls 6 [(0, .ref (q 0)), (1, .int a1), (2, .int a2), (3, .int a3)] := hl
  unfold Rm_isThin at hm
  refine lv_aload_n hx hb dX9_isThin_0 rfl (lv_at hl 0 rfl) ?_
  refine lv_iload_n hx hb dX9_isThin_1 rfl (lv_at hl 1 rfl) ?_
  refine lv_iload_n hx hb dX9_isThin_2 rfl (lv_at hl 2 rfl) ?_
  obtain ⟨r_2, e_1, hm⟩ := b1_in hm
  refine g_callVi (k0 := 0) (ci := 9) (As := [.int a1, .int a2]) (rest := []) fx hC rw_w (Rc_isWay l τ a1 a2 e_1) k_453 Rk_isWay Rh_isWay rfl rfl rfl ⟨rfl, rfl⟩ ⟨Nat.le_trans (Nat.le_of_ble_eq_true rfl) hR.1, Nat.le_trans (Nat.le_of_ble_eq_true rfl) hR.2⟩ hf rfl hl.1 rfl (Nat.le_of_ble_eq_true rfl) dX9_isThin_3 (fun H locs hC => ?_)
  refine lv_istore (lv' := [(4, .int r_2), (0, .ref (q 0)), (1, .int a1), (2, .int a2), (3, .int a3)]) hx hb dX9_isThin_6 hl (by decide) rfl (fun ls hl => ?_)
  refine lv_iconst (v := (0 : Int32)) hx hb dX9_isThin_8 (by decide) ?_
  refine lv_istore (lv' := [(5, .int (0 : Int32)), (4, .int r_2), (0, .ref (q 0)), (1, .int a1), (2, .int a2), (3, .int a3)]) hx hb dX9_isThin_9 hl (by decide) rfl (fun ls hl => ?_)
  refine Rw_isThin_11 τ fx hR hf a1 a2 a3 fuel r_2 (0 : Int32) hm _ _ _ hC (lv_sub hl [2, 3, 4, 5, 1, 0] rfl) (fun u_12 H locs ls hm hC hl => ?_)
  refine lv_iload hx hb dX9_isThin_78 (lv_at hl 0 rfl) ?_
  have h_13 := (gb_in hm).1
  replace hm := (gb_in hm).2
  cases hm
  exact g_zret fx hr h_13 hC rfl dX9_isThin_80
def Rs_meets_5 {ρ : Type} (p1 : Int32) (p2 : Int32) (τ : RS) (kx46 : Int32 → Option ρ) (rc : Int32 → Int32 → Option ρ) (v3 : Int32) (v4 : Int32) : Option ρ :=
  if v3 = (0 : Int32) then (kx46 v3) else (if (4096 : Int32) ≤ v4 then (kx46 v3) else (b1 (Rm_isWay τ p1 v4) (fun r_4 => if r_4 = (0 : Int32) then (rc (1 : Int32) (v4 + (1 : Int32))) else (if (v4 &&& p2) = (0 : Int32) then (rc (0 : Int32) (v4 + (1 : Int32))) else (rc (1 : Int32) (v4 + (1 : Int32)))))))
def Rm_meets (τ : RS) (a1 : Int32) (a2 : Int32) : Option Int32 :=
  it2 (Rs_meets_5 a1 a2 τ (fun u_7 => gb u_7 (some u_7))) fuel (1 : Int32) (0 : Int32)
abbrev Rrm_meets : Room := { frames := 1, cells := 0, slots := 0, locals := 22 }
set_option maxRecDepth 100000 in
set_option maxHeartbeats 4000000 in
theorem Rw_meets_5 {ρ : Type} {out : ρ} {p : Program} {l : Launch} {e : Env} {R : Room} {s : State} {m : MethodId} {args : Array Value} {below : List Frame} {meth : Method} {c : Code} {cells slots : Nat} {Q : State → Prop} {D : va_G} {cy : Nat → ClassId} {ad : List Nat} {q : Nat → Nat} {X : va_W} (τ : RS) (fx : FX p s m args meth c cX9_meets 5 RX9 D cy) (hR : 1 ≤ R.frames ∧ 22 ≤ R.locals) (hf : cells ≤ R.cells ∧ slots ≤ R.slots) (p1 : Int32) (p2 : Int32) {kx46 : Int32 → Option ρ} :
    ∀ (n : Nat) (v3 : Int32) (v4 : Int32), it2 (Rs_meets_5 p1 p2 τ kx46) n v3 v4 = some out → ∀ (H : Heap) (locs : List Loc) (ls : Array Slot), GC D (rwd cy q X) ad s τ H locs → lv_has ls 5 [(0, .ref (q 0)), (1, .int p1), (2, .int p2), (3, .int v3), (4, .int v4)] → (∀ (u3 : Int32) (H : Heap) (locs : List Loc) (ls : Array Slot), kx46 u3 = some out → GC D (rwd cy q X) ad s τ H locs → lv_has ls 5 [(3, .int u3)] → W p l e R s m args below meth c H locs cells slots Q (F0 m 46 ls [])) → W p l e R s m args below meth c H locs cells slots Q (F0 m 5 ls []) := by
  have hx := fx.1
  have hb := fx.2.1
  intro n
  induction n with
  | zero => intro v3 v4 hm; exact (it2_z hm).elim
  | succ n ih =>
    intro v3 v4 hm H locs ls hC hl hx46
    obtain ⟨rc, hrc⟩ : ∃ z, z = it2 (Rs_meets_5 p1 p2 τ kx46) n := ⟨_, rfl⟩
    replace hm : Rs_meets_5 p1 p2 τ kx46 rc v3 v4 = some out := by rw [hrc]; exact hm
    unfold Rs_meets_5 at hm
    refine lv_iload_n hx hb dX9_meets_5 rfl (lv_at hl 3 rfl) ?_
    refine lv_if_eq (tgt := 46) hx hb dX9_meets_6 (by decide) (fun c_1 => ?_) (fun c_1 => ?_)
    · replace hm := ifp hm c_1
      exact hx46 _ _ _ _ hm hC (lv_sub hl [3] rfl)
    · replace hm := ifn hm c_1
      refine lv_iload hx hb dX9_meets_9 (lv_at hl 4 rfl) ?_
      refine lv_sipush (v := (4096 : Int32)) hx hb dX9_meets_11 (by decide) ?_
      refine lv_icmp_ge (tgt := 46) hx hb dX9_meets_14 (by decide) (fun c_2 => ?_) (fun c_2 => ?_)
      · replace hm := ifp hm c_2
        exact hx46 _ _ _ _ hm hC (lv_sub hl [3] rfl)
      · replace hm := ifn hm c_2
        refine lv_aload_n hx hb dX9_meets_17 rfl (lv_at hl 0 rfl) ?_
        refine lv_iload_n hx hb dX9_meets_18 rfl (lv_at hl 1 rfl) ?_
        refine lv_iload hx hb dX9_meets_19 (lv_at hl 4 rfl) ?_
        obtain ⟨r_4, e_3, hm⟩ := b1_in hm
        refine g_callVi (k0 := 0) (ci := 9) (As := [.int p1, .int v4]) (rest := []) fx hC rw_w (Rc_isWay l τ p1 v4 e_3) k_453 Rk_isWay Rh_isWay rfl rfl rfl ⟨rfl, rfl⟩ ⟨Nat.le_trans (Nat.le_of_ble_eq_true rfl) hR.1, Nat.le_trans (Nat.le_of_ble_eq_true rfl) hR.2⟩ hf rfl hl.1 rfl (Nat.le_of_ble_eq_true rfl) dX9_meets_21 (fun H locs hC => ?_)
        refine lv_if_eq (tgt := 34) hx hb dX9_meets_24 (by decide) (fun c_5 => ?_) (fun c_5 => ?_)
        · replace hm := ifp hm c_5
          refine lv_iconst (v := (1 : Int32)) hx hb dX9_meets_34 (by decide) ?_
          refine lv_goto (tgt := 39) hx hb dX9_meets_35 (by decide) ?_
          refine lv_istore_n (lv' := [(3, .int (1 : Int32)), (0, .ref (q 0)), (1, .int p1), (2, .int p2), (4, .int v4)]) hx hb dX9_meets_39 rfl hl (by decide) rfl (fun ls hl => ?_)
          refine lv_iinc (v := (v4 + (1 : Int32))) (lv' := [(4, .int (v4 + (1 : Int32))), (3, .int (1 : Int32)), (0, .ref (q 0)), (1, .int p1), (2, .int p2)]) hx hb dX9_meets_40 hl (k := 4) rfl rfl (by decide) rfl (fun ls hl => ?_)
          refine lv_goto (tgt := 5) hx hb dX9_meets_43 (by decide) ?_
          rw [hrc] at hm
          exact ih _ _ hm _ _ _ hC (lv_sub hl [2, 3, 4, 1, 0] rfl) hx46
        · replace hm := ifn hm c_5
          refine lv_iload hx hb dX9_meets_27 (lv_at hl 4 rfl) ?_
          refine lv_iload_n hx hb dX9_meets_29 rfl (lv_at hl 2 rfl) ?_
          refine lv_iand hx hb dX9_meets_30 ?_
          refine lv_if_eq (tgt := 38) hx hb dX9_meets_31 (by decide) (fun c_6 => ?_) (fun c_6 => ?_)
          · replace hm := ifp hm c_6
            refine lv_iconst (v := (0 : Int32)) hx hb dX9_meets_38 (by decide) ?_
            refine lv_istore_n (lv' := [(3, .int (0 : Int32)), (0, .ref (q 0)), (1, .int p1), (2, .int p2), (4, .int v4)]) hx hb dX9_meets_39 rfl hl (by decide) rfl (fun ls hl => ?_)
            refine lv_iinc (v := (v4 + (1 : Int32))) (lv' := [(4, .int (v4 + (1 : Int32))), (3, .int (0 : Int32)), (0, .ref (q 0)), (1, .int p1), (2, .int p2)]) hx hb dX9_meets_40 hl (k := 4) rfl rfl (by decide) rfl (fun ls hl => ?_)
            refine lv_goto (tgt := 5) hx hb dX9_meets_43 (by decide) ?_
            rw [hrc] at hm
            exact ih _ _ hm _ _ _ hC (lv_sub hl [2, 3, 4, 1, 0] rfl) hx46
          · replace hm := ifn hm c_6
            refine lv_iconst (v := (1 : Int32)) hx hb dX9_meets_34 (by decide) ?_
            refine lv_goto (tgt := 39) hx hb dX9_meets_35 (by decide) ?_
            refine lv_istore_n (lv' := [(3, .int (1 : Int32)), (0, .ref (q 0)), (1, .int p1), (2, .int p2), (4, .int v4)]) hx hb dX9_meets_39 rfl hl (by decide) rfl (fun ls hl => ?_)
            refine lv_iinc (v := (v4 + (1 : Int32))) (lv' := [(4, .int (v4 + (1 : Int32))), (3, .int (1 : Int32)), (0, .ref (q 0)), (1, .int p1), (2, .int p2)]) hx hb dX9_meets_40 hl (k := 4) rfl rfl (by decide) rfl (fun ls hl => ?_)
            refine lv_goto (tgt := 5) hx hb dX9_meets_43 (by decide) ?_
            rw [hrc] at hm
            exact ih _ _ hm _ _ _ hC (lv_sub hl [2, 3, 4, 1, 0] rfl) hx46
set_option maxRecDepth 100000 in
set_option maxHeartbeats 4000000 in
theorem Rc_meets (l : Launch) {D : va_G} {cy : Nat → ClassId} {ad : List Nat} {q : Nat → Nat} {X : va_W} (τ : RS) (a1 : Int32) (a2 : Int32) {o : Int32} (hm : Rm_meets τ a1 a2 = some o) : GM l yX9_meets cX9_meets 5 (some .boolean) Rrm_meets D cy (rwd cy q X) ad [.ref (q 0), .int a1, .int a2] τ (some (.int o)) τ := by
  refine g_start RX9 rfl (by decide) (Nat.le_of_ble_eq_true rfl) ?_
  intro p e s m args below meth c fx hr hC ls hl
  have hx := fx.1
  have hb := fx.2.1
  have hR : 1 ≤ (Rrm_meets).frames ∧ 22 ≤ (Rrm_meets).locals := ⟨Nat.le_refl _, Nat.le_refl _⟩
  have hf : 0 ≤ (Rrm_meets).cells ∧ 0 ≤ (Rrm_meets).slots := ⟨Nat.zero_le _, Nat.zero_le _⟩
  have hl : lv_has ls 5 [(0, .ref (q 0)), (1, .int a1), (2, .int a2)] := hl
  unfold Rm_meets at hm
  refine lv_iconst (v := (1 : Int32)) hx hb dX9_meets_0 (by decide) ?_
  refine lv_istore_n (lv' := [(3, .int (1 : Int32)), (0, .ref (q 0)), (1, .int a1), (2, .int a2)]) hx hb dX9_meets_1 rfl hl (by decide) rfl (fun ls hl => ?_)
  refine lv_iconst (v := (0 : Int32)) hx hb dX9_meets_2 (by decide) ?_
  refine lv_istore (lv' := [(4, .int (0 : Int32)), (3, .int (1 : Int32)), (0, .ref (q 0)), (1, .int a1), (2, .int a2)]) hx hb dX9_meets_3 hl (by decide) rfl (fun ls hl => ?_)
  refine Rw_meets_5 τ fx hR hf a1 a2 fuel (1 : Int32) (0 : Int32) hm _ _ _ hC (lv_sub hl [2, 3, 4, 1, 0] rfl) (fun u_7 H locs ls hm hC hl => ?_)
  refine lv_iload_n hx hb dX9_meets_46 rfl (lv_at hl 0 rfl) ?_
  have h_8 := (gb_in hm).1
  replace hm := (gb_in hm).2
  cases hm
  exact g_zret fx hr h_8 hC rfl dX9_meets_47
def Rs_isLeastMeeting_10 {ρ : Type} (p1 : Int32) (p2 : Int32) (τ : RS) (kx60 : Int32 → Option ρ) (rc : Int32 → Int32 → Option ρ) (v3 : Int32) (v4 : Int32) : Option ρ :=
  if v3 = (0 : Int32) then (kx60 v3) else (if (τ.1 2) ≤ v4 then (kx60 v3) else (if (Rm_holds p2 v4) = (0 : Int32) then (rc (1 : Int32) (v4 + (1 : Int32))) else (b1 (Rm_meets τ p1 (p2 &&& (((1 : Int32) <<< (v4 &&& 31)) ^^^ (-1 : Int32)))) (fun r_7 => if r_7 = (0 : Int32) then (rc (1 : Int32) (v4 + (1 : Int32))) else (rc (0 : Int32) (v4 + (1 : Int32)))))))
def Rm_isLeastMeeting (τ : RS) (a1 : Int32) (a2 : Int32) : Option Int32 :=
  b1 (Rm_meets τ a1 a2) (fun r_2 => it2 (Rs_isLeastMeeting_10 a1 a2 τ (fun u_9 => gb u_9 (some u_9))) fuel r_2 (0 : Int32))
abbrev Rrm_isLeastMeeting : Room := { frames := 2, cells := 0, slots := 0, locals := 46 }
set_option maxRecDepth 100000 in
set_option maxHeartbeats 4000000 in
theorem Rw_isLeastMeeting_10 {ρ : Type} {out : ρ} {p : Program} {l : Launch} {e : Env} {R : Room} {s : State} {m : MethodId} {args : Array Value} {below : List Frame} {meth : Method} {c : Code} {cells slots : Nat} {Q : State → Prop} {D : va_G} {cy : Nat → ClassId} {ad : List Nat} {q : Nat → Nat} {X : va_W} (τ : RS) (fx : FX p s m args meth c cX9_isLeastMeeting 5 RX9 D cy) (hR : 2 ≤ R.frames ∧ 46 ≤ R.locals) (hf : cells ≤ R.cells ∧ slots ≤ R.slots) (p1 : Int32) (p2 : Int32) {kx60 : Int32 → Option ρ} :
    ∀ (n : Nat) (v3 : Int32) (v4 : Int32), it2 (Rs_isLeastMeeting_10 p1 p2 τ kx60) n v3 v4 = some out → ∀ (H : Heap) (locs : List Loc) (ls : Array Slot), GC D (rwd cy q X) ad s τ H locs → lv_has ls 5 [(0, .ref (q 0)), (1, .int p1), (2, .int p2), (3, .int v3), (4, .int v4)] → (∀ (u3 : Int32) (H : Heap) (locs : List Loc) (ls : Array Slot), kx60 u3 = some out → GC D (rwd cy q X) ad s τ H locs → lv_has ls 5 [(3, .int u3)] → W p l e R s m args below meth c H locs cells slots Q (F0 m 60 ls [])) → W p l e R s m args below meth c H locs cells slots Q (F0 m 10 ls []) := by
  have hx := fx.1
  have hb := fx.2.1
  intro n
  induction n with
  | zero => intro v3 v4 hm; exact (it2_z hm).elim
  | succ n ih =>
    intro v3 v4 hm H locs ls hC hl hx60
    obtain ⟨rc, hrc⟩ : ∃ z, z = it2 (Rs_isLeastMeeting_10 p1 p2 τ kx60) n := ⟨_, rfl⟩
    replace hm : Rs_isLeastMeeting_10 p1 p2 τ kx60 rc v3 v4 = some out := by rw [hrc]; exact hm
    unfold Rs_isLeastMeeting_10 at hm
    refine lv_iload_n hx hb dX9_isLeastMeeting_10 rfl (lv_at hl 3 rfl) ?_
    refine lv_if_eq (tgt := 60) hx hb dX9_isLeastMeeting_11 (by decide) (fun c_3 => ?_) (fun c_3 => ?_)
    · replace hm := ifp hm c_3
      exact hx60 _ _ _ _ hm hC (lv_sub hl [3] rfl)
    · replace hm := ifn hm c_3
      refine lv_iload hx hb dX9_isLeastMeeting_14 (lv_at hl 4 rfl) ?_
      refine lv_aload_n hx hb dX9_isLeastMeeting_16 rfl (lv_at hl 0 rfl) ?_
      refine Rg_2 fx hC dX9_isLeastMeeting_17 ?_
      refine lv_icmp_ge (tgt := 60) hx hb dX9_isLeastMeeting_20 (by decide) (fun c_4 => ?_) (fun c_4 => ?_)
      · replace hm := ifp hm c_4
        exact hx60 _ _ _ _ hm hC (lv_sub hl [3] rfl)
      · replace hm := ifn hm c_4
        refine lv_iload_n hx hb dX9_isLeastMeeting_23 rfl (lv_at hl 2 rfl) ?_
        refine lv_iload hx hb dX9_isLeastMeeting_24 (lv_at hl 4 rfl) ?_
        refine g_callSi (As := [.int p2, .int v4]) (rest := []) fx hC rw_w (Rc_holds l rw_w τ p2 v4) k_323 Rk_holds Rh_holds ⟨rfl, rfl⟩ ⟨Nat.le_trans (Nat.le_of_ble_eq_true rfl) hR.1, Nat.le_trans (Nat.le_of_ble_eq_true rfl) hR.2⟩ hf rfl hl.1 rfl (Nat.le_of_ble_eq_true rfl) dX9_isLeastMeeting_26 (fun H locs hC => ?_)
        refine lv_if_eq (tgt := 48) hx hb dX9_isLeastMeeting_29 (by decide) (fun c_5 => ?_) (fun c_5 => ?_)
        · replace hm := ifp hm c_5
          refine lv_iconst (v := (1 : Int32)) hx hb dX9_isLeastMeeting_48 (by decide) ?_
          refine lv_goto (tgt := 53) hx hb dX9_isLeastMeeting_49 (by decide) ?_
          refine lv_istore_n (lv' := [(3, .int (1 : Int32)), (0, .ref (q 0)), (1, .int p1), (2, .int p2), (4, .int v4)]) hx hb dX9_isLeastMeeting_53 rfl hl (by decide) rfl (fun ls hl => ?_)
          refine lv_iinc (v := (v4 + (1 : Int32))) (lv' := [(4, .int (v4 + (1 : Int32))), (3, .int (1 : Int32)), (0, .ref (q 0)), (1, .int p1), (2, .int p2)]) hx hb dX9_isLeastMeeting_54 hl (k := 4) rfl rfl (by decide) rfl (fun ls hl => ?_)
          refine lv_goto (tgt := 10) hx hb dX9_isLeastMeeting_57 (by decide) ?_
          rw [hrc] at hm
          exact ih _ _ hm _ _ _ hC (lv_sub hl [2, 3, 4, 1, 0] rfl) hx60
        · replace hm := ifn hm c_5
          refine lv_aload_n hx hb dX9_isLeastMeeting_32 rfl (lv_at hl 0 rfl) ?_
          refine lv_iload_n hx hb dX9_isLeastMeeting_33 rfl (lv_at hl 1 rfl) ?_
          refine lv_iload_n hx hb dX9_isLeastMeeting_34 rfl (lv_at hl 2 rfl) ?_
          refine lv_iconst (v := (1 : Int32)) hx hb dX9_isLeastMeeting_35 (by decide) ?_
          refine lv_iload hx hb dX9_isLeastMeeting_36 (lv_at hl 4 rfl) ?_
          refine lv_ishl hx hb dX9_isLeastMeeting_38 ?_
          refine lv_iconst (v := (-1 : Int32)) hx hb dX9_isLeastMeeting_39 (by decide) ?_
          refine lv_ixor hx hb dX9_isLeastMeeting_40 ?_
          refine lv_iand hx hb dX9_isLeastMeeting_41 ?_
          obtain ⟨r_7, e_6, hm⟩ := b1_in hm
          refine g_callVi (k0 := 0) (ci := 9) (As := [.int p1, .int (p2 &&& (((1 : Int32) <<< (v4 &&& 31)) ^^^ (-1 : Int32)))]) (rest := []) fx hC rw_w (Rc_meets l τ p1 (p2 &&& (((1 : Int32) <<< (v4 &&& 31)) ^^^ (-1 : Int32))) e_6) k_602 Rk_meets Rh_meets rfl rfl rfl ⟨rfl, rfl⟩ ⟨Nat.le_trans (Nat.le_of_ble_eq_true rfl) hR.1, Nat.le_trans (Nat.le_of_ble_eq_true rfl) hR.2⟩ hf rfl hl.1 rfl (Nat.le_of_ble_eq_true rfl) dX9_isLeastMeeting_42 (fun H locs hC => ?_)
          refine lv_if_ne (tgt := 52) hx hb dX9_isLeastMeeting_45 (by decide) (fun c_8 => ?_) (fun c_8 => ?_)
          · replace hm := ifn hm c_8
            refine lv_iconst (v := (0 : Int32)) hx hb dX9_isLeastMeeting_52 (by decide) ?_
            refine lv_istore_n (lv' := [(3, .int (0 : Int32)), (0, .ref (q 0)), (1, .int p1), (2, .int p2), (4, .int v4)]) hx hb dX9_isLeastMeeting_53 rfl hl (by decide) rfl (fun ls hl => ?_)
            refine lv_iinc (v := (v4 + (1 : Int32))) (lv' := [(4, .int (v4 + (1 : Int32))), (3, .int (0 : Int32)), (0, .ref (q 0)), (1, .int p1), (2, .int p2)]) hx hb dX9_isLeastMeeting_54 hl (k := 4) rfl rfl (by decide) rfl (fun ls hl => ?_)
            refine lv_goto (tgt := 10) hx hb dX9_isLeastMeeting_57 (by decide) ?_
            rw [hrc] at hm
            exact ih _ _ hm _ _ _ hC (lv_sub hl [2, 3, 4, 1, 0] rfl) hx60
          · replace hm := ifp hm c_8
            refine lv_iconst (v := (1 : Int32)) hx hb dX9_isLeastMeeting_48 (by decide) ?_
            refine lv_goto (tgt := 53) hx hb dX9_isLeastMeeting_49 (by decide) ?_
            refine lv_istore_n (lv' := [(3, .int (1 : Int32)), (0, .ref (q 0)), (1, .int p1), (2, .int p2), (4, .int v4)]) hx hb dX9_isLeastMeeting_53 rfl hl (by decide) rfl (fun ls hl => ?_)
            refine lv_iinc (v := (v4 + (1 : Int32))) (lv' := [(4, .int (v4 + (1 : Int32))), (3, .int (1 : Int32)), (0, .ref (q 0)), (1, .int p1), (2, .int p2)]) hx hb dX9_isLeastMeeting_54 hl (k := 4) rfl rfl (by decide) rfl (fun ls hl => ?_)
            refine lv_goto (tgt := 10) hx hb dX9_isLeastMeeting_57 (by decide) ?_
            rw [hrc] at hm
            exact ih _ _ hm _ _ _ hC (lv_sub hl [2, 3, 4, 1, 0] rfl) hx60
set_option maxRecDepth 100000 in
set_option maxHeartbeats 4000000 in
theorem Rc_isLeastMeeting (l : Launch) {D : va_G} {cy : Nat → ClassId} {ad : List Nat} {q : Nat → Nat} {X : va_W} (τ : RS) (a1 : Int32) (a2 : Int32) {o : Int32} (hm : Rm_isLeastMeeting τ a1 a2 = some o) : GM l yX9_isLeastMeeting cX9_isLeastMeeting 5 (some .boolean) Rrm_isLeastMeeting D cy (rwd cy q X) ad [.ref (q 0), .int a1, .int a2] τ (some (.int o)) τ := by
  refine g_start RX9 rfl (by decide) (Nat.le_of_ble_eq_true rfl) ?_
  intro p e s m args below meth c fx hr hC ls hl
  have hx := fx.1
  have hb := fx.2.1
  have hR : 2 ≤ (Rrm_isLeastMeeting).frames ∧ 46 ≤ (Rrm_isLeastMeeting).locals := ⟨Nat.le_refl _, Nat.le_refl _⟩
  have hf : 0 ≤ (Rrm_isLeastMeeting).cells ∧ 0 ≤ (Rrm_isLeastMeeting).slots := ⟨Nat.zero_le _, Nat.zero_le _⟩
  have hl : lv_has ls 5 [(0, .ref (q 0)), (1, .int a1), (2, .int a2)] := hl
  unfold Rm_isLeastMeeting at hm
  refine lv_aload_n hx hb dX9_isLeastMeeting_0 rfl (lv_at hl 0 rfl) ?_
  refine lv_iload_n hx hb dX9_isLeastMeeting_1 rfl (lv_at hl 1 rfl) ?_
  refine lv_iload_n hx hb dX9_isLeastMeeting_2 rfl (lv_at hl 2 rfl) ?_
  obtain ⟨r_2, e_1, hm⟩ := b1_in hm
  refine g_callVi (k0 := 0) (ci := 9) (As := [.int a1, .int a2]) (rest := []) fx hC rw_w (Rc_meets l τ a1 a2 e_1) k_602 Rk_meets Rh_meets rfl rfl rfl ⟨rfl, rfl⟩ ⟨Nat.le_trans (Nat.le_of_ble_eq_true rfl) hR.1, Nat.le_trans (Nat.le_of_ble_eq_true rfl) hR.2⟩ hf rfl hl.1 rfl (Nat.le_of_ble_eq_true rfl) dX9_isLeastMeeting_3 (fun H locs hC => ?_)
  refine lv_istore_n (lv' := [(3, .int r_2), (0, .ref (q 0)), (1, .int a1), (2, .int a2)]) hx hb dX9_isLeastMeeting_6 rfl hl (by decide) rfl (fun ls hl => ?_)
  refine lv_iconst (v := (0 : Int32)) hx hb dX9_isLeastMeeting_7 (by decide) ?_
  refine lv_istore (lv' := [(4, .int (0 : Int32)), (3, .int r_2), (0, .ref (q 0)), (1, .int a1), (2, .int a2)]) hx hb dX9_isLeastMeeting_8 hl (by decide) rfl (fun ls hl => ?_)
  refine Rw_isLeastMeeting_10 τ fx hR hf a1 a2 fuel r_2 (0 : Int32) hm _ _ _ hC (lv_sub hl [2, 3, 4, 1, 0] rfl) (fun u_9 H locs ls hm hC hl => ?_)
  refine lv_iload_n hx hb dX9_isLeastMeeting_60 rfl (lv_at hl 0 rfl) ?_
  have h_10 := (gb_in hm).1
  replace hm := (gb_in hm).2
  cases hm
  exact g_zret fx hr h_10 hC rfl dX9_isLeastMeeting_61
def Rs_thin_25 {ρ : Type} (p1 : Int32) (p2 : Int32) (τ : RS) (kx46 : Option ρ) (kx55 : Option ρ) (rc : Int32 → Option ρ) (v3 : Int32) : Option ρ :=
  if (4096 : Int32) ≤ v3 then (kx55) else (if p1 = (2 : Int32) then (b1 (Rm_isWay τ p2 v3) (fun r_6 => if r_6 = (0 : Int32) then (rc (v3 + (1 : Int32))) else (kx46))) else (kx55))
def Rs_thin_57 {ρ : Type} (p1 : Int32) (p2 : Int32) (kx121 : RS → Option ρ) (rc : Int32 → RS → Option ρ) (v3 : Int32) (τ : RS) : Option ρ :=
  if (4096 : Int32) ≤ v3 then (kx121  τ) else (if p1 = (2 : Int32) then (if (Rm_net τ) ≤ v3 then (gi v3 4096 (nm (rA τ 20 (v3).toNatClampNeg ((0 : Int32) &&& 1)) (fun τ_23 => rc (v3 + (1 : Int32)) τ_23))) else (b1 (Rm_isLeastMeeting τ p2 v3) (fun r_26 => if r_26 = (0 : Int32) then (gi v3 4096 (nm (rA τ 20 (v3).toNatClampNeg ((0 : Int32) &&& 1)) (fun τ_29 => rc (v3 + (1 : Int32)) τ_29))) else (gi v3 4096 (nm (rA τ 20 (v3).toNatClampNeg ((1 : Int32) &&& 1)) (fun τ_32 => rc (v3 + (1 : Int32)) τ_32)))))) else (if p1 = (0 : Int32) then (b1 (Rm_isThin τ p2 v3 (1 : Int32)) (fun r_17 => gi v3 4096 (nm (rA τ 20 (v3).toNatClampNeg (r_17 &&& 1)) (fun τ_19 => rc (v3 + (1 : Int32)) τ_19)))) else (b1 (Rm_isThin τ p2 v3 (0 : Int32)) (fun r_12 => gi v3 4096 (nm (rA τ 20 (v3).toNatClampNeg (r_12 &&& 1)) (fun τ_14 => rc (v3 + (1 : Int32)) τ_14))))))
def Rm_thin (τ : RS) (a1 : Int32) (a2 : Int32) : Option (Int32 × RS) :=
  if (Rm_in a1 (0 : Int32) (2 : Int32)) = (0 : Int32) then (some ((-2 : Int32), τ)) else (if (Rm_isFamily τ a2) = (0 : Int32) then (some ((-2 : Int32), τ)) else (it1 (Rs_thin_25 a1 a2 τ (some ((-3 : Int32), τ)) (it2 (Rs_thin_57 a1 a2 (fun τ_34 => b2 (Rm_handed τ_34) (fun r_36 τ_37 => some (r_36, τ_37)))) fuel (0 : Int32) τ)) fuel (Rm_net τ)))
abbrev Rrm_thin : Room := { frames := 3, cells := 0, slots := 0, locals := 70 }
set_option maxRecDepth 100000 in
set_option maxHeartbeats 4000000 in
theorem Rw_thin_25 {ρ : Type} {out : ρ} {p : Program} {l : Launch} {e : Env} {R : Room} {s : State} {m : MethodId} {args : Array Value} {below : List Frame} {meth : Method} {c : Code} {cells slots : Nat} {Q : State → Prop} {D : va_G} {cy : Nat → ClassId} {ad : List Nat} {q : Nat → Nat} {X : va_W} (τ : RS) (fx : FX p s m args meth c cX9_thin 4 RX9 D cy) (hR : 3 ≤ R.frames ∧ 70 ≤ R.locals) (hf : cells ≤ R.cells ∧ slots ≤ R.slots) (p1 : Int32) (p2 : Int32) {kx46 : Option ρ} {kx55 : Option ρ} :
    ∀ (n : Nat) (v3 : Int32), it1 (Rs_thin_25 p1 p2 τ kx46 kx55) n v3 = some out → ∀ (H : Heap) (locs : List Loc) (ls : Array Slot), GC D (rwd cy q X) ad s τ H locs → lv_has ls 4 [(0, .ref (q 0)), (1, .int p1), (2, .int p2), (3, .int v3)] → (∀ (H : Heap) (locs : List Loc) (ls : Array Slot), kx46 = some out → GC D (rwd cy q X) ad s τ H locs → lv_has ls 4 [] → W p l e R s m args below meth c H locs cells slots Q (F0 m 46 ls [])) → (∀ (H : Heap) (locs : List Loc) (ls : Array Slot), kx55 = some out → GC D (rwd cy q X) ad s τ H locs → lv_has ls 4 [(0, .ref (q 0)), (1, .int p1), (2, .int p2)] → W p l e R s m args below meth c H locs cells slots Q (F0 m 55 ls [])) → W p l e R s m args below meth c H locs cells slots Q (F0 m 25 ls []) := by
  have hx := fx.1
  have hb := fx.2.1
  intro n
  induction n with
  | zero => intro v3 hm; exact (it1_z hm).elim
  | succ n ih =>
    intro v3 hm H locs ls hC hl hx46 hx55
    obtain ⟨rc, hrc⟩ : ∃ z, z = it1 (Rs_thin_25 p1 p2 τ kx46 kx55) n := ⟨_, rfl⟩
    replace hm : Rs_thin_25 p1 p2 τ kx46 kx55 rc v3 = some out := by rw [hrc]; exact hm
    unfold Rs_thin_25 at hm
    refine lv_iload_n hx hb dX9_thin_25 rfl (lv_at hl 3 rfl) ?_
    refine lv_sipush (v := (4096 : Int32)) hx hb dX9_thin_26 (by decide) ?_
    refine lv_icmp_ge (tgt := 55) hx hb dX9_thin_29 (by decide) (fun c_3 => ?_) (fun c_3 => ?_)
    · replace hm := ifp hm c_3
      exact hx55 _ _ _ hm hC (lv_sub hl [0, 1, 2] rfl)
    · replace hm := ifn hm c_3
      refine lv_iload_n hx hb dX9_thin_32 rfl (lv_at hl 1 rfl) ?_
      refine lv_iconst (v := (2 : Int32)) hx hb dX9_thin_33 (by decide) ?_
      refine lv_icmp_ne (tgt := 55) hx hb dX9_thin_34 (by decide) (fun c_4 => ?_) (fun c_4 => ?_)
      · replace hm := ifn hm c_4
        exact hx55 _ _ _ hm hC (lv_sub hl [0, 1, 2] rfl)
      · replace hm := ifp hm c_4
        refine lv_aload_n hx hb dX9_thin_37 rfl (lv_at hl 0 rfl) ?_
        refine lv_iload_n hx hb dX9_thin_38 rfl (lv_at hl 2 rfl) ?_
        refine lv_iload_n hx hb dX9_thin_39 rfl (lv_at hl 3 rfl) ?_
        obtain ⟨r_6, e_5, hm⟩ := b1_in hm
        refine g_callVi (k0 := 0) (ci := 9) (As := [.int p2, .int v3]) (rest := []) fx hC rw_w (Rc_isWay l τ p2 v3 e_5) k_453 Rk_isWay Rh_isWay rfl rfl rfl ⟨rfl, rfl⟩ ⟨Nat.le_trans (Nat.le_of_ble_eq_true rfl) hR.1, Nat.le_trans (Nat.le_of_ble_eq_true rfl) hR.2⟩ hf rfl hl.1 rfl (Nat.le_of_ble_eq_true rfl) dX9_thin_40 (fun H locs hC => ?_)
        refine lv_if_eq (tgt := 49) hx hb dX9_thin_43 (by decide) (fun c_7 => ?_) (fun c_7 => ?_)
        · replace hm := ifp hm c_7
          refine lv_iinc (v := (v3 + (1 : Int32))) (lv' := [(3, .int (v3 + (1 : Int32))), (0, .ref (q 0)), (1, .int p1), (2, .int p2)]) hx hb dX9_thin_49 hl (k := 3) rfl rfl (by decide) rfl (fun ls hl => ?_)
          refine lv_goto (tgt := 25) hx hb dX9_thin_52 (by decide) ?_
          rw [hrc] at hm
          exact ih _ hm _ _ _ hC (lv_sub hl [1, 2, 3, 0] rfl) hx46 hx55
        · replace hm := ifn hm c_7
          exact hx46 _ _ _ hm hC (lv_sub hl [] rfl)
set_option maxRecDepth 100000 in
set_option maxHeartbeats 4000000 in
theorem Rw_thin_57 {ρ : Type} {out : ρ} {p : Program} {l : Launch} {e : Env} {R : Room} {s : State} {m : MethodId} {args : Array Value} {below : List Frame} {meth : Method} {c : Code} {cells slots : Nat} {Q : State → Prop} {D : va_G} {cy : Nat → ClassId} {ad : List Nat} {q : Nat → Nat} {X : va_W} (fx : FX p s m args meth c cX9_thin 4 RX9 D cy) (hR : 3 ≤ R.frames ∧ 70 ≤ R.locals) (hf : cells ≤ R.cells ∧ slots ≤ R.slots) (p1 : Int32) (p2 : Int32) {kx121 : RS → Option ρ} :
    ∀ (n : Nat) (v3 : Int32) (τ : RS), it2 (Rs_thin_57 p1 p2 kx121) n v3 τ = some out → ∀ (H : Heap) (locs : List Loc) (ls : Array Slot), GC D (rwd cy q X) ad s τ H locs → lv_has ls 4 [(0, .ref (q 0)), (1, .int p1), (2, .int p2), (3, .int v3)] → (∀ (τ2 : RS) (H : Heap) (locs : List Loc) (ls : Array Slot), kx121 τ2 = some out → GC D (rwd cy q X) ad s τ2 H locs → lv_has ls 4 [(0, .ref (q 0))] → W p l e R s m args below meth c H locs cells slots Q (F0 m 121 ls [])) → W p l e R s m args below meth c H locs cells slots Q (F0 m 57 ls []) := by
  have hx := fx.1
  have hb := fx.2.1
  intro n
  induction n with
  | zero => intro v3 τ hm; exact (it2_z hm).elim
  | succ n ih =>
    intro v3 τ hm H locs ls hC hl hx121
    obtain ⟨rc, hrc⟩ : ∃ z, z = it2 (Rs_thin_57 p1 p2 kx121) n := ⟨_, rfl⟩
    replace hm : Rs_thin_57 p1 p2 kx121 rc v3 τ = some out := by rw [hrc]; exact hm
    unfold Rs_thin_57 at hm
    refine lv_iload_n hx hb dX9_thin_57 rfl (lv_at hl 3 rfl) ?_
    refine lv_sipush (v := (4096 : Int32)) hx hb dX9_thin_58 (by decide) ?_
    refine lv_icmp_ge (tgt := 121) hx hb dX9_thin_61 (by decide) (fun c_8 => ?_) (fun c_8 => ?_)
    · replace hm := ifp hm c_8
      exact hx121 _ _ _ _ hm hC (lv_sub hl [0] rfl)
    · replace hm := ifn hm c_8
      refine lv_aload_n hx hb dX9_thin_64 rfl (lv_at hl 0 rfl) ?_
      refine Rg_20 fx hC dX9_thin_65 ?_
      refine lv_iload_n hx hb dX9_thin_68 rfl (lv_at hl 3 rfl) ?_
      refine lv_iload_n hx hb dX9_thin_69 rfl (lv_at hl 1 rfl) ?_
      refine lv_iconst (v := (2 : Int32)) hx hb dX9_thin_70 (by decide) ?_
      refine lv_icmp_ne (tgt := 99) hx hb dX9_thin_71 (by decide) (fun c_9 => ?_) (fun c_9 => ?_)
      · replace hm := ifn hm c_9
        refine lv_aload_n hx hb dX9_thin_99 rfl (lv_at hl 0 rfl) ?_
        refine lv_iload_n hx hb dX9_thin_100 rfl (lv_at hl 2 rfl) ?_
        refine lv_iload_n hx hb dX9_thin_101 rfl (lv_at hl 3 rfl) ?_
        refine lv_iload_n hx hb dX9_thin_102 rfl (lv_at hl 1 rfl) ?_
        refine lv_if_ne (tgt := 110) hx hb dX9_thin_103 (by decide) (fun c_10 => ?_) (fun c_10 => ?_)
        · replace hm := ifn hm c_10
          refine lv_iconst (v := (0 : Int32)) hx hb dX9_thin_110 (by decide) ?_
          obtain ⟨r_12, e_11, hm⟩ := b1_in hm
          refine g_callVi (k0 := 0) (ci := 9) (As := [.int p2, .int v3, .int (0 : Int32)]) (rest := [.int v3, .ref (q 20)]) fx hC rw_w (Rc_isThin l τ p2 v3 (0 : Int32) e_11) k_606 Rk_isThin Rh_isThin rfl rfl rfl ⟨rfl, rfl⟩ ⟨Nat.le_trans (Nat.le_of_ble_eq_true rfl) hR.1, Nat.le_trans (Nat.le_of_ble_eq_true rfl) hR.2⟩ hf rfl hl.1 rfl (Nat.le_of_ble_eq_true rfl) dX9_thin_111 (fun H locs hC => ?_)
          have h_13 := (gi_in hm).1
          replace hm := (gi_in hm).2
          refine Rs_20 fx hC h_13 dX9_thin_114 (fun H locs hC => ?_)
          obtain ⟨τ_14, e_15⟩ : ∃ z, z = (rA τ 20 (v3).toNatClampNeg (r_12 &&& 1)) := ⟨_, rfl⟩
          rw [← e_15] at hC
          replace hm := nm_in hm e_15
          refine lv_iinc (v := (v3 + (1 : Int32))) (lv' := [(3, .int (v3 + (1 : Int32))), (0, .ref (q 0)), (1, .int p1), (2, .int p2)]) hx hb dX9_thin_115 hl (k := 3) rfl rfl (by decide) rfl (fun ls hl => ?_)
          refine lv_goto (tgt := 57) hx hb dX9_thin_118 (by decide) ?_
          rw [hrc] at hm
          exact ih _ _ hm _ _ _ hC (lv_sub hl [1, 2, 3, 0] rfl) hx121
        · replace hm := ifp hm c_10
          refine lv_iconst (v := (1 : Int32)) hx hb dX9_thin_106 (by decide) ?_
          refine lv_goto (tgt := 111) hx hb dX9_thin_107 (by decide) ?_
          obtain ⟨r_17, e_16, hm⟩ := b1_in hm
          refine g_callVi (k0 := 0) (ci := 9) (As := [.int p2, .int v3, .int (1 : Int32)]) (rest := [.int v3, .ref (q 20)]) fx hC rw_w (Rc_isThin l τ p2 v3 (1 : Int32) e_16) k_606 Rk_isThin Rh_isThin rfl rfl rfl ⟨rfl, rfl⟩ ⟨Nat.le_trans (Nat.le_of_ble_eq_true rfl) hR.1, Nat.le_trans (Nat.le_of_ble_eq_true rfl) hR.2⟩ hf rfl hl.1 rfl (Nat.le_of_ble_eq_true rfl) dX9_thin_111 (fun H locs hC => ?_)
          have h_18 := (gi_in hm).1
          replace hm := (gi_in hm).2
          refine Rs_20 fx hC h_18 dX9_thin_114 (fun H locs hC => ?_)
          obtain ⟨τ_19, e_20⟩ : ∃ z, z = (rA τ 20 (v3).toNatClampNeg (r_17 &&& 1)) := ⟨_, rfl⟩
          rw [← e_20] at hC
          replace hm := nm_in hm e_20
          refine lv_iinc (v := (v3 + (1 : Int32))) (lv' := [(3, .int (v3 + (1 : Int32))), (0, .ref (q 0)), (1, .int p1), (2, .int p2)]) hx hb dX9_thin_115 hl (k := 3) rfl rfl (by decide) rfl (fun ls hl => ?_)
          refine lv_goto (tgt := 57) hx hb dX9_thin_118 (by decide) ?_
          rw [hrc] at hm
          exact ih _ _ hm _ _ _ hC (lv_sub hl [1, 2, 3, 0] rfl) hx121
      · replace hm := ifp hm c_9
        refine lv_iload_n hx hb dX9_thin_74 rfl (lv_at hl 3 rfl) ?_
        refine lv_aload_n hx hb dX9_thin_75 rfl (lv_at hl 0 rfl) ?_
        refine g_callVi (k0 := 0) (ci := 9) (As := []) (rest := [.int v3, .int v3, .ref (q 20)]) fx hC rw_w (Rc_net l τ) k_233 Rk_net Rh_net rfl rfl rfl ⟨rfl, rfl⟩ ⟨Nat.le_trans (Nat.le_of_ble_eq_true rfl) hR.1, Nat.le_trans (Nat.le_of_ble_eq_true rfl) hR.2⟩ hf rfl hl.1 rfl (Nat.le_of_ble_eq_true rfl) dX9_thin_76 (fun H locs hC => ?_)
        refine lv_icmp_ge (tgt := 95) hx hb dX9_thin_79 (by decide) (fun c_21 => ?_) (fun c_21 => ?_)
        · replace hm := ifp hm c_21
          refine lv_iconst (v := (0 : Int32)) hx hb dX9_thin_95 (by decide) ?_
          refine lv_goto (tgt := 114) hx hb dX9_thin_96 (by decide) ?_
          have h_22 := (gi_in hm).1
          replace hm := (gi_in hm).2
          refine Rs_20 fx hC h_22 dX9_thin_114 (fun H locs hC => ?_)
          obtain ⟨τ_23, e_24⟩ : ∃ z, z = (rA τ 20 (v3).toNatClampNeg ((0 : Int32) &&& 1)) := ⟨_, rfl⟩
          rw [← e_24] at hC
          replace hm := nm_in hm e_24
          refine lv_iinc (v := (v3 + (1 : Int32))) (lv' := [(3, .int (v3 + (1 : Int32))), (0, .ref (q 0)), (1, .int p1), (2, .int p2)]) hx hb dX9_thin_115 hl (k := 3) rfl rfl (by decide) rfl (fun ls hl => ?_)
          refine lv_goto (tgt := 57) hx hb dX9_thin_118 (by decide) ?_
          rw [hrc] at hm
          exact ih _ _ hm _ _ _ hC (lv_sub hl [1, 2, 3, 0] rfl) hx121
        · replace hm := ifn hm c_21
          refine lv_aload_n hx hb dX9_thin_82 rfl (lv_at hl 0 rfl) ?_
          refine lv_iload_n hx hb dX9_thin_83 rfl (lv_at hl 2 rfl) ?_
          refine lv_iload_n hx hb dX9_thin_84 rfl (lv_at hl 3 rfl) ?_
          obtain ⟨r_26, e_25, hm⟩ := b1_in hm
          refine g_callVi (k0 := 0) (ci := 9) (As := [.int p2, .int v3]) (rest := [.int v3, .ref (q 20)]) fx hC rw_w (Rc_isLeastMeeting l τ p2 v3 e_25) k_598 Rk_isLeastMeeting Rh_isLeastMeeting rfl rfl rfl ⟨rfl, rfl⟩ ⟨Nat.le_trans (Nat.le_of_ble_eq_true rfl) hR.1, Nat.le_trans (Nat.le_of_ble_eq_true rfl) hR.2⟩ hf rfl hl.1 rfl (Nat.le_of_ble_eq_true rfl) dX9_thin_85 (fun H locs hC => ?_)
          refine lv_if_eq (tgt := 95) hx hb dX9_thin_88 (by decide) (fun c_27 => ?_) (fun c_27 => ?_)
          · replace hm := ifp hm c_27
            refine lv_iconst (v := (0 : Int32)) hx hb dX9_thin_95 (by decide) ?_
            refine lv_goto (tgt := 114) hx hb dX9_thin_96 (by decide) ?_
            have h_28 := (gi_in hm).1
            replace hm := (gi_in hm).2
            refine Rs_20 fx hC h_28 dX9_thin_114 (fun H locs hC => ?_)
            obtain ⟨τ_29, e_30⟩ : ∃ z, z = (rA τ 20 (v3).toNatClampNeg ((0 : Int32) &&& 1)) := ⟨_, rfl⟩
            rw [← e_30] at hC
            replace hm := nm_in hm e_30
            refine lv_iinc (v := (v3 + (1 : Int32))) (lv' := [(3, .int (v3 + (1 : Int32))), (0, .ref (q 0)), (1, .int p1), (2, .int p2)]) hx hb dX9_thin_115 hl (k := 3) rfl rfl (by decide) rfl (fun ls hl => ?_)
            refine lv_goto (tgt := 57) hx hb dX9_thin_118 (by decide) ?_
            rw [hrc] at hm
            exact ih _ _ hm _ _ _ hC (lv_sub hl [1, 2, 3, 0] rfl) hx121
          · replace hm := ifn hm c_27
            refine lv_iconst (v := (1 : Int32)) hx hb dX9_thin_91 (by decide) ?_
            refine lv_goto (tgt := 114) hx hb dX9_thin_92 (by decide) ?_
            have h_31 := (gi_in hm).1
            replace hm := (gi_in hm).2
            refine Rs_20 fx hC h_31 dX9_thin_114 (fun H locs hC => ?_)
            obtain ⟨τ_32, e_33⟩ : ∃ z, z = (rA τ 20 (v3).toNatClampNeg ((1 : Int32) &&& 1)) := ⟨_, rfl⟩
            rw [← e_33] at hC
            replace hm := nm_in hm e_33
            refine lv_iinc (v := (v3 + (1 : Int32))) (lv' := [(3, .int (v3 + (1 : Int32))), (0, .ref (q 0)), (1, .int p1), (2, .int p2)]) hx hb dX9_thin_115 hl (k := 3) rfl rfl (by decide) rfl (fun ls hl => ?_)
            refine lv_goto (tgt := 57) hx hb dX9_thin_118 (by decide) ?_
            rw [hrc] at hm
            exact ih _ _ hm _ _ _ hC (lv_sub hl [1, 2, 3, 0] rfl) hx121
set_option maxRecDepth 100000 in
set_option maxHeartbeats 4000000 in
theorem Rc_thin (l : Launch) {D : va_G} {cy : Nat → ClassId} {ad : List Nat} {q : Nat → Nat} {X : va_W} (τ : RS) (a1 : Int32) (a2 : Int32) {o : Int32 × RS} (hm : Rm_thin τ a1 a2 = some o) : GM l yX9_thin cX9_thin 4 (some .int) Rrm_thin D cy (rwd cy q X) ad [.ref (q 0), .int a1, .int a2] τ (some (.int o.1)) o.2 := by
  refine g_start RX9 rfl (by decide) (Nat.le_of_ble_eq_true rfl) ?_
  intro p e s m args below meth c fx hr hC ls hl
  have hx := fx.1
  have hb := fx.2.1
  have hR : 3 ≤ (Rrm_thin).frames ∧ 70 ≤ (Rrm_thin).locals := ⟨Nat.le_refl _, Nat.le_refl _⟩
  have hf : 0 ≤ (Rrm_thin).cells ∧ 0 ≤ (Rrm_thin).slots := ⟨Nat.zero_le _, Nat.zero_le _⟩
  have hl : lv_has ls 4 [(0, .ref (q 0)), (1, .int a1), (2, .int a2)] := hl
  unfold Rm_thin at hm
  refine lv_iload_n hx hb dX9_thin_0 rfl (lv_at hl 1 rfl) ?_
  refine lv_iconst (v := (0 : Int32)) hx hb dX9_thin_1 (by decide) ?_
  refine lv_iconst (v := (2 : Int32)) hx hb dX9_thin_2 (by decide) ?_
  refine g_callSi (As := [.int a1, .int (0 : Int32), .int (2 : Int32)]) (rest := []) fx hC rw_w (Rc_in l rw_w τ a1 (0 : Int32) (2 : Int32)) k_140 Rk_in Rh_in ⟨rfl, rfl⟩ ⟨Nat.le_trans (Nat.le_of_ble_eq_true rfl) hR.1, Nat.le_trans (Nat.le_of_ble_eq_true rfl) hR.2⟩ hf rfl hl.1 rfl (Nat.le_of_ble_eq_true rfl) dX9_thin_3 (fun H locs hC => ?_)
  refine lv_if_eq (tgt := 17) hx hb dX9_thin_6 (by decide) (fun c_1 => ?_) (fun c_1 => ?_)
  · replace hm := ifp hm c_1
    refine lv_bipush (v := (-2 : Int32)) hx hb dX9_thin_17 (by decide) ?_
    cases hm
    exact g_iret fx hr hC rfl dX9_thin_19
  · replace hm := ifn hm c_1
    refine lv_aload_n hx hb dX9_thin_9 rfl (lv_at hl 0 rfl) ?_
    refine lv_iload_n hx hb dX9_thin_10 rfl (lv_at hl 2 rfl) ?_
    refine g_callVi (k0 := 0) (ci := 9) (As := [.int a2]) (rest := []) fx hC rw_w (Rc_isFamily l τ a2) k_449 Rk_isFamily Rh_isFamily rfl rfl rfl ⟨rfl, rfl⟩ ⟨Nat.le_trans (Nat.le_of_ble_eq_true rfl) hR.1, Nat.le_trans (Nat.le_of_ble_eq_true rfl) hR.2⟩ hf rfl hl.1 rfl (Nat.le_of_ble_eq_true rfl) dX9_thin_11 (fun H locs hC => ?_)
    refine lv_if_ne (tgt := 20) hx hb dX9_thin_14 (by decide) (fun c_2 => ?_) (fun c_2 => ?_)
    · replace hm := ifn hm c_2
      refine lv_aload_n hx hb dX9_thin_20 rfl (lv_at hl 0 rfl) ?_
      refine g_callVi (k0 := 0) (ci := 9) (As := []) (rest := []) fx hC rw_w (Rc_net l τ) k_233 Rk_net Rh_net rfl rfl rfl ⟨rfl, rfl⟩ ⟨Nat.le_trans (Nat.le_of_ble_eq_true rfl) hR.1, Nat.le_trans (Nat.le_of_ble_eq_true rfl) hR.2⟩ hf rfl hl.1 rfl (Nat.le_of_ble_eq_true rfl) dX9_thin_21 (fun H locs hC => ?_)
      refine lv_istore_n (lv' := [(3, .int (Rm_net τ)), (0, .ref (q 0)), (1, .int a1), (2, .int a2)]) hx hb dX9_thin_24 rfl hl (by decide) rfl (fun ls hl => ?_)
      refine Rw_thin_25 τ fx hR hf a1 a2 fuel (Rm_net τ) hm _ _ _ hC (lv_sub hl [1, 2, 3, 0] rfl) (fun  H locs ls hm hC hl => ?_) (fun  H locs ls hm hC hl => ?_)
      · refine lv_bipush (v := (-3 : Int32)) hx hb dX9_thin_46 (by decide) ?_
        cases hm
        exact g_iret fx hr hC rfl dX9_thin_48
      · refine lv_iconst (v := (0 : Int32)) hx hb dX9_thin_55 (by decide) ?_
        refine lv_istore_n (lv' := [(3, .int (0 : Int32)), (0, .ref (q 0)), (1, .int a1), (2, .int a2)]) hx hb dX9_thin_56 rfl hl (by decide) rfl (fun ls hl => ?_)
        refine Rw_thin_57 fx hR hf a1 a2 fuel (0 : Int32) τ hm _ _ _ hC (lv_sub hl [1, 2, 3, 0] rfl) (fun τ_34 H locs ls hm hC hl => ?_)
        refine lv_aload_n hx hb dX9_thin_121 rfl (lv_at hl 0 rfl) ?_
        obtain ⟨r_36, τ_37, e_35, hm⟩ := b2_in hm
        refine g_callVi (k0 := 0) (ci := 9) (As := []) (rest := []) fx hC rw_w (Rc_handed l τ_34 e_35) k_568 Rk_handed Rh_handed rfl rfl rfl ⟨rfl, rfl⟩ ⟨Nat.le_trans (Nat.le_of_ble_eq_true rfl) hR.1, Nat.le_trans (Nat.le_of_ble_eq_true rfl) hR.2⟩ hf rfl hl.1 rfl (Nat.le_of_ble_eq_true rfl) dX9_thin_122 (fun H locs hC => ?_)
        cases hm
        exact g_iret fx hr hC rfl dX9_thin_125
    · replace hm := ifp hm c_2
      refine lv_bipush (v := (-2 : Int32)) hx hb dX9_thin_17 (by decide) ?_
      cases hm
      exact g_iret fx hr hC rfl dX9_thin_19
def Rs_by_33 {ρ : Type} (p1 : Int32) (p2 : Int32) (p3 : Int32) (kx107 : RS → Option ρ) (rc : Int32 → RS → Option ρ) (v4 : Int32) (τ : RS) : Option ρ :=
  if (4096 : Int32) ≤ v4 then (kx107  τ) else (if p1 = (2 : Int32) then (b1 (Rm_isWay τ p2 (v4 ^^^ ((1 : Int32) <<< (p3 &&& 31)))) (fun r_28 => gi v4 4096 (nm (rA τ 20 (v4).toNatClampNeg (r_28 &&& 1)) (fun τ_30 => rc (v4 + (1 : Int32)) τ_30)))) else (b1 (Rm_isWay τ p2 v4) (fun r_7 => if r_7 = (0 : Int32) then (gi v4 4096 (nm (rA τ 20 (v4).toNatClampNeg ((0 : Int32) &&& 1)) (fun τ_10 => rc (v4 + (1 : Int32)) τ_10))) else (if p1 = (1 : Int32) then (if (Rm_holds v4 p3) = (1 : Int32) then (gi v4 4096 (nm (rA τ 20 (v4).toNatClampNeg ((1 : Int32) &&& 1)) (fun τ_25 => rc (v4 + (1 : Int32)) τ_25))) else (gi v4 4096 (nm (rA τ 20 (v4).toNatClampNeg ((0 : Int32) &&& 1)) (fun τ_22 => rc (v4 + (1 : Int32)) τ_22)))) else (if (Rm_holds v4 p3) = (0 : Int32) then (gi v4 4096 (nm (rA τ 20 (v4).toNatClampNeg ((1 : Int32) &&& 1)) (fun τ_18 => rc (v4 + (1 : Int32)) τ_18))) else (gi v4 4096 (nm (rA τ 20 (v4).toNatClampNeg ((0 : Int32) &&& 1)) (fun τ_15 => rc (v4 + (1 : Int32)) τ_15))))))))
def Rm_by (τ : RS) (a1 : Int32) (a2 : Int32) (a3 : Int32) : Option (Int32 × RS) :=
  if (Rm_in a1 (0 : Int32) (2 : Int32)) = (0 : Int32) then (some ((-2 : Int32), τ)) else (if (Rm_isFamily τ a2) = (0 : Int32) then (some ((-2 : Int32), τ)) else (if (Rm_in a3 (0 : Int32) (11 : Int32)) = (0 : Int32) then (some ((-2 : Int32), τ)) else (it2 (Rs_by_33 a1 a2 a3 (fun τ_32 => b2 (Rm_handed τ_32) (fun r_34 τ_35 => some (r_34, τ_35)))) fuel (0 : Int32) τ)))
abbrev Rrm_by : Room := { frames := 2, cells := 0, slots := 0, locals := 43 }
set_option maxRecDepth 100000 in
set_option maxHeartbeats 4000000 in
theorem Rw_by_33 {ρ : Type} {out : ρ} {p : Program} {l : Launch} {e : Env} {R : Room} {s : State} {m : MethodId} {args : Array Value} {below : List Frame} {meth : Method} {c : Code} {cells slots : Nat} {Q : State → Prop} {D : va_G} {cy : Nat → ClassId} {ad : List Nat} {q : Nat → Nat} {X : va_W} (fx : FX p s m args meth c cX9_by 5 RX9 D cy) (hR : 2 ≤ R.frames ∧ 43 ≤ R.locals) (hf : cells ≤ R.cells ∧ slots ≤ R.slots) (p1 : Int32) (p2 : Int32) (p3 : Int32) {kx107 : RS → Option ρ} :
    ∀ (n : Nat) (v4 : Int32) (τ : RS), it2 (Rs_by_33 p1 p2 p3 kx107) n v4 τ = some out → ∀ (H : Heap) (locs : List Loc) (ls : Array Slot), GC D (rwd cy q X) ad s τ H locs → lv_has ls 5 [(0, .ref (q 0)), (1, .int p1), (2, .int p2), (3, .int p3), (4, .int v4)] → (∀ (τ2 : RS) (H : Heap) (locs : List Loc) (ls : Array Slot), kx107 τ2 = some out → GC D (rwd cy q X) ad s τ2 H locs → lv_has ls 5 [(0, .ref (q 0))] → W p l e R s m args below meth c H locs cells slots Q (F0 m 107 ls [])) → W p l e R s m args below meth c H locs cells slots Q (F0 m 33 ls []) := by
  have hx := fx.1
  have hb := fx.2.1
  intro n
  induction n with
  | zero => intro v4 τ hm; exact (it2_z hm).elim
  | succ n ih =>
    intro v4 τ hm H locs ls hC hl hx107
    obtain ⟨rc, hrc⟩ : ∃ z, z = it2 (Rs_by_33 p1 p2 p3 kx107) n := ⟨_, rfl⟩
    replace hm : Rs_by_33 p1 p2 p3 kx107 rc v4 τ = some out := by rw [hrc]; exact hm
    unfold Rs_by_33 at hm
    refine lv_iload hx hb dX9_by_33 (lv_at hl 4 rfl) ?_
    refine lv_sipush (v := (4096 : Int32)) hx hb dX9_by_35 (by decide) ?_
    refine lv_icmp_ge (tgt := 107) hx hb dX9_by_38 (by decide) (fun c_4 => ?_) (fun c_4 => ?_)
    · replace hm := ifp hm c_4
      exact hx107 _ _ _ _ hm hC (lv_sub hl [0] rfl)
    · replace hm := ifn hm c_4
      refine lv_aload_n hx hb dX9_by_41 rfl (lv_at hl 0 rfl) ?_
      refine Rg_20 fx hC dX9_by_42 ?_
      refine lv_iload hx hb dX9_by_45 (lv_at hl 4 rfl) ?_
      refine lv_iload_n hx hb dX9_by_47 rfl (lv_at hl 1 rfl) ?_
      refine lv_iconst (v := (2 : Int32)) hx hb dX9_by_48 (by decide) ?_
      refine lv_icmp_ne (tgt := 66) hx hb dX9_by_49 (by decide) (fun c_5 => ?_) (fun c_5 => ?_)
      · replace hm := ifn hm c_5
        refine lv_aload_n hx hb dX9_by_66 rfl (lv_at hl 0 rfl) ?_
        refine lv_iload_n hx hb dX9_by_67 rfl (lv_at hl 2 rfl) ?_
        refine lv_iload hx hb dX9_by_68 (lv_at hl 4 rfl) ?_
        obtain ⟨r_7, e_6, hm⟩ := b1_in hm
        refine g_callVi (k0 := 0) (ci := 9) (As := [.int p2, .int v4]) (rest := [.int v4, .ref (q 20)]) fx hC rw_w (Rc_isWay l τ p2 v4 e_6) k_453 Rk_isWay Rh_isWay rfl rfl rfl ⟨rfl, rfl⟩ ⟨Nat.le_trans (Nat.le_of_ble_eq_true rfl) hR.1, Nat.le_trans (Nat.le_of_ble_eq_true rfl) hR.2⟩ hf rfl hl.1 rfl (Nat.le_of_ble_eq_true rfl) dX9_by_70 (fun H locs hC => ?_)
        refine lv_if_eq (tgt := 99) hx hb dX9_by_73 (by decide) (fun c_8 => ?_) (fun c_8 => ?_)
        · replace hm := ifp hm c_8
          refine lv_iconst (v := (0 : Int32)) hx hb dX9_by_99 (by decide) ?_
          have h_9 := (gi_in hm).1
          replace hm := (gi_in hm).2
          refine Rs_20 fx hC h_9 dX9_by_100 (fun H locs hC => ?_)
          obtain ⟨τ_10, e_11⟩ : ∃ z, z = (rA τ 20 (v4).toNatClampNeg ((0 : Int32) &&& 1)) := ⟨_, rfl⟩
          rw [← e_11] at hC
          replace hm := nm_in hm e_11
          refine lv_iinc (v := (v4 + (1 : Int32))) (lv' := [(4, .int (v4 + (1 : Int32))), (0, .ref (q 0)), (1, .int p1), (2, .int p2), (3, .int p3)]) hx hb dX9_by_101 hl (k := 4) rfl rfl (by decide) rfl (fun ls hl => ?_)
          refine lv_goto (tgt := 33) hx hb dX9_by_104 (by decide) ?_
          rw [hrc] at hm
          exact ih _ _ hm _ _ _ hC (lv_sub hl [1, 2, 3, 4, 0] rfl) hx107
        · replace hm := ifn hm c_8
          refine lv_iload hx hb dX9_by_76 (lv_at hl 4 rfl) ?_
          refine lv_iload_n hx hb dX9_by_78 rfl (lv_at hl 3 rfl) ?_
          refine g_callSi (As := [.int v4, .int p3]) (rest := [.int v4, .ref (q 20)]) fx hC rw_w (Rc_holds l rw_w τ v4 p3) k_323 Rk_holds Rh_holds ⟨rfl, rfl⟩ ⟨Nat.le_trans (Nat.le_of_ble_eq_true rfl) hR.1, Nat.le_trans (Nat.le_of_ble_eq_true rfl) hR.2⟩ hf rfl hl.1 rfl (Nat.le_of_ble_eq_true rfl) dX9_by_79 (fun H locs hC => ?_)
          refine lv_iload_n hx hb dX9_by_82 rfl (lv_at hl 1 rfl) ?_
          refine lv_iconst (v := (1 : Int32)) hx hb dX9_by_83 (by decide) ?_
          refine lv_icmp_ne (tgt := 91) hx hb dX9_by_84 (by decide) (fun c_12 => ?_) (fun c_12 => ?_)
          · replace hm := ifn hm c_12
            refine lv_iconst (v := (0 : Int32)) hx hb dX9_by_91 (by decide) ?_
            refine lv_icmp_ne (tgt := 99) hx hb dX9_by_92 (by decide) (fun c_13 => ?_) (fun c_13 => ?_)
            · replace hm := ifn hm c_13
              refine lv_iconst (v := (0 : Int32)) hx hb dX9_by_99 (by decide) ?_
              have h_14 := (gi_in hm).1
              replace hm := (gi_in hm).2
              refine Rs_20 fx hC h_14 dX9_by_100 (fun H locs hC => ?_)
              obtain ⟨τ_15, e_16⟩ : ∃ z, z = (rA τ 20 (v4).toNatClampNeg ((0 : Int32) &&& 1)) := ⟨_, rfl⟩
              rw [← e_16] at hC
              replace hm := nm_in hm e_16
              refine lv_iinc (v := (v4 + (1 : Int32))) (lv' := [(4, .int (v4 + (1 : Int32))), (0, .ref (q 0)), (1, .int p1), (2, .int p2), (3, .int p3)]) hx hb dX9_by_101 hl (k := 4) rfl rfl (by decide) rfl (fun ls hl => ?_)
              refine lv_goto (tgt := 33) hx hb dX9_by_104 (by decide) ?_
              rw [hrc] at hm
              exact ih _ _ hm _ _ _ hC (lv_sub hl [1, 2, 3, 4, 0] rfl) hx107
            · replace hm := ifp hm c_13
              refine lv_iconst (v := (1 : Int32)) hx hb dX9_by_95 (by decide) ?_
              refine lv_goto (tgt := 100) hx hb dX9_by_96 (by decide) ?_
              have h_17 := (gi_in hm).1
              replace hm := (gi_in hm).2
              refine Rs_20 fx hC h_17 dX9_by_100 (fun H locs hC => ?_)
              obtain ⟨τ_18, e_19⟩ : ∃ z, z = (rA τ 20 (v4).toNatClampNeg ((1 : Int32) &&& 1)) := ⟨_, rfl⟩
              rw [← e_19] at hC
              replace hm := nm_in hm e_19
              refine lv_iinc (v := (v4 + (1 : Int32))) (lv' := [(4, .int (v4 + (1 : Int32))), (0, .ref (q 0)), (1, .int p1), (2, .int p2), (3, .int p3)]) hx hb dX9_by_101 hl (k := 4) rfl rfl (by decide) rfl (fun ls hl => ?_)
              refine lv_goto (tgt := 33) hx hb dX9_by_104 (by decide) ?_
              rw [hrc] at hm
              exact ih _ _ hm _ _ _ hC (lv_sub hl [1, 2, 3, 4, 0] rfl) hx107
          · replace hm := ifp hm c_12
            refine lv_iconst (v := (1 : Int32)) hx hb dX9_by_87 (by decide) ?_
            refine lv_goto (tgt := 92) hx hb dX9_by_88 (by decide) ?_
            refine lv_icmp_ne (tgt := 99) hx hb dX9_by_92 (by decide) (fun c_20 => ?_) (fun c_20 => ?_)
            · replace hm := ifn hm c_20
              refine lv_iconst (v := (0 : Int32)) hx hb dX9_by_99 (by decide) ?_
              have h_21 := (gi_in hm).1
              replace hm := (gi_in hm).2
              refine Rs_20 fx hC h_21 dX9_by_100 (fun H locs hC => ?_)
              obtain ⟨τ_22, e_23⟩ : ∃ z, z = (rA τ 20 (v4).toNatClampNeg ((0 : Int32) &&& 1)) := ⟨_, rfl⟩
              rw [← e_23] at hC
              replace hm := nm_in hm e_23
              refine lv_iinc (v := (v4 + (1 : Int32))) (lv' := [(4, .int (v4 + (1 : Int32))), (0, .ref (q 0)), (1, .int p1), (2, .int p2), (3, .int p3)]) hx hb dX9_by_101 hl (k := 4) rfl rfl (by decide) rfl (fun ls hl => ?_)
              refine lv_goto (tgt := 33) hx hb dX9_by_104 (by decide) ?_
              rw [hrc] at hm
              exact ih _ _ hm _ _ _ hC (lv_sub hl [1, 2, 3, 4, 0] rfl) hx107
            · replace hm := ifp hm c_20
              refine lv_iconst (v := (1 : Int32)) hx hb dX9_by_95 (by decide) ?_
              refine lv_goto (tgt := 100) hx hb dX9_by_96 (by decide) ?_
              have h_24 := (gi_in hm).1
              replace hm := (gi_in hm).2
              refine Rs_20 fx hC h_24 dX9_by_100 (fun H locs hC => ?_)
              obtain ⟨τ_25, e_26⟩ : ∃ z, z = (rA τ 20 (v4).toNatClampNeg ((1 : Int32) &&& 1)) := ⟨_, rfl⟩
              rw [← e_26] at hC
              replace hm := nm_in hm e_26
              refine lv_iinc (v := (v4 + (1 : Int32))) (lv' := [(4, .int (v4 + (1 : Int32))), (0, .ref (q 0)), (1, .int p1), (2, .int p2), (3, .int p3)]) hx hb dX9_by_101 hl (k := 4) rfl rfl (by decide) rfl (fun ls hl => ?_)
              refine lv_goto (tgt := 33) hx hb dX9_by_104 (by decide) ?_
              rw [hrc] at hm
              exact ih _ _ hm _ _ _ hC (lv_sub hl [1, 2, 3, 4, 0] rfl) hx107
      · replace hm := ifp hm c_5
        refine lv_aload_n hx hb dX9_by_52 rfl (lv_at hl 0 rfl) ?_
        refine lv_iload_n hx hb dX9_by_53 rfl (lv_at hl 2 rfl) ?_
        refine lv_iload hx hb dX9_by_54 (lv_at hl 4 rfl) ?_
        refine lv_iconst (v := (1 : Int32)) hx hb dX9_by_56 (by decide) ?_
        refine lv_iload_n hx hb dX9_by_57 rfl (lv_at hl 3 rfl) ?_
        refine lv_ishl hx hb dX9_by_58 ?_
        refine lv_ixor hx hb dX9_by_59 ?_
        obtain ⟨r_28, e_27, hm⟩ := b1_in hm
        refine g_callVi (k0 := 0) (ci := 9) (As := [.int p2, .int (v4 ^^^ ((1 : Int32) <<< (p3 &&& 31)))]) (rest := [.int v4, .ref (q 20)]) fx hC rw_w (Rc_isWay l τ p2 (v4 ^^^ ((1 : Int32) <<< (p3 &&& 31))) e_27) k_453 Rk_isWay Rh_isWay rfl rfl rfl ⟨rfl, rfl⟩ ⟨Nat.le_trans (Nat.le_of_ble_eq_true rfl) hR.1, Nat.le_trans (Nat.le_of_ble_eq_true rfl) hR.2⟩ hf rfl hl.1 rfl (Nat.le_of_ble_eq_true rfl) dX9_by_60 (fun H locs hC => ?_)
        refine lv_goto (tgt := 100) hx hb dX9_by_63 (by decide) ?_
        have h_29 := (gi_in hm).1
        replace hm := (gi_in hm).2
        refine Rs_20 fx hC h_29 dX9_by_100 (fun H locs hC => ?_)
        obtain ⟨τ_30, e_31⟩ : ∃ z, z = (rA τ 20 (v4).toNatClampNeg (r_28 &&& 1)) := ⟨_, rfl⟩
        rw [← e_31] at hC
        replace hm := nm_in hm e_31
        refine lv_iinc (v := (v4 + (1 : Int32))) (lv' := [(4, .int (v4 + (1 : Int32))), (0, .ref (q 0)), (1, .int p1), (2, .int p2), (3, .int p3)]) hx hb dX9_by_101 hl (k := 4) rfl rfl (by decide) rfl (fun ls hl => ?_)
        refine lv_goto (tgt := 33) hx hb dX9_by_104 (by decide) ?_
        rw [hrc] at hm
        exact ih _ _ hm _ _ _ hC (lv_sub hl [1, 2, 3, 4, 0] rfl) hx107
set_option maxRecDepth 100000 in
set_option maxHeartbeats 4000000 in
theorem Rc_by (l : Launch) {D : va_G} {cy : Nat → ClassId} {ad : List Nat} {q : Nat → Nat} {X : va_W} (τ : RS) (a1 : Int32) (a2 : Int32) (a3 : Int32) {o : Int32 × RS} (hm : Rm_by τ a1 a2 a3 = some o) : GM l yX9_by cX9_by 5 (some .int) Rrm_by D cy (rwd cy q X) ad [.ref (q 0), .int a1, .int a2, .int a3] τ (some (.int o.1)) o.2 := by
  refine g_start RX9 rfl (by decide) (Nat.le_of_ble_eq_true rfl) ?_
  intro p e s m args below meth c fx hr hC ls hl
  have hx := fx.1
  have hb := fx.2.1
  have hR : 2 ≤ (Rrm_by).frames ∧ 43 ≤ (Rrm_by).locals := ⟨Nat.le_refl _, Nat.le_refl _⟩
  have hf : 0 ≤ (Rrm_by).cells ∧ 0 ≤ (Rrm_by).slots := ⟨Nat.zero_le _, Nat.zero_le _⟩
  have hl : lv_has ls 5 [(0, .ref (q 0)), (1, .int a1), (2, .int a2), (3, .int a3)] := hl
  unfold Rm_by at hm
  refine lv_iload_n hx hb dX9_by_0 rfl (lv_at hl 1 rfl) ?_
  refine lv_iconst (v := (0 : Int32)) hx hb dX9_by_1 (by decide) ?_
  refine lv_iconst (v := (2 : Int32)) hx hb dX9_by_2 (by decide) ?_
  refine g_callSi (As := [.int a1, .int (0 : Int32), .int (2 : Int32)]) (rest := []) fx hC rw_w (Rc_in l rw_w τ a1 (0 : Int32) (2 : Int32)) k_140 Rk_in Rh_in ⟨rfl, rfl⟩ ⟨Nat.le_trans (Nat.le_of_ble_eq_true rfl) hR.1, Nat.le_trans (Nat.le_of_ble_eq_true rfl) hR.2⟩ hf rfl hl.1 rfl (Nat.le_of_ble_eq_true rfl) dX9_by_3 (fun H locs hC => ?_)
  refine lv_if_eq (tgt := 27) hx hb dX9_by_6 (by decide) (fun c_1 => ?_) (fun c_1 => ?_)
  · replace hm := ifp hm c_1
    refine lv_bipush (v := (-2 : Int32)) hx hb dX9_by_27 (by decide) ?_
    cases hm
    exact g_iret fx hr hC rfl dX9_by_29
  · replace hm := ifn hm c_1
    refine lv_aload_n hx hb dX9_by_9 rfl (lv_at hl 0 rfl) ?_
    refine lv_iload_n hx hb dX9_by_10 rfl (lv_at hl 2 rfl) ?_
    refine g_callVi (k0 := 0) (ci := 9) (As := [.int a2]) (rest := []) fx hC rw_w (Rc_isFamily l τ a2) k_449 Rk_isFamily Rh_isFamily rfl rfl rfl ⟨rfl, rfl⟩ ⟨Nat.le_trans (Nat.le_of_ble_eq_true rfl) hR.1, Nat.le_trans (Nat.le_of_ble_eq_true rfl) hR.2⟩ hf rfl hl.1 rfl (Nat.le_of_ble_eq_true rfl) dX9_by_11 (fun H locs hC => ?_)
    refine lv_if_eq (tgt := 27) hx hb dX9_by_14 (by decide) (fun c_2 => ?_) (fun c_2 => ?_)
    · replace hm := ifp hm c_2
      refine lv_bipush (v := (-2 : Int32)) hx hb dX9_by_27 (by decide) ?_
      cases hm
      exact g_iret fx hr hC rfl dX9_by_29
    · replace hm := ifn hm c_2
      refine lv_iload_n hx hb dX9_by_17 rfl (lv_at hl 3 rfl) ?_
      refine lv_iconst (v := (0 : Int32)) hx hb dX9_by_18 (by decide) ?_
      refine lv_bipush (v := (11 : Int32)) hx hb dX9_by_19 (by decide) ?_
      refine g_callSi (As := [.int a3, .int (0 : Int32), .int (11 : Int32)]) (rest := []) fx hC rw_w (Rc_in l rw_w τ a3 (0 : Int32) (11 : Int32)) k_140 Rk_in Rh_in ⟨rfl, rfl⟩ ⟨Nat.le_trans (Nat.le_of_ble_eq_true rfl) hR.1, Nat.le_trans (Nat.le_of_ble_eq_true rfl) hR.2⟩ hf rfl hl.1 rfl (Nat.le_of_ble_eq_true rfl) dX9_by_21 (fun H locs hC => ?_)
      refine lv_if_ne (tgt := 30) hx hb dX9_by_24 (by decide) (fun c_3 => ?_) (fun c_3 => ?_)
      · replace hm := ifn hm c_3
        refine lv_iconst (v := (0 : Int32)) hx hb dX9_by_30 (by decide) ?_
        refine lv_istore (lv' := [(4, .int (0 : Int32)), (0, .ref (q 0)), (1, .int a1), (2, .int a2), (3, .int a3)]) hx hb dX9_by_31 hl (by decide) rfl (fun ls hl => ?_)
        refine Rw_by_33 fx hR hf a1 a2 a3 fuel (0 : Int32) τ hm _ _ _ hC (lv_sub hl [1, 2, 3, 4, 0] rfl) (fun τ_32 H locs ls hm hC hl => ?_)
        refine lv_aload_n hx hb dX9_by_107 rfl (lv_at hl 0 rfl) ?_
        obtain ⟨r_34, τ_35, e_33, hm⟩ := b2_in hm
        refine g_callVi (k0 := 0) (ci := 9) (As := []) (rest := []) fx hC rw_w (Rc_handed l τ_32 e_33) k_568 Rk_handed Rh_handed rfl rfl rfl ⟨rfl, rfl⟩ ⟨Nat.le_trans (Nat.le_of_ble_eq_true rfl) hR.1, Nat.le_trans (Nat.le_of_ble_eq_true rfl) hR.2⟩ hf rfl hl.1 rfl (Nat.le_of_ble_eq_true rfl) dX9_by_108 (fun H locs hC => ?_)
        cases hm
        exact g_iret fx hr hC rfl dX9_by_111
      · replace hm := ifp hm c_3
        refine lv_bipush (v := (-2 : Int32)) hx hb dX9_by_27 (by decide) ?_
        cases hm
        exact g_iret fx hr hC rfl dX9_by_29
def Rs_within_14 {ρ : Type} (p1 : Int32) (p2 : Int32) (p3 : Int32) (kx64 : RS → Option ρ) (rc : Int32 → RS → Option ρ) (v4 : Int32) (τ : RS) : Option ρ :=
  if (4096 : Int32) ≤ v4 then (kx64  τ) else (b1 (Rm_isWay τ p1 v4) (fun r_4 => if r_4 = (0 : Int32) then (gi v4 4096 (nm (rA τ 20 (v4).toNatClampNeg ((0 : Int32) &&& 1)) (fun τ_7 => rc (v4 + (1 : Int32)) τ_7))) else (b1 (Rm_sumOf τ v4) (fun r_10 => if (Rm_in r_10 p2 p3) = (0 : Int32) then (gi v4 4096 (nm (rA τ 20 (v4).toNatClampNeg ((0 : Int32) &&& 1)) (fun τ_13 => rc (v4 + (1 : Int32)) τ_13))) else (gi v4 4096 (nm (rA τ 20 (v4).toNatClampNeg ((1 : Int32) &&& 1)) (fun τ_16 => rc (v4 + (1 : Int32)) τ_16)))))))
def Rm_within (τ : RS) (a1 : Int32) (a2 : Int32) (a3 : Int32) : Option (Int32 × RS) :=
  if (Rm_isFamily τ a1) = (0 : Int32) then (some ((-2 : Int32), τ)) else (it2 (Rs_within_14 a1 a2 a3 (fun τ_18 => b2 (Rm_handed τ_18) (fun r_20 τ_21 => some (r_20, τ_21)))) fuel (0 : Int32) τ)
abbrev Rrm_within : Room := { frames := 2, cells := 0, slots := 0, locals := 44 }
set_option maxRecDepth 100000 in
set_option maxHeartbeats 4000000 in
theorem Rw_within_14 {ρ : Type} {out : ρ} {p : Program} {l : Launch} {e : Env} {R : Room} {s : State} {m : MethodId} {args : Array Value} {below : List Frame} {meth : Method} {c : Code} {cells slots : Nat} {Q : State → Prop} {D : va_G} {cy : Nat → ClassId} {ad : List Nat} {q : Nat → Nat} {X : va_W} (fx : FX p s m args meth c cX9_within 5 RX9 D cy) (hR : 2 ≤ R.frames ∧ 44 ≤ R.locals) (hf : cells ≤ R.cells ∧ slots ≤ R.slots) (p1 : Int32) (p2 : Int32) (p3 : Int32) {kx64 : RS → Option ρ} :
    ∀ (n : Nat) (v4 : Int32) (τ : RS), it2 (Rs_within_14 p1 p2 p3 kx64) n v4 τ = some out → ∀ (H : Heap) (locs : List Loc) (ls : Array Slot), GC D (rwd cy q X) ad s τ H locs → lv_has ls 5 [(0, .ref (q 0)), (1, .int p1), (2, .int p2), (3, .int p3), (4, .int v4)] → (∀ (τ2 : RS) (H : Heap) (locs : List Loc) (ls : Array Slot), kx64 τ2 = some out → GC D (rwd cy q X) ad s τ2 H locs → lv_has ls 5 [(0, .ref (q 0))] → W p l e R s m args below meth c H locs cells slots Q (F0 m 64 ls [])) → W p l e R s m args below meth c H locs cells slots Q (F0 m 14 ls []) := by
  have hx := fx.1
  have hb := fx.2.1
  intro n
  induction n with
  | zero => intro v4 τ hm; exact (it2_z hm).elim
  | succ n ih =>
    intro v4 τ hm H locs ls hC hl hx64
    obtain ⟨rc, hrc⟩ : ∃ z, z = it2 (Rs_within_14 p1 p2 p3 kx64) n := ⟨_, rfl⟩
    replace hm : Rs_within_14 p1 p2 p3 kx64 rc v4 τ = some out := by rw [hrc]; exact hm
    unfold Rs_within_14 at hm
    refine lv_iload hx hb dX9_within_14 (lv_at hl 4 rfl) ?_
    refine lv_sipush (v := (4096 : Int32)) hx hb dX9_within_16 (by decide) ?_
    refine lv_icmp_ge (tgt := 64) hx hb dX9_within_19 (by decide) (fun c_2 => ?_) (fun c_2 => ?_)
    · replace hm := ifp hm c_2
      exact hx64 _ _ _ _ hm hC (lv_sub hl [0] rfl)
    · replace hm := ifn hm c_2
      refine lv_aload_n hx hb dX9_within_22 rfl (lv_at hl 0 rfl) ?_
      refine Rg_20 fx hC dX9_within_23 ?_
      refine lv_iload hx hb dX9_within_26 (lv_at hl 4 rfl) ?_
      refine lv_aload_n hx hb dX9_within_28 rfl (lv_at hl 0 rfl) ?_
      refine lv_iload_n hx hb dX9_within_29 rfl (lv_at hl 1 rfl) ?_
      refine lv_iload hx hb dX9_within_30 (lv_at hl 4 rfl) ?_
      obtain ⟨r_4, e_3, hm⟩ := b1_in hm
      refine g_callVi (k0 := 0) (ci := 9) (As := [.int p1, .int v4]) (rest := [.int v4, .ref (q 20)]) fx hC rw_w (Rc_isWay l τ p1 v4 e_3) k_453 Rk_isWay Rh_isWay rfl rfl rfl ⟨rfl, rfl⟩ ⟨Nat.le_trans (Nat.le_of_ble_eq_true rfl) hR.1, Nat.le_trans (Nat.le_of_ble_eq_true rfl) hR.2⟩ hf rfl hl.1 rfl (Nat.le_of_ble_eq_true rfl) dX9_within_32 (fun H locs hC => ?_)
      refine lv_if_eq (tgt := 56) hx hb dX9_within_35 (by decide) (fun c_5 => ?_) (fun c_5 => ?_)
      · replace hm := ifp hm c_5
        refine lv_iconst (v := (0 : Int32)) hx hb dX9_within_56 (by decide) ?_
        have h_6 := (gi_in hm).1
        replace hm := (gi_in hm).2
        refine Rs_20 fx hC h_6 dX9_within_57 (fun H locs hC => ?_)
        obtain ⟨τ_7, e_8⟩ : ∃ z, z = (rA τ 20 (v4).toNatClampNeg ((0 : Int32) &&& 1)) := ⟨_, rfl⟩
        rw [← e_8] at hC
        replace hm := nm_in hm e_8
        refine lv_iinc (v := (v4 + (1 : Int32))) (lv' := [(4, .int (v4 + (1 : Int32))), (0, .ref (q 0)), (1, .int p1), (2, .int p2), (3, .int p3)]) hx hb dX9_within_58 hl (k := 4) rfl rfl (by decide) rfl (fun ls hl => ?_)
        refine lv_goto (tgt := 14) hx hb dX9_within_61 (by decide) ?_
        rw [hrc] at hm
        exact ih _ _ hm _ _ _ hC (lv_sub hl [1, 2, 3, 4, 0] rfl) hx64
      · replace hm := ifn hm c_5
        refine lv_aload_n hx hb dX9_within_38 rfl (lv_at hl 0 rfl) ?_
        refine lv_iload hx hb dX9_within_39 (lv_at hl 4 rfl) ?_
        obtain ⟨r_10, e_9, hm⟩ := b1_in hm
        refine g_callVi (k0 := 0) (ci := 9) (As := [.int v4]) (rest := [.int v4, .ref (q 20)]) fx hC rw_w (Rc_sumOf l τ v4 e_9) k_648 Rk_sumOf Rh_sumOf rfl rfl rfl ⟨rfl, rfl⟩ ⟨Nat.le_trans (Nat.le_of_ble_eq_true rfl) hR.1, Nat.le_trans (Nat.le_of_ble_eq_true rfl) hR.2⟩ hf rfl hl.1 rfl (Nat.le_of_ble_eq_true rfl) dX9_within_41 (fun H locs hC => ?_)
        refine lv_iload_n hx hb dX9_within_44 rfl (lv_at hl 2 rfl) ?_
        refine lv_iload_n hx hb dX9_within_45 rfl (lv_at hl 3 rfl) ?_
        refine g_callSi (As := [.int r_10, .int p2, .int p3]) (rest := [.int v4, .ref (q 20)]) fx hC rw_w (Rc_in l rw_w τ r_10 p2 p3) k_140 Rk_in Rh_in ⟨rfl, rfl⟩ ⟨Nat.le_trans (Nat.le_of_ble_eq_true rfl) hR.1, Nat.le_trans (Nat.le_of_ble_eq_true rfl) hR.2⟩ hf rfl hl.1 rfl (Nat.le_of_ble_eq_true rfl) dX9_within_46 (fun H locs hC => ?_)
        refine lv_if_eq (tgt := 56) hx hb dX9_within_49 (by decide) (fun c_11 => ?_) (fun c_11 => ?_)
        · replace hm := ifp hm c_11
          refine lv_iconst (v := (0 : Int32)) hx hb dX9_within_56 (by decide) ?_
          have h_12 := (gi_in hm).1
          replace hm := (gi_in hm).2
          refine Rs_20 fx hC h_12 dX9_within_57 (fun H locs hC => ?_)
          obtain ⟨τ_13, e_14⟩ : ∃ z, z = (rA τ 20 (v4).toNatClampNeg ((0 : Int32) &&& 1)) := ⟨_, rfl⟩
          rw [← e_14] at hC
          replace hm := nm_in hm e_14
          refine lv_iinc (v := (v4 + (1 : Int32))) (lv' := [(4, .int (v4 + (1 : Int32))), (0, .ref (q 0)), (1, .int p1), (2, .int p2), (3, .int p3)]) hx hb dX9_within_58 hl (k := 4) rfl rfl (by decide) rfl (fun ls hl => ?_)
          refine lv_goto (tgt := 14) hx hb dX9_within_61 (by decide) ?_
          rw [hrc] at hm
          exact ih _ _ hm _ _ _ hC (lv_sub hl [1, 2, 3, 4, 0] rfl) hx64
        · replace hm := ifn hm c_11
          refine lv_iconst (v := (1 : Int32)) hx hb dX9_within_52 (by decide) ?_
          refine lv_goto (tgt := 57) hx hb dX9_within_53 (by decide) ?_
          have h_15 := (gi_in hm).1
          replace hm := (gi_in hm).2
          refine Rs_20 fx hC h_15 dX9_within_57 (fun H locs hC => ?_)
          obtain ⟨τ_16, e_17⟩ : ∃ z, z = (rA τ 20 (v4).toNatClampNeg ((1 : Int32) &&& 1)) := ⟨_, rfl⟩
          rw [← e_17] at hC
          replace hm := nm_in hm e_17
          refine lv_iinc (v := (v4 + (1 : Int32))) (lv' := [(4, .int (v4 + (1 : Int32))), (0, .ref (q 0)), (1, .int p1), (2, .int p2), (3, .int p3)]) hx hb dX9_within_58 hl (k := 4) rfl rfl (by decide) rfl (fun ls hl => ?_)
          refine lv_goto (tgt := 14) hx hb dX9_within_61 (by decide) ?_
          rw [hrc] at hm
          exact ih _ _ hm _ _ _ hC (lv_sub hl [1, 2, 3, 4, 0] rfl) hx64
set_option maxRecDepth 100000 in
set_option maxHeartbeats 4000000 in
theorem Rc_within (l : Launch) {D : va_G} {cy : Nat → ClassId} {ad : List Nat} {q : Nat → Nat} {X : va_W} (τ : RS) (a1 : Int32) (a2 : Int32) (a3 : Int32) {o : Int32 × RS} (hm : Rm_within τ a1 a2 a3 = some o) : GM l yX9_within cX9_within 5 (some .int) Rrm_within D cy (rwd cy q X) ad [.ref (q 0), .int a1, .int a2, .int a3] τ (some (.int o.1)) o.2 := by
  refine g_start RX9 rfl (by decide) (Nat.le_of_ble_eq_true rfl) ?_
  intro p e s m args below meth c fx hr hC ls hl
  have hx := fx.1
  have hb := fx.2.1
  have hR : 2 ≤ (Rrm_within).frames ∧ 44 ≤ (Rrm_within).locals := ⟨Nat.le_refl _, Nat.le_refl _⟩
  have hf : 0 ≤ (Rrm_within).cells ∧ 0 ≤ (Rrm_within).slots := ⟨Nat.zero_le _, Nat.zero_le _⟩
  have hl : lv_has ls 5 [(0, .ref (q 0)), (1, .int a1), (2, .int a2), (3, .int a3)] := hl
  unfold Rm_within at hm
  refine lv_aload_n hx hb dX9_within_0 rfl (lv_at hl 0 rfl) ?_
  refine lv_iload_n hx hb dX9_within_1 rfl (lv_at hl 1 rfl) ?_
  refine g_callVi (k0 := 0) (ci := 9) (As := [.int a1]) (rest := []) fx hC rw_w (Rc_isFamily l τ a1) k_449 Rk_isFamily Rh_isFamily rfl rfl rfl ⟨rfl, rfl⟩ ⟨Nat.le_trans (Nat.le_of_ble_eq_true rfl) hR.1, Nat.le_trans (Nat.le_of_ble_eq_true rfl) hR.2⟩ hf rfl hl.1 rfl (Nat.le_of_ble_eq_true rfl) dX9_within_2 (fun H locs hC => ?_)
  refine lv_if_ne (tgt := 11) hx hb dX9_within_5 (by decide) (fun c_1 => ?_) (fun c_1 => ?_)
  · replace hm := ifn hm c_1
    refine lv_iconst (v := (0 : Int32)) hx hb dX9_within_11 (by decide) ?_
    refine lv_istore (lv' := [(4, .int (0 : Int32)), (0, .ref (q 0)), (1, .int a1), (2, .int a2), (3, .int a3)]) hx hb dX9_within_12 hl (by decide) rfl (fun ls hl => ?_)
    refine Rw_within_14 fx hR hf a1 a2 a3 fuel (0 : Int32) τ hm _ _ _ hC (lv_sub hl [1, 2, 3, 4, 0] rfl) (fun τ_18 H locs ls hm hC hl => ?_)
    refine lv_aload_n hx hb dX9_within_64 rfl (lv_at hl 0 rfl) ?_
    obtain ⟨r_20, τ_21, e_19, hm⟩ := b2_in hm
    refine g_callVi (k0 := 0) (ci := 9) (As := []) (rest := []) fx hC rw_w (Rc_handed l τ_18 e_19) k_568 Rk_handed Rh_handed rfl rfl rfl ⟨rfl, rfl⟩ ⟨Nat.le_trans (Nat.le_of_ble_eq_true rfl) hR.1, Nat.le_trans (Nat.le_of_ble_eq_true rfl) hR.2⟩ hf rfl hl.1 rfl (Nat.le_of_ble_eq_true rfl) dX9_within_65 (fun H locs hC => ?_)
    cases hm
    exact g_iret fx hr hC rfl dX9_within_68
  · replace hm := ifp hm c_1
    refine lv_bipush (v := (-2 : Int32)) hx hb dX9_within_8 (by decide) ?_
    cases hm
    exact g_iret fx hr hC rfl dX9_within_10
def Rm_drop (τ : RS) : Option (Int32 × RS) :=
  if (τ.1 6) = (0 : Int32) then (some ((-2 : Int32), τ)) else (nm (rS τ 6 ((τ.1 6) - (1 : Int32))) (fun τ_2 => some ((τ_2.1 6), τ_2)))
abbrev Rrm_drop : Room := { frames := 0, cells := 0, slots := 0, locals := 0 }
set_option maxRecDepth 100000 in
set_option maxHeartbeats 4000000 in
theorem Rc_drop (l : Launch) {D : va_G} {cy : Nat → ClassId} {ad : List Nat} {q : Nat → Nat} {X : va_W} (τ : RS) {o : Int32 × RS} (hm : Rm_drop τ = some o) : GM l yX9_drop cX9_drop 1 (some .int) Rrm_drop D cy (rwd cy q X) ad [.ref (q 0)] τ (some (.int o.1)) o.2 := by
  refine g_start RX9 rfl (by decide) (Nat.le_of_ble_eq_true rfl) ?_
  intro p e s m args below meth c fx hr hC ls hl
  have hx := fx.1
  have hb := fx.2.1
  have hR : 0 ≤ (Rrm_drop).frames ∧ 0 ≤ (Rrm_drop).locals := ⟨Nat.le_refl _, Nat.le_refl _⟩
  have hf : 0 ≤ (Rrm_drop).cells ∧ 0 ≤ (Rrm_drop).slots := ⟨Nat.zero_le _, Nat.zero_le _⟩
  have hl : lv_has ls 1 [(0, .ref (q 0))] := hl
  unfold Rm_drop at hm
  refine lv_aload_n hx hb dX9_drop_0 rfl (lv_at hl 0 rfl) ?_
  refine Rg_6 fx hC dX9_drop_1 ?_
  refine lv_if_ne (tgt := 10) hx hb dX9_drop_4 (by decide) (fun c_1 => ?_) (fun c_1 => ?_)
  · replace hm := ifn hm c_1
    refine lv_aload_n hx hb dX9_drop_10 rfl (lv_at hl 0 rfl) ?_
    refine lv_dup hx hb dX9_drop_11 rfl ?_
    refine Rg_6 fx hC dX9_drop_12 ?_
    refine lv_iconst (v := (1 : Int32)) hx hb dX9_drop_15 (by decide) ?_
    refine lv_isub hx hb dX9_drop_16 ?_
    refine Rp_6 fx hC dX9_drop_17 (fun H locs hC => ?_)
    obtain ⟨τ_2, e_3⟩ : ∃ z, z = (rS τ 6 ((τ.1 6) - (1 : Int32))) := ⟨_, rfl⟩
    rw [← e_3] at hC
    replace hm := nm_in hm e_3
    refine lv_aload_n hx hb dX9_drop_20 rfl (lv_at hl 0 rfl) ?_
    refine Rg_6 fx hC dX9_drop_21 ?_
    cases hm
    exact g_iret fx hr hC rfl dX9_drop_24
  · replace hm := ifp hm c_1
    refine lv_bipush (v := (-2 : Int32)) hx hb dX9_drop_7 (by decide) ?_
    cases hm
    exact g_iret fx hr hC rfl dX9_drop_9
def Rm_close (τ : RS) : Option (Int32 × RS) :=
  if (τ.1 2) = (0 : Int32) then (some ((-2 : Int32), τ)) else (nm (rS τ 2 ((τ.1 2) - (1 : Int32))) (fun τ_2 => some ((τ_2.1 2), τ_2)))
abbrev Rrm_close : Room := { frames := 0, cells := 0, slots := 0, locals := 0 }
set_option maxRecDepth 100000 in
set_option maxHeartbeats 4000000 in
theorem Rc_close (l : Launch) {D : va_G} {cy : Nat → ClassId} {ad : List Nat} {q : Nat → Nat} {X : va_W} (τ : RS) {o : Int32 × RS} (hm : Rm_close τ = some o) : GM l yX9_close cX9_close 1 (some .int) Rrm_close D cy (rwd cy q X) ad [.ref (q 0)] τ (some (.int o.1)) o.2 := by
  refine g_start RX9 rfl (by decide) (Nat.le_of_ble_eq_true rfl) ?_
  intro p e s m args below meth c fx hr hC ls hl
  have hx := fx.1
  have hb := fx.2.1
  have hR : 0 ≤ (Rrm_close).frames ∧ 0 ≤ (Rrm_close).locals := ⟨Nat.le_refl _, Nat.le_refl _⟩
  have hf : 0 ≤ (Rrm_close).cells ∧ 0 ≤ (Rrm_close).slots := ⟨Nat.zero_le _, Nat.zero_le _⟩
  have hl : lv_has ls 1 [(0, .ref (q 0))] := hl
  unfold Rm_close at hm
  refine lv_aload_n hx hb dX9_close_0 rfl (lv_at hl 0 rfl) ?_
  refine Rg_2 fx hC dX9_close_1 ?_
  refine lv_if_ne (tgt := 10) hx hb dX9_close_4 (by decide) (fun c_1 => ?_) (fun c_1 => ?_)
  · replace hm := ifn hm c_1
    refine lv_aload_n hx hb dX9_close_10 rfl (lv_at hl 0 rfl) ?_
    refine lv_dup hx hb dX9_close_11 rfl ?_
    refine Rg_2 fx hC dX9_close_12 ?_
    refine lv_iconst (v := (1 : Int32)) hx hb dX9_close_15 (by decide) ?_
    refine lv_isub hx hb dX9_close_16 ?_
    refine Rp_2 fx hC dX9_close_17 (fun H locs hC => ?_)
    obtain ⟨τ_2, e_3⟩ : ∃ z, z = (rS τ 2 ((τ.1 2) - (1 : Int32))) := ⟨_, rfl⟩
    rw [← e_3] at hC
    replace hm := nm_in hm e_3
    refine lv_aload_n hx hb dX9_close_20 rfl (lv_at hl 0 rfl) ?_
    refine Rg_2 fx hC dX9_close_21 ?_
    cases hm
    exact g_iret fx hr hC rfl dX9_close_24
  · replace hm := ifp hm c_1
    refine lv_bipush (v := (-2 : Int32)) hx hb dX9_close_7 (by decide) ?_
    cases hm
    exact g_iret fx hr hC rfl dX9_close_9
def Rs_knot_10 {ρ : Type} (p1 : Int32) (p2 : Int32) (p3 : Int32) (τ : RS) (kx52 : Int32 → Option ρ) (kx61 : Option ρ) (rc : Int32 → Option ρ) (v4 : Int32) : Option ρ :=
  if (τ.1 22) ≤ v4 then (kx61) else (gi v4 1100 (if (τ.2 23 (v4).toNatClampNeg) = p1 then (gi v4 1100 (if (τ.2 24 (v4).toNatClampNeg) = p2 then (gi v4 1100 (if (τ.2 25 (v4).toNatClampNeg) = p3 then (kx52 v4) else (rc (v4 + (1 : Int32))))) else (rc (v4 + (1 : Int32))))) else (rc (v4 + (1 : Int32)))))
def Rm_knot (τ : RS) (a1 : Int32) (a2 : Int32) (a3 : Int32) : Option (Int32 × RS) :=
  if a3 = (-1 : Int32) then (some (a2, τ)) else (it1 (Rs_knot_10 a1 a2 a3 τ (fun u_9 => some (u_9, τ)) (gi (τ.1 22) 1100 (nm (rA τ 23 ((τ.1 22)).toNatClampNeg a1) (fun τ_11 => gi (τ_11.1 22) 1100 (nm (rA τ_11 24 ((τ_11.1 22)).toNatClampNeg a2) (fun τ_14 => gi (τ_14.1 22) 1100 (nm (rA τ_14 25 ((τ_14.1 22)).toNatClampNeg a3) (fun τ_17 => nm (rS τ_17 22 ((τ_17.1 22) + (1 : Int32))) (fun τ_19 => some (((τ_19.1 22) - (1 : Int32)), τ_19)))))))))) fuel (0 : Int32))
abbrev Rrm_knot : Room := { frames := 0, cells := 0, slots := 0, locals := 0 }
set_option maxRecDepth 100000 in
set_option maxHeartbeats 4000000 in
theorem Rw_knot_10 {ρ : Type} {out : ρ} {p : Program} {l : Launch} {e : Env} {R : Room} {s : State} {m : MethodId} {args : Array Value} {below : List Frame} {meth : Method} {c : Code} {cells slots : Nat} {Q : State → Prop} {D : va_G} {cy : Nat → ClassId} {ad : List Nat} {q : Nat → Nat} {X : va_W} (τ : RS) (fx : FX p s m args meth c cX9_knot 5 RX9 D cy) (hR : 0 ≤ R.frames ∧ 0 ≤ R.locals) (hf : cells ≤ R.cells ∧ slots ≤ R.slots) (p1 : Int32) (p2 : Int32) (p3 : Int32) {kx52 : Int32 → Option ρ} {kx61 : Option ρ} :
    ∀ (n : Nat) (v4 : Int32), it1 (Rs_knot_10 p1 p2 p3 τ kx52 kx61) n v4 = some out → ∀ (H : Heap) (locs : List Loc) (ls : Array Slot), GC D (rwd cy q X) ad s τ H locs → lv_has ls 5 [(0, .ref (q 0)), (1, .int p1), (2, .int p2), (3, .int p3), (4, .int v4)] → (∀ (u4 : Int32) (H : Heap) (locs : List Loc) (ls : Array Slot), kx52 u4 = some out → GC D (rwd cy q X) ad s τ H locs → lv_has ls 5 [(4, .int u4)] → W p l e R s m args below meth c H locs cells slots Q (F0 m 52 ls [])) → (∀ (H : Heap) (locs : List Loc) (ls : Array Slot), kx61 = some out → GC D (rwd cy q X) ad s τ H locs → lv_has ls 5 [(0, .ref (q 0)), (1, .int p1), (2, .int p2), (3, .int p3)] → W p l e R s m args below meth c H locs cells slots Q (F0 m 61 ls [])) → W p l e R s m args below meth c H locs cells slots Q (F0 m 10 ls []) := by
  have hx := fx.1
  have hb := fx.2.1
  intro n
  induction n with
  | zero => intro v4 hm; exact (it1_z hm).elim
  | succ n ih =>
    intro v4 hm H locs ls hC hl hx52 hx61
    obtain ⟨rc, hrc⟩ : ∃ z, z = it1 (Rs_knot_10 p1 p2 p3 τ kx52 kx61) n := ⟨_, rfl⟩
    replace hm : Rs_knot_10 p1 p2 p3 τ kx52 kx61 rc v4 = some out := by rw [hrc]; exact hm
    unfold Rs_knot_10 at hm
    refine lv_iload hx hb dX9_knot_10 (lv_at hl 4 rfl) ?_
    refine lv_aload_n hx hb dX9_knot_12 rfl (lv_at hl 0 rfl) ?_
    refine Rg_22 fx hC dX9_knot_13 ?_
    refine lv_icmp_ge (tgt := 61) hx hb dX9_knot_16 (by decide) (fun c_2 => ?_) (fun c_2 => ?_)
    · replace hm := ifp hm c_2
      exact hx61 _ _ _ hm hC (lv_sub hl [0, 1, 2, 3] rfl)
    · replace hm := ifn hm c_2
      refine lv_aload_n hx hb dX9_knot_19 rfl (lv_at hl 0 rfl) ?_
      refine Rg_23 fx hC dX9_knot_20 ?_
      refine lv_iload hx hb dX9_knot_23 (lv_at hl 4 rfl) ?_
      have h_3 := (gi_in hm).1
      replace hm := (gi_in hm).2
      refine Rl_23 fx hC h_3 dX9_knot_25 ?_
      refine lv_iload_n hx hb dX9_knot_26 rfl (lv_at hl 1 rfl) ?_
      refine lv_icmp_ne (tgt := 55) hx hb dX9_knot_27 (by decide) (fun c_4 => ?_) (fun c_4 => ?_)
      · replace hm := ifn hm c_4
        refine lv_iinc (v := (v4 + (1 : Int32))) (lv' := [(4, .int (v4 + (1 : Int32))), (0, .ref (q 0)), (1, .int p1), (2, .int p2), (3, .int p3)]) hx hb dX9_knot_55 hl (k := 4) rfl rfl (by decide) rfl (fun ls hl => ?_)
        refine lv_goto (tgt := 10) hx hb dX9_knot_58 (by decide) ?_
        rw [hrc] at hm
        exact ih _ hm _ _ _ hC (lv_sub hl [1, 2, 3, 4, 0] rfl) hx52 hx61
      · replace hm := ifp hm c_4
        refine lv_aload_n hx hb dX9_knot_30 rfl (lv_at hl 0 rfl) ?_
        refine Rg_24 fx hC dX9_knot_31 ?_
        refine lv_iload hx hb dX9_knot_34 (lv_at hl 4 rfl) ?_
        have h_5 := (gi_in hm).1
        replace hm := (gi_in hm).2
        refine Rl_24 fx hC h_5 dX9_knot_36 ?_
        refine lv_iload_n hx hb dX9_knot_37 rfl (lv_at hl 2 rfl) ?_
        refine lv_icmp_ne (tgt := 55) hx hb dX9_knot_38 (by decide) (fun c_6 => ?_) (fun c_6 => ?_)
        · replace hm := ifn hm c_6
          refine lv_iinc (v := (v4 + (1 : Int32))) (lv' := [(4, .int (v4 + (1 : Int32))), (0, .ref (q 0)), (1, .int p1), (2, .int p2), (3, .int p3)]) hx hb dX9_knot_55 hl (k := 4) rfl rfl (by decide) rfl (fun ls hl => ?_)
          refine lv_goto (tgt := 10) hx hb dX9_knot_58 (by decide) ?_
          rw [hrc] at hm
          exact ih _ hm _ _ _ hC (lv_sub hl [1, 2, 3, 4, 0] rfl) hx52 hx61
        · replace hm := ifp hm c_6
          refine lv_aload_n hx hb dX9_knot_41 rfl (lv_at hl 0 rfl) ?_
          refine Rg_25 fx hC dX9_knot_42 ?_
          refine lv_iload hx hb dX9_knot_45 (lv_at hl 4 rfl) ?_
          have h_7 := (gi_in hm).1
          replace hm := (gi_in hm).2
          refine Rl_25 fx hC h_7 dX9_knot_47 ?_
          refine lv_iload_n hx hb dX9_knot_48 rfl (lv_at hl 3 rfl) ?_
          refine lv_icmp_ne (tgt := 55) hx hb dX9_knot_49 (by decide) (fun c_8 => ?_) (fun c_8 => ?_)
          · replace hm := ifn hm c_8
            refine lv_iinc (v := (v4 + (1 : Int32))) (lv' := [(4, .int (v4 + (1 : Int32))), (0, .ref (q 0)), (1, .int p1), (2, .int p2), (3, .int p3)]) hx hb dX9_knot_55 hl (k := 4) rfl rfl (by decide) rfl (fun ls hl => ?_)
            refine lv_goto (tgt := 10) hx hb dX9_knot_58 (by decide) ?_
            rw [hrc] at hm
            exact ih _ hm _ _ _ hC (lv_sub hl [1, 2, 3, 4, 0] rfl) hx52 hx61
          · replace hm := ifp hm c_8
            exact hx52 _ _ _ _ hm hC (lv_sub hl [4] rfl)
set_option maxRecDepth 100000 in
set_option maxHeartbeats 4000000 in
theorem Rc_knot (l : Launch) {D : va_G} {cy : Nat → ClassId} {ad : List Nat} {q : Nat → Nat} {X : va_W} (τ : RS) (a1 : Int32) (a2 : Int32) (a3 : Int32) {o : Int32 × RS} (hm : Rm_knot τ a1 a2 a3 = some o) : GM l yX9_knot cX9_knot 5 (some .int) Rrm_knot D cy (rwd cy q X) ad [.ref (q 0), .int a1, .int a2, .int a3] τ (some (.int o.1)) o.2 := by
  refine g_start RX9 rfl (by decide) (Nat.le_of_ble_eq_true rfl) ?_
  intro p e s m args below meth c fx hr hC ls hl
  have hx := fx.1
  have hb := fx.2.1
  have hR : 0 ≤ (Rrm_knot).frames ∧ 0 ≤ (Rrm_knot).locals := ⟨Nat.le_refl _, Nat.le_refl _⟩
  have hf : 0 ≤ (Rrm_knot).cells ∧ 0 ≤ (Rrm_knot).slots := ⟨Nat.zero_le _, Nat.zero_le _⟩
  have hl : lv_has ls 5 [(0, .ref (q 0)), (1, .int a1), (2, .int a2), (3, .int a3)] := hl
  unfold Rm_knot at hm
  refine lv_iload_n hx hb dX9_knot_0 rfl (lv_at hl 3 rfl) ?_
  refine lv_iconst (v := (-1 : Int32)) hx hb dX9_knot_1 (by decide) ?_
  refine lv_icmp_ne (tgt := 7) hx hb dX9_knot_2 (by decide) (fun c_1 => ?_) (fun c_1 => ?_)
  · replace hm := ifn hm c_1
    refine lv_iconst (v := (0 : Int32)) hx hb dX9_knot_7 (by decide) ?_
    refine lv_istore (lv' := [(4, .int (0 : Int32)), (0, .ref (q 0)), (1, .int a1), (2, .int a2), (3, .int a3)]) hx hb dX9_knot_8 hl (by decide) rfl (fun ls hl => ?_)
    refine Rw_knot_10 τ fx hR hf a1 a2 a3 fuel (0 : Int32) hm _ _ _ hC (lv_sub hl [1, 2, 3, 4, 0] rfl) (fun u_9 H locs ls hm hC hl => ?_) (fun  H locs ls hm hC hl => ?_)
    · refine lv_iload hx hb dX9_knot_52 (lv_at hl 0 rfl) ?_
      cases hm
      exact g_iret fx hr hC rfl dX9_knot_54
    · refine lv_aload_n hx hb dX9_knot_61 rfl (lv_at hl 0 rfl) ?_
      refine Rg_23 fx hC dX9_knot_62 ?_
      refine lv_aload_n hx hb dX9_knot_65 rfl (lv_at hl 0 rfl) ?_
      refine Rg_22 fx hC dX9_knot_66 ?_
      refine lv_iload_n hx hb dX9_knot_69 rfl (lv_at hl 1 rfl) ?_
      have h_10 := (gi_in hm).1
      replace hm := (gi_in hm).2
      refine Rs_23 fx hC h_10 dX9_knot_70 (fun H locs hC => ?_)
      obtain ⟨τ_11, e_12⟩ : ∃ z, z = (rA τ 23 ((τ.1 22)).toNatClampNeg a1) := ⟨_, rfl⟩
      rw [← e_12] at hC
      replace hm := nm_in hm e_12
      refine lv_aload_n hx hb dX9_knot_71 rfl (lv_at hl 0 rfl) ?_
      refine Rg_24 fx hC dX9_knot_72 ?_
      refine lv_aload_n hx hb dX9_knot_75 rfl (lv_at hl 0 rfl) ?_
      refine Rg_22 fx hC dX9_knot_76 ?_
      refine lv_iload_n hx hb dX9_knot_79 rfl (lv_at hl 2 rfl) ?_
      have h_13 := (gi_in hm).1
      replace hm := (gi_in hm).2
      refine Rs_24 fx hC h_13 dX9_knot_80 (fun H locs hC => ?_)
      obtain ⟨τ_14, e_15⟩ : ∃ z, z = (rA τ_11 24 ((τ_11.1 22)).toNatClampNeg a2) := ⟨_, rfl⟩
      rw [← e_15] at hC
      replace hm := nm_in hm e_15
      refine lv_aload_n hx hb dX9_knot_81 rfl (lv_at hl 0 rfl) ?_
      refine Rg_25 fx hC dX9_knot_82 ?_
      refine lv_aload_n hx hb dX9_knot_85 rfl (lv_at hl 0 rfl) ?_
      refine Rg_22 fx hC dX9_knot_86 ?_
      refine lv_iload_n hx hb dX9_knot_89 rfl (lv_at hl 3 rfl) ?_
      have h_16 := (gi_in hm).1
      replace hm := (gi_in hm).2
      refine Rs_25 fx hC h_16 dX9_knot_90 (fun H locs hC => ?_)
      obtain ⟨τ_17, e_18⟩ : ∃ z, z = (rA τ_14 25 ((τ_14.1 22)).toNatClampNeg a3) := ⟨_, rfl⟩
      rw [← e_18] at hC
      replace hm := nm_in hm e_18
      refine lv_aload_n hx hb dX9_knot_91 rfl (lv_at hl 0 rfl) ?_
      refine lv_dup hx hb dX9_knot_92 rfl ?_
      refine Rg_22 fx hC dX9_knot_93 ?_
      refine lv_iconst (v := (1 : Int32)) hx hb dX9_knot_96 (by decide) ?_
      refine lv_iadd hx hb dX9_knot_97 ?_
      refine Rp_22 fx hC dX9_knot_98 (fun H locs hC => ?_)
      obtain ⟨τ_19, e_20⟩ : ∃ z, z = (rS τ_17 22 ((τ_17.1 22) + (1 : Int32))) := ⟨_, rfl⟩
      rw [← e_20] at hC
      replace hm := nm_in hm e_20
      refine lv_aload_n hx hb dX9_knot_101 rfl (lv_at hl 0 rfl) ?_
      refine Rg_22 fx hC dX9_knot_102 ?_
      refine lv_iconst (v := (1 : Int32)) hx hb dX9_knot_105 (by decide) ?_
      refine lv_isub hx hb dX9_knot_106 ?_
      cases hm
      exact g_iret fx hr hC rfl dX9_knot_107
  · replace hm := ifp hm c_1
    refine lv_iload_n hx hb dX9_knot_5 rfl (lv_at hl 2 rfl) ?_
    cases hm
    exact g_iret fx hr hC rfl dX9_knot_6
def Rs_turnedMask_4 {ρ : Type} (p0 : Int32) (p1 : Int32) (kx43 : Int32 → Option ρ) (rc : Int32 → Int32 → Option ρ) (v2 : Int32) (v3 : Int32) : Option ρ :=
  if (12 : Int32) ≤ v3 then (kx43 v2) else (if (Rm_holds p0 v3) = (0 : Int32) then (rc (v2 ||| (0 : Int32)) (v3 + (1 : Int32))) else (nm (v2 ||| ((1 : Int32) <<< (((((v3 + (1 : Int32)) * p1) - ((v3 + (1 : Int32)) * p1) / (13 : Int32) * (13 : Int32)) - (1 : Int32)) &&& 31))) (fun x_3 => rc x_3 (v3 + (1 : Int32)))))
def Rm_turnedMask (a1 : Int32) (a2 : Int32) : Option Int32 :=
  it2 (Rs_turnedMask_4 a1 a2 (fun u_4 => some u_4)) fuel (0 : Int32) (0 : Int32)
abbrev Rrm_turnedMask : Room := { frames := 1, cells := 0, slots := 0, locals := 21 }
set_option maxRecDepth 100000 in
set_option maxHeartbeats 4000000 in
theorem Rw_turnedMask_4 {ρ : Type} {out : ρ} {p : Program} {l : Launch} {e : Env} {R : Room} {s : State} {m : MethodId} {args : Array Value} {below : List Frame} {meth : Method} {c : Code} {cells slots : Nat} {Q : State → Prop} {D : va_G} {cy : Nat → ClassId} {ad : List Nat} {σ : Type} {wd : σ → va_W} (hw : ∀ x y : σ, (wd x).map (·.1) = (wd y).map (·.1)) {τ : σ} (fx : FX p s m args meth c cX9_turnedMask 4 RX9 D cy) (hR : 1 ≤ R.frames ∧ 21 ≤ R.locals) (hf : cells ≤ R.cells ∧ slots ≤ R.slots) (p0 : Int32) (p1 : Int32) {kx43 : Int32 → Option ρ} :
    ∀ (n : Nat) (v2 : Int32) (v3 : Int32), it2 (Rs_turnedMask_4 p0 p1 kx43) n v2 v3 = some out → ∀ (H : Heap) (locs : List Loc) (ls : Array Slot), GC D wd ad s τ H locs → lv_has ls 4 [(0, .int p0), (1, .int p1), (2, .int v2), (3, .int v3)] → (∀ (u2 : Int32) (H : Heap) (locs : List Loc) (ls : Array Slot), kx43 u2 = some out → GC D wd ad s τ H locs → lv_has ls 4 [(2, .int u2)] → W p l e R s m args below meth c H locs cells slots Q (F0 m 43 ls [])) → W p l e R s m args below meth c H locs cells slots Q (F0 m 4 ls []) := by
  have hx := fx.1
  have hb := fx.2.1
  intro n
  induction n with
  | zero => intro v2 v3 hm; exact (it2_z hm).elim
  | succ n ih =>
    intro v2 v3 hm H locs ls hC hl hx43
    obtain ⟨rc, hrc⟩ : ∃ z, z = it2 (Rs_turnedMask_4 p0 p1 kx43) n := ⟨_, rfl⟩
    replace hm : Rs_turnedMask_4 p0 p1 kx43 rc v2 v3 = some out := by rw [hrc]; exact hm
    unfold Rs_turnedMask_4 at hm
    refine lv_iload_n hx hb dX9_turnedMask_4 rfl (lv_at hl 3 rfl) ?_
    refine lv_bipush (v := (12 : Int32)) hx hb dX9_turnedMask_5 (by decide) ?_
    refine lv_icmp_ge (tgt := 43) hx hb dX9_turnedMask_7 (by decide) (fun c_1 => ?_) (fun c_1 => ?_)
    · replace hm := ifp hm c_1
      exact hx43 _ _ _ _ hm hC (lv_sub hl [2] rfl)
    · replace hm := ifn hm c_1
      refine lv_iload_n hx hb dX9_turnedMask_10 rfl (lv_at hl 2 rfl) ?_
      refine lv_iload_n hx hb dX9_turnedMask_11 rfl (lv_at hl 0 rfl) ?_
      refine lv_iload_n hx hb dX9_turnedMask_12 rfl (lv_at hl 3 rfl) ?_
      refine g_callSi (As := [.int p0, .int v3]) (rest := [.int v2]) fx hC hw (Rc_holds l hw τ p0 v3) k_323 Rk_holds Rh_holds ⟨rfl, rfl⟩ ⟨Nat.le_trans (Nat.le_of_ble_eq_true rfl) hR.1, Nat.le_trans (Nat.le_of_ble_eq_true rfl) hR.2⟩ hf rfl hl.1 rfl (Nat.le_of_ble_eq_true rfl) dX9_turnedMask_13 (fun H locs hC => ?_)
      refine lv_if_eq (tgt := 34) hx hb dX9_turnedMask_16 (by decide) (fun c_2 => ?_) (fun c_2 => ?_)
      · replace hm := ifp hm c_2
        refine lv_iconst (v := (0 : Int32)) hx hb dX9_turnedMask_34 (by decide) ?_
        refine lv_ior hx hb dX9_turnedMask_35 ?_
        refine lv_istore_n (lv' := [(2, .int (v2 ||| (0 : Int32))), (0, .int p0), (1, .int p1), (3, .int v3)]) hx hb dX9_turnedMask_36 rfl hl (by decide) rfl (fun ls hl => ?_)
        refine lv_iinc (v := (v3 + (1 : Int32))) (lv' := [(3, .int (v3 + (1 : Int32))), (2, .int (v2 ||| (0 : Int32))), (0, .int p0), (1, .int p1)]) hx hb dX9_turnedMask_37 hl (k := 3) rfl rfl (by decide) rfl (fun ls hl => ?_)
        refine lv_goto (tgt := 4) hx hb dX9_turnedMask_40 (by decide) ?_
        rw [hrc] at hm
        exact ih _ _ hm _ _ _ hC (lv_sub hl [2, 3, 1, 0] rfl) hx43
      · replace hm := ifn hm c_2
        refine lv_iconst (v := (1 : Int32)) hx hb dX9_turnedMask_19 (by decide) ?_
        refine lv_iload_n hx hb dX9_turnedMask_20 rfl (lv_at hl 3 rfl) ?_
        refine lv_iconst (v := (1 : Int32)) hx hb dX9_turnedMask_21 (by decide) ?_
        refine lv_iadd hx hb dX9_turnedMask_22 ?_
        refine lv_iload_n hx hb dX9_turnedMask_23 rfl (lv_at hl 1 rfl) ?_
        refine lv_imul hx hb dX9_turnedMask_24 ?_
        refine lv_bipush (v := (13 : Int32)) hx hb dX9_turnedMask_25 (by decide) ?_
        refine lv_irem hx hb dX9_turnedMask_27 (by decide) ?_
        refine lv_iconst (v := (1 : Int32)) hx hb dX9_turnedMask_28 (by decide) ?_
        refine lv_isub hx hb dX9_turnedMask_29 ?_
        refine lv_ishl hx hb dX9_turnedMask_30 ?_
        refine lv_goto (tgt := 35) hx hb dX9_turnedMask_31 (by decide) ?_
        refine lv_ior hx hb dX9_turnedMask_35 ?_
        refine lv_topi (fun x_3 ex_3 => ?_)
        replace hm := nm_in hm ex_3
        refine lv_istore_n (lv' := [(2, .int x_3), (0, .int p0), (1, .int p1), (3, .int v3)]) hx hb dX9_turnedMask_36 rfl hl (by decide) rfl (fun ls hl => ?_)
        refine lv_iinc (v := (v3 + (1 : Int32))) (lv' := [(3, .int (v3 + (1 : Int32))), (2, .int x_3), (0, .int p0), (1, .int p1)]) hx hb dX9_turnedMask_37 hl (k := 3) rfl rfl (by decide) rfl (fun ls hl => ?_)
        refine lv_goto (tgt := 4) hx hb dX9_turnedMask_40 (by decide) ?_
        rw [hrc] at hm
        exact ih _ _ hm _ _ _ hC (lv_sub hl [2, 3, 1, 0] rfl) hx43
set_option maxRecDepth 100000 in
set_option maxHeartbeats 4000000 in
theorem Rc_turnedMask (l : Launch) {D : va_G} {cy : Nat → ClassId} {ad : List Nat} {σ : Type} {wd : σ → va_W} (hw : ∀ x y : σ, (wd x).map (·.1) = (wd y).map (·.1)) (τ : σ) (a1 : Int32) (a2 : Int32) {o : Int32} (hm : Rm_turnedMask a1 a2 = some o) : GM l yX9_turnedMask cX9_turnedMask 4 (some .int) Rrm_turnedMask D cy wd ad [.int a1, .int a2] τ (some (.int o)) τ := by
  refine g_start RX9 rfl (by decide) (Nat.le_of_ble_eq_true rfl) ?_
  intro p e s m args below meth c fx hr hC ls hl
  have hx := fx.1
  have hb := fx.2.1
  have hR : 1 ≤ (Rrm_turnedMask).frames ∧ 21 ≤ (Rrm_turnedMask).locals := ⟨Nat.le_refl _, Nat.le_refl _⟩
  have hf : 0 ≤ (Rrm_turnedMask).cells ∧ 0 ≤ (Rrm_turnedMask).slots := ⟨Nat.zero_le _, Nat.zero_le _⟩
  have hl : lv_has ls 4 [(0, .int a1), (1, .int a2)] := hl
  unfold Rm_turnedMask at hm
  refine lv_iconst (v := (0 : Int32)) hx hb dX9_turnedMask_0 (by decide) ?_
  refine lv_istore_n (lv' := [(2, .int (0 : Int32)), (0, .int a1), (1, .int a2)]) hx hb dX9_turnedMask_1 rfl hl (by decide) rfl (fun ls hl => ?_)
  refine lv_iconst (v := (0 : Int32)) hx hb dX9_turnedMask_2 (by decide) ?_
  refine lv_istore_n (lv' := [(3, .int (0 : Int32)), (2, .int (0 : Int32)), (0, .int a1), (1, .int a2)]) hx hb dX9_turnedMask_3 rfl hl (by decide) rfl (fun ls hl => ?_)
  refine Rw_turnedMask_4 hw fx hR hf a1 a2 fuel (0 : Int32) (0 : Int32) hm _ _ _ hC (lv_sub hl [2, 3, 1, 0] rfl) (fun u_4 H locs ls hm hC hl => ?_)
  refine lv_iload_n hx hb dX9_turnedMask_43 rfl (lv_at hl 0 rfl) ?_
  cases hm
  exact g_iret fx hr hC rfl dX9_turnedMask_44
def Rs_bookOf_7 {ρ : Type} (p1 : Int32) (p2 : Int32) (kx45 : RS → Option ρ) (rc : Int32 → RS → Option ρ) (v3 : Int32) (τ : RS) : Option ρ :=
  if (4096 : Int32) ≤ v3 then (kx45  τ) else (b1 (Rm_turnedMask v3 p2) (fun r_5 => b1 (Rm_isWay τ p1 v3) (fun r_7 => if r_7 = (0 : Int32) then (gi r_5 4096 (nm (rA τ 26 (r_5).toNatClampNeg (-1 : Int32)) (fun τ_10 => rc (v3 + (1 : Int32)) τ_10))) else (gi r_5 4096 (nm (rA τ 26 (r_5).toNatClampNeg (-2 : Int32)) (fun τ_13 => rc (v3 + (1 : Int32)) τ_13))))))
def Rs_bookOf_55 {ρ : Type} (p3 : Int32) (kx99 : RS → Option ρ) (rc : Int32 → RS → Option ρ) (v4 : Int32) (τ : RS) : Option ρ :=
  if ((1 : Int32) <<< (p3 &&& 31)) ≤ v4 then (kx99  τ) else (gi v4 4096 (gi (v4 ||| ((1 : Int32) <<< (p3 &&& 31))) 4096 (b2 (Rm_knot τ p3 (τ.2 26 (v4).toNatClampNeg) (τ.2 26 ((v4 ||| ((1 : Int32) <<< (p3 &&& 31)))).toNatClampNeg)) (fun r_21 τ_22 => gi v4 4096 (nm (rA τ_22 26 (v4).toNatClampNeg r_21) (fun τ_24 => rc (v4 + (1 : Int32)) τ_24))))))
def Rs_bookOf_48 {ρ : Type} (kx105 : RS → Option ρ) (rc : Int32 → RS → Option ρ) (v3 : Int32) (τ : RS) : Option ρ :=
  if v3 < (0 : Int32) then (kx105  τ) else (it2 (Rs_bookOf_55 v3 (fun τ_26 => rc (v3 + (-1 : Int32)) τ_26)) fuel (0 : Int32) τ)
def Rm_bookOf (τ : RS) (a1 : Int32) (a2 : Int32) : Option (Int32 × RS) :=
  nm (rS τ 22 (0 : Int32)) (fun τ_1 => it2 (Rs_bookOf_7 a1 a2 (fun τ_15 => it2 (Rs_bookOf_48 (fun τ_27 => gi (0 : Int32) 4096 (some ((τ_27.2 26 ((0 : Int32)).toNatClampNeg), τ_27)))) fuel (11 : Int32) τ_15)) fuel (0 : Int32) τ_1)
abbrev Rrm_bookOf : Room := { frames := 2, cells := 0, slots := 0, locals := 44 }
set_option maxRecDepth 100000 in
set_option maxHeartbeats 4000000 in
theorem Rw_bookOf_7 {ρ : Type} {out : ρ} {p : Program} {l : Launch} {e : Env} {R : Room} {s : State} {m : MethodId} {args : Array Value} {below : List Frame} {meth : Method} {c : Code} {cells slots : Nat} {Q : State → Prop} {D : va_G} {cy : Nat → ClassId} {ad : List Nat} {q : Nat → Nat} {X : va_W} (fx : FX p s m args meth c cX9_bookOf 5 RX9 D cy) (hR : 2 ≤ R.frames ∧ 44 ≤ R.locals) (hf : cells ≤ R.cells ∧ slots ≤ R.slots) (p1 : Int32) (p2 : Int32) {kx45 : RS → Option ρ} :
    ∀ (n : Nat) (v3 : Int32) (τ : RS), it2 (Rs_bookOf_7 p1 p2 kx45) n v3 τ = some out → ∀ (H : Heap) (locs : List Loc) (ls : Array Slot), GC D (rwd cy q X) ad s τ H locs → lv_has ls 5 [(0, .ref (q 0)), (1, .int p1), (2, .int p2), (3, .int v3)] → (∀ (τ2 : RS) (H : Heap) (locs : List Loc) (ls : Array Slot), kx45 τ2 = some out → GC D (rwd cy q X) ad s τ2 H locs → lv_has ls 5 [(0, .ref (q 0))] → W p l e R s m args below meth c H locs cells slots Q (F0 m 45 ls [])) → W p l e R s m args below meth c H locs cells slots Q (F0 m 7 ls []) := by
  have hx := fx.1
  have hb := fx.2.1
  intro n
  induction n with
  | zero => intro v3 τ hm; exact (it2_z hm).elim
  | succ n ih =>
    intro v3 τ hm H locs ls hC hl hx45
    obtain ⟨rc, hrc⟩ : ∃ z, z = it2 (Rs_bookOf_7 p1 p2 kx45) n := ⟨_, rfl⟩
    replace hm : Rs_bookOf_7 p1 p2 kx45 rc v3 τ = some out := by rw [hrc]; exact hm
    unfold Rs_bookOf_7 at hm
    refine lv_iload_n hx hb dX9_bookOf_7 rfl (lv_at hl 3 rfl) ?_
    refine lv_sipush (v := (4096 : Int32)) hx hb dX9_bookOf_8 (by decide) ?_
    refine lv_icmp_ge (tgt := 45) hx hb dX9_bookOf_11 (by decide) (fun c_3 => ?_) (fun c_3 => ?_)
    · replace hm := ifp hm c_3
      exact hx45 _ _ _ _ hm hC (lv_sub hl [0] rfl)
    · replace hm := ifn hm c_3
      refine lv_aload_n hx hb dX9_bookOf_14 rfl (lv_at hl 0 rfl) ?_
      refine Rg_26 fx hC dX9_bookOf_15 ?_
      refine lv_iload_n hx hb dX9_bookOf_18 rfl (lv_at hl 3 rfl) ?_
      refine lv_iload_n hx hb dX9_bookOf_19 rfl (lv_at hl 2 rfl) ?_
      obtain ⟨r_5, e_4, hm⟩ := b1_in hm
      refine g_callSi (As := [.int v3, .int p2]) (rest := [.ref (q 26)]) fx hC rw_w (Rc_turnedMask l rw_w τ v3 p2 e_4) k_737 Rk_turnedMask Rh_turnedMask ⟨rfl, rfl⟩ ⟨Nat.le_trans (Nat.le_of_ble_eq_true rfl) hR.1, Nat.le_trans (Nat.le_of_ble_eq_true rfl) hR.2⟩ hf rfl hl.1 rfl (Nat.le_of_ble_eq_true rfl) dX9_bookOf_20 (fun H locs hC => ?_)
      refine lv_aload_n hx hb dX9_bookOf_23 rfl (lv_at hl 0 rfl) ?_
      refine lv_iload_n hx hb dX9_bookOf_24 rfl (lv_at hl 1 rfl) ?_
      refine lv_iload_n hx hb dX9_bookOf_25 rfl (lv_at hl 3 rfl) ?_
      obtain ⟨r_7, e_6, hm⟩ := b1_in hm
      refine g_callVi (k0 := 0) (ci := 9) (As := [.int p1, .int v3]) (rest := [.int r_5, .ref (q 26)]) fx hC rw_w (Rc_isWay l τ p1 v3 e_6) k_453 Rk_isWay Rh_isWay rfl rfl rfl ⟨rfl, rfl⟩ ⟨Nat.le_trans (Nat.le_of_ble_eq_true rfl) hR.1, Nat.le_trans (Nat.le_of_ble_eq_true rfl) hR.2⟩ hf rfl hl.1 rfl (Nat.le_of_ble_eq_true rfl) dX9_bookOf_26 (fun H locs hC => ?_)
      refine lv_if_eq (tgt := 37) hx hb dX9_bookOf_29 (by decide) (fun c_8 => ?_) (fun c_8 => ?_)
      · replace hm := ifp hm c_8
        refine lv_iconst (v := (-1 : Int32)) hx hb dX9_bookOf_37 (by decide) ?_
        have h_9 := (gi_in hm).1
        replace hm := (gi_in hm).2
        refine Rs_26 fx hC h_9 dX9_bookOf_38 (fun H locs hC => ?_)
        obtain ⟨τ_10, e_11⟩ : ∃ z, z = (rA τ 26 (r_5).toNatClampNeg (-1 : Int32)) := ⟨_, rfl⟩
        rw [← e_11] at hC
        replace hm := nm_in hm e_11
        refine lv_iinc (v := (v3 + (1 : Int32))) (lv' := [(3, .int (v3 + (1 : Int32))), (0, .ref (q 0)), (1, .int p1), (2, .int p2)]) hx hb dX9_bookOf_39 hl (k := 3) rfl rfl (by decide) rfl (fun ls hl => ?_)
        refine lv_goto (tgt := 7) hx hb dX9_bookOf_42 (by decide) ?_
        rw [hrc] at hm
        exact ih _ _ hm _ _ _ hC (lv_sub hl [1, 2, 3, 0] rfl) hx45
      · replace hm := ifn hm c_8
        refine lv_bipush (v := (-2 : Int32)) hx hb dX9_bookOf_32 (by decide) ?_
        refine lv_goto (tgt := 38) hx hb dX9_bookOf_34 (by decide) ?_
        have h_12 := (gi_in hm).1
        replace hm := (gi_in hm).2
        refine Rs_26 fx hC h_12 dX9_bookOf_38 (fun H locs hC => ?_)
        obtain ⟨τ_13, e_14⟩ : ∃ z, z = (rA τ 26 (r_5).toNatClampNeg (-2 : Int32)) := ⟨_, rfl⟩
        rw [← e_14] at hC
        replace hm := nm_in hm e_14
        refine lv_iinc (v := (v3 + (1 : Int32))) (lv' := [(3, .int (v3 + (1 : Int32))), (0, .ref (q 0)), (1, .int p1), (2, .int p2)]) hx hb dX9_bookOf_39 hl (k := 3) rfl rfl (by decide) rfl (fun ls hl => ?_)
        refine lv_goto (tgt := 7) hx hb dX9_bookOf_42 (by decide) ?_
        rw [hrc] at hm
        exact ih _ _ hm _ _ _ hC (lv_sub hl [1, 2, 3, 0] rfl) hx45
set_option maxRecDepth 100000 in
set_option maxHeartbeats 4000000 in
theorem Rw_bookOf_55 {ρ : Type} {out : ρ} {p : Program} {l : Launch} {e : Env} {R : Room} {s : State} {m : MethodId} {args : Array Value} {below : List Frame} {meth : Method} {c : Code} {cells slots : Nat} {Q : State → Prop} {D : va_G} {cy : Nat → ClassId} {ad : List Nat} {q : Nat → Nat} {X : va_W} (fx : FX p s m args meth c cX9_bookOf 5 RX9 D cy) (hR : 2 ≤ R.frames ∧ 44 ≤ R.locals) (hf : cells ≤ R.cells ∧ slots ≤ R.slots) (p3 : Int32) {kx99 : RS → Option ρ} :
    ∀ (n : Nat) (v4 : Int32) (τ : RS), it2 (Rs_bookOf_55 p3 kx99) n v4 τ = some out → ∀ (H : Heap) (locs : List Loc) (ls : Array Slot), GC D (rwd cy q X) ad s τ H locs → lv_has ls 5 [(0, .ref (q 0)), (3, .int p3), (4, .int v4)] → (∀ (τ2 : RS) (H : Heap) (locs : List Loc) (ls : Array Slot), kx99 τ2 = some out → GC D (rwd cy q X) ad s τ2 H locs → lv_has ls 5 [(0, .ref (q 0)), (3, .int p3)] → W p l e R s m args below meth c H locs cells slots Q (F0 m 99 ls [])) → W p l e R s m args below meth c H locs cells slots Q (F0 m 55 ls []) := by
  have hx := fx.1
  have hb := fx.2.1
  intro n
  induction n with
  | zero => intro v4 τ hm; exact (it2_z hm).elim
  | succ n ih =>
    intro v4 τ hm H locs ls hC hl hx99
    obtain ⟨rc, hrc⟩ : ∃ z, z = it2 (Rs_bookOf_55 p3 kx99) n := ⟨_, rfl⟩
    replace hm : Rs_bookOf_55 p3 kx99 rc v4 τ = some out := by rw [hrc]; exact hm
    unfold Rs_bookOf_55 at hm
    refine lv_iload hx hb dX9_bookOf_55 (lv_at hl 2 rfl) ?_
    refine lv_iconst (v := (1 : Int32)) hx hb dX9_bookOf_57 (by decide) ?_
    refine lv_iload_n hx hb dX9_bookOf_58 rfl (lv_at hl 1 rfl) ?_
    refine lv_ishl hx hb dX9_bookOf_59 ?_
    refine lv_icmp_ge (tgt := 99) hx hb dX9_bookOf_60 (by decide) (fun c_17 => ?_) (fun c_17 => ?_)
    · replace hm := ifp hm c_17
      exact hx99 _ _ _ _ hm hC (lv_sub hl [0, 1] rfl)
    · replace hm := ifn hm c_17
      refine lv_aload_n hx hb dX9_bookOf_63 rfl (lv_at hl 0 rfl) ?_
      refine Rg_26 fx hC dX9_bookOf_64 ?_
      refine lv_iload hx hb dX9_bookOf_67 (lv_at hl 2 rfl) ?_
      refine lv_aload_n hx hb dX9_bookOf_69 rfl (lv_at hl 0 rfl) ?_
      refine lv_iload_n hx hb dX9_bookOf_70 rfl (lv_at hl 1 rfl) ?_
      refine lv_aload_n hx hb dX9_bookOf_71 rfl (lv_at hl 0 rfl) ?_
      refine Rg_26 fx hC dX9_bookOf_72 ?_
      refine lv_iload hx hb dX9_bookOf_75 (lv_at hl 2 rfl) ?_
      have h_18 := (gi_in hm).1
      replace hm := (gi_in hm).2
      refine Rl_26 fx hC h_18 dX9_bookOf_77 ?_
      refine lv_aload_n hx hb dX9_bookOf_78 rfl (lv_at hl 0 rfl) ?_
      refine Rg_26 fx hC dX9_bookOf_79 ?_
      refine lv_iload hx hb dX9_bookOf_82 (lv_at hl 2 rfl) ?_
      refine lv_iconst (v := (1 : Int32)) hx hb dX9_bookOf_84 (by decide) ?_
      refine lv_iload_n hx hb dX9_bookOf_85 rfl (lv_at hl 1 rfl) ?_
      refine lv_ishl hx hb dX9_bookOf_86 ?_
      refine lv_ior hx hb dX9_bookOf_87 ?_
      have h_19 := (gi_in hm).1
      replace hm := (gi_in hm).2
      refine Rl_26 fx hC h_19 dX9_bookOf_88 ?_
      obtain ⟨r_21, τ_22, e_20, hm⟩ := b2_in hm
      refine g_callVi (k0 := 0) (ci := 9) (As := [.int p3, .int (τ.2 26 (v4).toNatClampNeg), .int (τ.2 26 ((v4 ||| ((1 : Int32) <<< (p3 &&& 31)))).toNatClampNeg)]) (rest := [.int v4, .ref (q 26)]) fx hC rw_w (Rc_knot l τ p3 (τ.2 26 (v4).toNatClampNeg) (τ.2 26 ((v4 ||| ((1 : Int32) <<< (p3 &&& 31)))).toNatClampNeg) e_20) k_740 Rk_knot Rh_knot rfl rfl rfl ⟨rfl, rfl⟩ ⟨Nat.le_trans (Nat.le_of_ble_eq_true rfl) hR.1, Nat.le_trans (Nat.le_of_ble_eq_true rfl) hR.2⟩ hf rfl hl.1 rfl (Nat.le_of_ble_eq_true rfl) dX9_bookOf_89 (fun H locs hC => ?_)
      have h_23 := (gi_in hm).1
      replace hm := (gi_in hm).2
      refine Rs_26 fx hC h_23 dX9_bookOf_92 (fun H locs hC => ?_)
      obtain ⟨τ_24, e_25⟩ : ∃ z, z = (rA τ_22 26 (v4).toNatClampNeg r_21) := ⟨_, rfl⟩
      rw [← e_25] at hC
      replace hm := nm_in hm e_25
      refine lv_iinc (v := (v4 + (1 : Int32))) (lv' := [(4, .int (v4 + (1 : Int32))), (0, .ref (q 0)), (3, .int p3)]) hx hb dX9_bookOf_93 hl (k := 2) rfl rfl (by decide) rfl (fun ls hl => ?_)
      refine lv_goto (tgt := 55) hx hb dX9_bookOf_96 (by decide) ?_
      rw [hrc] at hm
      exact ih _ _ hm _ _ _ hC (lv_sub hl [1, 2, 0] rfl) hx99
set_option maxRecDepth 100000 in
set_option maxHeartbeats 4000000 in
theorem Rw_bookOf_48 {ρ : Type} {out : ρ} {p : Program} {l : Launch} {e : Env} {R : Room} {s : State} {m : MethodId} {args : Array Value} {below : List Frame} {meth : Method} {c : Code} {cells slots : Nat} {Q : State → Prop} {D : va_G} {cy : Nat → ClassId} {ad : List Nat} {q : Nat → Nat} {X : va_W} (fx : FX p s m args meth c cX9_bookOf 5 RX9 D cy) (hR : 2 ≤ R.frames ∧ 44 ≤ R.locals) (hf : cells ≤ R.cells ∧ slots ≤ R.slots) {kx105 : RS → Option ρ} :
    ∀ (n : Nat) (v3 : Int32) (τ : RS), it2 (Rs_bookOf_48 kx105) n v3 τ = some out → ∀ (H : Heap) (locs : List Loc) (ls : Array Slot), GC D (rwd cy q X) ad s τ H locs → lv_has ls 5 [(0, .ref (q 0)), (3, .int v3)] → (∀ (τ2 : RS) (H : Heap) (locs : List Loc) (ls : Array Slot), kx105 τ2 = some out → GC D (rwd cy q X) ad s τ2 H locs → lv_has ls 5 [(0, .ref (q 0))] → W p l e R s m args below meth c H locs cells slots Q (F0 m 105 ls [])) → W p l e R s m args below meth c H locs cells slots Q (F0 m 48 ls []) := by
  have hx := fx.1
  have hb := fx.2.1
  intro n
  induction n with
  | zero => intro v3 τ hm; exact (it2_z hm).elim
  | succ n ih =>
    intro v3 τ hm H locs ls hC hl hx105
    obtain ⟨rc, hrc⟩ : ∃ z, z = it2 (Rs_bookOf_48 kx105) n := ⟨_, rfl⟩
    replace hm : Rs_bookOf_48 kx105 rc v3 τ = some out := by rw [hrc]; exact hm
    unfold Rs_bookOf_48 at hm
    refine lv_iload_n hx hb dX9_bookOf_48 rfl (lv_at hl 1 rfl) ?_
    refine lv_if_lt (tgt := 105) hx hb dX9_bookOf_49 (by decide) (fun c_16 => ?_) (fun c_16 => ?_)
    · replace hm := ifp hm c_16
      exact hx105 _ _ _ _ hm hC (lv_sub hl [0] rfl)
    · replace hm := ifn hm c_16
      refine lv_iconst (v := (0 : Int32)) hx hb dX9_bookOf_52 (by decide) ?_
      refine lv_istore (lv' := [(4, .int (0 : Int32)), (0, .ref (q 0)), (3, .int v3)]) hx hb dX9_bookOf_53 hl (by decide) rfl (fun ls hl => ?_)
      refine Rw_bookOf_55 fx hR hf v3 fuel (0 : Int32) τ hm _ _ _ hC (lv_sub hl [1, 2, 0] rfl) (fun τ_26 H locs ls hm hC hl => ?_)
      refine lv_iinc (v := (v3 + (-1 : Int32))) (lv' := [(3, .int (v3 + (-1 : Int32))), (0, .ref (q 0))]) hx hb dX9_bookOf_99 hl (k := 1) rfl rfl (by decide) rfl (fun ls hl => ?_)
      refine lv_goto (tgt := 48) hx hb dX9_bookOf_102 (by decide) ?_
      rw [hrc] at hm
      exact ih _ _ hm _ _ _ hC (lv_sub hl [1, 0] rfl) hx105
set_option maxRecDepth 100000 in
set_option maxHeartbeats 4000000 in
theorem Rc_bookOf (l : Launch) {D : va_G} {cy : Nat → ClassId} {ad : List Nat} {q : Nat → Nat} {X : va_W} (τ : RS) (a1 : Int32) (a2 : Int32) {o : Int32 × RS} (hm : Rm_bookOf τ a1 a2 = some o) : GM l yX9_bookOf cX9_bookOf 5 (some .int) Rrm_bookOf D cy (rwd cy q X) ad [.ref (q 0), .int a1, .int a2] τ (some (.int o.1)) o.2 := by
  refine g_start RX9 rfl (by decide) (Nat.le_of_ble_eq_true rfl) ?_
  intro p e s m args below meth c fx hr hC ls hl
  have hx := fx.1
  have hb := fx.2.1
  have hR : 2 ≤ (Rrm_bookOf).frames ∧ 44 ≤ (Rrm_bookOf).locals := ⟨Nat.le_refl _, Nat.le_refl _⟩
  have hf : 0 ≤ (Rrm_bookOf).cells ∧ 0 ≤ (Rrm_bookOf).slots := ⟨Nat.zero_le _, Nat.zero_le _⟩
  have hl : lv_has ls 5 [(0, .ref (q 0)), (1, .int a1), (2, .int a2)] := hl
  unfold Rm_bookOf at hm
  refine lv_aload_n hx hb dX9_bookOf_0 rfl (lv_at hl 0 rfl) ?_
  refine lv_iconst (v := (0 : Int32)) hx hb dX9_bookOf_1 (by decide) ?_
  refine Rp_22 fx hC dX9_bookOf_2 (fun H locs hC => ?_)
  obtain ⟨τ_1, e_2⟩ : ∃ z, z = (rS τ 22 (0 : Int32)) := ⟨_, rfl⟩
  rw [← e_2] at hC
  replace hm := nm_in hm e_2
  refine lv_iconst (v := (0 : Int32)) hx hb dX9_bookOf_5 (by decide) ?_
  refine lv_istore_n (lv' := [(3, .int (0 : Int32)), (0, .ref (q 0)), (1, .int a1), (2, .int a2)]) hx hb dX9_bookOf_6 rfl hl (by decide) rfl (fun ls hl => ?_)
  refine Rw_bookOf_7 fx hR hf a1 a2 fuel (0 : Int32) τ_1 hm _ _ _ hC (lv_sub hl [1, 2, 3, 0] rfl) (fun τ_15 H locs ls hm hC hl => ?_)
  refine lv_bipush (v := (11 : Int32)) hx hb dX9_bookOf_45 (by decide) ?_
  refine lv_istore_n (lv' := [(3, .int (11 : Int32)), (0, .ref (q 0))]) hx hb dX9_bookOf_47 rfl hl (by decide) rfl (fun ls hl => ?_)
  refine Rw_bookOf_48 fx hR hf fuel (11 : Int32) τ_15 hm _ _ _ hC (lv_sub hl [1, 0] rfl) (fun τ_27 H locs ls hm hC hl => ?_)
  refine lv_aload_n hx hb dX9_bookOf_105 rfl (lv_at hl 0 rfl) ?_
  refine Rg_26 fx hC dX9_bookOf_106 ?_
  refine lv_iconst (v := (0 : Int32)) hx hb dX9_bookOf_109 (by decide) ?_
  have h_28 := (gi_in hm).1
  replace hm := (gi_in hm).2
  refine Rl_26 fx hC h_28 dX9_bookOf_110 ?_
  cases hm
  exact g_iret fx hr hC rfl dX9_bookOf_111
def Rm_count (τ : RS) (a1 : Int32) : Option Int32 :=
  if (Rm_isFamily τ a1) = (0 : Int32) then (some (-2 : Int32)) else (b1 (Rm_count0 τ a1) (fun r_3 => some r_3))
abbrev Rrm_count : Room := { frames := 2, cells := 0, slots := 0, locals := 45 }
set_option maxRecDepth 100000 in
set_option maxHeartbeats 4000000 in
theorem Rc_count (l : Launch) {D : va_G} {cy : Nat → ClassId} {ad : List Nat} {q : Nat → Nat} {X : va_W} (τ : RS) (a1 : Int32) {o : Int32} (hm : Rm_count τ a1 = some o) : GM l yX9_count cX9_count 2 (some .int) Rrm_count D cy (rwd cy q X) ad [.ref (q 0), .int a1] τ (some (.int o)) τ := by
  refine g_start RX9 rfl (by decide) (Nat.le_of_ble_eq_true rfl) ?_
  intro p e s m args below meth c fx hr hC ls hl
  have hx := fx.1
  have hb := fx.2.1
  have hR : 2 ≤ (Rrm_count).frames ∧ 45 ≤ (Rrm_count).locals := ⟨Nat.le_refl _, Nat.le_refl _⟩
  have hf : 0 ≤ (Rrm_count).cells ∧ 0 ≤ (Rrm_count).slots := ⟨Nat.zero_le _, Nat.zero_le _⟩
  have hl : lv_has ls 2 [(0, .ref (q 0)), (1, .int a1)] := hl
  unfold Rm_count at hm
  refine lv_aload_n hx hb dX9_count_0 rfl (lv_at hl 0 rfl) ?_
  refine lv_iload_n hx hb dX9_count_1 rfl (lv_at hl 1 rfl) ?_
  refine g_callVi (k0 := 0) (ci := 9) (As := [.int a1]) (rest := []) fx hC rw_w (Rc_isFamily l τ a1) k_449 Rk_isFamily Rh_isFamily rfl rfl rfl ⟨rfl, rfl⟩ ⟨Nat.le_trans (Nat.le_of_ble_eq_true rfl) hR.1, Nat.le_trans (Nat.le_of_ble_eq_true rfl) hR.2⟩ hf rfl hl.1 rfl (Nat.le_of_ble_eq_true rfl) dX9_count_2 (fun H locs hC => ?_)
  refine lv_if_eq (tgt := 16) hx hb dX9_count_5 (by decide) (fun c_1 => ?_) (fun c_1 => ?_)
  · replace hm := ifp hm c_1
    refine lv_bipush (v := (-2 : Int32)) hx hb dX9_count_16 (by decide) ?_
    cases hm
    exact g_iret fx hr hC rfl dX9_count_18
  · replace hm := ifn hm c_1
    refine lv_aload_n hx hb dX9_count_8 rfl (lv_at hl 0 rfl) ?_
    refine lv_iload_n hx hb dX9_count_9 rfl (lv_at hl 1 rfl) ?_
    obtain ⟨r_3, e_2, hm⟩ := b1_in hm
    refine g_callVi (k0 := 0) (ci := 9) (As := [.int a1]) (rest := []) fx hC rw_w (Rc_count0 l τ a1 e_2) k_548 Rk_count0 Rh_count0 rfl rfl rfl ⟨rfl, rfl⟩ ⟨Nat.le_trans (Nat.le_of_ble_eq_true rfl) hR.1, Nat.le_trans (Nat.le_of_ble_eq_true rfl) hR.2⟩ hf rfl hl.1 rfl (Nat.le_of_ble_eq_true rfl) dX9_count_10 (fun H locs hC => ?_)
    refine lv_goto (tgt := 18) hx hb dX9_count_13 (by decide) ?_
    cases hm
    exact g_iret fx hr hC rfl dX9_count_18
def Rs_told_53 {ρ : Type} (p1 : Int32) (τ : RS) (kx86 : Int32 → Option ρ) (rc : Int32 → Int32 → Option ρ) (v3 : Int32) (v4 : Int32) : Option ρ :=
  if (4096 : Int32) ≤ v4 then (kx86 v3) else (b1 (Rm_isWay τ p1 v4) (fun r_7 => if r_7 = (0 : Int32) then (rc (v3 ||| (0 : Int32)) (v4 + (1 : Int32))) else (rc (v3 ||| v4) (v4 + (1 : Int32)))))
def Rm_told (τ : RS) (a1 : Int32) (a2 : Int32) : Option (Int32 × RS) :=
  if (Rm_isFamily τ a1) = (0 : Int32) then (some ((-2 : Int32), τ)) else (if (Rm_in a2 (0 : Int32) (2 : Int32)) = (0 : Int32) then (some ((-2 : Int32), τ)) else (if a2 = (0 : Int32) then (gi a1 30 (some ((τ.2 7 (a1).toNatClampNeg), τ))) else (if a2 = (1 : Int32) then (b2 (Rm_bookOf τ a1 (1 : Int32)) (fun r_11 τ_12 => some ((τ_12.1 22), τ_12))) else (it2 (Rs_told_53 a1 τ (fun u_9 => some (u_9, τ))) fuel (0 : Int32) (0 : Int32)))))
abbrev Rrm_told : Room := { frames := 3, cells := 0, slots := 0, locals := 68 }
set_option maxRecDepth 100000 in
set_option maxHeartbeats 4000000 in
theorem Rw_told_53 {ρ : Type} {out : ρ} {p : Program} {l : Launch} {e : Env} {R : Room} {s : State} {m : MethodId} {args : Array Value} {below : List Frame} {meth : Method} {c : Code} {cells slots : Nat} {Q : State → Prop} {D : va_G} {cy : Nat → ClassId} {ad : List Nat} {q : Nat → Nat} {X : va_W} (τ : RS) (fx : FX p s m args meth c cX9_told 5 RX9 D cy) (hR : 3 ≤ R.frames ∧ 68 ≤ R.locals) (hf : cells ≤ R.cells ∧ slots ≤ R.slots) (p1 : Int32) {kx86 : Int32 → Option ρ} :
    ∀ (n : Nat) (v3 : Int32) (v4 : Int32), it2 (Rs_told_53 p1 τ kx86) n v3 v4 = some out → ∀ (H : Heap) (locs : List Loc) (ls : Array Slot), GC D (rwd cy q X) ad s τ H locs → lv_has ls 5 [(0, .ref (q 0)), (1, .int p1), (3, .int v3), (4, .int v4)] → (∀ (u3 : Int32) (H : Heap) (locs : List Loc) (ls : Array Slot), kx86 u3 = some out → GC D (rwd cy q X) ad s τ H locs → lv_has ls 5 [(3, .int u3)] → W p l e R s m args below meth c H locs cells slots Q (F0 m 86 ls [])) → W p l e R s m args below meth c H locs cells slots Q (F0 m 53 ls []) := by
  have hx := fx.1
  have hb := fx.2.1
  intro n
  induction n with
  | zero => intro v3 v4 hm; exact (it2_z hm).elim
  | succ n ih =>
    intro v3 v4 hm H locs ls hC hl hx86
    obtain ⟨rc, hrc⟩ : ∃ z, z = it2 (Rs_told_53 p1 τ kx86) n := ⟨_, rfl⟩
    replace hm : Rs_told_53 p1 τ kx86 rc v3 v4 = some out := by rw [hrc]; exact hm
    unfold Rs_told_53 at hm
    refine lv_iload hx hb dX9_told_53 (lv_at hl 3 rfl) ?_
    refine lv_sipush (v := (4096 : Int32)) hx hb dX9_told_55 (by decide) ?_
    refine lv_icmp_ge (tgt := 86) hx hb dX9_told_58 (by decide) (fun c_5 => ?_) (fun c_5 => ?_)
    · replace hm := ifp hm c_5
      exact hx86 _ _ _ _ hm hC (lv_sub hl [2] rfl)
    · replace hm := ifn hm c_5
      refine lv_iload_n hx hb dX9_told_61 rfl (lv_at hl 2 rfl) ?_
      refine lv_aload_n hx hb dX9_told_62 rfl (lv_at hl 0 rfl) ?_
      refine lv_iload_n hx hb dX9_told_63 rfl (lv_at hl 1 rfl) ?_
      refine lv_iload hx hb dX9_told_64 (lv_at hl 3 rfl) ?_
      obtain ⟨r_7, e_6, hm⟩ := b1_in hm
      refine g_callVi (k0 := 0) (ci := 9) (As := [.int p1, .int v4]) (rest := [.int v3]) fx hC rw_w (Rc_isWay l τ p1 v4 e_6) k_453 Rk_isWay Rh_isWay rfl rfl rfl ⟨rfl, rfl⟩ ⟨Nat.le_trans (Nat.le_of_ble_eq_true rfl) hR.1, Nat.le_trans (Nat.le_of_ble_eq_true rfl) hR.2⟩ hf rfl hl.1 rfl (Nat.le_of_ble_eq_true rfl) dX9_told_66 (fun H locs hC => ?_)
      refine lv_if_eq (tgt := 77) hx hb dX9_told_69 (by decide) (fun c_8 => ?_) (fun c_8 => ?_)
      · replace hm := ifp hm c_8
        refine lv_iconst (v := (0 : Int32)) hx hb dX9_told_77 (by decide) ?_
        refine lv_ior hx hb dX9_told_78 ?_
        refine lv_istore_n (lv' := [(3, .int (v3 ||| (0 : Int32))), (0, .ref (q 0)), (1, .int p1), (4, .int v4)]) hx hb dX9_told_79 rfl hl (by decide) rfl (fun ls hl => ?_)
        refine lv_iinc (v := (v4 + (1 : Int32))) (lv' := [(4, .int (v4 + (1 : Int32))), (3, .int (v3 ||| (0 : Int32))), (0, .ref (q 0)), (1, .int p1)]) hx hb dX9_told_80 hl (k := 3) rfl rfl (by decide) rfl (fun ls hl => ?_)
        refine lv_goto (tgt := 53) hx hb dX9_told_83 (by decide) ?_
        rw [hrc] at hm
        exact ih _ _ hm _ _ _ hC (lv_sub hl [2, 3, 1, 0] rfl) hx86
      · replace hm := ifn hm c_8
        refine lv_iload hx hb dX9_told_72 (lv_at hl 3 rfl) ?_
        refine lv_goto (tgt := 78) hx hb dX9_told_74 (by decide) ?_
        refine lv_ior hx hb dX9_told_78 ?_
        refine lv_istore_n (lv' := [(3, .int (v3 ||| v4)), (0, .ref (q 0)), (1, .int p1), (4, .int v4)]) hx hb dX9_told_79 rfl hl (by decide) rfl (fun ls hl => ?_)
        refine lv_iinc (v := (v4 + (1 : Int32))) (lv' := [(4, .int (v4 + (1 : Int32))), (3, .int (v3 ||| v4)), (0, .ref (q 0)), (1, .int p1)]) hx hb dX9_told_80 hl (k := 3) rfl rfl (by decide) rfl (fun ls hl => ?_)
        refine lv_goto (tgt := 53) hx hb dX9_told_83 (by decide) ?_
        rw [hrc] at hm
        exact ih _ _ hm _ _ _ hC (lv_sub hl [2, 3, 1, 0] rfl) hx86
set_option maxRecDepth 100000 in
set_option maxHeartbeats 4000000 in
theorem Rc_told (l : Launch) {D : va_G} {cy : Nat → ClassId} {ad : List Nat} {q : Nat → Nat} {X : va_W} (τ : RS) (a1 : Int32) (a2 : Int32) {o : Int32 × RS} (hm : Rm_told τ a1 a2 = some o) : GM l yX9_told cX9_told 5 (some .int) Rrm_told D cy (rwd cy q X) ad [.ref (q 0), .int a1, .int a2] τ (some (.int o.1)) o.2 := by
  refine g_start RX9 rfl (by decide) (Nat.le_of_ble_eq_true rfl) ?_
  intro p e s m args below meth c fx hr hC ls hl
  have hx := fx.1
  have hb := fx.2.1
  have hR : 3 ≤ (Rrm_told).frames ∧ 68 ≤ (Rrm_told).locals := ⟨Nat.le_refl _, Nat.le_refl _⟩
  have hf : 0 ≤ (Rrm_told).cells ∧ 0 ≤ (Rrm_told).slots := ⟨Nat.zero_le _, Nat.zero_le _⟩
  have hl : lv_has ls 5 [(0, .ref (q 0)), (1, .int a1), (2, .int a2)] := hl
  unfold Rm_told at hm
  refine lv_aload_n hx hb dX9_told_0 rfl (lv_at hl 0 rfl) ?_
  refine lv_iload_n hx hb dX9_told_1 rfl (lv_at hl 1 rfl) ?_
  refine g_callVi (k0 := 0) (ci := 9) (As := [.int a1]) (rest := []) fx hC rw_w (Rc_isFamily l τ a1) k_449 Rk_isFamily Rh_isFamily rfl rfl rfl ⟨rfl, rfl⟩ ⟨Nat.le_trans (Nat.le_of_ble_eq_true rfl) hR.1, Nat.le_trans (Nat.le_of_ble_eq_true rfl) hR.2⟩ hf rfl hl.1 rfl (Nat.le_of_ble_eq_true rfl) dX9_told_2 (fun H locs hC => ?_)
  refine lv_if_eq (tgt := 17) hx hb dX9_told_5 (by decide) (fun c_1 => ?_) (fun c_1 => ?_)
  · replace hm := ifp hm c_1
    refine lv_bipush (v := (-2 : Int32)) hx hb dX9_told_17 (by decide) ?_
    cases hm
    exact g_iret fx hr hC rfl dX9_told_19
  · replace hm := ifn hm c_1
    refine lv_iload_n hx hb dX9_told_8 rfl (lv_at hl 2 rfl) ?_
    refine lv_iconst (v := (0 : Int32)) hx hb dX9_told_9 (by decide) ?_
    refine lv_iconst (v := (2 : Int32)) hx hb dX9_told_10 (by decide) ?_
    refine g_callSi (As := [.int a2, .int (0 : Int32), .int (2 : Int32)]) (rest := []) fx hC rw_w (Rc_in l rw_w τ a2 (0 : Int32) (2 : Int32)) k_140 Rk_in Rh_in ⟨rfl, rfl⟩ ⟨Nat.le_trans (Nat.le_of_ble_eq_true rfl) hR.1, Nat.le_trans (Nat.le_of_ble_eq_true rfl) hR.2⟩ hf rfl hl.1 rfl (Nat.le_of_ble_eq_true rfl) dX9_told_11 (fun H locs hC => ?_)
    refine lv_if_ne (tgt := 20) hx hb dX9_told_14 (by decide) (fun c_2 => ?_) (fun c_2 => ?_)
    · replace hm := ifn hm c_2
      refine lv_iload_n hx hb dX9_told_20 rfl (lv_at hl 2 rfl) ?_
      refine lv_if_ne (tgt := 31) hx hb dX9_told_21 (by decide) (fun c_3 => ?_) (fun c_3 => ?_)
      · replace hm := ifn hm c_3
        refine lv_iload_n hx hb dX9_told_31 rfl (lv_at hl 2 rfl) ?_
        refine lv_iconst (v := (1 : Int32)) hx hb dX9_told_32 (by decide) ?_
        refine lv_icmp_ne (tgt := 48) hx hb dX9_told_33 (by decide) (fun c_4 => ?_) (fun c_4 => ?_)
        · replace hm := ifn hm c_4
          refine lv_iconst (v := (0 : Int32)) hx hb dX9_told_48 (by decide) ?_
          refine lv_istore_n (lv' := [(3, .int (0 : Int32)), (0, .ref (q 0)), (1, .int a1), (2, .int a2)]) hx hb dX9_told_49 rfl hl (by decide) rfl (fun ls hl => ?_)
          refine lv_iconst (v := (0 : Int32)) hx hb dX9_told_50 (by decide) ?_
          refine lv_istore (lv' := [(4, .int (0 : Int32)), (3, .int (0 : Int32)), (0, .ref (q 0)), (1, .int a1), (2, .int a2)]) hx hb dX9_told_51 hl (by decide) rfl (fun ls hl => ?_)
          refine Rw_told_53 τ fx hR hf a1 fuel (0 : Int32) (0 : Int32) hm _ _ _ hC (lv_sub hl [2, 3, 1, 0] rfl) (fun u_9 H locs ls hm hC hl => ?_)
          refine lv_iload_n hx hb dX9_told_86 rfl (lv_at hl 0 rfl) ?_
          cases hm
          exact g_iret fx hr hC rfl dX9_told_87
        · replace hm := ifp hm c_4
          refine lv_aload_n hx hb dX9_told_36 rfl (lv_at hl 0 rfl) ?_
          refine lv_iload_n hx hb dX9_told_37 rfl (lv_at hl 1 rfl) ?_
          refine lv_iconst (v := (1 : Int32)) hx hb dX9_told_38 (by decide) ?_
          obtain ⟨r_11, τ_12, e_10, hm⟩ := b2_in hm
          refine g_callVi (k0 := 0) (ci := 9) (As := [.int a1, .int (1 : Int32)]) (rest := []) fx hC rw_w (Rc_bookOf l τ a1 (1 : Int32) e_10) k_733 Rk_bookOf Rh_bookOf rfl rfl rfl ⟨rfl, rfl⟩ ⟨Nat.le_trans (Nat.le_of_ble_eq_true rfl) hR.1, Nat.le_trans (Nat.le_of_ble_eq_true rfl) hR.2⟩ hf rfl hl.1 rfl (Nat.le_of_ble_eq_true rfl) dX9_told_39 (fun H locs hC => ?_)
          refine lv_pop hx hb dX9_told_42 rfl ?_
          refine lv_aload_n hx hb dX9_told_43 rfl (lv_at hl 0 rfl) ?_
          refine Rg_22 fx hC dX9_told_44 ?_
          cases hm
          exact g_iret fx hr hC rfl dX9_told_47
      · replace hm := ifp hm c_3
        refine lv_aload_n hx hb dX9_told_24 rfl (lv_at hl 0 rfl) ?_
        refine Rg_7 fx hC dX9_told_25 ?_
        refine lv_iload_n hx hb dX9_told_28 rfl (lv_at hl 1 rfl) ?_
        have h_13 := (gi_in hm).1
        replace hm := (gi_in hm).2
        refine Rl_7 fx hC h_13 dX9_told_29 ?_
        cases hm
        exact g_iret fx hr hC rfl dX9_told_30
    · replace hm := ifp hm c_2
      refine lv_bipush (v := (-2 : Int32)) hx hb dX9_told_17 (by decide) ?_
      cases hm
      exact g_iret fx hr hC rfl dX9_told_19
def Rs_total_5 {ρ : Type} (p1 : Int32) (τ : RS) (kx51 : Int64 → Option ρ) (rc : Int64 → Int32 → Option ρ) (v2 : Int64) (v4 : Int32) : Option ρ :=
  if (4096 : Int32) ≤ v4 then (kx51 v2) else (if (Rm_isFamily τ p1) = (0 : Int32) then (kx51 v2) else (b1 (Rm_isWay τ p1 v4) (fun r_4 => if r_4 = (0 : Int32) then (rc (v2 + (0 : Int64)) (v4 + (1 : Int32))) else (b1 (Rm_sumOf τ v4) (fun r_7 => rc (v2 + r_7.toInt64) (v4 + (1 : Int32)))))))
def Rm_total (τ : RS) (a1 : Int32) : Option Int64 :=
  it2 (Rs_total_5 a1 τ (fun u_8 => some u_8)) fuel (0 : Int64) (0 : Int32)
abbrev Rrm_total : Room := { frames := 2, cells := 0, slots := 0, locals := 44 }
set_option maxRecDepth 100000 in
set_option maxHeartbeats 4000000 in
theorem Rw_total_5 {ρ : Type} {out : ρ} {p : Program} {l : Launch} {e : Env} {R : Room} {s : State} {m : MethodId} {args : Array Value} {below : List Frame} {meth : Method} {c : Code} {cells slots : Nat} {Q : State → Prop} {D : va_G} {cy : Nat → ClassId} {ad : List Nat} {q : Nat → Nat} {X : va_W} (τ : RS) (fx : FX p s m args meth c cX9_total 5 RX9 D cy) (hR : 2 ≤ R.frames ∧ 44 ≤ R.locals) (hf : cells ≤ R.cells ∧ slots ≤ R.slots) (p1 : Int32) {kx51 : Int64 → Option ρ} :
    ∀ (n : Nat) (v2 : Int64) (v4 : Int32), it2 (Rs_total_5 p1 τ kx51) n v2 v4 = some out → ∀ (H : Heap) (locs : List Loc) (ls : Array Slot), GC D (rwd cy q X) ad s τ H locs → lv_has ls 5 [(0, .ref (q 0)), (1, .int p1), (2, .long v2), (4, .int v4)] → (∀ (u2 : Int64) (H : Heap) (locs : List Loc) (ls : Array Slot), kx51 u2 = some out → GC D (rwd cy q X) ad s τ H locs → lv_has ls 5 [(2, .long u2)] → W p l e R s m args below meth c H locs cells slots Q (F0 m 51 ls [])) → W p l e R s m args below meth c H locs cells slots Q (F0 m 5 ls []) := by
  have hx := fx.1
  have hb := fx.2.1
  intro n
  induction n with
  | zero => intro v2 v4 hm; exact (it2_z hm).elim
  | succ n ih =>
    intro v2 v4 hm H locs ls hC hl hx51
    obtain ⟨rc, hrc⟩ : ∃ z, z = it2 (Rs_total_5 p1 τ kx51) n := ⟨_, rfl⟩
    replace hm : Rs_total_5 p1 τ kx51 rc v2 v4 = some out := by rw [hrc]; exact hm
    unfold Rs_total_5 at hm
    refine lv_iload hx hb dX9_total_5 (lv_at hl 3 rfl) ?_
    refine lv_sipush (v := (4096 : Int32)) hx hb dX9_total_7 (by decide) ?_
    refine lv_icmp_ge (tgt := 51) hx hb dX9_total_10 (by decide) (fun c_1 => ?_) (fun c_1 => ?_)
    · replace hm := ifp hm c_1
      exact hx51 _ _ _ _ hm hC (lv_sub hl [2] rfl)
    · replace hm := ifn hm c_1
      refine lv_aload_n hx hb dX9_total_13 rfl (lv_at hl 0 rfl) ?_
      refine lv_iload_n hx hb dX9_total_14 rfl (lv_at hl 1 rfl) ?_
      refine g_callVi (k0 := 0) (ci := 9) (As := [.int p1]) (rest := []) fx hC rw_w (Rc_isFamily l τ p1) k_449 Rk_isFamily Rh_isFamily rfl rfl rfl ⟨rfl, rfl⟩ ⟨Nat.le_trans (Nat.le_of_ble_eq_true rfl) hR.1, Nat.le_trans (Nat.le_of_ble_eq_true rfl) hR.2⟩ hf rfl hl.1 rfl (Nat.le_of_ble_eq_true rfl) dX9_total_15 (fun H locs hC => ?_)
      refine lv_if_eq (tgt := 51) hx hb dX9_total_18 (by decide) (fun c_2 => ?_) (fun c_2 => ?_)
      · replace hm := ifp hm c_2
        exact hx51 _ _ _ _ hm hC (lv_sub hl [2] rfl)
      · replace hm := ifn hm c_2
        refine lv_lload_n hx hb dX9_total_21 rfl (lv_at hl 2 rfl) ?_
        refine lv_aload_n hx hb dX9_total_22 rfl (lv_at hl 0 rfl) ?_
        refine lv_iload_n hx hb dX9_total_23 rfl (lv_at hl 1 rfl) ?_
        refine lv_iload hx hb dX9_total_24 (lv_at hl 3 rfl) ?_
        obtain ⟨r_4, e_3, hm⟩ := b1_in hm
        refine g_callVi (k0 := 0) (ci := 9) (As := [.int p1, .int v4]) (rest := [.long v2]) fx hC rw_w (Rc_isWay l τ p1 v4 e_3) k_453 Rk_isWay Rh_isWay rfl rfl rfl ⟨rfl, rfl⟩ ⟨Nat.le_trans (Nat.le_of_ble_eq_true rfl) hR.1, Nat.le_trans (Nat.le_of_ble_eq_true rfl) hR.2⟩ hf rfl hl.1 rfl (Nat.le_of_ble_eq_true rfl) dX9_total_26 (fun H locs hC => ?_)
        refine lv_if_eq (tgt := 42) hx hb dX9_total_29 (by decide) (fun c_5 => ?_) (fun c_5 => ?_)
        · replace hm := ifp hm c_5
          refine lv_lconst (v := (0 : Int64)) hx hb dX9_total_42 (by decide) ?_
          refine lv_ladd hx hb dX9_total_43 ?_
          refine lv_lstore_n (lv' := [(2, .long (v2 + (0 : Int64))), (0, .ref (q 0)), (1, .int p1), (4, .int v4)]) hx hb dX9_total_44 rfl hl (by decide) rfl (fun ls hl => ?_)
          refine lv_iinc (v := (v4 + (1 : Int32))) (lv' := [(4, .int (v4 + (1 : Int32))), (2, .long (v2 + (0 : Int64))), (0, .ref (q 0)), (1, .int p1)]) hx hb dX9_total_45 hl (k := 3) rfl rfl (by decide) rfl (fun ls hl => ?_)
          refine lv_goto (tgt := 5) hx hb dX9_total_48 (by decide) ?_
          rw [hrc] at hm
          exact ih _ _ hm _ _ _ hC (lv_sub hl [2, 3, 1, 0] rfl) hx51
        · replace hm := ifn hm c_5
          refine lv_aload_n hx hb dX9_total_32 rfl (lv_at hl 0 rfl) ?_
          refine lv_iload hx hb dX9_total_33 (lv_at hl 3 rfl) ?_
          obtain ⟨r_7, e_6, hm⟩ := b1_in hm
          refine g_callVi (k0 := 0) (ci := 9) (As := [.int v4]) (rest := [.long v2]) fx hC rw_w (Rc_sumOf l τ v4 e_6) k_648 Rk_sumOf Rh_sumOf rfl rfl rfl ⟨rfl, rfl⟩ ⟨Nat.le_trans (Nat.le_of_ble_eq_true rfl) hR.1, Nat.le_trans (Nat.le_of_ble_eq_true rfl) hR.2⟩ hf rfl hl.1 rfl (Nat.le_of_ble_eq_true rfl) dX9_total_35 (fun H locs hC => ?_)
          refine lv_i2l hx hb dX9_total_38 rfl ?_
          refine lv_goto (tgt := 43) hx hb dX9_total_39 (by decide) ?_
          refine lv_ladd hx hb dX9_total_43 ?_
          refine lv_lstore_n (lv' := [(2, .long (v2 + r_7.toInt64)), (0, .ref (q 0)), (1, .int p1), (4, .int v4)]) hx hb dX9_total_44 rfl hl (by decide) rfl (fun ls hl => ?_)
          refine lv_iinc (v := (v4 + (1 : Int32))) (lv' := [(4, .int (v4 + (1 : Int32))), (2, .long (v2 + r_7.toInt64)), (0, .ref (q 0)), (1, .int p1)]) hx hb dX9_total_45 hl (k := 3) rfl rfl (by decide) rfl (fun ls hl => ?_)
          refine lv_goto (tgt := 5) hx hb dX9_total_48 (by decide) ?_
          rw [hrc] at hm
          exact ih _ _ hm _ _ _ hC (lv_sub hl [2, 3, 1, 0] rfl) hx51
set_option maxRecDepth 100000 in
set_option maxHeartbeats 4000000 in
theorem Rc_total (l : Launch) {D : va_G} {cy : Nat → ClassId} {ad : List Nat} {q : Nat → Nat} {X : va_W} (τ : RS) (a1 : Int32) {o : Int64} (hm : Rm_total τ a1 = some o) : GM l yX9_total cX9_total 5 (some .long) Rrm_total D cy (rwd cy q X) ad [.ref (q 0), .int a1] τ (some (.long o)) τ := by
  refine g_start RX9 rfl (by decide) (Nat.le_of_ble_eq_true rfl) ?_
  intro p e s m args below meth c fx hr hC ls hl
  have hx := fx.1
  have hb := fx.2.1
  have hR : 2 ≤ (Rrm_total).frames ∧ 44 ≤ (Rrm_total).locals := ⟨Nat.le_refl _, Nat.le_refl _⟩
  have hf : 0 ≤ (Rrm_total).cells ∧ 0 ≤ (Rrm_total).slots := ⟨Nat.zero_le _, Nat.zero_le _⟩
  have hl : lv_has ls 5 [(0, .ref (q 0)), (1, .int a1)] := hl
  unfold Rm_total at hm
  refine lv_lconst (v := (0 : Int64)) hx hb dX9_total_0 (by decide) ?_
  refine lv_lstore_n (lv' := [(2, .long (0 : Int64)), (0, .ref (q 0)), (1, .int a1)]) hx hb dX9_total_1 rfl hl (by decide) rfl (fun ls hl => ?_)
  refine lv_iconst (v := (0 : Int32)) hx hb dX9_total_2 (by decide) ?_
  refine lv_istore (lv' := [(4, .int (0 : Int32)), (2, .long (0 : Int64)), (0, .ref (q 0)), (1, .int a1)]) hx hb dX9_total_3 hl (by decide) rfl (fun ls hl => ?_)
  refine Rw_total_5 τ fx hR hf a1 fuel (0 : Int64) (0 : Int32) hm _ _ _ hC (lv_sub hl [2, 3, 1, 0] rfl) (fun u_8 H locs ls hm hC hl => ?_)
  refine lv_lload_n hx hb dX9_total_51 rfl (lv_at hl 0 rfl) ?_
  cases hm
  exact g_lret fx hr hC rfl dX9_total_52
def Rs_often_26 {ρ : Type} (p1 : Int32) (p2 : Int32) (τ : RS) (kx67 : Int32 → Option ρ) (rc : Int32 → Int32 → Option ρ) (v3 : Int32) (v4 : Int32) : Option ρ :=
  if (4096 : Int32) ≤ v4 then (kx67 v3) else (b1 (Rm_isWay τ p1 v4) (fun r_5 => if r_5 = (0 : Int32) then (rc (v3 + (0 : Int32)) (v4 + (1 : Int32))) else (if (Rm_holds v4 p2) = (0 : Int32) then (rc (v3 + (0 : Int32)) (v4 + (1 : Int32))) else (rc (v3 + (1 : Int32)) (v4 + (1 : Int32))))))
def Rm_often (τ : RS) (a1 : Int32) (a2 : Int32) : Option Int32 :=
  if (Rm_isFamily τ a1) = (0 : Int32) then (some (-2 : Int32)) else (if (Rm_in a2 (0 : Int32) (11 : Int32)) = (0 : Int32) then (some (-2 : Int32)) else (it2 (Rs_often_26 a1 a2 τ (fun u_8 => some u_8)) fuel (0 : Int32) (0 : Int32)))
abbrev Rrm_often : Room := { frames := 2, cells := 0, slots := 0, locals := 43 }
set_option maxRecDepth 100000 in
set_option maxHeartbeats 4000000 in
theorem Rw_often_26 {ρ : Type} {out : ρ} {p : Program} {l : Launch} {e : Env} {R : Room} {s : State} {m : MethodId} {args : Array Value} {below : List Frame} {meth : Method} {c : Code} {cells slots : Nat} {Q : State → Prop} {D : va_G} {cy : Nat → ClassId} {ad : List Nat} {q : Nat → Nat} {X : va_W} (τ : RS) (fx : FX p s m args meth c cX9_often 5 RX9 D cy) (hR : 2 ≤ R.frames ∧ 43 ≤ R.locals) (hf : cells ≤ R.cells ∧ slots ≤ R.slots) (p1 : Int32) (p2 : Int32) {kx67 : Int32 → Option ρ} :
    ∀ (n : Nat) (v3 : Int32) (v4 : Int32), it2 (Rs_often_26 p1 p2 τ kx67) n v3 v4 = some out → ∀ (H : Heap) (locs : List Loc) (ls : Array Slot), GC D (rwd cy q X) ad s τ H locs → lv_has ls 5 [(0, .ref (q 0)), (1, .int p1), (2, .int p2), (3, .int v3), (4, .int v4)] → (∀ (u3 : Int32) (H : Heap) (locs : List Loc) (ls : Array Slot), kx67 u3 = some out → GC D (rwd cy q X) ad s τ H locs → lv_has ls 5 [(3, .int u3)] → W p l e R s m args below meth c H locs cells slots Q (F0 m 67 ls [])) → W p l e R s m args below meth c H locs cells slots Q (F0 m 26 ls []) := by
  have hx := fx.1
  have hb := fx.2.1
  intro n
  induction n with
  | zero => intro v3 v4 hm; exact (it2_z hm).elim
  | succ n ih =>
    intro v3 v4 hm H locs ls hC hl hx67
    obtain ⟨rc, hrc⟩ : ∃ z, z = it2 (Rs_often_26 p1 p2 τ kx67) n := ⟨_, rfl⟩
    replace hm : Rs_often_26 p1 p2 τ kx67 rc v3 v4 = some out := by rw [hrc]; exact hm
    unfold Rs_often_26 at hm
    refine lv_iload hx hb dX9_often_26 (lv_at hl 4 rfl) ?_
    refine lv_sipush (v := (4096 : Int32)) hx hb dX9_often_28 (by decide) ?_
    refine lv_icmp_ge (tgt := 67) hx hb dX9_often_31 (by decide) (fun c_3 => ?_) (fun c_3 => ?_)
    · replace hm := ifp hm c_3
      exact hx67 _ _ _ _ hm hC (lv_sub hl [3] rfl)
    · replace hm := ifn hm c_3
      refine lv_iload_n hx hb dX9_often_34 rfl (lv_at hl 3 rfl) ?_
      refine lv_aload_n hx hb dX9_often_35 rfl (lv_at hl 0 rfl) ?_
      refine lv_iload_n hx hb dX9_often_36 rfl (lv_at hl 1 rfl) ?_
      refine lv_iload hx hb dX9_often_37 (lv_at hl 4 rfl) ?_
      obtain ⟨r_5, e_4, hm⟩ := b1_in hm
      refine g_callVi (k0 := 0) (ci := 9) (As := [.int p1, .int v4]) (rest := [.int v3]) fx hC rw_w (Rc_isWay l τ p1 v4 e_4) k_453 Rk_isWay Rh_isWay rfl rfl rfl ⟨rfl, rfl⟩ ⟨Nat.le_trans (Nat.le_of_ble_eq_true rfl) hR.1, Nat.le_trans (Nat.le_of_ble_eq_true rfl) hR.2⟩ hf rfl hl.1 rfl (Nat.le_of_ble_eq_true rfl) dX9_often_39 (fun H locs hC => ?_)
      refine lv_if_eq (tgt := 58) hx hb dX9_often_42 (by decide) (fun c_6 => ?_) (fun c_6 => ?_)
      · replace hm := ifp hm c_6
        refine lv_iconst (v := (0 : Int32)) hx hb dX9_often_58 (by decide) ?_
        refine lv_iadd hx hb dX9_often_59 ?_
        refine lv_istore_n (lv' := [(3, .int (v3 + (0 : Int32))), (0, .ref (q 0)), (1, .int p1), (2, .int p2), (4, .int v4)]) hx hb dX9_often_60 rfl hl (by decide) rfl (fun ls hl => ?_)
        refine lv_iinc (v := (v4 + (1 : Int32))) (lv' := [(4, .int (v4 + (1 : Int32))), (3, .int (v3 + (0 : Int32))), (0, .ref (q 0)), (1, .int p1), (2, .int p2)]) hx hb dX9_often_61 hl (k := 4) rfl rfl (by decide) rfl (fun ls hl => ?_)
        refine lv_goto (tgt := 26) hx hb dX9_often_64 (by decide) ?_
        rw [hrc] at hm
        exact ih _ _ hm _ _ _ hC (lv_sub hl [2, 3, 4, 1, 0] rfl) hx67
      · replace hm := ifn hm c_6
        refine lv_iload hx hb dX9_often_45 (lv_at hl 4 rfl) ?_
        refine lv_iload_n hx hb dX9_often_47 rfl (lv_at hl 2 rfl) ?_
        refine g_callSi (As := [.int v4, .int p2]) (rest := [.int v3]) fx hC rw_w (Rc_holds l rw_w τ v4 p2) k_323 Rk_holds Rh_holds ⟨rfl, rfl⟩ ⟨Nat.le_trans (Nat.le_of_ble_eq_true rfl) hR.1, Nat.le_trans (Nat.le_of_ble_eq_true rfl) hR.2⟩ hf rfl hl.1 rfl (Nat.le_of_ble_eq_true rfl) dX9_often_48 (fun H locs hC => ?_)
        refine lv_if_eq (tgt := 58) hx hb dX9_often_51 (by decide) (fun c_7 => ?_) (fun c_7 => ?_)
        · replace hm := ifp hm c_7
          refine lv_iconst (v := (0 : Int32)) hx hb dX9_often_58 (by decide) ?_
          refine lv_iadd hx hb dX9_often_59 ?_
          refine lv_istore_n (lv' := [(3, .int (v3 + (0 : Int32))), (0, .ref (q 0)), (1, .int p1), (2, .int p2), (4, .int v4)]) hx hb dX9_often_60 rfl hl (by decide) rfl (fun ls hl => ?_)
          refine lv_iinc (v := (v4 + (1 : Int32))) (lv' := [(4, .int (v4 + (1 : Int32))), (3, .int (v3 + (0 : Int32))), (0, .ref (q 0)), (1, .int p1), (2, .int p2)]) hx hb dX9_often_61 hl (k := 4) rfl rfl (by decide) rfl (fun ls hl => ?_)
          refine lv_goto (tgt := 26) hx hb dX9_often_64 (by decide) ?_
          rw [hrc] at hm
          exact ih _ _ hm _ _ _ hC (lv_sub hl [2, 3, 4, 1, 0] rfl) hx67
        · replace hm := ifn hm c_7
          refine lv_iconst (v := (1 : Int32)) hx hb dX9_often_54 (by decide) ?_
          refine lv_goto (tgt := 59) hx hb dX9_often_55 (by decide) ?_
          refine lv_iadd hx hb dX9_often_59 ?_
          refine lv_istore_n (lv' := [(3, .int (v3 + (1 : Int32))), (0, .ref (q 0)), (1, .int p1), (2, .int p2), (4, .int v4)]) hx hb dX9_often_60 rfl hl (by decide) rfl (fun ls hl => ?_)
          refine lv_iinc (v := (v4 + (1 : Int32))) (lv' := [(4, .int (v4 + (1 : Int32))), (3, .int (v3 + (1 : Int32))), (0, .ref (q 0)), (1, .int p1), (2, .int p2)]) hx hb dX9_often_61 hl (k := 4) rfl rfl (by decide) rfl (fun ls hl => ?_)
          refine lv_goto (tgt := 26) hx hb dX9_often_64 (by decide) ?_
          rw [hrc] at hm
          exact ih _ _ hm _ _ _ hC (lv_sub hl [2, 3, 4, 1, 0] rfl) hx67
set_option maxRecDepth 100000 in
set_option maxHeartbeats 4000000 in
theorem Rc_often (l : Launch) {D : va_G} {cy : Nat → ClassId} {ad : List Nat} {q : Nat → Nat} {X : va_W} (τ : RS) (a1 : Int32) (a2 : Int32) {o : Int32} (hm : Rm_often τ a1 a2 = some o) : GM l yX9_often cX9_often 5 (some .int) Rrm_often D cy (rwd cy q X) ad [.ref (q 0), .int a1, .int a2] τ (some (.int o)) τ := by
  refine g_start RX9 rfl (by decide) (Nat.le_of_ble_eq_true rfl) ?_
  intro p e s m args below meth c fx hr hC ls hl
  have hx := fx.1
  have hb := fx.2.1
  have hR : 2 ≤ (Rrm_often).frames ∧ 43 ≤ (Rrm_often).locals := ⟨Nat.le_refl _, Nat.le_refl _⟩
  have hf : 0 ≤ (Rrm_often).cells ∧ 0 ≤ (Rrm_often).slots := ⟨Nat.zero_le _, Nat.zero_le _⟩
  have hl : lv_has ls 5 [(0, .ref (q 0)), (1, .int a1), (2, .int a2)] := hl
  unfold Rm_often at hm
  refine lv_aload_n hx hb dX9_often_0 rfl (lv_at hl 0 rfl) ?_
  refine lv_iload_n hx hb dX9_often_1 rfl (lv_at hl 1 rfl) ?_
  refine g_callVi (k0 := 0) (ci := 9) (As := [.int a1]) (rest := []) fx hC rw_w (Rc_isFamily l τ a1) k_449 Rk_isFamily Rh_isFamily rfl rfl rfl ⟨rfl, rfl⟩ ⟨Nat.le_trans (Nat.le_of_ble_eq_true rfl) hR.1, Nat.le_trans (Nat.le_of_ble_eq_true rfl) hR.2⟩ hf rfl hl.1 rfl (Nat.le_of_ble_eq_true rfl) dX9_often_2 (fun H locs hC => ?_)
  refine lv_if_eq (tgt := 18) hx hb dX9_often_5 (by decide) (fun c_1 => ?_) (fun c_1 => ?_)
  · replace hm := ifp hm c_1
    refine lv_bipush (v := (-2 : Int32)) hx hb dX9_often_18 (by decide) ?_
    cases hm
    exact g_iret fx hr hC rfl dX9_often_20
  · replace hm := ifn hm c_1
    refine lv_iload_n hx hb dX9_often_8 rfl (lv_at hl 2 rfl) ?_
    refine lv_iconst (v := (0 : Int32)) hx hb dX9_often_9 (by decide) ?_
    refine lv_bipush (v := (11 : Int32)) hx hb dX9_often_10 (by decide) ?_
    refine g_callSi (As := [.int a2, .int (0 : Int32), .int (11 : Int32)]) (rest := []) fx hC rw_w (Rc_in l rw_w τ a2 (0 : Int32) (11 : Int32)) k_140 Rk_in Rh_in ⟨rfl, rfl⟩ ⟨Nat.le_trans (Nat.le_of_ble_eq_true rfl) hR.1, Nat.le_trans (Nat.le_of_ble_eq_true rfl) hR.2⟩ hf rfl hl.1 rfl (Nat.le_of_ble_eq_true rfl) dX9_often_12 (fun H locs hC => ?_)
    refine lv_if_ne (tgt := 21) hx hb dX9_often_15 (by decide) (fun c_2 => ?_) (fun c_2 => ?_)
    · replace hm := ifn hm c_2
      refine lv_iconst (v := (0 : Int32)) hx hb dX9_often_21 (by decide) ?_
      refine lv_istore_n (lv' := [(3, .int (0 : Int32)), (0, .ref (q 0)), (1, .int a1), (2, .int a2)]) hx hb dX9_often_22 rfl hl (by decide) rfl (fun ls hl => ?_)
      refine lv_iconst (v := (0 : Int32)) hx hb dX9_often_23 (by decide) ?_
      refine lv_istore (lv' := [(4, .int (0 : Int32)), (3, .int (0 : Int32)), (0, .ref (q 0)), (1, .int a1), (2, .int a2)]) hx hb dX9_often_24 hl (by decide) rfl (fun ls hl => ?_)
      refine Rw_often_26 τ fx hR hf a1 a2 fuel (0 : Int32) (0 : Int32) hm _ _ _ hC (lv_sub hl [2, 3, 4, 1, 0] rfl) (fun u_8 H locs ls hm hC hl => ?_)
      refine lv_iload_n hx hb dX9_often_67 rfl (lv_at hl 0 rfl) ?_
      cases hm
      exact g_iret fx hr hC rfl dX9_often_68
    · replace hm := ifp hm c_2
      refine lv_bipush (v := (-2 : Int32)) hx hb dX9_often_18 (by decide) ?_
      cases hm
      exact g_iret fx hr hC rfl dX9_often_20
def Rm_has (τ : RS) (a1 : Int32) (a2 : Int32) : Option Int32 :=
  if (Rm_isFamily τ a1) = (0 : Int32) then (some (-2 : Int32)) else (if a2 < (0 : Int32) then (some (-2 : Int32)) else (if (4096 : Int32) ≤ a2 then (some (0 : Int32)) else (b1 (Rm_isWay τ a1 a2) (fun r_5 => if r_5 = (0 : Int32) then (some (0 : Int32)) else (some (1 : Int32))))))
abbrev Rrm_has : Room := { frames := 2, cells := 0, slots := 0, locals := 43 }
set_option maxRecDepth 100000 in
set_option maxHeartbeats 4000000 in
theorem Rc_has (l : Launch) {D : va_G} {cy : Nat → ClassId} {ad : List Nat} {q : Nat → Nat} {X : va_W} (τ : RS) (a1 : Int32) (a2 : Int32) {o : Int32} (hm : Rm_has τ a1 a2 = some o) : GM l yX9_has cX9_has 3 (some .int) Rrm_has D cy (rwd cy q X) ad [.ref (q 0), .int a1, .int a2] τ (some (.int o)) τ := by
  refine g_start RX9 rfl (by decide) (Nat.le_of_ble_eq_true rfl) ?_
  intro p e s m args below meth c fx hr hC ls hl
  have hx := fx.1
  have hb := fx.2.1
  have hR : 2 ≤ (Rrm_has).frames ∧ 43 ≤ (Rrm_has).locals := ⟨Nat.le_refl _, Nat.le_refl _⟩
  have hf : 0 ≤ (Rrm_has).cells ∧ 0 ≤ (Rrm_has).slots := ⟨Nat.zero_le _, Nat.zero_le _⟩
  have hl : lv_has ls 3 [(0, .ref (q 0)), (1, .int a1), (2, .int a2)] := hl
  unfold Rm_has at hm
  refine lv_aload_n hx hb dX9_has_0 rfl (lv_at hl 0 rfl) ?_
  refine lv_iload_n hx hb dX9_has_1 rfl (lv_at hl 1 rfl) ?_
  refine g_callVi (k0 := 0) (ci := 9) (As := [.int a1]) (rest := []) fx hC rw_w (Rc_isFamily l τ a1) k_449 Rk_isFamily Rh_isFamily rfl rfl rfl ⟨rfl, rfl⟩ ⟨Nat.le_trans (Nat.le_of_ble_eq_true rfl) hR.1, Nat.le_trans (Nat.le_of_ble_eq_true rfl) hR.2⟩ hf rfl hl.1 rfl (Nat.le_of_ble_eq_true rfl) dX9_has_2 (fun H locs hC => ?_)
  refine lv_if_eq (tgt := 36) hx hb dX9_has_5 (by decide) (fun c_1 => ?_) (fun c_1 => ?_)
  · replace hm := ifp hm c_1
    refine lv_bipush (v := (-2 : Int32)) hx hb dX9_has_36 (by decide) ?_
    cases hm
    exact g_iret fx hr hC rfl dX9_has_38
  · replace hm := ifn hm c_1
    refine lv_iload_n hx hb dX9_has_8 rfl (lv_at hl 2 rfl) ?_
    refine lv_if_lt (tgt := 36) hx hb dX9_has_9 (by decide) (fun c_2 => ?_) (fun c_2 => ?_)
    · replace hm := ifp hm c_2
      refine lv_bipush (v := (-2 : Int32)) hx hb dX9_has_36 (by decide) ?_
      cases hm
      exact g_iret fx hr hC rfl dX9_has_38
    · replace hm := ifn hm c_2
      refine lv_iload_n hx hb dX9_has_12 rfl (lv_at hl 2 rfl) ?_
      refine lv_sipush (v := (4096 : Int32)) hx hb dX9_has_13 (by decide) ?_
      refine lv_icmp_ge (tgt := 32) hx hb dX9_has_16 (by decide) (fun c_3 => ?_) (fun c_3 => ?_)
      · replace hm := ifp hm c_3
        refine lv_iconst (v := (0 : Int32)) hx hb dX9_has_32 (by decide) ?_
        refine lv_goto (tgt := 38) hx hb dX9_has_33 (by decide) ?_
        cases hm
        exact g_iret fx hr hC rfl dX9_has_38
      · replace hm := ifn hm c_3
        refine lv_aload_n hx hb dX9_has_19 rfl (lv_at hl 0 rfl) ?_
        refine lv_iload_n hx hb dX9_has_20 rfl (lv_at hl 1 rfl) ?_
        refine lv_iload_n hx hb dX9_has_21 rfl (lv_at hl 2 rfl) ?_
        obtain ⟨r_5, e_4, hm⟩ := b1_in hm
        refine g_callVi (k0 := 0) (ci := 9) (As := [.int a1, .int a2]) (rest := []) fx hC rw_w (Rc_isWay l τ a1 a2 e_4) k_453 Rk_isWay Rh_isWay rfl rfl rfl ⟨rfl, rfl⟩ ⟨Nat.le_trans (Nat.le_of_ble_eq_true rfl) hR.1, Nat.le_trans (Nat.le_of_ble_eq_true rfl) hR.2⟩ hf rfl hl.1 rfl (Nat.le_of_ble_eq_true rfl) dX9_has_22 (fun H locs hC => ?_)
        refine lv_if_eq (tgt := 32) hx hb dX9_has_25 (by decide) (fun c_6 => ?_) (fun c_6 => ?_)
        · replace hm := ifp hm c_6
          refine lv_iconst (v := (0 : Int32)) hx hb dX9_has_32 (by decide) ?_
          refine lv_goto (tgt := 38) hx hb dX9_has_33 (by decide) ?_
          cases hm
          exact g_iret fx hr hC rfl dX9_has_38
        · replace hm := ifn hm c_6
          refine lv_iconst (v := (1 : Int32)) hx hb dX9_has_28 (by decide) ?_
          refine lv_goto (tgt := 38) hx hb dX9_has_29 (by decide) ?_
          cases hm
          exact g_iret fx hr hC rfl dX9_has_38
def Rs_ordered_4 {ρ : Type} (p0 : Int32) (kx37 : Int32 → Option ρ) (rc : Int32 → Int32 → Option ρ) (v1 : Int32) (v2 : Int32) : Option ρ :=
  if (12 : Int32) ≤ v2 then (kx37 v1) else (if (Rm_holds p0 v2) = (0 : Int32) then (rc (v1 ||| (0 : Int32)) (v2 + (1 : Int32))) else (nm (v1 ||| ((1 : Int32) <<< (((11 : Int32) - v2) &&& 31))) (fun x_3 => rc x_3 (v2 + (1 : Int32)))))
def Rm_ordered (a1 : Int32) : Option Int32 :=
  it2 (Rs_ordered_4 a1 (fun u_4 => some u_4)) fuel (0 : Int32) (0 : Int32)
abbrev Rrm_ordered : Room := { frames := 1, cells := 0, slots := 0, locals := 21 }
set_option maxRecDepth 100000 in
set_option maxHeartbeats 4000000 in
theorem Rw_ordered_4 {ρ : Type} {out : ρ} {p : Program} {l : Launch} {e : Env} {R : Room} {s : State} {m : MethodId} {args : Array Value} {below : List Frame} {meth : Method} {c : Code} {cells slots : Nat} {Q : State → Prop} {D : va_G} {cy : Nat → ClassId} {ad : List Nat} {σ : Type} {wd : σ → va_W} (hw : ∀ x y : σ, (wd x).map (·.1) = (wd y).map (·.1)) {τ : σ} (fx : FX p s m args meth c cX9_ordered 3 RX9 D cy) (hR : 1 ≤ R.frames ∧ 21 ≤ R.locals) (hf : cells ≤ R.cells ∧ slots ≤ R.slots) (p0 : Int32) {kx37 : Int32 → Option ρ} :
    ∀ (n : Nat) (v1 : Int32) (v2 : Int32), it2 (Rs_ordered_4 p0 kx37) n v1 v2 = some out → ∀ (H : Heap) (locs : List Loc) (ls : Array Slot), GC D wd ad s τ H locs → lv_has ls 3 [(0, .int p0), (1, .int v1), (2, .int v2)] → (∀ (u1 : Int32) (H : Heap) (locs : List Loc) (ls : Array Slot), kx37 u1 = some out → GC D wd ad s τ H locs → lv_has ls 3 [(1, .int u1)] → W p l e R s m args below meth c H locs cells slots Q (F0 m 37 ls [])) → W p l e R s m args below meth c H locs cells slots Q (F0 m 4 ls []) := by
  have hx := fx.1
  have hb := fx.2.1
  intro n
  induction n with
  | zero => intro v1 v2 hm; exact (it2_z hm).elim
  | succ n ih =>
    intro v1 v2 hm H locs ls hC hl hx37
    obtain ⟨rc, hrc⟩ : ∃ z, z = it2 (Rs_ordered_4 p0 kx37) n := ⟨_, rfl⟩
    replace hm : Rs_ordered_4 p0 kx37 rc v1 v2 = some out := by rw [hrc]; exact hm
    unfold Rs_ordered_4 at hm
    refine lv_iload_n hx hb dX9_ordered_4 rfl (lv_at hl 2 rfl) ?_
    refine lv_bipush (v := (12 : Int32)) hx hb dX9_ordered_5 (by decide) ?_
    refine lv_icmp_ge (tgt := 37) hx hb dX9_ordered_7 (by decide) (fun c_1 => ?_) (fun c_1 => ?_)
    · replace hm := ifp hm c_1
      exact hx37 _ _ _ _ hm hC (lv_sub hl [1] rfl)
    · replace hm := ifn hm c_1
      refine lv_iload_n hx hb dX9_ordered_10 rfl (lv_at hl 1 rfl) ?_
      refine lv_iload_n hx hb dX9_ordered_11 rfl (lv_at hl 0 rfl) ?_
      refine lv_iload_n hx hb dX9_ordered_12 rfl (lv_at hl 2 rfl) ?_
      refine g_callSi (As := [.int p0, .int v2]) (rest := [.int v1]) fx hC hw (Rc_holds l hw τ p0 v2) k_323 Rk_holds Rh_holds ⟨rfl, rfl⟩ ⟨Nat.le_trans (Nat.le_of_ble_eq_true rfl) hR.1, Nat.le_trans (Nat.le_of_ble_eq_true rfl) hR.2⟩ hf rfl hl.1 rfl (Nat.le_of_ble_eq_true rfl) dX9_ordered_13 (fun H locs hC => ?_)
      refine lv_if_eq (tgt := 28) hx hb dX9_ordered_16 (by decide) (fun c_2 => ?_) (fun c_2 => ?_)
      · replace hm := ifp hm c_2
        refine lv_iconst (v := (0 : Int32)) hx hb dX9_ordered_28 (by decide) ?_
        refine lv_ior hx hb dX9_ordered_29 ?_
        refine lv_istore_n (lv' := [(1, .int (v1 ||| (0 : Int32))), (0, .int p0), (2, .int v2)]) hx hb dX9_ordered_30 rfl hl (by decide) rfl (fun ls hl => ?_)
        refine lv_iinc (v := (v2 + (1 : Int32))) (lv' := [(2, .int (v2 + (1 : Int32))), (1, .int (v1 ||| (0 : Int32))), (0, .int p0)]) hx hb dX9_ordered_31 hl (k := 2) rfl rfl (by decide) rfl (fun ls hl => ?_)
        refine lv_goto (tgt := 4) hx hb dX9_ordered_34 (by decide) ?_
        rw [hrc] at hm
        exact ih _ _ hm _ _ _ hC (lv_sub hl [2, 1, 0] rfl) hx37
      · replace hm := ifn hm c_2
        refine lv_iconst (v := (1 : Int32)) hx hb dX9_ordered_19 (by decide) ?_
        refine lv_bipush (v := (11 : Int32)) hx hb dX9_ordered_20 (by decide) ?_
        refine lv_iload_n hx hb dX9_ordered_22 rfl (lv_at hl 2 rfl) ?_
        refine lv_isub hx hb dX9_ordered_23 ?_
        refine lv_ishl hx hb dX9_ordered_24 ?_
        refine lv_goto (tgt := 29) hx hb dX9_ordered_25 (by decide) ?_
        refine lv_ior hx hb dX9_ordered_29 ?_
        refine lv_topi (fun x_3 ex_3 => ?_)
        replace hm := nm_in hm ex_3
        refine lv_istore_n (lv' := [(1, .int x_3), (0, .int p0), (2, .int v2)]) hx hb dX9_ordered_30 rfl hl (by decide) rfl (fun ls hl => ?_)
        refine lv_iinc (v := (v2 + (1 : Int32))) (lv' := [(2, .int (v2 + (1 : Int32))), (1, .int x_3), (0, .int p0)]) hx hb dX9_ordered_31 hl (k := 2) rfl rfl (by decide) rfl (fun ls hl => ?_)
        refine lv_goto (tgt := 4) hx hb dX9_ordered_34 (by decide) ?_
        rw [hrc] at hm
        exact ih _ _ hm _ _ _ hC (lv_sub hl [2, 1, 0] rfl) hx37
set_option maxRecDepth 100000 in
set_option maxHeartbeats 4000000 in
theorem Rc_ordered (l : Launch) {D : va_G} {cy : Nat → ClassId} {ad : List Nat} {σ : Type} {wd : σ → va_W} (hw : ∀ x y : σ, (wd x).map (·.1) = (wd y).map (·.1)) (τ : σ) (a1 : Int32) {o : Int32} (hm : Rm_ordered a1 = some o) : GM l yX9_ordered cX9_ordered 3 (some .int) Rrm_ordered D cy wd ad [.int a1] τ (some (.int o)) τ := by
  refine g_start RX9 rfl (by decide) (Nat.le_of_ble_eq_true rfl) ?_
  intro p e s m args below meth c fx hr hC ls hl
  have hx := fx.1
  have hb := fx.2.1
  have hR : 1 ≤ (Rrm_ordered).frames ∧ 21 ≤ (Rrm_ordered).locals := ⟨Nat.le_refl _, Nat.le_refl _⟩
  have hf : 0 ≤ (Rrm_ordered).cells ∧ 0 ≤ (Rrm_ordered).slots := ⟨Nat.zero_le _, Nat.zero_le _⟩
  have hl : lv_has ls 3 [(0, .int a1)] := hl
  unfold Rm_ordered at hm
  refine lv_iconst (v := (0 : Int32)) hx hb dX9_ordered_0 (by decide) ?_
  refine lv_istore_n (lv' := [(1, .int (0 : Int32)), (0, .int a1)]) hx hb dX9_ordered_1 rfl hl (by decide) rfl (fun ls hl => ?_)
  refine lv_iconst (v := (0 : Int32)) hx hb dX9_ordered_2 (by decide) ?_
  refine lv_istore_n (lv' := [(2, .int (0 : Int32)), (1, .int (0 : Int32)), (0, .int a1)]) hx hb dX9_ordered_3 rfl hl (by decide) rfl (fun ls hl => ?_)
  refine Rw_ordered_4 hw fx hR hf a1 fuel (0 : Int32) (0 : Int32) hm _ _ _ hC (lv_sub hl [2, 1, 0] rfl) (fun u_4 H locs ls hm hC hl => ?_)
  refine lv_iload_n hx hb dX9_ordered_37 rfl (lv_at hl 0 rfl) ?_
  cases hm
  exact g_iret fx hr hC rfl dX9_ordered_38
def Rs_way0_5 {ρ : Type} (p1 : Int32) (τ : RS) (kx34 : Int32 → Option ρ) (kx49 : Option ρ) (rc : Int32 → Int32 → Option ρ) (v3 : Int32) (v4 : Int32) : Option ρ :=
  if (4096 : Int32) ≤ v4 then (kx49) else (if v3 < (0 : Int32) then (kx49) else (b1 (Rm_ordered v4) (fun r_4 => b1 (Rm_isWay τ p1 r_4) (fun r_6 => if r_6 = (0 : Int32) then (rc v3 (v4 + (1 : Int32))) else (if v3 = (0 : Int32) then (kx34 v4) else (rc (v3 + (-1 : Int32)) (v4 + (1 : Int32))))))))
def Rm_way0 (τ : RS) (a1 : Int32) (a2 : Int32) : Option Int32 :=
  it2 (Rs_way0_5 a1 τ (fun u_9 => b1 (Rm_ordered u_9) (fun r_11 => some r_11)) (some (-1 : Int32))) fuel a2 (0 : Int32)
abbrev Rrm_way0 : Room := { frames := 2, cells := 0, slots := 0, locals := 43 }
set_option maxRecDepth 100000 in
set_option maxHeartbeats 4000000 in
theorem Rw_way0_5 {ρ : Type} {out : ρ} {p : Program} {l : Launch} {e : Env} {R : Room} {s : State} {m : MethodId} {args : Array Value} {below : List Frame} {meth : Method} {c : Code} {cells slots : Nat} {Q : State → Prop} {D : va_G} {cy : Nat → ClassId} {ad : List Nat} {q : Nat → Nat} {X : va_W} (τ : RS) (fx : FX p s m args meth c cX9_way0 5 RX9 D cy) (hR : 2 ≤ R.frames ∧ 43 ≤ R.locals) (hf : cells ≤ R.cells ∧ slots ≤ R.slots) (p1 : Int32) {kx34 : Int32 → Option ρ} {kx49 : Option ρ} :
    ∀ (n : Nat) (v3 : Int32) (v4 : Int32), it2 (Rs_way0_5 p1 τ kx34 kx49) n v3 v4 = some out → ∀ (H : Heap) (locs : List Loc) (ls : Array Slot), GC D (rwd cy q X) ad s τ H locs → lv_has ls 5 [(0, .ref (q 0)), (1, .int p1), (3, .int v3), (4, .int v4)] → (∀ (u4 : Int32) (H : Heap) (locs : List Loc) (ls : Array Slot), kx34 u4 = some out → GC D (rwd cy q X) ad s τ H locs → lv_has ls 5 [(4, .int u4)] → W p l e R s m args below meth c H locs cells slots Q (F0 m 34 ls [])) → (∀ (H : Heap) (locs : List Loc) (ls : Array Slot), kx49 = some out → GC D (rwd cy q X) ad s τ H locs → lv_has ls 5 [] → W p l e R s m args below meth c H locs cells slots Q (F0 m 49 ls [])) → W p l e R s m args below meth c H locs cells slots Q (F0 m 5 ls []) := by
  have hx := fx.1
  have hb := fx.2.1
  intro n
  induction n with
  | zero => intro v3 v4 hm; exact (it2_z hm).elim
  | succ n ih =>
    intro v3 v4 hm H locs ls hC hl hx34 hx49
    obtain ⟨rc, hrc⟩ : ∃ z, z = it2 (Rs_way0_5 p1 τ kx34 kx49) n := ⟨_, rfl⟩
    replace hm : Rs_way0_5 p1 τ kx34 kx49 rc v3 v4 = some out := by rw [hrc]; exact hm
    unfold Rs_way0_5 at hm
    refine lv_iload hx hb dX9_way0_5 (lv_at hl 3 rfl) ?_
    refine lv_sipush (v := (4096 : Int32)) hx hb dX9_way0_7 (by decide) ?_
    refine lv_icmp_ge (tgt := 49) hx hb dX9_way0_10 (by decide) (fun c_1 => ?_) (fun c_1 => ?_)
    · replace hm := ifp hm c_1
      exact hx49 _ _ _ hm hC (lv_sub hl [] rfl)
    · replace hm := ifn hm c_1
      refine lv_iload_n hx hb dX9_way0_13 rfl (lv_at hl 2 rfl) ?_
      refine lv_if_lt (tgt := 49) hx hb dX9_way0_14 (by decide) (fun c_2 => ?_) (fun c_2 => ?_)
      · replace hm := ifp hm c_2
        exact hx49 _ _ _ hm hC (lv_sub hl [] rfl)
      · replace hm := ifn hm c_2
        refine lv_aload_n hx hb dX9_way0_17 rfl (lv_at hl 0 rfl) ?_
        refine lv_iload_n hx hb dX9_way0_18 rfl (lv_at hl 1 rfl) ?_
        refine lv_iload hx hb dX9_way0_19 (lv_at hl 3 rfl) ?_
        obtain ⟨r_4, e_3, hm⟩ := b1_in hm
        refine g_callSi (As := [.int v4]) (rest := [.int p1, .ref (q 0)]) fx hC rw_w (Rc_ordered l rw_w τ v4 e_3) k_793 Rk_ordered Rh_ordered ⟨rfl, rfl⟩ ⟨Nat.le_trans (Nat.le_of_ble_eq_true rfl) hR.1, Nat.le_trans (Nat.le_of_ble_eq_true rfl) hR.2⟩ hf rfl hl.1 rfl (Nat.le_of_ble_eq_true rfl) dX9_way0_21 (fun H locs hC => ?_)
        obtain ⟨r_6, e_5, hm⟩ := b1_in hm
        refine g_callVi (k0 := 0) (ci := 9) (As := [.int p1, .int r_4]) (rest := []) fx hC rw_w (Rc_isWay l τ p1 r_4 e_5) k_453 Rk_isWay Rh_isWay rfl rfl rfl ⟨rfl, rfl⟩ ⟨Nat.le_trans (Nat.le_of_ble_eq_true rfl) hR.1, Nat.le_trans (Nat.le_of_ble_eq_true rfl) hR.2⟩ hf rfl hl.1 rfl (Nat.le_of_ble_eq_true rfl) dX9_way0_24 (fun H locs hC => ?_)
        refine lv_if_eq (tgt := 43) hx hb dX9_way0_27 (by decide) (fun c_7 => ?_) (fun c_7 => ?_)
        · replace hm := ifp hm c_7
          refine lv_iinc (v := (v4 + (1 : Int32))) (lv' := [(4, .int (v4 + (1 : Int32))), (0, .ref (q 0)), (1, .int p1), (3, .int v3)]) hx hb dX9_way0_43 hl (k := 3) rfl rfl (by decide) rfl (fun ls hl => ?_)
          refine lv_goto (tgt := 5) hx hb dX9_way0_46 (by decide) ?_
          rw [hrc] at hm
          exact ih _ _ hm _ _ _ hC (lv_sub hl [1, 2, 3, 0] rfl) hx34 hx49
        · replace hm := ifn hm c_7
          refine lv_iload_n hx hb dX9_way0_30 rfl (lv_at hl 2 rfl) ?_
          refine lv_if_ne (tgt := 40) hx hb dX9_way0_31 (by decide) (fun c_8 => ?_) (fun c_8 => ?_)
          · replace hm := ifn hm c_8
            refine lv_iinc (v := (v3 + (-1 : Int32))) (lv' := [(3, .int (v3 + (-1 : Int32))), (0, .ref (q 0)), (1, .int p1), (4, .int v4)]) hx hb dX9_way0_40 hl (k := 2) rfl rfl (by decide) rfl (fun ls hl => ?_)
            refine lv_iinc (v := (v4 + (1 : Int32))) (lv' := [(4, .int (v4 + (1 : Int32))), (3, .int (v3 + (-1 : Int32))), (0, .ref (q 0)), (1, .int p1)]) hx hb dX9_way0_43 hl (k := 3) rfl rfl (by decide) rfl (fun ls hl => ?_)
            refine lv_goto (tgt := 5) hx hb dX9_way0_46 (by decide) ?_
            rw [hrc] at hm
            exact ih _ _ hm _ _ _ hC (lv_sub hl [2, 3, 1, 0] rfl) hx34 hx49
          · replace hm := ifp hm c_8
            exact hx34 _ _ _ _ hm hC (lv_sub hl [3] rfl)
set_option maxRecDepth 100000 in
set_option maxHeartbeats 4000000 in
theorem Rc_way0 (l : Launch) {D : va_G} {cy : Nat → ClassId} {ad : List Nat} {q : Nat → Nat} {X : va_W} (τ : RS) (a1 : Int32) (a2 : Int32) {o : Int32} (hm : Rm_way0 τ a1 a2 = some o) : GM l yX9_way0 cX9_way0 5 (some .int) Rrm_way0 D cy (rwd cy q X) ad [.ref (q 0), .int a1, .int a2] τ (some (.int o)) τ := by
  refine g_start RX9 rfl (by decide) (Nat.le_of_ble_eq_true rfl) ?_
  intro p e s m args below meth c fx hr hC ls hl
  have hx := fx.1
  have hb := fx.2.1
  have hR : 2 ≤ (Rrm_way0).frames ∧ 43 ≤ (Rrm_way0).locals := ⟨Nat.le_refl _, Nat.le_refl _⟩
  have hf : 0 ≤ (Rrm_way0).cells ∧ 0 ≤ (Rrm_way0).slots := ⟨Nat.zero_le _, Nat.zero_le _⟩
  have hl : lv_has ls 5 [(0, .ref (q 0)), (1, .int a1), (2, .int a2)] := hl
  unfold Rm_way0 at hm
  refine lv_iload_n hx hb dX9_way0_0 rfl (lv_at hl 2 rfl) ?_
  refine lv_istore_n (lv' := [(3, .int a2), (0, .ref (q 0)), (1, .int a1), (2, .int a2)]) hx hb dX9_way0_1 rfl hl (by decide) rfl (fun ls hl => ?_)
  refine lv_iconst (v := (0 : Int32)) hx hb dX9_way0_2 (by decide) ?_
  refine lv_istore (lv' := [(4, .int (0 : Int32)), (3, .int a2), (0, .ref (q 0)), (1, .int a1), (2, .int a2)]) hx hb dX9_way0_3 hl (by decide) rfl (fun ls hl => ?_)
  refine Rw_way0_5 τ fx hR hf a1 fuel a2 (0 : Int32) hm _ _ _ hC (lv_sub hl [2, 3, 1, 0] rfl) (fun u_9 H locs ls hm hC hl => ?_) (fun  H locs ls hm hC hl => ?_)
  · refine lv_iload hx hb dX9_way0_34 (lv_at hl 0 rfl) ?_
    obtain ⟨r_11, e_10, hm⟩ := b1_in hm
    refine g_callSi (As := [.int u_9]) (rest := []) fx hC rw_w (Rc_ordered l rw_w τ u_9 e_10) k_793 Rk_ordered Rh_ordered ⟨rfl, rfl⟩ ⟨Nat.le_trans (Nat.le_of_ble_eq_true rfl) hR.1, Nat.le_trans (Nat.le_of_ble_eq_true rfl) hR.2⟩ hf rfl hl.1 rfl (Nat.le_of_ble_eq_true rfl) dX9_way0_36 (fun H locs hC => ?_)
    cases hm
    exact g_iret fx hr hC rfl dX9_way0_39
  · refine lv_iconst (v := (-1 : Int32)) hx hb dX9_way0_49 (by decide) ?_
    cases hm
    exact g_iret fx hr hC rfl dX9_way0_50
def Rm_way (τ : RS) (a1 : Int32) (a2 : Int32) : Option Int32 :=
  if (Rm_isFamily τ a1) = (0 : Int32) then (some (-2 : Int32)) else (b1 (Rm_way0 τ a1 a2) (fun r_3 => some r_3))
abbrev Rrm_way : Room := { frames := 3, cells := 0, slots := 0, locals := 67 }
set_option maxRecDepth 100000 in
set_option maxHeartbeats 4000000 in
theorem Rc_way (l : Launch) {D : va_G} {cy : Nat → ClassId} {ad : List Nat} {q : Nat → Nat} {X : va_W} (τ : RS) (a1 : Int32) (a2 : Int32) {o : Int32} (hm : Rm_way τ a1 a2 = some o) : GM l yX9_way cX9_way 3 (some .int) Rrm_way D cy (rwd cy q X) ad [.ref (q 0), .int a1, .int a2] τ (some (.int o)) τ := by
  refine g_start RX9 rfl (by decide) (Nat.le_of_ble_eq_true rfl) ?_
  intro p e s m args below meth c fx hr hC ls hl
  have hx := fx.1
  have hb := fx.2.1
  have hR : 3 ≤ (Rrm_way).frames ∧ 67 ≤ (Rrm_way).locals := ⟨Nat.le_refl _, Nat.le_refl _⟩
  have hf : 0 ≤ (Rrm_way).cells ∧ 0 ≤ (Rrm_way).slots := ⟨Nat.zero_le _, Nat.zero_le _⟩
  have hl : lv_has ls 3 [(0, .ref (q 0)), (1, .int a1), (2, .int a2)] := hl
  unfold Rm_way at hm
  refine lv_aload_n hx hb dX9_way_0 rfl (lv_at hl 0 rfl) ?_
  refine lv_iload_n hx hb dX9_way_1 rfl (lv_at hl 1 rfl) ?_
  refine g_callVi (k0 := 0) (ci := 9) (As := [.int a1]) (rest := []) fx hC rw_w (Rc_isFamily l τ a1) k_449 Rk_isFamily Rh_isFamily rfl rfl rfl ⟨rfl, rfl⟩ ⟨Nat.le_trans (Nat.le_of_ble_eq_true rfl) hR.1, Nat.le_trans (Nat.le_of_ble_eq_true rfl) hR.2⟩ hf rfl hl.1 rfl (Nat.le_of_ble_eq_true rfl) dX9_way_2 (fun H locs hC => ?_)
  refine lv_if_eq (tgt := 17) hx hb dX9_way_5 (by decide) (fun c_1 => ?_) (fun c_1 => ?_)
  · replace hm := ifp hm c_1
    refine lv_bipush (v := (-2 : Int32)) hx hb dX9_way_17 (by decide) ?_
    cases hm
    exact g_iret fx hr hC rfl dX9_way_19
  · replace hm := ifn hm c_1
    refine lv_aload_n hx hb dX9_way_8 rfl (lv_at hl 0 rfl) ?_
    refine lv_iload_n hx hb dX9_way_9 rfl (lv_at hl 1 rfl) ?_
    refine lv_iload_n hx hb dX9_way_10 rfl (lv_at hl 2 rfl) ?_
    obtain ⟨r_3, e_2, hm⟩ := b1_in hm
    refine g_callVi (k0 := 0) (ci := 9) (As := [.int a1, .int a2]) (rest := []) fx hC rw_w (Rc_way0 l τ a1 a2 e_2) k_789 Rk_way0 Rh_way0 rfl rfl rfl ⟨rfl, rfl⟩ ⟨Nat.le_trans (Nat.le_of_ble_eq_true rfl) hR.1, Nat.le_trans (Nat.le_of_ble_eq_true rfl) hR.2⟩ hf rfl hl.1 rfl (Nat.le_of_ble_eq_true rfl) dX9_way_11 (fun H locs hC => ?_)
    refine lv_goto (tgt := 19) hx hb dX9_way_14 (by decide) ?_
    cases hm
    exact g_iret fx hr hC rfl dX9_way_19
def Rs_rank_27 {ρ : Type} (p1 : Int32) (p2 : Int32) (τ : RS) (kx63 : Int32 → Option ρ) (rc : Int32 → Int32 → Option ρ) (v3 : Int32) (v4 : Int32) : Option ρ :=
  b1 (Rm_ordered p2) (fun r_4 => if r_4 ≤ v4 then (kx63 v3) else (b1 (Rm_ordered v4) (fun r_7 => b1 (Rm_isWay τ p1 r_7) (fun r_9 => if r_9 = (0 : Int32) then (rc (v3 + (0 : Int32)) (v4 + (1 : Int32))) else (rc (v3 + (1 : Int32)) (v4 + (1 : Int32)))))))
def Rm_rank (τ : RS) (a1 : Int32) (a2 : Int32) : Option Int32 :=
  if (Rm_isFamily τ a1) = (0 : Int32) then (some (-2 : Int32)) else (if (Rm_in a2 (0 : Int32) (4095 : Int32)) = (0 : Int32) then (some (-2 : Int32)) else (it2 (Rs_rank_27 a1 a2 τ (fun u_11 => some u_11)) fuel (0 : Int32) (0 : Int32)))
abbrev Rrm_rank : Room := { frames := 2, cells := 0, slots := 0, locals := 43 }
set_option maxRecDepth 100000 in
set_option maxHeartbeats 4000000 in
theorem Rw_rank_27 {ρ : Type} {out : ρ} {p : Program} {l : Launch} {e : Env} {R : Room} {s : State} {m : MethodId} {args : Array Value} {below : List Frame} {meth : Method} {c : Code} {cells slots : Nat} {Q : State → Prop} {D : va_G} {cy : Nat → ClassId} {ad : List Nat} {q : Nat → Nat} {X : va_W} (τ : RS) (fx : FX p s m args meth c cX9_rank 5 RX9 D cy) (hR : 2 ≤ R.frames ∧ 43 ≤ R.locals) (hf : cells ≤ R.cells ∧ slots ≤ R.slots) (p1 : Int32) (p2 : Int32) {kx63 : Int32 → Option ρ} :
    ∀ (n : Nat) (v3 : Int32) (v4 : Int32), it2 (Rs_rank_27 p1 p2 τ kx63) n v3 v4 = some out → ∀ (H : Heap) (locs : List Loc) (ls : Array Slot), GC D (rwd cy q X) ad s τ H locs → lv_has ls 5 [(0, .ref (q 0)), (1, .int p1), (2, .int p2), (3, .int v3), (4, .int v4)] → (∀ (u3 : Int32) (H : Heap) (locs : List Loc) (ls : Array Slot), kx63 u3 = some out → GC D (rwd cy q X) ad s τ H locs → lv_has ls 5 [(3, .int u3)] → W p l e R s m args below meth c H locs cells slots Q (F0 m 63 ls [])) → W p l e R s m args below meth c H locs cells slots Q (F0 m 27 ls []) := by
  have hx := fx.1
  have hb := fx.2.1
  intro n
  induction n with
  | zero => intro v3 v4 hm; exact (it2_z hm).elim
  | succ n ih =>
    intro v3 v4 hm H locs ls hC hl hx63
    obtain ⟨rc, hrc⟩ : ∃ z, z = it2 (Rs_rank_27 p1 p2 τ kx63) n := ⟨_, rfl⟩
    replace hm : Rs_rank_27 p1 p2 τ kx63 rc v3 v4 = some out := by rw [hrc]; exact hm
    unfold Rs_rank_27 at hm
    refine lv_iload hx hb dX9_rank_27 (lv_at hl 4 rfl) ?_
    refine lv_iload_n hx hb dX9_rank_29 rfl (lv_at hl 2 rfl) ?_
    obtain ⟨r_4, e_3, hm⟩ := b1_in hm
    refine g_callSi (As := [.int p2]) (rest := [.int v4]) fx hC rw_w (Rc_ordered l rw_w τ p2 e_3) k_793 Rk_ordered Rh_ordered ⟨rfl, rfl⟩ ⟨Nat.le_trans (Nat.le_of_ble_eq_true rfl) hR.1, Nat.le_trans (Nat.le_of_ble_eq_true rfl) hR.2⟩ hf rfl hl.1 rfl (Nat.le_of_ble_eq_true rfl) dX9_rank_30 (fun H locs hC => ?_)
    refine lv_icmp_ge (tgt := 63) hx hb dX9_rank_33 (by decide) (fun c_5 => ?_) (fun c_5 => ?_)
    · replace hm := ifp hm c_5
      exact hx63 _ _ _ _ hm hC (lv_sub hl [3] rfl)
    · replace hm := ifn hm c_5
      refine lv_iload_n hx hb dX9_rank_36 rfl (lv_at hl 3 rfl) ?_
      refine lv_aload_n hx hb dX9_rank_37 rfl (lv_at hl 0 rfl) ?_
      refine lv_iload_n hx hb dX9_rank_38 rfl (lv_at hl 1 rfl) ?_
      refine lv_iload hx hb dX9_rank_39 (lv_at hl 4 rfl) ?_
      obtain ⟨r_7, e_6, hm⟩ := b1_in hm
      refine g_callSi (As := [.int v4]) (rest := [.int p1, .ref (q 0), .int v3]) fx hC rw_w (Rc_ordered l rw_w τ v4 e_6) k_793 Rk_ordered Rh_ordered ⟨rfl, rfl⟩ ⟨Nat.le_trans (Nat.le_of_ble_eq_true rfl) hR.1, Nat.le_trans (Nat.le_of_ble_eq_true rfl) hR.2⟩ hf rfl hl.1 rfl (Nat.le_of_ble_eq_true rfl) dX9_rank_41 (fun H locs hC => ?_)
      obtain ⟨r_9, e_8, hm⟩ := b1_in hm
      refine g_callVi (k0 := 0) (ci := 9) (As := [.int p1, .int r_7]) (rest := [.int v3]) fx hC rw_w (Rc_isWay l τ p1 r_7 e_8) k_453 Rk_isWay Rh_isWay rfl rfl rfl ⟨rfl, rfl⟩ ⟨Nat.le_trans (Nat.le_of_ble_eq_true rfl) hR.1, Nat.le_trans (Nat.le_of_ble_eq_true rfl) hR.2⟩ hf rfl hl.1 rfl (Nat.le_of_ble_eq_true rfl) dX9_rank_44 (fun H locs hC => ?_)
      refine lv_if_eq (tgt := 54) hx hb dX9_rank_47 (by decide) (fun c_10 => ?_) (fun c_10 => ?_)
      · replace hm := ifp hm c_10
        refine lv_iconst (v := (0 : Int32)) hx hb dX9_rank_54 (by decide) ?_
        refine lv_iadd hx hb dX9_rank_55 ?_
        refine lv_istore_n (lv' := [(3, .int (v3 + (0 : Int32))), (0, .ref (q 0)), (1, .int p1), (2, .int p2), (4, .int v4)]) hx hb dX9_rank_56 rfl hl (by decide) rfl (fun ls hl => ?_)
        refine lv_iinc (v := (v4 + (1 : Int32))) (lv' := [(4, .int (v4 + (1 : Int32))), (3, .int (v3 + (0 : Int32))), (0, .ref (q 0)), (1, .int p1), (2, .int p2)]) hx hb dX9_rank_57 hl (k := 4) rfl rfl (by decide) rfl (fun ls hl => ?_)
        refine lv_goto (tgt := 27) hx hb dX9_rank_60 (by decide) ?_
        rw [hrc] at hm
        exact ih _ _ hm _ _ _ hC (lv_sub hl [2, 3, 4, 1, 0] rfl) hx63
      · replace hm := ifn hm c_10
        refine lv_iconst (v := (1 : Int32)) hx hb dX9_rank_50 (by decide) ?_
        refine lv_goto (tgt := 55) hx hb dX9_rank_51 (by decide) ?_
        refine lv_iadd hx hb dX9_rank_55 ?_
        refine lv_istore_n (lv' := [(3, .int (v3 + (1 : Int32))), (0, .ref (q 0)), (1, .int p1), (2, .int p2), (4, .int v4)]) hx hb dX9_rank_56 rfl hl (by decide) rfl (fun ls hl => ?_)
        refine lv_iinc (v := (v4 + (1 : Int32))) (lv' := [(4, .int (v4 + (1 : Int32))), (3, .int (v3 + (1 : Int32))), (0, .ref (q 0)), (1, .int p1), (2, .int p2)]) hx hb dX9_rank_57 hl (k := 4) rfl rfl (by decide) rfl (fun ls hl => ?_)
        refine lv_goto (tgt := 27) hx hb dX9_rank_60 (by decide) ?_
        rw [hrc] at hm
        exact ih _ _ hm _ _ _ hC (lv_sub hl [2, 3, 4, 1, 0] rfl) hx63
set_option maxRecDepth 100000 in
set_option maxHeartbeats 4000000 in
theorem Rc_rank (l : Launch) {D : va_G} {cy : Nat → ClassId} {ad : List Nat} {q : Nat → Nat} {X : va_W} (τ : RS) (a1 : Int32) (a2 : Int32) {o : Int32} (hm : Rm_rank τ a1 a2 = some o) : GM l yX9_rank cX9_rank 5 (some .int) Rrm_rank D cy (rwd cy q X) ad [.ref (q 0), .int a1, .int a2] τ (some (.int o)) τ := by
  refine g_start RX9 rfl (by decide) (Nat.le_of_ble_eq_true rfl) ?_
  intro p e s m args below meth c fx hr hC ls hl
  have hx := fx.1
  have hb := fx.2.1
  have hR : 2 ≤ (Rrm_rank).frames ∧ 43 ≤ (Rrm_rank).locals := ⟨Nat.le_refl _, Nat.le_refl _⟩
  have hf : 0 ≤ (Rrm_rank).cells ∧ 0 ≤ (Rrm_rank).slots := ⟨Nat.zero_le _, Nat.zero_le _⟩
  have hl : lv_has ls 5 [(0, .ref (q 0)), (1, .int a1), (2, .int a2)] := hl
  unfold Rm_rank at hm
  refine lv_aload_n hx hb dX9_rank_0 rfl (lv_at hl 0 rfl) ?_
  refine lv_iload_n hx hb dX9_rank_1 rfl (lv_at hl 1 rfl) ?_
  refine g_callVi (k0 := 0) (ci := 9) (As := [.int a1]) (rest := []) fx hC rw_w (Rc_isFamily l τ a1) k_449 Rk_isFamily Rh_isFamily rfl rfl rfl ⟨rfl, rfl⟩ ⟨Nat.le_trans (Nat.le_of_ble_eq_true rfl) hR.1, Nat.le_trans (Nat.le_of_ble_eq_true rfl) hR.2⟩ hf rfl hl.1 rfl (Nat.le_of_ble_eq_true rfl) dX9_rank_2 (fun H locs hC => ?_)
  refine lv_if_eq (tgt := 19) hx hb dX9_rank_5 (by decide) (fun c_1 => ?_) (fun c_1 => ?_)
  · replace hm := ifp hm c_1
    refine lv_bipush (v := (-2 : Int32)) hx hb dX9_rank_19 (by decide) ?_
    cases hm
    exact g_iret fx hr hC rfl dX9_rank_21
  · replace hm := ifn hm c_1
    refine lv_iload_n hx hb dX9_rank_8 rfl (lv_at hl 2 rfl) ?_
    refine lv_iconst (v := (0 : Int32)) hx hb dX9_rank_9 (by decide) ?_
    refine lv_sipush (v := (4095 : Int32)) hx hb dX9_rank_10 (by decide) ?_
    refine g_callSi (As := [.int a2, .int (0 : Int32), .int (4095 : Int32)]) (rest := []) fx hC rw_w (Rc_in l rw_w τ a2 (0 : Int32) (4095 : Int32)) k_140 Rk_in Rh_in ⟨rfl, rfl⟩ ⟨Nat.le_trans (Nat.le_of_ble_eq_true rfl) hR.1, Nat.le_trans (Nat.le_of_ble_eq_true rfl) hR.2⟩ hf rfl hl.1 rfl (Nat.le_of_ble_eq_true rfl) dX9_rank_13 (fun H locs hC => ?_)
    refine lv_if_ne (tgt := 22) hx hb dX9_rank_16 (by decide) (fun c_2 => ?_) (fun c_2 => ?_)
    · replace hm := ifn hm c_2
      refine lv_iconst (v := (0 : Int32)) hx hb dX9_rank_22 (by decide) ?_
      refine lv_istore_n (lv' := [(3, .int (0 : Int32)), (0, .ref (q 0)), (1, .int a1), (2, .int a2)]) hx hb dX9_rank_23 rfl hl (by decide) rfl (fun ls hl => ?_)
      refine lv_iconst (v := (0 : Int32)) hx hb dX9_rank_24 (by decide) ?_
      refine lv_istore (lv' := [(4, .int (0 : Int32)), (3, .int (0 : Int32)), (0, .ref (q 0)), (1, .int a1), (2, .int a2)]) hx hb dX9_rank_25 hl (by decide) rfl (fun ls hl => ?_)
      refine Rw_rank_27 τ fx hR hf a1 a2 fuel (0 : Int32) (0 : Int32) hm _ _ _ hC (lv_sub hl [2, 3, 4, 1, 0] rfl) (fun u_11 H locs ls hm hC hl => ?_)
      refine lv_iload_n hx hb dX9_rank_63 rfl (lv_at hl 0 rfl) ?_
      cases hm
      exact g_iret fx hr hC rfl dX9_rank_64
    · replace hm := ifp hm c_2
      refine lv_bipush (v := (-2 : Int32)) hx hb dX9_rank_19 (by decide) ?_
      cases hm
      exact g_iret fx hr hC rfl dX9_rank_21
def Rs_best_45 {ρ : Type} (p1 : Int32) (p2 : Int32) (p5 : Int32) (τ : RS) (kx96 : Int32 → Option ρ) (kx108 : Int32 → Option ρ) (rc : Int32 → Int32 → Option ρ) (v4 : Int32) (v6 : Int32) : Option ρ :=
  if (4096 : Int32) ≤ v6 then (kx108 v4) else (b1 (Rm_ordered v6) (fun r_7 => b1 (Rm_isWay τ p1 r_7) (fun r_9 => if r_9 = (0 : Int32) then (rc v4 (v6 + (1 : Int32))) else (b1 (Rm_sumOf τ r_7) (fun r_12 => if p2 = (0 : Int32) then (if r_12 = p5 then (if v4 = (0 : Int32) then (kx96 r_7) else (rc (v4 + (-1 : Int32)) (v6 + (1 : Int32)))) else (rc v4 (v6 + (1 : Int32)))) else (if r_12 = (-p5) then (if v4 = (0 : Int32) then (kx96 r_7) else (rc (v4 + (-1 : Int32)) (v6 + (1 : Int32)))) else (rc v4 (v6 + (1 : Int32)))))))))
def Rs_best_34 {ρ : Type} (p1 : Int32) (p2 : Int32) (τ : RS) (kx96 : Int32 → Option ρ) (kx114 : Option ρ) (rc : Int32 → Int32 → Option ρ) (v4 : Int32) (v5 : Int32) : Option ρ :=
  if v5 < (-600 : Int32) then (kx114) else (it2 (Rs_best_45 p1 p2 v5 τ (fun u_18 => kx96 u_18) (fun u_19 => rc u_19 (v5 + (-1 : Int32)))) fuel v4 (0 : Int32))
def Rm_best (τ : RS) (a1 : Int32) (a2 : Int32) (a3 : Int32) : Option Int32 :=
  if (Rm_isFamily τ a1) = (0 : Int32) then (some (-2 : Int32)) else (if (Rm_in a2 (0 : Int32) (1 : Int32)) = (0 : Int32) then (some (-2 : Int32)) else (if (0 : Int32) ≤ a3 then (it2 (Rs_best_34 a1 a2 τ (fun u_20 => some u_20) (some (-1 : Int32))) fuel a3 (600 : Int32)) else (some (-1 : Int32))))
abbrev Rrm_best : Room := { frames := 2, cells := 0, slots := 0, locals := 44 }
set_option maxRecDepth 100000 in
set_option maxHeartbeats 4000000 in
theorem Rw_best_45 {ρ : Type} {out : ρ} {p : Program} {l : Launch} {e : Env} {R : Room} {s : State} {m : MethodId} {args : Array Value} {below : List Frame} {meth : Method} {c : Code} {cells slots : Nat} {Q : State → Prop} {D : va_G} {cy : Nat → ClassId} {ad : List Nat} {q : Nat → Nat} {X : va_W} (τ : RS) (fx : FX p s m args meth c cX9_best 8 RX9 D cy) (hR : 2 ≤ R.frames ∧ 44 ≤ R.locals) (hf : cells ≤ R.cells ∧ slots ≤ R.slots) (p1 : Int32) (p2 : Int32) (p5 : Int32) {kx96 : Int32 → Option ρ} {kx108 : Int32 → Option ρ} :
    ∀ (n : Nat) (v4 : Int32) (v6 : Int32), it2 (Rs_best_45 p1 p2 p5 τ kx96 kx108) n v4 v6 = some out → ∀ (H : Heap) (locs : List Loc) (ls : Array Slot), GC D (rwd cy q X) ad s τ H locs → lv_has ls 8 [(0, .ref (q 0)), (1, .int p1), (2, .int p2), (4, .int v4), (5, .int p5), (6, .int v6)] → (∀ (u7 : Int32) (H : Heap) (locs : List Loc) (ls : Array Slot), kx96 u7 = some out → GC D (rwd cy q X) ad s τ H locs → lv_has ls 8 [(7, .int u7)] → W p l e R s m args below meth c H locs cells slots Q (F0 m 96 ls [])) → (∀ (u4 : Int32) (H : Heap) (locs : List Loc) (ls : Array Slot), kx108 u4 = some out → GC D (rwd cy q X) ad s τ H locs → lv_has ls 8 [(0, .ref (q 0)), (1, .int p1), (2, .int p2), (4, .int u4), (5, .int p5)] → W p l e R s m args below meth c H locs cells slots Q (F0 m 108 ls [])) → W p l e R s m args below meth c H locs cells slots Q (F0 m 45 ls []) := by
  have hx := fx.1
  have hb := fx.2.1
  intro n
  induction n with
  | zero => intro v4 v6 hm; exact (it2_z hm).elim
  | succ n ih =>
    intro v4 v6 hm H locs ls hC hl hx96 hx108
    obtain ⟨rc, hrc⟩ : ∃ z, z = it2 (Rs_best_45 p1 p2 p5 τ kx96 kx108) n := ⟨_, rfl⟩
    replace hm : Rs_best_45 p1 p2 p5 τ kx96 kx108 rc v4 v6 = some out := by rw [hrc]; exact hm
    unfold Rs_best_45 at hm
    refine lv_iload hx hb dX9_best_45 (lv_at hl 5 rfl) ?_
    refine lv_sipush (v := (4096 : Int32)) hx hb dX9_best_47 (by decide) ?_
    refine lv_icmp_ge (tgt := 108) hx hb dX9_best_50 (by decide) (fun c_5 => ?_) (fun c_5 => ?_)
    · replace hm := ifp hm c_5
      exact hx108 _ _ _ _ hm hC (lv_sub hl [0, 1, 2, 3, 4] rfl)
    · replace hm := ifn hm c_5
      refine lv_iload hx hb dX9_best_53 (lv_at hl 5 rfl) ?_
      obtain ⟨r_7, e_6, hm⟩ := b1_in hm
      refine g_callSi (As := [.int v6]) (rest := []) fx hC rw_w (Rc_ordered l rw_w τ v6 e_6) k_793 Rk_ordered Rh_ordered ⟨rfl, rfl⟩ ⟨Nat.le_trans (Nat.le_of_ble_eq_true rfl) hR.1, Nat.le_trans (Nat.le_of_ble_eq_true rfl) hR.2⟩ hf rfl hl.1 rfl (Nat.le_of_ble_eq_true rfl) dX9_best_55 (fun H locs hC => ?_)
      refine lv_istore (lv' := [(7, .int r_7), (0, .ref (q 0)), (1, .int p1), (2, .int p2), (4, .int v4), (5, .int p5), (6, .int v6)]) hx hb dX9_best_58 hl (by decide) rfl (fun ls hl => ?_)
      refine lv_aload_n hx hb dX9_best_60 rfl (lv_at hl 1 rfl) ?_
      refine lv_iload_n hx hb dX9_best_61 rfl (lv_at hl 2 rfl) ?_
      refine lv_iload hx hb dX9_best_62 (lv_at hl 0 rfl) ?_
      obtain ⟨r_9, e_8, hm⟩ := b1_in hm
      refine g_callVi (k0 := 0) (ci := 9) (As := [.int p1, .int r_7]) (rest := []) fx hC rw_w (Rc_isWay l τ p1 r_7 e_8) k_453 Rk_isWay Rh_isWay rfl rfl rfl ⟨rfl, rfl⟩ ⟨Nat.le_trans (Nat.le_of_ble_eq_true rfl) hR.1, Nat.le_trans (Nat.le_of_ble_eq_true rfl) hR.2⟩ hf rfl hl.1 rfl (Nat.le_of_ble_eq_true rfl) dX9_best_64 (fun H locs hC => ?_)
      refine lv_if_eq (tgt := 102) hx hb dX9_best_67 (by decide) (fun c_10 => ?_) (fun c_10 => ?_)
      · replace hm := ifp hm c_10
        refine lv_iinc (v := (v6 + (1 : Int32))) (lv' := [(6, .int (v6 + (1 : Int32))), (7, .int r_7), (0, .ref (q 0)), (1, .int p1), (2, .int p2), (4, .int v4), (5, .int p5)]) hx hb dX9_best_102 hl (k := 6) rfl rfl (by decide) rfl (fun ls hl => ?_)
        refine lv_goto (tgt := 45) hx hb dX9_best_105 (by decide) ?_
        rw [hrc] at hm
        exact ih _ _ hm _ _ _ hC (lv_sub hl [2, 3, 4, 5, 6, 0] rfl) hx96 hx108
      · replace hm := ifn hm c_10
        refine lv_aload_n hx hb dX9_best_70 rfl (lv_at hl 1 rfl) ?_
        refine lv_iload hx hb dX9_best_71 (lv_at hl 0 rfl) ?_
        obtain ⟨r_12, e_11, hm⟩ := b1_in hm
        refine g_callVi (k0 := 0) (ci := 9) (As := [.int r_7]) (rest := []) fx hC rw_w (Rc_sumOf l τ r_7 e_11) k_648 Rk_sumOf Rh_sumOf rfl rfl rfl ⟨rfl, rfl⟩ ⟨Nat.le_trans (Nat.le_of_ble_eq_true rfl) hR.1, Nat.le_trans (Nat.le_of_ble_eq_true rfl) hR.2⟩ hf rfl hl.1 rfl (Nat.le_of_ble_eq_true rfl) dX9_best_73 (fun H locs hC => ?_)
        refine lv_iload_n hx hb dX9_best_76 rfl (lv_at hl 3 rfl) ?_
        refine lv_if_ne (tgt := 85) hx hb dX9_best_77 (by decide) (fun c_13 => ?_) (fun c_13 => ?_)
        · replace hm := ifn hm c_13
          refine lv_iload hx hb dX9_best_85 (lv_at hl 5 rfl) ?_
          refine lv_ineg hx hb dX9_best_87 ?_
          refine lv_icmp_ne (tgt := 102) hx hb dX9_best_88 (by decide) (fun c_14 => ?_) (fun c_14 => ?_)
          · replace hm := ifn hm c_14
            refine lv_iinc (v := (v6 + (1 : Int32))) (lv' := [(6, .int (v6 + (1 : Int32))), (7, .int r_7), (0, .ref (q 0)), (1, .int p1), (2, .int p2), (4, .int v4), (5, .int p5)]) hx hb dX9_best_102 hl (k := 6) rfl rfl (by decide) rfl (fun ls hl => ?_)
            refine lv_goto (tgt := 45) hx hb dX9_best_105 (by decide) ?_
            rw [hrc] at hm
            exact ih _ _ hm _ _ _ hC (lv_sub hl [2, 3, 4, 5, 6, 0] rfl) hx96 hx108
          · replace hm := ifp hm c_14
            refine lv_iload hx hb dX9_best_91 (lv_at hl 4 rfl) ?_
            refine lv_if_ne (tgt := 99) hx hb dX9_best_93 (by decide) (fun c_15 => ?_) (fun c_15 => ?_)
            · replace hm := ifn hm c_15
              refine lv_iinc (v := (v4 + (-1 : Int32))) (lv' := [(4, .int (v4 + (-1 : Int32))), (7, .int r_7), (0, .ref (q 0)), (1, .int p1), (2, .int p2), (5, .int p5), (6, .int v6)]) hx hb dX9_best_99 hl (k := 4) rfl rfl (by decide) rfl (fun ls hl => ?_)
              refine lv_iinc (v := (v6 + (1 : Int32))) (lv' := [(6, .int (v6 + (1 : Int32))), (4, .int (v4 + (-1 : Int32))), (7, .int r_7), (0, .ref (q 0)), (1, .int p1), (2, .int p2), (5, .int p5)]) hx hb dX9_best_102 hl (k := 6) rfl rfl (by decide) rfl (fun ls hl => ?_)
              refine lv_goto (tgt := 45) hx hb dX9_best_105 (by decide) ?_
              rw [hrc] at hm
              exact ih _ _ hm _ _ _ hC (lv_sub hl [3, 4, 5, 1, 6, 0] rfl) hx96 hx108
            · replace hm := ifp hm c_15
              exact hx96 _ _ _ _ hm hC (lv_sub hl [0] rfl)
        · replace hm := ifp hm c_13
          refine lv_iload hx hb dX9_best_80 (lv_at hl 5 rfl) ?_
          refine lv_goto (tgt := 88) hx hb dX9_best_82 (by decide) ?_
          refine lv_icmp_ne (tgt := 102) hx hb dX9_best_88 (by decide) (fun c_16 => ?_) (fun c_16 => ?_)
          · replace hm := ifn hm c_16
            refine lv_iinc (v := (v6 + (1 : Int32))) (lv' := [(6, .int (v6 + (1 : Int32))), (7, .int r_7), (0, .ref (q 0)), (1, .int p1), (2, .int p2), (4, .int v4), (5, .int p5)]) hx hb dX9_best_102 hl (k := 6) rfl rfl (by decide) rfl (fun ls hl => ?_)
            refine lv_goto (tgt := 45) hx hb dX9_best_105 (by decide) ?_
            rw [hrc] at hm
            exact ih _ _ hm _ _ _ hC (lv_sub hl [2, 3, 4, 5, 6, 0] rfl) hx96 hx108
          · replace hm := ifp hm c_16
            refine lv_iload hx hb dX9_best_91 (lv_at hl 4 rfl) ?_
            refine lv_if_ne (tgt := 99) hx hb dX9_best_93 (by decide) (fun c_17 => ?_) (fun c_17 => ?_)
            · replace hm := ifn hm c_17
              refine lv_iinc (v := (v4 + (-1 : Int32))) (lv' := [(4, .int (v4 + (-1 : Int32))), (7, .int r_7), (0, .ref (q 0)), (1, .int p1), (2, .int p2), (5, .int p5), (6, .int v6)]) hx hb dX9_best_99 hl (k := 4) rfl rfl (by decide) rfl (fun ls hl => ?_)
              refine lv_iinc (v := (v6 + (1 : Int32))) (lv' := [(6, .int (v6 + (1 : Int32))), (4, .int (v4 + (-1 : Int32))), (7, .int r_7), (0, .ref (q 0)), (1, .int p1), (2, .int p2), (5, .int p5)]) hx hb dX9_best_102 hl (k := 6) rfl rfl (by decide) rfl (fun ls hl => ?_)
              refine lv_goto (tgt := 45) hx hb dX9_best_105 (by decide) ?_
              rw [hrc] at hm
              exact ih _ _ hm _ _ _ hC (lv_sub hl [3, 4, 5, 1, 6, 0] rfl) hx96 hx108
            · replace hm := ifp hm c_17
              exact hx96 _ _ _ _ hm hC (lv_sub hl [0] rfl)
set_option maxRecDepth 100000 in
set_option maxHeartbeats 4000000 in
theorem Rw_best_34 {ρ : Type} {out : ρ} {p : Program} {l : Launch} {e : Env} {R : Room} {s : State} {m : MethodId} {args : Array Value} {below : List Frame} {meth : Method} {c : Code} {cells slots : Nat} {Q : State → Prop} {D : va_G} {cy : Nat → ClassId} {ad : List Nat} {q : Nat → Nat} {X : va_W} (τ : RS) (fx : FX p s m args meth c cX9_best 8 RX9 D cy) (hR : 2 ≤ R.frames ∧ 44 ≤ R.locals) (hf : cells ≤ R.cells ∧ slots ≤ R.slots) (p1 : Int32) (p2 : Int32) {kx96 : Int32 → Option ρ} {kx114 : Option ρ} :
    ∀ (n : Nat) (v4 : Int32) (v5 : Int32), it2 (Rs_best_34 p1 p2 τ kx96 kx114) n v4 v5 = some out → ∀ (H : Heap) (locs : List Loc) (ls : Array Slot), GC D (rwd cy q X) ad s τ H locs → lv_has ls 8 [(0, .ref (q 0)), (1, .int p1), (2, .int p2), (4, .int v4), (5, .int v5)] → (∀ (u7 : Int32) (H : Heap) (locs : List Loc) (ls : Array Slot), kx96 u7 = some out → GC D (rwd cy q X) ad s τ H locs → lv_has ls 8 [(7, .int u7)] → W p l e R s m args below meth c H locs cells slots Q (F0 m 96 ls [])) → (∀ (H : Heap) (locs : List Loc) (ls : Array Slot), kx114 = some out → GC D (rwd cy q X) ad s τ H locs → lv_has ls 8 [] → W p l e R s m args below meth c H locs cells slots Q (F0 m 114 ls [])) → W p l e R s m args below meth c H locs cells slots Q (F0 m 34 ls []) := by
  have hx := fx.1
  have hb := fx.2.1
  intro n
  induction n with
  | zero => intro v4 v5 hm; exact (it2_z hm).elim
  | succ n ih =>
    intro v4 v5 hm H locs ls hC hl hx96 hx114
    obtain ⟨rc, hrc⟩ : ∃ z, z = it2 (Rs_best_34 p1 p2 τ kx96 kx114) n := ⟨_, rfl⟩
    replace hm : Rs_best_34 p1 p2 τ kx96 kx114 rc v4 v5 = some out := by rw [hrc]; exact hm
    unfold Rs_best_34 at hm
    refine lv_iload hx hb dX9_best_34 (lv_at hl 4 rfl) ?_
    refine lv_sipush (v := (-600 : Int32)) hx hb dX9_best_36 (by decide) ?_
    refine lv_icmp_lt (tgt := 114) hx hb dX9_best_39 (by decide) (fun c_4 => ?_) (fun c_4 => ?_)
    · replace hm := ifp hm c_4
      exact hx114 _ _ _ hm hC (lv_sub hl [] rfl)
    · replace hm := ifn hm c_4
      refine lv_iconst (v := (0 : Int32)) hx hb dX9_best_42 (by decide) ?_
      refine lv_istore (lv' := [(6, .int (0 : Int32)), (0, .ref (q 0)), (1, .int p1), (2, .int p2), (4, .int v4), (5, .int v5)]) hx hb dX9_best_43 hl (by decide) rfl (fun ls hl => ?_)
      refine Rw_best_45 τ fx hR hf p1 p2 v5 fuel v4 (0 : Int32) hm _ _ _ hC (lv_sub hl [1, 2, 3, 4, 5, 0] rfl) (fun u_18 H locs ls hm hC hl => ?_) (fun u_19 H locs ls hm hC hl => ?_)
      · exact hx96 _ _ _ _ hm hC (lv_sub hl [0] rfl)
      · refine lv_iinc (v := (v5 + (-1 : Int32))) (lv' := [(5, .int (v5 + (-1 : Int32))), (0, .ref (q 0)), (1, .int p1), (2, .int p2), (4, .int u_19)]) hx hb dX9_best_108 hl (k := 4) rfl rfl (by decide) rfl (fun ls hl => ?_)
        refine lv_goto (tgt := 34) hx hb dX9_best_111 (by decide) ?_
        rw [hrc] at hm
        exact ih _ _ hm _ _ _ hC (lv_sub hl [1, 2, 3, 4, 0] rfl) hx96 hx114
set_option maxRecDepth 100000 in
set_option maxHeartbeats 4000000 in
theorem Rc_best (l : Launch) {D : va_G} {cy : Nat → ClassId} {ad : List Nat} {q : Nat → Nat} {X : va_W} (τ : RS) (a1 : Int32) (a2 : Int32) (a3 : Int32) {o : Int32} (hm : Rm_best τ a1 a2 a3 = some o) : GM l yX9_best cX9_best 8 (some .int) Rrm_best D cy (rwd cy q X) ad [.ref (q 0), .int a1, .int a2, .int a3] τ (some (.int o)) τ := by
  refine g_start RX9 rfl (by decide) (Nat.le_of_ble_eq_true rfl) ?_
  intro p e s m args below meth c fx hr hC ls hl
  have hx := fx.1
  have hb := fx.2.1
  have hR : 2 ≤ (Rrm_best).frames ∧ 44 ≤ (Rrm_best).locals := ⟨Nat.le_refl _, Nat.le_refl _⟩
  have hf : 0 ≤ (Rrm_best).cells ∧ 0 ≤ (Rrm_best).slots := ⟨Nat.zero_le _, Nat.zero_le _⟩
  have hl : lv_has ls 8 [(0, .ref (q 0)), (1, .int a1), (2, .int a2), (3, .int a3)] := hl
  unfold Rm_best at hm
  refine lv_aload_n hx hb dX9_best_0 rfl (lv_at hl 0 rfl) ?_
  refine lv_iload_n hx hb dX9_best_1 rfl (lv_at hl 1 rfl) ?_
  refine g_callVi (k0 := 0) (ci := 9) (As := [.int a1]) (rest := []) fx hC rw_w (Rc_isFamily l τ a1) k_449 Rk_isFamily Rh_isFamily rfl rfl rfl ⟨rfl, rfl⟩ ⟨Nat.le_trans (Nat.le_of_ble_eq_true rfl) hR.1, Nat.le_trans (Nat.le_of_ble_eq_true rfl) hR.2⟩ hf rfl hl.1 rfl (Nat.le_of_ble_eq_true rfl) dX9_best_2 (fun H locs hC => ?_)
  refine lv_if_eq (tgt := 17) hx hb dX9_best_5 (by decide) (fun c_1 => ?_) (fun c_1 => ?_)
  · replace hm := ifp hm c_1
    refine lv_bipush (v := (-2 : Int32)) hx hb dX9_best_17 (by decide) ?_
    cases hm
    exact g_iret fx hr hC rfl dX9_best_19
  · replace hm := ifn hm c_1
    refine lv_iload_n hx hb dX9_best_8 rfl (lv_at hl 2 rfl) ?_
    refine lv_iconst (v := (0 : Int32)) hx hb dX9_best_9 (by decide) ?_
    refine lv_iconst (v := (1 : Int32)) hx hb dX9_best_10 (by decide) ?_
    refine g_callSi (As := [.int a2, .int (0 : Int32), .int (1 : Int32)]) (rest := []) fx hC rw_w (Rc_in l rw_w τ a2 (0 : Int32) (1 : Int32)) k_140 Rk_in Rh_in ⟨rfl, rfl⟩ ⟨Nat.le_trans (Nat.le_of_ble_eq_true rfl) hR.1, Nat.le_trans (Nat.le_of_ble_eq_true rfl) hR.2⟩ hf rfl hl.1 rfl (Nat.le_of_ble_eq_true rfl) dX9_best_11 (fun H locs hC => ?_)
    refine lv_if_ne (tgt := 20) hx hb dX9_best_14 (by decide) (fun c_2 => ?_) (fun c_2 => ?_)
    · replace hm := ifn hm c_2
      refine lv_iload_n hx hb dX9_best_20 rfl (lv_at hl 3 rfl) ?_
      refine lv_if_ge (tgt := 26) hx hb dX9_best_21 (by decide) (fun c_3 => ?_) (fun c_3 => ?_)
      · replace hm := ifp hm c_3
        refine lv_iload_n hx hb dX9_best_26 rfl (lv_at hl 3 rfl) ?_
        refine lv_istore (lv' := [(4, .int a3), (0, .ref (q 0)), (1, .int a1), (2, .int a2), (3, .int a3)]) hx hb dX9_best_27 hl (by decide) rfl (fun ls hl => ?_)
        refine lv_sipush (v := (600 : Int32)) hx hb dX9_best_29 (by decide) ?_
        refine lv_istore (lv' := [(5, .int (600 : Int32)), (4, .int a3), (0, .ref (q 0)), (1, .int a1), (2, .int a2), (3, .int a3)]) hx hb dX9_best_32 hl (by decide) rfl (fun ls hl => ?_)
        refine Rw_best_34 τ fx hR hf a1 a2 fuel a3 (600 : Int32) hm _ _ _ hC (lv_sub hl [2, 3, 4, 1, 0] rfl) (fun u_20 H locs ls hm hC hl => ?_) (fun  H locs ls hm hC hl => ?_)
        · refine lv_iload hx hb dX9_best_96 (lv_at hl 0 rfl) ?_
          cases hm
          exact g_iret fx hr hC rfl dX9_best_98
        · refine lv_iconst (v := (-1 : Int32)) hx hb dX9_best_114 (by decide) ?_
          cases hm
          exact g_iret fx hr hC rfl dX9_best_115
      · replace hm := ifn hm c_3
        refine lv_iconst (v := (-1 : Int32)) hx hb dX9_best_24 (by decide) ?_
        cases hm
        exact g_iret fx hr hC rfl dX9_best_25
    · replace hm := ifp hm c_2
      refine lv_bipush (v := (-2 : Int32)) hx hb dX9_best_17 (by decide) ?_
      cases hm
      exact g_iret fx hr hC rfl dX9_best_19
def Rs_draw_26 {ρ : Type} (p1 : Int32) (p2 : Int32) (p3 : Int32) (τ : RS) (kx40 : Int32 → Option ρ) (rc : Int32 → Option ρ) (v4 : Int32) : Option ρ :=
  if p3 ≤ ((1 : Int32) <<< (v4 &&& 31)) then (kx40 v4) else (rc (v4 + (1 : Int32)))
def Rs_draw_49 {ρ : Type} (p1 : Int32) (p3 : Int32) (p4 : Int32) (τ : RS) (kx99 : Int32 → Option ρ) (rc : Int32 → Int32 → Int32 → Option ρ) (v5 : Int32) (v6 : Int32) (v7 : Int32) : Option ρ :=
  if (1000 : Int32) ≤ v7 then (kx99 v6) else (if v6 < p3 then (kx99 v6) else (nm ((v5 * (1103515245 : Int32)) + (12345 : Int32)) (fun x_9 => if p4 = (0 : Int32) then (rc x_9 (0 : Int32) (v7 + (1 : Int32))) else (nm (((x_9).toUInt32 >>> ((((32 : Int32) - p4)).toUInt32 &&& Int32.toUInt32 31)).toInt32) (fun x_11 => rc x_9 x_11 (v7 + (1 : Int32)))))))
def Rm_draw (τ : RS) (a1 : Int32) (a2 : Int32) : Option Int32 :=
  if (Rm_isFamily τ a1) = (0 : Int32) then (some (-2 : Int32)) else (b1 (Rm_count0 τ a1) (fun r_3 => if r_3 = (0 : Int32) then (some (-1 : Int32)) else (it1 (Rs_draw_26 a1 a2 r_3 τ (fun u_6 => it3 (Rs_draw_49 a1 r_3 u_6 τ (fun u_12 => gz r_3 (b1 (Rm_way0 τ a1 (u_12 - u_12 / r_3 * r_3)) (fun r_15 => some r_15)))) fuel a2 r_3 (0 : Int32))) fuel (0 : Int32))))
abbrev Rrm_draw : Room := { frames := 3, cells := 0, slots := 0, locals := 67 }
set_option maxRecDepth 100000 in
set_option maxHeartbeats 4000000 in
theorem Rw_draw_26 {ρ : Type} {out : ρ} {p : Program} {l : Launch} {e : Env} {R : Room} {s : State} {m : MethodId} {args : Array Value} {below : List Frame} {meth : Method} {c : Code} {cells slots : Nat} {Q : State → Prop} {D : va_G} {cy : Nat → ClassId} {ad : List Nat} {q : Nat → Nat} {X : va_W} (τ : RS) (fx : FX p s m args meth c cX9_draw 8 RX9 D cy) (hR : 3 ≤ R.frames ∧ 67 ≤ R.locals) (hf : cells ≤ R.cells ∧ slots ≤ R.slots) (p1 : Int32) (p2 : Int32) (p3 : Int32) {kx40 : Int32 → Option ρ} :
    ∀ (n : Nat) (v4 : Int32), it1 (Rs_draw_26 p1 p2 p3 τ kx40) n v4 = some out → ∀ (H : Heap) (locs : List Loc) (ls : Array Slot), GC D (rwd cy q X) ad s τ H locs → lv_has ls 8 [(0, .ref (q 0)), (1, .int p1), (2, .int p2), (3, .int p3), (4, .int v4)] → (∀ (u4 : Int32) (H : Heap) (locs : List Loc) (ls : Array Slot), kx40 u4 = some out → GC D (rwd cy q X) ad s τ H locs → lv_has ls 8 [(0, .ref (q 0)), (1, .int p1), (2, .int p2), (3, .int p3), (4, .int u4)] → W p l e R s m args below meth c H locs cells slots Q (F0 m 40 ls [])) → W p l e R s m args below meth c H locs cells slots Q (F0 m 26 ls []) := by
  have hx := fx.1
  have hb := fx.2.1
  intro n
  induction n with
  | zero => intro v4 hm; exact (it1_z hm).elim
  | succ n ih =>
    intro v4 hm H locs ls hC hl hx40
    obtain ⟨rc, hrc⟩ : ∃ z, z = it1 (Rs_draw_26 p1 p2 p3 τ kx40) n := ⟨_, rfl⟩
    replace hm : Rs_draw_26 p1 p2 p3 τ kx40 rc v4 = some out := by rw [hrc]; exact hm
    unfold Rs_draw_26 at hm
    refine lv_iconst (v := (1 : Int32)) hx hb dX9_draw_26 (by decide) ?_
    refine lv_iload hx hb dX9_draw_27 (lv_at hl 4 rfl) ?_
    refine lv_ishl hx hb dX9_draw_29 ?_
    refine lv_iload_n hx hb dX9_draw_30 rfl (lv_at hl 3 rfl) ?_
    refine lv_icmp_ge (tgt := 40) hx hb dX9_draw_31 (by decide) (fun c_5 => ?_) (fun c_5 => ?_)
    · replace hm := ifp hm c_5
      exact hx40 _ _ _ _ hm hC (lv_sub hl [0, 1, 2, 3, 4] rfl)
    · replace hm := ifn hm c_5
      refine lv_iinc (v := (v4 + (1 : Int32))) (lv' := [(4, .int (v4 + (1 : Int32))), (0, .ref (q 0)), (1, .int p1), (2, .int p2), (3, .int p3)]) hx hb dX9_draw_34 hl (k := 4) rfl rfl (by decide) rfl (fun ls hl => ?_)
      refine lv_goto (tgt := 26) hx hb dX9_draw_37 (by decide) ?_
      rw [hrc] at hm
      exact ih _ hm _ _ _ hC (lv_sub hl [1, 2, 3, 4, 0] rfl) hx40
set_option maxRecDepth 100000 in
set_option maxHeartbeats 4000000 in
theorem Rw_draw_49 {ρ : Type} {out : ρ} {p : Program} {l : Launch} {e : Env} {R : Room} {s : State} {m : MethodId} {args : Array Value} {below : List Frame} {meth : Method} {c : Code} {cells slots : Nat} {Q : State → Prop} {D : va_G} {cy : Nat → ClassId} {ad : List Nat} {q : Nat → Nat} {X : va_W} (τ : RS) (fx : FX p s m args meth c cX9_draw 8 RX9 D cy) (hR : 3 ≤ R.frames ∧ 67 ≤ R.locals) (hf : cells ≤ R.cells ∧ slots ≤ R.slots) (p1 : Int32) (p3 : Int32) (p4 : Int32) {kx99 : Int32 → Option ρ} :
    ∀ (n : Nat) (v5 : Int32) (v6 : Int32) (v7 : Int32), it3 (Rs_draw_49 p1 p3 p4 τ kx99) n v5 v6 v7 = some out → ∀ (H : Heap) (locs : List Loc) (ls : Array Slot), GC D (rwd cy q X) ad s τ H locs → lv_has ls 8 [(0, .ref (q 0)), (1, .int p1), (3, .int p3), (4, .int p4), (5, .int v5), (6, .int v6), (7, .int v7)] → (∀ (u6 : Int32) (H : Heap) (locs : List Loc) (ls : Array Slot), kx99 u6 = some out → GC D (rwd cy q X) ad s τ H locs → lv_has ls 8 [(0, .ref (q 0)), (1, .int p1), (3, .int p3), (6, .int u6)] → W p l e R s m args below meth c H locs cells slots Q (F0 m 99 ls [])) → W p l e R s m args below meth c H locs cells slots Q (F0 m 49 ls []) := by
  have hx := fx.1
  have hb := fx.2.1
  intro n
  induction n with
  | zero => intro v5 v6 v7 hm; exact (it3_z hm).elim
  | succ n ih =>
    intro v5 v6 v7 hm H locs ls hC hl hx99
    obtain ⟨rc, hrc⟩ : ∃ z, z = it3 (Rs_draw_49 p1 p3 p4 τ kx99) n := ⟨_, rfl⟩
    replace hm : Rs_draw_49 p1 p3 p4 τ kx99 rc v5 v6 v7 = some out := by rw [hrc]; exact hm
    unfold Rs_draw_49 at hm
    refine lv_iload hx hb dX9_draw_49 (lv_at hl 6 rfl) ?_
    refine lv_sipush (v := (1000 : Int32)) hx hb dX9_draw_51 (by decide) ?_
    refine lv_icmp_ge (tgt := 99) hx hb dX9_draw_54 (by decide) (fun c_7 => ?_) (fun c_7 => ?_)
    · replace hm := ifp hm c_7
      exact hx99 _ _ _ _ hm hC (lv_sub hl [0, 1, 2, 5] rfl)
    · replace hm := ifn hm c_7
      refine lv_iload hx hb dX9_draw_57 (lv_at hl 5 rfl) ?_
      refine lv_iload_n hx hb dX9_draw_59 rfl (lv_at hl 2 rfl) ?_
      refine lv_icmp_lt (tgt := 99) hx hb dX9_draw_60 (by decide) (fun c_8 => ?_) (fun c_8 => ?_)
      · replace hm := ifp hm c_8
        exact hx99 _ _ _ _ hm hC (lv_sub hl [0, 1, 2, 5] rfl)
      · replace hm := ifn hm c_8
        refine lv_iload hx hb dX9_draw_63 (lv_at hl 4 rfl) ?_
        refine lv_ldc hx hb fx.2.2.2.1 (fx.2.2.2.2.1 _ k_842) dX9_draw_65 ?_
        refine lv_imul hx hb dX9_draw_67 ?_
        refine lv_sipush (v := (12345 : Int32)) hx hb dX9_draw_68 (by decide) ?_
        refine lv_iadd hx hb dX9_draw_71 ?_
        refine lv_topi (fun x_9 ex_9 => ?_)
        replace hm := nm_in hm ex_9
        refine lv_istore (lv' := [(5, .int x_9), (0, .ref (q 0)), (1, .int p1), (3, .int p3), (4, .int p4), (6, .int v6), (7, .int v7)]) hx hb dX9_draw_72 hl (by decide) rfl (fun ls hl => ?_)
        refine lv_iload hx hb dX9_draw_74 (lv_at hl 4 rfl) ?_
        refine lv_if_ne (tgt := 83) hx hb dX9_draw_76 (by decide) (fun c_10 => ?_) (fun c_10 => ?_)
        · replace hm := ifn hm c_10
          refine lv_iload hx hb dX9_draw_83 (lv_at hl 0 rfl) ?_
          refine lv_bipush (v := (32 : Int32)) hx hb dX9_draw_85 (by decide) ?_
          refine lv_iload hx hb dX9_draw_87 (lv_at hl 4 rfl) ?_
          refine lv_isub hx hb dX9_draw_89 ?_
          refine lv_iushr hx hb dX9_draw_90 rfl ?_
          refine lv_topi (fun x_11 ex_11 => ?_)
          replace hm := nm_in hm ex_11
          refine lv_istore (lv' := [(6, .int x_11), (5, .int x_9), (0, .ref (q 0)), (1, .int p1), (3, .int p3), (4, .int p4), (7, .int v7)]) hx hb dX9_draw_91 hl (by decide) rfl (fun ls hl => ?_)
          refine lv_iinc (v := (v7 + (1 : Int32))) (lv' := [(7, .int (v7 + (1 : Int32))), (6, .int x_11), (5, .int x_9), (0, .ref (q 0)), (1, .int p1), (3, .int p3), (4, .int p4)]) hx hb dX9_draw_93 hl (k := 6) rfl rfl (by decide) rfl (fun ls hl => ?_)
          refine lv_goto (tgt := 49) hx hb dX9_draw_96 (by decide) ?_
          rw [hrc] at hm
          exact ih _ _ _ hm _ _ _ hC (lv_sub hl [3, 4, 5, 6, 2, 1, 0] rfl) hx99
        · replace hm := ifp hm c_10
          refine lv_iconst (v := (0 : Int32)) hx hb dX9_draw_79 (by decide) ?_
          refine lv_goto (tgt := 91) hx hb dX9_draw_80 (by decide) ?_
          refine lv_istore (lv' := [(6, .int (0 : Int32)), (5, .int x_9), (0, .ref (q 0)), (1, .int p1), (3, .int p3), (4, .int p4), (7, .int v7)]) hx hb dX9_draw_91 hl (by decide) rfl (fun ls hl => ?_)
          refine lv_iinc (v := (v7 + (1 : Int32))) (lv' := [(7, .int (v7 + (1 : Int32))), (6, .int (0 : Int32)), (5, .int x_9), (0, .ref (q 0)), (1, .int p1), (3, .int p3), (4, .int p4)]) hx hb dX9_draw_93 hl (k := 6) rfl rfl (by decide) rfl (fun ls hl => ?_)
          refine lv_goto (tgt := 49) hx hb dX9_draw_96 (by decide) ?_
          rw [hrc] at hm
          exact ih _ _ _ hm _ _ _ hC (lv_sub hl [3, 4, 5, 6, 2, 1, 0] rfl) hx99
set_option maxRecDepth 100000 in
set_option maxHeartbeats 4000000 in
theorem Rc_draw (l : Launch) {D : va_G} {cy : Nat → ClassId} {ad : List Nat} {q : Nat → Nat} {X : va_W} (τ : RS) (a1 : Int32) (a2 : Int32) {o : Int32} (hm : Rm_draw τ a1 a2 = some o) : GM l yX9_draw cX9_draw 8 (some .int) Rrm_draw D cy (rwd cy q X) ad [.ref (q 0), .int a1, .int a2] τ (some (.int o)) τ := by
  refine g_start RX9 rfl (by decide) (Nat.le_of_ble_eq_true rfl) ?_
  intro p e s m args below meth c fx hr hC ls hl
  have hx := fx.1
  have hb := fx.2.1
  have hR : 3 ≤ (Rrm_draw).frames ∧ 67 ≤ (Rrm_draw).locals := ⟨Nat.le_refl _, Nat.le_refl _⟩
  have hf : 0 ≤ (Rrm_draw).cells ∧ 0 ≤ (Rrm_draw).slots := ⟨Nat.zero_le _, Nat.zero_le _⟩
  have hl : lv_has ls 8 [(0, .ref (q 0)), (1, .int a1), (2, .int a2)] := hl
  unfold Rm_draw at hm
  refine lv_aload_n hx hb dX9_draw_0 rfl (lv_at hl 0 rfl) ?_
  refine lv_iload_n hx hb dX9_draw_1 rfl (lv_at hl 1 rfl) ?_
  refine g_callVi (k0 := 0) (ci := 9) (As := [.int a1]) (rest := []) fx hC rw_w (Rc_isFamily l τ a1) k_449 Rk_isFamily Rh_isFamily rfl rfl rfl ⟨rfl, rfl⟩ ⟨Nat.le_trans (Nat.le_of_ble_eq_true rfl) hR.1, Nat.le_trans (Nat.le_of_ble_eq_true rfl) hR.2⟩ hf rfl hl.1 rfl (Nat.le_of_ble_eq_true rfl) dX9_draw_2 (fun H locs hC => ?_)
  refine lv_if_ne (tgt := 11) hx hb dX9_draw_5 (by decide) (fun c_1 => ?_) (fun c_1 => ?_)
  · replace hm := ifn hm c_1
    refine lv_aload_n hx hb dX9_draw_11 rfl (lv_at hl 0 rfl) ?_
    refine lv_iload_n hx hb dX9_draw_12 rfl (lv_at hl 1 rfl) ?_
    obtain ⟨r_3, e_2, hm⟩ := b1_in hm
    refine g_callVi (k0 := 0) (ci := 9) (As := [.int a1]) (rest := []) fx hC rw_w (Rc_count0 l τ a1 e_2) k_548 Rk_count0 Rh_count0 rfl rfl rfl ⟨rfl, rfl⟩ ⟨Nat.le_trans (Nat.le_of_ble_eq_true rfl) hR.1, Nat.le_trans (Nat.le_of_ble_eq_true rfl) hR.2⟩ hf rfl hl.1 rfl (Nat.le_of_ble_eq_true rfl) dX9_draw_13 (fun H locs hC => ?_)
    refine lv_istore_n (lv' := [(3, .int r_3), (0, .ref (q 0)), (1, .int a1), (2, .int a2)]) hx hb dX9_draw_16 rfl hl (by decide) rfl (fun ls hl => ?_)
    refine lv_iload_n hx hb dX9_draw_17 rfl (lv_at hl 0 rfl) ?_
    refine lv_if_ne (tgt := 23) hx hb dX9_draw_18 (by decide) (fun c_4 => ?_) (fun c_4 => ?_)
    · replace hm := ifn hm c_4
      refine lv_iconst (v := (0 : Int32)) hx hb dX9_draw_23 (by decide) ?_
      refine lv_istore (lv' := [(4, .int (0 : Int32)), (3, .int r_3), (0, .ref (q 0)), (1, .int a1), (2, .int a2)]) hx hb dX9_draw_24 hl (by decide) rfl (fun ls hl => ?_)
      refine Rw_draw_26 τ fx hR hf a1 a2 r_3 fuel (0 : Int32) hm _ _ _ hC (lv_sub hl [2, 3, 4, 1, 0] rfl) (fun u_6 H locs ls hm hC hl => ?_)
      refine lv_iload_n hx hb dX9_draw_40 rfl (lv_at hl 2 rfl) ?_
      refine lv_istore (lv' := [(5, .int a2), (0, .ref (q 0)), (1, .int a1), (2, .int a2), (3, .int r_3), (4, .int u_6)]) hx hb dX9_draw_41 hl (by decide) rfl (fun ls hl => ?_)
      refine lv_iload_n hx hb dX9_draw_43 rfl (lv_at hl 4 rfl) ?_
      refine lv_istore (lv' := [(6, .int r_3), (5, .int a2), (0, .ref (q 0)), (1, .int a1), (2, .int a2), (3, .int r_3), (4, .int u_6)]) hx hb dX9_draw_44 hl (by decide) rfl (fun ls hl => ?_)
      refine lv_iconst (v := (0 : Int32)) hx hb dX9_draw_46 (by decide) ?_
      refine lv_istore (lv' := [(7, .int (0 : Int32)), (6, .int r_3), (5, .int a2), (0, .ref (q 0)), (1, .int a1), (2, .int a2), (3, .int r_3), (4, .int u_6)]) hx hb dX9_draw_47 hl (by decide) rfl (fun ls hl => ?_)
      refine Rw_draw_49 τ fx hR hf a1 r_3 u_6 fuel a2 r_3 (0 : Int32) hm _ _ _ hC (lv_sub hl [3, 4, 6, 7, 2, 1, 0] rfl) (fun u_12 H locs ls hm hC hl => ?_)
      refine lv_aload_n hx hb dX9_draw_99 rfl (lv_at hl 0 rfl) ?_
      refine lv_iload_n hx hb dX9_draw_100 rfl (lv_at hl 1 rfl) ?_
      refine lv_iload hx hb dX9_draw_101 (lv_at hl 3 rfl) ?_
      refine lv_iload_n hx hb dX9_draw_103 rfl (lv_at hl 2 rfl) ?_
      have h_13 := (gz_in hm).1
      replace hm := (gz_in hm).2
      refine lv_irem hx hb dX9_draw_104 h_13 ?_
      obtain ⟨r_15, e_14, hm⟩ := b1_in hm
      refine g_callVi (k0 := 0) (ci := 9) (As := [.int a1, .int (u_12 - u_12 / r_3 * r_3)]) (rest := []) fx hC rw_w (Rc_way0 l τ a1 (u_12 - u_12 / r_3 * r_3) e_14) k_789 Rk_way0 Rh_way0 rfl rfl rfl ⟨rfl, rfl⟩ ⟨Nat.le_trans (Nat.le_of_ble_eq_true rfl) hR.1, Nat.le_trans (Nat.le_of_ble_eq_true rfl) hR.2⟩ hf rfl hl.1 rfl (Nat.le_of_ble_eq_true rfl) dX9_draw_105 (fun H locs hC => ?_)
      cases hm
      exact g_iret fx hr hC rfl dX9_draw_108
    · replace hm := ifp hm c_4
      refine lv_iconst (v := (-1 : Int32)) hx hb dX9_draw_21 (by decide) ?_
      cases hm
      exact g_iret fx hr hC rfl dX9_draw_22
  · replace hm := ifp hm c_1
    refine lv_bipush (v := (-2 : Int32)) hx hb dX9_draw_8 (by decide) ?_
    cases hm
    exact g_iret fx hr hC rfl dX9_draw_10
def Rs_same_24 {ρ : Type} (p1 : Int32) (p2 : Int32) (τ : RS) (kx65 : Int32 → Option ρ) (rc : Int32 → Int32 → Option ρ) (v3 : Int32) (v4 : Int32) : Option ρ :=
  if (4096 : Int32) ≤ v4 then (kx65 v3) else (if v3 = (0 : Int32) then (rc (0 : Int32) (v4 + (1 : Int32))) else (b1 (Rm_isWay τ p1 v4) (fun r_6 => b1 (Rm_isWay τ p2 v4) (fun r_8 => if r_6 = r_8 then (rc (1 : Int32) (v4 + (1 : Int32))) else (rc (0 : Int32) (v4 + (1 : Int32)))))))
def Rm_same (τ : RS) (a1 : Int32) (a2 : Int32) : Option Int32 :=
  if (Rm_isFamily τ a1) = (0 : Int32) then (some (-2 : Int32)) else (if (Rm_isFamily τ a2) = (0 : Int32) then (some (-2 : Int32)) else (it2 (Rs_same_24 a1 a2 τ (fun u_10 => if u_10 = (0 : Int32) then (some (0 : Int32)) else (some (1 : Int32)))) fuel (1 : Int32) (0 : Int32)))
abbrev Rrm_same : Room := { frames := 2, cells := 0, slots := 0, locals := 43 }
set_option maxRecDepth 100000 in
set_option maxHeartbeats 4000000 in
theorem Rw_same_24 {ρ : Type} {out : ρ} {p : Program} {l : Launch} {e : Env} {R : Room} {s : State} {m : MethodId} {args : Array Value} {below : List Frame} {meth : Method} {c : Code} {cells slots : Nat} {Q : State → Prop} {D : va_G} {cy : Nat → ClassId} {ad : List Nat} {q : Nat → Nat} {X : va_W} (τ : RS) (fx : FX p s m args meth c cX9_same 5 RX9 D cy) (hR : 2 ≤ R.frames ∧ 43 ≤ R.locals) (hf : cells ≤ R.cells ∧ slots ≤ R.slots) (p1 : Int32) (p2 : Int32) {kx65 : Int32 → Option ρ} :
    ∀ (n : Nat) (v3 : Int32) (v4 : Int32), it2 (Rs_same_24 p1 p2 τ kx65) n v3 v4 = some out → ∀ (H : Heap) (locs : List Loc) (ls : Array Slot), GC D (rwd cy q X) ad s τ H locs → lv_has ls 5 [(0, .ref (q 0)), (1, .int p1), (2, .int p2), (3, .int v3), (4, .int v4)] → (∀ (u3 : Int32) (H : Heap) (locs : List Loc) (ls : Array Slot), kx65 u3 = some out → GC D (rwd cy q X) ad s τ H locs → lv_has ls 5 [(3, .int u3)] → W p l e R s m args below meth c H locs cells slots Q (F0 m 65 ls [])) → W p l e R s m args below meth c H locs cells slots Q (F0 m 24 ls []) := by
  have hx := fx.1
  have hb := fx.2.1
  intro n
  induction n with
  | zero => intro v3 v4 hm; exact (it2_z hm).elim
  | succ n ih =>
    intro v3 v4 hm H locs ls hC hl hx65
    obtain ⟨rc, hrc⟩ : ∃ z, z = it2 (Rs_same_24 p1 p2 τ kx65) n := ⟨_, rfl⟩
    replace hm : Rs_same_24 p1 p2 τ kx65 rc v3 v4 = some out := by rw [hrc]; exact hm
    unfold Rs_same_24 at hm
    refine lv_iload hx hb dX9_same_24 (lv_at hl 4 rfl) ?_
    refine lv_sipush (v := (4096 : Int32)) hx hb dX9_same_26 (by decide) ?_
    refine lv_icmp_ge (tgt := 65) hx hb dX9_same_29 (by decide) (fun c_3 => ?_) (fun c_3 => ?_)
    · replace hm := ifp hm c_3
      exact hx65 _ _ _ _ hm hC (lv_sub hl [3] rfl)
    · replace hm := ifn hm c_3
      refine lv_iload_n hx hb dX9_same_32 rfl (lv_at hl 3 rfl) ?_
      refine lv_if_eq (tgt := 57) hx hb dX9_same_33 (by decide) (fun c_4 => ?_) (fun c_4 => ?_)
      · replace hm := ifp hm c_4
        refine lv_iconst (v := (0 : Int32)) hx hb dX9_same_57 (by decide) ?_
        refine lv_istore_n (lv' := [(3, .int (0 : Int32)), (0, .ref (q 0)), (1, .int p1), (2, .int p2), (4, .int v4)]) hx hb dX9_same_58 rfl hl (by decide) rfl (fun ls hl => ?_)
        refine lv_iinc (v := (v4 + (1 : Int32))) (lv' := [(4, .int (v4 + (1 : Int32))), (3, .int (0 : Int32)), (0, .ref (q 0)), (1, .int p1), (2, .int p2)]) hx hb dX9_same_59 hl (k := 4) rfl rfl (by decide) rfl (fun ls hl => ?_)
        refine lv_goto (tgt := 24) hx hb dX9_same_62 (by decide) ?_
        rw [hrc] at hm
        exact ih _ _ hm _ _ _ hC (lv_sub hl [2, 3, 4, 1, 0] rfl) hx65
      · replace hm := ifn hm c_4
        refine lv_aload_n hx hb dX9_same_36 rfl (lv_at hl 0 rfl) ?_
        refine lv_iload_n hx hb dX9_same_37 rfl (lv_at hl 1 rfl) ?_
        refine lv_iload hx hb dX9_same_38 (lv_at hl 4 rfl) ?_
        obtain ⟨r_6, e_5, hm⟩ := b1_in hm
        refine g_callVi (k0 := 0) (ci := 9) (As := [.int p1, .int v4]) (rest := []) fx hC rw_w (Rc_isWay l τ p1 v4 e_5) k_453 Rk_isWay Rh_isWay rfl rfl rfl ⟨rfl, rfl⟩ ⟨Nat.le_trans (Nat.le_of_ble_eq_true rfl) hR.1, Nat.le_trans (Nat.le_of_ble_eq_true rfl) hR.2⟩ hf rfl hl.1 rfl (Nat.le_of_ble_eq_true rfl) dX9_same_40 (fun H locs hC => ?_)
        refine lv_aload_n hx hb dX9_same_43 rfl (lv_at hl 0 rfl) ?_
        refine lv_iload_n hx hb dX9_same_44 rfl (lv_at hl 2 rfl) ?_
        refine lv_iload hx hb dX9_same_45 (lv_at hl 4 rfl) ?_
        obtain ⟨r_8, e_7, hm⟩ := b1_in hm
        refine g_callVi (k0 := 0) (ci := 9) (As := [.int p2, .int v4]) (rest := [.int r_6]) fx hC rw_w (Rc_isWay l τ p2 v4 e_7) k_453 Rk_isWay Rh_isWay rfl rfl rfl ⟨rfl, rfl⟩ ⟨Nat.le_trans (Nat.le_of_ble_eq_true rfl) hR.1, Nat.le_trans (Nat.le_of_ble_eq_true rfl) hR.2⟩ hf rfl hl.1 rfl (Nat.le_of_ble_eq_true rfl) dX9_same_47 (fun H locs hC => ?_)
        refine lv_icmp_ne (tgt := 57) hx hb dX9_same_50 (by decide) (fun c_9 => ?_) (fun c_9 => ?_)
        · replace hm := ifn hm c_9
          refine lv_iconst (v := (0 : Int32)) hx hb dX9_same_57 (by decide) ?_
          refine lv_istore_n (lv' := [(3, .int (0 : Int32)), (0, .ref (q 0)), (1, .int p1), (2, .int p2), (4, .int v4)]) hx hb dX9_same_58 rfl hl (by decide) rfl (fun ls hl => ?_)
          refine lv_iinc (v := (v4 + (1 : Int32))) (lv' := [(4, .int (v4 + (1 : Int32))), (3, .int (0 : Int32)), (0, .ref (q 0)), (1, .int p1), (2, .int p2)]) hx hb dX9_same_59 hl (k := 4) rfl rfl (by decide) rfl (fun ls hl => ?_)
          refine lv_goto (tgt := 24) hx hb dX9_same_62 (by decide) ?_
          rw [hrc] at hm
          exact ih _ _ hm _ _ _ hC (lv_sub hl [2, 3, 4, 1, 0] rfl) hx65
        · replace hm := ifp hm c_9
          refine lv_iconst (v := (1 : Int32)) hx hb dX9_same_53 (by decide) ?_
          refine lv_goto (tgt := 58) hx hb dX9_same_54 (by decide) ?_
          refine lv_istore_n (lv' := [(3, .int (1 : Int32)), (0, .ref (q 0)), (1, .int p1), (2, .int p2), (4, .int v4)]) hx hb dX9_same_58 rfl hl (by decide) rfl (fun ls hl => ?_)
          refine lv_iinc (v := (v4 + (1 : Int32))) (lv' := [(4, .int (v4 + (1 : Int32))), (3, .int (1 : Int32)), (0, .ref (q 0)), (1, .int p1), (2, .int p2)]) hx hb dX9_same_59 hl (k := 4) rfl rfl (by decide) rfl (fun ls hl => ?_)
          refine lv_goto (tgt := 24) hx hb dX9_same_62 (by decide) ?_
          rw [hrc] at hm
          exact ih _ _ hm _ _ _ hC (lv_sub hl [2, 3, 4, 1, 0] rfl) hx65
set_option maxRecDepth 100000 in
set_option maxHeartbeats 4000000 in
theorem Rc_same (l : Launch) {D : va_G} {cy : Nat → ClassId} {ad : List Nat} {q : Nat → Nat} {X : va_W} (τ : RS) (a1 : Int32) (a2 : Int32) {o : Int32} (hm : Rm_same τ a1 a2 = some o) : GM l yX9_same cX9_same 5 (some .int) Rrm_same D cy (rwd cy q X) ad [.ref (q 0), .int a1, .int a2] τ (some (.int o)) τ := by
  refine g_start RX9 rfl (by decide) (Nat.le_of_ble_eq_true rfl) ?_
  intro p e s m args below meth c fx hr hC ls hl
  have hx := fx.1
  have hb := fx.2.1
  have hR : 2 ≤ (Rrm_same).frames ∧ 43 ≤ (Rrm_same).locals := ⟨Nat.le_refl _, Nat.le_refl _⟩
  have hf : 0 ≤ (Rrm_same).cells ∧ 0 ≤ (Rrm_same).slots := ⟨Nat.zero_le _, Nat.zero_le _⟩
  have hl : lv_has ls 5 [(0, .ref (q 0)), (1, .int a1), (2, .int a2)] := hl
  unfold Rm_same at hm
  refine lv_aload_n hx hb dX9_same_0 rfl (lv_at hl 0 rfl) ?_
  refine lv_iload_n hx hb dX9_same_1 rfl (lv_at hl 1 rfl) ?_
  refine g_callVi (k0 := 0) (ci := 9) (As := [.int a1]) (rest := []) fx hC rw_w (Rc_isFamily l τ a1) k_449 Rk_isFamily Rh_isFamily rfl rfl rfl ⟨rfl, rfl⟩ ⟨Nat.le_trans (Nat.le_of_ble_eq_true rfl) hR.1, Nat.le_trans (Nat.le_of_ble_eq_true rfl) hR.2⟩ hf rfl hl.1 rfl (Nat.le_of_ble_eq_true rfl) dX9_same_2 (fun H locs hC => ?_)
  refine lv_if_eq (tgt := 16) hx hb dX9_same_5 (by decide) (fun c_1 => ?_) (fun c_1 => ?_)
  · replace hm := ifp hm c_1
    refine lv_bipush (v := (-2 : Int32)) hx hb dX9_same_16 (by decide) ?_
    cases hm
    exact g_iret fx hr hC rfl dX9_same_18
  · replace hm := ifn hm c_1
    refine lv_aload_n hx hb dX9_same_8 rfl (lv_at hl 0 rfl) ?_
    refine lv_iload_n hx hb dX9_same_9 rfl (lv_at hl 2 rfl) ?_
    refine g_callVi (k0 := 0) (ci := 9) (As := [.int a2]) (rest := []) fx hC rw_w (Rc_isFamily l τ a2) k_449 Rk_isFamily Rh_isFamily rfl rfl rfl ⟨rfl, rfl⟩ ⟨Nat.le_trans (Nat.le_of_ble_eq_true rfl) hR.1, Nat.le_trans (Nat.le_of_ble_eq_true rfl) hR.2⟩ hf rfl hl.1 rfl (Nat.le_of_ble_eq_true rfl) dX9_same_10 (fun H locs hC => ?_)
    refine lv_if_ne (tgt := 19) hx hb dX9_same_13 (by decide) (fun c_2 => ?_) (fun c_2 => ?_)
    · replace hm := ifn hm c_2
      refine lv_iconst (v := (1 : Int32)) hx hb dX9_same_19 (by decide) ?_
      refine lv_istore_n (lv' := [(3, .int (1 : Int32)), (0, .ref (q 0)), (1, .int a1), (2, .int a2)]) hx hb dX9_same_20 rfl hl (by decide) rfl (fun ls hl => ?_)
      refine lv_iconst (v := (0 : Int32)) hx hb dX9_same_21 (by decide) ?_
      refine lv_istore (lv' := [(4, .int (0 : Int32)), (3, .int (1 : Int32)), (0, .ref (q 0)), (1, .int a1), (2, .int a2)]) hx hb dX9_same_22 hl (by decide) rfl (fun ls hl => ?_)
      refine Rw_same_24 τ fx hR hf a1 a2 fuel (1 : Int32) (0 : Int32) hm _ _ _ hC (lv_sub hl [2, 3, 4, 1, 0] rfl) (fun u_10 H locs ls hm hC hl => ?_)
      refine lv_iload_n hx hb dX9_same_65 rfl (lv_at hl 0 rfl) ?_
      refine lv_if_eq (tgt := 73) hx hb dX9_same_66 (by decide) (fun c_11 => ?_) (fun c_11 => ?_)
      · replace hm := ifp hm c_11
        refine lv_iconst (v := (0 : Int32)) hx hb dX9_same_73 (by decide) ?_
        cases hm
        exact g_iret fx hr hC rfl dX9_same_74
      · replace hm := ifn hm c_11
        refine lv_iconst (v := (1 : Int32)) hx hb dX9_same_69 (by decide) ?_
        refine lv_goto (tgt := 74) hx hb dX9_same_70 (by decide) ?_
        cases hm
        exact g_iret fx hr hC rfl dX9_same_74
    · replace hm := ifp hm c_2
      refine lv_bipush (v := (-2 : Int32)) hx hb dX9_same_16 (by decide) ?_
      cases hm
      exact g_iret fx hr hC rfl dX9_same_18
def Rs_chance0_3 {ρ : Type} (p1 : Int32) (p2 : Int32) (p3 : Int32) (kx31 : RS → Option ρ) (rc : Int32 → RS → Option ρ) (v4 : Int32) (τ : RS) : Option ρ :=
  if (4096 : Int32) ≤ v4 then (kx31  τ) else (b1 (Rm_isWay τ p1 v4) (fun r_3 => gi v4 4096 (nm (rA τ 20 (v4).toNatClampNeg (r_3 &&& 1)) (fun τ_5 => rc (v4 + (1 : Int32)) τ_5))))
def Rs_chance0_44 {ρ : Type} (p2 : Int32) (p3 : Int32) (p4 : Int32) (kx107 : RS → Option ρ) (rc : Int32 → RS → Option ρ) (v5 : Int32) (τ : RS) : Option ρ :=
  if (4096 : Int32) ≤ v5 then (kx107  τ) else (gi v5 4096 (if (τ.2 20 (v5).toNatClampNeg) = (0 : Int32) then (if (Rm_holds v5 p4) = (0 : Int32) then (gi v5 4096 (nm (rA τ 20 (v5).toNatClampNeg ((0 : Int32) &&& 1)) (fun τ_17 => rc (v5 + (1 : Int32)) τ_17))) else (gi (v5 &&& (((1 : Int32) <<< (p4 &&& 31)) ^^^ (-1 : Int32))) 4096 (if (τ.2 20 ((v5 &&& (((1 : Int32) <<< (p4 &&& 31)) ^^^ (-1 : Int32)))).toNatClampNeg) = (0 : Int32) then (gi v5 4096 (nm (rA τ 20 (v5).toNatClampNeg ((0 : Int32) &&& 1)) (fun τ_22 => rc (v5 + (1 : Int32)) τ_22))) else (gi v5 4096 (nm (rA τ 20 (v5).toNatClampNeg ((1 : Int32) &&& 1)) (fun τ_25 => rc (v5 + (1 : Int32)) τ_25)))))) else (gi v5 4096 (nm (rA τ 20 (v5).toNatClampNeg ((1 : Int32) &&& 1)) (fun τ_13 => rc (v5 + (1 : Int32)) τ_13)))))
def Rs_chance0_34 {ρ : Type} (p2 : Int32) (p3 : Int32) (kx113 : RS → Option ρ) (rc : Int32 → RS → Option ρ) (v4 : Int32) (τ : RS) : Option ρ :=
  if (12 : Int32) ≤ v4 then (kx113  τ) else (it2 (Rs_chance0_44 p2 p3 v4 (fun τ_27 => rc (v4 + (1 : Int32)) τ_27)) fuel (0 : Int32) τ)
def Rs_chance0_148 {ρ : Type} (p2 : Int32) (p3 : Int32) (p4 : Int64) (p6 : Int32) (τ : RS) (kx230 : Int64 → Option ρ) (rc : Int64 → Int32 → Option ρ) (v7 : Int64) (v9 : Int32) : Option ρ :=
  if (12 : Int32) ≤ v9 then (kx230 v7) else (if v9 < (τ.1 2) then (if v9 = p2 then (if (τ.1 2) ≤ v9 then (rc (v7 * p3.toInt64) (v9 + (1 : Int32))) else (if (Rm_holds p6 v9) = (0 : Int32) then (rc (v7 * ((8 : Int32) - p3).toInt64) (v9 + (1 : Int32))) else (rc (v7 * p3.toInt64) (v9 + (1 : Int32))))) else (gi v9 12 (if (τ.1 2) ≤ v9 then (nm (v7 * (τ.2 5 (v9).toNatClampNeg).toInt64) (fun x_37 => rc x_37 (v9 + (1 : Int32)))) else (if (Rm_holds p6 v9) = (0 : Int32) then (nm (v7 * ((8 : Int32) - (τ.2 5 (v9).toNatClampNeg)).toInt64) (fun x_39 => rc x_39 (v9 + (1 : Int32)))) else (nm (v7 * (τ.2 5 (v9).toNatClampNeg).toInt64) (fun x_40 => rc x_40 (v9 + (1 : Int32)))))))) else (if (τ.1 2) ≤ v9 then (rc (v7 * (8 : Int32).toInt64) (v9 + (1 : Int32))) else (if (Rm_holds p6 v9) = (0 : Int32) then (nm (v7 * ((8 : Int32) - (8 : Int32)).toInt64) (fun x_45 => rc x_45 (v9 + (1 : Int32)))) else (rc (v7 * (8 : Int32).toInt64) (v9 + (1 : Int32))))))
def Rs_chance0_119 {ρ : Type} (p2 : Int32) (p3 : Int32) (τ : RS) (kx243 : Int64 → Option ρ) (rc : Int64 → Int32 → Option ρ) (v4 : Int64) (v6 : Int32) : Option ρ :=
  if (Rm_net τ) ≤ v6 then (kx243 v4) else (gi v6 4096 (if (τ.2 20 (v6).toNatClampNeg) = (0 : Int32) then (it2 (Rs_chance0_148 p2 p3 v4 v6 τ (fun u_46 => rc (v4 + u_46) (v6 + (1 : Int32)))) fuel (0 : Int64) (0 : Int32)) else (it2 (Rs_chance0_148 p2 p3 v4 v6 τ (fun u_47 => rc (v4 + u_47) (v6 + (1 : Int32)))) fuel (1 : Int64) (0 : Int32))))
def Rm_chance0 (τ : RS) (a1 : Int32) (a2 : Int32) (a3 : Int32) : Option (Int64 × RS) :=
  it2 (Rs_chance0_3 a1 a2 a3 (fun τ_7 => it2 (Rs_chance0_34 a2 a3 (fun τ_28 => it2 (Rs_chance0_119 a2 a3 τ_28 (fun u_48 => some (u_48, τ_28))) fuel (0 : Int64) (0 : Int32))) fuel (0 : Int32) τ_7)) fuel (0 : Int32) τ
abbrev Rrm_chance0 : Room := { frames := 1, cells := 0, slots := 0, locals := 22 }
set_option maxRecDepth 100000 in
set_option maxHeartbeats 4000000 in
theorem Rw_chance0_3 {ρ : Type} {out : ρ} {p : Program} {l : Launch} {e : Env} {R : Room} {s : State} {m : MethodId} {args : Array Value} {below : List Frame} {meth : Method} {c : Code} {cells slots : Nat} {Q : State → Prop} {D : va_G} {cy : Nat → ClassId} {ad : List Nat} {q : Nat → Nat} {X : va_W} (fx : FX p s m args meth c cX9_chance0 11 RX9 D cy) (hR : 1 ≤ R.frames ∧ 22 ≤ R.locals) (hf : cells ≤ R.cells ∧ slots ≤ R.slots) (p1 : Int32) (p2 : Int32) (p3 : Int32) {kx31 : RS → Option ρ} :
    ∀ (n : Nat) (v4 : Int32) (τ : RS), it2 (Rs_chance0_3 p1 p2 p3 kx31) n v4 τ = some out → ∀ (H : Heap) (locs : List Loc) (ls : Array Slot), GC D (rwd cy q X) ad s τ H locs → lv_has ls 11 [(0, .ref (q 0)), (1, .int p1), (2, .int p2), (3, .int p3), (4, .int v4)] → (∀ (τ2 : RS) (H : Heap) (locs : List Loc) (ls : Array Slot), kx31 τ2 = some out → GC D (rwd cy q X) ad s τ2 H locs → lv_has ls 11 [(0, .ref (q 0)), (2, .int p2), (3, .int p3)] → W p l e R s m args below meth c H locs cells slots Q (F0 m 31 ls [])) → W p l e R s m args below meth c H locs cells slots Q (F0 m 3 ls []) := by
  have hx := fx.1
  have hb := fx.2.1
  intro n
  induction n with
  | zero => intro v4 τ hm; exact (it2_z hm).elim
  | succ n ih =>
    intro v4 τ hm H locs ls hC hl hx31
    obtain ⟨rc, hrc⟩ : ∃ z, z = it2 (Rs_chance0_3 p1 p2 p3 kx31) n := ⟨_, rfl⟩
    replace hm : Rs_chance0_3 p1 p2 p3 kx31 rc v4 τ = some out := by rw [hrc]; exact hm
    unfold Rs_chance0_3 at hm
    refine lv_iload hx hb dX9_chance0_3 (lv_at hl 4 rfl) ?_
    refine lv_sipush (v := (4096 : Int32)) hx hb dX9_chance0_5 (by decide) ?_
    refine lv_icmp_ge (tgt := 31) hx hb dX9_chance0_8 (by decide) (fun c_1 => ?_) (fun c_1 => ?_)
    · replace hm := ifp hm c_1
      exact hx31 _ _ _ _ hm hC (lv_sub hl [0, 2, 3] rfl)
    · replace hm := ifn hm c_1
      refine lv_aload_n hx hb dX9_chance0_11 rfl (lv_at hl 0 rfl) ?_
      refine Rg_20 fx hC dX9_chance0_12 ?_
      refine lv_iload hx hb dX9_chance0_15 (lv_at hl 4 rfl) ?_
      refine lv_aload_n hx hb dX9_chance0_17 rfl (lv_at hl 0 rfl) ?_
      refine lv_iload_n hx hb dX9_chance0_18 rfl (lv_at hl 1 rfl) ?_
      refine lv_iload hx hb dX9_chance0_19 (lv_at hl 4 rfl) ?_
      obtain ⟨r_3, e_2, hm⟩ := b1_in hm
      refine g_callVi (k0 := 0) (ci := 9) (As := [.int p1, .int v4]) (rest := [.int v4, .ref (q 20)]) fx hC rw_w (Rc_isWay l τ p1 v4 e_2) k_453 Rk_isWay Rh_isWay rfl rfl rfl ⟨rfl, rfl⟩ ⟨Nat.le_trans (Nat.le_of_ble_eq_true rfl) hR.1, Nat.le_trans (Nat.le_of_ble_eq_true rfl) hR.2⟩ hf rfl hl.1 rfl (Nat.le_of_ble_eq_true rfl) dX9_chance0_21 (fun H locs hC => ?_)
      have h_4 := (gi_in hm).1
      replace hm := (gi_in hm).2
      refine Rs_20 fx hC h_4 dX9_chance0_24 (fun H locs hC => ?_)
      obtain ⟨τ_5, e_6⟩ : ∃ z, z = (rA τ 20 (v4).toNatClampNeg (r_3 &&& 1)) := ⟨_, rfl⟩
      rw [← e_6] at hC
      replace hm := nm_in hm e_6
      refine lv_iinc (v := (v4 + (1 : Int32))) (lv' := [(4, .int (v4 + (1 : Int32))), (0, .ref (q 0)), (1, .int p1), (2, .int p2), (3, .int p3)]) hx hb dX9_chance0_25 hl (k := 4) rfl rfl (by decide) rfl (fun ls hl => ?_)
      refine lv_goto (tgt := 3) hx hb dX9_chance0_28 (by decide) ?_
      rw [hrc] at hm
      exact ih _ _ hm _ _ _ hC (lv_sub hl [1, 2, 3, 4, 0] rfl) hx31
set_option maxRecDepth 100000 in
set_option maxHeartbeats 4000000 in
theorem Rw_chance0_44 {ρ : Type} {out : ρ} {p : Program} {l : Launch} {e : Env} {R : Room} {s : State} {m : MethodId} {args : Array Value} {below : List Frame} {meth : Method} {c : Code} {cells slots : Nat} {Q : State → Prop} {D : va_G} {cy : Nat → ClassId} {ad : List Nat} {q : Nat → Nat} {X : va_W} (fx : FX p s m args meth c cX9_chance0 11 RX9 D cy) (hR : 1 ≤ R.frames ∧ 22 ≤ R.locals) (hf : cells ≤ R.cells ∧ slots ≤ R.slots) (p2 : Int32) (p3 : Int32) (p4 : Int32) {kx107 : RS → Option ρ} :
    ∀ (n : Nat) (v5 : Int32) (τ : RS), it2 (Rs_chance0_44 p2 p3 p4 kx107) n v5 τ = some out → ∀ (H : Heap) (locs : List Loc) (ls : Array Slot), GC D (rwd cy q X) ad s τ H locs → lv_has ls 11 [(0, .ref (q 0)), (2, .int p2), (3, .int p3), (4, .int p4), (5, .int v5)] → (∀ (τ2 : RS) (H : Heap) (locs : List Loc) (ls : Array Slot), kx107 τ2 = some out → GC D (rwd cy q X) ad s τ2 H locs → lv_has ls 11 [(0, .ref (q 0)), (2, .int p2), (3, .int p3), (4, .int p4)] → W p l e R s m args below meth c H locs cells slots Q (F0 m 107 ls [])) → W p l e R s m args below meth c H locs cells slots Q (F0 m 44 ls []) := by
  have hx := fx.1
  have hb := fx.2.1
  intro n
  induction n with
  | zero => intro v5 τ hm; exact (it2_z hm).elim
  | succ n ih =>
    intro v5 τ hm H locs ls hC hl hx107
    obtain ⟨rc, hrc⟩ : ∃ z, z = it2 (Rs_chance0_44 p2 p3 p4 kx107) n := ⟨_, rfl⟩
    replace hm : Rs_chance0_44 p2 p3 p4 kx107 rc v5 τ = some out := by rw [hrc]; exact hm
    unfold Rs_chance0_44 at hm
    refine lv_iload hx hb dX9_chance0_44 (lv_at hl 4 rfl) ?_
    refine lv_sipush (v := (4096 : Int32)) hx hb dX9_chance0_46 (by decide) ?_
    refine lv_icmp_ge (tgt := 107) hx hb dX9_chance0_49 (by decide) (fun c_9 => ?_) (fun c_9 => ?_)
    · replace hm := ifp hm c_9
      exact hx107 _ _ _ _ hm hC (lv_sub hl [0, 1, 2, 3] rfl)
    · replace hm := ifn hm c_9
      refine lv_aload_n hx hb dX9_chance0_52 rfl (lv_at hl 0 rfl) ?_
      refine Rg_20 fx hC dX9_chance0_53 ?_
      refine lv_iload hx hb dX9_chance0_56 (lv_at hl 4 rfl) ?_
      refine lv_aload_n hx hb dX9_chance0_58 rfl (lv_at hl 0 rfl) ?_
      refine Rg_20 fx hC dX9_chance0_59 ?_
      refine lv_iload hx hb dX9_chance0_62 (lv_at hl 4 rfl) ?_
      have h_10 := (gi_in hm).1
      replace hm := (gi_in hm).2
      refine Rl_20 fx hC h_10 dX9_chance0_64 ?_
      refine lv_if_ne (tgt := 95) hx hb dX9_chance0_65 (by decide) (fun c_11 => ?_) (fun c_11 => ?_)
      · replace hm := ifn hm c_11
        refine lv_iconst (v := (1 : Int32)) hx hb dX9_chance0_95 (by decide) ?_
        refine lv_goto (tgt := 100) hx hb dX9_chance0_96 (by decide) ?_
        have h_12 := (gi_in hm).1
        replace hm := (gi_in hm).2
        refine Rs_20 fx hC h_12 dX9_chance0_100 (fun H locs hC => ?_)
        obtain ⟨τ_13, e_14⟩ : ∃ z, z = (rA τ 20 (v5).toNatClampNeg ((1 : Int32) &&& 1)) := ⟨_, rfl⟩
        rw [← e_14] at hC
        replace hm := nm_in hm e_14
        refine lv_iinc (v := (v5 + (1 : Int32))) (lv' := [(5, .int (v5 + (1 : Int32))), (0, .ref (q 0)), (2, .int p2), (3, .int p3), (4, .int p4)]) hx hb dX9_chance0_101 hl (k := 4) rfl rfl (by decide) rfl (fun ls hl => ?_)
        refine lv_goto (tgt := 44) hx hb dX9_chance0_104 (by decide) ?_
        rw [hrc] at hm
        exact ih _ _ hm _ _ _ hC (lv_sub hl [1, 2, 3, 4, 0] rfl) hx107
      · replace hm := ifp hm c_11
        refine lv_iload hx hb dX9_chance0_68 (lv_at hl 4 rfl) ?_
        refine lv_iload hx hb dX9_chance0_70 (lv_at hl 3 rfl) ?_
        refine g_callSi (As := [.int v5, .int p4]) (rest := [.int v5, .ref (q 20)]) fx hC rw_w (Rc_holds l rw_w τ v5 p4) k_323 Rk_holds Rh_holds ⟨rfl, rfl⟩ ⟨Nat.le_trans (Nat.le_of_ble_eq_true rfl) hR.1, Nat.le_trans (Nat.le_of_ble_eq_true rfl) hR.2⟩ hf rfl hl.1 rfl (Nat.le_of_ble_eq_true rfl) dX9_chance0_72 (fun H locs hC => ?_)
        refine lv_if_eq (tgt := 99) hx hb dX9_chance0_75 (by decide) (fun c_15 => ?_) (fun c_15 => ?_)
        · replace hm := ifp hm c_15
          refine lv_iconst (v := (0 : Int32)) hx hb dX9_chance0_99 (by decide) ?_
          have h_16 := (gi_in hm).1
          replace hm := (gi_in hm).2
          refine Rs_20 fx hC h_16 dX9_chance0_100 (fun H locs hC => ?_)
          obtain ⟨τ_17, e_18⟩ : ∃ z, z = (rA τ 20 (v5).toNatClampNeg ((0 : Int32) &&& 1)) := ⟨_, rfl⟩
          rw [← e_18] at hC
          replace hm := nm_in hm e_18
          refine lv_iinc (v := (v5 + (1 : Int32))) (lv' := [(5, .int (v5 + (1 : Int32))), (0, .ref (q 0)), (2, .int p2), (3, .int p3), (4, .int p4)]) hx hb dX9_chance0_101 hl (k := 4) rfl rfl (by decide) rfl (fun ls hl => ?_)
          refine lv_goto (tgt := 44) hx hb dX9_chance0_104 (by decide) ?_
          rw [hrc] at hm
          exact ih _ _ hm _ _ _ hC (lv_sub hl [1, 2, 3, 4, 0] rfl) hx107
        · replace hm := ifn hm c_15
          refine lv_aload_n hx hb dX9_chance0_78 rfl (lv_at hl 0 rfl) ?_
          refine Rg_20 fx hC dX9_chance0_79 ?_
          refine lv_iload hx hb dX9_chance0_82 (lv_at hl 4 rfl) ?_
          refine lv_iconst (v := (1 : Int32)) hx hb dX9_chance0_84 (by decide) ?_
          refine lv_iload hx hb dX9_chance0_85 (lv_at hl 3 rfl) ?_
          refine lv_ishl hx hb dX9_chance0_87 ?_
          refine lv_iconst (v := (-1 : Int32)) hx hb dX9_chance0_88 (by decide) ?_
          refine lv_ixor hx hb dX9_chance0_89 ?_
          refine lv_iand hx hb dX9_chance0_90 ?_
          have h_19 := (gi_in hm).1
          replace hm := (gi_in hm).2
          refine Rl_20 fx hC h_19 dX9_chance0_91 ?_
          refine lv_if_eq (tgt := 99) hx hb dX9_chance0_92 (by decide) (fun c_20 => ?_) (fun c_20 => ?_)
          · replace hm := ifp hm c_20
            refine lv_iconst (v := (0 : Int32)) hx hb dX9_chance0_99 (by decide) ?_
            have h_21 := (gi_in hm).1
            replace hm := (gi_in hm).2
            refine Rs_20 fx hC h_21 dX9_chance0_100 (fun H locs hC => ?_)
            obtain ⟨τ_22, e_23⟩ : ∃ z, z = (rA τ 20 (v5).toNatClampNeg ((0 : Int32) &&& 1)) := ⟨_, rfl⟩
            rw [← e_23] at hC
            replace hm := nm_in hm e_23
            refine lv_iinc (v := (v5 + (1 : Int32))) (lv' := [(5, .int (v5 + (1 : Int32))), (0, .ref (q 0)), (2, .int p2), (3, .int p3), (4, .int p4)]) hx hb dX9_chance0_101 hl (k := 4) rfl rfl (by decide) rfl (fun ls hl => ?_)
            refine lv_goto (tgt := 44) hx hb dX9_chance0_104 (by decide) ?_
            rw [hrc] at hm
            exact ih _ _ hm _ _ _ hC (lv_sub hl [1, 2, 3, 4, 0] rfl) hx107
          · replace hm := ifn hm c_20
            refine lv_iconst (v := (1 : Int32)) hx hb dX9_chance0_95 (by decide) ?_
            refine lv_goto (tgt := 100) hx hb dX9_chance0_96 (by decide) ?_
            have h_24 := (gi_in hm).1
            replace hm := (gi_in hm).2
            refine Rs_20 fx hC h_24 dX9_chance0_100 (fun H locs hC => ?_)
            obtain ⟨τ_25, e_26⟩ : ∃ z, z = (rA τ 20 (v5).toNatClampNeg ((1 : Int32) &&& 1)) := ⟨_, rfl⟩
            rw [← e_26] at hC
            replace hm := nm_in hm e_26
            refine lv_iinc (v := (v5 + (1 : Int32))) (lv' := [(5, .int (v5 + (1 : Int32))), (0, .ref (q 0)), (2, .int p2), (3, .int p3), (4, .int p4)]) hx hb dX9_chance0_101 hl (k := 4) rfl rfl (by decide) rfl (fun ls hl => ?_)
            refine lv_goto (tgt := 44) hx hb dX9_chance0_104 (by decide) ?_
            rw [hrc] at hm
            exact ih _ _ hm _ _ _ hC (lv_sub hl [1, 2, 3, 4, 0] rfl) hx107
set_option maxRecDepth 100000 in
set_option maxHeartbeats 4000000 in
theorem Rw_chance0_34 {ρ : Type} {out : ρ} {p : Program} {l : Launch} {e : Env} {R : Room} {s : State} {m : MethodId} {args : Array Value} {below : List Frame} {meth : Method} {c : Code} {cells slots : Nat} {Q : State → Prop} {D : va_G} {cy : Nat → ClassId} {ad : List Nat} {q : Nat → Nat} {X : va_W} (fx : FX p s m args meth c cX9_chance0 11 RX9 D cy) (hR : 1 ≤ R.frames ∧ 22 ≤ R.locals) (hf : cells ≤ R.cells ∧ slots ≤ R.slots) (p2 : Int32) (p3 : Int32) {kx113 : RS → Option ρ} :
    ∀ (n : Nat) (v4 : Int32) (τ : RS), it2 (Rs_chance0_34 p2 p3 kx113) n v4 τ = some out → ∀ (H : Heap) (locs : List Loc) (ls : Array Slot), GC D (rwd cy q X) ad s τ H locs → lv_has ls 11 [(0, .ref (q 0)), (2, .int p2), (3, .int p3), (4, .int v4)] → (∀ (τ2 : RS) (H : Heap) (locs : List Loc) (ls : Array Slot), kx113 τ2 = some out → GC D (rwd cy q X) ad s τ2 H locs → lv_has ls 11 [(0, .ref (q 0)), (2, .int p2), (3, .int p3)] → W p l e R s m args below meth c H locs cells slots Q (F0 m 113 ls [])) → W p l e R s m args below meth c H locs cells slots Q (F0 m 34 ls []) := by
  have hx := fx.1
  have hb := fx.2.1
  intro n
  induction n with
  | zero => intro v4 τ hm; exact (it2_z hm).elim
  | succ n ih =>
    intro v4 τ hm H locs ls hC hl hx113
    obtain ⟨rc, hrc⟩ : ∃ z, z = it2 (Rs_chance0_34 p2 p3 kx113) n := ⟨_, rfl⟩
    replace hm : Rs_chance0_34 p2 p3 kx113 rc v4 τ = some out := by rw [hrc]; exact hm
    unfold Rs_chance0_34 at hm
    refine lv_iload hx hb dX9_chance0_34 (lv_at hl 3 rfl) ?_
    refine lv_bipush (v := (12 : Int32)) hx hb dX9_chance0_36 (by decide) ?_
    refine lv_icmp_ge (tgt := 113) hx hb dX9_chance0_38 (by decide) (fun c_8 => ?_) (fun c_8 => ?_)
    · replace hm := ifp hm c_8
      exact hx113 _ _ _ _ hm hC (lv_sub hl [0, 1, 2] rfl)
    · replace hm := ifn hm c_8
      refine lv_iconst (v := (0 : Int32)) hx hb dX9_chance0_41 (by decide) ?_
      refine lv_istore (lv' := [(5, .int (0 : Int32)), (0, .ref (q 0)), (2, .int p2), (3, .int p3), (4, .int v4)]) hx hb dX9_chance0_42 hl (by decide) rfl (fun ls hl => ?_)
      refine Rw_chance0_44 fx hR hf p2 p3 v4 fuel (0 : Int32) τ hm _ _ _ hC (lv_sub hl [1, 2, 3, 4, 0] rfl) (fun τ_27 H locs ls hm hC hl => ?_)
      refine lv_iinc (v := (v4 + (1 : Int32))) (lv' := [(4, .int (v4 + (1 : Int32))), (0, .ref (q 0)), (2, .int p2), (3, .int p3)]) hx hb dX9_chance0_107 hl (k := 3) rfl rfl (by decide) rfl (fun ls hl => ?_)
      refine lv_goto (tgt := 34) hx hb dX9_chance0_110 (by decide) ?_
      rw [hrc] at hm
      exact ih _ _ hm _ _ _ hC (lv_sub hl [1, 2, 3, 0] rfl) hx113
set_option maxRecDepth 100000 in
set_option maxHeartbeats 4000000 in
theorem Rw_chance0_148 {ρ : Type} {out : ρ} {p : Program} {l : Launch} {e : Env} {R : Room} {s : State} {m : MethodId} {args : Array Value} {below : List Frame} {meth : Method} {c : Code} {cells slots : Nat} {Q : State → Prop} {D : va_G} {cy : Nat → ClassId} {ad : List Nat} {q : Nat → Nat} {X : va_W} (τ : RS) (fx : FX p s m args meth c cX9_chance0 11 RX9 D cy) (hR : 1 ≤ R.frames ∧ 22 ≤ R.locals) (hf : cells ≤ R.cells ∧ slots ≤ R.slots) (p2 : Int32) (p3 : Int32) (p4 : Int64) (p6 : Int32) {kx230 : Int64 → Option ρ} :
    ∀ (n : Nat) (v7 : Int64) (v9 : Int32), it2 (Rs_chance0_148 p2 p3 p4 p6 τ kx230) n v7 v9 = some out → ∀ (H : Heap) (locs : List Loc) (ls : Array Slot), GC D (rwd cy q X) ad s τ H locs → lv_has ls 11 [(0, .ref (q 0)), (2, .int p2), (3, .int p3), (4, .long p4), (6, .int p6), (7, .long v7), (9, .int v9)] → (∀ (u7 : Int64) (H : Heap) (locs : List Loc) (ls : Array Slot), kx230 u7 = some out → GC D (rwd cy q X) ad s τ H locs → lv_has ls 11 [(0, .ref (q 0)), (2, .int p2), (3, .int p3), (4, .long p4), (6, .int p6), (7, .long u7)] → W p l e R s m args below meth c H locs cells slots Q (F0 m 230 ls [])) → W p l e R s m args below meth c H locs cells slots Q (F0 m 148 ls []) := by
  have hx := fx.1
  have hb := fx.2.1
  intro n
  induction n with
  | zero => intro v7 v9 hm; exact (it2_z hm).elim
  | succ n ih =>
    intro v7 v9 hm H locs ls hC hl hx230
    obtain ⟨rc, hrc⟩ : ∃ z, z = it2 (Rs_chance0_148 p2 p3 p4 p6 τ kx230) n := ⟨_, rfl⟩
    replace hm : Rs_chance0_148 p2 p3 p4 p6 τ kx230 rc v7 v9 = some out := by rw [hrc]; exact hm
    unfold Rs_chance0_148 at hm
    refine lv_iload hx hb dX9_chance0_148 (lv_at hl 6 rfl) ?_
    refine lv_bipush (v := (12 : Int32)) hx hb dX9_chance0_150 (by decide) ?_
    refine lv_icmp_ge (tgt := 230) hx hb dX9_chance0_152 (by decide) (fun c_32 => ?_) (fun c_32 => ?_)
    · replace hm := ifp hm c_32
      exact hx230 _ _ _ _ hm hC (lv_sub hl [0, 1, 2, 3, 4, 5] rfl)
    · replace hm := ifn hm c_32
      refine lv_iload hx hb dX9_chance0_155 (lv_at hl 6 rfl) ?_
      refine lv_aload_n hx hb dX9_chance0_157 rfl (lv_at hl 0 rfl) ?_
      refine Rg_2 fx hC dX9_chance0_158 ?_
      refine lv_icmp_lt (tgt := 169) hx hb dX9_chance0_161 (by decide) (fun c_33 => ?_) (fun c_33 => ?_)
      · replace hm := ifp hm c_33
        refine lv_iload hx hb dX9_chance0_169 (lv_at hl 6 rfl) ?_
        refine lv_iload_n hx hb dX9_chance0_171 rfl (lv_at hl 1 rfl) ?_
        refine lv_icmp_ne (tgt := 179) hx hb dX9_chance0_172 (by decide) (fun c_34 => ?_) (fun c_34 => ?_)
        · replace hm := ifn hm c_34
          refine lv_aload_n hx hb dX9_chance0_179 rfl (lv_at hl 0 rfl) ?_
          refine Rg_5 fx hC dX9_chance0_180 ?_
          refine lv_iload hx hb dX9_chance0_183 (lv_at hl 6 rfl) ?_
          have h_35 := (gi_in hm).1
          replace hm := (gi_in hm).2
          refine Rl_5 fx hC h_35 dX9_chance0_185 ?_
          refine lv_istore (lv' := [(10, .int (τ.2 5 (v9).toNatClampNeg)), (0, .ref (q 0)), (2, .int p2), (3, .int p3), (4, .long p4), (6, .int p6), (7, .long v7), (9, .int v9)]) hx hb dX9_chance0_186 hl (by decide) rfl (fun ls hl => ?_)
          refine lv_lload hx hb dX9_chance0_188 (lv_at hl 6 rfl) ?_
          refine lv_iload hx hb dX9_chance0_190 (lv_at hl 7 rfl) ?_
          refine lv_aload_n hx hb dX9_chance0_192 rfl (lv_at hl 1 rfl) ?_
          refine Rg_2 fx hC dX9_chance0_193 ?_
          refine lv_icmp_ge (tgt := 209) hx hb dX9_chance0_196 (by decide) (fun c_36 => ?_) (fun c_36 => ?_)
          · replace hm := ifp hm c_36
            refine lv_iload hx hb dX9_chance0_209 (lv_at hl 0 rfl) ?_
            refine lv_i2l hx hb dX9_chance0_211 rfl ?_
            refine lv_goto (tgt := 221) hx hb dX9_chance0_212 (by decide) ?_
            refine lv_lmul hx hb dX9_chance0_221 ?_
            refine lv_topl (fun x_37 ex_37 => ?_)
            replace hm := nm_in hm ex_37
            refine lv_lstore (lv' := [(7, .long x_37), (10, .int (τ.2 5 (v9).toNatClampNeg)), (0, .ref (q 0)), (2, .int p2), (3, .int p3), (4, .long p4), (6, .int p6), (9, .int v9)]) hx hb dX9_chance0_222 hl (by decide) rfl (fun ls hl => ?_)
            refine lv_iinc (v := (v9 + (1 : Int32))) (lv' := [(9, .int (v9 + (1 : Int32))), (7, .long x_37), (10, .int (τ.2 5 (v9).toNatClampNeg)), (0, .ref (q 0)), (2, .int p2), (3, .int p3), (4, .long p4), (6, .int p6)]) hx hb dX9_chance0_224 hl (k := 7) rfl rfl (by decide) rfl (fun ls hl => ?_)
            refine lv_goto (tgt := 148) hx hb dX9_chance0_227 (by decide) ?_
            rw [hrc] at hm
            exact ih _ _ hm _ _ _ hC (lv_sub hl [3, 4, 5, 6, 7, 1, 0] rfl) hx230
          · replace hm := ifn hm c_36
            refine lv_iload hx hb dX9_chance0_199 (lv_at hl 5 rfl) ?_
            refine lv_iload hx hb dX9_chance0_201 (lv_at hl 7 rfl) ?_
            refine g_callSi (As := [.int p6, .int v9]) (rest := [.long v7]) fx hC rw_w (Rc_holds l rw_w τ p6 v9) k_323 Rk_holds Rh_holds ⟨rfl, rfl⟩ ⟨Nat.le_trans (Nat.le_of_ble_eq_true rfl) hR.1, Nat.le_trans (Nat.le_of_ble_eq_true rfl) hR.2⟩ hf rfl hl.1 rfl (Nat.le_of_ble_eq_true rfl) dX9_chance0_203 (fun H locs hC => ?_)
            refine lv_if_eq (tgt := 215) hx hb dX9_chance0_206 (by decide) (fun c_38 => ?_) (fun c_38 => ?_)
            · replace hm := ifp hm c_38
              refine lv_bipush (v := (8 : Int32)) hx hb dX9_chance0_215 (by decide) ?_
              refine lv_iload hx hb dX9_chance0_217 (lv_at hl 0 rfl) ?_
              refine lv_isub hx hb dX9_chance0_219 ?_
              refine lv_i2l hx hb dX9_chance0_220 rfl ?_
              refine lv_lmul hx hb dX9_chance0_221 ?_
              refine lv_topl (fun x_39 ex_39 => ?_)
              replace hm := nm_in hm ex_39
              refine lv_lstore (lv' := [(7, .long x_39), (10, .int (τ.2 5 (v9).toNatClampNeg)), (0, .ref (q 0)), (2, .int p2), (3, .int p3), (4, .long p4), (6, .int p6), (9, .int v9)]) hx hb dX9_chance0_222 hl (by decide) rfl (fun ls hl => ?_)
              refine lv_iinc (v := (v9 + (1 : Int32))) (lv' := [(9, .int (v9 + (1 : Int32))), (7, .long x_39), (10, .int (τ.2 5 (v9).toNatClampNeg)), (0, .ref (q 0)), (2, .int p2), (3, .int p3), (4, .long p4), (6, .int p6)]) hx hb dX9_chance0_224 hl (k := 7) rfl rfl (by decide) rfl (fun ls hl => ?_)
              refine lv_goto (tgt := 148) hx hb dX9_chance0_227 (by decide) ?_
              rw [hrc] at hm
              exact ih _ _ hm _ _ _ hC (lv_sub hl [3, 4, 5, 6, 7, 1, 0] rfl) hx230
            · replace hm := ifn hm c_38
              refine lv_iload hx hb dX9_chance0_209 (lv_at hl 0 rfl) ?_
              refine lv_i2l hx hb dX9_chance0_211 rfl ?_
              refine lv_goto (tgt := 221) hx hb dX9_chance0_212 (by decide) ?_
              refine lv_lmul hx hb dX9_chance0_221 ?_
              refine lv_topl (fun x_40 ex_40 => ?_)
              replace hm := nm_in hm ex_40
              refine lv_lstore (lv' := [(7, .long x_40), (10, .int (τ.2 5 (v9).toNatClampNeg)), (0, .ref (q 0)), (2, .int p2), (3, .int p3), (4, .long p4), (6, .int p6), (9, .int v9)]) hx hb dX9_chance0_222 hl (by decide) rfl (fun ls hl => ?_)
              refine lv_iinc (v := (v9 + (1 : Int32))) (lv' := [(9, .int (v9 + (1 : Int32))), (7, .long x_40), (10, .int (τ.2 5 (v9).toNatClampNeg)), (0, .ref (q 0)), (2, .int p2), (3, .int p3), (4, .long p4), (6, .int p6)]) hx hb dX9_chance0_224 hl (k := 7) rfl rfl (by decide) rfl (fun ls hl => ?_)
              refine lv_goto (tgt := 148) hx hb dX9_chance0_227 (by decide) ?_
              rw [hrc] at hm
              exact ih _ _ hm _ _ _ hC (lv_sub hl [3, 4, 5, 6, 7, 1, 0] rfl) hx230
        · replace hm := ifp hm c_34
          refine lv_iload_n hx hb dX9_chance0_175 rfl (lv_at hl 2 rfl) ?_
          refine lv_goto (tgt := 186) hx hb dX9_chance0_176 (by decide) ?_
          refine lv_istore (lv' := [(10, .int p3), (0, .ref (q 0)), (2, .int p2), (3, .int p3), (4, .long p4), (6, .int p6), (7, .long v7), (9, .int v9)]) hx hb dX9_chance0_186 hl (by decide) rfl (fun ls hl => ?_)
          refine lv_lload hx hb dX9_chance0_188 (lv_at hl 6 rfl) ?_
          refine lv_iload hx hb dX9_chance0_190 (lv_at hl 7 rfl) ?_
          refine lv_aload_n hx hb dX9_chance0_192 rfl (lv_at hl 1 rfl) ?_
          refine Rg_2 fx hC dX9_chance0_193 ?_
          refine lv_icmp_ge (tgt := 209) hx hb dX9_chance0_196 (by decide) (fun c_41 => ?_) (fun c_41 => ?_)
          · replace hm := ifp hm c_41
            refine lv_iload hx hb dX9_chance0_209 (lv_at hl 0 rfl) ?_
            refine lv_i2l hx hb dX9_chance0_211 rfl ?_
            refine lv_goto (tgt := 221) hx hb dX9_chance0_212 (by decide) ?_
            refine lv_lmul hx hb dX9_chance0_221 ?_
            refine lv_lstore (lv' := [(7, .long (v7 * p3.toInt64)), (10, .int p3), (0, .ref (q 0)), (2, .int p2), (3, .int p3), (4, .long p4), (6, .int p6), (9, .int v9)]) hx hb dX9_chance0_222 hl (by decide) rfl (fun ls hl => ?_)
            refine lv_iinc (v := (v9 + (1 : Int32))) (lv' := [(9, .int (v9 + (1 : Int32))), (7, .long (v7 * p3.toInt64)), (10, .int p3), (0, .ref (q 0)), (2, .int p2), (3, .int p3), (4, .long p4), (6, .int p6)]) hx hb dX9_chance0_224 hl (k := 7) rfl rfl (by decide) rfl (fun ls hl => ?_)
            refine lv_goto (tgt := 148) hx hb dX9_chance0_227 (by decide) ?_
            rw [hrc] at hm
            exact ih _ _ hm _ _ _ hC (lv_sub hl [3, 4, 5, 6, 7, 1, 0] rfl) hx230
          · replace hm := ifn hm c_41
            refine lv_iload hx hb dX9_chance0_199 (lv_at hl 5 rfl) ?_
            refine lv_iload hx hb dX9_chance0_201 (lv_at hl 7 rfl) ?_
            refine g_callSi (As := [.int p6, .int v9]) (rest := [.long v7]) fx hC rw_w (Rc_holds l rw_w τ p6 v9) k_323 Rk_holds Rh_holds ⟨rfl, rfl⟩ ⟨Nat.le_trans (Nat.le_of_ble_eq_true rfl) hR.1, Nat.le_trans (Nat.le_of_ble_eq_true rfl) hR.2⟩ hf rfl hl.1 rfl (Nat.le_of_ble_eq_true rfl) dX9_chance0_203 (fun H locs hC => ?_)
            refine lv_if_eq (tgt := 215) hx hb dX9_chance0_206 (by decide) (fun c_42 => ?_) (fun c_42 => ?_)
            · replace hm := ifp hm c_42
              refine lv_bipush (v := (8 : Int32)) hx hb dX9_chance0_215 (by decide) ?_
              refine lv_iload hx hb dX9_chance0_217 (lv_at hl 0 rfl) ?_
              refine lv_isub hx hb dX9_chance0_219 ?_
              refine lv_i2l hx hb dX9_chance0_220 rfl ?_
              refine lv_lmul hx hb dX9_chance0_221 ?_
              refine lv_lstore (lv' := [(7, .long (v7 * ((8 : Int32) - p3).toInt64)), (10, .int p3), (0, .ref (q 0)), (2, .int p2), (3, .int p3), (4, .long p4), (6, .int p6), (9, .int v9)]) hx hb dX9_chance0_222 hl (by decide) rfl (fun ls hl => ?_)
              refine lv_iinc (v := (v9 + (1 : Int32))) (lv' := [(9, .int (v9 + (1 : Int32))), (7, .long (v7 * ((8 : Int32) - p3).toInt64)), (10, .int p3), (0, .ref (q 0)), (2, .int p2), (3, .int p3), (4, .long p4), (6, .int p6)]) hx hb dX9_chance0_224 hl (k := 7) rfl rfl (by decide) rfl (fun ls hl => ?_)
              refine lv_goto (tgt := 148) hx hb dX9_chance0_227 (by decide) ?_
              rw [hrc] at hm
              exact ih _ _ hm _ _ _ hC (lv_sub hl [3, 4, 5, 6, 7, 1, 0] rfl) hx230
            · replace hm := ifn hm c_42
              refine lv_iload hx hb dX9_chance0_209 (lv_at hl 0 rfl) ?_
              refine lv_i2l hx hb dX9_chance0_211 rfl ?_
              refine lv_goto (tgt := 221) hx hb dX9_chance0_212 (by decide) ?_
              refine lv_lmul hx hb dX9_chance0_221 ?_
              refine lv_lstore (lv' := [(7, .long (v7 * p3.toInt64)), (10, .int p3), (0, .ref (q 0)), (2, .int p2), (3, .int p3), (4, .long p4), (6, .int p6), (9, .int v9)]) hx hb dX9_chance0_222 hl (by decide) rfl (fun ls hl => ?_)
              refine lv_iinc (v := (v9 + (1 : Int32))) (lv' := [(9, .int (v9 + (1 : Int32))), (7, .long (v7 * p3.toInt64)), (10, .int p3), (0, .ref (q 0)), (2, .int p2), (3, .int p3), (4, .long p4), (6, .int p6)]) hx hb dX9_chance0_224 hl (k := 7) rfl rfl (by decide) rfl (fun ls hl => ?_)
              refine lv_goto (tgt := 148) hx hb dX9_chance0_227 (by decide) ?_
              rw [hrc] at hm
              exact ih _ _ hm _ _ _ hC (lv_sub hl [3, 4, 5, 6, 7, 1, 0] rfl) hx230
      · replace hm := ifn hm c_33
        refine lv_bipush (v := (8 : Int32)) hx hb dX9_chance0_164 (by decide) ?_
        refine lv_goto (tgt := 186) hx hb dX9_chance0_166 (by decide) ?_
        refine lv_istore (lv' := [(10, .int (8 : Int32)), (0, .ref (q 0)), (2, .int p2), (3, .int p3), (4, .long p4), (6, .int p6), (7, .long v7), (9, .int v9)]) hx hb dX9_chance0_186 hl (by decide) rfl (fun ls hl => ?_)
        refine lv_lload hx hb dX9_chance0_188 (lv_at hl 6 rfl) ?_
        refine lv_iload hx hb dX9_chance0_190 (lv_at hl 7 rfl) ?_
        refine lv_aload_n hx hb dX9_chance0_192 rfl (lv_at hl 1 rfl) ?_
        refine Rg_2 fx hC dX9_chance0_193 ?_
        refine lv_icmp_ge (tgt := 209) hx hb dX9_chance0_196 (by decide) (fun c_43 => ?_) (fun c_43 => ?_)
        · replace hm := ifp hm c_43
          refine lv_iload hx hb dX9_chance0_209 (lv_at hl 0 rfl) ?_
          refine lv_i2l hx hb dX9_chance0_211 rfl ?_
          refine lv_goto (tgt := 221) hx hb dX9_chance0_212 (by decide) ?_
          refine lv_lmul hx hb dX9_chance0_221 ?_
          refine lv_lstore (lv' := [(7, .long (v7 * (8 : Int32).toInt64)), (10, .int (8 : Int32)), (0, .ref (q 0)), (2, .int p2), (3, .int p3), (4, .long p4), (6, .int p6), (9, .int v9)]) hx hb dX9_chance0_222 hl (by decide) rfl (fun ls hl => ?_)
          refine lv_iinc (v := (v9 + (1 : Int32))) (lv' := [(9, .int (v9 + (1 : Int32))), (7, .long (v7 * (8 : Int32).toInt64)), (10, .int (8 : Int32)), (0, .ref (q 0)), (2, .int p2), (3, .int p3), (4, .long p4), (6, .int p6)]) hx hb dX9_chance0_224 hl (k := 7) rfl rfl (by decide) rfl (fun ls hl => ?_)
          refine lv_goto (tgt := 148) hx hb dX9_chance0_227 (by decide) ?_
          rw [hrc] at hm
          exact ih _ _ hm _ _ _ hC (lv_sub hl [3, 4, 5, 6, 7, 1, 0] rfl) hx230
        · replace hm := ifn hm c_43
          refine lv_iload hx hb dX9_chance0_199 (lv_at hl 5 rfl) ?_
          refine lv_iload hx hb dX9_chance0_201 (lv_at hl 7 rfl) ?_
          refine g_callSi (As := [.int p6, .int v9]) (rest := [.long v7]) fx hC rw_w (Rc_holds l rw_w τ p6 v9) k_323 Rk_holds Rh_holds ⟨rfl, rfl⟩ ⟨Nat.le_trans (Nat.le_of_ble_eq_true rfl) hR.1, Nat.le_trans (Nat.le_of_ble_eq_true rfl) hR.2⟩ hf rfl hl.1 rfl (Nat.le_of_ble_eq_true rfl) dX9_chance0_203 (fun H locs hC => ?_)
          refine lv_if_eq (tgt := 215) hx hb dX9_chance0_206 (by decide) (fun c_44 => ?_) (fun c_44 => ?_)
          · replace hm := ifp hm c_44
            refine lv_bipush (v := (8 : Int32)) hx hb dX9_chance0_215 (by decide) ?_
            refine lv_iload hx hb dX9_chance0_217 (lv_at hl 0 rfl) ?_
            refine lv_isub hx hb dX9_chance0_219 ?_
            refine lv_i2l hx hb dX9_chance0_220 rfl ?_
            refine lv_lmul hx hb dX9_chance0_221 ?_
            refine lv_topl (fun x_45 ex_45 => ?_)
            replace hm := nm_in hm ex_45
            refine lv_lstore (lv' := [(7, .long x_45), (10, .int (8 : Int32)), (0, .ref (q 0)), (2, .int p2), (3, .int p3), (4, .long p4), (6, .int p6), (9, .int v9)]) hx hb dX9_chance0_222 hl (by decide) rfl (fun ls hl => ?_)
            refine lv_iinc (v := (v9 + (1 : Int32))) (lv' := [(9, .int (v9 + (1 : Int32))), (7, .long x_45), (10, .int (8 : Int32)), (0, .ref (q 0)), (2, .int p2), (3, .int p3), (4, .long p4), (6, .int p6)]) hx hb dX9_chance0_224 hl (k := 7) rfl rfl (by decide) rfl (fun ls hl => ?_)
            refine lv_goto (tgt := 148) hx hb dX9_chance0_227 (by decide) ?_
            rw [hrc] at hm
            exact ih _ _ hm _ _ _ hC (lv_sub hl [3, 4, 5, 6, 7, 1, 0] rfl) hx230
          · replace hm := ifn hm c_44
            refine lv_iload hx hb dX9_chance0_209 (lv_at hl 0 rfl) ?_
            refine lv_i2l hx hb dX9_chance0_211 rfl ?_
            refine lv_goto (tgt := 221) hx hb dX9_chance0_212 (by decide) ?_
            refine lv_lmul hx hb dX9_chance0_221 ?_
            refine lv_lstore (lv' := [(7, .long (v7 * (8 : Int32).toInt64)), (10, .int (8 : Int32)), (0, .ref (q 0)), (2, .int p2), (3, .int p3), (4, .long p4), (6, .int p6), (9, .int v9)]) hx hb dX9_chance0_222 hl (by decide) rfl (fun ls hl => ?_)
            refine lv_iinc (v := (v9 + (1 : Int32))) (lv' := [(9, .int (v9 + (1 : Int32))), (7, .long (v7 * (8 : Int32).toInt64)), (10, .int (8 : Int32)), (0, .ref (q 0)), (2, .int p2), (3, .int p3), (4, .long p4), (6, .int p6)]) hx hb dX9_chance0_224 hl (k := 7) rfl rfl (by decide) rfl (fun ls hl => ?_)
            refine lv_goto (tgt := 148) hx hb dX9_chance0_227 (by decide) ?_
            rw [hrc] at hm
            exact ih _ _ hm _ _ _ hC (lv_sub hl [3, 4, 5, 6, 7, 1, 0] rfl) hx230
set_option maxRecDepth 100000 in
set_option maxHeartbeats 4000000 in
theorem Rw_chance0_119 {ρ : Type} {out : ρ} {p : Program} {l : Launch} {e : Env} {R : Room} {s : State} {m : MethodId} {args : Array Value} {below : List Frame} {meth : Method} {c : Code} {cells slots : Nat} {Q : State → Prop} {D : va_G} {cy : Nat → ClassId} {ad : List Nat} {q : Nat → Nat} {X : va_W} (τ : RS) (fx : FX p s m args meth c cX9_chance0 11 RX9 D cy) (hR : 1 ≤ R.frames ∧ 22 ≤ R.locals) (hf : cells ≤ R.cells ∧ slots ≤ R.slots) (p2 : Int32) (p3 : Int32) {kx243 : Int64 → Option ρ} :
    ∀ (n : Nat) (v4 : Int64) (v6 : Int32), it2 (Rs_chance0_119 p2 p3 τ kx243) n v4 v6 = some out → ∀ (H : Heap) (locs : List Loc) (ls : Array Slot), GC D (rwd cy q X) ad s τ H locs → lv_has ls 11 [(0, .ref (q 0)), (2, .int p2), (3, .int p3), (4, .long v4), (6, .int v6)] → (∀ (u4 : Int64) (H : Heap) (locs : List Loc) (ls : Array Slot), kx243 u4 = some out → GC D (rwd cy q X) ad s τ H locs → lv_has ls 11 [(4, .long u4)] → W p l e R s m args below meth c H locs cells slots Q (F0 m 243 ls [])) → W p l e R s m args below meth c H locs cells slots Q (F0 m 119 ls []) := by
  have hx := fx.1
  have hb := fx.2.1
  intro n
  induction n with
  | zero => intro v4 v6 hm; exact (it2_z hm).elim
  | succ n ih =>
    intro v4 v6 hm H locs ls hC hl hx243
    obtain ⟨rc, hrc⟩ : ∃ z, z = it2 (Rs_chance0_119 p2 p3 τ kx243) n := ⟨_, rfl⟩
    replace hm : Rs_chance0_119 p2 p3 τ kx243 rc v4 v6 = some out := by rw [hrc]; exact hm
    unfold Rs_chance0_119 at hm
    refine lv_iload hx hb dX9_chance0_119 (lv_at hl 4 rfl) ?_
    refine lv_aload_n hx hb dX9_chance0_121 rfl (lv_at hl 0 rfl) ?_
    refine g_callVi (k0 := 0) (ci := 9) (As := []) (rest := [.int v6]) fx hC rw_w (Rc_net l τ) k_233 Rk_net Rh_net rfl rfl rfl ⟨rfl, rfl⟩ ⟨Nat.le_trans (Nat.le_of_ble_eq_true rfl) hR.1, Nat.le_trans (Nat.le_of_ble_eq_true rfl) hR.2⟩ hf rfl hl.1 rfl (Nat.le_of_ble_eq_true rfl) dX9_chance0_122 (fun H locs hC => ?_)
    refine lv_icmp_ge (tgt := 243) hx hb dX9_chance0_125 (by decide) (fun c_29 => ?_) (fun c_29 => ?_)
    · replace hm := ifp hm c_29
      exact hx243 _ _ _ _ hm hC (lv_sub hl [3] rfl)
    · replace hm := ifn hm c_29
      refine lv_aload_n hx hb dX9_chance0_128 rfl (lv_at hl 0 rfl) ?_
      refine Rg_20 fx hC dX9_chance0_129 ?_
      refine lv_iload hx hb dX9_chance0_132 (lv_at hl 4 rfl) ?_
      have h_30 := (gi_in hm).1
      replace hm := (gi_in hm).2
      refine Rl_20 fx hC h_30 dX9_chance0_134 ?_
      refine lv_if_eq (tgt := 142) hx hb dX9_chance0_135 (by decide) (fun c_31 => ?_) (fun c_31 => ?_)
      · replace hm := ifp hm c_31
        refine lv_lconst (v := (0 : Int64)) hx hb dX9_chance0_142 (by decide) ?_
        refine lv_lstore (lv' := [(7, .long (0 : Int64)), (0, .ref (q 0)), (2, .int p2), (3, .int p3), (4, .long v4), (6, .int v6)]) hx hb dX9_chance0_143 hl (by decide) rfl (fun ls hl => ?_)
        refine lv_iconst (v := (0 : Int32)) hx hb dX9_chance0_145 (by decide) ?_
        refine lv_istore (lv' := [(9, .int (0 : Int32)), (7, .long (0 : Int64)), (0, .ref (q 0)), (2, .int p2), (3, .int p3), (4, .long v4), (6, .int v6)]) hx hb dX9_chance0_146 hl (by decide) rfl (fun ls hl => ?_)
        refine Rw_chance0_148 τ fx hR hf p2 p3 v4 v6 fuel (0 : Int64) (0 : Int32) hm _ _ _ hC (lv_sub hl [2, 3, 4, 5, 6, 1, 0] rfl) (fun u_46 H locs ls hm hC hl => ?_)
        refine lv_lload hx hb dX9_chance0_230 (lv_at hl 3 rfl) ?_
        refine lv_lload hx hb dX9_chance0_232 (lv_at hl 5 rfl) ?_
        refine lv_ladd hx hb dX9_chance0_234 ?_
        refine lv_lstore (lv' := [(4, .long (v4 + u_46)), (0, .ref (q 0)), (2, .int p2), (3, .int p3), (6, .int v6), (7, .long u_46)]) hx hb dX9_chance0_235 hl (by decide) rfl (fun ls hl => ?_)
        refine lv_iinc (v := (v6 + (1 : Int32))) (lv' := [(6, .int (v6 + (1 : Int32))), (4, .long (v4 + u_46)), (0, .ref (q 0)), (2, .int p2), (3, .int p3), (7, .long u_46)]) hx hb dX9_chance0_237 hl (k := 4) rfl rfl (by decide) rfl (fun ls hl => ?_)
        refine lv_goto (tgt := 119) hx hb dX9_chance0_240 (by decide) ?_
        rw [hrc] at hm
        exact ih _ _ hm _ _ _ hC (lv_sub hl [2, 3, 4, 1, 0] rfl) hx243
      · replace hm := ifn hm c_31
        refine lv_lconst (v := (1 : Int64)) hx hb dX9_chance0_138 (by decide) ?_
        refine lv_goto (tgt := 143) hx hb dX9_chance0_139 (by decide) ?_
        refine lv_lstore (lv' := [(7, .long (1 : Int64)), (0, .ref (q 0)), (2, .int p2), (3, .int p3), (4, .long v4), (6, .int v6)]) hx hb dX9_chance0_143 hl (by decide) rfl (fun ls hl => ?_)
        refine lv_iconst (v := (0 : Int32)) hx hb dX9_chance0_145 (by decide) ?_
        refine lv_istore (lv' := [(9, .int (0 : Int32)), (7, .long (1 : Int64)), (0, .ref (q 0)), (2, .int p2), (3, .int p3), (4, .long v4), (6, .int v6)]) hx hb dX9_chance0_146 hl (by decide) rfl (fun ls hl => ?_)
        refine Rw_chance0_148 τ fx hR hf p2 p3 v4 v6 fuel (1 : Int64) (0 : Int32) hm _ _ _ hC (lv_sub hl [2, 3, 4, 5, 6, 1, 0] rfl) (fun u_47 H locs ls hm hC hl => ?_)
        refine lv_lload hx hb dX9_chance0_230 (lv_at hl 3 rfl) ?_
        refine lv_lload hx hb dX9_chance0_232 (lv_at hl 5 rfl) ?_
        refine lv_ladd hx hb dX9_chance0_234 ?_
        refine lv_lstore (lv' := [(4, .long (v4 + u_47)), (0, .ref (q 0)), (2, .int p2), (3, .int p3), (6, .int v6), (7, .long u_47)]) hx hb dX9_chance0_235 hl (by decide) rfl (fun ls hl => ?_)
        refine lv_iinc (v := (v6 + (1 : Int32))) (lv' := [(6, .int (v6 + (1 : Int32))), (4, .long (v4 + u_47)), (0, .ref (q 0)), (2, .int p2), (3, .int p3), (7, .long u_47)]) hx hb dX9_chance0_237 hl (k := 4) rfl rfl (by decide) rfl (fun ls hl => ?_)
        refine lv_goto (tgt := 119) hx hb dX9_chance0_240 (by decide) ?_
        rw [hrc] at hm
        exact ih _ _ hm _ _ _ hC (lv_sub hl [2, 3, 4, 1, 0] rfl) hx243
set_option maxRecDepth 100000 in
set_option maxHeartbeats 4000000 in
theorem Rc_chance0 (l : Launch) {D : va_G} {cy : Nat → ClassId} {ad : List Nat} {q : Nat → Nat} {X : va_W} (τ : RS) (a1 : Int32) (a2 : Int32) (a3 : Int32) {o : Int64 × RS} (hm : Rm_chance0 τ a1 a2 a3 = some o) : GM l yX9_chance0 cX9_chance0 11 (some .long) Rrm_chance0 D cy (rwd cy q X) ad [.ref (q 0), .int a1, .int a2, .int a3] τ (some (.long o.1)) o.2 := by
  refine g_start RX9 rfl (by decide) (Nat.le_of_ble_eq_true rfl) ?_
  intro p e s m args below meth c fx hr hC ls hl
  have hx := fx.1
  have hb := fx.2.1
  have hR : 1 ≤ (Rrm_chance0).frames ∧ 22 ≤ (Rrm_chance0).locals := ⟨Nat.le_refl _, Nat.le_refl _⟩
  have hf : 0 ≤ (Rrm_chance0).cells ∧ 0 ≤ (Rrm_chance0).slots := ⟨Nat.zero_le _, Nat.zero_le _⟩
  have hl : lv_has ls 11 [(0, .ref (q 0)), (1, .int a1), (2, .int a2), (3, .int a3)] := hl
  unfold Rm_chance0 at hm
  refine lv_iconst (v := (0 : Int32)) hx hb dX9_chance0_0 (by decide) ?_
  refine lv_istore (lv' := [(4, .int (0 : Int32)), (0, .ref (q 0)), (1, .int a1), (2, .int a2), (3, .int a3)]) hx hb dX9_chance0_1 hl (by decide) rfl (fun ls hl => ?_)
  refine Rw_chance0_3 fx hR hf a1 a2 a3 fuel (0 : Int32) τ hm _ _ _ hC (lv_sub hl [1, 2, 3, 4, 0] rfl) (fun τ_7 H locs ls hm hC hl => ?_)
  refine lv_iconst (v := (0 : Int32)) hx hb dX9_chance0_31 (by decide) ?_
  refine lv_istore (lv' := [(4, .int (0 : Int32)), (0, .ref (q 0)), (2, .int a2), (3, .int a3)]) hx hb dX9_chance0_32 hl (by decide) rfl (fun ls hl => ?_)
  refine Rw_chance0_34 fx hR hf a2 a3 fuel (0 : Int32) τ_7 hm _ _ _ hC (lv_sub hl [1, 2, 3, 0] rfl) (fun τ_28 H locs ls hm hC hl => ?_)
  refine lv_lconst (v := (0 : Int64)) hx hb dX9_chance0_113 (by decide) ?_
  refine lv_lstore (lv' := [(4, .long (0 : Int64)), (0, .ref (q 0)), (2, .int a2), (3, .int a3)]) hx hb dX9_chance0_114 hl (by decide) rfl (fun ls hl => ?_)
  refine lv_iconst (v := (0 : Int32)) hx hb dX9_chance0_116 (by decide) ?_
  refine lv_istore (lv' := [(6, .int (0 : Int32)), (4, .long (0 : Int64)), (0, .ref (q 0)), (2, .int a2), (3, .int a3)]) hx hb dX9_chance0_117 hl (by decide) rfl (fun ls hl => ?_)
  refine Rw_chance0_119 τ_28 fx hR hf a2 a3 fuel (0 : Int64) (0 : Int32) hm _ _ _ hC (lv_sub hl [2, 3, 4, 1, 0] rfl) (fun u_48 H locs ls hm hC hl => ?_)
  refine lv_lload hx hb dX9_chance0_243 (lv_at hl 0 rfl) ?_
  cases hm
  exact g_lret fx hr hC rfl dX9_chance0_245
def Rm_chance (τ : RS) (a1 : Int32) : Option (Int64 × RS) :=
  if (Rm_isFamily τ a1) = (0 : Int32) then (some ((-1 : Int64), τ)) else (b2 (Rm_chance0 τ a1 (-1 : Int32) (0 : Int32)) (fun r_3 τ_4 => some (r_3, τ_4)))
abbrev Rrm_chance : Room := { frames := 2, cells := 0, slots := 0, locals := 52 }
set_option maxRecDepth 100000 in
set_option maxHeartbeats 4000000 in
theorem Rc_chance (l : Launch) {D : va_G} {cy : Nat → ClassId} {ad : List Nat} {q : Nat → Nat} {X : va_W} (τ : RS) (a1 : Int32) {o : Int64 × RS} (hm : Rm_chance τ a1 = some o) : GM l yX9_chance cX9_chance 2 (some .long) Rrm_chance D cy (rwd cy q X) ad [.ref (q 0), .int a1] τ (some (.long o.1)) o.2 := by
  refine g_start RX9 rfl (by decide) (Nat.le_of_ble_eq_true rfl) ?_
  intro p e s m args below meth c fx hr hC ls hl
  have hx := fx.1
  have hb := fx.2.1
  have hR : 2 ≤ (Rrm_chance).frames ∧ 52 ≤ (Rrm_chance).locals := ⟨Nat.le_refl _, Nat.le_refl _⟩
  have hf : 0 ≤ (Rrm_chance).cells ∧ 0 ≤ (Rrm_chance).slots := ⟨Nat.zero_le _, Nat.zero_le _⟩
  have hl : lv_has ls 2 [(0, .ref (q 0)), (1, .int a1)] := hl
  unfold Rm_chance at hm
  refine lv_aload_n hx hb dX9_chance_0 rfl (lv_at hl 0 rfl) ?_
  refine lv_iload_n hx hb dX9_chance_1 rfl (lv_at hl 1 rfl) ?_
  refine g_callVi (k0 := 0) (ci := 9) (As := [.int a1]) (rest := []) fx hC rw_w (Rc_isFamily l τ a1) k_449 Rk_isFamily Rh_isFamily rfl rfl rfl ⟨rfl, rfl⟩ ⟨Nat.le_trans (Nat.le_of_ble_eq_true rfl) hR.1, Nat.le_trans (Nat.le_of_ble_eq_true rfl) hR.2⟩ hf rfl hl.1 rfl (Nat.le_of_ble_eq_true rfl) dX9_chance_2 (fun H locs hC => ?_)
  refine lv_if_eq (tgt := 18) hx hb dX9_chance_5 (by decide) (fun c_1 => ?_) (fun c_1 => ?_)
  · replace hm := ifp hm c_1
    refine lv_ldc2 hx hb fx.2.2.2.1 (fx.2.2.2.2.1 _ k_877) dX9_chance_18 ?_
    cases hm
    exact g_lret fx hr hC rfl dX9_chance_21
  · replace hm := ifn hm c_1
    refine lv_aload_n hx hb dX9_chance_8 rfl (lv_at hl 0 rfl) ?_
    refine lv_iload_n hx hb dX9_chance_9 rfl (lv_at hl 1 rfl) ?_
    refine lv_iconst (v := (-1 : Int32)) hx hb dX9_chance_10 (by decide) ?_
    refine lv_iconst (v := (0 : Int32)) hx hb dX9_chance_11 (by decide) ?_
    obtain ⟨r_3, τ_4, e_2, hm⟩ := b2_in hm
    refine g_callVl (k0 := 0) (ci := 9) (As := [.int a1, .int (-1 : Int32), .int (0 : Int32)]) (rest := []) fx hC rw_w (Rc_chance0 l τ a1 (-1 : Int32) (0 : Int32) e_2) k_878 Rk_chance0 Rh_chance0 rfl rfl rfl ⟨rfl, rfl⟩ ⟨Nat.le_trans (Nat.le_of_ble_eq_true rfl) hR.1, Nat.le_trans (Nat.le_of_ble_eq_true rfl) hR.2⟩ hf rfl hl.1 rfl (Nat.le_of_ble_eq_true rfl) dX9_chance_12 (fun H locs hC => ?_)
    refine lv_goto (tgt := 21) hx hb dX9_chance_15 (by decide) ?_
    cases hm
    exact g_lret fx hr hC rfl dX9_chance_21
def Rm_matters (τ : RS) (a1 : Int32) (a2 : Int32) : Option (Int64 × RS) :=
  if (Rm_isFamily τ a1) = (0 : Int32) then (some ((-1 : Int64), τ)) else (if (Rm_in a2 (0 : Int32) ((τ.1 2) - (1 : Int32))) = (0 : Int32) then (some ((-1 : Int64), τ)) else (b2 (Rm_chance0 τ a1 a2 (8 : Int32)) (fun r_4 τ_5 => b2 (Rm_chance0 τ_5 a1 a2 (0 : Int32)) (fun r_7 τ_8 => some ((r_4 - r_7), τ_8)))))
abbrev Rrm_matters : Room := { frames := 2, cells := 0, slots := 0, locals := 52 }
set_option maxRecDepth 100000 in
set_option maxHeartbeats 4000000 in
theorem Rc_matters (l : Launch) {D : va_G} {cy : Nat → ClassId} {ad : List Nat} {q : Nat → Nat} {X : va_W} (τ : RS) (a1 : Int32) (a2 : Int32) {o : Int64 × RS} (hm : Rm_matters τ a1 a2 = some o) : GM l yX9_matters cX9_matters 3 (some .long) Rrm_matters D cy (rwd cy q X) ad [.ref (q 0), .int a1, .int a2] τ (some (.long o.1)) o.2 := by
  refine g_start RX9 rfl (by decide) (Nat.le_of_ble_eq_true rfl) ?_
  intro p e s m args below meth c fx hr hC ls hl
  have hx := fx.1
  have hb := fx.2.1
  have hR : 2 ≤ (Rrm_matters).frames ∧ 52 ≤ (Rrm_matters).locals := ⟨Nat.le_refl _, Nat.le_refl _⟩
  have hf : 0 ≤ (Rrm_matters).cells ∧ 0 ≤ (Rrm_matters).slots := ⟨Nat.zero_le _, Nat.zero_le _⟩
  have hl : lv_has ls 3 [(0, .ref (q 0)), (1, .int a1), (2, .int a2)] := hl
  unfold Rm_matters at hm
  refine lv_aload_n hx hb dX9_matters_0 rfl (lv_at hl 0 rfl) ?_
  refine lv_iload_n hx hb dX9_matters_1 rfl (lv_at hl 1 rfl) ?_
  refine g_callVi (k0 := 0) (ci := 9) (As := [.int a1]) (rest := []) fx hC rw_w (Rc_isFamily l τ a1) k_449 Rk_isFamily Rh_isFamily rfl rfl rfl ⟨rfl, rfl⟩ ⟨Nat.le_trans (Nat.le_of_ble_eq_true rfl) hR.1, Nat.le_trans (Nat.le_of_ble_eq_true rfl) hR.2⟩ hf rfl hl.1 rfl (Nat.le_of_ble_eq_true rfl) dX9_matters_2 (fun H locs hC => ?_)
  refine lv_if_eq (tgt := 41) hx hb dX9_matters_5 (by decide) (fun c_1 => ?_) (fun c_1 => ?_)
  · replace hm := ifp hm c_1
    refine lv_ldc2 hx hb fx.2.2.2.1 (fx.2.2.2.2.1 _ k_877) dX9_matters_41 ?_
    cases hm
    exact g_lret fx hr hC rfl dX9_matters_44
  · replace hm := ifn hm c_1
    refine lv_iload_n hx hb dX9_matters_8 rfl (lv_at hl 2 rfl) ?_
    refine lv_iconst (v := (0 : Int32)) hx hb dX9_matters_9 (by decide) ?_
    refine lv_aload_n hx hb dX9_matters_10 rfl (lv_at hl 0 rfl) ?_
    refine Rg_2 fx hC dX9_matters_11 ?_
    refine lv_iconst (v := (1 : Int32)) hx hb dX9_matters_14 (by decide) ?_
    refine lv_isub hx hb dX9_matters_15 ?_
    refine g_callSi (As := [.int a2, .int (0 : Int32), .int ((τ.1 2) - (1 : Int32))]) (rest := []) fx hC rw_w (Rc_in l rw_w τ a2 (0 : Int32) ((τ.1 2) - (1 : Int32))) k_140 Rk_in Rh_in ⟨rfl, rfl⟩ ⟨Nat.le_trans (Nat.le_of_ble_eq_true rfl) hR.1, Nat.le_trans (Nat.le_of_ble_eq_true rfl) hR.2⟩ hf rfl hl.1 rfl (Nat.le_of_ble_eq_true rfl) dX9_matters_16 (fun H locs hC => ?_)
    refine lv_if_eq (tgt := 41) hx hb dX9_matters_19 (by decide) (fun c_2 => ?_) (fun c_2 => ?_)
    · replace hm := ifp hm c_2
      refine lv_ldc2 hx hb fx.2.2.2.1 (fx.2.2.2.2.1 _ k_877) dX9_matters_41 ?_
      cases hm
      exact g_lret fx hr hC rfl dX9_matters_44
    · replace hm := ifn hm c_2
      refine lv_aload_n hx hb dX9_matters_22 rfl (lv_at hl 0 rfl) ?_
      refine lv_iload_n hx hb dX9_matters_23 rfl (lv_at hl 1 rfl) ?_
      refine lv_iload_n hx hb dX9_matters_24 rfl (lv_at hl 2 rfl) ?_
      refine lv_bipush (v := (8 : Int32)) hx hb dX9_matters_25 (by decide) ?_
      obtain ⟨r_4, τ_5, e_3, hm⟩ := b2_in hm
      refine g_callVl (k0 := 0) (ci := 9) (As := [.int a1, .int a2, .int (8 : Int32)]) (rest := []) fx hC rw_w (Rc_chance0 l τ a1 a2 (8 : Int32) e_3) k_878 Rk_chance0 Rh_chance0 rfl rfl rfl ⟨rfl, rfl⟩ ⟨Nat.le_trans (Nat.le_of_ble_eq_true rfl) hR.1, Nat.le_trans (Nat.le_of_ble_eq_true rfl) hR.2⟩ hf rfl hl.1 rfl (Nat.le_of_ble_eq_true rfl) dX9_matters_27 (fun H locs hC => ?_)
      refine lv_aload_n hx hb dX9_matters_30 rfl (lv_at hl 0 rfl) ?_
      refine lv_iload_n hx hb dX9_matters_31 rfl (lv_at hl 1 rfl) ?_
      refine lv_iload_n hx hb dX9_matters_32 rfl (lv_at hl 2 rfl) ?_
      refine lv_iconst (v := (0 : Int32)) hx hb dX9_matters_33 (by decide) ?_
      obtain ⟨r_7, τ_8, e_6, hm⟩ := b2_in hm
      refine g_callVl (k0 := 0) (ci := 9) (As := [.int a1, .int a2, .int (0 : Int32)]) (rest := [.long r_4]) fx hC rw_w (Rc_chance0 l τ_5 a1 a2 (0 : Int32) e_6) k_878 Rk_chance0 Rh_chance0 rfl rfl rfl ⟨rfl, rfl⟩ ⟨Nat.le_trans (Nat.le_of_ble_eq_true rfl) hR.1, Nat.le_trans (Nat.le_of_ble_eq_true rfl) hR.2⟩ hf rfl hl.1 rfl (Nat.le_of_ble_eq_true rfl) dX9_matters_34 (fun H locs hC => ?_)
      refine lv_lsub hx hb dX9_matters_37 ?_
      refine lv_goto (tgt := 44) hx hb dX9_matters_38 (by decide) ?_
      cases hm
      exact g_lret fx hr hC rfl dX9_matters_44
def Rm_turned (τ : RS) (a1 : Int32) (a2 : Int32) : Option (Int32 × RS) :=
  if (Rm_isFamily τ a1) = (0 : Int32) then (some ((-2 : Int32), τ)) else (if (Rm_in a2 (1 : Int32) (12 : Int32)) = (0 : Int32) then (some ((-2 : Int32), τ)) else (b2 (Rm_bookOf τ a1 a2) (fun r_4 τ_5 => some ((τ_5.1 22), τ_5))))
abbrev Rrm_turned : Room := { frames := 3, cells := 0, slots := 0, locals := 68 }
set_option maxRecDepth 100000 in
set_option maxHeartbeats 4000000 in
theorem Rc_turned (l : Launch) {D : va_G} {cy : Nat → ClassId} {ad : List Nat} {q : Nat → Nat} {X : va_W} (τ : RS) (a1 : Int32) (a2 : Int32) {o : Int32 × RS} (hm : Rm_turned τ a1 a2 = some o) : GM l yX9_turned cX9_turned 3 (some .int) Rrm_turned D cy (rwd cy q X) ad [.ref (q 0), .int a1, .int a2] τ (some (.int o.1)) o.2 := by
  refine g_start RX9 rfl (by decide) (Nat.le_of_ble_eq_true rfl) ?_
  intro p e s m args below meth c fx hr hC ls hl
  have hx := fx.1
  have hb := fx.2.1
  have hR : 3 ≤ (Rrm_turned).frames ∧ 68 ≤ (Rrm_turned).locals := ⟨Nat.le_refl _, Nat.le_refl _⟩
  have hf : 0 ≤ (Rrm_turned).cells ∧ 0 ≤ (Rrm_turned).slots := ⟨Nat.zero_le _, Nat.zero_le _⟩
  have hl : lv_has ls 3 [(0, .ref (q 0)), (1, .int a1), (2, .int a2)] := hl
  unfold Rm_turned at hm
  refine lv_aload_n hx hb dX9_turned_0 rfl (lv_at hl 0 rfl) ?_
  refine lv_iload_n hx hb dX9_turned_1 rfl (lv_at hl 1 rfl) ?_
  refine g_callVi (k0 := 0) (ci := 9) (As := [.int a1]) (rest := []) fx hC rw_w (Rc_isFamily l τ a1) k_449 Rk_isFamily Rh_isFamily rfl rfl rfl ⟨rfl, rfl⟩ ⟨Nat.le_trans (Nat.le_of_ble_eq_true rfl) hR.1, Nat.le_trans (Nat.le_of_ble_eq_true rfl) hR.2⟩ hf rfl hl.1 rfl (Nat.le_of_ble_eq_true rfl) dX9_turned_2 (fun H locs hC => ?_)
  refine lv_if_eq (tgt := 18) hx hb dX9_turned_5 (by decide) (fun c_1 => ?_) (fun c_1 => ?_)
  · replace hm := ifp hm c_1
    refine lv_bipush (v := (-2 : Int32)) hx hb dX9_turned_18 (by decide) ?_
    cases hm
    exact g_iret fx hr hC rfl dX9_turned_20
  · replace hm := ifn hm c_1
    refine lv_iload_n hx hb dX9_turned_8 rfl (lv_at hl 2 rfl) ?_
    refine lv_iconst (v := (1 : Int32)) hx hb dX9_turned_9 (by decide) ?_
    refine lv_bipush (v := (12 : Int32)) hx hb dX9_turned_10 (by decide) ?_
    refine g_callSi (As := [.int a2, .int (1 : Int32), .int (12 : Int32)]) (rest := []) fx hC rw_w (Rc_in l rw_w τ a2 (1 : Int32) (12 : Int32)) k_140 Rk_in Rh_in ⟨rfl, rfl⟩ ⟨Nat.le_trans (Nat.le_of_ble_eq_true rfl) hR.1, Nat.le_trans (Nat.le_of_ble_eq_true rfl) hR.2⟩ hf rfl hl.1 rfl (Nat.le_of_ble_eq_true rfl) dX9_turned_12 (fun H locs hC => ?_)
    refine lv_if_ne (tgt := 21) hx hb dX9_turned_15 (by decide) (fun c_2 => ?_) (fun c_2 => ?_)
    · replace hm := ifn hm c_2
      refine lv_aload_n hx hb dX9_turned_21 rfl (lv_at hl 0 rfl) ?_
      refine lv_iload_n hx hb dX9_turned_22 rfl (lv_at hl 1 rfl) ?_
      refine lv_iload_n hx hb dX9_turned_23 rfl (lv_at hl 2 rfl) ?_
      obtain ⟨r_4, τ_5, e_3, hm⟩ := b2_in hm
      refine g_callVi (k0 := 0) (ci := 9) (As := [.int a1, .int a2]) (rest := []) fx hC rw_w (Rc_bookOf l τ a1 a2 e_3) k_733 Rk_bookOf Rh_bookOf rfl rfl rfl ⟨rfl, rfl⟩ ⟨Nat.le_trans (Nat.le_of_ble_eq_true rfl) hR.1, Nat.le_trans (Nat.le_of_ble_eq_true rfl) hR.2⟩ hf rfl hl.1 rfl (Nat.le_of_ble_eq_true rfl) dX9_turned_24 (fun H locs hC => ?_)
      refine lv_pop hx hb dX9_turned_27 rfl ?_
      refine lv_aload_n hx hb dX9_turned_28 rfl (lv_at hl 0 rfl) ?_
      refine Rg_22 fx hC dX9_turned_29 ?_
      cases hm
      exact g_iret fx hr hC rfl dX9_turned_32
    · replace hm := ifp hm c_2
      refine lv_bipush (v := (-2 : Int32)) hx hb dX9_turned_18 (by decide) ?_
      cases hm
      exact g_iret fx hr hC rfl dX9_turned_20
def Rm_ref (τ : RS) (a1 : Int32) : Option Int32 :=
  if (0 : Int32) ≤ a1 then (gi a1 1100 (some (τ.2 27 (a1).toNatClampNeg))) else (some a1)
abbrev Rrm_ref : Room := { frames := 0, cells := 0, slots := 0, locals := 0 }
set_option maxRecDepth 100000 in
set_option maxHeartbeats 4000000 in
theorem Rc_ref (l : Launch) {D : va_G} {cy : Nat → ClassId} {ad : List Nat} {q : Nat → Nat} {X : va_W} (τ : RS) (a1 : Int32) {o : Int32} (hm : Rm_ref τ a1 = some o) : GM l yX9_ref cX9_ref 2 (some .int) Rrm_ref D cy (rwd cy q X) ad [.ref (q 0), .int a1] τ (some (.int o)) τ := by
  refine g_start RX9 rfl (by decide) (Nat.le_of_ble_eq_true rfl) ?_
  intro p e s m args below meth c fx hr hC ls hl
  have hx := fx.1
  have hb := fx.2.1
  have hR : 0 ≤ (Rrm_ref).frames ∧ 0 ≤ (Rrm_ref).locals := ⟨Nat.le_refl _, Nat.le_refl _⟩
  have hf : 0 ≤ (Rrm_ref).cells ∧ 0 ≤ (Rrm_ref).slots := ⟨Nat.zero_le _, Nat.zero_le _⟩
  have hl : lv_has ls 2 [(0, .ref (q 0)), (1, .int a1)] := hl
  unfold Rm_ref at hm
  refine lv_iload_n hx hb dX9_ref_0 rfl (lv_at hl 1 rfl) ?_
  refine lv_if_ge (tgt := 8) hx hb dX9_ref_1 (by decide) (fun c_1 => ?_) (fun c_1 => ?_)
  · replace hm := ifp hm c_1
    refine lv_aload_n hx hb dX9_ref_8 rfl (lv_at hl 0 rfl) ?_
    refine Rg_27 fx hC dX9_ref_9 ?_
    refine lv_iload_n hx hb dX9_ref_12 rfl (lv_at hl 1 rfl) ?_
    have h_2 := (gi_in hm).1
    replace hm := (gi_in hm).2
    refine Rl_27 fx hC h_2 dX9_ref_13 ?_
    cases hm
    exact g_iret fx hr hC rfl dX9_ref_14
  · replace hm := ifn hm c_1
    refine lv_iload_n hx hb dX9_ref_4 rfl (lv_at hl 1 rfl) ?_
    refine lv_goto (tgt := 14) hx hb dX9_ref_5 (by decide) ?_
    cases hm
    exact g_iret fx hr hC rfl dX9_ref_14
def Rm_countOf (τ : RS) (a1 : Int32) : Option Int32 :=
  if a1 = (-1 : Int32) then (some (0 : Int32)) else (if a1 = (-2 : Int32) then (some (1 : Int32)) else (gi (((4 : Int32) * a1) + (3 : Int32)) 4400 (some (τ.2 30 ((((4 : Int32) * a1) + (3 : Int32))).toNatClampNeg))))
abbrev Rrm_countOf : Room := { frames := 0, cells := 0, slots := 0, locals := 0 }
set_option maxRecDepth 100000 in
set_option maxHeartbeats 4000000 in
theorem Rc_countOf (l : Launch) {D : va_G} {cy : Nat → ClassId} {ad : List Nat} {q : Nat → Nat} {X : va_W} (τ : RS) (a1 : Int32) {o : Int32} (hm : Rm_countOf τ a1 = some o) : GM l yX9_countOf cX9_countOf 2 (some .int) Rrm_countOf D cy (rwd cy q X) ad [.ref (q 0), .int a1] τ (some (.int o)) τ := by
  refine g_start RX9 rfl (by decide) (Nat.le_of_ble_eq_true rfl) ?_
  intro p e s m args below meth c fx hr hC ls hl
  have hx := fx.1
  have hb := fx.2.1
  have hR : 0 ≤ (Rrm_countOf).frames ∧ 0 ≤ (Rrm_countOf).locals := ⟨Nat.le_refl _, Nat.le_refl _⟩
  have hf : 0 ≤ (Rrm_countOf).cells ∧ 0 ≤ (Rrm_countOf).slots := ⟨Nat.zero_le _, Nat.zero_le _⟩
  have hl : lv_has ls 2 [(0, .ref (q 0)), (1, .int a1)] := hl
  unfold Rm_countOf at hm
  refine lv_iload_n hx hb dX9_countOf_0 rfl (lv_at hl 1 rfl) ?_
  refine lv_iconst (v := (-1 : Int32)) hx hb dX9_countOf_1 (by decide) ?_
  refine lv_icmp_ne (tgt := 9) hx hb dX9_countOf_2 (by decide) (fun c_1 => ?_) (fun c_1 => ?_)
  · replace hm := ifn hm c_1
    refine lv_iload_n hx hb dX9_countOf_9 rfl (lv_at hl 1 rfl) ?_
    refine lv_bipush (v := (-2 : Int32)) hx hb dX9_countOf_10 (by decide) ?_
    refine lv_icmp_ne (tgt := 19) hx hb dX9_countOf_12 (by decide) (fun c_2 => ?_) (fun c_2 => ?_)
    · replace hm := ifn hm c_2
      refine lv_aload_n hx hb dX9_countOf_19 rfl (lv_at hl 0 rfl) ?_
      refine Rg_30 fx hC dX9_countOf_20 ?_
      refine lv_iconst (v := (4 : Int32)) hx hb dX9_countOf_23 (by decide) ?_
      refine lv_iload_n hx hb dX9_countOf_24 rfl (lv_at hl 1 rfl) ?_
      refine lv_imul hx hb dX9_countOf_25 ?_
      refine lv_iconst (v := (3 : Int32)) hx hb dX9_countOf_26 (by decide) ?_
      refine lv_iadd hx hb dX9_countOf_27 ?_
      have h_3 := (gi_in hm).1
      replace hm := (gi_in hm).2
      refine Rl_30 fx hC h_3 dX9_countOf_28 ?_
      cases hm
      exact g_iret fx hr hC rfl dX9_countOf_29
    · replace hm := ifp hm c_2
      refine lv_iconst (v := (1 : Int32)) hx hb dX9_countOf_15 (by decide) ?_
      refine lv_goto (tgt := 29) hx hb dX9_countOf_16 (by decide) ?_
      cases hm
      exact g_iret fx hr hC rfl dX9_countOf_29
  · replace hm := ifp hm c_1
    refine lv_iconst (v := (0 : Int32)) hx hb dX9_countOf_5 (by decide) ?_
    refine lv_goto (tgt := 29) hx hb dX9_countOf_6 (by decide) ?_
    cases hm
    exact g_iret fx hr hC rfl dX9_countOf_29
def Rm_writeKnot (τ : RS) (a1 : Int32) : Option RS :=
  gi a1 1100 (nm (rA τ 27 (a1).toNatClampNeg (τ.1 31)) (fun τ_2 => gi a1 1100 (gi ((4 : Int32) * (τ_2.1 31)) 4400 (nm (rA τ_2 30 (((4 : Int32) * (τ_2.1 31))).toNatClampNeg (τ_2.2 23 (a1).toNatClampNeg)) (fun τ_6 => gi a1 1100 (b1 (Rm_ref τ_6 (τ_6.2 24 (a1).toNatClampNeg)) (fun r_10 => gi (((4 : Int32) * (τ_6.1 31)) + (1 : Int32)) 4400 (nm (rA τ_6 30 ((((4 : Int32) * (τ_6.1 31)) + (1 : Int32))).toNatClampNeg r_10) (fun τ_12 => gi a1 1100 (b1 (Rm_ref τ_12 (τ_12.2 25 (a1).toNatClampNeg)) (fun r_16 => gi (((4 : Int32) * (τ_12.1 31)) + (2 : Int32)) 4400 (nm (rA τ_12 30 ((((4 : Int32) * (τ_12.1 31)) + (2 : Int32))).toNatClampNeg r_16) (fun τ_18 => gi a1 1100 (b1 (Rm_ref τ_18 (τ_18.2 24 (a1).toNatClampNeg)) (fun r_22 => b1 (Rm_countOf τ_18 r_22) (fun r_24 => gi a1 1100 (b1 (Rm_ref τ_18 (τ_18.2 25 (a1).toNatClampNeg)) (fun r_27 => b1 (Rm_countOf τ_18 r_27) (fun r_29 => gi (((4 : Int32) * (τ_18.1 31)) + (3 : Int32)) 4400 (nm (rA τ_18 30 ((((4 : Int32) * (τ_18.1 31)) + (3 : Int32))).toNatClampNeg (r_24 + r_29)) (fun τ_31 => nm (rS τ_31 31 ((τ_31.1 31) + (1 : Int32))) (fun τ_33 => some τ_33))))))))))))))))))))))
abbrev Rrm_writeKnot : Room := { frames := 1, cells := 0, slots := 0, locals := 21 }
set_option maxRecDepth 100000 in
set_option maxHeartbeats 4000000 in
theorem Rc_writeKnot (l : Launch) {D : va_G} {cy : Nat → ClassId} {ad : List Nat} {q : Nat → Nat} {X : va_W} (τ : RS) (a1 : Int32) {o : RS} (hm : Rm_writeKnot τ a1 = some o) : GM l yX9_writeKnot cX9_writeKnot 2 none Rrm_writeKnot D cy (rwd cy q X) ad [.ref (q 0), .int a1] τ none o := by
  refine g_start RX9 rfl (by decide) (Nat.le_of_ble_eq_true rfl) ?_
  intro p e s m args below meth c fx hr hC ls hl
  have hx := fx.1
  have hb := fx.2.1
  have hR : 1 ≤ (Rrm_writeKnot).frames ∧ 21 ≤ (Rrm_writeKnot).locals := ⟨Nat.le_refl _, Nat.le_refl _⟩
  have hf : 0 ≤ (Rrm_writeKnot).cells ∧ 0 ≤ (Rrm_writeKnot).slots := ⟨Nat.zero_le _, Nat.zero_le _⟩
  have hl : lv_has ls 2 [(0, .ref (q 0)), (1, .int a1)] := hl
  unfold Rm_writeKnot at hm
  refine lv_aload_n hx hb dX9_writeKnot_0 rfl (lv_at hl 0 rfl) ?_
  refine Rg_27 fx hC dX9_writeKnot_1 ?_
  refine lv_iload_n hx hb dX9_writeKnot_4 rfl (lv_at hl 1 rfl) ?_
  refine lv_aload_n hx hb dX9_writeKnot_5 rfl (lv_at hl 0 rfl) ?_
  refine Rg_31 fx hC dX9_writeKnot_6 ?_
  have h_1 := (gi_in hm).1
  replace hm := (gi_in hm).2
  refine Rs_27 fx hC h_1 dX9_writeKnot_9 (fun H locs hC => ?_)
  obtain ⟨τ_2, e_3⟩ : ∃ z, z = (rA τ 27 (a1).toNatClampNeg (τ.1 31)) := ⟨_, rfl⟩
  rw [← e_3] at hC
  replace hm := nm_in hm e_3
  refine lv_aload_n hx hb dX9_writeKnot_10 rfl (lv_at hl 0 rfl) ?_
  refine Rg_30 fx hC dX9_writeKnot_11 ?_
  refine lv_iconst (v := (4 : Int32)) hx hb dX9_writeKnot_14 (by decide) ?_
  refine lv_aload_n hx hb dX9_writeKnot_15 rfl (lv_at hl 0 rfl) ?_
  refine Rg_31 fx hC dX9_writeKnot_16 ?_
  refine lv_imul hx hb dX9_writeKnot_19 ?_
  refine lv_aload_n hx hb dX9_writeKnot_20 rfl (lv_at hl 0 rfl) ?_
  refine Rg_23 fx hC dX9_writeKnot_21 ?_
  refine lv_iload_n hx hb dX9_writeKnot_24 rfl (lv_at hl 1 rfl) ?_
  have h_4 := (gi_in hm).1
  replace hm := (gi_in hm).2
  refine Rl_23 fx hC h_4 dX9_writeKnot_25 ?_
  have h_5 := (gi_in hm).1
  replace hm := (gi_in hm).2
  refine Rs_30 fx hC h_5 dX9_writeKnot_26 (fun H locs hC => ?_)
  obtain ⟨τ_6, e_7⟩ : ∃ z, z = (rA τ_2 30 (((4 : Int32) * (τ_2.1 31))).toNatClampNeg (τ_2.2 23 (a1).toNatClampNeg)) := ⟨_, rfl⟩
  rw [← e_7] at hC
  replace hm := nm_in hm e_7
  refine lv_aload_n hx hb dX9_writeKnot_27 rfl (lv_at hl 0 rfl) ?_
  refine Rg_30 fx hC dX9_writeKnot_28 ?_
  refine lv_iconst (v := (4 : Int32)) hx hb dX9_writeKnot_31 (by decide) ?_
  refine lv_aload_n hx hb dX9_writeKnot_32 rfl (lv_at hl 0 rfl) ?_
  refine Rg_31 fx hC dX9_writeKnot_33 ?_
  refine lv_imul hx hb dX9_writeKnot_36 ?_
  refine lv_iconst (v := (1 : Int32)) hx hb dX9_writeKnot_37 (by decide) ?_
  refine lv_iadd hx hb dX9_writeKnot_38 ?_
  refine lv_aload_n hx hb dX9_writeKnot_39 rfl (lv_at hl 0 rfl) ?_
  refine lv_aload_n hx hb dX9_writeKnot_40 rfl (lv_at hl 0 rfl) ?_
  refine Rg_24 fx hC dX9_writeKnot_41 ?_
  refine lv_iload_n hx hb dX9_writeKnot_44 rfl (lv_at hl 1 rfl) ?_
  have h_8 := (gi_in hm).1
  replace hm := (gi_in hm).2
  refine Rl_24 fx hC h_8 dX9_writeKnot_45 ?_
  obtain ⟨r_10, e_9, hm⟩ := b1_in hm
  refine g_callVi (k0 := 0) (ci := 9) (As := [.int (τ_6.2 24 (a1).toNatClampNeg)]) (rest := [.int (((4 : Int32) * (τ_6.1 31)) + (1 : Int32)), .ref (q 30)]) fx hC rw_w (Rc_ref l τ_6 (τ_6.2 24 (a1).toNatClampNeg) e_9) k_921 Rk_ref Rh_ref rfl rfl rfl ⟨rfl, rfl⟩ ⟨Nat.le_trans (Nat.le_of_ble_eq_true rfl) hR.1, Nat.le_trans (Nat.le_of_ble_eq_true rfl) hR.2⟩ hf rfl hl.1 rfl (Nat.le_of_ble_eq_true rfl) dX9_writeKnot_46 (fun H locs hC => ?_)
  have h_11 := (gi_in hm).1
  replace hm := (gi_in hm).2
  refine Rs_30 fx hC h_11 dX9_writeKnot_49 (fun H locs hC => ?_)
  obtain ⟨τ_12, e_13⟩ : ∃ z, z = (rA τ_6 30 ((((4 : Int32) * (τ_6.1 31)) + (1 : Int32))).toNatClampNeg r_10) := ⟨_, rfl⟩
  rw [← e_13] at hC
  replace hm := nm_in hm e_13
  refine lv_aload_n hx hb dX9_writeKnot_50 rfl (lv_at hl 0 rfl) ?_
  refine Rg_30 fx hC dX9_writeKnot_51 ?_
  refine lv_iconst (v := (4 : Int32)) hx hb dX9_writeKnot_54 (by decide) ?_
  refine lv_aload_n hx hb dX9_writeKnot_55 rfl (lv_at hl 0 rfl) ?_
  refine Rg_31 fx hC dX9_writeKnot_56 ?_
  refine lv_imul hx hb dX9_writeKnot_59 ?_
  refine lv_iconst (v := (2 : Int32)) hx hb dX9_writeKnot_60 (by decide) ?_
  refine lv_iadd hx hb dX9_writeKnot_61 ?_
  refine lv_aload_n hx hb dX9_writeKnot_62 rfl (lv_at hl 0 rfl) ?_
  refine lv_aload_n hx hb dX9_writeKnot_63 rfl (lv_at hl 0 rfl) ?_
  refine Rg_25 fx hC dX9_writeKnot_64 ?_
  refine lv_iload_n hx hb dX9_writeKnot_67 rfl (lv_at hl 1 rfl) ?_
  have h_14 := (gi_in hm).1
  replace hm := (gi_in hm).2
  refine Rl_25 fx hC h_14 dX9_writeKnot_68 ?_
  obtain ⟨r_16, e_15, hm⟩ := b1_in hm
  refine g_callVi (k0 := 0) (ci := 9) (As := [.int (τ_12.2 25 (a1).toNatClampNeg)]) (rest := [.int (((4 : Int32) * (τ_12.1 31)) + (2 : Int32)), .ref (q 30)]) fx hC rw_w (Rc_ref l τ_12 (τ_12.2 25 (a1).toNatClampNeg) e_15) k_921 Rk_ref Rh_ref rfl rfl rfl ⟨rfl, rfl⟩ ⟨Nat.le_trans (Nat.le_of_ble_eq_true rfl) hR.1, Nat.le_trans (Nat.le_of_ble_eq_true rfl) hR.2⟩ hf rfl hl.1 rfl (Nat.le_of_ble_eq_true rfl) dX9_writeKnot_69 (fun H locs hC => ?_)
  have h_17 := (gi_in hm).1
  replace hm := (gi_in hm).2
  refine Rs_30 fx hC h_17 dX9_writeKnot_72 (fun H locs hC => ?_)
  obtain ⟨τ_18, e_19⟩ : ∃ z, z = (rA τ_12 30 ((((4 : Int32) * (τ_12.1 31)) + (2 : Int32))).toNatClampNeg r_16) := ⟨_, rfl⟩
  rw [← e_19] at hC
  replace hm := nm_in hm e_19
  refine lv_aload_n hx hb dX9_writeKnot_73 rfl (lv_at hl 0 rfl) ?_
  refine Rg_30 fx hC dX9_writeKnot_74 ?_
  refine lv_iconst (v := (4 : Int32)) hx hb dX9_writeKnot_77 (by decide) ?_
  refine lv_aload_n hx hb dX9_writeKnot_78 rfl (lv_at hl 0 rfl) ?_
  refine Rg_31 fx hC dX9_writeKnot_79 ?_
  refine lv_imul hx hb dX9_writeKnot_82 ?_
  refine lv_iconst (v := (3 : Int32)) hx hb dX9_writeKnot_83 (by decide) ?_
  refine lv_iadd hx hb dX9_writeKnot_84 ?_
  refine lv_aload_n hx hb dX9_writeKnot_85 rfl (lv_at hl 0 rfl) ?_
  refine lv_aload_n hx hb dX9_writeKnot_86 rfl (lv_at hl 0 rfl) ?_
  refine lv_aload_n hx hb dX9_writeKnot_87 rfl (lv_at hl 0 rfl) ?_
  refine Rg_24 fx hC dX9_writeKnot_88 ?_
  refine lv_iload_n hx hb dX9_writeKnot_91 rfl (lv_at hl 1 rfl) ?_
  have h_20 := (gi_in hm).1
  replace hm := (gi_in hm).2
  refine Rl_24 fx hC h_20 dX9_writeKnot_92 ?_
  obtain ⟨r_22, e_21, hm⟩ := b1_in hm
  refine g_callVi (k0 := 0) (ci := 9) (As := [.int (τ_18.2 24 (a1).toNatClampNeg)]) (rest := [.ref (q 0), .int (((4 : Int32) * (τ_18.1 31)) + (3 : Int32)), .ref (q 30)]) fx hC rw_w (Rc_ref l τ_18 (τ_18.2 24 (a1).toNatClampNeg) e_21) k_921 Rk_ref Rh_ref rfl rfl rfl ⟨rfl, rfl⟩ ⟨Nat.le_trans (Nat.le_of_ble_eq_true rfl) hR.1, Nat.le_trans (Nat.le_of_ble_eq_true rfl) hR.2⟩ hf rfl hl.1 rfl (Nat.le_of_ble_eq_true rfl) dX9_writeKnot_93 (fun H locs hC => ?_)
  obtain ⟨r_24, e_23, hm⟩ := b1_in hm
  refine g_callVi (k0 := 0) (ci := 9) (As := [.int r_22]) (rest := [.int (((4 : Int32) * (τ_18.1 31)) + (3 : Int32)), .ref (q 30)]) fx hC rw_w (Rc_countOf l τ_18 r_22 e_23) k_925 Rk_countOf Rh_countOf rfl rfl rfl ⟨rfl, rfl⟩ ⟨Nat.le_trans (Nat.le_of_ble_eq_true rfl) hR.1, Nat.le_trans (Nat.le_of_ble_eq_true rfl) hR.2⟩ hf rfl hl.1 rfl (Nat.le_of_ble_eq_true rfl) dX9_writeKnot_96 (fun H locs hC => ?_)
  refine lv_aload_n hx hb dX9_writeKnot_99 rfl (lv_at hl 0 rfl) ?_
  refine lv_aload_n hx hb dX9_writeKnot_100 rfl (lv_at hl 0 rfl) ?_
  refine lv_aload_n hx hb dX9_writeKnot_101 rfl (lv_at hl 0 rfl) ?_
  refine Rg_25 fx hC dX9_writeKnot_102 ?_
  refine lv_iload_n hx hb dX9_writeKnot_105 rfl (lv_at hl 1 rfl) ?_
  have h_25 := (gi_in hm).1
  replace hm := (gi_in hm).2
  refine Rl_25 fx hC h_25 dX9_writeKnot_106 ?_
  obtain ⟨r_27, e_26, hm⟩ := b1_in hm
  refine g_callVi (k0 := 0) (ci := 9) (As := [.int (τ_18.2 25 (a1).toNatClampNeg)]) (rest := [.ref (q 0), .int r_24, .int (((4 : Int32) * (τ_18.1 31)) + (3 : Int32)), .ref (q 30)]) fx hC rw_w (Rc_ref l τ_18 (τ_18.2 25 (a1).toNatClampNeg) e_26) k_921 Rk_ref Rh_ref rfl rfl rfl ⟨rfl, rfl⟩ ⟨Nat.le_trans (Nat.le_of_ble_eq_true rfl) hR.1, Nat.le_trans (Nat.le_of_ble_eq_true rfl) hR.2⟩ hf rfl hl.1 rfl (Nat.le_of_ble_eq_true rfl) dX9_writeKnot_107 (fun H locs hC => ?_)
  obtain ⟨r_29, e_28, hm⟩ := b1_in hm
  refine g_callVi (k0 := 0) (ci := 9) (As := [.int r_27]) (rest := [.int r_24, .int (((4 : Int32) * (τ_18.1 31)) + (3 : Int32)), .ref (q 30)]) fx hC rw_w (Rc_countOf l τ_18 r_27 e_28) k_925 Rk_countOf Rh_countOf rfl rfl rfl ⟨rfl, rfl⟩ ⟨Nat.le_trans (Nat.le_of_ble_eq_true rfl) hR.1, Nat.le_trans (Nat.le_of_ble_eq_true rfl) hR.2⟩ hf rfl hl.1 rfl (Nat.le_of_ble_eq_true rfl) dX9_writeKnot_110 (fun H locs hC => ?_)
  refine lv_iadd hx hb dX9_writeKnot_113 ?_
  have h_30 := (gi_in hm).1
  replace hm := (gi_in hm).2
  refine Rs_30 fx hC h_30 dX9_writeKnot_114 (fun H locs hC => ?_)
  obtain ⟨τ_31, e_32⟩ : ∃ z, z = (rA τ_18 30 ((((4 : Int32) * (τ_18.1 31)) + (3 : Int32))).toNatClampNeg (r_24 + r_29)) := ⟨_, rfl⟩
  rw [← e_32] at hC
  replace hm := nm_in hm e_32
  refine lv_aload_n hx hb dX9_writeKnot_115 rfl (lv_at hl 0 rfl) ?_
  refine lv_dup hx hb dX9_writeKnot_116 rfl ?_
  refine Rg_31 fx hC dX9_writeKnot_117 ?_
  refine lv_iconst (v := (1 : Int32)) hx hb dX9_writeKnot_120 (by decide) ?_
  refine lv_iadd hx hb dX9_writeKnot_121 ?_
  refine Rp_31 fx hC dX9_writeKnot_122 (fun H locs hC => ?_)
  obtain ⟨τ_33, e_34⟩ : ∃ z, z = (rS τ_31 31 ((τ_31.1 31) + (1 : Int32))) := ⟨_, rfl⟩
  rw [← e_34] at hC
  replace hm := nm_in hm e_34
  cases hm
  exact g_vret fx hr hC rfl dX9_writeKnot_125
def Rs_rowsOf_14 {ρ : Type} (p2 : Int32) (kx35 : RS → Option ρ) (rc : Int32 → RS → Option ρ) (v3 : Int32) (τ : RS) : Option ρ :=
  if (τ.1 22) ≤ v3 then (kx35  τ) else (gi v3 1100 (nm (rA τ 27 (v3).toNatClampNeg (-1 : Int32)) (fun τ_8 => rc (v3 + (1 : Int32)) τ_8)))
def Rs_rowsOf_61 {ρ : Type} (kx178 : RS → Option ρ) (rc : Int32 → RS → Option ρ) (v3 : Int32) (τ : RS) : Option ρ :=
  if v3 ≤ (0 : Int32) then (kx178  τ) else (gi (v3 - (1 : Int32)) 40 (nm (τ.2 28 ((v3 - (1 : Int32))).toNatClampNeg) (fun x_20 => gi (v3 - (1 : Int32)) 40 (if (τ.2 29 ((v3 - (1 : Int32))).toNatClampNeg) = (0 : Int32) then (gi x_20 1100 (gi (v3 - (1 : Int32)) 40 (gi (v3 - (1 : Int32)) 40 (gi (v3 - (1 : Int32)) 40 (nm (rA τ 29 ((v3 - (1 : Int32))).toNatClampNeg ((τ.2 29 ((v3 - (1 : Int32))).toNatClampNeg) + (1 : Int32))) (fun τ_46 => if (τ.2 24 (x_20).toNatClampNeg) < (0 : Int32) then (rc v3 τ_46) else (gi (τ.2 24 (x_20).toNatClampNeg) 1100 (if (τ_46.2 27 ((τ.2 24 (x_20).toNatClampNeg)).toNatClampNeg) = (-1 : Int32) then (gi v3 40 (nm (rA τ_46 28 (v3).toNatClampNeg (τ.2 24 (x_20).toNatClampNeg)) (fun τ_52 => gi v3 40 (nm (rA τ_52 29 (v3).toNatClampNeg (0 : Int32)) (fun τ_55 => rc (v3 + (1 : Int32)) τ_55))))) else (rc v3 τ_46))))))))) else (gi x_20 1100 (gi (v3 - (1 : Int32)) 40 (if (τ.2 29 ((v3 - (1 : Int32))).toNatClampNeg) = (2 : Int32) then (b1 (Rm_writeKnot τ x_20) (fun τ_40 => rc (v3 + (-1 : Int32)) τ_40)) else (gi (v3 - (1 : Int32)) 40 (gi (v3 - (1 : Int32)) 40 (nm (rA τ 29 ((v3 - (1 : Int32))).toNatClampNeg ((τ.2 29 ((v3 - (1 : Int32))).toNatClampNeg) + (1 : Int32))) (fun τ_28 => if (τ.2 25 (x_20).toNatClampNeg) < (0 : Int32) then (rc v3 τ_28) else (gi (τ.2 25 (x_20).toNatClampNeg) 1100 (if (τ_28.2 27 ((τ.2 25 (x_20).toNatClampNeg)).toNatClampNeg) = (-1 : Int32) then (gi v3 40 (nm (rA τ_28 28 (v3).toNatClampNeg (τ.2 25 (x_20).toNatClampNeg)) (fun τ_34 => gi v3 40 (nm (rA τ_34 29 (v3).toNatClampNeg (0 : Int32)) (fun τ_37 => rc (v3 + (1 : Int32)) τ_37))))) else (rc v3 τ_28))))))))))))))
def Rm_rowsOf (τ : RS) (a1 : Int32) : Option RS :=
  b2 (Rm_bookOf τ a1 (1 : Int32)) (fun r_2 τ_3 => nm (rS τ_3 31 (0 : Int32)) (fun τ_4 => it2 (Rs_rowsOf_14 r_2 (fun τ_10 => gi (0 : Int32) 40 (nm (rA τ_10 28 ((0 : Int32)).toNatClampNeg r_2) (fun τ_12 => gi (0 : Int32) 40 (nm (rA τ_12 29 ((0 : Int32)).toNatClampNeg (0 : Int32)) (fun τ_15 => if (0 : Int32) ≤ r_2 then (it2 (Rs_rowsOf_61 (fun τ_57 => some τ_57)) fuel (1 : Int32) τ_15) else (it2 (Rs_rowsOf_61 (fun τ_58 => some τ_58)) fuel (0 : Int32) τ_15))))))) fuel (0 : Int32) τ_4))
abbrev Rrm_rowsOf : Room := { frames := 3, cells := 0, slots := 0, locals := 68 }
set_option maxRecDepth 100000 in
set_option maxHeartbeats 4000000 in
theorem Rw_rowsOf_14 {ρ : Type} {out : ρ} {p : Program} {l : Launch} {e : Env} {R : Room} {s : State} {m : MethodId} {args : Array Value} {below : List Frame} {meth : Method} {c : Code} {cells slots : Nat} {Q : State → Prop} {D : va_G} {cy : Nat → ClassId} {ad : List Nat} {q : Nat → Nat} {X : va_W} (fx : FX p s m args meth c cX9_rowsOf 6 RX9 D cy) (hR : 3 ≤ R.frames ∧ 68 ≤ R.locals) (hf : cells ≤ R.cells ∧ slots ≤ R.slots) (p2 : Int32) {kx35 : RS → Option ρ} :
    ∀ (n : Nat) (v3 : Int32) (τ : RS), it2 (Rs_rowsOf_14 p2 kx35) n v3 τ = some out → ∀ (H : Heap) (locs : List Loc) (ls : Array Slot), GC D (rwd cy q X) ad s τ H locs → lv_has ls 6 [(0, .ref (q 0)), (2, .int p2), (3, .int v3)] → (∀ (τ2 : RS) (H : Heap) (locs : List Loc) (ls : Array Slot), kx35 τ2 = some out → GC D (rwd cy q X) ad s τ2 H locs → lv_has ls 6 [(0, .ref (q 0)), (2, .int p2)] → W p l e R s m args below meth c H locs cells slots Q (F0 m 35 ls [])) → W p l e R s m args below meth c H locs cells slots Q (F0 m 14 ls []) := by
  have hx := fx.1
  have hb := fx.2.1
  intro n
  induction n with
  | zero => intro v3 τ hm; exact (it2_z hm).elim
  | succ n ih =>
    intro v3 τ hm H locs ls hC hl hx35
    obtain ⟨rc, hrc⟩ : ∃ z, z = it2 (Rs_rowsOf_14 p2 kx35) n := ⟨_, rfl⟩
    replace hm : Rs_rowsOf_14 p2 kx35 rc v3 τ = some out := by rw [hrc]; exact hm
    unfold Rs_rowsOf_14 at hm
    refine lv_iload_n hx hb dX9_rowsOf_14 rfl (lv_at hl 2 rfl) ?_
    refine lv_aload_n hx hb dX9_rowsOf_15 rfl (lv_at hl 0 rfl) ?_
    refine Rg_22 fx hC dX9_rowsOf_16 ?_
    refine lv_icmp_ge (tgt := 35) hx hb dX9_rowsOf_19 (by decide) (fun c_6 => ?_) (fun c_6 => ?_)
    · replace hm := ifp hm c_6
      exact hx35 _ _ _ _ hm hC (lv_sub hl [0, 1] rfl)
    · replace hm := ifn hm c_6
      refine lv_aload_n hx hb dX9_rowsOf_22 rfl (lv_at hl 0 rfl) ?_
      refine Rg_27 fx hC dX9_rowsOf_23 ?_
      refine lv_iload_n hx hb dX9_rowsOf_26 rfl (lv_at hl 2 rfl) ?_
      refine lv_iconst (v := (-1 : Int32)) hx hb dX9_rowsOf_27 (by decide) ?_
      have h_7 := (gi_in hm).1
      replace hm := (gi_in hm).2
      refine Rs_27 fx hC h_7 dX9_rowsOf_28 (fun H locs hC => ?_)
      obtain ⟨τ_8, e_9⟩ : ∃ z, z = (rA τ 27 (v3).toNatClampNeg (-1 : Int32)) := ⟨_, rfl⟩
      rw [← e_9] at hC
      replace hm := nm_in hm e_9
      refine lv_iinc (v := (v3 + (1 : Int32))) (lv' := [(3, .int (v3 + (1 : Int32))), (0, .ref (q 0)), (2, .int p2)]) hx hb dX9_rowsOf_29 hl (k := 2) rfl rfl (by decide) rfl (fun ls hl => ?_)
      refine lv_goto (tgt := 14) hx hb dX9_rowsOf_32 (by decide) ?_
      rw [hrc] at hm
      exact ih _ _ hm _ _ _ hC (lv_sub hl [1, 2, 0] rfl) hx35
set_option maxRecDepth 100000 in
set_option maxHeartbeats 4000000 in
theorem Rw_rowsOf_61 {ρ : Type} {out : ρ} {p : Program} {l : Launch} {e : Env} {R : Room} {s : State} {m : MethodId} {args : Array Value} {below : List Frame} {meth : Method} {c : Code} {cells slots : Nat} {Q : State → Prop} {D : va_G} {cy : Nat → ClassId} {ad : List Nat} {q : Nat → Nat} {X : va_W} (fx : FX p s m args meth c cX9_rowsOf 6 RX9 D cy) (hR : 3 ≤ R.frames ∧ 68 ≤ R.locals) (hf : cells ≤ R.cells ∧ slots ≤ R.slots) {kx178 : RS → Option ρ} :
    ∀ (n : Nat) (v3 : Int32) (τ : RS), it2 (Rs_rowsOf_61 kx178) n v3 τ = some out → ∀ (H : Heap) (locs : List Loc) (ls : Array Slot), GC D (rwd cy q X) ad s τ H locs → lv_has ls 6 [(0, .ref (q 0)), (3, .int v3)] → (∀ (τ2 : RS) (H : Heap) (locs : List Loc) (ls : Array Slot), kx178 τ2 = some out → GC D (rwd cy q X) ad s τ2 H locs → lv_has ls 6 [] → W p l e R s m args below meth c H locs cells slots Q (F0 m 178 ls [])) → W p l e R s m args below meth c H locs cells slots Q (F0 m 61 ls []) := by
  have hx := fx.1
  have hb := fx.2.1
  intro n
  induction n with
  | zero => intro v3 τ hm; exact (it2_z hm).elim
  | succ n ih =>
    intro v3 τ hm H locs ls hC hl hx178
    obtain ⟨rc, hrc⟩ : ∃ z, z = it2 (Rs_rowsOf_61 kx178) n := ⟨_, rfl⟩
    replace hm : Rs_rowsOf_61 kx178 rc v3 τ = some out := by rw [hrc]; exact hm
    unfold Rs_rowsOf_61 at hm
    refine lv_iload_n hx hb dX9_rowsOf_61 rfl (lv_at hl 1 rfl) ?_
    refine lv_if_le (tgt := 178) hx hb dX9_rowsOf_62 (by decide) (fun c_18 => ?_) (fun c_18 => ?_)
    · replace hm := ifp hm c_18
      exact hx178 _ _ _ _ hm hC (lv_sub hl [] rfl)
    · replace hm := ifn hm c_18
      refine lv_aload_n hx hb dX9_rowsOf_65 rfl (lv_at hl 0 rfl) ?_
      refine Rg_28 fx hC dX9_rowsOf_66 ?_
      refine lv_iload_n hx hb dX9_rowsOf_69 rfl (lv_at hl 1 rfl) ?_
      refine lv_iconst (v := (1 : Int32)) hx hb dX9_rowsOf_70 (by decide) ?_
      refine lv_isub hx hb dX9_rowsOf_71 ?_
      have h_19 := (gi_in hm).1
      replace hm := (gi_in hm).2
      refine Rl_28 fx hC h_19 dX9_rowsOf_72 ?_
      refine lv_topi (fun x_20 ex_20 => ?_)
      replace hm := nm_in hm ex_20
      refine lv_istore (lv' := [(4, .int x_20), (0, .ref (q 0)), (3, .int v3)]) hx hb dX9_rowsOf_73 hl (by decide) rfl (fun ls hl => ?_)
      refine lv_aload_n hx hb dX9_rowsOf_75 rfl (lv_at hl 1 rfl) ?_
      refine Rg_29 fx hC dX9_rowsOf_76 ?_
      refine lv_iload_n hx hb dX9_rowsOf_79 rfl (lv_at hl 2 rfl) ?_
      refine lv_iconst (v := (1 : Int32)) hx hb dX9_rowsOf_80 (by decide) ?_
      refine lv_isub hx hb dX9_rowsOf_81 ?_
      have h_21 := (gi_in hm).1
      replace hm := (gi_in hm).2
      refine Rl_29 fx hC h_21 dX9_rowsOf_82 ?_
      refine lv_if_ne (tgt := 96) hx hb dX9_rowsOf_83 (by decide) (fun c_22 => ?_) (fun c_22 => ?_)
      · replace hm := ifn hm c_22
        refine lv_aload_n hx hb dX9_rowsOf_96 rfl (lv_at hl 1 rfl) ?_
        refine Rg_25 fx hC dX9_rowsOf_97 ?_
        refine lv_iload hx hb dX9_rowsOf_100 (lv_at hl 0 rfl) ?_
        have h_23 := (gi_in hm).1
        replace hm := (gi_in hm).2
        refine Rl_25 fx hC h_23 dX9_rowsOf_102 ?_
        refine lv_istore (lv' := [(5, .int (τ.2 25 (x_20).toNatClampNeg)), (4, .int x_20), (0, .ref (q 0)), (3, .int v3)]) hx hb dX9_rowsOf_103 hl (by decide) rfl (fun ls hl => ?_)
        refine lv_aload_n hx hb dX9_rowsOf_105 rfl (lv_at hl 2 rfl) ?_
        refine Rg_29 fx hC dX9_rowsOf_106 ?_
        refine lv_iload_n hx hb dX9_rowsOf_109 rfl (lv_at hl 3 rfl) ?_
        refine lv_iconst (v := (1 : Int32)) hx hb dX9_rowsOf_110 (by decide) ?_
        refine lv_isub hx hb dX9_rowsOf_111 ?_
        have h_24 := (gi_in hm).1
        replace hm := (gi_in hm).2
        refine Rl_29 fx hC h_24 dX9_rowsOf_112 ?_
        refine lv_iconst (v := (2 : Int32)) hx hb dX9_rowsOf_113 (by decide) ?_
        refine lv_icmp_ne (tgt := 129) hx hb dX9_rowsOf_114 (by decide) (fun c_25 => ?_) (fun c_25 => ?_)
        · replace hm := ifn hm c_25
          refine lv_aload_n hx hb dX9_rowsOf_129 rfl (lv_at hl 2 rfl) ?_
          refine Rg_29 fx hC dX9_rowsOf_130 ?_
          refine lv_iload_n hx hb dX9_rowsOf_133 rfl (lv_at hl 3 rfl) ?_
          refine lv_iconst (v := (1 : Int32)) hx hb dX9_rowsOf_134 (by decide) ?_
          refine lv_isub hx hb dX9_rowsOf_135 ?_
          refine lv_dup2_11 hx hb dX9_rowsOf_136 rfl rfl ?_
          have h_26 := (gi_in hm).1
          replace hm := (gi_in hm).2
          refine Rl_29 fx hC h_26 dX9_rowsOf_137 ?_
          refine lv_iconst (v := (1 : Int32)) hx hb dX9_rowsOf_138 (by decide) ?_
          refine lv_iadd hx hb dX9_rowsOf_139 ?_
          have h_27 := (gi_in hm).1
          replace hm := (gi_in hm).2
          refine Rs_29 fx hC h_27 dX9_rowsOf_140 (fun H locs hC => ?_)
          obtain ⟨τ_28, e_29⟩ : ∃ z, z = (rA τ 29 ((v3 - (1 : Int32))).toNatClampNeg ((τ.2 29 ((v3 - (1 : Int32))).toNatClampNeg) + (1 : Int32))) := ⟨_, rfl⟩
          rw [← e_29] at hC
          replace hm := nm_in hm e_29
          refine lv_iload hx hb dX9_rowsOf_141 (lv_at hl 0 rfl) ?_
          refine lv_if_lt (tgt := 175) hx hb dX9_rowsOf_143 (by decide) (fun c_30 => ?_) (fun c_30 => ?_)
          · replace hm := ifp hm c_30
            refine lv_goto (tgt := 61) hx hb dX9_rowsOf_175 (by decide) ?_
            rw [hrc] at hm
            exact ih _ _ hm _ _ _ hC (lv_sub hl [2, 3] rfl) hx178
          · replace hm := ifn hm c_30
            refine lv_aload_n hx hb dX9_rowsOf_146 rfl (lv_at hl 2 rfl) ?_
            refine Rg_27 fx hC dX9_rowsOf_147 ?_
            refine lv_iload hx hb dX9_rowsOf_150 (lv_at hl 0 rfl) ?_
            have h_31 := (gi_in hm).1
            replace hm := (gi_in hm).2
            refine Rl_27 fx hC h_31 dX9_rowsOf_152 ?_
            refine lv_iconst (v := (-1 : Int32)) hx hb dX9_rowsOf_153 (by decide) ?_
            refine lv_icmp_ne (tgt := 175) hx hb dX9_rowsOf_154 (by decide) (fun c_32 => ?_) (fun c_32 => ?_)
            · replace hm := ifn hm c_32
              refine lv_goto (tgt := 61) hx hb dX9_rowsOf_175 (by decide) ?_
              rw [hrc] at hm
              exact ih _ _ hm _ _ _ hC (lv_sub hl [2, 3] rfl) hx178
            · replace hm := ifp hm c_32
              refine lv_aload_n hx hb dX9_rowsOf_157 rfl (lv_at hl 2 rfl) ?_
              refine Rg_28 fx hC dX9_rowsOf_158 ?_
              refine lv_iload_n hx hb dX9_rowsOf_161 rfl (lv_at hl 3 rfl) ?_
              refine lv_iload hx hb dX9_rowsOf_162 (lv_at hl 0 rfl) ?_
              have h_33 := (gi_in hm).1
              replace hm := (gi_in hm).2
              refine Rs_28 fx hC h_33 dX9_rowsOf_164 (fun H locs hC => ?_)
              obtain ⟨τ_34, e_35⟩ : ∃ z, z = (rA τ_28 28 (v3).toNatClampNeg (τ.2 25 (x_20).toNatClampNeg)) := ⟨_, rfl⟩
              rw [← e_35] at hC
              replace hm := nm_in hm e_35
              refine lv_aload_n hx hb dX9_rowsOf_165 rfl (lv_at hl 2 rfl) ?_
              refine Rg_29 fx hC dX9_rowsOf_166 ?_
              refine lv_iload_n hx hb dX9_rowsOf_169 rfl (lv_at hl 3 rfl) ?_
              refine lv_iconst (v := (0 : Int32)) hx hb dX9_rowsOf_170 (by decide) ?_
              have h_36 := (gi_in hm).1
              replace hm := (gi_in hm).2
              refine Rs_29 fx hC h_36 dX9_rowsOf_171 (fun H locs hC => ?_)
              obtain ⟨τ_37, e_38⟩ : ∃ z, z = (rA τ_34 29 (v3).toNatClampNeg (0 : Int32)) := ⟨_, rfl⟩
              rw [← e_38] at hC
              replace hm := nm_in hm e_38
              refine lv_iinc (v := (v3 + (1 : Int32))) (lv' := [(3, .int (v3 + (1 : Int32))), (5, .int (τ.2 25 (x_20).toNatClampNeg)), (4, .int x_20), (0, .ref (q 0))]) hx hb dX9_rowsOf_172 hl (k := 3) rfl rfl (by decide) rfl (fun ls hl => ?_)
              refine lv_goto (tgt := 61) hx hb dX9_rowsOf_175 (by decide) ?_
              rw [hrc] at hm
              exact ih _ _ hm _ _ _ hC (lv_sub hl [3, 0] rfl) hx178
        · replace hm := ifp hm c_25
          refine lv_aload_n hx hb dX9_rowsOf_117 rfl (lv_at hl 2 rfl) ?_
          refine lv_iload hx hb dX9_rowsOf_118 (lv_at hl 1 rfl) ?_
          obtain ⟨τ_40, e_39, hm⟩ := b1_in hm
          refine g_callVv (k0 := 0) (ci := 9) (As := [.int x_20]) (rest := []) fx hC rw_w (Rc_writeKnot l τ x_20 e_39) k_917 Rk_writeKnot Rh_writeKnot rfl rfl rfl ⟨rfl, rfl⟩ ⟨Nat.le_trans (Nat.le_of_ble_eq_true rfl) hR.1, Nat.le_trans (Nat.le_of_ble_eq_true rfl) hR.2⟩ hf rfl hl.1 rfl (Nat.le_of_ble_eq_true rfl) dX9_rowsOf_120 (fun H locs hC => ?_)
          refine lv_iinc (v := (v3 + (-1 : Int32))) (lv' := [(3, .int (v3 + (-1 : Int32))), (5, .int (τ.2 25 (x_20).toNatClampNeg)), (4, .int x_20), (0, .ref (q 0))]) hx hb dX9_rowsOf_123 hl (k := 3) rfl rfl (by decide) rfl (fun ls hl => ?_)
          refine lv_goto (tgt := 175) hx hb dX9_rowsOf_126 (by decide) ?_
          refine lv_goto (tgt := 61) hx hb dX9_rowsOf_175 (by decide) ?_
          rw [hrc] at hm
          exact ih _ _ hm _ _ _ hC (lv_sub hl [3, 0] rfl) hx178
      · replace hm := ifp hm c_22
        refine lv_aload_n hx hb dX9_rowsOf_86 rfl (lv_at hl 1 rfl) ?_
        refine Rg_24 fx hC dX9_rowsOf_87 ?_
        refine lv_iload hx hb dX9_rowsOf_90 (lv_at hl 0 rfl) ?_
        have h_41 := (gi_in hm).1
        replace hm := (gi_in hm).2
        refine Rl_24 fx hC h_41 dX9_rowsOf_92 ?_
        refine lv_goto (tgt := 103) hx hb dX9_rowsOf_93 (by decide) ?_
        refine lv_istore (lv' := [(5, .int (τ.2 24 (x_20).toNatClampNeg)), (4, .int x_20), (0, .ref (q 0)), (3, .int v3)]) hx hb dX9_rowsOf_103 hl (by decide) rfl (fun ls hl => ?_)
        refine lv_aload_n hx hb dX9_rowsOf_105 rfl (lv_at hl 2 rfl) ?_
        refine Rg_29 fx hC dX9_rowsOf_106 ?_
        refine lv_iload_n hx hb dX9_rowsOf_109 rfl (lv_at hl 3 rfl) ?_
        refine lv_iconst (v := (1 : Int32)) hx hb dX9_rowsOf_110 (by decide) ?_
        refine lv_isub hx hb dX9_rowsOf_111 ?_
        have h_42 := (gi_in hm).1
        replace hm := (gi_in hm).2
        refine Rl_29 fx hC h_42 dX9_rowsOf_112 ?_
        refine lv_iconst (v := (2 : Int32)) hx hb dX9_rowsOf_113 (by decide) ?_
        refine lv_icmp_ne (tgt := 129) hx hb dX9_rowsOf_114 (by decide) (fun c_43 => ?_) (fun c_43 => ?_)
        · refine lv_aload_n hx hb dX9_rowsOf_129 rfl (lv_at hl 2 rfl) ?_
          refine Rg_29 fx hC dX9_rowsOf_130 ?_
          refine lv_iload_n hx hb dX9_rowsOf_133 rfl (lv_at hl 3 rfl) ?_
          refine lv_iconst (v := (1 : Int32)) hx hb dX9_rowsOf_134 (by decide) ?_
          refine lv_isub hx hb dX9_rowsOf_135 ?_
          refine lv_dup2_11 hx hb dX9_rowsOf_136 rfl rfl ?_
          have h_44 := (gi_in hm).1
          replace hm := (gi_in hm).2
          refine Rl_29 fx hC h_44 dX9_rowsOf_137 ?_
          refine lv_iconst (v := (1 : Int32)) hx hb dX9_rowsOf_138 (by decide) ?_
          refine lv_iadd hx hb dX9_rowsOf_139 ?_
          have h_45 := (gi_in hm).1
          replace hm := (gi_in hm).2
          refine Rs_29 fx hC h_45 dX9_rowsOf_140 (fun H locs hC => ?_)
          obtain ⟨τ_46, e_47⟩ : ∃ z, z = (rA τ 29 ((v3 - (1 : Int32))).toNatClampNeg ((τ.2 29 ((v3 - (1 : Int32))).toNatClampNeg) + (1 : Int32))) := ⟨_, rfl⟩
          rw [← e_47] at hC
          replace hm := nm_in hm e_47
          refine lv_iload hx hb dX9_rowsOf_141 (lv_at hl 0 rfl) ?_
          refine lv_if_lt (tgt := 175) hx hb dX9_rowsOf_143 (by decide) (fun c_48 => ?_) (fun c_48 => ?_)
          · replace hm := ifp hm c_48
            refine lv_goto (tgt := 61) hx hb dX9_rowsOf_175 (by decide) ?_
            rw [hrc] at hm
            exact ih _ _ hm _ _ _ hC (lv_sub hl [2, 3] rfl) hx178
          · replace hm := ifn hm c_48
            refine lv_aload_n hx hb dX9_rowsOf_146 rfl (lv_at hl 2 rfl) ?_
            refine Rg_27 fx hC dX9_rowsOf_147 ?_
            refine lv_iload hx hb dX9_rowsOf_150 (lv_at hl 0 rfl) ?_
            have h_49 := (gi_in hm).1
            replace hm := (gi_in hm).2
            refine Rl_27 fx hC h_49 dX9_rowsOf_152 ?_
            refine lv_iconst (v := (-1 : Int32)) hx hb dX9_rowsOf_153 (by decide) ?_
            refine lv_icmp_ne (tgt := 175) hx hb dX9_rowsOf_154 (by decide) (fun c_50 => ?_) (fun c_50 => ?_)
            · replace hm := ifn hm c_50
              refine lv_goto (tgt := 61) hx hb dX9_rowsOf_175 (by decide) ?_
              rw [hrc] at hm
              exact ih _ _ hm _ _ _ hC (lv_sub hl [2, 3] rfl) hx178
            · replace hm := ifp hm c_50
              refine lv_aload_n hx hb dX9_rowsOf_157 rfl (lv_at hl 2 rfl) ?_
              refine Rg_28 fx hC dX9_rowsOf_158 ?_
              refine lv_iload_n hx hb dX9_rowsOf_161 rfl (lv_at hl 3 rfl) ?_
              refine lv_iload hx hb dX9_rowsOf_162 (lv_at hl 0 rfl) ?_
              have h_51 := (gi_in hm).1
              replace hm := (gi_in hm).2
              refine Rs_28 fx hC h_51 dX9_rowsOf_164 (fun H locs hC => ?_)
              obtain ⟨τ_52, e_53⟩ : ∃ z, z = (rA τ_46 28 (v3).toNatClampNeg (τ.2 24 (x_20).toNatClampNeg)) := ⟨_, rfl⟩
              rw [← e_53] at hC
              replace hm := nm_in hm e_53
              refine lv_aload_n hx hb dX9_rowsOf_165 rfl (lv_at hl 2 rfl) ?_
              refine Rg_29 fx hC dX9_rowsOf_166 ?_
              refine lv_iload_n hx hb dX9_rowsOf_169 rfl (lv_at hl 3 rfl) ?_
              refine lv_iconst (v := (0 : Int32)) hx hb dX9_rowsOf_170 (by decide) ?_
              have h_54 := (gi_in hm).1
              replace hm := (gi_in hm).2
              refine Rs_29 fx hC h_54 dX9_rowsOf_171 (fun H locs hC => ?_)
              obtain ⟨τ_55, e_56⟩ : ∃ z, z = (rA τ_52 29 (v3).toNatClampNeg (0 : Int32)) := ⟨_, rfl⟩
              rw [← e_56] at hC
              replace hm := nm_in hm e_56
              refine lv_iinc (v := (v3 + (1 : Int32))) (lv' := [(3, .int (v3 + (1 : Int32))), (5, .int (τ.2 24 (x_20).toNatClampNeg)), (4, .int x_20), (0, .ref (q 0))]) hx hb dX9_rowsOf_172 hl (k := 3) rfl rfl (by decide) rfl (fun ls hl => ?_)
              refine lv_goto (tgt := 61) hx hb dX9_rowsOf_175 (by decide) ?_
              rw [hrc] at hm
              exact ih _ _ hm _ _ _ hC (lv_sub hl [3, 0] rfl) hx178
        · exact absurd c_43 (fun z => absurd (c_22.symm.trans z) (by decide))
set_option maxRecDepth 100000 in
set_option maxHeartbeats 4000000 in
theorem Rc_rowsOf (l : Launch) {D : va_G} {cy : Nat → ClassId} {ad : List Nat} {q : Nat → Nat} {X : va_W} (τ : RS) (a1 : Int32) {o : RS} (hm : Rm_rowsOf τ a1 = some o) : GM l yX9_rowsOf cX9_rowsOf 6 none Rrm_rowsOf D cy (rwd cy q X) ad [.ref (q 0), .int a1] τ none o := by
  refine g_start RX9 rfl (by decide) (Nat.le_of_ble_eq_true rfl) ?_
  intro p e s m args below meth c fx hr hC ls hl
  have hx := fx.1
  have hb := fx.2.1
  have hR : 3 ≤ (Rrm_rowsOf).frames ∧ 68 ≤ (Rrm_rowsOf).locals := ⟨Nat.le_refl _, Nat.le_refl _⟩
  have hf : 0 ≤ (Rrm_rowsOf).cells ∧ 0 ≤ (Rrm_rowsOf).slots := ⟨Nat.zero_le _, Nat.zero_le _⟩
  have hl : lv_has ls 6 [(0, .ref (q 0)), (1, .int a1)] := hl
  unfold Rm_rowsOf at hm
  refine lv_aload_n hx hb dX9_rowsOf_0 rfl (lv_at hl 0 rfl) ?_
  refine lv_iload_n hx hb dX9_rowsOf_1 rfl (lv_at hl 1 rfl) ?_
  refine lv_iconst (v := (1 : Int32)) hx hb dX9_rowsOf_2 (by decide) ?_
  obtain ⟨r_2, τ_3, e_1, hm⟩ := b2_in hm
  refine g_callVi (k0 := 0) (ci := 9) (As := [.int a1, .int (1 : Int32)]) (rest := []) fx hC rw_w (Rc_bookOf l τ a1 (1 : Int32) e_1) k_733 Rk_bookOf Rh_bookOf rfl rfl rfl ⟨rfl, rfl⟩ ⟨Nat.le_trans (Nat.le_of_ble_eq_true rfl) hR.1, Nat.le_trans (Nat.le_of_ble_eq_true rfl) hR.2⟩ hf rfl hl.1 rfl (Nat.le_of_ble_eq_true rfl) dX9_rowsOf_3 (fun H locs hC => ?_)
  refine lv_istore_n (lv' := [(2, .int r_2), (0, .ref (q 0)), (1, .int a1)]) hx hb dX9_rowsOf_6 rfl hl (by decide) rfl (fun ls hl => ?_)
  refine lv_aload_n hx hb dX9_rowsOf_7 rfl (lv_at hl 1 rfl) ?_
  refine lv_iconst (v := (0 : Int32)) hx hb dX9_rowsOf_8 (by decide) ?_
  refine Rp_31 fx hC dX9_rowsOf_9 (fun H locs hC => ?_)
  obtain ⟨τ_4, e_5⟩ : ∃ z, z = (rS τ_3 31 (0 : Int32)) := ⟨_, rfl⟩
  rw [← e_5] at hC
  replace hm := nm_in hm e_5
  refine lv_iconst (v := (0 : Int32)) hx hb dX9_rowsOf_12 (by decide) ?_
  refine lv_istore_n (lv' := [(3, .int (0 : Int32)), (2, .int r_2), (0, .ref (q 0)), (1, .int a1)]) hx hb dX9_rowsOf_13 rfl hl (by decide) rfl (fun ls hl => ?_)
  refine Rw_rowsOf_14 fx hR hf r_2 fuel (0 : Int32) τ_4 hm _ _ _ hC (lv_sub hl [2, 1, 0] rfl) (fun τ_10 H locs ls hm hC hl => ?_)
  refine lv_iconst (v := (0 : Int32)) hx hb dX9_rowsOf_35 (by decide) ?_
  refine lv_istore_n (lv' := [(3, .int (0 : Int32)), (0, .ref (q 0)), (2, .int r_2)]) hx hb dX9_rowsOf_36 rfl hl (by decide) rfl (fun ls hl => ?_)
  refine lv_aload_n hx hb dX9_rowsOf_37 rfl (lv_at hl 1 rfl) ?_
  refine Rg_28 fx hC dX9_rowsOf_38 ?_
  refine lv_iconst (v := (0 : Int32)) hx hb dX9_rowsOf_41 (by decide) ?_
  refine lv_iload_n hx hb dX9_rowsOf_42 rfl (lv_at hl 2 rfl) ?_
  have h_11 := (gi_in hm).1
  replace hm := (gi_in hm).2
  refine Rs_28 fx hC h_11 dX9_rowsOf_43 (fun H locs hC => ?_)
  obtain ⟨τ_12, e_13⟩ : ∃ z, z = (rA τ_10 28 ((0 : Int32)).toNatClampNeg r_2) := ⟨_, rfl⟩
  rw [← e_13] at hC
  replace hm := nm_in hm e_13
  refine lv_aload_n hx hb dX9_rowsOf_44 rfl (lv_at hl 1 rfl) ?_
  refine Rg_29 fx hC dX9_rowsOf_45 ?_
  refine lv_iconst (v := (0 : Int32)) hx hb dX9_rowsOf_48 (by decide) ?_
  refine lv_iconst (v := (0 : Int32)) hx hb dX9_rowsOf_49 (by decide) ?_
  have h_14 := (gi_in hm).1
  replace hm := (gi_in hm).2
  refine Rs_29 fx hC h_14 dX9_rowsOf_50 (fun H locs hC => ?_)
  obtain ⟨τ_15, e_16⟩ : ∃ z, z = (rA τ_12 29 ((0 : Int32)).toNatClampNeg (0 : Int32)) := ⟨_, rfl⟩
  rw [← e_16] at hC
  replace hm := nm_in hm e_16
  refine lv_iload_n hx hb dX9_rowsOf_51 rfl (lv_at hl 2 rfl) ?_
  refine lv_if_ge (tgt := 59) hx hb dX9_rowsOf_52 (by decide) (fun c_17 => ?_) (fun c_17 => ?_)
  · replace hm := ifp hm c_17
    refine lv_iconst (v := (1 : Int32)) hx hb dX9_rowsOf_59 (by decide) ?_
    refine lv_istore_n (lv' := [(3, .int (1 : Int32)), (0, .ref (q 0)), (2, .int r_2)]) hx hb dX9_rowsOf_60 rfl hl (by decide) rfl (fun ls hl => ?_)
    refine Rw_rowsOf_61 fx hR hf fuel (1 : Int32) τ_15 hm _ _ _ hC (lv_sub hl [1, 0] rfl) (fun τ_57 H locs ls hm hC hl => ?_)
    cases hm
    exact g_vret fx hr hC rfl dX9_rowsOf_178
  · replace hm := ifn hm c_17
    refine lv_iconst (v := (0 : Int32)) hx hb dX9_rowsOf_55 (by decide) ?_
    refine lv_goto (tgt := 60) hx hb dX9_rowsOf_56 (by decide) ?_
    refine lv_istore_n (lv' := [(3, .int (0 : Int32)), (0, .ref (q 0)), (2, .int r_2)]) hx hb dX9_rowsOf_60 rfl hl (by decide) rfl (fun ls hl => ?_)
    refine Rw_rowsOf_61 fx hR hf fuel (0 : Int32) τ_15 hm _ _ _ hC (lv_sub hl [1, 0] rfl) (fun τ_58 H locs ls hm hC hl => ?_)
    cases hm
    exact g_vret fx hr hC rfl dX9_rowsOf_178
def Rs_write_26 {ρ : Type} (kx54 : RS → Option ρ) (rc : Int32 → RS → Option ρ) (v2 : Int32) (τ : RS) : Option ρ :=
  if ((4 : Int32) * (τ.1 9)) ≤ v2 then (kx54  τ) else (gi v2 4400 (gi v2 4400 (nm (rA τ 10 (v2).toNatClampNeg (τ.2 30 (v2).toNatClampNeg)) (fun τ_9 => rc (v2 + (1 : Int32)) τ_9))))
def Rm_write (τ : RS) (a1 : Int32) : Option (Int32 × RS) :=
  if (Rm_isFamily τ a1) = (0 : Int32) then (some ((-2 : Int32), τ)) else (b1 (Rm_rowsOf τ a1) (fun τ_3 => nm (rS τ_3 9 (τ_3.1 31)) (fun τ_4 => it2 (Rs_write_26 (fun τ_11 => some ((τ_11.1 9), τ_11))) fuel (0 : Int32) τ_4)))
abbrev Rrm_write : Room := { frames := 4, cells := 0, slots := 0, locals := 93 }
set_option maxRecDepth 100000 in
set_option maxHeartbeats 4000000 in
theorem Rw_write_26 {ρ : Type} {out : ρ} {p : Program} {l : Launch} {e : Env} {R : Room} {s : State} {m : MethodId} {args : Array Value} {below : List Frame} {meth : Method} {c : Code} {cells slots : Nat} {Q : State → Prop} {D : va_G} {cy : Nat → ClassId} {ad : List Nat} {q : Nat → Nat} {X : va_W} (fx : FX p s m args meth c cX9_write 3 RX9 D cy) (hR : 4 ≤ R.frames ∧ 93 ≤ R.locals) (hf : cells ≤ R.cells ∧ slots ≤ R.slots) {kx54 : RS → Option ρ} :
    ∀ (n : Nat) (v2 : Int32) (τ : RS), it2 (Rs_write_26 kx54) n v2 τ = some out → ∀ (H : Heap) (locs : List Loc) (ls : Array Slot), GC D (rwd cy q X) ad s τ H locs → lv_has ls 3 [(0, .ref (q 0)), (2, .int v2)] → (∀ (τ2 : RS) (H : Heap) (locs : List Loc) (ls : Array Slot), kx54 τ2 = some out → GC D (rwd cy q X) ad s τ2 H locs → lv_has ls 3 [(0, .ref (q 0))] → W p l e R s m args below meth c H locs cells slots Q (F0 m 54 ls [])) → W p l e R s m args below meth c H locs cells slots Q (F0 m 26 ls []) := by
  have hx := fx.1
  have hb := fx.2.1
  intro n
  induction n with
  | zero => intro v2 τ hm; exact (it2_z hm).elim
  | succ n ih =>
    intro v2 τ hm H locs ls hC hl hx54
    obtain ⟨rc, hrc⟩ : ∃ z, z = it2 (Rs_write_26 kx54) n := ⟨_, rfl⟩
    replace hm : Rs_write_26 kx54 rc v2 τ = some out := by rw [hrc]; exact hm
    unfold Rs_write_26 at hm
    refine lv_iload_n hx hb dX9_write_26 rfl (lv_at hl 1 rfl) ?_
    refine lv_iconst (v := (4 : Int32)) hx hb dX9_write_27 (by decide) ?_
    refine lv_aload_n hx hb dX9_write_28 rfl (lv_at hl 0 rfl) ?_
    refine Rg_9 fx hC dX9_write_29 ?_
    refine lv_imul hx hb dX9_write_32 ?_
    refine lv_icmp_ge (tgt := 54) hx hb dX9_write_33 (by decide) (fun c_6 => ?_) (fun c_6 => ?_)
    · replace hm := ifp hm c_6
      exact hx54 _ _ _ _ hm hC (lv_sub hl [0] rfl)
    · replace hm := ifn hm c_6
      refine lv_aload_n hx hb dX9_write_36 rfl (lv_at hl 0 rfl) ?_
      refine Rg_10 fx hC dX9_write_37 ?_
      refine lv_iload_n hx hb dX9_write_40 rfl (lv_at hl 1 rfl) ?_
      refine lv_aload_n hx hb dX9_write_41 rfl (lv_at hl 0 rfl) ?_
      refine Rg_30 fx hC dX9_write_42 ?_
      refine lv_iload_n hx hb dX9_write_45 rfl (lv_at hl 1 rfl) ?_
      have h_7 := (gi_in hm).1
      replace hm := (gi_in hm).2
      refine Rl_30 fx hC h_7 dX9_write_46 ?_
      have h_8 := (gi_in hm).1
      replace hm := (gi_in hm).2
      refine Rs_10 fx hC h_8 dX9_write_47 (fun H locs hC => ?_)
      obtain ⟨τ_9, e_10⟩ : ∃ z, z = (rA τ 10 (v2).toNatClampNeg (τ.2 30 (v2).toNatClampNeg)) := ⟨_, rfl⟩
      rw [← e_10] at hC
      replace hm := nm_in hm e_10
      refine lv_iinc (v := (v2 + (1 : Int32))) (lv' := [(2, .int (v2 + (1 : Int32))), (0, .ref (q 0))]) hx hb dX9_write_48 hl (k := 1) rfl rfl (by decide) rfl (fun ls hl => ?_)
      refine lv_goto (tgt := 26) hx hb dX9_write_51 (by decide) ?_
      rw [hrc] at hm
      exact ih _ _ hm _ _ _ hC (lv_sub hl [1, 0] rfl) hx54
set_option maxRecDepth 100000 in
set_option maxHeartbeats 4000000 in
theorem Rc_write (l : Launch) {D : va_G} {cy : Nat → ClassId} {ad : List Nat} {q : Nat → Nat} {X : va_W} (τ : RS) (a1 : Int32) {o : Int32 × RS} (hm : Rm_write τ a1 = some o) : GM l yX9_write cX9_write 3 (some .int) Rrm_write D cy (rwd cy q X) ad [.ref (q 0), .int a1] τ (some (.int o.1)) o.2 := by
  refine g_start RX9 rfl (by decide) (Nat.le_of_ble_eq_true rfl) ?_
  intro p e s m args below meth c fx hr hC ls hl
  have hx := fx.1
  have hb := fx.2.1
  have hR : 4 ≤ (Rrm_write).frames ∧ 93 ≤ (Rrm_write).locals := ⟨Nat.le_refl _, Nat.le_refl _⟩
  have hf : 0 ≤ (Rrm_write).cells ∧ 0 ≤ (Rrm_write).slots := ⟨Nat.zero_le _, Nat.zero_le _⟩
  have hl : lv_has ls 3 [(0, .ref (q 0)), (1, .int a1)] := hl
  unfold Rm_write at hm
  refine lv_aload_n hx hb dX9_write_0 rfl (lv_at hl 0 rfl) ?_
  refine lv_iload_n hx hb dX9_write_1 rfl (lv_at hl 1 rfl) ?_
  refine g_callVi (k0 := 0) (ci := 9) (As := [.int a1]) (rest := []) fx hC rw_w (Rc_isFamily l τ a1) k_449 Rk_isFamily Rh_isFamily rfl rfl rfl ⟨rfl, rfl⟩ ⟨Nat.le_trans (Nat.le_of_ble_eq_true rfl) hR.1, Nat.le_trans (Nat.le_of_ble_eq_true rfl) hR.2⟩ hf rfl hl.1 rfl (Nat.le_of_ble_eq_true rfl) dX9_write_2 (fun H locs hC => ?_)
  refine lv_if_ne (tgt := 11) hx hb dX9_write_5 (by decide) (fun c_1 => ?_) (fun c_1 => ?_)
  · replace hm := ifn hm c_1
    refine lv_aload_n hx hb dX9_write_11 rfl (lv_at hl 0 rfl) ?_
    refine lv_iload_n hx hb dX9_write_12 rfl (lv_at hl 1 rfl) ?_
    obtain ⟨τ_3, e_2, hm⟩ := b1_in hm
    refine g_callVv (k0 := 0) (ci := 9) (As := [.int a1]) (rest := []) fx hC rw_w (Rc_rowsOf l τ a1 e_2) k_913 Rk_rowsOf Rh_rowsOf rfl rfl rfl ⟨rfl, rfl⟩ ⟨Nat.le_trans (Nat.le_of_ble_eq_true rfl) hR.1, Nat.le_trans (Nat.le_of_ble_eq_true rfl) hR.2⟩ hf rfl hl.1 rfl (Nat.le_of_ble_eq_true rfl) dX9_write_13 (fun H locs hC => ?_)
    refine lv_aload_n hx hb dX9_write_16 rfl (lv_at hl 0 rfl) ?_
    refine lv_aload_n hx hb dX9_write_17 rfl (lv_at hl 0 rfl) ?_
    refine Rg_31 fx hC dX9_write_18 ?_
    refine Rp_9 fx hC dX9_write_21 (fun H locs hC => ?_)
    obtain ⟨τ_4, e_5⟩ : ∃ z, z = (rS τ_3 9 (τ_3.1 31)) := ⟨_, rfl⟩
    rw [← e_5] at hC
    replace hm := nm_in hm e_5
    refine lv_iconst (v := (0 : Int32)) hx hb dX9_write_24 (by decide) ?_
    refine lv_istore_n (lv' := [(2, .int (0 : Int32)), (0, .ref (q 0)), (1, .int a1)]) hx hb dX9_write_25 rfl hl (by decide) rfl (fun ls hl => ?_)
    refine Rw_write_26 fx hR hf fuel (0 : Int32) τ_4 hm _ _ _ hC (lv_sub hl [1, 0] rfl) (fun τ_11 H locs ls hm hC hl => ?_)
    refine lv_aload_n hx hb dX9_write_54 rfl (lv_at hl 0 rfl) ?_
    refine Rg_9 fx hC dX9_write_55 ?_
    cases hm
    exact g_iret fx hr hC rfl dX9_write_58
  · replace hm := ifp hm c_1
    refine lv_bipush (v := (-2 : Int32)) hx hb dX9_write_8 (by decide) ?_
    cases hm
    exact g_iret fx hr hC rfl dX9_write_10
def Rm_row (τ : RS) (a1 : Int32) (a2 : Int32) : Option Int32 :=
  if (Rm_in a1 (0 : Int32) ((τ.1 9) - (1 : Int32))) = (0 : Int32) then (some (-2 : Int32)) else (if (Rm_in a2 (0 : Int32) (3 : Int32)) = (0 : Int32) then (some (-2 : Int32)) else (gi (((4 : Int32) * a1) + a2) 4400 (some (τ.2 10 ((((4 : Int32) * a1) + a2)).toNatClampNeg))))
abbrev Rrm_row : Room := { frames := 1, cells := 0, slots := 0, locals := 22 }
set_option maxRecDepth 100000 in
set_option maxHeartbeats 4000000 in
theorem Rc_row (l : Launch) {D : va_G} {cy : Nat → ClassId} {ad : List Nat} {q : Nat → Nat} {X : va_W} (τ : RS) (a1 : Int32) (a2 : Int32) {o : Int32} (hm : Rm_row τ a1 a2 = some o) : GM l yX9_row cX9_row 3 (some .int) Rrm_row D cy (rwd cy q X) ad [.ref (q 0), .int a1, .int a2] τ (some (.int o)) τ := by
  refine g_start RX9 rfl (by decide) (Nat.le_of_ble_eq_true rfl) ?_
  intro p e s m args below meth c fx hr hC ls hl
  have hx := fx.1
  have hb := fx.2.1
  have hR : 1 ≤ (Rrm_row).frames ∧ 22 ≤ (Rrm_row).locals := ⟨Nat.le_refl _, Nat.le_refl _⟩
  have hf : 0 ≤ (Rrm_row).cells ∧ 0 ≤ (Rrm_row).slots := ⟨Nat.zero_le _, Nat.zero_le _⟩
  have hl : lv_has ls 3 [(0, .ref (q 0)), (1, .int a1), (2, .int a2)] := hl
  unfold Rm_row at hm
  refine lv_iload_n hx hb dX9_row_0 rfl (lv_at hl 1 rfl) ?_
  refine lv_iconst (v := (0 : Int32)) hx hb dX9_row_1 (by decide) ?_
  refine lv_aload_n hx hb dX9_row_2 rfl (lv_at hl 0 rfl) ?_
  refine Rg_9 fx hC dX9_row_3 ?_
  refine lv_iconst (v := (1 : Int32)) hx hb dX9_row_6 (by decide) ?_
  refine lv_isub hx hb dX9_row_7 ?_
  refine g_callSi (As := [.int a1, .int (0 : Int32), .int ((τ.1 9) - (1 : Int32))]) (rest := []) fx hC rw_w (Rc_in l rw_w τ a1 (0 : Int32) ((τ.1 9) - (1 : Int32))) k_140 Rk_in Rh_in ⟨rfl, rfl⟩ ⟨Nat.le_trans (Nat.le_of_ble_eq_true rfl) hR.1, Nat.le_trans (Nat.le_of_ble_eq_true rfl) hR.2⟩ hf rfl hl.1 rfl (Nat.le_of_ble_eq_true rfl) dX9_row_8 (fun H locs hC => ?_)
  refine lv_if_eq (tgt := 36) hx hb dX9_row_11 (by decide) (fun c_1 => ?_) (fun c_1 => ?_)
  · replace hm := ifp hm c_1
    refine lv_bipush (v := (-2 : Int32)) hx hb dX9_row_36 (by decide) ?_
    cases hm
    exact g_iret fx hr hC rfl dX9_row_38
  · replace hm := ifn hm c_1
    refine lv_iload_n hx hb dX9_row_14 rfl (lv_at hl 2 rfl) ?_
    refine lv_iconst (v := (0 : Int32)) hx hb dX9_row_15 (by decide) ?_
    refine lv_iconst (v := (3 : Int32)) hx hb dX9_row_16 (by decide) ?_
    refine g_callSi (As := [.int a2, .int (0 : Int32), .int (3 : Int32)]) (rest := []) fx hC rw_w (Rc_in l rw_w τ a2 (0 : Int32) (3 : Int32)) k_140 Rk_in Rh_in ⟨rfl, rfl⟩ ⟨Nat.le_trans (Nat.le_of_ble_eq_true rfl) hR.1, Nat.le_trans (Nat.le_of_ble_eq_true rfl) hR.2⟩ hf rfl hl.1 rfl (Nat.le_of_ble_eq_true rfl) dX9_row_17 (fun H locs hC => ?_)
    refine lv_if_eq (tgt := 36) hx hb dX9_row_20 (by decide) (fun c_2 => ?_) (fun c_2 => ?_)
    · replace hm := ifp hm c_2
      refine lv_bipush (v := (-2 : Int32)) hx hb dX9_row_36 (by decide) ?_
      cases hm
      exact g_iret fx hr hC rfl dX9_row_38
    · replace hm := ifn hm c_2
      refine lv_aload_n hx hb dX9_row_23 rfl (lv_at hl 0 rfl) ?_
      refine Rg_10 fx hC dX9_row_24 ?_
      refine lv_iconst (v := (4 : Int32)) hx hb dX9_row_27 (by decide) ?_
      refine lv_iload_n hx hb dX9_row_28 rfl (lv_at hl 1 rfl) ?_
      refine lv_imul hx hb dX9_row_29 ?_
      refine lv_iload_n hx hb dX9_row_30 rfl (lv_at hl 2 rfl) ?_
      refine lv_iadd hx hb dX9_row_31 ?_
      have h_3 := (gi_in hm).1
      replace hm := (gi_in hm).2
      refine Rl_10 fx hC h_3 dX9_row_32 ?_
      refine lv_goto (tgt := 38) hx hb dX9_row_33 (by decide) ?_
      cases hm
      exact g_iret fx hr hC rfl dX9_row_38
def Rm_forge (τ : RS) (a1 : Int32) (a2 : Int32) (a3 : Int32) : Option (Int32 × RS) :=
  if (Rm_in a1 (0 : Int32) ((τ.1 9) - (1 : Int32))) = (0 : Int32) then (some ((-2 : Int32), τ)) else (if (Rm_in a2 (0 : Int32) (3 : Int32)) = (0 : Int32) then (some ((-2 : Int32), τ)) else (gi (((4 : Int32) * a1) + a2) 4400 (nm (rA τ 10 ((((4 : Int32) * a1) + a2)).toNatClampNeg a3) (fun τ_4 => some ((1 : Int32), τ_4)))))
abbrev Rrm_forge : Room := { frames := 1, cells := 0, slots := 0, locals := 22 }
set_option maxRecDepth 100000 in
set_option maxHeartbeats 4000000 in
theorem Rc_forge (l : Launch) {D : va_G} {cy : Nat → ClassId} {ad : List Nat} {q : Nat → Nat} {X : va_W} (τ : RS) (a1 : Int32) (a2 : Int32) (a3 : Int32) {o : Int32 × RS} (hm : Rm_forge τ a1 a2 a3 = some o) : GM l yX9_forge cX9_forge 4 (some .int) Rrm_forge D cy (rwd cy q X) ad [.ref (q 0), .int a1, .int a2, .int a3] τ (some (.int o.1)) o.2 := by
  refine g_start RX9 rfl (by decide) (Nat.le_of_ble_eq_true rfl) ?_
  intro p e s m args below meth c fx hr hC ls hl
  have hx := fx.1
  have hb := fx.2.1
  have hR : 1 ≤ (Rrm_forge).frames ∧ 22 ≤ (Rrm_forge).locals := ⟨Nat.le_refl _, Nat.le_refl _⟩
  have hf : 0 ≤ (Rrm_forge).cells ∧ 0 ≤ (Rrm_forge).slots := ⟨Nat.zero_le _, Nat.zero_le _⟩
  have hl : lv_has ls 4 [(0, .ref (q 0)), (1, .int a1), (2, .int a2), (3, .int a3)] := hl
  unfold Rm_forge at hm
  refine lv_iload_n hx hb dX9_forge_0 rfl (lv_at hl 1 rfl) ?_
  refine lv_iconst (v := (0 : Int32)) hx hb dX9_forge_1 (by decide) ?_
  refine lv_aload_n hx hb dX9_forge_2 rfl (lv_at hl 0 rfl) ?_
  refine Rg_9 fx hC dX9_forge_3 ?_
  refine lv_iconst (v := (1 : Int32)) hx hb dX9_forge_6 (by decide) ?_
  refine lv_isub hx hb dX9_forge_7 ?_
  refine g_callSi (As := [.int a1, .int (0 : Int32), .int ((τ.1 9) - (1 : Int32))]) (rest := []) fx hC rw_w (Rc_in l rw_w τ a1 (0 : Int32) ((τ.1 9) - (1 : Int32))) k_140 Rk_in Rh_in ⟨rfl, rfl⟩ ⟨Nat.le_trans (Nat.le_of_ble_eq_true rfl) hR.1, Nat.le_trans (Nat.le_of_ble_eq_true rfl) hR.2⟩ hf rfl hl.1 rfl (Nat.le_of_ble_eq_true rfl) dX9_forge_8 (fun H locs hC => ?_)
  refine lv_if_eq (tgt := 23) hx hb dX9_forge_11 (by decide) (fun c_1 => ?_) (fun c_1 => ?_)
  · replace hm := ifp hm c_1
    refine lv_bipush (v := (-2 : Int32)) hx hb dX9_forge_23 (by decide) ?_
    cases hm
    exact g_iret fx hr hC rfl dX9_forge_25
  · replace hm := ifn hm c_1
    refine lv_iload_n hx hb dX9_forge_14 rfl (lv_at hl 2 rfl) ?_
    refine lv_iconst (v := (0 : Int32)) hx hb dX9_forge_15 (by decide) ?_
    refine lv_iconst (v := (3 : Int32)) hx hb dX9_forge_16 (by decide) ?_
    refine g_callSi (As := [.int a2, .int (0 : Int32), .int (3 : Int32)]) (rest := []) fx hC rw_w (Rc_in l rw_w τ a2 (0 : Int32) (3 : Int32)) k_140 Rk_in Rh_in ⟨rfl, rfl⟩ ⟨Nat.le_trans (Nat.le_of_ble_eq_true rfl) hR.1, Nat.le_trans (Nat.le_of_ble_eq_true rfl) hR.2⟩ hf rfl hl.1 rfl (Nat.le_of_ble_eq_true rfl) dX9_forge_17 (fun H locs hC => ?_)
    refine lv_if_ne (tgt := 26) hx hb dX9_forge_20 (by decide) (fun c_2 => ?_) (fun c_2 => ?_)
    · replace hm := ifn hm c_2
      refine lv_aload_n hx hb dX9_forge_26 rfl (lv_at hl 0 rfl) ?_
      refine Rg_10 fx hC dX9_forge_27 ?_
      refine lv_iconst (v := (4 : Int32)) hx hb dX9_forge_30 (by decide) ?_
      refine lv_iload_n hx hb dX9_forge_31 rfl (lv_at hl 1 rfl) ?_
      refine lv_imul hx hb dX9_forge_32 ?_
      refine lv_iload_n hx hb dX9_forge_33 rfl (lv_at hl 2 rfl) ?_
      refine lv_iadd hx hb dX9_forge_34 ?_
      refine lv_iload_n hx hb dX9_forge_35 rfl (lv_at hl 3 rfl) ?_
      have h_3 := (gi_in hm).1
      replace hm := (gi_in hm).2
      refine Rs_10 fx hC h_3 dX9_forge_36 (fun H locs hC => ?_)
      obtain ⟨τ_4, e_5⟩ : ∃ z, z = (rA τ 10 ((((4 : Int32) * a1) + a2)).toNatClampNeg a3) := ⟨_, rfl⟩
      rw [← e_5] at hC
      replace hm := nm_in hm e_5
      refine lv_iconst (v := (1 : Int32)) hx hb dX9_forge_37 (by decide) ?_
      cases hm
      exact g_iret fx hr hC rfl dX9_forge_38
    · replace hm := ifp hm c_2
      refine lv_bipush (v := (-2 : Int32)) hx hb dX9_forge_23 (by decide) ?_
      cases hm
      exact g_iret fx hr hC rfl dX9_forge_25
def Rm_isAbove (τ : RS) (a1 : Int32) (a2 : Int32) : Option Int32 :=
  if a2 < (0 : Int32) then (some (1 : Int32)) else (gi ((4 : Int32) * a2) 4400 (gi ((4 : Int32) * a1) 4400 (if (τ.2 10 (((4 : Int32) * a2)).toNatClampNeg) ≤ (τ.2 10 (((4 : Int32) * a1)).toNatClampNeg) then (some (0 : Int32)) else (some (1 : Int32)))))
abbrev Rrm_isAbove : Room := { frames := 0, cells := 0, slots := 0, locals := 0 }
set_option maxRecDepth 100000 in
set_option maxHeartbeats 4000000 in
theorem Rc_isAbove (l : Launch) {D : va_G} {cy : Nat → ClassId} {ad : List Nat} {q : Nat → Nat} {X : va_W} (τ : RS) (a1 : Int32) (a2 : Int32) {o : Int32} (hm : Rm_isAbove τ a1 a2 = some o) : GM l yX9_isAbove cX9_isAbove 3 (some .boolean) Rrm_isAbove D cy (rwd cy q X) ad [.ref (q 0), .int a1, .int a2] τ (some (.int o)) τ := by
  refine g_start RX9 rfl (by decide) (Nat.le_of_ble_eq_true rfl) ?_
  intro p e s m args below meth c fx hr hC ls hl
  have hx := fx.1
  have hb := fx.2.1
  have hR : 0 ≤ (Rrm_isAbove).frames ∧ 0 ≤ (Rrm_isAbove).locals := ⟨Nat.le_refl _, Nat.le_refl _⟩
  have hf : 0 ≤ (Rrm_isAbove).cells ∧ 0 ≤ (Rrm_isAbove).slots := ⟨Nat.zero_le _, Nat.zero_le _⟩
  have hl : lv_has ls 3 [(0, .ref (q 0)), (1, .int a1), (2, .int a2)] := hl
  unfold Rm_isAbove at hm
  refine lv_iload_n hx hb dX9_isAbove_0 rfl (lv_at hl 2 rfl) ?_
  refine lv_if_lt (tgt := 23) hx hb dX9_isAbove_1 (by decide) (fun c_1 => ?_) (fun c_1 => ?_)
  · replace hm := ifp hm c_1
    refine lv_iconst (v := (1 : Int32)) hx hb dX9_isAbove_23 (by decide) ?_
    refine lv_goto (tgt := 28) hx hb dX9_isAbove_24 (by decide) ?_
    cases hm
    exact g_zret fx hr rfl hC rfl dX9_isAbove_28
  · replace hm := ifn hm c_1
    refine lv_aload_n hx hb dX9_isAbove_4 rfl (lv_at hl 0 rfl) ?_
    refine Rg_10 fx hC dX9_isAbove_5 ?_
    refine lv_iconst (v := (4 : Int32)) hx hb dX9_isAbove_8 (by decide) ?_
    refine lv_iload_n hx hb dX9_isAbove_9 rfl (lv_at hl 2 rfl) ?_
    refine lv_imul hx hb dX9_isAbove_10 ?_
    have h_2 := (gi_in hm).1
    replace hm := (gi_in hm).2
    refine Rl_10 fx hC h_2 dX9_isAbove_11 ?_
    refine lv_aload_n hx hb dX9_isAbove_12 rfl (lv_at hl 0 rfl) ?_
    refine Rg_10 fx hC dX9_isAbove_13 ?_
    refine lv_iconst (v := (4 : Int32)) hx hb dX9_isAbove_16 (by decide) ?_
    refine lv_iload_n hx hb dX9_isAbove_17 rfl (lv_at hl 1 rfl) ?_
    refine lv_imul hx hb dX9_isAbove_18 ?_
    have h_3 := (gi_in hm).1
    replace hm := (gi_in hm).2
    refine Rl_10 fx hC h_3 dX9_isAbove_19 ?_
    refine lv_icmp_le (tgt := 27) hx hb dX9_isAbove_20 (by decide) (fun c_4 => ?_) (fun c_4 => ?_)
    · replace hm := ifp hm c_4
      refine lv_iconst (v := (0 : Int32)) hx hb dX9_isAbove_27 (by decide) ?_
      cases hm
      exact g_zret fx hr rfl hC rfl dX9_isAbove_28
    · replace hm := ifn hm c_4
      refine lv_iconst (v := (1 : Int32)) hx hb dX9_isAbove_23 (by decide) ?_
      refine lv_goto (tgt := 28) hx hb dX9_isAbove_24 (by decide) ?_
      cases hm
      exact g_zret fx hr rfl hC rfl dX9_isAbove_28
def Rm_rowCount (τ : RS) (a1 : Int32) : Option Int32 :=
  if a1 = (-1 : Int32) then (some (0 : Int32)) else (if a1 = (-2 : Int32) then (some (1 : Int32)) else (gi (((4 : Int32) * a1) + (3 : Int32)) 4400 (some (τ.2 10 ((((4 : Int32) * a1) + (3 : Int32))).toNatClampNeg))))
abbrev Rrm_rowCount : Room := { frames := 0, cells := 0, slots := 0, locals := 0 }
set_option maxRecDepth 100000 in
set_option maxHeartbeats 4000000 in
theorem Rc_rowCount (l : Launch) {D : va_G} {cy : Nat → ClassId} {ad : List Nat} {q : Nat → Nat} {X : va_W} (τ : RS) (a1 : Int32) {o : Int32} (hm : Rm_rowCount τ a1 = some o) : GM l yX9_rowCount cX9_rowCount 2 (some .int) Rrm_rowCount D cy (rwd cy q X) ad [.ref (q 0), .int a1] τ (some (.int o)) τ := by
  refine g_start RX9 rfl (by decide) (Nat.le_of_ble_eq_true rfl) ?_
  intro p e s m args below meth c fx hr hC ls hl
  have hx := fx.1
  have hb := fx.2.1
  have hR : 0 ≤ (Rrm_rowCount).frames ∧ 0 ≤ (Rrm_rowCount).locals := ⟨Nat.le_refl _, Nat.le_refl _⟩
  have hf : 0 ≤ (Rrm_rowCount).cells ∧ 0 ≤ (Rrm_rowCount).slots := ⟨Nat.zero_le _, Nat.zero_le _⟩
  have hl : lv_has ls 2 [(0, .ref (q 0)), (1, .int a1)] := hl
  unfold Rm_rowCount at hm
  refine lv_iload_n hx hb dX9_rowCount_0 rfl (lv_at hl 1 rfl) ?_
  refine lv_iconst (v := (-1 : Int32)) hx hb dX9_rowCount_1 (by decide) ?_
  refine lv_icmp_ne (tgt := 9) hx hb dX9_rowCount_2 (by decide) (fun c_1 => ?_) (fun c_1 => ?_)
  · replace hm := ifn hm c_1
    refine lv_iload_n hx hb dX9_rowCount_9 rfl (lv_at hl 1 rfl) ?_
    refine lv_bipush (v := (-2 : Int32)) hx hb dX9_rowCount_10 (by decide) ?_
    refine lv_icmp_ne (tgt := 19) hx hb dX9_rowCount_12 (by decide) (fun c_2 => ?_) (fun c_2 => ?_)
    · replace hm := ifn hm c_2
      refine lv_aload_n hx hb dX9_rowCount_19 rfl (lv_at hl 0 rfl) ?_
      refine Rg_10 fx hC dX9_rowCount_20 ?_
      refine lv_iconst (v := (4 : Int32)) hx hb dX9_rowCount_23 (by decide) ?_
      refine lv_iload_n hx hb dX9_rowCount_24 rfl (lv_at hl 1 rfl) ?_
      refine lv_imul hx hb dX9_rowCount_25 ?_
      refine lv_iconst (v := (3 : Int32)) hx hb dX9_rowCount_26 (by decide) ?_
      refine lv_iadd hx hb dX9_rowCount_27 ?_
      have h_3 := (gi_in hm).1
      replace hm := (gi_in hm).2
      refine Rl_10 fx hC h_3 dX9_rowCount_28 ?_
      cases hm
      exact g_iret fx hr hC rfl dX9_rowCount_29
    · replace hm := ifp hm c_2
      refine lv_iconst (v := (1 : Int32)) hx hb dX9_rowCount_15 (by decide) ?_
      refine lv_goto (tgt := 29) hx hb dX9_rowCount_16 (by decide) ?_
      cases hm
      exact g_iret fx hr hC rfl dX9_rowCount_29
  · replace hm := ifp hm c_1
    refine lv_iconst (v := (0 : Int32)) hx hb dX9_rowCount_5 (by decide) ?_
    refine lv_goto (tgt := 29) hx hb dX9_rowCount_6 (by decide) ?_
    cases hm
    exact g_iret fx hr hC rfl dX9_rowCount_29
def Rs_wrong_95 {ρ : Type} (p1 : Int32) (p2 : Int32) (p3 : Int32) (τ : RS) (kx151 : Option ρ) (kx159 : Option ρ) (rc : Int32 → Option ρ) (v4 : Int32) : Option ρ :=
  if p1 ≤ v4 then (kx159) else (gi ((4 : Int32) * v4) 4400 (gi ((4 : Int32) * p1) 4400 (if (τ.2 10 (((4 : Int32) * v4)).toNatClampNeg) = (τ.2 10 (((4 : Int32) * p1)).toNatClampNeg) then (gi (((4 : Int32) * v4) + (1 : Int32)) 4400 (if (τ.2 10 ((((4 : Int32) * v4) + (1 : Int32))).toNatClampNeg) = p2 then (gi (((4 : Int32) * v4) + (2 : Int32)) 4400 (if (τ.2 10 ((((4 : Int32) * v4) + (2 : Int32))).toNatClampNeg) = p3 then (kx151) else (rc (v4 + (1 : Int32))))) else (rc (v4 + (1 : Int32))))) else (rc (v4 + (1 : Int32))))))
def Rm_wrong (τ : RS) (a1 : Int32) : Option Int32 :=
  gi (((4 : Int32) * a1) + (1 : Int32)) 4400 (nm (τ.2 10 ((((4 : Int32) * a1) + (1 : Int32))).toNatClampNeg) (fun x_2 => gi (((4 : Int32) * a1) + (2 : Int32)) 4400 (nm (τ.2 10 ((((4 : Int32) * a1) + (2 : Int32))).toNatClampNeg) (fun x_4 => gi ((4 : Int32) * a1) 4400 (if (Rm_in (τ.2 10 (((4 : Int32) * a1)).toNatClampNeg) (0 : Int32) (11 : Int32)) = (0 : Int32) then (some (1 : Int32)) else (if (Rm_in x_2 (-2 : Int32) (a1 - (1 : Int32))) = (0 : Int32) then (some (1 : Int32)) else (if (Rm_in x_4 (-2 : Int32) (a1 - (1 : Int32))) = (0 : Int32) then (some (1 : Int32)) else (b1 (Rm_isAbove τ a1 x_2) (fun r_10 => if r_10 = (0 : Int32) then (some (2 : Int32)) else (b1 (Rm_isAbove τ a1 x_4) (fun r_13 => if r_13 = (0 : Int32) then (some (2 : Int32)) else (if x_4 = (-1 : Int32) then (some (3 : Int32)) else (it1 (Rs_wrong_95 a1 x_2 x_4 τ (some (4 : Int32)) (gi (((4 : Int32) * a1) + (3 : Int32)) 4400 (b1 (Rm_rowCount τ x_2) (fun r_26 => b1 (Rm_rowCount τ x_4) (fun r_28 => if (τ.2 10 ((((4 : Int32) * a1) + (3 : Int32))).toNatClampNeg) = (r_26 + r_28) then (some (0 : Int32)) else (some (5 : Int32))))))) fuel (0 : Int32))))))))))))))
abbrev Rrm_wrong : Room := { frames := 1, cells := 0, slots := 0, locals := 22 }
set_option maxRecDepth 100000 in
set_option maxHeartbeats 4000000 in
theorem Rw_wrong_95 {ρ : Type} {out : ρ} {p : Program} {l : Launch} {e : Env} {R : Room} {s : State} {m : MethodId} {args : Array Value} {below : List Frame} {meth : Method} {c : Code} {cells slots : Nat} {Q : State → Prop} {D : va_G} {cy : Nat → ClassId} {ad : List Nat} {q : Nat → Nat} {X : va_W} (τ : RS) (fx : FX p s m args meth c cX9_wrong 5 RX9 D cy) (hR : 1 ≤ R.frames ∧ 22 ≤ R.locals) (hf : cells ≤ R.cells ∧ slots ≤ R.slots) (p1 : Int32) (p2 : Int32) (p3 : Int32) {kx151 : Option ρ} {kx159 : Option ρ} :
    ∀ (n : Nat) (v4 : Int32), it1 (Rs_wrong_95 p1 p2 p3 τ kx151 kx159) n v4 = some out → ∀ (H : Heap) (locs : List Loc) (ls : Array Slot), GC D (rwd cy q X) ad s τ H locs → lv_has ls 5 [(0, .ref (q 0)), (1, .int p1), (2, .int p2), (3, .int p3), (4, .int v4)] → (∀ (H : Heap) (locs : List Loc) (ls : Array Slot), kx151 = some out → GC D (rwd cy q X) ad s τ H locs → lv_has ls 5 [] → W p l e R s m args below meth c H locs cells slots Q (F0 m 151 ls [])) → (∀ (H : Heap) (locs : List Loc) (ls : Array Slot), kx159 = some out → GC D (rwd cy q X) ad s τ H locs → lv_has ls 5 [(0, .ref (q 0)), (1, .int p1), (2, .int p2), (3, .int p3)] → W p l e R s m args below meth c H locs cells slots Q (F0 m 159 ls [])) → W p l e R s m args below meth c H locs cells slots Q (F0 m 95 ls []) := by
  have hx := fx.1
  have hb := fx.2.1
  intro n
  induction n with
  | zero => intro v4 hm; exact (it1_z hm).elim
  | succ n ih =>
    intro v4 hm H locs ls hC hl hx151 hx159
    obtain ⟨rc, hrc⟩ : ∃ z, z = it1 (Rs_wrong_95 p1 p2 p3 τ kx151 kx159) n := ⟨_, rfl⟩
    replace hm : Rs_wrong_95 p1 p2 p3 τ kx151 kx159 rc v4 = some out := by rw [hrc]; exact hm
    unfold Rs_wrong_95 at hm
    refine lv_iload hx hb dX9_wrong_95 (lv_at hl 4 rfl) ?_
    refine lv_iload_n hx hb dX9_wrong_97 rfl (lv_at hl 1 rfl) ?_
    refine lv_icmp_ge (tgt := 159) hx hb dX9_wrong_98 (by decide) (fun c_16 => ?_) (fun c_16 => ?_)
    · replace hm := ifp hm c_16
      exact hx159 _ _ _ hm hC (lv_sub hl [0, 1, 2, 3] rfl)
    · replace hm := ifn hm c_16
      refine lv_aload_n hx hb dX9_wrong_101 rfl (lv_at hl 0 rfl) ?_
      refine Rg_10 fx hC dX9_wrong_102 ?_
      refine lv_iconst (v := (4 : Int32)) hx hb dX9_wrong_105 (by decide) ?_
      refine lv_iload hx hb dX9_wrong_106 (lv_at hl 4 rfl) ?_
      refine lv_imul hx hb dX9_wrong_108 ?_
      have h_17 := (gi_in hm).1
      replace hm := (gi_in hm).2
      refine Rl_10 fx hC h_17 dX9_wrong_109 ?_
      refine lv_aload_n hx hb dX9_wrong_110 rfl (lv_at hl 0 rfl) ?_
      refine Rg_10 fx hC dX9_wrong_111 ?_
      refine lv_iconst (v := (4 : Int32)) hx hb dX9_wrong_114 (by decide) ?_
      refine lv_iload_n hx hb dX9_wrong_115 rfl (lv_at hl 1 rfl) ?_
      refine lv_imul hx hb dX9_wrong_116 ?_
      have h_18 := (gi_in hm).1
      replace hm := (gi_in hm).2
      refine Rl_10 fx hC h_18 dX9_wrong_117 ?_
      refine lv_icmp_ne (tgt := 153) hx hb dX9_wrong_118 (by decide) (fun c_19 => ?_) (fun c_19 => ?_)
      · replace hm := ifn hm c_19
        refine lv_iinc (v := (v4 + (1 : Int32))) (lv' := [(4, .int (v4 + (1 : Int32))), (0, .ref (q 0)), (1, .int p1), (2, .int p2), (3, .int p3)]) hx hb dX9_wrong_153 hl (k := 4) rfl rfl (by decide) rfl (fun ls hl => ?_)
        refine lv_goto (tgt := 95) hx hb dX9_wrong_156 (by decide) ?_
        rw [hrc] at hm
        exact ih _ hm _ _ _ hC (lv_sub hl [1, 2, 3, 4, 0] rfl) hx151 hx159
      · replace hm := ifp hm c_19
        refine lv_aload_n hx hb dX9_wrong_121 rfl (lv_at hl 0 rfl) ?_
        refine Rg_10 fx hC dX9_wrong_122 ?_
        refine lv_iconst (v := (4 : Int32)) hx hb dX9_wrong_125 (by decide) ?_
        refine lv_iload hx hb dX9_wrong_126 (lv_at hl 4 rfl) ?_
        refine lv_imul hx hb dX9_wrong_128 ?_
        refine lv_iconst (v := (1 : Int32)) hx hb dX9_wrong_129 (by decide) ?_
        refine lv_iadd hx hb dX9_wrong_130 ?_
        have h_20 := (gi_in hm).1
        replace hm := (gi_in hm).2
        refine Rl_10 fx hC h_20 dX9_wrong_131 ?_
        refine lv_iload_n hx hb dX9_wrong_132 rfl (lv_at hl 2 rfl) ?_
        refine lv_icmp_ne (tgt := 153) hx hb dX9_wrong_133 (by decide) (fun c_21 => ?_) (fun c_21 => ?_)
        · replace hm := ifn hm c_21
          refine lv_iinc (v := (v4 + (1 : Int32))) (lv' := [(4, .int (v4 + (1 : Int32))), (0, .ref (q 0)), (1, .int p1), (2, .int p2), (3, .int p3)]) hx hb dX9_wrong_153 hl (k := 4) rfl rfl (by decide) rfl (fun ls hl => ?_)
          refine lv_goto (tgt := 95) hx hb dX9_wrong_156 (by decide) ?_
          rw [hrc] at hm
          exact ih _ hm _ _ _ hC (lv_sub hl [1, 2, 3, 4, 0] rfl) hx151 hx159
        · replace hm := ifp hm c_21
          refine lv_aload_n hx hb dX9_wrong_136 rfl (lv_at hl 0 rfl) ?_
          refine Rg_10 fx hC dX9_wrong_137 ?_
          refine lv_iconst (v := (4 : Int32)) hx hb dX9_wrong_140 (by decide) ?_
          refine lv_iload hx hb dX9_wrong_141 (lv_at hl 4 rfl) ?_
          refine lv_imul hx hb dX9_wrong_143 ?_
          refine lv_iconst (v := (2 : Int32)) hx hb dX9_wrong_144 (by decide) ?_
          refine lv_iadd hx hb dX9_wrong_145 ?_
          have h_22 := (gi_in hm).1
          replace hm := (gi_in hm).2
          refine Rl_10 fx hC h_22 dX9_wrong_146 ?_
          refine lv_iload_n hx hb dX9_wrong_147 rfl (lv_at hl 3 rfl) ?_
          refine lv_icmp_ne (tgt := 153) hx hb dX9_wrong_148 (by decide) (fun c_23 => ?_) (fun c_23 => ?_)
          · replace hm := ifn hm c_23
            refine lv_iinc (v := (v4 + (1 : Int32))) (lv' := [(4, .int (v4 + (1 : Int32))), (0, .ref (q 0)), (1, .int p1), (2, .int p2), (3, .int p3)]) hx hb dX9_wrong_153 hl (k := 4) rfl rfl (by decide) rfl (fun ls hl => ?_)
            refine lv_goto (tgt := 95) hx hb dX9_wrong_156 (by decide) ?_
            rw [hrc] at hm
            exact ih _ hm _ _ _ hC (lv_sub hl [1, 2, 3, 4, 0] rfl) hx151 hx159
          · replace hm := ifp hm c_23
            exact hx151 _ _ _ hm hC (lv_sub hl [] rfl)
set_option maxRecDepth 100000 in
set_option maxHeartbeats 4000000 in
theorem Rc_wrong (l : Launch) {D : va_G} {cy : Nat → ClassId} {ad : List Nat} {q : Nat → Nat} {X : va_W} (τ : RS) (a1 : Int32) {o : Int32} (hm : Rm_wrong τ a1 = some o) : GM l yX9_wrong cX9_wrong 5 (some .int) Rrm_wrong D cy (rwd cy q X) ad [.ref (q 0), .int a1] τ (some (.int o)) τ := by
  refine g_start RX9 rfl (by decide) (Nat.le_of_ble_eq_true rfl) ?_
  intro p e s m args below meth c fx hr hC ls hl
  have hx := fx.1
  have hb := fx.2.1
  have hR : 1 ≤ (Rrm_wrong).frames ∧ 22 ≤ (Rrm_wrong).locals := ⟨Nat.le_refl _, Nat.le_refl _⟩
  have hf : 0 ≤ (Rrm_wrong).cells ∧ 0 ≤ (Rrm_wrong).slots := ⟨Nat.zero_le _, Nat.zero_le _⟩
  have hl : lv_has ls 5 [(0, .ref (q 0)), (1, .int a1)] := hl
  unfold Rm_wrong at hm
  refine lv_aload_n hx hb dX9_wrong_0 rfl (lv_at hl 0 rfl) ?_
  refine Rg_10 fx hC dX9_wrong_1 ?_
  refine lv_iconst (v := (4 : Int32)) hx hb dX9_wrong_4 (by decide) ?_
  refine lv_iload_n hx hb dX9_wrong_5 rfl (lv_at hl 1 rfl) ?_
  refine lv_imul hx hb dX9_wrong_6 ?_
  refine lv_iconst (v := (1 : Int32)) hx hb dX9_wrong_7 (by decide) ?_
  refine lv_iadd hx hb dX9_wrong_8 ?_
  have h_1 := (gi_in hm).1
  replace hm := (gi_in hm).2
  refine Rl_10 fx hC h_1 dX9_wrong_9 ?_
  refine lv_topi (fun x_2 ex_2 => ?_)
  replace hm := nm_in hm ex_2
  refine lv_istore_n (lv' := [(2, .int x_2), (0, .ref (q 0)), (1, .int a1)]) hx hb dX9_wrong_10 rfl hl (by decide) rfl (fun ls hl => ?_)
  refine lv_aload_n hx hb dX9_wrong_11 rfl (lv_at hl 1 rfl) ?_
  refine Rg_10 fx hC dX9_wrong_12 ?_
  refine lv_iconst (v := (4 : Int32)) hx hb dX9_wrong_15 (by decide) ?_
  refine lv_iload_n hx hb dX9_wrong_16 rfl (lv_at hl 2 rfl) ?_
  refine lv_imul hx hb dX9_wrong_17 ?_
  refine lv_iconst (v := (2 : Int32)) hx hb dX9_wrong_18 (by decide) ?_
  refine lv_iadd hx hb dX9_wrong_19 ?_
  have h_3 := (gi_in hm).1
  replace hm := (gi_in hm).2
  refine Rl_10 fx hC h_3 dX9_wrong_20 ?_
  refine lv_topi (fun x_4 ex_4 => ?_)
  replace hm := nm_in hm ex_4
  refine lv_istore_n (lv' := [(3, .int x_4), (2, .int x_2), (0, .ref (q 0)), (1, .int a1)]) hx hb dX9_wrong_21 rfl hl (by decide) rfl (fun ls hl => ?_)
  refine lv_aload_n hx hb dX9_wrong_22 rfl (lv_at hl 2 rfl) ?_
  refine Rg_10 fx hC dX9_wrong_23 ?_
  refine lv_iconst (v := (4 : Int32)) hx hb dX9_wrong_26 (by decide) ?_
  refine lv_iload_n hx hb dX9_wrong_27 rfl (lv_at hl 3 rfl) ?_
  refine lv_imul hx hb dX9_wrong_28 ?_
  have h_5 := (gi_in hm).1
  replace hm := (gi_in hm).2
  refine Rl_10 fx hC h_5 dX9_wrong_29 ?_
  refine lv_iconst (v := (0 : Int32)) hx hb dX9_wrong_30 (by decide) ?_
  refine lv_bipush (v := (11 : Int32)) hx hb dX9_wrong_31 (by decide) ?_
  refine g_callSi (As := [.int (τ.2 10 (((4 : Int32) * a1)).toNatClampNeg), .int (0 : Int32), .int (11 : Int32)]) (rest := []) fx hC rw_w (Rc_in l rw_w τ (τ.2 10 (((4 : Int32) * a1)).toNatClampNeg) (0 : Int32) (11 : Int32)) k_140 Rk_in Rh_in ⟨rfl, rfl⟩ ⟨Nat.le_trans (Nat.le_of_ble_eq_true rfl) hR.1, Nat.le_trans (Nat.le_of_ble_eq_true rfl) hR.2⟩ hf rfl hl.1 rfl (Nat.le_of_ble_eq_true rfl) dX9_wrong_33 (fun H locs hC => ?_)
  refine lv_if_eq (tgt := 63) hx hb dX9_wrong_36 (by decide) (fun c_6 => ?_) (fun c_6 => ?_)
  · replace hm := ifp hm c_6
    refine lv_iconst (v := (1 : Int32)) hx hb dX9_wrong_63 (by decide) ?_
    cases hm
    exact g_iret fx hr hC rfl dX9_wrong_64
  · replace hm := ifn hm c_6
    refine lv_iload_n hx hb dX9_wrong_39 rfl (lv_at hl 1 rfl) ?_
    refine lv_bipush (v := (-2 : Int32)) hx hb dX9_wrong_40 (by decide) ?_
    refine lv_iload_n hx hb dX9_wrong_42 rfl (lv_at hl 3 rfl) ?_
    refine lv_iconst (v := (1 : Int32)) hx hb dX9_wrong_43 (by decide) ?_
    refine lv_isub hx hb dX9_wrong_44 ?_
    refine g_callSi (As := [.int x_2, .int (-2 : Int32), .int (a1 - (1 : Int32))]) (rest := []) fx hC rw_w (Rc_in l rw_w τ x_2 (-2 : Int32) (a1 - (1 : Int32))) k_140 Rk_in Rh_in ⟨rfl, rfl⟩ ⟨Nat.le_trans (Nat.le_of_ble_eq_true rfl) hR.1, Nat.le_trans (Nat.le_of_ble_eq_true rfl) hR.2⟩ hf rfl hl.1 rfl (Nat.le_of_ble_eq_true rfl) dX9_wrong_45 (fun H locs hC => ?_)
    refine lv_if_eq (tgt := 63) hx hb dX9_wrong_48 (by decide) (fun c_7 => ?_) (fun c_7 => ?_)
    · replace hm := ifp hm c_7
      refine lv_iconst (v := (1 : Int32)) hx hb dX9_wrong_63 (by decide) ?_
      cases hm
      exact g_iret fx hr hC rfl dX9_wrong_64
    · replace hm := ifn hm c_7
      refine lv_iload_n hx hb dX9_wrong_51 rfl (lv_at hl 0 rfl) ?_
      refine lv_bipush (v := (-2 : Int32)) hx hb dX9_wrong_52 (by decide) ?_
      refine lv_iload_n hx hb dX9_wrong_54 rfl (lv_at hl 3 rfl) ?_
      refine lv_iconst (v := (1 : Int32)) hx hb dX9_wrong_55 (by decide) ?_
      refine lv_isub hx hb dX9_wrong_56 ?_
      refine g_callSi (As := [.int x_4, .int (-2 : Int32), .int (a1 - (1 : Int32))]) (rest := []) fx hC rw_w (Rc_in l rw_w τ x_4 (-2 : Int32) (a1 - (1 : Int32))) k_140 Rk_in Rh_in ⟨rfl, rfl⟩ ⟨Nat.le_trans (Nat.le_of_ble_eq_true rfl) hR.1, Nat.le_trans (Nat.le_of_ble_eq_true rfl) hR.2⟩ hf rfl hl.1 rfl (Nat.le_of_ble_eq_true rfl) dX9_wrong_57 (fun H locs hC => ?_)
      refine lv_if_ne (tgt := 65) hx hb dX9_wrong_60 (by decide) (fun c_8 => ?_) (fun c_8 => ?_)
      · replace hm := ifn hm c_8
        refine lv_aload_n hx hb dX9_wrong_65 rfl (lv_at hl 2 rfl) ?_
        refine lv_iload_n hx hb dX9_wrong_66 rfl (lv_at hl 3 rfl) ?_
        refine lv_iload_n hx hb dX9_wrong_67 rfl (lv_at hl 1 rfl) ?_
        obtain ⟨r_10, e_9, hm⟩ := b1_in hm
        refine g_callVi (k0 := 0) (ci := 9) (As := [.int a1, .int x_2]) (rest := []) fx hC rw_w (Rc_isAbove l τ a1 x_2 e_9) k_978 Rk_isAbove Rh_isAbove rfl rfl rfl ⟨rfl, rfl⟩ ⟨Nat.le_trans (Nat.le_of_ble_eq_true rfl) hR.1, Nat.le_trans (Nat.le_of_ble_eq_true rfl) hR.2⟩ hf rfl hl.1 rfl (Nat.le_of_ble_eq_true rfl) dX9_wrong_68 (fun H locs hC => ?_)
        refine lv_if_eq (tgt := 83) hx hb dX9_wrong_71 (by decide) (fun c_11 => ?_) (fun c_11 => ?_)
        · replace hm := ifp hm c_11
          refine lv_iconst (v := (2 : Int32)) hx hb dX9_wrong_83 (by decide) ?_
          cases hm
          exact g_iret fx hr hC rfl dX9_wrong_84
        · replace hm := ifn hm c_11
          refine lv_aload_n hx hb dX9_wrong_74 rfl (lv_at hl 2 rfl) ?_
          refine lv_iload_n hx hb dX9_wrong_75 rfl (lv_at hl 3 rfl) ?_
          refine lv_iload_n hx hb dX9_wrong_76 rfl (lv_at hl 0 rfl) ?_
          obtain ⟨r_13, e_12, hm⟩ := b1_in hm
          refine g_callVi (k0 := 0) (ci := 9) (As := [.int a1, .int x_4]) (rest := []) fx hC rw_w (Rc_isAbove l τ a1 x_4 e_12) k_978 Rk_isAbove Rh_isAbove rfl rfl rfl ⟨rfl, rfl⟩ ⟨Nat.le_trans (Nat.le_of_ble_eq_true rfl) hR.1, Nat.le_trans (Nat.le_of_ble_eq_true rfl) hR.2⟩ hf rfl hl.1 rfl (Nat.le_of_ble_eq_true rfl) dX9_wrong_77 (fun H locs hC => ?_)
          refine lv_if_ne (tgt := 85) hx hb dX9_wrong_80 (by decide) (fun c_14 => ?_) (fun c_14 => ?_)
          · replace hm := ifn hm c_14
            refine lv_iload_n hx hb dX9_wrong_85 rfl (lv_at hl 0 rfl) ?_
            refine lv_iconst (v := (-1 : Int32)) hx hb dX9_wrong_86 (by decide) ?_
            refine lv_icmp_ne (tgt := 92) hx hb dX9_wrong_87 (by decide) (fun c_15 => ?_) (fun c_15 => ?_)
            · replace hm := ifn hm c_15
              refine lv_iconst (v := (0 : Int32)) hx hb dX9_wrong_92 (by decide) ?_
              refine lv_istore (lv' := [(4, .int (0 : Int32)), (3, .int x_4), (2, .int x_2), (0, .ref (q 0)), (1, .int a1)]) hx hb dX9_wrong_93 hl (by decide) rfl (fun ls hl => ?_)
              refine Rw_wrong_95 τ fx hR hf a1 x_2 x_4 fuel (0 : Int32) hm _ _ _ hC (lv_sub hl [3, 4, 2, 1, 0] rfl) (fun  H locs ls hm hC hl => ?_) (fun  H locs ls hm hC hl => ?_)
              · refine lv_iconst (v := (4 : Int32)) hx hb dX9_wrong_151 (by decide) ?_
                cases hm
                exact g_iret fx hr hC rfl dX9_wrong_152
              · refine lv_aload_n hx hb dX9_wrong_159 rfl (lv_at hl 0 rfl) ?_
                refine Rg_10 fx hC dX9_wrong_160 ?_
                refine lv_iconst (v := (4 : Int32)) hx hb dX9_wrong_163 (by decide) ?_
                refine lv_iload_n hx hb dX9_wrong_164 rfl (lv_at hl 1 rfl) ?_
                refine lv_imul hx hb dX9_wrong_165 ?_
                refine lv_iconst (v := (3 : Int32)) hx hb dX9_wrong_166 (by decide) ?_
                refine lv_iadd hx hb dX9_wrong_167 ?_
                have h_24 := (gi_in hm).1
                replace hm := (gi_in hm).2
                refine Rl_10 fx hC h_24 dX9_wrong_168 ?_
                refine lv_aload_n hx hb dX9_wrong_169 rfl (lv_at hl 0 rfl) ?_
                refine lv_iload_n hx hb dX9_wrong_170 rfl (lv_at hl 2 rfl) ?_
                obtain ⟨r_26, e_25, hm⟩ := b1_in hm
                refine g_callVi (k0 := 0) (ci := 9) (As := [.int x_2]) (rest := [.int (τ.2 10 ((((4 : Int32) * a1) + (3 : Int32))).toNatClampNeg)]) fx hC rw_w (Rc_rowCount l τ x_2 e_25) k_982 Rk_rowCount Rh_rowCount rfl rfl rfl ⟨rfl, rfl⟩ ⟨Nat.le_trans (Nat.le_of_ble_eq_true rfl) hR.1, Nat.le_trans (Nat.le_of_ble_eq_true rfl) hR.2⟩ hf rfl hl.1 rfl (Nat.le_of_ble_eq_true rfl) dX9_wrong_171 (fun H locs hC => ?_)
                refine lv_aload_n hx hb dX9_wrong_174 rfl (lv_at hl 0 rfl) ?_
                refine lv_iload_n hx hb dX9_wrong_175 rfl (lv_at hl 3 rfl) ?_
                obtain ⟨r_28, e_27, hm⟩ := b1_in hm
                refine g_callVi (k0 := 0) (ci := 9) (As := [.int x_4]) (rest := [.int r_26, .int (τ.2 10 ((((4 : Int32) * a1) + (3 : Int32))).toNatClampNeg)]) fx hC rw_w (Rc_rowCount l τ x_4 e_27) k_982 Rk_rowCount Rh_rowCount rfl rfl rfl ⟨rfl, rfl⟩ ⟨Nat.le_trans (Nat.le_of_ble_eq_true rfl) hR.1, Nat.le_trans (Nat.le_of_ble_eq_true rfl) hR.2⟩ hf rfl hl.1 rfl (Nat.le_of_ble_eq_true rfl) dX9_wrong_176 (fun H locs hC => ?_)
                refine lv_iadd hx hb dX9_wrong_179 ?_
                refine lv_icmp_eq (tgt := 187) hx hb dX9_wrong_180 (by decide) (fun c_29 => ?_) (fun c_29 => ?_)
                · replace hm := ifp hm c_29
                  refine lv_iconst (v := (0 : Int32)) hx hb dX9_wrong_187 (by decide) ?_
                  cases hm
                  exact g_iret fx hr hC rfl dX9_wrong_188
                · replace hm := ifn hm c_29
                  refine lv_iconst (v := (5 : Int32)) hx hb dX9_wrong_183 (by decide) ?_
                  refine lv_goto (tgt := 188) hx hb dX9_wrong_184 (by decide) ?_
                  cases hm
                  exact g_iret fx hr hC rfl dX9_wrong_188
            · replace hm := ifp hm c_15
              refine lv_iconst (v := (3 : Int32)) hx hb dX9_wrong_90 (by decide) ?_
              cases hm
              exact g_iret fx hr hC rfl dX9_wrong_91
          · replace hm := ifp hm c_14
            refine lv_iconst (v := (2 : Int32)) hx hb dX9_wrong_83 (by decide) ?_
            cases hm
            exact g_iret fx hr hC rfl dX9_wrong_84
      · replace hm := ifp hm c_8
        refine lv_iconst (v := (1 : Int32)) hx hb dX9_wrong_63 (by decide) ?_
        cases hm
        exact g_iret fx hr hC rfl dX9_wrong_64
def Rs_check_13 {ρ : Type} (p1 : Int32) (τ : RS) (kx31 : Int32 → Int32 → Option ρ) (kx44 : Option ρ) (rc : Int32 → Option ρ) (v2 : Int32) : Option ρ :=
  if (τ.1 9) ≤ v2 then (kx44) else (b1 (Rm_wrong τ v2) (fun r_4 => if r_4 = (0 : Int32) then (rc (v2 + (1 : Int32))) else (kx31 v2 r_4)))
def Rs_check_68 {ρ : Type} (τ : RS) (kx109 : Int32 → Option ρ) (rc : Int32 → Int32 → Option ρ) (v2 : Int32) (v3 : Int32) : Option ρ :=
  if v2 = (0 : Int32) then (kx109 v2) else (if ((4 : Int32) * (τ.1 9)) ≤ v3 then (kx109 v2) else (gi v3 4400 (gi v3 4400 (if (τ.2 10 (v3).toNatClampNeg) = (τ.2 30 (v3).toNatClampNeg) then (rc (1 : Int32) (v3 + (1 : Int32))) else (rc (0 : Int32) (v3 + (1 : Int32)))))))
def Rm_check (τ : RS) (a1 : Int32) : Option (Int32 × RS) :=
  if (Rm_isFamily τ a1) = (0 : Int32) then (some ((-2 : Int32), τ)) else (it1 (Rs_check_13 a1 τ (fun u_6 u_7 => some ((((8 : Int32) * u_6) + u_7), τ)) (b1 (Rm_rowsOf τ a1) (fun τ_9 => if (τ_9.1 31) = (τ_9.1 9) then (it2 (Rs_check_68 τ_9 (fun u_18 => if u_18 = (0 : Int32) then (some ((-3 : Int32), τ_9)) else (some ((-1 : Int32), τ_9)))) fuel (1 : Int32) (0 : Int32)) else (it2 (Rs_check_68 τ_9 (fun u_16 => if u_16 = (0 : Int32) then (some ((-3 : Int32), τ_9)) else (some ((-1 : Int32), τ_9)))) fuel (0 : Int32) (0 : Int32))))) fuel (0 : Int32))
abbrev Rrm_check : Room := { frames := 4, cells := 0, slots := 0, locals := 93 }
set_option maxRecDepth 100000 in
set_option maxHeartbeats 4000000 in
theorem Rw_check_13 {ρ : Type} {out : ρ} {p : Program} {l : Launch} {e : Env} {R : Room} {s : State} {m : MethodId} {args : Array Value} {below : List Frame} {meth : Method} {c : Code} {cells slots : Nat} {Q : State → Prop} {D : va_G} {cy : Nat → ClassId} {ad : List Nat} {q : Nat → Nat} {X : va_W} (τ : RS) (fx : FX p s m args meth c cX9_check 4 RX9 D cy) (hR : 4 ≤ R.frames ∧ 93 ≤ R.locals) (hf : cells ≤ R.cells ∧ slots ≤ R.slots) (p1 : Int32) {kx31 : Int32 → Int32 → Option ρ} {kx44 : Option ρ} :
    ∀ (n : Nat) (v2 : Int32), it1 (Rs_check_13 p1 τ kx31 kx44) n v2 = some out → ∀ (H : Heap) (locs : List Loc) (ls : Array Slot), GC D (rwd cy q X) ad s τ H locs → lv_has ls 4 [(0, .ref (q 0)), (1, .int p1), (2, .int v2)] → (∀ (u2 : Int32) (u3 : Int32) (H : Heap) (locs : List Loc) (ls : Array Slot), kx31 u2 u3 = some out → GC D (rwd cy q X) ad s τ H locs → lv_has ls 4 [(2, .int u2), (3, .int u3)] → W p l e R s m args below meth c H locs cells slots Q (F0 m 31 ls [])) → (∀ (H : Heap) (locs : List Loc) (ls : Array Slot), kx44 = some out → GC D (rwd cy q X) ad s τ H locs → lv_has ls 4 [(0, .ref (q 0)), (1, .int p1)] → W p l e R s m args below meth c H locs cells slots Q (F0 m 44 ls [])) → W p l e R s m args below meth c H locs cells slots Q (F0 m 13 ls []) := by
  have hx := fx.1
  have hb := fx.2.1
  intro n
  induction n with
  | zero => intro v2 hm; exact (it1_z hm).elim
  | succ n ih =>
    intro v2 hm H locs ls hC hl hx31 hx44
    obtain ⟨rc, hrc⟩ : ∃ z, z = it1 (Rs_check_13 p1 τ kx31 kx44) n := ⟨_, rfl⟩
    replace hm : Rs_check_13 p1 τ kx31 kx44 rc v2 = some out := by rw [hrc]; exact hm
    unfold Rs_check_13 at hm
    refine lv_iload_n hx hb dX9_check_13 rfl (lv_at hl 2 rfl) ?_
    refine lv_aload_n hx hb dX9_check_14 rfl (lv_at hl 0 rfl) ?_
    refine Rg_9 fx hC dX9_check_15 ?_
    refine lv_icmp_ge (tgt := 44) hx hb dX9_check_18 (by decide) (fun c_2 => ?_) (fun c_2 => ?_)
    · replace hm := ifp hm c_2
      exact hx44 _ _ _ hm hC (lv_sub hl [0, 1] rfl)
    · replace hm := ifn hm c_2
      refine lv_aload_n hx hb dX9_check_21 rfl (lv_at hl 0 rfl) ?_
      refine lv_iload_n hx hb dX9_check_22 rfl (lv_at hl 2 rfl) ?_
      obtain ⟨r_4, e_3, hm⟩ := b1_in hm
      refine g_callVi (k0 := 0) (ci := 9) (As := [.int v2]) (rest := []) fx hC rw_w (Rc_wrong l τ v2 e_3) k_974 Rk_wrong Rh_wrong rfl rfl rfl ⟨rfl, rfl⟩ ⟨Nat.le_trans (Nat.le_of_ble_eq_true rfl) hR.1, Nat.le_trans (Nat.le_of_ble_eq_true rfl) hR.2⟩ hf rfl hl.1 rfl (Nat.le_of_ble_eq_true rfl) dX9_check_23 (fun H locs hC => ?_)
      refine lv_istore_n (lv' := [(3, .int r_4), (0, .ref (q 0)), (1, .int p1), (2, .int v2)]) hx hb dX9_check_26 rfl hl (by decide) rfl (fun ls hl => ?_)
      refine lv_iload_n hx hb dX9_check_27 rfl (lv_at hl 0 rfl) ?_
      refine lv_if_eq (tgt := 38) hx hb dX9_check_28 (by decide) (fun c_5 => ?_) (fun c_5 => ?_)
      · replace hm := ifp hm c_5
        refine lv_iinc (v := (v2 + (1 : Int32))) (lv' := [(2, .int (v2 + (1 : Int32))), (3, .int r_4), (0, .ref (q 0)), (1, .int p1)]) hx hb dX9_check_38 hl (k := 3) rfl rfl (by decide) rfl (fun ls hl => ?_)
        refine lv_goto (tgt := 13) hx hb dX9_check_41 (by decide) ?_
        rw [hrc] at hm
        exact ih _ hm _ _ _ hC (lv_sub hl [2, 3, 0] rfl) hx31 hx44
      · replace hm := ifn hm c_5
        exact hx31 _ _ _ _ _ hm hC (lv_sub hl [3, 0] rfl)
set_option maxRecDepth 100000 in
set_option maxHeartbeats 4000000 in
theorem Rw_check_68 {ρ : Type} {out : ρ} {p : Program} {l : Launch} {e : Env} {R : Room} {s : State} {m : MethodId} {args : Array Value} {below : List Frame} {meth : Method} {c : Code} {cells slots : Nat} {Q : State → Prop} {D : va_G} {cy : Nat → ClassId} {ad : List Nat} {q : Nat → Nat} {X : va_W} (τ : RS) (fx : FX p s m args meth c cX9_check 4 RX9 D cy) (hR : 4 ≤ R.frames ∧ 93 ≤ R.locals) (hf : cells ≤ R.cells ∧ slots ≤ R.slots) {kx109 : Int32 → Option ρ} :
    ∀ (n : Nat) (v2 : Int32) (v3 : Int32), it2 (Rs_check_68 τ kx109) n v2 v3 = some out → ∀ (H : Heap) (locs : List Loc) (ls : Array Slot), GC D (rwd cy q X) ad s τ H locs → lv_has ls 4 [(0, .ref (q 0)), (2, .int v2), (3, .int v3)] → (∀ (u2 : Int32) (H : Heap) (locs : List Loc) (ls : Array Slot), kx109 u2 = some out → GC D (rwd cy q X) ad s τ H locs → lv_has ls 4 [(2, .int u2)] → W p l e R s m args below meth c H locs cells slots Q (F0 m 109 ls [])) → W p l e R s m args below meth c H locs cells slots Q (F0 m 68 ls []) := by
  have hx := fx.1
  have hb := fx.2.1
  intro n
  induction n with
  | zero => intro v2 v3 hm; exact (it2_z hm).elim
  | succ n ih =>
    intro v2 v3 hm H locs ls hC hl hx109
    obtain ⟨rc, hrc⟩ : ∃ z, z = it2 (Rs_check_68 τ kx109) n := ⟨_, rfl⟩
    replace hm : Rs_check_68 τ kx109 rc v2 v3 = some out := by rw [hrc]; exact hm
    unfold Rs_check_68 at hm
    refine lv_iload_n hx hb dX9_check_68 rfl (lv_at hl 1 rfl) ?_
    refine lv_if_eq (tgt := 109) hx hb dX9_check_69 (by decide) (fun c_11 => ?_) (fun c_11 => ?_)
    · replace hm := ifp hm c_11
      exact hx109 _ _ _ _ hm hC (lv_sub hl [1] rfl)
    · replace hm := ifn hm c_11
      refine lv_iload_n hx hb dX9_check_72 rfl (lv_at hl 2 rfl) ?_
      refine lv_iconst (v := (4 : Int32)) hx hb dX9_check_73 (by decide) ?_
      refine lv_aload_n hx hb dX9_check_74 rfl (lv_at hl 0 rfl) ?_
      refine Rg_9 fx hC dX9_check_75 ?_
      refine lv_imul hx hb dX9_check_78 ?_
      refine lv_icmp_ge (tgt := 109) hx hb dX9_check_79 (by decide) (fun c_12 => ?_) (fun c_12 => ?_)
      · replace hm := ifp hm c_12
        exact hx109 _ _ _ _ hm hC (lv_sub hl [1] rfl)
      · replace hm := ifn hm c_12
        refine lv_aload_n hx hb dX9_check_82 rfl (lv_at hl 0 rfl) ?_
        refine Rg_10 fx hC dX9_check_83 ?_
        refine lv_iload_n hx hb dX9_check_86 rfl (lv_at hl 2 rfl) ?_
        have h_13 := (gi_in hm).1
        replace hm := (gi_in hm).2
        refine Rl_10 fx hC h_13 dX9_check_87 ?_
        refine lv_aload_n hx hb dX9_check_88 rfl (lv_at hl 0 rfl) ?_
        refine Rg_30 fx hC dX9_check_89 ?_
        refine lv_iload_n hx hb dX9_check_92 rfl (lv_at hl 2 rfl) ?_
        have h_14 := (gi_in hm).1
        replace hm := (gi_in hm).2
        refine Rl_30 fx hC h_14 dX9_check_93 ?_
        refine lv_icmp_ne (tgt := 101) hx hb dX9_check_94 (by decide) (fun c_15 => ?_) (fun c_15 => ?_)
        · replace hm := ifn hm c_15
          refine lv_iconst (v := (0 : Int32)) hx hb dX9_check_101 (by decide) ?_
          refine lv_istore_n (lv' := [(2, .int (0 : Int32)), (0, .ref (q 0)), (3, .int v3)]) hx hb dX9_check_102 rfl hl (by decide) rfl (fun ls hl => ?_)
          refine lv_iinc (v := (v3 + (1 : Int32))) (lv' := [(3, .int (v3 + (1 : Int32))), (2, .int (0 : Int32)), (0, .ref (q 0))]) hx hb dX9_check_103 hl (k := 2) rfl rfl (by decide) rfl (fun ls hl => ?_)
          refine lv_goto (tgt := 68) hx hb dX9_check_106 (by decide) ?_
          rw [hrc] at hm
          exact ih _ _ hm _ _ _ hC (lv_sub hl [2, 1, 0] rfl) hx109
        · replace hm := ifp hm c_15
          refine lv_iconst (v := (1 : Int32)) hx hb dX9_check_97 (by decide) ?_
          refine lv_goto (tgt := 102) hx hb dX9_check_98 (by decide) ?_
          refine lv_istore_n (lv' := [(2, .int (1 : Int32)), (0, .ref (q 0)), (3, .int v3)]) hx hb dX9_check_102 rfl hl (by decide) rfl (fun ls hl => ?_)
          refine lv_iinc (v := (v3 + (1 : Int32))) (lv' := [(3, .int (v3 + (1 : Int32))), (2, .int (1 : Int32)), (0, .ref (q 0))]) hx hb dX9_check_103 hl (k := 2) rfl rfl (by decide) rfl (fun ls hl => ?_)
          refine lv_goto (tgt := 68) hx hb dX9_check_106 (by decide) ?_
          rw [hrc] at hm
          exact ih _ _ hm _ _ _ hC (lv_sub hl [2, 1, 0] rfl) hx109
set_option maxRecDepth 100000 in
set_option maxHeartbeats 4000000 in
theorem Rc_check (l : Launch) {D : va_G} {cy : Nat → ClassId} {ad : List Nat} {q : Nat → Nat} {X : va_W} (τ : RS) (a1 : Int32) {o : Int32 × RS} (hm : Rm_check τ a1 = some o) : GM l yX9_check cX9_check 4 (some .int) Rrm_check D cy (rwd cy q X) ad [.ref (q 0), .int a1] τ (some (.int o.1)) o.2 := by
  refine g_start RX9 rfl (by decide) (Nat.le_of_ble_eq_true rfl) ?_
  intro p e s m args below meth c fx hr hC ls hl
  have hx := fx.1
  have hb := fx.2.1
  have hR : 4 ≤ (Rrm_check).frames ∧ 93 ≤ (Rrm_check).locals := ⟨Nat.le_refl _, Nat.le_refl _⟩
  have hf : 0 ≤ (Rrm_check).cells ∧ 0 ≤ (Rrm_check).slots := ⟨Nat.zero_le _, Nat.zero_le _⟩
  have hl : lv_has ls 4 [(0, .ref (q 0)), (1, .int a1)] := hl
  unfold Rm_check at hm
  refine lv_aload_n hx hb dX9_check_0 rfl (lv_at hl 0 rfl) ?_
  refine lv_iload_n hx hb dX9_check_1 rfl (lv_at hl 1 rfl) ?_
  refine g_callVi (k0 := 0) (ci := 9) (As := [.int a1]) (rest := []) fx hC rw_w (Rc_isFamily l τ a1) k_449 Rk_isFamily Rh_isFamily rfl rfl rfl ⟨rfl, rfl⟩ ⟨Nat.le_trans (Nat.le_of_ble_eq_true rfl) hR.1, Nat.le_trans (Nat.le_of_ble_eq_true rfl) hR.2⟩ hf rfl hl.1 rfl (Nat.le_of_ble_eq_true rfl) dX9_check_2 (fun H locs hC => ?_)
  refine lv_if_ne (tgt := 11) hx hb dX9_check_5 (by decide) (fun c_1 => ?_) (fun c_1 => ?_)
  · replace hm := ifn hm c_1
    refine lv_iconst (v := (0 : Int32)) hx hb dX9_check_11 (by decide) ?_
    refine lv_istore_n (lv' := [(2, .int (0 : Int32)), (0, .ref (q 0)), (1, .int a1)]) hx hb dX9_check_12 rfl hl (by decide) rfl (fun ls hl => ?_)
    refine Rw_check_13 τ fx hR hf a1 fuel (0 : Int32) hm _ _ _ hC (lv_sub hl [1, 2, 0] rfl) (fun u_6 u_7 H locs ls hm hC hl => ?_) (fun  H locs ls hm hC hl => ?_)
    · refine lv_bipush (v := (8 : Int32)) hx hb dX9_check_31 (by decide) ?_
      refine lv_iload_n hx hb dX9_check_33 rfl (lv_at hl 0 rfl) ?_
      refine lv_imul hx hb dX9_check_34 ?_
      refine lv_iload_n hx hb dX9_check_35 rfl (lv_at hl 1 rfl) ?_
      refine lv_iadd hx hb dX9_check_36 ?_
      cases hm
      exact g_iret fx hr hC rfl dX9_check_37
    · refine lv_aload_n hx hb dX9_check_44 rfl (lv_at hl 0 rfl) ?_
      refine lv_iload_n hx hb dX9_check_45 rfl (lv_at hl 1 rfl) ?_
      obtain ⟨τ_9, e_8, hm⟩ := b1_in hm
      refine g_callVv (k0 := 0) (ci := 9) (As := [.int a1]) (rest := []) fx hC rw_w (Rc_rowsOf l τ a1 e_8) k_913 Rk_rowsOf Rh_rowsOf rfl rfl rfl ⟨rfl, rfl⟩ ⟨Nat.le_trans (Nat.le_of_ble_eq_true rfl) hR.1, Nat.le_trans (Nat.le_of_ble_eq_true rfl) hR.2⟩ hf rfl hl.1 rfl (Nat.le_of_ble_eq_true rfl) dX9_check_46 (fun H locs hC => ?_)
      refine lv_aload_n hx hb dX9_check_49 rfl (lv_at hl 0 rfl) ?_
      refine Rg_31 fx hC dX9_check_50 ?_
      refine lv_aload_n hx hb dX9_check_53 rfl (lv_at hl 0 rfl) ?_
      refine Rg_9 fx hC dX9_check_54 ?_
      refine lv_icmp_ne (tgt := 64) hx hb dX9_check_57 (by decide) (fun c_10 => ?_) (fun c_10 => ?_)
      · replace hm := ifn hm c_10
        refine lv_iconst (v := (0 : Int32)) hx hb dX9_check_64 (by decide) ?_
        refine lv_istore_n (lv' := [(2, .int (0 : Int32)), (0, .ref (q 0)), (1, .int a1)]) hx hb dX9_check_65 rfl hl (by decide) rfl (fun ls hl => ?_)
        refine lv_iconst (v := (0 : Int32)) hx hb dX9_check_66 (by decide) ?_
        refine lv_istore_n (lv' := [(3, .int (0 : Int32)), (2, .int (0 : Int32)), (0, .ref (q 0)), (1, .int a1)]) hx hb dX9_check_67 rfl hl (by decide) rfl (fun ls hl => ?_)
        refine Rw_check_68 τ_9 fx hR hf fuel (0 : Int32) (0 : Int32) hm _ _ _ hC (lv_sub hl [2, 1, 0] rfl) (fun u_16 H locs ls hm hC hl => ?_)
        refine lv_iload_n hx hb dX9_check_109 rfl (lv_at hl 0 rfl) ?_
        refine lv_if_eq (tgt := 117) hx hb dX9_check_110 (by decide) (fun c_17 => ?_) (fun c_17 => ?_)
        · replace hm := ifp hm c_17
          refine lv_bipush (v := (-3 : Int32)) hx hb dX9_check_117 (by decide) ?_
          cases hm
          exact g_iret fx hr hC rfl dX9_check_119
        · replace hm := ifn hm c_17
          refine lv_iconst (v := (-1 : Int32)) hx hb dX9_check_113 (by decide) ?_
          refine lv_goto (tgt := 119) hx hb dX9_check_114 (by decide) ?_
          cases hm
          exact g_iret fx hr hC rfl dX9_check_119
      · replace hm := ifp hm c_10
        refine lv_iconst (v := (1 : Int32)) hx hb dX9_check_60 (by decide) ?_
        refine lv_goto (tgt := 65) hx hb dX9_check_61 (by decide) ?_
        refine lv_istore_n (lv' := [(2, .int (1 : Int32)), (0, .ref (q 0)), (1, .int a1)]) hx hb dX9_check_65 rfl hl (by decide) rfl (fun ls hl => ?_)
        refine lv_iconst (v := (0 : Int32)) hx hb dX9_check_66 (by decide) ?_
        refine lv_istore_n (lv' := [(3, .int (0 : Int32)), (2, .int (1 : Int32)), (0, .ref (q 0)), (1, .int a1)]) hx hb dX9_check_67 rfl hl (by decide) rfl (fun ls hl => ?_)
        refine Rw_check_68 τ_9 fx hR hf fuel (1 : Int32) (0 : Int32) hm _ _ _ hC (lv_sub hl [2, 1, 0] rfl) (fun u_18 H locs ls hm hC hl => ?_)
        refine lv_iload_n hx hb dX9_check_109 rfl (lv_at hl 0 rfl) ?_
        refine lv_if_eq (tgt := 117) hx hb dX9_check_110 (by decide) (fun c_19 => ?_) (fun c_19 => ?_)
        · replace hm := ifp hm c_19
          refine lv_bipush (v := (-3 : Int32)) hx hb dX9_check_117 (by decide) ?_
          cases hm
          exact g_iret fx hr hC rfl dX9_check_119
        · replace hm := ifn hm c_19
          refine lv_iconst (v := (-1 : Int32)) hx hb dX9_check_113 (by decide) ?_
          refine lv_goto (tgt := 119) hx hb dX9_check_114 (by decide) ?_
          cases hm
          exact g_iret fx hr hC rfl dX9_check_119
  · replace hm := ifp hm c_1
    refine lv_bipush (v := (-2 : Int32)) hx hb dX9_check_8 (by decide) ?_
    cases hm
    exact g_iret fx hr hC rfl dX9_check_10
def Rs_sheet_70 {ρ : Type} (p1 : Int32) (kx96 : RS → Option ρ) (rc : Int32 → RS → Option ρ) (v4 : Int32) (τ : RS) : Option ρ :=
  if (40 : Int32) ≤ v4 then (kx96  τ) else (gi (((40 : Int32) * p1) + v4) 240 (nm (rA τ 13 ((((40 : Int32) * p1) + v4)).toNatClampNeg (0 : Int32)) (fun τ_14 => rc (v4 + (1 : Int32)) τ_14)))
def Rm_sheet (τ : RS) (a1 : Int32) (a2 : Int32) (a3 : Int32) : Option (Int32 × RS) :=
  if (Rm_in a1 (0 : Int32) (5 : Int32)) = (0 : Int32) then (some ((-2 : Int32), τ)) else (if (Rm_in a2 (-1 : Int32) (2 : Int32)) = (0 : Int32) then (some ((-2 : Int32), τ)) else (if a2 = (-1 : Int32) then (gi a1 6 (nm (rA τ 11 (a1).toNatClampNeg a2) (fun τ_6 => gi a1 6 (nm (rA τ_6 12 (a1).toNatClampNeg (0 : Int32)) (fun τ_10 => it2 (Rs_sheet_70 a1 (fun τ_16 => some ((1 : Int32), τ_16))) fuel (0 : Int32) τ_10))))) else (if a3 ≤ (40 : Int32) then (if (0 : Int32) ≤ a3 then (gi a1 6 (nm (rA τ 11 (a1).toNatClampNeg a2) (fun τ_21 => gi a1 6 (nm (rA τ_21 12 (a1).toNatClampNeg a3) (fun τ_25 => it2 (Rs_sheet_70 a1 (fun τ_27 => some ((1 : Int32), τ_27))) fuel (0 : Int32) τ_25))))) else (some ((-14 : Int32), τ))) else (some ((-2 : Int32), τ)))))
abbrev Rrm_sheet : Room := { frames := 1, cells := 0, slots := 0, locals := 22 }
set_option maxRecDepth 100000 in
set_option maxHeartbeats 4000000 in
theorem Rw_sheet_70 {ρ : Type} {out : ρ} {p : Program} {l : Launch} {e : Env} {R : Room} {s : State} {m : MethodId} {args : Array Value} {below : List Frame} {meth : Method} {c : Code} {cells slots : Nat} {Q : State → Prop} {D : va_G} {cy : Nat → ClassId} {ad : List Nat} {q : Nat → Nat} {X : va_W} (fx : FX p s m args meth c cX9_sheet 5 RX9 D cy) (hR : 1 ≤ R.frames ∧ 22 ≤ R.locals) (hf : cells ≤ R.cells ∧ slots ≤ R.slots) (p1 : Int32) {kx96 : RS → Option ρ} :
    ∀ (n : Nat) (v4 : Int32) (τ : RS), it2 (Rs_sheet_70 p1 kx96) n v4 τ = some out → ∀ (H : Heap) (locs : List Loc) (ls : Array Slot), GC D (rwd cy q X) ad s τ H locs → lv_has ls 5 [(0, .ref (q 0)), (1, .int p1), (4, .int v4)] → (∀ (τ2 : RS) (H : Heap) (locs : List Loc) (ls : Array Slot), kx96 τ2 = some out → GC D (rwd cy q X) ad s τ2 H locs → lv_has ls 5 [] → W p l e R s m args below meth c H locs cells slots Q (F0 m 96 ls [])) → W p l e R s m args below meth c H locs cells slots Q (F0 m 70 ls []) := by
  have hx := fx.1
  have hb := fx.2.1
  intro n
  induction n with
  | zero => intro v4 τ hm; exact (it2_z hm).elim
  | succ n ih =>
    intro v4 τ hm H locs ls hC hl hx96
    obtain ⟨rc, hrc⟩ : ∃ z, z = it2 (Rs_sheet_70 p1 kx96) n := ⟨_, rfl⟩
    replace hm : Rs_sheet_70 p1 kx96 rc v4 τ = some out := by rw [hrc]; exact hm
    unfold Rs_sheet_70 at hm
    refine lv_iload hx hb dX9_sheet_70 (lv_at hl 2 rfl) ?_
    refine lv_bipush (v := (40 : Int32)) hx hb dX9_sheet_72 (by decide) ?_
    refine lv_icmp_ge (tgt := 96) hx hb dX9_sheet_74 (by decide) (fun c_12 => ?_) (fun c_12 => ?_)
    · replace hm := ifp hm c_12
      exact hx96 _ _ _ _ hm hC (lv_sub hl [] rfl)
    · replace hm := ifn hm c_12
      refine lv_aload_n hx hb dX9_sheet_77 rfl (lv_at hl 0 rfl) ?_
      refine Rg_13 fx hC dX9_sheet_78 ?_
      refine lv_bipush (v := (40 : Int32)) hx hb dX9_sheet_81 (by decide) ?_
      refine lv_iload_n hx hb dX9_sheet_83 rfl (lv_at hl 1 rfl) ?_
      refine lv_imul hx hb dX9_sheet_84 ?_
      refine lv_iload hx hb dX9_sheet_85 (lv_at hl 2 rfl) ?_
      refine lv_iadd hx hb dX9_sheet_87 ?_
      refine lv_iconst (v := (0 : Int32)) hx hb dX9_sheet_88 (by decide) ?_
      have h_13 := (gi_in hm).1
      replace hm := (gi_in hm).2
      refine Rs_13 fx hC h_13 dX9_sheet_89 (fun H locs hC => ?_)
      obtain ⟨τ_14, e_15⟩ : ∃ z, z = (rA τ 13 ((((40 : Int32) * p1) + v4)).toNatClampNeg (0 : Int32)) := ⟨_, rfl⟩
      rw [← e_15] at hC
      replace hm := nm_in hm e_15
      refine lv_iinc (v := (v4 + (1 : Int32))) (lv' := [(4, .int (v4 + (1 : Int32))), (0, .ref (q 0)), (1, .int p1)]) hx hb dX9_sheet_90 hl (k := 2) rfl rfl (by decide) rfl (fun ls hl => ?_)
      refine lv_goto (tgt := 70) hx hb dX9_sheet_93 (by decide) ?_
      rw [hrc] at hm
      exact ih _ _ hm _ _ _ hC (lv_sub hl [1, 2, 0] rfl) hx96
set_option maxRecDepth 100000 in
set_option maxHeartbeats 4000000 in
theorem Rc_sheet (l : Launch) {D : va_G} {cy : Nat → ClassId} {ad : List Nat} {q : Nat → Nat} {X : va_W} (τ : RS) (a1 : Int32) (a2 : Int32) (a3 : Int32) {o : Int32 × RS} (hm : Rm_sheet τ a1 a2 a3 = some o) : GM l yX9_sheet cX9_sheet 5 (some .int) Rrm_sheet D cy (rwd cy q X) ad [.ref (q 0), .int a1, .int a2, .int a3] τ (some (.int o.1)) o.2 := by
  refine g_start RX9 rfl (by decide) (Nat.le_of_ble_eq_true rfl) ?_
  intro p e s m args below meth c fx hr hC ls hl
  have hx := fx.1
  have hb := fx.2.1
  have hR : 1 ≤ (Rrm_sheet).frames ∧ 22 ≤ (Rrm_sheet).locals := ⟨Nat.le_refl _, Nat.le_refl _⟩
  have hf : 0 ≤ (Rrm_sheet).cells ∧ 0 ≤ (Rrm_sheet).slots := ⟨Nat.zero_le _, Nat.zero_le _⟩
  have hl : lv_has ls 5 [(0, .ref (q 0)), (1, .int a1), (2, .int a2), (3, .int a3)] := hl
  unfold Rm_sheet at hm
  refine lv_iload_n hx hb dX9_sheet_0 rfl (lv_at hl 1 rfl) ?_
  refine lv_iconst (v := (0 : Int32)) hx hb dX9_sheet_1 (by decide) ?_
  refine lv_iconst (v := (5 : Int32)) hx hb dX9_sheet_2 (by decide) ?_
  refine g_callSi (As := [.int a1, .int (0 : Int32), .int (5 : Int32)]) (rest := []) fx hC rw_w (Rc_in l rw_w τ a1 (0 : Int32) (5 : Int32)) k_140 Rk_in Rh_in ⟨rfl, rfl⟩ ⟨Nat.le_trans (Nat.le_of_ble_eq_true rfl) hR.1, Nat.le_trans (Nat.le_of_ble_eq_true rfl) hR.2⟩ hf rfl hl.1 rfl (Nat.le_of_ble_eq_true rfl) dX9_sheet_3 (fun H locs hC => ?_)
  refine lv_if_eq (tgt := 29) hx hb dX9_sheet_6 (by decide) (fun c_1 => ?_) (fun c_1 => ?_)
  · replace hm := ifp hm c_1
    refine lv_bipush (v := (-2 : Int32)) hx hb dX9_sheet_29 (by decide) ?_
    cases hm
    exact g_iret fx hr hC rfl dX9_sheet_31
  · replace hm := ifn hm c_1
    refine lv_iload_n hx hb dX9_sheet_9 rfl (lv_at hl 2 rfl) ?_
    refine lv_iconst (v := (-1 : Int32)) hx hb dX9_sheet_10 (by decide) ?_
    refine lv_iconst (v := (2 : Int32)) hx hb dX9_sheet_11 (by decide) ?_
    refine g_callSi (As := [.int a2, .int (-1 : Int32), .int (2 : Int32)]) (rest := []) fx hC rw_w (Rc_in l rw_w τ a2 (-1 : Int32) (2 : Int32)) k_140 Rk_in Rh_in ⟨rfl, rfl⟩ ⟨Nat.le_trans (Nat.le_of_ble_eq_true rfl) hR.1, Nat.le_trans (Nat.le_of_ble_eq_true rfl) hR.2⟩ hf rfl hl.1 rfl (Nat.le_of_ble_eq_true rfl) dX9_sheet_12 (fun H locs hC => ?_)
    refine lv_if_eq (tgt := 29) hx hb dX9_sheet_15 (by decide) (fun c_2 => ?_) (fun c_2 => ?_)
    · replace hm := ifp hm c_2
      refine lv_bipush (v := (-2 : Int32)) hx hb dX9_sheet_29 (by decide) ?_
      cases hm
      exact g_iret fx hr hC rfl dX9_sheet_31
    · replace hm := ifn hm c_2
      refine lv_iload_n hx hb dX9_sheet_18 rfl (lv_at hl 2 rfl) ?_
      refine lv_iconst (v := (-1 : Int32)) hx hb dX9_sheet_19 (by decide) ?_
      refine lv_icmp_eq (tgt := 32) hx hb dX9_sheet_20 (by decide) (fun c_3 => ?_) (fun c_3 => ?_)
      · replace hm := ifp hm c_3
        refine lv_iload_n hx hb dX9_sheet_32 rfl (lv_at hl 2 rfl) ?_
        refine lv_iconst (v := (-1 : Int32)) hx hb dX9_sheet_33 (by decide) ?_
        refine lv_icmp_eq (tgt := 44) hx hb dX9_sheet_34 (by decide) (fun c_4 => ?_) (fun c_4 => ?_)
        · refine lv_aload_n hx hb dX9_sheet_44 rfl (lv_at hl 0 rfl) ?_
          refine Rg_11 fx hC dX9_sheet_45 ?_
          refine lv_iload_n hx hb dX9_sheet_48 rfl (lv_at hl 1 rfl) ?_
          refine lv_iload_n hx hb dX9_sheet_49 rfl (lv_at hl 2 rfl) ?_
          have h_5 := (gi_in hm).1
          replace hm := (gi_in hm).2
          refine Rs_11 fx hC h_5 dX9_sheet_50 (fun H locs hC => ?_)
          obtain ⟨τ_6, e_7⟩ : ∃ z, z = (rA τ 11 (a1).toNatClampNeg a2) := ⟨_, rfl⟩
          rw [← e_7] at hC
          replace hm := nm_in hm e_7
          refine lv_aload_n hx hb dX9_sheet_51 rfl (lv_at hl 0 rfl) ?_
          refine Rg_12 fx hC dX9_sheet_52 ?_
          refine lv_iload_n hx hb dX9_sheet_55 rfl (lv_at hl 1 rfl) ?_
          refine lv_iload_n hx hb dX9_sheet_56 rfl (lv_at hl 2 rfl) ?_
          refine lv_iconst (v := (-1 : Int32)) hx hb dX9_sheet_57 (by decide) ?_
          refine lv_icmp_ne (tgt := 65) hx hb dX9_sheet_58 (by decide) (fun c_8 => ?_) (fun c_8 => ?_)
          · exact absurd c_3 c_8
          · refine lv_iconst (v := (0 : Int32)) hx hb dX9_sheet_61 (by decide) ?_
            refine lv_goto (tgt := 66) hx hb dX9_sheet_62 (by decide) ?_
            have h_9 := (gi_in hm).1
            replace hm := (gi_in hm).2
            refine Rs_12 fx hC h_9 dX9_sheet_66 (fun H locs hC => ?_)
            obtain ⟨τ_10, e_11⟩ : ∃ z, z = (rA τ_6 12 (a1).toNatClampNeg (0 : Int32)) := ⟨_, rfl⟩
            rw [← e_11] at hC
            replace hm := nm_in hm e_11
            refine lv_iconst (v := (0 : Int32)) hx hb dX9_sheet_67 (by decide) ?_
            refine lv_istore (lv' := [(4, .int (0 : Int32)), (0, .ref (q 0)), (1, .int a1), (2, .int a2), (3, .int a3)]) hx hb dX9_sheet_68 hl (by decide) rfl (fun ls hl => ?_)
            refine Rw_sheet_70 fx hR hf a1 fuel (0 : Int32) τ_10 hm _ _ _ hC (lv_sub hl [1, 2, 0] rfl) (fun τ_16 H locs ls hm hC hl => ?_)
            refine lv_iconst (v := (1 : Int32)) hx hb dX9_sheet_96 (by decide) ?_
            cases hm
            exact g_iret fx hr hC rfl dX9_sheet_97
        · exact absurd c_3 c_4
      · replace hm := ifn hm c_3
        refine lv_iload_n hx hb dX9_sheet_23 rfl (lv_at hl 3 rfl) ?_
        refine lv_bipush (v := (40 : Int32)) hx hb dX9_sheet_24 (by decide) ?_
        refine lv_icmp_le (tgt := 32) hx hb dX9_sheet_26 (by decide) (fun c_17 => ?_) (fun c_17 => ?_)
        · replace hm := ifp hm c_17
          refine lv_iload_n hx hb dX9_sheet_32 rfl (lv_at hl 2 rfl) ?_
          refine lv_iconst (v := (-1 : Int32)) hx hb dX9_sheet_33 (by decide) ?_
          refine lv_icmp_eq (tgt := 44) hx hb dX9_sheet_34 (by decide) (fun c_18 => ?_) (fun c_18 => ?_)
          · exact absurd c_18 c_3
          · refine lv_iload_n hx hb dX9_sheet_37 rfl (lv_at hl 3 rfl) ?_
            refine lv_if_ge (tgt := 44) hx hb dX9_sheet_38 (by decide) (fun c_19 => ?_) (fun c_19 => ?_)
            · replace hm := ifp hm c_19
              refine lv_aload_n hx hb dX9_sheet_44 rfl (lv_at hl 0 rfl) ?_
              refine Rg_11 fx hC dX9_sheet_45 ?_
              refine lv_iload_n hx hb dX9_sheet_48 rfl (lv_at hl 1 rfl) ?_
              refine lv_iload_n hx hb dX9_sheet_49 rfl (lv_at hl 2 rfl) ?_
              have h_20 := (gi_in hm).1
              replace hm := (gi_in hm).2
              refine Rs_11 fx hC h_20 dX9_sheet_50 (fun H locs hC => ?_)
              obtain ⟨τ_21, e_22⟩ : ∃ z, z = (rA τ 11 (a1).toNatClampNeg a2) := ⟨_, rfl⟩
              rw [← e_22] at hC
              replace hm := nm_in hm e_22
              refine lv_aload_n hx hb dX9_sheet_51 rfl (lv_at hl 0 rfl) ?_
              refine Rg_12 fx hC dX9_sheet_52 ?_
              refine lv_iload_n hx hb dX9_sheet_55 rfl (lv_at hl 1 rfl) ?_
              refine lv_iload_n hx hb dX9_sheet_56 rfl (lv_at hl 2 rfl) ?_
              refine lv_iconst (v := (-1 : Int32)) hx hb dX9_sheet_57 (by decide) ?_
              refine lv_icmp_ne (tgt := 65) hx hb dX9_sheet_58 (by decide) (fun c_23 => ?_) (fun c_23 => ?_)
              · refine lv_iload_n hx hb dX9_sheet_65 rfl (lv_at hl 3 rfl) ?_
                have h_24 := (gi_in hm).1
                replace hm := (gi_in hm).2
                refine Rs_12 fx hC h_24 dX9_sheet_66 (fun H locs hC => ?_)
                obtain ⟨τ_25, e_26⟩ : ∃ z, z = (rA τ_21 12 (a1).toNatClampNeg a3) := ⟨_, rfl⟩
                rw [← e_26] at hC
                replace hm := nm_in hm e_26
                refine lv_iconst (v := (0 : Int32)) hx hb dX9_sheet_67 (by decide) ?_
                refine lv_istore (lv' := [(4, .int (0 : Int32)), (0, .ref (q 0)), (1, .int a1), (2, .int a2), (3, .int a3)]) hx hb dX9_sheet_68 hl (by decide) rfl (fun ls hl => ?_)
                refine Rw_sheet_70 fx hR hf a1 fuel (0 : Int32) τ_25 hm _ _ _ hC (lv_sub hl [1, 2, 0] rfl) (fun τ_27 H locs ls hm hC hl => ?_)
                refine lv_iconst (v := (1 : Int32)) hx hb dX9_sheet_96 (by decide) ?_
                cases hm
                exact g_iret fx hr hC rfl dX9_sheet_97
              · exact absurd c_23 c_3
            · replace hm := ifn hm c_19
              refine lv_bipush (v := (-14 : Int32)) hx hb dX9_sheet_41 (by decide) ?_
              cases hm
              exact g_iret fx hr hC rfl dX9_sheet_43
        · replace hm := ifn hm c_17
          refine lv_bipush (v := (-2 : Int32)) hx hb dX9_sheet_29 (by decide) ?_
          cases hm
          exact g_iret fx hr hC rfl dX9_sheet_31
def Rm_cell (τ : RS) (a1 : Int32) (a2 : Int32) (a3 : Int32) : Option (Int32 × RS) :=
  if (Rm_in a1 (0 : Int32) (5 : Int32)) = (0 : Int32) then (some ((-2 : Int32), τ)) else (gi a1 6 (if (τ.2 11 (a1).toNatClampNeg) = (-1 : Int32) then (some ((-11 : Int32), τ)) else (gi a1 6 (if (Rm_in a2 (0 : Int32) ((τ.2 12 (a1).toNatClampNeg) - (1 : Int32))) = (0 : Int32) then (some ((-12 : Int32), τ)) else (gi a1 6 (if (τ.2 11 (a1).toNatClampNeg) = (0 : Int32) then (gi (((40 : Int32) * a1) + a2) 240 (nm (rA τ 13 ((((40 : Int32) * a1) + a2)).toNatClampNeg a3.toInt8.toInt32) (fun τ_17 => some ((1 : Int32), τ_17)))) else (gi a1 6 (if (τ.2 11 (a1).toNatClampNeg) = (1 : Int32) then (gi (((40 : Int32) * a1) + a2) 240 (nm (rA τ 13 ((((40 : Int32) * a1) + a2)).toNatClampNeg a3.toInt16.toInt32) (fun τ_14 => some ((1 : Int32), τ_14)))) else (gi (((40 : Int32) * a1) + a2) 240 (nm (rA τ 13 ((((40 : Int32) * a1) + a2)).toNatClampNeg a3) (fun τ_11 => some ((1 : Int32), τ_11))))))))))))
abbrev Rrm_cell : Room := { frames := 1, cells := 0, slots := 0, locals := 22 }
set_option maxRecDepth 100000 in
set_option maxHeartbeats 4000000 in
theorem Rc_cell (l : Launch) {D : va_G} {cy : Nat → ClassId} {ad : List Nat} {q : Nat → Nat} {X : va_W} (τ : RS) (a1 : Int32) (a2 : Int32) (a3 : Int32) {o : Int32 × RS} (hm : Rm_cell τ a1 a2 a3 = some o) : GM l yX9_cell cX9_cell 4 (some .int) Rrm_cell D cy (rwd cy q X) ad [.ref (q 0), .int a1, .int a2, .int a3] τ (some (.int o.1)) o.2 := by
  refine g_start RX9 rfl (by decide) (Nat.le_of_ble_eq_true rfl) ?_
  intro p e s m args below meth c fx hr hC ls hl
  have hx := fx.1
  have hb := fx.2.1
  have hR : 1 ≤ (Rrm_cell).frames ∧ 22 ≤ (Rrm_cell).locals := ⟨Nat.le_refl _, Nat.le_refl _⟩
  have hf : 0 ≤ (Rrm_cell).cells ∧ 0 ≤ (Rrm_cell).slots := ⟨Nat.zero_le _, Nat.zero_le _⟩
  have hl : lv_has ls 4 [(0, .ref (q 0)), (1, .int a1), (2, .int a2), (3, .int a3)] := hl
  unfold Rm_cell at hm
  refine lv_iload_n hx hb dX9_cell_0 rfl (lv_at hl 1 rfl) ?_
  refine lv_iconst (v := (0 : Int32)) hx hb dX9_cell_1 (by decide) ?_
  refine lv_iconst (v := (5 : Int32)) hx hb dX9_cell_2 (by decide) ?_
  refine g_callSi (As := [.int a1, .int (0 : Int32), .int (5 : Int32)]) (rest := []) fx hC rw_w (Rc_in l rw_w τ a1 (0 : Int32) (5 : Int32)) k_140 Rk_in Rh_in ⟨rfl, rfl⟩ ⟨Nat.le_trans (Nat.le_of_ble_eq_true rfl) hR.1, Nat.le_trans (Nat.le_of_ble_eq_true rfl) hR.2⟩ hf rfl hl.1 rfl (Nat.le_of_ble_eq_true rfl) dX9_cell_3 (fun H locs hC => ?_)
  refine lv_if_ne (tgt := 12) hx hb dX9_cell_6 (by decide) (fun c_1 => ?_) (fun c_1 => ?_)
  · replace hm := ifn hm c_1
    refine lv_aload_n hx hb dX9_cell_12 rfl (lv_at hl 0 rfl) ?_
    refine Rg_11 fx hC dX9_cell_13 ?_
    refine lv_iload_n hx hb dX9_cell_16 rfl (lv_at hl 1 rfl) ?_
    have h_2 := (gi_in hm).1
    replace hm := (gi_in hm).2
    refine Rl_11 fx hC h_2 dX9_cell_17 ?_
    refine lv_iconst (v := (-1 : Int32)) hx hb dX9_cell_18 (by decide) ?_
    refine lv_icmp_ne (tgt := 25) hx hb dX9_cell_19 (by decide) (fun c_3 => ?_) (fun c_3 => ?_)
    · replace hm := ifn hm c_3
      refine lv_iload_n hx hb dX9_cell_25 rfl (lv_at hl 2 rfl) ?_
      refine lv_iconst (v := (0 : Int32)) hx hb dX9_cell_26 (by decide) ?_
      refine lv_aload_n hx hb dX9_cell_27 rfl (lv_at hl 0 rfl) ?_
      refine Rg_12 fx hC dX9_cell_28 ?_
      refine lv_iload_n hx hb dX9_cell_31 rfl (lv_at hl 1 rfl) ?_
      have h_4 := (gi_in hm).1
      replace hm := (gi_in hm).2
      refine Rl_12 fx hC h_4 dX9_cell_32 ?_
      refine lv_iconst (v := (1 : Int32)) hx hb dX9_cell_33 (by decide) ?_
      refine lv_isub hx hb dX9_cell_34 ?_
      refine g_callSi (As := [.int a2, .int (0 : Int32), .int ((τ.2 12 (a1).toNatClampNeg) - (1 : Int32))]) (rest := []) fx hC rw_w (Rc_in l rw_w τ a2 (0 : Int32) ((τ.2 12 (a1).toNatClampNeg) - (1 : Int32))) k_140 Rk_in Rh_in ⟨rfl, rfl⟩ ⟨Nat.le_trans (Nat.le_of_ble_eq_true rfl) hR.1, Nat.le_trans (Nat.le_of_ble_eq_true rfl) hR.2⟩ hf rfl hl.1 rfl (Nat.le_of_ble_eq_true rfl) dX9_cell_35 (fun H locs hC => ?_)
      refine lv_if_ne (tgt := 44) hx hb dX9_cell_38 (by decide) (fun c_5 => ?_) (fun c_5 => ?_)
      · replace hm := ifn hm c_5
        refine lv_aload_n hx hb dX9_cell_44 rfl (lv_at hl 0 rfl) ?_
        refine Rg_13 fx hC dX9_cell_45 ?_
        refine lv_bipush (v := (40 : Int32)) hx hb dX9_cell_48 (by decide) ?_
        refine lv_iload_n hx hb dX9_cell_50 rfl (lv_at hl 1 rfl) ?_
        refine lv_imul hx hb dX9_cell_51 ?_
        refine lv_iload_n hx hb dX9_cell_52 rfl (lv_at hl 2 rfl) ?_
        refine lv_iadd hx hb dX9_cell_53 ?_
        refine lv_aload_n hx hb dX9_cell_54 rfl (lv_at hl 0 rfl) ?_
        refine Rg_11 fx hC dX9_cell_55 ?_
        refine lv_iload_n hx hb dX9_cell_58 rfl (lv_at hl 1 rfl) ?_
        have h_6 := (gi_in hm).1
        replace hm := (gi_in hm).2
        refine Rl_11 fx hC h_6 dX9_cell_59 ?_
        refine lv_if_ne (tgt := 68) hx hb dX9_cell_60 (by decide) (fun c_7 => ?_) (fun c_7 => ?_)
        · replace hm := ifn hm c_7
          refine lv_aload_n hx hb dX9_cell_68 rfl (lv_at hl 0 rfl) ?_
          refine Rg_11 fx hC dX9_cell_69 ?_
          refine lv_iload_n hx hb dX9_cell_72 rfl (lv_at hl 1 rfl) ?_
          have h_8 := (gi_in hm).1
          replace hm := (gi_in hm).2
          refine Rl_11 fx hC h_8 dX9_cell_73 ?_
          refine lv_iconst (v := (1 : Int32)) hx hb dX9_cell_74 (by decide) ?_
          refine lv_icmp_ne (tgt := 83) hx hb dX9_cell_75 (by decide) (fun c_9 => ?_) (fun c_9 => ?_)
          · replace hm := ifn hm c_9
            refine lv_iload_n hx hb dX9_cell_83 rfl (lv_at hl 3 rfl) ?_
            have h_10 := (gi_in hm).1
            replace hm := (gi_in hm).2
            refine Rs_13 fx hC h_10 dX9_cell_84 (fun H locs hC => ?_)
            obtain ⟨τ_11, e_12⟩ : ∃ z, z = (rA τ 13 ((((40 : Int32) * a1) + a2)).toNatClampNeg a3) := ⟨_, rfl⟩
            rw [← e_12] at hC
            replace hm := nm_in hm e_12
            refine lv_iconst (v := (1 : Int32)) hx hb dX9_cell_85 (by decide) ?_
            cases hm
            exact g_iret fx hr hC rfl dX9_cell_86
          · replace hm := ifp hm c_9
            refine lv_iload_n hx hb dX9_cell_78 rfl (lv_at hl 3 rfl) ?_
            refine lv_i2s hx hb dX9_cell_79 rfl ?_
            refine lv_goto (tgt := 84) hx hb dX9_cell_80 (by decide) ?_
            have h_13 := (gi_in hm).1
            replace hm := (gi_in hm).2
            refine Rs_13 fx hC h_13 dX9_cell_84 (fun H locs hC => ?_)
            obtain ⟨τ_14, e_15⟩ : ∃ z, z = (rA τ 13 ((((40 : Int32) * a1) + a2)).toNatClampNeg a3.toInt16.toInt32) := ⟨_, rfl⟩
            rw [← e_15] at hC
            replace hm := nm_in hm e_15
            refine lv_iconst (v := (1 : Int32)) hx hb dX9_cell_85 (by decide) ?_
            cases hm
            exact g_iret fx hr hC rfl dX9_cell_86
        · replace hm := ifp hm c_7
          refine lv_iload_n hx hb dX9_cell_63 rfl (lv_at hl 3 rfl) ?_
          refine lv_i2b hx hb dX9_cell_64 rfl ?_
          refine lv_goto (tgt := 84) hx hb dX9_cell_65 (by decide) ?_
          have h_16 := (gi_in hm).1
          replace hm := (gi_in hm).2
          refine Rs_13 fx hC h_16 dX9_cell_84 (fun H locs hC => ?_)
          obtain ⟨τ_17, e_18⟩ : ∃ z, z = (rA τ 13 ((((40 : Int32) * a1) + a2)).toNatClampNeg a3.toInt8.toInt32) := ⟨_, rfl⟩
          rw [← e_18] at hC
          replace hm := nm_in hm e_18
          refine lv_iconst (v := (1 : Int32)) hx hb dX9_cell_85 (by decide) ?_
          cases hm
          exact g_iret fx hr hC rfl dX9_cell_86
      · replace hm := ifp hm c_5
        refine lv_bipush (v := (-12 : Int32)) hx hb dX9_cell_41 (by decide) ?_
        cases hm
        exact g_iret fx hr hC rfl dX9_cell_43
    · replace hm := ifp hm c_3
      refine lv_bipush (v := (-11 : Int32)) hx hb dX9_cell_22 (by decide) ?_
      cases hm
      exact g_iret fx hr hC rfl dX9_cell_24
  · replace hm := ifp hm c_1
    refine lv_bipush (v := (-2 : Int32)) hx hb dX9_cell_9 (by decide) ?_
    cases hm
    exact g_iret fx hr hC rfl dX9_cell_11
def Rm_lay (τ : RS) (a1 : Int32) (a2 : Int32) (a3 : Int32) : Option (Int32 × RS) :=
  if (Rm_in a1 (0 : Int32) (5 : Int32)) = (0 : Int32) then (some ((-2 : Int32), τ)) else (if (Rm_in a2 (0 : Int32) (2 : Int32)) = (0 : Int32) then (some ((-2 : Int32), τ)) else (gi a1 6 (if (τ.2 11 (a1).toNatClampNeg) = (-1 : Int32) then (gi a1 6 (some ((-11 : Int32), τ))) else (gi a1 6 (if (τ.2 11 (a1).toNatClampNeg) = a2 then (gi a1 6 (if a3 < (0 : Int32) then (some ((-12 : Int32), τ)) else (gi a1 6 (if a3 ≤ ((τ.2 12 (a1).toNatClampNeg) - (3 : Int32)) then (gi (((40 : Int32) * a1) + a3) 240 (gi ((((40 : Int32) * a1) + a3) + (1 : Int32)) 240 (gi ((((40 : Int32) * a1) + a3) + (2 : Int32)) 240 (b2 (Rm_road τ (τ.2 13 ((((40 : Int32) * a1) + a3)).toNatClampNeg) (τ.2 13 (((((40 : Int32) * a1) + a3) + (1 : Int32))).toNatClampNeg) (τ.2 13 (((((40 : Int32) * a1) + a3) + (2 : Int32))).toNatClampNeg)) (fun r_18 τ_19 => some (r_18, τ_19)))))) else (some ((-12 : Int32), τ)))))) else (some ((-13 : Int32), τ)))))))
abbrev Rrm_lay : Room := { frames := 2, cells := 0, slots := 0, locals := 48 }
set_option maxRecDepth 100000 in
set_option maxHeartbeats 4000000 in
theorem Rc_lay (l : Launch) {D : va_G} {cy : Nat → ClassId} {ad : List Nat} {q : Nat → Nat} {X : va_W} (τ : RS) (a1 : Int32) (a2 : Int32) (a3 : Int32) {o : Int32 × RS} (hm : Rm_lay τ a1 a2 a3 = some o) : GM l yX9_lay cX9_lay 5 (some .int) Rrm_lay D cy (rwd cy q X) ad [.ref (q 0), .int a1, .int a2, .int a3] τ (some (.int o.1)) o.2 := by
  refine g_start RX9 rfl (by decide) (Nat.le_of_ble_eq_true rfl) ?_
  intro p e s m args below meth c fx hr hC ls hl
  have hx := fx.1
  have hb := fx.2.1
  have hR : 2 ≤ (Rrm_lay).frames ∧ 48 ≤ (Rrm_lay).locals := ⟨Nat.le_refl _, Nat.le_refl _⟩
  have hf : 0 ≤ (Rrm_lay).cells ∧ 0 ≤ (Rrm_lay).slots := ⟨Nat.zero_le _, Nat.zero_le _⟩
  have hl : lv_has ls 5 [(0, .ref (q 0)), (1, .int a1), (2, .int a2), (3, .int a3)] := hl
  unfold Rm_lay at hm
  refine lv_iload_n hx hb dX9_lay_0 rfl (lv_at hl 1 rfl) ?_
  refine lv_iconst (v := (0 : Int32)) hx hb dX9_lay_1 (by decide) ?_
  refine lv_iconst (v := (5 : Int32)) hx hb dX9_lay_2 (by decide) ?_
  refine g_callSi (As := [.int a1, .int (0 : Int32), .int (5 : Int32)]) (rest := []) fx hC rw_w (Rc_in l rw_w τ a1 (0 : Int32) (5 : Int32)) k_140 Rk_in Rh_in ⟨rfl, rfl⟩ ⟨Nat.le_trans (Nat.le_of_ble_eq_true rfl) hR.1, Nat.le_trans (Nat.le_of_ble_eq_true rfl) hR.2⟩ hf rfl hl.1 rfl (Nat.le_of_ble_eq_true rfl) dX9_lay_3 (fun H locs hC => ?_)
  refine lv_if_eq (tgt := 18) hx hb dX9_lay_6 (by decide) (fun c_1 => ?_) (fun c_1 => ?_)
  · replace hm := ifp hm c_1
    refine lv_bipush (v := (-2 : Int32)) hx hb dX9_lay_18 (by decide) ?_
    cases hm
    exact g_iret fx hr hC rfl dX9_lay_20
  · replace hm := ifn hm c_1
    refine lv_iload_n hx hb dX9_lay_9 rfl (lv_at hl 2 rfl) ?_
    refine lv_iconst (v := (0 : Int32)) hx hb dX9_lay_10 (by decide) ?_
    refine lv_iconst (v := (2 : Int32)) hx hb dX9_lay_11 (by decide) ?_
    refine g_callSi (As := [.int a2, .int (0 : Int32), .int (2 : Int32)]) (rest := []) fx hC rw_w (Rc_in l rw_w τ a2 (0 : Int32) (2 : Int32)) k_140 Rk_in Rh_in ⟨rfl, rfl⟩ ⟨Nat.le_trans (Nat.le_of_ble_eq_true rfl) hR.1, Nat.le_trans (Nat.le_of_ble_eq_true rfl) hR.2⟩ hf rfl hl.1 rfl (Nat.le_of_ble_eq_true rfl) dX9_lay_12 (fun H locs hC => ?_)
    refine lv_if_ne (tgt := 21) hx hb dX9_lay_15 (by decide) (fun c_2 => ?_) (fun c_2 => ?_)
    · replace hm := ifn hm c_2
      refine lv_aload_n hx hb dX9_lay_21 rfl (lv_at hl 0 rfl) ?_
      refine Rg_11 fx hC dX9_lay_22 ?_
      refine lv_iload_n hx hb dX9_lay_25 rfl (lv_at hl 1 rfl) ?_
      have h_3 := (gi_in hm).1
      replace hm := (gi_in hm).2
      refine Rl_11 fx hC h_3 dX9_lay_26 ?_
      refine lv_iconst (v := (-1 : Int32)) hx hb dX9_lay_27 (by decide) ?_
      refine lv_icmp_eq (tgt := 44) hx hb dX9_lay_28 (by decide) (fun c_4 => ?_) (fun c_4 => ?_)
      · replace hm := ifp hm c_4
        refine lv_aload_n hx hb dX9_lay_44 rfl (lv_at hl 0 rfl) ?_
        refine Rg_11 fx hC dX9_lay_45 ?_
        refine lv_iload_n hx hb dX9_lay_48 rfl (lv_at hl 1 rfl) ?_
        have h_5 := (gi_in hm).1
        replace hm := (gi_in hm).2
        refine Rl_11 fx hC h_5 dX9_lay_49 ?_
        refine lv_iconst (v := (-1 : Int32)) hx hb dX9_lay_50 (by decide) ?_
        refine lv_icmp_ne (tgt := 57) hx hb dX9_lay_51 (by decide) (fun c_6 => ?_) (fun c_6 => ?_)
        · exact absurd c_4 c_6
        · refine lv_bipush (v := (-11 : Int32)) hx hb dX9_lay_54 (by decide) ?_
          cases hm
          exact g_iret fx hr hC rfl dX9_lay_56
      · replace hm := ifn hm c_4
        refine lv_aload_n hx hb dX9_lay_31 rfl (lv_at hl 0 rfl) ?_
        refine Rg_11 fx hC dX9_lay_32 ?_
        refine lv_iload_n hx hb dX9_lay_35 rfl (lv_at hl 1 rfl) ?_
        have h_7 := (gi_in hm).1
        replace hm := (gi_in hm).2
        refine Rl_11 fx hC h_7 dX9_lay_36 ?_
        refine lv_iload_n hx hb dX9_lay_37 rfl (lv_at hl 2 rfl) ?_
        refine lv_icmp_eq (tgt := 44) hx hb dX9_lay_38 (by decide) (fun c_8 => ?_) (fun c_8 => ?_)
        · replace hm := ifp hm c_8
          refine lv_aload_n hx hb dX9_lay_44 rfl (lv_at hl 0 rfl) ?_
          refine Rg_11 fx hC dX9_lay_45 ?_
          refine lv_iload_n hx hb dX9_lay_48 rfl (lv_at hl 1 rfl) ?_
          have h_9 := (gi_in hm).1
          replace hm := (gi_in hm).2
          refine Rl_11 fx hC h_9 dX9_lay_49 ?_
          refine lv_iconst (v := (-1 : Int32)) hx hb dX9_lay_50 (by decide) ?_
          refine lv_icmp_ne (tgt := 57) hx hb dX9_lay_51 (by decide) (fun c_10 => ?_) (fun c_10 => ?_)
          · refine lv_iload_n hx hb dX9_lay_57 rfl (lv_at hl 3 rfl) ?_
            refine lv_if_lt (tgt := 73) hx hb dX9_lay_58 (by decide) (fun c_11 => ?_) (fun c_11 => ?_)
            · replace hm := ifp hm c_11
              refine lv_bipush (v := (-12 : Int32)) hx hb dX9_lay_73 (by decide) ?_
              cases hm
              exact g_iret fx hr hC rfl dX9_lay_75
            · replace hm := ifn hm c_11
              refine lv_iload_n hx hb dX9_lay_61 rfl (lv_at hl 3 rfl) ?_
              refine lv_aload_n hx hb dX9_lay_62 rfl (lv_at hl 0 rfl) ?_
              refine Rg_12 fx hC dX9_lay_63 ?_
              refine lv_iload_n hx hb dX9_lay_66 rfl (lv_at hl 1 rfl) ?_
              have h_12 := (gi_in hm).1
              replace hm := (gi_in hm).2
              refine Rl_12 fx hC h_12 dX9_lay_67 ?_
              refine lv_iconst (v := (3 : Int32)) hx hb dX9_lay_68 (by decide) ?_
              refine lv_isub hx hb dX9_lay_69 ?_
              refine lv_icmp_le (tgt := 76) hx hb dX9_lay_70 (by decide) (fun c_13 => ?_) (fun c_13 => ?_)
              · replace hm := ifp hm c_13
                refine lv_bipush (v := (40 : Int32)) hx hb dX9_lay_76 (by decide) ?_
                refine lv_iload_n hx hb dX9_lay_78 rfl (lv_at hl 1 rfl) ?_
                refine lv_imul hx hb dX9_lay_79 ?_
                refine lv_iload_n hx hb dX9_lay_80 rfl (lv_at hl 3 rfl) ?_
                refine lv_iadd hx hb dX9_lay_81 ?_
                refine lv_istore (lv' := [(4, .int (((40 : Int32) * a1) + a3)), (0, .ref (q 0)), (1, .int a1), (2, .int a2), (3, .int a3)]) hx hb dX9_lay_82 hl (by decide) rfl (fun ls hl => ?_)
                refine lv_aload_n hx hb dX9_lay_84 rfl (lv_at hl 1 rfl) ?_
                refine lv_aload_n hx hb dX9_lay_85 rfl (lv_at hl 1 rfl) ?_
                refine Rg_13 fx hC dX9_lay_86 ?_
                refine lv_iload hx hb dX9_lay_89 (lv_at hl 0 rfl) ?_
                have h_14 := (gi_in hm).1
                replace hm := (gi_in hm).2
                refine Rl_13 fx hC h_14 dX9_lay_91 ?_
                refine lv_aload_n hx hb dX9_lay_92 rfl (lv_at hl 1 rfl) ?_
                refine Rg_13 fx hC dX9_lay_93 ?_
                refine lv_iload hx hb dX9_lay_96 (lv_at hl 0 rfl) ?_
                refine lv_iconst (v := (1 : Int32)) hx hb dX9_lay_98 (by decide) ?_
                refine lv_iadd hx hb dX9_lay_99 ?_
                have h_15 := (gi_in hm).1
                replace hm := (gi_in hm).2
                refine Rl_13 fx hC h_15 dX9_lay_100 ?_
                refine lv_aload_n hx hb dX9_lay_101 rfl (lv_at hl 1 rfl) ?_
                refine Rg_13 fx hC dX9_lay_102 ?_
                refine lv_iload hx hb dX9_lay_105 (lv_at hl 0 rfl) ?_
                refine lv_iconst (v := (2 : Int32)) hx hb dX9_lay_107 (by decide) ?_
                refine lv_iadd hx hb dX9_lay_108 ?_
                have h_16 := (gi_in hm).1
                replace hm := (gi_in hm).2
                refine Rl_13 fx hC h_16 dX9_lay_109 ?_
                obtain ⟨r_18, τ_19, e_17, hm⟩ := b2_in hm
                refine g_callVi (k0 := 0) (ci := 9) (As := [.int (τ.2 13 ((((40 : Int32) * a1) + a3)).toNatClampNeg), .int (τ.2 13 (((((40 : Int32) * a1) + a3) + (1 : Int32))).toNatClampNeg), .int (τ.2 13 (((((40 : Int32) * a1) + a3) + (2 : Int32))).toNatClampNeg)]) (rest := []) fx hC rw_w (Rc_road l τ (τ.2 13 ((((40 : Int32) * a1) + a3)).toNatClampNeg) (τ.2 13 (((((40 : Int32) * a1) + a3) + (1 : Int32))).toNatClampNeg) (τ.2 13 (((((40 : Int32) * a1) + a3) + (2 : Int32))).toNatClampNeg) e_17) k_1038 Rk_road Rh_road rfl rfl rfl ⟨rfl, rfl⟩ ⟨Nat.le_trans (Nat.le_of_ble_eq_true rfl) hR.1, Nat.le_trans (Nat.le_of_ble_eq_true rfl) hR.2⟩ hf rfl hl.1 rfl (Nat.le_of_ble_eq_true rfl) dX9_lay_110 (fun H locs hC => ?_)
                cases hm
                exact g_iret fx hr hC rfl dX9_lay_113
              · replace hm := ifn hm c_13
                refine lv_bipush (v := (-12 : Int32)) hx hb dX9_lay_73 (by decide) ?_
                cases hm
                exact g_iret fx hr hC rfl dX9_lay_75
          · exact absurd c_10 c_4
        · replace hm := ifn hm c_8
          refine lv_bipush (v := (-13 : Int32)) hx hb dX9_lay_41 (by decide) ?_
          cases hm
          exact g_iret fx hr hC rfl dX9_lay_43
    · replace hm := ifp hm c_2
      refine lv_bipush (v := (-2 : Int32)) hx hb dX9_lay_18 (by decide) ?_
      cases hm
      exact g_iret fx hr hC rfl dX9_lay_20
def Rm_shelf (τ : RS) (a1 : Int32) (a2 : Int32) (a3 : Int32) : Option (Int32 × RS) :=
  if a2 = (2 : Int32) then (if (Rm_in a1 (0 : Int32) (5 : Int32)) = (0 : Int32) then (some ((-2 : Int32), τ)) else (gi a1 6 (nm (rA τ 14 (a1).toNatClampNeg (0 : Int32)) (fun τ_7 => gi a1 6 (nm (rA τ_7 15 (a1).toNatClampNeg (0 : Int32)) (fun τ_11 => gi a1 6 (nm (rA τ_11 16 (a1).toNatClampNeg (0 : Int32)) (fun τ_15 => some ((1 : Int32), τ_15))))))))) else (if a2 = (0 : Int32) then (if (Rm_isFamily τ a3) = (0 : Int32) then (if (Rm_in a1 (0 : Int32) (5 : Int32)) = (0 : Int32) then (some ((-2 : Int32), τ)) else (some ((-2 : Int32), τ))) else (if (Rm_in a1 (0 : Int32) (5 : Int32)) = (0 : Int32) then (some ((-2 : Int32), τ)) else (gi a1 6 (nm (rA τ 14 (a1).toNatClampNeg (1 : Int32)) (fun τ_66 => gi a3 30 (gi a1 6 (nm (rA τ_66 15 (a1).toNatClampNeg (τ_66.2 7 (a3).toNatClampNeg)) (fun τ_71 => b1 (Rm_count0 τ_71 a3) (fun r_76 => gi a1 6 (nm (rA τ_71 16 (a1).toNatClampNeg r_76) (fun τ_78 => some ((1 : Int32), τ_78)))))))))))) else (if a2 = (1 : Int32) then (if (Rm_in a3 (0 : Int32) (5 : Int32)) = (0 : Int32) then (if (Rm_in a1 (0 : Int32) (5 : Int32)) = (0 : Int32) then (some ((-2 : Int32), τ)) else (some ((-2 : Int32), τ))) else (if (Rm_in a1 (0 : Int32) (5 : Int32)) = (0 : Int32) then (some ((-2 : Int32), τ)) else (gi a3 6 (if (τ.2 11 (a3).toNatClampNeg) = (-1 : Int32) then (gi a1 6 (nm (rA τ 14 (a1).toNatClampNeg (0 : Int32)) (fun τ_48 => gi a1 6 (nm (rA τ_48 15 (a1).toNatClampNeg (0 : Int32)) (fun τ_52 => gi a1 6 (nm (rA τ_52 16 (a1).toNatClampNeg (0 : Int32)) (fun τ_56 => some ((1 : Int32), τ_56)))))))) else (gi a3 6 (gi a1 6 (nm (rA τ 14 (a1).toNatClampNeg ((2 : Int32) + (τ.2 11 (a3).toNatClampNeg))) (fun τ_34 => gi a1 6 (nm (rA τ_34 15 (a1).toNatClampNeg (0 : Int32)) (fun τ_38 => gi a3 6 (gi a1 6 (nm (rA τ_38 16 (a1).toNatClampNeg (τ_38.2 12 (a3).toNatClampNeg)) (fun τ_44 => some ((1 : Int32), τ_44)))))))))))))) else (if (Rm_in a1 (0 : Int32) (5 : Int32)) = (0 : Int32) then (some ((-2 : Int32), τ)) else (some ((-2 : Int32), τ)))))
abbrev Rrm_shelf : Room := { frames := 2, cells := 0, slots := 0, locals := 45 }
set_option maxRecDepth 100000 in
set_option maxHeartbeats 4000000 in
theorem Rc_shelf (l : Launch) {D : va_G} {cy : Nat → ClassId} {ad : List Nat} {q : Nat → Nat} {X : va_W} (τ : RS) (a1 : Int32) (a2 : Int32) (a3 : Int32) {o : Int32 × RS} (hm : Rm_shelf τ a1 a2 a3 = some o) : GM l yX9_shelf cX9_shelf 6 (some .int) Rrm_shelf D cy (rwd cy q X) ad [.ref (q 0), .int a1, .int a2, .int a3] τ (some (.int o.1)) o.2 := by
  refine g_start RX9 rfl (by decide) (Nat.le_of_ble_eq_true rfl) ?_
  intro p e s m args below meth c fx hr hC ls hl
  have hx := fx.1
  have hb := fx.2.1
  have hR : 2 ≤ (Rrm_shelf).frames ∧ 45 ≤ (Rrm_shelf).locals := ⟨Nat.le_refl _, Nat.le_refl _⟩
  have hf : 0 ≤ (Rrm_shelf).cells ∧ 0 ≤ (Rrm_shelf).slots := ⟨Nat.zero_le _, Nat.zero_le _⟩
  have hl : lv_has ls 6 [(0, .ref (q 0)), (1, .int a1), (2, .int a2), (3, .int a3)] := hl
  unfold Rm_shelf at hm
  refine lv_iload_n hx hb dX9_shelf_0 rfl (lv_at hl 2 rfl) ?_
  refine lv_iconst (v := (2 : Int32)) hx hb dX9_shelf_1 (by decide) ?_
  refine lv_icmp_eq (tgt := 31) hx hb dX9_shelf_2 (by decide) (fun c_1 => ?_) (fun c_1 => ?_)
  · replace hm := ifp hm c_1
    refine lv_iconst (v := (1 : Int32)) hx hb dX9_shelf_31 (by decide) ?_
    refine lv_goto (tgt := 36) hx hb dX9_shelf_32 (by decide) ?_
    refine lv_istore (lv' := [(4, .int (1 : Int32)), (0, .ref (q 0)), (1, .int a1), (2, .int a2), (3, .int a3)]) hx hb dX9_shelf_36 hl (by decide) rfl (fun ls hl => ?_)
    refine lv_iload_n hx hb dX9_shelf_38 rfl (lv_at hl 2 rfl) ?_
    refine lv_iconst (v := (0 : Int32)) hx hb dX9_shelf_39 (by decide) ?_
    refine lv_iconst (v := (5 : Int32)) hx hb dX9_shelf_40 (by decide) ?_
    refine g_callSi (As := [.int a1, .int (0 : Int32), .int (5 : Int32)]) (rest := []) fx hC rw_w (Rc_in l rw_w τ a1 (0 : Int32) (5 : Int32)) k_140 Rk_in Rh_in ⟨rfl, rfl⟩ ⟨Nat.le_trans (Nat.le_of_ble_eq_true rfl) hR.1, Nat.le_trans (Nat.le_of_ble_eq_true rfl) hR.2⟩ hf rfl hl.1 rfl (Nat.le_of_ble_eq_true rfl) dX9_shelf_41 (fun H locs hC => ?_)
    refine lv_if_eq (tgt := 52) hx hb dX9_shelf_44 (by decide) (fun c_2 => ?_) (fun c_2 => ?_)
    · replace hm := ifp hm c_2
      refine lv_bipush (v := (-2 : Int32)) hx hb dX9_shelf_52 (by decide) ?_
      cases hm
      exact g_iret fx hr hC rfl dX9_shelf_54
    · replace hm := ifn hm c_2
      refine lv_iload hx hb dX9_shelf_47 (lv_at hl 0 rfl) ?_
      refine lv_if_ne (tgt := 55) hx hb dX9_shelf_49 (by decide) (fun c_3 => ?_) (fun c_3 => ?_)
      · refine lv_iload_n hx hb dX9_shelf_55 rfl (lv_at hl 3 rfl) ?_
        refine lv_iconst (v := (2 : Int32)) hx hb dX9_shelf_56 (by decide) ?_
        refine lv_icmp_eq (tgt := 75) hx hb dX9_shelf_57 (by decide) (fun c_4 => ?_) (fun c_4 => ?_)
        · refine lv_iconst (v := (1 : Int32)) hx hb dX9_shelf_75 (by decide) ?_
          refine lv_goto (tgt := 80) hx hb dX9_shelf_76 (by decide) ?_
          refine lv_istore (lv' := [(5, .int (1 : Int32)), (4, .int (1 : Int32)), (0, .ref (q 0)), (1, .int a1), (2, .int a2), (3, .int a3)]) hx hb dX9_shelf_80 hl (by decide) rfl (fun ls hl => ?_)
          refine lv_aload_n hx hb dX9_shelf_82 rfl (lv_at hl 2 rfl) ?_
          refine Rg_14 fx hC dX9_shelf_83 ?_
          refine lv_iload_n hx hb dX9_shelf_86 rfl (lv_at hl 3 rfl) ?_
          refine lv_iload hx hb dX9_shelf_87 (lv_at hl 0 rfl) ?_
          refine lv_if_eq (tgt := 96) hx hb dX9_shelf_89 (by decide) (fun c_5 => ?_) (fun c_5 => ?_)
          · exact absurd c_5 (by decide)
          · refine lv_iconst (v := (0 : Int32)) hx hb dX9_shelf_92 (by decide) ?_
            refine lv_goto (tgt := 112) hx hb dX9_shelf_93 (by decide) ?_
            have h_6 := (gi_in hm).1
            replace hm := (gi_in hm).2
            refine Rs_14 fx hC h_6 dX9_shelf_112 (fun H locs hC => ?_)
            obtain ⟨τ_7, e_8⟩ : ∃ z, z = (rA τ 14 (a1).toNatClampNeg (0 : Int32)) := ⟨_, rfl⟩
            rw [← e_8] at hC
            replace hm := nm_in hm e_8
            refine lv_aload_n hx hb dX9_shelf_113 rfl (lv_at hl 2 rfl) ?_
            refine Rg_15 fx hC dX9_shelf_114 ?_
            refine lv_iload_n hx hb dX9_shelf_117 rfl (lv_at hl 3 rfl) ?_
            refine lv_iload_n hx hb dX9_shelf_118 rfl (lv_at hl 4 rfl) ?_
            refine lv_if_ne (tgt := 131) hx hb dX9_shelf_119 (by decide) (fun c_9 => ?_) (fun c_9 => ?_)
            · refine lv_iconst (v := (0 : Int32)) hx hb dX9_shelf_131 (by decide) ?_
              have h_10 := (gi_in hm).1
              replace hm := (gi_in hm).2
              refine Rs_15 fx hC h_10 dX9_shelf_132 (fun H locs hC => ?_)
              obtain ⟨τ_11, e_12⟩ : ∃ z, z = (rA τ_7 15 (a1).toNatClampNeg (0 : Int32)) := ⟨_, rfl⟩
              rw [← e_12] at hC
              replace hm := nm_in hm e_12
              refine lv_aload_n hx hb dX9_shelf_133 rfl (lv_at hl 2 rfl) ?_
              refine Rg_16 fx hC dX9_shelf_134 ?_
              refine lv_iload_n hx hb dX9_shelf_137 rfl (lv_at hl 3 rfl) ?_
              refine lv_iload hx hb dX9_shelf_138 (lv_at hl 0 rfl) ?_
              refine lv_if_eq (tgt := 147) hx hb dX9_shelf_140 (by decide) (fun c_13 => ?_) (fun c_13 => ?_)
              · exact absurd c_13 (by decide)
              · refine lv_iconst (v := (0 : Int32)) hx hb dX9_shelf_143 (by decide) ?_
                refine lv_goto (tgt := 165) hx hb dX9_shelf_144 (by decide) ?_
                have h_14 := (gi_in hm).1
                replace hm := (gi_in hm).2
                refine Rs_16 fx hC h_14 dX9_shelf_165 (fun H locs hC => ?_)
                obtain ⟨τ_15, e_16⟩ : ∃ z, z = (rA τ_11 16 (a1).toNatClampNeg (0 : Int32)) := ⟨_, rfl⟩
                rw [← e_16] at hC
                replace hm := nm_in hm e_16
                refine lv_iconst (v := (1 : Int32)) hx hb dX9_shelf_166 (by decide) ?_
                cases hm
                exact g_iret fx hr hC rfl dX9_shelf_167
            · exact absurd c_9 (fun z => absurd (c_1.symm.trans z) (by decide))
        · exact absurd c_1 c_4
      · exact absurd c_3 (by decide)
  · replace hm := ifn hm c_1
    refine lv_iload_n hx hb dX9_shelf_5 rfl (lv_at hl 2 rfl) ?_
    refine lv_if_ne (tgt := 17) hx hb dX9_shelf_6 (by decide) (fun c_17 => ?_) (fun c_17 => ?_)
    · replace hm := ifn hm c_17
      refine lv_iload_n hx hb dX9_shelf_17 rfl (lv_at hl 2 rfl) ?_
      refine lv_iconst (v := (1 : Int32)) hx hb dX9_shelf_18 (by decide) ?_
      refine lv_icmp_ne (tgt := 35) hx hb dX9_shelf_19 (by decide) (fun c_18 => ?_) (fun c_18 => ?_)
      · replace hm := ifn hm c_18
        refine lv_iconst (v := (0 : Int32)) hx hb dX9_shelf_35 (by decide) ?_
        refine lv_istore (lv' := [(4, .int (0 : Int32)), (0, .ref (q 0)), (1, .int a1), (2, .int a2), (3, .int a3)]) hx hb dX9_shelf_36 hl (by decide) rfl (fun ls hl => ?_)
        refine lv_iload_n hx hb dX9_shelf_38 rfl (lv_at hl 2 rfl) ?_
        refine lv_iconst (v := (0 : Int32)) hx hb dX9_shelf_39 (by decide) ?_
        refine lv_iconst (v := (5 : Int32)) hx hb dX9_shelf_40 (by decide) ?_
        refine g_callSi (As := [.int a1, .int (0 : Int32), .int (5 : Int32)]) (rest := []) fx hC rw_w (Rc_in l rw_w τ a1 (0 : Int32) (5 : Int32)) k_140 Rk_in Rh_in ⟨rfl, rfl⟩ ⟨Nat.le_trans (Nat.le_of_ble_eq_true rfl) hR.1, Nat.le_trans (Nat.le_of_ble_eq_true rfl) hR.2⟩ hf rfl hl.1 rfl (Nat.le_of_ble_eq_true rfl) dX9_shelf_41 (fun H locs hC => ?_)
        refine lv_if_eq (tgt := 52) hx hb dX9_shelf_44 (by decide) (fun c_19 => ?_) (fun c_19 => ?_)
        · replace hm := ifp hm c_19
          refine lv_bipush (v := (-2 : Int32)) hx hb dX9_shelf_52 (by decide) ?_
          cases hm
          exact g_iret fx hr hC rfl dX9_shelf_54
        · replace hm := ifn hm c_19
          refine lv_iload hx hb dX9_shelf_47 (lv_at hl 0 rfl) ?_
          refine lv_if_ne (tgt := 55) hx hb dX9_shelf_49 (by decide) (fun c_20 => ?_) (fun c_20 => ?_)
          · exact absurd (by decide) c_20
          · refine lv_bipush (v := (-2 : Int32)) hx hb dX9_shelf_52 (by decide) ?_
            cases hm
            exact g_iret fx hr hC rfl dX9_shelf_54
      · replace hm := ifp hm c_18
        refine lv_iload_n hx hb dX9_shelf_22 rfl (lv_at hl 3 rfl) ?_
        refine lv_iconst (v := (0 : Int32)) hx hb dX9_shelf_23 (by decide) ?_
        refine lv_iconst (v := (5 : Int32)) hx hb dX9_shelf_24 (by decide) ?_
        refine g_callSi (As := [.int a3, .int (0 : Int32), .int (5 : Int32)]) (rest := []) fx hC rw_w (Rc_in l rw_w τ a3 (0 : Int32) (5 : Int32)) k_140 Rk_in Rh_in ⟨rfl, rfl⟩ ⟨Nat.le_trans (Nat.le_of_ble_eq_true rfl) hR.1, Nat.le_trans (Nat.le_of_ble_eq_true rfl) hR.2⟩ hf rfl hl.1 rfl (Nat.le_of_ble_eq_true rfl) dX9_shelf_25 (fun H locs hC => ?_)
        refine lv_if_eq (tgt := 35) hx hb dX9_shelf_28 (by decide) (fun c_21 => ?_) (fun c_21 => ?_)
        · replace hm := ifp hm c_21
          refine lv_iconst (v := (0 : Int32)) hx hb dX9_shelf_35 (by decide) ?_
          refine lv_istore (lv' := [(4, .int (0 : Int32)), (0, .ref (q 0)), (1, .int a1), (2, .int a2), (3, .int a3)]) hx hb dX9_shelf_36 hl (by decide) rfl (fun ls hl => ?_)
          refine lv_iload_n hx hb dX9_shelf_38 rfl (lv_at hl 2 rfl) ?_
          refine lv_iconst (v := (0 : Int32)) hx hb dX9_shelf_39 (by decide) ?_
          refine lv_iconst (v := (5 : Int32)) hx hb dX9_shelf_40 (by decide) ?_
          refine g_callSi (As := [.int a1, .int (0 : Int32), .int (5 : Int32)]) (rest := []) fx hC rw_w (Rc_in l rw_w τ a1 (0 : Int32) (5 : Int32)) k_140 Rk_in Rh_in ⟨rfl, rfl⟩ ⟨Nat.le_trans (Nat.le_of_ble_eq_true rfl) hR.1, Nat.le_trans (Nat.le_of_ble_eq_true rfl) hR.2⟩ hf rfl hl.1 rfl (Nat.le_of_ble_eq_true rfl) dX9_shelf_41 (fun H locs hC => ?_)
          refine lv_if_eq (tgt := 52) hx hb dX9_shelf_44 (by decide) (fun c_22 => ?_) (fun c_22 => ?_)
          · replace hm := ifp hm c_22
            refine lv_bipush (v := (-2 : Int32)) hx hb dX9_shelf_52 (by decide) ?_
            cases hm
            exact g_iret fx hr hC rfl dX9_shelf_54
          · replace hm := ifn hm c_22
            refine lv_iload hx hb dX9_shelf_47 (lv_at hl 0 rfl) ?_
            refine lv_if_ne (tgt := 55) hx hb dX9_shelf_49 (by decide) (fun c_23 => ?_) (fun c_23 => ?_)
            · exact absurd (by decide) c_23
            · refine lv_bipush (v := (-2 : Int32)) hx hb dX9_shelf_52 (by decide) ?_
              cases hm
              exact g_iret fx hr hC rfl dX9_shelf_54
        · replace hm := ifn hm c_21
          refine lv_iconst (v := (1 : Int32)) hx hb dX9_shelf_31 (by decide) ?_
          refine lv_goto (tgt := 36) hx hb dX9_shelf_32 (by decide) ?_
          refine lv_istore (lv' := [(4, .int (1 : Int32)), (0, .ref (q 0)), (1, .int a1), (2, .int a2), (3, .int a3)]) hx hb dX9_shelf_36 hl (by decide) rfl (fun ls hl => ?_)
          refine lv_iload_n hx hb dX9_shelf_38 rfl (lv_at hl 2 rfl) ?_
          refine lv_iconst (v := (0 : Int32)) hx hb dX9_shelf_39 (by decide) ?_
          refine lv_iconst (v := (5 : Int32)) hx hb dX9_shelf_40 (by decide) ?_
          refine g_callSi (As := [.int a1, .int (0 : Int32), .int (5 : Int32)]) (rest := []) fx hC rw_w (Rc_in l rw_w τ a1 (0 : Int32) (5 : Int32)) k_140 Rk_in Rh_in ⟨rfl, rfl⟩ ⟨Nat.le_trans (Nat.le_of_ble_eq_true rfl) hR.1, Nat.le_trans (Nat.le_of_ble_eq_true rfl) hR.2⟩ hf rfl hl.1 rfl (Nat.le_of_ble_eq_true rfl) dX9_shelf_41 (fun H locs hC => ?_)
          refine lv_if_eq (tgt := 52) hx hb dX9_shelf_44 (by decide) (fun c_24 => ?_) (fun c_24 => ?_)
          · replace hm := ifp hm c_24
            refine lv_bipush (v := (-2 : Int32)) hx hb dX9_shelf_52 (by decide) ?_
            cases hm
            exact g_iret fx hr hC rfl dX9_shelf_54
          · replace hm := ifn hm c_24
            refine lv_iload hx hb dX9_shelf_47 (lv_at hl 0 rfl) ?_
            refine lv_if_ne (tgt := 55) hx hb dX9_shelf_49 (by decide) (fun c_25 => ?_) (fun c_25 => ?_)
            · refine lv_iload_n hx hb dX9_shelf_55 rfl (lv_at hl 3 rfl) ?_
              refine lv_iconst (v := (2 : Int32)) hx hb dX9_shelf_56 (by decide) ?_
              refine lv_icmp_eq (tgt := 75) hx hb dX9_shelf_57 (by decide) (fun c_26 => ?_) (fun c_26 => ?_)
              · exact absurd c_26 c_1
              · refine lv_iload_n hx hb dX9_shelf_60 rfl (lv_at hl 3 rfl) ?_
                refine lv_iconst (v := (1 : Int32)) hx hb dX9_shelf_61 (by decide) ?_
                refine lv_icmp_ne (tgt := 79) hx hb dX9_shelf_62 (by decide) (fun c_27 => ?_) (fun c_27 => ?_)
                · exact absurd c_18 c_27
                · refine lv_aload_n hx hb dX9_shelf_65 rfl (lv_at hl 1 rfl) ?_
                  refine Rg_11 fx hC dX9_shelf_66 ?_
                  refine lv_iload_n hx hb dX9_shelf_69 rfl (lv_at hl 4 rfl) ?_
                  have h_28 := (gi_in hm).1
                  replace hm := (gi_in hm).2
                  refine Rl_11 fx hC h_28 dX9_shelf_70 ?_
                  refine lv_iconst (v := (-1 : Int32)) hx hb dX9_shelf_71 (by decide) ?_
                  refine lv_icmp_ne (tgt := 79) hx hb dX9_shelf_72 (by decide) (fun c_29 => ?_) (fun c_29 => ?_)
                  · replace hm := ifn hm c_29
                    refine lv_iconst (v := (0 : Int32)) hx hb dX9_shelf_79 (by decide) ?_
                    refine lv_istore (lv' := [(5, .int (0 : Int32)), (4, .int (1 : Int32)), (0, .ref (q 0)), (1, .int a1), (2, .int a2), (3, .int a3)]) hx hb dX9_shelf_80 hl (by decide) rfl (fun ls hl => ?_)
                    refine lv_aload_n hx hb dX9_shelf_82 rfl (lv_at hl 2 rfl) ?_
                    refine Rg_14 fx hC dX9_shelf_83 ?_
                    refine lv_iload_n hx hb dX9_shelf_86 rfl (lv_at hl 3 rfl) ?_
                    refine lv_iload hx hb dX9_shelf_87 (lv_at hl 0 rfl) ?_
                    refine lv_if_eq (tgt := 96) hx hb dX9_shelf_89 (by decide) (fun c_30 => ?_) (fun c_30 => ?_)
                    · refine lv_iload_n hx hb dX9_shelf_96 rfl (lv_at hl 4 rfl) ?_
                      refine lv_if_ne (tgt := 104) hx hb dX9_shelf_97 (by decide) (fun c_31 => ?_) (fun c_31 => ?_)
                      · refine lv_iconst (v := (2 : Int32)) hx hb dX9_shelf_104 (by decide) ?_
                        refine lv_aload_n hx hb dX9_shelf_105 rfl (lv_at hl 2 rfl) ?_
                        refine Rg_11 fx hC dX9_shelf_106 ?_
                        refine lv_iload_n hx hb dX9_shelf_109 rfl (lv_at hl 5 rfl) ?_
                        have h_32 := (gi_in hm).1
                        replace hm := (gi_in hm).2
                        refine Rl_11 fx hC h_32 dX9_shelf_110 ?_
                        refine lv_iadd hx hb dX9_shelf_111 ?_
                        have h_33 := (gi_in hm).1
                        replace hm := (gi_in hm).2
                        refine Rs_14 fx hC h_33 dX9_shelf_112 (fun H locs hC => ?_)
                        obtain ⟨τ_34, e_35⟩ : ∃ z, z = (rA τ 14 (a1).toNatClampNeg ((2 : Int32) + (τ.2 11 (a3).toNatClampNeg))) := ⟨_, rfl⟩
                        rw [← e_35] at hC
                        replace hm := nm_in hm e_35
                        refine lv_aload_n hx hb dX9_shelf_113 rfl (lv_at hl 2 rfl) ?_
                        refine Rg_15 fx hC dX9_shelf_114 ?_
                        refine lv_iload_n hx hb dX9_shelf_117 rfl (lv_at hl 3 rfl) ?_
                        refine lv_iload_n hx hb dX9_shelf_118 rfl (lv_at hl 4 rfl) ?_
                        refine lv_if_ne (tgt := 131) hx hb dX9_shelf_119 (by decide) (fun c_36 => ?_) (fun c_36 => ?_)
                        · refine lv_iconst (v := (0 : Int32)) hx hb dX9_shelf_131 (by decide) ?_
                          have h_37 := (gi_in hm).1
                          replace hm := (gi_in hm).2
                          refine Rs_15 fx hC h_37 dX9_shelf_132 (fun H locs hC => ?_)
                          obtain ⟨τ_38, e_39⟩ : ∃ z, z = (rA τ_34 15 (a1).toNatClampNeg (0 : Int32)) := ⟨_, rfl⟩
                          rw [← e_39] at hC
                          replace hm := nm_in hm e_39
                          refine lv_aload_n hx hb dX9_shelf_133 rfl (lv_at hl 2 rfl) ?_
                          refine Rg_16 fx hC dX9_shelf_134 ?_
                          refine lv_iload_n hx hb dX9_shelf_137 rfl (lv_at hl 3 rfl) ?_
                          refine lv_iload hx hb dX9_shelf_138 (lv_at hl 0 rfl) ?_
                          refine lv_if_eq (tgt := 147) hx hb dX9_shelf_140 (by decide) (fun c_40 => ?_) (fun c_40 => ?_)
                          · refine lv_iload_n hx hb dX9_shelf_147 rfl (lv_at hl 4 rfl) ?_
                            refine lv_if_ne (tgt := 159) hx hb dX9_shelf_148 (by decide) (fun c_41 => ?_) (fun c_41 => ?_)
                            · refine lv_aload_n hx hb dX9_shelf_159 rfl (lv_at hl 2 rfl) ?_
                              refine Rg_12 fx hC dX9_shelf_160 ?_
                              refine lv_iload_n hx hb dX9_shelf_163 rfl (lv_at hl 5 rfl) ?_
                              have h_42 := (gi_in hm).1
                              replace hm := (gi_in hm).2
                              refine Rl_12 fx hC h_42 dX9_shelf_164 ?_
                              have h_43 := (gi_in hm).1
                              replace hm := (gi_in hm).2
                              refine Rs_16 fx hC h_43 dX9_shelf_165 (fun H locs hC => ?_)
                              obtain ⟨τ_44, e_45⟩ : ∃ z, z = (rA τ_38 16 (a1).toNatClampNeg (τ_38.2 12 (a3).toNatClampNeg)) := ⟨_, rfl⟩
                              rw [← e_45] at hC
                              replace hm := nm_in hm e_45
                              refine lv_iconst (v := (1 : Int32)) hx hb dX9_shelf_166 (by decide) ?_
                              cases hm
                              exact g_iret fx hr hC rfl dX9_shelf_167
                            · exact absurd c_41 c_17
                          · exact absurd (by decide) c_40
                        · exact absurd c_36 c_17
                      · exact absurd c_31 c_17
                    · exact absurd (by decide) c_30
                  · replace hm := ifp hm c_29
                    refine lv_iconst (v := (1 : Int32)) hx hb dX9_shelf_75 (by decide) ?_
                    refine lv_goto (tgt := 80) hx hb dX9_shelf_76 (by decide) ?_
                    refine lv_istore (lv' := [(5, .int (1 : Int32)), (4, .int (1 : Int32)), (0, .ref (q 0)), (1, .int a1), (2, .int a2), (3, .int a3)]) hx hb dX9_shelf_80 hl (by decide) rfl (fun ls hl => ?_)
                    refine lv_aload_n hx hb dX9_shelf_82 rfl (lv_at hl 2 rfl) ?_
                    refine Rg_14 fx hC dX9_shelf_83 ?_
                    refine lv_iload_n hx hb dX9_shelf_86 rfl (lv_at hl 3 rfl) ?_
                    refine lv_iload hx hb dX9_shelf_87 (lv_at hl 0 rfl) ?_
                    refine lv_if_eq (tgt := 96) hx hb dX9_shelf_89 (by decide) (fun c_46 => ?_) (fun c_46 => ?_)
                    · exact absurd c_46 (by decide)
                    · refine lv_iconst (v := (0 : Int32)) hx hb dX9_shelf_92 (by decide) ?_
                      refine lv_goto (tgt := 112) hx hb dX9_shelf_93 (by decide) ?_
                      have h_47 := (gi_in hm).1
                      replace hm := (gi_in hm).2
                      refine Rs_14 fx hC h_47 dX9_shelf_112 (fun H locs hC => ?_)
                      obtain ⟨τ_48, e_49⟩ : ∃ z, z = (rA τ 14 (a1).toNatClampNeg (0 : Int32)) := ⟨_, rfl⟩
                      rw [← e_49] at hC
                      replace hm := nm_in hm e_49
                      refine lv_aload_n hx hb dX9_shelf_113 rfl (lv_at hl 2 rfl) ?_
                      refine Rg_15 fx hC dX9_shelf_114 ?_
                      refine lv_iload_n hx hb dX9_shelf_117 rfl (lv_at hl 3 rfl) ?_
                      refine lv_iload_n hx hb dX9_shelf_118 rfl (lv_at hl 4 rfl) ?_
                      refine lv_if_ne (tgt := 131) hx hb dX9_shelf_119 (by decide) (fun c_50 => ?_) (fun c_50 => ?_)
                      · refine lv_iconst (v := (0 : Int32)) hx hb dX9_shelf_131 (by decide) ?_
                        have h_51 := (gi_in hm).1
                        replace hm := (gi_in hm).2
                        refine Rs_15 fx hC h_51 dX9_shelf_132 (fun H locs hC => ?_)
                        obtain ⟨τ_52, e_53⟩ : ∃ z, z = (rA τ_48 15 (a1).toNatClampNeg (0 : Int32)) := ⟨_, rfl⟩
                        rw [← e_53] at hC
                        replace hm := nm_in hm e_53
                        refine lv_aload_n hx hb dX9_shelf_133 rfl (lv_at hl 2 rfl) ?_
                        refine Rg_16 fx hC dX9_shelf_134 ?_
                        refine lv_iload_n hx hb dX9_shelf_137 rfl (lv_at hl 3 rfl) ?_
                        refine lv_iload hx hb dX9_shelf_138 (lv_at hl 0 rfl) ?_
                        refine lv_if_eq (tgt := 147) hx hb dX9_shelf_140 (by decide) (fun c_54 => ?_) (fun c_54 => ?_)
                        · exact absurd c_54 (by decide)
                        · refine lv_iconst (v := (0 : Int32)) hx hb dX9_shelf_143 (by decide) ?_
                          refine lv_goto (tgt := 165) hx hb dX9_shelf_144 (by decide) ?_
                          have h_55 := (gi_in hm).1
                          replace hm := (gi_in hm).2
                          refine Rs_16 fx hC h_55 dX9_shelf_165 (fun H locs hC => ?_)
                          obtain ⟨τ_56, e_57⟩ : ∃ z, z = (rA τ_52 16 (a1).toNatClampNeg (0 : Int32)) := ⟨_, rfl⟩
                          rw [← e_57] at hC
                          replace hm := nm_in hm e_57
                          refine lv_iconst (v := (1 : Int32)) hx hb dX9_shelf_166 (by decide) ?_
                          cases hm
                          exact g_iret fx hr hC rfl dX9_shelf_167
                      · exact absurd c_50 c_17
            · exact absurd c_25 (by decide)
    · replace hm := ifp hm c_17
      refine lv_aload_n hx hb dX9_shelf_9 rfl (lv_at hl 0 rfl) ?_
      refine lv_iload_n hx hb dX9_shelf_10 rfl (lv_at hl 3 rfl) ?_
      refine g_callVi (k0 := 0) (ci := 9) (As := [.int a3]) (rest := []) fx hC rw_w (Rc_isFamily l τ a3) k_449 Rk_isFamily Rh_isFamily rfl rfl rfl ⟨rfl, rfl⟩ ⟨Nat.le_trans (Nat.le_of_ble_eq_true rfl) hR.1, Nat.le_trans (Nat.le_of_ble_eq_true rfl) hR.2⟩ hf rfl hl.1 rfl (Nat.le_of_ble_eq_true rfl) dX9_shelf_11 (fun H locs hC => ?_)
      refine lv_if_ne (tgt := 31) hx hb dX9_shelf_14 (by decide) (fun c_58 => ?_) (fun c_58 => ?_)
      · replace hm := ifn hm c_58
        refine lv_iconst (v := (1 : Int32)) hx hb dX9_shelf_31 (by decide) ?_
        refine lv_goto (tgt := 36) hx hb dX9_shelf_32 (by decide) ?_
        refine lv_istore (lv' := [(4, .int (1 : Int32)), (0, .ref (q 0)), (1, .int a1), (2, .int a2), (3, .int a3)]) hx hb dX9_shelf_36 hl (by decide) rfl (fun ls hl => ?_)
        refine lv_iload_n hx hb dX9_shelf_38 rfl (lv_at hl 2 rfl) ?_
        refine lv_iconst (v := (0 : Int32)) hx hb dX9_shelf_39 (by decide) ?_
        refine lv_iconst (v := (5 : Int32)) hx hb dX9_shelf_40 (by decide) ?_
        refine g_callSi (As := [.int a1, .int (0 : Int32), .int (5 : Int32)]) (rest := []) fx hC rw_w (Rc_in l rw_w τ a1 (0 : Int32) (5 : Int32)) k_140 Rk_in Rh_in ⟨rfl, rfl⟩ ⟨Nat.le_trans (Nat.le_of_ble_eq_true rfl) hR.1, Nat.le_trans (Nat.le_of_ble_eq_true rfl) hR.2⟩ hf rfl hl.1 rfl (Nat.le_of_ble_eq_true rfl) dX9_shelf_41 (fun H locs hC => ?_)
        refine lv_if_eq (tgt := 52) hx hb dX9_shelf_44 (by decide) (fun c_59 => ?_) (fun c_59 => ?_)
        · replace hm := ifp hm c_59
          refine lv_bipush (v := (-2 : Int32)) hx hb dX9_shelf_52 (by decide) ?_
          cases hm
          exact g_iret fx hr hC rfl dX9_shelf_54
        · replace hm := ifn hm c_59
          refine lv_iload hx hb dX9_shelf_47 (lv_at hl 0 rfl) ?_
          refine lv_if_ne (tgt := 55) hx hb dX9_shelf_49 (by decide) (fun c_60 => ?_) (fun c_60 => ?_)
          · refine lv_iload_n hx hb dX9_shelf_55 rfl (lv_at hl 3 rfl) ?_
            refine lv_iconst (v := (2 : Int32)) hx hb dX9_shelf_56 (by decide) ?_
            refine lv_icmp_eq (tgt := 75) hx hb dX9_shelf_57 (by decide) (fun c_61 => ?_) (fun c_61 => ?_)
            · exact absurd c_61 c_1
            · refine lv_iload_n hx hb dX9_shelf_60 rfl (lv_at hl 3 rfl) ?_
              refine lv_iconst (v := (1 : Int32)) hx hb dX9_shelf_61 (by decide) ?_
              refine lv_icmp_ne (tgt := 79) hx hb dX9_shelf_62 (by decide) (fun c_62 => ?_) (fun c_62 => ?_)
              · refine lv_iconst (v := (0 : Int32)) hx hb dX9_shelf_79 (by decide) ?_
                refine lv_istore (lv' := [(5, .int (0 : Int32)), (4, .int (1 : Int32)), (0, .ref (q 0)), (1, .int a1), (2, .int a2), (3, .int a3)]) hx hb dX9_shelf_80 hl (by decide) rfl (fun ls hl => ?_)
                refine lv_aload_n hx hb dX9_shelf_82 rfl (lv_at hl 2 rfl) ?_
                refine Rg_14 fx hC dX9_shelf_83 ?_
                refine lv_iload_n hx hb dX9_shelf_86 rfl (lv_at hl 3 rfl) ?_
                refine lv_iload hx hb dX9_shelf_87 (lv_at hl 0 rfl) ?_
                refine lv_if_eq (tgt := 96) hx hb dX9_shelf_89 (by decide) (fun c_63 => ?_) (fun c_63 => ?_)
                · refine lv_iload_n hx hb dX9_shelf_96 rfl (lv_at hl 4 rfl) ?_
                  refine lv_if_ne (tgt := 104) hx hb dX9_shelf_97 (by decide) (fun c_64 => ?_) (fun c_64 => ?_)
                  · exact absurd c_17 c_64
                  · refine lv_iconst (v := (1 : Int32)) hx hb dX9_shelf_100 (by decide) ?_
                    refine lv_goto (tgt := 112) hx hb dX9_shelf_101 (by decide) ?_
                    have h_65 := (gi_in hm).1
                    replace hm := (gi_in hm).2
                    refine Rs_14 fx hC h_65 dX9_shelf_112 (fun H locs hC => ?_)
                    obtain ⟨τ_66, e_67⟩ : ∃ z, z = (rA τ 14 (a1).toNatClampNeg (1 : Int32)) := ⟨_, rfl⟩
                    rw [← e_67] at hC
                    replace hm := nm_in hm e_67
                    refine lv_aload_n hx hb dX9_shelf_113 rfl (lv_at hl 2 rfl) ?_
                    refine Rg_15 fx hC dX9_shelf_114 ?_
                    refine lv_iload_n hx hb dX9_shelf_117 rfl (lv_at hl 3 rfl) ?_
                    refine lv_iload_n hx hb dX9_shelf_118 rfl (lv_at hl 4 rfl) ?_
                    refine lv_if_ne (tgt := 131) hx hb dX9_shelf_119 (by decide) (fun c_68 => ?_) (fun c_68 => ?_)
                    · exact absurd c_17 c_68
                    · refine lv_aload_n hx hb dX9_shelf_122 rfl (lv_at hl 2 rfl) ?_
                      refine Rg_7 fx hC dX9_shelf_123 ?_
                      refine lv_iload_n hx hb dX9_shelf_126 rfl (lv_at hl 5 rfl) ?_
                      have h_69 := (gi_in hm).1
                      replace hm := (gi_in hm).2
                      refine Rl_7 fx hC h_69 dX9_shelf_127 ?_
                      refine lv_goto (tgt := 132) hx hb dX9_shelf_128 (by decide) ?_
                      have h_70 := (gi_in hm).1
                      replace hm := (gi_in hm).2
                      refine Rs_15 fx hC h_70 dX9_shelf_132 (fun H locs hC => ?_)
                      obtain ⟨τ_71, e_72⟩ : ∃ z, z = (rA τ_66 15 (a1).toNatClampNeg (τ_66.2 7 (a3).toNatClampNeg)) := ⟨_, rfl⟩
                      rw [← e_72] at hC
                      replace hm := nm_in hm e_72
                      refine lv_aload_n hx hb dX9_shelf_133 rfl (lv_at hl 2 rfl) ?_
                      refine Rg_16 fx hC dX9_shelf_134 ?_
                      refine lv_iload_n hx hb dX9_shelf_137 rfl (lv_at hl 3 rfl) ?_
                      refine lv_iload hx hb dX9_shelf_138 (lv_at hl 0 rfl) ?_
                      refine lv_if_eq (tgt := 147) hx hb dX9_shelf_140 (by decide) (fun c_73 => ?_) (fun c_73 => ?_)
                      · refine lv_iload_n hx hb dX9_shelf_147 rfl (lv_at hl 4 rfl) ?_
                        refine lv_if_ne (tgt := 159) hx hb dX9_shelf_148 (by decide) (fun c_74 => ?_) (fun c_74 => ?_)
                        · exact absurd c_17 c_74
                        · refine lv_aload_n hx hb dX9_shelf_151 rfl (lv_at hl 2 rfl) ?_
                          refine lv_iload_n hx hb dX9_shelf_152 rfl (lv_at hl 5 rfl) ?_
                          obtain ⟨r_76, e_75, hm⟩ := b1_in hm
                          refine g_callVi (k0 := 0) (ci := 9) (As := [.int a3]) (rest := [.int a1, .ref (q 16)]) fx hC rw_w (Rc_count0 l τ_71 a3 e_75) k_548 Rk_count0 Rh_count0 rfl rfl rfl ⟨rfl, rfl⟩ ⟨Nat.le_trans (Nat.le_of_ble_eq_true rfl) hR.1, Nat.le_trans (Nat.le_of_ble_eq_true rfl) hR.2⟩ hf rfl hl.1 rfl (Nat.le_of_ble_eq_true rfl) dX9_shelf_153 (fun H locs hC => ?_)
                          refine lv_goto (tgt := 165) hx hb dX9_shelf_156 (by decide) ?_
                          have h_77 := (gi_in hm).1
                          replace hm := (gi_in hm).2
                          refine Rs_16 fx hC h_77 dX9_shelf_165 (fun H locs hC => ?_)
                          obtain ⟨τ_78, e_79⟩ : ∃ z, z = (rA τ_71 16 (a1).toNatClampNeg r_76) := ⟨_, rfl⟩
                          rw [← e_79] at hC
                          replace hm := nm_in hm e_79
                          refine lv_iconst (v := (1 : Int32)) hx hb dX9_shelf_166 (by decide) ?_
                          cases hm
                          exact g_iret fx hr hC rfl dX9_shelf_167
                      · exact absurd (by decide) c_73
                · exact absurd (by decide) c_63
              · exact absurd c_62 (fun z => absurd (c_17.symm.trans z) (by decide))
          · exact absurd c_60 (by decide)
      · replace hm := ifp hm c_58
        refine lv_iload_n hx hb dX9_shelf_17 rfl (lv_at hl 2 rfl) ?_
        refine lv_iconst (v := (1 : Int32)) hx hb dX9_shelf_18 (by decide) ?_
        refine lv_icmp_ne (tgt := 35) hx hb dX9_shelf_19 (by decide) (fun c_80 => ?_) (fun c_80 => ?_)
        · refine lv_iconst (v := (0 : Int32)) hx hb dX9_shelf_35 (by decide) ?_
          refine lv_istore (lv' := [(4, .int (0 : Int32)), (0, .ref (q 0)), (1, .int a1), (2, .int a2), (3, .int a3)]) hx hb dX9_shelf_36 hl (by decide) rfl (fun ls hl => ?_)
          refine lv_iload_n hx hb dX9_shelf_38 rfl (lv_at hl 2 rfl) ?_
          refine lv_iconst (v := (0 : Int32)) hx hb dX9_shelf_39 (by decide) ?_
          refine lv_iconst (v := (5 : Int32)) hx hb dX9_shelf_40 (by decide) ?_
          refine g_callSi (As := [.int a1, .int (0 : Int32), .int (5 : Int32)]) (rest := []) fx hC rw_w (Rc_in l rw_w τ a1 (0 : Int32) (5 : Int32)) k_140 Rk_in Rh_in ⟨rfl, rfl⟩ ⟨Nat.le_trans (Nat.le_of_ble_eq_true rfl) hR.1, Nat.le_trans (Nat.le_of_ble_eq_true rfl) hR.2⟩ hf rfl hl.1 rfl (Nat.le_of_ble_eq_true rfl) dX9_shelf_41 (fun H locs hC => ?_)
          refine lv_if_eq (tgt := 52) hx hb dX9_shelf_44 (by decide) (fun c_81 => ?_) (fun c_81 => ?_)
          · replace hm := ifp hm c_81
            refine lv_bipush (v := (-2 : Int32)) hx hb dX9_shelf_52 (by decide) ?_
            cases hm
            exact g_iret fx hr hC rfl dX9_shelf_54
          · replace hm := ifn hm c_81
            refine lv_iload hx hb dX9_shelf_47 (lv_at hl 0 rfl) ?_
            refine lv_if_ne (tgt := 55) hx hb dX9_shelf_49 (by decide) (fun c_82 => ?_) (fun c_82 => ?_)
            · exact absurd (by decide) c_82
            · refine lv_bipush (v := (-2 : Int32)) hx hb dX9_shelf_52 (by decide) ?_
              cases hm
              exact g_iret fx hr hC rfl dX9_shelf_54
        · exact absurd c_80 (fun z => absurd (c_17.symm.trans z) (by decide))
def Rm_isOf (a1 : Int32) (a2 : Int32) : Int32 :=
  if a2 = (0 : Int32) then ((1 : Int32)) else (if a1 = a2 then ((1 : Int32)) else (if a1 = (2 : Int32) then (if a2 = (1 : Int32) then ((1 : Int32)) else ((0 : Int32))) else (if a1 = (5 : Int32) then (if a2 = (3 : Int32) then ((1 : Int32)) else ((0 : Int32))) else ((0 : Int32)))))
abbrev Rrm_isOf : Room := { frames := 0, cells := 0, slots := 0, locals := 0 }
set_option maxRecDepth 100000 in
set_option maxHeartbeats 4000000 in
theorem Rc_isOf (l : Launch) {D : va_G} {cy : Nat → ClassId} {ad : List Nat} {σ : Type} {wd : σ → va_W} (hw : ∀ x y : σ, (wd x).map (·.1) = (wd y).map (·.1)) (τ : σ) (a1 : Int32) (a2 : Int32) : GM l yX9_isOf cX9_isOf 2 (some .boolean) Rrm_isOf D cy wd ad [.int a1, .int a2] τ (some (.int (Rm_isOf a1 a2))) τ := by
  refine g_start RX9 rfl (by decide) (Nat.le_of_ble_eq_true rfl) ?_
  intro p e s m args below meth c fx hr hC ls hl
  have hx := fx.1
  have hb := fx.2.1
  have hR : 0 ≤ (Rrm_isOf).frames ∧ 0 ≤ (Rrm_isOf).locals := ⟨Nat.le_refl _, Nat.le_refl _⟩
  have hf : 0 ≤ (Rrm_isOf).cells ∧ 0 ≤ (Rrm_isOf).slots := ⟨Nat.zero_le _, Nat.zero_le _⟩
  have hl : lv_has ls 2 [(0, .int a1), (1, .int a2)] := hl
  obtain ⟨o, hm⟩ : ∃ z, z = Rm_isOf a1 a2 := ⟨_, rfl⟩
  rw [← hm]
  replace hm := hm.symm
  unfold Rm_isOf at hm
  refine lv_iload_n hx hb dX9_isOf_0 rfl (lv_at hl 1 rfl) ?_
  refine lv_if_eq (tgt := 29) hx hb dX9_isOf_1 (by decide) (fun c_1 => ?_) (fun c_1 => ?_)
  · replace hm := ifp hm c_1
    refine lv_iconst (v := (1 : Int32)) hx hb dX9_isOf_29 (by decide) ?_
    refine lv_goto (tgt := 34) hx hb dX9_isOf_30 (by decide) ?_
    exact g_zret fx hr rfl hC (by rw [← hm]) dX9_isOf_34
  · replace hm := ifn hm c_1
    refine lv_iload_n hx hb dX9_isOf_4 rfl (lv_at hl 0 rfl) ?_
    refine lv_iload_n hx hb dX9_isOf_5 rfl (lv_at hl 1 rfl) ?_
    refine lv_icmp_eq (tgt := 29) hx hb dX9_isOf_6 (by decide) (fun c_2 => ?_) (fun c_2 => ?_)
    · replace hm := ifp hm c_2
      refine lv_iconst (v := (1 : Int32)) hx hb dX9_isOf_29 (by decide) ?_
      refine lv_goto (tgt := 34) hx hb dX9_isOf_30 (by decide) ?_
      exact g_zret fx hr rfl hC (by rw [← hm]) dX9_isOf_34
    · replace hm := ifn hm c_2
      refine lv_iload_n hx hb dX9_isOf_9 rfl (lv_at hl 0 rfl) ?_
      refine lv_iconst (v := (2 : Int32)) hx hb dX9_isOf_10 (by decide) ?_
      refine lv_icmp_ne (tgt := 19) hx hb dX9_isOf_11 (by decide) (fun c_3 => ?_) (fun c_3 => ?_)
      · replace hm := ifn hm c_3
        refine lv_iload_n hx hb dX9_isOf_19 rfl (lv_at hl 0 rfl) ?_
        refine lv_iconst (v := (5 : Int32)) hx hb dX9_isOf_20 (by decide) ?_
        refine lv_icmp_ne (tgt := 33) hx hb dX9_isOf_21 (by decide) (fun c_4 => ?_) (fun c_4 => ?_)
        · replace hm := ifn hm c_4
          refine lv_iconst (v := (0 : Int32)) hx hb dX9_isOf_33 (by decide) ?_
          exact g_zret fx hr rfl hC (by rw [← hm]) dX9_isOf_34
        · replace hm := ifp hm c_4
          refine lv_iload_n hx hb dX9_isOf_24 rfl (lv_at hl 1 rfl) ?_
          refine lv_iconst (v := (3 : Int32)) hx hb dX9_isOf_25 (by decide) ?_
          refine lv_icmp_ne (tgt := 33) hx hb dX9_isOf_26 (by decide) (fun c_5 => ?_) (fun c_5 => ?_)
          · replace hm := ifn hm c_5
            refine lv_iconst (v := (0 : Int32)) hx hb dX9_isOf_33 (by decide) ?_
            exact g_zret fx hr rfl hC (by rw [← hm]) dX9_isOf_34
          · replace hm := ifp hm c_5
            refine lv_iconst (v := (1 : Int32)) hx hb dX9_isOf_29 (by decide) ?_
            refine lv_goto (tgt := 34) hx hb dX9_isOf_30 (by decide) ?_
            exact g_zret fx hr rfl hC (by rw [← hm]) dX9_isOf_34
      · replace hm := ifp hm c_3
        refine lv_iload_n hx hb dX9_isOf_14 rfl (lv_at hl 1 rfl) ?_
        refine lv_iconst (v := (1 : Int32)) hx hb dX9_isOf_15 (by decide) ?_
        refine lv_icmp_eq (tgt := 29) hx hb dX9_isOf_16 (by decide) (fun c_6 => ?_) (fun c_6 => ?_)
        · replace hm := ifp hm c_6
          refine lv_iconst (v := (1 : Int32)) hx hb dX9_isOf_29 (by decide) ?_
          refine lv_goto (tgt := 34) hx hb dX9_isOf_30 (by decide) ?_
          exact g_zret fx hr rfl hC (by rw [← hm]) dX9_isOf_34
        · replace hm := ifn hm c_6
          refine lv_iload_n hx hb dX9_isOf_19 rfl (lv_at hl 0 rfl) ?_
          refine lv_iconst (v := (5 : Int32)) hx hb dX9_isOf_20 (by decide) ?_
          refine lv_icmp_ne (tgt := 33) hx hb dX9_isOf_21 (by decide) (fun c_7 => ?_) (fun c_7 => ?_)
          · refine lv_iconst (v := (0 : Int32)) hx hb dX9_isOf_33 (by decide) ?_
            exact g_zret fx hr rfl hC (by rw [← hm]) dX9_isOf_34
          · exact absurd c_7 (fun z => absurd (c_3.symm.trans z) (by decide))
theorem Rz_isOf (a1 : Int32) (a2 : Int32) : narrow .boolean (.int (Rm_isOf a1 a2)) = .int (Rm_isOf a1 a2) := by
  unfold Rm_isOf
  repeat' (first | rfl | split)
def Rm_taken (τ : RS) (a1 : Int32) (a2 : Int32) : Option Int32 :=
  if (Rm_in a1 (0 : Int32) (5 : Int32)) = (0 : Int32) then (some (-2 : Int32)) else (if (Rm_in a2 (0 : Int32) (8 : Int32)) = (0 : Int32) then (some (-2 : Int32)) else (gi a1 6 (if (τ.2 14 (a1).toNatClampNeg) = (0 : Int32) then (some (-11 : Int32)) else (if (6 : Int32) ≤ a2 then (if (τ.2 14 (a1).toNatClampNeg) = (a2 - (4 : Int32)) then (gi a1 6 (some (τ.2 16 (a1).toNatClampNeg))) else (some (-13 : Int32))) else (if (τ.2 14 (a1).toNatClampNeg) = (1 : Int32) then (gi a1 6 (if (Rm_isOf (τ.2 15 (a1).toNatClampNeg) a2) = (0 : Int32) then (some (-13 : Int32)) else (gi a1 6 (some (τ.2 16 (a1).toNatClampNeg))))) else (some (-13 : Int32)))))))
abbrev Rrm_taken : Room := { frames := 1, cells := 0, slots := 0, locals := 22 }
set_option maxRecDepth 100000 in
set_option maxHeartbeats 4000000 in
theorem Rc_taken (l : Launch) {D : va_G} {cy : Nat → ClassId} {ad : List Nat} {q : Nat → Nat} {X : va_W} (τ : RS) (a1 : Int32) (a2 : Int32) {o : Int32} (hm : Rm_taken τ a1 a2 = some o) : GM l yX9_taken cX9_taken 5 (some .int) Rrm_taken D cy (rwd cy q X) ad [.ref (q 0), .int a1, .int a2] τ (some (.int o)) τ := by
  refine g_start RX9 rfl (by decide) (Nat.le_of_ble_eq_true rfl) ?_
  intro p e s m args below meth c fx hr hC ls hl
  have hx := fx.1
  have hb := fx.2.1
  have hR : 1 ≤ (Rrm_taken).frames ∧ 22 ≤ (Rrm_taken).locals := ⟨Nat.le_refl _, Nat.le_refl _⟩
  have hf : 0 ≤ (Rrm_taken).cells ∧ 0 ≤ (Rrm_taken).slots := ⟨Nat.zero_le _, Nat.zero_le _⟩
  have hl : lv_has ls 5 [(0, .ref (q 0)), (1, .int a1), (2, .int a2)] := hl
  unfold Rm_taken at hm
  refine lv_iload_n hx hb dX9_taken_0 rfl (lv_at hl 1 rfl) ?_
  refine lv_iconst (v := (0 : Int32)) hx hb dX9_taken_1 (by decide) ?_
  refine lv_iconst (v := (5 : Int32)) hx hb dX9_taken_2 (by decide) ?_
  refine g_callSi (As := [.int a1, .int (0 : Int32), .int (5 : Int32)]) (rest := []) fx hC rw_w (Rc_in l rw_w τ a1 (0 : Int32) (5 : Int32)) k_140 Rk_in Rh_in ⟨rfl, rfl⟩ ⟨Nat.le_trans (Nat.le_of_ble_eq_true rfl) hR.1, Nat.le_trans (Nat.le_of_ble_eq_true rfl) hR.2⟩ hf rfl hl.1 rfl (Nat.le_of_ble_eq_true rfl) dX9_taken_3 (fun H locs hC => ?_)
  refine lv_if_eq (tgt := 19) hx hb dX9_taken_6 (by decide) (fun c_1 => ?_) (fun c_1 => ?_)
  · replace hm := ifp hm c_1
    refine lv_bipush (v := (-2 : Int32)) hx hb dX9_taken_19 (by decide) ?_
    cases hm
    exact g_iret fx hr hC rfl dX9_taken_21
  · replace hm := ifn hm c_1
    refine lv_iload_n hx hb dX9_taken_9 rfl (lv_at hl 2 rfl) ?_
    refine lv_iconst (v := (0 : Int32)) hx hb dX9_taken_10 (by decide) ?_
    refine lv_bipush (v := (8 : Int32)) hx hb dX9_taken_11 (by decide) ?_
    refine g_callSi (As := [.int a2, .int (0 : Int32), .int (8 : Int32)]) (rest := []) fx hC rw_w (Rc_in l rw_w τ a2 (0 : Int32) (8 : Int32)) k_140 Rk_in Rh_in ⟨rfl, rfl⟩ ⟨Nat.le_trans (Nat.le_of_ble_eq_true rfl) hR.1, Nat.le_trans (Nat.le_of_ble_eq_true rfl) hR.2⟩ hf rfl hl.1 rfl (Nat.le_of_ble_eq_true rfl) dX9_taken_13 (fun H locs hC => ?_)
    refine lv_if_ne (tgt := 22) hx hb dX9_taken_16 (by decide) (fun c_2 => ?_) (fun c_2 => ?_)
    · replace hm := ifn hm c_2
      refine lv_aload_n hx hb dX9_taken_22 rfl (lv_at hl 0 rfl) ?_
      refine Rg_14 fx hC dX9_taken_23 ?_
      refine lv_iload_n hx hb dX9_taken_26 rfl (lv_at hl 1 rfl) ?_
      have h_3 := (gi_in hm).1
      replace hm := (gi_in hm).2
      refine Rl_14 fx hC h_3 dX9_taken_27 ?_
      refine lv_istore_n (lv' := [(3, .int (τ.2 14 (a1).toNatClampNeg)), (0, .ref (q 0)), (1, .int a1), (2, .int a2)]) hx hb dX9_taken_28 rfl hl (by decide) rfl (fun ls hl => ?_)
      refine lv_iload_n hx hb dX9_taken_29 rfl (lv_at hl 0 rfl) ?_
      refine lv_if_ne (tgt := 36) hx hb dX9_taken_30 (by decide) (fun c_4 => ?_) (fun c_4 => ?_)
      · replace hm := ifn hm c_4
        refine lv_iload_n hx hb dX9_taken_36 rfl (lv_at hl 3 rfl) ?_
        refine lv_bipush (v := (6 : Int32)) hx hb dX9_taken_37 (by decide) ?_
        refine lv_icmp_ge (tgt := 68) hx hb dX9_taken_39 (by decide) (fun c_5 => ?_) (fun c_5 => ?_)
        · replace hm := ifp hm c_5
          refine lv_iload_n hx hb dX9_taken_68 rfl (lv_at hl 0 rfl) ?_
          refine lv_iload_n hx hb dX9_taken_69 rfl (lv_at hl 3 rfl) ?_
          refine lv_iconst (v := (4 : Int32)) hx hb dX9_taken_70 (by decide) ?_
          refine lv_isub hx hb dX9_taken_71 ?_
          refine lv_icmp_ne (tgt := 79) hx hb dX9_taken_72 (by decide) (fun c_6 => ?_) (fun c_6 => ?_)
          · replace hm := ifn hm c_6
            refine lv_iconst (v := (0 : Int32)) hx hb dX9_taken_79 (by decide) ?_
            refine lv_istore (lv' := [(4, .int (0 : Int32)), (3, .int (τ.2 14 (a1).toNatClampNeg)), (0, .ref (q 0)), (1, .int a1), (2, .int a2)]) hx hb dX9_taken_80 hl (by decide) rfl (fun ls hl => ?_)
            refine lv_iload hx hb dX9_taken_82 (lv_at hl 0 rfl) ?_
            refine lv_if_eq (tgt := 96) hx hb dX9_taken_84 (by decide) (fun c_7 => ?_) (fun c_7 => ?_)
            · refine lv_bipush (v := (-13 : Int32)) hx hb dX9_taken_96 (by decide) ?_
              cases hm
              exact g_iret fx hr hC rfl dX9_taken_98
            · exact absurd (by decide) c_7
          · replace hm := ifp hm c_6
            refine lv_iconst (v := (1 : Int32)) hx hb dX9_taken_75 (by decide) ?_
            refine lv_goto (tgt := 80) hx hb dX9_taken_76 (by decide) ?_
            refine lv_istore (lv' := [(4, .int (1 : Int32)), (3, .int (τ.2 14 (a1).toNatClampNeg)), (0, .ref (q 0)), (1, .int a1), (2, .int a2)]) hx hb dX9_taken_80 hl (by decide) rfl (fun ls hl => ?_)
            refine lv_iload hx hb dX9_taken_82 (lv_at hl 0 rfl) ?_
            refine lv_if_eq (tgt := 96) hx hb dX9_taken_84 (by decide) (fun c_8 => ?_) (fun c_8 => ?_)
            · exact absurd c_8 (by decide)
            · refine lv_aload_n hx hb dX9_taken_87 rfl (lv_at hl 2 rfl) ?_
              refine Rg_16 fx hC dX9_taken_88 ?_
              refine lv_iload_n hx hb dX9_taken_91 rfl (lv_at hl 3 rfl) ?_
              have h_9 := (gi_in hm).1
              replace hm := (gi_in hm).2
              refine Rl_16 fx hC h_9 dX9_taken_92 ?_
              refine lv_goto (tgt := 98) hx hb dX9_taken_93 (by decide) ?_
              cases hm
              exact g_iret fx hr hC rfl dX9_taken_98
        · replace hm := ifn hm c_5
          refine lv_iload_n hx hb dX9_taken_42 rfl (lv_at hl 0 rfl) ?_
          refine lv_iconst (v := (1 : Int32)) hx hb dX9_taken_43 (by decide) ?_
          refine lv_icmp_ne (tgt := 64) hx hb dX9_taken_44 (by decide) (fun c_10 => ?_) (fun c_10 => ?_)
          · replace hm := ifn hm c_10
            refine lv_iconst (v := (0 : Int32)) hx hb dX9_taken_64 (by decide) ?_
            refine lv_goto (tgt := 80) hx hb dX9_taken_65 (by decide) ?_
            refine lv_istore (lv' := [(4, .int (0 : Int32)), (3, .int (τ.2 14 (a1).toNatClampNeg)), (0, .ref (q 0)), (1, .int a1), (2, .int a2)]) hx hb dX9_taken_80 hl (by decide) rfl (fun ls hl => ?_)
            refine lv_iload hx hb dX9_taken_82 (lv_at hl 0 rfl) ?_
            refine lv_if_eq (tgt := 96) hx hb dX9_taken_84 (by decide) (fun c_11 => ?_) (fun c_11 => ?_)
            · refine lv_bipush (v := (-13 : Int32)) hx hb dX9_taken_96 (by decide) ?_
              cases hm
              exact g_iret fx hr hC rfl dX9_taken_98
            · exact absurd (by decide) c_11
          · replace hm := ifp hm c_10
            refine lv_aload_n hx hb dX9_taken_47 rfl (lv_at hl 1 rfl) ?_
            refine Rg_15 fx hC dX9_taken_48 ?_
            refine lv_iload_n hx hb dX9_taken_51 rfl (lv_at hl 2 rfl) ?_
            have h_12 := (gi_in hm).1
            replace hm := (gi_in hm).2
            refine Rl_15 fx hC h_12 dX9_taken_52 ?_
            refine lv_iload_n hx hb dX9_taken_53 rfl (lv_at hl 3 rfl) ?_
            refine g_callSi (As := [.int (τ.2 15 (a1).toNatClampNeg), .int a2]) (rest := []) fx hC rw_w (Rc_isOf l rw_w τ (τ.2 15 (a1).toNatClampNeg) a2) k_1072 Rk_isOf Rh_isOf ⟨rfl, rfl⟩ ⟨Nat.le_trans (Nat.le_of_ble_eq_true rfl) hR.1, Nat.le_trans (Nat.le_of_ble_eq_true rfl) hR.2⟩ hf rfl hl.1 rfl (Nat.le_of_ble_eq_true rfl) dX9_taken_54 (fun H locs hC => ?_)
            refine lv_if_eq (tgt := 64) hx hb dX9_taken_57 (by decide) (fun c_13 => ?_) (fun c_13 => ?_)
            · replace hm := ifp hm c_13
              refine lv_iconst (v := (0 : Int32)) hx hb dX9_taken_64 (by decide) ?_
              refine lv_goto (tgt := 80) hx hb dX9_taken_65 (by decide) ?_
              refine lv_istore (lv' := [(4, .int (0 : Int32)), (3, .int (τ.2 14 (a1).toNatClampNeg)), (0, .ref (q 0)), (1, .int a1), (2, .int a2)]) hx hb dX9_taken_80 hl (by decide) rfl (fun ls hl => ?_)
              refine lv_iload hx hb dX9_taken_82 (lv_at hl 0 rfl) ?_
              refine lv_if_eq (tgt := 96) hx hb dX9_taken_84 (by decide) (fun c_14 => ?_) (fun c_14 => ?_)
              · refine lv_bipush (v := (-13 : Int32)) hx hb dX9_taken_96 (by decide) ?_
                cases hm
                exact g_iret fx hr hC rfl dX9_taken_98
              · exact absurd (by decide) c_14
            · replace hm := ifn hm c_13
              refine lv_iconst (v := (1 : Int32)) hx hb dX9_taken_60 (by decide) ?_
              refine lv_goto (tgt := 80) hx hb dX9_taken_61 (by decide) ?_
              refine lv_istore (lv' := [(4, .int (1 : Int32)), (3, .int (τ.2 14 (a1).toNatClampNeg)), (0, .ref (q 0)), (1, .int a1), (2, .int a2)]) hx hb dX9_taken_80 hl (by decide) rfl (fun ls hl => ?_)
              refine lv_iload hx hb dX9_taken_82 (lv_at hl 0 rfl) ?_
              refine lv_if_eq (tgt := 96) hx hb dX9_taken_84 (by decide) (fun c_15 => ?_) (fun c_15 => ?_)
              · exact absurd c_15 (by decide)
              · refine lv_aload_n hx hb dX9_taken_87 rfl (lv_at hl 2 rfl) ?_
                refine Rg_16 fx hC dX9_taken_88 ?_
                refine lv_iload_n hx hb dX9_taken_91 rfl (lv_at hl 3 rfl) ?_
                have h_16 := (gi_in hm).1
                replace hm := (gi_in hm).2
                refine Rl_16 fx hC h_16 dX9_taken_92 ?_
                refine lv_goto (tgt := 98) hx hb dX9_taken_93 (by decide) ?_
                cases hm
                exact g_iret fx hr hC rfl dX9_taken_98
      · replace hm := ifp hm c_4
        refine lv_bipush (v := (-11 : Int32)) hx hb dX9_taken_33 (by decide) ?_
        cases hm
        exact g_iret fx hr hC rfl dX9_taken_35
    · replace hm := ifp hm c_2
      refine lv_bipush (v := (-2 : Int32)) hx hb dX9_taken_19 (by decide) ?_
      cases hm
      exact g_iret fx hr hC rfl dX9_taken_21
def Rm_ran (τ : RS) (a1 : Int32) : Option RS :=
  if (40 : Int32) ≤ (τ.1 18) then (nm (rS τ 18 ((τ.1 18) + (1 : Int32))) (fun τ_2 => some τ_2)) else (gi (τ.1 18) 40 (nm (rA τ 17 ((τ.1 18)).toNatClampNeg a1) (fun τ_5 => nm (rS τ_5 18 ((τ_5.1 18) + (1 : Int32))) (fun τ_7 => some τ_7))))
abbrev Rrm_ran : Room := { frames := 0, cells := 0, slots := 0, locals := 0 }
set_option maxRecDepth 100000 in
set_option maxHeartbeats 4000000 in
theorem Rc_ran (l : Launch) {D : va_G} {cy : Nat → ClassId} {ad : List Nat} {q : Nat → Nat} {X : va_W} (τ : RS) (a1 : Int32) {o : RS} (hm : Rm_ran τ a1 = some o) : GM l yX9_ran cX9_ran 2 none Rrm_ran D cy (rwd cy q X) ad [.ref (q 0), .int a1] τ none o := by
  refine g_start RX9 rfl (by decide) (Nat.le_of_ble_eq_true rfl) ?_
  intro p e s m args below meth c fx hr hC ls hl
  have hx := fx.1
  have hb := fx.2.1
  have hR : 0 ≤ (Rrm_ran).frames ∧ 0 ≤ (Rrm_ran).locals := ⟨Nat.le_refl _, Nat.le_refl _⟩
  have hf : 0 ≤ (Rrm_ran).cells ∧ 0 ≤ (Rrm_ran).slots := ⟨Nat.zero_le _, Nat.zero_le _⟩
  have hl : lv_has ls 2 [(0, .ref (q 0)), (1, .int a1)] := hl
  unfold Rm_ran at hm
  refine lv_aload_n hx hb dX9_ran_0 rfl (lv_at hl 0 rfl) ?_
  refine Rg_18 fx hC dX9_ran_1 ?_
  refine lv_bipush (v := (40 : Int32)) hx hb dX9_ran_4 (by decide) ?_
  refine lv_icmp_ge (tgt := 19) hx hb dX9_ran_6 (by decide) (fun c_1 => ?_) (fun c_1 => ?_)
  · replace hm := ifp hm c_1
    refine lv_aload_n hx hb dX9_ran_19 rfl (lv_at hl 0 rfl) ?_
    refine lv_dup hx hb dX9_ran_20 rfl ?_
    refine Rg_18 fx hC dX9_ran_21 ?_
    refine lv_iconst (v := (1 : Int32)) hx hb dX9_ran_24 (by decide) ?_
    refine lv_iadd hx hb dX9_ran_25 ?_
    refine Rp_18 fx hC dX9_ran_26 (fun H locs hC => ?_)
    obtain ⟨τ_2, e_3⟩ : ∃ z, z = (rS τ 18 ((τ.1 18) + (1 : Int32))) := ⟨_, rfl⟩
    rw [← e_3] at hC
    replace hm := nm_in hm e_3
    cases hm
    exact g_vret fx hr hC rfl dX9_ran_29
  · replace hm := ifn hm c_1
    refine lv_aload_n hx hb dX9_ran_9 rfl (lv_at hl 0 rfl) ?_
    refine Rg_17 fx hC dX9_ran_10 ?_
    refine lv_aload_n hx hb dX9_ran_13 rfl (lv_at hl 0 rfl) ?_
    refine Rg_18 fx hC dX9_ran_14 ?_
    refine lv_iload_n hx hb dX9_ran_17 rfl (lv_at hl 1 rfl) ?_
    have h_4 := (gi_in hm).1
    replace hm := (gi_in hm).2
    refine Rs_17 fx hC h_4 dX9_ran_18 (fun H locs hC => ?_)
    obtain ⟨τ_5, e_6⟩ : ∃ z, z = (rA τ 17 ((τ.1 18)).toNatClampNeg a1) := ⟨_, rfl⟩
    rw [← e_6] at hC
    replace hm := nm_in hm e_6
    refine lv_aload_n hx hb dX9_ran_19 rfl (lv_at hl 0 rfl) ?_
    refine lv_dup hx hb dX9_ran_20 rfl ?_
    refine Rg_18 fx hC dX9_ran_21 ?_
    refine lv_iconst (v := (1 : Int32)) hx hb dX9_ran_24 (by decide) ?_
    refine lv_iadd hx hb dX9_ran_25 ?_
    refine Rp_18 fx hC dX9_ran_26 (fun H locs hC => ?_)
    obtain ⟨τ_7, e_8⟩ : ∃ z, z = (rS τ_5 18 ((τ_5.1 18) + (1 : Int32))) := ⟨_, rfl⟩
    rw [← e_8] at hC
    replace hm := nm_in hm e_8
    cases hm
    exact g_vret fx hr hC rfl dX9_ran_29
def Rm_fits (τ : RS) (a1 : Int32) (a2 : Int32) : Option (Int32 × RS) :=
  if a1 = (1 : Int32) then (b1 (Rm_ran τ (20 : Int32)) (fun τ_4 => b1 (Rm_ran τ_4 (10 : Int32)) (fun τ_7 => some (((a2 + (τ_7.1 32)) * (2 : Int32)), τ_7)))) else (if a1 = (2 : Int32) then (b1 (Rm_ran τ (20 : Int32)) (fun τ_24 => b1 (Rm_ran τ_24 (10 : Int32)) (fun τ_27 => some (((a2 + (τ_27.1 32)) * (2 : Int32)), τ_27)))) else (if a1 = (5 : Int32) then (b1 (Rm_ran τ (60 : Int32)) (fun τ_17 => b1 (Rm_ran τ_17 (10 : Int32)) (fun τ_19 => some (((a2 + (τ_19.1 32)) + (7 : Int32)), τ_19)))) else (b1 (Rm_ran τ (10 : Int32)) (fun τ_13 => some ((a2 + (τ_13.1 32)), τ_13)))))
abbrev Rrm_fits : Room := { frames := 1, cells := 0, slots := 0, locals := 21 }
set_option maxRecDepth 100000 in
set_option maxHeartbeats 4000000 in
theorem Rc_fits (l : Launch) {D : va_G} {cy : Nat → ClassId} {ad : List Nat} {q : Nat → Nat} {X : va_W} (τ : RS) (a1 : Int32) (a2 : Int32) {o : Int32 × RS} (hm : Rm_fits τ a1 a2 = some o) : GM l yX9_fits cX9_fits 5 (some .int) Rrm_fits D cy (rwd cy q X) ad [.ref (q 0), .int a1, .int a2] τ (some (.int o.1)) o.2 := by
  refine g_start RX9 rfl (by decide) (Nat.le_of_ble_eq_true rfl) ?_
  intro p e s m args below meth c fx hr hC ls hl
  have hx := fx.1
  have hb := fx.2.1
  have hR : 1 ≤ (Rrm_fits).frames ∧ 21 ≤ (Rrm_fits).locals := ⟨Nat.le_refl _, Nat.le_refl _⟩
  have hf : 0 ≤ (Rrm_fits).cells ∧ 0 ≤ (Rrm_fits).slots := ⟨Nat.zero_le _, Nat.zero_le _⟩
  have hl : lv_has ls 5 [(0, .ref (q 0)), (1, .int a1), (2, .int a2)] := hl
  unfold Rm_fits at hm
  refine lv_iload_n hx hb dX9_fits_0 rfl (lv_at hl 1 rfl) ?_
  refine lv_iconst (v := (1 : Int32)) hx hb dX9_fits_1 (by decide) ?_
  refine lv_icmp_eq (tgt := 10) hx hb dX9_fits_2 (by decide) (fun c_1 => ?_) (fun c_1 => ?_)
  · replace hm := ifp hm c_1
    refine lv_iconst (v := (1 : Int32)) hx hb dX9_fits_10 (by decide) ?_
    refine lv_goto (tgt := 15) hx hb dX9_fits_11 (by decide) ?_
    refine lv_istore_n (lv' := [(3, .int (1 : Int32)), (0, .ref (q 0)), (1, .int a1), (2, .int a2)]) hx hb dX9_fits_15 rfl hl (by decide) rfl (fun ls hl => ?_)
    refine lv_iload_n hx hb dX9_fits_16 rfl (lv_at hl 0 rfl) ?_
    refine lv_if_eq (tgt := 26) hx hb dX9_fits_17 (by decide) (fun c_2 => ?_) (fun c_2 => ?_)
    · exact absurd c_2 (by decide)
    · refine lv_aload_n hx hb dX9_fits_20 rfl (lv_at hl 1 rfl) ?_
      refine lv_bipush (v := (20 : Int32)) hx hb dX9_fits_21 (by decide) ?_
      obtain ⟨τ_4, e_3, hm⟩ := b1_in hm
      refine g_callVv (k0 := 0) (ci := 9) (As := [.int (20 : Int32)]) (rest := []) fx hC rw_w (Rc_ran l τ (20 : Int32) e_3) k_1114 Rk_ran Rh_ran rfl rfl rfl ⟨rfl, rfl⟩ ⟨Nat.le_trans (Nat.le_of_ble_eq_true rfl) hR.1, Nat.le_trans (Nat.le_of_ble_eq_true rfl) hR.2⟩ hf rfl hl.1 rfl (Nat.le_of_ble_eq_true rfl) dX9_fits_23 (fun H locs hC => ?_)
      refine lv_iload_n hx hb dX9_fits_26 rfl (lv_at hl 2 rfl) ?_
      refine lv_iconst (v := (5 : Int32)) hx hb dX9_fits_27 (by decide) ?_
      refine lv_icmp_ne (tgt := 37) hx hb dX9_fits_28 (by decide) (fun c_5 => ?_) (fun c_5 => ?_)
      · refine lv_aload_n hx hb dX9_fits_37 rfl (lv_at hl 1 rfl) ?_
        refine lv_bipush (v := (10 : Int32)) hx hb dX9_fits_38 (by decide) ?_
        obtain ⟨τ_7, e_6, hm⟩ := b1_in hm
        refine g_callVv (k0 := 0) (ci := 9) (As := [.int (10 : Int32)]) (rest := []) fx hC rw_w (Rc_ran l τ_4 (10 : Int32) e_6) k_1114 Rk_ran Rh_ran rfl rfl rfl ⟨rfl, rfl⟩ ⟨Nat.le_trans (Nat.le_of_ble_eq_true rfl) hR.1, Nat.le_trans (Nat.le_of_ble_eq_true rfl) hR.2⟩ hf rfl hl.1 rfl (Nat.le_of_ble_eq_true rfl) dX9_fits_40 (fun H locs hC => ?_)
        refine lv_iload_n hx hb dX9_fits_43 rfl (lv_at hl 3 rfl) ?_
        refine lv_aload_n hx hb dX9_fits_44 rfl (lv_at hl 1 rfl) ?_
        refine Rg_32 fx hC dX9_fits_45 ?_
        refine lv_iadd hx hb dX9_fits_48 ?_
        refine lv_istore (lv' := [(4, .int (a2 + (τ_7.1 32))), (3, .int (1 : Int32)), (0, .ref (q 0)), (1, .int a1), (2, .int a2)]) hx hb dX9_fits_49 hl (by decide) rfl (fun ls hl => ?_)
        refine lv_iload_n hx hb dX9_fits_51 rfl (lv_at hl 1 rfl) ?_
        refine lv_if_eq (tgt := 62) hx hb dX9_fits_52 (by decide) (fun c_8 => ?_) (fun c_8 => ?_)
        · exact absurd c_8 (by decide)
        · refine lv_iload hx hb dX9_fits_55 (lv_at hl 0 rfl) ?_
          refine lv_iconst (v := (2 : Int32)) hx hb dX9_fits_57 (by decide) ?_
          refine lv_imul hx hb dX9_fits_58 ?_
          refine lv_goto (tgt := 77) hx hb dX9_fits_59 (by decide) ?_
          cases hm
          exact g_iret fx hr hC rfl dX9_fits_77
      · exact absurd c_5 (fun z => absurd (c_1.symm.trans z) (by decide))
  · replace hm := ifn hm c_1
    refine lv_iload_n hx hb dX9_fits_5 rfl (lv_at hl 1 rfl) ?_
    refine lv_iconst (v := (2 : Int32)) hx hb dX9_fits_6 (by decide) ?_
    refine lv_icmp_ne (tgt := 14) hx hb dX9_fits_7 (by decide) (fun c_9 => ?_) (fun c_9 => ?_)
    · replace hm := ifn hm c_9
      refine lv_iconst (v := (0 : Int32)) hx hb dX9_fits_14 (by decide) ?_
      refine lv_istore_n (lv' := [(3, .int (0 : Int32)), (0, .ref (q 0)), (1, .int a1), (2, .int a2)]) hx hb dX9_fits_15 rfl hl (by decide) rfl (fun ls hl => ?_)
      refine lv_iload_n hx hb dX9_fits_16 rfl (lv_at hl 0 rfl) ?_
      refine lv_if_eq (tgt := 26) hx hb dX9_fits_17 (by decide) (fun c_10 => ?_) (fun c_10 => ?_)
      · refine lv_iload_n hx hb dX9_fits_26 rfl (lv_at hl 2 rfl) ?_
        refine lv_iconst (v := (5 : Int32)) hx hb dX9_fits_27 (by decide) ?_
        refine lv_icmp_ne (tgt := 37) hx hb dX9_fits_28 (by decide) (fun c_11 => ?_) (fun c_11 => ?_)
        · replace hm := ifn hm c_11
          refine lv_aload_n hx hb dX9_fits_37 rfl (lv_at hl 1 rfl) ?_
          refine lv_bipush (v := (10 : Int32)) hx hb dX9_fits_38 (by decide) ?_
          obtain ⟨τ_13, e_12, hm⟩ := b1_in hm
          refine g_callVv (k0 := 0) (ci := 9) (As := [.int (10 : Int32)]) (rest := []) fx hC rw_w (Rc_ran l τ (10 : Int32) e_12) k_1114 Rk_ran Rh_ran rfl rfl rfl ⟨rfl, rfl⟩ ⟨Nat.le_trans (Nat.le_of_ble_eq_true rfl) hR.1, Nat.le_trans (Nat.le_of_ble_eq_true rfl) hR.2⟩ hf rfl hl.1 rfl (Nat.le_of_ble_eq_true rfl) dX9_fits_40 (fun H locs hC => ?_)
          refine lv_iload_n hx hb dX9_fits_43 rfl (lv_at hl 3 rfl) ?_
          refine lv_aload_n hx hb dX9_fits_44 rfl (lv_at hl 1 rfl) ?_
          refine Rg_32 fx hC dX9_fits_45 ?_
          refine lv_iadd hx hb dX9_fits_48 ?_
          refine lv_istore (lv' := [(4, .int (a2 + (τ_13.1 32))), (3, .int (0 : Int32)), (0, .ref (q 0)), (1, .int a1), (2, .int a2)]) hx hb dX9_fits_49 hl (by decide) rfl (fun ls hl => ?_)
          refine lv_iload_n hx hb dX9_fits_51 rfl (lv_at hl 1 rfl) ?_
          refine lv_if_eq (tgt := 62) hx hb dX9_fits_52 (by decide) (fun c_14 => ?_) (fun c_14 => ?_)
          · refine lv_iload_n hx hb dX9_fits_62 rfl (lv_at hl 3 rfl) ?_
            refine lv_iconst (v := (5 : Int32)) hx hb dX9_fits_63 (by decide) ?_
            refine lv_icmp_ne (tgt := 75) hx hb dX9_fits_64 (by decide) (fun c_15 => ?_) (fun c_15 => ?_)
            · refine lv_iload hx hb dX9_fits_75 (lv_at hl 0 rfl) ?_
              cases hm
              exact g_iret fx hr hC rfl dX9_fits_77
            · exact absurd c_15 c_11
          · exact absurd (by decide) c_14
        · replace hm := ifp hm c_11
          refine lv_aload_n hx hb dX9_fits_31 rfl (lv_at hl 1 rfl) ?_
          refine lv_bipush (v := (60 : Int32)) hx hb dX9_fits_32 (by decide) ?_
          obtain ⟨τ_17, e_16, hm⟩ := b1_in hm
          refine g_callVv (k0 := 0) (ci := 9) (As := [.int (60 : Int32)]) (rest := []) fx hC rw_w (Rc_ran l τ (60 : Int32) e_16) k_1114 Rk_ran Rh_ran rfl rfl rfl ⟨rfl, rfl⟩ ⟨Nat.le_trans (Nat.le_of_ble_eq_true rfl) hR.1, Nat.le_trans (Nat.le_of_ble_eq_true rfl) hR.2⟩ hf rfl hl.1 rfl (Nat.le_of_ble_eq_true rfl) dX9_fits_34 (fun H locs hC => ?_)
          refine lv_aload_n hx hb dX9_fits_37 rfl (lv_at hl 1 rfl) ?_
          refine lv_bipush (v := (10 : Int32)) hx hb dX9_fits_38 (by decide) ?_
          obtain ⟨τ_19, e_18, hm⟩ := b1_in hm
          refine g_callVv (k0 := 0) (ci := 9) (As := [.int (10 : Int32)]) (rest := []) fx hC rw_w (Rc_ran l τ_17 (10 : Int32) e_18) k_1114 Rk_ran Rh_ran rfl rfl rfl ⟨rfl, rfl⟩ ⟨Nat.le_trans (Nat.le_of_ble_eq_true rfl) hR.1, Nat.le_trans (Nat.le_of_ble_eq_true rfl) hR.2⟩ hf rfl hl.1 rfl (Nat.le_of_ble_eq_true rfl) dX9_fits_40 (fun H locs hC => ?_)
          refine lv_iload_n hx hb dX9_fits_43 rfl (lv_at hl 3 rfl) ?_
          refine lv_aload_n hx hb dX9_fits_44 rfl (lv_at hl 1 rfl) ?_
          refine Rg_32 fx hC dX9_fits_45 ?_
          refine lv_iadd hx hb dX9_fits_48 ?_
          refine lv_istore (lv' := [(4, .int (a2 + (τ_19.1 32))), (3, .int (0 : Int32)), (0, .ref (q 0)), (1, .int a1), (2, .int a2)]) hx hb dX9_fits_49 hl (by decide) rfl (fun ls hl => ?_)
          refine lv_iload_n hx hb dX9_fits_51 rfl (lv_at hl 1 rfl) ?_
          refine lv_if_eq (tgt := 62) hx hb dX9_fits_52 (by decide) (fun c_20 => ?_) (fun c_20 => ?_)
          · refine lv_iload_n hx hb dX9_fits_62 rfl (lv_at hl 3 rfl) ?_
            refine lv_iconst (v := (5 : Int32)) hx hb dX9_fits_63 (by decide) ?_
            refine lv_icmp_ne (tgt := 75) hx hb dX9_fits_64 (by decide) (fun c_21 => ?_) (fun c_21 => ?_)
            · exact absurd c_11 c_21
            · refine lv_iload hx hb dX9_fits_67 (lv_at hl 0 rfl) ?_
              refine lv_bipush (v := (7 : Int32)) hx hb dX9_fits_69 (by decide) ?_
              refine lv_iadd hx hb dX9_fits_71 ?_
              refine lv_goto (tgt := 77) hx hb dX9_fits_72 (by decide) ?_
              cases hm
              exact g_iret fx hr hC rfl dX9_fits_77
          · exact absurd (by decide) c_20
      · exact absurd (by decide) c_10
    · replace hm := ifp hm c_9
      refine lv_iconst (v := (1 : Int32)) hx hb dX9_fits_10 (by decide) ?_
      refine lv_goto (tgt := 15) hx hb dX9_fits_11 (by decide) ?_
      refine lv_istore_n (lv' := [(3, .int (1 : Int32)), (0, .ref (q 0)), (1, .int a1), (2, .int a2)]) hx hb dX9_fits_15 rfl hl (by decide) rfl (fun ls hl => ?_)
      refine lv_iload_n hx hb dX9_fits_16 rfl (lv_at hl 0 rfl) ?_
      refine lv_if_eq (tgt := 26) hx hb dX9_fits_17 (by decide) (fun c_22 => ?_) (fun c_22 => ?_)
      · exact absurd c_22 (by decide)
      · refine lv_aload_n hx hb dX9_fits_20 rfl (lv_at hl 1 rfl) ?_
        refine lv_bipush (v := (20 : Int32)) hx hb dX9_fits_21 (by decide) ?_
        obtain ⟨τ_24, e_23, hm⟩ := b1_in hm
        refine g_callVv (k0 := 0) (ci := 9) (As := [.int (20 : Int32)]) (rest := []) fx hC rw_w (Rc_ran l τ (20 : Int32) e_23) k_1114 Rk_ran Rh_ran rfl rfl rfl ⟨rfl, rfl⟩ ⟨Nat.le_trans (Nat.le_of_ble_eq_true rfl) hR.1, Nat.le_trans (Nat.le_of_ble_eq_true rfl) hR.2⟩ hf rfl hl.1 rfl (Nat.le_of_ble_eq_true rfl) dX9_fits_23 (fun H locs hC => ?_)
        refine lv_iload_n hx hb dX9_fits_26 rfl (lv_at hl 2 rfl) ?_
        refine lv_iconst (v := (5 : Int32)) hx hb dX9_fits_27 (by decide) ?_
        refine lv_icmp_ne (tgt := 37) hx hb dX9_fits_28 (by decide) (fun c_25 => ?_) (fun c_25 => ?_)
        · refine lv_aload_n hx hb dX9_fits_37 rfl (lv_at hl 1 rfl) ?_
          refine lv_bipush (v := (10 : Int32)) hx hb dX9_fits_38 (by decide) ?_
          obtain ⟨τ_27, e_26, hm⟩ := b1_in hm
          refine g_callVv (k0 := 0) (ci := 9) (As := [.int (10 : Int32)]) (rest := []) fx hC rw_w (Rc_ran l τ_24 (10 : Int32) e_26) k_1114 Rk_ran Rh_ran rfl rfl rfl ⟨rfl, rfl⟩ ⟨Nat.le_trans (Nat.le_of_ble_eq_true rfl) hR.1, Nat.le_trans (Nat.le_of_ble_eq_true rfl) hR.2⟩ hf rfl hl.1 rfl (Nat.le_of_ble_eq_true rfl) dX9_fits_40 (fun H locs hC => ?_)
          refine lv_iload_n hx hb dX9_fits_43 rfl (lv_at hl 3 rfl) ?_
          refine lv_aload_n hx hb dX9_fits_44 rfl (lv_at hl 1 rfl) ?_
          refine Rg_32 fx hC dX9_fits_45 ?_
          refine lv_iadd hx hb dX9_fits_48 ?_
          refine lv_istore (lv' := [(4, .int (a2 + (τ_27.1 32))), (3, .int (1 : Int32)), (0, .ref (q 0)), (1, .int a1), (2, .int a2)]) hx hb dX9_fits_49 hl (by decide) rfl (fun ls hl => ?_)
          refine lv_iload_n hx hb dX9_fits_51 rfl (lv_at hl 1 rfl) ?_
          refine lv_if_eq (tgt := 62) hx hb dX9_fits_52 (by decide) (fun c_28 => ?_) (fun c_28 => ?_)
          · exact absurd c_28 (by decide)
          · refine lv_iload hx hb dX9_fits_55 (lv_at hl 0 rfl) ?_
            refine lv_iconst (v := (2 : Int32)) hx hb dX9_fits_57 (by decide) ?_
            refine lv_imul hx hb dX9_fits_58 ?_
            refine lv_goto (tgt := 77) hx hb dX9_fits_59 (by decide) ?_
            cases hm
            exact g_iret fx hr hC rfl dX9_fits_77
        · exact absurd c_25 (fun z => absurd (c_9.symm.trans z) (by decide))
def Rm_familyJoins (τ : RS) (a1 : Int32) (a2 : Int32) : Option (Int32 × RS) :=
  b1 (Rm_ran τ (11 : Int32)) (fun τ_2 => b2 (Rm_fits τ_2 a1 a2) (fun r_4 τ_5 => some ((r_4 * (3 : Int32)), τ_5)))
abbrev Rrm_familyJoins : Room := { frames := 2, cells := 0, slots := 0, locals := 45 }
set_option maxRecDepth 100000 in
set_option maxHeartbeats 4000000 in
theorem Rc_familyJoins (l : Launch) {D : va_G} {cy : Nat → ClassId} {ad : List Nat} {q : Nat → Nat} {X : va_W} (τ : RS) (a1 : Int32) (a2 : Int32) {o : Int32 × RS} (hm : Rm_familyJoins τ a1 a2 = some o) : GM l yX9_familyJoins cX9_familyJoins 3 (some .int) Rrm_familyJoins D cy (rwd cy q X) ad [.ref (q 0), .int a1, .int a2] τ (some (.int o.1)) o.2 := by
  refine g_start RX9 rfl (by decide) (Nat.le_of_ble_eq_true rfl) ?_
  intro p e s m args below meth c fx hr hC ls hl
  have hx := fx.1
  have hb := fx.2.1
  have hR : 2 ≤ (Rrm_familyJoins).frames ∧ 45 ≤ (Rrm_familyJoins).locals := ⟨Nat.le_refl _, Nat.le_refl _⟩
  have hf : 0 ≤ (Rrm_familyJoins).cells ∧ 0 ≤ (Rrm_familyJoins).slots := ⟨Nat.zero_le _, Nat.zero_le _⟩
  have hl : lv_has ls 3 [(0, .ref (q 0)), (1, .int a1), (2, .int a2)] := hl
  unfold Rm_familyJoins at hm
  refine lv_aload_n hx hb dX9_familyJoins_0 rfl (lv_at hl 0 rfl) ?_
  refine lv_bipush (v := (11 : Int32)) hx hb dX9_familyJoins_1 (by decide) ?_
  obtain ⟨τ_2, e_1, hm⟩ := b1_in hm
  refine g_callVv (k0 := 0) (ci := 9) (As := [.int (11 : Int32)]) (rest := []) fx hC rw_w (Rc_ran l τ (11 : Int32) e_1) k_1114 Rk_ran Rh_ran rfl rfl rfl ⟨rfl, rfl⟩ ⟨Nat.le_trans (Nat.le_of_ble_eq_true rfl) hR.1, Nat.le_trans (Nat.le_of_ble_eq_true rfl) hR.2⟩ hf rfl hl.1 rfl (Nat.le_of_ble_eq_true rfl) dX9_familyJoins_3 (fun H locs hC => ?_)
  refine lv_aload_n hx hb dX9_familyJoins_6 rfl (lv_at hl 0 rfl) ?_
  refine lv_iload_n hx hb dX9_familyJoins_7 rfl (lv_at hl 1 rfl) ?_
  refine lv_iload_n hx hb dX9_familyJoins_8 rfl (lv_at hl 2 rfl) ?_
  obtain ⟨r_4, τ_5, e_3, hm⟩ := b2_in hm
  refine g_callVi (k0 := 0) (ci := 9) (As := [.int a1, .int a2]) (rest := []) fx hC rw_w (Rc_fits l τ_2 a1 a2 e_3) k_1110 Rk_fits Rh_fits rfl rfl rfl ⟨rfl, rfl⟩ ⟨Nat.le_trans (Nat.le_of_ble_eq_true rfl) hR.1, Nat.le_trans (Nat.le_of_ble_eq_true rfl) hR.2⟩ hf rfl hl.1 rfl (Nat.le_of_ble_eq_true rfl) dX9_familyJoins_9 (fun H locs hC => ?_)
  refine lv_iconst (v := (3 : Int32)) hx hb dX9_familyJoins_12 (by decide) ?_
  refine lv_imul hx hb dX9_familyJoins_13 ?_
  cases hm
  exact g_iret fx hr hC rfl dX9_familyJoins_14
def Rm_joins (τ : RS) (a1 : Int32) (a2 : Int32) : Option (Int32 × RS) :=
  if a1 = (2 : Int32) then (b1 (Rm_ran τ (30 : Int32)) (fun τ_3 => b2 (Rm_familyJoins τ_3 a1 a2) (fun r_5 τ_6 => b2 (Rm_fits τ_6 a1 a2) (fun r_8 τ_9 => some ((r_5 + r_8), τ_9))))) else (if a1 = (3 : Int32) then (b1 (Rm_ran τ (40 : Int32)) (fun τ_12 => b2 (Rm_familyJoins τ_12 a1 (a2 + (τ_12.1 32))) (fun r_14 τ_15 => some (r_14, τ_15)))) else (if a1 = (5 : Int32) then (b1 (Rm_ran τ (61 : Int32)) (fun τ_18 => b1 (Rm_ran τ_18 (40 : Int32)) (fun τ_20 => b2 (Rm_familyJoins τ_20 a1 (a2 + (τ_20.1 32))) (fun r_22 τ_23 => some ((r_22 * (2 : Int32)), τ_23))))) else (b2 (Rm_familyJoins τ a1 a2) (fun r_25 τ_26 => some (r_25, τ_26)))))
abbrev Rrm_joins : Room := { frames := 3, cells := 0, slots := 0, locals := 67 }
set_option maxRecDepth 100000 in
set_option maxHeartbeats 4000000 in
theorem Rc_joins (l : Launch) {D : va_G} {cy : Nat → ClassId} {ad : List Nat} {q : Nat → Nat} {X : va_W} (τ : RS) (a1 : Int32) (a2 : Int32) {o : Int32 × RS} (hm : Rm_joins τ a1 a2 = some o) : GM l yX9_joins cX9_joins 4 (some .int) Rrm_joins D cy (rwd cy q X) ad [.ref (q 0), .int a1, .int a2] τ (some (.int o.1)) o.2 := by
  refine g_start RX9 rfl (by decide) (Nat.le_of_ble_eq_true rfl) ?_
  intro p e s m args below meth c fx hr hC ls hl
  have hx := fx.1
  have hb := fx.2.1
  have hR : 3 ≤ (Rrm_joins).frames ∧ 67 ≤ (Rrm_joins).locals := ⟨Nat.le_refl _, Nat.le_refl _⟩
  have hf : 0 ≤ (Rrm_joins).cells ∧ 0 ≤ (Rrm_joins).slots := ⟨Nat.zero_le _, Nat.zero_le _⟩
  have hl : lv_has ls 4 [(0, .ref (q 0)), (1, .int a1), (2, .int a2)] := hl
  unfold Rm_joins at hm
  refine lv_iload_n hx hb dX9_joins_0 rfl (lv_at hl 1 rfl) ?_
  by_cases c_1 : a1 = (2 : Int32)
  · replace hm := ifp hm c_1
    have ec_1 : (a1 : Int32).toInt = 2 := by rw [c_1]; rfl
    refine lv_tableIn (off := 31) (tgt := 32) hx hb dX9_joins_1 (by rw [ec_1]; decide) (by rw [ec_1]; decide) (by rw [ec_1]; rfl) (by decide) ?_
    refine lv_aload_n hx hb dX9_joins_32 rfl (lv_at hl 0 rfl) ?_
    refine lv_bipush (v := (30 : Int32)) hx hb dX9_joins_33 (by decide) ?_
    obtain ⟨τ_3, e_2, hm⟩ := b1_in hm
    refine g_callVv (k0 := 0) (ci := 9) (As := [.int (30 : Int32)]) (rest := []) fx hC rw_w (Rc_ran l τ (30 : Int32) e_2) k_1114 Rk_ran Rh_ran rfl rfl rfl ⟨rfl, rfl⟩ ⟨Nat.le_trans (Nat.le_of_ble_eq_true rfl) hR.1, Nat.le_trans (Nat.le_of_ble_eq_true rfl) hR.2⟩ hf rfl hl.1 rfl (Nat.le_of_ble_eq_true rfl) dX9_joins_35 (fun H locs hC => ?_)
    refine lv_aload_n hx hb dX9_joins_38 rfl (lv_at hl 0 rfl) ?_
    refine lv_iload_n hx hb dX9_joins_39 rfl (lv_at hl 1 rfl) ?_
    refine lv_iload_n hx hb dX9_joins_40 rfl (lv_at hl 2 rfl) ?_
    obtain ⟨r_5, τ_6, e_4, hm⟩ := b2_in hm
    refine g_callVi (k0 := 0) (ci := 9) (As := [.int a1, .int a2]) (rest := []) fx hC rw_w (Rc_familyJoins l τ_3 a1 a2 e_4) k_1122 Rk_familyJoins Rh_familyJoins rfl rfl rfl ⟨rfl, rfl⟩ ⟨Nat.le_trans (Nat.le_of_ble_eq_true rfl) hR.1, Nat.le_trans (Nat.le_of_ble_eq_true rfl) hR.2⟩ hf rfl hl.1 rfl (Nat.le_of_ble_eq_true rfl) dX9_joins_41 (fun H locs hC => ?_)
    refine lv_istore_n (lv' := [(3, .int r_5), (0, .ref (q 0)), (1, .int a1), (2, .int a2)]) hx hb dX9_joins_44 rfl hl (by decide) rfl (fun ls hl => ?_)
    refine lv_iload_n hx hb dX9_joins_45 rfl (lv_at hl 0 rfl) ?_
    refine lv_aload_n hx hb dX9_joins_46 rfl (lv_at hl 1 rfl) ?_
    refine lv_iload_n hx hb dX9_joins_47 rfl (lv_at hl 2 rfl) ?_
    refine lv_iload_n hx hb dX9_joins_48 rfl (lv_at hl 3 rfl) ?_
    obtain ⟨r_8, τ_9, e_7, hm⟩ := b2_in hm
    refine g_callVi (k0 := 0) (ci := 9) (As := [.int a1, .int a2]) (rest := [.int r_5]) fx hC rw_w (Rc_fits l τ_6 a1 a2 e_7) k_1110 Rk_fits Rh_fits rfl rfl rfl ⟨rfl, rfl⟩ ⟨Nat.le_trans (Nat.le_of_ble_eq_true rfl) hR.1, Nat.le_trans (Nat.le_of_ble_eq_true rfl) hR.2⟩ hf rfl hl.1 rfl (Nat.le_of_ble_eq_true rfl) dX9_joins_49 (fun H locs hC => ?_)
    refine lv_iadd hx hb dX9_joins_52 ?_
    cases hm
    exact g_iret fx hr hC rfl dX9_joins_53
  · replace hm := ifn hm c_1
    by_cases c_10 : a1 = (3 : Int32)
    · replace hm := ifp hm c_10
      have ec_10 : (a1 : Int32).toInt = 3 := by rw [c_10]; rfl
      refine lv_tableIn (off := 53) (tgt := 54) hx hb dX9_joins_1 (by rw [ec_10]; decide) (by rw [ec_10]; decide) (by rw [ec_10]; rfl) (by decide) ?_
      refine lv_aload_n hx hb dX9_joins_54 rfl (lv_at hl 0 rfl) ?_
      refine lv_bipush (v := (40 : Int32)) hx hb dX9_joins_55 (by decide) ?_
      obtain ⟨τ_12, e_11, hm⟩ := b1_in hm
      refine g_callVv (k0 := 0) (ci := 9) (As := [.int (40 : Int32)]) (rest := []) fx hC rw_w (Rc_ran l τ (40 : Int32) e_11) k_1114 Rk_ran Rh_ran rfl rfl rfl ⟨rfl, rfl⟩ ⟨Nat.le_trans (Nat.le_of_ble_eq_true rfl) hR.1, Nat.le_trans (Nat.le_of_ble_eq_true rfl) hR.2⟩ hf rfl hl.1 rfl (Nat.le_of_ble_eq_true rfl) dX9_joins_57 (fun H locs hC => ?_)
      refine lv_aload_n hx hb dX9_joins_60 rfl (lv_at hl 0 rfl) ?_
      refine lv_iload_n hx hb dX9_joins_61 rfl (lv_at hl 1 rfl) ?_
      refine lv_iload_n hx hb dX9_joins_62 rfl (lv_at hl 2 rfl) ?_
      refine lv_aload_n hx hb dX9_joins_63 rfl (lv_at hl 0 rfl) ?_
      refine Rg_32 fx hC dX9_joins_64 ?_
      refine lv_iadd hx hb dX9_joins_67 ?_
      obtain ⟨r_14, τ_15, e_13, hm⟩ := b2_in hm
      refine g_callVi (k0 := 0) (ci := 9) (As := [.int a1, .int (a2 + (τ_12.1 32))]) (rest := []) fx hC rw_w (Rc_familyJoins l τ_12 a1 (a2 + (τ_12.1 32)) e_13) k_1122 Rk_familyJoins Rh_familyJoins rfl rfl rfl ⟨rfl, rfl⟩ ⟨Nat.le_trans (Nat.le_of_ble_eq_true rfl) hR.1, Nat.le_trans (Nat.le_of_ble_eq_true rfl) hR.2⟩ hf rfl hl.1 rfl (Nat.le_of_ble_eq_true rfl) dX9_joins_68 (fun H locs hC => ?_)
      cases hm
      exact g_iret fx hr hC rfl dX9_joins_71
    · replace hm := ifn hm c_10
      by_cases c_16 : a1 = (5 : Int32)
      · replace hm := ifp hm c_16
        have ec_16 : (a1 : Int32).toInt = 5 := by rw [c_16]; rfl
        refine lv_tableIn (off := 71) (tgt := 72) hx hb dX9_joins_1 (by rw [ec_16]; decide) (by rw [ec_16]; decide) (by rw [ec_16]; rfl) (by decide) ?_
        refine lv_aload_n hx hb dX9_joins_72 rfl (lv_at hl 0 rfl) ?_
        refine lv_bipush (v := (61 : Int32)) hx hb dX9_joins_73 (by decide) ?_
        obtain ⟨τ_18, e_17, hm⟩ := b1_in hm
        refine g_callVv (k0 := 0) (ci := 9) (As := [.int (61 : Int32)]) (rest := []) fx hC rw_w (Rc_ran l τ (61 : Int32) e_17) k_1114 Rk_ran Rh_ran rfl rfl rfl ⟨rfl, rfl⟩ ⟨Nat.le_trans (Nat.le_of_ble_eq_true rfl) hR.1, Nat.le_trans (Nat.le_of_ble_eq_true rfl) hR.2⟩ hf rfl hl.1 rfl (Nat.le_of_ble_eq_true rfl) dX9_joins_75 (fun H locs hC => ?_)
        refine lv_aload_n hx hb dX9_joins_78 rfl (lv_at hl 0 rfl) ?_
        refine lv_bipush (v := (40 : Int32)) hx hb dX9_joins_79 (by decide) ?_
        obtain ⟨τ_20, e_19, hm⟩ := b1_in hm
        refine g_callVv (k0 := 0) (ci := 9) (As := [.int (40 : Int32)]) (rest := []) fx hC rw_w (Rc_ran l τ_18 (40 : Int32) e_19) k_1114 Rk_ran Rh_ran rfl rfl rfl ⟨rfl, rfl⟩ ⟨Nat.le_trans (Nat.le_of_ble_eq_true rfl) hR.1, Nat.le_trans (Nat.le_of_ble_eq_true rfl) hR.2⟩ hf rfl hl.1 rfl (Nat.le_of_ble_eq_true rfl) dX9_joins_81 (fun H locs hC => ?_)
        refine lv_aload_n hx hb dX9_joins_84 rfl (lv_at hl 0 rfl) ?_
        refine lv_iload_n hx hb dX9_joins_85 rfl (lv_at hl 1 rfl) ?_
        refine lv_iload_n hx hb dX9_joins_86 rfl (lv_at hl 2 rfl) ?_
        refine lv_aload_n hx hb dX9_joins_87 rfl (lv_at hl 0 rfl) ?_
        refine Rg_32 fx hC dX9_joins_88 ?_
        refine lv_iadd hx hb dX9_joins_91 ?_
        obtain ⟨r_22, τ_23, e_21, hm⟩ := b2_in hm
        refine g_callVi (k0 := 0) (ci := 9) (As := [.int a1, .int (a2 + (τ_20.1 32))]) (rest := []) fx hC rw_w (Rc_familyJoins l τ_20 a1 (a2 + (τ_20.1 32)) e_21) k_1122 Rk_familyJoins Rh_familyJoins rfl rfl rfl ⟨rfl, rfl⟩ ⟨Nat.le_trans (Nat.le_of_ble_eq_true rfl) hR.1, Nat.le_trans (Nat.le_of_ble_eq_true rfl) hR.2⟩ hf rfl hl.1 rfl (Nat.le_of_ble_eq_true rfl) dX9_joins_92 (fun H locs hC => ?_)
        refine lv_iconst (v := (2 : Int32)) hx hb dX9_joins_95 (by decide) ?_
        refine lv_imul hx hb dX9_joins_96 ?_
        cases hm
        exact g_iret fx hr hC rfl dX9_joins_97
      · replace hm := ifn hm c_16
        have nc_1 : ¬ (a1 : Int32).toInt = 2 := lv_neT c_1 rfl
        have nc_10 : ¬ (a1 : Int32).toInt = 3 := lv_neT c_10 rfl
        have nc_16 : ¬ (a1 : Int32).toInt = 5 := lv_neT c_16 rfl
        refine g_tab (tgt := 98) hx hb dX9_joins_1 (by decide) (by rcases Classical.em ((a1 : Int32).toInt = 4) with hg | hg <;> first | exact Or.inl (by omega) | (rcases hg with hg <;> exact Or.inr ⟨by omega, by omega, by rw [hg]; rfl⟩)) ?_
        refine lv_aload_n hx hb dX9_joins_98 rfl (lv_at hl 0 rfl) ?_
        refine lv_iload_n hx hb dX9_joins_99 rfl (lv_at hl 1 rfl) ?_
        refine lv_iload_n hx hb dX9_joins_100 rfl (lv_at hl 2 rfl) ?_
        obtain ⟨r_25, τ_26, e_24, hm⟩ := b2_in hm
        refine g_callVi (k0 := 0) (ci := 9) (As := [.int a1, .int a2]) (rest := []) fx hC rw_w (Rc_familyJoins l τ a1 a2 e_24) k_1122 Rk_familyJoins Rh_familyJoins rfl rfl rfl ⟨rfl, rfl⟩ ⟨Nat.le_trans (Nat.le_of_ble_eq_true rfl) hR.1, Nat.le_trans (Nat.le_of_ble_eq_true rfl) hR.2⟩ hf rfl hl.1 rfl (Nat.le_of_ble_eq_true rfl) dX9_joins_101 (fun H locs hC => ?_)
        cases hm
        exact g_iret fx hr hC rfl dX9_joins_104
def Rm_familyWeighs (τ : RS) (a1 : Int32) (a2 : Int32) : Option (Int32 × RS) :=
  b1 (Rm_ran τ (12 : Int32)) (fun τ_2 => b2 (Rm_joins τ_2 a1 a2) (fun r_4 τ_5 => b2 (Rm_fits τ_5 a1 (a2 + (1 : Int32))) (fun r_7 τ_8 => some ((r_4 - r_7), τ_8))))
abbrev Rrm_familyWeighs : Room := { frames := 4, cells := 0, slots := 0, locals := 90 }
set_option maxRecDepth 100000 in
set_option maxHeartbeats 4000000 in
theorem Rc_familyWeighs (l : Launch) {D : va_G} {cy : Nat → ClassId} {ad : List Nat} {q : Nat → Nat} {X : va_W} (τ : RS) (a1 : Int32) (a2 : Int32) {o : Int32 × RS} (hm : Rm_familyWeighs τ a1 a2 = some o) : GM l yX9_familyWeighs cX9_familyWeighs 4 (some .int) Rrm_familyWeighs D cy (rwd cy q X) ad [.ref (q 0), .int a1, .int a2] τ (some (.int o.1)) o.2 := by
  refine g_start RX9 rfl (by decide) (Nat.le_of_ble_eq_true rfl) ?_
  intro p e s m args below meth c fx hr hC ls hl
  have hx := fx.1
  have hb := fx.2.1
  have hR : 4 ≤ (Rrm_familyWeighs).frames ∧ 90 ≤ (Rrm_familyWeighs).locals := ⟨Nat.le_refl _, Nat.le_refl _⟩
  have hf : 0 ≤ (Rrm_familyWeighs).cells ∧ 0 ≤ (Rrm_familyWeighs).slots := ⟨Nat.zero_le _, Nat.zero_le _⟩
  have hl : lv_has ls 4 [(0, .ref (q 0)), (1, .int a1), (2, .int a2)] := hl
  unfold Rm_familyWeighs at hm
  refine lv_aload_n hx hb dX9_familyWeighs_0 rfl (lv_at hl 0 rfl) ?_
  refine lv_bipush (v := (12 : Int32)) hx hb dX9_familyWeighs_1 (by decide) ?_
  obtain ⟨τ_2, e_1, hm⟩ := b1_in hm
  refine g_callVv (k0 := 0) (ci := 9) (As := [.int (12 : Int32)]) (rest := []) fx hC rw_w (Rc_ran l τ (12 : Int32) e_1) k_1114 Rk_ran Rh_ran rfl rfl rfl ⟨rfl, rfl⟩ ⟨Nat.le_trans (Nat.le_of_ble_eq_true rfl) hR.1, Nat.le_trans (Nat.le_of_ble_eq_true rfl) hR.2⟩ hf rfl hl.1 rfl (Nat.le_of_ble_eq_true rfl) dX9_familyWeighs_3 (fun H locs hC => ?_)
  refine lv_aload_n hx hb dX9_familyWeighs_6 rfl (lv_at hl 0 rfl) ?_
  refine lv_iload_n hx hb dX9_familyWeighs_7 rfl (lv_at hl 1 rfl) ?_
  refine lv_iload_n hx hb dX9_familyWeighs_8 rfl (lv_at hl 2 rfl) ?_
  obtain ⟨r_4, τ_5, e_3, hm⟩ := b2_in hm
  refine g_callVi (k0 := 0) (ci := 9) (As := [.int a1, .int a2]) (rest := []) fx hC rw_w (Rc_joins l τ_2 a1 a2 e_3) k_1118 Rk_joins Rh_joins rfl rfl rfl ⟨rfl, rfl⟩ ⟨Nat.le_trans (Nat.le_of_ble_eq_true rfl) hR.1, Nat.le_trans (Nat.le_of_ble_eq_true rfl) hR.2⟩ hf rfl hl.1 rfl (Nat.le_of_ble_eq_true rfl) dX9_familyWeighs_9 (fun H locs hC => ?_)
  refine lv_istore_n (lv' := [(3, .int r_4), (0, .ref (q 0)), (1, .int a1), (2, .int a2)]) hx hb dX9_familyWeighs_12 rfl hl (by decide) rfl (fun ls hl => ?_)
  refine lv_iload_n hx hb dX9_familyWeighs_13 rfl (lv_at hl 0 rfl) ?_
  refine lv_aload_n hx hb dX9_familyWeighs_14 rfl (lv_at hl 1 rfl) ?_
  refine lv_iload_n hx hb dX9_familyWeighs_15 rfl (lv_at hl 2 rfl) ?_
  refine lv_iload_n hx hb dX9_familyWeighs_16 rfl (lv_at hl 3 rfl) ?_
  refine lv_iconst (v := (1 : Int32)) hx hb dX9_familyWeighs_17 (by decide) ?_
  refine lv_iadd hx hb dX9_familyWeighs_18 ?_
  obtain ⟨r_7, τ_8, e_6, hm⟩ := b2_in hm
  refine g_callVi (k0 := 0) (ci := 9) (As := [.int a1, .int (a2 + (1 : Int32))]) (rest := [.int r_4]) fx hC rw_w (Rc_fits l τ_5 a1 (a2 + (1 : Int32)) e_6) k_1110 Rk_fits Rh_fits rfl rfl rfl ⟨rfl, rfl⟩ ⟨Nat.le_trans (Nat.le_of_ble_eq_true rfl) hR.1, Nat.le_trans (Nat.le_of_ble_eq_true rfl) hR.2⟩ hf rfl hl.1 rfl (Nat.le_of_ble_eq_true rfl) dX9_familyWeighs_19 (fun H locs hC => ?_)
  refine lv_isub hx hb dX9_familyWeighs_22 ?_
  cases hm
  exact g_iret fx hr hC rfl dX9_familyWeighs_23
def Rm_weighs (τ : RS) (a1 : Int32) (a2 : Int32) : Option (Int32 × RS) :=
  if a1 = (1 : Int32) then (b1 (Rm_ran τ (21 : Int32)) (fun τ_3 => b2 (Rm_familyWeighs τ_3 a1 a2) (fun r_5 τ_6 => some ((r_5 ^^^ (5 : Int32)), τ_6)))) else (if a1 = (2 : Int32) then (b1 (Rm_ran τ (21 : Int32)) (fun τ_21 => b2 (Rm_familyWeighs τ_21 a1 a2) (fun r_23 τ_24 => some ((r_23 ^^^ (5 : Int32)), τ_24)))) else (if a1 = (4 : Int32) then (b1 (Rm_ran τ (50 : Int32)) (fun τ_13 => b2 (Rm_fits τ_13 a1 a2) (fun r_15 τ_16 => b2 (Rm_familyWeighs τ_16 a1 a2) (fun r_18 τ_19 => some ((r_15 - r_18), τ_19))))) else (b2 (Rm_familyWeighs τ a1 a2) (fun r_10 τ_11 => some (r_10, τ_11)))))
abbrev Rrm_weighs : Room := { frames := 5, cells := 0, slots := 0, locals := 113 }
set_option maxRecDepth 100000 in
set_option maxHeartbeats 4000000 in
theorem Rc_weighs (l : Launch) {D : va_G} {cy : Nat → ClassId} {ad : List Nat} {q : Nat → Nat} {X : va_W} (τ : RS) (a1 : Int32) (a2 : Int32) {o : Int32 × RS} (hm : Rm_weighs τ a1 a2 = some o) : GM l yX9_weighs cX9_weighs 4 (some .int) Rrm_weighs D cy (rwd cy q X) ad [.ref (q 0), .int a1, .int a2] τ (some (.int o.1)) o.2 := by
  refine g_start RX9 rfl (by decide) (Nat.le_of_ble_eq_true rfl) ?_
  intro p e s m args below meth c fx hr hC ls hl
  have hx := fx.1
  have hb := fx.2.1
  have hR : 5 ≤ (Rrm_weighs).frames ∧ 113 ≤ (Rrm_weighs).locals := ⟨Nat.le_refl _, Nat.le_refl _⟩
  have hf : 0 ≤ (Rrm_weighs).cells ∧ 0 ≤ (Rrm_weighs).slots := ⟨Nat.zero_le _, Nat.zero_le _⟩
  have hl : lv_has ls 4 [(0, .ref (q 0)), (1, .int a1), (2, .int a2)] := hl
  unfold Rm_weighs at hm
  refine lv_iload_n hx hb dX9_weighs_0 rfl (lv_at hl 1 rfl) ?_
  refine lv_iconst (v := (1 : Int32)) hx hb dX9_weighs_1 (by decide) ?_
  refine lv_icmp_eq (tgt := 10) hx hb dX9_weighs_2 (by decide) (fun c_1 => ?_) (fun c_1 => ?_)
  · replace hm := ifp hm c_1
    refine lv_aload_n hx hb dX9_weighs_10 rfl (lv_at hl 0 rfl) ?_
    refine lv_bipush (v := (21 : Int32)) hx hb dX9_weighs_11 (by decide) ?_
    obtain ⟨τ_3, e_2, hm⟩ := b1_in hm
    refine g_callVv (k0 := 0) (ci := 9) (As := [.int (21 : Int32)]) (rest := []) fx hC rw_w (Rc_ran l τ (21 : Int32) e_2) k_1114 Rk_ran Rh_ran rfl rfl rfl ⟨rfl, rfl⟩ ⟨Nat.le_trans (Nat.le_of_ble_eq_true rfl) hR.1, Nat.le_trans (Nat.le_of_ble_eq_true rfl) hR.2⟩ hf rfl hl.1 rfl (Nat.le_of_ble_eq_true rfl) dX9_weighs_13 (fun H locs hC => ?_)
    refine lv_aload_n hx hb dX9_weighs_16 rfl (lv_at hl 0 rfl) ?_
    refine lv_iload_n hx hb dX9_weighs_17 rfl (lv_at hl 1 rfl) ?_
    refine lv_iload_n hx hb dX9_weighs_18 rfl (lv_at hl 2 rfl) ?_
    obtain ⟨r_5, τ_6, e_4, hm⟩ := b2_in hm
    refine g_callVi (k0 := 0) (ci := 9) (As := [.int a1, .int a2]) (rest := []) fx hC rw_w (Rc_familyWeighs l τ_3 a1 a2 e_4) k_1130 Rk_familyWeighs Rh_familyWeighs rfl rfl rfl ⟨rfl, rfl⟩ ⟨Nat.le_trans (Nat.le_of_ble_eq_true rfl) hR.1, Nat.le_trans (Nat.le_of_ble_eq_true rfl) hR.2⟩ hf rfl hl.1 rfl (Nat.le_of_ble_eq_true rfl) dX9_weighs_19 (fun H locs hC => ?_)
    refine lv_iconst (v := (5 : Int32)) hx hb dX9_weighs_22 (by decide) ?_
    refine lv_ixor hx hb dX9_weighs_23 ?_
    cases hm
    exact g_iret fx hr hC rfl dX9_weighs_24
  · replace hm := ifn hm c_1
    refine lv_iload_n hx hb dX9_weighs_5 rfl (lv_at hl 1 rfl) ?_
    refine lv_iconst (v := (2 : Int32)) hx hb dX9_weighs_6 (by decide) ?_
    refine lv_icmp_ne (tgt := 25) hx hb dX9_weighs_7 (by decide) (fun c_7 => ?_) (fun c_7 => ?_)
    · replace hm := ifn hm c_7
      refine lv_iload_n hx hb dX9_weighs_25 rfl (lv_at hl 1 rfl) ?_
      refine lv_iconst (v := (4 : Int32)) hx hb dX9_weighs_26 (by decide) ?_
      refine lv_icmp_ne (tgt := 52) hx hb dX9_weighs_27 (by decide) (fun c_8 => ?_) (fun c_8 => ?_)
      · replace hm := ifn hm c_8
        refine lv_aload_n hx hb dX9_weighs_52 rfl (lv_at hl 0 rfl) ?_
        refine lv_iload_n hx hb dX9_weighs_53 rfl (lv_at hl 1 rfl) ?_
        refine lv_iload_n hx hb dX9_weighs_54 rfl (lv_at hl 2 rfl) ?_
        obtain ⟨r_10, τ_11, e_9, hm⟩ := b2_in hm
        refine g_callVi (k0 := 0) (ci := 9) (As := [.int a1, .int a2]) (rest := []) fx hC rw_w (Rc_familyWeighs l τ a1 a2 e_9) k_1130 Rk_familyWeighs Rh_familyWeighs rfl rfl rfl ⟨rfl, rfl⟩ ⟨Nat.le_trans (Nat.le_of_ble_eq_true rfl) hR.1, Nat.le_trans (Nat.le_of_ble_eq_true rfl) hR.2⟩ hf rfl hl.1 rfl (Nat.le_of_ble_eq_true rfl) dX9_weighs_55 (fun H locs hC => ?_)
        cases hm
        exact g_iret fx hr hC rfl dX9_weighs_58
      · replace hm := ifp hm c_8
        refine lv_aload_n hx hb dX9_weighs_30 rfl (lv_at hl 0 rfl) ?_
        refine lv_bipush (v := (50 : Int32)) hx hb dX9_weighs_31 (by decide) ?_
        obtain ⟨τ_13, e_12, hm⟩ := b1_in hm
        refine g_callVv (k0 := 0) (ci := 9) (As := [.int (50 : Int32)]) (rest := []) fx hC rw_w (Rc_ran l τ (50 : Int32) e_12) k_1114 Rk_ran Rh_ran rfl rfl rfl ⟨rfl, rfl⟩ ⟨Nat.le_trans (Nat.le_of_ble_eq_true rfl) hR.1, Nat.le_trans (Nat.le_of_ble_eq_true rfl) hR.2⟩ hf rfl hl.1 rfl (Nat.le_of_ble_eq_true rfl) dX9_weighs_33 (fun H locs hC => ?_)
        refine lv_aload_n hx hb dX9_weighs_36 rfl (lv_at hl 0 rfl) ?_
        refine lv_iload_n hx hb dX9_weighs_37 rfl (lv_at hl 1 rfl) ?_
        refine lv_iload_n hx hb dX9_weighs_38 rfl (lv_at hl 2 rfl) ?_
        obtain ⟨r_15, τ_16, e_14, hm⟩ := b2_in hm
        refine g_callVi (k0 := 0) (ci := 9) (As := [.int a1, .int a2]) (rest := []) fx hC rw_w (Rc_fits l τ_13 a1 a2 e_14) k_1110 Rk_fits Rh_fits rfl rfl rfl ⟨rfl, rfl⟩ ⟨Nat.le_trans (Nat.le_of_ble_eq_true rfl) hR.1, Nat.le_trans (Nat.le_of_ble_eq_true rfl) hR.2⟩ hf rfl hl.1 rfl (Nat.le_of_ble_eq_true rfl) dX9_weighs_39 (fun H locs hC => ?_)
        refine lv_istore_n (lv' := [(3, .int r_15), (0, .ref (q 0)), (1, .int a1), (2, .int a2)]) hx hb dX9_weighs_42 rfl hl (by decide) rfl (fun ls hl => ?_)
        refine lv_iload_n hx hb dX9_weighs_43 rfl (lv_at hl 0 rfl) ?_
        refine lv_aload_n hx hb dX9_weighs_44 rfl (lv_at hl 1 rfl) ?_
        refine lv_iload_n hx hb dX9_weighs_45 rfl (lv_at hl 2 rfl) ?_
        refine lv_iload_n hx hb dX9_weighs_46 rfl (lv_at hl 3 rfl) ?_
        obtain ⟨r_18, τ_19, e_17, hm⟩ := b2_in hm
        refine g_callVi (k0 := 0) (ci := 9) (As := [.int a1, .int a2]) (rest := [.int r_15]) fx hC rw_w (Rc_familyWeighs l τ_16 a1 a2 e_17) k_1130 Rk_familyWeighs Rh_familyWeighs rfl rfl rfl ⟨rfl, rfl⟩ ⟨Nat.le_trans (Nat.le_of_ble_eq_true rfl) hR.1, Nat.le_trans (Nat.le_of_ble_eq_true rfl) hR.2⟩ hf rfl hl.1 rfl (Nat.le_of_ble_eq_true rfl) dX9_weighs_47 (fun H locs hC => ?_)
        refine lv_isub hx hb dX9_weighs_50 ?_
        cases hm
        exact g_iret fx hr hC rfl dX9_weighs_51
    · replace hm := ifp hm c_7
      refine lv_aload_n hx hb dX9_weighs_10 rfl (lv_at hl 0 rfl) ?_
      refine lv_bipush (v := (21 : Int32)) hx hb dX9_weighs_11 (by decide) ?_
      obtain ⟨τ_21, e_20, hm⟩ := b1_in hm
      refine g_callVv (k0 := 0) (ci := 9) (As := [.int (21 : Int32)]) (rest := []) fx hC rw_w (Rc_ran l τ (21 : Int32) e_20) k_1114 Rk_ran Rh_ran rfl rfl rfl ⟨rfl, rfl⟩ ⟨Nat.le_trans (Nat.le_of_ble_eq_true rfl) hR.1, Nat.le_trans (Nat.le_of_ble_eq_true rfl) hR.2⟩ hf rfl hl.1 rfl (Nat.le_of_ble_eq_true rfl) dX9_weighs_13 (fun H locs hC => ?_)
      refine lv_aload_n hx hb dX9_weighs_16 rfl (lv_at hl 0 rfl) ?_
      refine lv_iload_n hx hb dX9_weighs_17 rfl (lv_at hl 1 rfl) ?_
      refine lv_iload_n hx hb dX9_weighs_18 rfl (lv_at hl 2 rfl) ?_
      obtain ⟨r_23, τ_24, e_22, hm⟩ := b2_in hm
      refine g_callVi (k0 := 0) (ci := 9) (As := [.int a1, .int a2]) (rest := []) fx hC rw_w (Rc_familyWeighs l τ_21 a1 a2 e_22) k_1130 Rk_familyWeighs Rh_familyWeighs rfl rfl rfl ⟨rfl, rfl⟩ ⟨Nat.le_trans (Nat.le_of_ble_eq_true rfl) hR.1, Nat.le_trans (Nat.le_of_ble_eq_true rfl) hR.2⟩ hf rfl hl.1 rfl (Nat.le_of_ble_eq_true rfl) dX9_weighs_19 (fun H locs hC => ?_)
      refine lv_iconst (v := (5 : Int32)) hx hb dX9_weighs_22 (by decide) ?_
      refine lv_ixor hx hb dX9_weighs_23 ?_
      cases hm
      exact g_iret fx hr hC rfl dX9_weighs_24
def Rm_act (τ : RS) (a1 : Int32) (a2 : Int32) (a3 : Int32) : Option (Int32 × RS) :=
  nm (rS τ 18 (0 : Int32)) (fun τ_1 => if (Rm_isFamily τ_1 a1) = (0 : Int32) then (some ((0 : Int32), τ_1)) else (if (Rm_in a2 (0 : Int32) (2 : Int32)) = (0 : Int32) then (some ((0 : Int32), τ_1)) else (b1 (Rm_count0 τ_1 a1) (fun r_6 => nm (rS τ_1 32 r_6) (fun τ_7 => if a2 = (0 : Int32) then (gi a1 30 (b2 (Rm_fits τ_7 (τ_7.2 7 (a1).toNatClampNeg) a3) (fun r_21 τ_22 => some (r_21, τ_22)))) else (if a2 = (1 : Int32) then (gi a1 30 (b2 (Rm_joins τ_7 (τ_7.2 7 (a1).toNatClampNeg) a3) (fun r_17 τ_18 => some (r_17, τ_18)))) else (gi a1 30 (b2 (Rm_weighs τ_7 (τ_7.2 7 (a1).toNatClampNeg) a3) (fun r_13 τ_14 => some (r_13, τ_14))))))))))
abbrev Rrm_act : Room := { frames := 6, cells := 0, slots := 0, locals := 136 }
set_option maxRecDepth 100000 in
set_option maxHeartbeats 4000000 in
theorem Rc_act (l : Launch) {D : va_G} {cy : Nat → ClassId} {ad : List Nat} {q : Nat → Nat} {X : va_W} (τ : RS) (a1 : Int32) (a2 : Int32) (a3 : Int32) {o : Int32 × RS} (hm : Rm_act τ a1 a2 a3 = some o) : GM l yX9_act cX9_act 4 (some .int) Rrm_act D cy (rwd cy q X) ad [.ref (q 0), .int a1, .int a2, .int a3] τ (some (.int o.1)) o.2 := by
  refine g_start RX9 rfl (by decide) (Nat.le_of_ble_eq_true rfl) ?_
  intro p e s m args below meth c fx hr hC ls hl
  have hx := fx.1
  have hb := fx.2.1
  have hR : 6 ≤ (Rrm_act).frames ∧ 136 ≤ (Rrm_act).locals := ⟨Nat.le_refl _, Nat.le_refl _⟩
  have hf : 0 ≤ (Rrm_act).cells ∧ 0 ≤ (Rrm_act).slots := ⟨Nat.zero_le _, Nat.zero_le _⟩
  have hl : lv_has ls 4 [(0, .ref (q 0)), (1, .int a1), (2, .int a2), (3, .int a3)] := hl
  unfold Rm_act at hm
  refine lv_aload_n hx hb dX9_act_0 rfl (lv_at hl 0 rfl) ?_
  refine lv_iconst (v := (0 : Int32)) hx hb dX9_act_1 (by decide) ?_
  refine Rp_18 fx hC dX9_act_2 (fun H locs hC => ?_)
  obtain ⟨τ_1, e_2⟩ : ∃ z, z = (rS τ 18 (0 : Int32)) := ⟨_, rfl⟩
  rw [← e_2] at hC
  replace hm := nm_in hm e_2
  refine lv_aload_n hx hb dX9_act_5 rfl (lv_at hl 0 rfl) ?_
  refine lv_iload_n hx hb dX9_act_6 rfl (lv_at hl 1 rfl) ?_
  refine g_callVi (k0 := 0) (ci := 9) (As := [.int a1]) (rest := []) fx hC rw_w (Rc_isFamily l τ_1 a1) k_449 Rk_isFamily Rh_isFamily rfl rfl rfl ⟨rfl, rfl⟩ ⟨Nat.le_trans (Nat.le_of_ble_eq_true rfl) hR.1, Nat.le_trans (Nat.le_of_ble_eq_true rfl) hR.2⟩ hf rfl hl.1 rfl (Nat.le_of_ble_eq_true rfl) dX9_act_7 (fun H locs hC => ?_)
  refine lv_if_eq (tgt := 22) hx hb dX9_act_10 (by decide) (fun c_3 => ?_) (fun c_3 => ?_)
  · replace hm := ifp hm c_3
    refine lv_iconst (v := (0 : Int32)) hx hb dX9_act_22 (by decide) ?_
    cases hm
    exact g_iret fx hr hC rfl dX9_act_23
  · replace hm := ifn hm c_3
    refine lv_iload_n hx hb dX9_act_13 rfl (lv_at hl 2 rfl) ?_
    refine lv_iconst (v := (0 : Int32)) hx hb dX9_act_14 (by decide) ?_
    refine lv_iconst (v := (2 : Int32)) hx hb dX9_act_15 (by decide) ?_
    refine g_callSi (As := [.int a2, .int (0 : Int32), .int (2 : Int32)]) (rest := []) fx hC rw_w (Rc_in l rw_w τ_1 a2 (0 : Int32) (2 : Int32)) k_140 Rk_in Rh_in ⟨rfl, rfl⟩ ⟨Nat.le_trans (Nat.le_of_ble_eq_true rfl) hR.1, Nat.le_trans (Nat.le_of_ble_eq_true rfl) hR.2⟩ hf rfl hl.1 rfl (Nat.le_of_ble_eq_true rfl) dX9_act_16 (fun H locs hC => ?_)
    refine lv_if_ne (tgt := 24) hx hb dX9_act_19 (by decide) (fun c_4 => ?_) (fun c_4 => ?_)
    · replace hm := ifn hm c_4
      refine lv_aload_n hx hb dX9_act_24 rfl (lv_at hl 0 rfl) ?_
      refine lv_aload_n hx hb dX9_act_25 rfl (lv_at hl 0 rfl) ?_
      refine lv_iload_n hx hb dX9_act_26 rfl (lv_at hl 1 rfl) ?_
      obtain ⟨r_6, e_5, hm⟩ := b1_in hm
      refine g_callVi (k0 := 0) (ci := 9) (As := [.int a1]) (rest := [.ref (q 0)]) fx hC rw_w (Rc_count0 l τ_1 a1 e_5) k_548 Rk_count0 Rh_count0 rfl rfl rfl ⟨rfl, rfl⟩ ⟨Nat.le_trans (Nat.le_of_ble_eq_true rfl) hR.1, Nat.le_trans (Nat.le_of_ble_eq_true rfl) hR.2⟩ hf rfl hl.1 rfl (Nat.le_of_ble_eq_true rfl) dX9_act_27 (fun H locs hC => ?_)
      refine Rp_32 fx hC dX9_act_30 (fun H locs hC => ?_)
      obtain ⟨τ_7, e_8⟩ : ∃ z, z = (rS τ_1 32 r_6) := ⟨_, rfl⟩
      rw [← e_8] at hC
      replace hm := nm_in hm e_8
      refine lv_iload_n hx hb dX9_act_33 rfl (lv_at hl 2 rfl) ?_
      refine lv_if_ne (tgt := 51) hx hb dX9_act_34 (by decide) (fun c_9 => ?_) (fun c_9 => ?_)
      · replace hm := ifn hm c_9
        refine lv_iload_n hx hb dX9_act_51 rfl (lv_at hl 2 rfl) ?_
        refine lv_iconst (v := (1 : Int32)) hx hb dX9_act_52 (by decide) ?_
        refine lv_icmp_ne (tgt := 70) hx hb dX9_act_53 (by decide) (fun c_10 => ?_) (fun c_10 => ?_)
        · replace hm := ifn hm c_10
          refine lv_aload_n hx hb dX9_act_70 rfl (lv_at hl 0 rfl) ?_
          refine lv_aload_n hx hb dX9_act_71 rfl (lv_at hl 0 rfl) ?_
          refine Rg_7 fx hC dX9_act_72 ?_
          refine lv_iload_n hx hb dX9_act_75 rfl (lv_at hl 1 rfl) ?_
          have h_11 := (gi_in hm).1
          replace hm := (gi_in hm).2
          refine Rl_7 fx hC h_11 dX9_act_76 ?_
          refine lv_iload_n hx hb dX9_act_77 rfl (lv_at hl 3 rfl) ?_
          obtain ⟨r_13, τ_14, e_12, hm⟩ := b2_in hm
          refine g_callVi (k0 := 0) (ci := 9) (As := [.int (τ_7.2 7 (a1).toNatClampNeg), .int a3]) (rest := []) fx hC rw_w (Rc_weighs l τ_7 (τ_7.2 7 (a1).toNatClampNeg) a3 e_12) k_1126 Rk_weighs Rh_weighs rfl rfl rfl ⟨rfl, rfl⟩ ⟨Nat.le_trans (Nat.le_of_ble_eq_true rfl) hR.1, Nat.le_trans (Nat.le_of_ble_eq_true rfl) hR.2⟩ hf rfl hl.1 rfl (Nat.le_of_ble_eq_true rfl) dX9_act_78 (fun H locs hC => ?_)
          cases hm
          exact g_iret fx hr hC rfl dX9_act_81
        · replace hm := ifp hm c_10
          refine lv_aload_n hx hb dX9_act_56 rfl (lv_at hl 0 rfl) ?_
          refine lv_aload_n hx hb dX9_act_57 rfl (lv_at hl 0 rfl) ?_
          refine Rg_7 fx hC dX9_act_58 ?_
          refine lv_iload_n hx hb dX9_act_61 rfl (lv_at hl 1 rfl) ?_
          have h_15 := (gi_in hm).1
          replace hm := (gi_in hm).2
          refine Rl_7 fx hC h_15 dX9_act_62 ?_
          refine lv_iload_n hx hb dX9_act_63 rfl (lv_at hl 3 rfl) ?_
          obtain ⟨r_17, τ_18, e_16, hm⟩ := b2_in hm
          refine g_callVi (k0 := 0) (ci := 9) (As := [.int (τ_7.2 7 (a1).toNatClampNeg), .int a3]) (rest := []) fx hC rw_w (Rc_joins l τ_7 (τ_7.2 7 (a1).toNatClampNeg) a3 e_16) k_1118 Rk_joins Rh_joins rfl rfl rfl ⟨rfl, rfl⟩ ⟨Nat.le_trans (Nat.le_of_ble_eq_true rfl) hR.1, Nat.le_trans (Nat.le_of_ble_eq_true rfl) hR.2⟩ hf rfl hl.1 rfl (Nat.le_of_ble_eq_true rfl) dX9_act_64 (fun H locs hC => ?_)
          refine lv_goto (tgt := 81) hx hb dX9_act_67 (by decide) ?_
          cases hm
          exact g_iret fx hr hC rfl dX9_act_81
      · replace hm := ifp hm c_9
        refine lv_aload_n hx hb dX9_act_37 rfl (lv_at hl 0 rfl) ?_
        refine lv_aload_n hx hb dX9_act_38 rfl (lv_at hl 0 rfl) ?_
        refine Rg_7 fx hC dX9_act_39 ?_
        refine lv_iload_n hx hb dX9_act_42 rfl (lv_at hl 1 rfl) ?_
        have h_19 := (gi_in hm).1
        replace hm := (gi_in hm).2
        refine Rl_7 fx hC h_19 dX9_act_43 ?_
        refine lv_iload_n hx hb dX9_act_44 rfl (lv_at hl 3 rfl) ?_
        obtain ⟨r_21, τ_22, e_20, hm⟩ := b2_in hm
        refine g_callVi (k0 := 0) (ci := 9) (As := [.int (τ_7.2 7 (a1).toNatClampNeg), .int a3]) (rest := []) fx hC rw_w (Rc_fits l τ_7 (τ_7.2 7 (a1).toNatClampNeg) a3 e_20) k_1110 Rk_fits Rh_fits rfl rfl rfl ⟨rfl, rfl⟩ ⟨Nat.le_trans (Nat.le_of_ble_eq_true rfl) hR.1, Nat.le_trans (Nat.le_of_ble_eq_true rfl) hR.2⟩ hf rfl hl.1 rfl (Nat.le_of_ble_eq_true rfl) dX9_act_45 (fun H locs hC => ?_)
        refine lv_goto (tgt := 81) hx hb dX9_act_48 (by decide) ?_
        cases hm
        exact g_iret fx hr hC rfl dX9_act_81
    · replace hm := ifp hm c_4
      refine lv_iconst (v := (0 : Int32)) hx hb dX9_act_22 (by decide) ?_
      cases hm
      exact g_iret fx hr hC rfl dX9_act_23
def Rm_trace (τ : RS) (a1 : Int32) : Option Int32 :=
  if (40 : Int32) ≤ (τ.1 18) then (if (Rm_in a1 (0 : Int32) ((40 : Int32) - (1 : Int32))) = (0 : Int32) then (some (-1 : Int32)) else (gi a1 40 (some (τ.2 17 (a1).toNatClampNeg)))) else (if (Rm_in a1 (0 : Int32) ((τ.1 18) - (1 : Int32))) = (0 : Int32) then (some (-1 : Int32)) else (gi a1 40 (some (τ.2 17 (a1).toNatClampNeg))))
abbrev Rrm_trace : Room := { frames := 1, cells := 0, slots := 0, locals := 22 }
set_option maxRecDepth 100000 in
set_option maxHeartbeats 4000000 in
theorem Rc_trace (l : Launch) {D : va_G} {cy : Nat → ClassId} {ad : List Nat} {q : Nat → Nat} {X : va_W} (τ : RS) (a1 : Int32) {o : Int32} (hm : Rm_trace τ a1 = some o) : GM l yX9_trace cX9_trace 2 (some .int) Rrm_trace D cy (rwd cy q X) ad [.ref (q 0), .int a1] τ (some (.int o)) τ := by
  refine g_start RX9 rfl (by decide) (Nat.le_of_ble_eq_true rfl) ?_
  intro p e s m args below meth c fx hr hC ls hl
  have hx := fx.1
  have hb := fx.2.1
  have hR : 1 ≤ (Rrm_trace).frames ∧ 22 ≤ (Rrm_trace).locals := ⟨Nat.le_refl _, Nat.le_refl _⟩
  have hf : 0 ≤ (Rrm_trace).cells ∧ 0 ≤ (Rrm_trace).slots := ⟨Nat.zero_le _, Nat.zero_le _⟩
  have hl : lv_has ls 2 [(0, .ref (q 0)), (1, .int a1)] := hl
  unfold Rm_trace at hm
  refine lv_iload_n hx hb dX9_trace_0 rfl (lv_at hl 1 rfl) ?_
  refine lv_iconst (v := (0 : Int32)) hx hb dX9_trace_1 (by decide) ?_
  refine lv_aload_n hx hb dX9_trace_2 rfl (lv_at hl 0 rfl) ?_
  refine Rg_18 fx hC dX9_trace_3 ?_
  refine lv_bipush (v := (40 : Int32)) hx hb dX9_trace_6 (by decide) ?_
  refine lv_icmp_ge (tgt := 18) hx hb dX9_trace_8 (by decide) (fun c_1 => ?_) (fun c_1 => ?_)
  · replace hm := ifp hm c_1
    refine lv_bipush (v := (40 : Int32)) hx hb dX9_trace_18 (by decide) ?_
    refine lv_iconst (v := (1 : Int32)) hx hb dX9_trace_20 (by decide) ?_
    refine lv_isub hx hb dX9_trace_21 ?_
    refine g_callSi (As := [.int a1, .int (0 : Int32), .int ((40 : Int32) - (1 : Int32))]) (rest := []) fx hC rw_w (Rc_in l rw_w τ a1 (0 : Int32) ((40 : Int32) - (1 : Int32))) k_140 Rk_in Rh_in ⟨rfl, rfl⟩ ⟨Nat.le_trans (Nat.le_of_ble_eq_true rfl) hR.1, Nat.le_trans (Nat.le_of_ble_eq_true rfl) hR.2⟩ hf rfl hl.1 rfl (Nat.le_of_ble_eq_true rfl) dX9_trace_22 (fun H locs hC => ?_)
    refine lv_if_eq (tgt := 37) hx hb dX9_trace_25 (by decide) (fun c_2 => ?_) (fun c_2 => ?_)
    · replace hm := ifp hm c_2
      refine lv_iconst (v := (-1 : Int32)) hx hb dX9_trace_37 (by decide) ?_
      cases hm
      exact g_iret fx hr hC rfl dX9_trace_38
    · replace hm := ifn hm c_2
      refine lv_aload_n hx hb dX9_trace_28 rfl (lv_at hl 0 rfl) ?_
      refine Rg_17 fx hC dX9_trace_29 ?_
      refine lv_iload_n hx hb dX9_trace_32 rfl (lv_at hl 1 rfl) ?_
      have h_3 := (gi_in hm).1
      replace hm := (gi_in hm).2
      refine Rl_17 fx hC h_3 dX9_trace_33 ?_
      refine lv_goto (tgt := 38) hx hb dX9_trace_34 (by decide) ?_
      cases hm
      exact g_iret fx hr hC rfl dX9_trace_38
  · replace hm := ifn hm c_1
    refine lv_aload_n hx hb dX9_trace_11 rfl (lv_at hl 0 rfl) ?_
    refine Rg_18 fx hC dX9_trace_12 ?_
    refine lv_goto (tgt := 20) hx hb dX9_trace_15 (by decide) ?_
    refine lv_iconst (v := (1 : Int32)) hx hb dX9_trace_20 (by decide) ?_
    refine lv_isub hx hb dX9_trace_21 ?_
    refine g_callSi (As := [.int a1, .int (0 : Int32), .int ((τ.1 18) - (1 : Int32))]) (rest := []) fx hC rw_w (Rc_in l rw_w τ a1 (0 : Int32) ((τ.1 18) - (1 : Int32))) k_140 Rk_in Rh_in ⟨rfl, rfl⟩ ⟨Nat.le_trans (Nat.le_of_ble_eq_true rfl) hR.1, Nat.le_trans (Nat.le_of_ble_eq_true rfl) hR.2⟩ hf rfl hl.1 rfl (Nat.le_of_ble_eq_true rfl) dX9_trace_22 (fun H locs hC => ?_)
    refine lv_if_eq (tgt := 37) hx hb dX9_trace_25 (by decide) (fun c_4 => ?_) (fun c_4 => ?_)
    · replace hm := ifp hm c_4
      refine lv_iconst (v := (-1 : Int32)) hx hb dX9_trace_37 (by decide) ?_
      cases hm
      exact g_iret fx hr hC rfl dX9_trace_38
    · replace hm := ifn hm c_4
      refine lv_aload_n hx hb dX9_trace_28 rfl (lv_at hl 0 rfl) ?_
      refine Rg_17 fx hC dX9_trace_29 ?_
      refine lv_iload_n hx hb dX9_trace_32 rfl (lv_at hl 1 rfl) ?_
      have h_5 := (gi_in hm).1
      replace hm := (gi_in hm).2
      refine Rl_17 fx hC h_5 dX9_trace_33 ?_
      refine lv_goto (tgt := 38) hx hb dX9_trace_34 (by decide) ?_
      cases hm
      exact g_iret fx hr hC rfl dX9_trace_38
def Rm_there (τ : RS) (a1 : Int32) : Int32 :=
  if a1 = (0 : Int32) then ((τ.1 0)) else (if a1 = (1 : Int32) then ((τ.1 2)) else (if a1 = (2 : Int32) then ((τ.1 6)) else (if a1 = (3 : Int32) then ((τ.1 9)) else (if a1 = (4 : Int32) then ((τ.1 18)) else ((-2 : Int32))))))
abbrev Rrm_there : Room := { frames := 0, cells := 0, slots := 0, locals := 0 }
set_option maxRecDepth 100000 in
set_option maxHeartbeats 4000000 in
theorem Rc_there (l : Launch) {D : va_G} {cy : Nat → ClassId} {ad : List Nat} {q : Nat → Nat} {X : va_W} (τ : RS) (a1 : Int32) : GM l yX9_there cX9_there 2 (some .int) Rrm_there D cy (rwd cy q X) ad [.ref (q 0), .int a1] τ (some (.int (Rm_there τ a1))) τ := by
  refine g_start RX9 rfl (by decide) (Nat.le_of_ble_eq_true rfl) ?_
  intro p e s m args below meth c fx hr hC ls hl
  have hx := fx.1
  have hb := fx.2.1
  have hR : 0 ≤ (Rrm_there).frames ∧ 0 ≤ (Rrm_there).locals := ⟨Nat.le_refl _, Nat.le_refl _⟩
  have hf : 0 ≤ (Rrm_there).cells ∧ 0 ≤ (Rrm_there).slots := ⟨Nat.zero_le _, Nat.zero_le _⟩
  have hl : lv_has ls 2 [(0, .ref (q 0)), (1, .int a1)] := hl
  obtain ⟨o, hm⟩ : ∃ z, z = Rm_there τ a1 := ⟨_, rfl⟩
  rw [← hm]
  replace hm := hm.symm
  unfold Rm_there at hm
  refine lv_iload_n hx hb dX9_there_0 rfl (lv_at hl 1 rfl) ?_
  refine lv_if_ne (tgt := 11) hx hb dX9_there_1 (by decide) (fun c_1 => ?_) (fun c_1 => ?_)
  · replace hm := ifn hm c_1
    refine lv_iload_n hx hb dX9_there_11 rfl (lv_at hl 1 rfl) ?_
    refine lv_iconst (v := (1 : Int32)) hx hb dX9_there_12 (by decide) ?_
    refine lv_icmp_ne (tgt := 23) hx hb dX9_there_13 (by decide) (fun c_2 => ?_) (fun c_2 => ?_)
    · replace hm := ifn hm c_2
      refine lv_iload_n hx hb dX9_there_23 rfl (lv_at hl 1 rfl) ?_
      refine lv_iconst (v := (2 : Int32)) hx hb dX9_there_24 (by decide) ?_
      refine lv_icmp_ne (tgt := 35) hx hb dX9_there_25 (by decide) (fun c_3 => ?_) (fun c_3 => ?_)
      · replace hm := ifn hm c_3
        refine lv_iload_n hx hb dX9_there_35 rfl (lv_at hl 1 rfl) ?_
        refine lv_iconst (v := (3 : Int32)) hx hb dX9_there_36 (by decide) ?_
        refine lv_icmp_ne (tgt := 47) hx hb dX9_there_37 (by decide) (fun c_4 => ?_) (fun c_4 => ?_)
        · replace hm := ifn hm c_4
          refine lv_iload_n hx hb dX9_there_47 rfl (lv_at hl 1 rfl) ?_
          refine lv_iconst (v := (4 : Int32)) hx hb dX9_there_48 (by decide) ?_
          refine lv_icmp_ne (tgt := 59) hx hb dX9_there_49 (by decide) (fun c_5 => ?_) (fun c_5 => ?_)
          · replace hm := ifn hm c_5
            refine lv_bipush (v := (-2 : Int32)) hx hb dX9_there_59 (by decide) ?_
            exact g_iret fx hr hC (by rw [← hm]) dX9_there_61
          · replace hm := ifp hm c_5
            refine lv_aload_n hx hb dX9_there_52 rfl (lv_at hl 0 rfl) ?_
            refine Rg_18 fx hC dX9_there_53 ?_
            refine lv_goto (tgt := 61) hx hb dX9_there_56 (by decide) ?_
            exact g_iret fx hr hC (by rw [← hm]) dX9_there_61
        · replace hm := ifp hm c_4
          refine lv_aload_n hx hb dX9_there_40 rfl (lv_at hl 0 rfl) ?_
          refine Rg_9 fx hC dX9_there_41 ?_
          refine lv_goto (tgt := 61) hx hb dX9_there_44 (by decide) ?_
          exact g_iret fx hr hC (by rw [← hm]) dX9_there_61
      · replace hm := ifp hm c_3
        refine lv_aload_n hx hb dX9_there_28 rfl (lv_at hl 0 rfl) ?_
        refine Rg_6 fx hC dX9_there_29 ?_
        refine lv_goto (tgt := 61) hx hb dX9_there_32 (by decide) ?_
        exact g_iret fx hr hC (by rw [← hm]) dX9_there_61
    · replace hm := ifp hm c_2
      refine lv_aload_n hx hb dX9_there_16 rfl (lv_at hl 0 rfl) ?_
      refine Rg_2 fx hC dX9_there_17 ?_
      refine lv_goto (tgt := 61) hx hb dX9_there_20 (by decide) ?_
      exact g_iret fx hr hC (by rw [← hm]) dX9_there_61
  · replace hm := ifp hm c_1
    refine lv_aload_n hx hb dX9_there_4 rfl (lv_at hl 0 rfl) ?_
    refine Rg_0 fx hC dX9_there_5 ?_
    refine lv_goto (tgt := 61) hx hb dX9_there_8 (by decide) ?_
    exact g_iret fx hr hC (by rw [← hm]) dX9_there_61

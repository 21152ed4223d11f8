def J6m_bitCount_0f7a4 (a1 : Int32) : Int32 :=
  nm (a1 - (((a1).toUInt32 >>> (((1 : Int32)).toUInt32 &&& Int32.toUInt32 31)).toInt32 &&& (1431655765 : Int32))) (fun x_1 => nm ((x_1 &&& (858993459 : Int32)) + (((x_1).toUInt32 >>> (((2 : Int32)).toUInt32 &&& Int32.toUInt32 31)).toInt32 &&& (858993459 : Int32))) (fun x_2 => nm ((x_2 + ((x_2).toUInt32 >>> (((4 : Int32)).toUInt32 &&& Int32.toUInt32 31)).toInt32) &&& (252645135 : Int32)) (fun x_3 => nm (x_3 + ((x_3).toUInt32 >>> (((8 : Int32)).toUInt32 &&& Int32.toUInt32 31)).toInt32) (fun x_4 => nm (x_4 + ((x_4).toUInt32 >>> (((16 : Int32)).toUInt32 &&& Int32.toUInt32 31)).toInt32) (fun x_5 => (x_5 &&& (63 : Int32)))))))
abbrev J6rm_bitCount_0f7a4 : Room := { frames := 0, cells := 0, slots := 0, locals := 0 }
set_option maxRecDepth 100000 in
set_option maxHeartbeats 4000000 in
theorem J6c_bitCount_0f7a4 (l : Launch) {D : va_G} {cy : Nat → ClassId} {ad : List Nat} {σ : Type} {wd : σ → va_W} (hw : ∀ x y : σ, (wd x).map (·.1) = (wd y).map (·.1)) (τ : σ) (a1 : Int32) : GM l yJ6_bitCount_0f7a4 cJ6_bitCount_0f7a4 1 (some .int) J6rm_bitCount_0f7a4 D cy wd ad [.int a1] τ (some (.int (J6m_bitCount_0f7a4 a1))) τ := by
  refine g_start RJ6 rfl (by decide) (Nat.le_of_ble_eq_true rfl) ?_
  intro p e s m args below meth c fx hr hC ls hl
  have hx := fx.1
  have hb := fx.2.1
  have hR : 0 ≤ (J6rm_bitCount_0f7a4).frames ∧ 0 ≤ (J6rm_bitCount_0f7a4).locals := ⟨Nat.le_refl _, Nat.le_refl _⟩
  have hf : 0 ≤ (J6rm_bitCount_0f7a4).cells ∧ 0 ≤ (J6rm_bitCount_0f7a4).slots := ⟨Nat.zero_le _, Nat.zero_le _⟩
  have hl : lv_has ls 1 [(0, .int a1)] := hl
  obtain ⟨o, hm⟩ : ∃ z, z = J6m_bitCount_0f7a4 a1 := ⟨_, rfl⟩
  rw [← hm]
  replace hm := hm.symm
  unfold J6m_bitCount_0f7a4 at hm
  refine lv_iload_n hx hb dJ6_bitCount_0f7a4_0 rfl (lv_at hl 0 rfl) ?_
  refine lv_iload_n hx hb dJ6_bitCount_0f7a4_1 rfl (lv_at hl 0 rfl) ?_
  refine lv_iconst (v := (1 : Int32)) hx hb dJ6_bitCount_0f7a4_2 (by decide) ?_
  refine lv_iushr hx hb dJ6_bitCount_0f7a4_3 rfl ?_
  refine lv_ldcw hx hb fx.2.2.2.1 (fx.2.2.2.2.1 _ k_295) dJ6_bitCount_0f7a4_4 ?_
  refine lv_iand hx hb dJ6_bitCount_0f7a4_7 ?_
  refine lv_isub hx hb dJ6_bitCount_0f7a4_8 ?_
  refine lv_topi (fun x_1 ex_1 => ?_)
  replace hm := nm_in hm ex_1
  refine lv_istore_n (lv' := [(0, .int x_1)]) hx hb dJ6_bitCount_0f7a4_9 rfl hl (by decide) rfl (fun ls hl => ?_)
  refine lv_iload_n hx hb dJ6_bitCount_0f7a4_10 rfl (lv_at hl 0 rfl) ?_
  refine lv_ldcw hx hb fx.2.2.2.1 (fx.2.2.2.2.1 _ k_296) dJ6_bitCount_0f7a4_11 ?_
  refine lv_iand hx hb dJ6_bitCount_0f7a4_14 ?_
  refine lv_iload_n hx hb dJ6_bitCount_0f7a4_15 rfl (lv_at hl 0 rfl) ?_
  refine lv_iconst (v := (2 : Int32)) hx hb dJ6_bitCount_0f7a4_16 (by decide) ?_
  refine lv_iushr hx hb dJ6_bitCount_0f7a4_17 rfl ?_
  refine lv_ldcw hx hb fx.2.2.2.1 (fx.2.2.2.2.1 _ k_296) dJ6_bitCount_0f7a4_18 ?_
  refine lv_iand hx hb dJ6_bitCount_0f7a4_21 ?_
  refine lv_iadd hx hb dJ6_bitCount_0f7a4_22 ?_
  refine lv_topi (fun x_2 ex_2 => ?_)
  replace hm := nm_in hm ex_2
  refine lv_istore_n (lv' := [(0, .int x_2)]) hx hb dJ6_bitCount_0f7a4_23 rfl hl (by decide) rfl (fun ls hl => ?_)
  refine lv_iload_n hx hb dJ6_bitCount_0f7a4_24 rfl (lv_at hl 0 rfl) ?_
  refine lv_iload_n hx hb dJ6_bitCount_0f7a4_25 rfl (lv_at hl 0 rfl) ?_
  refine lv_iconst (v := (4 : Int32)) hx hb dJ6_bitCount_0f7a4_26 (by decide) ?_
  refine lv_iushr hx hb dJ6_bitCount_0f7a4_27 rfl ?_
  refine lv_iadd hx hb dJ6_bitCount_0f7a4_28 ?_
  refine lv_ldcw hx hb fx.2.2.2.1 (fx.2.2.2.2.1 _ k_297) dJ6_bitCount_0f7a4_29 ?_
  refine lv_iand hx hb dJ6_bitCount_0f7a4_32 ?_
  refine lv_topi (fun x_3 ex_3 => ?_)
  replace hm := nm_in hm ex_3
  refine lv_istore_n (lv' := [(0, .int x_3)]) hx hb dJ6_bitCount_0f7a4_33 rfl hl (by decide) rfl (fun ls hl => ?_)
  refine lv_iload_n hx hb dJ6_bitCount_0f7a4_34 rfl (lv_at hl 0 rfl) ?_
  refine lv_iload_n hx hb dJ6_bitCount_0f7a4_35 rfl (lv_at hl 0 rfl) ?_
  refine lv_bipush (v := (8 : Int32)) hx hb dJ6_bitCount_0f7a4_36 (by decide) ?_
  refine lv_iushr hx hb dJ6_bitCount_0f7a4_38 rfl ?_
  refine lv_iadd hx hb dJ6_bitCount_0f7a4_39 ?_
  refine lv_topi (fun x_4 ex_4 => ?_)
  replace hm := nm_in hm ex_4
  refine lv_istore_n (lv' := [(0, .int x_4)]) hx hb dJ6_bitCount_0f7a4_40 rfl hl (by decide) rfl (fun ls hl => ?_)
  refine lv_iload_n hx hb dJ6_bitCount_0f7a4_41 rfl (lv_at hl 0 rfl) ?_
  refine lv_iload_n hx hb dJ6_bitCount_0f7a4_42 rfl (lv_at hl 0 rfl) ?_
  refine lv_bipush (v := (16 : Int32)) hx hb dJ6_bitCount_0f7a4_43 (by decide) ?_
  refine lv_iushr hx hb dJ6_bitCount_0f7a4_45 rfl ?_
  refine lv_iadd hx hb dJ6_bitCount_0f7a4_46 ?_
  refine lv_topi (fun x_5 ex_5 => ?_)
  replace hm := nm_in hm ex_5
  refine lv_istore_n (lv' := [(0, .int x_5)]) hx hb dJ6_bitCount_0f7a4_47 rfl hl (by decide) rfl (fun ls hl => ?_)
  refine lv_iload_n hx hb dJ6_bitCount_0f7a4_48 rfl (lv_at hl 0 rfl) ?_
  refine lv_bipush (v := (63 : Int32)) hx hb dJ6_bitCount_0f7a4_49 (by decide) ?_
  refine lv_iand hx hb dJ6_bitCount_0f7a4_51 ?_
  exact g_iret fx hr hC (by rw [← hm]) dJ6_bitCount_0f7a4_52
def D7m_put (k : Nat) (τ : DS) (a1 : Int32) : Option DS :=
  if a1 < (0 : Int32) then (some τ) else (if (4096 : Int32) ≤ a1 then (some τ) else (gi (a1 >>> ((6 : Int32) &&& 31)) 64 (gi (a1 >>> ((6 : Int32) &&& 31)) 64 (nm (dJ τ (79 + k) ((a1 >>> ((6 : Int32) &&& 31))).toNatClampNeg ((τ.2.2 (79 + k) ((a1 >>> ((6 : Int32) &&& 31))).toNatClampNeg) ||| ((1 : Int64) <<< (((a1 &&& (63 : Int32))).toInt64 &&& 63)))) (fun τ_5 => some τ_5)))))
abbrev D7rm_put : Room := { frames := 0, cells := 0, slots := 0, locals := 0 }
set_option maxRecDepth 100000 in
set_option maxHeartbeats 4000000 in
theorem D7c_put (l : Launch) {D : va_G} {cy : Nat → ClassId} {ad : List Nat} {q : Nat → Nat} {X : va_W} (k : Nat) (hk : k < 32) (τ : DS) (a1 : Int32) {o : DS} (hm : D7m_put k τ a1 = some o) : DM l yX7_put cX7_put 2 none D7rm_put D cy (dwd cy q X) ad [.ref (q (47 + k)), .int a1] τ none o := by
  refine d_start RX7 rfl (by decide) (Nat.le_of_ble_eq_true rfl) ?_
  intro p e s m args below meth c fx sx hr hC ls hl
  have hx := fx.1
  have hb := fx.2.1
  have hR : 0 ≤ (D7rm_put).frames ∧ 0 ≤ (D7rm_put).locals := ⟨Nat.le_refl _, Nat.le_refl _⟩
  have hf : 0 ≤ (D7rm_put).cells ∧ 0 ≤ (D7rm_put).slots := ⟨Nat.zero_le _, Nat.zero_le _⟩
  have hl : lv_has ls 2 [(0, .ref (q (47 + k))), (1, .int a1)] := hl
  unfold D7m_put at hm
  refine lv_iload_n hx hb dX7_put_0 rfl (lv_at hl 1 rfl) ?_
  refine lv_if_lt (tgt := 29) hx hb dX7_put_1 (by decide) (fun c_1 => ?_) (fun c_1 => ?_)
  · replace hm := ifp hm c_1
    cases hm
    exact g_vret fx hr hC rfl dX7_put_29
  · replace hm := ifn hm c_1
    refine lv_iload_n hx hb dX7_put_4 rfl (lv_at hl 1 rfl) ?_
    refine lv_sipush (v := (4096 : Int32)) hx hb dX7_put_5 (by decide) ?_
    refine lv_icmp_ge (tgt := 29) hx hb dX7_put_8 (by decide) (fun c_2 => ?_) (fun c_2 => ?_)
    · replace hm := ifp hm c_2
      cases hm
      exact g_vret fx hr hC rfl dX7_put_29
    · replace hm := ifn hm c_2
      refine lv_aload_n hx hb dX7_put_11 rfl (lv_at hl 0 rfl) ?_
      refine D7g_1 hk fx hC k_57 dX7_put_12 ?_
      refine lv_iload_n hx hb dX7_put_15 rfl (lv_at hl 1 rfl) ?_
      refine lv_bipush (v := (6 : Int32)) hx hb dX7_put_16 (by decide) ?_
      refine lv_ishr hx hb dX7_put_18 ?_
      refine lv_dup2_11 hx hb dX7_put_19 rfl rfl ?_
      have h_3 := (gi_in hm).1
      replace hm := (gi_in hm).2
      refine DLj fx hC (K7w hk) h_3 dX7_put_20 ?_
      refine lv_lconst (v := (1 : Int64)) hx hb dX7_put_21 (by decide) ?_
      refine lv_iload_n hx hb dX7_put_22 rfl (lv_at hl 1 rfl) ?_
      refine lv_bipush (v := (63 : Int32)) hx hb dX7_put_23 (by decide) ?_
      refine lv_iand hx hb dX7_put_25 ?_
      refine lv_lshl hx hb dX7_put_26 rfl ?_
      refine lv_lor hx hb dX7_put_27 ?_
      have h_4 := (gi_in hm).1
      replace hm := (gi_in hm).2
      refine DSj fx hC (K7w hk) h_4 dX7_put_28 (fun H locs hC => ?_)
      obtain ⟨τ_5, e_6⟩ : ∃ z, z = (dJ τ (79 + k) ((a1 >>> ((6 : Int32) &&& 31))).toNatClampNeg ((τ.2.2 (79 + k) ((a1 >>> ((6 : Int32) &&& 31))).toNatClampNeg) ||| ((1 : Int64) <<< (((a1 &&& (63 : Int32))).toInt64 &&& 63)))) := ⟨_, rfl⟩
      rw [← e_6] at hC
      replace hm := nm_in hm e_6
      cases hm
      exact g_vret fx hr hC rfl dX7_put_29
def D4s_walk_44 {ρ : Type} (rf : DZ → Int32 → Int32 → Int32 → Int32 → Option DZ) (k : Nat) (p1 : Int32) (p2 : Int32) (p3 : Int32) (p4 : Int32) (kx111 : DZ → Option ρ) (rc : Int32 → DZ → Option ρ) (v5 : Int32) (τ : DZ) : Option ρ :=
  if ((τ).1.1 1 1) ≤ v5 then (kx111  τ) else (b1 (D2m_beyond (τ).1 v5 p1) (fun r_5 => if r_5 < (0 : Int32) then (rc (v5 + (1 : Int32)) τ) else (if (p2 &&& ((1 : Int32) <<< (r_5 &&& 31))) = (0 : Int32) then (b1 (rf τ r_5 (p2 ||| ((1 : Int32) <<< (r_5 &&& 31))) (p3 ||| (D2m_placeOf v5)) (p4 + (1 : Int32))) (fun τ_9 => rc (v5 + (1 : Int32)) τ_9)) else (rc (v5 + (1 : Int32)) τ))))
def D4b_walk (k : Nat) (rf : DZ → Int32 → Int32 → Int32 → Int32 → Option DZ) (τ : DZ) (a1 : Int32) (a2 : Int32) (a3 : Int32) (a4 : Int32) : Option DZ :=
  if a4 ≤ (8 : Int32) then (if a4 ≤ (0 : Int32) then (it2 (D4s_walk_44 rf k a1 a2 a3 a4 (fun τ_10 => some τ_10)) fuel (0 : Int32) τ) else (if a1 = ((τ).2 2) then (if (J6m_bitCount_0f7a4 a3) < ((τ).2 3) then (some τ) else (b1 (D7m_put k (τ).1 a3) (fun τ_15 => nm (τ_15, (τ).2) (fun τ_16 => some τ_16)))) else (it2 (D4s_walk_44 rf k a1 a2 a3 a4 (fun τ_12 => some τ_12)) fuel (0 : Int32) τ))) else (some τ)
def D4m_walk (k : Nat) (n : Nat) (τ : DZ) (a1 : Int32) (a2 : Int32) (a3 : Int32) (a4 : Int32) : Option DZ := it5 (D4b_walk k) n τ a1 a2 a3 a4
abbrev D4rm_walk (n : Nat) : Room := { frames := n + 2, cells := 0, slots := 0, locals := 26 * n + 43 }
set_option maxRecDepth 100000 in
set_option maxHeartbeats 4000000 in
theorem D4w_walk_44 {ρ : Type} {out : ρ} {p : Program} {l : Launch} {e : Env} {R : Room} {s : State} {m : MethodId} {args : Array Value} {below : List Frame} {meth : Method} {c : Code} {cells slots : Nat} {Q : State → Prop} {D : va_G} {cy : Nat → ClassId} {ad : List Nat} {q : Nat → Nat} {X : va_W} (fx : FX p s m args meth c cX4_walk 7 RX4 D cy) (sx : SX ad s) (n0 : Nat) (hR : n0 + 1 + 2 ≤ R.frames ∧ 26 * (n0 + 1) + 43 ≤ R.locals) (hf : cells ≤ R.cells ∧ slots ≤ R.slots) (z : Nat) (k : Nat) (hk : k < 32) (p1 : Int32) (p2 : Int32) (p3 : Int32) (p4 : Int32) (rf : DZ → Int32 → Int32 → Int32 → Int32 → Option DZ) (ih : ∀ (τ : DZ) (a1 : Int32) (a2 : Int32) (a3 : Int32) (a4 : Int32) {o : DZ}, rf τ a1 a2 a3 a4 = some o → DM l yX4_walk cX4_walk 7 none (D4rm_walk n0) D cy (swd cy q X z k) ad [.ref z, .int a1, .int a2, .int a3, .int a4] τ none o) {kx111 : DZ → Option ρ} :
    ∀ (n : Nat) (v5 : Int32) (τ : DZ), it2 (D4s_walk_44 rf k p1 p2 p3 p4 kx111) n v5 τ = some out → ∀ (H : Heap) (locs : List Loc) (ls : Array Slot), GC D (swd cy q X z k) ad s τ H locs → lv_has ls 7 [(0, .ref z), (1, .int p1), (2, .int p2), (3, .int p3), (4, .int p4), (5, .int v5)] → (∀ (τ2 : DZ) (H : Heap) (locs : List Loc) (ls : Array Slot), kx111 τ2 = some out → GC D (swd cy q X z k) ad s τ2 H locs → lv_has ls 7 [] → W p l e R s m args below meth c H locs cells slots Q (F0 m 111 ls [])) → W p l e R s m args below meth c H locs cells slots Q (F0 m 44 ls []) := by
  have hx := fx.1
  have hb := fx.2.1
  intro n
  induction n with
  | zero => intro v5 τ hm; exact (it2_z hm).elim
  | succ n ih9 =>
    intro v5 τ hm H locs ls hC hl hx111
    obtain ⟨rc, hrc⟩ : ∃ z, z = it2 (D4s_walk_44 rf k p1 p2 p3 p4 kx111) n := ⟨_, rfl⟩
    replace hm : D4s_walk_44 rf k p1 p2 p3 p4 kx111 rc v5 τ = some out := by rw [hrc]; exact hm
    unfold D4s_walk_44 at hm
    refine lv_iload hx hb dX4_walk_44 (lv_at hl 5 rfl) ?_
    refine lv_aload_n hx hb dX4_walk_46 rfl (lv_at hl 0 rfl) ?_
    refine D4g_0 fx hC k_277 dX4_walk_47 ?_
    have hC1 : GC D (dwd cy q (X ++ [(z, .inr (4, d4 q k (τ).2))])) ad s (τ).1 _ _ := hC
    refine D2g_1 fx hC1 k_290 dX4_walk_50 ?_
    refine lv_icmp_ge (tgt := 111) hx hb dX4_walk_53 (by decide) (fun c_3 => ?_) (fun c_3 => ?_)
    · replace hm := ifp hm c_3
      exact hx111 _ _ _ _ hm hC (lv_sub hl [] rfl)
    · replace hm := ifn hm c_3
      refine lv_aload_n hx hb dX4_walk_56 rfl (lv_at hl 0 rfl) ?_
      refine D4g_0 fx hC k_277 dX4_walk_57 ?_
      refine lv_iload hx hb dX4_walk_60 (lv_at hl 5 rfl) ?_
      refine lv_iload_n hx hb dX4_walk_62 rfl (lv_at hl 1 rfl) ?_
      have hC1 : GC D (dwd cy q (X ++ [(z, .inr (4, d4 q k (τ).2))])) ad s (τ).1 _ _ := hC
      obtain ⟨r_5, e_4, hm⟩ := b1_in hm
      refine d_callVi (ci := 2) (As := [.int v5, .int p1]) (rest := []) fx sx hC1 dw_w (D2c_beyond l (τ).1 v5 p1 e_4) k_299 D2k_beyond D2h_beyond rfl rfl (O_at O2) ⟨rfl, rfl⟩ ⟨Nat.le_trans (show _ ≤ n0 + 1 + 2 from (by omega : 1 + 1 ≤ n0 + 1 + 2)) hR.1, Nat.le_trans (show _ ≤ 26 * (n0 + 1) + 43 from (by omega : 8 + (3 + 11) + 21 ≤ 26 * (n0 + 1) + 43)) hR.2⟩ hf rfl hl.1 rfl (Nat.le_of_ble_eq_true rfl) dX4_walk_63 (fun H locs hC => ?_)
      replace hC : GC D (swd cy q X z k) ad s τ _ _ := hC
      refine lv_istore (lv' := [(6, .int r_5), (0, .ref z), (1, .int p1), (2, .int p2), (3, .int p3), (4, .int p4), (5, .int v5)]) hx hb dX4_walk_66 hl (by decide) rfl (fun ls hl => ?_)
      refine lv_iload hx hb dX4_walk_68 (lv_at hl 0 rfl) ?_
      refine lv_if_lt (tgt := 105) hx hb dX4_walk_70 (by decide) (fun c_6 => ?_) (fun c_6 => ?_)
      · replace hm := ifp hm c_6
        refine lv_iinc (v := (v5 + (1 : Int32))) (lv' := [(5, .int (v5 + (1 : Int32))), (6, .int r_5), (0, .ref z), (1, .int p1), (2, .int p2), (3, .int p3), (4, .int p4)]) hx hb dX4_walk_105 hl (k := 6) rfl rfl (by decide) rfl (fun ls hl => ?_)
        refine lv_goto (tgt := 44) hx hb dX4_walk_108 (by decide) ?_
        rw [hrc] at hm
        exact ih9 _ _ hm _ _ _ hC (lv_sub hl [2, 3, 4, 5, 6, 0] rfl) hx111
      · replace hm := ifn hm c_6
        refine lv_iload_n hx hb dX4_walk_73 rfl (lv_at hl 3 rfl) ?_
        refine lv_iconst (v := (1 : Int32)) hx hb dX4_walk_74 (by decide) ?_
        refine lv_iload hx hb dX4_walk_75 (lv_at hl 0 rfl) ?_
        refine lv_ishl hx hb dX4_walk_77 ?_
        refine lv_iand hx hb dX4_walk_78 ?_
        refine lv_if_ne (tgt := 105) hx hb dX4_walk_79 (by decide) (fun c_7 => ?_) (fun c_7 => ?_)
        · replace hm := ifn hm c_7
          refine lv_iinc (v := (v5 + (1 : Int32))) (lv' := [(5, .int (v5 + (1 : Int32))), (6, .int r_5), (0, .ref z), (1, .int p1), (2, .int p2), (3, .int p3), (4, .int p4)]) hx hb dX4_walk_105 hl (k := 6) rfl rfl (by decide) rfl (fun ls hl => ?_)
          refine lv_goto (tgt := 44) hx hb dX4_walk_108 (by decide) ?_
          rw [hrc] at hm
          exact ih9 _ _ hm _ _ _ hC (lv_sub hl [2, 3, 4, 5, 6, 0] rfl) hx111
        · replace hm := ifp hm c_7
          refine lv_aload_n hx hb dX4_walk_82 rfl (lv_at hl 1 rfl) ?_
          refine lv_iload hx hb dX4_walk_83 (lv_at hl 0 rfl) ?_
          refine lv_iload_n hx hb dX4_walk_85 rfl (lv_at hl 3 rfl) ?_
          refine lv_iconst (v := (1 : Int32)) hx hb dX4_walk_86 (by decide) ?_
          refine lv_iload hx hb dX4_walk_87 (lv_at hl 0 rfl) ?_
          refine lv_ishl hx hb dX4_walk_89 ?_
          refine lv_ior hx hb dX4_walk_90 ?_
          refine lv_iload_n hx hb dX4_walk_91 rfl (lv_at hl 4 rfl) ?_
          refine lv_iload hx hb dX4_walk_92 (lv_at hl 6 rfl) ?_
          have hC1 : GC D (dwd cy q (X ++ [(z, .inr (4, d4 q k (τ).2))])) ad s (τ).1 _ _ := hC
          refine d_callSi (As := [.int v5]) (rest := [.int p3, .int (p2 ||| ((1 : Int32) <<< (r_5 &&& 31))), .int r_5, .ref z]) fx sx hC1 dw_w (D2c_placeOf l (τ).1 v5) k_304 D2k_placeOf D2h_placeOf ⟨rfl, rfl⟩ ⟨Nat.le_trans (show _ ≤ n0 + 1 + 2 from (by omega : 0 + 1 ≤ n0 + 1 + 2)) hR.1, Nat.le_trans (show _ ≤ 26 * (n0 + 1) + 43 from (by omega : 8 + (1 + 11) + 0 ≤ 26 * (n0 + 1) + 43)) hR.2⟩ hf rfl hl.1 rfl (Nat.le_of_ble_eq_true rfl) dX4_walk_94 (fun H locs hC => ?_)
          replace hC : GC D (swd cy q X z k) ad s τ _ _ := hC
          refine lv_ior hx hb dX4_walk_97 ?_
          refine lv_iload hx hb dX4_walk_98 (lv_at hl 5 rfl) ?_
          refine lv_iconst (v := (1 : Int32)) hx hb dX4_walk_100 (by decide) ?_
          refine lv_iadd hx hb dX4_walk_101 ?_
          obtain ⟨τ_9, e_8, hm⟩ := b1_in hm
          refine d_callVv (ci := 4) (As := [.int r_5, .int (p2 ||| ((1 : Int32) <<< (r_5 &&& 31))), .int (p3 ||| (D2m_placeOf v5)), .int (p4 + (1 : Int32))]) (rest := []) fx sx hC sw_w (ih τ r_5 (p2 ||| ((1 : Int32) <<< (r_5 &&& 31))) (p3 ||| (D2m_placeOf v5)) (p4 + (1 : Int32)) e_8) k_286 D4k_walk D4h_walk rfl rfl s_at ⟨rfl, rfl⟩ ⟨Nat.le_trans (show _ ≤ n0 + 1 + 2 from (by omega : n0 + 2 + 1 ≤ n0 + 1 + 2)) hR.1, Nat.le_trans (show _ ≤ 26 * (n0 + 1) + 43 from (by omega : 8 + (7 + 11) + (26 * n0 + 43) ≤ 26 * (n0 + 1) + 43)) hR.2⟩ hf rfl hl.1 rfl (Nat.le_of_ble_eq_true rfl) dX4_walk_102 (fun H locs hC => ?_)
          refine lv_iinc (v := (v5 + (1 : Int32))) (lv' := [(5, .int (v5 + (1 : Int32))), (6, .int r_5), (0, .ref z), (1, .int p1), (2, .int p2), (3, .int p3), (4, .int p4)]) hx hb dX4_walk_105 hl (k := 6) rfl rfl (by decide) rfl (fun ls hl => ?_)
          refine lv_goto (tgt := 44) hx hb dX4_walk_108 (by decide) ?_
          rw [hrc] at hm
          exact ih9 _ _ hm _ _ _ hC (lv_sub hl [2, 3, 4, 5, 6, 0] rfl) hx111
set_option maxRecDepth 100000 in
set_option maxHeartbeats 4000000 in
theorem D4c_walk (l : Launch) {D : va_G} {cy : Nat → ClassId} {ad : List Nat} {q : Nat → Nat} {X : va_W} (z : Nat) (k : Nat) (hk : k < 32) : ∀ (n : Nat) (τ : DZ) (a1 : Int32) (a2 : Int32) (a3 : Int32) (a4 : Int32) {o : DZ}, it5 (D4b_walk k) n τ a1 a2 a3 a4 = some o → DM l yX4_walk cX4_walk 7 none (D4rm_walk n) D cy (swd cy q X z k) ad [.ref z, .int a1, .int a2, .int a3, .int a4] τ none o := by
  intro n
  induction n with
  | zero => intro τ a1 a2 a3 a4 o hm; exact (it5_z hm).elim
  | succ n0 ih =>
    intro τ a1 a2 a3 a4 o hm
    obtain ⟨rf, hrf⟩ : ∃ z, z = it5 (D4b_walk k) n0 := ⟨_, rfl⟩
    replace hm : D4b_walk k rf τ a1 a2 a3 a4 = some o := by rw [hrf]; exact hm
    replace ih : ∀ (τ : DZ) (a1 : Int32) (a2 : Int32) (a3 : Int32) (a4 : Int32) {o : DZ}, rf τ a1 a2 a3 a4 = some o → DM l yX4_walk cX4_walk 7 none (D4rm_walk n0) D cy (swd cy q X z k) ad [.ref z, .int a1, .int a2, .int a3, .int a4] τ none o := by rw [hrf]; exact ih
    clear hrf
    refine d_start RX4 rfl (by decide) (Nat.le_of_ble_eq_true rfl) ?_
    intro p e s m args below meth c fx sx hr hC ls hl
    have hx := fx.1
    have hb := fx.2.1
    have hR : n0 + 1 + 2 ≤ (D4rm_walk (n0 + 1)).frames ∧ 26 * (n0 + 1) + 43 ≤ (D4rm_walk (n0 + 1)).locals := ⟨Nat.le_refl _, Nat.le_refl _⟩
    have hf : 0 ≤ (D4rm_walk (n0 + 1)).cells ∧ 0 ≤ (D4rm_walk (n0 + 1)).slots := ⟨Nat.zero_le _, Nat.zero_le _⟩
    have hl : lv_has ls 7 [(0, .ref z), (1, .int a1), (2, .int a2), (3, .int a3), (4, .int a4)] := hl
    unfold D4b_walk at hm
    refine lv_iload hx hb dX4_walk_0 (lv_at hl 4 rfl) ?_
    refine lv_bipush (v := (8 : Int32)) hx hb dX4_walk_2 (by decide) ?_
    refine lv_icmp_le (tgt := 8) hx hb dX4_walk_4 (by decide) (fun c_1 => ?_) (fun c_1 => ?_)
    · replace hm := ifp hm c_1
      refine lv_iload hx hb dX4_walk_8 (lv_at hl 4 rfl) ?_
      refine lv_if_le (tgt := 41) hx hb dX4_walk_10 (by decide) (fun c_2 => ?_) (fun c_2 => ?_)
      · replace hm := ifp hm c_2
        refine lv_iconst (v := (0 : Int32)) hx hb dX4_walk_41 (by decide) ?_
        refine lv_istore (lv' := [(5, .int (0 : Int32)), (0, .ref z), (1, .int a1), (2, .int a2), (3, .int a3), (4, .int a4)]) hx hb dX4_walk_42 hl (by decide) rfl (fun ls hl => ?_)
        refine D4w_walk_44 fx sx n0 hR hf z k hk a1 a2 a3 a4 rf ih fuel (0 : Int32) τ hm _ _ _ hC (lv_sub hl [1, 2, 3, 4, 5, 0] rfl) (fun τ_10 H locs ls hm hC hl => ?_)
        cases hm
        exact g_vret fx hr hC rfl dX4_walk_111
      · replace hm := ifn hm c_2
        refine lv_iload_n hx hb dX4_walk_13 rfl (lv_at hl 1 rfl) ?_
        refine lv_aload_n hx hb dX4_walk_14 rfl (lv_at hl 0 rfl) ?_
        refine D4g_2 fx hC k_283 dX4_walk_15 ?_
        refine lv_icmp_ne (tgt := 41) hx hb dX4_walk_18 (by decide) (fun c_11 => ?_) (fun c_11 => ?_)
        · replace hm := ifn hm c_11
          refine lv_iconst (v := (0 : Int32)) hx hb dX4_walk_41 (by decide) ?_
          refine lv_istore (lv' := [(5, .int (0 : Int32)), (0, .ref z), (1, .int a1), (2, .int a2), (3, .int a3), (4, .int a4)]) hx hb dX4_walk_42 hl (by decide) rfl (fun ls hl => ?_)
          refine D4w_walk_44 fx sx n0 hR hf z k hk a1 a2 a3 a4 rf ih fuel (0 : Int32) τ hm _ _ _ hC (lv_sub hl [1, 2, 3, 4, 5, 0] rfl) (fun τ_12 H locs ls hm hC hl => ?_)
          cases hm
          exact g_vret fx hr hC rfl dX4_walk_111
        · replace hm := ifp hm c_11
          refine lv_iload_n hx hb dX4_walk_21 rfl (lv_at hl 3 rfl) ?_
          refine g_callSi (As := [.int a3]) (rest := []) fx hC sw_w (J6c_bitCount_0f7a4 l sw_w τ a3) k_291 J6k_bitCount_0f7a4 J6h_bitCount_0f7a4 ⟨rfl, rfl⟩ ⟨Nat.le_trans (show _ ≤ n0 + 1 + 2 from (by omega : 0 + 1 ≤ n0 + 1 + 2)) hR.1, Nat.le_trans (show _ ≤ 26 * (n0 + 1) + 43 from (by omega : 8 + (1 + 11) + 0 ≤ 26 * (n0 + 1) + 43)) hR.2⟩ hf rfl hl.1 rfl (Nat.le_of_ble_eq_true rfl) dX4_walk_22 (fun H locs hC => ?_)
          refine lv_aload_n hx hb dX4_walk_25 rfl (lv_at hl 0 rfl) ?_
          refine D4g_3 fx hC k_285 dX4_walk_26 ?_
          refine lv_icmp_lt (tgt := 40) hx hb dX4_walk_29 (by decide) (fun c_13 => ?_) (fun c_13 => ?_)
          · replace hm := ifp hm c_13
            cases hm
            exact g_vret fx hr hC rfl dX4_walk_40
          · replace hm := ifn hm c_13
            refine lv_aload_n hx hb dX4_walk_32 rfl (lv_at hl 0 rfl) ?_
            refine D4g_1 fx hC k_278 dX4_walk_33 ?_
            refine lv_iload_n hx hb dX4_walk_36 rfl (lv_at hl 3 rfl) ?_
            have hC1 : GC D (dwd cy q (X ++ [(z, .inr (4, d4 q k (τ).2))])) ad s (τ).1 _ _ := hC
            obtain ⟨τ_15, e_14, hm⟩ := b1_in hm
            refine d_callVv (ci := 7) (As := [.int a3]) (rest := []) fx sx hC1 dw_w (D7c_put l k hk (τ).1 a3 e_14) k_298 D7k_put D7h_put rfl rfl (O_at (K7 hk)) ⟨rfl, rfl⟩ ⟨Nat.le_trans (show _ ≤ n0 + 1 + 2 from (by omega : 0 + 1 ≤ n0 + 1 + 2)) hR.1, Nat.le_trans (show _ ≤ 26 * (n0 + 1) + 43 from (by omega : 8 + (2 + 11) + 0 ≤ 26 * (n0 + 1) + 43)) hR.2⟩ hf rfl hl.1 rfl (Nat.le_of_ble_eq_true rfl) dX4_walk_37 (fun H locs hC => ?_)
            replace hC : GC D (swd cy q X z k) ad s (τ_15, (τ).2) _ _ := hC
            obtain ⟨τ_16, e_17⟩ : ∃ y, y = (τ_15, (τ).2) := ⟨_, rfl⟩
            rw [← e_17] at hC
            replace hm := nm_in hm e_17
            cases hm
            exact g_vret fx hr hC rfl dX4_walk_40
    · replace hm := ifn hm c_1
      cases hm
      exact g_vret fx hr hC rfl dX4_walk_7
def D4m_findPaths (k : Nat) (τ : DZ) (a1 : Int32) (a2 : Int32) (a3 : Int32) : Option DZ :=
  nm (dZ τ 2 a2) (fun τ_1 => if a3 = (0 : Int32) then (nm (dZ τ_1 3 (1 : Int32)) (fun τ_4 => b1 (D4m_walk k 24 τ_4 a1 ((1 : Int32) <<< (a1 &&& 31)) (0 : Int32) (0 : Int32)) (fun τ_7 => some τ_7))) else (nm (dZ τ_1 3 (((τ_1).1.1 1 0) - (1 : Int32))) (fun τ_8 => b1 (D4m_walk k 24 τ_8 a1 ((1 : Int32) <<< (a1 &&& 31)) (0 : Int32) (0 : Int32)) (fun τ_11 => some τ_11))))
abbrev D4rm_findPaths : Room := { frames := 27, cells := 0, slots := 0, locals := 693 }
set_option maxRecDepth 100000 in
set_option maxHeartbeats 4000000 in
theorem D4c_findPaths (l : Launch) {D : va_G} {cy : Nat → ClassId} {ad : List Nat} {q : Nat → Nat} {X : va_W} (z : Nat) (k : Nat) (hk : k < 32) (τ : DZ) (a1 : Int32) (a2 : Int32) (a3 : Int32) {o : DZ} (hm : D4m_findPaths k τ a1 a2 a3 = some o) : DM l yX4_findPaths cX4_findPaths 4 none D4rm_findPaths D cy (swd cy q X z k) ad [.ref z, .int a1, .int a2, .int a3] τ none o := by
  refine d_start RX4 rfl (by decide) (Nat.le_of_ble_eq_true rfl) ?_
  intro p e s m args below meth c fx sx hr hC ls hl
  have hx := fx.1
  have hb := fx.2.1
  have hR : 27 ≤ (D4rm_findPaths).frames ∧ 693 ≤ (D4rm_findPaths).locals := ⟨Nat.le_refl _, Nat.le_refl _⟩
  have hf : 0 ≤ (D4rm_findPaths).cells ∧ 0 ≤ (D4rm_findPaths).slots := ⟨Nat.zero_le _, Nat.zero_le _⟩
  have hl : lv_has ls 4 [(0, .ref z), (1, .int a1), (2, .int a2), (3, .int a3)] := hl
  unfold D4m_findPaths at hm
  refine lv_aload_n hx hb dX4_findPaths_0 rfl (lv_at hl 0 rfl) ?_
  refine lv_iload_n hx hb dX4_findPaths_1 rfl (lv_at hl 2 rfl) ?_
  refine D4p_2 fx hC k_283 dX4_findPaths_2 (fun H locs hC => ?_)
  obtain ⟨τ_1, e_2⟩ : ∃ z, z = (dZ τ 2 a2) := ⟨_, rfl⟩
  rw [← e_2] at hC
  replace hm := nm_in hm e_2
  refine lv_aload_n hx hb dX4_findPaths_5 rfl (lv_at hl 0 rfl) ?_
  refine lv_iload_n hx hb dX4_findPaths_6 rfl (lv_at hl 3 rfl) ?_
  refine lv_if_eq (tgt := 22) hx hb dX4_findPaths_7 (by decide) (fun c_3 => ?_) (fun c_3 => ?_)
  · replace hm := ifp hm c_3
    refine lv_iconst (v := (1 : Int32)) hx hb dX4_findPaths_22 (by decide) ?_
    refine D4p_3 fx hC k_285 dX4_findPaths_23 (fun H locs hC => ?_)
    obtain ⟨τ_4, e_5⟩ : ∃ z, z = (dZ τ_1 3 (1 : Int32)) := ⟨_, rfl⟩
    rw [← e_5] at hC
    replace hm := nm_in hm e_5
    refine lv_aload_n hx hb dX4_findPaths_26 rfl (lv_at hl 0 rfl) ?_
    refine lv_iload_n hx hb dX4_findPaths_27 rfl (lv_at hl 1 rfl) ?_
    refine lv_iconst (v := (1 : Int32)) hx hb dX4_findPaths_28 (by decide) ?_
    refine lv_iload_n hx hb dX4_findPaths_29 rfl (lv_at hl 1 rfl) ?_
    refine lv_ishl hx hb dX4_findPaths_30 ?_
    refine lv_iconst (v := (0 : Int32)) hx hb dX4_findPaths_31 (by decide) ?_
    refine lv_iconst (v := (0 : Int32)) hx hb dX4_findPaths_32 (by decide) ?_
    obtain ⟨τ_7, e_6, hm⟩ := b1_in hm
    refine d_callVv (ci := 4) (As := [.int a1, .int ((1 : Int32) <<< (a1 &&& 31)), .int (0 : Int32), .int (0 : Int32)]) (rest := []) fx sx hC sw_w (D4c_walk l z k hk 24 τ_4 a1 ((1 : Int32) <<< (a1 &&& 31)) (0 : Int32) (0 : Int32) e_6) k_286 D4k_walk D4h_walk rfl rfl s_at ⟨rfl, rfl⟩ ⟨Nat.le_trans (Nat.le_of_ble_eq_true rfl) hR.1, Nat.le_trans (Nat.le_of_ble_eq_true rfl) hR.2⟩ hf rfl hl.1 rfl (Nat.le_of_ble_eq_true rfl) dX4_findPaths_33 (fun H locs hC => ?_)
    cases hm
    exact g_vret fx hr hC rfl dX4_findPaths_36
  · replace hm := ifn hm c_3
    refine lv_aload_n hx hb dX4_findPaths_10 rfl (lv_at hl 0 rfl) ?_
    refine D4g_0 fx hC k_277 dX4_findPaths_11 ?_
    have hC1 : GC D (dwd cy q (X ++ [(z, .inr (4, d4 q k (τ_1).2))])) ad s (τ_1).1 _ _ := hC
    refine D2g_0 fx hC1 k_284 dX4_findPaths_14 ?_
    refine lv_iconst (v := (1 : Int32)) hx hb dX4_findPaths_17 (by decide) ?_
    refine lv_isub hx hb dX4_findPaths_18 ?_
    refine lv_goto (tgt := 23) hx hb dX4_findPaths_19 (by decide) ?_
    refine D4p_3 fx hC k_285 dX4_findPaths_23 (fun H locs hC => ?_)
    obtain ⟨τ_8, e_9⟩ : ∃ z, z = (dZ τ_1 3 (((τ_1).1.1 1 0) - (1 : Int32))) := ⟨_, rfl⟩
    rw [← e_9] at hC
    replace hm := nm_in hm e_9
    refine lv_aload_n hx hb dX4_findPaths_26 rfl (lv_at hl 0 rfl) ?_
    refine lv_iload_n hx hb dX4_findPaths_27 rfl (lv_at hl 1 rfl) ?_
    refine lv_iconst (v := (1 : Int32)) hx hb dX4_findPaths_28 (by decide) ?_
    refine lv_iload_n hx hb dX4_findPaths_29 rfl (lv_at hl 1 rfl) ?_
    refine lv_ishl hx hb dX4_findPaths_30 ?_
    refine lv_iconst (v := (0 : Int32)) hx hb dX4_findPaths_31 (by decide) ?_
    refine lv_iconst (v := (0 : Int32)) hx hb dX4_findPaths_32 (by decide) ?_
    obtain ⟨τ_11, e_10, hm⟩ := b1_in hm
    refine d_callVv (ci := 4) (As := [.int a1, .int ((1 : Int32) <<< (a1 &&& 31)), .int (0 : Int32), .int (0 : Int32)]) (rest := []) fx sx hC sw_w (D4c_walk l z k hk 24 τ_8 a1 ((1 : Int32) <<< (a1 &&& 31)) (0 : Int32) (0 : Int32) e_10) k_286 D4k_walk D4h_walk rfl rfl s_at ⟨rfl, rfl⟩ ⟨Nat.le_trans (Nat.le_of_ble_eq_true rfl) hR.1, Nat.le_trans (Nat.le_of_ble_eq_true rfl) hR.2⟩ hf rfl hl.1 rfl (Nat.le_of_ble_eq_true rfl) dX4_findPaths_33 (fun H locs hC => ?_)
    cases hm
    exact g_vret fx hr hC rfl dX4_findPaths_36
def D4s_findRounds_25 {ρ : Type} (k : Nat) (kx59 : DZ → Option ρ) (rc : Int32 → DZ → Option ρ) (v2 : Int32) (τ : DZ) : Option ρ :=
  if ((τ).1.1 1 0) ≤ v2 then (kx59  τ) else (nm (dZ τ 2 v2) (fun τ_5 => b1 (D4m_walk k 24 τ_5 v2 (((1 : Int32) <<< (v2 &&& 31)) - (1 : Int32)) (0 : Int32) (0 : Int32)) (fun τ_8 => rc (v2 + (1 : Int32)) τ_8)))
def D4m_findRounds (k : Nat) (τ : DZ) (a1 : Int32) : Option DZ :=
  if a1 = (0 : Int32) then (nm (dZ τ 3 (3 : Int32)) (fun τ_2 => it2 (D4s_findRounds_25 k (fun τ_9 => some τ_9)) fuel (0 : Int32) τ_2)) else (nm (dZ τ 3 (if (3 : Int32) < ((τ).1.1 1 0) then ((τ).1.1 1 0) else (3 : Int32))) (fun τ_10 => it2 (D4s_findRounds_25 k (fun τ_12 => some τ_12)) fuel (0 : Int32) τ_10))
abbrev D4rm_findRounds : Room := { frames := 27, cells := 0, slots := 0, locals := 693 }
set_option maxRecDepth 100000 in
set_option maxHeartbeats 4000000 in
theorem D4w_findRounds_25 {ρ : Type} {out : ρ} {p : Program} {l : Launch} {e : Env} {R : Room} {s : State} {m : MethodId} {args : Array Value} {below : List Frame} {meth : Method} {c : Code} {cells slots : Nat} {Q : State → Prop} {D : va_G} {cy : Nat → ClassId} {ad : List Nat} {q : Nat → Nat} {X : va_W} (fx : FX p s m args meth c cX4_findRounds 3 RX4 D cy) (sx : SX ad s) (hR : 27 ≤ R.frames ∧ 693 ≤ R.locals) (hf : cells ≤ R.cells ∧ slots ≤ R.slots) (z : Nat) (k : Nat) (hk : k < 32) {kx59 : DZ → Option ρ} :
    ∀ (n : Nat) (v2 : Int32) (τ : DZ), it2 (D4s_findRounds_25 k kx59) n v2 τ = some out → ∀ (H : Heap) (locs : List Loc) (ls : Array Slot), GC D (swd cy q X z k) ad s τ H locs → lv_has ls 3 [(0, .ref z), (2, .int v2)] → (∀ (τ2 : DZ) (H : Heap) (locs : List Loc) (ls : Array Slot), kx59 τ2 = some out → GC D (swd cy q X z k) ad s τ2 H locs → lv_has ls 3 [] → W p l e R s m args below meth c H locs cells slots Q (F0 m 59 ls [])) → W p l e R s m args below meth c H locs cells slots Q (F0 m 25 ls []) := by
  have hx := fx.1
  have hb := fx.2.1
  intro n
  induction n with
  | zero => intro v2 τ hm; exact (it2_z hm).elim
  | succ n ih9 =>
    intro v2 τ hm H locs ls hC hl hx59
    obtain ⟨rc, hrc⟩ : ∃ z, z = it2 (D4s_findRounds_25 k kx59) n := ⟨_, rfl⟩
    replace hm : D4s_findRounds_25 k kx59 rc v2 τ = some out := by rw [hrc]; exact hm
    unfold D4s_findRounds_25 at hm
    refine lv_iload_n hx hb dX4_findRounds_25 rfl (lv_at hl 1 rfl) ?_
    refine lv_aload_n hx hb dX4_findRounds_26 rfl (lv_at hl 0 rfl) ?_
    refine D4g_0 fx hC k_277 dX4_findRounds_27 ?_
    have hC1 : GC D (dwd cy q (X ++ [(z, .inr (4, d4 q k (τ).2))])) ad s (τ).1 _ _ := hC
    refine D2g_0 fx hC1 k_284 dX4_findRounds_30 ?_
    refine lv_icmp_ge (tgt := 59) hx hb dX4_findRounds_33 (by decide) (fun c_4 => ?_) (fun c_4 => ?_)
    · replace hm := ifp hm c_4
      exact hx59 _ _ _ _ hm hC (lv_sub hl [] rfl)
    · replace hm := ifn hm c_4
      refine lv_aload_n hx hb dX4_findRounds_36 rfl (lv_at hl 0 rfl) ?_
      refine lv_iload_n hx hb dX4_findRounds_37 rfl (lv_at hl 1 rfl) ?_
      refine D4p_2 fx hC k_283 dX4_findRounds_38 (fun H locs hC => ?_)
      obtain ⟨τ_5, e_6⟩ : ∃ z, z = (dZ τ 2 v2) := ⟨_, rfl⟩
      rw [← e_6] at hC
      replace hm := nm_in hm e_6
      refine lv_aload_n hx hb dX4_findRounds_41 rfl (lv_at hl 0 rfl) ?_
      refine lv_iload_n hx hb dX4_findRounds_42 rfl (lv_at hl 1 rfl) ?_
      refine lv_iconst (v := (1 : Int32)) hx hb dX4_findRounds_43 (by decide) ?_
      refine lv_iload_n hx hb dX4_findRounds_44 rfl (lv_at hl 1 rfl) ?_
      refine lv_ishl hx hb dX4_findRounds_45 ?_
      refine lv_iconst (v := (1 : Int32)) hx hb dX4_findRounds_46 (by decide) ?_
      refine lv_isub hx hb dX4_findRounds_47 ?_
      refine lv_iconst (v := (0 : Int32)) hx hb dX4_findRounds_48 (by decide) ?_
      refine lv_iconst (v := (0 : Int32)) hx hb dX4_findRounds_49 (by decide) ?_
      obtain ⟨τ_8, e_7, hm⟩ := b1_in hm
      refine d_callVv (ci := 4) (As := [.int v2, .int (((1 : Int32) <<< (v2 &&& 31)) - (1 : Int32)), .int (0 : Int32), .int (0 : Int32)]) (rest := []) fx sx hC sw_w (D4c_walk l z k hk 24 τ_5 v2 (((1 : Int32) <<< (v2 &&& 31)) - (1 : Int32)) (0 : Int32) (0 : Int32) e_7) k_286 D4k_walk D4h_walk rfl rfl s_at ⟨rfl, rfl⟩ ⟨Nat.le_trans (Nat.le_of_ble_eq_true rfl) hR.1, Nat.le_trans (Nat.le_of_ble_eq_true rfl) hR.2⟩ hf rfl hl.1 rfl (Nat.le_of_ble_eq_true rfl) dX4_findRounds_50 (fun H locs hC => ?_)
      refine lv_iinc (v := (v2 + (1 : Int32))) (lv' := [(2, .int (v2 + (1 : Int32))), (0, .ref z)]) hx hb dX4_findRounds_53 hl (k := 1) rfl rfl (by decide) rfl (fun ls hl => ?_)
      refine lv_goto (tgt := 25) hx hb dX4_findRounds_56 (by decide) ?_
      rw [hrc] at hm
      exact ih9 _ _ hm _ _ _ hC (lv_sub hl [1, 0] rfl) hx59
set_option maxRecDepth 100000 in
set_option maxHeartbeats 4000000 in
theorem D4c_findRounds (l : Launch) {D : va_G} {cy : Nat → ClassId} {ad : List Nat} {q : Nat → Nat} {X : va_W} (z : Nat) (k : Nat) (hk : k < 32) (τ : DZ) (a1 : Int32) {o : DZ} (hm : D4m_findRounds k τ a1 = some o) : DM l yX4_findRounds cX4_findRounds 3 none D4rm_findRounds D cy (swd cy q X z k) ad [.ref z, .int a1] τ none o := by
  refine d_start RX4 rfl (by decide) (Nat.le_of_ble_eq_true rfl) ?_
  intro p e s m args below meth c fx sx hr hC ls hl
  have hx := fx.1
  have hb := fx.2.1
  have hR : 27 ≤ (D4rm_findRounds).frames ∧ 693 ≤ (D4rm_findRounds).locals := ⟨Nat.le_refl _, Nat.le_refl _⟩
  have hf : 0 ≤ (D4rm_findRounds).cells ∧ 0 ≤ (D4rm_findRounds).slots := ⟨Nat.zero_le _, Nat.zero_le _⟩
  have hl : lv_has ls 3 [(0, .ref z), (1, .int a1)] := hl
  unfold D4m_findRounds at hm
  refine lv_aload_n hx hb dX4_findRounds_0 rfl (lv_at hl 0 rfl) ?_
  refine lv_iload_n hx hb dX4_findRounds_1 rfl (lv_at hl 1 rfl) ?_
  refine lv_if_eq (tgt := 19) hx hb dX4_findRounds_2 (by decide) (fun c_1 => ?_) (fun c_1 => ?_)
  · replace hm := ifp hm c_1
    refine lv_iconst (v := (3 : Int32)) hx hb dX4_findRounds_19 (by decide) ?_
    refine D4p_3 fx hC k_285 dX4_findRounds_20 (fun H locs hC => ?_)
    obtain ⟨τ_2, e_3⟩ : ∃ z, z = (dZ τ 3 (3 : Int32)) := ⟨_, rfl⟩
    rw [← e_3] at hC
    replace hm := nm_in hm e_3
    refine lv_iconst (v := (0 : Int32)) hx hb dX4_findRounds_23 (by decide) ?_
    refine lv_istore_n (lv' := [(2, .int (0 : Int32)), (0, .ref z), (1, .int a1)]) hx hb dX4_findRounds_24 rfl hl (by decide) rfl (fun ls hl => ?_)
    refine D4w_findRounds_25 fx sx hR hf z k hk fuel (0 : Int32) τ_2 hm _ _ _ hC (lv_sub hl [1, 0] rfl) (fun τ_9 H locs ls hm hC hl => ?_)
    cases hm
    exact g_vret fx hr hC rfl dX4_findRounds_59
  · replace hm := ifn hm c_1
    refine lv_iconst (v := (3 : Int32)) hx hb dX4_findRounds_5 (by decide) ?_
    refine lv_aload_n hx hb dX4_findRounds_6 rfl (lv_at hl 0 rfl) ?_
    refine D4g_0 fx hC k_277 dX4_findRounds_7 ?_
    have hC1 : GC D (dwd cy q (X ++ [(z, .inr (4, d4 q k (τ).2))])) ad s (τ).1 _ _ := hC
    refine D2g_0 fx hC1 k_284 dX4_findRounds_10 ?_
    refine va_mmax (rest := [.ref z]) hx hb (by rw [hl.1]; exact fx.2.2.1) fx.2.2.2.1 (fx.2.2.2.2.1 _ k_338) (fx.2.2.2.2.1 _ k_161) (fx.2.2.2.2.1 _ k_158) (fx.2.2.2.2.1 _ k_162) (Nat.le_trans (Nat.le_of_ble_eq_true rfl) hR.1) (Nat.le_trans (Nat.le_of_ble_eq_true rfl) hR.2) hf.1 hf.2 dX4_findRounds_13 ?_
    refine lv_goto (tgt := 20) hx hb dX4_findRounds_16 (by decide) ?_
    refine D4p_3 fx hC k_285 dX4_findRounds_20 (fun H locs hC => ?_)
    obtain ⟨τ_10, e_11⟩ : ∃ z, z = (dZ τ 3 (if (3 : Int32) < ((τ).1.1 1 0) then ((τ).1.1 1 0) else (3 : Int32))) := ⟨_, rfl⟩
    rw [← e_11] at hC
    replace hm := nm_in hm e_11
    refine lv_iconst (v := (0 : Int32)) hx hb dX4_findRounds_23 (by decide) ?_
    refine lv_istore_n (lv' := [(2, .int (0 : Int32)), (0, .ref z), (1, .int a1)]) hx hb dX4_findRounds_24 rfl hl (by decide) rfl (fun ls hl => ?_)
    refine D4w_findRounds_25 fx sx hR hf z k hk fuel (0 : Int32) τ_10 hm _ _ _ hC (lv_sub hl [1, 0] rfl) (fun τ_12 H locs ls hm hC hl => ?_)
    cases hm
    exact g_vret fx hr hC rfl dX4_findRounds_59
def D4m_label (a1 : Int32) (a2 : Int32) : Int32 :=
  (((a1).toUInt32 >>> ((((4 : Int32) * a2)).toUInt32 &&& Int32.toUInt32 31)).toInt32 &&& (15 : Int32))
abbrev D4rm_label : Room := { frames := 0, cells := 0, slots := 0, locals := 0 }
set_option maxRecDepth 100000 in
set_option maxHeartbeats 4000000 in
theorem D4c_label (l : Launch) {D : va_G} {cy : Nat → ClassId} {ad : List Nat} {σ : Type} {wd : σ → va_W} (hw : ∀ x y : σ, (wd x).map (·.1) = (wd y).map (·.1)) (τ : σ) (a1 : Int32) (a2 : Int32) : GM l yX4_label cX4_label 2 (some .int) D4rm_label D cy wd ad [.int a1, .int a2] τ (some (.int (D4m_label a1 a2))) τ := by
  refine g_start RX4 rfl (by decide) (Nat.le_of_ble_eq_true rfl) ?_
  intro p e s m args below meth c fx hr hC ls hl
  have hx := fx.1
  have hb := fx.2.1
  have hR : 0 ≤ (D4rm_label).frames ∧ 0 ≤ (D4rm_label).locals := ⟨Nat.le_refl _, Nat.le_refl _⟩
  have hf : 0 ≤ (D4rm_label).cells ∧ 0 ≤ (D4rm_label).slots := ⟨Nat.zero_le _, Nat.zero_le _⟩
  have hl : lv_has ls 2 [(0, .int a1), (1, .int a2)] := hl
  obtain ⟨o, hm⟩ : ∃ z, z = D4m_label a1 a2 := ⟨_, rfl⟩
  rw [← hm]
  replace hm := hm.symm
  unfold D4m_label at hm
  refine lv_iload_n hx hb dX4_label_0 rfl (lv_at hl 0 rfl) ?_
  refine lv_iconst (v := (4 : Int32)) hx hb dX4_label_1 (by decide) ?_
  refine lv_iload_n hx hb dX4_label_2 rfl (lv_at hl 1 rfl) ?_
  refine lv_imul hx hb dX4_label_3 ?_
  refine lv_iushr hx hb dX4_label_4 rfl ?_
  refine lv_bipush (v := (15 : Int32)) hx hb dX4_label_5 (by decide) ?_
  refine lv_iand hx hb dX4_label_7 ?_
  exact g_iret fx hr hC (by rw [← hm]) dX4_label_8
def D4s_loadOf_5 {ρ : Type} (k : Nat) (p1 : Int32) (p2 : Int32) (τ : DZ) (kx53 : Int32 → Option ρ) (rc : Int32 → Int32 → Option ρ) (v3 : Int32) (v4 : Int32) : Option ρ :=
  if ((τ).1.1 1 0) ≤ v4 then (kx53 v3) else (if (8 : Int32) ≤ v4 then (kx53 v3) else (if (D4m_label p2 v4) = p1 then (gi v4 8 (rc (v3 + ((τ).1.2.1 2 (v4).toNatClampNeg)) (v4 + (1 : Int32)))) else (rc v3 (v4 + (1 : Int32)))))
def D4m_loadOf (k : Nat) (τ : DZ) (a1 : Int32) (a2 : Int32) : Option Int32 :=
  it2 (D4s_loadOf_5 k a1 a2 τ (fun u_5 => some u_5)) fuel (0 : Int32) (0 : Int32)
abbrev D4rm_loadOf : Room := { frames := 1, cells := 0, slots := 0, locals := 21 }
set_option maxRecDepth 100000 in
set_option maxHeartbeats 4000000 in
theorem D4w_loadOf_5 {ρ : Type} {out : ρ} {p : Program} {l : Launch} {e : Env} {R : Room} {s : State} {m : MethodId} {args : Array Value} {below : List Frame} {meth : Method} {c : Code} {cells slots : Nat} {Q : State → Prop} {D : va_G} {cy : Nat → ClassId} {ad : List Nat} {q : Nat → Nat} {X : va_W} (τ : DZ) (fx : FX p s m args meth c cX4_loadOf 5 RX4 D cy) (sx : SX ad s) (hR : 1 ≤ R.frames ∧ 21 ≤ R.locals) (hf : cells ≤ R.cells ∧ slots ≤ R.slots) (z : Nat) (k : Nat) (hk : k < 32) (p1 : Int32) (p2 : Int32) {kx53 : Int32 → Option ρ} :
    ∀ (n : Nat) (v3 : Int32) (v4 : Int32), it2 (D4s_loadOf_5 k p1 p2 τ kx53) n v3 v4 = some out → ∀ (H : Heap) (locs : List Loc) (ls : Array Slot), GC D (swd cy q X z k) ad s τ H locs → lv_has ls 5 [(0, .ref z), (1, .int p1), (2, .int p2), (3, .int v3), (4, .int v4)] → (∀ (u3 : Int32) (H : Heap) (locs : List Loc) (ls : Array Slot), kx53 u3 = some out → GC D (swd cy q X z k) ad s τ H locs → lv_has ls 5 [(3, .int u3)] → W p l e R s m args below meth c H locs cells slots Q (F0 m 53 ls [])) → W p l e R s m args below meth c H locs cells slots Q (F0 m 5 ls []) := by
  have hx := fx.1
  have hb := fx.2.1
  intro n
  induction n with
  | zero => intro v3 v4 hm; exact (it2_z hm).elim
  | succ n ih9 =>
    intro v3 v4 hm H locs ls hC hl hx53
    obtain ⟨rc, hrc⟩ : ∃ z, z = it2 (D4s_loadOf_5 k p1 p2 τ kx53) n := ⟨_, rfl⟩
    replace hm : D4s_loadOf_5 k p1 p2 τ kx53 rc v3 v4 = some out := by rw [hrc]; exact hm
    unfold D4s_loadOf_5 at hm
    refine lv_iload hx hb dX4_loadOf_5 (lv_at hl 4 rfl) ?_
    refine lv_aload_n hx hb dX4_loadOf_7 rfl (lv_at hl 0 rfl) ?_
    refine D4g_0 fx hC k_277 dX4_loadOf_8 ?_
    have hC1 : GC D (dwd cy q (X ++ [(z, .inr (4, d4 q k (τ).2))])) ad s (τ).1 _ _ := hC
    refine D2g_0 fx hC1 k_284 dX4_loadOf_11 ?_
    refine lv_icmp_ge (tgt := 53) hx hb dX4_loadOf_14 (by decide) (fun c_1 => ?_) (fun c_1 => ?_)
    · replace hm := ifp hm c_1
      exact hx53 _ _ _ _ hm hC (lv_sub hl [3] rfl)
    · replace hm := ifn hm c_1
      refine lv_iload hx hb dX4_loadOf_17 (lv_at hl 4 rfl) ?_
      refine lv_bipush (v := (8 : Int32)) hx hb dX4_loadOf_19 (by decide) ?_
      refine lv_icmp_ge (tgt := 53) hx hb dX4_loadOf_21 (by decide) (fun c_2 => ?_) (fun c_2 => ?_)
      · replace hm := ifp hm c_2
        exact hx53 _ _ _ _ hm hC (lv_sub hl [3] rfl)
      · replace hm := ifn hm c_2
        refine lv_iload_n hx hb dX4_loadOf_24 rfl (lv_at hl 2 rfl) ?_
        refine lv_iload hx hb dX4_loadOf_25 (lv_at hl 4 rfl) ?_
        refine g_callSi (As := [.int p2, .int v4]) (rest := []) fx hC sw_w (D4c_label l sw_w τ p2 v4) k_366 D4k_label D4h_label ⟨rfl, rfl⟩ ⟨Nat.le_trans (Nat.le_of_ble_eq_true rfl) hR.1, Nat.le_trans (Nat.le_of_ble_eq_true rfl) hR.2⟩ hf rfl hl.1 rfl (Nat.le_of_ble_eq_true rfl) dX4_loadOf_27 (fun H locs hC => ?_)
        refine lv_iload_n hx hb dX4_loadOf_30 rfl (lv_at hl 1 rfl) ?_
        refine lv_icmp_ne (tgt := 47) hx hb dX4_loadOf_31 (by decide) (fun c_3 => ?_) (fun c_3 => ?_)
        · replace hm := ifn hm c_3
          refine lv_iinc (v := (v4 + (1 : Int32))) (lv' := [(4, .int (v4 + (1 : Int32))), (0, .ref z), (1, .int p1), (2, .int p2), (3, .int v3)]) hx hb dX4_loadOf_47 hl (k := 4) rfl rfl (by decide) rfl (fun ls hl => ?_)
          refine lv_goto (tgt := 5) hx hb dX4_loadOf_50 (by decide) ?_
          rw [hrc] at hm
          exact ih9 _ _ hm _ _ _ hC (lv_sub hl [1, 2, 3, 4, 0] rfl) hx53
        · replace hm := ifp hm c_3
          refine lv_iload_n hx hb dX4_loadOf_34 rfl (lv_at hl 3 rfl) ?_
          refine lv_aload_n hx hb dX4_loadOf_35 rfl (lv_at hl 0 rfl) ?_
          refine D4g_0 fx hC k_277 dX4_loadOf_36 ?_
          have hC1 : GC D (dwd cy q (X ++ [(z, .inr (4, d4 q k (τ).2))])) ad s (τ).1 _ _ := hC
          refine D2g_2 fx hC1 k_373 dX4_loadOf_39 ?_
          refine lv_iload hx hb dX4_loadOf_42 (lv_at hl 4 rfl) ?_
          have h_4 := (gi_in hm).1
          replace hm := (gi_in hm).2
          have hC1 : GC D (dwd cy q (X ++ [(z, .inr (4, d4 q k (τ).2))])) ad s (τ).1 _ _ := hC
          refine DLi fx hC1 Ka2 h_4 dX4_loadOf_44 ?_
          refine lv_iadd hx hb dX4_loadOf_45 ?_
          refine lv_istore_n (lv' := [(3, .int (v3 + ((τ).1.2.1 2 (v4).toNatClampNeg))), (0, .ref z), (1, .int p1), (2, .int p2), (4, .int v4)]) hx hb dX4_loadOf_46 rfl hl (by decide) rfl (fun ls hl => ?_)
          refine lv_iinc (v := (v4 + (1 : Int32))) (lv' := [(4, .int (v4 + (1 : Int32))), (3, .int (v3 + ((τ).1.2.1 2 (v4).toNatClampNeg))), (0, .ref z), (1, .int p1), (2, .int p2)]) hx hb dX4_loadOf_47 hl (k := 4) rfl rfl (by decide) rfl (fun ls hl => ?_)
          refine lv_goto (tgt := 5) hx hb dX4_loadOf_50 (by decide) ?_
          rw [hrc] at hm
          exact ih9 _ _ hm _ _ _ hC (lv_sub hl [2, 3, 4, 1, 0] rfl) hx53
set_option maxRecDepth 100000 in
set_option maxHeartbeats 4000000 in
theorem D4c_loadOf (l : Launch) {D : va_G} {cy : Nat → ClassId} {ad : List Nat} {q : Nat → Nat} {X : va_W} (z : Nat) (k : Nat) (hk : k < 32) (τ : DZ) (a1 : Int32) (a2 : Int32) {o : Int32} (hm : D4m_loadOf k τ a1 a2 = some o) : DM l yX4_loadOf cX4_loadOf 5 (some .int) D4rm_loadOf D cy (swd cy q X z k) ad [.ref z, .int a1, .int a2] τ (some (.int (o))) τ := by
  refine d_start RX4 rfl (by decide) (Nat.le_of_ble_eq_true rfl) ?_
  intro p e s m args below meth c fx sx hr hC ls hl
  have hx := fx.1
  have hb := fx.2.1
  have hR : 1 ≤ (D4rm_loadOf).frames ∧ 21 ≤ (D4rm_loadOf).locals := ⟨Nat.le_refl _, Nat.le_refl _⟩
  have hf : 0 ≤ (D4rm_loadOf).cells ∧ 0 ≤ (D4rm_loadOf).slots := ⟨Nat.zero_le _, Nat.zero_le _⟩
  have hl : lv_has ls 5 [(0, .ref z), (1, .int a1), (2, .int a2)] := hl
  unfold D4m_loadOf at hm
  refine lv_iconst (v := (0 : Int32)) hx hb dX4_loadOf_0 (by decide) ?_
  refine lv_istore_n (lv' := [(3, .int (0 : Int32)), (0, .ref z), (1, .int a1), (2, .int a2)]) hx hb dX4_loadOf_1 rfl hl (by decide) rfl (fun ls hl => ?_)
  refine lv_iconst (v := (0 : Int32)) hx hb dX4_loadOf_2 (by decide) ?_
  refine lv_istore (lv' := [(4, .int (0 : Int32)), (3, .int (0 : Int32)), (0, .ref z), (1, .int a1), (2, .int a2)]) hx hb dX4_loadOf_3 hl (by decide) rfl (fun ls hl => ?_)
  refine D4w_loadOf_5 τ fx sx hR hf z k hk a1 a2 fuel (0 : Int32) (0 : Int32) hm _ _ _ hC (lv_sub hl [2, 3, 4, 1, 0] rfl) (fun u_5 H locs ls hm hC hl => ?_)
  refine lv_iload_n hx hb dX4_loadOf_53 rfl (lv_at hl 0 rfl) ?_
  cases hm
  exact g_iret fx hr hC rfl dX4_loadOf_54
def D4m_isFitting (k : Nat) (τ : DZ) (a1 : Int32) : Int32 :=
  if a1 < ((τ).2 6) then ((0 : Int32)) else (if ((τ).2 7) < a1 then ((0 : Int32)) else ((1 : Int32)))
abbrev D4rm_isFitting : Room := { frames := 0, cells := 0, slots := 0, locals := 0 }
set_option maxRecDepth 100000 in
set_option maxHeartbeats 4000000 in
theorem D4c_isFitting (l : Launch) {D : va_G} {cy : Nat → ClassId} {ad : List Nat} {q : Nat → Nat} {X : va_W} (z : Nat) (k : Nat) (hk : k < 32) (τ : DZ) (a1 : Int32) : DM l yX4_isFitting cX4_isFitting 2 (some .boolean) D4rm_isFitting D cy (swd cy q X z k) ad [.ref z, .int a1] τ (some (.int (D4m_isFitting k τ a1))) τ := by
  refine d_start RX4 rfl (by decide) (Nat.le_of_ble_eq_true rfl) ?_
  intro p e s m args below meth c fx sx hr hC ls hl
  have hx := fx.1
  have hb := fx.2.1
  have hR : 0 ≤ (D4rm_isFitting).frames ∧ 0 ≤ (D4rm_isFitting).locals := ⟨Nat.le_refl _, Nat.le_refl _⟩
  have hf : 0 ≤ (D4rm_isFitting).cells ∧ 0 ≤ (D4rm_isFitting).slots := ⟨Nat.zero_le _, Nat.zero_le _⟩
  have hl : lv_has ls 2 [(0, .ref z), (1, .int a1)] := hl
  obtain ⟨o, hm⟩ : ∃ z, z = D4m_isFitting k τ a1 := ⟨_, rfl⟩
  rw [← hm]
  replace hm := hm.symm
  unfold D4m_isFitting at hm
  refine lv_iload_n hx hb dX4_isFitting_0 rfl (lv_at hl 1 rfl) ?_
  refine lv_aload_n hx hb dX4_isFitting_1 rfl (lv_at hl 0 rfl) ?_
  refine D4g_6 fx hC k_378 dX4_isFitting_2 ?_
  refine lv_icmp_lt (tgt := 20) hx hb dX4_isFitting_5 (by decide) (fun c_1 => ?_) (fun c_1 => ?_)
  · replace hm := ifp hm c_1
    refine lv_iconst (v := (0 : Int32)) hx hb dX4_isFitting_20 (by decide) ?_
    exact g_zret fx hr rfl hC (by rw [← hm]) dX4_isFitting_21
  · replace hm := ifn hm c_1
    refine lv_iload_n hx hb dX4_isFitting_8 rfl (lv_at hl 1 rfl) ?_
    refine lv_aload_n hx hb dX4_isFitting_9 rfl (lv_at hl 0 rfl) ?_
    refine D4g_7 fx hC k_379 dX4_isFitting_10 ?_
    refine lv_icmp_gt (tgt := 20) hx hb dX4_isFitting_13 (by decide) (fun c_2 => ?_) (fun c_2 => ?_)
    · replace hm := ifp hm c_2
      refine lv_iconst (v := (0 : Int32)) hx hb dX4_isFitting_20 (by decide) ?_
      exact g_zret fx hr rfl hC (by rw [← hm]) dX4_isFitting_21
    · replace hm := ifn hm c_2
      refine lv_iconst (v := (1 : Int32)) hx hb dX4_isFitting_16 (by decide) ?_
      refine lv_goto (tgt := 21) hx hb dX4_isFitting_17 (by decide) ?_
      exact g_zret fx hr rfl hC (by rw [← hm]) dX4_isFitting_21
theorem D4z_isFitting (k : Nat) (τ : DZ) (a1 : Int32) : narrow .boolean (.int (D4m_isFitting k τ a1)) = .int (D4m_isFitting k τ a1) := by
  unfold D4m_isFitting
  repeat' (first | rfl | split)
def D4s_isParting_2 {ρ : Type} (k : Nat) (p1 : Int32) (p2 : Int32) (τ : DZ) (kx69 : Option ρ) (kx77 : Option ρ) (rc : Int32 → Option ρ) (v3 : Int32) : Option ρ :=
  if ((τ).1.1 1 1) ≤ v3 then (kx77) else (if (12 : Int32) ≤ v3 then (kx77) else (if (p1 &&& (D2m_placeOf v3)) = (0 : Int32) then (gi v3 12 (gi v3 12 (if (D4m_label p2 ((τ).1.2.1 3 (v3).toNatClampNeg)) = (D4m_label p2 ((τ).1.2.1 4 (v3).toNatClampNeg)) then (kx69) else (rc (v3 + (1 : Int32)))))) else (rc (v3 + (1 : Int32)))))
def D4s_isParting_79 {ρ : Type} (k : Nat) (p2 : Int32) (τ : DZ) (kx112 : Option ρ) (kx120 : Option ρ) (rc : Int32 → Option ρ) (v3 : Int32) : Option ρ :=
  if ((τ).1.1 1 0) ≤ v3 then (kx120) else (if (D4m_label p2 v3) = v3 then (b1 (D4m_loadOf k τ v3 p2) (fun r_12 => if (D4m_isFitting k τ r_12) = (0 : Int32) then (kx112) else (rc (v3 + (1 : Int32))))) else (rc (v3 + (1 : Int32))))
def D4m_isParting (k : Nat) (τ : DZ) (a1 : Int32) (a2 : Int32) : Option Int32 :=
  it1 (D4s_isParting_2 k a1 a2 τ (some (0 : Int32)) (it1 (D4s_isParting_79 k a2 τ (some (0 : Int32)) (some (1 : Int32))) fuel (0 : Int32))) fuel (0 : Int32)
abbrev D4rm_isParting : Room := { frames := 2, cells := 0, slots := 0, locals := 45 }
set_option maxRecDepth 100000 in
set_option maxHeartbeats 4000000 in
theorem D4w_isParting_2 {ρ : Type} {out : ρ} {p : Program} {l : Launch} {e : Env} {R : Room} {s : State} {m : MethodId} {args : Array Value} {below : List Frame} {meth : Method} {c : Code} {cells slots : Nat} {Q : State → Prop} {D : va_G} {cy : Nat → ClassId} {ad : List Nat} {q : Nat → Nat} {X : va_W} (τ : DZ) (fx : FX p s m args meth c cX4_isParting 5 RX4 D cy) (sx : SX ad s) (hR : 2 ≤ R.frames ∧ 45 ≤ R.locals) (hf : cells ≤ R.cells ∧ slots ≤ R.slots) (z : Nat) (k : Nat) (hk : k < 32) (p1 : Int32) (p2 : Int32) {kx69 : Option ρ} {kx77 : Option ρ} :
    ∀ (n : Nat) (v3 : Int32), it1 (D4s_isParting_2 k p1 p2 τ kx69 kx77) n v3 = some out → ∀ (H : Heap) (locs : List Loc) (ls : Array Slot), GC D (swd cy q X z k) ad s τ H locs → lv_has ls 5 [(0, .ref z), (1, .int p1), (2, .int p2), (3, .int v3)] → (∀ (H : Heap) (locs : List Loc) (ls : Array Slot), kx69 = some out → GC D (swd cy q X z k) ad s τ H locs → lv_has ls 5 [] → W p l e R s m args below meth c H locs cells slots Q (F0 m 69 ls [])) → (∀ (H : Heap) (locs : List Loc) (ls : Array Slot), kx77 = some out → GC D (swd cy q X z k) ad s τ H locs → lv_has ls 5 [(0, .ref z), (2, .int p2)] → W p l e R s m args below meth c H locs cells slots Q (F0 m 77 ls [])) → W p l e R s m args below meth c H locs cells slots Q (F0 m 2 ls []) := by
  have hx := fx.1
  have hb := fx.2.1
  intro n
  induction n with
  | zero => intro v3 hm; exact (it1_z hm).elim
  | succ n ih9 =>
    intro v3 hm H locs ls hC hl hx69 hx77
    obtain ⟨rc, hrc⟩ : ∃ z, z = it1 (D4s_isParting_2 k p1 p2 τ kx69 kx77) n := ⟨_, rfl⟩
    replace hm : D4s_isParting_2 k p1 p2 τ kx69 kx77 rc v3 = some out := by rw [hrc]; exact hm
    unfold D4s_isParting_2 at hm
    refine lv_iload_n hx hb dX4_isParting_2 rfl (lv_at hl 3 rfl) ?_
    refine lv_aload_n hx hb dX4_isParting_3 rfl (lv_at hl 0 rfl) ?_
    refine D4g_0 fx hC k_277 dX4_isParting_4 ?_
    have hC1 : GC D (dwd cy q (X ++ [(z, .inr (4, d4 q k (τ).2))])) ad s (τ).1 _ _ := hC
    refine D2g_1 fx hC1 k_290 dX4_isParting_7 ?_
    refine lv_icmp_ge (tgt := 77) hx hb dX4_isParting_10 (by decide) (fun c_1 => ?_) (fun c_1 => ?_)
    · replace hm := ifp hm c_1
      exact hx77 _ _ _ hm hC (lv_sub hl [0, 2] rfl)
    · replace hm := ifn hm c_1
      refine lv_iload_n hx hb dX4_isParting_13 rfl (lv_at hl 3 rfl) ?_
      refine lv_bipush (v := (12 : Int32)) hx hb dX4_isParting_14 (by decide) ?_
      refine lv_icmp_ge (tgt := 77) hx hb dX4_isParting_16 (by decide) (fun c_2 => ?_) (fun c_2 => ?_)
      · replace hm := ifp hm c_2
        exact hx77 _ _ _ hm hC (lv_sub hl [0, 2] rfl)
      · replace hm := ifn hm c_2
        refine lv_iload_n hx hb dX4_isParting_19 rfl (lv_at hl 1 rfl) ?_
        refine lv_iload_n hx hb dX4_isParting_20 rfl (lv_at hl 3 rfl) ?_
        have hC1 : GC D (dwd cy q (X ++ [(z, .inr (4, d4 q k (τ).2))])) ad s (τ).1 _ _ := hC
        refine d_callSi (As := [.int v3]) (rest := [.int p1]) fx sx hC1 dw_w (D2c_placeOf l (τ).1 v3) k_304 D2k_placeOf D2h_placeOf ⟨rfl, rfl⟩ ⟨Nat.le_trans (Nat.le_of_ble_eq_true rfl) hR.1, Nat.le_trans (Nat.le_of_ble_eq_true rfl) hR.2⟩ hf rfl hl.1 rfl (Nat.le_of_ble_eq_true rfl) dX4_isParting_21 (fun H locs hC => ?_)
        replace hC : GC D (swd cy q X z k) ad s τ _ _ := hC
        refine lv_iand hx hb dX4_isParting_24 ?_
        refine lv_if_ne (tgt := 32) hx hb dX4_isParting_25 (by decide) (fun c_3 => ?_) (fun c_3 => ?_)
        · replace hm := ifn hm c_3
          refine lv_iconst (v := (0 : Int32)) hx hb dX4_isParting_32 (by decide) ?_
          refine lv_istore (lv' := [(4, .int (0 : Int32)), (0, .ref z), (1, .int p1), (2, .int p2), (3, .int v3)]) hx hb dX4_isParting_33 hl (by decide) rfl (fun ls hl => ?_)
          refine lv_iload hx hb dX4_isParting_35 (lv_at hl 0 rfl) ?_
          refine lv_if_eq (tgt := 71) hx hb dX4_isParting_37 (by decide) (fun c_4 => ?_) (fun c_4 => ?_)
          · refine lv_iinc (v := (v3 + (1 : Int32))) (lv' := [(3, .int (v3 + (1 : Int32))), (4, .int (0 : Int32)), (0, .ref z), (1, .int p1), (2, .int p2)]) hx hb dX4_isParting_71 hl (k := 4) rfl rfl (by decide) rfl (fun ls hl => ?_)
            refine lv_goto (tgt := 2) hx hb dX4_isParting_74 (by decide) ?_
            rw [hrc] at hm
            exact ih9 _ hm _ _ _ hC (lv_sub hl [2, 3, 4, 0] rfl) hx69 hx77
          · exact absurd (by decide) c_4
        · replace hm := ifp hm c_3
          refine lv_iconst (v := (1 : Int32)) hx hb dX4_isParting_28 (by decide) ?_
          refine lv_goto (tgt := 33) hx hb dX4_isParting_29 (by decide) ?_
          refine lv_istore (lv' := [(4, .int (1 : Int32)), (0, .ref z), (1, .int p1), (2, .int p2), (3, .int v3)]) hx hb dX4_isParting_33 hl (by decide) rfl (fun ls hl => ?_)
          refine lv_iload hx hb dX4_isParting_35 (lv_at hl 0 rfl) ?_
          refine lv_if_eq (tgt := 71) hx hb dX4_isParting_37 (by decide) (fun c_5 => ?_) (fun c_5 => ?_)
          · exact absurd c_5 (by decide)
          · refine lv_iload_n hx hb dX4_isParting_40 rfl (lv_at hl 3 rfl) ?_
            refine lv_aload_n hx hb dX4_isParting_41 rfl (lv_at hl 1 rfl) ?_
            refine D4g_0 fx hC k_277 dX4_isParting_42 ?_
            have hC1 : GC D (dwd cy q (X ++ [(z, .inr (4, d4 q k (τ).2))])) ad s (τ).1 _ _ := hC
            refine D2g_3 fx hC1 k_359 dX4_isParting_45 ?_
            refine lv_iload_n hx hb dX4_isParting_48 rfl (lv_at hl 4 rfl) ?_
            have h_6 := (gi_in hm).1
            replace hm := (gi_in hm).2
            have hC1 : GC D (dwd cy q (X ++ [(z, .inr (4, d4 q k (τ).2))])) ad s (τ).1 _ _ := hC
            refine DLi fx hC1 Ka3 h_6 dX4_isParting_49 ?_
            refine g_callSi (As := [.int p2, .int ((τ).1.2.1 3 (v3).toNatClampNeg)]) (rest := []) fx hC sw_w (D4c_label l sw_w τ p2 ((τ).1.2.1 3 (v3).toNatClampNeg)) k_366 D4k_label D4h_label ⟨rfl, rfl⟩ ⟨Nat.le_trans (Nat.le_of_ble_eq_true rfl) hR.1, Nat.le_trans (Nat.le_of_ble_eq_true rfl) hR.2⟩ hf rfl hl.1 rfl (Nat.le_of_ble_eq_true rfl) dX4_isParting_50 (fun H locs hC => ?_)
            refine lv_iload_n hx hb dX4_isParting_53 rfl (lv_at hl 3 rfl) ?_
            refine lv_aload_n hx hb dX4_isParting_54 rfl (lv_at hl 1 rfl) ?_
            refine D4g_0 fx hC k_277 dX4_isParting_55 ?_
            have hC1 : GC D (dwd cy q (X ++ [(z, .inr (4, d4 q k (τ).2))])) ad s (τ).1 _ _ := hC
            refine D2g_4 fx hC1 k_360 dX4_isParting_58 ?_
            refine lv_iload_n hx hb dX4_isParting_61 rfl (lv_at hl 4 rfl) ?_
            have h_7 := (gi_in hm).1
            replace hm := (gi_in hm).2
            have hC1 : GC D (dwd cy q (X ++ [(z, .inr (4, d4 q k (τ).2))])) ad s (τ).1 _ _ := hC
            refine DLi fx hC1 Ka4 h_7 dX4_isParting_62 ?_
            refine g_callSi (As := [.int p2, .int ((τ).1.2.1 4 (v3).toNatClampNeg)]) (rest := [.int (D4m_label p2 ((τ).1.2.1 3 (v3).toNatClampNeg))]) fx hC sw_w (D4c_label l sw_w τ p2 ((τ).1.2.1 4 (v3).toNatClampNeg)) k_366 D4k_label D4h_label ⟨rfl, rfl⟩ ⟨Nat.le_trans (Nat.le_of_ble_eq_true rfl) hR.1, Nat.le_trans (Nat.le_of_ble_eq_true rfl) hR.2⟩ hf rfl hl.1 rfl (Nat.le_of_ble_eq_true rfl) dX4_isParting_63 (fun H locs hC => ?_)
            refine lv_icmp_ne (tgt := 71) hx hb dX4_isParting_66 (by decide) (fun c_8 => ?_) (fun c_8 => ?_)
            · replace hm := ifn hm c_8
              refine lv_iinc (v := (v3 + (1 : Int32))) (lv' := [(3, .int (v3 + (1 : Int32))), (4, .int (1 : Int32)), (0, .ref z), (1, .int p1), (2, .int p2)]) hx hb dX4_isParting_71 hl (k := 4) rfl rfl (by decide) rfl (fun ls hl => ?_)
              refine lv_goto (tgt := 2) hx hb dX4_isParting_74 (by decide) ?_
              rw [hrc] at hm
              exact ih9 _ hm _ _ _ hC (lv_sub hl [2, 3, 4, 0] rfl) hx69 hx77
            · replace hm := ifp hm c_8
              exact hx69 _ _ _ hm hC (lv_sub hl [] rfl)
set_option maxRecDepth 100000 in
set_option maxHeartbeats 4000000 in
theorem D4w_isParting_79 {ρ : Type} {out : ρ} {p : Program} {l : Launch} {e : Env} {R : Room} {s : State} {m : MethodId} {args : Array Value} {below : List Frame} {meth : Method} {c : Code} {cells slots : Nat} {Q : State → Prop} {D : va_G} {cy : Nat → ClassId} {ad : List Nat} {q : Nat → Nat} {X : va_W} (τ : DZ) (fx : FX p s m args meth c cX4_isParting 5 RX4 D cy) (sx : SX ad s) (hR : 2 ≤ R.frames ∧ 45 ≤ R.locals) (hf : cells ≤ R.cells ∧ slots ≤ R.slots) (z : Nat) (k : Nat) (hk : k < 32) (p2 : Int32) {kx112 : Option ρ} {kx120 : Option ρ} :
    ∀ (n : Nat) (v3 : Int32), it1 (D4s_isParting_79 k p2 τ kx112 kx120) n v3 = some out → ∀ (H : Heap) (locs : List Loc) (ls : Array Slot), GC D (swd cy q X z k) ad s τ H locs → lv_has ls 5 [(0, .ref z), (2, .int p2), (3, .int v3)] → (∀ (H : Heap) (locs : List Loc) (ls : Array Slot), kx112 = some out → GC D (swd cy q X z k) ad s τ H locs → lv_has ls 5 [] → W p l e R s m args below meth c H locs cells slots Q (F0 m 112 ls [])) → (∀ (H : Heap) (locs : List Loc) (ls : Array Slot), kx120 = some out → GC D (swd cy q X z k) ad s τ H locs → lv_has ls 5 [] → W p l e R s m args below meth c H locs cells slots Q (F0 m 120 ls [])) → W p l e R s m args below meth c H locs cells slots Q (F0 m 79 ls []) := by
  have hx := fx.1
  have hb := fx.2.1
  intro n
  induction n with
  | zero => intro v3 hm; exact (it1_z hm).elim
  | succ n ih9 =>
    intro v3 hm H locs ls hC hl hx112 hx120
    obtain ⟨rc, hrc⟩ : ∃ z, z = it1 (D4s_isParting_79 k p2 τ kx112 kx120) n := ⟨_, rfl⟩
    replace hm : D4s_isParting_79 k p2 τ kx112 kx120 rc v3 = some out := by rw [hrc]; exact hm
    unfold D4s_isParting_79 at hm
    refine lv_iload_n hx hb dX4_isParting_79 rfl (lv_at hl 2 rfl) ?_
    refine lv_aload_n hx hb dX4_isParting_80 rfl (lv_at hl 0 rfl) ?_
    refine D4g_0 fx hC k_277 dX4_isParting_81 ?_
    have hC1 : GC D (dwd cy q (X ++ [(z, .inr (4, d4 q k (τ).2))])) ad s (τ).1 _ _ := hC
    refine D2g_0 fx hC1 k_284 dX4_isParting_84 ?_
    refine lv_icmp_ge (tgt := 120) hx hb dX4_isParting_87 (by decide) (fun c_9 => ?_) (fun c_9 => ?_)
    · replace hm := ifp hm c_9
      exact hx120 _ _ _ hm hC (lv_sub hl [] rfl)
    · replace hm := ifn hm c_9
      refine lv_iload_n hx hb dX4_isParting_90 rfl (lv_at hl 1 rfl) ?_
      refine lv_iload_n hx hb dX4_isParting_91 rfl (lv_at hl 2 rfl) ?_
      refine g_callSi (As := [.int p2, .int v3]) (rest := []) fx hC sw_w (D4c_label l sw_w τ p2 v3) k_366 D4k_label D4h_label ⟨rfl, rfl⟩ ⟨Nat.le_trans (Nat.le_of_ble_eq_true rfl) hR.1, Nat.le_trans (Nat.le_of_ble_eq_true rfl) hR.2⟩ hf rfl hl.1 rfl (Nat.le_of_ble_eq_true rfl) dX4_isParting_92 (fun H locs hC => ?_)
      refine lv_iload_n hx hb dX4_isParting_95 rfl (lv_at hl 2 rfl) ?_
      refine lv_icmp_ne (tgt := 114) hx hb dX4_isParting_96 (by decide) (fun c_10 => ?_) (fun c_10 => ?_)
      · replace hm := ifn hm c_10
        refine lv_iinc (v := (v3 + (1 : Int32))) (lv' := [(3, .int (v3 + (1 : Int32))), (0, .ref z), (2, .int p2)]) hx hb dX4_isParting_114 hl (k := 2) rfl rfl (by decide) rfl (fun ls hl => ?_)
        refine lv_goto (tgt := 79) hx hb dX4_isParting_117 (by decide) ?_
        rw [hrc] at hm
        exact ih9 _ hm _ _ _ hC (lv_sub hl [1, 2, 0] rfl) hx112 hx120
      · replace hm := ifp hm c_10
        refine lv_aload_n hx hb dX4_isParting_99 rfl (lv_at hl 0 rfl) ?_
        refine lv_aload_n hx hb dX4_isParting_100 rfl (lv_at hl 0 rfl) ?_
        refine lv_iload_n hx hb dX4_isParting_101 rfl (lv_at hl 2 rfl) ?_
        refine lv_iload_n hx hb dX4_isParting_102 rfl (lv_at hl 1 rfl) ?_
        obtain ⟨r_12, e_11, hm⟩ := b1_in hm
        refine d_callVi (ci := 4) (As := [.int v3, .int p2]) (rest := [.ref z]) fx sx hC sw_w (D4c_loadOf l z k hk τ v3 p2 e_11) k_369 D4k_loadOf D4h_loadOf rfl rfl s_at ⟨rfl, rfl⟩ ⟨Nat.le_trans (Nat.le_of_ble_eq_true rfl) hR.1, Nat.le_trans (Nat.le_of_ble_eq_true rfl) hR.2⟩ hf rfl hl.1 rfl (Nat.le_of_ble_eq_true rfl) dX4_isParting_103 (fun H locs hC => ?_)
        refine d_callVi (ci := 4) (As := [.int r_12]) (rest := []) fx sx hC sw_w (D4c_isFitting l z k hk τ r_12) k_374 D4k_isFitting D4h_isFitting rfl rfl s_at ⟨rfl, rfl⟩ ⟨Nat.le_trans (Nat.le_of_ble_eq_true rfl) hR.1, Nat.le_trans (Nat.le_of_ble_eq_true rfl) hR.2⟩ hf rfl hl.1 rfl (Nat.le_of_ble_eq_true rfl) dX4_isParting_106 (fun H locs hC => ?_)
        refine lv_if_ne (tgt := 114) hx hb dX4_isParting_109 (by decide) (fun c_13 => ?_) (fun c_13 => ?_)
        · replace hm := ifn hm c_13
          refine lv_iinc (v := (v3 + (1 : Int32))) (lv' := [(3, .int (v3 + (1 : Int32))), (0, .ref z), (2, .int p2)]) hx hb dX4_isParting_114 hl (k := 2) rfl rfl (by decide) rfl (fun ls hl => ?_)
          refine lv_goto (tgt := 79) hx hb dX4_isParting_117 (by decide) ?_
          rw [hrc] at hm
          exact ih9 _ hm _ _ _ hC (lv_sub hl [1, 2, 0] rfl) hx112 hx120
        · replace hm := ifp hm c_13
          exact hx112 _ _ _ hm hC (lv_sub hl [] rfl)
set_option maxRecDepth 100000 in
set_option maxHeartbeats 4000000 in
theorem D4c_isParting (l : Launch) {D : va_G} {cy : Nat → ClassId} {ad : List Nat} {q : Nat → Nat} {X : va_W} (z : Nat) (k : Nat) (hk : k < 32) (τ : DZ) (a1 : Int32) (a2 : Int32) {o : Int32} (hm : D4m_isParting k τ a1 a2 = some o) : DM l yX4_isParting cX4_isParting 5 (some .boolean) D4rm_isParting D cy (swd cy q X z k) ad [.ref z, .int a1, .int a2] τ (some (.int (o))) τ := by
  refine d_start RX4 rfl (by decide) (Nat.le_of_ble_eq_true rfl) ?_
  intro p e s m args below meth c fx sx hr hC ls hl
  have hx := fx.1
  have hb := fx.2.1
  have hR : 2 ≤ (D4rm_isParting).frames ∧ 45 ≤ (D4rm_isParting).locals := ⟨Nat.le_refl _, Nat.le_refl _⟩
  have hf : 0 ≤ (D4rm_isParting).cells ∧ 0 ≤ (D4rm_isParting).slots := ⟨Nat.zero_le _, Nat.zero_le _⟩
  have hl : lv_has ls 5 [(0, .ref z), (1, .int a1), (2, .int a2)] := hl
  unfold D4m_isParting at hm
  refine lv_iconst (v := (0 : Int32)) hx hb dX4_isParting_0 (by decide) ?_
  refine lv_istore_n (lv' := [(3, .int (0 : Int32)), (0, .ref z), (1, .int a1), (2, .int a2)]) hx hb dX4_isParting_1 rfl hl (by decide) rfl (fun ls hl => ?_)
  refine D4w_isParting_2 τ fx sx hR hf z k hk a1 a2 fuel (0 : Int32) hm _ _ _ hC (lv_sub hl [1, 2, 3, 0] rfl) (fun  H locs ls hm hC hl => ?_) (fun  H locs ls hm hC hl => ?_)
  · refine lv_iconst (v := (0 : Int32)) hx hb dX4_isParting_69 (by decide) ?_
    cases hm
    exact g_zret fx hr rfl hC rfl dX4_isParting_70
  · refine lv_iconst (v := (0 : Int32)) hx hb dX4_isParting_77 (by decide) ?_
    refine lv_istore_n (lv' := [(3, .int (0 : Int32)), (0, .ref z), (2, .int a2)]) hx hb dX4_isParting_78 rfl hl (by decide) rfl (fun ls hl => ?_)
    refine D4w_isParting_79 τ fx sx hR hf z k hk a2 fuel (0 : Int32) hm _ _ _ hC (lv_sub hl [1, 2, 0] rfl) (fun  H locs ls hm hC hl => ?_) (fun  H locs ls hm hC hl => ?_)
    · refine lv_iconst (v := (0 : Int32)) hx hb dX4_isParting_112 (by decide) ?_
      cases hm
      exact g_zret fx hr rfl hC rfl dX4_isParting_113
    · refine lv_iconst (v := (1 : Int32)) hx hb dX4_isParting_120 (by decide) ?_
      cases hm
      exact g_zret fx hr rfl hC rfl dX4_isParting_121
def D4s_relabelled_5 {ρ : Type} (p0 : Int32) (p1 : Int32) (p2 : Int32) (kx39 : Int32 → Option ρ) (rc : Int32 → Int32 → Option ρ) (v3 : Int32) (v4 : Int32) : Option ρ :=
  if (8 : Int32) ≤ v4 then (kx39 v3) else (if (D4m_label p0 v4) = p1 then (nm (v3 ^^^ ((p1 ^^^ p2) <<< (((4 : Int32) * v4) &&& 31))) (fun x_3 => rc x_3 (v4 + (1 : Int32)))) else (rc v3 (v4 + (1 : Int32))))
def D4m_relabelled (a1 : Int32) (a2 : Int32) (a3 : Int32) : Option Int32 :=
  it2 (D4s_relabelled_5 a1 a2 a3 (fun u_4 => some u_4)) fuel a1 (0 : Int32)
abbrev D4rm_relabelled : Room := { frames := 1, cells := 0, slots := 0, locals := 21 }
set_option maxRecDepth 100000 in
set_option maxHeartbeats 4000000 in
theorem D4w_relabelled_5 {ρ : Type} {out : ρ} {p : Program} {l : Launch} {e : Env} {R : Room} {s : State} {m : MethodId} {args : Array Value} {below : List Frame} {meth : Method} {c : Code} {cells slots : Nat} {Q : State → Prop} {D : va_G} {cy : Nat → ClassId} {ad : List Nat} {σ : Type} {wd : σ → va_W} (hw : ∀ x y : σ, (wd x).map (·.1) = (wd y).map (·.1)) {τ : σ} (fx : FX p s m args meth c cX4_relabelled 5 RX4 D cy) (hR : 1 ≤ R.frames ∧ 21 ≤ R.locals) (hf : cells ≤ R.cells ∧ slots ≤ R.slots) (p0 : Int32) (p1 : Int32) (p2 : Int32) {kx39 : Int32 → Option ρ} :
    ∀ (n : Nat) (v3 : Int32) (v4 : Int32), it2 (D4s_relabelled_5 p0 p1 p2 kx39) n v3 v4 = some out → ∀ (H : Heap) (locs : List Loc) (ls : Array Slot), GC D wd ad s τ H locs → lv_has ls 5 [(0, .int p0), (1, .int p1), (2, .int p2), (3, .int v3), (4, .int v4)] → (∀ (u3 : Int32) (H : Heap) (locs : List Loc) (ls : Array Slot), kx39 u3 = some out → GC D wd ad s τ H locs → lv_has ls 5 [(3, .int u3)] → W p l e R s m args below meth c H locs cells slots Q (F0 m 39 ls [])) → W p l e R s m args below meth c H locs cells slots Q (F0 m 5 ls []) := by
  have hx := fx.1
  have hb := fx.2.1
  intro n
  induction n with
  | zero => intro v3 v4 hm; exact (it2_z hm).elim
  | succ n ih9 =>
    intro v3 v4 hm H locs ls hC hl hx39
    obtain ⟨rc, hrc⟩ : ∃ z, z = it2 (D4s_relabelled_5 p0 p1 p2 kx39) n := ⟨_, rfl⟩
    replace hm : D4s_relabelled_5 p0 p1 p2 kx39 rc v3 v4 = some out := by rw [hrc]; exact hm
    unfold D4s_relabelled_5 at hm
    refine lv_iload hx hb dX4_relabelled_5 (lv_at hl 4 rfl) ?_
    refine lv_bipush (v := (8 : Int32)) hx hb dX4_relabelled_7 (by decide) ?_
    refine lv_icmp_ge (tgt := 39) hx hb dX4_relabelled_9 (by decide) (fun c_1 => ?_) (fun c_1 => ?_)
    · replace hm := ifp hm c_1
      exact hx39 _ _ _ _ hm hC (lv_sub hl [3] rfl)
    · replace hm := ifn hm c_1
      refine lv_iload_n hx hb dX4_relabelled_12 rfl (lv_at hl 0 rfl) ?_
      refine lv_iload hx hb dX4_relabelled_13 (lv_at hl 4 rfl) ?_
      refine g_callSi (As := [.int p0, .int v4]) (rest := []) fx hC hw (D4c_label l hw τ p0 v4) k_366 D4k_label D4h_label ⟨rfl, rfl⟩ ⟨Nat.le_trans (Nat.le_of_ble_eq_true rfl) hR.1, Nat.le_trans (Nat.le_of_ble_eq_true rfl) hR.2⟩ hf rfl hl.1 rfl (Nat.le_of_ble_eq_true rfl) dX4_relabelled_15 (fun H locs hC => ?_)
      refine lv_iload_n hx hb dX4_relabelled_18 rfl (lv_at hl 1 rfl) ?_
      refine lv_icmp_ne (tgt := 33) hx hb dX4_relabelled_19 (by decide) (fun c_2 => ?_) (fun c_2 => ?_)
      · replace hm := ifn hm c_2
        refine lv_iinc (v := (v4 + (1 : Int32))) (lv' := [(4, .int (v4 + (1 : Int32))), (0, .int p0), (1, .int p1), (2, .int p2), (3, .int v3)]) hx hb dX4_relabelled_33 hl (k := 4) rfl rfl (by decide) rfl (fun ls hl => ?_)
        refine lv_goto (tgt := 5) hx hb dX4_relabelled_36 (by decide) ?_
        rw [hrc] at hm
        exact ih9 _ _ hm _ _ _ hC (lv_sub hl [1, 2, 3, 4, 0] rfl) hx39
      · replace hm := ifp hm c_2
        refine lv_iload_n hx hb dX4_relabelled_22 rfl (lv_at hl 3 rfl) ?_
        refine lv_iload_n hx hb dX4_relabelled_23 rfl (lv_at hl 1 rfl) ?_
        refine lv_iload_n hx hb dX4_relabelled_24 rfl (lv_at hl 2 rfl) ?_
        refine lv_ixor hx hb dX4_relabelled_25 ?_
        refine lv_iconst (v := (4 : Int32)) hx hb dX4_relabelled_26 (by decide) ?_
        refine lv_iload hx hb dX4_relabelled_27 (lv_at hl 4 rfl) ?_
        refine lv_imul hx hb dX4_relabelled_29 ?_
        refine lv_ishl hx hb dX4_relabelled_30 ?_
        refine lv_ixor hx hb dX4_relabelled_31 ?_
        refine lv_topi (fun x_3 ex_3 => ?_)
        replace hm := nm_in hm ex_3
        refine lv_istore_n (lv' := [(3, .int x_3), (0, .int p0), (1, .int p1), (2, .int p2), (4, .int v4)]) hx hb dX4_relabelled_32 rfl hl (by decide) rfl (fun ls hl => ?_)
        refine lv_iinc (v := (v4 + (1 : Int32))) (lv' := [(4, .int (v4 + (1 : Int32))), (3, .int x_3), (0, .int p0), (1, .int p1), (2, .int p2)]) hx hb dX4_relabelled_33 hl (k := 4) rfl rfl (by decide) rfl (fun ls hl => ?_)
        refine lv_goto (tgt := 5) hx hb dX4_relabelled_36 (by decide) ?_
        rw [hrc] at hm
        exact ih9 _ _ hm _ _ _ hC (lv_sub hl [2, 3, 4, 1, 0] rfl) hx39
set_option maxRecDepth 100000 in
set_option maxHeartbeats 4000000 in
theorem D4c_relabelled (l : Launch) {D : va_G} {cy : Nat → ClassId} {ad : List Nat} {σ : Type} {wd : σ → va_W} (hw : ∀ x y : σ, (wd x).map (·.1) = (wd y).map (·.1)) (τ : σ) (a1 : Int32) (a2 : Int32) (a3 : Int32) {o : Int32} (hm : D4m_relabelled a1 a2 a3 = some o) : GM l yX4_relabelled cX4_relabelled 5 (some .int) D4rm_relabelled D cy wd ad [.int a1, .int a2, .int a3] τ (some (.int (o))) τ := by
  refine g_start RX4 rfl (by decide) (Nat.le_of_ble_eq_true rfl) ?_
  intro p e s m args below meth c fx hr hC ls hl
  have hx := fx.1
  have hb := fx.2.1
  have hR : 1 ≤ (D4rm_relabelled).frames ∧ 21 ≤ (D4rm_relabelled).locals := ⟨Nat.le_refl _, Nat.le_refl _⟩
  have hf : 0 ≤ (D4rm_relabelled).cells ∧ 0 ≤ (D4rm_relabelled).slots := ⟨Nat.zero_le _, Nat.zero_le _⟩
  have hl : lv_has ls 5 [(0, .int a1), (1, .int a2), (2, .int a3)] := hl
  unfold D4m_relabelled at hm
  refine lv_iload_n hx hb dX4_relabelled_0 rfl (lv_at hl 0 rfl) ?_
  refine lv_istore_n (lv' := [(3, .int a1), (0, .int a1), (1, .int a2), (2, .int a3)]) hx hb dX4_relabelled_1 rfl hl (by decide) rfl (fun ls hl => ?_)
  refine lv_iconst (v := (0 : Int32)) hx hb dX4_relabelled_2 (by decide) ?_
  refine lv_istore (lv' := [(4, .int (0 : Int32)), (3, .int a1), (0, .int a1), (1, .int a2), (2, .int a3)]) hx hb dX4_relabelled_3 hl (by decide) rfl (fun ls hl => ?_)
  refine D4w_relabelled_5 hw fx hR hf a1 a2 a3 fuel a1 (0 : Int32) hm _ _ _ hC (lv_sub hl [2, 3, 4, 1, 0] rfl) (fun u_4 H locs ls hm hC hl => ?_)
  refine lv_iload_n hx hb dX4_relabelled_39 rfl (lv_at hl 0 rfl) ?_
  cases hm
  exact g_iret fx hr hC rfl dX4_relabelled_40
def D4b_gather (k : Nat) (rf : DZ → Int32 → Int32 → Int32 → Int32 → Option DZ) (τ : DZ) (a1 : Int32) (a2 : Int32) (a3 : Int32) (a4 : Int32) : Option DZ :=
  if a4 < ((τ).2 4) then (some τ) else (if (a4 - (((τ).1.1 1 1) - a1)) ≤ ((τ).2 4) then (if (D2m_isRoad (τ).1 a1) = (0 : Int32) then (if ((τ).2 5) = (0 : Int32) then (b1 (D7m_put k (τ).1 a2) (fun τ_29 => nm (τ_29, (τ).2) (fun τ_30 => some τ_30))) else (b1 (D4m_isParting k τ a2 a3) (fun r_33 => if r_33 = (0 : Int32) then (some τ) else (b1 (D7m_put k (τ).1 a2) (fun τ_36 => nm (τ_36, (τ).2) (fun τ_37 => some τ_37)))))) else (gi a1 12 (nm (D4m_label a3 ((τ).1.2.1 3 (a1).toNatClampNeg)) (fun x_5 => gi a1 12 (nm (D4m_label a3 ((τ).1.2.1 4 (a1).toNatClampNeg)) (fun x_7 => if x_5 = x_7 then (if ((τ).2 5) = (0 : Int32) then (b1 (rf τ (a1 + (1 : Int32)) a2 a3 a4) (fun τ_22 => if ((τ_22).2 5) = (0 : Int32) then (some τ_22) else (b1 (rf τ_22 (a1 + (1 : Int32)) (a2 ||| (D2m_placeOf a1)) a3 a4) (fun τ_26 => some τ_26)))) else (b1 (rf τ (a1 + (1 : Int32)) (a2 ||| (D2m_placeOf a1)) a3 a4) (fun τ_20 => some τ_20))) else (b1 (rf τ (a1 + (1 : Int32)) a2 a3 a4) (fun τ_10 => b1 (D4m_relabelled a3 x_7 x_5) (fun r_13 => b1 (rf τ_10 (a1 + (1 : Int32)) (a2 ||| (D2m_placeOf a1)) r_13 (a4 - (1 : Int32))) (fun τ_15 => some τ_15)))))))))) else (some τ))
def D4m_gather (k : Nat) (n : Nat) (τ : DZ) (a1 : Int32) (a2 : Int32) (a3 : Int32) (a4 : Int32) : Option DZ := it5 (D4b_gather k) n τ a1 a2 a3 a4
abbrev D4rm_gather (n : Nat) : Room := { frames := n + 3, cells := 0, slots := 0, locals := 26 * n + 69 }
set_option maxRecDepth 100000 in
set_option maxHeartbeats 4000000 in
theorem D4c_gather (l : Launch) {D : va_G} {cy : Nat → ClassId} {ad : List Nat} {q : Nat → Nat} {X : va_W} (z : Nat) (k : Nat) (hk : k < 32) : ∀ (n : Nat) (τ : DZ) (a1 : Int32) (a2 : Int32) (a3 : Int32) (a4 : Int32) {o : DZ}, it5 (D4b_gather k) n τ a1 a2 a3 a4 = some o → DM l yX4_gather cX4_gather 7 none (D4rm_gather n) D cy (swd cy q X z k) ad [.ref z, .int a1, .int a2, .int a3, .int a4] τ none o := by
  intro n
  induction n with
  | zero => intro τ a1 a2 a3 a4 o hm; exact (it5_z hm).elim
  | succ n0 ih =>
    intro τ a1 a2 a3 a4 o hm
    obtain ⟨rf, hrf⟩ : ∃ z, z = it5 (D4b_gather k) n0 := ⟨_, rfl⟩
    replace hm : D4b_gather k rf τ a1 a2 a3 a4 = some o := by rw [hrf]; exact hm
    replace ih : ∀ (τ : DZ) (a1 : Int32) (a2 : Int32) (a3 : Int32) (a4 : Int32) {o : DZ}, rf τ a1 a2 a3 a4 = some o → DM l yX4_gather cX4_gather 7 none (D4rm_gather n0) D cy (swd cy q X z k) ad [.ref z, .int a1, .int a2, .int a3, .int a4] τ none o := by rw [hrf]; exact ih
    clear hrf
    refine d_start RX4 rfl (by decide) (Nat.le_of_ble_eq_true rfl) ?_
    intro p e s m args below meth c fx sx hr hC ls hl
    have hx := fx.1
    have hb := fx.2.1
    have hR : n0 + 1 + 3 ≤ (D4rm_gather (n0 + 1)).frames ∧ 26 * (n0 + 1) + 69 ≤ (D4rm_gather (n0 + 1)).locals := ⟨Nat.le_refl _, Nat.le_refl _⟩
    have hf : 0 ≤ (D4rm_gather (n0 + 1)).cells ∧ 0 ≤ (D4rm_gather (n0 + 1)).slots := ⟨Nat.zero_le _, Nat.zero_le _⟩
    have hl : lv_has ls 7 [(0, .ref z), (1, .int a1), (2, .int a2), (3, .int a3), (4, .int a4)] := hl
    unfold D4b_gather at hm
    refine lv_iload hx hb dX4_gather_0 (lv_at hl 4 rfl) ?_
    refine lv_aload_n hx hb dX4_gather_2 rfl (lv_at hl 0 rfl) ?_
    refine D4g_4 fx hC k_352 dX4_gather_3 ?_
    refine lv_icmp_lt (tgt := 28) hx hb dX4_gather_6 (by decide) (fun c_1 => ?_) (fun c_1 => ?_)
    · replace hm := ifp hm c_1
      cases hm
      exact g_vret fx hr hC rfl dX4_gather_28
    · replace hm := ifn hm c_1
      refine lv_iload hx hb dX4_gather_9 (lv_at hl 4 rfl) ?_
      refine lv_aload_n hx hb dX4_gather_11 rfl (lv_at hl 0 rfl) ?_
      refine D4g_0 fx hC k_277 dX4_gather_12 ?_
      have hC1 : GC D (dwd cy q (X ++ [(z, .inr (4, d4 q k (τ).2))])) ad s (τ).1 _ _ := hC
      refine D2g_1 fx hC1 k_290 dX4_gather_15 ?_
      refine lv_iload_n hx hb dX4_gather_18 rfl (lv_at hl 1 rfl) ?_
      refine lv_isub hx hb dX4_gather_19 ?_
      refine lv_isub hx hb dX4_gather_20 ?_
      refine lv_aload_n hx hb dX4_gather_21 rfl (lv_at hl 0 rfl) ?_
      refine D4g_4 fx hC k_352 dX4_gather_22 ?_
      refine lv_icmp_le (tgt := 29) hx hb dX4_gather_25 (by decide) (fun c_2 => ?_) (fun c_2 => ?_)
      · replace hm := ifp hm c_2
        refine lv_aload_n hx hb dX4_gather_29 rfl (lv_at hl 0 rfl) ?_
        refine D4g_0 fx hC k_277 dX4_gather_30 ?_
        refine lv_iload_n hx hb dX4_gather_33 rfl (lv_at hl 1 rfl) ?_
        have hC1 : GC D (dwd cy q (X ++ [(z, .inr (4, d4 q k (τ).2))])) ad s (τ).1 _ _ := hC
        refine d_callVi (ci := 2) (As := [.int a1]) (rest := []) fx sx hC1 dw_w (D2c_isRoad l (τ).1 a1) k_361 D2k_isRoad D2h_isRoad rfl rfl (O_at O2) ⟨rfl, rfl⟩ ⟨Nat.le_trans (show _ ≤ n0 + 1 + 3 from (by omega : 0 + 1 ≤ n0 + 1 + 3)) hR.1, Nat.le_trans (show _ ≤ 26 * (n0 + 1) + 69 from (by omega : 8 + (2 + 11) + 0 ≤ 26 * (n0 + 1) + 69)) hR.2⟩ hf rfl hl.1 rfl (Nat.le_of_ble_eq_true rfl) dX4_gather_34 (fun H locs hC => ?_)
        replace hC : GC D (swd cy q X z k) ad s τ _ _ := hC
        refine lv_if_ne (tgt := 65) hx hb dX4_gather_37 (by decide) (fun c_3 => ?_) (fun c_3 => ?_)
        · replace hm := ifn hm c_3
          refine lv_iload_n hx hb dX4_gather_65 rfl (lv_at hl 3 rfl) ?_
          refine lv_aload_n hx hb dX4_gather_66 rfl (lv_at hl 0 rfl) ?_
          refine D4g_0 fx hC k_277 dX4_gather_67 ?_
          have hC1 : GC D (dwd cy q (X ++ [(z, .inr (4, d4 q k (τ).2))])) ad s (τ).1 _ _ := hC
          refine D2g_3 fx hC1 k_359 dX4_gather_70 ?_
          refine lv_iload_n hx hb dX4_gather_73 rfl (lv_at hl 1 rfl) ?_
          have h_4 := (gi_in hm).1
          replace hm := (gi_in hm).2
          have hC1 : GC D (dwd cy q (X ++ [(z, .inr (4, d4 q k (τ).2))])) ad s (τ).1 _ _ := hC
          refine DLi fx hC1 Ka3 h_4 dX4_gather_74 ?_
          refine g_callSi (As := [.int a3, .int ((τ).1.2.1 3 (a1).toNatClampNeg)]) (rest := []) fx hC sw_w (D4c_label l sw_w τ a3 ((τ).1.2.1 3 (a1).toNatClampNeg)) k_366 D4k_label D4h_label ⟨rfl, rfl⟩ ⟨Nat.le_trans (show _ ≤ n0 + 1 + 3 from (by omega : 0 + 1 ≤ n0 + 1 + 3)) hR.1, Nat.le_trans (show _ ≤ 26 * (n0 + 1) + 69 from (by omega : 8 + (2 + 11) + 0 ≤ 26 * (n0 + 1) + 69)) hR.2⟩ hf rfl hl.1 rfl (Nat.le_of_ble_eq_true rfl) dX4_gather_75 (fun H locs hC => ?_)
          refine lv_topi (fun x_5 ex_5 => ?_)
          replace hm := nm_in hm ex_5
          refine lv_istore (lv' := [(5, .int x_5), (0, .ref z), (1, .int a1), (2, .int a2), (3, .int a3), (4, .int a4)]) hx hb dX4_gather_78 hl (by decide) rfl (fun ls hl => ?_)
          refine lv_iload_n hx hb dX4_gather_80 rfl (lv_at hl 4 rfl) ?_
          refine lv_aload_n hx hb dX4_gather_81 rfl (lv_at hl 1 rfl) ?_
          refine D4g_0 fx hC k_277 dX4_gather_82 ?_
          have hC1 : GC D (dwd cy q (X ++ [(z, .inr (4, d4 q k (τ).2))])) ad s (τ).1 _ _ := hC
          refine D2g_4 fx hC1 k_360 dX4_gather_85 ?_
          refine lv_iload_n hx hb dX4_gather_88 rfl (lv_at hl 2 rfl) ?_
          have h_6 := (gi_in hm).1
          replace hm := (gi_in hm).2
          have hC1 : GC D (dwd cy q (X ++ [(z, .inr (4, d4 q k (τ).2))])) ad s (τ).1 _ _ := hC
          refine DLi fx hC1 Ka4 h_6 dX4_gather_89 ?_
          refine g_callSi (As := [.int a3, .int ((τ).1.2.1 4 (a1).toNatClampNeg)]) (rest := []) fx hC sw_w (D4c_label l sw_w τ a3 ((τ).1.2.1 4 (a1).toNatClampNeg)) k_366 D4k_label D4h_label ⟨rfl, rfl⟩ ⟨Nat.le_trans (show _ ≤ n0 + 1 + 3 from (by omega : 0 + 1 ≤ n0 + 1 + 3)) hR.1, Nat.le_trans (show _ ≤ 26 * (n0 + 1) + 69 from (by omega : 8 + (2 + 11) + 0 ≤ 26 * (n0 + 1) + 69)) hR.2⟩ hf rfl hl.1 rfl (Nat.le_of_ble_eq_true rfl) dX4_gather_90 (fun H locs hC => ?_)
          refine lv_topi (fun x_7 ex_7 => ?_)
          replace hm := nm_in hm ex_7
          refine lv_istore (lv' := [(6, .int x_7), (5, .int x_5), (0, .ref z), (1, .int a1), (2, .int a2), (3, .int a3), (4, .int a4)]) hx hb dX4_gather_93 hl (by decide) rfl (fun ls hl => ?_)
          refine lv_iload hx hb dX4_gather_95 (lv_at hl 1 rfl) ?_
          refine lv_iload hx hb dX4_gather_97 (lv_at hl 0 rfl) ?_
          refine lv_icmp_ne (tgt := 109) hx hb dX4_gather_99 (by decide) (fun c_8 => ?_) (fun c_8 => ?_)
          · replace hm := ifn hm c_8
            refine lv_aload_n hx hb dX4_gather_109 rfl (lv_at hl 2 rfl) ?_
            refine lv_iload_n hx hb dX4_gather_110 rfl (lv_at hl 3 rfl) ?_
            refine lv_iconst (v := (1 : Int32)) hx hb dX4_gather_111 (by decide) ?_
            refine lv_iadd hx hb dX4_gather_112 ?_
            refine lv_iload_n hx hb dX4_gather_113 rfl (lv_at hl 4 rfl) ?_
            refine lv_iload_n hx hb dX4_gather_114 rfl (lv_at hl 5 rfl) ?_
            refine lv_iload hx hb dX4_gather_115 (lv_at hl 6 rfl) ?_
            obtain ⟨τ_10, e_9, hm⟩ := b1_in hm
            refine d_callVv (ci := 4) (As := [.int (a1 + (1 : Int32)), .int a2, .int a3, .int a4]) (rest := []) fx sx hC sw_w (ih τ (a1 + (1 : Int32)) a2 a3 a4 e_9) k_355 D4k_gather D4h_gather rfl rfl s_at ⟨rfl, rfl⟩ ⟨Nat.le_trans (show _ ≤ n0 + 1 + 3 from (by omega : n0 + 3 + 1 ≤ n0 + 1 + 3)) hR.1, Nat.le_trans (show _ ≤ 26 * (n0 + 1) + 69 from (by omega : 8 + (7 + 11) + (26 * n0 + 69) ≤ 26 * (n0 + 1) + 69)) hR.2⟩ hf rfl hl.1 rfl (Nat.le_of_ble_eq_true rfl) dX4_gather_117 (fun H locs hC => ?_)
            refine lv_iload hx hb dX4_gather_120 (lv_at hl 1 rfl) ?_
            refine lv_iload hx hb dX4_gather_122 (lv_at hl 0 rfl) ?_
            refine lv_icmp_eq (tgt := 155) hx hb dX4_gather_124 (by decide) (fun c_11 => ?_) (fun c_11 => ?_)
            · exact absurd c_11 c_8
            · refine lv_aload_n hx hb dX4_gather_127 rfl (lv_at hl 2 rfl) ?_
              refine lv_iload_n hx hb dX4_gather_128 rfl (lv_at hl 3 rfl) ?_
              refine lv_iconst (v := (1 : Int32)) hx hb dX4_gather_129 (by decide) ?_
              refine lv_iadd hx hb dX4_gather_130 ?_
              refine lv_iload_n hx hb dX4_gather_131 rfl (lv_at hl 4 rfl) ?_
              refine lv_iload_n hx hb dX4_gather_132 rfl (lv_at hl 3 rfl) ?_
              have hC1 : GC D (dwd cy q (X ++ [(z, .inr (4, d4 q k (τ_10).2))])) ad s (τ_10).1 _ _ := hC
              refine d_callSi (As := [.int a1]) (rest := [.int a2, .int (a1 + (1 : Int32)), .ref z]) fx sx hC1 dw_w (D2c_placeOf l (τ_10).1 a1) k_304 D2k_placeOf D2h_placeOf ⟨rfl, rfl⟩ ⟨Nat.le_trans (show _ ≤ n0 + 1 + 3 from (by omega : 0 + 1 ≤ n0 + 1 + 3)) hR.1, Nat.le_trans (show _ ≤ 26 * (n0 + 1) + 69 from (by omega : 8 + (1 + 11) + 0 ≤ 26 * (n0 + 1) + 69)) hR.2⟩ hf rfl hl.1 rfl (Nat.le_of_ble_eq_true rfl) dX4_gather_133 (fun H locs hC => ?_)
              replace hC : GC D (swd cy q X z k) ad s τ_10 _ _ := hC
              refine lv_ior hx hb dX4_gather_136 ?_
              refine lv_iload_n hx hb dX4_gather_137 rfl (lv_at hl 5 rfl) ?_
              refine lv_iload hx hb dX4_gather_138 (lv_at hl 0 rfl) ?_
              refine lv_iload hx hb dX4_gather_140 (lv_at hl 1 rfl) ?_
              obtain ⟨r_13, e_12, hm⟩ := b1_in hm
              refine g_callSi (As := [.int a3, .int x_7, .int x_5]) (rest := [.int (a2 ||| (D2m_placeOf a1)), .int (a1 + (1 : Int32)), .ref z]) fx hC sw_w (D4c_relabelled l sw_w τ_10 a3 x_7 x_5 e_12) k_380 D4k_relabelled D4h_relabelled ⟨rfl, rfl⟩ ⟨Nat.le_trans (show _ ≤ n0 + 1 + 3 from (by omega : 1 + 1 ≤ n0 + 1 + 3)) hR.1, Nat.le_trans (show _ ≤ 26 * (n0 + 1) + 69 from (by omega : 8 + (5 + 11) + 21 ≤ 26 * (n0 + 1) + 69)) hR.2⟩ hf rfl hl.1 rfl (Nat.le_of_ble_eq_true rfl) dX4_gather_142 (fun H locs hC => ?_)
              refine lv_iload hx hb dX4_gather_145 (lv_at hl 6 rfl) ?_
              refine lv_iconst (v := (1 : Int32)) hx hb dX4_gather_147 (by decide) ?_
              refine lv_isub hx hb dX4_gather_148 ?_
              obtain ⟨τ_15, e_14, hm⟩ := b1_in hm
              refine d_callVv (ci := 4) (As := [.int (a1 + (1 : Int32)), .int (a2 ||| (D2m_placeOf a1)), .int r_13, .int (a4 - (1 : Int32))]) (rest := []) fx sx hC sw_w (ih τ_10 (a1 + (1 : Int32)) (a2 ||| (D2m_placeOf a1)) r_13 (a4 - (1 : Int32)) e_14) k_355 D4k_gather D4h_gather rfl rfl s_at ⟨rfl, rfl⟩ ⟨Nat.le_trans (show _ ≤ n0 + 1 + 3 from (by omega : n0 + 3 + 1 ≤ n0 + 1 + 3)) hR.1, Nat.le_trans (show _ ≤ 26 * (n0 + 1) + 69 from (by omega : 8 + (7 + 11) + (26 * n0 + 69) ≤ 26 * (n0 + 1) + 69)) hR.2⟩ hf rfl hl.1 rfl (Nat.le_of_ble_eq_true rfl) dX4_gather_149 (fun H locs hC => ?_)
              refine lv_goto (tgt := 178) hx hb dX4_gather_152 (by decide) ?_
              cases hm
              exact g_vret fx hr hC rfl dX4_gather_178
          · replace hm := ifp hm c_8
            refine lv_aload_n hx hb dX4_gather_102 rfl (lv_at hl 2 rfl) ?_
            refine D4g_5 fx hC k_353 dX4_gather_103 ?_
            refine lv_if_ne (tgt := 120) hx hb dX4_gather_106 (by decide) (fun c_16 => ?_) (fun c_16 => ?_)
            · replace hm := ifn hm c_16
              refine lv_iload hx hb dX4_gather_120 (lv_at hl 1 rfl) ?_
              refine lv_iload hx hb dX4_gather_122 (lv_at hl 0 rfl) ?_
              refine lv_icmp_eq (tgt := 155) hx hb dX4_gather_124 (by decide) (fun c_17 => ?_) (fun c_17 => ?_)
              · refine lv_aload_n hx hb dX4_gather_155 rfl (lv_at hl 2 rfl) ?_
                refine D4g_5 fx hC k_353 dX4_gather_156 ?_
                refine lv_if_eq (tgt := 178) hx hb dX4_gather_159 (by decide) (fun c_18 => ?_) (fun c_18 => ?_)
                · exact absurd c_18 c_16
                · refine lv_aload_n hx hb dX4_gather_162 rfl (lv_at hl 2 rfl) ?_
                  refine lv_iload_n hx hb dX4_gather_163 rfl (lv_at hl 3 rfl) ?_
                  refine lv_iconst (v := (1 : Int32)) hx hb dX4_gather_164 (by decide) ?_
                  refine lv_iadd hx hb dX4_gather_165 ?_
                  refine lv_iload_n hx hb dX4_gather_166 rfl (lv_at hl 4 rfl) ?_
                  refine lv_iload_n hx hb dX4_gather_167 rfl (lv_at hl 3 rfl) ?_
                  have hC1 : GC D (dwd cy q (X ++ [(z, .inr (4, d4 q k (τ).2))])) ad s (τ).1 _ _ := hC
                  refine d_callSi (As := [.int a1]) (rest := [.int a2, .int (a1 + (1 : Int32)), .ref z]) fx sx hC1 dw_w (D2c_placeOf l (τ).1 a1) k_304 D2k_placeOf D2h_placeOf ⟨rfl, rfl⟩ ⟨Nat.le_trans (show _ ≤ n0 + 1 + 3 from (by omega : 0 + 1 ≤ n0 + 1 + 3)) hR.1, Nat.le_trans (show _ ≤ 26 * (n0 + 1) + 69 from (by omega : 8 + (1 + 11) + 0 ≤ 26 * (n0 + 1) + 69)) hR.2⟩ hf rfl hl.1 rfl (Nat.le_of_ble_eq_true rfl) dX4_gather_168 (fun H locs hC => ?_)
                  replace hC : GC D (swd cy q X z k) ad s τ _ _ := hC
                  refine lv_ior hx hb dX4_gather_171 ?_
                  refine lv_iload_n hx hb dX4_gather_172 rfl (lv_at hl 5 rfl) ?_
                  refine lv_iload hx hb dX4_gather_173 (lv_at hl 6 rfl) ?_
                  obtain ⟨τ_20, e_19, hm⟩ := b1_in hm
                  refine d_callVv (ci := 4) (As := [.int (a1 + (1 : Int32)), .int (a2 ||| (D2m_placeOf a1)), .int a3, .int a4]) (rest := []) fx sx hC sw_w (ih τ (a1 + (1 : Int32)) (a2 ||| (D2m_placeOf a1)) a3 a4 e_19) k_355 D4k_gather D4h_gather rfl rfl s_at ⟨rfl, rfl⟩ ⟨Nat.le_trans (show _ ≤ n0 + 1 + 3 from (by omega : n0 + 3 + 1 ≤ n0 + 1 + 3)) hR.1, Nat.le_trans (show _ ≤ 26 * (n0 + 1) + 69 from (by omega : 8 + (7 + 11) + (26 * n0 + 69) ≤ 26 * (n0 + 1) + 69)) hR.2⟩ hf rfl hl.1 rfl (Nat.le_of_ble_eq_true rfl) dX4_gather_175 (fun H locs hC => ?_)
                  cases hm
                  exact g_vret fx hr hC rfl dX4_gather_178
              · exact absurd c_8 c_17
            · replace hm := ifp hm c_16
              refine lv_aload_n hx hb dX4_gather_109 rfl (lv_at hl 2 rfl) ?_
              refine lv_iload_n hx hb dX4_gather_110 rfl (lv_at hl 3 rfl) ?_
              refine lv_iconst (v := (1 : Int32)) hx hb dX4_gather_111 (by decide) ?_
              refine lv_iadd hx hb dX4_gather_112 ?_
              refine lv_iload_n hx hb dX4_gather_113 rfl (lv_at hl 4 rfl) ?_
              refine lv_iload_n hx hb dX4_gather_114 rfl (lv_at hl 5 rfl) ?_
              refine lv_iload hx hb dX4_gather_115 (lv_at hl 6 rfl) ?_
              obtain ⟨τ_22, e_21, hm⟩ := b1_in hm
              refine d_callVv (ci := 4) (As := [.int (a1 + (1 : Int32)), .int a2, .int a3, .int a4]) (rest := []) fx sx hC sw_w (ih τ (a1 + (1 : Int32)) a2 a3 a4 e_21) k_355 D4k_gather D4h_gather rfl rfl s_at ⟨rfl, rfl⟩ ⟨Nat.le_trans (show _ ≤ n0 + 1 + 3 from (by omega : n0 + 3 + 1 ≤ n0 + 1 + 3)) hR.1, Nat.le_trans (show _ ≤ 26 * (n0 + 1) + 69 from (by omega : 8 + (7 + 11) + (26 * n0 + 69) ≤ 26 * (n0 + 1) + 69)) hR.2⟩ hf rfl hl.1 rfl (Nat.le_of_ble_eq_true rfl) dX4_gather_117 (fun H locs hC => ?_)
              refine lv_iload hx hb dX4_gather_120 (lv_at hl 1 rfl) ?_
              refine lv_iload hx hb dX4_gather_122 (lv_at hl 0 rfl) ?_
              refine lv_icmp_eq (tgt := 155) hx hb dX4_gather_124 (by decide) (fun c_23 => ?_) (fun c_23 => ?_)
              · refine lv_aload_n hx hb dX4_gather_155 rfl (lv_at hl 2 rfl) ?_
                refine D4g_5 fx hC k_353 dX4_gather_156 ?_
                refine lv_if_eq (tgt := 178) hx hb dX4_gather_159 (by decide) (fun c_24 => ?_) (fun c_24 => ?_)
                · replace hm := ifp hm c_24
                  cases hm
                  exact g_vret fx hr hC rfl dX4_gather_178
                · replace hm := ifn hm c_24
                  refine lv_aload_n hx hb dX4_gather_162 rfl (lv_at hl 2 rfl) ?_
                  refine lv_iload_n hx hb dX4_gather_163 rfl (lv_at hl 3 rfl) ?_
                  refine lv_iconst (v := (1 : Int32)) hx hb dX4_gather_164 (by decide) ?_
                  refine lv_iadd hx hb dX4_gather_165 ?_
                  refine lv_iload_n hx hb dX4_gather_166 rfl (lv_at hl 4 rfl) ?_
                  refine lv_iload_n hx hb dX4_gather_167 rfl (lv_at hl 3 rfl) ?_
                  have hC1 : GC D (dwd cy q (X ++ [(z, .inr (4, d4 q k (τ_22).2))])) ad s (τ_22).1 _ _ := hC
                  refine d_callSi (As := [.int a1]) (rest := [.int a2, .int (a1 + (1 : Int32)), .ref z]) fx sx hC1 dw_w (D2c_placeOf l (τ_22).1 a1) k_304 D2k_placeOf D2h_placeOf ⟨rfl, rfl⟩ ⟨Nat.le_trans (show _ ≤ n0 + 1 + 3 from (by omega : 0 + 1 ≤ n0 + 1 + 3)) hR.1, Nat.le_trans (show _ ≤ 26 * (n0 + 1) + 69 from (by omega : 8 + (1 + 11) + 0 ≤ 26 * (n0 + 1) + 69)) hR.2⟩ hf rfl hl.1 rfl (Nat.le_of_ble_eq_true rfl) dX4_gather_168 (fun H locs hC => ?_)
                  replace hC : GC D (swd cy q X z k) ad s τ_22 _ _ := hC
                  refine lv_ior hx hb dX4_gather_171 ?_
                  refine lv_iload_n hx hb dX4_gather_172 rfl (lv_at hl 5 rfl) ?_
                  refine lv_iload hx hb dX4_gather_173 (lv_at hl 6 rfl) ?_
                  obtain ⟨τ_26, e_25, hm⟩ := b1_in hm
                  refine d_callVv (ci := 4) (As := [.int (a1 + (1 : Int32)), .int (a2 ||| (D2m_placeOf a1)), .int a3, .int a4]) (rest := []) fx sx hC sw_w (ih τ_22 (a1 + (1 : Int32)) (a2 ||| (D2m_placeOf a1)) a3 a4 e_25) k_355 D4k_gather D4h_gather rfl rfl s_at ⟨rfl, rfl⟩ ⟨Nat.le_trans (show _ ≤ n0 + 1 + 3 from (by omega : n0 + 3 + 1 ≤ n0 + 1 + 3)) hR.1, Nat.le_trans (show _ ≤ 26 * (n0 + 1) + 69 from (by omega : 8 + (7 + 11) + (26 * n0 + 69) ≤ 26 * (n0 + 1) + 69)) hR.2⟩ hf rfl hl.1 rfl (Nat.le_of_ble_eq_true rfl) dX4_gather_175 (fun H locs hC => ?_)
                  cases hm
                  exact g_vret fx hr hC rfl dX4_gather_178
              · exact absurd c_8 c_23
        · replace hm := ifp hm c_3
          refine lv_aload_n hx hb dX4_gather_40 rfl (lv_at hl 0 rfl) ?_
          refine D4g_5 fx hC k_353 dX4_gather_41 ?_
          refine lv_if_eq (tgt := 56) hx hb dX4_gather_44 (by decide) (fun c_27 => ?_) (fun c_27 => ?_)
          · replace hm := ifp hm c_27
            refine lv_aload_n hx hb dX4_gather_56 rfl (lv_at hl 0 rfl) ?_
            refine D4g_1 fx hC k_278 dX4_gather_57 ?_
            refine lv_iload_n hx hb dX4_gather_60 rfl (lv_at hl 2 rfl) ?_
            have hC1 : GC D (dwd cy q (X ++ [(z, .inr (4, d4 q k (τ).2))])) ad s (τ).1 _ _ := hC
            obtain ⟨τ_29, e_28, hm⟩ := b1_in hm
            refine d_callVv (ci := 7) (As := [.int a2]) (rest := []) fx sx hC1 dw_w (D7c_put l k hk (τ).1 a2 e_28) k_298 D7k_put D7h_put rfl rfl (O_at (K7 hk)) ⟨rfl, rfl⟩ ⟨Nat.le_trans (show _ ≤ n0 + 1 + 3 from (by omega : 0 + 1 ≤ n0 + 1 + 3)) hR.1, Nat.le_trans (show _ ≤ 26 * (n0 + 1) + 69 from (by omega : 8 + (2 + 11) + 0 ≤ 26 * (n0 + 1) + 69)) hR.2⟩ hf rfl hl.1 rfl (Nat.le_of_ble_eq_true rfl) dX4_gather_61 (fun H locs hC => ?_)
            replace hC : GC D (swd cy q X z k) ad s (τ_29, (τ).2) _ _ := hC
            obtain ⟨τ_30, e_31⟩ : ∃ y, y = (τ_29, (τ).2) := ⟨_, rfl⟩
            rw [← e_31] at hC
            replace hm := nm_in hm e_31
            cases hm
            exact g_vret fx hr hC rfl dX4_gather_64
          · replace hm := ifn hm c_27
            refine lv_aload_n hx hb dX4_gather_47 rfl (lv_at hl 0 rfl) ?_
            refine lv_iload_n hx hb dX4_gather_48 rfl (lv_at hl 2 rfl) ?_
            refine lv_iload_n hx hb dX4_gather_49 rfl (lv_at hl 3 rfl) ?_
            obtain ⟨r_33, e_32, hm⟩ := b1_in hm
            refine d_callVi (ci := 4) (As := [.int a2, .int a3]) (rest := []) fx sx hC sw_w (D4c_isParting l z k hk τ a2 a3 e_32) k_362 D4k_isParting D4h_isParting rfl rfl s_at ⟨rfl, rfl⟩ ⟨Nat.le_trans (show _ ≤ n0 + 1 + 3 from (by omega : 2 + 1 ≤ n0 + 1 + 3)) hR.1, Nat.le_trans (show _ ≤ 26 * (n0 + 1) + 69 from (by omega : 8 + (5 + 11) + 45 ≤ 26 * (n0 + 1) + 69)) hR.2⟩ hf rfl hl.1 rfl (Nat.le_of_ble_eq_true rfl) dX4_gather_50 (fun H locs hC => ?_)
            refine lv_if_eq (tgt := 64) hx hb dX4_gather_53 (by decide) (fun c_34 => ?_) (fun c_34 => ?_)
            · replace hm := ifp hm c_34
              cases hm
              exact g_vret fx hr hC rfl dX4_gather_64
            · replace hm := ifn hm c_34
              refine lv_aload_n hx hb dX4_gather_56 rfl (lv_at hl 0 rfl) ?_
              refine D4g_1 fx hC k_278 dX4_gather_57 ?_
              refine lv_iload_n hx hb dX4_gather_60 rfl (lv_at hl 2 rfl) ?_
              have hC1 : GC D (dwd cy q (X ++ [(z, .inr (4, d4 q k (τ).2))])) ad s (τ).1 _ _ := hC
              obtain ⟨τ_36, e_35, hm⟩ := b1_in hm
              refine d_callVv (ci := 7) (As := [.int a2]) (rest := []) fx sx hC1 dw_w (D7c_put l k hk (τ).1 a2 e_35) k_298 D7k_put D7h_put rfl rfl (O_at (K7 hk)) ⟨rfl, rfl⟩ ⟨Nat.le_trans (show _ ≤ n0 + 1 + 3 from (by omega : 0 + 1 ≤ n0 + 1 + 3)) hR.1, Nat.le_trans (show _ ≤ 26 * (n0 + 1) + 69 from (by omega : 8 + (2 + 11) + 0 ≤ 26 * (n0 + 1) + 69)) hR.2⟩ hf rfl hl.1 rfl (Nat.le_of_ble_eq_true rfl) dX4_gather_61 (fun H locs hC => ?_)
              replace hC : GC D (swd cy q X z k) ad s (τ_36, (τ).2) _ _ := hC
              obtain ⟨τ_37, e_38⟩ : ∃ y, y = (τ_36, (τ).2) := ⟨_, rfl⟩
              rw [← e_38] at hC
              replace hm := nm_in hm e_38
              cases hm
              exact g_vret fx hr hC rfl dX4_gather_64
      · replace hm := ifn hm c_2
        cases hm
        exact g_vret fx hr hC rfl dX4_gather_28
def D4m_findTrees (k : Nat) (τ : DZ) (a1 : Int32) : Option DZ :=
  nm (dZ τ 4 a1) (fun τ_1 => nm (dZ τ_1 5 (0 : Int32)) (fun τ_3 => b1 (D4m_gather k 24 τ_3 (0 : Int32) (0 : Int32) (1985229328 : Int32) ((τ_3).1.1 1 0)) (fun τ_6 => some τ_6)))
abbrev D4rm_findTrees : Room := { frames := 28, cells := 0, slots := 0, locals := 719 }
set_option maxRecDepth 100000 in
set_option maxHeartbeats 4000000 in
theorem D4c_findTrees (l : Launch) {D : va_G} {cy : Nat → ClassId} {ad : List Nat} {q : Nat → Nat} {X : va_W} (z : Nat) (k : Nat) (hk : k < 32) (τ : DZ) (a1 : Int32) {o : DZ} (hm : D4m_findTrees k τ a1 = some o) : DM l yX4_findTrees cX4_findTrees 2 none D4rm_findTrees D cy (swd cy q X z k) ad [.ref z, .int a1] τ none o := by
  refine d_start RX4 rfl (by decide) (Nat.le_of_ble_eq_true rfl) ?_
  intro p e s m args below meth c fx sx hr hC ls hl
  have hx := fx.1
  have hb := fx.2.1
  have hR : 28 ≤ (D4rm_findTrees).frames ∧ 719 ≤ (D4rm_findTrees).locals := ⟨Nat.le_refl _, Nat.le_refl _⟩
  have hf : 0 ≤ (D4rm_findTrees).cells ∧ 0 ≤ (D4rm_findTrees).slots := ⟨Nat.zero_le _, Nat.zero_le _⟩
  have hl : lv_has ls 2 [(0, .ref z), (1, .int a1)] := hl
  unfold D4m_findTrees at hm
  refine lv_aload_n hx hb dX4_findTrees_0 rfl (lv_at hl 0 rfl) ?_
  refine lv_iload_n hx hb dX4_findTrees_1 rfl (lv_at hl 1 rfl) ?_
  refine D4p_4 fx hC k_352 dX4_findTrees_2 (fun H locs hC => ?_)
  obtain ⟨τ_1, e_2⟩ : ∃ z, z = (dZ τ 4 a1) := ⟨_, rfl⟩
  rw [← e_2] at hC
  replace hm := nm_in hm e_2
  refine lv_aload_n hx hb dX4_findTrees_5 rfl (lv_at hl 0 rfl) ?_
  refine lv_iconst (v := (0 : Int32)) hx hb dX4_findTrees_6 (by decide) ?_
  refine D4p_5 fx hC k_353 rfl dX4_findTrees_7 (fun H locs hC => ?_)
  obtain ⟨τ_3, e_4⟩ : ∃ z, z = (dZ τ_1 5 (0 : Int32)) := ⟨_, rfl⟩
  rw [← e_4] at hC
  replace hm := nm_in hm e_4
  refine lv_aload_n hx hb dX4_findTrees_10 rfl (lv_at hl 0 rfl) ?_
  refine lv_iconst (v := (0 : Int32)) hx hb dX4_findTrees_11 (by decide) ?_
  refine lv_iconst (v := (0 : Int32)) hx hb dX4_findTrees_12 (by decide) ?_
  refine lv_ldc hx hb fx.2.2.2.1 (fx.2.2.2.2.1 _ k_354) dX4_findTrees_13 ?_
  refine lv_aload_n hx hb dX4_findTrees_15 rfl (lv_at hl 0 rfl) ?_
  refine D4g_0 fx hC k_277 dX4_findTrees_16 ?_
  have hC1 : GC D (dwd cy q (X ++ [(z, .inr (4, d4 q k (τ_3).2))])) ad s (τ_3).1 _ _ := hC
  refine D2g_0 fx hC1 k_284 dX4_findTrees_19 ?_
  obtain ⟨τ_6, e_5, hm⟩ := b1_in hm
  refine d_callVv (ci := 4) (As := [.int (0 : Int32), .int (0 : Int32), .int (1985229328 : Int32), .int ((τ_3).1.1 1 0)]) (rest := []) fx sx hC sw_w (D4c_gather l z k hk 24 τ_3 (0 : Int32) (0 : Int32) (1985229328 : Int32) ((τ_3).1.1 1 0) e_5) k_355 D4k_gather D4h_gather rfl rfl s_at ⟨rfl, rfl⟩ ⟨Nat.le_trans (Nat.le_of_ble_eq_true rfl) hR.1, Nat.le_trans (Nat.le_of_ble_eq_true rfl) hR.2⟩ hf rfl hl.1 rfl (Nat.le_of_ble_eq_true rfl) dX4_findTrees_22 (fun H locs hC => ?_)
  cases hm
  exact g_vret fx hr hC rfl dX4_findTrees_25
def D4m_findParts (k : Nat) (τ : DZ) (a1 : Int32) (a2 : Int32) (a3 : Int32) : Option DZ :=
  nm (dZ τ 4 a1) (fun τ_1 => nm (dZ τ_1 5 (1 : Int32)) (fun τ_3 => nm (dZ τ_3 6 a2) (fun τ_5 => nm (dZ τ_5 7 a3) (fun τ_7 => b1 (D4m_gather k 24 τ_7 (0 : Int32) (0 : Int32) (1985229328 : Int32) ((τ_7).1.1 1 0)) (fun τ_10 => some τ_10)))))
abbrev D4rm_findParts : Room := { frames := 28, cells := 0, slots := 0, locals := 719 }
set_option maxRecDepth 100000 in
set_option maxHeartbeats 4000000 in
theorem D4c_findParts (l : Launch) {D : va_G} {cy : Nat → ClassId} {ad : List Nat} {q : Nat → Nat} {X : va_W} (z : Nat) (k : Nat) (hk : k < 32) (τ : DZ) (a1 : Int32) (a2 : Int32) (a3 : Int32) {o : DZ} (hm : D4m_findParts k τ a1 a2 a3 = some o) : DM l yX4_findParts cX4_findParts 4 none D4rm_findParts D cy (swd cy q X z k) ad [.ref z, .int a1, .int a2, .int a3] τ none o := by
  refine d_start RX4 rfl (by decide) (Nat.le_of_ble_eq_true rfl) ?_
  intro p e s m args below meth c fx sx hr hC ls hl
  have hx := fx.1
  have hb := fx.2.1
  have hR : 28 ≤ (D4rm_findParts).frames ∧ 719 ≤ (D4rm_findParts).locals := ⟨Nat.le_refl _, Nat.le_refl _⟩
  have hf : 0 ≤ (D4rm_findParts).cells ∧ 0 ≤ (D4rm_findParts).slots := ⟨Nat.zero_le _, Nat.zero_le _⟩
  have hl : lv_has ls 4 [(0, .ref z), (1, .int a1), (2, .int a2), (3, .int a3)] := hl
  unfold D4m_findParts at hm
  refine lv_aload_n hx hb dX4_findParts_0 rfl (lv_at hl 0 rfl) ?_
  refine lv_iload_n hx hb dX4_findParts_1 rfl (lv_at hl 1 rfl) ?_
  refine D4p_4 fx hC k_352 dX4_findParts_2 (fun H locs hC => ?_)
  obtain ⟨τ_1, e_2⟩ : ∃ z, z = (dZ τ 4 a1) := ⟨_, rfl⟩
  rw [← e_2] at hC
  replace hm := nm_in hm e_2
  refine lv_aload_n hx hb dX4_findParts_5 rfl (lv_at hl 0 rfl) ?_
  refine lv_iconst (v := (1 : Int32)) hx hb dX4_findParts_6 (by decide) ?_
  refine D4p_5 fx hC k_353 rfl dX4_findParts_7 (fun H locs hC => ?_)
  obtain ⟨τ_3, e_4⟩ : ∃ z, z = (dZ τ_1 5 (1 : Int32)) := ⟨_, rfl⟩
  rw [← e_4] at hC
  replace hm := nm_in hm e_4
  refine lv_aload_n hx hb dX4_findParts_10 rfl (lv_at hl 0 rfl) ?_
  refine lv_iload_n hx hb dX4_findParts_11 rfl (lv_at hl 2 rfl) ?_
  refine D4p_6 fx hC k_378 dX4_findParts_12 (fun H locs hC => ?_)
  obtain ⟨τ_5, e_6⟩ : ∃ z, z = (dZ τ_3 6 a2) := ⟨_, rfl⟩
  rw [← e_6] at hC
  replace hm := nm_in hm e_6
  refine lv_aload_n hx hb dX4_findParts_15 rfl (lv_at hl 0 rfl) ?_
  refine lv_iload_n hx hb dX4_findParts_16 rfl (lv_at hl 3 rfl) ?_
  refine D4p_7 fx hC k_379 dX4_findParts_17 (fun H locs hC => ?_)
  obtain ⟨τ_7, e_8⟩ : ∃ z, z = (dZ τ_5 7 a3) := ⟨_, rfl⟩
  rw [← e_8] at hC
  replace hm := nm_in hm e_8
  refine lv_aload_n hx hb dX4_findParts_20 rfl (lv_at hl 0 rfl) ?_
  refine lv_iconst (v := (0 : Int32)) hx hb dX4_findParts_21 (by decide) ?_
  refine lv_iconst (v := (0 : Int32)) hx hb dX4_findParts_22 (by decide) ?_
  refine lv_ldc hx hb fx.2.2.2.1 (fx.2.2.2.2.1 _ k_354) dX4_findParts_23 ?_
  refine lv_aload_n hx hb dX4_findParts_25 rfl (lv_at hl 0 rfl) ?_
  refine D4g_0 fx hC k_277 dX4_findParts_26 ?_
  have hC1 : GC D (dwd cy q (X ++ [(z, .inr (4, d4 q k (τ_7).2))])) ad s (τ_7).1 _ _ := hC
  refine D2g_0 fx hC1 k_284 dX4_findParts_29 ?_
  obtain ⟨τ_10, e_9, hm⟩ := b1_in hm
  refine d_callVv (ci := 4) (As := [.int (0 : Int32), .int (0 : Int32), .int (1985229328 : Int32), .int ((τ_7).1.1 1 0)]) (rest := []) fx sx hC sw_w (D4c_gather l z k hk 24 τ_7 (0 : Int32) (0 : Int32) (1985229328 : Int32) ((τ_7).1.1 1 0) e_9) k_355 D4k_gather D4h_gather rfl rfl s_at ⟨rfl, rfl⟩ ⟨Nat.le_trans (Nat.le_of_ble_eq_true rfl) hR.1, Nat.le_trans (Nat.le_of_ble_eq_true rfl) hR.2⟩ hf rfl hl.1 rfl (Nat.le_of_ble_eq_true rfl) dX4_findParts_32 (fun H locs hC => ?_)
  cases hm
  exact g_vret fx hr hC rfl dX4_findParts_35
def D4b_match (k : Nat) (rf : DZ → Int32 → Int32 → Int32 → Option DZ) (τ : DZ) (a1 : Int32) (a2 : Int32) (a3 : Int32) : Option DZ :=
  if (D2m_isRoad (τ).1 a1) = (0 : Int32) then (if ((τ).2 5) = (0 : Int32) then (b1 (D7m_put k (τ).1 a2) (fun τ_12 => nm (τ_12, (τ).2) (fun τ_13 => some τ_13))) else (if a3 = (((1 : Int32) <<< (((τ).1.1 1 0) &&& 31)) - (1 : Int32)) then (b1 (D7m_put k (τ).1 a2) (fun τ_17 => nm (τ_17, (τ).2) (fun τ_18 => some τ_18))) else (some τ))) else (b1 (rf τ (a1 + (1 : Int32)) a2 a3) (fun τ_3 => gi a1 12 (gi a1 12 (nm (((1 : Int32) <<< (((τ_3).1.2.1 3 (a1).toNatClampNeg) &&& 31)) ||| ((1 : Int32) <<< (((τ_3).1.2.1 4 (a1).toNatClampNeg) &&& 31))) (fun x_6 => if (a3 &&& x_6) = (0 : Int32) then (b1 (rf τ_3 (a1 + (1 : Int32)) (a2 ||| (D2m_placeOf a1)) (a3 ||| x_6)) (fun τ_9 => some τ_9)) else (some τ_3))))))
def D4m_match (k : Nat) (n : Nat) (τ : DZ) (a1 : Int32) (a2 : Int32) (a3 : Int32) : Option DZ := it4 (D4b_match k) n τ a1 a2 a3
abbrev D4rm_match (n : Nat) : Room := { frames := n + 1, cells := 0, slots := 0, locals := 24 * n + 21 }
set_option maxRecDepth 100000 in
set_option maxHeartbeats 4000000 in
theorem D4c_match (l : Launch) {D : va_G} {cy : Nat → ClassId} {ad : List Nat} {q : Nat → Nat} {X : va_W} (z : Nat) (k : Nat) (hk : k < 32) : ∀ (n : Nat) (τ : DZ) (a1 : Int32) (a2 : Int32) (a3 : Int32) {o : DZ}, it4 (D4b_match k) n τ a1 a2 a3 = some o → DM l yX4_match cX4_match 5 none (D4rm_match n) D cy (swd cy q X z k) ad [.ref z, .int a1, .int a2, .int a3] τ none o := by
  intro n
  induction n with
  | zero => intro τ a1 a2 a3 o hm; exact (it4_z hm).elim
  | succ n0 ih =>
    intro τ a1 a2 a3 o hm
    obtain ⟨rf, hrf⟩ : ∃ z, z = it4 (D4b_match k) n0 := ⟨_, rfl⟩
    replace hm : D4b_match k rf τ a1 a2 a3 = some o := by rw [hrf]; exact hm
    replace ih : ∀ (τ : DZ) (a1 : Int32) (a2 : Int32) (a3 : Int32) {o : DZ}, rf τ a1 a2 a3 = some o → DM l yX4_match cX4_match 5 none (D4rm_match n0) D cy (swd cy q X z k) ad [.ref z, .int a1, .int a2, .int a3] τ none o := by rw [hrf]; exact ih
    clear hrf
    refine d_start RX4 rfl (by decide) (Nat.le_of_ble_eq_true rfl) ?_
    intro p e s m args below meth c fx sx hr hC ls hl
    have hx := fx.1
    have hb := fx.2.1
    have hR : n0 + 1 + 1 ≤ (D4rm_match (n0 + 1)).frames ∧ 24 * (n0 + 1) + 21 ≤ (D4rm_match (n0 + 1)).locals := ⟨Nat.le_refl _, Nat.le_refl _⟩
    have hf : 0 ≤ (D4rm_match (n0 + 1)).cells ∧ 0 ≤ (D4rm_match (n0 + 1)).slots := ⟨Nat.zero_le _, Nat.zero_le _⟩
    have hl : lv_has ls 5 [(0, .ref z), (1, .int a1), (2, .int a2), (3, .int a3)] := hl
    unfold D4b_match at hm
    refine lv_aload_n hx hb dX4_match_0 rfl (lv_at hl 0 rfl) ?_
    refine D4g_0 fx hC k_277 dX4_match_1 ?_
    refine lv_iload_n hx hb dX4_match_4 rfl (lv_at hl 1 rfl) ?_
    have hC1 : GC D (dwd cy q (X ++ [(z, .inr (4, d4 q k (τ).2))])) ad s (τ).1 _ _ := hC
    refine d_callVi (ci := 2) (As := [.int a1]) (rest := []) fx sx hC1 dw_w (D2c_isRoad l (τ).1 a1) k_361 D2k_isRoad D2h_isRoad rfl rfl (O_at O2) ⟨rfl, rfl⟩ ⟨Nat.le_trans (show _ ≤ n0 + 1 + 1 from (by omega : 0 + 1 ≤ n0 + 1 + 1)) hR.1, Nat.le_trans (show _ ≤ 24 * (n0 + 1) + 21 from (by omega : 8 + (2 + 11) + 0 ≤ 24 * (n0 + 1) + 21)) hR.2⟩ hf rfl hl.1 rfl (Nat.le_of_ble_eq_true rfl) dX4_match_5 (fun H locs hC => ?_)
    replace hC : GC D (swd cy q X z k) ad s τ _ _ := hC
    refine lv_if_ne (tgt := 42) hx hb dX4_match_8 (by decide) (fun c_1 => ?_) (fun c_1 => ?_)
    · replace hm := ifn hm c_1
      refine lv_aload_n hx hb dX4_match_42 rfl (lv_at hl 0 rfl) ?_
      refine lv_iload_n hx hb dX4_match_43 rfl (lv_at hl 1 rfl) ?_
      refine lv_iconst (v := (1 : Int32)) hx hb dX4_match_44 (by decide) ?_
      refine lv_iadd hx hb dX4_match_45 ?_
      refine lv_iload_n hx hb dX4_match_46 rfl (lv_at hl 2 rfl) ?_
      refine lv_iload_n hx hb dX4_match_47 rfl (lv_at hl 3 rfl) ?_
      obtain ⟨τ_3, e_2, hm⟩ := b1_in hm
      refine d_callVv (ci := 4) (As := [.int (a1 + (1 : Int32)), .int a2, .int a3]) (rest := []) fx sx hC sw_w (ih τ (a1 + (1 : Int32)) a2 a3 e_2) k_402 D4k_match D4h_match rfl rfl s_at ⟨rfl, rfl⟩ ⟨Nat.le_trans (show _ ≤ n0 + 1 + 1 from (by omega : n0 + 1 + 1 ≤ n0 + 1 + 1)) hR.1, Nat.le_trans (show _ ≤ 24 * (n0 + 1) + 21 from (by omega : 8 + (5 + 11) + (24 * n0 + 21) ≤ 24 * (n0 + 1) + 21)) hR.2⟩ hf rfl hl.1 rfl (Nat.le_of_ble_eq_true rfl) dX4_match_48 (fun H locs hC => ?_)
      refine lv_iconst (v := (1 : Int32)) hx hb dX4_match_51 (by decide) ?_
      refine lv_aload_n hx hb dX4_match_52 rfl (lv_at hl 0 rfl) ?_
      refine D4g_0 fx hC k_277 dX4_match_53 ?_
      have hC1 : GC D (dwd cy q (X ++ [(z, .inr (4, d4 q k (τ_3).2))])) ad s (τ_3).1 _ _ := hC
      refine D2g_3 fx hC1 k_359 dX4_match_56 ?_
      refine lv_iload_n hx hb dX4_match_59 rfl (lv_at hl 1 rfl) ?_
      have h_4 := (gi_in hm).1
      replace hm := (gi_in hm).2
      have hC1 : GC D (dwd cy q (X ++ [(z, .inr (4, d4 q k (τ_3).2))])) ad s (τ_3).1 _ _ := hC
      refine DLi fx hC1 Ka3 h_4 dX4_match_60 ?_
      refine lv_ishl hx hb dX4_match_61 ?_
      refine lv_iconst (v := (1 : Int32)) hx hb dX4_match_62 (by decide) ?_
      refine lv_aload_n hx hb dX4_match_63 rfl (lv_at hl 0 rfl) ?_
      refine D4g_0 fx hC k_277 dX4_match_64 ?_
      have hC1 : GC D (dwd cy q (X ++ [(z, .inr (4, d4 q k (τ_3).2))])) ad s (τ_3).1 _ _ := hC
      refine D2g_4 fx hC1 k_360 dX4_match_67 ?_
      refine lv_iload_n hx hb dX4_match_70 rfl (lv_at hl 1 rfl) ?_
      have h_5 := (gi_in hm).1
      replace hm := (gi_in hm).2
      have hC1 : GC D (dwd cy q (X ++ [(z, .inr (4, d4 q k (τ_3).2))])) ad s (τ_3).1 _ _ := hC
      refine DLi fx hC1 Ka4 h_5 dX4_match_71 ?_
      refine lv_ishl hx hb dX4_match_72 ?_
      refine lv_ior hx hb dX4_match_73 ?_
      refine lv_topi (fun x_6 ex_6 => ?_)
      replace hm := nm_in hm ex_6
      refine lv_istore (lv' := [(4, .int x_6), (0, .ref z), (1, .int a1), (2, .int a2), (3, .int a3)]) hx hb dX4_match_74 hl (by decide) rfl (fun ls hl => ?_)
      refine lv_iload_n hx hb dX4_match_76 rfl (lv_at hl 4 rfl) ?_
      refine lv_iload hx hb dX4_match_77 (lv_at hl 0 rfl) ?_
      refine lv_iand hx hb dX4_match_79 ?_
      refine lv_if_ne (tgt := 100) hx hb dX4_match_80 (by decide) (fun c_7 => ?_) (fun c_7 => ?_)
      · replace hm := ifn hm c_7
        cases hm
        exact g_vret fx hr hC rfl dX4_match_100
      · replace hm := ifp hm c_7
        refine lv_aload_n hx hb dX4_match_83 rfl (lv_at hl 1 rfl) ?_
        refine lv_iload_n hx hb dX4_match_84 rfl (lv_at hl 2 rfl) ?_
        refine lv_iconst (v := (1 : Int32)) hx hb dX4_match_85 (by decide) ?_
        refine lv_iadd hx hb dX4_match_86 ?_
        refine lv_iload_n hx hb dX4_match_87 rfl (lv_at hl 3 rfl) ?_
        refine lv_iload_n hx hb dX4_match_88 rfl (lv_at hl 2 rfl) ?_
        have hC1 : GC D (dwd cy q (X ++ [(z, .inr (4, d4 q k (τ_3).2))])) ad s (τ_3).1 _ _ := hC
        refine d_callSi (As := [.int a1]) (rest := [.int a2, .int (a1 + (1 : Int32)), .ref z]) fx sx hC1 dw_w (D2c_placeOf l (τ_3).1 a1) k_304 D2k_placeOf D2h_placeOf ⟨rfl, rfl⟩ ⟨Nat.le_trans (show _ ≤ n0 + 1 + 1 from (by omega : 0 + 1 ≤ n0 + 1 + 1)) hR.1, Nat.le_trans (show _ ≤ 24 * (n0 + 1) + 21 from (by omega : 8 + (1 + 11) + 0 ≤ 24 * (n0 + 1) + 21)) hR.2⟩ hf rfl hl.1 rfl (Nat.le_of_ble_eq_true rfl) dX4_match_89 (fun H locs hC => ?_)
        replace hC : GC D (swd cy q X z k) ad s τ_3 _ _ := hC
        refine lv_ior hx hb dX4_match_92 ?_
        refine lv_iload_n hx hb dX4_match_93 rfl (lv_at hl 4 rfl) ?_
        refine lv_iload hx hb dX4_match_94 (lv_at hl 0 rfl) ?_
        refine lv_ior hx hb dX4_match_96 ?_
        obtain ⟨τ_9, e_8, hm⟩ := b1_in hm
        refine d_callVv (ci := 4) (As := [.int (a1 + (1 : Int32)), .int (a2 ||| (D2m_placeOf a1)), .int (a3 ||| x_6)]) (rest := []) fx sx hC sw_w (ih τ_3 (a1 + (1 : Int32)) (a2 ||| (D2m_placeOf a1)) (a3 ||| x_6) e_8) k_402 D4k_match D4h_match rfl rfl s_at ⟨rfl, rfl⟩ ⟨Nat.le_trans (show _ ≤ n0 + 1 + 1 from (by omega : n0 + 1 + 1 ≤ n0 + 1 + 1)) hR.1, Nat.le_trans (show _ ≤ 24 * (n0 + 1) + 21 from (by omega : 8 + (5 + 11) + (24 * n0 + 21) ≤ 24 * (n0 + 1) + 21)) hR.2⟩ hf rfl hl.1 rfl (Nat.le_of_ble_eq_true rfl) dX4_match_97 (fun H locs hC => ?_)
        cases hm
        exact g_vret fx hr hC rfl dX4_match_100
    · replace hm := ifp hm c_1
      refine lv_aload_n hx hb dX4_match_11 rfl (lv_at hl 0 rfl) ?_
      refine D4g_5 fx hC k_353 dX4_match_12 ?_
      refine lv_if_eq (tgt := 33) hx hb dX4_match_15 (by decide) (fun c_10 => ?_) (fun c_10 => ?_)
      · replace hm := ifp hm c_10
        refine lv_aload_n hx hb dX4_match_33 rfl (lv_at hl 0 rfl) ?_
        refine D4g_1 fx hC k_278 dX4_match_34 ?_
        refine lv_iload_n hx hb dX4_match_37 rfl (lv_at hl 2 rfl) ?_
        have hC1 : GC D (dwd cy q (X ++ [(z, .inr (4, d4 q k (τ).2))])) ad s (τ).1 _ _ := hC
        obtain ⟨τ_12, e_11, hm⟩ := b1_in hm
        refine d_callVv (ci := 7) (As := [.int a2]) (rest := []) fx sx hC1 dw_w (D7c_put l k hk (τ).1 a2 e_11) k_298 D7k_put D7h_put rfl rfl (O_at (K7 hk)) ⟨rfl, rfl⟩ ⟨Nat.le_trans (show _ ≤ n0 + 1 + 1 from (by omega : 0 + 1 ≤ n0 + 1 + 1)) hR.1, Nat.le_trans (show _ ≤ 24 * (n0 + 1) + 21 from (by omega : 8 + (2 + 11) + 0 ≤ 24 * (n0 + 1) + 21)) hR.2⟩ hf rfl hl.1 rfl (Nat.le_of_ble_eq_true rfl) dX4_match_38 (fun H locs hC => ?_)
        replace hC : GC D (swd cy q X z k) ad s (τ_12, (τ).2) _ _ := hC
        obtain ⟨τ_13, e_14⟩ : ∃ y, y = (τ_12, (τ).2) := ⟨_, rfl⟩
        rw [← e_14] at hC
        replace hm := nm_in hm e_14
        cases hm
        exact g_vret fx hr hC rfl dX4_match_41
      · replace hm := ifn hm c_10
        refine lv_iload_n hx hb dX4_match_18 rfl (lv_at hl 3 rfl) ?_
        refine lv_iconst (v := (1 : Int32)) hx hb dX4_match_19 (by decide) ?_
        refine lv_aload_n hx hb dX4_match_20 rfl (lv_at hl 0 rfl) ?_
        refine D4g_0 fx hC k_277 dX4_match_21 ?_
        have hC1 : GC D (dwd cy q (X ++ [(z, .inr (4, d4 q k (τ).2))])) ad s (τ).1 _ _ := hC
        refine D2g_0 fx hC1 k_284 dX4_match_24 ?_
        refine lv_ishl hx hb dX4_match_27 ?_
        refine lv_iconst (v := (1 : Int32)) hx hb dX4_match_28 (by decide) ?_
        refine lv_isub hx hb dX4_match_29 ?_
        refine lv_icmp_ne (tgt := 41) hx hb dX4_match_30 (by decide) (fun c_15 => ?_) (fun c_15 => ?_)
        · replace hm := ifn hm c_15
          cases hm
          exact g_vret fx hr hC rfl dX4_match_41
        · replace hm := ifp hm c_15
          refine lv_aload_n hx hb dX4_match_33 rfl (lv_at hl 0 rfl) ?_
          refine D4g_1 fx hC k_278 dX4_match_34 ?_
          refine lv_iload_n hx hb dX4_match_37 rfl (lv_at hl 2 rfl) ?_
          have hC1 : GC D (dwd cy q (X ++ [(z, .inr (4, d4 q k (τ).2))])) ad s (τ).1 _ _ := hC
          obtain ⟨τ_17, e_16, hm⟩ := b1_in hm
          refine d_callVv (ci := 7) (As := [.int a2]) (rest := []) fx sx hC1 dw_w (D7c_put l k hk (τ).1 a2 e_16) k_298 D7k_put D7h_put rfl rfl (O_at (K7 hk)) ⟨rfl, rfl⟩ ⟨Nat.le_trans (show _ ≤ n0 + 1 + 1 from (by omega : 0 + 1 ≤ n0 + 1 + 1)) hR.1, Nat.le_trans (show _ ≤ 24 * (n0 + 1) + 21 from (by omega : 8 + (2 + 11) + 0 ≤ 24 * (n0 + 1) + 21)) hR.2⟩ hf rfl hl.1 rfl (Nat.le_of_ble_eq_true rfl) dX4_match_38 (fun H locs hC => ?_)
          replace hC : GC D (swd cy q X z k) ad s (τ_17, (τ).2) _ _ := hC
          obtain ⟨τ_18, e_19⟩ : ∃ y, y = (τ_17, (τ).2) := ⟨_, rfl⟩
          rw [← e_19] at hC
          replace hm := nm_in hm e_19
          cases hm
          exact g_vret fx hr hC rfl dX4_match_41
def D4m_findPairs (k : Nat) (τ : DZ) (a1 : Int32) : Option DZ :=
  gb a1 (nm (dZ τ 5 a1) (fun τ_2 => b1 (D4m_match k 24 τ_2 (0 : Int32) (0 : Int32) (0 : Int32)) (fun τ_5 => some τ_5)))
abbrev D4rm_findPairs : Room := { frames := 26, cells := 0, slots := 0, locals := 621 }
set_option maxRecDepth 100000 in
set_option maxHeartbeats 4000000 in
theorem D4c_findPairs (l : Launch) {D : va_G} {cy : Nat → ClassId} {ad : List Nat} {q : Nat → Nat} {X : va_W} (z : Nat) (k : Nat) (hk : k < 32) (τ : DZ) (a1 : Int32) {o : DZ} (hm : D4m_findPairs k τ a1 = some o) : DM l yX4_findPairs cX4_findPairs 2 none D4rm_findPairs D cy (swd cy q X z k) ad [.ref z, .int a1] τ none o := by
  refine d_start RX4 rfl (by decide) (Nat.le_of_ble_eq_true rfl) ?_
  intro p e s m args below meth c fx sx hr hC ls hl
  have hx := fx.1
  have hb := fx.2.1
  have hR : 26 ≤ (D4rm_findPairs).frames ∧ 621 ≤ (D4rm_findPairs).locals := ⟨Nat.le_refl _, Nat.le_refl _⟩
  have hf : 0 ≤ (D4rm_findPairs).cells ∧ 0 ≤ (D4rm_findPairs).slots := ⟨Nat.zero_le _, Nat.zero_le _⟩
  have hl : lv_has ls 2 [(0, .ref z), (1, .int a1)] := hl
  unfold D4m_findPairs at hm
  refine lv_aload_n hx hb dX4_findPairs_0 rfl (lv_at hl 0 rfl) ?_
  refine lv_iload_n hx hb dX4_findPairs_1 rfl (lv_at hl 1 rfl) ?_
  have h_1 := (gb_in hm).1
  replace hm := (gb_in hm).2
  refine D4p_5 fx hC k_353 h_1 dX4_findPairs_2 (fun H locs hC => ?_)
  obtain ⟨τ_2, e_3⟩ : ∃ z, z = (dZ τ 5 a1) := ⟨_, rfl⟩
  rw [← e_3] at hC
  replace hm := nm_in hm e_3
  refine lv_aload_n hx hb dX4_findPairs_5 rfl (lv_at hl 0 rfl) ?_
  refine lv_iconst (v := (0 : Int32)) hx hb dX4_findPairs_6 (by decide) ?_
  refine lv_iconst (v := (0 : Int32)) hx hb dX4_findPairs_7 (by decide) ?_
  refine lv_iconst (v := (0 : Int32)) hx hb dX4_findPairs_8 (by decide) ?_
  obtain ⟨τ_5, e_4, hm⟩ := b1_in hm
  refine d_callVv (ci := 4) (As := [.int (0 : Int32), .int (0 : Int32), .int (0 : Int32)]) (rest := []) fx sx hC sw_w (D4c_match l z k hk 24 τ_2 (0 : Int32) (0 : Int32) (0 : Int32) e_4) k_402 D4k_match D4h_match rfl rfl s_at ⟨rfl, rfl⟩ ⟨Nat.le_trans (Nat.le_of_ble_eq_true rfl) hR.1, Nat.le_trans (Nat.le_of_ble_eq_true rfl) hR.2⟩ hf rfl hl.1 rfl (Nat.le_of_ble_eq_true rfl) dX4_findPairs_9 (fun H locs hC => ?_)
  cases hm
  exact g_vret fx hr hC rfl dX4_findPairs_12
def D5s_learn_10 {ρ : Type} (p1 : Int32) (kx72 : DS → Option ρ) (rc : Int32 → DS → Option ρ) (v2 : Int32) (τ : DS) : Option ρ :=
  if ((1 : Int32) <<< (p1 &&& 31)) ≤ v2 then (kx72  τ) else (gi v2 64 (gi p1 12 (gi (((1 : Int32) <<< (p1 &&& 31)) + v2) 64 (nm (dA τ 11 ((((1 : Int32) <<< (p1 &&& 31)) + v2)).toNatClampNeg ((τ.2.1 11 (v2).toNatClampNeg) + (τ.2.1 10 (p1).toNatClampNeg))) (fun τ_6 => gi v2 64 (gi (p1 + (6 : Int32)) 12 (gi (((1 : Int32) <<< (p1 &&& 31)) + v2) 64 (nm (dA τ_6 12 ((((1 : Int32) <<< (p1 &&& 31)) + v2)).toNatClampNeg ((τ_6.2.1 12 (v2).toNatClampNeg) + (τ_6.2.1 10 ((p1 + (6 : Int32))).toNatClampNeg))) (fun τ_11 => rc (v2 + (1 : Int32)) τ_11)))))))))
def D5s_learn_2 {ρ : Type} (kx78 : DS → Option ρ) (rc : Int32 → DS → Option ρ) (v1 : Int32) (τ : DS) : Option ρ :=
  if (6 : Int32) ≤ v1 then (kx78  τ) else (it2 (D5s_learn_10 v1 (fun τ_13 => rc (v1 + (1 : Int32)) τ_13)) fuel (0 : Int32) τ)
def D5m_learn (τ : DS) : Option DS :=
  it2 (D5s_learn_2 (fun τ_14 => some τ_14)) fuel (0 : Int32) τ
abbrev D5rm_learn : Room := { frames := 0, cells := 0, slots := 0, locals := 0 }
set_option maxRecDepth 100000 in
set_option maxHeartbeats 4000000 in
theorem D5w_learn_10 {ρ : Type} {out : ρ} {p : Program} {l : Launch} {e : Env} {R : Room} {s : State} {m : MethodId} {args : Array Value} {below : List Frame} {meth : Method} {c : Code} {cells slots : Nat} {Q : State → Prop} {D : va_G} {cy : Nat → ClassId} {ad : List Nat} {q : Nat → Nat} {X : va_W} (fx : FX p s m args meth c cX5_learn 3 RX5 D cy) (sx : SX ad s) (hR : 0 ≤ R.frames ∧ 0 ≤ R.locals) (hf : cells ≤ R.cells ∧ slots ≤ R.slots) (p1 : Int32) {kx72 : DS → Option ρ} :
    ∀ (n : Nat) (v2 : Int32) (τ : DS), it2 (D5s_learn_10 p1 kx72) n v2 τ = some out → ∀ (H : Heap) (locs : List Loc) (ls : Array Slot), GC D (dwd cy q X) ad s τ H locs → lv_has ls 3 [(0, .ref (q 9)), (1, .int p1), (2, .int v2)] → (∀ (τ2 : DS) (H : Heap) (locs : List Loc) (ls : Array Slot), kx72 τ2 = some out → GC D (dwd cy q X) ad s τ2 H locs → lv_has ls 3 [(0, .ref (q 9)), (1, .int p1)] → W p l e R s m args below meth c H locs cells slots Q (F0 m 72 ls [])) → W p l e R s m args below meth c H locs cells slots Q (F0 m 10 ls []) := by
  have hx := fx.1
  have hb := fx.2.1
  intro n
  induction n with
  | zero => intro v2 τ hm; exact (it2_z hm).elim
  | succ n ih9 =>
    intro v2 τ hm H locs ls hC hl hx72
    obtain ⟨rc, hrc⟩ : ∃ z, z = it2 (D5s_learn_10 p1 kx72) n := ⟨_, rfl⟩
    replace hm : D5s_learn_10 p1 kx72 rc v2 τ = some out := by rw [hrc]; exact hm
    unfold D5s_learn_10 at hm
    refine lv_iload_n hx hb dX5_learn_10 rfl (lv_at hl 2 rfl) ?_
    refine lv_iconst (v := (1 : Int32)) hx hb dX5_learn_11 (by decide) ?_
    refine lv_iload_n hx hb dX5_learn_12 rfl (lv_at hl 1 rfl) ?_
    refine lv_ishl hx hb dX5_learn_13 ?_
    refine lv_icmp_ge (tgt := 72) hx hb dX5_learn_14 (by decide) (fun c_2 => ?_) (fun c_2 => ?_)
    · replace hm := ifp hm c_2
      exact hx72 _ _ _ _ hm hC (lv_sub hl [0, 1] rfl)
    · replace hm := ifn hm c_2
      refine lv_aload_n hx hb dX5_learn_17 rfl (lv_at hl 0 rfl) ?_
      refine D5g_1 fx hC k_62 dX5_learn_18 ?_
      refine lv_iconst (v := (1 : Int32)) hx hb dX5_learn_21 (by decide) ?_
      refine lv_iload_n hx hb dX5_learn_22 rfl (lv_at hl 1 rfl) ?_
      refine lv_ishl hx hb dX5_learn_23 ?_
      refine lv_iload_n hx hb dX5_learn_24 rfl (lv_at hl 2 rfl) ?_
      refine lv_iadd hx hb dX5_learn_25 ?_
      refine lv_aload_n hx hb dX5_learn_26 rfl (lv_at hl 0 rfl) ?_
      refine D5g_1 fx hC k_62 dX5_learn_27 ?_
      refine lv_iload_n hx hb dX5_learn_30 rfl (lv_at hl 2 rfl) ?_
      have h_3 := (gi_in hm).1
      replace hm := (gi_in hm).2
      refine DLi fx hC Ka11 h_3 dX5_learn_31 ?_
      refine lv_aload_n hx hb dX5_learn_32 rfl (lv_at hl 0 rfl) ?_
      refine D5g_0 fx hC k_61 dX5_learn_33 ?_
      refine lv_iload_n hx hb dX5_learn_36 rfl (lv_at hl 1 rfl) ?_
      have h_4 := (gi_in hm).1
      replace hm := (gi_in hm).2
      refine DLi fx hC Ka10 h_4 dX5_learn_37 ?_
      refine lv_iadd hx hb dX5_learn_38 ?_
      have h_5 := (gi_in hm).1
      replace hm := (gi_in hm).2
      refine DSi fx hC Ka11 h_5 dX5_learn_39 (fun H locs hC => ?_)
      obtain ⟨τ_6, e_7⟩ : ∃ z, z = (dA τ 11 ((((1 : Int32) <<< (p1 &&& 31)) + v2)).toNatClampNeg ((τ.2.1 11 (v2).toNatClampNeg) + (τ.2.1 10 (p1).toNatClampNeg))) := ⟨_, rfl⟩
      rw [← e_7] at hC
      replace hm := nm_in hm e_7
      refine lv_aload_n hx hb dX5_learn_40 rfl (lv_at hl 0 rfl) ?_
      refine D5g_2 fx hC k_63 dX5_learn_41 ?_
      refine lv_iconst (v := (1 : Int32)) hx hb dX5_learn_44 (by decide) ?_
      refine lv_iload_n hx hb dX5_learn_45 rfl (lv_at hl 1 rfl) ?_
      refine lv_ishl hx hb dX5_learn_46 ?_
      refine lv_iload_n hx hb dX5_learn_47 rfl (lv_at hl 2 rfl) ?_
      refine lv_iadd hx hb dX5_learn_48 ?_
      refine lv_aload_n hx hb dX5_learn_49 rfl (lv_at hl 0 rfl) ?_
      refine D5g_2 fx hC k_63 dX5_learn_50 ?_
      refine lv_iload_n hx hb dX5_learn_53 rfl (lv_at hl 2 rfl) ?_
      have h_8 := (gi_in hm).1
      replace hm := (gi_in hm).2
      refine DLi fx hC Ka12 h_8 dX5_learn_54 ?_
      refine lv_aload_n hx hb dX5_learn_55 rfl (lv_at hl 0 rfl) ?_
      refine D5g_0 fx hC k_61 dX5_learn_56 ?_
      refine lv_iload_n hx hb dX5_learn_59 rfl (lv_at hl 1 rfl) ?_
      refine lv_bipush (v := (6 : Int32)) hx hb dX5_learn_60 (by decide) ?_
      refine lv_iadd hx hb dX5_learn_62 ?_
      have h_9 := (gi_in hm).1
      replace hm := (gi_in hm).2
      refine DLi fx hC Ka10 h_9 dX5_learn_63 ?_
      refine lv_iadd hx hb dX5_learn_64 ?_
      have h_10 := (gi_in hm).1
      replace hm := (gi_in hm).2
      refine DSi fx hC Ka12 h_10 dX5_learn_65 (fun H locs hC => ?_)
      obtain ⟨τ_11, e_12⟩ : ∃ z, z = (dA τ_6 12 ((((1 : Int32) <<< (p1 &&& 31)) + v2)).toNatClampNeg ((τ_6.2.1 12 (v2).toNatClampNeg) + (τ_6.2.1 10 ((p1 + (6 : Int32))).toNatClampNeg))) := ⟨_, rfl⟩
      rw [← e_12] at hC
      replace hm := nm_in hm e_12
      refine lv_iinc (v := (v2 + (1 : Int32))) (lv' := [(2, .int (v2 + (1 : Int32))), (0, .ref (q 9)), (1, .int p1)]) hx hb dX5_learn_66 hl (k := 2) rfl rfl (by decide) rfl (fun ls hl => ?_)
      refine lv_goto (tgt := 10) hx hb dX5_learn_69 (by decide) ?_
      rw [hrc] at hm
      exact ih9 _ _ hm _ _ _ hC (lv_sub hl [1, 2, 0] rfl) hx72
set_option maxRecDepth 100000 in
set_option maxHeartbeats 4000000 in
theorem D5w_learn_2 {ρ : Type} {out : ρ} {p : Program} {l : Launch} {e : Env} {R : Room} {s : State} {m : MethodId} {args : Array Value} {below : List Frame} {meth : Method} {c : Code} {cells slots : Nat} {Q : State → Prop} {D : va_G} {cy : Nat → ClassId} {ad : List Nat} {q : Nat → Nat} {X : va_W} (fx : FX p s m args meth c cX5_learn 3 RX5 D cy) (sx : SX ad s) (hR : 0 ≤ R.frames ∧ 0 ≤ R.locals) (hf : cells ≤ R.cells ∧ slots ≤ R.slots) {kx78 : DS → Option ρ} :
    ∀ (n : Nat) (v1 : Int32) (τ : DS), it2 (D5s_learn_2 kx78) n v1 τ = some out → ∀ (H : Heap) (locs : List Loc) (ls : Array Slot), GC D (dwd cy q X) ad s τ H locs → lv_has ls 3 [(0, .ref (q 9)), (1, .int v1)] → (∀ (τ2 : DS) (H : Heap) (locs : List Loc) (ls : Array Slot), kx78 τ2 = some out → GC D (dwd cy q X) ad s τ2 H locs → lv_has ls 3 [] → W p l e R s m args below meth c H locs cells slots Q (F0 m 78 ls [])) → W p l e R s m args below meth c H locs cells slots Q (F0 m 2 ls []) := by
  have hx := fx.1
  have hb := fx.2.1
  intro n
  induction n with
  | zero => intro v1 τ hm; exact (it2_z hm).elim
  | succ n ih9 =>
    intro v1 τ hm H locs ls hC hl hx78
    obtain ⟨rc, hrc⟩ : ∃ z, z = it2 (D5s_learn_2 kx78) n := ⟨_, rfl⟩
    replace hm : D5s_learn_2 kx78 rc v1 τ = some out := by rw [hrc]; exact hm
    unfold D5s_learn_2 at hm
    refine lv_iload_n hx hb dX5_learn_2 rfl (lv_at hl 1 rfl) ?_
    refine lv_bipush (v := (6 : Int32)) hx hb dX5_learn_3 (by decide) ?_
    refine lv_icmp_ge (tgt := 78) hx hb dX5_learn_5 (by decide) (fun c_1 => ?_) (fun c_1 => ?_)
    · replace hm := ifp hm c_1
      exact hx78 _ _ _ _ hm hC (lv_sub hl [] rfl)
    · replace hm := ifn hm c_1
      refine lv_iconst (v := (0 : Int32)) hx hb dX5_learn_8 (by decide) ?_
      refine lv_istore_n (lv' := [(2, .int (0 : Int32)), (0, .ref (q 9)), (1, .int v1)]) hx hb dX5_learn_9 rfl hl (by decide) rfl (fun ls hl => ?_)
      refine D5w_learn_10 fx sx hR hf v1 fuel (0 : Int32) τ hm _ _ _ hC (lv_sub hl [1, 2, 0] rfl) (fun τ_13 H locs ls hm hC hl => ?_)
      refine lv_iinc (v := (v1 + (1 : Int32))) (lv' := [(1, .int (v1 + (1 : Int32))), (0, .ref (q 9))]) hx hb dX5_learn_72 hl (k := 1) rfl rfl (by decide) rfl (fun ls hl => ?_)
      refine lv_goto (tgt := 2) hx hb dX5_learn_75 (by decide) ?_
      rw [hrc] at hm
      exact ih9 _ _ hm _ _ _ hC (lv_sub hl [1, 0] rfl) hx78
set_option maxRecDepth 100000 in
set_option maxHeartbeats 4000000 in
theorem D5c_learn (l : Launch) {D : va_G} {cy : Nat → ClassId} {ad : List Nat} {q : Nat → Nat} {X : va_W} (τ : DS) {o : DS} (hm : D5m_learn τ = some o) : DM l yX5_learn cX5_learn 3 none D5rm_learn D cy (dwd cy q X) ad [.ref (q 9)] τ none o := by
  refine d_start RX5 rfl (by decide) (Nat.le_of_ble_eq_true rfl) ?_
  intro p e s m args below meth c fx sx hr hC ls hl
  have hx := fx.1
  have hb := fx.2.1
  have hR : 0 ≤ (D5rm_learn).frames ∧ 0 ≤ (D5rm_learn).locals := ⟨Nat.le_refl _, Nat.le_refl _⟩
  have hf : 0 ≤ (D5rm_learn).cells ∧ 0 ≤ (D5rm_learn).slots := ⟨Nat.zero_le _, Nat.zero_le _⟩
  have hl : lv_has ls 3 [(0, .ref (q 9))] := hl
  unfold D5m_learn at hm
  refine lv_iconst (v := (0 : Int32)) hx hb dX5_learn_0 (by decide) ?_
  refine lv_istore_n (lv' := [(1, .int (0 : Int32)), (0, .ref (q 9))]) hx hb dX5_learn_1 rfl hl (by decide) rfl (fun ls hl => ?_)
  refine D5w_learn_2 fx sx hR hf fuel (0 : Int32) τ hm _ _ _ hC (lv_sub hl [1, 0] rfl) (fun τ_14 H locs ls hm hC hl => ?_)
  cases hm
  exact g_vret fx hr hC rfl dX5_learn_78
def D5s_learnWeights_2 {ρ : Type} (kx28 : DS → Option ρ) (rc : Int32 → DS → Option ρ) (v2 : Int32) (τ : DS) : Option ρ :=
  if (12 : Int32) ≤ v2 then (kx28  τ) else (b1 (D2m_weightOf τ ((11 : Int32) - v2)) (fun r_3 => gi v2 12 (nm (dA τ 10 (v2).toNatClampNeg r_3) (fun τ_5 => rc (v2 + (1 : Int32)) τ_5))))
def D5m_learnWeights (τ : DS) : Option DS :=
  it2 (D5s_learnWeights_2 (fun τ_7 => b1 (D5m_learn τ_7) (fun τ_9 => some τ_9))) fuel (0 : Int32) τ
abbrev D5rm_learnWeights : Room := { frames := 2, cells := 0, slots := 0, locals := 42 }
set_option maxRecDepth 100000 in
set_option maxHeartbeats 4000000 in
theorem D5w_learnWeights_2 {ρ : Type} {out : ρ} {p : Program} {l : Launch} {e : Env} {R : Room} {s : State} {m : MethodId} {args : Array Value} {below : List Frame} {meth : Method} {c : Code} {cells slots : Nat} {Q : State → Prop} {D : va_G} {cy : Nat → ClassId} {ad : List Nat} {q : Nat → Nat} {X : va_W} (fx : FX p s m args meth c cX5_learnWeights 3 RX5 D cy) (sx : SX ad s) (hR : 2 ≤ R.frames ∧ 42 ≤ R.locals) (hf : cells ≤ R.cells ∧ slots ≤ R.slots) {kx28 : DS → Option ρ} :
    ∀ (n : Nat) (v2 : Int32) (τ : DS), it2 (D5s_learnWeights_2 kx28) n v2 τ = some out → ∀ (H : Heap) (locs : List Loc) (ls : Array Slot), GC D (dwd cy q X) ad s τ H locs → lv_has ls 3 [(0, .ref (q 9)), (1, .ref (q 1)), (2, .int v2)] → (∀ (τ2 : DS) (H : Heap) (locs : List Loc) (ls : Array Slot), kx28 τ2 = some out → GC D (dwd cy q X) ad s τ2 H locs → lv_has ls 3 [(0, .ref (q 9))] → W p l e R s m args below meth c H locs cells slots Q (F0 m 28 ls [])) → W p l e R s m args below meth c H locs cells slots Q (F0 m 2 ls []) := by
  have hx := fx.1
  have hb := fx.2.1
  intro n
  induction n with
  | zero => intro v2 τ hm; exact (it2_z hm).elim
  | succ n ih9 =>
    intro v2 τ hm H locs ls hC hl hx28
    obtain ⟨rc, hrc⟩ : ∃ z, z = it2 (D5s_learnWeights_2 kx28) n := ⟨_, rfl⟩
    replace hm : D5s_learnWeights_2 kx28 rc v2 τ = some out := by rw [hrc]; exact hm
    unfold D5s_learnWeights_2 at hm
    refine lv_iload_n hx hb dX5_learnWeights_2 rfl (lv_at hl 2 rfl) ?_
    refine lv_bipush (v := (12 : Int32)) hx hb dX5_learnWeights_3 (by decide) ?_
    refine lv_icmp_ge (tgt := 28) hx hb dX5_learnWeights_5 (by decide) (fun c_1 => ?_) (fun c_1 => ?_)
    · replace hm := ifp hm c_1
      exact hx28 _ _ _ _ hm hC (lv_sub hl [0] rfl)
    · replace hm := ifn hm c_1
      refine lv_aload_n hx hb dX5_learnWeights_8 rfl (lv_at hl 0 rfl) ?_
      refine D5g_0 fx hC k_61 dX5_learnWeights_9 ?_
      refine lv_iload_n hx hb dX5_learnWeights_12 rfl (lv_at hl 2 rfl) ?_
      refine lv_aload_n hx hb dX5_learnWeights_13 rfl (lv_at hl 1 rfl) ?_
      refine lv_bipush (v := (11 : Int32)) hx hb dX5_learnWeights_14 (by decide) ?_
      refine lv_iload_n hx hb dX5_learnWeights_16 rfl (lv_at hl 2 rfl) ?_
      refine lv_isub hx hb dX5_learnWeights_17 ?_
      obtain ⟨r_3, e_2, hm⟩ := b1_in hm
      refine d_callVi (ci := 2) (As := [.int ((11 : Int32) - v2)]) (rest := [.int v2, .ref (q 10)]) fx sx hC dw_w (D2c_weightOf l τ ((11 : Int32) - v2) e_2) k_632 D2k_weightOf D2h_weightOf rfl rfl (O_at O2) ⟨rfl, rfl⟩ ⟨Nat.le_trans (Nat.le_of_ble_eq_true rfl) hR.1, Nat.le_trans (Nat.le_of_ble_eq_true rfl) hR.2⟩ hf rfl hl.1 rfl (Nat.le_of_ble_eq_true rfl) dX5_learnWeights_18 (fun H locs hC => ?_)
      have h_4 := (gi_in hm).1
      replace hm := (gi_in hm).2
      refine DSi fx hC Ka10 h_4 dX5_learnWeights_21 (fun H locs hC => ?_)
      obtain ⟨τ_5, e_6⟩ : ∃ z, z = (dA τ 10 (v2).toNatClampNeg r_3) := ⟨_, rfl⟩
      rw [← e_6] at hC
      replace hm := nm_in hm e_6
      refine lv_iinc (v := (v2 + (1 : Int32))) (lv' := [(2, .int (v2 + (1 : Int32))), (0, .ref (q 9)), (1, .ref (q 1))]) hx hb dX5_learnWeights_22 hl (k := 2) rfl rfl (by decide) rfl (fun ls hl => ?_)
      refine lv_goto (tgt := 2) hx hb dX5_learnWeights_25 (by decide) ?_
      rw [hrc] at hm
      exact ih9 _ _ hm _ _ _ hC (lv_sub hl [1, 2, 0] rfl) hx28
set_option maxRecDepth 100000 in
set_option maxHeartbeats 4000000 in
theorem D5c_learnWeights (l : Launch) {D : va_G} {cy : Nat → ClassId} {ad : List Nat} {q : Nat → Nat} {X : va_W} (τ : DS) {o : DS} (hm : D5m_learnWeights τ = some o) : DM l yX5_learnWeights cX5_learnWeights 3 none D5rm_learnWeights D cy (dwd cy q X) ad [.ref (q 9), .ref (q 1)] τ none o := by
  refine d_start RX5 rfl (by decide) (Nat.le_of_ble_eq_true rfl) ?_
  intro p e s m args below meth c fx sx hr hC ls hl
  have hx := fx.1
  have hb := fx.2.1
  have hR : 2 ≤ (D5rm_learnWeights).frames ∧ 42 ≤ (D5rm_learnWeights).locals := ⟨Nat.le_refl _, Nat.le_refl _⟩
  have hf : 0 ≤ (D5rm_learnWeights).cells ∧ 0 ≤ (D5rm_learnWeights).slots := ⟨Nat.zero_le _, Nat.zero_le _⟩
  have hl : lv_has ls 3 [(0, .ref (q 9)), (1, .ref (q 1))] := hl
  unfold D5m_learnWeights at hm
  refine lv_iconst (v := (0 : Int32)) hx hb dX5_learnWeights_0 (by decide) ?_
  refine lv_istore_n (lv' := [(2, .int (0 : Int32)), (0, .ref (q 9)), (1, .ref (q 1))]) hx hb dX5_learnWeights_1 rfl hl (by decide) rfl (fun ls hl => ?_)
  refine D5w_learnWeights_2 fx sx hR hf fuel (0 : Int32) τ hm _ _ _ hC (lv_sub hl [1, 2, 0] rfl) (fun τ_7 H locs ls hm hC hl => ?_)
  refine lv_aload_n hx hb dX5_learnWeights_28 rfl (lv_at hl 0 rfl) ?_
  obtain ⟨τ_9, e_8, hm⟩ := b1_in hm
  refine d_callVv (ci := 5) (As := []) (rest := []) fx sx hC dw_w (D5c_learn l τ_7 e_8) k_636 D5k_learn D5h_learn rfl rfl (O_at O5) ⟨rfl, rfl⟩ ⟨Nat.le_trans (Nat.le_of_ble_eq_true rfl) hR.1, Nat.le_trans (Nat.le_of_ble_eq_true rfl) hR.2⟩ hf rfl hl.1 rfl (Nat.le_of_ble_eq_true rfl) dX5_learnWeights_29 (fun H locs hC => ?_)
  cases hm
  exact g_vret fx hr hC rfl dX5_learnWeights_32
def D5s_learnTurn_2 {ρ : Type} (p1 : Int32) (kx36 : DS → Option ρ) (rc : Int32 → DS → Option ρ) (v2 : Int32) (τ : DS) : Option ρ :=
  if (12 : Int32) ≤ v2 then (kx36  τ) else (nm (((((12 : Int32) - v2) * p1) - (((12 : Int32) - v2) * p1) / (13 : Int32) * (13 : Int32)) - (1 : Int32)) (fun x_2 => gi v2 12 (nm (dA τ 10 (v2).toNatClampNeg (D2m_placeOf x_2)) (fun τ_4 => rc (v2 + (1 : Int32)) τ_4))))
def D5m_learnTurn (τ : DS) (a1 : Int32) : Option DS :=
  it2 (D5s_learnTurn_2 a1 (fun τ_6 => b1 (D5m_learn τ_6) (fun τ_8 => some τ_8))) fuel (0 : Int32) τ
abbrev D5rm_learnTurn : Room := { frames := 1, cells := 0, slots := 0, locals := 22 }
set_option maxRecDepth 100000 in
set_option maxHeartbeats 4000000 in
theorem D5w_learnTurn_2 {ρ : Type} {out : ρ} {p : Program} {l : Launch} {e : Env} {R : Room} {s : State} {m : MethodId} {args : Array Value} {below : List Frame} {meth : Method} {c : Code} {cells slots : Nat} {Q : State → Prop} {D : va_G} {cy : Nat → ClassId} {ad : List Nat} {q : Nat → Nat} {X : va_W} (fx : FX p s m args meth c cX5_learnTurn 4 RX5 D cy) (sx : SX ad s) (hR : 1 ≤ R.frames ∧ 22 ≤ R.locals) (hf : cells ≤ R.cells ∧ slots ≤ R.slots) (p1 : Int32) {kx36 : DS → Option ρ} :
    ∀ (n : Nat) (v2 : Int32) (τ : DS), it2 (D5s_learnTurn_2 p1 kx36) n v2 τ = some out → ∀ (H : Heap) (locs : List Loc) (ls : Array Slot), GC D (dwd cy q X) ad s τ H locs → lv_has ls 4 [(0, .ref (q 9)), (1, .int p1), (2, .int v2)] → (∀ (τ2 : DS) (H : Heap) (locs : List Loc) (ls : Array Slot), kx36 τ2 = some out → GC D (dwd cy q X) ad s τ2 H locs → lv_has ls 4 [(0, .ref (q 9))] → W p l e R s m args below meth c H locs cells slots Q (F0 m 36 ls [])) → W p l e R s m args below meth c H locs cells slots Q (F0 m 2 ls []) := by
  have hx := fx.1
  have hb := fx.2.1
  intro n
  induction n with
  | zero => intro v2 τ hm; exact (it2_z hm).elim
  | succ n ih9 =>
    intro v2 τ hm H locs ls hC hl hx36
    obtain ⟨rc, hrc⟩ : ∃ z, z = it2 (D5s_learnTurn_2 p1 kx36) n := ⟨_, rfl⟩
    replace hm : D5s_learnTurn_2 p1 kx36 rc v2 τ = some out := by rw [hrc]; exact hm
    unfold D5s_learnTurn_2 at hm
    refine lv_iload_n hx hb dX5_learnTurn_2 rfl (lv_at hl 2 rfl) ?_
    refine lv_bipush (v := (12 : Int32)) hx hb dX5_learnTurn_3 (by decide) ?_
    refine lv_icmp_ge (tgt := 36) hx hb dX5_learnTurn_5 (by decide) (fun c_1 => ?_) (fun c_1 => ?_)
    · replace hm := ifp hm c_1
      exact hx36 _ _ _ _ hm hC (lv_sub hl [0] rfl)
    · replace hm := ifn hm c_1
      refine lv_bipush (v := (12 : Int32)) hx hb dX5_learnTurn_8 (by decide) ?_
      refine lv_iload_n hx hb dX5_learnTurn_10 rfl (lv_at hl 2 rfl) ?_
      refine lv_isub hx hb dX5_learnTurn_11 ?_
      refine lv_iload_n hx hb dX5_learnTurn_12 rfl (lv_at hl 1 rfl) ?_
      refine lv_imul hx hb dX5_learnTurn_13 ?_
      refine lv_bipush (v := (13 : Int32)) hx hb dX5_learnTurn_14 (by decide) ?_
      refine lv_irem hx hb dX5_learnTurn_16 (by decide) ?_
      refine lv_iconst (v := (1 : Int32)) hx hb dX5_learnTurn_17 (by decide) ?_
      refine lv_isub hx hb dX5_learnTurn_18 ?_
      refine lv_topi (fun x_2 ex_2 => ?_)
      replace hm := nm_in hm ex_2
      refine lv_istore_n (lv' := [(3, .int x_2), (0, .ref (q 9)), (1, .int p1), (2, .int v2)]) hx hb dX5_learnTurn_19 rfl hl (by decide) rfl (fun ls hl => ?_)
      refine lv_aload_n hx hb dX5_learnTurn_20 rfl (lv_at hl 1 rfl) ?_
      refine D5g_0 fx hC k_61 dX5_learnTurn_21 ?_
      refine lv_iload_n hx hb dX5_learnTurn_24 rfl (lv_at hl 3 rfl) ?_
      refine lv_iload_n hx hb dX5_learnTurn_25 rfl (lv_at hl 0 rfl) ?_
      refine d_callSi (As := [.int x_2]) (rest := [.int v2, .ref (q 10)]) fx sx hC dw_w (D2c_placeOf l τ x_2) k_898 D2k_placeOf D2h_placeOf ⟨rfl, rfl⟩ ⟨Nat.le_trans (Nat.le_of_ble_eq_true rfl) hR.1, Nat.le_trans (Nat.le_of_ble_eq_true rfl) hR.2⟩ hf rfl hl.1 rfl (Nat.le_of_ble_eq_true rfl) dX5_learnTurn_26 (fun H locs hC => ?_)
      have h_3 := (gi_in hm).1
      replace hm := (gi_in hm).2
      refine DSi fx hC Ka10 h_3 dX5_learnTurn_29 (fun H locs hC => ?_)
      obtain ⟨τ_4, e_5⟩ : ∃ z, z = (dA τ 10 (v2).toNatClampNeg (D2m_placeOf x_2)) := ⟨_, rfl⟩
      rw [← e_5] at hC
      replace hm := nm_in hm e_5
      refine lv_iinc (v := (v2 + (1 : Int32))) (lv' := [(2, .int (v2 + (1 : Int32))), (3, .int x_2), (0, .ref (q 9)), (1, .int p1)]) hx hb dX5_learnTurn_30 hl (k := 3) rfl rfl (by decide) rfl (fun ls hl => ?_)
      refine lv_goto (tgt := 2) hx hb dX5_learnTurn_33 (by decide) ?_
      rw [hrc] at hm
      exact ih9 _ _ hm _ _ _ hC (lv_sub hl [2, 3, 0] rfl) hx36
set_option maxRecDepth 100000 in
set_option maxHeartbeats 4000000 in
theorem D5c_learnTurn (l : Launch) {D : va_G} {cy : Nat → ClassId} {ad : List Nat} {q : Nat → Nat} {X : va_W} (τ : DS) (a1 : Int32) {o : DS} (hm : D5m_learnTurn τ a1 = some o) : DM l yX5_learnTurn cX5_learnTurn 4 none D5rm_learnTurn D cy (dwd cy q X) ad [.ref (q 9), .int a1] τ none o := by
  refine d_start RX5 rfl (by decide) (Nat.le_of_ble_eq_true rfl) ?_
  intro p e s m args below meth c fx sx hr hC ls hl
  have hx := fx.1
  have hb := fx.2.1
  have hR : 1 ≤ (D5rm_learnTurn).frames ∧ 22 ≤ (D5rm_learnTurn).locals := ⟨Nat.le_refl _, Nat.le_refl _⟩
  have hf : 0 ≤ (D5rm_learnTurn).cells ∧ 0 ≤ (D5rm_learnTurn).slots := ⟨Nat.zero_le _, Nat.zero_le _⟩
  have hl : lv_has ls 4 [(0, .ref (q 9)), (1, .int a1)] := hl
  unfold D5m_learnTurn at hm
  refine lv_iconst (v := (0 : Int32)) hx hb dX5_learnTurn_0 (by decide) ?_
  refine lv_istore_n (lv' := [(2, .int (0 : Int32)), (0, .ref (q 9)), (1, .int a1)]) hx hb dX5_learnTurn_1 rfl hl (by decide) rfl (fun ls hl => ?_)
  refine D5w_learnTurn_2 fx sx hR hf a1 fuel (0 : Int32) τ hm _ _ _ hC (lv_sub hl [1, 2, 0] rfl) (fun τ_6 H locs ls hm hC hl => ?_)
  refine lv_aload_n hx hb dX5_learnTurn_36 rfl (lv_at hl 0 rfl) ?_
  obtain ⟨τ_8, e_7, hm⟩ := b1_in hm
  refine d_callVv (ci := 5) (As := []) (rest := []) fx sx hC dw_w (D5c_learn l τ_6 e_7) k_636 D5k_learn D5h_learn rfl rfl (O_at O5) ⟨rfl, rfl⟩ ⟨Nat.le_trans (Nat.le_of_ble_eq_true rfl) hR.1, Nat.le_trans (Nat.le_of_ble_eq_true rfl) hR.2⟩ hf rfl hl.1 rfl (Nat.le_of_ble_eq_true rfl) dX5_learnTurn_37 (fun H locs hC => ?_)
  cases hm
  exact g_vret fx hr hC rfl dX5_learnTurn_40
def D5m_of (τ : DS) (a1 : Int32) : Option Int32 :=
  gi (a1 &&& (63 : Int32)) 64 (gi ((a1 >>> ((6 : Int32) &&& 31)) &&& (63 : Int32)) 64 (some ((τ.2.1 11 ((a1 &&& (63 : Int32))).toNatClampNeg) + (τ.2.1 12 (((a1 >>> ((6 : Int32) &&& 31)) &&& (63 : Int32))).toNatClampNeg))))
abbrev D5rm_of : Room := { frames := 0, cells := 0, slots := 0, locals := 0 }
set_option maxRecDepth 100000 in
set_option maxHeartbeats 4000000 in
theorem D5c_of (l : Launch) {D : va_G} {cy : Nat → ClassId} {ad : List Nat} {q : Nat → Nat} {X : va_W} (τ : DS) (a1 : Int32) {o : Int32} (hm : D5m_of τ a1 = some o) : DM l yX5_of cX5_of 2 (some .int) D5rm_of D cy (dwd cy q X) ad [.ref (q 9), .int a1] τ (some (.int (o))) τ := by
  refine d_start RX5 rfl (by decide) (Nat.le_of_ble_eq_true rfl) ?_
  intro p e s m args below meth c fx sx hr hC ls hl
  have hx := fx.1
  have hb := fx.2.1
  have hR : 0 ≤ (D5rm_of).frames ∧ 0 ≤ (D5rm_of).locals := ⟨Nat.le_refl _, Nat.le_refl _⟩
  have hf : 0 ≤ (D5rm_of).cells ∧ 0 ≤ (D5rm_of).slots := ⟨Nat.zero_le _, Nat.zero_le _⟩
  have hl : lv_has ls 2 [(0, .ref (q 9)), (1, .int a1)] := hl
  unfold D5m_of at hm
  refine lv_aload_n hx hb dX5_of_0 rfl (lv_at hl 0 rfl) ?_
  refine D5g_1 fx hC k_62 dX5_of_1 ?_
  refine lv_iload_n hx hb dX5_of_4 rfl (lv_at hl 1 rfl) ?_
  refine lv_bipush (v := (63 : Int32)) hx hb dX5_of_5 (by decide) ?_
  refine lv_iand hx hb dX5_of_7 ?_
  have h_1 := (gi_in hm).1
  replace hm := (gi_in hm).2
  refine DLi fx hC Ka11 h_1 dX5_of_8 ?_
  refine lv_aload_n hx hb dX5_of_9 rfl (lv_at hl 0 rfl) ?_
  refine D5g_2 fx hC k_63 dX5_of_10 ?_
  refine lv_iload_n hx hb dX5_of_13 rfl (lv_at hl 1 rfl) ?_
  refine lv_bipush (v := (6 : Int32)) hx hb dX5_of_14 (by decide) ?_
  refine lv_ishr hx hb dX5_of_16 ?_
  refine lv_bipush (v := (63 : Int32)) hx hb dX5_of_17 (by decide) ?_
  refine lv_iand hx hb dX5_of_19 ?_
  have h_2 := (gi_in hm).1
  replace hm := (gi_in hm).2
  refine DLi fx hC Ka12 h_2 dX5_of_20 ?_
  refine lv_iadd hx hb dX5_of_21 ?_
  cases hm
  exact g_iret fx hr hC rfl dX5_of_22
def D5s_countSums_10 {ρ : Type} (p2 : Int32) (kx66 : DS → Option ρ) (rc : Int32 → DS → Option ρ) (v3 : Int32) (τ : DS) : Option ρ :=
  if p2 ≤ v3 then (kx66  τ) else (if (Int32.ofNat 4096) ≤ v3 then (kx66  τ) else (gi v3 4096 (b1 (D5m_of τ (τ.2.1 8 (v3).toNatClampNeg)) (fun r_7 => if (r_7 + (600 : Int32)) < (0 : Int32) then (rc (v3 + (1 : Int32)) τ) else (if (Int32.ofNat 1201) ≤ (r_7 + (600 : Int32)) then (rc (v3 + (1 : Int32)) τ) else (gi (r_7 + (600 : Int32)) 1201 (gi (r_7 + (600 : Int32)) 1201 (nm (dA τ 13 ((r_7 + (600 : Int32))).toNatClampNeg ((τ.2.1 13 ((r_7 + (600 : Int32))).toNatClampNeg) + (1 : Int32))) (fun τ_12 => rc (v3 + (1 : Int32)) τ_12)))))))))
def D5m_countSums (τ : DS) (a2 : Int32) : Option DS :=
  b1 (J7m_fill_53178 τ 13 1201 (0 : Int32)) (fun τ_2 => it2 (D5s_countSums_10 a2 (fun τ_14 => some τ_14)) fuel (0 : Int32) τ_2)
abbrev D5rm_countSums : Room := { frames := 1, cells := 0, slots := 0, locals := 23 }
set_option maxRecDepth 100000 in
set_option maxHeartbeats 4000000 in
theorem D5w_countSums_10 {ρ : Type} {out : ρ} {p : Program} {l : Launch} {e : Env} {R : Room} {s : State} {m : MethodId} {args : Array Value} {below : List Frame} {meth : Method} {c : Code} {cells slots : Nat} {Q : State → Prop} {D : va_G} {cy : Nat → ClassId} {ad : List Nat} {q : Nat → Nat} {X : va_W} (fx : FX p s m args meth c cX5_countSums 5 RX5 D cy) (sx : SX ad s) (hR : 1 ≤ R.frames ∧ 23 ≤ R.locals) (hf : cells ≤ R.cells ∧ slots ≤ R.slots) (p2 : Int32) {kx66 : DS → Option ρ} :
    ∀ (n : Nat) (v3 : Int32) (τ : DS), it2 (D5s_countSums_10 p2 kx66) n v3 τ = some out → ∀ (H : Heap) (locs : List Loc) (ls : Array Slot), GC D (dwd cy q X) ad s τ H locs → lv_has ls 5 [(0, .ref (q 9)), (1, .ref (q 8)), (2, .int p2), (3, .int v3)] → (∀ (τ2 : DS) (H : Heap) (locs : List Loc) (ls : Array Slot), kx66 τ2 = some out → GC D (dwd cy q X) ad s τ2 H locs → lv_has ls 5 [] → W p l e R s m args below meth c H locs cells slots Q (F0 m 66 ls [])) → W p l e R s m args below meth c H locs cells slots Q (F0 m 10 ls []) := by
  have hx := fx.1
  have hb := fx.2.1
  intro n
  induction n with
  | zero => intro v3 τ hm; exact (it2_z hm).elim
  | succ n ih9 =>
    intro v3 τ hm H locs ls hC hl hx66
    obtain ⟨rc, hrc⟩ : ∃ z, z = it2 (D5s_countSums_10 p2 kx66) n := ⟨_, rfl⟩
    replace hm : D5s_countSums_10 p2 kx66 rc v3 τ = some out := by rw [hrc]; exact hm
    unfold D5s_countSums_10 at hm
    refine lv_iload_n hx hb dX5_countSums_10 rfl (lv_at hl 3 rfl) ?_
    refine lv_iload_n hx hb dX5_countSums_11 rfl (lv_at hl 2 rfl) ?_
    refine lv_icmp_ge (tgt := 66) hx hb dX5_countSums_12 (by decide) (fun c_3 => ?_) (fun c_3 => ?_)
    · replace hm := ifp hm c_3
      exact hx66 _ _ _ _ hm hC (lv_sub hl [] rfl)
    · replace hm := ifn hm c_3
      refine lv_iload_n hx hb dX5_countSums_15 rfl (lv_at hl 3 rfl) ?_
      refine lv_aload_n hx hb dX5_countSums_16 rfl (lv_at hl 1 rfl) ?_
      refine DNi fx hC Ka8 dX5_countSums_17 ?_
      refine lv_icmp_ge (tgt := 66) hx hb dX5_countSums_18 (by decide) (fun c_4 => ?_) (fun c_4 => ?_)
      · replace hm := ifp hm c_4
        exact hx66 _ _ _ _ hm hC (lv_sub hl [] rfl)
      · replace hm := ifn hm c_4
        refine lv_aload_n hx hb dX5_countSums_21 rfl (lv_at hl 0 rfl) ?_
        refine lv_aload_n hx hb dX5_countSums_22 rfl (lv_at hl 1 rfl) ?_
        refine lv_iload_n hx hb dX5_countSums_23 rfl (lv_at hl 3 rfl) ?_
        have h_5 := (gi_in hm).1
        replace hm := (gi_in hm).2
        refine DLi fx hC Ka8 h_5 dX5_countSums_24 ?_
        obtain ⟨r_7, e_6, hm⟩ := b1_in hm
        refine d_callVi (ci := 5) (As := [.int (τ.2.1 8 (v3).toNatClampNeg)]) (rest := []) fx sx hC dw_w (D5c_of l τ (τ.2.1 8 (v3).toNatClampNeg) e_6) k_821 D5k_of D5h_of rfl rfl (O_at O5) ⟨rfl, rfl⟩ ⟨Nat.le_trans (Nat.le_of_ble_eq_true rfl) hR.1, Nat.le_trans (Nat.le_of_ble_eq_true rfl) hR.2⟩ hf rfl hl.1 rfl (Nat.le_of_ble_eq_true rfl) dX5_countSums_25 (fun H locs hC => ?_)
        refine lv_sipush (v := (600 : Int32)) hx hb dX5_countSums_28 (by decide) ?_
        refine lv_iadd hx hb dX5_countSums_31 ?_
        refine lv_istore (lv' := [(4, .int (r_7 + (600 : Int32))), (0, .ref (q 9)), (1, .ref (q 8)), (2, .int p2), (3, .int v3)]) hx hb dX5_countSums_32 hl (by decide) rfl (fun ls hl => ?_)
        refine lv_iload hx hb dX5_countSums_34 (lv_at hl 0 rfl) ?_
        refine lv_if_lt (tgt := 60) hx hb dX5_countSums_36 (by decide) (fun c_8 => ?_) (fun c_8 => ?_)
        · replace hm := ifp hm c_8
          refine lv_iinc (v := (v3 + (1 : Int32))) (lv' := [(3, .int (v3 + (1 : Int32))), (4, .int (r_7 + (600 : Int32))), (0, .ref (q 9)), (1, .ref (q 8)), (2, .int p2)]) hx hb dX5_countSums_60 hl (k := 4) rfl rfl (by decide) rfl (fun ls hl => ?_)
          refine lv_goto (tgt := 10) hx hb dX5_countSums_63 (by decide) ?_
          rw [hrc] at hm
          exact ih9 _ _ hm _ _ _ hC (lv_sub hl [2, 3, 4, 0] rfl) hx66
        · replace hm := ifn hm c_8
          refine lv_iload hx hb dX5_countSums_39 (lv_at hl 0 rfl) ?_
          refine lv_aload_n hx hb dX5_countSums_41 rfl (lv_at hl 1 rfl) ?_
          refine D5g_3 fx hC k_64 dX5_countSums_42 ?_
          refine DNi fx hC Ka13 dX5_countSums_45 ?_
          refine lv_icmp_ge (tgt := 60) hx hb dX5_countSums_46 (by decide) (fun c_9 => ?_) (fun c_9 => ?_)
          · replace hm := ifp hm c_9
            refine lv_iinc (v := (v3 + (1 : Int32))) (lv' := [(3, .int (v3 + (1 : Int32))), (4, .int (r_7 + (600 : Int32))), (0, .ref (q 9)), (1, .ref (q 8)), (2, .int p2)]) hx hb dX5_countSums_60 hl (k := 4) rfl rfl (by decide) rfl (fun ls hl => ?_)
            refine lv_goto (tgt := 10) hx hb dX5_countSums_63 (by decide) ?_
            rw [hrc] at hm
            exact ih9 _ _ hm _ _ _ hC (lv_sub hl [2, 3, 4, 0] rfl) hx66
          · replace hm := ifn hm c_9
            refine lv_aload_n hx hb dX5_countSums_49 rfl (lv_at hl 1 rfl) ?_
            refine D5g_3 fx hC k_64 dX5_countSums_50 ?_
            refine lv_iload hx hb dX5_countSums_53 (lv_at hl 0 rfl) ?_
            refine lv_dup2_11 hx hb dX5_countSums_55 rfl rfl ?_
            have h_10 := (gi_in hm).1
            replace hm := (gi_in hm).2
            refine DLi fx hC Ka13 h_10 dX5_countSums_56 ?_
            refine lv_iconst (v := (1 : Int32)) hx hb dX5_countSums_57 (by decide) ?_
            refine lv_iadd hx hb dX5_countSums_58 ?_
            have h_11 := (gi_in hm).1
            replace hm := (gi_in hm).2
            refine DSi fx hC Ka13 h_11 dX5_countSums_59 (fun H locs hC => ?_)
            obtain ⟨τ_12, e_13⟩ : ∃ z, z = (dA τ 13 ((r_7 + (600 : Int32))).toNatClampNeg ((τ.2.1 13 ((r_7 + (600 : Int32))).toNatClampNeg) + (1 : Int32))) := ⟨_, rfl⟩
            rw [← e_13] at hC
            replace hm := nm_in hm e_13
            refine lv_iinc (v := (v3 + (1 : Int32))) (lv' := [(3, .int (v3 + (1 : Int32))), (4, .int (r_7 + (600 : Int32))), (0, .ref (q 9)), (1, .ref (q 8)), (2, .int p2)]) hx hb dX5_countSums_60 hl (k := 4) rfl rfl (by decide) rfl (fun ls hl => ?_)
            refine lv_goto (tgt := 10) hx hb dX5_countSums_63 (by decide) ?_
            rw [hrc] at hm
            exact ih9 _ _ hm _ _ _ hC (lv_sub hl [2, 3, 4, 0] rfl) hx66
set_option maxRecDepth 100000 in
set_option maxHeartbeats 4000000 in
theorem D5c_countSums (l : Launch) {D : va_G} {cy : Nat → ClassId} {ad : List Nat} {q : Nat → Nat} {X : va_W} (τ : DS) (a2 : Int32) {o : DS} (hm : D5m_countSums τ a2 = some o) : DM l yX5_countSums cX5_countSums 5 none D5rm_countSums D cy (dwd cy q X) ad [.ref (q 9), .ref (q 8), .int a2] τ none o := by
  refine d_start RX5 rfl (by decide) (Nat.le_of_ble_eq_true rfl) ?_
  intro p e s m args below meth c fx sx hr hC ls hl
  have hx := fx.1
  have hb := fx.2.1
  have hR : 1 ≤ (D5rm_countSums).frames ∧ 23 ≤ (D5rm_countSums).locals := ⟨Nat.le_refl _, Nat.le_refl _⟩
  have hf : 0 ≤ (D5rm_countSums).cells ∧ 0 ≤ (D5rm_countSums).slots := ⟨Nat.zero_le _, Nat.zero_le _⟩
  have hl : lv_has ls 5 [(0, .ref (q 9)), (1, .ref (q 8)), (2, .int a2)] := hl
  unfold D5m_countSums at hm
  refine lv_aload_n hx hb dX5_countSums_0 rfl (lv_at hl 0 rfl) ?_
  refine D5g_3 fx hC k_64 dX5_countSums_1 ?_
  refine lv_iconst (v := (0 : Int32)) hx hb dX5_countSums_4 (by decide) ?_
  obtain ⟨τ_2, e_1, hm⟩ := b1_in hm
  refine d_callSv (As := [.ref (q 13), .int (0 : Int32)]) (rest := []) fx sx hC dw_w (J7c_fill_53178 l τ 13 1201 Ka13 (0 : Int32) e_1) k_820 J7k_fill_53178 J7h_fill_53178 ⟨rfl, rfl⟩ ⟨Nat.le_trans (Nat.le_of_ble_eq_true rfl) hR.1, Nat.le_trans (Nat.le_of_ble_eq_true rfl) hR.2⟩ hf rfl hl.1 rfl (Nat.le_of_ble_eq_true rfl) dX5_countSums_5 (fun H locs hC => ?_)
  refine lv_iconst (v := (0 : Int32)) hx hb dX5_countSums_8 (by decide) ?_
  refine lv_istore_n (lv' := [(3, .int (0 : Int32)), (0, .ref (q 9)), (1, .ref (q 8)), (2, .int a2)]) hx hb dX5_countSums_9 rfl hl (by decide) rfl (fun ls hl => ?_)
  refine D5w_countSums_10 fx sx hR hf a2 fuel (0 : Int32) τ_2 hm _ _ _ hC (lv_sub hl [1, 2, 3, 0] rfl) (fun τ_14 H locs ls hm hC hl => ?_)
  cases hm
  exact g_vret fx hr hC rfl dX5_countSums_66
def D5s_nthOfSum_7 {ρ : Type} (p2 : Int32) (p3 : Int32) (τ : DS) (kx37 : Int32 → Option ρ) (kx51 : Option ρ) (rc : Int32 → Int32 → Option ρ) (v5 : Int32) (v6 : Int32) : Option ρ :=
  if p2 ≤ v6 then (kx51) else (if (Int32.ofNat 4096) ≤ v6 then (kx51) else (gi v6 4096 (b1 (D5m_of τ (τ.2.1 8 (v6).toNatClampNeg)) (fun r_5 => if r_5 = p3 then (if v5 = (0 : Int32) then (kx37 v6) else (rc (v5 + (-1 : Int32)) (v6 + (1 : Int32)))) else (rc v5 (v6 + (1 : Int32)))))))
def D5m_nthOfSum (τ : DS) (a2 : Int32) (a3 : Int32) (a4 : Int32) : Option Int32 :=
  it2 (D5s_nthOfSum_7 a2 a3 τ (fun u_8 => gi u_8 4096 (some (τ.2.1 8 (u_8).toNatClampNeg))) (some (-1 : Int32))) fuel a4 (0 : Int32)
abbrev D5rm_nthOfSum : Room := { frames := 1, cells := 0, slots := 0, locals := 21 }
set_option maxRecDepth 100000 in
set_option maxHeartbeats 4000000 in
theorem D5w_nthOfSum_7 {ρ : Type} {out : ρ} {p : Program} {l : Launch} {e : Env} {R : Room} {s : State} {m : MethodId} {args : Array Value} {below : List Frame} {meth : Method} {c : Code} {cells slots : Nat} {Q : State → Prop} {D : va_G} {cy : Nat → ClassId} {ad : List Nat} {q : Nat → Nat} {X : va_W} (τ : DS) (fx : FX p s m args meth c cX5_nthOfSum 7 RX5 D cy) (sx : SX ad s) (hR : 1 ≤ R.frames ∧ 21 ≤ R.locals) (hf : cells ≤ R.cells ∧ slots ≤ R.slots) (p2 : Int32) (p3 : Int32) {kx37 : Int32 → Option ρ} {kx51 : Option ρ} :
    ∀ (n : Nat) (v5 : Int32) (v6 : Int32), it2 (D5s_nthOfSum_7 p2 p3 τ kx37 kx51) n v5 v6 = some out → ∀ (H : Heap) (locs : List Loc) (ls : Array Slot), GC D (dwd cy q X) ad s τ H locs → lv_has ls 7 [(0, .ref (q 9)), (1, .ref (q 8)), (2, .int p2), (3, .int p3), (5, .int v5), (6, .int v6)] → (∀ (u6 : Int32) (H : Heap) (locs : List Loc) (ls : Array Slot), kx37 u6 = some out → GC D (dwd cy q X) ad s τ H locs → lv_has ls 7 [(1, .ref (q 8)), (6, .int u6)] → W p l e R s m args below meth c H locs cells slots Q (F0 m 37 ls [])) → (∀ (H : Heap) (locs : List Loc) (ls : Array Slot), kx51 = some out → GC D (dwd cy q X) ad s τ H locs → lv_has ls 7 [] → W p l e R s m args below meth c H locs cells slots Q (F0 m 51 ls [])) → W p l e R s m args below meth c H locs cells slots Q (F0 m 7 ls []) := by
  have hx := fx.1
  have hb := fx.2.1
  intro n
  induction n with
  | zero => intro v5 v6 hm; exact (it2_z hm).elim
  | succ n ih9 =>
    intro v5 v6 hm H locs ls hC hl hx37 hx51
    obtain ⟨rc, hrc⟩ : ∃ z, z = it2 (D5s_nthOfSum_7 p2 p3 τ kx37 kx51) n := ⟨_, rfl⟩
    replace hm : D5s_nthOfSum_7 p2 p3 τ kx37 kx51 rc v5 v6 = some out := by rw [hrc]; exact hm
    unfold D5s_nthOfSum_7 at hm
    refine lv_iload hx hb dX5_nthOfSum_7 (lv_at hl 5 rfl) ?_
    refine lv_iload_n hx hb dX5_nthOfSum_9 rfl (lv_at hl 2 rfl) ?_
    refine lv_icmp_ge (tgt := 51) hx hb dX5_nthOfSum_10 (by decide) (fun c_1 => ?_) (fun c_1 => ?_)
    · replace hm := ifp hm c_1
      exact hx51 _ _ _ hm hC (lv_sub hl [] rfl)
    · replace hm := ifn hm c_1
      refine lv_iload hx hb dX5_nthOfSum_13 (lv_at hl 5 rfl) ?_
      refine lv_aload_n hx hb dX5_nthOfSum_15 rfl (lv_at hl 1 rfl) ?_
      refine DNi fx hC Ka8 dX5_nthOfSum_16 ?_
      refine lv_icmp_ge (tgt := 51) hx hb dX5_nthOfSum_17 (by decide) (fun c_2 => ?_) (fun c_2 => ?_)
      · replace hm := ifp hm c_2
        exact hx51 _ _ _ hm hC (lv_sub hl [] rfl)
      · replace hm := ifn hm c_2
        refine lv_aload_n hx hb dX5_nthOfSum_20 rfl (lv_at hl 0 rfl) ?_
        refine lv_aload_n hx hb dX5_nthOfSum_21 rfl (lv_at hl 1 rfl) ?_
        refine lv_iload hx hb dX5_nthOfSum_22 (lv_at hl 5 rfl) ?_
        have h_3 := (gi_in hm).1
        replace hm := (gi_in hm).2
        refine DLi fx hC Ka8 h_3 dX5_nthOfSum_24 ?_
        obtain ⟨r_5, e_4, hm⟩ := b1_in hm
        refine d_callVi (ci := 5) (As := [.int (τ.2.1 8 (v6).toNatClampNeg)]) (rest := []) fx sx hC dw_w (D5c_of l τ (τ.2.1 8 (v6).toNatClampNeg) e_4) k_821 D5k_of D5h_of rfl rfl (O_at O5) ⟨rfl, rfl⟩ ⟨Nat.le_trans (Nat.le_of_ble_eq_true rfl) hR.1, Nat.le_trans (Nat.le_of_ble_eq_true rfl) hR.2⟩ hf rfl hl.1 rfl (Nat.le_of_ble_eq_true rfl) dX5_nthOfSum_25 (fun H locs hC => ?_)
        refine lv_iload_n hx hb dX5_nthOfSum_28 rfl (lv_at hl 3 rfl) ?_
        refine lv_icmp_ne (tgt := 45) hx hb dX5_nthOfSum_29 (by decide) (fun c_6 => ?_) (fun c_6 => ?_)
        · replace hm := ifn hm c_6
          refine lv_iinc (v := (v6 + (1 : Int32))) (lv' := [(6, .int (v6 + (1 : Int32))), (0, .ref (q 9)), (1, .ref (q 8)), (2, .int p2), (3, .int p3), (5, .int v5)]) hx hb dX5_nthOfSum_45 hl (k := 5) rfl rfl (by decide) rfl (fun ls hl => ?_)
          refine lv_goto (tgt := 7) hx hb dX5_nthOfSum_48 (by decide) ?_
          rw [hrc] at hm
          exact ih9 _ _ hm _ _ _ hC (lv_sub hl [1, 2, 3, 4, 5, 0] rfl) hx37 hx51
        · replace hm := ifp hm c_6
          refine lv_iload hx hb dX5_nthOfSum_32 (lv_at hl 4 rfl) ?_
          refine lv_if_ne (tgt := 42) hx hb dX5_nthOfSum_34 (by decide) (fun c_7 => ?_) (fun c_7 => ?_)
          · replace hm := ifn hm c_7
            refine lv_iinc (v := (v5 + (-1 : Int32))) (lv' := [(5, .int (v5 + (-1 : Int32))), (0, .ref (q 9)), (1, .ref (q 8)), (2, .int p2), (3, .int p3), (6, .int v6)]) hx hb dX5_nthOfSum_42 hl (k := 4) rfl rfl (by decide) rfl (fun ls hl => ?_)
            refine lv_iinc (v := (v6 + (1 : Int32))) (lv' := [(6, .int (v6 + (1 : Int32))), (5, .int (v5 + (-1 : Int32))), (0, .ref (q 9)), (1, .ref (q 8)), (2, .int p2), (3, .int p3)]) hx hb dX5_nthOfSum_45 hl (k := 5) rfl rfl (by decide) rfl (fun ls hl => ?_)
            refine lv_goto (tgt := 7) hx hb dX5_nthOfSum_48 (by decide) ?_
            rw [hrc] at hm
            exact ih9 _ _ hm _ _ _ hC (lv_sub hl [2, 3, 4, 5, 1, 0] rfl) hx37 hx51
          · replace hm := ifp hm c_7
            exact hx37 _ _ _ _ hm hC (lv_sub hl [1, 5] rfl)
set_option maxRecDepth 100000 in
set_option maxHeartbeats 4000000 in
theorem D5c_nthOfSum (l : Launch) {D : va_G} {cy : Nat → ClassId} {ad : List Nat} {q : Nat → Nat} {X : va_W} (τ : DS) (a2 : Int32) (a3 : Int32) (a4 : Int32) {o : Int32} (hm : D5m_nthOfSum τ a2 a3 a4 = some o) : DM l yX5_nthOfSum cX5_nthOfSum 7 (some .int) D5rm_nthOfSum D cy (dwd cy q X) ad [.ref (q 9), .ref (q 8), .int a2, .int a3, .int a4] τ (some (.int (o))) τ := by
  refine d_start RX5 rfl (by decide) (Nat.le_of_ble_eq_true rfl) ?_
  intro p e s m args below meth c fx sx hr hC ls hl
  have hx := fx.1
  have hb := fx.2.1
  have hR : 1 ≤ (D5rm_nthOfSum).frames ∧ 21 ≤ (D5rm_nthOfSum).locals := ⟨Nat.le_refl _, Nat.le_refl _⟩
  have hf : 0 ≤ (D5rm_nthOfSum).cells ∧ 0 ≤ (D5rm_nthOfSum).slots := ⟨Nat.zero_le _, Nat.zero_le _⟩
  have hl : lv_has ls 7 [(0, .ref (q 9)), (1, .ref (q 8)), (2, .int a2), (3, .int a3), (4, .int a4)] := hl
  unfold D5m_nthOfSum at hm
  refine lv_iload hx hb dX5_nthOfSum_0 (lv_at hl 4 rfl) ?_
  refine lv_istore (lv' := [(5, .int a4), (0, .ref (q 9)), (1, .ref (q 8)), (2, .int a2), (3, .int a3), (4, .int a4)]) hx hb dX5_nthOfSum_2 hl (by decide) rfl (fun ls hl => ?_)
  refine lv_iconst (v := (0 : Int32)) hx hb dX5_nthOfSum_4 (by decide) ?_
  refine lv_istore (lv' := [(6, .int (0 : Int32)), (5, .int a4), (0, .ref (q 9)), (1, .ref (q 8)), (2, .int a2), (3, .int a3), (4, .int a4)]) hx hb dX5_nthOfSum_5 hl (by decide) rfl (fun ls hl => ?_)
  refine D5w_nthOfSum_7 τ fx sx hR hf a2 a3 fuel a4 (0 : Int32) hm _ _ _ hC (lv_sub hl [2, 3, 4, 5, 1, 0] rfl) (fun u_8 H locs ls hm hC hl => ?_) (fun  H locs ls hm hC hl => ?_)
  · refine lv_aload_n hx hb dX5_nthOfSum_37 rfl (lv_at hl 0 rfl) ?_
    refine lv_iload hx hb dX5_nthOfSum_38 (lv_at hl 1 rfl) ?_
    have h_9 := (gi_in hm).1
    replace hm := (gi_in hm).2
    refine DLi fx hC Ka8 h_9 dX5_nthOfSum_40 ?_
    cases hm
    exact g_iret fx hr hC rfl dX5_nthOfSum_41
  · refine lv_iconst (v := (-1 : Int32)) hx hb dX5_nthOfSum_51 (by decide) ?_
    cases hm
    exact g_iret fx hr hC rfl dX5_nthOfSum_52
def D5s_nthBest_13 {ρ : Type} (p2 : Int32) (p3 : Int32) (τ : DS) (kx61 : Int32 → Int32 → Option ρ) (kx94 : Option ρ) (rc : Int32 → Int32 → Option ρ) (v5 : Int32) (v6 : Int32) : Option ρ :=
  if (Int32.ofNat 1201) ≤ v6 then (kx94) else (if v5 < (0 : Int32) then (kx94) else (if p3 = (0 : Int32) then (gi v6 1201 (if (τ.2.1 13 (v6).toNatClampNeg) ≤ v5 then (gi v6 1201 (rc (v5 - (τ.2.1 13 (v6).toNatClampNeg)) (v6 + (1 : Int32)))) else (kx61 v5 v6))) else (nm (((Int32.ofNat 1201) - (1 : Int32)) - v6) (fun x_9 => gi x_9 1201 (if (τ.2.1 13 (x_9).toNatClampNeg) ≤ v5 then (gi x_9 1201 (rc (v5 - (τ.2.1 13 (x_9).toNatClampNeg)) (v6 + (1 : Int32)))) else (kx61 v5 x_9))))))
def D5m_nthBest (τ : DS) (a2 : Int32) (a3 : Int32) (a4 : Int32) : Option (Int32 × DS) :=
  b1 (D5m_countSums τ a2) (fun τ_2 => it2 (D5s_nthBest_13 a2 a3 τ_2 (fun u_13 u_14 => b1 (D5m_nthOfSum τ_2 a2 (u_14 - (600 : Int32)) u_13) (fun r_16 => some (r_16, τ_2))) (some ((-1 : Int32), τ_2))) fuel a4 (0 : Int32))
abbrev D5rm_nthBest : Room := { frames := 2, cells := 0, slots := 0, locals := 47 }
set_option maxRecDepth 100000 in
set_option maxHeartbeats 4000000 in
theorem D5w_nthBest_13 {ρ : Type} {out : ρ} {p : Program} {l : Launch} {e : Env} {R : Room} {s : State} {m : MethodId} {args : Array Value} {below : List Frame} {meth : Method} {c : Code} {cells slots : Nat} {Q : State → Prop} {D : va_G} {cy : Nat → ClassId} {ad : List Nat} {q : Nat → Nat} {X : va_W} (τ : DS) (fx : FX p s m args meth c cX5_nthBest 8 RX5 D cy) (sx : SX ad s) (hR : 2 ≤ R.frames ∧ 47 ≤ R.locals) (hf : cells ≤ R.cells ∧ slots ≤ R.slots) (p2 : Int32) (p3 : Int32) {kx61 : Int32 → Int32 → Option ρ} {kx94 : Option ρ} :
    ∀ (n : Nat) (v5 : Int32) (v6 : Int32), it2 (D5s_nthBest_13 p2 p3 τ kx61 kx94) n v5 v6 = some out → ∀ (H : Heap) (locs : List Loc) (ls : Array Slot), GC D (dwd cy q X) ad s τ H locs → lv_has ls 8 [(0, .ref (q 9)), (1, .ref (q 8)), (2, .int p2), (3, .int p3), (5, .int v5), (6, .int v6)] → (∀ (u5 : Int32) (u7 : Int32) (H : Heap) (locs : List Loc) (ls : Array Slot), kx61 u5 u7 = some out → GC D (dwd cy q X) ad s τ H locs → lv_has ls 8 [(0, .ref (q 9)), (1, .ref (q 8)), (2, .int p2), (5, .int u5), (7, .int u7)] → W p l e R s m args below meth c H locs cells slots Q (F0 m 61 ls [])) → (∀ (H : Heap) (locs : List Loc) (ls : Array Slot), kx94 = some out → GC D (dwd cy q X) ad s τ H locs → lv_has ls 8 [] → W p l e R s m args below meth c H locs cells slots Q (F0 m 94 ls [])) → W p l e R s m args below meth c H locs cells slots Q (F0 m 13 ls []) := by
  have hx := fx.1
  have hb := fx.2.1
  intro n
  induction n with
  | zero => intro v5 v6 hm; exact (it2_z hm).elim
  | succ n ih9 =>
    intro v5 v6 hm H locs ls hC hl hx61 hx94
    obtain ⟨rc, hrc⟩ : ∃ z, z = it2 (D5s_nthBest_13 p2 p3 τ kx61 kx94) n := ⟨_, rfl⟩
    replace hm : D5s_nthBest_13 p2 p3 τ kx61 kx94 rc v5 v6 = some out := by rw [hrc]; exact hm
    unfold D5s_nthBest_13 at hm
    refine lv_iload hx hb dX5_nthBest_13 (lv_at hl 5 rfl) ?_
    refine lv_aload_n hx hb dX5_nthBest_15 rfl (lv_at hl 0 rfl) ?_
    refine D5g_3 fx hC k_64 dX5_nthBest_16 ?_
    refine DNi fx hC Ka13 dX5_nthBest_19 ?_
    refine lv_icmp_ge (tgt := 94) hx hb dX5_nthBest_20 (by decide) (fun c_3 => ?_) (fun c_3 => ?_)
    · replace hm := ifp hm c_3
      exact hx94 _ _ _ hm hC (lv_sub hl [] rfl)
    · replace hm := ifn hm c_3
      refine lv_iload hx hb dX5_nthBest_23 (lv_at hl 4 rfl) ?_
      refine lv_if_lt (tgt := 94) hx hb dX5_nthBest_25 (by decide) (fun c_4 => ?_) (fun c_4 => ?_)
      · replace hm := ifp hm c_4
        exact hx94 _ _ _ hm hC (lv_sub hl [] rfl)
      · replace hm := ifn hm c_4
        refine lv_iload_n hx hb dX5_nthBest_28 rfl (lv_at hl 3 rfl) ?_
        refine lv_if_eq (tgt := 45) hx hb dX5_nthBest_29 (by decide) (fun c_5 => ?_) (fun c_5 => ?_)
        · replace hm := ifp hm c_5
          refine lv_iload hx hb dX5_nthBest_45 (lv_at hl 5 rfl) ?_
          refine lv_istore (lv' := [(7, .int v6), (0, .ref (q 9)), (1, .ref (q 8)), (2, .int p2), (3, .int p3), (5, .int v5), (6, .int v6)]) hx hb dX5_nthBest_47 hl (by decide) rfl (fun ls hl => ?_)
          refine lv_iload hx hb dX5_nthBest_49 (lv_at hl 5 rfl) ?_
          refine lv_aload_n hx hb dX5_nthBest_51 rfl (lv_at hl 1 rfl) ?_
          refine D5g_3 fx hC k_64 dX5_nthBest_52 ?_
          refine lv_iload hx hb dX5_nthBest_55 (lv_at hl 0 rfl) ?_
          have h_6 := (gi_in hm).1
          replace hm := (gi_in hm).2
          refine DLi fx hC Ka13 h_6 dX5_nthBest_57 ?_
          refine lv_icmp_ge (tgt := 76) hx hb dX5_nthBest_58 (by decide) (fun c_7 => ?_) (fun c_7 => ?_)
          · replace hm := ifp hm c_7
            refine lv_iload hx hb dX5_nthBest_76 (lv_at hl 5 rfl) ?_
            refine lv_aload_n hx hb dX5_nthBest_78 rfl (lv_at hl 1 rfl) ?_
            refine D5g_3 fx hC k_64 dX5_nthBest_79 ?_
            refine lv_iload hx hb dX5_nthBest_82 (lv_at hl 0 rfl) ?_
            have h_8 := (gi_in hm).1
            replace hm := (gi_in hm).2
            refine DLi fx hC Ka13 h_8 dX5_nthBest_84 ?_
            refine lv_isub hx hb dX5_nthBest_85 ?_
            refine lv_istore (lv' := [(5, .int (v5 - (τ.2.1 13 (v6).toNatClampNeg))), (7, .int v6), (0, .ref (q 9)), (1, .ref (q 8)), (2, .int p2), (3, .int p3), (6, .int v6)]) hx hb dX5_nthBest_86 hl (by decide) rfl (fun ls hl => ?_)
            refine lv_iinc (v := (v6 + (1 : Int32))) (lv' := [(6, .int (v6 + (1 : Int32))), (5, .int (v5 - (τ.2.1 13 (v6).toNatClampNeg))), (7, .int v6), (0, .ref (q 9)), (1, .ref (q 8)), (2, .int p2), (3, .int p3)]) hx hb dX5_nthBest_88 hl (k := 6) rfl rfl (by decide) rfl (fun ls hl => ?_)
            refine lv_goto (tgt := 13) hx hb dX5_nthBest_91 (by decide) ?_
            rw [hrc] at hm
            exact ih9 _ _ hm _ _ _ hC (lv_sub hl [3, 4, 5, 6, 1, 0] rfl) hx61 hx94
          · replace hm := ifn hm c_7
            exact hx61 _ _ _ _ _ hm hC (lv_sub hl [1, 2, 3, 5, 0] rfl)
        · replace hm := ifn hm c_5
          refine lv_aload_n hx hb dX5_nthBest_32 rfl (lv_at hl 0 rfl) ?_
          refine D5g_3 fx hC k_64 dX5_nthBest_33 ?_
          refine DNi fx hC Ka13 dX5_nthBest_36 ?_
          refine lv_iconst (v := (1 : Int32)) hx hb dX5_nthBest_37 (by decide) ?_
          refine lv_isub hx hb dX5_nthBest_38 ?_
          refine lv_iload hx hb dX5_nthBest_39 (lv_at hl 5 rfl) ?_
          refine lv_isub hx hb dX5_nthBest_41 ?_
          refine lv_goto (tgt := 47) hx hb dX5_nthBest_42 (by decide) ?_
          refine lv_topi (fun x_9 ex_9 => ?_)
          replace hm := nm_in hm ex_9
          refine lv_istore (lv' := [(7, .int x_9), (0, .ref (q 9)), (1, .ref (q 8)), (2, .int p2), (3, .int p3), (5, .int v5), (6, .int v6)]) hx hb dX5_nthBest_47 hl (by decide) rfl (fun ls hl => ?_)
          refine lv_iload hx hb dX5_nthBest_49 (lv_at hl 5 rfl) ?_
          refine lv_aload_n hx hb dX5_nthBest_51 rfl (lv_at hl 1 rfl) ?_
          refine D5g_3 fx hC k_64 dX5_nthBest_52 ?_
          refine lv_iload hx hb dX5_nthBest_55 (lv_at hl 0 rfl) ?_
          have h_10 := (gi_in hm).1
          replace hm := (gi_in hm).2
          refine DLi fx hC Ka13 h_10 dX5_nthBest_57 ?_
          refine lv_icmp_ge (tgt := 76) hx hb dX5_nthBest_58 (by decide) (fun c_11 => ?_) (fun c_11 => ?_)
          · replace hm := ifp hm c_11
            refine lv_iload hx hb dX5_nthBest_76 (lv_at hl 5 rfl) ?_
            refine lv_aload_n hx hb dX5_nthBest_78 rfl (lv_at hl 1 rfl) ?_
            refine D5g_3 fx hC k_64 dX5_nthBest_79 ?_
            refine lv_iload hx hb dX5_nthBest_82 (lv_at hl 0 rfl) ?_
            have h_12 := (gi_in hm).1
            replace hm := (gi_in hm).2
            refine DLi fx hC Ka13 h_12 dX5_nthBest_84 ?_
            refine lv_isub hx hb dX5_nthBest_85 ?_
            refine lv_istore (lv' := [(5, .int (v5 - (τ.2.1 13 (x_9).toNatClampNeg))), (7, .int x_9), (0, .ref (q 9)), (1, .ref (q 8)), (2, .int p2), (3, .int p3), (6, .int v6)]) hx hb dX5_nthBest_86 hl (by decide) rfl (fun ls hl => ?_)
            refine lv_iinc (v := (v6 + (1 : Int32))) (lv' := [(6, .int (v6 + (1 : Int32))), (5, .int (v5 - (τ.2.1 13 (x_9).toNatClampNeg))), (7, .int x_9), (0, .ref (q 9)), (1, .ref (q 8)), (2, .int p2), (3, .int p3)]) hx hb dX5_nthBest_88 hl (k := 6) rfl rfl (by decide) rfl (fun ls hl => ?_)
            refine lv_goto (tgt := 13) hx hb dX5_nthBest_91 (by decide) ?_
            rw [hrc] at hm
            exact ih9 _ _ hm _ _ _ hC (lv_sub hl [3, 4, 5, 6, 1, 0] rfl) hx61 hx94
          · replace hm := ifn hm c_11
            exact hx61 _ _ _ _ _ hm hC (lv_sub hl [1, 2, 3, 5, 0] rfl)
set_option maxRecDepth 100000 in
set_option maxHeartbeats 4000000 in
theorem D5c_nthBest (l : Launch) {D : va_G} {cy : Nat → ClassId} {ad : List Nat} {q : Nat → Nat} {X : va_W} (τ : DS) (a2 : Int32) (a3 : Int32) (a4 : Int32) {o : Int32 × DS} (hm : D5m_nthBest τ a2 a3 a4 = some o) : DM l yX5_nthBest cX5_nthBest 8 (some .int) D5rm_nthBest D cy (dwd cy q X) ad [.ref (q 9), .ref (q 8), .int a2, .int a3, .int a4] τ (some (.int (o.1))) o.2 := by
  refine d_start RX5 rfl (by decide) (Nat.le_of_ble_eq_true rfl) ?_
  intro p e s m args below meth c fx sx hr hC ls hl
  have hx := fx.1
  have hb := fx.2.1
  have hR : 2 ≤ (D5rm_nthBest).frames ∧ 47 ≤ (D5rm_nthBest).locals := ⟨Nat.le_refl _, Nat.le_refl _⟩
  have hf : 0 ≤ (D5rm_nthBest).cells ∧ 0 ≤ (D5rm_nthBest).slots := ⟨Nat.zero_le _, Nat.zero_le _⟩
  have hl : lv_has ls 8 [(0, .ref (q 9)), (1, .ref (q 8)), (2, .int a2), (3, .int a3), (4, .int a4)] := hl
  unfold D5m_nthBest at hm
  refine lv_aload_n hx hb dX5_nthBest_0 rfl (lv_at hl 0 rfl) ?_
  refine lv_aload_n hx hb dX5_nthBest_1 rfl (lv_at hl 1 rfl) ?_
  refine lv_iload_n hx hb dX5_nthBest_2 rfl (lv_at hl 2 rfl) ?_
  obtain ⟨τ_2, e_1, hm⟩ := b1_in hm
  refine d_callVv (ci := 5) (As := [.ref (q 8), .int a2]) (rest := []) fx sx hC dw_w (D5c_countSums l τ a2 e_1) k_816 D5k_countSums D5h_countSums rfl rfl (O_at O5) ⟨rfl, rfl⟩ ⟨Nat.le_trans (Nat.le_of_ble_eq_true rfl) hR.1, Nat.le_trans (Nat.le_of_ble_eq_true rfl) hR.2⟩ hf rfl hl.1 rfl (Nat.le_of_ble_eq_true rfl) dX5_nthBest_3 (fun H locs hC => ?_)
  refine lv_iload hx hb dX5_nthBest_6 (lv_at hl 4 rfl) ?_
  refine lv_istore (lv' := [(5, .int a4), (0, .ref (q 9)), (1, .ref (q 8)), (2, .int a2), (3, .int a3), (4, .int a4)]) hx hb dX5_nthBest_8 hl (by decide) rfl (fun ls hl => ?_)
  refine lv_iconst (v := (0 : Int32)) hx hb dX5_nthBest_10 (by decide) ?_
  refine lv_istore (lv' := [(6, .int (0 : Int32)), (5, .int a4), (0, .ref (q 9)), (1, .ref (q 8)), (2, .int a2), (3, .int a3), (4, .int a4)]) hx hb dX5_nthBest_11 hl (by decide) rfl (fun ls hl => ?_)
  refine D5w_nthBest_13 τ_2 fx sx hR hf a2 a3 fuel a4 (0 : Int32) hm _ _ _ hC (lv_sub hl [2, 3, 4, 5, 1, 0] rfl) (fun u_13 u_14 H locs ls hm hC hl => ?_) (fun  H locs ls hm hC hl => ?_)
  · refine lv_aload_n hx hb dX5_nthBest_61 rfl (lv_at hl 0 rfl) ?_
    refine lv_aload_n hx hb dX5_nthBest_62 rfl (lv_at hl 1 rfl) ?_
    refine lv_iload_n hx hb dX5_nthBest_63 rfl (lv_at hl 2 rfl) ?_
    refine lv_iload hx hb dX5_nthBest_64 (lv_at hl 4 rfl) ?_
    refine lv_sipush (v := (600 : Int32)) hx hb dX5_nthBest_66 (by decide) ?_
    refine lv_isub hx hb dX5_nthBest_69 ?_
    refine lv_iload hx hb dX5_nthBest_70 (lv_at hl 3 rfl) ?_
    obtain ⟨r_16, e_15, hm⟩ := b1_in hm
    refine d_callVi (ci := 5) (As := [.ref (q 8), .int a2, .int (u_14 - (600 : Int32)), .int u_13]) (rest := []) fx sx hC dw_w (D5c_nthOfSum l τ_2 a2 (u_14 - (600 : Int32)) u_13 e_15) k_822 D5k_nthOfSum D5h_nthOfSum rfl rfl (O_at O5) ⟨rfl, rfl⟩ ⟨Nat.le_trans (Nat.le_of_ble_eq_true rfl) hR.1, Nat.le_trans (Nat.le_of_ble_eq_true rfl) hR.2⟩ hf rfl hl.1 rfl (Nat.le_of_ble_eq_true rfl) dX5_nthBest_72 (fun H locs hC => ?_)
    cases hm
    exact g_iret fx hr hC rfl dX5_nthBest_75
  · refine lv_iconst (v := (-1 : Int32)) hx hb dX5_nthBest_94 (by decide) ?_
    cases hm
    exact g_iret fx hr hC rfl dX5_nthBest_95
def D7m_having (a1 : Int32) (a2 : Int32) : Option Int64 :=
  if a2 < (0 : Int32) then (if ((a1 >>> ((a2 - (6 : Int32)) &&& 31)) &&& (1 : Int32)) = (0 : Int32) then (some (0 : Int64)) else (some (-1 : Int64))) else (if (6 : Int32) ≤ a2 then (if ((a1 >>> ((a2 - (6 : Int32)) &&& 31)) &&& (1 : Int32)) = (0 : Int32) then (some (0 : Int64)) else (some (-1 : Int64))) else (gi a2 6 (some (zWITH (a2).toNatClampNeg))))
abbrev D7rm_having : Room := { frames := 0, cells := 0, slots := 0, locals := 0 }
set_option maxRecDepth 100000 in
set_option maxHeartbeats 4000000 in
theorem D7c_having (l : Launch) {D : va_G} {cy : Nat → ClassId} {ad : List Nat} {q : Nat → Nat} {X : va_W} (τ : DS) (a1 : Int32) (a2 : Int32) {o : Int64} (hm : D7m_having a1 a2 = some o) : DM l yX7_having cX7_having 2 (some .long) D7rm_having D cy (dwd cy q X) ad [.int a1, .int a2] τ (some (.long (o))) τ := by
  refine d_start RX7 rfl (by decide) (Nat.le_of_ble_eq_true rfl) ?_
  intro p e s m args below meth c fx sx hr hC ls hl
  have hx := fx.1
  have hb := fx.2.1
  have hR : 0 ≤ (D7rm_having).frames ∧ 0 ≤ (D7rm_having).locals := ⟨Nat.le_refl _, Nat.le_refl _⟩
  have hf : 0 ≤ (D7rm_having).cells ∧ 0 ≤ (D7rm_having).slots := ⟨Nat.zero_le _, Nat.zero_le _⟩
  have hl : lv_has ls 2 [(0, .int a1), (1, .int a2)] := hl
  unfold D7m_having at hm
  refine lv_iload_n hx hb dX7_having_0 rfl (lv_at hl 1 rfl) ?_
  refine lv_if_lt (tgt := 18) hx hb dX7_having_1 (by decide) (fun c_1 => ?_) (fun c_1 => ?_)
  · replace hm := ifp hm c_1
    refine lv_iload_n hx hb dX7_having_18 rfl (lv_at hl 0 rfl) ?_
    refine lv_iload_n hx hb dX7_having_19 rfl (lv_at hl 1 rfl) ?_
    refine lv_bipush (v := (6 : Int32)) hx hb dX7_having_20 (by decide) ?_
    refine lv_isub hx hb dX7_having_22 ?_
    refine lv_ishr hx hb dX7_having_23 ?_
    refine lv_iconst (v := (1 : Int32)) hx hb dX7_having_24 (by decide) ?_
    refine lv_iand hx hb dX7_having_25 ?_
    refine lv_if_eq (tgt := 35) hx hb dX7_having_26 (by decide) (fun c_2 => ?_) (fun c_2 => ?_)
    · replace hm := ifp hm c_2
      refine lv_lconst (v := (0 : Int64)) hx hb dX7_having_35 (by decide) ?_
      cases hm
      exact g_lret fx hr hC rfl dX7_having_36
    · replace hm := ifn hm c_2
      refine lv_ldc2 hx hb fx.2.2.2.1 (fx.2.2.2.2.1 _ k_261) dX7_having_29 ?_
      refine lv_goto (tgt := 36) hx hb dX7_having_32 (by decide) ?_
      cases hm
      exact g_lret fx hr hC rfl dX7_having_36
  · replace hm := ifn hm c_1
    refine lv_iload_n hx hb dX7_having_4 rfl (lv_at hl 1 rfl) ?_
    obtain ⟨t_3, zt_3, yt_3⟩ := sx.1
    refine va_gets hx hb zt_3 hC.2.2 fx.2.2.2.1 (fx.2.2.2.2.1 _ k_260) (fun _ h => h) dX7_having_5 ?_
    refine va_tlen (v := (6 : Int32)) hx hb yt_3 hC.2.2 rfl dX7_having_8 ?_
    refine lv_icmp_ge (tgt := 18) hx hb dX7_having_9 (by decide) (fun c_4 => ?_) (fun c_4 => ?_)
    · replace hm := ifp hm c_4
      refine lv_iload_n hx hb dX7_having_18 rfl (lv_at hl 0 rfl) ?_
      refine lv_iload_n hx hb dX7_having_19 rfl (lv_at hl 1 rfl) ?_
      refine lv_bipush (v := (6 : Int32)) hx hb dX7_having_20 (by decide) ?_
      refine lv_isub hx hb dX7_having_22 ?_
      refine lv_ishr hx hb dX7_having_23 ?_
      refine lv_iconst (v := (1 : Int32)) hx hb dX7_having_24 (by decide) ?_
      refine lv_iand hx hb dX7_having_25 ?_
      refine lv_if_eq (tgt := 35) hx hb dX7_having_26 (by decide) (fun c_5 => ?_) (fun c_5 => ?_)
      · replace hm := ifp hm c_5
        refine lv_lconst (v := (0 : Int64)) hx hb dX7_having_35 (by decide) ?_
        cases hm
        exact g_lret fx hr hC rfl dX7_having_36
      · replace hm := ifn hm c_5
        refine lv_ldc2 hx hb fx.2.2.2.1 (fx.2.2.2.2.1 _ k_261) dX7_having_29 ?_
        refine lv_goto (tgt := 36) hx hb dX7_having_32 (by decide) ?_
        cases hm
        exact g_lret fx hr hC rfl dX7_having_36
    · replace hm := ifn hm c_4
      obtain ⟨t_6, zt_6, yt_6⟩ := sx.1
      refine va_gets hx hb zt_6 hC.2.2 fx.2.2.2.1 (fx.2.2.2.2.1 _ k_260) (fun _ h => h) dX7_having_12 ?_
      refine lv_iload_n hx hb dX7_having_15 rfl (lv_at hl 1 rfl) ?_
      have h_7 := (gi_in hm).1
      replace hm := (gi_in hm).2
      refine va_tl (v := .long (zWITH (a2).toNatClampNeg)) hx hb yt_6 hC.2.2 h_7 rfl dX7_having_16 ?_
      cases hm
      exact g_lret fx hr hC rfl dX7_having_17
def J13m_bitCount_95d88 (a1 : Int64) : Int32 :=
  nm (a1 - (((a1).toUInt64 >>> (((1 : Int32)).toInt64.toUInt64 &&& Int64.toUInt64 63)).toInt64 &&& (6148914691236517205 : Int64))) (fun x_1 => nm ((x_1 &&& (3689348814741910323 : Int64)) + (((x_1).toUInt64 >>> (((2 : Int32)).toInt64.toUInt64 &&& Int64.toUInt64 63)).toInt64 &&& (3689348814741910323 : Int64))) (fun x_2 => nm ((x_2 + ((x_2).toUInt64 >>> (((4 : Int32)).toInt64.toUInt64 &&& Int64.toUInt64 63)).toInt64) &&& (1085102592571150095 : Int64)) (fun x_3 => nm (x_3 + ((x_3).toUInt64 >>> (((8 : Int32)).toInt64.toUInt64 &&& Int64.toUInt64 63)).toInt64) (fun x_4 => nm (x_4 + ((x_4).toUInt64 >>> (((16 : Int32)).toInt64.toUInt64 &&& Int64.toUInt64 63)).toInt64) (fun x_5 => nm (x_5 + ((x_5).toUInt64 >>> (((32 : Int32)).toInt64.toUInt64 &&& Int64.toUInt64 63)).toInt64) (fun x_6 => (x_6.toInt32 &&& (127 : Int32))))))))
abbrev J13rm_bitCount_95d88 : Room := { frames := 0, cells := 0, slots := 0, locals := 0 }
set_option maxRecDepth 100000 in
set_option maxHeartbeats 4000000 in
theorem J13c_bitCount_95d88 (l : Launch) {D : va_G} {cy : Nat → ClassId} {ad : List Nat} {σ : Type} {wd : σ → va_W} (hw : ∀ x y : σ, (wd x).map (·.1) = (wd y).map (·.1)) (τ : σ) (a1 : Int64) : GM l yJ13_bitCount_95d88 cJ13_bitCount_95d88 2 (some .int) J13rm_bitCount_95d88 D cy wd ad [.long a1] τ (some (.int (J13m_bitCount_95d88 a1))) τ := by
  refine g_start RJ13 rfl (by decide) (Nat.le_of_ble_eq_true rfl) ?_
  intro p e s m args below meth c fx hr hC ls hl
  have hx := fx.1
  have hb := fx.2.1
  have hR : 0 ≤ (J13rm_bitCount_95d88).frames ∧ 0 ≤ (J13rm_bitCount_95d88).locals := ⟨Nat.le_refl _, Nat.le_refl _⟩
  have hf : 0 ≤ (J13rm_bitCount_95d88).cells ∧ 0 ≤ (J13rm_bitCount_95d88).slots := ⟨Nat.zero_le _, Nat.zero_le _⟩
  have hl : lv_has ls 2 [(0, .long a1)] := hl
  obtain ⟨o, hm⟩ : ∃ z, z = J13m_bitCount_95d88 a1 := ⟨_, rfl⟩
  rw [← hm]
  replace hm := hm.symm
  unfold J13m_bitCount_95d88 at hm
  refine lv_lload_n hx hb dJ13_bitCount_95d88_0 rfl (lv_at hl 0 rfl) ?_
  refine lv_lload_n hx hb dJ13_bitCount_95d88_1 rfl (lv_at hl 0 rfl) ?_
  refine lv_iconst (v := (1 : Int32)) hx hb dJ13_bitCount_95d88_2 (by decide) ?_
  refine lv_lushr hx hb dJ13_bitCount_95d88_3 rfl ?_
  refine lv_ldc2 hx hb fx.2.2.2.1 (fx.2.2.2.2.1 _ k_469) dJ13_bitCount_95d88_4 ?_
  refine lv_land hx hb dJ13_bitCount_95d88_7 ?_
  refine lv_lsub hx hb dJ13_bitCount_95d88_8 ?_
  refine lv_topl (fun x_1 ex_1 => ?_)
  replace hm := nm_in hm ex_1
  refine lv_lstore_n (lv' := [(0, .long x_1)]) hx hb dJ13_bitCount_95d88_9 rfl hl (by decide) rfl (fun ls hl => ?_)
  refine lv_lload_n hx hb dJ13_bitCount_95d88_10 rfl (lv_at hl 0 rfl) ?_
  refine lv_ldc2 hx hb fx.2.2.2.1 (fx.2.2.2.2.1 _ k_470) dJ13_bitCount_95d88_11 ?_
  refine lv_land hx hb dJ13_bitCount_95d88_14 ?_
  refine lv_lload_n hx hb dJ13_bitCount_95d88_15 rfl (lv_at hl 0 rfl) ?_
  refine lv_iconst (v := (2 : Int32)) hx hb dJ13_bitCount_95d88_16 (by decide) ?_
  refine lv_lushr hx hb dJ13_bitCount_95d88_17 rfl ?_
  refine lv_ldc2 hx hb fx.2.2.2.1 (fx.2.2.2.2.1 _ k_470) dJ13_bitCount_95d88_18 ?_
  refine lv_land hx hb dJ13_bitCount_95d88_21 ?_
  refine lv_ladd hx hb dJ13_bitCount_95d88_22 ?_
  refine lv_topl (fun x_2 ex_2 => ?_)
  replace hm := nm_in hm ex_2
  refine lv_lstore_n (lv' := [(0, .long x_2)]) hx hb dJ13_bitCount_95d88_23 rfl hl (by decide) rfl (fun ls hl => ?_)
  refine lv_lload_n hx hb dJ13_bitCount_95d88_24 rfl (lv_at hl 0 rfl) ?_
  refine lv_lload_n hx hb dJ13_bitCount_95d88_25 rfl (lv_at hl 0 rfl) ?_
  refine lv_iconst (v := (4 : Int32)) hx hb dJ13_bitCount_95d88_26 (by decide) ?_
  refine lv_lushr hx hb dJ13_bitCount_95d88_27 rfl ?_
  refine lv_ladd hx hb dJ13_bitCount_95d88_28 ?_
  refine lv_ldc2 hx hb fx.2.2.2.1 (fx.2.2.2.2.1 _ k_471) dJ13_bitCount_95d88_29 ?_
  refine lv_land hx hb dJ13_bitCount_95d88_32 ?_
  refine lv_topl (fun x_3 ex_3 => ?_)
  replace hm := nm_in hm ex_3
  refine lv_lstore_n (lv' := [(0, .long x_3)]) hx hb dJ13_bitCount_95d88_33 rfl hl (by decide) rfl (fun ls hl => ?_)
  refine lv_lload_n hx hb dJ13_bitCount_95d88_34 rfl (lv_at hl 0 rfl) ?_
  refine lv_lload_n hx hb dJ13_bitCount_95d88_35 rfl (lv_at hl 0 rfl) ?_
  refine lv_bipush (v := (8 : Int32)) hx hb dJ13_bitCount_95d88_36 (by decide) ?_
  refine lv_lushr hx hb dJ13_bitCount_95d88_38 rfl ?_
  refine lv_ladd hx hb dJ13_bitCount_95d88_39 ?_
  refine lv_topl (fun x_4 ex_4 => ?_)
  replace hm := nm_in hm ex_4
  refine lv_lstore_n (lv' := [(0, .long x_4)]) hx hb dJ13_bitCount_95d88_40 rfl hl (by decide) rfl (fun ls hl => ?_)
  refine lv_lload_n hx hb dJ13_bitCount_95d88_41 rfl (lv_at hl 0 rfl) ?_
  refine lv_lload_n hx hb dJ13_bitCount_95d88_42 rfl (lv_at hl 0 rfl) ?_
  refine lv_bipush (v := (16 : Int32)) hx hb dJ13_bitCount_95d88_43 (by decide) ?_
  refine lv_lushr hx hb dJ13_bitCount_95d88_45 rfl ?_
  refine lv_ladd hx hb dJ13_bitCount_95d88_46 ?_
  refine lv_topl (fun x_5 ex_5 => ?_)
  replace hm := nm_in hm ex_5
  refine lv_lstore_n (lv' := [(0, .long x_5)]) hx hb dJ13_bitCount_95d88_47 rfl hl (by decide) rfl (fun ls hl => ?_)
  refine lv_lload_n hx hb dJ13_bitCount_95d88_48 rfl (lv_at hl 0 rfl) ?_
  refine lv_lload_n hx hb dJ13_bitCount_95d88_49 rfl (lv_at hl 0 rfl) ?_
  refine lv_bipush (v := (32 : Int32)) hx hb dJ13_bitCount_95d88_50 (by decide) ?_
  refine lv_lushr hx hb dJ13_bitCount_95d88_52 rfl ?_
  refine lv_ladd hx hb dJ13_bitCount_95d88_53 ?_
  refine lv_topl (fun x_6 ex_6 => ?_)
  replace hm := nm_in hm ex_6
  refine lv_lstore_n (lv' := [(0, .long x_6)]) hx hb dJ13_bitCount_95d88_54 rfl hl (by decide) rfl (fun ls hl => ?_)
  refine lv_lload_n hx hb dJ13_bitCount_95d88_55 rfl (lv_at hl 0 rfl) ?_
  refine lv_l2i hx hb dJ13_bitCount_95d88_56 rfl ?_
  refine lv_bipush (v := (127 : Int32)) hx hb dJ13_bitCount_95d88_57 (by decide) ?_
  refine lv_iand hx hb dJ13_bitCount_95d88_59 ?_
  exact g_iret fx hr hC (by rw [← hm]) dJ13_bitCount_95d88_60
def D7s_sizeWith_4 {ρ : Type} (p0 : Nat) (p1 : Int32) (τ : DS) (kx34 : Int32 → Option ρ) (rc : Int32 → Int32 → Option ρ) (v2 : Int32) (v3 : Int32) : Option ρ :=
  if (64 : Int32) ≤ v3 then (kx34 v2) else (gi v3 64 (b1 (D7m_having v3 p1) (fun r_4 => nm (v2 + (J13m_bitCount_95d88 ((τ.2.2 (79 + p0) (v3).toNatClampNeg) &&& r_4))) (fun x_5 => rc x_5 (v3 + (1 : Int32))))))
def D7m_sizeWith (k : Nat) (τ : DS) (a1 : Int32) : Option Int32 :=
  it2 (D7s_sizeWith_4 k a1 τ (fun u_6 => some u_6)) fuel (0 : Int32) (0 : Int32)
abbrev D7rm_sizeWith : Room := { frames := 1, cells := 0, slots := 0, locals := 21 }
set_option maxRecDepth 100000 in
set_option maxHeartbeats 4000000 in
theorem D7w_sizeWith_4 {ρ : Type} {out : ρ} {p : Program} {l : Launch} {e : Env} {R : Room} {s : State} {m : MethodId} {args : Array Value} {below : List Frame} {meth : Method} {c : Code} {cells slots : Nat} {Q : State → Prop} {D : va_G} {cy : Nat → ClassId} {ad : List Nat} {q : Nat → Nat} {X : va_W} (τ : DS) (fx : FX p s m args meth c cX7_sizeWith 4 RX7 D cy) (sx : SX ad s) (hR : 1 ≤ R.frames ∧ 21 ≤ R.locals) (hf : cells ≤ R.cells ∧ slots ≤ R.slots) (p0 : Nat) (hp0 : p0 < 32) (p1 : Int32) {kx34 : Int32 → Option ρ} :
    ∀ (n : Nat) (v2 : Int32) (v3 : Int32), it2 (D7s_sizeWith_4 p0 p1 τ kx34) n v2 v3 = some out → ∀ (H : Heap) (locs : List Loc) (ls : Array Slot), GC D (dwd cy q X) ad s τ H locs → lv_has ls 4 [(0, .ref (q (47 + p0))), (1, .int p1), (2, .int v2), (3, .int v3)] → (∀ (u2 : Int32) (H : Heap) (locs : List Loc) (ls : Array Slot), kx34 u2 = some out → GC D (dwd cy q X) ad s τ H locs → lv_has ls 4 [(2, .int u2)] → W p l e R s m args below meth c H locs cells slots Q (F0 m 34 ls [])) → W p l e R s m args below meth c H locs cells slots Q (F0 m 4 ls []) := by
  have hx := fx.1
  have hb := fx.2.1
  intro n
  induction n with
  | zero => intro v2 v3 hm; exact (it2_z hm).elim
  | succ n ih9 =>
    intro v2 v3 hm H locs ls hC hl hx34
    obtain ⟨rc, hrc⟩ : ∃ z, z = it2 (D7s_sizeWith_4 p0 p1 τ kx34) n := ⟨_, rfl⟩
    replace hm : D7s_sizeWith_4 p0 p1 τ kx34 rc v2 v3 = some out := by rw [hrc]; exact hm
    unfold D7s_sizeWith_4 at hm
    refine lv_iload_n hx hb dX7_sizeWith_4 rfl (lv_at hl 3 rfl) ?_
    refine lv_bipush (v := (64 : Int32)) hx hb dX7_sizeWith_5 (by decide) ?_
    refine lv_icmp_ge (tgt := 34) hx hb dX7_sizeWith_7 (by decide) (fun c_1 => ?_) (fun c_1 => ?_)
    · replace hm := ifp hm c_1
      exact hx34 _ _ _ _ hm hC (lv_sub hl [2] rfl)
    · replace hm := ifn hm c_1
      refine lv_iload_n hx hb dX7_sizeWith_10 rfl (lv_at hl 2 rfl) ?_
      refine lv_aload_n hx hb dX7_sizeWith_11 rfl (lv_at hl 0 rfl) ?_
      refine D7g_1 hp0 fx hC k_57 dX7_sizeWith_12 ?_
      refine lv_iload_n hx hb dX7_sizeWith_15 rfl (lv_at hl 3 rfl) ?_
      have h_2 := (gi_in hm).1
      replace hm := (gi_in hm).2
      refine DLj fx hC (K7w hp0) h_2 dX7_sizeWith_16 ?_
      refine lv_iload_n hx hb dX7_sizeWith_17 rfl (lv_at hl 3 rfl) ?_
      refine lv_iload_n hx hb dX7_sizeWith_18 rfl (lv_at hl 1 rfl) ?_
      obtain ⟨r_4, e_3, hm⟩ := b1_in hm
      refine d_callSl (As := [.int v3, .int p1]) (rest := [.long (τ.2.2 (79 + p0) (v3).toNatClampNeg), .int v2]) fx sx hC dw_w (D7c_having l τ v3 p1 e_3) k_257 D7k_having D7h_having ⟨rfl, rfl⟩ ⟨Nat.le_trans (Nat.le_of_ble_eq_true rfl) hR.1, Nat.le_trans (Nat.le_of_ble_eq_true rfl) hR.2⟩ hf rfl hl.1 rfl (Nat.le_of_ble_eq_true rfl) dX7_sizeWith_19 (fun H locs hC => ?_)
      refine lv_land hx hb dX7_sizeWith_22 ?_
      refine g_callSi (As := [.long ((τ.2.2 (79 + p0) (v3).toNatClampNeg) &&& r_4)]) (rest := [.int v2]) fx hC dw_w (J13c_bitCount_95d88 l dw_w τ ((τ.2.2 (79 + p0) (v3).toNatClampNeg) &&& r_4)) k_465 J13k_bitCount_95d88 J13h_bitCount_95d88 ⟨rfl, rfl⟩ ⟨Nat.le_trans (Nat.le_of_ble_eq_true rfl) hR.1, Nat.le_trans (Nat.le_of_ble_eq_true rfl) hR.2⟩ hf rfl hl.1 rfl (Nat.le_of_ble_eq_true rfl) dX7_sizeWith_23 (fun H locs hC => ?_)
      refine lv_iadd hx hb dX7_sizeWith_26 ?_
      refine lv_topi (fun x_5 ex_5 => ?_)
      replace hm := nm_in hm ex_5
      refine lv_istore_n (lv' := [(2, .int x_5), (0, .ref (q (47 + p0))), (1, .int p1), (3, .int v3)]) hx hb dX7_sizeWith_27 rfl hl (by decide) rfl (fun ls hl => ?_)
      refine lv_iinc (v := (v3 + (1 : Int32))) (lv' := [(3, .int (v3 + (1 : Int32))), (2, .int x_5), (0, .ref (q (47 + p0))), (1, .int p1)]) hx hb dX7_sizeWith_28 hl (k := 3) rfl rfl (by decide) rfl (fun ls hl => ?_)
      refine lv_goto (tgt := 4) hx hb dX7_sizeWith_31 (by decide) ?_
      rw [hrc] at hm
      exact ih9 _ _ hm _ _ _ hC (lv_sub hl [2, 3, 1, 0] rfl) hx34
set_option maxRecDepth 100000 in
set_option maxHeartbeats 4000000 in
theorem D7c_sizeWith (l : Launch) {D : va_G} {cy : Nat → ClassId} {ad : List Nat} {q : Nat → Nat} {X : va_W} (k : Nat) (hk : k < 32) (τ : DS) (a1 : Int32) {o : Int32} (hm : D7m_sizeWith k τ a1 = some o) : DM l yX7_sizeWith cX7_sizeWith 4 (some .int) D7rm_sizeWith D cy (dwd cy q X) ad [.ref (q (47 + k)), .int a1] τ (some (.int (o))) τ := by
  refine d_start RX7 rfl (by decide) (Nat.le_of_ble_eq_true rfl) ?_
  intro p e s m args below meth c fx sx hr hC ls hl
  have hx := fx.1
  have hb := fx.2.1
  have hR : 1 ≤ (D7rm_sizeWith).frames ∧ 21 ≤ (D7rm_sizeWith).locals := ⟨Nat.le_refl _, Nat.le_refl _⟩
  have hf : 0 ≤ (D7rm_sizeWith).cells ∧ 0 ≤ (D7rm_sizeWith).slots := ⟨Nat.zero_le _, Nat.zero_le _⟩
  have hl : lv_has ls 4 [(0, .ref (q (47 + k))), (1, .int a1)] := hl
  unfold D7m_sizeWith at hm
  refine lv_iconst (v := (0 : Int32)) hx hb dX7_sizeWith_0 (by decide) ?_
  refine lv_istore_n (lv' := [(2, .int (0 : Int32)), (0, .ref (q (47 + k))), (1, .int a1)]) hx hb dX7_sizeWith_1 rfl hl (by decide) rfl (fun ls hl => ?_)
  refine lv_iconst (v := (0 : Int32)) hx hb dX7_sizeWith_2 (by decide) ?_
  refine lv_istore_n (lv' := [(3, .int (0 : Int32)), (2, .int (0 : Int32)), (0, .ref (q (47 + k))), (1, .int a1)]) hx hb dX7_sizeWith_3 rfl hl (by decide) rfl (fun ls hl => ?_)
  refine D7w_sizeWith_4 τ fx sx hR hf k hk a1 fuel (0 : Int32) (0 : Int32) hm _ _ _ hC (lv_sub hl [2, 3, 1, 0] rfl) (fun u_6 H locs ls hm hC hl => ?_)
  refine lv_iload_n hx hb dX7_sizeWith_34 rfl (lv_at hl 0 rfl) ?_
  cases hm
  exact g_iret fx hr hC rfl dX7_sizeWith_35
def D7s_used_4 {ρ : Type} (p0 : Nat) (τ : DS) (kx30 : Int32 → Option ρ) (rc : Int32 → Int32 → Option ρ) (v1 : Int32) (v2 : Int32) : Option ρ :=
  if (12 : Int32) ≤ v2 then (kx30 v1) else (b1 (D7m_sizeWith p0 τ v2) (fun r_3 => if r_3 ≤ (0 : Int32) then (rc v1 (v2 + (1 : Int32))) else (rc (v1 ||| ((1 : Int32) <<< (v2 &&& 31))) (v2 + (1 : Int32)))))
def D7m_used (k : Nat) (τ : DS) : Option Int32 :=
  it2 (D7s_used_4 k τ (fun u_5 => some u_5)) fuel (0 : Int32) (0 : Int32)
abbrev D7rm_used : Room := { frames := 2, cells := 0, slots := 0, locals := 44 }
set_option maxRecDepth 100000 in
set_option maxHeartbeats 4000000 in
theorem D7w_used_4 {ρ : Type} {out : ρ} {p : Program} {l : Launch} {e : Env} {R : Room} {s : State} {m : MethodId} {args : Array Value} {below : List Frame} {meth : Method} {c : Code} {cells slots : Nat} {Q : State → Prop} {D : va_G} {cy : Nat → ClassId} {ad : List Nat} {q : Nat → Nat} {X : va_W} (τ : DS) (fx : FX p s m args meth c cX7_used 3 RX7 D cy) (sx : SX ad s) (hR : 2 ≤ R.frames ∧ 44 ≤ R.locals) (hf : cells ≤ R.cells ∧ slots ≤ R.slots) (p0 : Nat) (hp0 : p0 < 32) {kx30 : Int32 → Option ρ} :
    ∀ (n : Nat) (v1 : Int32) (v2 : Int32), it2 (D7s_used_4 p0 τ kx30) n v1 v2 = some out → ∀ (H : Heap) (locs : List Loc) (ls : Array Slot), GC D (dwd cy q X) ad s τ H locs → lv_has ls 3 [(0, .ref (q (47 + p0))), (1, .int v1), (2, .int v2)] → (∀ (u1 : Int32) (H : Heap) (locs : List Loc) (ls : Array Slot), kx30 u1 = some out → GC D (dwd cy q X) ad s τ H locs → lv_has ls 3 [(1, .int u1)] → W p l e R s m args below meth c H locs cells slots Q (F0 m 30 ls [])) → W p l e R s m args below meth c H locs cells slots Q (F0 m 4 ls []) := by
  have hx := fx.1
  have hb := fx.2.1
  intro n
  induction n with
  | zero => intro v1 v2 hm; exact (it2_z hm).elim
  | succ n ih9 =>
    intro v1 v2 hm H locs ls hC hl hx30
    obtain ⟨rc, hrc⟩ : ∃ z, z = it2 (D7s_used_4 p0 τ kx30) n := ⟨_, rfl⟩
    replace hm : D7s_used_4 p0 τ kx30 rc v1 v2 = some out := by rw [hrc]; exact hm
    unfold D7s_used_4 at hm
    refine lv_iload_n hx hb dX7_used_4 rfl (lv_at hl 2 rfl) ?_
    refine lv_bipush (v := (12 : Int32)) hx hb dX7_used_5 (by decide) ?_
    refine lv_icmp_ge (tgt := 30) hx hb dX7_used_7 (by decide) (fun c_1 => ?_) (fun c_1 => ?_)
    · replace hm := ifp hm c_1
      exact hx30 _ _ _ _ hm hC (lv_sub hl [1] rfl)
    · replace hm := ifn hm c_1
      refine lv_aload_n hx hb dX7_used_10 rfl (lv_at hl 0 rfl) ?_
      refine lv_iload_n hx hb dX7_used_11 rfl (lv_at hl 2 rfl) ?_
      obtain ⟨r_3, e_2, hm⟩ := b1_in hm
      refine d_callVi (ci := 7) (As := [.int v2]) (rest := []) fx sx hC dw_w (D7c_sizeWith l p0 hp0 τ v2 e_2) k_496 D7k_sizeWith D7h_sizeWith rfl rfl (O_at (K7 hp0)) ⟨rfl, rfl⟩ ⟨Nat.le_trans (Nat.le_of_ble_eq_true rfl) hR.1, Nat.le_trans (Nat.le_of_ble_eq_true rfl) hR.2⟩ hf rfl hl.1 rfl (Nat.le_of_ble_eq_true rfl) dX7_used_12 (fun H locs hC => ?_)
      refine lv_if_le (tgt := 24) hx hb dX7_used_15 (by decide) (fun c_4 => ?_) (fun c_4 => ?_)
      · replace hm := ifp hm c_4
        refine lv_iinc (v := (v2 + (1 : Int32))) (lv' := [(2, .int (v2 + (1 : Int32))), (0, .ref (q (47 + p0))), (1, .int v1)]) hx hb dX7_used_24 hl (k := 2) rfl rfl (by decide) rfl (fun ls hl => ?_)
        refine lv_goto (tgt := 4) hx hb dX7_used_27 (by decide) ?_
        rw [hrc] at hm
        exact ih9 _ _ hm _ _ _ hC (lv_sub hl [1, 2, 0] rfl) hx30
      · replace hm := ifn hm c_4
        refine lv_iload_n hx hb dX7_used_18 rfl (lv_at hl 1 rfl) ?_
        refine lv_iconst (v := (1 : Int32)) hx hb dX7_used_19 (by decide) ?_
        refine lv_iload_n hx hb dX7_used_20 rfl (lv_at hl 2 rfl) ?_
        refine lv_ishl hx hb dX7_used_21 ?_
        refine lv_ior hx hb dX7_used_22 ?_
        refine lv_istore_n (lv' := [(1, .int (v1 ||| ((1 : Int32) <<< (v2 &&& 31)))), (0, .ref (q (47 + p0))), (2, .int v2)]) hx hb dX7_used_23 rfl hl (by decide) rfl (fun ls hl => ?_)
        refine lv_iinc (v := (v2 + (1 : Int32))) (lv' := [(2, .int (v2 + (1 : Int32))), (1, .int (v1 ||| ((1 : Int32) <<< (v2 &&& 31)))), (0, .ref (q (47 + p0)))]) hx hb dX7_used_24 hl (k := 2) rfl rfl (by decide) rfl (fun ls hl => ?_)
        refine lv_goto (tgt := 4) hx hb dX7_used_27 (by decide) ?_
        rw [hrc] at hm
        exact ih9 _ _ hm _ _ _ hC (lv_sub hl [2, 1, 0] rfl) hx30
set_option maxRecDepth 100000 in
set_option maxHeartbeats 4000000 in
theorem D7c_used (l : Launch) {D : va_G} {cy : Nat → ClassId} {ad : List Nat} {q : Nat → Nat} {X : va_W} (k : Nat) (hk : k < 32) (τ : DS) {o : Int32} (hm : D7m_used k τ = some o) : DM l yX7_used cX7_used 3 (some .int) D7rm_used D cy (dwd cy q X) ad [.ref (q (47 + k))] τ (some (.int (o))) τ := by
  refine d_start RX7 rfl (by decide) (Nat.le_of_ble_eq_true rfl) ?_
  intro p e s m args below meth c fx sx hr hC ls hl
  have hx := fx.1
  have hb := fx.2.1
  have hR : 2 ≤ (D7rm_used).frames ∧ 44 ≤ (D7rm_used).locals := ⟨Nat.le_refl _, Nat.le_refl _⟩
  have hf : 0 ≤ (D7rm_used).cells ∧ 0 ≤ (D7rm_used).slots := ⟨Nat.zero_le _, Nat.zero_le _⟩
  have hl : lv_has ls 3 [(0, .ref (q (47 + k)))] := hl
  unfold D7m_used at hm
  refine lv_iconst (v := (0 : Int32)) hx hb dX7_used_0 (by decide) ?_
  refine lv_istore_n (lv' := [(1, .int (0 : Int32)), (0, .ref (q (47 + k)))]) hx hb dX7_used_1 rfl hl (by decide) rfl (fun ls hl => ?_)
  refine lv_iconst (v := (0 : Int32)) hx hb dX7_used_2 (by decide) ?_
  refine lv_istore_n (lv' := [(2, .int (0 : Int32)), (1, .int (0 : Int32)), (0, .ref (q (47 + k)))]) hx hb dX7_used_3 rfl hl (by decide) rfl (fun ls hl => ?_)
  refine D7w_used_4 τ fx sx hR hf k hk fuel (0 : Int32) (0 : Int32) hm _ _ _ hC (lv_sub hl [2, 1, 0] rfl) (fun u_5 H locs ls hm hC hl => ?_)
  refine lv_iload_n hx hb dX7_used_30 rfl (lv_at hl 0 rfl) ?_
  cases hm
  exact g_iret fx hr hC rfl dX7_used_31
def D7s_levelsBelow_2 {ρ : Type} (p0 : Int32) (kx22 : Int32 → Option ρ) (rc : Int32 → Option ρ) (v1 : Int32) : Option ρ :=
  if (12 : Int32) ≤ v1 then (kx22 v1) else (if (p0 &&& ((1 : Int32) <<< (v1 &&& 31))) = (0 : Int32) then (rc (v1 + (1 : Int32))) else (kx22 v1))
def D7m_levelsBelow (a1 : Int32) : Option Int32 :=
  it1 (D7s_levelsBelow_2 a1 (fun u_3 => some u_3)) fuel (0 : Int32)
abbrev D7rm_levelsBelow : Room := { frames := 0, cells := 0, slots := 0, locals := 0 }
set_option maxRecDepth 100000 in
set_option maxHeartbeats 4000000 in
theorem D7w_levelsBelow_2 {ρ : Type} {out : ρ} {p : Program} {l : Launch} {e : Env} {R : Room} {s : State} {m : MethodId} {args : Array Value} {below : List Frame} {meth : Method} {c : Code} {cells slots : Nat} {Q : State → Prop} {D : va_G} {cy : Nat → ClassId} {ad : List Nat} {q : Nat → Nat} {X : va_W} (τ : DS) (fx : FX p s m args meth c cX7_levelsBelow 2 RX7 D cy) (sx : SX ad s) (hR : 0 ≤ R.frames ∧ 0 ≤ R.locals) (hf : cells ≤ R.cells ∧ slots ≤ R.slots) (p0 : Int32) {kx22 : Int32 → Option ρ} :
    ∀ (n : Nat) (v1 : Int32), it1 (D7s_levelsBelow_2 p0 kx22) n v1 = some out → ∀ (H : Heap) (locs : List Loc) (ls : Array Slot), GC D (dwd cy q X) ad s τ H locs → lv_has ls 2 [(0, .int p0), (1, .int v1)] → (∀ (u1 : Int32) (H : Heap) (locs : List Loc) (ls : Array Slot), kx22 u1 = some out → GC D (dwd cy q X) ad s τ H locs → lv_has ls 2 [(1, .int u1)] → W p l e R s m args below meth c H locs cells slots Q (F0 m 22 ls [])) → W p l e R s m args below meth c H locs cells slots Q (F0 m 2 ls []) := by
  have hx := fx.1
  have hb := fx.2.1
  intro n
  induction n with
  | zero => intro v1 hm; exact (it1_z hm).elim
  | succ n ih9 =>
    intro v1 hm H locs ls hC hl hx22
    obtain ⟨rc, hrc⟩ : ∃ z, z = it1 (D7s_levelsBelow_2 p0 kx22) n := ⟨_, rfl⟩
    replace hm : D7s_levelsBelow_2 p0 kx22 rc v1 = some out := by rw [hrc]; exact hm
    unfold D7s_levelsBelow_2 at hm
    refine lv_iload_n hx hb dX7_levelsBelow_2 rfl (lv_at hl 1 rfl) ?_
    refine lv_bipush (v := (12 : Int32)) hx hb dX7_levelsBelow_3 (by decide) ?_
    refine lv_icmp_ge (tgt := 22) hx hb dX7_levelsBelow_5 (by decide) (fun c_1 => ?_) (fun c_1 => ?_)
    · replace hm := ifp hm c_1
      exact hx22 _ _ _ _ hm hC (lv_sub hl [1] rfl)
    · replace hm := ifn hm c_1
      refine lv_iload_n hx hb dX7_levelsBelow_8 rfl (lv_at hl 0 rfl) ?_
      refine lv_iconst (v := (1 : Int32)) hx hb dX7_levelsBelow_9 (by decide) ?_
      refine lv_iload_n hx hb dX7_levelsBelow_10 rfl (lv_at hl 1 rfl) ?_
      refine lv_ishl hx hb dX7_levelsBelow_11 ?_
      refine lv_iand hx hb dX7_levelsBelow_12 ?_
      refine lv_if_ne (tgt := 22) hx hb dX7_levelsBelow_13 (by decide) (fun c_2 => ?_) (fun c_2 => ?_)
      · replace hm := ifn hm c_2
        exact hx22 _ _ _ _ hm hC (lv_sub hl [1] rfl)
      · replace hm := ifp hm c_2
        refine lv_iinc (v := (v1 + (1 : Int32))) (lv' := [(1, .int (v1 + (1 : Int32))), (0, .int p0)]) hx hb dX7_levelsBelow_16 hl (k := 1) rfl rfl (by decide) rfl (fun ls hl => ?_)
        refine lv_goto (tgt := 2) hx hb dX7_levelsBelow_19 (by decide) ?_
        rw [hrc] at hm
        exact ih9 _ hm _ _ _ hC (lv_sub hl [1, 0] rfl) hx22
set_option maxRecDepth 100000 in
set_option maxHeartbeats 4000000 in
theorem D7c_levelsBelow (l : Launch) {D : va_G} {cy : Nat → ClassId} {ad : List Nat} {q : Nat → Nat} {X : va_W} (τ : DS) (a1 : Int32) {o : Int32} (hm : D7m_levelsBelow a1 = some o) : DM l yX7_levelsBelow cX7_levelsBelow 2 (some .int) D7rm_levelsBelow D cy (dwd cy q X) ad [.int a1] τ (some (.int (o))) τ := by
  refine d_start RX7 rfl (by decide) (Nat.le_of_ble_eq_true rfl) ?_
  intro p e s m args below meth c fx sx hr hC ls hl
  have hx := fx.1
  have hb := fx.2.1
  have hR : 0 ≤ (D7rm_levelsBelow).frames ∧ 0 ≤ (D7rm_levelsBelow).locals := ⟨Nat.le_refl _, Nat.le_refl _⟩
  have hf : 0 ≤ (D7rm_levelsBelow).cells ∧ 0 ≤ (D7rm_levelsBelow).slots := ⟨Nat.zero_le _, Nat.zero_le _⟩
  have hl : lv_has ls 2 [(0, .int a1)] := hl
  unfold D7m_levelsBelow at hm
  refine lv_iconst (v := (0 : Int32)) hx hb dX7_levelsBelow_0 (by decide) ?_
  refine lv_istore_n (lv' := [(1, .int (0 : Int32)), (0, .int a1)]) hx hb dX7_levelsBelow_1 rfl hl (by decide) rfl (fun ls hl => ?_)
  refine D7w_levelsBelow_2 τ fx sx hR hf a1 fuel (0 : Int32) hm _ _ _ hC (lv_sub hl [1, 0] rfl) (fun u_3 H locs ls hm hC hl => ?_)
  refine lv_iload_n hx hb dX7_levelsBelow_22 rfl (lv_at hl 0 rfl) ?_
  cases hm
  exact g_iret fx hr hC rfl dX7_levelsBelow_23
def D7m_holds (k : Nat) (τ : DS) (a1 : Int32) : Option Int32 :=
  if a1 < (0 : Int32) then (some (0 : Int32)) else (if (4096 : Int32) ≤ a1 then (some (0 : Int32)) else (gi (a1 >>> ((6 : Int32) &&& 31)) 64 (if (lg_cmp ((((τ.2.2 (79 + k) ((a1 >>> ((6 : Int32) &&& 31))).toNatClampNeg)).toUInt64 >>> (((a1 &&& (63 : Int32))).toInt64.toUInt64 &&& Int64.toUInt64 63)).toInt64 &&& (1 : Int64)) (0 : Int64)) = (0 : Int32) then (some (0 : Int32)) else (some (1 : Int32)))))
abbrev D7rm_holds : Room := { frames := 0, cells := 0, slots := 0, locals := 0 }
set_option maxRecDepth 100000 in
set_option maxHeartbeats 4000000 in
theorem D7c_holds (l : Launch) {D : va_G} {cy : Nat → ClassId} {ad : List Nat} {q : Nat → Nat} {X : va_W} (k : Nat) (hk : k < 32) (τ : DS) (a1 : Int32) {o : Int32} (hm : D7m_holds k τ a1 = some o) : DM l yX7_holds cX7_holds 2 (some .boolean) D7rm_holds D cy (dwd cy q X) ad [.ref (q (47 + k)), .int a1] τ (some (.int (o))) τ := by
  refine d_start RX7 rfl (by decide) (Nat.le_of_ble_eq_true rfl) ?_
  intro p e s m args below meth c fx sx hr hC ls hl
  have hx := fx.1
  have hb := fx.2.1
  have hR : 0 ≤ (D7rm_holds).frames ∧ 0 ≤ (D7rm_holds).locals := ⟨Nat.le_refl _, Nat.le_refl _⟩
  have hf : 0 ≤ (D7rm_holds).cells ∧ 0 ≤ (D7rm_holds).slots := ⟨Nat.zero_le _, Nat.zero_le _⟩
  have hl : lv_has ls 2 [(0, .ref (q (47 + k))), (1, .int a1)] := hl
  unfold D7m_holds at hm
  refine lv_iload_n hx hb dX7_holds_0 rfl (lv_at hl 1 rfl) ?_
  refine lv_if_lt (tgt := 36) hx hb dX7_holds_1 (by decide) (fun c_1 => ?_) (fun c_1 => ?_)
  · replace hm := ifp hm c_1
    refine lv_iconst (v := (0 : Int32)) hx hb dX7_holds_36 (by decide) ?_
    cases hm
    exact g_zret fx hr rfl hC rfl dX7_holds_37
  · replace hm := ifn hm c_1
    refine lv_iload_n hx hb dX7_holds_4 rfl (lv_at hl 1 rfl) ?_
    refine lv_sipush (v := (4096 : Int32)) hx hb dX7_holds_5 (by decide) ?_
    refine lv_icmp_ge (tgt := 36) hx hb dX7_holds_8 (by decide) (fun c_2 => ?_) (fun c_2 => ?_)
    · replace hm := ifp hm c_2
      refine lv_iconst (v := (0 : Int32)) hx hb dX7_holds_36 (by decide) ?_
      cases hm
      exact g_zret fx hr rfl hC rfl dX7_holds_37
    · replace hm := ifn hm c_2
      refine lv_aload_n hx hb dX7_holds_11 rfl (lv_at hl 0 rfl) ?_
      refine D7g_1 hk fx hC k_57 dX7_holds_12 ?_
      refine lv_iload_n hx hb dX7_holds_15 rfl (lv_at hl 1 rfl) ?_
      refine lv_bipush (v := (6 : Int32)) hx hb dX7_holds_16 (by decide) ?_
      refine lv_ishr hx hb dX7_holds_18 ?_
      have h_3 := (gi_in hm).1
      replace hm := (gi_in hm).2
      refine DLj fx hC (K7w hk) h_3 dX7_holds_19 ?_
      refine lv_iload_n hx hb dX7_holds_20 rfl (lv_at hl 1 rfl) ?_
      refine lv_bipush (v := (63 : Int32)) hx hb dX7_holds_21 (by decide) ?_
      refine lv_iand hx hb dX7_holds_23 ?_
      refine lv_lushr hx hb dX7_holds_24 rfl ?_
      refine lv_lconst (v := (1 : Int64)) hx hb dX7_holds_25 (by decide) ?_
      refine lv_land hx hb dX7_holds_26 ?_
      refine lv_lconst (v := (0 : Int64)) hx hb dX7_holds_27 (by decide) ?_
      refine W.lcmp hx hb dX7_holds_28 ?_
      refine lv_if_eq (tgt := 36) hx hb dX7_holds_29 (by decide) (fun c_4 => ?_) (fun c_4 => ?_)
      · replace hm := ifp hm c_4
        refine lv_iconst (v := (0 : Int32)) hx hb dX7_holds_36 (by decide) ?_
        cases hm
        exact g_zret fx hr rfl hC rfl dX7_holds_37
      · replace hm := ifn hm c_4
        refine lv_iconst (v := (1 : Int32)) hx hb dX7_holds_32 (by decide) ?_
        refine lv_goto (tgt := 37) hx hb dX7_holds_33 (by decide) ?_
        cases hm
        exact g_zret fx hr rfl hC rfl dX7_holds_37
def D6s_addWithin_11 {ρ : Type} (p0 : Nat) (n0 : Nat) (p1 : Int32) (p2 : Int32) (p3 : Int32) (kx57 : DS → Option ρ) (rc : Int32 → DS → Option ρ) (v4 : Int32) (τ : DS) : Option ρ :=
  if p1 ≤ v4 then (kx57  τ) else (if (Int32.ofNat n0) ≤ v4 then (kx57  τ) else (if (v4 &&& ((1 : Int32) <<< (p3 &&& 31))) = (0 : Int32) then (rc (v4 + (1 : Int32)) τ) else (gi v4 n0 (gi (v4 ^^^ ((1 : Int32) <<< (p3 &&& 31))) n0 (gi v4 n0 (nm (dJ τ p0 (v4).toNatClampNeg ((τ.2.2 p0 (v4).toNatClampNeg) + (p2.toInt64 * (τ.2.2 p0 ((v4 ^^^ ((1 : Int32) <<< (p3 &&& 31)))).toNatClampNeg)))) (fun τ_8 => rc (v4 + (1 : Int32)) τ_8)))))))
def D6s_addWithin_2 {ρ : Type} (p0 : Nat) (n0 : Nat) (p1 : Int32) (p2 : Int32) (kx63 : DS → Option ρ) (rc : Int32 → DS → Option ρ) (v3 : Int32) (τ : DS) : Option ρ :=
  if (12 : Int32) ≤ v3 then (kx63  τ) else (it2 (D6s_addWithin_11 p0 n0 p1 p2 v3 (fun τ_10 => rc (v3 + (1 : Int32)) τ_10)) fuel (0 : Int32) τ)
def D6m_addWithin (τ : DS) (a1 : Nat) (na1 : Nat) (a2 : Int32) (a3 : Int32) : Option DS :=
  it2 (D6s_addWithin_2 a1 na1 a2 a3 (fun τ_11 => some τ_11)) fuel (0 : Int32) τ
abbrev D6rm_addWithin : Room := { frames := 0, cells := 0, slots := 0, locals := 0 }
set_option maxRecDepth 100000 in
set_option maxHeartbeats 4000000 in
theorem D6w_addWithin_11 {ρ : Type} {out : ρ} {p : Program} {l : Launch} {e : Env} {R : Room} {s : State} {m : MethodId} {args : Array Value} {below : List Frame} {meth : Method} {c : Code} {cells slots : Nat} {Q : State → Prop} {D : va_G} {cy : Nat → ClassId} {ad : List Nat} {q : Nat → Nat} {X : va_W} (fx : FX p s m args meth c cX6_addWithin 5 RX6 D cy) (sx : SX ad s) (hR : 0 ≤ R.frames ∧ 0 ≤ R.locals) (hf : cells ≤ R.cells ∧ slots ≤ R.slots) (p0 : Nat) (n0 : Nat) (hp0 : KJ cy q p0 n0) (p1 : Int32) (p2 : Int32) (p3 : Int32) {kx57 : DS → Option ρ} :
    ∀ (n : Nat) (v4 : Int32) (τ : DS), it2 (D6s_addWithin_11 p0 n0 p1 p2 p3 kx57) n v4 τ = some out → ∀ (H : Heap) (locs : List Loc) (ls : Array Slot), GC D (dwd cy q X) ad s τ H locs → lv_has ls 5 [(0, .ref (q p0)), (1, .int p1), (2, .int p2), (3, .int p3), (4, .int v4)] → (∀ (τ2 : DS) (H : Heap) (locs : List Loc) (ls : Array Slot), kx57 τ2 = some out → GC D (dwd cy q X) ad s τ2 H locs → lv_has ls 5 [(0, .ref (q p0)), (1, .int p1), (2, .int p2), (3, .int p3)] → W p l e R s m args below meth c H locs cells slots Q (F0 m 57 ls [])) → W p l e R s m args below meth c H locs cells slots Q (F0 m 11 ls []) := by
  have hx := fx.1
  have hb := fx.2.1
  intro n
  induction n with
  | zero => intro v4 τ hm; exact (it2_z hm).elim
  | succ n ih9 =>
    intro v4 τ hm H locs ls hC hl hx57
    obtain ⟨rc, hrc⟩ : ∃ z, z = it2 (D6s_addWithin_11 p0 n0 p1 p2 p3 kx57) n := ⟨_, rfl⟩
    replace hm : D6s_addWithin_11 p0 n0 p1 p2 p3 kx57 rc v4 τ = some out := by rw [hrc]; exact hm
    unfold D6s_addWithin_11 at hm
    refine lv_iload hx hb dX6_addWithin_11 (lv_at hl 4 rfl) ?_
    refine lv_iload_n hx hb dX6_addWithin_13 rfl (lv_at hl 1 rfl) ?_
    refine lv_icmp_ge (tgt := 57) hx hb dX6_addWithin_14 (by decide) (fun c_2 => ?_) (fun c_2 => ?_)
    · replace hm := ifp hm c_2
      exact hx57 _ _ _ _ hm hC (lv_sub hl [0, 1, 2, 3] rfl)
    · replace hm := ifn hm c_2
      refine lv_iload hx hb dX6_addWithin_17 (lv_at hl 4 rfl) ?_
      refine lv_aload_n hx hb dX6_addWithin_19 rfl (lv_at hl 0 rfl) ?_
      refine DNj fx hC hp0 dX6_addWithin_20 ?_
      refine lv_icmp_ge (tgt := 57) hx hb dX6_addWithin_21 (by decide) (fun c_3 => ?_) (fun c_3 => ?_)
      · replace hm := ifp hm c_3
        exact hx57 _ _ _ _ hm hC (lv_sub hl [0, 1, 2, 3] rfl)
      · replace hm := ifn hm c_3
        refine lv_iload hx hb dX6_addWithin_24 (lv_at hl 4 rfl) ?_
        refine lv_iconst (v := (1 : Int32)) hx hb dX6_addWithin_26 (by decide) ?_
        refine lv_iload_n hx hb dX6_addWithin_27 rfl (lv_at hl 3 rfl) ?_
        refine lv_ishl hx hb dX6_addWithin_28 ?_
        refine lv_iand hx hb dX6_addWithin_29 ?_
        refine lv_if_eq (tgt := 51) hx hb dX6_addWithin_30 (by decide) (fun c_4 => ?_) (fun c_4 => ?_)
        · replace hm := ifp hm c_4
          refine lv_iinc (v := (v4 + (1 : Int32))) (lv' := [(4, .int (v4 + (1 : Int32))), (0, .ref (q p0)), (1, .int p1), (2, .int p2), (3, .int p3)]) hx hb dX6_addWithin_51 hl (k := 4) rfl rfl (by decide) rfl (fun ls hl => ?_)
          refine lv_goto (tgt := 11) hx hb dX6_addWithin_54 (by decide) ?_
          rw [hrc] at hm
          exact ih9 _ _ hm _ _ _ hC (lv_sub hl [1, 2, 3, 4, 0] rfl) hx57
        · replace hm := ifn hm c_4
          refine lv_aload_n hx hb dX6_addWithin_33 rfl (lv_at hl 0 rfl) ?_
          refine lv_iload hx hb dX6_addWithin_34 (lv_at hl 4 rfl) ?_
          refine lv_dup2_11 hx hb dX6_addWithin_36 rfl rfl ?_
          have h_5 := (gi_in hm).1
          replace hm := (gi_in hm).2
          refine DLj fx hC hp0 h_5 dX6_addWithin_37 ?_
          refine lv_iload_n hx hb dX6_addWithin_38 rfl (lv_at hl 2 rfl) ?_
          refine lv_i2l hx hb dX6_addWithin_39 rfl ?_
          refine lv_aload_n hx hb dX6_addWithin_40 rfl (lv_at hl 0 rfl) ?_
          refine lv_iload hx hb dX6_addWithin_41 (lv_at hl 4 rfl) ?_
          refine lv_iconst (v := (1 : Int32)) hx hb dX6_addWithin_43 (by decide) ?_
          refine lv_iload_n hx hb dX6_addWithin_44 rfl (lv_at hl 3 rfl) ?_
          refine lv_ishl hx hb dX6_addWithin_45 ?_
          refine lv_ixor hx hb dX6_addWithin_46 ?_
          have h_6 := (gi_in hm).1
          replace hm := (gi_in hm).2
          refine DLj fx hC hp0 h_6 dX6_addWithin_47 ?_
          refine lv_lmul hx hb dX6_addWithin_48 ?_
          refine lv_ladd hx hb dX6_addWithin_49 ?_
          have h_7 := (gi_in hm).1
          replace hm := (gi_in hm).2
          refine DSj fx hC hp0 h_7 dX6_addWithin_50 (fun H locs hC => ?_)
          obtain ⟨τ_8, e_9⟩ : ∃ z, z = (dJ τ p0 (v4).toNatClampNeg ((τ.2.2 p0 (v4).toNatClampNeg) + (p2.toInt64 * (τ.2.2 p0 ((v4 ^^^ ((1 : Int32) <<< (p3 &&& 31)))).toNatClampNeg)))) := ⟨_, rfl⟩
          rw [← e_9] at hC
          replace hm := nm_in hm e_9
          refine lv_iinc (v := (v4 + (1 : Int32))) (lv' := [(4, .int (v4 + (1 : Int32))), (0, .ref (q p0)), (1, .int p1), (2, .int p2), (3, .int p3)]) hx hb dX6_addWithin_51 hl (k := 4) rfl rfl (by decide) rfl (fun ls hl => ?_)
          refine lv_goto (tgt := 11) hx hb dX6_addWithin_54 (by decide) ?_
          rw [hrc] at hm
          exact ih9 _ _ hm _ _ _ hC (lv_sub hl [1, 2, 3, 4, 0] rfl) hx57
set_option maxRecDepth 100000 in
set_option maxHeartbeats 4000000 in
theorem D6w_addWithin_2 {ρ : Type} {out : ρ} {p : Program} {l : Launch} {e : Env} {R : Room} {s : State} {m : MethodId} {args : Array Value} {below : List Frame} {meth : Method} {c : Code} {cells slots : Nat} {Q : State → Prop} {D : va_G} {cy : Nat → ClassId} {ad : List Nat} {q : Nat → Nat} {X : va_W} (fx : FX p s m args meth c cX6_addWithin 5 RX6 D cy) (sx : SX ad s) (hR : 0 ≤ R.frames ∧ 0 ≤ R.locals) (hf : cells ≤ R.cells ∧ slots ≤ R.slots) (p0 : Nat) (n0 : Nat) (hp0 : KJ cy q p0 n0) (p1 : Int32) (p2 : Int32) {kx63 : DS → Option ρ} :
    ∀ (n : Nat) (v3 : Int32) (τ : DS), it2 (D6s_addWithin_2 p0 n0 p1 p2 kx63) n v3 τ = some out → ∀ (H : Heap) (locs : List Loc) (ls : Array Slot), GC D (dwd cy q X) ad s τ H locs → lv_has ls 5 [(0, .ref (q p0)), (1, .int p1), (2, .int p2), (3, .int v3)] → (∀ (τ2 : DS) (H : Heap) (locs : List Loc) (ls : Array Slot), kx63 τ2 = some out → GC D (dwd cy q X) ad s τ2 H locs → lv_has ls 5 [] → W p l e R s m args below meth c H locs cells slots Q (F0 m 63 ls [])) → W p l e R s m args below meth c H locs cells slots Q (F0 m 2 ls []) := by
  have hx := fx.1
  have hb := fx.2.1
  intro n
  induction n with
  | zero => intro v3 τ hm; exact (it2_z hm).elim
  | succ n ih9 =>
    intro v3 τ hm H locs ls hC hl hx63
    obtain ⟨rc, hrc⟩ : ∃ z, z = it2 (D6s_addWithin_2 p0 n0 p1 p2 kx63) n := ⟨_, rfl⟩
    replace hm : D6s_addWithin_2 p0 n0 p1 p2 kx63 rc v3 τ = some out := by rw [hrc]; exact hm
    unfold D6s_addWithin_2 at hm
    refine lv_iload_n hx hb dX6_addWithin_2 rfl (lv_at hl 3 rfl) ?_
    refine lv_bipush (v := (12 : Int32)) hx hb dX6_addWithin_3 (by decide) ?_
    refine lv_icmp_ge (tgt := 63) hx hb dX6_addWithin_5 (by decide) (fun c_1 => ?_) (fun c_1 => ?_)
    · replace hm := ifp hm c_1
      exact hx63 _ _ _ _ hm hC (lv_sub hl [] rfl)
    · replace hm := ifn hm c_1
      refine lv_iconst (v := (0 : Int32)) hx hb dX6_addWithin_8 (by decide) ?_
      refine lv_istore (lv' := [(4, .int (0 : Int32)), (0, .ref (q p0)), (1, .int p1), (2, .int p2), (3, .int v3)]) hx hb dX6_addWithin_9 hl (by decide) rfl (fun ls hl => ?_)
      refine D6w_addWithin_11 fx sx hR hf p0 n0 hp0 p1 p2 v3 fuel (0 : Int32) τ hm _ _ _ hC (lv_sub hl [1, 2, 3, 4, 0] rfl) (fun τ_10 H locs ls hm hC hl => ?_)
      refine lv_iinc (v := (v3 + (1 : Int32))) (lv' := [(3, .int (v3 + (1 : Int32))), (0, .ref (q p0)), (1, .int p1), (2, .int p2)]) hx hb dX6_addWithin_57 hl (k := 3) rfl rfl (by decide) rfl (fun ls hl => ?_)
      refine lv_goto (tgt := 2) hx hb dX6_addWithin_60 (by decide) ?_
      rw [hrc] at hm
      exact ih9 _ _ hm _ _ _ hC (lv_sub hl [1, 2, 3, 0] rfl) hx63
set_option maxRecDepth 100000 in
set_option maxHeartbeats 4000000 in
theorem D6c_addWithin (l : Launch) {D : va_G} {cy : Nat → ClassId} {ad : List Nat} {q : Nat → Nat} {X : va_W} (τ : DS) (a1 : Nat) (na1 : Nat) (ha1 : KJ cy q a1 na1) (a2 : Int32) (a3 : Int32) {o : DS} (hm : D6m_addWithin τ a1 na1 a2 a3 = some o) : DM l yX6_addWithin cX6_addWithin 5 none D6rm_addWithin D cy (dwd cy q X) ad [.ref (q a1), .int a2, .int a3] τ none o := by
  refine d_start RX6 rfl (by decide) (Nat.le_of_ble_eq_true rfl) ?_
  intro p e s m args below meth c fx sx hr hC ls hl
  have hx := fx.1
  have hb := fx.2.1
  have hR : 0 ≤ (D6rm_addWithin).frames ∧ 0 ≤ (D6rm_addWithin).locals := ⟨Nat.le_refl _, Nat.le_refl _⟩
  have hf : 0 ≤ (D6rm_addWithin).cells ∧ 0 ≤ (D6rm_addWithin).slots := ⟨Nat.zero_le _, Nat.zero_le _⟩
  have hl : lv_has ls 5 [(0, .ref (q a1)), (1, .int a2), (2, .int a3)] := hl
  unfold D6m_addWithin at hm
  refine lv_iconst (v := (0 : Int32)) hx hb dX6_addWithin_0 (by decide) ?_
  refine lv_istore_n (lv' := [(3, .int (0 : Int32)), (0, .ref (q a1)), (1, .int a2), (2, .int a3)]) hx hb dX6_addWithin_1 rfl hl (by decide) rfl (fun ls hl => ?_)
  refine D6w_addWithin_2 fx sx hR hf a1 na1 ha1 a2 a3 fuel (0 : Int32) τ hm _ _ _ hC (lv_sub hl [1, 2, 3, 0] rfl) (fun τ_11 H locs ls hm hC hl => ?_)
  cases hm
  exact g_vret fx hr hC rfl dX6_addWithin_63
def J7s_fill_d0a16_6 {ρ : Type} (p0 : Nat) (n0 : Nat) (p1 : Int64) (p4 : Int32) (kx22 : DS → Option ρ) (rc : Int32 → DS → Option ρ) (v3 : Int32) (τ : DS) : Option ρ :=
  if p4 ≤ v3 then (kx22  τ) else (gi v3 n0 (nm (dJ τ p0 (v3).toNatClampNeg p1) (fun τ_3 => rc (v3 + (1 : Int32)) τ_3)))
def J7m_fill_d0a16 (τ : DS) (a1 : Nat) (na1 : Nat) (a2 : Int64) : Option DS :=
  it2 (J7s_fill_d0a16_6 a1 na1 a2 (Int32.ofNat na1) (fun τ_5 => some τ_5)) fuel (0 : Int32) τ
abbrev J7rm_fill_d0a16 : Room := { frames := 0, cells := 0, slots := 0, locals := 0 }
set_option maxRecDepth 100000 in
set_option maxHeartbeats 4000000 in
theorem J7w_fill_d0a16_6 {ρ : Type} {out : ρ} {p : Program} {l : Launch} {e : Env} {R : Room} {s : State} {m : MethodId} {args : Array Value} {below : List Frame} {meth : Method} {c : Code} {cells slots : Nat} {Q : State → Prop} {D : va_G} {cy : Nat → ClassId} {ad : List Nat} {q : Nat → Nat} {X : va_W} (fx : FX p s m args meth c cJ7_fill_d0a16 5 RJ7 D cy) (sx : SX ad s) (hR : 0 ≤ R.frames ∧ 0 ≤ R.locals) (hf : cells ≤ R.cells ∧ slots ≤ R.slots) (p0 : Nat) (n0 : Nat) (hp0 : KJ cy q p0 n0) (p1 : Int64) (p4 : Int32) {kx22 : DS → Option ρ} :
    ∀ (n : Nat) (v3 : Int32) (τ : DS), it2 (J7s_fill_d0a16_6 p0 n0 p1 p4 kx22) n v3 τ = some out → ∀ (H : Heap) (locs : List Loc) (ls : Array Slot), GC D (dwd cy q X) ad s τ H locs → lv_has ls 5 [(0, .ref (q p0)), (1, .long p1), (3, .int v3), (4, .int p4)] → (∀ (τ2 : DS) (H : Heap) (locs : List Loc) (ls : Array Slot), kx22 τ2 = some out → GC D (dwd cy q X) ad s τ2 H locs → lv_has ls 5 [] → W p l e R s m args below meth c H locs cells slots Q (F0 m 22 ls [])) → W p l e R s m args below meth c H locs cells slots Q (F0 m 6 ls []) := by
  have hx := fx.1
  have hb := fx.2.1
  intro n
  induction n with
  | zero => intro v3 τ hm; exact (it2_z hm).elim
  | succ n ih9 =>
    intro v3 τ hm H locs ls hC hl hx22
    obtain ⟨rc, hrc⟩ : ∃ z, z = it2 (J7s_fill_d0a16_6 p0 n0 p1 p4 kx22) n := ⟨_, rfl⟩
    replace hm : J7s_fill_d0a16_6 p0 n0 p1 p4 kx22 rc v3 τ = some out := by rw [hrc]; exact hm
    unfold J7s_fill_d0a16_6 at hm
    refine lv_iload_n hx hb dJ7_fill_d0a16_6 rfl (lv_at hl 2 rfl) ?_
    refine lv_iload hx hb dJ7_fill_d0a16_7 (lv_at hl 3 rfl) ?_
    refine lv_icmp_ge (tgt := 22) hx hb dJ7_fill_d0a16_9 (by decide) (fun c_1 => ?_) (fun c_1 => ?_)
    · replace hm := ifp hm c_1
      exact hx22 _ _ _ _ hm hC (lv_sub hl [] rfl)
    · replace hm := ifn hm c_1
      refine lv_aload_n hx hb dJ7_fill_d0a16_12 rfl (lv_at hl 0 rfl) ?_
      refine lv_iload_n hx hb dJ7_fill_d0a16_13 rfl (lv_at hl 2 rfl) ?_
      refine lv_lload_n hx hb dJ7_fill_d0a16_14 rfl (lv_at hl 1 rfl) ?_
      have h_2 := (gi_in hm).1
      replace hm := (gi_in hm).2
      refine DSj fx hC hp0 h_2 dJ7_fill_d0a16_15 (fun H locs hC => ?_)
      obtain ⟨τ_3, e_4⟩ : ∃ z, z = (dJ τ p0 (v3).toNatClampNeg p1) := ⟨_, rfl⟩
      rw [← e_4] at hC
      replace hm := nm_in hm e_4
      refine lv_iinc (v := (v3 + (1 : Int32))) (lv' := [(3, .int (v3 + (1 : Int32))), (0, .ref (q p0)), (1, .long p1), (4, .int p4)]) hx hb dJ7_fill_d0a16_16 hl (k := 2) rfl rfl (by decide) rfl (fun ls hl => ?_)
      refine lv_goto (tgt := 6) hx hb dJ7_fill_d0a16_19 (by decide) ?_
      rw [hrc] at hm
      exact ih9 _ _ hm _ _ _ hC (lv_sub hl [1, 2, 0, 3] rfl) hx22
set_option maxRecDepth 100000 in
set_option maxHeartbeats 4000000 in
theorem J7c_fill_d0a16 (l : Launch) {D : va_G} {cy : Nat → ClassId} {ad : List Nat} {q : Nat → Nat} {X : va_W} (τ : DS) (a1 : Nat) (na1 : Nat) (ha1 : KJ cy q a1 na1) (a2 : Int64) {o : DS} (hm : J7m_fill_d0a16 τ a1 na1 a2 = some o) : DM l yJ7_fill_d0a16 cJ7_fill_d0a16 5 none J7rm_fill_d0a16 D cy (dwd cy q X) ad [.ref (q a1), .long a2] τ none o := by
  refine d_start RJ7 rfl (by decide) (Nat.le_of_ble_eq_true rfl) ?_
  intro p e s m args below meth c fx sx hr hC ls hl
  have hx := fx.1
  have hb := fx.2.1
  have hR : 0 ≤ (J7rm_fill_d0a16).frames ∧ 0 ≤ (J7rm_fill_d0a16).locals := ⟨Nat.le_refl _, Nat.le_refl _⟩
  have hf : 0 ≤ (J7rm_fill_d0a16).cells ∧ 0 ≤ (J7rm_fill_d0a16).slots := ⟨Nat.zero_le _, Nat.zero_le _⟩
  have hl : lv_has ls 5 [(0, .ref (q a1)), (1, .long a2)] := hl
  unfold J7m_fill_d0a16 at hm
  refine lv_iconst (v := (0 : Int32)) hx hb dJ7_fill_d0a16_0 (by decide) ?_
  refine lv_istore_n (lv' := [(3, .int (0 : Int32)), (0, .ref (q a1)), (1, .long a2)]) hx hb dJ7_fill_d0a16_1 rfl hl (by decide) rfl (fun ls hl => ?_)
  refine lv_aload_n hx hb dJ7_fill_d0a16_2 rfl (lv_at hl 1 rfl) ?_
  refine DNj fx hC ha1 dJ7_fill_d0a16_3 ?_
  refine lv_istore (lv' := [(4, .int (Int32.ofNat na1)), (3, .int (0 : Int32)), (0, .ref (q a1)), (1, .long a2)]) hx hb dJ7_fill_d0a16_4 hl (by decide) rfl (fun ls hl => ?_)
  refine J7w_fill_d0a16_6 fx sx hR hf a1 na1 ha1 a2 (Int32.ofNat na1) fuel (0 : Int32) τ hm _ _ _ hC (lv_sub hl [2, 3, 1, 0] rfl) (fun τ_5 H locs ls hm hC hl => ?_)
  cases hm
  exact g_vret fx hr hC rfl dJ7_fill_d0a16_22
def D7m_clear (k : Nat) (τ : DS) (a1 : Int32) : Option DS :=
  nm (dS τ (47 + k) 0 a1) (fun τ_1 => b1 (J7m_fill_d0a16 τ_1 (79 + k) 64 (0 : Int64)) (fun τ_4 => some τ_4))
abbrev D7rm_clear : Room := { frames := 1, cells := 0, slots := 0, locals := 24 }
set_option maxRecDepth 100000 in
set_option maxHeartbeats 4000000 in
theorem D7c_clear (l : Launch) {D : va_G} {cy : Nat → ClassId} {ad : List Nat} {q : Nat → Nat} {X : va_W} (k : Nat) (hk : k < 32) (τ : DS) (a1 : Int32) {o : DS} (hm : D7m_clear k τ a1 = some o) : DM l yX7_clear cX7_clear 2 none D7rm_clear D cy (dwd cy q X) ad [.ref (q (47 + k)), .int a1] τ none o := by
  refine d_start RX7 rfl (by decide) (Nat.le_of_ble_eq_true rfl) ?_
  intro p e s m args below meth c fx sx hr hC ls hl
  have hx := fx.1
  have hb := fx.2.1
  have hR : 1 ≤ (D7rm_clear).frames ∧ 24 ≤ (D7rm_clear).locals := ⟨Nat.le_refl _, Nat.le_refl _⟩
  have hf : 0 ≤ (D7rm_clear).cells ∧ 0 ≤ (D7rm_clear).slots := ⟨Nat.zero_le _, Nat.zero_le _⟩
  have hl : lv_has ls 2 [(0, .ref (q (47 + k))), (1, .int a1)] := hl
  unfold D7m_clear at hm
  refine lv_aload_n hx hb dX7_clear_0 rfl (lv_at hl 0 rfl) ?_
  refine lv_iload_n hx hb dX7_clear_1 rfl (lv_at hl 1 rfl) ?_
  refine D7p_0 hk fx hC k_213 dX7_clear_2 (fun H locs hC => ?_)
  obtain ⟨τ_1, e_2⟩ : ∃ z, z = (dS τ (47 + k) 0 a1) := ⟨_, rfl⟩
  rw [← e_2] at hC
  replace hm := nm_in hm e_2
  refine lv_aload_n hx hb dX7_clear_5 rfl (lv_at hl 0 rfl) ?_
  refine D7g_1 hk fx hC k_57 dX7_clear_6 ?_
  refine lv_lconst (v := (0 : Int64)) hx hb dX7_clear_9 (by decide) ?_
  obtain ⟨τ_4, e_3, hm⟩ := b1_in hm
  refine d_callSv (As := [.ref (q (79 + k)), .long (0 : Int64)]) (rest := []) fx sx hC dw_w (J7c_fill_d0a16 l τ_1 (79 + k) 64 (K7w hk) (0 : Int64) e_3) k_214 J7k_fill_d0a16 J7h_fill_d0a16 ⟨rfl, rfl⟩ ⟨Nat.le_trans (Nat.le_of_ble_eq_true rfl) hR.1, Nat.le_trans (Nat.le_of_ble_eq_true rfl) hR.2⟩ hf rfl hl.1 rfl (Nat.le_of_ble_eq_true rfl) dX7_clear_10 (fun H locs hC => ?_)
  cases hm
  exact g_vret fx hr hC rfl dX7_clear_13
def D6s_unite_25 {ρ : Type} (p1 : Nat) (p2 : Nat) (p3 : Nat) (p4 : Int32) (p5 : Int32) (kx94 : DS → Option ρ) (rc : Int32 → DS → Option ρ) (v6 : Int32) (τ : DS) : Option ρ :=
  if p5 ≤ v6 then (kx94  τ) else (if (4096 : Int32) ≤ v6 then (kx94  τ) else (b1 (D7m_holds p2 τ (v6 <<< (p4 &&& 31))) (fun r_10 => if r_10 = (0 : Int32) then (gi v6 4096 (nm (dJ τ 15 (v6).toNatClampNeg (0 : Int64)) (fun τ_13 => b1 (D7m_holds p3 τ_13 (v6 <<< (p4 &&& 31))) (fun r_16 => if r_16 = (0 : Int32) then (gi v6 4096 (nm (dJ τ_13 16 (v6).toNatClampNeg (0 : Int64)) (fun τ_19 => rc (v6 + (1 : Int32)) τ_19))) else (gi v6 4096 (nm (dJ τ_13 16 (v6).toNatClampNeg (1 : Int64)) (fun τ_22 => rc (v6 + (1 : Int32)) τ_22))))))) else (gi v6 4096 (nm (dJ τ 15 (v6).toNatClampNeg (1 : Int64)) (fun τ_25 => b1 (D7m_holds p3 τ_25 (v6 <<< (p4 &&& 31))) (fun r_28 => if r_28 = (0 : Int32) then (gi v6 4096 (nm (dJ τ_25 16 (v6).toNatClampNeg (0 : Int64)) (fun τ_31 => rc (v6 + (1 : Int32)) τ_31))) else (gi v6 4096 (nm (dJ τ_25 16 (v6).toNatClampNeg (1 : Int64)) (fun τ_34 => rc (v6 + (1 : Int32)) τ_34))))))))))
def D6s_unite_117 {ρ : Type} (p1 : Nat) (p4 : Int32) (p5 : Int32) (kx155 : DS → Option ρ) (rc : Int32 → DS → Option ρ) (v6 : Int32) (τ : DS) : Option ρ :=
  if p5 ≤ v6 then (kx155  τ) else (if (4096 : Int32) ≤ v6 then (kx155  τ) else (gi v6 4096 (gi v6 4096 (gi v6 4096 (nm (dJ τ 15 (v6).toNatClampNeg ((τ.2.2 15 (v6).toNatClampNeg) * (τ.2.2 16 (v6).toNatClampNeg))) (fun τ_46 => rc (v6 + (1 : Int32)) τ_46))))))
def D6s_unite_173 {ρ : Type} (p1 : Nat) (p4 : Int32) (p5 : Int32) (kx215 : DS → Option ρ) (rc : Int32 → DS → Option ρ) (v6 : Int32) (τ : DS) : Option ρ :=
  if p5 ≤ v6 then (kx215  τ) else (if (4096 : Int32) ≤ v6 then (kx215  τ) else (gi v6 4096 (if (lg_cmp (τ.2.2 15 (v6).toNatClampNeg) (0 : Int64)) = (0 : Int32) then (rc (v6 + (1 : Int32)) τ) else (b1 (D7m_put p1 τ (v6 <<< (p4 &&& 31))) (fun τ_58 => rc (v6 + (1 : Int32)) τ_58)))))
def D6m_unite (τ : DS) (a1 : Nat) (a2 : Nat) (a3 : Nat) : Option DS :=
  b1 (D7m_used a2 τ) (fun r_2 => b1 (D7m_used a3 τ) (fun r_4 => b1 (D7m_levelsBelow (r_2 ||| r_4)) (fun r_6 => it2 (D6s_unite_25 a1 a2 a3 r_6 ((4096 : Int32) >>> (r_6 &&& 31)) (fun τ_36 => b1 (D6m_addWithin τ_36 15 4096 ((4096 : Int32) >>> (r_6 &&& 31)) (1 : Int32)) (fun τ_38 => b1 (D6m_addWithin τ_38 16 4096 ((4096 : Int32) >>> (r_6 &&& 31)) (1 : Int32)) (fun τ_40 => it2 (D6s_unite_117 a1 r_6 ((4096 : Int32) >>> (r_6 &&& 31)) (fun τ_48 => b1 (D6m_addWithin τ_48 15 4096 ((4096 : Int32) >>> (r_6 &&& 31)) (-1 : Int32)) (fun τ_50 => b1 (D7m_clear a1 τ_50 (0 : Int32)) (fun τ_52 => it2 (D6s_unite_173 a1 r_6 ((4096 : Int32) >>> (r_6 &&& 31)) (fun τ_59 => some τ_59)) fuel (0 : Int32) τ_52)))) fuel (0 : Int32) τ_40)))) fuel (0 : Int32) τ)))
abbrev D6rm_unite : Room := { frames := 3, cells := 0, slots := 0, locals := 66 }
set_option maxRecDepth 100000 in
set_option maxHeartbeats 4000000 in
theorem D6w_unite_25 {ρ : Type} {out : ρ} {p : Program} {l : Launch} {e : Env} {R : Room} {s : State} {m : MethodId} {args : Array Value} {below : List Frame} {meth : Method} {c : Code} {cells slots : Nat} {Q : State → Prop} {D : va_G} {cy : Nat → ClassId} {ad : List Nat} {q : Nat → Nat} {X : va_W} (fx : FX p s m args meth c cX6_unite 7 RX6 D cy) (sx : SX ad s) (hR : 3 ≤ R.frames ∧ 66 ≤ R.locals) (hf : cells ≤ R.cells ∧ slots ≤ R.slots) (p1 : Nat) (hp1 : p1 < 32) (p2 : Nat) (hp2 : p2 < 32) (p3 : Nat) (hp3 : p3 < 32) (p4 : Int32) (p5 : Int32) {kx94 : DS → Option ρ} :
    ∀ (n : Nat) (v6 : Int32) (τ : DS), it2 (D6s_unite_25 p1 p2 p3 p4 p5 kx94) n v6 τ = some out → ∀ (H : Heap) (locs : List Loc) (ls : Array Slot), GC D (dwd cy q X) ad s τ H locs → lv_has ls 7 [(0, .ref (q 14)), (1, .ref (q (47 + p1))), (2, .ref (q (47 + p2))), (3, .ref (q (47 + p3))), (4, .int p4), (5, .int p5), (6, .int v6)] → (∀ (τ2 : DS) (H : Heap) (locs : List Loc) (ls : Array Slot), kx94 τ2 = some out → GC D (dwd cy q X) ad s τ2 H locs → lv_has ls 7 [(0, .ref (q 14)), (1, .ref (q (47 + p1))), (4, .int p4), (5, .int p5)] → W p l e R s m args below meth c H locs cells slots Q (F0 m 94 ls [])) → W p l e R s m args below meth c H locs cells slots Q (F0 m 25 ls []) := by
  have hx := fx.1
  have hb := fx.2.1
  intro n
  induction n with
  | zero => intro v6 τ hm; exact (it2_z hm).elim
  | succ n ih9 =>
    intro v6 τ hm H locs ls hC hl hx94
    obtain ⟨rc, hrc⟩ : ∃ z, z = it2 (D6s_unite_25 p1 p2 p3 p4 p5 kx94) n := ⟨_, rfl⟩
    replace hm : D6s_unite_25 p1 p2 p3 p4 p5 kx94 rc v6 τ = some out := by rw [hrc]; exact hm
    unfold D6s_unite_25 at hm
    refine lv_iload hx hb dX6_unite_25 (lv_at hl 6 rfl) ?_
    refine lv_iload hx hb dX6_unite_27 (lv_at hl 5 rfl) ?_
    refine lv_icmp_ge (tgt := 94) hx hb dX6_unite_29 (by decide) (fun c_7 => ?_) (fun c_7 => ?_)
    · replace hm := ifp hm c_7
      exact hx94 _ _ _ _ hm hC (lv_sub hl [0, 1, 4, 5] rfl)
    · replace hm := ifn hm c_7
      refine lv_iload hx hb dX6_unite_32 (lv_at hl 6 rfl) ?_
      refine lv_sipush (v := (4096 : Int32)) hx hb dX6_unite_34 (by decide) ?_
      refine lv_icmp_ge (tgt := 94) hx hb dX6_unite_37 (by decide) (fun c_8 => ?_) (fun c_8 => ?_)
      · replace hm := ifp hm c_8
        exact hx94 _ _ _ _ hm hC (lv_sub hl [0, 1, 4, 5] rfl)
      · replace hm := ifn hm c_8
        refine lv_aload_n hx hb dX6_unite_40 rfl (lv_at hl 0 rfl) ?_
        refine D6g_0 fx hC k_68 dX6_unite_41 ?_
        refine lv_iload hx hb dX6_unite_44 (lv_at hl 6 rfl) ?_
        refine lv_aload_n hx hb dX6_unite_46 rfl (lv_at hl 2 rfl) ?_
        refine lv_iload hx hb dX6_unite_47 (lv_at hl 6 rfl) ?_
        refine lv_iload hx hb dX6_unite_49 (lv_at hl 4 rfl) ?_
        refine lv_ishl hx hb dX6_unite_51 ?_
        obtain ⟨r_10, e_9, hm⟩ := b1_in hm
        refine d_callVi (ci := 7) (As := [.int (v6 <<< (p4 &&& 31))]) (rest := [.int v6, .ref (q 15)]) fx sx hC dw_w (D7c_holds l p2 hp2 τ (v6 <<< (p4 &&& 31)) e_9) k_503 D7k_holds D7h_holds rfl rfl (O_at (K7 hp2)) ⟨rfl, rfl⟩ ⟨Nat.le_trans (Nat.le_of_ble_eq_true rfl) hR.1, Nat.le_trans (Nat.le_of_ble_eq_true rfl) hR.2⟩ hf rfl hl.1 rfl (Nat.le_of_ble_eq_true rfl) dX6_unite_52 (fun H locs hC => ?_)
        refine lv_if_eq (tgt := 62) hx hb dX6_unite_55 (by decide) (fun c_11 => ?_) (fun c_11 => ?_)
        · replace hm := ifp hm c_11
          refine lv_lconst (v := (0 : Int64)) hx hb dX6_unite_62 (by decide) ?_
          have h_12 := (gi_in hm).1
          replace hm := (gi_in hm).2
          refine DSj fx hC Ka15 h_12 dX6_unite_63 (fun H locs hC => ?_)
          obtain ⟨τ_13, e_14⟩ : ∃ z, z = (dJ τ 15 (v6).toNatClampNeg (0 : Int64)) := ⟨_, rfl⟩
          rw [← e_14] at hC
          replace hm := nm_in hm e_14
          refine lv_aload_n hx hb dX6_unite_64 rfl (lv_at hl 0 rfl) ?_
          refine D6g_1 fx hC k_69 dX6_unite_65 ?_
          refine lv_iload hx hb dX6_unite_68 (lv_at hl 6 rfl) ?_
          refine lv_aload_n hx hb dX6_unite_70 rfl (lv_at hl 3 rfl) ?_
          refine lv_iload hx hb dX6_unite_71 (lv_at hl 6 rfl) ?_
          refine lv_iload hx hb dX6_unite_73 (lv_at hl 4 rfl) ?_
          refine lv_ishl hx hb dX6_unite_75 ?_
          obtain ⟨r_16, e_15, hm⟩ := b1_in hm
          refine d_callVi (ci := 7) (As := [.int (v6 <<< (p4 &&& 31))]) (rest := [.int v6, .ref (q 16)]) fx sx hC dw_w (D7c_holds l p3 hp3 τ_13 (v6 <<< (p4 &&& 31)) e_15) k_503 D7k_holds D7h_holds rfl rfl (O_at (K7 hp3)) ⟨rfl, rfl⟩ ⟨Nat.le_trans (Nat.le_of_ble_eq_true rfl) hR.1, Nat.le_trans (Nat.le_of_ble_eq_true rfl) hR.2⟩ hf rfl hl.1 rfl (Nat.le_of_ble_eq_true rfl) dX6_unite_76 (fun H locs hC => ?_)
          refine lv_if_eq (tgt := 86) hx hb dX6_unite_79 (by decide) (fun c_17 => ?_) (fun c_17 => ?_)
          · replace hm := ifp hm c_17
            refine lv_lconst (v := (0 : Int64)) hx hb dX6_unite_86 (by decide) ?_
            have h_18 := (gi_in hm).1
            replace hm := (gi_in hm).2
            refine DSj fx hC Ka16 h_18 dX6_unite_87 (fun H locs hC => ?_)
            obtain ⟨τ_19, e_20⟩ : ∃ z, z = (dJ τ_13 16 (v6).toNatClampNeg (0 : Int64)) := ⟨_, rfl⟩
            rw [← e_20] at hC
            replace hm := nm_in hm e_20
            refine lv_iinc (v := (v6 + (1 : Int32))) (lv' := [(6, .int (v6 + (1 : Int32))), (0, .ref (q 14)), (1, .ref (q (47 + p1))), (2, .ref (q (47 + p2))), (3, .ref (q (47 + p3))), (4, .int p4), (5, .int p5)]) hx hb dX6_unite_88 hl (k := 6) rfl rfl (by decide) rfl (fun ls hl => ?_)
            refine lv_goto (tgt := 25) hx hb dX6_unite_91 (by decide) ?_
            rw [hrc] at hm
            exact ih9 _ _ hm _ _ _ hC (lv_sub hl [1, 2, 3, 4, 5, 6, 0] rfl) hx94
          · replace hm := ifn hm c_17
            refine lv_lconst (v := (1 : Int64)) hx hb dX6_unite_82 (by decide) ?_
            refine lv_goto (tgt := 87) hx hb dX6_unite_83 (by decide) ?_
            have h_21 := (gi_in hm).1
            replace hm := (gi_in hm).2
            refine DSj fx hC Ka16 h_21 dX6_unite_87 (fun H locs hC => ?_)
            obtain ⟨τ_22, e_23⟩ : ∃ z, z = (dJ τ_13 16 (v6).toNatClampNeg (1 : Int64)) := ⟨_, rfl⟩
            rw [← e_23] at hC
            replace hm := nm_in hm e_23
            refine lv_iinc (v := (v6 + (1 : Int32))) (lv' := [(6, .int (v6 + (1 : Int32))), (0, .ref (q 14)), (1, .ref (q (47 + p1))), (2, .ref (q (47 + p2))), (3, .ref (q (47 + p3))), (4, .int p4), (5, .int p5)]) hx hb dX6_unite_88 hl (k := 6) rfl rfl (by decide) rfl (fun ls hl => ?_)
            refine lv_goto (tgt := 25) hx hb dX6_unite_91 (by decide) ?_
            rw [hrc] at hm
            exact ih9 _ _ hm _ _ _ hC (lv_sub hl [1, 2, 3, 4, 5, 6, 0] rfl) hx94
        · replace hm := ifn hm c_11
          refine lv_lconst (v := (1 : Int64)) hx hb dX6_unite_58 (by decide) ?_
          refine lv_goto (tgt := 63) hx hb dX6_unite_59 (by decide) ?_
          have h_24 := (gi_in hm).1
          replace hm := (gi_in hm).2
          refine DSj fx hC Ka15 h_24 dX6_unite_63 (fun H locs hC => ?_)
          obtain ⟨τ_25, e_26⟩ : ∃ z, z = (dJ τ 15 (v6).toNatClampNeg (1 : Int64)) := ⟨_, rfl⟩
          rw [← e_26] at hC
          replace hm := nm_in hm e_26
          refine lv_aload_n hx hb dX6_unite_64 rfl (lv_at hl 0 rfl) ?_
          refine D6g_1 fx hC k_69 dX6_unite_65 ?_
          refine lv_iload hx hb dX6_unite_68 (lv_at hl 6 rfl) ?_
          refine lv_aload_n hx hb dX6_unite_70 rfl (lv_at hl 3 rfl) ?_
          refine lv_iload hx hb dX6_unite_71 (lv_at hl 6 rfl) ?_
          refine lv_iload hx hb dX6_unite_73 (lv_at hl 4 rfl) ?_
          refine lv_ishl hx hb dX6_unite_75 ?_
          obtain ⟨r_28, e_27, hm⟩ := b1_in hm
          refine d_callVi (ci := 7) (As := [.int (v6 <<< (p4 &&& 31))]) (rest := [.int v6, .ref (q 16)]) fx sx hC dw_w (D7c_holds l p3 hp3 τ_25 (v6 <<< (p4 &&& 31)) e_27) k_503 D7k_holds D7h_holds rfl rfl (O_at (K7 hp3)) ⟨rfl, rfl⟩ ⟨Nat.le_trans (Nat.le_of_ble_eq_true rfl) hR.1, Nat.le_trans (Nat.le_of_ble_eq_true rfl) hR.2⟩ hf rfl hl.1 rfl (Nat.le_of_ble_eq_true rfl) dX6_unite_76 (fun H locs hC => ?_)
          refine lv_if_eq (tgt := 86) hx hb dX6_unite_79 (by decide) (fun c_29 => ?_) (fun c_29 => ?_)
          · replace hm := ifp hm c_29
            refine lv_lconst (v := (0 : Int64)) hx hb dX6_unite_86 (by decide) ?_
            have h_30 := (gi_in hm).1
            replace hm := (gi_in hm).2
            refine DSj fx hC Ka16 h_30 dX6_unite_87 (fun H locs hC => ?_)
            obtain ⟨τ_31, e_32⟩ : ∃ z, z = (dJ τ_25 16 (v6).toNatClampNeg (0 : Int64)) := ⟨_, rfl⟩
            rw [← e_32] at hC
            replace hm := nm_in hm e_32
            refine lv_iinc (v := (v6 + (1 : Int32))) (lv' := [(6, .int (v6 + (1 : Int32))), (0, .ref (q 14)), (1, .ref (q (47 + p1))), (2, .ref (q (47 + p2))), (3, .ref (q (47 + p3))), (4, .int p4), (5, .int p5)]) hx hb dX6_unite_88 hl (k := 6) rfl rfl (by decide) rfl (fun ls hl => ?_)
            refine lv_goto (tgt := 25) hx hb dX6_unite_91 (by decide) ?_
            rw [hrc] at hm
            exact ih9 _ _ hm _ _ _ hC (lv_sub hl [1, 2, 3, 4, 5, 6, 0] rfl) hx94
          · replace hm := ifn hm c_29
            refine lv_lconst (v := (1 : Int64)) hx hb dX6_unite_82 (by decide) ?_
            refine lv_goto (tgt := 87) hx hb dX6_unite_83 (by decide) ?_
            have h_33 := (gi_in hm).1
            replace hm := (gi_in hm).2
            refine DSj fx hC Ka16 h_33 dX6_unite_87 (fun H locs hC => ?_)
            obtain ⟨τ_34, e_35⟩ : ∃ z, z = (dJ τ_25 16 (v6).toNatClampNeg (1 : Int64)) := ⟨_, rfl⟩
            rw [← e_35] at hC
            replace hm := nm_in hm e_35
            refine lv_iinc (v := (v6 + (1 : Int32))) (lv' := [(6, .int (v6 + (1 : Int32))), (0, .ref (q 14)), (1, .ref (q (47 + p1))), (2, .ref (q (47 + p2))), (3, .ref (q (47 + p3))), (4, .int p4), (5, .int p5)]) hx hb dX6_unite_88 hl (k := 6) rfl rfl (by decide) rfl (fun ls hl => ?_)
            refine lv_goto (tgt := 25) hx hb dX6_unite_91 (by decide) ?_
            rw [hrc] at hm
            exact ih9 _ _ hm _ _ _ hC (lv_sub hl [1, 2, 3, 4, 5, 6, 0] rfl) hx94
set_option maxRecDepth 100000 in
set_option maxHeartbeats 4000000 in
theorem D6w_unite_117 {ρ : Type} {out : ρ} {p : Program} {l : Launch} {e : Env} {R : Room} {s : State} {m : MethodId} {args : Array Value} {below : List Frame} {meth : Method} {c : Code} {cells slots : Nat} {Q : State → Prop} {D : va_G} {cy : Nat → ClassId} {ad : List Nat} {q : Nat → Nat} {X : va_W} (fx : FX p s m args meth c cX6_unite 7 RX6 D cy) (sx : SX ad s) (hR : 3 ≤ R.frames ∧ 66 ≤ R.locals) (hf : cells ≤ R.cells ∧ slots ≤ R.slots) (p1 : Nat) (hp1 : p1 < 32) (p4 : Int32) (p5 : Int32) {kx155 : DS → Option ρ} :
    ∀ (n : Nat) (v6 : Int32) (τ : DS), it2 (D6s_unite_117 p1 p4 p5 kx155) n v6 τ = some out → ∀ (H : Heap) (locs : List Loc) (ls : Array Slot), GC D (dwd cy q X) ad s τ H locs → lv_has ls 7 [(0, .ref (q 14)), (1, .ref (q (47 + p1))), (4, .int p4), (5, .int p5), (6, .int v6)] → (∀ (τ2 : DS) (H : Heap) (locs : List Loc) (ls : Array Slot), kx155 τ2 = some out → GC D (dwd cy q X) ad s τ2 H locs → lv_has ls 7 [(0, .ref (q 14)), (1, .ref (q (47 + p1))), (4, .int p4), (5, .int p5)] → W p l e R s m args below meth c H locs cells slots Q (F0 m 155 ls [])) → W p l e R s m args below meth c H locs cells slots Q (F0 m 117 ls []) := by
  have hx := fx.1
  have hb := fx.2.1
  intro n
  induction n with
  | zero => intro v6 τ hm; exact (it2_z hm).elim
  | succ n ih9 =>
    intro v6 τ hm H locs ls hC hl hx155
    obtain ⟨rc, hrc⟩ : ∃ z, z = it2 (D6s_unite_117 p1 p4 p5 kx155) n := ⟨_, rfl⟩
    replace hm : D6s_unite_117 p1 p4 p5 kx155 rc v6 τ = some out := by rw [hrc]; exact hm
    unfold D6s_unite_117 at hm
    refine lv_iload hx hb dX6_unite_117 (lv_at hl 4 rfl) ?_
    refine lv_iload hx hb dX6_unite_119 (lv_at hl 3 rfl) ?_
    refine lv_icmp_ge (tgt := 155) hx hb dX6_unite_121 (by decide) (fun c_41 => ?_) (fun c_41 => ?_)
    · replace hm := ifp hm c_41
      exact hx155 _ _ _ _ hm hC (lv_sub hl [0, 1, 2, 3] rfl)
    · replace hm := ifn hm c_41
      refine lv_iload hx hb dX6_unite_124 (lv_at hl 4 rfl) ?_
      refine lv_sipush (v := (4096 : Int32)) hx hb dX6_unite_126 (by decide) ?_
      refine lv_icmp_ge (tgt := 155) hx hb dX6_unite_129 (by decide) (fun c_42 => ?_) (fun c_42 => ?_)
      · replace hm := ifp hm c_42
        exact hx155 _ _ _ _ hm hC (lv_sub hl [0, 1, 2, 3] rfl)
      · replace hm := ifn hm c_42
        refine lv_aload_n hx hb dX6_unite_132 rfl (lv_at hl 0 rfl) ?_
        refine D6g_0 fx hC k_68 dX6_unite_133 ?_
        refine lv_iload hx hb dX6_unite_136 (lv_at hl 4 rfl) ?_
        refine lv_dup2_11 hx hb dX6_unite_138 rfl rfl ?_
        have h_43 := (gi_in hm).1
        replace hm := (gi_in hm).2
        refine DLj fx hC Ka15 h_43 dX6_unite_139 ?_
        refine lv_aload_n hx hb dX6_unite_140 rfl (lv_at hl 0 rfl) ?_
        refine D6g_1 fx hC k_69 dX6_unite_141 ?_
        refine lv_iload hx hb dX6_unite_144 (lv_at hl 4 rfl) ?_
        have h_44 := (gi_in hm).1
        replace hm := (gi_in hm).2
        refine DLj fx hC Ka16 h_44 dX6_unite_146 ?_
        refine lv_lmul hx hb dX6_unite_147 ?_
        have h_45 := (gi_in hm).1
        replace hm := (gi_in hm).2
        refine DSj fx hC Ka15 h_45 dX6_unite_148 (fun H locs hC => ?_)
        obtain ⟨τ_46, e_47⟩ : ∃ z, z = (dJ τ 15 (v6).toNatClampNeg ((τ.2.2 15 (v6).toNatClampNeg) * (τ.2.2 16 (v6).toNatClampNeg))) := ⟨_, rfl⟩
        rw [← e_47] at hC
        replace hm := nm_in hm e_47
        refine lv_iinc (v := (v6 + (1 : Int32))) (lv' := [(6, .int (v6 + (1 : Int32))), (0, .ref (q 14)), (1, .ref (q (47 + p1))), (4, .int p4), (5, .int p5)]) hx hb dX6_unite_149 hl (k := 4) rfl rfl (by decide) rfl (fun ls hl => ?_)
        refine lv_goto (tgt := 117) hx hb dX6_unite_152 (by decide) ?_
        rw [hrc] at hm
        exact ih9 _ _ hm _ _ _ hC (lv_sub hl [1, 2, 3, 4, 0] rfl) hx155
set_option maxRecDepth 100000 in
set_option maxHeartbeats 4000000 in
theorem D6w_unite_173 {ρ : Type} {out : ρ} {p : Program} {l : Launch} {e : Env} {R : Room} {s : State} {m : MethodId} {args : Array Value} {below : List Frame} {meth : Method} {c : Code} {cells slots : Nat} {Q : State → Prop} {D : va_G} {cy : Nat → ClassId} {ad : List Nat} {q : Nat → Nat} {X : va_W} (fx : FX p s m args meth c cX6_unite 7 RX6 D cy) (sx : SX ad s) (hR : 3 ≤ R.frames ∧ 66 ≤ R.locals) (hf : cells ≤ R.cells ∧ slots ≤ R.slots) (p1 : Nat) (hp1 : p1 < 32) (p4 : Int32) (p5 : Int32) {kx215 : DS → Option ρ} :
    ∀ (n : Nat) (v6 : Int32) (τ : DS), it2 (D6s_unite_173 p1 p4 p5 kx215) n v6 τ = some out → ∀ (H : Heap) (locs : List Loc) (ls : Array Slot), GC D (dwd cy q X) ad s τ H locs → lv_has ls 7 [(0, .ref (q 14)), (1, .ref (q (47 + p1))), (4, .int p4), (5, .int p5), (6, .int v6)] → (∀ (τ2 : DS) (H : Heap) (locs : List Loc) (ls : Array Slot), kx215 τ2 = some out → GC D (dwd cy q X) ad s τ2 H locs → lv_has ls 7 [] → W p l e R s m args below meth c H locs cells slots Q (F0 m 215 ls [])) → W p l e R s m args below meth c H locs cells slots Q (F0 m 173 ls []) := by
  have hx := fx.1
  have hb := fx.2.1
  intro n
  induction n with
  | zero => intro v6 τ hm; exact (it2_z hm).elim
  | succ n ih9 =>
    intro v6 τ hm H locs ls hC hl hx215
    obtain ⟨rc, hrc⟩ : ∃ z, z = it2 (D6s_unite_173 p1 p4 p5 kx215) n := ⟨_, rfl⟩
    replace hm : D6s_unite_173 p1 p4 p5 kx215 rc v6 τ = some out := by rw [hrc]; exact hm
    unfold D6s_unite_173 at hm
    refine lv_iload hx hb dX6_unite_173 (lv_at hl 4 rfl) ?_
    refine lv_iload hx hb dX6_unite_175 (lv_at hl 3 rfl) ?_
    refine lv_icmp_ge (tgt := 215) hx hb dX6_unite_177 (by decide) (fun c_53 => ?_) (fun c_53 => ?_)
    · replace hm := ifp hm c_53
      exact hx215 _ _ _ _ hm hC (lv_sub hl [] rfl)
    · replace hm := ifn hm c_53
      refine lv_iload hx hb dX6_unite_180 (lv_at hl 4 rfl) ?_
      refine lv_sipush (v := (4096 : Int32)) hx hb dX6_unite_182 (by decide) ?_
      refine lv_icmp_ge (tgt := 215) hx hb dX6_unite_185 (by decide) (fun c_54 => ?_) (fun c_54 => ?_)
      · replace hm := ifp hm c_54
        exact hx215 _ _ _ _ hm hC (lv_sub hl [] rfl)
      · replace hm := ifn hm c_54
        refine lv_aload_n hx hb dX6_unite_188 rfl (lv_at hl 0 rfl) ?_
        refine D6g_0 fx hC k_68 dX6_unite_189 ?_
        refine lv_iload hx hb dX6_unite_192 (lv_at hl 4 rfl) ?_
        have h_55 := (gi_in hm).1
        replace hm := (gi_in hm).2
        refine DLj fx hC Ka15 h_55 dX6_unite_194 ?_
        refine lv_lconst (v := (0 : Int64)) hx hb dX6_unite_195 (by decide) ?_
        refine W.lcmp hx hb dX6_unite_196 ?_
        refine lv_if_eq (tgt := 209) hx hb dX6_unite_197 (by decide) (fun c_56 => ?_) (fun c_56 => ?_)
        · replace hm := ifp hm c_56
          refine lv_iinc (v := (v6 + (1 : Int32))) (lv' := [(6, .int (v6 + (1 : Int32))), (0, .ref (q 14)), (1, .ref (q (47 + p1))), (4, .int p4), (5, .int p5)]) hx hb dX6_unite_209 hl (k := 4) rfl rfl (by decide) rfl (fun ls hl => ?_)
          refine lv_goto (tgt := 173) hx hb dX6_unite_212 (by decide) ?_
          rw [hrc] at hm
          exact ih9 _ _ hm _ _ _ hC (lv_sub hl [1, 2, 3, 4, 0] rfl) hx215
        · replace hm := ifn hm c_56
          refine lv_aload_n hx hb dX6_unite_200 rfl (lv_at hl 1 rfl) ?_
          refine lv_iload hx hb dX6_unite_201 (lv_at hl 4 rfl) ?_
          refine lv_iload hx hb dX6_unite_203 (lv_at hl 2 rfl) ?_
          refine lv_ishl hx hb dX6_unite_205 ?_
          obtain ⟨τ_58, e_57, hm⟩ := b1_in hm
          refine d_callVv (ci := 7) (As := [.int (v6 <<< (p4 &&& 31))]) (rest := []) fx sx hC dw_w (D7c_put l p1 hp1 τ (v6 <<< (p4 &&& 31)) e_57) k_511 D7k_put D7h_put rfl rfl (O_at (K7 hp1)) ⟨rfl, rfl⟩ ⟨Nat.le_trans (Nat.le_of_ble_eq_true rfl) hR.1, Nat.le_trans (Nat.le_of_ble_eq_true rfl) hR.2⟩ hf rfl hl.1 rfl (Nat.le_of_ble_eq_true rfl) dX6_unite_206 (fun H locs hC => ?_)
          refine lv_iinc (v := (v6 + (1 : Int32))) (lv' := [(6, .int (v6 + (1 : Int32))), (0, .ref (q 14)), (1, .ref (q (47 + p1))), (4, .int p4), (5, .int p5)]) hx hb dX6_unite_209 hl (k := 4) rfl rfl (by decide) rfl (fun ls hl => ?_)
          refine lv_goto (tgt := 173) hx hb dX6_unite_212 (by decide) ?_
          rw [hrc] at hm
          exact ih9 _ _ hm _ _ _ hC (lv_sub hl [1, 2, 3, 4, 0] rfl) hx215
set_option maxRecDepth 100000 in
set_option maxHeartbeats 4000000 in
theorem D6c_unite (l : Launch) {D : va_G} {cy : Nat → ClassId} {ad : List Nat} {q : Nat → Nat} {X : va_W} (τ : DS) (a1 : Nat) (ha1 : a1 < 32) (a2 : Nat) (ha2 : a2 < 32) (a3 : Nat) (ha3 : a3 < 32) {o : DS} (hm : D6m_unite τ a1 a2 a3 = some o) : DM l yX6_unite cX6_unite 7 none D6rm_unite D cy (dwd cy q X) ad [.ref (q 14), .ref (q (47 + a1)), .ref (q (47 + a2)), .ref (q (47 + a3))] τ none o := by
  refine d_start RX6 rfl (by decide) (Nat.le_of_ble_eq_true rfl) ?_
  intro p e s m args below meth c fx sx hr hC ls hl
  have hx := fx.1
  have hb := fx.2.1
  have hR : 3 ≤ (D6rm_unite).frames ∧ 66 ≤ (D6rm_unite).locals := ⟨Nat.le_refl _, Nat.le_refl _⟩
  have hf : 0 ≤ (D6rm_unite).cells ∧ 0 ≤ (D6rm_unite).slots := ⟨Nat.zero_le _, Nat.zero_le _⟩
  have hl : lv_has ls 7 [(0, .ref (q 14)), (1, .ref (q (47 + a1))), (2, .ref (q (47 + a2))), (3, .ref (q (47 + a3)))] := hl
  unfold D6m_unite at hm
  refine lv_aload_n hx hb dX6_unite_0 rfl (lv_at hl 2 rfl) ?_
  obtain ⟨r_2, e_1, hm⟩ := b1_in hm
  refine d_callVi (ci := 7) (As := []) (rest := []) fx sx hC dw_w (D7c_used l a2 ha2 τ e_1) k_492 D7k_used D7h_used rfl rfl (O_at (K7 ha2)) ⟨rfl, rfl⟩ ⟨Nat.le_trans (Nat.le_of_ble_eq_true rfl) hR.1, Nat.le_trans (Nat.le_of_ble_eq_true rfl) hR.2⟩ hf rfl hl.1 rfl (Nat.le_of_ble_eq_true rfl) dX6_unite_1 (fun H locs hC => ?_)
  refine lv_aload_n hx hb dX6_unite_4 rfl (lv_at hl 3 rfl) ?_
  obtain ⟨r_4, e_3, hm⟩ := b1_in hm
  refine d_callVi (ci := 7) (As := []) (rest := [.int r_2]) fx sx hC dw_w (D7c_used l a3 ha3 τ e_3) k_492 D7k_used D7h_used rfl rfl (O_at (K7 ha3)) ⟨rfl, rfl⟩ ⟨Nat.le_trans (Nat.le_of_ble_eq_true rfl) hR.1, Nat.le_trans (Nat.le_of_ble_eq_true rfl) hR.2⟩ hf rfl hl.1 rfl (Nat.le_of_ble_eq_true rfl) dX6_unite_5 (fun H locs hC => ?_)
  refine lv_ior hx hb dX6_unite_8 ?_
  obtain ⟨r_6, e_5, hm⟩ := b1_in hm
  refine d_callSi (As := [.int (r_2 ||| r_4)]) (rest := []) fx sx hC dw_w (D7c_levelsBelow l τ (r_2 ||| r_4) e_5) k_500 D7k_levelsBelow D7h_levelsBelow ⟨rfl, rfl⟩ ⟨Nat.le_trans (Nat.le_of_ble_eq_true rfl) hR.1, Nat.le_trans (Nat.le_of_ble_eq_true rfl) hR.2⟩ hf rfl hl.1 rfl (Nat.le_of_ble_eq_true rfl) dX6_unite_9 (fun H locs hC => ?_)
  refine lv_istore (lv' := [(4, .int r_6), (0, .ref (q 14)), (1, .ref (q (47 + a1))), (2, .ref (q (47 + a2))), (3, .ref (q (47 + a3)))]) hx hb dX6_unite_12 hl (by decide) rfl (fun ls hl => ?_)
  refine lv_sipush (v := (4096 : Int32)) hx hb dX6_unite_14 (by decide) ?_
  refine lv_iload hx hb dX6_unite_17 (lv_at hl 0 rfl) ?_
  refine lv_ishr hx hb dX6_unite_19 ?_
  refine lv_istore (lv' := [(5, .int ((4096 : Int32) >>> (r_6 &&& 31))), (4, .int r_6), (0, .ref (q 14)), (1, .ref (q (47 + a1))), (2, .ref (q (47 + a2))), (3, .ref (q (47 + a3)))]) hx hb dX6_unite_20 hl (by decide) rfl (fun ls hl => ?_)
  refine lv_iconst (v := (0 : Int32)) hx hb dX6_unite_22 (by decide) ?_
  refine lv_istore (lv' := [(6, .int (0 : Int32)), (5, .int ((4096 : Int32) >>> (r_6 &&& 31))), (4, .int r_6), (0, .ref (q 14)), (1, .ref (q (47 + a1))), (2, .ref (q (47 + a2))), (3, .ref (q (47 + a3)))]) hx hb dX6_unite_23 hl (by decide) rfl (fun ls hl => ?_)
  refine D6w_unite_25 fx sx hR hf a1 ha1 a2 ha2 a3 ha3 r_6 ((4096 : Int32) >>> (r_6 &&& 31)) fuel (0 : Int32) τ hm _ _ _ hC (lv_sub hl [3, 4, 5, 6, 2, 1, 0] rfl) (fun τ_36 H locs ls hm hC hl => ?_)
  refine lv_aload_n hx hb dX6_unite_94 rfl (lv_at hl 0 rfl) ?_
  refine D6g_0 fx hC k_68 dX6_unite_95 ?_
  refine lv_iload hx hb dX6_unite_98 (lv_at hl 3 rfl) ?_
  refine lv_iconst (v := (1 : Int32)) hx hb dX6_unite_100 (by decide) ?_
  obtain ⟨τ_38, e_37, hm⟩ := b1_in hm
  refine d_callSv (As := [.ref (q 15), .int ((4096 : Int32) >>> (r_6 &&& 31)), .int (1 : Int32)]) (rest := []) fx sx hC dw_w (D6c_addWithin l τ_36 15 4096 Ka15 ((4096 : Int32) >>> (r_6 &&& 31)) (1 : Int32) e_37) k_507 D6k_addWithin D6h_addWithin ⟨rfl, rfl⟩ ⟨Nat.le_trans (Nat.le_of_ble_eq_true rfl) hR.1, Nat.le_trans (Nat.le_of_ble_eq_true rfl) hR.2⟩ hf rfl hl.1 rfl (Nat.le_of_ble_eq_true rfl) dX6_unite_101 (fun H locs hC => ?_)
  refine lv_aload_n hx hb dX6_unite_104 rfl (lv_at hl 0 rfl) ?_
  refine D6g_1 fx hC k_69 dX6_unite_105 ?_
  refine lv_iload hx hb dX6_unite_108 (lv_at hl 3 rfl) ?_
  refine lv_iconst (v := (1 : Int32)) hx hb dX6_unite_110 (by decide) ?_
  obtain ⟨τ_40, e_39, hm⟩ := b1_in hm
  refine d_callSv (As := [.ref (q 16), .int ((4096 : Int32) >>> (r_6 &&& 31)), .int (1 : Int32)]) (rest := []) fx sx hC dw_w (D6c_addWithin l τ_38 16 4096 Ka16 ((4096 : Int32) >>> (r_6 &&& 31)) (1 : Int32) e_39) k_507 D6k_addWithin D6h_addWithin ⟨rfl, rfl⟩ ⟨Nat.le_trans (Nat.le_of_ble_eq_true rfl) hR.1, Nat.le_trans (Nat.le_of_ble_eq_true rfl) hR.2⟩ hf rfl hl.1 rfl (Nat.le_of_ble_eq_true rfl) dX6_unite_111 (fun H locs hC => ?_)
  refine lv_iconst (v := (0 : Int32)) hx hb dX6_unite_114 (by decide) ?_
  refine lv_istore (lv' := [(6, .int (0 : Int32)), (0, .ref (q 14)), (1, .ref (q (47 + a1))), (4, .int r_6), (5, .int ((4096 : Int32) >>> (r_6 &&& 31)))]) hx hb dX6_unite_115 hl (by decide) rfl (fun ls hl => ?_)
  refine D6w_unite_117 fx sx hR hf a1 ha1 r_6 ((4096 : Int32) >>> (r_6 &&& 31)) fuel (0 : Int32) τ_40 hm _ _ _ hC (lv_sub hl [1, 2, 3, 4, 0] rfl) (fun τ_48 H locs ls hm hC hl => ?_)
  refine lv_aload_n hx hb dX6_unite_155 rfl (lv_at hl 0 rfl) ?_
  refine D6g_0 fx hC k_68 dX6_unite_156 ?_
  refine lv_iload hx hb dX6_unite_159 (lv_at hl 3 rfl) ?_
  refine lv_iconst (v := (-1 : Int32)) hx hb dX6_unite_161 (by decide) ?_
  obtain ⟨τ_50, e_49, hm⟩ := b1_in hm
  refine d_callSv (As := [.ref (q 15), .int ((4096 : Int32) >>> (r_6 &&& 31)), .int (-1 : Int32)]) (rest := []) fx sx hC dw_w (D6c_addWithin l τ_48 15 4096 Ka15 ((4096 : Int32) >>> (r_6 &&& 31)) (-1 : Int32) e_49) k_507 D6k_addWithin D6h_addWithin ⟨rfl, rfl⟩ ⟨Nat.le_trans (Nat.le_of_ble_eq_true rfl) hR.1, Nat.le_trans (Nat.le_of_ble_eq_true rfl) hR.2⟩ hf rfl hl.1 rfl (Nat.le_of_ble_eq_true rfl) dX6_unite_162 (fun H locs hC => ?_)
  refine lv_aload_n hx hb dX6_unite_165 rfl (lv_at hl 1 rfl) ?_
  refine lv_iconst (v := (0 : Int32)) hx hb dX6_unite_166 (by decide) ?_
  obtain ⟨τ_52, e_51, hm⟩ := b1_in hm
  refine d_callVv (ci := 7) (As := [.int (0 : Int32)]) (rest := []) fx sx hC dw_w (D7c_clear l a1 ha1 τ_50 (0 : Int32) e_51) k_510 D7k_clear D7h_clear rfl rfl (O_at (K7 ha1)) ⟨rfl, rfl⟩ ⟨Nat.le_trans (Nat.le_of_ble_eq_true rfl) hR.1, Nat.le_trans (Nat.le_of_ble_eq_true rfl) hR.2⟩ hf rfl hl.1 rfl (Nat.le_of_ble_eq_true rfl) dX6_unite_167 (fun H locs hC => ?_)
  refine lv_iconst (v := (0 : Int32)) hx hb dX6_unite_170 (by decide) ?_
  refine lv_istore (lv' := [(6, .int (0 : Int32)), (0, .ref (q 14)), (1, .ref (q (47 + a1))), (4, .int r_6), (5, .int ((4096 : Int32) >>> (r_6 &&& 31)))]) hx hb dX6_unite_171 hl (by decide) rfl (fun ls hl => ?_)
  refine D6w_unite_173 fx sx hR hf a1 ha1 r_6 ((4096 : Int32) >>> (r_6 &&& 31)) fuel (0 : Int32) τ_52 hm _ _ _ hC (lv_sub hl [1, 2, 3, 4, 0] rfl) (fun τ_59 H locs ls hm hC hl => ?_)
  cases hm
  exact g_vret fx hr hC rfl dX6_unite_215
def D6s_chanceOf_20 {ρ : Type} (p1 : Nat) (p3 : Int32) (p4 : Int32) (p5 : Int32) (p6 : Int32) (kx65 : DS → Option ρ) (rc : Int32 → DS → Option ρ) (v7 : Int32) (τ : DS) : Option ρ :=
  if p6 ≤ v7 then (kx65  τ) else (if (4096 : Int32) ≤ v7 then (kx65  τ) else (b1 (D7m_holds p1 τ (v7 <<< (p5 &&& 31))) (fun r_5 => if r_5 = (0 : Int32) then (gi v7 4096 (nm (dJ τ 15 (v7).toNatClampNeg (0 : Int64)) (fun τ_8 => rc (v7 + (1 : Int32)) τ_8))) else (gi v7 4096 (nm (dJ τ 15 (v7).toNatClampNeg (1 : Int64)) (fun τ_11 => rc (v7 + (1 : Int32)) τ_11))))))
def D6s_chanceOf_106 {ρ : Type} (p3 : Int32) (p4 : Int32) (p5 : Int32) (p6 : Int32) (p7 : Int32) (p8 : Int32) (kx166 : DS → Option ρ) (rc : Int32 → DS → Option ρ) (v9 : Int32) (τ : DS) : Option ρ :=
  if p6 ≤ v9 then (kx166  τ) else (if (2048 : Int32) ≤ v9 then (kx166  τ) else (gi ((2 : Int32) * v9) 4096 (gi (((2 : Int32) * v9) + (1 : Int32)) 4096 (gi v9 4096 (nm (dJ τ 15 (v9).toNatClampNeg (((τ.2.2 15 (((2 : Int32) * v9)).toNatClampNeg) * ((8 : Int32) - p8).toInt64) + ((τ.2.2 15 ((((2 : Int32) * v9) + (1 : Int32))).toNatClampNeg) * p8.toInt64))) (fun τ_23 => rc (v9 + (1 : Int32)) τ_23))))))
def D6s_chanceOf_73 {ρ : Type} (p3 : Int32) (p4 : Int32) (p5 : Int32) (kx172 : DS → Option ρ) (rc : Int32 → Int32 → DS → Option ρ) (v6 : Int32) (v7 : Int32) (τ : DS) : Option ρ :=
  if v7 < (0 : Int32) then (kx172  τ) else (if v7 = p3 then (it2 (D6s_chanceOf_106 p3 p4 p5 (v6 / (2 : Int32)) v7 p4 (fun τ_26 => rc (v6 / (2 : Int32)) (v7 + (-1 : Int32)) τ_26)) fuel (0 : Int32) τ) else (b1 (D2m_eighthsOf τ v7) (fun r_17 => it2 (D6s_chanceOf_106 p3 p4 p5 (v6 / (2 : Int32)) v7 r_17 (fun τ_25 => rc (v6 / (2 : Int32)) (v7 + (-1 : Int32)) τ_25)) fuel (0 : Int32) τ)))
def D6m_chanceOf (τ : DS) (a1 : Nat) (a3 : Int32) (a4 : Int32) : Option (Int64 × DS) :=
  nm ((4096 : Int32) >>> (((12 : Int32) - (τ.1 1 1)) &&& 31)) (fun x_1 => it2 (D6s_chanceOf_20 a1 a3 a4 ((12 : Int32) - (τ.1 1 1)) x_1 (fun τ_13 => it3 (D6s_chanceOf_73 a3 a4 ((12 : Int32) - (τ.1 1 1)) (fun τ_27 => gi (0 : Int32) 4096 (some (((τ_27.2.2 15 ((0 : Int32)).toNatClampNeg) <<< ((((3 : Int32) * ((12 : Int32) - (τ.1 1 1)))).toInt64 &&& 63)), τ_27)))) fuel x_1 ((τ_13.1 1 1) - (1 : Int32)) τ_13)) fuel (0 : Int32) τ)
abbrev D6rm_chanceOf : Room := { frames := 2, cells := 0, slots := 0, locals := 42 }
set_option maxRecDepth 100000 in
set_option maxHeartbeats 4000000 in
theorem D6w_chanceOf_20 {ρ : Type} {out : ρ} {p : Program} {l : Launch} {e : Env} {R : Room} {s : State} {m : MethodId} {args : Array Value} {below : List Frame} {meth : Method} {c : Code} {cells slots : Nat} {Q : State → Prop} {D : va_G} {cy : Nat → ClassId} {ad : List Nat} {q : Nat → Nat} {X : va_W} (fx : FX p s m args meth c cX6_chanceOf 10 RX6 D cy) (sx : SX ad s) (hR : 2 ≤ R.frames ∧ 42 ≤ R.locals) (hf : cells ≤ R.cells ∧ slots ≤ R.slots) (p1 : Nat) (hp1 : p1 < 32) (p3 : Int32) (p4 : Int32) (p5 : Int32) (p6 : Int32) {kx65 : DS → Option ρ} :
    ∀ (n : Nat) (v7 : Int32) (τ : DS), it2 (D6s_chanceOf_20 p1 p3 p4 p5 p6 kx65) n v7 τ = some out → ∀ (H : Heap) (locs : List Loc) (ls : Array Slot), GC D (dwd cy q X) ad s τ H locs → lv_has ls 10 [(0, .ref (q 14)), (1, .ref (q (47 + p1))), (2, .ref (q 1)), (3, .int p3), (4, .int p4), (5, .int p5), (6, .int p6), (7, .int v7)] → (∀ (τ2 : DS) (H : Heap) (locs : List Loc) (ls : Array Slot), kx65 τ2 = some out → GC D (dwd cy q X) ad s τ2 H locs → lv_has ls 10 [(0, .ref (q 14)), (2, .ref (q 1)), (3, .int p3), (4, .int p4), (5, .int p5), (6, .int p6)] → W p l e R s m args below meth c H locs cells slots Q (F0 m 65 ls [])) → W p l e R s m args below meth c H locs cells slots Q (F0 m 20 ls []) := by
  have hx := fx.1
  have hb := fx.2.1
  intro n
  induction n with
  | zero => intro v7 τ hm; exact (it2_z hm).elim
  | succ n ih9 =>
    intro v7 τ hm H locs ls hC hl hx65
    obtain ⟨rc, hrc⟩ : ∃ z, z = it2 (D6s_chanceOf_20 p1 p3 p4 p5 p6 kx65) n := ⟨_, rfl⟩
    replace hm : D6s_chanceOf_20 p1 p3 p4 p5 p6 kx65 rc v7 τ = some out := by rw [hrc]; exact hm
    unfold D6s_chanceOf_20 at hm
    refine lv_iload hx hb dX6_chanceOf_20 (lv_at hl 7 rfl) ?_
    refine lv_iload hx hb dX6_chanceOf_22 (lv_at hl 6 rfl) ?_
    refine lv_icmp_ge (tgt := 65) hx hb dX6_chanceOf_24 (by decide) (fun c_2 => ?_) (fun c_2 => ?_)
    · replace hm := ifp hm c_2
      exact hx65 _ _ _ _ hm hC (lv_sub hl [0, 2, 3, 4, 5, 6] rfl)
    · replace hm := ifn hm c_2
      refine lv_iload hx hb dX6_chanceOf_27 (lv_at hl 7 rfl) ?_
      refine lv_sipush (v := (4096 : Int32)) hx hb dX6_chanceOf_29 (by decide) ?_
      refine lv_icmp_ge (tgt := 65) hx hb dX6_chanceOf_32 (by decide) (fun c_3 => ?_) (fun c_3 => ?_)
      · replace hm := ifp hm c_3
        exact hx65 _ _ _ _ hm hC (lv_sub hl [0, 2, 3, 4, 5, 6] rfl)
      · replace hm := ifn hm c_3
        refine lv_aload_n hx hb dX6_chanceOf_35 rfl (lv_at hl 0 rfl) ?_
        refine D6g_0 fx hC k_68 dX6_chanceOf_36 ?_
        refine lv_iload hx hb dX6_chanceOf_39 (lv_at hl 7 rfl) ?_
        refine lv_aload_n hx hb dX6_chanceOf_41 rfl (lv_at hl 1 rfl) ?_
        refine lv_iload hx hb dX6_chanceOf_42 (lv_at hl 7 rfl) ?_
        refine lv_iload hx hb dX6_chanceOf_44 (lv_at hl 5 rfl) ?_
        refine lv_ishl hx hb dX6_chanceOf_46 ?_
        obtain ⟨r_5, e_4, hm⟩ := b1_in hm
        refine d_callVi (ci := 7) (As := [.int (v7 <<< (p5 &&& 31))]) (rest := [.int v7, .ref (q 15)]) fx sx hC dw_w (D7c_holds l p1 hp1 τ (v7 <<< (p5 &&& 31)) e_4) k_503 D7k_holds D7h_holds rfl rfl (O_at (K7 hp1)) ⟨rfl, rfl⟩ ⟨Nat.le_trans (Nat.le_of_ble_eq_true rfl) hR.1, Nat.le_trans (Nat.le_of_ble_eq_true rfl) hR.2⟩ hf rfl hl.1 rfl (Nat.le_of_ble_eq_true rfl) dX6_chanceOf_47 (fun H locs hC => ?_)
        refine lv_if_eq (tgt := 57) hx hb dX6_chanceOf_50 (by decide) (fun c_6 => ?_) (fun c_6 => ?_)
        · replace hm := ifp hm c_6
          refine lv_lconst (v := (0 : Int64)) hx hb dX6_chanceOf_57 (by decide) ?_
          have h_7 := (gi_in hm).1
          replace hm := (gi_in hm).2
          refine DSj fx hC Ka15 h_7 dX6_chanceOf_58 (fun H locs hC => ?_)
          obtain ⟨τ_8, e_9⟩ : ∃ z, z = (dJ τ 15 (v7).toNatClampNeg (0 : Int64)) := ⟨_, rfl⟩
          rw [← e_9] at hC
          replace hm := nm_in hm e_9
          refine lv_iinc (v := (v7 + (1 : Int32))) (lv' := [(7, .int (v7 + (1 : Int32))), (0, .ref (q 14)), (1, .ref (q (47 + p1))), (2, .ref (q 1)), (3, .int p3), (4, .int p4), (5, .int p5), (6, .int p6)]) hx hb dX6_chanceOf_59 hl (k := 7) rfl rfl (by decide) rfl (fun ls hl => ?_)
          refine lv_goto (tgt := 20) hx hb dX6_chanceOf_62 (by decide) ?_
          rw [hrc] at hm
          exact ih9 _ _ hm _ _ _ hC (lv_sub hl [1, 2, 3, 4, 5, 6, 7, 0] rfl) hx65
        · replace hm := ifn hm c_6
          refine lv_lconst (v := (1 : Int64)) hx hb dX6_chanceOf_53 (by decide) ?_
          refine lv_goto (tgt := 58) hx hb dX6_chanceOf_54 (by decide) ?_
          have h_10 := (gi_in hm).1
          replace hm := (gi_in hm).2
          refine DSj fx hC Ka15 h_10 dX6_chanceOf_58 (fun H locs hC => ?_)
          obtain ⟨τ_11, e_12⟩ : ∃ z, z = (dJ τ 15 (v7).toNatClampNeg (1 : Int64)) := ⟨_, rfl⟩
          rw [← e_12] at hC
          replace hm := nm_in hm e_12
          refine lv_iinc (v := (v7 + (1 : Int32))) (lv' := [(7, .int (v7 + (1 : Int32))), (0, .ref (q 14)), (1, .ref (q (47 + p1))), (2, .ref (q 1)), (3, .int p3), (4, .int p4), (5, .int p5), (6, .int p6)]) hx hb dX6_chanceOf_59 hl (k := 7) rfl rfl (by decide) rfl (fun ls hl => ?_)
          refine lv_goto (tgt := 20) hx hb dX6_chanceOf_62 (by decide) ?_
          rw [hrc] at hm
          exact ih9 _ _ hm _ _ _ hC (lv_sub hl [1, 2, 3, 4, 5, 6, 7, 0] rfl) hx65
set_option maxRecDepth 100000 in
set_option maxHeartbeats 4000000 in
theorem D6w_chanceOf_106 {ρ : Type} {out : ρ} {p : Program} {l : Launch} {e : Env} {R : Room} {s : State} {m : MethodId} {args : Array Value} {below : List Frame} {meth : Method} {c : Code} {cells slots : Nat} {Q : State → Prop} {D : va_G} {cy : Nat → ClassId} {ad : List Nat} {q : Nat → Nat} {X : va_W} (fx : FX p s m args meth c cX6_chanceOf 10 RX6 D cy) (sx : SX ad s) (hR : 2 ≤ R.frames ∧ 42 ≤ R.locals) (hf : cells ≤ R.cells ∧ slots ≤ R.slots) (p3 : Int32) (p4 : Int32) (p5 : Int32) (p6 : Int32) (p7 : Int32) (p8 : Int32) {kx166 : DS → Option ρ} :
    ∀ (n : Nat) (v9 : Int32) (τ : DS), it2 (D6s_chanceOf_106 p3 p4 p5 p6 p7 p8 kx166) n v9 τ = some out → ∀ (H : Heap) (locs : List Loc) (ls : Array Slot), GC D (dwd cy q X) ad s τ H locs → lv_has ls 10 [(0, .ref (q 14)), (2, .ref (q 1)), (3, .int p3), (4, .int p4), (5, .int p5), (6, .int p6), (7, .int p7), (8, .int p8), (9, .int v9)] → (∀ (τ2 : DS) (H : Heap) (locs : List Loc) (ls : Array Slot), kx166 τ2 = some out → GC D (dwd cy q X) ad s τ2 H locs → lv_has ls 10 [(0, .ref (q 14)), (2, .ref (q 1)), (3, .int p3), (4, .int p4), (5, .int p5), (6, .int p6), (7, .int p7)] → W p l e R s m args below meth c H locs cells slots Q (F0 m 166 ls [])) → W p l e R s m args below meth c H locs cells slots Q (F0 m 106 ls []) := by
  have hx := fx.1
  have hb := fx.2.1
  intro n
  induction n with
  | zero => intro v9 τ hm; exact (it2_z hm).elim
  | succ n ih9 =>
    intro v9 τ hm H locs ls hC hl hx166
    obtain ⟨rc, hrc⟩ : ∃ z, z = it2 (D6s_chanceOf_106 p3 p4 p5 p6 p7 p8 kx166) n := ⟨_, rfl⟩
    replace hm : D6s_chanceOf_106 p3 p4 p5 p6 p7 p8 kx166 rc v9 τ = some out := by rw [hrc]; exact hm
    unfold D6s_chanceOf_106 at hm
    refine lv_iload hx hb dX6_chanceOf_106 (lv_at hl 8 rfl) ?_
    refine lv_iload hx hb dX6_chanceOf_108 (lv_at hl 5 rfl) ?_
    refine lv_icmp_ge (tgt := 166) hx hb dX6_chanceOf_110 (by decide) (fun c_18 => ?_) (fun c_18 => ?_)
    · replace hm := ifp hm c_18
      exact hx166 _ _ _ _ hm hC (lv_sub hl [0, 1, 2, 3, 4, 5, 6] rfl)
    · replace hm := ifn hm c_18
      refine lv_iload hx hb dX6_chanceOf_113 (lv_at hl 8 rfl) ?_
      refine lv_sipush (v := (2048 : Int32)) hx hb dX6_chanceOf_115 (by decide) ?_
      refine lv_icmp_ge (tgt := 166) hx hb dX6_chanceOf_118 (by decide) (fun c_19 => ?_) (fun c_19 => ?_)
      · replace hm := ifp hm c_19
        exact hx166 _ _ _ _ hm hC (lv_sub hl [0, 1, 2, 3, 4, 5, 6] rfl)
      · replace hm := ifn hm c_19
        refine lv_aload_n hx hb dX6_chanceOf_121 rfl (lv_at hl 0 rfl) ?_
        refine D6g_0 fx hC k_68 dX6_chanceOf_122 ?_
        refine lv_iload hx hb dX6_chanceOf_125 (lv_at hl 8 rfl) ?_
        refine lv_aload_n hx hb dX6_chanceOf_127 rfl (lv_at hl 0 rfl) ?_
        refine D6g_0 fx hC k_68 dX6_chanceOf_128 ?_
        refine lv_iconst (v := (2 : Int32)) hx hb dX6_chanceOf_131 (by decide) ?_
        refine lv_iload hx hb dX6_chanceOf_132 (lv_at hl 8 rfl) ?_
        refine lv_imul hx hb dX6_chanceOf_134 ?_
        have h_20 := (gi_in hm).1
        replace hm := (gi_in hm).2
        refine DLj fx hC Ka15 h_20 dX6_chanceOf_135 ?_
        refine lv_bipush (v := (8 : Int32)) hx hb dX6_chanceOf_136 (by decide) ?_
        refine lv_iload hx hb dX6_chanceOf_138 (lv_at hl 7 rfl) ?_
        refine lv_isub hx hb dX6_chanceOf_140 ?_
        refine lv_i2l hx hb dX6_chanceOf_141 rfl ?_
        refine lv_lmul hx hb dX6_chanceOf_142 ?_
        refine lv_aload_n hx hb dX6_chanceOf_143 rfl (lv_at hl 0 rfl) ?_
        refine D6g_0 fx hC k_68 dX6_chanceOf_144 ?_
        refine lv_iconst (v := (2 : Int32)) hx hb dX6_chanceOf_147 (by decide) ?_
        refine lv_iload hx hb dX6_chanceOf_148 (lv_at hl 8 rfl) ?_
        refine lv_imul hx hb dX6_chanceOf_150 ?_
        refine lv_iconst (v := (1 : Int32)) hx hb dX6_chanceOf_151 (by decide) ?_
        refine lv_iadd hx hb dX6_chanceOf_152 ?_
        have h_21 := (gi_in hm).1
        replace hm := (gi_in hm).2
        refine DLj fx hC Ka15 h_21 dX6_chanceOf_153 ?_
        refine lv_iload hx hb dX6_chanceOf_154 (lv_at hl 7 rfl) ?_
        refine lv_i2l hx hb dX6_chanceOf_156 rfl ?_
        refine lv_lmul hx hb dX6_chanceOf_157 ?_
        refine lv_ladd hx hb dX6_chanceOf_158 ?_
        have h_22 := (gi_in hm).1
        replace hm := (gi_in hm).2
        refine DSj fx hC Ka15 h_22 dX6_chanceOf_159 (fun H locs hC => ?_)
        obtain ⟨τ_23, e_24⟩ : ∃ z, z = (dJ τ 15 (v9).toNatClampNeg (((τ.2.2 15 (((2 : Int32) * v9)).toNatClampNeg) * ((8 : Int32) - p8).toInt64) + ((τ.2.2 15 ((((2 : Int32) * v9) + (1 : Int32))).toNatClampNeg) * p8.toInt64))) := ⟨_, rfl⟩
        rw [← e_24] at hC
        replace hm := nm_in hm e_24
        refine lv_iinc (v := (v9 + (1 : Int32))) (lv' := [(9, .int (v9 + (1 : Int32))), (0, .ref (q 14)), (2, .ref (q 1)), (3, .int p3), (4, .int p4), (5, .int p5), (6, .int p6), (7, .int p7), (8, .int p8)]) hx hb dX6_chanceOf_160 hl (k := 8) rfl rfl (by decide) rfl (fun ls hl => ?_)
        refine lv_goto (tgt := 106) hx hb dX6_chanceOf_163 (by decide) ?_
        rw [hrc] at hm
        exact ih9 _ _ hm _ _ _ hC (lv_sub hl [1, 2, 3, 4, 5, 6, 7, 8, 0] rfl) hx166
set_option maxRecDepth 100000 in
set_option maxHeartbeats 4000000 in
theorem D6w_chanceOf_73 {ρ : Type} {out : ρ} {p : Program} {l : Launch} {e : Env} {R : Room} {s : State} {m : MethodId} {args : Array Value} {below : List Frame} {meth : Method} {c : Code} {cells slots : Nat} {Q : State → Prop} {D : va_G} {cy : Nat → ClassId} {ad : List Nat} {q : Nat → Nat} {X : va_W} (fx : FX p s m args meth c cX6_chanceOf 10 RX6 D cy) (sx : SX ad s) (hR : 2 ≤ R.frames ∧ 42 ≤ R.locals) (hf : cells ≤ R.cells ∧ slots ≤ R.slots) (p3 : Int32) (p4 : Int32) (p5 : Int32) {kx172 : DS → Option ρ} :
    ∀ (n : Nat) (v6 : Int32) (v7 : Int32) (τ : DS), it3 (D6s_chanceOf_73 p3 p4 p5 kx172) n v6 v7 τ = some out → ∀ (H : Heap) (locs : List Loc) (ls : Array Slot), GC D (dwd cy q X) ad s τ H locs → lv_has ls 10 [(0, .ref (q 14)), (2, .ref (q 1)), (3, .int p3), (4, .int p4), (5, .int p5), (6, .int v6), (7, .int v7)] → (∀ (τ2 : DS) (H : Heap) (locs : List Loc) (ls : Array Slot), kx172 τ2 = some out → GC D (dwd cy q X) ad s τ2 H locs → lv_has ls 10 [(0, .ref (q 14)), (5, .int p5)] → W p l e R s m args below meth c H locs cells slots Q (F0 m 172 ls [])) → W p l e R s m args below meth c H locs cells slots Q (F0 m 73 ls []) := by
  have hx := fx.1
  have hb := fx.2.1
  intro n
  induction n with
  | zero => intro v6 v7 τ hm; exact (it3_z hm).elim
  | succ n ih9 =>
    intro v6 v7 τ hm H locs ls hC hl hx172
    obtain ⟨rc, hrc⟩ : ∃ z, z = it3 (D6s_chanceOf_73 p3 p4 p5 kx172) n := ⟨_, rfl⟩
    replace hm : D6s_chanceOf_73 p3 p4 p5 kx172 rc v6 v7 τ = some out := by rw [hrc]; exact hm
    unfold D6s_chanceOf_73 at hm
    refine lv_iload hx hb dX6_chanceOf_73 (lv_at hl 6 rfl) ?_
    refine lv_if_lt (tgt := 172) hx hb dX6_chanceOf_75 (by decide) (fun c_14 => ?_) (fun c_14 => ?_)
    · replace hm := ifp hm c_14
      exact hx172 _ _ _ _ hm hC (lv_sub hl [0, 4] rfl)
    · replace hm := ifn hm c_14
      refine lv_iload hx hb dX6_chanceOf_78 (lv_at hl 6 rfl) ?_
      refine lv_iload_n hx hb dX6_chanceOf_80 rfl (lv_at hl 2 rfl) ?_
      refine lv_icmp_ne (tgt := 89) hx hb dX6_chanceOf_81 (by decide) (fun c_15 => ?_) (fun c_15 => ?_)
      · replace hm := ifn hm c_15
        refine lv_aload_n hx hb dX6_chanceOf_89 rfl (lv_at hl 1 rfl) ?_
        refine lv_iload hx hb dX6_chanceOf_90 (lv_at hl 6 rfl) ?_
        obtain ⟨r_17, e_16, hm⟩ := b1_in hm
        refine d_callVi (ci := 2) (As := [.int v7]) (rest := []) fx sx hC dw_w (D2c_eighthsOf l τ v7 e_16) k_869 D2k_eighthsOf D2h_eighthsOf rfl rfl (O_at O2) ⟨rfl, rfl⟩ ⟨Nat.le_trans (Nat.le_of_ble_eq_true rfl) hR.1, Nat.le_trans (Nat.le_of_ble_eq_true rfl) hR.2⟩ hf rfl hl.1 rfl (Nat.le_of_ble_eq_true rfl) dX6_chanceOf_92 (fun H locs hC => ?_)
        refine lv_istore (lv' := [(8, .int r_17), (0, .ref (q 14)), (2, .ref (q 1)), (3, .int p3), (4, .int p4), (5, .int p5), (6, .int v6), (7, .int v7)]) hx hb dX6_chanceOf_95 hl (by decide) rfl (fun ls hl => ?_)
        refine lv_iload hx hb dX6_chanceOf_97 (lv_at hl 6 rfl) ?_
        refine lv_iconst (v := (2 : Int32)) hx hb dX6_chanceOf_99 (by decide) ?_
        refine lv_idiv hx hb dX6_chanceOf_100 (by decide) ?_
        refine lv_istore (lv' := [(6, .int (v6 / (2 : Int32))), (8, .int r_17), (0, .ref (q 14)), (2, .ref (q 1)), (3, .int p3), (4, .int p4), (5, .int p5), (7, .int v7)]) hx hb dX6_chanceOf_101 hl (by decide) rfl (fun ls hl => ?_)
        refine lv_iconst (v := (0 : Int32)) hx hb dX6_chanceOf_103 (by decide) ?_
        refine lv_istore (lv' := [(9, .int (0 : Int32)), (6, .int (v6 / (2 : Int32))), (8, .int r_17), (0, .ref (q 14)), (2, .ref (q 1)), (3, .int p3), (4, .int p4), (5, .int p5), (7, .int v7)]) hx hb dX6_chanceOf_104 hl (by decide) rfl (fun ls hl => ?_)
        refine D6w_chanceOf_106 fx sx hR hf p3 p4 p5 (v6 / (2 : Int32)) v7 r_17 fuel (0 : Int32) τ hm _ _ _ hC (lv_sub hl [3, 4, 5, 6, 7, 1, 8, 2, 0] rfl) (fun τ_25 H locs ls hm hC hl => ?_)
        refine lv_iinc (v := (v7 + (-1 : Int32))) (lv' := [(7, .int (v7 + (-1 : Int32))), (0, .ref (q 14)), (2, .ref (q 1)), (3, .int p3), (4, .int p4), (5, .int p5), (6, .int (v6 / (2 : Int32)))]) hx hb dX6_chanceOf_166 hl (k := 6) rfl rfl (by decide) rfl (fun ls hl => ?_)
        refine lv_goto (tgt := 73) hx hb dX6_chanceOf_169 (by decide) ?_
        rw [hrc] at hm
        exact ih9 _ _ _ hm _ _ _ hC (lv_sub hl [1, 2, 3, 4, 5, 6, 0] rfl) hx172
      · replace hm := ifp hm c_15
        refine lv_iload hx hb dX6_chanceOf_84 (lv_at hl 3 rfl) ?_
        refine lv_goto (tgt := 95) hx hb dX6_chanceOf_86 (by decide) ?_
        refine lv_istore (lv' := [(8, .int p4), (0, .ref (q 14)), (2, .ref (q 1)), (3, .int p3), (4, .int p4), (5, .int p5), (6, .int v6), (7, .int v7)]) hx hb dX6_chanceOf_95 hl (by decide) rfl (fun ls hl => ?_)
        refine lv_iload hx hb dX6_chanceOf_97 (lv_at hl 6 rfl) ?_
        refine lv_iconst (v := (2 : Int32)) hx hb dX6_chanceOf_99 (by decide) ?_
        refine lv_idiv hx hb dX6_chanceOf_100 (by decide) ?_
        refine lv_istore (lv' := [(6, .int (v6 / (2 : Int32))), (8, .int p4), (0, .ref (q 14)), (2, .ref (q 1)), (3, .int p3), (4, .int p4), (5, .int p5), (7, .int v7)]) hx hb dX6_chanceOf_101 hl (by decide) rfl (fun ls hl => ?_)
        refine lv_iconst (v := (0 : Int32)) hx hb dX6_chanceOf_103 (by decide) ?_
        refine lv_istore (lv' := [(9, .int (0 : Int32)), (6, .int (v6 / (2 : Int32))), (8, .int p4), (0, .ref (q 14)), (2, .ref (q 1)), (3, .int p3), (4, .int p4), (5, .int p5), (7, .int v7)]) hx hb dX6_chanceOf_104 hl (by decide) rfl (fun ls hl => ?_)
        refine D6w_chanceOf_106 fx sx hR hf p3 p4 p5 (v6 / (2 : Int32)) v7 p4 fuel (0 : Int32) τ hm _ _ _ hC (lv_sub hl [3, 4, 5, 6, 7, 1, 8, 2, 0] rfl) (fun τ_26 H locs ls hm hC hl => ?_)
        refine lv_iinc (v := (v7 + (-1 : Int32))) (lv' := [(7, .int (v7 + (-1 : Int32))), (0, .ref (q 14)), (2, .ref (q 1)), (3, .int p3), (4, .int p4), (5, .int p5), (6, .int (v6 / (2 : Int32)))]) hx hb dX6_chanceOf_166 hl (k := 6) rfl rfl (by decide) rfl (fun ls hl => ?_)
        refine lv_goto (tgt := 73) hx hb dX6_chanceOf_169 (by decide) ?_
        rw [hrc] at hm
        exact ih9 _ _ _ hm _ _ _ hC (lv_sub hl [1, 2, 3, 4, 5, 6, 0] rfl) hx172
set_option maxRecDepth 100000 in
set_option maxHeartbeats 4000000 in
theorem D6c_chanceOf (l : Launch) {D : va_G} {cy : Nat → ClassId} {ad : List Nat} {q : Nat → Nat} {X : va_W} (τ : DS) (a1 : Nat) (ha1 : a1 < 32) (a3 : Int32) (a4 : Int32) {o : Int64 × DS} (hm : D6m_chanceOf τ a1 a3 a4 = some o) : DM l yX6_chanceOf cX6_chanceOf 10 (some .long) D6rm_chanceOf D cy (dwd cy q X) ad [.ref (q 14), .ref (q (47 + a1)), .ref (q 1), .int a3, .int a4] τ (some (.long (o.1))) o.2 := by
  refine d_start RX6 rfl (by decide) (Nat.le_of_ble_eq_true rfl) ?_
  intro p e s m args below meth c fx sx hr hC ls hl
  have hx := fx.1
  have hb := fx.2.1
  have hR : 2 ≤ (D6rm_chanceOf).frames ∧ 42 ≤ (D6rm_chanceOf).locals := ⟨Nat.le_refl _, Nat.le_refl _⟩
  have hf : 0 ≤ (D6rm_chanceOf).cells ∧ 0 ≤ (D6rm_chanceOf).slots := ⟨Nat.zero_le _, Nat.zero_le _⟩
  have hl : lv_has ls 10 [(0, .ref (q 14)), (1, .ref (q (47 + a1))), (2, .ref (q 1)), (3, .int a3), (4, .int a4)] := hl
  unfold D6m_chanceOf at hm
  refine lv_bipush (v := (12 : Int32)) hx hb dX6_chanceOf_0 (by decide) ?_
  refine lv_aload_n hx hb dX6_chanceOf_2 rfl (lv_at hl 2 rfl) ?_
  refine D2g_1 fx hC k_868 dX6_chanceOf_3 ?_
  refine lv_isub hx hb dX6_chanceOf_6 ?_
  refine lv_istore (lv' := [(5, .int ((12 : Int32) - (τ.1 1 1))), (0, .ref (q 14)), (1, .ref (q (47 + a1))), (2, .ref (q 1)), (3, .int a3), (4, .int a4)]) hx hb dX6_chanceOf_7 hl (by decide) rfl (fun ls hl => ?_)
  refine lv_sipush (v := (4096 : Int32)) hx hb dX6_chanceOf_9 (by decide) ?_
  refine lv_iload hx hb dX6_chanceOf_12 (lv_at hl 0 rfl) ?_
  refine lv_ishr hx hb dX6_chanceOf_14 ?_
  refine lv_topi (fun x_1 ex_1 => ?_)
  replace hm := nm_in hm ex_1
  refine lv_istore (lv' := [(6, .int x_1), (5, .int ((12 : Int32) - (τ.1 1 1))), (0, .ref (q 14)), (1, .ref (q (47 + a1))), (2, .ref (q 1)), (3, .int a3), (4, .int a4)]) hx hb dX6_chanceOf_15 hl (by decide) rfl (fun ls hl => ?_)
  refine lv_iconst (v := (0 : Int32)) hx hb dX6_chanceOf_17 (by decide) ?_
  refine lv_istore (lv' := [(7, .int (0 : Int32)), (6, .int x_1), (5, .int ((12 : Int32) - (τ.1 1 1))), (0, .ref (q 14)), (1, .ref (q (47 + a1))), (2, .ref (q 1)), (3, .int a3), (4, .int a4)]) hx hb dX6_chanceOf_18 hl (by decide) rfl (fun ls hl => ?_)
  refine D6w_chanceOf_20 fx sx hR hf a1 ha1 a3 a4 ((12 : Int32) - (τ.1 1 1)) x_1 fuel (0 : Int32) τ hm _ _ _ hC (lv_sub hl [3, 4, 5, 6, 7, 2, 1, 0] rfl) (fun τ_13 H locs ls hm hC hl => ?_)
  refine lv_aload_n hx hb dX6_chanceOf_65 rfl (lv_at hl 1 rfl) ?_
  refine D2g_1 fx hC k_868 dX6_chanceOf_66 ?_
  refine lv_iconst (v := (1 : Int32)) hx hb dX6_chanceOf_69 (by decide) ?_
  refine lv_isub hx hb dX6_chanceOf_70 ?_
  refine lv_istore (lv' := [(7, .int ((τ_13.1 1 1) - (1 : Int32))), (0, .ref (q 14)), (2, .ref (q 1)), (3, .int a3), (4, .int a4), (5, .int ((12 : Int32) - (τ.1 1 1))), (6, .int x_1)]) hx hb dX6_chanceOf_71 hl (by decide) rfl (fun ls hl => ?_)
  refine D6w_chanceOf_73 fx sx hR hf a3 a4 ((12 : Int32) - (τ.1 1 1)) fuel x_1 ((τ_13.1 1 1) - (1 : Int32)) τ_13 hm _ _ _ hC (lv_sub hl [1, 2, 3, 4, 5, 6, 0] rfl) (fun τ_27 H locs ls hm hC hl => ?_)
  refine lv_aload_n hx hb dX6_chanceOf_172 rfl (lv_at hl 0 rfl) ?_
  refine D6g_0 fx hC k_68 dX6_chanceOf_173 ?_
  refine lv_iconst (v := (0 : Int32)) hx hb dX6_chanceOf_176 (by decide) ?_
  have h_28 := (gi_in hm).1
  replace hm := (gi_in hm).2
  refine DLj fx hC Ka15 h_28 dX6_chanceOf_177 ?_
  refine lv_iconst (v := (3 : Int32)) hx hb dX6_chanceOf_178 (by decide) ?_
  refine lv_iload hx hb dX6_chanceOf_179 (lv_at hl 1 rfl) ?_
  refine lv_imul hx hb dX6_chanceOf_181 ?_
  refine lv_lshl hx hb dX6_chanceOf_182 rfl ?_
  cases hm
  exact g_lret fx hr hC rfl dX6_chanceOf_183
def D7m_take (k : Nat) (τ : DS) (a1 : Int32) : Option DS :=
  if a1 < (0 : Int32) then (some τ) else (if (4096 : Int32) ≤ a1 then (some τ) else (gi (a1 >>> ((6 : Int32) &&& 31)) 64 (gi (a1 >>> ((6 : Int32) &&& 31)) 64 (nm (dJ τ (79 + k) ((a1 >>> ((6 : Int32) &&& 31))).toNatClampNeg ((τ.2.2 (79 + k) ((a1 >>> ((6 : Int32) &&& 31))).toNatClampNeg) &&& (((1 : Int64) <<< (((a1 &&& (63 : Int32))).toInt64 &&& 63)) ^^^ (-1 : Int64)))) (fun τ_5 => some τ_5)))))
abbrev D7rm_take : Room := { frames := 0, cells := 0, slots := 0, locals := 0 }
set_option maxRecDepth 100000 in
set_option maxHeartbeats 4000000 in
theorem D7c_take (l : Launch) {D : va_G} {cy : Nat → ClassId} {ad : List Nat} {q : Nat → Nat} {X : va_W} (k : Nat) (hk : k < 32) (τ : DS) (a1 : Int32) {o : DS} (hm : D7m_take k τ a1 = some o) : DM l yX7_take cX7_take 2 none D7rm_take D cy (dwd cy q X) ad [.ref (q (47 + k)), .int a1] τ none o := by
  refine d_start RX7 rfl (by decide) (Nat.le_of_ble_eq_true rfl) ?_
  intro p e s m args below meth c fx sx hr hC ls hl
  have hx := fx.1
  have hb := fx.2.1
  have hR : 0 ≤ (D7rm_take).frames ∧ 0 ≤ (D7rm_take).locals := ⟨Nat.le_refl _, Nat.le_refl _⟩
  have hf : 0 ≤ (D7rm_take).cells ∧ 0 ≤ (D7rm_take).slots := ⟨Nat.zero_le _, Nat.zero_le _⟩
  have hl : lv_has ls 2 [(0, .ref (q (47 + k))), (1, .int a1)] := hl
  unfold D7m_take at hm
  refine lv_iload_n hx hb dX7_take_0 rfl (lv_at hl 1 rfl) ?_
  refine lv_if_lt (tgt := 33) hx hb dX7_take_1 (by decide) (fun c_1 => ?_) (fun c_1 => ?_)
  · replace hm := ifp hm c_1
    cases hm
    exact g_vret fx hr hC rfl dX7_take_33
  · replace hm := ifn hm c_1
    refine lv_iload_n hx hb dX7_take_4 rfl (lv_at hl 1 rfl) ?_
    refine lv_sipush (v := (4096 : Int32)) hx hb dX7_take_5 (by decide) ?_
    refine lv_icmp_ge (tgt := 33) hx hb dX7_take_8 (by decide) (fun c_2 => ?_) (fun c_2 => ?_)
    · replace hm := ifp hm c_2
      cases hm
      exact g_vret fx hr hC rfl dX7_take_33
    · replace hm := ifn hm c_2
      refine lv_aload_n hx hb dX7_take_11 rfl (lv_at hl 0 rfl) ?_
      refine D7g_1 hk fx hC k_57 dX7_take_12 ?_
      refine lv_iload_n hx hb dX7_take_15 rfl (lv_at hl 1 rfl) ?_
      refine lv_bipush (v := (6 : Int32)) hx hb dX7_take_16 (by decide) ?_
      refine lv_ishr hx hb dX7_take_18 ?_
      refine lv_dup2_11 hx hb dX7_take_19 rfl rfl ?_
      have h_3 := (gi_in hm).1
      replace hm := (gi_in hm).2
      refine DLj fx hC (K7w hk) h_3 dX7_take_20 ?_
      refine lv_lconst (v := (1 : Int64)) hx hb dX7_take_21 (by decide) ?_
      refine lv_iload_n hx hb dX7_take_22 rfl (lv_at hl 1 rfl) ?_
      refine lv_bipush (v := (63 : Int32)) hx hb dX7_take_23 (by decide) ?_
      refine lv_iand hx hb dX7_take_25 ?_
      refine lv_lshl hx hb dX7_take_26 rfl ?_
      refine lv_ldc2 hx hb fx.2.2.2.1 (fx.2.2.2.2.1 _ k_261) dX7_take_27 ?_
      refine lv_lxor hx hb dX7_take_30 ?_
      refine lv_land hx hb dX7_take_31 ?_
      have h_4 := (gi_in hm).1
      replace hm := (gi_in hm).2
      refine DSj fx hC (K7w hk) h_4 dX7_take_32 (fun H locs hC => ?_)
      obtain ⟨τ_5, e_6⟩ : ∃ z, z = (dJ τ (79 + k) ((a1 >>> ((6 : Int32) &&& 31))).toNatClampNeg ((τ.2.2 (79 + k) ((a1 >>> ((6 : Int32) &&& 31))).toNatClampNeg) &&& (((1 : Int64) <<< (((a1 &&& (63 : Int32))).toInt64 &&& 63)) ^^^ (-1 : Int64)))) := ⟨_, rfl⟩
      rw [← e_6] at hC
      replace hm := nm_in hm e_6
      cases hm
      exact g_vret fx hr hC rfl dX7_take_33
def D7s_list_21 {ρ : Type} (p0 : Nat) (p3 : Int32) (kx75 : Int32 → DS → Option ρ) (rc : Int32 → Int64 → Int32 → DS → Option ρ) (v2 : Int32) (v4 : Int64) (v6 : Int32) (τ : DS) : Option ρ :=
  if (64 : Int32) ≤ v6 then (kx75 v2 τ) else (if (lg_cmp v4 (0 : Int64)) = (0 : Int32) then (kx75 v2 τ) else (if (lg_cmp (v4 &&& (1 : Int64)) (0 : Int64)) = (0 : Int32) then (nm (((v4).toUInt64 >>> (((1 : Int32)).toInt64.toUInt64 &&& Int64.toUInt64 63)).toInt64) (fun x_6 => rc v2 x_6 (v6 + (1 : Int32)) τ)) else (if (Int32.ofNat 4096) ≤ v2 then (nm (((v4).toUInt64 >>> (((1 : Int32)).toInt64.toUInt64 &&& Int64.toUInt64 63)).toInt64) (fun x_8 => rc v2 x_8 (v6 + (1 : Int32)) τ)) else (gi v2 4096 (nm (dA τ 8 (v2).toNatClampNeg (((64 : Int32) * p3) + v6)) (fun τ_10 => nm (((v4).toUInt64 >>> (((1 : Int32)).toInt64.toUInt64 &&& Int64.toUInt64 63)).toInt64) (fun x_12 => rc (v2 + (1 : Int32)) x_12 (v6 + (1 : Int32)) τ_10)))))))
def D7s_list_4 {ρ : Type} (p0 : Nat) (kx81 : Int32 → DS → Option ρ) (rc : Int32 → Int32 → DS → Option ρ) (v2 : Int32) (v3 : Int32) (τ : DS) : Option ρ :=
  if (64 : Int32) ≤ v3 then (kx81 v2 τ) else (gi v3 64 (it4 (D7s_list_21 p0 v3 (fun u_13 τ_14 => rc u_13 (v3 + (1 : Int32)) τ_14)) fuel v2 (τ.2.2 (79 + p0) (v3).toNatClampNeg) (0 : Int32) τ))
def D7m_list (k : Nat) (τ : DS) : Option (Int32 × DS) :=
  it3 (D7s_list_4 k (fun u_15 τ_16 => some (u_15, τ_16))) fuel (0 : Int32) (0 : Int32) τ
abbrev D7rm_list : Room := { frames := 0, cells := 0, slots := 0, locals := 0 }
set_option maxRecDepth 100000 in
set_option maxHeartbeats 4000000 in
theorem D7w_list_21 {ρ : Type} {out : ρ} {p : Program} {l : Launch} {e : Env} {R : Room} {s : State} {m : MethodId} {args : Array Value} {below : List Frame} {meth : Method} {c : Code} {cells slots : Nat} {Q : State → Prop} {D : va_G} {cy : Nat → ClassId} {ad : List Nat} {q : Nat → Nat} {X : va_W} (fx : FX p s m args meth c cX7_list 7 RX7 D cy) (sx : SX ad s) (hR : 0 ≤ R.frames ∧ 0 ≤ R.locals) (hf : cells ≤ R.cells ∧ slots ≤ R.slots) (p0 : Nat) (hp0 : p0 < 32) (p3 : Int32) {kx75 : Int32 → DS → Option ρ} :
    ∀ (n : Nat) (v2 : Int32) (v4 : Int64) (v6 : Int32) (τ : DS), it4 (D7s_list_21 p0 p3 kx75) n v2 v4 v6 τ = some out → ∀ (H : Heap) (locs : List Loc) (ls : Array Slot), GC D (dwd cy q X) ad s τ H locs → lv_has ls 7 [(0, .ref (q (47 + p0))), (1, .ref (q 8)), (2, .int v2), (3, .int p3), (4, .long v4), (6, .int v6)] → (∀ (u2 : Int32) (τ2 : DS) (H : Heap) (locs : List Loc) (ls : Array Slot), kx75 u2 τ2 = some out → GC D (dwd cy q X) ad s τ2 H locs → lv_has ls 7 [(0, .ref (q (47 + p0))), (1, .ref (q 8)), (2, .int u2), (3, .int p3)] → W p l e R s m args below meth c H locs cells slots Q (F0 m 75 ls [])) → W p l e R s m args below meth c H locs cells slots Q (F0 m 21 ls []) := by
  have hx := fx.1
  have hb := fx.2.1
  intro n
  induction n with
  | zero => intro v2 v4 v6 τ hm; exact (it4_z hm).elim
  | succ n ih9 =>
    intro v2 v4 v6 τ hm H locs ls hC hl hx75
    obtain ⟨rc, hrc⟩ : ∃ z, z = it4 (D7s_list_21 p0 p3 kx75) n := ⟨_, rfl⟩
    replace hm : D7s_list_21 p0 p3 kx75 rc v2 v4 v6 τ = some out := by rw [hrc]; exact hm
    unfold D7s_list_21 at hm
    refine lv_iload hx hb dX7_list_21 (lv_at hl 5 rfl) ?_
    refine lv_bipush (v := (64 : Int32)) hx hb dX7_list_23 (by decide) ?_
    refine lv_icmp_ge (tgt := 75) hx hb dX7_list_25 (by decide) (fun c_3 => ?_) (fun c_3 => ?_)
    · replace hm := ifp hm c_3
      exact hx75 _ _ _ _ _ hm hC (lv_sub hl [0, 1, 2, 3] rfl)
    · replace hm := ifn hm c_3
      refine lv_lload hx hb dX7_list_28 (lv_at hl 4 rfl) ?_
      refine lv_lconst (v := (0 : Int64)) hx hb dX7_list_30 (by decide) ?_
      refine W.lcmp hx hb dX7_list_31 ?_
      refine lv_if_eq (tgt := 75) hx hb dX7_list_32 (by decide) (fun c_4 => ?_) (fun c_4 => ?_)
      · replace hm := ifp hm c_4
        exact hx75 _ _ _ _ _ hm hC (lv_sub hl [0, 1, 2, 3] rfl)
      · replace hm := ifn hm c_4
        refine lv_lload hx hb dX7_list_35 (lv_at hl 4 rfl) ?_
        refine lv_lconst (v := (1 : Int64)) hx hb dX7_list_37 (by decide) ?_
        refine lv_land hx hb dX7_list_38 ?_
        refine lv_lconst (v := (0 : Int64)) hx hb dX7_list_39 (by decide) ?_
        refine W.lcmp hx hb dX7_list_40 ?_
        refine lv_if_eq (tgt := 63) hx hb dX7_list_41 (by decide) (fun c_5 => ?_) (fun c_5 => ?_)
        · replace hm := ifp hm c_5
          refine lv_lload hx hb dX7_list_63 (lv_at hl 4 rfl) ?_
          refine lv_iconst (v := (1 : Int32)) hx hb dX7_list_65 (by decide) ?_
          refine lv_lushr hx hb dX7_list_66 rfl ?_
          refine lv_topl (fun x_6 ex_6 => ?_)
          replace hm := nm_in hm ex_6
          refine lv_lstore (lv' := [(4, .long x_6), (0, .ref (q (47 + p0))), (1, .ref (q 8)), (2, .int v2), (3, .int p3), (6, .int v6)]) hx hb dX7_list_67 hl (by decide) rfl (fun ls hl => ?_)
          refine lv_iinc (v := (v6 + (1 : Int32))) (lv' := [(6, .int (v6 + (1 : Int32))), (4, .long x_6), (0, .ref (q (47 + p0))), (1, .ref (q 8)), (2, .int v2), (3, .int p3)]) hx hb dX7_list_69 hl (k := 5) rfl rfl (by decide) rfl (fun ls hl => ?_)
          refine lv_goto (tgt := 21) hx hb dX7_list_72 (by decide) ?_
          rw [hrc] at hm
          exact ih9 _ _ _ _ hm _ _ _ hC (lv_sub hl [2, 3, 4, 5, 1, 0] rfl) hx75
        · replace hm := ifn hm c_5
          refine lv_iload_n hx hb dX7_list_44 rfl (lv_at hl 2 rfl) ?_
          refine lv_aload_n hx hb dX7_list_45 rfl (lv_at hl 1 rfl) ?_
          refine DNi fx hC Ka8 dX7_list_46 ?_
          refine lv_icmp_ge (tgt := 63) hx hb dX7_list_47 (by decide) (fun c_7 => ?_) (fun c_7 => ?_)
          · replace hm := ifp hm c_7
            refine lv_lload hx hb dX7_list_63 (lv_at hl 4 rfl) ?_
            refine lv_iconst (v := (1 : Int32)) hx hb dX7_list_65 (by decide) ?_
            refine lv_lushr hx hb dX7_list_66 rfl ?_
            refine lv_topl (fun x_8 ex_8 => ?_)
            replace hm := nm_in hm ex_8
            refine lv_lstore (lv' := [(4, .long x_8), (0, .ref (q (47 + p0))), (1, .ref (q 8)), (2, .int v2), (3, .int p3), (6, .int v6)]) hx hb dX7_list_67 hl (by decide) rfl (fun ls hl => ?_)
            refine lv_iinc (v := (v6 + (1 : Int32))) (lv' := [(6, .int (v6 + (1 : Int32))), (4, .long x_8), (0, .ref (q (47 + p0))), (1, .ref (q 8)), (2, .int v2), (3, .int p3)]) hx hb dX7_list_69 hl (k := 5) rfl rfl (by decide) rfl (fun ls hl => ?_)
            refine lv_goto (tgt := 21) hx hb dX7_list_72 (by decide) ?_
            rw [hrc] at hm
            exact ih9 _ _ _ _ hm _ _ _ hC (lv_sub hl [2, 3, 4, 5, 1, 0] rfl) hx75
          · replace hm := ifn hm c_7
            refine lv_aload_n hx hb dX7_list_50 rfl (lv_at hl 1 rfl) ?_
            refine lv_iload_n hx hb dX7_list_51 rfl (lv_at hl 2 rfl) ?_
            refine lv_bipush (v := (64 : Int32)) hx hb dX7_list_52 (by decide) ?_
            refine lv_iload_n hx hb dX7_list_54 rfl (lv_at hl 3 rfl) ?_
            refine lv_imul hx hb dX7_list_55 ?_
            refine lv_iload hx hb dX7_list_56 (lv_at hl 5 rfl) ?_
            refine lv_iadd hx hb dX7_list_58 ?_
            have h_9 := (gi_in hm).1
            replace hm := (gi_in hm).2
            refine DSi fx hC Ka8 h_9 dX7_list_59 (fun H locs hC => ?_)
            obtain ⟨τ_10, e_11⟩ : ∃ z, z = (dA τ 8 (v2).toNatClampNeg (((64 : Int32) * p3) + v6)) := ⟨_, rfl⟩
            rw [← e_11] at hC
            replace hm := nm_in hm e_11
            refine lv_iinc (v := (v2 + (1 : Int32))) (lv' := [(2, .int (v2 + (1 : Int32))), (0, .ref (q (47 + p0))), (1, .ref (q 8)), (3, .int p3), (4, .long v4), (6, .int v6)]) hx hb dX7_list_60 hl (k := 2) rfl rfl (by decide) rfl (fun ls hl => ?_)
            refine lv_lload hx hb dX7_list_63 (lv_at hl 4 rfl) ?_
            refine lv_iconst (v := (1 : Int32)) hx hb dX7_list_65 (by decide) ?_
            refine lv_lushr hx hb dX7_list_66 rfl ?_
            refine lv_topl (fun x_12 ex_12 => ?_)
            replace hm := nm_in hm ex_12
            refine lv_lstore (lv' := [(4, .long x_12), (2, .int (v2 + (1 : Int32))), (0, .ref (q (47 + p0))), (1, .ref (q 8)), (3, .int p3), (6, .int v6)]) hx hb dX7_list_67 hl (by decide) rfl (fun ls hl => ?_)
            refine lv_iinc (v := (v6 + (1 : Int32))) (lv' := [(6, .int (v6 + (1 : Int32))), (4, .long x_12), (2, .int (v2 + (1 : Int32))), (0, .ref (q (47 + p0))), (1, .ref (q 8)), (3, .int p3)]) hx hb dX7_list_69 hl (k := 5) rfl rfl (by decide) rfl (fun ls hl => ?_)
            refine lv_goto (tgt := 21) hx hb dX7_list_72 (by decide) ?_
            rw [hrc] at hm
            exact ih9 _ _ _ _ hm _ _ _ hC (lv_sub hl [3, 4, 2, 5, 1, 0] rfl) hx75
set_option maxRecDepth 100000 in
set_option maxHeartbeats 4000000 in
theorem D7w_list_4 {ρ : Type} {out : ρ} {p : Program} {l : Launch} {e : Env} {R : Room} {s : State} {m : MethodId} {args : Array Value} {below : List Frame} {meth : Method} {c : Code} {cells slots : Nat} {Q : State → Prop} {D : va_G} {cy : Nat → ClassId} {ad : List Nat} {q : Nat → Nat} {X : va_W} (fx : FX p s m args meth c cX7_list 7 RX7 D cy) (sx : SX ad s) (hR : 0 ≤ R.frames ∧ 0 ≤ R.locals) (hf : cells ≤ R.cells ∧ slots ≤ R.slots) (p0 : Nat) (hp0 : p0 < 32) {kx81 : Int32 → DS → Option ρ} :
    ∀ (n : Nat) (v2 : Int32) (v3 : Int32) (τ : DS), it3 (D7s_list_4 p0 kx81) n v2 v3 τ = some out → ∀ (H : Heap) (locs : List Loc) (ls : Array Slot), GC D (dwd cy q X) ad s τ H locs → lv_has ls 7 [(0, .ref (q (47 + p0))), (1, .ref (q 8)), (2, .int v2), (3, .int v3)] → (∀ (u2 : Int32) (τ2 : DS) (H : Heap) (locs : List Loc) (ls : Array Slot), kx81 u2 τ2 = some out → GC D (dwd cy q X) ad s τ2 H locs → lv_has ls 7 [(2, .int u2)] → W p l e R s m args below meth c H locs cells slots Q (F0 m 81 ls [])) → W p l e R s m args below meth c H locs cells slots Q (F0 m 4 ls []) := by
  have hx := fx.1
  have hb := fx.2.1
  intro n
  induction n with
  | zero => intro v2 v3 τ hm; exact (it3_z hm).elim
  | succ n ih9 =>
    intro v2 v3 τ hm H locs ls hC hl hx81
    obtain ⟨rc, hrc⟩ : ∃ z, z = it3 (D7s_list_4 p0 kx81) n := ⟨_, rfl⟩
    replace hm : D7s_list_4 p0 kx81 rc v2 v3 τ = some out := by rw [hrc]; exact hm
    unfold D7s_list_4 at hm
    refine lv_iload_n hx hb dX7_list_4 rfl (lv_at hl 3 rfl) ?_
    refine lv_bipush (v := (64 : Int32)) hx hb dX7_list_5 (by decide) ?_
    refine lv_icmp_ge (tgt := 81) hx hb dX7_list_7 (by decide) (fun c_1 => ?_) (fun c_1 => ?_)
    · replace hm := ifp hm c_1
      exact hx81 _ _ _ _ _ hm hC (lv_sub hl [2] rfl)
    · replace hm := ifn hm c_1
      refine lv_aload_n hx hb dX7_list_10 rfl (lv_at hl 0 rfl) ?_
      refine D7g_1 hp0 fx hC k_57 dX7_list_11 ?_
      refine lv_iload_n hx hb dX7_list_14 rfl (lv_at hl 3 rfl) ?_
      have h_2 := (gi_in hm).1
      replace hm := (gi_in hm).2
      refine DLj fx hC (K7w hp0) h_2 dX7_list_15 ?_
      refine lv_lstore (lv' := [(4, .long (τ.2.2 (79 + p0) (v3).toNatClampNeg)), (0, .ref (q (47 + p0))), (1, .ref (q 8)), (2, .int v2), (3, .int v3)]) hx hb dX7_list_16 hl (by decide) rfl (fun ls hl => ?_)
      refine lv_iconst (v := (0 : Int32)) hx hb dX7_list_18 (by decide) ?_
      refine lv_istore (lv' := [(6, .int (0 : Int32)), (4, .long (τ.2.2 (79 + p0) (v3).toNatClampNeg)), (0, .ref (q (47 + p0))), (1, .ref (q 8)), (2, .int v2), (3, .int v3)]) hx hb dX7_list_19 hl (by decide) rfl (fun ls hl => ?_)
      refine D7w_list_21 fx sx hR hf p0 hp0 v3 fuel v2 (τ.2.2 (79 + p0) (v3).toNatClampNeg) (0 : Int32) τ hm _ _ _ hC (lv_sub hl [2, 3, 4, 5, 1, 0] rfl) (fun u_13 τ_14 H locs ls hm hC hl => ?_)
      refine lv_iinc (v := (v3 + (1 : Int32))) (lv' := [(3, .int (v3 + (1 : Int32))), (0, .ref (q (47 + p0))), (1, .ref (q 8)), (2, .int u_13)]) hx hb dX7_list_75 hl (k := 3) rfl rfl (by decide) rfl (fun ls hl => ?_)
      refine lv_goto (tgt := 4) hx hb dX7_list_78 (by decide) ?_
      rw [hrc] at hm
      exact ih9 _ _ _ hm _ _ _ hC (lv_sub hl [1, 2, 3, 0] rfl) hx81
set_option maxRecDepth 100000 in
set_option maxHeartbeats 4000000 in
theorem D7c_list (l : Launch) {D : va_G} {cy : Nat → ClassId} {ad : List Nat} {q : Nat → Nat} {X : va_W} (k : Nat) (hk : k < 32) (τ : DS) {o : Int32 × DS} (hm : D7m_list k τ = some o) : DM l yX7_list cX7_list 7 (some .int) D7rm_list D cy (dwd cy q X) ad [.ref (q (47 + k)), .ref (q 8)] τ (some (.int (o.1))) o.2 := by
  refine d_start RX7 rfl (by decide) (Nat.le_of_ble_eq_true rfl) ?_
  intro p e s m args below meth c fx sx hr hC ls hl
  have hx := fx.1
  have hb := fx.2.1
  have hR : 0 ≤ (D7rm_list).frames ∧ 0 ≤ (D7rm_list).locals := ⟨Nat.le_refl _, Nat.le_refl _⟩
  have hf : 0 ≤ (D7rm_list).cells ∧ 0 ≤ (D7rm_list).slots := ⟨Nat.zero_le _, Nat.zero_le _⟩
  have hl : lv_has ls 7 [(0, .ref (q (47 + k))), (1, .ref (q 8))] := hl
  unfold D7m_list at hm
  refine lv_iconst (v := (0 : Int32)) hx hb dX7_list_0 (by decide) ?_
  refine lv_istore_n (lv' := [(2, .int (0 : Int32)), (0, .ref (q (47 + k))), (1, .ref (q 8))]) hx hb dX7_list_1 rfl hl (by decide) rfl (fun ls hl => ?_)
  refine lv_iconst (v := (0 : Int32)) hx hb dX7_list_2 (by decide) ?_
  refine lv_istore_n (lv' := [(3, .int (0 : Int32)), (2, .int (0 : Int32)), (0, .ref (q (47 + k))), (1, .ref (q 8))]) hx hb dX7_list_3 rfl hl (by decide) rfl (fun ls hl => ?_)
  refine D7w_list_4 fx sx hR hf k hk fuel (0 : Int32) (0 : Int32) τ hm _ _ _ hC (lv_sub hl [2, 3, 1, 0] rfl) (fun u_15 τ_16 H locs ls hm hC hl => ?_)
  refine lv_iload_n hx hb dX7_list_81 rfl (lv_at hl 0 rfl) ?_
  cases hm
  exact g_iret fx hr hC rfl dX7_list_82
def D7s_size_4 {ρ : Type} (p0 : Nat) (τ : DS) (kx28 : Int32 → Option ρ) (rc : Int32 → Int32 → Option ρ) (v1 : Int32) (v2 : Int32) : Option ρ :=
  if (64 : Int32) ≤ v2 then (kx28 v1) else (gi v2 64 (nm (v1 + (J13m_bitCount_95d88 (τ.2.2 (79 + p0) (v2).toNatClampNeg))) (fun x_3 => rc x_3 (v2 + (1 : Int32)))))
def D7m_size (k : Nat) (τ : DS) : Option Int32 :=
  it2 (D7s_size_4 k τ (fun u_4 => some u_4)) fuel (0 : Int32) (0 : Int32)
abbrev D7rm_size : Room := { frames := 1, cells := 0, slots := 0, locals := 21 }
set_option maxRecDepth 100000 in
set_option maxHeartbeats 4000000 in
theorem D7w_size_4 {ρ : Type} {out : ρ} {p : Program} {l : Launch} {e : Env} {R : Room} {s : State} {m : MethodId} {args : Array Value} {below : List Frame} {meth : Method} {c : Code} {cells slots : Nat} {Q : State → Prop} {D : va_G} {cy : Nat → ClassId} {ad : List Nat} {q : Nat → Nat} {X : va_W} (τ : DS) (fx : FX p s m args meth c cX7_size 3 RX7 D cy) (sx : SX ad s) (hR : 1 ≤ R.frames ∧ 21 ≤ R.locals) (hf : cells ≤ R.cells ∧ slots ≤ R.slots) (p0 : Nat) (hp0 : p0 < 32) {kx28 : Int32 → Option ρ} :
    ∀ (n : Nat) (v1 : Int32) (v2 : Int32), it2 (D7s_size_4 p0 τ kx28) n v1 v2 = some out → ∀ (H : Heap) (locs : List Loc) (ls : Array Slot), GC D (dwd cy q X) ad s τ H locs → lv_has ls 3 [(0, .ref (q (47 + p0))), (1, .int v1), (2, .int v2)] → (∀ (u1 : Int32) (H : Heap) (locs : List Loc) (ls : Array Slot), kx28 u1 = some out → GC D (dwd cy q X) ad s τ H locs → lv_has ls 3 [(1, .int u1)] → W p l e R s m args below meth c H locs cells slots Q (F0 m 28 ls [])) → W p l e R s m args below meth c H locs cells slots Q (F0 m 4 ls []) := by
  have hx := fx.1
  have hb := fx.2.1
  intro n
  induction n with
  | zero => intro v1 v2 hm; exact (it2_z hm).elim
  | succ n ih9 =>
    intro v1 v2 hm H locs ls hC hl hx28
    obtain ⟨rc, hrc⟩ : ∃ z, z = it2 (D7s_size_4 p0 τ kx28) n := ⟨_, rfl⟩
    replace hm : D7s_size_4 p0 τ kx28 rc v1 v2 = some out := by rw [hrc]; exact hm
    unfold D7s_size_4 at hm
    refine lv_iload_n hx hb dX7_size_4 rfl (lv_at hl 2 rfl) ?_
    refine lv_bipush (v := (64 : Int32)) hx hb dX7_size_5 (by decide) ?_
    refine lv_icmp_ge (tgt := 28) hx hb dX7_size_7 (by decide) (fun c_1 => ?_) (fun c_1 => ?_)
    · replace hm := ifp hm c_1
      exact hx28 _ _ _ _ hm hC (lv_sub hl [1] rfl)
    · replace hm := ifn hm c_1
      refine lv_iload_n hx hb dX7_size_10 rfl (lv_at hl 1 rfl) ?_
      refine lv_aload_n hx hb dX7_size_11 rfl (lv_at hl 0 rfl) ?_
      refine D7g_1 hp0 fx hC k_57 dX7_size_12 ?_
      refine lv_iload_n hx hb dX7_size_15 rfl (lv_at hl 2 rfl) ?_
      have h_2 := (gi_in hm).1
      replace hm := (gi_in hm).2
      refine DLj fx hC (K7w hp0) h_2 dX7_size_16 ?_
      refine g_callSi (As := [.long (τ.2.2 (79 + p0) (v2).toNatClampNeg)]) (rest := [.int v1]) fx hC dw_w (J13c_bitCount_95d88 l dw_w τ (τ.2.2 (79 + p0) (v2).toNatClampNeg)) k_465 J13k_bitCount_95d88 J13h_bitCount_95d88 ⟨rfl, rfl⟩ ⟨Nat.le_trans (Nat.le_of_ble_eq_true rfl) hR.1, Nat.le_trans (Nat.le_of_ble_eq_true rfl) hR.2⟩ hf rfl hl.1 rfl (Nat.le_of_ble_eq_true rfl) dX7_size_17 (fun H locs hC => ?_)
      refine lv_iadd hx hb dX7_size_20 ?_
      refine lv_topi (fun x_3 ex_3 => ?_)
      replace hm := nm_in hm ex_3
      refine lv_istore_n (lv' := [(1, .int x_3), (0, .ref (q (47 + p0))), (2, .int v2)]) hx hb dX7_size_21 rfl hl (by decide) rfl (fun ls hl => ?_)
      refine lv_iinc (v := (v2 + (1 : Int32))) (lv' := [(2, .int (v2 + (1 : Int32))), (1, .int x_3), (0, .ref (q (47 + p0)))]) hx hb dX7_size_22 hl (k := 2) rfl rfl (by decide) rfl (fun ls hl => ?_)
      refine lv_goto (tgt := 4) hx hb dX7_size_25 (by decide) ?_
      rw [hrc] at hm
      exact ih9 _ _ hm _ _ _ hC (lv_sub hl [2, 1, 0] rfl) hx28
set_option maxRecDepth 100000 in
set_option maxHeartbeats 4000000 in
theorem D7c_size (l : Launch) {D : va_G} {cy : Nat → ClassId} {ad : List Nat} {q : Nat → Nat} {X : va_W} (k : Nat) (hk : k < 32) (τ : DS) {o : Int32} (hm : D7m_size k τ = some o) : DM l yX7_size cX7_size 3 (some .int) D7rm_size D cy (dwd cy q X) ad [.ref (q (47 + k))] τ (some (.int (o))) τ := by
  refine d_start RX7 rfl (by decide) (Nat.le_of_ble_eq_true rfl) ?_
  intro p e s m args below meth c fx sx hr hC ls hl
  have hx := fx.1
  have hb := fx.2.1
  have hR : 1 ≤ (D7rm_size).frames ∧ 21 ≤ (D7rm_size).locals := ⟨Nat.le_refl _, Nat.le_refl _⟩
  have hf : 0 ≤ (D7rm_size).cells ∧ 0 ≤ (D7rm_size).slots := ⟨Nat.zero_le _, Nat.zero_le _⟩
  have hl : lv_has ls 3 [(0, .ref (q (47 + k)))] := hl
  unfold D7m_size at hm
  refine lv_iconst (v := (0 : Int32)) hx hb dX7_size_0 (by decide) ?_
  refine lv_istore_n (lv' := [(1, .int (0 : Int32)), (0, .ref (q (47 + k)))]) hx hb dX7_size_1 rfl hl (by decide) rfl (fun ls hl => ?_)
  refine lv_iconst (v := (0 : Int32)) hx hb dX7_size_2 (by decide) ?_
  refine lv_istore_n (lv' := [(2, .int (0 : Int32)), (1, .int (0 : Int32)), (0, .ref (q (47 + k)))]) hx hb dX7_size_3 rfl hl (by decide) rfl (fun ls hl => ?_)
  refine D7w_size_4 τ fx sx hR hf k hk fuel (0 : Int32) (0 : Int32) hm _ _ _ hC (lv_sub hl [2, 1, 0] rfl) (fun u_4 H locs ls hm hC hl => ?_)
  refine lv_iload_n hx hb dX7_size_28 rfl (lv_at hl 0 rfl) ?_
  cases hm
  exact g_iret fx hr hC rfl dX7_size_29
def D7s_sizeAhead_4 {ρ : Type} (p0 : Nat) (p1 : Int32) (τ : DS) (kx63 : Int32 → Option ρ) (rc : Int32 → Int32 → Option ρ) (v2 : Int32) (v3 : Int32) : Option ρ :=
  if (64 : Int32) ≤ v3 then (kx63 v2) else (if (p1 >>> ((6 : Int32) &&& 31)) < v3 then (kx63 v2) else (if (p1 >>> ((6 : Int32) &&& 31)) ≤ v3 then (nm (((1 : Int64) <<< (((p1 &&& (63 : Int32))).toInt64 &&& 63)) - (1 : Int64)) (fun x_4 => gi v3 64 (nm (v2 + (J13m_bitCount_95d88 ((τ.2.2 (79 + p0) (v3).toNatClampNeg) &&& x_4))) (fun x_6 => rc x_6 (v3 + (1 : Int32)))))) else (gi v3 64 (nm (v2 + (J13m_bitCount_95d88 ((τ.2.2 (79 + p0) (v3).toNatClampNeg) &&& (-1 : Int64)))) (fun x_8 => rc x_8 (v3 + (1 : Int32)))))))
def D7m_sizeAhead (k : Nat) (τ : DS) (a1 : Int32) : Option Int32 :=
  it2 (D7s_sizeAhead_4 k a1 τ (fun u_9 => some u_9)) fuel (0 : Int32) (0 : Int32)
abbrev D7rm_sizeAhead : Room := { frames := 1, cells := 0, slots := 0, locals := 21 }
set_option maxRecDepth 100000 in
set_option maxHeartbeats 4000000 in
theorem D7w_sizeAhead_4 {ρ : Type} {out : ρ} {p : Program} {l : Launch} {e : Env} {R : Room} {s : State} {m : MethodId} {args : Array Value} {below : List Frame} {meth : Method} {c : Code} {cells slots : Nat} {Q : State → Prop} {D : va_G} {cy : Nat → ClassId} {ad : List Nat} {q : Nat → Nat} {X : va_W} (τ : DS) (fx : FX p s m args meth c cX7_sizeAhead 6 RX7 D cy) (sx : SX ad s) (hR : 1 ≤ R.frames ∧ 21 ≤ R.locals) (hf : cells ≤ R.cells ∧ slots ≤ R.slots) (p0 : Nat) (hp0 : p0 < 32) (p1 : Int32) {kx63 : Int32 → Option ρ} :
    ∀ (n : Nat) (v2 : Int32) (v3 : Int32), it2 (D7s_sizeAhead_4 p0 p1 τ kx63) n v2 v3 = some out → ∀ (H : Heap) (locs : List Loc) (ls : Array Slot), GC D (dwd cy q X) ad s τ H locs → lv_has ls 6 [(0, .ref (q (47 + p0))), (1, .int p1), (2, .int v2), (3, .int v3)] → (∀ (u2 : Int32) (H : Heap) (locs : List Loc) (ls : Array Slot), kx63 u2 = some out → GC D (dwd cy q X) ad s τ H locs → lv_has ls 6 [(2, .int u2)] → W p l e R s m args below meth c H locs cells slots Q (F0 m 63 ls [])) → W p l e R s m args below meth c H locs cells slots Q (F0 m 4 ls []) := by
  have hx := fx.1
  have hb := fx.2.1
  intro n
  induction n with
  | zero => intro v2 v3 hm; exact (it2_z hm).elim
  | succ n ih9 =>
    intro v2 v3 hm H locs ls hC hl hx63
    obtain ⟨rc, hrc⟩ : ∃ z, z = it2 (D7s_sizeAhead_4 p0 p1 τ kx63) n := ⟨_, rfl⟩
    replace hm : D7s_sizeAhead_4 p0 p1 τ kx63 rc v2 v3 = some out := by rw [hrc]; exact hm
    unfold D7s_sizeAhead_4 at hm
    refine lv_iload_n hx hb dX7_sizeAhead_4 rfl (lv_at hl 3 rfl) ?_
    refine lv_bipush (v := (64 : Int32)) hx hb dX7_sizeAhead_5 (by decide) ?_
    refine lv_icmp_ge (tgt := 63) hx hb dX7_sizeAhead_7 (by decide) (fun c_1 => ?_) (fun c_1 => ?_)
    · replace hm := ifp hm c_1
      exact hx63 _ _ _ _ hm hC (lv_sub hl [2] rfl)
    · replace hm := ifn hm c_1
      refine lv_iload_n hx hb dX7_sizeAhead_10 rfl (lv_at hl 3 rfl) ?_
      refine lv_iload_n hx hb dX7_sizeAhead_11 rfl (lv_at hl 1 rfl) ?_
      refine lv_bipush (v := (6 : Int32)) hx hb dX7_sizeAhead_12 (by decide) ?_
      refine lv_ishr hx hb dX7_sizeAhead_14 ?_
      refine lv_icmp_gt (tgt := 63) hx hb dX7_sizeAhead_15 (by decide) (fun c_2 => ?_) (fun c_2 => ?_)
      · replace hm := ifp hm c_2
        exact hx63 _ _ _ _ hm hC (lv_sub hl [2] rfl)
      · replace hm := ifn hm c_2
        refine lv_iload_n hx hb dX7_sizeAhead_18 rfl (lv_at hl 3 rfl) ?_
        refine lv_iload_n hx hb dX7_sizeAhead_19 rfl (lv_at hl 1 rfl) ?_
        refine lv_bipush (v := (6 : Int32)) hx hb dX7_sizeAhead_20 (by decide) ?_
        refine lv_ishr hx hb dX7_sizeAhead_22 ?_
        refine lv_icmp_ge (tgt := 32) hx hb dX7_sizeAhead_23 (by decide) (fun c_3 => ?_) (fun c_3 => ?_)
        · replace hm := ifp hm c_3
          refine lv_lconst (v := (1 : Int64)) hx hb dX7_sizeAhead_32 (by decide) ?_
          refine lv_iload_n hx hb dX7_sizeAhead_33 rfl (lv_at hl 1 rfl) ?_
          refine lv_bipush (v := (63 : Int32)) hx hb dX7_sizeAhead_34 (by decide) ?_
          refine lv_iand hx hb dX7_sizeAhead_36 ?_
          refine lv_lshl hx hb dX7_sizeAhead_37 rfl ?_
          refine lv_lconst (v := (1 : Int64)) hx hb dX7_sizeAhead_38 (by decide) ?_
          refine lv_lsub hx hb dX7_sizeAhead_39 ?_
          refine lv_topl (fun x_4 ex_4 => ?_)
          replace hm := nm_in hm ex_4
          refine lv_lstore (lv' := [(4, .long x_4), (0, .ref (q (47 + p0))), (1, .int p1), (2, .int v2), (3, .int v3)]) hx hb dX7_sizeAhead_40 hl (by decide) rfl (fun ls hl => ?_)
          refine lv_iload_n hx hb dX7_sizeAhead_42 rfl (lv_at hl 3 rfl) ?_
          refine lv_aload_n hx hb dX7_sizeAhead_43 rfl (lv_at hl 1 rfl) ?_
          refine D7g_1 hp0 fx hC k_57 dX7_sizeAhead_44 ?_
          refine lv_iload_n hx hb dX7_sizeAhead_47 rfl (lv_at hl 4 rfl) ?_
          have h_5 := (gi_in hm).1
          replace hm := (gi_in hm).2
          refine DLj fx hC (K7w hp0) h_5 dX7_sizeAhead_48 ?_
          refine lv_lload hx hb dX7_sizeAhead_49 (lv_at hl 0 rfl) ?_
          refine lv_land hx hb dX7_sizeAhead_51 ?_
          refine g_callSi (As := [.long ((τ.2.2 (79 + p0) (v3).toNatClampNeg) &&& x_4)]) (rest := [.int v2]) fx hC dw_w (J13c_bitCount_95d88 l dw_w τ ((τ.2.2 (79 + p0) (v3).toNatClampNeg) &&& x_4)) k_465 J13k_bitCount_95d88 J13h_bitCount_95d88 ⟨rfl, rfl⟩ ⟨Nat.le_trans (Nat.le_of_ble_eq_true rfl) hR.1, Nat.le_trans (Nat.le_of_ble_eq_true rfl) hR.2⟩ hf rfl hl.1 rfl (Nat.le_of_ble_eq_true rfl) dX7_sizeAhead_52 (fun H locs hC => ?_)
          refine lv_iadd hx hb dX7_sizeAhead_55 ?_
          refine lv_topi (fun x_6 ex_6 => ?_)
          replace hm := nm_in hm ex_6
          refine lv_istore_n (lv' := [(2, .int x_6), (4, .long x_4), (0, .ref (q (47 + p0))), (1, .int p1), (3, .int v3)]) hx hb dX7_sizeAhead_56 rfl hl (by decide) rfl (fun ls hl => ?_)
          refine lv_iinc (v := (v3 + (1 : Int32))) (lv' := [(3, .int (v3 + (1 : Int32))), (2, .int x_6), (4, .long x_4), (0, .ref (q (47 + p0))), (1, .int p1)]) hx hb dX7_sizeAhead_57 hl (k := 4) rfl rfl (by decide) rfl (fun ls hl => ?_)
          refine lv_goto (tgt := 4) hx hb dX7_sizeAhead_60 (by decide) ?_
          rw [hrc] at hm
          exact ih9 _ _ hm _ _ _ hC (lv_sub hl [3, 4, 1, 0] rfl) hx63
        · replace hm := ifn hm c_3
          refine lv_ldc2 hx hb fx.2.2.2.1 (fx.2.2.2.2.1 _ k_261) dX7_sizeAhead_26 ?_
          refine lv_goto (tgt := 40) hx hb dX7_sizeAhead_29 (by decide) ?_
          refine lv_lstore (lv' := [(4, .long (-1 : Int64)), (0, .ref (q (47 + p0))), (1, .int p1), (2, .int v2), (3, .int v3)]) hx hb dX7_sizeAhead_40 hl (by decide) rfl (fun ls hl => ?_)
          refine lv_iload_n hx hb dX7_sizeAhead_42 rfl (lv_at hl 3 rfl) ?_
          refine lv_aload_n hx hb dX7_sizeAhead_43 rfl (lv_at hl 1 rfl) ?_
          refine D7g_1 hp0 fx hC k_57 dX7_sizeAhead_44 ?_
          refine lv_iload_n hx hb dX7_sizeAhead_47 rfl (lv_at hl 4 rfl) ?_
          have h_7 := (gi_in hm).1
          replace hm := (gi_in hm).2
          refine DLj fx hC (K7w hp0) h_7 dX7_sizeAhead_48 ?_
          refine lv_lload hx hb dX7_sizeAhead_49 (lv_at hl 0 rfl) ?_
          refine lv_land hx hb dX7_sizeAhead_51 ?_
          refine g_callSi (As := [.long ((τ.2.2 (79 + p0) (v3).toNatClampNeg) &&& (-1 : Int64))]) (rest := [.int v2]) fx hC dw_w (J13c_bitCount_95d88 l dw_w τ ((τ.2.2 (79 + p0) (v3).toNatClampNeg) &&& (-1 : Int64))) k_465 J13k_bitCount_95d88 J13h_bitCount_95d88 ⟨rfl, rfl⟩ ⟨Nat.le_trans (Nat.le_of_ble_eq_true rfl) hR.1, Nat.le_trans (Nat.le_of_ble_eq_true rfl) hR.2⟩ hf rfl hl.1 rfl (Nat.le_of_ble_eq_true rfl) dX7_sizeAhead_52 (fun H locs hC => ?_)
          refine lv_iadd hx hb dX7_sizeAhead_55 ?_
          refine lv_topi (fun x_8 ex_8 => ?_)
          replace hm := nm_in hm ex_8
          refine lv_istore_n (lv' := [(2, .int x_8), (4, .long (-1 : Int64)), (0, .ref (q (47 + p0))), (1, .int p1), (3, .int v3)]) hx hb dX7_sizeAhead_56 rfl hl (by decide) rfl (fun ls hl => ?_)
          refine lv_iinc (v := (v3 + (1 : Int32))) (lv' := [(3, .int (v3 + (1 : Int32))), (2, .int x_8), (4, .long (-1 : Int64)), (0, .ref (q (47 + p0))), (1, .int p1)]) hx hb dX7_sizeAhead_57 hl (k := 4) rfl rfl (by decide) rfl (fun ls hl => ?_)
          refine lv_goto (tgt := 4) hx hb dX7_sizeAhead_60 (by decide) ?_
          rw [hrc] at hm
          exact ih9 _ _ hm _ _ _ hC (lv_sub hl [3, 4, 1, 0] rfl) hx63
set_option maxRecDepth 100000 in
set_option maxHeartbeats 4000000 in
theorem D7c_sizeAhead (l : Launch) {D : va_G} {cy : Nat → ClassId} {ad : List Nat} {q : Nat → Nat} {X : va_W} (k : Nat) (hk : k < 32) (τ : DS) (a1 : Int32) {o : Int32} (hm : D7m_sizeAhead k τ a1 = some o) : DM l yX7_sizeAhead cX7_sizeAhead 6 (some .int) D7rm_sizeAhead D cy (dwd cy q X) ad [.ref (q (47 + k)), .int a1] τ (some (.int (o))) τ := by
  refine d_start RX7 rfl (by decide) (Nat.le_of_ble_eq_true rfl) ?_
  intro p e s m args below meth c fx sx hr hC ls hl
  have hx := fx.1
  have hb := fx.2.1
  have hR : 1 ≤ (D7rm_sizeAhead).frames ∧ 21 ≤ (D7rm_sizeAhead).locals := ⟨Nat.le_refl _, Nat.le_refl _⟩
  have hf : 0 ≤ (D7rm_sizeAhead).cells ∧ 0 ≤ (D7rm_sizeAhead).slots := ⟨Nat.zero_le _, Nat.zero_le _⟩
  have hl : lv_has ls 6 [(0, .ref (q (47 + k))), (1, .int a1)] := hl
  unfold D7m_sizeAhead at hm
  refine lv_iconst (v := (0 : Int32)) hx hb dX7_sizeAhead_0 (by decide) ?_
  refine lv_istore_n (lv' := [(2, .int (0 : Int32)), (0, .ref (q (47 + k))), (1, .int a1)]) hx hb dX7_sizeAhead_1 rfl hl (by decide) rfl (fun ls hl => ?_)
  refine lv_iconst (v := (0 : Int32)) hx hb dX7_sizeAhead_2 (by decide) ?_
  refine lv_istore_n (lv' := [(3, .int (0 : Int32)), (2, .int (0 : Int32)), (0, .ref (q (47 + k))), (1, .int a1)]) hx hb dX7_sizeAhead_3 rfl hl (by decide) rfl (fun ls hl => ?_)
  refine D7w_sizeAhead_4 τ fx sx hR hf k hk a1 fuel (0 : Int32) (0 : Int32) hm _ _ _ hC (lv_sub hl [2, 3, 1, 0] rfl) (fun u_9 H locs ls hm hC hl => ?_)
  refine lv_iload_n hx hb dX7_sizeAhead_63 rfl (lv_at hl 0 rfl) ?_
  cases hm
  exact g_iret fx hr hC rfl dX7_sizeAhead_64
def D7s_nthBit_5 {ρ : Type} (p0 : Int64) (kx27 : Int32 → Option ρ) (kx39 : Option ρ) (rc : Int32 → Int32 → Option ρ) (v3 : Int32) (v4 : Int32) : Option ρ :=
  if (64 : Int32) ≤ v4 then (kx39) else (if (lg_cmp (((p0).toUInt64 >>> ((v4).toInt64.toUInt64 &&& Int64.toUInt64 63)).toInt64 &&& (1 : Int64)) (0 : Int64)) = (0 : Int32) then (rc v3 (v4 + (1 : Int32))) else (if v3 = (0 : Int32) then (kx27 v4) else (rc (v3 + (-1 : Int32)) (v4 + (1 : Int32)))))
def D7m_nthBit (a1 : Int64) (a2 : Int32) : Option Int32 :=
  it2 (D7s_nthBit_5 a1 (fun u_4 => some u_4) (some (0 : Int32))) fuel a2 (0 : Int32)
abbrev D7rm_nthBit : Room := { frames := 0, cells := 0, slots := 0, locals := 0 }
set_option maxRecDepth 100000 in
set_option maxHeartbeats 4000000 in
theorem D7w_nthBit_5 {ρ : Type} {out : ρ} {p : Program} {l : Launch} {e : Env} {R : Room} {s : State} {m : MethodId} {args : Array Value} {below : List Frame} {meth : Method} {c : Code} {cells slots : Nat} {Q : State → Prop} {D : va_G} {cy : Nat → ClassId} {ad : List Nat} {q : Nat → Nat} {X : va_W} (τ : DS) (fx : FX p s m args meth c cX7_nthBit 5 RX7 D cy) (sx : SX ad s) (hR : 0 ≤ R.frames ∧ 0 ≤ R.locals) (hf : cells ≤ R.cells ∧ slots ≤ R.slots) (p0 : Int64) {kx27 : Int32 → Option ρ} {kx39 : Option ρ} :
    ∀ (n : Nat) (v3 : Int32) (v4 : Int32), it2 (D7s_nthBit_5 p0 kx27 kx39) n v3 v4 = some out → ∀ (H : Heap) (locs : List Loc) (ls : Array Slot), GC D (dwd cy q X) ad s τ H locs → lv_has ls 5 [(0, .long p0), (3, .int v3), (4, .int v4)] → (∀ (u4 : Int32) (H : Heap) (locs : List Loc) (ls : Array Slot), kx27 u4 = some out → GC D (dwd cy q X) ad s τ H locs → lv_has ls 5 [(4, .int u4)] → W p l e R s m args below meth c H locs cells slots Q (F0 m 27 ls [])) → (∀ (H : Heap) (locs : List Loc) (ls : Array Slot), kx39 = some out → GC D (dwd cy q X) ad s τ H locs → lv_has ls 5 [] → W p l e R s m args below meth c H locs cells slots Q (F0 m 39 ls [])) → W p l e R s m args below meth c H locs cells slots Q (F0 m 5 ls []) := by
  have hx := fx.1
  have hb := fx.2.1
  intro n
  induction n with
  | zero => intro v3 v4 hm; exact (it2_z hm).elim
  | succ n ih9 =>
    intro v3 v4 hm H locs ls hC hl hx27 hx39
    obtain ⟨rc, hrc⟩ : ∃ z, z = it2 (D7s_nthBit_5 p0 kx27 kx39) n := ⟨_, rfl⟩
    replace hm : D7s_nthBit_5 p0 kx27 kx39 rc v3 v4 = some out := by rw [hrc]; exact hm
    unfold D7s_nthBit_5 at hm
    refine lv_iload hx hb dX7_nthBit_5 (lv_at hl 2 rfl) ?_
    refine lv_bipush (v := (64 : Int32)) hx hb dX7_nthBit_7 (by decide) ?_
    refine lv_icmp_ge (tgt := 39) hx hb dX7_nthBit_9 (by decide) (fun c_1 => ?_) (fun c_1 => ?_)
    · replace hm := ifp hm c_1
      exact hx39 _ _ _ hm hC (lv_sub hl [] rfl)
    · replace hm := ifn hm c_1
      refine lv_lload_n hx hb dX7_nthBit_12 rfl (lv_at hl 0 rfl) ?_
      refine lv_iload hx hb dX7_nthBit_13 (lv_at hl 2 rfl) ?_
      refine lv_lushr hx hb dX7_nthBit_15 rfl ?_
      refine lv_lconst (v := (1 : Int64)) hx hb dX7_nthBit_16 (by decide) ?_
      refine lv_land hx hb dX7_nthBit_17 ?_
      refine lv_lconst (v := (0 : Int64)) hx hb dX7_nthBit_18 (by decide) ?_
      refine W.lcmp hx hb dX7_nthBit_19 ?_
      refine lv_if_eq (tgt := 33) hx hb dX7_nthBit_20 (by decide) (fun c_2 => ?_) (fun c_2 => ?_)
      · replace hm := ifp hm c_2
        refine lv_iinc (v := (v4 + (1 : Int32))) (lv' := [(4, .int (v4 + (1 : Int32))), (0, .long p0), (3, .int v3)]) hx hb dX7_nthBit_33 hl (k := 2) rfl rfl (by decide) rfl (fun ls hl => ?_)
        refine lv_goto (tgt := 5) hx hb dX7_nthBit_36 (by decide) ?_
        rw [hrc] at hm
        exact ih9 _ _ hm _ _ _ hC (lv_sub hl [1, 2, 0] rfl) hx27 hx39
      · replace hm := ifn hm c_2
        refine lv_iload_n hx hb dX7_nthBit_23 rfl (lv_at hl 1 rfl) ?_
        refine lv_if_ne (tgt := 30) hx hb dX7_nthBit_24 (by decide) (fun c_3 => ?_) (fun c_3 => ?_)
        · replace hm := ifn hm c_3
          refine lv_iinc (v := (v3 + (-1 : Int32))) (lv' := [(3, .int (v3 + (-1 : Int32))), (0, .long p0), (4, .int v4)]) hx hb dX7_nthBit_30 hl (k := 1) rfl rfl (by decide) rfl (fun ls hl => ?_)
          refine lv_iinc (v := (v4 + (1 : Int32))) (lv' := [(4, .int (v4 + (1 : Int32))), (3, .int (v3 + (-1 : Int32))), (0, .long p0)]) hx hb dX7_nthBit_33 hl (k := 2) rfl rfl (by decide) rfl (fun ls hl => ?_)
          refine lv_goto (tgt := 5) hx hb dX7_nthBit_36 (by decide) ?_
          rw [hrc] at hm
          exact ih9 _ _ hm _ _ _ hC (lv_sub hl [2, 1, 0] rfl) hx27 hx39
        · replace hm := ifp hm c_3
          exact hx27 _ _ _ _ hm hC (lv_sub hl [2] rfl)
set_option maxRecDepth 100000 in
set_option maxHeartbeats 4000000 in
theorem D7c_nthBit (l : Launch) {D : va_G} {cy : Nat → ClassId} {ad : List Nat} {q : Nat → Nat} {X : va_W} (τ : DS) (a1 : Int64) (a2 : Int32) {o : Int32} (hm : D7m_nthBit a1 a2 = some o) : DM l yX7_nthBit cX7_nthBit 5 (some .int) D7rm_nthBit D cy (dwd cy q X) ad [.long a1, .int a2] τ (some (.int (o))) τ := by
  refine d_start RX7 rfl (by decide) (Nat.le_of_ble_eq_true rfl) ?_
  intro p e s m args below meth c fx sx hr hC ls hl
  have hx := fx.1
  have hb := fx.2.1
  have hR : 0 ≤ (D7rm_nthBit).frames ∧ 0 ≤ (D7rm_nthBit).locals := ⟨Nat.le_refl _, Nat.le_refl _⟩
  have hf : 0 ≤ (D7rm_nthBit).cells ∧ 0 ≤ (D7rm_nthBit).slots := ⟨Nat.zero_le _, Nat.zero_le _⟩
  have hl : lv_has ls 5 [(0, .long a1), (2, .int a2)] := hl
  unfold D7m_nthBit at hm
  refine lv_iload_n hx hb dX7_nthBit_0 rfl (lv_at hl 1 rfl) ?_
  refine lv_istore_n (lv' := [(3, .int a2), (0, .long a1), (2, .int a2)]) hx hb dX7_nthBit_1 rfl hl (by decide) rfl (fun ls hl => ?_)
  refine lv_iconst (v := (0 : Int32)) hx hb dX7_nthBit_2 (by decide) ?_
  refine lv_istore (lv' := [(4, .int (0 : Int32)), (3, .int a2), (0, .long a1), (2, .int a2)]) hx hb dX7_nthBit_3 hl (by decide) rfl (fun ls hl => ?_)
  refine D7w_nthBit_5 τ fx sx hR hf a1 fuel a2 (0 : Int32) hm _ _ _ hC (lv_sub hl [2, 1, 0] rfl) (fun u_4 H locs ls hm hC hl => ?_) (fun  H locs ls hm hC hl => ?_)
  · refine lv_iload hx hb dX7_nthBit_27 (lv_at hl 0 rfl) ?_
    cases hm
    exact g_iret fx hr hC rfl dX7_nthBit_29
  · refine lv_iconst (v := (0 : Int32)) hx hb dX7_nthBit_39 (by decide) ?_
    cases hm
    exact g_iret fx hr hC rfl dX7_nthBit_40
def D7s_nth_4 {ρ : Type} (p0 : Nat) (τ : DS) (kx31 : Int32 → Int32 → Option ρ) (kx58 : Option ρ) (rc : Int32 → Int32 → Option ρ) (v2 : Int32) (v3 : Int32) : Option ρ :=
  if (64 : Int32) ≤ v3 then (kx58) else (if v2 < (0 : Int32) then (kx58) else (gi v3 64 (nm (J13m_bitCount_95d88 (τ.2.2 (79 + p0) (v3).toNatClampNeg)) (fun x_4 => if x_4 ≤ v2 then (rc (v2 - x_4) (v3 + (1 : Int32))) else (kx31 v2 v3)))))
def D7m_nth (k : Nat) (τ : DS) (a1 : Int32) : Option Int32 :=
  it2 (D7s_nth_4 k τ (fun u_6 u_7 => gi u_7 64 (b1 (D7m_nthBit (τ.2.2 (79 + k) (u_7).toNatClampNeg) u_6) (fun r_10 => some (((64 : Int32) * u_7) + r_10)))) (some (-1 : Int32))) fuel a1 (0 : Int32)
abbrev D7rm_nth : Room := { frames := 1, cells := 0, slots := 0, locals := 24 }
set_option maxRecDepth 100000 in
set_option maxHeartbeats 4000000 in
theorem D7w_nth_4 {ρ : Type} {out : ρ} {p : Program} {l : Launch} {e : Env} {R : Room} {s : State} {m : MethodId} {args : Array Value} {below : List Frame} {meth : Method} {c : Code} {cells slots : Nat} {Q : State → Prop} {D : va_G} {cy : Nat → ClassId} {ad : List Nat} {q : Nat → Nat} {X : va_W} (τ : DS) (fx : FX p s m args meth c cX7_nth 5 RX7 D cy) (sx : SX ad s) (hR : 1 ≤ R.frames ∧ 24 ≤ R.locals) (hf : cells ≤ R.cells ∧ slots ≤ R.slots) (p0 : Nat) (hp0 : p0 < 32) {kx31 : Int32 → Int32 → Option ρ} {kx58 : Option ρ} :
    ∀ (n : Nat) (v2 : Int32) (v3 : Int32), it2 (D7s_nth_4 p0 τ kx31 kx58) n v2 v3 = some out → ∀ (H : Heap) (locs : List Loc) (ls : Array Slot), GC D (dwd cy q X) ad s τ H locs → lv_has ls 5 [(0, .ref (q (47 + p0))), (2, .int v2), (3, .int v3)] → (∀ (u2 : Int32) (u3 : Int32) (H : Heap) (locs : List Loc) (ls : Array Slot), kx31 u2 u3 = some out → GC D (dwd cy q X) ad s τ H locs → lv_has ls 5 [(0, .ref (q (47 + p0))), (2, .int u2), (3, .int u3)] → W p l e R s m args below meth c H locs cells slots Q (F0 m 31 ls [])) → (∀ (H : Heap) (locs : List Loc) (ls : Array Slot), kx58 = some out → GC D (dwd cy q X) ad s τ H locs → lv_has ls 5 [] → W p l e R s m args below meth c H locs cells slots Q (F0 m 58 ls [])) → W p l e R s m args below meth c H locs cells slots Q (F0 m 4 ls []) := by
  have hx := fx.1
  have hb := fx.2.1
  intro n
  induction n with
  | zero => intro v2 v3 hm; exact (it2_z hm).elim
  | succ n ih9 =>
    intro v2 v3 hm H locs ls hC hl hx31 hx58
    obtain ⟨rc, hrc⟩ : ∃ z, z = it2 (D7s_nth_4 p0 τ kx31 kx58) n := ⟨_, rfl⟩
    replace hm : D7s_nth_4 p0 τ kx31 kx58 rc v2 v3 = some out := by rw [hrc]; exact hm
    unfold D7s_nth_4 at hm
    refine lv_iload_n hx hb dX7_nth_4 rfl (lv_at hl 2 rfl) ?_
    refine lv_bipush (v := (64 : Int32)) hx hb dX7_nth_5 (by decide) ?_
    refine lv_icmp_ge (tgt := 58) hx hb dX7_nth_7 (by decide) (fun c_1 => ?_) (fun c_1 => ?_)
    · replace hm := ifp hm c_1
      exact hx58 _ _ _ hm hC (lv_sub hl [] rfl)
    · replace hm := ifn hm c_1
      refine lv_iload_n hx hb dX7_nth_10 rfl (lv_at hl 1 rfl) ?_
      refine lv_if_lt (tgt := 58) hx hb dX7_nth_11 (by decide) (fun c_2 => ?_) (fun c_2 => ?_)
      · replace hm := ifp hm c_2
        exact hx58 _ _ _ hm hC (lv_sub hl [] rfl)
      · replace hm := ifn hm c_2
        refine lv_aload_n hx hb dX7_nth_14 rfl (lv_at hl 0 rfl) ?_
        refine D7g_1 hp0 fx hC k_57 dX7_nth_15 ?_
        refine lv_iload_n hx hb dX7_nth_18 rfl (lv_at hl 2 rfl) ?_
        have h_3 := (gi_in hm).1
        replace hm := (gi_in hm).2
        refine DLj fx hC (K7w hp0) h_3 dX7_nth_19 ?_
        refine g_callSi (As := [.long (τ.2.2 (79 + p0) (v3).toNatClampNeg)]) (rest := []) fx hC dw_w (J13c_bitCount_95d88 l dw_w τ (τ.2.2 (79 + p0) (v3).toNatClampNeg)) k_465 J13k_bitCount_95d88 J13h_bitCount_95d88 ⟨rfl, rfl⟩ ⟨Nat.le_trans (Nat.le_of_ble_eq_true rfl) hR.1, Nat.le_trans (Nat.le_of_ble_eq_true rfl) hR.2⟩ hf rfl hl.1 rfl (Nat.le_of_ble_eq_true rfl) dX7_nth_20 (fun H locs hC => ?_)
        refine lv_topi (fun x_4 ex_4 => ?_)
        replace hm := nm_in hm ex_4
        refine lv_istore (lv' := [(4, .int x_4), (0, .ref (q (47 + p0))), (2, .int v2), (3, .int v3)]) hx hb dX7_nth_23 hl (by decide) rfl (fun ls hl => ?_)
        refine lv_iload_n hx hb dX7_nth_25 rfl (lv_at hl 2 rfl) ?_
        refine lv_iload hx hb dX7_nth_26 (lv_at hl 0 rfl) ?_
        refine lv_icmp_ge (tgt := 47) hx hb dX7_nth_28 (by decide) (fun c_5 => ?_) (fun c_5 => ?_)
        · replace hm := ifp hm c_5
          refine lv_iload_n hx hb dX7_nth_47 rfl (lv_at hl 2 rfl) ?_
          refine lv_iload hx hb dX7_nth_48 (lv_at hl 0 rfl) ?_
          refine lv_isub hx hb dX7_nth_50 ?_
          refine lv_istore_n (lv' := [(2, .int (v2 - x_4)), (4, .int x_4), (0, .ref (q (47 + p0))), (3, .int v3)]) hx hb dX7_nth_51 rfl hl (by decide) rfl (fun ls hl => ?_)
          refine lv_iinc (v := (v3 + (1 : Int32))) (lv' := [(3, .int (v3 + (1 : Int32))), (2, .int (v2 - x_4)), (4, .int x_4), (0, .ref (q (47 + p0)))]) hx hb dX7_nth_52 hl (k := 3) rfl rfl (by decide) rfl (fun ls hl => ?_)
          refine lv_goto (tgt := 4) hx hb dX7_nth_55 (by decide) ?_
          rw [hrc] at hm
          exact ih9 _ _ hm _ _ _ hC (lv_sub hl [3, 1, 0] rfl) hx31 hx58
        · replace hm := ifn hm c_5
          exact hx31 _ _ _ _ _ hm hC (lv_sub hl [1, 2, 3] rfl)
set_option maxRecDepth 100000 in
set_option maxHeartbeats 4000000 in
theorem D7c_nth (l : Launch) {D : va_G} {cy : Nat → ClassId} {ad : List Nat} {q : Nat → Nat} {X : va_W} (k : Nat) (hk : k < 32) (τ : DS) (a1 : Int32) {o : Int32} (hm : D7m_nth k τ a1 = some o) : DM l yX7_nth cX7_nth 5 (some .int) D7rm_nth D cy (dwd cy q X) ad [.ref (q (47 + k)), .int a1] τ (some (.int (o))) τ := by
  refine d_start RX7 rfl (by decide) (Nat.le_of_ble_eq_true rfl) ?_
  intro p e s m args below meth c fx sx hr hC ls hl
  have hx := fx.1
  have hb := fx.2.1
  have hR : 1 ≤ (D7rm_nth).frames ∧ 24 ≤ (D7rm_nth).locals := ⟨Nat.le_refl _, Nat.le_refl _⟩
  have hf : 0 ≤ (D7rm_nth).cells ∧ 0 ≤ (D7rm_nth).slots := ⟨Nat.zero_le _, Nat.zero_le _⟩
  have hl : lv_has ls 5 [(0, .ref (q (47 + k))), (1, .int a1)] := hl
  unfold D7m_nth at hm
  refine lv_iload_n hx hb dX7_nth_0 rfl (lv_at hl 1 rfl) ?_
  refine lv_istore_n (lv' := [(2, .int a1), (0, .ref (q (47 + k))), (1, .int a1)]) hx hb dX7_nth_1 rfl hl (by decide) rfl (fun ls hl => ?_)
  refine lv_iconst (v := (0 : Int32)) hx hb dX7_nth_2 (by decide) ?_
  refine lv_istore_n (lv' := [(3, .int (0 : Int32)), (2, .int a1), (0, .ref (q (47 + k))), (1, .int a1)]) hx hb dX7_nth_3 rfl hl (by decide) rfl (fun ls hl => ?_)
  refine D7w_nth_4 τ fx sx hR hf k hk fuel a1 (0 : Int32) hm _ _ _ hC (lv_sub hl [2, 1, 0] rfl) (fun u_6 u_7 H locs ls hm hC hl => ?_) (fun  H locs ls hm hC hl => ?_)
  · refine lv_bipush (v := (64 : Int32)) hx hb dX7_nth_31 (by decide) ?_
    refine lv_iload_n hx hb dX7_nth_33 rfl (lv_at hl 2 rfl) ?_
    refine lv_imul hx hb dX7_nth_34 ?_
    refine lv_aload_n hx hb dX7_nth_35 rfl (lv_at hl 0 rfl) ?_
    refine D7g_1 hk fx hC k_57 dX7_nth_36 ?_
    refine lv_iload_n hx hb dX7_nth_39 rfl (lv_at hl 2 rfl) ?_
    have h_8 := (gi_in hm).1
    replace hm := (gi_in hm).2
    refine DLj fx hC (K7w hk) h_8 dX7_nth_40 ?_
    refine lv_iload_n hx hb dX7_nth_41 rfl (lv_at hl 1 rfl) ?_
    obtain ⟨r_10, e_9, hm⟩ := b1_in hm
    refine d_callSi (As := [.long (τ.2.2 (79 + k) (u_7).toNatClampNeg), .int u_6]) (rest := [.int ((64 : Int32) * u_7)]) fx sx hC dw_w (D7c_nthBit l τ (τ.2.2 (79 + k) (u_7).toNatClampNeg) u_6 e_9) k_779 D7k_nthBit D7h_nthBit ⟨rfl, rfl⟩ ⟨Nat.le_trans (Nat.le_of_ble_eq_true rfl) hR.1, Nat.le_trans (Nat.le_of_ble_eq_true rfl) hR.2⟩ hf rfl hl.1 rfl (Nat.le_of_ble_eq_true rfl) dX7_nth_42 (fun H locs hC => ?_)
    refine lv_iadd hx hb dX7_nth_45 ?_
    cases hm
    exact g_iret fx hr hC rfl dX7_nth_46
  · refine lv_iconst (v := (-1 : Int32)) hx hb dX7_nth_58 (by decide) ?_
    cases hm
    exact g_iret fx hr hC rfl dX7_nth_59
def D7s_isLike_2 {ρ : Type} (p0 : Nat) (p1 : Nat) (τ : DS) (kx24 : Option ρ) (kx32 : Option ρ) (rc : Int32 → Option ρ) (v2 : Int32) : Option ρ :=
  if (64 : Int32) ≤ v2 then (kx32) else (gi v2 64 (gi v2 64 (if (lg_cmp (τ.2.2 (79 + p0) (v2).toNatClampNeg) (τ.2.2 (79 + p1) (v2).toNatClampNeg)) = (0 : Int32) then (rc (v2 + (1 : Int32))) else (kx24))))
def D7m_isLike (k : Nat) (τ : DS) (a1 : Nat) : Option Int32 :=
  it1 (D7s_isLike_2 k a1 τ (some (0 : Int32)) (some (1 : Int32))) fuel (0 : Int32)
abbrev D7rm_isLike : Room := { frames := 0, cells := 0, slots := 0, locals := 0 }
set_option maxRecDepth 100000 in
set_option maxHeartbeats 4000000 in
theorem D7w_isLike_2 {ρ : Type} {out : ρ} {p : Program} {l : Launch} {e : Env} {R : Room} {s : State} {m : MethodId} {args : Array Value} {below : List Frame} {meth : Method} {c : Code} {cells slots : Nat} {Q : State → Prop} {D : va_G} {cy : Nat → ClassId} {ad : List Nat} {q : Nat → Nat} {X : va_W} (τ : DS) (fx : FX p s m args meth c cX7_isLike 3 RX7 D cy) (sx : SX ad s) (hR : 0 ≤ R.frames ∧ 0 ≤ R.locals) (hf : cells ≤ R.cells ∧ slots ≤ R.slots) (p0 : Nat) (hp0 : p0 < 32) (p1 : Nat) (hp1 : p1 < 32) {kx24 : Option ρ} {kx32 : Option ρ} :
    ∀ (n : Nat) (v2 : Int32), it1 (D7s_isLike_2 p0 p1 τ kx24 kx32) n v2 = some out → ∀ (H : Heap) (locs : List Loc) (ls : Array Slot), GC D (dwd cy q X) ad s τ H locs → lv_has ls 3 [(0, .ref (q (47 + p0))), (1, .ref (q (47 + p1))), (2, .int v2)] → (∀ (H : Heap) (locs : List Loc) (ls : Array Slot), kx24 = some out → GC D (dwd cy q X) ad s τ H locs → lv_has ls 3 [] → W p l e R s m args below meth c H locs cells slots Q (F0 m 24 ls [])) → (∀ (H : Heap) (locs : List Loc) (ls : Array Slot), kx32 = some out → GC D (dwd cy q X) ad s τ H locs → lv_has ls 3 [] → W p l e R s m args below meth c H locs cells slots Q (F0 m 32 ls [])) → W p l e R s m args below meth c H locs cells slots Q (F0 m 2 ls []) := by
  have hx := fx.1
  have hb := fx.2.1
  intro n
  induction n with
  | zero => intro v2 hm; exact (it1_z hm).elim
  | succ n ih9 =>
    intro v2 hm H locs ls hC hl hx24 hx32
    obtain ⟨rc, hrc⟩ : ∃ z, z = it1 (D7s_isLike_2 p0 p1 τ kx24 kx32) n := ⟨_, rfl⟩
    replace hm : D7s_isLike_2 p0 p1 τ kx24 kx32 rc v2 = some out := by rw [hrc]; exact hm
    unfold D7s_isLike_2 at hm
    refine lv_iload_n hx hb dX7_isLike_2 rfl (lv_at hl 2 rfl) ?_
    refine lv_bipush (v := (64 : Int32)) hx hb dX7_isLike_3 (by decide) ?_
    refine lv_icmp_ge (tgt := 32) hx hb dX7_isLike_5 (by decide) (fun c_1 => ?_) (fun c_1 => ?_)
    · replace hm := ifp hm c_1
      exact hx32 _ _ _ hm hC (lv_sub hl [] rfl)
    · replace hm := ifn hm c_1
      refine lv_aload_n hx hb dX7_isLike_8 rfl (lv_at hl 0 rfl) ?_
      refine D7g_1 hp0 fx hC k_57 dX7_isLike_9 ?_
      refine lv_iload_n hx hb dX7_isLike_12 rfl (lv_at hl 2 rfl) ?_
      have h_2 := (gi_in hm).1
      replace hm := (gi_in hm).2
      refine DLj fx hC (K7w hp0) h_2 dX7_isLike_13 ?_
      refine lv_aload_n hx hb dX7_isLike_14 rfl (lv_at hl 1 rfl) ?_
      refine D7g_1 hp1 fx hC k_57 dX7_isLike_15 ?_
      refine lv_iload_n hx hb dX7_isLike_18 rfl (lv_at hl 2 rfl) ?_
      have h_3 := (gi_in hm).1
      replace hm := (gi_in hm).2
      refine DLj fx hC (K7w hp1) h_3 dX7_isLike_19 ?_
      refine W.lcmp hx hb dX7_isLike_20 ?_
      refine lv_if_eq (tgt := 26) hx hb dX7_isLike_21 (by decide) (fun c_4 => ?_) (fun c_4 => ?_)
      · replace hm := ifp hm c_4
        refine lv_iinc (v := (v2 + (1 : Int32))) (lv' := [(2, .int (v2 + (1 : Int32))), (0, .ref (q (47 + p0))), (1, .ref (q (47 + p1)))]) hx hb dX7_isLike_26 hl (k := 2) rfl rfl (by decide) rfl (fun ls hl => ?_)
        refine lv_goto (tgt := 2) hx hb dX7_isLike_29 (by decide) ?_
        rw [hrc] at hm
        exact ih9 _ hm _ _ _ hC (lv_sub hl [1, 2, 0] rfl) hx24 hx32
      · replace hm := ifn hm c_4
        exact hx24 _ _ _ hm hC (lv_sub hl [] rfl)
set_option maxRecDepth 100000 in
set_option maxHeartbeats 4000000 in
theorem D7c_isLike (l : Launch) {D : va_G} {cy : Nat → ClassId} {ad : List Nat} {q : Nat → Nat} {X : va_W} (k : Nat) (hk : k < 32) (τ : DS) (a1 : Nat) (ha1 : a1 < 32) {o : Int32} (hm : D7m_isLike k τ a1 = some o) : DM l yX7_isLike cX7_isLike 3 (some .boolean) D7rm_isLike D cy (dwd cy q X) ad [.ref (q (47 + k)), .ref (q (47 + a1))] τ (some (.int (o))) τ := by
  refine d_start RX7 rfl (by decide) (Nat.le_of_ble_eq_true rfl) ?_
  intro p e s m args below meth c fx sx hr hC ls hl
  have hx := fx.1
  have hb := fx.2.1
  have hR : 0 ≤ (D7rm_isLike).frames ∧ 0 ≤ (D7rm_isLike).locals := ⟨Nat.le_refl _, Nat.le_refl _⟩
  have hf : 0 ≤ (D7rm_isLike).cells ∧ 0 ≤ (D7rm_isLike).slots := ⟨Nat.zero_le _, Nat.zero_le _⟩
  have hl : lv_has ls 3 [(0, .ref (q (47 + k))), (1, .ref (q (47 + a1)))] := hl
  unfold D7m_isLike at hm
  refine lv_iconst (v := (0 : Int32)) hx hb dX7_isLike_0 (by decide) ?_
  refine lv_istore_n (lv' := [(2, .int (0 : Int32)), (0, .ref (q (47 + k))), (1, .ref (q (47 + a1)))]) hx hb dX7_isLike_1 rfl hl (by decide) rfl (fun ls hl => ?_)
  refine D7w_isLike_2 τ fx sx hR hf k hk a1 ha1 fuel (0 : Int32) hm _ _ _ hC (lv_sub hl [1, 2, 0] rfl) (fun  H locs ls hm hC hl => ?_) (fun  H locs ls hm hC hl => ?_)
  · refine lv_iconst (v := (0 : Int32)) hx hb dX7_isLike_24 (by decide) ?_
    cases hm
    exact g_zret fx hr rfl hC rfl dX7_isLike_25
  · refine lv_iconst (v := (1 : Int32)) hx hb dX7_isLike_32 (by decide) ?_
    cases hm
    exact g_zret fx hr rfl hC rfl dX7_isLike_33
def D7m_copy (k : Nat) (τ : DS) (a1 : Nat) : Option DS :=
  nm (dY τ (79 + k) (79 + a1) ((0 : Int32)).toNatClampNeg ((0 : Int32)).toNatClampNeg ((64 : Int32)).toNatClampNeg) (fun τ_1 => some τ_1)
abbrev D7rm_copy : Room := { frames := 1, cells := 0, slots := 0, locals := 40 }
set_option maxRecDepth 100000 in
set_option maxHeartbeats 4000000 in
theorem D7c_copy (l : Launch) {D : va_G} {cy : Nat → ClassId} {ad : List Nat} {q : Nat → Nat} {X : va_W} (k : Nat) (hk : k < 32) (τ : DS) (a1 : Nat) (ha1 : a1 < 32) {o : DS} (hm : D7m_copy k τ a1 = some o) : DM l yX7_copy cX7_copy 2 none D7rm_copy D cy (dwd cy q X) ad [.ref (q (47 + k)), .ref (q (47 + a1))] τ none o := by
  refine d_start RX7 rfl (by decide) (Nat.le_of_ble_eq_true rfl) ?_
  intro p e s m args below meth c fx sx hr hC ls hl
  have hx := fx.1
  have hb := fx.2.1
  have hR : 1 ≤ (D7rm_copy).frames ∧ 40 ≤ (D7rm_copy).locals := ⟨Nat.le_refl _, Nat.le_refl _⟩
  have hf : 0 ≤ (D7rm_copy).cells ∧ 0 ≤ (D7rm_copy).slots := ⟨Nat.zero_le _, Nat.zero_le _⟩
  have hl : lv_has ls 2 [(0, .ref (q (47 + k))), (1, .ref (q (47 + a1)))] := hl
  unfold D7m_copy at hm
  refine lv_aload_n hx hb dX7_copy_0 rfl (lv_at hl 1 rfl) ?_
  refine D7g_1 ha1 fx hC k_57 dX7_copy_1 ?_
  refine lv_iconst (v := (0 : Int32)) hx hb dX7_copy_4 (by decide) ?_
  refine lv_aload_n hx hb dX7_copy_5 rfl (lv_at hl 0 rfl) ?_
  refine D7g_1 hk fx hC k_57 dX7_copy_6 ?_
  refine lv_iconst (v := (0 : Int32)) hx hb dX7_copy_9 (by decide) ?_
  refine lv_bipush (v := (64 : Int32)) hx hb dX7_copy_10 (by decide) ?_
  refine DYj (rest := []) fx hC (K7w hk) (K7w ha1) hl.1 k_532 k_533 k_534 k_535 (by decide) (by decide) (by decide) (by decide) (by decide) ⟨Nat.le_trans (Nat.le_of_ble_eq_true rfl) hR.1, Nat.le_trans (Nat.le_of_ble_eq_true rfl) hR.2⟩ dX7_copy_12 (fun H locs hC => ?_)
  obtain ⟨τ_1, e_2⟩ : ∃ z, z = (dY τ (79 + k) (79 + a1) ((0 : Int32)).toNatClampNeg ((0 : Int32)).toNatClampNeg ((64 : Int32)).toNatClampNeg) := ⟨_, rfl⟩
  rw [← e_2] at hC
  replace hm := nm_in hm e_2
  cases hm
  exact g_vret fx hr hC rfl dX7_copy_15
def D7s_takeBoth_2 {ρ : Type} (p0 : Nat) (p1 : Nat) (p2 : Nat) (kx33 : DS → Option ρ) (rc : Int32 → DS → Option ρ) (v3 : Int32) (τ : DS) : Option ρ :=
  if (64 : Int32) ≤ v3 then (kx33  τ) else (gi v3 64 (gi v3 64 (gi v3 64 (nm (dJ τ (79 + p0) (v3).toNatClampNeg ((τ.2.2 (79 + p1) (v3).toNatClampNeg) &&& (τ.2.2 (79 + p2) (v3).toNatClampNeg))) (fun τ_5 => rc (v3 + (1 : Int32)) τ_5)))))
def D7m_takeBoth (k : Nat) (τ : DS) (a1 : Nat) (a2 : Nat) : Option DS :=
  it2 (D7s_takeBoth_2 k a1 a2 (fun τ_7 => some τ_7)) fuel (0 : Int32) τ
abbrev D7rm_takeBoth : Room := { frames := 0, cells := 0, slots := 0, locals := 0 }
set_option maxRecDepth 100000 in
set_option maxHeartbeats 4000000 in
theorem D7w_takeBoth_2 {ρ : Type} {out : ρ} {p : Program} {l : Launch} {e : Env} {R : Room} {s : State} {m : MethodId} {args : Array Value} {below : List Frame} {meth : Method} {c : Code} {cells slots : Nat} {Q : State → Prop} {D : va_G} {cy : Nat → ClassId} {ad : List Nat} {q : Nat → Nat} {X : va_W} (fx : FX p s m args meth c cX7_takeBoth 4 RX7 D cy) (sx : SX ad s) (hR : 0 ≤ R.frames ∧ 0 ≤ R.locals) (hf : cells ≤ R.cells ∧ slots ≤ R.slots) (p0 : Nat) (hp0 : p0 < 32) (p1 : Nat) (hp1 : p1 < 32) (p2 : Nat) (hp2 : p2 < 32) {kx33 : DS → Option ρ} :
    ∀ (n : Nat) (v3 : Int32) (τ : DS), it2 (D7s_takeBoth_2 p0 p1 p2 kx33) n v3 τ = some out → ∀ (H : Heap) (locs : List Loc) (ls : Array Slot), GC D (dwd cy q X) ad s τ H locs → lv_has ls 4 [(0, .ref (q (47 + p0))), (1, .ref (q (47 + p1))), (2, .ref (q (47 + p2))), (3, .int v3)] → (∀ (τ2 : DS) (H : Heap) (locs : List Loc) (ls : Array Slot), kx33 τ2 = some out → GC D (dwd cy q X) ad s τ2 H locs → lv_has ls 4 [] → W p l e R s m args below meth c H locs cells slots Q (F0 m 33 ls [])) → W p l e R s m args below meth c H locs cells slots Q (F0 m 2 ls []) := by
  have hx := fx.1
  have hb := fx.2.1
  intro n
  induction n with
  | zero => intro v3 τ hm; exact (it2_z hm).elim
  | succ n ih9 =>
    intro v3 τ hm H locs ls hC hl hx33
    obtain ⟨rc, hrc⟩ : ∃ z, z = it2 (D7s_takeBoth_2 p0 p1 p2 kx33) n := ⟨_, rfl⟩
    replace hm : D7s_takeBoth_2 p0 p1 p2 kx33 rc v3 τ = some out := by rw [hrc]; exact hm
    unfold D7s_takeBoth_2 at hm
    refine lv_iload_n hx hb dX7_takeBoth_2 rfl (lv_at hl 3 rfl) ?_
    refine lv_bipush (v := (64 : Int32)) hx hb dX7_takeBoth_3 (by decide) ?_
    refine lv_icmp_ge (tgt := 33) hx hb dX7_takeBoth_5 (by decide) (fun c_1 => ?_) (fun c_1 => ?_)
    · replace hm := ifp hm c_1
      exact hx33 _ _ _ _ hm hC (lv_sub hl [] rfl)
    · replace hm := ifn hm c_1
      refine lv_aload_n hx hb dX7_takeBoth_8 rfl (lv_at hl 0 rfl) ?_
      refine D7g_1 hp0 fx hC k_57 dX7_takeBoth_9 ?_
      refine lv_iload_n hx hb dX7_takeBoth_12 rfl (lv_at hl 3 rfl) ?_
      refine lv_aload_n hx hb dX7_takeBoth_13 rfl (lv_at hl 1 rfl) ?_
      refine D7g_1 hp1 fx hC k_57 dX7_takeBoth_14 ?_
      refine lv_iload_n hx hb dX7_takeBoth_17 rfl (lv_at hl 3 rfl) ?_
      have h_2 := (gi_in hm).1
      replace hm := (gi_in hm).2
      refine DLj fx hC (K7w hp1) h_2 dX7_takeBoth_18 ?_
      refine lv_aload_n hx hb dX7_takeBoth_19 rfl (lv_at hl 2 rfl) ?_
      refine D7g_1 hp2 fx hC k_57 dX7_takeBoth_20 ?_
      refine lv_iload_n hx hb dX7_takeBoth_23 rfl (lv_at hl 3 rfl) ?_
      have h_3 := (gi_in hm).1
      replace hm := (gi_in hm).2
      refine DLj fx hC (K7w hp2) h_3 dX7_takeBoth_24 ?_
      refine lv_land hx hb dX7_takeBoth_25 ?_
      have h_4 := (gi_in hm).1
      replace hm := (gi_in hm).2
      refine DSj fx hC (K7w hp0) h_4 dX7_takeBoth_26 (fun H locs hC => ?_)
      obtain ⟨τ_5, e_6⟩ : ∃ z, z = (dJ τ (79 + p0) (v3).toNatClampNeg ((τ.2.2 (79 + p1) (v3).toNatClampNeg) &&& (τ.2.2 (79 + p2) (v3).toNatClampNeg))) := ⟨_, rfl⟩
      rw [← e_6] at hC
      replace hm := nm_in hm e_6
      refine lv_iinc (v := (v3 + (1 : Int32))) (lv' := [(3, .int (v3 + (1 : Int32))), (0, .ref (q (47 + p0))), (1, .ref (q (47 + p1))), (2, .ref (q (47 + p2)))]) hx hb dX7_takeBoth_27 hl (k := 3) rfl rfl (by decide) rfl (fun ls hl => ?_)
      refine lv_goto (tgt := 2) hx hb dX7_takeBoth_30 (by decide) ?_
      rw [hrc] at hm
      exact ih9 _ _ hm _ _ _ hC (lv_sub hl [1, 2, 3, 0] rfl) hx33
set_option maxRecDepth 100000 in
set_option maxHeartbeats 4000000 in
theorem D7c_takeBoth (l : Launch) {D : va_G} {cy : Nat → ClassId} {ad : List Nat} {q : Nat → Nat} {X : va_W} (k : Nat) (hk : k < 32) (τ : DS) (a1 : Nat) (ha1 : a1 < 32) (a2 : Nat) (ha2 : a2 < 32) {o : DS} (hm : D7m_takeBoth k τ a1 a2 = some o) : DM l yX7_takeBoth cX7_takeBoth 4 none D7rm_takeBoth D cy (dwd cy q X) ad [.ref (q (47 + k)), .ref (q (47 + a1)), .ref (q (47 + a2))] τ none o := by
  refine d_start RX7 rfl (by decide) (Nat.le_of_ble_eq_true rfl) ?_
  intro p e s m args below meth c fx sx hr hC ls hl
  have hx := fx.1
  have hb := fx.2.1
  have hR : 0 ≤ (D7rm_takeBoth).frames ∧ 0 ≤ (D7rm_takeBoth).locals := ⟨Nat.le_refl _, Nat.le_refl _⟩
  have hf : 0 ≤ (D7rm_takeBoth).cells ∧ 0 ≤ (D7rm_takeBoth).slots := ⟨Nat.zero_le _, Nat.zero_le _⟩
  have hl : lv_has ls 4 [(0, .ref (q (47 + k))), (1, .ref (q (47 + a1))), (2, .ref (q (47 + a2)))] := hl
  unfold D7m_takeBoth at hm
  refine lv_iconst (v := (0 : Int32)) hx hb dX7_takeBoth_0 (by decide) ?_
  refine lv_istore_n (lv' := [(3, .int (0 : Int32)), (0, .ref (q (47 + k))), (1, .ref (q (47 + a1))), (2, .ref (q (47 + a2)))]) hx hb dX7_takeBoth_1 rfl hl (by decide) rfl (fun ls hl => ?_)
  refine D7w_takeBoth_2 fx sx hR hf k hk a1 ha1 a2 ha2 fuel (0 : Int32) τ hm _ _ _ hC (lv_sub hl [1, 2, 3, 0] rfl) (fun τ_7 H locs ls hm hC hl => ?_)
  cases hm
  exact g_vret fx hr hC rfl dX7_takeBoth_33
def D7s_takeEither_2 {ρ : Type} (p0 : Nat) (p1 : Nat) (p2 : Nat) (kx33 : DS → Option ρ) (rc : Int32 → DS → Option ρ) (v3 : Int32) (τ : DS) : Option ρ :=
  if (64 : Int32) ≤ v3 then (kx33  τ) else (gi v3 64 (gi v3 64 (gi v3 64 (nm (dJ τ (79 + p0) (v3).toNatClampNeg ((τ.2.2 (79 + p1) (v3).toNatClampNeg) ||| (τ.2.2 (79 + p2) (v3).toNatClampNeg))) (fun τ_5 => rc (v3 + (1 : Int32)) τ_5)))))
def D7m_takeEither (k : Nat) (τ : DS) (a1 : Nat) (a2 : Nat) : Option DS :=
  it2 (D7s_takeEither_2 k a1 a2 (fun τ_7 => some τ_7)) fuel (0 : Int32) τ
abbrev D7rm_takeEither : Room := { frames := 0, cells := 0, slots := 0, locals := 0 }
set_option maxRecDepth 100000 in
set_option maxHeartbeats 4000000 in
theorem D7w_takeEither_2 {ρ : Type} {out : ρ} {p : Program} {l : Launch} {e : Env} {R : Room} {s : State} {m : MethodId} {args : Array Value} {below : List Frame} {meth : Method} {c : Code} {cells slots : Nat} {Q : State → Prop} {D : va_G} {cy : Nat → ClassId} {ad : List Nat} {q : Nat → Nat} {X : va_W} (fx : FX p s m args meth c cX7_takeEither 4 RX7 D cy) (sx : SX ad s) (hR : 0 ≤ R.frames ∧ 0 ≤ R.locals) (hf : cells ≤ R.cells ∧ slots ≤ R.slots) (p0 : Nat) (hp0 : p0 < 32) (p1 : Nat) (hp1 : p1 < 32) (p2 : Nat) (hp2 : p2 < 32) {kx33 : DS → Option ρ} :
    ∀ (n : Nat) (v3 : Int32) (τ : DS), it2 (D7s_takeEither_2 p0 p1 p2 kx33) n v3 τ = some out → ∀ (H : Heap) (locs : List Loc) (ls : Array Slot), GC D (dwd cy q X) ad s τ H locs → lv_has ls 4 [(0, .ref (q (47 + p0))), (1, .ref (q (47 + p1))), (2, .ref (q (47 + p2))), (3, .int v3)] → (∀ (τ2 : DS) (H : Heap) (locs : List Loc) (ls : Array Slot), kx33 τ2 = some out → GC D (dwd cy q X) ad s τ2 H locs → lv_has ls 4 [] → W p l e R s m args below meth c H locs cells slots Q (F0 m 33 ls [])) → W p l e R s m args below meth c H locs cells slots Q (F0 m 2 ls []) := by
  have hx := fx.1
  have hb := fx.2.1
  intro n
  induction n with
  | zero => intro v3 τ hm; exact (it2_z hm).elim
  | succ n ih9 =>
    intro v3 τ hm H locs ls hC hl hx33
    obtain ⟨rc, hrc⟩ : ∃ z, z = it2 (D7s_takeEither_2 p0 p1 p2 kx33) n := ⟨_, rfl⟩
    replace hm : D7s_takeEither_2 p0 p1 p2 kx33 rc v3 τ = some out := by rw [hrc]; exact hm
    unfold D7s_takeEither_2 at hm
    refine lv_iload_n hx hb dX7_takeEither_2 rfl (lv_at hl 3 rfl) ?_
    refine lv_bipush (v := (64 : Int32)) hx hb dX7_takeEither_3 (by decide) ?_
    refine lv_icmp_ge (tgt := 33) hx hb dX7_takeEither_5 (by decide) (fun c_1 => ?_) (fun c_1 => ?_)
    · replace hm := ifp hm c_1
      exact hx33 _ _ _ _ hm hC (lv_sub hl [] rfl)
    · replace hm := ifn hm c_1
      refine lv_aload_n hx hb dX7_takeEither_8 rfl (lv_at hl 0 rfl) ?_
      refine D7g_1 hp0 fx hC k_57 dX7_takeEither_9 ?_
      refine lv_iload_n hx hb dX7_takeEither_12 rfl (lv_at hl 3 rfl) ?_
      refine lv_aload_n hx hb dX7_takeEither_13 rfl (lv_at hl 1 rfl) ?_
      refine D7g_1 hp1 fx hC k_57 dX7_takeEither_14 ?_
      refine lv_iload_n hx hb dX7_takeEither_17 rfl (lv_at hl 3 rfl) ?_
      have h_2 := (gi_in hm).1
      replace hm := (gi_in hm).2
      refine DLj fx hC (K7w hp1) h_2 dX7_takeEither_18 ?_
      refine lv_aload_n hx hb dX7_takeEither_19 rfl (lv_at hl 2 rfl) ?_
      refine D7g_1 hp2 fx hC k_57 dX7_takeEither_20 ?_
      refine lv_iload_n hx hb dX7_takeEither_23 rfl (lv_at hl 3 rfl) ?_
      have h_3 := (gi_in hm).1
      replace hm := (gi_in hm).2
      refine DLj fx hC (K7w hp2) h_3 dX7_takeEither_24 ?_
      refine lv_lor hx hb dX7_takeEither_25 ?_
      have h_4 := (gi_in hm).1
      replace hm := (gi_in hm).2
      refine DSj fx hC (K7w hp0) h_4 dX7_takeEither_26 (fun H locs hC => ?_)
      obtain ⟨τ_5, e_6⟩ : ∃ z, z = (dJ τ (79 + p0) (v3).toNatClampNeg ((τ.2.2 (79 + p1) (v3).toNatClampNeg) ||| (τ.2.2 (79 + p2) (v3).toNatClampNeg))) := ⟨_, rfl⟩
      rw [← e_6] at hC
      replace hm := nm_in hm e_6
      refine lv_iinc (v := (v3 + (1 : Int32))) (lv' := [(3, .int (v3 + (1 : Int32))), (0, .ref (q (47 + p0))), (1, .ref (q (47 + p1))), (2, .ref (q (47 + p2)))]) hx hb dX7_takeEither_27 hl (k := 3) rfl rfl (by decide) rfl (fun ls hl => ?_)
      refine lv_goto (tgt := 2) hx hb dX7_takeEither_30 (by decide) ?_
      rw [hrc] at hm
      exact ih9 _ _ hm _ _ _ hC (lv_sub hl [1, 2, 3, 0] rfl) hx33
set_option maxRecDepth 100000 in
set_option maxHeartbeats 4000000 in
theorem D7c_takeEither (l : Launch) {D : va_G} {cy : Nat → ClassId} {ad : List Nat} {q : Nat → Nat} {X : va_W} (k : Nat) (hk : k < 32) (τ : DS) (a1 : Nat) (ha1 : a1 < 32) (a2 : Nat) (ha2 : a2 < 32) {o : DS} (hm : D7m_takeEither k τ a1 a2 = some o) : DM l yX7_takeEither cX7_takeEither 4 none D7rm_takeEither D cy (dwd cy q X) ad [.ref (q (47 + k)), .ref (q (47 + a1)), .ref (q (47 + a2))] τ none o := by
  refine d_start RX7 rfl (by decide) (Nat.le_of_ble_eq_true rfl) ?_
  intro p e s m args below meth c fx sx hr hC ls hl
  have hx := fx.1
  have hb := fx.2.1
  have hR : 0 ≤ (D7rm_takeEither).frames ∧ 0 ≤ (D7rm_takeEither).locals := ⟨Nat.le_refl _, Nat.le_refl _⟩
  have hf : 0 ≤ (D7rm_takeEither).cells ∧ 0 ≤ (D7rm_takeEither).slots := ⟨Nat.zero_le _, Nat.zero_le _⟩
  have hl : lv_has ls 4 [(0, .ref (q (47 + k))), (1, .ref (q (47 + a1))), (2, .ref (q (47 + a2)))] := hl
  unfold D7m_takeEither at hm
  refine lv_iconst (v := (0 : Int32)) hx hb dX7_takeEither_0 (by decide) ?_
  refine lv_istore_n (lv' := [(3, .int (0 : Int32)), (0, .ref (q (47 + k))), (1, .ref (q (47 + a1))), (2, .ref (q (47 + a2)))]) hx hb dX7_takeEither_1 rfl hl (by decide) rfl (fun ls hl => ?_)
  refine D7w_takeEither_2 fx sx hR hf k hk a1 ha1 a2 ha2 fuel (0 : Int32) τ hm _ _ _ hC (lv_sub hl [1, 2, 3, 0] rfl) (fun τ_7 H locs ls hm hC hl => ?_)
  cases hm
  exact g_vret fx hr hC rfl dX7_takeEither_33
def D7s_takeFirstAlone_2 {ρ : Type} (p0 : Nat) (p1 : Nat) (p2 : Nat) (kx37 : DS → Option ρ) (rc : Int32 → DS → Option ρ) (v3 : Int32) (τ : DS) : Option ρ :=
  if (64 : Int32) ≤ v3 then (kx37  τ) else (gi v3 64 (gi v3 64 (gi v3 64 (nm (dJ τ (79 + p0) (v3).toNatClampNeg ((τ.2.2 (79 + p1) (v3).toNatClampNeg) &&& ((τ.2.2 (79 + p2) (v3).toNatClampNeg) ^^^ (-1 : Int64)))) (fun τ_5 => rc (v3 + (1 : Int32)) τ_5)))))
def D7m_takeFirstAlone (k : Nat) (τ : DS) (a1 : Nat) (a2 : Nat) : Option DS :=
  it2 (D7s_takeFirstAlone_2 k a1 a2 (fun τ_7 => some τ_7)) fuel (0 : Int32) τ
abbrev D7rm_takeFirstAlone : Room := { frames := 0, cells := 0, slots := 0, locals := 0 }
set_option maxRecDepth 100000 in
set_option maxHeartbeats 4000000 in
theorem D7w_takeFirstAlone_2 {ρ : Type} {out : ρ} {p : Program} {l : Launch} {e : Env} {R : Room} {s : State} {m : MethodId} {args : Array Value} {below : List Frame} {meth : Method} {c : Code} {cells slots : Nat} {Q : State → Prop} {D : va_G} {cy : Nat → ClassId} {ad : List Nat} {q : Nat → Nat} {X : va_W} (fx : FX p s m args meth c cX7_takeFirstAlone 4 RX7 D cy) (sx : SX ad s) (hR : 0 ≤ R.frames ∧ 0 ≤ R.locals) (hf : cells ≤ R.cells ∧ slots ≤ R.slots) (p0 : Nat) (hp0 : p0 < 32) (p1 : Nat) (hp1 : p1 < 32) (p2 : Nat) (hp2 : p2 < 32) {kx37 : DS → Option ρ} :
    ∀ (n : Nat) (v3 : Int32) (τ : DS), it2 (D7s_takeFirstAlone_2 p0 p1 p2 kx37) n v3 τ = some out → ∀ (H : Heap) (locs : List Loc) (ls : Array Slot), GC D (dwd cy q X) ad s τ H locs → lv_has ls 4 [(0, .ref (q (47 + p0))), (1, .ref (q (47 + p1))), (2, .ref (q (47 + p2))), (3, .int v3)] → (∀ (τ2 : DS) (H : Heap) (locs : List Loc) (ls : Array Slot), kx37 τ2 = some out → GC D (dwd cy q X) ad s τ2 H locs → lv_has ls 4 [] → W p l e R s m args below meth c H locs cells slots Q (F0 m 37 ls [])) → W p l e R s m args below meth c H locs cells slots Q (F0 m 2 ls []) := by
  have hx := fx.1
  have hb := fx.2.1
  intro n
  induction n with
  | zero => intro v3 τ hm; exact (it2_z hm).elim
  | succ n ih9 =>
    intro v3 τ hm H locs ls hC hl hx37
    obtain ⟨rc, hrc⟩ : ∃ z, z = it2 (D7s_takeFirstAlone_2 p0 p1 p2 kx37) n := ⟨_, rfl⟩
    replace hm : D7s_takeFirstAlone_2 p0 p1 p2 kx37 rc v3 τ = some out := by rw [hrc]; exact hm
    unfold D7s_takeFirstAlone_2 at hm
    refine lv_iload_n hx hb dX7_takeFirstAlone_2 rfl (lv_at hl 3 rfl) ?_
    refine lv_bipush (v := (64 : Int32)) hx hb dX7_takeFirstAlone_3 (by decide) ?_
    refine lv_icmp_ge (tgt := 37) hx hb dX7_takeFirstAlone_5 (by decide) (fun c_1 => ?_) (fun c_1 => ?_)
    · replace hm := ifp hm c_1
      exact hx37 _ _ _ _ hm hC (lv_sub hl [] rfl)
    · replace hm := ifn hm c_1
      refine lv_aload_n hx hb dX7_takeFirstAlone_8 rfl (lv_at hl 0 rfl) ?_
      refine D7g_1 hp0 fx hC k_57 dX7_takeFirstAlone_9 ?_
      refine lv_iload_n hx hb dX7_takeFirstAlone_12 rfl (lv_at hl 3 rfl) ?_
      refine lv_aload_n hx hb dX7_takeFirstAlone_13 rfl (lv_at hl 1 rfl) ?_
      refine D7g_1 hp1 fx hC k_57 dX7_takeFirstAlone_14 ?_
      refine lv_iload_n hx hb dX7_takeFirstAlone_17 rfl (lv_at hl 3 rfl) ?_
      have h_2 := (gi_in hm).1
      replace hm := (gi_in hm).2
      refine DLj fx hC (K7w hp1) h_2 dX7_takeFirstAlone_18 ?_
      refine lv_aload_n hx hb dX7_takeFirstAlone_19 rfl (lv_at hl 2 rfl) ?_
      refine D7g_1 hp2 fx hC k_57 dX7_takeFirstAlone_20 ?_
      refine lv_iload_n hx hb dX7_takeFirstAlone_23 rfl (lv_at hl 3 rfl) ?_
      have h_3 := (gi_in hm).1
      replace hm := (gi_in hm).2
      refine DLj fx hC (K7w hp2) h_3 dX7_takeFirstAlone_24 ?_
      refine lv_ldc2 hx hb fx.2.2.2.1 (fx.2.2.2.2.1 _ k_261) dX7_takeFirstAlone_25 ?_
      refine lv_lxor hx hb dX7_takeFirstAlone_28 ?_
      refine lv_land hx hb dX7_takeFirstAlone_29 ?_
      have h_4 := (gi_in hm).1
      replace hm := (gi_in hm).2
      refine DSj fx hC (K7w hp0) h_4 dX7_takeFirstAlone_30 (fun H locs hC => ?_)
      obtain ⟨τ_5, e_6⟩ : ∃ z, z = (dJ τ (79 + p0) (v3).toNatClampNeg ((τ.2.2 (79 + p1) (v3).toNatClampNeg) &&& ((τ.2.2 (79 + p2) (v3).toNatClampNeg) ^^^ (-1 : Int64)))) := ⟨_, rfl⟩
      rw [← e_6] at hC
      replace hm := nm_in hm e_6
      refine lv_iinc (v := (v3 + (1 : Int32))) (lv' := [(3, .int (v3 + (1 : Int32))), (0, .ref (q (47 + p0))), (1, .ref (q (47 + p1))), (2, .ref (q (47 + p2)))]) hx hb dX7_takeFirstAlone_31 hl (k := 3) rfl rfl (by decide) rfl (fun ls hl => ?_)
      refine lv_goto (tgt := 2) hx hb dX7_takeFirstAlone_34 (by decide) ?_
      rw [hrc] at hm
      exact ih9 _ _ hm _ _ _ hC (lv_sub hl [1, 2, 3, 0] rfl) hx37
set_option maxRecDepth 100000 in
set_option maxHeartbeats 4000000 in
theorem D7c_takeFirstAlone (l : Launch) {D : va_G} {cy : Nat → ClassId} {ad : List Nat} {q : Nat → Nat} {X : va_W} (k : Nat) (hk : k < 32) (τ : DS) (a1 : Nat) (ha1 : a1 < 32) (a2 : Nat) (ha2 : a2 < 32) {o : DS} (hm : D7m_takeFirstAlone k τ a1 a2 = some o) : DM l yX7_takeFirstAlone cX7_takeFirstAlone 4 none D7rm_takeFirstAlone D cy (dwd cy q X) ad [.ref (q (47 + k)), .ref (q (47 + a1)), .ref (q (47 + a2))] τ none o := by
  refine d_start RX7 rfl (by decide) (Nat.le_of_ble_eq_true rfl) ?_
  intro p e s m args below meth c fx sx hr hC ls hl
  have hx := fx.1
  have hb := fx.2.1
  have hR : 0 ≤ (D7rm_takeFirstAlone).frames ∧ 0 ≤ (D7rm_takeFirstAlone).locals := ⟨Nat.le_refl _, Nat.le_refl _⟩
  have hf : 0 ≤ (D7rm_takeFirstAlone).cells ∧ 0 ≤ (D7rm_takeFirstAlone).slots := ⟨Nat.zero_le _, Nat.zero_le _⟩
  have hl : lv_has ls 4 [(0, .ref (q (47 + k))), (1, .ref (q (47 + a1))), (2, .ref (q (47 + a2)))] := hl
  unfold D7m_takeFirstAlone at hm
  refine lv_iconst (v := (0 : Int32)) hx hb dX7_takeFirstAlone_0 (by decide) ?_
  refine lv_istore_n (lv' := [(3, .int (0 : Int32)), (0, .ref (q (47 + k))), (1, .ref (q (47 + a1))), (2, .ref (q (47 + a2)))]) hx hb dX7_takeFirstAlone_1 rfl hl (by decide) rfl (fun ls hl => ?_)
  refine D7w_takeFirstAlone_2 fx sx hR hf k hk a1 ha1 a2 ha2 fuel (0 : Int32) τ hm _ _ _ hC (lv_sub hl [1, 2, 3, 0] rfl) (fun τ_7 H locs ls hm hC hl => ?_)
  cases hm
  exact g_vret fx hr hC rfl dX7_takeFirstAlone_37
def D7s_takeBy_3 {ρ : Type} (p0 : Nat) (p1 : Nat) (p2 : Int32) (p3 : Int32) (kx54 : DS → Option ρ) (rc : Int32 → DS → Option ρ) (v4 : Int32) (τ : DS) : Option ρ :=
  if (64 : Int32) ≤ v4 then (kx54  τ) else (b1 (D7m_having v4 p2) (fun r_3 => gi v4 64 (if p3 = (0 : Int32) then (gi v4 64 (nm (dJ τ (79 + p0) (v4).toNatClampNeg ((τ.2.2 (79 + p1) (v4).toNatClampNeg) &&& (r_3 ^^^ (-1 : Int64)))) (fun τ_7 => rc (v4 + (1 : Int32)) τ_7))) else (gi v4 64 (nm (dJ τ (79 + p0) (v4).toNatClampNeg ((τ.2.2 (79 + p1) (v4).toNatClampNeg) &&& r_3)) (fun τ_10 => rc (v4 + (1 : Int32)) τ_10))))))
def D7m_takeBy (k : Nat) (τ : DS) (a1 : Nat) (a2 : Int32) (a3 : Int32) : Option DS :=
  it2 (D7s_takeBy_3 k a1 a2 a3 (fun τ_12 => some τ_12)) fuel (0 : Int32) τ
abbrev D7rm_takeBy : Room := { frames := 1, cells := 0, slots := 0, locals := 21 }
set_option maxRecDepth 100000 in
set_option maxHeartbeats 4000000 in
theorem D7w_takeBy_3 {ρ : Type} {out : ρ} {p : Program} {l : Launch} {e : Env} {R : Room} {s : State} {m : MethodId} {args : Array Value} {below : List Frame} {meth : Method} {c : Code} {cells slots : Nat} {Q : State → Prop} {D : va_G} {cy : Nat → ClassId} {ad : List Nat} {q : Nat → Nat} {X : va_W} (fx : FX p s m args meth c cX7_takeBy 7 RX7 D cy) (sx : SX ad s) (hR : 1 ≤ R.frames ∧ 21 ≤ R.locals) (hf : cells ≤ R.cells ∧ slots ≤ R.slots) (p0 : Nat) (hp0 : p0 < 32) (p1 : Nat) (hp1 : p1 < 32) (p2 : Int32) (p3 : Int32) {kx54 : DS → Option ρ} :
    ∀ (n : Nat) (v4 : Int32) (τ : DS), it2 (D7s_takeBy_3 p0 p1 p2 p3 kx54) n v4 τ = some out → ∀ (H : Heap) (locs : List Loc) (ls : Array Slot), GC D (dwd cy q X) ad s τ H locs → lv_has ls 7 [(0, .ref (q (47 + p0))), (1, .ref (q (47 + p1))), (2, .int p2), (3, .int p3), (4, .int v4)] → (∀ (τ2 : DS) (H : Heap) (locs : List Loc) (ls : Array Slot), kx54 τ2 = some out → GC D (dwd cy q X) ad s τ2 H locs → lv_has ls 7 [] → W p l e R s m args below meth c H locs cells slots Q (F0 m 54 ls [])) → W p l e R s m args below meth c H locs cells slots Q (F0 m 3 ls []) := by
  have hx := fx.1
  have hb := fx.2.1
  intro n
  induction n with
  | zero => intro v4 τ hm; exact (it2_z hm).elim
  | succ n ih9 =>
    intro v4 τ hm H locs ls hC hl hx54
    obtain ⟨rc, hrc⟩ : ∃ z, z = it2 (D7s_takeBy_3 p0 p1 p2 p3 kx54) n := ⟨_, rfl⟩
    replace hm : D7s_takeBy_3 p0 p1 p2 p3 kx54 rc v4 τ = some out := by rw [hrc]; exact hm
    unfold D7s_takeBy_3 at hm
    refine lv_iload hx hb dX7_takeBy_3 (lv_at hl 4 rfl) ?_
    refine lv_bipush (v := (64 : Int32)) hx hb dX7_takeBy_5 (by decide) ?_
    refine lv_icmp_ge (tgt := 54) hx hb dX7_takeBy_7 (by decide) (fun c_1 => ?_) (fun c_1 => ?_)
    · replace hm := ifp hm c_1
      exact hx54 _ _ _ _ hm hC (lv_sub hl [] rfl)
    · replace hm := ifn hm c_1
      refine lv_iload hx hb dX7_takeBy_10 (lv_at hl 4 rfl) ?_
      refine lv_iload_n hx hb dX7_takeBy_12 rfl (lv_at hl 2 rfl) ?_
      obtain ⟨r_3, e_2, hm⟩ := b1_in hm
      refine d_callSl (As := [.int v4, .int p2]) (rest := []) fx sx hC dw_w (D7c_having l τ v4 p2 e_2) k_257 D7k_having D7h_having ⟨rfl, rfl⟩ ⟨Nat.le_trans (Nat.le_of_ble_eq_true rfl) hR.1, Nat.le_trans (Nat.le_of_ble_eq_true rfl) hR.2⟩ hf rfl hl.1 rfl (Nat.le_of_ble_eq_true rfl) dX7_takeBy_13 (fun H locs hC => ?_)
      refine lv_lstore (lv' := [(5, .long r_3), (0, .ref (q (47 + p0))), (1, .ref (q (47 + p1))), (2, .int p2), (3, .int p3), (4, .int v4)]) hx hb dX7_takeBy_16 hl (by decide) rfl (fun ls hl => ?_)
      refine lv_aload_n hx hb dX7_takeBy_18 rfl (lv_at hl 1 rfl) ?_
      refine D7g_1 hp0 fx hC k_57 dX7_takeBy_19 ?_
      refine lv_iload hx hb dX7_takeBy_22 (lv_at hl 5 rfl) ?_
      refine lv_aload_n hx hb dX7_takeBy_24 rfl (lv_at hl 2 rfl) ?_
      refine D7g_1 hp1 fx hC k_57 dX7_takeBy_25 ?_
      refine lv_iload hx hb dX7_takeBy_28 (lv_at hl 5 rfl) ?_
      have h_4 := (gi_in hm).1
      replace hm := (gi_in hm).2
      refine DLj fx hC (K7w hp1) h_4 dX7_takeBy_30 ?_
      refine lv_iload_n hx hb dX7_takeBy_31 rfl (lv_at hl 4 rfl) ?_
      refine lv_if_eq (tgt := 40) hx hb dX7_takeBy_32 (by decide) (fun c_5 => ?_) (fun c_5 => ?_)
      · replace hm := ifp hm c_5
        refine lv_lload hx hb dX7_takeBy_40 (lv_at hl 0 rfl) ?_
        refine lv_ldc2 hx hb fx.2.2.2.1 (fx.2.2.2.2.1 _ k_261) dX7_takeBy_42 ?_
        refine lv_lxor hx hb dX7_takeBy_45 ?_
        refine lv_land hx hb dX7_takeBy_46 ?_
        have h_6 := (gi_in hm).1
        replace hm := (gi_in hm).2
        refine DSj fx hC (K7w hp0) h_6 dX7_takeBy_47 (fun H locs hC => ?_)
        obtain ⟨τ_7, e_8⟩ : ∃ z, z = (dJ τ (79 + p0) (v4).toNatClampNeg ((τ.2.2 (79 + p1) (v4).toNatClampNeg) &&& (r_3 ^^^ (-1 : Int64)))) := ⟨_, rfl⟩
        rw [← e_8] at hC
        replace hm := nm_in hm e_8
        refine lv_iinc (v := (v4 + (1 : Int32))) (lv' := [(4, .int (v4 + (1 : Int32))), (5, .long r_3), (0, .ref (q (47 + p0))), (1, .ref (q (47 + p1))), (2, .int p2), (3, .int p3)]) hx hb dX7_takeBy_48 hl (k := 5) rfl rfl (by decide) rfl (fun ls hl => ?_)
        refine lv_goto (tgt := 3) hx hb dX7_takeBy_51 (by decide) ?_
        rw [hrc] at hm
        exact ih9 _ _ hm _ _ _ hC (lv_sub hl [2, 3, 4, 5, 0] rfl) hx54
      · replace hm := ifn hm c_5
        refine lv_lload hx hb dX7_takeBy_35 (lv_at hl 0 rfl) ?_
        refine lv_goto (tgt := 46) hx hb dX7_takeBy_37 (by decide) ?_
        refine lv_land hx hb dX7_takeBy_46 ?_
        have h_9 := (gi_in hm).1
        replace hm := (gi_in hm).2
        refine DSj fx hC (K7w hp0) h_9 dX7_takeBy_47 (fun H locs hC => ?_)
        obtain ⟨τ_10, e_11⟩ : ∃ z, z = (dJ τ (79 + p0) (v4).toNatClampNeg ((τ.2.2 (79 + p1) (v4).toNatClampNeg) &&& r_3)) := ⟨_, rfl⟩
        rw [← e_11] at hC
        replace hm := nm_in hm e_11
        refine lv_iinc (v := (v4 + (1 : Int32))) (lv' := [(4, .int (v4 + (1 : Int32))), (5, .long r_3), (0, .ref (q (47 + p0))), (1, .ref (q (47 + p1))), (2, .int p2), (3, .int p3)]) hx hb dX7_takeBy_48 hl (k := 5) rfl rfl (by decide) rfl (fun ls hl => ?_)
        refine lv_goto (tgt := 3) hx hb dX7_takeBy_51 (by decide) ?_
        rw [hrc] at hm
        exact ih9 _ _ hm _ _ _ hC (lv_sub hl [2, 3, 4, 5, 0] rfl) hx54
set_option maxRecDepth 100000 in
set_option maxHeartbeats 4000000 in
theorem D7c_takeBy (l : Launch) {D : va_G} {cy : Nat → ClassId} {ad : List Nat} {q : Nat → Nat} {X : va_W} (k : Nat) (hk : k < 32) (τ : DS) (a1 : Nat) (ha1 : a1 < 32) (a2 : Int32) (a3 : Int32) {o : DS} (hm : D7m_takeBy k τ a1 a2 a3 = some o) : DM l yX7_takeBy cX7_takeBy 7 none D7rm_takeBy D cy (dwd cy q X) ad [.ref (q (47 + k)), .ref (q (47 + a1)), .int a2, .int a3] τ none o := by
  refine d_start RX7 rfl (by decide) (Nat.le_of_ble_eq_true rfl) ?_
  intro p e s m args below meth c fx sx hr hC ls hl
  have hx := fx.1
  have hb := fx.2.1
  have hR : 1 ≤ (D7rm_takeBy).frames ∧ 21 ≤ (D7rm_takeBy).locals := ⟨Nat.le_refl _, Nat.le_refl _⟩
  have hf : 0 ≤ (D7rm_takeBy).cells ∧ 0 ≤ (D7rm_takeBy).slots := ⟨Nat.zero_le _, Nat.zero_le _⟩
  have hl : lv_has ls 7 [(0, .ref (q (47 + k))), (1, .ref (q (47 + a1))), (2, .int a2), (3, .int a3)] := hl
  unfold D7m_takeBy at hm
  refine lv_iconst (v := (0 : Int32)) hx hb dX7_takeBy_0 (by decide) ?_
  refine lv_istore (lv' := [(4, .int (0 : Int32)), (0, .ref (q (47 + k))), (1, .ref (q (47 + a1))), (2, .int a2), (3, .int a3)]) hx hb dX7_takeBy_1 hl (by decide) rfl (fun ls hl => ?_)
  refine D7w_takeBy_3 fx sx hR hf k hk a1 ha1 a2 a3 fuel (0 : Int32) τ hm _ _ _ hC (lv_sub hl [1, 2, 3, 4, 0] rfl) (fun τ_12 H locs ls hm hC hl => ?_)
  cases hm
  exact g_vret fx hr hC rfl dX7_takeBy_54
def D7s_raise_2 {ρ : Type} (p0 : Nat) (p1 : Nat) (p2 : Int32) (kx91 : DS → Option ρ) (rc : Int32 → DS → Option ρ) (v3 : Int32) (τ : DS) : Option ρ :=
  if (64 : Int32) ≤ v3 then (kx91  τ) else (nm (v3 &&& (((1 : Int32) <<< ((p2 - (6 : Int32)) &&& 31)) ^^^ (-1 : Int32))) (fun x_2 => if (6 : Int32) ≤ p2 then (if x_2 < (0 : Int32) then (rc (v3 + (1 : Int32)) τ) else (if v3 ≤ x_2 then (rc (v3 + (1 : Int32)) τ) else (gi v3 64 (gi x_2 64 (gi v3 64 (nm (dJ τ (79 + p0) (v3).toNatClampNeg ((τ.2.2 (79 + p0) (v3).toNatClampNeg) ||| (τ.2.2 (79 + p1) (x_2).toNatClampNeg))) (fun τ_9 => rc (v3 + (1 : Int32)) τ_9))))))) else (gi v3 64 (gi v3 64 (b1 (D7m_having v3 p2) (fun r_14 => gi v3 64 (nm (dJ τ (79 + p0) (v3).toNatClampNeg ((τ.2.2 (79 + p0) (v3).toNatClampNeg) ||| (((τ.2.2 (79 + p1) (v3).toNatClampNeg) &&& (r_14 ^^^ (-1 : Int64))) <<< ((((1 : Int32) <<< (p2 &&& 31))).toInt64 &&& 63)))) (fun τ_16 => rc (v3 + (1 : Int32)) τ_16))))))))
def D7m_raise (k : Nat) (τ : DS) (a1 : Nat) (a2 : Int32) : Option DS :=
  it2 (D7s_raise_2 k a1 a2 (fun τ_18 => some τ_18)) fuel (0 : Int32) τ
abbrev D7rm_raise : Room := { frames := 1, cells := 0, slots := 0, locals := 21 }
set_option maxRecDepth 100000 in
set_option maxHeartbeats 4000000 in
theorem D7w_raise_2 {ρ : Type} {out : ρ} {p : Program} {l : Launch} {e : Env} {R : Room} {s : State} {m : MethodId} {args : Array Value} {below : List Frame} {meth : Method} {c : Code} {cells slots : Nat} {Q : State → Prop} {D : va_G} {cy : Nat → ClassId} {ad : List Nat} {q : Nat → Nat} {X : va_W} (fx : FX p s m args meth c cX7_raise 5 RX7 D cy) (sx : SX ad s) (hR : 1 ≤ R.frames ∧ 21 ≤ R.locals) (hf : cells ≤ R.cells ∧ slots ≤ R.slots) (p0 : Nat) (hp0 : p0 < 32) (p1 : Nat) (hp1 : p1 < 32) (p2 : Int32) {kx91 : DS → Option ρ} :
    ∀ (n : Nat) (v3 : Int32) (τ : DS), it2 (D7s_raise_2 p0 p1 p2 kx91) n v3 τ = some out → ∀ (H : Heap) (locs : List Loc) (ls : Array Slot), GC D (dwd cy q X) ad s τ H locs → lv_has ls 5 [(0, .ref (q (47 + p0))), (1, .ref (q (47 + p1))), (2, .int p2), (3, .int v3)] → (∀ (τ2 : DS) (H : Heap) (locs : List Loc) (ls : Array Slot), kx91 τ2 = some out → GC D (dwd cy q X) ad s τ2 H locs → lv_has ls 5 [] → W p l e R s m args below meth c H locs cells slots Q (F0 m 91 ls [])) → W p l e R s m args below meth c H locs cells slots Q (F0 m 2 ls []) := by
  have hx := fx.1
  have hb := fx.2.1
  intro n
  induction n with
  | zero => intro v3 τ hm; exact (it2_z hm).elim
  | succ n ih9 =>
    intro v3 τ hm H locs ls hC hl hx91
    obtain ⟨rc, hrc⟩ : ∃ z, z = it2 (D7s_raise_2 p0 p1 p2 kx91) n := ⟨_, rfl⟩
    replace hm : D7s_raise_2 p0 p1 p2 kx91 rc v3 τ = some out := by rw [hrc]; exact hm
    unfold D7s_raise_2 at hm
    refine lv_iload_n hx hb dX7_raise_2 rfl (lv_at hl 3 rfl) ?_
    refine lv_bipush (v := (64 : Int32)) hx hb dX7_raise_3 (by decide) ?_
    refine lv_icmp_ge (tgt := 91) hx hb dX7_raise_5 (by decide) (fun c_1 => ?_) (fun c_1 => ?_)
    · replace hm := ifp hm c_1
      exact hx91 _ _ _ _ hm hC (lv_sub hl [] rfl)
    · replace hm := ifn hm c_1
      refine lv_iload_n hx hb dX7_raise_8 rfl (lv_at hl 3 rfl) ?_
      refine lv_iconst (v := (1 : Int32)) hx hb dX7_raise_9 (by decide) ?_
      refine lv_iload_n hx hb dX7_raise_10 rfl (lv_at hl 2 rfl) ?_
      refine lv_bipush (v := (6 : Int32)) hx hb dX7_raise_11 (by decide) ?_
      refine lv_isub hx hb dX7_raise_13 ?_
      refine lv_ishl hx hb dX7_raise_14 ?_
      refine lv_iconst (v := (-1 : Int32)) hx hb dX7_raise_15 (by decide) ?_
      refine lv_ixor hx hb dX7_raise_16 ?_
      refine lv_iand hx hb dX7_raise_17 ?_
      refine lv_topi (fun x_2 ex_2 => ?_)
      replace hm := nm_in hm ex_2
      refine lv_istore (lv' := [(4, .int x_2), (0, .ref (q (47 + p0))), (1, .ref (q (47 + p1))), (2, .int p2), (3, .int v3)]) hx hb dX7_raise_18 hl (by decide) rfl (fun ls hl => ?_)
      refine lv_iload_n hx hb dX7_raise_20 rfl (lv_at hl 3 rfl) ?_
      refine lv_bipush (v := (6 : Int32)) hx hb dX7_raise_21 (by decide) ?_
      refine lv_icmp_ge (tgt := 58) hx hb dX7_raise_23 (by decide) (fun c_3 => ?_) (fun c_3 => ?_)
      · replace hm := ifp hm c_3
        refine lv_iload hx hb dX7_raise_58 (lv_at hl 0 rfl) ?_
        refine lv_if_lt (tgt := 85) hx hb dX7_raise_60 (by decide) (fun c_4 => ?_) (fun c_4 => ?_)
        · replace hm := ifp hm c_4
          refine lv_iinc (v := (v3 + (1 : Int32))) (lv' := [(3, .int (v3 + (1 : Int32))), (4, .int x_2), (0, .ref (q (47 + p0))), (1, .ref (q (47 + p1))), (2, .int p2)]) hx hb dX7_raise_85 hl (k := 4) rfl rfl (by decide) rfl (fun ls hl => ?_)
          refine lv_goto (tgt := 2) hx hb dX7_raise_88 (by decide) ?_
          rw [hrc] at hm
          exact ih9 _ _ hm _ _ _ hC (lv_sub hl [2, 3, 4, 0] rfl) hx91
        · replace hm := ifn hm c_4
          refine lv_iload hx hb dX7_raise_63 (lv_at hl 0 rfl) ?_
          refine lv_iload_n hx hb dX7_raise_65 rfl (lv_at hl 4 rfl) ?_
          refine lv_icmp_ge (tgt := 85) hx hb dX7_raise_66 (by decide) (fun c_5 => ?_) (fun c_5 => ?_)
          · replace hm := ifp hm c_5
            refine lv_iinc (v := (v3 + (1 : Int32))) (lv' := [(3, .int (v3 + (1 : Int32))), (4, .int x_2), (0, .ref (q (47 + p0))), (1, .ref (q (47 + p1))), (2, .int p2)]) hx hb dX7_raise_85 hl (k := 4) rfl rfl (by decide) rfl (fun ls hl => ?_)
            refine lv_goto (tgt := 2) hx hb dX7_raise_88 (by decide) ?_
            rw [hrc] at hm
            exact ih9 _ _ hm _ _ _ hC (lv_sub hl [2, 3, 4, 0] rfl) hx91
          · replace hm := ifn hm c_5
            refine lv_aload_n hx hb dX7_raise_69 rfl (lv_at hl 1 rfl) ?_
            refine D7g_1 hp0 fx hC k_57 dX7_raise_70 ?_
            refine lv_iload_n hx hb dX7_raise_73 rfl (lv_at hl 4 rfl) ?_
            refine lv_dup2_11 hx hb dX7_raise_74 rfl rfl ?_
            have h_6 := (gi_in hm).1
            replace hm := (gi_in hm).2
            refine DLj fx hC (K7w hp0) h_6 dX7_raise_75 ?_
            refine lv_aload_n hx hb dX7_raise_76 rfl (lv_at hl 2 rfl) ?_
            refine D7g_1 hp1 fx hC k_57 dX7_raise_77 ?_
            refine lv_iload hx hb dX7_raise_80 (lv_at hl 0 rfl) ?_
            have h_7 := (gi_in hm).1
            replace hm := (gi_in hm).2
            refine DLj fx hC (K7w hp1) h_7 dX7_raise_82 ?_
            refine lv_lor hx hb dX7_raise_83 ?_
            have h_8 := (gi_in hm).1
            replace hm := (gi_in hm).2
            refine DSj fx hC (K7w hp0) h_8 dX7_raise_84 (fun H locs hC => ?_)
            obtain ⟨τ_9, e_10⟩ : ∃ z, z = (dJ τ (79 + p0) (v3).toNatClampNeg ((τ.2.2 (79 + p0) (v3).toNatClampNeg) ||| (τ.2.2 (79 + p1) (x_2).toNatClampNeg))) := ⟨_, rfl⟩
            rw [← e_10] at hC
            replace hm := nm_in hm e_10
            refine lv_iinc (v := (v3 + (1 : Int32))) (lv' := [(3, .int (v3 + (1 : Int32))), (4, .int x_2), (0, .ref (q (47 + p0))), (1, .ref (q (47 + p1))), (2, .int p2)]) hx hb dX7_raise_85 hl (k := 4) rfl rfl (by decide) rfl (fun ls hl => ?_)
            refine lv_goto (tgt := 2) hx hb dX7_raise_88 (by decide) ?_
            rw [hrc] at hm
            exact ih9 _ _ hm _ _ _ hC (lv_sub hl [2, 3, 4, 0] rfl) hx91
      · replace hm := ifn hm c_3
        refine lv_aload_n hx hb dX7_raise_26 rfl (lv_at hl 1 rfl) ?_
        refine D7g_1 hp0 fx hC k_57 dX7_raise_27 ?_
        refine lv_iload_n hx hb dX7_raise_30 rfl (lv_at hl 4 rfl) ?_
        refine lv_dup2_11 hx hb dX7_raise_31 rfl rfl ?_
        have h_11 := (gi_in hm).1
        replace hm := (gi_in hm).2
        refine DLj fx hC (K7w hp0) h_11 dX7_raise_32 ?_
        refine lv_aload_n hx hb dX7_raise_33 rfl (lv_at hl 2 rfl) ?_
        refine D7g_1 hp1 fx hC k_57 dX7_raise_34 ?_
        refine lv_iload_n hx hb dX7_raise_37 rfl (lv_at hl 4 rfl) ?_
        have h_12 := (gi_in hm).1
        replace hm := (gi_in hm).2
        refine DLj fx hC (K7w hp1) h_12 dX7_raise_38 ?_
        refine lv_iload_n hx hb dX7_raise_39 rfl (lv_at hl 4 rfl) ?_
        refine lv_iload_n hx hb dX7_raise_40 rfl (lv_at hl 3 rfl) ?_
        obtain ⟨r_14, e_13, hm⟩ := b1_in hm
        refine d_callSl (As := [.int v3, .int p2]) (rest := [.long (τ.2.2 (79 + p1) (v3).toNatClampNeg), .long (τ.2.2 (79 + p0) (v3).toNatClampNeg), .int v3, .ref (q (79 + p0))]) fx sx hC dw_w (D7c_having l τ v3 p2 e_13) k_257 D7k_having D7h_having ⟨rfl, rfl⟩ ⟨Nat.le_trans (Nat.le_of_ble_eq_true rfl) hR.1, Nat.le_trans (Nat.le_of_ble_eq_true rfl) hR.2⟩ hf rfl hl.1 rfl (Nat.le_of_ble_eq_true rfl) dX7_raise_41 (fun H locs hC => ?_)
        refine lv_ldc2 hx hb fx.2.2.2.1 (fx.2.2.2.2.1 _ k_261) dX7_raise_44 ?_
        refine lv_lxor hx hb dX7_raise_47 ?_
        refine lv_land hx hb dX7_raise_48 ?_
        refine lv_iconst (v := (1 : Int32)) hx hb dX7_raise_49 (by decide) ?_
        refine lv_iload_n hx hb dX7_raise_50 rfl (lv_at hl 3 rfl) ?_
        refine lv_ishl hx hb dX7_raise_51 ?_
        refine lv_lshl hx hb dX7_raise_52 rfl ?_
        refine lv_lor hx hb dX7_raise_53 ?_
        have h_15 := (gi_in hm).1
        replace hm := (gi_in hm).2
        refine DSj fx hC (K7w hp0) h_15 dX7_raise_54 (fun H locs hC => ?_)
        obtain ⟨τ_16, e_17⟩ : ∃ z, z = (dJ τ (79 + p0) (v3).toNatClampNeg ((τ.2.2 (79 + p0) (v3).toNatClampNeg) ||| (((τ.2.2 (79 + p1) (v3).toNatClampNeg) &&& (r_14 ^^^ (-1 : Int64))) <<< ((((1 : Int32) <<< (p2 &&& 31))).toInt64 &&& 63)))) := ⟨_, rfl⟩
        rw [← e_17] at hC
        replace hm := nm_in hm e_17
        refine lv_goto (tgt := 85) hx hb dX7_raise_55 (by decide) ?_
        refine lv_iinc (v := (v3 + (1 : Int32))) (lv' := [(3, .int (v3 + (1 : Int32))), (4, .int x_2), (0, .ref (q (47 + p0))), (1, .ref (q (47 + p1))), (2, .int p2)]) hx hb dX7_raise_85 hl (k := 4) rfl rfl (by decide) rfl (fun ls hl => ?_)
        refine lv_goto (tgt := 2) hx hb dX7_raise_88 (by decide) ?_
        rw [hrc] at hm
        exact ih9 _ _ hm _ _ _ hC (lv_sub hl [2, 3, 4, 0] rfl) hx91
set_option maxRecDepth 100000 in
set_option maxHeartbeats 4000000 in
theorem D7c_raise (l : Launch) {D : va_G} {cy : Nat → ClassId} {ad : List Nat} {q : Nat → Nat} {X : va_W} (k : Nat) (hk : k < 32) (τ : DS) (a1 : Nat) (ha1 : a1 < 32) (a2 : Int32) {o : DS} (hm : D7m_raise k τ a1 a2 = some o) : DM l yX7_raise cX7_raise 5 none D7rm_raise D cy (dwd cy q X) ad [.ref (q (47 + k)), .ref (q (47 + a1)), .int a2] τ none o := by
  refine d_start RX7 rfl (by decide) (Nat.le_of_ble_eq_true rfl) ?_
  intro p e s m args below meth c fx sx hr hC ls hl
  have hx := fx.1
  have hb := fx.2.1
  have hR : 1 ≤ (D7rm_raise).frames ∧ 21 ≤ (D7rm_raise).locals := ⟨Nat.le_refl _, Nat.le_refl _⟩
  have hf : 0 ≤ (D7rm_raise).cells ∧ 0 ≤ (D7rm_raise).slots := ⟨Nat.zero_le _, Nat.zero_le _⟩
  have hl : lv_has ls 5 [(0, .ref (q (47 + k))), (1, .ref (q (47 + a1))), (2, .int a2)] := hl
  unfold D7m_raise at hm
  refine lv_iconst (v := (0 : Int32)) hx hb dX7_raise_0 (by decide) ?_
  refine lv_istore_n (lv' := [(3, .int (0 : Int32)), (0, .ref (q (47 + k))), (1, .ref (q (47 + a1))), (2, .int a2)]) hx hb dX7_raise_1 rfl hl (by decide) rfl (fun ls hl => ?_)
  refine D7w_raise_2 fx sx hR hf k hk a1 ha1 a2 fuel (0 : Int32) τ hm _ _ _ hC (lv_sub hl [1, 2, 3, 0] rfl) (fun τ_18 H locs ls hm hC hl => ?_)
  cases hm
  exact g_vret fx hr hC rfl dX7_raise_91
def D7s_lower_2 {ρ : Type} (p0 : Nat) (p1 : Nat) (p2 : Int32) (kx87 : DS → Option ρ) (rc : Int32 → DS → Option ρ) (v3 : Int32) (τ : DS) : Option ρ :=
  if (64 : Int32) ≤ v3 then (kx87  τ) else (nm (v3 ||| ((1 : Int32) <<< ((p2 - (6 : Int32)) &&& 31))) (fun x_2 => if (6 : Int32) ≤ p2 then (if x_2 ≤ v3 then (rc (v3 + (1 : Int32)) τ) else (if (64 : Int32) ≤ x_2 then (rc (v3 + (1 : Int32)) τ) else (gi v3 64 (gi x_2 64 (gi v3 64 (nm (dJ τ (79 + p0) (v3).toNatClampNeg ((τ.2.2 (79 + p0) (v3).toNatClampNeg) ||| (τ.2.2 (79 + p1) (x_2).toNatClampNeg))) (fun τ_9 => rc (v3 + (1 : Int32)) τ_9))))))) else (gi v3 64 (gi v3 64 (b1 (D7m_having v3 p2) (fun r_14 => gi v3 64 (nm (dJ τ (79 + p0) (v3).toNatClampNeg ((τ.2.2 (79 + p0) (v3).toNatClampNeg) ||| ((((τ.2.2 (79 + p1) (v3).toNatClampNeg) &&& r_14)).toUInt64 >>> ((((1 : Int32) <<< (p2 &&& 31))).toInt64.toUInt64 &&& Int64.toUInt64 63)).toInt64)) (fun τ_16 => rc (v3 + (1 : Int32)) τ_16))))))))
def D7m_lower (k : Nat) (τ : DS) (a1 : Nat) (a2 : Int32) : Option DS :=
  it2 (D7s_lower_2 k a1 a2 (fun τ_18 => some τ_18)) fuel (0 : Int32) τ
abbrev D7rm_lower : Room := { frames := 1, cells := 0, slots := 0, locals := 21 }
set_option maxRecDepth 100000 in
set_option maxHeartbeats 4000000 in
theorem D7w_lower_2 {ρ : Type} {out : ρ} {p : Program} {l : Launch} {e : Env} {R : Room} {s : State} {m : MethodId} {args : Array Value} {below : List Frame} {meth : Method} {c : Code} {cells slots : Nat} {Q : State → Prop} {D : va_G} {cy : Nat → ClassId} {ad : List Nat} {q : Nat → Nat} {X : va_W} (fx : FX p s m args meth c cX7_lower 5 RX7 D cy) (sx : SX ad s) (hR : 1 ≤ R.frames ∧ 21 ≤ R.locals) (hf : cells ≤ R.cells ∧ slots ≤ R.slots) (p0 : Nat) (hp0 : p0 < 32) (p1 : Nat) (hp1 : p1 < 32) (p2 : Int32) {kx87 : DS → Option ρ} :
    ∀ (n : Nat) (v3 : Int32) (τ : DS), it2 (D7s_lower_2 p0 p1 p2 kx87) n v3 τ = some out → ∀ (H : Heap) (locs : List Loc) (ls : Array Slot), GC D (dwd cy q X) ad s τ H locs → lv_has ls 5 [(0, .ref (q (47 + p0))), (1, .ref (q (47 + p1))), (2, .int p2), (3, .int v3)] → (∀ (τ2 : DS) (H : Heap) (locs : List Loc) (ls : Array Slot), kx87 τ2 = some out → GC D (dwd cy q X) ad s τ2 H locs → lv_has ls 5 [] → W p l e R s m args below meth c H locs cells slots Q (F0 m 87 ls [])) → W p l e R s m args below meth c H locs cells slots Q (F0 m 2 ls []) := by
  have hx := fx.1
  have hb := fx.2.1
  intro n
  induction n with
  | zero => intro v3 τ hm; exact (it2_z hm).elim
  | succ n ih9 =>
    intro v3 τ hm H locs ls hC hl hx87
    obtain ⟨rc, hrc⟩ : ∃ z, z = it2 (D7s_lower_2 p0 p1 p2 kx87) n := ⟨_, rfl⟩
    replace hm : D7s_lower_2 p0 p1 p2 kx87 rc v3 τ = some out := by rw [hrc]; exact hm
    unfold D7s_lower_2 at hm
    refine lv_iload_n hx hb dX7_lower_2 rfl (lv_at hl 3 rfl) ?_
    refine lv_bipush (v := (64 : Int32)) hx hb dX7_lower_3 (by decide) ?_
    refine lv_icmp_ge (tgt := 87) hx hb dX7_lower_5 (by decide) (fun c_1 => ?_) (fun c_1 => ?_)
    · replace hm := ifp hm c_1
      exact hx87 _ _ _ _ hm hC (lv_sub hl [] rfl)
    · replace hm := ifn hm c_1
      refine lv_iload_n hx hb dX7_lower_8 rfl (lv_at hl 3 rfl) ?_
      refine lv_iconst (v := (1 : Int32)) hx hb dX7_lower_9 (by decide) ?_
      refine lv_iload_n hx hb dX7_lower_10 rfl (lv_at hl 2 rfl) ?_
      refine lv_bipush (v := (6 : Int32)) hx hb dX7_lower_11 (by decide) ?_
      refine lv_isub hx hb dX7_lower_13 ?_
      refine lv_ishl hx hb dX7_lower_14 ?_
      refine lv_ior hx hb dX7_lower_15 ?_
      refine lv_topi (fun x_2 ex_2 => ?_)
      replace hm := nm_in hm ex_2
      refine lv_istore (lv' := [(4, .int x_2), (0, .ref (q (47 + p0))), (1, .ref (q (47 + p1))), (2, .int p2), (3, .int v3)]) hx hb dX7_lower_16 hl (by decide) rfl (fun ls hl => ?_)
      refine lv_iload_n hx hb dX7_lower_18 rfl (lv_at hl 3 rfl) ?_
      refine lv_bipush (v := (6 : Int32)) hx hb dX7_lower_19 (by decide) ?_
      refine lv_icmp_ge (tgt := 52) hx hb dX7_lower_21 (by decide) (fun c_3 => ?_) (fun c_3 => ?_)
      · replace hm := ifp hm c_3
        refine lv_iload hx hb dX7_lower_52 (lv_at hl 0 rfl) ?_
        refine lv_iload_n hx hb dX7_lower_54 rfl (lv_at hl 4 rfl) ?_
        refine lv_icmp_le (tgt := 81) hx hb dX7_lower_55 (by decide) (fun c_4 => ?_) (fun c_4 => ?_)
        · replace hm := ifp hm c_4
          refine lv_iinc (v := (v3 + (1 : Int32))) (lv' := [(3, .int (v3 + (1 : Int32))), (4, .int x_2), (0, .ref (q (47 + p0))), (1, .ref (q (47 + p1))), (2, .int p2)]) hx hb dX7_lower_81 hl (k := 4) rfl rfl (by decide) rfl (fun ls hl => ?_)
          refine lv_goto (tgt := 2) hx hb dX7_lower_84 (by decide) ?_
          rw [hrc] at hm
          exact ih9 _ _ hm _ _ _ hC (lv_sub hl [2, 3, 4, 0] rfl) hx87
        · replace hm := ifn hm c_4
          refine lv_iload hx hb dX7_lower_58 (lv_at hl 0 rfl) ?_
          refine lv_bipush (v := (64 : Int32)) hx hb dX7_lower_60 (by decide) ?_
          refine lv_icmp_ge (tgt := 81) hx hb dX7_lower_62 (by decide) (fun c_5 => ?_) (fun c_5 => ?_)
          · replace hm := ifp hm c_5
            refine lv_iinc (v := (v3 + (1 : Int32))) (lv' := [(3, .int (v3 + (1 : Int32))), (4, .int x_2), (0, .ref (q (47 + p0))), (1, .ref (q (47 + p1))), (2, .int p2)]) hx hb dX7_lower_81 hl (k := 4) rfl rfl (by decide) rfl (fun ls hl => ?_)
            refine lv_goto (tgt := 2) hx hb dX7_lower_84 (by decide) ?_
            rw [hrc] at hm
            exact ih9 _ _ hm _ _ _ hC (lv_sub hl [2, 3, 4, 0] rfl) hx87
          · replace hm := ifn hm c_5
            refine lv_aload_n hx hb dX7_lower_65 rfl (lv_at hl 1 rfl) ?_
            refine D7g_1 hp0 fx hC k_57 dX7_lower_66 ?_
            refine lv_iload_n hx hb dX7_lower_69 rfl (lv_at hl 4 rfl) ?_
            refine lv_dup2_11 hx hb dX7_lower_70 rfl rfl ?_
            have h_6 := (gi_in hm).1
            replace hm := (gi_in hm).2
            refine DLj fx hC (K7w hp0) h_6 dX7_lower_71 ?_
            refine lv_aload_n hx hb dX7_lower_72 rfl (lv_at hl 2 rfl) ?_
            refine D7g_1 hp1 fx hC k_57 dX7_lower_73 ?_
            refine lv_iload hx hb dX7_lower_76 (lv_at hl 0 rfl) ?_
            have h_7 := (gi_in hm).1
            replace hm := (gi_in hm).2
            refine DLj fx hC (K7w hp1) h_7 dX7_lower_78 ?_
            refine lv_lor hx hb dX7_lower_79 ?_
            have h_8 := (gi_in hm).1
            replace hm := (gi_in hm).2
            refine DSj fx hC (K7w hp0) h_8 dX7_lower_80 (fun H locs hC => ?_)
            obtain ⟨τ_9, e_10⟩ : ∃ z, z = (dJ τ (79 + p0) (v3).toNatClampNeg ((τ.2.2 (79 + p0) (v3).toNatClampNeg) ||| (τ.2.2 (79 + p1) (x_2).toNatClampNeg))) := ⟨_, rfl⟩
            rw [← e_10] at hC
            replace hm := nm_in hm e_10
            refine lv_iinc (v := (v3 + (1 : Int32))) (lv' := [(3, .int (v3 + (1 : Int32))), (4, .int x_2), (0, .ref (q (47 + p0))), (1, .ref (q (47 + p1))), (2, .int p2)]) hx hb dX7_lower_81 hl (k := 4) rfl rfl (by decide) rfl (fun ls hl => ?_)
            refine lv_goto (tgt := 2) hx hb dX7_lower_84 (by decide) ?_
            rw [hrc] at hm
            exact ih9 _ _ hm _ _ _ hC (lv_sub hl [2, 3, 4, 0] rfl) hx87
      · replace hm := ifn hm c_3
        refine lv_aload_n hx hb dX7_lower_24 rfl (lv_at hl 1 rfl) ?_
        refine D7g_1 hp0 fx hC k_57 dX7_lower_25 ?_
        refine lv_iload_n hx hb dX7_lower_28 rfl (lv_at hl 4 rfl) ?_
        refine lv_dup2_11 hx hb dX7_lower_29 rfl rfl ?_
        have h_11 := (gi_in hm).1
        replace hm := (gi_in hm).2
        refine DLj fx hC (K7w hp0) h_11 dX7_lower_30 ?_
        refine lv_aload_n hx hb dX7_lower_31 rfl (lv_at hl 2 rfl) ?_
        refine D7g_1 hp1 fx hC k_57 dX7_lower_32 ?_
        refine lv_iload_n hx hb dX7_lower_35 rfl (lv_at hl 4 rfl) ?_
        have h_12 := (gi_in hm).1
        replace hm := (gi_in hm).2
        refine DLj fx hC (K7w hp1) h_12 dX7_lower_36 ?_
        refine lv_iload_n hx hb dX7_lower_37 rfl (lv_at hl 4 rfl) ?_
        refine lv_iload_n hx hb dX7_lower_38 rfl (lv_at hl 3 rfl) ?_
        obtain ⟨r_14, e_13, hm⟩ := b1_in hm
        refine d_callSl (As := [.int v3, .int p2]) (rest := [.long (τ.2.2 (79 + p1) (v3).toNatClampNeg), .long (τ.2.2 (79 + p0) (v3).toNatClampNeg), .int v3, .ref (q (79 + p0))]) fx sx hC dw_w (D7c_having l τ v3 p2 e_13) k_257 D7k_having D7h_having ⟨rfl, rfl⟩ ⟨Nat.le_trans (Nat.le_of_ble_eq_true rfl) hR.1, Nat.le_trans (Nat.le_of_ble_eq_true rfl) hR.2⟩ hf rfl hl.1 rfl (Nat.le_of_ble_eq_true rfl) dX7_lower_39 (fun H locs hC => ?_)
        refine lv_land hx hb dX7_lower_42 ?_
        refine lv_iconst (v := (1 : Int32)) hx hb dX7_lower_43 (by decide) ?_
        refine lv_iload_n hx hb dX7_lower_44 rfl (lv_at hl 3 rfl) ?_
        refine lv_ishl hx hb dX7_lower_45 ?_
        refine lv_lushr hx hb dX7_lower_46 rfl ?_
        refine lv_lor hx hb dX7_lower_47 ?_
        have h_15 := (gi_in hm).1
        replace hm := (gi_in hm).2
        refine DSj fx hC (K7w hp0) h_15 dX7_lower_48 (fun H locs hC => ?_)
        obtain ⟨τ_16, e_17⟩ : ∃ z, z = (dJ τ (79 + p0) (v3).toNatClampNeg ((τ.2.2 (79 + p0) (v3).toNatClampNeg) ||| ((((τ.2.2 (79 + p1) (v3).toNatClampNeg) &&& r_14)).toUInt64 >>> ((((1 : Int32) <<< (p2 &&& 31))).toInt64.toUInt64 &&& Int64.toUInt64 63)).toInt64)) := ⟨_, rfl⟩
        rw [← e_17] at hC
        replace hm := nm_in hm e_17
        refine lv_goto (tgt := 81) hx hb dX7_lower_49 (by decide) ?_
        refine lv_iinc (v := (v3 + (1 : Int32))) (lv' := [(3, .int (v3 + (1 : Int32))), (4, .int x_2), (0, .ref (q (47 + p0))), (1, .ref (q (47 + p1))), (2, .int p2)]) hx hb dX7_lower_81 hl (k := 4) rfl rfl (by decide) rfl (fun ls hl => ?_)
        refine lv_goto (tgt := 2) hx hb dX7_lower_84 (by decide) ?_
        rw [hrc] at hm
        exact ih9 _ _ hm _ _ _ hC (lv_sub hl [2, 3, 4, 0] rfl) hx87
set_option maxRecDepth 100000 in
set_option maxHeartbeats 4000000 in
theorem D7c_lower (l : Launch) {D : va_G} {cy : Nat → ClassId} {ad : List Nat} {q : Nat → Nat} {X : va_W} (k : Nat) (hk : k < 32) (τ : DS) (a1 : Nat) (ha1 : a1 < 32) (a2 : Int32) {o : DS} (hm : D7m_lower k τ a1 a2 = some o) : DM l yX7_lower cX7_lower 5 none D7rm_lower D cy (dwd cy q X) ad [.ref (q (47 + k)), .ref (q (47 + a1)), .int a2] τ none o := by
  refine d_start RX7 rfl (by decide) (Nat.le_of_ble_eq_true rfl) ?_
  intro p e s m args below meth c fx sx hr hC ls hl
  have hx := fx.1
  have hb := fx.2.1
  have hR : 1 ≤ (D7rm_lower).frames ∧ 21 ≤ (D7rm_lower).locals := ⟨Nat.le_refl _, Nat.le_refl _⟩
  have hf : 0 ≤ (D7rm_lower).cells ∧ 0 ≤ (D7rm_lower).slots := ⟨Nat.zero_le _, Nat.zero_le _⟩
  have hl : lv_has ls 5 [(0, .ref (q (47 + k))), (1, .ref (q (47 + a1))), (2, .int a2)] := hl
  unfold D7m_lower at hm
  refine lv_iconst (v := (0 : Int32)) hx hb dX7_lower_0 (by decide) ?_
  refine lv_istore_n (lv' := [(3, .int (0 : Int32)), (0, .ref (q (47 + k))), (1, .ref (q (47 + a1))), (2, .int a2)]) hx hb dX7_lower_1 rfl hl (by decide) rfl (fun ls hl => ?_)
  refine D7w_lower_2 fx sx hR hf k hk a1 ha1 a2 fuel (0 : Int32) τ hm _ _ _ hC (lv_sub hl [1, 2, 3, 0] rfl) (fun τ_18 H locs ls hm hC hl => ?_)
  cases hm
  exact g_vret fx hr hC rfl dX7_lower_87
def D7s_spreadUp_2 {ρ : Type} (p0 : Nat) (kx20 : DS → Option ρ) (rc : Int32 → DS → Option ρ) (v1 : Int32) (τ : DS) : Option ρ :=
  if (12 : Int32) ≤ v1 then (kx20  τ) else (b1 (D7m_raise p0 τ p0 v1) (fun τ_3 => rc (v1 + (1 : Int32)) τ_3))
def D7m_spreadUp (k : Nat) (τ : DS) : Option DS :=
  it2 (D7s_spreadUp_2 k (fun τ_4 => some τ_4)) fuel (0 : Int32) τ
abbrev D7rm_spreadUp : Room := { frames := 2, cells := 0, slots := 0, locals := 45 }
set_option maxRecDepth 100000 in
set_option maxHeartbeats 4000000 in
theorem D7w_spreadUp_2 {ρ : Type} {out : ρ} {p : Program} {l : Launch} {e : Env} {R : Room} {s : State} {m : MethodId} {args : Array Value} {below : List Frame} {meth : Method} {c : Code} {cells slots : Nat} {Q : State → Prop} {D : va_G} {cy : Nat → ClassId} {ad : List Nat} {q : Nat → Nat} {X : va_W} (fx : FX p s m args meth c cX7_spreadUp 2 RX7 D cy) (sx : SX ad s) (hR : 2 ≤ R.frames ∧ 45 ≤ R.locals) (hf : cells ≤ R.cells ∧ slots ≤ R.slots) (p0 : Nat) (hp0 : p0 < 32) {kx20 : DS → Option ρ} :
    ∀ (n : Nat) (v1 : Int32) (τ : DS), it2 (D7s_spreadUp_2 p0 kx20) n v1 τ = some out → ∀ (H : Heap) (locs : List Loc) (ls : Array Slot), GC D (dwd cy q X) ad s τ H locs → lv_has ls 2 [(0, .ref (q (47 + p0))), (1, .int v1)] → (∀ (τ2 : DS) (H : Heap) (locs : List Loc) (ls : Array Slot), kx20 τ2 = some out → GC D (dwd cy q X) ad s τ2 H locs → lv_has ls 2 [] → W p l e R s m args below meth c H locs cells slots Q (F0 m 20 ls [])) → W p l e R s m args below meth c H locs cells slots Q (F0 m 2 ls []) := by
  have hx := fx.1
  have hb := fx.2.1
  intro n
  induction n with
  | zero => intro v1 τ hm; exact (it2_z hm).elim
  | succ n ih9 =>
    intro v1 τ hm H locs ls hC hl hx20
    obtain ⟨rc, hrc⟩ : ∃ z, z = it2 (D7s_spreadUp_2 p0 kx20) n := ⟨_, rfl⟩
    replace hm : D7s_spreadUp_2 p0 kx20 rc v1 τ = some out := by rw [hrc]; exact hm
    unfold D7s_spreadUp_2 at hm
    refine lv_iload_n hx hb dX7_spreadUp_2 rfl (lv_at hl 1 rfl) ?_
    refine lv_bipush (v := (12 : Int32)) hx hb dX7_spreadUp_3 (by decide) ?_
    refine lv_icmp_ge (tgt := 20) hx hb dX7_spreadUp_5 (by decide) (fun c_1 => ?_) (fun c_1 => ?_)
    · replace hm := ifp hm c_1
      exact hx20 _ _ _ _ hm hC (lv_sub hl [] rfl)
    · replace hm := ifn hm c_1
      refine lv_aload_n hx hb dX7_spreadUp_8 rfl (lv_at hl 0 rfl) ?_
      refine lv_aload_n hx hb dX7_spreadUp_9 rfl (lv_at hl 0 rfl) ?_
      refine lv_iload_n hx hb dX7_spreadUp_10 rfl (lv_at hl 1 rfl) ?_
      obtain ⟨τ_3, e_2, hm⟩ := b1_in hm
      refine d_callVv (ci := 7) (As := [.ref (q (47 + p0)), .int v1]) (rest := []) fx sx hC dw_w (D7c_raise l p0 hp0 τ p0 hp0 v1 e_2) k_540 D7k_raise D7h_raise rfl rfl (O_at (K7 hp0)) ⟨rfl, rfl⟩ ⟨Nat.le_trans (Nat.le_of_ble_eq_true rfl) hR.1, Nat.le_trans (Nat.le_of_ble_eq_true rfl) hR.2⟩ hf rfl hl.1 rfl (Nat.le_of_ble_eq_true rfl) dX7_spreadUp_11 (fun H locs hC => ?_)
      refine lv_iinc (v := (v1 + (1 : Int32))) (lv' := [(1, .int (v1 + (1 : Int32))), (0, .ref (q (47 + p0)))]) hx hb dX7_spreadUp_14 hl (k := 1) rfl rfl (by decide) rfl (fun ls hl => ?_)
      refine lv_goto (tgt := 2) hx hb dX7_spreadUp_17 (by decide) ?_
      rw [hrc] at hm
      exact ih9 _ _ hm _ _ _ hC (lv_sub hl [1, 0] rfl) hx20
set_option maxRecDepth 100000 in
set_option maxHeartbeats 4000000 in
theorem D7c_spreadUp (l : Launch) {D : va_G} {cy : Nat → ClassId} {ad : List Nat} {q : Nat → Nat} {X : va_W} (k : Nat) (hk : k < 32) (τ : DS) {o : DS} (hm : D7m_spreadUp k τ = some o) : DM l yX7_spreadUp cX7_spreadUp 2 none D7rm_spreadUp D cy (dwd cy q X) ad [.ref (q (47 + k))] τ none o := by
  refine d_start RX7 rfl (by decide) (Nat.le_of_ble_eq_true rfl) ?_
  intro p e s m args below meth c fx sx hr hC ls hl
  have hx := fx.1
  have hb := fx.2.1
  have hR : 2 ≤ (D7rm_spreadUp).frames ∧ 45 ≤ (D7rm_spreadUp).locals := ⟨Nat.le_refl _, Nat.le_refl _⟩
  have hf : 0 ≤ (D7rm_spreadUp).cells ∧ 0 ≤ (D7rm_spreadUp).slots := ⟨Nat.zero_le _, Nat.zero_le _⟩
  have hl : lv_has ls 2 [(0, .ref (q (47 + k)))] := hl
  unfold D7m_spreadUp at hm
  refine lv_iconst (v := (0 : Int32)) hx hb dX7_spreadUp_0 (by decide) ?_
  refine lv_istore_n (lv' := [(1, .int (0 : Int32)), (0, .ref (q (47 + k)))]) hx hb dX7_spreadUp_1 rfl hl (by decide) rfl (fun ls hl => ?_)
  refine D7w_spreadUp_2 fx sx hR hf k hk fuel (0 : Int32) τ hm _ _ _ hC (lv_sub hl [1, 0] rfl) (fun τ_4 H locs ls hm hC hl => ?_)
  cases hm
  exact g_vret fx hr hC rfl dX7_spreadUp_20
def D7s_spreadDown_2 {ρ : Type} (p0 : Nat) (kx20 : DS → Option ρ) (rc : Int32 → DS → Option ρ) (v1 : Int32) (τ : DS) : Option ρ :=
  if (12 : Int32) ≤ v1 then (kx20  τ) else (b1 (D7m_lower p0 τ p0 v1) (fun τ_3 => rc (v1 + (1 : Int32)) τ_3))
def D7m_spreadDown (k : Nat) (τ : DS) : Option DS :=
  it2 (D7s_spreadDown_2 k (fun τ_4 => some τ_4)) fuel (0 : Int32) τ
abbrev D7rm_spreadDown : Room := { frames := 2, cells := 0, slots := 0, locals := 45 }
set_option maxRecDepth 100000 in
set_option maxHeartbeats 4000000 in
theorem D7w_spreadDown_2 {ρ : Type} {out : ρ} {p : Program} {l : Launch} {e : Env} {R : Room} {s : State} {m : MethodId} {args : Array Value} {below : List Frame} {meth : Method} {c : Code} {cells slots : Nat} {Q : State → Prop} {D : va_G} {cy : Nat → ClassId} {ad : List Nat} {q : Nat → Nat} {X : va_W} (fx : FX p s m args meth c cX7_spreadDown 2 RX7 D cy) (sx : SX ad s) (hR : 2 ≤ R.frames ∧ 45 ≤ R.locals) (hf : cells ≤ R.cells ∧ slots ≤ R.slots) (p0 : Nat) (hp0 : p0 < 32) {kx20 : DS → Option ρ} :
    ∀ (n : Nat) (v1 : Int32) (τ : DS), it2 (D7s_spreadDown_2 p0 kx20) n v1 τ = some out → ∀ (H : Heap) (locs : List Loc) (ls : Array Slot), GC D (dwd cy q X) ad s τ H locs → lv_has ls 2 [(0, .ref (q (47 + p0))), (1, .int v1)] → (∀ (τ2 : DS) (H : Heap) (locs : List Loc) (ls : Array Slot), kx20 τ2 = some out → GC D (dwd cy q X) ad s τ2 H locs → lv_has ls 2 [] → W p l e R s m args below meth c H locs cells slots Q (F0 m 20 ls [])) → W p l e R s m args below meth c H locs cells slots Q (F0 m 2 ls []) := by
  have hx := fx.1
  have hb := fx.2.1
  intro n
  induction n with
  | zero => intro v1 τ hm; exact (it2_z hm).elim
  | succ n ih9 =>
    intro v1 τ hm H locs ls hC hl hx20
    obtain ⟨rc, hrc⟩ : ∃ z, z = it2 (D7s_spreadDown_2 p0 kx20) n := ⟨_, rfl⟩
    replace hm : D7s_spreadDown_2 p0 kx20 rc v1 τ = some out := by rw [hrc]; exact hm
    unfold D7s_spreadDown_2 at hm
    refine lv_iload_n hx hb dX7_spreadDown_2 rfl (lv_at hl 1 rfl) ?_
    refine lv_bipush (v := (12 : Int32)) hx hb dX7_spreadDown_3 (by decide) ?_
    refine lv_icmp_ge (tgt := 20) hx hb dX7_spreadDown_5 (by decide) (fun c_1 => ?_) (fun c_1 => ?_)
    · replace hm := ifp hm c_1
      exact hx20 _ _ _ _ hm hC (lv_sub hl [] rfl)
    · replace hm := ifn hm c_1
      refine lv_aload_n hx hb dX7_spreadDown_8 rfl (lv_at hl 0 rfl) ?_
      refine lv_aload_n hx hb dX7_spreadDown_9 rfl (lv_at hl 0 rfl) ?_
      refine lv_iload_n hx hb dX7_spreadDown_10 rfl (lv_at hl 1 rfl) ?_
      obtain ⟨τ_3, e_2, hm⟩ := b1_in hm
      refine d_callVv (ci := 7) (As := [.ref (q (47 + p0)), .int v1]) (rest := []) fx sx hC dw_w (D7c_lower l p0 hp0 τ p0 hp0 v1 e_2) k_253 D7k_lower D7h_lower rfl rfl (O_at (K7 hp0)) ⟨rfl, rfl⟩ ⟨Nat.le_trans (Nat.le_of_ble_eq_true rfl) hR.1, Nat.le_trans (Nat.le_of_ble_eq_true rfl) hR.2⟩ hf rfl hl.1 rfl (Nat.le_of_ble_eq_true rfl) dX7_spreadDown_11 (fun H locs hC => ?_)
      refine lv_iinc (v := (v1 + (1 : Int32))) (lv' := [(1, .int (v1 + (1 : Int32))), (0, .ref (q (47 + p0)))]) hx hb dX7_spreadDown_14 hl (k := 1) rfl rfl (by decide) rfl (fun ls hl => ?_)
      refine lv_goto (tgt := 2) hx hb dX7_spreadDown_17 (by decide) ?_
      rw [hrc] at hm
      exact ih9 _ _ hm _ _ _ hC (lv_sub hl [1, 0] rfl) hx20
set_option maxRecDepth 100000 in
set_option maxHeartbeats 4000000 in
theorem D7c_spreadDown (l : Launch) {D : va_G} {cy : Nat → ClassId} {ad : List Nat} {q : Nat → Nat} {X : va_W} (k : Nat) (hk : k < 32) (τ : DS) {o : DS} (hm : D7m_spreadDown k τ = some o) : DM l yX7_spreadDown cX7_spreadDown 2 none D7rm_spreadDown D cy (dwd cy q X) ad [.ref (q (47 + k))] τ none o := by
  refine d_start RX7 rfl (by decide) (Nat.le_of_ble_eq_true rfl) ?_
  intro p e s m args below meth c fx sx hr hC ls hl
  have hx := fx.1
  have hb := fx.2.1
  have hR : 2 ≤ (D7rm_spreadDown).frames ∧ 45 ≤ (D7rm_spreadDown).locals := ⟨Nat.le_refl _, Nat.le_refl _⟩
  have hf : 0 ≤ (D7rm_spreadDown).cells ∧ 0 ≤ (D7rm_spreadDown).slots := ⟨Nat.zero_le _, Nat.zero_le _⟩
  have hl : lv_has ls 2 [(0, .ref (q (47 + k)))] := hl
  unfold D7m_spreadDown at hm
  refine lv_iconst (v := (0 : Int32)) hx hb dX7_spreadDown_0 (by decide) ?_
  refine lv_istore_n (lv' := [(1, .int (0 : Int32)), (0, .ref (q (47 + k)))]) hx hb dX7_spreadDown_1 rfl hl (by decide) rfl (fun ls hl => ?_)
  refine D7w_spreadDown_2 fx sx hR hf k hk fuel (0 : Int32) τ hm _ _ _ hC (lv_sub hl [1, 0] rfl) (fun τ_4 H locs ls hm hC hl => ?_)
  cases hm
  exact g_vret fx hr hC rfl dX7_spreadDown_20
def D7s_takeLeast_19 {ρ : Type} (p0 : Nat) (p1 : Nat) (p2 : Nat) (kx37 : DS → Option ρ) (rc : Int32 → DS → Option ρ) (v3 : Int32) (τ : DS) : Option ρ :=
  if (12 : Int32) ≤ v3 then (kx37  τ) else (b1 (D7m_raise p0 τ p2 v3) (fun τ_9 => rc (v3 + (1 : Int32)) τ_9))
def D7m_takeLeast (k : Nat) (τ : DS) (a1 : Nat) (a2 : Nat) : Option DS :=
  b1 (D7m_copy a2 τ a1) (fun τ_2 => b1 (D7m_spreadUp a2 τ_2) (fun τ_4 => b1 (J7m_fill_d0a16 τ_4 (79 + k) 64 (0 : Int64)) (fun τ_6 => it2 (D7s_takeLeast_19 k a1 a2 (fun τ_10 => b1 (D7m_takeFirstAlone k τ_10 a1 k) (fun τ_12 => some τ_12))) fuel (0 : Int32) τ_6)))
abbrev D7rm_takeLeast : Room := { frames := 3, cells := 0, slots := 0, locals := 66 }
set_option maxRecDepth 100000 in
set_option maxHeartbeats 4000000 in
theorem D7w_takeLeast_19 {ρ : Type} {out : ρ} {p : Program} {l : Launch} {e : Env} {R : Room} {s : State} {m : MethodId} {args : Array Value} {below : List Frame} {meth : Method} {c : Code} {cells slots : Nat} {Q : State → Prop} {D : va_G} {cy : Nat → ClassId} {ad : List Nat} {q : Nat → Nat} {X : va_W} (fx : FX p s m args meth c cX7_takeLeast 4 RX7 D cy) (sx : SX ad s) (hR : 3 ≤ R.frames ∧ 66 ≤ R.locals) (hf : cells ≤ R.cells ∧ slots ≤ R.slots) (p0 : Nat) (hp0 : p0 < 32) (p1 : Nat) (hp1 : p1 < 32) (p2 : Nat) (hp2 : p2 < 32) {kx37 : DS → Option ρ} :
    ∀ (n : Nat) (v3 : Int32) (τ : DS), it2 (D7s_takeLeast_19 p0 p1 p2 kx37) n v3 τ = some out → ∀ (H : Heap) (locs : List Loc) (ls : Array Slot), GC D (dwd cy q X) ad s τ H locs → lv_has ls 4 [(0, .ref (q (47 + p0))), (1, .ref (q (47 + p1))), (2, .ref (q (47 + p2))), (3, .int v3)] → (∀ (τ2 : DS) (H : Heap) (locs : List Loc) (ls : Array Slot), kx37 τ2 = some out → GC D (dwd cy q X) ad s τ2 H locs → lv_has ls 4 [(0, .ref (q (47 + p0))), (1, .ref (q (47 + p1)))] → W p l e R s m args below meth c H locs cells slots Q (F0 m 37 ls [])) → W p l e R s m args below meth c H locs cells slots Q (F0 m 19 ls []) := by
  have hx := fx.1
  have hb := fx.2.1
  intro n
  induction n with
  | zero => intro v3 τ hm; exact (it2_z hm).elim
  | succ n ih9 =>
    intro v3 τ hm H locs ls hC hl hx37
    obtain ⟨rc, hrc⟩ : ∃ z, z = it2 (D7s_takeLeast_19 p0 p1 p2 kx37) n := ⟨_, rfl⟩
    replace hm : D7s_takeLeast_19 p0 p1 p2 kx37 rc v3 τ = some out := by rw [hrc]; exact hm
    unfold D7s_takeLeast_19 at hm
    refine lv_iload_n hx hb dX7_takeLeast_19 rfl (lv_at hl 3 rfl) ?_
    refine lv_bipush (v := (12 : Int32)) hx hb dX7_takeLeast_20 (by decide) ?_
    refine lv_icmp_ge (tgt := 37) hx hb dX7_takeLeast_22 (by decide) (fun c_7 => ?_) (fun c_7 => ?_)
    · replace hm := ifp hm c_7
      exact hx37 _ _ _ _ hm hC (lv_sub hl [0, 1] rfl)
    · replace hm := ifn hm c_7
      refine lv_aload_n hx hb dX7_takeLeast_25 rfl (lv_at hl 0 rfl) ?_
      refine lv_aload_n hx hb dX7_takeLeast_26 rfl (lv_at hl 2 rfl) ?_
      refine lv_iload_n hx hb dX7_takeLeast_27 rfl (lv_at hl 3 rfl) ?_
      obtain ⟨τ_9, e_8, hm⟩ := b1_in hm
      refine d_callVv (ci := 7) (As := [.ref (q (47 + p2)), .int v3]) (rest := []) fx sx hC dw_w (D7c_raise l p0 hp0 τ p2 hp2 v3 e_8) k_540 D7k_raise D7h_raise rfl rfl (O_at (K7 hp0)) ⟨rfl, rfl⟩ ⟨Nat.le_trans (Nat.le_of_ble_eq_true rfl) hR.1, Nat.le_trans (Nat.le_of_ble_eq_true rfl) hR.2⟩ hf rfl hl.1 rfl (Nat.le_of_ble_eq_true rfl) dX7_takeLeast_28 (fun H locs hC => ?_)
      refine lv_iinc (v := (v3 + (1 : Int32))) (lv' := [(3, .int (v3 + (1 : Int32))), (0, .ref (q (47 + p0))), (1, .ref (q (47 + p1))), (2, .ref (q (47 + p2)))]) hx hb dX7_takeLeast_31 hl (k := 3) rfl rfl (by decide) rfl (fun ls hl => ?_)
      refine lv_goto (tgt := 19) hx hb dX7_takeLeast_34 (by decide) ?_
      rw [hrc] at hm
      exact ih9 _ _ hm _ _ _ hC (lv_sub hl [1, 2, 3, 0] rfl) hx37
set_option maxRecDepth 100000 in
set_option maxHeartbeats 4000000 in
theorem D7c_takeLeast (l : Launch) {D : va_G} {cy : Nat → ClassId} {ad : List Nat} {q : Nat → Nat} {X : va_W} (k : Nat) (hk : k < 32) (τ : DS) (a1 : Nat) (ha1 : a1 < 32) (a2 : Nat) (ha2 : a2 < 32) {o : DS} (hm : D7m_takeLeast k τ a1 a2 = some o) : DM l yX7_takeLeast cX7_takeLeast 4 none D7rm_takeLeast D cy (dwd cy q X) ad [.ref (q (47 + k)), .ref (q (47 + a1)), .ref (q (47 + a2))] τ none o := by
  refine d_start RX7 rfl (by decide) (Nat.le_of_ble_eq_true rfl) ?_
  intro p e s m args below meth c fx sx hr hC ls hl
  have hx := fx.1
  have hb := fx.2.1
  have hR : 3 ≤ (D7rm_takeLeast).frames ∧ 66 ≤ (D7rm_takeLeast).locals := ⟨Nat.le_refl _, Nat.le_refl _⟩
  have hf : 0 ≤ (D7rm_takeLeast).cells ∧ 0 ≤ (D7rm_takeLeast).slots := ⟨Nat.zero_le _, Nat.zero_le _⟩
  have hl : lv_has ls 4 [(0, .ref (q (47 + k))), (1, .ref (q (47 + a1))), (2, .ref (q (47 + a2)))] := hl
  unfold D7m_takeLeast at hm
  refine lv_aload_n hx hb dX7_takeLeast_0 rfl (lv_at hl 2 rfl) ?_
  refine lv_aload_n hx hb dX7_takeLeast_1 rfl (lv_at hl 1 rfl) ?_
  obtain ⟨τ_2, e_1, hm⟩ := b1_in hm
  refine d_callVv (ci := 7) (As := [.ref (q (47 + a1))]) (rest := []) fx sx hC dw_w (D7c_copy l a2 ha2 τ a1 ha1 e_1) k_581 D7k_copy D7h_copy rfl rfl (O_at (K7 ha2)) ⟨rfl, rfl⟩ ⟨Nat.le_trans (Nat.le_of_ble_eq_true rfl) hR.1, Nat.le_trans (Nat.le_of_ble_eq_true rfl) hR.2⟩ hf rfl hl.1 rfl (Nat.le_of_ble_eq_true rfl) dX7_takeLeast_2 (fun H locs hC => ?_)
  refine lv_aload_n hx hb dX7_takeLeast_5 rfl (lv_at hl 2 rfl) ?_
  obtain ⟨τ_4, e_3, hm⟩ := b1_in hm
  refine d_callVv (ci := 7) (As := []) (rest := []) fx sx hC dw_w (D7c_spreadUp l a2 ha2 τ_2 e_3) k_582 D7k_spreadUp D7h_spreadUp rfl rfl (O_at (K7 ha2)) ⟨rfl, rfl⟩ ⟨Nat.le_trans (Nat.le_of_ble_eq_true rfl) hR.1, Nat.le_trans (Nat.le_of_ble_eq_true rfl) hR.2⟩ hf rfl hl.1 rfl (Nat.le_of_ble_eq_true rfl) dX7_takeLeast_6 (fun H locs hC => ?_)
  refine lv_aload_n hx hb dX7_takeLeast_9 rfl (lv_at hl 0 rfl) ?_
  refine D7g_1 hk fx hC k_57 dX7_takeLeast_10 ?_
  refine lv_lconst (v := (0 : Int64)) hx hb dX7_takeLeast_13 (by decide) ?_
  obtain ⟨τ_6, e_5, hm⟩ := b1_in hm
  refine d_callSv (As := [.ref (q (79 + k)), .long (0 : Int64)]) (rest := []) fx sx hC dw_w (J7c_fill_d0a16 l τ_4 (79 + k) 64 (K7w hk) (0 : Int64) e_5) k_214 J7k_fill_d0a16 J7h_fill_d0a16 ⟨rfl, rfl⟩ ⟨Nat.le_trans (Nat.le_of_ble_eq_true rfl) hR.1, Nat.le_trans (Nat.le_of_ble_eq_true rfl) hR.2⟩ hf rfl hl.1 rfl (Nat.le_of_ble_eq_true rfl) dX7_takeLeast_14 (fun H locs hC => ?_)
  refine lv_iconst (v := (0 : Int32)) hx hb dX7_takeLeast_17 (by decide) ?_
  refine lv_istore_n (lv' := [(3, .int (0 : Int32)), (0, .ref (q (47 + k))), (1, .ref (q (47 + a1))), (2, .ref (q (47 + a2)))]) hx hb dX7_takeLeast_18 rfl hl (by decide) rfl (fun ls hl => ?_)
  refine D7w_takeLeast_19 fx sx hR hf k hk a1 ha1 a2 ha2 fuel (0 : Int32) τ_6 hm _ _ _ hC (lv_sub hl [1, 2, 3, 0] rfl) (fun τ_10 H locs ls hm hC hl => ?_)
  refine lv_aload_n hx hb dX7_takeLeast_37 rfl (lv_at hl 0 rfl) ?_
  refine lv_aload_n hx hb dX7_takeLeast_38 rfl (lv_at hl 1 rfl) ?_
  refine lv_aload_n hx hb dX7_takeLeast_39 rfl (lv_at hl 0 rfl) ?_
  obtain ⟨τ_12, e_11, hm⟩ := b1_in hm
  refine d_callVv (ci := 7) (As := [.ref (q (47 + a1)), .ref (q (47 + k))]) (rest := []) fx sx hC dw_w (D7c_takeFirstAlone l k hk τ_10 a1 ha1 k hk e_11) k_583 D7k_takeFirstAlone D7h_takeFirstAlone rfl rfl (O_at (K7 hk)) ⟨rfl, rfl⟩ ⟨Nat.le_trans (Nat.le_of_ble_eq_true rfl) hR.1, Nat.le_trans (Nat.le_of_ble_eq_true rfl) hR.2⟩ hf rfl hl.1 rfl (Nat.le_of_ble_eq_true rfl) dX7_takeLeast_40 (fun H locs hC => ?_)
  cases hm
  exact g_vret fx hr hC rfl dX7_takeLeast_43
def D7s_takeGreatest_19 {ρ : Type} (p0 : Nat) (p1 : Nat) (p2 : Nat) (kx37 : DS → Option ρ) (rc : Int32 → DS → Option ρ) (v3 : Int32) (τ : DS) : Option ρ :=
  if (12 : Int32) ≤ v3 then (kx37  τ) else (b1 (D7m_lower p0 τ p2 v3) (fun τ_9 => rc (v3 + (1 : Int32)) τ_9))
def D7m_takeGreatest (k : Nat) (τ : DS) (a1 : Nat) (a2 : Nat) : Option DS :=
  b1 (D7m_copy a2 τ a1) (fun τ_2 => b1 (D7m_spreadDown a2 τ_2) (fun τ_4 => b1 (J7m_fill_d0a16 τ_4 (79 + k) 64 (0 : Int64)) (fun τ_6 => it2 (D7s_takeGreatest_19 k a1 a2 (fun τ_10 => b1 (D7m_takeFirstAlone k τ_10 a1 k) (fun τ_12 => some τ_12))) fuel (0 : Int32) τ_6)))
abbrev D7rm_takeGreatest : Room := { frames := 3, cells := 0, slots := 0, locals := 66 }
set_option maxRecDepth 100000 in
set_option maxHeartbeats 4000000 in
theorem D7w_takeGreatest_19 {ρ : Type} {out : ρ} {p : Program} {l : Launch} {e : Env} {R : Room} {s : State} {m : MethodId} {args : Array Value} {below : List Frame} {meth : Method} {c : Code} {cells slots : Nat} {Q : State → Prop} {D : va_G} {cy : Nat → ClassId} {ad : List Nat} {q : Nat → Nat} {X : va_W} (fx : FX p s m args meth c cX7_takeGreatest 4 RX7 D cy) (sx : SX ad s) (hR : 3 ≤ R.frames ∧ 66 ≤ R.locals) (hf : cells ≤ R.cells ∧ slots ≤ R.slots) (p0 : Nat) (hp0 : p0 < 32) (p1 : Nat) (hp1 : p1 < 32) (p2 : Nat) (hp2 : p2 < 32) {kx37 : DS → Option ρ} :
    ∀ (n : Nat) (v3 : Int32) (τ : DS), it2 (D7s_takeGreatest_19 p0 p1 p2 kx37) n v3 τ = some out → ∀ (H : Heap) (locs : List Loc) (ls : Array Slot), GC D (dwd cy q X) ad s τ H locs → lv_has ls 4 [(0, .ref (q (47 + p0))), (1, .ref (q (47 + p1))), (2, .ref (q (47 + p2))), (3, .int v3)] → (∀ (τ2 : DS) (H : Heap) (locs : List Loc) (ls : Array Slot), kx37 τ2 = some out → GC D (dwd cy q X) ad s τ2 H locs → lv_has ls 4 [(0, .ref (q (47 + p0))), (1, .ref (q (47 + p1)))] → W p l e R s m args below meth c H locs cells slots Q (F0 m 37 ls [])) → W p l e R s m args below meth c H locs cells slots Q (F0 m 19 ls []) := by
  have hx := fx.1
  have hb := fx.2.1
  intro n
  induction n with
  | zero => intro v3 τ hm; exact (it2_z hm).elim
  | succ n ih9 =>
    intro v3 τ hm H locs ls hC hl hx37
    obtain ⟨rc, hrc⟩ : ∃ z, z = it2 (D7s_takeGreatest_19 p0 p1 p2 kx37) n := ⟨_, rfl⟩
    replace hm : D7s_takeGreatest_19 p0 p1 p2 kx37 rc v3 τ = some out := by rw [hrc]; exact hm
    unfold D7s_takeGreatest_19 at hm
    refine lv_iload_n hx hb dX7_takeGreatest_19 rfl (lv_at hl 3 rfl) ?_
    refine lv_bipush (v := (12 : Int32)) hx hb dX7_takeGreatest_20 (by decide) ?_
    refine lv_icmp_ge (tgt := 37) hx hb dX7_takeGreatest_22 (by decide) (fun c_7 => ?_) (fun c_7 => ?_)
    · replace hm := ifp hm c_7
      exact hx37 _ _ _ _ hm hC (lv_sub hl [0, 1] rfl)
    · replace hm := ifn hm c_7
      refine lv_aload_n hx hb dX7_takeGreatest_25 rfl (lv_at hl 0 rfl) ?_
      refine lv_aload_n hx hb dX7_takeGreatest_26 rfl (lv_at hl 2 rfl) ?_
      refine lv_iload_n hx hb dX7_takeGreatest_27 rfl (lv_at hl 3 rfl) ?_
      obtain ⟨τ_9, e_8, hm⟩ := b1_in hm
      refine d_callVv (ci := 7) (As := [.ref (q (47 + p2)), .int v3]) (rest := []) fx sx hC dw_w (D7c_lower l p0 hp0 τ p2 hp2 v3 e_8) k_253 D7k_lower D7h_lower rfl rfl (O_at (K7 hp0)) ⟨rfl, rfl⟩ ⟨Nat.le_trans (Nat.le_of_ble_eq_true rfl) hR.1, Nat.le_trans (Nat.le_of_ble_eq_true rfl) hR.2⟩ hf rfl hl.1 rfl (Nat.le_of_ble_eq_true rfl) dX7_takeGreatest_28 (fun H locs hC => ?_)
      refine lv_iinc (v := (v3 + (1 : Int32))) (lv' := [(3, .int (v3 + (1 : Int32))), (0, .ref (q (47 + p0))), (1, .ref (q (47 + p1))), (2, .ref (q (47 + p2)))]) hx hb dX7_takeGreatest_31 hl (k := 3) rfl rfl (by decide) rfl (fun ls hl => ?_)
      refine lv_goto (tgt := 19) hx hb dX7_takeGreatest_34 (by decide) ?_
      rw [hrc] at hm
      exact ih9 _ _ hm _ _ _ hC (lv_sub hl [1, 2, 3, 0] rfl) hx37
set_option maxRecDepth 100000 in
set_option maxHeartbeats 4000000 in
theorem D7c_takeGreatest (l : Launch) {D : va_G} {cy : Nat → ClassId} {ad : List Nat} {q : Nat → Nat} {X : va_W} (k : Nat) (hk : k < 32) (τ : DS) (a1 : Nat) (ha1 : a1 < 32) (a2 : Nat) (ha2 : a2 < 32) {o : DS} (hm : D7m_takeGreatest k τ a1 a2 = some o) : DM l yX7_takeGreatest cX7_takeGreatest 4 none D7rm_takeGreatest D cy (dwd cy q X) ad [.ref (q (47 + k)), .ref (q (47 + a1)), .ref (q (47 + a2))] τ none o := by
  refine d_start RX7 rfl (by decide) (Nat.le_of_ble_eq_true rfl) ?_
  intro p e s m args below meth c fx sx hr hC ls hl
  have hx := fx.1
  have hb := fx.2.1
  have hR : 3 ≤ (D7rm_takeGreatest).frames ∧ 66 ≤ (D7rm_takeGreatest).locals := ⟨Nat.le_refl _, Nat.le_refl _⟩
  have hf : 0 ≤ (D7rm_takeGreatest).cells ∧ 0 ≤ (D7rm_takeGreatest).slots := ⟨Nat.zero_le _, Nat.zero_le _⟩
  have hl : lv_has ls 4 [(0, .ref (q (47 + k))), (1, .ref (q (47 + a1))), (2, .ref (q (47 + a2)))] := hl
  unfold D7m_takeGreatest at hm
  refine lv_aload_n hx hb dX7_takeGreatest_0 rfl (lv_at hl 2 rfl) ?_
  refine lv_aload_n hx hb dX7_takeGreatest_1 rfl (lv_at hl 1 rfl) ?_
  obtain ⟨τ_2, e_1, hm⟩ := b1_in hm
  refine d_callVv (ci := 7) (As := [.ref (q (47 + a1))]) (rest := []) fx sx hC dw_w (D7c_copy l a2 ha2 τ a1 ha1 e_1) k_581 D7k_copy D7h_copy rfl rfl (O_at (K7 ha2)) ⟨rfl, rfl⟩ ⟨Nat.le_trans (Nat.le_of_ble_eq_true rfl) hR.1, Nat.le_trans (Nat.le_of_ble_eq_true rfl) hR.2⟩ hf rfl hl.1 rfl (Nat.le_of_ble_eq_true rfl) dX7_takeGreatest_2 (fun H locs hC => ?_)
  refine lv_aload_n hx hb dX7_takeGreatest_5 rfl (lv_at hl 2 rfl) ?_
  obtain ⟨τ_4, e_3, hm⟩ := b1_in hm
  refine d_callVv (ci := 7) (As := []) (rest := []) fx sx hC dw_w (D7c_spreadDown l a2 ha2 τ_2 e_3) k_588 D7k_spreadDown D7h_spreadDown rfl rfl (O_at (K7 ha2)) ⟨rfl, rfl⟩ ⟨Nat.le_trans (Nat.le_of_ble_eq_true rfl) hR.1, Nat.le_trans (Nat.le_of_ble_eq_true rfl) hR.2⟩ hf rfl hl.1 rfl (Nat.le_of_ble_eq_true rfl) dX7_takeGreatest_6 (fun H locs hC => ?_)
  refine lv_aload_n hx hb dX7_takeGreatest_9 rfl (lv_at hl 0 rfl) ?_
  refine D7g_1 hk fx hC k_57 dX7_takeGreatest_10 ?_
  refine lv_lconst (v := (0 : Int64)) hx hb dX7_takeGreatest_13 (by decide) ?_
  obtain ⟨τ_6, e_5, hm⟩ := b1_in hm
  refine d_callSv (As := [.ref (q (79 + k)), .long (0 : Int64)]) (rest := []) fx sx hC dw_w (J7c_fill_d0a16 l τ_4 (79 + k) 64 (K7w hk) (0 : Int64) e_5) k_214 J7k_fill_d0a16 J7h_fill_d0a16 ⟨rfl, rfl⟩ ⟨Nat.le_trans (Nat.le_of_ble_eq_true rfl) hR.1, Nat.le_trans (Nat.le_of_ble_eq_true rfl) hR.2⟩ hf rfl hl.1 rfl (Nat.le_of_ble_eq_true rfl) dX7_takeGreatest_14 (fun H locs hC => ?_)
  refine lv_iconst (v := (0 : Int32)) hx hb dX7_takeGreatest_17 (by decide) ?_
  refine lv_istore_n (lv' := [(3, .int (0 : Int32)), (0, .ref (q (47 + k))), (1, .ref (q (47 + a1))), (2, .ref (q (47 + a2)))]) hx hb dX7_takeGreatest_18 rfl hl (by decide) rfl (fun ls hl => ?_)
  refine D7w_takeGreatest_19 fx sx hR hf k hk a1 ha1 a2 ha2 fuel (0 : Int32) τ_6 hm _ _ _ hC (lv_sub hl [1, 2, 3, 0] rfl) (fun τ_10 H locs ls hm hC hl => ?_)
  refine lv_aload_n hx hb dX7_takeGreatest_37 rfl (lv_at hl 0 rfl) ?_
  refine lv_aload_n hx hb dX7_takeGreatest_38 rfl (lv_at hl 1 rfl) ?_
  refine lv_aload_n hx hb dX7_takeGreatest_39 rfl (lv_at hl 0 rfl) ?_
  obtain ⟨τ_12, e_11, hm⟩ := b1_in hm
  refine d_callVv (ci := 7) (As := [.ref (q (47 + a1)), .ref (q (47 + k))]) (rest := []) fx sx hC dw_w (D7c_takeFirstAlone l k hk τ_10 a1 ha1 k hk e_11) k_583 D7k_takeFirstAlone D7h_takeFirstAlone rfl rfl (O_at (K7 hk)) ⟨rfl, rfl⟩ ⟨Nat.le_trans (Nat.le_of_ble_eq_true rfl) hR.1, Nat.le_trans (Nat.le_of_ble_eq_true rfl) hR.2⟩ hf rfl hl.1 rfl (Nat.le_of_ble_eq_true rfl) dX7_takeGreatest_40 (fun H locs hC => ?_)
  cases hm
  exact g_vret fx hr hC rfl dX7_takeGreatest_43
def D7s_takeHitting_28 {ρ : Type} (p0 : Nat) (p2 : Nat) (p3 : Int32) (kx69 : DS → Option ρ) (rc : Int32 → DS → Option ρ) (v4 : Int32) (τ : DS) : Option ρ :=
  if ((4096 : Int32) >>> (p3 &&& 31)) ≤ v4 then (kx69  τ) else (b1 (D7m_holds p2 τ ((4095 : Int32) - (v4 <<< (p3 &&& 31)))) (fun r_13 => if r_13 = (0 : Int32) then (b1 (D7m_put p0 τ (v4 <<< (p3 &&& 31))) (fun τ_16 => rc (v4 + (1 : Int32)) τ_16)) else (rc (v4 + (1 : Int32)) τ)))
def D7m_takeHitting (k : Nat) (τ : DS) (a1 : Nat) (a2 : Nat) : Option DS :=
  b1 (D7m_copy a2 τ a1) (fun τ_2 => b1 (D7m_spreadUp a2 τ_2) (fun τ_4 => b1 (J7m_fill_d0a16 τ_4 (79 + k) 64 (0 : Int64)) (fun τ_6 => b1 (D7m_used a1 τ_6) (fun r_8 => b1 (D7m_levelsBelow r_8) (fun r_10 => it2 (D7s_takeHitting_28 k a2 r_10 (fun τ_17 => some τ_17)) fuel (0 : Int32) τ_6)))))
abbrev D7rm_takeHitting : Room := { frames := 3, cells := 0, slots := 0, locals := 66 }
set_option maxRecDepth 100000 in
set_option maxHeartbeats 4000000 in
theorem D7w_takeHitting_28 {ρ : Type} {out : ρ} {p : Program} {l : Launch} {e : Env} {R : Room} {s : State} {m : MethodId} {args : Array Value} {below : List Frame} {meth : Method} {c : Code} {cells slots : Nat} {Q : State → Prop} {D : va_G} {cy : Nat → ClassId} {ad : List Nat} {q : Nat → Nat} {X : va_W} (fx : FX p s m args meth c cX7_takeHitting 6 RX7 D cy) (sx : SX ad s) (hR : 3 ≤ R.frames ∧ 66 ≤ R.locals) (hf : cells ≤ R.cells ∧ slots ≤ R.slots) (p0 : Nat) (hp0 : p0 < 32) (p2 : Nat) (hp2 : p2 < 32) (p3 : Int32) {kx69 : DS → Option ρ} :
    ∀ (n : Nat) (v4 : Int32) (τ : DS), it2 (D7s_takeHitting_28 p0 p2 p3 kx69) n v4 τ = some out → ∀ (H : Heap) (locs : List Loc) (ls : Array Slot), GC D (dwd cy q X) ad s τ H locs → lv_has ls 6 [(0, .ref (q (47 + p0))), (2, .ref (q (47 + p2))), (3, .int p3), (4, .int v4)] → (∀ (τ2 : DS) (H : Heap) (locs : List Loc) (ls : Array Slot), kx69 τ2 = some out → GC D (dwd cy q X) ad s τ2 H locs → lv_has ls 6 [] → W p l e R s m args below meth c H locs cells slots Q (F0 m 69 ls [])) → W p l e R s m args below meth c H locs cells slots Q (F0 m 28 ls []) := by
  have hx := fx.1
  have hb := fx.2.1
  intro n
  induction n with
  | zero => intro v4 τ hm; exact (it2_z hm).elim
  | succ n ih9 =>
    intro v4 τ hm H locs ls hC hl hx69
    obtain ⟨rc, hrc⟩ : ∃ z, z = it2 (D7s_takeHitting_28 p0 p2 p3 kx69) n := ⟨_, rfl⟩
    replace hm : D7s_takeHitting_28 p0 p2 p3 kx69 rc v4 τ = some out := by rw [hrc]; exact hm
    unfold D7s_takeHitting_28 at hm
    refine lv_iload hx hb dX7_takeHitting_28 (lv_at hl 3 rfl) ?_
    refine lv_sipush (v := (4096 : Int32)) hx hb dX7_takeHitting_30 (by decide) ?_
    refine lv_iload_n hx hb dX7_takeHitting_33 rfl (lv_at hl 2 rfl) ?_
    refine lv_ishr hx hb dX7_takeHitting_34 ?_
    refine lv_icmp_ge (tgt := 69) hx hb dX7_takeHitting_35 (by decide) (fun c_11 => ?_) (fun c_11 => ?_)
    · replace hm := ifp hm c_11
      exact hx69 _ _ _ _ hm hC (lv_sub hl [] rfl)
    · replace hm := ifn hm c_11
      refine lv_iload hx hb dX7_takeHitting_38 (lv_at hl 3 rfl) ?_
      refine lv_iload_n hx hb dX7_takeHitting_40 rfl (lv_at hl 2 rfl) ?_
      refine lv_ishl hx hb dX7_takeHitting_41 ?_
      refine lv_istore (lv' := [(5, .int (v4 <<< (p3 &&& 31))), (0, .ref (q (47 + p0))), (2, .ref (q (47 + p2))), (3, .int p3), (4, .int v4)]) hx hb dX7_takeHitting_42 hl (by decide) rfl (fun ls hl => ?_)
      refine lv_aload_n hx hb dX7_takeHitting_44 rfl (lv_at hl 2 rfl) ?_
      refine lv_sipush (v := (4095 : Int32)) hx hb dX7_takeHitting_45 (by decide) ?_
      refine lv_iload hx hb dX7_takeHitting_48 (lv_at hl 0 rfl) ?_
      refine lv_isub hx hb dX7_takeHitting_50 ?_
      obtain ⟨r_13, e_12, hm⟩ := b1_in hm
      refine d_callVi (ci := 7) (As := [.int ((4095 : Int32) - (v4 <<< (p3 &&& 31)))]) (rest := []) fx sx hC dw_w (D7c_holds l p2 hp2 τ ((4095 : Int32) - (v4 <<< (p3 &&& 31))) e_12) k_523 D7k_holds D7h_holds rfl rfl (O_at (K7 hp2)) ⟨rfl, rfl⟩ ⟨Nat.le_trans (Nat.le_of_ble_eq_true rfl) hR.1, Nat.le_trans (Nat.le_of_ble_eq_true rfl) hR.2⟩ hf rfl hl.1 rfl (Nat.le_of_ble_eq_true rfl) dX7_takeHitting_51 (fun H locs hC => ?_)
      refine lv_if_ne (tgt := 63) hx hb dX7_takeHitting_54 (by decide) (fun c_14 => ?_) (fun c_14 => ?_)
      · replace hm := ifn hm c_14
        refine lv_iinc (v := (v4 + (1 : Int32))) (lv' := [(4, .int (v4 + (1 : Int32))), (5, .int (v4 <<< (p3 &&& 31))), (0, .ref (q (47 + p0))), (2, .ref (q (47 + p2))), (3, .int p3)]) hx hb dX7_takeHitting_63 hl (k := 4) rfl rfl (by decide) rfl (fun ls hl => ?_)
        refine lv_goto (tgt := 28) hx hb dX7_takeHitting_66 (by decide) ?_
        rw [hrc] at hm
        exact ih9 _ _ hm _ _ _ hC (lv_sub hl [2, 3, 4, 0] rfl) hx69
      · replace hm := ifp hm c_14
        refine lv_aload_n hx hb dX7_takeHitting_57 rfl (lv_at hl 1 rfl) ?_
        refine lv_iload hx hb dX7_takeHitting_58 (lv_at hl 0 rfl) ?_
        obtain ⟨τ_16, e_15, hm⟩ := b1_in hm
        refine d_callVv (ci := 7) (As := [.int (v4 <<< (p3 &&& 31))]) (rest := []) fx sx hC dw_w (D7c_put l p0 hp0 τ (v4 <<< (p3 &&& 31)) e_15) k_518 D7k_put D7h_put rfl rfl (O_at (K7 hp0)) ⟨rfl, rfl⟩ ⟨Nat.le_trans (Nat.le_of_ble_eq_true rfl) hR.1, Nat.le_trans (Nat.le_of_ble_eq_true rfl) hR.2⟩ hf rfl hl.1 rfl (Nat.le_of_ble_eq_true rfl) dX7_takeHitting_60 (fun H locs hC => ?_)
        refine lv_iinc (v := (v4 + (1 : Int32))) (lv' := [(4, .int (v4 + (1 : Int32))), (5, .int (v4 <<< (p3 &&& 31))), (0, .ref (q (47 + p0))), (2, .ref (q (47 + p2))), (3, .int p3)]) hx hb dX7_takeHitting_63 hl (k := 4) rfl rfl (by decide) rfl (fun ls hl => ?_)
        refine lv_goto (tgt := 28) hx hb dX7_takeHitting_66 (by decide) ?_
        rw [hrc] at hm
        exact ih9 _ _ hm _ _ _ hC (lv_sub hl [2, 3, 4, 0] rfl) hx69
set_option maxRecDepth 100000 in
set_option maxHeartbeats 4000000 in
theorem D7c_takeHitting (l : Launch) {D : va_G} {cy : Nat → ClassId} {ad : List Nat} {q : Nat → Nat} {X : va_W} (k : Nat) (hk : k < 32) (τ : DS) (a1 : Nat) (ha1 : a1 < 32) (a2 : Nat) (ha2 : a2 < 32) {o : DS} (hm : D7m_takeHitting k τ a1 a2 = some o) : DM l yX7_takeHitting cX7_takeHitting 6 none D7rm_takeHitting D cy (dwd cy q X) ad [.ref (q (47 + k)), .ref (q (47 + a1)), .ref (q (47 + a2))] τ none o := by
  refine d_start RX7 rfl (by decide) (Nat.le_of_ble_eq_true rfl) ?_
  intro p e s m args below meth c fx sx hr hC ls hl
  have hx := fx.1
  have hb := fx.2.1
  have hR : 3 ≤ (D7rm_takeHitting).frames ∧ 66 ≤ (D7rm_takeHitting).locals := ⟨Nat.le_refl _, Nat.le_refl _⟩
  have hf : 0 ≤ (D7rm_takeHitting).cells ∧ 0 ≤ (D7rm_takeHitting).slots := ⟨Nat.zero_le _, Nat.zero_le _⟩
  have hl : lv_has ls 6 [(0, .ref (q (47 + k))), (1, .ref (q (47 + a1))), (2, .ref (q (47 + a2)))] := hl
  unfold D7m_takeHitting at hm
  refine lv_aload_n hx hb dX7_takeHitting_0 rfl (lv_at hl 2 rfl) ?_
  refine lv_aload_n hx hb dX7_takeHitting_1 rfl (lv_at hl 1 rfl) ?_
  obtain ⟨τ_2, e_1, hm⟩ := b1_in hm
  refine d_callVv (ci := 7) (As := [.ref (q (47 + a1))]) (rest := []) fx sx hC dw_w (D7c_copy l a2 ha2 τ a1 ha1 e_1) k_581 D7k_copy D7h_copy rfl rfl (O_at (K7 ha2)) ⟨rfl, rfl⟩ ⟨Nat.le_trans (Nat.le_of_ble_eq_true rfl) hR.1, Nat.le_trans (Nat.le_of_ble_eq_true rfl) hR.2⟩ hf rfl hl.1 rfl (Nat.le_of_ble_eq_true rfl) dX7_takeHitting_2 (fun H locs hC => ?_)
  refine lv_aload_n hx hb dX7_takeHitting_5 rfl (lv_at hl 2 rfl) ?_
  obtain ⟨τ_4, e_3, hm⟩ := b1_in hm
  refine d_callVv (ci := 7) (As := []) (rest := []) fx sx hC dw_w (D7c_spreadUp l a2 ha2 τ_2 e_3) k_582 D7k_spreadUp D7h_spreadUp rfl rfl (O_at (K7 ha2)) ⟨rfl, rfl⟩ ⟨Nat.le_trans (Nat.le_of_ble_eq_true rfl) hR.1, Nat.le_trans (Nat.le_of_ble_eq_true rfl) hR.2⟩ hf rfl hl.1 rfl (Nat.le_of_ble_eq_true rfl) dX7_takeHitting_6 (fun H locs hC => ?_)
  refine lv_aload_n hx hb dX7_takeHitting_9 rfl (lv_at hl 0 rfl) ?_
  refine D7g_1 hk fx hC k_57 dX7_takeHitting_10 ?_
  refine lv_lconst (v := (0 : Int64)) hx hb dX7_takeHitting_13 (by decide) ?_
  obtain ⟨τ_6, e_5, hm⟩ := b1_in hm
  refine d_callSv (As := [.ref (q (79 + k)), .long (0 : Int64)]) (rest := []) fx sx hC dw_w (J7c_fill_d0a16 l τ_4 (79 + k) 64 (K7w hk) (0 : Int64) e_5) k_214 J7k_fill_d0a16 J7h_fill_d0a16 ⟨rfl, rfl⟩ ⟨Nat.le_trans (Nat.le_of_ble_eq_true rfl) hR.1, Nat.le_trans (Nat.le_of_ble_eq_true rfl) hR.2⟩ hf rfl hl.1 rfl (Nat.le_of_ble_eq_true rfl) dX7_takeHitting_14 (fun H locs hC => ?_)
  refine lv_aload_n hx hb dX7_takeHitting_17 rfl (lv_at hl 1 rfl) ?_
  obtain ⟨r_8, e_7, hm⟩ := b1_in hm
  refine d_callVi (ci := 7) (As := []) (rest := []) fx sx hC dw_w (D7c_used l a1 ha1 τ_6 e_7) k_516 D7k_used D7h_used rfl rfl (O_at (K7 ha1)) ⟨rfl, rfl⟩ ⟨Nat.le_trans (Nat.le_of_ble_eq_true rfl) hR.1, Nat.le_trans (Nat.le_of_ble_eq_true rfl) hR.2⟩ hf rfl hl.1 rfl (Nat.le_of_ble_eq_true rfl) dX7_takeHitting_18 (fun H locs hC => ?_)
  obtain ⟨r_10, e_9, hm⟩ := b1_in hm
  refine d_callSi (As := [.int r_8]) (rest := []) fx sx hC dw_w (D7c_levelsBelow l τ_6 r_8 e_9) k_593 D7k_levelsBelow D7h_levelsBelow ⟨rfl, rfl⟩ ⟨Nat.le_trans (Nat.le_of_ble_eq_true rfl) hR.1, Nat.le_trans (Nat.le_of_ble_eq_true rfl) hR.2⟩ hf rfl hl.1 rfl (Nat.le_of_ble_eq_true rfl) dX7_takeHitting_21 (fun H locs hC => ?_)
  refine lv_istore_n (lv' := [(3, .int r_10), (0, .ref (q (47 + k))), (1, .ref (q (47 + a1))), (2, .ref (q (47 + a2)))]) hx hb dX7_takeHitting_24 rfl hl (by decide) rfl (fun ls hl => ?_)
  refine lv_iconst (v := (0 : Int32)) hx hb dX7_takeHitting_25 (by decide) ?_
  refine lv_istore (lv' := [(4, .int (0 : Int32)), (3, .int r_10), (0, .ref (q (47 + k))), (1, .ref (q (47 + a1))), (2, .ref (q (47 + a2)))]) hx hb dX7_takeHitting_26 hl (by decide) rfl (fun ls hl => ?_)
  refine D7w_takeHitting_28 fx sx hR hf k hk a2 ha2 r_10 fuel (0 : Int32) τ_6 hm _ _ _ hC (lv_sub hl [2, 4, 1, 0] rfl) (fun τ_17 H locs ls hm hC hl => ?_)
  cases hm
  exact g_vret fx hr hC rfl dX7_takeHitting_69
def D7m_nextWithin (a1 : Int32) (a2 : Int32) : Int32 :=
  ((a1 - a2) &&& a2)
abbrev D7rm_nextWithin : Room := { frames := 0, cells := 0, slots := 0, locals := 0 }
set_option maxRecDepth 100000 in
set_option maxHeartbeats 4000000 in
theorem D7c_nextWithin (l : Launch) {D : va_G} {cy : Nat → ClassId} {ad : List Nat} {q : Nat → Nat} {X : va_W} (τ : DS) (a1 : Int32) (a2 : Int32) : DM l yX7_nextWithin cX7_nextWithin 2 (some .int) D7rm_nextWithin D cy (dwd cy q X) ad [.int a1, .int a2] τ (some (.int (D7m_nextWithin a1 a2))) τ := by
  refine d_start RX7 rfl (by decide) (Nat.le_of_ble_eq_true rfl) ?_
  intro p e s m args below meth c fx sx hr hC ls hl
  have hx := fx.1
  have hb := fx.2.1
  have hR : 0 ≤ (D7rm_nextWithin).frames ∧ 0 ≤ (D7rm_nextWithin).locals := ⟨Nat.le_refl _, Nat.le_refl _⟩
  have hf : 0 ≤ (D7rm_nextWithin).cells ∧ 0 ≤ (D7rm_nextWithin).slots := ⟨Nat.zero_le _, Nat.zero_le _⟩
  have hl : lv_has ls 2 [(0, .int a1), (1, .int a2)] := hl
  obtain ⟨o, hm⟩ : ∃ z, z = D7m_nextWithin a1 a2 := ⟨_, rfl⟩
  rw [← hm]
  replace hm := hm.symm
  unfold D7m_nextWithin at hm
  refine lv_iload_n hx hb dX7_nextWithin_0 rfl (lv_at hl 0 rfl) ?_
  refine lv_iload_n hx hb dX7_nextWithin_1 rfl (lv_at hl 1 rfl) ?_
  refine lv_isub hx hb dX7_nextWithin_2 ?_
  refine lv_iload_n hx hb dX7_nextWithin_3 rfl (lv_at hl 1 rfl) ?_
  refine lv_iand hx hb dX7_nextWithin_4 ?_
  exact g_iret fx hr hC (by rw [← hm]) dX7_nextWithin_5
def D7s_takeOver_35 {ρ : Type} (p0 : Nat) (p1 : Nat) (p2 : Nat) (p4 : Int32) (p5 : Int32) (kx63 : DS → Option ρ) (rc : Int32 → Int32 → DS → Option ρ) (v6 : Int32) (v7 : Int32) (τ : DS) : Option ρ :=
  if p5 ≤ v7 then (kx63  τ) else (b1 (D7m_put p0 τ v6) (fun τ_9 => rc (D7m_nextWithin v6 p4) (v7 + (1 : Int32)) τ_9))
def D7s_takeOver_93 {ρ : Type} (p0 : Nat) (p1 : Nat) (p4 : Int32) (p5 : Int32) (p7 : Int32) (p8 : Int32) (kx135 : DS → Option ρ) (rc : Int32 → Int32 → DS → Option ρ) (v6 : Int32) (v9 : Int32) (τ : DS) : Option ρ :=
  if p5 ≤ v9 then (kx135  τ) else (gi p8 4096 (b1 (D7m_holds p1 τ (v6 ||| (τ.2.1 8 (p8).toNatClampNeg))) (fun r_19 => if r_19 = (0 : Int32) then (b1 (D7m_take p0 τ v6) (fun τ_22 => rc (D7m_nextWithin v6 p4) (v9 + (1 : Int32)) τ_22)) else (rc (D7m_nextWithin v6 p4) (v9 + (1 : Int32)) τ))))
def D7s_takeOver_73 {ρ : Type} (p0 : Nat) (p1 : Nat) (p4 : Int32) (p5 : Int32) (p7 : Int32) (kx141 : DS → Option ρ) (rc : Int32 → DS → Option ρ) (v8 : Int32) (τ : DS) : Option ρ :=
  if p7 ≤ v8 then (kx141  τ) else (if (Int32.ofNat 4096) ≤ v8 then (kx141  τ) else (it3 (D7s_takeOver_93 p0 p1 p4 p5 p7 v8 (fun τ_23 => rc (v8 + (1 : Int32)) τ_23)) fuel (0 : Int32) (0 : Int32) τ))
def D7m_takeOver (k : Nat) (τ : DS) (a1 : Nat) (a2 : Nat) : Option DS :=
  b1 (J7m_fill_d0a16 τ (79 + k) 64 (0 : Int64)) (fun τ_2 => b1 (D7m_used a2 τ_2) (fun r_4 => nm ((4095 : Int32) &&& (r_4 ^^^ (-1 : Int32))) (fun x_5 => nm ((1 : Int32) <<< ((J6m_bitCount_0f7a4 x_5) &&& 31)) (fun x_6 => it3 (D7s_takeOver_35 k a1 a2 x_5 x_6 (fun τ_10 => b2 (D7m_list a2 τ_10) (fun r_13 τ_12 => it2 (D7s_takeOver_73 k a1 x_5 x_6 r_13 (fun τ_24 => some τ_24)) fuel (0 : Int32) τ_12))) fuel (0 : Int32) (0 : Int32) τ_2))))
abbrev D7rm_takeOver : Room := { frames := 3, cells := 0, slots := 0, locals := 66 }
set_option maxRecDepth 100000 in
set_option maxHeartbeats 4000000 in
theorem D7w_takeOver_35 {ρ : Type} {out : ρ} {p : Program} {l : Launch} {e : Env} {R : Room} {s : State} {m : MethodId} {args : Array Value} {below : List Frame} {meth : Method} {c : Code} {cells slots : Nat} {Q : State → Prop} {D : va_G} {cy : Nat → ClassId} {ad : List Nat} {q : Nat → Nat} {X : va_W} (fx : FX p s m args meth c cX7_takeOver 10 RX7 D cy) (sx : SX ad s) (hR : 3 ≤ R.frames ∧ 66 ≤ R.locals) (hf : cells ≤ R.cells ∧ slots ≤ R.slots) (p0 : Nat) (hp0 : p0 < 32) (p1 : Nat) (hp1 : p1 < 32) (p2 : Nat) (hp2 : p2 < 32) (p4 : Int32) (p5 : Int32) {kx63 : DS → Option ρ} :
    ∀ (n : Nat) (v6 : Int32) (v7 : Int32) (τ : DS), it3 (D7s_takeOver_35 p0 p1 p2 p4 p5 kx63) n v6 v7 τ = some out → ∀ (H : Heap) (locs : List Loc) (ls : Array Slot), GC D (dwd cy q X) ad s τ H locs → lv_has ls 10 [(0, .ref (q (47 + p0))), (1, .ref (q (47 + p1))), (2, .ref (q (47 + p2))), (3, .ref (q 8)), (4, .int p4), (5, .int p5), (6, .int v6), (7, .int v7)] → (∀ (τ2 : DS) (H : Heap) (locs : List Loc) (ls : Array Slot), kx63 τ2 = some out → GC D (dwd cy q X) ad s τ2 H locs → lv_has ls 10 [(0, .ref (q (47 + p0))), (1, .ref (q (47 + p1))), (2, .ref (q (47 + p2))), (3, .ref (q 8)), (4, .int p4), (5, .int p5)] → W p l e R s m args below meth c H locs cells slots Q (F0 m 63 ls [])) → W p l e R s m args below meth c H locs cells slots Q (F0 m 35 ls []) := by
  have hx := fx.1
  have hb := fx.2.1
  intro n
  induction n with
  | zero => intro v6 v7 τ hm; exact (it3_z hm).elim
  | succ n ih9 =>
    intro v6 v7 τ hm H locs ls hC hl hx63
    obtain ⟨rc, hrc⟩ : ∃ z, z = it3 (D7s_takeOver_35 p0 p1 p2 p4 p5 kx63) n := ⟨_, rfl⟩
    replace hm : D7s_takeOver_35 p0 p1 p2 p4 p5 kx63 rc v6 v7 τ = some out := by rw [hrc]; exact hm
    unfold D7s_takeOver_35 at hm
    refine lv_iload hx hb dX7_takeOver_35 (lv_at hl 7 rfl) ?_
    refine lv_iload hx hb dX7_takeOver_37 (lv_at hl 5 rfl) ?_
    refine lv_icmp_ge (tgt := 63) hx hb dX7_takeOver_39 (by decide) (fun c_7 => ?_) (fun c_7 => ?_)
    · replace hm := ifp hm c_7
      exact hx63 _ _ _ _ hm hC (lv_sub hl [0, 1, 2, 3, 4, 5] rfl)
    · replace hm := ifn hm c_7
      refine lv_aload_n hx hb dX7_takeOver_42 rfl (lv_at hl 0 rfl) ?_
      refine lv_iload hx hb dX7_takeOver_43 (lv_at hl 6 rfl) ?_
      obtain ⟨τ_9, e_8, hm⟩ := b1_in hm
      refine d_callVv (ci := 7) (As := [.int v6]) (rest := []) fx sx hC dw_w (D7c_put l p0 hp0 τ v6 e_8) k_518 D7k_put D7h_put rfl rfl (O_at (K7 hp0)) ⟨rfl, rfl⟩ ⟨Nat.le_trans (Nat.le_of_ble_eq_true rfl) hR.1, Nat.le_trans (Nat.le_of_ble_eq_true rfl) hR.2⟩ hf rfl hl.1 rfl (Nat.le_of_ble_eq_true rfl) dX7_takeOver_45 (fun H locs hC => ?_)
      refine lv_iload hx hb dX7_takeOver_48 (lv_at hl 6 rfl) ?_
      refine lv_iload hx hb dX7_takeOver_50 (lv_at hl 4 rfl) ?_
      refine d_callSi (As := [.int v6, .int p4]) (rest := []) fx sx hC dw_w (D7c_nextWithin l τ_9 v6 p4) k_519 D7k_nextWithin D7h_nextWithin ⟨rfl, rfl⟩ ⟨Nat.le_trans (Nat.le_of_ble_eq_true rfl) hR.1, Nat.le_trans (Nat.le_of_ble_eq_true rfl) hR.2⟩ hf rfl hl.1 rfl (Nat.le_of_ble_eq_true rfl) dX7_takeOver_52 (fun H locs hC => ?_)
      refine lv_istore (lv' := [(6, .int (D7m_nextWithin v6 p4)), (0, .ref (q (47 + p0))), (1, .ref (q (47 + p1))), (2, .ref (q (47 + p2))), (3, .ref (q 8)), (4, .int p4), (5, .int p5), (7, .int v7)]) hx hb dX7_takeOver_55 hl (by decide) rfl (fun ls hl => ?_)
      refine lv_iinc (v := (v7 + (1 : Int32))) (lv' := [(7, .int (v7 + (1 : Int32))), (6, .int (D7m_nextWithin v6 p4)), (0, .ref (q (47 + p0))), (1, .ref (q (47 + p1))), (2, .ref (q (47 + p2))), (3, .ref (q 8)), (4, .int p4), (5, .int p5)]) hx hb dX7_takeOver_57 hl (k := 7) rfl rfl (by decide) rfl (fun ls hl => ?_)
      refine lv_goto (tgt := 35) hx hb dX7_takeOver_60 (by decide) ?_
      rw [hrc] at hm
      exact ih9 _ _ _ hm _ _ _ hC (lv_sub hl [2, 3, 4, 5, 6, 7, 1, 0] rfl) hx63
set_option maxRecDepth 100000 in
set_option maxHeartbeats 4000000 in
theorem D7w_takeOver_93 {ρ : Type} {out : ρ} {p : Program} {l : Launch} {e : Env} {R : Room} {s : State} {m : MethodId} {args : Array Value} {below : List Frame} {meth : Method} {c : Code} {cells slots : Nat} {Q : State → Prop} {D : va_G} {cy : Nat → ClassId} {ad : List Nat} {q : Nat → Nat} {X : va_W} (fx : FX p s m args meth c cX7_takeOver 10 RX7 D cy) (sx : SX ad s) (hR : 3 ≤ R.frames ∧ 66 ≤ R.locals) (hf : cells ≤ R.cells ∧ slots ≤ R.slots) (p0 : Nat) (hp0 : p0 < 32) (p1 : Nat) (hp1 : p1 < 32) (p4 : Int32) (p5 : Int32) (p7 : Int32) (p8 : Int32) {kx135 : DS → Option ρ} :
    ∀ (n : Nat) (v6 : Int32) (v9 : Int32) (τ : DS), it3 (D7s_takeOver_93 p0 p1 p4 p5 p7 p8 kx135) n v6 v9 τ = some out → ∀ (H : Heap) (locs : List Loc) (ls : Array Slot), GC D (dwd cy q X) ad s τ H locs → lv_has ls 10 [(0, .ref (q (47 + p0))), (1, .ref (q (47 + p1))), (3, .ref (q 8)), (4, .int p4), (5, .int p5), (6, .int v6), (7, .int p7), (8, .int p8), (9, .int v9)] → (∀ (τ2 : DS) (H : Heap) (locs : List Loc) (ls : Array Slot), kx135 τ2 = some out → GC D (dwd cy q X) ad s τ2 H locs → lv_has ls 10 [(0, .ref (q (47 + p0))), (1, .ref (q (47 + p1))), (3, .ref (q 8)), (4, .int p4), (5, .int p5), (7, .int p7), (8, .int p8)] → W p l e R s m args below meth c H locs cells slots Q (F0 m 135 ls [])) → W p l e R s m args below meth c H locs cells slots Q (F0 m 93 ls []) := by
  have hx := fx.1
  have hb := fx.2.1
  intro n
  induction n with
  | zero => intro v6 v9 τ hm; exact (it3_z hm).elim
  | succ n ih9 =>
    intro v6 v9 τ hm H locs ls hC hl hx135
    obtain ⟨rc, hrc⟩ : ∃ z, z = it3 (D7s_takeOver_93 p0 p1 p4 p5 p7 p8 kx135) n := ⟨_, rfl⟩
    replace hm : D7s_takeOver_93 p0 p1 p4 p5 p7 p8 kx135 rc v6 v9 τ = some out := by rw [hrc]; exact hm
    unfold D7s_takeOver_93 at hm
    refine lv_iload hx hb dX7_takeOver_93 (lv_at hl 8 rfl) ?_
    refine lv_iload hx hb dX7_takeOver_95 (lv_at hl 4 rfl) ?_
    refine lv_icmp_ge (tgt := 135) hx hb dX7_takeOver_97 (by decide) (fun c_16 => ?_) (fun c_16 => ?_)
    · replace hm := ifp hm c_16
      exact hx135 _ _ _ _ hm hC (lv_sub hl [0, 1, 2, 3, 4, 6, 7] rfl)
    · replace hm := ifn hm c_16
      refine lv_aload_n hx hb dX7_takeOver_100 rfl (lv_at hl 1 rfl) ?_
      refine lv_iload hx hb dX7_takeOver_101 (lv_at hl 5 rfl) ?_
      refine lv_aload_n hx hb dX7_takeOver_103 rfl (lv_at hl 2 rfl) ?_
      refine lv_iload hx hb dX7_takeOver_104 (lv_at hl 7 rfl) ?_
      have h_17 := (gi_in hm).1
      replace hm := (gi_in hm).2
      refine DLi fx hC Ka8 h_17 dX7_takeOver_106 ?_
      refine lv_ior hx hb dX7_takeOver_107 ?_
      obtain ⟨r_19, e_18, hm⟩ := b1_in hm
      refine d_callVi (ci := 7) (As := [.int (v6 ||| (τ.2.1 8 (p8).toNatClampNeg))]) (rest := []) fx sx hC dw_w (D7c_holds l p1 hp1 τ (v6 ||| (τ.2.1 8 (p8).toNatClampNeg)) e_18) k_523 D7k_holds D7h_holds rfl rfl (O_at (K7 hp1)) ⟨rfl, rfl⟩ ⟨Nat.le_trans (Nat.le_of_ble_eq_true rfl) hR.1, Nat.le_trans (Nat.le_of_ble_eq_true rfl) hR.2⟩ hf rfl hl.1 rfl (Nat.le_of_ble_eq_true rfl) dX7_takeOver_108 (fun H locs hC => ?_)
      refine lv_if_ne (tgt := 120) hx hb dX7_takeOver_111 (by decide) (fun c_20 => ?_) (fun c_20 => ?_)
      · replace hm := ifn hm c_20
        refine lv_iload hx hb dX7_takeOver_120 (lv_at hl 5 rfl) ?_
        refine lv_iload hx hb dX7_takeOver_122 (lv_at hl 3 rfl) ?_
        refine d_callSi (As := [.int v6, .int p4]) (rest := []) fx sx hC dw_w (D7c_nextWithin l τ v6 p4) k_519 D7k_nextWithin D7h_nextWithin ⟨rfl, rfl⟩ ⟨Nat.le_trans (Nat.le_of_ble_eq_true rfl) hR.1, Nat.le_trans (Nat.le_of_ble_eq_true rfl) hR.2⟩ hf rfl hl.1 rfl (Nat.le_of_ble_eq_true rfl) dX7_takeOver_124 (fun H locs hC => ?_)
        refine lv_istore (lv' := [(6, .int (D7m_nextWithin v6 p4)), (0, .ref (q (47 + p0))), (1, .ref (q (47 + p1))), (3, .ref (q 8)), (4, .int p4), (5, .int p5), (7, .int p7), (8, .int p8), (9, .int v9)]) hx hb dX7_takeOver_127 hl (by decide) rfl (fun ls hl => ?_)
        refine lv_iinc (v := (v9 + (1 : Int32))) (lv' := [(9, .int (v9 + (1 : Int32))), (6, .int (D7m_nextWithin v6 p4)), (0, .ref (q (47 + p0))), (1, .ref (q (47 + p1))), (3, .ref (q 8)), (4, .int p4), (5, .int p5), (7, .int p7), (8, .int p8)]) hx hb dX7_takeOver_129 hl (k := 8) rfl rfl (by decide) rfl (fun ls hl => ?_)
        refine lv_goto (tgt := 93) hx hb dX7_takeOver_132 (by decide) ?_
        rw [hrc] at hm
        exact ih9 _ _ _ hm _ _ _ hC (lv_sub hl [2, 3, 4, 5, 6, 1, 7, 8, 0] rfl) hx135
      · replace hm := ifp hm c_20
        refine lv_aload_n hx hb dX7_takeOver_114 rfl (lv_at hl 0 rfl) ?_
        refine lv_iload hx hb dX7_takeOver_115 (lv_at hl 5 rfl) ?_
        obtain ⟨τ_22, e_21, hm⟩ := b1_in hm
        refine d_callVv (ci := 7) (As := [.int v6]) (rest := []) fx sx hC dw_w (D7c_take l p0 hp0 τ v6 e_21) k_524 D7k_take D7h_take rfl rfl (O_at (K7 hp0)) ⟨rfl, rfl⟩ ⟨Nat.le_trans (Nat.le_of_ble_eq_true rfl) hR.1, Nat.le_trans (Nat.le_of_ble_eq_true rfl) hR.2⟩ hf rfl hl.1 rfl (Nat.le_of_ble_eq_true rfl) dX7_takeOver_117 (fun H locs hC => ?_)
        refine lv_iload hx hb dX7_takeOver_120 (lv_at hl 5 rfl) ?_
        refine lv_iload hx hb dX7_takeOver_122 (lv_at hl 3 rfl) ?_
        refine d_callSi (As := [.int v6, .int p4]) (rest := []) fx sx hC dw_w (D7c_nextWithin l τ_22 v6 p4) k_519 D7k_nextWithin D7h_nextWithin ⟨rfl, rfl⟩ ⟨Nat.le_trans (Nat.le_of_ble_eq_true rfl) hR.1, Nat.le_trans (Nat.le_of_ble_eq_true rfl) hR.2⟩ hf rfl hl.1 rfl (Nat.le_of_ble_eq_true rfl) dX7_takeOver_124 (fun H locs hC => ?_)
        refine lv_istore (lv' := [(6, .int (D7m_nextWithin v6 p4)), (0, .ref (q (47 + p0))), (1, .ref (q (47 + p1))), (3, .ref (q 8)), (4, .int p4), (5, .int p5), (7, .int p7), (8, .int p8), (9, .int v9)]) hx hb dX7_takeOver_127 hl (by decide) rfl (fun ls hl => ?_)
        refine lv_iinc (v := (v9 + (1 : Int32))) (lv' := [(9, .int (v9 + (1 : Int32))), (6, .int (D7m_nextWithin v6 p4)), (0, .ref (q (47 + p0))), (1, .ref (q (47 + p1))), (3, .ref (q 8)), (4, .int p4), (5, .int p5), (7, .int p7), (8, .int p8)]) hx hb dX7_takeOver_129 hl (k := 8) rfl rfl (by decide) rfl (fun ls hl => ?_)
        refine lv_goto (tgt := 93) hx hb dX7_takeOver_132 (by decide) ?_
        rw [hrc] at hm
        exact ih9 _ _ _ hm _ _ _ hC (lv_sub hl [2, 3, 4, 5, 6, 1, 7, 8, 0] rfl) hx135
set_option maxRecDepth 100000 in
set_option maxHeartbeats 4000000 in
theorem D7w_takeOver_73 {ρ : Type} {out : ρ} {p : Program} {l : Launch} {e : Env} {R : Room} {s : State} {m : MethodId} {args : Array Value} {below : List Frame} {meth : Method} {c : Code} {cells slots : Nat} {Q : State → Prop} {D : va_G} {cy : Nat → ClassId} {ad : List Nat} {q : Nat → Nat} {X : va_W} (fx : FX p s m args meth c cX7_takeOver 10 RX7 D cy) (sx : SX ad s) (hR : 3 ≤ R.frames ∧ 66 ≤ R.locals) (hf : cells ≤ R.cells ∧ slots ≤ R.slots) (p0 : Nat) (hp0 : p0 < 32) (p1 : Nat) (hp1 : p1 < 32) (p4 : Int32) (p5 : Int32) (p7 : Int32) {kx141 : DS → Option ρ} :
    ∀ (n : Nat) (v8 : Int32) (τ : DS), it2 (D7s_takeOver_73 p0 p1 p4 p5 p7 kx141) n v8 τ = some out → ∀ (H : Heap) (locs : List Loc) (ls : Array Slot), GC D (dwd cy q X) ad s τ H locs → lv_has ls 10 [(0, .ref (q (47 + p0))), (1, .ref (q (47 + p1))), (3, .ref (q 8)), (4, .int p4), (5, .int p5), (7, .int p7), (8, .int v8)] → (∀ (τ2 : DS) (H : Heap) (locs : List Loc) (ls : Array Slot), kx141 τ2 = some out → GC D (dwd cy q X) ad s τ2 H locs → lv_has ls 10 [] → W p l e R s m args below meth c H locs cells slots Q (F0 m 141 ls [])) → W p l e R s m args below meth c H locs cells slots Q (F0 m 73 ls []) := by
  have hx := fx.1
  have hb := fx.2.1
  intro n
  induction n with
  | zero => intro v8 τ hm; exact (it2_z hm).elim
  | succ n ih9 =>
    intro v8 τ hm H locs ls hC hl hx141
    obtain ⟨rc, hrc⟩ : ∃ z, z = it2 (D7s_takeOver_73 p0 p1 p4 p5 p7 kx141) n := ⟨_, rfl⟩
    replace hm : D7s_takeOver_73 p0 p1 p4 p5 p7 kx141 rc v8 τ = some out := by rw [hrc]; exact hm
    unfold D7s_takeOver_73 at hm
    refine lv_iload hx hb dX7_takeOver_73 (lv_at hl 6 rfl) ?_
    refine lv_iload hx hb dX7_takeOver_75 (lv_at hl 5 rfl) ?_
    refine lv_icmp_ge (tgt := 141) hx hb dX7_takeOver_77 (by decide) (fun c_14 => ?_) (fun c_14 => ?_)
    · replace hm := ifp hm c_14
      exact hx141 _ _ _ _ hm hC (lv_sub hl [] rfl)
    · replace hm := ifn hm c_14
      refine lv_iload hx hb dX7_takeOver_80 (lv_at hl 6 rfl) ?_
      refine lv_aload_n hx hb dX7_takeOver_82 rfl (lv_at hl 2 rfl) ?_
      refine DNi fx hC Ka8 dX7_takeOver_83 ?_
      refine lv_icmp_ge (tgt := 141) hx hb dX7_takeOver_84 (by decide) (fun c_15 => ?_) (fun c_15 => ?_)
      · replace hm := ifp hm c_15
        exact hx141 _ _ _ _ hm hC (lv_sub hl [] rfl)
      · replace hm := ifn hm c_15
        refine lv_iconst (v := (0 : Int32)) hx hb dX7_takeOver_87 (by decide) ?_
        refine lv_istore (lv' := [(6, .int (0 : Int32)), (0, .ref (q (47 + p0))), (1, .ref (q (47 + p1))), (3, .ref (q 8)), (4, .int p4), (5, .int p5), (7, .int p7), (8, .int v8)]) hx hb dX7_takeOver_88 hl (by decide) rfl (fun ls hl => ?_)
        refine lv_iconst (v := (0 : Int32)) hx hb dX7_takeOver_90 (by decide) ?_
        refine lv_istore (lv' := [(9, .int (0 : Int32)), (6, .int (0 : Int32)), (0, .ref (q (47 + p0))), (1, .ref (q (47 + p1))), (3, .ref (q 8)), (4, .int p4), (5, .int p5), (7, .int p7), (8, .int v8)]) hx hb dX7_takeOver_91 hl (by decide) rfl (fun ls hl => ?_)
        refine D7w_takeOver_93 fx sx hR hf p0 hp0 p1 hp1 p4 p5 p7 v8 fuel (0 : Int32) (0 : Int32) τ hm _ _ _ hC (lv_sub hl [2, 3, 4, 5, 6, 1, 7, 8, 0] rfl) (fun τ_23 H locs ls hm hC hl => ?_)
        refine lv_iinc (v := (v8 + (1 : Int32))) (lv' := [(8, .int (v8 + (1 : Int32))), (0, .ref (q (47 + p0))), (1, .ref (q (47 + p1))), (3, .ref (q 8)), (4, .int p4), (5, .int p5), (7, .int p7)]) hx hb dX7_takeOver_135 hl (k := 6) rfl rfl (by decide) rfl (fun ls hl => ?_)
        refine lv_goto (tgt := 73) hx hb dX7_takeOver_138 (by decide) ?_
        rw [hrc] at hm
        exact ih9 _ _ hm _ _ _ hC (lv_sub hl [1, 2, 3, 4, 5, 6, 0] rfl) hx141
set_option maxRecDepth 100000 in
set_option maxHeartbeats 4000000 in
theorem D7c_takeOver (l : Launch) {D : va_G} {cy : Nat → ClassId} {ad : List Nat} {q : Nat → Nat} {X : va_W} (k : Nat) (hk : k < 32) (τ : DS) (a1 : Nat) (ha1 : a1 < 32) (a2 : Nat) (ha2 : a2 < 32) {o : DS} (hm : D7m_takeOver k τ a1 a2 = some o) : DM l yX7_takeOver cX7_takeOver 10 none D7rm_takeOver D cy (dwd cy q X) ad [.ref (q (47 + k)), .ref (q (47 + a1)), .ref (q (47 + a2)), .ref (q 8)] τ none o := by
  refine d_start RX7 rfl (by decide) (Nat.le_of_ble_eq_true rfl) ?_
  intro p e s m args below meth c fx sx hr hC ls hl
  have hx := fx.1
  have hb := fx.2.1
  have hR : 3 ≤ (D7rm_takeOver).frames ∧ 66 ≤ (D7rm_takeOver).locals := ⟨Nat.le_refl _, Nat.le_refl _⟩
  have hf : 0 ≤ (D7rm_takeOver).cells ∧ 0 ≤ (D7rm_takeOver).slots := ⟨Nat.zero_le _, Nat.zero_le _⟩
  have hl : lv_has ls 10 [(0, .ref (q (47 + k))), (1, .ref (q (47 + a1))), (2, .ref (q (47 + a2))), (3, .ref (q 8))] := hl
  unfold D7m_takeOver at hm
  refine lv_aload_n hx hb dX7_takeOver_0 rfl (lv_at hl 0 rfl) ?_
  refine D7g_1 hk fx hC k_57 dX7_takeOver_1 ?_
  refine lv_lconst (v := (0 : Int64)) hx hb dX7_takeOver_4 (by decide) ?_
  obtain ⟨τ_2, e_1, hm⟩ := b1_in hm
  refine d_callSv (As := [.ref (q (79 + k)), .long (0 : Int64)]) (rest := []) fx sx hC dw_w (J7c_fill_d0a16 l τ (79 + k) 64 (K7w hk) (0 : Int64) e_1) k_214 J7k_fill_d0a16 J7h_fill_d0a16 ⟨rfl, rfl⟩ ⟨Nat.le_trans (Nat.le_of_ble_eq_true rfl) hR.1, Nat.le_trans (Nat.le_of_ble_eq_true rfl) hR.2⟩ hf rfl hl.1 rfl (Nat.le_of_ble_eq_true rfl) dX7_takeOver_5 (fun H locs hC => ?_)
  refine lv_sipush (v := (4095 : Int32)) hx hb dX7_takeOver_8 (by decide) ?_
  refine lv_aload_n hx hb dX7_takeOver_11 rfl (lv_at hl 2 rfl) ?_
  obtain ⟨r_4, e_3, hm⟩ := b1_in hm
  refine d_callVi (ci := 7) (As := []) (rest := [.int (4095 : Int32)]) fx sx hC dw_w (D7c_used l a2 ha2 τ_2 e_3) k_516 D7k_used D7h_used rfl rfl (O_at (K7 ha2)) ⟨rfl, rfl⟩ ⟨Nat.le_trans (Nat.le_of_ble_eq_true rfl) hR.1, Nat.le_trans (Nat.le_of_ble_eq_true rfl) hR.2⟩ hf rfl hl.1 rfl (Nat.le_of_ble_eq_true rfl) dX7_takeOver_12 (fun H locs hC => ?_)
  refine lv_iconst (v := (-1 : Int32)) hx hb dX7_takeOver_15 (by decide) ?_
  refine lv_ixor hx hb dX7_takeOver_16 ?_
  refine lv_iand hx hb dX7_takeOver_17 ?_
  refine lv_topi (fun x_5 ex_5 => ?_)
  replace hm := nm_in hm ex_5
  refine lv_istore (lv' := [(4, .int x_5), (0, .ref (q (47 + k))), (1, .ref (q (47 + a1))), (2, .ref (q (47 + a2))), (3, .ref (q 8))]) hx hb dX7_takeOver_18 hl (by decide) rfl (fun ls hl => ?_)
  refine lv_iconst (v := (1 : Int32)) hx hb dX7_takeOver_20 (by decide) ?_
  refine lv_iload hx hb dX7_takeOver_21 (lv_at hl 0 rfl) ?_
  refine g_callSi (As := [.int x_5]) (rest := [.int (1 : Int32)]) fx hC dw_w (J6c_bitCount_0f7a4 l dw_w τ_2 x_5) k_517 J6k_bitCount_0f7a4 J6h_bitCount_0f7a4 ⟨rfl, rfl⟩ ⟨Nat.le_trans (Nat.le_of_ble_eq_true rfl) hR.1, Nat.le_trans (Nat.le_of_ble_eq_true rfl) hR.2⟩ hf rfl hl.1 rfl (Nat.le_of_ble_eq_true rfl) dX7_takeOver_23 (fun H locs hC => ?_)
  refine lv_ishl hx hb dX7_takeOver_26 ?_
  refine lv_topi (fun x_6 ex_6 => ?_)
  replace hm := nm_in hm ex_6
  refine lv_istore (lv' := [(5, .int x_6), (4, .int x_5), (0, .ref (q (47 + k))), (1, .ref (q (47 + a1))), (2, .ref (q (47 + a2))), (3, .ref (q 8))]) hx hb dX7_takeOver_27 hl (by decide) rfl (fun ls hl => ?_)
  refine lv_iconst (v := (0 : Int32)) hx hb dX7_takeOver_29 (by decide) ?_
  refine lv_istore (lv' := [(6, .int (0 : Int32)), (5, .int x_6), (4, .int x_5), (0, .ref (q (47 + k))), (1, .ref (q (47 + a1))), (2, .ref (q (47 + a2))), (3, .ref (q 8))]) hx hb dX7_takeOver_30 hl (by decide) rfl (fun ls hl => ?_)
  refine lv_iconst (v := (0 : Int32)) hx hb dX7_takeOver_32 (by decide) ?_
  refine lv_istore (lv' := [(7, .int (0 : Int32)), (6, .int (0 : Int32)), (5, .int x_6), (4, .int x_5), (0, .ref (q (47 + k))), (1, .ref (q (47 + a1))), (2, .ref (q (47 + a2))), (3, .ref (q 8))]) hx hb dX7_takeOver_33 hl (by decide) rfl (fun ls hl => ?_)
  refine D7w_takeOver_35 fx sx hR hf k hk a1 ha1 a2 ha2 x_5 x_6 fuel (0 : Int32) (0 : Int32) τ_2 hm _ _ _ hC (lv_sub hl [4, 5, 6, 7, 3, 2, 1, 0] rfl) (fun τ_10 H locs ls hm hC hl => ?_)
  refine lv_aload_n hx hb dX7_takeOver_63 rfl (lv_at hl 2 rfl) ?_
  refine lv_aload_n hx hb dX7_takeOver_64 rfl (lv_at hl 3 rfl) ?_
  obtain ⟨r_13, τ_12, e_11, hm⟩ := b2_in hm
  refine d_callVi (ci := 7) (As := [.ref (q 8)]) (rest := []) fx sx hC dw_w (D7c_list l a2 ha2 τ_10 e_11) k_522 D7k_list D7h_list rfl rfl (O_at (K7 ha2)) ⟨rfl, rfl⟩ ⟨Nat.le_trans (Nat.le_of_ble_eq_true rfl) hR.1, Nat.le_trans (Nat.le_of_ble_eq_true rfl) hR.2⟩ hf rfl hl.1 rfl (Nat.le_of_ble_eq_true rfl) dX7_takeOver_65 (fun H locs hC => ?_)
  refine lv_istore (lv' := [(7, .int r_13), (0, .ref (q (47 + k))), (1, .ref (q (47 + a1))), (2, .ref (q (47 + a2))), (3, .ref (q 8)), (4, .int x_5), (5, .int x_6)]) hx hb dX7_takeOver_68 hl (by decide) rfl (fun ls hl => ?_)
  refine lv_iconst (v := (0 : Int32)) hx hb dX7_takeOver_70 (by decide) ?_
  refine lv_istore (lv' := [(8, .int (0 : Int32)), (7, .int r_13), (0, .ref (q (47 + k))), (1, .ref (q (47 + a1))), (2, .ref (q (47 + a2))), (3, .ref (q 8)), (4, .int x_5), (5, .int x_6)]) hx hb dX7_takeOver_71 hl (by decide) rfl (fun ls hl => ?_)
  refine D7w_takeOver_73 fx sx hR hf k hk a1 ha1 x_5 x_6 r_13 fuel (0 : Int32) τ_12 hm _ _ _ hC (lv_sub hl [2, 3, 5, 6, 7, 1, 0] rfl) (fun τ_24 H locs ls hm hC hl => ?_)
  cases hm
  exact g_vret fx hr hC rfl dX7_takeOver_141
def D8m_post (τ : DS) (a1 : Int32) : Option (Int32 × DS) :=
  if a1 < (0 : Int32) then (some ((-2 : Int32), τ)) else (if a1 ≤ (99 : Int32) then (b2 (D2m_addPost τ a1) (fun r_5 τ_4 => some (r_5, τ_4))) else (some ((-2 : Int32), τ)))
abbrev D8rm_post : Room := { frames := 1, cells := 0, slots := 0, locals := 21 }
set_option maxRecDepth 100000 in
set_option maxHeartbeats 4000000 in
theorem D8c_post (l : Launch) {D : va_G} {cy : Nat → ClassId} {ad : List Nat} {q : Nat → Nat} {X : va_W} (τ : DS) (a1 : Int32) {o : Int32 × DS} (hm : D8m_post τ a1 = some o) : DM l yX8_post cX8_post 2 (some .int) D8rm_post D cy (dwd cy q X) ad [.ref (q 0), .int a1] τ (some (.int (o.1))) o.2 := by
  refine d_start RX8 rfl (by decide) (Nat.le_of_ble_eq_true rfl) ?_
  intro p e s m args below meth c fx sx hr hC ls hl
  have hx := fx.1
  have hb := fx.2.1
  have hR : 1 ≤ (D8rm_post).frames ∧ 21 ≤ (D8rm_post).locals := ⟨Nat.le_refl _, Nat.le_refl _⟩
  have hf : 0 ≤ (D8rm_post).cells ∧ 0 ≤ (D8rm_post).slots := ⟨Nat.zero_le _, Nat.zero_le _⟩
  have hl : lv_has ls 2 [(0, .ref (q 0)), (1, .int a1)] := hl
  unfold D8m_post at hm
  refine lv_iload_n hx hb dX8_post_0 rfl (lv_at hl 1 rfl) ?_
  refine lv_if_lt (tgt := 10) hx hb dX8_post_1 (by decide) (fun c_1 => ?_) (fun c_1 => ?_)
  · replace hm := ifp hm c_1
    refine lv_bipush (v := (-2 : Int32)) hx hb dX8_post_10 (by decide) ?_
    cases hm
    exact g_iret fx hr hC rfl dX8_post_12
  · replace hm := ifn hm c_1
    refine lv_iload_n hx hb dX8_post_4 rfl (lv_at hl 1 rfl) ?_
    refine lv_bipush (v := (99 : Int32)) hx hb dX8_post_5 (by decide) ?_
    refine lv_icmp_le (tgt := 13) hx hb dX8_post_7 (by decide) (fun c_2 => ?_) (fun c_2 => ?_)
    · replace hm := ifp hm c_2
      refine lv_aload_n hx hb dX8_post_13 rfl (lv_at hl 0 rfl) ?_
      refine D8g_0 fx hC k_15 dX8_post_14 ?_
      refine lv_iload_n hx hb dX8_post_17 rfl (lv_at hl 1 rfl) ?_
      obtain ⟨r_5, τ_4, e_3, hm⟩ := b2_in hm
      refine d_callVi (ci := 2) (As := [.int a1]) (rest := []) fx sx hC dw_w (D2c_addPost l τ a1 e_3) k_130 D2k_addPost D2h_addPost rfl rfl (O_at O2) ⟨rfl, rfl⟩ ⟨Nat.le_trans (Nat.le_of_ble_eq_true rfl) hR.1, Nat.le_trans (Nat.le_of_ble_eq_true rfl) hR.2⟩ hf rfl hl.1 rfl (Nat.le_of_ble_eq_true rfl) dX8_post_18 (fun H locs hC => ?_)
      cases hm
      exact g_iret fx hr hC rfl dX8_post_21
    · replace hm := ifn hm c_2
      refine lv_bipush (v := (-2 : Int32)) hx hb dX8_post_10 (by decide) ?_
      cases hm
      exact g_iret fx hr hC rfl dX8_post_12

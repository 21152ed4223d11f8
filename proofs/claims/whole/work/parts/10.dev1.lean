def D0m_forget (τ : DS) : Option DS :=
  nm (dS τ 45 0 (0 : Int32)) (fun τ_1 => some τ_1)
abbrev D0rm_forget : Room := { frames := 0, cells := 0, slots := 0, locals := 0 }
set_option maxRecDepth 100000 in
set_option maxHeartbeats 4000000 in
theorem D0c_forget (l : Launch) {D : va_G} {cy : Nat → ClassId} {ad : List Nat} {q : Nat → Nat} {X : va_W} (τ : DS) {o : DS} (hm : D0m_forget τ = some o) : DM l yX0_forget cX0_forget 1 none D0rm_forget D cy (dwd cy q X) ad [.ref (q 45)] τ none o := by
  refine d_start RX0 rfl (by decide) (Nat.le_of_ble_eq_true rfl) ?_
  intro p e s m args below meth c fx sx hr hC ls hl
  have hx := fx.1
  have hb := fx.2.1
  have hR : 0 ≤ (D0rm_forget).frames ∧ 0 ≤ (D0rm_forget).locals := ⟨Nat.le_refl _, Nat.le_refl _⟩
  have hf : 0 ≤ (D0rm_forget).cells ∧ 0 ≤ (D0rm_forget).slots := ⟨Nat.zero_le _, Nat.zero_le _⟩
  have hl : lv_has ls 1 [(0, .ref (q 45))] := hl
  unfold D0m_forget at hm
  refine lv_aload_n hx hb dX0_forget_0 rfl (lv_at hl 0 rfl) ?_
  refine lv_iconst (v := (0 : Int32)) hx hb dX0_forget_1 (by decide) ?_
  refine D0p_0 fx hC k_1083 dX0_forget_2 (fun H locs hC => ?_)
  obtain ⟨τ_1, e_2⟩ : ∃ z, z = (dS τ 45 0 (0 : Int32)) := ⟨_, rfl⟩
  rw [← e_2] at hC
  replace hm := nm_in hm e_2
  cases hm
  exact g_vret fx hr hC rfl dX0_forget_5
def D0m_bodyOf (a1 : Int32) (a2 : Int32) : Option Int32 :=
  if a1 < (0 : Int32) then (some (-1 : Int32)) else (if a1 < (6 : Int32) then (if a2 = (0 : Int32) then (gi a1 6 (some (zFIT (a1).toNatClampNeg))) else (if a2 = (1 : Int32) then (gi a1 6 (some (zJOIN (a1).toNatClampNeg))) else (gi a1 6 (some (zWEIGH (a1).toNatClampNeg))))) else (some (-1 : Int32)))
abbrev D0rm_bodyOf : Room := { frames := 0, cells := 0, slots := 0, locals := 0 }
set_option maxRecDepth 100000 in
set_option maxHeartbeats 4000000 in
theorem D0c_bodyOf (l : Launch) {D : va_G} {cy : Nat → ClassId} {ad : List Nat} {q : Nat → Nat} {X : va_W} (τ : DS) (a1 : Int32) (a2 : Int32) {o : Int32} (hm : D0m_bodyOf a1 a2 = some o) : DM l yX0_bodyOf cX0_bodyOf 2 (some .int) D0rm_bodyOf D cy (dwd cy q X) ad [.int a1, .int a2] τ (some (.int (o))) τ := by
  refine d_start RX0 rfl (by decide) (Nat.le_of_ble_eq_true rfl) ?_
  intro p e s m args below meth c fx sx hr hC ls hl
  have hx := fx.1
  have hb := fx.2.1
  have hR : 0 ≤ (D0rm_bodyOf).frames ∧ 0 ≤ (D0rm_bodyOf).locals := ⟨Nat.le_refl _, Nat.le_refl _⟩
  have hf : 0 ≤ (D0rm_bodyOf).cells ∧ 0 ≤ (D0rm_bodyOf).slots := ⟨Nat.zero_le _, Nat.zero_le _⟩
  have hl : lv_has ls 2 [(0, .int a1), (1, .int a2)] := hl
  unfold D0m_bodyOf at hm
  refine lv_iload_n hx hb dX0_bodyOf_0 rfl (lv_at hl 0 rfl) ?_
  refine lv_if_lt (tgt := 12) hx hb dX0_bodyOf_1 (by decide) (fun c_1 => ?_) (fun c_1 => ?_)
  · replace hm := ifp hm c_1
    refine lv_iconst (v := (-1 : Int32)) hx hb dX0_bodyOf_12 (by decide) ?_
    cases hm
    exact g_iret fx hr hC rfl dX0_bodyOf_13
  · replace hm := ifn hm c_1
    refine lv_iload_n hx hb dX0_bodyOf_4 rfl (lv_at hl 0 rfl) ?_
    obtain ⟨t_2, zt_2, yt_2⟩ := sx.2.1
    refine va_getsN hx hb zt_2 hC.2.2 fx.2.2.2.1 (va_Nw.use rfl sx.2.2.2.2.2.2) (fun _ h => h) dX0_bodyOf_5 ?_
    refine va_tlen (v := (6 : Int32)) hx hb yt_2 hC.2.2 rfl dX0_bodyOf_8 ?_
    refine lv_icmp_lt (tgt := 14) hx hb dX0_bodyOf_9 (by decide) (fun c_3 => ?_) (fun c_3 => ?_)
    · replace hm := ifp hm c_3
      refine lv_iload_n hx hb dX0_bodyOf_14 rfl (lv_at hl 1 rfl) ?_
      by_cases c_4 : a2 = (0 : Int32)
      · replace hm := ifp hm c_4
        have ec_4 : (a2 : Int32).toInt = 0 := by rw [c_4]; rfl
        refine lv_lookup (off := 25) (tgt := 40) hx hb dX0_bodyOf_15 (by decide) (by rw [ec_4]; rfl) (by decide) ?_
        obtain ⟨t_5, zt_5, yt_5⟩ := sx.2.2.1
        refine va_gets hx hb zt_5 hC.2.2 fx.2.2.2.1 (fx.2.2.2.2.1 _ k_1097) (fun _ h => h) dX0_bodyOf_40 ?_
        refine lv_iload_n hx hb dX0_bodyOf_43 rfl (lv_at hl 0 rfl) ?_
        have h_6 := (gi_in hm).1
        replace hm := (gi_in hm).2
        refine va_ti (v := .int (zFIT (a1).toNatClampNeg)) hx hb yt_5 hC.2.2 h_6 rfl dX0_bodyOf_44 ?_
        cases hm
        exact g_iret fx hr hC rfl dX0_bodyOf_45
      · replace hm := ifn hm c_4
        by_cases c_7 : a2 = (1 : Int32)
        · replace hm := ifp hm c_7
          have ec_7 : (a2 : Int32).toInt = 1 := by rw [c_7]; rfl
          refine lv_lookup (off := 31) (tgt := 46) hx hb dX0_bodyOf_15 (by decide) (by rw [ec_7]; rfl) (by decide) ?_
          obtain ⟨t_8, zt_8, yt_8⟩ := sx.2.2.2.1
          refine va_gets hx hb zt_8 hC.2.2 fx.2.2.2.1 (fx.2.2.2.2.1 _ k_1098) (fun _ h => h) dX0_bodyOf_46 ?_
          refine lv_iload_n hx hb dX0_bodyOf_49 rfl (lv_at hl 0 rfl) ?_
          have h_9 := (gi_in hm).1
          replace hm := (gi_in hm).2
          refine va_ti (v := .int (zJOIN (a1).toNatClampNeg)) hx hb yt_8 hC.2.2 h_9 rfl dX0_bodyOf_50 ?_
          cases hm
          exact g_iret fx hr hC rfl dX0_bodyOf_51
        · replace hm := ifn hm c_7
          have nc_4 : ¬ (a2 : Int32).toInt = 0 := lv_neT c_4 rfl
          have nc_7 : ¬ (a2 : Int32).toInt = 1 := lv_neT c_7 rfl
          refine lv_lookup (off := 37) (tgt := 52) hx hb dX0_bodyOf_15 (by decide) (by show Op.lookupswitch.offset [(0, 25), (1, 31)] 37 _ = _; rw [lv_osw (a := 0) c_4 rfl, lv_osw (a := 1) c_7 rfl]; rfl) (by decide) ?_
          obtain ⟨t_10, zt_10, yt_10⟩ := sx.2.2.2.2.1
          refine va_gets hx hb zt_10 hC.2.2 fx.2.2.2.1 (fx.2.2.2.2.1 _ k_1099) (fun _ h => h) dX0_bodyOf_52 ?_
          refine lv_iload_n hx hb dX0_bodyOf_55 rfl (lv_at hl 0 rfl) ?_
          have h_11 := (gi_in hm).1
          replace hm := (gi_in hm).2
          refine va_ti (v := .int (zWEIGH (a1).toNatClampNeg)) hx hb yt_10 hC.2.2 h_11 rfl dX0_bodyOf_56 ?_
          cases hm
          exact g_iret fx hr hC rfl dX0_bodyOf_57
    · replace hm := ifn hm c_3
      refine lv_iconst (v := (-1 : Int32)) hx hb dX0_bodyOf_12 (by decide) ?_
      cases hm
      exact g_iret fx hr hC rfl dX0_bodyOf_13
def D0m_note (τ : DS) (a1 : Int32) : Option DS :=
  if (τ.1 45 0) < (0 : Int32) then (nm (dS τ 45 0 ((τ.1 45 0) + (1 : Int32))) (fun τ_2 => some τ_2)) else (if (40 : Int32) ≤ (τ.1 45 0) then (nm (dS τ 45 0 ((τ.1 45 0) + (1 : Int32))) (fun τ_5 => some τ_5)) else (gi (τ.1 45 0) 40 (nm (dA τ 46 ((τ.1 45 0)).toNatClampNeg a1) (fun τ_8 => nm (dS τ_8 45 0 ((τ_8.1 45 0) + (1 : Int32))) (fun τ_10 => some τ_10)))))
abbrev D0rm_note : Room := { frames := 0, cells := 0, slots := 0, locals := 0 }
set_option maxRecDepth 100000 in
set_option maxHeartbeats 4000000 in
theorem D0c_note (l : Launch) {D : va_G} {cy : Nat → ClassId} {ad : List Nat} {q : Nat → Nat} {X : va_W} (τ : DS) (a1 : Int32) {o : DS} (hm : D0m_note τ a1 = some o) : DM l yX0_note cX0_note 2 none D0rm_note D cy (dwd cy q X) ad [.ref (q 45), .int a1] τ none o := by
  refine d_start RX0 rfl (by decide) (Nat.le_of_ble_eq_true rfl) ?_
  intro p e s m args below meth c fx sx hr hC ls hl
  have hx := fx.1
  have hb := fx.2.1
  have hR : 0 ≤ (D0rm_note).frames ∧ 0 ≤ (D0rm_note).locals := ⟨Nat.le_refl _, Nat.le_refl _⟩
  have hf : 0 ≤ (D0rm_note).cells ∧ 0 ≤ (D0rm_note).slots := ⟨Nat.zero_le _, Nat.zero_le _⟩
  have hl : lv_has ls 2 [(0, .ref (q 45)), (1, .int a1)] := hl
  unfold D0m_note at hm
  refine lv_aload_n hx hb dX0_note_0 rfl (lv_at hl 0 rfl) ?_
  refine D0g_0 fx hC k_1083 dX0_note_1 ?_
  refine lv_if_lt (tgt := 26) hx hb dX0_note_4 (by decide) (fun c_1 => ?_) (fun c_1 => ?_)
  · replace hm := ifp hm c_1
    refine lv_aload_n hx hb dX0_note_26 rfl (lv_at hl 0 rfl) ?_
    refine lv_dup hx hb dX0_note_27 rfl ?_
    refine D0g_0 fx hC k_1083 dX0_note_28 ?_
    refine lv_iconst (v := (1 : Int32)) hx hb dX0_note_31 (by decide) ?_
    refine lv_iadd hx hb dX0_note_32 ?_
    refine D0p_0 fx hC k_1083 dX0_note_33 (fun H locs hC => ?_)
    obtain ⟨τ_2, e_3⟩ : ∃ z, z = (dS τ 45 0 ((τ.1 45 0) + (1 : Int32))) := ⟨_, rfl⟩
    rw [← e_3] at hC
    replace hm := nm_in hm e_3
    cases hm
    exact g_vret fx hr hC rfl dX0_note_36
  · replace hm := ifn hm c_1
    refine lv_aload_n hx hb dX0_note_7 rfl (lv_at hl 0 rfl) ?_
    refine D0g_0 fx hC k_1083 dX0_note_8 ?_
    refine lv_bipush (v := (40 : Int32)) hx hb dX0_note_11 (by decide) ?_
    refine lv_icmp_ge (tgt := 26) hx hb dX0_note_13 (by decide) (fun c_4 => ?_) (fun c_4 => ?_)
    · replace hm := ifp hm c_4
      refine lv_aload_n hx hb dX0_note_26 rfl (lv_at hl 0 rfl) ?_
      refine lv_dup hx hb dX0_note_27 rfl ?_
      refine D0g_0 fx hC k_1083 dX0_note_28 ?_
      refine lv_iconst (v := (1 : Int32)) hx hb dX0_note_31 (by decide) ?_
      refine lv_iadd hx hb dX0_note_32 ?_
      refine D0p_0 fx hC k_1083 dX0_note_33 (fun H locs hC => ?_)
      obtain ⟨τ_5, e_6⟩ : ∃ z, z = (dS τ 45 0 ((τ.1 45 0) + (1 : Int32))) := ⟨_, rfl⟩
      rw [← e_6] at hC
      replace hm := nm_in hm e_6
      cases hm
      exact g_vret fx hr hC rfl dX0_note_36
    · replace hm := ifn hm c_4
      refine lv_aload_n hx hb dX0_note_16 rfl (lv_at hl 0 rfl) ?_
      refine D0g_1 fx hC k_94 dX0_note_17 ?_
      refine lv_aload_n hx hb dX0_note_20 rfl (lv_at hl 0 rfl) ?_
      refine D0g_0 fx hC k_1083 dX0_note_21 ?_
      refine lv_iload_n hx hb dX0_note_24 rfl (lv_at hl 1 rfl) ?_
      have h_7 := (gi_in hm).1
      replace hm := (gi_in hm).2
      refine DSi fx hC Ka46 h_7 dX0_note_25 (fun H locs hC => ?_)
      obtain ⟨τ_8, e_9⟩ : ∃ z, z = (dA τ 46 ((τ.1 45 0)).toNatClampNeg a1) := ⟨_, rfl⟩
      rw [← e_9] at hC
      replace hm := nm_in hm e_9
      refine lv_aload_n hx hb dX0_note_26 rfl (lv_at hl 0 rfl) ?_
      refine lv_dup hx hb dX0_note_27 rfl ?_
      refine D0g_0 fx hC k_1083 dX0_note_28 ?_
      refine lv_iconst (v := (1 : Int32)) hx hb dX0_note_31 (by decide) ?_
      refine lv_iadd hx hb dX0_note_32 ?_
      refine D0p_0 fx hC k_1083 dX0_note_33 (fun H locs hC => ?_)
      obtain ⟨τ_10, e_11⟩ : ∃ z, z = (dS τ_8 45 0 ((τ_8.1 45 0) + (1 : Int32))) := ⟨_, rfl⟩
      rw [← e_11] at hC
      replace hm := nm_in hm e_11
      cases hm
      exact g_vret fx hr hC rfl dX0_note_36
def D0b_run (rf : DS → Int32 → Int32 → Int32 → Int32 → Option (Int32 × DS)) (τ : DS) (a1 : Int32) (a2 : Int32) (a3 : Int32) (a4 : Int32) : Option (Int32 × DS) :=
  if a4 ≤ (20 : Int32) then (b1 (D0m_bodyOf a1 a2) (fun r_3 => b1 (D0m_note τ r_3) (fun τ_5 => if r_3 = (10 : Int32) then (some ((a3 + (τ_5.1 45 3)), τ_5)) else (if r_3 = (11 : Int32) then (b2 (rf τ_5 (τ_5.1 45 2) (0 : Int32) a3 (a4 + (1 : Int32))) (fun r_10 τ_9 => some ((r_10 * (3 : Int32)), τ_9))) else (if r_3 = (12 : Int32) then (b2 (rf τ_5 (τ_5.1 45 2) (1 : Int32) a3 (a4 + (1 : Int32))) (fun r_14 τ_13 => b2 (rf τ_13 (τ_13.1 45 2) (0 : Int32) (a3 + (1 : Int32)) (a4 + (1 : Int32))) (fun r_17 τ_16 => some ((r_14 - r_17), τ_16)))) else (if r_3 = (20 : Int32) then (b2 (rf τ_5 (0 : Int32) (0 : Int32) a3 (a4 + (1 : Int32))) (fun r_21 τ_20 => some ((r_21 * (2 : Int32)), τ_20))) else (if r_3 = (21 : Int32) then (b2 (rf τ_5 (0 : Int32) (2 : Int32) a3 (a4 + (1 : Int32))) (fun r_25 τ_24 => some ((r_25 ^^^ (5 : Int32)), τ_24))) else (if r_3 = (30 : Int32) then (b2 (rf τ_5 (1 : Int32) (1 : Int32) a3 (a4 + (1 : Int32))) (fun r_29 τ_28 => b2 (rf τ_28 (τ_28.1 45 2) (0 : Int32) a3 (a4 + (1 : Int32))) (fun r_32 τ_31 => some ((r_29 + r_32), τ_31)))) else (if r_3 = (40 : Int32) then (b2 (rf τ_5 (0 : Int32) (1 : Int32) (a3 + (τ_5.1 45 3)) (a4 + (1 : Int32))) (fun r_36 τ_35 => some (r_36, τ_35))) else (if r_3 = (50 : Int32) then (b2 (rf τ_5 (τ_5.1 45 2) (0 : Int32) a3 (a4 + (1 : Int32))) (fun r_40 τ_39 => b2 (rf τ_39 (0 : Int32) (2 : Int32) a3 (a4 + (1 : Int32))) (fun r_43 τ_42 => some ((r_40 - r_43), τ_42)))) else (if r_3 = (60 : Int32) then (b2 (rf τ_5 (3 : Int32) (0 : Int32) a3 (a4 + (1 : Int32))) (fun r_47 τ_46 => some ((r_47 + (7 : Int32)), τ_46))) else (if r_3 = (61 : Int32) then (b2 (rf τ_5 (3 : Int32) (1 : Int32) a3 (a4 + (1 : Int32))) (fun r_51 τ_50 => some ((r_51 * (2 : Int32)), τ_50))) else (some ((0 : Int32), τ_5)))))))))))))) else (some ((0 : Int32), τ))
def D0m_run (n : Nat) (τ : DS) (a1 : Int32) (a2 : Int32) (a3 : Int32) (a4 : Int32) : Option (Int32 × DS) := it5 (D0b_run) n τ a1 a2 a3 a4
abbrev D0rm_run (n : Nat) : Room := { frames := n + 1, cells := 0, slots := 0, locals := 26 * n + 21 }
set_option maxRecDepth 100000 in
set_option maxHeartbeats 4000000 in
theorem D0c_run (l : Launch) {D : va_G} {cy : Nat → ClassId} {ad : List Nat} {q : Nat → Nat} {X : va_W} : ∀ (n : Nat) (τ : DS) (a1 : Int32) (a2 : Int32) (a3 : Int32) (a4 : Int32) {o : Int32 × DS}, it5 (D0b_run) n τ a1 a2 a3 a4 = some o → DM l yX0_run cX0_run 7 (some .int) (D0rm_run n) D cy (dwd cy q X) ad [.ref (q 45), .int a1, .int a2, .int a3, .int a4] τ (some (.int (o.1))) o.2 := by
  intro n
  induction n with
  | zero => intro τ a1 a2 a3 a4 o hm; exact (it5_z hm).elim
  | succ n0 ih =>
    intro τ a1 a2 a3 a4 o hm
    obtain ⟨rf, hrf⟩ : ∃ z, z = it5 (D0b_run) n0 := ⟨_, rfl⟩
    replace hm : D0b_run rf τ a1 a2 a3 a4 = some o := by rw [hrf]; exact hm
    replace ih : ∀ (τ : DS) (a1 : Int32) (a2 : Int32) (a3 : Int32) (a4 : Int32) {o : Int32 × DS}, rf τ a1 a2 a3 a4 = some o → DM l yX0_run cX0_run 7 (some .int) (D0rm_run n0) D cy (dwd cy q X) ad [.ref (q 45), .int a1, .int a2, .int a3, .int a4] τ (some (.int (o.1))) o.2 := by rw [hrf]; exact ih
    clear hrf
    refine d_start RX0 rfl (by decide) (Nat.le_of_ble_eq_true rfl) ?_
    intro p e s m args below meth c fx sx hr hC ls hl
    have hx := fx.1
    have hb := fx.2.1
    have hR : n0 + 1 + 1 ≤ (D0rm_run (n0 + 1)).frames ∧ 26 * (n0 + 1) + 21 ≤ (D0rm_run (n0 + 1)).locals := ⟨Nat.le_refl _, Nat.le_refl _⟩
    have hf : 0 ≤ (D0rm_run (n0 + 1)).cells ∧ 0 ≤ (D0rm_run (n0 + 1)).slots := ⟨Nat.zero_le _, Nat.zero_le _⟩
    have hl : lv_has ls 7 [(0, .ref (q 45)), (1, .int a1), (2, .int a2), (3, .int a3), (4, .int a4)] := hl
    unfold D0b_run at hm
    refine lv_iload hx hb dX0_run_0 (lv_at hl 4 rfl) ?_
    refine lv_bipush (v := (20 : Int32)) hx hb dX0_run_2 (by decide) ?_
    refine lv_icmp_le (tgt := 9) hx hb dX0_run_4 (by decide) (fun c_1 => ?_) (fun c_1 => ?_)
    · replace hm := ifp hm c_1
      refine lv_iload hx hb dX0_run_9 (lv_at hl 4 rfl) ?_
      refine lv_iconst (v := (1 : Int32)) hx hb dX0_run_11 (by decide) ?_
      refine lv_iadd hx hb dX0_run_12 ?_
      refine lv_istore (lv' := [(5, .int (a4 + (1 : Int32))), (0, .ref (q 45)), (1, .int a1), (2, .int a2), (3, .int a3), (4, .int a4)]) hx hb dX0_run_13 hl (by decide) rfl (fun ls hl => ?_)
      refine lv_iload_n hx hb dX0_run_15 rfl (lv_at hl 2 rfl) ?_
      refine lv_iload_n hx hb dX0_run_16 rfl (lv_at hl 3 rfl) ?_
      obtain ⟨r_3, e_2, hm⟩ := b1_in hm
      refine d_callSi (As := [.int a1, .int a2]) (rest := []) fx sx hC dw_w (D0c_bodyOf l τ a1 a2 e_2) k_1094 D0k_bodyOf D0h_bodyOf ⟨rfl, rfl⟩ ⟨Nat.le_trans (show _ ≤ n0 + 1 + 1 from (by omega : 0 + 1 ≤ n0 + 1 + 1)) hR.1, Nat.le_trans (show _ ≤ 26 * (n0 + 1) + 21 from (by omega : 8 + (2 + 11) + 0 ≤ 26 * (n0 + 1) + 21)) hR.2⟩ hf rfl hl.1 rfl (Nat.le_of_ble_eq_true rfl) dX0_run_17 (fun H locs hC => ?_)
      refine lv_istore (lv' := [(6, .int r_3), (5, .int (a4 + (1 : Int32))), (0, .ref (q 45)), (1, .int a1), (2, .int a2), (3, .int a3), (4, .int a4)]) hx hb dX0_run_20 hl (by decide) rfl (fun ls hl => ?_)
      refine lv_aload_n hx hb dX0_run_22 rfl (lv_at hl 2 rfl) ?_
      refine lv_iload hx hb dX0_run_23 (lv_at hl 0 rfl) ?_
      obtain ⟨τ_5, e_4, hm⟩ := b1_in hm
      refine d_callVv (ci := 0) (As := [.int r_3]) (rest := []) fx sx hC dw_w (D0c_note l τ r_3 e_4) k_1100 D0k_note D0h_note rfl rfl (O_at O0) ⟨rfl, rfl⟩ ⟨Nat.le_trans (show _ ≤ n0 + 1 + 1 from (by omega : 0 + 1 ≤ n0 + 1 + 1)) hR.1, Nat.le_trans (show _ ≤ 26 * (n0 + 1) + 21 from (by omega : 8 + (2 + 11) + 0 ≤ 26 * (n0 + 1) + 21)) hR.2⟩ hf rfl hl.1 rfl (Nat.le_of_ble_eq_true rfl) dX0_run_25 (fun H locs hC => ?_)
      refine lv_iload hx hb dX0_run_28 (lv_at hl 0 rfl) ?_
      by_cases c_6 : r_3 = (10 : Int32)
      · replace hm := ifp hm c_6
        have ec_6 : (r_3 : Int32).toInt = 10 := by rw [c_6]; rfl
        refine lv_lookup (off := 90) (tgt := 120) hx hb dX0_run_30 (by decide) (by rw [ec_6]; rfl) (by decide) ?_
        refine lv_iload_n hx hb dX0_run_120 rfl (lv_at hl 5 rfl) ?_
        refine lv_aload_n hx hb dX0_run_121 rfl (lv_at hl 2 rfl) ?_
        refine D0g_3 fx hC k_1089 dX0_run_122 ?_
        refine lv_iadd hx hb dX0_run_125 ?_
        cases hm
        exact g_iret fx hr hC rfl dX0_run_126
      · replace hm := ifn hm c_6
        by_cases c_7 : r_3 = (11 : Int32)
        · replace hm := ifp hm c_7
          have ec_7 : (r_3 : Int32).toInt = 11 := by rw [c_7]; rfl
          refine lv_lookup (off := 97) (tgt := 127) hx hb dX0_run_30 (by decide) (by rw [ec_7]; rfl) (by decide) ?_
          refine lv_aload_n hx hb dX0_run_127 rfl (lv_at hl 2 rfl) ?_
          refine lv_aload_n hx hb dX0_run_128 rfl (lv_at hl 2 rfl) ?_
          refine D0g_2 fx hC k_1088 dX0_run_129 ?_
          refine lv_iconst (v := (0 : Int32)) hx hb dX0_run_132 (by decide) ?_
          refine lv_iload_n hx hb dX0_run_133 rfl (lv_at hl 5 rfl) ?_
          refine lv_iload hx hb dX0_run_134 (lv_at hl 1 rfl) ?_
          obtain ⟨r_10, τ_9, e_8, hm⟩ := b2_in hm
          refine d_callVi (ci := 0) (As := [.int (τ_5.1 45 2), .int (0 : Int32), .int a3, .int (a4 + (1 : Int32))]) (rest := []) fx sx hC dw_w (ih τ_5 (τ_5.1 45 2) (0 : Int32) a3 (a4 + (1 : Int32)) e_8) k_1090 D0k_run D0h_run rfl rfl (O_at O0) ⟨rfl, rfl⟩ ⟨Nat.le_trans (show _ ≤ n0 + 1 + 1 from (by omega : n0 + 1 + 1 ≤ n0 + 1 + 1)) hR.1, Nat.le_trans (show _ ≤ 26 * (n0 + 1) + 21 from (by omega : 8 + (7 + 11) + (26 * n0 + 21) ≤ 26 * (n0 + 1) + 21)) hR.2⟩ hf rfl hl.1 rfl (Nat.le_of_ble_eq_true rfl) dX0_run_136 (fun H locs hC => ?_)
          refine lv_iconst (v := (3 : Int32)) hx hb dX0_run_139 (by decide) ?_
          refine lv_imul hx hb dX0_run_140 ?_
          cases hm
          exact g_iret fx hr hC rfl dX0_run_141
        · replace hm := ifn hm c_7
          by_cases c_11 : r_3 = (12 : Int32)
          · replace hm := ifp hm c_11
            have ec_11 : (r_3 : Int32).toInt = 12 := by rw [c_11]; rfl
            refine lv_lookup (off := 112) (tgt := 142) hx hb dX0_run_30 (by decide) (by rw [ec_11]; rfl) (by decide) ?_
            refine lv_aload_n hx hb dX0_run_142 rfl (lv_at hl 2 rfl) ?_
            refine lv_aload_n hx hb dX0_run_143 rfl (lv_at hl 2 rfl) ?_
            refine D0g_2 fx hC k_1088 dX0_run_144 ?_
            refine lv_iconst (v := (1 : Int32)) hx hb dX0_run_147 (by decide) ?_
            refine lv_iload_n hx hb dX0_run_148 rfl (lv_at hl 5 rfl) ?_
            refine lv_iload hx hb dX0_run_149 (lv_at hl 1 rfl) ?_
            obtain ⟨r_14, τ_13, e_12, hm⟩ := b2_in hm
            refine d_callVi (ci := 0) (As := [.int (τ_5.1 45 2), .int (1 : Int32), .int a3, .int (a4 + (1 : Int32))]) (rest := []) fx sx hC dw_w (ih τ_5 (τ_5.1 45 2) (1 : Int32) a3 (a4 + (1 : Int32)) e_12) k_1090 D0k_run D0h_run rfl rfl (O_at O0) ⟨rfl, rfl⟩ ⟨Nat.le_trans (show _ ≤ n0 + 1 + 1 from (by omega : n0 + 1 + 1 ≤ n0 + 1 + 1)) hR.1, Nat.le_trans (show _ ≤ 26 * (n0 + 1) + 21 from (by omega : 8 + (7 + 11) + (26 * n0 + 21) ≤ 26 * (n0 + 1) + 21)) hR.2⟩ hf rfl hl.1 rfl (Nat.le_of_ble_eq_true rfl) dX0_run_151 (fun H locs hC => ?_)
            refine lv_aload_n hx hb dX0_run_154 rfl (lv_at hl 2 rfl) ?_
            refine lv_aload_n hx hb dX0_run_155 rfl (lv_at hl 2 rfl) ?_
            refine D0g_2 fx hC k_1088 dX0_run_156 ?_
            refine lv_iconst (v := (0 : Int32)) hx hb dX0_run_159 (by decide) ?_
            refine lv_iload_n hx hb dX0_run_160 rfl (lv_at hl 5 rfl) ?_
            refine lv_iconst (v := (1 : Int32)) hx hb dX0_run_161 (by decide) ?_
            refine lv_iadd hx hb dX0_run_162 ?_
            refine lv_iload hx hb dX0_run_163 (lv_at hl 1 rfl) ?_
            obtain ⟨r_17, τ_16, e_15, hm⟩ := b2_in hm
            refine d_callVi (ci := 0) (As := [.int (τ_13.1 45 2), .int (0 : Int32), .int (a3 + (1 : Int32)), .int (a4 + (1 : Int32))]) (rest := [.int r_14]) fx sx hC dw_w (ih τ_13 (τ_13.1 45 2) (0 : Int32) (a3 + (1 : Int32)) (a4 + (1 : Int32)) e_15) k_1090 D0k_run D0h_run rfl rfl (O_at O0) ⟨rfl, rfl⟩ ⟨Nat.le_trans (show _ ≤ n0 + 1 + 1 from (by omega : n0 + 1 + 1 ≤ n0 + 1 + 1)) hR.1, Nat.le_trans (show _ ≤ 26 * (n0 + 1) + 21 from (by omega : 8 + (7 + 11) + (26 * n0 + 21) ≤ 26 * (n0 + 1) + 21)) hR.2⟩ hf rfl hl.1 rfl (Nat.le_of_ble_eq_true rfl) dX0_run_165 (fun H locs hC => ?_)
            refine lv_isub hx hb dX0_run_168 ?_
            cases hm
            exact g_iret fx hr hC rfl dX0_run_169
          · replace hm := ifn hm c_11
            by_cases c_18 : r_3 = (20 : Int32)
            · replace hm := ifp hm c_18
              have ec_18 : (r_3 : Int32).toInt = 20 := by rw [c_18]; rfl
              refine lv_lookup (off := 140) (tgt := 170) hx hb dX0_run_30 (by decide) (by rw [ec_18]; rfl) (by decide) ?_
              refine lv_aload_n hx hb dX0_run_170 rfl (lv_at hl 2 rfl) ?_
              refine lv_iconst (v := (0 : Int32)) hx hb dX0_run_171 (by decide) ?_
              refine lv_iconst (v := (0 : Int32)) hx hb dX0_run_172 (by decide) ?_
              refine lv_iload_n hx hb dX0_run_173 rfl (lv_at hl 5 rfl) ?_
              refine lv_iload hx hb dX0_run_174 (lv_at hl 1 rfl) ?_
              obtain ⟨r_21, τ_20, e_19, hm⟩ := b2_in hm
              refine d_callVi (ci := 0) (As := [.int (0 : Int32), .int (0 : Int32), .int a3, .int (a4 + (1 : Int32))]) (rest := []) fx sx hC dw_w (ih τ_5 (0 : Int32) (0 : Int32) a3 (a4 + (1 : Int32)) e_19) k_1090 D0k_run D0h_run rfl rfl (O_at O0) ⟨rfl, rfl⟩ ⟨Nat.le_trans (show _ ≤ n0 + 1 + 1 from (by omega : n0 + 1 + 1 ≤ n0 + 1 + 1)) hR.1, Nat.le_trans (show _ ≤ 26 * (n0 + 1) + 21 from (by omega : 8 + (7 + 11) + (26 * n0 + 21) ≤ 26 * (n0 + 1) + 21)) hR.2⟩ hf rfl hl.1 rfl (Nat.le_of_ble_eq_true rfl) dX0_run_176 (fun H locs hC => ?_)
              refine lv_iconst (v := (2 : Int32)) hx hb dX0_run_179 (by decide) ?_
              refine lv_imul hx hb dX0_run_180 ?_
              cases hm
              exact g_iret fx hr hC rfl dX0_run_181
            · replace hm := ifn hm c_18
              by_cases c_22 : r_3 = (21 : Int32)
              · replace hm := ifp hm c_22
                have ec_22 : (r_3 : Int32).toInt = 21 := by rw [c_22]; rfl
                refine lv_lookup (off := 152) (tgt := 182) hx hb dX0_run_30 (by decide) (by rw [ec_22]; rfl) (by decide) ?_
                refine lv_aload_n hx hb dX0_run_182 rfl (lv_at hl 2 rfl) ?_
                refine lv_iconst (v := (0 : Int32)) hx hb dX0_run_183 (by decide) ?_
                refine lv_iconst (v := (2 : Int32)) hx hb dX0_run_184 (by decide) ?_
                refine lv_iload_n hx hb dX0_run_185 rfl (lv_at hl 5 rfl) ?_
                refine lv_iload hx hb dX0_run_186 (lv_at hl 1 rfl) ?_
                obtain ⟨r_25, τ_24, e_23, hm⟩ := b2_in hm
                refine d_callVi (ci := 0) (As := [.int (0 : Int32), .int (2 : Int32), .int a3, .int (a4 + (1 : Int32))]) (rest := []) fx sx hC dw_w (ih τ_5 (0 : Int32) (2 : Int32) a3 (a4 + (1 : Int32)) e_23) k_1090 D0k_run D0h_run rfl rfl (O_at O0) ⟨rfl, rfl⟩ ⟨Nat.le_trans (show _ ≤ n0 + 1 + 1 from (by omega : n0 + 1 + 1 ≤ n0 + 1 + 1)) hR.1, Nat.le_trans (show _ ≤ 26 * (n0 + 1) + 21 from (by omega : 8 + (7 + 11) + (26 * n0 + 21) ≤ 26 * (n0 + 1) + 21)) hR.2⟩ hf rfl hl.1 rfl (Nat.le_of_ble_eq_true rfl) dX0_run_188 (fun H locs hC => ?_)
                refine lv_iconst (v := (5 : Int32)) hx hb dX0_run_191 (by decide) ?_
                refine lv_ixor hx hb dX0_run_192 ?_
                cases hm
                exact g_iret fx hr hC rfl dX0_run_193
              · replace hm := ifn hm c_22
                by_cases c_26 : r_3 = (30 : Int32)
                · replace hm := ifp hm c_26
                  have ec_26 : (r_3 : Int32).toInt = 30 := by rw [c_26]; rfl
                  refine lv_lookup (off := 164) (tgt := 194) hx hb dX0_run_30 (by decide) (by rw [ec_26]; rfl) (by decide) ?_
                  refine lv_aload_n hx hb dX0_run_194 rfl (lv_at hl 2 rfl) ?_
                  refine lv_iconst (v := (1 : Int32)) hx hb dX0_run_195 (by decide) ?_
                  refine lv_iconst (v := (1 : Int32)) hx hb dX0_run_196 (by decide) ?_
                  refine lv_iload_n hx hb dX0_run_197 rfl (lv_at hl 5 rfl) ?_
                  refine lv_iload hx hb dX0_run_198 (lv_at hl 1 rfl) ?_
                  obtain ⟨r_29, τ_28, e_27, hm⟩ := b2_in hm
                  refine d_callVi (ci := 0) (As := [.int (1 : Int32), .int (1 : Int32), .int a3, .int (a4 + (1 : Int32))]) (rest := []) fx sx hC dw_w (ih τ_5 (1 : Int32) (1 : Int32) a3 (a4 + (1 : Int32)) e_27) k_1090 D0k_run D0h_run rfl rfl (O_at O0) ⟨rfl, rfl⟩ ⟨Nat.le_trans (show _ ≤ n0 + 1 + 1 from (by omega : n0 + 1 + 1 ≤ n0 + 1 + 1)) hR.1, Nat.le_trans (show _ ≤ 26 * (n0 + 1) + 21 from (by omega : 8 + (7 + 11) + (26 * n0 + 21) ≤ 26 * (n0 + 1) + 21)) hR.2⟩ hf rfl hl.1 rfl (Nat.le_of_ble_eq_true rfl) dX0_run_200 (fun H locs hC => ?_)
                  refine lv_aload_n hx hb dX0_run_203 rfl (lv_at hl 2 rfl) ?_
                  refine lv_aload_n hx hb dX0_run_204 rfl (lv_at hl 2 rfl) ?_
                  refine D0g_2 fx hC k_1088 dX0_run_205 ?_
                  refine lv_iconst (v := (0 : Int32)) hx hb dX0_run_208 (by decide) ?_
                  refine lv_iload_n hx hb dX0_run_209 rfl (lv_at hl 5 rfl) ?_
                  refine lv_iload hx hb dX0_run_210 (lv_at hl 1 rfl) ?_
                  obtain ⟨r_32, τ_31, e_30, hm⟩ := b2_in hm
                  refine d_callVi (ci := 0) (As := [.int (τ_28.1 45 2), .int (0 : Int32), .int a3, .int (a4 + (1 : Int32))]) (rest := [.int r_29]) fx sx hC dw_w (ih τ_28 (τ_28.1 45 2) (0 : Int32) a3 (a4 + (1 : Int32)) e_30) k_1090 D0k_run D0h_run rfl rfl (O_at O0) ⟨rfl, rfl⟩ ⟨Nat.le_trans (show _ ≤ n0 + 1 + 1 from (by omega : n0 + 1 + 1 ≤ n0 + 1 + 1)) hR.1, Nat.le_trans (show _ ≤ 26 * (n0 + 1) + 21 from (by omega : 8 + (7 + 11) + (26 * n0 + 21) ≤ 26 * (n0 + 1) + 21)) hR.2⟩ hf rfl hl.1 rfl (Nat.le_of_ble_eq_true rfl) dX0_run_212 (fun H locs hC => ?_)
                  refine lv_iadd hx hb dX0_run_215 ?_
                  cases hm
                  exact g_iret fx hr hC rfl dX0_run_216
                · replace hm := ifn hm c_26
                  by_cases c_33 : r_3 = (40 : Int32)
                  · replace hm := ifp hm c_33
                    have ec_33 : (r_3 : Int32).toInt = 40 := by rw [c_33]; rfl
                    refine lv_lookup (off := 187) (tgt := 217) hx hb dX0_run_30 (by decide) (by rw [ec_33]; rfl) (by decide) ?_
                    refine lv_aload_n hx hb dX0_run_217 rfl (lv_at hl 2 rfl) ?_
                    refine lv_iconst (v := (0 : Int32)) hx hb dX0_run_218 (by decide) ?_
                    refine lv_iconst (v := (1 : Int32)) hx hb dX0_run_219 (by decide) ?_
                    refine lv_iload_n hx hb dX0_run_220 rfl (lv_at hl 5 rfl) ?_
                    refine lv_aload_n hx hb dX0_run_221 rfl (lv_at hl 2 rfl) ?_
                    refine D0g_3 fx hC k_1089 dX0_run_222 ?_
                    refine lv_iadd hx hb dX0_run_225 ?_
                    refine lv_iload hx hb dX0_run_226 (lv_at hl 1 rfl) ?_
                    obtain ⟨r_36, τ_35, e_34, hm⟩ := b2_in hm
                    refine d_callVi (ci := 0) (As := [.int (0 : Int32), .int (1 : Int32), .int (a3 + (τ_5.1 45 3)), .int (a4 + (1 : Int32))]) (rest := []) fx sx hC dw_w (ih τ_5 (0 : Int32) (1 : Int32) (a3 + (τ_5.1 45 3)) (a4 + (1 : Int32)) e_34) k_1090 D0k_run D0h_run rfl rfl (O_at O0) ⟨rfl, rfl⟩ ⟨Nat.le_trans (show _ ≤ n0 + 1 + 1 from (by omega : n0 + 1 + 1 ≤ n0 + 1 + 1)) hR.1, Nat.le_trans (show _ ≤ 26 * (n0 + 1) + 21 from (by omega : 8 + (7 + 11) + (26 * n0 + 21) ≤ 26 * (n0 + 1) + 21)) hR.2⟩ hf rfl hl.1 rfl (Nat.le_of_ble_eq_true rfl) dX0_run_228 (fun H locs hC => ?_)
                    cases hm
                    exact g_iret fx hr hC rfl dX0_run_231
                  · replace hm := ifn hm c_33
                    by_cases c_37 : r_3 = (50 : Int32)
                    · replace hm := ifp hm c_37
                      have ec_37 : (r_3 : Int32).toInt = 50 := by rw [c_37]; rfl
                      refine lv_lookup (off := 202) (tgt := 232) hx hb dX0_run_30 (by decide) (by rw [ec_37]; rfl) (by decide) ?_
                      refine lv_aload_n hx hb dX0_run_232 rfl (lv_at hl 2 rfl) ?_
                      refine lv_aload_n hx hb dX0_run_233 rfl (lv_at hl 2 rfl) ?_
                      refine D0g_2 fx hC k_1088 dX0_run_234 ?_
                      refine lv_iconst (v := (0 : Int32)) hx hb dX0_run_237 (by decide) ?_
                      refine lv_iload_n hx hb dX0_run_238 rfl (lv_at hl 5 rfl) ?_
                      refine lv_iload hx hb dX0_run_239 (lv_at hl 1 rfl) ?_
                      obtain ⟨r_40, τ_39, e_38, hm⟩ := b2_in hm
                      refine d_callVi (ci := 0) (As := [.int (τ_5.1 45 2), .int (0 : Int32), .int a3, .int (a4 + (1 : Int32))]) (rest := []) fx sx hC dw_w (ih τ_5 (τ_5.1 45 2) (0 : Int32) a3 (a4 + (1 : Int32)) e_38) k_1090 D0k_run D0h_run rfl rfl (O_at O0) ⟨rfl, rfl⟩ ⟨Nat.le_trans (show _ ≤ n0 + 1 + 1 from (by omega : n0 + 1 + 1 ≤ n0 + 1 + 1)) hR.1, Nat.le_trans (show _ ≤ 26 * (n0 + 1) + 21 from (by omega : 8 + (7 + 11) + (26 * n0 + 21) ≤ 26 * (n0 + 1) + 21)) hR.2⟩ hf rfl hl.1 rfl (Nat.le_of_ble_eq_true rfl) dX0_run_241 (fun H locs hC => ?_)
                      refine lv_aload_n hx hb dX0_run_244 rfl (lv_at hl 2 rfl) ?_
                      refine lv_iconst (v := (0 : Int32)) hx hb dX0_run_245 (by decide) ?_
                      refine lv_iconst (v := (2 : Int32)) hx hb dX0_run_246 (by decide) ?_
                      refine lv_iload_n hx hb dX0_run_247 rfl (lv_at hl 5 rfl) ?_
                      refine lv_iload hx hb dX0_run_248 (lv_at hl 1 rfl) ?_
                      obtain ⟨r_43, τ_42, e_41, hm⟩ := b2_in hm
                      refine d_callVi (ci := 0) (As := [.int (0 : Int32), .int (2 : Int32), .int a3, .int (a4 + (1 : Int32))]) (rest := [.int r_40]) fx sx hC dw_w (ih τ_39 (0 : Int32) (2 : Int32) a3 (a4 + (1 : Int32)) e_41) k_1090 D0k_run D0h_run rfl rfl (O_at O0) ⟨rfl, rfl⟩ ⟨Nat.le_trans (show _ ≤ n0 + 1 + 1 from (by omega : n0 + 1 + 1 ≤ n0 + 1 + 1)) hR.1, Nat.le_trans (show _ ≤ 26 * (n0 + 1) + 21 from (by omega : 8 + (7 + 11) + (26 * n0 + 21) ≤ 26 * (n0 + 1) + 21)) hR.2⟩ hf rfl hl.1 rfl (Nat.le_of_ble_eq_true rfl) dX0_run_250 (fun H locs hC => ?_)
                      refine lv_isub hx hb dX0_run_253 ?_
                      cases hm
                      exact g_iret fx hr hC rfl dX0_run_254
                    · replace hm := ifn hm c_37
                      by_cases c_44 : r_3 = (60 : Int32)
                      · replace hm := ifp hm c_44
                        have ec_44 : (r_3 : Int32).toInt = 60 := by rw [c_44]; rfl
                        refine lv_lookup (off := 225) (tgt := 255) hx hb dX0_run_30 (by decide) (by rw [ec_44]; rfl) (by decide) ?_
                        refine lv_aload_n hx hb dX0_run_255 rfl (lv_at hl 2 rfl) ?_
                        refine lv_iconst (v := (3 : Int32)) hx hb dX0_run_256 (by decide) ?_
                        refine lv_iconst (v := (0 : Int32)) hx hb dX0_run_257 (by decide) ?_
                        refine lv_iload_n hx hb dX0_run_258 rfl (lv_at hl 5 rfl) ?_
                        refine lv_iload hx hb dX0_run_259 (lv_at hl 1 rfl) ?_
                        obtain ⟨r_47, τ_46, e_45, hm⟩ := b2_in hm
                        refine d_callVi (ci := 0) (As := [.int (3 : Int32), .int (0 : Int32), .int a3, .int (a4 + (1 : Int32))]) (rest := []) fx sx hC dw_w (ih τ_5 (3 : Int32) (0 : Int32) a3 (a4 + (1 : Int32)) e_45) k_1090 D0k_run D0h_run rfl rfl (O_at O0) ⟨rfl, rfl⟩ ⟨Nat.le_trans (show _ ≤ n0 + 1 + 1 from (by omega : n0 + 1 + 1 ≤ n0 + 1 + 1)) hR.1, Nat.le_trans (show _ ≤ 26 * (n0 + 1) + 21 from (by omega : 8 + (7 + 11) + (26 * n0 + 21) ≤ 26 * (n0 + 1) + 21)) hR.2⟩ hf rfl hl.1 rfl (Nat.le_of_ble_eq_true rfl) dX0_run_261 (fun H locs hC => ?_)
                        refine lv_bipush (v := (7 : Int32)) hx hb dX0_run_264 (by decide) ?_
                        refine lv_iadd hx hb dX0_run_266 ?_
                        cases hm
                        exact g_iret fx hr hC rfl dX0_run_267
                      · replace hm := ifn hm c_44
                        by_cases c_48 : r_3 = (61 : Int32)
                        · replace hm := ifp hm c_48
                          have ec_48 : (r_3 : Int32).toInt = 61 := by rw [c_48]; rfl
                          refine lv_lookup (off := 238) (tgt := 268) hx hb dX0_run_30 (by decide) (by rw [ec_48]; rfl) (by decide) ?_
                          refine lv_aload_n hx hb dX0_run_268 rfl (lv_at hl 2 rfl) ?_
                          refine lv_iconst (v := (3 : Int32)) hx hb dX0_run_269 (by decide) ?_
                          refine lv_iconst (v := (1 : Int32)) hx hb dX0_run_270 (by decide) ?_
                          refine lv_iload_n hx hb dX0_run_271 rfl (lv_at hl 5 rfl) ?_
                          refine lv_iload hx hb dX0_run_272 (lv_at hl 1 rfl) ?_
                          obtain ⟨r_51, τ_50, e_49, hm⟩ := b2_in hm
                          refine d_callVi (ci := 0) (As := [.int (3 : Int32), .int (1 : Int32), .int a3, .int (a4 + (1 : Int32))]) (rest := []) fx sx hC dw_w (ih τ_5 (3 : Int32) (1 : Int32) a3 (a4 + (1 : Int32)) e_49) k_1090 D0k_run D0h_run rfl rfl (O_at O0) ⟨rfl, rfl⟩ ⟨Nat.le_trans (show _ ≤ n0 + 1 + 1 from (by omega : n0 + 1 + 1 ≤ n0 + 1 + 1)) hR.1, Nat.le_trans (show _ ≤ 26 * (n0 + 1) + 21 from (by omega : 8 + (7 + 11) + (26 * n0 + 21) ≤ 26 * (n0 + 1) + 21)) hR.2⟩ hf rfl hl.1 rfl (Nat.le_of_ble_eq_true rfl) dX0_run_274 (fun H locs hC => ?_)
                          refine lv_iconst (v := (2 : Int32)) hx hb dX0_run_277 (by decide) ?_
                          refine lv_imul hx hb dX0_run_278 ?_
                          cases hm
                          exact g_iret fx hr hC rfl dX0_run_279
                        · replace hm := ifn hm c_48
                          have nc_6 : ¬ (r_3 : Int32).toInt = 10 := lv_neT c_6 rfl
                          have nc_7 : ¬ (r_3 : Int32).toInt = 11 := lv_neT c_7 rfl
                          have nc_11 : ¬ (r_3 : Int32).toInt = 12 := lv_neT c_11 rfl
                          have nc_18 : ¬ (r_3 : Int32).toInt = 20 := lv_neT c_18 rfl
                          have nc_22 : ¬ (r_3 : Int32).toInt = 21 := lv_neT c_22 rfl
                          have nc_26 : ¬ (r_3 : Int32).toInt = 30 := lv_neT c_26 rfl
                          have nc_33 : ¬ (r_3 : Int32).toInt = 40 := lv_neT c_33 rfl
                          have nc_37 : ¬ (r_3 : Int32).toInt = 50 := lv_neT c_37 rfl
                          have nc_44 : ¬ (r_3 : Int32).toInt = 60 := lv_neT c_44 rfl
                          have nc_48 : ¬ (r_3 : Int32).toInt = 61 := lv_neT c_48 rfl
                          refine lv_lookup (off := 250) (tgt := 280) hx hb dX0_run_30 (by decide) (by show Op.lookupswitch.offset [(10, 90), (11, 97), (12, 112), (20, 140), (21, 152), (30, 164), (40, 187), (50, 202), (60, 225), (61, 238)] 250 _ = _; rw [lv_osw (a := 10) c_6 rfl, lv_osw (a := 11) c_7 rfl, lv_osw (a := 12) c_11 rfl, lv_osw (a := 20) c_18 rfl, lv_osw (a := 21) c_22 rfl, lv_osw (a := 30) c_26 rfl, lv_osw (a := 40) c_33 rfl, lv_osw (a := 50) c_37 rfl, lv_osw (a := 60) c_44 rfl, lv_osw (a := 61) c_48 rfl]; rfl) (by decide) ?_
                          refine lv_iconst (v := (0 : Int32)) hx hb dX0_run_280 (by decide) ?_
                          cases hm
                          exact g_iret fx hr hC rfl dX0_run_281
    · replace hm := ifn hm c_1
      refine lv_iconst (v := (0 : Int32)) hx hb dX0_run_7 (by decide) ?_
      cases hm
      exact g_iret fx hr hC rfl dX0_run_8
def D0m_begin (τ : DS) (a1 : Int32) (a2 : Int32) (a3 : Int32) (a4 : Int32) : Option (Int32 × DS) :=
  nm (dS τ 45 2 a1) (fun τ_1 => nm (dS τ_1 45 3 a2) (fun τ_3 => b2 (D0m_run 24 τ_3 (τ_3.1 45 2) a3 a4 (0 : Int32)) (fun r_7 τ_6 => some (r_7, τ_6))))
abbrev D0rm_begin : Room := { frames := 26, cells := 0, slots := 0, locals := 671 }
set_option maxRecDepth 100000 in
set_option maxHeartbeats 4000000 in
theorem D0c_begin (l : Launch) {D : va_G} {cy : Nat → ClassId} {ad : List Nat} {q : Nat → Nat} {X : va_W} (τ : DS) (a1 : Int32) (a2 : Int32) (a3 : Int32) (a4 : Int32) {o : Int32 × DS} (hm : D0m_begin τ a1 a2 a3 a4 = some o) : DM l yX0_begin cX0_begin 5 (some .int) D0rm_begin D cy (dwd cy q X) ad [.ref (q 45), .int a1, .int a2, .int a3, .int a4] τ (some (.int (o.1))) o.2 := by
  refine d_start RX0 rfl (by decide) (Nat.le_of_ble_eq_true rfl) ?_
  intro p e s m args below meth c fx sx hr hC ls hl
  have hx := fx.1
  have hb := fx.2.1
  have hR : 26 ≤ (D0rm_begin).frames ∧ 671 ≤ (D0rm_begin).locals := ⟨Nat.le_refl _, Nat.le_refl _⟩
  have hf : 0 ≤ (D0rm_begin).cells ∧ 0 ≤ (D0rm_begin).slots := ⟨Nat.zero_le _, Nat.zero_le _⟩
  have hl : lv_has ls 5 [(0, .ref (q 45)), (1, .int a1), (2, .int a2), (3, .int a3), (4, .int a4)] := hl
  unfold D0m_begin at hm
  refine lv_aload_n hx hb dX0_begin_0 rfl (lv_at hl 0 rfl) ?_
  refine lv_iload_n hx hb dX0_begin_1 rfl (lv_at hl 1 rfl) ?_
  refine D0p_2 fx hC k_1088 dX0_begin_2 (fun H locs hC => ?_)
  obtain ⟨τ_1, e_2⟩ : ∃ z, z = (dS τ 45 2 a1) := ⟨_, rfl⟩
  rw [← e_2] at hC
  replace hm := nm_in hm e_2
  refine lv_aload_n hx hb dX0_begin_5 rfl (lv_at hl 0 rfl) ?_
  refine lv_iload_n hx hb dX0_begin_6 rfl (lv_at hl 2 rfl) ?_
  refine D0p_3 fx hC k_1089 dX0_begin_7 (fun H locs hC => ?_)
  obtain ⟨τ_3, e_4⟩ : ∃ z, z = (dS τ_1 45 3 a2) := ⟨_, rfl⟩
  rw [← e_4] at hC
  replace hm := nm_in hm e_4
  refine lv_aload_n hx hb dX0_begin_10 rfl (lv_at hl 0 rfl) ?_
  refine lv_aload_n hx hb dX0_begin_11 rfl (lv_at hl 0 rfl) ?_
  refine D0g_2 fx hC k_1088 dX0_begin_12 ?_
  refine lv_iload_n hx hb dX0_begin_15 rfl (lv_at hl 3 rfl) ?_
  refine lv_iload hx hb dX0_begin_16 (lv_at hl 4 rfl) ?_
  refine lv_iconst (v := (0 : Int32)) hx hb dX0_begin_18 (by decide) ?_
  obtain ⟨r_7, τ_6, e_5, hm⟩ := b2_in hm
  refine d_callVi (ci := 0) (As := [.int (τ_3.1 45 2), .int a3, .int a4, .int (0 : Int32)]) (rest := []) fx sx hC dw_w (D0c_run l 24 τ_3 (τ_3.1 45 2) a3 a4 (0 : Int32) e_5) k_1090 D0k_run D0h_run rfl rfl (O_at O0) ⟨rfl, rfl⟩ ⟨Nat.le_trans (Nat.le_of_ble_eq_true rfl) hR.1, Nat.le_trans (Nat.le_of_ble_eq_true rfl) hR.2⟩ hf rfl hl.1 rfl (Nat.le_of_ble_eq_true rfl) dX0_begin_19 (fun H locs hC => ?_)
  cases hm
  exact g_iret fx hr hC rfl dX0_begin_22
def D0m_kept (τ : DS) (a1 : Int32) : Option Int32 :=
  if a1 < (0 : Int32) then (some (-1 : Int32)) else (if (τ.1 45 0) ≤ a1 then (some (-1 : Int32)) else (if (40 : Int32) ≤ a1 then (some (-1 : Int32)) else (gi a1 40 (some (τ.2.1 46 (a1).toNatClampNeg)))))
abbrev D0rm_kept : Room := { frames := 0, cells := 0, slots := 0, locals := 0 }
set_option maxRecDepth 100000 in
set_option maxHeartbeats 4000000 in
theorem D0c_kept (l : Launch) {D : va_G} {cy : Nat → ClassId} {ad : List Nat} {q : Nat → Nat} {X : va_W} (τ : DS) (a1 : Int32) {o : Int32} (hm : D0m_kept τ a1 = some o) : DM l yX0_kept cX0_kept 2 (some .int) D0rm_kept D cy (dwd cy q X) ad [.ref (q 45), .int a1] τ (some (.int (o))) τ := by
  refine d_start RX0 rfl (by decide) (Nat.le_of_ble_eq_true rfl) ?_
  intro p e s m args below meth c fx sx hr hC ls hl
  have hx := fx.1
  have hb := fx.2.1
  have hR : 0 ≤ (D0rm_kept).frames ∧ 0 ≤ (D0rm_kept).locals := ⟨Nat.le_refl _, Nat.le_refl _⟩
  have hf : 0 ≤ (D0rm_kept).cells ∧ 0 ≤ (D0rm_kept).slots := ⟨Nat.zero_le _, Nat.zero_le _⟩
  have hl : lv_has ls 2 [(0, .ref (q 45)), (1, .int a1)] := hl
  unfold D0m_kept at hm
  refine lv_iload_n hx hb dX0_kept_0 rfl (lv_at hl 1 rfl) ?_
  refine lv_if_lt (tgt := 27) hx hb dX0_kept_1 (by decide) (fun c_1 => ?_) (fun c_1 => ?_)
  · replace hm := ifp hm c_1
    refine lv_iconst (v := (-1 : Int32)) hx hb dX0_kept_27 (by decide) ?_
    cases hm
    exact g_iret fx hr hC rfl dX0_kept_28
  · replace hm := ifn hm c_1
    refine lv_iload_n hx hb dX0_kept_4 rfl (lv_at hl 1 rfl) ?_
    refine lv_aload_n hx hb dX0_kept_5 rfl (lv_at hl 0 rfl) ?_
    refine D0g_0 fx hC k_1083 dX0_kept_6 ?_
    refine lv_icmp_ge (tgt := 27) hx hb dX0_kept_9 (by decide) (fun c_2 => ?_) (fun c_2 => ?_)
    · replace hm := ifp hm c_2
      refine lv_iconst (v := (-1 : Int32)) hx hb dX0_kept_27 (by decide) ?_
      cases hm
      exact g_iret fx hr hC rfl dX0_kept_28
    · replace hm := ifn hm c_2
      refine lv_iload_n hx hb dX0_kept_12 rfl (lv_at hl 1 rfl) ?_
      refine lv_bipush (v := (40 : Int32)) hx hb dX0_kept_13 (by decide) ?_
      refine lv_icmp_ge (tgt := 27) hx hb dX0_kept_15 (by decide) (fun c_3 => ?_) (fun c_3 => ?_)
      · replace hm := ifp hm c_3
        refine lv_iconst (v := (-1 : Int32)) hx hb dX0_kept_27 (by decide) ?_
        cases hm
        exact g_iret fx hr hC rfl dX0_kept_28
      · replace hm := ifn hm c_3
        refine lv_aload_n hx hb dX0_kept_18 rfl (lv_at hl 0 rfl) ?_
        refine D0g_1 fx hC k_94 dX0_kept_19 ?_
        refine lv_iload_n hx hb dX0_kept_22 rfl (lv_at hl 1 rfl) ?_
        have h_4 := (gi_in hm).1
        replace hm := (gi_in hm).2
        refine DLi fx hC Ka46 h_4 dX0_kept_23 ?_
        refine lv_goto (tgt := 28) hx hb dX0_kept_24 (by decide) ?_
        cases hm
        exact g_iret fx hr hC rfl dX0_kept_28
def D1m_isNumber (τ : DS) (a1 : Int32) : Int32 :=
  if a1 < (0 : Int32) then ((0 : Int32)) else (if (6 : Int32) ≤ a1 then ((0 : Int32)) else ((1 : Int32)))
abbrev D1rm_isNumber : Room := { frames := 0, cells := 0, slots := 0, locals := 0 }
set_option maxRecDepth 100000 in
set_option maxHeartbeats 4000000 in
theorem D1c_isNumber (l : Launch) {D : va_G} {cy : Nat → ClassId} {ad : List Nat} {q : Nat → Nat} {X : va_W} (τ : DS) (a1 : Int32) : DM l yX1_isNumber cX1_isNumber 2 (some .boolean) D1rm_isNumber D cy (dwd cy q X) ad [.ref (q 33), .int a1] τ (some (.int (D1m_isNumber τ a1))) τ := by
  refine d_start RX1 rfl (by decide) (Nat.le_of_ble_eq_true rfl) ?_
  intro p e s m args below meth c fx sx hr hC ls hl
  have hx := fx.1
  have hb := fx.2.1
  have hR : 0 ≤ (D1rm_isNumber).frames ∧ 0 ≤ (D1rm_isNumber).locals := ⟨Nat.le_refl _, Nat.le_refl _⟩
  have hf : 0 ≤ (D1rm_isNumber).cells ∧ 0 ≤ (D1rm_isNumber).slots := ⟨Nat.zero_le _, Nat.zero_le _⟩
  have hl : lv_has ls 2 [(0, .ref (q 33)), (1, .int a1)] := hl
  obtain ⟨o, hm⟩ : ∃ z, z = D1m_isNumber τ a1 := ⟨_, rfl⟩
  rw [← hm]
  replace hm := hm.symm
  unfold D1m_isNumber at hm
  refine lv_iload_n hx hb dX1_isNumber_0 rfl (lv_at hl 1 rfl) ?_
  refine lv_if_lt (tgt := 14) hx hb dX1_isNumber_1 (by decide) (fun c_1 => ?_) (fun c_1 => ?_)
  · replace hm := ifp hm c_1
    refine lv_iconst (v := (0 : Int32)) hx hb dX1_isNumber_14 (by decide) ?_
    exact g_zret fx hr rfl hC (by rw [← hm]) dX1_isNumber_15
  · replace hm := ifn hm c_1
    refine lv_iload_n hx hb dX1_isNumber_4 rfl (lv_at hl 1 rfl) ?_
    refine lv_bipush (v := (6 : Int32)) hx hb dX1_isNumber_5 (by decide) ?_
    refine lv_icmp_ge (tgt := 14) hx hb dX1_isNumber_7 (by decide) (fun c_2 => ?_) (fun c_2 => ?_)
    · replace hm := ifp hm c_2
      refine lv_iconst (v := (0 : Int32)) hx hb dX1_isNumber_14 (by decide) ?_
      exact g_zret fx hr rfl hC (by rw [← hm]) dX1_isNumber_15
    · replace hm := ifn hm c_2
      refine lv_iconst (v := (1 : Int32)) hx hb dX1_isNumber_10 (by decide) ?_
      refine lv_goto (tgt := 15) hx hb dX1_isNumber_11 (by decide) ?_
      exact g_zret fx hr rfl hC (by rw [← hm]) dX1_isNumber_15
theorem D1z_isNumber (τ : DS) (a1 : Int32) : narrow .boolean (.int (D1m_isNumber τ a1)) = .int (D1m_isNumber τ a1) := by
  unfold D1m_isNumber
  repeat' (first | rfl | split)
def J7s_fill_53178_5 {ρ : Type} (p0 : Nat) (n0 : Nat) (p1 : Int32) (p3 : Int32) (kx20 : DS → Option ρ) (rc : Int32 → DS → Option ρ) (v2 : Int32) (τ : DS) : Option ρ :=
  if p3 ≤ v2 then (kx20  τ) else (gi v2 n0 (nm (dA τ p0 (v2).toNatClampNeg p1) (fun τ_3 => rc (v2 + (1 : Int32)) τ_3)))
def J7m_fill_53178 (τ : DS) (a1 : Nat) (na1 : Nat) (a2 : Int32) : Option DS :=
  it2 (J7s_fill_53178_5 a1 na1 a2 (Int32.ofNat na1) (fun τ_5 => some τ_5)) fuel (0 : Int32) τ
abbrev J7rm_fill_53178 : Room := { frames := 0, cells := 0, slots := 0, locals := 0 }
set_option maxRecDepth 100000 in
set_option maxHeartbeats 4000000 in
theorem J7w_fill_53178_5 {ρ : Type} {out : ρ} {p : Program} {l : Launch} {e : Env} {R : Room} {s : State} {m : MethodId} {args : Array Value} {below : List Frame} {meth : Method} {c : Code} {cells slots : Nat} {Q : State → Prop} {D : va_G} {cy : Nat → ClassId} {ad : List Nat} {q : Nat → Nat} {X : va_W} (fx : FX p s m args meth c cJ7_fill_53178 4 RJ7 D cy) (sx : SX ad s) (hR : 0 ≤ R.frames ∧ 0 ≤ R.locals) (hf : cells ≤ R.cells ∧ slots ≤ R.slots) (p0 : Nat) (n0 : Nat) (hp0 : KI cy q p0 n0) (p1 : Int32) (p3 : Int32) {kx20 : DS → Option ρ} :
    ∀ (n : Nat) (v2 : Int32) (τ : DS), it2 (J7s_fill_53178_5 p0 n0 p1 p3 kx20) n v2 τ = some out → ∀ (H : Heap) (locs : List Loc) (ls : Array Slot), GC D (dwd cy q X) ad s τ H locs → lv_has ls 4 [(0, .ref (q p0)), (1, .int p1), (2, .int v2), (3, .int p3)] → (∀ (τ2 : DS) (H : Heap) (locs : List Loc) (ls : Array Slot), kx20 τ2 = some out → GC D (dwd cy q X) ad s τ2 H locs → lv_has ls 4 [] → W p l e R s m args below meth c H locs cells slots Q (F0 m 20 ls [])) → W p l e R s m args below meth c H locs cells slots Q (F0 m 5 ls []) := by
  have hx := fx.1
  have hb := fx.2.1
  intro n
  induction n with
  | zero => intro v2 τ hm; exact (it2_z hm).elim
  | succ n ih9 =>
    intro v2 τ hm H locs ls hC hl hx20
    obtain ⟨rc, hrc⟩ : ∃ z, z = it2 (J7s_fill_53178_5 p0 n0 p1 p3 kx20) n := ⟨_, rfl⟩
    replace hm : J7s_fill_53178_5 p0 n0 p1 p3 kx20 rc v2 τ = some out := by rw [hrc]; exact hm
    unfold J7s_fill_53178_5 at hm
    refine lv_iload_n hx hb dJ7_fill_53178_5 rfl (lv_at hl 2 rfl) ?_
    refine lv_iload_n hx hb dJ7_fill_53178_6 rfl (lv_at hl 3 rfl) ?_
    refine lv_icmp_ge (tgt := 20) hx hb dJ7_fill_53178_7 (by decide) (fun c_1 => ?_) (fun c_1 => ?_)
    · replace hm := ifp hm c_1
      exact hx20 _ _ _ _ hm hC (lv_sub hl [] rfl)
    · replace hm := ifn hm c_1
      refine lv_aload_n hx hb dJ7_fill_53178_10 rfl (lv_at hl 0 rfl) ?_
      refine lv_iload_n hx hb dJ7_fill_53178_11 rfl (lv_at hl 2 rfl) ?_
      refine lv_iload_n hx hb dJ7_fill_53178_12 rfl (lv_at hl 1 rfl) ?_
      have h_2 := (gi_in hm).1
      replace hm := (gi_in hm).2
      refine DSi fx hC hp0 h_2 dJ7_fill_53178_13 (fun H locs hC => ?_)
      obtain ⟨τ_3, e_4⟩ : ∃ z, z = (dA τ p0 (v2).toNatClampNeg p1) := ⟨_, rfl⟩
      rw [← e_4] at hC
      replace hm := nm_in hm e_4
      refine lv_iinc (v := (v2 + (1 : Int32))) (lv' := [(2, .int (v2 + (1 : Int32))), (0, .ref (q p0)), (1, .int p1), (3, .int p3)]) hx hb dJ7_fill_53178_14 hl (k := 2) rfl rfl (by decide) rfl (fun ls hl => ?_)
      refine lv_goto (tgt := 5) hx hb dJ7_fill_53178_17 (by decide) ?_
      rw [hrc] at hm
      exact ih9 _ _ hm _ _ _ hC (lv_sub hl [1, 2, 0, 3] rfl) hx20
set_option maxRecDepth 100000 in
set_option maxHeartbeats 4000000 in
theorem J7c_fill_53178 (l : Launch) {D : va_G} {cy : Nat → ClassId} {ad : List Nat} {q : Nat → Nat} {X : va_W} (τ : DS) (a1 : Nat) (na1 : Nat) (ha1 : KI cy q a1 na1) (a2 : Int32) {o : DS} (hm : J7m_fill_53178 τ a1 na1 a2 = some o) : DM l yJ7_fill_53178 cJ7_fill_53178 4 none J7rm_fill_53178 D cy (dwd cy q X) ad [.ref (q a1), .int a2] τ none o := by
  refine d_start RJ7 rfl (by decide) (Nat.le_of_ble_eq_true rfl) ?_
  intro p e s m args below meth c fx sx hr hC ls hl
  have hx := fx.1
  have hb := fx.2.1
  have hR : 0 ≤ (J7rm_fill_53178).frames ∧ 0 ≤ (J7rm_fill_53178).locals := ⟨Nat.le_refl _, Nat.le_refl _⟩
  have hf : 0 ≤ (J7rm_fill_53178).cells ∧ 0 ≤ (J7rm_fill_53178).slots := ⟨Nat.zero_le _, Nat.zero_le _⟩
  have hl : lv_has ls 4 [(0, .ref (q a1)), (1, .int a2)] := hl
  unfold J7m_fill_53178 at hm
  refine lv_iconst (v := (0 : Int32)) hx hb dJ7_fill_53178_0 (by decide) ?_
  refine lv_istore_n (lv' := [(2, .int (0 : Int32)), (0, .ref (q a1)), (1, .int a2)]) hx hb dJ7_fill_53178_1 rfl hl (by decide) rfl (fun ls hl => ?_)
  refine lv_aload_n hx hb dJ7_fill_53178_2 rfl (lv_at hl 1 rfl) ?_
  refine DNi fx hC ha1 dJ7_fill_53178_3 ?_
  refine lv_istore_n (lv' := [(3, .int (Int32.ofNat na1)), (2, .int (0 : Int32)), (0, .ref (q a1)), (1, .int a2)]) hx hb dJ7_fill_53178_4 rfl hl (by decide) rfl (fun ls hl => ?_)
  refine J7w_fill_53178_5 fx sx hR hf a1 na1 ha1 a2 (Int32.ofNat na1) fuel (0 : Int32) τ hm _ _ _ hC (lv_sub hl [2, 3, 1, 0] rfl) (fun τ_5 H locs ls hm hC hl => ?_)
  cases hm
  exact g_vret fx hr hC rfl dJ7_fill_53178_20
def D1m_layOut (τ : DS) (a1 : Int32) (a2 : Int32) (a3 : Int32) : Option (Int32 × DS) :=
  if (D1m_isNumber τ a1) = (0 : Int32) then (some ((-2 : Int32), τ)) else (if a2 < (-1 : Int32) then (some ((-2 : Int32), τ)) else (if (2 : Int32) < a2 then (some ((-2 : Int32), τ)) else (if a2 = (-1 : Int32) then (gi a1 6 (nm (dA τ 34 (a1).toNatClampNeg a2) (fun τ_7 => gi a1 6 (nm (dA τ_7 35 (a1).toNatClampNeg (0 : Int32)) (fun τ_11 => gi a1 6 (b1 (J7m_fill_53178 τ_11 (37 + (a1).toNatClampNeg) 40 (0 : Int32)) (fun τ_15 => some ((1 : Int32), τ_15)))))))) else (if a3 ≤ (40 : Int32) then (if (0 : Int32) ≤ a3 then (gi a1 6 (nm (dA τ 34 (a1).toNatClampNeg a2) (fun τ_20 => gi a1 6 (nm (dA τ_20 35 (a1).toNatClampNeg a3) (fun τ_24 => gi a1 6 (b1 (J7m_fill_53178 τ_24 (37 + (a1).toNatClampNeg) 40 (0 : Int32)) (fun τ_28 => some ((1 : Int32), τ_28)))))))) else (some ((-14 : Int32), τ))) else (some ((-2 : Int32), τ))))))
abbrev D1rm_layOut : Room := { frames := 1, cells := 0, slots := 0, locals := 23 }
set_option maxRecDepth 100000 in
set_option maxHeartbeats 4000000 in
theorem D1c_layOut (l : Launch) {D : va_G} {cy : Nat → ClassId} {ad : List Nat} {q : Nat → Nat} {X : va_W} (τ : DS) (a1 : Int32) (a2 : Int32) (a3 : Int32) {o : Int32 × DS} (hm : D1m_layOut τ a1 a2 a3 = some o) : DM l yX1_layOut cX1_layOut 4 (some .int) D1rm_layOut D cy (dwd cy q X) ad [.ref (q 33), .int a1, .int a2, .int a3] τ (some (.int (o.1))) o.2 := by
  refine d_start RX1 rfl (by decide) (Nat.le_of_ble_eq_true rfl) ?_
  intro p e s m args below meth c fx sx hr hC ls hl
  have hx := fx.1
  have hb := fx.2.1
  have hR : 1 ≤ (D1rm_layOut).frames ∧ 23 ≤ (D1rm_layOut).locals := ⟨Nat.le_refl _, Nat.le_refl _⟩
  have hf : 0 ≤ (D1rm_layOut).cells ∧ 0 ≤ (D1rm_layOut).slots := ⟨Nat.zero_le _, Nat.zero_le _⟩
  have hl : lv_has ls 4 [(0, .ref (q 33)), (1, .int a1), (2, .int a2), (3, .int a3)] := hl
  unfold D1m_layOut at hm
  refine lv_aload_n hx hb dX1_layOut_0 rfl (lv_at hl 0 rfl) ?_
  refine lv_iload_n hx hb dX1_layOut_1 rfl (lv_at hl 1 rfl) ?_
  refine d_callVi (ci := 1) (As := [.int a1]) (rest := []) fx sx hC dw_w (D1c_isNumber l τ a1) k_994 D1k_isNumber D1h_isNumber rfl rfl (O_at O1) ⟨rfl, rfl⟩ ⟨Nat.le_trans (Nat.le_of_ble_eq_true rfl) hR.1, Nat.le_trans (Nat.le_of_ble_eq_true rfl) hR.2⟩ hf rfl hl.1 rfl (Nat.le_of_ble_eq_true rfl) dX1_layOut_2 (fun H locs hC => ?_)
  refine lv_if_eq (tgt := 29) hx hb dX1_layOut_5 (by decide) (fun c_1 => ?_) (fun c_1 => ?_)
  · replace hm := ifp hm c_1
    refine lv_bipush (v := (-2 : Int32)) hx hb dX1_layOut_29 (by decide) ?_
    cases hm
    exact g_iret fx hr hC rfl dX1_layOut_31
  · replace hm := ifn hm c_1
    refine lv_iload_n hx hb dX1_layOut_8 rfl (lv_at hl 2 rfl) ?_
    refine lv_iconst (v := (-1 : Int32)) hx hb dX1_layOut_9 (by decide) ?_
    refine lv_icmp_lt (tgt := 29) hx hb dX1_layOut_10 (by decide) (fun c_2 => ?_) (fun c_2 => ?_)
    · replace hm := ifp hm c_2
      refine lv_bipush (v := (-2 : Int32)) hx hb dX1_layOut_29 (by decide) ?_
      cases hm
      exact g_iret fx hr hC rfl dX1_layOut_31
    · replace hm := ifn hm c_2
      refine lv_iload_n hx hb dX1_layOut_13 rfl (lv_at hl 2 rfl) ?_
      refine lv_iconst (v := (2 : Int32)) hx hb dX1_layOut_14 (by decide) ?_
      refine lv_icmp_gt (tgt := 29) hx hb dX1_layOut_15 (by decide) (fun c_3 => ?_) (fun c_3 => ?_)
      · replace hm := ifp hm c_3
        refine lv_bipush (v := (-2 : Int32)) hx hb dX1_layOut_29 (by decide) ?_
        cases hm
        exact g_iret fx hr hC rfl dX1_layOut_31
      · replace hm := ifn hm c_3
        refine lv_iload_n hx hb dX1_layOut_18 rfl (lv_at hl 2 rfl) ?_
        refine lv_iconst (v := (-1 : Int32)) hx hb dX1_layOut_19 (by decide) ?_
        refine lv_icmp_eq (tgt := 32) hx hb dX1_layOut_20 (by decide) (fun c_4 => ?_) (fun c_4 => ?_)
        · replace hm := ifp hm c_4
          refine lv_iload_n hx hb dX1_layOut_32 rfl (lv_at hl 2 rfl) ?_
          refine lv_iconst (v := (-1 : Int32)) hx hb dX1_layOut_33 (by decide) ?_
          refine lv_icmp_eq (tgt := 44) hx hb dX1_layOut_34 (by decide) (fun c_5 => ?_) (fun c_5 => ?_)
          · refine lv_aload_n hx hb dX1_layOut_44 rfl (lv_at hl 0 rfl) ?_
            refine D1g_0 fx hC k_81 dX1_layOut_45 ?_
            refine lv_iload_n hx hb dX1_layOut_48 rfl (lv_at hl 1 rfl) ?_
            refine lv_iload_n hx hb dX1_layOut_49 rfl (lv_at hl 2 rfl) ?_
            have h_6 := (gi_in hm).1
            replace hm := (gi_in hm).2
            refine DSi fx hC Ka34 h_6 dX1_layOut_50 (fun H locs hC => ?_)
            obtain ⟨τ_7, e_8⟩ : ∃ z, z = (dA τ 34 (a1).toNatClampNeg a2) := ⟨_, rfl⟩
            rw [← e_8] at hC
            replace hm := nm_in hm e_8
            refine lv_aload_n hx hb dX1_layOut_51 rfl (lv_at hl 0 rfl) ?_
            refine D1g_1 fx hC k_82 dX1_layOut_52 ?_
            refine lv_iload_n hx hb dX1_layOut_55 rfl (lv_at hl 1 rfl) ?_
            refine lv_iload_n hx hb dX1_layOut_56 rfl (lv_at hl 2 rfl) ?_
            refine lv_iconst (v := (-1 : Int32)) hx hb dX1_layOut_57 (by decide) ?_
            refine lv_icmp_ne (tgt := 65) hx hb dX1_layOut_58 (by decide) (fun c_9 => ?_) (fun c_9 => ?_)
            · exact absurd c_4 c_9
            · refine lv_iconst (v := (0 : Int32)) hx hb dX1_layOut_61 (by decide) ?_
              refine lv_goto (tgt := 66) hx hb dX1_layOut_62 (by decide) ?_
              have h_10 := (gi_in hm).1
              replace hm := (gi_in hm).2
              refine DSi fx hC Ka35 h_10 dX1_layOut_66 (fun H locs hC => ?_)
              obtain ⟨τ_11, e_12⟩ : ∃ z, z = (dA τ_7 35 (a1).toNatClampNeg (0 : Int32)) := ⟨_, rfl⟩
              rw [← e_12] at hC
              replace hm := nm_in hm e_12
              refine lv_aload_n hx hb dX1_layOut_67 rfl (lv_at hl 0 rfl) ?_
              refine D1g_2 fx hC k_84 dX1_layOut_68 ?_
              refine lv_iload_n hx hb dX1_layOut_71 rfl (lv_at hl 1 rfl) ?_
              have h_13 := (gi_in hm).1
              replace hm := (gi_in hm).2
              refine DLq fx hC K1q (Or.inr rfl) h_13 dX1_layOut_72 ?_
              refine lv_iconst (v := (0 : Int32)) hx hb dX1_layOut_73 (by decide) ?_
              obtain ⟨τ_15, e_14, hm⟩ := b1_in hm
              refine d_callSv (As := [.ref (q (37 + (a1).toNatClampNeg)), .int (0 : Int32)]) (rest := []) fx sx hC dw_w (J7c_fill_53178 l τ_11 (37 + (a1).toNatClampNeg) 40 (K1i (vp_lt h_13)) (0 : Int32) e_14) k_87 J7k_fill_53178 J7h_fill_53178 ⟨rfl, rfl⟩ ⟨Nat.le_trans (Nat.le_of_ble_eq_true rfl) hR.1, Nat.le_trans (Nat.le_of_ble_eq_true rfl) hR.2⟩ hf rfl hl.1 rfl (Nat.le_of_ble_eq_true rfl) dX1_layOut_74 (fun H locs hC => ?_)
              refine lv_iconst (v := (1 : Int32)) hx hb dX1_layOut_77 (by decide) ?_
              cases hm
              exact g_iret fx hr hC rfl dX1_layOut_78
          · exact absurd c_4 c_5
        · replace hm := ifn hm c_4
          refine lv_iload_n hx hb dX1_layOut_23 rfl (lv_at hl 3 rfl) ?_
          refine lv_bipush (v := (40 : Int32)) hx hb dX1_layOut_24 (by decide) ?_
          refine lv_icmp_le (tgt := 32) hx hb dX1_layOut_26 (by decide) (fun c_16 => ?_) (fun c_16 => ?_)
          · replace hm := ifp hm c_16
            refine lv_iload_n hx hb dX1_layOut_32 rfl (lv_at hl 2 rfl) ?_
            refine lv_iconst (v := (-1 : Int32)) hx hb dX1_layOut_33 (by decide) ?_
            refine lv_icmp_eq (tgt := 44) hx hb dX1_layOut_34 (by decide) (fun c_17 => ?_) (fun c_17 => ?_)
            · exact absurd c_17 c_4
            · refine lv_iload_n hx hb dX1_layOut_37 rfl (lv_at hl 3 rfl) ?_
              refine lv_if_ge (tgt := 44) hx hb dX1_layOut_38 (by decide) (fun c_18 => ?_) (fun c_18 => ?_)
              · replace hm := ifp hm c_18
                refine lv_aload_n hx hb dX1_layOut_44 rfl (lv_at hl 0 rfl) ?_
                refine D1g_0 fx hC k_81 dX1_layOut_45 ?_
                refine lv_iload_n hx hb dX1_layOut_48 rfl (lv_at hl 1 rfl) ?_
                refine lv_iload_n hx hb dX1_layOut_49 rfl (lv_at hl 2 rfl) ?_
                have h_19 := (gi_in hm).1
                replace hm := (gi_in hm).2
                refine DSi fx hC Ka34 h_19 dX1_layOut_50 (fun H locs hC => ?_)
                obtain ⟨τ_20, e_21⟩ : ∃ z, z = (dA τ 34 (a1).toNatClampNeg a2) := ⟨_, rfl⟩
                rw [← e_21] at hC
                replace hm := nm_in hm e_21
                refine lv_aload_n hx hb dX1_layOut_51 rfl (lv_at hl 0 rfl) ?_
                refine D1g_1 fx hC k_82 dX1_layOut_52 ?_
                refine lv_iload_n hx hb dX1_layOut_55 rfl (lv_at hl 1 rfl) ?_
                refine lv_iload_n hx hb dX1_layOut_56 rfl (lv_at hl 2 rfl) ?_
                refine lv_iconst (v := (-1 : Int32)) hx hb dX1_layOut_57 (by decide) ?_
                refine lv_icmp_ne (tgt := 65) hx hb dX1_layOut_58 (by decide) (fun c_22 => ?_) (fun c_22 => ?_)
                · refine lv_iload_n hx hb dX1_layOut_65 rfl (lv_at hl 3 rfl) ?_
                  have h_23 := (gi_in hm).1
                  replace hm := (gi_in hm).2
                  refine DSi fx hC Ka35 h_23 dX1_layOut_66 (fun H locs hC => ?_)
                  obtain ⟨τ_24, e_25⟩ : ∃ z, z = (dA τ_20 35 (a1).toNatClampNeg a3) := ⟨_, rfl⟩
                  rw [← e_25] at hC
                  replace hm := nm_in hm e_25
                  refine lv_aload_n hx hb dX1_layOut_67 rfl (lv_at hl 0 rfl) ?_
                  refine D1g_2 fx hC k_84 dX1_layOut_68 ?_
                  refine lv_iload_n hx hb dX1_layOut_71 rfl (lv_at hl 1 rfl) ?_
                  have h_26 := (gi_in hm).1
                  replace hm := (gi_in hm).2
                  refine DLq fx hC K1q (Or.inr rfl) h_26 dX1_layOut_72 ?_
                  refine lv_iconst (v := (0 : Int32)) hx hb dX1_layOut_73 (by decide) ?_
                  obtain ⟨τ_28, e_27, hm⟩ := b1_in hm
                  refine d_callSv (As := [.ref (q (37 + (a1).toNatClampNeg)), .int (0 : Int32)]) (rest := []) fx sx hC dw_w (J7c_fill_53178 l τ_24 (37 + (a1).toNatClampNeg) 40 (K1i (vp_lt h_26)) (0 : Int32) e_27) k_87 J7k_fill_53178 J7h_fill_53178 ⟨rfl, rfl⟩ ⟨Nat.le_trans (Nat.le_of_ble_eq_true rfl) hR.1, Nat.le_trans (Nat.le_of_ble_eq_true rfl) hR.2⟩ hf rfl hl.1 rfl (Nat.le_of_ble_eq_true rfl) dX1_layOut_74 (fun H locs hC => ?_)
                  refine lv_iconst (v := (1 : Int32)) hx hb dX1_layOut_77 (by decide) ?_
                  cases hm
                  exact g_iret fx hr hC rfl dX1_layOut_78
                · exact absurd c_22 c_4
              · replace hm := ifn hm c_18
                refine lv_bipush (v := (-14 : Int32)) hx hb dX1_layOut_41 (by decide) ?_
                cases hm
                exact g_iret fx hr hC rfl dX1_layOut_43
          · replace hm := ifn hm c_16
            refine lv_bipush (v := (-2 : Int32)) hx hb dX1_layOut_29 (by decide) ?_
            cases hm
            exact g_iret fx hr hC rfl dX1_layOut_31
def D1m_isItem (τ : DS) (a1 : Int32) (a2 : Int32) : Option Int32 :=
  if (D1m_isNumber τ a1) = (0 : Int32) then (some (0 : Int32)) else (if a2 < (0 : Int32) then (some (0 : Int32)) else (gi a1 6 (if (τ.2.1 35 (a1).toNatClampNeg) ≤ a2 then (some (0 : Int32)) else (if (40 : Int32) ≤ a2 then (some (0 : Int32)) else (some (1 : Int32))))))
abbrev D1rm_isItem : Room := { frames := 1, cells := 0, slots := 0, locals := 21 }
set_option maxRecDepth 100000 in
set_option maxHeartbeats 4000000 in
theorem D1c_isItem (l : Launch) {D : va_G} {cy : Nat → ClassId} {ad : List Nat} {q : Nat → Nat} {X : va_W} (τ : DS) (a1 : Int32) (a2 : Int32) {o : Int32} (hm : D1m_isItem τ a1 a2 = some o) : DM l yX1_isItem cX1_isItem 3 (some .boolean) D1rm_isItem D cy (dwd cy q X) ad [.ref (q 33), .int a1, .int a2] τ (some (.int (o))) τ := by
  refine d_start RX1 rfl (by decide) (Nat.le_of_ble_eq_true rfl) ?_
  intro p e s m args below meth c fx sx hr hC ls hl
  have hx := fx.1
  have hb := fx.2.1
  have hR : 1 ≤ (D1rm_isItem).frames ∧ 21 ≤ (D1rm_isItem).locals := ⟨Nat.le_refl _, Nat.le_refl _⟩
  have hf : 0 ≤ (D1rm_isItem).cells ∧ 0 ≤ (D1rm_isItem).slots := ⟨Nat.zero_le _, Nat.zero_le _⟩
  have hl : lv_has ls 3 [(0, .ref (q 33)), (1, .int a1), (2, .int a2)] := hl
  unfold D1m_isItem at hm
  refine lv_aload_n hx hb dX1_isItem_0 rfl (lv_at hl 0 rfl) ?_
  refine lv_iload_n hx hb dX1_isItem_1 rfl (lv_at hl 1 rfl) ?_
  refine d_callVi (ci := 1) (As := [.int a1]) (rest := []) fx sx hC dw_w (D1c_isNumber l τ a1) k_994 D1k_isNumber D1h_isNumber rfl rfl (O_at O1) ⟨rfl, rfl⟩ ⟨Nat.le_trans (Nat.le_of_ble_eq_true rfl) hR.1, Nat.le_trans (Nat.le_of_ble_eq_true rfl) hR.2⟩ hf rfl hl.1 rfl (Nat.le_of_ble_eq_true rfl) dX1_isItem_2 (fun H locs hC => ?_)
  refine lv_if_eq (tgt := 32) hx hb dX1_isItem_5 (by decide) (fun c_1 => ?_) (fun c_1 => ?_)
  · replace hm := ifp hm c_1
    refine lv_iconst (v := (0 : Int32)) hx hb dX1_isItem_32 (by decide) ?_
    cases hm
    exact g_zret fx hr rfl hC rfl dX1_isItem_33
  · replace hm := ifn hm c_1
    refine lv_iload_n hx hb dX1_isItem_8 rfl (lv_at hl 2 rfl) ?_
    refine lv_if_lt (tgt := 32) hx hb dX1_isItem_9 (by decide) (fun c_2 => ?_) (fun c_2 => ?_)
    · replace hm := ifp hm c_2
      refine lv_iconst (v := (0 : Int32)) hx hb dX1_isItem_32 (by decide) ?_
      cases hm
      exact g_zret fx hr rfl hC rfl dX1_isItem_33
    · replace hm := ifn hm c_2
      refine lv_iload_n hx hb dX1_isItem_12 rfl (lv_at hl 2 rfl) ?_
      refine lv_aload_n hx hb dX1_isItem_13 rfl (lv_at hl 0 rfl) ?_
      refine D1g_1 fx hC k_82 dX1_isItem_14 ?_
      refine lv_iload_n hx hb dX1_isItem_17 rfl (lv_at hl 1 rfl) ?_
      have h_3 := (gi_in hm).1
      replace hm := (gi_in hm).2
      refine DLi fx hC Ka35 h_3 dX1_isItem_18 ?_
      refine lv_icmp_ge (tgt := 32) hx hb dX1_isItem_19 (by decide) (fun c_4 => ?_) (fun c_4 => ?_)
      · replace hm := ifp hm c_4
        refine lv_iconst (v := (0 : Int32)) hx hb dX1_isItem_32 (by decide) ?_
        cases hm
        exact g_zret fx hr rfl hC rfl dX1_isItem_33
      · replace hm := ifn hm c_4
        refine lv_iload_n hx hb dX1_isItem_22 rfl (lv_at hl 2 rfl) ?_
        refine lv_bipush (v := (40 : Int32)) hx hb dX1_isItem_23 (by decide) ?_
        refine lv_icmp_ge (tgt := 32) hx hb dX1_isItem_25 (by decide) (fun c_5 => ?_) (fun c_5 => ?_)
        · replace hm := ifp hm c_5
          refine lv_iconst (v := (0 : Int32)) hx hb dX1_isItem_32 (by decide) ?_
          cases hm
          exact g_zret fx hr rfl hC rfl dX1_isItem_33
        · replace hm := ifn hm c_5
          refine lv_iconst (v := (1 : Int32)) hx hb dX1_isItem_28 (by decide) ?_
          refine lv_goto (tgt := 33) hx hb dX1_isItem_29 (by decide) ?_
          cases hm
          exact g_zret fx hr rfl hC rfl dX1_isItem_33
def D1m_cut (a1 : Int32) (a2 : Int32) : Int32 :=
  if a1 = (0 : Int32) then (a2.toInt8.toInt32) else (if a1 = (1 : Int32) then (a2.toInt16.toInt32) else (a2))
abbrev D1rm_cut : Room := { frames := 0, cells := 0, slots := 0, locals := 0 }
set_option maxRecDepth 100000 in
set_option maxHeartbeats 4000000 in
theorem D1c_cut (l : Launch) {D : va_G} {cy : Nat → ClassId} {ad : List Nat} {q : Nat → Nat} {X : va_W} (τ : DS) (a1 : Int32) (a2 : Int32) : DM l yX1_cut cX1_cut 2 (some .int) D1rm_cut D cy (dwd cy q X) ad [.int a1, .int a2] τ (some (.int (D1m_cut a1 a2))) τ := by
  refine d_start RX1 rfl (by decide) (Nat.le_of_ble_eq_true rfl) ?_
  intro p e s m args below meth c fx sx hr hC ls hl
  have hx := fx.1
  have hb := fx.2.1
  have hR : 0 ≤ (D1rm_cut).frames ∧ 0 ≤ (D1rm_cut).locals := ⟨Nat.le_refl _, Nat.le_refl _⟩
  have hf : 0 ≤ (D1rm_cut).cells ∧ 0 ≤ (D1rm_cut).slots := ⟨Nat.zero_le _, Nat.zero_le _⟩
  have hl : lv_has ls 2 [(0, .int a1), (1, .int a2)] := hl
  obtain ⟨o, hm⟩ : ∃ z, z = D1m_cut a1 a2 := ⟨_, rfl⟩
  rw [← hm]
  replace hm := hm.symm
  unfold D1m_cut at hm
  refine lv_iload_n hx hb dX1_cut_0 rfl (lv_at hl 0 rfl) ?_
  by_cases c_1 : a1 = (0 : Int32)
  · replace hm := ifp hm c_1
    have ec_1 : (a1 : Int32).toInt = 0 := by rw [c_1]; rfl
    refine lv_lookup (off := 27) (tgt := 28) hx hb dX1_cut_1 (by decide) (by rw [ec_1]; rfl) (by decide) ?_
    refine lv_iload_n hx hb dX1_cut_28 rfl (lv_at hl 1 rfl) ?_
    refine lv_i2b hx hb dX1_cut_29 rfl ?_
    exact g_iret fx hr hC (by rw [← hm]) dX1_cut_30
  · replace hm := ifn hm c_1
    by_cases c_2 : a1 = (1 : Int32)
    · replace hm := ifp hm c_2
      have ec_2 : (a1 : Int32).toInt = 1 := by rw [c_2]; rfl
      refine lv_lookup (off := 30) (tgt := 31) hx hb dX1_cut_1 (by decide) (by rw [ec_2]; rfl) (by decide) ?_
      refine lv_iload_n hx hb dX1_cut_31 rfl (lv_at hl 1 rfl) ?_
      refine lv_i2s hx hb dX1_cut_32 rfl ?_
      exact g_iret fx hr hC (by rw [← hm]) dX1_cut_33
    · replace hm := ifn hm c_2
      have nc_1 : ¬ (a1 : Int32).toInt = 0 := lv_neT c_1 rfl
      have nc_2 : ¬ (a1 : Int32).toInt = 1 := lv_neT c_2 rfl
      refine lv_lookup (off := 33) (tgt := 34) hx hb dX1_cut_1 (by decide) (by show Op.lookupswitch.offset [(0, 27), (1, 30)] 33 _ = _; rw [lv_osw (a := 0) c_1 rfl, lv_osw (a := 1) c_2 rfl]; rfl) (by decide) ?_
      refine lv_iload_n hx hb dX1_cut_34 rfl (lv_at hl 1 rfl) ?_
      exact g_iret fx hr hC (by rw [← hm]) dX1_cut_35
def D1m_fill (τ : DS) (a1 : Int32) (a2 : Int32) (a3 : Int32) : Option (Int32 × DS) :=
  if (D1m_isNumber τ a1) = (0 : Int32) then (some ((-2 : Int32), τ)) else (gi a1 6 (if (τ.2.1 34 (a1).toNatClampNeg) = (-1 : Int32) then (some ((-11 : Int32), τ)) else (b1 (D1m_isItem τ a1 a2) (fun r_5 => if r_5 = (0 : Int32) then (some ((-12 : Int32), τ)) else (gi a1 6 (gi a1 6 (gi a2 40 (nm (dA τ (37 + (a1).toNatClampNeg) (a2).toNatClampNeg (D1m_cut (τ.2.1 34 (a1).toNatClampNeg) a3)) (fun τ_10 => some ((1 : Int32), τ_10))))))))))
abbrev D1rm_fill : Room := { frames := 2, cells := 0, slots := 0, locals := 43 }
set_option maxRecDepth 100000 in
set_option maxHeartbeats 4000000 in
theorem D1c_fill (l : Launch) {D : va_G} {cy : Nat → ClassId} {ad : List Nat} {q : Nat → Nat} {X : va_W} (τ : DS) (a1 : Int32) (a2 : Int32) (a3 : Int32) {o : Int32 × DS} (hm : D1m_fill τ a1 a2 a3 = some o) : DM l yX1_fill cX1_fill 4 (some .int) D1rm_fill D cy (dwd cy q X) ad [.ref (q 33), .int a1, .int a2, .int a3] τ (some (.int (o.1))) o.2 := by
  refine d_start RX1 rfl (by decide) (Nat.le_of_ble_eq_true rfl) ?_
  intro p e s m args below meth c fx sx hr hC ls hl
  have hx := fx.1
  have hb := fx.2.1
  have hR : 2 ≤ (D1rm_fill).frames ∧ 43 ≤ (D1rm_fill).locals := ⟨Nat.le_refl _, Nat.le_refl _⟩
  have hf : 0 ≤ (D1rm_fill).cells ∧ 0 ≤ (D1rm_fill).slots := ⟨Nat.zero_le _, Nat.zero_le _⟩
  have hl : lv_has ls 4 [(0, .ref (q 33)), (1, .int a1), (2, .int a2), (3, .int a3)] := hl
  unfold D1m_fill at hm
  refine lv_aload_n hx hb dX1_fill_0 rfl (lv_at hl 0 rfl) ?_
  refine lv_iload_n hx hb dX1_fill_1 rfl (lv_at hl 1 rfl) ?_
  refine d_callVi (ci := 1) (As := [.int a1]) (rest := []) fx sx hC dw_w (D1c_isNumber l τ a1) k_994 D1k_isNumber D1h_isNumber rfl rfl (O_at O1) ⟨rfl, rfl⟩ ⟨Nat.le_trans (Nat.le_of_ble_eq_true rfl) hR.1, Nat.le_trans (Nat.le_of_ble_eq_true rfl) hR.2⟩ hf rfl hl.1 rfl (Nat.le_of_ble_eq_true rfl) dX1_fill_2 (fun H locs hC => ?_)
  refine lv_if_ne (tgt := 11) hx hb dX1_fill_5 (by decide) (fun c_1 => ?_) (fun c_1 => ?_)
  · replace hm := ifn hm c_1
    refine lv_aload_n hx hb dX1_fill_11 rfl (lv_at hl 0 rfl) ?_
    refine D1g_0 fx hC k_81 dX1_fill_12 ?_
    refine lv_iload_n hx hb dX1_fill_15 rfl (lv_at hl 1 rfl) ?_
    have h_2 := (gi_in hm).1
    replace hm := (gi_in hm).2
    refine DLi fx hC Ka34 h_2 dX1_fill_16 ?_
    refine lv_iconst (v := (-1 : Int32)) hx hb dX1_fill_17 (by decide) ?_
    refine lv_icmp_ne (tgt := 24) hx hb dX1_fill_18 (by decide) (fun c_3 => ?_) (fun c_3 => ?_)
    · replace hm := ifn hm c_3
      refine lv_aload_n hx hb dX1_fill_24 rfl (lv_at hl 0 rfl) ?_
      refine lv_iload_n hx hb dX1_fill_25 rfl (lv_at hl 1 rfl) ?_
      refine lv_iload_n hx hb dX1_fill_26 rfl (lv_at hl 2 rfl) ?_
      obtain ⟨r_5, e_4, hm⟩ := b1_in hm
      refine d_callVi (ci := 1) (As := [.int a1, .int a2]) (rest := []) fx sx hC dw_w (D1c_isItem l τ a1 a2 e_4) k_1010 D1k_isItem D1h_isItem rfl rfl (O_at O1) ⟨rfl, rfl⟩ ⟨Nat.le_trans (Nat.le_of_ble_eq_true rfl) hR.1, Nat.le_trans (Nat.le_of_ble_eq_true rfl) hR.2⟩ hf rfl hl.1 rfl (Nat.le_of_ble_eq_true rfl) dX1_fill_27 (fun H locs hC => ?_)
      refine lv_if_ne (tgt := 36) hx hb dX1_fill_30 (by decide) (fun c_6 => ?_) (fun c_6 => ?_)
      · replace hm := ifn hm c_6
        refine lv_aload_n hx hb dX1_fill_36 rfl (lv_at hl 0 rfl) ?_
        refine D1g_2 fx hC k_84 dX1_fill_37 ?_
        refine lv_iload_n hx hb dX1_fill_40 rfl (lv_at hl 1 rfl) ?_
        have h_7 := (gi_in hm).1
        replace hm := (gi_in hm).2
        refine DLq fx hC K1q (Or.inr rfl) h_7 dX1_fill_41 ?_
        refine lv_iload_n hx hb dX1_fill_42 rfl (lv_at hl 2 rfl) ?_
        refine lv_aload_n hx hb dX1_fill_43 rfl (lv_at hl 0 rfl) ?_
        refine D1g_0 fx hC k_81 dX1_fill_44 ?_
        refine lv_iload_n hx hb dX1_fill_47 rfl (lv_at hl 1 rfl) ?_
        have h_8 := (gi_in hm).1
        replace hm := (gi_in hm).2
        refine DLi fx hC Ka34 h_8 dX1_fill_48 ?_
        refine lv_iload_n hx hb dX1_fill_49 rfl (lv_at hl 3 rfl) ?_
        refine d_callSi (As := [.int (τ.2.1 34 (a1).toNatClampNeg), .int a3]) (rest := [.int a2, .ref (q (37 + (a1).toNatClampNeg))]) fx sx hC dw_w (D1c_cut l τ (τ.2.1 34 (a1).toNatClampNeg) a3) k_1014 D1k_cut D1h_cut ⟨rfl, rfl⟩ ⟨Nat.le_trans (Nat.le_of_ble_eq_true rfl) hR.1, Nat.le_trans (Nat.le_of_ble_eq_true rfl) hR.2⟩ hf rfl hl.1 rfl (Nat.le_of_ble_eq_true rfl) dX1_fill_50 (fun H locs hC => ?_)
        have h_9 := (gi_in hm).1
        replace hm := (gi_in hm).2
        refine DSi fx hC (K1i (vp_lt h_7)) h_9 dX1_fill_53 (fun H locs hC => ?_)
        obtain ⟨τ_10, e_11⟩ : ∃ z, z = (dA τ (37 + (a1).toNatClampNeg) (a2).toNatClampNeg (D1m_cut (τ.2.1 34 (a1).toNatClampNeg) a3)) := ⟨_, rfl⟩
        rw [← e_11] at hC
        replace hm := nm_in hm e_11
        refine lv_iconst (v := (1 : Int32)) hx hb dX1_fill_54 (by decide) ?_
        cases hm
        exact g_iret fx hr hC rfl dX1_fill_55
      · replace hm := ifp hm c_6
        refine lv_bipush (v := (-12 : Int32)) hx hb dX1_fill_33 (by decide) ?_
        cases hm
        exact g_iret fx hr hC rfl dX1_fill_35
    · replace hm := ifp hm c_3
      refine lv_bipush (v := (-11 : Int32)) hx hb dX1_fill_21 (by decide) ?_
      cases hm
      exact g_iret fx hr hC rfl dX1_fill_23
  · replace hm := ifp hm c_1
    refine lv_bipush (v := (-2 : Int32)) hx hb dX1_fill_8 (by decide) ?_
    cases hm
    exact g_iret fx hr hC rfl dX1_fill_10
def D1m_refusalOfThree (τ : DS) (a1 : Int32) (a2 : Int32) (a3 : Int32) : Option Int32 :=
  if (D1m_isNumber τ a1) = (0 : Int32) then (some (-2 : Int32)) else (if a2 < (0 : Int32) then (some (-2 : Int32)) else (if a2 ≤ (2 : Int32) then (gi a1 6 (if (τ.2.1 34 (a1).toNatClampNeg) = (-1 : Int32) then (some (-11 : Int32)) else (gi a1 6 (if (τ.2.1 34 (a1).toNatClampNeg) = a2 then (if a3 < (0 : Int32) then (some (-12 : Int32)) else (gi a1 6 (if ((τ.2.1 35 (a1).toNatClampNeg) - (2 : Int32)) ≤ a3 then (some (-12 : Int32)) else (some (0 : Int32))))) else (some (-13 : Int32)))))) else (some (-2 : Int32))))
abbrev D1rm_refusalOfThree : Room := { frames := 1, cells := 0, slots := 0, locals := 21 }
set_option maxRecDepth 100000 in
set_option maxHeartbeats 4000000 in
theorem D1c_refusalOfThree (l : Launch) {D : va_G} {cy : Nat → ClassId} {ad : List Nat} {q : Nat → Nat} {X : va_W} (τ : DS) (a1 : Int32) (a2 : Int32) (a3 : Int32) {o : Int32} (hm : D1m_refusalOfThree τ a1 a2 a3 = some o) : DM l yX1_refusalOfThree cX1_refusalOfThree 4 (some .int) D1rm_refusalOfThree D cy (dwd cy q X) ad [.ref (q 33), .int a1, .int a2, .int a3] τ (some (.int (o))) τ := by
  refine d_start RX1 rfl (by decide) (Nat.le_of_ble_eq_true rfl) ?_
  intro p e s m args below meth c fx sx hr hC ls hl
  have hx := fx.1
  have hb := fx.2.1
  have hR : 1 ≤ (D1rm_refusalOfThree).frames ∧ 21 ≤ (D1rm_refusalOfThree).locals := ⟨Nat.le_refl _, Nat.le_refl _⟩
  have hf : 0 ≤ (D1rm_refusalOfThree).cells ∧ 0 ≤ (D1rm_refusalOfThree).slots := ⟨Nat.zero_le _, Nat.zero_le _⟩
  have hl : lv_has ls 4 [(0, .ref (q 33)), (1, .int a1), (2, .int a2), (3, .int a3)] := hl
  unfold D1m_refusalOfThree at hm
  refine lv_aload_n hx hb dX1_refusalOfThree_0 rfl (lv_at hl 0 rfl) ?_
  refine lv_iload_n hx hb dX1_refusalOfThree_1 rfl (lv_at hl 1 rfl) ?_
  refine d_callVi (ci := 1) (As := [.int a1]) (rest := []) fx sx hC dw_w (D1c_isNumber l τ a1) k_994 D1k_isNumber D1h_isNumber rfl rfl (O_at O1) ⟨rfl, rfl⟩ ⟨Nat.le_trans (Nat.le_of_ble_eq_true rfl) hR.1, Nat.le_trans (Nat.le_of_ble_eq_true rfl) hR.2⟩ hf rfl hl.1 rfl (Nat.le_of_ble_eq_true rfl) dX1_refusalOfThree_2 (fun H locs hC => ?_)
  refine lv_if_eq (tgt := 17) hx hb dX1_refusalOfThree_5 (by decide) (fun c_1 => ?_) (fun c_1 => ?_)
  · replace hm := ifp hm c_1
    refine lv_bipush (v := (-2 : Int32)) hx hb dX1_refusalOfThree_17 (by decide) ?_
    cases hm
    exact g_iret fx hr hC rfl dX1_refusalOfThree_19
  · replace hm := ifn hm c_1
    refine lv_iload_n hx hb dX1_refusalOfThree_8 rfl (lv_at hl 2 rfl) ?_
    refine lv_if_lt (tgt := 17) hx hb dX1_refusalOfThree_9 (by decide) (fun c_2 => ?_) (fun c_2 => ?_)
    · replace hm := ifp hm c_2
      refine lv_bipush (v := (-2 : Int32)) hx hb dX1_refusalOfThree_17 (by decide) ?_
      cases hm
      exact g_iret fx hr hC rfl dX1_refusalOfThree_19
    · replace hm := ifn hm c_2
      refine lv_iload_n hx hb dX1_refusalOfThree_12 rfl (lv_at hl 2 rfl) ?_
      refine lv_iconst (v := (2 : Int32)) hx hb dX1_refusalOfThree_13 (by decide) ?_
      refine lv_icmp_le (tgt := 20) hx hb dX1_refusalOfThree_14 (by decide) (fun c_3 => ?_) (fun c_3 => ?_)
      · replace hm := ifp hm c_3
        refine lv_aload_n hx hb dX1_refusalOfThree_20 rfl (lv_at hl 0 rfl) ?_
        refine D1g_0 fx hC k_81 dX1_refusalOfThree_21 ?_
        refine lv_iload_n hx hb dX1_refusalOfThree_24 rfl (lv_at hl 1 rfl) ?_
        have h_4 := (gi_in hm).1
        replace hm := (gi_in hm).2
        refine DLi fx hC Ka34 h_4 dX1_refusalOfThree_25 ?_
        refine lv_iconst (v := (-1 : Int32)) hx hb dX1_refusalOfThree_26 (by decide) ?_
        refine lv_icmp_ne (tgt := 33) hx hb dX1_refusalOfThree_27 (by decide) (fun c_5 => ?_) (fun c_5 => ?_)
        · replace hm := ifn hm c_5
          refine lv_aload_n hx hb dX1_refusalOfThree_33 rfl (lv_at hl 0 rfl) ?_
          refine D1g_0 fx hC k_81 dX1_refusalOfThree_34 ?_
          refine lv_iload_n hx hb dX1_refusalOfThree_37 rfl (lv_at hl 1 rfl) ?_
          have h_6 := (gi_in hm).1
          replace hm := (gi_in hm).2
          refine DLi fx hC Ka34 h_6 dX1_refusalOfThree_38 ?_
          refine lv_iload_n hx hb dX1_refusalOfThree_39 rfl (lv_at hl 2 rfl) ?_
          refine lv_icmp_eq (tgt := 46) hx hb dX1_refusalOfThree_40 (by decide) (fun c_7 => ?_) (fun c_7 => ?_)
          · replace hm := ifp hm c_7
            refine lv_iload_n hx hb dX1_refusalOfThree_46 rfl (lv_at hl 3 rfl) ?_
            refine lv_if_lt (tgt := 66) hx hb dX1_refusalOfThree_47 (by decide) (fun c_8 => ?_) (fun c_8 => ?_)
            · replace hm := ifp hm c_8
              refine lv_bipush (v := (-12 : Int32)) hx hb dX1_refusalOfThree_66 (by decide) ?_
              cases hm
              exact g_iret fx hr hC rfl dX1_refusalOfThree_68
            · replace hm := ifn hm c_8
              refine lv_iload_n hx hb dX1_refusalOfThree_50 rfl (lv_at hl 3 rfl) ?_
              refine lv_aload_n hx hb dX1_refusalOfThree_51 rfl (lv_at hl 0 rfl) ?_
              refine D1g_1 fx hC k_82 dX1_refusalOfThree_52 ?_
              refine lv_iload_n hx hb dX1_refusalOfThree_55 rfl (lv_at hl 1 rfl) ?_
              have h_9 := (gi_in hm).1
              replace hm := (gi_in hm).2
              refine DLi fx hC Ka35 h_9 dX1_refusalOfThree_56 ?_
              refine lv_iconst (v := (2 : Int32)) hx hb dX1_refusalOfThree_57 (by decide) ?_
              refine lv_isub hx hb dX1_refusalOfThree_58 ?_
              refine lv_icmp_ge (tgt := 66) hx hb dX1_refusalOfThree_59 (by decide) (fun c_10 => ?_) (fun c_10 => ?_)
              · replace hm := ifp hm c_10
                refine lv_bipush (v := (-12 : Int32)) hx hb dX1_refusalOfThree_66 (by decide) ?_
                cases hm
                exact g_iret fx hr hC rfl dX1_refusalOfThree_68
              · replace hm := ifn hm c_10
                refine lv_iconst (v := (0 : Int32)) hx hb dX1_refusalOfThree_62 (by decide) ?_
                refine lv_goto (tgt := 68) hx hb dX1_refusalOfThree_63 (by decide) ?_
                cases hm
                exact g_iret fx hr hC rfl dX1_refusalOfThree_68
          · replace hm := ifn hm c_7
            refine lv_bipush (v := (-13 : Int32)) hx hb dX1_refusalOfThree_43 (by decide) ?_
            cases hm
            exact g_iret fx hr hC rfl dX1_refusalOfThree_45
        · replace hm := ifp hm c_5
          refine lv_bipush (v := (-11 : Int32)) hx hb dX1_refusalOfThree_30 (by decide) ?_
          cases hm
          exact g_iret fx hr hC rfl dX1_refusalOfThree_32
      · replace hm := ifn hm c_3
        refine lv_bipush (v := (-2 : Int32)) hx hb dX1_refusalOfThree_17 (by decide) ?_
        cases hm
        exact g_iret fx hr hC rfl dX1_refusalOfThree_19
def D1m_item (τ : DS) (a1 : Int32) (a2 : Int32) : Option Int32 :=
  b1 (D1m_isItem τ a1 a2) (fun r_2 => if r_2 = (0 : Int32) then (some (-1 : Int32)) else (gi a1 6 (gi a2 40 (some (τ.2.1 (37 + (a1).toNatClampNeg) (a2).toNatClampNeg)))))
abbrev D1rm_item : Room := { frames := 2, cells := 0, slots := 0, locals := 43 }
set_option maxRecDepth 100000 in
set_option maxHeartbeats 4000000 in
theorem D1c_item (l : Launch) {D : va_G} {cy : Nat → ClassId} {ad : List Nat} {q : Nat → Nat} {X : va_W} (τ : DS) (a1 : Int32) (a2 : Int32) {o : Int32} (hm : D1m_item τ a1 a2 = some o) : DM l yX1_item cX1_item 3 (some .int) D1rm_item D cy (dwd cy q X) ad [.ref (q 33), .int a1, .int a2] τ (some (.int (o))) τ := by
  refine d_start RX1 rfl (by decide) (Nat.le_of_ble_eq_true rfl) ?_
  intro p e s m args below meth c fx sx hr hC ls hl
  have hx := fx.1
  have hb := fx.2.1
  have hR : 2 ≤ (D1rm_item).frames ∧ 43 ≤ (D1rm_item).locals := ⟨Nat.le_refl _, Nat.le_refl _⟩
  have hf : 0 ≤ (D1rm_item).cells ∧ 0 ≤ (D1rm_item).slots := ⟨Nat.zero_le _, Nat.zero_le _⟩
  have hl : lv_has ls 3 [(0, .ref (q 33)), (1, .int a1), (2, .int a2)] := hl
  unfold D1m_item at hm
  refine lv_aload_n hx hb dX1_item_0 rfl (lv_at hl 0 rfl) ?_
  refine lv_iload_n hx hb dX1_item_1 rfl (lv_at hl 1 rfl) ?_
  refine lv_iload_n hx hb dX1_item_2 rfl (lv_at hl 2 rfl) ?_
  obtain ⟨r_2, e_1, hm⟩ := b1_in hm
  refine d_callVi (ci := 1) (As := [.int a1, .int a2]) (rest := []) fx sx hC dw_w (D1c_isItem l τ a1 a2 e_1) k_1010 D1k_isItem D1h_isItem rfl rfl (O_at O1) ⟨rfl, rfl⟩ ⟨Nat.le_trans (Nat.le_of_ble_eq_true rfl) hR.1, Nat.le_trans (Nat.le_of_ble_eq_true rfl) hR.2⟩ hf rfl hl.1 rfl (Nat.le_of_ble_eq_true rfl) dX1_item_3 (fun H locs hC => ?_)
  refine lv_if_eq (tgt := 20) hx hb dX1_item_6 (by decide) (fun c_3 => ?_) (fun c_3 => ?_)
  · replace hm := ifp hm c_3
    refine lv_iconst (v := (-1 : Int32)) hx hb dX1_item_20 (by decide) ?_
    cases hm
    exact g_iret fx hr hC rfl dX1_item_21
  · replace hm := ifn hm c_3
    refine lv_aload_n hx hb dX1_item_9 rfl (lv_at hl 0 rfl) ?_
    refine D1g_2 fx hC k_84 dX1_item_10 ?_
    refine lv_iload_n hx hb dX1_item_13 rfl (lv_at hl 1 rfl) ?_
    have h_4 := (gi_in hm).1
    replace hm := (gi_in hm).2
    refine DLq fx hC K1q (Or.inr rfl) h_4 dX1_item_14 ?_
    refine lv_iload_n hx hb dX1_item_15 rfl (lv_at hl 2 rfl) ?_
    have h_5 := (gi_in hm).1
    replace hm := (gi_in hm).2
    refine DLi fx hC (K1i (vp_lt h_4)) h_5 dX1_item_16 ?_
    refine lv_goto (tgt := 21) hx hb dX1_item_17 (by decide) ?_
    cases hm
    exact g_iret fx hr hC rfl dX1_item_21
def D1m_hold (τ : DS) (a1 : Int32) (a2 : Int32) (a3 : Int32) : Option (Int32 × DS) :=
  if (D1m_isNumber τ a1) = (0 : Int32) then (some ((-2 : Int32), τ)) else (gi a1 6 (nm (dA τ 43 (a1).toNatClampNeg a2) (fun τ_3 => gi a1 6 (nm (dA τ_3 44 (a1).toNatClampNeg a3) (fun τ_6 => some ((1 : Int32), τ_6))))))
abbrev D1rm_hold : Room := { frames := 1, cells := 0, slots := 0, locals := 21 }
set_option maxRecDepth 100000 in
set_option maxHeartbeats 4000000 in
theorem D1c_hold (l : Launch) {D : va_G} {cy : Nat → ClassId} {ad : List Nat} {q : Nat → Nat} {X : va_W} (τ : DS) (a1 : Int32) (a2 : Int32) (a3 : Int32) {o : Int32 × DS} (hm : D1m_hold τ a1 a2 a3 = some o) : DM l yX1_hold cX1_hold 4 (some .int) D1rm_hold D cy (dwd cy q X) ad [.ref (q 33), .int a1, .int a2, .int a3] τ (some (.int (o.1))) o.2 := by
  refine d_start RX1 rfl (by decide) (Nat.le_of_ble_eq_true rfl) ?_
  intro p e s m args below meth c fx sx hr hC ls hl
  have hx := fx.1
  have hb := fx.2.1
  have hR : 1 ≤ (D1rm_hold).frames ∧ 21 ≤ (D1rm_hold).locals := ⟨Nat.le_refl _, Nat.le_refl _⟩
  have hf : 0 ≤ (D1rm_hold).cells ∧ 0 ≤ (D1rm_hold).slots := ⟨Nat.zero_le _, Nat.zero_le _⟩
  have hl : lv_has ls 4 [(0, .ref (q 33)), (1, .int a1), (2, .int a2), (3, .int a3)] := hl
  unfold D1m_hold at hm
  refine lv_aload_n hx hb dX1_hold_0 rfl (lv_at hl 0 rfl) ?_
  refine lv_iload_n hx hb dX1_hold_1 rfl (lv_at hl 1 rfl) ?_
  refine d_callVi (ci := 1) (As := [.int a1]) (rest := []) fx sx hC dw_w (D1c_isNumber l τ a1) k_994 D1k_isNumber D1h_isNumber rfl rfl (O_at O1) ⟨rfl, rfl⟩ ⟨Nat.le_trans (Nat.le_of_ble_eq_true rfl) hR.1, Nat.le_trans (Nat.le_of_ble_eq_true rfl) hR.2⟩ hf rfl hl.1 rfl (Nat.le_of_ble_eq_true rfl) dX1_hold_2 (fun H locs hC => ?_)
  refine lv_if_ne (tgt := 11) hx hb dX1_hold_5 (by decide) (fun c_1 => ?_) (fun c_1 => ?_)
  · replace hm := ifn hm c_1
    refine lv_aload_n hx hb dX1_hold_11 rfl (lv_at hl 0 rfl) ?_
    refine D1g_3 fx hC k_85 dX1_hold_12 ?_
    refine lv_iload_n hx hb dX1_hold_15 rfl (lv_at hl 1 rfl) ?_
    refine lv_iload_n hx hb dX1_hold_16 rfl (lv_at hl 2 rfl) ?_
    have h_2 := (gi_in hm).1
    replace hm := (gi_in hm).2
    refine DSi fx hC Ka43 h_2 dX1_hold_17 (fun H locs hC => ?_)
    obtain ⟨τ_3, e_4⟩ : ∃ z, z = (dA τ 43 (a1).toNatClampNeg a2) := ⟨_, rfl⟩
    rw [← e_4] at hC
    replace hm := nm_in hm e_4
    refine lv_aload_n hx hb dX1_hold_18 rfl (lv_at hl 0 rfl) ?_
    refine D1g_4 fx hC k_86 dX1_hold_19 ?_
    refine lv_iload_n hx hb dX1_hold_22 rfl (lv_at hl 1 rfl) ?_
    refine lv_iload_n hx hb dX1_hold_23 rfl (lv_at hl 3 rfl) ?_
    have h_5 := (gi_in hm).1
    replace hm := (gi_in hm).2
    refine DSi fx hC Ka44 h_5 dX1_hold_24 (fun H locs hC => ?_)
    obtain ⟨τ_6, e_7⟩ : ∃ z, z = (dA τ_3 44 (a1).toNatClampNeg a3) := ⟨_, rfl⟩
    rw [← e_7] at hC
    replace hm := nm_in hm e_7
    refine lv_iconst (v := (1 : Int32)) hx hb dX1_hold_25 (by decide) ?_
    cases hm
    exact g_iret fx hr hC rfl dX1_hold_26
  · replace hm := ifp hm c_1
    refine lv_bipush (v := (-2 : Int32)) hx hb dX1_hold_8 (by decide) ?_
    cases hm
    exact g_iret fx hr hC rfl dX1_hold_10
def D1m_holdSheet (τ : DS) (a1 : Int32) (a2 : Int32) : Option (Int32 × DS) :=
  if (D1m_isNumber τ a2) = (0 : Int32) then (some ((-2 : Int32), τ)) else (gi a2 6 (if (τ.2.1 34 (a2).toNatClampNeg) = (-1 : Int32) then (gi a2 6 (b2 (D1m_hold τ a1 (-1 : Int32) (τ.2.1 35 (a2).toNatClampNeg)) (fun r_11 τ_10 => some (r_11, τ_10)))) else (gi a2 6 (b2 (D1m_hold τ a1 ((6 : Int32) + (τ.2.1 34 (a2).toNatClampNeg)) (τ.2.1 35 (a2).toNatClampNeg)) (fun r_7 τ_6 => some (r_7, τ_6))))))
abbrev D1rm_holdSheet : Room := { frames := 2, cells := 0, slots := 0, locals := 44 }
set_option maxRecDepth 100000 in
set_option maxHeartbeats 4000000 in
theorem D1c_holdSheet (l : Launch) {D : va_G} {cy : Nat → ClassId} {ad : List Nat} {q : Nat → Nat} {X : va_W} (τ : DS) (a1 : Int32) (a2 : Int32) {o : Int32 × DS} (hm : D1m_holdSheet τ a1 a2 = some o) : DM l yX1_holdSheet cX1_holdSheet 4 (some .int) D1rm_holdSheet D cy (dwd cy q X) ad [.ref (q 33), .int a1, .int a2] τ (some (.int (o.1))) o.2 := by
  refine d_start RX1 rfl (by decide) (Nat.le_of_ble_eq_true rfl) ?_
  intro p e s m args below meth c fx sx hr hC ls hl
  have hx := fx.1
  have hb := fx.2.1
  have hR : 2 ≤ (D1rm_holdSheet).frames ∧ 44 ≤ (D1rm_holdSheet).locals := ⟨Nat.le_refl _, Nat.le_refl _⟩
  have hf : 0 ≤ (D1rm_holdSheet).cells ∧ 0 ≤ (D1rm_holdSheet).slots := ⟨Nat.zero_le _, Nat.zero_le _⟩
  have hl : lv_has ls 4 [(0, .ref (q 33)), (1, .int a1), (2, .int a2)] := hl
  unfold D1m_holdSheet at hm
  refine lv_aload_n hx hb dX1_holdSheet_0 rfl (lv_at hl 0 rfl) ?_
  refine lv_iload_n hx hb dX1_holdSheet_1 rfl (lv_at hl 2 rfl) ?_
  refine d_callVi (ci := 1) (As := [.int a2]) (rest := []) fx sx hC dw_w (D1c_isNumber l τ a2) k_994 D1k_isNumber D1h_isNumber rfl rfl (O_at O1) ⟨rfl, rfl⟩ ⟨Nat.le_trans (Nat.le_of_ble_eq_true rfl) hR.1, Nat.le_trans (Nat.le_of_ble_eq_true rfl) hR.2⟩ hf rfl hl.1 rfl (Nat.le_of_ble_eq_true rfl) dX1_holdSheet_2 (fun H locs hC => ?_)
  refine lv_if_ne (tgt := 11) hx hb dX1_holdSheet_5 (by decide) (fun c_1 => ?_) (fun c_1 => ?_)
  · replace hm := ifn hm c_1
    refine lv_aload_n hx hb dX1_holdSheet_11 rfl (lv_at hl 0 rfl) ?_
    refine D1g_0 fx hC k_81 dX1_holdSheet_12 ?_
    refine lv_iload_n hx hb dX1_holdSheet_15 rfl (lv_at hl 2 rfl) ?_
    have h_2 := (gi_in hm).1
    replace hm := (gi_in hm).2
    refine DLi fx hC Ka34 h_2 dX1_holdSheet_16 ?_
    refine lv_istore_n (lv' := [(3, .int (τ.2.1 34 (a2).toNatClampNeg)), (0, .ref (q 33)), (1, .int a1), (2, .int a2)]) hx hb dX1_holdSheet_17 rfl hl (by decide) rfl (fun ls hl => ?_)
    refine lv_aload_n hx hb dX1_holdSheet_18 rfl (lv_at hl 1 rfl) ?_
    refine lv_iload_n hx hb dX1_holdSheet_19 rfl (lv_at hl 2 rfl) ?_
    refine lv_iload_n hx hb dX1_holdSheet_20 rfl (lv_at hl 0 rfl) ?_
    refine lv_iconst (v := (-1 : Int32)) hx hb dX1_holdSheet_21 (by decide) ?_
    refine lv_icmp_ne (tgt := 29) hx hb dX1_holdSheet_22 (by decide) (fun c_3 => ?_) (fun c_3 => ?_)
    · replace hm := ifn hm c_3
      refine lv_bipush (v := (6 : Int32)) hx hb dX1_holdSheet_29 (by decide) ?_
      refine lv_iload_n hx hb dX1_holdSheet_31 rfl (lv_at hl 0 rfl) ?_
      refine lv_iadd hx hb dX1_holdSheet_32 ?_
      refine lv_aload_n hx hb dX1_holdSheet_33 rfl (lv_at hl 1 rfl) ?_
      refine D1g_1 fx hC k_82 dX1_holdSheet_34 ?_
      refine lv_iload_n hx hb dX1_holdSheet_37 rfl (lv_at hl 3 rfl) ?_
      have h_4 := (gi_in hm).1
      replace hm := (gi_in hm).2
      refine DLi fx hC Ka35 h_4 dX1_holdSheet_38 ?_
      obtain ⟨r_7, τ_6, e_5, hm⟩ := b2_in hm
      refine d_callVi (ci := 1) (As := [.int a1, .int ((6 : Int32) + (τ.2.1 34 (a2).toNatClampNeg)), .int (τ.2.1 35 (a2).toNatClampNeg)]) (rest := []) fx sx hC dw_w (D1c_hold l τ a1 ((6 : Int32) + (τ.2.1 34 (a2).toNatClampNeg)) (τ.2.1 35 (a2).toNatClampNeg) e_5) k_1052 D1k_hold D1h_hold rfl rfl (O_at O1) ⟨rfl, rfl⟩ ⟨Nat.le_trans (Nat.le_of_ble_eq_true rfl) hR.1, Nat.le_trans (Nat.le_of_ble_eq_true rfl) hR.2⟩ hf rfl hl.1 rfl (Nat.le_of_ble_eq_true rfl) dX1_holdSheet_39 (fun H locs hC => ?_)
      cases hm
      exact g_iret fx hr hC rfl dX1_holdSheet_42
    · replace hm := ifp hm c_3
      refine lv_iconst (v := (-1 : Int32)) hx hb dX1_holdSheet_25 (by decide) ?_
      refine lv_goto (tgt := 33) hx hb dX1_holdSheet_26 (by decide) ?_
      refine lv_aload_n hx hb dX1_holdSheet_33 rfl (lv_at hl 1 rfl) ?_
      refine D1g_1 fx hC k_82 dX1_holdSheet_34 ?_
      refine lv_iload_n hx hb dX1_holdSheet_37 rfl (lv_at hl 3 rfl) ?_
      have h_8 := (gi_in hm).1
      replace hm := (gi_in hm).2
      refine DLi fx hC Ka35 h_8 dX1_holdSheet_38 ?_
      obtain ⟨r_11, τ_10, e_9, hm⟩ := b2_in hm
      refine d_callVi (ci := 1) (As := [.int a1, .int (-1 : Int32), .int (τ.2.1 35 (a2).toNatClampNeg)]) (rest := []) fx sx hC dw_w (D1c_hold l τ a1 (-1 : Int32) (τ.2.1 35 (a2).toNatClampNeg) e_9) k_1052 D1k_hold D1h_hold rfl rfl (O_at O1) ⟨rfl, rfl⟩ ⟨Nat.le_trans (Nat.le_of_ble_eq_true rfl) hR.1, Nat.le_trans (Nat.le_of_ble_eq_true rfl) hR.2⟩ hf rfl hl.1 rfl (Nat.le_of_ble_eq_true rfl) dX1_holdSheet_39 (fun H locs hC => ?_)
      cases hm
      exact g_iret fx hr hC rfl dX1_holdSheet_42
  · replace hm := ifp hm c_1
    refine lv_bipush (v := (-2 : Int32)) hx hb dX1_holdSheet_8 (by decide) ?_
    cases hm
    exact g_iret fx hr hC rfl dX1_holdSheet_10
def D1s_isOne_11 {ρ : Type} (p1 : Int32) (kx42 : Option ρ) (kx50 : Option ρ) (rc : Int32 → Int32 → Option ρ) (v2 : Int32) (v3 : Int32) : Option ρ :=
  if (6 : Int32) ≤ v3 then (kx50) else (if v2 < (0 : Int32) then (kx50) else (if (6 : Int32) ≤ v2 then (kx50) else (gi v2 6 (if (zABOVE (v2).toNatClampNeg) = p1 then (kx42) else (rc (zABOVE (v2).toNatClampNeg) (v3 + (1 : Int32)))))))
def D1m_isOne (a1 : Int32) (a2 : Int32) : Option Int32 :=
  if a1 = a2 then (some (1 : Int32)) else (it2 (D1s_isOne_11 a2 (some (1 : Int32)) (some (0 : Int32))) fuel a1 (0 : Int32))
abbrev D1rm_isOne : Room := { frames := 0, cells := 0, slots := 0, locals := 0 }
set_option maxRecDepth 100000 in
set_option maxHeartbeats 4000000 in
theorem D1w_isOne_11 {ρ : Type} {out : ρ} {p : Program} {l : Launch} {e : Env} {R : Room} {s : State} {m : MethodId} {args : Array Value} {below : List Frame} {meth : Method} {c : Code} {cells slots : Nat} {Q : State → Prop} {D : va_G} {cy : Nat → ClassId} {ad : List Nat} {q : Nat → Nat} {X : va_W} (τ : DS) (fx : FX p s m args meth c cX1_isOne 4 RX1 D cy) (sx : SX ad s) (hR : 0 ≤ R.frames ∧ 0 ≤ R.locals) (hf : cells ≤ R.cells ∧ slots ≤ R.slots) (p1 : Int32) {kx42 : Option ρ} {kx50 : Option ρ} :
    ∀ (n : Nat) (v2 : Int32) (v3 : Int32), it2 (D1s_isOne_11 p1 kx42 kx50) n v2 v3 = some out → ∀ (H : Heap) (locs : List Loc) (ls : Array Slot), GC D (dwd cy q X) ad s τ H locs → lv_has ls 4 [(1, .int p1), (2, .int v2), (3, .int v3)] → (∀ (H : Heap) (locs : List Loc) (ls : Array Slot), kx42 = some out → GC D (dwd cy q X) ad s τ H locs → lv_has ls 4 [] → W p l e R s m args below meth c H locs cells slots Q (F0 m 42 ls [])) → (∀ (H : Heap) (locs : List Loc) (ls : Array Slot), kx50 = some out → GC D (dwd cy q X) ad s τ H locs → lv_has ls 4 [] → W p l e R s m args below meth c H locs cells slots Q (F0 m 50 ls [])) → W p l e R s m args below meth c H locs cells slots Q (F0 m 11 ls []) := by
  have hx := fx.1
  have hb := fx.2.1
  intro n
  induction n with
  | zero => intro v2 v3 hm; exact (it2_z hm).elim
  | succ n ih9 =>
    intro v2 v3 hm H locs ls hC hl hx42 hx50
    obtain ⟨rc, hrc⟩ : ∃ z, z = it2 (D1s_isOne_11 p1 kx42 kx50) n := ⟨_, rfl⟩
    replace hm : D1s_isOne_11 p1 kx42 kx50 rc v2 v3 = some out := by rw [hrc]; exact hm
    unfold D1s_isOne_11 at hm
    refine lv_iload_n hx hb dX1_isOne_11 rfl (lv_at hl 2 rfl) ?_
    obtain ⟨t_2, zt_2, yt_2⟩ := sx.2.1
    refine va_getsN hx hb zt_2 hC.2.2 fx.2.2.2.1 (va_Nw.use rfl sx.2.2.2.2.2.1) (fun _ h => h) dX1_isOne_12 ?_
    refine va_tlen (v := (6 : Int32)) hx hb yt_2 hC.2.2 rfl dX1_isOne_15 ?_
    refine lv_icmp_ge (tgt := 50) hx hb dX1_isOne_16 (by decide) (fun c_3 => ?_) (fun c_3 => ?_)
    · replace hm := ifp hm c_3
      exact hx50 _ _ _ hm hC (lv_sub hl [] rfl)
    · replace hm := ifn hm c_3
      refine lv_iload_n hx hb dX1_isOne_19 rfl (lv_at hl 1 rfl) ?_
      refine lv_if_lt (tgt := 50) hx hb dX1_isOne_20 (by decide) (fun c_4 => ?_) (fun c_4 => ?_)
      · replace hm := ifp hm c_4
        exact hx50 _ _ _ hm hC (lv_sub hl [] rfl)
      · replace hm := ifn hm c_4
        refine lv_iload_n hx hb dX1_isOne_23 rfl (lv_at hl 1 rfl) ?_
        obtain ⟨t_5, zt_5, yt_5⟩ := sx.2.1
        refine va_getsN hx hb zt_5 hC.2.2 fx.2.2.2.1 (va_Nw.use rfl sx.2.2.2.2.2.1) (fun _ h => h) dX1_isOne_24 ?_
        refine va_tlen (v := (6 : Int32)) hx hb yt_5 hC.2.2 rfl dX1_isOne_27 ?_
        refine lv_icmp_ge (tgt := 50) hx hb dX1_isOne_28 (by decide) (fun c_6 => ?_) (fun c_6 => ?_)
        · replace hm := ifp hm c_6
          exact hx50 _ _ _ hm hC (lv_sub hl [] rfl)
        · replace hm := ifn hm c_6
          obtain ⟨t_7, zt_7, yt_7⟩ := sx.2.1
          refine va_getsN hx hb zt_7 hC.2.2 fx.2.2.2.1 (va_Nw.use rfl sx.2.2.2.2.2.1) (fun _ h => h) dX1_isOne_31 ?_
          refine lv_iload_n hx hb dX1_isOne_34 rfl (lv_at hl 1 rfl) ?_
          have h_8 := (gi_in hm).1
          replace hm := (gi_in hm).2
          refine va_ti (v := .int (zABOVE (v2).toNatClampNeg)) hx hb yt_7 hC.2.2 h_8 rfl dX1_isOne_35 ?_
          refine lv_istore_n (lv' := [(2, .int (zABOVE (v2).toNatClampNeg)), (1, .int p1), (3, .int v3)]) hx hb dX1_isOne_36 rfl hl (by decide) rfl (fun ls hl => ?_)
          refine lv_iload_n hx hb dX1_isOne_37 rfl (lv_at hl 0 rfl) ?_
          refine lv_iload_n hx hb dX1_isOne_38 rfl (lv_at hl 1 rfl) ?_
          refine lv_icmp_ne (tgt := 44) hx hb dX1_isOne_39 (by decide) (fun c_9 => ?_) (fun c_9 => ?_)
          · replace hm := ifn hm c_9
            refine lv_iinc (v := (v3 + (1 : Int32))) (lv' := [(3, .int (v3 + (1 : Int32))), (2, .int (zABOVE (v2).toNatClampNeg)), (1, .int p1)]) hx hb dX1_isOne_44 hl (k := 2) rfl rfl (by decide) rfl (fun ls hl => ?_)
            refine lv_goto (tgt := 11) hx hb dX1_isOne_47 (by decide) ?_
            rw [hrc] at hm
            exact ih9 _ _ hm _ _ _ hC (lv_sub hl [2, 1, 0] rfl) hx42 hx50
          · replace hm := ifp hm c_9
            exact hx42 _ _ _ hm hC (lv_sub hl [] rfl)
set_option maxRecDepth 100000 in
set_option maxHeartbeats 4000000 in
theorem D1c_isOne (l : Launch) {D : va_G} {cy : Nat → ClassId} {ad : List Nat} {q : Nat → Nat} {X : va_W} (τ : DS) (a1 : Int32) (a2 : Int32) {o : Int32} (hm : D1m_isOne a1 a2 = some o) : DM l yX1_isOne cX1_isOne 4 (some .boolean) D1rm_isOne D cy (dwd cy q X) ad [.int a1, .int a2] τ (some (.int (o))) τ := by
  refine d_start RX1 rfl (by decide) (Nat.le_of_ble_eq_true rfl) ?_
  intro p e s m args below meth c fx sx hr hC ls hl
  have hx := fx.1
  have hb := fx.2.1
  have hR : 0 ≤ (D1rm_isOne).frames ∧ 0 ≤ (D1rm_isOne).locals := ⟨Nat.le_refl _, Nat.le_refl _⟩
  have hf : 0 ≤ (D1rm_isOne).cells ∧ 0 ≤ (D1rm_isOne).slots := ⟨Nat.zero_le _, Nat.zero_le _⟩
  have hl : lv_has ls 4 [(0, .int a1), (1, .int a2)] := hl
  unfold D1m_isOne at hm
  refine lv_iload_n hx hb dX1_isOne_0 rfl (lv_at hl 0 rfl) ?_
  refine lv_iload_n hx hb dX1_isOne_1 rfl (lv_at hl 1 rfl) ?_
  refine lv_icmp_ne (tgt := 7) hx hb dX1_isOne_2 (by decide) (fun c_1 => ?_) (fun c_1 => ?_)
  · replace hm := ifn hm c_1
    refine lv_iload_n hx hb dX1_isOne_7 rfl (lv_at hl 0 rfl) ?_
    refine lv_istore_n (lv' := [(2, .int a1), (0, .int a1), (1, .int a2)]) hx hb dX1_isOne_8 rfl hl (by decide) rfl (fun ls hl => ?_)
    refine lv_iconst (v := (0 : Int32)) hx hb dX1_isOne_9 (by decide) ?_
    refine lv_istore_n (lv' := [(3, .int (0 : Int32)), (2, .int a1), (0, .int a1), (1, .int a2)]) hx hb dX1_isOne_10 rfl hl (by decide) rfl (fun ls hl => ?_)
    refine D1w_isOne_11 τ fx sx hR hf a2 fuel a1 (0 : Int32) hm _ _ _ hC (lv_sub hl [3, 1, 0] rfl) (fun  H locs ls hm hC hl => ?_) (fun  H locs ls hm hC hl => ?_)
    · refine lv_iconst (v := (1 : Int32)) hx hb dX1_isOne_42 (by decide) ?_
      cases hm
      exact g_zret fx hr rfl hC rfl dX1_isOne_43
    · refine lv_iconst (v := (0 : Int32)) hx hb dX1_isOne_50 (by decide) ?_
      cases hm
      exact g_zret fx hr rfl hC rfl dX1_isOne_51
  · replace hm := ifp hm c_1
    refine lv_iconst (v := (1 : Int32)) hx hb dX1_isOne_5 (by decide) ?_
    cases hm
    exact g_zret fx hr rfl hC rfl dX1_isOne_6
def D1m_heldFor (τ : DS) (a1 : Int32) (a2 : Int32) : Option Int32 :=
  if (D1m_isNumber τ a1) = (0 : Int32) then (some (-2 : Int32)) else (if a2 < (0 : Int32) then (some (-2 : Int32)) else (if a2 ≤ (8 : Int32) then (gi a1 6 (if (τ.2.1 43 (a1).toNatClampNeg) = (-1 : Int32) then (some (-11 : Int32)) else (b1 (D1m_isOne (τ.2.1 43 (a1).toNatClampNeg) a2) (fun r_7 => if r_7 = (0 : Int32) then (some (-13 : Int32)) else (gi a1 6 (some (τ.2.1 44 (a1).toNatClampNeg))))))) else (some (-2 : Int32))))
abbrev D1rm_heldFor : Room := { frames := 1, cells := 0, slots := 0, locals := 23 }
set_option maxRecDepth 100000 in
set_option maxHeartbeats 4000000 in
theorem D1c_heldFor (l : Launch) {D : va_G} {cy : Nat → ClassId} {ad : List Nat} {q : Nat → Nat} {X : va_W} (τ : DS) (a1 : Int32) (a2 : Int32) {o : Int32} (hm : D1m_heldFor τ a1 a2 = some o) : DM l yX1_heldFor cX1_heldFor 4 (some .int) D1rm_heldFor D cy (dwd cy q X) ad [.ref (q 33), .int a1, .int a2] τ (some (.int (o))) τ := by
  refine d_start RX1 rfl (by decide) (Nat.le_of_ble_eq_true rfl) ?_
  intro p e s m args below meth c fx sx hr hC ls hl
  have hx := fx.1
  have hb := fx.2.1
  have hR : 1 ≤ (D1rm_heldFor).frames ∧ 23 ≤ (D1rm_heldFor).locals := ⟨Nat.le_refl _, Nat.le_refl _⟩
  have hf : 0 ≤ (D1rm_heldFor).cells ∧ 0 ≤ (D1rm_heldFor).slots := ⟨Nat.zero_le _, Nat.zero_le _⟩
  have hl : lv_has ls 4 [(0, .ref (q 33)), (1, .int a1), (2, .int a2)] := hl
  unfold D1m_heldFor at hm
  refine lv_aload_n hx hb dX1_heldFor_0 rfl (lv_at hl 0 rfl) ?_
  refine lv_iload_n hx hb dX1_heldFor_1 rfl (lv_at hl 1 rfl) ?_
  refine d_callVi (ci := 1) (As := [.int a1]) (rest := []) fx sx hC dw_w (D1c_isNumber l τ a1) k_994 D1k_isNumber D1h_isNumber rfl rfl (O_at O1) ⟨rfl, rfl⟩ ⟨Nat.le_trans (Nat.le_of_ble_eq_true rfl) hR.1, Nat.le_trans (Nat.le_of_ble_eq_true rfl) hR.2⟩ hf rfl hl.1 rfl (Nat.le_of_ble_eq_true rfl) dX1_heldFor_2 (fun H locs hC => ?_)
  refine lv_if_eq (tgt := 18) hx hb dX1_heldFor_5 (by decide) (fun c_1 => ?_) (fun c_1 => ?_)
  · replace hm := ifp hm c_1
    refine lv_bipush (v := (-2 : Int32)) hx hb dX1_heldFor_18 (by decide) ?_
    cases hm
    exact g_iret fx hr hC rfl dX1_heldFor_20
  · replace hm := ifn hm c_1
    refine lv_iload_n hx hb dX1_heldFor_8 rfl (lv_at hl 2 rfl) ?_
    refine lv_if_lt (tgt := 18) hx hb dX1_heldFor_9 (by decide) (fun c_2 => ?_) (fun c_2 => ?_)
    · replace hm := ifp hm c_2
      refine lv_bipush (v := (-2 : Int32)) hx hb dX1_heldFor_18 (by decide) ?_
      cases hm
      exact g_iret fx hr hC rfl dX1_heldFor_20
    · replace hm := ifn hm c_2
      refine lv_iload_n hx hb dX1_heldFor_12 rfl (lv_at hl 2 rfl) ?_
      refine lv_bipush (v := (8 : Int32)) hx hb dX1_heldFor_13 (by decide) ?_
      refine lv_icmp_le (tgt := 21) hx hb dX1_heldFor_15 (by decide) (fun c_3 => ?_) (fun c_3 => ?_)
      · replace hm := ifp hm c_3
        refine lv_aload_n hx hb dX1_heldFor_21 rfl (lv_at hl 0 rfl) ?_
        refine D1g_3 fx hC k_85 dX1_heldFor_22 ?_
        refine lv_iload_n hx hb dX1_heldFor_25 rfl (lv_at hl 1 rfl) ?_
        have h_4 := (gi_in hm).1
        replace hm := (gi_in hm).2
        refine DLi fx hC Ka43 h_4 dX1_heldFor_26 ?_
        refine lv_istore_n (lv' := [(3, .int (τ.2.1 43 (a1).toNatClampNeg)), (0, .ref (q 33)), (1, .int a1), (2, .int a2)]) hx hb dX1_heldFor_27 rfl hl (by decide) rfl (fun ls hl => ?_)
        refine lv_iload_n hx hb dX1_heldFor_28 rfl (lv_at hl 0 rfl) ?_
        refine lv_iconst (v := (-1 : Int32)) hx hb dX1_heldFor_29 (by decide) ?_
        refine lv_icmp_ne (tgt := 36) hx hb dX1_heldFor_30 (by decide) (fun c_5 => ?_) (fun c_5 => ?_)
        · replace hm := ifn hm c_5
          refine lv_iload_n hx hb dX1_heldFor_36 rfl (lv_at hl 0 rfl) ?_
          refine lv_iload_n hx hb dX1_heldFor_37 rfl (lv_at hl 3 rfl) ?_
          obtain ⟨r_7, e_6, hm⟩ := b1_in hm
          refine d_callSi (As := [.int (τ.2.1 43 (a1).toNatClampNeg), .int a2]) (rest := []) fx sx hC dw_w (D1c_isOne l τ (τ.2.1 43 (a1).toNatClampNeg) a2 e_6) k_1065 D1k_isOne D1h_isOne ⟨rfl, rfl⟩ ⟨Nat.le_trans (Nat.le_of_ble_eq_true rfl) hR.1, Nat.le_trans (Nat.le_of_ble_eq_true rfl) hR.2⟩ hf rfl hl.1 rfl (Nat.le_of_ble_eq_true rfl) dX1_heldFor_38 (fun H locs hC => ?_)
          refine lv_if_eq (tgt := 53) hx hb dX1_heldFor_41 (by decide) (fun c_8 => ?_) (fun c_8 => ?_)
          · replace hm := ifp hm c_8
            refine lv_bipush (v := (-13 : Int32)) hx hb dX1_heldFor_53 (by decide) ?_
            cases hm
            exact g_iret fx hr hC rfl dX1_heldFor_55
          · replace hm := ifn hm c_8
            refine lv_aload_n hx hb dX1_heldFor_44 rfl (lv_at hl 1 rfl) ?_
            refine D1g_4 fx hC k_86 dX1_heldFor_45 ?_
            refine lv_iload_n hx hb dX1_heldFor_48 rfl (lv_at hl 2 rfl) ?_
            have h_9 := (gi_in hm).1
            replace hm := (gi_in hm).2
            refine DLi fx hC Ka44 h_9 dX1_heldFor_49 ?_
            refine lv_goto (tgt := 55) hx hb dX1_heldFor_50 (by decide) ?_
            cases hm
            exact g_iret fx hr hC rfl dX1_heldFor_55
        · replace hm := ifp hm c_5
          refine lv_bipush (v := (-11 : Int32)) hx hb dX1_heldFor_33 (by decide) ?_
          cases hm
          exact g_iret fx hr hC rfl dX1_heldFor_35
      · replace hm := ifn hm c_3
        refine lv_bipush (v := (-2 : Int32)) hx hb dX1_heldFor_18 (by decide) ?_
        cases hm
        exact g_iret fx hr hC rfl dX1_heldFor_20
def D2m_isPost (τ : DS) (a1 : Int32) : Int32 :=
  if a1 < (0 : Int32) then ((0 : Int32)) else (if (τ.1 1 0) ≤ a1 then ((0 : Int32)) else (if (8 : Int32) ≤ a1 then ((0 : Int32)) else ((1 : Int32))))
abbrev D2rm_isPost : Room := { frames := 0, cells := 0, slots := 0, locals := 0 }
set_option maxRecDepth 100000 in
set_option maxHeartbeats 4000000 in
theorem D2c_isPost (l : Launch) {D : va_G} {cy : Nat → ClassId} {ad : List Nat} {q : Nat → Nat} {X : va_W} (τ : DS) (a1 : Int32) : DM l yX2_isPost cX2_isPost 2 (some .boolean) D2rm_isPost D cy (dwd cy q X) ad [.ref (q 1), .int a1] τ (some (.int (D2m_isPost τ a1))) τ := by
  refine d_start RX2 rfl (by decide) (Nat.le_of_ble_eq_true rfl) ?_
  intro p e s m args below meth c fx sx hr hC ls hl
  have hx := fx.1
  have hb := fx.2.1
  have hR : 0 ≤ (D2rm_isPost).frames ∧ 0 ≤ (D2rm_isPost).locals := ⟨Nat.le_refl _, Nat.le_refl _⟩
  have hf : 0 ≤ (D2rm_isPost).cells ∧ 0 ≤ (D2rm_isPost).slots := ⟨Nat.zero_le _, Nat.zero_le _⟩
  have hl : lv_has ls 2 [(0, .ref (q 1)), (1, .int a1)] := hl
  obtain ⟨o, hm⟩ : ∃ z, z = D2m_isPost τ a1 := ⟨_, rfl⟩
  rw [← hm]
  replace hm := hm.symm
  unfold D2m_isPost at hm
  refine lv_iload_n hx hb dX2_isPost_0 rfl (lv_at hl 1 rfl) ?_
  refine lv_if_lt (tgt := 22) hx hb dX2_isPost_1 (by decide) (fun c_1 => ?_) (fun c_1 => ?_)
  · replace hm := ifp hm c_1
    refine lv_iconst (v := (0 : Int32)) hx hb dX2_isPost_22 (by decide) ?_
    exact g_zret fx hr rfl hC (by rw [← hm]) dX2_isPost_23
  · replace hm := ifn hm c_1
    refine lv_iload_n hx hb dX2_isPost_4 rfl (lv_at hl 1 rfl) ?_
    refine lv_aload_n hx hb dX2_isPost_5 rfl (lv_at hl 0 rfl) ?_
    refine D2g_0 fx hC k_134 dX2_isPost_6 ?_
    refine lv_icmp_ge (tgt := 22) hx hb dX2_isPost_9 (by decide) (fun c_2 => ?_) (fun c_2 => ?_)
    · replace hm := ifp hm c_2
      refine lv_iconst (v := (0 : Int32)) hx hb dX2_isPost_22 (by decide) ?_
      exact g_zret fx hr rfl hC (by rw [← hm]) dX2_isPost_23
    · replace hm := ifn hm c_2
      refine lv_iload_n hx hb dX2_isPost_12 rfl (lv_at hl 1 rfl) ?_
      refine lv_bipush (v := (8 : Int32)) hx hb dX2_isPost_13 (by decide) ?_
      refine lv_icmp_ge (tgt := 22) hx hb dX2_isPost_15 (by decide) (fun c_3 => ?_) (fun c_3 => ?_)
      · replace hm := ifp hm c_3
        refine lv_iconst (v := (0 : Int32)) hx hb dX2_isPost_22 (by decide) ?_
        exact g_zret fx hr rfl hC (by rw [← hm]) dX2_isPost_23
      · replace hm := ifn hm c_3
        refine lv_iconst (v := (1 : Int32)) hx hb dX2_isPost_18 (by decide) ?_
        refine lv_goto (tgt := 23) hx hb dX2_isPost_19 (by decide) ?_
        exact g_zret fx hr rfl hC (by rw [← hm]) dX2_isPost_23
theorem D2z_isPost (τ : DS) (a1 : Int32) : narrow .boolean (.int (D2m_isPost τ a1)) = .int (D2m_isPost τ a1) := by
  unfold D2m_isPost
  repeat' (first | rfl | split)
def D2m_isRoad (τ : DS) (a1 : Int32) : Int32 :=
  if a1 < (0 : Int32) then ((0 : Int32)) else (if (τ.1 1 1) ≤ a1 then ((0 : Int32)) else (if (12 : Int32) ≤ a1 then ((0 : Int32)) else ((1 : Int32))))
abbrev D2rm_isRoad : Room := { frames := 0, cells := 0, slots := 0, locals := 0 }
set_option maxRecDepth 100000 in
set_option maxHeartbeats 4000000 in
theorem D2c_isRoad (l : Launch) {D : va_G} {cy : Nat → ClassId} {ad : List Nat} {q : Nat → Nat} {X : va_W} (τ : DS) (a1 : Int32) : DM l yX2_isRoad cX2_isRoad 2 (some .boolean) D2rm_isRoad D cy (dwd cy q X) ad [.ref (q 1), .int a1] τ (some (.int (D2m_isRoad τ a1))) τ := by
  refine d_start RX2 rfl (by decide) (Nat.le_of_ble_eq_true rfl) ?_
  intro p e s m args below meth c fx sx hr hC ls hl
  have hx := fx.1
  have hb := fx.2.1
  have hR : 0 ≤ (D2rm_isRoad).frames ∧ 0 ≤ (D2rm_isRoad).locals := ⟨Nat.le_refl _, Nat.le_refl _⟩
  have hf : 0 ≤ (D2rm_isRoad).cells ∧ 0 ≤ (D2rm_isRoad).slots := ⟨Nat.zero_le _, Nat.zero_le _⟩
  have hl : lv_has ls 2 [(0, .ref (q 1)), (1, .int a1)] := hl
  obtain ⟨o, hm⟩ : ∃ z, z = D2m_isRoad τ a1 := ⟨_, rfl⟩
  rw [← hm]
  replace hm := hm.symm
  unfold D2m_isRoad at hm
  refine lv_iload_n hx hb dX2_isRoad_0 rfl (lv_at hl 1 rfl) ?_
  refine lv_if_lt (tgt := 22) hx hb dX2_isRoad_1 (by decide) (fun c_1 => ?_) (fun c_1 => ?_)
  · replace hm := ifp hm c_1
    refine lv_iconst (v := (0 : Int32)) hx hb dX2_isRoad_22 (by decide) ?_
    exact g_zret fx hr rfl hC (by rw [← hm]) dX2_isRoad_23
  · replace hm := ifn hm c_1
    refine lv_iload_n hx hb dX2_isRoad_4 rfl (lv_at hl 1 rfl) ?_
    refine lv_aload_n hx hb dX2_isRoad_5 rfl (lv_at hl 0 rfl) ?_
    refine D2g_1 fx hC k_155 dX2_isRoad_6 ?_
    refine lv_icmp_ge (tgt := 22) hx hb dX2_isRoad_9 (by decide) (fun c_2 => ?_) (fun c_2 => ?_)
    · replace hm := ifp hm c_2
      refine lv_iconst (v := (0 : Int32)) hx hb dX2_isRoad_22 (by decide) ?_
      exact g_zret fx hr rfl hC (by rw [← hm]) dX2_isRoad_23
    · replace hm := ifn hm c_2
      refine lv_iload_n hx hb dX2_isRoad_12 rfl (lv_at hl 1 rfl) ?_
      refine lv_bipush (v := (12 : Int32)) hx hb dX2_isRoad_13 (by decide) ?_
      refine lv_icmp_ge (tgt := 22) hx hb dX2_isRoad_15 (by decide) (fun c_3 => ?_) (fun c_3 => ?_)
      · replace hm := ifp hm c_3
        refine lv_iconst (v := (0 : Int32)) hx hb dX2_isRoad_22 (by decide) ?_
        exact g_zret fx hr rfl hC (by rw [← hm]) dX2_isRoad_23
      · replace hm := ifn hm c_3
        refine lv_iconst (v := (1 : Int32)) hx hb dX2_isRoad_18 (by decide) ?_
        refine lv_goto (tgt := 23) hx hb dX2_isRoad_19 (by decide) ?_
        exact g_zret fx hr rfl hC (by rw [← hm]) dX2_isRoad_23
theorem D2z_isRoad (τ : DS) (a1 : Int32) : narrow .boolean (.int (D2m_isRoad τ a1)) = .int (D2m_isRoad τ a1) := by
  unfold D2m_isRoad
  repeat' (first | rfl | split)
def D2m_hasRoads (τ : DS) (a1 : Int32) : Int32 :=
  if a1 < (0 : Int32) then ((0 : Int32)) else (if ((1 : Int32) <<< ((τ.1 1 1) &&& 31)) ≤ a1 then ((0 : Int32)) else ((1 : Int32)))
abbrev D2rm_hasRoads : Room := { frames := 0, cells := 0, slots := 0, locals := 0 }
set_option maxRecDepth 100000 in
set_option maxHeartbeats 4000000 in
theorem D2c_hasRoads (l : Launch) {D : va_G} {cy : Nat → ClassId} {ad : List Nat} {q : Nat → Nat} {X : va_W} (τ : DS) (a1 : Int32) : DM l yX2_hasRoads cX2_hasRoads 2 (some .boolean) D2rm_hasRoads D cy (dwd cy q X) ad [.ref (q 1), .int a1] τ (some (.int (D2m_hasRoads τ a1))) τ := by
  refine d_start RX2 rfl (by decide) (Nat.le_of_ble_eq_true rfl) ?_
  intro p e s m args below meth c fx sx hr hC ls hl
  have hx := fx.1
  have hb := fx.2.1
  have hR : 0 ≤ (D2rm_hasRoads).frames ∧ 0 ≤ (D2rm_hasRoads).locals := ⟨Nat.le_refl _, Nat.le_refl _⟩
  have hf : 0 ≤ (D2rm_hasRoads).cells ∧ 0 ≤ (D2rm_hasRoads).slots := ⟨Nat.zero_le _, Nat.zero_le _⟩
  have hl : lv_has ls 2 [(0, .ref (q 1)), (1, .int a1)] := hl
  obtain ⟨o, hm⟩ : ∃ z, z = D2m_hasRoads τ a1 := ⟨_, rfl⟩
  rw [← hm]
  replace hm := hm.symm
  unfold D2m_hasRoads at hm
  refine lv_iload_n hx hb dX2_hasRoads_0 rfl (lv_at hl 1 rfl) ?_
  refine lv_if_lt (tgt := 18) hx hb dX2_hasRoads_1 (by decide) (fun c_1 => ?_) (fun c_1 => ?_)
  · replace hm := ifp hm c_1
    refine lv_iconst (v := (0 : Int32)) hx hb dX2_hasRoads_18 (by decide) ?_
    exact g_zret fx hr rfl hC (by rw [← hm]) dX2_hasRoads_19
  · replace hm := ifn hm c_1
    refine lv_iload_n hx hb dX2_hasRoads_4 rfl (lv_at hl 1 rfl) ?_
    refine lv_iconst (v := (1 : Int32)) hx hb dX2_hasRoads_5 (by decide) ?_
    refine lv_aload_n hx hb dX2_hasRoads_6 rfl (lv_at hl 0 rfl) ?_
    refine D2g_1 fx hC k_155 dX2_hasRoads_7 ?_
    refine lv_ishl hx hb dX2_hasRoads_10 ?_
    refine lv_icmp_ge (tgt := 18) hx hb dX2_hasRoads_11 (by decide) (fun c_2 => ?_) (fun c_2 => ?_)
    · replace hm := ifp hm c_2
      refine lv_iconst (v := (0 : Int32)) hx hb dX2_hasRoads_18 (by decide) ?_
      exact g_zret fx hr rfl hC (by rw [← hm]) dX2_hasRoads_19
    · replace hm := ifn hm c_2
      refine lv_iconst (v := (1 : Int32)) hx hb dX2_hasRoads_14 (by decide) ?_
      refine lv_goto (tgt := 19) hx hb dX2_hasRoads_15 (by decide) ?_
      exact g_zret fx hr rfl hC (by rw [← hm]) dX2_hasRoads_19
theorem D2z_hasRoads (τ : DS) (a1 : Int32) : narrow .boolean (.int (D2m_hasRoads τ a1)) = .int (D2m_hasRoads τ a1) := by
  unfold D2m_hasRoads
  repeat' (first | rfl | split)
def D2m_addPost (τ : DS) (a1 : Int32) : Option (Int32 × DS) :=
  if (τ.1 1 0) < (0 : Int32) then (some ((-4 : Int32), τ)) else (if (τ.1 1 0) < (8 : Int32) then (gi (τ.1 1 0) 8 (nm (dA τ 2 ((τ.1 1 0)).toNatClampNeg a1) (fun τ_4 => nm (dS τ_4 1 0 ((τ_4.1 1 0) + (1 : Int32))) (fun τ_6 => some (((τ_6.1 1 0) - (1 : Int32)), τ_6))))) else (some ((-4 : Int32), τ)))
abbrev D2rm_addPost : Room := { frames := 0, cells := 0, slots := 0, locals := 0 }
set_option maxRecDepth 100000 in
set_option maxHeartbeats 4000000 in
theorem D2c_addPost (l : Launch) {D : va_G} {cy : Nat → ClassId} {ad : List Nat} {q : Nat → Nat} {X : va_W} (τ : DS) (a1 : Int32) {o : Int32 × DS} (hm : D2m_addPost τ a1 = some o) : DM l yX2_addPost cX2_addPost 2 (some .int) D2rm_addPost D cy (dwd cy q X) ad [.ref (q 1), .int a1] τ (some (.int (o.1))) o.2 := by
  refine d_start RX2 rfl (by decide) (Nat.le_of_ble_eq_true rfl) ?_
  intro p e s m args below meth c fx sx hr hC ls hl
  have hx := fx.1
  have hb := fx.2.1
  have hR : 0 ≤ (D2rm_addPost).frames ∧ 0 ≤ (D2rm_addPost).locals := ⟨Nat.le_refl _, Nat.le_refl _⟩
  have hf : 0 ≤ (D2rm_addPost).cells ∧ 0 ≤ (D2rm_addPost).slots := ⟨Nat.zero_le _, Nat.zero_le _⟩
  have hl : lv_has ls 2 [(0, .ref (q 1)), (1, .int a1)] := hl
  unfold D2m_addPost at hm
  refine lv_aload_n hx hb dX2_addPost_0 rfl (lv_at hl 0 rfl) ?_
  refine D2g_0 fx hC k_134 dX2_addPost_1 ?_
  refine lv_if_lt (tgt := 16) hx hb dX2_addPost_4 (by decide) (fun c_1 => ?_) (fun c_1 => ?_)
  · replace hm := ifp hm c_1
    refine lv_bipush (v := (-4 : Int32)) hx hb dX2_addPost_16 (by decide) ?_
    cases hm
    exact g_iret fx hr hC rfl dX2_addPost_18
  · replace hm := ifn hm c_1
    refine lv_aload_n hx hb dX2_addPost_7 rfl (lv_at hl 0 rfl) ?_
    refine D2g_0 fx hC k_134 dX2_addPost_8 ?_
    refine lv_bipush (v := (8 : Int32)) hx hb dX2_addPost_11 (by decide) ?_
    refine lv_icmp_lt (tgt := 19) hx hb dX2_addPost_13 (by decide) (fun c_2 => ?_) (fun c_2 => ?_)
    · replace hm := ifp hm c_2
      refine lv_aload_n hx hb dX2_addPost_19 rfl (lv_at hl 0 rfl) ?_
      refine D2g_2 fx hC k_48 dX2_addPost_20 ?_
      refine lv_aload_n hx hb dX2_addPost_23 rfl (lv_at hl 0 rfl) ?_
      refine D2g_0 fx hC k_134 dX2_addPost_24 ?_
      refine lv_iload_n hx hb dX2_addPost_27 rfl (lv_at hl 1 rfl) ?_
      have h_3 := (gi_in hm).1
      replace hm := (gi_in hm).2
      refine DSi fx hC Ka2 h_3 dX2_addPost_28 (fun H locs hC => ?_)
      obtain ⟨τ_4, e_5⟩ : ∃ z, z = (dA τ 2 ((τ.1 1 0)).toNatClampNeg a1) := ⟨_, rfl⟩
      rw [← e_5] at hC
      replace hm := nm_in hm e_5
      refine lv_aload_n hx hb dX2_addPost_29 rfl (lv_at hl 0 rfl) ?_
      refine lv_dup hx hb dX2_addPost_30 rfl ?_
      refine D2g_0 fx hC k_134 dX2_addPost_31 ?_
      refine lv_iconst (v := (1 : Int32)) hx hb dX2_addPost_34 (by decide) ?_
      refine lv_iadd hx hb dX2_addPost_35 ?_
      refine D2p_0 fx hC k_134 dX2_addPost_36 (fun H locs hC => ?_)
      obtain ⟨τ_6, e_7⟩ : ∃ z, z = (dS τ_4 1 0 ((τ_4.1 1 0) + (1 : Int32))) := ⟨_, rfl⟩
      rw [← e_7] at hC
      replace hm := nm_in hm e_7
      refine lv_aload_n hx hb dX2_addPost_39 rfl (lv_at hl 0 rfl) ?_
      refine D2g_0 fx hC k_134 dX2_addPost_40 ?_
      refine lv_iconst (v := (1 : Int32)) hx hb dX2_addPost_43 (by decide) ?_
      refine lv_isub hx hb dX2_addPost_44 ?_
      cases hm
      exact g_iret fx hr hC rfl dX2_addPost_45
    · replace hm := ifn hm c_2
      refine lv_bipush (v := (-4 : Int32)) hx hb dX2_addPost_16 (by decide) ?_
      cases hm
      exact g_iret fx hr hC rfl dX2_addPost_18
def D2s_areJoined_2 {ρ : Type} (p1 : Int32) (p2 : Int32) (τ : DS) (kx44 : Option ρ) (kx52 : Option ρ) (rc : Int32 → Option ρ) (v3 : Int32) : Option ρ :=
  if (τ.1 1 1) ≤ v3 then (kx52) else (if (12 : Int32) ≤ v3 then (kx52) else (gi v3 12 (if (τ.2.1 3 (v3).toNatClampNeg) = (if p2 < p1 then p2 else p1) then (gi v3 12 (if (τ.2.1 4 (v3).toNatClampNeg) = (if p1 < p2 then p2 else p1) then (kx44) else (rc (v3 + (1 : Int32))))) else (rc (v3 + (1 : Int32))))))
def D2m_areJoined (τ : DS) (a1 : Int32) (a2 : Int32) : Option Int32 :=
  it1 (D2s_areJoined_2 a1 a2 τ (some (1 : Int32)) (some (0 : Int32))) fuel (0 : Int32)
abbrev D2rm_areJoined : Room := { frames := 1, cells := 0, slots := 0, locals := 40 }
set_option maxRecDepth 100000 in
set_option maxHeartbeats 4000000 in
theorem D2w_areJoined_2 {ρ : Type} {out : ρ} {p : Program} {l : Launch} {e : Env} {R : Room} {s : State} {m : MethodId} {args : Array Value} {below : List Frame} {meth : Method} {c : Code} {cells slots : Nat} {Q : State → Prop} {D : va_G} {cy : Nat → ClassId} {ad : List Nat} {q : Nat → Nat} {X : va_W} (τ : DS) (fx : FX p s m args meth c cX2_areJoined 4 RX2 D cy) (sx : SX ad s) (hR : 1 ≤ R.frames ∧ 40 ≤ R.locals) (hf : cells ≤ R.cells ∧ slots ≤ R.slots) (p1 : Int32) (p2 : Int32) {kx44 : Option ρ} {kx52 : Option ρ} :
    ∀ (n : Nat) (v3 : Int32), it1 (D2s_areJoined_2 p1 p2 τ kx44 kx52) n v3 = some out → ∀ (H : Heap) (locs : List Loc) (ls : Array Slot), GC D (dwd cy q X) ad s τ H locs → lv_has ls 4 [(0, .ref (q 1)), (1, .int p1), (2, .int p2), (3, .int v3)] → (∀ (H : Heap) (locs : List Loc) (ls : Array Slot), kx44 = some out → GC D (dwd cy q X) ad s τ H locs → lv_has ls 4 [] → W p l e R s m args below meth c H locs cells slots Q (F0 m 44 ls [])) → (∀ (H : Heap) (locs : List Loc) (ls : Array Slot), kx52 = some out → GC D (dwd cy q X) ad s τ H locs → lv_has ls 4 [] → W p l e R s m args below meth c H locs cells slots Q (F0 m 52 ls [])) → W p l e R s m args below meth c H locs cells slots Q (F0 m 2 ls []) := by
  have hx := fx.1
  have hb := fx.2.1
  intro n
  induction n with
  | zero => intro v3 hm; exact (it1_z hm).elim
  | succ n ih9 =>
    intro v3 hm H locs ls hC hl hx44 hx52
    obtain ⟨rc, hrc⟩ : ∃ z, z = it1 (D2s_areJoined_2 p1 p2 τ kx44 kx52) n := ⟨_, rfl⟩
    replace hm : D2s_areJoined_2 p1 p2 τ kx44 kx52 rc v3 = some out := by rw [hrc]; exact hm
    unfold D2s_areJoined_2 at hm
    refine lv_iload_n hx hb dX2_areJoined_2 rfl (lv_at hl 3 rfl) ?_
    refine lv_aload_n hx hb dX2_areJoined_3 rfl (lv_at hl 0 rfl) ?_
    refine D2g_1 fx hC k_155 dX2_areJoined_4 ?_
    refine lv_icmp_ge (tgt := 52) hx hb dX2_areJoined_7 (by decide) (fun c_1 => ?_) (fun c_1 => ?_)
    · replace hm := ifp hm c_1
      exact hx52 _ _ _ hm hC (lv_sub hl [] rfl)
    · replace hm := ifn hm c_1
      refine lv_iload_n hx hb dX2_areJoined_10 rfl (lv_at hl 3 rfl) ?_
      refine lv_bipush (v := (12 : Int32)) hx hb dX2_areJoined_11 (by decide) ?_
      refine lv_icmp_ge (tgt := 52) hx hb dX2_areJoined_13 (by decide) (fun c_2 => ?_) (fun c_2 => ?_)
      · replace hm := ifp hm c_2
        exact hx52 _ _ _ hm hC (lv_sub hl [] rfl)
      · replace hm := ifn hm c_2
        refine lv_aload_n hx hb dX2_areJoined_16 rfl (lv_at hl 0 rfl) ?_
        refine D2g_3 fx hC k_49 dX2_areJoined_17 ?_
        refine lv_iload_n hx hb dX2_areJoined_20 rfl (lv_at hl 3 rfl) ?_
        have h_3 := (gi_in hm).1
        replace hm := (gi_in hm).2
        refine DLi fx hC Ka3 h_3 dX2_areJoined_21 ?_
        refine lv_iload_n hx hb dX2_areJoined_22 rfl (lv_at hl 1 rfl) ?_
        refine lv_iload_n hx hb dX2_areJoined_23 rfl (lv_at hl 2 rfl) ?_
        refine va_mmin (rest := [.int (τ.2.1 3 (v3).toNatClampNeg)]) hx hb (by rw [hl.1]; exact fx.2.2.1) fx.2.2.2.1 (fx.2.2.2.2.1 _ k_156) (fx.2.2.2.2.1 _ k_157) (fx.2.2.2.2.1 _ k_158) (fx.2.2.2.2.1 _ k_159) (Nat.le_trans (Nat.le_of_ble_eq_true rfl) hR.1) (Nat.le_trans (Nat.le_of_ble_eq_true rfl) hR.2) hf.1 hf.2 dX2_areJoined_24 ?_
        refine lv_icmp_ne (tgt := 46) hx hb dX2_areJoined_27 (by decide) (fun c_4 => ?_) (fun c_4 => ?_)
        · replace hm := ifn hm c_4
          refine lv_iinc (v := (v3 + (1 : Int32))) (lv' := [(3, .int (v3 + (1 : Int32))), (0, .ref (q 1)), (1, .int p1), (2, .int p2)]) hx hb dX2_areJoined_46 hl (k := 3) rfl rfl (by decide) rfl (fun ls hl => ?_)
          refine lv_goto (tgt := 2) hx hb dX2_areJoined_49 (by decide) ?_
          rw [hrc] at hm
          exact ih9 _ hm _ _ _ hC (lv_sub hl [1, 2, 3, 0] rfl) hx44 hx52
        · replace hm := ifp hm c_4
          refine lv_aload_n hx hb dX2_areJoined_30 rfl (lv_at hl 0 rfl) ?_
          refine D2g_4 fx hC k_50 dX2_areJoined_31 ?_
          refine lv_iload_n hx hb dX2_areJoined_34 rfl (lv_at hl 3 rfl) ?_
          have h_5 := (gi_in hm).1
          replace hm := (gi_in hm).2
          refine DLi fx hC Ka4 h_5 dX2_areJoined_35 ?_
          refine lv_iload_n hx hb dX2_areJoined_36 rfl (lv_at hl 1 rfl) ?_
          refine lv_iload_n hx hb dX2_areJoined_37 rfl (lv_at hl 2 rfl) ?_
          refine va_mmax (rest := [.int (τ.2.1 4 (v3).toNatClampNeg)]) hx hb (by rw [hl.1]; exact fx.2.2.1) fx.2.2.2.1 (fx.2.2.2.2.1 _ k_160) (fx.2.2.2.2.1 _ k_161) (fx.2.2.2.2.1 _ k_158) (fx.2.2.2.2.1 _ k_162) (Nat.le_trans (Nat.le_of_ble_eq_true rfl) hR.1) (Nat.le_trans (Nat.le_of_ble_eq_true rfl) hR.2) hf.1 hf.2 dX2_areJoined_38 ?_
          refine lv_icmp_ne (tgt := 46) hx hb dX2_areJoined_41 (by decide) (fun c_6 => ?_) (fun c_6 => ?_)
          · replace hm := ifn hm c_6
            refine lv_iinc (v := (v3 + (1 : Int32))) (lv' := [(3, .int (v3 + (1 : Int32))), (0, .ref (q 1)), (1, .int p1), (2, .int p2)]) hx hb dX2_areJoined_46 hl (k := 3) rfl rfl (by decide) rfl (fun ls hl => ?_)
            refine lv_goto (tgt := 2) hx hb dX2_areJoined_49 (by decide) ?_
            rw [hrc] at hm
            exact ih9 _ hm _ _ _ hC (lv_sub hl [1, 2, 3, 0] rfl) hx44 hx52
          · replace hm := ifp hm c_6
            exact hx44 _ _ _ hm hC (lv_sub hl [] rfl)
set_option maxRecDepth 100000 in
set_option maxHeartbeats 4000000 in
theorem D2c_areJoined (l : Launch) {D : va_G} {cy : Nat → ClassId} {ad : List Nat} {q : Nat → Nat} {X : va_W} (τ : DS) (a1 : Int32) (a2 : Int32) {o : Int32} (hm : D2m_areJoined τ a1 a2 = some o) : DM l yX2_areJoined cX2_areJoined 4 (some .boolean) D2rm_areJoined D cy (dwd cy q X) ad [.ref (q 1), .int a1, .int a2] τ (some (.int (o))) τ := by
  refine d_start RX2 rfl (by decide) (Nat.le_of_ble_eq_true rfl) ?_
  intro p e s m args below meth c fx sx hr hC ls hl
  have hx := fx.1
  have hb := fx.2.1
  have hR : 1 ≤ (D2rm_areJoined).frames ∧ 40 ≤ (D2rm_areJoined).locals := ⟨Nat.le_refl _, Nat.le_refl _⟩
  have hf : 0 ≤ (D2rm_areJoined).cells ∧ 0 ≤ (D2rm_areJoined).slots := ⟨Nat.zero_le _, Nat.zero_le _⟩
  have hl : lv_has ls 4 [(0, .ref (q 1)), (1, .int a1), (2, .int a2)] := hl
  unfold D2m_areJoined at hm
  refine lv_iconst (v := (0 : Int32)) hx hb dX2_areJoined_0 (by decide) ?_
  refine lv_istore_n (lv' := [(3, .int (0 : Int32)), (0, .ref (q 1)), (1, .int a1), (2, .int a2)]) hx hb dX2_areJoined_1 rfl hl (by decide) rfl (fun ls hl => ?_)
  refine D2w_areJoined_2 τ fx sx hR hf a1 a2 fuel (0 : Int32) hm _ _ _ hC (lv_sub hl [1, 2, 3, 0] rfl) (fun  H locs ls hm hC hl => ?_) (fun  H locs ls hm hC hl => ?_)
  · refine lv_iconst (v := (1 : Int32)) hx hb dX2_areJoined_44 (by decide) ?_
    cases hm
    exact g_zret fx hr rfl hC rfl dX2_areJoined_45
  · refine lv_iconst (v := (0 : Int32)) hx hb dX2_areJoined_52 (by decide) ?_
    cases hm
    exact g_zret fx hr rfl hC rfl dX2_areJoined_53
def D2m_addRoad (τ : DS) (a1 : Int32) (a2 : Int32) (a3 : Int32) : Option (Int32 × DS) :=
  if (τ.1 1 1) < (0 : Int32) then (some ((-4 : Int32), τ)) else (if (τ.1 1 1) < (12 : Int32) then (gi (τ.1 1 1) 12 (nm (dA τ 3 ((τ.1 1 1)).toNatClampNeg (if a2 < a1 then a2 else a1)) (fun τ_4 => gi (τ_4.1 1 1) 12 (nm (dA τ_4 4 ((τ_4.1 1 1)).toNatClampNeg (if a1 < a2 then a2 else a1)) (fun τ_7 => gi (τ_7.1 1 1) 12 (nm (dA τ_7 5 ((τ_7.1 1 1)).toNatClampNeg a3) (fun τ_10 => gi (τ_10.1 1 1) 12 (nm (dA τ_10 6 ((τ_10.1 1 1)).toNatClampNeg (4 : Int32)) (fun τ_13 => nm (dS τ_13 1 1 ((τ_13.1 1 1) + (1 : Int32))) (fun τ_15 => some (((τ_15.1 1 1) - (1 : Int32)), τ_15))))))))))) else (some ((-4 : Int32), τ)))
abbrev D2rm_addRoad : Room := { frames := 1, cells := 0, slots := 0, locals := 40 }
set_option maxRecDepth 100000 in
set_option maxHeartbeats 4000000 in
theorem D2c_addRoad (l : Launch) {D : va_G} {cy : Nat → ClassId} {ad : List Nat} {q : Nat → Nat} {X : va_W} (τ : DS) (a1 : Int32) (a2 : Int32) (a3 : Int32) {o : Int32 × DS} (hm : D2m_addRoad τ a1 a2 a3 = some o) : DM l yX2_addRoad cX2_addRoad 4 (some .int) D2rm_addRoad D cy (dwd cy q X) ad [.ref (q 1), .int a1, .int a2, .int a3] τ (some (.int (o.1))) o.2 := by
  refine d_start RX2 rfl (by decide) (Nat.le_of_ble_eq_true rfl) ?_
  intro p e s m args below meth c fx sx hr hC ls hl
  have hx := fx.1
  have hb := fx.2.1
  have hR : 1 ≤ (D2rm_addRoad).frames ∧ 40 ≤ (D2rm_addRoad).locals := ⟨Nat.le_refl _, Nat.le_refl _⟩
  have hf : 0 ≤ (D2rm_addRoad).cells ∧ 0 ≤ (D2rm_addRoad).slots := ⟨Nat.zero_le _, Nat.zero_le _⟩
  have hl : lv_has ls 4 [(0, .ref (q 1)), (1, .int a1), (2, .int a2), (3, .int a3)] := hl
  unfold D2m_addRoad at hm
  refine lv_aload_n hx hb dX2_addRoad_0 rfl (lv_at hl 0 rfl) ?_
  refine D2g_1 fx hC k_155 dX2_addRoad_1 ?_
  refine lv_if_lt (tgt := 16) hx hb dX2_addRoad_4 (by decide) (fun c_1 => ?_) (fun c_1 => ?_)
  · replace hm := ifp hm c_1
    refine lv_bipush (v := (-4 : Int32)) hx hb dX2_addRoad_16 (by decide) ?_
    cases hm
    exact g_iret fx hr hC rfl dX2_addRoad_18
  · replace hm := ifn hm c_1
    refine lv_aload_n hx hb dX2_addRoad_7 rfl (lv_at hl 0 rfl) ?_
    refine D2g_1 fx hC k_155 dX2_addRoad_8 ?_
    refine lv_bipush (v := (12 : Int32)) hx hb dX2_addRoad_11 (by decide) ?_
    refine lv_icmp_lt (tgt := 19) hx hb dX2_addRoad_13 (by decide) (fun c_2 => ?_) (fun c_2 => ?_)
    · replace hm := ifp hm c_2
      refine lv_aload_n hx hb dX2_addRoad_19 rfl (lv_at hl 0 rfl) ?_
      refine D2g_3 fx hC k_49 dX2_addRoad_20 ?_
      refine lv_aload_n hx hb dX2_addRoad_23 rfl (lv_at hl 0 rfl) ?_
      refine D2g_1 fx hC k_155 dX2_addRoad_24 ?_
      refine lv_iload_n hx hb dX2_addRoad_27 rfl (lv_at hl 1 rfl) ?_
      refine lv_iload_n hx hb dX2_addRoad_28 rfl (lv_at hl 2 rfl) ?_
      refine va_mmin (rest := [.int (τ.1 1 1), .ref (q 3)]) hx hb (by rw [hl.1]; exact fx.2.2.1) fx.2.2.2.1 (fx.2.2.2.2.1 _ k_156) (fx.2.2.2.2.1 _ k_157) (fx.2.2.2.2.1 _ k_158) (fx.2.2.2.2.1 _ k_159) (Nat.le_trans (Nat.le_of_ble_eq_true rfl) hR.1) (Nat.le_trans (Nat.le_of_ble_eq_true rfl) hR.2) hf.1 hf.2 dX2_addRoad_29 ?_
      have h_3 := (gi_in hm).1
      replace hm := (gi_in hm).2
      refine DSi fx hC Ka3 h_3 dX2_addRoad_32 (fun H locs hC => ?_)
      obtain ⟨τ_4, e_5⟩ : ∃ z, z = (dA τ 3 ((τ.1 1 1)).toNatClampNeg (if a2 < a1 then a2 else a1)) := ⟨_, rfl⟩
      rw [← e_5] at hC
      replace hm := nm_in hm e_5
      refine lv_aload_n hx hb dX2_addRoad_33 rfl (lv_at hl 0 rfl) ?_
      refine D2g_4 fx hC k_50 dX2_addRoad_34 ?_
      refine lv_aload_n hx hb dX2_addRoad_37 rfl (lv_at hl 0 rfl) ?_
      refine D2g_1 fx hC k_155 dX2_addRoad_38 ?_
      refine lv_iload_n hx hb dX2_addRoad_41 rfl (lv_at hl 1 rfl) ?_
      refine lv_iload_n hx hb dX2_addRoad_42 rfl (lv_at hl 2 rfl) ?_
      refine va_mmax (rest := [.int (τ_4.1 1 1), .ref (q 4)]) hx hb (by rw [hl.1]; exact fx.2.2.1) fx.2.2.2.1 (fx.2.2.2.2.1 _ k_160) (fx.2.2.2.2.1 _ k_161) (fx.2.2.2.2.1 _ k_158) (fx.2.2.2.2.1 _ k_162) (Nat.le_trans (Nat.le_of_ble_eq_true rfl) hR.1) (Nat.le_trans (Nat.le_of_ble_eq_true rfl) hR.2) hf.1 hf.2 dX2_addRoad_43 ?_
      have h_6 := (gi_in hm).1
      replace hm := (gi_in hm).2
      refine DSi fx hC Ka4 h_6 dX2_addRoad_46 (fun H locs hC => ?_)
      obtain ⟨τ_7, e_8⟩ : ∃ z, z = (dA τ_4 4 ((τ_4.1 1 1)).toNatClampNeg (if a1 < a2 then a2 else a1)) := ⟨_, rfl⟩
      rw [← e_8] at hC
      replace hm := nm_in hm e_8
      refine lv_aload_n hx hb dX2_addRoad_47 rfl (lv_at hl 0 rfl) ?_
      refine D2g_5 fx hC k_51 dX2_addRoad_48 ?_
      refine lv_aload_n hx hb dX2_addRoad_51 rfl (lv_at hl 0 rfl) ?_
      refine D2g_1 fx hC k_155 dX2_addRoad_52 ?_
      refine lv_iload_n hx hb dX2_addRoad_55 rfl (lv_at hl 3 rfl) ?_
      have h_9 := (gi_in hm).1
      replace hm := (gi_in hm).2
      refine DSi fx hC Ka5 h_9 dX2_addRoad_56 (fun H locs hC => ?_)
      obtain ⟨τ_10, e_11⟩ : ∃ z, z = (dA τ_7 5 ((τ_7.1 1 1)).toNatClampNeg a3) := ⟨_, rfl⟩
      rw [← e_11] at hC
      replace hm := nm_in hm e_11
      refine lv_aload_n hx hb dX2_addRoad_57 rfl (lv_at hl 0 rfl) ?_
      refine D2g_6 fx hC k_52 dX2_addRoad_58 ?_
      refine lv_aload_n hx hb dX2_addRoad_61 rfl (lv_at hl 0 rfl) ?_
      refine D2g_1 fx hC k_155 dX2_addRoad_62 ?_
      refine lv_iconst (v := (4 : Int32)) hx hb dX2_addRoad_65 (by decide) ?_
      have h_12 := (gi_in hm).1
      replace hm := (gi_in hm).2
      refine DSi fx hC Ka6 h_12 dX2_addRoad_66 (fun H locs hC => ?_)
      obtain ⟨τ_13, e_14⟩ : ∃ z, z = (dA τ_10 6 ((τ_10.1 1 1)).toNatClampNeg (4 : Int32)) := ⟨_, rfl⟩
      rw [← e_14] at hC
      replace hm := nm_in hm e_14
      refine lv_aload_n hx hb dX2_addRoad_67 rfl (lv_at hl 0 rfl) ?_
      refine lv_dup hx hb dX2_addRoad_68 rfl ?_
      refine D2g_1 fx hC k_155 dX2_addRoad_69 ?_
      refine lv_iconst (v := (1 : Int32)) hx hb dX2_addRoad_72 (by decide) ?_
      refine lv_iadd hx hb dX2_addRoad_73 ?_
      refine D2p_1 fx hC k_155 dX2_addRoad_74 (fun H locs hC => ?_)
      obtain ⟨τ_15, e_16⟩ : ∃ z, z = (dS τ_13 1 1 ((τ_13.1 1 1) + (1 : Int32))) := ⟨_, rfl⟩
      rw [← e_16] at hC
      replace hm := nm_in hm e_16
      refine lv_aload_n hx hb dX2_addRoad_77 rfl (lv_at hl 0 rfl) ?_
      refine D2g_1 fx hC k_155 dX2_addRoad_78 ?_
      refine lv_iconst (v := (1 : Int32)) hx hb dX2_addRoad_81 (by decide) ?_
      refine lv_isub hx hb dX2_addRoad_82 ?_
      cases hm
      exact g_iret fx hr hC rfl dX2_addRoad_83
    · replace hm := ifn hm c_2
      refine lv_bipush (v := (-4 : Int32)) hx hb dX2_addRoad_16 (by decide) ?_
      cases hm
      exact g_iret fx hr hC rfl dX2_addRoad_18
def D2m_loseRoad (τ : DS) : Option (Int32 × DS) :=
  nm (dS τ 1 1 ((τ.1 1 1) - (1 : Int32))) (fun τ_1 => some ((τ_1.1 1 1), τ_1))
abbrev D2rm_loseRoad : Room := { frames := 0, cells := 0, slots := 0, locals := 0 }
set_option maxRecDepth 100000 in
set_option maxHeartbeats 4000000 in
theorem D2c_loseRoad (l : Launch) {D : va_G} {cy : Nat → ClassId} {ad : List Nat} {q : Nat → Nat} {X : va_W} (τ : DS) {o : Int32 × DS} (hm : D2m_loseRoad τ = some o) : DM l yX2_loseRoad cX2_loseRoad 1 (some .int) D2rm_loseRoad D cy (dwd cy q X) ad [.ref (q 1)] τ (some (.int (o.1))) o.2 := by
  refine d_start RX2 rfl (by decide) (Nat.le_of_ble_eq_true rfl) ?_
  intro p e s m args below meth c fx sx hr hC ls hl
  have hx := fx.1
  have hb := fx.2.1
  have hR : 0 ≤ (D2rm_loseRoad).frames ∧ 0 ≤ (D2rm_loseRoad).locals := ⟨Nat.le_refl _, Nat.le_refl _⟩
  have hf : 0 ≤ (D2rm_loseRoad).cells ∧ 0 ≤ (D2rm_loseRoad).slots := ⟨Nat.zero_le _, Nat.zero_le _⟩
  have hl : lv_has ls 1 [(0, .ref (q 1))] := hl
  unfold D2m_loseRoad at hm
  refine lv_aload_n hx hb dX2_loseRoad_0 rfl (lv_at hl 0 rfl) ?_
  refine lv_dup hx hb dX2_loseRoad_1 rfl ?_
  refine D2g_1 fx hC k_155 dX2_loseRoad_2 ?_
  refine lv_iconst (v := (1 : Int32)) hx hb dX2_loseRoad_5 (by decide) ?_
  refine lv_isub hx hb dX2_loseRoad_6 ?_
  refine D2p_1 fx hC k_155 dX2_loseRoad_7 (fun H locs hC => ?_)
  obtain ⟨τ_1, e_2⟩ : ∃ z, z = (dS τ 1 1 ((τ.1 1 1) - (1 : Int32))) := ⟨_, rfl⟩
  rw [← e_2] at hC
  replace hm := nm_in hm e_2
  refine lv_aload_n hx hb dX2_loseRoad_10 rfl (lv_at hl 0 rfl) ?_
  refine D2g_1 fx hC k_155 dX2_loseRoad_11 ?_
  cases hm
  exact g_iret fx hr hC rfl dX2_loseRoad_14
def D2m_weightOf (τ : DS) (a1 : Int32) : Option Int32 :=
  if (D2m_isRoad τ a1) = (0 : Int32) then (some (0 : Int32)) else (gi a1 12 (some (τ.2.1 5 (a1).toNatClampNeg)))
abbrev D2rm_weightOf : Room := { frames := 1, cells := 0, slots := 0, locals := 21 }
set_option maxRecDepth 100000 in
set_option maxHeartbeats 4000000 in
theorem D2c_weightOf (l : Launch) {D : va_G} {cy : Nat → ClassId} {ad : List Nat} {q : Nat → Nat} {X : va_W} (τ : DS) (a1 : Int32) {o : Int32} (hm : D2m_weightOf τ a1 = some o) : DM l yX2_weightOf cX2_weightOf 2 (some .int) D2rm_weightOf D cy (dwd cy q X) ad [.ref (q 1), .int a1] τ (some (.int (o))) τ := by
  refine d_start RX2 rfl (by decide) (Nat.le_of_ble_eq_true rfl) ?_
  intro p e s m args below meth c fx sx hr hC ls hl
  have hx := fx.1
  have hb := fx.2.1
  have hR : 1 ≤ (D2rm_weightOf).frames ∧ 21 ≤ (D2rm_weightOf).locals := ⟨Nat.le_refl _, Nat.le_refl _⟩
  have hf : 0 ≤ (D2rm_weightOf).cells ∧ 0 ≤ (D2rm_weightOf).slots := ⟨Nat.zero_le _, Nat.zero_le _⟩
  have hl : lv_has ls 2 [(0, .ref (q 1)), (1, .int a1)] := hl
  unfold D2m_weightOf at hm
  refine lv_aload_n hx hb dX2_weightOf_0 rfl (lv_at hl 0 rfl) ?_
  refine lv_iload_n hx hb dX2_weightOf_1 rfl (lv_at hl 1 rfl) ?_
  refine d_callVi (ci := 2) (As := [.int a1]) (rest := []) fx sx hC dw_w (D2c_isRoad l τ a1) k_303 D2k_isRoad D2h_isRoad rfl rfl (O_at O2) ⟨rfl, rfl⟩ ⟨Nat.le_trans (Nat.le_of_ble_eq_true rfl) hR.1, Nat.le_trans (Nat.le_of_ble_eq_true rfl) hR.2⟩ hf rfl hl.1 rfl (Nat.le_of_ble_eq_true rfl) dX2_weightOf_2 (fun H locs hC => ?_)
  refine lv_if_eq (tgt := 17) hx hb dX2_weightOf_5 (by decide) (fun c_1 => ?_) (fun c_1 => ?_)
  · replace hm := ifp hm c_1
    refine lv_iconst (v := (0 : Int32)) hx hb dX2_weightOf_17 (by decide) ?_
    cases hm
    exact g_iret fx hr hC rfl dX2_weightOf_18
  · replace hm := ifn hm c_1
    refine lv_aload_n hx hb dX2_weightOf_8 rfl (lv_at hl 0 rfl) ?_
    refine D2g_5 fx hC k_51 dX2_weightOf_9 ?_
    refine lv_iload_n hx hb dX2_weightOf_12 rfl (lv_at hl 1 rfl) ?_
    have h_2 := (gi_in hm).1
    replace hm := (gi_in hm).2
    refine DLi fx hC Ka5 h_2 dX2_weightOf_13 ?_
    refine lv_goto (tgt := 18) hx hb dX2_weightOf_14 (by decide) ?_
    cases hm
    exact g_iret fx hr hC rfl dX2_weightOf_18
def D2m_eighthsOf (τ : DS) (a1 : Int32) : Option Int32 :=
  if (D2m_isRoad τ a1) = (0 : Int32) then (some (0 : Int32)) else (gi a1 12 (some (τ.2.1 6 (a1).toNatClampNeg)))
abbrev D2rm_eighthsOf : Room := { frames := 1, cells := 0, slots := 0, locals := 21 }
set_option maxRecDepth 100000 in
set_option maxHeartbeats 4000000 in
theorem D2c_eighthsOf (l : Launch) {D : va_G} {cy : Nat → ClassId} {ad : List Nat} {q : Nat → Nat} {X : va_W} (τ : DS) (a1 : Int32) {o : Int32} (hm : D2m_eighthsOf τ a1 = some o) : DM l yX2_eighthsOf cX2_eighthsOf 2 (some .int) D2rm_eighthsOf D cy (dwd cy q X) ad [.ref (q 1), .int a1] τ (some (.int (o))) τ := by
  refine d_start RX2 rfl (by decide) (Nat.le_of_ble_eq_true rfl) ?_
  intro p e s m args below meth c fx sx hr hC ls hl
  have hx := fx.1
  have hb := fx.2.1
  have hR : 1 ≤ (D2rm_eighthsOf).frames ∧ 21 ≤ (D2rm_eighthsOf).locals := ⟨Nat.le_refl _, Nat.le_refl _⟩
  have hf : 0 ≤ (D2rm_eighthsOf).cells ∧ 0 ≤ (D2rm_eighthsOf).slots := ⟨Nat.zero_le _, Nat.zero_le _⟩
  have hl : lv_has ls 2 [(0, .ref (q 1)), (1, .int a1)] := hl
  unfold D2m_eighthsOf at hm
  refine lv_aload_n hx hb dX2_eighthsOf_0 rfl (lv_at hl 0 rfl) ?_
  refine lv_iload_n hx hb dX2_eighthsOf_1 rfl (lv_at hl 1 rfl) ?_
  refine d_callVi (ci := 2) (As := [.int a1]) (rest := []) fx sx hC dw_w (D2c_isRoad l τ a1) k_303 D2k_isRoad D2h_isRoad rfl rfl (O_at O2) ⟨rfl, rfl⟩ ⟨Nat.le_trans (Nat.le_of_ble_eq_true rfl) hR.1, Nat.le_trans (Nat.le_of_ble_eq_true rfl) hR.2⟩ hf rfl hl.1 rfl (Nat.le_of_ble_eq_true rfl) dX2_eighthsOf_2 (fun H locs hC => ?_)
  refine lv_if_eq (tgt := 17) hx hb dX2_eighthsOf_5 (by decide) (fun c_1 => ?_) (fun c_1 => ?_)
  · replace hm := ifp hm c_1
    refine lv_iconst (v := (0 : Int32)) hx hb dX2_eighthsOf_17 (by decide) ?_
    cases hm
    exact g_iret fx hr hC rfl dX2_eighthsOf_18
  · replace hm := ifn hm c_1
    refine lv_aload_n hx hb dX2_eighthsOf_8 rfl (lv_at hl 0 rfl) ?_
    refine D2g_6 fx hC k_52 dX2_eighthsOf_9 ?_
    refine lv_iload_n hx hb dX2_eighthsOf_12 rfl (lv_at hl 1 rfl) ?_
    have h_2 := (gi_in hm).1
    replace hm := (gi_in hm).2
    refine DLi fx hC Ka6 h_2 dX2_eighthsOf_13 ?_
    refine lv_goto (tgt := 18) hx hb dX2_eighthsOf_14 (by decide) ?_
    cases hm
    exact g_iret fx hr hC rfl dX2_eighthsOf_18
def D2m_beyond (τ : DS) (a1 : Int32) (a2 : Int32) : Option Int32 :=
  if (D2m_isRoad τ a1) = (0 : Int32) then (some (-1 : Int32)) else (gi a1 12 (if (τ.2.1 3 (a1).toNatClampNeg) = a2 then (gi a1 12 (some (τ.2.1 4 (a1).toNatClampNeg))) else (gi a1 12 (if (τ.2.1 4 (a1).toNatClampNeg) = a2 then (gi a1 12 (some (τ.2.1 3 (a1).toNatClampNeg))) else (some (-1 : Int32))))))
abbrev D2rm_beyond : Room := { frames := 1, cells := 0, slots := 0, locals := 21 }
set_option maxRecDepth 100000 in
set_option maxHeartbeats 4000000 in
theorem D2c_beyond (l : Launch) {D : va_G} {cy : Nat → ClassId} {ad : List Nat} {q : Nat → Nat} {X : va_W} (τ : DS) (a1 : Int32) (a2 : Int32) {o : Int32} (hm : D2m_beyond τ a1 a2 = some o) : DM l yX2_beyond cX2_beyond 3 (some .int) D2rm_beyond D cy (dwd cy q X) ad [.ref (q 1), .int a1, .int a2] τ (some (.int (o))) τ := by
  refine d_start RX2 rfl (by decide) (Nat.le_of_ble_eq_true rfl) ?_
  intro p e s m args below meth c fx sx hr hC ls hl
  have hx := fx.1
  have hb := fx.2.1
  have hR : 1 ≤ (D2rm_beyond).frames ∧ 21 ≤ (D2rm_beyond).locals := ⟨Nat.le_refl _, Nat.le_refl _⟩
  have hf : 0 ≤ (D2rm_beyond).cells ∧ 0 ≤ (D2rm_beyond).slots := ⟨Nat.zero_le _, Nat.zero_le _⟩
  have hl : lv_has ls 3 [(0, .ref (q 1)), (1, .int a1), (2, .int a2)] := hl
  unfold D2m_beyond at hm
  refine lv_aload_n hx hb dX2_beyond_0 rfl (lv_at hl 0 rfl) ?_
  refine lv_iload_n hx hb dX2_beyond_1 rfl (lv_at hl 1 rfl) ?_
  refine d_callVi (ci := 2) (As := [.int a1]) (rest := []) fx sx hC dw_w (D2c_isRoad l τ a1) k_303 D2k_isRoad D2h_isRoad rfl rfl (O_at O2) ⟨rfl, rfl⟩ ⟨Nat.le_trans (Nat.le_of_ble_eq_true rfl) hR.1, Nat.le_trans (Nat.le_of_ble_eq_true rfl) hR.2⟩ hf rfl hl.1 rfl (Nat.le_of_ble_eq_true rfl) dX2_beyond_2 (fun H locs hC => ?_)
  refine lv_if_ne (tgt := 10) hx hb dX2_beyond_5 (by decide) (fun c_1 => ?_) (fun c_1 => ?_)
  · replace hm := ifn hm c_1
    refine lv_aload_n hx hb dX2_beyond_10 rfl (lv_at hl 0 rfl) ?_
    refine D2g_3 fx hC k_49 dX2_beyond_11 ?_
    refine lv_iload_n hx hb dX2_beyond_14 rfl (lv_at hl 1 rfl) ?_
    have h_2 := (gi_in hm).1
    replace hm := (gi_in hm).2
    refine DLi fx hC Ka3 h_2 dX2_beyond_15 ?_
    refine lv_iload_n hx hb dX2_beyond_16 rfl (lv_at hl 2 rfl) ?_
    refine lv_icmp_ne (tgt := 27) hx hb dX2_beyond_17 (by decide) (fun c_3 => ?_) (fun c_3 => ?_)
    · replace hm := ifn hm c_3
      refine lv_aload_n hx hb dX2_beyond_27 rfl (lv_at hl 0 rfl) ?_
      refine D2g_4 fx hC k_50 dX2_beyond_28 ?_
      refine lv_iload_n hx hb dX2_beyond_31 rfl (lv_at hl 1 rfl) ?_
      have h_4 := (gi_in hm).1
      replace hm := (gi_in hm).2
      refine DLi fx hC Ka4 h_4 dX2_beyond_32 ?_
      refine lv_iload_n hx hb dX2_beyond_33 rfl (lv_at hl 2 rfl) ?_
      refine lv_icmp_ne (tgt := 46) hx hb dX2_beyond_34 (by decide) (fun c_5 => ?_) (fun c_5 => ?_)
      · replace hm := ifn hm c_5
        refine lv_iconst (v := (-1 : Int32)) hx hb dX2_beyond_46 (by decide) ?_
        cases hm
        exact g_iret fx hr hC rfl dX2_beyond_47
      · replace hm := ifp hm c_5
        refine lv_aload_n hx hb dX2_beyond_37 rfl (lv_at hl 0 rfl) ?_
        refine D2g_3 fx hC k_49 dX2_beyond_38 ?_
        refine lv_iload_n hx hb dX2_beyond_41 rfl (lv_at hl 1 rfl) ?_
        have h_6 := (gi_in hm).1
        replace hm := (gi_in hm).2
        refine DLi fx hC Ka3 h_6 dX2_beyond_42 ?_
        refine lv_goto (tgt := 47) hx hb dX2_beyond_43 (by decide) ?_
        cases hm
        exact g_iret fx hr hC rfl dX2_beyond_47
    · replace hm := ifp hm c_3
      refine lv_aload_n hx hb dX2_beyond_20 rfl (lv_at hl 0 rfl) ?_
      refine D2g_4 fx hC k_50 dX2_beyond_21 ?_
      refine lv_iload_n hx hb dX2_beyond_24 rfl (lv_at hl 1 rfl) ?_
      have h_7 := (gi_in hm).1
      replace hm := (gi_in hm).2
      refine DLi fx hC Ka4 h_7 dX2_beyond_25 ?_
      cases hm
      exact g_iret fx hr hC rfl dX2_beyond_26
  · replace hm := ifp hm c_1
    refine lv_iconst (v := (-1 : Int32)) hx hb dX2_beyond_8 (by decide) ?_
    cases hm
    exact g_iret fx hr hC rfl dX2_beyond_9
def D2m_placeOf (a1 : Int32) : Int32 :=
  ((2048 : Int32) >>> (a1 &&& 31))
abbrev D2rm_placeOf : Room := { frames := 0, cells := 0, slots := 0, locals := 0 }
set_option maxRecDepth 100000 in
set_option maxHeartbeats 4000000 in
theorem D2c_placeOf (l : Launch) {D : va_G} {cy : Nat → ClassId} {ad : List Nat} {q : Nat → Nat} {X : va_W} (τ : DS) (a1 : Int32) : DM l yX2_placeOf cX2_placeOf 1 (some .int) D2rm_placeOf D cy (dwd cy q X) ad [.int a1] τ (some (.int (D2m_placeOf a1))) τ := by
  refine d_start RX2 rfl (by decide) (Nat.le_of_ble_eq_true rfl) ?_
  intro p e s m args below meth c fx sx hr hC ls hl
  have hx := fx.1
  have hb := fx.2.1
  have hR : 0 ≤ (D2rm_placeOf).frames ∧ 0 ≤ (D2rm_placeOf).locals := ⟨Nat.le_refl _, Nat.le_refl _⟩
  have hf : 0 ≤ (D2rm_placeOf).cells ∧ 0 ≤ (D2rm_placeOf).slots := ⟨Nat.zero_le _, Nat.zero_le _⟩
  have hl : lv_has ls 1 [(0, .int a1)] := hl
  obtain ⟨o, hm⟩ : ∃ z, z = D2m_placeOf a1 := ⟨_, rfl⟩
  rw [← hm]
  replace hm := hm.symm
  unfold D2m_placeOf at hm
  refine lv_sipush (v := (2048 : Int32)) hx hb dX2_placeOf_0 (by decide) ?_
  refine lv_iload_n hx hb dX2_placeOf_3 rfl (lv_at hl 0 rfl) ?_
  refine lv_ishr hx hb dX2_placeOf_4 ?_
  exact g_iret fx hr hC (by rw [← hm]) dX2_placeOf_5
def D2s_roadsAt_4 {ρ : Type} (p1 : Int32) (τ : DS) (kx35 : Int32 → Option ρ) (rc : Int32 → Int32 → Option ρ) (v2 : Int32) (v3 : Int32) : Option ρ :=
  if (τ.1 1 1) ≤ v3 then (kx35 v2) else (b1 (D2m_beyond τ v3 p1) (fun r_3 => if r_3 = (-1 : Int32) then (rc v2 (v3 + (1 : Int32))) else (rc (v2 ||| (D2m_placeOf v3)) (v3 + (1 : Int32)))))
def D2m_roadsAt (τ : DS) (a1 : Int32) : Option Int32 :=
  it2 (D2s_roadsAt_4 a1 τ (fun u_5 => some u_5)) fuel (0 : Int32) (0 : Int32)
abbrev D2rm_roadsAt : Room := { frames := 2, cells := 0, slots := 0, locals := 43 }
set_option maxRecDepth 100000 in
set_option maxHeartbeats 4000000 in
theorem D2w_roadsAt_4 {ρ : Type} {out : ρ} {p : Program} {l : Launch} {e : Env} {R : Room} {s : State} {m : MethodId} {args : Array Value} {below : List Frame} {meth : Method} {c : Code} {cells slots : Nat} {Q : State → Prop} {D : va_G} {cy : Nat → ClassId} {ad : List Nat} {q : Nat → Nat} {X : va_W} (τ : DS) (fx : FX p s m args meth c cX2_roadsAt 4 RX2 D cy) (sx : SX ad s) (hR : 2 ≤ R.frames ∧ 43 ≤ R.locals) (hf : cells ≤ R.cells ∧ slots ≤ R.slots) (p1 : Int32) {kx35 : Int32 → Option ρ} :
    ∀ (n : Nat) (v2 : Int32) (v3 : Int32), it2 (D2s_roadsAt_4 p1 τ kx35) n v2 v3 = some out → ∀ (H : Heap) (locs : List Loc) (ls : Array Slot), GC D (dwd cy q X) ad s τ H locs → lv_has ls 4 [(0, .ref (q 1)), (1, .int p1), (2, .int v2), (3, .int v3)] → (∀ (u2 : Int32) (H : Heap) (locs : List Loc) (ls : Array Slot), kx35 u2 = some out → GC D (dwd cy q X) ad s τ H locs → lv_has ls 4 [(2, .int u2)] → W p l e R s m args below meth c H locs cells slots Q (F0 m 35 ls [])) → W p l e R s m args below meth c H locs cells slots Q (F0 m 4 ls []) := by
  have hx := fx.1
  have hb := fx.2.1
  intro n
  induction n with
  | zero => intro v2 v3 hm; exact (it2_z hm).elim
  | succ n ih9 =>
    intro v2 v3 hm H locs ls hC hl hx35
    obtain ⟨rc, hrc⟩ : ∃ z, z = it2 (D2s_roadsAt_4 p1 τ kx35) n := ⟨_, rfl⟩
    replace hm : D2s_roadsAt_4 p1 τ kx35 rc v2 v3 = some out := by rw [hrc]; exact hm
    unfold D2s_roadsAt_4 at hm
    refine lv_iload_n hx hb dX2_roadsAt_4 rfl (lv_at hl 3 rfl) ?_
    refine lv_aload_n hx hb dX2_roadsAt_5 rfl (lv_at hl 0 rfl) ?_
    refine D2g_1 fx hC k_155 dX2_roadsAt_6 ?_
    refine lv_icmp_ge (tgt := 35) hx hb dX2_roadsAt_9 (by decide) (fun c_1 => ?_) (fun c_1 => ?_)
    · replace hm := ifp hm c_1
      exact hx35 _ _ _ _ hm hC (lv_sub hl [2] rfl)
    · replace hm := ifn hm c_1
      refine lv_aload_n hx hb dX2_roadsAt_12 rfl (lv_at hl 0 rfl) ?_
      refine lv_iload_n hx hb dX2_roadsAt_13 rfl (lv_at hl 3 rfl) ?_
      refine lv_iload_n hx hb dX2_roadsAt_14 rfl (lv_at hl 1 rfl) ?_
      obtain ⟨r_3, e_2, hm⟩ := b1_in hm
      refine d_callVi (ci := 2) (As := [.int v3, .int p1]) (rest := []) fx sx hC dw_w (D2c_beyond l τ v3 p1 e_2) k_438 D2k_beyond D2h_beyond rfl rfl (O_at O2) ⟨rfl, rfl⟩ ⟨Nat.le_trans (Nat.le_of_ble_eq_true rfl) hR.1, Nat.le_trans (Nat.le_of_ble_eq_true rfl) hR.2⟩ hf rfl hl.1 rfl (Nat.le_of_ble_eq_true rfl) dX2_roadsAt_15 (fun H locs hC => ?_)
      refine lv_iconst (v := (-1 : Int32)) hx hb dX2_roadsAt_18 (by decide) ?_
      refine lv_icmp_eq (tgt := 29) hx hb dX2_roadsAt_19 (by decide) (fun c_4 => ?_) (fun c_4 => ?_)
      · replace hm := ifp hm c_4
        refine lv_iinc (v := (v3 + (1 : Int32))) (lv' := [(3, .int (v3 + (1 : Int32))), (0, .ref (q 1)), (1, .int p1), (2, .int v2)]) hx hb dX2_roadsAt_29 hl (k := 3) rfl rfl (by decide) rfl (fun ls hl => ?_)
        refine lv_goto (tgt := 4) hx hb dX2_roadsAt_32 (by decide) ?_
        rw [hrc] at hm
        exact ih9 _ _ hm _ _ _ hC (lv_sub hl [1, 2, 3, 0] rfl) hx35
      · replace hm := ifn hm c_4
        refine lv_iload_n hx hb dX2_roadsAt_22 rfl (lv_at hl 2 rfl) ?_
        refine lv_iload_n hx hb dX2_roadsAt_23 rfl (lv_at hl 3 rfl) ?_
        refine d_callSi (As := [.int v3]) (rest := [.int v2]) fx sx hC dw_w (D2c_placeOf l τ v3) k_439 D2k_placeOf D2h_placeOf ⟨rfl, rfl⟩ ⟨Nat.le_trans (Nat.le_of_ble_eq_true rfl) hR.1, Nat.le_trans (Nat.le_of_ble_eq_true rfl) hR.2⟩ hf rfl hl.1 rfl (Nat.le_of_ble_eq_true rfl) dX2_roadsAt_24 (fun H locs hC => ?_)
        refine lv_ior hx hb dX2_roadsAt_27 ?_
        refine lv_istore_n (lv' := [(2, .int (v2 ||| (D2m_placeOf v3))), (0, .ref (q 1)), (1, .int p1), (3, .int v3)]) hx hb dX2_roadsAt_28 rfl hl (by decide) rfl (fun ls hl => ?_)
        refine lv_iinc (v := (v3 + (1 : Int32))) (lv' := [(3, .int (v3 + (1 : Int32))), (2, .int (v2 ||| (D2m_placeOf v3))), (0, .ref (q 1)), (1, .int p1)]) hx hb dX2_roadsAt_29 hl (k := 3) rfl rfl (by decide) rfl (fun ls hl => ?_)
        refine lv_goto (tgt := 4) hx hb dX2_roadsAt_32 (by decide) ?_
        rw [hrc] at hm
        exact ih9 _ _ hm _ _ _ hC (lv_sub hl [2, 3, 1, 0] rfl) hx35
set_option maxRecDepth 100000 in
set_option maxHeartbeats 4000000 in
theorem D2c_roadsAt (l : Launch) {D : va_G} {cy : Nat → ClassId} {ad : List Nat} {q : Nat → Nat} {X : va_W} (τ : DS) (a1 : Int32) {o : Int32} (hm : D2m_roadsAt τ a1 = some o) : DM l yX2_roadsAt cX2_roadsAt 4 (some .int) D2rm_roadsAt D cy (dwd cy q X) ad [.ref (q 1), .int a1] τ (some (.int (o))) τ := by
  refine d_start RX2 rfl (by decide) (Nat.le_of_ble_eq_true rfl) ?_
  intro p e s m args below meth c fx sx hr hC ls hl
  have hx := fx.1
  have hb := fx.2.1
  have hR : 2 ≤ (D2rm_roadsAt).frames ∧ 43 ≤ (D2rm_roadsAt).locals := ⟨Nat.le_refl _, Nat.le_refl _⟩
  have hf : 0 ≤ (D2rm_roadsAt).cells ∧ 0 ≤ (D2rm_roadsAt).slots := ⟨Nat.zero_le _, Nat.zero_le _⟩
  have hl : lv_has ls 4 [(0, .ref (q 1)), (1, .int a1)] := hl
  unfold D2m_roadsAt at hm
  refine lv_iconst (v := (0 : Int32)) hx hb dX2_roadsAt_0 (by decide) ?_
  refine lv_istore_n (lv' := [(2, .int (0 : Int32)), (0, .ref (q 1)), (1, .int a1)]) hx hb dX2_roadsAt_1 rfl hl (by decide) rfl (fun ls hl => ?_)
  refine lv_iconst (v := (0 : Int32)) hx hb dX2_roadsAt_2 (by decide) ?_
  refine lv_istore_n (lv' := [(3, .int (0 : Int32)), (2, .int (0 : Int32)), (0, .ref (q 1)), (1, .int a1)]) hx hb dX2_roadsAt_3 rfl hl (by decide) rfl (fun ls hl => ?_)
  refine D2w_roadsAt_4 τ fx sx hR hf a1 fuel (0 : Int32) (0 : Int32) hm _ _ _ hC (lv_sub hl [2, 3, 1, 0] rfl) (fun u_5 H locs ls hm hC hl => ?_)
  refine lv_iload_n hx hb dX2_roadsAt_35 rfl (lv_at hl 0 rfl) ?_
  cases hm
  exact g_iret fx hr hC rfl dX2_roadsAt_36
def D3m_isCell (b : Nat) (τ : DS) (a1 : Int32) (a2 : Int32) : Int32 :=
  if a1 < (0 : Int32) then ((0 : Int32)) else (if (τ.1 b 0) ≤ a1 then ((0 : Int32)) else (if (768 : Int32) ≤ a1 then ((0 : Int32)) else (if a2 < (0 : Int32) then ((0 : Int32)) else (if (4 : Int32) ≤ a2 then ((0 : Int32)) else ((1 : Int32))))))
abbrev D3rm_isCell : Room := { frames := 0, cells := 0, slots := 0, locals := 0 }
set_option maxRecDepth 100000 in
set_option maxHeartbeats 4000000 in
theorem D3c_isCell (l : Launch) {D : va_G} {cy : Nat → ClassId} {ad : List Nat} {q : Nat → Nat} {X : va_W} (b : Nat) (hbb : b = 17 ∨ b = 25) (τ : DS) (a1 : Int32) (a2 : Int32) : DM l yX3_isCell cX3_isCell 3 (some .boolean) D3rm_isCell D cy (dwd cy q X) ad [.ref (q b), .int a1, .int a2] τ (some (.int (D3m_isCell b τ a1 a2))) τ := by
  refine d_start RX3 rfl (by decide) (Nat.le_of_ble_eq_true rfl) ?_
  intro p e s m args below meth c fx sx hr hC ls hl
  have hx := fx.1
  have hb := fx.2.1
  have hR : 0 ≤ (D3rm_isCell).frames ∧ 0 ≤ (D3rm_isCell).locals := ⟨Nat.le_refl _, Nat.le_refl _⟩
  have hf : 0 ≤ (D3rm_isCell).cells ∧ 0 ≤ (D3rm_isCell).slots := ⟨Nat.zero_le _, Nat.zero_le _⟩
  have hl : lv_has ls 3 [(0, .ref (q b)), (1, .int a1), (2, .int a2)] := hl
  obtain ⟨o, hm⟩ : ∃ z, z = D3m_isCell b τ a1 a2 := ⟨_, rfl⟩
  rw [← hm]
  replace hm := hm.symm
  unfold D3m_isCell at hm
  refine lv_iload_n hx hb dX3_isCell_0 rfl (lv_at hl 1 rfl) ?_
  refine lv_if_lt (tgt := 32) hx hb dX3_isCell_1 (by decide) (fun c_1 => ?_) (fun c_1 => ?_)
  · replace hm := ifp hm c_1
    refine lv_iconst (v := (0 : Int32)) hx hb dX3_isCell_32 (by decide) ?_
    exact g_zret fx hr rfl hC (by rw [← hm]) dX3_isCell_33
  · replace hm := ifn hm c_1
    refine lv_iload_n hx hb dX3_isCell_4 rfl (lv_at hl 1 rfl) ?_
    refine lv_aload_n hx hb dX3_isCell_5 rfl (lv_at hl 0 rfl) ?_
    refine D3g_0 hbb fx hC k_690 dX3_isCell_6 ?_
    refine lv_icmp_ge (tgt := 32) hx hb dX3_isCell_9 (by decide) (fun c_2 => ?_) (fun c_2 => ?_)
    · replace hm := ifp hm c_2
      refine lv_iconst (v := (0 : Int32)) hx hb dX3_isCell_32 (by decide) ?_
      exact g_zret fx hr rfl hC (by rw [← hm]) dX3_isCell_33
    · replace hm := ifn hm c_2
      refine lv_iload_n hx hb dX3_isCell_12 rfl (lv_at hl 1 rfl) ?_
      refine lv_sipush (v := (768 : Int32)) hx hb dX3_isCell_13 (by decide) ?_
      refine lv_icmp_ge (tgt := 32) hx hb dX3_isCell_16 (by decide) (fun c_3 => ?_) (fun c_3 => ?_)
      · replace hm := ifp hm c_3
        refine lv_iconst (v := (0 : Int32)) hx hb dX3_isCell_32 (by decide) ?_
        exact g_zret fx hr rfl hC (by rw [← hm]) dX3_isCell_33
      · replace hm := ifn hm c_3
        refine lv_iload_n hx hb dX3_isCell_19 rfl (lv_at hl 2 rfl) ?_
        refine lv_if_lt (tgt := 32) hx hb dX3_isCell_20 (by decide) (fun c_4 => ?_) (fun c_4 => ?_)
        · replace hm := ifp hm c_4
          refine lv_iconst (v := (0 : Int32)) hx hb dX3_isCell_32 (by decide) ?_
          exact g_zret fx hr rfl hC (by rw [← hm]) dX3_isCell_33
        · replace hm := ifn hm c_4
          refine lv_iload_n hx hb dX3_isCell_23 rfl (lv_at hl 2 rfl) ?_
          refine lv_iconst (v := (4 : Int32)) hx hb dX3_isCell_24 (by decide) ?_
          refine lv_icmp_ge (tgt := 32) hx hb dX3_isCell_25 (by decide) (fun c_5 => ?_) (fun c_5 => ?_)
          · replace hm := ifp hm c_5
            refine lv_iconst (v := (0 : Int32)) hx hb dX3_isCell_32 (by decide) ?_
            exact g_zret fx hr rfl hC (by rw [← hm]) dX3_isCell_33
          · replace hm := ifn hm c_5
            refine lv_iconst (v := (1 : Int32)) hx hb dX3_isCell_28 (by decide) ?_
            refine lv_goto (tgt := 33) hx hb dX3_isCell_29 (by decide) ?_
            exact g_zret fx hr rfl hC (by rw [← hm]) dX3_isCell_33
theorem D3z_isCell (b : Nat) (τ : DS) (a1 : Int32) (a2 : Int32) : narrow .boolean (.int (D3m_isCell b τ a1 a2)) = .int (D3m_isCell b τ a1 a2) := by
  unfold D3m_isCell
  repeat' (first | rfl | split)
def D3m_clear (b : Nat) (τ : DS) : Option DS :=
  nm (dS τ b 0 (0 : Int32)) (fun τ_1 => b1 (J7m_fill_53178 τ_1 (b + 6) 256 (-1 : Int32)) (fun τ_4 => some τ_4))
abbrev D3rm_clear : Room := { frames := 1, cells := 0, slots := 0, locals := 23 }
set_option maxRecDepth 100000 in
set_option maxHeartbeats 4000000 in
theorem D3c_clear (l : Launch) {D : va_G} {cy : Nat → ClassId} {ad : List Nat} {q : Nat → Nat} {X : va_W} (b : Nat) (hbb : b = 17 ∨ b = 25) (τ : DS) {o : DS} (hm : D3m_clear b τ = some o) : DM l yX3_clear cX3_clear 1 none D3rm_clear D cy (dwd cy q X) ad [.ref (q b)] τ none o := by
  refine d_start RX3 rfl (by decide) (Nat.le_of_ble_eq_true rfl) ?_
  intro p e s m args below meth c fx sx hr hC ls hl
  have hx := fx.1
  have hb := fx.2.1
  have hR : 1 ≤ (D3rm_clear).frames ∧ 23 ≤ (D3rm_clear).locals := ⟨Nat.le_refl _, Nat.le_refl _⟩
  have hf : 0 ≤ (D3rm_clear).cells ∧ 0 ≤ (D3rm_clear).slots := ⟨Nat.zero_le _, Nat.zero_le _⟩
  have hl : lv_has ls 1 [(0, .ref (q b))] := hl
  unfold D3m_clear at hm
  refine lv_aload_n hx hb dX3_clear_0 rfl (lv_at hl 0 rfl) ?_
  refine lv_iconst (v := (0 : Int32)) hx hb dX3_clear_1 (by decide) ?_
  refine D3p_0 hbb fx hC k_690 dX3_clear_2 (fun H locs hC => ?_)
  obtain ⟨τ_1, e_2⟩ : ∃ z, z = (dS τ b 0 (0 : Int32)) := ⟨_, rfl⟩
  rw [← e_2] at hC
  replace hm := nm_in hm e_2
  refine lv_aload_n hx hb dX3_clear_5 rfl (lv_at hl 0 rfl) ?_
  refine D3g_2 hbb fx hC k_75 dX3_clear_6 ?_
  refine lv_iconst (v := (-1 : Int32)) hx hb dX3_clear_9 (by decide) ?_
  obtain ⟨τ_4, e_3, hm⟩ := b1_in hm
  refine d_callSv (As := [.ref (q (b + 6)), .int (-1 : Int32)]) (rest := []) fx sx hC dw_w (J7c_fill_53178 l τ_1 (b + 6) 256 (K3l hbb) (-1 : Int32) e_3) k_695 J7k_fill_53178 J7h_fill_53178 ⟨rfl, rfl⟩ ⟨Nat.le_trans (Nat.le_of_ble_eq_true rfl) hR.1, Nat.le_trans (Nat.le_of_ble_eq_true rfl) hR.2⟩ hf rfl hl.1 rfl (Nat.le_of_ble_eq_true rfl) dX3_clear_10 (fun H locs hC => ?_)
  cases hm
  exact g_vret fx hr hC rfl dX3_clear_13
def D3m_mark (a1 : Int32) (a2 : Int32) (a3 : Int32) : Int32 :=
  nm ((((a2 * (31 : Int32)) + a3) * (31 : Int32)) + a1) (fun x_1 => ((x_1 ^^^ ((x_1).toUInt32 >>> (((8 : Int32)).toUInt32 &&& Int32.toUInt32 31)).toInt32) &&& (255 : Int32)))
abbrev D3rm_mark : Room := { frames := 0, cells := 0, slots := 0, locals := 0 }
set_option maxRecDepth 100000 in
set_option maxHeartbeats 4000000 in
theorem D3c_mark (l : Launch) {D : va_G} {cy : Nat → ClassId} {ad : List Nat} {q : Nat → Nat} {X : va_W} (τ : DS) (a1 : Int32) (a2 : Int32) (a3 : Int32) : DM l yX3_mark cX3_mark 4 (some .int) D3rm_mark D cy (dwd cy q X) ad [.int a1, .int a2, .int a3] τ (some (.int (D3m_mark a1 a2 a3))) τ := by
  refine d_start RX3 rfl (by decide) (Nat.le_of_ble_eq_true rfl) ?_
  intro p e s m args below meth c fx sx hr hC ls hl
  have hx := fx.1
  have hb := fx.2.1
  have hR : 0 ≤ (D3rm_mark).frames ∧ 0 ≤ (D3rm_mark).locals := ⟨Nat.le_refl _, Nat.le_refl _⟩
  have hf : 0 ≤ (D3rm_mark).cells ∧ 0 ≤ (D3rm_mark).slots := ⟨Nat.zero_le _, Nat.zero_le _⟩
  have hl : lv_has ls 4 [(0, .int a1), (1, .int a2), (2, .int a3)] := hl
  obtain ⟨o, hm⟩ : ∃ z, z = D3m_mark a1 a2 a3 := ⟨_, rfl⟩
  rw [← hm]
  replace hm := hm.symm
  unfold D3m_mark at hm
  refine lv_iload_n hx hb dX3_mark_0 rfl (lv_at hl 1 rfl) ?_
  refine lv_bipush (v := (31 : Int32)) hx hb dX3_mark_1 (by decide) ?_
  refine lv_imul hx hb dX3_mark_3 ?_
  refine lv_iload_n hx hb dX3_mark_4 rfl (lv_at hl 2 rfl) ?_
  refine lv_iadd hx hb dX3_mark_5 ?_
  refine lv_bipush (v := (31 : Int32)) hx hb dX3_mark_6 (by decide) ?_
  refine lv_imul hx hb dX3_mark_8 ?_
  refine lv_iload_n hx hb dX3_mark_9 rfl (lv_at hl 0 rfl) ?_
  refine lv_iadd hx hb dX3_mark_10 ?_
  refine lv_topi (fun x_1 ex_1 => ?_)
  replace hm := nm_in hm ex_1
  refine lv_istore_n (lv' := [(3, .int x_1), (0, .int a1), (1, .int a2), (2, .int a3)]) hx hb dX3_mark_11 rfl hl (by decide) rfl (fun ls hl => ?_)
  refine lv_iload_n hx hb dX3_mark_12 rfl (lv_at hl 0 rfl) ?_
  refine lv_iload_n hx hb dX3_mark_13 rfl (lv_at hl 0 rfl) ?_
  refine lv_bipush (v := (8 : Int32)) hx hb dX3_mark_14 (by decide) ?_
  refine lv_iushr hx hb dX3_mark_16 rfl ?_
  refine lv_ixor hx hb dX3_mark_17 ?_
  refine lv_sipush (v := (255 : Int32)) hx hb dX3_mark_18 (by decide) ?_
  refine lv_iand hx hb dX3_mark_21 ?_
  exact g_iret fx hr hC (by rw [← hm]) dX3_mark_22
def D3s_find_16 {ρ : Type} (p0 : Nat) (p1 : Int32) (p2 : Int32) (p3 : Int32) (τ : DS) (kx73 : Int32 → Option ρ) (kx91 : Option ρ) (rc : Int32 → Int32 → Option ρ) (v4 : Int32) (v5 : Int32) : Option ρ :=
  if (768 : Int32) ≤ v5 then (kx91) else (if (D3m_isCell p0 τ v4 (0 : Int32)) = (0 : Int32) then (kx91) else (gi (0 : Int32) 4 (gi v4 768 (if (τ.2.1 (p0 + 2 + ((0 : Int32)).toNatClampNeg) (v4).toNatClampNeg) = p1 then (gi (1 : Int32) 4 (gi v4 768 (if (τ.2.1 (p0 + 2 + ((1 : Int32)).toNatClampNeg) (v4).toNatClampNeg) = p2 then (gi (2 : Int32) 4 (gi v4 768 (if (τ.2.1 (p0 + 2 + ((2 : Int32)).toNatClampNeg) (v4).toNatClampNeg) = p3 then (kx73 v4) else (gi v4 768 (rc (τ.2.1 (p0 + 7) (v4).toNatClampNeg) (v5 + (1 : Int32))))))) else (gi v4 768 (rc (τ.2.1 (p0 + 7) (v4).toNatClampNeg) (v5 + (1 : Int32))))))) else (gi v4 768 (rc (τ.2.1 (p0 + 7) (v4).toNatClampNeg) (v5 + (1 : Int32))))))))
def D3m_find (b : Nat) (τ : DS) (a1 : Int32) (a2 : Int32) (a3 : Int32) : Option Int32 :=
  gi (D3m_mark a1 a2 a3) 256 (nm (τ.2.1 (b + 6) ((D3m_mark a1 a2 a3)).toNatClampNeg) (fun x_2 => it2 (D3s_find_16 b a1 a2 a3 τ (fun u_17 => some u_17) (some (-1 : Int32))) fuel x_2 (0 : Int32)))
abbrev D3rm_find : Room := { frames := 1, cells := 0, slots := 0, locals := 23 }
set_option maxRecDepth 100000 in
set_option maxHeartbeats 4000000 in
theorem D3w_find_16 {ρ : Type} {out : ρ} {p : Program} {l : Launch} {e : Env} {R : Room} {s : State} {m : MethodId} {args : Array Value} {below : List Frame} {meth : Method} {c : Code} {cells slots : Nat} {Q : State → Prop} {D : va_G} {cy : Nat → ClassId} {ad : List Nat} {q : Nat → Nat} {X : va_W} (τ : DS) (fx : FX p s m args meth c cX3_find 6 RX3 D cy) (sx : SX ad s) (hR : 1 ≤ R.frames ∧ 23 ≤ R.locals) (hf : cells ≤ R.cells ∧ slots ≤ R.slots) (p0 : Nat) (hp0 : p0 = 17 ∨ p0 = 25) (p1 : Int32) (p2 : Int32) (p3 : Int32) {kx73 : Int32 → Option ρ} {kx91 : Option ρ} :
    ∀ (n : Nat) (v4 : Int32) (v5 : Int32), it2 (D3s_find_16 p0 p1 p2 p3 τ kx73 kx91) n v4 v5 = some out → ∀ (H : Heap) (locs : List Loc) (ls : Array Slot), GC D (dwd cy q X) ad s τ H locs → lv_has ls 6 [(0, .ref (q p0)), (1, .int p1), (2, .int p2), (3, .int p3), (4, .int v4), (5, .int v5)] → (∀ (u4 : Int32) (H : Heap) (locs : List Loc) (ls : Array Slot), kx73 u4 = some out → GC D (dwd cy q X) ad s τ H locs → lv_has ls 6 [(4, .int u4)] → W p l e R s m args below meth c H locs cells slots Q (F0 m 73 ls [])) → (∀ (H : Heap) (locs : List Loc) (ls : Array Slot), kx91 = some out → GC D (dwd cy q X) ad s τ H locs → lv_has ls 6 [] → W p l e R s m args below meth c H locs cells slots Q (F0 m 91 ls [])) → W p l e R s m args below meth c H locs cells slots Q (F0 m 16 ls []) := by
  have hx := fx.1
  have hb := fx.2.1
  intro n
  induction n with
  | zero => intro v4 v5 hm; exact (it2_z hm).elim
  | succ n ih9 =>
    intro v4 v5 hm H locs ls hC hl hx73 hx91
    obtain ⟨rc, hrc⟩ : ∃ z, z = it2 (D3s_find_16 p0 p1 p2 p3 τ kx73 kx91) n := ⟨_, rfl⟩
    replace hm : D3s_find_16 p0 p1 p2 p3 τ kx73 kx91 rc v4 v5 = some out := by rw [hrc]; exact hm
    unfold D3s_find_16 at hm
    refine lv_iload hx hb dX3_find_16 (lv_at hl 5 rfl) ?_
    refine lv_sipush (v := (768 : Int32)) hx hb dX3_find_18 (by decide) ?_
    refine lv_icmp_ge (tgt := 91) hx hb dX3_find_21 (by decide) (fun c_3 => ?_) (fun c_3 => ?_)
    · replace hm := ifp hm c_3
      exact hx91 _ _ _ hm hC (lv_sub hl [] rfl)
    · replace hm := ifn hm c_3
      refine lv_aload_n hx hb dX3_find_24 rfl (lv_at hl 0 rfl) ?_
      refine lv_iload hx hb dX3_find_25 (lv_at hl 4 rfl) ?_
      refine lv_iconst (v := (0 : Int32)) hx hb dX3_find_27 (by decide) ?_
      refine d_callVi (ci := 3) (As := [.int v4, .int (0 : Int32)]) (rest := []) fx sx hC dw_w (D3c_isCell l p0 hp0 τ v4 (0 : Int32)) k_716 D3k_isCell D3h_isCell rfl rfl (O_at (K3 hp0)) ⟨rfl, rfl⟩ ⟨Nat.le_trans (Nat.le_of_ble_eq_true rfl) hR.1, Nat.le_trans (Nat.le_of_ble_eq_true rfl) hR.2⟩ hf rfl hl.1 rfl (Nat.le_of_ble_eq_true rfl) dX3_find_28 (fun H locs hC => ?_)
      refine lv_if_eq (tgt := 91) hx hb dX3_find_31 (by decide) (fun c_4 => ?_) (fun c_4 => ?_)
      · replace hm := ifp hm c_4
        exact hx91 _ _ _ hm hC (lv_sub hl [] rfl)
      · replace hm := ifn hm c_4
        refine lv_aload_n hx hb dX3_find_34 rfl (lv_at hl 0 rfl) ?_
        refine D3g_1 hp0 fx hC k_74 dX3_find_35 ?_
        refine lv_iconst (v := (0 : Int32)) hx hb dX3_find_38 (by decide) ?_
        have h_5 := (gi_in hm).1
        replace hm := (gi_in hm).2
        refine DLq fx hC (K3q hp0) (Or.inr rfl) h_5 dX3_find_39 ?_
        refine lv_iload hx hb dX3_find_40 (lv_at hl 4 rfl) ?_
        have h_6 := (gi_in hm).1
        replace hm := (gi_in hm).2
        refine DLi fx hC (K3c hp0 (vp_lt h_5)) h_6 dX3_find_42 ?_
        refine lv_iload_n hx hb dX3_find_43 rfl (lv_at hl 1 rfl) ?_
        refine lv_icmp_ne (tgt := 76) hx hb dX3_find_44 (by decide) (fun c_7 => ?_) (fun c_7 => ?_)
        · replace hm := ifn hm c_7
          refine lv_aload_n hx hb dX3_find_76 rfl (lv_at hl 0 rfl) ?_
          refine D3g_3 hp0 fx hC k_76 dX3_find_77 ?_
          refine lv_iload hx hb dX3_find_80 (lv_at hl 4 rfl) ?_
          have h_8 := (gi_in hm).1
          replace hm := (gi_in hm).2
          refine DLi fx hC (K3b hp0) h_8 dX3_find_82 ?_
          refine lv_istore (lv' := [(4, .int (τ.2.1 (p0 + 7) (v4).toNatClampNeg)), (0, .ref (q p0)), (1, .int p1), (2, .int p2), (3, .int p3), (5, .int v5)]) hx hb dX3_find_83 hl (by decide) rfl (fun ls hl => ?_)
          refine lv_iinc (v := (v5 + (1 : Int32))) (lv' := [(5, .int (v5 + (1 : Int32))), (4, .int (τ.2.1 (p0 + 7) (v4).toNatClampNeg)), (0, .ref (q p0)), (1, .int p1), (2, .int p2), (3, .int p3)]) hx hb dX3_find_85 hl (k := 5) rfl rfl (by decide) rfl (fun ls hl => ?_)
          refine lv_goto (tgt := 16) hx hb dX3_find_88 (by decide) ?_
          rw [hrc] at hm
          exact ih9 _ _ hm _ _ _ hC (lv_sub hl [2, 3, 4, 5, 1, 0] rfl) hx73 hx91
        · replace hm := ifp hm c_7
          refine lv_aload_n hx hb dX3_find_47 rfl (lv_at hl 0 rfl) ?_
          refine D3g_1 hp0 fx hC k_74 dX3_find_48 ?_
          refine lv_iconst (v := (1 : Int32)) hx hb dX3_find_51 (by decide) ?_
          have h_9 := (gi_in hm).1
          replace hm := (gi_in hm).2
          refine DLq fx hC (K3q hp0) (Or.inr rfl) h_9 dX3_find_52 ?_
          refine lv_iload hx hb dX3_find_53 (lv_at hl 4 rfl) ?_
          have h_10 := (gi_in hm).1
          replace hm := (gi_in hm).2
          refine DLi fx hC (K3c hp0 (vp_lt h_9)) h_10 dX3_find_55 ?_
          refine lv_iload_n hx hb dX3_find_56 rfl (lv_at hl 2 rfl) ?_
          refine lv_icmp_ne (tgt := 76) hx hb dX3_find_57 (by decide) (fun c_11 => ?_) (fun c_11 => ?_)
          · replace hm := ifn hm c_11
            refine lv_aload_n hx hb dX3_find_76 rfl (lv_at hl 0 rfl) ?_
            refine D3g_3 hp0 fx hC k_76 dX3_find_77 ?_
            refine lv_iload hx hb dX3_find_80 (lv_at hl 4 rfl) ?_
            have h_12 := (gi_in hm).1
            replace hm := (gi_in hm).2
            refine DLi fx hC (K3b hp0) h_12 dX3_find_82 ?_
            refine lv_istore (lv' := [(4, .int (τ.2.1 (p0 + 7) (v4).toNatClampNeg)), (0, .ref (q p0)), (1, .int p1), (2, .int p2), (3, .int p3), (5, .int v5)]) hx hb dX3_find_83 hl (by decide) rfl (fun ls hl => ?_)
            refine lv_iinc (v := (v5 + (1 : Int32))) (lv' := [(5, .int (v5 + (1 : Int32))), (4, .int (τ.2.1 (p0 + 7) (v4).toNatClampNeg)), (0, .ref (q p0)), (1, .int p1), (2, .int p2), (3, .int p3)]) hx hb dX3_find_85 hl (k := 5) rfl rfl (by decide) rfl (fun ls hl => ?_)
            refine lv_goto (tgt := 16) hx hb dX3_find_88 (by decide) ?_
            rw [hrc] at hm
            exact ih9 _ _ hm _ _ _ hC (lv_sub hl [2, 3, 4, 5, 1, 0] rfl) hx73 hx91
          · replace hm := ifp hm c_11
            refine lv_aload_n hx hb dX3_find_60 rfl (lv_at hl 0 rfl) ?_
            refine D3g_1 hp0 fx hC k_74 dX3_find_61 ?_
            refine lv_iconst (v := (2 : Int32)) hx hb dX3_find_64 (by decide) ?_
            have h_13 := (gi_in hm).1
            replace hm := (gi_in hm).2
            refine DLq fx hC (K3q hp0) (Or.inr rfl) h_13 dX3_find_65 ?_
            refine lv_iload hx hb dX3_find_66 (lv_at hl 4 rfl) ?_
            have h_14 := (gi_in hm).1
            replace hm := (gi_in hm).2
            refine DLi fx hC (K3c hp0 (vp_lt h_13)) h_14 dX3_find_68 ?_
            refine lv_iload_n hx hb dX3_find_69 rfl (lv_at hl 3 rfl) ?_
            refine lv_icmp_ne (tgt := 76) hx hb dX3_find_70 (by decide) (fun c_15 => ?_) (fun c_15 => ?_)
            · replace hm := ifn hm c_15
              refine lv_aload_n hx hb dX3_find_76 rfl (lv_at hl 0 rfl) ?_
              refine D3g_3 hp0 fx hC k_76 dX3_find_77 ?_
              refine lv_iload hx hb dX3_find_80 (lv_at hl 4 rfl) ?_
              have h_16 := (gi_in hm).1
              replace hm := (gi_in hm).2
              refine DLi fx hC (K3b hp0) h_16 dX3_find_82 ?_
              refine lv_istore (lv' := [(4, .int (τ.2.1 (p0 + 7) (v4).toNatClampNeg)), (0, .ref (q p0)), (1, .int p1), (2, .int p2), (3, .int p3), (5, .int v5)]) hx hb dX3_find_83 hl (by decide) rfl (fun ls hl => ?_)
              refine lv_iinc (v := (v5 + (1 : Int32))) (lv' := [(5, .int (v5 + (1 : Int32))), (4, .int (τ.2.1 (p0 + 7) (v4).toNatClampNeg)), (0, .ref (q p0)), (1, .int p1), (2, .int p2), (3, .int p3)]) hx hb dX3_find_85 hl (k := 5) rfl rfl (by decide) rfl (fun ls hl => ?_)
              refine lv_goto (tgt := 16) hx hb dX3_find_88 (by decide) ?_
              rw [hrc] at hm
              exact ih9 _ _ hm _ _ _ hC (lv_sub hl [2, 3, 4, 5, 1, 0] rfl) hx73 hx91
            · replace hm := ifp hm c_15
              exact hx73 _ _ _ _ hm hC (lv_sub hl [4] rfl)
set_option maxRecDepth 100000 in
set_option maxHeartbeats 4000000 in
theorem D3c_find (l : Launch) {D : va_G} {cy : Nat → ClassId} {ad : List Nat} {q : Nat → Nat} {X : va_W} (b : Nat) (hbb : b = 17 ∨ b = 25) (τ : DS) (a1 : Int32) (a2 : Int32) (a3 : Int32) {o : Int32} (hm : D3m_find b τ a1 a2 a3 = some o) : DM l yX3_find cX3_find 6 (some .int) D3rm_find D cy (dwd cy q X) ad [.ref (q b), .int a1, .int a2, .int a3] τ (some (.int (o))) τ := by
  refine d_start RX3 rfl (by decide) (Nat.le_of_ble_eq_true rfl) ?_
  intro p e s m args below meth c fx sx hr hC ls hl
  have hx := fx.1
  have hb := fx.2.1
  have hR : 1 ≤ (D3rm_find).frames ∧ 23 ≤ (D3rm_find).locals := ⟨Nat.le_refl _, Nat.le_refl _⟩
  have hf : 0 ≤ (D3rm_find).cells ∧ 0 ≤ (D3rm_find).slots := ⟨Nat.zero_le _, Nat.zero_le _⟩
  have hl : lv_has ls 6 [(0, .ref (q b)), (1, .int a1), (2, .int a2), (3, .int a3)] := hl
  unfold D3m_find at hm
  refine lv_aload_n hx hb dX3_find_0 rfl (lv_at hl 0 rfl) ?_
  refine D3g_2 hbb fx hC k_75 dX3_find_1 ?_
  refine lv_iload_n hx hb dX3_find_4 rfl (lv_at hl 1 rfl) ?_
  refine lv_iload_n hx hb dX3_find_5 rfl (lv_at hl 2 rfl) ?_
  refine lv_iload_n hx hb dX3_find_6 rfl (lv_at hl 3 rfl) ?_
  refine d_callSi (As := [.int a1, .int a2, .int a3]) (rest := [.ref (q (b + 6))]) fx sx hC dw_w (D3c_mark l τ a1 a2 a3) k_713 D3k_mark D3h_mark ⟨rfl, rfl⟩ ⟨Nat.le_trans (Nat.le_of_ble_eq_true rfl) hR.1, Nat.le_trans (Nat.le_of_ble_eq_true rfl) hR.2⟩ hf rfl hl.1 rfl (Nat.le_of_ble_eq_true rfl) dX3_find_7 (fun H locs hC => ?_)
  have h_1 := (gi_in hm).1
  replace hm := (gi_in hm).2
  refine DLi fx hC (K3l hbb) h_1 dX3_find_10 ?_
  refine lv_topi (fun x_2 ex_2 => ?_)
  replace hm := nm_in hm ex_2
  refine lv_istore (lv' := [(4, .int x_2), (0, .ref (q b)), (1, .int a1), (2, .int a2), (3, .int a3)]) hx hb dX3_find_11 hl (by decide) rfl (fun ls hl => ?_)
  refine lv_iconst (v := (0 : Int32)) hx hb dX3_find_13 (by decide) ?_
  refine lv_istore (lv' := [(5, .int (0 : Int32)), (4, .int x_2), (0, .ref (q b)), (1, .int a1), (2, .int a2), (3, .int a3)]) hx hb dX3_find_14 hl (by decide) rfl (fun ls hl => ?_)
  refine D3w_find_16 τ fx sx hR hf b hbb a1 a2 a3 fuel x_2 (0 : Int32) hm _ _ _ hC (lv_sub hl [2, 3, 4, 5, 1, 0] rfl) (fun u_17 H locs ls hm hC hl => ?_) (fun  H locs ls hm hC hl => ?_)
  · refine lv_iload hx hb dX3_find_73 (lv_at hl 0 rfl) ?_
    cases hm
    exact g_iret fx hr hC rfl dX3_find_75
  · refine lv_iconst (v := (-1 : Int32)) hx hb dX3_find_91 (by decide) ?_
    cases hm
    exact g_iret fx hr hC rfl dX3_find_92
def D3m_countOf (b : Nat) (τ : DS) (a1 : Int32) : Option Int32 :=
  if (D3m_isCell b τ a1 (3 : Int32)) = (0 : Int32) then (if a1 = (-2 : Int32) then (some (1 : Int32)) else (some (0 : Int32))) else (gi (3 : Int32) 4 (gi a1 768 (some (τ.2.1 (b + 2 + ((3 : Int32)).toNatClampNeg) (a1).toNatClampNeg))))
abbrev D3rm_countOf : Room := { frames := 1, cells := 0, slots := 0, locals := 22 }
set_option maxRecDepth 100000 in
set_option maxHeartbeats 4000000 in
theorem D3c_countOf (l : Launch) {D : va_G} {cy : Nat → ClassId} {ad : List Nat} {q : Nat → Nat} {X : va_W} (b : Nat) (hbb : b = 17 ∨ b = 25) (τ : DS) (a1 : Int32) {o : Int32} (hm : D3m_countOf b τ a1 = some o) : DM l yX3_countOf cX3_countOf 2 (some .int) D3rm_countOf D cy (dwd cy q X) ad [.ref (q b), .int a1] τ (some (.int (o))) τ := by
  refine d_start RX3 rfl (by decide) (Nat.le_of_ble_eq_true rfl) ?_
  intro p e s m args below meth c fx sx hr hC ls hl
  have hx := fx.1
  have hb := fx.2.1
  have hR : 1 ≤ (D3rm_countOf).frames ∧ 22 ≤ (D3rm_countOf).locals := ⟨Nat.le_refl _, Nat.le_refl _⟩
  have hf : 0 ≤ (D3rm_countOf).cells ∧ 0 ≤ (D3rm_countOf).slots := ⟨Nat.zero_le _, Nat.zero_le _⟩
  have hl : lv_has ls 2 [(0, .ref (q b)), (1, .int a1)] := hl
  unfold D3m_countOf at hm
  refine lv_aload_n hx hb dX3_countOf_0 rfl (lv_at hl 0 rfl) ?_
  refine lv_iload_n hx hb dX3_countOf_1 rfl (lv_at hl 1 rfl) ?_
  refine lv_iconst (v := (3 : Int32)) hx hb dX3_countOf_2 (by decide) ?_
  refine d_callVi (ci := 3) (As := [.int a1, .int (3 : Int32)]) (rest := []) fx sx hC dw_w (D3c_isCell l b hbb τ a1 (3 : Int32)) k_716 D3k_isCell D3h_isCell rfl rfl (O_at (K3 hbb)) ⟨rfl, rfl⟩ ⟨Nat.le_trans (Nat.le_of_ble_eq_true rfl) hR.1, Nat.le_trans (Nat.le_of_ble_eq_true rfl) hR.2⟩ hf rfl hl.1 rfl (Nat.le_of_ble_eq_true rfl) dX3_countOf_3 (fun H locs hC => ?_)
  refine lv_if_eq (tgt := 18) hx hb dX3_countOf_6 (by decide) (fun c_1 => ?_) (fun c_1 => ?_)
  · replace hm := ifp hm c_1
    refine lv_iload_n hx hb dX3_countOf_18 rfl (lv_at hl 1 rfl) ?_
    refine lv_bipush (v := (-2 : Int32)) hx hb dX3_countOf_19 (by decide) ?_
    refine lv_icmp_ne (tgt := 28) hx hb dX3_countOf_21 (by decide) (fun c_2 => ?_) (fun c_2 => ?_)
    · replace hm := ifn hm c_2
      refine lv_iconst (v := (0 : Int32)) hx hb dX3_countOf_28 (by decide) ?_
      cases hm
      exact g_iret fx hr hC rfl dX3_countOf_29
    · replace hm := ifp hm c_2
      refine lv_iconst (v := (1 : Int32)) hx hb dX3_countOf_24 (by decide) ?_
      refine lv_goto (tgt := 29) hx hb dX3_countOf_25 (by decide) ?_
      cases hm
      exact g_iret fx hr hC rfl dX3_countOf_29
  · replace hm := ifn hm c_1
    refine lv_aload_n hx hb dX3_countOf_9 rfl (lv_at hl 0 rfl) ?_
    refine D3g_1 hbb fx hC k_74 dX3_countOf_10 ?_
    refine lv_iconst (v := (3 : Int32)) hx hb dX3_countOf_13 (by decide) ?_
    have h_3 := (gi_in hm).1
    replace hm := (gi_in hm).2
    refine DLq fx hC (K3q hbb) (Or.inr rfl) h_3 dX3_countOf_14 ?_
    refine lv_iload_n hx hb dX3_countOf_15 rfl (lv_at hl 1 rfl) ?_
    have h_4 := (gi_in hm).1
    replace hm := (gi_in hm).2
    refine DLi fx hC (K3c hbb (vp_lt h_3)) h_4 dX3_countOf_16 ?_
    cases hm
    exact g_iret fx hr hC rfl dX3_countOf_17
def D3m_add (b : Nat) (τ : DS) (a1 : Int32) (a2 : Int32) (a3 : Int32) : Option (Int32 × DS) :=
  if (τ.1 b 0) < (0 : Int32) then (some ((-1 : Int32), τ)) else (if (τ.1 b 0) < (768 : Int32) then (gi (0 : Int32) 4 (gi (τ.1 b 0) 768 (nm (dA τ (b + 2 + ((0 : Int32)).toNatClampNeg) ((τ.1 b 0)).toNatClampNeg a1) (fun τ_5 => gi (1 : Int32) 4 (gi (τ.1 b 0) 768 (nm (dA τ_5 (b + 2 + ((1 : Int32)).toNatClampNeg) ((τ.1 b 0)).toNatClampNeg a2) (fun τ_9 => gi (2 : Int32) 4 (gi (τ.1 b 0) 768 (nm (dA τ_9 (b + 2 + ((2 : Int32)).toNatClampNeg) ((τ.1 b 0)).toNatClampNeg a3) (fun τ_13 => gi (3 : Int32) 4 (b1 (D3m_countOf b τ_13 a2) (fun r_17 => b1 (D3m_countOf b τ_13 a3) (fun r_19 => gi (τ.1 b 0) 768 (nm (dA τ_13 (b + 2 + ((3 : Int32)).toNatClampNeg) ((τ.1 b 0)).toNatClampNeg (r_17 + r_19)) (fun τ_21 => gi (D3m_mark a1 a2 a3) 256 (gi (τ.1 b 0) 768 (nm (dA τ_21 (b + 7) ((τ.1 b 0)).toNatClampNeg (τ_21.2.1 (b + 6) ((D3m_mark a1 a2 a3)).toNatClampNeg)) (fun τ_25 => gi (D3m_mark a1 a2 a3) 256 (nm (dA τ_25 (b + 6) ((D3m_mark a1 a2 a3)).toNatClampNeg (τ.1 b 0)) (fun τ_28 => nm (dS τ_28 b 0 ((τ_28.1 b 0) + (1 : Int32))) (fun τ_30 => some ((τ.1 b 0), τ_30)))))))))))))))))))))) else (some ((-1 : Int32), τ)))
abbrev D3rm_add : Room := { frames := 2, cells := 0, slots := 0, locals := 43 }
set_option maxRecDepth 100000 in
set_option maxHeartbeats 4000000 in
theorem D3c_add (l : Launch) {D : va_G} {cy : Nat → ClassId} {ad : List Nat} {q : Nat → Nat} {X : va_W} (b : Nat) (hbb : b = 17 ∨ b = 25) (τ : DS) (a1 : Int32) (a2 : Int32) (a3 : Int32) {o : Int32 × DS} (hm : D3m_add b τ a1 a2 a3 = some o) : DM l yX3_add cX3_add 6 (some .int) D3rm_add D cy (dwd cy q X) ad [.ref (q b), .int a1, .int a2, .int a3] τ (some (.int (o.1))) o.2 := by
  refine d_start RX3 rfl (by decide) (Nat.le_of_ble_eq_true rfl) ?_
  intro p e s m args below meth c fx sx hr hC ls hl
  have hx := fx.1
  have hb := fx.2.1
  have hR : 2 ≤ (D3rm_add).frames ∧ 43 ≤ (D3rm_add).locals := ⟨Nat.le_refl _, Nat.le_refl _⟩
  have hf : 0 ≤ (D3rm_add).cells ∧ 0 ≤ (D3rm_add).slots := ⟨Nat.zero_le _, Nat.zero_le _⟩
  have hl : lv_has ls 6 [(0, .ref (q b)), (1, .int a1), (2, .int a2), (3, .int a3)] := hl
  unfold D3m_add at hm
  refine lv_aload_n hx hb dX3_add_0 rfl (lv_at hl 0 rfl) ?_
  refine D3g_0 hbb fx hC k_690 dX3_add_1 ?_
  refine lv_if_lt (tgt := 17) hx hb dX3_add_4 (by decide) (fun c_1 => ?_) (fun c_1 => ?_)
  · replace hm := ifp hm c_1
    refine lv_iconst (v := (-1 : Int32)) hx hb dX3_add_17 (by decide) ?_
    cases hm
    exact g_iret fx hr hC rfl dX3_add_18
  · replace hm := ifn hm c_1
    refine lv_aload_n hx hb dX3_add_7 rfl (lv_at hl 0 rfl) ?_
    refine D3g_0 hbb fx hC k_690 dX3_add_8 ?_
    refine lv_sipush (v := (768 : Int32)) hx hb dX3_add_11 (by decide) ?_
    refine lv_icmp_lt (tgt := 19) hx hb dX3_add_14 (by decide) (fun c_2 => ?_) (fun c_2 => ?_)
    · replace hm := ifp hm c_2
      refine lv_aload_n hx hb dX3_add_19 rfl (lv_at hl 0 rfl) ?_
      refine D3g_0 hbb fx hC k_690 dX3_add_20 ?_
      refine lv_istore (lv' := [(4, .int (τ.1 b 0)), (0, .ref (q b)), (1, .int a1), (2, .int a2), (3, .int a3)]) hx hb dX3_add_23 hl (by decide) rfl (fun ls hl => ?_)
      refine lv_aload_n hx hb dX3_add_25 rfl (lv_at hl 1 rfl) ?_
      refine D3g_1 hbb fx hC k_74 dX3_add_26 ?_
      refine lv_iconst (v := (0 : Int32)) hx hb dX3_add_29 (by decide) ?_
      have h_3 := (gi_in hm).1
      replace hm := (gi_in hm).2
      refine DLq fx hC (K3q hbb) (Or.inr rfl) h_3 dX3_add_30 ?_
      refine lv_iload hx hb dX3_add_31 (lv_at hl 0 rfl) ?_
      refine lv_iload_n hx hb dX3_add_33 rfl (lv_at hl 2 rfl) ?_
      have h_4 := (gi_in hm).1
      replace hm := (gi_in hm).2
      refine DSi fx hC (K3c hbb (vp_lt h_3)) h_4 dX3_add_34 (fun H locs hC => ?_)
      obtain ⟨τ_5, e_6⟩ : ∃ z, z = (dA τ (b + 2 + ((0 : Int32)).toNatClampNeg) ((τ.1 b 0)).toNatClampNeg a1) := ⟨_, rfl⟩
      rw [← e_6] at hC
      replace hm := nm_in hm e_6
      refine lv_aload_n hx hb dX3_add_35 rfl (lv_at hl 1 rfl) ?_
      refine D3g_1 hbb fx hC k_74 dX3_add_36 ?_
      refine lv_iconst (v := (1 : Int32)) hx hb dX3_add_39 (by decide) ?_
      have h_7 := (gi_in hm).1
      replace hm := (gi_in hm).2
      refine DLq fx hC (K3q hbb) (Or.inr rfl) h_7 dX3_add_40 ?_
      refine lv_iload hx hb dX3_add_41 (lv_at hl 0 rfl) ?_
      refine lv_iload_n hx hb dX3_add_43 rfl (lv_at hl 3 rfl) ?_
      have h_8 := (gi_in hm).1
      replace hm := (gi_in hm).2
      refine DSi fx hC (K3c hbb (vp_lt h_7)) h_8 dX3_add_44 (fun H locs hC => ?_)
      obtain ⟨τ_9, e_10⟩ : ∃ z, z = (dA τ_5 (b + 2 + ((1 : Int32)).toNatClampNeg) ((τ.1 b 0)).toNatClampNeg a2) := ⟨_, rfl⟩
      rw [← e_10] at hC
      replace hm := nm_in hm e_10
      refine lv_aload_n hx hb dX3_add_45 rfl (lv_at hl 1 rfl) ?_
      refine D3g_1 hbb fx hC k_74 dX3_add_46 ?_
      refine lv_iconst (v := (2 : Int32)) hx hb dX3_add_49 (by decide) ?_
      have h_11 := (gi_in hm).1
      replace hm := (gi_in hm).2
      refine DLq fx hC (K3q hbb) (Or.inr rfl) h_11 dX3_add_50 ?_
      refine lv_iload hx hb dX3_add_51 (lv_at hl 0 rfl) ?_
      refine lv_iload_n hx hb dX3_add_53 rfl (lv_at hl 4 rfl) ?_
      have h_12 := (gi_in hm).1
      replace hm := (gi_in hm).2
      refine DSi fx hC (K3c hbb (vp_lt h_11)) h_12 dX3_add_54 (fun H locs hC => ?_)
      obtain ⟨τ_13, e_14⟩ : ∃ z, z = (dA τ_9 (b + 2 + ((2 : Int32)).toNatClampNeg) ((τ.1 b 0)).toNatClampNeg a3) := ⟨_, rfl⟩
      rw [← e_14] at hC
      replace hm := nm_in hm e_14
      refine lv_aload_n hx hb dX3_add_55 rfl (lv_at hl 1 rfl) ?_
      refine D3g_1 hbb fx hC k_74 dX3_add_56 ?_
      refine lv_iconst (v := (3 : Int32)) hx hb dX3_add_59 (by decide) ?_
      have h_15 := (gi_in hm).1
      replace hm := (gi_in hm).2
      refine DLq fx hC (K3q hbb) (Or.inr rfl) h_15 dX3_add_60 ?_
      refine lv_iload hx hb dX3_add_61 (lv_at hl 0 rfl) ?_
      refine lv_aload_n hx hb dX3_add_63 rfl (lv_at hl 1 rfl) ?_
      refine lv_iload_n hx hb dX3_add_64 rfl (lv_at hl 3 rfl) ?_
      obtain ⟨r_17, e_16, hm⟩ := b1_in hm
      refine d_callVi (ci := 3) (As := [.int a2]) (rest := [.int (τ.1 b 0), .ref (q (b + 2 + ((3 : Int32)).toNatClampNeg))]) fx sx hC dw_w (D3c_countOf l b hbb τ_13 a2 e_16) k_724 D3k_countOf D3h_countOf rfl rfl (O_at (K3 hbb)) ⟨rfl, rfl⟩ ⟨Nat.le_trans (Nat.le_of_ble_eq_true rfl) hR.1, Nat.le_trans (Nat.le_of_ble_eq_true rfl) hR.2⟩ hf rfl hl.1 rfl (Nat.le_of_ble_eq_true rfl) dX3_add_65 (fun H locs hC => ?_)
      refine lv_aload_n hx hb dX3_add_68 rfl (lv_at hl 1 rfl) ?_
      refine lv_iload_n hx hb dX3_add_69 rfl (lv_at hl 4 rfl) ?_
      obtain ⟨r_19, e_18, hm⟩ := b1_in hm
      refine d_callVi (ci := 3) (As := [.int a3]) (rest := [.int r_17, .int (τ.1 b 0), .ref (q (b + 2 + ((3 : Int32)).toNatClampNeg))]) fx sx hC dw_w (D3c_countOf l b hbb τ_13 a3 e_18) k_724 D3k_countOf D3h_countOf rfl rfl (O_at (K3 hbb)) ⟨rfl, rfl⟩ ⟨Nat.le_trans (Nat.le_of_ble_eq_true rfl) hR.1, Nat.le_trans (Nat.le_of_ble_eq_true rfl) hR.2⟩ hf rfl hl.1 rfl (Nat.le_of_ble_eq_true rfl) dX3_add_70 (fun H locs hC => ?_)
      refine lv_iadd hx hb dX3_add_73 ?_
      have h_20 := (gi_in hm).1
      replace hm := (gi_in hm).2
      refine DSi fx hC (K3c hbb (vp_lt h_15)) h_20 dX3_add_74 (fun H locs hC => ?_)
      obtain ⟨τ_21, e_22⟩ : ∃ z, z = (dA τ_13 (b + 2 + ((3 : Int32)).toNatClampNeg) ((τ.1 b 0)).toNatClampNeg (r_17 + r_19)) := ⟨_, rfl⟩
      rw [← e_22] at hC
      replace hm := nm_in hm e_22
      refine lv_iload_n hx hb dX3_add_75 rfl (lv_at hl 2 rfl) ?_
      refine lv_iload_n hx hb dX3_add_76 rfl (lv_at hl 3 rfl) ?_
      refine lv_iload_n hx hb dX3_add_77 rfl (lv_at hl 4 rfl) ?_
      refine d_callSi (As := [.int a1, .int a2, .int a3]) (rest := []) fx sx hC dw_w (D3c_mark l τ_21 a1 a2 a3) k_713 D3k_mark D3h_mark ⟨rfl, rfl⟩ ⟨Nat.le_trans (Nat.le_of_ble_eq_true rfl) hR.1, Nat.le_trans (Nat.le_of_ble_eq_true rfl) hR.2⟩ hf rfl hl.1 rfl (Nat.le_of_ble_eq_true rfl) dX3_add_78 (fun H locs hC => ?_)
      refine lv_istore (lv' := [(5, .int (D3m_mark a1 a2 a3)), (4, .int (τ.1 b 0)), (0, .ref (q b)), (1, .int a1), (2, .int a2), (3, .int a3)]) hx hb dX3_add_81 hl (by decide) rfl (fun ls hl => ?_)
      refine lv_aload_n hx hb dX3_add_83 rfl (lv_at hl 2 rfl) ?_
      refine D3g_3 hbb fx hC k_76 dX3_add_84 ?_
      refine lv_iload hx hb dX3_add_87 (lv_at hl 1 rfl) ?_
      refine lv_aload_n hx hb dX3_add_89 rfl (lv_at hl 2 rfl) ?_
      refine D3g_2 hbb fx hC k_75 dX3_add_90 ?_
      refine lv_iload hx hb dX3_add_93 (lv_at hl 0 rfl) ?_
      have h_23 := (gi_in hm).1
      replace hm := (gi_in hm).2
      refine DLi fx hC (K3l hbb) h_23 dX3_add_95 ?_
      have h_24 := (gi_in hm).1
      replace hm := (gi_in hm).2
      refine DSi fx hC (K3b hbb) h_24 dX3_add_96 (fun H locs hC => ?_)
      obtain ⟨τ_25, e_26⟩ : ∃ z, z = (dA τ_21 (b + 7) ((τ.1 b 0)).toNatClampNeg (τ_21.2.1 (b + 6) ((D3m_mark a1 a2 a3)).toNatClampNeg)) := ⟨_, rfl⟩
      rw [← e_26] at hC
      replace hm := nm_in hm e_26
      refine lv_aload_n hx hb dX3_add_97 rfl (lv_at hl 2 rfl) ?_
      refine D3g_2 hbb fx hC k_75 dX3_add_98 ?_
      refine lv_iload hx hb dX3_add_101 (lv_at hl 0 rfl) ?_
      refine lv_iload hx hb dX3_add_103 (lv_at hl 1 rfl) ?_
      have h_27 := (gi_in hm).1
      replace hm := (gi_in hm).2
      refine DSi fx hC (K3l hbb) h_27 dX3_add_105 (fun H locs hC => ?_)
      obtain ⟨τ_28, e_29⟩ : ∃ z, z = (dA τ_25 (b + 6) ((D3m_mark a1 a2 a3)).toNatClampNeg (τ.1 b 0)) := ⟨_, rfl⟩
      rw [← e_29] at hC
      replace hm := nm_in hm e_29
      refine lv_aload_n hx hb dX3_add_106 rfl (lv_at hl 2 rfl) ?_
      refine lv_dup hx hb dX3_add_107 rfl ?_
      refine D3g_0 hbb fx hC k_690 dX3_add_108 ?_
      refine lv_iconst (v := (1 : Int32)) hx hb dX3_add_111 (by decide) ?_
      refine lv_iadd hx hb dX3_add_112 ?_
      refine D3p_0 hbb fx hC k_690 dX3_add_113 (fun H locs hC => ?_)
      obtain ⟨τ_30, e_31⟩ : ∃ z, z = (dS τ_28 b 0 ((τ_28.1 b 0) + (1 : Int32))) := ⟨_, rfl⟩
      rw [← e_31] at hC
      replace hm := nm_in hm e_31
      refine lv_iload hx hb dX3_add_116 (lv_at hl 1 rfl) ?_
      cases hm
      exact g_iret fx hr hC rfl dX3_add_118
    · replace hm := ifn hm c_2
      refine lv_iconst (v := (-1 : Int32)) hx hb dX3_add_17 (by decide) ?_
      cases hm
      exact g_iret fx hr hC rfl dX3_add_18
def D3m_knot (b : Nat) (τ : DS) (a1 : Int32) (a2 : Int32) (a3 : Int32) : Option (Int32 × DS) :=
  if a3 = (-1 : Int32) then (some (a2, τ)) else (b1 (D3m_find b τ a1 a2 a3) (fun r_3 => if r_3 < (0 : Int32) then (b2 (D3m_add b τ a1 a2 a3) (fun r_7 τ_6 => some (r_7, τ_6))) else (some (r_3, τ))))
abbrev D3rm_knot : Room := { frames := 3, cells := 0, slots := 0, locals := 68 }
set_option maxRecDepth 100000 in
set_option maxHeartbeats 4000000 in
theorem D3c_knot (l : Launch) {D : va_G} {cy : Nat → ClassId} {ad : List Nat} {q : Nat → Nat} {X : va_W} (b : Nat) (hbb : b = 17 ∨ b = 25) (τ : DS) (a1 : Int32) (a2 : Int32) (a3 : Int32) {o : Int32 × DS} (hm : D3m_knot b τ a1 a2 a3 = some o) : DM l yX3_knot cX3_knot 5 (some .int) D3rm_knot D cy (dwd cy q X) ad [.ref (q b), .int a1, .int a2, .int a3] τ (some (.int (o.1))) o.2 := by
  refine d_start RX3 rfl (by decide) (Nat.le_of_ble_eq_true rfl) ?_
  intro p e s m args below meth c fx sx hr hC ls hl
  have hx := fx.1
  have hb := fx.2.1
  have hR : 3 ≤ (D3rm_knot).frames ∧ 68 ≤ (D3rm_knot).locals := ⟨Nat.le_refl _, Nat.le_refl _⟩
  have hf : 0 ≤ (D3rm_knot).cells ∧ 0 ≤ (D3rm_knot).slots := ⟨Nat.zero_le _, Nat.zero_le _⟩
  have hl : lv_has ls 5 [(0, .ref (q b)), (1, .int a1), (2, .int a2), (3, .int a3)] := hl
  unfold D3m_knot at hm
  refine lv_iload_n hx hb dX3_knot_0 rfl (lv_at hl 3 rfl) ?_
  refine lv_iconst (v := (-1 : Int32)) hx hb dX3_knot_1 (by decide) ?_
  refine lv_icmp_ne (tgt := 7) hx hb dX3_knot_2 (by decide) (fun c_1 => ?_) (fun c_1 => ?_)
  · replace hm := ifn hm c_1
    refine lv_aload_n hx hb dX3_knot_7 rfl (lv_at hl 0 rfl) ?_
    refine lv_iload_n hx hb dX3_knot_8 rfl (lv_at hl 1 rfl) ?_
    refine lv_iload_n hx hb dX3_knot_9 rfl (lv_at hl 2 rfl) ?_
    refine lv_iload_n hx hb dX3_knot_10 rfl (lv_at hl 3 rfl) ?_
    obtain ⟨r_3, e_2, hm⟩ := b1_in hm
    refine d_callVi (ci := 3) (As := [.int a1, .int a2, .int a3]) (rest := []) fx sx hC dw_w (D3c_find l b hbb τ a1 a2 a3 e_2) k_709 D3k_find D3h_find rfl rfl (O_at (K3 hbb)) ⟨rfl, rfl⟩ ⟨Nat.le_trans (Nat.le_of_ble_eq_true rfl) hR.1, Nat.le_trans (Nat.le_of_ble_eq_true rfl) hR.2⟩ hf rfl hl.1 rfl (Nat.le_of_ble_eq_true rfl) dX3_knot_11 (fun H locs hC => ?_)
    refine lv_istore (lv' := [(4, .int r_3), (0, .ref (q b)), (1, .int a1), (2, .int a2), (3, .int a3)]) hx hb dX3_knot_14 hl (by decide) rfl (fun ls hl => ?_)
    refine lv_iload hx hb dX3_knot_16 (lv_at hl 0 rfl) ?_
    refine lv_if_lt (tgt := 26) hx hb dX3_knot_18 (by decide) (fun c_4 => ?_) (fun c_4 => ?_)
    · replace hm := ifp hm c_4
      refine lv_aload_n hx hb dX3_knot_26 rfl (lv_at hl 1 rfl) ?_
      refine lv_iload_n hx hb dX3_knot_27 rfl (lv_at hl 2 rfl) ?_
      refine lv_iload_n hx hb dX3_knot_28 rfl (lv_at hl 3 rfl) ?_
      refine lv_iload_n hx hb dX3_knot_29 rfl (lv_at hl 4 rfl) ?_
      obtain ⟨r_7, τ_6, e_5, hm⟩ := b2_in hm
      refine d_callVi (ci := 3) (As := [.int a1, .int a2, .int a3]) (rest := []) fx sx hC dw_w (D3c_add l b hbb τ a1 a2 a3 e_5) k_720 D3k_add D3h_add rfl rfl (O_at (K3 hbb)) ⟨rfl, rfl⟩ ⟨Nat.le_trans (Nat.le_of_ble_eq_true rfl) hR.1, Nat.le_trans (Nat.le_of_ble_eq_true rfl) hR.2⟩ hf rfl hl.1 rfl (Nat.le_of_ble_eq_true rfl) dX3_knot_30 (fun H locs hC => ?_)
      cases hm
      exact g_iret fx hr hC rfl dX3_knot_33
    · replace hm := ifn hm c_4
      refine lv_iload hx hb dX3_knot_21 (lv_at hl 0 rfl) ?_
      refine lv_goto (tgt := 33) hx hb dX3_knot_23 (by decide) ?_
      cases hm
      exact g_iret fx hr hC rfl dX3_knot_33
  · replace hm := ifp hm c_1
    refine lv_iload_n hx hb dX3_knot_5 rfl (lv_at hl 2 rfl) ?_
    cases hm
    exact g_iret fx hr hC rfl dX3_knot_6
def D3b_under (b : Nat) (rf : DS → Int64 → Int32 → Option (Int32 × DS)) (τ : DS) (a1 : Int64) (a2 : Int32) : Option (Int32 × DS) :=
  if (lg_cmp a1 (0 : Int64)) = (0 : Int32) then (some ((-1 : Int32), τ)) else (if (lg_cmp a1 (1 : Int64)) = (0 : Int32) then (some ((-2 : Int32), τ)) else (if a2 < (12 : Int32) then (nm ((1 : Int32) <<< (((11 : Int32) - a2) &&& 31)) (fun x_4 => b2 (rf τ (a1 &&& (((1 : Int64) <<< ((x_4).toInt64 &&& 63)) - (1 : Int64))) (a2 + (1 : Int32))) (fun r_7 τ_6 => b2 (rf τ_6 (((a1).toUInt64 >>> ((x_4).toInt64.toUInt64 &&& Int64.toUInt64 63)).toInt64) (a2 + (1 : Int32))) (fun r_10 τ_9 => b2 (D3m_knot b τ_9 a2 r_7 r_10) (fun r_13 τ_12 => some (r_13, τ_12)))))) else (some ((-2 : Int32), τ))))
def D3m_under (b : Nat) (n : Nat) (τ : DS) (a1 : Int64) (a2 : Int32) : Option (Int32 × DS) := it3 (D3b_under b) n τ a1 a2
abbrev D3rm_under (n : Nat) : Room := { frames := n + 4, cells := 0, slots := 0, locals := 26 * n + 92 }
set_option maxRecDepth 100000 in
set_option maxHeartbeats 4000000 in
theorem D3c_under (l : Launch) {D : va_G} {cy : Nat → ClassId} {ad : List Nat} {q : Nat → Nat} {X : va_W} (b : Nat) (hbb : b = 17 ∨ b = 25) : ∀ (n : Nat) (τ : DS) (a1 : Int64) (a2 : Int32) {o : Int32 × DS}, it3 (D3b_under b) n τ a1 a2 = some o → DM l yX3_under cX3_under 7 (some .int) (D3rm_under n) D cy (dwd cy q X) ad [.ref (q b), .long a1, .int a2] τ (some (.int (o.1))) o.2 := by
  intro n
  induction n with
  | zero => intro τ a1 a2 o hm; exact (it3_z hm).elim
  | succ n0 ih =>
    intro τ a1 a2 o hm
    obtain ⟨rf, hrf⟩ : ∃ z, z = it3 (D3b_under b) n0 := ⟨_, rfl⟩
    replace hm : D3b_under b rf τ a1 a2 = some o := by rw [hrf]; exact hm
    replace ih : ∀ (τ : DS) (a1 : Int64) (a2 : Int32) {o : Int32 × DS}, rf τ a1 a2 = some o → DM l yX3_under cX3_under 7 (some .int) (D3rm_under n0) D cy (dwd cy q X) ad [.ref (q b), .long a1, .int a2] τ (some (.int (o.1))) o.2 := by rw [hrf]; exact ih
    clear hrf
    refine d_start RX3 rfl (by decide) (Nat.le_of_ble_eq_true rfl) ?_
    intro p e s m args below meth c fx sx hr hC ls hl
    have hx := fx.1
    have hb := fx.2.1
    have hR : n0 + 1 + 4 ≤ (D3rm_under (n0 + 1)).frames ∧ 26 * (n0 + 1) + 92 ≤ (D3rm_under (n0 + 1)).locals := ⟨Nat.le_refl _, Nat.le_refl _⟩
    have hf : 0 ≤ (D3rm_under (n0 + 1)).cells ∧ 0 ≤ (D3rm_under (n0 + 1)).slots := ⟨Nat.zero_le _, Nat.zero_le _⟩
    have hl : lv_has ls 7 [(0, .ref (q b)), (1, .long a1), (3, .int a2)] := hl
    unfold D3b_under at hm
    refine lv_lload_n hx hb dX3_under_0 rfl (lv_at hl 1 rfl) ?_
    refine lv_lconst (v := (0 : Int64)) hx hb dX3_under_1 (by decide) ?_
    refine W.lcmp hx hb dX3_under_2 ?_
    refine lv_if_ne (tgt := 8) hx hb dX3_under_3 (by decide) (fun c_1 => ?_) (fun c_1 => ?_)
    · replace hm := ifn hm c_1
      refine lv_lload_n hx hb dX3_under_8 rfl (lv_at hl 1 rfl) ?_
      refine lv_lconst (v := (1 : Int64)) hx hb dX3_under_9 (by decide) ?_
      refine W.lcmp hx hb dX3_under_10 ?_
      refine lv_if_eq (tgt := 20) hx hb dX3_under_11 (by decide) (fun c_2 => ?_) (fun c_2 => ?_)
      · replace hm := ifp hm c_2
        refine lv_bipush (v := (-2 : Int32)) hx hb dX3_under_20 (by decide) ?_
        cases hm
        exact g_iret fx hr hC rfl dX3_under_22
      · replace hm := ifn hm c_2
        refine lv_iload_n hx hb dX3_under_14 rfl (lv_at hl 2 rfl) ?_
        refine lv_bipush (v := (12 : Int32)) hx hb dX3_under_15 (by decide) ?_
        refine lv_icmp_lt (tgt := 23) hx hb dX3_under_17 (by decide) (fun c_3 => ?_) (fun c_3 => ?_)
        · replace hm := ifp hm c_3
          refine lv_iconst (v := (1 : Int32)) hx hb dX3_under_23 (by decide) ?_
          refine lv_bipush (v := (11 : Int32)) hx hb dX3_under_24 (by decide) ?_
          refine lv_iload_n hx hb dX3_under_26 rfl (lv_at hl 2 rfl) ?_
          refine lv_isub hx hb dX3_under_27 ?_
          refine lv_ishl hx hb dX3_under_28 ?_
          refine lv_topi (fun x_4 ex_4 => ?_)
          replace hm := nm_in hm ex_4
          refine lv_istore (lv' := [(4, .int x_4), (0, .ref (q b)), (1, .long a1), (3, .int a2)]) hx hb dX3_under_29 hl (by decide) rfl (fun ls hl => ?_)
          refine lv_aload_n hx hb dX3_under_31 rfl (lv_at hl 1 rfl) ?_
          refine lv_lload_n hx hb dX3_under_32 rfl (lv_at hl 2 rfl) ?_
          refine lv_lconst (v := (1 : Int64)) hx hb dX3_under_33 (by decide) ?_
          refine lv_iload hx hb dX3_under_34 (lv_at hl 0 rfl) ?_
          refine lv_lshl hx hb dX3_under_36 rfl ?_
          refine lv_lconst (v := (1 : Int64)) hx hb dX3_under_37 (by decide) ?_
          refine lv_lsub hx hb dX3_under_38 ?_
          refine lv_land hx hb dX3_under_39 ?_
          refine lv_iload_n hx hb dX3_under_40 rfl (lv_at hl 3 rfl) ?_
          refine lv_iconst (v := (1 : Int32)) hx hb dX3_under_41 (by decide) ?_
          refine lv_iadd hx hb dX3_under_42 ?_
          obtain ⟨r_7, τ_6, e_5, hm⟩ := b2_in hm
          refine d_callVi (ci := 3) (As := [.long (a1 &&& (((1 : Int64) <<< ((x_4).toInt64 &&& 63)) - (1 : Int64))), .int (a2 + (1 : Int32))]) (rest := []) fx sx hC dw_w (ih τ (a1 &&& (((1 : Int64) <<< ((x_4).toInt64 &&& 63)) - (1 : Int64))) (a2 + (1 : Int32)) e_5) k_701 D3k_under D3h_under rfl rfl (O_at (K3 hbb)) ⟨rfl, rfl⟩ ⟨Nat.le_trans (show _ ≤ n0 + 1 + 4 from (by omega : n0 + 4 + 1 ≤ n0 + 1 + 4)) hR.1, Nat.le_trans (show _ ≤ 26 * (n0 + 1) + 92 from (by omega : 8 + (7 + 11) + (26 * n0 + 92) ≤ 26 * (n0 + 1) + 92)) hR.2⟩ hf rfl hl.1 rfl (Nat.le_of_ble_eq_true rfl) dX3_under_43 (fun H locs hC => ?_)
          refine lv_istore (lv' := [(5, .int r_7), (4, .int x_4), (0, .ref (q b)), (1, .long a1), (3, .int a2)]) hx hb dX3_under_46 hl (by decide) rfl (fun ls hl => ?_)
          refine lv_aload_n hx hb dX3_under_48 rfl (lv_at hl 2 rfl) ?_
          refine lv_lload_n hx hb dX3_under_49 rfl (lv_at hl 3 rfl) ?_
          refine lv_iload hx hb dX3_under_50 (lv_at hl 1 rfl) ?_
          refine lv_lushr hx hb dX3_under_52 rfl ?_
          refine lv_iload_n hx hb dX3_under_53 rfl (lv_at hl 4 rfl) ?_
          refine lv_iconst (v := (1 : Int32)) hx hb dX3_under_54 (by decide) ?_
          refine lv_iadd hx hb dX3_under_55 ?_
          obtain ⟨r_10, τ_9, e_8, hm⟩ := b2_in hm
          refine d_callVi (ci := 3) (As := [.long ((a1).toUInt64 >>> ((x_4).toInt64.toUInt64 &&& Int64.toUInt64 63)).toInt64, .int (a2 + (1 : Int32))]) (rest := []) fx sx hC dw_w (ih τ_6 (((a1).toUInt64 >>> ((x_4).toInt64.toUInt64 &&& Int64.toUInt64 63)).toInt64) (a2 + (1 : Int32)) e_8) k_701 D3k_under D3h_under rfl rfl (O_at (K3 hbb)) ⟨rfl, rfl⟩ ⟨Nat.le_trans (show _ ≤ n0 + 1 + 4 from (by omega : n0 + 4 + 1 ≤ n0 + 1 + 4)) hR.1, Nat.le_trans (show _ ≤ 26 * (n0 + 1) + 92 from (by omega : 8 + (7 + 11) + (26 * n0 + 92) ≤ 26 * (n0 + 1) + 92)) hR.2⟩ hf rfl hl.1 rfl (Nat.le_of_ble_eq_true rfl) dX3_under_56 (fun H locs hC => ?_)
          refine lv_istore (lv' := [(6, .int r_10), (5, .int r_7), (4, .int x_4), (0, .ref (q b)), (1, .long a1), (3, .int a2)]) hx hb dX3_under_59 hl (by decide) rfl (fun ls hl => ?_)
          refine lv_aload_n hx hb dX3_under_61 rfl (lv_at hl 3 rfl) ?_
          refine lv_iload_n hx hb dX3_under_62 rfl (lv_at hl 5 rfl) ?_
          refine lv_iload hx hb dX3_under_63 (lv_at hl 1 rfl) ?_
          refine lv_iload hx hb dX3_under_65 (lv_at hl 0 rfl) ?_
          obtain ⟨r_13, τ_12, e_11, hm⟩ := b2_in hm
          refine d_callVi (ci := 3) (As := [.int a2, .int r_7, .int r_10]) (rest := []) fx sx hC dw_w (D3c_knot l b hbb τ_9 a2 r_7 r_10 e_11) k_705 D3k_knot D3h_knot rfl rfl (O_at (K3 hbb)) ⟨rfl, rfl⟩ ⟨Nat.le_trans (show _ ≤ n0 + 1 + 4 from (by omega : 3 + 1 ≤ n0 + 1 + 4)) hR.1, Nat.le_trans (show _ ≤ 26 * (n0 + 1) + 92 from (by omega : 8 + (5 + 11) + 68 ≤ 26 * (n0 + 1) + 92)) hR.2⟩ hf rfl hl.1 rfl (Nat.le_of_ble_eq_true rfl) dX3_under_67 (fun H locs hC => ?_)
          cases hm
          exact g_iret fx hr hC rfl dX3_under_70
        · replace hm := ifn hm c_3
          refine lv_bipush (v := (-2 : Int32)) hx hb dX3_under_20 (by decide) ?_
          cases hm
          exact g_iret fx hr hC rfl dX3_under_22
    · replace hm := ifp hm c_1
      refine lv_iconst (v := (-1 : Int32)) hx hb dX3_under_6 (by decide) ?_
      cases hm
      exact g_iret fx hr hC rfl dX3_under_7
def D3b_over (b : Nat) (rf : DS → Nat → Int32 → Int32 → Option (Int32 × DS)) (τ : DS) (a1 : Nat) (a2 : Int32) (a3 : Int32) : Option (Int32 × DS) :=
  if a3 < (0 : Int32) then (some ((-1 : Int32), τ)) else (if a3 < (64 : Int32) then (if a2 < (6 : Int32) then (b2 (rf τ a1 (a2 + (1 : Int32)) a3) (fun r_6 τ_5 => b2 (rf τ_5 a1 (a2 + (1 : Int32)) (a3 + ((32 : Int32) >>> (a2 &&& 31)))) (fun r_9 τ_8 => b2 (D3m_knot b τ_8 a2 r_6 r_9) (fun r_12 τ_11 => some (r_12, τ_11))))) else (gi a3 64 (b2 (D3m_under b 24 τ (τ.2.2 (79 + a1) (a3).toNatClampNeg) a2) (fun r_16 τ_15 => some (r_16, τ_15))))) else (some ((-1 : Int32), τ)))
def D3m_over (b : Nat) (n : Nat) (τ : DS) (a1 : Nat) (a2 : Int32) (a3 : Int32) : Option (Int32 × DS) := it4 (D3b_over b) n τ a1 a2 a3
abbrev D3rm_over (n : Nat) : Room := { frames := n + 29, cells := 0, slots := 0, locals := 25 * n + 742 }
set_option maxRecDepth 100000 in
set_option maxHeartbeats 4000000 in
theorem D3c_over (l : Launch) {D : va_G} {cy : Nat → ClassId} {ad : List Nat} {q : Nat → Nat} {X : va_W} (b : Nat) (hbb : b = 17 ∨ b = 25) : ∀ (n : Nat) (τ : DS) (a1 : Nat) (ha1 : a1 < 32) (a2 : Int32) (a3 : Int32) {o : Int32 × DS}, it4 (D3b_over b) n τ a1 a2 a3 = some o → DM l yX3_over cX3_over 6 (some .int) (D3rm_over n) D cy (dwd cy q X) ad [.ref (q b), .ref (q (47 + a1)), .int a2, .int a3] τ (some (.int (o.1))) o.2 := by
  intro n
  induction n with
  | zero => intro τ a1 ha1 a2 a3 o hm; exact (it4_z hm).elim
  | succ n0 ih =>
    intro τ a1 ha1 a2 a3 o hm
    obtain ⟨rf, hrf⟩ : ∃ z, z = it4 (D3b_over b) n0 := ⟨_, rfl⟩
    replace hm : D3b_over b rf τ a1 a2 a3 = some o := by rw [hrf]; exact hm
    replace ih : ∀ (τ : DS) (a1 : Nat) (ha1 : a1 < 32) (a2 : Int32) (a3 : Int32) {o : Int32 × DS}, rf τ a1 a2 a3 = some o → DM l yX3_over cX3_over 6 (some .int) (D3rm_over n0) D cy (dwd cy q X) ad [.ref (q b), .ref (q (47 + a1)), .int a2, .int a3] τ (some (.int (o.1))) o.2 := by rw [hrf]; exact ih
    clear hrf
    refine d_start RX3 rfl (by decide) (Nat.le_of_ble_eq_true rfl) ?_
    intro p e s m args below meth c fx sx hr hC ls hl
    have hx := fx.1
    have hb := fx.2.1
    have hR : n0 + 1 + 29 ≤ (D3rm_over (n0 + 1)).frames ∧ 25 * (n0 + 1) + 742 ≤ (D3rm_over (n0 + 1)).locals := ⟨Nat.le_refl _, Nat.le_refl _⟩
    have hf : 0 ≤ (D3rm_over (n0 + 1)).cells ∧ 0 ≤ (D3rm_over (n0 + 1)).slots := ⟨Nat.zero_le _, Nat.zero_le _⟩
    have hl : lv_has ls 6 [(0, .ref (q b)), (1, .ref (q (47 + a1))), (2, .int a2), (3, .int a3)] := hl
    unfold D3b_over at hm
    refine lv_iload_n hx hb dX3_over_0 rfl (lv_at hl 3 rfl) ?_
    refine lv_if_lt (tgt := 10) hx hb dX3_over_1 (by decide) (fun c_1 => ?_) (fun c_1 => ?_)
    · replace hm := ifp hm c_1
      refine lv_iconst (v := (-1 : Int32)) hx hb dX3_over_10 (by decide) ?_
      cases hm
      exact g_iret fx hr hC rfl dX3_over_11
    · replace hm := ifn hm c_1
      refine lv_iload_n hx hb dX3_over_4 rfl (lv_at hl 3 rfl) ?_
      refine lv_bipush (v := (64 : Int32)) hx hb dX3_over_5 (by decide) ?_
      refine lv_icmp_lt (tgt := 12) hx hb dX3_over_7 (by decide) (fun c_2 => ?_) (fun c_2 => ?_)
      · replace hm := ifp hm c_2
        refine lv_iload_n hx hb dX3_over_12 rfl (lv_at hl 2 rfl) ?_
        refine lv_bipush (v := (6 : Int32)) hx hb dX3_over_13 (by decide) ?_
        refine lv_icmp_lt (tgt := 30) hx hb dX3_over_15 (by decide) (fun c_3 => ?_) (fun c_3 => ?_)
        · replace hm := ifp hm c_3
          refine lv_aload_n hx hb dX3_over_30 rfl (lv_at hl 0 rfl) ?_
          refine lv_aload_n hx hb dX3_over_31 rfl (lv_at hl 1 rfl) ?_
          refine lv_iload_n hx hb dX3_over_32 rfl (lv_at hl 2 rfl) ?_
          refine lv_iconst (v := (1 : Int32)) hx hb dX3_over_33 (by decide) ?_
          refine lv_iadd hx hb dX3_over_34 ?_
          refine lv_iload_n hx hb dX3_over_35 rfl (lv_at hl 3 rfl) ?_
          obtain ⟨r_6, τ_5, e_4, hm⟩ := b2_in hm
          refine d_callVi (ci := 3) (As := [.ref (q (47 + a1)), .int (a2 + (1 : Int32)), .int a3]) (rest := []) fx sx hC dw_w (ih τ a1 ha1 (a2 + (1 : Int32)) a3 e_4) k_696 D3k_over D3h_over rfl rfl (O_at (K3 hbb)) ⟨rfl, rfl⟩ ⟨Nat.le_trans (show _ ≤ n0 + 1 + 29 from (by omega : n0 + 29 + 1 ≤ n0 + 1 + 29)) hR.1, Nat.le_trans (show _ ≤ 25 * (n0 + 1) + 742 from (by omega : 8 + (6 + 11) + (25 * n0 + 742) ≤ 25 * (n0 + 1) + 742)) hR.2⟩ hf rfl hl.1 rfl (Nat.le_of_ble_eq_true rfl) dX3_over_36 (fun H locs hC => ?_)
          refine lv_istore (lv' := [(4, .int r_6), (0, .ref (q b)), (1, .ref (q (47 + a1))), (2, .int a2), (3, .int a3)]) hx hb dX3_over_39 hl (by decide) rfl (fun ls hl => ?_)
          refine lv_aload_n hx hb dX3_over_41 rfl (lv_at hl 1 rfl) ?_
          refine lv_aload_n hx hb dX3_over_42 rfl (lv_at hl 2 rfl) ?_
          refine lv_iload_n hx hb dX3_over_43 rfl (lv_at hl 3 rfl) ?_
          refine lv_iconst (v := (1 : Int32)) hx hb dX3_over_44 (by decide) ?_
          refine lv_iadd hx hb dX3_over_45 ?_
          refine lv_iload_n hx hb dX3_over_46 rfl (lv_at hl 4 rfl) ?_
          refine lv_bipush (v := (32 : Int32)) hx hb dX3_over_47 (by decide) ?_
          refine lv_iload_n hx hb dX3_over_49 rfl (lv_at hl 3 rfl) ?_
          refine lv_ishr hx hb dX3_over_50 ?_
          refine lv_iadd hx hb dX3_over_51 ?_
          obtain ⟨r_9, τ_8, e_7, hm⟩ := b2_in hm
          refine d_callVi (ci := 3) (As := [.ref (q (47 + a1)), .int (a2 + (1 : Int32)), .int (a3 + ((32 : Int32) >>> (a2 &&& 31)))]) (rest := []) fx sx hC dw_w (ih τ_5 a1 ha1 (a2 + (1 : Int32)) (a3 + ((32 : Int32) >>> (a2 &&& 31))) e_7) k_696 D3k_over D3h_over rfl rfl (O_at (K3 hbb)) ⟨rfl, rfl⟩ ⟨Nat.le_trans (show _ ≤ n0 + 1 + 29 from (by omega : n0 + 29 + 1 ≤ n0 + 1 + 29)) hR.1, Nat.le_trans (show _ ≤ 25 * (n0 + 1) + 742 from (by omega : 8 + (6 + 11) + (25 * n0 + 742) ≤ 25 * (n0 + 1) + 742)) hR.2⟩ hf rfl hl.1 rfl (Nat.le_of_ble_eq_true rfl) dX3_over_52 (fun H locs hC => ?_)
          refine lv_istore (lv' := [(5, .int r_9), (4, .int r_6), (0, .ref (q b)), (1, .ref (q (47 + a1))), (2, .int a2), (3, .int a3)]) hx hb dX3_over_55 hl (by decide) rfl (fun ls hl => ?_)
          refine lv_aload_n hx hb dX3_over_57 rfl (lv_at hl 2 rfl) ?_
          refine lv_iload_n hx hb dX3_over_58 rfl (lv_at hl 4 rfl) ?_
          refine lv_iload hx hb dX3_over_59 (lv_at hl 1 rfl) ?_
          refine lv_iload hx hb dX3_over_61 (lv_at hl 0 rfl) ?_
          obtain ⟨r_12, τ_11, e_10, hm⟩ := b2_in hm
          refine d_callVi (ci := 3) (As := [.int a2, .int r_6, .int r_9]) (rest := []) fx sx hC dw_w (D3c_knot l b hbb τ_8 a2 r_6 r_9 e_10) k_705 D3k_knot D3h_knot rfl rfl (O_at (K3 hbb)) ⟨rfl, rfl⟩ ⟨Nat.le_trans (show _ ≤ n0 + 1 + 29 from (by omega : 3 + 1 ≤ n0 + 1 + 29)) hR.1, Nat.le_trans (show _ ≤ 25 * (n0 + 1) + 742 from (by omega : 8 + (5 + 11) + 68 ≤ 25 * (n0 + 1) + 742)) hR.2⟩ hf rfl hl.1 rfl (Nat.le_of_ble_eq_true rfl) dX3_over_63 (fun H locs hC => ?_)
          cases hm
          exact g_iret fx hr hC rfl dX3_over_66
        · replace hm := ifn hm c_3
          refine lv_aload_n hx hb dX3_over_18 rfl (lv_at hl 0 rfl) ?_
          refine lv_aload_n hx hb dX3_over_19 rfl (lv_at hl 1 rfl) ?_
          refine D7g_1 ha1 fx hC k_700 dX3_over_20 ?_
          refine lv_iload_n hx hb dX3_over_23 rfl (lv_at hl 3 rfl) ?_
          have h_13 := (gi_in hm).1
          replace hm := (gi_in hm).2
          refine DLj fx hC (K7w ha1) h_13 dX3_over_24 ?_
          refine lv_iload_n hx hb dX3_over_25 rfl (lv_at hl 2 rfl) ?_
          obtain ⟨r_16, τ_15, e_14, hm⟩ := b2_in hm
          refine d_callVi (ci := 3) (As := [.long (τ.2.2 (79 + a1) (a3).toNatClampNeg), .int a2]) (rest := []) fx sx hC dw_w (D3c_under l b hbb 24 τ (τ.2.2 (79 + a1) (a3).toNatClampNeg) a2 e_14) k_701 D3k_under D3h_under rfl rfl (O_at (K3 hbb)) ⟨rfl, rfl⟩ ⟨Nat.le_trans (show _ ≤ n0 + 1 + 29 from (by omega : 28 + 1 ≤ n0 + 1 + 29)) hR.1, Nat.le_trans (show _ ≤ 25 * (n0 + 1) + 742 from (by omega : 8 + (7 + 11) + 716 ≤ 25 * (n0 + 1) + 742)) hR.2⟩ hf rfl hl.1 rfl (Nat.le_of_ble_eq_true rfl) dX3_over_26 (fun H locs hC => ?_)
          cases hm
          exact g_iret fx hr hC rfl dX3_over_29
      · replace hm := ifn hm c_2
        refine lv_iconst (v := (-1 : Int32)) hx hb dX3_over_10 (by decide) ?_
        cases hm
        exact g_iret fx hr hC rfl dX3_over_11
def D3m_list (b : Nat) (τ : DS) (a1 : Nat) : Option (Int32 × DS) :=
  b1 (D3m_clear b τ) (fun τ_2 => b2 (D3m_over b 24 τ_2 a1 (0 : Int32) (0 : Int32)) (fun r_5 τ_4 => some ((τ_4.1 b 0), τ_4)))
abbrev D3rm_list : Room := { frames := 54, cells := 0, slots := 0, locals := 1367 }
set_option maxRecDepth 100000 in
set_option maxHeartbeats 4000000 in
theorem D3c_list (l : Launch) {D : va_G} {cy : Nat → ClassId} {ad : List Nat} {q : Nat → Nat} {X : va_W} (b : Nat) (hbb : b = 17 ∨ b = 25) (τ : DS) (a1 : Nat) (ha1 : a1 < 32) {o : Int32 × DS} (hm : D3m_list b τ a1 = some o) : DM l yX3_list cX3_list 2 (some .int) D3rm_list D cy (dwd cy q X) ad [.ref (q b), .ref (q (47 + a1))] τ (some (.int (o.1))) o.2 := by
  refine d_start RX3 rfl (by decide) (Nat.le_of_ble_eq_true rfl) ?_
  intro p e s m args below meth c fx sx hr hC ls hl
  have hx := fx.1
  have hb := fx.2.1
  have hR : 54 ≤ (D3rm_list).frames ∧ 1367 ≤ (D3rm_list).locals := ⟨Nat.le_refl _, Nat.le_refl _⟩
  have hf : 0 ≤ (D3rm_list).cells ∧ 0 ≤ (D3rm_list).slots := ⟨Nat.zero_le _, Nat.zero_le _⟩
  have hl : lv_has ls 2 [(0, .ref (q b)), (1, .ref (q (47 + a1)))] := hl
  unfold D3m_list at hm
  refine lv_aload_n hx hb dX3_list_0 rfl (lv_at hl 0 rfl) ?_
  obtain ⟨τ_2, e_1, hm⟩ := b1_in hm
  refine d_callVv (ci := 3) (As := []) (rest := []) fx sx hC dw_w (D3c_clear l b hbb τ e_1) k_691 D3k_clear D3h_clear rfl rfl (O_at (K3 hbb)) ⟨rfl, rfl⟩ ⟨Nat.le_trans (Nat.le_of_ble_eq_true rfl) hR.1, Nat.le_trans (Nat.le_of_ble_eq_true rfl) hR.2⟩ hf rfl hl.1 rfl (Nat.le_of_ble_eq_true rfl) dX3_list_1 (fun H locs hC => ?_)
  refine lv_aload_n hx hb dX3_list_4 rfl (lv_at hl 0 rfl) ?_
  refine lv_aload_n hx hb dX3_list_5 rfl (lv_at hl 1 rfl) ?_
  refine lv_iconst (v := (0 : Int32)) hx hb dX3_list_6 (by decide) ?_
  refine lv_iconst (v := (0 : Int32)) hx hb dX3_list_7 (by decide) ?_
  obtain ⟨r_5, τ_4, e_3, hm⟩ := b2_in hm
  refine d_callVi (ci := 3) (As := [.ref (q (47 + a1)), .int (0 : Int32), .int (0 : Int32)]) (rest := []) fx sx hC dw_w (D3c_over l b hbb 24 τ_2 a1 ha1 (0 : Int32) (0 : Int32) e_3) k_696 D3k_over D3h_over rfl rfl (O_at (K3 hbb)) ⟨rfl, rfl⟩ ⟨Nat.le_trans (Nat.le_of_ble_eq_true rfl) hR.1, Nat.le_trans (Nat.le_of_ble_eq_true rfl) hR.2⟩ hf rfl hl.1 rfl (Nat.le_of_ble_eq_true rfl) dX3_list_8 (fun H locs hC => ?_)
  refine lv_pop hx hb dX3_list_11 rfl ?_
  refine lv_aload_n hx hb dX3_list_12 rfl (lv_at hl 0 rfl) ?_
  refine D3g_0 hbb fx hC k_690 dX3_list_13 ?_
  cases hm
  exact g_iret fx hr hC rfl dX3_list_16
def D3m_isLead (a1 : Int32) (a2 : Int32) : Int32 :=
  if a1 < (-2 : Int32) then ((0 : Int32)) else (if a2 ≤ a1 then ((0 : Int32)) else ((1 : Int32)))
abbrev D3rm_isLead : Room := { frames := 0, cells := 0, slots := 0, locals := 0 }
set_option maxRecDepth 100000 in
set_option maxHeartbeats 4000000 in
theorem D3c_isLead (l : Launch) {D : va_G} {cy : Nat → ClassId} {ad : List Nat} {q : Nat → Nat} {X : va_W} (τ : DS) (a1 : Int32) (a2 : Int32) : DM l yX3_isLead cX3_isLead 2 (some .boolean) D3rm_isLead D cy (dwd cy q X) ad [.int a1, .int a2] τ (some (.int (D3m_isLead a1 a2))) τ := by
  refine d_start RX3 rfl (by decide) (Nat.le_of_ble_eq_true rfl) ?_
  intro p e s m args below meth c fx sx hr hC ls hl
  have hx := fx.1
  have hb := fx.2.1
  have hR : 0 ≤ (D3rm_isLead).frames ∧ 0 ≤ (D3rm_isLead).locals := ⟨Nat.le_refl _, Nat.le_refl _⟩
  have hf : 0 ≤ (D3rm_isLead).cells ∧ 0 ≤ (D3rm_isLead).slots := ⟨Nat.zero_le _, Nat.zero_le _⟩
  have hl : lv_has ls 2 [(0, .int a1), (1, .int a2)] := hl
  obtain ⟨o, hm⟩ : ∃ z, z = D3m_isLead a1 a2 := ⟨_, rfl⟩
  rw [← hm]
  replace hm := hm.symm
  unfold D3m_isLead at hm
  refine lv_iload_n hx hb dX3_isLead_0 rfl (lv_at hl 0 rfl) ?_
  refine lv_bipush (v := (-2 : Int32)) hx hb dX3_isLead_1 (by decide) ?_
  refine lv_icmp_lt (tgt := 15) hx hb dX3_isLead_3 (by decide) (fun c_1 => ?_) (fun c_1 => ?_)
  · replace hm := ifp hm c_1
    refine lv_iconst (v := (0 : Int32)) hx hb dX3_isLead_15 (by decide) ?_
    exact g_zret fx hr rfl hC (by rw [← hm]) dX3_isLead_16
  · replace hm := ifn hm c_1
    refine lv_iload_n hx hb dX3_isLead_6 rfl (lv_at hl 0 rfl) ?_
    refine lv_iload_n hx hb dX3_isLead_7 rfl (lv_at hl 1 rfl) ?_
    refine lv_icmp_ge (tgt := 15) hx hb dX3_isLead_8 (by decide) (fun c_2 => ?_) (fun c_2 => ?_)
    · replace hm := ifp hm c_2
      refine lv_iconst (v := (0 : Int32)) hx hb dX3_isLead_15 (by decide) ?_
      exact g_zret fx hr rfl hC (by rw [← hm]) dX3_isLead_16
    · replace hm := ifn hm c_2
      refine lv_iconst (v := (1 : Int32)) hx hb dX3_isLead_11 (by decide) ?_
      refine lv_goto (tgt := 16) hx hb dX3_isLead_12 (by decide) ?_
      exact g_zret fx hr rfl hC (by rw [← hm]) dX3_isLead_16
theorem D3z_isLead (a1 : Int32) (a2 : Int32) : narrow .boolean (.int (D3m_isLead a1 a2)) = .int (D3m_isLead a1 a2) := by
  unfold D3m_isLead
  repeat' (first | rfl | split)
def D3m_roadOfLead (b : Nat) (τ : DS) (a1 : Int32) : Option Int32 :=
  if (D3m_isCell b τ a1 (0 : Int32)) = (0 : Int32) then (some (12 : Int32)) else (gi (0 : Int32) 4 (gi a1 768 (some (τ.2.1 (b + 2 + ((0 : Int32)).toNatClampNeg) (a1).toNatClampNeg))))
abbrev D3rm_roadOfLead : Room := { frames := 1, cells := 0, slots := 0, locals := 22 }
set_option maxRecDepth 100000 in
set_option maxHeartbeats 4000000 in
theorem D3c_roadOfLead (l : Launch) {D : va_G} {cy : Nat → ClassId} {ad : List Nat} {q : Nat → Nat} {X : va_W} (b : Nat) (hbb : b = 17 ∨ b = 25) (τ : DS) (a1 : Int32) {o : Int32} (hm : D3m_roadOfLead b τ a1 = some o) : DM l yX3_roadOfLead cX3_roadOfLead 2 (some .int) D3rm_roadOfLead D cy (dwd cy q X) ad [.ref (q b), .int a1] τ (some (.int (o))) τ := by
  refine d_start RX3 rfl (by decide) (Nat.le_of_ble_eq_true rfl) ?_
  intro p e s m args below meth c fx sx hr hC ls hl
  have hx := fx.1
  have hb := fx.2.1
  have hR : 1 ≤ (D3rm_roadOfLead).frames ∧ 22 ≤ (D3rm_roadOfLead).locals := ⟨Nat.le_refl _, Nat.le_refl _⟩
  have hf : 0 ≤ (D3rm_roadOfLead).cells ∧ 0 ≤ (D3rm_roadOfLead).slots := ⟨Nat.zero_le _, Nat.zero_le _⟩
  have hl : lv_has ls 2 [(0, .ref (q b)), (1, .int a1)] := hl
  unfold D3m_roadOfLead at hm
  refine lv_aload_n hx hb dX3_roadOfLead_0 rfl (lv_at hl 0 rfl) ?_
  refine lv_iload_n hx hb dX3_roadOfLead_1 rfl (lv_at hl 1 rfl) ?_
  refine lv_iconst (v := (0 : Int32)) hx hb dX3_roadOfLead_2 (by decide) ?_
  refine d_callVi (ci := 3) (As := [.int a1, .int (0 : Int32)]) (rest := []) fx sx hC dw_w (D3c_isCell l b hbb τ a1 (0 : Int32)) k_716 D3k_isCell D3h_isCell rfl rfl (O_at (K3 hbb)) ⟨rfl, rfl⟩ ⟨Nat.le_trans (Nat.le_of_ble_eq_true rfl) hR.1, Nat.le_trans (Nat.le_of_ble_eq_true rfl) hR.2⟩ hf rfl hl.1 rfl (Nat.le_of_ble_eq_true rfl) dX3_roadOfLead_3 (fun H locs hC => ?_)
  refine lv_if_eq (tgt := 20) hx hb dX3_roadOfLead_6 (by decide) (fun c_1 => ?_) (fun c_1 => ?_)
  · replace hm := ifp hm c_1
    refine lv_bipush (v := (12 : Int32)) hx hb dX3_roadOfLead_20 (by decide) ?_
    cases hm
    exact g_iret fx hr hC rfl dX3_roadOfLead_22
  · replace hm := ifn hm c_1
    refine lv_aload_n hx hb dX3_roadOfLead_9 rfl (lv_at hl 0 rfl) ?_
    refine D3g_1 hbb fx hC k_74 dX3_roadOfLead_10 ?_
    refine lv_iconst (v := (0 : Int32)) hx hb dX3_roadOfLead_13 (by decide) ?_
    have h_2 := (gi_in hm).1
    replace hm := (gi_in hm).2
    refine DLq fx hC (K3q hbb) (Or.inr rfl) h_2 dX3_roadOfLead_14 ?_
    refine lv_iload_n hx hb dX3_roadOfLead_15 rfl (lv_at hl 1 rfl) ?_
    have h_3 := (gi_in hm).1
    replace hm := (gi_in hm).2
    refine DLi fx hC (K3c hbb (vp_lt h_2)) h_3 dX3_roadOfLead_16 ?_
    refine lv_goto (tgt := 22) hx hb dX3_roadOfLead_17 (by decide) ?_
    cases hm
    exact g_iret fx hr hC rfl dX3_roadOfLead_22
def D3m_wrongness (b : Nat) (τ : DS) (a1 : Int32) (a2 : Nat) : Option Int32 :=
  gi (0 : Int32) 4 (gi a1 768 (nm (τ.2.1 (b + 2 + ((0 : Int32)).toNatClampNeg) (a1).toNatClampNeg) (fun x_3 => gi (1 : Int32) 4 (gi a1 768 (nm (τ.2.1 (b + 2 + ((1 : Int32)).toNatClampNeg) (a1).toNatClampNeg) (fun x_6 => gi (2 : Int32) 4 (gi a1 768 (nm (τ.2.1 (b + 2 + ((2 : Int32)).toNatClampNeg) (a1).toNatClampNeg) (fun x_9 => if x_3 < (0 : Int32) then (some (1 : Int32)) else (if (12 : Int32) ≤ x_3 then (some (1 : Int32)) else (if (D3m_isLead x_6 a1) = (0 : Int32) then (some (1 : Int32)) else (if (D3m_isLead x_9 a1) = (0 : Int32) then (some (1 : Int32)) else (b1 (D3m_roadOfLead b τ x_6) (fun r_15 => if r_15 ≤ x_3 then (some (2 : Int32)) else (b1 (D3m_roadOfLead b τ x_9) (fun r_18 => if x_3 < r_18 then (if x_9 = (-1 : Int32) then (some (3 : Int32)) else (b1 (D3m_find a2 τ x_3 x_6 x_9) (fun r_22 => if r_22 < (0 : Int32) then (gi (3 : Int32) 4 (gi a1 768 (b1 (D3m_countOf b τ x_6) (fun r_27 => b1 (D3m_countOf b τ x_9) (fun r_29 => if (τ.2.1 (b + 2 + ((3 : Int32)).toNatClampNeg) (a1).toNatClampNeg) = (r_27 + r_29) then (some (0 : Int32)) else (some (5 : Int32))))))) else (some (4 : Int32))))) else (some (2 : Int32))))))))))))))))))
abbrev D3rm_wrongness : Room := { frames := 2, cells := 0, slots := 0, locals := 48 }
set_option maxRecDepth 100000 in
set_option maxHeartbeats 4000000 in
theorem D3c_wrongness (l : Launch) {D : va_G} {cy : Nat → ClassId} {ad : List Nat} {q : Nat → Nat} {X : va_W} (b : Nat) (hbb : b = 17 ∨ b = 25) (τ : DS) (a1 : Int32) (a2 : Nat) (ha2 : a2 = 17 ∨ a2 = 25) {o : Int32} (hm : D3m_wrongness b τ a1 a2 = some o) : DM l yX3_wrongness cX3_wrongness 6 (some .int) D3rm_wrongness D cy (dwd cy q X) ad [.ref (q b), .int a1, .ref (q a2)] τ (some (.int (o))) τ := by
  refine d_start RX3 rfl (by decide) (Nat.le_of_ble_eq_true rfl) ?_
  intro p e s m args below meth c fx sx hr hC ls hl
  have hx := fx.1
  have hb := fx.2.1
  have hR : 2 ≤ (D3rm_wrongness).frames ∧ 48 ≤ (D3rm_wrongness).locals := ⟨Nat.le_refl _, Nat.le_refl _⟩
  have hf : 0 ≤ (D3rm_wrongness).cells ∧ 0 ≤ (D3rm_wrongness).slots := ⟨Nat.zero_le _, Nat.zero_le _⟩
  have hl : lv_has ls 6 [(0, .ref (q b)), (1, .int a1), (2, .ref (q a2))] := hl
  unfold D3m_wrongness at hm
  refine lv_aload_n hx hb dX3_wrongness_0 rfl (lv_at hl 0 rfl) ?_
  refine D3g_1 hbb fx hC k_74 dX3_wrongness_1 ?_
  refine lv_iconst (v := (0 : Int32)) hx hb dX3_wrongness_4 (by decide) ?_
  have h_1 := (gi_in hm).1
  replace hm := (gi_in hm).2
  refine DLq fx hC (K3q hbb) (Or.inr rfl) h_1 dX3_wrongness_5 ?_
  refine lv_iload_n hx hb dX3_wrongness_6 rfl (lv_at hl 1 rfl) ?_
  have h_2 := (gi_in hm).1
  replace hm := (gi_in hm).2
  refine DLi fx hC (K3c hbb (vp_lt h_1)) h_2 dX3_wrongness_7 ?_
  refine lv_topi (fun x_3 ex_3 => ?_)
  replace hm := nm_in hm ex_3
  refine lv_istore_n (lv' := [(3, .int x_3), (0, .ref (q b)), (1, .int a1), (2, .ref (q a2))]) hx hb dX3_wrongness_8 rfl hl (by decide) rfl (fun ls hl => ?_)
  refine lv_aload_n hx hb dX3_wrongness_9 rfl (lv_at hl 1 rfl) ?_
  refine D3g_1 hbb fx hC k_74 dX3_wrongness_10 ?_
  refine lv_iconst (v := (1 : Int32)) hx hb dX3_wrongness_13 (by decide) ?_
  have h_4 := (gi_in hm).1
  replace hm := (gi_in hm).2
  refine DLq fx hC (K3q hbb) (Or.inr rfl) h_4 dX3_wrongness_14 ?_
  refine lv_iload_n hx hb dX3_wrongness_15 rfl (lv_at hl 2 rfl) ?_
  have h_5 := (gi_in hm).1
  replace hm := (gi_in hm).2
  refine DLi fx hC (K3c hbb (vp_lt h_4)) h_5 dX3_wrongness_16 ?_
  refine lv_topi (fun x_6 ex_6 => ?_)
  replace hm := nm_in hm ex_6
  refine lv_istore (lv' := [(4, .int x_6), (3, .int x_3), (0, .ref (q b)), (1, .int a1), (2, .ref (q a2))]) hx hb dX3_wrongness_17 hl (by decide) rfl (fun ls hl => ?_)
  refine lv_aload_n hx hb dX3_wrongness_19 rfl (lv_at hl 2 rfl) ?_
  refine D3g_1 hbb fx hC k_74 dX3_wrongness_20 ?_
  refine lv_iconst (v := (2 : Int32)) hx hb dX3_wrongness_23 (by decide) ?_
  have h_7 := (gi_in hm).1
  replace hm := (gi_in hm).2
  refine DLq fx hC (K3q hbb) (Or.inr rfl) h_7 dX3_wrongness_24 ?_
  refine lv_iload_n hx hb dX3_wrongness_25 rfl (lv_at hl 3 rfl) ?_
  have h_8 := (gi_in hm).1
  replace hm := (gi_in hm).2
  refine DLi fx hC (K3c hbb (vp_lt h_7)) h_8 dX3_wrongness_26 ?_
  refine lv_topi (fun x_9 ex_9 => ?_)
  replace hm := nm_in hm ex_9
  refine lv_istore (lv' := [(5, .int x_9), (4, .int x_6), (3, .int x_3), (0, .ref (q b)), (1, .int a1), (2, .ref (q a2))]) hx hb dX3_wrongness_27 hl (by decide) rfl (fun ls hl => ?_)
  refine lv_iload_n hx hb dX3_wrongness_29 rfl (lv_at hl 2 rfl) ?_
  refine lv_if_lt (tgt := 57) hx hb dX3_wrongness_30 (by decide) (fun c_10 => ?_) (fun c_10 => ?_)
  · replace hm := ifp hm c_10
    refine lv_iconst (v := (1 : Int32)) hx hb dX3_wrongness_57 (by decide) ?_
    cases hm
    exact g_iret fx hr hC rfl dX3_wrongness_58
  · replace hm := ifn hm c_10
    refine lv_iload_n hx hb dX3_wrongness_33 rfl (lv_at hl 2 rfl) ?_
    refine lv_bipush (v := (12 : Int32)) hx hb dX3_wrongness_34 (by decide) ?_
    refine lv_icmp_ge (tgt := 57) hx hb dX3_wrongness_36 (by decide) (fun c_11 => ?_) (fun c_11 => ?_)
    · replace hm := ifp hm c_11
      refine lv_iconst (v := (1 : Int32)) hx hb dX3_wrongness_57 (by decide) ?_
      cases hm
      exact g_iret fx hr hC rfl dX3_wrongness_58
    · replace hm := ifn hm c_11
      refine lv_iload hx hb dX3_wrongness_39 (lv_at hl 1 rfl) ?_
      refine lv_iload_n hx hb dX3_wrongness_41 rfl (lv_at hl 4 rfl) ?_
      refine d_callSi (As := [.int x_6, .int a1]) (rest := []) fx sx hC dw_w (D3c_isLead l τ x_6 a1) k_959 D3k_isLead D3h_isLead ⟨rfl, rfl⟩ ⟨Nat.le_trans (Nat.le_of_ble_eq_true rfl) hR.1, Nat.le_trans (Nat.le_of_ble_eq_true rfl) hR.2⟩ hf rfl hl.1 rfl (Nat.le_of_ble_eq_true rfl) dX3_wrongness_42 (fun H locs hC => ?_)
      refine lv_if_eq (tgt := 57) hx hb dX3_wrongness_45 (by decide) (fun c_12 => ?_) (fun c_12 => ?_)
      · replace hm := ifp hm c_12
        refine lv_iconst (v := (1 : Int32)) hx hb dX3_wrongness_57 (by decide) ?_
        cases hm
        exact g_iret fx hr hC rfl dX3_wrongness_58
      · replace hm := ifn hm c_12
        refine lv_iload hx hb dX3_wrongness_48 (lv_at hl 0 rfl) ?_
        refine lv_iload_n hx hb dX3_wrongness_50 rfl (lv_at hl 4 rfl) ?_
        refine d_callSi (As := [.int x_9, .int a1]) (rest := []) fx sx hC dw_w (D3c_isLead l τ x_9 a1) k_959 D3k_isLead D3h_isLead ⟨rfl, rfl⟩ ⟨Nat.le_trans (Nat.le_of_ble_eq_true rfl) hR.1, Nat.le_trans (Nat.le_of_ble_eq_true rfl) hR.2⟩ hf rfl hl.1 rfl (Nat.le_of_ble_eq_true rfl) dX3_wrongness_51 (fun H locs hC => ?_)
        refine lv_if_ne (tgt := 59) hx hb dX3_wrongness_54 (by decide) (fun c_13 => ?_) (fun c_13 => ?_)
        · replace hm := ifn hm c_13
          refine lv_aload_n hx hb dX3_wrongness_59 rfl (lv_at hl 3 rfl) ?_
          refine lv_iload hx hb dX3_wrongness_60 (lv_at hl 1 rfl) ?_
          obtain ⟨r_15, e_14, hm⟩ := b1_in hm
          refine d_callVi (ci := 3) (As := [.int x_6]) (rest := []) fx sx hC dw_w (D3c_roadOfLead l b hbb τ x_6 e_14) k_962 D3k_roadOfLead D3h_roadOfLead rfl rfl (O_at (K3 hbb)) ⟨rfl, rfl⟩ ⟨Nat.le_trans (Nat.le_of_ble_eq_true rfl) hR.1, Nat.le_trans (Nat.le_of_ble_eq_true rfl) hR.2⟩ hf rfl hl.1 rfl (Nat.le_of_ble_eq_true rfl) dX3_wrongness_62 (fun H locs hC => ?_)
          refine lv_iload_n hx hb dX3_wrongness_65 rfl (lv_at hl 2 rfl) ?_
          refine lv_icmp_le (tgt := 79) hx hb dX3_wrongness_66 (by decide) (fun c_16 => ?_) (fun c_16 => ?_)
          · replace hm := ifp hm c_16
            refine lv_iconst (v := (2 : Int32)) hx hb dX3_wrongness_79 (by decide) ?_
            cases hm
            exact g_iret fx hr hC rfl dX3_wrongness_80
          · replace hm := ifn hm c_16
            refine lv_aload_n hx hb dX3_wrongness_69 rfl (lv_at hl 3 rfl) ?_
            refine lv_iload hx hb dX3_wrongness_70 (lv_at hl 0 rfl) ?_
            obtain ⟨r_18, e_17, hm⟩ := b1_in hm
            refine d_callVi (ci := 3) (As := [.int x_9]) (rest := []) fx sx hC dw_w (D3c_roadOfLead l b hbb τ x_9 e_17) k_962 D3k_roadOfLead D3h_roadOfLead rfl rfl (O_at (K3 hbb)) ⟨rfl, rfl⟩ ⟨Nat.le_trans (Nat.le_of_ble_eq_true rfl) hR.1, Nat.le_trans (Nat.le_of_ble_eq_true rfl) hR.2⟩ hf rfl hl.1 rfl (Nat.le_of_ble_eq_true rfl) dX3_wrongness_72 (fun H locs hC => ?_)
            refine lv_iload_n hx hb dX3_wrongness_75 rfl (lv_at hl 2 rfl) ?_
            refine lv_icmp_gt (tgt := 81) hx hb dX3_wrongness_76 (by decide) (fun c_19 => ?_) (fun c_19 => ?_)
            · replace hm := ifp hm c_19
              refine lv_iload hx hb dX3_wrongness_81 (lv_at hl 0 rfl) ?_
              refine lv_iconst (v := (-1 : Int32)) hx hb dX3_wrongness_83 (by decide) ?_
              refine lv_icmp_ne (tgt := 89) hx hb dX3_wrongness_84 (by decide) (fun c_20 => ?_) (fun c_20 => ?_)
              · replace hm := ifn hm c_20
                refine lv_aload_n hx hb dX3_wrongness_89 rfl (lv_at hl 5 rfl) ?_
                refine lv_iload_n hx hb dX3_wrongness_90 rfl (lv_at hl 2 rfl) ?_
                refine lv_iload hx hb dX3_wrongness_91 (lv_at hl 1 rfl) ?_
                refine lv_iload hx hb dX3_wrongness_93 (lv_at hl 0 rfl) ?_
                obtain ⟨r_22, e_21, hm⟩ := b1_in hm
                refine d_callVi (ci := 3) (As := [.int x_3, .int x_6, .int x_9]) (rest := []) fx sx hC dw_w (D3c_find l a2 ha2 τ x_3 x_6 x_9 e_21) k_709 D3k_find D3h_find rfl rfl (O_at (K3 ha2)) ⟨rfl, rfl⟩ ⟨Nat.le_trans (Nat.le_of_ble_eq_true rfl) hR.1, Nat.le_trans (Nat.le_of_ble_eq_true rfl) hR.2⟩ hf rfl hl.1 rfl (Nat.le_of_ble_eq_true rfl) dX3_wrongness_95 (fun H locs hC => ?_)
                refine lv_if_lt (tgt := 103) hx hb dX3_wrongness_98 (by decide) (fun c_23 => ?_) (fun c_23 => ?_)
                · replace hm := ifp hm c_23
                  refine lv_aload_n hx hb dX3_wrongness_103 rfl (lv_at hl 3 rfl) ?_
                  refine D3g_1 hbb fx hC k_74 dX3_wrongness_104 ?_
                  refine lv_iconst (v := (3 : Int32)) hx hb dX3_wrongness_107 (by decide) ?_
                  have h_24 := (gi_in hm).1
                  replace hm := (gi_in hm).2
                  refine DLq fx hC (K3q hbb) (Or.inr rfl) h_24 dX3_wrongness_108 ?_
                  refine lv_iload_n hx hb dX3_wrongness_109 rfl (lv_at hl 4 rfl) ?_
                  have h_25 := (gi_in hm).1
                  replace hm := (gi_in hm).2
                  refine DLi fx hC (K3c hbb (vp_lt h_24)) h_25 dX3_wrongness_110 ?_
                  refine lv_aload_n hx hb dX3_wrongness_111 rfl (lv_at hl 3 rfl) ?_
                  refine lv_iload hx hb dX3_wrongness_112 (lv_at hl 1 rfl) ?_
                  obtain ⟨r_27, e_26, hm⟩ := b1_in hm
                  refine d_callVi (ci := 3) (As := [.int x_6]) (rest := [.int (τ.2.1 (b + 2 + ((3 : Int32)).toNatClampNeg) (a1).toNatClampNeg)]) fx sx hC dw_w (D3c_countOf l b hbb τ x_6 e_26) k_724 D3k_countOf D3h_countOf rfl rfl (O_at (K3 hbb)) ⟨rfl, rfl⟩ ⟨Nat.le_trans (Nat.le_of_ble_eq_true rfl) hR.1, Nat.le_trans (Nat.le_of_ble_eq_true rfl) hR.2⟩ hf rfl hl.1 rfl (Nat.le_of_ble_eq_true rfl) dX3_wrongness_114 (fun H locs hC => ?_)
                  refine lv_aload_n hx hb dX3_wrongness_117 rfl (lv_at hl 3 rfl) ?_
                  refine lv_iload hx hb dX3_wrongness_118 (lv_at hl 0 rfl) ?_
                  obtain ⟨r_29, e_28, hm⟩ := b1_in hm
                  refine d_callVi (ci := 3) (As := [.int x_9]) (rest := [.int r_27, .int (τ.2.1 (b + 2 + ((3 : Int32)).toNatClampNeg) (a1).toNatClampNeg)]) fx sx hC dw_w (D3c_countOf l b hbb τ x_9 e_28) k_724 D3k_countOf D3h_countOf rfl rfl (O_at (K3 hbb)) ⟨rfl, rfl⟩ ⟨Nat.le_trans (Nat.le_of_ble_eq_true rfl) hR.1, Nat.le_trans (Nat.le_of_ble_eq_true rfl) hR.2⟩ hf rfl hl.1 rfl (Nat.le_of_ble_eq_true rfl) dX3_wrongness_120 (fun H locs hC => ?_)
                  refine lv_iadd hx hb dX3_wrongness_123 ?_
                  refine lv_icmp_ne (tgt := 131) hx hb dX3_wrongness_124 (by decide) (fun c_30 => ?_) (fun c_30 => ?_)
                  · replace hm := ifn hm c_30
                    refine lv_iconst (v := (5 : Int32)) hx hb dX3_wrongness_131 (by decide) ?_
                    cases hm
                    exact g_iret fx hr hC rfl dX3_wrongness_132
                  · replace hm := ifp hm c_30
                    refine lv_iconst (v := (0 : Int32)) hx hb dX3_wrongness_127 (by decide) ?_
                    refine lv_goto (tgt := 132) hx hb dX3_wrongness_128 (by decide) ?_
                    cases hm
                    exact g_iret fx hr hC rfl dX3_wrongness_132
                · replace hm := ifn hm c_23
                  refine lv_iconst (v := (4 : Int32)) hx hb dX3_wrongness_101 (by decide) ?_
                  cases hm
                  exact g_iret fx hr hC rfl dX3_wrongness_102
              · replace hm := ifp hm c_20
                refine lv_iconst (v := (3 : Int32)) hx hb dX3_wrongness_87 (by decide) ?_
                cases hm
                exact g_iret fx hr hC rfl dX3_wrongness_88
            · replace hm := ifn hm c_19
              refine lv_iconst (v := (2 : Int32)) hx hb dX3_wrongness_79 (by decide) ?_
              cases hm
              exact g_iret fx hr hC rfl dX3_wrongness_80
        · replace hm := ifp hm c_13
          refine lv_iconst (v := (1 : Int32)) hx hb dX3_wrongness_57 (by decide) ?_
          cases hm
          exact g_iret fx hr hC rfl dX3_wrongness_58
def D3s_firstWrong_6 {ρ : Type} (p0 : Nat) (p1 : Nat) (kx32 : Int32 → Int32 → DS → Option ρ) (kx74 : DS → Option ρ) (rc : Int32 → DS → Option ρ) (v2 : Int32) (τ : DS) : Option ρ :=
  if (τ.1 p0 0) ≤ v2 then (kx74  τ) else (if (768 : Int32) ≤ v2 then (kx74  τ) else (b1 (D3m_wrongness p0 τ v2 p1) (fun r_6 => if r_6 = (0 : Int32) then (gi (0 : Int32) 4 (gi v2 768 (gi (1 : Int32) 4 (gi v2 768 (gi (2 : Int32) 4 (gi v2 768 (b2 (D3m_add p1 τ (τ.2.1 (p0 + 2 + ((0 : Int32)).toNatClampNeg) (v2).toNatClampNeg) (τ.2.1 (p0 + 2 + ((1 : Int32)).toNatClampNeg) (v2).toNatClampNeg) (τ.2.1 (p0 + 2 + ((2 : Int32)).toNatClampNeg) (v2).toNatClampNeg)) (fun r_16 τ_15 => rc (v2 + (1 : Int32)) τ_15)))))))) else (kx32 v2 r_6 τ))))
def D3m_firstWrong (b : Nat) (τ : DS) (a1 : Nat) : Option (Int32 × DS) :=
  b1 (D3m_clear a1 τ) (fun τ_2 => it2 (D3s_firstWrong_6 b a1 (fun u_17 u_18 τ_19 => some ((((8 : Int32) * u_17) + u_18), τ_19)) (fun τ_20 => some ((-1 : Int32), τ_20))) fuel (0 : Int32) τ_2)
abbrev D3rm_firstWrong : Room := { frames := 3, cells := 0, slots := 0, locals := 73 }
set_option maxRecDepth 100000 in
set_option maxHeartbeats 4000000 in
theorem D3w_firstWrong_6 {ρ : Type} {out : ρ} {p : Program} {l : Launch} {e : Env} {R : Room} {s : State} {m : MethodId} {args : Array Value} {below : List Frame} {meth : Method} {c : Code} {cells slots : Nat} {Q : State → Prop} {D : va_G} {cy : Nat → ClassId} {ad : List Nat} {q : Nat → Nat} {X : va_W} (fx : FX p s m args meth c cX3_firstWrong 4 RX3 D cy) (sx : SX ad s) (hR : 3 ≤ R.frames ∧ 73 ≤ R.locals) (hf : cells ≤ R.cells ∧ slots ≤ R.slots) (p0 : Nat) (hp0 : p0 = 17 ∨ p0 = 25) (p1 : Nat) (hp1 : p1 = 17 ∨ p1 = 25) {kx32 : Int32 → Int32 → DS → Option ρ} {kx74 : DS → Option ρ} :
    ∀ (n : Nat) (v2 : Int32) (τ : DS), it2 (D3s_firstWrong_6 p0 p1 kx32 kx74) n v2 τ = some out → ∀ (H : Heap) (locs : List Loc) (ls : Array Slot), GC D (dwd cy q X) ad s τ H locs → lv_has ls 4 [(0, .ref (q p0)), (1, .ref (q p1)), (2, .int v2)] → (∀ (u2 : Int32) (u3 : Int32) (τ2 : DS) (H : Heap) (locs : List Loc) (ls : Array Slot), kx32 u2 u3 τ2 = some out → GC D (dwd cy q X) ad s τ2 H locs → lv_has ls 4 [(2, .int u2), (3, .int u3)] → W p l e R s m args below meth c H locs cells slots Q (F0 m 32 ls [])) → (∀ (τ2 : DS) (H : Heap) (locs : List Loc) (ls : Array Slot), kx74 τ2 = some out → GC D (dwd cy q X) ad s τ2 H locs → lv_has ls 4 [] → W p l e R s m args below meth c H locs cells slots Q (F0 m 74 ls [])) → W p l e R s m args below meth c H locs cells slots Q (F0 m 6 ls []) := by
  have hx := fx.1
  have hb := fx.2.1
  intro n
  induction n with
  | zero => intro v2 τ hm; exact (it2_z hm).elim
  | succ n ih9 =>
    intro v2 τ hm H locs ls hC hl hx32 hx74
    obtain ⟨rc, hrc⟩ : ∃ z, z = it2 (D3s_firstWrong_6 p0 p1 kx32 kx74) n := ⟨_, rfl⟩
    replace hm : D3s_firstWrong_6 p0 p1 kx32 kx74 rc v2 τ = some out := by rw [hrc]; exact hm
    unfold D3s_firstWrong_6 at hm
    refine lv_iload_n hx hb dX3_firstWrong_6 rfl (lv_at hl 2 rfl) ?_
    refine lv_aload_n hx hb dX3_firstWrong_7 rfl (lv_at hl 0 rfl) ?_
    refine D3g_0 hp0 fx hC k_690 dX3_firstWrong_8 ?_
    refine lv_icmp_ge (tgt := 74) hx hb dX3_firstWrong_11 (by decide) (fun c_3 => ?_) (fun c_3 => ?_)
    · replace hm := ifp hm c_3
      exact hx74 _ _ _ _ hm hC (lv_sub hl [] rfl)
    · replace hm := ifn hm c_3
      refine lv_iload_n hx hb dX3_firstWrong_14 rfl (lv_at hl 2 rfl) ?_
      refine lv_sipush (v := (768 : Int32)) hx hb dX3_firstWrong_15 (by decide) ?_
      refine lv_icmp_ge (tgt := 74) hx hb dX3_firstWrong_18 (by decide) (fun c_4 => ?_) (fun c_4 => ?_)
      · replace hm := ifp hm c_4
        exact hx74 _ _ _ _ hm hC (lv_sub hl [] rfl)
      · replace hm := ifn hm c_4
        refine lv_aload_n hx hb dX3_firstWrong_21 rfl (lv_at hl 0 rfl) ?_
        refine lv_iload_n hx hb dX3_firstWrong_22 rfl (lv_at hl 2 rfl) ?_
        refine lv_aload_n hx hb dX3_firstWrong_23 rfl (lv_at hl 1 rfl) ?_
        obtain ⟨r_6, e_5, hm⟩ := b1_in hm
        refine d_callVi (ci := 3) (As := [.int v2, .ref (q p1)]) (rest := []) fx sx hC dw_w (D3c_wrongness l p0 hp0 τ v2 p1 hp1 e_5) k_955 D3k_wrongness D3h_wrongness rfl rfl (O_at (K3 hp0)) ⟨rfl, rfl⟩ ⟨Nat.le_trans (Nat.le_of_ble_eq_true rfl) hR.1, Nat.le_trans (Nat.le_of_ble_eq_true rfl) hR.2⟩ hf rfl hl.1 rfl (Nat.le_of_ble_eq_true rfl) dX3_firstWrong_24 (fun H locs hC => ?_)
        refine lv_istore_n (lv' := [(3, .int r_6), (0, .ref (q p0)), (1, .ref (q p1)), (2, .int v2)]) hx hb dX3_firstWrong_27 rfl hl (by decide) rfl (fun ls hl => ?_)
        refine lv_iload_n hx hb dX3_firstWrong_28 rfl (lv_at hl 0 rfl) ?_
        refine lv_if_eq (tgt := 39) hx hb dX3_firstWrong_29 (by decide) (fun c_7 => ?_) (fun c_7 => ?_)
        · replace hm := ifp hm c_7
          refine lv_aload_n hx hb dX3_firstWrong_39 rfl (lv_at hl 2 rfl) ?_
          refine lv_aload_n hx hb dX3_firstWrong_40 rfl (lv_at hl 1 rfl) ?_
          refine D3g_1 hp0 fx hC k_74 dX3_firstWrong_41 ?_
          refine lv_iconst (v := (0 : Int32)) hx hb dX3_firstWrong_44 (by decide) ?_
          have h_8 := (gi_in hm).1
          replace hm := (gi_in hm).2
          refine DLq fx hC (K3q hp0) (Or.inr rfl) h_8 dX3_firstWrong_45 ?_
          refine lv_iload_n hx hb dX3_firstWrong_46 rfl (lv_at hl 3 rfl) ?_
          have h_9 := (gi_in hm).1
          replace hm := (gi_in hm).2
          refine DLi fx hC (K3c hp0 (vp_lt h_8)) h_9 dX3_firstWrong_47 ?_
          refine lv_aload_n hx hb dX3_firstWrong_48 rfl (lv_at hl 1 rfl) ?_
          refine D3g_1 hp0 fx hC k_74 dX3_firstWrong_49 ?_
          refine lv_iconst (v := (1 : Int32)) hx hb dX3_firstWrong_52 (by decide) ?_
          have h_10 := (gi_in hm).1
          replace hm := (gi_in hm).2
          refine DLq fx hC (K3q hp0) (Or.inr rfl) h_10 dX3_firstWrong_53 ?_
          refine lv_iload_n hx hb dX3_firstWrong_54 rfl (lv_at hl 3 rfl) ?_
          have h_11 := (gi_in hm).1
          replace hm := (gi_in hm).2
          refine DLi fx hC (K3c hp0 (vp_lt h_10)) h_11 dX3_firstWrong_55 ?_
          refine lv_aload_n hx hb dX3_firstWrong_56 rfl (lv_at hl 1 rfl) ?_
          refine D3g_1 hp0 fx hC k_74 dX3_firstWrong_57 ?_
          refine lv_iconst (v := (2 : Int32)) hx hb dX3_firstWrong_60 (by decide) ?_
          have h_12 := (gi_in hm).1
          replace hm := (gi_in hm).2
          refine DLq fx hC (K3q hp0) (Or.inr rfl) h_12 dX3_firstWrong_61 ?_
          refine lv_iload_n hx hb dX3_firstWrong_62 rfl (lv_at hl 3 rfl) ?_
          have h_13 := (gi_in hm).1
          replace hm := (gi_in hm).2
          refine DLi fx hC (K3c hp0 (vp_lt h_12)) h_13 dX3_firstWrong_63 ?_
          obtain ⟨r_16, τ_15, e_14, hm⟩ := b2_in hm
          refine d_callVi (ci := 3) (As := [.int (τ.2.1 (p0 + 2 + ((0 : Int32)).toNatClampNeg) (v2).toNatClampNeg), .int (τ.2.1 (p0 + 2 + ((1 : Int32)).toNatClampNeg) (v2).toNatClampNeg), .int (τ.2.1 (p0 + 2 + ((2 : Int32)).toNatClampNeg) (v2).toNatClampNeg)]) (rest := []) fx sx hC dw_w (D3c_add l p1 hp1 τ (τ.2.1 (p0 + 2 + ((0 : Int32)).toNatClampNeg) (v2).toNatClampNeg) (τ.2.1 (p0 + 2 + ((1 : Int32)).toNatClampNeg) (v2).toNatClampNeg) (τ.2.1 (p0 + 2 + ((2 : Int32)).toNatClampNeg) (v2).toNatClampNeg) e_14) k_720 D3k_add D3h_add rfl rfl (O_at (K3 hp1)) ⟨rfl, rfl⟩ ⟨Nat.le_trans (Nat.le_of_ble_eq_true rfl) hR.1, Nat.le_trans (Nat.le_of_ble_eq_true rfl) hR.2⟩ hf rfl hl.1 rfl (Nat.le_of_ble_eq_true rfl) dX3_firstWrong_64 (fun H locs hC => ?_)
          refine lv_pop hx hb dX3_firstWrong_67 rfl ?_
          refine lv_iinc (v := (v2 + (1 : Int32))) (lv' := [(2, .int (v2 + (1 : Int32))), (3, .int r_6), (0, .ref (q p0)), (1, .ref (q p1))]) hx hb dX3_firstWrong_68 hl (k := 3) rfl rfl (by decide) rfl (fun ls hl => ?_)
          refine lv_goto (tgt := 6) hx hb dX3_firstWrong_71 (by decide) ?_
          rw [hrc] at hm
          exact ih9 _ _ hm _ _ _ hC (lv_sub hl [2, 3, 0] rfl) hx32 hx74
        · replace hm := ifn hm c_7
          exact hx32 _ _ _ _ _ _ hm hC (lv_sub hl [3, 0] rfl)
set_option maxRecDepth 100000 in
set_option maxHeartbeats 4000000 in
theorem D3c_firstWrong (l : Launch) {D : va_G} {cy : Nat → ClassId} {ad : List Nat} {q : Nat → Nat} {X : va_W} (b : Nat) (hbb : b = 17 ∨ b = 25) (τ : DS) (a1 : Nat) (ha1 : a1 = 17 ∨ a1 = 25) {o : Int32 × DS} (hm : D3m_firstWrong b τ a1 = some o) : DM l yX3_firstWrong cX3_firstWrong 4 (some .int) D3rm_firstWrong D cy (dwd cy q X) ad [.ref (q b), .ref (q a1)] τ (some (.int (o.1))) o.2 := by
  refine d_start RX3 rfl (by decide) (Nat.le_of_ble_eq_true rfl) ?_
  intro p e s m args below meth c fx sx hr hC ls hl
  have hx := fx.1
  have hb := fx.2.1
  have hR : 3 ≤ (D3rm_firstWrong).frames ∧ 73 ≤ (D3rm_firstWrong).locals := ⟨Nat.le_refl _, Nat.le_refl _⟩
  have hf : 0 ≤ (D3rm_firstWrong).cells ∧ 0 ≤ (D3rm_firstWrong).slots := ⟨Nat.zero_le _, Nat.zero_le _⟩
  have hl : lv_has ls 4 [(0, .ref (q b)), (1, .ref (q a1))] := hl
  unfold D3m_firstWrong at hm
  refine lv_aload_n hx hb dX3_firstWrong_0 rfl (lv_at hl 1 rfl) ?_
  obtain ⟨τ_2, e_1, hm⟩ := b1_in hm
  refine d_callVv (ci := 3) (As := []) (rest := []) fx sx hC dw_w (D3c_clear l a1 ha1 τ e_1) k_691 D3k_clear D3h_clear rfl rfl (O_at (K3 ha1)) ⟨rfl, rfl⟩ ⟨Nat.le_trans (Nat.le_of_ble_eq_true rfl) hR.1, Nat.le_trans (Nat.le_of_ble_eq_true rfl) hR.2⟩ hf rfl hl.1 rfl (Nat.le_of_ble_eq_true rfl) dX3_firstWrong_1 (fun H locs hC => ?_)
  refine lv_iconst (v := (0 : Int32)) hx hb dX3_firstWrong_4 (by decide) ?_
  refine lv_istore_n (lv' := [(2, .int (0 : Int32)), (0, .ref (q b)), (1, .ref (q a1))]) hx hb dX3_firstWrong_5 rfl hl (by decide) rfl (fun ls hl => ?_)
  refine D3w_firstWrong_6 fx sx hR hf b hbb a1 ha1 fuel (0 : Int32) τ_2 hm _ _ _ hC (lv_sub hl [1, 2, 0] rfl) (fun u_17 u_18 τ_19 H locs ls hm hC hl => ?_) (fun τ_20 H locs ls hm hC hl => ?_)
  · refine lv_bipush (v := (8 : Int32)) hx hb dX3_firstWrong_32 (by decide) ?_
    refine lv_iload_n hx hb dX3_firstWrong_34 rfl (lv_at hl 0 rfl) ?_
    refine lv_imul hx hb dX3_firstWrong_35 ?_
    refine lv_iload_n hx hb dX3_firstWrong_36 rfl (lv_at hl 1 rfl) ?_
    refine lv_iadd hx hb dX3_firstWrong_37 ?_
    cases hm
    exact g_iret fx hr hC rfl dX3_firstWrong_38
  · refine lv_iconst (v := (-1 : Int32)) hx hb dX3_firstWrong_74 (by decide) ?_
    cases hm
    exact g_iret fx hr hC rfl dX3_firstWrong_75
def D3s_isLike_32 {ρ : Type} (p0 : Nat) (p1 : Nat) (p2 : Int32) (τ : DS) (kx56 : Option ρ) (kx64 : Option ρ) (rc : Int32 → Option ρ) (v3 : Int32) : Option ρ :=
  if (4 : Int32) ≤ v3 then (kx64) else (gi v3 4 (gi p2 768 (gi v3 4 (gi p2 768 (if (τ.2.1 (p0 + 2 + (v3).toNatClampNeg) (p2).toNatClampNeg) = (τ.2.1 (p1 + 2 + (v3).toNatClampNeg) (p2).toNatClampNeg) then (rc (v3 + (1 : Int32))) else (kx56))))))
def D3s_isLike_15 {ρ : Type} (p0 : Nat) (p1 : Nat) (τ : DS) (kx56 : Option ρ) (kx70 : Option ρ) (rc : Int32 → Option ρ) (v2 : Int32) : Option ρ :=
  if (τ.1 p0 0) ≤ v2 then (kx70) else (if (768 : Int32) ≤ v2 then (kx70) else (it1 (D3s_isLike_32 p0 p1 v2 τ (kx56) (rc (v2 + (1 : Int32)))) fuel (0 : Int32)))
def D3m_isLike (b : Nat) (τ : DS) (a1 : Nat) : Option Int32 :=
  if (τ.1 b 0) = (τ.1 a1 0) then (it1 (D3s_isLike_15 b a1 τ (some (0 : Int32)) (some (1 : Int32))) fuel (0 : Int32)) else (some (0 : Int32))
abbrev D3rm_isLike : Room := { frames := 0, cells := 0, slots := 0, locals := 0 }
set_option maxRecDepth 100000 in
set_option maxHeartbeats 4000000 in
theorem D3w_isLike_32 {ρ : Type} {out : ρ} {p : Program} {l : Launch} {e : Env} {R : Room} {s : State} {m : MethodId} {args : Array Value} {below : List Frame} {meth : Method} {c : Code} {cells slots : Nat} {Q : State → Prop} {D : va_G} {cy : Nat → ClassId} {ad : List Nat} {q : Nat → Nat} {X : va_W} (τ : DS) (fx : FX p s m args meth c cX3_isLike 4 RX3 D cy) (sx : SX ad s) (hR : 0 ≤ R.frames ∧ 0 ≤ R.locals) (hf : cells ≤ R.cells ∧ slots ≤ R.slots) (p0 : Nat) (hp0 : p0 = 17 ∨ p0 = 25) (p1 : Nat) (hp1 : p1 = 17 ∨ p1 = 25) (p2 : Int32) {kx56 : Option ρ} {kx64 : Option ρ} :
    ∀ (n : Nat) (v3 : Int32), it1 (D3s_isLike_32 p0 p1 p2 τ kx56 kx64) n v3 = some out → ∀ (H : Heap) (locs : List Loc) (ls : Array Slot), GC D (dwd cy q X) ad s τ H locs → lv_has ls 4 [(0, .ref (q p0)), (1, .ref (q p1)), (2, .int p2), (3, .int v3)] → (∀ (H : Heap) (locs : List Loc) (ls : Array Slot), kx56 = some out → GC D (dwd cy q X) ad s τ H locs → lv_has ls 4 [] → W p l e R s m args below meth c H locs cells slots Q (F0 m 56 ls [])) → (∀ (H : Heap) (locs : List Loc) (ls : Array Slot), kx64 = some out → GC D (dwd cy q X) ad s τ H locs → lv_has ls 4 [(0, .ref (q p0)), (1, .ref (q p1)), (2, .int p2)] → W p l e R s m args below meth c H locs cells slots Q (F0 m 64 ls [])) → W p l e R s m args below meth c H locs cells slots Q (F0 m 32 ls []) := by
  have hx := fx.1
  have hb := fx.2.1
  intro n
  induction n with
  | zero => intro v3 hm; exact (it1_z hm).elim
  | succ n ih9 =>
    intro v3 hm H locs ls hC hl hx56 hx64
    obtain ⟨rc, hrc⟩ : ∃ z, z = it1 (D3s_isLike_32 p0 p1 p2 τ kx56 kx64) n := ⟨_, rfl⟩
    replace hm : D3s_isLike_32 p0 p1 p2 τ kx56 kx64 rc v3 = some out := by rw [hrc]; exact hm
    unfold D3s_isLike_32 at hm
    refine lv_iload_n hx hb dX3_isLike_32 rfl (lv_at hl 3 rfl) ?_
    refine lv_iconst (v := (4 : Int32)) hx hb dX3_isLike_33 (by decide) ?_
    refine lv_icmp_ge (tgt := 64) hx hb dX3_isLike_34 (by decide) (fun c_4 => ?_) (fun c_4 => ?_)
    · replace hm := ifp hm c_4
      exact hx64 _ _ _ hm hC (lv_sub hl [0, 1, 2] rfl)
    · replace hm := ifn hm c_4
      refine lv_aload_n hx hb dX3_isLike_37 rfl (lv_at hl 0 rfl) ?_
      refine D3g_1 hp0 fx hC k_74 dX3_isLike_38 ?_
      refine lv_iload_n hx hb dX3_isLike_41 rfl (lv_at hl 3 rfl) ?_
      have h_5 := (gi_in hm).1
      replace hm := (gi_in hm).2
      refine DLq fx hC (K3q hp0) (Or.inr rfl) h_5 dX3_isLike_42 ?_
      refine lv_iload_n hx hb dX3_isLike_43 rfl (lv_at hl 2 rfl) ?_
      have h_6 := (gi_in hm).1
      replace hm := (gi_in hm).2
      refine DLi fx hC (K3c hp0 (vp_lt h_5)) h_6 dX3_isLike_44 ?_
      refine lv_aload_n hx hb dX3_isLike_45 rfl (lv_at hl 1 rfl) ?_
      refine D3g_1 hp1 fx hC k_74 dX3_isLike_46 ?_
      refine lv_iload_n hx hb dX3_isLike_49 rfl (lv_at hl 3 rfl) ?_
      have h_7 := (gi_in hm).1
      replace hm := (gi_in hm).2
      refine DLq fx hC (K3q hp1) (Or.inr rfl) h_7 dX3_isLike_50 ?_
      refine lv_iload_n hx hb dX3_isLike_51 rfl (lv_at hl 2 rfl) ?_
      have h_8 := (gi_in hm).1
      replace hm := (gi_in hm).2
      refine DLi fx hC (K3c hp1 (vp_lt h_7)) h_8 dX3_isLike_52 ?_
      refine lv_icmp_eq (tgt := 58) hx hb dX3_isLike_53 (by decide) (fun c_9 => ?_) (fun c_9 => ?_)
      · replace hm := ifp hm c_9
        refine lv_iinc (v := (v3 + (1 : Int32))) (lv' := [(3, .int (v3 + (1 : Int32))), (0, .ref (q p0)), (1, .ref (q p1)), (2, .int p2)]) hx hb dX3_isLike_58 hl (k := 3) rfl rfl (by decide) rfl (fun ls hl => ?_)
        refine lv_goto (tgt := 32) hx hb dX3_isLike_61 (by decide) ?_
        rw [hrc] at hm
        exact ih9 _ hm _ _ _ hC (lv_sub hl [1, 2, 3, 0] rfl) hx56 hx64
      · replace hm := ifn hm c_9
        exact hx56 _ _ _ hm hC (lv_sub hl [] rfl)
set_option maxRecDepth 100000 in
set_option maxHeartbeats 4000000 in
theorem D3w_isLike_15 {ρ : Type} {out : ρ} {p : Program} {l : Launch} {e : Env} {R : Room} {s : State} {m : MethodId} {args : Array Value} {below : List Frame} {meth : Method} {c : Code} {cells slots : Nat} {Q : State → Prop} {D : va_G} {cy : Nat → ClassId} {ad : List Nat} {q : Nat → Nat} {X : va_W} (τ : DS) (fx : FX p s m args meth c cX3_isLike 4 RX3 D cy) (sx : SX ad s) (hR : 0 ≤ R.frames ∧ 0 ≤ R.locals) (hf : cells ≤ R.cells ∧ slots ≤ R.slots) (p0 : Nat) (hp0 : p0 = 17 ∨ p0 = 25) (p1 : Nat) (hp1 : p1 = 17 ∨ p1 = 25) {kx56 : Option ρ} {kx70 : Option ρ} :
    ∀ (n : Nat) (v2 : Int32), it1 (D3s_isLike_15 p0 p1 τ kx56 kx70) n v2 = some out → ∀ (H : Heap) (locs : List Loc) (ls : Array Slot), GC D (dwd cy q X) ad s τ H locs → lv_has ls 4 [(0, .ref (q p0)), (1, .ref (q p1)), (2, .int v2)] → (∀ (H : Heap) (locs : List Loc) (ls : Array Slot), kx56 = some out → GC D (dwd cy q X) ad s τ H locs → lv_has ls 4 [] → W p l e R s m args below meth c H locs cells slots Q (F0 m 56 ls [])) → (∀ (H : Heap) (locs : List Loc) (ls : Array Slot), kx70 = some out → GC D (dwd cy q X) ad s τ H locs → lv_has ls 4 [] → W p l e R s m args below meth c H locs cells slots Q (F0 m 70 ls [])) → W p l e R s m args below meth c H locs cells slots Q (F0 m 15 ls []) := by
  have hx := fx.1
  have hb := fx.2.1
  intro n
  induction n with
  | zero => intro v2 hm; exact (it1_z hm).elim
  | succ n ih9 =>
    intro v2 hm H locs ls hC hl hx56 hx70
    obtain ⟨rc, hrc⟩ : ∃ z, z = it1 (D3s_isLike_15 p0 p1 τ kx56 kx70) n := ⟨_, rfl⟩
    replace hm : D3s_isLike_15 p0 p1 τ kx56 kx70 rc v2 = some out := by rw [hrc]; exact hm
    unfold D3s_isLike_15 at hm
    refine lv_iload_n hx hb dX3_isLike_15 rfl (lv_at hl 2 rfl) ?_
    refine lv_aload_n hx hb dX3_isLike_16 rfl (lv_at hl 0 rfl) ?_
    refine D3g_0 hp0 fx hC k_690 dX3_isLike_17 ?_
    refine lv_icmp_ge (tgt := 70) hx hb dX3_isLike_20 (by decide) (fun c_2 => ?_) (fun c_2 => ?_)
    · replace hm := ifp hm c_2
      exact hx70 _ _ _ hm hC (lv_sub hl [] rfl)
    · replace hm := ifn hm c_2
      refine lv_iload_n hx hb dX3_isLike_23 rfl (lv_at hl 2 rfl) ?_
      refine lv_sipush (v := (768 : Int32)) hx hb dX3_isLike_24 (by decide) ?_
      refine lv_icmp_ge (tgt := 70) hx hb dX3_isLike_27 (by decide) (fun c_3 => ?_) (fun c_3 => ?_)
      · replace hm := ifp hm c_3
        exact hx70 _ _ _ hm hC (lv_sub hl [] rfl)
      · replace hm := ifn hm c_3
        refine lv_iconst (v := (0 : Int32)) hx hb dX3_isLike_30 (by decide) ?_
        refine lv_istore_n (lv' := [(3, .int (0 : Int32)), (0, .ref (q p0)), (1, .ref (q p1)), (2, .int v2)]) hx hb dX3_isLike_31 rfl hl (by decide) rfl (fun ls hl => ?_)
        refine D3w_isLike_32 τ fx sx hR hf p0 hp0 p1 hp1 v2 fuel (0 : Int32) hm _ _ _ hC (lv_sub hl [1, 2, 3, 0] rfl) (fun  H locs ls hm hC hl => ?_) (fun  H locs ls hm hC hl => ?_)
        · exact hx56 _ _ _ hm hC (lv_sub hl [] rfl)
        · refine lv_iinc (v := (v2 + (1 : Int32))) (lv' := [(2, .int (v2 + (1 : Int32))), (0, .ref (q p0)), (1, .ref (q p1))]) hx hb dX3_isLike_64 hl (k := 2) rfl rfl (by decide) rfl (fun ls hl => ?_)
          refine lv_goto (tgt := 15) hx hb dX3_isLike_67 (by decide) ?_
          rw [hrc] at hm
          exact ih9 _ hm _ _ _ hC (lv_sub hl [1, 2, 0] rfl) hx56 hx70
set_option maxRecDepth 100000 in
set_option maxHeartbeats 4000000 in
theorem D3c_isLike (l : Launch) {D : va_G} {cy : Nat → ClassId} {ad : List Nat} {q : Nat → Nat} {X : va_W} (b : Nat) (hbb : b = 17 ∨ b = 25) (τ : DS) (a1 : Nat) (ha1 : a1 = 17 ∨ a1 = 25) {o : Int32} (hm : D3m_isLike b τ a1 = some o) : DM l yX3_isLike cX3_isLike 4 (some .boolean) D3rm_isLike D cy (dwd cy q X) ad [.ref (q b), .ref (q a1)] τ (some (.int (o))) τ := by
  refine d_start RX3 rfl (by decide) (Nat.le_of_ble_eq_true rfl) ?_
  intro p e s m args below meth c fx sx hr hC ls hl
  have hx := fx.1
  have hb := fx.2.1
  have hR : 0 ≤ (D3rm_isLike).frames ∧ 0 ≤ (D3rm_isLike).locals := ⟨Nat.le_refl _, Nat.le_refl _⟩
  have hf : 0 ≤ (D3rm_isLike).cells ∧ 0 ≤ (D3rm_isLike).slots := ⟨Nat.zero_le _, Nat.zero_le _⟩
  have hl : lv_has ls 4 [(0, .ref (q b)), (1, .ref (q a1))] := hl
  unfold D3m_isLike at hm
  refine lv_aload_n hx hb dX3_isLike_0 rfl (lv_at hl 0 rfl) ?_
  refine D3g_0 hbb fx hC k_690 dX3_isLike_1 ?_
  refine lv_aload_n hx hb dX3_isLike_4 rfl (lv_at hl 1 rfl) ?_
  refine D3g_0 ha1 fx hC k_690 dX3_isLike_5 ?_
  refine lv_icmp_eq (tgt := 13) hx hb dX3_isLike_8 (by decide) (fun c_1 => ?_) (fun c_1 => ?_)
  · replace hm := ifp hm c_1
    refine lv_iconst (v := (0 : Int32)) hx hb dX3_isLike_13 (by decide) ?_
    refine lv_istore_n (lv' := [(2, .int (0 : Int32)), (0, .ref (q b)), (1, .ref (q a1))]) hx hb dX3_isLike_14 rfl hl (by decide) rfl (fun ls hl => ?_)
    refine D3w_isLike_15 τ fx sx hR hf b hbb a1 ha1 fuel (0 : Int32) hm _ _ _ hC (lv_sub hl [1, 2, 0] rfl) (fun  H locs ls hm hC hl => ?_) (fun  H locs ls hm hC hl => ?_)
    · refine lv_iconst (v := (0 : Int32)) hx hb dX3_isLike_56 (by decide) ?_
      cases hm
      exact g_zret fx hr rfl hC rfl dX3_isLike_57
    · refine lv_iconst (v := (1 : Int32)) hx hb dX3_isLike_70 (by decide) ?_
      cases hm
      exact g_zret fx hr rfl hC rfl dX3_isLike_71
  · replace hm := ifn hm c_1
    refine lv_iconst (v := (0 : Int32)) hx hb dX3_isLike_11 (by decide) ?_
    cases hm
    exact g_zret fx hr rfl hC rfl dX3_isLike_12

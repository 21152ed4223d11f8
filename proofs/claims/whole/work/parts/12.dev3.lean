def D8m_road (τ : DS) (a1 : Int32) (a2 : Int32) (a3 : Int32) : Option (Int32 × DS) :=
  if (D2m_isPost τ a1) = (0 : Int32) then (some ((-2 : Int32), τ)) else (if (D2m_isPost τ a2) = (0 : Int32) then (some ((-2 : Int32), τ)) else (if a1 = a2 then (some ((-2 : Int32), τ)) else (if a3 < (-50 : Int32) then (some ((-2 : Int32), τ)) else (if a3 ≤ (50 : Int32) then (b1 (D2m_areJoined τ a1 a2) (fun r_7 => if r_7 = (0 : Int32) then (b2 (D2m_addRoad τ a1 a2 a3) (fun r_11 τ_10 => some (r_11, τ_10))) else (some ((-3 : Int32), τ)))) else (some ((-2 : Int32), τ))))))
abbrev D8rm_road : Room := { frames := 2, cells := 0, slots := 0, locals := 63 }
set_option maxRecDepth 100000 in
set_option maxHeartbeats 4000000 in
theorem D8c_road (l : Launch) {D : va_G} {cy : Nat → ClassId} {ad : List Nat} {q : Nat → Nat} {X : va_W} (τ : DS) (a1 : Int32) (a2 : Int32) (a3 : Int32) {o : Int32 × DS} (hm : D8m_road τ a1 a2 a3 = some o) : DM l yX8_road cX8_road 4 (some .int) D8rm_road D cy (dwd cy q X) ad [.ref (q 0), .int a1, .int a2, .int a3] τ (some (.int (o.1))) o.2 := by
  refine d_start RX8 rfl (by decide) (Nat.le_of_ble_eq_true rfl) ?_
  intro p e s m args below meth c fx sx hr hC ls hl
  have hx := fx.1
  have hb := fx.2.1
  have hR : 2 ≤ (D8rm_road).frames ∧ 63 ≤ (D8rm_road).locals := ⟨Nat.le_refl _, Nat.le_refl _⟩
  have hf : 0 ≤ (D8rm_road).cells ∧ 0 ≤ (D8rm_road).slots := ⟨Nat.zero_le _, Nat.zero_le _⟩
  have hl : lv_has ls 4 [(0, .ref (q 0)), (1, .int a1), (2, .int a2), (3, .int a3)] := hl
  unfold D8m_road at hm
  refine lv_aload_n hx hb dX8_road_0 rfl (lv_at hl 0 rfl) ?_
  refine D8g_0 fx hC k_15 dX8_road_1 ?_
  refine lv_iload_n hx hb dX8_road_4 rfl (lv_at hl 1 rfl) ?_
  refine d_callVi (ci := 2) (As := [.int a1]) (rest := []) fx sx hC dw_w (D2c_isPost l τ a1) k_147 D2k_isPost D2h_isPost rfl rfl (O_at O2) ⟨rfl, rfl⟩ ⟨Nat.le_trans (Nat.le_of_ble_eq_true rfl) hR.1, Nat.le_trans (Nat.le_of_ble_eq_true rfl) hR.2⟩ hf rfl hl.1 rfl (Nat.le_of_ble_eq_true rfl) dX8_road_5 (fun H locs hC => ?_)
  refine lv_if_eq (tgt := 39) hx hb dX8_road_8 (by decide) (fun c_1 => ?_) (fun c_1 => ?_)
  · replace hm := ifp hm c_1
    refine lv_bipush (v := (-2 : Int32)) hx hb dX8_road_39 (by decide) ?_
    cases hm
    exact g_iret fx hr hC rfl dX8_road_41
  · replace hm := ifn hm c_1
    refine lv_aload_n hx hb dX8_road_11 rfl (lv_at hl 0 rfl) ?_
    refine D8g_0 fx hC k_15 dX8_road_12 ?_
    refine lv_iload_n hx hb dX8_road_15 rfl (lv_at hl 2 rfl) ?_
    refine d_callVi (ci := 2) (As := [.int a2]) (rest := []) fx sx hC dw_w (D2c_isPost l τ a2) k_147 D2k_isPost D2h_isPost rfl rfl (O_at O2) ⟨rfl, rfl⟩ ⟨Nat.le_trans (Nat.le_of_ble_eq_true rfl) hR.1, Nat.le_trans (Nat.le_of_ble_eq_true rfl) hR.2⟩ hf rfl hl.1 rfl (Nat.le_of_ble_eq_true rfl) dX8_road_16 (fun H locs hC => ?_)
    refine lv_if_eq (tgt := 39) hx hb dX8_road_19 (by decide) (fun c_2 => ?_) (fun c_2 => ?_)
    · replace hm := ifp hm c_2
      refine lv_bipush (v := (-2 : Int32)) hx hb dX8_road_39 (by decide) ?_
      cases hm
      exact g_iret fx hr hC rfl dX8_road_41
    · replace hm := ifn hm c_2
      refine lv_iload_n hx hb dX8_road_22 rfl (lv_at hl 1 rfl) ?_
      refine lv_iload_n hx hb dX8_road_23 rfl (lv_at hl 2 rfl) ?_
      refine lv_icmp_eq (tgt := 39) hx hb dX8_road_24 (by decide) (fun c_3 => ?_) (fun c_3 => ?_)
      · replace hm := ifp hm c_3
        refine lv_bipush (v := (-2 : Int32)) hx hb dX8_road_39 (by decide) ?_
        cases hm
        exact g_iret fx hr hC rfl dX8_road_41
      · replace hm := ifn hm c_3
        refine lv_iload_n hx hb dX8_road_27 rfl (lv_at hl 3 rfl) ?_
        refine lv_bipush (v := (-50 : Int32)) hx hb dX8_road_28 (by decide) ?_
        refine lv_icmp_lt (tgt := 39) hx hb dX8_road_30 (by decide) (fun c_4 => ?_) (fun c_4 => ?_)
        · replace hm := ifp hm c_4
          refine lv_bipush (v := (-2 : Int32)) hx hb dX8_road_39 (by decide) ?_
          cases hm
          exact g_iret fx hr hC rfl dX8_road_41
        · replace hm := ifn hm c_4
          refine lv_iload_n hx hb dX8_road_33 rfl (lv_at hl 3 rfl) ?_
          refine lv_bipush (v := (50 : Int32)) hx hb dX8_road_34 (by decide) ?_
          refine lv_icmp_le (tgt := 42) hx hb dX8_road_36 (by decide) (fun c_5 => ?_) (fun c_5 => ?_)
          · replace hm := ifp hm c_5
            refine lv_aload_n hx hb dX8_road_42 rfl (lv_at hl 0 rfl) ?_
            refine D8g_0 fx hC k_15 dX8_road_43 ?_
            refine lv_iload_n hx hb dX8_road_46 rfl (lv_at hl 1 rfl) ?_
            refine lv_iload_n hx hb dX8_road_47 rfl (lv_at hl 2 rfl) ?_
            obtain ⟨r_7, e_6, hm⟩ := b1_in hm
            refine d_callVi (ci := 2) (As := [.int a1, .int a2]) (rest := []) fx sx hC dw_w (D2c_areJoined l τ a1 a2 e_6) k_151 D2k_areJoined D2h_areJoined rfl rfl (O_at O2) ⟨rfl, rfl⟩ ⟨Nat.le_trans (Nat.le_of_ble_eq_true rfl) hR.1, Nat.le_trans (Nat.le_of_ble_eq_true rfl) hR.2⟩ hf rfl hl.1 rfl (Nat.le_of_ble_eq_true rfl) dX8_road_48 (fun H locs hC => ?_)
            refine lv_if_eq (tgt := 57) hx hb dX8_road_51 (by decide) (fun c_8 => ?_) (fun c_8 => ?_)
            · replace hm := ifp hm c_8
              refine lv_aload_n hx hb dX8_road_57 rfl (lv_at hl 0 rfl) ?_
              refine D8g_0 fx hC k_15 dX8_road_58 ?_
              refine lv_iload_n hx hb dX8_road_61 rfl (lv_at hl 1 rfl) ?_
              refine lv_iload_n hx hb dX8_road_62 rfl (lv_at hl 2 rfl) ?_
              refine lv_iload_n hx hb dX8_road_63 rfl (lv_at hl 3 rfl) ?_
              obtain ⟨r_11, τ_10, e_9, hm⟩ := b2_in hm
              refine d_callVi (ci := 2) (As := [.int a1, .int a2, .int a3]) (rest := []) fx sx hC dw_w (D2c_addRoad l τ a1 a2 a3 e_9) k_163 D2k_addRoad D2h_addRoad rfl rfl (O_at O2) ⟨rfl, rfl⟩ ⟨Nat.le_trans (Nat.le_of_ble_eq_true rfl) hR.1, Nat.le_trans (Nat.le_of_ble_eq_true rfl) hR.2⟩ hf rfl hl.1 rfl (Nat.le_of_ble_eq_true rfl) dX8_road_64 (fun H locs hC => ?_)
              cases hm
              exact g_iret fx hr hC rfl dX8_road_67
            · replace hm := ifn hm c_8
              refine lv_bipush (v := (-3 : Int32)) hx hb dX8_road_54 (by decide) ?_
              cases hm
              exact g_iret fx hr hC rfl dX8_road_56
          · replace hm := ifn hm c_5
            refine lv_bipush (v := (-2 : Int32)) hx hb dX8_road_39 (by decide) ?_
            cases hm
            exact g_iret fx hr hC rfl dX8_road_41
def D8m_odds (τ : DS) (a1 : Int32) (a2 : Int32) : Option (Int32 × DS) :=
  if (D2m_isRoad τ a1) = (0 : Int32) then (some ((-2 : Int32), τ)) else (if a2 < (0 : Int32) then (some ((-2 : Int32), τ)) else (if a2 ≤ (8 : Int32) then (gi a1 12 (gi a1 12 (nm (dA τ 6 (a1).toNatClampNeg a2) (fun τ_6 => some ((τ.2.1 6 (a1).toNatClampNeg), τ_6))))) else (some ((-2 : Int32), τ))))
abbrev D8rm_odds : Room := { frames := 1, cells := 0, slots := 0, locals := 21 }
set_option maxRecDepth 100000 in
set_option maxHeartbeats 4000000 in
theorem D8c_odds (l : Launch) {D : va_G} {cy : Nat → ClassId} {ad : List Nat} {q : Nat → Nat} {X : va_W} (τ : DS) (a1 : Int32) (a2 : Int32) {o : Int32 × DS} (hm : D8m_odds τ a1 a2 = some o) : DM l yX8_odds cX8_odds 4 (some .int) D8rm_odds D cy (dwd cy q X) ad [.ref (q 0), .int a1, .int a2] τ (some (.int (o.1))) o.2 := by
  refine d_start RX8 rfl (by decide) (Nat.le_of_ble_eq_true rfl) ?_
  intro p e s m args below meth c fx sx hr hC ls hl
  have hx := fx.1
  have hb := fx.2.1
  have hR : 1 ≤ (D8rm_odds).frames ∧ 21 ≤ (D8rm_odds).locals := ⟨Nat.le_refl _, Nat.le_refl _⟩
  have hf : 0 ≤ (D8rm_odds).cells ∧ 0 ≤ (D8rm_odds).slots := ⟨Nat.zero_le _, Nat.zero_le _⟩
  have hl : lv_has ls 4 [(0, .ref (q 0)), (1, .int a1), (2, .int a2)] := hl
  unfold D8m_odds at hm
  refine lv_aload_n hx hb dX8_odds_0 rfl (lv_at hl 0 rfl) ?_
  refine D8g_0 fx hC k_15 dX8_odds_1 ?_
  refine lv_iload_n hx hb dX8_odds_4 rfl (lv_at hl 1 rfl) ?_
  refine d_callVi (ci := 2) (As := [.int a1]) (rest := []) fx sx hC dw_w (D2c_isRoad l τ a1) k_177 D2k_isRoad D2h_isRoad rfl rfl (O_at O2) ⟨rfl, rfl⟩ ⟨Nat.le_trans (Nat.le_of_ble_eq_true rfl) hR.1, Nat.le_trans (Nat.le_of_ble_eq_true rfl) hR.2⟩ hf rfl hl.1 rfl (Nat.le_of_ble_eq_true rfl) dX8_odds_5 (fun H locs hC => ?_)
  refine lv_if_eq (tgt := 21) hx hb dX8_odds_8 (by decide) (fun c_1 => ?_) (fun c_1 => ?_)
  · replace hm := ifp hm c_1
    refine lv_bipush (v := (-2 : Int32)) hx hb dX8_odds_21 (by decide) ?_
    cases hm
    exact g_iret fx hr hC rfl dX8_odds_23
  · replace hm := ifn hm c_1
    refine lv_iload_n hx hb dX8_odds_11 rfl (lv_at hl 2 rfl) ?_
    refine lv_if_lt (tgt := 21) hx hb dX8_odds_12 (by decide) (fun c_2 => ?_) (fun c_2 => ?_)
    · replace hm := ifp hm c_2
      refine lv_bipush (v := (-2 : Int32)) hx hb dX8_odds_21 (by decide) ?_
      cases hm
      exact g_iret fx hr hC rfl dX8_odds_23
    · replace hm := ifn hm c_2
      refine lv_iload_n hx hb dX8_odds_15 rfl (lv_at hl 2 rfl) ?_
      refine lv_bipush (v := (8 : Int32)) hx hb dX8_odds_16 (by decide) ?_
      refine lv_icmp_le (tgt := 24) hx hb dX8_odds_18 (by decide) (fun c_3 => ?_) (fun c_3 => ?_)
      · replace hm := ifp hm c_3
        refine lv_aload_n hx hb dX8_odds_24 rfl (lv_at hl 0 rfl) ?_
        refine D8g_0 fx hC k_15 dX8_odds_25 ?_
        refine D2g_6 fx hC k_176 dX8_odds_28 ?_
        refine lv_iload_n hx hb dX8_odds_31 rfl (lv_at hl 1 rfl) ?_
        have h_4 := (gi_in hm).1
        replace hm := (gi_in hm).2
        refine DLi fx hC Ka6 h_4 dX8_odds_32 ?_
        refine lv_istore_n (lv' := [(3, .int (τ.2.1 6 (a1).toNatClampNeg)), (0, .ref (q 0)), (1, .int a1), (2, .int a2)]) hx hb dX8_odds_33 rfl hl (by decide) rfl (fun ls hl => ?_)
        refine lv_aload_n hx hb dX8_odds_34 rfl (lv_at hl 1 rfl) ?_
        refine D8g_0 fx hC k_15 dX8_odds_35 ?_
        refine D2g_6 fx hC k_176 dX8_odds_38 ?_
        refine lv_iload_n hx hb dX8_odds_41 rfl (lv_at hl 2 rfl) ?_
        refine lv_iload_n hx hb dX8_odds_42 rfl (lv_at hl 3 rfl) ?_
        have h_5 := (gi_in hm).1
        replace hm := (gi_in hm).2
        refine DSi fx hC Ka6 h_5 dX8_odds_43 (fun H locs hC => ?_)
        obtain ⟨τ_6, e_7⟩ : ∃ z, z = (dA τ 6 (a1).toNatClampNeg a2) := ⟨_, rfl⟩
        rw [← e_7] at hC
        replace hm := nm_in hm e_7
        refine lv_iload_n hx hb dX8_odds_44 rfl (lv_at hl 0 rfl) ?_
        cases hm
        exact g_iret fx hr hC rfl dX8_odds_45
      · replace hm := ifn hm c_3
        refine lv_bipush (v := (-2 : Int32)) hx hb dX8_odds_21 (by decide) ?_
        cases hm
        exact g_iret fx hr hC rfl dX8_odds_23
def D8m_roadOf (τ : DS) (a1 : Int32) (a2 : Int32) : Option Int32 :=
  if (D2m_isRoad τ a1) = (0 : Int32) then (some (-2 : Int32)) else (if a2 = (0 : Int32) then (gi a1 12 (some (τ.2.1 3 (a1).toNatClampNeg))) else (if a2 = (1 : Int32) then (gi a1 12 (some (τ.2.1 4 (a1).toNatClampNeg))) else (if a2 = (2 : Int32) then (gi a1 12 (some (τ.2.1 5 (a1).toNatClampNeg))) else (if a2 = (3 : Int32) then (gi a1 12 (some (τ.2.1 6 (a1).toNatClampNeg))) else (some (-2 : Int32))))))
abbrev D8rm_roadOf : Room := { frames := 1, cells := 0, slots := 0, locals := 21 }
set_option maxRecDepth 100000 in
set_option maxHeartbeats 4000000 in
theorem D8c_roadOf (l : Launch) {D : va_G} {cy : Nat → ClassId} {ad : List Nat} {q : Nat → Nat} {X : va_W} (τ : DS) (a1 : Int32) (a2 : Int32) {o : Int32} (hm : D8m_roadOf τ a1 a2 = some o) : DM l yX8_roadOf cX8_roadOf 3 (some .int) D8rm_roadOf D cy (dwd cy q X) ad [.ref (q 0), .int a1, .int a2] τ (some (.int (o))) τ := by
  refine d_start RX8 rfl (by decide) (Nat.le_of_ble_eq_true rfl) ?_
  intro p e s m args below meth c fx sx hr hC ls hl
  have hx := fx.1
  have hb := fx.2.1
  have hR : 1 ≤ (D8rm_roadOf).frames ∧ 21 ≤ (D8rm_roadOf).locals := ⟨Nat.le_refl _, Nat.le_refl _⟩
  have hf : 0 ≤ (D8rm_roadOf).cells ∧ 0 ≤ (D8rm_roadOf).slots := ⟨Nat.zero_le _, Nat.zero_le _⟩
  have hl : lv_has ls 3 [(0, .ref (q 0)), (1, .int a1), (2, .int a2)] := hl
  unfold D8m_roadOf at hm
  refine lv_aload_n hx hb dX8_roadOf_0 rfl (lv_at hl 0 rfl) ?_
  refine D8g_0 fx hC k_15 dX8_roadOf_1 ?_
  refine lv_iload_n hx hb dX8_roadOf_4 rfl (lv_at hl 1 rfl) ?_
  refine d_callVi (ci := 2) (As := [.int a1]) (rest := []) fx sx hC dw_w (D2c_isRoad l τ a1) k_177 D2k_isRoad D2h_isRoad rfl rfl (O_at O2) ⟨rfl, rfl⟩ ⟨Nat.le_trans (Nat.le_of_ble_eq_true rfl) hR.1, Nat.le_trans (Nat.le_of_ble_eq_true rfl) hR.2⟩ hf rfl hl.1 rfl (Nat.le_of_ble_eq_true rfl) dX8_roadOf_5 (fun H locs hC => ?_)
  refine lv_if_ne (tgt := 14) hx hb dX8_roadOf_8 (by decide) (fun c_1 => ?_) (fun c_1 => ?_)
  · replace hm := ifn hm c_1
    refine lv_iload_n hx hb dX8_roadOf_14 rfl (lv_at hl 2 rfl) ?_
    by_cases c_2 : a2 = (0 : Int32)
    · replace hm := ifp hm c_2
      have ec_2 : (a2 : Int32).toInt = 0 := by rw [c_2]; rfl
      refine lv_tableIn (off := 29) (tgt := 44) hx hb dX8_roadOf_15 (by rw [ec_2]; decide) (by rw [ec_2]; decide) (by rw [ec_2]; rfl) (by decide) ?_
      refine lv_aload_n hx hb dX8_roadOf_44 rfl (lv_at hl 0 rfl) ?_
      refine D8g_0 fx hC k_15 dX8_roadOf_45 ?_
      refine D2g_3 fx hC k_189 dX8_roadOf_48 ?_
      refine lv_iload_n hx hb dX8_roadOf_51 rfl (lv_at hl 1 rfl) ?_
      have h_3 := (gi_in hm).1
      replace hm := (gi_in hm).2
      refine DLi fx hC Ka3 h_3 dX8_roadOf_52 ?_
      cases hm
      exact g_iret fx hr hC rfl dX8_roadOf_53
    · replace hm := ifn hm c_2
      by_cases c_4 : a2 = (1 : Int32)
      · replace hm := ifp hm c_4
        have ec_4 : (a2 : Int32).toInt = 1 := by rw [c_4]; rfl
        refine lv_tableIn (off := 39) (tgt := 54) hx hb dX8_roadOf_15 (by rw [ec_4]; decide) (by rw [ec_4]; decide) (by rw [ec_4]; rfl) (by decide) ?_
        refine lv_aload_n hx hb dX8_roadOf_54 rfl (lv_at hl 0 rfl) ?_
        refine D8g_0 fx hC k_15 dX8_roadOf_55 ?_
        refine D2g_4 fx hC k_190 dX8_roadOf_58 ?_
        refine lv_iload_n hx hb dX8_roadOf_61 rfl (lv_at hl 1 rfl) ?_
        have h_5 := (gi_in hm).1
        replace hm := (gi_in hm).2
        refine DLi fx hC Ka4 h_5 dX8_roadOf_62 ?_
        cases hm
        exact g_iret fx hr hC rfl dX8_roadOf_63
      · replace hm := ifn hm c_4
        by_cases c_6 : a2 = (2 : Int32)
        · replace hm := ifp hm c_6
          have ec_6 : (a2 : Int32).toInt = 2 := by rw [c_6]; rfl
          refine lv_tableIn (off := 49) (tgt := 64) hx hb dX8_roadOf_15 (by rw [ec_6]; decide) (by rw [ec_6]; decide) (by rw [ec_6]; rfl) (by decide) ?_
          refine lv_aload_n hx hb dX8_roadOf_64 rfl (lv_at hl 0 rfl) ?_
          refine D8g_0 fx hC k_15 dX8_roadOf_65 ?_
          refine D2g_5 fx hC k_191 dX8_roadOf_68 ?_
          refine lv_iload_n hx hb dX8_roadOf_71 rfl (lv_at hl 1 rfl) ?_
          have h_7 := (gi_in hm).1
          replace hm := (gi_in hm).2
          refine DLi fx hC Ka5 h_7 dX8_roadOf_72 ?_
          cases hm
          exact g_iret fx hr hC rfl dX8_roadOf_73
        · replace hm := ifn hm c_6
          by_cases c_8 : a2 = (3 : Int32)
          · replace hm := ifp hm c_8
            have ec_8 : (a2 : Int32).toInt = 3 := by rw [c_8]; rfl
            refine lv_tableIn (off := 59) (tgt := 74) hx hb dX8_roadOf_15 (by rw [ec_8]; decide) (by rw [ec_8]; decide) (by rw [ec_8]; rfl) (by decide) ?_
            refine lv_aload_n hx hb dX8_roadOf_74 rfl (lv_at hl 0 rfl) ?_
            refine D8g_0 fx hC k_15 dX8_roadOf_75 ?_
            refine D2g_6 fx hC k_176 dX8_roadOf_78 ?_
            refine lv_iload_n hx hb dX8_roadOf_81 rfl (lv_at hl 1 rfl) ?_
            have h_9 := (gi_in hm).1
            replace hm := (gi_in hm).2
            refine DLi fx hC Ka6 h_9 dX8_roadOf_82 ?_
            cases hm
            exact g_iret fx hr hC rfl dX8_roadOf_83
          · replace hm := ifn hm c_8
            have nc_2 : ¬ (a2 : Int32).toInt = 0 := lv_neT c_2 rfl
            have nc_4 : ¬ (a2 : Int32).toInt = 1 := lv_neT c_4 rfl
            have nc_6 : ¬ (a2 : Int32).toInt = 2 := lv_neT c_6 rfl
            have nc_8 : ¬ (a2 : Int32).toInt = 3 := lv_neT c_8 rfl
            refine lv_tableOut (tgt := 84) hx hb dX8_roadOf_15 (by omega) (by decide) ?_
            refine lv_bipush (v := (-2 : Int32)) hx hb dX8_roadOf_84 (by decide) ?_
            cases hm
            exact g_iret fx hr hC rfl dX8_roadOf_86
  · replace hm := ifp hm c_1
    refine lv_bipush (v := (-2 : Int32)) hx hb dX8_roadOf_11 (by decide) ?_
    cases hm
    exact g_iret fx hr hC rfl dX8_roadOf_13
def D8m_blank (τ : DS) (a1 : Int32) : Option ((Option Nat) × DS) :=
  if (τ.1 0 2) < (0 : Int32) then (some (none, τ)) else (if (30 : Int32) ≤ (τ.1 0 2) then (some (none, τ)) else (gi (τ.1 0 2) 30 (b1 (D7m_clear (((τ.1 0 2)).toNatClampNeg) τ a1) (fun τ_5 => some ((some (((τ.1 0 2)).toNatClampNeg)), τ_5)))))
abbrev D8rm_blank : Room := { frames := 2, cells := 0, slots := 0, locals := 45 }
set_option maxRecDepth 100000 in
set_option maxHeartbeats 4000000 in
theorem D8c_blank (l : Launch) {D : va_G} {cy : Nat → ClassId} {ad : List Nat} {q : Nat → Nat} {X : va_W} (τ : DS) (a1 : Int32) {o : (Option Nat) × DS} (hm : D8m_blank τ a1 = some o) : DM l yX8_blank cX8_blank 3 (some (.object "WayBook$Ways")) D8rm_blank D cy (dwd cy q X) ad [.ref (q 0), .int a1] τ (some (va_rf ((o.1).map (fun i => q (47 + i))))) o.2 := by
  refine d_start RX8 rfl (by decide) (Nat.le_of_ble_eq_true rfl) ?_
  intro p e s m args below meth c fx sx hr hC ls hl
  have hx := fx.1
  have hb := fx.2.1
  have hR : 2 ≤ (D8rm_blank).frames ∧ 45 ≤ (D8rm_blank).locals := ⟨Nat.le_refl _, Nat.le_refl _⟩
  have hf : 0 ≤ (D8rm_blank).cells ∧ 0 ≤ (D8rm_blank).slots := ⟨Nat.zero_le _, Nat.zero_le _⟩
  have hl : lv_has ls 3 [(0, .ref (q 0)), (1, .int a1)] := hl
  unfold D8m_blank at hm
  refine lv_aload_n hx hb dX8_blank_0 rfl (lv_at hl 0 rfl) ?_
  refine D8g_2 fx hC k_208 dX8_blank_1 ?_
  refine lv_if_lt (tgt := 28) hx hb dX8_blank_4 (by decide) (fun c_1 => ?_) (fun c_1 => ?_)
  · replace hm := ifp hm c_1
    refine lv_null hx hb dX8_blank_28 ?_
    refine lv_astore_nN (lv' := [(2, .null), (0, .ref (q 0)), (1, .int a1)]) hx hb dX8_blank_29 rfl hl (by decide) rfl (fun ls hl => ?_)
    refine lv_aload_nN hx hb dX8_blank_30 rfl (lv_at hl 0 rfl) ?_
    refine lv_ifnullN (tgt := 39) hx hb dX8_blank_31 (by decide) ?_
    refine lv_aload_nN hx hb dX8_blank_39 rfl (lv_at hl 0 rfl) ?_
    cases hm
    exact g_aret fx hr (Or.inl ⟨_, rfl⟩) (Or.inl rfl) hC rfl dX8_blank_40
  · replace hm := ifn hm c_1
    refine lv_aload_n hx hb dX8_blank_7 rfl (lv_at hl 0 rfl) ?_
    refine D8g_2 fx hC k_208 dX8_blank_8 ?_
    refine lv_bipush (v := (30 : Int32)) hx hb dX8_blank_11 (by decide) ?_
    refine lv_icmp_ge (tgt := 28) hx hb dX8_blank_13 (by decide) (fun c_2 => ?_) (fun c_2 => ?_)
    · replace hm := ifp hm c_2
      refine lv_null hx hb dX8_blank_28 ?_
      refine lv_astore_nN (lv' := [(2, .null), (0, .ref (q 0)), (1, .int a1)]) hx hb dX8_blank_29 rfl hl (by decide) rfl (fun ls hl => ?_)
      refine lv_aload_nN hx hb dX8_blank_30 rfl (lv_at hl 0 rfl) ?_
      refine lv_ifnullN (tgt := 39) hx hb dX8_blank_31 (by decide) ?_
      refine lv_aload_nN hx hb dX8_blank_39 rfl (lv_at hl 0 rfl) ?_
      cases hm
      exact g_aret fx hr (Or.inl ⟨_, rfl⟩) (Or.inl rfl) hC rfl dX8_blank_40
    · replace hm := ifn hm c_2
      refine lv_aload_n hx hb dX8_blank_16 rfl (lv_at hl 0 rfl) ?_
      refine D8g_1 fx hC k_17 dX8_blank_17 ?_
      refine lv_aload_n hx hb dX8_blank_20 rfl (lv_at hl 0 rfl) ?_
      refine D8g_2 fx hC k_208 dX8_blank_21 ?_
      have h_3 := (gi_in hm).1
      replace hm := (gi_in hm).2
      refine DLq fx hC K8m (Or.inl rfl) h_3 dX8_blank_24 ?_
      refine lv_goto (tgt := 29) hx hb dX8_blank_25 (by decide) ?_
      refine lv_astore_n (lv' := [(2, .ref (q (47 + ((τ.1 0 2)).toNatClampNeg))), (0, .ref (q 0)), (1, .int a1)]) hx hb dX8_blank_29 rfl hl (by decide) rfl (fun ls hl => ?_)
      refine lv_aload_n hx hb dX8_blank_30 rfl (lv_at hl 0 rfl) ?_
      refine lv_ifnull hx hb dX8_blank_31 ?_
      refine lv_aload_n hx hb dX8_blank_34 rfl (lv_at hl 0 rfl) ?_
      refine lv_iload_n hx hb dX8_blank_35 rfl (lv_at hl 2 rfl) ?_
      obtain ⟨τ_5, e_4, hm⟩ := b1_in hm
      refine d_callVv (ci := 7) (As := [.int a1]) (rest := []) fx sx hC dw_w (D7c_clear l (((τ.1 0 2)).toNatClampNeg) (Nat.lt_of_lt_of_le (vp_lt h_3) (by decide)) τ a1 e_4) k_209 D7k_clear D7h_clear rfl rfl (O_at (K7 (Nat.lt_of_lt_of_le (vp_lt h_3) (by decide)))) ⟨rfl, rfl⟩ ⟨Nat.le_trans (Nat.le_of_ble_eq_true rfl) hR.1, Nat.le_trans (Nat.le_of_ble_eq_true rfl) hR.2⟩ hf rfl hl.1 rfl (Nat.le_of_ble_eq_true rfl) dX8_blank_36 (fun H locs hC => ?_)
      refine lv_aload_n hx hb dX8_blank_39 rfl (lv_at hl 0 rfl) ?_
      cases hm
      exact g_aret fx hr (Or.inl ⟨_, rfl⟩) (Or.inr ⟨_, rfl⟩) hC rfl dX8_blank_40
def D8s_mirrored_4 {ρ : Type} (p0 : Int32) (kx26 : Int32 → Option ρ) (rc : Int32 → Int32 → Option ρ) (v1 : Int32) (v2 : Int32) : Option ρ :=
  if (12 : Int32) ≤ v2 then (kx26 v1) else (nm ((v1 <<< ((1 : Int32) &&& 31)) ||| ((p0 >>> (v2 &&& 31)) &&& (1 : Int32))) (fun x_2 => rc x_2 (v2 + (1 : Int32))))
def D8m_mirrored (a1 : Int32) : Option Int32 :=
  it2 (D8s_mirrored_4 a1 (fun u_3 => some u_3)) fuel (0 : Int32) (0 : Int32)
abbrev D8rm_mirrored : Room := { frames := 0, cells := 0, slots := 0, locals := 0 }
set_option maxRecDepth 100000 in
set_option maxHeartbeats 4000000 in
theorem D8w_mirrored_4 {ρ : Type} {out : ρ} {p : Program} {l : Launch} {e : Env} {R : Room} {s : State} {m : MethodId} {args : Array Value} {below : List Frame} {meth : Method} {c : Code} {cells slots : Nat} {Q : State → Prop} {D : va_G} {cy : Nat → ClassId} {ad : List Nat} {q : Nat → Nat} {X : va_W} (τ : DS) (fx : FX p s m args meth c cX8_mirrored 3 RX8 D cy) (sx : SX ad s) (hR : 0 ≤ R.frames ∧ 0 ≤ R.locals) (hf : cells ≤ R.cells ∧ slots ≤ R.slots) (p0 : Int32) {kx26 : Int32 → Option ρ} :
    ∀ (n : Nat) (v1 : Int32) (v2 : Int32), it2 (D8s_mirrored_4 p0 kx26) n v1 v2 = some out → ∀ (H : Heap) (locs : List Loc) (ls : Array Slot), GC D (dwd cy q X) ad s τ H locs → lv_has ls 3 [(0, .int p0), (1, .int v1), (2, .int v2)] → (∀ (u1 : Int32) (H : Heap) (locs : List Loc) (ls : Array Slot), kx26 u1 = some out → GC D (dwd cy q X) ad s τ H locs → lv_has ls 3 [(1, .int u1)] → W p l e R s m args below meth c H locs cells slots Q (F0 m 26 ls [])) → W p l e R s m args below meth c H locs cells slots Q (F0 m 4 ls []) := by
  have hx := fx.1
  have hb := fx.2.1
  intro n
  induction n with
  | zero => intro v1 v2 hm; exact (it2_z hm).elim
  | succ n ih9 =>
    intro v1 v2 hm H locs ls hC hl hx26
    obtain ⟨rc, hrc⟩ : ∃ z, z = it2 (D8s_mirrored_4 p0 kx26) n := ⟨_, rfl⟩
    replace hm : D8s_mirrored_4 p0 kx26 rc v1 v2 = some out := by rw [hrc]; exact hm
    unfold D8s_mirrored_4 at hm
    refine lv_iload_n hx hb dX8_mirrored_4 rfl (lv_at hl 2 rfl) ?_
    refine lv_bipush (v := (12 : Int32)) hx hb dX8_mirrored_5 (by decide) ?_
    refine lv_icmp_ge (tgt := 26) hx hb dX8_mirrored_7 (by decide) (fun c_1 => ?_) (fun c_1 => ?_)
    · replace hm := ifp hm c_1
      exact hx26 _ _ _ _ hm hC (lv_sub hl [1] rfl)
    · replace hm := ifn hm c_1
      refine lv_iload_n hx hb dX8_mirrored_10 rfl (lv_at hl 1 rfl) ?_
      refine lv_iconst (v := (1 : Int32)) hx hb dX8_mirrored_11 (by decide) ?_
      refine lv_ishl hx hb dX8_mirrored_12 ?_
      refine lv_iload_n hx hb dX8_mirrored_13 rfl (lv_at hl 0 rfl) ?_
      refine lv_iload_n hx hb dX8_mirrored_14 rfl (lv_at hl 2 rfl) ?_
      refine lv_ishr hx hb dX8_mirrored_15 ?_
      refine lv_iconst (v := (1 : Int32)) hx hb dX8_mirrored_16 (by decide) ?_
      refine lv_iand hx hb dX8_mirrored_17 ?_
      refine lv_ior hx hb dX8_mirrored_18 ?_
      refine lv_topi (fun x_2 ex_2 => ?_)
      replace hm := nm_in hm ex_2
      refine lv_istore_n (lv' := [(1, .int x_2), (0, .int p0), (2, .int v2)]) hx hb dX8_mirrored_19 rfl hl (by decide) rfl (fun ls hl => ?_)
      refine lv_iinc (v := (v2 + (1 : Int32))) (lv' := [(2, .int (v2 + (1 : Int32))), (1, .int x_2), (0, .int p0)]) hx hb dX8_mirrored_20 hl (k := 2) rfl rfl (by decide) rfl (fun ls hl => ?_)
      refine lv_goto (tgt := 4) hx hb dX8_mirrored_23 (by decide) ?_
      rw [hrc] at hm
      exact ih9 _ _ hm _ _ _ hC (lv_sub hl [2, 1, 0] rfl) hx26
set_option maxRecDepth 100000 in
set_option maxHeartbeats 4000000 in
theorem D8c_mirrored (l : Launch) {D : va_G} {cy : Nat → ClassId} {ad : List Nat} {q : Nat → Nat} {X : va_W} (τ : DS) (a1 : Int32) {o : Int32} (hm : D8m_mirrored a1 = some o) : DM l yX8_mirrored cX8_mirrored 3 (some .int) D8rm_mirrored D cy (dwd cy q X) ad [.int a1] τ (some (.int (o))) τ := by
  refine d_start RX8 rfl (by decide) (Nat.le_of_ble_eq_true rfl) ?_
  intro p e s m args below meth c fx sx hr hC ls hl
  have hx := fx.1
  have hb := fx.2.1
  have hR : 0 ≤ (D8rm_mirrored).frames ∧ 0 ≤ (D8rm_mirrored).locals := ⟨Nat.le_refl _, Nat.le_refl _⟩
  have hf : 0 ≤ (D8rm_mirrored).cells ∧ 0 ≤ (D8rm_mirrored).slots := ⟨Nat.zero_le _, Nat.zero_le _⟩
  have hl : lv_has ls 3 [(0, .int a1)] := hl
  unfold D8m_mirrored at hm
  refine lv_iconst (v := (0 : Int32)) hx hb dX8_mirrored_0 (by decide) ?_
  refine lv_istore_n (lv' := [(1, .int (0 : Int32)), (0, .int a1)]) hx hb dX8_mirrored_1 rfl hl (by decide) rfl (fun ls hl => ?_)
  refine lv_iconst (v := (0 : Int32)) hx hb dX8_mirrored_2 (by decide) ?_
  refine lv_istore_n (lv' := [(2, .int (0 : Int32)), (1, .int (0 : Int32)), (0, .int a1)]) hx hb dX8_mirrored_3 rfl hl (by decide) rfl (fun ls hl => ?_)
  refine D8w_mirrored_4 τ fx sx hR hf a1 fuel (0 : Int32) (0 : Int32) hm _ _ _ hC (lv_sub hl [2, 1, 0] rfl) (fun u_3 H locs ls hm hC hl => ?_)
  refine lv_iload_n hx hb dX8_mirrored_26 rfl (lv_at hl 0 rfl) ?_
  cases hm
  exact g_iret fx hr hC rfl dX8_mirrored_27
def D8m_keep (τ : DS) : Option (Int32 × DS) :=
  nm (dS τ 0 2 ((τ.1 0 2) + (1 : Int32))) (fun τ_1 => some (((τ_1.1 0 2) - (1 : Int32)), τ_1))
abbrev D8rm_keep : Room := { frames := 0, cells := 0, slots := 0, locals := 0 }
set_option maxRecDepth 100000 in
set_option maxHeartbeats 4000000 in
theorem D8c_keep (l : Launch) {D : va_G} {cy : Nat → ClassId} {ad : List Nat} {q : Nat → Nat} {X : va_W} (τ : DS) {o : Int32 × DS} (hm : D8m_keep τ = some o) : DM l yX8_keep cX8_keep 1 (some .int) D8rm_keep D cy (dwd cy q X) ad [.ref (q 0)] τ (some (.int (o.1))) o.2 := by
  refine d_start RX8 rfl (by decide) (Nat.le_of_ble_eq_true rfl) ?_
  intro p e s m args below meth c fx sx hr hC ls hl
  have hx := fx.1
  have hb := fx.2.1
  have hR : 0 ≤ (D8rm_keep).frames ∧ 0 ≤ (D8rm_keep).locals := ⟨Nat.le_refl _, Nat.le_refl _⟩
  have hf : 0 ≤ (D8rm_keep).cells ∧ 0 ≤ (D8rm_keep).slots := ⟨Nat.zero_le _, Nat.zero_le _⟩
  have hl : lv_has ls 1 [(0, .ref (q 0))] := hl
  unfold D8m_keep at hm
  refine lv_aload_n hx hb dX8_keep_0 rfl (lv_at hl 0 rfl) ?_
  refine lv_dup hx hb dX8_keep_1 rfl ?_
  refine D8g_2 fx hC k_208 dX8_keep_2 ?_
  refine lv_iconst (v := (1 : Int32)) hx hb dX8_keep_5 (by decide) ?_
  refine lv_iadd hx hb dX8_keep_6 ?_
  refine D8p_2 fx hC k_208 dX8_keep_7 (fun H locs hC => ?_)
  obtain ⟨τ_1, e_2⟩ : ∃ z, z = (dS τ 0 2 ((τ.1 0 2) + (1 : Int32))) := ⟨_, rfl⟩
  rw [← e_2] at hC
  replace hm := nm_in hm e_2
  refine lv_aload_n hx hb dX8_keep_10 rfl (lv_at hl 0 rfl) ?_
  refine D8g_2 fx hC k_208 dX8_keep_11 ?_
  refine lv_iconst (v := (1 : Int32)) hx hb dX8_keep_14 (by decide) ?_
  refine lv_isub hx hb dX8_keep_15 ?_
  cases hm
  exact g_iret fx hr hC rfl dX8_keep_16
def D8m_tell (τ : DS) (a1 : Int32) : Option (Int32 × DS) :=
  if a1 = (-1 : Int32) then (bqe (D8m_blank τ (0 : Int32)) (fun τ_5 => some ((-4 : Int32), τ_5)) (fun r_3 τ_5 => b2 (D8m_keep τ_5) (fun r_9 τ_8 => some (r_9, τ_8)))) else (if (D2m_hasRoads τ a1) = (0 : Int32) then (some ((-2 : Int32), τ)) else (bqe (D8m_blank τ (0 : Int32)) (fun τ_14 => some ((-4 : Int32), τ_14)) (fun r_12 τ_14 => b1 (D8m_mirrored a1) (fun r_17 => b1 (D7m_put r_12 τ_14 r_17) (fun τ_19 => b2 (D8m_keep τ_19) (fun r_22 τ_21 => some (r_22, τ_21)))))))
abbrev D8rm_tell : Room := { frames := 3, cells := 0, slots := 0, locals := 67 }
set_option maxRecDepth 100000 in
set_option maxHeartbeats 4000000 in
theorem D8c_tell (l : Launch) {D : va_G} {cy : Nat → ClassId} {ad : List Nat} {q : Nat → Nat} {X : va_W} (τ : DS) (a1 : Int32) {o : Int32 × DS} (hm : D8m_tell τ a1 = some o) : DM l yX8_tell cX8_tell 3 (some .int) D8rm_tell D cy (dwd cy q X) ad [.ref (q 0), .int a1] τ (some (.int (o.1))) o.2 := by
  refine d_start RX8 rfl (by decide) (Nat.le_of_ble_eq_true rfl) ?_
  intro p e s m args below meth c fx sx hr hC ls hl
  have hx := fx.1
  have hb := fx.2.1
  have hR : 3 ≤ (D8rm_tell).frames ∧ 67 ≤ (D8rm_tell).locals := ⟨Nat.le_refl _, Nat.le_refl _⟩
  have hf : 0 ≤ (D8rm_tell).cells ∧ 0 ≤ (D8rm_tell).slots := ⟨Nat.zero_le _, Nat.zero_le _⟩
  have hl : lv_has ls 3 [(0, .ref (q 0)), (1, .int a1)] := hl
  unfold D8m_tell at hm
  refine lv_iload_n hx hb dX8_tell_0 rfl (lv_at hl 1 rfl) ?_
  refine lv_iconst (v := (-1 : Int32)) hx hb dX8_tell_1 (by decide) ?_
  refine lv_icmp_eq (tgt := 19) hx hb dX8_tell_2 (by decide) (fun c_1 => ?_) (fun c_1 => ?_)
  · replace hm := ifp hm c_1
    refine lv_aload_n hx hb dX8_tell_19 rfl (lv_at hl 0 rfl) ?_
    refine lv_iconst (v := (0 : Int32)) hx hb dX8_tell_20 (by decide) ?_
    rcases bqe_in hm with ⟨τ_5, e_2, hm⟩ | ⟨r_3, τ_5, e_2, h_4, hm⟩
    · refine d_callVn (ci := 8) (As := [.int (0 : Int32)]) (rest := []) fx sx hC dw_w (D8c_blank l τ (0 : Int32) e_2) k_204 D8k_blank D8h_blank rfl rfl (O_at O8) ⟨rfl, rfl⟩ ⟨Nat.le_trans (Nat.le_of_ble_eq_true rfl) hR.1, Nat.le_trans (Nat.le_of_ble_eq_true rfl) hR.2⟩ hf rfl hl.1 rfl (Nat.le_of_ble_eq_true rfl) dX8_tell_21 (fun H locs hC => ?_)
      refine lv_astore_nN (lv' := [(2, .null), (0, .ref (q 0)), (1, .int a1)]) hx hb dX8_tell_24 rfl hl (by decide) rfl (fun ls hl => ?_)
      refine lv_aload_nN hx hb dX8_tell_25 rfl (lv_at hl 0 rfl) ?_
      refine lv_ifnonnullN hx hb dX8_tell_26 ?_
      refine lv_bipush (v := (-4 : Int32)) hx hb dX8_tell_29 (by decide) ?_
      cases hm
      exact g_iret fx hr hC rfl dX8_tell_31
    · refine d_callVr (ci := 8) (As := [.int (0 : Int32)]) (rest := []) fx sx hC dw_w (D8c_blank l τ (0 : Int32) e_2) k_204 D8k_blank D8h_blank rfl rfl (O_at O8) ⟨rfl, rfl⟩ ⟨Nat.le_trans (Nat.le_of_ble_eq_true rfl) hR.1, Nat.le_trans (Nat.le_of_ble_eq_true rfl) hR.2⟩ hf rfl hl.1 rfl (Nat.le_of_ble_eq_true rfl) dX8_tell_21 (fun H locs hC => ?_)
      refine lv_astore_n (lv' := [(2, .ref (q (47 + r_3))), (0, .ref (q 0)), (1, .int a1)]) hx hb dX8_tell_24 rfl hl (by decide) rfl (fun ls hl => ?_)
      refine lv_aload_n hx hb dX8_tell_25 rfl (lv_at hl 0 rfl) ?_
      refine lv_ifnonnull (tgt := 32) hx hb dX8_tell_26 (by decide) ?_
      refine lv_iload_n hx hb dX8_tell_32 rfl (lv_at hl 2 rfl) ?_
      refine lv_iconst (v := (-1 : Int32)) hx hb dX8_tell_33 (by decide) ?_
      refine lv_icmp_eq (tgt := 45) hx hb dX8_tell_34 (by decide) (fun c_6 => ?_) (fun c_6 => ?_)
      · refine lv_aload_n hx hb dX8_tell_45 rfl (lv_at hl 1 rfl) ?_
        obtain ⟨r_9, τ_8, e_7, hm⟩ := b2_in hm
        refine d_callVi (ci := 8) (As := []) (rest := []) fx sx hC dw_w (D8c_keep l τ_5 e_7) k_224 D8k_keep D8h_keep rfl rfl (O_at O8) ⟨rfl, rfl⟩ ⟨Nat.le_trans (Nat.le_of_ble_eq_true rfl) hR.1, Nat.le_trans (Nat.le_of_ble_eq_true rfl) hR.2⟩ hf rfl hl.1 rfl (Nat.le_of_ble_eq_true rfl) dX8_tell_46 (fun H locs hC => ?_)
        cases hm
        exact g_iret fx hr hC rfl dX8_tell_49
      · exact absurd c_1 c_6
  · replace hm := ifn hm c_1
    refine lv_aload_n hx hb dX8_tell_5 rfl (lv_at hl 0 rfl) ?_
    refine D8g_0 fx hC k_15 dX8_tell_6 ?_
    refine lv_iload_n hx hb dX8_tell_9 rfl (lv_at hl 1 rfl) ?_
    refine d_callVi (ci := 2) (As := [.int a1]) (rest := []) fx sx hC dw_w (D2c_hasRoads l τ a1) k_200 D2k_hasRoads D2h_hasRoads rfl rfl (O_at O2) ⟨rfl, rfl⟩ ⟨Nat.le_trans (Nat.le_of_ble_eq_true rfl) hR.1, Nat.le_trans (Nat.le_of_ble_eq_true rfl) hR.2⟩ hf rfl hl.1 rfl (Nat.le_of_ble_eq_true rfl) dX8_tell_10 (fun H locs hC => ?_)
    refine lv_if_ne (tgt := 19) hx hb dX8_tell_13 (by decide) (fun c_10 => ?_) (fun c_10 => ?_)
    · replace hm := ifn hm c_10
      refine lv_aload_n hx hb dX8_tell_19 rfl (lv_at hl 0 rfl) ?_
      refine lv_iconst (v := (0 : Int32)) hx hb dX8_tell_20 (by decide) ?_
      rcases bqe_in hm with ⟨τ_14, e_11, hm⟩ | ⟨r_12, τ_14, e_11, h_13, hm⟩
      · refine d_callVn (ci := 8) (As := [.int (0 : Int32)]) (rest := []) fx sx hC dw_w (D8c_blank l τ (0 : Int32) e_11) k_204 D8k_blank D8h_blank rfl rfl (O_at O8) ⟨rfl, rfl⟩ ⟨Nat.le_trans (Nat.le_of_ble_eq_true rfl) hR.1, Nat.le_trans (Nat.le_of_ble_eq_true rfl) hR.2⟩ hf rfl hl.1 rfl (Nat.le_of_ble_eq_true rfl) dX8_tell_21 (fun H locs hC => ?_)
        refine lv_astore_nN (lv' := [(2, .null), (0, .ref (q 0)), (1, .int a1)]) hx hb dX8_tell_24 rfl hl (by decide) rfl (fun ls hl => ?_)
        refine lv_aload_nN hx hb dX8_tell_25 rfl (lv_at hl 0 rfl) ?_
        refine lv_ifnonnullN hx hb dX8_tell_26 ?_
        refine lv_bipush (v := (-4 : Int32)) hx hb dX8_tell_29 (by decide) ?_
        cases hm
        exact g_iret fx hr hC rfl dX8_tell_31
      · refine d_callVr (ci := 8) (As := [.int (0 : Int32)]) (rest := []) fx sx hC dw_w (D8c_blank l τ (0 : Int32) e_11) k_204 D8k_blank D8h_blank rfl rfl (O_at O8) ⟨rfl, rfl⟩ ⟨Nat.le_trans (Nat.le_of_ble_eq_true rfl) hR.1, Nat.le_trans (Nat.le_of_ble_eq_true rfl) hR.2⟩ hf rfl hl.1 rfl (Nat.le_of_ble_eq_true rfl) dX8_tell_21 (fun H locs hC => ?_)
        refine lv_astore_n (lv' := [(2, .ref (q (47 + r_12))), (0, .ref (q 0)), (1, .int a1)]) hx hb dX8_tell_24 rfl hl (by decide) rfl (fun ls hl => ?_)
        refine lv_aload_n hx hb dX8_tell_25 rfl (lv_at hl 0 rfl) ?_
        refine lv_ifnonnull (tgt := 32) hx hb dX8_tell_26 (by decide) ?_
        refine lv_iload_n hx hb dX8_tell_32 rfl (lv_at hl 2 rfl) ?_
        refine lv_iconst (v := (-1 : Int32)) hx hb dX8_tell_33 (by decide) ?_
        refine lv_icmp_eq (tgt := 45) hx hb dX8_tell_34 (by decide) (fun c_15 => ?_) (fun c_15 => ?_)
        · exact absurd c_15 c_1
        · refine lv_aload_n hx hb dX8_tell_37 rfl (lv_at hl 0 rfl) ?_
          refine lv_iload_n hx hb dX8_tell_38 rfl (lv_at hl 2 rfl) ?_
          obtain ⟨r_17, e_16, hm⟩ := b1_in hm
          refine d_callSi (As := [.int a1]) (rest := [.ref (q (47 + r_12))]) fx sx hC dw_w (D8c_mirrored l τ_14 a1 e_16) k_217 D8k_mirrored D8h_mirrored ⟨rfl, rfl⟩ ⟨Nat.le_trans (Nat.le_of_ble_eq_true rfl) hR.1, Nat.le_trans (Nat.le_of_ble_eq_true rfl) hR.2⟩ hf rfl hl.1 rfl (Nat.le_of_ble_eq_true rfl) dX8_tell_39 (fun H locs hC => ?_)
          obtain ⟨τ_19, e_18, hm⟩ := b1_in hm
          refine d_callVv (ci := 7) (As := [.int r_17]) (rest := []) fx sx hC dw_w (D7c_put l r_12 h_13 τ_14 r_17 e_18) k_220 D7k_put D7h_put rfl rfl (O_at (K7 h_13)) ⟨rfl, rfl⟩ ⟨Nat.le_trans (Nat.le_of_ble_eq_true rfl) hR.1, Nat.le_trans (Nat.le_of_ble_eq_true rfl) hR.2⟩ hf rfl hl.1 rfl (Nat.le_of_ble_eq_true rfl) dX8_tell_42 (fun H locs hC => ?_)
          refine lv_aload_n hx hb dX8_tell_45 rfl (lv_at hl 1 rfl) ?_
          obtain ⟨r_22, τ_21, e_20, hm⟩ := b2_in hm
          refine d_callVi (ci := 8) (As := []) (rest := []) fx sx hC dw_w (D8c_keep l τ_19 e_20) k_224 D8k_keep D8h_keep rfl rfl (O_at O8) ⟨rfl, rfl⟩ ⟨Nat.le_trans (Nat.le_of_ble_eq_true rfl) hR.1, Nat.le_trans (Nat.le_of_ble_eq_true rfl) hR.2⟩ hf rfl hl.1 rfl (Nat.le_of_ble_eq_true rfl) dX8_tell_46 (fun H locs hC => ?_)
          cases hm
          exact g_iret fx hr hC rfl dX8_tell_49
    · replace hm := ifp hm c_10
      refine lv_bipush (v := (-2 : Int32)) hx hb dX8_tell_16 (by decide) ?_
      cases hm
      exact g_iret fx hr hC rfl dX8_tell_18
def D8m_all (τ : DS) (a1 : Int32) : Option (Int32 × DS) :=
  if (D2m_hasRoads τ a1) = (0 : Int32) then (some ((-2 : Int32), τ)) else (bqe (D8m_blank τ (0 : Int32)) (fun τ_5 => some ((-4 : Int32), τ_5)) (fun r_3 τ_5 => b1 (D8m_mirrored a1) (fun r_7 => b1 (D7m_put r_3 τ_5 r_7) (fun τ_9 => b1 (D7m_spreadDown r_3 τ_9) (fun τ_11 => b2 (D8m_keep τ_11) (fun r_14 τ_13 => some (r_14, τ_13)))))))
abbrev D8rm_all : Room := { frames := 3, cells := 0, slots := 0, locals := 67 }
set_option maxRecDepth 100000 in
set_option maxHeartbeats 4000000 in
theorem D8c_all (l : Launch) {D : va_G} {cy : Nat → ClassId} {ad : List Nat} {q : Nat → Nat} {X : va_W} (τ : DS) (a1 : Int32) {o : Int32 × DS} (hm : D8m_all τ a1 = some o) : DM l yX8_all cX8_all 3 (some .int) D8rm_all D cy (dwd cy q X) ad [.ref (q 0), .int a1] τ (some (.int (o.1))) o.2 := by
  refine d_start RX8 rfl (by decide) (Nat.le_of_ble_eq_true rfl) ?_
  intro p e s m args below meth c fx sx hr hC ls hl
  have hx := fx.1
  have hb := fx.2.1
  have hR : 3 ≤ (D8rm_all).frames ∧ 67 ≤ (D8rm_all).locals := ⟨Nat.le_refl _, Nat.le_refl _⟩
  have hf : 0 ≤ (D8rm_all).cells ∧ 0 ≤ (D8rm_all).slots := ⟨Nat.zero_le _, Nat.zero_le _⟩
  have hl : lv_has ls 3 [(0, .ref (q 0)), (1, .int a1)] := hl
  unfold D8m_all at hm
  refine lv_aload_n hx hb dX8_all_0 rfl (lv_at hl 0 rfl) ?_
  refine D8g_0 fx hC k_15 dX8_all_1 ?_
  refine lv_iload_n hx hb dX8_all_4 rfl (lv_at hl 1 rfl) ?_
  refine d_callVi (ci := 2) (As := [.int a1]) (rest := []) fx sx hC dw_w (D2c_hasRoads l τ a1) k_200 D2k_hasRoads D2h_hasRoads rfl rfl (O_at O2) ⟨rfl, rfl⟩ ⟨Nat.le_trans (Nat.le_of_ble_eq_true rfl) hR.1, Nat.le_trans (Nat.le_of_ble_eq_true rfl) hR.2⟩ hf rfl hl.1 rfl (Nat.le_of_ble_eq_true rfl) dX8_all_5 (fun H locs hC => ?_)
  refine lv_if_ne (tgt := 14) hx hb dX8_all_8 (by decide) (fun c_1 => ?_) (fun c_1 => ?_)
  · replace hm := ifn hm c_1
    refine lv_aload_n hx hb dX8_all_14 rfl (lv_at hl 0 rfl) ?_
    refine lv_iconst (v := (0 : Int32)) hx hb dX8_all_15 (by decide) ?_
    rcases bqe_in hm with ⟨τ_5, e_2, hm⟩ | ⟨r_3, τ_5, e_2, h_4, hm⟩
    · refine d_callVn (ci := 8) (As := [.int (0 : Int32)]) (rest := []) fx sx hC dw_w (D8c_blank l τ (0 : Int32) e_2) k_204 D8k_blank D8h_blank rfl rfl (O_at O8) ⟨rfl, rfl⟩ ⟨Nat.le_trans (Nat.le_of_ble_eq_true rfl) hR.1, Nat.le_trans (Nat.le_of_ble_eq_true rfl) hR.2⟩ hf rfl hl.1 rfl (Nat.le_of_ble_eq_true rfl) dX8_all_16 (fun H locs hC => ?_)
      refine lv_astore_nN (lv' := [(2, .null), (0, .ref (q 0)), (1, .int a1)]) hx hb dX8_all_19 rfl hl (by decide) rfl (fun ls hl => ?_)
      refine lv_aload_nN hx hb dX8_all_20 rfl (lv_at hl 0 rfl) ?_
      refine lv_ifnonnullN hx hb dX8_all_21 ?_
      refine lv_bipush (v := (-4 : Int32)) hx hb dX8_all_24 (by decide) ?_
      cases hm
      exact g_iret fx hr hC rfl dX8_all_26
    · refine d_callVr (ci := 8) (As := [.int (0 : Int32)]) (rest := []) fx sx hC dw_w (D8c_blank l τ (0 : Int32) e_2) k_204 D8k_blank D8h_blank rfl rfl (O_at O8) ⟨rfl, rfl⟩ ⟨Nat.le_trans (Nat.le_of_ble_eq_true rfl) hR.1, Nat.le_trans (Nat.le_of_ble_eq_true rfl) hR.2⟩ hf rfl hl.1 rfl (Nat.le_of_ble_eq_true rfl) dX8_all_16 (fun H locs hC => ?_)
      refine lv_astore_n (lv' := [(2, .ref (q (47 + r_3))), (0, .ref (q 0)), (1, .int a1)]) hx hb dX8_all_19 rfl hl (by decide) rfl (fun ls hl => ?_)
      refine lv_aload_n hx hb dX8_all_20 rfl (lv_at hl 0 rfl) ?_
      refine lv_ifnonnull (tgt := 27) hx hb dX8_all_21 (by decide) ?_
      refine lv_aload_n hx hb dX8_all_27 rfl (lv_at hl 0 rfl) ?_
      refine lv_iload_n hx hb dX8_all_28 rfl (lv_at hl 2 rfl) ?_
      obtain ⟨r_7, e_6, hm⟩ := b1_in hm
      refine d_callSi (As := [.int a1]) (rest := [.ref (q (47 + r_3))]) fx sx hC dw_w (D8c_mirrored l τ_5 a1 e_6) k_217 D8k_mirrored D8h_mirrored ⟨rfl, rfl⟩ ⟨Nat.le_trans (Nat.le_of_ble_eq_true rfl) hR.1, Nat.le_trans (Nat.le_of_ble_eq_true rfl) hR.2⟩ hf rfl hl.1 rfl (Nat.le_of_ble_eq_true rfl) dX8_all_29 (fun H locs hC => ?_)
      obtain ⟨τ_9, e_8, hm⟩ := b1_in hm
      refine d_callVv (ci := 7) (As := [.int r_7]) (rest := []) fx sx hC dw_w (D7c_put l r_3 h_4 τ_5 r_7 e_8) k_220 D7k_put D7h_put rfl rfl (O_at (K7 h_4)) ⟨rfl, rfl⟩ ⟨Nat.le_trans (Nat.le_of_ble_eq_true rfl) hR.1, Nat.le_trans (Nat.le_of_ble_eq_true rfl) hR.2⟩ hf rfl hl.1 rfl (Nat.le_of_ble_eq_true rfl) dX8_all_32 (fun H locs hC => ?_)
      refine lv_aload_n hx hb dX8_all_35 rfl (lv_at hl 0 rfl) ?_
      obtain ⟨τ_11, e_10, hm⟩ := b1_in hm
      refine d_callVv (ci := 7) (As := []) (rest := []) fx sx hC dw_w (D7c_spreadDown l r_3 h_4 τ_9 e_10) k_249 D7k_spreadDown D7h_spreadDown rfl rfl (O_at (K7 h_4)) ⟨rfl, rfl⟩ ⟨Nat.le_trans (Nat.le_of_ble_eq_true rfl) hR.1, Nat.le_trans (Nat.le_of_ble_eq_true rfl) hR.2⟩ hf rfl hl.1 rfl (Nat.le_of_ble_eq_true rfl) dX8_all_36 (fun H locs hC => ?_)
      refine lv_aload_n hx hb dX8_all_39 rfl (lv_at hl 1 rfl) ?_
      obtain ⟨r_14, τ_13, e_12, hm⟩ := b2_in hm
      refine d_callVi (ci := 8) (As := []) (rest := []) fx sx hC dw_w (D8c_keep l τ_11 e_12) k_224 D8k_keep D8h_keep rfl rfl (O_at O8) ⟨rfl, rfl⟩ ⟨Nat.le_trans (Nat.le_of_ble_eq_true rfl) hR.1, Nat.le_trans (Nat.le_of_ble_eq_true rfl) hR.2⟩ hf rfl hl.1 rfl (Nat.le_of_ble_eq_true rfl) dX8_all_40 (fun H locs hC => ?_)
      cases hm
      exact g_iret fx hr hC rfl dX8_all_43
  · replace hm := ifp hm c_1
    refine lv_bipush (v := (-2 : Int32)) hx hb dX8_all_11 (by decide) ?_
    cases hm
    exact g_iret fx hr hC rfl dX8_all_13
def D8m_family (τ : DS) (a1 : Int32) : Option (Option Nat) :=
  if a1 < (0 : Int32) then (some none) else (if (τ.1 0 2) ≤ a1 then (some none) else (if (30 : Int32) ≤ a1 then (some none) else (gi a1 30 (some (some ((a1).toNatClampNeg))))))
abbrev D8rm_family : Room := { frames := 0, cells := 0, slots := 0, locals := 0 }
set_option maxRecDepth 100000 in
set_option maxHeartbeats 4000000 in
theorem D8c_family (l : Launch) {D : va_G} {cy : Nat → ClassId} {ad : List Nat} {q : Nat → Nat} {X : va_W} (τ : DS) (a1 : Int32) {o : (Option Nat)} (hm : D8m_family τ a1 = some o) : DM l yX8_family cX8_family 2 (some (.object "WayBook$Ways")) D8rm_family D cy (dwd cy q X) ad [.ref (q 0), .int a1] τ (some (va_rf ((o).map (fun i => q (47 + i))))) τ := by
  refine d_start RX8 rfl (by decide) (Nat.le_of_ble_eq_true rfl) ?_
  intro p e s m args below meth c fx sx hr hC ls hl
  have hx := fx.1
  have hb := fx.2.1
  have hR : 0 ≤ (D8rm_family).frames ∧ 0 ≤ (D8rm_family).locals := ⟨Nat.le_refl _, Nat.le_refl _⟩
  have hf : 0 ≤ (D8rm_family).cells ∧ 0 ≤ (D8rm_family).slots := ⟨Nat.zero_le _, Nat.zero_le _⟩
  have hl : lv_has ls 2 [(0, .ref (q 0)), (1, .int a1)] := hl
  unfold D8m_family at hm
  refine lv_iload_n hx hb dX8_family_0 rfl (lv_at hl 1 rfl) ?_
  refine lv_if_lt (tgt := 27) hx hb dX8_family_1 (by decide) (fun c_1 => ?_) (fun c_1 => ?_)
  · replace hm := ifp hm c_1
    refine lv_null hx hb dX8_family_27 ?_
    cases hm
    exact g_aret fx hr (Or.inl ⟨_, rfl⟩) (Or.inl rfl) hC rfl dX8_family_28
  · replace hm := ifn hm c_1
    refine lv_iload_n hx hb dX8_family_4 rfl (lv_at hl 1 rfl) ?_
    refine lv_aload_n hx hb dX8_family_5 rfl (lv_at hl 0 rfl) ?_
    refine D8g_2 fx hC k_208 dX8_family_6 ?_
    refine lv_icmp_ge (tgt := 27) hx hb dX8_family_9 (by decide) (fun c_2 => ?_) (fun c_2 => ?_)
    · replace hm := ifp hm c_2
      refine lv_null hx hb dX8_family_27 ?_
      cases hm
      exact g_aret fx hr (Or.inl ⟨_, rfl⟩) (Or.inl rfl) hC rfl dX8_family_28
    · replace hm := ifn hm c_2
      refine lv_iload_n hx hb dX8_family_12 rfl (lv_at hl 1 rfl) ?_
      refine lv_bipush (v := (30 : Int32)) hx hb dX8_family_13 (by decide) ?_
      refine lv_icmp_ge (tgt := 27) hx hb dX8_family_15 (by decide) (fun c_3 => ?_) (fun c_3 => ?_)
      · replace hm := ifp hm c_3
        refine lv_null hx hb dX8_family_27 ?_
        cases hm
        exact g_aret fx hr (Or.inl ⟨_, rfl⟩) (Or.inl rfl) hC rfl dX8_family_28
      · replace hm := ifn hm c_3
        refine lv_aload_n hx hb dX8_family_18 rfl (lv_at hl 0 rfl) ?_
        refine D8g_1 fx hC k_17 dX8_family_19 ?_
        refine lv_iload_n hx hb dX8_family_22 rfl (lv_at hl 1 rfl) ?_
        have h_4 := (gi_in hm).1
        replace hm := (gi_in hm).2
        refine DLq fx hC K8m (Or.inl rfl) h_4 dX8_family_23 ?_
        refine lv_goto (tgt := 28) hx hb dX8_family_24 (by decide) ?_
        cases hm
        exact g_aret fx hr (Or.inl ⟨_, rfl⟩) (Or.inr ⟨_, rfl⟩) hC rfl dX8_family_28
def D8s_degrees_65 {ρ : Type} (p3 : Int32) (p4 : Int32) (p6 : Nat) (p7 : Int32) (p8 : Int32) (kx126 : DS → Option ρ) (rc : Int32 → DS → Option ρ) (v9 : Int32) (τ : DS) : Option ρ :=
  if p8 ≤ v9 then (kx126  τ) else (if (4096 : Int32) ≤ v9 then (kx126  τ) else (gi v9 4096 (nm (J6m_bitCount_0f7a4 ((τ.2.1 8 (v9).toNatClampNeg) &&& p7)) (fun x_17 => if x_17 < p3 then (rc (v9 + (1 : Int32)) τ) else (if p4 < x_17 then (rc (v9 + (1 : Int32)) τ) else (gi v9 4096 (b1 (D7m_put p6 τ (τ.2.1 8 (v9).toNatClampNeg)) (fun τ_22 => rc (v9 + (1 : Int32)) τ_22))))))))
def D8m_degrees (τ : DS) (a1 : Int32) (a2 : Int32) (a3 : Int32) (a4 : Int32) : Option (Int32 × DS) :=
  bq (D8m_family τ a1) (some ((-2 : Int32), τ)) (fun r_2 => if (D2m_isPost τ a2) = (0 : Int32) then (some ((-2 : Int32), τ)) else (bqe (D8m_blank τ (0 : Int32)) (fun τ_8 => some ((-4 : Int32), τ_8)) (fun r_6 τ_8 => b1 (D2m_roadsAt τ_8 a2) (fun r_10 => b2 (D7m_list r_2 τ_8) (fun r_13 τ_12 => it2 (D8s_degrees_65 a3 a4 r_6 r_10 r_13 (fun τ_23 => b2 (D8m_keep τ_23) (fun r_26 τ_25 => some (r_26, τ_25)))) fuel (0 : Int32) τ_12)))))
abbrev D8rm_degrees : Room := { frames := 3, cells := 0, slots := 0, locals := 67 }
set_option maxRecDepth 100000 in
set_option maxHeartbeats 4000000 in
theorem D8w_degrees_65 {ρ : Type} {out : ρ} {p : Program} {l : Launch} {e : Env} {R : Room} {s : State} {m : MethodId} {args : Array Value} {below : List Frame} {meth : Method} {c : Code} {cells slots : Nat} {Q : State → Prop} {D : va_G} {cy : Nat → ClassId} {ad : List Nat} {q : Nat → Nat} {X : va_W} (fx : FX p s m args meth c cX8_degrees 11 RX8 D cy) (sx : SX ad s) (hR : 3 ≤ R.frames ∧ 67 ≤ R.locals) (hf : cells ≤ R.cells ∧ slots ≤ R.slots) (p3 : Int32) (p4 : Int32) (p6 : Nat) (hp6 : p6 < 32) (p7 : Int32) (p8 : Int32) {kx126 : DS → Option ρ} :
    ∀ (n : Nat) (v9 : Int32) (τ : DS), it2 (D8s_degrees_65 p3 p4 p6 p7 p8 kx126) n v9 τ = some out → ∀ (H : Heap) (locs : List Loc) (ls : Array Slot), GC D (dwd cy q X) ad s τ H locs → lv_has ls 11 [(0, .ref (q 0)), (3, .int p3), (4, .int p4), (6, .ref (q (47 + p6))), (7, .int p7), (8, .int p8), (9, .int v9)] → (∀ (τ2 : DS) (H : Heap) (locs : List Loc) (ls : Array Slot), kx126 τ2 = some out → GC D (dwd cy q X) ad s τ2 H locs → lv_has ls 11 [(0, .ref (q 0))] → W p l e R s m args below meth c H locs cells slots Q (F0 m 126 ls [])) → W p l e R s m args below meth c H locs cells slots Q (F0 m 65 ls []) := by
  have hx := fx.1
  have hb := fx.2.1
  intro n
  induction n with
  | zero => intro v9 τ hm; exact (it2_z hm).elim
  | succ n ih9 =>
    intro v9 τ hm H locs ls hC hl hx126
    obtain ⟨rc, hrc⟩ : ∃ z, z = it2 (D8s_degrees_65 p3 p4 p6 p7 p8 kx126) n := ⟨_, rfl⟩
    replace hm : D8s_degrees_65 p3 p4 p6 p7 p8 kx126 rc v9 τ = some out := by rw [hrc]; exact hm
    unfold D8s_degrees_65 at hm
    refine lv_iload hx hb dX8_degrees_65 (lv_at hl 6 rfl) ?_
    refine lv_iload hx hb dX8_degrees_67 (lv_at hl 5 rfl) ?_
    refine lv_icmp_ge (tgt := 126) hx hb dX8_degrees_69 (by decide) (fun c_14 => ?_) (fun c_14 => ?_)
    · replace hm := ifp hm c_14
      exact hx126 _ _ _ _ hm hC (lv_sub hl [0] rfl)
    · replace hm := ifn hm c_14
      refine lv_iload hx hb dX8_degrees_72 (lv_at hl 6 rfl) ?_
      refine lv_sipush (v := (4096 : Int32)) hx hb dX8_degrees_74 (by decide) ?_
      refine lv_icmp_ge (tgt := 126) hx hb dX8_degrees_77 (by decide) (fun c_15 => ?_) (fun c_15 => ?_)
      · replace hm := ifp hm c_15
        exact hx126 _ _ _ _ hm hC (lv_sub hl [0] rfl)
      · replace hm := ifn hm c_15
        refine lv_aload_n hx hb dX8_degrees_80 rfl (lv_at hl 0 rfl) ?_
        refine D8g_5 fx hC k_23 dX8_degrees_81 ?_
        refine lv_iload hx hb dX8_degrees_84 (lv_at hl 6 rfl) ?_
        have h_16 := (gi_in hm).1
        replace hm := (gi_in hm).2
        refine DLi fx hC Ka8 h_16 dX8_degrees_86 ?_
        refine lv_iload hx hb dX8_degrees_87 (lv_at hl 4 rfl) ?_
        refine lv_iand hx hb dX8_degrees_89 ?_
        refine g_callSi (As := [.int ((τ.2.1 8 (v9).toNatClampNeg) &&& p7)]) (rest := []) fx hC dw_w (J6c_bitCount_0f7a4 l dw_w τ ((τ.2.1 8 (v9).toNatClampNeg) &&& p7)) k_444 J6k_bitCount_0f7a4 J6h_bitCount_0f7a4 ⟨rfl, rfl⟩ ⟨Nat.le_trans (Nat.le_of_ble_eq_true rfl) hR.1, Nat.le_trans (Nat.le_of_ble_eq_true rfl) hR.2⟩ hf rfl hl.1 rfl (Nat.le_of_ble_eq_true rfl) dX8_degrees_90 (fun H locs hC => ?_)
        refine lv_topi (fun x_17 ex_17 => ?_)
        replace hm := nm_in hm ex_17
        refine lv_istore (lv' := [(10, .int x_17), (0, .ref (q 0)), (3, .int p3), (4, .int p4), (6, .ref (q (47 + p6))), (7, .int p7), (8, .int p8), (9, .int v9)]) hx hb dX8_degrees_93 hl (by decide) rfl (fun ls hl => ?_)
        refine lv_iload hx hb dX8_degrees_95 (lv_at hl 0 rfl) ?_
        refine lv_iload_n hx hb dX8_degrees_97 rfl (lv_at hl 2 rfl) ?_
        refine lv_icmp_lt (tgt := 120) hx hb dX8_degrees_98 (by decide) (fun c_18 => ?_) (fun c_18 => ?_)
        · replace hm := ifp hm c_18
          refine lv_iinc (v := (v9 + (1 : Int32))) (lv' := [(9, .int (v9 + (1 : Int32))), (10, .int x_17), (0, .ref (q 0)), (3, .int p3), (4, .int p4), (6, .ref (q (47 + p6))), (7, .int p7), (8, .int p8)]) hx hb dX8_degrees_120 hl (k := 7) rfl rfl (by decide) rfl (fun ls hl => ?_)
          refine lv_goto (tgt := 65) hx hb dX8_degrees_123 (by decide) ?_
          rw [hrc] at hm
          exact ih9 _ _ hm _ _ _ hC (lv_sub hl [2, 3, 4, 5, 6, 7, 0] rfl) hx126
        · replace hm := ifn hm c_18
          refine lv_iload hx hb dX8_degrees_101 (lv_at hl 0 rfl) ?_
          refine lv_iload hx hb dX8_degrees_103 (lv_at hl 3 rfl) ?_
          refine lv_icmp_gt (tgt := 120) hx hb dX8_degrees_105 (by decide) (fun c_19 => ?_) (fun c_19 => ?_)
          · replace hm := ifp hm c_19
            refine lv_iinc (v := (v9 + (1 : Int32))) (lv' := [(9, .int (v9 + (1 : Int32))), (10, .int x_17), (0, .ref (q 0)), (3, .int p3), (4, .int p4), (6, .ref (q (47 + p6))), (7, .int p7), (8, .int p8)]) hx hb dX8_degrees_120 hl (k := 7) rfl rfl (by decide) rfl (fun ls hl => ?_)
            refine lv_goto (tgt := 65) hx hb dX8_degrees_123 (by decide) ?_
            rw [hrc] at hm
            exact ih9 _ _ hm _ _ _ hC (lv_sub hl [2, 3, 4, 5, 6, 7, 0] rfl) hx126
          · replace hm := ifn hm c_19
            refine lv_aload hx hb dX8_degrees_108 (lv_at hl 4 rfl) ?_
            refine lv_aload_n hx hb dX8_degrees_110 rfl (lv_at hl 1 rfl) ?_
            refine D8g_5 fx hC k_23 dX8_degrees_111 ?_
            refine lv_iload hx hb dX8_degrees_114 (lv_at hl 7 rfl) ?_
            have h_20 := (gi_in hm).1
            replace hm := (gi_in hm).2
            refine DLi fx hC Ka8 h_20 dX8_degrees_116 ?_
            obtain ⟨τ_22, e_21, hm⟩ := b1_in hm
            refine d_callVv (ci := 7) (As := [.int (τ.2.1 8 (v9).toNatClampNeg)]) (rest := []) fx sx hC dw_w (D7c_put l p6 hp6 τ (τ.2.1 8 (v9).toNatClampNeg) e_21) k_220 D7k_put D7h_put rfl rfl (O_at (K7 hp6)) ⟨rfl, rfl⟩ ⟨Nat.le_trans (Nat.le_of_ble_eq_true rfl) hR.1, Nat.le_trans (Nat.le_of_ble_eq_true rfl) hR.2⟩ hf rfl hl.1 rfl (Nat.le_of_ble_eq_true rfl) dX8_degrees_117 (fun H locs hC => ?_)
            refine lv_iinc (v := (v9 + (1 : Int32))) (lv' := [(9, .int (v9 + (1 : Int32))), (10, .int x_17), (0, .ref (q 0)), (3, .int p3), (4, .int p4), (6, .ref (q (47 + p6))), (7, .int p7), (8, .int p8)]) hx hb dX8_degrees_120 hl (k := 7) rfl rfl (by decide) rfl (fun ls hl => ?_)
            refine lv_goto (tgt := 65) hx hb dX8_degrees_123 (by decide) ?_
            rw [hrc] at hm
            exact ih9 _ _ hm _ _ _ hC (lv_sub hl [2, 3, 4, 5, 6, 7, 0] rfl) hx126
set_option maxRecDepth 100000 in
set_option maxHeartbeats 4000000 in
theorem D8c_degrees (l : Launch) {D : va_G} {cy : Nat → ClassId} {ad : List Nat} {q : Nat → Nat} {X : va_W} (τ : DS) (a1 : Int32) (a2 : Int32) (a3 : Int32) (a4 : Int32) {o : Int32 × DS} (hm : D8m_degrees τ a1 a2 a3 a4 = some o) : DM l yX8_degrees cX8_degrees 11 (some .int) D8rm_degrees D cy (dwd cy q X) ad [.ref (q 0), .int a1, .int a2, .int a3, .int a4] τ (some (.int (o.1))) o.2 := by
  refine d_start RX8 rfl (by decide) (Nat.le_of_ble_eq_true rfl) ?_
  intro p e s m args below meth c fx sx hr hC ls hl
  have hx := fx.1
  have hb := fx.2.1
  have hR : 3 ≤ (D8rm_degrees).frames ∧ 67 ≤ (D8rm_degrees).locals := ⟨Nat.le_refl _, Nat.le_refl _⟩
  have hf : 0 ≤ (D8rm_degrees).cells ∧ 0 ≤ (D8rm_degrees).slots := ⟨Nat.zero_le _, Nat.zero_le _⟩
  have hl : lv_has ls 11 [(0, .ref (q 0)), (1, .int a1), (2, .int a2), (3, .int a3), (4, .int a4)] := hl
  unfold D8m_degrees at hm
  refine lv_aload_n hx hb dX8_degrees_0 rfl (lv_at hl 0 rfl) ?_
  refine lv_iload_n hx hb dX8_degrees_1 rfl (lv_at hl 1 rfl) ?_
  rcases bq_in hm with ⟨e_1, hm⟩ | ⟨r_2, e_1, h_3, hm⟩
  · refine d_callVn (ci := 8) (As := [.int a1]) (rest := []) fx sx hC dw_w (D8c_family l τ a1 e_1) k_430 D8k_family D8h_family rfl rfl (O_at O8) ⟨rfl, rfl⟩ ⟨Nat.le_trans (Nat.le_of_ble_eq_true rfl) hR.1, Nat.le_trans (Nat.le_of_ble_eq_true rfl) hR.2⟩ hf rfl hl.1 rfl (Nat.le_of_ble_eq_true rfl) dX8_degrees_2 (fun H locs hC => ?_)
    refine lv_astoreN (lv' := [(5, .null), (0, .ref (q 0)), (1, .int a1), (2, .int a2), (3, .int a3), (4, .int a4)]) hx hb dX8_degrees_5 hl (by decide) rfl (fun ls hl => ?_)
    refine lv_aloadN hx hb dX8_degrees_7 (lv_at hl 0 rfl) ?_
    refine lv_ifnullN (tgt := 23) hx hb dX8_degrees_9 (by decide) ?_
    refine lv_bipush (v := (-2 : Int32)) hx hb dX8_degrees_23 (by decide) ?_
    cases hm
    exact g_iret fx hr hC rfl dX8_degrees_25
  · refine d_callVr (ci := 8) (As := [.int a1]) (rest := []) fx sx hC dw_w (D8c_family l τ a1 e_1) k_430 D8k_family D8h_family rfl rfl (O_at O8) ⟨rfl, rfl⟩ ⟨Nat.le_trans (Nat.le_of_ble_eq_true rfl) hR.1, Nat.le_trans (Nat.le_of_ble_eq_true rfl) hR.2⟩ hf rfl hl.1 rfl (Nat.le_of_ble_eq_true rfl) dX8_degrees_2 (fun H locs hC => ?_)
    refine lv_astore (lv' := [(5, .ref (q (47 + r_2))), (0, .ref (q 0)), (1, .int a1), (2, .int a2), (3, .int a3), (4, .int a4)]) hx hb dX8_degrees_5 hl (by decide) rfl (fun ls hl => ?_)
    refine lv_aload hx hb dX8_degrees_7 (lv_at hl 0 rfl) ?_
    refine lv_ifnull hx hb dX8_degrees_9 ?_
    refine lv_aload_n hx hb dX8_degrees_12 rfl (lv_at hl 1 rfl) ?_
    refine D8g_0 fx hC k_15 dX8_degrees_13 ?_
    refine lv_iload_n hx hb dX8_degrees_16 rfl (lv_at hl 3 rfl) ?_
    refine d_callVi (ci := 2) (As := [.int a2]) (rest := []) fx sx hC dw_w (D2c_isPost l τ a2) k_147 D2k_isPost D2h_isPost rfl rfl (O_at O2) ⟨rfl, rfl⟩ ⟨Nat.le_trans (Nat.le_of_ble_eq_true rfl) hR.1, Nat.le_trans (Nat.le_of_ble_eq_true rfl) hR.2⟩ hf rfl hl.1 rfl (Nat.le_of_ble_eq_true rfl) dX8_degrees_17 (fun H locs hC => ?_)
    refine lv_if_ne (tgt := 26) hx hb dX8_degrees_20 (by decide) (fun c_4 => ?_) (fun c_4 => ?_)
    · replace hm := ifn hm c_4
      refine lv_aload_n hx hb dX8_degrees_26 rfl (lv_at hl 1 rfl) ?_
      refine lv_iconst (v := (0 : Int32)) hx hb dX8_degrees_27 (by decide) ?_
      rcases bqe_in hm with ⟨τ_8, e_5, hm⟩ | ⟨r_6, τ_8, e_5, h_7, hm⟩
      · refine d_callVn (ci := 8) (As := [.int (0 : Int32)]) (rest := []) fx sx hC dw_w (D8c_blank l τ (0 : Int32) e_5) k_204 D8k_blank D8h_blank rfl rfl (O_at O8) ⟨rfl, rfl⟩ ⟨Nat.le_trans (Nat.le_of_ble_eq_true rfl) hR.1, Nat.le_trans (Nat.le_of_ble_eq_true rfl) hR.2⟩ hf rfl hl.1 rfl (Nat.le_of_ble_eq_true rfl) dX8_degrees_28 (fun H locs hC => ?_)
        refine lv_astoreN (lv' := [(6, .null), (5, .ref (q (47 + r_2))), (0, .ref (q 0)), (1, .int a1), (2, .int a2), (3, .int a3), (4, .int a4)]) hx hb dX8_degrees_31 hl (by decide) rfl (fun ls hl => ?_)
        refine lv_aloadN hx hb dX8_degrees_33 (lv_at hl 0 rfl) ?_
        refine lv_ifnonnullN hx hb dX8_degrees_35 ?_
        refine lv_bipush (v := (-4 : Int32)) hx hb dX8_degrees_38 (by decide) ?_
        cases hm
        exact g_iret fx hr hC rfl dX8_degrees_40
      · refine d_callVr (ci := 8) (As := [.int (0 : Int32)]) (rest := []) fx sx hC dw_w (D8c_blank l τ (0 : Int32) e_5) k_204 D8k_blank D8h_blank rfl rfl (O_at O8) ⟨rfl, rfl⟩ ⟨Nat.le_trans (Nat.le_of_ble_eq_true rfl) hR.1, Nat.le_trans (Nat.le_of_ble_eq_true rfl) hR.2⟩ hf rfl hl.1 rfl (Nat.le_of_ble_eq_true rfl) dX8_degrees_28 (fun H locs hC => ?_)
        refine lv_astore (lv' := [(6, .ref (q (47 + r_6))), (5, .ref (q (47 + r_2))), (0, .ref (q 0)), (1, .int a1), (2, .int a2), (3, .int a3), (4, .int a4)]) hx hb dX8_degrees_31 hl (by decide) rfl (fun ls hl => ?_)
        refine lv_aload hx hb dX8_degrees_33 (lv_at hl 0 rfl) ?_
        refine lv_ifnonnull (tgt := 41) hx hb dX8_degrees_35 (by decide) ?_
        refine lv_aload_n hx hb dX8_degrees_41 rfl (lv_at hl 2 rfl) ?_
        refine D8g_0 fx hC k_15 dX8_degrees_42 ?_
        refine lv_iload_n hx hb dX8_degrees_45 rfl (lv_at hl 4 rfl) ?_
        obtain ⟨r_10, e_9, hm⟩ := b1_in hm
        refine d_callVi (ci := 2) (As := [.int a2]) (rest := []) fx sx hC dw_w (D2c_roadsAt l τ_8 a2 e_9) k_434 D2k_roadsAt D2h_roadsAt rfl rfl (O_at O2) ⟨rfl, rfl⟩ ⟨Nat.le_trans (Nat.le_of_ble_eq_true rfl) hR.1, Nat.le_trans (Nat.le_of_ble_eq_true rfl) hR.2⟩ hf rfl hl.1 rfl (Nat.le_of_ble_eq_true rfl) dX8_degrees_46 (fun H locs hC => ?_)
        refine lv_istore (lv' := [(7, .int r_10), (6, .ref (q (47 + r_6))), (5, .ref (q (47 + r_2))), (0, .ref (q 0)), (1, .int a1), (2, .int a2), (3, .int a3), (4, .int a4)]) hx hb dX8_degrees_49 hl (by decide) rfl (fun ls hl => ?_)
        refine lv_aload hx hb dX8_degrees_51 (lv_at hl 2 rfl) ?_
        refine lv_aload_n hx hb dX8_degrees_53 rfl (lv_at hl 3 rfl) ?_
        refine D8g_5 fx hC k_23 dX8_degrees_54 ?_
        obtain ⟨r_13, τ_12, e_11, hm⟩ := b2_in hm
        refine d_callVi (ci := 7) (As := [.ref (q 8)]) (rest := []) fx sx hC dw_w (D7c_list l r_2 h_3 τ_8 e_11) k_440 D7k_list D7h_list rfl rfl (O_at (K7 h_3)) ⟨rfl, rfl⟩ ⟨Nat.le_trans (Nat.le_of_ble_eq_true rfl) hR.1, Nat.le_trans (Nat.le_of_ble_eq_true rfl) hR.2⟩ hf rfl hl.1 rfl (Nat.le_of_ble_eq_true rfl) dX8_degrees_57 (fun H locs hC => ?_)
        refine lv_istore (lv' := [(8, .int r_13), (7, .int r_10), (6, .ref (q (47 + r_6))), (5, .ref (q (47 + r_2))), (0, .ref (q 0)), (1, .int a1), (2, .int a2), (3, .int a3), (4, .int a4)]) hx hb dX8_degrees_60 hl (by decide) rfl (fun ls hl => ?_)
        refine lv_iconst (v := (0 : Int32)) hx hb dX8_degrees_62 (by decide) ?_
        refine lv_istore (lv' := [(9, .int (0 : Int32)), (8, .int r_13), (7, .int r_10), (6, .ref (q (47 + r_6))), (5, .ref (q (47 + r_2))), (0, .ref (q 0)), (1, .int a1), (2, .int a2), (3, .int a3), (4, .int a4)]) hx hb dX8_degrees_63 hl (by decide) rfl (fun ls hl => ?_)
        refine D8w_degrees_65 fx sx hR hf a3 a4 r_6 h_7 r_10 r_13 fuel (0 : Int32) τ_12 hm _ _ _ hC (lv_sub hl [5, 8, 9, 3, 2, 1, 0] rfl) (fun τ_23 H locs ls hm hC hl => ?_)
        refine lv_aload_n hx hb dX8_degrees_126 rfl (lv_at hl 0 rfl) ?_
        obtain ⟨r_26, τ_25, e_24, hm⟩ := b2_in hm
        refine d_callVi (ci := 8) (As := []) (rest := []) fx sx hC dw_w (D8c_keep l τ_23 e_24) k_224 D8k_keep D8h_keep rfl rfl (O_at O8) ⟨rfl, rfl⟩ ⟨Nat.le_trans (Nat.le_of_ble_eq_true rfl) hR.1, Nat.le_trans (Nat.le_of_ble_eq_true rfl) hR.2⟩ hf rfl hl.1 rfl (Nat.le_of_ble_eq_true rfl) dX8_degrees_127 (fun H locs hC => ?_)
        cases hm
        exact g_iret fx hr hC rfl dX8_degrees_130
    · replace hm := ifp hm c_4
      refine lv_bipush (v := (-2 : Int32)) hx hb dX8_degrees_23 (by decide) ?_
      cases hm
      exact g_iret fx hr hC rfl dX8_degrees_25
def D8m_fillJoined (τ : DS) (a1 : Nat) (a2 : Int32) (a3 : Nat) (a4 : Nat) : Option DS :=
  if a2 = (0 : Int32) then (b1 (D7m_takeBoth a1 τ a3 a4) (fun τ_3 => some τ_3)) else (if a2 = (1 : Int32) then (b1 (D7m_takeEither a1 τ a3 a4) (fun τ_6 => some τ_6)) else (if a2 = (2 : Int32) then (b1 (D7m_takeFirstAlone a1 τ a3 a4) (fun τ_9 => some τ_9)) else (if a2 = (3 : Int32) then (b1 (D6m_unite τ a1 a3 a4) (fun τ_12 => some τ_12)) else (if a2 = (4 : Int32) then (b1 (D7m_takeOver a1 τ a3 a4) (fun τ_15 => some τ_15)) else (if a2 = (5 : Int32) then (b1 (D7m_takeOver 30 τ a3 a4) (fun τ_18 => b1 (D6m_unite τ_18 31 30 a4) (fun τ_20 => b1 (D7m_takeFirstAlone a1 τ_20 a3 31) (fun τ_22 => some τ_22)))) else (if a2 = (6 : Int32) then (b1 (D7m_copy 30 τ a4) (fun τ_25 => b1 (D7m_spreadUp 30 τ_25) (fun τ_27 => b1 (D7m_takeBoth a1 τ_27 a3 30) (fun τ_29 => some τ_29)))) else (b1 (D7m_copy 30 τ a4) (fun τ_31 => b1 (D7m_spreadDown 30 τ_31) (fun τ_33 => b1 (D7m_takeBoth a1 τ_33 a3 30) (fun τ_35 => some τ_35))))))))))
abbrev D8rm_fillJoined : Room := { frames := 4, cells := 0, slots := 0, locals := 95 }
set_option maxRecDepth 100000 in
set_option maxHeartbeats 4000000 in
theorem D8c_fillJoined (l : Launch) {D : va_G} {cy : Nat → ClassId} {ad : List Nat} {q : Nat → Nat} {X : va_W} (τ : DS) (a1 : Nat) (ha1 : a1 < 32) (a2 : Int32) (a3 : Nat) (ha3 : a3 < 32) (a4 : Nat) (ha4 : a4 < 32) {o : DS} (hm : D8m_fillJoined τ a1 a2 a3 a4 = some o) : DM l yX8_fillJoined cX8_fillJoined 5 none D8rm_fillJoined D cy (dwd cy q X) ad [.ref (q 0), .ref (q (47 + a1)), .int a2, .ref (q (47 + a3)), .ref (q (47 + a4))] τ none o := by
  refine d_start RX8 rfl (by decide) (Nat.le_of_ble_eq_true rfl) ?_
  intro p e s m args below meth c fx sx hr hC ls hl
  have hx := fx.1
  have hb := fx.2.1
  have hR : 4 ≤ (D8rm_fillJoined).frames ∧ 95 ≤ (D8rm_fillJoined).locals := ⟨Nat.le_refl _, Nat.le_refl _⟩
  have hf : 0 ≤ (D8rm_fillJoined).cells ∧ 0 ≤ (D8rm_fillJoined).slots := ⟨Nat.zero_le _, Nat.zero_le _⟩
  have hl : lv_has ls 5 [(0, .ref (q 0)), (1, .ref (q (47 + a1))), (2, .int a2), (3, .ref (q (47 + a3))), (4, .ref (q (47 + a4)))] := hl
  unfold D8m_fillJoined at hm
  refine lv_iload_n hx hb dX8_fillJoined_0 rfl (lv_at hl 2 rfl) ?_
  by_cases c_1 : a2 = (0 : Int32)
  · replace hm := ifp hm c_1
    have ec_1 : (a2 : Int32).toInt = 0 := by rw [c_1]; rfl
    refine lv_tableIn (off := 43) (tgt := 44) hx hb dX8_fillJoined_1 (by rw [ec_1]; decide) (by rw [ec_1]; decide) (by rw [ec_1]; rfl) (by decide) ?_
    refine lv_aload_n hx hb dX8_fillJoined_44 rfl (lv_at hl 1 rfl) ?_
    refine lv_aload_n hx hb dX8_fillJoined_45 rfl (lv_at hl 3 rfl) ?_
    refine lv_aload hx hb dX8_fillJoined_46 (lv_at hl 4 rfl) ?_
    obtain ⟨τ_3, e_2, hm⟩ := b1_in hm
    refine d_callVv (ci := 7) (As := [.ref (q (47 + a3)), .ref (q (47 + a4))]) (rest := []) fx sx hC dw_w (D7c_takeBoth l a1 ha1 τ a3 ha3 a4 ha4 e_2) k_476 D7k_takeBoth D7h_takeBoth rfl rfl (O_at (K7 ha1)) ⟨rfl, rfl⟩ ⟨Nat.le_trans (Nat.le_of_ble_eq_true rfl) hR.1, Nat.le_trans (Nat.le_of_ble_eq_true rfl) hR.2⟩ hf rfl hl.1 rfl (Nat.le_of_ble_eq_true rfl) dX8_fillJoined_48 (fun H locs hC => ?_)
    refine lv_goto (tgt := 198) hx hb dX8_fillJoined_51 (by decide) ?_
    cases hm
    exact g_vret fx hr hC rfl dX8_fillJoined_198
  · replace hm := ifn hm c_1
    by_cases c_4 : a2 = (1 : Int32)
    · replace hm := ifp hm c_4
      have ec_4 : (a2 : Int32).toInt = 1 := by rw [c_4]; rfl
      refine lv_tableIn (off := 53) (tgt := 54) hx hb dX8_fillJoined_1 (by rw [ec_4]; decide) (by rw [ec_4]; decide) (by rw [ec_4]; rfl) (by decide) ?_
      refine lv_aload_n hx hb dX8_fillJoined_54 rfl (lv_at hl 1 rfl) ?_
      refine lv_aload_n hx hb dX8_fillJoined_55 rfl (lv_at hl 3 rfl) ?_
      refine lv_aload hx hb dX8_fillJoined_56 (lv_at hl 4 rfl) ?_
      obtain ⟨τ_6, e_5, hm⟩ := b1_in hm
      refine d_callVv (ci := 7) (As := [.ref (q (47 + a3)), .ref (q (47 + a4))]) (rest := []) fx sx hC dw_w (D7c_takeEither l a1 ha1 τ a3 ha3 a4 ha4 e_5) k_480 D7k_takeEither D7h_takeEither rfl rfl (O_at (K7 ha1)) ⟨rfl, rfl⟩ ⟨Nat.le_trans (Nat.le_of_ble_eq_true rfl) hR.1, Nat.le_trans (Nat.le_of_ble_eq_true rfl) hR.2⟩ hf rfl hl.1 rfl (Nat.le_of_ble_eq_true rfl) dX8_fillJoined_58 (fun H locs hC => ?_)
      refine lv_goto (tgt := 198) hx hb dX8_fillJoined_61 (by decide) ?_
      cases hm
      exact g_vret fx hr hC rfl dX8_fillJoined_198
    · replace hm := ifn hm c_4
      by_cases c_7 : a2 = (2 : Int32)
      · replace hm := ifp hm c_7
        have ec_7 : (a2 : Int32).toInt = 2 := by rw [c_7]; rfl
        refine lv_tableIn (off := 63) (tgt := 64) hx hb dX8_fillJoined_1 (by rw [ec_7]; decide) (by rw [ec_7]; decide) (by rw [ec_7]; rfl) (by decide) ?_
        refine lv_aload_n hx hb dX8_fillJoined_64 rfl (lv_at hl 1 rfl) ?_
        refine lv_aload_n hx hb dX8_fillJoined_65 rfl (lv_at hl 3 rfl) ?_
        refine lv_aload hx hb dX8_fillJoined_66 (lv_at hl 4 rfl) ?_
        obtain ⟨τ_9, e_8, hm⟩ := b1_in hm
        refine d_callVv (ci := 7) (As := [.ref (q (47 + a3)), .ref (q (47 + a4))]) (rest := []) fx sx hC dw_w (D7c_takeFirstAlone l a1 ha1 τ a3 ha3 a4 ha4 e_8) k_484 D7k_takeFirstAlone D7h_takeFirstAlone rfl rfl (O_at (K7 ha1)) ⟨rfl, rfl⟩ ⟨Nat.le_trans (Nat.le_of_ble_eq_true rfl) hR.1, Nat.le_trans (Nat.le_of_ble_eq_true rfl) hR.2⟩ hf rfl hl.1 rfl (Nat.le_of_ble_eq_true rfl) dX8_fillJoined_68 (fun H locs hC => ?_)
        refine lv_goto (tgt := 198) hx hb dX8_fillJoined_71 (by decide) ?_
        cases hm
        exact g_vret fx hr hC rfl dX8_fillJoined_198
      · replace hm := ifn hm c_7
        by_cases c_10 : a2 = (3 : Int32)
        · replace hm := ifp hm c_10
          have ec_10 : (a2 : Int32).toInt = 3 := by rw [c_10]; rfl
          refine lv_tableIn (off := 73) (tgt := 74) hx hb dX8_fillJoined_1 (by rw [ec_10]; decide) (by rw [ec_10]; decide) (by rw [ec_10]; rfl) (by decide) ?_
          refine lv_aload_n hx hb dX8_fillJoined_74 rfl (lv_at hl 0 rfl) ?_
          refine D8g_7 fx hC k_31 dX8_fillJoined_75 ?_
          refine lv_aload_n hx hb dX8_fillJoined_78 rfl (lv_at hl 1 rfl) ?_
          refine lv_aload_n hx hb dX8_fillJoined_79 rfl (lv_at hl 3 rfl) ?_
          refine lv_aload hx hb dX8_fillJoined_80 (lv_at hl 4 rfl) ?_
          obtain ⟨τ_12, e_11, hm⟩ := b1_in hm
          refine d_callVv (ci := 6) (As := [.ref (q (47 + a1)), .ref (q (47 + a3)), .ref (q (47 + a4))]) (rest := []) fx sx hC dw_w (D6c_unite l τ a1 ha1 a3 ha3 a4 ha4 e_11) k_488 D6k_unite D6h_unite rfl rfl (O_at O6) ⟨rfl, rfl⟩ ⟨Nat.le_trans (Nat.le_of_ble_eq_true rfl) hR.1, Nat.le_trans (Nat.le_of_ble_eq_true rfl) hR.2⟩ hf rfl hl.1 rfl (Nat.le_of_ble_eq_true rfl) dX8_fillJoined_82 (fun H locs hC => ?_)
          refine lv_goto (tgt := 198) hx hb dX8_fillJoined_85 (by decide) ?_
          cases hm
          exact g_vret fx hr hC rfl dX8_fillJoined_198
        · replace hm := ifn hm c_10
          by_cases c_13 : a2 = (4 : Int32)
          · replace hm := ifp hm c_13
            have ec_13 : (a2 : Int32).toInt = 4 := by rw [c_13]; rfl
            refine lv_tableIn (off := 87) (tgt := 88) hx hb dX8_fillJoined_1 (by rw [ec_13]; decide) (by rw [ec_13]; decide) (by rw [ec_13]; rfl) (by decide) ?_
            refine lv_aload_n hx hb dX8_fillJoined_88 rfl (lv_at hl 1 rfl) ?_
            refine lv_aload_n hx hb dX8_fillJoined_89 rfl (lv_at hl 3 rfl) ?_
            refine lv_aload hx hb dX8_fillJoined_90 (lv_at hl 4 rfl) ?_
            refine lv_aload_n hx hb dX8_fillJoined_92 rfl (lv_at hl 0 rfl) ?_
            refine D8g_5 fx hC k_23 dX8_fillJoined_93 ?_
            obtain ⟨τ_15, e_14, hm⟩ := b1_in hm
            refine d_callVv (ci := 7) (As := [.ref (q (47 + a3)), .ref (q (47 + a4)), .ref (q 8)]) (rest := []) fx sx hC dw_w (D7c_takeOver l a1 ha1 τ a3 ha3 a4 ha4 e_14) k_512 D7k_takeOver D7h_takeOver rfl rfl (O_at (K7 ha1)) ⟨rfl, rfl⟩ ⟨Nat.le_trans (Nat.le_of_ble_eq_true rfl) hR.1, Nat.le_trans (Nat.le_of_ble_eq_true rfl) hR.2⟩ hf rfl hl.1 rfl (Nat.le_of_ble_eq_true rfl) dX8_fillJoined_96 (fun H locs hC => ?_)
            refine lv_goto (tgt := 198) hx hb dX8_fillJoined_99 (by decide) ?_
            cases hm
            exact g_vret fx hr hC rfl dX8_fillJoined_198
          · replace hm := ifn hm c_13
            by_cases c_16 : a2 = (5 : Int32)
            · replace hm := ifp hm c_16
              have ec_16 : (a2 : Int32).toInt = 5 := by rw [c_16]; rfl
              refine lv_tableIn (off := 101) (tgt := 102) hx hb dX8_fillJoined_1 (by rw [ec_16]; decide) (by rw [ec_16]; decide) (by rw [ec_16]; rfl) (by decide) ?_
              refine lv_aload_n hx hb dX8_fillJoined_102 rfl (lv_at hl 0 rfl) ?_
              refine D8g_3 fx hC k_20 dX8_fillJoined_103 ?_
              refine lv_aload_n hx hb dX8_fillJoined_106 rfl (lv_at hl 3 rfl) ?_
              refine lv_aload hx hb dX8_fillJoined_107 (lv_at hl 4 rfl) ?_
              refine lv_aload_n hx hb dX8_fillJoined_109 rfl (lv_at hl 0 rfl) ?_
              refine D8g_5 fx hC k_23 dX8_fillJoined_110 ?_
              obtain ⟨τ_18, e_17, hm⟩ := b1_in hm
              refine d_callVv (ci := 7) (As := [.ref (q (47 + a3)), .ref (q (47 + a4)), .ref (q 8)]) (rest := []) fx sx hC dw_w (D7c_takeOver l 30 (by decide) τ a3 ha3 a4 ha4 e_17) k_512 D7k_takeOver D7h_takeOver rfl rfl (O_at (K7 (by decide))) ⟨rfl, rfl⟩ ⟨Nat.le_trans (Nat.le_of_ble_eq_true rfl) hR.1, Nat.le_trans (Nat.le_of_ble_eq_true rfl) hR.2⟩ hf rfl hl.1 rfl (Nat.le_of_ble_eq_true rfl) dX8_fillJoined_113 (fun H locs hC => ?_)
              refine lv_aload_n hx hb dX8_fillJoined_116 rfl (lv_at hl 0 rfl) ?_
              refine D8g_7 fx hC k_31 dX8_fillJoined_117 ?_
              refine lv_aload_n hx hb dX8_fillJoined_120 rfl (lv_at hl 0 rfl) ?_
              refine D8g_4 fx hC k_21 dX8_fillJoined_121 ?_
              refine lv_aload_n hx hb dX8_fillJoined_124 rfl (lv_at hl 0 rfl) ?_
              refine D8g_3 fx hC k_20 dX8_fillJoined_125 ?_
              refine lv_aload hx hb dX8_fillJoined_128 (lv_at hl 4 rfl) ?_
              obtain ⟨τ_20, e_19, hm⟩ := b1_in hm
              refine d_callVv (ci := 6) (As := [.ref (q (47 + 31)), .ref (q (47 + 30)), .ref (q (47 + a4))]) (rest := []) fx sx hC dw_w (D6c_unite l τ_18 31 (by decide) 30 (by decide) a4 ha4 e_19) k_488 D6k_unite D6h_unite rfl rfl (O_at O6) ⟨rfl, rfl⟩ ⟨Nat.le_trans (Nat.le_of_ble_eq_true rfl) hR.1, Nat.le_trans (Nat.le_of_ble_eq_true rfl) hR.2⟩ hf rfl hl.1 rfl (Nat.le_of_ble_eq_true rfl) dX8_fillJoined_130 (fun H locs hC => ?_)
              refine lv_aload_n hx hb dX8_fillJoined_133 rfl (lv_at hl 1 rfl) ?_
              refine lv_aload_n hx hb dX8_fillJoined_134 rfl (lv_at hl 3 rfl) ?_
              refine lv_aload_n hx hb dX8_fillJoined_135 rfl (lv_at hl 0 rfl) ?_
              refine D8g_4 fx hC k_21 dX8_fillJoined_136 ?_
              obtain ⟨τ_22, e_21, hm⟩ := b1_in hm
              refine d_callVv (ci := 7) (As := [.ref (q (47 + a3)), .ref (q (47 + 31))]) (rest := []) fx sx hC dw_w (D7c_takeFirstAlone l a1 ha1 τ_20 a3 ha3 31 (by decide) e_21) k_484 D7k_takeFirstAlone D7h_takeFirstAlone rfl rfl (O_at (K7 ha1)) ⟨rfl, rfl⟩ ⟨Nat.le_trans (Nat.le_of_ble_eq_true rfl) hR.1, Nat.le_trans (Nat.le_of_ble_eq_true rfl) hR.2⟩ hf rfl hl.1 rfl (Nat.le_of_ble_eq_true rfl) dX8_fillJoined_139 (fun H locs hC => ?_)
              refine lv_goto (tgt := 198) hx hb dX8_fillJoined_142 (by decide) ?_
              cases hm
              exact g_vret fx hr hC rfl dX8_fillJoined_198
            · replace hm := ifn hm c_16
              by_cases c_23 : a2 = (6 : Int32)
              · replace hm := ifp hm c_23
                have ec_23 : (a2 : Int32).toInt = 6 := by rw [c_23]; rfl
                refine lv_tableIn (off := 144) (tgt := 145) hx hb dX8_fillJoined_1 (by rw [ec_23]; decide) (by rw [ec_23]; decide) (by rw [ec_23]; rfl) (by decide) ?_
                refine lv_aload_n hx hb dX8_fillJoined_145 rfl (lv_at hl 0 rfl) ?_
                refine D8g_3 fx hC k_20 dX8_fillJoined_146 ?_
                refine lv_aload hx hb dX8_fillJoined_149 (lv_at hl 4 rfl) ?_
                obtain ⟨τ_25, e_24, hm⟩ := b1_in hm
                refine d_callVv (ci := 7) (As := [.ref (q (47 + a4))]) (rest := []) fx sx hC dw_w (D7c_copy l 30 (by decide) τ a4 ha4 e_24) k_528 D7k_copy D7h_copy rfl rfl (O_at (K7 (by decide))) ⟨rfl, rfl⟩ ⟨Nat.le_trans (Nat.le_of_ble_eq_true rfl) hR.1, Nat.le_trans (Nat.le_of_ble_eq_true rfl) hR.2⟩ hf rfl hl.1 rfl (Nat.le_of_ble_eq_true rfl) dX8_fillJoined_151 (fun H locs hC => ?_)
                refine lv_aload_n hx hb dX8_fillJoined_154 rfl (lv_at hl 0 rfl) ?_
                refine D8g_3 fx hC k_20 dX8_fillJoined_155 ?_
                obtain ⟨τ_27, e_26, hm⟩ := b1_in hm
                refine d_callVv (ci := 7) (As := []) (rest := []) fx sx hC dw_w (D7c_spreadUp l 30 (by decide) τ_25 e_26) k_536 D7k_spreadUp D7h_spreadUp rfl rfl (O_at (K7 (by decide))) ⟨rfl, rfl⟩ ⟨Nat.le_trans (Nat.le_of_ble_eq_true rfl) hR.1, Nat.le_trans (Nat.le_of_ble_eq_true rfl) hR.2⟩ hf rfl hl.1 rfl (Nat.le_of_ble_eq_true rfl) dX8_fillJoined_158 (fun H locs hC => ?_)
                refine lv_aload_n hx hb dX8_fillJoined_161 rfl (lv_at hl 1 rfl) ?_
                refine lv_aload_n hx hb dX8_fillJoined_162 rfl (lv_at hl 3 rfl) ?_
                refine lv_aload_n hx hb dX8_fillJoined_163 rfl (lv_at hl 0 rfl) ?_
                refine D8g_3 fx hC k_20 dX8_fillJoined_164 ?_
                obtain ⟨τ_29, e_28, hm⟩ := b1_in hm
                refine d_callVv (ci := 7) (As := [.ref (q (47 + a3)), .ref (q (47 + 30))]) (rest := []) fx sx hC dw_w (D7c_takeBoth l a1 ha1 τ_27 a3 ha3 30 (by decide) e_28) k_476 D7k_takeBoth D7h_takeBoth rfl rfl (O_at (K7 ha1)) ⟨rfl, rfl⟩ ⟨Nat.le_trans (Nat.le_of_ble_eq_true rfl) hR.1, Nat.le_trans (Nat.le_of_ble_eq_true rfl) hR.2⟩ hf rfl hl.1 rfl (Nat.le_of_ble_eq_true rfl) dX8_fillJoined_167 (fun H locs hC => ?_)
                refine lv_goto (tgt := 198) hx hb dX8_fillJoined_170 (by decide) ?_
                cases hm
                exact g_vret fx hr hC rfl dX8_fillJoined_198
              · replace hm := ifn hm c_23
                have nc_1 : ¬ (a2 : Int32).toInt = 0 := lv_neT c_1 rfl
                have nc_4 : ¬ (a2 : Int32).toInt = 1 := lv_neT c_4 rfl
                have nc_7 : ¬ (a2 : Int32).toInt = 2 := lv_neT c_7 rfl
                have nc_10 : ¬ (a2 : Int32).toInt = 3 := lv_neT c_10 rfl
                have nc_13 : ¬ (a2 : Int32).toInt = 4 := lv_neT c_13 rfl
                have nc_16 : ¬ (a2 : Int32).toInt = 5 := lv_neT c_16 rfl
                have nc_23 : ¬ (a2 : Int32).toInt = 6 := lv_neT c_23 rfl
                refine lv_tableOut (tgt := 173) hx hb dX8_fillJoined_1 (by omega) (by decide) ?_
                refine lv_aload_n hx hb dX8_fillJoined_173 rfl (lv_at hl 0 rfl) ?_
                refine D8g_3 fx hC k_20 dX8_fillJoined_174 ?_
                refine lv_aload hx hb dX8_fillJoined_177 (lv_at hl 4 rfl) ?_
                obtain ⟨τ_31, e_30, hm⟩ := b1_in hm
                refine d_callVv (ci := 7) (As := [.ref (q (47 + a4))]) (rest := []) fx sx hC dw_w (D7c_copy l 30 (by decide) τ a4 ha4 e_30) k_528 D7k_copy D7h_copy rfl rfl (O_at (K7 (by decide))) ⟨rfl, rfl⟩ ⟨Nat.le_trans (Nat.le_of_ble_eq_true rfl) hR.1, Nat.le_trans (Nat.le_of_ble_eq_true rfl) hR.2⟩ hf rfl hl.1 rfl (Nat.le_of_ble_eq_true rfl) dX8_fillJoined_179 (fun H locs hC => ?_)
                refine lv_aload_n hx hb dX8_fillJoined_182 rfl (lv_at hl 0 rfl) ?_
                refine D8g_3 fx hC k_20 dX8_fillJoined_183 ?_
                obtain ⟨τ_33, e_32, hm⟩ := b1_in hm
                refine d_callVv (ci := 7) (As := []) (rest := []) fx sx hC dw_w (D7c_spreadDown l 30 (by decide) τ_31 e_32) k_249 D7k_spreadDown D7h_spreadDown rfl rfl (O_at (K7 (by decide))) ⟨rfl, rfl⟩ ⟨Nat.le_trans (Nat.le_of_ble_eq_true rfl) hR.1, Nat.le_trans (Nat.le_of_ble_eq_true rfl) hR.2⟩ hf rfl hl.1 rfl (Nat.le_of_ble_eq_true rfl) dX8_fillJoined_186 (fun H locs hC => ?_)
                refine lv_aload_n hx hb dX8_fillJoined_189 rfl (lv_at hl 1 rfl) ?_
                refine lv_aload_n hx hb dX8_fillJoined_190 rfl (lv_at hl 3 rfl) ?_
                refine lv_aload_n hx hb dX8_fillJoined_191 rfl (lv_at hl 0 rfl) ?_
                refine D8g_3 fx hC k_20 dX8_fillJoined_192 ?_
                obtain ⟨τ_35, e_34, hm⟩ := b1_in hm
                refine d_callVv (ci := 7) (As := [.ref (q (47 + a3)), .ref (q (47 + 30))]) (rest := []) fx sx hC dw_w (D7c_takeBoth l a1 ha1 τ_33 a3 ha3 30 (by decide) e_34) k_476 D7k_takeBoth D7h_takeBoth rfl rfl (O_at (K7 ha1)) ⟨rfl, rfl⟩ ⟨Nat.le_trans (Nat.le_of_ble_eq_true rfl) hR.1, Nat.le_trans (Nat.le_of_ble_eq_true rfl) hR.2⟩ hf rfl hl.1 rfl (Nat.le_of_ble_eq_true rfl) dX8_fillJoined_195 (fun H locs hC => ?_)
                cases hm
                exact g_vret fx hr hC rfl dX8_fillJoined_198
def D8m_join (τ : DS) (a1 : Int32) (a2 : Int32) (a3 : Int32) : Option (Int32 × DS) :=
  bq (D8m_family τ a2) (bq (D8m_family τ a3) (if a1 < (0 : Int32) then (some ((-2 : Int32), τ)) else (if (7 : Int32) < a1 then (some ((-2 : Int32), τ)) else (some ((-2 : Int32), τ)))) (fun r_5 => if a1 < (0 : Int32) then (some ((-2 : Int32), τ)) else (if (7 : Int32) < a1 then (some ((-2 : Int32), τ)) else (some ((-2 : Int32), τ))))) (fun r_2 => bq (D8m_family τ a3) (if a1 < (0 : Int32) then (some ((-2 : Int32), τ)) else (if (7 : Int32) < a1 then (some ((-2 : Int32), τ)) else (some ((-2 : Int32), τ)))) (fun r_12 => if a1 < (0 : Int32) then (some ((-2 : Int32), τ)) else (if (7 : Int32) < a1 then (some ((-2 : Int32), τ)) else (if a1 = (4 : Int32) then (b1 (D7m_size r_12 τ) (fun r_20 => if r_20 = (0 : Int32) then (some ((-3 : Int32), τ)) else (bqe (D8m_blank τ (0 : Int32)) (fun τ_25 => some ((-4 : Int32), τ_25)) (fun r_23 τ_25 => b1 (D8m_fillJoined τ_25 r_23 a1 r_2 r_12) (fun τ_27 => b2 (D8m_keep τ_27) (fun r_30 τ_29 => some (r_30, τ_29))))))) else (if a1 = (5 : Int32) then (b1 (D7m_size r_12 τ) (fun r_42 => if r_42 = (0 : Int32) then (some ((-3 : Int32), τ)) else (bqe (D8m_blank τ (0 : Int32)) (fun τ_47 => some ((-4 : Int32), τ_47)) (fun r_45 τ_47 => b1 (D8m_fillJoined τ_47 r_45 a1 r_2 r_12) (fun τ_49 => b2 (D8m_keep τ_49) (fun r_52 τ_51 => some (r_52, τ_51))))))) else (bqe (D8m_blank τ (0 : Int32)) (fun τ_35 => some ((-4 : Int32), τ_35)) (fun r_33 τ_35 => b1 (D8m_fillJoined τ_35 r_33 a1 r_2 r_12) (fun τ_37 => b2 (D8m_keep τ_37) (fun r_40 τ_39 => some (r_40, τ_39))))))))))
abbrev D8rm_join : Room := { frames := 5, cells := 0, slots := 0, locals := 119 }
set_option maxRecDepth 100000 in
set_option maxHeartbeats 4000000 in
theorem D8c_join (l : Launch) {D : va_G} {cy : Nat → ClassId} {ad : List Nat} {q : Nat → Nat} {X : va_W} (τ : DS) (a1 : Int32) (a2 : Int32) (a3 : Int32) {o : Int32 × DS} (hm : D8m_join τ a1 a2 a3 = some o) : DM l yX8_join cX8_join 7 (some .int) D8rm_join D cy (dwd cy q X) ad [.ref (q 0), .int a1, .int a2, .int a3] τ (some (.int (o.1))) o.2 := by
  refine d_start RX8 rfl (by decide) (Nat.le_of_ble_eq_true rfl) ?_
  intro p e s m args below meth c fx sx hr hC ls hl
  have hx := fx.1
  have hb := fx.2.1
  have hR : 5 ≤ (D8rm_join).frames ∧ 119 ≤ (D8rm_join).locals := ⟨Nat.le_refl _, Nat.le_refl _⟩
  have hf : 0 ≤ (D8rm_join).cells ∧ 0 ≤ (D8rm_join).slots := ⟨Nat.zero_le _, Nat.zero_le _⟩
  have hl : lv_has ls 7 [(0, .ref (q 0)), (1, .int a1), (2, .int a2), (3, .int a3)] := hl
  unfold D8m_join at hm
  refine lv_aload_n hx hb dX8_join_0 rfl (lv_at hl 0 rfl) ?_
  refine lv_iload_n hx hb dX8_join_1 rfl (lv_at hl 2 rfl) ?_
  rcases bq_in hm with ⟨e_1, hm⟩ | ⟨r_2, e_1, h_3, hm⟩
  · refine d_callVn (ci := 8) (As := [.int a2]) (rest := []) fx sx hC dw_w (D8c_family l τ a2 e_1) k_430 D8k_family D8h_family rfl rfl (O_at O8) ⟨rfl, rfl⟩ ⟨Nat.le_trans (Nat.le_of_ble_eq_true rfl) hR.1, Nat.le_trans (Nat.le_of_ble_eq_true rfl) hR.2⟩ hf rfl hl.1 rfl (Nat.le_of_ble_eq_true rfl) dX8_join_2 (fun H locs hC => ?_)
    refine lv_astoreN (lv' := [(4, .null), (0, .ref (q 0)), (1, .int a1), (2, .int a2), (3, .int a3)]) hx hb dX8_join_5 hl (by decide) rfl (fun ls hl => ?_)
    refine lv_aload_n hx hb dX8_join_7 rfl (lv_at hl 1 rfl) ?_
    refine lv_iload_n hx hb dX8_join_8 rfl (lv_at hl 4 rfl) ?_
    rcases bq_in hm with ⟨e_4, hm⟩ | ⟨r_5, e_4, h_6, hm⟩
    · refine d_callVn (ci := 8) (As := [.int a3]) (rest := []) fx sx hC dw_w (D8c_family l τ a3 e_4) k_430 D8k_family D8h_family rfl rfl (O_at O8) ⟨rfl, rfl⟩ ⟨Nat.le_trans (Nat.le_of_ble_eq_true rfl) hR.1, Nat.le_trans (Nat.le_of_ble_eq_true rfl) hR.2⟩ hf rfl hl.1 rfl (Nat.le_of_ble_eq_true rfl) dX8_join_9 (fun H locs hC => ?_)
      refine lv_astoreN (lv' := [(5, .null), (4, .null), (0, .ref (q 0)), (1, .int a1), (2, .int a2), (3, .int a3)]) hx hb dX8_join_12 hl (by decide) rfl (fun ls hl => ?_)
      refine lv_iload_n hx hb dX8_join_14 rfl (lv_at hl 3 rfl) ?_
      refine lv_if_lt (tgt := 34) hx hb dX8_join_15 (by decide) (fun c_7 => ?_) (fun c_7 => ?_)
      · replace hm := ifp hm c_7
        refine lv_bipush (v := (-2 : Int32)) hx hb dX8_join_34 (by decide) ?_
        cases hm
        exact g_iret fx hr hC rfl dX8_join_36
      · replace hm := ifn hm c_7
        refine lv_iload_n hx hb dX8_join_18 rfl (lv_at hl 3 rfl) ?_
        refine lv_bipush (v := (7 : Int32)) hx hb dX8_join_19 (by decide) ?_
        refine lv_icmp_gt (tgt := 34) hx hb dX8_join_21 (by decide) (fun c_8 => ?_) (fun c_8 => ?_)
        · replace hm := ifp hm c_8
          refine lv_bipush (v := (-2 : Int32)) hx hb dX8_join_34 (by decide) ?_
          cases hm
          exact g_iret fx hr hC rfl dX8_join_36
        · replace hm := ifn hm c_8
          refine lv_aloadN hx hb dX8_join_24 (lv_at hl 1 rfl) ?_
          refine lv_ifnullN (tgt := 34) hx hb dX8_join_26 (by decide) ?_
          refine lv_bipush (v := (-2 : Int32)) hx hb dX8_join_34 (by decide) ?_
          cases hm
          exact g_iret fx hr hC rfl dX8_join_36
    · refine d_callVr (ci := 8) (As := [.int a3]) (rest := []) fx sx hC dw_w (D8c_family l τ a3 e_4) k_430 D8k_family D8h_family rfl rfl (O_at O8) ⟨rfl, rfl⟩ ⟨Nat.le_trans (Nat.le_of_ble_eq_true rfl) hR.1, Nat.le_trans (Nat.le_of_ble_eq_true rfl) hR.2⟩ hf rfl hl.1 rfl (Nat.le_of_ble_eq_true rfl) dX8_join_9 (fun H locs hC => ?_)
      refine lv_astore (lv' := [(5, .ref (q (47 + r_5))), (4, .null), (0, .ref (q 0)), (1, .int a1), (2, .int a2), (3, .int a3)]) hx hb dX8_join_12 hl (by decide) rfl (fun ls hl => ?_)
      refine lv_iload_n hx hb dX8_join_14 rfl (lv_at hl 3 rfl) ?_
      refine lv_if_lt (tgt := 34) hx hb dX8_join_15 (by decide) (fun c_9 => ?_) (fun c_9 => ?_)
      · replace hm := ifp hm c_9
        refine lv_bipush (v := (-2 : Int32)) hx hb dX8_join_34 (by decide) ?_
        cases hm
        exact g_iret fx hr hC rfl dX8_join_36
      · replace hm := ifn hm c_9
        refine lv_iload_n hx hb dX8_join_18 rfl (lv_at hl 3 rfl) ?_
        refine lv_bipush (v := (7 : Int32)) hx hb dX8_join_19 (by decide) ?_
        refine lv_icmp_gt (tgt := 34) hx hb dX8_join_21 (by decide) (fun c_10 => ?_) (fun c_10 => ?_)
        · replace hm := ifp hm c_10
          refine lv_bipush (v := (-2 : Int32)) hx hb dX8_join_34 (by decide) ?_
          cases hm
          exact g_iret fx hr hC rfl dX8_join_36
        · replace hm := ifn hm c_10
          refine lv_aloadN hx hb dX8_join_24 (lv_at hl 1 rfl) ?_
          refine lv_ifnullN (tgt := 34) hx hb dX8_join_26 (by decide) ?_
          refine lv_bipush (v := (-2 : Int32)) hx hb dX8_join_34 (by decide) ?_
          cases hm
          exact g_iret fx hr hC rfl dX8_join_36
  · refine d_callVr (ci := 8) (As := [.int a2]) (rest := []) fx sx hC dw_w (D8c_family l τ a2 e_1) k_430 D8k_family D8h_family rfl rfl (O_at O8) ⟨rfl, rfl⟩ ⟨Nat.le_trans (Nat.le_of_ble_eq_true rfl) hR.1, Nat.le_trans (Nat.le_of_ble_eq_true rfl) hR.2⟩ hf rfl hl.1 rfl (Nat.le_of_ble_eq_true rfl) dX8_join_2 (fun H locs hC => ?_)
    refine lv_astore (lv' := [(4, .ref (q (47 + r_2))), (0, .ref (q 0)), (1, .int a1), (2, .int a2), (3, .int a3)]) hx hb dX8_join_5 hl (by decide) rfl (fun ls hl => ?_)
    refine lv_aload_n hx hb dX8_join_7 rfl (lv_at hl 1 rfl) ?_
    refine lv_iload_n hx hb dX8_join_8 rfl (lv_at hl 4 rfl) ?_
    rcases bq_in hm with ⟨e_11, hm⟩ | ⟨r_12, e_11, h_13, hm⟩
    · refine d_callVn (ci := 8) (As := [.int a3]) (rest := []) fx sx hC dw_w (D8c_family l τ a3 e_11) k_430 D8k_family D8h_family rfl rfl (O_at O8) ⟨rfl, rfl⟩ ⟨Nat.le_trans (Nat.le_of_ble_eq_true rfl) hR.1, Nat.le_trans (Nat.le_of_ble_eq_true rfl) hR.2⟩ hf rfl hl.1 rfl (Nat.le_of_ble_eq_true rfl) dX8_join_9 (fun H locs hC => ?_)
      refine lv_astoreN (lv' := [(5, .null), (4, .ref (q (47 + r_2))), (0, .ref (q 0)), (1, .int a1), (2, .int a2), (3, .int a3)]) hx hb dX8_join_12 hl (by decide) rfl (fun ls hl => ?_)
      refine lv_iload_n hx hb dX8_join_14 rfl (lv_at hl 3 rfl) ?_
      refine lv_if_lt (tgt := 34) hx hb dX8_join_15 (by decide) (fun c_14 => ?_) (fun c_14 => ?_)
      · replace hm := ifp hm c_14
        refine lv_bipush (v := (-2 : Int32)) hx hb dX8_join_34 (by decide) ?_
        cases hm
        exact g_iret fx hr hC rfl dX8_join_36
      · replace hm := ifn hm c_14
        refine lv_iload_n hx hb dX8_join_18 rfl (lv_at hl 3 rfl) ?_
        refine lv_bipush (v := (7 : Int32)) hx hb dX8_join_19 (by decide) ?_
        refine lv_icmp_gt (tgt := 34) hx hb dX8_join_21 (by decide) (fun c_15 => ?_) (fun c_15 => ?_)
        · replace hm := ifp hm c_15
          refine lv_bipush (v := (-2 : Int32)) hx hb dX8_join_34 (by decide) ?_
          cases hm
          exact g_iret fx hr hC rfl dX8_join_36
        · replace hm := ifn hm c_15
          refine lv_aload hx hb dX8_join_24 (lv_at hl 1 rfl) ?_
          refine lv_ifnull hx hb dX8_join_26 ?_
          refine lv_aloadN hx hb dX8_join_29 (lv_at hl 0 rfl) ?_
          refine lv_ifnonnullN hx hb dX8_join_31 ?_
          refine lv_bipush (v := (-2 : Int32)) hx hb dX8_join_34 (by decide) ?_
          cases hm
          exact g_iret fx hr hC rfl dX8_join_36
    · refine d_callVr (ci := 8) (As := [.int a3]) (rest := []) fx sx hC dw_w (D8c_family l τ a3 e_11) k_430 D8k_family D8h_family rfl rfl (O_at O8) ⟨rfl, rfl⟩ ⟨Nat.le_trans (Nat.le_of_ble_eq_true rfl) hR.1, Nat.le_trans (Nat.le_of_ble_eq_true rfl) hR.2⟩ hf rfl hl.1 rfl (Nat.le_of_ble_eq_true rfl) dX8_join_9 (fun H locs hC => ?_)
      refine lv_astore (lv' := [(5, .ref (q (47 + r_12))), (4, .ref (q (47 + r_2))), (0, .ref (q 0)), (1, .int a1), (2, .int a2), (3, .int a3)]) hx hb dX8_join_12 hl (by decide) rfl (fun ls hl => ?_)
      refine lv_iload_n hx hb dX8_join_14 rfl (lv_at hl 3 rfl) ?_
      refine lv_if_lt (tgt := 34) hx hb dX8_join_15 (by decide) (fun c_16 => ?_) (fun c_16 => ?_)
      · replace hm := ifp hm c_16
        refine lv_bipush (v := (-2 : Int32)) hx hb dX8_join_34 (by decide) ?_
        cases hm
        exact g_iret fx hr hC rfl dX8_join_36
      · replace hm := ifn hm c_16
        refine lv_iload_n hx hb dX8_join_18 rfl (lv_at hl 3 rfl) ?_
        refine lv_bipush (v := (7 : Int32)) hx hb dX8_join_19 (by decide) ?_
        refine lv_icmp_gt (tgt := 34) hx hb dX8_join_21 (by decide) (fun c_17 => ?_) (fun c_17 => ?_)
        · replace hm := ifp hm c_17
          refine lv_bipush (v := (-2 : Int32)) hx hb dX8_join_34 (by decide) ?_
          cases hm
          exact g_iret fx hr hC rfl dX8_join_36
        · replace hm := ifn hm c_17
          refine lv_aload hx hb dX8_join_24 (lv_at hl 1 rfl) ?_
          refine lv_ifnull hx hb dX8_join_26 ?_
          refine lv_aload hx hb dX8_join_29 (lv_at hl 0 rfl) ?_
          refine lv_ifnonnull (tgt := 37) hx hb dX8_join_31 (by decide) ?_
          refine lv_iload_n hx hb dX8_join_37 rfl (lv_at hl 3 rfl) ?_
          refine lv_iconst (v := (4 : Int32)) hx hb dX8_join_38 (by decide) ?_
          refine lv_icmp_eq (tgt := 47) hx hb dX8_join_39 (by decide) (fun c_18 => ?_) (fun c_18 => ?_)
          · replace hm := ifp hm c_18
            refine lv_aload hx hb dX8_join_47 (lv_at hl 0 rfl) ?_
            obtain ⟨r_20, e_19, hm⟩ := b1_in hm
            refine d_callVi (ci := 7) (As := []) (rest := []) fx sx hC dw_w (D7c_size l r_12 h_13 τ e_19) k_461 D7k_size D7h_size rfl rfl (O_at (K7 h_13)) ⟨rfl, rfl⟩ ⟨Nat.le_trans (Nat.le_of_ble_eq_true rfl) hR.1, Nat.le_trans (Nat.le_of_ble_eq_true rfl) hR.2⟩ hf rfl hl.1 rfl (Nat.le_of_ble_eq_true rfl) dX8_join_49 (fun H locs hC => ?_)
            refine lv_if_ne (tgt := 58) hx hb dX8_join_52 (by decide) (fun c_21 => ?_) (fun c_21 => ?_)
            · replace hm := ifn hm c_21
              refine lv_aload_n hx hb dX8_join_58 rfl (lv_at hl 2 rfl) ?_
              refine lv_iconst (v := (0 : Int32)) hx hb dX8_join_59 (by decide) ?_
              rcases bqe_in hm with ⟨τ_25, e_22, hm⟩ | ⟨r_23, τ_25, e_22, h_24, hm⟩
              · refine d_callVn (ci := 8) (As := [.int (0 : Int32)]) (rest := []) fx sx hC dw_w (D8c_blank l τ (0 : Int32) e_22) k_204 D8k_blank D8h_blank rfl rfl (O_at O8) ⟨rfl, rfl⟩ ⟨Nat.le_trans (Nat.le_of_ble_eq_true rfl) hR.1, Nat.le_trans (Nat.le_of_ble_eq_true rfl) hR.2⟩ hf rfl hl.1 rfl (Nat.le_of_ble_eq_true rfl) dX8_join_60 (fun H locs hC => ?_)
                refine lv_astoreN (lv' := [(6, .null), (5, .ref (q (47 + r_12))), (4, .ref (q (47 + r_2))), (0, .ref (q 0)), (1, .int a1), (2, .int a2), (3, .int a3)]) hx hb dX8_join_63 hl (by decide) rfl (fun ls hl => ?_)
                refine lv_aloadN hx hb dX8_join_65 (lv_at hl 0 rfl) ?_
                refine lv_ifnonnullN hx hb dX8_join_67 ?_
                refine lv_bipush (v := (-4 : Int32)) hx hb dX8_join_70 (by decide) ?_
                cases hm
                exact g_iret fx hr hC rfl dX8_join_72
              · refine d_callVr (ci := 8) (As := [.int (0 : Int32)]) (rest := []) fx sx hC dw_w (D8c_blank l τ (0 : Int32) e_22) k_204 D8k_blank D8h_blank rfl rfl (O_at O8) ⟨rfl, rfl⟩ ⟨Nat.le_trans (Nat.le_of_ble_eq_true rfl) hR.1, Nat.le_trans (Nat.le_of_ble_eq_true rfl) hR.2⟩ hf rfl hl.1 rfl (Nat.le_of_ble_eq_true rfl) dX8_join_60 (fun H locs hC => ?_)
                refine lv_astore (lv' := [(6, .ref (q (47 + r_23))), (5, .ref (q (47 + r_12))), (4, .ref (q (47 + r_2))), (0, .ref (q 0)), (1, .int a1), (2, .int a2), (3, .int a3)]) hx hb dX8_join_63 hl (by decide) rfl (fun ls hl => ?_)
                refine lv_aload hx hb dX8_join_65 (lv_at hl 0 rfl) ?_
                refine lv_ifnonnull (tgt := 73) hx hb dX8_join_67 (by decide) ?_
                refine lv_aload_n hx hb dX8_join_73 rfl (lv_at hl 3 rfl) ?_
                refine lv_aload hx hb dX8_join_74 (lv_at hl 0 rfl) ?_
                refine lv_iload_n hx hb dX8_join_76 rfl (lv_at hl 4 rfl) ?_
                refine lv_aload hx hb dX8_join_77 (lv_at hl 2 rfl) ?_
                refine lv_aload hx hb dX8_join_79 (lv_at hl 1 rfl) ?_
                obtain ⟨τ_27, e_26, hm⟩ := b1_in hm
                refine d_callVv (ci := 8) (As := [.ref (q (47 + r_23)), .int a1, .ref (q (47 + r_2)), .ref (q (47 + r_12))]) (rest := []) fx sx hC dw_w (D8c_fillJoined l τ_25 r_23 h_24 a1 r_2 h_3 r_12 h_13 e_26) k_472 D8k_fillJoined D8h_fillJoined rfl rfl (O_at O8) ⟨rfl, rfl⟩ ⟨Nat.le_trans (Nat.le_of_ble_eq_true rfl) hR.1, Nat.le_trans (Nat.le_of_ble_eq_true rfl) hR.2⟩ hf rfl hl.1 rfl (Nat.le_of_ble_eq_true rfl) dX8_join_81 (fun H locs hC => ?_)
                refine lv_aload_n hx hb dX8_join_84 rfl (lv_at hl 3 rfl) ?_
                obtain ⟨r_30, τ_29, e_28, hm⟩ := b2_in hm
                refine d_callVi (ci := 8) (As := []) (rest := []) fx sx hC dw_w (D8c_keep l τ_27 e_28) k_224 D8k_keep D8h_keep rfl rfl (O_at O8) ⟨rfl, rfl⟩ ⟨Nat.le_trans (Nat.le_of_ble_eq_true rfl) hR.1, Nat.le_trans (Nat.le_of_ble_eq_true rfl) hR.2⟩ hf rfl hl.1 rfl (Nat.le_of_ble_eq_true rfl) dX8_join_85 (fun H locs hC => ?_)
                cases hm
                exact g_iret fx hr hC rfl dX8_join_88
            · replace hm := ifp hm c_21
              refine lv_bipush (v := (-3 : Int32)) hx hb dX8_join_55 (by decide) ?_
              cases hm
              exact g_iret fx hr hC rfl dX8_join_57
          · replace hm := ifn hm c_18
            refine lv_iload_n hx hb dX8_join_42 rfl (lv_at hl 3 rfl) ?_
            refine lv_iconst (v := (5 : Int32)) hx hb dX8_join_43 (by decide) ?_
            refine lv_icmp_ne (tgt := 58) hx hb dX8_join_44 (by decide) (fun c_31 => ?_) (fun c_31 => ?_)
            · replace hm := ifn hm c_31
              refine lv_aload_n hx hb dX8_join_58 rfl (lv_at hl 2 rfl) ?_
              refine lv_iconst (v := (0 : Int32)) hx hb dX8_join_59 (by decide) ?_
              rcases bqe_in hm with ⟨τ_35, e_32, hm⟩ | ⟨r_33, τ_35, e_32, h_34, hm⟩
              · refine d_callVn (ci := 8) (As := [.int (0 : Int32)]) (rest := []) fx sx hC dw_w (D8c_blank l τ (0 : Int32) e_32) k_204 D8k_blank D8h_blank rfl rfl (O_at O8) ⟨rfl, rfl⟩ ⟨Nat.le_trans (Nat.le_of_ble_eq_true rfl) hR.1, Nat.le_trans (Nat.le_of_ble_eq_true rfl) hR.2⟩ hf rfl hl.1 rfl (Nat.le_of_ble_eq_true rfl) dX8_join_60 (fun H locs hC => ?_)
                refine lv_astoreN (lv' := [(6, .null), (5, .ref (q (47 + r_12))), (4, .ref (q (47 + r_2))), (0, .ref (q 0)), (1, .int a1), (2, .int a2), (3, .int a3)]) hx hb dX8_join_63 hl (by decide) rfl (fun ls hl => ?_)
                refine lv_aloadN hx hb dX8_join_65 (lv_at hl 0 rfl) ?_
                refine lv_ifnonnullN hx hb dX8_join_67 ?_
                refine lv_bipush (v := (-4 : Int32)) hx hb dX8_join_70 (by decide) ?_
                cases hm
                exact g_iret fx hr hC rfl dX8_join_72
              · refine d_callVr (ci := 8) (As := [.int (0 : Int32)]) (rest := []) fx sx hC dw_w (D8c_blank l τ (0 : Int32) e_32) k_204 D8k_blank D8h_blank rfl rfl (O_at O8) ⟨rfl, rfl⟩ ⟨Nat.le_trans (Nat.le_of_ble_eq_true rfl) hR.1, Nat.le_trans (Nat.le_of_ble_eq_true rfl) hR.2⟩ hf rfl hl.1 rfl (Nat.le_of_ble_eq_true rfl) dX8_join_60 (fun H locs hC => ?_)
                refine lv_astore (lv' := [(6, .ref (q (47 + r_33))), (5, .ref (q (47 + r_12))), (4, .ref (q (47 + r_2))), (0, .ref (q 0)), (1, .int a1), (2, .int a2), (3, .int a3)]) hx hb dX8_join_63 hl (by decide) rfl (fun ls hl => ?_)
                refine lv_aload hx hb dX8_join_65 (lv_at hl 0 rfl) ?_
                refine lv_ifnonnull (tgt := 73) hx hb dX8_join_67 (by decide) ?_
                refine lv_aload_n hx hb dX8_join_73 rfl (lv_at hl 3 rfl) ?_
                refine lv_aload hx hb dX8_join_74 (lv_at hl 0 rfl) ?_
                refine lv_iload_n hx hb dX8_join_76 rfl (lv_at hl 4 rfl) ?_
                refine lv_aload hx hb dX8_join_77 (lv_at hl 2 rfl) ?_
                refine lv_aload hx hb dX8_join_79 (lv_at hl 1 rfl) ?_
                obtain ⟨τ_37, e_36, hm⟩ := b1_in hm
                refine d_callVv (ci := 8) (As := [.ref (q (47 + r_33)), .int a1, .ref (q (47 + r_2)), .ref (q (47 + r_12))]) (rest := []) fx sx hC dw_w (D8c_fillJoined l τ_35 r_33 h_34 a1 r_2 h_3 r_12 h_13 e_36) k_472 D8k_fillJoined D8h_fillJoined rfl rfl (O_at O8) ⟨rfl, rfl⟩ ⟨Nat.le_trans (Nat.le_of_ble_eq_true rfl) hR.1, Nat.le_trans (Nat.le_of_ble_eq_true rfl) hR.2⟩ hf rfl hl.1 rfl (Nat.le_of_ble_eq_true rfl) dX8_join_81 (fun H locs hC => ?_)
                refine lv_aload_n hx hb dX8_join_84 rfl (lv_at hl 3 rfl) ?_
                obtain ⟨r_40, τ_39, e_38, hm⟩ := b2_in hm
                refine d_callVi (ci := 8) (As := []) (rest := []) fx sx hC dw_w (D8c_keep l τ_37 e_38) k_224 D8k_keep D8h_keep rfl rfl (O_at O8) ⟨rfl, rfl⟩ ⟨Nat.le_trans (Nat.le_of_ble_eq_true rfl) hR.1, Nat.le_trans (Nat.le_of_ble_eq_true rfl) hR.2⟩ hf rfl hl.1 rfl (Nat.le_of_ble_eq_true rfl) dX8_join_85 (fun H locs hC => ?_)
                cases hm
                exact g_iret fx hr hC rfl dX8_join_88
            · replace hm := ifp hm c_31
              refine lv_aload hx hb dX8_join_47 (lv_at hl 0 rfl) ?_
              obtain ⟨r_42, e_41, hm⟩ := b1_in hm
              refine d_callVi (ci := 7) (As := []) (rest := []) fx sx hC dw_w (D7c_size l r_12 h_13 τ e_41) k_461 D7k_size D7h_size rfl rfl (O_at (K7 h_13)) ⟨rfl, rfl⟩ ⟨Nat.le_trans (Nat.le_of_ble_eq_true rfl) hR.1, Nat.le_trans (Nat.le_of_ble_eq_true rfl) hR.2⟩ hf rfl hl.1 rfl (Nat.le_of_ble_eq_true rfl) dX8_join_49 (fun H locs hC => ?_)
              refine lv_if_ne (tgt := 58) hx hb dX8_join_52 (by decide) (fun c_43 => ?_) (fun c_43 => ?_)
              · replace hm := ifn hm c_43
                refine lv_aload_n hx hb dX8_join_58 rfl (lv_at hl 2 rfl) ?_
                refine lv_iconst (v := (0 : Int32)) hx hb dX8_join_59 (by decide) ?_
                rcases bqe_in hm with ⟨τ_47, e_44, hm⟩ | ⟨r_45, τ_47, e_44, h_46, hm⟩
                · refine d_callVn (ci := 8) (As := [.int (0 : Int32)]) (rest := []) fx sx hC dw_w (D8c_blank l τ (0 : Int32) e_44) k_204 D8k_blank D8h_blank rfl rfl (O_at O8) ⟨rfl, rfl⟩ ⟨Nat.le_trans (Nat.le_of_ble_eq_true rfl) hR.1, Nat.le_trans (Nat.le_of_ble_eq_true rfl) hR.2⟩ hf rfl hl.1 rfl (Nat.le_of_ble_eq_true rfl) dX8_join_60 (fun H locs hC => ?_)
                  refine lv_astoreN (lv' := [(6, .null), (5, .ref (q (47 + r_12))), (4, .ref (q (47 + r_2))), (0, .ref (q 0)), (1, .int a1), (2, .int a2), (3, .int a3)]) hx hb dX8_join_63 hl (by decide) rfl (fun ls hl => ?_)
                  refine lv_aloadN hx hb dX8_join_65 (lv_at hl 0 rfl) ?_
                  refine lv_ifnonnullN hx hb dX8_join_67 ?_
                  refine lv_bipush (v := (-4 : Int32)) hx hb dX8_join_70 (by decide) ?_
                  cases hm
                  exact g_iret fx hr hC rfl dX8_join_72
                · refine d_callVr (ci := 8) (As := [.int (0 : Int32)]) (rest := []) fx sx hC dw_w (D8c_blank l τ (0 : Int32) e_44) k_204 D8k_blank D8h_blank rfl rfl (O_at O8) ⟨rfl, rfl⟩ ⟨Nat.le_trans (Nat.le_of_ble_eq_true rfl) hR.1, Nat.le_trans (Nat.le_of_ble_eq_true rfl) hR.2⟩ hf rfl hl.1 rfl (Nat.le_of_ble_eq_true rfl) dX8_join_60 (fun H locs hC => ?_)
                  refine lv_astore (lv' := [(6, .ref (q (47 + r_45))), (5, .ref (q (47 + r_12))), (4, .ref (q (47 + r_2))), (0, .ref (q 0)), (1, .int a1), (2, .int a2), (3, .int a3)]) hx hb dX8_join_63 hl (by decide) rfl (fun ls hl => ?_)
                  refine lv_aload hx hb dX8_join_65 (lv_at hl 0 rfl) ?_
                  refine lv_ifnonnull (tgt := 73) hx hb dX8_join_67 (by decide) ?_
                  refine lv_aload_n hx hb dX8_join_73 rfl (lv_at hl 3 rfl) ?_
                  refine lv_aload hx hb dX8_join_74 (lv_at hl 0 rfl) ?_
                  refine lv_iload_n hx hb dX8_join_76 rfl (lv_at hl 4 rfl) ?_
                  refine lv_aload hx hb dX8_join_77 (lv_at hl 2 rfl) ?_
                  refine lv_aload hx hb dX8_join_79 (lv_at hl 1 rfl) ?_
                  obtain ⟨τ_49, e_48, hm⟩ := b1_in hm
                  refine d_callVv (ci := 8) (As := [.ref (q (47 + r_45)), .int a1, .ref (q (47 + r_2)), .ref (q (47 + r_12))]) (rest := []) fx sx hC dw_w (D8c_fillJoined l τ_47 r_45 h_46 a1 r_2 h_3 r_12 h_13 e_48) k_472 D8k_fillJoined D8h_fillJoined rfl rfl (O_at O8) ⟨rfl, rfl⟩ ⟨Nat.le_trans (Nat.le_of_ble_eq_true rfl) hR.1, Nat.le_trans (Nat.le_of_ble_eq_true rfl) hR.2⟩ hf rfl hl.1 rfl (Nat.le_of_ble_eq_true rfl) dX8_join_81 (fun H locs hC => ?_)
                  refine lv_aload_n hx hb dX8_join_84 rfl (lv_at hl 3 rfl) ?_
                  obtain ⟨r_52, τ_51, e_50, hm⟩ := b2_in hm
                  refine d_callVi (ci := 8) (As := []) (rest := []) fx sx hC dw_w (D8c_keep l τ_49 e_50) k_224 D8k_keep D8h_keep rfl rfl (O_at O8) ⟨rfl, rfl⟩ ⟨Nat.le_trans (Nat.le_of_ble_eq_true rfl) hR.1, Nat.le_trans (Nat.le_of_ble_eq_true rfl) hR.2⟩ hf rfl hl.1 rfl (Nat.le_of_ble_eq_true rfl) dX8_join_85 (fun H locs hC => ?_)
                  cases hm
                  exact g_iret fx hr hC rfl dX8_join_88
              · replace hm := ifp hm c_43
                refine lv_bipush (v := (-3 : Int32)) hx hb dX8_join_55 (by decide) ?_
                cases hm
                exact g_iret fx hr hC rfl dX8_join_57
def D8m_thin (τ : DS) (a1 : Int32) (a2 : Int32) : Option (Int32 × DS) :=
  bq (D8m_family τ a2) (if a1 < (0 : Int32) then (some ((-2 : Int32), τ)) else (if (2 : Int32) < a1 then (some ((-2 : Int32), τ)) else (some ((-2 : Int32), τ)))) (fun r_2 => if a1 < (0 : Int32) then (some ((-2 : Int32), τ)) else (if (2 : Int32) < a1 then (some ((-2 : Int32), τ)) else (if a1 = (2 : Int32) then (b1 (D7m_used r_2 τ) (fun r_33 => b1 (D8m_mirrored r_33) (fun r_35 => if (D2m_hasRoads τ r_35) = (0 : Int32) then (some ((-3 : Int32), τ)) else (bqe (D8m_blank τ (0 : Int32)) (fun τ_40 => some ((-4 : Int32), τ_40)) (fun r_38 τ_40 => b1 (D7m_takeHitting 31 τ_40 r_2 30) (fun τ_44 => b1 (D7m_takeLeast r_38 τ_44 31 30) (fun τ_46 => b2 (D8m_keep τ_46) (fun r_49 τ_48 => some (r_49, τ_48))))))))) else (bqe (D8m_blank τ (0 : Int32)) (fun τ_12 => some ((-4 : Int32), τ_12)) (fun r_10 τ_12 => if a1 = (0 : Int32) then (b1 (D7m_takeLeast r_10 τ_12 r_2 30) (fun τ_28 => b2 (D8m_keep τ_28) (fun r_31 τ_30 => some (r_31, τ_30)))) else (if a1 = (1 : Int32) then (b1 (D7m_takeGreatest r_10 τ_12 r_2 30) (fun τ_23 => b2 (D8m_keep τ_23) (fun r_26 τ_25 => some (r_26, τ_25)))) else (b1 (D7m_takeHitting 31 τ_12 r_2 30) (fun τ_16 => b1 (D7m_takeLeast r_10 τ_16 31 30) (fun τ_18 => b2 (D8m_keep τ_18) (fun r_21 τ_20 => some (r_21, τ_20)))))))))))
abbrev D8rm_thin : Room := { frames := 4, cells := 0, slots := 0, locals := 91 }
set_option maxRecDepth 100000 in
set_option maxHeartbeats 4000000 in
theorem D8c_thin (l : Launch) {D : va_G} {cy : Nat → ClassId} {ad : List Nat} {q : Nat → Nat} {X : va_W} (τ : DS) (a1 : Int32) (a2 : Int32) {o : Int32 × DS} (hm : D8m_thin τ a1 a2 = some o) : DM l yX8_thin cX8_thin 5 (some .int) D8rm_thin D cy (dwd cy q X) ad [.ref (q 0), .int a1, .int a2] τ (some (.int (o.1))) o.2 := by
  refine d_start RX8 rfl (by decide) (Nat.le_of_ble_eq_true rfl) ?_
  intro p e s m args below meth c fx sx hr hC ls hl
  have hx := fx.1
  have hb := fx.2.1
  have hR : 4 ≤ (D8rm_thin).frames ∧ 91 ≤ (D8rm_thin).locals := ⟨Nat.le_refl _, Nat.le_refl _⟩
  have hf : 0 ≤ (D8rm_thin).cells ∧ 0 ≤ (D8rm_thin).slots := ⟨Nat.zero_le _, Nat.zero_le _⟩
  have hl : lv_has ls 5 [(0, .ref (q 0)), (1, .int a1), (2, .int a2)] := hl
  unfold D8m_thin at hm
  refine lv_aload_n hx hb dX8_thin_0 rfl (lv_at hl 0 rfl) ?_
  refine lv_iload_n hx hb dX8_thin_1 rfl (lv_at hl 2 rfl) ?_
  rcases bq_in hm with ⟨e_1, hm⟩ | ⟨r_2, e_1, h_3, hm⟩
  · refine d_callVn (ci := 8) (As := [.int a2]) (rest := []) fx sx hC dw_w (D8c_family l τ a2 e_1) k_430 D8k_family D8h_family rfl rfl (O_at O8) ⟨rfl, rfl⟩ ⟨Nat.le_trans (Nat.le_of_ble_eq_true rfl) hR.1, Nat.le_trans (Nat.le_of_ble_eq_true rfl) hR.2⟩ hf rfl hl.1 rfl (Nat.le_of_ble_eq_true rfl) dX8_thin_2 (fun H locs hC => ?_)
    refine lv_astore_nN (lv' := [(3, .null), (0, .ref (q 0)), (1, .int a1), (2, .int a2)]) hx hb dX8_thin_5 rfl hl (by decide) rfl (fun ls hl => ?_)
    refine lv_iload_n hx hb dX8_thin_6 rfl (lv_at hl 2 rfl) ?_
    refine lv_if_lt (tgt := 19) hx hb dX8_thin_7 (by decide) (fun c_4 => ?_) (fun c_4 => ?_)
    · replace hm := ifp hm c_4
      refine lv_bipush (v := (-2 : Int32)) hx hb dX8_thin_19 (by decide) ?_
      cases hm
      exact g_iret fx hr hC rfl dX8_thin_21
    · replace hm := ifn hm c_4
      refine lv_iload_n hx hb dX8_thin_10 rfl (lv_at hl 2 rfl) ?_
      refine lv_iconst (v := (2 : Int32)) hx hb dX8_thin_11 (by decide) ?_
      refine lv_icmp_gt (tgt := 19) hx hb dX8_thin_12 (by decide) (fun c_5 => ?_) (fun c_5 => ?_)
      · replace hm := ifp hm c_5
        refine lv_bipush (v := (-2 : Int32)) hx hb dX8_thin_19 (by decide) ?_
        cases hm
        exact g_iret fx hr hC rfl dX8_thin_21
      · replace hm := ifn hm c_5
        refine lv_aload_nN hx hb dX8_thin_15 rfl (lv_at hl 0 rfl) ?_
        refine lv_ifnonnullN hx hb dX8_thin_16 ?_
        refine lv_bipush (v := (-2 : Int32)) hx hb dX8_thin_19 (by decide) ?_
        cases hm
        exact g_iret fx hr hC rfl dX8_thin_21
  · refine d_callVr (ci := 8) (As := [.int a2]) (rest := []) fx sx hC dw_w (D8c_family l τ a2 e_1) k_430 D8k_family D8h_family rfl rfl (O_at O8) ⟨rfl, rfl⟩ ⟨Nat.le_trans (Nat.le_of_ble_eq_true rfl) hR.1, Nat.le_trans (Nat.le_of_ble_eq_true rfl) hR.2⟩ hf rfl hl.1 rfl (Nat.le_of_ble_eq_true rfl) dX8_thin_2 (fun H locs hC => ?_)
    refine lv_astore_n (lv' := [(3, .ref (q (47 + r_2))), (0, .ref (q 0)), (1, .int a1), (2, .int a2)]) hx hb dX8_thin_5 rfl hl (by decide) rfl (fun ls hl => ?_)
    refine lv_iload_n hx hb dX8_thin_6 rfl (lv_at hl 2 rfl) ?_
    refine lv_if_lt (tgt := 19) hx hb dX8_thin_7 (by decide) (fun c_6 => ?_) (fun c_6 => ?_)
    · replace hm := ifp hm c_6
      refine lv_bipush (v := (-2 : Int32)) hx hb dX8_thin_19 (by decide) ?_
      cases hm
      exact g_iret fx hr hC rfl dX8_thin_21
    · replace hm := ifn hm c_6
      refine lv_iload_n hx hb dX8_thin_10 rfl (lv_at hl 2 rfl) ?_
      refine lv_iconst (v := (2 : Int32)) hx hb dX8_thin_11 (by decide) ?_
      refine lv_icmp_gt (tgt := 19) hx hb dX8_thin_12 (by decide) (fun c_7 => ?_) (fun c_7 => ?_)
      · replace hm := ifp hm c_7
        refine lv_bipush (v := (-2 : Int32)) hx hb dX8_thin_19 (by decide) ?_
        cases hm
        exact g_iret fx hr hC rfl dX8_thin_21
      · replace hm := ifn hm c_7
        refine lv_aload_n hx hb dX8_thin_15 rfl (lv_at hl 0 rfl) ?_
        refine lv_ifnonnull (tgt := 22) hx hb dX8_thin_16 (by decide) ?_
        refine lv_iload_n hx hb dX8_thin_22 rfl (lv_at hl 2 rfl) ?_
        refine lv_iconst (v := (2 : Int32)) hx hb dX8_thin_23 (by decide) ?_
        refine lv_icmp_ne (tgt := 47) hx hb dX8_thin_24 (by decide) (fun c_8 => ?_) (fun c_8 => ?_)
        · replace hm := ifn hm c_8
          refine lv_aload_n hx hb dX8_thin_47 rfl (lv_at hl 1 rfl) ?_
          refine lv_iconst (v := (0 : Int32)) hx hb dX8_thin_48 (by decide) ?_
          rcases bqe_in hm with ⟨τ_12, e_9, hm⟩ | ⟨r_10, τ_12, e_9, h_11, hm⟩
          · refine d_callVn (ci := 8) (As := [.int (0 : Int32)]) (rest := []) fx sx hC dw_w (D8c_blank l τ (0 : Int32) e_9) k_204 D8k_blank D8h_blank rfl rfl (O_at O8) ⟨rfl, rfl⟩ ⟨Nat.le_trans (Nat.le_of_ble_eq_true rfl) hR.1, Nat.le_trans (Nat.le_of_ble_eq_true rfl) hR.2⟩ hf rfl hl.1 rfl (Nat.le_of_ble_eq_true rfl) dX8_thin_49 (fun H locs hC => ?_)
            refine lv_astoreN (lv' := [(4, .null), (3, .ref (q (47 + r_2))), (0, .ref (q 0)), (1, .int a1), (2, .int a2)]) hx hb dX8_thin_52 hl (by decide) rfl (fun ls hl => ?_)
            refine lv_aloadN hx hb dX8_thin_54 (lv_at hl 0 rfl) ?_
            refine lv_ifnonnullN hx hb dX8_thin_56 ?_
            refine lv_bipush (v := (-4 : Int32)) hx hb dX8_thin_59 (by decide) ?_
            cases hm
            exact g_iret fx hr hC rfl dX8_thin_61
          · refine d_callVr (ci := 8) (As := [.int (0 : Int32)]) (rest := []) fx sx hC dw_w (D8c_blank l τ (0 : Int32) e_9) k_204 D8k_blank D8h_blank rfl rfl (O_at O8) ⟨rfl, rfl⟩ ⟨Nat.le_trans (Nat.le_of_ble_eq_true rfl) hR.1, Nat.le_trans (Nat.le_of_ble_eq_true rfl) hR.2⟩ hf rfl hl.1 rfl (Nat.le_of_ble_eq_true rfl) dX8_thin_49 (fun H locs hC => ?_)
            refine lv_astore (lv' := [(4, .ref (q (47 + r_10))), (3, .ref (q (47 + r_2))), (0, .ref (q 0)), (1, .int a1), (2, .int a2)]) hx hb dX8_thin_52 hl (by decide) rfl (fun ls hl => ?_)
            refine lv_aload hx hb dX8_thin_54 (lv_at hl 0 rfl) ?_
            refine lv_ifnonnull (tgt := 62) hx hb dX8_thin_56 (by decide) ?_
            refine lv_iload_n hx hb dX8_thin_62 rfl (lv_at hl 3 rfl) ?_
            refine lv_if_ne (tgt := 79) hx hb dX8_thin_63 (by decide) (fun c_13 => ?_) (fun c_13 => ?_)
            · replace hm := ifn hm c_13
              refine lv_iload_n hx hb dX8_thin_79 rfl (lv_at hl 3 rfl) ?_
              refine lv_iconst (v := (1 : Int32)) hx hb dX8_thin_80 (by decide) ?_
              refine lv_icmp_ne (tgt := 97) hx hb dX8_thin_81 (by decide) (fun c_14 => ?_) (fun c_14 => ?_)
              · replace hm := ifn hm c_14
                refine lv_aload_n hx hb dX8_thin_97 rfl (lv_at hl 2 rfl) ?_
                refine D8g_4 fx hC k_21 dX8_thin_98 ?_
                refine lv_aload_n hx hb dX8_thin_101 rfl (lv_at hl 1 rfl) ?_
                refine lv_aload_n hx hb dX8_thin_102 rfl (lv_at hl 2 rfl) ?_
                refine D8g_3 fx hC k_20 dX8_thin_103 ?_
                obtain ⟨τ_16, e_15, hm⟩ := b1_in hm
                refine d_callVv (ci := 7) (As := [.ref (q (47 + r_2)), .ref (q (47 + 30))]) (rest := []) fx sx hC dw_w (D7c_takeHitting l 31 (by decide) τ_12 r_2 h_3 30 (by decide) e_15) k_589 D7k_takeHitting D7h_takeHitting rfl rfl (O_at (K7 (by decide))) ⟨rfl, rfl⟩ ⟨Nat.le_trans (Nat.le_of_ble_eq_true rfl) hR.1, Nat.le_trans (Nat.le_of_ble_eq_true rfl) hR.2⟩ hf rfl hl.1 rfl (Nat.le_of_ble_eq_true rfl) dX8_thin_106 (fun H locs hC => ?_)
                refine lv_aload hx hb dX8_thin_109 (lv_at hl 0 rfl) ?_
                refine lv_aload_n hx hb dX8_thin_111 rfl (lv_at hl 2 rfl) ?_
                refine D8g_4 fx hC k_21 dX8_thin_112 ?_
                refine lv_aload_n hx hb dX8_thin_115 rfl (lv_at hl 2 rfl) ?_
                refine D8g_3 fx hC k_20 dX8_thin_116 ?_
                obtain ⟨τ_18, e_17, hm⟩ := b1_in hm
                refine d_callVv (ci := 7) (As := [.ref (q (47 + 31)), .ref (q (47 + 30))]) (rest := []) fx sx hC dw_w (D7c_takeLeast l r_10 h_11 τ_16 31 (by decide) 30 (by decide) e_17) k_577 D7k_takeLeast D7h_takeLeast rfl rfl (O_at (K7 h_11)) ⟨rfl, rfl⟩ ⟨Nat.le_trans (Nat.le_of_ble_eq_true rfl) hR.1, Nat.le_trans (Nat.le_of_ble_eq_true rfl) hR.2⟩ hf rfl hl.1 rfl (Nat.le_of_ble_eq_true rfl) dX8_thin_119 (fun H locs hC => ?_)
                refine lv_aload_n hx hb dX8_thin_122 rfl (lv_at hl 2 rfl) ?_
                obtain ⟨r_21, τ_20, e_19, hm⟩ := b2_in hm
                refine d_callVi (ci := 8) (As := []) (rest := []) fx sx hC dw_w (D8c_keep l τ_18 e_19) k_224 D8k_keep D8h_keep rfl rfl (O_at O8) ⟨rfl, rfl⟩ ⟨Nat.le_trans (Nat.le_of_ble_eq_true rfl) hR.1, Nat.le_trans (Nat.le_of_ble_eq_true rfl) hR.2⟩ hf rfl hl.1 rfl (Nat.le_of_ble_eq_true rfl) dX8_thin_123 (fun H locs hC => ?_)
                cases hm
                exact g_iret fx hr hC rfl dX8_thin_126
              · replace hm := ifp hm c_14
                refine lv_aload hx hb dX8_thin_84 (lv_at hl 0 rfl) ?_
                refine lv_aload_n hx hb dX8_thin_86 rfl (lv_at hl 1 rfl) ?_
                refine lv_aload_n hx hb dX8_thin_87 rfl (lv_at hl 2 rfl) ?_
                refine D8g_3 fx hC k_20 dX8_thin_88 ?_
                obtain ⟨τ_23, e_22, hm⟩ := b1_in hm
                refine d_callVv (ci := 7) (As := [.ref (q (47 + r_2)), .ref (q (47 + 30))]) (rest := []) fx sx hC dw_w (D7c_takeGreatest l r_10 h_11 τ_12 r_2 h_3 30 (by decide) e_22) k_584 D7k_takeGreatest D7h_takeGreatest rfl rfl (O_at (K7 h_11)) ⟨rfl, rfl⟩ ⟨Nat.le_trans (Nat.le_of_ble_eq_true rfl) hR.1, Nat.le_trans (Nat.le_of_ble_eq_true rfl) hR.2⟩ hf rfl hl.1 rfl (Nat.le_of_ble_eq_true rfl) dX8_thin_91 (fun H locs hC => ?_)
                refine lv_goto (tgt := 122) hx hb dX8_thin_94 (by decide) ?_
                refine lv_aload_n hx hb dX8_thin_122 rfl (lv_at hl 2 rfl) ?_
                obtain ⟨r_26, τ_25, e_24, hm⟩ := b2_in hm
                refine d_callVi (ci := 8) (As := []) (rest := []) fx sx hC dw_w (D8c_keep l τ_23 e_24) k_224 D8k_keep D8h_keep rfl rfl (O_at O8) ⟨rfl, rfl⟩ ⟨Nat.le_trans (Nat.le_of_ble_eq_true rfl) hR.1, Nat.le_trans (Nat.le_of_ble_eq_true rfl) hR.2⟩ hf rfl hl.1 rfl (Nat.le_of_ble_eq_true rfl) dX8_thin_123 (fun H locs hC => ?_)
                cases hm
                exact g_iret fx hr hC rfl dX8_thin_126
            · replace hm := ifp hm c_13
              refine lv_aload hx hb dX8_thin_66 (lv_at hl 0 rfl) ?_
              refine lv_aload_n hx hb dX8_thin_68 rfl (lv_at hl 1 rfl) ?_
              refine lv_aload_n hx hb dX8_thin_69 rfl (lv_at hl 2 rfl) ?_
              refine D8g_3 fx hC k_20 dX8_thin_70 ?_
              obtain ⟨τ_28, e_27, hm⟩ := b1_in hm
              refine d_callVv (ci := 7) (As := [.ref (q (47 + r_2)), .ref (q (47 + 30))]) (rest := []) fx sx hC dw_w (D7c_takeLeast l r_10 h_11 τ_12 r_2 h_3 30 (by decide) e_27) k_577 D7k_takeLeast D7h_takeLeast rfl rfl (O_at (K7 h_11)) ⟨rfl, rfl⟩ ⟨Nat.le_trans (Nat.le_of_ble_eq_true rfl) hR.1, Nat.le_trans (Nat.le_of_ble_eq_true rfl) hR.2⟩ hf rfl hl.1 rfl (Nat.le_of_ble_eq_true rfl) dX8_thin_73 (fun H locs hC => ?_)
              refine lv_goto (tgt := 122) hx hb dX8_thin_76 (by decide) ?_
              refine lv_aload_n hx hb dX8_thin_122 rfl (lv_at hl 2 rfl) ?_
              obtain ⟨r_31, τ_30, e_29, hm⟩ := b2_in hm
              refine d_callVi (ci := 8) (As := []) (rest := []) fx sx hC dw_w (D8c_keep l τ_28 e_29) k_224 D8k_keep D8h_keep rfl rfl (O_at O8) ⟨rfl, rfl⟩ ⟨Nat.le_trans (Nat.le_of_ble_eq_true rfl) hR.1, Nat.le_trans (Nat.le_of_ble_eq_true rfl) hR.2⟩ hf rfl hl.1 rfl (Nat.le_of_ble_eq_true rfl) dX8_thin_123 (fun H locs hC => ?_)
              cases hm
              exact g_iret fx hr hC rfl dX8_thin_126
        · replace hm := ifp hm c_8
          refine lv_aload_n hx hb dX8_thin_27 rfl (lv_at hl 1 rfl) ?_
          refine D8g_0 fx hC k_15 dX8_thin_28 ?_
          refine lv_aload_n hx hb dX8_thin_31 rfl (lv_at hl 0 rfl) ?_
          obtain ⟨r_33, e_32, hm⟩ := b1_in hm
          refine d_callVi (ci := 7) (As := []) (rest := [.ref (q 1)]) fx sx hC dw_w (D7c_used l r_2 h_3 τ e_32) k_576 D7k_used D7h_used rfl rfl (O_at (K7 h_3)) ⟨rfl, rfl⟩ ⟨Nat.le_trans (Nat.le_of_ble_eq_true rfl) hR.1, Nat.le_trans (Nat.le_of_ble_eq_true rfl) hR.2⟩ hf rfl hl.1 rfl (Nat.le_of_ble_eq_true rfl) dX8_thin_32 (fun H locs hC => ?_)
          obtain ⟨r_35, e_34, hm⟩ := b1_in hm
          refine d_callSi (As := [.int r_33]) (rest := [.ref (q 1)]) fx sx hC dw_w (D8c_mirrored l τ r_33 e_34) k_217 D8k_mirrored D8h_mirrored ⟨rfl, rfl⟩ ⟨Nat.le_trans (Nat.le_of_ble_eq_true rfl) hR.1, Nat.le_trans (Nat.le_of_ble_eq_true rfl) hR.2⟩ hf rfl hl.1 rfl (Nat.le_of_ble_eq_true rfl) dX8_thin_35 (fun H locs hC => ?_)
          refine d_callVi (ci := 2) (As := [.int r_35]) (rest := []) fx sx hC dw_w (D2c_hasRoads l τ r_35) k_200 D2k_hasRoads D2h_hasRoads rfl rfl (O_at O2) ⟨rfl, rfl⟩ ⟨Nat.le_trans (Nat.le_of_ble_eq_true rfl) hR.1, Nat.le_trans (Nat.le_of_ble_eq_true rfl) hR.2⟩ hf rfl hl.1 rfl (Nat.le_of_ble_eq_true rfl) dX8_thin_38 (fun H locs hC => ?_)
          refine lv_if_ne (tgt := 47) hx hb dX8_thin_41 (by decide) (fun c_36 => ?_) (fun c_36 => ?_)
          · replace hm := ifn hm c_36
            refine lv_aload_n hx hb dX8_thin_47 rfl (lv_at hl 1 rfl) ?_
            refine lv_iconst (v := (0 : Int32)) hx hb dX8_thin_48 (by decide) ?_
            rcases bqe_in hm with ⟨τ_40, e_37, hm⟩ | ⟨r_38, τ_40, e_37, h_39, hm⟩
            · refine d_callVn (ci := 8) (As := [.int (0 : Int32)]) (rest := []) fx sx hC dw_w (D8c_blank l τ (0 : Int32) e_37) k_204 D8k_blank D8h_blank rfl rfl (O_at O8) ⟨rfl, rfl⟩ ⟨Nat.le_trans (Nat.le_of_ble_eq_true rfl) hR.1, Nat.le_trans (Nat.le_of_ble_eq_true rfl) hR.2⟩ hf rfl hl.1 rfl (Nat.le_of_ble_eq_true rfl) dX8_thin_49 (fun H locs hC => ?_)
              refine lv_astoreN (lv' := [(4, .null), (3, .ref (q (47 + r_2))), (0, .ref (q 0)), (1, .int a1), (2, .int a2)]) hx hb dX8_thin_52 hl (by decide) rfl (fun ls hl => ?_)
              refine lv_aloadN hx hb dX8_thin_54 (lv_at hl 0 rfl) ?_
              refine lv_ifnonnullN hx hb dX8_thin_56 ?_
              refine lv_bipush (v := (-4 : Int32)) hx hb dX8_thin_59 (by decide) ?_
              cases hm
              exact g_iret fx hr hC rfl dX8_thin_61
            · refine d_callVr (ci := 8) (As := [.int (0 : Int32)]) (rest := []) fx sx hC dw_w (D8c_blank l τ (0 : Int32) e_37) k_204 D8k_blank D8h_blank rfl rfl (O_at O8) ⟨rfl, rfl⟩ ⟨Nat.le_trans (Nat.le_of_ble_eq_true rfl) hR.1, Nat.le_trans (Nat.le_of_ble_eq_true rfl) hR.2⟩ hf rfl hl.1 rfl (Nat.le_of_ble_eq_true rfl) dX8_thin_49 (fun H locs hC => ?_)
              refine lv_astore (lv' := [(4, .ref (q (47 + r_38))), (3, .ref (q (47 + r_2))), (0, .ref (q 0)), (1, .int a1), (2, .int a2)]) hx hb dX8_thin_52 hl (by decide) rfl (fun ls hl => ?_)
              refine lv_aload hx hb dX8_thin_54 (lv_at hl 0 rfl) ?_
              refine lv_ifnonnull (tgt := 62) hx hb dX8_thin_56 (by decide) ?_
              refine lv_iload_n hx hb dX8_thin_62 rfl (lv_at hl 3 rfl) ?_
              refine lv_if_ne (tgt := 79) hx hb dX8_thin_63 (by decide) (fun c_41 => ?_) (fun c_41 => ?_)
              · refine lv_iload_n hx hb dX8_thin_79 rfl (lv_at hl 3 rfl) ?_
                refine lv_iconst (v := (1 : Int32)) hx hb dX8_thin_80 (by decide) ?_
                refine lv_icmp_ne (tgt := 97) hx hb dX8_thin_81 (by decide) (fun c_42 => ?_) (fun c_42 => ?_)
                · refine lv_aload_n hx hb dX8_thin_97 rfl (lv_at hl 2 rfl) ?_
                  refine D8g_4 fx hC k_21 dX8_thin_98 ?_
                  refine lv_aload_n hx hb dX8_thin_101 rfl (lv_at hl 1 rfl) ?_
                  refine lv_aload_n hx hb dX8_thin_102 rfl (lv_at hl 2 rfl) ?_
                  refine D8g_3 fx hC k_20 dX8_thin_103 ?_
                  obtain ⟨τ_44, e_43, hm⟩ := b1_in hm
                  refine d_callVv (ci := 7) (As := [.ref (q (47 + r_2)), .ref (q (47 + 30))]) (rest := []) fx sx hC dw_w (D7c_takeHitting l 31 (by decide) τ_40 r_2 h_3 30 (by decide) e_43) k_589 D7k_takeHitting D7h_takeHitting rfl rfl (O_at (K7 (by decide))) ⟨rfl, rfl⟩ ⟨Nat.le_trans (Nat.le_of_ble_eq_true rfl) hR.1, Nat.le_trans (Nat.le_of_ble_eq_true rfl) hR.2⟩ hf rfl hl.1 rfl (Nat.le_of_ble_eq_true rfl) dX8_thin_106 (fun H locs hC => ?_)
                  refine lv_aload hx hb dX8_thin_109 (lv_at hl 0 rfl) ?_
                  refine lv_aload_n hx hb dX8_thin_111 rfl (lv_at hl 2 rfl) ?_
                  refine D8g_4 fx hC k_21 dX8_thin_112 ?_
                  refine lv_aload_n hx hb dX8_thin_115 rfl (lv_at hl 2 rfl) ?_
                  refine D8g_3 fx hC k_20 dX8_thin_116 ?_
                  obtain ⟨τ_46, e_45, hm⟩ := b1_in hm
                  refine d_callVv (ci := 7) (As := [.ref (q (47 + 31)), .ref (q (47 + 30))]) (rest := []) fx sx hC dw_w (D7c_takeLeast l r_38 h_39 τ_44 31 (by decide) 30 (by decide) e_45) k_577 D7k_takeLeast D7h_takeLeast rfl rfl (O_at (K7 h_39)) ⟨rfl, rfl⟩ ⟨Nat.le_trans (Nat.le_of_ble_eq_true rfl) hR.1, Nat.le_trans (Nat.le_of_ble_eq_true rfl) hR.2⟩ hf rfl hl.1 rfl (Nat.le_of_ble_eq_true rfl) dX8_thin_119 (fun H locs hC => ?_)
                  refine lv_aload_n hx hb dX8_thin_122 rfl (lv_at hl 2 rfl) ?_
                  obtain ⟨r_49, τ_48, e_47, hm⟩ := b2_in hm
                  refine d_callVi (ci := 8) (As := []) (rest := []) fx sx hC dw_w (D8c_keep l τ_46 e_47) k_224 D8k_keep D8h_keep rfl rfl (O_at O8) ⟨rfl, rfl⟩ ⟨Nat.le_trans (Nat.le_of_ble_eq_true rfl) hR.1, Nat.le_trans (Nat.le_of_ble_eq_true rfl) hR.2⟩ hf rfl hl.1 rfl (Nat.le_of_ble_eq_true rfl) dX8_thin_123 (fun H locs hC => ?_)
                  cases hm
                  exact g_iret fx hr hC rfl dX8_thin_126
                · exact absurd c_42 (fun z => absurd (c_8.symm.trans z) (by decide))
              · exact absurd c_41 (fun z => absurd (c_8.symm.trans z) (by decide))
          · replace hm := ifp hm c_36
            refine lv_bipush (v := (-3 : Int32)) hx hb dX8_thin_44 (by decide) ?_
            cases hm
            exact g_iret fx hr hC rfl dX8_thin_46
def D8m_by (τ : DS) (a1 : Int32) (a2 : Int32) (a3 : Int32) : Option (Int32 × DS) :=
  bq (D8m_family τ a2) (if a1 < (0 : Int32) then (some ((-2 : Int32), τ)) else (if (2 : Int32) < a1 then (some ((-2 : Int32), τ)) else (some ((-2 : Int32), τ)))) (fun r_2 => if a1 < (0 : Int32) then (some ((-2 : Int32), τ)) else (if (2 : Int32) < a1 then (some ((-2 : Int32), τ)) else (if a3 < (0 : Int32) then (some ((-2 : Int32), τ)) else (if a3 < (12 : Int32) then (bqe (D8m_blank τ (0 : Int32)) (fun τ_13 => some ((-4 : Int32), τ_13)) (fun r_11 τ_13 => if a1 = (2 : Int32) then (b1 (D7m_raise r_11 τ_13 r_2 ((11 : Int32) - a3)) (fun τ_27 => b1 (D7m_lower r_11 τ_27 r_2 ((11 : Int32) - a3)) (fun τ_29 => b2 (D8m_keep τ_29) (fun r_32 τ_31 => some (r_32, τ_31))))) else (if a1 = (1 : Int32) then (b1 (D7m_takeBy r_11 τ_13 r_2 ((11 : Int32) - a3) (1 : Int32)) (fun τ_22 => b2 (D8m_keep τ_22) (fun r_25 τ_24 => some (r_25, τ_24)))) else (b1 (D7m_takeBy r_11 τ_13 r_2 ((11 : Int32) - a3) (0 : Int32)) (fun τ_17 => b2 (D8m_keep τ_17) (fun r_20 τ_19 => some (r_20, τ_19))))))) else (some ((-2 : Int32), τ))))))
abbrev D8rm_by : Room := { frames := 3, cells := 0, slots := 0, locals := 67 }
set_option maxRecDepth 100000 in
set_option maxHeartbeats 4000000 in
theorem D8c_by (l : Launch) {D : va_G} {cy : Nat → ClassId} {ad : List Nat} {q : Nat → Nat} {X : va_W} (τ : DS) (a1 : Int32) (a2 : Int32) (a3 : Int32) {o : Int32 × DS} (hm : D8m_by τ a1 a2 a3 = some o) : DM l yX8_by cX8_by 7 (some .int) D8rm_by D cy (dwd cy q X) ad [.ref (q 0), .int a1, .int a2, .int a3] τ (some (.int (o.1))) o.2 := by
  refine d_start RX8 rfl (by decide) (Nat.le_of_ble_eq_true rfl) ?_
  intro p e s m args below meth c fx sx hr hC ls hl
  have hx := fx.1
  have hb := fx.2.1
  have hR : 3 ≤ (D8rm_by).frames ∧ 67 ≤ (D8rm_by).locals := ⟨Nat.le_refl _, Nat.le_refl _⟩
  have hf : 0 ≤ (D8rm_by).cells ∧ 0 ≤ (D8rm_by).slots := ⟨Nat.zero_le _, Nat.zero_le _⟩
  have hl : lv_has ls 7 [(0, .ref (q 0)), (1, .int a1), (2, .int a2), (3, .int a3)] := hl
  unfold D8m_by at hm
  refine lv_aload_n hx hb dX8_by_0 rfl (lv_at hl 0 rfl) ?_
  refine lv_iload_n hx hb dX8_by_1 rfl (lv_at hl 2 rfl) ?_
  rcases bq_in hm with ⟨e_1, hm⟩ | ⟨r_2, e_1, h_3, hm⟩
  · refine d_callVn (ci := 8) (As := [.int a2]) (rest := []) fx sx hC dw_w (D8c_family l τ a2 e_1) k_430 D8k_family D8h_family rfl rfl (O_at O8) ⟨rfl, rfl⟩ ⟨Nat.le_trans (Nat.le_of_ble_eq_true rfl) hR.1, Nat.le_trans (Nat.le_of_ble_eq_true rfl) hR.2⟩ hf rfl hl.1 rfl (Nat.le_of_ble_eq_true rfl) dX8_by_2 (fun H locs hC => ?_)
    refine lv_astoreN (lv' := [(4, .null), (0, .ref (q 0)), (1, .int a1), (2, .int a2), (3, .int a3)]) hx hb dX8_by_5 hl (by decide) rfl (fun ls hl => ?_)
    refine lv_iload_n hx hb dX8_by_7 rfl (lv_at hl 2 rfl) ?_
    refine lv_if_lt (tgt := 31) hx hb dX8_by_8 (by decide) (fun c_4 => ?_) (fun c_4 => ?_)
    · replace hm := ifp hm c_4
      refine lv_bipush (v := (-2 : Int32)) hx hb dX8_by_31 (by decide) ?_
      cases hm
      exact g_iret fx hr hC rfl dX8_by_33
    · replace hm := ifn hm c_4
      refine lv_iload_n hx hb dX8_by_11 rfl (lv_at hl 2 rfl) ?_
      refine lv_iconst (v := (2 : Int32)) hx hb dX8_by_12 (by decide) ?_
      refine lv_icmp_gt (tgt := 31) hx hb dX8_by_13 (by decide) (fun c_5 => ?_) (fun c_5 => ?_)
      · replace hm := ifp hm c_5
        refine lv_bipush (v := (-2 : Int32)) hx hb dX8_by_31 (by decide) ?_
        cases hm
        exact g_iret fx hr hC rfl dX8_by_33
      · replace hm := ifn hm c_5
        refine lv_aloadN hx hb dX8_by_16 (lv_at hl 0 rfl) ?_
        refine lv_ifnullN (tgt := 31) hx hb dX8_by_18 (by decide) ?_
        refine lv_bipush (v := (-2 : Int32)) hx hb dX8_by_31 (by decide) ?_
        cases hm
        exact g_iret fx hr hC rfl dX8_by_33
  · refine d_callVr (ci := 8) (As := [.int a2]) (rest := []) fx sx hC dw_w (D8c_family l τ a2 e_1) k_430 D8k_family D8h_family rfl rfl (O_at O8) ⟨rfl, rfl⟩ ⟨Nat.le_trans (Nat.le_of_ble_eq_true rfl) hR.1, Nat.le_trans (Nat.le_of_ble_eq_true rfl) hR.2⟩ hf rfl hl.1 rfl (Nat.le_of_ble_eq_true rfl) dX8_by_2 (fun H locs hC => ?_)
    refine lv_astore (lv' := [(4, .ref (q (47 + r_2))), (0, .ref (q 0)), (1, .int a1), (2, .int a2), (3, .int a3)]) hx hb dX8_by_5 hl (by decide) rfl (fun ls hl => ?_)
    refine lv_iload_n hx hb dX8_by_7 rfl (lv_at hl 2 rfl) ?_
    refine lv_if_lt (tgt := 31) hx hb dX8_by_8 (by decide) (fun c_6 => ?_) (fun c_6 => ?_)
    · replace hm := ifp hm c_6
      refine lv_bipush (v := (-2 : Int32)) hx hb dX8_by_31 (by decide) ?_
      cases hm
      exact g_iret fx hr hC rfl dX8_by_33
    · replace hm := ifn hm c_6
      refine lv_iload_n hx hb dX8_by_11 rfl (lv_at hl 2 rfl) ?_
      refine lv_iconst (v := (2 : Int32)) hx hb dX8_by_12 (by decide) ?_
      refine lv_icmp_gt (tgt := 31) hx hb dX8_by_13 (by decide) (fun c_7 => ?_) (fun c_7 => ?_)
      · replace hm := ifp hm c_7
        refine lv_bipush (v := (-2 : Int32)) hx hb dX8_by_31 (by decide) ?_
        cases hm
        exact g_iret fx hr hC rfl dX8_by_33
      · replace hm := ifn hm c_7
        refine lv_aload hx hb dX8_by_16 (lv_at hl 0 rfl) ?_
        refine lv_ifnull hx hb dX8_by_18 ?_
        refine lv_iload_n hx hb dX8_by_21 rfl (lv_at hl 4 rfl) ?_
        refine lv_if_lt (tgt := 31) hx hb dX8_by_22 (by decide) (fun c_8 => ?_) (fun c_8 => ?_)
        · replace hm := ifp hm c_8
          refine lv_bipush (v := (-2 : Int32)) hx hb dX8_by_31 (by decide) ?_
          cases hm
          exact g_iret fx hr hC rfl dX8_by_33
        · replace hm := ifn hm c_8
          refine lv_iload_n hx hb dX8_by_25 rfl (lv_at hl 4 rfl) ?_
          refine lv_bipush (v := (12 : Int32)) hx hb dX8_by_26 (by decide) ?_
          refine lv_icmp_lt (tgt := 34) hx hb dX8_by_28 (by decide) (fun c_9 => ?_) (fun c_9 => ?_)
          · replace hm := ifp hm c_9
            refine lv_aload_n hx hb dX8_by_34 rfl (lv_at hl 1 rfl) ?_
            refine lv_iconst (v := (0 : Int32)) hx hb dX8_by_35 (by decide) ?_
            rcases bqe_in hm with ⟨τ_13, e_10, hm⟩ | ⟨r_11, τ_13, e_10, h_12, hm⟩
            · refine d_callVn (ci := 8) (As := [.int (0 : Int32)]) (rest := []) fx sx hC dw_w (D8c_blank l τ (0 : Int32) e_10) k_204 D8k_blank D8h_blank rfl rfl (O_at O8) ⟨rfl, rfl⟩ ⟨Nat.le_trans (Nat.le_of_ble_eq_true rfl) hR.1, Nat.le_trans (Nat.le_of_ble_eq_true rfl) hR.2⟩ hf rfl hl.1 rfl (Nat.le_of_ble_eq_true rfl) dX8_by_36 (fun H locs hC => ?_)
              refine lv_astoreN (lv' := [(5, .null), (4, .ref (q (47 + r_2))), (0, .ref (q 0)), (1, .int a1), (2, .int a2), (3, .int a3)]) hx hb dX8_by_39 hl (by decide) rfl (fun ls hl => ?_)
              refine lv_aloadN hx hb dX8_by_41 (lv_at hl 0 rfl) ?_
              refine lv_ifnonnullN hx hb dX8_by_43 ?_
              refine lv_bipush (v := (-4 : Int32)) hx hb dX8_by_46 (by decide) ?_
              cases hm
              exact g_iret fx hr hC rfl dX8_by_48
            · refine d_callVr (ci := 8) (As := [.int (0 : Int32)]) (rest := []) fx sx hC dw_w (D8c_blank l τ (0 : Int32) e_10) k_204 D8k_blank D8h_blank rfl rfl (O_at O8) ⟨rfl, rfl⟩ ⟨Nat.le_trans (Nat.le_of_ble_eq_true rfl) hR.1, Nat.le_trans (Nat.le_of_ble_eq_true rfl) hR.2⟩ hf rfl hl.1 rfl (Nat.le_of_ble_eq_true rfl) dX8_by_36 (fun H locs hC => ?_)
              refine lv_astore (lv' := [(5, .ref (q (47 + r_11))), (4, .ref (q (47 + r_2))), (0, .ref (q 0)), (1, .int a1), (2, .int a2), (3, .int a3)]) hx hb dX8_by_39 hl (by decide) rfl (fun ls hl => ?_)
              refine lv_aload hx hb dX8_by_41 (lv_at hl 0 rfl) ?_
              refine lv_ifnonnull (tgt := 49) hx hb dX8_by_43 (by decide) ?_
              refine lv_bipush (v := (11 : Int32)) hx hb dX8_by_49 (by decide) ?_
              refine lv_iload_n hx hb dX8_by_51 rfl (lv_at hl 5 rfl) ?_
              refine lv_isub hx hb dX8_by_52 ?_
              refine lv_istore (lv' := [(6, .int ((11 : Int32) - a3)), (5, .ref (q (47 + r_11))), (4, .ref (q (47 + r_2))), (0, .ref (q 0)), (1, .int a1), (2, .int a2), (3, .int a3)]) hx hb dX8_by_53 hl (by decide) rfl (fun ls hl => ?_)
              refine lv_iload_n hx hb dX8_by_55 rfl (lv_at hl 4 rfl) ?_
              refine lv_iconst (v := (2 : Int32)) hx hb dX8_by_56 (by decide) ?_
              refine lv_icmp_ne (tgt := 81) hx hb dX8_by_57 (by decide) (fun c_14 => ?_) (fun c_14 => ?_)
              · replace hm := ifn hm c_14
                refine lv_aload hx hb dX8_by_81 (lv_at hl 1 rfl) ?_
                refine lv_aload hx hb dX8_by_83 (lv_at hl 2 rfl) ?_
                refine lv_iload hx hb dX8_by_85 (lv_at hl 0 rfl) ?_
                refine lv_iload_n hx hb dX8_by_87 rfl (lv_at hl 4 rfl) ?_
                refine lv_iconst (v := (1 : Int32)) hx hb dX8_by_88 (by decide) ?_
                refine lv_icmp_ne (tgt := 96) hx hb dX8_by_89 (by decide) (fun c_15 => ?_) (fun c_15 => ?_)
                · replace hm := ifn hm c_15
                  refine lv_iconst (v := (0 : Int32)) hx hb dX8_by_96 (by decide) ?_
                  obtain ⟨τ_17, e_16, hm⟩ := b1_in hm
                  refine d_callVv (ci := 7) (As := [.ref (q (47 + r_2)), .int ((11 : Int32) - a3), .int (0 : Int32)]) (rest := []) fx sx hC dw_w (D7c_takeBy l r_11 h_12 τ_13 r_2 h_3 ((11 : Int32) - a3) (0 : Int32) e_16) k_616 D7k_takeBy D7h_takeBy rfl rfl (O_at (K7 h_12)) ⟨rfl, rfl⟩ ⟨Nat.le_trans (Nat.le_of_ble_eq_true rfl) hR.1, Nat.le_trans (Nat.le_of_ble_eq_true rfl) hR.2⟩ hf rfl hl.1 rfl (Nat.le_of_ble_eq_true rfl) dX8_by_97 (fun H locs hC => ?_)
                  refine lv_aload_n hx hb dX8_by_100 rfl (lv_at hl 3 rfl) ?_
                  obtain ⟨r_20, τ_19, e_18, hm⟩ := b2_in hm
                  refine d_callVi (ci := 8) (As := []) (rest := []) fx sx hC dw_w (D8c_keep l τ_17 e_18) k_224 D8k_keep D8h_keep rfl rfl (O_at O8) ⟨rfl, rfl⟩ ⟨Nat.le_trans (Nat.le_of_ble_eq_true rfl) hR.1, Nat.le_trans (Nat.le_of_ble_eq_true rfl) hR.2⟩ hf rfl hl.1 rfl (Nat.le_of_ble_eq_true rfl) dX8_by_101 (fun H locs hC => ?_)
                  cases hm
                  exact g_iret fx hr hC rfl dX8_by_104
                · replace hm := ifp hm c_15
                  refine lv_iconst (v := (1 : Int32)) hx hb dX8_by_92 (by decide) ?_
                  refine lv_goto (tgt := 97) hx hb dX8_by_93 (by decide) ?_
                  obtain ⟨τ_22, e_21, hm⟩ := b1_in hm
                  refine d_callVv (ci := 7) (As := [.ref (q (47 + r_2)), .int ((11 : Int32) - a3), .int (1 : Int32)]) (rest := []) fx sx hC dw_w (D7c_takeBy l r_11 h_12 τ_13 r_2 h_3 ((11 : Int32) - a3) (1 : Int32) e_21) k_616 D7k_takeBy D7h_takeBy rfl rfl (O_at (K7 h_12)) ⟨rfl, rfl⟩ ⟨Nat.le_trans (Nat.le_of_ble_eq_true rfl) hR.1, Nat.le_trans (Nat.le_of_ble_eq_true rfl) hR.2⟩ hf rfl hl.1 rfl (Nat.le_of_ble_eq_true rfl) dX8_by_97 (fun H locs hC => ?_)
                  refine lv_aload_n hx hb dX8_by_100 rfl (lv_at hl 3 rfl) ?_
                  obtain ⟨r_25, τ_24, e_23, hm⟩ := b2_in hm
                  refine d_callVi (ci := 8) (As := []) (rest := []) fx sx hC dw_w (D8c_keep l τ_22 e_23) k_224 D8k_keep D8h_keep rfl rfl (O_at O8) ⟨rfl, rfl⟩ ⟨Nat.le_trans (Nat.le_of_ble_eq_true rfl) hR.1, Nat.le_trans (Nat.le_of_ble_eq_true rfl) hR.2⟩ hf rfl hl.1 rfl (Nat.le_of_ble_eq_true rfl) dX8_by_101 (fun H locs hC => ?_)
                  cases hm
                  exact g_iret fx hr hC rfl dX8_by_104
              · replace hm := ifp hm c_14
                refine lv_aload hx hb dX8_by_60 (lv_at hl 1 rfl) ?_
                refine lv_aload hx hb dX8_by_62 (lv_at hl 2 rfl) ?_
                refine lv_iload hx hb dX8_by_64 (lv_at hl 0 rfl) ?_
                obtain ⟨τ_27, e_26, hm⟩ := b1_in hm
                refine d_callVv (ci := 7) (As := [.ref (q (47 + r_2)), .int ((11 : Int32) - a3)]) (rest := []) fx sx hC dw_w (D7c_raise l r_11 h_12 τ_13 r_2 h_3 ((11 : Int32) - a3) e_26) k_614 D7k_raise D7h_raise rfl rfl (O_at (K7 h_12)) ⟨rfl, rfl⟩ ⟨Nat.le_trans (Nat.le_of_ble_eq_true rfl) hR.1, Nat.le_trans (Nat.le_of_ble_eq_true rfl) hR.2⟩ hf rfl hl.1 rfl (Nat.le_of_ble_eq_true rfl) dX8_by_66 (fun H locs hC => ?_)
                refine lv_aload hx hb dX8_by_69 (lv_at hl 1 rfl) ?_
                refine lv_aload hx hb dX8_by_71 (lv_at hl 2 rfl) ?_
                refine lv_iload hx hb dX8_by_73 (lv_at hl 0 rfl) ?_
                obtain ⟨τ_29, e_28, hm⟩ := b1_in hm
                refine d_callVv (ci := 7) (As := [.ref (q (47 + r_2)), .int ((11 : Int32) - a3)]) (rest := []) fx sx hC dw_w (D7c_lower l r_11 h_12 τ_27 r_2 h_3 ((11 : Int32) - a3) e_28) k_615 D7k_lower D7h_lower rfl rfl (O_at (K7 h_12)) ⟨rfl, rfl⟩ ⟨Nat.le_trans (Nat.le_of_ble_eq_true rfl) hR.1, Nat.le_trans (Nat.le_of_ble_eq_true rfl) hR.2⟩ hf rfl hl.1 rfl (Nat.le_of_ble_eq_true rfl) dX8_by_75 (fun H locs hC => ?_)
                refine lv_goto (tgt := 100) hx hb dX8_by_78 (by decide) ?_
                refine lv_aload_n hx hb dX8_by_100 rfl (lv_at hl 3 rfl) ?_
                obtain ⟨r_32, τ_31, e_30, hm⟩ := b2_in hm
                refine d_callVi (ci := 8) (As := []) (rest := []) fx sx hC dw_w (D8c_keep l τ_29 e_30) k_224 D8k_keep D8h_keep rfl rfl (O_at O8) ⟨rfl, rfl⟩ ⟨Nat.le_trans (Nat.le_of_ble_eq_true rfl) hR.1, Nat.le_trans (Nat.le_of_ble_eq_true rfl) hR.2⟩ hf rfl hl.1 rfl (Nat.le_of_ble_eq_true rfl) dX8_by_101 (fun H locs hC => ?_)
                cases hm
                exact g_iret fx hr hC rfl dX8_by_104
          · replace hm := ifn hm c_9
            refine lv_bipush (v := (-2 : Int32)) hx hb dX8_by_31 (by decide) ?_
            cases hm
            exact g_iret fx hr hC rfl dX8_by_33
def D8s_within_55 {ρ : Type} (p2 : Int32) (p3 : Int32) (p5 : Nat) (p6 : Int32) (kx116 : DS → Option ρ) (rc : Int32 → DS → Option ρ) (v7 : Int32) (τ : DS) : Option ρ :=
  if p6 ≤ v7 then (kx116  τ) else (if (4096 : Int32) ≤ v7 then (kx116  τ) else (gi v7 4096 (b1 (D5m_of τ (τ.2.1 8 (v7).toNatClampNeg)) (fun r_17 => if r_17 < p2 then (rc (v7 + (1 : Int32)) τ) else (if p3 < r_17 then (rc (v7 + (1 : Int32)) τ) else (gi v7 4096 (b1 (D7m_put p5 τ (τ.2.1 8 (v7).toNatClampNeg)) (fun τ_22 => rc (v7 + (1 : Int32)) τ_22))))))))
def D8m_within (τ : DS) (a1 : Int32) (a2 : Int32) (a3 : Int32) : Option (Int32 × DS) :=
  bq (D8m_family τ a1) (some ((-2 : Int32), τ)) (fun r_2 => bqe (D8m_blank τ (0 : Int32)) (fun τ_7 => some ((-4 : Int32), τ_7)) (fun r_5 τ_7 => b1 (D5m_learnWeights τ_7) (fun τ_9 => b2 (D7m_list r_2 τ_9) (fun r_12 τ_11 => it2 (D8s_within_55 a2 a3 r_5 r_12 (fun τ_23 => b2 (D8m_keep τ_23) (fun r_26 τ_25 => some (r_26, τ_25)))) fuel (0 : Int32) τ_11))))
abbrev D8rm_within : Room := { frames := 3, cells := 0, slots := 0, locals := 67 }
set_option maxRecDepth 100000 in
set_option maxHeartbeats 4000000 in
theorem D8w_within_55 {ρ : Type} {out : ρ} {p : Program} {l : Launch} {e : Env} {R : Room} {s : State} {m : MethodId} {args : Array Value} {below : List Frame} {meth : Method} {c : Code} {cells slots : Nat} {Q : State → Prop} {D : va_G} {cy : Nat → ClassId} {ad : List Nat} {q : Nat → Nat} {X : va_W} (fx : FX p s m args meth c cX8_within 9 RX8 D cy) (sx : SX ad s) (hR : 3 ≤ R.frames ∧ 67 ≤ R.locals) (hf : cells ≤ R.cells ∧ slots ≤ R.slots) (p2 : Int32) (p3 : Int32) (p5 : Nat) (hp5 : p5 < 32) (p6 : Int32) {kx116 : DS → Option ρ} :
    ∀ (n : Nat) (v7 : Int32) (τ : DS), it2 (D8s_within_55 p2 p3 p5 p6 kx116) n v7 τ = some out → ∀ (H : Heap) (locs : List Loc) (ls : Array Slot), GC D (dwd cy q X) ad s τ H locs → lv_has ls 9 [(0, .ref (q 0)), (2, .int p2), (3, .int p3), (5, .ref (q (47 + p5))), (6, .int p6), (7, .int v7)] → (∀ (τ2 : DS) (H : Heap) (locs : List Loc) (ls : Array Slot), kx116 τ2 = some out → GC D (dwd cy q X) ad s τ2 H locs → lv_has ls 9 [(0, .ref (q 0))] → W p l e R s m args below meth c H locs cells slots Q (F0 m 116 ls [])) → W p l e R s m args below meth c H locs cells slots Q (F0 m 55 ls []) := by
  have hx := fx.1
  have hb := fx.2.1
  intro n
  induction n with
  | zero => intro v7 τ hm; exact (it2_z hm).elim
  | succ n ih9 =>
    intro v7 τ hm H locs ls hC hl hx116
    obtain ⟨rc, hrc⟩ : ∃ z, z = it2 (D8s_within_55 p2 p3 p5 p6 kx116) n := ⟨_, rfl⟩
    replace hm : D8s_within_55 p2 p3 p5 p6 kx116 rc v7 τ = some out := by rw [hrc]; exact hm
    unfold D8s_within_55 at hm
    refine lv_iload hx hb dX8_within_55 (lv_at hl 5 rfl) ?_
    refine lv_iload hx hb dX8_within_57 (lv_at hl 4 rfl) ?_
    refine lv_icmp_ge (tgt := 116) hx hb dX8_within_59 (by decide) (fun c_13 => ?_) (fun c_13 => ?_)
    · replace hm := ifp hm c_13
      exact hx116 _ _ _ _ hm hC (lv_sub hl [0] rfl)
    · replace hm := ifn hm c_13
      refine lv_iload hx hb dX8_within_62 (lv_at hl 5 rfl) ?_
      refine lv_sipush (v := (4096 : Int32)) hx hb dX8_within_64 (by decide) ?_
      refine lv_icmp_ge (tgt := 116) hx hb dX8_within_67 (by decide) (fun c_14 => ?_) (fun c_14 => ?_)
      · replace hm := ifp hm c_14
        exact hx116 _ _ _ _ hm hC (lv_sub hl [0] rfl)
      · replace hm := ifn hm c_14
        refine lv_aload_n hx hb dX8_within_70 rfl (lv_at hl 0 rfl) ?_
        refine D8g_6 fx hC k_27 dX8_within_71 ?_
        refine lv_aload_n hx hb dX8_within_74 rfl (lv_at hl 0 rfl) ?_
        refine D8g_5 fx hC k_23 dX8_within_75 ?_
        refine lv_iload hx hb dX8_within_78 (lv_at hl 5 rfl) ?_
        have h_15 := (gi_in hm).1
        replace hm := (gi_in hm).2
        refine DLi fx hC Ka8 h_15 dX8_within_80 ?_
        obtain ⟨r_17, e_16, hm⟩ := b1_in hm
        refine d_callVi (ci := 5) (As := [.int (τ.2.1 8 (v7).toNatClampNeg)]) (rest := []) fx sx hC dw_w (D5c_of l τ (τ.2.1 8 (v7).toNatClampNeg) e_16) k_640 D5k_of D5h_of rfl rfl (O_at O5) ⟨rfl, rfl⟩ ⟨Nat.le_trans (Nat.le_of_ble_eq_true rfl) hR.1, Nat.le_trans (Nat.le_of_ble_eq_true rfl) hR.2⟩ hf rfl hl.1 rfl (Nat.le_of_ble_eq_true rfl) dX8_within_81 (fun H locs hC => ?_)
        refine lv_istore (lv' := [(8, .int r_17), (0, .ref (q 0)), (2, .int p2), (3, .int p3), (5, .ref (q (47 + p5))), (6, .int p6), (7, .int v7)]) hx hb dX8_within_84 hl (by decide) rfl (fun ls hl => ?_)
        refine lv_iload hx hb dX8_within_86 (lv_at hl 0 rfl) ?_
        refine lv_iload_n hx hb dX8_within_88 rfl (lv_at hl 2 rfl) ?_
        refine lv_icmp_lt (tgt := 110) hx hb dX8_within_89 (by decide) (fun c_18 => ?_) (fun c_18 => ?_)
        · replace hm := ifp hm c_18
          refine lv_iinc (v := (v7 + (1 : Int32))) (lv' := [(7, .int (v7 + (1 : Int32))), (8, .int r_17), (0, .ref (q 0)), (2, .int p2), (3, .int p3), (5, .ref (q (47 + p5))), (6, .int p6)]) hx hb dX8_within_110 hl (k := 6) rfl rfl (by decide) rfl (fun ls hl => ?_)
          refine lv_goto (tgt := 55) hx hb dX8_within_113 (by decide) ?_
          rw [hrc] at hm
          exact ih9 _ _ hm _ _ _ hC (lv_sub hl [2, 3, 4, 5, 6, 0] rfl) hx116
        · replace hm := ifn hm c_18
          refine lv_iload hx hb dX8_within_92 (lv_at hl 0 rfl) ?_
          refine lv_iload_n hx hb dX8_within_94 rfl (lv_at hl 3 rfl) ?_
          refine lv_icmp_gt (tgt := 110) hx hb dX8_within_95 (by decide) (fun c_19 => ?_) (fun c_19 => ?_)
          · replace hm := ifp hm c_19
            refine lv_iinc (v := (v7 + (1 : Int32))) (lv' := [(7, .int (v7 + (1 : Int32))), (8, .int r_17), (0, .ref (q 0)), (2, .int p2), (3, .int p3), (5, .ref (q (47 + p5))), (6, .int p6)]) hx hb dX8_within_110 hl (k := 6) rfl rfl (by decide) rfl (fun ls hl => ?_)
            refine lv_goto (tgt := 55) hx hb dX8_within_113 (by decide) ?_
            rw [hrc] at hm
            exact ih9 _ _ hm _ _ _ hC (lv_sub hl [2, 3, 4, 5, 6, 0] rfl) hx116
          · replace hm := ifn hm c_19
            refine lv_aload hx hb dX8_within_98 (lv_at hl 4 rfl) ?_
            refine lv_aload_n hx hb dX8_within_100 rfl (lv_at hl 1 rfl) ?_
            refine D8g_5 fx hC k_23 dX8_within_101 ?_
            refine lv_iload hx hb dX8_within_104 (lv_at hl 6 rfl) ?_
            have h_20 := (gi_in hm).1
            replace hm := (gi_in hm).2
            refine DLi fx hC Ka8 h_20 dX8_within_106 ?_
            obtain ⟨τ_22, e_21, hm⟩ := b1_in hm
            refine d_callVv (ci := 7) (As := [.int (τ.2.1 8 (v7).toNatClampNeg)]) (rest := []) fx sx hC dw_w (D7c_put l p5 hp5 τ (τ.2.1 8 (v7).toNatClampNeg) e_21) k_220 D7k_put D7h_put rfl rfl (O_at (K7 hp5)) ⟨rfl, rfl⟩ ⟨Nat.le_trans (Nat.le_of_ble_eq_true rfl) hR.1, Nat.le_trans (Nat.le_of_ble_eq_true rfl) hR.2⟩ hf rfl hl.1 rfl (Nat.le_of_ble_eq_true rfl) dX8_within_107 (fun H locs hC => ?_)
            refine lv_iinc (v := (v7 + (1 : Int32))) (lv' := [(7, .int (v7 + (1 : Int32))), (8, .int r_17), (0, .ref (q 0)), (2, .int p2), (3, .int p3), (5, .ref (q (47 + p5))), (6, .int p6)]) hx hb dX8_within_110 hl (k := 6) rfl rfl (by decide) rfl (fun ls hl => ?_)
            refine lv_goto (tgt := 55) hx hb dX8_within_113 (by decide) ?_
            rw [hrc] at hm
            exact ih9 _ _ hm _ _ _ hC (lv_sub hl [2, 3, 4, 5, 6, 0] rfl) hx116
set_option maxRecDepth 100000 in
set_option maxHeartbeats 4000000 in
theorem D8c_within (l : Launch) {D : va_G} {cy : Nat → ClassId} {ad : List Nat} {q : Nat → Nat} {X : va_W} (τ : DS) (a1 : Int32) (a2 : Int32) (a3 : Int32) {o : Int32 × DS} (hm : D8m_within τ a1 a2 a3 = some o) : DM l yX8_within cX8_within 9 (some .int) D8rm_within D cy (dwd cy q X) ad [.ref (q 0), .int a1, .int a2, .int a3] τ (some (.int (o.1))) o.2 := by
  refine d_start RX8 rfl (by decide) (Nat.le_of_ble_eq_true rfl) ?_
  intro p e s m args below meth c fx sx hr hC ls hl
  have hx := fx.1
  have hb := fx.2.1
  have hR : 3 ≤ (D8rm_within).frames ∧ 67 ≤ (D8rm_within).locals := ⟨Nat.le_refl _, Nat.le_refl _⟩
  have hf : 0 ≤ (D8rm_within).cells ∧ 0 ≤ (D8rm_within).slots := ⟨Nat.zero_le _, Nat.zero_le _⟩
  have hl : lv_has ls 9 [(0, .ref (q 0)), (1, .int a1), (2, .int a2), (3, .int a3)] := hl
  unfold D8m_within at hm
  refine lv_aload_n hx hb dX8_within_0 rfl (lv_at hl 0 rfl) ?_
  refine lv_iload_n hx hb dX8_within_1 rfl (lv_at hl 1 rfl) ?_
  rcases bq_in hm with ⟨e_1, hm⟩ | ⟨r_2, e_1, h_3, hm⟩
  · refine d_callVn (ci := 8) (As := [.int a1]) (rest := []) fx sx hC dw_w (D8c_family l τ a1 e_1) k_430 D8k_family D8h_family rfl rfl (O_at O8) ⟨rfl, rfl⟩ ⟨Nat.le_trans (Nat.le_of_ble_eq_true rfl) hR.1, Nat.le_trans (Nat.le_of_ble_eq_true rfl) hR.2⟩ hf rfl hl.1 rfl (Nat.le_of_ble_eq_true rfl) dX8_within_2 (fun H locs hC => ?_)
    refine lv_astoreN (lv' := [(4, .null), (0, .ref (q 0)), (1, .int a1), (2, .int a2), (3, .int a3)]) hx hb dX8_within_5 hl (by decide) rfl (fun ls hl => ?_)
    refine lv_aloadN hx hb dX8_within_7 (lv_at hl 0 rfl) ?_
    refine lv_ifnonnullN hx hb dX8_within_9 ?_
    refine lv_bipush (v := (-2 : Int32)) hx hb dX8_within_12 (by decide) ?_
    cases hm
    exact g_iret fx hr hC rfl dX8_within_14
  · refine d_callVr (ci := 8) (As := [.int a1]) (rest := []) fx sx hC dw_w (D8c_family l τ a1 e_1) k_430 D8k_family D8h_family rfl rfl (O_at O8) ⟨rfl, rfl⟩ ⟨Nat.le_trans (Nat.le_of_ble_eq_true rfl) hR.1, Nat.le_trans (Nat.le_of_ble_eq_true rfl) hR.2⟩ hf rfl hl.1 rfl (Nat.le_of_ble_eq_true rfl) dX8_within_2 (fun H locs hC => ?_)
    refine lv_astore (lv' := [(4, .ref (q (47 + r_2))), (0, .ref (q 0)), (1, .int a1), (2, .int a2), (3, .int a3)]) hx hb dX8_within_5 hl (by decide) rfl (fun ls hl => ?_)
    refine lv_aload hx hb dX8_within_7 (lv_at hl 0 rfl) ?_
    refine lv_ifnonnull (tgt := 15) hx hb dX8_within_9 (by decide) ?_
    refine lv_aload_n hx hb dX8_within_15 rfl (lv_at hl 1 rfl) ?_
    refine lv_iconst (v := (0 : Int32)) hx hb dX8_within_16 (by decide) ?_
    rcases bqe_in hm with ⟨τ_7, e_4, hm⟩ | ⟨r_5, τ_7, e_4, h_6, hm⟩
    · refine d_callVn (ci := 8) (As := [.int (0 : Int32)]) (rest := []) fx sx hC dw_w (D8c_blank l τ (0 : Int32) e_4) k_204 D8k_blank D8h_blank rfl rfl (O_at O8) ⟨rfl, rfl⟩ ⟨Nat.le_trans (Nat.le_of_ble_eq_true rfl) hR.1, Nat.le_trans (Nat.le_of_ble_eq_true rfl) hR.2⟩ hf rfl hl.1 rfl (Nat.le_of_ble_eq_true rfl) dX8_within_17 (fun H locs hC => ?_)
      refine lv_astoreN (lv' := [(5, .null), (4, .ref (q (47 + r_2))), (0, .ref (q 0)), (1, .int a1), (2, .int a2), (3, .int a3)]) hx hb dX8_within_20 hl (by decide) rfl (fun ls hl => ?_)
      refine lv_aloadN hx hb dX8_within_22 (lv_at hl 0 rfl) ?_
      refine lv_ifnonnullN hx hb dX8_within_24 ?_
      refine lv_bipush (v := (-4 : Int32)) hx hb dX8_within_27 (by decide) ?_
      cases hm
      exact g_iret fx hr hC rfl dX8_within_29
    · refine d_callVr (ci := 8) (As := [.int (0 : Int32)]) (rest := []) fx sx hC dw_w (D8c_blank l τ (0 : Int32) e_4) k_204 D8k_blank D8h_blank rfl rfl (O_at O8) ⟨rfl, rfl⟩ ⟨Nat.le_trans (Nat.le_of_ble_eq_true rfl) hR.1, Nat.le_trans (Nat.le_of_ble_eq_true rfl) hR.2⟩ hf rfl hl.1 rfl (Nat.le_of_ble_eq_true rfl) dX8_within_17 (fun H locs hC => ?_)
      refine lv_astore (lv' := [(5, .ref (q (47 + r_5))), (4, .ref (q (47 + r_2))), (0, .ref (q 0)), (1, .int a1), (2, .int a2), (3, .int a3)]) hx hb dX8_within_20 hl (by decide) rfl (fun ls hl => ?_)
      refine lv_aload hx hb dX8_within_22 (lv_at hl 0 rfl) ?_
      refine lv_ifnonnull (tgt := 30) hx hb dX8_within_24 (by decide) ?_
      refine lv_aload_n hx hb dX8_within_30 rfl (lv_at hl 2 rfl) ?_
      refine D8g_6 fx hC k_27 dX8_within_31 ?_
      refine lv_aload_n hx hb dX8_within_34 rfl (lv_at hl 2 rfl) ?_
      refine D8g_0 fx hC k_15 dX8_within_35 ?_
      obtain ⟨τ_9, e_8, hm⟩ := b1_in hm
      refine d_callVv (ci := 5) (As := [.ref (q 1)]) (rest := []) fx sx hC dw_w (D5c_learnWeights l τ_7 e_8) k_628 D5k_learnWeights D5h_learnWeights rfl rfl (O_at O5) ⟨rfl, rfl⟩ ⟨Nat.le_trans (Nat.le_of_ble_eq_true rfl) hR.1, Nat.le_trans (Nat.le_of_ble_eq_true rfl) hR.2⟩ hf rfl hl.1 rfl (Nat.le_of_ble_eq_true rfl) dX8_within_38 (fun H locs hC => ?_)
      refine lv_aload hx hb dX8_within_41 (lv_at hl 1 rfl) ?_
      refine lv_aload_n hx hb dX8_within_43 rfl (lv_at hl 2 rfl) ?_
      refine D8g_5 fx hC k_23 dX8_within_44 ?_
      obtain ⟨r_12, τ_11, e_10, hm⟩ := b2_in hm
      refine d_callVi (ci := 7) (As := [.ref (q 8)]) (rest := []) fx sx hC dw_w (D7c_list l r_2 h_3 τ_9 e_10) k_440 D7k_list D7h_list rfl rfl (O_at (K7 h_3)) ⟨rfl, rfl⟩ ⟨Nat.le_trans (Nat.le_of_ble_eq_true rfl) hR.1, Nat.le_trans (Nat.le_of_ble_eq_true rfl) hR.2⟩ hf rfl hl.1 rfl (Nat.le_of_ble_eq_true rfl) dX8_within_47 (fun H locs hC => ?_)
      refine lv_istore (lv' := [(6, .int r_12), (5, .ref (q (47 + r_5))), (4, .ref (q (47 + r_2))), (0, .ref (q 0)), (1, .int a1), (2, .int a2), (3, .int a3)]) hx hb dX8_within_50 hl (by decide) rfl (fun ls hl => ?_)
      refine lv_iconst (v := (0 : Int32)) hx hb dX8_within_52 (by decide) ?_
      refine lv_istore (lv' := [(7, .int (0 : Int32)), (6, .int r_12), (5, .ref (q (47 + r_5))), (4, .ref (q (47 + r_2))), (0, .ref (q 0)), (1, .int a1), (2, .int a2), (3, .int a3)]) hx hb dX8_within_53 hl (by decide) rfl (fun ls hl => ?_)
      refine D8w_within_55 fx sx hR hf a2 a3 r_5 h_6 r_12 fuel (0 : Int32) τ_11 hm _ _ _ hC (lv_sub hl [4, 6, 7, 2, 1, 0] rfl) (fun τ_23 H locs ls hm hC hl => ?_)
      refine lv_aload_n hx hb dX8_within_116 rfl (lv_at hl 0 rfl) ?_
      obtain ⟨r_26, τ_25, e_24, hm⟩ := b2_in hm
      refine d_callVi (ci := 8) (As := []) (rest := []) fx sx hC dw_w (D8c_keep l τ_23 e_24) k_224 D8k_keep D8h_keep rfl rfl (O_at O8) ⟨rfl, rfl⟩ ⟨Nat.le_trans (Nat.le_of_ble_eq_true rfl) hR.1, Nat.le_trans (Nat.le_of_ble_eq_true rfl) hR.2⟩ hf rfl hl.1 rfl (Nat.le_of_ble_eq_true rfl) dX8_within_117 (fun H locs hC => ?_)
      cases hm
      exact g_iret fx hr hC rfl dX8_within_120
def D8m_drop (τ : DS) : Option (Int32 × DS) :=
  if (0 : Int32) < (τ.1 0 2) then (nm (dS τ 0 2 ((τ.1 0 2) - (1 : Int32))) (fun τ_2 => some ((τ_2.1 0 2), τ_2))) else (some ((-2 : Int32), τ))
abbrev D8rm_drop : Room := { frames := 0, cells := 0, slots := 0, locals := 0 }
set_option maxRecDepth 100000 in
set_option maxHeartbeats 4000000 in
theorem D8c_drop (l : Launch) {D : va_G} {cy : Nat → ClassId} {ad : List Nat} {q : Nat → Nat} {X : va_W} (τ : DS) {o : Int32 × DS} (hm : D8m_drop τ = some o) : DM l yX8_drop cX8_drop 1 (some .int) D8rm_drop D cy (dwd cy q X) ad [.ref (q 0)] τ (some (.int (o.1))) o.2 := by
  refine d_start RX8 rfl (by decide) (Nat.le_of_ble_eq_true rfl) ?_
  intro p e s m args below meth c fx sx hr hC ls hl
  have hx := fx.1
  have hb := fx.2.1
  have hR : 0 ≤ (D8rm_drop).frames ∧ 0 ≤ (D8rm_drop).locals := ⟨Nat.le_refl _, Nat.le_refl _⟩
  have hf : 0 ≤ (D8rm_drop).cells ∧ 0 ≤ (D8rm_drop).slots := ⟨Nat.zero_le _, Nat.zero_le _⟩
  have hl : lv_has ls 1 [(0, .ref (q 0))] := hl
  unfold D8m_drop at hm
  refine lv_aload_n hx hb dX8_drop_0 rfl (lv_at hl 0 rfl) ?_
  refine D8g_2 fx hC k_208 dX8_drop_1 ?_
  refine lv_if_gt (tgt := 10) hx hb dX8_drop_4 (by decide) (fun c_1 => ?_) (fun c_1 => ?_)
  · replace hm := ifp hm c_1
    refine lv_aload_n hx hb dX8_drop_10 rfl (lv_at hl 0 rfl) ?_
    refine lv_dup hx hb dX8_drop_11 rfl ?_
    refine D8g_2 fx hC k_208 dX8_drop_12 ?_
    refine lv_iconst (v := (1 : Int32)) hx hb dX8_drop_15 (by decide) ?_
    refine lv_isub hx hb dX8_drop_16 ?_
    refine D8p_2 fx hC k_208 dX8_drop_17 (fun H locs hC => ?_)
    obtain ⟨τ_2, e_3⟩ : ∃ z, z = (dS τ 0 2 ((τ.1 0 2) - (1 : Int32))) := ⟨_, rfl⟩
    rw [← e_3] at hC
    replace hm := nm_in hm e_3
    refine lv_aload_n hx hb dX8_drop_20 rfl (lv_at hl 0 rfl) ?_
    refine D8g_2 fx hC k_208 dX8_drop_21 ?_
    cases hm
    exact g_iret fx hr hC rfl dX8_drop_24
  · replace hm := ifn hm c_1
    refine lv_bipush (v := (-2 : Int32)) hx hb dX8_drop_7 (by decide) ?_
    cases hm
    exact g_iret fx hr hC rfl dX8_drop_9
def D8m_close (τ : DS) : Option (Int32 × DS) :=
  if (0 : Int32) < (τ.1 1 1) then (b2 (D2m_loseRoad τ) (fun r_4 τ_3 => some (r_4, τ_3))) else (some ((-2 : Int32), τ))
abbrev D8rm_close : Room := { frames := 1, cells := 0, slots := 0, locals := 20 }
set_option maxRecDepth 100000 in
set_option maxHeartbeats 4000000 in
theorem D8c_close (l : Launch) {D : va_G} {cy : Nat → ClassId} {ad : List Nat} {q : Nat → Nat} {X : va_W} (τ : DS) {o : Int32 × DS} (hm : D8m_close τ = some o) : DM l yX8_close cX8_close 1 (some .int) D8rm_close D cy (dwd cy q X) ad [.ref (q 0)] τ (some (.int (o.1))) o.2 := by
  refine d_start RX8 rfl (by decide) (Nat.le_of_ble_eq_true rfl) ?_
  intro p e s m args below meth c fx sx hr hC ls hl
  have hx := fx.1
  have hb := fx.2.1
  have hR : 1 ≤ (D8rm_close).frames ∧ 20 ≤ (D8rm_close).locals := ⟨Nat.le_refl _, Nat.le_refl _⟩
  have hf : 0 ≤ (D8rm_close).cells ∧ 0 ≤ (D8rm_close).slots := ⟨Nat.zero_le _, Nat.zero_le _⟩
  have hl : lv_has ls 1 [(0, .ref (q 0))] := hl
  unfold D8m_close at hm
  refine lv_aload_n hx hb dX8_close_0 rfl (lv_at hl 0 rfl) ?_
  refine D8g_0 fx hC k_15 dX8_close_1 ?_
  refine D2g_1 fx hC k_664 dX8_close_4 ?_
  refine lv_if_gt (tgt := 15) hx hb dX8_close_7 (by decide) (fun c_1 => ?_) (fun c_1 => ?_)
  · replace hm := ifp hm c_1
    refine lv_aload_n hx hb dX8_close_15 rfl (lv_at hl 0 rfl) ?_
    refine D8g_0 fx hC k_15 dX8_close_16 ?_
    obtain ⟨r_4, τ_3, e_2, hm⟩ := b2_in hm
    refine d_callVi (ci := 2) (As := []) (rest := []) fx sx hC dw_w (D2c_loseRoad l τ e_2) k_665 D2k_loseRoad D2h_loseRoad rfl rfl (O_at O2) ⟨rfl, rfl⟩ ⟨Nat.le_trans (Nat.le_of_ble_eq_true rfl) hR.1, Nat.le_trans (Nat.le_of_ble_eq_true rfl) hR.2⟩ hf rfl hl.1 rfl (Nat.le_of_ble_eq_true rfl) dX8_close_19 (fun H locs hC => ?_)
    cases hm
    exact g_iret fx hr hC rfl dX8_close_22
  · replace hm := ifn hm c_1
    refine lv_bipush (v := (-2 : Int32)) hx hb dX8_close_10 (by decide) ?_
    refine lv_goto (tgt := 22) hx hb dX8_close_12 (by decide) ?_
    cases hm
    exact g_iret fx hr hC rfl dX8_close_22
def D8m_count (τ : DS) (a1 : Int32) : Option Int32 :=
  bq (D8m_family τ a1) (some (-2 : Int32)) (fun r_2 => b1 (D7m_size r_2 τ) (fun r_5 => some r_5))
abbrev D8rm_count : Room := { frames := 2, cells := 0, slots := 0, locals := 43 }
set_option maxRecDepth 100000 in
set_option maxHeartbeats 4000000 in
theorem D8c_count (l : Launch) {D : va_G} {cy : Nat → ClassId} {ad : List Nat} {q : Nat → Nat} {X : va_W} (τ : DS) (a1 : Int32) {o : Int32} (hm : D8m_count τ a1 = some o) : DM l yX8_count cX8_count 3 (some .int) D8rm_count D cy (dwd cy q X) ad [.ref (q 0), .int a1] τ (some (.int (o))) τ := by
  refine d_start RX8 rfl (by decide) (Nat.le_of_ble_eq_true rfl) ?_
  intro p e s m args below meth c fx sx hr hC ls hl
  have hx := fx.1
  have hb := fx.2.1
  have hR : 2 ≤ (D8rm_count).frames ∧ 43 ≤ (D8rm_count).locals := ⟨Nat.le_refl _, Nat.le_refl _⟩
  have hf : 0 ≤ (D8rm_count).cells ∧ 0 ≤ (D8rm_count).slots := ⟨Nat.zero_le _, Nat.zero_le _⟩
  have hl : lv_has ls 3 [(0, .ref (q 0)), (1, .int a1)] := hl
  unfold D8m_count at hm
  refine lv_aload_n hx hb dX8_count_0 rfl (lv_at hl 0 rfl) ?_
  refine lv_iload_n hx hb dX8_count_1 rfl (lv_at hl 1 rfl) ?_
  rcases bq_in hm with ⟨e_1, hm⟩ | ⟨r_2, e_1, h_3, hm⟩
  · refine d_callVn (ci := 8) (As := [.int a1]) (rest := []) fx sx hC dw_w (D8c_family l τ a1 e_1) k_430 D8k_family D8h_family rfl rfl (O_at O8) ⟨rfl, rfl⟩ ⟨Nat.le_trans (Nat.le_of_ble_eq_true rfl) hR.1, Nat.le_trans (Nat.le_of_ble_eq_true rfl) hR.2⟩ hf rfl hl.1 rfl (Nat.le_of_ble_eq_true rfl) dX8_count_2 (fun H locs hC => ?_)
    refine lv_astore_nN (lv' := [(2, .null), (0, .ref (q 0)), (1, .int a1)]) hx hb dX8_count_5 rfl hl (by decide) rfl (fun ls hl => ?_)
    refine lv_aload_nN hx hb dX8_count_6 rfl (lv_at hl 0 rfl) ?_
    refine lv_ifnonnullN hx hb dX8_count_7 ?_
    refine lv_bipush (v := (-2 : Int32)) hx hb dX8_count_10 (by decide) ?_
    refine lv_goto (tgt := 19) hx hb dX8_count_12 (by decide) ?_
    cases hm
    exact g_iret fx hr hC rfl dX8_count_19
  · refine d_callVr (ci := 8) (As := [.int a1]) (rest := []) fx sx hC dw_w (D8c_family l τ a1 e_1) k_430 D8k_family D8h_family rfl rfl (O_at O8) ⟨rfl, rfl⟩ ⟨Nat.le_trans (Nat.le_of_ble_eq_true rfl) hR.1, Nat.le_trans (Nat.le_of_ble_eq_true rfl) hR.2⟩ hf rfl hl.1 rfl (Nat.le_of_ble_eq_true rfl) dX8_count_2 (fun H locs hC => ?_)
    refine lv_astore_n (lv' := [(2, .ref (q (47 + r_2))), (0, .ref (q 0)), (1, .int a1)]) hx hb dX8_count_5 rfl hl (by decide) rfl (fun ls hl => ?_)
    refine lv_aload_n hx hb dX8_count_6 rfl (lv_at hl 0 rfl) ?_
    refine lv_ifnonnull (tgt := 15) hx hb dX8_count_7 (by decide) ?_
    refine lv_aload_n hx hb dX8_count_15 rfl (lv_at hl 0 rfl) ?_
    obtain ⟨r_5, e_4, hm⟩ := b1_in hm
    refine d_callVi (ci := 7) (As := []) (rest := []) fx sx hC dw_w (D7c_size l r_2 h_3 τ e_4) k_461 D7k_size D7h_size rfl rfl (O_at (K7 h_3)) ⟨rfl, rfl⟩ ⟨Nat.le_trans (Nat.le_of_ble_eq_true rfl) hR.1, Nat.le_trans (Nat.le_of_ble_eq_true rfl) hR.2⟩ hf rfl hl.1 rfl (Nat.le_of_ble_eq_true rfl) dX8_count_16 (fun H locs hC => ?_)
    cases hm
    exact g_iret fx hr hC rfl dX8_count_19
def D8m_told (τ : DS) (a1 : Int32) (a2 : Int32) : Option (Int32 × DS) :=
  bq (D8m_family τ a1) (some ((-2 : Int32), τ)) (fun r_2 => if a2 = (0 : Int32) then (some ((τ.1 (47 + r_2) 0), τ)) else (if a2 = (1 : Int32) then (b2 (D3m_list 25 τ r_2) (fun r_8 τ_7 => some (r_8, τ_7))) else (if a2 = (2 : Int32) then (b1 (D7m_used r_2 τ) (fun r_11 => b1 (D8m_mirrored r_11) (fun r_13 => some (r_13, τ)))) else (some ((-2 : Int32), τ)))))
abbrev D8rm_told : Room := { frames := 55, cells := 0, slots := 0, locals := 1388 }
set_option maxRecDepth 100000 in
set_option maxHeartbeats 4000000 in
theorem D8c_told (l : Launch) {D : va_G} {cy : Nat → ClassId} {ad : List Nat} {q : Nat → Nat} {X : va_W} (τ : DS) (a1 : Int32) (a2 : Int32) {o : Int32 × DS} (hm : D8m_told τ a1 a2 = some o) : DM l yX8_told cX8_told 4 (some .int) D8rm_told D cy (dwd cy q X) ad [.ref (q 0), .int a1, .int a2] τ (some (.int (o.1))) o.2 := by
  refine d_start RX8 rfl (by decide) (Nat.le_of_ble_eq_true rfl) ?_
  intro p e s m args below meth c fx sx hr hC ls hl
  have hx := fx.1
  have hb := fx.2.1
  have hR : 55 ≤ (D8rm_told).frames ∧ 1388 ≤ (D8rm_told).locals := ⟨Nat.le_refl _, Nat.le_refl _⟩
  have hf : 0 ≤ (D8rm_told).cells ∧ 0 ≤ (D8rm_told).slots := ⟨Nat.zero_le _, Nat.zero_le _⟩
  have hl : lv_has ls 4 [(0, .ref (q 0)), (1, .int a1), (2, .int a2)] := hl
  unfold D8m_told at hm
  refine lv_aload_n hx hb dX8_told_0 rfl (lv_at hl 0 rfl) ?_
  refine lv_iload_n hx hb dX8_told_1 rfl (lv_at hl 1 rfl) ?_
  rcases bq_in hm with ⟨e_1, hm⟩ | ⟨r_2, e_1, h_3, hm⟩
  · refine d_callVn (ci := 8) (As := [.int a1]) (rest := []) fx sx hC dw_w (D8c_family l τ a1 e_1) k_430 D8k_family D8h_family rfl rfl (O_at O8) ⟨rfl, rfl⟩ ⟨Nat.le_trans (Nat.le_of_ble_eq_true rfl) hR.1, Nat.le_trans (Nat.le_of_ble_eq_true rfl) hR.2⟩ hf rfl hl.1 rfl (Nat.le_of_ble_eq_true rfl) dX8_told_2 (fun H locs hC => ?_)
    refine lv_astore_nN (lv' := [(3, .null), (0, .ref (q 0)), (1, .int a1), (2, .int a2)]) hx hb dX8_told_5 rfl hl (by decide) rfl (fun ls hl => ?_)
    refine lv_aload_nN hx hb dX8_told_6 rfl (lv_at hl 0 rfl) ?_
    refine lv_ifnonnullN hx hb dX8_told_7 ?_
    refine lv_bipush (v := (-2 : Int32)) hx hb dX8_told_10 (by decide) ?_
    cases hm
    exact g_iret fx hr hC rfl dX8_told_12
  · refine d_callVr (ci := 8) (As := [.int a1]) (rest := []) fx sx hC dw_w (D8c_family l τ a1 e_1) k_430 D8k_family D8h_family rfl rfl (O_at O8) ⟨rfl, rfl⟩ ⟨Nat.le_trans (Nat.le_of_ble_eq_true rfl) hR.1, Nat.le_trans (Nat.le_of_ble_eq_true rfl) hR.2⟩ hf rfl hl.1 rfl (Nat.le_of_ble_eq_true rfl) dX8_told_2 (fun H locs hC => ?_)
    refine lv_astore_n (lv' := [(3, .ref (q (47 + r_2))), (0, .ref (q 0)), (1, .int a1), (2, .int a2)]) hx hb dX8_told_5 rfl hl (by decide) rfl (fun ls hl => ?_)
    refine lv_aload_n hx hb dX8_told_6 rfl (lv_at hl 0 rfl) ?_
    refine lv_ifnonnull (tgt := 13) hx hb dX8_told_7 (by decide) ?_
    refine lv_iload_n hx hb dX8_told_13 rfl (lv_at hl 3 rfl) ?_
    by_cases c_4 : a2 = (0 : Int32)
    · replace hm := ifp hm c_4
      have ec_4 : (a2 : Int32).toInt = 0 := by rw [c_4]; rfl
      refine lv_tableIn (off := 26) (tgt := 40) hx hb dX8_told_14 (by rw [ec_4]; decide) (by rw [ec_4]; decide) (by rw [ec_4]; rfl) (by decide) ?_
      refine lv_aload_n hx hb dX8_told_40 rfl (lv_at hl 0 rfl) ?_
      refine D7g_0 h_3 fx hC k_685 dX8_told_41 ?_
      cases hm
      exact g_iret fx hr hC rfl dX8_told_44
    · replace hm := ifn hm c_4
      by_cases c_5 : a2 = (1 : Int32)
      · replace hm := ifp hm c_5
        have ec_5 : (a2 : Int32).toInt = 1 := by rw [c_5]; rfl
        refine lv_tableIn (off := 31) (tgt := 45) hx hb dX8_told_14 (by rw [ec_5]; decide) (by rw [ec_5]; decide) (by rw [ec_5]; rfl) (by decide) ?_
        refine lv_aload_n hx hb dX8_told_45 rfl (lv_at hl 1 rfl) ?_
        refine D8g_9 fx hC k_36 dX8_told_46 ?_
        refine lv_aload_n hx hb dX8_told_49 rfl (lv_at hl 0 rfl) ?_
        obtain ⟨r_8, τ_7, e_6, hm⟩ := b2_in hm
        refine d_callVi (ci := 3) (As := [.ref (q (47 + r_2))]) (rest := []) fx sx hC dw_w (D3c_list l 25 (Or.inr rfl) τ r_2 h_3 e_6) k_686 D3k_list D3h_list rfl rfl (O_at (K3 (Or.inr rfl))) ⟨rfl, rfl⟩ ⟨Nat.le_trans (Nat.le_of_ble_eq_true rfl) hR.1, Nat.le_trans (Nat.le_of_ble_eq_true rfl) hR.2⟩ hf rfl hl.1 rfl (Nat.le_of_ble_eq_true rfl) dX8_told_50 (fun H locs hC => ?_)
        cases hm
        exact g_iret fx hr hC rfl dX8_told_53
      · replace hm := ifn hm c_5
        by_cases c_9 : a2 = (2 : Int32)
        · replace hm := ifp hm c_9
          have ec_9 : (a2 : Int32).toInt = 2 := by rw [c_9]; rfl
          refine lv_tableIn (off := 40) (tgt := 54) hx hb dX8_told_14 (by rw [ec_9]; decide) (by rw [ec_9]; decide) (by rw [ec_9]; rfl) (by decide) ?_
          refine lv_aload_n hx hb dX8_told_54 rfl (lv_at hl 0 rfl) ?_
          obtain ⟨r_11, e_10, hm⟩ := b1_in hm
          refine d_callVi (ci := 7) (As := []) (rest := []) fx sx hC dw_w (D7c_used l r_2 h_3 τ e_10) k_576 D7k_used D7h_used rfl rfl (O_at (K7 h_3)) ⟨rfl, rfl⟩ ⟨Nat.le_trans (Nat.le_of_ble_eq_true rfl) hR.1, Nat.le_trans (Nat.le_of_ble_eq_true rfl) hR.2⟩ hf rfl hl.1 rfl (Nat.le_of_ble_eq_true rfl) dX8_told_55 (fun H locs hC => ?_)
          obtain ⟨r_13, e_12, hm⟩ := b1_in hm
          refine d_callSi (As := [.int r_11]) (rest := []) fx sx hC dw_w (D8c_mirrored l τ r_11 e_12) k_217 D8k_mirrored D8h_mirrored ⟨rfl, rfl⟩ ⟨Nat.le_trans (Nat.le_of_ble_eq_true rfl) hR.1, Nat.le_trans (Nat.le_of_ble_eq_true rfl) hR.2⟩ hf rfl hl.1 rfl (Nat.le_of_ble_eq_true rfl) dX8_told_58 (fun H locs hC => ?_)
          cases hm
          exact g_iret fx hr hC rfl dX8_told_61
        · replace hm := ifn hm c_9
          have nc_4 : ¬ (a2 : Int32).toInt = 0 := lv_neT c_4 rfl
          have nc_5 : ¬ (a2 : Int32).toInt = 1 := lv_neT c_5 rfl
          have nc_9 : ¬ (a2 : Int32).toInt = 2 := lv_neT c_9 rfl
          refine lv_tableOut (tgt := 62) hx hb dX8_told_14 (by omega) (by decide) ?_
          refine lv_bipush (v := (-2 : Int32)) hx hb dX8_told_62 (by decide) ?_
          cases hm
          exact g_iret fx hr hC rfl dX8_told_64
def D8s_total_15 {ρ : Type} (p2 : Nat) (τ : DS) (kx52 : Int64 → Option ρ) (rc : Int64 → Int32 → Option ρ) (v3 : Int64) (v5 : Int32) : Option ρ :=
  if (12 : Int32) ≤ v5 then (kx52 v3) else (b1 (D2m_weightOf τ v5) (fun r_6 => b1 (D7m_sizeWith p2 τ ((11 : Int32) - v5)) (fun r_8 => rc (v3 + (r_6.toInt64 * r_8.toInt64)) (v5 + (1 : Int32)))))
def D8m_total (τ : DS) (a1 : Int32) : Option Int64 :=
  bq (D8m_family τ a1) (some (0 : Int64)) (fun r_2 => it2 (D8s_total_15 r_2 τ (fun u_9 => some u_9)) fuel (0 : Int64) (0 : Int32))
abbrev D8rm_total : Room := { frames := 2, cells := 0, slots := 0, locals := 44 }
set_option maxRecDepth 100000 in
set_option maxHeartbeats 4000000 in
theorem D8w_total_15 {ρ : Type} {out : ρ} {p : Program} {l : Launch} {e : Env} {R : Room} {s : State} {m : MethodId} {args : Array Value} {below : List Frame} {meth : Method} {c : Code} {cells slots : Nat} {Q : State → Prop} {D : va_G} {cy : Nat → ClassId} {ad : List Nat} {q : Nat → Nat} {X : va_W} (τ : DS) (fx : FX p s m args meth c cX8_total 6 RX8 D cy) (sx : SX ad s) (hR : 2 ≤ R.frames ∧ 44 ≤ R.locals) (hf : cells ≤ R.cells ∧ slots ≤ R.slots) (p2 : Nat) (hp2 : p2 < 32) {kx52 : Int64 → Option ρ} :
    ∀ (n : Nat) (v3 : Int64) (v5 : Int32), it2 (D8s_total_15 p2 τ kx52) n v3 v5 = some out → ∀ (H : Heap) (locs : List Loc) (ls : Array Slot), GC D (dwd cy q X) ad s τ H locs → lv_has ls 6 [(0, .ref (q 0)), (2, .ref (q (47 + p2))), (3, .long v3), (5, .int v5)] → (∀ (u3 : Int64) (H : Heap) (locs : List Loc) (ls : Array Slot), kx52 u3 = some out → GC D (dwd cy q X) ad s τ H locs → lv_has ls 6 [(3, .long u3)] → W p l e R s m args below meth c H locs cells slots Q (F0 m 52 ls [])) → W p l e R s m args below meth c H locs cells slots Q (F0 m 15 ls []) := by
  have hx := fx.1
  have hb := fx.2.1
  intro n
  induction n with
  | zero => intro v3 v5 hm; exact (it2_z hm).elim
  | succ n ih9 =>
    intro v3 v5 hm H locs ls hC hl hx52
    obtain ⟨rc, hrc⟩ : ∃ z, z = it2 (D8s_total_15 p2 τ kx52) n := ⟨_, rfl⟩
    replace hm : D8s_total_15 p2 τ kx52 rc v3 v5 = some out := by rw [hrc]; exact hm
    unfold D8s_total_15 at hm
    refine lv_iload hx hb dX8_total_15 (lv_at hl 3 rfl) ?_
    refine lv_bipush (v := (12 : Int32)) hx hb dX8_total_17 (by decide) ?_
    refine lv_icmp_ge (tgt := 52) hx hb dX8_total_19 (by decide) (fun c_4 => ?_) (fun c_4 => ?_)
    · replace hm := ifp hm c_4
      exact hx52 _ _ _ _ hm hC (lv_sub hl [2] rfl)
    · replace hm := ifn hm c_4
      refine lv_lload_n hx hb dX8_total_22 rfl (lv_at hl 2 rfl) ?_
      refine lv_aload_n hx hb dX8_total_23 rfl (lv_at hl 0 rfl) ?_
      refine D8g_0 fx hC k_15 dX8_total_24 ?_
      refine lv_iload hx hb dX8_total_27 (lv_at hl 3 rfl) ?_
      obtain ⟨r_6, e_5, hm⟩ := b1_in hm
      refine d_callVi (ci := 2) (As := [.int v5]) (rest := [.long v3]) fx sx hC dw_w (D2c_weightOf l τ v5 e_5) k_748 D2k_weightOf D2h_weightOf rfl rfl (O_at O2) ⟨rfl, rfl⟩ ⟨Nat.le_trans (Nat.le_of_ble_eq_true rfl) hR.1, Nat.le_trans (Nat.le_of_ble_eq_true rfl) hR.2⟩ hf rfl hl.1 rfl (Nat.le_of_ble_eq_true rfl) dX8_total_29 (fun H locs hC => ?_)
      refine lv_i2l hx hb dX8_total_32 rfl ?_
      refine lv_aload_n hx hb dX8_total_33 rfl (lv_at hl 1 rfl) ?_
      refine lv_bipush (v := (11 : Int32)) hx hb dX8_total_34 (by decide) ?_
      refine lv_iload hx hb dX8_total_36 (lv_at hl 3 rfl) ?_
      refine lv_isub hx hb dX8_total_38 ?_
      obtain ⟨r_8, e_7, hm⟩ := b1_in hm
      refine d_callVi (ci := 7) (As := [.int ((11 : Int32) - v5)]) (rest := [.long r_6.toInt64, .long v3]) fx sx hC dw_w (D7c_sizeWith l p2 hp2 τ ((11 : Int32) - v5) e_7) k_749 D7k_sizeWith D7h_sizeWith rfl rfl (O_at (K7 hp2)) ⟨rfl, rfl⟩ ⟨Nat.le_trans (Nat.le_of_ble_eq_true rfl) hR.1, Nat.le_trans (Nat.le_of_ble_eq_true rfl) hR.2⟩ hf rfl hl.1 rfl (Nat.le_of_ble_eq_true rfl) dX8_total_39 (fun H locs hC => ?_)
      refine lv_i2l hx hb dX8_total_42 rfl ?_
      refine lv_lmul hx hb dX8_total_43 ?_
      refine lv_ladd hx hb dX8_total_44 ?_
      refine lv_lstore_n (lv' := [(3, .long (v3 + (r_6.toInt64 * r_8.toInt64))), (0, .ref (q 0)), (2, .ref (q (47 + p2))), (5, .int v5)]) hx hb dX8_total_45 rfl hl (by decide) rfl (fun ls hl => ?_)
      refine lv_iinc (v := (v5 + (1 : Int32))) (lv' := [(5, .int (v5 + (1 : Int32))), (3, .long (v3 + (r_6.toInt64 * r_8.toInt64))), (0, .ref (q 0)), (2, .ref (q (47 + p2)))]) hx hb dX8_total_46 hl (k := 3) rfl rfl (by decide) rfl (fun ls hl => ?_)
      refine lv_goto (tgt := 15) hx hb dX8_total_49 (by decide) ?_
      rw [hrc] at hm
      exact ih9 _ _ hm _ _ _ hC (lv_sub hl [2, 3, 1, 0] rfl) hx52
set_option maxRecDepth 100000 in
set_option maxHeartbeats 4000000 in
theorem D8c_total (l : Launch) {D : va_G} {cy : Nat → ClassId} {ad : List Nat} {q : Nat → Nat} {X : va_W} (τ : DS) (a1 : Int32) {o : Int64} (hm : D8m_total τ a1 = some o) : DM l yX8_total cX8_total 6 (some .long) D8rm_total D cy (dwd cy q X) ad [.ref (q 0), .int a1] τ (some (.long (o))) τ := by
  refine d_start RX8 rfl (by decide) (Nat.le_of_ble_eq_true rfl) ?_
  intro p e s m args below meth c fx sx hr hC ls hl
  have hx := fx.1
  have hb := fx.2.1
  have hR : 2 ≤ (D8rm_total).frames ∧ 44 ≤ (D8rm_total).locals := ⟨Nat.le_refl _, Nat.le_refl _⟩
  have hf : 0 ≤ (D8rm_total).cells ∧ 0 ≤ (D8rm_total).slots := ⟨Nat.zero_le _, Nat.zero_le _⟩
  have hl : lv_has ls 6 [(0, .ref (q 0)), (1, .int a1)] := hl
  unfold D8m_total at hm
  refine lv_aload_n hx hb dX8_total_0 rfl (lv_at hl 0 rfl) ?_
  refine lv_iload_n hx hb dX8_total_1 rfl (lv_at hl 1 rfl) ?_
  rcases bq_in hm with ⟨e_1, hm⟩ | ⟨r_2, e_1, h_3, hm⟩
  · refine d_callVn (ci := 8) (As := [.int a1]) (rest := []) fx sx hC dw_w (D8c_family l τ a1 e_1) k_430 D8k_family D8h_family rfl rfl (O_at O8) ⟨rfl, rfl⟩ ⟨Nat.le_trans (Nat.le_of_ble_eq_true rfl) hR.1, Nat.le_trans (Nat.le_of_ble_eq_true rfl) hR.2⟩ hf rfl hl.1 rfl (Nat.le_of_ble_eq_true rfl) dX8_total_2 (fun H locs hC => ?_)
    refine lv_astore_nN (lv' := [(2, .null), (0, .ref (q 0)), (1, .int a1)]) hx hb dX8_total_5 rfl hl (by decide) rfl (fun ls hl => ?_)
    refine lv_lconst (v := (0 : Int64)) hx hb dX8_total_6 (by decide) ?_
    refine lv_lstore_n (lv' := [(3, .long (0 : Int64)), (2, .null), (0, .ref (q 0)), (1, .int a1)]) hx hb dX8_total_7 rfl hl (by decide) rfl (fun ls hl => ?_)
    refine lv_aload_nN hx hb dX8_total_8 rfl (lv_at hl 1 rfl) ?_
    refine lv_ifnullN (tgt := 52) hx hb dX8_total_9 (by decide) ?_
    refine lv_lload_n hx hb dX8_total_52 rfl (lv_at hl 0 rfl) ?_
    cases hm
    exact g_lret fx hr hC rfl dX8_total_53
  · refine d_callVr (ci := 8) (As := [.int a1]) (rest := []) fx sx hC dw_w (D8c_family l τ a1 e_1) k_430 D8k_family D8h_family rfl rfl (O_at O8) ⟨rfl, rfl⟩ ⟨Nat.le_trans (Nat.le_of_ble_eq_true rfl) hR.1, Nat.le_trans (Nat.le_of_ble_eq_true rfl) hR.2⟩ hf rfl hl.1 rfl (Nat.le_of_ble_eq_true rfl) dX8_total_2 (fun H locs hC => ?_)
    refine lv_astore_n (lv' := [(2, .ref (q (47 + r_2))), (0, .ref (q 0)), (1, .int a1)]) hx hb dX8_total_5 rfl hl (by decide) rfl (fun ls hl => ?_)
    refine lv_lconst (v := (0 : Int64)) hx hb dX8_total_6 (by decide) ?_
    refine lv_lstore_n (lv' := [(3, .long (0 : Int64)), (2, .ref (q (47 + r_2))), (0, .ref (q 0)), (1, .int a1)]) hx hb dX8_total_7 rfl hl (by decide) rfl (fun ls hl => ?_)
    refine lv_aload_n hx hb dX8_total_8 rfl (lv_at hl 1 rfl) ?_
    refine lv_ifnull hx hb dX8_total_9 ?_
    refine lv_iconst (v := (0 : Int32)) hx hb dX8_total_12 (by decide) ?_
    refine lv_istore (lv' := [(5, .int (0 : Int32)), (3, .long (0 : Int64)), (2, .ref (q (47 + r_2))), (0, .ref (q 0)), (1, .int a1)]) hx hb dX8_total_13 hl (by decide) rfl (fun ls hl => ?_)
    refine D8w_total_15 τ fx sx hR hf r_2 h_3 fuel (0 : Int64) (0 : Int32) hm _ _ _ hC (lv_sub hl [3, 2, 1, 0] rfl) (fun u_9 H locs ls hm hC hl => ?_)
    refine lv_lload_n hx hb dX8_total_52 rfl (lv_at hl 0 rfl) ?_
    cases hm
    exact g_lret fx hr hC rfl dX8_total_53
def D8m_often (τ : DS) (a1 : Int32) (a2 : Int32) : Option Int32 :=
  bq (D8m_family τ a1) (some (-2 : Int32)) (fun r_2 => if a2 < (0 : Int32) then (some (-2 : Int32)) else (if a2 < (12 : Int32) then (b1 (D7m_sizeWith r_2 τ ((11 : Int32) - a2)) (fun r_7 => some r_7)) else (some (-2 : Int32))))
abbrev D8rm_often : Room := { frames := 2, cells := 0, slots := 0, locals := 44 }
set_option maxRecDepth 100000 in
set_option maxHeartbeats 4000000 in
theorem D8c_often (l : Launch) {D : va_G} {cy : Nat → ClassId} {ad : List Nat} {q : Nat → Nat} {X : va_W} (τ : DS) (a1 : Int32) (a2 : Int32) {o : Int32} (hm : D8m_often τ a1 a2 = some o) : DM l yX8_often cX8_often 4 (some .int) D8rm_often D cy (dwd cy q X) ad [.ref (q 0), .int a1, .int a2] τ (some (.int (o))) τ := by
  refine d_start RX8 rfl (by decide) (Nat.le_of_ble_eq_true rfl) ?_
  intro p e s m args below meth c fx sx hr hC ls hl
  have hx := fx.1
  have hb := fx.2.1
  have hR : 2 ≤ (D8rm_often).frames ∧ 44 ≤ (D8rm_often).locals := ⟨Nat.le_refl _, Nat.le_refl _⟩
  have hf : 0 ≤ (D8rm_often).cells ∧ 0 ≤ (D8rm_often).slots := ⟨Nat.zero_le _, Nat.zero_le _⟩
  have hl : lv_has ls 4 [(0, .ref (q 0)), (1, .int a1), (2, .int a2)] := hl
  unfold D8m_often at hm
  refine lv_aload_n hx hb dX8_often_0 rfl (lv_at hl 0 rfl) ?_
  refine lv_iload_n hx hb dX8_often_1 rfl (lv_at hl 1 rfl) ?_
  rcases bq_in hm with ⟨e_1, hm⟩ | ⟨r_2, e_1, h_3, hm⟩
  · refine d_callVn (ci := 8) (As := [.int a1]) (rest := []) fx sx hC dw_w (D8c_family l τ a1 e_1) k_430 D8k_family D8h_family rfl rfl (O_at O8) ⟨rfl, rfl⟩ ⟨Nat.le_trans (Nat.le_of_ble_eq_true rfl) hR.1, Nat.le_trans (Nat.le_of_ble_eq_true rfl) hR.2⟩ hf rfl hl.1 rfl (Nat.le_of_ble_eq_true rfl) dX8_often_2 (fun H locs hC => ?_)
    refine lv_astore_nN (lv' := [(3, .null), (0, .ref (q 0)), (1, .int a1), (2, .int a2)]) hx hb dX8_often_5 rfl hl (by decide) rfl (fun ls hl => ?_)
    refine lv_aload_nN hx hb dX8_often_6 rfl (lv_at hl 0 rfl) ?_
    refine lv_ifnullN (tgt := 20) hx hb dX8_often_7 (by decide) ?_
    refine lv_bipush (v := (-2 : Int32)) hx hb dX8_often_20 (by decide) ?_
    cases hm
    exact g_iret fx hr hC rfl dX8_often_22
  · refine d_callVr (ci := 8) (As := [.int a1]) (rest := []) fx sx hC dw_w (D8c_family l τ a1 e_1) k_430 D8k_family D8h_family rfl rfl (O_at O8) ⟨rfl, rfl⟩ ⟨Nat.le_trans (Nat.le_of_ble_eq_true rfl) hR.1, Nat.le_trans (Nat.le_of_ble_eq_true rfl) hR.2⟩ hf rfl hl.1 rfl (Nat.le_of_ble_eq_true rfl) dX8_often_2 (fun H locs hC => ?_)
    refine lv_astore_n (lv' := [(3, .ref (q (47 + r_2))), (0, .ref (q 0)), (1, .int a1), (2, .int a2)]) hx hb dX8_often_5 rfl hl (by decide) rfl (fun ls hl => ?_)
    refine lv_aload_n hx hb dX8_often_6 rfl (lv_at hl 0 rfl) ?_
    refine lv_ifnull hx hb dX8_often_7 ?_
    refine lv_iload_n hx hb dX8_often_10 rfl (lv_at hl 3 rfl) ?_
    refine lv_if_lt (tgt := 20) hx hb dX8_often_11 (by decide) (fun c_4 => ?_) (fun c_4 => ?_)
    · replace hm := ifp hm c_4
      refine lv_bipush (v := (-2 : Int32)) hx hb dX8_often_20 (by decide) ?_
      cases hm
      exact g_iret fx hr hC rfl dX8_often_22
    · replace hm := ifn hm c_4
      refine lv_iload_n hx hb dX8_often_14 rfl (lv_at hl 3 rfl) ?_
      refine lv_bipush (v := (12 : Int32)) hx hb dX8_often_15 (by decide) ?_
      refine lv_icmp_lt (tgt := 23) hx hb dX8_often_17 (by decide) (fun c_5 => ?_) (fun c_5 => ?_)
      · replace hm := ifp hm c_5
        refine lv_aload_n hx hb dX8_often_23 rfl (lv_at hl 0 rfl) ?_
        refine lv_bipush (v := (11 : Int32)) hx hb dX8_often_24 (by decide) ?_
        refine lv_iload_n hx hb dX8_often_26 rfl (lv_at hl 3 rfl) ?_
        refine lv_isub hx hb dX8_often_27 ?_
        obtain ⟨r_7, e_6, hm⟩ := b1_in hm
        refine d_callVi (ci := 7) (As := [.int ((11 : Int32) - a2)]) (rest := []) fx sx hC dw_w (D7c_sizeWith l r_2 h_3 τ ((11 : Int32) - a2) e_6) k_749 D7k_sizeWith D7h_sizeWith rfl rfl (O_at (K7 h_3)) ⟨rfl, rfl⟩ ⟨Nat.le_trans (Nat.le_of_ble_eq_true rfl) hR.1, Nat.le_trans (Nat.le_of_ble_eq_true rfl) hR.2⟩ hf rfl hl.1 rfl (Nat.le_of_ble_eq_true rfl) dX8_often_28 (fun H locs hC => ?_)
        cases hm
        exact g_iret fx hr hC rfl dX8_often_31
      · replace hm := ifn hm c_5
        refine lv_bipush (v := (-2 : Int32)) hx hb dX8_often_20 (by decide) ?_
        cases hm
        exact g_iret fx hr hC rfl dX8_often_22
def D8m_has (τ : DS) (a1 : Int32) (a2 : Int32) : Option Int32 :=
  bq (D8m_family τ a1) (some (-2 : Int32)) (fun r_2 => if (0 : Int32) ≤ a2 then (if (4096 : Int32) ≤ a2 then (some (0 : Int32)) else (b1 (D8m_mirrored a2) (fun r_7 => b1 (D7m_holds r_2 τ r_7) (fun r_9 => if r_9 = (0 : Int32) then (some (0 : Int32)) else (some (1 : Int32)))))) else (some (-2 : Int32)))
abbrev D8rm_has : Room := { frames := 1, cells := 0, slots := 0, locals := 22 }
set_option maxRecDepth 100000 in
set_option maxHeartbeats 4000000 in
theorem D8c_has (l : Launch) {D : va_G} {cy : Nat → ClassId} {ad : List Nat} {q : Nat → Nat} {X : va_W} (τ : DS) (a1 : Int32) (a2 : Int32) {o : Int32} (hm : D8m_has τ a1 a2 = some o) : DM l yX8_has cX8_has 4 (some .int) D8rm_has D cy (dwd cy q X) ad [.ref (q 0), .int a1, .int a2] τ (some (.int (o))) τ := by
  refine d_start RX8 rfl (by decide) (Nat.le_of_ble_eq_true rfl) ?_
  intro p e s m args below meth c fx sx hr hC ls hl
  have hx := fx.1
  have hb := fx.2.1
  have hR : 1 ≤ (D8rm_has).frames ∧ 22 ≤ (D8rm_has).locals := ⟨Nat.le_refl _, Nat.le_refl _⟩
  have hf : 0 ≤ (D8rm_has).cells ∧ 0 ≤ (D8rm_has).slots := ⟨Nat.zero_le _, Nat.zero_le _⟩
  have hl : lv_has ls 4 [(0, .ref (q 0)), (1, .int a1), (2, .int a2)] := hl
  unfold D8m_has at hm
  refine lv_aload_n hx hb dX8_has_0 rfl (lv_at hl 0 rfl) ?_
  refine lv_iload_n hx hb dX8_has_1 rfl (lv_at hl 1 rfl) ?_
  rcases bq_in hm with ⟨e_1, hm⟩ | ⟨r_2, e_1, h_3, hm⟩
  · refine d_callVn (ci := 8) (As := [.int a1]) (rest := []) fx sx hC dw_w (D8c_family l τ a1 e_1) k_430 D8k_family D8h_family rfl rfl (O_at O8) ⟨rfl, rfl⟩ ⟨Nat.le_trans (Nat.le_of_ble_eq_true rfl) hR.1, Nat.le_trans (Nat.le_of_ble_eq_true rfl) hR.2⟩ hf rfl hl.1 rfl (Nat.le_of_ble_eq_true rfl) dX8_has_2 (fun H locs hC => ?_)
    refine lv_astore_nN (lv' := [(3, .null), (0, .ref (q 0)), (1, .int a1), (2, .int a2)]) hx hb dX8_has_5 rfl hl (by decide) rfl (fun ls hl => ?_)
    refine lv_aload_nN hx hb dX8_has_6 rfl (lv_at hl 0 rfl) ?_
    refine lv_ifnullN (tgt := 14) hx hb dX8_has_7 (by decide) ?_
    refine lv_bipush (v := (-2 : Int32)) hx hb dX8_has_14 (by decide) ?_
    cases hm
    exact g_iret fx hr hC rfl dX8_has_16
  · refine d_callVr (ci := 8) (As := [.int a1]) (rest := []) fx sx hC dw_w (D8c_family l τ a1 e_1) k_430 D8k_family D8h_family rfl rfl (O_at O8) ⟨rfl, rfl⟩ ⟨Nat.le_trans (Nat.le_of_ble_eq_true rfl) hR.1, Nat.le_trans (Nat.le_of_ble_eq_true rfl) hR.2⟩ hf rfl hl.1 rfl (Nat.le_of_ble_eq_true rfl) dX8_has_2 (fun H locs hC => ?_)
    refine lv_astore_n (lv' := [(3, .ref (q (47 + r_2))), (0, .ref (q 0)), (1, .int a1), (2, .int a2)]) hx hb dX8_has_5 rfl hl (by decide) rfl (fun ls hl => ?_)
    refine lv_aload_n hx hb dX8_has_6 rfl (lv_at hl 0 rfl) ?_
    refine lv_ifnull hx hb dX8_has_7 ?_
    refine lv_iload_n hx hb dX8_has_10 rfl (lv_at hl 3 rfl) ?_
    refine lv_if_ge (tgt := 17) hx hb dX8_has_11 (by decide) (fun c_4 => ?_) (fun c_4 => ?_)
    · replace hm := ifp hm c_4
      refine lv_iload_n hx hb dX8_has_17 rfl (lv_at hl 3 rfl) ?_
      refine lv_sipush (v := (4096 : Int32)) hx hb dX8_has_18 (by decide) ?_
      refine lv_icmp_ge (tgt := 39) hx hb dX8_has_21 (by decide) (fun c_5 => ?_) (fun c_5 => ?_)
      · replace hm := ifp hm c_5
        refine lv_iconst (v := (0 : Int32)) hx hb dX8_has_39 (by decide) ?_
        cases hm
        exact g_iret fx hr hC rfl dX8_has_40
      · replace hm := ifn hm c_5
        refine lv_aload_n hx hb dX8_has_24 rfl (lv_at hl 0 rfl) ?_
        refine lv_iload_n hx hb dX8_has_25 rfl (lv_at hl 3 rfl) ?_
        obtain ⟨r_7, e_6, hm⟩ := b1_in hm
        refine d_callSi (As := [.int a2]) (rest := [.ref (q (47 + r_2))]) fx sx hC dw_w (D8c_mirrored l τ a2 e_6) k_217 D8k_mirrored D8h_mirrored ⟨rfl, rfl⟩ ⟨Nat.le_trans (Nat.le_of_ble_eq_true rfl) hR.1, Nat.le_trans (Nat.le_of_ble_eq_true rfl) hR.2⟩ hf rfl hl.1 rfl (Nat.le_of_ble_eq_true rfl) dX8_has_26 (fun H locs hC => ?_)
        obtain ⟨r_9, e_8, hm⟩ := b1_in hm
        refine d_callVi (ci := 7) (As := [.int r_7]) (rest := []) fx sx hC dw_w (D7c_holds l r_2 h_3 τ r_7 e_8) k_766 D7k_holds D7h_holds rfl rfl (O_at (K7 h_3)) ⟨rfl, rfl⟩ ⟨Nat.le_trans (Nat.le_of_ble_eq_true rfl) hR.1, Nat.le_trans (Nat.le_of_ble_eq_true rfl) hR.2⟩ hf rfl hl.1 rfl (Nat.le_of_ble_eq_true rfl) dX8_has_29 (fun H locs hC => ?_)
        refine lv_if_eq (tgt := 39) hx hb dX8_has_32 (by decide) (fun c_10 => ?_) (fun c_10 => ?_)
        · replace hm := ifp hm c_10
          refine lv_iconst (v := (0 : Int32)) hx hb dX8_has_39 (by decide) ?_
          cases hm
          exact g_iret fx hr hC rfl dX8_has_40
        · replace hm := ifn hm c_10
          refine lv_iconst (v := (1 : Int32)) hx hb dX8_has_35 (by decide) ?_
          refine lv_goto (tgt := 40) hx hb dX8_has_36 (by decide) ?_
          cases hm
          exact g_iret fx hr hC rfl dX8_has_40
    · replace hm := ifn hm c_4
      refine lv_bipush (v := (-2 : Int32)) hx hb dX8_has_14 (by decide) ?_
      cases hm
      exact g_iret fx hr hC rfl dX8_has_16
def D8m_maskAt (a1 : Int32) : Option Int32 :=
  if (0 : Int32) ≤ a1 then (b1 (D8m_mirrored a1) (fun r_3 => some r_3)) else (some (-1 : Int32))
abbrev D8rm_maskAt : Room := { frames := 1, cells := 0, slots := 0, locals := 22 }
set_option maxRecDepth 100000 in
set_option maxHeartbeats 4000000 in
theorem D8c_maskAt (l : Launch) {D : va_G} {cy : Nat → ClassId} {ad : List Nat} {q : Nat → Nat} {X : va_W} (τ : DS) (a1 : Int32) {o : Int32} (hm : D8m_maskAt a1 = some o) : DM l yX8_maskAt cX8_maskAt 1 (some .int) D8rm_maskAt D cy (dwd cy q X) ad [.int a1] τ (some (.int (o))) τ := by
  refine d_start RX8 rfl (by decide) (Nat.le_of_ble_eq_true rfl) ?_
  intro p e s m args below meth c fx sx hr hC ls hl
  have hx := fx.1
  have hb := fx.2.1
  have hR : 1 ≤ (D8rm_maskAt).frames ∧ 22 ≤ (D8rm_maskAt).locals := ⟨Nat.le_refl _, Nat.le_refl _⟩
  have hf : 0 ≤ (D8rm_maskAt).cells ∧ 0 ≤ (D8rm_maskAt).slots := ⟨Nat.zero_le _, Nat.zero_le _⟩
  have hl : lv_has ls 1 [(0, .int a1)] := hl
  unfold D8m_maskAt at hm
  refine lv_iload_n hx hb dX8_maskAt_0 rfl (lv_at hl 0 rfl) ?_
  refine lv_if_ge (tgt := 8) hx hb dX8_maskAt_1 (by decide) (fun c_1 => ?_) (fun c_1 => ?_)
  · replace hm := ifp hm c_1
    refine lv_iload_n hx hb dX8_maskAt_8 rfl (lv_at hl 0 rfl) ?_
    obtain ⟨r_3, e_2, hm⟩ := b1_in hm
    refine d_callSi (As := [.int a1]) (rest := []) fx sx hC dw_w (D8c_mirrored l τ a1 e_2) k_217 D8k_mirrored D8h_mirrored ⟨rfl, rfl⟩ ⟨Nat.le_trans (Nat.le_of_ble_eq_true rfl) hR.1, Nat.le_trans (Nat.le_of_ble_eq_true rfl) hR.2⟩ hf rfl hl.1 rfl (Nat.le_of_ble_eq_true rfl) dX8_maskAt_9 (fun H locs hC => ?_)
    cases hm
    exact g_iret fx hr hC rfl dX8_maskAt_12
  · replace hm := ifn hm c_1
    refine lv_iconst (v := (-1 : Int32)) hx hb dX8_maskAt_4 (by decide) ?_
    refine lv_goto (tgt := 12) hx hb dX8_maskAt_5 (by decide) ?_
    cases hm
    exact g_iret fx hr hC rfl dX8_maskAt_12
def D8m_way (τ : DS) (a1 : Int32) (a2 : Int32) : Option Int32 :=
  bq (D8m_family τ a1) (some (-2 : Int32)) (fun r_2 => b1 (D7m_nth r_2 τ a2) (fun r_5 => b1 (D8m_maskAt r_5) (fun r_7 => some r_7)))
abbrev D8rm_way : Room := { frames := 2, cells := 0, slots := 0, locals := 48 }
set_option maxRecDepth 100000 in
set_option maxHeartbeats 4000000 in
theorem D8c_way (l : Launch) {D : va_G} {cy : Nat → ClassId} {ad : List Nat} {q : Nat → Nat} {X : va_W} (τ : DS) (a1 : Int32) (a2 : Int32) {o : Int32} (hm : D8m_way τ a1 a2 = some o) : DM l yX8_way cX8_way 4 (some .int) D8rm_way D cy (dwd cy q X) ad [.ref (q 0), .int a1, .int a2] τ (some (.int (o))) τ := by
  refine d_start RX8 rfl (by decide) (Nat.le_of_ble_eq_true rfl) ?_
  intro p e s m args below meth c fx sx hr hC ls hl
  have hx := fx.1
  have hb := fx.2.1
  have hR : 2 ≤ (D8rm_way).frames ∧ 48 ≤ (D8rm_way).locals := ⟨Nat.le_refl _, Nat.le_refl _⟩
  have hf : 0 ≤ (D8rm_way).cells ∧ 0 ≤ (D8rm_way).slots := ⟨Nat.zero_le _, Nat.zero_le _⟩
  have hl : lv_has ls 4 [(0, .ref (q 0)), (1, .int a1), (2, .int a2)] := hl
  unfold D8m_way at hm
  refine lv_aload_n hx hb dX8_way_0 rfl (lv_at hl 0 rfl) ?_
  refine lv_iload_n hx hb dX8_way_1 rfl (lv_at hl 1 rfl) ?_
  rcases bq_in hm with ⟨e_1, hm⟩ | ⟨r_2, e_1, h_3, hm⟩
  · refine d_callVn (ci := 8) (As := [.int a1]) (rest := []) fx sx hC dw_w (D8c_family l τ a1 e_1) k_430 D8k_family D8h_family rfl rfl (O_at O8) ⟨rfl, rfl⟩ ⟨Nat.le_trans (Nat.le_of_ble_eq_true rfl) hR.1, Nat.le_trans (Nat.le_of_ble_eq_true rfl) hR.2⟩ hf rfl hl.1 rfl (Nat.le_of_ble_eq_true rfl) dX8_way_2 (fun H locs hC => ?_)
    refine lv_astore_nN (lv' := [(3, .null), (0, .ref (q 0)), (1, .int a1), (2, .int a2)]) hx hb dX8_way_5 rfl hl (by decide) rfl (fun ls hl => ?_)
    refine lv_aload_nN hx hb dX8_way_6 rfl (lv_at hl 0 rfl) ?_
    refine lv_ifnonnullN hx hb dX8_way_7 ?_
    refine lv_bipush (v := (-2 : Int32)) hx hb dX8_way_10 (by decide) ?_
    refine lv_goto (tgt := 23) hx hb dX8_way_12 (by decide) ?_
    cases hm
    exact g_iret fx hr hC rfl dX8_way_23
  · refine d_callVr (ci := 8) (As := [.int a1]) (rest := []) fx sx hC dw_w (D8c_family l τ a1 e_1) k_430 D8k_family D8h_family rfl rfl (O_at O8) ⟨rfl, rfl⟩ ⟨Nat.le_trans (Nat.le_of_ble_eq_true rfl) hR.1, Nat.le_trans (Nat.le_of_ble_eq_true rfl) hR.2⟩ hf rfl hl.1 rfl (Nat.le_of_ble_eq_true rfl) dX8_way_2 (fun H locs hC => ?_)
    refine lv_astore_n (lv' := [(3, .ref (q (47 + r_2))), (0, .ref (q 0)), (1, .int a1), (2, .int a2)]) hx hb dX8_way_5 rfl hl (by decide) rfl (fun ls hl => ?_)
    refine lv_aload_n hx hb dX8_way_6 rfl (lv_at hl 0 rfl) ?_
    refine lv_ifnonnull (tgt := 15) hx hb dX8_way_7 (by decide) ?_
    refine lv_aload_n hx hb dX8_way_15 rfl (lv_at hl 0 rfl) ?_
    refine lv_iload_n hx hb dX8_way_16 rfl (lv_at hl 3 rfl) ?_
    obtain ⟨r_5, e_4, hm⟩ := b1_in hm
    refine d_callVi (ci := 7) (As := [.int a2]) (rest := []) fx sx hC dw_w (D7c_nth l r_2 h_3 τ a2 e_4) k_775 D7k_nth D7h_nth rfl rfl (O_at (K7 h_3)) ⟨rfl, rfl⟩ ⟨Nat.le_trans (Nat.le_of_ble_eq_true rfl) hR.1, Nat.le_trans (Nat.le_of_ble_eq_true rfl) hR.2⟩ hf rfl hl.1 rfl (Nat.le_of_ble_eq_true rfl) dX8_way_17 (fun H locs hC => ?_)
    obtain ⟨r_7, e_6, hm⟩ := b1_in hm
    refine d_callSi (As := [.int r_5]) (rest := []) fx sx hC dw_w (D8c_maskAt l τ r_5 e_6) k_782 D8k_maskAt D8h_maskAt ⟨rfl, rfl⟩ ⟨Nat.le_trans (Nat.le_of_ble_eq_true rfl) hR.1, Nat.le_trans (Nat.le_of_ble_eq_true rfl) hR.2⟩ hf rfl hl.1 rfl (Nat.le_of_ble_eq_true rfl) dX8_way_20 (fun H locs hC => ?_)
    cases hm
    exact g_iret fx hr hC rfl dX8_way_23
def D8m_rank (τ : DS) (a1 : Int32) (a2 : Int32) : Option Int32 :=
  bq (D8m_family τ a1) (some (-2 : Int32)) (fun r_2 => if a2 < (0 : Int32) then (some (-2 : Int32)) else (if a2 < (4096 : Int32) then (b1 (D8m_mirrored a2) (fun r_7 => b1 (D7m_sizeAhead r_2 τ r_7) (fun r_9 => some r_9))) else (some (-2 : Int32))))
abbrev D8rm_rank : Room := { frames := 2, cells := 0, slots := 0, locals := 46 }
set_option maxRecDepth 100000 in
set_option maxHeartbeats 4000000 in
theorem D8c_rank (l : Launch) {D : va_G} {cy : Nat → ClassId} {ad : List Nat} {q : Nat → Nat} {X : va_W} (τ : DS) (a1 : Int32) (a2 : Int32) {o : Int32} (hm : D8m_rank τ a1 a2 = some o) : DM l yX8_rank cX8_rank 4 (some .int) D8rm_rank D cy (dwd cy q X) ad [.ref (q 0), .int a1, .int a2] τ (some (.int (o))) τ := by
  refine d_start RX8 rfl (by decide) (Nat.le_of_ble_eq_true rfl) ?_
  intro p e s m args below meth c fx sx hr hC ls hl
  have hx := fx.1
  have hb := fx.2.1
  have hR : 2 ≤ (D8rm_rank).frames ∧ 46 ≤ (D8rm_rank).locals := ⟨Nat.le_refl _, Nat.le_refl _⟩
  have hf : 0 ≤ (D8rm_rank).cells ∧ 0 ≤ (D8rm_rank).slots := ⟨Nat.zero_le _, Nat.zero_le _⟩
  have hl : lv_has ls 4 [(0, .ref (q 0)), (1, .int a1), (2, .int a2)] := hl
  unfold D8m_rank at hm
  refine lv_aload_n hx hb dX8_rank_0 rfl (lv_at hl 0 rfl) ?_
  refine lv_iload_n hx hb dX8_rank_1 rfl (lv_at hl 1 rfl) ?_
  rcases bq_in hm with ⟨e_1, hm⟩ | ⟨r_2, e_1, h_3, hm⟩
  · refine d_callVn (ci := 8) (As := [.int a1]) (rest := []) fx sx hC dw_w (D8c_family l τ a1 e_1) k_430 D8k_family D8h_family rfl rfl (O_at O8) ⟨rfl, rfl⟩ ⟨Nat.le_trans (Nat.le_of_ble_eq_true rfl) hR.1, Nat.le_trans (Nat.le_of_ble_eq_true rfl) hR.2⟩ hf rfl hl.1 rfl (Nat.le_of_ble_eq_true rfl) dX8_rank_2 (fun H locs hC => ?_)
    refine lv_astore_nN (lv' := [(3, .null), (0, .ref (q 0)), (1, .int a1), (2, .int a2)]) hx hb dX8_rank_5 rfl hl (by decide) rfl (fun ls hl => ?_)
    refine lv_aload_nN hx hb dX8_rank_6 rfl (lv_at hl 0 rfl) ?_
    refine lv_ifnullN (tgt := 21) hx hb dX8_rank_7 (by decide) ?_
    refine lv_bipush (v := (-2 : Int32)) hx hb dX8_rank_21 (by decide) ?_
    cases hm
    exact g_iret fx hr hC rfl dX8_rank_23
  · refine d_callVr (ci := 8) (As := [.int a1]) (rest := []) fx sx hC dw_w (D8c_family l τ a1 e_1) k_430 D8k_family D8h_family rfl rfl (O_at O8) ⟨rfl, rfl⟩ ⟨Nat.le_trans (Nat.le_of_ble_eq_true rfl) hR.1, Nat.le_trans (Nat.le_of_ble_eq_true rfl) hR.2⟩ hf rfl hl.1 rfl (Nat.le_of_ble_eq_true rfl) dX8_rank_2 (fun H locs hC => ?_)
    refine lv_astore_n (lv' := [(3, .ref (q (47 + r_2))), (0, .ref (q 0)), (1, .int a1), (2, .int a2)]) hx hb dX8_rank_5 rfl hl (by decide) rfl (fun ls hl => ?_)
    refine lv_aload_n hx hb dX8_rank_6 rfl (lv_at hl 0 rfl) ?_
    refine lv_ifnull hx hb dX8_rank_7 ?_
    refine lv_iload_n hx hb dX8_rank_10 rfl (lv_at hl 3 rfl) ?_
    refine lv_if_lt (tgt := 21) hx hb dX8_rank_11 (by decide) (fun c_4 => ?_) (fun c_4 => ?_)
    · replace hm := ifp hm c_4
      refine lv_bipush (v := (-2 : Int32)) hx hb dX8_rank_21 (by decide) ?_
      cases hm
      exact g_iret fx hr hC rfl dX8_rank_23
    · replace hm := ifn hm c_4
      refine lv_iload_n hx hb dX8_rank_14 rfl (lv_at hl 3 rfl) ?_
      refine lv_sipush (v := (4096 : Int32)) hx hb dX8_rank_15 (by decide) ?_
      refine lv_icmp_lt (tgt := 24) hx hb dX8_rank_18 (by decide) (fun c_5 => ?_) (fun c_5 => ?_)
      · replace hm := ifp hm c_5
        refine lv_aload_n hx hb dX8_rank_24 rfl (lv_at hl 0 rfl) ?_
        refine lv_iload_n hx hb dX8_rank_25 rfl (lv_at hl 3 rfl) ?_
        obtain ⟨r_7, e_6, hm⟩ := b1_in hm
        refine d_callSi (As := [.int a2]) (rest := [.ref (q (47 + r_2))]) fx sx hC dw_w (D8c_mirrored l τ a2 e_6) k_217 D8k_mirrored D8h_mirrored ⟨rfl, rfl⟩ ⟨Nat.le_trans (Nat.le_of_ble_eq_true rfl) hR.1, Nat.le_trans (Nat.le_of_ble_eq_true rfl) hR.2⟩ hf rfl hl.1 rfl (Nat.le_of_ble_eq_true rfl) dX8_rank_26 (fun H locs hC => ?_)
        obtain ⟨r_9, e_8, hm⟩ := b1_in hm
        refine d_callVi (ci := 7) (As := [.int r_7]) (rest := []) fx sx hC dw_w (D7c_sizeAhead l r_2 h_3 τ r_7 e_8) k_800 D7k_sizeAhead D7h_sizeAhead rfl rfl (O_at (K7 h_3)) ⟨rfl, rfl⟩ ⟨Nat.le_trans (Nat.le_of_ble_eq_true rfl) hR.1, Nat.le_trans (Nat.le_of_ble_eq_true rfl) hR.2⟩ hf rfl hl.1 rfl (Nat.le_of_ble_eq_true rfl) dX8_rank_29 (fun H locs hC => ?_)
        cases hm
        exact g_iret fx hr hC rfl dX8_rank_32
      · replace hm := ifn hm c_5
        refine lv_bipush (v := (-2 : Int32)) hx hb dX8_rank_21 (by decide) ?_
        cases hm
        exact g_iret fx hr hC rfl dX8_rank_23
def D8m_best (τ : DS) (a1 : Int32) (a2 : Int32) (a3 : Int32) : Option (Int32 × DS) :=
  bq (D8m_family τ a1) (some ((-2 : Int32), τ)) (fun r_2 => if a2 < (0 : Int32) then (some ((-2 : Int32), τ)) else (if a2 ≤ (1 : Int32) then (b1 (D5m_learnWeights τ) (fun τ_7 => b2 (D7m_list r_2 τ_7) (fun r_10 τ_9 => if a2 = (0 : Int32) then (b2 (D5m_nthBest τ_9 r_10 (1 : Int32) a3) (fun r_19 τ_18 => b1 (D8m_maskAt r_19) (fun r_21 => some (r_21, τ_18)))) else (b2 (D5m_nthBest τ_9 r_10 (0 : Int32) a3) (fun r_14 τ_13 => b1 (D8m_maskAt r_14) (fun r_16 => some (r_16, τ_13))))))) else (some ((-2 : Int32), τ))))
abbrev D8rm_best : Room := { frames := 3, cells := 0, slots := 0, locals := 74 }
set_option maxRecDepth 100000 in
set_option maxHeartbeats 4000000 in
theorem D8c_best (l : Launch) {D : va_G} {cy : Nat → ClassId} {ad : List Nat} {q : Nat → Nat} {X : va_W} (τ : DS) (a1 : Int32) (a2 : Int32) (a3 : Int32) {o : Int32 × DS} (hm : D8m_best τ a1 a2 a3 = some o) : DM l yX8_best cX8_best 5 (some .int) D8rm_best D cy (dwd cy q X) ad [.ref (q 0), .int a1, .int a2, .int a3] τ (some (.int (o.1))) o.2 := by
  refine d_start RX8 rfl (by decide) (Nat.le_of_ble_eq_true rfl) ?_
  intro p e s m args below meth c fx sx hr hC ls hl
  have hx := fx.1
  have hb := fx.2.1
  have hR : 3 ≤ (D8rm_best).frames ∧ 74 ≤ (D8rm_best).locals := ⟨Nat.le_refl _, Nat.le_refl _⟩
  have hf : 0 ≤ (D8rm_best).cells ∧ 0 ≤ (D8rm_best).slots := ⟨Nat.zero_le _, Nat.zero_le _⟩
  have hl : lv_has ls 5 [(0, .ref (q 0)), (1, .int a1), (2, .int a2), (3, .int a3)] := hl
  unfold D8m_best at hm
  refine lv_aload_n hx hb dX8_best_0 rfl (lv_at hl 0 rfl) ?_
  refine lv_iload_n hx hb dX8_best_1 rfl (lv_at hl 1 rfl) ?_
  rcases bq_in hm with ⟨e_1, hm⟩ | ⟨r_2, e_1, h_3, hm⟩
  · refine d_callVn (ci := 8) (As := [.int a1]) (rest := []) fx sx hC dw_w (D8c_family l τ a1 e_1) k_430 D8k_family D8h_family rfl rfl (O_at O8) ⟨rfl, rfl⟩ ⟨Nat.le_trans (Nat.le_of_ble_eq_true rfl) hR.1, Nat.le_trans (Nat.le_of_ble_eq_true rfl) hR.2⟩ hf rfl hl.1 rfl (Nat.le_of_ble_eq_true rfl) dX8_best_2 (fun H locs hC => ?_)
    refine lv_astoreN (lv' := [(4, .null), (0, .ref (q 0)), (1, .int a1), (2, .int a2), (3, .int a3)]) hx hb dX8_best_5 hl (by decide) rfl (fun ls hl => ?_)
    refine lv_aloadN hx hb dX8_best_7 (lv_at hl 0 rfl) ?_
    refine lv_ifnullN (tgt := 21) hx hb dX8_best_9 (by decide) ?_
    refine lv_bipush (v := (-2 : Int32)) hx hb dX8_best_21 (by decide) ?_
    cases hm
    exact g_iret fx hr hC rfl dX8_best_23
  · refine d_callVr (ci := 8) (As := [.int a1]) (rest := []) fx sx hC dw_w (D8c_family l τ a1 e_1) k_430 D8k_family D8h_family rfl rfl (O_at O8) ⟨rfl, rfl⟩ ⟨Nat.le_trans (Nat.le_of_ble_eq_true rfl) hR.1, Nat.le_trans (Nat.le_of_ble_eq_true rfl) hR.2⟩ hf rfl hl.1 rfl (Nat.le_of_ble_eq_true rfl) dX8_best_2 (fun H locs hC => ?_)
    refine lv_astore (lv' := [(4, .ref (q (47 + r_2))), (0, .ref (q 0)), (1, .int a1), (2, .int a2), (3, .int a3)]) hx hb dX8_best_5 hl (by decide) rfl (fun ls hl => ?_)
    refine lv_aload hx hb dX8_best_7 (lv_at hl 0 rfl) ?_
    refine lv_ifnull hx hb dX8_best_9 ?_
    refine lv_iload_n hx hb dX8_best_12 rfl (lv_at hl 3 rfl) ?_
    refine lv_if_lt (tgt := 21) hx hb dX8_best_13 (by decide) (fun c_4 => ?_) (fun c_4 => ?_)
    · replace hm := ifp hm c_4
      refine lv_bipush (v := (-2 : Int32)) hx hb dX8_best_21 (by decide) ?_
      cases hm
      exact g_iret fx hr hC rfl dX8_best_23
    · replace hm := ifn hm c_4
      refine lv_iload_n hx hb dX8_best_16 rfl (lv_at hl 3 rfl) ?_
      refine lv_iconst (v := (1 : Int32)) hx hb dX8_best_17 (by decide) ?_
      refine lv_icmp_le (tgt := 24) hx hb dX8_best_18 (by decide) (fun c_5 => ?_) (fun c_5 => ?_)
      · replace hm := ifp hm c_5
        refine lv_aload_n hx hb dX8_best_24 rfl (lv_at hl 1 rfl) ?_
        refine D8g_6 fx hC k_27 dX8_best_25 ?_
        refine lv_aload_n hx hb dX8_best_28 rfl (lv_at hl 1 rfl) ?_
        refine D8g_0 fx hC k_15 dX8_best_29 ?_
        obtain ⟨τ_7, e_6, hm⟩ := b1_in hm
        refine d_callVv (ci := 5) (As := [.ref (q 1)]) (rest := []) fx sx hC dw_w (D5c_learnWeights l τ e_6) k_628 D5k_learnWeights D5h_learnWeights rfl rfl (O_at O5) ⟨rfl, rfl⟩ ⟨Nat.le_trans (Nat.le_of_ble_eq_true rfl) hR.1, Nat.le_trans (Nat.le_of_ble_eq_true rfl) hR.2⟩ hf rfl hl.1 rfl (Nat.le_of_ble_eq_true rfl) dX8_best_32 (fun H locs hC => ?_)
        refine lv_aload_n hx hb dX8_best_35 rfl (lv_at hl 1 rfl) ?_
        refine D8g_6 fx hC k_27 dX8_best_36 ?_
        refine lv_aload_n hx hb dX8_best_39 rfl (lv_at hl 1 rfl) ?_
        refine D8g_5 fx hC k_23 dX8_best_40 ?_
        refine lv_aload hx hb dX8_best_43 (lv_at hl 0 rfl) ?_
        refine lv_aload_n hx hb dX8_best_45 rfl (lv_at hl 1 rfl) ?_
        refine D8g_5 fx hC k_23 dX8_best_46 ?_
        obtain ⟨r_10, τ_9, e_8, hm⟩ := b2_in hm
        refine d_callVi (ci := 7) (As := [.ref (q 8)]) (rest := [.ref (q 8), .ref (q 9)]) fx sx hC dw_w (D7c_list l r_2 h_3 τ_7 e_8) k_440 D7k_list D7h_list rfl rfl (O_at (K7 h_3)) ⟨rfl, rfl⟩ ⟨Nat.le_trans (Nat.le_of_ble_eq_true rfl) hR.1, Nat.le_trans (Nat.le_of_ble_eq_true rfl) hR.2⟩ hf rfl hl.1 rfl (Nat.le_of_ble_eq_true rfl) dX8_best_49 (fun H locs hC => ?_)
        refine lv_iload_n hx hb dX8_best_52 rfl (lv_at hl 3 rfl) ?_
        refine lv_if_ne (tgt := 60) hx hb dX8_best_53 (by decide) (fun c_11 => ?_) (fun c_11 => ?_)
        · replace hm := ifn hm c_11
          refine lv_iconst (v := (0 : Int32)) hx hb dX8_best_60 (by decide) ?_
          refine lv_iload_n hx hb dX8_best_61 rfl (lv_at hl 4 rfl) ?_
          obtain ⟨r_14, τ_13, e_12, hm⟩ := b2_in hm
          refine d_callVi (ci := 5) (As := [.ref (q 8), .int r_10, .int (0 : Int32), .int a3]) (rest := []) fx sx hC dw_w (D5c_nthBest l τ_9 r_10 (0 : Int32) a3 e_12) k_812 D5k_nthBest D5h_nthBest rfl rfl (O_at O5) ⟨rfl, rfl⟩ ⟨Nat.le_trans (Nat.le_of_ble_eq_true rfl) hR.1, Nat.le_trans (Nat.le_of_ble_eq_true rfl) hR.2⟩ hf rfl hl.1 rfl (Nat.le_of_ble_eq_true rfl) dX8_best_62 (fun H locs hC => ?_)
          obtain ⟨r_16, e_15, hm⟩ := b1_in hm
          refine d_callSi (As := [.int r_14]) (rest := []) fx sx hC dw_w (D8c_maskAt l τ_13 r_14 e_15) k_782 D8k_maskAt D8h_maskAt ⟨rfl, rfl⟩ ⟨Nat.le_trans (Nat.le_of_ble_eq_true rfl) hR.1, Nat.le_trans (Nat.le_of_ble_eq_true rfl) hR.2⟩ hf rfl hl.1 rfl (Nat.le_of_ble_eq_true rfl) dX8_best_65 (fun H locs hC => ?_)
          cases hm
          exact g_iret fx hr hC rfl dX8_best_68
        · replace hm := ifp hm c_11
          refine lv_iconst (v := (1 : Int32)) hx hb dX8_best_56 (by decide) ?_
          refine lv_goto (tgt := 61) hx hb dX8_best_57 (by decide) ?_
          refine lv_iload_n hx hb dX8_best_61 rfl (lv_at hl 4 rfl) ?_
          obtain ⟨r_19, τ_18, e_17, hm⟩ := b2_in hm
          refine d_callVi (ci := 5) (As := [.ref (q 8), .int r_10, .int (1 : Int32), .int a3]) (rest := []) fx sx hC dw_w (D5c_nthBest l τ_9 r_10 (1 : Int32) a3 e_17) k_812 D5k_nthBest D5h_nthBest rfl rfl (O_at O5) ⟨rfl, rfl⟩ ⟨Nat.le_trans (Nat.le_of_ble_eq_true rfl) hR.1, Nat.le_trans (Nat.le_of_ble_eq_true rfl) hR.2⟩ hf rfl hl.1 rfl (Nat.le_of_ble_eq_true rfl) dX8_best_62 (fun H locs hC => ?_)
          obtain ⟨r_21, e_20, hm⟩ := b1_in hm
          refine d_callSi (As := [.int r_19]) (rest := []) fx sx hC dw_w (D8c_maskAt l τ_18 r_19 e_20) k_782 D8k_maskAt D8h_maskAt ⟨rfl, rfl⟩ ⟨Nat.le_trans (Nat.le_of_ble_eq_true rfl) hR.1, Nat.le_trans (Nat.le_of_ble_eq_true rfl) hR.2⟩ hf rfl hl.1 rfl (Nat.le_of_ble_eq_true rfl) dX8_best_65 (fun H locs hC => ?_)
          cases hm
          exact g_iret fx hr hC rfl dX8_best_68
      · replace hm := ifn hm c_5
        refine lv_bipush (v := (-2 : Int32)) hx hb dX8_best_21 (by decide) ?_
        cases hm
        exact g_iret fx hr hC rfl dX8_best_23
def D8s_drawn_2 {ρ : Type} (p0 : Int32) (p1 : Int32) (kx21 : Int32 → Option ρ) (rc : Int32 → Option ρ) (v2 : Int32) : Option ρ :=
  if (12 : Int32) ≤ v2 then (kx21 v2) else (if p0 ≤ ((1 : Int32) <<< (v2 &&& 31)) then (kx21 v2) else (rc (v2 + (1 : Int32))))
def D8s_drawn_29 {ρ : Type} (p0 : Int32) (p2 : Int32) (kx69 : Int32 → Option ρ) (kx78 : Int32 → Option ρ) (rc : Int32 → Int32 → Int32 → Option ρ) (v3 : Int32) (v4 : Int32) (v5 : Int32) : Option ρ :=
  if (1000 : Int32) ≤ v5 then (kx78 v4) else (nm ((v3 * (1103515245 : Int32)) + (12345 : Int32)) (fun x_5 => if p2 = (0 : Int32) then (if p0 ≤ (0 : Int32) then (rc x_5 (0 : Int32) (v5 + (1 : Int32))) else (kx69 (0 : Int32))) else (nm (((x_5).toUInt32 >>> ((((32 : Int32) - p2)).toUInt32 &&& Int32.toUInt32 31)).toInt32) (fun x_7 => if p0 ≤ x_7 then (rc x_5 x_7 (v5 + (1 : Int32))) else (kx69 x_7)))))
def D8m_drawn (a1 : Int32) (a2 : Int32) : Option Int32 :=
  it1 (D8s_drawn_2 a1 a2 (fun u_3 => it3 (D8s_drawn_29 a1 u_3 (fun u_10 => some u_10) (fun u_11 => if a1 ≤ (0 : Int32) then (some (0 : Int32)) else (gz a1 (some (u_11 - u_11 / a1 * a1))))) fuel a2 (0 : Int32) (0 : Int32))) fuel (0 : Int32)
abbrev D8rm_drawn : Room := { frames := 0, cells := 0, slots := 0, locals := 0 }
set_option maxRecDepth 100000 in
set_option maxHeartbeats 4000000 in
theorem D8w_drawn_2 {ρ : Type} {out : ρ} {p : Program} {l : Launch} {e : Env} {R : Room} {s : State} {m : MethodId} {args : Array Value} {below : List Frame} {meth : Method} {c : Code} {cells slots : Nat} {Q : State → Prop} {D : va_G} {cy : Nat → ClassId} {ad : List Nat} {q : Nat → Nat} {X : va_W} (τ : DS) (fx : FX p s m args meth c cX8_drawn 6 RX8 D cy) (sx : SX ad s) (hR : 0 ≤ R.frames ∧ 0 ≤ R.locals) (hf : cells ≤ R.cells ∧ slots ≤ R.slots) (p0 : Int32) (p1 : Int32) {kx21 : Int32 → Option ρ} :
    ∀ (n : Nat) (v2 : Int32), it1 (D8s_drawn_2 p0 p1 kx21) n v2 = some out → ∀ (H : Heap) (locs : List Loc) (ls : Array Slot), GC D (dwd cy q X) ad s τ H locs → lv_has ls 6 [(0, .int p0), (1, .int p1), (2, .int v2)] → (∀ (u2 : Int32) (H : Heap) (locs : List Loc) (ls : Array Slot), kx21 u2 = some out → GC D (dwd cy q X) ad s τ H locs → lv_has ls 6 [(0, .int p0), (1, .int p1), (2, .int u2)] → W p l e R s m args below meth c H locs cells slots Q (F0 m 21 ls [])) → W p l e R s m args below meth c H locs cells slots Q (F0 m 2 ls []) := by
  have hx := fx.1
  have hb := fx.2.1
  intro n
  induction n with
  | zero => intro v2 hm; exact (it1_z hm).elim
  | succ n ih9 =>
    intro v2 hm H locs ls hC hl hx21
    obtain ⟨rc, hrc⟩ : ∃ z, z = it1 (D8s_drawn_2 p0 p1 kx21) n := ⟨_, rfl⟩
    replace hm : D8s_drawn_2 p0 p1 kx21 rc v2 = some out := by rw [hrc]; exact hm
    unfold D8s_drawn_2 at hm
    refine lv_iload_n hx hb dX8_drawn_2 rfl (lv_at hl 2 rfl) ?_
    refine lv_bipush (v := (12 : Int32)) hx hb dX8_drawn_3 (by decide) ?_
    refine lv_icmp_ge (tgt := 21) hx hb dX8_drawn_5 (by decide) (fun c_1 => ?_) (fun c_1 => ?_)
    · replace hm := ifp hm c_1
      exact hx21 _ _ _ _ hm hC (lv_sub hl [0, 1, 2] rfl)
    · replace hm := ifn hm c_1
      refine lv_iconst (v := (1 : Int32)) hx hb dX8_drawn_8 (by decide) ?_
      refine lv_iload_n hx hb dX8_drawn_9 rfl (lv_at hl 2 rfl) ?_
      refine lv_ishl hx hb dX8_drawn_10 ?_
      refine lv_iload_n hx hb dX8_drawn_11 rfl (lv_at hl 0 rfl) ?_
      refine lv_icmp_ge (tgt := 21) hx hb dX8_drawn_12 (by decide) (fun c_2 => ?_) (fun c_2 => ?_)
      · replace hm := ifp hm c_2
        exact hx21 _ _ _ _ hm hC (lv_sub hl [0, 1, 2] rfl)
      · replace hm := ifn hm c_2
        refine lv_iinc (v := (v2 + (1 : Int32))) (lv' := [(2, .int (v2 + (1 : Int32))), (0, .int p0), (1, .int p1)]) hx hb dX8_drawn_15 hl (k := 2) rfl rfl (by decide) rfl (fun ls hl => ?_)
        refine lv_goto (tgt := 2) hx hb dX8_drawn_18 (by decide) ?_
        rw [hrc] at hm
        exact ih9 _ hm _ _ _ hC (lv_sub hl [1, 2, 0] rfl) hx21
set_option maxRecDepth 100000 in
set_option maxHeartbeats 4000000 in
theorem D8w_drawn_29 {ρ : Type} {out : ρ} {p : Program} {l : Launch} {e : Env} {R : Room} {s : State} {m : MethodId} {args : Array Value} {below : List Frame} {meth : Method} {c : Code} {cells slots : Nat} {Q : State → Prop} {D : va_G} {cy : Nat → ClassId} {ad : List Nat} {q : Nat → Nat} {X : va_W} (τ : DS) (fx : FX p s m args meth c cX8_drawn 6 RX8 D cy) (sx : SX ad s) (hR : 0 ≤ R.frames ∧ 0 ≤ R.locals) (hf : cells ≤ R.cells ∧ slots ≤ R.slots) (p0 : Int32) (p2 : Int32) {kx69 : Int32 → Option ρ} {kx78 : Int32 → Option ρ} :
    ∀ (n : Nat) (v3 : Int32) (v4 : Int32) (v5 : Int32), it3 (D8s_drawn_29 p0 p2 kx69 kx78) n v3 v4 v5 = some out → ∀ (H : Heap) (locs : List Loc) (ls : Array Slot), GC D (dwd cy q X) ad s τ H locs → lv_has ls 6 [(0, .int p0), (2, .int p2), (3, .int v3), (4, .int v4), (5, .int v5)] → (∀ (u4 : Int32) (H : Heap) (locs : List Loc) (ls : Array Slot), kx69 u4 = some out → GC D (dwd cy q X) ad s τ H locs → lv_has ls 6 [(4, .int u4)] → W p l e R s m args below meth c H locs cells slots Q (F0 m 69 ls [])) → (∀ (u4 : Int32) (H : Heap) (locs : List Loc) (ls : Array Slot), kx78 u4 = some out → GC D (dwd cy q X) ad s τ H locs → lv_has ls 6 [(0, .int p0), (4, .int u4)] → W p l e R s m args below meth c H locs cells slots Q (F0 m 78 ls [])) → W p l e R s m args below meth c H locs cells slots Q (F0 m 29 ls []) := by
  have hx := fx.1
  have hb := fx.2.1
  intro n
  induction n with
  | zero => intro v3 v4 v5 hm; exact (it3_z hm).elim
  | succ n ih9 =>
    intro v3 v4 v5 hm H locs ls hC hl hx69 hx78
    obtain ⟨rc, hrc⟩ : ∃ z, z = it3 (D8s_drawn_29 p0 p2 kx69 kx78) n := ⟨_, rfl⟩
    replace hm : D8s_drawn_29 p0 p2 kx69 kx78 rc v3 v4 v5 = some out := by rw [hrc]; exact hm
    unfold D8s_drawn_29 at hm
    refine lv_iload hx hb dX8_drawn_29 (lv_at hl 4 rfl) ?_
    refine lv_sipush (v := (1000 : Int32)) hx hb dX8_drawn_31 (by decide) ?_
    refine lv_icmp_ge (tgt := 78) hx hb dX8_drawn_34 (by decide) (fun c_4 => ?_) (fun c_4 => ?_)
    · replace hm := ifp hm c_4
      exact hx78 _ _ _ _ hm hC (lv_sub hl [0, 3] rfl)
    · replace hm := ifn hm c_4
      refine lv_iload_n hx hb dX8_drawn_37 rfl (lv_at hl 2 rfl) ?_
      refine lv_ldcw hx hb fx.2.2.2.1 (fx.2.2.2.2.1 _ k_837) dX8_drawn_38 ?_
      refine lv_imul hx hb dX8_drawn_41 ?_
      refine lv_sipush (v := (12345 : Int32)) hx hb dX8_drawn_42 (by decide) ?_
      refine lv_iadd hx hb dX8_drawn_45 ?_
      refine lv_topi (fun x_5 ex_5 => ?_)
      replace hm := nm_in hm ex_5
      refine lv_istore_n (lv' := [(3, .int x_5), (0, .int p0), (2, .int p2), (4, .int v4), (5, .int v5)]) hx hb dX8_drawn_46 rfl hl (by decide) rfl (fun ls hl => ?_)
      refine lv_iload_n hx hb dX8_drawn_47 rfl (lv_at hl 2 rfl) ?_
      refine lv_if_ne (tgt := 55) hx hb dX8_drawn_48 (by decide) (fun c_6 => ?_) (fun c_6 => ?_)
      · replace hm := ifn hm c_6
        refine lv_iload_n hx hb dX8_drawn_55 rfl (lv_at hl 0 rfl) ?_
        refine lv_bipush (v := (32 : Int32)) hx hb dX8_drawn_56 (by decide) ?_
        refine lv_iload_n hx hb dX8_drawn_58 rfl (lv_at hl 2 rfl) ?_
        refine lv_isub hx hb dX8_drawn_59 ?_
        refine lv_iushr hx hb dX8_drawn_60 rfl ?_
        refine lv_topi (fun x_7 ex_7 => ?_)
        replace hm := nm_in hm ex_7
        refine lv_istore (lv' := [(4, .int x_7), (3, .int x_5), (0, .int p0), (2, .int p2), (5, .int v5)]) hx hb dX8_drawn_61 hl (by decide) rfl (fun ls hl => ?_)
        refine lv_iload hx hb dX8_drawn_63 (lv_at hl 0 rfl) ?_
        refine lv_iload_n hx hb dX8_drawn_65 rfl (lv_at hl 2 rfl) ?_
        refine lv_icmp_ge (tgt := 72) hx hb dX8_drawn_66 (by decide) (fun c_8 => ?_) (fun c_8 => ?_)
        · replace hm := ifp hm c_8
          refine lv_iinc (v := (v5 + (1 : Int32))) (lv' := [(5, .int (v5 + (1 : Int32))), (4, .int x_7), (3, .int x_5), (0, .int p0), (2, .int p2)]) hx hb dX8_drawn_72 hl (k := 4) rfl rfl (by decide) rfl (fun ls hl => ?_)
          refine lv_goto (tgt := 29) hx hb dX8_drawn_75 (by decide) ?_
          rw [hrc] at hm
          exact ih9 _ _ _ hm _ _ _ hC (lv_sub hl [3, 4, 2, 1, 0] rfl) hx69 hx78
        · replace hm := ifn hm c_8
          exact hx69 _ _ _ _ hm hC (lv_sub hl [0] rfl)
      · replace hm := ifp hm c_6
        refine lv_iconst (v := (0 : Int32)) hx hb dX8_drawn_51 (by decide) ?_
        refine lv_goto (tgt := 61) hx hb dX8_drawn_52 (by decide) ?_
        refine lv_istore (lv' := [(4, .int (0 : Int32)), (3, .int x_5), (0, .int p0), (2, .int p2), (5, .int v5)]) hx hb dX8_drawn_61 hl (by decide) rfl (fun ls hl => ?_)
        refine lv_iload hx hb dX8_drawn_63 (lv_at hl 0 rfl) ?_
        refine lv_iload_n hx hb dX8_drawn_65 rfl (lv_at hl 2 rfl) ?_
        refine lv_icmp_ge (tgt := 72) hx hb dX8_drawn_66 (by decide) (fun c_9 => ?_) (fun c_9 => ?_)
        · replace hm := ifp hm c_9
          refine lv_iinc (v := (v5 + (1 : Int32))) (lv' := [(5, .int (v5 + (1 : Int32))), (4, .int (0 : Int32)), (3, .int x_5), (0, .int p0), (2, .int p2)]) hx hb dX8_drawn_72 hl (k := 4) rfl rfl (by decide) rfl (fun ls hl => ?_)
          refine lv_goto (tgt := 29) hx hb dX8_drawn_75 (by decide) ?_
          rw [hrc] at hm
          exact ih9 _ _ _ hm _ _ _ hC (lv_sub hl [3, 4, 2, 1, 0] rfl) hx69 hx78
        · replace hm := ifn hm c_9
          exact hx69 _ _ _ _ hm hC (lv_sub hl [0] rfl)
set_option maxRecDepth 100000 in
set_option maxHeartbeats 4000000 in
theorem D8c_drawn (l : Launch) {D : va_G} {cy : Nat → ClassId} {ad : List Nat} {q : Nat → Nat} {X : va_W} (τ : DS) (a1 : Int32) (a2 : Int32) {o : Int32} (hm : D8m_drawn a1 a2 = some o) : DM l yX8_drawn cX8_drawn 6 (some .int) D8rm_drawn D cy (dwd cy q X) ad [.int a1, .int a2] τ (some (.int (o))) τ := by
  refine d_start RX8 rfl (by decide) (Nat.le_of_ble_eq_true rfl) ?_
  intro p e s m args below meth c fx sx hr hC ls hl
  have hx := fx.1
  have hb := fx.2.1
  have hR : 0 ≤ (D8rm_drawn).frames ∧ 0 ≤ (D8rm_drawn).locals := ⟨Nat.le_refl _, Nat.le_refl _⟩
  have hf : 0 ≤ (D8rm_drawn).cells ∧ 0 ≤ (D8rm_drawn).slots := ⟨Nat.zero_le _, Nat.zero_le _⟩
  have hl : lv_has ls 6 [(0, .int a1), (1, .int a2)] := hl
  unfold D8m_drawn at hm
  refine lv_iconst (v := (0 : Int32)) hx hb dX8_drawn_0 (by decide) ?_
  refine lv_istore_n (lv' := [(2, .int (0 : Int32)), (0, .int a1), (1, .int a2)]) hx hb dX8_drawn_1 rfl hl (by decide) rfl (fun ls hl => ?_)
  refine D8w_drawn_2 τ fx sx hR hf a1 a2 fuel (0 : Int32) hm _ _ _ hC (lv_sub hl [1, 2, 0] rfl) (fun u_3 H locs ls hm hC hl => ?_)
  refine lv_iload_n hx hb dX8_drawn_21 rfl (lv_at hl 1 rfl) ?_
  refine lv_istore_n (lv' := [(3, .int a2), (0, .int a1), (1, .int a2), (2, .int u_3)]) hx hb dX8_drawn_22 rfl hl (by decide) rfl (fun ls hl => ?_)
  refine lv_iconst (v := (0 : Int32)) hx hb dX8_drawn_23 (by decide) ?_
  refine lv_istore (lv' := [(4, .int (0 : Int32)), (3, .int a2), (0, .int a1), (1, .int a2), (2, .int u_3)]) hx hb dX8_drawn_24 hl (by decide) rfl (fun ls hl => ?_)
  refine lv_iconst (v := (0 : Int32)) hx hb dX8_drawn_26 (by decide) ?_
  refine lv_istore (lv' := [(5, .int (0 : Int32)), (4, .int (0 : Int32)), (3, .int a2), (0, .int a1), (1, .int a2), (2, .int u_3)]) hx hb dX8_drawn_27 hl (by decide) rfl (fun ls hl => ?_)
  refine D8w_drawn_29 τ fx sx hR hf a1 u_3 fuel a2 (0 : Int32) (0 : Int32) hm _ _ _ hC (lv_sub hl [3, 5, 2, 1, 0] rfl) (fun u_10 H locs ls hm hC hl => ?_) (fun u_11 H locs ls hm hC hl => ?_)
  · refine lv_iload hx hb dX8_drawn_69 (lv_at hl 0 rfl) ?_
    cases hm
    exact g_iret fx hr hC rfl dX8_drawn_71
  · refine lv_iload_n hx hb dX8_drawn_78 rfl (lv_at hl 0 rfl) ?_
    refine lv_if_le (tgt := 89) hx hb dX8_drawn_79 (by decide) (fun c_12 => ?_) (fun c_12 => ?_)
    · replace hm := ifp hm c_12
      refine lv_iconst (v := (0 : Int32)) hx hb dX8_drawn_89 (by decide) ?_
      cases hm
      exact g_iret fx hr hC rfl dX8_drawn_90
    · replace hm := ifn hm c_12
      refine lv_iload hx hb dX8_drawn_82 (lv_at hl 1 rfl) ?_
      refine lv_iload_n hx hb dX8_drawn_84 rfl (lv_at hl 0 rfl) ?_
      have h_13 := (gz_in hm).1
      replace hm := (gz_in hm).2
      refine lv_irem hx hb dX8_drawn_85 h_13 ?_
      refine lv_goto (tgt := 90) hx hb dX8_drawn_86 (by decide) ?_
      cases hm
      exact g_iret fx hr hC rfl dX8_drawn_90
def D8m_draw (τ : DS) (a1 : Int32) (a2 : Int32) : Option Int32 :=
  bq (D8m_family τ a1) (some (-2 : Int32)) (fun r_2 => b1 (D7m_size r_2 τ) (fun r_5 => if r_5 = (0 : Int32) then (some (-1 : Int32)) else (b1 (D8m_drawn r_5 a2) (fun r_8 => b1 (D7m_nth r_2 τ r_8) (fun r_10 => b1 (D8m_maskAt r_10) (fun r_12 => some r_12))))))
abbrev D8rm_draw : Room := { frames := 2, cells := 0, slots := 0, locals := 48 }
set_option maxRecDepth 100000 in
set_option maxHeartbeats 4000000 in
theorem D8c_draw (l : Launch) {D : va_G} {cy : Nat → ClassId} {ad : List Nat} {q : Nat → Nat} {X : va_W} (τ : DS) (a1 : Int32) (a2 : Int32) {o : Int32} (hm : D8m_draw τ a1 a2 = some o) : DM l yX8_draw cX8_draw 5 (some .int) D8rm_draw D cy (dwd cy q X) ad [.ref (q 0), .int a1, .int a2] τ (some (.int (o))) τ := by
  refine d_start RX8 rfl (by decide) (Nat.le_of_ble_eq_true rfl) ?_
  intro p e s m args below meth c fx sx hr hC ls hl
  have hx := fx.1
  have hb := fx.2.1
  have hR : 2 ≤ (D8rm_draw).frames ∧ 48 ≤ (D8rm_draw).locals := ⟨Nat.le_refl _, Nat.le_refl _⟩
  have hf : 0 ≤ (D8rm_draw).cells ∧ 0 ≤ (D8rm_draw).slots := ⟨Nat.zero_le _, Nat.zero_le _⟩
  have hl : lv_has ls 5 [(0, .ref (q 0)), (1, .int a1), (2, .int a2)] := hl
  unfold D8m_draw at hm
  refine lv_aload_n hx hb dX8_draw_0 rfl (lv_at hl 0 rfl) ?_
  refine lv_iload_n hx hb dX8_draw_1 rfl (lv_at hl 1 rfl) ?_
  rcases bq_in hm with ⟨e_1, hm⟩ | ⟨r_2, e_1, h_3, hm⟩
  · refine d_callVn (ci := 8) (As := [.int a1]) (rest := []) fx sx hC dw_w (D8c_family l τ a1 e_1) k_430 D8k_family D8h_family rfl rfl (O_at O8) ⟨rfl, rfl⟩ ⟨Nat.le_trans (Nat.le_of_ble_eq_true rfl) hR.1, Nat.le_trans (Nat.le_of_ble_eq_true rfl) hR.2⟩ hf rfl hl.1 rfl (Nat.le_of_ble_eq_true rfl) dX8_draw_2 (fun H locs hC => ?_)
    refine lv_astore_nN (lv' := [(3, .null), (0, .ref (q 0)), (1, .int a1), (2, .int a2)]) hx hb dX8_draw_5 rfl hl (by decide) rfl (fun ls hl => ?_)
    refine lv_aload_nN hx hb dX8_draw_6 rfl (lv_at hl 0 rfl) ?_
    refine lv_ifnonnullN hx hb dX8_draw_7 ?_
    refine lv_bipush (v := (-2 : Int32)) hx hb dX8_draw_10 (by decide) ?_
    cases hm
    exact g_iret fx hr hC rfl dX8_draw_12
  · refine d_callVr (ci := 8) (As := [.int a1]) (rest := []) fx sx hC dw_w (D8c_family l τ a1 e_1) k_430 D8k_family D8h_family rfl rfl (O_at O8) ⟨rfl, rfl⟩ ⟨Nat.le_trans (Nat.le_of_ble_eq_true rfl) hR.1, Nat.le_trans (Nat.le_of_ble_eq_true rfl) hR.2⟩ hf rfl hl.1 rfl (Nat.le_of_ble_eq_true rfl) dX8_draw_2 (fun H locs hC => ?_)
    refine lv_astore_n (lv' := [(3, .ref (q (47 + r_2))), (0, .ref (q 0)), (1, .int a1), (2, .int a2)]) hx hb dX8_draw_5 rfl hl (by decide) rfl (fun ls hl => ?_)
    refine lv_aload_n hx hb dX8_draw_6 rfl (lv_at hl 0 rfl) ?_
    refine lv_ifnonnull (tgt := 13) hx hb dX8_draw_7 (by decide) ?_
    refine lv_aload_n hx hb dX8_draw_13 rfl (lv_at hl 0 rfl) ?_
    obtain ⟨r_5, e_4, hm⟩ := b1_in hm
    refine d_callVi (ci := 7) (As := []) (rest := []) fx sx hC dw_w (D7c_size l r_2 h_3 τ e_4) k_461 D7k_size D7h_size rfl rfl (O_at (K7 h_3)) ⟨rfl, rfl⟩ ⟨Nat.le_trans (Nat.le_of_ble_eq_true rfl) hR.1, Nat.le_trans (Nat.le_of_ble_eq_true rfl) hR.2⟩ hf rfl hl.1 rfl (Nat.le_of_ble_eq_true rfl) dX8_draw_14 (fun H locs hC => ?_)
    refine lv_istore (lv' := [(4, .int r_5), (3, .ref (q (47 + r_2))), (0, .ref (q 0)), (1, .int a1), (2, .int a2)]) hx hb dX8_draw_17 hl (by decide) rfl (fun ls hl => ?_)
    refine lv_iload hx hb dX8_draw_19 (lv_at hl 0 rfl) ?_
    refine lv_if_ne (tgt := 28) hx hb dX8_draw_21 (by decide) (fun c_6 => ?_) (fun c_6 => ?_)
    · replace hm := ifn hm c_6
      refine lv_aload_n hx hb dX8_draw_28 rfl (lv_at hl 1 rfl) ?_
      refine lv_iload hx hb dX8_draw_29 (lv_at hl 0 rfl) ?_
      refine lv_iload_n hx hb dX8_draw_31 rfl (lv_at hl 4 rfl) ?_
      obtain ⟨r_8, e_7, hm⟩ := b1_in hm
      refine d_callSi (As := [.int r_5, .int a2]) (rest := [.ref (q (47 + r_2))]) fx sx hC dw_w (D8c_drawn l τ r_5 a2 e_7) k_834 D8k_drawn D8h_drawn ⟨rfl, rfl⟩ ⟨Nat.le_trans (Nat.le_of_ble_eq_true rfl) hR.1, Nat.le_trans (Nat.le_of_ble_eq_true rfl) hR.2⟩ hf rfl hl.1 rfl (Nat.le_of_ble_eq_true rfl) dX8_draw_32 (fun H locs hC => ?_)
      obtain ⟨r_10, e_9, hm⟩ := b1_in hm
      refine d_callVi (ci := 7) (As := [.int r_8]) (rest := []) fx sx hC dw_w (D7c_nth l r_2 h_3 τ r_8 e_9) k_775 D7k_nth D7h_nth rfl rfl (O_at (K7 h_3)) ⟨rfl, rfl⟩ ⟨Nat.le_trans (Nat.le_of_ble_eq_true rfl) hR.1, Nat.le_trans (Nat.le_of_ble_eq_true rfl) hR.2⟩ hf rfl hl.1 rfl (Nat.le_of_ble_eq_true rfl) dX8_draw_35 (fun H locs hC => ?_)
      obtain ⟨r_12, e_11, hm⟩ := b1_in hm
      refine d_callSi (As := [.int r_10]) (rest := []) fx sx hC dw_w (D8c_maskAt l τ r_10 e_11) k_782 D8k_maskAt D8h_maskAt ⟨rfl, rfl⟩ ⟨Nat.le_trans (Nat.le_of_ble_eq_true rfl) hR.1, Nat.le_trans (Nat.le_of_ble_eq_true rfl) hR.2⟩ hf rfl hl.1 rfl (Nat.le_of_ble_eq_true rfl) dX8_draw_38 (fun H locs hC => ?_)
      cases hm
      exact g_iret fx hr hC rfl dX8_draw_41
    · replace hm := ifp hm c_6
      refine lv_iconst (v := (-1 : Int32)) hx hb dX8_draw_24 (by decide) ?_
      refine lv_goto (tgt := 41) hx hb dX8_draw_25 (by decide) ?_
      cases hm
      exact g_iret fx hr hC rfl dX8_draw_41
def D8m_same (τ : DS) (a1 : Int32) (a2 : Int32) : Option Int32 :=
  bq (D8m_family τ a1) (bq (D8m_family τ a2) (some (-2 : Int32)) (fun r_5 => some (-2 : Int32))) (fun r_2 => bq (D8m_family τ a2) (some (-2 : Int32)) (fun r_8 => b1 (D7m_isLike r_2 τ r_8) (fun r_11 => if r_11 = (0 : Int32) then (some (0 : Int32)) else (some (1 : Int32)))))
abbrev D8rm_same : Room := { frames := 1, cells := 0, slots := 0, locals := 22 }
set_option maxRecDepth 100000 in
set_option maxHeartbeats 4000000 in
theorem D8c_same (l : Launch) {D : va_G} {cy : Nat → ClassId} {ad : List Nat} {q : Nat → Nat} {X : va_W} (τ : DS) (a1 : Int32) (a2 : Int32) {o : Int32} (hm : D8m_same τ a1 a2 = some o) : DM l yX8_same cX8_same 5 (some .int) D8rm_same D cy (dwd cy q X) ad [.ref (q 0), .int a1, .int a2] τ (some (.int (o))) τ := by
  refine d_start RX8 rfl (by decide) (Nat.le_of_ble_eq_true rfl) ?_
  intro p e s m args below meth c fx sx hr hC ls hl
  have hx := fx.1
  have hb := fx.2.1
  have hR : 1 ≤ (D8rm_same).frames ∧ 22 ≤ (D8rm_same).locals := ⟨Nat.le_refl _, Nat.le_refl _⟩
  have hf : 0 ≤ (D8rm_same).cells ∧ 0 ≤ (D8rm_same).slots := ⟨Nat.zero_le _, Nat.zero_le _⟩
  have hl : lv_has ls 5 [(0, .ref (q 0)), (1, .int a1), (2, .int a2)] := hl
  unfold D8m_same at hm
  refine lv_aload_n hx hb dX8_same_0 rfl (lv_at hl 0 rfl) ?_
  refine lv_iload_n hx hb dX8_same_1 rfl (lv_at hl 1 rfl) ?_
  rcases bq_in hm with ⟨e_1, hm⟩ | ⟨r_2, e_1, h_3, hm⟩
  · refine d_callVn (ci := 8) (As := [.int a1]) (rest := []) fx sx hC dw_w (D8c_family l τ a1 e_1) k_430 D8k_family D8h_family rfl rfl (O_at O8) ⟨rfl, rfl⟩ ⟨Nat.le_trans (Nat.le_of_ble_eq_true rfl) hR.1, Nat.le_trans (Nat.le_of_ble_eq_true rfl) hR.2⟩ hf rfl hl.1 rfl (Nat.le_of_ble_eq_true rfl) dX8_same_2 (fun H locs hC => ?_)
    refine lv_astore_nN (lv' := [(3, .null), (0, .ref (q 0)), (1, .int a1), (2, .int a2)]) hx hb dX8_same_5 rfl hl (by decide) rfl (fun ls hl => ?_)
    refine lv_aload_n hx hb dX8_same_6 rfl (lv_at hl 1 rfl) ?_
    refine lv_iload_n hx hb dX8_same_7 rfl (lv_at hl 3 rfl) ?_
    rcases bq_in hm with ⟨e_4, hm⟩ | ⟨r_5, e_4, h_6, hm⟩
    · refine d_callVn (ci := 8) (As := [.int a2]) (rest := []) fx sx hC dw_w (D8c_family l τ a2 e_4) k_430 D8k_family D8h_family rfl rfl (O_at O8) ⟨rfl, rfl⟩ ⟨Nat.le_trans (Nat.le_of_ble_eq_true rfl) hR.1, Nat.le_trans (Nat.le_of_ble_eq_true rfl) hR.2⟩ hf rfl hl.1 rfl (Nat.le_of_ble_eq_true rfl) dX8_same_8 (fun H locs hC => ?_)
      refine lv_astoreN (lv' := [(4, .null), (3, .null), (0, .ref (q 0)), (1, .int a1), (2, .int a2)]) hx hb dX8_same_11 hl (by decide) rfl (fun ls hl => ?_)
      refine lv_aload_nN hx hb dX8_same_13 rfl (lv_at hl 1 rfl) ?_
      refine lv_ifnullN (tgt := 22) hx hb dX8_same_14 (by decide) ?_
      refine lv_bipush (v := (-2 : Int32)) hx hb dX8_same_22 (by decide) ?_
      cases hm
      exact g_iret fx hr hC rfl dX8_same_24
    · refine d_callVr (ci := 8) (As := [.int a2]) (rest := []) fx sx hC dw_w (D8c_family l τ a2 e_4) k_430 D8k_family D8h_family rfl rfl (O_at O8) ⟨rfl, rfl⟩ ⟨Nat.le_trans (Nat.le_of_ble_eq_true rfl) hR.1, Nat.le_trans (Nat.le_of_ble_eq_true rfl) hR.2⟩ hf rfl hl.1 rfl (Nat.le_of_ble_eq_true rfl) dX8_same_8 (fun H locs hC => ?_)
      refine lv_astore (lv' := [(4, .ref (q (47 + r_5))), (3, .null), (0, .ref (q 0)), (1, .int a1), (2, .int a2)]) hx hb dX8_same_11 hl (by decide) rfl (fun ls hl => ?_)
      refine lv_aload_nN hx hb dX8_same_13 rfl (lv_at hl 1 rfl) ?_
      refine lv_ifnullN (tgt := 22) hx hb dX8_same_14 (by decide) ?_
      refine lv_bipush (v := (-2 : Int32)) hx hb dX8_same_22 (by decide) ?_
      cases hm
      exact g_iret fx hr hC rfl dX8_same_24
  · refine d_callVr (ci := 8) (As := [.int a1]) (rest := []) fx sx hC dw_w (D8c_family l τ a1 e_1) k_430 D8k_family D8h_family rfl rfl (O_at O8) ⟨rfl, rfl⟩ ⟨Nat.le_trans (Nat.le_of_ble_eq_true rfl) hR.1, Nat.le_trans (Nat.le_of_ble_eq_true rfl) hR.2⟩ hf rfl hl.1 rfl (Nat.le_of_ble_eq_true rfl) dX8_same_2 (fun H locs hC => ?_)
    refine lv_astore_n (lv' := [(3, .ref (q (47 + r_2))), (0, .ref (q 0)), (1, .int a1), (2, .int a2)]) hx hb dX8_same_5 rfl hl (by decide) rfl (fun ls hl => ?_)
    refine lv_aload_n hx hb dX8_same_6 rfl (lv_at hl 1 rfl) ?_
    refine lv_iload_n hx hb dX8_same_7 rfl (lv_at hl 3 rfl) ?_
    rcases bq_in hm with ⟨e_7, hm⟩ | ⟨r_8, e_7, h_9, hm⟩
    · refine d_callVn (ci := 8) (As := [.int a2]) (rest := []) fx sx hC dw_w (D8c_family l τ a2 e_7) k_430 D8k_family D8h_family rfl rfl (O_at O8) ⟨rfl, rfl⟩ ⟨Nat.le_trans (Nat.le_of_ble_eq_true rfl) hR.1, Nat.le_trans (Nat.le_of_ble_eq_true rfl) hR.2⟩ hf rfl hl.1 rfl (Nat.le_of_ble_eq_true rfl) dX8_same_8 (fun H locs hC => ?_)
      refine lv_astoreN (lv' := [(4, .null), (3, .ref (q (47 + r_2))), (0, .ref (q 0)), (1, .int a1), (2, .int a2)]) hx hb dX8_same_11 hl (by decide) rfl (fun ls hl => ?_)
      refine lv_aload_n hx hb dX8_same_13 rfl (lv_at hl 1 rfl) ?_
      refine lv_ifnull hx hb dX8_same_14 ?_
      refine lv_aloadN hx hb dX8_same_17 (lv_at hl 0 rfl) ?_
      refine lv_ifnonnullN hx hb dX8_same_19 ?_
      refine lv_bipush (v := (-2 : Int32)) hx hb dX8_same_22 (by decide) ?_
      cases hm
      exact g_iret fx hr hC rfl dX8_same_24
    · refine d_callVr (ci := 8) (As := [.int a2]) (rest := []) fx sx hC dw_w (D8c_family l τ a2 e_7) k_430 D8k_family D8h_family rfl rfl (O_at O8) ⟨rfl, rfl⟩ ⟨Nat.le_trans (Nat.le_of_ble_eq_true rfl) hR.1, Nat.le_trans (Nat.le_of_ble_eq_true rfl) hR.2⟩ hf rfl hl.1 rfl (Nat.le_of_ble_eq_true rfl) dX8_same_8 (fun H locs hC => ?_)
      refine lv_astore (lv' := [(4, .ref (q (47 + r_8))), (3, .ref (q (47 + r_2))), (0, .ref (q 0)), (1, .int a1), (2, .int a2)]) hx hb dX8_same_11 hl (by decide) rfl (fun ls hl => ?_)
      refine lv_aload_n hx hb dX8_same_13 rfl (lv_at hl 1 rfl) ?_
      refine lv_ifnull hx hb dX8_same_14 ?_
      refine lv_aload hx hb dX8_same_17 (lv_at hl 0 rfl) ?_
      refine lv_ifnonnull (tgt := 25) hx hb dX8_same_19 (by decide) ?_
      refine lv_aload_n hx hb dX8_same_25 rfl (lv_at hl 1 rfl) ?_
      refine lv_aload hx hb dX8_same_26 (lv_at hl 0 rfl) ?_
      obtain ⟨r_11, e_10, hm⟩ := b1_in hm
      refine d_callVi (ci := 7) (As := [.ref (q (47 + r_8))]) (rest := []) fx sx hC dw_w (D7c_isLike l r_2 h_3 τ r_8 h_9 e_10) k_847 D7k_isLike D7h_isLike rfl rfl (O_at (K7 h_3)) ⟨rfl, rfl⟩ ⟨Nat.le_trans (Nat.le_of_ble_eq_true rfl) hR.1, Nat.le_trans (Nat.le_of_ble_eq_true rfl) hR.2⟩ hf rfl hl.1 rfl (Nat.le_of_ble_eq_true rfl) dX8_same_28 (fun H locs hC => ?_)
      refine lv_if_eq (tgt := 38) hx hb dX8_same_31 (by decide) (fun c_12 => ?_) (fun c_12 => ?_)
      · replace hm := ifp hm c_12
        refine lv_iconst (v := (0 : Int32)) hx hb dX8_same_38 (by decide) ?_
        cases hm
        exact g_iret fx hr hC rfl dX8_same_39
      · replace hm := ifn hm c_12
        refine lv_iconst (v := (1 : Int32)) hx hb dX8_same_34 (by decide) ?_
        refine lv_goto (tgt := 39) hx hb dX8_same_35 (by decide) ?_
        cases hm
        exact g_iret fx hr hC rfl dX8_same_39
def D8m_chanceIf (τ : DS) (a1 : Nat) (a2 : Int32) (a3 : Int32) : Option (Int64 × DS) :=
  b1 (D7m_copy 30 τ a1) (fun τ_2 => b1 (D7m_spreadUp 30 τ_2) (fun τ_4 => b2 (D6m_chanceOf τ_4 30 a2 a3) (fun r_7 τ_6 => some (r_7, τ_6))))
abbrev D8rm_chanceIf : Room := { frames := 3, cells := 0, slots := 0, locals := 71 }
set_option maxRecDepth 100000 in
set_option maxHeartbeats 4000000 in
theorem D8c_chanceIf (l : Launch) {D : va_G} {cy : Nat → ClassId} {ad : List Nat} {q : Nat → Nat} {X : va_W} (τ : DS) (a1 : Nat) (ha1 : a1 < 32) (a2 : Int32) (a3 : Int32) {o : Int64 × DS} (hm : D8m_chanceIf τ a1 a2 a3 = some o) : DM l yX8_chanceIf cX8_chanceIf 4 (some .long) D8rm_chanceIf D cy (dwd cy q X) ad [.ref (q 0), .ref (q (47 + a1)), .int a2, .int a3] τ (some (.long (o.1))) o.2 := by
  refine d_start RX8 rfl (by decide) (Nat.le_of_ble_eq_true rfl) ?_
  intro p e s m args below meth c fx sx hr hC ls hl
  have hx := fx.1
  have hb := fx.2.1
  have hR : 3 ≤ (D8rm_chanceIf).frames ∧ 71 ≤ (D8rm_chanceIf).locals := ⟨Nat.le_refl _, Nat.le_refl _⟩
  have hf : 0 ≤ (D8rm_chanceIf).cells ∧ 0 ≤ (D8rm_chanceIf).slots := ⟨Nat.zero_le _, Nat.zero_le _⟩
  have hl : lv_has ls 4 [(0, .ref (q 0)), (1, .ref (q (47 + a1))), (2, .int a2), (3, .int a3)] := hl
  unfold D8m_chanceIf at hm
  refine lv_aload_n hx hb dX8_chanceIf_0 rfl (lv_at hl 0 rfl) ?_
  refine D8g_3 fx hC k_20 dX8_chanceIf_1 ?_
  refine lv_aload_n hx hb dX8_chanceIf_4 rfl (lv_at hl 1 rfl) ?_
  obtain ⟨τ_2, e_1, hm⟩ := b1_in hm
  refine d_callVv (ci := 7) (As := [.ref (q (47 + a1))]) (rest := []) fx sx hC dw_w (D7c_copy l 30 (by decide) τ a1 ha1 e_1) k_528 D7k_copy D7h_copy rfl rfl (O_at (K7 (by decide))) ⟨rfl, rfl⟩ ⟨Nat.le_trans (Nat.le_of_ble_eq_true rfl) hR.1, Nat.le_trans (Nat.le_of_ble_eq_true rfl) hR.2⟩ hf rfl hl.1 rfl (Nat.le_of_ble_eq_true rfl) dX8_chanceIf_5 (fun H locs hC => ?_)
  refine lv_aload_n hx hb dX8_chanceIf_8 rfl (lv_at hl 0 rfl) ?_
  refine D8g_3 fx hC k_20 dX8_chanceIf_9 ?_
  obtain ⟨τ_4, e_3, hm⟩ := b1_in hm
  refine d_callVv (ci := 7) (As := []) (rest := []) fx sx hC dw_w (D7c_spreadUp l 30 (by decide) τ_2 e_3) k_536 D7k_spreadUp D7h_spreadUp rfl rfl (O_at (K7 (by decide))) ⟨rfl, rfl⟩ ⟨Nat.le_trans (Nat.le_of_ble_eq_true rfl) hR.1, Nat.le_trans (Nat.le_of_ble_eq_true rfl) hR.2⟩ hf rfl hl.1 rfl (Nat.le_of_ble_eq_true rfl) dX8_chanceIf_12 (fun H locs hC => ?_)
  refine lv_aload_n hx hb dX8_chanceIf_15 rfl (lv_at hl 0 rfl) ?_
  refine D8g_7 fx hC k_31 dX8_chanceIf_16 ?_
  refine lv_aload_n hx hb dX8_chanceIf_19 rfl (lv_at hl 0 rfl) ?_
  refine D8g_3 fx hC k_20 dX8_chanceIf_20 ?_
  refine lv_aload_n hx hb dX8_chanceIf_23 rfl (lv_at hl 0 rfl) ?_
  refine D8g_0 fx hC k_15 dX8_chanceIf_24 ?_
  refine lv_iload_n hx hb dX8_chanceIf_27 rfl (lv_at hl 2 rfl) ?_
  refine lv_iload_n hx hb dX8_chanceIf_28 rfl (lv_at hl 3 rfl) ?_
  obtain ⟨r_7, τ_6, e_5, hm⟩ := b2_in hm
  refine d_callVl (ci := 6) (As := [.ref (q (47 + 30)), .ref (q 1), .int a2, .int a3]) (rest := []) fx sx hC dw_w (D6c_chanceOf l τ_4 30 (by decide) a2 a3 e_5) k_864 D6k_chanceOf D6h_chanceOf rfl rfl (O_at O6) ⟨rfl, rfl⟩ ⟨Nat.le_trans (Nat.le_of_ble_eq_true rfl) hR.1, Nat.le_trans (Nat.le_of_ble_eq_true rfl) hR.2⟩ hf rfl hl.1 rfl (Nat.le_of_ble_eq_true rfl) dX8_chanceIf_29 (fun H locs hC => ?_)
  cases hm
  exact g_lret fx hr hC rfl dX8_chanceIf_32
def D8m_chance (τ : DS) (a1 : Int32) : Option (Int64 × DS) :=
  bq (D8m_family τ a1) (some ((-1 : Int64), τ)) (fun r_2 => b2 (D8m_chanceIf τ r_2 (-1 : Int32) (0 : Int32)) (fun r_6 τ_5 => some (r_6, τ_5)))
abbrev D8rm_chance : Room := { frames := 4, cells := 0, slots := 0, locals := 94 }
set_option maxRecDepth 100000 in
set_option maxHeartbeats 4000000 in
theorem D8c_chance (l : Launch) {D : va_G} {cy : Nat → ClassId} {ad : List Nat} {q : Nat → Nat} {X : va_W} (τ : DS) (a1 : Int32) {o : Int64 × DS} (hm : D8m_chance τ a1 = some o) : DM l yX8_chance cX8_chance 3 (some .long) D8rm_chance D cy (dwd cy q X) ad [.ref (q 0), .int a1] τ (some (.long (o.1))) o.2 := by
  refine d_start RX8 rfl (by decide) (Nat.le_of_ble_eq_true rfl) ?_
  intro p e s m args below meth c fx sx hr hC ls hl
  have hx := fx.1
  have hb := fx.2.1
  have hR : 4 ≤ (D8rm_chance).frames ∧ 94 ≤ (D8rm_chance).locals := ⟨Nat.le_refl _, Nat.le_refl _⟩
  have hf : 0 ≤ (D8rm_chance).cells ∧ 0 ≤ (D8rm_chance).slots := ⟨Nat.zero_le _, Nat.zero_le _⟩
  have hl : lv_has ls 3 [(0, .ref (q 0)), (1, .int a1)] := hl
  unfold D8m_chance at hm
  refine lv_aload_n hx hb dX8_chance_0 rfl (lv_at hl 0 rfl) ?_
  refine lv_iload_n hx hb dX8_chance_1 rfl (lv_at hl 1 rfl) ?_
  rcases bq_in hm with ⟨e_1, hm⟩ | ⟨r_2, e_1, h_3, hm⟩
  · refine d_callVn (ci := 8) (As := [.int a1]) (rest := []) fx sx hC dw_w (D8c_family l τ a1 e_1) k_430 D8k_family D8h_family rfl rfl (O_at O8) ⟨rfl, rfl⟩ ⟨Nat.le_trans (Nat.le_of_ble_eq_true rfl) hR.1, Nat.le_trans (Nat.le_of_ble_eq_true rfl) hR.2⟩ hf rfl hl.1 rfl (Nat.le_of_ble_eq_true rfl) dX8_chance_2 (fun H locs hC => ?_)
    refine lv_astore_nN (lv' := [(2, .null), (0, .ref (q 0)), (1, .int a1)]) hx hb dX8_chance_5 rfl hl (by decide) rfl (fun ls hl => ?_)
    refine lv_aload_nN hx hb dX8_chance_6 rfl (lv_at hl 0 rfl) ?_
    refine lv_ifnonnullN hx hb dX8_chance_7 ?_
    refine lv_ldc2 hx hb fx.2.2.2.1 (fx.2.2.2.2.1 _ k_859) dX8_chance_10 ?_
    refine lv_goto (tgt := 23) hx hb dX8_chance_13 (by decide) ?_
    cases hm
    exact g_lret fx hr hC rfl dX8_chance_23
  · refine d_callVr (ci := 8) (As := [.int a1]) (rest := []) fx sx hC dw_w (D8c_family l τ a1 e_1) k_430 D8k_family D8h_family rfl rfl (O_at O8) ⟨rfl, rfl⟩ ⟨Nat.le_trans (Nat.le_of_ble_eq_true rfl) hR.1, Nat.le_trans (Nat.le_of_ble_eq_true rfl) hR.2⟩ hf rfl hl.1 rfl (Nat.le_of_ble_eq_true rfl) dX8_chance_2 (fun H locs hC => ?_)
    refine lv_astore_n (lv' := [(2, .ref (q (47 + r_2))), (0, .ref (q 0)), (1, .int a1)]) hx hb dX8_chance_5 rfl hl (by decide) rfl (fun ls hl => ?_)
    refine lv_aload_n hx hb dX8_chance_6 rfl (lv_at hl 0 rfl) ?_
    refine lv_ifnonnull (tgt := 16) hx hb dX8_chance_7 (by decide) ?_
    refine lv_aload_n hx hb dX8_chance_16 rfl (lv_at hl 1 rfl) ?_
    refine lv_aload_n hx hb dX8_chance_17 rfl (lv_at hl 0 rfl) ?_
    refine lv_iconst (v := (-1 : Int32)) hx hb dX8_chance_18 (by decide) ?_
    refine lv_iconst (v := (0 : Int32)) hx hb dX8_chance_19 (by decide) ?_
    obtain ⟨r_6, τ_5, e_4, hm⟩ := b2_in hm
    refine d_callVl (ci := 8) (As := [.ref (q (47 + r_2)), .int (-1 : Int32), .int (0 : Int32)]) (rest := []) fx sx hC dw_w (D8c_chanceIf l τ r_2 h_3 (-1 : Int32) (0 : Int32) e_4) k_860 D8k_chanceIf D8h_chanceIf rfl rfl (O_at O8) ⟨rfl, rfl⟩ ⟨Nat.le_trans (Nat.le_of_ble_eq_true rfl) hR.1, Nat.le_trans (Nat.le_of_ble_eq_true rfl) hR.2⟩ hf rfl hl.1 rfl (Nat.le_of_ble_eq_true rfl) dX8_chance_20 (fun H locs hC => ?_)
    cases hm
    exact g_lret fx hr hC rfl dX8_chance_23
def D8m_matters (τ : DS) (a1 : Int32) (a2 : Int32) : Option (Int64 × DS) :=
  bq (D8m_family τ a1) (some ((-1 : Int64), τ)) (fun r_2 => if (D2m_isRoad τ a2) = (0 : Int32) then (some ((-1 : Int64), τ)) else (b2 (D8m_chanceIf τ r_2 a2 (8 : Int32)) (fun r_7 τ_6 => b2 (D8m_chanceIf τ_6 r_2 a2 (0 : Int32)) (fun r_10 τ_9 => some ((r_7 - r_10), τ_9)))))
abbrev D8rm_matters : Room := { frames := 4, cells := 0, slots := 0, locals := 94 }
set_option maxRecDepth 100000 in
set_option maxHeartbeats 4000000 in
theorem D8c_matters (l : Launch) {D : va_G} {cy : Nat → ClassId} {ad : List Nat} {q : Nat → Nat} {X : va_W} (τ : DS) (a1 : Int32) (a2 : Int32) {o : Int64 × DS} (hm : D8m_matters τ a1 a2 = some o) : DM l yX8_matters cX8_matters 4 (some .long) D8rm_matters D cy (dwd cy q X) ad [.ref (q 0), .int a1, .int a2] τ (some (.long (o.1))) o.2 := by
  refine d_start RX8 rfl (by decide) (Nat.le_of_ble_eq_true rfl) ?_
  intro p e s m args below meth c fx sx hr hC ls hl
  have hx := fx.1
  have hb := fx.2.1
  have hR : 4 ≤ (D8rm_matters).frames ∧ 94 ≤ (D8rm_matters).locals := ⟨Nat.le_refl _, Nat.le_refl _⟩
  have hf : 0 ≤ (D8rm_matters).cells ∧ 0 ≤ (D8rm_matters).slots := ⟨Nat.zero_le _, Nat.zero_le _⟩
  have hl : lv_has ls 4 [(0, .ref (q 0)), (1, .int a1), (2, .int a2)] := hl
  unfold D8m_matters at hm
  refine lv_aload_n hx hb dX8_matters_0 rfl (lv_at hl 0 rfl) ?_
  refine lv_iload_n hx hb dX8_matters_1 rfl (lv_at hl 1 rfl) ?_
  rcases bq_in hm with ⟨e_1, hm⟩ | ⟨r_2, e_1, h_3, hm⟩
  · refine d_callVn (ci := 8) (As := [.int a1]) (rest := []) fx sx hC dw_w (D8c_family l τ a1 e_1) k_430 D8k_family D8h_family rfl rfl (O_at O8) ⟨rfl, rfl⟩ ⟨Nat.le_trans (Nat.le_of_ble_eq_true rfl) hR.1, Nat.le_trans (Nat.le_of_ble_eq_true rfl) hR.2⟩ hf rfl hl.1 rfl (Nat.le_of_ble_eq_true rfl) dX8_matters_2 (fun H locs hC => ?_)
    refine lv_astore_nN (lv' := [(3, .null), (0, .ref (q 0)), (1, .int a1), (2, .int a2)]) hx hb dX8_matters_5 rfl hl (by decide) rfl (fun ls hl => ?_)
    refine lv_aload_nN hx hb dX8_matters_6 rfl (lv_at hl 0 rfl) ?_
    refine lv_ifnullN (tgt := 21) hx hb dX8_matters_7 (by decide) ?_
    refine lv_ldc2 hx hb fx.2.2.2.1 (fx.2.2.2.2.1 _ k_859) dX8_matters_21 ?_
    cases hm
    exact g_lret fx hr hC rfl dX8_matters_24
  · refine d_callVr (ci := 8) (As := [.int a1]) (rest := []) fx sx hC dw_w (D8c_family l τ a1 e_1) k_430 D8k_family D8h_family rfl rfl (O_at O8) ⟨rfl, rfl⟩ ⟨Nat.le_trans (Nat.le_of_ble_eq_true rfl) hR.1, Nat.le_trans (Nat.le_of_ble_eq_true rfl) hR.2⟩ hf rfl hl.1 rfl (Nat.le_of_ble_eq_true rfl) dX8_matters_2 (fun H locs hC => ?_)
    refine lv_astore_n (lv' := [(3, .ref (q (47 + r_2))), (0, .ref (q 0)), (1, .int a1), (2, .int a2)]) hx hb dX8_matters_5 rfl hl (by decide) rfl (fun ls hl => ?_)
    refine lv_aload_n hx hb dX8_matters_6 rfl (lv_at hl 0 rfl) ?_
    refine lv_ifnull hx hb dX8_matters_7 ?_
    refine lv_aload_n hx hb dX8_matters_10 rfl (lv_at hl 1 rfl) ?_
    refine D8g_0 fx hC k_15 dX8_matters_11 ?_
    refine lv_iload_n hx hb dX8_matters_14 rfl (lv_at hl 3 rfl) ?_
    refine d_callVi (ci := 2) (As := [.int a2]) (rest := []) fx sx hC dw_w (D2c_isRoad l τ a2) k_177 D2k_isRoad D2h_isRoad rfl rfl (O_at O2) ⟨rfl, rfl⟩ ⟨Nat.le_trans (Nat.le_of_ble_eq_true rfl) hR.1, Nat.le_trans (Nat.le_of_ble_eq_true rfl) hR.2⟩ hf rfl hl.1 rfl (Nat.le_of_ble_eq_true rfl) dX8_matters_15 (fun H locs hC => ?_)
    refine lv_if_ne (tgt := 25) hx hb dX8_matters_18 (by decide) (fun c_4 => ?_) (fun c_4 => ?_)
    · replace hm := ifn hm c_4
      refine lv_aload_n hx hb dX8_matters_25 rfl (lv_at hl 1 rfl) ?_
      refine lv_aload_n hx hb dX8_matters_26 rfl (lv_at hl 0 rfl) ?_
      refine lv_iload_n hx hb dX8_matters_27 rfl (lv_at hl 3 rfl) ?_
      refine lv_bipush (v := (8 : Int32)) hx hb dX8_matters_28 (by decide) ?_
      obtain ⟨r_7, τ_6, e_5, hm⟩ := b2_in hm
      refine d_callVl (ci := 8) (As := [.ref (q (47 + r_2)), .int a2, .int (8 : Int32)]) (rest := []) fx sx hC dw_w (D8c_chanceIf l τ r_2 h_3 a2 (8 : Int32) e_5) k_860 D8k_chanceIf D8h_chanceIf rfl rfl (O_at O8) ⟨rfl, rfl⟩ ⟨Nat.le_trans (Nat.le_of_ble_eq_true rfl) hR.1, Nat.le_trans (Nat.le_of_ble_eq_true rfl) hR.2⟩ hf rfl hl.1 rfl (Nat.le_of_ble_eq_true rfl) dX8_matters_30 (fun H locs hC => ?_)
      refine lv_aload_n hx hb dX8_matters_33 rfl (lv_at hl 1 rfl) ?_
      refine lv_aload_n hx hb dX8_matters_34 rfl (lv_at hl 0 rfl) ?_
      refine lv_iload_n hx hb dX8_matters_35 rfl (lv_at hl 3 rfl) ?_
      refine lv_iconst (v := (0 : Int32)) hx hb dX8_matters_36 (by decide) ?_
      obtain ⟨r_10, τ_9, e_8, hm⟩ := b2_in hm
      refine d_callVl (ci := 8) (As := [.ref (q (47 + r_2)), .int a2, .int (0 : Int32)]) (rest := [.long r_7]) fx sx hC dw_w (D8c_chanceIf l τ_6 r_2 h_3 a2 (0 : Int32) e_8) k_860 D8k_chanceIf D8h_chanceIf rfl rfl (O_at O8) ⟨rfl, rfl⟩ ⟨Nat.le_trans (Nat.le_of_ble_eq_true rfl) hR.1, Nat.le_trans (Nat.le_of_ble_eq_true rfl) hR.2⟩ hf rfl hl.1 rfl (Nat.le_of_ble_eq_true rfl) dX8_matters_37 (fun H locs hC => ?_)
      refine lv_lsub hx hb dX8_matters_40 ?_
      cases hm
      exact g_lret fx hr hC rfl dX8_matters_41
    · replace hm := ifp hm c_4
      refine lv_ldc2 hx hb fx.2.2.2.1 (fx.2.2.2.2.1 _ k_859) dX8_matters_21 ?_
      cases hm
      exact g_lret fx hr hC rfl dX8_matters_24
def D8s_turned_53 {ρ : Type} (p4 : Int32) (kx95 : DS → Option ρ) (rc : Int32 → DS → Option ρ) (v5 : Int32) (τ : DS) : Option ρ :=
  if p4 ≤ v5 then (kx95  τ) else (if (4096 : Int32) ≤ v5 then (kx95  τ) else (gi v5 4096 (b1 (D5m_of τ (τ.2.1 8 (v5).toNatClampNeg)) (fun r_17 => b1 (D7m_put 30 τ r_17) (fun τ_19 => rc (v5 + (1 : Int32)) τ_19)))))
def D8m_turned (τ : DS) (a1 : Int32) (a2 : Int32) : Option (Int32 × DS) :=
  bq (D8m_family τ a1) (some ((-2 : Int32), τ)) (fun r_2 => if a2 < (1 : Int32) then (some ((-2 : Int32), τ)) else (if a2 ≤ (12 : Int32) then (b1 (D5m_learnTurn τ a2) (fun τ_7 => b1 (D7m_clear 30 τ_7 (0 : Int32)) (fun τ_9 => b2 (D7m_list r_2 τ_9) (fun r_12 τ_11 => it2 (D8s_turned_53 r_12 (fun τ_20 => b2 (D3m_list 25 τ_20 30) (fun r_23 τ_22 => some (r_23, τ_22)))) fuel (0 : Int32) τ_11)))) else (some ((-2 : Int32), τ))))
abbrev D8rm_turned : Room := { frames := 55, cells := 0, slots := 0, locals := 1388 }
set_option maxRecDepth 100000 in
set_option maxHeartbeats 4000000 in
theorem D8w_turned_53 {ρ : Type} {out : ρ} {p : Program} {l : Launch} {e : Env} {R : Room} {s : State} {m : MethodId} {args : Array Value} {below : List Frame} {meth : Method} {c : Code} {cells slots : Nat} {Q : State → Prop} {D : va_G} {cy : Nat → ClassId} {ad : List Nat} {q : Nat → Nat} {X : va_W} (fx : FX p s m args meth c cX8_turned 6 RX8 D cy) (sx : SX ad s) (hR : 55 ≤ R.frames ∧ 1388 ≤ R.locals) (hf : cells ≤ R.cells ∧ slots ≤ R.slots) (p4 : Int32) {kx95 : DS → Option ρ} :
    ∀ (n : Nat) (v5 : Int32) (τ : DS), it2 (D8s_turned_53 p4 kx95) n v5 τ = some out → ∀ (H : Heap) (locs : List Loc) (ls : Array Slot), GC D (dwd cy q X) ad s τ H locs → lv_has ls 6 [(0, .ref (q 0)), (4, .int p4), (5, .int v5)] → (∀ (τ2 : DS) (H : Heap) (locs : List Loc) (ls : Array Slot), kx95 τ2 = some out → GC D (dwd cy q X) ad s τ2 H locs → lv_has ls 6 [(0, .ref (q 0))] → W p l e R s m args below meth c H locs cells slots Q (F0 m 95 ls [])) → W p l e R s m args below meth c H locs cells slots Q (F0 m 53 ls []) := by
  have hx := fx.1
  have hb := fx.2.1
  intro n
  induction n with
  | zero => intro v5 τ hm; exact (it2_z hm).elim
  | succ n ih9 =>
    intro v5 τ hm H locs ls hC hl hx95
    obtain ⟨rc, hrc⟩ : ∃ z, z = it2 (D8s_turned_53 p4 kx95) n := ⟨_, rfl⟩
    replace hm : D8s_turned_53 p4 kx95 rc v5 τ = some out := by rw [hrc]; exact hm
    unfold D8s_turned_53 at hm
    refine lv_iload hx hb dX8_turned_53 (lv_at hl 2 rfl) ?_
    refine lv_iload hx hb dX8_turned_55 (lv_at hl 1 rfl) ?_
    refine lv_icmp_ge (tgt := 95) hx hb dX8_turned_57 (by decide) (fun c_13 => ?_) (fun c_13 => ?_)
    · replace hm := ifp hm c_13
      exact hx95 _ _ _ _ hm hC (lv_sub hl [0] rfl)
    · replace hm := ifn hm c_13
      refine lv_iload hx hb dX8_turned_60 (lv_at hl 2 rfl) ?_
      refine lv_sipush (v := (4096 : Int32)) hx hb dX8_turned_62 (by decide) ?_
      refine lv_icmp_ge (tgt := 95) hx hb dX8_turned_65 (by decide) (fun c_14 => ?_) (fun c_14 => ?_)
      · replace hm := ifp hm c_14
        exact hx95 _ _ _ _ hm hC (lv_sub hl [0] rfl)
      · replace hm := ifn hm c_14
        refine lv_aload_n hx hb dX8_turned_68 rfl (lv_at hl 0 rfl) ?_
        refine D8g_3 fx hC k_20 dX8_turned_69 ?_
        refine lv_aload_n hx hb dX8_turned_72 rfl (lv_at hl 0 rfl) ?_
        refine D8g_6 fx hC k_27 dX8_turned_73 ?_
        refine lv_aload_n hx hb dX8_turned_76 rfl (lv_at hl 0 rfl) ?_
        refine D8g_5 fx hC k_23 dX8_turned_77 ?_
        refine lv_iload hx hb dX8_turned_80 (lv_at hl 2 rfl) ?_
        have h_15 := (gi_in hm).1
        replace hm := (gi_in hm).2
        refine DLi fx hC Ka8 h_15 dX8_turned_82 ?_
        obtain ⟨r_17, e_16, hm⟩ := b1_in hm
        refine d_callVi (ci := 5) (As := [.int (τ.2.1 8 (v5).toNatClampNeg)]) (rest := [.ref (q (47 + 30))]) fx sx hC dw_w (D5c_of l τ (τ.2.1 8 (v5).toNatClampNeg) e_16) k_640 D5k_of D5h_of rfl rfl (O_at O5) ⟨rfl, rfl⟩ ⟨Nat.le_trans (Nat.le_of_ble_eq_true rfl) hR.1, Nat.le_trans (Nat.le_of_ble_eq_true rfl) hR.2⟩ hf rfl hl.1 rfl (Nat.le_of_ble_eq_true rfl) dX8_turned_83 (fun H locs hC => ?_)
        obtain ⟨τ_19, e_18, hm⟩ := b1_in hm
        refine d_callVv (ci := 7) (As := [.int r_17]) (rest := []) fx sx hC dw_w (D7c_put l 30 (by decide) τ r_17 e_18) k_220 D7k_put D7h_put rfl rfl (O_at (K7 (by decide))) ⟨rfl, rfl⟩ ⟨Nat.le_trans (Nat.le_of_ble_eq_true rfl) hR.1, Nat.le_trans (Nat.le_of_ble_eq_true rfl) hR.2⟩ hf rfl hl.1 rfl (Nat.le_of_ble_eq_true rfl) dX8_turned_86 (fun H locs hC => ?_)
        refine lv_iinc (v := (v5 + (1 : Int32))) (lv' := [(5, .int (v5 + (1 : Int32))), (0, .ref (q 0)), (4, .int p4)]) hx hb dX8_turned_89 hl (k := 2) rfl rfl (by decide) rfl (fun ls hl => ?_)
        refine lv_goto (tgt := 53) hx hb dX8_turned_92 (by decide) ?_
        rw [hrc] at hm
        exact ih9 _ _ hm _ _ _ hC (lv_sub hl [1, 2, 0] rfl) hx95
set_option maxRecDepth 100000 in
set_option maxHeartbeats 4000000 in
theorem D8c_turned (l : Launch) {D : va_G} {cy : Nat → ClassId} {ad : List Nat} {q : Nat → Nat} {X : va_W} (τ : DS) (a1 : Int32) (a2 : Int32) {o : Int32 × DS} (hm : D8m_turned τ a1 a2 = some o) : DM l yX8_turned cX8_turned 6 (some .int) D8rm_turned D cy (dwd cy q X) ad [.ref (q 0), .int a1, .int a2] τ (some (.int (o.1))) o.2 := by
  refine d_start RX8 rfl (by decide) (Nat.le_of_ble_eq_true rfl) ?_
  intro p e s m args below meth c fx sx hr hC ls hl
  have hx := fx.1
  have hb := fx.2.1
  have hR : 55 ≤ (D8rm_turned).frames ∧ 1388 ≤ (D8rm_turned).locals := ⟨Nat.le_refl _, Nat.le_refl _⟩
  have hf : 0 ≤ (D8rm_turned).cells ∧ 0 ≤ (D8rm_turned).slots := ⟨Nat.zero_le _, Nat.zero_le _⟩
  have hl : lv_has ls 6 [(0, .ref (q 0)), (1, .int a1), (2, .int a2)] := hl
  unfold D8m_turned at hm
  refine lv_aload_n hx hb dX8_turned_0 rfl (lv_at hl 0 rfl) ?_
  refine lv_iload_n hx hb dX8_turned_1 rfl (lv_at hl 1 rfl) ?_
  rcases bq_in hm with ⟨e_1, hm⟩ | ⟨r_2, e_1, h_3, hm⟩
  · refine d_callVn (ci := 8) (As := [.int a1]) (rest := []) fx sx hC dw_w (D8c_family l τ a1 e_1) k_430 D8k_family D8h_family rfl rfl (O_at O8) ⟨rfl, rfl⟩ ⟨Nat.le_trans (Nat.le_of_ble_eq_true rfl) hR.1, Nat.le_trans (Nat.le_of_ble_eq_true rfl) hR.2⟩ hf rfl hl.1 rfl (Nat.le_of_ble_eq_true rfl) dX8_turned_2 (fun H locs hC => ?_)
    refine lv_astore_nN (lv' := [(3, .null), (0, .ref (q 0)), (1, .int a1), (2, .int a2)]) hx hb dX8_turned_5 rfl hl (by decide) rfl (fun ls hl => ?_)
    refine lv_aload_nN hx hb dX8_turned_6 rfl (lv_at hl 0 rfl) ?_
    refine lv_ifnullN (tgt := 21) hx hb dX8_turned_7 (by decide) ?_
    refine lv_bipush (v := (-2 : Int32)) hx hb dX8_turned_21 (by decide) ?_
    cases hm
    exact g_iret fx hr hC rfl dX8_turned_23
  · refine d_callVr (ci := 8) (As := [.int a1]) (rest := []) fx sx hC dw_w (D8c_family l τ a1 e_1) k_430 D8k_family D8h_family rfl rfl (O_at O8) ⟨rfl, rfl⟩ ⟨Nat.le_trans (Nat.le_of_ble_eq_true rfl) hR.1, Nat.le_trans (Nat.le_of_ble_eq_true rfl) hR.2⟩ hf rfl hl.1 rfl (Nat.le_of_ble_eq_true rfl) dX8_turned_2 (fun H locs hC => ?_)
    refine lv_astore_n (lv' := [(3, .ref (q (47 + r_2))), (0, .ref (q 0)), (1, .int a1), (2, .int a2)]) hx hb dX8_turned_5 rfl hl (by decide) rfl (fun ls hl => ?_)
    refine lv_aload_n hx hb dX8_turned_6 rfl (lv_at hl 0 rfl) ?_
    refine lv_ifnull hx hb dX8_turned_7 ?_
    refine lv_iload_n hx hb dX8_turned_10 rfl (lv_at hl 3 rfl) ?_
    refine lv_iconst (v := (1 : Int32)) hx hb dX8_turned_11 (by decide) ?_
    refine lv_icmp_lt (tgt := 21) hx hb dX8_turned_12 (by decide) (fun c_4 => ?_) (fun c_4 => ?_)
    · replace hm := ifp hm c_4
      refine lv_bipush (v := (-2 : Int32)) hx hb dX8_turned_21 (by decide) ?_
      cases hm
      exact g_iret fx hr hC rfl dX8_turned_23
    · replace hm := ifn hm c_4
      refine lv_iload_n hx hb dX8_turned_15 rfl (lv_at hl 3 rfl) ?_
      refine lv_bipush (v := (12 : Int32)) hx hb dX8_turned_16 (by decide) ?_
      refine lv_icmp_le (tgt := 24) hx hb dX8_turned_18 (by decide) (fun c_5 => ?_) (fun c_5 => ?_)
      · replace hm := ifp hm c_5
        refine lv_aload_n hx hb dX8_turned_24 rfl (lv_at hl 1 rfl) ?_
        refine D8g_6 fx hC k_27 dX8_turned_25 ?_
        refine lv_iload_n hx hb dX8_turned_28 rfl (lv_at hl 3 rfl) ?_
        obtain ⟨τ_7, e_6, hm⟩ := b1_in hm
        refine d_callVv (ci := 5) (As := [.int a2]) (rest := []) fx sx hC dw_w (D5c_learnTurn l τ a2 e_6) k_894 D5k_learnTurn D5h_learnTurn rfl rfl (O_at O5) ⟨rfl, rfl⟩ ⟨Nat.le_trans (Nat.le_of_ble_eq_true rfl) hR.1, Nat.le_trans (Nat.le_of_ble_eq_true rfl) hR.2⟩ hf rfl hl.1 rfl (Nat.le_of_ble_eq_true rfl) dX8_turned_29 (fun H locs hC => ?_)
        refine lv_aload_n hx hb dX8_turned_32 rfl (lv_at hl 1 rfl) ?_
        refine D8g_3 fx hC k_20 dX8_turned_33 ?_
        refine lv_iconst (v := (0 : Int32)) hx hb dX8_turned_36 (by decide) ?_
        obtain ⟨τ_9, e_8, hm⟩ := b1_in hm
        refine d_callVv (ci := 7) (As := [.int (0 : Int32)]) (rest := []) fx sx hC dw_w (D7c_clear l 30 (by decide) τ_7 (0 : Int32) e_8) k_209 D7k_clear D7h_clear rfl rfl (O_at (K7 (by decide))) ⟨rfl, rfl⟩ ⟨Nat.le_trans (Nat.le_of_ble_eq_true rfl) hR.1, Nat.le_trans (Nat.le_of_ble_eq_true rfl) hR.2⟩ hf rfl hl.1 rfl (Nat.le_of_ble_eq_true rfl) dX8_turned_37 (fun H locs hC => ?_)
        refine lv_aload_n hx hb dX8_turned_40 rfl (lv_at hl 0 rfl) ?_
        refine lv_aload_n hx hb dX8_turned_41 rfl (lv_at hl 1 rfl) ?_
        refine D8g_5 fx hC k_23 dX8_turned_42 ?_
        obtain ⟨r_12, τ_11, e_10, hm⟩ := b2_in hm
        refine d_callVi (ci := 7) (As := [.ref (q 8)]) (rest := []) fx sx hC dw_w (D7c_list l r_2 h_3 τ_9 e_10) k_440 D7k_list D7h_list rfl rfl (O_at (K7 h_3)) ⟨rfl, rfl⟩ ⟨Nat.le_trans (Nat.le_of_ble_eq_true rfl) hR.1, Nat.le_trans (Nat.le_of_ble_eq_true rfl) hR.2⟩ hf rfl hl.1 rfl (Nat.le_of_ble_eq_true rfl) dX8_turned_45 (fun H locs hC => ?_)
        refine lv_istore (lv' := [(4, .int r_12), (3, .ref (q (47 + r_2))), (0, .ref (q 0)), (1, .int a1), (2, .int a2)]) hx hb dX8_turned_48 hl (by decide) rfl (fun ls hl => ?_)
        refine lv_iconst (v := (0 : Int32)) hx hb dX8_turned_50 (by decide) ?_
        refine lv_istore (lv' := [(5, .int (0 : Int32)), (4, .int r_12), (3, .ref (q (47 + r_2))), (0, .ref (q 0)), (1, .int a1), (2, .int a2)]) hx hb dX8_turned_51 hl (by decide) rfl (fun ls hl => ?_)
        refine D8w_turned_53 fx sx hR hf r_12 fuel (0 : Int32) τ_11 hm _ _ _ hC (lv_sub hl [3, 1, 0] rfl) (fun τ_20 H locs ls hm hC hl => ?_)
        refine lv_aload_n hx hb dX8_turned_95 rfl (lv_at hl 0 rfl) ?_
        refine D8g_9 fx hC k_36 dX8_turned_96 ?_
        refine lv_aload_n hx hb dX8_turned_99 rfl (lv_at hl 0 rfl) ?_
        refine D8g_3 fx hC k_20 dX8_turned_100 ?_
        obtain ⟨r_23, τ_22, e_21, hm⟩ := b2_in hm
        refine d_callVi (ci := 3) (As := [.ref (q (47 + 30))]) (rest := []) fx sx hC dw_w (D3c_list l 25 (Or.inr rfl) τ_20 30 (by decide) e_21) k_686 D3k_list D3h_list rfl rfl (O_at (K3 (Or.inr rfl))) ⟨rfl, rfl⟩ ⟨Nat.le_trans (Nat.le_of_ble_eq_true rfl) hR.1, Nat.le_trans (Nat.le_of_ble_eq_true rfl) hR.2⟩ hf rfl hl.1 rfl (Nat.le_of_ble_eq_true rfl) dX8_turned_103 (fun H locs hC => ?_)
        cases hm
        exact g_iret fx hr hC rfl dX8_turned_106
      · replace hm := ifn hm c_5
        refine lv_bipush (v := (-2 : Int32)) hx hb dX8_turned_21 (by decide) ?_
        cases hm
        exact g_iret fx hr hC rfl dX8_turned_23
def D8m_write (τ : DS) (a1 : Int32) : Option (Int32 × DS) :=
  bq (D8m_family τ a1) (some ((-2 : Int32), τ)) (fun r_2 => b2 (D3m_list 17 τ r_2) (fun r_6 τ_5 => some (r_6, τ_5)))
abbrev D8rm_write : Room := { frames := 55, cells := 0, slots := 0, locals := 1388 }
set_option maxRecDepth 100000 in
set_option maxHeartbeats 4000000 in
theorem D8c_write (l : Launch) {D : va_G} {cy : Nat → ClassId} {ad : List Nat} {q : Nat → Nat} {X : va_W} (τ : DS) (a1 : Int32) {o : Int32 × DS} (hm : D8m_write τ a1 = some o) : DM l yX8_write cX8_write 3 (some .int) D8rm_write D cy (dwd cy q X) ad [.ref (q 0), .int a1] τ (some (.int (o.1))) o.2 := by
  refine d_start RX8 rfl (by decide) (Nat.le_of_ble_eq_true rfl) ?_
  intro p e s m args below meth c fx sx hr hC ls hl
  have hx := fx.1
  have hb := fx.2.1
  have hR : 55 ≤ (D8rm_write).frames ∧ 1388 ≤ (D8rm_write).locals := ⟨Nat.le_refl _, Nat.le_refl _⟩
  have hf : 0 ≤ (D8rm_write).cells ∧ 0 ≤ (D8rm_write).slots := ⟨Nat.zero_le _, Nat.zero_le _⟩
  have hl : lv_has ls 3 [(0, .ref (q 0)), (1, .int a1)] := hl
  unfold D8m_write at hm
  refine lv_aload_n hx hb dX8_write_0 rfl (lv_at hl 0 rfl) ?_
  refine lv_iload_n hx hb dX8_write_1 rfl (lv_at hl 1 rfl) ?_
  rcases bq_in hm with ⟨e_1, hm⟩ | ⟨r_2, e_1, h_3, hm⟩
  · refine d_callVn (ci := 8) (As := [.int a1]) (rest := []) fx sx hC dw_w (D8c_family l τ a1 e_1) k_430 D8k_family D8h_family rfl rfl (O_at O8) ⟨rfl, rfl⟩ ⟨Nat.le_trans (Nat.le_of_ble_eq_true rfl) hR.1, Nat.le_trans (Nat.le_of_ble_eq_true rfl) hR.2⟩ hf rfl hl.1 rfl (Nat.le_of_ble_eq_true rfl) dX8_write_2 (fun H locs hC => ?_)
    refine lv_astore_nN (lv' := [(2, .null), (0, .ref (q 0)), (1, .int a1)]) hx hb dX8_write_5 rfl hl (by decide) rfl (fun ls hl => ?_)
    refine lv_aload_nN hx hb dX8_write_6 rfl (lv_at hl 0 rfl) ?_
    refine lv_ifnonnullN hx hb dX8_write_7 ?_
    refine lv_bipush (v := (-2 : Int32)) hx hb dX8_write_10 (by decide) ?_
    refine lv_goto (tgt := 23) hx hb dX8_write_12 (by decide) ?_
    cases hm
    exact g_iret fx hr hC rfl dX8_write_23
  · refine d_callVr (ci := 8) (As := [.int a1]) (rest := []) fx sx hC dw_w (D8c_family l τ a1 e_1) k_430 D8k_family D8h_family rfl rfl (O_at O8) ⟨rfl, rfl⟩ ⟨Nat.le_trans (Nat.le_of_ble_eq_true rfl) hR.1, Nat.le_trans (Nat.le_of_ble_eq_true rfl) hR.2⟩ hf rfl hl.1 rfl (Nat.le_of_ble_eq_true rfl) dX8_write_2 (fun H locs hC => ?_)
    refine lv_astore_n (lv' := [(2, .ref (q (47 + r_2))), (0, .ref (q 0)), (1, .int a1)]) hx hb dX8_write_5 rfl hl (by decide) rfl (fun ls hl => ?_)
    refine lv_aload_n hx hb dX8_write_6 rfl (lv_at hl 0 rfl) ?_
    refine lv_ifnonnull (tgt := 15) hx hb dX8_write_7 (by decide) ?_
    refine lv_aload_n hx hb dX8_write_15 rfl (lv_at hl 1 rfl) ?_
    refine D8g_8 fx hC k_35 dX8_write_16 ?_
    refine lv_aload_n hx hb dX8_write_19 rfl (lv_at hl 0 rfl) ?_
    obtain ⟨r_6, τ_5, e_4, hm⟩ := b2_in hm
    refine d_callVi (ci := 3) (As := [.ref (q (47 + r_2))]) (rest := []) fx sx hC dw_w (D3c_list l 17 (Or.inl rfl) τ r_2 h_3 e_4) k_686 D3k_list D3h_list rfl rfl (O_at (K3 (Or.inl rfl))) ⟨rfl, rfl⟩ ⟨Nat.le_trans (Nat.le_of_ble_eq_true rfl) hR.1, Nat.le_trans (Nat.le_of_ble_eq_true rfl) hR.2⟩ hf rfl hl.1 rfl (Nat.le_of_ble_eq_true rfl) dX8_write_20 (fun H locs hC => ?_)
    cases hm
    exact g_iret fx hr hC rfl dX8_write_23
def D8m_row (τ : DS) (a1 : Int32) (a2 : Int32) : Option Int32 :=
  if (D3m_isCell 17 τ a1 a2) = (0 : Int32) then (some (-2 : Int32)) else (gi a2 4 (gi a1 768 (some (τ.2.1 (17 + 2 + (a2).toNatClampNeg) (a1).toNatClampNeg))))
abbrev D8rm_row : Room := { frames := 1, cells := 0, slots := 0, locals := 22 }
set_option maxRecDepth 100000 in
set_option maxHeartbeats 4000000 in
theorem D8c_row (l : Launch) {D : va_G} {cy : Nat → ClassId} {ad : List Nat} {q : Nat → Nat} {X : va_W} (τ : DS) (a1 : Int32) (a2 : Int32) {o : Int32} (hm : D8m_row τ a1 a2 = some o) : DM l yX8_row cX8_row 3 (some .int) D8rm_row D cy (dwd cy q X) ad [.ref (q 0), .int a1, .int a2] τ (some (.int (o))) τ := by
  refine d_start RX8 rfl (by decide) (Nat.le_of_ble_eq_true rfl) ?_
  intro p e s m args below meth c fx sx hr hC ls hl
  have hx := fx.1
  have hb := fx.2.1
  have hR : 1 ≤ (D8rm_row).frames ∧ 22 ≤ (D8rm_row).locals := ⟨Nat.le_refl _, Nat.le_refl _⟩
  have hf : 0 ≤ (D8rm_row).cells ∧ 0 ≤ (D8rm_row).slots := ⟨Nat.zero_le _, Nat.zero_le _⟩
  have hl : lv_has ls 3 [(0, .ref (q 0)), (1, .int a1), (2, .int a2)] := hl
  unfold D8m_row at hm
  refine lv_aload_n hx hb dX8_row_0 rfl (lv_at hl 0 rfl) ?_
  refine D8g_8 fx hC k_35 dX8_row_1 ?_
  refine lv_iload_n hx hb dX8_row_4 rfl (lv_at hl 1 rfl) ?_
  refine lv_iload_n hx hb dX8_row_5 rfl (lv_at hl 2 rfl) ?_
  refine d_callVi (ci := 3) (As := [.int a1, .int a2]) (rest := []) fx sx hC dw_w (D3c_isCell l 17 (Or.inl rfl) τ a1 a2) k_934 D3k_isCell D3h_isCell rfl rfl (O_at (K3 (Or.inl rfl))) ⟨rfl, rfl⟩ ⟨Nat.le_trans (Nat.le_of_ble_eq_true rfl) hR.1, Nat.le_trans (Nat.le_of_ble_eq_true rfl) hR.2⟩ hf rfl hl.1 rfl (Nat.le_of_ble_eq_true rfl) dX8_row_6 (fun H locs hC => ?_)
  refine lv_if_eq (tgt := 26) hx hb dX8_row_9 (by decide) (fun c_1 => ?_) (fun c_1 => ?_)
  · replace hm := ifp hm c_1
    refine lv_bipush (v := (-2 : Int32)) hx hb dX8_row_26 (by decide) ?_
    cases hm
    exact g_iret fx hr hC rfl dX8_row_28
  · replace hm := ifn hm c_1
    refine lv_aload_n hx hb dX8_row_12 rfl (lv_at hl 0 rfl) ?_
    refine D8g_8 fx hC k_35 dX8_row_13 ?_
    refine D3g_1 (Or.inl rfl) fx hC k_933 dX8_row_16 ?_
    refine lv_iload_n hx hb dX8_row_19 rfl (lv_at hl 2 rfl) ?_
    have h_2 := (gi_in hm).1
    replace hm := (gi_in hm).2
    refine DLq fx hC (K3q (Or.inl rfl)) (Or.inr rfl) h_2 dX8_row_20 ?_
    refine lv_iload_n hx hb dX8_row_21 rfl (lv_at hl 1 rfl) ?_
    have h_3 := (gi_in hm).1
    replace hm := (gi_in hm).2
    refine DLi fx hC (K3c (Or.inl rfl) (vp_lt h_2)) h_3 dX8_row_22 ?_
    refine lv_goto (tgt := 28) hx hb dX8_row_23 (by decide) ?_
    cases hm
    exact g_iret fx hr hC rfl dX8_row_28
def D8m_forge (τ : DS) (a1 : Int32) (a2 : Int32) (a3 : Int32) : Option (Int32 × DS) :=
  if (D3m_isCell 17 τ a1 a2) = (0 : Int32) then (some ((-2 : Int32), τ)) else (gi a2 4 (gi a1 768 (nm (dA τ (17 + 2 + (a2).toNatClampNeg) (a1).toNatClampNeg a3) (fun τ_4 => some ((1 : Int32), τ_4)))))
abbrev D8rm_forge : Room := { frames := 1, cells := 0, slots := 0, locals := 22 }
set_option maxRecDepth 100000 in
set_option maxHeartbeats 4000000 in
theorem D8c_forge (l : Launch) {D : va_G} {cy : Nat → ClassId} {ad : List Nat} {q : Nat → Nat} {X : va_W} (τ : DS) (a1 : Int32) (a2 : Int32) (a3 : Int32) {o : Int32 × DS} (hm : D8m_forge τ a1 a2 a3 = some o) : DM l yX8_forge cX8_forge 4 (some .int) D8rm_forge D cy (dwd cy q X) ad [.ref (q 0), .int a1, .int a2, .int a3] τ (some (.int (o.1))) o.2 := by
  refine d_start RX8 rfl (by decide) (Nat.le_of_ble_eq_true rfl) ?_
  intro p e s m args below meth c fx sx hr hC ls hl
  have hx := fx.1
  have hb := fx.2.1
  have hR : 1 ≤ (D8rm_forge).frames ∧ 22 ≤ (D8rm_forge).locals := ⟨Nat.le_refl _, Nat.le_refl _⟩
  have hf : 0 ≤ (D8rm_forge).cells ∧ 0 ≤ (D8rm_forge).slots := ⟨Nat.zero_le _, Nat.zero_le _⟩
  have hl : lv_has ls 4 [(0, .ref (q 0)), (1, .int a1), (2, .int a2), (3, .int a3)] := hl
  unfold D8m_forge at hm
  refine lv_aload_n hx hb dX8_forge_0 rfl (lv_at hl 0 rfl) ?_
  refine D8g_8 fx hC k_35 dX8_forge_1 ?_
  refine lv_iload_n hx hb dX8_forge_4 rfl (lv_at hl 1 rfl) ?_
  refine lv_iload_n hx hb dX8_forge_5 rfl (lv_at hl 2 rfl) ?_
  refine d_callVi (ci := 3) (As := [.int a1, .int a2]) (rest := []) fx sx hC dw_w (D3c_isCell l 17 (Or.inl rfl) τ a1 a2) k_934 D3k_isCell D3h_isCell rfl rfl (O_at (K3 (Or.inl rfl))) ⟨rfl, rfl⟩ ⟨Nat.le_trans (Nat.le_of_ble_eq_true rfl) hR.1, Nat.le_trans (Nat.le_of_ble_eq_true rfl) hR.2⟩ hf rfl hl.1 rfl (Nat.le_of_ble_eq_true rfl) dX8_forge_6 (fun H locs hC => ?_)
  refine lv_if_ne (tgt := 15) hx hb dX8_forge_9 (by decide) (fun c_1 => ?_) (fun c_1 => ?_)
  · replace hm := ifn hm c_1
    refine lv_aload_n hx hb dX8_forge_15 rfl (lv_at hl 0 rfl) ?_
    refine D8g_8 fx hC k_35 dX8_forge_16 ?_
    refine D3g_1 (Or.inl rfl) fx hC k_933 dX8_forge_19 ?_
    refine lv_iload_n hx hb dX8_forge_22 rfl (lv_at hl 2 rfl) ?_
    have h_2 := (gi_in hm).1
    replace hm := (gi_in hm).2
    refine DLq fx hC (K3q (Or.inl rfl)) (Or.inr rfl) h_2 dX8_forge_23 ?_
    refine lv_iload_n hx hb dX8_forge_24 rfl (lv_at hl 1 rfl) ?_
    refine lv_iload_n hx hb dX8_forge_25 rfl (lv_at hl 3 rfl) ?_
    have h_3 := (gi_in hm).1
    replace hm := (gi_in hm).2
    refine DSi fx hC (K3c (Or.inl rfl) (vp_lt h_2)) h_3 dX8_forge_26 (fun H locs hC => ?_)
    obtain ⟨τ_4, e_5⟩ : ∃ z, z = (dA τ (17 + 2 + (a2).toNatClampNeg) (a1).toNatClampNeg a3) := ⟨_, rfl⟩
    rw [← e_5] at hC
    replace hm := nm_in hm e_5
    refine lv_iconst (v := (1 : Int32)) hx hb dX8_forge_27 (by decide) ?_
    cases hm
    exact g_iret fx hr hC rfl dX8_forge_28
  · replace hm := ifp hm c_1
    refine lv_bipush (v := (-2 : Int32)) hx hb dX8_forge_12 (by decide) ?_
    cases hm
    exact g_iret fx hr hC rfl dX8_forge_14
def D8m_check (τ : DS) (a1 : Int32) : Option (Int32 × DS) :=
  bq (D8m_family τ a1) (some ((-2 : Int32), τ)) (fun r_2 => b2 (D3m_firstWrong 17 τ 25) (fun r_6 τ_5 => if r_6 < (0 : Int32) then (b2 (D3m_list 25 τ_5 r_2) (fun r_10 τ_9 => b1 (D3m_isLike 17 τ_9 25) (fun r_12 => if r_12 = (0 : Int32) then (some ((-3 : Int32), τ_9)) else (some ((-1 : Int32), τ_9))))) else (some (r_6, τ_5))))
abbrev D8rm_check : Room := { frames := 55, cells := 0, slots := 0, locals := 1388 }
set_option maxRecDepth 100000 in
set_option maxHeartbeats 4000000 in
theorem D8c_check (l : Launch) {D : va_G} {cy : Nat → ClassId} {ad : List Nat} {q : Nat → Nat} {X : va_W} (τ : DS) (a1 : Int32) {o : Int32 × DS} (hm : D8m_check τ a1 = some o) : DM l yX8_check cX8_check 4 (some .int) D8rm_check D cy (dwd cy q X) ad [.ref (q 0), .int a1] τ (some (.int (o.1))) o.2 := by
  refine d_start RX8 rfl (by decide) (Nat.le_of_ble_eq_true rfl) ?_
  intro p e s m args below meth c fx sx hr hC ls hl
  have hx := fx.1
  have hb := fx.2.1
  have hR : 55 ≤ (D8rm_check).frames ∧ 1388 ≤ (D8rm_check).locals := ⟨Nat.le_refl _, Nat.le_refl _⟩
  have hf : 0 ≤ (D8rm_check).cells ∧ 0 ≤ (D8rm_check).slots := ⟨Nat.zero_le _, Nat.zero_le _⟩
  have hl : lv_has ls 4 [(0, .ref (q 0)), (1, .int a1)] := hl
  unfold D8m_check at hm
  refine lv_aload_n hx hb dX8_check_0 rfl (lv_at hl 0 rfl) ?_
  refine lv_iload_n hx hb dX8_check_1 rfl (lv_at hl 1 rfl) ?_
  rcases bq_in hm with ⟨e_1, hm⟩ | ⟨r_2, e_1, h_3, hm⟩
  · refine d_callVn (ci := 8) (As := [.int a1]) (rest := []) fx sx hC dw_w (D8c_family l τ a1 e_1) k_430 D8k_family D8h_family rfl rfl (O_at O8) ⟨rfl, rfl⟩ ⟨Nat.le_trans (Nat.le_of_ble_eq_true rfl) hR.1, Nat.le_trans (Nat.le_of_ble_eq_true rfl) hR.2⟩ hf rfl hl.1 rfl (Nat.le_of_ble_eq_true rfl) dX8_check_2 (fun H locs hC => ?_)
    refine lv_astore_nN (lv' := [(2, .null), (0, .ref (q 0)), (1, .int a1)]) hx hb dX8_check_5 rfl hl (by decide) rfl (fun ls hl => ?_)
    refine lv_aload_nN hx hb dX8_check_6 rfl (lv_at hl 0 rfl) ?_
    refine lv_ifnonnullN hx hb dX8_check_7 ?_
    refine lv_bipush (v := (-2 : Int32)) hx hb dX8_check_10 (by decide) ?_
    cases hm
    exact g_iret fx hr hC rfl dX8_check_12
  · refine d_callVr (ci := 8) (As := [.int a1]) (rest := []) fx sx hC dw_w (D8c_family l τ a1 e_1) k_430 D8k_family D8h_family rfl rfl (O_at O8) ⟨rfl, rfl⟩ ⟨Nat.le_trans (Nat.le_of_ble_eq_true rfl) hR.1, Nat.le_trans (Nat.le_of_ble_eq_true rfl) hR.2⟩ hf rfl hl.1 rfl (Nat.le_of_ble_eq_true rfl) dX8_check_2 (fun H locs hC => ?_)
    refine lv_astore_n (lv' := [(2, .ref (q (47 + r_2))), (0, .ref (q 0)), (1, .int a1)]) hx hb dX8_check_5 rfl hl (by decide) rfl (fun ls hl => ?_)
    refine lv_aload_n hx hb dX8_check_6 rfl (lv_at hl 0 rfl) ?_
    refine lv_ifnonnull (tgt := 13) hx hb dX8_check_7 (by decide) ?_
    refine lv_aload_n hx hb dX8_check_13 rfl (lv_at hl 1 rfl) ?_
    refine D8g_8 fx hC k_35 dX8_check_14 ?_
    refine lv_aload_n hx hb dX8_check_17 rfl (lv_at hl 1 rfl) ?_
    refine D8g_9 fx hC k_36 dX8_check_18 ?_
    obtain ⟨r_6, τ_5, e_4, hm⟩ := b2_in hm
    refine d_callVi (ci := 3) (As := [.ref (q 25)]) (rest := []) fx sx hC dw_w (D3c_firstWrong l 17 (Or.inl rfl) τ 25 (Or.inr rfl) e_4) k_951 D3k_firstWrong D3h_firstWrong rfl rfl (O_at (K3 (Or.inl rfl))) ⟨rfl, rfl⟩ ⟨Nat.le_trans (Nat.le_of_ble_eq_true rfl) hR.1, Nat.le_trans (Nat.le_of_ble_eq_true rfl) hR.2⟩ hf rfl hl.1 rfl (Nat.le_of_ble_eq_true rfl) dX8_check_21 (fun H locs hC => ?_)
    refine lv_istore_n (lv' := [(3, .int r_6), (2, .ref (q (47 + r_2))), (0, .ref (q 0)), (1, .int a1)]) hx hb dX8_check_24 rfl hl (by decide) rfl (fun ls hl => ?_)
    refine lv_iload_n hx hb dX8_check_25 rfl (lv_at hl 0 rfl) ?_
    refine lv_if_lt (tgt := 31) hx hb dX8_check_26 (by decide) (fun c_7 => ?_) (fun c_7 => ?_)
    · replace hm := ifp hm c_7
      refine lv_aload_n hx hb dX8_check_31 rfl (lv_at hl 2 rfl) ?_
      refine D8g_9 fx hC k_36 dX8_check_32 ?_
      refine lv_aload_n hx hb dX8_check_35 rfl (lv_at hl 1 rfl) ?_
      obtain ⟨r_10, τ_9, e_8, hm⟩ := b2_in hm
      refine d_callVi (ci := 3) (As := [.ref (q (47 + r_2))]) (rest := []) fx sx hC dw_w (D3c_list l 25 (Or.inr rfl) τ_5 r_2 h_3 e_8) k_686 D3k_list D3h_list rfl rfl (O_at (K3 (Or.inr rfl))) ⟨rfl, rfl⟩ ⟨Nat.le_trans (Nat.le_of_ble_eq_true rfl) hR.1, Nat.le_trans (Nat.le_of_ble_eq_true rfl) hR.2⟩ hf rfl hl.1 rfl (Nat.le_of_ble_eq_true rfl) dX8_check_36 (fun H locs hC => ?_)
      refine lv_pop hx hb dX8_check_39 rfl ?_
      refine lv_aload_n hx hb dX8_check_40 rfl (lv_at hl 2 rfl) ?_
      refine D8g_8 fx hC k_35 dX8_check_41 ?_
      refine lv_aload_n hx hb dX8_check_44 rfl (lv_at hl 2 rfl) ?_
      refine D8g_9 fx hC k_36 dX8_check_45 ?_
      obtain ⟨r_12, e_11, hm⟩ := b1_in hm
      refine d_callVi (ci := 3) (As := [.ref (q 25)]) (rest := []) fx sx hC dw_w (D3c_isLike l 17 (Or.inl rfl) τ_9 25 (Or.inr rfl) e_11) k_966 D3k_isLike D3h_isLike rfl rfl (O_at (K3 (Or.inl rfl))) ⟨rfl, rfl⟩ ⟨Nat.le_trans (Nat.le_of_ble_eq_true rfl) hR.1, Nat.le_trans (Nat.le_of_ble_eq_true rfl) hR.2⟩ hf rfl hl.1 rfl (Nat.le_of_ble_eq_true rfl) dX8_check_48 (fun H locs hC => ?_)
      refine lv_if_eq (tgt := 58) hx hb dX8_check_51 (by decide) (fun c_13 => ?_) (fun c_13 => ?_)
      · replace hm := ifp hm c_13
        refine lv_bipush (v := (-3 : Int32)) hx hb dX8_check_58 (by decide) ?_
        cases hm
        exact g_iret fx hr hC rfl dX8_check_60
      · replace hm := ifn hm c_13
        refine lv_iconst (v := (-1 : Int32)) hx hb dX8_check_54 (by decide) ?_
        refine lv_goto (tgt := 60) hx hb dX8_check_55 (by decide) ?_
        cases hm
        exact g_iret fx hr hC rfl dX8_check_60
    · replace hm := ifn hm c_7
      refine lv_iload_n hx hb dX8_check_29 rfl (lv_at hl 0 rfl) ?_
      cases hm
      exact g_iret fx hr hC rfl dX8_check_30
def D8m_sheet (τ : DS) (a1 : Int32) (a2 : Int32) (a3 : Int32) : Option (Int32 × DS) :=
  b2 (D1m_layOut τ a1 a2 a3) (fun r_3 τ_2 => some (r_3, τ_2))
abbrev D8rm_sheet : Room := { frames := 2, cells := 0, slots := 0, locals := 46 }
set_option maxRecDepth 100000 in
set_option maxHeartbeats 4000000 in
theorem D8c_sheet (l : Launch) {D : va_G} {cy : Nat → ClassId} {ad : List Nat} {q : Nat → Nat} {X : va_W} (τ : DS) (a1 : Int32) (a2 : Int32) (a3 : Int32) {o : Int32 × DS} (hm : D8m_sheet τ a1 a2 a3 = some o) : DM l yX8_sheet cX8_sheet 4 (some .int) D8rm_sheet D cy (dwd cy q X) ad [.ref (q 0), .int a1, .int a2, .int a3] τ (some (.int (o.1))) o.2 := by
  refine d_start RX8 rfl (by decide) (Nat.le_of_ble_eq_true rfl) ?_
  intro p e s m args below meth c fx sx hr hC ls hl
  have hx := fx.1
  have hb := fx.2.1
  have hR : 2 ≤ (D8rm_sheet).frames ∧ 46 ≤ (D8rm_sheet).locals := ⟨Nat.le_refl _, Nat.le_refl _⟩
  have hf : 0 ≤ (D8rm_sheet).cells ∧ 0 ≤ (D8rm_sheet).slots := ⟨Nat.zero_le _, Nat.zero_le _⟩
  have hl : lv_has ls 4 [(0, .ref (q 0)), (1, .int a1), (2, .int a2), (3, .int a3)] := hl
  unfold D8m_sheet at hm
  refine lv_aload_n hx hb dX8_sheet_0 rfl (lv_at hl 0 rfl) ?_
  refine D8g_10 fx hC k_40 dX8_sheet_1 ?_
  refine lv_iload_n hx hb dX8_sheet_4 rfl (lv_at hl 1 rfl) ?_
  refine lv_iload_n hx hb dX8_sheet_5 rfl (lv_at hl 2 rfl) ?_
  refine lv_iload_n hx hb dX8_sheet_6 rfl (lv_at hl 3 rfl) ?_
  obtain ⟨r_3, τ_2, e_1, hm⟩ := b2_in hm
  refine d_callVi (ci := 1) (As := [.int a1, .int a2, .int a3]) (rest := []) fx sx hC dw_w (D1c_layOut l τ a1 a2 a3 e_1) k_990 D1k_layOut D1h_layOut rfl rfl (O_at O1) ⟨rfl, rfl⟩ ⟨Nat.le_trans (Nat.le_of_ble_eq_true rfl) hR.1, Nat.le_trans (Nat.le_of_ble_eq_true rfl) hR.2⟩ hf rfl hl.1 rfl (Nat.le_of_ble_eq_true rfl) dX8_sheet_7 (fun H locs hC => ?_)
  cases hm
  exact g_iret fx hr hC rfl dX8_sheet_10
def D8m_cell (τ : DS) (a1 : Int32) (a2 : Int32) (a3 : Int32) : Option (Int32 × DS) :=
  b2 (D1m_fill τ a1 a2 a3) (fun r_3 τ_2 => some (r_3, τ_2))
abbrev D8rm_cell : Room := { frames := 3, cells := 0, slots := 0, locals := 66 }
set_option maxRecDepth 100000 in
set_option maxHeartbeats 4000000 in
theorem D8c_cell (l : Launch) {D : va_G} {cy : Nat → ClassId} {ad : List Nat} {q : Nat → Nat} {X : va_W} (τ : DS) (a1 : Int32) (a2 : Int32) (a3 : Int32) {o : Int32 × DS} (hm : D8m_cell τ a1 a2 a3 = some o) : DM l yX8_cell cX8_cell 4 (some .int) D8rm_cell D cy (dwd cy q X) ad [.ref (q 0), .int a1, .int a2, .int a3] τ (some (.int (o.1))) o.2 := by
  refine d_start RX8 rfl (by decide) (Nat.le_of_ble_eq_true rfl) ?_
  intro p e s m args below meth c fx sx hr hC ls hl
  have hx := fx.1
  have hb := fx.2.1
  have hR : 3 ≤ (D8rm_cell).frames ∧ 66 ≤ (D8rm_cell).locals := ⟨Nat.le_refl _, Nat.le_refl _⟩
  have hf : 0 ≤ (D8rm_cell).cells ∧ 0 ≤ (D8rm_cell).slots := ⟨Nat.zero_le _, Nat.zero_le _⟩
  have hl : lv_has ls 4 [(0, .ref (q 0)), (1, .int a1), (2, .int a2), (3, .int a3)] := hl
  unfold D8m_cell at hm
  refine lv_aload_n hx hb dX8_cell_0 rfl (lv_at hl 0 rfl) ?_
  refine D8g_10 fx hC k_40 dX8_cell_1 ?_
  refine lv_iload_n hx hb dX8_cell_4 rfl (lv_at hl 1 rfl) ?_
  refine lv_iload_n hx hb dX8_cell_5 rfl (lv_at hl 2 rfl) ?_
  refine lv_iload_n hx hb dX8_cell_6 rfl (lv_at hl 3 rfl) ?_
  obtain ⟨r_3, τ_2, e_1, hm⟩ := b2_in hm
  refine d_callVi (ci := 1) (As := [.int a1, .int a2, .int a3]) (rest := []) fx sx hC dw_w (D1c_fill l τ a1 a2 a3 e_1) k_1006 D1k_fill D1h_fill rfl rfl (O_at O1) ⟨rfl, rfl⟩ ⟨Nat.le_trans (Nat.le_of_ble_eq_true rfl) hR.1, Nat.le_trans (Nat.le_of_ble_eq_true rfl) hR.2⟩ hf rfl hl.1 rfl (Nat.le_of_ble_eq_true rfl) dX8_cell_7 (fun H locs hC => ?_)
  cases hm
  exact g_iret fx hr hC rfl dX8_cell_10
def D8m_lay (τ : DS) (a1 : Int32) (a2 : Int32) (a3 : Int32) : Option (Int32 × DS) :=
  b1 (D1m_refusalOfThree τ a1 a2 a3) (fun r_2 => if r_2 = (0 : Int32) then (b1 (D1m_item τ a1 a3) (fun r_5 => b1 (D1m_item τ a1 (a3 + (1 : Int32))) (fun r_7 => b1 (D1m_item τ a1 (a3 + (2 : Int32))) (fun r_9 => b2 (D8m_road τ r_5 r_7 r_9) (fun r_12 τ_11 => some (r_12, τ_11)))))) else (some (r_2, τ)))
abbrev D8rm_lay : Room := { frames := 3, cells := 0, slots := 0, locals := 86 }
set_option maxRecDepth 100000 in
set_option maxHeartbeats 4000000 in
theorem D8c_lay (l : Launch) {D : va_G} {cy : Nat → ClassId} {ad : List Nat} {q : Nat → Nat} {X : va_W} (τ : DS) (a1 : Int32) (a2 : Int32) (a3 : Int32) {o : Int32 × DS} (hm : D8m_lay τ a1 a2 a3 = some o) : DM l yX8_lay cX8_lay 5 (some .int) D8rm_lay D cy (dwd cy q X) ad [.ref (q 0), .int a1, .int a2, .int a3] τ (some (.int (o.1))) o.2 := by
  refine d_start RX8 rfl (by decide) (Nat.le_of_ble_eq_true rfl) ?_
  intro p e s m args below meth c fx sx hr hC ls hl
  have hx := fx.1
  have hb := fx.2.1
  have hR : 3 ≤ (D8rm_lay).frames ∧ 86 ≤ (D8rm_lay).locals := ⟨Nat.le_refl _, Nat.le_refl _⟩
  have hf : 0 ≤ (D8rm_lay).cells ∧ 0 ≤ (D8rm_lay).slots := ⟨Nat.zero_le _, Nat.zero_le _⟩
  have hl : lv_has ls 5 [(0, .ref (q 0)), (1, .int a1), (2, .int a2), (3, .int a3)] := hl
  unfold D8m_lay at hm
  refine lv_aload_n hx hb dX8_lay_0 rfl (lv_at hl 0 rfl) ?_
  refine D8g_10 fx hC k_40 dX8_lay_1 ?_
  refine lv_iload_n hx hb dX8_lay_4 rfl (lv_at hl 1 rfl) ?_
  refine lv_iload_n hx hb dX8_lay_5 rfl (lv_at hl 2 rfl) ?_
  refine lv_iload_n hx hb dX8_lay_6 rfl (lv_at hl 3 rfl) ?_
  obtain ⟨r_2, e_1, hm⟩ := b1_in hm
  refine d_callVi (ci := 1) (As := [.int a1, .int a2, .int a3]) (rest := []) fx sx hC dw_w (D1c_refusalOfThree l τ a1 a2 a3 e_1) k_1025 D1k_refusalOfThree D1h_refusalOfThree rfl rfl (O_at O1) ⟨rfl, rfl⟩ ⟨Nat.le_trans (Nat.le_of_ble_eq_true rfl) hR.1, Nat.le_trans (Nat.le_of_ble_eq_true rfl) hR.2⟩ hf rfl hl.1 rfl (Nat.le_of_ble_eq_true rfl) dX8_lay_7 (fun H locs hC => ?_)
  refine lv_istore (lv' := [(4, .int r_2), (0, .ref (q 0)), (1, .int a1), (2, .int a2), (3, .int a3)]) hx hb dX8_lay_10 hl (by decide) rfl (fun ls hl => ?_)
  refine lv_iload hx hb dX8_lay_12 (lv_at hl 0 rfl) ?_
  refine lv_if_eq (tgt := 20) hx hb dX8_lay_14 (by decide) (fun c_3 => ?_) (fun c_3 => ?_)
  · replace hm := ifp hm c_3
    refine lv_aload_n hx hb dX8_lay_20 rfl (lv_at hl 1 rfl) ?_
    refine lv_aload_n hx hb dX8_lay_21 rfl (lv_at hl 1 rfl) ?_
    refine D8g_10 fx hC k_40 dX8_lay_22 ?_
    refine lv_iload_n hx hb dX8_lay_25 rfl (lv_at hl 2 rfl) ?_
    refine lv_iload_n hx hb dX8_lay_26 rfl (lv_at hl 4 rfl) ?_
    obtain ⟨r_5, e_4, hm⟩ := b1_in hm
    refine d_callVi (ci := 1) (As := [.int a1, .int a3]) (rest := [.ref (q 0)]) fx sx hC dw_w (D1c_item l τ a1 a3 e_4) k_1029 D1k_item D1h_item rfl rfl (O_at O1) ⟨rfl, rfl⟩ ⟨Nat.le_trans (Nat.le_of_ble_eq_true rfl) hR.1, Nat.le_trans (Nat.le_of_ble_eq_true rfl) hR.2⟩ hf rfl hl.1 rfl (Nat.le_of_ble_eq_true rfl) dX8_lay_27 (fun H locs hC => ?_)
    refine lv_aload_n hx hb dX8_lay_30 rfl (lv_at hl 1 rfl) ?_
    refine D8g_10 fx hC k_40 dX8_lay_31 ?_
    refine lv_iload_n hx hb dX8_lay_34 rfl (lv_at hl 2 rfl) ?_
    refine lv_iload_n hx hb dX8_lay_35 rfl (lv_at hl 4 rfl) ?_
    refine lv_iconst (v := (1 : Int32)) hx hb dX8_lay_36 (by decide) ?_
    refine lv_iadd hx hb dX8_lay_37 ?_
    obtain ⟨r_7, e_6, hm⟩ := b1_in hm
    refine d_callVi (ci := 1) (As := [.int a1, .int (a3 + (1 : Int32))]) (rest := [.int r_5, .ref (q 0)]) fx sx hC dw_w (D1c_item l τ a1 (a3 + (1 : Int32)) e_6) k_1029 D1k_item D1h_item rfl rfl (O_at O1) ⟨rfl, rfl⟩ ⟨Nat.le_trans (Nat.le_of_ble_eq_true rfl) hR.1, Nat.le_trans (Nat.le_of_ble_eq_true rfl) hR.2⟩ hf rfl hl.1 rfl (Nat.le_of_ble_eq_true rfl) dX8_lay_38 (fun H locs hC => ?_)
    refine lv_aload_n hx hb dX8_lay_41 rfl (lv_at hl 1 rfl) ?_
    refine D8g_10 fx hC k_40 dX8_lay_42 ?_
    refine lv_iload_n hx hb dX8_lay_45 rfl (lv_at hl 2 rfl) ?_
    refine lv_iload_n hx hb dX8_lay_46 rfl (lv_at hl 4 rfl) ?_
    refine lv_iconst (v := (2 : Int32)) hx hb dX8_lay_47 (by decide) ?_
    refine lv_iadd hx hb dX8_lay_48 ?_
    obtain ⟨r_9, e_8, hm⟩ := b1_in hm
    refine d_callVi (ci := 1) (As := [.int a1, .int (a3 + (2 : Int32))]) (rest := [.int r_7, .int r_5, .ref (q 0)]) fx sx hC dw_w (D1c_item l τ a1 (a3 + (2 : Int32)) e_8) k_1029 D1k_item D1h_item rfl rfl (O_at O1) ⟨rfl, rfl⟩ ⟨Nat.le_trans (Nat.le_of_ble_eq_true rfl) hR.1, Nat.le_trans (Nat.le_of_ble_eq_true rfl) hR.2⟩ hf rfl hl.1 rfl (Nat.le_of_ble_eq_true rfl) dX8_lay_49 (fun H locs hC => ?_)
    obtain ⟨r_12, τ_11, e_10, hm⟩ := b2_in hm
    refine d_callVi (ci := 8) (As := [.int r_5, .int r_7, .int r_9]) (rest := []) fx sx hC dw_w (D8c_road l τ r_5 r_7 r_9 e_10) k_1033 D8k_road D8h_road rfl rfl (O_at O8) ⟨rfl, rfl⟩ ⟨Nat.le_trans (Nat.le_of_ble_eq_true rfl) hR.1, Nat.le_trans (Nat.le_of_ble_eq_true rfl) hR.2⟩ hf rfl hl.1 rfl (Nat.le_of_ble_eq_true rfl) dX8_lay_52 (fun H locs hC => ?_)
    cases hm
    exact g_iret fx hr hC rfl dX8_lay_55
  · replace hm := ifn hm c_3
    refine lv_iload hx hb dX8_lay_17 (lv_at hl 0 rfl) ?_
    cases hm
    exact g_iret fx hr hC rfl dX8_lay_19
def D8m_shelf (τ : DS) (a1 : Int32) (a2 : Int32) (a3 : Int32) : Option (Int32 × DS) :=
  if (D1m_isNumber τ a1) = (0 : Int32) then (some ((-2 : Int32), τ)) else (if a2 = (0 : Int32) then (bq (D8m_family τ a3) (some ((-2 : Int32), τ)) (fun r_4 => b1 (D7m_size r_4 τ) (fun r_7 => b2 (D1m_hold τ a1 (τ.1 (47 + r_4) 0) r_7) (fun r_10 τ_9 => some (r_10, τ_9))))) else (if a2 = (1 : Int32) then (if (D1m_isNumber τ a3) = (0 : Int32) then (some ((-2 : Int32), τ)) else (b2 (D1m_holdSheet τ a1 a3) (fun r_15 τ_14 => some (r_15, τ_14)))) else (if a2 = (2 : Int32) then (b2 (D1m_hold τ a1 (-1 : Int32) (0 : Int32)) (fun r_19 τ_18 => some (r_19, τ_18))) else (some ((-2 : Int32), τ)))))
abbrev D8rm_shelf : Room := { frames := 3, cells := 0, slots := 0, locals := 67 }
set_option maxRecDepth 100000 in
set_option maxHeartbeats 4000000 in
theorem D8c_shelf (l : Launch) {D : va_G} {cy : Nat → ClassId} {ad : List Nat} {q : Nat → Nat} {X : va_W} (τ : DS) (a1 : Int32) (a2 : Int32) (a3 : Int32) {o : Int32 × DS} (hm : D8m_shelf τ a1 a2 a3 = some o) : DM l yX8_shelf cX8_shelf 5 (some .int) D8rm_shelf D cy (dwd cy q X) ad [.ref (q 0), .int a1, .int a2, .int a3] τ (some (.int (o.1))) o.2 := by
  refine d_start RX8 rfl (by decide) (Nat.le_of_ble_eq_true rfl) ?_
  intro p e s m args below meth c fx sx hr hC ls hl
  have hx := fx.1
  have hb := fx.2.1
  have hR : 3 ≤ (D8rm_shelf).frames ∧ 67 ≤ (D8rm_shelf).locals := ⟨Nat.le_refl _, Nat.le_refl _⟩
  have hf : 0 ≤ (D8rm_shelf).cells ∧ 0 ≤ (D8rm_shelf).slots := ⟨Nat.zero_le _, Nat.zero_le _⟩
  have hl : lv_has ls 5 [(0, .ref (q 0)), (1, .int a1), (2, .int a2), (3, .int a3)] := hl
  unfold D8m_shelf at hm
  refine lv_aload_n hx hb dX8_shelf_0 rfl (lv_at hl 0 rfl) ?_
  refine D8g_10 fx hC k_40 dX8_shelf_1 ?_
  refine lv_iload_n hx hb dX8_shelf_4 rfl (lv_at hl 1 rfl) ?_
  refine d_callVi (ci := 1) (As := [.int a1]) (rest := []) fx sx hC dw_w (D1c_isNumber l τ a1) k_1043 D1k_isNumber D1h_isNumber rfl rfl (O_at O1) ⟨rfl, rfl⟩ ⟨Nat.le_trans (Nat.le_of_ble_eq_true rfl) hR.1, Nat.le_trans (Nat.le_of_ble_eq_true rfl) hR.2⟩ hf rfl hl.1 rfl (Nat.le_of_ble_eq_true rfl) dX8_shelf_5 (fun H locs hC => ?_)
  refine lv_if_ne (tgt := 14) hx hb dX8_shelf_8 (by decide) (fun c_1 => ?_) (fun c_1 => ?_)
  · replace hm := ifn hm c_1
    refine lv_iload_n hx hb dX8_shelf_14 rfl (lv_at hl 2 rfl) ?_
    by_cases c_2 : a2 = (0 : Int32)
    · replace hm := ifp hm c_2
      have ec_2 : (a2 : Int32).toInt = 0 := by rw [c_2]; rfl
      refine lv_tableIn (off := 25) (tgt := 40) hx hb dX8_shelf_15 (by rw [ec_2]; decide) (by rw [ec_2]; decide) (by rw [ec_2]; rfl) (by decide) ?_
      refine lv_aload_n hx hb dX8_shelf_40 rfl (lv_at hl 0 rfl) ?_
      refine lv_iload_n hx hb dX8_shelf_41 rfl (lv_at hl 3 rfl) ?_
      rcases bq_in hm with ⟨e_3, hm⟩ | ⟨r_4, e_3, h_5, hm⟩
      · refine d_callVn (ci := 8) (As := [.int a3]) (rest := []) fx sx hC dw_w (D8c_family l τ a3 e_3) k_430 D8k_family D8h_family rfl rfl (O_at O8) ⟨rfl, rfl⟩ ⟨Nat.le_trans (Nat.le_of_ble_eq_true rfl) hR.1, Nat.le_trans (Nat.le_of_ble_eq_true rfl) hR.2⟩ hf rfl hl.1 rfl (Nat.le_of_ble_eq_true rfl) dX8_shelf_42 (fun H locs hC => ?_)
        refine lv_astoreN (lv' := [(4, .null), (0, .ref (q 0)), (1, .int a1), (2, .int a2), (3, .int a3)]) hx hb dX8_shelf_45 hl (by decide) rfl (fun ls hl => ?_)
        refine lv_aloadN hx hb dX8_shelf_47 (lv_at hl 0 rfl) ?_
        refine lv_ifnonnullN hx hb dX8_shelf_49 ?_
        refine lv_bipush (v := (-2 : Int32)) hx hb dX8_shelf_52 (by decide) ?_
        refine lv_goto (tgt := 75) hx hb dX8_shelf_54 (by decide) ?_
        cases hm
        exact g_iret fx hr hC rfl dX8_shelf_75
      · refine d_callVr (ci := 8) (As := [.int a3]) (rest := []) fx sx hC dw_w (D8c_family l τ a3 e_3) k_430 D8k_family D8h_family rfl rfl (O_at O8) ⟨rfl, rfl⟩ ⟨Nat.le_trans (Nat.le_of_ble_eq_true rfl) hR.1, Nat.le_trans (Nat.le_of_ble_eq_true rfl) hR.2⟩ hf rfl hl.1 rfl (Nat.le_of_ble_eq_true rfl) dX8_shelf_42 (fun H locs hC => ?_)
        refine lv_astore (lv' := [(4, .ref (q (47 + r_4))), (0, .ref (q 0)), (1, .int a1), (2, .int a2), (3, .int a3)]) hx hb dX8_shelf_45 hl (by decide) rfl (fun ls hl => ?_)
        refine lv_aload hx hb dX8_shelf_47 (lv_at hl 0 rfl) ?_
        refine lv_ifnonnull (tgt := 57) hx hb dX8_shelf_49 (by decide) ?_
        refine lv_aload_n hx hb dX8_shelf_57 rfl (lv_at hl 1 rfl) ?_
        refine D8g_10 fx hC k_40 dX8_shelf_58 ?_
        refine lv_iload_n hx hb dX8_shelf_61 rfl (lv_at hl 2 rfl) ?_
        refine lv_aload hx hb dX8_shelf_62 (lv_at hl 0 rfl) ?_
        refine D7g_0 h_5 fx hC k_685 dX8_shelf_64 ?_
        refine lv_aload hx hb dX8_shelf_67 (lv_at hl 0 rfl) ?_
        obtain ⟨r_7, e_6, hm⟩ := b1_in hm
        refine d_callVi (ci := 7) (As := []) (rest := [.int (τ.1 (47 + r_4) 0), .int a1, .ref (q 33)]) fx sx hC dw_w (D7c_size l r_4 h_5 τ e_6) k_461 D7k_size D7h_size rfl rfl (O_at (K7 h_5)) ⟨rfl, rfl⟩ ⟨Nat.le_trans (Nat.le_of_ble_eq_true rfl) hR.1, Nat.le_trans (Nat.le_of_ble_eq_true rfl) hR.2⟩ hf rfl hl.1 rfl (Nat.le_of_ble_eq_true rfl) dX8_shelf_69 (fun H locs hC => ?_)
        obtain ⟨r_10, τ_9, e_8, hm⟩ := b2_in hm
        refine d_callVi (ci := 1) (As := [.int a1, .int (τ.1 (47 + r_4) 0), .int r_7]) (rest := []) fx sx hC dw_w (D1c_hold l τ a1 (τ.1 (47 + r_4) 0) r_7 e_8) k_1044 D1k_hold D1h_hold rfl rfl (O_at O1) ⟨rfl, rfl⟩ ⟨Nat.le_trans (Nat.le_of_ble_eq_true rfl) hR.1, Nat.le_trans (Nat.le_of_ble_eq_true rfl) hR.2⟩ hf rfl hl.1 rfl (Nat.le_of_ble_eq_true rfl) dX8_shelf_72 (fun H locs hC => ?_)
        cases hm
        exact g_iret fx hr hC rfl dX8_shelf_75
    · replace hm := ifn hm c_2
      by_cases c_11 : a2 = (1 : Int32)
      · replace hm := ifp hm c_11
        have ec_11 : (a2 : Int32).toInt = 1 := by rw [c_11]; rfl
        refine lv_tableIn (off := 61) (tgt := 76) hx hb dX8_shelf_15 (by rw [ec_11]; decide) (by rw [ec_11]; decide) (by rw [ec_11]; rfl) (by decide) ?_
        refine lv_aload_n hx hb dX8_shelf_76 rfl (lv_at hl 0 rfl) ?_
        refine D8g_10 fx hC k_40 dX8_shelf_77 ?_
        refine lv_iload_n hx hb dX8_shelf_80 rfl (lv_at hl 3 rfl) ?_
        refine d_callVi (ci := 1) (As := [.int a3]) (rest := []) fx sx hC dw_w (D1c_isNumber l τ a3) k_1043 D1k_isNumber D1h_isNumber rfl rfl (O_at O1) ⟨rfl, rfl⟩ ⟨Nat.le_trans (Nat.le_of_ble_eq_true rfl) hR.1, Nat.le_trans (Nat.le_of_ble_eq_true rfl) hR.2⟩ hf rfl hl.1 rfl (Nat.le_of_ble_eq_true rfl) dX8_shelf_81 (fun H locs hC => ?_)
        refine lv_if_eq (tgt := 99) hx hb dX8_shelf_84 (by decide) (fun c_12 => ?_) (fun c_12 => ?_)
        · replace hm := ifp hm c_12
          refine lv_bipush (v := (-2 : Int32)) hx hb dX8_shelf_99 (by decide) ?_
          cases hm
          exact g_iret fx hr hC rfl dX8_shelf_101
        · replace hm := ifn hm c_12
          refine lv_aload_n hx hb dX8_shelf_87 rfl (lv_at hl 0 rfl) ?_
          refine D8g_10 fx hC k_40 dX8_shelf_88 ?_
          refine lv_iload_n hx hb dX8_shelf_91 rfl (lv_at hl 1 rfl) ?_
          refine lv_iload_n hx hb dX8_shelf_92 rfl (lv_at hl 3 rfl) ?_
          obtain ⟨r_15, τ_14, e_13, hm⟩ := b2_in hm
          refine d_callVi (ci := 1) (As := [.int a1, .int a3]) (rest := []) fx sx hC dw_w (D1c_holdSheet l τ a1 a3 e_13) k_1048 D1k_holdSheet D1h_holdSheet rfl rfl (O_at O1) ⟨rfl, rfl⟩ ⟨Nat.le_trans (Nat.le_of_ble_eq_true rfl) hR.1, Nat.le_trans (Nat.le_of_ble_eq_true rfl) hR.2⟩ hf rfl hl.1 rfl (Nat.le_of_ble_eq_true rfl) dX8_shelf_93 (fun H locs hC => ?_)
          refine lv_goto (tgt := 101) hx hb dX8_shelf_96 (by decide) ?_
          cases hm
          exact g_iret fx hr hC rfl dX8_shelf_101
      · replace hm := ifn hm c_11
        by_cases c_16 : a2 = (2 : Int32)
        · replace hm := ifp hm c_16
          have ec_16 : (a2 : Int32).toInt = 2 := by rw [c_16]; rfl
          refine lv_tableIn (off := 87) (tgt := 102) hx hb dX8_shelf_15 (by rw [ec_16]; decide) (by rw [ec_16]; decide) (by rw [ec_16]; rfl) (by decide) ?_
          refine lv_aload_n hx hb dX8_shelf_102 rfl (lv_at hl 0 rfl) ?_
          refine D8g_10 fx hC k_40 dX8_shelf_103 ?_
          refine lv_iload_n hx hb dX8_shelf_106 rfl (lv_at hl 1 rfl) ?_
          refine lv_iconst (v := (-1 : Int32)) hx hb dX8_shelf_107 (by decide) ?_
          refine lv_iconst (v := (0 : Int32)) hx hb dX8_shelf_108 (by decide) ?_
          obtain ⟨r_19, τ_18, e_17, hm⟩ := b2_in hm
          refine d_callVi (ci := 1) (As := [.int a1, .int (-1 : Int32), .int (0 : Int32)]) (rest := []) fx sx hC dw_w (D1c_hold l τ a1 (-1 : Int32) (0 : Int32) e_17) k_1044 D1k_hold D1h_hold rfl rfl (O_at O1) ⟨rfl, rfl⟩ ⟨Nat.le_trans (Nat.le_of_ble_eq_true rfl) hR.1, Nat.le_trans (Nat.le_of_ble_eq_true rfl) hR.2⟩ hf rfl hl.1 rfl (Nat.le_of_ble_eq_true rfl) dX8_shelf_109 (fun H locs hC => ?_)
          cases hm
          exact g_iret fx hr hC rfl dX8_shelf_112
        · replace hm := ifn hm c_16
          have nc_2 : ¬ (a2 : Int32).toInt = 0 := lv_neT c_2 rfl
          have nc_11 : ¬ (a2 : Int32).toInt = 1 := lv_neT c_11 rfl
          have nc_16 : ¬ (a2 : Int32).toInt = 2 := lv_neT c_16 rfl
          refine lv_tableOut (tgt := 113) hx hb dX8_shelf_15 (by omega) (by decide) ?_
          refine lv_bipush (v := (-2 : Int32)) hx hb dX8_shelf_113 (by decide) ?_
          cases hm
          exact g_iret fx hr hC rfl dX8_shelf_115
  · replace hm := ifp hm c_1
    refine lv_bipush (v := (-2 : Int32)) hx hb dX8_shelf_11 (by decide) ?_
    cases hm
    exact g_iret fx hr hC rfl dX8_shelf_13
def D8m_taken (τ : DS) (a1 : Int32) (a2 : Int32) : Option Int32 :=
  b1 (D1m_heldFor τ a1 a2) (fun r_2 => some r_2)
abbrev D8rm_taken : Room := { frames := 2, cells := 0, slots := 0, locals := 46 }
set_option maxRecDepth 100000 in
set_option maxHeartbeats 4000000 in
theorem D8c_taken (l : Launch) {D : va_G} {cy : Nat → ClassId} {ad : List Nat} {q : Nat → Nat} {X : va_W} (τ : DS) (a1 : Int32) (a2 : Int32) {o : Int32} (hm : D8m_taken τ a1 a2 = some o) : DM l yX8_taken cX8_taken 3 (some .int) D8rm_taken D cy (dwd cy q X) ad [.ref (q 0), .int a1, .int a2] τ (some (.int (o))) τ := by
  refine d_start RX8 rfl (by decide) (Nat.le_of_ble_eq_true rfl) ?_
  intro p e s m args below meth c fx sx hr hC ls hl
  have hx := fx.1
  have hb := fx.2.1
  have hR : 2 ≤ (D8rm_taken).frames ∧ 46 ≤ (D8rm_taken).locals := ⟨Nat.le_refl _, Nat.le_refl _⟩
  have hf : 0 ≤ (D8rm_taken).cells ∧ 0 ≤ (D8rm_taken).slots := ⟨Nat.zero_le _, Nat.zero_le _⟩
  have hl : lv_has ls 3 [(0, .ref (q 0)), (1, .int a1), (2, .int a2)] := hl
  unfold D8m_taken at hm
  refine lv_aload_n hx hb dX8_taken_0 rfl (lv_at hl 0 rfl) ?_
  refine D8g_10 fx hC k_40 dX8_taken_1 ?_
  refine lv_iload_n hx hb dX8_taken_4 rfl (lv_at hl 1 rfl) ?_
  refine lv_iload_n hx hb dX8_taken_5 rfl (lv_at hl 2 rfl) ?_
  obtain ⟨r_2, e_1, hm⟩ := b1_in hm
  refine d_callVi (ci := 1) (As := [.int a1, .int a2]) (rest := []) fx sx hC dw_w (D1c_heldFor l τ a1 a2 e_1) k_1061 D1k_heldFor D1h_heldFor rfl rfl (O_at O1) ⟨rfl, rfl⟩ ⟨Nat.le_trans (Nat.le_of_ble_eq_true rfl) hR.1, Nat.le_trans (Nat.le_of_ble_eq_true rfl) hR.2⟩ hf rfl hl.1 rfl (Nat.le_of_ble_eq_true rfl) dX8_taken_6 (fun H locs hC => ?_)
  cases hm
  exact g_iret fx hr hC rfl dX8_taken_9
def D8m_act (τ : DS) (a1 : Int32) (a2 : Int32) (a3 : Int32) : Option (Int32 × DS) :=
  b1 (D0m_forget τ) (fun τ_2 => bq (D8m_family τ_2 a1) (some ((0 : Int32), τ_2)) (fun r_4 => if a2 < (0 : Int32) then (some ((0 : Int32), τ_2)) else (if a2 ≤ (2 : Int32) then (b1 (D7m_size r_4 τ_2) (fun r_9 => b2 (D0m_begin τ_2 (τ_2.1 (47 + r_4) 0) r_9 a2 a3) (fun r_12 τ_11 => some (r_12, τ_11)))) else (some ((0 : Int32), τ_2)))))
abbrev D8rm_act : Room := { frames := 27, cells := 0, slots := 0, locals := 695 }
set_option maxRecDepth 100000 in
set_option maxHeartbeats 4000000 in
theorem D8c_act (l : Launch) {D : va_G} {cy : Nat → ClassId} {ad : List Nat} {q : Nat → Nat} {X : va_W} (τ : DS) (a1 : Int32) (a2 : Int32) (a3 : Int32) {o : Int32 × DS} (hm : D8m_act τ a1 a2 a3 = some o) : DM l yX8_act cX8_act 5 (some .int) D8rm_act D cy (dwd cy q X) ad [.ref (q 0), .int a1, .int a2, .int a3] τ (some (.int (o.1))) o.2 := by
  refine d_start RX8 rfl (by decide) (Nat.le_of_ble_eq_true rfl) ?_
  intro p e s m args below meth c fx sx hr hC ls hl
  have hx := fx.1
  have hb := fx.2.1
  have hR : 27 ≤ (D8rm_act).frames ∧ 695 ≤ (D8rm_act).locals := ⟨Nat.le_refl _, Nat.le_refl _⟩
  have hf : 0 ≤ (D8rm_act).cells ∧ 0 ≤ (D8rm_act).slots := ⟨Nat.zero_le _, Nat.zero_le _⟩
  have hl : lv_has ls 5 [(0, .ref (q 0)), (1, .int a1), (2, .int a2), (3, .int a3)] := hl
  unfold D8m_act at hm
  refine lv_aload_n hx hb dX8_act_0 rfl (lv_at hl 0 rfl) ?_
  refine D8g_11 fx hC k_44 dX8_act_1 ?_
  obtain ⟨τ_2, e_1, hm⟩ := b1_in hm
  refine d_callVv (ci := 0) (As := []) (rest := []) fx sx hC dw_w (D0c_forget l τ e_1) k_1079 D0k_forget D0h_forget rfl rfl (O_at O0) ⟨rfl, rfl⟩ ⟨Nat.le_trans (Nat.le_of_ble_eq_true rfl) hR.1, Nat.le_trans (Nat.le_of_ble_eq_true rfl) hR.2⟩ hf rfl hl.1 rfl (Nat.le_of_ble_eq_true rfl) dX8_act_4 (fun H locs hC => ?_)
  refine lv_aload_n hx hb dX8_act_7 rfl (lv_at hl 0 rfl) ?_
  refine lv_iload_n hx hb dX8_act_8 rfl (lv_at hl 1 rfl) ?_
  rcases bq_in hm with ⟨e_3, hm⟩ | ⟨r_4, e_3, h_5, hm⟩
  · refine d_callVn (ci := 8) (As := [.int a1]) (rest := []) fx sx hC dw_w (D8c_family l τ_2 a1 e_3) k_430 D8k_family D8h_family rfl rfl (O_at O8) ⟨rfl, rfl⟩ ⟨Nat.le_trans (Nat.le_of_ble_eq_true rfl) hR.1, Nat.le_trans (Nat.le_of_ble_eq_true rfl) hR.2⟩ hf rfl hl.1 rfl (Nat.le_of_ble_eq_true rfl) dX8_act_9 (fun H locs hC => ?_)
    refine lv_astoreN (lv' := [(4, .null), (0, .ref (q 0)), (1, .int a1), (2, .int a2), (3, .int a3)]) hx hb dX8_act_12 hl (by decide) rfl (fun ls hl => ?_)
    refine lv_aloadN hx hb dX8_act_14 (lv_at hl 0 rfl) ?_
    refine lv_ifnullN (tgt := 28) hx hb dX8_act_16 (by decide) ?_
    refine lv_iconst (v := (0 : Int32)) hx hb dX8_act_28 (by decide) ?_
    cases hm
    exact g_iret fx hr hC rfl dX8_act_29
  · refine d_callVr (ci := 8) (As := [.int a1]) (rest := []) fx sx hC dw_w (D8c_family l τ_2 a1 e_3) k_430 D8k_family D8h_family rfl rfl (O_at O8) ⟨rfl, rfl⟩ ⟨Nat.le_trans (Nat.le_of_ble_eq_true rfl) hR.1, Nat.le_trans (Nat.le_of_ble_eq_true rfl) hR.2⟩ hf rfl hl.1 rfl (Nat.le_of_ble_eq_true rfl) dX8_act_9 (fun H locs hC => ?_)
    refine lv_astore (lv' := [(4, .ref (q (47 + r_4))), (0, .ref (q 0)), (1, .int a1), (2, .int a2), (3, .int a3)]) hx hb dX8_act_12 hl (by decide) rfl (fun ls hl => ?_)
    refine lv_aload hx hb dX8_act_14 (lv_at hl 0 rfl) ?_
    refine lv_ifnull hx hb dX8_act_16 ?_
    refine lv_iload_n hx hb dX8_act_19 rfl (lv_at hl 3 rfl) ?_
    refine lv_if_lt (tgt := 28) hx hb dX8_act_20 (by decide) (fun c_6 => ?_) (fun c_6 => ?_)
    · replace hm := ifp hm c_6
      refine lv_iconst (v := (0 : Int32)) hx hb dX8_act_28 (by decide) ?_
      cases hm
      exact g_iret fx hr hC rfl dX8_act_29
    · replace hm := ifn hm c_6
      refine lv_iload_n hx hb dX8_act_23 rfl (lv_at hl 3 rfl) ?_
      refine lv_iconst (v := (2 : Int32)) hx hb dX8_act_24 (by decide) ?_
      refine lv_icmp_le (tgt := 30) hx hb dX8_act_25 (by decide) (fun c_7 => ?_) (fun c_7 => ?_)
      · replace hm := ifp hm c_7
        refine lv_aload_n hx hb dX8_act_30 rfl (lv_at hl 1 rfl) ?_
        refine D8g_11 fx hC k_44 dX8_act_31 ?_
        refine lv_aload hx hb dX8_act_34 (lv_at hl 0 rfl) ?_
        refine D7g_0 h_5 fx hC k_685 dX8_act_36 ?_
        refine lv_aload hx hb dX8_act_39 (lv_at hl 0 rfl) ?_
        obtain ⟨r_9, e_8, hm⟩ := b1_in hm
        refine d_callVi (ci := 7) (As := []) (rest := [.int (τ_2.1 (47 + r_4) 0), .ref (q 45)]) fx sx hC dw_w (D7c_size l r_4 h_5 τ_2 e_8) k_461 D7k_size D7h_size rfl rfl (O_at (K7 h_5)) ⟨rfl, rfl⟩ ⟨Nat.le_trans (Nat.le_of_ble_eq_true rfl) hR.1, Nat.le_trans (Nat.le_of_ble_eq_true rfl) hR.2⟩ hf rfl hl.1 rfl (Nat.le_of_ble_eq_true rfl) dX8_act_41 (fun H locs hC => ?_)
        refine lv_iload_n hx hb dX8_act_44 rfl (lv_at hl 3 rfl) ?_
        refine lv_iload_n hx hb dX8_act_45 rfl (lv_at hl 4 rfl) ?_
        obtain ⟨r_12, τ_11, e_10, hm⟩ := b2_in hm
        refine d_callVi (ci := 0) (As := [.int (τ_2.1 (47 + r_4) 0), .int r_9, .int a2, .int a3]) (rest := []) fx sx hC dw_w (D0c_begin l τ_2 (τ_2.1 (47 + r_4) 0) r_9 a2 a3 e_10) k_1084 D0k_begin D0h_begin rfl rfl (O_at O0) ⟨rfl, rfl⟩ ⟨Nat.le_trans (Nat.le_of_ble_eq_true rfl) hR.1, Nat.le_trans (Nat.le_of_ble_eq_true rfl) hR.2⟩ hf rfl hl.1 rfl (Nat.le_of_ble_eq_true rfl) dX8_act_46 (fun H locs hC => ?_)
        cases hm
        exact g_iret fx hr hC rfl dX8_act_49
      · replace hm := ifn hm c_7
        refine lv_iconst (v := (0 : Int32)) hx hb dX8_act_28 (by decide) ?_
        cases hm
        exact g_iret fx hr hC rfl dX8_act_29
def D8m_trace (τ : DS) (a1 : Int32) : Option Int32 :=
  b1 (D0m_kept τ a1) (fun r_2 => some r_2)
abbrev D8rm_trace : Room := { frames := 1, cells := 0, slots := 0, locals := 21 }
set_option maxRecDepth 100000 in
set_option maxHeartbeats 4000000 in
theorem D8c_trace (l : Launch) {D : va_G} {cy : Nat → ClassId} {ad : List Nat} {q : Nat → Nat} {X : va_W} (τ : DS) (a1 : Int32) {o : Int32} (hm : D8m_trace τ a1 = some o) : DM l yX8_trace cX8_trace 2 (some .int) D8rm_trace D cy (dwd cy q X) ad [.ref (q 0), .int a1] τ (some (.int (o))) τ := by
  refine d_start RX8 rfl (by decide) (Nat.le_of_ble_eq_true rfl) ?_
  intro p e s m args below meth c fx sx hr hC ls hl
  have hx := fx.1
  have hb := fx.2.1
  have hR : 1 ≤ (D8rm_trace).frames ∧ 21 ≤ (D8rm_trace).locals := ⟨Nat.le_refl _, Nat.le_refl _⟩
  have hf : 0 ≤ (D8rm_trace).cells ∧ 0 ≤ (D8rm_trace).slots := ⟨Nat.zero_le _, Nat.zero_le _⟩
  have hl : lv_has ls 2 [(0, .ref (q 0)), (1, .int a1)] := hl
  unfold D8m_trace at hm
  refine lv_aload_n hx hb dX8_trace_0 rfl (lv_at hl 0 rfl) ?_
  refine D8g_11 fx hC k_44 dX8_trace_1 ?_
  refine lv_iload_n hx hb dX8_trace_4 rfl (lv_at hl 1 rfl) ?_
  obtain ⟨r_2, e_1, hm⟩ := b1_in hm
  refine d_callVi (ci := 0) (As := [.int a1]) (rest := []) fx sx hC dw_w (D0c_kept l τ a1 e_1) k_1138 D0k_kept D0h_kept rfl rfl (O_at O0) ⟨rfl, rfl⟩ ⟨Nat.le_trans (Nat.le_of_ble_eq_true rfl) hR.1, Nat.le_trans (Nat.le_of_ble_eq_true rfl) hR.2⟩ hf rfl hl.1 rfl (Nat.le_of_ble_eq_true rfl) dX8_trace_5 (fun H locs hC => ?_)
  cases hm
  exact g_iret fx hr hC rfl dX8_trace_8
def D8m_there (τ : DS) (a1 : Int32) : Int32 :=
  if a1 = (0 : Int32) then ((τ.1 1 0)) else (if a1 = (1 : Int32) then ((τ.1 1 1)) else (if a1 = (2 : Int32) then ((τ.1 0 2)) else (if a1 = (3 : Int32) then ((τ.1 17 0)) else (if a1 = (4 : Int32) then ((τ.1 45 0)) else ((-2 : Int32))))))
abbrev D8rm_there : Room := { frames := 0, cells := 0, slots := 0, locals := 0 }
set_option maxRecDepth 100000 in
set_option maxHeartbeats 4000000 in
theorem D8c_there (l : Launch) {D : va_G} {cy : Nat → ClassId} {ad : List Nat} {q : Nat → Nat} {X : va_W} (τ : DS) (a1 : Int32) : DM l yX8_there cX8_there 2 (some .int) D8rm_there D cy (dwd cy q X) ad [.ref (q 0), .int a1] τ (some (.int (D8m_there τ a1))) τ := by
  refine d_start RX8 rfl (by decide) (Nat.le_of_ble_eq_true rfl) ?_
  intro p e s m args below meth c fx sx hr hC ls hl
  have hx := fx.1
  have hb := fx.2.1
  have hR : 0 ≤ (D8rm_there).frames ∧ 0 ≤ (D8rm_there).locals := ⟨Nat.le_refl _, Nat.le_refl _⟩
  have hf : 0 ≤ (D8rm_there).cells ∧ 0 ≤ (D8rm_there).slots := ⟨Nat.zero_le _, Nat.zero_le _⟩
  have hl : lv_has ls 2 [(0, .ref (q 0)), (1, .int a1)] := hl
  obtain ⟨o, hm⟩ : ∃ z, z = D8m_there τ a1 := ⟨_, rfl⟩
  rw [← hm]
  replace hm := hm.symm
  unfold D8m_there at hm
  refine lv_iload_n hx hb dX8_there_0 rfl (lv_at hl 1 rfl) ?_
  by_cases c_1 : a1 = (0 : Int32)
  · replace hm := ifp hm c_1
    have ec_1 : (a1 : Int32).toInt = 0 := by rw [c_1]; rfl
    refine lv_tableIn (off := 35) (tgt := 36) hx hb dX8_there_1 (by rw [ec_1]; decide) (by rw [ec_1]; decide) (by rw [ec_1]; rfl) (by decide) ?_
    refine lv_aload_n hx hb dX8_there_36 rfl (lv_at hl 0 rfl) ?_
    refine D8g_0 fx hC k_15 dX8_there_37 ?_
    refine D2g_0 fx hC k_347 dX8_there_40 ?_
    exact g_iret fx hr hC (by rw [← hm]) dX8_there_43
  · replace hm := ifn hm c_1
    by_cases c_2 : a1 = (1 : Int32)
    · replace hm := ifp hm c_2
      have ec_2 : (a1 : Int32).toInt = 1 := by rw [c_2]; rfl
      refine lv_tableIn (off := 43) (tgt := 44) hx hb dX8_there_1 (by rw [ec_2]; decide) (by rw [ec_2]; decide) (by rw [ec_2]; rfl) (by decide) ?_
      refine lv_aload_n hx hb dX8_there_44 rfl (lv_at hl 0 rfl) ?_
      refine D8g_0 fx hC k_15 dX8_there_45 ?_
      refine D2g_1 fx hC k_664 dX8_there_48 ?_
      exact g_iret fx hr hC (by rw [← hm]) dX8_there_51
    · replace hm := ifn hm c_2
      by_cases c_3 : a1 = (2 : Int32)
      · replace hm := ifp hm c_3
        have ec_3 : (a1 : Int32).toInt = 2 := by rw [c_3]; rfl
        refine lv_tableIn (off := 51) (tgt := 52) hx hb dX8_there_1 (by rw [ec_3]; decide) (by rw [ec_3]; decide) (by rw [ec_3]; rfl) (by decide) ?_
        refine lv_aload_n hx hb dX8_there_52 rfl (lv_at hl 0 rfl) ?_
        refine D8g_2 fx hC k_208 dX8_there_53 ?_
        exact g_iret fx hr hC (by rw [← hm]) dX8_there_56
      · replace hm := ifn hm c_3
        by_cases c_4 : a1 = (3 : Int32)
        · replace hm := ifp hm c_4
          have ec_4 : (a1 : Int32).toInt = 3 := by rw [c_4]; rfl
          refine lv_tableIn (off := 56) (tgt := 57) hx hb dX8_there_1 (by rw [ec_4]; decide) (by rw [ec_4]; decide) (by rw [ec_4]; rfl) (by decide) ?_
          refine lv_aload_n hx hb dX8_there_57 rfl (lv_at hl 0 rfl) ?_
          refine D8g_8 fx hC k_35 dX8_there_58 ?_
          refine D3g_0 (Or.inl rfl) fx hC k_1150 dX8_there_61 ?_
          exact g_iret fx hr hC (by rw [← hm]) dX8_there_64
        · replace hm := ifn hm c_4
          by_cases c_5 : a1 = (4 : Int32)
          · replace hm := ifp hm c_5
            have ec_5 : (a1 : Int32).toInt = 4 := by rw [c_5]; rfl
            refine lv_tableIn (off := 64) (tgt := 65) hx hb dX8_there_1 (by rw [ec_5]; decide) (by rw [ec_5]; decide) (by rw [ec_5]; rfl) (by decide) ?_
            refine lv_aload_n hx hb dX8_there_65 rfl (lv_at hl 0 rfl) ?_
            refine D8g_11 fx hC k_44 dX8_there_66 ?_
            refine D0g_0 fx hC k_1151 dX8_there_69 ?_
            exact g_iret fx hr hC (by rw [← hm]) dX8_there_72
          · replace hm := ifn hm c_5
            have nc_1 : ¬ (a1 : Int32).toInt = 0 := lv_neT c_1 rfl
            have nc_2 : ¬ (a1 : Int32).toInt = 1 := lv_neT c_2 rfl
            have nc_3 : ¬ (a1 : Int32).toInt = 2 := lv_neT c_3 rfl
            have nc_4 : ¬ (a1 : Int32).toInt = 3 := lv_neT c_4 rfl
            have nc_5 : ¬ (a1 : Int32).toInt = 4 := lv_neT c_5 rfl
            refine lv_tableOut (tgt := 73) hx hb dX8_there_1 (by omega) (by decide) ?_
            refine lv_bipush (v := (-2 : Int32)) hx hb dX8_there_73 (by decide) ?_
            exact g_iret fx hr hC (by rw [← hm]) dX8_there_75

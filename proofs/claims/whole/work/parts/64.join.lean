/-! ===== join ===== -/
def UNI (V U : Nat → Bool) (x : Nat) : Prop := ∃ a b, a < 4096 ∧ b < 4096 ∧ V a = true ∧ U b = true ∧ a ||| b = x
def OVR (V U : Nat → Bool) (x : Nat) : Prop := ∀ w, w < 4096 → U w = true → x &&& w = 0 ∧ V (x ||| w) = true
noncomputable def jW (V U : Nat → Bool) (how m : Nat) : Bool :=
  if how = 0 then V m && U m else if how = 1 then V m || U m else if how = 2 then V m && !U m else if how = 3 then cD (UNI V U m) else if how = 4 then cD (OVR V U m) else if how = 5 then V m && !cD (UNI (fun x => cD (OVR V U x)) U m) else if how = 6 then V m && cD (∃ w, w < 4096 ∧ U w = true ∧ sbs w m) else V m && cD (∃ w, w < 4096 ∧ U w = true ∧ sbs m w)
theorem mir_or {a b : Nat} (ha : a < 4096) (hb : b < 4096) : mir (a ||| b) = mir a ||| mir b := by
  have h : a ||| b < 4096 := Nat.or_lt_two_pow (n := 12) ha hb
  refine tb_ext (mir_lt h) (Nat.or_lt_two_pow (n := 12) (mir_lt ha) (mir_lt hb)) (fun i hi => ?_)
  rw [mir_tb h hi, Nat.testBit_or, Nat.testBit_or, mir_tb ha hi, mir_tb hb hi]
theorem mir_and0 {a b : Nat} (ha : a < 4096) (hb : b < 4096) : mir a &&& mir b = 0 ↔ a &&& b = 0 := by
  rw [← and_0, ← and_0]
  refine not_congr ⟨?_, ?_⟩
  · rintro ⟨i, h1, h2⟩
    rcases Nat.lt_or_ge i 12 with c | c
    · rw [mir_tb ha c] at h1
      rw [mir_tb hb c] at h2
      exact ⟨_, h1, h2⟩
    · rw [tb_hi (mir_lt ha) c] at h1; exact absurd h1 (by decide)
  · rintro ⟨i, h1, h2⟩
    rcases Nat.lt_or_ge i 12 with c | c
    · exact ⟨11 - i, by rw [mir_tb ha (by omega), show 11 - (11 - i) = i by omega]; exact h1, by rw [mir_tb hb (by omega), show 11 - (11 - i) = i by omega]; exact h2⟩
    · rw [tb_hi ha c] at h1; exact absurd h1 (by decide)
section JMIR
variable {V U V' U' : Nat → Bool}
theorem uni_mir (hV : ∀ p, p < 4096 → V p = V' (mir p)) (hU : ∀ p, p < 4096 → U p = U' (mir p)) {q : Nat} (hq : q < 4096) : UNI V U q ↔ UNI V' U' (mir q) := by
  constructor
  · rintro ⟨a, b, ha, hb, h1, h2, rfl⟩
    exact ⟨mir a, mir b, mir_lt ha, mir_lt hb, by rw [← hV a ha]; exact h1, by rw [← hU b hb]; exact h2, (mir_or ha hb).symm⟩
  · rintro ⟨a, b, ha, hb, h1, h2, h3⟩
    refine ⟨mir a, mir b, mir_lt ha, mir_lt hb, by rw [hV _ (mir_lt ha), mir_mir ha]; exact h1, by rw [hU _ (mir_lt hb), mir_mir hb]; exact h2, ?_⟩
    rw [← mir_or ha hb, h3, mir_mir hq]
theorem ovr_mir (hV : ∀ p, p < 4096 → V p = V' (mir p)) (hU : ∀ p, p < 4096 → U p = U' (mir p)) {q : Nat} (hq : q < 4096) : OVR V U q ↔ OVR V' U' (mir q) := by
  constructor
  · intro h w hw hv
    obtain ⟨h1, h2⟩ := h (mir w) (mir_lt hw) (by rw [hU _ (mir_lt hw), mir_mir hw]; exact hv)
    rw [hV _ (Nat.or_lt_two_pow (n := 12) hq (mir_lt hw)), mir_or hq (mir_lt hw), mir_mir hw] at h2
    refine ⟨?_, h2⟩
    have := (mir_and0 hq (mir_lt hw)).mpr h1
    rwa [mir_mir hw] at this
  · intro h w hw hv
    obtain ⟨h1, h2⟩ := h (mir w) (mir_lt hw) (by rw [← hU w hw]; exact hv)
    rw [← mir_or hq hw, ← hV _ (Nat.or_lt_two_pow (n := 12) hq hw)] at h2
    exact ⟨(mir_and0 hq hw).mp h1, h2⟩
theorem jW_mir (hV : ∀ p, p < 4096 → V p = V' (mir p)) (hU : ∀ p, p < 4096 → U p = U' (mir p)) {how q : Nat} (hq : q < 4096) : jW V U how q = jW V' U' how (mir q) := by
  unfold jW
  rw [hV q hq, hU q hq]
  have e3 : cD (UNI V U q) = cD (UNI V' U' (mir q)) := cD_eq (by rw [cD_iff]; exact uni_mir hV hU hq)
  have e4 : ∀ p, p < 4096 → cD (OVR V U p) = cD (OVR V' U' (mir p)) := fun p hp => cD_eq (by rw [cD_iff]; exact ovr_mir hV hU hp)
  have e5 : cD (UNI (fun x => cD (OVR V U x)) U q) = cD (UNI (fun x => cD (OVR V' U' x)) U' (mir q)) := cD_eq (by rw [cD_iff]; exact uni_mir (V' := fun x => cD (OVR V' U' x)) e4 hU hq)
  have e6 : cD (∃ w, w < 4096 ∧ U w = true ∧ sbs w q) = cD (∃ w, w < 4096 ∧ U' w = true ∧ sbs w (mir q)) := cD_eq (by
    rw [cD_iff]
    constructor
    · rintro ⟨w, hw, h1, h2⟩
      exact ⟨mir w, mir_lt hw, by rw [← hU w hw]; exact h1, (sbs_mir hw hq).mpr h2⟩
    · rintro ⟨w, hw, h1, h2⟩
      exact ⟨mir w, mir_lt hw, by rw [hU _ (mir_lt hw), mir_mir hw]; exact h1, (sbs_mir (mir_lt hw) hq).mp (by rw [mir_mir hw]; exact h2)⟩)
  have e7 : cD (∃ w, w < 4096 ∧ U w = true ∧ sbs q w) = cD (∃ w, w < 4096 ∧ U' w = true ∧ sbs (mir q) w) := cD_eq (by
    rw [cD_iff]
    constructor
    · rintro ⟨w, hw, h1, h2⟩
      exact ⟨mir w, mir_lt hw, by rw [← hU w hw]; exact h1, (sbs_mir hq hw).mpr h2⟩
    · rintro ⟨w, hw, h1, h2⟩
      exact ⟨mir w, mir_lt hw, by rw [hU _ (mir_lt hw), mir_mir hw]; exact h1, (sbs_mir hq (mir_lt hw)).mp (by rw [mir_mir hw]; exact h2)⟩)
  rw [e3, e4 q hq, e5, e6, e7]
theorem uni_cong (hV : ∀ p, p < 4096 → V p = V' p) (hU : ∀ p, p < 4096 → U p = U' p) {q : Nat} : UNI V U q ↔ UNI V' U' q :=
  ⟨fun ⟨a, b, ha, hb, h1, h2, h3⟩ => ⟨a, b, ha, hb, by rw [← hV a ha]; exact h1, by rw [← hU b hb]; exact h2, h3⟩, fun ⟨a, b, ha, hb, h1, h2, h3⟩ => ⟨a, b, ha, hb, by rw [hV a ha]; exact h1, by rw [hU b hb]; exact h2, h3⟩⟩
end JMIR
/-! the class -/
theorem both_b {σ : DS} {k a b : Nat} : ∃ σ', D7m_takeBoth k σ a b = some σ' ∧ dK_ (fun c => c = 79 + k) σ σ' ∧ ∀ q, q < 4096 → wb σ' k q = (wb σ a q && wb σ b q) :=
  ⟨_, both_n, dK_JF rfl, fun q hq => by rw [wb_jf hq, bL_and, wb_eq, wb_eq]⟩
theorem either_b {σ : DS} {k a b : Nat} : ∃ σ', D7m_takeEither k σ a b = some σ' ∧ dK_ (fun c => c = 79 + k) σ σ' ∧ ∀ q, q < 4096 → wb σ' k q = (wb σ a q || wb σ b q) :=
  ⟨_, either_n, dK_JF rfl, fun q hq => by rw [wb_jf hq, bL_or, wb_eq, wb_eq]⟩
theorem alone_b {σ : DS} {k a b : Nat} : ∃ σ', D7m_takeFirstAlone k σ a b = some σ' ∧ dK_ (fun c => c = 79 + k) σ σ' ∧ ∀ q, q < 4096 → wb σ' k q = (wb σ a q && !wb σ b q) :=
  ⟨_, alone_n, dK_JF rfl, fun q hq => by rw [wb_jf hq, bL_and, bL_not _ (Nat.mod_lt _ (by decide)), wb_eq, wb_eq]⟩
def jCells (F c : Nat) : Prop := c = 8 ∨ c = 15 ∨ c = 16 ∨ c = 47 + F ∨ c = 47 + 31 ∨ c = 79 + 30 ∨ c = 79 + 31 ∨ c = 79 + F
theorem fill_n {σ : DS} {F f g how : Nat} (hF : F < 30) (hf : f < F) (hg : g < F) (hh : how < 8) (hk : σ.1 (47 + F) 0 = nI 0) : ∃ σ', D8m_fillJoined σ F (nI how) f g = some σ' ∧ dK_ (jCells F) σ σ' ∧ σ'.1 (47 + F) 0 = nI 0 ∧ ∀ q, q < 4096 → wb σ' F q = jW (wb σ f) (wb σ g) how q := by
  have kd : ∀ (C : Nat → Prop) (s : DS), dK_ C σ s → ¬ C (47 + F) → s.1 (47 + F) 0 = nI 0 := fun C s k hc => by rw [(k _ hc).1]; exact hk
  rcases (show how = 0 ∨ how = 1 ∨ how = 2 ∨ how = 3 ∨ how = 4 ∨ how = 5 ∨ how = 6 ∨ how = 7 by omega) with rfl | rfl | rfl | rfl | rfl | rfl | rfl | rfl
  · obtain ⟨s, e1, k1, w1⟩ := both_b (σ := σ) (k := F) (a := f) (b := g)
    refine ⟨s, ?_, k1.mo (fun c hc => by unfold jCells; omega), kd _ _ k1 (by omega), fun q hq => by rw [w1 q hq]; rfl⟩
    unfold D8m_fillJoined
    rw [if_pos (by rfl), e1, b1_s]
  · obtain ⟨s, e1, k1, w1⟩ := either_b (σ := σ) (k := F) (a := f) (b := g)
    refine ⟨s, ?_, k1.mo (fun c hc => by unfold jCells; omega), kd _ _ k1 (by omega), fun q hq => by rw [w1 q hq]; rfl⟩
    unfold D8m_fillJoined
    rw [if_neg (by decide), if_pos (by rfl), e1, b1_s]
  · obtain ⟨s, e1, k1, w1⟩ := alone_b (σ := σ) (k := F) (a := f) (b := g)
    refine ⟨s, ?_, k1.mo (fun c hc => by unfold jCells; omega), kd _ _ k1 (by omega), fun q hq => by rw [w1 q hq]; rfl⟩
    unfold D8m_fillJoined
    rw [if_neg (by decide), if_neg (by decide), if_pos (by rfl), e1, b1_s]
  · obtain ⟨s, e1, k1, z1, w1⟩ := unite_n (σ := σ) (o := F) (f := f) (g := g)
    refine ⟨s, ?_, k1.mo (fun c hc => by unfold jCells; omega), z1, fun q hq => cD_eq (w1 q hq)⟩
    unfold D8m_fillJoined
    rw [if_neg (by decide), if_neg (by decide), if_neg (by decide), if_pos (by rfl), e1, b1_s]
  · obtain ⟨s, e1, k1, w1⟩ := over_n (σ := σ) (k := F) (f := f) (g := g) (by omega) (by omega)
    refine ⟨s, ?_, k1.mo (fun c hc => by unfold jCells; omega), kd _ _ k1 (by omega), fun q hq => cD_eq (w1 q hq)⟩
    unfold D8m_fillJoined
    rw [if_neg (by decide), if_neg (by decide), if_neg (by decide), if_neg (by decide), if_pos (by rfl), e1, b1_s]
  · obtain ⟨s1, e1, k1, w1⟩ := over_n (σ := σ) (k := 30) (f := f) (g := g) (by omega) (by omega)
    obtain ⟨s2, e2, k2, z2, w2⟩ := unite_n (σ := s1) (o := 31) (f := 30) (g := g)
    obtain ⟨s3, e3, k3, w3⟩ := alone_b (σ := s2) (k := F) (a := f) (b := 31)
    have kk : dK_ (fun c => c = 8 ∨ c = 15 ∨ c = 16 ∨ c = 47 + 31 ∨ c = 79 + 30 ∨ c = 79 + 31 ∨ c = 79 + F) σ s3 := ((k1.mo (fun c hc => by omega)).tr (k2.mo (fun c hc => by omega))).tr (k3.mo (fun c hc => by omega))
    refine ⟨s3, ?_, kk.mo (fun c hc => by unfold jCells; omega), kd _ _ kk (by omega), fun q hq => ?_⟩
    · unfold D8m_fillJoined
      rw [if_neg (by decide), if_neg (by decide), if_neg (by decide), if_neg (by decide), if_neg (by decide), if_pos (by rfl), e1, b1_s, e2, b1_s, e3, b1_s]
    · rw [w3 q hq, wb_dK k2 (by omega), wb_dK k1 (by omega)]
      show _ = (wb σ f q && !cD (UNI (fun x => cD (OVR (wb σ f) (wb σ g) x)) (wb σ g) q))
      refine congrArg (fun z => wb σ f q && !z) (cD_eq ((w2 q hq).trans ?_))
      exact uni_cong (fun p hp => cD_eq (w1 p hp)) (fun p hp => wb_dK k1 (by omega))
  · obtain ⟨s1, e1, k1, w1⟩ := copy_n (σ := σ) (k := 30) (a := g)
    obtain ⟨s2, e2, k2, w2⟩ := up_n (σ := s1) (k := 30)
    obtain ⟨s3, e3, k3, w3⟩ := both_b (σ := s2) (k := F) (a := f) (b := 30)
    have kk : dK_ (fun c => c = 79 + 30 ∨ c = 79 + F) σ s3 := ((k1.mo (fun c hc => by omega)).tr (k2.mo (fun c hc => by omega))).tr (k3.mo (fun c hc => by omega))
    refine ⟨s3, ?_, kk.mo (fun c hc => by unfold jCells; omega), kd _ _ kk (by omega), fun q hq => ?_⟩
    · unfold D8m_fillJoined
      rw [if_neg (by decide), if_neg (by decide), if_neg (by decide), if_neg (by decide), if_neg (by decide), if_neg (by decide), if_pos (by rfl), e1, b1_s, e2, b1_s, e3, b1_s]
    · rw [w3 q hq, wb_dK k2 (by omega), wb_dK k1 (by omega)]
      show _ = (wb σ f q && cD (∃ w, w < 4096 ∧ wb σ g w = true ∧ sbs w q))
      refine congrArg (fun z => wb σ f q && z) (cD_eq ((w2 q hq).trans ⟨fun ⟨p, a1, a2, a3⟩ => ⟨p, a1, by rw [← w1 p a1]; exact a3, a2⟩, fun ⟨p, a1, a2, a3⟩ => ⟨p, a1, a3, by rw [w1 p a1]; exact a2⟩⟩))
  · obtain ⟨s1, e1, k1, w1⟩ := copy_n (σ := σ) (k := 30) (a := g)
    obtain ⟨s2, e2, k2, w2⟩ := down_n (σ := s1) (k := 30)
    obtain ⟨s3, e3, k3, w3⟩ := both_b (σ := s2) (k := F) (a := f) (b := 30)
    have kk : dK_ (fun c => c = 79 + 30 ∨ c = 79 + F) σ s3 := ((k1.mo (fun c hc => by omega)).tr (k2.mo (fun c hc => by omega))).tr (k3.mo (fun c hc => by omega))
    refine ⟨s3, ?_, kk.mo (fun c hc => by unfold jCells; omega), kd _ _ kk (by omega), fun q hq => ?_⟩
    · unfold D8m_fillJoined
      rw [if_neg (by decide), if_neg (by decide), if_neg (by decide), if_neg (by decide), if_neg (by decide), if_neg (by decide), if_neg (by decide), e1, b1_s, e2, b1_s, e3, b1_s]
    · rw [w3 q hq, wb_dK k2 (by omega), wb_dK k1 (by omega)]
      show _ = (wb σ f q && cD (∃ w, w < 4096 ∧ wb σ g w = true ∧ sbs q w))
      refine congrArg (fun z => wb σ f q && z) (cD_eq ((w2 q hq).trans ⟨fun ⟨p, a1, a2, a3⟩ => ⟨p, a1, by rw [← w1 p a1]; exact a3, a2⟩, fun ⟨p, a1, a2, a3⟩ => ⟨p, a1, a3, by rw [w1 p a1]; exact a2⟩⟩))
/-! the reference -/
theorem hnd_u {τ τ1 : RS} {w : Nat → Bool} {x : Nat} (v : Bool) (h : HND τ τ1 4096 w) : HND τ (rA τ1 20 x (bI v)) 4096 (fun y => if y = x then v else w y) := by
  obtain ⟨h1, h2, h3, h4⟩ := h
  refine ⟨h1.tr (rK_A (by simp only [rScr]; omega)), fun j hj => ?_, h3.to (fun j => Or.inl rfl) (fun j => ?_) (fun j => Or.inl rfl), fun j => h4 j⟩
  · dsimp only
    by_cases e : j = x
    · subst e; rw [if_pos rfl]; exact rA_s
    · rw [if_neg e, rA_n e]; exact h2 j hj
  · by_cases e : j = x
    · subst e; rw [rA_s]; exact Or.inr (bI_01 _)
    · rw [rA_n e]; exact Or.inl rfl
theorem HND.cong {τ τ1 : RS} {n : Nat} {w w' : Nat → Bool} (h : HND τ τ1 n w) (e : ∀ m, m < n → w m = w' m) : HND τ τ1 n w' := ⟨h.1, fun m hm => by rw [← e m hm]; exact h.2.1 m hm, h.2.2⟩
section JREF
variable {τ : RS} {F f g : Nat} {W : Nat → Nat → Bool}
theorem isOver_n {t : RS} (h : RW_ t F W) (hF : F ≤ 30) (hf : f < F) (hg : g < F) {m : Nat} (hm : m < 4096) : Rm_isOver t (nI f) (nI g) (nI m) = some (bI (cD (OVR (W f) (W g) m))) := by
  have e : cD (OVR (W f) (W g) m) = (true && allB (fun w => !W g w || (decide (m &&& w = 0) && W f (m ||| w))) 4096) := by
    rw [Bool.true_and]
    symm
    apply cD_eq
    rw [allB_iff]
    refine forall_congr' fun w => forall_congr' fun hw => ?_
    cases W g w
    · exact ⟨fun _ q => absurd q (by decide), fun _ => rfl⟩
    · rw [Bool.not_true, Bool.false_or, Bool.and_eq_true, decide_eq_true_eq]
      exact ⟨fun q _ => q, fun q => q rfl⟩
  rw [e]
  unfold Rm_isOver
  refine (all_loop (f := Rs_isOver_6 (nI f) (nI g) (nI m) t (fun u_10 => gb u_10 (some u_10))) (N := 4096) (by unfold fuel; omega) (fun u_10 => gb u_10 (some u_10)) (fun w => !W g w || (decide (m &&& w = 0) && W f (m ||| w))) (fun rc w => by unfold Rs_isOver_6; rw [if_pos rfl]) (fun rc w hw => ?_) (fun rc => by unfold Rs_isOver_6; rw [if_neg (by decide), if_pos (show (4096 : Int32) ≤ nI 4096 by decide)]) true).trans gb_b
  unfold Rs_isOver_6
  have hlt : m &&& w < 4096 := Nat.lt_of_le_of_lt Nat.and_le_left hm
  have hor : m ||| w < 4096 := Nat.or_lt_two_pow (n := 12) hm hw
  rw [if_neg (by decide), if_neg (show ¬ (4096 : Int32) ≤ nI w from nI_ge (b := 4096) (by omega) (by decide)), pl1, isWay_n h hF hg hw, b1_s, fa_and, fa_or, isWay_n h hF hf hor, b1_s]
  cases W g w
  · rw [if_pos (by rfl)]; rfl
  · rw [if_neg (by decide), Bool.not_true, Bool.false_or]
    by_cases d : m &&& w = 0
    · rw [if_pos (by rw [d]; rfl), decide_eq_true d, Bool.true_and]
      cases W f (m ||| w) <;> rfl
    · rw [if_neg (nI_ne0 (by omega) (by omega)), decide_eq_false d]; rfl
theorem joined_n {t : RS} (h : RW_ t F W) (hF : F ≤ 30) (hf : f < F) (hg : g < F) {m how : Nat} (hm : m < 4096) (hh : how < 8) (h3 : how ≠ 3) (h5 : how ≠ 5) : Rm_joined t (nI how) (nI f) (nI g) (nI m) = some (bI (jW (W f) (W g) how m)) := by
  have any : ∀ (Rel : Nat → Prop), (∀ w, w < 4096 → (Rel w ↔ if nI how = 6 then (nI w &&& (nI m ^^^ (-1 : Int32))) = 0 else (nI m &&& (nI w ^^^ (-1 : Int32))) = 0)) → it2 (Rs_joined_104 (nI how) (nI f) (nI g) (nI m) t (fun u_14 => gb u_14 (some u_14))) fuel (0 : Int32) (0 : Int32) = some (bI (W f m && cD (∃ w, w < 4096 ∧ W g w = true ∧ Rel w))) := fun Rel hRel => by
    cases hv : W f m
    · refine it2_one fun rc => ?_
      unfold Rs_joined_104
      rw [if_pos rfl, if_neg (by decide), isWay_n h hF hf hm, b1_s, hv, if_pos (by rfl)]
      rfl
    · have e : (true && cD (∃ w, w < 4096 ∧ W g w = true ∧ Rel w)) = anyB (fun w => W g w && cD (Rel w)) 4096 := by
        rw [Bool.true_and]
        symm
        apply cD_eq
        rw [anyB_iff]
        refine exists_congr fun w => and_congr Iff.rfl ?_
        rw [Bool.and_eq_true, cD_iff]
      rw [e]
      refine (any_loop (f := Rs_joined_104 (nI how) (nI f) (nI g) (nI m) t (fun u_14 => gb u_14 (some u_14))) (N := 4096) (by unfold fuel; omega) (fun u_14 => gb u_14 (some u_14)) (fun w => W g w && cD (Rel w)) (fun rc w => by unfold Rs_joined_104; rw [if_neg (by decide)]) (fun rc w hw => ?_) (fun rc => by unfold Rs_joined_104; rw [if_pos rfl, if_pos (show (4096 : Int32) ≤ nI 4096 by decide)])).trans gb_b
      unfold Rs_joined_104
      rw [if_pos rfl, if_neg (show ¬ (4096 : Int32) ≤ nI w from nI_ge (b := 4096) (by omega) (by decide)), isWay_n h hF hf hm, b1_s, hv, if_neg (by decide), isWay_n h hF hg hw, b1_s, pl1]
      have hr := hRel w hw
      cases W g w
      · rw [if_pos (by rfl)]; rfl
      · rw [if_neg (by decide), Bool.true_and]
        by_cases c6 : nI how = 6
        · rw [if_pos c6] at hr ⊢
          by_cases d : nI w &&& (nI m ^^^ (-1 : Int32)) = 0
          · rw [if_pos d, cD_t (hr.mpr d)]; rfl
          · rw [if_neg d, cD_f (fun q => d (hr.mp q))]; rfl
        · rw [if_neg c6] at hr ⊢
          by_cases d : nI m &&& (nI w ^^^ (-1 : Int32)) = 0
          · rw [if_pos d, cD_t (hr.mpr d)]; rfl
          · rw [if_neg d, cD_f (fun q => d (hr.mp q))]; rfl
  rcases (show how = 0 ∨ how = 1 ∨ how = 2 ∨ how = 4 ∨ how = 6 ∨ how = 7 by omega) with rfl | rfl | rfl | rfl | rfl | rfl
  · unfold Rm_joined
    rw [if_neg (by decide), isWay_n h hF hf hm, b1_s, isWay_n h hF hg hm, b1_s, if_pos (by rfl)]
    show _ = some (bI (W f m && W g m))
    cases W f m <;> cases W g m <;> rfl
  · unfold Rm_joined
    rw [if_neg (by decide), isWay_n h hF hf hm, b1_s, isWay_n h hF hg hm, b1_s, if_neg (by decide), if_pos (by rfl)]
    show _ = some (bI (W f m || W g m))
    cases W f m <;> cases W g m <;> rfl
  · unfold Rm_joined
    rw [if_neg (by decide), isWay_n h hF hf hm, b1_s, isWay_n h hF hg hm, b1_s, if_neg (by decide), if_neg (by decide)]
    show _ = some (bI (W f m && !W g m))
    cases W f m <;> cases W g m <;> rfl
  · unfold Rm_joined
    rw [if_pos (by decide), if_pos (by rfl), isOver_n h hF hf hg hm, b1_s, gb_b]
    rfl
  · unfold Rm_joined
    rw [if_pos (by decide), if_neg (by decide)]
    exact any (fun w => sbs w m) (fun w hw => by rw [if_pos (by rfl)]; exact (and_not_0 hw hm).symm)
  · unfold Rm_joined
    rw [if_pos (by decide), if_neg (by decide)]
    exact any (fun w => sbs m w) (fun w hw => by rw [if_neg (by decide)]; exact (and_not_0 hm hw).symm)
theorem unions_n (ha : AXr τ) (h : RW_ τ F W) (hF : F ≤ 30) (hf : f < F) (hg : g < F) : ∃ τ1, Rm_unions τ (nI f) (nI g) = some τ1 ∧ HND τ τ1 4096 (fun x => cD (UNI (W f) (W g) x)) := by
  unfold Rm_unions
  obtain ⟨τ1, e1, h1⟩ := hand_loop (f := Rs_unions_2 (nI f) (nI g) (fun τ_5 => it2 (Rs_unions_24 (nI f) (nI g) (fun τ_26 => some τ_26)) fuel (0 : Int32) τ_5)) (τ := τ) (fun τ_5 => it2 (Rs_unions_24 (nI f) (nI g) (fun τ_26 => some τ_26)) fuel (0 : Int32) τ_5) (fun _ => false) ha (fun m τ1 rc hm hh => by
    unfold Rs_unions_2
    rw [if_neg (show ¬ (4096 : Int32) ≤ nI m from nI_ge (b := 4096) (by omega) (by decide)), gi_n (by omega) (by decide), nm_s, tn _ (by omega)]
    rfl) (fun τ1 rc => by
    unfold Rs_unions_2
    rw [if_pos (show (4096 : Int32) ≤ nI 4096 by decide)])
  rw [e1]
  refine it2_ind (f := Rs_unions_24 (nI f) (nI g) (fun τ_26 => some τ_26)) (P := fun n v t => ∃ j, j + n = 4096 ∧ v = nI j ∧ HND τ t 4096 (fun x => cD (∃ a b, a < j ∧ b < 4096 ∧ W f a = true ∧ W g b = true ∧ a ||| b = x))) (Q := fun o => ∃ τ1, o = some τ1 ∧ HND τ τ1 4096 (fun x => cD (UNI (W f) (W g) x))) ?_ fuel 4096 (0 : Int32) τ1 (by unfold fuel; omega) ⟨0, rfl, rfl, h1.cong (fun m hm => (cD_f (fun ⟨a, b, q, _⟩ => absurd q (Nat.not_lt_zero a))).symm)⟩
  rintro n v t rc ⟨j, hj, rfl, ht⟩ ih
  unfold Rs_unions_24
  by_cases c : j = 4096
  · subst c
    rw [if_pos (show (4096 : Int32) ≤ nI 4096 by decide)]
    exact ⟨t, rfl, ht⟩
  · rw [if_neg (show ¬ (4096 : Int32) ≤ nI j from nI_ge (b := 4096) (by omega) (by decide))]
    have step : ∃ t', it2 (Rs_unions_34 (nI f) (nI g) (nI j) (fun τ_25 => rc (nI j + (1 : Int32)) τ_25)) fuel (0 : Int32) t = rc (nI j + (1 : Int32)) t' ∧ HND τ t' 4096 (fun x => cD (∃ a b, a < j + 1 ∧ b < 4096 ∧ W f a = true ∧ W g b = true ∧ a ||| b = x)) := by
      cases hv : W f j
      · refine ⟨t, it2_one fun rc2 => ?_, ht.cong (fun x hx => cD_eq ?_)⟩
        · have hw : RW_ t F W := h.to (fun i _ => ht.2.2.2 i)
          unfold Rs_unions_34
          rw [isWay_n hw hF hf (by omega), b1_s, hv, if_pos (by rfl)]
        · rw [cD_iff]
          constructor
          · rintro ⟨a, b, q, q2⟩
            exact ⟨a, b, by omega, q2⟩
          · rintro ⟨a, b, q, q1, q2, q3⟩
            refine ⟨a, b, ?_, q1, q2, q3⟩
            have : a ≠ j := fun e => by rw [e, hv] at q2; exact absurd q2 (by decide)
            omega
      · refine it2_ind (f := Rs_unions_34 (nI f) (nI g) (nI j) (fun τ_25 => rc (nI j + (1 : Int32)) τ_25)) (P := fun n v t => ∃ w, w + n = 4096 ∧ v = nI w ∧ HND τ t 4096 (fun x => cD (∃ a b, (a < j ∨ (a = j ∧ b < w)) ∧ b < 4096 ∧ W f a = true ∧ W g b = true ∧ a ||| b = x))) (Q := fun o => ∃ t', o = rc (nI j + (1 : Int32)) t' ∧ HND τ t' 4096 (fun x => cD (∃ a b, a < j + 1 ∧ b < 4096 ∧ W f a = true ∧ W g b = true ∧ a ||| b = x))) ?_ fuel 4096 (0 : Int32) t (by unfold fuel; omega) ⟨0, rfl, rfl, ht.cong (fun x hx => cD_eq ?_)⟩
        · rintro n2 v2 t2 rc2 ⟨w, hw, rfl, h2⟩ ih2
          have hww : RW_ t2 F W := h.to (fun i _ => h2.2.2.2 i)
          unfold Rs_unions_34
          rw [isWay_n hww hF hf (by omega), b1_s, hv, if_neg (by decide)]
          by_cases cw : w = 4096
          · subst cw
            rw [if_pos (show (4096 : Int32) ≤ nI 4096 by decide)]
            refine ⟨t2, rfl, h2.cong (fun x hx => cD_eq ?_)⟩
            rw [cD_iff]
            constructor
            · rintro ⟨a, b, q, q2⟩
              exact ⟨a, b, by omega, q2⟩
            · rintro ⟨a, b, q, q2⟩
              exact ⟨a, b, by omega, q2⟩
          · have hor : j ||| w < 4096 := Nat.or_lt_two_pow (n := 12) (by omega) (by omega)
            have hold := h2.2.1 _ hor
            dsimp only at hold
            rw [if_neg (show ¬ (4096 : Int32) ≤ nI w from nI_ge (b := 4096) (by omega) (by decide)), fa_or, gi_n (by omega) (by decide), gi_n (by omega) (by decide), tn _ (by omega), hold, isWay_n hww hF hg (by omega), b1_s, gi_n (by omega) (by decide), nm_s, nm_s, pl1]
            have fin : ∀ val : Int32, val = bI (cD (∃ a b, (a < j ∨ (a = j ∧ b < w)) ∧ b < 4096 ∧ W f a = true ∧ W g b = true ∧ a ||| b = j ||| w) || W g w) → ∃ t', rc2 (nI (w + 1)) (rA t2 20 (j ||| w) val) = rc (nI j + (1 : Int32)) t' ∧ HND τ t' 4096 (fun x => cD (∃ a b, a < j + 1 ∧ b < 4096 ∧ W f a = true ∧ W g b = true ∧ a ||| b = x)) := fun val hval => by
              subst hval
              refine ih2 (n2 - 1) _ _ (by omega) ⟨w + 1, by omega, rfl, (hnd_u _ h2).cong (fun x hx => ?_)⟩
              by_cases e : x = j ||| w
              · rw [if_pos e]
                apply cD_eq
                rw [Bool.or_eq_true, cD_iff, e]
                constructor
                · rintro (⟨a, b, q, q2⟩ | q)
                  · exact ⟨a, b, by omega, q2⟩
                  · exact ⟨j, w, Or.inr ⟨rfl, by omega⟩, by omega, hv, q, rfl⟩
                · rintro ⟨a, b, q, q1, q2, q3, q4⟩
                  by_cases e2 : a = j ∧ b = w
                  · rw [e2.2] at q3; exact Or.inr q3
                  · exact Or.inl ⟨a, b, by omega, q1, q2, q3, q4⟩
              · rw [if_neg e]
                apply cD_eq
                rw [cD_iff]
                constructor
                · rintro ⟨a, b, q, q2⟩
                  exact ⟨a, b, by omega, q2⟩
                · rintro ⟨a, b, q, q1, q2, q3, q4⟩
                  refine ⟨a, b, ?_, q1, q2, q3, q4⟩
                  have : ¬ (a = j ∧ b = w) := fun e2 => e (by rw [← q4, e2.1, e2.2])
                  omega
            cases dh : cD (∃ a b, (a < j ∨ (a = j ∧ b < w)) ∧ b < 4096 ∧ W f a = true ∧ W g b = true ∧ a ||| b = j ||| w)
            · rw [dh] at fin
              rw [if_pos (by rfl)]
              cases dg : W g w
              · rw [dg] at fin
                rw [if_pos (by rfl)]
                exact fin _ rfl
              · rw [dg] at fin
                rw [if_neg (by decide)]
                exact fin _ rfl
            · rw [dh] at fin
              rw [if_neg (by decide)]
              exact fin _ rfl
        · rw [cD_iff]
          constructor
          · rintro ⟨a, b, q, q2⟩
            exact ⟨a, b, Or.inl q, q2⟩
          · rintro ⟨a, b, q, q2⟩
            exact ⟨a, b, by omega, q2⟩
    obtain ⟨t', e2, h2⟩ := step
    rw [e2, pl1]
    exact ih (n - 1) _ _ (by omega) ⟨j + 1, by omega, rfl, h2⟩
end JREF

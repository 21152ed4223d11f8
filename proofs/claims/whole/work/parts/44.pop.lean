/-! ===== Long.bitCount, Integer.bitCount ===== -/
/-- the bytes of a number, each changed -/
def mpB (f : Nat → Nat) : Nat → Nat → Nat
  | 0, _ => 0
  | k + 1, n => 256 * mpB f k (n / 256) + f (n % 256)
def mkB (c : Nat) : Nat → Nat
  | 0 => 0
  | k + 1 => 256 * mkB c k + c
theorem and_256 (a b x y : Nat) (hx : x < 256) (hy : y < 256) : (256 * a + x) &&& (256 * b + y) = 256 * (a &&& b) + (x &&& y) := by
  have hxy : x &&& y < 256 := Nat.lt_of_le_of_lt Nat.and_le_left hx
  apply Nat.eq_of_testBit_eq
  intro i
  rw [Nat.testBit_and, show (256 : Nat) = 2 ^ 8 from rfl, Nat.testBit_two_pow_mul_add _ hx, Nat.testBit_two_pow_mul_add _ hy, Nat.testBit_two_pow_mul_add _ hxy]
  split
  · rw [Nat.testBit_and]
  · rw [Nat.testBit_and]
theorem mpB_lt {f : Nat → Nat} (hf : ∀ b, b < 256 → f b < 256) : ∀ k n, mpB f k n < 256 ^ k
  | 0, _ => Nat.one_pos
  | k + 1, n => by
    have h1 := mpB_lt hf k (n / 256)
    have h2 := hf (n % 256) (Nat.mod_lt _ (by decide))
    rw [Nat.pow_succ]
    show 256 * mpB f k (n / 256) + f (n % 256) < _
    omega
theorem mpB_id : ∀ k n, n < 256 ^ k → mpB (fun b => b) k n = n
  | 0, n, h => by have : n = 0 := by simpa using h
                  rw [this]; rfl
  | k + 1, n, h => by
    show 256 * mpB (fun b => b) k (n / 256) + n % 256 = n
    rw [mpB_id k (n / 256) (by rw [Nat.pow_succ] at h; omega)]
    omega
theorem mpB_cong {f g : Nat → Nat} (h : ∀ b, b < 256 → f b = g b) : ∀ k n, mpB f k n = mpB g k n
  | 0, _ => rfl
  | k + 1, n => by
    show 256 * mpB f k (n / 256) + f (n % 256) = 256 * mpB g k (n / 256) + g (n % 256)
    rw [mpB_cong h k, h _ (Nat.mod_lt _ (by decide))]
theorem mpB_sub {f g : Nat → Nat} (h : ∀ b, b < 256 → g b ≤ f b) : ∀ k n, mpB f k n - mpB g k n = mpB (fun b => f b - g b) k n ∧ mpB g k n ≤ mpB f k n
  | 0, _ => ⟨rfl, Nat.le_refl _⟩
  | k + 1, n => by
    obtain ⟨h1, h2⟩ := mpB_sub h k (n / 256)
    have h3 := h (n % 256) (Nat.mod_lt _ (by decide))
    show 256 * mpB f k (n / 256) + f (n % 256) - (256 * mpB g k (n / 256) + g (n % 256)) = 256 * mpB (fun b => f b - g b) k (n / 256) + (f (n % 256) - g (n % 256)) ∧ 256 * mpB g k (n / 256) + g (n % 256) ≤ 256 * mpB f k (n / 256) + f (n % 256)
    rw [← h1]
    omega
theorem mpB_add {f g : Nat → Nat} : ∀ k n, mpB f k n + mpB g k n = mpB (fun b => f b + g b) k n
  | 0, _ => rfl
  | k + 1, n => by
    have h1 := mpB_add (f := f) (g := g) k (n / 256)
    show 256 * mpB f k (n / 256) + f (n % 256) + (256 * mpB g k (n / 256) + g (n % 256)) = 256 * mpB (fun b => f b + g b) k (n / 256) + (f (n % 256) + g (n % 256))
    rw [← h1]
    omega
/-- a shift by s and a mask, byte by byte: where the mask lets nothing of the next byte through -/
theorem mpB_shand {f h : Nat → Nat} {c p : Nat} (hc : c < 256) (hp : 0 < p) (hd : 256 % p = 0) (hf : ∀ b, b < 256 → f b < 256) (hh : ∀ b, b < 256 → ∀ q, q < p → ((256 / p) * q + f b / p) &&& c = h b) : ∀ k n, (mpB f k n / p) &&& mkB c k = mpB h k n
  | 0, n => by
    show _ &&& 0 = 0
    exact Nat.and_zero _
  | k + 1, n => by
    have ih := mpB_shand hc hp hd hf hh k (n / 256)
    have hb := hf (n % 256) (Nat.mod_lt _ (by decide))
    show (256 * mpB f k (n / 256) + f (n % 256)) / p &&& (256 * mkB c k + c) = 256 * mpB h k (n / 256) + h (n % 256)
    obtain ⟨e, he⟩ : ∃ e, 256 = p * e := ⟨256 / p, by rw [Nat.mul_div_cancel' (Nat.dvd_of_mod_eq_zero hd)]⟩
    have h1 : (256 * mpB f k (n / 256) + f (n % 256)) / p = 256 * (mpB f k (n / 256) / p) + ((256 / p) * (mpB f k (n / 256) % p) + f (n % 256) / p) := by
      obtain ⟨Q, hQ⟩ : ∃ Q, Q = mpB f k (n / 256) := ⟨_, rfl⟩
      obtain ⟨r, hr⟩ : ∃ r, r = f (n % 256) := ⟨_, rfl⟩
      rw [← hQ, ← hr]
      have e2 : 256 / p = e := by rw [he]; exact Nat.mul_div_cancel_left _ hp
      rw [e2, he, Nat.mul_assoc, Nat.mul_add_div hp, Nat.mul_assoc]
      have e3 := Nat.div_add_mod Q p
      have e4 : e * Q = p * (e * (Q / p)) + e * (Q % p) := by
        conv => lhs; rw [← e3]
        rw [Nat.mul_add, ← Nat.mul_assoc, ← Nat.mul_assoc, Nat.mul_comm e p]
      rw [e4]
      omega
    have hq : (256 / p) * (mpB f k (n / 256) % p) + f (n % 256) / p < 256 := by
      have e2 : 256 / p = e := by rw [he]; exact Nat.mul_div_cancel_left _ hp
      have m1 := Nat.mod_lt (mpB f k (n / 256)) hp
      have m2 : f (n % 256) / p < e := by
        rw [Nat.div_lt_iff_lt_mul hp, Nat.mul_comm, ← he]; exact hb
      rw [e2]
      have m3 : e * (mpB f k (n / 256) % p) ≤ e * (p - 1) := Nat.mul_le_mul_left e (by omega)
      have m4 : e * (p - 1) + e = 256 := by rw [he, ← Nat.mul_succ, Nat.mul_comm p e]; congr 1; omega
      omega
    rw [h1, and_256 _ _ _ _ hq hc, ih, hh _ (Nat.mod_lt _ (by decide)) _ (Nat.mod_lt _ hp)]
def pa1 (b : Nat) : Nat := b - ((b / 2) &&& 85)
def pa2 (b : Nat) : Nat := (pa1 b &&& 51) + ((pa1 b / 4) &&& 51)
def pa3 (b : Nat) : Nat := (pa2 b + pa2 b / 16) &&& 15
/-- the bits of a byte -/
def pcb (b : Nat) : Nat := fb_ct (fun i => b.testBit i) 8
theorem pa3_pc : ∀ b, b < 256 → pa3 b = pcb b := by decide +kernel
theorem pa_s1 : ∀ b, b < 256 → ∀ q, q < 2 → ((256 / 2) * q + b / 2) &&& 85 = (b / 2) &&& 85 := by decide +kernel
theorem pa_l1 : ∀ b, b < 256 → (b / 2) &&& 85 ≤ b ∧ pa1 b < 256 ∧ pa2 b ≤ 68 ∧ pa2 b % 16 ≤ 4 ∧ pa2 b / 16 ≤ 4 ∧ pcb b ≤ 8 := by decide +kernel
theorem pa_s2 : ∀ b, b < 256 → ∀ q, q < 4 → ((256 / 4) * q + pa1 b / 4) &&& 51 = (pa1 b / 4) &&& 51 := by decide +kernel
theorem pa_s3 : ∀ b, b < 256 → ∀ q, q < 1 → ((256 / 1) * q + pa1 b / 1) &&& 51 = pa1 b &&& 51 := by decide +kernel
/-- the third step: nibbles side by side -/
theorem mpB_nib : ∀ k n, ((mpB pa2 k n + mpB pa2 k n / 16) &&& mkB 15 k = mpB pcb k n) ∧ mpB pa2 k n % 16 ≤ 4
  | 0, n => ⟨Nat.and_zero _, Nat.zero_le _⟩
  | k + 1, n => by
    obtain ⟨ih, ih2⟩ := mpB_nib k (n / 256)
    obtain ⟨-, -, l1, l2, l3, -⟩ := pa_l1 (n % 256) (Nat.mod_lt _ (by decide))
    have hb := Nat.mod_lt n (show 0 < 256 by decide)
    show ((256 * mpB pa2 k (n / 256) + pa2 (n % 256) + (256 * mpB pa2 k (n / 256) + pa2 (n % 256)) / 16) &&& (256 * mkB 15 k + 15) = 256 * mpB pcb k (n / 256) + pcb (n % 256)) ∧ (256 * mpB pa2 k (n / 256) + pa2 (n % 256)) % 16 ≤ 4
    generalize mpB pa2 k (n / 256) = Q at ih ih2 ⊢
    generalize hr : pa2 (n % 256) = r at l1 l2 l3 ⊢
    refine ⟨?_, by omega⟩
    have h1 : 256 * Q + r + (256 * Q + r) / 16 = 256 * (Q + Q / 16) + (16 * (Q % 16) + r + r / 16) := by omega
    rw [h1, and_256 _ _ _ _ (by omega) (by decide), ih, ← pa3_pc _ hb]
    congr 1
    unfold pa3
    rw [hr]
    have m1 : ∀ x, x &&& 15 = x % 16 := fun x => Nat.and_two_pow_sub_one_eq_mod x 4
    rw [m1, m1]
    omega
theorem uN_sub (x y : Int64) : uN (x - y) = (18446744073709551616 - uN y + uN x) % 18446744073709551616 := by
  show (x.toUInt64 - y.toUInt64).toNat = _
  rw [UInt64.toNat_sub]
  rfl
theorem uN_and (x y : Int64) : uN (x &&& y) = uN x &&& uN y := by
  show (x.toUInt64 &&& y.toUInt64).toNat = _
  rw [UInt64.toNat_and]
  rfl
theorem fb_ct_8 (n : Nat) : ∀ k, fb_ct (fun i => n.testBit i) (8 * k) = fb_sm (fun j => pcb (n / 256 ^ j % 256)) k
  | 0 => rfl
  | k + 1 => by
    rw [fb_sm_succ, ← fb_ct_8 n k]
    have e : ∀ m j, fb_ct (fun i => n.testBit i) (m + j) = fb_ct (fun i => n.testBit i) m + fb_ct (fun i => n.testBit (m + i)) j := by
      intro m j
      induction j with
      | zero => rfl
      | succ j ih => rw [← Nat.add_assoc, fb_ct_succ, ih, fb_ct_succ]; omega
    rw [show 8 * (k + 1) = 8 * k + 8 by omega, e]
    congr 1
    unfold pcb
    apply fb_ct_cong
    intro i hi
    rw [show (256 : Nat) = 2 ^ 8 from rfl, ← Nat.pow_mul, Nat.testBit_mod_two_pow, Nat.testBit_div_two_pow, decide_eq_true hi, Bool.true_and, Nat.add_comm]
theorem mpB_8 (f : Nat → Nat) (n : Nat) : mpB f 8 n = f (n % 256) + 256 * f (n / 256 % 256) + 65536 * f (n / 65536 % 256) + 16777216 * f (n / 16777216 % 256) + 4294967296 * f (n / 4294967296 % 256) + 1099511627776 * f (n / 1099511627776 % 256) + 281474976710656 * f (n / 281474976710656 % 256) + 72057594037927936 * f (n / 72057594037927936 % 256) := by
  simp only [mpB, Nat.div_div_eq_div_mul, Nat.reduceMul]
  omega
theorem and127 (x : Int64) : x.toInt32 &&& (127 : Int32) = nI (uN x % 128) := by
  rw [pk_and x.toInt32 (m := 127) 7 (by decide)]
  congr 1
  show (x.toInt32.toUInt32.toNat) % 128 = _
  have : x.toInt32.toUInt32.toNat = uN x % 4294967296 := by
    show (x.toBitVec.signExtend 32).toNat = x.toBitVec.toNat % 4294967296
    rw [BitVec.signExtend_eq_setWidth_of_le _ (by decide), BitVec.toNat_setWidth]
  omega
theorem dv_p {a b p : Nat} (h : a < p) : (a + p * b) / p = b := by
  rw [Nat.add_mul_div_left _ _ (by omega), Nat.div_eq_of_lt h, Nat.zero_add]
theorem popC (S T U V : Nat) (bU : U ≤ 2105376) (bV : V ≤ 528408) (bS : S ≤ 32) (bT : T ≤ 32) : (S + 256 * U + 4294967296 * (T + 256 * V) + (T + 256 * V)) % 18446744073709551616 % 128 = S + T := by omega
theorem popD {c1 c2 c3 c4 c5 c6 : Nat} (h1 : c1 ≤ 8) (h2 : c2 ≤ 8) (h3 : c3 ≤ 8) (h4 : c4 ≤ 8) (h5 : c5 ≤ 8) (h6 : c6 ≤ 8) : (c1 + c2 + c3 + c4) + 256 * (c2 + c3 + c4 + c5) + 65536 * (c3 + c4 + c5 + c6) ≤ 2105376 := by omega
theorem popE {c5 c6 c7 : Nat} (h5 : c5 ≤ 8) (h6 : c6 ≤ 8) (h7 : c7 ≤ 8) : (c5 + c6 + c7) + 256 * (c6 + c7) + 65536 * c7 ≤ 528408 := by omega
theorem popF (A B C D : Nat) : A + 256 * B + 65536 * C + 16777216 * D = A + 256 * (B + 256 * C + 65536 * D) := by omega
theorem popG {c0 c1 c2 c3 : Nat} (h0 : c0 ≤ 8) (h1 : c1 ≤ 8) (h2 : c2 ≤ 8) (h3 : c3 ≤ 8) : c0 + c1 + c2 + c3 ≤ 32 := by omega
theorem popB {c0 c1 c2 c3 c4 c5 c6 c7 x3 x4 x5 : Nat} (h0 : c0 ≤ 8) (h1 : c1 ≤ 8) (h2 : c2 ≤ 8) (h3 : c3 ≤ 8) (h4 : c4 ≤ 8) (h5 : c5 ≤ 8) (h6 : c6 ≤ 8) (h7 : c7 ≤ 8) (e3 : x3 = c0 + 256 * c1 + 65536 * c2 + 16777216 * c3 + 4294967296 * c4 + 1099511627776 * c5 + 281474976710656 * c6 + 72057594037927936 * c7)
    (e4 : x4 = (x3 + x3 / 256) % 18446744073709551616) (e5 : x5 = (x4 + x4 / 65536) % 18446744073709551616) : (x5 + x5 / 4294967296) % 18446744073709551616 % 128 = c0 + c1 + c2 + c3 + c4 + c5 + c6 + c7 := by
  have d3 : x3 / 256 = c1 + 256 * c2 + 65536 * c3 + 16777216 * c4 + 4294967296 * c5 + 1099511627776 * c6 + 281474976710656 * c7 := by
    have : x3 = c0 + 256 * (c1 + 256 * c2 + 65536 * c3 + 16777216 * c4 + 4294967296 * c5 + 1099511627776 * c6 + 281474976710656 * c7) := by rw [e3]; omega
    rw [this]
    exact dv_p (by omega)
  have f4 : x4 = (c0 + c1) + 256 * (c1 + c2) + 65536 * ((c2 + c3) + 256 * (c3 + c4) + 65536 * (c4 + c5) + 16777216 * (c5 + c6) + 4294967296 * (c6 + c7) + 1099511627776 * c7) := by
    rw [e4, d3, e3, Nat.mod_eq_of_lt (by omega)]
    omega
  clear e4 d3 e3
  have d4 : x4 / 65536 = (c2 + c3) + 256 * (c3 + c4) + 65536 * (c4 + c5) + 16777216 * (c5 + c6) + 4294967296 * (c6 + c7) + 1099511627776 * c7 := by
    rw [f4]
    exact dv_p (by omega)
  have f5 : x5 = ((c0 + c1 + c2 + c3) + 256 * (c1 + c2 + c3 + c4) + 65536 * (c2 + c3 + c4 + c5) + 16777216 * (c3 + c4 + c5 + c6)) + 4294967296 * ((c4 + c5 + c6 + c7) + 256 * (c5 + c6 + c7) + 65536 * (c6 + c7) + 16777216 * c7) := by
    rw [e5, d4, f4, Nat.mod_eq_of_lt (by omega)]
    omega
  clear e5 d4 f4
  have d5 : x5 / 4294967296 = (c4 + c5 + c6 + c7) + 256 * (c5 + c6 + c7) + 65536 * (c6 + c7) + 16777216 * c7 := by
    rw [f5]
    exact dv_p (by omega)
  rw [d5, f5, popF, popF, popC _ _ _ _ (popD h1 h2 h3 h4 h5 h6) (popE h5 h6 h7) (popG h0 h1 h2 h3) (popG h4 h5 h6 h7)]
  clear d5 f5
  omega
theorem popL (x : Int64) : J13m_bitCount_95d88 x = nI (fb_ct (fun i => (uN x).testBit i) 64) := by
  have hn := uN_lt x
  have hl : ∀ b, b < 256 → b < 256 := fun _ h => h
  have id8 := mpB_id 8 (uN x) hn
  have sh1 : uN ((x.toUInt64 >>> (((1 : Int32)).toInt64.toUInt64 &&& Int64.toUInt64 63)).toInt64 &&& (6148914691236517205 : Int64)) = mpB (fun b => (b / 2) &&& 85) 8 (uN x) := by
    rw [uN_and, show uN (x.toUInt64 >>> (((1 : Int32)).toInt64.toUInt64 &&& Int64.toUInt64 63)).toInt64 = uN x / 2 ^ 1 from uN_sk x (by decide), show uN (6148914691236517205 : Int64) = mkB 85 8 from by decide +kernel]
    have := mpB_shand (f := fun b => b) (h := fun b => (b / 2) &&& 85) (c := 85) (p := 2) (by decide) (by decide) (by decide) hl pa_s1 8 (uN x)
    rw [id8] at this
    exact this
  unfold J13m_bitCount_95d88
  simp only [nm]
  generalize h1 : x - ((x.toUInt64 >>> (((1 : Int32)).toInt64.toUInt64 &&& Int64.toUInt64 63)).toInt64 &&& (6148914691236517205 : Int64)) = x1
  have u1 : uN x1 = mpB pa1 8 (uN x) := by
    rw [← h1, uN_sub, sh1]
    obtain ⟨a, b⟩ := mpB_sub (f := fun b => b) (g := fun b => (b / 2) &&& 85) (fun b hb => (pa_l1 b hb).1) 8 (uN x)
    rw [id8] at a b
    show _ = mpB (fun b => b - ((b / 2) &&& 85)) 8 (uN x)
    rw [← a]
    omega
  have l1 : ∀ b, b < 256 → pa1 b < 256 := fun b hb => (pa_l1 b hb).2.1
  have sh2 : uN ((x1.toUInt64 >>> (((2 : Int32)).toInt64.toUInt64 &&& Int64.toUInt64 63)).toInt64 &&& (3689348814741910323 : Int64)) = mpB (fun b => (pa1 b / 4) &&& 51) 8 (uN x) := by
    rw [uN_and, show uN (x1.toUInt64 >>> (((2 : Int32)).toInt64.toUInt64 &&& Int64.toUInt64 63)).toInt64 = uN x1 / 2 ^ 2 from uN_sk x1 (by decide), show uN (3689348814741910323 : Int64) = mkB 51 8 from by decide +kernel, u1]
    exact mpB_shand (f := pa1) (h := fun b => (pa1 b / 4) &&& 51) (c := 51) (p := 4) (by decide) (by decide) (by decide) l1 pa_s2 8 (uN x)
  have sh3 : uN (x1 &&& (3689348814741910323 : Int64)) = mpB (fun b => pa1 b &&& 51) 8 (uN x) := by
    rw [uN_and, show uN (3689348814741910323 : Int64) = mkB 51 8 from by decide +kernel, u1]
    have := mpB_shand (f := pa1) (h := fun b => pa1 b &&& 51) (c := 51) (p := 1) (by decide) (by decide) (by decide) l1 pa_s3 8 (uN x)
    rw [Nat.div_one] at this
    exact this
  generalize h2 : (x1 &&& (3689348814741910323 : Int64)) + ((x1.toUInt64 >>> (((2 : Int32)).toInt64.toUInt64 &&& Int64.toUInt64 63)).toInt64 &&& (3689348814741910323 : Int64)) = x2
  have l2 := mpB_lt (f := pa2) (fun b hb => by have := (pa_l1 b hb).2.2.1; omega) 8 (uN x)
  have l2' := fun b hb => (pa_l1 b hb).2.2.1
  have u2 : uN x2 = mpB pa2 8 (uN x) := by
    rw [← h2, uN_add, sh2, sh3, mpB_add]
    exact Nat.mod_eq_of_lt l2
  generalize h3 : (x2 + (x2.toUInt64 >>> (((4 : Int32)).toInt64.toUInt64 &&& Int64.toUInt64 63)).toInt64) &&& (1085102592571150095 : Int64) = x3
  have u3 : uN x3 = mpB pcb 8 (uN x) := by
    rw [← h3, uN_and, uN_add, show uN (x2.toUInt64 >>> (((4 : Int32)).toInt64.toUInt64 &&& Int64.toUInt64 63)).toInt64 = uN x2 / 2 ^ 4 from uN_sk x2 (by decide), show uN (1085102592571150095 : Int64) = mkB 15 8 from by decide +kernel, u2]
    have hm := mpB_8 pa2 (uN x)
    have q0 := l2' (uN x % 256) (Nat.mod_lt _ (by decide))
    have q1 := l2' (uN x / 256 % 256) (Nat.mod_lt _ (by decide))
    have q2 := l2' (uN x / 65536 % 256) (Nat.mod_lt _ (by decide))
    have q3 := l2' (uN x / 16777216 % 256) (Nat.mod_lt _ (by decide))
    have q4 := l2' (uN x / 4294967296 % 256) (Nat.mod_lt _ (by decide))
    have q5 := l2' (uN x / 1099511627776 % 256) (Nat.mod_lt _ (by decide))
    have q6 := l2' (uN x / 281474976710656 % 256) (Nat.mod_lt _ (by decide))
    have q7 := l2' (uN x / 72057594037927936 % 256) (Nat.mod_lt _ (by decide))
    rw [Nat.mod_eq_of_lt (by omega)]
    exact (mpB_nib 8 (uN x)).1
  have e8 := fb_ct_8 (uN x) 8
  rw [show 8 * 8 = 64 from rfl] at e8
  rw [e8]
  have hm := mpB_8 pcb (uN x)
  have l3 := fun b hb => (pa_l1 b hb).2.2.2.2.2
  have eS : fb_sm (fun j => pcb (uN x / 256 ^ j % 256)) 8 = pcb (uN x % 256) + pcb (uN x / 256 % 256) + pcb (uN x / 65536 % 256) + pcb (uN x / 16777216 % 256) + pcb (uN x / 4294967296 % 256) + pcb (uN x / 1099511627776 % 256) + pcb (uN x / 281474976710656 % 256) + pcb (uN x / 72057594037927936 % 256) := by
    simp only [fb_sm, Nat.reducePow, Nat.div_one, Nat.zero_add]
  rw [eS, and127]
  congr 1
  rw [← u3] at hm
  generalize h4 : x3 + (x3.toUInt64 >>> (((8 : Int32)).toInt64.toUInt64 &&& Int64.toUInt64 63)).toInt64 = x4
  have u4 : uN x4 = (uN x3 + uN x3 / 256) % 18446744073709551616 := by
    rw [← h4, uN_add, show uN (x3.toUInt64 >>> (((8 : Int32)).toInt64.toUInt64 &&& Int64.toUInt64 63)).toInt64 = uN x3 / 2 ^ 8 from uN_sk x3 (by decide)]
  generalize h5 : x4 + (x4.toUInt64 >>> (((16 : Int32)).toInt64.toUInt64 &&& Int64.toUInt64 63)).toInt64 = x5
  have u5 : uN x5 = (uN x4 + uN x4 / 65536) % 18446744073709551616 := by
    rw [← h5, uN_add, show uN (x4.toUInt64 >>> (((16 : Int32)).toInt64.toUInt64 &&& Int64.toUInt64 63)).toInt64 = uN x4 / 2 ^ 16 from uN_sk x4 (by decide)]
  rw [uN_add, show uN (x5.toUInt64 >>> (((32 : Int32)).toInt64.toUInt64 &&& Int64.toUInt64 63)).toInt64 = uN x5 / 2 ^ 32 from uN_sk x5 (by decide)]
  exact popB (l3 _ (Nat.mod_lt _ (by decide))) (l3 _ (Nat.mod_lt _ (by decide))) (l3 _ (Nat.mod_lt _ (by decide))) (l3 _ (Nat.mod_lt _ (by decide))) (l3 _ (Nat.mod_lt _ (by decide))) (l3 _ (Nat.mod_lt _ (by decide))) (l3 _ (Nat.mod_lt _ (by decide))) (l3 _ (Nat.mod_lt _ (by decide))) hm u4 u5

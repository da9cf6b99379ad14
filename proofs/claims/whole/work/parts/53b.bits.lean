/-! Long.bitCount -/
def uN (x : Int64) : Nat := x.toUInt64.toNat
theorem uN_lt (x : Int64) : uN x < 2 ^ 64 := x.toUInt64.toNat_lt
theorem uN_add (x y : Int64) (h : uN x + uN y < 2 ^ 64) : uN (x + y) = uN x + uN y := by
  show (x.toUInt64 + y.toUInt64).toNat = _
  rw [UInt64.toNat_add]
  exact Nat.mod_eq_of_lt h
theorem uN_sub (x y : Int64) (h : uN y ≤ uN x) : uN (x - y) = uN x - uN y := by
  show (x.toUInt64 - y.toUInt64).toNat = _
  exact UInt64.toNat_sub_of_le _ _ h
theorem uN_and (x y : Int64) : uN (x &&& y) = uN x &&& uN y := by
  show (x.toUInt64 &&& y.toUInt64).toNat = _
  exact UInt64.toNat_and _ _
theorem uN_shr (x : Int64) {k : Nat} {s : UInt64} (hs : s.toNat = k) (hk : k < 64) : uN ((x.toUInt64 >>> s).toInt64) = uN x / 2 ^ k := by
  show (x.toUInt64 >>> s).toNat = _
  rw [UInt64.toNat_shiftRight, hs, Nat.mod_eq_of_lt hk, Nat.shiftRight_eq_div_pow]
  rfl
/-- a number by its digits, the lowest first -/
def VD (B : Nat) (f : Nat → Nat) : Nat → Nat
  | 0 => 0
  | n + 1 => f 0 + B * VD B (fun j => f (j + 1)) n
theorem VD_ext {B : Nat} : ∀ (n : Nat) {f g : Nat → Nat}, (∀ j, j < n → f j = g j) → VD B f n = VD B g n := by
  intro n
  induction n with
  | zero => intro f g _; rfl
  | succ n ih =>
    intro f g h
    show f 0 + B * VD B (fun j => f (j + 1)) n = g 0 + B * VD B (fun j => g (j + 1)) n
    rw [h 0 (by omega), ih (fun j hj => h (j + 1) (by omega))]
theorem VD_add {B : Nat} : ∀ (n : Nat) (f g : Nat → Nat), VD B f n + VD B g n = VD B (fun j => f j + g j) n := by
  intro n
  induction n with
  | zero => intro f g; rfl
  | succ n ih =>
    intro f g
    show (f 0 + B * VD B (fun j => f (j + 1)) n) + (g 0 + B * VD B (fun j => g (j + 1)) n) = (f 0 + g 0) + B * VD B (fun j => f (j + 1) + g (j + 1)) n
    rw [← ih, Nat.mul_add]
    omega
theorem VD_lt {B : Nat} (hB : 0 < B) : ∀ (n : Nat) (f : Nat → Nat), (∀ j, j < n → f j < B) → VD B f n < B ^ n := by
  intro n
  induction n with
  | zero => intro f _; exact Nat.one_pos
  | succ n ih =>
    intro f h
    have h1 := ih (fun j => f (j + 1)) (fun j hj => h (j + 1) (by omega))
    have h0 := h 0 (by omega)
    show f 0 + B * VD B (fun j => f (j + 1)) n < B ^ (n + 1)
    rw [Nat.pow_succ, Nat.mul_comm (B ^ n) B]
    have h2 : B * (VD B (fun j => f (j + 1)) n + 1) ≤ B * B ^ n := Nat.mul_le_mul_left B h1
    rw [Nat.mul_add, Nat.mul_one] at h2
    omega
theorem VD_div {B : Nat} (n : Nat) (f : Nat → Nat) (h : f 0 < B) : VD B f (n + 1) / B = VD B (fun j => f (j + 1)) n := by
  show (f 0 + B * VD B (fun j => f (j + 1)) n) / B = _
  rw [Nat.add_mul_div_left _ _ (by omega), Nat.div_eq_of_lt h, Nat.zero_add]
theorem VD_pad {B : Nat} : ∀ (n : Nat) (f : Nat → Nat), f n = 0 → VD B f (n + 1) = VD B f n := by
  intro n
  induction n with
  | zero => intro f h; show f 0 + B * 0 = 0; rw [h, Nat.mul_zero]
  | succ n ih =>
    intro f h
    show f 0 + B * VD B (fun j => f (j + 1)) (n + 1) = f 0 + B * VD B (fun j => f (j + 1)) n
    rw [ih (fun j => f (j + 1)) h]
/-- one digit to the right, the length kept -/
theorem VD_shr {B : Nat} (n : Nat) (f : Nat → Nat) (h : f 0 < B) (hz : f (n + 1) = 0) : VD B f (n + 1) / B = VD B (fun j => f (j + 1)) (n + 1) := by
  rw [VD_div n f h, VD_pad n (fun j => f (j + 1)) hz]
theorem land_digit {w d m r s : Nat} (hd : d < 2 ^ w) (hm : m < 2 ^ w) : (d + 2 ^ w * r) &&& (m + 2 ^ w * s) = (d &&& m) + 2 ^ w * (r &&& s) := by
  have hdm : d &&& m < 2 ^ w := Nat.and_lt_two_pow d hm
  apply Nat.eq_of_testBit_eq
  intro i
  rw [Nat.testBit_and, Nat.add_comm d, Nat.add_comm m, Nat.add_comm (d &&& m), Nat.testBit_two_pow_mul_add r hd, Nat.testBit_two_pow_mul_add s hm, Nat.testBit_two_pow_mul_add _ hdm]
  by_cases h : i < w
  · rw [if_pos h, if_pos h, if_pos h, Nat.testBit_and]
  · rw [if_neg h, if_neg h, if_neg h, Nat.testBit_and]
theorem VD_and {w : Nat} : ∀ (n : Nat) (f g : Nat → Nat), (∀ j, j < n → f j < 2 ^ w) → (∀ j, j < n → g j < 2 ^ w) → VD (2 ^ w) f n &&& VD (2 ^ w) g n = VD (2 ^ w) (fun j => f j &&& g j) n := by
  intro n
  induction n with
  | zero => intro f g _ _; show 0 &&& 0 = 0; rfl
  | succ n ih =>
    intro f g hf hg
    show (f 0 + 2 ^ w * VD (2 ^ w) (fun j => f (j + 1)) n) &&& (g 0 + 2 ^ w * VD (2 ^ w) (fun j => g (j + 1)) n) = (f 0 &&& g 0) + 2 ^ w * VD (2 ^ w) (fun j => f (j + 1) &&& g (j + 1)) n
    rw [land_digit (hf 0 (by omega)) (hg 0 (by omega)), ih (fun j => f (j + 1)) (fun j => g (j + 1)) (fun j hj => hf (j + 1) (by omega)) (fun j hj => hg (j + 1) (by omega))]
theorem VD_two {B : Nat} : ∀ (n : Nat) (f : Nat → Nat), VD B f (2 * n) = VD (B * B) (fun j => f (2 * j) + B * f (2 * j + 1)) n := by
  intro n
  induction n with
  | zero => intro f; rfl
  | succ n ih =>
    intro f
    show f 0 + B * (f 1 + B * VD B (fun j => f (j + 1 + 1)) (2 * n)) = (f 0 + B * f 1) + (B * B) * VD (B * B) (fun j => f (2 * (j + 1)) + B * f (2 * (j + 1) + 1)) n
    rw [ih (fun j => f (j + 1 + 1)), Nat.mul_add, Nat.mul_assoc, Nat.add_assoc]
    rfl
theorem VD_bits : ∀ (n x : Nat), x < 2 ^ n → x = VD 2 (fun j => if x.testBit j then 1 else 0) n := by
  intro n
  induction n with
  | zero => intro x h; exact Nat.lt_one_iff.mp h
  | succ n ih =>
    intro x h
    have h1 := ih (x / 2) (by rw [Nat.pow_succ] at h; omega)
    show x = (if x.testBit 0 then 1 else 0) + 2 * VD 2 (fun j => if x.testBit (j + 1) then 1 else 0) n
    have h2 : (fun j => if x.testBit (j + 1) then 1 else 0) = (fun j => if (x / 2).testBit j then 1 else 0) := by
      funext j
      rw [Nat.testBit_succ]
    rw [h2, ← h1, Nat.testBit_zero]
    by_cases q : x % 2 = 1
    · simp [q]; omega
    · simp [q]; omega
theorem bl_uN (x : Int64) (j : Nat) : bl x j = (uN x).testBit j := rfl
/-- every other digit of a masked number, in the square of the base -/
theorem VD_evens {w M : Nat} (n : Nat) (f : Nat → Nat) (hM : M = VD (2 ^ w) (fun j => if j % 2 = 0 then 2 ^ w - 1 else 0) (2 * n)) (hf : ∀ j, j < 2 * n → f j < 2 ^ w) : VD (2 ^ w) f (2 * n) &&& M = VD (2 ^ w * 2 ^ w) (fun j => f (2 * j)) n := by
  have hp : 0 < 2 ^ w := Nat.two_pow_pos w
  rw [hM, VD_and (2 * n) f _ hf (fun j _ => by by_cases q : j % 2 = 0 <;> simp [q] <;> omega), VD_two]
  apply VD_ext
  intro j hj
  have e1 : (2 * j) % 2 = 0 := by omega
  have e2 : ¬ (2 * j + 1) % 2 = 0 := by omega
  simp only [e1, e2, if_true, if_false, Nat.and_zero, Nat.mul_zero, Nat.add_zero]
  rw [Nat.and_two_pow_sub_one_eq_mod, Nat.mod_eq_of_lt (hf (2 * j) (by omega))]
theorem m1_val : uN 6148914691236517205 = VD (2 ^ 1) (fun j => if j % 2 = 0 then 2 ^ 1 - 1 else 0) (2 * 32) := by decide +kernel
theorem m2_val : uN 3689348814741910323 = VD (2 ^ 2) (fun j => if j % 2 = 0 then 2 ^ 2 - 1 else 0) (2 * 16) := by decide +kernel
theorem m4_val : uN 1085102592571150095 = VD (2 ^ 4) (fun j => if j % 2 = 0 then 2 ^ 4 - 1 else 0) (2 * 8) := by decide +kernel
theorem sh_val (k : Int32) {n : Nat} (h : (k.toInt64.toUInt64 &&& Int64.toUInt64 63).toNat = n) : (k.toInt64.toUInt64 &&& Int64.toUInt64 63).toNat = n := h
/-- the steps, one by one -/
theorem bc_1 {b : Nat → Nat} (hb : ∀ j, b j ≤ 1) (hz : ∀ j, 64 ≤ j → b j = 0) {x : Int64} (hx : uN x = VD 2 b 64) : uN (x - (((x.toUInt64 >>> ((1 : Int32).toInt64.toUInt64 &&& Int64.toUInt64 63)).toInt64) &&& 6148914691236517205)) = VD 4 (fun j => b (2 * j) + b (2 * j + 1)) 32 := by
  have h1 : uN ((x.toUInt64 >>> ((1 : Int32).toInt64.toUInt64 &&& Int64.toUInt64 63)).toInt64) = VD 2 (fun j => b (j + 1)) 64 := by
    rw [uN_shr x (k := 1) (by decide) (by decide), hx]
    exact VD_shr 63 b (by have := hb 0; omega) (hz 64 (by omega))
  have h2 : uN (((x.toUInt64 >>> ((1 : Int32).toInt64.toUInt64 &&& Int64.toUInt64 63)).toInt64) &&& 6148914691236517205) = VD 4 (fun j => b (2 * j + 1)) 32 := by
    rw [uN_and, h1]
    exact VD_evens (w := 1) 32 (fun j => b (j + 1)) m1_val (fun j _ => by have := hb (j + 1); show b (j + 1) < 2; omega)
  have h3 : uN x = VD 4 (fun j => b (2 * j) + b (2 * j + 1)) 32 + VD 4 (fun j => b (2 * j + 1)) 32 := by
    rw [hx, VD_add, show (64 : Nat) = 2 * 32 from rfl, VD_two]
    apply VD_ext
    intro j _
    show b (2 * j) + 2 * b (2 * j + 1) = b (2 * j) + b (2 * j + 1) + b (2 * j + 1)
    omega
  rw [uN_sub _ _ (by rw [h2, h3]; omega), h2, h3]
  omega
theorem bc_2 {e : Nat → Nat} (he : ∀ j, e j ≤ 2) (hz : ∀ j, 32 ≤ j → e j = 0) {x : Int64} (hx : uN x = VD 4 e 32) : uN ((x &&& 3689348814741910323) + (((x.toUInt64 >>> ((2 : Int32).toInt64.toUInt64 &&& Int64.toUInt64 63)).toInt64) &&& 3689348814741910323)) = VD 16 (fun j => e (2 * j) + e (2 * j + 1)) 16 := by
  have h1 : uN ((x.toUInt64 >>> ((2 : Int32).toInt64.toUInt64 &&& Int64.toUInt64 63)).toInt64) = VD 4 (fun j => e (j + 1)) 32 := by
    rw [uN_shr x (k := 2) (by decide) (by decide), hx]
    exact VD_shr 31 e (by have := he 0; omega) (hz 32 (by omega))
  have h2 : uN (((x.toUInt64 >>> ((2 : Int32).toInt64.toUInt64 &&& Int64.toUInt64 63)).toInt64) &&& 3689348814741910323) = VD 16 (fun j => e (2 * j + 1)) 16 := by
    rw [uN_and, h1]
    exact VD_evens (w := 2) 16 (fun j => e (j + 1)) m2_val (fun j _ => by have := he (j + 1); show e (j + 1) < 4; omega)
  have h3 : uN (x &&& 3689348814741910323) = VD 16 (fun j => e (2 * j)) 16 := by
    rw [uN_and, hx]
    exact VD_evens (w := 2) 16 e m2_val (fun j _ => by have := he j; show e j < 4; omega)
  have h4 := VD_lt (B := 16) (by decide) 16 (fun j => e (2 * j) + e (2 * j + 1)) (fun j _ => by have := he (2 * j); have := he (2 * j + 1); show e (2 * j) + e (2 * j + 1) < 16; omega)
  have h5 := VD_add (B := 16) 16 (fun j => e (2 * j)) (fun j => e (2 * j + 1))
  rw [uN_add _ _ (by rw [h2, h3, h5]; exact h4), h2, h3, h5]
theorem bc_3 {f : Nat → Nat} (hf : ∀ j, f j ≤ 4) (hz : ∀ j, 16 ≤ j → f j = 0) {x : Int64} (hx : uN x = VD 16 f 16) : uN ((x + ((x.toUInt64 >>> ((4 : Int32).toInt64.toUInt64 &&& Int64.toUInt64 63)).toInt64)) &&& 1085102592571150095) = VD 256 (fun j => f (2 * j) + f (2 * j + 1)) 8 := by
  have h1 : uN ((x.toUInt64 >>> ((4 : Int32).toInt64.toUInt64 &&& Int64.toUInt64 63)).toInt64) = VD 16 (fun j => f (j + 1)) 16 := by
    rw [uN_shr x (k := 4) (by decide) (by decide), hx]
    exact VD_shr 15 f (by have := hf 0; omega) (hz 16 (by omega))
  have h4 := VD_lt (B := 16) (by decide) 16 (fun j => f j + f (j + 1)) (fun j _ => by have := hf j; have := hf (j + 1); show f j + f (j + 1) < 16; omega)
  have h5 := VD_add (B := 16) 16 f (fun j => f (j + 1))
  rw [uN_and, uN_add _ _ (by rw [h1, hx, h5]; exact h4), h1, hx, h5]
  exact VD_evens (w := 4) 8 (fun j => f j + f (j + 1)) m4_val (fun j _ => by have := hf j; have := hf (j + 1); show f j + f (j + 1) < 16; omega)
/-- k digits of 8 bits to the right -/
theorem bc_s {g : Nat → Nat} {m k : Nat} (hg : ∀ j, g j ≤ m) (hm : m < 128) (hz : ∀ j, 8 ≤ j → g j = 0) {x : Int64} (hx : uN x = VD 256 g 8) {s : UInt64} (hs : s.toNat = 8 * k) (hk : k < 8) : uN (x + (x.toUInt64 >>> s).toInt64) = VD 256 (fun j => g j + g (j + k)) 8 := by
  have key : ∀ k, VD 256 g 8 / 2 ^ (8 * k) = VD 256 (fun j => g (j + k)) 8 := by
    intro k
    induction k with
    | zero => simp
    | succ k ih =>
      rw [show 8 * (k + 1) = 8 * k + 8 by omega, Nat.pow_add, ← Nat.div_div_eq_div_mul, ih]
      show VD 256 (fun j => g (j + k)) (7 + 1) / 256 = _
      rw [VD_shr 7 (fun j => g (j + k)) (by have := hg (0 + k); show g (0 + k) < 256; omega) (hz _ (by omega))]
      apply VD_ext
      intro j _
      show g (j + 1 + k) = g (j + (k + 1))
      rw [show j + 1 + k = j + (k + 1) by omega]
  have h1 : uN ((x.toUInt64 >>> s).toInt64) = VD 256 (fun j => g (j + k)) 8 := by
    rw [uN_shr x hs (by omega), hx, key]
  have h4 := VD_lt (B := 256) (by decide) 8 (fun j => g j + g (j + k)) (fun j _ => by have := hg j; have := hg (j + k); show g j + g (j + k) < 256; omega)
  have h5 := VD_add (B := 256) 8 g (fun j => g (j + k))
  rw [uN_add _ _ (by rw [h1, hx, h5]; exact h4), h1, hx, h5]
theorem bc_end {x : Int64} {d r : Nat} (hx : uN x = d + 256 * r) (hd : d ≤ 64) : x.toInt32 &&& 127 = nI d := by
  apply Int32.toBitVec_inj.mp
  apply BitVec.eq_of_toNat_eq
  rw [Int32.toBitVec_and, BitVec.toNat_and]
  have h1 : (x.toInt32).toBitVec.toNat = uN x % 2 ^ 32 := by
    show (x.toBitVec.signExtend 32).toNat = _
    rw [BitVec.signExtend_eq_setWidth_of_le _ (by omega), BitVec.toNat_setWidth]
    rfl
  have h2 : (127 : Int32).toBitVec.toNat = 2 ^ 7 - 1 := by decide
  have h3 : (nI d).toBitVec.toNat = d := pk_tn (by omega)
  rw [h1, h2, h3, Nat.and_two_pow_sub_one_eq_mod, hx]
  omega
theorem bitCount_c (w : Int64) : f_J13_bitCount_95d88 w = some (nI (pcn w 64)) := by
  unfold f_J13_bitCount_95d88
  have hx0 := VD_bits 64 (uN w) (uN_lt w)
  generalize hb : (fun j => if (uN w).testBit j then 1 else 0) = b at hx0
  have hb1 : ∀ j, b j ≤ 1 := fun j => by rw [← hb]; show (if (uN w).testBit j then 1 else 0) ≤ 1; by_cases q : (uN w).testBit j = true <;> simp [q]
  have hbz : ∀ j, 64 ≤ j → b j = 0 := fun j hj => by
    rw [← hb]
    show (if (uN w).testBit j then 1 else 0) = 0
    rw [← bl_uN, bl_big hj]
    rfl
  have hx1 := bc_1 hb1 hbz hx0
  generalize (w - (((w.toUInt64 >>> ((1 : Int32).toInt64.toUInt64 &&& Int64.toUInt64 63)).toInt64) &&& 6148914691236517205)) = x1 at hx1 ⊢
  have hx2 := bc_2 (e := fun j => b (2 * j) + b (2 * j + 1)) (fun j => by have := hb1 (2 * j); have := hb1 (2 * j + 1); show b (2 * j) + b (2 * j + 1) ≤ 2; omega) (fun j hj => by show b (2 * j) + b (2 * j + 1) = 0; rw [hbz _ (by omega), hbz _ (by omega)]) hx1
  generalize ((x1 &&& 3689348814741910323) + (((x1.toUInt64 >>> ((2 : Int32).toInt64.toUInt64 &&& Int64.toUInt64 63)).toInt64) &&& 3689348814741910323)) = x2 at hx2 ⊢
  generalize hf : (fun j => (fun j => b (2 * j) + b (2 * j + 1)) (2 * j) + (fun j => b (2 * j) + b (2 * j + 1)) (2 * j + 1)) = f at hx2
  have hf4 : ∀ j, f j ≤ 4 := fun j => by
    rw [← hf]
    have := hb1 (2 * (2 * j)); have := hb1 (2 * (2 * j) + 1); have := hb1 (2 * (2 * j + 1)); have := hb1 (2 * (2 * j + 1) + 1)
    show b (2 * (2 * j)) + b (2 * (2 * j) + 1) + (b (2 * (2 * j + 1)) + b (2 * (2 * j + 1) + 1)) ≤ 4
    omega
  have hfz : ∀ j, 16 ≤ j → f j = 0 := fun j hj => by
    rw [← hf]
    show b (2 * (2 * j)) + b (2 * (2 * j) + 1) + (b (2 * (2 * j + 1)) + b (2 * (2 * j + 1) + 1)) = 0
    rw [hbz _ (by omega), hbz _ (by omega), hbz _ (by omega), hbz _ (by omega)]
  have hx3 := bc_3 hf4 hfz hx2
  generalize ((x2 + ((x2.toUInt64 >>> ((4 : Int32).toInt64.toUInt64 &&& Int64.toUInt64 63)).toInt64)) &&& 1085102592571150095) = x3 at hx3 ⊢
  generalize hg : (fun j => f (2 * j) + f (2 * j + 1)) = g at hx3
  have hg8 : ∀ j, g j ≤ 8 := fun j => by rw [← hg]; have := hf4 (2 * j); have := hf4 (2 * j + 1); show f (2 * j) + f (2 * j + 1) ≤ 8; omega
  have hgz : ∀ j, 8 ≤ j → g j = 0 := fun j hj => by rw [← hg]; show f (2 * j) + f (2 * j + 1) = 0; rw [hfz _ (by omega), hfz _ (by omega)]
  have hx4 := bc_s (k := 1) hg8 (by omega) hgz hx3 (s := (8 : Int32).toInt64.toUInt64 &&& Int64.toUInt64 63) (by decide) (by omega)
  generalize (x3 + ((x3.toUInt64 >>> ((8 : Int32).toInt64.toUInt64 &&& Int64.toUInt64 63)).toInt64)) = x4 at hx4 ⊢
  have hx5 := bc_s (k := 2) (m := 16) (fun j => by have := hg8 j; have := hg8 (j + 1); show g j + g (j + 1) ≤ 16; omega) (by omega) (fun j hj => by show g j + g (j + 1) = 0; rw [hgz _ hj, hgz _ (by omega)]) hx4 (s := (16 : Int32).toInt64.toUInt64 &&& Int64.toUInt64 63) (by decide) (by omega)
  generalize (x4 + ((x4.toUInt64 >>> ((16 : Int32).toInt64.toUInt64 &&& Int64.toUInt64 63)).toInt64)) = x5 at hx5 ⊢
  have hx6 := bc_s (k := 4) (m := 32) (fun j => by have := hg8 j; have := hg8 (j + 1); have := hg8 (j + 2); have := hg8 (j + 2 + 1); show g j + g (j + 1) + (g (j + 2) + g (j + 2 + 1)) ≤ 32; omega) (by omega) (fun j hj => by show g j + g (j + 1) + (g (j + 2) + g (j + 2 + 1)) = 0; rw [hgz _ hj, hgz _ (by omega), hgz _ (by omega), hgz _ (by omega)]) hx5 (s := (32 : Int32).toInt64.toUInt64 &&& Int64.toUInt64 63) (by decide) (by omega)
  generalize (x5 + ((x5.toUInt64 >>> ((32 : Int32).toInt64.toUInt64 &&& Int64.toUInt64 63)).toInt64)) = x6 at hx6 ⊢
  congr 1
  have hd := bc_end (x := x6) hx6 (by
    show g 0 + g 1 + (g 2 + g 3) + (g 4 + g 5 + (g 6 + g 7)) ≤ 64
    have := hg8 0; have := hg8 1; have := hg8 2; have := hg8 3; have := hg8 4; have := hg8 5; have := hg8 6; have := hg8 7
    omega)
  rw [hd]
  congr 1
  have hp : ∀ n, pcn w (n + 1) = pcn w n + b n := fun n => by
    rw [← hb]
    show pcn w n + (if bl w n = true then 1 else 0) = pcn w n + (if (uN w).testBit n then 1 else 0)
    rw [bl_uN]
  subst hg
  subst hf
  simp only [hp, show pcn w 0 = 0 from rfl, Nat.zero_add, Nat.mul_zero, Nat.reduceMul, Nat.reduceAdd, Nat.add_zero, Nat.mul_one]
  omega

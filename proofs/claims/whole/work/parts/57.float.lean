/-! the floats: no quotient of the law is a NaN -/
def Gd (f : FP.Core.Fmt) : FP.Core.Datum → Prop
  | .nan => False
  | .inf _ => True
  | .fin _ c q => c < 2 ^ f.p ∧ q ≤ f.qmax
theorem bound_Gd {f : FP.Core.Fmt} {s : Bool} {c : Nat} {q : Int} (h : c < 2 ^ f.p) : Gd f (FP.Core.bound f s c q) := by
  unfold FP.Core.bound
  by_cases k : q ≤ f.qmax
  · rw [if_pos k]; exact ⟨h, k⟩
  · rw [if_neg k]; exact trivial
theorem settle_Gd {f : FP.Core.Fmt} {s : Bool} {c : Nat} {q : Int} (hf : f.tails < 2 ^ f.p) : Gd f (FP.Core.settle f s c q) := by
  unfold FP.Core.settle
  by_cases k : c < 2 ^ f.p
  · rw [if_pos k]; exact bound_Gd k
  · rw [if_neg k]; exact bound_Gd hf
theorem ratio_Gd {f : FP.Core.Fmt} {s : Bool} {n d : Nat} {e : Int} (hf : f.tails < 2 ^ f.p) (hq : f.qmin ≤ f.qmax) : Gd f (FP.Core.roundRatio f s n d e) := by
  unfold FP.Core.roundRatio
  by_cases k : n = 0
  · rw [if_pos k]; exact ⟨Nat.two_pow_pos _, hq⟩
  · rw [if_neg k]; exact settle_Gd hf
theorem round_Gd {f : FP.Core.Fmt} {d : FP.Core.Datum} (hf : f.tails < 2 ^ f.p) (hq : f.qmin ≤ f.qmax) (hd : d ≠ .nan) : Gd f (FP.Core.round f d) := by
  cases d with
  | nan => exact absurd rfl hd
  | inf s => exact trivial
  | fin s c q => exact ratio_Gd hf hq
theorem b32_t : FP.Core.b32.tails = 8388608 := by decide
theorem b32_e : FP.Core.b32.exps = 256 := by decide
theorem b32_p : 2 ^ FP.Core.b32.p = 16777216 := by decide
theorem b32_q : FP.Core.b32.qmin = -149 := by decide
theorem b32_m : FP.Core.b32.qmax = 104 := by decide
theorem b64_t : FP.Core.b64.tails = 4503599627370496 := by decide
theorem b64_e : FP.Core.b64.exps = 2048 := by decide
theorem b64_p : 2 ^ FP.Core.b64.p = 9007199254740992 := by decide
theorem b64_q : FP.Core.b64.qmin = -1074 := by decide
theorem b64_m : FP.Core.b64.qmax = 971 := by decide
theorem enc32 {d : FP.Core.Datum} (h : Gd FP.Core.b32 d) : FP.Core.encode FP.Core.b32 d % 2147483648 ≤ 2139095040 := by
  cases d with
  | nan => exact h.elim
  | inf s =>
    show FP.Core.assemble FP.Core.b32 s (FP.Core.b32.exps - 1) 0 % 2147483648 ≤ 2139095040
    unfold FP.Core.assemble
    rw [b32_t, b32_e]
    cases s <;> decide
  | fin s c q =>
    obtain ⟨h1, h2⟩ := h
    rw [b32_p] at h1
    rw [b32_m] at h2
    show (if c < FP.Core.b32.tails then FP.Core.assemble FP.Core.b32 s 0 c else FP.Core.assemble FP.Core.b32 s ((q - FP.Core.b32.qmin).toNat + 1) (c - FP.Core.b32.tails)) % 2147483648 ≤ 2139095040
    unfold FP.Core.assemble
    rw [b32_t, b32_e, b32_q]
    by_cases k : c < 8388608
    · rw [if_pos k]
      cases s <;> simp only [Bool.toNat_true, Bool.toNat_false] <;> omega
    · rw [if_neg k]
      have h3 : (q - -149).toNat ≤ 253 := by omega
      generalize (q - -149).toNat = e at h3
      cases s <;> simp only [Bool.toNat_true, Bool.toNat_false] <;> omega
theorem enc64 {d : FP.Core.Datum} (h : Gd FP.Core.b64 d) : FP.Core.encode FP.Core.b64 d % 9223372036854775808 ≤ 9218868437227405312 := by
  cases d with
  | nan => exact h.elim
  | inf s =>
    show FP.Core.assemble FP.Core.b64 s (FP.Core.b64.exps - 1) 0 % 9223372036854775808 ≤ 9218868437227405312
    unfold FP.Core.assemble
    rw [b64_t, b64_e]
    cases s <;> decide
  | fin s c q =>
    obtain ⟨h1, h2⟩ := h
    rw [b64_p] at h1
    rw [b64_m] at h2
    show (if c < FP.Core.b64.tails then FP.Core.assemble FP.Core.b64 s 0 c else FP.Core.assemble FP.Core.b64 s ((q - FP.Core.b64.qmin).toNat + 1) (c - FP.Core.b64.tails)) % 9223372036854775808 ≤ 9218868437227405312
    unfold FP.Core.assemble
    rw [b64_t, b64_e, b64_q]
    by_cases k : c < 4503599627370496
    · rw [if_pos k]
      cases s <;> simp only [Bool.toNat_true, Bool.toNat_false] <;> omega
    · rw [if_neg k]
      have h3 : (q - -1074).toNat ≤ 2045 := by omega
      generalize (q - -1074).toNat = e at h3
      cases s <;> simp only [Bool.toNat_true, Bool.toNat_false] <;> omega
theorem n32_of (n : Nat) (h : n % 2147483648 ≤ 2139095040) : (UInt32.ofNat n) &&& 0x7fffffff ≤ 0x7f800000 := by
  rw [UInt32.le_iff_toNat_le, UInt32.toNat_and, UInt32.toNat_ofNat']
  show (n % 2 ^ 32) &&& (2 ^ 31 - 1) ≤ 2139095040
  rw [Nat.and_two_pow_sub_one_eq_mod]
  omega
theorem n64_of (n : Nat) (h : n % 9223372036854775808 ≤ 9218868437227405312) : (UInt64.ofNat n) &&& 0x7fffffffffffffff ≤ 0x7ff0000000000000 := by
  rw [UInt64.le_iff_toNat_le, UInt64.toNat_and, UInt64.toNat_ofNat']
  show (n % 2 ^ 64) &&& (2 ^ 63 - 1) ≤ 9218868437227405312
  rw [Nat.and_two_pow_sub_one_eq_mod]
  omega
theorem dec32 {r : UInt32} (h : r &&& 0x7fffffff ≤ 0x7f800000) : FP.Core.decode FP.Core.b32 r.toNat ≠ .nan := by
  rw [UInt32.le_iff_toNat_le, UInt32.toNat_and] at h
  have h2 : r.toNat &&& (2 ^ 31 - 1) ≤ 2139095040 := h
  rw [Nat.and_two_pow_sub_one_eq_mod] at h2
  unfold FP.Core.decode FP.Core.fieldE FP.Core.fieldT
  rw [b32_t, b32_e]
  by_cases k : r.toNat / 8388608 % 256 = 256 - 1
  · rw [if_pos k, if_pos (by omega)]
    intro z; cases z
  · rw [if_neg k]
    by_cases k2 : r.toNat / 8388608 % 256 = 0
    · rw [if_pos k2]; intro z; cases z
    · rw [if_neg k2]; intro z; cases z
theorem dec64 {r : UInt64} (h : r &&& 0x7fffffffffffffff ≤ 0x7ff0000000000000) : FP.Core.decode FP.Core.b64 r.toNat ≠ .nan := by
  rw [UInt64.le_iff_toNat_le, UInt64.toNat_and] at h
  have h2 : r.toNat &&& (2 ^ 63 - 1) ≤ 9218868437227405312 := h
  rw [Nat.and_two_pow_sub_one_eq_mod] at h2
  unfold FP.Core.decode FP.Core.fieldE FP.Core.fieldT
  rw [b64_t, b64_e]
  by_cases k : r.toNat / 4503599627370496 % 2048 = 2048 - 1
  · rw [if_pos k, if_pos (by omega)]
    intro z; cases z
  · rw [if_neg k]
    by_cases k2 : r.toNat / 4503599627370496 % 2048 = 0
    · rw [if_pos k2]; intro z; cases z
    · rw [if_neg k2]; intro z; cases z
theorem f2d_n64 {r : UInt32} (h : r &&& 0x7fffffff ≤ 0x7f800000) : (FP.f2d r) &&& 0x7fffffffffffffff ≤ 0x7ff0000000000000 := by
  have hd := dec32 h
  unfold FP.f2d
  rw [if_neg (by unfold FP.Core.fIsNaN FP.Core.isNaN; rw [decide_eq_true_eq]; exact hd)]
  exact n64_of _ (enc64 (round_Gd (by rw [b64_t, b64_p]; decide) (by rw [b64_q, b64_m]; decide) hd))
theorem order_self {d : FP.Core.Datum} (h : d ≠ .nan) : FP.Core.order d d = some .eq := by
  cases d with
  | nan => exact absurd rfl h
  | inf s => cases s <;> decide
  | fin s c q =>
    show some (compare (FP.Core.signed s (FP.Core.inUnits c q (min q q))) (FP.Core.signed s (FP.Core.inUnits c q (min q q)))) = _
    rw [show compare (FP.Core.signed s (FP.Core.inUnits c q (min q q))) (FP.Core.signed s (FP.Core.inUnits c q (min q q))) = .eq from by simp]
theorem dcmp_self {r : UInt64} (h : r &&& 0x7fffffffffffffff ≤ 0x7ff0000000000000) : Op.cmpValue (FP.dcmp r r) .l = 0 := by
  show Op.cmpValue (FP.Core.order (FP.Core.decode FP.Core.b64 r.toNat) (FP.Core.decode FP.Core.b64 r.toNat)) .l = 0
  rw [order_self (dec64 h)]
  rfl
def isFin : FP.Core.Datum → Bool
  | .fin _ _ _ => true
  | _ => false
def isPos : FP.Core.Datum → Bool
  | .fin _ c _ => c != 0
  | _ => false
theorem i2f_fin : ∀ a, a < 761 → isFin (FP.Core.decode FP.Core.b32 (FP.i2f (nI a)).toNat) = true := by decide +kernel
theorem i2f_pos : ∀ t, t < 39 → 0 < t → isPos (FP.Core.decode FP.Core.b32 (FP.i2f (nI (20 * t))).toNat) = true := by decide +kernel
theorem div_n32 {a t : Nat} (ha : a < 761) (ht : t < 39) (h0 : 0 < t) : (FP.fdiv (FP.i2f (nI a)) (FP.i2f (nI (20 * t)))) &&& 0x7fffffff ≤ 0x7f800000 := by
  have h1 := i2f_fin a ha
  have h2 := i2f_pos t ht h0
  show (UInt32.ofNat (FP.Core.encode FP.Core.b32 (FP.Core.quotient FP.Core.b32 (FP.Core.decode FP.Core.b32 (FP.i2f (nI a)).toNat) (FP.Core.decode FP.Core.b32 (FP.i2f (nI (20 * t))).toNat)))) &&& 0x7fffffff ≤ 0x7f800000
  apply n32_of
  apply enc32
  generalize FP.Core.decode FP.Core.b32 (FP.i2f (nI a)).toNat = x at h1
  generalize FP.Core.decode FP.Core.b32 (FP.i2f (nI (20 * t))).toNat = y at h2
  cases x with
  | nan => cases h1
  | inf s => cases h1
  | fin s c q =>
    cases y with
    | nan => cases h2
    | inf s => cases h2
    | fin s' d r =>
      have hd : ¬ d = 0 := by
        intro z
        subst z
        cases h2
      show Gd FP.Core.b32 (if d = 0 then (if c = 0 then .nan else .inf (s != s')) else FP.Core.roundRatio FP.Core.b32 (s != s') c d (q - r))
      rw [if_neg hd]
      exact ratio_Gd (by rw [b32_t, b32_p]; decide) (by rw [b32_q, b32_m]; decide)

/-! loops -/
theorem lp_inv {σ ρ : Type} {b : σ → Option (σ ⊕ ρ)} (I : Nat → σ → Prop) (N : Nat) (P : ρ → Prop)
    (hs : ∀ i s, i < N → I i s → (∃ s', b s = some (.inl s') ∧ I (i + 1) s') ∨ ∃ r, b s = some (.inr r) ∧ P r)
    (he : ∀ s, I N s → ∃ r, b s = some (.inr r) ∧ P r) :
    ∀ n i s, I i s → i ≤ N → N - i < n → ∃ r, lp b n s = some r ∧ P r := by
  intro n
  induction n with
  | zero => intro i s _ _ h; exact absurd h (Nat.not_lt_zero _)
  | succ n ih =>
    intro i s hI hi hn
    rcases Nat.lt_or_ge i N with h | h
    · rcases hs i s h hI with ⟨s', e, hI'⟩ | ⟨r, e, hP⟩
      · obtain ⟨r, e2, hP⟩ := ih (i + 1) s' hI' h (by omega)
        exact ⟨r, by unfold lp; rw [e]; exact e2, hP⟩
      · exact ⟨r, by unfold lp; rw [e], hP⟩
    · have : i = N := by omega
      subst this
      obtain ⟨r, e, hP⟩ := he s hI
      exact ⟨r, by unfold lp; rw [e], hP⟩
/-- a loop whose states are known -/
theorem lp_cnt {σ ρ : Type} {b : σ → Option (σ ⊕ ρ)} (st : Nat → σ) (N : Nat) (r : ρ) (hs : ∀ i, i < N → b (st i) = some (.inl (st (i + 1)))) (he : b (st N) = some (.inr r)) {n : Nat} (hn : N < n) : lp b n (st 0) = some r := by
  obtain ⟨r', e, h⟩ := lp_inv (b := b) (fun i s => s = st i) N (fun x => x = r) (fun i s hi h => Or.inl ⟨st (i + 1), by rw [h]; exact hs i hi, rfl⟩) (fun s h => ⟨r, by rw [h]; exact he, rfl⟩) n 0 (st 0) rfl (Nat.zero_le _) (by omega)
  rw [e, h]
/-- two loops side by side -/
theorem lp_two {σ ρ σ' ρ' : Type} {b : σ → Option (σ ⊕ ρ)} {b' : σ' → Option (σ' ⊕ ρ')} (I : Nat → σ → σ' → Prop) (N : Nat) (P : ρ → ρ' → Prop)
    (hs : ∀ i s s', i < N → I i s s' → ∃ t t', b s = some (.inl t) ∧ b' s' = some (.inl t') ∧ I (i + 1) t t')
    (he : ∀ s s', I N s s' → ∃ r r', b s = some (.inr r) ∧ b' s' = some (.inr r') ∧ P r r') :
    ∀ n n' i s s', I i s s' → i ≤ N → N - i < n → N - i < n' → ∃ r r', lp b n s = some r ∧ lp b' n' s' = some r' ∧ P r r' := by
  intro n
  induction n with
  | zero => intro n' i s s' _ _ h; exact absurd h (Nat.not_lt_zero _)
  | succ n ih =>
    intro n' i s s' hI hi hn hn'
    match n', hn' with
    | n' + 1, hn' =>
    rcases Nat.lt_or_ge i N with h | h
    · obtain ⟨t, t', e, e', hI'⟩ := hs i s s' h hI
      obtain ⟨r, r', f, f', hP⟩ := ih n' (i + 1) t t' hI' h (by omega) (by omega)
      exact ⟨r, r', by unfold lp; rw [e]; exact f, by unfold lp; rw [e']; exact f', hP⟩
    · have : i = N := by omega
      subst this
      obtain ⟨r, r', e, e', hP⟩ := he s s' hI
      exact ⟨r, r', by unfold lp; rw [e], by unfold lp; rw [e'], hP⟩
/-! guards -/
theorem bnd_ok {α : Type} {j n : Nat} {x : Option α} (h : j < n) (hn : n < 2 ^ 31) : bnd (nI j) n x = x := by
  unfold bnd
  rw [if_neg (nI_in h hn)]
theorem cl {j : Nat} (h : j < 2 ^ 31) : (nI j).toNatClampNeg = j := nI_clamp h
theorem nI_le_iff {a b : Nat} (ha : a < 2 ^ 31) (hb : b < 2 ^ 31) : nI a ≤ nI b ↔ a ≤ b := nI_leI ha hb
theorem nI_lt_iff {a b : Nat} (ha : a < 2 ^ 31) (hb : b < 2 ^ 31) : nI a < nI b ↔ a < b := nI_ltI ha hb
theorem nI_inj {a b : Nat} (ha : a < 2 ^ 31) (hb : b < 2 ^ 31) : nI a = nI b ↔ a = b := nI_eq ha hb
theorem nI_ne_m1 {a : Nat} (ha : a < 2 ^ 31) : ¬ nI a = (-1 : Int32) := by
  intro h
  have := congrArg Int32.toInt h
  rw [nI_toInt ha] at this
  have h2 : (-1 : Int32).toInt = -1 := by decide
  rw [h2] at this
  omega
theorem nI_nlt0 {a : Nat} (ha : a < 2 ^ 31) : ¬ nI a < 0 := nI_pos ha
theorem m1_lt0 : (-1 : Int32) < 0 := by decide
theorem m1_ne0 : ¬ (-1 : Int32) = 0 := by decide
theorem nI_dec {a : Nat} (h : 0 < a) : nI a + (-1) = nI (a - 1) := by
  obtain ⟨b, rfl⟩ : ∃ b, a = b + 1 := ⟨a - 1, by omega⟩
  exact pk_m1 b
theorem m1_of0 : nI 0 + (-1) = -1 := by decide
/-- 20 + c of the reference's pins -/
theorem nI_20 (c : Nat) : (20 : Int32) + nI c = nI (20 + c) := nI_add 20 c
/-! Int32 by its bits -/
def bt (x : Int32) (i : Nat) : Bool := x.toBitVec.getLsbD i
theorem bt_ext {x y : Int32} (h : ∀ i, i < 32 → bt x i = bt y i) : x = y := Int32.toBitVec_inj.mp (BitVec.eq_of_getLsbD_eq (fun i hi => h i hi))
theorem bt_or (x y : Int32) (i : Nat) : bt (x ||| y) i = (bt x i || bt y i) := by unfold bt; rw [Int32.toBitVec_or, BitVec.getLsbD_or]
theorem bt_and (x y : Int32) (i : Nat) : bt (x &&& y) i = (bt x i && bt y i) := by unfold bt; rw [Int32.toBitVec_and, BitVec.getLsbD_and]
theorem bt_0 (i : Nat) : bt 0 i = false := BitVec.getLsbD_zero
theorem bt_1 : ∀ i, i < 32 → bt 1 i = decide (i = 0) := by decide +kernel
theorem bt_one : ∀ k, k < 32 → ∀ i, i < 32 → bt ((1 : Int32) <<< (nI k &&& 31)) i = decide (i = k) := by decide +kernel
theorem bt_sl : ∀ n, n < 32 → ((nI n &&& 31).toBitVec.smod 32).toNat = n := by decide +kernel
theorem bt_shr (n : Nat) (hn : n < 32) (x : Int32) : bt (x >>> (nI n &&& 31)) 0 = bt x n := by
  unfold bt
  rw [Int32.toBitVec_shiftRight]
  show (x.toBitVec.sshiftRight ((nI n &&& 31).toBitVec.smod 32).toNat).getLsbD 0 = _
  rw [bt_sl n hn, BitVec.getLsbD_sshiftRight]
  simp [hn]
theorem bt_low (x : Int32) : x &&& 1 = if bt x 0 then 1 else 0 := by
  apply bt_ext
  intro i hi
  rw [bt_and, bt_1 i hi]
  by_cases h : i = 0
  · subst h
    cases hb : bt x 0 <;> simp [bt_0, bt_1]
  · cases hb : bt x 0 <;> simp [bt_0, bt_1 i hi, h]
/-- the test of a bit -/
theorem bt_test {n : Nat} (hn : n < 32) (x : Int32) : ((x >>> (nI n &&& 31)) &&& 1) = if bt x n then 1 else 0 := by
  rw [bt_low, bt_shr n hn]
/-! Int64 by its bits -/
def bl (x : Int64) (i : Nat) : Bool := x.toBitVec.getLsbD i
theorem bl_ext {x y : Int64} (h : ∀ i, i < 64 → bl x i = bl y i) : x = y := Int64.toBitVec_inj.mp (BitVec.eq_of_getLsbD_eq (fun i hi => h i hi))
theorem bl_or (x y : Int64) (i : Nat) : bl (x ||| y) i = (bl x i || bl y i) := by unfold bl; rw [Int64.toBitVec_or, BitVec.getLsbD_or]
theorem bl_and (x y : Int64) (i : Nat) : bl (x &&& y) i = (bl x i && bl y i) := by unfold bl; rw [Int64.toBitVec_and, BitVec.getLsbD_and]
theorem bl_big {x : Int64} {i : Nat} (h : 64 ≤ i) : bl x i = false := BitVec.getLsbD_of_ge _ _ h
theorem bl_0 (i : Nat) : bl 0 i = false := BitVec.getLsbD_zero
theorem bl_1 : ∀ i, i < 64 → bl 1 i = decide (i = 0) := by decide +kernel
theorem bl_m1 : ∀ i, i < 64 → bl (-1) i = true := by decide +kernel
theorem bl_not (x : Int64) {i : Nat} (hi : i < 64) : bl (x ^^^ (-1)) i = !bl x i := by
  have h : bl (x ^^^ (-1)) i = (bl x i ^^ bl (-1) i) := by unfold bl; rw [Int64.toBitVec_xor, BitVec.getLsbD_xor]
  rw [h, bl_m1 i hi]
  cases bl x i <;> rfl
theorem bl_one : ∀ k, k < 64 → ∀ i, i < 64 → bl ((1 : Int64) <<< ((nI k).toInt64 &&& 63)) i = decide (i = k) := by decide +kernel
theorem bl_mask : ∀ k, k < 40 → ∀ i, i < 64 → bl (((1 : Int64) <<< ((nI k).toInt64 &&& 63)) - 1) i = decide (i < k) := by decide +kernel
theorem bl_sl : ∀ n, n < 64 → (((nI n).toInt64 &&& 63).toBitVec.smod 64).toNat = n := by decide +kernel
theorem bl_shr (n : Nat) (hn : n < 64) (x : Int64) : bl (x >>> ((nI n).toInt64 &&& 63)) 0 = bl x n := by
  unfold bl
  rw [Int64.toBitVec_shiftRight]
  show (x.toBitVec.sshiftRight (((nI n).toInt64 &&& 63).toBitVec.smod 64).toNat).getLsbD 0 = _
  rw [bl_sl n hn, BitVec.getLsbD_sshiftRight]
  simp [hn]
theorem bl_low (x : Int64) : x &&& 1 = if bl x 0 then 1 else 0 := by
  apply bl_ext
  intro i hi
  rw [bl_and, bl_1 i hi]
  by_cases h : i = 0
  · subst h
    cases hb : bl x 0 <;> simp [bl_0, bl_1]
  · cases hb : bl x 0 <;> simp [bl_0, bl_1 i hi, h]
theorem isIn_eq (w : Int64) {k : Nat} (hk : k < 64) : f_X1_isIn w (nI k) = some (if bl w k then 1 else 0) := by
  unfold f_X1_isIn
  rw [bl_low, bl_shr k hk]
  cases bl w k <;> decide
theorem has_eq (w : Int64) {k : Nat} (hk : k < 64) : f_X4_has w (nI k) = some (if bl w k then 1 else 0) := by
  unfold f_X4_has
  rw [bl_low, bl_shr k hk]
  cases bl w k <;> decide
theorem cmp0 (x : Int64) : (lg_cmp x 0 = 0) ↔ x = 0 := lg_cmp_eq x 0
theorem bl_ne0 (x : Int64) : ¬ x = 0 ↔ ∃ i, i < 64 ∧ bl x i = true := by
  constructor
  · intro h
    apply Classical.byContradiction
    intro hn
    apply h
    apply bl_ext
    intro i hi
    rw [bl_0]
    cases hb : bl x i with
    | false => rfl
    | true => exact absurd ⟨i, hi, hb⟩ hn
  · rintro ⟨i, hi, hb⟩ h
    rw [h, bl_0] at hb
    cases hb
theorem uL_self (f : Nat → Int64) (k : Nat) : vp_updL f k (f k) = f := by
  funext j
  unfold vp_updL
  by_cases h : j = k
  · rw [if_pos h, h]
  · rw [if_neg h]
theorem uI_self (f : Nat → Int32) (k : Nat) : upd f k (f k) = f := by
  funext j
  unfold upd
  by_cases h : j = k
  · rw [if_pos h, h]
  · rw [if_neg h]
theorem ui (f : Nat → Int32) (k : Nat) (x : Int32) (j : Nat) : upd f k x j = if j = k then x else f j := rfl
theorem ul (f : Nat → Int64) (k : Nat) (x : Int64) (j : Nat) : vp_updL f k x j = if j = k then x else f j := rfl

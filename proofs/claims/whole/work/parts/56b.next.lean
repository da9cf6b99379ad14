/-! who is next on a track -/
def oI : Option Nat → Int32
  | none => -1
  | some l => nI l
def Ft (nt lf rt : Nat → Nat) (o : Option Nat) (i : Nat) : Prop := ∀ l, o = some l → rt l < lf i ∨ (lf i = rt l ∧ nt i = nt l)
def Lt (lf : Nat → Nat) (o : Option Nat) (i : Nat) : Prop := ∀ l, o = some l → Lx lf l i
def Fr (N : Nat) (bel : Nat → Int64) (tM : Nat → Int32) (τ y : Nat) : Prop := tM y = -1 ∧ ∀ x, x < N → bl (bel x) y = true → ∃ v, v < τ ∧ tM x = nI v
/-- the answer v says P -/
def Sy (v : Int32) (P : Prop) : Prop := (v = 1 ∧ P) ∨ (v = 0 ∧ ¬ P)
/-- the tracks are numbers below 40, or -1 -/
def Tk (N : Nat) (tM : Nat → Int32) : Prop := ∀ i, i < N → tM i = -1 ∨ ∃ v, v < 40 ∧ tM i = nI v
theorem fits_c {N : Nat} (hN : N ≤ 38) {nD lD rD : Nat → Int32} {nt lf rt : Nat → Nat} (hA : AV N nD lD rD nt lf rt) {o : Option Nat} (ho : ∀ l, o = some l → l < N) {i : Nat} (hi : i < N) : ∃ v, f_X1_fitsBehind nD lD rD (oI o) (nI i) = some v ∧ Sy v (Ft nt lf rt o i) := by
  unfold f_X1_fitsBehind
  cases o with
  | none =>
    refine ⟨1, ?_, Or.inl ⟨rfl, fun l h => by cases h⟩⟩
    show (if (-1 : Int32) = -1 then some 1 else _) = some 1
    rw [if_pos rfl]
  | some l =>
    have hl := ho l rfl
    obtain ⟨a1, a2, a3, a4, a5, a6, a7⟩ := hA i hi
    obtain ⟨b1, b2, b3, b4, b5, b6, b7⟩ := hA l hl
    have eq : Ft nt lf rt (some l) i ↔ rt l < lf i ∨ (lf i = rt l ∧ nt i = nt l) := ⟨fun h => h l rfl, fun h l' e => by cases e; exact h⟩
    simp only [oI, if_neg (nI_ne_m1 (show l < 2 ^ 31 by omega)), bnd_ok (show i < 38 by omega) (show 38 < 2 ^ 31 by decide), bnd_ok (show l < 38 by omega) (show 38 < 2 ^ 31 by decide), cl (show i < 2 ^ 31 by omega), cl (show l < 2 ^ 31 by omega), a1, a2, b1, b3, nI_le_iff (show lf i < 2 ^ 31 by omega) (show rt l < 2 ^ 31 by omega), nI_inj (show lf i < 2 ^ 31 by omega) (show rt l < 2 ^ 31 by omega), nI_inj (show nt i < 2 ^ 31 by omega) (show nt l < 2 ^ 31 by omega)]
    by_cases c1 : lf i ≤ rt l
    · rw [if_pos c1]
      by_cases c2 : lf i = rt l
      · rw [if_pos c2]
        by_cases c3 : nt i = nt l
        · rw [if_pos c3]; exact ⟨1, rfl, Or.inl ⟨rfl, eq.mpr (Or.inr ⟨c2, c3⟩)⟩⟩
        · rw [if_neg c3]; exact ⟨0, rfl, Or.inr ⟨rfl, fun h => by have := eq.mp h; omega⟩⟩
      · rw [if_neg c2]; exact ⟨0, rfl, Or.inr ⟨rfl, fun h => by have := eq.mp h; omega⟩⟩
    · rw [if_neg c1]; exact ⟨1, rfl, Or.inl ⟨rfl, eq.mpr (Or.inl (by omega))⟩⟩
theorem sub1_lt {a v : Nat} (ha : a < 2 ^ 30) (hv : v < 2 ^ 30) : nI a - 1 < nI v ↔ a ≤ v := by
  rw [Int32.sub_eq_add_neg]
  rcases Nat.eq_zero_or_pos a with q | q
  · subst q
    rw [m1_of0, Int32.lt_iff_toInt_lt, nI_toInt (show v < 2 ^ 31 by omega)]
    have h2 : (-1 : Int32).toInt = -1 := by decide
    rw [h2]
    omega
  · rw [nI_dec q, nI_lt_iff (by omega) (by omega)]
    omega
theorem in_m {v : Int32} {τ : Nat} (hτ : τ < 2 ^ 30) (hv : v = -1 ∨ ∃ n, n < 40 ∧ v = nI n) : ∃ w, f_X4_in v 0 (nI τ - 1) = some w ∧ Sy w (∃ n, n < τ ∧ v = nI n) := by
  unfold f_X4_in
  rcases hv with rfl | ⟨n, hn, rfl⟩
  · refine ⟨0, by rw [if_pos m1_lt0], Or.inr ⟨rfl, ?_⟩⟩
    rintro ⟨n, h1, h2⟩
    exact nI_ne_m1 (show n < 2 ^ 31 by omega) h2.symm
  · rw [if_neg (nI_nlt0 (show n < 2 ^ 31 by omega))]
    by_cases c : τ ≤ n
    · refine ⟨0, by rw [if_pos ((sub1_lt hτ (by omega)).mpr c)], Or.inr ⟨rfl, ?_⟩⟩
      rintro ⟨m, h1, h2⟩
      have := (nI_inj (by omega) (by omega)).mp h2
      omega
    · exact ⟨1, by rw [if_neg (fun z => c ((sub1_lt hτ (by omega)).mp z))], Or.inl ⟨rfl, n, by omega, rfl⟩⟩
theorem free_m {N : Nat} (hN : N ≤ 38) {bel : Nat → Int64} {tM : Nat → Int32} (hT : Tk N tM) {y τ : Nat} (hy : y < N) (hτ : τ < 2 ^ 30) : ∃ v, f_X4_free (nI N) bel tM (nI y) (nI τ) = some v ∧ Sy v (Fr N bel tM τ y) := by
  have key : ∀ (s0 : Int32) (P : Prop), Sy s0 P → ∃ v, f_X4_free_J14 (nI N) bel tM (nI y) (nI τ) s0 = some v ∧ Sy v (P ∧ ∀ x, x < N → bl (bel x) y = true → ∃ v, v < τ ∧ tM x = nI v) := by
    intro s0 P hs
    obtain ⟨r, e, h⟩ := lp_inv (b := f_X4_free_B18 (nI y) (nI τ) (nI N) bel tM) (fun i s => ∃ v, s = (v, nI i) ∧ Sy v (P ∧ ∀ x, x < i → bl (bel x) y = true → ∃ v, v < τ ∧ tM x = nI v)) N (fun v => Sy v (P ∧ ∀ x, x < N → bl (bel x) y = true → ∃ v, v < τ ∧ tM x = nI v))
      (by
        intro i s hi hI
        obtain ⟨v, rfl, hv⟩ := hI
        left
        simp only [f_X4_free_B18, if_neg (nle (show N < 2 ^ 30 by omega) hi), bnd_ok (show i < 40 by omega) (show 40 < 2 ^ 31 by decide), cl (show i < 2 ^ 31 by omega), has_eq _ (show y < 64 by omega), Option.bind_some, nI_1]
        rcases hv with ⟨rfl, hv⟩ | ⟨rfl, hv⟩
        · rw [if_neg (by decide)]
          cases q : bl (bel i) y with
          | false =>
            simp only [Bool.false_eq_true, if_false, if_true]
            refine ⟨_, rfl, 1, rfl, Or.inl ⟨rfl, hv.1, fun x hx hb => ?_⟩⟩
            by_cases e : x = i
            · subst e; rw [q] at hb; cases hb
            · exact hv.2 x (by omega) hb
          | true =>
            simp only [if_true, show ¬ ((1 : Int32) = 0) from by decide, if_false]
            obtain ⟨w, e, hw⟩ := in_m hτ (hT i hi)
            rw [e]
            simp only [Option.bind_some]
            rcases hw with ⟨rfl, hw⟩ | ⟨rfl, hw⟩
            · rw [if_neg (by decide)]
              refine ⟨_, rfl, 1, rfl, Or.inl ⟨rfl, hv.1, fun x hx hb => ?_⟩⟩
              by_cases e : x = i
              · subst e; exact hw
              · exact hv.2 x (by omega) hb
            · rw [if_pos rfl]
              exact ⟨_, rfl, 0, rfl, Or.inr ⟨rfl, fun z => hw (z.2 i (by omega) q)⟩⟩
        · rw [if_pos rfl]
          exact ⟨_, rfl, 0, rfl, Or.inr ⟨rfl, fun z => hv ⟨z.1, fun x hx hb => z.2 x (by omega) hb⟩⟩⟩)
      (by
        intro s hI
        obtain ⟨v, rfl, hv⟩ := hI
        exact ⟨v, by simp only [f_X4_free_B18, if_pos (yle (show N < 2 ^ 30 by omega))], hv⟩) 64 0 (s0, 0) ⟨s0, rfl, by
          rcases hs with ⟨h1, h2⟩ | ⟨h1, h2⟩
          · exact Or.inl ⟨h1, h2, fun x hx => absurd hx (Nat.not_lt_zero _)⟩
          · exact Or.inr ⟨h1, fun z => h2 z.1⟩⟩ (Nat.zero_le _) (by omega)
    refine ⟨r, ?_, h⟩
    unfold f_X4_free_J14
    rw [e]
    simp only [Option.bind_some]
    rcases h with ⟨rfl, -⟩ | ⟨rfl, -⟩ <;> rfl
  unfold f_X4_free
  simp only [bnd_ok (show y < 40 by omega) (show 40 < 2 ^ 31 by decide), cl (show y < 2 ^ 31 by omega)]
  rcases hT y hy with h | ⟨v, hv, h⟩
  · rw [h, if_neg (by decide)]
    exact key 1 (tM y = -1) (Or.inl ⟨rfl, h⟩)
  · rw [h, if_pos (by rw [show (0 : Int32) = nI 0 from rfl, nI_le_iff (by omega) (by omega)]; omega)]
    exact key 0 (tM y = -1) (Or.inr ⟨rfl, by rw [h]; exact nI_ne_m1 (by omega)⟩)
/-- who may be next -/
def Cd (N : Nat) (bel : Nat → Int64) (nt lf rt : Nat → Nat) (o : Option Nat) (tM : Nat → Int32) (τ y : Nat) : Prop := Lt lf o y ∧ Ft nt lf rt o y ∧ Fr N bel tM τ y
def Bt (lf : Nat → Nat) (b : Option Nat) (j : Nat) : Prop := ∀ l, b = some l → lf j ≤ lf l
/-- the better one of b and j, if P -/
def Up (P : Prop) (b : Option Nat) (j : Nat) (b' : Option Nat) : Prop := (b' = some j ∧ P) ∨ (b' = b ∧ ¬ P)
theorem next_J109 {N : Nat} (hN : N ≤ 38) {bel : Nat → Int64} {nM lM rM : Nat → Int32} {nt lf rt : Nat → Nat} (hA : AV N nM lM rM nt lf rt) {tM : Nat → Int32} (hT : Tk N tM) {τ j : Nat} (hτ : τ < 2 ^ 30) (hj : j < N) {b : Option Nat} (hb : ∀ l, b = some l → l < N) {x7 s0 : Int32} {P Q : Prop} (h7 : Sy x7 P) (h0 : Sy s0 Q) : ∃ b', f_X4_nextFor_J109 (nI N) lM bel tM (nI τ) (oI b) (nI j) x7 s0 = some (.inl (oI b', nI j + (-1))) ∧ Up ((P ∧ Q ∧ Fr N bel tM τ j) ∧ Bt lf b j) b j b' := by
  unfold f_X4_nextFor_J109
  rcases h7 with ⟨rfl, h7⟩ | ⟨rfl, h7⟩
  · rw [if_neg (by decide)]
    rcases h0 with ⟨rfl, h0⟩ | ⟨rfl, h0⟩
    · rw [if_neg (by decide)]
      obtain ⟨v, e, hv⟩ := free_m hN hT hj hτ (bel := bel)
      rw [e]
      simp only [Option.bind_some]
      rcases hv with ⟨rfl, hv⟩ | ⟨rfl, hv⟩
      · rw [if_neg (by decide)]
        cases b with
        | none =>
          refine ⟨some j, ?_, Or.inl ⟨rfl, ⟨h7, h0, hv⟩, fun l h => by cases h⟩⟩
          show (if (-1 : Int32) < 0 then _ else _) = _
          rw [if_pos m1_lt0]
          rfl
        | some l =>
          have hl := hb l rfl
          obtain ⟨a1, a2, a3, a4, a5, a6, a7⟩ := hA j hj
          obtain ⟨b1, b2, b3, b4, b5, b6, b7⟩ := hA l hl
          simp only [oI, if_neg (nI_nlt0 (show l < 2 ^ 31 by omega)), bnd_ok (show j < 40 by omega) (show 40 < 2 ^ 31 by decide), bnd_ok (show l < 40 by omega) (show 40 < 2 ^ 31 by decide), cl (show j < 2 ^ 31 by omega), cl (show l < 2 ^ 31 by omega), a2, b2, nI_lt_iff (show lf l < 2 ^ 31 by omega) (show lf j < 2 ^ 31 by omega)]
          by_cases c : lf l < lf j
          · rw [if_pos c]
            exact ⟨some l, rfl, Or.inr ⟨rfl, fun z => by have := z.2 l rfl; omega⟩⟩
          · rw [if_neg c]
            exact ⟨some j, rfl, Or.inl ⟨rfl, ⟨h7, h0, hv⟩, fun l' e => by cases e; omega⟩⟩
      · rw [if_pos rfl]
        exact ⟨b, rfl, Or.inr ⟨rfl, fun z => hv z.1.2.2⟩⟩
    · rw [if_pos rfl]
      exact ⟨b, rfl, Or.inr ⟨rfl, fun z => h0 z.1.2.1⟩⟩
  · rw [if_pos rfl]
    exact ⟨b, rfl, Or.inr ⟨rfl, fun z => h7 z.1.1⟩⟩
theorem next_J50 {N : Nat} (hN : N ≤ 38) {bel : Nat → Int64} {nM lM rM : Nat → Int32} {nt lf rt : Nat → Nat} (hA : AV N nM lM rM nt lf rt) {tM : Nat → Int32} (hT : Tk N tM) {τ j : Nat} (hτ : τ < 2 ^ 30) (hj : j < N) {b o : Option Nat} (hb : ∀ l, b = some l → l < N) (ho : ∀ l, o = some l → l < N) {s0 : Int32} {P : Prop} (h0 : Sy s0 P) : ∃ b', f_X4_nextFor_J50 (nI N) nM lM rM bel tM (nI τ) (oI o) (oI b) (nI j) s0 = some (.inl (oI b', nI j + (-1))) ∧ Up ((P ∧ Ft nt lf rt o j ∧ Fr N bel tM τ j) ∧ Bt lf b j) b j b' := by
  unfold f_X4_nextFor_J50
  cases o with
  | none =>
    show ∃ b', (if (-1 : Int32) < 0 then _ else _) = _ ∧ _
    rw [if_pos m1_lt0]
    exact next_J109 hN hA hT hτ hj hb h0 (Or.inl ⟨rfl, fun l h => by cases h⟩)
  | some l =>
    have hl := ho l rfl
    obtain ⟨a1, a2, a3, a4, a5, a6, a7⟩ := hA j hj
    obtain ⟨b1, b2, b3, b4, b5, b6, b7⟩ := hA l hl
    have eq : Ft nt lf rt (some l) j ↔ rt l < lf j ∨ (lf j = rt l ∧ nt j = nt l) := ⟨fun h => h l rfl, fun h l' e => by cases e; exact h⟩
    simp only [oI, if_neg (nI_nlt0 (show l < 2 ^ 31 by omega)), bnd_ok (show j < 40 by omega) (show 40 < 2 ^ 31 by decide), bnd_ok (show l < 40 by omega) (show 40 < 2 ^ 31 by decide), cl (show j < 2 ^ 31 by omega), cl (show l < 2 ^ 31 by omega), a1, a2, b1, b3, nI_lt_iff (show rt l < 2 ^ 31 by omega) (show lf j < 2 ^ 31 by omega), nI_inj (show lf j < 2 ^ 31 by omega) (show rt l < 2 ^ 31 by omega), nI_inj (show nt j < 2 ^ 31 by omega) (show nt l < 2 ^ 31 by omega)]
    have yes : Ft nt lf rt (some l) j → ∃ b', f_X4_nextFor_J104 (nI N) lM bel tM (nI τ) (oI b) (nI j) s0 = some (.inl (oI b', nI j + (-1))) ∧ Up ((P ∧ Ft nt lf rt (some l) j ∧ Fr N bel tM τ j) ∧ Bt lf b j) b j b' := fun h => next_J109 hN hA hT hτ hj hb h0 (Or.inl ⟨rfl, h⟩)
    have no : ¬ Ft nt lf rt (some l) j → ∃ b', f_X4_nextFor_J108 (nI N) lM bel tM (nI τ) (oI b) (nI j) s0 = some (.inl (oI b', nI j + (-1))) ∧ Up ((P ∧ Ft nt lf rt (some l) j ∧ Fr N bel tM τ j) ∧ Bt lf b j) b j b' := fun h => next_J109 hN hA hT hτ hj hb h0 (Or.inr ⟨rfl, h⟩)
    by_cases c1 : rt l < lf j
    · rw [if_pos c1]; exact yes (eq.mpr (Or.inl c1))
    · rw [if_neg c1]
      by_cases c2 : lf j = rt l
      · rw [if_pos c2]
        by_cases c3 : nt j = nt l
        · rw [if_pos c3]; exact yes (eq.mpr (Or.inr ⟨c2, c3⟩))
        · rw [if_neg c3]; exact no (fun h => by have := eq.mp h; omega)
      · rw [if_neg c2]; exact no (fun h => by have := eq.mp h; omega)
/-- the place from which on -/
def oL (lf : Nat → Nat) : Option Nat → Int32
  | none => -1
  | some l => nI (lf l)
theorem next_B11 {N : Nat} (hN : N ≤ 38) {bel : Nat → Int64} {nM lM rM : Nat → Int32} {nt lf rt : Nat → Nat} (hA : AV N nM lM rM nt lf rt) {tM : Nat → Int32} (hT : Tk N tM) {τ j : Nat} (hτ : τ < 2 ^ 30) (hj : j < N) {b o : Option Nat} (hb : ∀ l, b = some l → l < N) (ho : ∀ l, o = some l → l < N) : ∃ b', f_X4_nextFor_B11 (nI τ) (oI o) (oL lf o) (oI o) (nI N) nM lM rM bel tM (oI b, nI j) = some (.inl (oI b', nI j + (-1))) ∧ Up (Cd N bel nt lf rt o tM τ j ∧ Bt lf b j) b j b' := by
  have yes : Lt lf o j → ∃ b', f_X4_nextFor_J45 (nI N) nM lM rM bel tM (nI τ) (oI o) (oI b) (nI j) = some (.inl (oI b', nI j + (-1))) ∧ Up (Cd N bel nt lf rt o tM τ j ∧ Bt lf b j) b j b' := fun h => next_J50 hN hA hT hτ hj hb ho (Or.inl ⟨rfl, h⟩)
  have no : ¬ Lt lf o j → ∃ b', f_X4_nextFor_J49 (nI N) nM lM rM bel tM (nI τ) (oI o) (oI b) (nI j) = some (.inl (oI b', nI j + (-1))) ∧ Up (Cd N bel nt lf rt o tM τ j ∧ Bt lf b j) b j b' := fun h => next_J50 hN hA hT hτ hj hb ho (Or.inr ⟨rfl, h⟩)
  obtain ⟨a1, a2, a3, a4, a5, a6, a7⟩ := hA j hj
  simp only [f_X4_nextFor_B11, if_neg (nI_nlt0 (show j < 2 ^ 31 by omega)), bnd_ok (show j < 40 by omega) (show 40 < 2 ^ 31 by decide), cl (show j < 2 ^ 31 by omega), a2]
  cases o with
  | none =>
    have : (oL lf none : Int32) < nI (lf j) := by
      show (-1 : Int32) < nI (lf j)
      have h := (sub1_lt (a := 0) (v := lf j) (by omega) (by omega)).mpr (Nat.zero_le _)
      rw [Int32.sub_eq_add_neg, m1_of0] at h
      exact h
    rw [if_pos this]
    exact yes (fun l h => by cases h)
  | some l =>
    have hl := ho l rfl
    obtain ⟨b1, b2, b3, b4, b5, b6, b7⟩ := hA l hl
    have eq : Lt lf (some l) j ↔ Lx lf l j := ⟨fun h => h l rfl, fun h l' e => by cases e; exact h⟩
    have d1 : ((oL lf (some l) : Int32) < nI (lf j)) ↔ lf l < lf j := nI_lt_iff (show lf l < 2 ^ 31 by omega) (show lf j < 2 ^ 31 by omega)
    have d2 : (nI (lf j) = (oL lf (some l) : Int32)) ↔ lf j = lf l := nI_inj (show lf j < 2 ^ 31 by omega) (show lf l < 2 ^ 31 by omega)
    have d3 : (nI j ≤ (oI (some l) : Int32)) ↔ j ≤ l := nI_le_iff (show j < 2 ^ 31 by omega) (show l < 2 ^ 31 by omega)
    by_cases c1 : lf l < lf j
    · rw [if_pos (d1.mpr c1)]; exact yes (eq.mpr (Or.inl c1))
    · rw [if_neg (fun z => c1 (d1.mp z))]
      by_cases c2 : lf j = lf l
      · rw [if_pos (d2.mpr c2)]
        by_cases c3 : j ≤ l
        · rw [if_pos (d3.mpr c3)]
          exact no (fun h => by have := eq.mp h; unfold Lx at this; omega)
        · rw [if_neg (fun z => c3 (d3.mp z))]
          exact yes (eq.mpr (Or.inr ⟨c2.symm, by omega⟩))
      · rw [if_neg (fun z => c2 (d2.mp z))]
        exact no (fun h => by have := eq.mp h; unfold Lx at this; omega)
/-- r is the next one -/
def NX (N : Nat) (bel : Nat → Int64) (nt lf rt : Nat → Nat) (o : Option Nat) (tM : Nat → Int32) (τ : Nat) (r : Option Nat) : Prop := (r = none ∧ ∀ y, y < N → ¬ Cd N bel nt lf rt o tM τ y) ∨ ∃ y, r = some y ∧ y < N ∧ Cd N bel nt lf rt o tM τ y ∧ ∀ z, z < N → Cd N bel nt lf rt o tM τ z → z = y ∨ Lx lf y z
theorem next_m {N : Nat} (hN : N ≤ 38) {bel : Nat → Int64} {nM lM rM : Nat → Int32} {nt lf rt : Nat → Nat} (hA : AV N nM lM rM nt lf rt) {tM : Nat → Int32} (hT : Tk N tM) {τ : Nat} (hτ : τ < 2 ^ 30) {o : Option Nat} (ho : ∀ l, o = some l → l < N) : ∃ r, f_X4_nextFor (nI N) nM lM rM bel tM (nI τ) (oI o) (oL lf o) (oI o) = some (oI r) ∧ NX N bel nt lf rt o tM τ r := by
  have hd : ∀ k : Nat, nI k - 1 = nI k + (-1) := fun k => Int32.sub_eq_add_neg _ _
  obtain ⟨v, e, r, rfl, h⟩ := lp_inv (b := f_X4_nextFor_B11 (nI τ) (oI o) (oL lf o) (oI o) (nI N) nM lM rM bel tM) (fun i s => ∃ b, s = (oI b, nI (N - i) - 1) ∧ ((b = none ∧ ∀ y, N - i ≤ y → y < N → ¬ Cd N bel nt lf rt o tM τ y) ∨ ∃ y, b = some y ∧ N - i ≤ y ∧ y < N ∧ Cd N bel nt lf rt o tM τ y ∧ ∀ z, N - i ≤ z → z < N → Cd N bel nt lf rt o tM τ z → z = y ∨ Lx lf y z)) N (fun v => ∃ r, v = oI r ∧ NX N bel nt lf rt o tM τ r)
    (by
      intro i s hi hI
      obtain ⟨b, rfl, hv⟩ := hI
      left
      obtain ⟨j, hj⟩ : ∃ j, N - i = j + 1 := ⟨N - i - 1, by omega⟩
      have hj2 : N - (i + 1) = j := by omega
      have e1 : nI (N - i) - 1 = nI j := by rw [hj, hd]; exact nI_dec (Nat.succ_pos j)
      rw [e1, hj2]
      rw [hj] at hv
      obtain ⟨b', e, hu⟩ := next_B11 hN hA hT hτ (show j < N by omega) (b := b) (o := o) (fun l hl => by
        rcases hv with ⟨h, _⟩ | ⟨y, h, _, h2, _⟩
        · rw [h] at hl; cases hl
        · rw [h] at hl; cases hl; exact h2) ho (bel := bel)
      refine ⟨_, e, b', by rw [hd], ?_⟩
      rcases hu with ⟨rfl, hc, hbt⟩ | ⟨rfl, hn⟩
      · refine Or.inr ⟨j, rfl, Nat.le_refl _, by omega, hc, fun z hz hzN hcz => ?_⟩
        by_cases e : z = j
        · exact Or.inl e
        · right
          rcases hv with ⟨h, h2⟩ | ⟨y, h, h1, h2, h3, h4⟩
          · exact absurd hcz (h2 z (by omega) hzN)
          · have := hbt y h
            rcases h4 z (by omega) hzN hcz with e2 | e2
            · subst e2
              unfold Lx; omega
            · unfold Lx at *; omega
      · rcases hv with ⟨h, h2⟩ | ⟨y, h, h1, h2, h3, h4⟩
        · refine Or.inl ⟨h, fun z hz hzN hcz => ?_⟩
          by_cases e : z = j
          · subst e; exact hn ⟨hcz, fun l hl => by rw [h] at hl; cases hl⟩
          · exact h2 z (by omega) hzN hcz
        · refine Or.inr ⟨y, h, by omega, h2, h3, fun z hz hzN hcz => ?_⟩
          by_cases e : z = j
          · subst e
            right
            have : ¬ Bt lf b' z := fun hb => hn ⟨hcz, hb⟩
            have h5 : ¬ lf z ≤ lf y := fun hle => this (fun l hl => by rw [h] at hl; cases hl; exact hle)
            unfold Lx; omega
          · exact h4 z (by omega) hzN hcz)
    (by
      intro s hI
      obtain ⟨b, rfl, hv⟩ := hI
      refine ⟨oI b, by simp only [Nat.sub_self]; rfl, b, rfl, ?_⟩
      rcases hv with ⟨h, h2⟩ | ⟨y, h, h1, h2, h3, h4⟩
      · exact Or.inl ⟨h, fun y hy => h2 y (by omega) hy⟩
      · exact Or.inr ⟨y, h, h2, h3, fun z hz => h4 z (by omega) hz⟩) 64 0 ((-1), nI N - 1) ⟨none, rfl, Or.inl ⟨rfl, fun y h1 h2 => by omega⟩⟩ (Nat.zero_le _) (by omega)
  refine ⟨r, ?_, h⟩
  unfold f_X4_nextFor
  rw [e]
  rfl

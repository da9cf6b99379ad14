/-! what is laid, and its wires -/
def LA (N T : Nat) (nt lf rt tv : Nat → Nat) (nD lD rD trD : Nat → Int32) : Prop := ∀ i, i < N → nD i = nI (nt i) ∧ lD i = nI (lf i) ∧ rD i = nI (rt i) ∧ trD i = nI (tv i) ∧ 1 ≤ nt i ∧ nt i ≤ 9 ∧ lf i < rt i ∧ rt i < 20 ∧ tv i < T
def UN (N : Nat) (nt lf rt tv : Nat → Nat) : Prop := ∀ i j, i < N → j < N → tv i = tv j → ∀ c, lf i ≤ c → c ≤ rt i → lf j ≤ c → c ≤ rt j → nt i = nt j
def Cv (lf rt tv : Nat → Nat) (τ c i : Nat) : Prop := tv i = τ ∧ lf i ≤ c ∧ c ≤ rt i
def NO (N : Nat) (nt lf rt tv : Nat → Nat) (τ c n : Nat) : Prop := (n = 0 ∧ ∀ i, i < N → ¬ Cv lf rt tv τ c i) ∨ ∃ i, i < N ∧ Cv lf rt tv τ c i ∧ n = nt i
theorem NO_uniq {N : Nat} {nt lf rt tv : Nat → Nat} (hU : UN N nt lf rt tv) {τ c n n' : Nat} (h : NO N nt lf rt tv τ c n) (h' : NO N nt lf rt tv τ c n') : n = n' := by
  rcases h with ⟨rfl, h⟩ | ⟨i, hi, hc, rfl⟩
  · rcases h' with ⟨rfl, _⟩ | ⟨j, hj, hc', _⟩
    · rfl
    · exact absurd hc' (h j hj)
  · rcases h' with ⟨_, h'⟩ | ⟨j, hj, hc', rfl⟩
    · exact absurd hc (h' i hi)
    · exact hU i j hi hj (by rw [hc.1, hc'.1]) c hc.2.1 hc.2.2 hc'.2.1 hc'.2.2
theorem netOn_c {N T : Nat} (hN : N ≤ 38) (hT : T ≤ 38) {nt lf rt tv : Nat → Nat} {nD lD rD trD : Nat → Int32} (hL : LA N T nt lf rt tv nD lD rD trD) {τ c : Nat} (hτ : τ < 2 ^ 30) (hc : c < 20) : ∃ n, f_X1_netOn nD lD rD trD (nI N) (nI τ) (nI c) = some (nI n) ∧ NO N nt lf rt tv τ c n := by
  obtain ⟨r, e, h⟩ := lp_inv (b := f_X1_netOn_B2 (nI τ) (nI c) lD rD trD (nI N)) (fun i s => s = nI i ∧ ∀ j, j < i → ¬ Cv lf rt tv τ c j) N (fun r => (r = .inl () ∧ ∀ i, i < N → ¬ Cv lf rt tv τ c i) ∨ ∃ i, r = .inr (nI i) ∧ i < N ∧ Cv lf rt tv τ c i)
    (by
      intro i s hi hI
      obtain ⟨rfl, hx⟩ := hI
      obtain ⟨a1, a2, a3, a4, a5, a6, a7, a8, a9⟩ := hL i hi
      simp only [f_X1_netOn_B2, if_neg (nle (show N < 2 ^ 30 by omega) hi), bnd_ok (show i < 38 by omega) (show 38 < 2 ^ 31 by decide), cl (show i < 2 ^ 31 by omega), a2, a3, a4, nI_inj (show tv i < 2 ^ 31 by omega) (show τ < 2 ^ 31 by omega), nI_lt_iff (show c < 2 ^ 31 by omega) (show lf i < 2 ^ 31 by omega), nI_lt_iff (show rt i < 2 ^ 31 by omega) (show c < 2 ^ 31 by omega), nI_1]
      have keep : ¬ Cv lf rt tv τ c i → (∃ s', some (Sum.inl (nI (i + 1)) : Int32 ⊕ (Unit ⊕ Int32)) = some (.inl s') ∧ s' = nI (i + 1) ∧ ∀ j, j < i + 1 → ¬ Cv lf rt tv τ c j) := by
        intro hn
        refine ⟨_, rfl, rfl, fun j hj => ?_⟩
        by_cases e : j = i
        · subst e; exact hn
        · exact hx j (by omega)
      by_cases c1 : tv i = τ
      · rw [if_pos c1]
        by_cases c2 : c < lf i
        · rw [if_pos c2]
          exact Or.inl (keep (fun z => by have := z.2.1; omega))
        · rw [if_neg c2]
          by_cases c3 : rt i < c
          · rw [if_pos c3]
            exact Or.inl (keep (fun z => by have := z.2.2; omega))
          · rw [if_neg c3]
            exact Or.inr ⟨_, rfl, Or.inr ⟨i, rfl, hi, c1, by omega, by omega⟩⟩
      · rw [if_neg c1]
        exact Or.inl (keep (fun z => c1 z.1)))
    (by
      intro s hI
      obtain ⟨rfl, hx⟩ := hI
      exact ⟨.inl (), by simp only [f_X1_netOn_B2, if_pos (yle (show N < 2 ^ 30 by omega))], Or.inl ⟨rfl, hx⟩⟩) 64 0 0 ⟨rfl, fun j hj => absurd hj (Nat.not_lt_zero _)⟩ (Nat.zero_le _) (by omega)
  rcases h with ⟨rfl, h⟩ | ⟨i, rfl, hi, hcv⟩
  · refine ⟨0, ?_, Or.inl ⟨rfl, h⟩⟩
    unfold f_X1_netOn
    rw [e]
    rfl
  · refine ⟨nt i, ?_, Or.inr ⟨i, hi, hcv, rfl⟩⟩
    unfold f_X1_netOn
    rw [e]
    simp only [Option.bind_some, bnd_ok (show i < 38 by omega) (show 38 < 2 ^ 31 by decide), cl (show i < 2 ^ 31 by omega), (hL i hi).1]
theorem in_nn {a b c : Nat} (ha : a < 2 ^ 31) (hb : b < 2 ^ 31) (hc : c < 2 ^ 31) : ∃ v, f_X4_in (nI a) (nI b) (nI c) = some v ∧ Sy v (b ≤ a ∧ a ≤ c) := by
  unfold f_X4_in
  simp only [nI_lt_iff ha hb, nI_lt_iff hc ha]
  by_cases c1 : a < b
  · rw [if_pos c1]; exact ⟨0, rfl, Or.inr ⟨rfl, by omega⟩⟩
  · rw [if_neg c1]
    by_cases c2 : c < a
    · rw [if_pos c2]; exact ⟨0, rfl, Or.inr ⟨rfl, by omega⟩⟩
    · rw [if_neg c2]; exact ⟨1, rfl, Or.inl ⟨rfl, by omega⟩⟩
theorem levelAt_m {N T : Nat} (hN : N ≤ 38) (hT : T ≤ 38) {nt lf rt tv : Nat → Nat} {nM lM rM trM : Nat → Int32} (hL : LA N T nt lf rt tv nM lM rM trM) {τ c : Nat} (hτ : τ < 2 ^ 30) (hc : c < 20) : ∃ n, f_X4_levelAt (nI N) nM lM rM trM (nI τ) (nI c) = some (nI n) ∧ NO N nt lf rt tv τ c n := by
  obtain ⟨r, e, n, rfl, h⟩ := lp_inv (b := f_X4_levelAt_B5 (nI τ) (nI c) (nI N) nM lM rM trM) (fun i s => ∃ n, s = (nI n, nI i) ∧ NO i nt lf rt tv τ c n) N (fun r => ∃ n, r = nI n ∧ NO N nt lf rt tv τ c n)
    (by
      intro i s hi hI
      obtain ⟨n, rfl, hn⟩ := hI
      left
      obtain ⟨a1, a2, a3, a4, a5, a6, a7, a8, a9⟩ := hL i hi
      obtain ⟨v, ev, hv⟩ := in_nn (a := c) (b := lf i) (c := rt i) (by omega) (by omega) (by omega)
      simp only [f_X4_levelAt_B5, if_neg (nle (show N < 2 ^ 30 by omega) hi), bnd_ok (show i < 40 by omega) (show 40 < 2 ^ 31 by decide), cl (show i < 2 ^ 31 by omega), a1, a2, a3, a4, nI_inj (show tv i < 2 ^ 31 by omega) (show τ < 2 ^ 31 by omega), ev, Option.bind_some, nI_1]
      have keep : ¬ Cv lf rt tv τ c i → (∃ s', some (Sum.inl (nI n, nI (i + 1)) : (Int32 × Int32) ⊕ Int32) = some (.inl s') ∧ ∃ n, s' = (nI n, nI (i + 1)) ∧ NO (i + 1) nt lf rt tv τ c n) := by
        intro hno
        refine ⟨_, rfl, n, rfl, ?_⟩
        rcases hn with ⟨rfl, h⟩ | ⟨j, hj, hcv, rfl⟩
        · refine Or.inl ⟨rfl, fun j hj => ?_⟩
          by_cases e : j = i
          · subst e; exact hno
          · exact h j (by omega)
        · exact Or.inr ⟨j, by omega, hcv, rfl⟩
      by_cases c1 : tv i = τ
      · rw [if_pos c1]
        rcases hv with ⟨rfl, hv⟩ | ⟨rfl, hv⟩
        · rw [if_neg (by decide)]
          exact ⟨_, rfl, nt i, rfl, Or.inr ⟨i, by omega, ⟨c1, hv.1, hv.2⟩, rfl⟩⟩
        · rw [if_pos rfl]
          exact keep (fun z => hv z.2)
      · rw [if_neg c1]
        exact keep (fun z => c1 z.1))
    (by
      intro s hI
      obtain ⟨n, rfl, hn⟩ := hI
      exact ⟨nI n, by simp only [f_X4_levelAt_B5, if_pos (yle (show N < 2 ^ 30 by omega))], n, rfl, hn⟩) 64 0 (0, 0) ⟨0, rfl, Or.inl ⟨rfl, fun i hi => absurd hi (Nat.not_lt_zero _)⟩⟩ (Nat.zero_le _) (by omega)
  refine ⟨n, ?_, h⟩
  unfold f_X4_levelAt
  rw [e]
  rfl
/-- segment i of net n touches column c on track τ -/
def Li (N : Nat) (tv : Nat → Nat) (nD uD : Nat → Int32) (n : Int32) (c τ : Nat) : Prop := ∃ i, i < N ∧ nD i = n ∧ tv i = τ ∧ bt (uD i) c = true
theorem lies_m {N T : Nat} (hN : N ≤ 38) (hT : T ≤ 38) {nt lf rt tv : Nat → Nat} {nM lM rM trM uM : Nat → Int32} (hL : LA N T nt lf rt tv nM lM rM trM) (n : Int32) {τ c : Nat} (hτ : τ < 2 ^ 30) (hc : c < 20) : ∃ v, f_X4_lies (nI N) nM uM trM n (nI c) (nI τ) = some v ∧ Sy v (Li N tv nM uM n c τ) := by
  obtain ⟨v, e, h⟩ := lp_inv (b := f_X4_lies_B6 n (nI c) (nI τ) (nI N) nM uM trM) (fun i s => ∃ v, s = (v, nI i) ∧ Sy v (Li i tv nM uM n c τ)) N (fun v => Sy v (Li N tv nM uM n c τ))
    (by
      intro i s hi hI
      obtain ⟨v, rfl, hv⟩ := hI
      left
      obtain ⟨a1, a2, a3, a4, a5, a6, a7, a8, a9⟩ := hL i hi
      simp only [f_X4_lies_B6, if_neg (nle (show N < 2 ^ 30 by omega) hi), bnd_ok (show i < 40 by omega) (show 40 < 2 ^ 31 by decide), cl (show i < 2 ^ 31 by omega), a4, nI_inj (show tv i < 2 ^ 31 by omega) (show τ < 2 ^ 31 by omega), bt_test (show c < 32 by omega), nI_1]
      rcases hv with ⟨rfl, hv⟩ | ⟨rfl, hv⟩
      · rw [if_neg (by decide)]
        obtain ⟨j, hj, hl⟩ := hv
        exact ⟨_, rfl, 1, rfl, Or.inl ⟨rfl, j, by omega, hl⟩⟩
      · rw [if_pos rfl]
        have keep : ¬ (nM i = n ∧ tv i = τ ∧ bt (uM i) c = true) → (∃ s', some (Sum.inl (0, nI (i + 1)) : (Int32 × Int32) ⊕ Int32) = some (.inl s') ∧ ∃ v, s' = (v, nI (i + 1)) ∧ Sy v (Li (i + 1) tv nM uM n c τ)) := by
          intro hno
          refine ⟨_, rfl, 0, rfl, Or.inr ⟨rfl, ?_⟩⟩
          rintro ⟨j, hj, hl⟩
          by_cases e : j = i
          · subst e; exact hno hl
          · exact hv ⟨j, by omega, hl⟩
        by_cases c1 : nM i = n
        · rw [if_pos c1]
          by_cases c2 : tv i = τ
          · rw [if_pos c2]
            cases q : bt (uM i) c with
            | true =>
              simp only [if_true]
              exact ⟨_, rfl, 1, rfl, Or.inl ⟨rfl, i, by omega, c1, c2, q⟩⟩
            | false =>
              simp only [Bool.false_eq_true, if_false, show ¬ ((0 : Int32) = 1) from by decide]
              exact keep (fun z => by rw [q] at z; cases z.2.2)
          · rw [if_neg c2]; exact keep (fun z => c2 z.2.1)
        · rw [if_neg c1]; exact keep (fun z => c1 z.1))
    (by
      intro s hI
      obtain ⟨v, rfl, hv⟩ := hI
      exact ⟨v, by simp only [f_X4_lies_B6, if_pos (yle (show N < 2 ^ 30 by omega))], hv⟩) 64 0 (0, 0) ⟨0, rfl, Or.inr ⟨rfl, by rintro ⟨j, hj, _⟩; omega⟩⟩ (Nat.zero_le _) (by omega)
  refine ⟨v, ?_, h⟩
  unfold f_X4_lies
  rw [e]
  simp only [Option.bind_some]
  rcases h with ⟨rfl, -⟩ | ⟨rfl, -⟩ <;> rfl
theorem touchesOn_c {N T : Nat} (hN : N ≤ 38) (hT : T ≤ 38) {nt lf rt tv : Nat → Nat} {nD lD rD trD uD : Nat → Int32} (hL : LA N T nt lf rt tv nD lD rD trD) (n : Int32) {τ c : Nat} (hτ : τ < 2 ^ 30) (hc : c < 20) : ∃ v, f_X1_touchesOn nD trD uD (nI N) (nI τ) (nI c) n = some v ∧ Sy v (Li N tv nD uD n c τ) := by
  obtain ⟨r, e, h⟩ := lp_inv (b := f_X1_touchesOn_B3 (nI τ) (nI c) n nD trD uD (nI N)) (fun i s => s = nI i ∧ ¬ Li i tv nD uD n c τ) N (fun r => (r = .inl () ∧ ¬ Li N tv nD uD n c τ) ∨ (r = .inr () ∧ Li N tv nD uD n c τ))
    (by
      intro i s hi hI
      obtain ⟨rfl, hv⟩ := hI
      obtain ⟨a1, a2, a3, a4, a5, a6, a7, a8, a9⟩ := hL i hi
      simp only [f_X1_touchesOn_B3, if_neg (nle (show N < 2 ^ 30 by omega) hi), bnd_ok (show i < 38 by omega) (show 38 < 2 ^ 31 by decide), cl (show i < 2 ^ 31 by omega), a4, nI_inj (show tv i < 2 ^ 31 by omega) (show τ < 2 ^ 31 by omega), touches_c nD uD n (show i < 38 by omega) (show c < 32 by omega), Option.bind_some, nI_1]
      have keep : ¬ (nD i = n ∧ tv i = τ ∧ bt (uD i) c = true) → (∃ s', some (Sum.inl (nI (i + 1)) : Int32 ⊕ (Unit ⊕ Unit)) = some (.inl s') ∧ s' = nI (i + 1) ∧ ¬ Li (i + 1) tv nD uD n c τ) := by
        intro hno
        refine ⟨_, rfl, rfl, ?_⟩
        rintro ⟨j, hj, hl⟩
        by_cases e : j = i
        · subst e; exact hno hl
        · exact hv ⟨j, by omega, hl⟩
      by_cases c2 : tv i = τ
      · rw [if_pos c2]
        by_cases q : tq nD uD i c n
        · rw [if_pos q, if_neg (by decide)]
          exact Or.inr ⟨_, rfl, Or.inr ⟨rfl, i, hi, q.1, c2, q.2⟩⟩
        · rw [if_neg q, if_pos rfl]
          exact Or.inl (keep (fun z => q ⟨z.1, z.2.2⟩))
      · rw [if_neg c2]; exact Or.inl (keep (fun z => c2 z.2.1)))
    (by
      intro s hI
      obtain ⟨rfl, hv⟩ := hI
      exact ⟨.inl (), by simp only [f_X1_touchesOn_B3, if_pos (yle (show N < 2 ^ 30 by omega))], Or.inl ⟨rfl, hv⟩⟩) 64 0 0 ⟨rfl, by rintro ⟨j, hj, _⟩; omega⟩ (Nat.zero_le _) (by omega)
  rcases h with ⟨rfl, h⟩ | ⟨rfl, h⟩
  · refine ⟨0, ?_, Or.inr ⟨rfl, h⟩⟩
    unfold f_X1_touchesOn
    rw [e]
    rfl
  · refine ⟨1, ?_, Or.inl ⟨rfl, h⟩⟩
    unfold f_X1_touchesOn
    rw [e]
    rfl
/-- segment i touches column c for net n -/
theorem greatest_c {N T : Nat} (hN : N ≤ 38) (hT : T ≤ 38) {nt lf rt tv : Nat → Nat} {nD lD rD trD uD : Nat → Int32} (hL : LA N T nt lf rt tv nD lD rD trD) (n : Int32) {c : Nat} (hc : c < 20) : ∃ o : Option Nat, f_X1_greatestTrack nD trD uD (nI N) n (nI c) = some (oI o) ∧ ((o = none ∧ ∀ i, i < N → ¬ tq nD uD i c n) ∨ ∃ m, o = some m ∧ m < T ∧ (∃ i, i < N ∧ tq nD uD i c n ∧ tv i = m) ∧ ∀ i, i < N → tq nD uD i c n → tv i ≤ m) := by
  obtain ⟨r, e, o, rfl, h⟩ := lp_inv (b := f_X1_greatestTrack_B5 n (nI c) nD trD uD (nI N)) (fun k s => ∃ o : Option Nat, s = (oI o, nI k) ∧ ((o = none ∧ ∀ i, i < k → ¬ tq nD uD i c n) ∨ ∃ m, o = some m ∧ m < T ∧ (∃ i, i < k ∧ tq nD uD i c n ∧ tv i = m) ∧ ∀ i, i < k → tq nD uD i c n → tv i ≤ m)) N (fun r => ∃ o : Option Nat, r = oI o ∧ ((o = none ∧ ∀ i, i < N → ¬ tq nD uD i c n) ∨ ∃ m, o = some m ∧ m < T ∧ (∃ i, i < N ∧ tq nD uD i c n ∧ tv i = m) ∧ ∀ i, i < N → tq nD uD i c n → tv i ≤ m))
    (by
      intro k s hk hI
      obtain ⟨o, rfl, ho⟩ := hI
      left
      obtain ⟨a1, a2, a3, a4, a5, a6, a7, a8, a9⟩ := hL k hk
      simp only [f_X1_greatestTrack_B5, if_neg (nle (show N < 2 ^ 30 by omega) hk), bnd_ok (show k < 38 by omega) (show 38 < 2 ^ 31 by decide), cl (show k < 2 ^ 31 by omega), a4, touches_c nD uD n (show k < 38 by omega) (show c < 32 by omega), Option.bind_some, nI_1]
      by_cases q : tq nD uD k c n
      · rw [if_pos q, if_neg (by decide)]
        rcases ho with ⟨rfl, h⟩ | ⟨m, rfl, hm, ⟨i, hi, hqi, hti⟩, h⟩
        · refine ⟨_, rfl, some (tv k), ?_, Or.inr ⟨tv k, rfl, a9, ⟨k, by omega, q, rfl⟩, fun i hi hq => ?_⟩⟩
          · have : oI none < nI (tv k) := by
              have h := (sub1_lt (a := 0) (v := tv k) (by omega) (by omega)).mpr (Nat.zero_le _)
              rw [Int32.sub_eq_add_neg, m1_of0] at h
              exact h
            rw [if_pos this]
            rfl
          · by_cases e : i = k
            · subst e; exact Nat.le_refl _
            · exact absurd hq (h i (by omega))
        · have d : (oI (some m) < nI (tv k)) ↔ m < tv k := nI_lt_iff (show m < 2 ^ 31 by omega) (show tv k < 2 ^ 31 by omega)
          by_cases c1 : m < tv k
          · rw [if_pos (d.mpr c1)]
            refine ⟨_, rfl, some (tv k), rfl, Or.inr ⟨tv k, rfl, a9, ⟨k, by omega, q, rfl⟩, fun i' hi' hq => ?_⟩⟩
            by_cases e : i' = k
            · subst e; exact Nat.le_refl _
            · have := h i' (by omega) hq; omega
          · rw [if_neg (fun z => c1 (d.mp z))]
            refine ⟨_, rfl, some m, rfl, Or.inr ⟨m, rfl, hm, ⟨i, by omega, hqi, hti⟩, fun i' hi' hq => ?_⟩⟩
            by_cases e : i' = k
            · subst e; omega
            · exact h i' (by omega) hq
      · rw [if_neg q, if_pos rfl]
        refine ⟨_, rfl, o, rfl, ?_⟩
        rcases ho with ⟨rfl, h⟩ | ⟨m, rfl, hm, ⟨i, hi, hqi, hti⟩, h⟩
        · refine Or.inl ⟨rfl, fun i hi hq => ?_⟩
          by_cases e : i = k
          · subst e; exact q hq
          · exact h i (by omega) hq
        · refine Or.inr ⟨m, rfl, hm, ⟨i, by omega, hqi, hti⟩, fun i' hi' hq => ?_⟩
          by_cases e : i' = k
          · subst e; exact absurd hq q
          · exact h i' (by omega) hq)
    (by
      intro s hI
      obtain ⟨o, rfl, ho⟩ := hI
      exact ⟨oI o, by simp only [f_X1_greatestTrack_B5, if_pos (yle (show N < 2 ^ 30 by omega))], o, rfl, ho⟩) 64 0 ((-1), 0) ⟨none, rfl, Or.inl ⟨rfl, fun i hi => absurd hi (Nat.not_lt_zero _)⟩⟩ (Nat.zero_le _) (by omega)
  refine ⟨o, ?_, h⟩
  unfold f_X1_greatestTrack
  rw [e]
  rfl
theorem least_c {N T : Nat} (hN : N ≤ 38) (hT : T ≤ 38) {nt lf rt tv : Nat → Nat} {nD lD rD trD uD : Nat → Int32} (hL : LA N T nt lf rt tv nD lD rD trD) (n : Int32) {c : Nat} (hc : c < 20) : ∃ m, f_X1_leastTrack nD trD uD (nI N) (nI T) n (nI c) = some (nI m) ∧ m ≤ T ∧ (m = T ∨ ∃ i, i < N ∧ tq nD uD i c n ∧ tv i = m) ∧ ∀ i, i < N → tq nD uD i c n → m ≤ tv i := by
  obtain ⟨r, e, m, rfl, h⟩ := lp_inv (b := f_X1_leastTrack_B8 n (nI c) nD trD uD (nI N)) (fun k s => ∃ m, s = (nI m, nI k) ∧ m ≤ T ∧ (m = T ∨ ∃ i, i < k ∧ tq nD uD i c n ∧ tv i = m) ∧ ∀ i, i < k → tq nD uD i c n → m ≤ tv i) N (fun r => ∃ m, r = nI m ∧ m ≤ T ∧ (m = T ∨ ∃ i, i < N ∧ tq nD uD i c n ∧ tv i = m) ∧ ∀ i, i < N → tq nD uD i c n → m ≤ tv i)
    (by
      intro k s hk hI
      obtain ⟨m, rfl, hm, hx, hy⟩ := hI
      left
      obtain ⟨a1, a2, a3, a4, a5, a6, a7, a8, a9⟩ := hL k hk
      simp only [f_X1_leastTrack_B8, if_neg (nle (show N < 2 ^ 30 by omega) hk), bnd_ok (show k < 38 by omega) (show 38 < 2 ^ 31 by decide), cl (show k < 2 ^ 31 by omega), a4, touches_c nD uD n (show k < 38 by omega) (show c < 32 by omega), Option.bind_some, nI_1, nI_lt_iff (show tv k < 2 ^ 31 by omega) (show m < 2 ^ 31 by omega)]
      by_cases q : tq nD uD k c n
      · rw [if_pos q, if_neg (by decide)]
        by_cases c1 : tv k < m
        · rw [if_pos c1]
          refine ⟨_, rfl, tv k, rfl, by omega, Or.inr ⟨k, by omega, q, rfl⟩, fun i hi hq => ?_⟩
          by_cases e : i = k
          · subst e; exact Nat.le_refl _
          · have := hy i (by omega) hq; omega
        · rw [if_neg c1]
          refine ⟨_, rfl, m, rfl, hm, ?_, fun i hi hq => ?_⟩
          · rcases hx with hx | ⟨i, hi, hx⟩
            · exact Or.inl hx
            · exact Or.inr ⟨i, by omega, hx⟩
          · by_cases e : i = k
            · subst e; omega
            · exact hy i (by omega) hq
      · rw [if_neg q, if_pos rfl]
        refine ⟨_, rfl, m, rfl, hm, ?_, fun i hi hq => ?_⟩
        · rcases hx with hx | ⟨i, hi, hx⟩
          · exact Or.inl hx
          · exact Or.inr ⟨i, by omega, hx⟩
        · by_cases e : i = k
          · subst e; exact absurd hq q
          · exact hy i (by omega) hq)
    (by
      intro s hI
      obtain ⟨m, rfl, hm⟩ := hI
      exact ⟨nI m, by simp only [f_X1_leastTrack_B8, if_pos (yle (show N < 2 ^ 30 by omega))], m, rfl, hm⟩) 64 0 (nI T, 0) ⟨T, rfl, Nat.le_refl _, Or.inl rfl, fun i hi => absurd hi (Nat.not_lt_zero _)⟩ (Nat.zero_le _) (by omega)
  refine ⟨m, ?_, h⟩
  unfold f_X1_leastTrack
  rw [e]
  rfl

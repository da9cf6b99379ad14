/-! uprights and vias -/
def WL (N T : Nat) (nD lD rD trD uD nM lM rM trM uM : Nat → Int32) : Prop := N ≤ 38 ∧ T ≤ 38 ∧ ∃ nt lf rt tv, LA N T nt lf rt tv nD lD rD trD ∧ LA N T nt lf rt tv nM lM rM trM ∧ UN N nt lf rt tv ∧ ∀ i, i < N → uM i = uD i
def PB (top bot pins : Nat → Int32) : Prop := PR top bot pins ∧ ∀ c, c < 20 → (∃ k, k ≤ 9 ∧ top c = nI k) ∧ ∃ k, k ≤ 9 ∧ bot c = nI k
/-- the net of an upright, by what the two nets of the column reach -/
def UR (kt kb : Nat) (A B : Prop) (r : Int32) : Prop := (kt = kb ∧ r = nI kt) ∨ (kt ≠ kb ∧ ((0 < kt ∧ A ∧ r = nI kt) ∨ (¬ (0 < kt ∧ A) ∧ 0 < kb ∧ B ∧ r = nI kb) ∨ (¬ (0 < kt ∧ A) ∧ ¬ (0 < kb ∧ B) ∧ r = 0)))
theorem UR_uniq {kt kb : Nat} {A B : Prop} {r r' : Int32} (h : UR kt kb A B r) (h' : UR kt kb A B r') : r = r' := by
  rcases h with ⟨h1, h2⟩ | ⟨h1, h⟩
  · rcases h' with ⟨_, h2'⟩ | ⟨h1', _⟩
    · rw [h2, h2']
    · exact absurd h1 h1'
  · rcases h' with ⟨h1', _⟩ | ⟨_, h'⟩
    · exact absurd h1' h1
    · rcases h with ⟨a, b, e⟩ | ⟨a, b, d, e⟩ | ⟨a, b, e⟩
      · rcases h' with ⟨a', b', e'⟩ | ⟨a', _⟩ | ⟨a', _⟩
        · rw [e, e']
        · exact absurd ⟨a, b⟩ a'
        · exact absurd ⟨a, b⟩ a'
      · rcases h' with ⟨a', b', e'⟩ | ⟨a', b', d', e'⟩ | ⟨a', b', e'⟩
        · exact absurd ⟨a', b'⟩ a
        · rw [e, e']
        · exact absurd ⟨b, d⟩ b'
      · rcases h' with ⟨a', b', e'⟩ | ⟨a', b', d', e'⟩ | ⟨a', b', e'⟩
        · exact absurd ⟨a', b'⟩ a
        · exact absurd ⟨b', d'⟩ b
        · rw [e, e']
def Ab (N : Nat) (tv : Nat → Nat) (nD uD : Nat → Int32) (t : Int32) (c : Nat) (row : Int32) : Prop := row = -1 ∨ ∃ i, i < N ∧ tq nD uD i c t ∧ ¬ nI (tv i) < row
def Be (N T : Nat) (tv : Nat → Nat) (nD uD : Nat → Int32) (b : Int32) (c : Nat) (row : Int32) : Prop := row = nI T ∨ ∃ i, i < N ∧ tq nD uD i c b ∧ ¬ row < nI (tv i)
def Rw (T : Nat) (row : Int32) : Prop := row = -1 ∨ ∃ p, p ≤ T ∧ row = nI p
theorem m1_lt_nI {v : Nat} (hv : v < 2 ^ 30) : (-1 : Int32) < nI v := by
  have h := (sub1_lt (a := 0) (v := v) (by omega) hv).mpr (Nat.zero_le _)
  rw [Int32.sub_eq_add_neg, m1_of0] at h
  exact h
theorem upright_c {N T : Nat} (hN : N ≤ 38) (hT : T ≤ 38) {nt lf rt tv : Nat → Nat} {nD lD rD trD uD : Nat → Int32} (hL : LA N T nt lf rt tv nD lD rD trD) {top bot : Nat → Int32} {c kt kb : Nat} (hc : c < 20) (h9t : kt ≤ 9) (h9b : kb ≤ 9) (ht : top c = nI kt) (hb : bot c = nI kb) {row : Int32} (hr : Rw T row) : ∃ r, f_X3_uprightNet top bot nD trD uD (nI N) (nI T) (nI c) row = some r ∧ UR kt kb (Ab N tv nD uD (nI kt) c row) (Be N T tv nD uD (nI kb) c row) r := by
  have pos : ∀ k, (∃ i, i < N ∧ tq nD uD i c (nI k)) → k ≤ 9 → 0 < k := fun k ⟨i, hi, hq⟩ hk => by
    have h1 := hL i hi
    have h2 := hq.1
    rw [h1.1] at h2
    have := (nI_inj (by omega) (by omega)).mp h2
    omega
  unfold f_X3_uprightNet
  simp only [bnd_ok hc (show 20 < 2 ^ 31 by decide), cl (show c < 2 ^ 31 by omega), ht, hb, nI_inj (show kt < 2 ^ 31 by omega) (show kb < 2 ^ 31 by omega)]
  by_cases e : kt = kb
  · rw [if_pos e]; exact ⟨_, rfl, Or.inl ⟨e, rfl⟩⟩
  · rw [if_neg e]
    obtain ⟨o, eo, ho⟩ := greatest_c hN hT hL (uD := uD) (nI kt) hc
    obtain ⟨m', em, hm1, hm2, hm3⟩ := least_c hN hT hL (uD := uD) (nI kb) hc
    rw [eo]
    simp only [Option.bind_some]
    rcases hr with rfl | ⟨p, hp, rfl⟩
    · have hng : ¬ oI o < -1 := by
        rcases ho with ⟨rfl, _⟩ | ⟨m, rfl, hm, _⟩
        · show ¬ ((-1 : Int32) < -1); decide
        · show ¬ (nI m < -1)
          intro z
          have h1 := m1_lt_nI (v := m) (by omega)
          rw [Int32.lt_iff_toInt_lt] at z h1
          omega
      rw [if_neg hng]
      refine ⟨_, rfl, Or.inr ⟨e, ?_⟩⟩
      by_cases z : 0 < kt
      · exact Or.inl ⟨z, Or.inl rfl, rfl⟩
      · refine Or.inr (Or.inr ⟨fun w => z w.1, fun w => ?_, by rw [show kt = 0 by omega]; rfl⟩)
        rcases w.2 with w2 | ⟨i, hi, hq, hn⟩
        · exact nI_ne_m1 (by omega) w2.symm
        · have := hL i hi
          exact hn (m1_lt_nI (by omega))
    · have hA : Ab N tv nD uD (nI kt) c (nI p) ↔ ∃ i, i < N ∧ tq nD uD i c (nI kt) ∧ p ≤ tv i := by
        constructor
        · rintro (w | ⟨i, hi, hq, hn⟩)
          · exact absurd w (nI_ne_m1 (by omega))
          · have := hL i hi
            rw [nI_lt_iff (by omega) (by omega)] at hn
            exact ⟨i, hi, hq, by omega⟩
        · rintro ⟨i, hi, hq, hn⟩
          have := hL i hi
          exact Or.inr ⟨i, hi, hq, by rw [nI_lt_iff (by omega) (by omega)]; omega⟩
      have hB : Be N T tv nD uD (nI kb) c (nI p) ↔ p = T ∨ ∃ i, i < N ∧ tq nD uD i c (nI kb) ∧ tv i ≤ p := by
        constructor
        · rintro (w | ⟨i, hi, hq, hn⟩)
          · exact Or.inl ((nI_inj (by omega) (by omega)).mp w)
          · have := hL i hi
            rw [nI_lt_iff (by omega) (by omega)] at hn
            exact Or.inr ⟨i, hi, hq, by omega⟩
        · rintro (w | ⟨i, hi, hq, hn⟩)
          · exact Or.inl (by rw [w])
          · have := hL i hi
            exact Or.inr ⟨i, hi, hq, by rw [nI_lt_iff (by omega) (by omega)]; omega⟩
      rw [em]
      simp only [Option.bind_some, nI_lt_iff (show p < 2 ^ 31 by omega) (show m' < 2 ^ 31 by omega)]
      have hg : (oI o < nI p ∧ ¬ Ab N tv nD uD (nI kt) c (nI p)) ∨ (¬ oI o < nI p ∧ Ab N tv nD uD (nI kt) c (nI p)) := by
        rcases ho with ⟨rfl, h⟩ | ⟨m, rfl, hm, ⟨i, hi, hq, hti⟩, h⟩
        · exact Or.inl ⟨m1_lt_nI (by omega), fun w => by obtain ⟨i, hi, hq, _⟩ := hA.mp w; exact h i hi hq⟩
        · by_cases d : m < p
          · refine Or.inl ⟨(nI_lt_iff (by omega) (by omega)).mpr d, fun w => ?_⟩
            obtain ⟨i', hi', hq', hn'⟩ := hA.mp w
            have := h i' hi' hq'
            omega
          · exact Or.inr ⟨fun w => d ((nI_lt_iff (by omega) (by omega)).mp w), hA.mpr ⟨i, hi, hq, by omega⟩⟩
      rcases hg with ⟨g1, g2⟩ | ⟨g1, g2⟩
      · rw [if_pos g1]
        by_cases d : p < m'
        · rw [if_pos d]
          refine ⟨_, rfl, Or.inr ⟨e, Or.inr (Or.inr ⟨fun w => g2 w.2, fun w => ?_, rfl⟩)⟩⟩
          rcases hB.mp w.2 with w2 | ⟨i, hi, hq, hn⟩
          · omega
          · have := hm3 i hi hq; omega
        · rw [if_neg d]
          have hb' : Be N T tv nD uD (nI kb) c (nI p) := hB.mpr (by
            rcases hm2 with w | ⟨i, hi, hq, hti⟩
            · exact Or.inl (by omega)
            · exact Or.inr ⟨i, hi, hq, by omega⟩)
          refine ⟨_, rfl, Or.inr ⟨e, ?_⟩⟩
          by_cases z : 0 < kb
          · exact Or.inr (Or.inl ⟨fun w => g2 w.2, z, hb', rfl⟩)
          · exact Or.inr (Or.inr ⟨fun w => g2 w.2, fun w => z w.1, by rw [show kb = 0 by omega]; rfl⟩)
      · rw [if_neg g1]
        obtain ⟨i, hi, hq, _⟩ := hA.mp g2
        exact ⟨_, rfl, Or.inr ⟨e, Or.inl ⟨pos kt ⟨i, hi, hq⟩ h9t, g2, rfl⟩⟩⟩
theorem up_loop {N T : Nat} (hN : N ≤ 38) (hT : T ≤ 38) {nt lf rt tv : Nat → Nat} {nM lM rM trM uM : Nat → Int32} (hL : LA N T nt lf rt tv nM lM rM trM) {c : Nat} (hc : c < 20) (t b : Int32) (row : Int32) {x5 s0 : Int32} {P Q : Prop} (h5 : Sy x5 P) (h0 : Sy s0 Q) : ∃ x6 s6, lp (f_X4_uprightAt_B56 (nI c) row t b (nI N) (nI T) nM uM trM) 64 (x5, s0, 0) = some (x6, s6) ∧ Sy x6 (P ∨ ∃ k, k < T ∧ ¬ nI k < row ∧ Li N tv nM uM t c k) ∧ Sy s6 (Q ∨ ∃ k, k < T ∧ ¬ row < nI k ∧ Li N tv nM uM b c k) := by
  obtain ⟨r, e, x6, s6, rfl, h1, h2⟩ := lp_inv (b := f_X4_uprightAt_B56 (nI c) row t b (nI N) (nI T) nM uM trM) (fun i s => ∃ x6 s6, s = (x6, s6, nI i) ∧ Sy x6 (P ∨ ∃ k, k < i ∧ ¬ nI k < row ∧ Li N tv nM uM t c k) ∧ Sy s6 (Q ∨ ∃ k, k < i ∧ ¬ row < nI k ∧ Li N tv nM uM b c k)) T (fun r => ∃ x6 s6, r = (x6, s6) ∧ Sy x6 (P ∨ ∃ k, k < T ∧ ¬ nI k < row ∧ Li N tv nM uM t c k) ∧ Sy s6 (Q ∨ ∃ k, k < T ∧ ¬ row < nI k ∧ Li N tv nM uM b c k))
    (by
      intro i s hi hI
      obtain ⟨x6, s6, rfl, h1, h2⟩ := hI
      left
      have J92 : ∀ v, Sy v (P ∨ ∃ k, k < i + 1 ∧ ¬ nI k < row ∧ Li N tv nM uM t c k) → ∃ s', f_X4_uprightAt_J92 (nI N) nM uM trM (nI c) row b s6 (nI i) v = some (.inl s') ∧ ∃ x6 s6, s' = (x6, s6, nI (i + 1)) ∧ Sy x6 (P ∨ ∃ k, k < i + 1 ∧ ¬ nI k < row ∧ Li N tv nM uM t c k) ∧ Sy s6 (Q ∨ ∃ k, k < i + 1 ∧ ¬ row < nI k ∧ Li N tv nM uM b c k) := by
        intro v hv
        unfold f_X4_uprightAt_J92
        obtain ⟨w, ew, hw⟩ := lies_m hN hT hL (uM := uM) b (show i < 2 ^ 30 by omega) hc
        rw [ew]
        simp only [Option.bind_some, nI_1]
        have keep : ¬ (Q ∨ ∃ k, k < i ∧ ¬ row < nI k ∧ Li N tv nM uM b c k) → ¬ (¬ row < nI i ∧ Li N tv nM uM b c i) → Sy 0 (Q ∨ ∃ k, k < i + 1 ∧ ¬ row < nI k ∧ Li N tv nM uM b c k) := by
          intro z1 z2
          refine Or.inr ⟨rfl, ?_⟩
          rintro (z | ⟨k, hk, z⟩)
          · exact z1 (Or.inl z)
          · by_cases e : k = i
            · subst e; exact z2 z
            · exact z1 (Or.inr ⟨k, by omega, z⟩)
        rcases h2 with ⟨rfl, h2⟩ | ⟨rfl, h2⟩
        · rw [if_neg (by decide)]
          refine ⟨_, rfl, v, 1, rfl, hv, Or.inl ⟨rfl, ?_⟩⟩
          rcases h2 with z | ⟨k, hk, z⟩
          · exact Or.inl z
          · exact Or.inr ⟨k, by omega, z⟩
        · rw [if_pos rfl]
          by_cases c1 : row < nI i
          · rw [if_pos c1]
            exact ⟨_, rfl, v, 0, rfl, hv, keep h2 (fun z => z.1 c1)⟩
          · rw [if_neg c1]
            rcases hw with ⟨rfl, hw⟩ | ⟨rfl, hw⟩
            · rw [if_neg (by decide)]
              exact ⟨_, rfl, v, 1, rfl, hv, Or.inl ⟨rfl, Or.inr ⟨i, by omega, c1, hw⟩⟩⟩
            · rw [if_pos rfl]
              exact ⟨_, rfl, v, 0, rfl, hv, keep h2 (fun z => hw z.2)⟩
      have keep : ¬ (P ∨ ∃ k, k < i ∧ ¬ nI k < row ∧ Li N tv nM uM t c k) → ¬ (¬ nI i < row ∧ Li N tv nM uM t c i) → Sy 0 (P ∨ ∃ k, k < i + 1 ∧ ¬ nI k < row ∧ Li N tv nM uM t c k) := by
        intro z1 z2
        refine Or.inr ⟨rfl, ?_⟩
        rintro (z | ⟨k, hk, z⟩)
        · exact z1 (Or.inl z)
        · by_cases e : k = i
          · subst e; exact z2 z
          · exact z1 (Or.inr ⟨k, by omega, z⟩)
      obtain ⟨w, ew, hw⟩ := lies_m hN hT hL (uM := uM) t (show i < 2 ^ 30 by omega) hc
      simp only [f_X4_uprightAt_B56, if_neg (nle (show T < 2 ^ 30 by omega) hi), ew, Option.bind_some]
      rcases h1 with ⟨rfl, h1⟩ | ⟨rfl, h1⟩
      · rw [if_neg (by decide)]
        refine J92 1 (Or.inl ⟨rfl, ?_⟩)
        rcases h1 with z | ⟨k, hk, z⟩
        · exact Or.inl z
        · exact Or.inr ⟨k, by omega, z⟩
      · rw [if_pos rfl]
        by_cases c1 : nI i < row
        · rw [if_pos c1]
          exact J92 0 (keep h1 (fun z => z.1 c1))
        · rw [if_neg c1]
          rcases hw with ⟨rfl, hw⟩ | ⟨rfl, hw⟩
          · rw [if_neg (by decide)]
            exact J92 1 (Or.inl ⟨rfl, Or.inr ⟨i, by omega, c1, hw⟩⟩)
          · rw [if_pos rfl]
            exact J92 0 (keep h1 (fun z => hw z.2)))
    (by
      intro s hI
      obtain ⟨x6, s6, rfl, h⟩ := hI
      exact ⟨(x6, s6), by simp only [f_X4_uprightAt_B56, if_pos (yle (show T < 2 ^ 30 by omega))], x6, s6, rfl, h⟩) 64 0 (x5, s0, 0) ⟨x5, s0, rfl, by
        rcases h5 with ⟨a, b⟩ | ⟨a, b⟩
        · exact Or.inl ⟨a, Or.inl b⟩
        · exact Or.inr ⟨a, fun w => w.elim b (fun ⟨k, hk, _⟩ => absurd hk (Nat.not_lt_zero _))⟩, by
        rcases h0 with ⟨a, b⟩ | ⟨a, b⟩
        · exact Or.inl ⟨a, Or.inl b⟩
        · exact Or.inr ⟨a, fun w => w.elim b (fun ⟨k, hk, _⟩ => absurd hk (Nat.not_lt_zero _))⟩⟩ (Nat.zero_le _) (by omega)
  exact ⟨x6, s6, e, h1, h2⟩

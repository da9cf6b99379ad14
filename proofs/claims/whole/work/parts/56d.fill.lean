/-! the filling -/
theorem belowAny_c {N : Nat} (hN : N ≤ 38) (bel : Nat → Int64) (w : Int64) : ∃ u, f_X1_belowAnyOf bel (nI N) w = some u ∧ ∀ j, j < 64 → (bl u j = true ↔ ∃ x, x < N ∧ bl w x = true ∧ bl (bel x) j = true) := by
  obtain ⟨r, e, h⟩ := lp_inv (b := f_X1_belowAnyOf_B5 w bel (nI N)) (fun i s => ∃ u, s = (u, nI i) ∧ ∀ j, j < 64 → (bl u j = true ↔ ∃ x, x < i ∧ bl w x = true ∧ bl (bel x) j = true)) N (fun u => ∀ j, j < 64 → (bl u j = true ↔ ∃ x, x < N ∧ bl w x = true ∧ bl (bel x) j = true))
    (by
      intro i s hi hI
      obtain ⟨u, rfl, hu⟩ := hI
      left
      simp only [f_X1_belowAnyOf_B5, if_neg (nle (show N < 2 ^ 30 by omega) hi), isIn_eq _ (show i < 64 by omega), Option.bind_some, bnd_ok (show i < 38 by omega) (show 38 < 2 ^ 31 by decide), cl (show i < 2 ^ 31 by omega), nI_1]
      cases q : bl w i with
      | false =>
        simp only [Bool.false_eq_true, if_false, if_true]
        refine ⟨_, rfl, u, rfl, fun j hj => ?_⟩
        rw [hu j hj]
        constructor
        · rintro ⟨x, h1, h2⟩; exact ⟨x, by omega, h2⟩
        · rintro ⟨x, h1, h2, h3⟩
          by_cases e : x = i
          · subst e; rw [q] at h2; cases h2
          · exact ⟨x, by omega, h2, h3⟩
      | true =>
        simp only [if_true, show ¬ ((1 : Int32) = 0) from by decide, if_false]
        refine ⟨_, rfl, _, rfl, fun j hj => ?_⟩
        rw [bl_or, Bool.or_eq_true, hu j hj]
        constructor
        · rintro (⟨x, h1, h2⟩ | h)
          · exact ⟨x, by omega, h2⟩
          · exact ⟨i, by omega, q, h⟩
        · rintro ⟨x, h1, h2, h3⟩
          by_cases e : x = i
          · subst e; exact Or.inr h3
          · exact Or.inl ⟨x, by omega, h2, h3⟩)
    (by
      intro s hI
      obtain ⟨u, rfl, hu⟩ := hI
      exact ⟨u, by simp only [f_X1_belowAnyOf_B5, if_pos (yle (show N < 2 ^ 30 by omega))], hu⟩) 64 0 (0, 0) ⟨0, rfl, fun j hj => by
        rw [bl_0]
        constructor
        · intro h; cases h
        · rintro ⟨x, h, _⟩; omega⟩ (Nat.zero_le _) (by omega)
  refine ⟨r, ?_, h⟩
  unfold f_X1_belowAnyOf
  rw [e]
  rfl
/-- without a ring, some open one lies under no open one -/
theorem some_ready {N : Nat} {bel : Nat → Int64} (hR : ∀ x, x < N → ¬ Rg N bel x) {op : Int64} {y0 : Nat} (hy0 : y0 < N) (hb0 : bl op y0 = true) : ∃ y, y < N ∧ bl op y = true ∧ ∀ x, x < N → bl op x = true → ¬ bl (bel x) y = true := by
  apply Classical.byContradiction
  intro hn
  have ex : ∀ y, ∃ x, (y < N ∧ bl op y = true) → (x < N ∧ bl op x = true ∧ bl (bel x) y = true) := by
    intro y
    apply Classical.byContradiction
    intro h
    apply hn
    have h1 : y < N ∧ bl op y = true := by
      apply Classical.byContradiction
      intro h2
      exact h ⟨0, fun w => absurd w h2⟩
    refine ⟨y, h1.1, h1.2, fun x hx ho hb => h ⟨x, fun _ => ⟨hx, ho, hb⟩⟩⟩
  obtain ⟨f, f0, fs⟩ : ∃ f : Nat → Nat, f 0 = y0 ∧ ∀ n, f (n + 1) = Classical.choose (ex (f n)) := ⟨fun n => Nat.rec y0 (fun _ y => Classical.choose (ex y)) n, rfl, fun n => rfl⟩
  have fN : ∀ n, f n < N ∧ bl op (f n) = true := by
    intro n
    induction n with
    | zero => rw [f0]; exact ⟨hy0, hb0⟩
    | succ n ih =>
      rw [fs n]
      have := Classical.choose_spec (ex (f n)) ih
      exact ⟨this.1, this.2.1⟩
  have fw : ∀ d n, Wk N bel d (f (n + d)) (f n) := by
    intro d
    induction d with
    | zero => intro n; exact rfl
    | succ d ih =>
      intro n
      refine ⟨f (n + d), (fN _).1, ?_, ih n⟩
      rw [show n + (d + 1) = (n + d) + 1 by omega, fs (n + d)]
      exact (Classical.choose_spec (ex (f (n + d))) (fN _)).2.2
  have noeq : ∀ i j, i < j → ¬ f i = f j := by
    intro i j hij e
    have h1 := fw (j - i) i
    rw [show i + (j - i) = j by omega, ← e] at h1
    exact hR (f i) (fN i).1 ⟨j - i - 1, by rw [show j - i - 1 + 1 = j - i by omega]; exact h1⟩
  have := php N (N + 1) f (fun j _ => (fN j).1) (fun i j _ _ e => by
    rcases Nat.lt_trichotomy i j with q | q | q
    · exact absurd e (noeq i j q)
    · exact q
    · exact absurd e.symm (noeq j i q))
  omega
theorem cP_lt {t t' : Nat → Int32} : ∀ n, (∀ i, i < n → ¬ t i = -1 → ¬ t' i = -1) → cP t n ≤ cP t' n ∧ ((∃ i, i < n ∧ t i = -1 ∧ ¬ t' i = -1) → cP t n < cP t' n) := by
  intro n
  induction n with
  | zero => intro _; exact ⟨Nat.le_refl _, fun ⟨i, hi, _⟩ => absurd hi (Nat.not_lt_zero _)⟩
  | succ n ih =>
    intro h
    obtain ⟨h1, h2⟩ := ih (fun i hi => h i (by omega))
    show cP t n + (if t n = -1 then 0 else 1) ≤ cP t' n + (if t' n = -1 then 0 else 1) ∧ (_ → cP t n + (if t n = -1 then 0 else 1) < cP t' n + (if t' n = -1 then 0 else 1))
    by_cases c : t n = -1
    · rw [if_pos c]
      by_cases c' : t' n = -1
      · rw [if_pos c']
        refine ⟨by omega, fun ⟨i, hi, a, b⟩ => ?_⟩
        by_cases e : i = n
        · subst e; exact absurd c' b
        · have := h2 ⟨i, by omega, a, b⟩; omega
      · rw [if_neg c']
        exact ⟨by omega, fun _ => by omega⟩
    · rw [if_neg c, if_neg (h n (by omega) c)]
      refine ⟨by omega, fun ⟨i, hi, a, b⟩ => ?_⟩
      by_cases e : i = n
      · subst e; exact absurd a c
      · have := h2 ⟨i, by omega, a, b⟩; omega
theorem cP_all {t : Nat → Int32} : ∀ n, (∀ i, i < n → ¬ t i = -1) → cP t n = n := by
  intro n
  induction n with
  | zero => intro _; rfl
  | succ n ih =>
    intro h
    show cP t n + (if t n = -1 then 0 else 1) = n + 1
    rw [ih (fun i hi => h i (by omega)), if_neg (h n (by omega))]
theorem cP_none {t : Nat → Int32} : ∀ n, (∀ i, i < n → t i = -1) → cP t n = 0 := by
  intro n
  induction n with
  | zero => intro _; rfl
  | succ n ih =>
    intro h
    show cP t n + (if t n = -1 then 0 else 1) = 0
    rw [ih (fun i hi => h i (by omega)), if_pos (h n (by omega))]
/-- nets that share a point of a track are one -/
def UQ (N : Nat) (nt lf rt : Nat → Nat) (Q : Nat → Prop) (tC : Nat → Int32) : Prop := ∀ i j, i < N → j < N → Q i → Q j → tC i = tC j → ∀ c, lf i ≤ c → c ≤ rt i → lf j ≤ c → c ≤ rt j → nt i = nt j
theorem clear_m {N : Nat} (hN : N ≤ 38) (tM : Nat → Int32) : ∃ tM', lp (f_X4_fill_B6 (nI N)) 64 (0, tM) = some tM' ∧ ∀ i, i < N → tM' i = -1 := by
  obtain ⟨r, e, h⟩ := lp_inv (b := f_X4_fill_B6 (nI N)) (fun i s => ∃ t, s = (nI i, t) ∧ ∀ j, j < i → t j = -1) N (fun t => ∀ j, j < N → t j = -1)
    (by
      intro i s hi hI
      obtain ⟨t, rfl, ht⟩ := hI
      left
      simp only [f_X4_fill_B6, if_neg (nle (show N < 2 ^ 30 by omega) hi), bnd_ok (show i < 40 by omega) (show 40 < 2 ^ 31 by decide), cl (show i < 2 ^ 31 by omega), nI_1]
      refine ⟨_, rfl, _, rfl, fun j hj => ?_⟩
      rw [ui]
      by_cases e : j = i
      · rw [if_pos e]
      · rw [if_neg e]; exact ht j (by omega))
    (by
      intro s hI
      obtain ⟨t, rfl, ht⟩ := hI
      exact ⟨t, by simp only [f_X4_fill_B6, if_pos (yle (show N < 2 ^ 30 by omega))], ht⟩) 64 0 (0, tM) ⟨tM, rfl, fun j hj => absurd hj (Nat.not_lt_zero _)⟩ (Nat.zero_le _) (by omega)
  exact ⟨r, e, h⟩
def FI (N : Nat) (nt lf rt : Nat → Nat) (τ : Nat) (op : Int64) (tC tM : Nat → Int32) : Prop :=
  (∀ i, i < N → (bl op i = true ∧ tM i = -1) ∨ (bl op i = false ∧ ∃ v, v < τ ∧ tM i = nI v ∧ tC i = nI v))
  ∧ (∀ i, N ≤ i → i < 64 → bl op i = false) ∧ τ ≤ cP tM N ∧ UQ N nt lf rt (fun i => bl op i = false) tC
theorem fill {N : Nat} (hN : N ≤ 38) {bel belM : Nat → Int64} (hM : ∀ x, x < N → belM x = bel x) (hR : ∀ x, x < N → ¬ Rg N bel x) {nD lD rD nM lM rM : Nat → Int32} {nt lf rt : Nat → Nat} (hA : AV N nD lD rD nt lf rt) (hAM : AV N nM lM rM nt lf rt) (tC bL tM : Nat → Int32) :
    ∃ tC' bL' T tM', f_X1_fillTracks nD lD rD tC bel bL (nI N) = some (tC', bL', nI T) ∧ f_X4_fill (nI N) nM lM rM belM tM = some (nI T, tM') ∧ T ≤ N ∧ (∀ i, i < N → ∃ v, v < T ∧ tC' i = nI v ∧ tM' i = nI v) ∧ UQ N nt lf rt (fun _ => True) tC' := by
  obtain ⟨bL', od, es, hO⟩ := sort_c hN hA bL
  obtain ⟨tM1, ec, hc⟩ := clear_m hN tM
  obtain ⟨res, e, tC', T, tM', rfl, eM, hT, hv, hU⟩ := lp_inv (b := f_X1_fillTracks_B18 nD lD rD bel bL' (nI N))
    (fun τ s => ∃ op tC tM, s = (op, tC, nI τ) ∧ (∀ f, lp (f_X4_fill_B27 (nI N) nM lM rM belM) (τ + f) (0, 0, tM1) = lp (f_X4_fill_B27 (nI N) nM lM rM belM) f (nI (cP tM N), nI τ, tM)) ∧ FI N nt lf rt τ op tC tM)
    N (fun res => ∃ tC' T tM', res = (tC', nI T) ∧ lp (f_X4_fill_B27 (nI N) nM lM rM belM) 64 (0, 0, tM1) = some (nI T, tM') ∧ T ≤ N ∧ (∀ i, i < N → ∃ v, v < T ∧ tC' i = nI v ∧ tM' i = nI v) ∧ UQ N nt lf rt (fun _ => True) tC')
    (by
      intro τ s hτ hI
      obtain ⟨op, tC, tM, rfl, hf, h1, h2, h3, h4⟩ := hI
      by_cases q : op = 0
      · right
        have all : ∀ i, i < N → bl op i = false := fun i _ => by rw [q, bl_0]
        have hnm : ∀ i, i < N → ¬ tM i = -1 := fun i hi => by
          rcases h1 i hi with ⟨a, -⟩ | ⟨-, v, hv, a, -⟩
          · rw [all i hi] at a; cases a
          · rw [a]; exact nI_ne_m1 (by omega)
        refine ⟨(tC, nI τ), ?_, tC, τ, tM, rfl, ?_, by omega, fun i hi => ?_, fun i j hi hj _ _ => h4 i j hi hj (all i hi) (all j hj)⟩
        · simp only [f_X1_fillTracks_B18, if_pos ((cmp0 op).mpr q)]
        · have := hf (63 - τ + 1)
          rw [show τ + (63 - τ + 1) = 64 by omega] at this
          rw [this]
          apply lp_end
          simp only [f_X4_fill_B27, cP_all N hnm, if_pos (yle (show N < 2 ^ 30 by omega))]
        · rcases h1 i hi with ⟨a, -⟩ | ⟨-, v, hv, a, b⟩
          · rw [all i hi] at a; cases a
          · exact ⟨v, hv, b, a⟩
      · left
        obtain ⟨y0, hy64, hb0⟩ := (bl_ne0 op).mp q
        have hy0 : y0 < N := by
          rcases Nat.lt_or_ge y0 N with c | c
          · exact c
          · rw [h2 y0 c hy64] at hb0; cases hb0
        have hm0 : tM y0 = -1 := by
          rcases h1 y0 hy0 with ⟨-, a⟩ | ⟨a, -⟩
          · exact a
          · rw [hb0] at a; cases a
        have hlt := cP_some hy0 hm0
        obtain ⟨u, eu, hu⟩ := belowAny_c hN bel op
        have hT0 : Tk N tM := fun i hi => by
          rcases h1 i hi with ⟨-, a⟩ | ⟨-, v, hv, a, -⟩
          · exact Or.inl a
          · exact Or.inr ⟨v, by omega, a⟩
        have hrd : ∀ i, i < N → (bl (op &&& (u ^^^ (-1))) i = true ↔ bl op i = true ∧ ∀ x, x < N → bl op x = true → ¬ bl (bel x) i = true) := fun i hi => by
          rw [bl_and, bl_not u (show i < 64 by omega), Bool.and_eq_true, Bool.not_eq_true']
          constructor
          · rintro ⟨a, b⟩
            refine ⟨a, fun x hx ho hb => ?_⟩
            have := (hu i (by omega)).mpr ⟨x, hx, ho, hb⟩
            rw [b] at this; cases this
          · rintro ⟨a, b⟩
            refine ⟨a, ?_⟩
            cases c : bl u i with
            | false => rfl
            | true =>
              obtain ⟨x, hx, ho, hb⟩ := (hu i (by omega)).mp c
              exact absurd hb (b x hx ho)
        have hr : ∀ i, i < N → (bl (op &&& (u ^^^ (-1))) i = true ↔ Fr N bel tM τ i) := fun i hi => by
          rw [hrd i hi]
          constructor
          · rintro ⟨a, b⟩
            refine ⟨?_, fun x hx hb => ?_⟩
            · rcases h1 i hi with ⟨-, c⟩ | ⟨c, -⟩
              · exact c
              · rw [a] at c; cases c
            · rcases h1 x hx with ⟨c, -⟩ | ⟨-, v, hv, c, -⟩
              · exact absurd hb (b x hx c)
              · exact ⟨v, hv, c⟩
          · rintro ⟨a, b⟩
            refine ⟨?_, fun x hx ho hb => ?_⟩
            · rcases h1 i hi with ⟨c, -⟩ | ⟨-, v, hv, c, -⟩
              · exact c
              · rw [a] at c; exact absurd c.symm (nI_ne_m1 (by omega))
            · obtain ⟨v, hv, c⟩ := b x hx hb
              rcases h1 x hx with ⟨-, d⟩ | ⟨d, -⟩
              · rw [d] at c; exact absurd c.symm (nI_ne_m1 (by omega))
              · rw [ho] at d; cases d
        obtain ⟨tk, tC', tM', o, eC, ⟨r0, er0, eM⟩, r, hS⟩ := track hN hM hA hAM hO (show τ < 40 by omega) hT0 hr (tC0 := tC)
        obtain ⟨s1, s2, s3, s4, s5, s6, s7⟩ := id hS
        have hsome : ∃ i, i < N ∧ bl tk i = true := by
          obtain ⟨y, hyN, hyo, hyn⟩ := some_ready hR hy0 hb0
          apply Classical.byContradiction
          intro hn
          have hno : ∀ i, i < N → bl tk i = false := fun i hi => by
            cases c : bl tk i with
            | false => rfl
            | true => exact absurd ⟨i, hi, c⟩ hn
          have hon : o = none := by
            cases o with
            | none => rfl
            | some l => exact absurd ⟨l, (s5 l rfl).1, (s5 l rfl).2⟩ hn
          obtain ⟨k, hk, ek⟩ := hO.2.2 y hyN
          apply s4 k hk
          rw [ek, hon]
          refine ⟨fun l h => (by cases h), fun l h => (by cases h), ?_⟩
          exact (SC_free (show τ < 2 ^ 30 by omega) hr hS hyN).mpr ⟨(hrd y hyN).mpr ⟨hyo, hyn⟩, hno y hyN⟩
        have hcp : cP tM N < cP tM' N := by
          obtain ⟨h5, h6⟩ := cP_lt (t := tM) (t' := tM') N (fun i hi hne => by
            rcases s1 i hi with ⟨-, -, a, -⟩ | ⟨-, a, -⟩
            · rw [a]; exact nI_ne_m1 (by omega)
            · rw [a]; exact hne)
          apply h6
          obtain ⟨i, hi, hb⟩ := hsome
          refine ⟨i, hi, ?_, ?_⟩
          · rcases s1 i hi with ⟨-, a, -, -⟩ | ⟨a, -⟩
            · exact ((hr i hi).mp a).1
            · rw [hb] at a; cases a
          · rcases s1 i hi with ⟨-, -, a, -⟩ | ⟨a, -⟩
            · rw [a]; exact nI_ne_m1 (by omega)
            · rw [hb] at a; cases a
        refine ⟨(op &&& (tk ^^^ (-1)), tC', nI (τ + 1)), ?_, _, tC', tM', rfl, fun f => ?_, fun i hi => ?_, fun i hi hi2 => ?_, by omega, fun i j hi hj hbi hbj et c c1 c2 c3 c4 => ?_⟩
        · simp only [f_X1_fillTracks_B18, if_neg (fun z => q ((cmp0 op).mp z)), if_neg (nle (show N < 2 ^ 30 by omega) hτ), eu, Option.bind_some, eC, nI_1]
        · rw [show τ + 1 + f = τ + (f + 1) by omega, hf]
          apply lp_step
          simp only [f_X4_fill_B27, if_neg (nle (show N < 2 ^ 30 by omega) hlt), er0, Option.bind_some, eM, nI_1]
        · rw [bl_and, bl_not tk (show i < 64 by omega)]
          rcases s1 i hi with ⟨a, -, b, c⟩ | ⟨a, b, c⟩
          · right
            rw [a]
            exact ⟨by simp, τ, by omega, b, c⟩
          · rw [a, b, c]
            rcases h1 i hi with ⟨d, e⟩ | ⟨d, v, hv, e1, e2⟩
            · exact Or.inl ⟨by rw [d]; rfl, e⟩
            · exact Or.inr ⟨by rw [d]; rfl, v, by omega, e1, e2⟩
        · rw [bl_and, h2 i hi hi2]; rfl
        · have cas : ∀ i, i < N → bl (op &&& (tk ^^^ (-1))) i = false → (bl tk i = true ∧ tC' i = nI τ) ∨ (bl op i = false ∧ tC' i = tC i ∧ ∃ v, v < τ ∧ tC i = nI v) := fun i hi hb => by
            rcases s1 i hi with ⟨a, -, b, c⟩ | ⟨a, b, c⟩
            · exact Or.inl ⟨a, c⟩
            · rw [bl_and, bl_not tk (show i < 64 by omega), a] at hb
              have hb' : bl op i = false := by
                cases d : bl op i with
                | false => rfl
                | true => rw [d] at hb; cases hb
              rcases h1 i hi with ⟨d, -⟩ | ⟨-, v, hv, -, e2⟩
              · rw [hb'] at d; cases d
              · exact Or.inr ⟨hb', c, v, hv, e2⟩
          rcases cas i hi hbi with ⟨a, a'⟩ | ⟨a, a', v, hv, a''⟩
          · rcases cas j hj hbj with ⟨b, b'⟩ | ⟨b, b', w, hw, b''⟩
            · exact s7 i j hi hj a b c c1 c2 c3 c4
            · rw [a', b', b''] at et
              have := (nI_inj (by omega) (by omega)).mp et
              omega
          · rcases cas j hj hbj with ⟨b, b'⟩ | ⟨b, b', w, hw, b''⟩
            · rw [a', a'', b'] at et
              have := (nI_inj (by omega) (by omega)).mp et
              omega
            · rw [a', b'] at et
              exact h4 i j hi hj a b et c c1 c2 c3 c4)
    (by
      intro s hI
      obtain ⟨op, tC, tM, rfl, hf, h1, h2, h3, h4⟩ := hI
      have hcp : cP tM N = N := by have := cP_le tM N; omega
      have hnm := cP_full N hcp
      have all : ∀ i, i < N → bl op i = false := fun i hi => by
        rcases h1 i hi with ⟨-, a⟩ | ⟨a, -⟩
        · exact absurd a (hnm i hi)
        · exact a
      have q : op = 0 := bl_ext (fun i hi => by
        rw [bl_0]
        rcases Nat.lt_or_ge i N with c | c
        · exact all i c
        · exact h2 i c hi)
      refine ⟨(tC, nI N), ?_, tC, N, tM, rfl, ?_, Nat.le_refl _, fun i hi => ?_, fun i j hi hj _ _ => h4 i j hi hj (all i hi) (all j hj)⟩
      · simp only [f_X1_fillTracks_B18, if_pos ((cmp0 op).mpr q)]
      · have := hf (63 - N + 1)
        rw [show N + (63 - N + 1) = 64 by omega] at this
        rw [this]
        apply lp_end
        simp only [f_X4_fill_B27, hcp, if_pos (yle (show N < 2 ^ 30 by omega))]
      · rcases h1 i hi with ⟨a, -⟩ | ⟨-, v, hv, a, b⟩
        · rw [all i hi] at a; cases a
        · exact ⟨v, hv, b, a⟩) 64 0 (((1 : Int64) <<< ((nI N).toInt64 &&& 63)) - 1, tC, 0) ⟨_, tC, tM1, rfl, fun f => by rw [Nat.zero_add, cP_none N hc]; rfl, fun i hi => Or.inl ⟨by rw [bl_mask N (by omega) i (by omega), decide_eq_true hi], hc i hi⟩, fun i hi hi2 => by rw [bl_mask N (by omega) i hi2]; exact decide_eq_false (by omega), Nat.zero_le _, fun i j hi hj hbi => by
        have hb2 : bl (((1 : Int64) <<< ((nI N).toInt64 &&& 63)) - 1) i = false := hbi
        rw [bl_mask N (by omega) i (by omega), decide_eq_true hi] at hb2
        cases hb2⟩ (Nat.zero_le _) (by omega)
  refine ⟨tC', bL', T, tM', ?_, ?_, hT, hv, hU⟩
  · unfold f_X1_fillTracks
    rw [es]
    simp only [Option.bind_some, e]
  · unfold f_X4_fill
    rw [ec]
    simp only [Option.bind_some, eM]

/-! the ring that is told -/
theorem least {P : Nat → Prop} : ∀ n, P n → ∃ m, m ≤ n ∧ P m ∧ ∀ k, k < m → ¬ P k := by
  intro n
  induction n using Nat.strongRecOn with
  | _ n ih =>
    intro h
    rcases Classical.em (∃ k, k < n ∧ P k) with ⟨k, hk, hp⟩ | hn
    · obtain ⟨m, h1, h2, h3⟩ := ih k hk hp
      exact ⟨m, by omega, h2, h3⟩
    · exact ⟨n, Nat.le_refl _, h, fun k hk hp => hn ⟨k, hk, hp⟩⟩
theorem php : ∀ (N m : Nat) (f : Nat → Nat), (∀ j, j < m → f j < N) → (∀ i j, i < m → j < m → f i = f j → i = j) → m ≤ N := by
  intro N
  induction N with
  | zero =>
    intro m f h _
    rcases Nat.eq_zero_or_pos m with q | q
    · omega
    · exact absurd (h 0 q) (Nat.not_lt_zero _)
  | succ N ih =>
    intro m f h inj
    match m with
    | 0 => exact Nat.zero_le _
    | m + 1 =>
      rcases Classical.em (∃ j, j < m + 1 ∧ f j = N) with ⟨j0, hj0, e0⟩ | hn
      · have := ih m (fun j => if j = j0 then f m else f j) (by
          intro j hj
          show (if j = j0 then f m else f j) < N
          by_cases e : j = j0
          · rw [if_pos e]
            have h1 := h m (by omega)
            rcases Nat.lt_or_ge (f m) N with q | q
            · exact q
            · have := inj m j0 (by omega) hj0 (by omega)
              omega
          · rw [if_neg e]
            have h1 := h j (by omega)
            rcases Nat.lt_or_ge (f j) N with q | q
            · exact q
            · have := inj j j0 (by omega) hj0 (by omega)
              omega) (by
          intro i j hi hj he
          replace he : (if i = j0 then f m else f i) = (if j = j0 then f m else f j) := he
          by_cases e1 : i = j0
          · by_cases e2 : j = j0
            · omega
            · rw [if_pos e1, if_neg e2] at he
              have := inj m j (by omega) (by omega) he
              omega
          · by_cases e2 : j = j0
            · rw [if_neg e1, if_pos e2] at he
              have := inj i m (by omega) (by omega) he
              omega
            · rw [if_neg e1, if_neg e2] at he
              exact inj i j (by omega) (by omega) he)
        omega
      · have := ih (m + 1) f (fun j hj => by
          have h1 := h j hj
          rcases Nat.lt_or_ge (f j) N with q | q
          · exact q
          · exact absurd ⟨j, hj, by omega⟩ hn) inj
        omega
/-- the fewest steps from x to t -/
def Ds (N : Nat) (bel : Nat → Int64) (t x n : Nat) : Prop := Wk N bel n x t ∧ ∀ m, m < n → ¬ Wk N bel m x t
theorem Ds_ex {N : Nat} {bel : Nat → Int64} {t x n : Nat} (h : Wk N bel n x t) : ∃ m, m ≤ n ∧ Ds N bel t x m := by
  obtain ⟨m, h1, h2, h3⟩ := least (P := fun n => Wk N bel n x t) n h
  exact ⟨m, h1, h2, h3⟩
theorem Ds_uniq {N : Nat} {bel : Nat → Int64} {t x n m : Nat} (h : Ds N bel t x n) (h' : Ds N bel t x m) : n = m := by
  rcases Nat.lt_trichotomy n m with q | q | q
  · exact absurd h.1 (h'.2 n q)
  · exact q
  · exact absurd h'.1 (h.2 m q)
theorem Ds_le {N : Nat} {bel : Nat → Int64} {t x n m : Nat} (h : Ds N bel t x n) (h' : Wk N bel m x t) : n ≤ m := by
  rcases Nat.lt_or_ge m n with q | q
  · exact absurd h' (h.2 m q)
  · exact q
theorem Ds_down {N : Nat} {bel : Nat → Int64} {t x n : Nat} (h : Ds N bel t x (n + 1)) : ∃ z, z < N ∧ bl (bel x) z = true ∧ Ds N bel t z n := by
  obtain ⟨⟨z, hz, hb, hw⟩, hm⟩ := h
  exact ⟨z, hz, hb, hw, fun m hmn hw' => hm (m + 1) (by omega) ⟨z, hz, hb, hw'⟩⟩
theorem Ds_zero {N : Nat} {bel : Nat → Int64} (t : Nat) : Ds N bel t t 0 := ⟨rfl, fun m hm => absurd hm (Nat.not_lt_zero _)⟩
theorem Ds_lt {N : Nat} {bel : Nat → Int64} {t x n : Nat} (hx : x < N) (h : Ds N bel t x n) : n < N := by
  have key : ∀ k j, j + k = n → ∃ z, z < N ∧ Ds N bel t z j := by
    intro k
    induction k with
    | zero => intro j hj; exact ⟨x, hx, by rw [Nat.add_zero] at hj; rw [hj]; exact h⟩
    | succ k ih =>
      intro j hj
      obtain ⟨z, hz, hd⟩ := ih (j + 1) (by omega)
      obtain ⟨y, hy, _, hd'⟩ := Ds_down hd
      exact ⟨y, hy, hd'⟩
  have ex : ∀ j, ∃ z, j < n + 1 → z < N ∧ Ds N bel t z j := fun j => by
    rcases Nat.lt_or_ge j (n + 1) with q | q
    · obtain ⟨z, hz⟩ := key (n - j) j (by omega)
      exact ⟨z, fun _ => hz⟩
    · exact ⟨0, fun w => absurd w (by omega)⟩
  have := php N (n + 1) (fun j => Classical.choose (ex j)) (fun j hj => (Classical.choose_spec (ex j) hj).1) (fun i j hi hj e => by
    have h1 := (Classical.choose_spec (ex i) hi).2
    have h2 := (Classical.choose_spec (ex j) hj).2
    have e' : Classical.choose (ex i) = Classical.choose (ex j) := e
    rw [e'] at h1
    exact Ds_uniq h1 h2)
  omega
/-- what both know of segment i -/
def ST (N : Nat) (bel : Nat → Int64) (t : Nat) (sC sM : Nat → Int32) : Prop := ∀ i, i < N → (sC i = -1 ∧ sM i = nI 100 ∧ ∀ n, ¬ Wk N bel n i t) ∨ ∃ n, n < N ∧ sC i = nI n ∧ sM i = nI n ∧ Ds N bel t i n
def Jr (N : Nat) (bel : Nat → Int64) (t s i : Nat) (v : Int32) : Prop := (v = -1 ∧ ∀ n, n ≤ s → ¬ Wk N bel n i t) ∨ ∃ n, n ≤ s ∧ v = nI n ∧ Ds N bel t i n
theorem and_ne0 {w u : Int64} : (lg_cmp (w &&& u) 0 = 0) ↔ ¬ ∃ z, z < 64 ∧ bl w z = true ∧ bl u z = true := by
  rw [cmp0]
  constructor
  · rintro h ⟨z, hz, h1, h2⟩
    have := (bl_ne0 (w &&& u)).mpr ⟨z, hz, by rw [bl_and, h1, h2]; rfl⟩
    exact this h
  · intro h
    apply Classical.byContradiction
    intro hn
    obtain ⟨z, hz, hb⟩ := (bl_ne0 (w &&& u)).mp hn
    rw [bl_and, Bool.and_eq_true] at hb
    exact h ⟨z, hz, hb.1, hb.2⟩
theorem steps_in {N : Nat} (hN : N ≤ 38) {bel : Nat → Int64} (hz : ∀ x, x < N → ∀ j, N ≤ j → bl (bel x) j = false) {t s : Nat} (hs : s < 38) {w0 : Int64} {st0 : Nat → Int32} (h0 : ∀ i, i < N → Jr N bel t s i (st0 i)) (hw0 : ∀ i, i < N → (bl w0 i = true ↔ ∃ n, n ≤ s ∧ Wk N bel n i t)) :
    ∃ w st, lp (f_X2_countStepsTo_B37 (nI (s + 1)) w0 bel (nI N)) 64 (w0, 0, st0) = some (w, st) ∧ (∀ i, i < N → Jr N bel t (s + 1) i (st i)) ∧ (∀ i, i < N → (bl w i = true ↔ ∃ n, n ≤ s + 1 ∧ Wk N bel n i t)) := by
  have mono : ∀ i, (∃ n, n ≤ s ∧ Wk N bel n i t) → ∃ n, n ≤ s + 1 ∧ Wk N bel n i t := fun i ⟨n, h1, h2⟩ => ⟨n, by omega, h2⟩
  obtain ⟨r, e, w, st, rfl, h1, h2⟩ := lp_inv (b := f_X2_countStepsTo_B37 (nI (s + 1)) w0 bel (nI N)) (fun i σ => ∃ w st, σ = (w, nI i, st) ∧ (∀ j, j < N → (j < i → Jr N bel t (s + 1) j (st j) ∧ (bl w j = true ↔ ∃ n, n ≤ s + 1 ∧ Wk N bel n j t)) ∧ (i ≤ j → Jr N bel t s j (st j) ∧ (bl w j = true ↔ ∃ n, n ≤ s ∧ Wk N bel n j t)))) N (fun r => ∃ w st, r = (w, st) ∧ (∀ i, i < N → Jr N bel t (s + 1) i (st i)) ∧ (∀ i, i < N → (bl w i = true ↔ ∃ n, n ≤ s + 1 ∧ Wk N bel n i t)))
    (by
      intro i σ hi hI
      obtain ⟨w, st, rfl, hI⟩ := hI
      left
      simp only [f_X2_countStepsTo_B37, if_neg (nle (show N < 2 ^ 30 by omega) hi), bnd_ok (show i < 38 by omega) (show 38 < 2 ^ 31 by decide), cl (show i < 2 ^ 31 by omega), nI_1]
      obtain ⟨hJ, hw⟩ := (hI i hi).2 (Nat.le_refl _)
      have keep : Jr N bel t (s + 1) i (st i) → ((∃ n, n ≤ s ∧ Wk N bel n i t) ↔ ∃ n, n ≤ s + 1 ∧ Wk N bel n i t) → ∃ s', some (Sum.inl (w, nI (i + 1), st) : (Int64 × Int32 × (Nat → Int32)) ⊕ (Int64 × (Nat → Int32))) = some (.inl s') ∧ ∃ w st, s' = (w, nI (i + 1), st) ∧ (∀ j, j < N → (j < i + 1 → Jr N bel t (s + 1) j (st j) ∧ (bl w j = true ↔ ∃ n, n ≤ s + 1 ∧ Wk N bel n j t)) ∧ (i + 1 ≤ j → Jr N bel t s j (st j) ∧ (bl w j = true ↔ ∃ n, n ≤ s ∧ Wk N bel n j t))) := by
        intro k1 k2
        refine ⟨_, rfl, w, st, rfl, fun j hj => ⟨fun hji => ?_, fun hji => (hI j hj).2 (by omega)⟩⟩
        by_cases e : j = i
        · subst e; exact ⟨k1, hw.trans k2⟩
        · exact (hI j hj).1 (by omega)
      rcases hJ with ⟨hv, hno⟩ | ⟨n, hn, hv, hd⟩
      · rw [if_pos hv]
        by_cases q : ∃ z, z < 64 ∧ bl (bel i) z = true ∧ bl w0 z = true
        · rw [if_neg (fun z => and_ne0.mp z q)]
          obtain ⟨z, hz64, hb, hb0⟩ := q
          have hzN : z < N := by
            rcases Nat.lt_or_ge z N with q | q
            · exact q
            · rw [hz i hi z q] at hb; cases hb
          obtain ⟨n, hn, hwk⟩ := (hw0 z hzN).mp hb0
          have hwi : Wk N bel (n + 1) i t := ⟨z, hzN, hb, hwk⟩
          have hns : n = s := by
            rcases Nat.lt_or_ge n s with q | q
            · exact absurd hwi (hno (n + 1) (by omega))
            · omega
          subst hns
          refine ⟨_, rfl, _, _, rfl, fun j hj => ⟨fun hji => ?_, fun hji => ?_⟩⟩
          · by_cases e : j = i
            · subst e
              rw [ui, if_pos rfl, bl_or, bl_one j (by omega) j (by omega)]
              refine ⟨Or.inr ⟨n + 1, Nat.le_refl _, rfl, hwi, fun m hm => hno m (by omega)⟩, ?_⟩
              simp only [decide_true, Bool.or_true, true_iff]
              exact ⟨n + 1, Nat.le_refl _, hwi⟩
            · rw [ui, if_neg e, bl_or, bl_one i (by omega) j (by omega), decide_eq_false e, Bool.or_false]
              exact (hI j hj).1 (by omega)
          · have e : ¬ j = i := by omega
            rw [ui, if_neg e, bl_or, bl_one i (by omega) j (by omega), decide_eq_false e, Bool.or_false]
            exact (hI j hj).2 (by omega)
        · rw [if_pos (and_ne0.mpr q)]
          have hno' : ∀ n, n ≤ s + 1 → ¬ Wk N bel n i t := by
            intro n hn hwk
            rcases Nat.lt_or_ge s n with q1 | q1
            · obtain rfl : n = s + 1 := by omega
              obtain ⟨z, hzN, hb, hwz⟩ := hwk
              exact q ⟨z, by omega, hb, (hw0 z hzN).mpr ⟨s, Nat.le_refl _, hwz⟩⟩
            · exact hno n q1 hwk
          exact keep (Or.inl ⟨hv, hno'⟩) ⟨mono i, fun ⟨n, h1, h2⟩ => absurd h2 (hno' n h1)⟩
      · rw [if_neg (by rw [hv]; exact nI_ne_m1 (by omega))]
        exact keep (Or.inr ⟨n, by omega, hv, hd⟩) ⟨mono i, fun _ => ⟨n, hn, hd.1⟩⟩)
    (by
      intro σ hI
      obtain ⟨w, st, rfl, hI⟩ := hI
      exact ⟨(w, st), by simp only [f_X2_countStepsTo_B37, if_pos (yle (show N < 2 ^ 30 by omega))], w, st, rfl, fun i hi => ((hI i hi).1 hi).1, fun i hi => ((hI i hi).1 hi).2⟩) 64 0 (w0, 0, st0) ⟨w0, st0, rfl, fun j hj => ⟨fun h => absurd h (Nat.not_lt_zero _), fun _ => ⟨h0 j hj, hw0 j hj⟩⟩⟩ (Nat.zero_le _) (by omega)
  exact ⟨w, st, e, h1, h2⟩
theorem steps_c {N : Nat} (hN : N ≤ 38) {bel : Nat → Int64} (hz : ∀ x, x < N → ∀ j, N ≤ j → bl (bel x) j = false) {t : Nat} (ht : t < N) (st : Nat → Int32) : ∃ st', f_X2_countStepsTo st bel (nI N) (nI t) = some st' ∧ ∀ i, i < N → Jr N bel t (N - 1) i (st' i) := by
  obtain ⟨r, e, h⟩ := lp_inv (b := f_X2_countStepsTo_B22 bel (nI N)) (fun s σ => ∃ w st, σ = (w, nI (s + 1), st) ∧ (∀ i, i < N → Jr N bel t s i (st i)) ∧ (∀ i, i < N → (bl w i = true ↔ ∃ n, n ≤ s ∧ Wk N bel n i t))) (N - 1) (fun st' => ∀ i, i < N → Jr N bel t (N - 1) i (st' i))
    (by
      intro s σ hs hI
      obtain ⟨w, st, rfl, h1, h2⟩ := hI
      left
      obtain ⟨w', st', e, h3, h4⟩ := steps_in hN hz (show s < 38 by omega) h1 h2
      simp only [f_X2_countStepsTo_B22, if_neg (nle (show N < 2 ^ 30 by omega) (show s + 1 < N by omega)), e, Option.bind_some, nI_1]
      exact ⟨_, rfl, w', st', rfl, h3, h4⟩)
    (by
      intro σ hI
      obtain ⟨w, st, rfl, h1, h2⟩ := hI
      refine ⟨st, ?_, h1⟩
      rw [show N - 1 + 1 = N by omega]
      simp only [f_X2_countStepsTo_B22, if_pos (yle (show N < 2 ^ 30 by omega))]) 64 0 ((1 : Int64) <<< ((nI t).toInt64 &&& 63), 1, upd (fun j => if j < 38 then -1 else st j) t 0) ⟨_, _, rfl, fun i hi => by
        rw [ui]
        by_cases e : i = t
        · subst e; rw [if_pos rfl]; exact Or.inr ⟨0, Nat.le_refl _, rfl, Ds_zero i⟩
        · rw [if_neg e, if_pos (by omega)]
          refine Or.inl ⟨rfl, fun n hn hw => ?_⟩
          obtain rfl : n = 0 := by omega
          exact e hw, fun i hi => by
        rw [bl_one t (by omega) i (by omega), decide_eq_true_eq]
        constructor
        · intro e; exact ⟨0, Nat.le_refl _, e⟩
        · rintro ⟨n, hn, hw⟩
          obtain rfl : n = 0 := by omega
          exact hw⟩ (Nat.zero_le _) (by omega)
  refine ⟨r, ?_, h⟩
  unfold f_X2_countStepsTo
  rw [fillI_c]
  simp only [Option.bind_some, bnd_ok (show t < 38 by omega) (show 38 < 2 ^ 31 by decide), cl (show t < 2 ^ 31 by omega), e]
/-- the reference's: v i is never too small, and right after enough rounds -/
def Mv (N : Nat) (bel : Nat → Int64) (t r x : Nat) (v : Nat → Nat) : Prop := ∀ i, i < N → v i ≤ 100 ∧ (v i < 100 → Wk N bel (v i) i t) ∧ (∀ n, n ≤ r → Ds N bel t i n → v i ≤ n) ∧ (i < x → ∀ n, n ≤ r + 1 → Ds N bel t i n → v i ≤ n)
def Rp (N : Nat) (st : Nat → Int32) (v : Nat → Nat) : Prop := ∀ i, i < N → st i = nI (v i)
theorem msteps_y {N : Nat} (hN : N ≤ 38) {bel belM : Nat → Int64} (hM : ∀ x, x < N → belM x = bel x) {t r x : Nat} (hx : x < N) {st : Nat → Int32} {v : Nat → Nat} (h0 : Rp N st v) (h1 : Mv N bel t r x v) : ∃ st' v', lp (f_X4_countSteps_B56 (nI x) (nI N) belM) 64 (0, st) = some st' ∧ Rp N st' v' ∧ Mv N bel t r (x + 1) v' := by
  obtain ⟨s, e, v', g1, g2⟩ := lp_inv (b := f_X4_countSteps_B56 (nI x) (nI N) belM) (fun y σ => ∃ st v, σ = (nI y, st) ∧ Rp N st v ∧ Mv N bel t r x v ∧ ∀ z, z < y → bl (bel x) z = true → Ds N bel t z r → v x ≤ r + 1) N (fun st => ∃ v, Rp N st v ∧ Mv N bel t r (x + 1) v)
    (by
      intro y σ hy hI
      obtain ⟨st, v, rfl, hR, hV, hS⟩ := hI
      left
      obtain ⟨vx1, vx2, vx3, vx4⟩ := hV x hx
      obtain ⟨vy1, vy2, vy3, vy4⟩ := hV y hy
      have keep : (bl (bel x) y = true → Ds N bel t y r → v x ≤ r + 1) → ∃ s', f_X4_countSteps_J101 st (nI x) (nI y) = some (.inl s') ∧ ∃ st v, s' = (nI (y + 1), st) ∧ Rp N st v ∧ Mv N bel t r x v ∧ ∀ z, z < y + 1 → bl (bel x) z = true → Ds N bel t z r → v x ≤ r + 1 := by
        intro hk
        simp only [f_X4_countSteps_J101, f_X4_countSteps_J102, if_true, bnd_ok (show x < 40 by omega) (show 40 < 2 ^ 31 by decide), cl (show x < 2 ^ 31 by omega), uI_self, nI_1]
        refine ⟨_, rfl, st, v, rfl, hR, hV, fun z hz => ?_⟩
        by_cases e : z = y
        · subst e; exact hk
        · exact hS z (by omega)
      simp only [f_X4_countSteps_B56, if_neg (nle (show N < 2 ^ 30 by omega) hy), bnd_ok (show x < 40 by omega) (show 40 < 2 ^ 31 by decide), bnd_ok (show y < 40 by omega) (show 40 < 2 ^ 31 by decide), cl (show x < 2 ^ 31 by omega), cl (show y < 2 ^ 31 by omega), hM x hx, has_eq _ (show y < 64 by omega), Option.bind_some, hR x hx, hR y hy, nI_1]
      cases q : bl (bel x) y with
      | false =>
        simp only [Bool.false_eq_true, if_false, if_true]
        exact keep (fun z => by rw [q] at z; cases z)
      | true =>
        simp only [if_true, show ¬ ((1 : Int32) = 0) from by decide, if_false]
        simp only [nI_le_iff (show v x < 2 ^ 31 by omega) (show v y + 1 < 2 ^ 31 by omega)]
        by_cases c : v x ≤ v y + 1
        · rw [if_pos c]
          refine keep (fun _ hd => ?_)
          have := vy3 r (Nat.le_refl _) hd
          omega
        · rw [if_neg c]
          simp only [f_X4_countSteps_J102, show ¬ ((1 : Int32) = 0) from by decide, if_false, bnd_ok (show x < 40 by omega) (show 40 < 2 ^ 31 by decide), bnd_ok (show y < 40 by omega) (show 40 < 2 ^ 31 by decide), cl (show x < 2 ^ 31 by omega), cl (show y < 2 ^ 31 by omega), hR y hy, nI_1]
          refine ⟨_, rfl, _, fun i => if i = x then v y + 1 else v i, rfl, ?_, ?_, ?_⟩
          · intro i hi
            show upd st x (nI (v y + 1)) i = nI (if i = x then v y + 1 else v i)
            rw [ui]
            by_cases e : i = x
            · rw [if_pos e, if_pos e]
            · rw [if_neg e, if_neg e]; exact hR i hi
          · intro i hi
            show (if i = x then v y + 1 else v i) ≤ 100 ∧ ((if i = x then v y + 1 else v i) < 100 → Wk N bel (if i = x then v y + 1 else v i) i t) ∧ (∀ n, n ≤ r → Ds N bel t i n → (if i = x then v y + 1 else v i) ≤ n) ∧ (i < x → ∀ n, n ≤ r + 1 → Ds N bel t i n → (if i = x then v y + 1 else v i) ≤ n)
            by_cases e : i = x
            · subst e
              rw [if_pos rfl]
              refine ⟨by omega, fun _ => ⟨y, hy, q, vy2 (by omega)⟩, fun n hn hd => ?_, fun w => absurd w (Nat.lt_irrefl _)⟩
              have := vx3 n hn hd
              omega
            · rw [if_neg e]
              exact hV i hi
          · intro z hz hb hd
            show (if x = x then v y + 1 else v x) ≤ r + 1
            rw [if_pos rfl]
            by_cases e : z = y
            · subst e
              have := vy3 r (Nat.le_refl _) hd
              omega
            · have := hS z (by omega) hb hd
              omega)
    (by
      intro σ hI
      obtain ⟨st, v, rfl, hR, hV, hS⟩ := hI
      refine ⟨st, by simp only [f_X4_countSteps_B56, if_pos (yle (show N < 2 ^ 30 by omega))], v, hR, fun i hi => ?_⟩
      obtain ⟨v1, v2, v3, v4⟩ := hV i hi
      refine ⟨v1, v2, v3, fun hix n hn hd => ?_⟩
      by_cases e : i = x
      · subst e
        rcases Nat.lt_or_ge r n with q | q
        · obtain rfl : n = r + 1 := by omega
          obtain ⟨z, hz, hb, hd'⟩ := Ds_down hd
          exact hS z hz hb hd'
        · exact v3 n q hd
      · exact v4 (by omega) n hn hd) 64 0 (0, st) ⟨st, v, rfl, h0, h1, fun z hz => absurd hz (Nat.not_lt_zero _)⟩ (Nat.zero_le _) (by omega)
  exact ⟨s, v', e, g1, g2⟩
theorem msteps_x {N : Nat} (hN : N ≤ 38) {bel belM : Nat → Int64} (hM : ∀ x, x < N → belM x = bel x) {t r : Nat} {st : Nat → Int32} {v : Nat → Nat} (h0 : Rp N st v) (h1 : Mv N bel t r 0 v) : ∃ st' v', lp (f_X4_countSteps_B45 (nI N) belM) 64 (0, st) = some st' ∧ Rp N st' v' ∧ Mv N bel t (r + 1) 0 v' := by
  obtain ⟨s, e, v', g1, g2⟩ := lp_inv (b := f_X4_countSteps_B45 (nI N) belM) (fun x σ => ∃ st v, σ = (nI x, st) ∧ Rp N st v ∧ Mv N bel t r x v) N (fun st => ∃ v, Rp N st v ∧ Mv N bel t (r + 1) 0 v)
    (by
      intro x σ hx hI
      obtain ⟨st, v, rfl, hR, hV⟩ := hI
      left
      obtain ⟨st', v', e, hR', hV'⟩ := msteps_y hN hM hx hR hV
      simp only [f_X4_countSteps_B45, if_neg (nle (show N < 2 ^ 30 by omega) hx), e, Option.bind_some, nI_1]
      exact ⟨_, rfl, st', v', rfl, hR', hV'⟩)
    (by
      intro σ hI
      obtain ⟨st, v, rfl, hR, hV⟩ := hI
      exact ⟨st, by simp only [f_X4_countSteps_B45, if_pos (yle (show N < 2 ^ 30 by omega))], v, hR, fun i hi => ⟨(hV i hi).1, (hV i hi).2.1, (hV i hi).2.2.2 hi, fun w => absurd w (Nat.not_lt_zero _)⟩⟩) 64 0 (0, st) ⟨st, v, rfl, h0, h1⟩ (Nat.zero_le _) (by omega)
  exact ⟨s, v', e, g1, g2⟩
theorem msteps_0 {N : Nat} (hN : N ≤ 38) {t : Nat} (ht : t < N) (st : Nat → Int32) : ∃ st', lp (f_X4_countSteps_B2 (nI t) (nI N)) 64 (0, st) = some st' ∧ Rp N st' (fun i => if i = t then 0 else 100) := by
  obtain ⟨r, e, h⟩ := lp_inv (b := f_X4_countSteps_B2 (nI t) (nI N)) (fun i σ => ∃ st, σ = (nI i, st) ∧ ∀ j, j < i → st j = nI (if j = t then 0 else 100)) N (fun st => Rp N st (fun i => if i = t then 0 else 100))
    (by
      intro i σ hi hI
      obtain ⟨st, rfl, hs⟩ := hI
      left
      simp only [f_X4_countSteps_B2, if_neg (nle (show N < 2 ^ 30 by omega) hi), bnd_ok (show i < 40 by omega) (show 40 < 2 ^ 31 by decide), cl (show i < 2 ^ 31 by omega), nI_1, nI_inj (show i < 2 ^ 31 by omega) (show t < 2 ^ 31 by omega)]
      by_cases q : i = t
      · rw [if_pos q]
        refine ⟨_, rfl, _, rfl, fun j hj => ?_⟩
        rw [ui]
        by_cases e : j = i
        · rw [if_pos e, if_pos (by omega)]; rfl
        · rw [if_neg e]; exact hs j (by omega)
      · rw [if_neg q]
        refine ⟨_, rfl, _, rfl, fun j hj => ?_⟩
        rw [ui]
        by_cases e : j = i
        · rw [if_pos e, if_neg (by omega)]; rfl
        · rw [if_neg e]; exact hs j (by omega))
    (by
      intro σ hI
      obtain ⟨st, rfl, hs⟩ := hI
      exact ⟨st, by simp only [f_X4_countSteps_B2, if_pos (yle (show N < 2 ^ 30 by omega))], hs⟩) 64 0 (0, st) ⟨st, rfl, fun j hj => absurd hj (Nat.not_lt_zero _)⟩ (Nat.zero_le _) (by omega)
  exact ⟨r, e, h⟩
theorem steps_m {N : Nat} (hN : N ≤ 38) {bel belM : Nat → Int64} (hM : ∀ x, x < N → belM x = bel x) {t : Nat} (ht : t < N) (st : Nat → Int32) : ∃ st' v, f_X4_countSteps (nI N) belM st (nI t) = some st' ∧ Rp N st' v ∧ Mv N bel t N 0 v := by
  obtain ⟨st1, e1, h1⟩ := msteps_0 hN ht st
  obtain ⟨r, e, v, g1, g2⟩ := lp_inv (b := f_X4_countSteps_B35 (nI N) belM) (fun r σ => ∃ st v, σ = (nI r, st) ∧ Rp N st v ∧ Mv N bel t r 0 v) N (fun st => ∃ v, Rp N st v ∧ Mv N bel t N 0 v)
    (by
      intro r σ hr hI
      obtain ⟨st, v, rfl, hR, hV⟩ := hI
      left
      obtain ⟨st', v', e, hR', hV'⟩ := msteps_x hN hM hR hV
      simp only [f_X4_countSteps_B35, if_neg (nle (show N < 2 ^ 30 by omega) hr), e, Option.bind_some, nI_1]
      exact ⟨_, rfl, st', v', rfl, hR', hV'⟩)
    (by
      intro σ hI
      obtain ⟨st, v, rfl, hR, hV⟩ := hI
      exact ⟨st, by simp only [f_X4_countSteps_B35, if_pos (yle (show N < 2 ^ 30 by omega))], v, hR, hV⟩) 64 0 (0, st1) ⟨st1, _, rfl, h1, fun i hi => by
        show (if i = t then 0 else 100) ≤ 100 ∧ ((if i = t then 0 else 100) < 100 → Wk N bel (if i = t then 0 else 100) i t) ∧ (∀ n, n ≤ 0 → Ds N bel t i n → (if i = t then 0 else 100) ≤ n) ∧ (i < 0 → ∀ n, n ≤ 0 + 1 → Ds N bel t i n → (if i = t then 0 else 100) ≤ n)
        by_cases e : i = t
        · rw [if_pos e]
          exact ⟨by omega, fun _ => e, fun n _ _ => Nat.zero_le _, fun w => absurd w (Nat.not_lt_zero _)⟩
        · rw [if_neg e]
          refine ⟨by omega, fun w => absurd w (by omega), fun n hn hd => ?_, fun w => absurd w (Nat.not_lt_zero _)⟩
          obtain rfl : n = 0 := by omega
          exact absurd hd.1 e⟩ (Nat.zero_le _) (by omega)
  refine ⟨r, v, ?_, g1, g2⟩
  unfold f_X4_countSteps
  rw [e1]
  simp only [Option.bind_some, e]
theorem steps {N : Nat} (hN : N ≤ 38) {bel belM : Nat → Int64} (hz : ∀ x, x < N → ∀ j, N ≤ j → bl (bel x) j = false) (hM : ∀ x, x < N → belM x = bel x) {t : Nat} (ht : t < N) (sC sM : Nat → Int32) : ∃ sC' sM', f_X2_countStepsTo sC bel (nI N) (nI t) = some sC' ∧ f_X4_countSteps (nI N) belM sM (nI t) = some sM' ∧ ST N bel t sC' sM' := by
  obtain ⟨sC', e1, h1⟩ := steps_c hN hz ht sC
  obtain ⟨sM', v, e2, h2, h3⟩ := steps_m hN hM ht sM
  refine ⟨sC', sM', e1, e2, fun i hi => ?_⟩
  obtain ⟨v1, v2, v3, -⟩ := h3 i hi
  rcases h1 i hi with ⟨hv, hno⟩ | ⟨n, hn, hv, hd⟩
  · have hno' : ∀ n, ¬ Wk N bel n i t := by
      intro n hw
      obtain ⟨m, -, hd⟩ := Ds_ex hw
      have := Ds_lt hi hd
      exact hno m (by omega) hd.1
    refine Or.inl ⟨hv, ?_, hno'⟩
    rw [h2 i hi]
    congr 1
    rcases Nat.lt_or_ge (v i) 100 with q | q
    · exact absurd (v2 q) (hno' _)
    · omega
  · refine Or.inr ⟨n, by omega, hv, ?_, hd⟩
    rw [h2 i hi]
    congr 1
    have := v3 n (by omega) hd
    have := Ds_le hd (v2 (by omega))
    omega
theorem nearest {N : Nat} (hN : N ≤ 38) {bel belM : Nat → Int64} (hM : ∀ x, x < N → belM x = bel x) {t : Nat} {sC sM : Nat → Int32} (hS : ST N bel t sC sM) {at' : Nat} (ha : at' < N) {k : Nat} (hex : ∃ y, y < N ∧ bl (bel at') y = true ∧ Ds N bel t y k) (hmin : ∀ z, z < N → bl (bel at') z = true → ∀ m, Ds N bel t z m → k ≤ m) :
    ∃ y, f_X2_nearestBelow sC bel (nI N) (nI at') = some (nI y) ∧ lp (f_X4_tellRing_B44 (nI at') (nI N) belM sM) 64 ((-1), 0) = some (nI y) ∧ y < N ∧ Ds N bel t y k := by
  obtain ⟨r, r', e1, e2, j, n, hj, hr, hr', hb, hd, hmn⟩ := lp_two (b := f_X2_nearestBelow_B5 (nI at') sC bel (nI N)) (b' := f_X4_tellRing_B44 (nI at') (nI N) belM sM)
    (fun i s s' => ∃ x3 x4, s = (x3, nI i) ∧ s' = (x4, nI i) ∧ ((x3 = -1 ∧ (∀ z, z < i → bl (bel at') z = true → ∀ m, ¬ Ds N bel t z m) ∧ (x4 = -1 ∨ ∃ j, j < i ∧ x4 = nI j ∧ sM j = nI 100)) ∨ ∃ j n, j < i ∧ x3 = nI j ∧ x4 = nI j ∧ bl (bel at') j = true ∧ Ds N bel t j n ∧ ∀ z, z < i → bl (bel at') z = true → ∀ m, Ds N bel t z m → n ≤ m))
    N (fun r r' => ∃ j n, j < N ∧ r = nI j ∧ r' = nI j ∧ bl (bel at') j = true ∧ Ds N bel t j n ∧ ∀ z, z < N → bl (bel at') z = true → ∀ m, Ds N bel t z m → n ≤ m)
    (by
      intro i s s' hi hI
      obtain ⟨x3, x4, rfl, rfl, hI⟩ := hI
      simp only [f_X2_nearestBelow_B5, f_X4_tellRing_B44, if_neg (nle (show N < 2 ^ 30 by omega) hi), bnd_ok (show at' < 38 by omega) (show 38 < 2 ^ 31 by decide), bnd_ok (show at' < 40 by omega) (show 40 < 2 ^ 31 by decide), bnd_ok (show i < 38 by omega) (show 38 < 2 ^ 31 by decide), bnd_ok (show i < 40 by omega) (show 40 < 2 ^ 31 by decide), cl (show at' < 2 ^ 31 by omega), cl (show i < 2 ^ 31 by omega), hM at' ha, isIn_eq _ (show i < 64 by omega), has_eq _ (show i < 64 by omega), Option.bind_some, nI_1]
      cases q : bl (bel at') i with
      | false =>
        simp only [Bool.false_eq_true, if_false, if_true]
        refine ⟨_, _, rfl, rfl, x3, x4, rfl, rfl, ?_⟩
        rcases hI with ⟨h1, h2, h3⟩ | ⟨j, n, h1, h2, h3, h4, h5, h6⟩
        · refine Or.inl ⟨h1, fun z hz hb => ?_, ?_⟩
          · by_cases e : z = i
            · subst e; rw [q] at hb; cases hb
            · exact h2 z (by omega) hb
          · rcases h3 with h3 | ⟨j, h3, h4⟩
            · exact Or.inl h3
            · exact Or.inr ⟨j, by omega, h4⟩
        · refine Or.inr ⟨j, n, by omega, h2, h3, h4, h5, fun z hz hb => ?_⟩
          by_cases e : z = i
          · subst e; rw [q] at hb; cases hb
          · exact h6 z (by omega) hb
      | true =>
        simp only [if_true, show ¬ ((1 : Int32) = 0) from by decide, if_false]
        rcases hS i hi with ⟨u1, u2, u3⟩ | ⟨n, hn, u1, u2, u3⟩
        · have un : ∀ m, ¬ Ds N bel t i m := fun m hd => u3 m hd.1
          rw [if_pos u1]
          rcases hI with ⟨h1, h2, h3⟩ | ⟨j, n, h1, h2, h3, h4, h5, h6⟩
          · have hno : ∀ z, z < i + 1 → bl (bel at') z = true → ∀ m, ¬ Ds N bel t z m := fun z hz hb => by
              by_cases e : z = i
              · subst e; exact un
              · exact h2 z (by omega) hb
            rcases h3 with h3 | ⟨j, h3, h4, h5⟩
            · rw [h3, if_pos m1_lt0]
              exact ⟨_, _, rfl, rfl, x3, nI i, rfl, rfl, Or.inl ⟨h1, hno, Or.inr ⟨i, by omega, rfl, u2⟩⟩⟩
            · rw [h4, if_neg (nI_nlt0 (show j < 2 ^ 31 by omega)), bnd_ok (show j < 40 by omega) (show 40 < 2 ^ 31 by decide), cl (show j < 2 ^ 31 by omega), h5, u2, if_pos (by decide)]
              exact ⟨_, _, rfl, rfl, x3, nI j, rfl, rfl, Or.inl ⟨h1, hno, Or.inr ⟨j, by omega, rfl, h5⟩⟩⟩
          · have hjN : j < N := by omega
            have hnN := Ds_lt hjN h5
            rcases hS j hjN with ⟨-, -, w3⟩ | ⟨n', -, w1, w2, w3⟩
            · exact absurd h5.1 (w3 n)
            · obtain rfl := Ds_uniq h5 w3
              rw [h3, if_neg (nI_nlt0 (show j < 2 ^ 31 by omega)), bnd_ok (show j < 40 by omega) (show 40 < 2 ^ 31 by decide), cl (show j < 2 ^ 31 by omega), w2, u2, if_pos ((nI_le_iff (by omega) (by omega)).mpr (by omega))]
              refine ⟨_, _, rfl, rfl, x3, nI j, rfl, rfl, Or.inr ⟨j, n, by omega, h2, rfl, h4, h5, fun z hz hb => ?_⟩⟩
              by_cases e : z = i
              · subst e; intro m hm; exact absurd hm (un m)
              · exact h6 z (by omega) hb
        · rw [if_neg (by rw [u1]; exact nI_ne_m1 (by omega))]
          rcases hI with ⟨h1, h2, h3⟩ | ⟨j, n', h1, h2, h3, h4, h5, h6⟩
          · have new : ∀ z, z < i + 1 → bl (bel at') z = true → ∀ m, Ds N bel t z m → n ≤ m := fun z hz hb m hm => by
              by_cases e : z = i
              · subst e; have := Ds_uniq u3 hm; omega
              · exact absurd hm (h2 z (by omega) hb m)
            rw [if_pos h1]
            rcases h3 with h3 | ⟨j, h3, h4, h5⟩
            · rw [h3, if_pos m1_lt0]
              exact ⟨_, _, rfl, rfl, nI i, nI i, rfl, rfl, Or.inr ⟨i, n, by omega, rfl, rfl, q, u3, new⟩⟩
            · rw [h4, if_neg (nI_nlt0 (show j < 2 ^ 31 by omega)), bnd_ok (show j < 40 by omega) (show 40 < 2 ^ 31 by decide), cl (show j < 2 ^ 31 by omega), h5, u2, if_neg (fun w => by have := (nI_le_iff (by omega) (by omega)).mp w; omega)]
              exact ⟨_, _, rfl, rfl, nI i, nI i, rfl, rfl, Or.inr ⟨i, n, by omega, rfl, rfl, q, u3, new⟩⟩
          · have hjN : j < N := by omega
            have hnN := Ds_lt hjN h5
            rcases hS j hjN with ⟨-, -, w3⟩ | ⟨n'', -, w1, w2, w3⟩
            · exact absurd h5.1 (w3 n')
            · obtain rfl := Ds_uniq h5 w3
              rw [h2, h3, if_neg (nI_ne_m1 (show j < 2 ^ 31 by omega)), if_neg (nI_nlt0 (show j < 2 ^ 31 by omega)), bnd_ok (show j < 40 by omega) (show 40 < 2 ^ 31 by decide), bnd_ok (show j < 38 by omega) (show 38 < 2 ^ 31 by decide), cl (show j < 2 ^ 31 by omega), w1, w2, u1, u2]
              by_cases c : n' ≤ n
              · rw [if_pos ((nI_le_iff (by omega) (by omega)).mpr c)]
                refine ⟨_, _, rfl, rfl, nI j, nI j, rfl, rfl, Or.inr ⟨j, n', by omega, rfl, rfl, h4, h5, fun z hz hb m hm => ?_⟩⟩
                by_cases e : z = i
                · subst e; have := Ds_uniq u3 hm; omega
                · exact h6 z (by omega) hb m hm
              · rw [if_neg (fun w => c ((nI_le_iff (by omega) (by omega)).mp w))]
                refine ⟨_, _, rfl, rfl, nI i, nI i, rfl, rfl, Or.inr ⟨i, n, by omega, rfl, rfl, q, u3, fun z hz hb m hm => ?_⟩⟩
                by_cases e : z = i
                · subst e; have := Ds_uniq u3 hm; omega
                · have := h6 z (by omega) hb m hm; omega)
    (by
      intro s s' hI
      obtain ⟨x3, x4, rfl, rfl, hI⟩ := hI
      refine ⟨x3, x4, by simp only [f_X2_nearestBelow_B5, if_pos (yle (show N < 2 ^ 30 by omega))], by simp only [f_X4_tellRing_B44, if_pos (yle (show N < 2 ^ 30 by omega))], ?_⟩
      rcases hI with ⟨h1, h2, h3⟩ | h
      · obtain ⟨y, hy, hb, hd⟩ := hex
        exact absurd hd (h2 y hy hb k)
      · exact h) 64 64 0 ((-1), 0) ((-1), 0) ⟨-1, -1, rfl, rfl, Or.inl ⟨rfl, fun z hz => absurd hz (Nat.not_lt_zero _), Or.inl rfl⟩⟩ (Nat.zero_le _) (by omega) (by omega)
  refine ⟨j, ?_, by rw [e2, hr'], hj, ?_⟩
  · unfold f_X2_nearestBelow
    rw [e1, hr]
    rfl
  · obtain ⟨y, hy, hby, hdy⟩ := hex
    have h1 := hmn y hy hby k hdy
    have h2 := hmin j hj hb n hd
    obtain rfl : n = k := by omega
    exact hd
theorem tells {N : Nat} (hN : N ≤ 38) {bel belM : Nat → Int64} (hM : ∀ x, x < N → belM x = bel x) {t : Nat} (ht : t < N) {sC sM : Nat → Int32} (hS : ST N bel t sC sM) : ∀ (k at' j : Nat) (told ringOf : Nat → Int32) (f f' : Nat), at' < N → (∃ y, y < N ∧ bl (bel at') y = true ∧ Ds N bel t y k) → (∀ z, z < N → bl (bel at') z = true → ∀ m, Ds N bel t z m → k ≤ m) → j + k < N → (∀ i, i < j → told i = ringOf i) → k + 1 ≤ f → k + 2 ≤ f' → ∃ told' ringOf', lp (f_X2_tell_B25 (nI t) sC bel (nI N)) f (nI at', told, nI j) = some (told', nI (j + k + 1)) ∧ lp (f_X4_tellRing_B14 (nI t) (nI N) belM sM) f' (nI at', 1, nI j, ringOf) = some (nI (j + k + 1), ringOf') ∧ ∀ i, i < j + k + 1 → told' i = ringOf' i := by
  intro k
  induction k with
  | zero =>
    intro at' j told ringOf f f' ha hex hmin hj heq hf hf'
    obtain ⟨y, e1, e2, hy, hd⟩ := nearest hN hM hS ha hex hmin
    obtain rfl : y = t := hd.1
    match f, hf with
    | f + 1, _ =>
    match f', hf' with
    | f' + 2, _ =>
    refine ⟨upd told j (nI at'), upd ringOf j (nI at'), ?_, ?_, fun i hi => ?_⟩
    · unfold lp
      simp only [f_X2_tell_B25, bnd_ok (show j < 38 by omega) (show 38 < 2 ^ 31 by decide), cl (show j < 2 ^ 31 by omega), e1, Option.bind_some, if_true, nI_1]
    · unfold lp
      simp only [f_X4_tellRing_B14, show ¬ ((1 : Int32) = 0) from by decide, if_false, bnd_ok (show j < 40 by omega) (show 40 < 2 ^ 31 by decide), cl (show j < 2 ^ 31 by omega), e2, Option.bind_some, if_true, nI_1]
      unfold lp
      simp only [f_X4_tellRing_B14, if_true]
    · rw [ui, ui]
      by_cases e : i = j
      · rw [if_pos e, if_pos e]
      · rw [if_neg e, if_neg e]; exact heq i (by omega)
  | succ k ih =>
    intro at' j told ringOf f f' ha hex hmin hj heq hf hf'
    obtain ⟨y, e1, e2, hy, hd⟩ := nearest hN hM hS ha hex hmin
    have hyt : ¬ nI y = nI t := by
      rw [nI_inj (by omega) (by omega)]
      rintro rfl
      have := Ds_uniq hd (Ds_zero y)
      omega
    match f, hf with
    | f + 1, hf =>
    match f', hf' with
    | f' + 1, hf' =>
    obtain ⟨told', ringOf', g1, g2, g3⟩ := ih y (j + 1) (upd told j (nI at')) (upd ringOf j (nI at')) f f' hy (Ds_down hd) (fun z hz hb m hm => by
      have := Ds_le hd (show Wk N bel (m + 1) y t from ⟨z, hz, hb, hm.1⟩)
      omega) (by omega) (fun i hi => by
      rw [ui, ui]
      by_cases e : i = j
      · rw [if_pos e, if_pos e]
      · rw [if_neg e, if_neg e]; exact heq i (by omega)) (by omega) (by omega)
    rw [show j + 1 + k + 1 = j + (k + 1) + 1 by omega] at g1 g2 g3
    refine ⟨told', ringOf', ?_, ?_, g3⟩
    · unfold lp
      simp only [f_X2_tell_B25, bnd_ok (show j < 38 by omega) (show 38 < 2 ^ 31 by decide), cl (show j < 2 ^ 31 by omega), e1, Option.bind_some, if_neg hyt, if_neg (nI_ne_m1 (show y < 2 ^ 31 by omega)), nI_1, if_pos ((nI_lt_iff (show j + 1 < 2 ^ 31 by omega) (show N < 2 ^ 31 by omega)).mpr (by omega))]
      exact g1
    · unfold lp
      simp only [f_X4_tellRing_B14, show ¬ ((1 : Int32) = 0) from by decide, if_false, bnd_ok (show j < 40 by omega) (show 40 < 2 ^ 31 by decide), cl (show j < 2 ^ 31 by omega), e2, Option.bind_some, if_neg hyt, nI_1]
      exact g2
/-- the ring that both tell -/
theorem tell {N : Nat} (hN : N ≤ 38) {bel belM : Nat → Int64} (hz : ∀ x, x < N → ∀ j, N ≤ j → bl (bel x) j = false) (hM : ∀ x, x < N → belM x = bel x) {t : Nat} (ht : t < N) (hR : Rg N bel t) (hL : ∀ x, x < t → ¬ Rg N bel x) (rD : Nat → Int64) (sC sM told ringOf : Nat → Int32) :
    ∃ rD' sC' told' sM' ringOf' l, f_X2_tell rD sC told bel (nI N) = some (rD', sC', told', nI l) ∧ f_X4_tellRing (nI N) belM sM ringOf (nI t) = some (sM', nI l, ringOf') ∧ l ≤ N ∧ ∀ i, i < l → told' i = ringOf' i := by
  obtain ⟨v, rD', -, e1, -, hv⟩ := rings hN hz hM rD rD
  have hv' : v = nI t := by
    rcases hv with ⟨-, hv⟩ | ⟨f, rfl, hf, hr, hm⟩
    · exact absurd hR (hv t ht)
    · rcases Nat.lt_trichotomy f t with q | q | q
      · exact absurd hr (hL f q)
      · rw [q]
      · exact absurd hR (hm t q)
  subst hv'
  obtain ⟨sC', sM', e2, e3, hS⟩ := steps hN hz hM ht sC sM
  obtain ⟨n, z, hzN, hb, hw⟩ := hR
  obtain ⟨d, -, hd⟩ := Ds_ex hw
  obtain ⟨k, -, ⟨y, hy, hby, hdy⟩, hk⟩ := least (P := fun k => ∃ y, y < N ∧ bl (bel t) y = true ∧ Ds N bel t y k) d ⟨z, hzN, hb, hd⟩
  have hkN := Ds_lt hy hdy
  obtain ⟨told', ringOf', g1, g2, g3⟩ := tells hN hM ht hS k t 0 told ringOf 64 64 ht ⟨y, hy, hby, hdy⟩ (fun z hz hb m hm => by
    rcases Nat.lt_or_ge m k with q | q
    · exact absurd ⟨z, hz, hb, hm⟩ (hk m q)
    · exact q) (by omega) (fun i hi => absurd hi (Nat.not_lt_zero _)) (by omega) (by omega)
  rw [Nat.zero_add] at g1 g2 g3
  refine ⟨rD', sC', told', sM', ringOf', k + 1, ?_, ?_, by omega, g3⟩
  · unfold f_X2_tell
    rw [e1]
    simp only [Option.bind_some, if_neg (nI_ne_m1 (show t < 2 ^ 31 by omega)), e2]
    rw [show (0 : Int32) = nI 0 from rfl, g1]
    rfl
  · unfold f_X4_tellRing
    rw [e3]
    simp only [Option.bind_some]
    rw [show (0 : Int32) = nI 0 from rfl, g2]
    rfl

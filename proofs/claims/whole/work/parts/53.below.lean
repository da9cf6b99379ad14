/-! what has to lie above what -/
abbrev tq (nD tD : Nat → Int32) (i c : Nat) (n : Int32) : Prop := nD i = n ∧ bt (tD i) c = true
theorem touches_c (nD tD : Nat → Int32) {i c : Nat} (n : Int32) (hi : i < 38) (hc : c < 32) : f_X1_touches nD tD (nI i) (nI c) n = some (if tq nD tD i c n then 1 else 0) := by
  unfold f_X1_touches
  simp only [bnd_ok hi (show 38 < 2 ^ 31 by decide), cl (show i < 2 ^ 31 by omega), bt_test hc]
  by_cases h1 : nD i = n
  · by_cases h2 : bt (tD i) c = true <;> simp [h1, h2]
  · simp [h1]
theorem touching_m (nM tM : Nat → Int32) {i c : Nat} (n : Int32) (hi : i < 40) (hc : c < 32) : f_X4_touching nM tM (nI i) (nI c) n = some (if tq nM tM i c n then 1 else 0) := by
  unfold f_X4_touching
  simp only [bnd_ok hi (show 40 < 2 ^ 31 by decide), cl (show i < 2 ^ 31 by omega), bt_test hc]
  by_cases h1 : nM i = n
  · by_cases h2 : bt (tM i) c = true <;> simp [h1, h2]
  · simp [h1]
theorem nle {N i : Nat} (hN : N < 2 ^ 30) (h : i < N) : ¬ nI N ≤ nI i := by rw [nI_le_iff (by omega) (by omega)]; omega
theorem yle {N : Nat} (hN : N < 2 ^ 30) : nI N ≤ nI N := by rw [nI_le_iff (by omega) (by omega)]; omega
theorem touching_c (nD tD : Nat → Int32) {N c : Nat} (n : Int32) (hN : N ≤ 38) (hc : c < 32) : ∃ w, f_X1_touching nD tD (nI N) (nI c) n = some w ∧ ∀ j, j < 64 → (bl w j = true ↔ j < N ∧ tq nD tD j c n) := by
  obtain ⟨r, e, h⟩ := lp_inv (b := f_X1_touching_B5 (nI c) n nD tD (nI N)) (fun i s => ∃ w, s = (w, nI i) ∧ ∀ j, j < 64 → (bl w j = true ↔ j < i ∧ tq nD tD j c n)) N (fun w => ∀ j, j < 64 → (bl w j = true ↔ j < N ∧ tq nD tD j c n))
    (by
      intro i s hi hI
      obtain ⟨w, rfl, hw⟩ := hI
      left
      simp only [f_X1_touching_B5, if_neg (nle (show N < 2 ^ 30 by omega) hi), touches_c nD tD n (show i < 38 by omega) hc, Option.bind_some]
      by_cases q : tq nD tD i c n
      · simp only [if_pos q, show ¬ ((1 : Int32) = 0) from by decide, if_false, nI_1]
        refine ⟨_, rfl, _, rfl, fun j hj => ?_⟩
        rw [bl_or, bl_one i (by omega) j hj, Bool.or_eq_true, hw j hj, decide_eq_true_eq]
        constructor
        · rintro (⟨h1, h2⟩ | h1)
          · exact ⟨by omega, h2⟩
          · subst h1; exact ⟨by omega, q⟩
        · rintro ⟨h1, h2⟩
          by_cases e : j = i
          · exact Or.inr e
          · exact Or.inl ⟨by omega, h2⟩
      · simp only [if_neg q, if_true, nI_1]
        refine ⟨_, rfl, _, rfl, fun j hj => ?_⟩
        rw [hw j hj]
        constructor
        · rintro ⟨h1, h2⟩; exact ⟨by omega, h2⟩
        · rintro ⟨h1, h2⟩
          by_cases e : j = i
          · subst e; exact absurd h2 q
          · exact ⟨by omega, h2⟩)
    (by
      intro s hI
      obtain ⟨w, rfl, hw⟩ := hI
      refine ⟨w, ?_, hw⟩
      simp only [f_X1_touching_B5, if_pos (yle (show N < 2 ^ 30 by omega))]) 64 0 (0, 0) ⟨0, rfl, fun j hj => by rw [bl_0]; simp⟩ (Nat.zero_le _) (by omega)
  refine ⟨r, ?_, h⟩
  unfold f_X1_touching
  rw [e]
  rfl
theorem addBelow_c (bel : Nat → Int64) {N : Nat} (hN : N ≤ 38) (u lo : Int64) : f_X1_addBelow bel (nI N) u lo = some (fun x => if x < N ∧ bl u x = true then bel x ||| lo else bel x) := by
  have e : lp (f_X1_addBelow_B3 u lo (nI N)) 64 (0, bel) = some (fun x => if x < N ∧ bl u x = true then bel x ||| lo else bel x) := by
    have h0 : bel = (fun x => if x < 0 ∧ bl u x = true then bel x ||| lo else bel x) := by
      funext x
      simp
    have := lp_cnt (b := f_X1_addBelow_B3 u lo (nI N)) (fun i => (nI i, fun x => if x < i ∧ bl u x = true then bel x ||| lo else bel x)) N (fun x => if x < N ∧ bl u x = true then bel x ||| lo else bel x) (by
      intro i hi
      simp only [f_X1_addBelow_B3, if_neg (nle (show N < 2 ^ 30 by omega) hi), isIn_eq u (show i < 64 by omega), Option.bind_some, bnd_ok (show i < 38 by omega) (show 38 < 2 ^ 31 by decide), cl (show i < 2 ^ 31 by omega)]
      cases q : bl u i with
      | true =>
        simp only [if_true, show ¬ ((1 : Int32) = 0) from by decide, if_false, nI_1]
        congr 3
        funext x
        rw [ul]
        by_cases e : x = i
        · subst e
          simp [q]
        · have : (x < i + 1) ↔ (x < i) := by omega
          simp [e, this]
      | false =>
        simp only [Bool.false_eq_true, if_false, if_true, nI_1]
        congr 3
        funext x
        by_cases e : x = i
        · subst e
          simp [q]
        · have : (x < i + 1) ↔ (x < i) := by omega
          simp [this]) (by simp only [f_X1_addBelow_B3, if_pos (yle (show N < 2 ^ 30 by omega))]) (show N < 64 by omega)
    simp only [← h0] at this
    exact this
  unfold f_X1_addBelow
  rw [e]
  rfl
theorem fillL_c (f : Nat → Int64) (v : Int64) : f_J7_fill_d0a16 f v = some (fun j => if j < 38 then v else f j) := by
  have e : lp (f_J7_fill_d0a16_B6 v 38) 64 (0, f) = some (fun j => if j < 38 then v else f j) := by
    have h0 : f = (fun j => if j < 0 then v else f j) := by funext j; simp
    have := lp_cnt (b := f_J7_fill_d0a16_B6 v 38) (fun i => (nI i, fun j => if j < i then v else f j)) 38 (fun j => if j < 38 then v else f j) (by
      intro i hi
      simp only [f_J7_fill_d0a16_B6, show (38 : Int32) = nI 38 from rfl, if_neg (nle (show 38 < 2 ^ 30 by omega) hi), bnd_ok hi (show 38 < 2 ^ 31 by decide), cl (show i < 2 ^ 31 by omega), nI_1]
      congr 3
      funext j
      rw [ul]
      by_cases e : j = i
      · subst e; simp
      · have : (j < i + 1) ↔ (j < i) := by omega
        simp [e, this]) (by simp only [f_J7_fill_d0a16_B6]; rfl) (show 38 < 64 by omega)
    simp only [← h0] at this
    exact this
  unfold f_J7_fill_d0a16
  rw [e]
  rfl
theorem fillI_c (f : Nat → Int32) (v : Int32) : f_J7_fill_53178 f v = some (fun j => if j < 38 then v else f j) := by
  have e : lp (f_J7_fill_53178_B5 v 38) 64 (0, f) = some (fun j => if j < 38 then v else f j) := by
    have h0 : f = (fun j => if j < 0 then v else f j) := by funext j; simp
    have := lp_cnt (b := f_J7_fill_53178_B5 v 38) (fun i => (nI i, fun j => if j < i then v else f j)) 38 (fun j => if j < 38 then v else f j) (by
      intro i hi
      simp only [f_J7_fill_53178_B5, show (38 : Int32) = nI 38 from rfl, if_neg (nle (show 38 < 2 ^ 30 by omega) hi), bnd_ok hi (show 38 < 2 ^ 31 by decide), cl (show i < 2 ^ 31 by omega), nI_1]
      congr 3
      funext j
      rw [ui]
      by_cases e : j = i
      · subst e; simp
      · have : (j < i + 1) ↔ (j < i) := by omega
        simp [e, this]) (by simp only [f_J7_fill_53178_B5]; rfl) (show 38 < 64 by omega)
    simp only [← h0] at this
    exact this
  unfold f_J7_fill_53178
  rw [e]
  rfl
/-- segment x has to be above segment y -/
def EE (top bot nD tD : Nat → Int32) (x y : Nat) : Prop := ∃ d, d < 20 ∧ top d ≠ bot d ∧ tq nD tD x d (top d) ∧ tq nD tD y d (bot d)
/-- the words of 'below' -/
def BW (N : Nat) (E : Nat → Nat → Prop) (bel : Nat → Int64) : Prop := ∀ x, x < N → ∀ y, y < 64 → (bl (bel x) y = true ↔ y < N ∧ E x y)
theorem findBelow_c (top bot nD tD : Nat → Int32) (bel : Nat → Int64) {N : Nat} (hN : N ≤ 38) : ∃ bel', f_X1_findBelow nD tD bel (nI N) top bot = some bel' ∧ BW N (EE top bot nD tD) bel' := by
  obtain ⟨r, e, h⟩ := lp_inv (b := f_X1_findBelow_B10 nD tD (nI N) top bot) (fun c s => ∃ bel, s = (nI c, bel) ∧ ∀ x, x < N → ∀ y, y < 64 → (bl (bel x) y = true ↔ y < N ∧ ∃ d, d < c ∧ top d ≠ bot d ∧ tq nD tD x d (top d) ∧ tq nD tD y d (bot d))) 20 (fun bel => BW N (EE top bot nD tD) bel)
    (by
      intro c s hc hI
      obtain ⟨bel, rfl, hb⟩ := hI
      left
      simp only [f_X1_findBelow_B10, if_neg (ge20 hc), bnd_ok hc (show 20 < 2 ^ 31 by decide), cl (show c < 2 ^ 31 by omega)]
      by_cases q : top c = bot c
      · simp only [if_pos q, nI_1]
        refine ⟨_, rfl, bel, rfl, fun x hx y hy => ?_⟩
        rw [hb x hx y hy]
        constructor
        · rintro ⟨h1, d, h2, h3⟩; exact ⟨h1, d, by omega, h3⟩
        · rintro ⟨h1, d, h2, h3, h4⟩
          by_cases e : d = c
          · subst e; exact absurd q h3
          · exact ⟨h1, d, by omega, h3, h4⟩
      · obtain ⟨u, hu, hu2⟩ := touching_c nD tD (top c) hN (show c < 32 by omega)
        obtain ⟨lo, hl, hl2⟩ := touching_c nD tD (bot c) hN (show c < 32 by omega)
        simp only [if_neg q, hu, hl, Option.bind_some, addBelow_c bel hN, nI_1]
        refine ⟨_, rfl, _, rfl, fun x hx y hy => ?_⟩
        by_cases e : bl u x = true
        · rw [if_pos ⟨hx, e⟩, bl_or, Bool.or_eq_true, hb x hx y hy, hl2 y hy]
          have hx2 := (hu2 x (by omega)).mp e
          constructor
          · rintro (⟨h1, d, h2, h3⟩ | ⟨h1, h2⟩)
            · exact ⟨h1, d, by omega, h3⟩
            · exact ⟨h1, c, by omega, q, hx2.2, h2⟩
          · rintro ⟨h1, d, h2, h3, h4, h5⟩
            by_cases e2 : d = c
            · subst e2; exact Or.inr ⟨h1, h5⟩
            · exact Or.inl ⟨h1, d, by omega, h3, h4, h5⟩
        · rw [if_neg (fun z => e z.2), hb x hx y hy]
          constructor
          · rintro ⟨h1, d, h2, h3⟩; exact ⟨h1, d, by omega, h3⟩
          · rintro ⟨h1, d, h2, h3, h4, h5⟩
            by_cases e2 : d = c
            · subst e2; exact absurd ((hu2 x (by omega)).mpr ⟨hx, h4⟩) e
            · exact ⟨h1, d, by omega, h3, h4, h5⟩)
    (by
      intro s hI
      obtain ⟨bel, rfl, hb⟩ := hI
      exact ⟨bel, rfl, hb⟩) 64 0 (0, fun j => if j < 38 then 0 else bel j) ⟨_, rfl, fun x hx y hy => by
        rw [if_pos (by omega), bl_0]
        constructor
        · intro h; cases h
        · rintro ⟨_, d, h, _⟩; omega⟩ (Nat.zero_le _) (by omega)
  refine ⟨r, ?_, h⟩
  unfold f_X1_findBelow
  rw [fillL_c]
  simp only [Option.bind_some, e]
/-! the reference's study -/
def pcn (w : Int64) : Nat → Nat
  | 0 => 0
  | j + 1 => pcn w j + (if bl w j = true then 1 else 0)
def psum (bel : Nat → Int64) (n : Nat) : Nat → Nat
  | 0 => 0
  | x + 1 => psum bel n x + pcn (bel x) n
theorem pcn_le (w : Int64) : ∀ j, pcn w j ≤ j := by
  intro j
  induction j with
  | zero => exact Nat.le_refl _
  | succ j ih =>
    show pcn w j + (if bl w j = true then 1 else 0) ≤ j + 1
    by_cases h : bl w j = true
    · rw [if_pos h]; omega
    · rw [if_neg h]; omega
theorem psum_le (bel : Nat → Int64) (n : Nat) : ∀ x, psum bel n x ≤ x * n := by
  intro x
  induction x with
  | zero => exact Nat.zero_le _
  | succ x ih =>
    have := pcn_le (bel x) n
    show psum bel n x + pcn (bel x) n ≤ (x + 1) * n
    rw [Nat.add_mul, Nat.one_mul]
    omega
theorem pcn_big {w : Int64} {n : Nat} (h : ∀ j, n ≤ j → bl w j = false) : ∀ k, pcn w (n + k) = pcn w n := by
  intro k
  induction k with
  | zero => rfl
  | succ k ih =>
    show pcn w (n + k) + (if bl w (n + k) = true then 1 else 0) = _
    rw [ih, h (n + k) (by omega)]
    rfl
theorem pairBit {top bot pins nD tD nM tM lM rM lD rD : Nat → Int32} (h : PR top bot pins) {N x y : Nat} (hN : N ≤ 38) (hx : x < N) (hy : y < N) (hR : SR N nD lD rD tD nM lM rM tM) (hV : SV N nD lD rD) : ∃ v, lp (f_X4_study_B42 (nI x) (nI y) pins nM tM) 64 (0, 0) = some v ∧ ((v = 0 ∧ ¬ EE top bot nD tD x y) ∨ (v = 1 ∧ EE top bot nD tD x y)) := by
  obtain ⟨r, e, h1⟩ := lp_inv (b := f_X4_study_B42 (nI x) (nI y) pins nM tM) (fun c s => ∃ v, s = (v, nI c) ∧ ((v = 0 ∧ ¬ ∃ d, d < c ∧ top d ≠ bot d ∧ tq nD tD x d (top d) ∧ tq nD tD y d (bot d)) ∨ (v = 1 ∧ ∃ d, d < c ∧ top d ≠ bot d ∧ tq nD tD x d (top d) ∧ tq nD tD y d (bot d)))) 20 (fun v => (v = 0 ∧ ¬ EE top bot nD tD x y) ∨ (v = 1 ∧ EE top bot nD tD x y))
    (by
      intro c s hc hI
      obtain ⟨v, rfl, hv⟩ := hI
      left
      obtain ⟨p1, p2⟩ := h c hc
      obtain ⟨hx1, -, -, hx4⟩ := hR x hx
      obtain ⟨hy1, -, -, hy4⟩ := hR y hy
      have tx : ∀ n, tq nM tM x c n ↔ tq nD tD x c n := fun n => by unfold tq; rw [hx1, hx4]
      have ty : ∀ n, tq nM tM y c n ↔ tq nD tD y c n := fun n => by unfold tq; rw [hy1, hy4]
      simp only [f_X4_study_B42, if_neg (ge20 hc), nI_20, bnd_ok (show c < 40 by omega) (show 40 < 2 ^ 31 by decide), bnd_ok (show 20 + c < 40 by omega) (show 40 < 2 ^ 31 by decide), cl (show c < 2 ^ 31 by omega), cl (show 20 + c < 2 ^ 31 by omega), p1, p2, touching_m nM tM _ (show x < 40 by omega) (show c < 32 by omega), touching_m nM tM _ (show y < 40 by omega) (show c < 32 by omega), Option.bind_some, nI_1]
      rcases hv with ⟨rfl, hv⟩ | ⟨rfl, hv⟩
      · rw [if_pos rfl]
        have keep : ¬ (top c ≠ bot c ∧ tq nD tD x c (top c) ∧ tq nD tD y c (bot c)) → ∃ s', some (Sum.inl ((0 : Int32), nI (c + 1)) : (Int32 × Int32) ⊕ Int32) = some (.inl s') ∧ ∃ v, s' = (v, nI (c + 1)) ∧ ((v = 0 ∧ ¬ ∃ d, d < c + 1 ∧ top d ≠ bot d ∧ tq nD tD x d (top d) ∧ tq nD tD y d (bot d)) ∨ (v = 1 ∧ ∃ d, d < c + 1 ∧ top d ≠ bot d ∧ tq nD tD x d (top d) ∧ tq nD tD y d (bot d))) := by
          intro hn
          refine ⟨_, rfl, 0, rfl, Or.inl ⟨rfl, ?_⟩⟩
          rintro ⟨d, h2, h3⟩
          by_cases e : d = c
          · subst e; exact hn h3
          · exact hv ⟨d, by omega, h3⟩
        obtain ⟨kx, ax, bx, gx1, gx2, gx3, gx4, gx5, -, -⟩ := hV x hx
        obtain ⟨ky, ay, by', gy1, gy2, gy3, gy4, gy5, -, -⟩ := hV y hy
        by_cases t1 : top c ≤ 0
        · rw [if_pos t1]
          refine keep (fun z => ?_)
          have := z.2.1.1
          rw [gx5] at this
          rw [← this, show (0 : Int32) = nI 0 from rfl, nI_le_iff (by omega) (by omega)] at t1
          omega
        · rw [if_neg t1]
          by_cases t2 : bot c ≤ 0
          · rw [if_pos t2]
            refine keep (fun z => ?_)
            have := z.2.2.1
            rw [gy5] at this
            rw [← this, show (0 : Int32) = nI 0 from rfl, nI_le_iff (by omega) (by omega)] at t2
            omega
          · rw [if_neg t2]
            by_cases t3 : top c = bot c
            · rw [if_pos t3]
              exact keep (fun z => z.1 t3)
            · rw [if_neg t3]
              by_cases t4 : tq nM tM x c (top c)
              · rw [if_pos t4, if_neg (by decide)]
                by_cases t5 : tq nM tM y c (bot c)
                · rw [if_pos t5, if_neg (by decide)]
                  exact ⟨_, rfl, 1, rfl, Or.inr ⟨rfl, c, by omega, t3, (tx _).mp t4, (ty _).mp t5⟩⟩
                · rw [if_neg t5, if_pos rfl]
                  exact keep (fun z => t5 ((ty _).mpr z.2.2))
              · rw [if_neg t4, if_pos rfl]
                exact keep (fun z => t4 ((tx _).mpr z.2.1))
      · rw [if_neg (by decide)]
        obtain ⟨d, h2, h3⟩ := hv
        exact ⟨_, rfl, 1, rfl, Or.inr ⟨rfl, d, by omega, h3⟩⟩)
    (by
      intro s hI
      obtain ⟨v, rfl, hv⟩ := hI
      exact ⟨v, rfl, hv⟩) 64 0 (0, 0) ⟨0, rfl, Or.inl ⟨rfl, by rintro ⟨d, h, _⟩; omega⟩⟩ (Nat.zero_le _) (by omega)
  exact ⟨r, e, h1⟩
theorem uL_uL (f : Nat → Int64) (k : Nat) (a b : Int64) : vp_updL (vp_updL f k a) k b = vp_updL f k b := by
  funext j
  simp only [ul]
  by_cases h : j = k <;> simp [h]
theorem uL_at (f : Nat → Int64) (k : Nat) (a : Int64) : vp_updL f k a k = a := by simp [ul]
theorem study_row {top bot pins nD tD nM tM lM rM lD rD : Nat → Int32} {belD : Nat → Int64} (h : PR top bot pins) {N x : Nat} (hN : N ≤ 38) (hx : x < N) (hR : SR N nD lD rD tD nM lM rM tM) (hV : SV N nD lD rD) (hB : BW N (EE top bot nD tD) belD) (c0 : Nat) (bel : Nat → Int64) : lp (f_X4_study_B27 (nI x) pins (nI N) nM tM) 64 (nI c0, 0, vp_updL bel x 0) = some (nI (c0 + pcn (belD x) N), vp_updL bel x (belD x)) := by
  obtain ⟨r, e, h1⟩ := lp_inv (b := f_X4_study_B27 (nI x) pins (nI N) nM tM) (fun y s => ∃ w, s = (nI (c0 + pcn (belD x) y), nI y, vp_updL bel x w) ∧ ∀ j, j < 64 → (bl w j = true ↔ j < y ∧ bl (belD x) j = true)) N (fun r => r = (nI (c0 + pcn (belD x) N), vp_updL bel x (belD x)))
    (by
      intro y s hy hI
      obtain ⟨w, rfl, hw⟩ := hI
      left
      obtain ⟨v, hv1, hv2⟩ := pairBit h hN hx hy hR hV
      simp only [f_X4_study_B27, if_neg (nle (show N < 2 ^ 30 by omega) hy), hv1, Option.bind_some, bnd_ok (show x < 40 by omega) (show 40 < 2 ^ 31 by decide), cl (show x < 2 ^ 31 by omega), uL_at, uL_uL, nI_1]
      have hp : pcn (belD x) (y + 1) = pcn (belD x) y + (if bl (belD x) y = true then 1 else 0) := rfl
      have hby := hB x hx y (by omega)
      rcases hv2 with ⟨rfl, hn⟩ | ⟨rfl, hn⟩
      · rw [if_pos rfl, if_pos rfl]
        have hb : ¬ bl (belD x) y = true := fun z => hn (hby.mp z).2
        rw [if_neg hb] at hp
        refine ⟨_, rfl, w, ?_, fun j hj => ?_⟩
        · rw [hp]; rfl
        · rw [hw j hj]
          constructor
          · rintro ⟨h2, h3⟩; exact ⟨by omega, h3⟩
          · rintro ⟨h2, h3⟩
            by_cases e : j = y
            · subst e; exact absurd h3 hb
            · exact ⟨by omega, h3⟩
      · rw [if_neg (by decide), if_neg (by decide)]
        have hb : bl (belD x) y = true := hby.mpr ⟨hy, hn⟩
        rw [if_pos hb] at hp
        refine ⟨_, rfl, w ||| ((1 : Int64) <<< ((nI y).toInt64 &&& 63)), ?_, fun j hj => ?_⟩
        · rw [hp]; rfl
        · rw [bl_or, Bool.or_eq_true, bl_one y (by omega) j hj, hw j hj, decide_eq_true_eq]
          constructor
          · rintro (⟨h2, h3⟩ | h2)
            · exact ⟨by omega, h3⟩
            · subst h2; exact ⟨by omega, hb⟩
          · rintro ⟨h2, h3⟩
            by_cases e : j = y
            · exact Or.inr e
            · exact Or.inl ⟨by omega, h3⟩)
    (by
      intro s hI
      obtain ⟨w, rfl, hw⟩ := hI
      refine ⟨(nI (c0 + pcn (belD x) N), vp_updL bel x w), by simp only [f_X4_study_B27, if_pos (yle (show N < 2 ^ 30 by omega))], ?_⟩
      have : w = belD x := bl_ext (fun j hj => by
        have h1 := hw j hj
        have h2 := hB x hx j hj
        cases q : bl (belD x) j with
        | true => rw [h1]; exact ⟨(h2.mp q).1, q⟩
        | false =>
          cases q2 : bl w j with
          | false => rfl
          | true => have := (h1.mp q2).2; rw [q] at this; cases this)
      rw [this]) 64 0 (nI c0, 0, vp_updL bel x 0) ⟨0, rfl, fun j hj => by rw [bl_0]; simp⟩ (Nat.zero_le _) (by omega)
  rw [e, h1]
theorem study_m {top bot pins nD tD nM tM lM rM lD rD : Nat → Int32} {belD : Nat → Int64} (h : PR top bot pins) {N : Nat} (hN : N ≤ 38) (hR : SR N nD lD rD tD nM lM rM tM) (hV : SV N nD lD rD) (hB : BW N (EE top bot nD tD) belD) (bel : Nat → Int64) : ∃ belM, lp (f_X4_study_B9 pins (nI N) nM tM) 64 (0, 0, bel) = some (nI (psum belD N N), belM) ∧ ∀ x, x < N → belM x = belD x := by
  obtain ⟨r, e, belM, rfl, h1⟩ := lp_inv (b := f_X4_study_B9 pins (nI N) nM tM) (fun x s => ∃ bel, s = (nI (psum belD N x), nI x, bel) ∧ ∀ z, z < x → bel z = belD z) N (fun r => ∃ belM, r = (nI (psum belD N N), belM) ∧ ∀ x, x < N → belM x = belD x)
    (by
      intro x s hx hI
      obtain ⟨bel, rfl, hb⟩ := hI
      left
      simp only [f_X4_study_B9, if_neg (nle (show N < 2 ^ 30 by omega) hx), bnd_ok (show x < 40 by omega) (show 40 < 2 ^ 31 by decide), cl (show x < 2 ^ 31 by omega), study_row h hN hx hR hV hB, Option.bind_some, nI_1]
      refine ⟨_, rfl, _, rfl, fun z hz => ?_⟩
      rw [ul]
      by_cases e : z = x
      · rw [if_pos e, e]
      · rw [if_neg e]; exact hb z (by omega))
    (by
      intro s hI
      obtain ⟨bel, rfl, hb⟩ := hI
      exact ⟨(nI (psum belD N N), bel), by simp only [f_X4_study_B9, if_pos (yle (show N < 2 ^ 30 by omega))], bel, rfl, hb⟩) 64 0 (0, 0, bel) ⟨bel, rfl, fun z hz => absurd hz (Nat.not_lt_zero z)⟩ (Nat.zero_le _) (by omega)
  exact ⟨belM, e, h1⟩

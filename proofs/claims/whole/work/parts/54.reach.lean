/-! reach -/
def Wp (N m : Nat) (r : Nat → Int64) : Nat → Int64 := fun x => if x < N ∧ bl (r x) m = true then r x ||| r m else r x
def WW (N : Nat) (r : Nat → Int64) : Nat → Nat → Int64
  | 0 => r
  | k + 1 => Wp N k (WW N r k)
theorem or_self64 (x : Int64) : x ||| x = x := bl_ext (fun i _ => by rw [bl_or]; cases bl x i <;> rfl)
theorem Wp_at (i m : Nat) (r : Nat → Int64) : Wp i m r m = r m := by
  unfold Wp
  by_cases h : m < i ∧ bl (r m) m = true
  · rw [if_pos h, or_self64]
  · rw [if_neg h]
theorem Wp_own (i m : Nat) (r : Nat → Int64) : Wp i m r i = r i := by
  unfold Wp
  rw [if_neg (fun z => absurd z.1 (Nat.lt_irrefl _))]
theorem Wp_0 (m : Nat) (r : Nat → Int64) : Wp 0 m r = r := by
  funext x
  unfold Wp
  rw [if_neg (fun z => absurd z.1 (Nat.not_lt_zero _))]
theorem Wp_yes {i m : Nat} {r : Nat → Int64} (h : bl (r i) m = true) : vp_updL (Wp i m r) i (Wp i m r i ||| Wp i m r m) = Wp (i + 1) m r := by
  funext x
  rw [ul, Wp_own, Wp_at]
  by_cases e : x = i
  · subst e
    rw [if_pos rfl]
    unfold Wp
    rw [if_pos ⟨by omega, h⟩]
  · rw [if_neg e]
    unfold Wp
    have : (x < i + 1) ↔ (x < i) := by omega
    simp only [this]
theorem Wp_no {i m : Nat} {r : Nat → Int64} (h : bl (r i) m = false) : Wp i m r = Wp (i + 1) m r := by
  funext x
  unfold Wp
  by_cases e : x = i
  · subst e
    rw [if_neg (fun z => absurd z.1 (Nat.lt_irrefl _)), if_neg (fun z => by rw [h] at z; cases z.2)]
  · have : (x < i + 1) ↔ (x < i) := by omega
    simp only [this]
theorem reach_in_c {N m : Nat} (hN : N ≤ 38) (hm : m < N) (r : Nat → Int64) : lp (f_X2_findReach_B27 (nI m) (nI N)) 64 (0, r) = some (Wp N m r) := by
  have := lp_cnt (b := f_X2_findReach_B27 (nI m) (nI N)) (fun i => (nI i, Wp i m r)) N (Wp N m r) (by
    intro i hi
    simp only [f_X2_findReach_B27, if_neg (nle (show N < 2 ^ 30 by omega) hi), bnd_ok (show i < 38 by omega) (show 38 < 2 ^ 31 by decide), bnd_ok (show m < 38 by omega) (show 38 < 2 ^ 31 by decide), cl (show i < 2 ^ 31 by omega), cl (show m < 2 ^ 31 by omega), isIn_eq _ (show m < 64 by omega), Option.bind_some, nI_1]
    rw [Wp_own i m r]
    cases q : bl (r i) m with
    | true =>
      simp only [if_true, show ¬ ((1 : Int32) = 0) from by decide, if_false]
      rw [← Wp_yes q, Wp_own]
    | false =>
      simp only [Bool.false_eq_true, if_false, if_true]
      rw [Wp_no q]) (by simp only [f_X2_findReach_B27, if_pos (yle (show N < 2 ^ 30 by omega))]) (show N < 64 by omega)
  rw [Wp_0] at this
  exact this
theorem reach_in_m {N m : Nat} (hN : N ≤ 38) (hm : m < N) (r : Nat → Int64) : lp (f_X4_inRing_B40 (nI m) (nI N)) 64 (0, r) = some (Wp N m r) := by
  have := lp_cnt (b := f_X4_inRing_B40 (nI m) (nI N)) (fun i => (nI i, Wp i m r)) N (Wp N m r) (by
    intro i hi
    simp only [f_X4_inRing_B40, if_neg (nle (show N < 2 ^ 30 by omega) hi), bnd_ok (show i < 40 by omega) (show 40 < 2 ^ 31 by decide), bnd_ok (show m < 40 by omega) (show 40 < 2 ^ 31 by decide), cl (show i < 2 ^ 31 by omega), cl (show m < 2 ^ 31 by omega), has_eq _ (show m < 64 by omega), Option.bind_some, nI_1, uL_self]
    cases q : bl (r i) m with
    | true =>
      simp only [Wp_own i m r, q, if_true, show ¬ ((1 : Int32) = 0) from by decide, if_false]
      rw [← Wp_yes q, Wp_own]
    | false =>
      simp only [Wp_own i m r, q, Bool.false_eq_true, if_false, if_true]
      rw [Wp_no q]) (by simp only [f_X4_inRing_B40, if_pos (yle (show N < 2 ^ 30 by omega))]) (show N < 64 by omega)
  rw [Wp_0] at this
  exact this
theorem reach_c {N : Nat} (hN : N ≤ 38) (rr bel : Nat → Int64) : f_X2_findReach rr bel (nI N) = some (WW N (va_cpy bel rr 0 0 38) N) := by
  have e : lp (f_X2_findReach_B17 (nI N)) 64 (0, va_cpy bel rr 0 0 38) = some (WW N (va_cpy bel rr 0 0 38) N) := by
    exact lp_cnt (b := f_X2_findReach_B17 (nI N)) (fun i => (nI i, WW N (va_cpy bel rr 0 0 38) i)) N (WW N (va_cpy bel rr 0 0 38) N) (by
      intro i hi
      simp only [f_X2_findReach_B17, if_neg (nle (show N < 2 ^ 30 by omega) hi), reach_in_c hN hi, Option.bind_some, nI_1]
      rfl) (by simp only [f_X2_findReach_B17, if_pos (yle (show N < 2 ^ 30 by omega))]) (show N < 64 by omega)
  unfold f_X2_findReach
  rw [e]
  rfl
theorem copy_m {N : Nat} (hN : N ≤ 38) (rr bel : Nat → Int64) : lp (f_X4_inRing_B2 (nI N) bel) 64 (0, rr) = some (fun x => if x < N then bel x else rr x) := by
  have := lp_cnt (b := f_X4_inRing_B2 (nI N) bel) (fun i => (nI i, fun x => if x < i then bel x else rr x)) N (fun x => if x < N then bel x else rr x) (by
    intro i hi
    simp only [f_X4_inRing_B2, if_neg (nle (show N < 2 ^ 30 by omega) hi), bnd_ok (show i < 40 by omega) (show 40 < 2 ^ 31 by decide), cl (show i < 2 ^ 31 by omega), nI_1]
    congr 3
    funext x
    rw [ul]
    by_cases e : x = i
    · subst e; simp
    · have : (x < i + 1) ↔ (x < i) := by omega
      simp [e, this]) (by simp only [f_X4_inRing_B2, if_pos (yle (show N < 2 ^ 30 by omega))]) (show N < 64 by omega)
  have h0 : rr = (fun x => if x < 0 then bel x else rr x) := by funext x; simp
  simp only [← h0] at this
  exact this
theorem reach_m {N : Nat} (hN : N ≤ 38) (r : Nat → Int64) : lp (f_X4_inRing_B30 (nI N)) 64 (0, r) = some (WW N r N) :=
  lp_cnt (b := f_X4_inRing_B30 (nI N)) (fun i => (nI i, WW N r i)) N (WW N r N) (by
      intro i hi
      simp only [f_X4_inRing_B30, if_neg (nle (show N < 2 ^ 30 by omega) hi), reach_in_m hN hi, Option.bind_some, nI_1]
      rfl) (by simp only [f_X4_inRing_B30, if_pos (yle (show N < 2 ^ 30 by omega))]) (show N < 64 by omega)
theorem WW_congr {N : Nat} {r r' : Nat → Int64} (h : ∀ x, x < N → r x = r' x) : ∀ k, k ≤ N → ∀ x, x < N → WW N r k x = WW N r' k x := by
  intro k
  induction k with
  | zero => intro _ x hx; exact h x hx
  | succ k ih =>
    intro hk x hx
    show Wp N k (WW N r k) x = Wp N k (WW N r' k) x
    unfold Wp
    rw [ih (by omega) x hx, ih (by omega) k (by omega)]
/-- a way of n steps from x to y -/
def Wk (N : Nat) (bel : Nat → Int64) : Nat → Nat → Nat → Prop
  | 0, x, y => x = y
  | n + 1, x, y => ∃ z, z < N ∧ bl (bel x) z = true ∧ Wk N bel n z y
theorem Wk_add {N : Nat} {bel : Nat → Int64} : ∀ (n m : Nat) (x y z : Nat), Wk N bel n x y → Wk N bel m y z → Wk N bel (n + m) x z := by
  intro n
  induction n with
  | zero => intro m x y z h1 h2; cases h1; rw [Nat.zero_add]; exact h2
  | succ n ih =>
    intro m x y z h1 h2
    obtain ⟨u, hu, hb, hw⟩ := h1
    rw [show n + 1 + m = (n + m) + 1 by omega]
    exact ⟨u, hu, hb, ih m u y z hw h2⟩
theorem WW_bit {N : Nat} {bel : Nat → Int64} {k x : Nat} (hx : x < N) (y : Nat) : bl (WW N bel (k + 1) x) y = true ↔ bl (WW N bel k x) y = true ∨ (bl (WW N bel k x) k = true ∧ bl (WW N bel k k) y = true) := by
  show bl (Wp N k (WW N bel k) x) y = true ↔ _
  unfold Wp
  by_cases h : bl (WW N bel k x) k = true
  · rw [if_pos ⟨hx, h⟩, bl_or, Bool.or_eq_true]
    simp [h]
  · rw [if_neg (fun z => h z.2)]
    simp [h]
theorem WW_hi {N : Nat} {bel : Nat → Int64} (hz : ∀ x, x < N → ∀ j, N ≤ j → bl (bel x) j = false) : ∀ k, k ≤ N → ∀ x, x < N → ∀ j, N ≤ j → bl (WW N bel k x) j = false := by
  intro k
  induction k with
  | zero => intro _; exact hz
  | succ k ih =>
    intro hk x hx j hj
    cases q : bl (WW N bel (k + 1) x) j with
    | false => rfl
    | true =>
      rcases (WW_bit hx j).mp q with h | h
      · rw [ih (by omega) x hx j hj] at h; cases h
      · have := ih (by omega) k (by omega) j hj
        rw [h.2] at this
        cases this
theorem WW_sound {N : Nat} {bel : Nat → Int64} (hz : ∀ x, x < N → ∀ j, N ≤ j → bl (bel x) j = false) : ∀ k, k ≤ N → ∀ x y, x < N → bl (WW N bel k x) y = true → ∃ n, Wk N bel (n + 1) x y := by
  intro k
  induction k with
  | zero =>
    intro _ x y hx h
    refine ⟨0, y, ?_, h, rfl⟩
    rcases Nat.lt_or_ge y N with q | q
    · exact q
    · have h2 : bl (bel x) y = true := h
      rw [hz x hx y q] at h2
      cases h2
  | succ k ih =>
    intro hk x y hx h
    rcases (WW_bit hx y).mp h with h | ⟨h1, h2⟩
    · exact ih (by omega) x y hx h
    · obtain ⟨n, hn⟩ := ih (by omega) x k hx h1
      obtain ⟨m, hm⟩ := ih (by omega) k y (by omega) h2
      refine ⟨n + 1 + m, ?_⟩
      exact Wk_add (n + 1) (m + 1) x k y hn hm
theorem WW_mono {N : Nat} {bel : Nat → Int64} : ∀ k, k ≤ N → ∀ x y, x < N → bl (bel x) y = true → bl (WW N bel k x) y = true := by
  intro k
  induction k with
  | zero => intro _ x y _ h; exact h
  | succ k ih => intro hk x y hx h; exact (WW_bit hx y).mpr (Or.inl (ih (by omega) x y hx h))
theorem WW_trans {N : Nat} {bel : Nat → Int64} : ∀ k, k ≤ N → ∀ x y z, x < N → z < k → bl (WW N bel k x) z = true → bl (WW N bel k z) y = true → bl (WW N bel k x) y = true := by
  intro k
  induction k with
  | zero => intro _ x y z _ hz; exact absurd hz (Nat.not_lt_zero _)
  | succ k ih =>
    intro hk x y z hx hz h1 h2
    have hzN : z < N := by omega
    rw [WW_bit hx] at h1 ⊢
    rw [WW_bit hzN] at h2
    by_cases e : z = k
    · subst e
      have a1 : bl (WW N bel z x) z = true := h1.elim id And.left
      have a2 : bl (WW N bel z z) y = true := h2.elim id And.right
      exact Or.inr ⟨a1, a2⟩
    · have hzk : z < k := by omega
      have T := ih (by omega)
      rcases h1 with h1 | ⟨h1, h1'⟩
      · rcases h2 with h2 | ⟨h2, h2'⟩
        · exact Or.inl (T x y z hx hzk h1 h2)
        · exact Or.inr ⟨T x k z hx hzk h1 h2, h2'⟩
      · rcases h2 with h2 | ⟨h2, h2'⟩
        · exact Or.inr ⟨h1, T k y z (by omega) hzk h1' h2⟩
        · exact Or.inr ⟨h1, h2'⟩
theorem WW_all {N : Nat} {bel : Nat → Int64} : ∀ n x y, x < N → Wk N bel (n + 1) x y → bl (WW N bel N x) y = true := by
  intro n
  induction n with
  | zero =>
    intro x y hx h
    obtain ⟨z, hz, hb, hw⟩ := h
    have hw' : z = y := hw
    rw [← hw']
    exact WW_mono N (Nat.le_refl _) x z hx hb
  | succ n ih =>
    intro x y hx h
    obtain ⟨z, hz, hb, hw⟩ := h
    exact WW_trans N (Nat.le_refl _) x y z hx hz (WW_mono N (Nat.le_refl _) x z hx hb) (ih z y hz hw)
/-- segment x is in a ring -/
def Rg (N : Nat) (bel : Nat → Int64) (x : Nat) : Prop := ∃ n, Wk N bel (n + 1) x x
theorem Rg_bit {N : Nat} {bel : Nat → Int64} (hz : ∀ x, x < N → ∀ j, N ≤ j → bl (bel x) j = false) {x : Nat} (hx : x < N) : bl (WW N bel N x) x = true ↔ Rg N bel x :=
  ⟨fun h => WW_sound hz N (Nat.le_refl _) x x hx h, fun ⟨n, h⟩ => WW_all n x x hx h⟩
theorem Wk_congr {N : Nat} {bel bel' : Nat → Int64} (h : ∀ x, x < N → bel x = bel' x) : ∀ n x y, x < N → (Wk N bel n x y ↔ Wk N bel' n x y) := by
  intro n
  induction n with
  | zero => intro x y _; exact Iff.rfl
  | succ n ih =>
    intro x y hx
    constructor
    · rintro ⟨z, hz, hb, hw⟩; exact ⟨z, hz, by rw [← h x hx]; exact hb, (ih z y hz).mp hw⟩
    · rintro ⟨z, hz, hb, hw⟩; exact ⟨z, hz, by rw [h x hx]; exact hb, (ih z y hz).mpr hw⟩
theorem low_c {N : Nat} (hN : N ≤ 38) (R : Nat → Int64) : ∃ r, lp (f_X2_lowestInRing_B7 R (nI N)) 64 0 = some r ∧ ((r = .inl () ∧ ∀ x, x < N → ¬ bl (R x) x = true) ∨ ∃ f, r = .inr (nI f) ∧ f < N ∧ bl (R f) f = true ∧ ∀ x, x < f → ¬ bl (R x) x = true) := by
  exact lp_inv (b := f_X2_lowestInRing_B7 R (nI N)) (fun i s => s = nI i ∧ ∀ x, x < i → ¬ bl (R x) x = true) N (fun r => (r = .inl () ∧ ∀ x, x < N → ¬ bl (R x) x = true) ∨ ∃ f, r = .inr (nI f) ∧ f < N ∧ bl (R f) f = true ∧ ∀ x, x < f → ¬ bl (R x) x = true)
    (by
      intro i s hi hI
      obtain ⟨rfl, hx⟩ := hI
      simp only [f_X2_lowestInRing_B7, if_neg (nle (show N < 2 ^ 30 by omega) hi), bnd_ok (show i < 38 by omega) (show 38 < 2 ^ 31 by decide), cl (show i < 2 ^ 31 by omega), isIn_eq _ (show i < 64 by omega), Option.bind_some, nI_1]
      cases q : bl (R i) i with
      | true =>
        right
        simp only [if_true, show ¬ ((1 : Int32) = 0) from by decide, if_false]
        exact ⟨_, rfl, Or.inr ⟨i, rfl, hi, q, hx⟩⟩
      | false =>
        left
        simp only [Bool.false_eq_true, if_false, if_true]
        refine ⟨_, rfl, rfl, fun x hxi => ?_⟩
        by_cases e : x = i
        · subst e; rw [q]; exact Bool.false_ne_true
        · exact hx x (by omega))
    (by
      intro s hI
      obtain ⟨rfl, hx⟩ := hI
      exact ⟨.inl (), by simp only [f_X2_lowestInRing_B7, if_pos (yle (show N < 2 ^ 30 by omega))], Or.inl ⟨rfl, hx⟩⟩) 64 0 0 ⟨rfl, fun x hx => absurd hx (Nat.not_lt_zero _)⟩ (Nat.zero_le _) (by omega)
theorem low_m {N : Nat} (hN : N ≤ 38) (R : Nat → Int64) : ∃ r, lp (f_X4_inRing_B110 R) 64 ((-1), nI N - 1) = some r ∧ ((r = -1 ∧ ∀ x, x < N → ¬ bl (R x) x = true) ∨ ∃ f, r = nI f ∧ f < N ∧ bl (R f) f = true ∧ ∀ x, x < f → ¬ bl (R x) x = true) := by
  have hd : ∀ k : Nat, nI k - 1 = nI k + (-1) := fun k => Int32.sub_eq_add_neg _ _
  exact lp_inv (b := f_X4_inRing_B110 R) (fun i s => ∃ v, s = (v, nI (N - i) - 1) ∧ ((v = -1 ∧ ∀ x, N - i ≤ x → x < N → ¬ bl (R x) x = true) ∨ ∃ f, v = nI f ∧ N - i ≤ f ∧ f < N ∧ bl (R f) f = true ∧ ∀ x, N - i ≤ x → x < f → ¬ bl (R x) x = true)) N (fun r => (r = -1 ∧ ∀ x, x < N → ¬ bl (R x) x = true) ∨ ∃ f, r = nI f ∧ f < N ∧ bl (R f) f = true ∧ ∀ x, x < f → ¬ bl (R x) x = true)
    (by
      intro i s hi hI
      obtain ⟨v, rfl, hv⟩ := hI
      left
      obtain ⟨j, hj⟩ : ∃ j, N - i = j + 1 := ⟨N - i - 1, by omega⟩
      have hj2 : N - (i + 1) = j := by omega
      have e1 : nI (N - i) - 1 = nI j := by rw [hj, hd]; exact nI_dec (Nat.succ_pos j)
      rw [e1]
      simp only [f_X4_inRing_B110, if_neg (nI_nlt0 (show j < 2 ^ 31 by omega)), bnd_ok (show j < 40 by omega) (show 40 < 2 ^ 31 by decide), cl (show j < 2 ^ 31 by omega), has_eq _ (show j < 64 by omega), Option.bind_some, hj2, hd]
      rw [hj] at hv
      cases q : bl (R j) j with
      | true =>
        simp only [if_true, show ¬ ((1 : Int32) = 0) from by decide, if_false]
        exact ⟨_, rfl, nI j, rfl, Or.inr ⟨j, rfl, by omega, by omega, q, fun x h1 h2 => by omega⟩⟩
      | false =>
        simp only [Bool.false_eq_true, if_false, if_true]
        refine ⟨_, rfl, v, rfl, ?_⟩
        rcases hv with ⟨rfl, h⟩ | ⟨f, rfl, h1, h2, h3, h4⟩
        · refine Or.inl ⟨rfl, fun x hx hx2 => ?_⟩
          by_cases e : x = j
          · subst e; rw [q]; exact Bool.false_ne_true
          · exact h x (by omega) hx2
        · refine Or.inr ⟨f, rfl, by omega, h2, h3, fun x hx hx2 => ?_⟩
          by_cases e : x = j
          · subst e; rw [q]; exact Bool.false_ne_true
          · exact h4 x (by omega) hx2)
    (by
      intro s hI
      obtain ⟨v, rfl, hv⟩ := hI
      refine ⟨v, ?_, ?_⟩
      · simp only [Nat.sub_self]
        rfl
      · rcases hv with ⟨rfl, h⟩ | ⟨f, rfl, h1, h2, h3, h4⟩
        · exact Or.inl ⟨rfl, fun x hx => h x (by omega) hx⟩
        · exact Or.inr ⟨f, rfl, h2, h3, fun x hx => h4 x (by omega) hx⟩) 64 0 ((-1), nI N - 1) ⟨-1, rfl, Or.inl ⟨rfl, fun x h1 h2 => by omega⟩⟩ (Nat.zero_le _) (by omega)
/-- both look for the lowest segment in a ring, and find the same -/
theorem rings {N : Nat} (hN : N ≤ 38) {belD belM : Nat → Int64} (hz : ∀ x, x < N → ∀ j, N ≤ j → bl (belD x) j = false) (hM : ∀ x, x < N → belM x = belD x) (rD rM : Nat → Int64) :
    ∃ v rD' rM', f_X2_lowestInRing rD belD (nI N) = some (v, rD') ∧ f_X4_inRing (nI N) belM rM = some (v, rM') ∧ ((v = -1 ∧ ∀ x, x < N → ¬ Rg N belD x) ∨ ∃ f, v = nI f ∧ f < N ∧ Rg N belD f ∧ ∀ x, x < f → ¬ Rg N belD x) := by
  obtain ⟨r1, e1, h1⟩ := low_c hN (WW N (va_cpy belD rD 0 0 38) N)
  obtain ⟨r2, e2, h2⟩ := low_m hN (WW N (fun x => if x < N then belM x else rM x) N)
  have c1 : ∀ x, x < N → WW N (va_cpy belD rD 0 0 38) N x = WW N belD N x := WW_congr (fun x hx => by
    unfold va_cpy
    rw [if_pos ⟨Nat.zero_le _, by omega⟩, Nat.zero_add, Nat.sub_zero]) N (Nat.le_refl _)
  have c2 : ∀ x, x < N → WW N (fun x => if x < N then belM x else rM x) N x = WW N belD N x := WW_congr (fun x hx => by
    rw [if_pos hx, hM x hx]) N (Nat.le_refl _)
  have f1 : f_X4_inRing (nI N) belM rM = some (r2, WW N (fun x => if x < N then belM x else rM x) N) := by
    unfold f_X4_inRing
    rw [copy_m hN]
    simp only [Option.bind_some]
    rw [reach_m hN]
    simp only [Option.bind_some]
    rw [e2]
    rfl
  refine ⟨r2, WW N (va_cpy belD rD 0 0 38) N, _, ?_, f1, ?_⟩
  · unfold f_X2_lowestInRing
    rw [reach_c hN]
    simp only [Option.bind_some]
    rw [e1]
    rcases h1 with ⟨rfl, h1⟩ | ⟨f, rfl, hf, hb, hm⟩
    · rcases h2 with ⟨rfl, h2⟩ | ⟨g, rfl, hg, hb2, hm2⟩
      · rfl
      · rw [c2 g hg, ← c1 g hg] at hb2
        exact absurd hb2 (h1 g hg)
    · rcases h2 with ⟨rfl, h2⟩ | ⟨g, rfl, hg, hb2, hm2⟩
      · rw [c1 f hf, ← c2 f hf] at hb
        exact absurd hb (h2 f hf)
      · have : f = g := by
          rcases Nat.lt_trichotomy f g with q | q | q
          · rw [c1 f hf, ← c2 f hf] at hb
            exact absurd hb (hm2 f q)
          · exact q
          · rw [c2 g hg, ← c1 g hg] at hb2
            exact absurd hb2 (hm g q)
        rw [this]
        rfl
  · rcases h2 with ⟨rfl, h2⟩ | ⟨g, rfl, hg, hb2, hm2⟩
    · refine Or.inl ⟨rfl, fun x hx hr => h2 x hx ?_⟩
      rw [c2 x hx]
      exact (Rg_bit hz hx).mpr hr
    · rw [c2 g hg] at hb2
      refine Or.inr ⟨g, rfl, hg, (Rg_bit hz hg).mp hb2, fun x hx hr => hm2 x hx ?_⟩
      rw [c2 x (by omega)]
      exact (Rg_bit hz (by omega)).mpr hr

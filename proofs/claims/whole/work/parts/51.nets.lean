/-- the reference's pins are the class's -/
def PR (top bot pins : Nat → Int32) : Prop := ∀ c, c < 20 → pins c = top c ∧ pins (20 + c) = bot c
abbrev hs (top bot : Nat → Int32) (n : Int32) (c : Nat) : Prop := top c = n ∨ bot c = n
theorem has_spec (top bot : Nat → Int32) (n : Int32) {c : Nat} (hc : c < 20) : f_X0_has top bot n (nI c) = some (if hs top bot n c then 1 else 0) := by
  unfold f_X0_has
  rw [bnd_ok hc (by decide), cl (by omega), bnd_ok hc (by decide)]
  by_cases h1 : top c = n <;> by_cases h2 : bot c = n <;> simp [hs, h1, h2]
theorem ge20 {i : Nat} (h : i < 20) : ¬ (20 : Int32) ≤ nI i := by
  rw [show (20 : Int32) = nI 20 from rfl, nI_le_iff (by decide) (by omega)]
  omega
theorem ge40 {i : Nat} (h : i < 40) : ¬ (40 : Int32) ≤ nI i := by
  rw [show (40 : Int32) = nI 40 from rfl, nI_le_iff (by decide) (by omega)]
  omega
theorem gt9 {i : Nat} (h : i ≤ 9) : ¬ (9 : Int32) < nI i := by
  rw [show (9 : Int32) = nI 9 from rfl, nI_lt_iff (by decide) (by omega)]
  omega
def cq (p : Nat → Int32) (n : Int32) : Nat → Nat
  | 0 => 0
  | k + 1 => cq p n k + (if p k = n then 1 else 0)
theorem cq_le (p : Nat → Int32) (n : Int32) : ∀ k, cq p n k ≤ k := by
  intro k
  induction k with
  | zero => exact Nat.le_refl _
  | succ k ih =>
    show cq p n k + (if p k = n then 1 else 0) ≤ k + 1
    by_cases h : p k = n
    · rw [if_pos h]; omega
    · rw [if_neg h]; omega
theorem cq_congr {p q : Nat → Int32} (n : Int32) : ∀ k, (∀ j, j < k → p j = q j) → cq p n k = cq q n k := by
  intro k
  induction k with
  | zero => intro _; rfl
  | succ k ih =>
    intro h
    show cq p n k + (if p k = n then 1 else 0) = cq q n k + (if q k = n then 1 else 0)
    rw [ih (fun j hj => h j (by omega)), h k (by omega)]
theorem cq_shift {p q : Nat → Int32} (n : Int32) (m : Nat) : ∀ k, (∀ j, j < k → p (m + j) = q j) → cq p n (m + k) = cq p n m + cq q n k := by
  intro k
  induction k with
  | zero => intro _; rfl
  | succ k ih =>
    intro h
    show cq p n (m + k) + (if p (m + k) = n then 1 else 0) = cq p n m + (cq q n k + (if q k = n then 1 else 0))
    rw [ih (fun j hj => h j (by omega)), h k (by omega), Nat.add_assoc]
theorem pinsOf_c (top bot : Nat → Int32) (n : Int32) : f_X0_pinsOf top bot n = some (nI (cq top n 20 + cq bot n 20)) := by
  unfold f_X0_pinsOf
  have e : lp (f_X0_pinsOf_B4 n top bot) 64 (0, 0) = some (nI (cq top n 20 + cq bot n 20)) := by
   refine lp_cnt (fun i => (nI (cq top n i + cq bot n i), nI i)) 20 (nI (cq top n 20 + cq bot n 20)) ?_ ?_ (by decide)
   · intro i hi
     simp only [f_X0_pinsOf_B4, if_neg (ge20 hi), bnd_ok hi (show 20 < 2 ^ 31 by decide), cl (show i < 2 ^ 31 by omega), cq]
     by_cases h1 : top i = n <;> by_cases h2 : bot i = n <;> simp only [h1, h2, if_true, if_false, nI_1, Nat.add_zero] <;> (try (congr 4)) <;> (try omega)
   · rfl
  rw [e]
  rfl
theorem pinsOf_m (pins : Nat → Int32) (n : Int32) : f_X4_pinsOf pins n = some (nI (cq pins n 40)) := by
  unfold f_X4_pinsOf
  have e : lp (f_X4_pinsOf_B4 n pins) 64 (0, 0) = some (nI (cq pins n 40)) := by
   refine lp_cnt (fun i => (nI (cq pins n i), nI i)) 40 (nI (cq pins n 40)) ?_ ?_ (by decide)
   · intro i hi
     simp only [f_X4_pinsOf_B4, if_neg (ge40 hi), bnd_ok hi (show 40 < 2 ^ 31 by decide), cl (show i < 2 ^ 31 by omega), cq]
     by_cases h1 : pins i = n <;> simp only [h1, if_true, if_false, nI_1, Nat.add_zero]
   · rfl
  rw [e]
  rfl
theorem cq_PR {top bot pins : Nat → Int32} (h : PR top bot pins) (n : Int32) : cq pins n 40 = cq top n 20 + cq bot n 20 := by
  rw [show (40 : Nat) = 20 + 20 from rfl, cq_shift (q := bot) n 20 20 (fun j hj => (h j hj).2), cq_congr (q := top) n 20 (fun j hj => (h j hj).1)]
/-- a net's columns, as bits -/
def WD (top bot : Nat → Int32) (n : Int32) : Nat → Int32
  | 0 => 0
  | c + 1 => if hs top bot n c then WD top bot n c ||| ((1 : Int32) <<< (nI c &&& 31)) else WD top bot n c
theorem WD_bt (top bot : Nat → Int32) (n : Int32) : ∀ c, c ≤ 32 → ∀ j, j < 32 → bt (WD top bot n c) j = decide (j < c ∧ hs top bot n j) := by
  intro c
  induction c with
  | zero => intro _ j _; simp [WD, bt_0]
  | succ c ih =>
    intro hc j hj
    have ih := ih (by omega) j hj
    unfold WD
    by_cases h : hs top bot n c
    · rw [if_pos h, bt_or, ih, bt_one c (by omega) j hj]
      by_cases e : j = c
      · subst e; simp [h]
      · have : (j < c + 1) ↔ (j < c) := by omega
        simp [e, this]
    · rw [if_neg h, ih]
      by_cases e : j = c
      · subst e; simp [h]
      · have : (j < c + 1) ↔ (j < c) := by omega
        simp [this]
theorem columns_m {top bot pins : Nat → Int32} (h : PR top bot pins) (n : Int32) : f_X4_columns pins n = some (WD top bot n 20) := by
  unfold f_X4_columns
  have e : lp (f_X4_columns_B4 n pins) 64 (0, 0) = some (WD top bot n 20) := by
   refine lp_cnt (fun i => (WD top bot n i, nI i)) 20 (WD top bot n 20) ?_ ?_ (by decide)
   · intro i hi
     simp only [f_X4_columns_B4, if_neg (ge20 hi), nI_20, bnd_ok (show i < 40 by omega) (show 40 < 2 ^ 31 by decide), bnd_ok (show 20 + i < 40 by omega) (show 40 < 2 ^ 31 by decide), cl (show i < 2 ^ 31 by omega), cl (show 20 + i < 2 ^ 31 by omega), (h i hi).1, (h i hi).2, WD]
     by_cases h1 : top i = n <;> by_cases h2 : bot i = n <;> simp [h1, h2, hs, nI_1]
   · rfl
  rw [e]
  rfl
theorem whole_c (top bot : Nat → Int32) (n : Int32) : lp (f_X1_addWhole_B5 n top bot) 64 (0, 0) = some (WD top bot n 20) := by
  refine lp_cnt (fun i => (WD top bot n i, nI i)) 20 (WD top bot n 20) ?_ ?_ (by decide)
  · intro i hi
    simp only [f_X1_addWhole_B5, if_neg (ge20 hi), has_spec top bot n hi, Option.bind_some, WD]
    by_cases h1 : hs top bot n i
    · simp [h1, nI_1]
    · simp [h1, nI_1]
  · rfl
theorem first_c {top bot : Nat → Int32} {n : Int32} {a : Nat} (ha : a < 20) (h : hs top bot n a) (hm : ∀ d, d < a → ¬ hs top bot n d) : f_X0_firstColumn top bot n = some (nI a) := by
  unfold f_X0_firstColumn
  obtain ⟨r, e, rfl⟩ := lp_inv (b := f_X0_firstColumn_B2 n top bot) (fun i s => s = nI i) a (fun r => r = Sum.inr (nI a)) (fun i s hi hI => by
      subst hI
      refine Or.inl ⟨nI (i + 1), ?_, rfl⟩
      simp only [f_X0_firstColumn_B2, if_neg (ge20 (show i < 20 by omega)), has_spec top bot n (show i < 20 by omega), Option.bind_some, if_neg (hm i hi), if_true, nI_1]) (fun s hI => by
      subst hI
      refine ⟨_, ?_, rfl⟩
      simp only [f_X0_firstColumn_B2, if_neg (ge20 ha), has_spec top bot n ha, Option.bind_some, if_pos h]
      rfl) 64 0 0 rfl (Nat.zero_le _) (by omega)
  rw [e]
  rfl
theorem first_none {top bot : Nat → Int32} {n : Int32} (hm : ∀ d, d < 20 → ¬ hs top bot n d) : f_X0_firstColumn top bot n = some (-1) := by
  unfold f_X0_firstColumn
  obtain ⟨r, e, rfl⟩ := lp_inv (b := f_X0_firstColumn_B2 n top bot) (fun i s => s = nI i) 20 (fun r => r = Sum.inl ()) (fun i s hi hI => by
      subst hI
      refine Or.inl ⟨nI (i + 1), ?_, rfl⟩
      simp only [f_X0_firstColumn_B2, if_neg (ge20 hi), has_spec top bot n hi, Option.bind_some, if_neg (hm i hi), if_true, nI_1]) (fun s hI => by
      subst hI
      exact ⟨_, rfl, rfl⟩) 64 0 0 rfl (Nat.zero_le _) (by omega)
  rw [e]
  rfl
theorem last_c {top bot : Nat → Int32} {n : Int32} {b : Nat} (hb : b < 20) (h : hs top bot n b) (hm : ∀ d, b < d → d < 20 → ¬ hs top bot n d) : f_X0_lastColumn top bot n = some (nI b) := by
  unfold f_X0_lastColumn
  obtain ⟨r, e, rfl⟩ := lp_inv (b := f_X0_lastColumn_B3 n top bot) (fun i s => s = nI (19 - i)) (19 - b) (fun r => r = Sum.inr (nI b)) (fun i s hi hI => by
      subst hI
      refine Or.inl ⟨nI (19 - (i + 1)), ?_, rfl⟩
      simp only [f_X0_lastColumn_B3, if_neg (nI_nlt0 (show 19 - i < 2 ^ 31 by omega)), has_spec top bot n (show 19 - i < 20 by omega), Option.bind_some, if_neg (hm (19 - i) (by omega) (by omega)), if_true, nI_dec (show 0 < 19 - i by omega)]
      rfl) (fun s hI => by
      have e : 19 - (19 - b) = b := by omega
      rw [e] at hI
      subst hI
      refine ⟨_, ?_, rfl⟩
      simp only [f_X0_lastColumn_B3, if_neg (nI_nlt0 (show b < 2 ^ 31 by omega)), has_spec top bot n hb, Option.bind_some, if_pos h]
      rfl) 64 0 19 rfl (Nat.zero_le _) (by omega)
  rw [e]
  rfl
theorem lowest_m {w : Int32} {a : Nat} (ha : a < 32) (h : bt w a = true) (hm : ∀ d, d < a → bt w d = false) : f_X4_lowest w = some (nI a) := by
  unfold f_X4_lowest
  obtain ⟨r, e, rfl⟩ := lp_inv (b := f_X4_lowest_B2 w) (fun i s => s = nI i) a (fun r => r = nI a) (fun i s hi hI => by
      subst hI
      refine Or.inl ⟨nI (i + 1), ?_, rfl⟩
      simp only [f_X4_lowest_B2, bt_test (show i < 32 by omega), hm i hi]
      simp [nI_1]) (fun s hI => by
      subst hI
      refine ⟨_, ?_, rfl⟩
      simp only [f_X4_lowest_B2, bt_test ha, h]
      rfl) 64 0 0 rfl (Nat.zero_le _) (by omega)
  rw [e]
  rfl
theorem highest_m {w : Int32} {b : Nat} (hb : b < 20) (h : bt w b = true) (hm : ∀ d, b < d → d < 20 → bt w d = false) : f_X4_highest w = some (nI b) := by
  unfold f_X4_highest
  obtain ⟨r, e, rfl⟩ := lp_inv (b := f_X4_highest_B3 w) (fun i s => s = nI (19 - i)) (19 - b) (fun r => r = nI b) (fun i s hi hI => by
      subst hI
      refine Or.inl ⟨nI (19 - (i + 1)), ?_, rfl⟩
      simp only [f_X4_highest_B3, bt_test (show 19 - i < 32 by omega), hm (19 - i) (by omega) (by omega), nI_dec (show 0 < 19 - i by omega)]
      rfl) (fun s hI => by
      have e : 19 - (19 - b) = b := by omega
      rw [e] at hI
      subst hI
      refine ⟨_, ?_, rfl⟩
      simp only [f_X4_highest_B3, bt_test (show b < 32 by omega), h]
      rfl) 64 0 19 rfl (Nat.zero_le _) (by omega)
  rw [e]
  rfl
theorem cq_pos (p : Nat → Int32) (n : Int32) : ∀ k, 0 < cq p n k → ∃ c, c < k ∧ p c = n := by
  intro k
  induction k with
  | zero => intro h; exact absurd h (Nat.lt_irrefl 0)
  | succ k ih =>
    intro h
    by_cases e : p k = n
    · exact ⟨k, by omega, e⟩
    · have h : 0 < cq p n k + (if p k = n then 1 else 0) := h
      rw [if_neg e] at h
      obtain ⟨c, hc, h2⟩ := ih h
      exact ⟨c, by omega, h2⟩
theorem ends {top bot : Nat → Int32} {n : Int32} (h : ∃ c, c < 20 ∧ hs top bot n c) : ∃ a b, a ≤ b ∧ b < 20 ∧ hs top bot n a ∧ hs top bot n b ∧ ∀ c, c < 20 → hs top bot n c → a ≤ c ∧ c ≤ b := by
  obtain ⟨a, ha, hm⟩ := pk_least (fun c => c < 20 ∧ hs top bot n c) h
  obtain ⟨b, hb, hM⟩ := pk_least (fun c => c < 20 ∧ hs top bot n (19 - c)) (by
    obtain ⟨c, hc, h⟩ := h
    exact ⟨19 - c, by omega, by rw [show 19 - (19 - c) = c by omega]; exact h⟩)
  have key : ∀ c, c < 20 → hs top bot n c → a ≤ c ∧ c ≤ 19 - b := by
    intro c hc h
    constructor
    · apply Classical.byContradiction
      intro q
      exact hm c (by omega) ⟨hc, h⟩
    · apply Classical.byContradiction
      intro q
      exact hM (19 - c) (by omega) ⟨by omega, by rw [show 19 - (19 - c) = c by omega]; exact h⟩
  exact ⟨a, 19 - b, (key _ (by omega) hb.2).1, by omega, ha.2, hb.2, key⟩
/-- what both know of a net -/
theorem nets {top bot pins : Nat → Int32} (h : PR top bot pins) (n : Int32) : ∃ cnt kd : Nat, cnt ≤ 40 ∧ kd ≤ 3 ∧ f_X0_pinsOf top bot n = some (nI cnt) ∧ f_X4_pinsOf pins n = some (nI cnt) ∧ f_X0_kindOf top bot n = some (nI kd) ∧ f_X4_sort pins n = some (nI kd) ∧ f_X0_isLong top bot n = some (if kd = 3 then 1 else 0) ∧ (kd = 3 → ∃ a b, a < b ∧ b < 20 ∧ hs top bot n a ∧ hs top bot n b ∧ (∀ c, c < 20 → hs top bot n c → a ≤ c ∧ c ≤ b) ∧ f_X0_firstColumn top bot n = some (nI a) ∧ f_X0_lastColumn top bot n = some (nI b) ∧ f_X4_lowest (WD top bot n 20) = some (nI a) ∧ f_X4_highest (WD top bot n 20) = some (nI b)) := by
  have h1 := pinsOf_c top bot n
  have h2 := pinsOf_m pins n
  rw [cq_PR h] at h2
  have hle1 := cq_le top n 20
  have hle2 := cq_le bot n 20
  generalize hc : cq top n 20 + cq bot n 20 = cnt at h1 h2
  have long_of : ∀ kd : Nat, kd ≤ 3 → f_X0_kindOf top bot n = some (nI kd) → f_X0_isLong top bot n = some (if kd = 3 then 1 else 0) := by
    intro kd hk e
    unfold f_X0_isLong
    rw [e]
    rcases (show kd = 0 ∨ kd = 1 ∨ kd = 2 ∨ kd = 3 by omega) with rfl | rfl | rfl | rfl <;> rfl
  rcases (show cnt = 0 ∨ cnt = 1 ∨ 2 ≤ cnt by omega) with rfl | rfl | hge
  · have k1 : f_X0_kindOf top bot n = some (nI 0) := by unfold f_X0_kindOf; rw [h1]; rfl
    have k2 : f_X4_sort pins n = some (nI 0) := by unfold f_X4_sort; rw [h2, columns_m h]; rfl
    exact ⟨0, 0, by omega, by omega, h1, h2, k1, k2, long_of 0 (by omega) k1, by omega⟩
  · have k1 : f_X0_kindOf top bot n = some (nI 1) := by unfold f_X0_kindOf; rw [h1]; rfl
    have k2 : f_X4_sort pins n = some (nI 1) := by unfold f_X4_sort; rw [h2, columns_m h]; rfl
    exact ⟨1, 1, by omega, by omega, h1, h2, k1, k2, long_of 1 (by omega) k1, by omega⟩
  · have hex : ∃ c, c < 20 ∧ hs top bot n c := by
      rcases (show 0 < cq top n 20 ∨ 0 < cq bot n 20 by omega) with q | q
      · obtain ⟨c, h3, h4⟩ := cq_pos top n 20 q
        exact ⟨c, h3, Or.inl h4⟩
      · obtain ⟨c, h3, h4⟩ := cq_pos bot n 20 q
        exact ⟨c, h3, Or.inr h4⟩
    obtain ⟨a, b, hab, hb, ha1, hb1, hall⟩ := ends hex
    have e1 := first_c (show a < 20 by omega) ha1 (fun d hd q => by have := hall d (by omega) q; omega)
    have e2 := last_c hb hb1 (fun d hd hd2 q => by have := hall d hd2 q; omega)
    have e3 : f_X4_lowest (WD top bot n 20) = some (nI a) := lowest_m (show a < 32 by omega) (by rw [WD_bt top bot n 20 (by omega) a (by omega)]; simp [ha1]; omega) (fun d hd => by
      rw [WD_bt top bot n 20 (by omega) d (by omega)]
      have : ¬ hs top bot n d := fun q => by have := hall d (by omega) q; omega
      simp [this])
    have e4 : f_X4_highest (WD top bot n 20) = some (nI b) := highest_m hb (by rw [WD_bt top bot n 20 (by omega) b (by omega)]; simp [hb1]; omega) (fun d hd hd2 => by
      rw [WD_bt top bot n 20 (by omega) d (by omega)]
      have : ¬ hs top bot n d := fun q => by have := hall d hd2 q; omega
      simp [this])
    have n0 : ¬ nI cnt = 0 := by rw [show (0 : Int32) = nI 0 from rfl, nI_inj (by omega) (by omega)]; omega
    have n1 : ¬ nI cnt = 1 := by rw [show (1 : Int32) = nI 1 from rfl, nI_inj (by omega) (by omega)]; omega
    have n2 : (2 : Int32) ≤ nI cnt := by rw [show (2 : Int32) = nI 2 from rfl, nI_le_iff (by omega) (by omega)]; exact hge
    have k1 : f_X0_kindOf top bot n = some (nI (if a = b then 2 else 3)) := by
      unfold f_X0_kindOf
      simp only [h1, Option.bind_some, if_neg n0, if_neg n1, e1, e2, nI_inj (show a < 2 ^ 31 by omega) (show b < 2 ^ 31 by omega)]
      by_cases q : a = b
      · rw [if_pos q, if_pos q]; rfl
      · rw [if_neg q, if_neg q]; rfl
    have k2 : f_X4_sort pins n = some (nI (if a = b then 2 else 3)) := by
      unfold f_X4_sort
      simp only [h2, columns_m h, Option.bind_some, if_pos n2, e3, e4, nI_inj (show a < 2 ^ 31 by omega) (show b < 2 ^ 31 by omega)]
      by_cases q : a = b
      · rw [if_pos q, if_pos q]; rfl
      · rw [if_neg q, if_neg q]; rfl
    have hk3 : (if a = b then 2 else 3 : Nat) ≤ 3 := by by_cases q : a = b <;> simp [q]
    refine ⟨cnt, if a = b then 2 else 3, by omega, hk3, h1, h2, k1, k2, long_of _ hk3 k1, fun q => ?_⟩
    have hne : a ≠ b := by
      intro e
      rw [if_pos e] at q
      omega
    exact ⟨a, b, by omega, hb, ha1, hb1, hall, e1, e2, e3, e4⟩

/-! how many segments there can be -/
def Rk (top bot : Nat → Int32) (c : Nat) : Nat → Nat
  | 0 => 0
  | k + 1 => Rk top bot c k + (if hs top bot (nI (k + 1)) c then 1 else 0)
def Ra (x : Int32) : Nat → Nat
  | 0 => 0
  | k + 1 => Ra x k + (if x = nI (k + 1) then 1 else 0)
theorem Ra_le (x : Int32) : ∀ k, k < 2 ^ 30 → Ra x k ≤ 1 ∧ (0 < Ra x k → ∃ j, j ≤ k ∧ x = nI j) := by
  intro k
  induction k with
  | zero => intro _; exact ⟨Nat.zero_le _, fun h => absurd h (Nat.lt_irrefl 0)⟩
  | succ k ih =>
    intro hk
    obtain ⟨h1, h2⟩ := ih (by omega)
    unfold Ra
    by_cases e : x = nI (k + 1)
    · rw [if_pos e]
      have : Ra x k = 0 := by
        rcases Nat.eq_zero_or_pos (Ra x k) with q | q
        · exact q
        · obtain ⟨j, hj, hx⟩ := h2 q
          rw [hx, nI_inj (by omega) (by omega)] at e
          omega
      exact ⟨by omega, fun _ => ⟨k + 1, Nat.le_refl _, e⟩⟩
    · rw [if_neg e]
      exact ⟨by omega, fun h => by
        obtain ⟨j, hj, hx⟩ := h2 h
        exact ⟨j, by omega, hx⟩⟩
theorem Rk_le (top bot : Nat → Int32) (c : Nat) : ∀ k, Rk top bot c k ≤ Ra (top c) k + Ra (bot c) k := by
  intro k
  induction k with
  | zero => exact Nat.le_refl _
  | succ k ih =>
    show Rk top bot c k + (if hs top bot (nI (k + 1)) c then 1 else 0) ≤ (Ra (top c) k + (if top c = nI (k + 1) then 1 else 0)) + (Ra (bot c) k + (if bot c = nI (k + 1) then 1 else 0))
    by_cases h1 : top c = nI (k + 1)
    · rw [if_pos (Or.inl h1), if_pos h1]
      omega
    · by_cases h2 : bot c = nI (k + 1)
      · rw [if_pos (Or.inr h2), if_neg h1, if_pos h2]
        omega
      · rw [if_neg (fun q => q.elim h1 h2), if_neg h1, if_neg h2]
        omega
/-- a net's columns behind column 0 -/
def Qc (top bot : Nat → Int32) (n : Int32) : Nat → Nat
  | 0 => 0
  | c + 1 => Qc top bot n c + (if 0 < c ∧ hs top bot n c then 1 else 0)
def Sk (top bot : Nat → Int32) (k : Nat) : Nat → Nat
  | 0 => 0
  | c + 1 => Sk top bot k c + (if 0 < c then Rk top bot c k else 0)
theorem Sk_succ (top bot : Nat → Int32) (k : Nat) : ∀ c, Sk top bot (k + 1) c = Sk top bot k c + Qc top bot (nI (k + 1)) c := by
  intro c
  induction c with
  | zero => rfl
  | succ c ih =>
    unfold Sk Qc
    rw [ih]
    by_cases h : 0 < c
    · rw [if_pos h, if_pos h]
      show _ + (Rk top bot c k + (if hs top bot (nI (k + 1)) c then 1 else 0)) = _
      by_cases e : hs top bot (nI (k + 1)) c
      · rw [if_pos e, if_pos ⟨h, e⟩]; omega
      · rw [if_neg e, if_neg (fun q => e q.2)]; omega
    · rw [if_neg h, if_neg h, if_neg (fun q => h q.1)]
      omega
theorem Sk_le (top bot : Nat → Int32) {k : Nat} (hk : k < 2 ^ 30) : ∀ c, Sk top bot k c ≤ 2 * (c - 1) := by
  intro c
  induction c with
  | zero => exact Nat.le_refl _
  | succ c ih =>
    unfold Sk
    by_cases h : 0 < c
    · rw [if_pos h]
      have h1 := Rk_le top bot c k
      have h2 := (Ra_le (top c) k hk).1
      have h3 := (Ra_le (bot c) k hk).1
      omega
    · rw [if_neg h]
      omega
theorem Sk0 (top bot : Nat → Int32) : ∀ c, Sk top bot 0 c = 0 := by
  intro c
  induction c with
  | zero => rfl
  | succ c ih =>
    unfold Sk
    rw [ih]
    by_cases h : 0 < c
    · rw [if_pos h]; rfl
    · rw [if_neg h]
theorem Qc_mono (top bot : Nat → Int32) (n : Int32) {c d : Nat} (h : c ≤ d) : Qc top bot n c ≤ Qc top bot n d := by
  induction d with
  | zero => rw [show c = 0 by omega]; exact Nat.le_refl _
  | succ d ih =>
    rcases Nat.lt_or_ge c (d + 1) with q | q
    · have := ih (by omega)
      show Qc top bot n c ≤ Qc top bot n d + (if 0 < d ∧ hs top bot n d then 1 else 0)
      omega
    · rw [show c = d + 1 by omega]
      exact Nat.le_refl _
theorem Qc_at (top bot : Nat → Int32) {n : Int32} {c : Nat} (h0 : 0 < c) (h : hs top bot n c) : Qc top bot n (c + 1) = Qc top bot n c + 1 := by
  show Qc top bot n c + (if 0 < c ∧ hs top bot n c then 1 else 0) = _
  rw [if_pos ⟨h0, h⟩]
/-! the segments of class and reference, side by side -/
def SR (n : Nat) (nD lD rD tD nM lM rM tM : Nat → Int32) : Prop := ∀ i, i < n → nD i = nM i ∧ lD i = lM i ∧ rD i = rM i ∧ tD i = tM i
def SV (n : Nat) (nD lD rD : Nat → Int32) : Prop := ∀ i, i < n → ∃ k a b : Nat, 1 ≤ k ∧ k ≤ 9 ∧ a < b ∧ b < 20 ∧ nD i = nI k ∧ lD i = nI a ∧ rD i = nI b
theorem SR_add {n : Nat} {nD lD rD tD nM lM rM tM : Nat → Int32} (h : SR n nD lD rD tD nM lM rM tM) (x a b t : Int32) : SR (n + 1) (upd nD n x) (upd lD n a) (upd rD n b) (upd tD n t) (upd nM n x) (upd lM n a) (upd rM n b) (upd tM n t) := by
  intro i hi
  simp only [ui]
  by_cases e : i = n
  · simp [e]
  · simp only [if_neg e]
    exact h i (by omega)
theorem SV_add {n : Nat} {nD lD rD : Nat → Int32} (h : SV n nD lD rD) {k a b : Nat} (h1 : 1 ≤ k) (h2 : k ≤ 9) (h3 : a < b) (h4 : b < 20) : SV (n + 1) (upd nD n (nI k)) (upd lD n (nI a)) (upd rD n (nI b)) := by
  intro i hi
  simp only [ui]
  by_cases e : i = n
  · simp only [if_pos e]
    exact ⟨k, a, b, h1, h2, h3, h4, rfl, rfl, rfl⟩
  · simp only [if_neg e]
    exact h i (by omega)
theorem add_c {n : Nat} (hn : n < 38) (nD lD rD tD : Nat → Int32) (x a b t : Int32) : f_X1_add nD lD rD tD (nI n) x a b t = some (upd nD n x, upd lD n a, upd rD n b, upd tD n t, nI (n + 1)) := by
  unfold f_X1_add
  have h : ¬ (38 : Int32) ≤ nI n := by rw [show (38 : Int32) = nI 38 from rfl, nI_le_iff (by decide) (by omega)]; omega
  simp only [if_neg h, bnd_ok hn (show 38 < 2 ^ 31 by decide), cl (show n < 2 ^ 31 by omega), nI_1]
theorem add_m {n : Nat} (hn : n < 40) (nM lM rM tM : Nat → Int32) (x a b t : Int32) : f_X4_segmentOf (nI n) nM lM rM tM x a b t = some (nI (n + 1), upd nM n x, upd lM n a, upd rM n b, upd tM n t) := by
  unfold f_X4_segmentOf
  simp only [bnd_ok hn (show 40 < 2 ^ 31 by decide), cl (show n < 2 ^ 31 by omega), nI_1]
/-- the pieces of one net -/
theorem pieces {top bot pins : Nat → Int32} (h : PR top bot pins) {k : Nat} (hk1 : 1 ≤ k) (hk9 : k ≤ 9) (hs3 : f_X4_sort pins (nI k) = some (nI 3)) {cuts : Int32} (hc : ¬ cuts = 0) {n0 B : Nat} (hB : B + Qc top bot (nI k) 20 ≤ 38) (hn0 : n0 ≤ B) {nD lD rD tD nM lM rM tM : Nat → Int32} (hR : SR n0 nD lD rD tD nM lM rM tM) (hV : SV n0 nD lD rD) :
    ∃ n nD' lD' rD' tD' nM' lM' rM' tM', f_X1_addPieces nD lD rD tD (nI n0) top bot (nI k) = some (nD', lD', rD', tD', nI n) ∧ lp (f_X4_makeSegments_B52 cuts (nI k) (WD top bot (nI k) 20) pins) 64 ((-1), 0, nI n0, nM, lM, rM, tM) = some (nI n, nM', lM', rM', tM') ∧ n ≤ B + Qc top bot (nI k) 20 ∧ SR n nD' lD' rD' tD' nM' lM' rM' tM' ∧ SV n nD' lD' rD' := by
  obtain ⟨r, r', e, e', n, nD', lD', rD', tD', nM', lM', rM', tM', rfl, rfl, h1, h2, h3⟩ := lp_two (b := f_X1_addPieces_B5 (nI k) top bot) (b' := f_X4_makeSegments_B52 cuts (nI k) (WD top bot (nI k) 20) pins)
    (fun c s s' => ∃ (n : Nat) (f : Int32) (nD lD rD tD nM lM rM tM : Nat → Int32), s = (f, nI c, nD, lD, rD, tD, nI n) ∧ s' = (f, nI c, nI n, nM, lM, rM, tM) ∧ (f = -1 ∨ ∃ a, a < c ∧ f = nI a) ∧ n ≤ B + Qc top bot (nI k) c ∧ SR n nD lD rD tD nM lM rM tM ∧ SV n nD lD rD) 20
    (fun r r' => ∃ (n : Nat) (nD lD rD tD nM lM rM tM : Nat → Int32), r = (nD, lD, rD, tD, nI n) ∧ r' = (nI n, nM, lM, rM, tM) ∧ n ≤ B + Qc top bot (nI k) 20 ∧ SR n nD lD rD tD nM lM rM tM ∧ SV n nD lD rD)
    (by
      intro c s s' hc20 hI
      obtain ⟨n, f, nD, lD, rD, tD, nM, lM, rM, tM, rfl, rfl, hf, hn, hR, hV⟩ := hI
      have hQ : Qc top bot (nI k) (c + 1) = Qc top bot (nI k) c + (if 0 < c ∧ hs top bot (nI k) c then 1 else 0) := rfl
      have hbit : ((WD top bot (nI k) 20 >>> (nI c &&& 31)) &&& 1) = if hs top bot (nI k) c then 1 else 0 := by
        rw [bt_test (show c < 32 by omega), WD_bt top bot (nI k) 20 (by omega) c (by omega)]
        by_cases q : hs top bot (nI k) c <;> simp [q, hc20]
      simp only [f_X1_addPieces_B5, f_X4_makeSegments_B52, if_neg (ge20 hc20), has_spec top bot (nI k) hc20, Option.bind_some, hs3, if_neg hc, hbit, show (nI 3 = (3 : Int32)) from rfl, if_true]
      by_cases q : hs top bot (nI k) c
      · simp only [if_pos q, if_true, show ¬ ((1 : Int32) = 0) from by decide, if_false]
        rcases hf with rfl | ⟨a, ha, rfl⟩
        · simp only [if_pos m1_lt0, if_true, nI_1]
          exact ⟨_, _, rfl, rfl, n, nI c, nD, lD, rD, tD, nM, lM, rM, tM, rfl, rfl, Or.inr ⟨c, by omega, rfl⟩, by omega, hR, hV⟩
        · have hq := Qc_at top bot (show 0 < c by omega) q
          have hm := Qc_mono top bot (nI k) (show c + 1 ≤ 20 by omega)
          simp only [if_neg (nI_ne_m1 (show a < 2 ^ 31 by omega)), if_neg (nI_nlt0 (show a < 2 ^ 31 by omega)), add_c (show n < 38 by omega), add_m (show n < 40 by omega), Option.bind_some, nI_1]
          exact ⟨_, _, rfl, rfl, n + 1, nI c, _, _, _, _, _, _, _, _, rfl, rfl, Or.inr ⟨c, by omega, rfl⟩, by omega, SR_add hR _ _ _ _, SV_add hV hk1 hk9 ha hc20⟩
      · simp only [if_neg q, if_true, show ¬ ((0 : Int32) = 1) from by decide, if_false, nI_1]
        refine ⟨_, _, rfl, rfl, n, f, nD, lD, rD, tD, nM, lM, rM, tM, rfl, rfl, ?_, by omega, hR, hV⟩
        rcases hf with hf | ⟨a, ha, hf⟩
        · exact Or.inl hf
        · exact Or.inr ⟨a, by omega, hf⟩)
    (by
      intro s s' hI
      obtain ⟨n, f, nD, lD, rD, tD, nM, lM, rM, tM, rfl, rfl, hf, hn, hR, hV⟩ := hI
      exact ⟨_, _, rfl, rfl, n, nD, lD, rD, tD, nM, lM, rM, tM, rfl, rfl, hn, hR, hV⟩)
    64 64 0 ((-1), 0, nD, lD, rD, tD, nI n0) ((-1), 0, nI n0, nM, lM, rM, tM) ⟨n0, -1, nD, lD, rD, tD, nM, lM, rM, tM, rfl, rfl, Or.inl rfl, hn0, hR, hV⟩ (by omega) (by omega) (by omega)
  refine ⟨n, nD', lD', rD', tD', nM', lM', rM', tM', ?_, e', h1, h2, h3⟩
  unfold f_X1_addPieces
  rw [e]
  rfl
/-- where nothing is cut, the reference's inner loop ends at once -/
theorem inner_none {pins : Nat → Int32} {k kd : Nat} (hkd : kd ≤ 3) (hs3 : f_X4_sort pins (nI k) = some (nI kd)) {cuts : Int32} (hc : kd = 3 → cuts = 0) (w : Int32) (n : Int32) (nM lM rM tM : Nat → Int32) : lp (f_X4_makeSegments_B52 cuts (nI k) w pins) 64 ((-1), 0, n, nM, lM, rM, tM) = some (n, nM, lM, rM, tM) := by
  have e : f_X4_makeSegments_B52 cuts (nI k) w pins ((-1), 0, n, nM, lM, rM, tM) = some (.inr (n, nM, lM, rM, tM)) := by
    simp only [f_X4_makeSegments_B52, show ¬ ((20 : Int32) ≤ 0) from by decide, if_false, hs3, Option.bind_some]
    by_cases q : kd = 3
    · subst q
      rw [hc rfl]
      rfl
    · have : ¬ nI kd = 3 := by rw [show (3 : Int32) = nI 3 from rfl, nI_inj (by omega) (by omega)]; exact q
      rw [if_neg this]
  unfold lp
  rw [e]
theorem segs {top bot pins : Nat → Int32} (h : PR top bot pins) (cuts : Int32) (nD lD rD tD nM lM rM tM : Nat → Int32) : ∃ n nD' lD' rD' tD' nM' lM' rM' tM', lp (f_X1_draw_B6 cuts top bot) 64 (1, nD, lD, rD, tD, 0) = some (nD', lD', rD', tD', nI n) ∧ f_X4_makeSegments pins nM lM rM tM cuts = some (nI n, nM', lM', rM', tM') ∧ n ≤ 38 ∧ SR n nD' lD' rD' tD' nM' lM' rM' tM' ∧ SV n nD' lD' rD' := by
  obtain ⟨r, r', e, e', n, nD', lD', rD', tD', nM', lM', rM', tM', rfl, rfl, h1, h2, h3⟩ := lp_two (b := f_X1_draw_B6 cuts top bot) (b' := f_X4_makeSegments_B7 cuts pins)
    (fun k s s' => ∃ (n : Nat) (nD lD rD tD nM lM rM tM : Nat → Int32), s = (nI (k + 1), nD, lD, rD, tD, nI n) ∧ s' = (nI (k + 1), nI n, nM, lM, rM, tM) ∧ n ≤ Sk top bot k 20 ∧ SR n nD lD rD tD nM lM rM tM ∧ SV n nD lD rD) 9
    (fun r r' => ∃ (n : Nat) (nD lD rD tD nM lM rM tM : Nat → Int32), r = (nD, lD, rD, tD, nI n) ∧ r' = (nI n, nM, lM, rM, tM) ∧ n ≤ 38 ∧ SR n nD lD rD tD nM lM rM tM ∧ SV n nD lD rD)
    (by
      intro k s s' hk9 hI
      obtain ⟨n, nD, lD, rD, tD, nM, lM, rM, tM, rfl, rfl, hn, hR, hV⟩ := hI
      obtain ⟨cnt, kd, -, hkd, -, -, -, e2, e3, e4⟩ := nets h (nI (k + 1))
      have hS := Sk_succ top bot k 20
      have hS38 := Sk_le top bot (show k + 1 < 2 ^ 30 by omega) 20
      by_cases q : kd = 3
      · subst q
        obtain ⟨a, b, hab, hb, ha1, hb1, hall, f1, f2, f3, f4⟩ := e4 rfl
        have hqb := Qc_at top bot (show 0 < b by omega) hb1
        have hqm := Qc_mono top bot (nI (k + 1)) (show b + 1 ≤ 20 by omega)
        by_cases hc : cuts = 0
        · subst hc
          simp only [f_X1_draw_B6, f_X4_makeSegments_B7, if_neg (gt9 (show k + 1 ≤ 9 by omega)), e2, e3, columns_m h, Option.bind_some, if_true, show ¬ ((1 : Int32) = 0) from by decide, if_false, show (nI 3 = (3 : Int32)) from rfl, f_X1_addWhole, whole_c, f1, f2, f3, f4, add_c (show n < 38 by omega), add_m (show n < 40 by omega), f_X4_makeSegments_J46, inner_none (show 3 ≤ 3 by omega) e2 (fun _ => rfl), nI_1]
          exact ⟨_, _, rfl, rfl, n + 1, _, _, _, _, _, _, _, _, rfl, rfl, by omega, SR_add hR _ _ _ _, SV_add hV (by omega) (by omega) hab hb⟩
        · obtain ⟨n', nD', lD', rD', tD', nM', lM', rM', tM', p1, p2, p3, p4, p5⟩ := pieces h (show 1 ≤ k + 1 by omega) (show k + 1 ≤ 9 by omega) e2 hc (B := Sk top bot k 20) (by omega) hn hR hV
          simp only [f_X1_draw_B6, f_X4_makeSegments_B7, if_neg (gt9 (show k + 1 ≤ 9 by omega)), e2, e3, columns_m h, Option.bind_some, if_true, show ¬ ((1 : Int32) = 0) from by decide, if_false, show (nI 3 = (3 : Int32)) from rfl, if_neg hc, p1, p2, f_X4_makeSegments_J46, nI_1]
          exact ⟨_, _, rfl, rfl, n', nD', lD', rD', tD', nM', lM', rM', tM', rfl, rfl, by omega, p4, p5⟩
      · have q3 : ¬ nI kd = 3 := by rw [show (3 : Int32) = nI 3 from rfl, nI_inj (by omega) (by omega)]; exact q
        simp only [f_X1_draw_B6, f_X4_makeSegments_B7, if_neg (gt9 (show k + 1 ≤ 9 by omega)), e2, e3, columns_m h, Option.bind_some, if_neg q, if_neg q3, if_true, f_X4_makeSegments_J46, inner_none hkd e2 (fun w => absurd w q), nI_1]
        exact ⟨_, _, rfl, rfl, n, nD, lD, rD, tD, nM, lM, rM, tM, rfl, rfl, by omega, hR, hV⟩)
    (by
      intro s s' hI
      obtain ⟨n, nD, lD, rD, tD, nM, lM, rM, tM, rfl, rfl, hn, hR, hV⟩ := hI
      have hS38 := Sk_le top bot (show 9 < 2 ^ 30 by omega) 20
      exact ⟨_, _, rfl, rfl, n, nD, lD, rD, tD, nM, lM, rM, tM, rfl, rfl, by omega, hR, hV⟩)
    64 64 0 (1, nD, lD, rD, tD, 0) (1, 0, nM, lM, rM, tM) ⟨0, nD, lD, rD, tD, nM, lM, rM, tM, rfl, rfl, Nat.zero_le _, fun i hi => absurd hi (Nat.not_lt_zero i), fun i hi => absurd hi (Nat.not_lt_zero i)⟩ (by omega) (by omega) (by omega)
  refine ⟨n, nD', lD', rD', tD', nM', lM', rM', tM', e, ?_, h1, h2, h3⟩
  unfold f_X4_makeSegments
  rw [e']
  rfl

/-! the queries: both sides answer alike, or both refuse -/
theorem nn_ex {x : Int32} (h : ¬ x < 0) : ∃ c, c < 2 ^ 31 ∧ x = nI c := by
  have h1 : 0 ≤ x.toInt := by
    rw [Int32.lt_iff_toInt_lt] at h
    have : (0 : Int32).toInt = 0 := by decide
    omega
  have h2 : x.toInt < 2 ^ 31 := Int32.toInt_lt x
  refine ⟨x.toInt.toNat, by omega, ?_⟩
  apply Int32.toInt_inj.mp
  rw [nI_toInt (by omega)]
  omega
theorem in0 {n : Nat} (hn : n < 2 ^ 30) (x : Int32) : (∃ c, c < n ∧ x = nI c ∧ f_X4_in x 0 (nI n - 1) = some 1) ∨ (f_X4_in x 0 (nI n - 1) = some 0 ∧ ∀ c, c < n → ¬ x = nI c) := by
  unfold f_X4_in
  by_cases c1 : x < 0
  · right
    rw [if_pos c1]
    exact ⟨rfl, fun c hc e => by rw [e] at c1; exact nI_nlt0 (show c < 2 ^ 31 by omega) c1⟩
  · rw [if_neg c1]
    obtain ⟨c, hc, rfl⟩ := nn_ex c1
    rcases Nat.lt_or_ge c n with q | q
    · left
      refine ⟨c, q, rfl, ?_⟩
      rw [if_neg]
      rw [sub1_lt hn (by omega)]
      omega
    · right
      have : nI n - 1 < nI c := by
        rw [Int32.sub_eq_add_neg]
        rcases Nat.eq_zero_or_pos n with e | e
        · subst e
          rw [m1_of0, Int32.lt_iff_toInt_lt, nI_toInt hc]
          have h2 : (-1 : Int32).toInt = -1 := by decide
          rw [h2]
          omega
        · rw [nI_dec e, nI_lt_iff (by omega) hc]
          omega
      rw [if_pos this]
      exact ⟨rfl, fun d hd e => by have := (nI_inj hc (by omega)).mp e; omega⟩
theorem col (x : Int32) : (∃ c, c < 20 ∧ x = nI c ∧ f_X3_isColumn x = some 1 ∧ f_X4_in x 0 19 = some 1) ∨ (f_X3_isColumn x = some 0 ∧ f_X4_in x 0 19 = some 0) := by
  have e19 : (19 : Int32) = nI 20 - 1 := by decide
  rw [e19]
  rcases in0 (n := 20) (by omega) x with ⟨c, hc, rfl, e⟩ | ⟨e, h⟩
  · refine Or.inl ⟨c, hc, rfl, ?_, e⟩
    unfold f_X3_isColumn
    rw [if_neg (nI_nlt0 (show c < 2 ^ 31 by omega)), if_neg (ge20 hc)]
  · refine Or.inr ⟨?_, e⟩
    unfold f_X3_isColumn
    by_cases c1 : x < 0
    · rw [if_pos c1]
    · rw [if_neg c1]
      obtain ⟨c, hc, rfl⟩ := nn_ex c1
      rw [if_pos]
      rw [show (20 : Int32) = nI 20 from rfl, nI_le_iff (by omega) hc]
      rcases Nat.lt_or_ge c 20 with q | q
      · exact absurd rfl (h c q)
      · exact q
theorem trk {T : Nat} (hT : T ≤ 38) (x : Int32) : (∃ τ, τ < T ∧ x = nI τ ∧ f_X3_isTrack (nI T) x = some 1 ∧ f_X4_in x 0 (nI T - 1) = some 1) ∨ (f_X3_isTrack (nI T) x = some 0 ∧ f_X4_in x 0 (nI T - 1) = some 0) := by
  rcases in0 (n := T) (by omega) x with ⟨c, hc, rfl, e⟩ | ⟨e, h⟩
  · refine Or.inl ⟨c, hc, rfl, ?_, e⟩
    unfold f_X3_isTrack
    rw [if_neg (nI_nlt0 (show c < 2 ^ 31 by omega)), if_neg (nle (by omega) hc)]
  · refine Or.inr ⟨?_, e⟩
    unfold f_X3_isTrack
    by_cases c1 : x < 0
    · rw [if_pos c1]
    · rw [if_neg c1]
      obtain ⟨c, hc, rfl⟩ := nn_ex c1
      rw [if_pos]
      rw [nI_le_iff (by omega) hc]
      rcases Nat.lt_or_ge c T with q | q
      · exact absurd rfl (h c q)
      · exact q
theorem netr (x : Int32) : (∃ k, 1 ≤ k ∧ k ≤ 9 ∧ x = nI k ∧ f_X3_isNet x = some 1 ∧ f_X4_in x 1 9 = some 1) ∨ (f_X3_isNet x = some 0 ∧ f_X4_in x 1 9 = some 0 ∧ ∀ k, 1 ≤ k → k ≤ 9 → ¬ x = nI k) := by
  unfold f_X3_isNet f_X4_in
  by_cases c1 : x < 1
  · right
    rw [if_pos c1]
    refine ⟨rfl, rfl, fun k h1 h2 e => ?_⟩
    rw [e, show (1 : Int32) = nI 1 from rfl, nI_lt_iff (by omega) (by omega)] at c1
    omega
  · rw [if_neg c1]
    have c0 : ¬ x < 0 := by
      intro z
      rw [Int32.lt_iff_toInt_lt] at z c1
      have h0 : (0 : Int32).toInt = 0 := by decide
      have h1 : (1 : Int32).toInt = 1 := by decide
      omega
    obtain ⟨c, hc, rfl⟩ := nn_ex c0
    have h1 : 1 ≤ c := by
      rw [show (1 : Int32) = nI 1 from rfl, nI_lt_iff hc (by omega)] at c1
      omega
    by_cases c2 : c ≤ 9
    · left
      rw [if_neg (gt9 c2)]
      exact ⟨c, h1, c2, rfl, rfl, rfl⟩
    · right
      have : (9 : Int32) < nI c := by
        rw [show (9 : Int32) = nI 9 from rfl, nI_lt_iff (by omega) hc]
        omega
      rw [if_pos this]
      exact ⟨rfl, rfl, fun k h3 h4 e => by have := (nI_inj hc (by omega)).mp e; omega⟩
def QR (a : Option (Int32 ⊕ Nat)) (b : Option (Int32 × Int32)) : Prop := (∃ r, a = some (.inl r) ∧ b = some (r, 0)) ∨ (a = some (.inr 1) ∧ ∃ r, b = some (r, 1))
theorem out0 : f_X4_out 0 = some (1, 1) := by decide
theorem out1 : f_X4_out 1 = some (0, 0) := by decide
theorem q_segment {N T : Nat} {nD lD rD trD uD nM lM rM trM uM : Nat → Int32} (hW : WL N T nD lD rD trD uD nM lM rM trM uM) (x1 x2 : Int32) : QR (f_X3_segment nD lD rD trD (nI N) x1 x2) (f_X4_segment (nI N) nM lM rM trM x1 x2) := by
  obtain ⟨hN, hT, nt, lf, rt, tv, hD, hM, hU, hu⟩ := hW
  have e3 : (3 : Int32) = nI 4 - 1 := by decide
  unfold f_X3_segment f_X4_segment
  rcases in0 (n := N) (by omega) x1 with ⟨c, hc, rfl, e⟩ | ⟨e, h⟩
  · rw [e, if_neg (nI_nlt0 (show c < 2 ^ 31 by omega)), if_pos ((nI_lt_iff (show c < 2 ^ 31 by omega) (show N < 2 ^ 31 by omega)).mpr hc)]
    obtain ⟨a1, a2, a3, a4, -⟩ := hD c hc
    obtain ⟨b1, b2, b3, b4, -⟩ := hM c hc
    have e2 := in0 (n := 4) (by omega) x2
    rw [← e3] at e2
    simp only [Option.bind_some, bnd_ok (show c < 38 by omega) (show 38 < 2 ^ 31 by decide), bnd_ok (show c < 40 by omega) (show 40 < 2 ^ 31 by decide), cl (show c < 2 ^ 31 by omega), a1, a2, a3, a4, b1, b2, b3, b4, show ¬ ((1 : Int32) = 0) from by decide, if_false]
    rcases e2 with ⟨w, hw, rfl, e2⟩ | ⟨e2, h2⟩
    · rw [e2]
      simp only [Option.bind_some, show ¬ ((1 : Int32) = 0) from by decide, if_false, show (0 : Int32) ≤ 0 from by decide, if_true]
      left
      match w, hw with
      | 0, _ => exact ⟨_, rfl, rfl⟩
      | 1, _ => exact ⟨_, rfl, rfl⟩
      | 2, _ => exact ⟨_, rfl, rfl⟩
      | 3, _ => exact ⟨_, rfl, rfl⟩
    · rw [e2]
      simp only [Option.bind_some, if_true, show ¬ ((1 : Int32) ≤ 0) from by decide, if_false]
      right
      have h0 : ¬ x2 = 0 := h2 0 (by omega)
      have h1 : ¬ x2 = 1 := h2 1 (by omega)
      have h2' : ¬ x2 = 2 := h2 2 (by omega)
      have h3 : ¬ x2 = 3 := h2 3 (by omega)
      rw [if_neg h0, if_neg h1, if_neg h2', if_neg h3]
      exact ⟨rfl, _, rfl⟩
  · rw [e]
    simp only [Option.bind_some, if_true, show ¬ ((1 : Int32) ≤ 0) from by decide, if_false]
    right
    refine ⟨?_, _, rfl⟩
    by_cases c1 : x1 < 0
    · rw [if_pos c1]
    · rw [if_neg c1]
      obtain ⟨c, hc, rfl⟩ := nn_ex c1
      rw [if_neg]
      rw [nI_lt_iff hc (by omega)]
      intro z
      exact h c z rfl
theorem q_level {N T : Nat} {nD lD rD trD uD nM lM rM trM uM : Nat → Int32} (hW : WL N T nD lD rD trD uD nM lM rM trM uM) (x1 x2 : Int32) : QR (f_X3_level nD lD rD trD (nI N) (nI T) x1 x2) (f_X4_level (nI N) (nI T) nM lM rM trM x1 x2) := by
  unfold f_X3_level f_X4_level
  rcases trk hW.2.1 x1 with ⟨τ, hτ, rfl, e1, e2⟩ | ⟨e1, e2⟩
  · rw [e1, e2]
    simp only [Option.bind_some, show ¬ ((1 : Int32) = 0) from by decide, if_false]
    rcases col x2 with ⟨c, hc, rfl, e3, e4⟩ | ⟨e3, e4⟩
    · rw [e3, e4]
      obtain ⟨n, hn, e5, e6⟩ := levels hW hτ hc
      simp only [Option.bind_some, show ¬ ((1 : Int32) = 0) from by decide, if_false, e5, e6, out1, if_true]
      exact Or.inl ⟨_, rfl, rfl⟩
    · rw [e3, e4]
      simp only [Option.bind_some, if_true, out0, show ¬ ((1 : Int32) = 0) from by decide, if_false]
      exact Or.inr ⟨rfl, _, rfl⟩
  · rw [e1, e2]
    simp only [Option.bind_some, if_true, out0, show ¬ ((1 : Int32) = 0) from by decide, if_false]
    exact Or.inr ⟨rfl, _, rfl⟩
theorem q_via {N T : Nat} {top bot pins nD lD rD trD uD nM lM rM trM uM : Nat → Int32} (hW : WL N T nD lD rD trD uD nM lM rM trM uM) (hP : PB top bot pins) (x1 x2 : Int32) : (∃ v : Int32, (v = 0 ∨ v = 1) ∧ f_X3_via top bot nD lD rD trD uD (nI N) (nI T) x1 x2 = some (.inl v) ∧ f_X4_via pins (nI N) (nI T) nM lM rM uM trM x1 x2 = some (v, 0)) ∨ (f_X3_via top bot nD lD rD trD uD (nI N) (nI T) x1 x2 = some (.inr 1) ∧ ∃ r, f_X4_via pins (nI N) (nI T) nM lM rM uM trM x1 x2 = some (r, 1)) := by
  unfold f_X3_via f_X4_via
  rcases trk hW.2.1 x1 with ⟨τ, hτ, rfl, e1, e2⟩ | ⟨e1, e2⟩
  · rw [e1, e2]
    simp only [Option.bind_some, show ¬ ((1 : Int32) = 0) from by decide, if_false]
    rcases col x2 with ⟨c, hc, rfl, e3, e4⟩ | ⟨e3, e4⟩
    · rw [e3, e4]
      obtain ⟨v, hv, e5, e6⟩ := viass hW hP hτ hc
      simp only [Option.bind_some, show ¬ ((1 : Int32) = 0) from by decide, if_false, e5, e6, out1, if_true]
      left
      rcases hv with rfl | rfl
      · exact ⟨0, Or.inl rfl, rfl, rfl⟩
      · exact ⟨1, Or.inr rfl, rfl, rfl⟩
    · rw [e3, e4]
      simp only [Option.bind_some, if_true, out0, show ¬ ((1 : Int32) = 0) from by decide, if_false]
      exact Or.inr ⟨trivial, _, rfl⟩
  · rw [e1, e2]
    simp only [Option.bind_some, if_true, out0, show ¬ ((1 : Int32) = 0) from by decide, if_false]
    exact Or.inr ⟨trivial, _, rfl⟩
theorem q_upright {N T : Nat} {top bot pins nD lD rD trD uD nM lM rM trM uM : Nat → Int32} (hW : WL N T nD lD rD trD uD nM lM rM trM uM) (hP : PB top bot pins) (ld x1 x2 : Int32) : QR (f_X3_upright ld top bot nD trD uD (nI N) (nI T) x1 x2) (f_X4_upright pins ld (nI N) (nI T) nM uM trM x1 x2) := by
  have hT := hW.2.1
  unfold f_X3_upright f_X4_upright
  by_cases c0 : ld = 0
  · rw [if_pos c0, if_pos c0]
    simp only [Option.bind_some, out0, show ¬ ((1 : Int32) = 0) from by decide, if_false]
    exact Or.inr ⟨rfl, _, rfl⟩
  · rw [if_neg c0, if_neg c0]
    rcases col x1 with ⟨c, hc, rfl, e3, e4⟩ | ⟨e3, e4⟩
    · rw [e3, e4]
      simp only [Option.bind_some, show ¬ ((1 : Int32) = 0) from by decide, if_false]
      by_cases c1 : x2 < -1
      · have : f_X4_in x2 (-1) (nI T) = some 0 := by unfold f_X4_in; rw [if_pos c1]
        rw [if_pos c1, this]
        simp only [Option.bind_some, if_true, out0, show ¬ ((1 : Int32) = 0) from by decide, if_false]
        exact Or.inr ⟨rfl, _, rfl⟩
      · rw [if_neg c1]
        by_cases c2 : x2 ≤ nI T
        · have c3 : ¬ nI T < x2 := by rw [Int32.lt_iff_toInt_lt]; rw [Int32.le_iff_toInt_le] at c2; omega
          have : f_X4_in x2 (-1) (nI T) = some 1 := by unfold f_X4_in; rw [if_neg c1, if_neg c3]
          rw [if_pos c2, this]
          have hr : Rw T x2 := by
            by_cases c4 : x2 < 0
            · left
              apply Int32.toInt_inj.mp
              rw [Int32.lt_iff_toInt_lt] at c1 c4
              have h0 : (0 : Int32).toInt = 0 := by decide
              have h1 : (-1 : Int32).toInt = -1 := by decide
              omega
            · obtain ⟨p, hp, rfl⟩ := nn_ex c4
              rw [nI_le_iff hp (by omega)] at c2
              exact Or.inr ⟨p, c2, rfl⟩
          obtain ⟨r, e5, e6⟩ := uprights hW hP hc hr
          simp only [Option.bind_some, show ¬ ((1 : Int32) = 0) from by decide, if_false, e5, e6, out1, if_true]
          exact Or.inl ⟨_, rfl, rfl⟩
        · have c3 : nI T < x2 := by rw [Int32.lt_iff_toInt_lt]; rw [Int32.le_iff_toInt_le] at c2; omega
          have : f_X4_in x2 (-1) (nI T) = some 0 := by unfold f_X4_in; rw [if_neg c1, if_pos c3]
          rw [if_neg c2, this]
          simp only [Option.bind_some, if_true, out0, show ¬ ((1 : Int32) = 0) from by decide, if_false]
          exact Or.inr ⟨rfl, _, rfl⟩
    · rw [e3, e4]
      simp only [Option.bind_some, if_true, out0, show ¬ ((1 : Int32) = 0) from by decide, if_false]
      exact Or.inr ⟨rfl, _, rfl⟩
theorem q_net {top bot pins : Nat → Int32} (hP : PR top bot pins) (x1 x2 : Int32) : QR (f_X3_net top bot x1 x2) (f_X4_net pins x1 x2) := by
  have e3 : (3 : Int32) = nI 4 - 1 := by decide
  unfold f_X3_net f_X4_net
  rcases netr x1 with ⟨k, hk1, hk9, rfl, e1, e2⟩ | ⟨e1, e2, -⟩
  · rw [e1, e2]
    have h4 := in0 (n := 4) (by omega) x2
    rw [← e3] at h4
    obtain ⟨cnt, kd, hcnt, hkd, p1, p2, p3, p4, p5, p6⟩ := nets hP (nI k)
    simp only [Option.bind_some, show ¬ ((1 : Int32) = 0) from by decide, if_false]
    rcases h4 with ⟨w, hw, rfl, e4⟩ | ⟨e4, h⟩
    · rw [e4]
      simp only [Option.bind_some, show ¬ ((1 : Int32) = 0) from by decide, if_false, out1, if_true, p1, p2, p3, p4, p5, columns_m hP (nI k)]
      have hkd3 : (3 ≤ nI kd) ↔ kd = 3 := by
        rw [show (3 : Int32) = nI 3 from rfl, nI_le_iff (by omega) (by omega)]
        omega
      simp only [hkd3]
      left
      by_cases c3 : kd = 3
      · obtain ⟨a, b, hab, hb, _, _, _, q1, q2, q3, q4⟩ := p6 c3
        simp only [c3, if_true, show ¬ ((1 : Int32) = 0) from by decide, if_false, q1, q2, q3, q4, Option.bind_some]
        match w, hw with
        | 0, _ => exact ⟨_, rfl, rfl⟩
        | 1, _ => exact ⟨_, rfl, rfl⟩
        | 2, _ => exact ⟨_, rfl, rfl⟩
        | 3, _ => exact ⟨_, rfl, rfl⟩
      · simp only [c3, if_true, if_false]
        match w, hw with
        | 0, _ => exact ⟨_, rfl, rfl⟩
        | 1, _ => exact ⟨_, rfl, rfl⟩
        | 2, _ => exact ⟨_, rfl, rfl⟩
        | 3, _ => exact ⟨_, rfl, rfl⟩
    · rw [e4]
      simp only [Option.bind_some, if_true, out0, show ¬ ((1 : Int32) = 0) from by decide, if_false]
      have h0 : ¬ x2 = 0 := h 0 (by omega)
      have h1 : ¬ x2 = 1 := h 1 (by omega)
      have h2' : ¬ x2 = 2 := h 2 (by omega)
      have h3 : ¬ x2 = 3 := h 3 (by omega)
      rw [if_neg h0, if_neg h1, if_neg h2', if_neg h3]
      exact Or.inr ⟨rfl, _, rfl⟩
  · rw [e1, e2]
    simp only [Option.bind_some, if_true, out0, show ¬ ((1 : Int32) = 0) from by decide, if_false]
    exact Or.inr ⟨rfl, _, rfl⟩
theorem q_count {N T : Nat} {top bot pins nD lD rD trD uD nM lM rM trM uM : Nat → Int32} (hW : WL N T nD lD rD trD uD nM lM rM trM uM) (hP : PB top bot pins) {ld : Int32} (tl tr : Int32) (x1 : Int32) : QR (f_X3_count ld tl tr top bot nD lD rD trD uD (nI N) (nI T) x1) (f_X4_count pins ld (nI N) (nI T) nM lM rM uM trM tl tr x1) := by
  have e5 : (5 : Int32) = nI 6 - 1 := by decide
  obtain ⟨n, v1, v2⟩ := vias_n hW hP
  have h6 := in0 (n := 6) (by omega) x1
  rw [← e5] at h6
  unfold f_X3_count f_X4_count
  rcases h6 with ⟨w, hw, rfl, e⟩ | ⟨e, h⟩
  · rw [e]
    simp only [Option.bind_some, out1, if_true, v1, v2]
    left
    match w, hw with
    | 0, _ => exact ⟨_, rfl, rfl⟩
    | 1, _ => exact ⟨_, rfl, rfl⟩
    | 2, _ => exact ⟨_, rfl, rfl⟩
    | 3, _ => exact ⟨_, rfl, rfl⟩
    | 4, _ => exact ⟨_, rfl, rfl⟩
    | 5, _ =>
      by_cases c : ld = 0
      · simp only [c]; exact ⟨_, rfl, rfl⟩
      · refine ⟨1, ?_, ?_⟩
        · show (if ld = 0 then _ else _) = _
          rw [if_neg c]
        · show (if ld = 0 then _ else _) = _
          rw [if_neg c]
  · rw [e]
    simp only [Option.bind_some, out0, show ¬ ((1 : Int32) = 0) from by decide, if_false]
    have h0 : ¬ x1 = 0 := h 0 (by omega)
    have h1 : ¬ x1 = 1 := h 1 (by omega)
    have h2 : ¬ x1 = 2 := h 2 (by omega)
    have h3 : ¬ x1 = 3 := h 3 (by omega)
    have h4 : ¬ x1 = 4 := h 4 (by omega)
    have h5 : ¬ x1 = 5 := h 5 (by omega)
    rw [if_neg h0, if_neg h1, if_neg h2, if_neg h3, if_neg h4, if_neg h5]
    exact Or.inr ⟨rfl, _, rfl⟩
theorem q_ring {l : Nat} (hl : l ≤ 38) {told ringOf : Nat → Int32} (h : ∀ i, i < l → told i = ringOf i) (x1 : Int32) : ∃ r, f_X3_ring told (nI l) x1 = some r ∧ f_X4_ring (nI l) ringOf x1 = some (r, 0) := by
  unfold f_X3_ring f_X4_ring f_X2_toldAt
  rcases in0 (n := l) (by omega) x1 with ⟨c, hc, rfl, e⟩ | ⟨e, h2⟩
  · rw [e, if_neg (nI_nlt0 (show c < 2 ^ 31 by omega)), if_neg (nle (by omega) hc)]
    simp only [Option.bind_some, bnd_ok (show c < 38 by omega) (show 38 < 2 ^ 31 by decide), bnd_ok (show c < 40 by omega) (show 40 < 2 ^ 31 by decide), cl (show c < 2 ^ 31 by omega), show ¬ ((1 : Int32) = 0) from by decide, if_false, h c hc]
    exact ⟨_, rfl, rfl⟩
  · rw [e]
    refine ⟨-1, ?_, rfl⟩
    by_cases c1 : x1 < 0
    · rw [if_pos c1]; rfl
    · rw [if_neg c1]
      obtain ⟨c, hc, rfl⟩ := nn_ex c1
      rw [if_pos]
      · rfl
      · rw [nI_le_iff (by omega) hc]
        rcases Nat.lt_or_ge c l with q | q
        · exact absurd rfl (h2 c q)
        · exact q

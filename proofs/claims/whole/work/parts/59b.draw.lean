/-! single nets, density, pins, drafts -/
theorem single {top bot pins : Nat → Int32} (hP : PR top bot pins) : ∃ v, f_X0_anySingle top bot = some v ∧ f_X4_anySingle pins = some v ∧ (v = 0 ∨ v = 1) := by
  have kd : ∀ k : Nat, ∃ d : Nat, d ≤ 3 ∧ f_X0_kindOf top bot (nI k) = some (nI d) ∧ f_X4_sort pins (nI k) = some (nI d) := fun k => by
    obtain ⟨cnt, d, _, h, _, _, p3, p4, _⟩ := nets hP (nI k)
    exact ⟨d, h, p3, p4⟩
  have one : ∀ d : Nat, d ≤ 3 → ((nI d = 1) ↔ d = 1) := fun d hd => nI_inj (show d < 2 ^ 31 by omega) (show 1 < 2 ^ 31 by omega)
  obtain ⟨r, e1, h1⟩ := lp_inv (b := f_X0_anySingle_B2 top bot) (fun i s => s = nI (i + 1) ∧ ¬ ∃ k, 1 ≤ k ∧ k ≤ i ∧ f_X0_kindOf top bot (nI k) = some (nI 1)) 9 (fun r => (r = .inl () ∧ ¬ ∃ k, 1 ≤ k ∧ k ≤ 9 ∧ f_X0_kindOf top bot (nI k) = some (nI 1)) ∨ (r = .inr () ∧ ∃ k, 1 ≤ k ∧ k ≤ 9 ∧ f_X0_kindOf top bot (nI k) = some (nI 1)))
    (by
      intro i s hi hI
      obtain ⟨rfl, hn⟩ := hI
      obtain ⟨d, hd, ed, -⟩ := kd (i + 1)
      simp only [f_X0_anySingle_B2, if_neg (gt9 (show i + 1 ≤ 9 by omega)), ed, Option.bind_some, one d hd, nI_1]
      by_cases c : d = 1
      · right
        rw [if_pos c]
        exact ⟨_, rfl, Or.inr ⟨rfl, i + 1, by omega, by omega, by rw [ed, c]⟩⟩
      · left
        rw [if_neg c]
        refine ⟨_, rfl, rfl, ?_⟩
        rintro ⟨k, h1, h2, h3⟩
        by_cases e : k = i + 1
        · subst e
          rw [ed] at h3
          have := (nI_inj (by omega) (by omega)).mp (Option.some.inj h3)
          omega
        · exact hn ⟨k, h1, by omega, h3⟩)
    (by
      intro s hI
      obtain ⟨rfl, hn⟩ := hI
      exact ⟨.inl (), rfl, Or.inl ⟨rfl, hn⟩⟩) 64 0 1 ⟨rfl, by rintro ⟨k, h1, h2, _⟩; omega⟩ (Nat.zero_le _) (by omega)
  obtain ⟨v, e2, h2⟩ := lp_inv (b := f_X4_anySingle_B4 pins) (fun i s => ∃ v, s = (v, nI (i + 1)) ∧ Sy v (∃ k, 1 ≤ k ∧ k ≤ i ∧ f_X0_kindOf top bot (nI k) = some (nI 1))) 9 (fun v => Sy v (∃ k, 1 ≤ k ∧ k ≤ 9 ∧ f_X0_kindOf top bot (nI k) = some (nI 1)))
    (by
      intro i s hi hI
      obtain ⟨v, rfl, hv⟩ := hI
      left
      obtain ⟨d, hd, ed, ed'⟩ := kd (i + 1)
      simp only [f_X4_anySingle_B4, if_neg (gt9 (show i + 1 ≤ 9 by omega)), ed', Option.bind_some, one d hd, nI_1]
      rcases hv with ⟨rfl, hv⟩ | ⟨rfl, hv⟩
      · rw [if_neg (by decide)]
        obtain ⟨k, h1, h2, h3⟩ := hv
        exact ⟨_, rfl, 1, rfl, Or.inl ⟨rfl, k, h1, by omega, h3⟩⟩
      · rw [if_pos rfl]
        by_cases c : d = 1
        · rw [if_pos c]
          exact ⟨_, rfl, 1, rfl, Or.inl ⟨rfl, i + 1, by omega, by omega, by rw [ed, c]⟩⟩
        · rw [if_neg c]
          refine ⟨_, rfl, 0, rfl, Or.inr ⟨rfl, ?_⟩⟩
          rintro ⟨k, h1, h2, h3⟩
          by_cases e : k = i + 1
          · subst e
            rw [ed] at h3
            have := (nI_inj (by omega) (by omega)).mp (Option.some.inj h3)
            omega
          · exact hv ⟨k, h1, by omega, h3⟩)
    (by
      intro s hI
      obtain ⟨v, rfl, hv⟩ := hI
      exact ⟨v, rfl, hv⟩) 64 0 (0, 1) ⟨0, rfl, Or.inr ⟨rfl, by rintro ⟨k, h1, h2, _⟩; omega⟩⟩ (Nat.zero_le _) (by omega)
  unfold f_X0_anySingle f_X4_anySingle
  rw [e1, e2]
  rcases h1 with ⟨rfl, h1⟩ | ⟨rfl, h1⟩
  · rcases h2 with ⟨rfl, h2⟩ | ⟨rfl, h2⟩
    · exact absurd h2 h1
    · exact ⟨0, rfl, rfl, Or.inl rfl⟩
  · rcases h2 with ⟨rfl, h2⟩ | ⟨rfl, h2⟩
    · exact ⟨1, rfl, rfl, Or.inr rfl⟩
    · exact absurd h1 h2
theorem long_in {top bot pins : Nat → Int32} (hP : PR top bot pins) {c : Nat} (hc : c < 20) : ∃ n, f_X0_longNetsAt top bot (nI c) = some n ∧ lp (f_X4_density_B20 (nI c) pins) 64 (0, 1) = some n := by
  obtain ⟨r, r', e1, e2, rfl⟩ := lp_two (b := f_X0_longNetsAt_B4 (nI c) top bot) (b' := f_X4_density_B20 (nI c) pins) (fun i s s' => s = s' ∧ s.2 = nI (i + 1)) 9 (fun r r' => r = r')
    (by
      intro i s s' hi hI
      obtain ⟨rfl, h2⟩ := hI
      obtain ⟨x, y⟩ := s
      have h2' : y = nI (i + 1) := h2
      subst h2'
      obtain ⟨cnt, kd, hcnt, hkd, p1, p2, p3, p4, p5, p6⟩ := nets hP (nI (i + 1))
      have hkd3 : (nI kd = 3) ↔ kd = 3 := nI_inj (show kd < 2 ^ 31 by omega) (show 3 < 2 ^ 31 by omega)
      simp only [f_X0_longNetsAt_B4, f_X4_density_B20, if_neg (gt9 (show i + 1 ≤ 9 by omega)), p4, p5, Option.bind_some, columns_m hP (nI (i + 1)), hkd3, nI_1]
      by_cases c3 : kd = 3
      · obtain ⟨a, b, hab, hb, _, _, _, q1, q2, q3, q4⟩ := p6 c3
        obtain ⟨v, ev, hv⟩ := in_nn (a := c) (b := a) (c := b) (by omega) (by omega) (by omega)
        simp only [c3, if_true, show ¬ ((1 : Int32) = 0) from by decide, if_false, q1, q2, q3, q4, Option.bind_some, ev, nI_lt_iff (show c < 2 ^ 31 by omega) (show a < 2 ^ 31 by omega), nI_lt_iff (show b < 2 ^ 31 by omega) (show c < 2 ^ 31 by omega)]
        rcases hv with ⟨rfl, hv⟩ | ⟨rfl, hv⟩
        · rw [if_neg (by omega), if_neg (by omega), if_neg (by decide)]
          exact ⟨_, _, rfl, rfl, rfl, rfl⟩
        · rw [if_pos rfl]
          by_cases d1 : c < a
          · rw [if_pos d1]; exact ⟨_, _, rfl, rfl, rfl, rfl⟩
          · rw [if_neg d1, if_pos (by omega)]; exact ⟨_, _, rfl, rfl, rfl, rfl⟩
      · simp only [c3, if_true, if_false]
        exact ⟨_, _, rfl, rfl, rfl, rfl⟩)
    (by
      intro s s' hI
      obtain ⟨rfl, h2⟩ := hI
      obtain ⟨x, y⟩ := s
      have h2' : y = nI 10 := h2
      subst h2'
      exact ⟨x, x, rfl, rfl, rfl⟩) 64 64 0 (0, 1) (0, 1) ⟨rfl, rfl⟩ (Nat.zero_le _) (by omega) (by omega)
  refine ⟨r, ?_, e2⟩
  unfold f_X0_longNetsAt
  rw [e1]
  rfl
theorem q_density {top bot pins : Nat → Int32} (hP : PR top bot pins) : ∃ r, f_X3_density top bot = some r ∧ f_X4_density pins = some (r, 0) := by
  obtain ⟨r, r', e1, e2, rfl⟩ := lp_two (b := f_X3_density_B4 top bot) (b' := f_X4_density_B9 pins) (fun i s s' => s = s' ∧ s.2 = nI i) 20 (fun r r' => r = r')
    (by
      intro i s s' hi hI
      obtain ⟨rfl, h2⟩ := hI
      obtain ⟨x, y⟩ := s
      have h2' : y = nI i := h2
      subst h2'
      obtain ⟨n, en, en'⟩ := long_in hP hi
      simp only [f_X3_density_B4, f_X4_density_B9, if_neg (ge20 hi), en, en', Option.bind_some, nI_1]
      by_cases c1 : x < n
      · have c2 : ¬ n ≤ x := by rw [Int32.le_iff_toInt_le]; rw [Int32.lt_iff_toInt_lt] at c1; omega
        rw [if_pos c1, if_neg c2]
        exact ⟨_, _, rfl, rfl, rfl, rfl⟩
      · have c2 : n ≤ x := by rw [Int32.le_iff_toInt_le]; rw [Int32.lt_iff_toInt_lt] at c1; omega
        rw [if_neg c1, if_pos c2]
        exact ⟨_, _, rfl, rfl, rfl, rfl⟩)
    (by
      intro s s' hI
      obtain ⟨rfl, h2⟩ := hI
      obtain ⟨x, y⟩ := s
      have h2' : y = nI 20 := h2
      subst h2'
      exact ⟨x, x, rfl, rfl, rfl⟩) 64 64 0 (0, 0) (0, 0) ⟨rfl, rfl⟩ (Nat.zero_le _) (by omega) (by omega)
  refine ⟨r, ?_, ?_⟩
  · unfold f_X3_density; rw [e1]; rfl
  · unfold f_X4_density; rw [e2]; rfl
theorem PB_top {top bot pins : Nat → Int32} (h : PB top bot pins) {c k : Nat} (hc : c < 20) (hk : k ≤ 9) : PB (upd top c (nI k)) bot (upd pins c (nI k)) := by
  refine ⟨fun d hd => ?_, fun d hd => ?_⟩
  · rw [ui, ui, ui]
    obtain ⟨h1, h2⟩ := h.1 d hd
    refine ⟨?_, ?_⟩
    · by_cases e : d = c
      · rw [if_pos e, if_pos e]
      · rw [if_neg e, if_neg e]; exact h1
    · rw [if_neg (by omega)]; exact h2
  · obtain ⟨h1, h2⟩ := h.2 d hd
    refine ⟨?_, h2⟩
    rw [ui]
    by_cases e : d = c
    · rw [if_pos e]; exact ⟨k, hk, rfl⟩
    · rw [if_neg e]; exact h1
theorem PB_bot {top bot pins : Nat → Int32} (h : PB top bot pins) {c k : Nat} (hc : c < 20) (hk : k ≤ 9) : PB top (upd bot c (nI k)) (upd pins (20 + c) (nI k)) := by
  refine ⟨fun d hd => ?_, fun d hd => ?_⟩
  · rw [ui, ui, ui]
    obtain ⟨h1, h2⟩ := h.1 d hd
    refine ⟨?_, ?_⟩
    · rw [if_neg (by omega)]; exact h1
    · by_cases e : d = c
      · rw [if_pos (by omega), if_pos e]
      · rw [if_neg (by omega), if_neg e]; exact h2
  · obtain ⟨h1, h2⟩ := h.2 d hd
    refine ⟨h1, ?_⟩
    rw [ui]
    by_cases e : d = c
    · rw [if_pos e]; exact ⟨k, hk, rfl⟩
    · rw [if_neg e]; exact h2
theorem q_pin {top bot pins : Nat → Int32} (h : PB top bot pins) (ld sz tk ldM szM tkM : Int32) (x1 x2 x3 : Int32) :
    (f_X3_pin ld top bot sz tk x1 x2 x3 = some (.inr (1, ld, top, bot, sz, tk)) ∧ f_X4_pin pins ldM szM tkM x1 x2 x3 = some (0, 1, pins, ldM, szM, tkM))
    ∨ (f_X3_pin ld top bot sz tk x1 x2 x3 = some (.inr (2, ld, top, bot, sz, tk)) ∧ f_X4_pin pins ldM szM tkM x1 x2 x3 = some (0, 2, pins, ldM, szM, tkM))
    ∨ ∃ r top' bot' pins', f_X3_pin ld top bot sz tk x1 x2 x3 = some (.inl (r, 0, top', bot', 0, 0)) ∧ f_X4_pin pins ldM szM tkM x1 x2 x3 = some (r, 0, pins', 0, 0, 0) ∧ PB top' bot' pins' := by
  have e9 : (9 : Int32) = nI 10 - 1 := by decide
  unfold f_X3_pin f_X4_pin
  rcases col x1 with ⟨c, hc, rfl, e3, e4⟩ | ⟨e3, e4⟩
  · rw [e3, e4]
    have h9 := in0 (n := 10) (by omega) x3
    rw [← e9] at h9
    have go : ∀ k, k ≤ 9 → ∃ r top' bot' pins', (f_X0_put top bot (nI c) x2 (nI k)).bind (fun r => match r with | (r_4, top_P_5, bottom_P_6) => some (Sum.inl (r_4, (0 : Int32), top_P_5, bottom_P_6, (0 : Int32), (0 : Int32)) : (Int32 × Int32 × (Nat → Int32) × (Nat → Int32) × Int32 × Int32) ⊕ (Nat × Int32 × (Nat → Int32) × (Nat → Int32) × Int32 × Int32))) = some (.inl (r, 0, top', bot', 0, 0)) ∧ (if x2 = 0 then (f_X4_pin_J54 0 pins (nI k) ((20 : Int32) + nI c)) else (f_X4_pin_J54 0 pins (nI k) (nI c))) = some (r, 0, pins', 0, 0, 0) ∧ PB top' bot' pins' := by
      intro k hk
      obtain ⟨h1, h2⟩ := h.1 c hc
      unfold f_X0_put f_X4_pin_J54
      simp only [nI_20, bnd_ok (show c < 20 by omega) (show 20 < 2 ^ 31 by decide), bnd_ok (show c < 40 by omega) (show 40 < 2 ^ 31 by decide), bnd_ok (show 20 + c < 40 by omega) (show 40 < 2 ^ 31 by decide), cl (show c < 2 ^ 31 by omega), cl (show 20 + c < 2 ^ 31 by omega), h1, h2]
      by_cases c2 : x2 = 0
      · rw [if_pos c2, if_pos c2]
        exact ⟨_, _, _, _, rfl, rfl, PB_bot h hc hk⟩
      · rw [if_neg c2, if_neg c2]
        exact ⟨_, _, _, _, rfl, rfl, PB_top h hc hk⟩
    simp only [Option.bind_some, show ¬ ((1 : Int32) = 0) from by decide, if_false, f_X1_clear]
    rcases h9 with ⟨k, hk, rfl, e5⟩ | ⟨e5, h5⟩
    · obtain ⟨r, top', bot', pins', g1, g2, g3⟩ := go k (by omega)
      rw [e5]
      simp only [Option.bind_some, show ¬ ((1 : Int32) = 0) from by decide, if_false, show (0 : Int32) ≤ 0 from by decide, if_true]
      right; right
      refine ⟨r, top', bot', pins', ?_, g2, g3⟩
      by_cases c0 : nI k = 0
      · rw [if_pos c0]; exact g1
      · rw [if_neg c0]
        rcases netr (nI k) with ⟨_, _, _, _, e6, _⟩ | ⟨_, _, h7⟩
        · rw [e6]
          simp only [Option.bind_some, show ¬ ((1 : Int32) = 0) from by decide, if_false]
          exact g1
        · have : ¬ k = 0 := fun z => c0 (by rw [z]; rfl)
          exact absurd rfl (h7 k (by omega) (by omega))
    · rw [e5]
      simp only [Option.bind_some, if_true, show ¬ ((2 : Int32) ≤ 0) from by decide, if_false]
      right; left
      refine ⟨?_, trivial⟩
      have c0 : ¬ x3 = 0 := h5 0 (by omega)
      rw [if_neg c0]
      rcases netr x3 with ⟨k, k1, k2, k3, _, _⟩ | ⟨e6, _, _⟩
      · exact absurd k3 (h5 k (by omega))
      · rw [e6]; rfl
  · rw [e3, e4]
    left
    exact ⟨rfl, rfl⟩

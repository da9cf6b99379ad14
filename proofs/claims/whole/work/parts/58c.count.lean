/-! uprights, vias, points: both sides -/
theorem upright_m {N T : Nat} (hN : N ≤ 38) (hT : T ≤ 38) {nt lf rt tv : Nat → Nat} {nM lM rM trM uM : Nat → Int32} (hL : LA N T nt lf rt tv nM lM rM trM) {pins : Nat → Int32} {c kt kb : Nat} (hc : c < 20) (h9t : kt ≤ 9) (h9b : kb ≤ 9) (ht : pins c = nI kt) (hb : pins (20 + c) = nI kb) (row : Int32) : ∃ r, f_X4_uprightAt pins (nI N) (nI T) nM uM trM (nI c) row = some r ∧ UR kt kb (Ab N tv nM uM (nI kt) c row) (Be N T tv nM uM (nI kb) c row) r := by
  have hLi : ∀ (k : Nat) (R : Nat → Prop), (∃ τ, τ < T ∧ R τ ∧ Li N tv nM uM (nI k) c τ) ↔ ∃ i, i < N ∧ tq nM uM i c (nI k) ∧ R (tv i) := fun k R => by
    constructor
    · rintro ⟨τ, hτ, hR, i, hi, h1, h2, h3⟩
      exact ⟨i, hi, ⟨h1, h3⟩, by rw [h2]; exact hR⟩
    · rintro ⟨i, hi, ⟨h1, h3⟩, hR⟩
      have := hL i hi
      exact ⟨tv i, by omega, hR, i, hi, h1, rfl, h3⟩
  have z0 : ∀ k, k ≤ 9 → ((nI k ≤ 0) ↔ k = 0) := fun k hk => by
    rw [show (0 : Int32) = nI 0 from rfl, nI_le_iff (by omega) (by omega)]
    omega
  have J51 : ∀ x5 s0, Sy x5 (row = -1) → Sy s0 (row = nI T) → kt ≠ kb → ∃ r, f_X4_uprightAt_J51 (nI N) (nI T) nM uM trM (nI c) row (nI kt) (nI kb) x5 s0 = some r ∧ UR kt kb (Ab N tv nM uM (nI kt) c row) (Be N T tv nM uM (nI kb) c row) r := by
    intro x5 s0 h5 h0 hne
    unfold f_X4_uprightAt_J51
    obtain ⟨x6, s6, e, h6, h7⟩ := up_loop hN hT hL (uM := uM) hc (nI kt) (nI kb) row h5 h0
    rw [e]
    simp only [Option.bind_some, z0 kt h9t, z0 kb h9b]
    rw [hLi kt (fun k => ¬ nI k < row)] at h6
    rw [hLi kb (fun k => ¬ row < nI k)] at h7
    have h6' : Sy x6 (Ab N tv nM uM (nI kt) c row) := h6
    have h7' : Sy s6 (Be N T tv nM uM (nI kb) c row) := h7
    have low : ¬ (0 < kt ∧ Ab N tv nM uM (nI kt) c row) → ∃ r, (if kb = 0 then (some 0) else (if s6 = 0 then (some 0) else (some (nI kb)))) = some r ∧ UR kt kb (Ab N tv nM uM (nI kt) c row) (Be N T tv nM uM (nI kb) c row) r := by
      intro hn
      by_cases c2 : kb = 0
      · rw [if_pos c2]; exact ⟨_, rfl, Or.inr ⟨hne, Or.inr (Or.inr ⟨hn, fun w => by have := w.1; omega, rfl⟩)⟩⟩
      · rw [if_neg c2]
        rcases h7' with ⟨rfl, h⟩ | ⟨rfl, h⟩
        · rw [if_neg (by decide)]; exact ⟨_, rfl, Or.inr ⟨hne, Or.inr (Or.inl ⟨hn, by omega, h, rfl⟩)⟩⟩
        · rw [if_pos rfl]; exact ⟨_, rfl, Or.inr ⟨hne, Or.inr (Or.inr ⟨hn, fun w => h w.2, rfl⟩)⟩⟩
    by_cases c1 : kt = 0
    · rw [if_pos c1]; exact low (fun w => by have := w.1; omega)
    · rw [if_neg c1]
      rcases h6' with ⟨rfl, h⟩ | ⟨rfl, h⟩
      · rw [if_neg (by decide)]; exact ⟨_, rfl, Or.inr ⟨hne, Or.inl ⟨by omega, h, rfl⟩⟩⟩
      · rw [if_pos rfl]; exact low (fun w => h w.2)
  have J36 : ∀ x5, Sy x5 (row = -1) → kt ≠ kb → ∃ r, f_X4_uprightAt_J36 (nI N) (nI T) nM uM trM (nI c) row (nI kt) (nI kb) x5 = some r ∧ UR kt kb (Ab N tv nM uM (nI kt) c row) (Be N T tv nM uM (nI kb) c row) r := by
    intro x5 h5 hne
    unfold f_X4_uprightAt_J36
    by_cases q : row = nI T
    · rw [if_pos q]; exact J51 x5 1 h5 (Or.inl ⟨rfl, q⟩) hne
    · rw [if_neg q]; exact J51 x5 0 h5 (Or.inr ⟨rfl, q⟩) hne
  unfold f_X4_uprightAt
  simp only [nI_20, bnd_ok (show c < 40 by omega) (show 40 < 2 ^ 31 by decide), bnd_ok (show 20 + c < 40 by omega) (show 40 < 2 ^ 31 by decide), cl (show c < 2 ^ 31 by omega), cl (show 20 + c < 2 ^ 31 by omega), ht, hb, nI_inj (show kt < 2 ^ 31 by omega) (show kb < 2 ^ 31 by omega)]
  by_cases e : kt = kb
  · rw [if_pos e]; exact ⟨_, rfl, Or.inl ⟨e, rfl⟩⟩
  · rw [if_neg e]
    by_cases q : row = -1
    · rw [if_pos q]; exact J36 1 (Or.inl ⟨rfl, q⟩) e
    · rw [if_neg q]; exact J36 0 (Or.inr ⟨rfl, q⟩) e
theorem tq_eq {N T : Nat} {nt lf rt tv : Nat → Nat} {nD lD rD trD uD nM lM rM trM uM : Nat → Int32} (hD : LA N T nt lf rt tv nD lD rD trD) (hM : LA N T nt lf rt tv nM lM rM trM) (hu : ∀ i, i < N → uM i = uD i) {i : Nat} (hi : i < N) (c : Nat) (n : Int32) : tq nM uM i c n ↔ tq nD uD i c n := by
  unfold tq
  rw [hu i hi, (hM i hi).1, (hD i hi).1]
theorem uprights {N T : Nat} {top bot pins nD lD rD trD uD nM lM rM trM uM : Nat → Int32} (hW : WL N T nD lD rD trD uD nM lM rM trM uM) (hP : PB top bot pins) {c : Nat} (hc : c < 20) {row : Int32} (hr : Rw T row) : ∃ r, f_X3_uprightNet top bot nD trD uD (nI N) (nI T) (nI c) row = some r ∧ f_X4_uprightAt pins (nI N) (nI T) nM uM trM (nI c) row = some r := by
  obtain ⟨hN, hT, nt, lf, rt, tv, hD, hM, hU, hu⟩ := hW
  obtain ⟨hp, hv⟩ := hP
  obtain ⟨⟨kt, hkt, et⟩, kb, hkb, eb⟩ := hv c hc
  obtain ⟨p1, p2⟩ := hp c hc
  obtain ⟨r, e1, h1⟩ := upright_c hN hT hD (uD := uD) hc hkt hkb et eb hr
  obtain ⟨r', e2, h2⟩ := upright_m hN hT hM (uM := uM) hc hkt hkb (p1.trans et) (p2.trans eb) row
  have hA : Ab N tv nM uM (nI kt) c row ↔ Ab N tv nD uD (nI kt) c row := by
    unfold Ab
    constructor
    · rintro (w | ⟨i, hi, hq, hn⟩)
      · exact Or.inl w
      · exact Or.inr ⟨i, hi, (tq_eq hD hM hu hi c _).mp hq, hn⟩
    · rintro (w | ⟨i, hi, hq, hn⟩)
      · exact Or.inl w
      · exact Or.inr ⟨i, hi, (tq_eq hD hM hu hi c _).mpr hq, hn⟩
  have hB : Be N T tv nM uM (nI kb) c row ↔ Be N T tv nD uD (nI kb) c row := by
    unfold Be
    constructor
    · rintro (w | ⟨i, hi, hq, hn⟩)
      · exact Or.inl w
      · exact Or.inr ⟨i, hi, (tq_eq hD hM hu hi c _).mp hq, hn⟩
    · rintro (w | ⟨i, hi, hq, hn⟩)
      · exact Or.inl w
      · exact Or.inr ⟨i, hi, (tq_eq hD hM hu hi c _).mpr hq, hn⟩
  rw [hA, hB] at h2
  exact ⟨r, e1, by rw [e2, UR_uniq h1 h2]⟩
theorem levels {N T : Nat} {nD lD rD trD uD nM lM rM trM uM : Nat → Int32} (hW : WL N T nD lD rD trD uD nM lM rM trM uM) {τ c : Nat} (hτ : τ < T) (hc : c < 20) : ∃ n, n ≤ 9 ∧ f_X1_netOn nD lD rD trD (nI N) (nI τ) (nI c) = some (nI n) ∧ f_X4_levelAt (nI N) nM lM rM trM (nI τ) (nI c) = some (nI n) := by
  obtain ⟨hN, hT, nt, lf, rt, tv, hD, hM, hU, hu⟩ := hW
  obtain ⟨n, e1, h1⟩ := netOn_c hN hT hD (show τ < 2 ^ 30 by omega) hc
  obtain ⟨n', e2, h2⟩ := levelAt_m hN hT hM (show τ < 2 ^ 30 by omega) hc
  obtain rfl := NO_uniq hU h1 h2
  refine ⟨n, ?_, e1, e2⟩
  rcases h1 with ⟨rfl, _⟩ | ⟨i, hi, _, rfl⟩
  · omega
  · have := hD i hi; omega
theorem viass {N T : Nat} {top bot pins nD lD rD trD uD nM lM rM trM uM : Nat → Int32} (hW : WL N T nD lD rD trD uD nM lM rM trM uM) (hP : PB top bot pins) {τ c : Nat} (hτ : τ < T) (hc : c < 20) : ∃ v : Int32, (v = 0 ∨ v = 1) ∧ f_X3_isVia top bot nD lD rD trD uD (nI N) (nI T) (nI τ) (nI c) = some v ∧ f_X4_viaAt pins (nI N) (nI T) nM lM rM uM trM (nI τ) (nI c) = some v := by
  obtain ⟨n, hn, e1, e2⟩ := levels hW hτ hc
  obtain ⟨r, e3, e4⟩ := uprights hW hP hc (row := nI τ) (Or.inr ⟨τ, by omega, rfl⟩)
  obtain ⟨hN, hT, nt, lf, rt, tv, hD, hM, hU, hu⟩ := hW
  obtain ⟨v1, e5, h5⟩ := touchesOn_c hN hT hD (uD := uD) (nI n) (show τ < 2 ^ 30 by omega) hc
  obtain ⟨v2, e6, h6⟩ := lies_m hN hT hM (uM := uM) (nI n) (show τ < 2 ^ 30 by omega) hc
  have hLi : Li N tv nM uM (nI n) c τ ↔ Li N tv nD uD (nI n) c τ := by
    constructor
    · rintro ⟨i, hi, h1, h2, h3⟩
      have := (tq_eq hD hM hu hi c (nI n)).mp ⟨h1, h3⟩
      exact ⟨i, hi, this.1, h2, this.2⟩
    · rintro ⟨i, hi, h1, h2, h3⟩
      have := (tq_eq hD hM hu hi c (nI n)).mpr ⟨h1, h3⟩
      exact ⟨i, hi, this.1, h2, this.2⟩
  rw [hLi] at h6
  unfold f_X3_isVia f_X4_viaAt
  rw [e1, e2]
  simp only [Option.bind_some]
  rw [e5]
  simp only [Option.bind_some]
  rw [e3, e4]
  simp only [Option.bind_some]
  rw [e6]
  simp only [Option.bind_some]
  have z0 : (nI n = 0) ↔ n = 0 := nI_inj (show n < 2 ^ 31 by omega) (show 0 < 2 ^ 31 by omega)
  have z1 : (nI n ≤ 0) ↔ n = 0 := by
    rw [show (0 : Int32) = nI 0 from rfl, nI_le_iff (by omega) (by omega)]
    omega
  simp only [z0, z1]
  by_cases c0 : n = 0
  · rw [if_pos c0, if_pos c0]; exact ⟨0, Or.inl rfl, rfl, rfl⟩
  · rw [if_neg c0, if_neg c0]
    by_cases cr : nI n = r
    · rw [if_pos cr, if_pos cr.symm]
      rcases h5 with ⟨rfl, h5⟩ | ⟨rfl, h5⟩
      · rcases h6 with ⟨rfl, h6⟩ | ⟨rfl, h6⟩
        · exact ⟨1, Or.inr rfl, rfl, rfl⟩
        · exact absurd h5 h6
      · rcases h6 with ⟨rfl, h6⟩ | ⟨rfl, h6⟩
        · exact absurd h6 h5
        · exact ⟨0, Or.inl rfl, rfl, rfl⟩
    · have cr' : ¬ r = nI n := fun z => cr z.symm
      rw [if_neg cr, if_neg cr']
      exact ⟨0, Or.inl rfl, by by_cases c5 : v1 = 0 <;> simp [c5], rfl⟩
theorem via_in {N T : Nat} {top bot pins nD lD rD trD uD nM lM rM trM uM : Nat → Int32} (hW : WL N T nD lD rD trD uD nM lM rM trM uM) (hP : PB top bot pins) {τ : Nat} (hτ : τ < T) (n : Int32) : ∃ n', lp (f_X3_countVias_B17 (nI τ) top bot nD lD rD trD uD (nI N) (nI T)) 64 (n, 0) = some n' ∧ lp (f_X4_vias_B14 (nI τ) pins (nI N) (nI T) nM lM rM uM trM) 64 (n, 0) = some n' := by
  obtain ⟨r, r', e1, e2, rfl⟩ := lp_two (b := f_X3_countVias_B17 (nI τ) top bot nD lD rD trD uD (nI N) (nI T)) (b' := f_X4_vias_B14 (nI τ) pins (nI N) (nI T) nM lM rM uM trM) (fun i s s' => s = s' ∧ s.2 = nI i) 20 (fun r r' => r = r')
    (by
      intro i s s' hi hI
      obtain ⟨rfl, h2⟩ := hI
      obtain ⟨x, y⟩ := s
      have h2' : y = nI i := h2
      subst h2'
      obtain ⟨v, hv, ev, ev'⟩ := viass hW hP hτ hi
      simp only [f_X3_countVias_B17, f_X4_vias_B14, if_neg (ge20 hi), ev, ev', Option.bind_some, nI_1]
      rcases hv with rfl | rfl
      · rw [if_pos rfl]; exact ⟨_, _, rfl, rfl, rfl, rfl⟩
      · rw [if_neg (by decide)]; exact ⟨_, _, rfl, rfl, rfl, rfl⟩)
    (by
      intro s s' hI
      obtain ⟨rfl, h2⟩ := hI
      obtain ⟨x, y⟩ := s
      have h2' : y = nI 20 := h2
      subst h2'
      exact ⟨x, x, rfl, rfl, rfl⟩) 64 64 0 (n, 0) (n, 0) ⟨rfl, rfl⟩ (Nat.zero_le _) (by omega) (by omega)
  exact ⟨r, e1, e2⟩
theorem vias_n {N T : Nat} {top bot pins nD lD rD trD uD nM lM rM trM uM : Nat → Int32} (hW : WL N T nD lD rD trD uD nM lM rM trM uM) (hP : PB top bot pins) : ∃ n, f_X3_countVias top bot nD lD rD trD uD (nI N) (nI T) = some n ∧ f_X4_vias pins (nI N) (nI T) nM lM rM uM trM = some n := by
  have hT : T ≤ 38 := hW.2.1
  obtain ⟨r, r', e1, e2, rfl⟩ := lp_two (b := f_X3_countVias_B4 top bot nD lD rD trD uD (nI N) (nI T)) (b' := f_X4_vias_B4 pins (nI N) (nI T) nM lM rM uM trM) (fun i s s' => s = s' ∧ s.2 = nI i) T (fun r r' => r = r')
    (by
      intro i s s' hi hI
      obtain ⟨rfl, h2⟩ := hI
      obtain ⟨x, y⟩ := s
      have h2' : y = nI i := h2
      subst h2'
      obtain ⟨n', ev, ev'⟩ := via_in hW hP hi x
      simp only [f_X3_countVias_B4, f_X4_vias_B4, if_neg (nle (show T < 2 ^ 30 by omega) hi), ev, ev', Option.bind_some, nI_1]
      exact ⟨_, _, rfl, rfl, rfl, rfl⟩)
    (by
      intro s s' hI
      obtain ⟨rfl, h2⟩ := hI
      obtain ⟨x, y⟩ := s
      have h2' : y = nI T := h2
      subst h2'
      exact ⟨x, x, by simp only [f_X3_countVias_B4, if_pos (yle (show T < 2 ^ 30 by omega))], by simp only [f_X4_vias_B4, if_pos (yle (show T < 2 ^ 30 by omega))], rfl⟩) 64 64 0 (0, 0) (0, 0) ⟨rfl, rfl⟩ (Nat.zero_le _) (by omega) (by omega)
  refine ⟨r, ?_, ?_⟩
  · unfold f_X3_countVias; rw [e1]; rfl
  · unfold f_X4_vias; rw [e2]; rfl
theorem pt_in {N T : Nat} {nD lD rD trD uD nM lM rM trM uM : Nat → Int32} (hW : WL N T nD lD rD trD uD nM lM rM trM uM) {τ : Nat} (hτ : τ < T) (n : Nat) : ∃ n', n' ≤ n + 20 ∧ lp (f_X1_countPoints_B14 (nI τ) nD lD rD trD (nI N)) 64 (nI n, 0) = some (nI n') ∧ lp (f_X4_used_B19 (nI τ) (nI N) nM lM rM trM) 64 (nI n, 0) = some (nI n') := by
  obtain ⟨r, r', e1, e2, rfl, m, hm, rfl⟩ := lp_two (b := f_X1_countPoints_B14 (nI τ) nD lD rD trD (nI N)) (b' := f_X4_used_B19 (nI τ) (nI N) nM lM rM trM) (fun i s s' => s = s' ∧ ∃ m, m ≤ n + i ∧ s = (nI m, nI i)) 20 (fun r r' => r = r' ∧ ∃ m, m ≤ n + 20 ∧ r = nI m)
    (by
      intro i s s' hi hI
      obtain ⟨rfl, m, hm, rfl⟩ := hI
      obtain ⟨v, hv, ev, ev'⟩ := levels hW hτ hi
      have z0 : (nI v = 0) ↔ v = 0 := nI_inj (show v < 2 ^ 31 by omega) (show 0 < 2 ^ 31 by omega)
      have z1 : (nI v ≤ 0) ↔ v = 0 := by
        rw [show (0 : Int32) = nI 0 from rfl, nI_le_iff (by omega) (by omega)]
        omega
      simp only [f_X1_countPoints_B14, f_X4_used_B19, if_neg (ge20 hi), ev, ev', Option.bind_some, nI_1, z0, z1]
      by_cases c0 : v = 0
      · rw [if_pos c0]; exact ⟨_, _, rfl, rfl, rfl, m, by omega, rfl⟩
      · rw [if_neg c0]; exact ⟨_, _, rfl, rfl, rfl, m + 1, by omega, rfl⟩)
    (by
      intro s s' hI
      obtain ⟨rfl, m, hm, rfl⟩ := hI
      exact ⟨nI m, nI m, rfl, rfl, rfl, m, hm, rfl⟩) 64 64 0 (nI n, 0) (nI n, 0) ⟨rfl, n, by omega, rfl⟩ (Nat.zero_le _) (by omega) (by omega)
  exact ⟨m, hm, e1, e2⟩
theorem points {N T : Nat} {nD lD rD trD uD nM lM rM trM uM : Nat → Int32} (hW : WL N T nD lD rD trD uD nM lM rM trM uM) : ∃ n, n ≤ 20 * T ∧ f_X1_countPoints nD lD rD trD (nI N) (nI T) = some (nI n) ∧ lp (f_X4_used_B9 (nI N) (nI T) nM lM rM trM) 64 (0, 0) = some (nI n) := by
  have hT : T ≤ 38 := hW.2.1
  obtain ⟨r, r', e1, e2, rfl, m, hm, rfl⟩ := lp_two (b := f_X1_countPoints_B4 nD lD rD trD (nI N) (nI T)) (b' := f_X4_used_B9 (nI N) (nI T) nM lM rM trM) (fun i s s' => s = s' ∧ ∃ m, m ≤ 20 * i ∧ s = (nI m, nI i)) T (fun r r' => r = r' ∧ ∃ m, m ≤ 20 * T ∧ r = nI m)
    (by
      intro i s s' hi hI
      obtain ⟨rfl, m, hm, rfl⟩ := hI
      obtain ⟨m', hm', ev, ev'⟩ := pt_in hW hi m
      simp only [f_X1_countPoints_B4, f_X4_used_B9, if_neg (nle (show T < 2 ^ 30 by omega) hi), ev, ev', Option.bind_some, nI_1]
      exact ⟨_, _, rfl, rfl, rfl, m', by omega, rfl⟩)
    (by
      intro s s' hI
      obtain ⟨rfl, m, hm, rfl⟩ := hI
      exact ⟨nI m, nI m, by simp only [f_X1_countPoints_B4, if_pos (yle (show T < 2 ^ 30 by omega))], by simp only [f_X4_used_B9, if_pos (yle (show T < 2 ^ 30 by omega))], rfl, m, hm, rfl⟩) 64 64 0 (0, 0) (0, 0) ⟨rfl, 0, by omega, rfl⟩ (Nat.zero_le _) (by omega) (by omega)
  refine ⟨m, hm, ?_, e2⟩
  unfold f_X1_countPoints
  rw [e1]
  rfl
theorem nI_mul20 (T : Nat) : (20 : Int32) * nI T = nI (20 * T) := by
  rw [show (20 : Int32) = nI 20 from rfl]
  show Int32.ofNat 20 * Int32.ofNat T = Int32.ofNat (20 * T)
  rw [Int32.ofNat_mul]
theorem used {N T : Nat} {nD lD rD trD uD nM lM rM trM uM : Nat → Int32} (hW : WL N T nD lD rD trD uD nM lM rM trM uM) : ∃ r, f_X3_used nD lD rD trD (nI N) (nI T) = some r ∧ f_X4_used (nI N) (nI T) nM lM rM trM = some (r, 0) ∧ (FP.f2d r) &&& 0x7fffffffffffffff ≤ 0x7ff0000000000000 ∧ Op.cmpValue (FP.dcmp (FP.f2d r) (FP.f2d r)) .l = 0 := by
  have hT : T ≤ 38 := hW.2.1
  obtain ⟨n, hn, e1, e2⟩ := points hW
  have z : (nI T = 0) ↔ T = 0 := nI_inj (show T < 2 ^ 31 by omega) (show 0 < 2 ^ 31 by omega)
  unfold f_X3_used f_X4_used
  rw [e1, e2]
  simp only [Option.bind_some, nI_mul20, z]
  by_cases c0 : T = 0
  · rw [if_pos c0, if_pos c0]
    have h : (FP.f2d FP.fconst0) &&& 0x7fffffffffffffff ≤ 0x7ff0000000000000 := f2d_n64 (by decide)
    exact ⟨_, rfl, rfl, h, dcmp_self h⟩
  · rw [if_neg c0, if_neg c0]
    have h32 := div_n32 (a := n) (t := T) (by omega) (by omega) (by omega)
    have h := f2d_n64 h32
    refine ⟨_, ?_, ?_, h, dcmp_self h⟩
    · unfold fnn; rw [if_pos h32]
    · unfold fnn; rw [if_pos h32]

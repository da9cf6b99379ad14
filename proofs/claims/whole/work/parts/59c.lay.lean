/-! drafts, laying -/
theorem draws {top bot pins : Nat → Int32} (hP : PR top bot pins) (cuts : Int32) (nD lD rD uD : Nat → Int32) (bD : Nat → Int64) (nM lM rM uM : Nat → Int32) (bM : Nat → Int64) : ∃ N nD' lD' rD' uD' bD' nM' lM' rM' uM' bM', f_X1_draw nD lD rD uD bD top bot cuts = some (nD', lD', rD', uD', bD', nI N, 0) ∧ f_X4_study pins nM lM rM uM bM cuts = some (nI (psum bD' N N), nI N, nM', lM', rM', uM', bM') ∧ N ≤ 38 ∧ SR N nD' lD' rD' uD' nM' lM' rM' uM' ∧ SV N nD' lD' rD' ∧ (∀ x, x < N → ∀ j, N ≤ j → bl (bD' x) j = false) ∧ ∀ x, x < N → bM' x = bD' x := by
  obtain ⟨N, nD', lD', rD', uD', nM', lM', rM', uM', e1, e2, hN, hR, hV⟩ := segs hP cuts nD lD rD uD nM lM rM uM
  obtain ⟨bD', e3, hB⟩ := findBelow_c top bot nD' uD' bD hN
  obtain ⟨bM', e4, hM⟩ := study_m hP hN hR hV hB bM
  refine ⟨N, nD', lD', rD', uD', bD', nM', lM', rM', uM', bM', ?_, ?_, hN, hR, hV, BW_hi hB hN, hM⟩
  · unfold f_X1_draw f_X1_clear
    simp only [Option.bind_some]
    rw [e1]
    simp only [Option.bind_some, e3]
  · unfold f_X4_study
    rw [e2]
    simp only [Option.bind_some, e4]
theorem copy_laid {N : Nat} (hN : N ≤ 38) (a1 a2 a3 a4 a5 b1 b2 b3 b4 b5 : Nat → Int32) : ∃ c1 c2 c3 c4 c5, lp (f_X4_layNow_B23 (nI N) a1 a2 a3 a4 a5) 64 (0, b1, b2, b3, b4, b5) = some (c1, c2, c3, c4, c5) ∧ ∀ i, i < N → c1 i = a1 i ∧ c2 i = a2 i ∧ c3 i = a3 i ∧ c4 i = a4 i ∧ c5 i = a5 i := by
  obtain ⟨r, e, c1, c2, c3, c4, c5, rfl, h⟩ := lp_inv (b := f_X4_layNow_B23 (nI N) a1 a2 a3 a4 a5) (fun k s => ∃ c1 c2 c3 c4 c5, s = (nI k, c1, c2, c3, c4, c5) ∧ ∀ i, i < k → c1 i = a1 i ∧ c2 i = a2 i ∧ c3 i = a3 i ∧ c4 i = a4 i ∧ c5 i = a5 i) N (fun r => ∃ c1 c2 c3 c4 c5, r = (c1, c2, c3, c4, c5) ∧ ∀ i, i < N → c1 i = a1 i ∧ c2 i = a2 i ∧ c3 i = a3 i ∧ c4 i = a4 i ∧ c5 i = a5 i)
    (by
      intro k s hk hI
      obtain ⟨c1, c2, c3, c4, c5, rfl, h⟩ := hI
      left
      simp only [f_X4_layNow_B23, if_neg (nle (show N < 2 ^ 30 by omega) hk), bnd_ok (show k < 40 by omega) (show 40 < 2 ^ 31 by decide), cl (show k < 2 ^ 31 by omega), nI_1]
      refine ⟨_, rfl, _, _, _, _, _, rfl, fun i hi => ?_⟩
      simp only [ui]
      by_cases e : i = k
      · subst e; simp
      · simp only [if_neg e]; exact h i (by omega))
    (by
      intro s hI
      obtain ⟨c1, c2, c3, c4, c5, rfl, h⟩ := hI
      exact ⟨(c1, c2, c3, c4, c5), by simp only [f_X4_layNow_B23, if_pos (yle (show N < 2 ^ 30 by omega))], c1, c2, c3, c4, c5, rfl, h⟩) 64 0 (0, b1, b2, b3, b4, b5) ⟨b1, b2, b3, b4, b5, rfl, fun i hi => absurd hi (Nat.not_lt_zero _)⟩ (Nat.zero_le _) (by omega)
  exact ⟨c1, c2, c3, c4, c5, e, h⟩
/-- both lay a draft without a ring -/
theorem lays {N : Nat} (hN : N ≤ 38) {nD lD rD uD nM lM rM uM : Nat → Int32} {bD bM : Nat → Int64} (hR : SR N nD lD rD uD nM lM rM uM) (hV : SV N nD lD rD) (hM : ∀ x, x < N → bM x = bD x) (hG : ∀ x, x < N → ¬ Rg N bD x) (trD byD trM b1 b2 b3 b4 b5 : Nat → Int32) (ly : Int32) :
    ∃ trD' byD' T trM' c1 c2 c3 c4 c5, f_X1_fillTracks nD lD rD trD bD byD (nI N) = some (trD', byD', nI T) ∧ f_X4_layNow (nI N) nM lM rM uM bM trM b1 b2 b3 b4 b5 ly = some (nI T, trM', 1, nI N, nI T, c1, c2, c3, c4, c5, ly + 1) ∧ WL N T nD lD rD trD' uD c1 c2 c3 c5 c4 := by
  obtain ⟨nt, lf, rt, hA⟩ := SV_AV hV
  have hAM := AV_SR hA hR
  obtain ⟨trD', byD', T, trM', e1, e2, hT, hv, hU⟩ := fill hN hM hG hA hAM trD byD trM
  obtain ⟨c1, c2, c3, c4, c5, e3, hc⟩ := copy_laid hN nM lM rM uM trM' b1 b2 b3 b4 b5
  have htv : ∀ i, i < N → trD' i = nI ((trD' i).toNatClampNeg) ∧ trM' i = nI ((trD' i).toNatClampNeg) ∧ (trD' i).toNatClampNeg < T := fun i hi => by
    obtain ⟨v, h1, h2, h3⟩ := hv i hi
    rw [h2, cl (show v < 2 ^ 31 by omega)]
    exact ⟨rfl, h3, h1⟩
  refine ⟨trD', byD', T, trM', c1, c2, c3, c4, c5, e1, ?_, hN, by omega, nt, lf, rt, fun i => (trD' i).toNatClampNeg, fun i hi => ?_, fun i hi => ?_, fun i j hi hj et => ?_, fun i hi => ?_⟩
  · unfold f_X4_layNow
    rw [e2]
    simp only [Option.bind_some, e3]
  · obtain ⟨x1, x2, x3, x4, x5, x6, x7⟩ := hA i hi
    obtain ⟨y1, y2, y3⟩ := htv i hi
    exact ⟨x1, x2, x3, y1, x4, x5, x6, x7, y3⟩
  · obtain ⟨x1, x2, x3, x4, x5, x6, x7⟩ := hAM i hi
    obtain ⟨y1, y2, y3⟩ := htv i hi
    obtain ⟨z1, z2, z3, z4, z5⟩ := hc i hi
    exact ⟨z1.trans x1, z2.trans x2, z3.trans x3, z5.trans y2, x4, x5, x6, x7, y3⟩
  · have : trD' i = trD' j := by
      rw [(htv i hi).1, (htv j hj).1]
      exact congrArg nI et
    exact hU i j hi hj trivial trivial this
  · obtain ⟨z1, z2, z3, z4, z5⟩ := hc i hi
    rw [z4]
    exact (hR i hi).2.2.2.symm
/-- class and reference stand alike -/
def CR (isLaid_O : Int32) (timesLaid_O : Int32) (timesRefused_O : Int32) (top_P : (Nat → Int32)) (bottom_P : (Nat → Int32)) (told_R : (Nat → Int32)) (length_R : Int32) (netOf_L : (Nat → Int32)) (left_L : (Nat → Int32)) (right_L : (Nat → Int32)) (trackOf_L : (Nat → Int32)) (touched_L : (Nat → Int32)) (size_L : Int32) (tracks_L : Int32) (pins_M : (Nat → Int32)) (laid_M : Int32) (laidMany_M : Int32) (tracks_M : Int32) (laidNet_M : (Nat → Int32)) (laidLeft_M : (Nat → Int32)) (laidRight_M : (Nat → Int32)) (laidTouch_M : (Nat → Int32)) (laidTrack_M : (Nat → Int32)) (ringSize_M : Int32) (ringOf_M : (Nat → Int32)) (lays_M : Int32) (refusals_M : Int32) : Prop := PB top_P bottom_P pins_M ∧ isLaid_O = laid_M ∧ timesLaid_O = lays_M ∧ timesRefused_O = refusals_M ∧ (∃ N T, size_L = nI N ∧ laidMany_M = nI N ∧ tracks_L = nI T ∧ tracks_M = nI T ∧ WL N T netOf_L left_L right_L trackOf_L touched_L laidNet_M laidLeft_M laidRight_M laidTrack_M laidTouch_M) ∧ ∃ l, l ≤ 38 ∧ length_R = nI l ∧ ringSize_M = nI l ∧ ∀ i, i < l → told_R i = ringOf_M i
abbrev CT25 : Type := Int32 × Int32 × Int32 × (Nat → Int64) × (Nat → Int32) × (Nat → Int32) × Int32 × (Nat → Int32) × (Nat → Int32) × (Nat → Int32) × (Nat → Int32) × (Nat → Int32) × (Nat → Int64) × (Nat → Int32) × Int32 × Int32 × (Nat → Int32) × (Nat → Int32) × (Nat → Int32) × (Nat → Int32) × (Nat → Int32) × (Nat → Int64) × (Nat → Int32) × Int32 × Int32
abbrev MT21 : Type := Int32 × (Nat → Int32) × (Nat → Int32) × (Nat → Int32) × (Nat → Int32) × (Nat → Int64) × (Nat → Int64) × (Nat → Int32) × (Nat → Int32) × Int32 × Int32 × Int32 × (Nat → Int32) × (Nat → Int32) × (Nat → Int32) × (Nat → Int32) × (Nat → Int32) × Int32 × (Nat → Int32) × Int32 × Int32
def LR (top_P bottom_P pins_M : Nat → Int32) : (Int32 × CT25) ⊕ (Nat × CT25) → (Int32 × Int32 × MT21) → Prop
  | .inl (r, isLaid_O, timesLaid_O, timesRefused_O, reach_R, steps_R, told_R, length_R, netOf_L, left_L, right_L, trackOf_L, touched_L, below_L, byLeft_L, size_L, tracks_L, netOf_D, left_D, right_D, trackOf_D, touched_D, below_D, byLeft_D, size_D, tracks_D), (r', th, many_M, nets_M, lefts_M, rights_M, touches_M, below_M, reach_M, tracksOf_M, steps_M, laid_M, laidMany_M, tracks_M, laidNet_M, laidLeft_M, laidRight_M, laidTouch_M, laidTrack_M, ringSize_M, ringOf_M, lays_M, refusals_M) => (r = r' ∧ th = 0) ∧ CR isLaid_O timesLaid_O timesRefused_O top_P bottom_P told_R length_R netOf_L left_L right_L trackOf_L touched_L size_L tracks_L pins_M laid_M laidMany_M tracks_M laidNet_M laidLeft_M laidRight_M laidTouch_M laidTrack_M ringSize_M ringOf_M lays_M refusals_M
  | .inr (k, isLaid_O, timesLaid_O, timesRefused_O, reach_R, steps_R, told_R, length_R, netOf_L, left_L, right_L, trackOf_L, touched_L, below_L, byLeft_L, size_L, tracks_L, netOf_D, left_D, right_D, trackOf_D, touched_D, below_D, byLeft_D, size_D, tracks_D), (r', th, many_M, nets_M, lefts_M, rights_M, touches_M, below_M, reach_M, tracksOf_M, steps_M, laid_M, laidMany_M, tracks_M, laidNet_M, laidLeft_M, laidRight_M, laidTouch_M, laidTrack_M, ringSize_M, ringOf_M, lays_M, refusals_M) => ((k = 2 ∧ th = 1) ∨ (k = 3 ∧ th = 2)) ∧ CR isLaid_O timesLaid_O timesRefused_O top_P bottom_P told_R length_R netOf_L left_L right_L trackOf_L touched_L size_L tracks_L pins_M laid_M laidMany_M tracks_M laidNet_M laidLeft_M laidRight_M laidTouch_M laidTrack_M ringSize_M ringOf_M lays_M refusals_M
theorem q_lay {top_P : (Nat → Int32)} {bottom_P : (Nat → Int32)} {pins_M : (Nat → Int32)} {isLaid_O : Int32} {timesLaid_O : Int32} {timesRefused_O : Int32} {reach_R : (Nat → Int64)} {steps_R : (Nat → Int32)} {told_R : (Nat → Int32)} {length_R : Int32} {netOf_L : (Nat → Int32)} {left_L : (Nat → Int32)} {right_L : (Nat → Int32)} {trackOf_L : (Nat → Int32)} {touched_L : (Nat → Int32)} {below_L : (Nat → Int64)} {byLeft_L : (Nat → Int32)} {size_L : Int32} {tracks_L : Int32} {netOf_D : (Nat → Int32)} {left_D : (Nat → Int32)} {right_D : (Nat → Int32)} {trackOf_D : (Nat → Int32)} {touched_D : (Nat → Int32)} {below_D : (Nat → Int64)} {byLeft_D : (Nat → Int32)} {size_D : Int32} {tracks_D : Int32} {many_M : Int32} {nets_M : (Nat → Int32)} {lefts_M : (Nat → Int32)} {rights_M : (Nat → Int32)} {touches_M : (Nat → Int32)} {below_M : (Nat → Int64)} {reach_M : (Nat → Int64)} {tracksOf_M : (Nat → Int32)} {steps_M : (Nat → Int32)} {laid_M : Int32} {laidMany_M : Int32} {tracks_M : Int32} {laidNet_M : (Nat → Int32)} {laidLeft_M : (Nat → Int32)} {laidRight_M : (Nat → Int32)} {laidTouch_M : (Nat → Int32)} {laidTrack_M : (Nat → Int32)} {ringSize_M : Int32} {ringOf_M : (Nat → Int32)} {lays_M : Int32} {refusals_M : Int32} (h : CR isLaid_O timesLaid_O timesRefused_O top_P bottom_P told_R length_R netOf_L left_L right_L trackOf_L touched_L size_L tracks_L pins_M laid_M laidMany_M tracks_M laidNet_M laidLeft_M laidRight_M laidTouch_M laidTrack_M ringSize_M ringOf_M lays_M refusals_M) (x1 : Int32) : ∃ o p, f_X3_lay isLaid_O timesLaid_O timesRefused_O top_P bottom_P reach_R steps_R told_R length_R netOf_L left_L right_L trackOf_L touched_L below_L byLeft_L size_L tracks_L netOf_D left_D right_D trackOf_D touched_D below_D byLeft_D size_D tracks_D x1 = some o ∧ f_X4_lay pins_M many_M nets_M lefts_M rights_M touches_M below_M reach_M tracksOf_M steps_M laid_M laidMany_M tracks_M laidNet_M laidLeft_M laidRight_M laidTouch_M laidTrack_M ringSize_M ringOf_M lays_M refusals_M x1 = some p ∧ LR top_P bottom_P pins_M o p := by
  obtain ⟨hP, h2, h3, h4, h5, h6⟩ := h
  obtain ⟨v, s1, s2, hv⟩ := single hP.1
  unfold f_X3_lay f_X4_lay
  rw [s1, s2]
  simp only [Option.bind_some]
  rcases hv with rfl | rfl
  · rw [if_pos rfl, if_pos rfl]
    obtain ⟨N, nD', lD', rD', uD', bD', nM', lM', rM', uM', bM', d1, d2, hN, hR, hV, hz, hM⟩ := draws hP.1 x1 netOf_D left_D right_D touched_D below_D nets_M lefts_M rights_M touches_M below_M
    obtain ⟨w, qD', qM', r1, r2, hw⟩ := rings hN hz hM reach_R reach_M
    unfold f_X3_draftHasRing f_X4_noRing
    rw [d1, d2]
    simp only [Option.bind_some]
    rw [r1, r2]
    simp only [Option.bind_some]
    rcases hw with ⟨rfl, hg⟩ | ⟨f, rfl, hf, hrg, hmin⟩
    · rw [if_pos rfl, if_neg (show ¬ ((0 : Int32) ≤ -1) from by decide)]
      simp only [Option.bind_some, if_true, show ¬ ((1 : Int32) = 0) from by decide, if_false]
      obtain ⟨trD', byD', T, trM', c1, c2, c3, c4, c5, g1, g2, hW⟩ := lays hN hR hV hM hg trackOf_D byLeft_D tracksOf_M laidNet_M laidLeft_M laidRight_M laidTouch_M laidTrack_M lays_M
      unfold f_X3_keepDraft
      rw [g1, g2]
      simp only [Option.bind_some]
      exact ⟨_, _, rfl, rfl, ⟨rfl, rfl⟩, hP, rfl, by rw [h3], h4, ⟨N, T, rfl, rfl, rfl, rfl, hW⟩, h6⟩
    · rw [if_neg (nI_ne_m1 (show f < 2 ^ 31 by omega)), if_pos (by rw [show (0 : Int32) = nI 0 from rfl, nI_le_iff (by omega) (by omega)]; omega)]
      obtain ⟨rD'', sC', told', sM', ringOf', l, t1, t2, hl, ht⟩ := tell hN hz hM hf hrg hmin qD' steps_R steps_M told_R ringOf_M
      unfold f_X3_tellRingOfDraft
      simp only [Option.bind_some, show ¬ ((1 : Int32) = 0) from by decide, if_false]
      rw [t1, t2]
      simp only [Option.bind_some, if_true]
      exact ⟨_, _, rfl, rfl, Or.inr ⟨rfl, rfl⟩, hP, h2, h3, by rw [h4], h5, l, by omega, rfl, rfl, ht⟩
  · rw [if_neg (by decide), if_neg (by decide)]
    exact ⟨_, _, rfl, rfl, Or.inl ⟨rfl, rfl⟩, hP, h2, h3, h4, h5, h6⟩
theorem q_layAny {top_P : (Nat → Int32)} {bottom_P : (Nat → Int32)} {pins_M : (Nat → Int32)} {isLaid_O : Int32} {timesLaid_O : Int32} {timesRefused_O : Int32} {reach_R : (Nat → Int64)} {steps_R : (Nat → Int32)} {told_R : (Nat → Int32)} {length_R : Int32} {netOf_L : (Nat → Int32)} {left_L : (Nat → Int32)} {right_L : (Nat → Int32)} {trackOf_L : (Nat → Int32)} {touched_L : (Nat → Int32)} {below_L : (Nat → Int64)} {byLeft_L : (Nat → Int32)} {size_L : Int32} {tracks_L : Int32} {netOf_D : (Nat → Int32)} {left_D : (Nat → Int32)} {right_D : (Nat → Int32)} {trackOf_D : (Nat → Int32)} {touched_D : (Nat → Int32)} {below_D : (Nat → Int64)} {byLeft_D : (Nat → Int32)} {size_D : Int32} {tracks_D : Int32} {many_M : Int32} {nets_M : (Nat → Int32)} {lefts_M : (Nat → Int32)} {rights_M : (Nat → Int32)} {touches_M : (Nat → Int32)} {below_M : (Nat → Int64)} {reach_M : (Nat → Int64)} {tracksOf_M : (Nat → Int32)} {steps_M : (Nat → Int32)} {laid_M : Int32} {laidMany_M : Int32} {tracks_M : Int32} {laidNet_M : (Nat → Int32)} {laidLeft_M : (Nat → Int32)} {laidRight_M : (Nat → Int32)} {laidTouch_M : (Nat → Int32)} {laidTrack_M : (Nat → Int32)} {ringSize_M : Int32} {ringOf_M : (Nat → Int32)} {lays_M : Int32} {refusals_M : Int32} (h : CR isLaid_O timesLaid_O timesRefused_O top_P bottom_P told_R length_R netOf_L left_L right_L trackOf_L touched_L size_L tracks_L pins_M laid_M laidMany_M tracks_M laidNet_M laidLeft_M laidRight_M laidTouch_M laidTrack_M ringSize_M ringOf_M lays_M refusals_M) : ∃ o p, f_X3_layAny isLaid_O timesLaid_O timesRefused_O top_P bottom_P reach_R steps_R told_R length_R netOf_L left_L right_L trackOf_L touched_L below_L byLeft_L size_L tracks_L netOf_D left_D right_D trackOf_D touched_D below_D byLeft_D size_D tracks_D = some o ∧ f_X4_layAny pins_M many_M nets_M lefts_M rights_M touches_M below_M reach_M tracksOf_M steps_M laid_M laidMany_M tracks_M laidNet_M laidLeft_M laidRight_M laidTouch_M laidTrack_M ringSize_M ringOf_M lays_M refusals_M = some p ∧ LR top_P bottom_P pins_M o p := by
  obtain ⟨hP, h2, h3, h4, h5, h6⟩ := h
  obtain ⟨v, s1, s2, hv⟩ := single hP.1
  unfold f_X3_layAny f_X4_layAny
  rw [s1, s2]
  simp only [Option.bind_some]
  rcases hv with rfl | rfl
  · rw [if_pos rfl, if_pos rfl]
    obtain ⟨N, nD', lD', rD', uD', bD', nM', lM', rM', uM', bM', d1, d2, hN, hR, hV, hz, hM⟩ := draws hP.1 0 netOf_D left_D right_D touched_D below_D nets_M lefts_M rights_M touches_M below_M
    obtain ⟨w, qD', qM', r1, r2, hw⟩ := rings hN hz hM reach_R reach_M
    unfold f_X3_draftHasRing f_X4_noRing
    rw [d1, d2]
    simp only [Option.bind_some]
    rw [r1, r2]
    simp only [Option.bind_some]
    rcases hw with ⟨rfl, hg⟩ | ⟨f, rfl, hf, hrg, hmin⟩
    · rw [if_pos rfl, if_neg (show ¬ ((0 : Int32) ≤ -1) from by decide)]
      simp only [Option.bind_some, if_true, show ¬ ((1 : Int32) = 0) from by decide, if_false]
      obtain ⟨trD', byD', T, trM', c1, c2, c3, c4, c5, g1, g2, hW⟩ := lays hN hR hV hM hg trackOf_D byLeft_D tracksOf_M laidNet_M laidLeft_M laidRight_M laidTouch_M laidTrack_M lays_M
      unfold f_X3_keepDraft
      rw [g1, g2]
      simp only [Option.bind_some]
      exact ⟨_, _, rfl, rfl, ⟨rfl, rfl⟩, hP, rfl, by rw [h3], h4, ⟨N, T, rfl, rfl, rfl, rfl, hW⟩, h6⟩
    · rw [if_neg (nI_ne_m1 (show f < 2 ^ 31 by omega)), if_pos (by rw [show (0 : Int32) = nI 0 from rfl, nI_le_iff (by omega) (by omega)]; omega)]
      simp only [Option.bind_some, show ¬ ((1 : Int32) = 0) from by decide, if_false]
      obtain ⟨N2, nD2, lD2, rD2, uD2, bD2, nM2, lM2, rM2, uM2, bM2, d3, d4, hN2, hR2, hV2, hz2, hM2⟩ := draws hP.1 1 nD' lD' rD' uD' bD' nM' lM' rM' uM' bM'
      obtain ⟨w2, rD2', rM2', r3, r4, hw2⟩ := rings hN2 hz2 hM2 qD' qM'
      rw [d3, d4]
      simp only [Option.bind_some]
      rw [r3, r4]
      simp only [Option.bind_some]
      rcases hw2 with ⟨rfl, hg2⟩ | ⟨f2, rfl, hf2, hrg2, hmin2⟩
      · rw [if_pos rfl, if_neg (show ¬ ((0 : Int32) ≤ -1) from by decide)]
        simp only [Option.bind_some, if_true, show ¬ ((1 : Int32) = 0) from by decide, if_false]
        obtain ⟨trD', byD', T, trM', c1, c2, c3, c4, c5, g1, g2, hW⟩ := lays hN2 hR2 hV2 hM2 hg2 trackOf_D byLeft_D tracksOf_M laidNet_M laidLeft_M laidRight_M laidTouch_M laidTrack_M lays_M
        unfold f_X3_keepDraft
        rw [g1, g2]
        simp only [Option.bind_some]
        exact ⟨_, _, rfl, rfl, ⟨rfl, rfl⟩, hP, rfl, by rw [h3], h4, ⟨N2, T, rfl, rfl, rfl, rfl, hW⟩, h6⟩
      · rw [if_neg (nI_ne_m1 (show f2 < 2 ^ 31 by omega)), if_pos (by rw [show (0 : Int32) = nI 0 from rfl, nI_le_iff (by omega) (by omega)]; omega)]
        obtain ⟨rD'', sC', told', sM', ringOf', l, t1, t2, hl, ht⟩ := tell hN2 hz2 hM2 hf2 hrg2 hmin2 rD2' steps_R steps_M told_R ringOf_M
        unfold f_X3_tellRingOfDraft
        simp only [Option.bind_some, show ¬ ((1 : Int32) = 0) from by decide, if_false]
        rw [t1, t2]
        simp only [Option.bind_some, if_true]
        exact ⟨_, _, rfl, rfl, Or.inr ⟨rfl, rfl⟩, hP, h2, h3, by rw [h4], h5, l, by omega, rfl, rfl, ht⟩
  · rw [if_neg (by decide), if_neg (by decide)]
    exact ⟨_, _, rfl, rfl, Or.inl ⟨rfl, rfl⟩, hP, h2, h3, h4, h5, h6⟩
theorem q_pairs {top bot pins : Nat → Int32} (hP : PR top bot pins) (cuts : Int32) (nD lD rD uD : Nat → Int32) (bD : Nat → Int64) (nM lM rM uM : Nat → Int32) (bM : Nat → Int64) : ∃ r nD' lD' rD' uD' bD' sz nM' lM' rM' uM' bM', f_X3_pairs top bot nD lD rD uD bD cuts = some (r, nD', lD', rD', uD', bD', sz, 0) ∧ f_X4_pairs pins nM lM rM uM bM cuts = some (r, 0, sz, nM', lM', rM', uM', bM') := by
  obtain ⟨N, nD', lD', rD', uD', bD', nM', lM', rM', uM', bM', d1, d2, hN, hR, hV, hz, hM⟩ := draws hP cuts nD lD rD uD bD nM lM rM uM bM
  refine ⟨nI (psum bD' N N), nD', lD', rD', uD', bD', nI N, nM', lM', rM', uM', bM', ?_, ?_⟩
  · unfold f_X3_pairs
    rw [d1]
    simp only [Option.bind_some]
    rw [countPairs_c bD' hN hz]
    simp only [Option.bind_some]
  · unfold f_X4_pairs
    rw [d2]
    simp only [Option.bind_some]

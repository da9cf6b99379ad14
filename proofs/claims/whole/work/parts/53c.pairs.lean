/-! pairs -/
theorem countPairs_c (bel : Nat → Int64) {N : Nat} (hN : N ≤ 38) (hz : ∀ x, x < N → ∀ j, N ≤ j → bl (bel x) j = false) : f_X1_countPairs bel (nI N) = some (nI (psum bel N N)) := by
  have e : lp (f_X1_countPairs_B4 bel (nI N)) 64 (0, 0) = some (nI (psum bel N N)) := by
    have := lp_cnt (b := f_X1_countPairs_B4 bel (nI N)) (fun x => (nI (psum bel N x), nI x)) N (nI (psum bel N N)) (by
      intro x hx
      have h1 : pcn (bel x) 64 = pcn (bel x) N := by
        have := pcn_big (hz x hx) (64 - N)
        rw [show N + (64 - N) = 64 by omega] at this
        exact this
      simp only [f_X1_countPairs_B4, if_neg (nle (show N < 2 ^ 30 by omega) hx), bnd_ok (show x < 38 by omega) (show 38 < 2 ^ 31 by decide), cl (show x < 2 ^ 31 by omega), bitCount_c, Option.bind_some, nI_1, h1, nI_add]
      rfl) (by simp only [f_X1_countPairs_B4, if_pos (yle (show N < 2 ^ 30 by omega))]) (show N < 64 by omega)
    exact this
  unfold f_X1_countPairs
  rw [e]
  rfl
theorem BW_hi {N : Nat} {E : Nat → Nat → Prop} {bel : Nat → Int64} (h : BW N E bel) (hN : N ≤ 38) : ∀ x, x < N → ∀ j, N ≤ j → bl (bel x) j = false := by
  intro x hx j hj
  rcases Nat.lt_or_ge j 64 with q | q
  · cases hb : bl (bel x) j with
    | false => rfl
    | true => have := ((h x hx j q).mp hb).1; omega
  · exact bl_big q

/-! the order of the filling -/
def AV (N : Nat) (nD lD rD : Nat → Int32) (nt lf rt : Nat → Nat) : Prop := ∀ i, i < N → nD i = nI (nt i) ∧ lD i = nI (lf i) ∧ rD i = nI (rt i) ∧ 1 ≤ nt i ∧ nt i ≤ 9 ∧ lf i < rt i ∧ rt i < 20
theorem SV_AV {N : Nat} {nD lD rD : Nat → Int32} (h : SV N nD lD rD) : ∃ nt lf rt, AV N nD lD rD nt lf rt := by
  refine ⟨fun i => (nD i).toNatClampNeg, fun i => (lD i).toNatClampNeg, fun i => (rD i).toNatClampNeg, fun i hi => ?_⟩
  obtain ⟨k, a, b, h1, h2, h3, h4, e1, e2, e3⟩ := h i hi
  show nD i = nI (nD i).toNatClampNeg ∧ lD i = nI (lD i).toNatClampNeg ∧ rD i = nI (rD i).toNatClampNeg ∧ 1 ≤ (nD i).toNatClampNeg ∧ (nD i).toNatClampNeg ≤ 9 ∧ (lD i).toNatClampNeg < (rD i).toNatClampNeg ∧ (rD i).toNatClampNeg < 20
  rw [e1, e2, e3, cl (show k < 2 ^ 31 by omega), cl (show a < 2 ^ 31 by omega), cl (show b < 2 ^ 31 by omega)]
  exact ⟨rfl, rfl, rfl, h1, h2, h3, h4⟩
theorem AV_SR {N : Nat} {nD lD rD tD nM lM rM tM : Nat → Int32} {nt lf rt : Nat → Nat} (h : AV N nD lD rD nt lf rt) (hR : SR N nD lD rD tD nM lM rM tM) : AV N nM lM rM nt lf rt := by
  intro i hi
  obtain ⟨e1, e2, e3, -⟩ := hR i hi
  rw [← e1, ← e2, ← e3]
  exact h i hi
def Lx (lf : Nat → Nat) (i j : Nat) : Prop := lf i < lf j ∨ (lf i = lf j ∧ i < j)
theorem Lx_irr {lf : Nat → Nat} {i : Nat} (h : Lx lf i i) : False := by rcases h with h | h <;> omega
theorem Lx_asy {lf : Nat → Nat} {i j : Nat} (h : Lx lf i j) (h' : Lx lf j i) : False := by
  unfold Lx at *
  omega
theorem Lx_trans {lf : Nat → Nat} {i j k : Nat} (h : Lx lf i j) (h' : Lx lf j k) : Lx lf i k := by
  unfold Lx at *
  omega
theorem Lx_tri (lf : Nat → Nat) (i j : Nat) : Lx lf i j ∨ i = j ∨ Lx lf j i := by
  unfold Lx
  omega
/-- the first q places hold what lies before (c, i) -/
def SO (N : Nat) (lf : Nat → Nat) (c i q : Nat) (bL : Nat → Int32) (od : Nat → Nat) : Prop := (∀ k, k < q → bL k = nI (od k) ∧ od k < N ∧ (lf (od k) < c ∨ (lf (od k) = c ∧ od k < i))) ∧ (∀ k k', k < k' → k' < q → Lx lf (od k) (od k')) ∧ ∀ j, j < N → (lf j < c ∨ (lf j = c ∧ j < i)) → ∃ k, k < q ∧ od k = j
theorem SO_inj {lf : Nat → Nat} {q : Nat} {od : Nat → Nat} (h : ∀ k k', k < k' → k' < q → Lx lf (od k) (od k')) {a b : Nat} (ha : a < q) (hb : b < q) (e : od a = od b) : a = b := by
  rcases Nat.lt_trichotomy a b with r | r | r
  · have := h a b r hb; rw [e] at this; exact (Lx_irr this).elim
  · exact r
  · have := h b a r ha; rw [e] at this; exact (Lx_irr this).elim
theorem sort_in {N : Nat} (hN : N ≤ 38) {nD lD rD : Nat → Int32} {nt lf rt : Nat → Nat} (hA : AV N nD lD rD nt lf rt) {c q : Nat} (hc : c < 20) {bL : Nat → Int32} {od : Nat → Nat} (h : SO N lf c 0 q bL od) (hq : q ≤ 38) : ∃ q' bL' od', lp (f_X1_sortByLeft_B12 (nI c) lD (nI N)) 64 (nI q, 0, bL) = some (nI q', bL') ∧ q' ≤ 38 ∧ SO N lf (c + 1) 0 q' bL' od' := by
  obtain ⟨r, e, q', bL', od', rfl, h1, h2⟩ := lp_inv (b := f_X1_sortByLeft_B12 (nI c) lD (nI N)) (fun i s => ∃ q bL od, s = (nI q, nI i, bL) ∧ q ≤ 38 ∧ SO N lf c i q bL od) N (fun r => ∃ q bL od, r = (nI q, bL) ∧ q ≤ 38 ∧ SO N lf (c + 1) 0 q bL od)
    (by
      intro i s hi hI
      obtain ⟨q, bL, od, rfl, hq, h1, h2, h3⟩ := hI
      left
      obtain ⟨-, a2, -⟩ := hA i hi
      have hlf : lf i < 20 := by have := hA i hi; omega
      simp only [f_X1_sortByLeft_B12, if_neg (nle (show N < 2 ^ 30 by omega) hi), bnd_ok (show i < 38 by omega) (show 38 < 2 ^ 31 by decide), cl (show i < 2 ^ 31 by omega), a2, nI_inj (show lf i < 2 ^ 31 by omega) (show c < 2 ^ 31 by omega), nI_1]
      by_cases e : lf i = c
      · rw [if_pos e]
        have low : ∀ k, k < q → Lx lf (od k) i := fun k hk => by
          have := (h1 k hk).2.2
          unfold Lx
          omega
        have hq1 : q + 1 ≤ N := php N (q + 1) (fun k => if k = q then i else od k) (by
          intro k hk
          show (if k = q then i else od k) < N
          by_cases e : k = q
          · rw [if_pos e]; exact hi
          · rw [if_neg e]; exact (h1 k (by omega)).2.1) (by
          intro a b ha hb he
          replace he : (if a = q then i else od a) = (if b = q then i else od b) := he
          by_cases e1 : a = q
          · by_cases e2 : b = q
            · omega
            · rw [if_pos e1, if_neg e2] at he
              have := low b (by omega)
              rw [← he] at this
              exact (Lx_irr this).elim
          · by_cases e2 : b = q
            · rw [if_neg e1, if_pos e2] at he
              have := low a (by omega)
              rw [he] at this
              exact (Lx_irr this).elim
            · rw [if_neg e1, if_neg e2] at he
              exact SO_inj h2 (by omega) (by omega) he)
        rw [bnd_ok (show q < 38 by omega) (show 38 < 2 ^ 31 by decide), cl (show q < 2 ^ 31 by omega)]
        refine ⟨_, rfl, q + 1, _, fun k => if k = q then i else od k, rfl, by omega, fun k hk => ?_, fun k k' hk hk' => ?_, fun j hj hl => ?_⟩
        · show upd bL q (nI i) k = nI (if k = q then i else od k) ∧ (if k = q then i else od k) < N ∧ (lf (if k = q then i else od k) < c ∨ (lf (if k = q then i else od k) = c ∧ (if k = q then i else od k) < i + 1))
          rw [ui]
          by_cases e2 : k = q
          · rw [if_pos e2, if_pos e2]
            exact ⟨rfl, hi, Or.inr ⟨e, by omega⟩⟩
          · rw [if_neg e2, if_neg e2]
            have := h1 k (by omega)
            exact ⟨this.1, this.2.1, by omega⟩
        · show Lx lf (if k = q then i else od k) (if k' = q then i else od k')
          rw [if_neg (show ¬ k = q by omega)]
          by_cases e2 : k' = q
          · rw [if_pos e2]; exact low k (by omega)
          · rw [if_neg e2]; exact h2 k k' hk (by omega)
        · by_cases e2 : j = i
          · exact ⟨q, by omega, by show (if q = q then i else od q) = j; rw [if_pos rfl, e2]⟩
          · obtain ⟨k, hk, ek⟩ := h3 j hj (by omega)
            exact ⟨k, by omega, by show (if k = q then i else od k) = j; rw [if_neg (by omega), ek]⟩
      · rw [if_neg e]
        refine ⟨_, rfl, q, bL, od, rfl, hq, fun k hk => ?_, h2, fun j hj hl => ?_⟩
        · have := h1 k hk
          exact ⟨this.1, this.2.1, by omega⟩
        · by_cases e2 : j = i
          · subst e2
            exact h3 j hj (by omega)
          · exact h3 j hj (by omega))
    (by
      intro s hI
      obtain ⟨q, bL, od, rfl, hq, h1, h2, h3⟩ := hI
      refine ⟨(nI q, bL), by simp only [f_X1_sortByLeft_B12, if_pos (yle (show N < 2 ^ 30 by omega))], q, bL, od, rfl, hq, fun k hk => ?_, h2, fun j hj hl => h3 j hj (by omega)⟩
      have := h1 k hk
      exact ⟨this.1, this.2.1, by omega⟩) 64 0 (nI q, 0, bL) ⟨q, bL, od, rfl, hq, h⟩ (Nat.zero_le _) (by omega)
  exact ⟨q', bL', od', e, h1, h2⟩
/-- a sorted order of all -/
def OD (N : Nat) (lf : Nat → Nat) (bL : Nat → Int32) (od : Nat → Nat) : Prop := (∀ k, k < N → bL k = nI (od k) ∧ od k < N) ∧ (∀ k k', k < k' → k' < N → Lx lf (od k) (od k')) ∧ ∀ j, j < N → ∃ k, k < N ∧ od k = j
theorem sort_c {N : Nat} (hN : N ≤ 38) {nD lD rD : Nat → Int32} {nt lf rt : Nat → Nat} (hA : AV N nD lD rD nt lf rt) (bL : Nat → Int32) : ∃ bL' od, f_X1_sortByLeft lD bL (nI N) = some bL' ∧ OD N lf bL' od := by
  obtain ⟨bL', e, q, od, hq, h1, h2, h3⟩ := lp_inv (b := f_X1_sortByLeft_B4 lD (nI N)) (fun c s => ∃ q bL od, s = (nI q, nI c, bL) ∧ q ≤ 38 ∧ SO N lf c 0 q bL od) 20 (fun bL => ∃ q od, q ≤ 38 ∧ SO N lf 20 0 q bL od)
    (by
      intro c s hc hI
      obtain ⟨q, bL, od, rfl, hq, h⟩ := hI
      left
      obtain ⟨q', bL', od', e, h1, h2⟩ := sort_in hN hA hc h hq
      simp only [f_X1_sortByLeft_B4, if_neg (ge20 hc), e, Option.bind_some, nI_1]
      exact ⟨_, rfl, q', bL', od', rfl, h1, h2⟩)
    (by
      intro s hI
      obtain ⟨q, bL, od, rfl, hq, h⟩ := hI
      exact ⟨bL, rfl, q, od, hq, h⟩) 64 0 (0, 0, bL) ⟨0, bL, fun _ => 0, rfl, by omega, fun k hk => absurd hk (Nat.not_lt_zero _), fun k k' _ hk => absurd hk (Nat.not_lt_zero _), fun j _ hl => by omega⟩ (Nat.zero_le _) (by omega)
  have a1 : q ≤ N := php N q od (fun k hk => (h1 k hk).2.1) (fun a b ha hb he => SO_inj h2 ha hb he)
  have ex : ∀ j, ∃ k, j < N → k < q ∧ od k = j := fun j => by
    rcases Nat.lt_or_ge j N with r | r
    · obtain ⟨k, hk⟩ := h3 j r (Or.inl (by have := hA j r; omega))
      exact ⟨k, fun _ => hk⟩
    · exact ⟨0, fun w => absurd w (by omega)⟩
  have a2 : N ≤ q := php q N (fun j => Classical.choose (ex j)) (fun j hj => (Classical.choose_spec (ex j) hj).1) (fun i j hi hj e => by
    have g1 := (Classical.choose_spec (ex i) hi).2
    have g2 := (Classical.choose_spec (ex j) hj).2
    have e' : Classical.choose (ex i) = Classical.choose (ex j) := e
    exact g1.symm.trans ((congrArg od e').trans g2))
  obtain rfl : q = N := by omega
  refine ⟨bL', od, ?_, fun k hk => ⟨(h1 k hk).1, (h1 k hk).2.1⟩, h2, fun j hj => h3 j hj (Or.inl (by have := hA j hj; omega))⟩
  unfold f_X1_sortByLeft
  rw [e]
  rfl

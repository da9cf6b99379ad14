/-! one track -/
theorem lp_step {σ ρ : Type} {b : σ → Option (σ ⊕ ρ)} {s s' : σ} (h : b s = some (.inl s')) (n : Nat) : lp b (n + 1) s = lp b n s' := by
  show (match b s with | none => none | some (.inl s') => lp b n s' | some (.inr r) => some r) = lp b n s'
  rw [h]
theorem lp_end {σ ρ : Type} {b : σ → Option (σ ⊕ ρ)} {s : σ} {r : ρ} (h : b s = some (.inr r)) (n : Nat) : lp b (n + 1) s = some r := by
  show (match b s with | none => none | some (.inl s') => lp b n s' | some (.inr r) => some r) = some r
  rw [h]
/-- how many have a track -/
def cP (tM : Nat → Int32) : Nat → Nat
  | 0 => 0
  | n + 1 => cP tM n + (if tM n = -1 then 0 else 1)
theorem cP_le (tM : Nat → Int32) : ∀ n, cP tM n ≤ n := by
  intro n
  induction n with
  | zero => exact Nat.le_refl _
  | succ n ih =>
    show cP tM n + (if tM n = -1 then 0 else 1) ≤ n + 1
    by_cases h : tM n = -1
    · rw [if_pos h]; omega
    · rw [if_neg h]; omega
theorem cP_congr {t t' : Nat → Int32} : ∀ n, (∀ i, i < n → t i = t' i) → cP t n = cP t' n := by
  intro n
  induction n with
  | zero => intro _; rfl
  | succ n ih =>
    intro h
    show cP t n + (if t n = -1 then 0 else 1) = cP t' n + (if t' n = -1 then 0 else 1)
    rw [ih (fun i hi => h i (by omega)), h n (by omega)]
theorem cP_upd {t : Nat → Int32} {i : Nat} {v : Int32} (h : t i = -1) (hv : ¬ v = -1) : ∀ n, i < n → cP (upd t i v) n = cP t n + 1 := by
  intro n
  induction n with
  | zero => intro hi; exact absurd hi (Nat.not_lt_zero _)
  | succ n ih =>
    intro hi
    show cP (upd t i v) n + (if upd t i v n = -1 then 0 else 1) = cP t n + (if t n = -1 then 0 else 1) + 1
    by_cases e : n = i
    · subst e
      rw [ui, if_pos rfl, if_neg hv, h, if_pos rfl, cP_congr (t' := t) n (fun j hj => by rw [ui, if_neg (by omega)])]
    · rw [ui, if_neg e, ih (by omega)]
      omega
theorem cP_full {t : Nat → Int32} : ∀ n, cP t n = n → ∀ i, i < n → ¬ t i = -1 := by
  intro n
  induction n with
  | zero => intro _ i hi; exact absurd hi (Nat.not_lt_zero _)
  | succ n ih =>
    intro h i hi
    have h' : cP t n + (if t n = -1 then 0 else 1) = n + 1 := h
    have := cP_le t n
    by_cases c : t n = -1
    · rw [if_pos c] at h'; omega
    · rw [if_neg c] at h'
      by_cases e : i = n
      · rw [e]; exact c
      · exact ih (by omega) i (by omega)
theorem cP_some {t : Nat → Int32} {n i : Nat} (hi : i < n) (h : t i = -1) : cP t n < n := by
  have h1 := cP_le t n
  rcases Nat.lt_or_ge (cP t n) n with q | q
  · exact q
  · exact absurd h (cP_full n (by omega) i hi)
/-- the state of the scan, after the first k of the order -/
def SC (N : Nat) (bel : Nat → Int64) (nt lf rt od : Nat → Nat) (τ : Nat) (rdy : Int64) (tC0 tM0 : Nat → Int32) (k : Nat) (tk : Int64) (o : Option Nat) (tC tM : Nat → Int32) (r : Option Nat) : Prop :=
  (∀ i, i < N → (bl tk i = true ∧ bl rdy i = true ∧ tM i = nI τ ∧ tC i = nI τ) ∨ (bl tk i = false ∧ tM i = tM0 i ∧ tC i = tC0 i))
  ∧ NX N bel nt lf rt o tM τ r
  ∧ (∀ i, i < N → bl tk i = true → ∃ k', k' < k ∧ od k' = i)
  ∧ (∀ k', k' < k → ¬ Cd N bel nt lf rt o tM τ (od k'))
  ∧ (∀ l, o = some l → l < N ∧ bl tk l = true)
  ∧ (∀ i, i < N → bl tk i = true → ∃ l, o = some l ∧ (i = l ∨ rt i ≤ lf l))
  ∧ (∀ i j, i < N → j < N → bl tk i = true → bl tk j = true → ∀ c, lf i ≤ c → c ≤ rt i → lf j ≤ c → c ≤ rt j → nt i = nt j)
theorem SC_free {N : Nat} {bel : Nat → Int64} {nt lf rt od : Nat → Nat} {τ : Nat} (hτ : τ < 2 ^ 30) {rdy : Int64} {tC0 tM0 : Nat → Int32} (hr : ∀ i, i < N → (bl rdy i = true ↔ Fr N bel tM0 τ i)) {k : Nat} {tk : Int64} {o : Option Nat} {tC tM : Nat → Int32} {r : Option Nat} (h : SC N bel nt lf rt od τ rdy tC0 tM0 k tk o tC tM r) {i : Nat} (hi : i < N) : Fr N bel tM τ i ↔ bl rdy i = true ∧ bl tk i = false := by
  obtain ⟨h1, -⟩ := h
  constructor
  · intro hf
    have h2 : bl tk i = false := by
      rcases h1 i hi with ⟨a, -, b, -⟩ | ⟨a, -, -⟩
      · have := hf.1; rw [b] at this; exact absurd this (nI_ne_m1 (by omega))
      · exact a
    refine ⟨(hr i hi).mpr ⟨?_, fun x hx hb => ?_⟩, h2⟩
    · rcases h1 i hi with ⟨a, -⟩ | ⟨-, a, -⟩
      · rw [h2] at a; cases a
      · rw [← a]; exact hf.1
    · obtain ⟨v, hv, e⟩ := hf.2 x hx hb
      rcases h1 x hx with ⟨-, -, a, -⟩ | ⟨-, a, -⟩
      · rw [a] at e
        have := (nI_inj (by omega) (by omega)).mp e
        omega
      · exact ⟨v, hv, by rw [← a]; exact e⟩
  · rintro ⟨h2, h3⟩
    have hf := (hr i hi).mp h2
    refine ⟨?_, fun x hx hb => ?_⟩
    · rcases h1 i hi with ⟨a, -⟩ | ⟨-, a, -⟩
      · rw [h3] at a; cases a
      · rw [a]; exact hf.1
    · obtain ⟨v, hv, e⟩ := hf.2 x hx hb
      rcases h1 x hx with ⟨-, a, -, -⟩ | ⟨-, a, -⟩
      · have := ((hr x hx).mp a).1
        rw [this] at e
        exact absurd e.symm (nI_ne_m1 (by omega))
      · exact ⟨v, hv, by rw [a]; exact e⟩
theorem SC_Tk {N : Nat} {bel : Nat → Int64} {nt lf rt od : Nat → Nat} {τ : Nat} (hτ : τ < 40) {rdy : Int64} {tC0 tM0 : Nat → Int32} (h0 : Tk N tM0) {k : Nat} {tk : Int64} {o : Option Nat} {tC tM : Nat → Int32} {r : Option Nat} (h : SC N bel nt lf rt od τ rdy tC0 tM0 k tk o tC tM r) : Tk N tM := by
  intro i hi
  rcases h.1 i hi with ⟨-, -, a, -⟩ | ⟨-, a, -⟩
  · exact Or.inr ⟨τ, hτ, a⟩
  · rw [a]; exact h0 i hi
theorem track {N : Nat} (hN : N ≤ 38) {bel belM : Nat → Int64} (hM : ∀ x, x < N → belM x = bel x) {nD lD rD nM lM rM bL : Nat → Int32} {nt lf rt od : Nat → Nat} (hA : AV N nD lD rD nt lf rt) (hAM : AV N nM lM rM nt lf rt) (hO : OD N lf bL od) {τ : Nat} (hτ : τ < 40) {rdy : Int64} {tC0 tM0 : Nat → Int32} (hT0 : Tk N tM0) (hr : ∀ i, i < N → (bl rdy i = true ↔ Fr N bel tM0 τ i)) :
    ∃ tk tC tM o, f_X1_fillTrack nD lD rD tC0 bL (nI N) (nI τ) rdy = some (tk, tC)
      ∧ (∃ r0, f_X4_nextFor (nI N) nM lM rM belM tM0 (nI τ) (-1) (-1) (-1) = some r0 ∧ lp (f_X4_fill_B47 (nI τ) (nI N) nM lM rM belM) 64 (nI (cP tM0 N), r0, tM0) = some (nI (cP tM N), tM))
      ∧ (∃ r, SC N bel nt lf rt od τ rdy tC0 tM0 N tk o tC tM r) := by
  have Frb : ∀ tM y, y < N → (Fr N belM tM τ y ↔ Fr N bel tM τ y) := fun tM y hy => by
    unfold Fr
    constructor
    · rintro ⟨a, b⟩; exact ⟨a, fun x hx hb => b x hx (by rw [hM x hx]; exact hb)⟩
    · rintro ⟨a, b⟩; exact ⟨a, fun x hx hb => b x hx (by rw [← hM x hx]; exact hb)⟩
  have Cdb : ∀ o tM y, y < N → (Cd N belM nt lf rt o tM τ y ↔ Cd N bel nt lf rt o tM τ y) := fun o tM y hy => by
    unfold Cd
    rw [Frb tM y hy]
  have NXb : ∀ o tM r, NX N belM nt lf rt o tM τ r → NX N bel nt lf rt o tM τ r := by
    intro o tM r h
    rcases h with ⟨a, b⟩ | ⟨y, a, b, c, d⟩
    · exact Or.inl ⟨a, fun y hy hc => b y hy ((Cdb o tM y hy).mpr hc)⟩
    · exact Or.inr ⟨y, a, b, (Cdb o tM y b).mp c, fun z hz hc => d z hz ((Cdb o tM z hz).mpr hc)⟩
  obtain ⟨r0, er0, hr0⟩ := next_m hN hAM hT0 (show τ < 2 ^ 30 by omega) (o := none) (fun l h => by cases h) (bel := belM)
  replace hr0 := NXb _ _ _ hr0
  obtain ⟨o1, o2, o3⟩ := hO
  have start : lp (f_X1_fillTrack_B8 rdy nD lD rD bL (nI N) (nI τ)) 64 (0, (-1), 0, tC0) = lp (f_X1_fillTrack_B8 rdy nD lD rD bL (nI N) (nI τ)) 64 (0, oI none, nI 0, tC0) := rfl
  obtain ⟨res, e, tk, tC, tM, o, rfl, hres, hsc⟩ := lp_inv (b := f_X1_fillTrack_B8 rdy nD lD rD bL (nI N) (nI τ))
    (fun k s => ∃ tk o tC tM r m, s = (tk, oI o, nI k, tC) ∧ m ≤ k ∧ (∀ f, lp (f_X4_fill_B47 (nI τ) (nI N) nM lM rM belM) (m + f) (nI (cP tM0 N), oI r0, tM0) = lp (f_X4_fill_B47 (nI τ) (nI N) nM lM rM belM) f (nI (cP tM N), oI r, tM)) ∧ SC N bel nt lf rt od τ rdy tC0 tM0 k tk o tC tM r)
    N (fun res => ∃ tk tC tM o, res = (tk, tC) ∧ lp (f_X4_fill_B47 (nI τ) (nI N) nM lM rM belM) 64 (nI (cP tM0 N), oI r0, tM0) = some (nI (cP tM N), tM) ∧ ∃ r, SC N bel nt lf rt od τ rdy tC0 tM0 N tk o tC tM r)
    (by
      intro k s hk hI
      obtain ⟨tk, o, tC, tM, r, m, rfl, hm, hf, hS⟩ := hI
      left
      obtain ⟨ob, oi⟩ := o1 k hk
      have hSC := hS
      obtain ⟨s1, s2, s3, s4, s5, s6, s7⟩ := hS
      have keep : ¬ Cd N bel nt lf rt o tM τ (od k) → SC N bel nt lf rt od τ rdy tC0 tM0 (k + 1) tk o tC tM r := by
        intro hn
        refine ⟨s1, s2, fun i hi hb => ?_, fun k' hk' => ?_, s5, s6, s7⟩
        · obtain ⟨k', h1, h2⟩ := s3 i hi hb
          exact ⟨k', by omega, h2⟩
        · by_cases e : k' = k
          · rw [e]; exact hn
          · exact s4 k' (by omega)
      simp only [f_X1_fillTrack_B8, if_neg (nle (show N < 2 ^ 30 by omega) hk), bnd_ok (show k < 38 by omega) (show 38 < 2 ^ 31 by decide), cl (show k < 2 ^ 31 by omega), ob, isIn_eq _ (show od k < 64 by omega), Option.bind_some, nI_1]
      cases q : bl rdy (od k) with
      | false =>
        simp only [Bool.false_eq_true, if_false, if_true]
        refine ⟨_, rfl, tk, o, tC, tM, r, m, rfl, by omega, hf, keep (fun hc => ?_)⟩
        have := ((SC_free (show τ < 2 ^ 30 by omega) hr hSC oi).mp hc.2.2).1
        rw [q] at this
        cases this
      | true =>
        simp only [if_true, show ¬ ((1 : Int32) = 0) from by decide, if_false]
        obtain ⟨v, ev, hv⟩ := fits_c hN hA (o := o) (fun l hl => (s5 l hl).1) oi
        rw [ev]
        simp only [Option.bind_some]
        rcases hv with ⟨rfl, hv⟩ | ⟨rfl, hv⟩
        · rw [if_neg (by decide), bnd_ok (show od k < 38 by omega) (show 38 < 2 ^ 31 by decide), cl (show od k < 2 ^ 31 by omega)]
          have hnt : bl tk (od k) = false := by
            cases q2 : bl tk (od k) with
            | false => rfl
            | true =>
              obtain ⟨k', h1, h2⟩ := s3 (od k) oi q2
              have := o2 k' k h1 hk
              rw [h2] at this
              exact (Lx_irr this).elim
          have hlt : Lt lf o (od k) := fun l hl => by
            obtain ⟨hl1, hl2⟩ := s5 l hl
            obtain ⟨k', h1, h2⟩ := s3 l hl1 hl2
            rw [← h2]
            exact o2 k' k h1 hk
          have hfr : Fr N bel tM τ (od k) := (SC_free (show τ < 2 ^ 30 by omega) hr hSC oi).mpr ⟨q, hnt⟩
          have hcd : Cd N bel nt lf rt o tM τ (od k) := ⟨hlt, hv, hfr⟩
          have hre : r = some (od k) := by
            rcases s2 with ⟨-, h⟩ | ⟨y, hy, hyN, hyc, hym⟩
            · exact absurd hcd (h (od k) oi)
            · rcases hym (od k) oi hcd with h | h
              · rw [hy, h]
              · obtain ⟨k'', hk1, hk2⟩ := o3 y hyN
                rw [← hk2] at h hyc
                rcases Nat.lt_trichotomy k'' k with c | c | c
                · exact absurd hyc (s4 k'' c)
                · rw [c] at h; exact (Lx_irr h).elim
                · exact (Lx_asy h (o2 k k'' c hk1)).elim
          have hT := SC_Tk hτ hT0 hSC
          have hT' : Tk N (upd tM (od k) (nI τ)) := fun i hi => by
            rw [ui]
            by_cases e : i = od k
            · rw [if_pos e]; exact Or.inr ⟨τ, hτ, rfl⟩
            · rw [if_neg e]; exact hT i hi
          obtain ⟨r', er', hr'⟩ := next_m hN hAM hT' (show τ < 2 ^ 30 by omega) (o := some (od k)) (fun l h => by cases h; exact oi) (bel := belM)
          replace hr' := NXb _ _ _ hr'
          obtain ⟨-, am2, -⟩ := hAM (od k) oi
          have stepM : f_X4_fill_B47 (nI τ) (nI N) nM lM rM belM (nI (cP tM N), oI r, tM) = some (.inl (nI (cP (upd tM (od k) (nI τ)) N), oI r', upd tM (od k) (nI τ))) := by
            rw [hre, show oI (some (od k)) = nI (od k) from rfl]
            simp only [f_X4_fill_B47, if_neg (nI_nlt0 (show od k < 2 ^ 31 by omega)), bnd_ok (show od k < 40 by omega) (show 40 < 2 ^ 31 by decide), cl (show od k < 2 ^ 31 by omega), am2]
            have er2 : f_X4_nextFor (nI N) nM lM rM belM (upd tM (od k) (nI τ)) (nI τ) (nI (od k)) (nI (lf (od k))) (nI (od k)) = some (oI r') := er'
            rw [er2, cP_upd hfr.1 (nI_ne_m1 (show τ < 2 ^ 31 by omega)) N oi]
            simp only [Option.bind_some, nI_1]
          refine ⟨_, rfl, _, some (od k), _, upd tM (od k) (nI τ), r', m + 1, rfl, by omega, fun f => ?_, ?_⟩
          · rw [show m + 1 + f = m + (f + 1) by omega, hf, lp_step stepM]
          · have bo : ∀ i, i < N → bl (tk ||| ((1 : Int64) <<< ((nI (od k)).toInt64 &&& 63))) i = (bl tk i || decide (i = od k)) := fun i hi => by
              rw [bl_or, bl_one (od k) (by omega) i (by omega)]
            have old : ∀ i, i < N → bl tk i = true → rt i ≤ lf (od k) ∧ ∀ c, c ≤ rt i → lf (od k) ≤ c → nt i = nt (od k) := fun i hi hb => by
              obtain ⟨l, hl, hil⟩ := s6 i hi hb
              have h1 := hv l hl
              have h2 := hA l (s5 l hl).1
              rcases hil with rfl | hil
              · exact ⟨by omega, fun c hc1 hc2 => by omega⟩
              · exact ⟨by omega, fun c hc1 hc2 => by omega⟩
            refine ⟨fun i hi => ?_, hr', fun i hi hb => ?_, fun k' hk' hc => ?_, fun l hl => ?_, fun i hi hb => ?_, fun i j hi hj hbi hbj c c1 c2 c3 c4 => ?_⟩
            · rw [bo i hi, ui, ui]
              by_cases e : i = od k
              · rw [if_pos e, if_pos e]
                subst e
                exact Or.inl ⟨by simp, q, rfl, rfl⟩
              · rw [if_neg e, if_neg e, decide_eq_false e, Bool.or_false]
                exact s1 i hi
            · rw [bo i hi] at hb
              by_cases e : i = od k
              · exact ⟨k, by omega, e.symm⟩
              · rw [decide_eq_false e, Bool.or_false] at hb
                obtain ⟨k', h1, h2⟩ := s3 i hi hb
                exact ⟨k', by omega, h2⟩
            · have h1 := hc.1 (od k) rfl
              by_cases e : k' = k
              · rw [e] at h1; exact Lx_irr h1
              · exact Lx_asy h1 (o2 k' k (by omega) hk)
            · cases hl
              exact ⟨oi, by rw [bo (od k) oi]; simp⟩
            · refine ⟨od k, rfl, ?_⟩
              rw [bo i hi] at hb
              by_cases e : i = od k
              · exact Or.inl e
              · rw [decide_eq_false e, Bool.or_false] at hb
                exact Or.inr (old i hi hb).1
            · rw [bo i hi] at hbi
              rw [bo j hj] at hbj
              by_cases e1 : i = od k
              · by_cases e2 : j = od k
                · rw [e1, e2]
                · rw [decide_eq_false e2, Bool.or_false] at hbj
                  rw [e1]
                  rw [e1] at c1
                  exact ((old j hj hbj).2 c c4 c1).symm
              · rw [decide_eq_false e1, Bool.or_false] at hbi
                by_cases e2 : j = od k
                · rw [e2]
                  rw [e2] at c3
                  exact (old i hi hbi).2 c c2 c3
                · rw [decide_eq_false e2, Bool.or_false] at hbj
                  exact s7 i j hi hj hbi hbj c c1 c2 c3 c4
        · rw [if_pos rfl]
          exact ⟨_, rfl, tk, o, tC, tM, r, m, rfl, by omega, hf, keep (fun hc => hv hc.2.1)⟩)
    (by
      intro s hI
      obtain ⟨tk, o, tC, tM, r, m, rfl, hm, hf, hS⟩ := hI
      refine ⟨(tk, tC), by simp only [f_X1_fillTrack_B8, if_pos (yle (show N < 2 ^ 30 by omega))], tk, tC, tM, o, rfl, ?_, r, hS⟩
      have hrn : r = none := by
        rcases hS.2.1 with ⟨h, -⟩ | ⟨y, hy, hyN, hyc, -⟩
        · exact h
        · obtain ⟨k'', hk1, hk2⟩ := o3 y hyN
          rw [← hk2] at hyc
          exact absurd hyc (hS.2.2.2.1 k'' hk1)
      have := hf (63 - m + 1)
      rw [show m + (63 - m + 1) = 64 by omega] at this
      rw [this]
      apply lp_end
      rw [hrn]
      have hneg : oI none < 0 := m1_lt0
      simp only [f_X4_fill_B47, if_pos hneg]) 64 0 (0, oI none, nI 0, tC0) ⟨0, none, tC0, tM0, r0, 0, rfl, Nat.le_refl _, fun f => by rw [Nat.zero_add], ⟨fun i hi => Or.inr ⟨bl_0 i, rfl, rfl⟩, hr0, fun i hi hb => (by rw [bl_0] at hb; cases hb), fun k' hk' => absurd hk' (Nat.not_lt_zero _), fun l hl => (by cases hl), fun i hi hb => (by rw [bl_0] at hb; cases hb), fun i j hi hj hb => (by rw [bl_0] at hb; cases hb)⟩⟩ (Nat.zero_le _) (by omega)
  refine ⟨tk, tC, tM, o, ?_, ⟨oI r0, er0, hres⟩, hsc⟩
  unfold f_X1_fillTrack
  rw [start, e]
  rfl

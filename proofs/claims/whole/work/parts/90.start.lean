def R_law : String := "ChannelRouterLaw"
def lw_P (b : Addr) (xs : List Int32) (args : Array Value) (s : State) : Prop := args = #[.ref b] ∧ s.IntsAt b xs ∧ xs.length ≤ 2048 ∧ (Jvm.Cond.and given_1 narrow_1).before args s = true
def lw_Q (_ : Array Value) (s : State) (o : Outcome) (t : State) : Prop := o = .returned (some (.int 1)) ∧ Framed s o t [] 1079 9617
def lw_Z (below : List Frame) (a : Array Value) (s : State) : State → Prop := fun t => ∃ o, t.status = .running ∧ Ended t below o ∧ lw_Q a s o t
/-- the law's own end, with 1 on the stack, nothing written that was there before, its room as the claim has it -/
theorem lw_ret {p : Program} {l : Launch} {e : Env} {s : State} {m : MethodId} {below : List Frame} {meth : Method} {c : Code} {b : Nat} (hx : p.tables.exec = Jvm.exec) (hb : c.code = code) (hr : meth.sig.returnType = ret) (hlocks : meth.locks = false) {pc : Nat} {H : Heap} {ls : Array Slot} (hdg : decode code pc = .ok (.ireturn, 1)) : W p l e room_1 s m #[Value.ref b] below meth c H [] 1079 9617 (lw_Z below #[Value.ref b] s) (F0 m pc ls [.int 1]) := by
  intro T hT X
  obtain ⟨fs, hret, hrun, hended, hW, hframe⟩ := X.leave (v := some (.int 1)) (hlocks := hlocks) (fun h => by rw [hr] at h; cases h)
  have hmeth' : T.vm.method? m = some meth := X.method'
  refine ⟨T.setFrames fs, ?_, .returned (some (.int 1)), hrun, hended, rfl, ⟨_, rfl⟩, hW, hframe⟩
  jvm_step X.here [X.here.top, hx, hb, hdg, hmeth', hr, ret, narrow_b1]
  (try refine ⟨rfl, ?_⟩); (try refine ⟨rfl, ?_⟩)
  first | (intro acts; rw [hret _ acts rfl rfl rfl]) | rw [hret _ _ rfl rfl rfl]
  exact Steps.refl _
/-- what holds at the law's entry: the machine, the code, the tables' words (any of lw_tbl by 'hts w (by decide +kernel)'), the script of L ints xs at the cell b, what the Statement gives of the start (any of its parts by flat_of_before) -/
def lw_At (p : Program) (s : State) (m : MethodId) (meth : Method) (c : Code) (b L : Nat) (xs : Nat → Int32) : Prop :=
  p.tables.exec = Jvm.exec ∧ c.code = code ∧ meth.sig.returnType = ret ∧ c.maxLocals = 9 ∧ s.vm.findClass R_law = some m.cls ∧ (∀ w ∈ lw_tbl, w.before #[Value.ref b] s = true) ∧ va_X b L xs s s.heap ∧ b < s.heap.size ∧ meth.locks = false ∧ (Jvm.Cond.and given_1 narrow_1).before #[Value.ref b] s = true
set_option maxHeartbeats 4000000 in
set_option maxRecDepth 100000 in
theorem law_loop {p : Program} {l : Launch} {e : Env} {s : State} {m : MethodId} {args : Array Value} {below : List Frame} {meth : Method} {c : Code} {D : va_G} {A : Nat → Prop} {cI cJ : ClassId} {Q : State → Prop} (C : Cx p s m args c cL_law 9 RL D A cI cJ) (hst : l.stackTraces = false) (hK : KH A s) {b L : Nat} {xs : Nat → Int32} (hX : va_X b L xs s s.heap) (hbl : b < s.heap.size) (hbA : ¬ A b) (hL : L ≤ 2048) {aO aP aR aT aM : Nat → Nat} (LInv : Nat → LSt → Prop)
    (hstep : ∀ (i : Nat) (σ : LSt), LInv i σ → (4 * i + 4 ≤ L ∧ ∃ σ', f_L_law_B xs L σ = some (.inl σ') ∧ LInv (i + 1) σ') ∨ f_L_law_B xs L σ = some (.inr ()))
    (hret : ∀ (n1 m1 : Nat) (ws : va_W), n1 ≤ 1079 → m1 ≤ 9617 → V p l e room_1 s m args below meth c 9 D A n1 m1 Q 847 [] [] ws) :
    ∀ (k i : Nat) (σ : LSt), LInv i σ → 4 * i ≤ L → L < 4 * i + 4 * k + 4 → V p l e room_1 s m args below meth c 9 D A (41 + i) (1341 + 6 * i) Q 23 [(0, .ref (b)), (1, .ref (aO 0)), (2, .ref (aM 0)), (3, .ref (aT 0)), (4, .int σ.1)] [] (wAll cI cJ aO aP aR σ.2.1 σ.2.2.1 (σ.2.1 0) (σ.2.2.1 0) σ.2.2.2.1 σ.2.2.2.2.1 σ.2.2.2.2.2.1 σ.2.2.2.2.2.2.1 σ.2.2.2.2.2.2.2.1 σ.2.2.2.2.2.2.2.2.1 σ.2.2.2.2.2.2.2.2.2.1 σ.2.2.2.2.2.2.2.2.2.2.1 σ.2.2.2.2.2.2.2.2.2.2.2.1 σ.2.2.2.2.2.2.2.2.2.2.2.2.1 σ.2.2.2.2.2.2.2.2.2.2.2.2.2.1 σ.2.2.2.2.2.2.2.2.2.2.2.2.2.2.1 σ.2.2.2.2.2.2.2.2.2.2.2.2.2.2.2.1 σ.2.2.2.2.2.2.2.2.2.2.2.2.2.2.2.2.1 σ.2.2.2.2.2.2.2.2.2.2.2.2.2.2.2.2.2.1 σ.2.2.2.2.2.2.2.2.2.2.2.2.2.2.2.2.2.2.1 σ.2.2.2.2.2.2.2.2.2.2.2.2.2.2.2.2.2.2.2.1 σ.2.2.2.2.2.2.2.2.2.2.2.2.2.2.2.2.2.2.2.2.1 σ.2.2.2.2.2.2.2.2.2.2.2.2.2.2.2.2.2.2.2.2.2.1 σ.2.2.2.2.2.2.2.2.2.2.2.2.2.2.2.2.2.2.2.2.2.2.1 σ.2.2.2.2.2.2.2.2.2.2.2.2.2.2.2.2.2.2.2.2.2.2.2.1 σ.2.2.2.2.2.2.2.2.2.2.2.2.2.2.2.2.2.2.2.2.2.2.2.2.1 σ.2.2.2.2.2.2.2.2.2.2.2.2.2.2.2.2.2.2.2.2.2.2.2.2.2.1 σ.2.2.2.2.2.2.2.2.2.2.2.2.2.2.2.2.2.2.2.2.2.2.2.2.2.2.1 σ.2.2.2.2.2.2.2.2.2.2.2.2.2.2.2.2.2.2.2.2.2.2.2.2.2.2.2.1 σ.2.2.2.2.2.2.2.2.2.2.2.2.2.2.2.2.2.2.2.2.2.2.2.2.2.2.2.2.1 σ.2.2.2.2.2.2.2.2.2.2.2.2.2.2.2.2.2.2.2.2.2.2.2.2.2.2.2.2.2.1 aT σ.2.2.2.2.2.2.2.2.2.2.2.2.2.2.2.2.2.2.2.2.2.2.2.2.2.2.2.2.2.2.1 aM σ.2.2.2.2.2.2.2.2.2.2.2.2.2.2.2.2.2.2.2.2.2.2.2.2.2.2.2.2.2.2.2.1 σ.2.2.2.2.2.2.2.2.2.2.2.2.2.2.2.2.2.2.2.2.2.2.2.2.2.2.2.2.2.2.2.2.1 σ.2.2.2.2.2.2.2.2.2.2.2.2.2.2.2.2.2.2.2.2.2.2.2.2.2.2.2.2.2.2.2.2.2.1 σ.2.2.2.2.2.2.2.2.2.2.2.2.2.2.2.2.2.2.2.2.2.2.2.2.2.2.2.2.2.2.2.2.2.2.1 σ.2.2.2.2.2.2.2.2.2.2.2.2.2.2.2.2.2.2.2.2.2.2.2.2.2.2.2.2.2.2.2.2.2.2.2.1 σ.2.2.2.2.2.2.2.2.2.2.2.2.2.2.2.2.2.2.2.2.2.2.2.2.2.2.2.2.2.2.2.2.2.2.2.2.1 σ.2.2.2.2.2.2.2.2.2.2.2.2.2.2.2.2.2.2.2.2.2.2.2.2.2.2.2.2.2.2.2.2.2.2.2.2.2.1 σ.2.2.2.2.2.2.2.2.2.2.2.2.2.2.2.2.2.2.2.2.2.2.2.2.2.2.2.2.2.2.2.2.2.2.2.2.2.2.1 σ.2.2.2.2.2.2.2.2.2.2.2.2.2.2.2.2.2.2.2.2.2.2.2.2.2.2.2.2.2.2.2.2.2.2.2.2.2.2.2.1 σ.2.2.2.2.2.2.2.2.2.2.2.2.2.2.2.2.2.2.2.2.2.2.2.2.2.2.2.2.2.2.2.2.2.2.2.2.2.2.2.2.1 σ.2.2.2.2.2.2.2.2.2.2.2.2.2.2.2.2.2.2.2.2.2.2.2.2.2.2.2.2.2.2.2.2.2.2.2.2.2.2.2.2.2.1 σ.2.2.2.2.2.2.2.2.2.2.2.2.2.2.2.2.2.2.2.2.2.2.2.2.2.2.2.2.2.2.2.2.2.2.2.2.2.2.2.2.2.2.1 σ.2.2.2.2.2.2.2.2.2.2.2.2.2.2.2.2.2.2.2.2.2.2.2.2.2.2.2.2.2.2.2.2.2.2.2.2.2.2.2.2.2.2.2.1 σ.2.2.2.2.2.2.2.2.2.2.2.2.2.2.2.2.2.2.2.2.2.2.2.2.2.2.2.2.2.2.2.2.2.2.2.2.2.2.2.2.2.2.2.2.1 σ.2.2.2.2.2.2.2.2.2.2.2.2.2.2.2.2.2.2.2.2.2.2.2.2.2.2.2.2.2.2.2.2.2.2.2.2.2.2.2.2.2.2.2.2.2.1 σ.2.2.2.2.2.2.2.2.2.2.2.2.2.2.2.2.2.2.2.2.2.2.2.2.2.2.2.2.2.2.2.2.2.2.2.2.2.2.2.2.2.2.2.2.2.2.1 σ.2.2.2.2.2.2.2.2.2.2.2.2.2.2.2.2.2.2.2.2.2.2.2.2.2.2.2.2.2.2.2.2.2.2.2.2.2.2.2.2.2.2.2.2.2.2.2.1 σ.2.2.2.2.2.2.2.2.2.2.2.2.2.2.2.2.2.2.2.2.2.2.2.2.2.2.2.2.2.2.2.2.2.2.2.2.2.2.2.2.2.2.2.2.2.2.2.2.1 σ.2.2.2.2.2.2.2.2.2.2.2.2.2.2.2.2.2.2.2.2.2.2.2.2.2.2.2.2.2.2.2.2.2.2.2.2.2.2.2.2.2.2.2.2.2.2.2.2.2.1 σ.2.2.2.2.2.2.2.2.2.2.2.2.2.2.2.2.2.2.2.2.2.2.2.2.2.2.2.2.2.2.2.2.2.2.2.2.2.2.2.2.2.2.2.2.2.2.2.2.2.2.1 σ.2.2.2.2.2.2.2.2.2.2.2.2.2.2.2.2.2.2.2.2.2.2.2.2.2.2.2.2.2.2.2.2.2.2.2.2.2.2.2.2.2.2.2.2.2.2.2.2.2.2.2.1 σ.2.2.2.2.2.2.2.2.2.2.2.2.2.2.2.2.2.2.2.2.2.2.2.2.2.2.2.2.2.2.2.2.2.2.2.2.2.2.2.2.2.2.2.2.2.2.2.2.2.2.2.2.1 σ.2.2.2.2.2.2.2.2.2.2.2.2.2.2.2.2.2.2.2.2.2.2.2.2.2.2.2.2.2.2.2.2.2.2.2.2.2.2.2.2.2.2.2.2.2.2.2.2.2.2.2.2.2) := by
  intro k
  induction k with
  | zero =>
    intro i σ hI hi hk
    rcases hstep i σ hI with ⟨h1, -⟩ | h
    · exact absurd h1 (by omega)
    · obtain ⟨x4, aL, aD, isLaid_O, timesLaid_O, timesRefused_O, top_P, bottom_P, reach_R, steps_R, told_R, length_R, netOf_L, left_L, right_L, trackOf_L, touched_L, below_L, byLeft_L, size_L, tracks_L, netOf_D, left_D, right_D, trackOf_D, touched_D, below_D, byLeft_D, size_D, tracks_D, out_T, thrown_M, pins_M, many_M, nets_M, lefts_M, rights_M, touches_M, below_M, reach_M, tracksOf_M, steps_M, laid_M, laidMany_M, tracks_M, laidNet_M, laidLeft_M, laidRight_M, laidTouch_M, laidTrack_M, ringSize_M, ringOf_M, lays_M, refusals_M⟩ := σ
      exact t_L_law_B C hst hK hX hbl hbA (by omega) (by omega) _ h (fun s8 e => by cases e) (fun _ => hret _ _ _ (by omega) (by omega))
  | succ k ih =>
    intro i σ hI hi hk
    rcases hstep i σ hI with ⟨h1, σ', h, hI'⟩ | h
    · obtain ⟨x4, aL, aD, isLaid_O, timesLaid_O, timesRefused_O, top_P, bottom_P, reach_R, steps_R, told_R, length_R, netOf_L, left_L, right_L, trackOf_L, touched_L, below_L, byLeft_L, size_L, tracks_L, netOf_D, left_D, right_D, trackOf_D, touched_D, below_D, byLeft_D, size_D, tracks_D, out_T, thrown_M, pins_M, many_M, nets_M, lefts_M, rights_M, touches_M, below_M, reach_M, tracksOf_M, steps_M, laid_M, laidMany_M, tracks_M, laidNet_M, laidLeft_M, laidRight_M, laidTouch_M, laidTrack_M, ringSize_M, ringOf_M, lays_M, refusals_M⟩ := σ
      exact t_L_law_B C hst hK hX hbl hbA (by omega) (by omega) _ h (fun s8 e => by cases e; exact ih (i + 1) σ' hI' (by omega) (by omega)) (fun e => by cases e)
    · obtain ⟨x4, aL, aD, isLaid_O, timesLaid_O, timesRefused_O, top_P, bottom_P, reach_R, steps_R, told_R, length_R, netOf_L, left_L, right_L, trackOf_L, touched_L, below_L, byLeft_L, size_L, tracks_L, netOf_D, left_D, right_D, trackOf_D, touched_D, below_D, byLeft_D, size_D, tracks_D, out_T, thrown_M, pins_M, many_M, nets_M, lefts_M, rights_M, touches_M, below_M, reach_M, tracksOf_M, steps_M, laid_M, laidMany_M, tracks_M, laidNet_M, laidLeft_M, laidRight_M, laidTouch_M, laidTrack_M, ringSize_M, ringOf_M, lays_M, refusals_M⟩ := σ
      exact t_L_law_B C hst hK hX hbl hbA (by omega) (by omega) _ h (fun s8 e => by cases e) (fun _ => hret _ _ _ (by omega) (by omega))
theorem str_of {own tx : String} {k : Nat} {args : Array Value} {s : State} (h1 : (Cond.stringRef own k tx).before args s = true) (h2 : (Cond.exactly (Term.string own k) "java/lang/String").before args s = true) : ∃ sa, vk_R own k tx sa s := by
  cases he : (Term.string own k).eval args s none [] s with
  | none => simp [Cond.before, Cond.holds, Cond.value, he] at h2
  | some v =>
    cases v with
    | ref a => exact ⟨a, vk_R.of h1 he⟩
    | null =>
      simp only [Cond.before, Cond.holds, Cond.value, he] at h2
      cases hf : s.vm.findClass "java/lang/String" <;> rw [hf] at h2 <;> simp at h2
    | _ => simp [Cond.before, Cond.holds, Cond.value, he] at h2
set_option maxHeartbeats 4000000 in
set_option maxRecDepth 100000 in
theorem whole_start {p : Program} {e : Env} {s : State} {m : MethodId} {below : List Frame} {meth : Method} {c : Code} (l : Launch) (hst : l.stackTraces = false) {b L : Nat} {xs : Nat → Int32} (hL : L ≤ 2048) (C0 : lw_At p s m meth c b L xs) : W p l e room_1 s m #[Value.ref b] below meth c s.heap [] 0 0 (lw_Z below #[Value.ref b] s) (entryFrame m ([Value.ref b] : List Value).toArray 9) := by
  obtain ⟨hx, hb, hr, hml, hown, hts, hX, hbl, hlocks, hgv⟩ := C0
  have hbA : ¬ (fun q : Nat => s.heap.size ≤ q) b := Nat.not_le.mpr hbl
  have htb : ∀ w ∈ TB, w.before #[Value.ref b] s = true := fun w h => hts w (tb_in h)
  obtain ⟨c0, iS0, hK0⟩ := u_known (C := RX0) (T := TX0) (N := 2) (n := 2) htb iuX0 (htb _ m1_25)
  obtain ⟨c1, iS1, hK1⟩ := u_known (C := RX1) (T := TX1) (N := 9) (n := 9) htb iuX1 (htb _ m1_63)
  obtain ⟨c2, iS2, hK2⟩ := u_known (C := RX2) (T := TX2) (N := 4) (n := 4) htb iuX2 (htb _ m1_43)
  obtain ⟨c3, iS3, hK3⟩ := u_known (C := RX3) (T := TX3) (N := 7) (n := 7) htb iuX3 (htb _ m1_17)
  obtain ⟨c4, iS4, hK4⟩ := u_known (C := RX4) (T := TX4) (N := 23) (n := 23) htb iuX4 (htb _ m3_48)
  obtain ⟨D, hKc⟩ : ∃ D : va_G, ∀ (k : Nat) (q : vw_C), vwCl[k]? = some q → u_Kn s q.1 q.2.1 q.2.2 (D.1 k) (D.2 k) := by
    refine ⟨(fun k => if k = 0 then c0 else if k = 1 then c1 else if k = 2 then c2 else if k = 3 then c3 else c4, fun k => if k = 0 then iS0 else if k = 1 then iS1 else if k = 2 then iS2 else if k = 3 then iS3 else iS4), ?_⟩
    intro k q hq
    match k, hq with
    | 0, hq => cases hq; exact hK0
    | 1, hq => cases hq; exact hK1
    | 2, hq => cases hq; exact hK2
    | 3, hq => cases hq; exact hK3
    | 4, hq => cases hq; exact hK4
    | k + 5, hq => simp [vwCl] at hq
  obtain ⟨cI, kI, compI, hfI, hkI, hkdI⟩ := Cond.arrayClass_spec (htb _ m1_41)
  obtain ⟨cJ, kJ, compJ, hfJ, hkJ, hkdJ⟩ := Cond.arrayClass_spec (htb _ m1_61)
  have hKK : KK D cI cJ s := by
    refine ⟨⟨hKc, fun k q h => ?_⟩, fun w hw => va_Nw.of (nwl_ot w hw) (hts w (nwl_tbl w hw))⟩
    match k, h with
    | 0, h => cases h; exact ⟨fun n z => ⟨fun k h => (by cases h), kI, hkI, compI, hkdI⟩, hfI⟩
    | 1, h => cases h; exact ⟨fun n z => ⟨fun k h => (by cases h), kJ, hkJ, compJ, hkdJ⟩, hfJ⟩
    | k + 2, h => simp at h
  have hpre := flat_of_before _ hgv
  have hA9 : ∀ a : Nat, a < s.heap.size → ¬ (fun q : Nat => s.heap.size ≤ q) a := fun a h => Nat.not_le.mpr h
  have hKX : KX (fun q : Nat => s.heap.size ≤ q) s := by
    refine ⟨fun w hw => va_Nw.of (csl_ot w hw) (hts w (csl_tbl w hw)), ?_, ?_, ?_⟩
    · have key : ∀ q ∈ SRL, Cond.stringRef RX3 q.1 q.2 ∈ lw_tbl ∧ Cond.exactly (Term.string RX3 q.1) "java/lang/String" ∈ flatC (Jvm.Cond.and given_1 narrow_1) := by decide +kernel
      intro q hq
      exact str_of (hts _ (key q hq).1) (hpre _ (key q hq).2)
    · exact vx_Zqof (hts _ (by decide +kernel)) (htb _ m1_6) (hpre _ (by decide +kernel)) hA9
    · exact vx_Zqof (hts _ (by decide +kernel)) (htb _ m1_6) (hpre _ (by decide +kernel)) hA9
  have hK : KH (fun q : Nat => s.heap.size ≤ q) s := ⟨hKX, va_Nc.of (hpre _ (by decide +kernel)), va_Nc.of (hpre _ (by decide +kernel))⟩
  have C : Cx p s m #[Value.ref b] c cL_law 9 RL D (fun q : Nat => s.heap.size ≤ q) cI cJ := ⟨hx, hb, hml, hown, htb, hKK, fun q h => h⟩
  have hret : ∀ (n1 m1 : Nat) (ws : va_W), n1 ≤ 1079 → m1 ≤ 9617 → V p l e room_1 s m #[Value.ref b] below meth c 9 D (fun q : Nat => s.heap.size ≤ q) n1 m1 (lw_Z below #[Value.ref b] s) 847 [] [] ws := by
    intro n1 m1 ws h1 h2 H locs ls hl hP hD hS
    refine lv_iconst (v := 1) hx hb dL_law_847 (by decide) ?_
    refine va_forget (fun q hq => hS.2.2 q hq) ?_
    refine W.widen (k := 1079) (n := 9617) h1 h2 ?_
    exact lw_ret hx hb hr hlocks dL_law_848
  have hl := lv_entry ([.ref b]) (n := 9) (Nat.le_of_ble_eq_true rfl)
  rw [lg_entry_eq]
  have hP : va_P D vwCl [] s.heap := fun k q h => by simp at h
  have hD : va_D (fun q : Nat => s.heap.size ≤ q) [] := ⟨fun i j p q h => by simp at h, fun k q h => by simp at h⟩
  refine (?_ : V p l e room_1 s m #[Value.ref b] below meth c 9 D (fun q : Nat => s.heap.size ≤ q) 0 0 (lw_Z below #[Value.ref b] s) 0 [(0, .ref b)] [] []) s.heap [] _ hl hP hD va_S.rf
  refine v_new C 3 [.null, .null, .null, .null, .int 0, .int 0, .int 0] iuX3 tyX3_ok m1_16 m1_17 m1_1 rfl (by decide) (by decide) (by decide) dL_law_0 (fun q0 => ?_)
  refine v_ws (ws' := [(q0, .inr (3, [.null, .null, .null, .null, .int 0, .int 0, .int 0]))]) rfl ?_
  refine v_dup C dL_law_3 rfl ?_
  refine v_ctor (wr := []) C [0] [] (c_X3_init l D cI cJ q0) cw_X3_init m1_18 dL_law_4 ⟨by decide, by decide⟩ (Nat.le_of_ble_eq_true rfl) ⟨by decide, by decide⟩ rfl rfl rfl rfl (by decide) (fun w1 hw1 => ?_)
  obtain ⟨aO, aP, aR, aL, aD, hq0, rfl⟩ := hw1
  subst hq0
  refine v_ws (ws' := [(aO 0, .inr (3, [.ref (aP 0), .ref (aR 0), .ref (aL 0), .ref (aD 0), .int 0, .int 0, .int 0])), (aP 0, .inr (0, [.ref (aP 1), .ref (aP 2)])), (aP 1, .inl (cI, 20, .inl (fun _ => 0))), (aP 2, .inl (cI, 20, .inl (fun _ => 0))), (aR 0, .inr (2, [.ref (aR 1), .ref (aR 2), .ref (aR 3), .int 0])), (aR 1, .inl (cJ, 38, .inr (.inl (fun _ => 0)))), (aR 2, .inl (cI, 38, .inl (fun _ => 0))), (aR 3, .inl (cI, 38, .inl (fun _ => 0))), (aL 0, .inr (1, [.ref (aL 1), .ref (aL 2), .ref (aL 3), .ref (aL 4), .ref (aL 5), .ref (aL 6), .ref (aL 7), .int 0, .int 0])), (aL 1, .inl (cI, 38, .inl (fun _ => 0))), (aL 2, .inl (cI, 38, .inl (fun _ => 0))), (aL 3, .inl (cI, 38, .inl (fun _ => 0))), (aL 4, .inl (cI, 38, .inl (fun _ => 0))), (aL 5, .inl (cI, 38, .inl (fun _ => 0))), (aL 6, .inl (cJ, 38, .inr (.inl (fun _ => 0)))), (aL 7, .inl (cI, 38, .inl (fun _ => 0))), (aD 0, .inr (1, [.ref (aD 1), .ref (aD 2), .ref (aD 3), .ref (aD 4), .ref (aD 5), .ref (aD 6), .ref (aD 7), .int 0, .int 0])), (aD 1, .inl (cI, 38, .inl (fun _ => 0))), (aD 2, .inl (cI, 38, .inl (fun _ => 0))), (aD 3, .inl (cI, 38, .inl (fun _ => 0))), (aD 4, .inl (cI, 38, .inl (fun _ => 0))), (aD 5, .inl (cI, 38, .inl (fun _ => 0))), (aD 6, .inl (cJ, 38, .inr (.inl (fun _ => 0)))), (aD 7, .inl (cI, 38, .inl (fun _ => 0)))]) rfl ?_
  refine v_astore_n C [(1, .ref (aO 0)), (0, .ref b)] dL_law_7 rfl (by decide) rfl ?_
  refine v_new C 4 [.int 0, .null, .int 0, .null, .null, .null, .null, .null, .null, .null, .null, .int 0, .int 0, .int 0, .null, .null, .null, .null, .null, .int 0, .null, .int 0, .int 0] iuX4 tyX4_ok m3_47 m3_48 m1_5 rfl (by decide) (by decide) (by decide) dL_law_8 (fun q1 => ?_)
  refine v_ws (ws' := [(aO 0, .inr (3, [.ref (aP 0), .ref (aR 0), .ref (aL 0), .ref (aD 0), .int 0, .int 0, .int 0])), (aP 0, .inr (0, [.ref (aP 1), .ref (aP 2)])), (aP 1, .inl (cI, 20, .inl (fun _ => 0))), (aP 2, .inl (cI, 20, .inl (fun _ => 0))), (aR 0, .inr (2, [.ref (aR 1), .ref (aR 2), .ref (aR 3), .int 0])), (aR 1, .inl (cJ, 38, .inr (.inl (fun _ => 0)))), (aR 2, .inl (cI, 38, .inl (fun _ => 0))), (aR 3, .inl (cI, 38, .inl (fun _ => 0))), (aL 0, .inr (1, [.ref (aL 1), .ref (aL 2), .ref (aL 3), .ref (aL 4), .ref (aL 5), .ref (aL 6), .ref (aL 7), .int 0, .int 0])), (aL 1, .inl (cI, 38, .inl (fun _ => 0))), (aL 2, .inl (cI, 38, .inl (fun _ => 0))), (aL 3, .inl (cI, 38, .inl (fun _ => 0))), (aL 4, .inl (cI, 38, .inl (fun _ => 0))), (aL 5, .inl (cI, 38, .inl (fun _ => 0))), (aL 6, .inl (cJ, 38, .inr (.inl (fun _ => 0)))), (aL 7, .inl (cI, 38, .inl (fun _ => 0))), (aD 0, .inr (1, [.ref (aD 1), .ref (aD 2), .ref (aD 3), .ref (aD 4), .ref (aD 5), .ref (aD 6), .ref (aD 7), .int 0, .int 0])), (aD 1, .inl (cI, 38, .inl (fun _ => 0))), (aD 2, .inl (cI, 38, .inl (fun _ => 0))), (aD 3, .inl (cI, 38, .inl (fun _ => 0))), (aD 4, .inl (cI, 38, .inl (fun _ => 0))), (aD 5, .inl (cI, 38, .inl (fun _ => 0))), (aD 6, .inl (cJ, 38, .inr (.inl (fun _ => 0)))), (aD 7, .inl (cI, 38, .inl (fun _ => 0))), (q1, .inr (4, [.int 0, .null, .int 0, .null, .null, .null, .null, .null, .null, .null, .null, .int 0, .int 0, .int 0, .null, .null, .null, .null, .null, .int 0, .null, .int 0, .int 0]))]) rfl ?_
  refine v_dup C dL_law_11 rfl ?_
  refine v_ctor (wr := [(aO 0, .inr (3, [.ref (aP 0), .ref (aR 0), .ref (aL 0), .ref (aD 0), .int 0, .int 0, .int 0])), (aP 0, .inr (0, [.ref (aP 1), .ref (aP 2)])), (aP 1, .inl (cI, 20, .inl (fun _ => 0))), (aP 2, .inl (cI, 20, .inl (fun _ => 0))), (aR 0, .inr (2, [.ref (aR 1), .ref (aR 2), .ref (aR 3), .int 0])), (aR 1, .inl (cJ, 38, .inr (.inl (fun _ => 0)))), (aR 2, .inl (cI, 38, .inl (fun _ => 0))), (aR 3, .inl (cI, 38, .inl (fun _ => 0))), (aL 0, .inr (1, [.ref (aL 1), .ref (aL 2), .ref (aL 3), .ref (aL 4), .ref (aL 5), .ref (aL 6), .ref (aL 7), .int 0, .int 0])), (aL 1, .inl (cI, 38, .inl (fun _ => 0))), (aL 2, .inl (cI, 38, .inl (fun _ => 0))), (aL 3, .inl (cI, 38, .inl (fun _ => 0))), (aL 4, .inl (cI, 38, .inl (fun _ => 0))), (aL 5, .inl (cI, 38, .inl (fun _ => 0))), (aL 6, .inl (cJ, 38, .inr (.inl (fun _ => 0)))), (aL 7, .inl (cI, 38, .inl (fun _ => 0))), (aD 0, .inr (1, [.ref (aD 1), .ref (aD 2), .ref (aD 3), .ref (aD 4), .ref (aD 5), .ref (aD 6), .ref (aD 7), .int 0, .int 0])), (aD 1, .inl (cI, 38, .inl (fun _ => 0))), (aD 2, .inl (cI, 38, .inl (fun _ => 0))), (aD 3, .inl (cI, 38, .inl (fun _ => 0))), (aD 4, .inl (cI, 38, .inl (fun _ => 0))), (aD 5, .inl (cI, 38, .inl (fun _ => 0))), (aD 6, .inl (cJ, 38, .inr (.inl (fun _ => 0)))), (aD 7, .inl (cI, 38, .inl (fun _ => 0)))]) C [24] [0, 1, 2, 3, 4, 5, 6, 7, 8, 9, 10, 11, 12, 13, 14, 15, 16, 17, 18, 19, 20, 21, 22, 23] (c_X4_init l D cI cJ q1) cw_X4_init m3_49 dL_law_12 ⟨by decide, by decide⟩ (Nat.le_of_ble_eq_true rfl) ⟨by decide, by decide⟩ rfl rfl rfl rfl (by decide) (fun w1 hw1 => ?_)
  obtain ⟨aM, hq1, rfl⟩ := hw1
  subst hq1
  refine v_ws (ws' := [(aO 0, .inr (3, [.ref (aP 0), .ref (aR 0), .ref (aL 0), .ref (aD 0), .int 0, .int 0, .int 0])), (aP 0, .inr (0, [.ref (aP 1), .ref (aP 2)])), (aP 1, .inl (cI, 20, .inl (fun _ => 0))), (aP 2, .inl (cI, 20, .inl (fun _ => 0))), (aR 0, .inr (2, [.ref (aR 1), .ref (aR 2), .ref (aR 3), .int 0])), (aR 1, .inl (cJ, 38, .inr (.inl (fun _ => 0)))), (aR 2, .inl (cI, 38, .inl (fun _ => 0))), (aR 3, .inl (cI, 38, .inl (fun _ => 0))), (aL 0, .inr (1, [.ref (aL 1), .ref (aL 2), .ref (aL 3), .ref (aL 4), .ref (aL 5), .ref (aL 6), .ref (aL 7), .int 0, .int 0])), (aL 1, .inl (cI, 38, .inl (fun _ => 0))), (aL 2, .inl (cI, 38, .inl (fun _ => 0))), (aL 3, .inl (cI, 38, .inl (fun _ => 0))), (aL 4, .inl (cI, 38, .inl (fun _ => 0))), (aL 5, .inl (cI, 38, .inl (fun _ => 0))), (aL 6, .inl (cJ, 38, .inr (.inl (fun _ => 0)))), (aL 7, .inl (cI, 38, .inl (fun _ => 0))), (aD 0, .inr (1, [.ref (aD 1), .ref (aD 2), .ref (aD 3), .ref (aD 4), .ref (aD 5), .ref (aD 6), .ref (aD 7), .int 0, .int 0])), (aD 1, .inl (cI, 38, .inl (fun _ => 0))), (aD 2, .inl (cI, 38, .inl (fun _ => 0))), (aD 3, .inl (cI, 38, .inl (fun _ => 0))), (aD 4, .inl (cI, 38, .inl (fun _ => 0))), (aD 5, .inl (cI, 38, .inl (fun _ => 0))), (aD 6, .inl (cJ, 38, .inr (.inl (fun _ => 0)))), (aD 7, .inl (cI, 38, .inl (fun _ => 0))), (aM 0, .inr (4, [.int 0, .ref (aM 1), .int 0, .ref (aM 2), .ref (aM 3), .ref (aM 4), .ref (aM 5), .ref (aM 6), .ref (aM 7), .ref (aM 8), .ref (aM 9), .int 0, .int 0, .int 0, .ref (aM 10), .ref (aM 11), .ref (aM 12), .ref (aM 13), .ref (aM 14), .int 0, .ref (aM 15), .int 0, .int 0])), (aM 1, .inl (cI, 40, .inl (fun _ => 0))), (aM 2, .inl (cI, 40, .inl (fun _ => 0))), (aM 3, .inl (cI, 40, .inl (fun _ => 0))), (aM 4, .inl (cI, 40, .inl (fun _ => 0))), (aM 5, .inl (cI, 40, .inl (fun _ => 0))), (aM 6, .inl (cJ, 40, .inr (.inl (fun _ => 0)))), (aM 7, .inl (cJ, 40, .inr (.inl (fun _ => 0)))), (aM 8, .inl (cI, 40, .inl (fun _ => 0))), (aM 9, .inl (cI, 40, .inl (fun _ => 0))), (aM 10, .inl (cI, 40, .inl (fun _ => 0))), (aM 11, .inl (cI, 40, .inl (fun _ => 0))), (aM 12, .inl (cI, 40, .inl (fun _ => 0))), (aM 13, .inl (cI, 40, .inl (fun _ => 0))), (aM 14, .inl (cI, 40, .inl (fun _ => 0))), (aM 15, .inl (cI, 40, .inl (fun _ => 0)))]) rfl ?_
  refine v_astore_n C [(2, .ref (aM 0)), (1, .ref (aO 0)), (0, .ref b)] dL_law_15 rfl (by decide) rfl ?_
  refine v_iconst (v := 1) C dL_law_16 (by decide) ?_
  refine v_newaJ C 1 dL_law_17 (by decide) (by decide) (by decide) (by decide) (by decide) (fun q2 => ?_)
  refine v_wperm (ws' := (wAll cI cJ aO aP aR aL aD (aL 0) (aD 0) 0 0 0 (fun _ => 0) (fun _ => 0) (fun _ => 0) (fun _ => 0) (fun _ => 0) 0 (fun _ => 0) (fun _ => 0) (fun _ => 0) (fun _ => 0) (fun _ => 0) (fun _ => 0) (fun _ => 0) 0 0 (fun _ => 0) (fun _ => 0) (fun _ => 0) (fun _ => 0) (fun _ => 0) (fun _ => 0) (fun _ => 0) 0 0 (fun _ => q2) (fun _ => 0) aM 0 (fun _ => 0) 0 (fun _ => 0) (fun _ => 0) (fun _ => 0) (fun _ => 0) (fun _ => 0) (fun _ => 0) (fun _ => 0) (fun _ => 0) 0 0 0 (fun _ => 0) (fun _ => 0) (fun _ => 0) (fun _ => 0) (fun _ => 0) 0 (fun _ => 0) 0 0)) [0, 1, 2, 3, 4, 5, 6, 7, 8, 9, 10, 11, 12, 13, 14, 15, 16, 17, 18, 19, 20, 21, 22, 23, 40, 24, 25, 26, 27, 28, 29, 30, 31, 32, 33, 34, 35, 36, 37, 38, 39] rfl rfl ?_
  refine v_astore_n C [(3, .ref q2), (2, .ref (aM 0)), (1, .ref (aO 0)), (0, .ref b)] dL_law_19 rfl (by decide) rfl ?_
  refine v_iconst (v := 0) C dL_law_20 (by decide) ?_
  refine v_istore C [(4, .int 0), (3, .ref q2), (2, .ref (aM 0)), (1, .ref (aO 0)), (0, .ref b)] dL_law_21 (by decide) rfl ?_
  refine v_perm [4, 3, 2, 1, 0] rfl ?_
  exact law_loop (aT := fun _ => q2) C hst hK hX hbl hbA hL (LInv xs L) (fun i σ h => law_step hL h) hret (L + 1) 0 (LInit aL aD) (law_init xs L aL aD) (Nat.zero_le _) (by omega)
set_option maxHeartbeats 4000000 in
theorem lw_walk (l : Launch) (hst : l.stackTraces = false) (b : Addr) (xs : List Int32) : MetFree l x (headSpec (Jvm.Cond.code x code maxLocals ret :: tables_1) room_1) (lw_P b xs) (fun _ _ _ _ _ => True) lw_Q := by
  refine MetFree.of_bodyS (code := code) (maxLocals := maxLocals) (ret := ret) (by decide) ?_ ?_
  · intro args s m h hn
    obtain ⟨meth, c, h1, h2, h3, h4, h5, h6, -, -⟩ := Cond.code_spec hn (atoms_spec (ws := Jvm.Cond.code x code maxLocals ret :: tables_1) h _ List.mem_cons_self)
    exact ⟨meth, c, h1, h2, h3, h4, h5, h6⟩
  · intro p e s m args below meth c s₁ B hml0 hP _
    obtain ⟨rfl, hx, hbd, hgv⟩ := hP
    obtain ⟨scr, harrAt, hlist, hof, hsmall⟩ := hx
    obtain ⟨hcb, hkn, -, -⟩ := State.arrayAt?_spec harrAt
    have hown : s.vm.findClass R_law = some m.cls := findClass_of_methodNamed B.named
    have hts0 : ∀ c ∈ (Jvm.Cond.code x code maxLocals ret :: tables_1), c.before #[Value.ref b] s = true := atoms_spec (ws := Jvm.Cond.code x code maxLocals ret :: tables_1) B.pre
    have hts : ∀ w ∈ lw_tbl, w.before #[Value.ref b] s = true := k2_hts_sels lw_privs (fun w hw => hts0 w (List.mem_cons_of_mem _ hw)) lw_privs_ok
    have hml : c.maxLocals = 9 := B.maxLocals_eq (hts0 _ List.mem_cons_self)
    have X₀ : Stand p l e room_1 s m #[Value.ref b] below meth c s₁ [] 0 0 := Stand.of_body B
    have hh0 : s₁.heap = s.heap := by rw [B.state]; rfl
    have hsz : scr.slots.size = xs.length := by rw [← Array.length_toList, hlist, List.length_map]
    have hval : ∀ j : Nat, j < xs.length → scr.slots[j]? = some (.int (xs.getD j 0)) := fun j hj => by
      rw [← Array.getElem?_toList, hlist]
      simp [hj]
    have hbl : b < s.heap.size := (Array.getElem?_eq_some_iff.mp hcb).1
    have hX : va_X b xs.length (fun j => xs.getD j 0) s s.heap := ⟨scr, hcb, hof, hkn, hsz, hval⟩
    have K : W p l e room_1 s m #[Value.ref b] below meth c s₁.heap [] 0 0 (lw_Z below #[Value.ref b] s) (entryFrame m ([Value.ref b] : List Value).toArray 9) := by
      rw [hh0]
      exact whole_start l hst hbd ⟨B.exec, B.bytes, B.returns, hml, hown, hts, hX, hbl, B.notSynchronized, hgv⟩
    obtain ⟨t, a1, o, b1, b2, b3⟩ := K s₁ rfl X₀
    exact ⟨t, o, a1, b1, b2, b3⟩
theorem lw_pre_spec {args : Array Value} {s : State} (h : (Jvm.Cond.and given_1 narrow_1).before args s = true) (hr : rest_1_c.before args s = true) : ∃ (b : Addr) (xs : List Int32), lw_P b xs args s := by
  have hs := flat_of_before _ h
  have hq := flat_of_before _ hr
  have hc : (Cond.count 1).before args s = true := hs _ (by decide +kernel)
  have harr : (Cond.arrayOf (.arg 0) .int).before args s = true := hs _ (by decide +kernel)
  have hle : (Cond.le (.length (.arg 0)) (.int 2048)).before args s = true := hs _ (by decide +kernel)
  have hlen : (Cond.isInt (.length (.arg 0))).before args s = true := hq _ (by decide +kernel)
  have hall : (Cond.all (.arg 0) (.isInt (.elem (.arg 0) (.index 0)))).before args s = true := hq _ (by decide +kernel)
  obtain ⟨b, xs, hb, hx⟩ := State.ints_of_pre rfl harr hlen hall
  have hsm : xs.length < 2 ^ 31 := hx.choose_spec.2.2.2
  have hev : (Term.length (.arg 0)).eval args s none [] s = some (.int xs.length.toInt32) := hx.length_eval hb
  have hv := Cond.le_ints hev (show (Term.int 2048).eval args s none [] s = some (.int 2048) from rfl)
  have hd : xs.length.toInt32 ≤ 2048 := by
    simpa [Cond.before, Cond.holds, hv] using hle
  have hN : xs.length ≤ 2048 := (Int32.ofNat_le_ofNat hsm (by decide)).mp (show Int32.ofNat xs.length ≤ Int32.ofNat 2048 from hd)
  exact ⟨b, xs, Cond.one_arg hc (show args[0]? = some (.ref b) from hb), hx, hN, h⟩
theorem lw_comes (l : Launch) (hst : l.stackTraces = false) : Comes l x (Jvm.Cond.code x code maxLocals ret :: tables_1) room_1 (fun tb e args s => Calls_1 tb e args s ∧ rest_1 tb e args s ∧ Pre_1 tb e args s)
    (fun _ _ args s o t => lw_Q args s o t) := by
  intro p e ha hc hk s m args below hf hfit hheap happ hpre
  obtain ⟨b, xs, hP⟩ := lw_pre_spec hpre.2.2 hpre.2.1
  obtain ⟨k, o, h1, h2, h3, hQ⟩ := lw_walk l hst b xs p e ha hc hk s m args below hf ((Spec.applies_iff_loose hf).mp happ).1 hP trivial
  exact ⟨k, o, h1, h2, h3, hQ⟩
theorem lw_frame {s t : State} {o : Outcome} {args : Array Value} (h : Framed s o t [] 1079 9617) :
    Framed s o t (fieldLocs frame_1_writes args s ++ arrayLocs frame_1_arrays args s ++ staticLocs frame_1_statics s) 1079 9617 := h
theorem lw_limb (L : Cond) (hL : ∀ (args : Array Value) (s t : State), L.after args s (.returned (some (.int 1))) t = true) :
    ArmFor flags0 classFile x code maxLocals ret World_1 tables_1 room_1 Calls_1 rest_1 Pre_1
      (fun tb e a s o t => postC L tb e a s o t ∧ Framed s o t (fieldLocs frame_1_writes a s ++ arrayLocs frame_1_arrays a s ++ staticLocs frame_1_statics s) 1079 9617) := by
  intro l hfl _ _ p e ha hc hk s m args below hf hfit hheap happ hpre
  obtain ⟨k, o, h1, h2, h3, rfl, hF⟩ := lw_comes l (by unfold Launch.stackTraces; rw [hfl]; decide +kernel) p e ha hc hk s m args below hf hfit hheap happ hpre
  exact ⟨k, _, h1, h2, h3, hL args s _, lw_frame hF⟩
theorem i_vc : Claimed_1_1 ∧ Claimed_1_2 := ⟨lw_limb limb_1_1 (fun args s t => by simp [limb_1_1, Cond.after, Cond.holds, Cond.value]), lw_limb limb_1_2 (fun args s t => Cond.after_iff.mpr (by
  first | (rw [show limb_1_2 = Cond.eq .result (.int 1) from rfl, Cond.eq_ints (x := 1) (y := 1) rfl rfl]; simp; done) | (simp [limb_1_2, Cond.value, Term.eval]; done)))⟩

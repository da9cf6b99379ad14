abbrev wOPRLDT (cI cJ : ClassId) (aO : Nat → Nat) (aP : Nat → Nat) (aR : Nat → Nat) (aL : Nat → Nat) (aD : Nat → Nat) (fl fd : Nat) (isLaid_O : Int32) (timesLaid_O : Int32) (timesRefused_O : Int32) (top_P : (Nat → Int32)) (bottom_P : (Nat → Int32)) (reach_R : (Nat → Int64)) (steps_R : (Nat → Int32)) (told_R : (Nat → Int32)) (length_R : Int32) (netOf_L : (Nat → Int32)) (left_L : (Nat → Int32)) (right_L : (Nat → Int32)) (trackOf_L : (Nat → Int32)) (touched_L : (Nat → Int32)) (below_L : (Nat → Int64)) (byLeft_L : (Nat → Int32)) (size_L : Int32) (tracks_L : Int32) (netOf_D : (Nat → Int32)) (left_D : (Nat → Int32)) (right_D : (Nat → Int32)) (trackOf_D : (Nat → Int32)) (touched_D : (Nat → Int32)) (below_D : (Nat → Int64)) (byLeft_D : (Nat → Int32)) (size_D : Int32) (tracks_D : Int32) (aT : Nat → Nat) (out_T : Nat → Int64) : va_W := [(aO 0, .inr (3, [.ref (aP 0), .ref (aR 0), .ref fl, .ref fd, .int isLaid_O, .int timesLaid_O, .int timesRefused_O])), (aP 0, .inr (0, [.ref (aP 1), .ref (aP 2)])), (aP 1, .inl (cI, 20, .inl top_P)), (aP 2, .inl (cI, 20, .inl bottom_P)), (aR 0, .inr (2, [.ref (aR 1), .ref (aR 2), .ref (aR 3), .int length_R])), (aR 1, .inl (cJ, 38, .inr (.inl reach_R))), (aR 2, .inl (cI, 38, .inl steps_R)), (aR 3, .inl (cI, 38, .inl told_R)), (aL 0, .inr (1, [.ref (aL 1), .ref (aL 2), .ref (aL 3), .ref (aL 4), .ref (aL 5), .ref (aL 6), .ref (aL 7), .int size_L, .int tracks_L])), (aL 1, .inl (cI, 38, .inl netOf_L)), (aL 2, .inl (cI, 38, .inl left_L)), (aL 3, .inl (cI, 38, .inl right_L)), (aL 4, .inl (cI, 38, .inl trackOf_L)), (aL 5, .inl (cI, 38, .inl touched_L)), (aL 6, .inl (cJ, 38, .inr (.inl below_L))), (aL 7, .inl (cI, 38, .inl byLeft_L)), (aD 0, .inr (1, [.ref (aD 1), .ref (aD 2), .ref (aD 3), .ref (aD 4), .ref (aD 5), .ref (aD 6), .ref (aD 7), .int size_D, .int tracks_D])), (aD 1, .inl (cI, 38, .inl netOf_D)), (aD 2, .inl (cI, 38, .inl left_D)), (aD 3, .inl (cI, 38, .inl right_D)), (aD 4, .inl (cI, 38, .inl trackOf_D)), (aD 5, .inl (cI, 38, .inl touched_D)), (aD 6, .inl (cJ, 38, .inr (.inl below_D))), (aD 7, .inl (cI, 38, .inl byLeft_D)), (aT 0, .inl (cJ, 1, .inr (.inl out_T)))]
def KH (A : Nat → Prop) (U : State) : Prop := KX A U ∧ va_Nc (XN 2) (XN 1) U ∧ va_Nc (XN 3) (XN 2) U
theorem KH.same {A : Nat → Prop} {u U : State} (hv : u.vm = U.vm) (hh : U.heap = u.heap) (h : KH A u) : KH A U := ⟨h.1.same hv hh, h.2.1.moved (by rw [hv]; exact Vm.Alike.refl U.vm), h.2.2.moved (by rw [hv]; exact Vm.Alike.refl U.vm)⟩
theorem KH.go {A B : Nat → Prop} {s U : State} {H : Heap} {locs : List Loc} (hW : s.WarmedH U.vm) (hS : va_S A s.heap H locs) (hU : U.heap = H) (hB : ∀ q, B q → A q) (h : KH A s) : KH B U := ⟨KX.go hW hS hU hB h.1, h.2.1.moved hW.alike, h.2.2.moved hW.alike⟩
def PreH (D : va_G) (cI cJ : ClassId) (av : List Value) (sz : Nat) (ws : va_W) : Array Value → State → Prop := va_Pc av (fun U => U.heap.size = sz ∧ va_P D vwCl ws U.heap ∧ KK D cI cJ U ∧ va_D (fun _ => True) ws ∧ KH (va_A ws sz) U)
theorem PreH.blind {D : va_G} {cI cJ : ClassId} {av : List Value} {sz : Nat} {ws : va_W} : FrameBlind (PreH D cI cJ av sz ws) := fun a U g mk q => ⟨q.1, q.2.1, q.2.2.1, KK.same (u := U) (U := U.calling g mk a) rfl q.2.2.2.1, q.2.2.2.2.1, KH.same (u := U) (U := U.calling g mk a) rfl rfl q.2.2.2.2.2⟩
def CtH (l : Launch) (D : va_G) (cI cJ : ClassId) (y : MethodName) (bytes : ByteArray) (maxL : Nat) (hh : List (Nat × Nat × Nat × Nat)) (f n : Nat) (av : List Value) (wc w1 : va_W) (r : Int32) : Prop := ∀ sz : Nat, vx_Met l y (Cond.codeWith y bytes maxL (some .int) hh :: TB) (rmX f n) (PreH D cI cJ av sz wc) (va_Qi (fun (r' : Int32) (_ : Unit) => r' = r) (Wd D (va_A wc sz) w1) (va_A wc sz)) (vx_X (fun _ : Unit => False) (fun _ _ _ => True) (va_A wc sz)) 1 6 (va_A wc sz)
def Ctch (c : Code) (own : String) (args : Array Value) (s : State) (pc k hp : Nat) : Prop := ∃ (pre : List ExceptionTableEntry) (x : ExceptionTableEntry) (suf : List ExceptionTableEntry), c.exceptionTable.toList = pre ++ x :: suf ∧ (∀ z ∈ pre, covers z pc = false ∨ (z.catchType ≠ 0 ∧ ∃ nm : String, (Cond.classLink own z.catchType nm).before args s = true ∧ va_Nc (XN k) nm s)) ∧ covers x pc = true ∧ x.catchType ≠ 0 ∧ (Cond.classLink own x.catchType (XN k)).before args s = true ∧ (Cond.castable (XN k) (XN k)).before args s = true ∧ x.handlerPc = hp
theorem v_callX {p : Program} {l : Launch} {e : Env} {R : Room} {s : State} {m : MethodId} {args : Array Value} {below : List Frame} {meth : Method} {c : Code} {cc : ByteArray} {nL : Nat} {own : String} {D : va_G} {A : Nat → Prop} {cI cJ : ClassId} {cells slots : Nat} {Q : State → Prop} {pc : Nat} {lv : List (Nat × Value)} {st : List Value} {ws : va_W} {y : MethodName} {bytes : ByteArray} {maxL f n a idx np : Nat} {ret : Option FieldType} {As : List Value} {wc wr : va_W} {C2 : String} {T2 : u_T} {N2 ci : Nat} {fs : List Value} {res : (Int32 × va_W) ⊕ (Nat × va_W)} (C : Cx p s m args c cc nL own D A cI cJ) (hK : KX A s) (isC isR : List Nat) (hM : CtX l D cI cJ y bytes maxL ret f n (.ref a :: As) wc res) (cw : CWv y bytes maxL ret C2 np) (q0 : Nat) (hrc : wc[q0]? = some (a, .inr (ci, fs))) (hcl : vwCl[ci]? = some (C2, T2, N2)) (hlk : Cond.methodLink own idx y ∈ TB) (hd : decode cc pc = .ok (.invokevirtual idx, 3)) (hnp : As.length = np) (hR : f + 1 ≤ R.frames ∧ 8 + (maxL + 11) + n ≤ R.locals) (hst : (st.map fun v => v.category).sum ≤ 8) (hcs : cells + 1 ≤ R.cells ∧ slots + 6 ≤ R.slots) (hC : isC.map (fun i => ws[i]?) = wc.map some) (hnC : va_nd isC = true) (hRr : isR.map (fun i => ws[i]?) = wr.map some) (hnR : va_nd isR = true) (hdis : ∀ i ∈ isR, i ∉ isC)
    (k1 : ∀ (r : Int32) (w1 : va_W), res = .inl (r, w1) → V p l e R s m args below meth c nL D A (cells + 1) (slots + 6) Q (pc + 3) lv (.int r :: st) (wr ++ w1))
    (k2 : ∀ (k : Nat) (w2 : va_W), res = .inr (k, w2) → ∃ hp, Ctch c own args s pc k hp ∧ ∀ q : Nat, V p l e R s m args below meth c nL D A (cells + 1) (slots + 6) Q hp lv [.ref q] (wr ++ w2)) : V p l e R s m args below meth c nL D A cells slots Q pc lv (As.reverse ++ .ref a :: st) ws := fun H locs ls hl hP hD hS => by
  obtain ⟨i1, i2, i3, i4, i5, i6, i7, i8⟩ := cw
  have hFc := va_free (wc := wc) hD hS C.2.2.2.2.2.2 isC hC
  refine vx_calli (vx_runV (As := As) (rest := st) ⟨C.1, C.2.1, C.2.2.1, C.2.2.2.1, C.2.2.2.2.1⟩ (hM H.size) (C := C2) ⟨callB_of np C.2.2.2.2.1 (tb_cons i4) rfl rfl rfl (by rw [i5]; exact C.2.2.2.2.1 _ i3) (C.2.2.2.2.1 _ hlk) ⟨i6, i7, i8⟩ hR, C.2.2.2.2.1 _ i1, C.2.2.2.2.1 _ i2⟩ ⟨PreX.blind, va_recv C.2.2.2.2.2.1.1 (P_map hP isC hC) hcl hrc, fun U hU hW => ⟨rfl, by rw [hU], by rw [hU]; exact P_map hP isC hC, C.2.2.2.2.2.1.warm hW, (hD.sub isC hnC hC).weaken (fun _ _ _ _ => trivial), KX.go hW hS hU hFc hK⟩⟩ rfl hnp hl.1 rfl (lv_room hst) hd hcs) hS (fun q _ h => hFc q h) hFc (fun q _ h => hFc q h) (fun E ce q9 u t H1 locs1 ht hvm hpx hbx hz1 hk1 hS1 hce hcv hcls => ?_) (fun r u t H1 locs1 ht hvm hw hB hz1 hk1 hS1 => ?_)
  · obtain ⟨hE, hP1, hD1⟩ := hbx
    subst hE
    rw [ht] at hP1
    obtain ⟨hPj, hDj⟩ := va_join (wr := wr) (w1 := u.2) hP hD isC isR hC hRr hnR hdis hk1 hFc hP1 hD1
    obtain ⟨hp, ⟨pre, x, suf, t1, t2, t3, t4, t5, t6, t7⟩, kk⟩ := k2 u.1 u.2 hpx
    subst t7
    exact vx_catch C.2.2.2.1 pre x suf t1 t2 t3 t4 t5 t6 hce hcv hcls (kk q9 H1 locs1 ls hl hPj hDj hS1)
  · obtain ⟨hP1, hD1⟩ := hB
    rw [ht] at hP1
    obtain ⟨hPj, hDj⟩ := va_join (wr := wr) (w1 := u) hP hD isC isR hC hRr hnR hdis hk1 hFc hP1 hD1
    exact k1 r u hw H1 locs1 ls hl hPj hDj hS1
theorem mk_h {l : Launch} {D : va_G} {cI cJ : ClassId} {y : MethodName} {bytes : ByteArray} {maxL f n : Nat} {hh : List (Nat × Nat × Nat × Nat)} {av : List Value} {wc w1 : va_W} {r : Int32} (lv0 : List (Nat × Value)) (hy : plainName y.cls = true) (ho : y.cls = RL) (ha : (lg_sl av).length ≤ maxL) (hlv : lv_args 0 av = lv0)
    (body : ∀ (p : Program) (e : Env) (s : State) (m : MethodId) (args : Array Value) (below : List Frame) (meth : Method) (c : Code) (A : Nat → Prop) (Q : State → Prop), Cx p s m args c bytes maxL RL D A cI cJ → KH A s → c.exceptionTable.toList = tableOf hh → (∀ (pc : Nat) (lv : List (Nat × Value)), decode bytes pc = .ok (.ireturn, 1) → V p l e (rmX f n) s m args below meth c maxL D A 1 6 Q pc lv [.int r] w1) → V p l e (rmX f n) s m args below meth c maxL D A 0 0 Q 0 lv0 [] wc) : CtH l D cI cJ y bytes maxL hh f n av wc w1 r := by
  intro sz
  refine vx_ofWH (cc := bytes) (maxL := maxL) (ret := some .int) (hh := hh) hy rfl ?_
  intro p e s m args below meth c s₁ B hml hv
  obtain ⟨rfl, hsz, hP, hK, hD0, hKH⟩ := hv
  subst hsz
  have hts := atoms_spec (ws := Cond.codeWith y bytes maxL (some .int) hh :: TB) B.pre
  have hlocks := B.notSynchronized
  have hD := hD0.self (sz := s.heap.size)
  have hown : s.vm.findClass RL = some m.cls := by rw [← ho]; exact findClass_of_methodNamed B.named
  have htab := vx_table (x := y) B (hts _ List.mem_cons_self)
  have C : Cx p s m av.toArray c bytes maxL RL D (va_A wc s.heap.size) cI cJ := ⟨B.exec, B.bytes, hml, hown, fun w h => hts w (List.mem_cons_of_mem _ h), hK, fun q h => Or.inr h⟩
  have hl := lv_entry av (n := maxL) ha
  rw [lg_entry_eq]
  rw [hlv] at hl
  exact body p e s m _ below meth c _ _ C hKH htab (fun pc lv hd H locs ls hl hP hD hS => vx_ret (W.iret C.1 C.2.1 B.returns (fun t ht hW => ⟨⟨r, (), rfl, rfl, by rw [ht]; exact hP, hD⟩, hS.F ht⟩) hS.2.2 hd)) s.heap [] _ hl hP hD va_S.rf
def f_L_pin (isLaid_O : Int32) (top_P : (Nat → Int32)) (bottom_P : (Nat → Int32)) (size_L : Int32) (tracks_L : Int32) (x1 : Int32) (x2 : Int32) (x3 : Int32) (out_T : (Nat → Int64)) : Option (Int32 × Int32 × (Nat → Int32) × (Nat → Int32) × Int32 × Int32 × (Nat → Int64)) := (f_X3_pin isLaid_O top_P bottom_P size_L tracks_L x1 x2 x3).bind (fun r => match r with | .inl (r_1, isLaid_O_1, top_P_1, bottom_P_1, size_L_1, tracks_L_1) => some (0, isLaid_O_1, top_P_1, bottom_P_1, size_L_1, tracks_L_1, vp_updL out_T (0 : Int32).toNatClampNeg r_1.toInt64) | .inr (k_1, isLaid_O_1, top_P_1, bottom_P_1, size_L_1, tracks_L_1) => if k_1 = 1 then some (1, isLaid_O_1, top_P_1, bottom_P_1, size_L_1, tracks_L_1, out_T) else (if k_1 = 2 then some (2, isLaid_O_1, top_P_1, bottom_P_1, size_L_1, tracks_L_1, out_T) else none))
set_option maxHeartbeats 4000000 in
set_option maxRecDepth 100000 in
theorem c_L_pin (l : Launch) (hst : l.stackTraces = false) (D : va_G) (cI cJ : ClassId) (aO aP aR aL aD : Nat → Nat) (isLaid_O : Int32) (timesLaid_O : Int32) (timesRefused_O : Int32) (top_P : (Nat → Int32)) (bottom_P : (Nat → Int32)) (reach_R : (Nat → Int64)) (steps_R : (Nat → Int32)) (told_R : (Nat → Int32)) (length_R : Int32) (netOf_L : (Nat → Int32)) (left_L : (Nat → Int32)) (right_L : (Nat → Int32)) (trackOf_L : (Nat → Int32)) (touched_L : (Nat → Int32)) (below_L : (Nat → Int64)) (byLeft_L : (Nat → Int32)) (size_L : Int32) (tracks_L : Int32) (netOf_D : (Nat → Int32)) (left_D : (Nat → Int32)) (right_D : (Nat → Int32)) (trackOf_D : (Nat → Int32)) (touched_D : (Nat → Int32)) (below_D : (Nat → Int64)) (byLeft_D : (Nat → Int32)) (size_D : Int32) (tracks_D : Int32) (aT : Nat → Nat) (out_T : Nat → Int64) (x1 : Int32) (x2 : Int32) (x3 : Int32) (r : Int32) (isLaid_O' : Int32) (top_P' : (Nat → Int32)) (bottom_P' : (Nat → Int32)) (size_L' : Int32) (tracks_L' : Int32) (out_T' : (Nat → Int64)) (h : f_L_pin isLaid_O top_P bottom_P size_L tracks_L x1 x2 x3 out_T = some (r, isLaid_O', top_P', bottom_P', size_L', tracks_L', out_T')) : CtH l D cI cJ yL_pin cL_pin 6 [(0, 12, 15, 13), (0, 12, 19, 15)] 7 113 [.ref (aO 0), .int x1, .int x2, .int x3, .ref (aT 0)] (wOPRLDT cI cJ aO aP aR aL aD (aL 0) (aD 0) isLaid_O timesLaid_O timesRefused_O top_P bottom_P reach_R steps_R told_R length_R netOf_L left_L right_L trackOf_L touched_L below_L byLeft_L size_L tracks_L netOf_D left_D right_D trackOf_D touched_D below_D byLeft_D size_D tracks_D aT out_T) (wOPRLDT cI cJ aO aP aR aL aD (aL 0) (aD 0) isLaid_O' timesLaid_O timesRefused_O top_P' bottom_P' reach_R steps_R told_R length_R netOf_L left_L right_L trackOf_L touched_L below_L byLeft_L size_L' tracks_L' netOf_D left_D right_D trackOf_D touched_D below_D byLeft_D size_D tracks_D aT out_T') r := by
  refine mk_h [(0, .ref (aO 0)), (1, .int x1), (2, .int x2), (3, .int x3), (4, .ref (aT 0))] (by decide) rfl (Nat.le_of_ble_eq_true rfl) rfl (fun p e s m args below meth c A Q C hK htab hk => ?_)
  unfold f_L_pin at h
  obtain ⟨o, h1, h⟩ := bind_el h
  refine v_aload C 4 dL_pin_0 rfl ?_
  refine v_iconst (v := 0) C dL_pin_2 (by decide) ?_
  refine v_aload_n C 0 dL_pin_3 rfl rfl ?_
  refine v_iload_n C 1 dL_pin_4 rfl rfl ?_
  refine v_iload_n C 2 dL_pin_5 rfl rfl ?_
  refine v_iload_n C 3 dL_pin_6 rfl rfl ?_
  refine v_callX (As := [.int x1, .int x2, .int x3]) (st := [.int 0, .ref (aT 0)]) (wr := [(aT 0, .inl (cJ, 1, .inr (.inl out_T)))]) C hK.1 [0, 1, 2, 3, 4, 5, 6, 7, 8, 9, 10, 11, 12, 13, 14, 15, 16, 17, 18, 19, 20, 21, 22, 23] [24] (c_X3_pin l hst D cI cJ aO aP aR aL aD isLaid_O timesLaid_O timesRefused_O top_P bottom_P reach_R steps_R told_R length_R netOf_L left_L right_L trackOf_L touched_L below_L byLeft_L size_L tracks_L netOf_D left_D right_D trackOf_D touched_D below_D byLeft_D size_D tracks_D x1 x2 x3 o h1) cw_X3_pin 0 rfl rfl m2_6 dL_pin_7 rfl ⟨Nat.le_of_ble_eq_true rfl, Nat.le_of_ble_eq_true rfl⟩ (Nat.le_of_ble_eq_true rfl) ⟨Nat.le_refl 1, Nat.le_refl 6⟩ rfl rfl rfl rfl (by decide) (fun r_1 w1 hres => ?_) (fun k_1 w2 hres => ?_)
  · rcases o with ⟨r_2, isLaid_O_1, top_P_1, bottom_P_1, size_L_1, tracks_L_1⟩ | o2
    · dsimp only [Sum.map] at hres
      obtain ⟨rfl, rfl⟩ := Prod.mk.inj (Sum.inl.inj hres)
      dsimp only at h
      refine v_wperm (ws' := (wOPRLDT cI cJ aO aP aR aL aD (aL 0) (aD 0) isLaid_O_1 timesLaid_O timesRefused_O top_P_1 bottom_P_1 reach_R steps_R told_R length_R netOf_L left_L right_L trackOf_L touched_L below_L byLeft_L size_L_1 tracks_L_1 netOf_D left_D right_D trackOf_D touched_D below_D byLeft_D size_D tracks_D aT out_T)) [1, 2, 3, 4, 5, 6, 7, 8, 9, 10, 11, 12, 13, 14, 15, 16, 17, 18, 19, 20, 21, 22, 23, 24, 0] rfl rfl ?_
      refine v_i2l C dL_pin_10 ?_
      refine v_last (α := Unit) (g := some ()) (o := ()) C (wOPRLDT cI cJ aO aP aR aL aD (aL 0) (aD 0) isLaid_O_1 timesLaid_O timesRefused_O top_P_1 bottom_P_1 reach_R steps_R told_R length_R netOf_L left_L right_L trackOf_L touched_L below_L byLeft_L size_L_1 tracks_L_1 netOf_D left_D right_D trackOf_D touched_D below_D byLeft_D size_D tracks_D aT (vp_updL out_T (0 : Int32).toNatClampNeg r_2.toInt64)) 24 rfl dL_pin_11 rfl rfl (fun _ => ?_)
      refine v_goto (tgt := 23) C dL_pin_12 (by decide) ?_
      refine v_iconst (v := 0) C dL_pin_23 (by decide) ?_
      cases h
      exact hk _ _ dL_pin_24
    · dsimp only [Sum.map] at hres; cases hres
  · rcases o with o2 | ⟨k_2, isLaid_O_1, top_P_1, bottom_P_1, size_L_1, tracks_L_1⟩
    · dsimp only [Sum.map] at hres; cases hres
    · dsimp only [Sum.map] at hres
      obtain ⟨rfl, rfl⟩ := Prod.mk.inj (Sum.inr.inj hres)
      dsimp only at h
      by_cases e1 : k_2 = 1
      · rw [if_pos e1] at h
        subst e1
        refine ⟨15, ⟨[], ⟨0, 12, 15, 13⟩, [⟨0, 12, 19, 15⟩], htab, (fun z hz => by cases hz), by decide, by decide, C.2.2.2.2.1 _ m2_4, va_Nw.use rfl (hK.1.1 _ (List.mem_of_getElem? (i := 0) rfl)), rfl⟩, fun q9 => ?_⟩
        refine v_wperm (ws' := (wOPRLDT cI cJ aO aP aR aL aD (aL 0) (aD 0) isLaid_O_1 timesLaid_O timesRefused_O top_P_1 bottom_P_1 reach_R steps_R told_R length_R netOf_L left_L right_L trackOf_L touched_L below_L byLeft_L size_L_1 tracks_L_1 netOf_D left_D right_D trackOf_D touched_D below_D byLeft_D size_D tracks_D aT out_T)) [1, 2, 3, 4, 5, 6, 7, 8, 9, 10, 11, 12, 13, 14, 15, 16, 17, 18, 19, 20, 21, 22, 23, 24, 0] rfl rfl ?_
        refine v_astore C [(5, .ref q9), (0, .ref (aO 0)), (1, .int x1), (2, .int x2), (3, .int x3), (4, .ref (aT 0))] dL_pin_15 (by decide) rfl ?_
        refine v_iconst (v := 1) C dL_pin_17 (by decide) ?_
        cases h
        exact hk _ _ dL_pin_18
      · rw [if_neg e1] at h
        by_cases e2 : k_2 = 2
        · rw [if_pos e2] at h
          subst e2
          refine ⟨19, ⟨[⟨0, 12, 15, 13⟩], ⟨0, 12, 19, 15⟩, [], htab, (fun z hz => by rw [List.mem_singleton.mp hz]; exact Or.inr ⟨by decide, XN 1, C.2.2.2.2.1 _ m2_4, hK.2.1⟩), by decide, by decide, C.2.2.2.2.1 _ m2_5, va_Nw.use rfl (hK.1.1 _ (List.mem_of_getElem? (i := 1) rfl)), rfl⟩, fun q9 => ?_⟩
          refine v_wperm (ws' := (wOPRLDT cI cJ aO aP aR aL aD (aL 0) (aD 0) isLaid_O_1 timesLaid_O timesRefused_O top_P_1 bottom_P_1 reach_R steps_R told_R length_R netOf_L left_L right_L trackOf_L touched_L below_L byLeft_L size_L_1 tracks_L_1 netOf_D left_D right_D trackOf_D touched_D below_D byLeft_D size_D tracks_D aT out_T)) [1, 2, 3, 4, 5, 6, 7, 8, 9, 10, 11, 12, 13, 14, 15, 16, 17, 18, 19, 20, 21, 22, 23, 24, 0] rfl rfl ?_
          refine v_astore C [(5, .ref q9), (0, .ref (aO 0)), (1, .int x1), (2, .int x2), (3, .int x3), (4, .ref (aT 0))] dL_pin_19 (by decide) rfl ?_
          refine v_iconst (v := 2) C dL_pin_21 (by decide) ?_
          cases h
          exact hk _ _ dL_pin_22
        · rw [if_neg e2] at h
          cases h
def f_L_lay (isLaid_O : Int32) (timesLaid_O : Int32) (timesRefused_O : Int32) (top_P : (Nat → Int32)) (bottom_P : (Nat → Int32)) (reach_R : (Nat → Int64)) (steps_R : (Nat → Int32)) (told_R : (Nat → Int32)) (length_R : Int32) (netOf_L : (Nat → Int32)) (left_L : (Nat → Int32)) (right_L : (Nat → Int32)) (trackOf_L : (Nat → Int32)) (touched_L : (Nat → Int32)) (below_L : (Nat → Int64)) (byLeft_L : (Nat → Int32)) (size_L : Int32) (tracks_L : Int32) (netOf_D : (Nat → Int32)) (left_D : (Nat → Int32)) (right_D : (Nat → Int32)) (trackOf_D : (Nat → Int32)) (touched_D : (Nat → Int32)) (below_D : (Nat → Int64)) (byLeft_D : (Nat → Int32)) (size_D : Int32) (tracks_D : Int32) (x1 : Int32) (aL : (Nat → Nat)) (aD : (Nat → Nat)) (out_T : (Nat → Int64)) : Option (Int32 × Int32 × Int32 × Int32 × (Nat → Int64) × (Nat → Int32) × (Nat → Int32) × Int32 × (Nat → Int32) × (Nat → Int32) × (Nat → Int32) × (Nat → Int32) × (Nat → Int32) × (Nat → Int64) × (Nat → Int32) × Int32 × Int32 × (Nat → Int32) × (Nat → Int32) × (Nat → Int32) × (Nat → Int32) × (Nat → Int32) × (Nat → Int64) × (Nat → Int32) × Int32 × Int32 × (Nat → Nat) × (Nat → Nat) × (Nat → Int64)) := (f_X3_lay isLaid_O timesLaid_O timesRefused_O top_P bottom_P reach_R steps_R told_R length_R netOf_L left_L right_L trackOf_L touched_L below_L byLeft_L size_L tracks_L netOf_D left_D right_D trackOf_D touched_D below_D byLeft_D size_D tracks_D x1).bind (fun r => match r with | .inl (r_1, isLaid_O_1, timesLaid_O_1, timesRefused_O_1, reach_R_1, steps_R_1, told_R_1, length_R_1, netOf_L_1, left_L_1, right_L_1, trackOf_L_1, touched_L_1, below_L_1, byLeft_L_1, size_L_1, tracks_L_1, netOf_D_1, left_D_1, right_D_1, trackOf_D_1, touched_D_1, below_D_1, byLeft_D_1, size_D_1, tracks_D_1) => some (0, isLaid_O_1, timesLaid_O_1, timesRefused_O_1, reach_R_1, steps_R_1, told_R_1, length_R_1, netOf_L_1, left_L_1, right_L_1, trackOf_L_1, touched_L_1, below_L_1, byLeft_L_1, size_L_1, tracks_L_1, netOf_D_1, left_D_1, right_D_1, trackOf_D_1, touched_D_1, below_D_1, byLeft_D_1, size_D_1, tracks_D_1, aD, aL, vp_updL out_T (0 : Int32).toNatClampNeg r_1.toInt64) | .inr (k_1, isLaid_O_1, timesLaid_O_1, timesRefused_O_1, reach_R_1, steps_R_1, told_R_1, length_R_1, netOf_L_1, left_L_1, right_L_1, trackOf_L_1, touched_L_1, below_L_1, byLeft_L_1, size_L_1, tracks_L_1, netOf_D_1, left_D_1, right_D_1, trackOf_D_1, touched_D_1, below_D_1, byLeft_D_1, size_D_1, tracks_D_1) => if k_1 = 2 then some (1, isLaid_O_1, timesLaid_O_1, timesRefused_O_1, reach_R_1, steps_R_1, told_R_1, length_R_1, netOf_L_1, left_L_1, right_L_1, trackOf_L_1, touched_L_1, below_L_1, byLeft_L_1, size_L_1, tracks_L_1, netOf_D_1, left_D_1, right_D_1, trackOf_D_1, touched_D_1, below_D_1, byLeft_D_1, size_D_1, tracks_D_1, aL, aD, out_T) else (if k_1 = 3 then some (2, isLaid_O_1, timesLaid_O_1, timesRefused_O_1, reach_R_1, steps_R_1, told_R_1, length_R_1, netOf_L_1, left_L_1, right_L_1, trackOf_L_1, touched_L_1, below_L_1, byLeft_L_1, size_L_1, tracks_L_1, netOf_D_1, left_D_1, right_D_1, trackOf_D_1, touched_D_1, below_D_1, byLeft_D_1, size_D_1, tracks_D_1, aL, aD, out_T) else none))
set_option maxHeartbeats 4000000 in
set_option maxRecDepth 100000 in
theorem c_L_lay (l : Launch) (hst : l.stackTraces = false) (D : va_G) (cI cJ : ClassId) (aO aP aR aL aD : Nat → Nat) (isLaid_O : Int32) (timesLaid_O : Int32) (timesRefused_O : Int32) (top_P : (Nat → Int32)) (bottom_P : (Nat → Int32)) (reach_R : (Nat → Int64)) (steps_R : (Nat → Int32)) (told_R : (Nat → Int32)) (length_R : Int32) (netOf_L : (Nat → Int32)) (left_L : (Nat → Int32)) (right_L : (Nat → Int32)) (trackOf_L : (Nat → Int32)) (touched_L : (Nat → Int32)) (below_L : (Nat → Int64)) (byLeft_L : (Nat → Int32)) (size_L : Int32) (tracks_L : Int32) (netOf_D : (Nat → Int32)) (left_D : (Nat → Int32)) (right_D : (Nat → Int32)) (trackOf_D : (Nat → Int32)) (touched_D : (Nat → Int32)) (below_D : (Nat → Int64)) (byLeft_D : (Nat → Int32)) (size_D : Int32) (tracks_D : Int32) (aT : Nat → Nat) (out_T : Nat → Int64) (x1 : Int32) (r : Int32) (isLaid_O' : Int32) (timesLaid_O' : Int32) (timesRefused_O' : Int32) (reach_R' : (Nat → Int64)) (steps_R' : (Nat → Int32)) (told_R' : (Nat → Int32)) (length_R' : Int32) (netOf_L' : (Nat → Int32)) (left_L' : (Nat → Int32)) (right_L' : (Nat → Int32)) (trackOf_L' : (Nat → Int32)) (touched_L' : (Nat → Int32)) (below_L' : (Nat → Int64)) (byLeft_L' : (Nat → Int32)) (size_L' : Int32) (tracks_L' : Int32) (netOf_D' : (Nat → Int32)) (left_D' : (Nat → Int32)) (right_D' : (Nat → Int32)) (trackOf_D' : (Nat → Int32)) (touched_D' : (Nat → Int32)) (below_D' : (Nat → Int64)) (byLeft_D' : (Nat → Int32)) (size_D' : Int32) (tracks_D' : Int32) (aL' : (Nat → Nat)) (aD' : (Nat → Nat)) (out_T' : (Nat → Int64)) (h : f_L_lay isLaid_O timesLaid_O timesRefused_O top_P bottom_P reach_R steps_R told_R length_R netOf_L left_L right_L trackOf_L touched_L below_L byLeft_L size_L tracks_L netOf_D left_D right_D trackOf_D touched_D below_D byLeft_D size_D tracks_D x1 aL aD out_T = some (r, isLaid_O', timesLaid_O', timesRefused_O', reach_R', steps_R', told_R', length_R', netOf_L', left_L', right_L', trackOf_L', touched_L', below_L', byLeft_L', size_L', tracks_L', netOf_D', left_D', right_D', trackOf_D', touched_D', below_D', byLeft_D', size_D', tracks_D', aL', aD', out_T')) : CtH l D cI cJ yL_lay cL_lay 4 [(0, 9, 12, 15), (0, 9, 15, 21)] 7 152 [.ref (aO 0), .int x1, .ref (aT 0)] (wOPRLDT cI cJ aO aP aR aL aD (aL 0) (aD 0) isLaid_O timesLaid_O timesRefused_O top_P bottom_P reach_R steps_R told_R length_R netOf_L left_L right_L trackOf_L touched_L below_L byLeft_L size_L tracks_L netOf_D left_D right_D trackOf_D touched_D below_D byLeft_D size_D tracks_D aT out_T) (wOPRLDT cI cJ aO aP aR aL' aD' (aL' 0) (aD' 0) isLaid_O' timesLaid_O' timesRefused_O' top_P bottom_P reach_R' steps_R' told_R' length_R' netOf_L' left_L' right_L' trackOf_L' touched_L' below_L' byLeft_L' size_L' tracks_L' netOf_D' left_D' right_D' trackOf_D' touched_D' below_D' byLeft_D' size_D' tracks_D' aT out_T') r := by
  refine mk_h [(0, .ref (aO 0)), (1, .int x1), (2, .ref (aT 0))] (by decide) rfl (Nat.le_of_ble_eq_true rfl) rfl (fun p e s m args below meth c A Q C hK htab hk => ?_)
  unfold f_L_lay at h
  obtain ⟨o, h1, h⟩ := bind_el h
  refine v_aload_n C 2 dL_lay_0 rfl rfl ?_
  refine v_iconst (v := 0) C dL_lay_1 (by decide) ?_
  refine v_aload_n C 0 dL_lay_2 rfl rfl ?_
  refine v_iload_n C 1 dL_lay_3 rfl rfl ?_
  refine v_callX (As := [.int x1]) (st := [.int 0, .ref (aT 0)]) (wr := [(aT 0, .inl (cJ, 1, .inr (.inl out_T)))]) C hK.1 [0, 1, 2, 3, 4, 5, 6, 7, 8, 9, 10, 11, 12, 13, 14, 15, 16, 17, 18, 19, 20, 21, 22, 23] [24] (c_X3_lay l hst D cI cJ aO aP aR aL aD isLaid_O timesLaid_O timesRefused_O top_P bottom_P reach_R steps_R told_R length_R netOf_L left_L right_L trackOf_L touched_L below_L byLeft_L size_L tracks_L netOf_D left_D right_D trackOf_D touched_D below_D byLeft_D size_D tracks_D x1 o h1) cw_X3_lay 0 rfl rfl m2_109 dL_lay_4 rfl ⟨Nat.le_of_ble_eq_true rfl, Nat.le_of_ble_eq_true rfl⟩ (Nat.le_of_ble_eq_true rfl) ⟨Nat.le_refl 1, Nat.le_refl 6⟩ rfl rfl rfl rfl (by decide) (fun r_1 w1 hres => ?_) (fun k_1 w2 hres => ?_)
  · rcases o with ⟨r_2, isLaid_O_1, timesLaid_O_1, timesRefused_O_1, reach_R_1, steps_R_1, told_R_1, length_R_1, netOf_L_1, left_L_1, right_L_1, trackOf_L_1, touched_L_1, below_L_1, byLeft_L_1, size_L_1, tracks_L_1, netOf_D_1, left_D_1, right_D_1, trackOf_D_1, touched_D_1, below_D_1, byLeft_D_1, size_D_1, tracks_D_1⟩ | o2
    · dsimp only [Sum.map] at hres
      obtain ⟨rfl, rfl⟩ := Prod.mk.inj (Sum.inl.inj hres)
      dsimp only at h
      refine v_wperm (ws' := (wOPRLDT cI cJ aO aP aR aD aL (aD 0) (aL 0) isLaid_O_1 timesLaid_O_1 timesRefused_O_1 top_P bottom_P reach_R_1 steps_R_1 told_R_1 length_R_1 netOf_L_1 left_L_1 right_L_1 trackOf_L_1 touched_L_1 below_L_1 byLeft_L_1 size_L_1 tracks_L_1 netOf_D_1 left_D_1 right_D_1 trackOf_D_1 touched_D_1 below_D_1 byLeft_D_1 size_D_1 tracks_D_1 aT out_T)) [1, 2, 3, 4, 5, 6, 7, 8, 9, 10, 11, 12, 13, 14, 15, 16, 17, 18, 19, 20, 21, 22, 23, 24, 0] rfl rfl ?_
      refine v_i2l C dL_lay_7 ?_
      refine v_last (α := Unit) (g := some ()) (o := ()) C (wOPRLDT cI cJ aO aP aR aD aL (aD 0) (aL 0) isLaid_O_1 timesLaid_O_1 timesRefused_O_1 top_P bottom_P reach_R_1 steps_R_1 told_R_1 length_R_1 netOf_L_1 left_L_1 right_L_1 trackOf_L_1 touched_L_1 below_L_1 byLeft_L_1 size_L_1 tracks_L_1 netOf_D_1 left_D_1 right_D_1 trackOf_D_1 touched_D_1 below_D_1 byLeft_D_1 size_D_1 tracks_D_1 aT (vp_updL out_T (0 : Int32).toNatClampNeg r_2.toInt64)) 24 rfl dL_lay_8 rfl rfl (fun _ => ?_)
      refine v_goto (tgt := 18) C dL_lay_9 (by decide) ?_
      refine v_iconst (v := 0) C dL_lay_18 (by decide) ?_
      cases h
      exact hk _ _ dL_lay_19
    · dsimp only [Sum.map] at hres; cases hres
  · rcases o with o2 | ⟨k_2, isLaid_O_1, timesLaid_O_1, timesRefused_O_1, reach_R_1, steps_R_1, told_R_1, length_R_1, netOf_L_1, left_L_1, right_L_1, trackOf_L_1, touched_L_1, below_L_1, byLeft_L_1, size_L_1, tracks_L_1, netOf_D_1, left_D_1, right_D_1, trackOf_D_1, touched_D_1, below_D_1, byLeft_D_1, size_D_1, tracks_D_1⟩
    · dsimp only [Sum.map] at hres; cases hres
    · dsimp only [Sum.map] at hres
      obtain ⟨rfl, rfl⟩ := Prod.mk.inj (Sum.inr.inj hres)
      dsimp only at h
      by_cases e2 : k_2 = 2
      · rw [if_pos e2] at h
        subst e2
        refine ⟨12, ⟨[], ⟨0, 9, 12, 15⟩, [⟨0, 9, 15, 21⟩], htab, (fun z hz => by cases hz), by decide, by decide, C.2.2.2.2.1 _ m2_5, va_Nw.use rfl (hK.1.1 _ (List.mem_of_getElem? (i := 1) rfl)), rfl⟩, fun q9 => ?_⟩
        refine v_wperm (ws' := (wOPRLDT cI cJ aO aP aR aL aD (aL 0) (aD 0) isLaid_O_1 timesLaid_O_1 timesRefused_O_1 top_P bottom_P reach_R_1 steps_R_1 told_R_1 length_R_1 netOf_L_1 left_L_1 right_L_1 trackOf_L_1 touched_L_1 below_L_1 byLeft_L_1 size_L_1 tracks_L_1 netOf_D_1 left_D_1 right_D_1 trackOf_D_1 touched_D_1 below_D_1 byLeft_D_1 size_D_1 tracks_D_1 aT out_T)) [1, 2, 3, 4, 5, 6, 7, 8, 9, 10, 11, 12, 13, 14, 15, 16, 17, 18, 19, 20, 21, 22, 23, 24, 0] rfl rfl ?_
        refine v_astore_n C [(3, .ref q9), (0, .ref (aO 0)), (1, .int x1), (2, .ref (aT 0))] dL_lay_12 rfl (by decide) rfl ?_
        refine v_iconst (v := 1) C dL_lay_13 (by decide) ?_
        cases h
        exact hk _ _ dL_lay_14
      · rw [if_neg e2] at h
        by_cases e3 : k_2 = 3
        · rw [if_pos e3] at h
          subst e3
          refine ⟨15, ⟨[⟨0, 9, 12, 15⟩], ⟨0, 9, 15, 21⟩, [], htab, (fun z hz => by rw [List.mem_singleton.mp hz]; exact Or.inr ⟨by decide, XN 2, C.2.2.2.2.1 _ m2_5, hK.2.2⟩), by decide, by decide, C.2.2.2.2.1 _ m2_108, va_Nw.use rfl (hK.1.1 _ (List.mem_of_getElem? (i := 2) rfl)), rfl⟩, fun q9 => ?_⟩
          refine v_wperm (ws' := (wOPRLDT cI cJ aO aP aR aL aD (aL 0) (aD 0) isLaid_O_1 timesLaid_O_1 timesRefused_O_1 top_P bottom_P reach_R_1 steps_R_1 told_R_1 length_R_1 netOf_L_1 left_L_1 right_L_1 trackOf_L_1 touched_L_1 below_L_1 byLeft_L_1 size_L_1 tracks_L_1 netOf_D_1 left_D_1 right_D_1 trackOf_D_1 touched_D_1 below_D_1 byLeft_D_1 size_D_1 tracks_D_1 aT out_T)) [1, 2, 3, 4, 5, 6, 7, 8, 9, 10, 11, 12, 13, 14, 15, 16, 17, 18, 19, 20, 21, 22, 23, 24, 0] rfl rfl ?_
          refine v_astore_n C [(3, .ref q9), (0, .ref (aO 0)), (1, .int x1), (2, .ref (aT 0))] dL_lay_15 rfl (by decide) rfl ?_
          refine v_iconst (v := 2) C dL_lay_16 (by decide) ?_
          cases h
          exact hk _ _ dL_lay_17
        · rw [if_neg e3] at h
          cases h
def f_L_layAny (isLaid_O : Int32) (timesLaid_O : Int32) (timesRefused_O : Int32) (top_P : (Nat → Int32)) (bottom_P : (Nat → Int32)) (reach_R : (Nat → Int64)) (steps_R : (Nat → Int32)) (told_R : (Nat → Int32)) (length_R : Int32) (netOf_L : (Nat → Int32)) (left_L : (Nat → Int32)) (right_L : (Nat → Int32)) (trackOf_L : (Nat → Int32)) (touched_L : (Nat → Int32)) (below_L : (Nat → Int64)) (byLeft_L : (Nat → Int32)) (size_L : Int32) (tracks_L : Int32) (netOf_D : (Nat → Int32)) (left_D : (Nat → Int32)) (right_D : (Nat → Int32)) (trackOf_D : (Nat → Int32)) (touched_D : (Nat → Int32)) (below_D : (Nat → Int64)) (byLeft_D : (Nat → Int32)) (size_D : Int32) (tracks_D : Int32) (aL : (Nat → Nat)) (aD : (Nat → Nat)) (out_T : (Nat → Int64)) : Option (Int32 × Int32 × Int32 × Int32 × (Nat → Int64) × (Nat → Int32) × (Nat → Int32) × Int32 × (Nat → Int32) × (Nat → Int32) × (Nat → Int32) × (Nat → Int32) × (Nat → Int32) × (Nat → Int64) × (Nat → Int32) × Int32 × Int32 × (Nat → Int32) × (Nat → Int32) × (Nat → Int32) × (Nat → Int32) × (Nat → Int32) × (Nat → Int64) × (Nat → Int32) × Int32 × Int32 × (Nat → Nat) × (Nat → Nat) × (Nat → Int64)) := (f_X3_layAny isLaid_O timesLaid_O timesRefused_O top_P bottom_P reach_R steps_R told_R length_R netOf_L left_L right_L trackOf_L touched_L below_L byLeft_L size_L tracks_L netOf_D left_D right_D trackOf_D touched_D below_D byLeft_D size_D tracks_D).bind (fun r => match r with | .inl (r_1, isLaid_O_1, timesLaid_O_1, timesRefused_O_1, reach_R_1, steps_R_1, told_R_1, length_R_1, netOf_L_1, left_L_1, right_L_1, trackOf_L_1, touched_L_1, below_L_1, byLeft_L_1, size_L_1, tracks_L_1, netOf_D_1, left_D_1, right_D_1, trackOf_D_1, touched_D_1, below_D_1, byLeft_D_1, size_D_1, tracks_D_1) => some (0, isLaid_O_1, timesLaid_O_1, timesRefused_O_1, reach_R_1, steps_R_1, told_R_1, length_R_1, netOf_L_1, left_L_1, right_L_1, trackOf_L_1, touched_L_1, below_L_1, byLeft_L_1, size_L_1, tracks_L_1, netOf_D_1, left_D_1, right_D_1, trackOf_D_1, touched_D_1, below_D_1, byLeft_D_1, size_D_1, tracks_D_1, aD, aL, vp_updL out_T (0 : Int32).toNatClampNeg r_1.toInt64) | .inr (k_1, isLaid_O_1, timesLaid_O_1, timesRefused_O_1, reach_R_1, steps_R_1, told_R_1, length_R_1, netOf_L_1, left_L_1, right_L_1, trackOf_L_1, touched_L_1, below_L_1, byLeft_L_1, size_L_1, tracks_L_1, netOf_D_1, left_D_1, right_D_1, trackOf_D_1, touched_D_1, below_D_1, byLeft_D_1, size_D_1, tracks_D_1) => if k_1 = 2 then some (1, isLaid_O_1, timesLaid_O_1, timesRefused_O_1, reach_R_1, steps_R_1, told_R_1, length_R_1, netOf_L_1, left_L_1, right_L_1, trackOf_L_1, touched_L_1, below_L_1, byLeft_L_1, size_L_1, tracks_L_1, netOf_D_1, left_D_1, right_D_1, trackOf_D_1, touched_D_1, below_D_1, byLeft_D_1, size_D_1, tracks_D_1, aL, aD, out_T) else (if k_1 = 3 then some (2, isLaid_O_1, timesLaid_O_1, timesRefused_O_1, reach_R_1, steps_R_1, told_R_1, length_R_1, netOf_L_1, left_L_1, right_L_1, trackOf_L_1, touched_L_1, below_L_1, byLeft_L_1, size_L_1, tracks_L_1, netOf_D_1, left_D_1, right_D_1, trackOf_D_1, touched_D_1, below_D_1, byLeft_D_1, size_D_1, tracks_D_1, aL, aD, out_T) else none))
set_option maxHeartbeats 4000000 in
set_option maxRecDepth 100000 in
theorem c_L_layAny (l : Launch) (hst : l.stackTraces = false) (D : va_G) (cI cJ : ClassId) (aO aP aR aL aD : Nat → Nat) (isLaid_O : Int32) (timesLaid_O : Int32) (timesRefused_O : Int32) (top_P : (Nat → Int32)) (bottom_P : (Nat → Int32)) (reach_R : (Nat → Int64)) (steps_R : (Nat → Int32)) (told_R : (Nat → Int32)) (length_R : Int32) (netOf_L : (Nat → Int32)) (left_L : (Nat → Int32)) (right_L : (Nat → Int32)) (trackOf_L : (Nat → Int32)) (touched_L : (Nat → Int32)) (below_L : (Nat → Int64)) (byLeft_L : (Nat → Int32)) (size_L : Int32) (tracks_L : Int32) (netOf_D : (Nat → Int32)) (left_D : (Nat → Int32)) (right_D : (Nat → Int32)) (trackOf_D : (Nat → Int32)) (touched_D : (Nat → Int32)) (below_D : (Nat → Int64)) (byLeft_D : (Nat → Int32)) (size_D : Int32) (tracks_D : Int32) (aT : Nat → Nat) (out_T : Nat → Int64)  (r : Int32) (isLaid_O' : Int32) (timesLaid_O' : Int32) (timesRefused_O' : Int32) (reach_R' : (Nat → Int64)) (steps_R' : (Nat → Int32)) (told_R' : (Nat → Int32)) (length_R' : Int32) (netOf_L' : (Nat → Int32)) (left_L' : (Nat → Int32)) (right_L' : (Nat → Int32)) (trackOf_L' : (Nat → Int32)) (touched_L' : (Nat → Int32)) (below_L' : (Nat → Int64)) (byLeft_L' : (Nat → Int32)) (size_L' : Int32) (tracks_L' : Int32) (netOf_D' : (Nat → Int32)) (left_D' : (Nat → Int32)) (right_D' : (Nat → Int32)) (trackOf_D' : (Nat → Int32)) (touched_D' : (Nat → Int32)) (below_D' : (Nat → Int64)) (byLeft_D' : (Nat → Int32)) (size_D' : Int32) (tracks_D' : Int32) (aL' : (Nat → Nat)) (aD' : (Nat → Nat)) (out_T' : (Nat → Int64)) (h : f_L_layAny isLaid_O timesLaid_O timesRefused_O top_P bottom_P reach_R steps_R told_R length_R netOf_L left_L right_L trackOf_L touched_L below_L byLeft_L size_L tracks_L netOf_D left_D right_D trackOf_D touched_D below_D byLeft_D size_D tracks_D aL aD out_T = some (r, isLaid_O', timesLaid_O', timesRefused_O', reach_R', steps_R', told_R', length_R', netOf_L', left_L', right_L', trackOf_L', touched_L', below_L', byLeft_L', size_L', tracks_L', netOf_D', left_D', right_D', trackOf_D', touched_D', below_D', byLeft_D', size_D', tracks_D', aL', aD', out_T')) : CtH l D cI cJ yL_layAny cL_layAny 3 [(0, 8, 11, 15), (0, 8, 14, 21)] 7 152 [.ref (aO 0), .ref (aT 0)] (wOPRLDT cI cJ aO aP aR aL aD (aL 0) (aD 0) isLaid_O timesLaid_O timesRefused_O top_P bottom_P reach_R steps_R told_R length_R netOf_L left_L right_L trackOf_L touched_L below_L byLeft_L size_L tracks_L netOf_D left_D right_D trackOf_D touched_D below_D byLeft_D size_D tracks_D aT out_T) (wOPRLDT cI cJ aO aP aR aL' aD' (aL' 0) (aD' 0) isLaid_O' timesLaid_O' timesRefused_O' top_P bottom_P reach_R' steps_R' told_R' length_R' netOf_L' left_L' right_L' trackOf_L' touched_L' below_L' byLeft_L' size_L' tracks_L' netOf_D' left_D' right_D' trackOf_D' touched_D' below_D' byLeft_D' size_D' tracks_D' aT out_T') r := by
  refine mk_h [(0, .ref (aO 0)), (1, .ref (aT 0))] (by decide) rfl (Nat.le_of_ble_eq_true rfl) rfl (fun p e s m args below meth c A Q C hK htab hk => ?_)
  unfold f_L_layAny at h
  obtain ⟨o, h1, h⟩ := bind_el h
  refine v_aload_n C 1 dL_layAny_0 rfl rfl ?_
  refine v_iconst (v := 0) C dL_layAny_1 (by decide) ?_
  refine v_aload_n C 0 dL_layAny_2 rfl rfl ?_
  refine v_callX (As := []) (st := [.int 0, .ref (aT 0)]) (wr := [(aT 0, .inl (cJ, 1, .inr (.inl out_T)))]) C hK.1 [0, 1, 2, 3, 4, 5, 6, 7, 8, 9, 10, 11, 12, 13, 14, 15, 16, 17, 18, 19, 20, 21, 22, 23] [24] (c_X3_layAny l hst D cI cJ aO aP aR aL aD isLaid_O timesLaid_O timesRefused_O top_P bottom_P reach_R steps_R told_R length_R netOf_L left_L right_L trackOf_L touched_L below_L byLeft_L size_L tracks_L netOf_D left_D right_D trackOf_D touched_D below_D byLeft_D size_D tracks_D  o h1) cw_X3_layAny 0 rfl rfl m2_198 dL_layAny_3 rfl ⟨Nat.le_of_ble_eq_true rfl, Nat.le_of_ble_eq_true rfl⟩ (Nat.le_of_ble_eq_true rfl) ⟨Nat.le_refl 1, Nat.le_refl 6⟩ rfl rfl rfl rfl (by decide) (fun r_1 w1 hres => ?_) (fun k_1 w2 hres => ?_)
  · rcases o with ⟨r_2, isLaid_O_1, timesLaid_O_1, timesRefused_O_1, reach_R_1, steps_R_1, told_R_1, length_R_1, netOf_L_1, left_L_1, right_L_1, trackOf_L_1, touched_L_1, below_L_1, byLeft_L_1, size_L_1, tracks_L_1, netOf_D_1, left_D_1, right_D_1, trackOf_D_1, touched_D_1, below_D_1, byLeft_D_1, size_D_1, tracks_D_1⟩ | o2
    · dsimp only [Sum.map] at hres
      obtain ⟨rfl, rfl⟩ := Prod.mk.inj (Sum.inl.inj hres)
      dsimp only at h
      refine v_wperm (ws' := (wOPRLDT cI cJ aO aP aR aD aL (aD 0) (aL 0) isLaid_O_1 timesLaid_O_1 timesRefused_O_1 top_P bottom_P reach_R_1 steps_R_1 told_R_1 length_R_1 netOf_L_1 left_L_1 right_L_1 trackOf_L_1 touched_L_1 below_L_1 byLeft_L_1 size_L_1 tracks_L_1 netOf_D_1 left_D_1 right_D_1 trackOf_D_1 touched_D_1 below_D_1 byLeft_D_1 size_D_1 tracks_D_1 aT out_T)) [1, 2, 3, 4, 5, 6, 7, 8, 9, 10, 11, 12, 13, 14, 15, 16, 17, 18, 19, 20, 21, 22, 23, 24, 0] rfl rfl ?_
      refine v_i2l C dL_layAny_6 ?_
      refine v_last (α := Unit) (g := some ()) (o := ()) C (wOPRLDT cI cJ aO aP aR aD aL (aD 0) (aL 0) isLaid_O_1 timesLaid_O_1 timesRefused_O_1 top_P bottom_P reach_R_1 steps_R_1 told_R_1 length_R_1 netOf_L_1 left_L_1 right_L_1 trackOf_L_1 touched_L_1 below_L_1 byLeft_L_1 size_L_1 tracks_L_1 netOf_D_1 left_D_1 right_D_1 trackOf_D_1 touched_D_1 below_D_1 byLeft_D_1 size_D_1 tracks_D_1 aT (vp_updL out_T (0 : Int32).toNatClampNeg r_2.toInt64)) 24 rfl dL_layAny_7 rfl rfl (fun _ => ?_)
      refine v_goto (tgt := 17) C dL_layAny_8 (by decide) ?_
      refine v_iconst (v := 0) C dL_layAny_17 (by decide) ?_
      cases h
      exact hk _ _ dL_layAny_18
    · dsimp only [Sum.map] at hres; cases hres
  · rcases o with o2 | ⟨k_2, isLaid_O_1, timesLaid_O_1, timesRefused_O_1, reach_R_1, steps_R_1, told_R_1, length_R_1, netOf_L_1, left_L_1, right_L_1, trackOf_L_1, touched_L_1, below_L_1, byLeft_L_1, size_L_1, tracks_L_1, netOf_D_1, left_D_1, right_D_1, trackOf_D_1, touched_D_1, below_D_1, byLeft_D_1, size_D_1, tracks_D_1⟩
    · dsimp only [Sum.map] at hres; cases hres
    · dsimp only [Sum.map] at hres
      obtain ⟨rfl, rfl⟩ := Prod.mk.inj (Sum.inr.inj hres)
      dsimp only at h
      by_cases e2 : k_2 = 2
      · rw [if_pos e2] at h
        subst e2
        refine ⟨11, ⟨[], ⟨0, 8, 11, 15⟩, [⟨0, 8, 14, 21⟩], htab, (fun z hz => by cases hz), by decide, by decide, C.2.2.2.2.1 _ m2_5, va_Nw.use rfl (hK.1.1 _ (List.mem_of_getElem? (i := 1) rfl)), rfl⟩, fun q9 => ?_⟩
        refine v_wperm (ws' := (wOPRLDT cI cJ aO aP aR aL aD (aL 0) (aD 0) isLaid_O_1 timesLaid_O_1 timesRefused_O_1 top_P bottom_P reach_R_1 steps_R_1 told_R_1 length_R_1 netOf_L_1 left_L_1 right_L_1 trackOf_L_1 touched_L_1 below_L_1 byLeft_L_1 size_L_1 tracks_L_1 netOf_D_1 left_D_1 right_D_1 trackOf_D_1 touched_D_1 below_D_1 byLeft_D_1 size_D_1 tracks_D_1 aT out_T)) [1, 2, 3, 4, 5, 6, 7, 8, 9, 10, 11, 12, 13, 14, 15, 16, 17, 18, 19, 20, 21, 22, 23, 24, 0] rfl rfl ?_
        refine v_astore_n C [(2, .ref q9), (0, .ref (aO 0)), (1, .ref (aT 0))] dL_layAny_11 rfl (by decide) rfl ?_
        refine v_iconst (v := 1) C dL_layAny_12 (by decide) ?_
        cases h
        exact hk _ _ dL_layAny_13
      · rw [if_neg e2] at h
        by_cases e3 : k_2 = 3
        · rw [if_pos e3] at h
          subst e3
          refine ⟨14, ⟨[⟨0, 8, 11, 15⟩], ⟨0, 8, 14, 21⟩, [], htab, (fun z hz => by rw [List.mem_singleton.mp hz]; exact Or.inr ⟨by decide, XN 2, C.2.2.2.2.1 _ m2_5, hK.2.2⟩), by decide, by decide, C.2.2.2.2.1 _ m2_108, va_Nw.use rfl (hK.1.1 _ (List.mem_of_getElem? (i := 2) rfl)), rfl⟩, fun q9 => ?_⟩
          refine v_wperm (ws' := (wOPRLDT cI cJ aO aP aR aL aD (aL 0) (aD 0) isLaid_O_1 timesLaid_O_1 timesRefused_O_1 top_P bottom_P reach_R_1 steps_R_1 told_R_1 length_R_1 netOf_L_1 left_L_1 right_L_1 trackOf_L_1 touched_L_1 below_L_1 byLeft_L_1 size_L_1 tracks_L_1 netOf_D_1 left_D_1 right_D_1 trackOf_D_1 touched_D_1 below_D_1 byLeft_D_1 size_D_1 tracks_D_1 aT out_T)) [1, 2, 3, 4, 5, 6, 7, 8, 9, 10, 11, 12, 13, 14, 15, 16, 17, 18, 19, 20, 21, 22, 23, 24, 0] rfl rfl ?_
          refine v_astore_n C [(2, .ref q9), (0, .ref (aO 0)), (1, .ref (aT 0))] dL_layAny_14 rfl (by decide) rfl ?_
          refine v_iconst (v := 2) C dL_layAny_15 (by decide) ?_
          cases h
          exact hk _ _ dL_layAny_16
        · rw [if_neg e3] at h
          cases h
def f_L_segment (netOf_L : (Nat → Int32)) (left_L : (Nat → Int32)) (right_L : (Nat → Int32)) (trackOf_L : (Nat → Int32)) (size_L : Int32) (x1 : Int32) (x2 : Int32) (out_T : (Nat → Int64)) : Option (Int32 × (Nat → Int64)) := (f_X3_segment netOf_L left_L right_L trackOf_L size_L x1 x2).bind (fun r => match r with | .inl r_1 => some (0, vp_updL out_T (0 : Int32).toNatClampNeg r_1.toInt64) | .inr k_1 => if k_1 = 1 then some (1, out_T) else none)
set_option maxHeartbeats 4000000 in
set_option maxRecDepth 100000 in
theorem c_L_segment (l : Launch) (hst : l.stackTraces = false) (D : va_G) (cI cJ : ClassId) (aO aP aR aL aD : Nat → Nat) (isLaid_O : Int32) (timesLaid_O : Int32) (timesRefused_O : Int32) (top_P : (Nat → Int32)) (bottom_P : (Nat → Int32)) (reach_R : (Nat → Int64)) (steps_R : (Nat → Int32)) (told_R : (Nat → Int32)) (length_R : Int32) (netOf_L : (Nat → Int32)) (left_L : (Nat → Int32)) (right_L : (Nat → Int32)) (trackOf_L : (Nat → Int32)) (touched_L : (Nat → Int32)) (below_L : (Nat → Int64)) (byLeft_L : (Nat → Int32)) (size_L : Int32) (tracks_L : Int32) (netOf_D : (Nat → Int32)) (left_D : (Nat → Int32)) (right_D : (Nat → Int32)) (trackOf_D : (Nat → Int32)) (touched_D : (Nat → Int32)) (below_D : (Nat → Int64)) (byLeft_D : (Nat → Int32)) (size_D : Int32) (tracks_D : Int32) (aT : Nat → Nat) (out_T : Nat → Int64) (x1 : Int32) (x2 : Int32) (r : Int32) (out_T' : (Nat → Int64)) (h : f_L_segment netOf_L left_L right_L trackOf_L size_L x1 x2 out_T = some (r, out_T')) : CtH l D cI cJ yL_segment cL_segment 5 [(0, 10, 13, 13)] 7 112 [.ref (aO 0), .int x1, .int x2, .ref (aT 0)] (wOPRLDT cI cJ aO aP aR aL aD (aL 0) (aD 0) isLaid_O timesLaid_O timesRefused_O top_P bottom_P reach_R steps_R told_R length_R netOf_L left_L right_L trackOf_L touched_L below_L byLeft_L size_L tracks_L netOf_D left_D right_D trackOf_D touched_D below_D byLeft_D size_D tracks_D aT out_T) (wOPRLDT cI cJ aO aP aR aL aD (aL 0) (aD 0) isLaid_O timesLaid_O timesRefused_O top_P bottom_P reach_R steps_R told_R length_R netOf_L left_L right_L trackOf_L touched_L below_L byLeft_L size_L tracks_L netOf_D left_D right_D trackOf_D touched_D below_D byLeft_D size_D tracks_D aT out_T') r := by
  refine mk_h [(0, .ref (aO 0)), (1, .int x1), (2, .int x2), (3, .ref (aT 0))] (by decide) rfl (Nat.le_of_ble_eq_true rfl) rfl (fun p e s m args below meth c A Q C hK htab hk => ?_)
  unfold f_L_segment at h
  obtain ⟨o, h1, h⟩ := bind_el h
  refine v_aload_n C 3 dL_segment_0 rfl rfl ?_
  refine v_iconst (v := 0) C dL_segment_1 (by decide) ?_
  refine v_aload_n C 0 dL_segment_2 rfl rfl ?_
  refine v_iload_n C 1 dL_segment_3 rfl rfl ?_
  refine v_iload_n C 2 dL_segment_4 rfl rfl ?_
  refine v_callX (As := [.int x1, .int x2]) (st := [.int 0, .ref (aT 0)]) (wr := [(aT 0, .inl (cJ, 1, .inr (.inl out_T)))]) C hK.1 [0, 1, 2, 3, 4, 5, 6, 7, 8, 9, 10, 11, 12, 13, 14, 15, 16, 17, 18, 19, 20, 21, 22, 23] [24] (c_X3_segment l hst D cI cJ aO aP aR aL aD isLaid_O timesLaid_O timesRefused_O top_P bottom_P reach_R steps_R told_R length_R netOf_L left_L right_L trackOf_L touched_L below_L byLeft_L size_L tracks_L netOf_D left_D right_D trackOf_D touched_D below_D byLeft_D size_D tracks_D x1 x2 o h1) cw_X3_segment 0 rfl rfl m2_206 dL_segment_5 rfl ⟨Nat.le_of_ble_eq_true rfl, Nat.le_of_ble_eq_true rfl⟩ (Nat.le_of_ble_eq_true rfl) ⟨Nat.le_refl 1, Nat.le_refl 6⟩ rfl rfl rfl rfl (by decide) (fun r_1 w1 hres => ?_) (fun k_1 w2 hres => ?_)
  · rcases o with r_2 | o2
    · dsimp only [Sum.map] at hres
      obtain ⟨rfl, rfl⟩ := Prod.mk.inj (Sum.inl.inj hres)
      dsimp only at h
      refine v_wperm (ws' := (wOPRLDT cI cJ aO aP aR aL aD (aL 0) (aD 0) isLaid_O timesLaid_O timesRefused_O top_P bottom_P reach_R steps_R told_R length_R netOf_L left_L right_L trackOf_L touched_L below_L byLeft_L size_L tracks_L netOf_D left_D right_D trackOf_D touched_D below_D byLeft_D size_D tracks_D aT out_T)) [1, 2, 3, 4, 5, 6, 7, 8, 9, 10, 11, 12, 13, 14, 15, 16, 17, 18, 19, 20, 21, 22, 23, 24, 0] rfl rfl ?_
      refine v_i2l C dL_segment_8 ?_
      refine v_last (α := Unit) (g := some ()) (o := ()) C (wOPRLDT cI cJ aO aP aR aL aD (aL 0) (aD 0) isLaid_O timesLaid_O timesRefused_O top_P bottom_P reach_R steps_R told_R length_R netOf_L left_L right_L trackOf_L touched_L below_L byLeft_L size_L tracks_L netOf_D left_D right_D trackOf_D touched_D below_D byLeft_D size_D tracks_D aT (vp_updL out_T (0 : Int32).toNatClampNeg r_2.toInt64)) 24 rfl dL_segment_9 rfl rfl (fun _ => ?_)
      refine v_goto (tgt := 17) C dL_segment_10 (by decide) ?_
      refine v_iconst (v := 0) C dL_segment_17 (by decide) ?_
      cases h
      exact hk _ _ dL_segment_18
    · dsimp only [Sum.map] at hres; cases hres
  · rcases o with o2 | k_2
    · dsimp only [Sum.map] at hres; cases hres
    · dsimp only [Sum.map] at hres
      obtain ⟨rfl, rfl⟩ := Prod.mk.inj (Sum.inr.inj hres)
      dsimp only at h
      by_cases e1 : k_2 = 1
      · rw [if_pos e1] at h
        subst e1
        refine ⟨13, ⟨[], ⟨0, 10, 13, 13⟩, [], htab, (fun z hz => by cases hz), by decide, by decide, C.2.2.2.2.1 _ m2_4, va_Nw.use rfl (hK.1.1 _ (List.mem_of_getElem? (i := 0) rfl)), rfl⟩, fun q9 => ?_⟩
        refine v_wperm (ws' := (wOPRLDT cI cJ aO aP aR aL aD (aL 0) (aD 0) isLaid_O timesLaid_O timesRefused_O top_P bottom_P reach_R steps_R told_R length_R netOf_L left_L right_L trackOf_L touched_L below_L byLeft_L size_L tracks_L netOf_D left_D right_D trackOf_D touched_D below_D byLeft_D size_D tracks_D aT out_T)) [1, 2, 3, 4, 5, 6, 7, 8, 9, 10, 11, 12, 13, 14, 15, 16, 17, 18, 19, 20, 21, 22, 23, 24, 0] rfl rfl ?_
        refine v_astore C [(4, .ref q9), (0, .ref (aO 0)), (1, .int x1), (2, .int x2), (3, .ref (aT 0))] dL_segment_13 (by decide) rfl ?_
        refine v_iconst (v := 1) C dL_segment_15 (by decide) ?_
        cases h
        exact hk _ _ dL_segment_16
      · rw [if_neg e1] at h
        cases h
def f_L_level (netOf_L : (Nat → Int32)) (left_L : (Nat → Int32)) (right_L : (Nat → Int32)) (trackOf_L : (Nat → Int32)) (size_L : Int32) (tracks_L : Int32) (x1 : Int32) (x2 : Int32) (out_T : (Nat → Int64)) : Option (Int32 × (Nat → Int64)) := (f_X3_level netOf_L left_L right_L trackOf_L size_L tracks_L x1 x2).bind (fun r => match r with | .inl r_1 => some (0, vp_updL out_T (0 : Int32).toNatClampNeg r_1.toInt64) | .inr k_1 => if k_1 = 1 then some (1, out_T) else none)
set_option maxHeartbeats 4000000 in
set_option maxRecDepth 100000 in
theorem c_L_level (l : Launch) (hst : l.stackTraces = false) (D : va_G) (cI cJ : ClassId) (aO aP aR aL aD : Nat → Nat) (isLaid_O : Int32) (timesLaid_O : Int32) (timesRefused_O : Int32) (top_P : (Nat → Int32)) (bottom_P : (Nat → Int32)) (reach_R : (Nat → Int64)) (steps_R : (Nat → Int32)) (told_R : (Nat → Int32)) (length_R : Int32) (netOf_L : (Nat → Int32)) (left_L : (Nat → Int32)) (right_L : (Nat → Int32)) (trackOf_L : (Nat → Int32)) (touched_L : (Nat → Int32)) (below_L : (Nat → Int64)) (byLeft_L : (Nat → Int32)) (size_L : Int32) (tracks_L : Int32) (netOf_D : (Nat → Int32)) (left_D : (Nat → Int32)) (right_D : (Nat → Int32)) (trackOf_D : (Nat → Int32)) (touched_D : (Nat → Int32)) (below_D : (Nat → Int64)) (byLeft_D : (Nat → Int32)) (size_D : Int32) (tracks_D : Int32) (aT : Nat → Nat) (out_T : Nat → Int64) (x1 : Int32) (x2 : Int32) (r : Int32) (out_T' : (Nat → Int64)) (h : f_L_level netOf_L left_L right_L trackOf_L size_L tracks_L x1 x2 out_T = some (r, out_T')) : CtH l D cI cJ yL_level cL_level 5 [(0, 10, 13, 13)] 7 112 [.ref (aO 0), .int x1, .int x2, .ref (aT 0)] (wOPRLDT cI cJ aO aP aR aL aD (aL 0) (aD 0) isLaid_O timesLaid_O timesRefused_O top_P bottom_P reach_R steps_R told_R length_R netOf_L left_L right_L trackOf_L touched_L below_L byLeft_L size_L tracks_L netOf_D left_D right_D trackOf_D touched_D below_D byLeft_D size_D tracks_D aT out_T) (wOPRLDT cI cJ aO aP aR aL aD (aL 0) (aD 0) isLaid_O timesLaid_O timesRefused_O top_P bottom_P reach_R steps_R told_R length_R netOf_L left_L right_L trackOf_L touched_L below_L byLeft_L size_L tracks_L netOf_D left_D right_D trackOf_D touched_D below_D byLeft_D size_D tracks_D aT out_T') r := by
  refine mk_h [(0, .ref (aO 0)), (1, .int x1), (2, .int x2), (3, .ref (aT 0))] (by decide) rfl (Nat.le_of_ble_eq_true rfl) rfl (fun p e s m args below meth c A Q C hK htab hk => ?_)
  unfold f_L_level at h
  obtain ⟨o, h1, h⟩ := bind_el h
  refine v_aload_n C 3 dL_level_0 rfl rfl ?_
  refine v_iconst (v := 0) C dL_level_1 (by decide) ?_
  refine v_aload_n C 0 dL_level_2 rfl rfl ?_
  refine v_iload_n C 1 dL_level_3 rfl rfl ?_
  refine v_iload_n C 2 dL_level_4 rfl rfl ?_
  refine v_callX (As := [.int x1, .int x2]) (st := [.int 0, .ref (aT 0)]) (wr := [(aT 0, .inl (cJ, 1, .inr (.inl out_T)))]) C hK.1 [0, 1, 2, 3, 4, 5, 6, 7, 8, 9, 10, 11, 12, 13, 14, 15, 16, 17, 18, 19, 20, 21, 22, 23] [24] (c_X3_level l hst D cI cJ aO aP aR aL aD isLaid_O timesLaid_O timesRefused_O top_P bottom_P reach_R steps_R told_R length_R netOf_L left_L right_L trackOf_L touched_L below_L byLeft_L size_L tracks_L netOf_D left_D right_D trackOf_D touched_D below_D byLeft_D size_D tracks_D x1 x2 o h1) cw_X3_level 0 rfl rfl m2_215 dL_level_5 rfl ⟨Nat.le_of_ble_eq_true rfl, Nat.le_of_ble_eq_true rfl⟩ (Nat.le_of_ble_eq_true rfl) ⟨Nat.le_refl 1, Nat.le_refl 6⟩ rfl rfl rfl rfl (by decide) (fun r_1 w1 hres => ?_) (fun k_1 w2 hres => ?_)
  · rcases o with r_2 | o2
    · dsimp only [Sum.map] at hres
      obtain ⟨rfl, rfl⟩ := Prod.mk.inj (Sum.inl.inj hres)
      dsimp only at h
      refine v_wperm (ws' := (wOPRLDT cI cJ aO aP aR aL aD (aL 0) (aD 0) isLaid_O timesLaid_O timesRefused_O top_P bottom_P reach_R steps_R told_R length_R netOf_L left_L right_L trackOf_L touched_L below_L byLeft_L size_L tracks_L netOf_D left_D right_D trackOf_D touched_D below_D byLeft_D size_D tracks_D aT out_T)) [1, 2, 3, 4, 5, 6, 7, 8, 9, 10, 11, 12, 13, 14, 15, 16, 17, 18, 19, 20, 21, 22, 23, 24, 0] rfl rfl ?_
      refine v_i2l C dL_level_8 ?_
      refine v_last (α := Unit) (g := some ()) (o := ()) C (wOPRLDT cI cJ aO aP aR aL aD (aL 0) (aD 0) isLaid_O timesLaid_O timesRefused_O top_P bottom_P reach_R steps_R told_R length_R netOf_L left_L right_L trackOf_L touched_L below_L byLeft_L size_L tracks_L netOf_D left_D right_D trackOf_D touched_D below_D byLeft_D size_D tracks_D aT (vp_updL out_T (0 : Int32).toNatClampNeg r_2.toInt64)) 24 rfl dL_level_9 rfl rfl (fun _ => ?_)
      refine v_goto (tgt := 17) C dL_level_10 (by decide) ?_
      refine v_iconst (v := 0) C dL_level_17 (by decide) ?_
      cases h
      exact hk _ _ dL_level_18
    · dsimp only [Sum.map] at hres; cases hres
  · rcases o with o2 | k_2
    · dsimp only [Sum.map] at hres; cases hres
    · dsimp only [Sum.map] at hres
      obtain ⟨rfl, rfl⟩ := Prod.mk.inj (Sum.inr.inj hres)
      dsimp only at h
      by_cases e1 : k_2 = 1
      · rw [if_pos e1] at h
        subst e1
        refine ⟨13, ⟨[], ⟨0, 10, 13, 13⟩, [], htab, (fun z hz => by cases hz), by decide, by decide, C.2.2.2.2.1 _ m2_4, va_Nw.use rfl (hK.1.1 _ (List.mem_of_getElem? (i := 0) rfl)), rfl⟩, fun q9 => ?_⟩
        refine v_wperm (ws' := (wOPRLDT cI cJ aO aP aR aL aD (aL 0) (aD 0) isLaid_O timesLaid_O timesRefused_O top_P bottom_P reach_R steps_R told_R length_R netOf_L left_L right_L trackOf_L touched_L below_L byLeft_L size_L tracks_L netOf_D left_D right_D trackOf_D touched_D below_D byLeft_D size_D tracks_D aT out_T)) [1, 2, 3, 4, 5, 6, 7, 8, 9, 10, 11, 12, 13, 14, 15, 16, 17, 18, 19, 20, 21, 22, 23, 24, 0] rfl rfl ?_
        refine v_astore C [(4, .ref q9), (0, .ref (aO 0)), (1, .int x1), (2, .int x2), (3, .ref (aT 0))] dL_level_13 (by decide) rfl ?_
        refine v_iconst (v := 1) C dL_level_15 (by decide) ?_
        cases h
        exact hk _ _ dL_level_16
      · rw [if_neg e1] at h
        cases h
def f_L_upright (isLaid_O : Int32) (top_P : (Nat → Int32)) (bottom_P : (Nat → Int32)) (netOf_L : (Nat → Int32)) (trackOf_L : (Nat → Int32)) (touched_L : (Nat → Int32)) (size_L : Int32) (tracks_L : Int32) (x1 : Int32) (x2 : Int32) (out_T : (Nat → Int64)) : Option (Int32 × (Nat → Int64)) := (f_X3_upright isLaid_O top_P bottom_P netOf_L trackOf_L touched_L size_L tracks_L x1 x2).bind (fun r => match r with | .inl r_1 => some (0, vp_updL out_T (0 : Int32).toNatClampNeg r_1.toInt64) | .inr k_1 => if k_1 = 1 then some (1, out_T) else none)
set_option maxHeartbeats 4000000 in
set_option maxRecDepth 100000 in
theorem c_L_upright (l : Launch) (hst : l.stackTraces = false) (D : va_G) (cI cJ : ClassId) (aO aP aR aL aD : Nat → Nat) (isLaid_O : Int32) (timesLaid_O : Int32) (timesRefused_O : Int32) (top_P : (Nat → Int32)) (bottom_P : (Nat → Int32)) (reach_R : (Nat → Int64)) (steps_R : (Nat → Int32)) (told_R : (Nat → Int32)) (length_R : Int32) (netOf_L : (Nat → Int32)) (left_L : (Nat → Int32)) (right_L : (Nat → Int32)) (trackOf_L : (Nat → Int32)) (touched_L : (Nat → Int32)) (below_L : (Nat → Int64)) (byLeft_L : (Nat → Int32)) (size_L : Int32) (tracks_L : Int32) (netOf_D : (Nat → Int32)) (left_D : (Nat → Int32)) (right_D : (Nat → Int32)) (trackOf_D : (Nat → Int32)) (touched_D : (Nat → Int32)) (below_D : (Nat → Int64)) (byLeft_D : (Nat → Int32)) (size_D : Int32) (tracks_D : Int32) (aT : Nat → Nat) (out_T : Nat → Int64) (x1 : Int32) (x2 : Int32) (r : Int32) (out_T' : (Nat → Int64)) (h : f_L_upright isLaid_O top_P bottom_P netOf_L trackOf_L touched_L size_L tracks_L x1 x2 out_T = some (r, out_T')) : CtH l D cI cJ yL_upright cL_upright 5 [(0, 10, 13, 13)] 7 112 [.ref (aO 0), .int x1, .int x2, .ref (aT 0)] (wOPRLDT cI cJ aO aP aR aL aD (aL 0) (aD 0) isLaid_O timesLaid_O timesRefused_O top_P bottom_P reach_R steps_R told_R length_R netOf_L left_L right_L trackOf_L touched_L below_L byLeft_L size_L tracks_L netOf_D left_D right_D trackOf_D touched_D below_D byLeft_D size_D tracks_D aT out_T) (wOPRLDT cI cJ aO aP aR aL aD (aL 0) (aD 0) isLaid_O timesLaid_O timesRefused_O top_P bottom_P reach_R steps_R told_R length_R netOf_L left_L right_L trackOf_L touched_L below_L byLeft_L size_L tracks_L netOf_D left_D right_D trackOf_D touched_D below_D byLeft_D size_D tracks_D aT out_T') r := by
  refine mk_h [(0, .ref (aO 0)), (1, .int x1), (2, .int x2), (3, .ref (aT 0))] (by decide) rfl (Nat.le_of_ble_eq_true rfl) rfl (fun p e s m args below meth c A Q C hK htab hk => ?_)
  unfold f_L_upright at h
  obtain ⟨o, h1, h⟩ := bind_el h
  refine v_aload_n C 3 dL_upright_0 rfl rfl ?_
  refine v_iconst (v := 0) C dL_upright_1 (by decide) ?_
  refine v_aload_n C 0 dL_upright_2 rfl rfl ?_
  refine v_iload_n C 1 dL_upright_3 rfl rfl ?_
  refine v_iload_n C 2 dL_upright_4 rfl rfl ?_
  refine v_callX (As := [.int x1, .int x2]) (st := [.int 0, .ref (aT 0)]) (wr := [(aT 0, .inl (cJ, 1, .inr (.inl out_T)))]) C hK.1 [0, 1, 2, 3, 4, 5, 6, 7, 8, 9, 10, 11, 12, 13, 14, 15, 16, 17, 18, 19, 20, 21, 22, 23] [24] (c_X3_upright l hst D cI cJ aO aP aR aL aD isLaid_O timesLaid_O timesRefused_O top_P bottom_P reach_R steps_R told_R length_R netOf_L left_L right_L trackOf_L touched_L below_L byLeft_L size_L tracks_L netOf_D left_D right_D trackOf_D touched_D below_D byLeft_D size_D tracks_D x1 x2 o h1) cw_X3_upright 0 rfl rfl m2_228 dL_upright_5 rfl ⟨Nat.le_of_ble_eq_true rfl, Nat.le_of_ble_eq_true rfl⟩ (Nat.le_of_ble_eq_true rfl) ⟨Nat.le_refl 1, Nat.le_refl 6⟩ rfl rfl rfl rfl (by decide) (fun r_1 w1 hres => ?_) (fun k_1 w2 hres => ?_)
  · rcases o with r_2 | o2
    · dsimp only [Sum.map] at hres
      obtain ⟨rfl, rfl⟩ := Prod.mk.inj (Sum.inl.inj hres)
      dsimp only at h
      refine v_wperm (ws' := (wOPRLDT cI cJ aO aP aR aL aD (aL 0) (aD 0) isLaid_O timesLaid_O timesRefused_O top_P bottom_P reach_R steps_R told_R length_R netOf_L left_L right_L trackOf_L touched_L below_L byLeft_L size_L tracks_L netOf_D left_D right_D trackOf_D touched_D below_D byLeft_D size_D tracks_D aT out_T)) [1, 2, 3, 4, 5, 6, 7, 8, 9, 10, 11, 12, 13, 14, 15, 16, 17, 18, 19, 20, 21, 22, 23, 24, 0] rfl rfl ?_
      refine v_i2l C dL_upright_8 ?_
      refine v_last (α := Unit) (g := some ()) (o := ()) C (wOPRLDT cI cJ aO aP aR aL aD (aL 0) (aD 0) isLaid_O timesLaid_O timesRefused_O top_P bottom_P reach_R steps_R told_R length_R netOf_L left_L right_L trackOf_L touched_L below_L byLeft_L size_L tracks_L netOf_D left_D right_D trackOf_D touched_D below_D byLeft_D size_D tracks_D aT (vp_updL out_T (0 : Int32).toNatClampNeg r_2.toInt64)) 24 rfl dL_upright_9 rfl rfl (fun _ => ?_)
      refine v_goto (tgt := 17) C dL_upright_10 (by decide) ?_
      refine v_iconst (v := 0) C dL_upright_17 (by decide) ?_
      cases h
      exact hk _ _ dL_upright_18
    · dsimp only [Sum.map] at hres; cases hres
  · rcases o with o2 | k_2
    · dsimp only [Sum.map] at hres; cases hres
    · dsimp only [Sum.map] at hres
      obtain ⟨rfl, rfl⟩ := Prod.mk.inj (Sum.inr.inj hres)
      dsimp only at h
      by_cases e1 : k_2 = 1
      · rw [if_pos e1] at h
        subst e1
        refine ⟨13, ⟨[], ⟨0, 10, 13, 13⟩, [], htab, (fun z hz => by cases hz), by decide, by decide, C.2.2.2.2.1 _ m2_4, va_Nw.use rfl (hK.1.1 _ (List.mem_of_getElem? (i := 0) rfl)), rfl⟩, fun q9 => ?_⟩
        refine v_wperm (ws' := (wOPRLDT cI cJ aO aP aR aL aD (aL 0) (aD 0) isLaid_O timesLaid_O timesRefused_O top_P bottom_P reach_R steps_R told_R length_R netOf_L left_L right_L trackOf_L touched_L below_L byLeft_L size_L tracks_L netOf_D left_D right_D trackOf_D touched_D below_D byLeft_D size_D tracks_D aT out_T)) [1, 2, 3, 4, 5, 6, 7, 8, 9, 10, 11, 12, 13, 14, 15, 16, 17, 18, 19, 20, 21, 22, 23, 24, 0] rfl rfl ?_
        refine v_astore C [(4, .ref q9), (0, .ref (aO 0)), (1, .int x1), (2, .int x2), (3, .ref (aT 0))] dL_upright_13 (by decide) rfl ?_
        refine v_iconst (v := 1) C dL_upright_15 (by decide) ?_
        cases h
        exact hk _ _ dL_upright_16
      · rw [if_neg e1] at h
        cases h
def f_L_via (top_P : (Nat → Int32)) (bottom_P : (Nat → Int32)) (netOf_L : (Nat → Int32)) (left_L : (Nat → Int32)) (right_L : (Nat → Int32)) (trackOf_L : (Nat → Int32)) (touched_L : (Nat → Int32)) (size_L : Int32) (tracks_L : Int32) (x1 : Int32) (x2 : Int32) (out_T : (Nat → Int64)) : Option (Int32 × (Nat → Int64)) := (f_X3_via top_P bottom_P netOf_L left_L right_L trackOf_L touched_L size_L tracks_L x1 x2).bind (fun r => match r with | .inl r_1 => if r_1 = 0 then some (0, vp_updL out_T (0 : Int32).toNatClampNeg 0) else some (0, vp_updL out_T (0 : Int32).toNatClampNeg 1) | .inr k_1 => if k_1 = 1 then some (1, out_T) else none)
set_option maxHeartbeats 4000000 in
set_option maxRecDepth 100000 in
theorem c_L_via (l : Launch) (hst : l.stackTraces = false) (D : va_G) (cI cJ : ClassId) (aO aP aR aL aD : Nat → Nat) (isLaid_O : Int32) (timesLaid_O : Int32) (timesRefused_O : Int32) (top_P : (Nat → Int32)) (bottom_P : (Nat → Int32)) (reach_R : (Nat → Int64)) (steps_R : (Nat → Int32)) (told_R : (Nat → Int32)) (length_R : Int32) (netOf_L : (Nat → Int32)) (left_L : (Nat → Int32)) (right_L : (Nat → Int32)) (trackOf_L : (Nat → Int32)) (touched_L : (Nat → Int32)) (below_L : (Nat → Int64)) (byLeft_L : (Nat → Int32)) (size_L : Int32) (tracks_L : Int32) (netOf_D : (Nat → Int32)) (left_D : (Nat → Int32)) (right_D : (Nat → Int32)) (trackOf_D : (Nat → Int32)) (touched_D : (Nat → Int32)) (below_D : (Nat → Int64)) (byLeft_D : (Nat → Int32)) (size_D : Int32) (tracks_D : Int32) (aT : Nat → Nat) (out_T : Nat → Int64) (x1 : Int32) (x2 : Int32) (r : Int32) (out_T' : (Nat → Int64)) (h : f_L_via top_P bottom_P netOf_L left_L right_L trackOf_L touched_L size_L tracks_L x1 x2 out_T = some (r, out_T')) : CtH l D cI cJ yL_via cL_via 5 [(0, 17, 20, 13)] 7 116 [.ref (aO 0), .int x1, .int x2, .ref (aT 0)] (wOPRLDT cI cJ aO aP aR aL aD (aL 0) (aD 0) isLaid_O timesLaid_O timesRefused_O top_P bottom_P reach_R steps_R told_R length_R netOf_L left_L right_L trackOf_L touched_L below_L byLeft_L size_L tracks_L netOf_D left_D right_D trackOf_D touched_D below_D byLeft_D size_D tracks_D aT out_T) (wOPRLDT cI cJ aO aP aR aL aD (aL 0) (aD 0) isLaid_O timesLaid_O timesRefused_O top_P bottom_P reach_R steps_R told_R length_R netOf_L left_L right_L trackOf_L touched_L below_L byLeft_L size_L tracks_L netOf_D left_D right_D trackOf_D touched_D below_D byLeft_D size_D tracks_D aT out_T') r := by
  refine mk_h [(0, .ref (aO 0)), (1, .int x1), (2, .int x2), (3, .ref (aT 0))] (by decide) rfl (Nat.le_of_ble_eq_true rfl) rfl (fun p e s m args below meth c A Q C hK htab hk => ?_)
  unfold f_L_via at h
  obtain ⟨o, h1, h⟩ := bind_el h
  refine v_aload_n C 3 dL_via_0 rfl rfl ?_
  refine v_iconst (v := 0) C dL_via_1 (by decide) ?_
  refine v_aload_n C 0 dL_via_2 rfl rfl ?_
  refine v_iload_n C 1 dL_via_3 rfl rfl ?_
  refine v_iload_n C 2 dL_via_4 rfl rfl ?_
  refine v_callX (As := [.int x1, .int x2]) (st := [.int 0, .ref (aT 0)]) (wr := [(aT 0, .inl (cJ, 1, .inr (.inl out_T)))]) C hK.1 [0, 1, 2, 3, 4, 5, 6, 7, 8, 9, 10, 11, 12, 13, 14, 15, 16, 17, 18, 19, 20, 21, 22, 23] [24] (c_X3_via l hst D cI cJ aO aP aR aL aD isLaid_O timesLaid_O timesRefused_O top_P bottom_P reach_R steps_R told_R length_R netOf_L left_L right_L trackOf_L touched_L below_L byLeft_L size_L tracks_L netOf_D left_D right_D trackOf_D touched_D below_D byLeft_D size_D tracks_D x1 x2 o h1) cw_X3_via 0 rfl rfl m3_12 dL_via_5 rfl ⟨Nat.le_of_ble_eq_true rfl, Nat.le_of_ble_eq_true rfl⟩ (Nat.le_of_ble_eq_true rfl) ⟨Nat.le_refl 1, Nat.le_refl 6⟩ rfl rfl rfl rfl (by decide) (fun r_1 w1 hres => ?_) (fun k_1 w2 hres => ?_)
  · rcases o with r_2 | o2
    · dsimp only [Sum.map] at hres
      obtain ⟨rfl, rfl⟩ := Prod.mk.inj (Sum.inl.inj hres)
      dsimp only at h
      refine v_wperm (ws' := (wOPRLDT cI cJ aO aP aR aL aD (aL 0) (aD 0) isLaid_O timesLaid_O timesRefused_O top_P bottom_P reach_R steps_R told_R length_R netOf_L left_L right_L trackOf_L touched_L below_L byLeft_L size_L tracks_L netOf_D left_D right_D trackOf_D touched_D below_D byLeft_D size_D tracks_D aT out_T)) [1, 2, 3, 4, 5, 6, 7, 8, 9, 10, 11, 12, 13, 14, 15, 16, 17, 18, 19, 20, 21, 22, 23, 24, 0] rfl rfl ?_
      refine v_if_eq (tgt := 15) C dL_via_8 (by decide) h (fun h => ?_) (fun h => ?_)
      · refine v_lconst (v := 0) C dL_via_15 (by decide) ?_
        refine v_last (α := Unit) (g := some ()) (o := ()) C (wOPRLDT cI cJ aO aP aR aL aD (aL 0) (aD 0) isLaid_O timesLaid_O timesRefused_O top_P bottom_P reach_R steps_R told_R length_R netOf_L left_L right_L trackOf_L touched_L below_L byLeft_L size_L tracks_L netOf_D left_D right_D trackOf_D touched_D below_D byLeft_D size_D tracks_D aT (vp_updL out_T (0 : Int32).toNatClampNeg 0)) 24 rfl dL_via_16 rfl rfl (fun _ => ?_)
        refine v_goto (tgt := 24) C dL_via_17 (by decide) ?_
        refine v_iconst (v := 0) C dL_via_24 (by decide) ?_
        cases h
        exact hk _ _ dL_via_25
      · refine v_lconst (v := 1) C dL_via_11 (by decide) ?_
        refine v_goto (tgt := 16) C dL_via_12 (by decide) ?_
        refine v_last (α := Unit) (g := some ()) (o := ()) C (wOPRLDT cI cJ aO aP aR aL aD (aL 0) (aD 0) isLaid_O timesLaid_O timesRefused_O top_P bottom_P reach_R steps_R told_R length_R netOf_L left_L right_L trackOf_L touched_L below_L byLeft_L size_L tracks_L netOf_D left_D right_D trackOf_D touched_D below_D byLeft_D size_D tracks_D aT (vp_updL out_T (0 : Int32).toNatClampNeg 1)) 24 rfl dL_via_16 rfl rfl (fun _ => ?_)
        refine v_goto (tgt := 24) C dL_via_17 (by decide) ?_
        refine v_iconst (v := 0) C dL_via_24 (by decide) ?_
        cases h
        exact hk _ _ dL_via_25
    · dsimp only [Sum.map] at hres; cases hres
  · rcases o with o2 | k_2
    · dsimp only [Sum.map] at hres; cases hres
    · dsimp only [Sum.map] at hres
      obtain ⟨rfl, rfl⟩ := Prod.mk.inj (Sum.inr.inj hres)
      dsimp only at h
      by_cases e1 : k_2 = 1
      · rw [if_pos e1] at h
        subst e1
        refine ⟨20, ⟨[], ⟨0, 17, 20, 13⟩, [], htab, (fun z hz => by cases hz), by decide, by decide, C.2.2.2.2.1 _ m2_4, va_Nw.use rfl (hK.1.1 _ (List.mem_of_getElem? (i := 0) rfl)), rfl⟩, fun q9 => ?_⟩
        refine v_wperm (ws' := (wOPRLDT cI cJ aO aP aR aL aD (aL 0) (aD 0) isLaid_O timesLaid_O timesRefused_O top_P bottom_P reach_R steps_R told_R length_R netOf_L left_L right_L trackOf_L touched_L below_L byLeft_L size_L tracks_L netOf_D left_D right_D trackOf_D touched_D below_D byLeft_D size_D tracks_D aT out_T)) [1, 2, 3, 4, 5, 6, 7, 8, 9, 10, 11, 12, 13, 14, 15, 16, 17, 18, 19, 20, 21, 22, 23, 24, 0] rfl rfl ?_
        refine v_astore C [(4, .ref q9), (0, .ref (aO 0)), (1, .int x1), (2, .int x2), (3, .ref (aT 0))] dL_via_20 (by decide) rfl ?_
        refine v_iconst (v := 1) C dL_via_22 (by decide) ?_
        cases h
        exact hk _ _ dL_via_23
      · rw [if_neg e1] at h
        cases h
def f_L_net (top_P : (Nat → Int32)) (bottom_P : (Nat → Int32)) (x1 : Int32) (x2 : Int32) (out_T : (Nat → Int64)) : Option (Int32 × (Nat → Int64)) := (f_X3_net top_P bottom_P x1 x2).bind (fun r => match r with | .inl r_1 => some (0, vp_updL out_T (0 : Int32).toNatClampNeg r_1.toInt64) | .inr k_1 => if k_1 = 1 then some (1, out_T) else none)
set_option maxHeartbeats 4000000 in
set_option maxRecDepth 100000 in
theorem c_L_net (l : Launch) (hst : l.stackTraces = false) (D : va_G) (cI cJ : ClassId) (aO aP aR aL aD : Nat → Nat) (isLaid_O : Int32) (timesLaid_O : Int32) (timesRefused_O : Int32) (top_P : (Nat → Int32)) (bottom_P : (Nat → Int32)) (reach_R : (Nat → Int64)) (steps_R : (Nat → Int32)) (told_R : (Nat → Int32)) (length_R : Int32) (netOf_L : (Nat → Int32)) (left_L : (Nat → Int32)) (right_L : (Nat → Int32)) (trackOf_L : (Nat → Int32)) (touched_L : (Nat → Int32)) (below_L : (Nat → Int64)) (byLeft_L : (Nat → Int32)) (size_L : Int32) (tracks_L : Int32) (netOf_D : (Nat → Int32)) (left_D : (Nat → Int32)) (right_D : (Nat → Int32)) (trackOf_D : (Nat → Int32)) (touched_D : (Nat → Int32)) (below_D : (Nat → Int64)) (byLeft_D : (Nat → Int32)) (size_D : Int32) (tracks_D : Int32) (aT : Nat → Nat) (out_T : Nat → Int64) (x1 : Int32) (x2 : Int32) (r : Int32) (out_T' : (Nat → Int64)) (h : f_L_net top_P bottom_P x1 x2 out_T = some (r, out_T')) : CtH l D cI cJ yL_net cL_net 5 [(0, 10, 13, 13)] 7 112 [.ref (aO 0), .int x1, .int x2, .ref (aT 0)] (wOPRLDT cI cJ aO aP aR aL aD (aL 0) (aD 0) isLaid_O timesLaid_O timesRefused_O top_P bottom_P reach_R steps_R told_R length_R netOf_L left_L right_L trackOf_L touched_L below_L byLeft_L size_L tracks_L netOf_D left_D right_D trackOf_D touched_D below_D byLeft_D size_D tracks_D aT out_T) (wOPRLDT cI cJ aO aP aR aL aD (aL 0) (aD 0) isLaid_O timesLaid_O timesRefused_O top_P bottom_P reach_R steps_R told_R length_R netOf_L left_L right_L trackOf_L touched_L below_L byLeft_L size_L tracks_L netOf_D left_D right_D trackOf_D touched_D below_D byLeft_D size_D tracks_D aT out_T') r := by
  refine mk_h [(0, .ref (aO 0)), (1, .int x1), (2, .int x2), (3, .ref (aT 0))] (by decide) rfl (Nat.le_of_ble_eq_true rfl) rfl (fun p e s m args below meth c A Q C hK htab hk => ?_)
  unfold f_L_net at h
  obtain ⟨o, h1, h⟩ := bind_el h
  refine v_aload_n C 3 dL_net_0 rfl rfl ?_
  refine v_iconst (v := 0) C dL_net_1 (by decide) ?_
  refine v_aload_n C 0 dL_net_2 rfl rfl ?_
  refine v_iload_n C 1 dL_net_3 rfl rfl ?_
  refine v_iload_n C 2 dL_net_4 rfl rfl ?_
  refine v_callX (As := [.int x1, .int x2]) (st := [.int 0, .ref (aT 0)]) (wr := [(aT 0, .inl (cJ, 1, .inr (.inl out_T)))]) C hK.1 [0, 1, 2, 3, 4, 5, 6, 7, 8, 9, 10, 11, 12, 13, 14, 15, 16, 17, 18, 19, 20, 21, 22, 23] [24] (c_X3_net l hst D cI cJ aO aP aR aL aD isLaid_O timesLaid_O timesRefused_O top_P bottom_P reach_R steps_R told_R length_R netOf_L left_L right_L trackOf_L touched_L below_L byLeft_L size_L tracks_L netOf_D left_D right_D trackOf_D touched_D below_D byLeft_D size_D tracks_D x1 x2 o h1) cw_X3_net 0 rfl rfl m3_27 dL_net_5 rfl ⟨Nat.le_of_ble_eq_true rfl, Nat.le_of_ble_eq_true rfl⟩ (Nat.le_of_ble_eq_true rfl) ⟨Nat.le_refl 1, Nat.le_refl 6⟩ rfl rfl rfl rfl (by decide) (fun r_1 w1 hres => ?_) (fun k_1 w2 hres => ?_)
  · rcases o with r_2 | o2
    · dsimp only [Sum.map] at hres
      obtain ⟨rfl, rfl⟩ := Prod.mk.inj (Sum.inl.inj hres)
      dsimp only at h
      refine v_wperm (ws' := (wOPRLDT cI cJ aO aP aR aL aD (aL 0) (aD 0) isLaid_O timesLaid_O timesRefused_O top_P bottom_P reach_R steps_R told_R length_R netOf_L left_L right_L trackOf_L touched_L below_L byLeft_L size_L tracks_L netOf_D left_D right_D trackOf_D touched_D below_D byLeft_D size_D tracks_D aT out_T)) [1, 2, 3, 4, 5, 6, 7, 8, 9, 10, 11, 12, 13, 14, 15, 16, 17, 18, 19, 20, 21, 22, 23, 24, 0] rfl rfl ?_
      refine v_i2l C dL_net_8 ?_
      refine v_last (α := Unit) (g := some ()) (o := ()) C (wOPRLDT cI cJ aO aP aR aL aD (aL 0) (aD 0) isLaid_O timesLaid_O timesRefused_O top_P bottom_P reach_R steps_R told_R length_R netOf_L left_L right_L trackOf_L touched_L below_L byLeft_L size_L tracks_L netOf_D left_D right_D trackOf_D touched_D below_D byLeft_D size_D tracks_D aT (vp_updL out_T (0 : Int32).toNatClampNeg r_2.toInt64)) 24 rfl dL_net_9 rfl rfl (fun _ => ?_)
      refine v_goto (tgt := 17) C dL_net_10 (by decide) ?_
      refine v_iconst (v := 0) C dL_net_17 (by decide) ?_
      cases h
      exact hk _ _ dL_net_18
    · dsimp only [Sum.map] at hres; cases hres
  · rcases o with o2 | k_2
    · dsimp only [Sum.map] at hres; cases hres
    · dsimp only [Sum.map] at hres
      obtain ⟨rfl, rfl⟩ := Prod.mk.inj (Sum.inr.inj hres)
      dsimp only at h
      by_cases e1 : k_2 = 1
      · rw [if_pos e1] at h
        subst e1
        refine ⟨13, ⟨[], ⟨0, 10, 13, 13⟩, [], htab, (fun z hz => by cases hz), by decide, by decide, C.2.2.2.2.1 _ m2_4, va_Nw.use rfl (hK.1.1 _ (List.mem_of_getElem? (i := 0) rfl)), rfl⟩, fun q9 => ?_⟩
        refine v_wperm (ws' := (wOPRLDT cI cJ aO aP aR aL aD (aL 0) (aD 0) isLaid_O timesLaid_O timesRefused_O top_P bottom_P reach_R steps_R told_R length_R netOf_L left_L right_L trackOf_L touched_L below_L byLeft_L size_L tracks_L netOf_D left_D right_D trackOf_D touched_D below_D byLeft_D size_D tracks_D aT out_T)) [1, 2, 3, 4, 5, 6, 7, 8, 9, 10, 11, 12, 13, 14, 15, 16, 17, 18, 19, 20, 21, 22, 23, 24, 0] rfl rfl ?_
        refine v_astore C [(4, .ref q9), (0, .ref (aO 0)), (1, .int x1), (2, .int x2), (3, .ref (aT 0))] dL_net_13 (by decide) rfl ?_
        refine v_iconst (v := 1) C dL_net_15 (by decide) ?_
        cases h
        exact hk _ _ dL_net_16
      · rw [if_neg e1] at h
        cases h
def f_L_count (isLaid_O : Int32) (timesLaid_O : Int32) (timesRefused_O : Int32) (top_P : (Nat → Int32)) (bottom_P : (Nat → Int32)) (netOf_L : (Nat → Int32)) (left_L : (Nat → Int32)) (right_L : (Nat → Int32)) (trackOf_L : (Nat → Int32)) (touched_L : (Nat → Int32)) (size_L : Int32) (tracks_L : Int32) (x1 : Int32) (out_T : (Nat → Int64)) : Option (Int32 × (Nat → Int64)) := (f_X3_count isLaid_O timesLaid_O timesRefused_O top_P bottom_P netOf_L left_L right_L trackOf_L touched_L size_L tracks_L x1).bind (fun r => match r with | .inl r_1 => some (0, vp_updL out_T (0 : Int32).toNatClampNeg r_1.toInt64) | .inr k_1 => if k_1 = 1 then some (1, out_T) else none)
set_option maxHeartbeats 4000000 in
set_option maxRecDepth 100000 in
theorem c_L_count (l : Launch) (hst : l.stackTraces = false) (D : va_G) (cI cJ : ClassId) (aO aP aR aL aD : Nat → Nat) (isLaid_O : Int32) (timesLaid_O : Int32) (timesRefused_O : Int32) (top_P : (Nat → Int32)) (bottom_P : (Nat → Int32)) (reach_R : (Nat → Int64)) (steps_R : (Nat → Int32)) (told_R : (Nat → Int32)) (length_R : Int32) (netOf_L : (Nat → Int32)) (left_L : (Nat → Int32)) (right_L : (Nat → Int32)) (trackOf_L : (Nat → Int32)) (touched_L : (Nat → Int32)) (below_L : (Nat → Int64)) (byLeft_L : (Nat → Int32)) (size_L : Int32) (tracks_L : Int32) (netOf_D : (Nat → Int32)) (left_D : (Nat → Int32)) (right_D : (Nat → Int32)) (trackOf_D : (Nat → Int32)) (touched_D : (Nat → Int32)) (below_D : (Nat → Int64)) (byLeft_D : (Nat → Int32)) (size_D : Int32) (tracks_D : Int32) (aT : Nat → Nat) (out_T : Nat → Int64) (x1 : Int32) (r : Int32) (out_T' : (Nat → Int64)) (h : f_L_count isLaid_O timesLaid_O timesRefused_O top_P bottom_P netOf_L left_L right_L trackOf_L touched_L size_L tracks_L x1 out_T = some (r, out_T')) : CtH l D cI cJ yL_count cL_count 4 [(0, 9, 12, 13)] 7 138 [.ref (aO 0), .int x1, .ref (aT 0)] (wOPRLDT cI cJ aO aP aR aL aD (aL 0) (aD 0) isLaid_O timesLaid_O timesRefused_O top_P bottom_P reach_R steps_R told_R length_R netOf_L left_L right_L trackOf_L touched_L below_L byLeft_L size_L tracks_L netOf_D left_D right_D trackOf_D touched_D below_D byLeft_D size_D tracks_D aT out_T) (wOPRLDT cI cJ aO aP aR aL aD (aL 0) (aD 0) isLaid_O timesLaid_O timesRefused_O top_P bottom_P reach_R steps_R told_R length_R netOf_L left_L right_L trackOf_L touched_L below_L byLeft_L size_L tracks_L netOf_D left_D right_D trackOf_D touched_D below_D byLeft_D size_D tracks_D aT out_T') r := by
  refine mk_h [(0, .ref (aO 0)), (1, .int x1), (2, .ref (aT 0))] (by decide) rfl (Nat.le_of_ble_eq_true rfl) rfl (fun p e s m args below meth c A Q C hK htab hk => ?_)
  unfold f_L_count at h
  obtain ⟨o, h1, h⟩ := bind_el h
  refine v_aload_n C 2 dL_count_0 rfl rfl ?_
  refine v_iconst (v := 0) C dL_count_1 (by decide) ?_
  refine v_aload_n C 0 dL_count_2 rfl rfl ?_
  refine v_iload_n C 1 dL_count_3 rfl rfl ?_
  refine v_callX (As := [.int x1]) (st := [.int 0, .ref (aT 0)]) (wr := [(aT 0, .inl (cJ, 1, .inr (.inl out_T)))]) C hK.1 [0, 1, 2, 3, 4, 5, 6, 7, 8, 9, 10, 11, 12, 13, 14, 15, 16, 17, 18, 19, 20, 21, 22, 23] [24] (c_X3_count l hst D cI cJ aO aP aR aL aD isLaid_O timesLaid_O timesRefused_O top_P bottom_P reach_R steps_R told_R length_R netOf_L left_L right_L trackOf_L touched_L below_L byLeft_L size_L tracks_L netOf_D left_D right_D trackOf_D touched_D below_D byLeft_D size_D tracks_D x1 o h1) cw_X3_count 0 rfl rfl m3_39 dL_count_4 rfl ⟨Nat.le_of_ble_eq_true rfl, Nat.le_of_ble_eq_true rfl⟩ (Nat.le_of_ble_eq_true rfl) ⟨Nat.le_refl 1, Nat.le_refl 6⟩ rfl rfl rfl rfl (by decide) (fun r_1 w1 hres => ?_) (fun k_1 w2 hres => ?_)
  · rcases o with r_2 | o2
    · dsimp only [Sum.map] at hres
      obtain ⟨rfl, rfl⟩ := Prod.mk.inj (Sum.inl.inj hres)
      dsimp only at h
      refine v_wperm (ws' := (wOPRLDT cI cJ aO aP aR aL aD (aL 0) (aD 0) isLaid_O timesLaid_O timesRefused_O top_P bottom_P reach_R steps_R told_R length_R netOf_L left_L right_L trackOf_L touched_L below_L byLeft_L size_L tracks_L netOf_D left_D right_D trackOf_D touched_D below_D byLeft_D size_D tracks_D aT out_T)) [1, 2, 3, 4, 5, 6, 7, 8, 9, 10, 11, 12, 13, 14, 15, 16, 17, 18, 19, 20, 21, 22, 23, 24, 0] rfl rfl ?_
      refine v_i2l C dL_count_7 ?_
      refine v_last (α := Unit) (g := some ()) (o := ()) C (wOPRLDT cI cJ aO aP aR aL aD (aL 0) (aD 0) isLaid_O timesLaid_O timesRefused_O top_P bottom_P reach_R steps_R told_R length_R netOf_L left_L right_L trackOf_L touched_L below_L byLeft_L size_L tracks_L netOf_D left_D right_D trackOf_D touched_D below_D byLeft_D size_D tracks_D aT (vp_updL out_T (0 : Int32).toNatClampNeg r_2.toInt64)) 24 rfl dL_count_8 rfl rfl (fun _ => ?_)
      refine v_goto (tgt := 15) C dL_count_9 (by decide) ?_
      refine v_iconst (v := 0) C dL_count_15 (by decide) ?_
      cases h
      exact hk _ _ dL_count_16
    · dsimp only [Sum.map] at hres; cases hres
  · rcases o with o2 | k_2
    · dsimp only [Sum.map] at hres; cases hres
    · dsimp only [Sum.map] at hres
      obtain ⟨rfl, rfl⟩ := Prod.mk.inj (Sum.inr.inj hres)
      dsimp only at h
      by_cases e1 : k_2 = 1
      · rw [if_pos e1] at h
        subst e1
        refine ⟨12, ⟨[], ⟨0, 9, 12, 13⟩, [], htab, (fun z hz => by cases hz), by decide, by decide, C.2.2.2.2.1 _ m2_4, va_Nw.use rfl (hK.1.1 _ (List.mem_of_getElem? (i := 0) rfl)), rfl⟩, fun q9 => ?_⟩
        refine v_wperm (ws' := (wOPRLDT cI cJ aO aP aR aL aD (aL 0) (aD 0) isLaid_O timesLaid_O timesRefused_O top_P bottom_P reach_R steps_R told_R length_R netOf_L left_L right_L trackOf_L touched_L below_L byLeft_L size_L tracks_L netOf_D left_D right_D trackOf_D touched_D below_D byLeft_D size_D tracks_D aT out_T)) [1, 2, 3, 4, 5, 6, 7, 8, 9, 10, 11, 12, 13, 14, 15, 16, 17, 18, 19, 20, 21, 22, 23, 24, 0] rfl rfl ?_
        refine v_astore_n C [(3, .ref q9), (0, .ref (aO 0)), (1, .int x1), (2, .ref (aT 0))] dL_count_12 rfl (by decide) rfl ?_
        refine v_iconst (v := 1) C dL_count_13 (by decide) ?_
        cases h
        exact hk _ _ dL_count_14
      · rw [if_neg e1] at h
        cases h

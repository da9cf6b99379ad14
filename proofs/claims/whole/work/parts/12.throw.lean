def XN : Nat → String
  | 1 => "java/lang/IndexOutOfBoundsException"
  | 2 => "java/lang/IllegalArgumentException"
  | _ => "java/lang/IllegalStateException"
def CSL : List Cond := [.castable "java/lang/IndexOutOfBoundsException" "java/lang/IndexOutOfBoundsException", .castable "java/lang/IllegalArgumentException" "java/lang/IllegalArgumentException", .castable "java/lang/IllegalStateException" "java/lang/IllegalStateException", .declares ⟨"java/lang/RuntimeException", "<init>", "(Ljava/lang/String;)V"⟩, .declares ⟨"java/lang/Exception", "<init>", "(Ljava/lang/String;)V"⟩, .declares ⟨"java/lang/Throwable", "<init>", "(Ljava/lang/String;)V"⟩]
theorem csl_ot : ∀ w ∈ CSL, w.onTables = true := by decide
theorem csl_tbl : ∀ w ∈ CSL, w ∈ lw_tbl := by
  intro w hw
  have h : ∀ v ∈ CSL, v ∈ tables_1 := by decide +kernel
  exact List.mem_append_right _ (h w hw)
theorem csl_warm {s U : State} (hW : s.vm.Alike U.vm) : ∀ w ∈ CSL, va_Nw w s → va_Nw w U := by
  intro w hw h
  have hk : ∀ v ∈ CSL, (match v with | .castable .. => true | .declares .. => true | _ => false) = true := by decide
  have h1 := hk w hw
  match w, h1, h with
  | .castable a b, _, h => exact va_tabs rfl (rfl : (s.setVm U.vm).vm = U.vm) (A := #[]) (by rw [Cond.castable_setVm hW]; exact h)
  | .declares x, _, h => exact va_tabs rfl (rfl : (s.setVm U.vm).vm = U.vm) (A := #[]) (by rw [Cond.declares_setVm hW]; exact h)
def exN : List String := ["java/lang/RuntimeException", "java/lang/Exception"]
def SRL : List (Nat × String) := [(50, "no such column"), (60, "no such net"), (74, "some net is single"), (85, "there is a ring"), (94, "there is a ring with cutting, too"), (103, "no such segment"), (118, "no such what"), (123, "no such track or column"), (129, "no such column or row, or nothing is laid")]
theorem sr_50 : ((50, "no such column") : Nat × String) ∈ SRL := List.mem_of_getElem? (i := 0) rfl
theorem sr_60 : ((60, "no such net") : Nat × String) ∈ SRL := List.mem_of_getElem? (i := 1) rfl
theorem sr_74 : ((74, "some net is single") : Nat × String) ∈ SRL := List.mem_of_getElem? (i := 2) rfl
theorem sr_85 : ((85, "there is a ring") : Nat × String) ∈ SRL := List.mem_of_getElem? (i := 3) rfl
theorem sr_94 : ((94, "there is a ring with cutting, too") : Nat × String) ∈ SRL := List.mem_of_getElem? (i := 4) rfl
theorem sr_103 : ((103, "no such segment") : Nat × String) ∈ SRL := List.mem_of_getElem? (i := 5) rfl
theorem sr_118 : ((118, "no such what") : Nat × String) ∈ SRL := List.mem_of_getElem? (i := 6) rfl
theorem sr_123 : ((123, "no such track or column") : Nat × String) ∈ SRL := List.mem_of_getElem? (i := 7) rfl
theorem sr_129 : ((129, "no such column or row, or nothing is laid") : Nat × String) ∈ SRL := List.mem_of_getElem? (i := 8) rfl
def KX (A : Nat → Prop) (U : State) : Prop := (∀ w ∈ CSL, va_Nw w U) ∧ (∀ q ∈ SRL, ∃ sa, vk_R RX3 q.1 q.2 sa U) ∧ vx_Zq Bundle.tN "UNASSIGNED_STACK" Bundle.steD A U U.heap ∧ vx_Zq Bundle.tN "SUPPRESSED_SENTINEL" Bundle.listD A U U.heap
theorem KX.same {A : Nat → Prop} {u U : State} (hv : u.vm = U.vm) (hh : U.heap = u.heap) (h : KX A u) : KX A U := by
  have hal : u.vm.Alike U.vm := by rw [hv]; exact Vm.Alike.refl U.vm
  refine ⟨fun w hw => va_Nw.same (csl_ot w hw) hv (h.1 w hw), fun q hq => ?_, by rw [hh]; exact vx_Zq.moved hal h.2.2.1, by rw [hh]; exact vx_Zq.moved hal h.2.2.2⟩
  obtain ⟨sa, h1⟩ := h.2.1 q hq
  exact ⟨sa, h1.same hv.symm⟩
theorem KX.go {A B : Nat → Prop} {s U : State} {H : Heap} {locs : List Loc} (hW : s.WarmedH U.vm) (hS : va_S A s.heap H locs) (hU : U.heap = H) (hB : ∀ q, B q → A q) (h : KX A s) : KX B U := by
  refine ⟨fun w hw => csl_warm hW.alike w hw (h.1 w hw), fun q hq => ?_, by rw [hU]; exact vx_Zq.moved hW.alike ((h.2.2.1.kept hS.2.1).narrow hB), by rw [hU]; exact vx_Zq.moved hW.alike ((h.2.2.2.kept hS.2.1).narrow hB)⟩
  obtain ⟨sa, h1⟩ := h.2.1 q hq
  exact ⟨sa, h1.warm hW⟩
def PreX (D : va_G) (cI cJ : ClassId) (av : List Value) (sz : Nat) (ws : va_W) : Array Value → State → Prop := va_Pc av (fun U => U.heap.size = sz ∧ va_P D vwCl ws U.heap ∧ KK D cI cJ U ∧ va_D (fun _ => True) ws ∧ KX (va_A ws sz) U)
theorem PreX.blind {D : va_G} {cI cJ : ClassId} {av : List Value} {sz : Nat} {ws : va_W} : FrameBlind (PreX D cI cJ av sz ws) := fun a U g mk q => ⟨q.1, q.2.1, q.2.2.1, KK.same (u := U) (U := U.calling g mk a) rfl q.2.2.2.1, q.2.2.2.2.1, KX.same (u := U) (U := U.calling g mk a) rfl rfl q.2.2.2.2.2⟩
abbrev rmX (f n : Nat) : Room := { frames := f, cells := 1, slots := 6, locals := n }
def CtX (l : Launch) (D : va_G) (cI cJ : ClassId) (y : MethodName) (bytes : ByteArray) (maxL : Nat) (ret : Option FieldType) (f n : Nat) (av : List Value) (wc : va_W) (res : (Int32 × va_W) ⊕ (Nat × va_W)) : Prop := ∀ sz : Nat, vx_Met l y (Cond.code y bytes maxL ret :: TB) (rmX f n) (PreX D cI cJ av sz wc) (va_Qi (fun (r : Int32) (w : va_W) => res = .inl (r, w)) (fun w t => Wd D (va_A wc sz) w () t) (va_A wc sz)) (vx_X (fun q : Nat × va_W => res = .inr q) (fun E q t => E = XN q.1 ∧ Wd D (va_A wc sz) q.2 () t) (va_A wc sz)) 1 6 (va_A wc sz)
def AT (own : String) (ic k : Nat) : Prop := (∀ w ∈ (vx_atS own ic (XN k) exN).filter goodWord, w ∈ TB) ∧ (∀ w ∈ (vx_atS own ic (XN k) exN).filter (fun w => !goodWord w), w ∈ CSL) ∧ (∀ w ∈ vx_atS own ic (XN k) exN, vx_ot w = true) ∧ Bundle.fit (XN k) = true
def TH (own : String) (bytes : ByteArray) (pc k ik is ic : Nat) (tx : String) : Prop := decode bytes pc = .ok (.new ik, 3) ∧ decode bytes (pc + 3) = .ok (.dup, 1) ∧ decode bytes (pc + 4) = .ok (.ldc is, 2) ∧ decode bytes (pc + 6) = .ok (.invokespecial ic, 3) ∧ decode bytes (pc + 9) = .ok (.athrow, 1) ∧ Cond.classLink own ik (XN k) ∈ TB ∧ Cond.initialized (XN k) ∈ TB ∧ (is, tx) ∈ SRL ∧ AT own ic k
theorem at_52 : AT RX3 52 1 := ⟨by decide +kernel, by decide +kernel, by decide +kernel, by decide +kernel⟩
theorem at_62 : AT RX3 62 2 := ⟨by decide +kernel, by decide +kernel, by decide +kernel, by decide +kernel⟩
theorem at_87 : AT RX3 87 3 := ⟨by decide +kernel, by decide +kernel, by decide +kernel, by decide +kernel⟩
theorem exN_fit : ∀ n ∈ exN, Bundle.fit n = true := by decide +kernel
theorem v_wperm {p : Program} {l : Launch} {e : Env} {R : Room} {s : State} {m : MethodId} {args : Array Value} {below : List Frame} {meth : Method} {c : Code} {nL : Nat} {D : va_G} {A : Nat → Prop} {cells slots : Nat} {Q : State → Prop} {pc : Nat} {lv : List (Nat × Value)} {st : List Value} {ws ws' : va_W} (pm : List Nat) (h1 : pm.map (fun i => ws[i]?) = ws'.map some) (h2 : va_nd pm = true) (k : V p l e R s m args below meth c nL D A cells slots Q pc lv st ws') : V p l e R s m args below meth c nL D A cells slots Q pc lv st ws := fun H locs ls hl hP hD hS => k H locs ls hl (P_map hP pm h1) (hD.sub pm h2 h1) hS
theorem mk_x {l : Launch} {D : va_G} {cI cJ : ClassId} {y : MethodName} {bytes : ByteArray} {maxL f n : Nat} {av : List Value} {wc : va_W} {res : (Int32 × va_W) ⊕ (Nat × va_W)} (lv0 : List (Nat × Value)) (hst : l.stackTraces = false) (hy : plainName y.cls = true) (ho : y.cls = RX3) (ha : (lg_sl av).length ≤ maxL) (hlv : lv_args 0 av = lv0) (hf : 6 ≤ f) (hn : 90 ≤ n)
    (body : ∀ (p : Program) (e : Env) (s : State) (m : MethodId) (args : Array Value) (below : List Frame) (meth : Method) (c : Code) (A : Nat → Prop) (Q : State → Prop), Cx p s m args c bytes maxL RX3 D A cI cJ → (∀ (pc : Nat) (lv : List (Nat × Value)) (r : Int32) (w1 : va_W), res = .inl (r, w1) → decode bytes pc = .ok (.ireturn, 1) → V p l e (rmX f n) s m args below meth c maxL D A 0 0 Q pc lv [.int r] w1) → (∀ (pc : Nat) (lv : List (Nat × Value)) (k ik is ic : Nat) (tx : String) (w2 : va_W), res = .inr (k, w2) → TH RX3 bytes pc k ik is ic tx → V p l e (rmX f n) s m args below meth c maxL D A 0 0 Q pc lv [] w2) → V p l e (rmX f n) s m args below meth c maxL D A 0 0 Q 0 lv0 [] wc) : CtX l D cI cJ y bytes maxL (some .int) f n av wc res := by
  intro sz
  refine vx_ofW (cc := bytes) (maxL := maxL) (ret := (some .int)) hy rfl ?_
  intro p e s m args below meth c s₁ B hml htab hv
  obtain ⟨rfl, hsz, hP, hK, hD0, hKX⟩ := hv
  subst hsz
  have hts := atoms_spec (ws := Cond.code y bytes maxL (some .int) :: TB) B.pre
  have hlocks := B.notSynchronized
  have hD := hD0.self (sz := s.heap.size)
  have hown : s.vm.findClass RX3 = some m.cls := by rw [← ho]; exact findClass_of_methodNamed B.named
  have C : Cx p s m av.toArray c bytes maxL RX3 D (va_A wc s.heap.size) cI cJ := ⟨B.exec, B.bytes, hml, hown, fun w h => hts w (List.mem_cons_of_mem _ h), hK, fun q h => Or.inr h⟩
  have hl := lv_entry av (n := maxL) ha
  rw [lg_entry_eq]
  rw [hlv] at hl
  refine body p e s m _ below meth c _ _ C (fun pc lv r w1 hres hd H locs ls hl hP hD hS => vx_ret (W.widen (k := 1) (n := 6) (Nat.zero_le _) (Nat.zero_le _) (W.iret C.1 C.2.1 B.returns (fun t ht hW => ⟨⟨r, w1, rfl, hres, by rw [ht]; exact hP, hD⟩, hS.F ht⟩) hS.2.2 hd))) (fun pc lv k ik is ic tx w2 hres hth H locs ls hl hP hD hS => ?_) s.heap [] _ hl hP hD va_S.rf
  obtain ⟨d0, d3, d4, d6, d9, hlk, hini, hsr, hat⟩ := hth
  obtain ⟨sa, hsa⟩ := hKX.2.1 _ hsr
  exact vx_throwS (names := exN) C.1 C.2.1 hst hown hat.2.2.2 exN_fit (C.2.2.2.2.1 _ hlk) (C.2.2.2.2.1 _ hini) hsa (vx_hat (B := CSL) (fun w hw => C.2.2.2.2.1 _ (hat.1 w hw)) hat.2.1 (fun w hw => va_Nw.use (csl_ot w hw) (hKX.1 w hw))) (fun w hw => by
      rcases List.mem_cons.mp hw with h | h
      · rw [h]; rfl
      · rcases List.mem_cons.mp h with h | h
        · rw [h]; rfl
        · exact hat.2.2.1 w h) hKX.2.2.1 hKX.2.2.2 hS (hl.1.trans C.2.2.1.symm) d0 d3 d4 d6 d9 (fun x hx => (htab x hx).elim) (show 2 + 3 < f by omega) (show 0 + (13 * 3 + 43) ≤ n by omega) (Nat.le_refl 1) (Nat.le_refl 6) hlocks (fun t hA hz hk => ⟨(k, w2), hres, ⟨rfl, hP.kept (fun j q hj => hk q.1 (hP j q hj).lt), hD⟩, ⟨Nat.le_trans hS.1 hz, fun q h1 h2 => (hk q (Nat.lt_of_lt_of_le h1 hS.1)).trans (hS.2.1 q h1 h2)⟩⟩) hS.2.2 (Nat.le_refl 1) (Nat.le_refl 6)
theorem mk_xz {l : Launch} {D : va_G} {cI cJ : ClassId} {y : MethodName} {bytes : ByteArray} {maxL f n : Nat} {av : List Value} {wc : va_W} {res : (Int32 × va_W) ⊕ (Nat × va_W)} (lv0 : List (Nat × Value)) (hst : l.stackTraces = false) (hy : plainName y.cls = true) (ho : y.cls = RX3) (ha : (lg_sl av).length ≤ maxL) (hlv : lv_args 0 av = lv0) (hf : 6 ≤ f) (hn : 90 ≤ n)
    (body : ∀ (p : Program) (e : Env) (s : State) (m : MethodId) (args : Array Value) (below : List Frame) (meth : Method) (c : Code) (A : Nat → Prop) (Q : State → Prop), Cx p s m args c bytes maxL RX3 D A cI cJ → (∀ (pc : Nat) (lv : List (Nat × Value)) (r : Int32) (w1 : va_W), res = .inl (r, w1) → decode bytes pc = .ok (.ireturn, 1) → (r = 0 ∨ r = 1) → V p l e (rmX f n) s m args below meth c maxL D A 0 0 Q pc lv [.int r] w1) → (∀ (pc : Nat) (lv : List (Nat × Value)) (k ik is ic : Nat) (tx : String) (w2 : va_W), res = .inr (k, w2) → TH RX3 bytes pc k ik is ic tx → V p l e (rmX f n) s m args below meth c maxL D A 0 0 Q pc lv [] w2) → V p l e (rmX f n) s m args below meth c maxL D A 0 0 Q 0 lv0 [] wc) : CtX l D cI cJ y bytes maxL (some .boolean) f n av wc res := by
  intro sz
  refine vx_ofW (cc := bytes) (maxL := maxL) (ret := (some .boolean)) hy rfl ?_
  intro p e s m args below meth c s₁ B hml htab hv
  obtain ⟨rfl, hsz, hP, hK, hD0, hKX⟩ := hv
  subst hsz
  have hts := atoms_spec (ws := Cond.code y bytes maxL (some .boolean) :: TB) B.pre
  have hlocks := B.notSynchronized
  have hD := hD0.self (sz := s.heap.size)
  have hown : s.vm.findClass RX3 = some m.cls := by rw [← ho]; exact findClass_of_methodNamed B.named
  have C : Cx p s m av.toArray c bytes maxL RX3 D (va_A wc s.heap.size) cI cJ := ⟨B.exec, B.bytes, hml, hown, fun w h => hts w (List.mem_cons_of_mem _ h), hK, fun q h => Or.inr h⟩
  have hl := lv_entry av (n := maxL) ha
  rw [lg_entry_eq]
  rw [hlv] at hl
  refine body p e s m _ below meth c _ _ C (fun pc lv r w1 hres hd hz H locs ls hl hP hD hS => vx_ret (W.widen (k := 1) (n := 6) (Nat.zero_le _) (Nat.zero_le _) (W.zret C.1 C.2.1 B.returns (show narrow .boolean (.int r) = .int r from by rcases hz with h | h <;> rw [h] <;> rfl) (fun t ht hW => ⟨⟨r, w1, rfl, hres, by rw [ht]; exact hP, hD⟩, hS.F ht⟩) hS.2.2 hd))) (fun pc lv k ik is ic tx w2 hres hth H locs ls hl hP hD hS => ?_) s.heap [] _ hl hP hD va_S.rf
  obtain ⟨d0, d3, d4, d6, d9, hlk, hini, hsr, hat⟩ := hth
  obtain ⟨sa, hsa⟩ := hKX.2.1 _ hsr
  exact vx_throwS (names := exN) C.1 C.2.1 hst hown hat.2.2.2 exN_fit (C.2.2.2.2.1 _ hlk) (C.2.2.2.2.1 _ hini) hsa (vx_hat (B := CSL) (fun w hw => C.2.2.2.2.1 _ (hat.1 w hw)) hat.2.1 (fun w hw => va_Nw.use (csl_ot w hw) (hKX.1 w hw))) (fun w hw => by
      rcases List.mem_cons.mp hw with h | h
      · rw [h]; rfl
      · rcases List.mem_cons.mp h with h | h
        · rw [h]; rfl
        · exact hat.2.2.1 w h) hKX.2.2.1 hKX.2.2.2 hS (hl.1.trans C.2.2.1.symm) d0 d3 d4 d6 d9 (fun x hx => (htab x hx).elim) (show 2 + 3 < f by omega) (show 0 + (13 * 3 + 43) ≤ n by omega) (Nat.le_refl 1) (Nat.le_refl 6) hlocks (fun t hA hz hk => ⟨(k, w2), hres, ⟨rfl, hP.kept (fun j q hj => hk q.1 (hP j q hj).lt), hD⟩, ⟨Nat.le_trans hS.1 hz, fun q h1 h2 => (hk q (Nat.lt_of_lt_of_le h1 hS.1)).trans (hS.2.1 q h1 h2)⟩⟩) hS.2.2 (Nat.le_refl 1) (Nat.le_refl 6)

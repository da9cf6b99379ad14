/-- a boolean answer looked at -/
def zbl {α : Type} (x : Int32) (k : Option α) : Option α := if x = 0 ∨ x = 1 then k else none
theorem zbl_el {α : Type} {x : Int32} {k : Option α} {o : α} (h : zbl x k = some o) : (x = 0 ∨ x = 1) ∧ k = some o := by
  unfold zbl at h
  by_cases c : x = 0 ∨ x = 1
  · rw [if_pos c] at h; exact ⟨c, h⟩
  · rw [if_neg c] at h; cases h
/-- a float that is a number -/
def fnn {α : Type} (x : UInt32) (k : Option α) : Option α := if x &&& 0x7fffffff ≤ 0x7f800000 then k else none
theorem fnn_el {α : Type} {x : UInt32} {k : Option α} {o : α} (h : fnn x k = some o) : vf_n32 x ∧ k = some o := by
  unfold fnn at h
  by_cases c : x &&& 0x7fffffff ≤ 0x7f800000
  · rw [if_pos c] at h; exact ⟨c, h⟩
  · rw [if_neg c] at h; cases h
section
variable {p : Program} {l : Launch} {e : Env} {R : Room} {s : State} {m : MethodId} {args : Array Value} {below : List Frame} {meth : Method} {c : Code} {cc : ByteArray} {nL : Nat} {own : String} {D : va_G} {A : Nat → Prop} {cI cJ : ClassId} {cells slots : Nat} {Q : State → Prop} {pc : Nat} {lv : List (Nat × Value)} {st : List Value} {ws : va_W}
theorem v_copyl (C : Cx p s m args c cc nL own D A cI cJ) {idx a0 a1 : Nat} {f g : Nat → Int64} (ws' : va_W) (q0 q1 : Nat) (hlk : Cond.methodLink own idx arraycopyName ∈ TB) (hd : decode cc pc = .ok (.invokestatic idx, 3)) (hfr : 1 ≤ R.frames) (hlo : (st.map fun v => v.category).sum + (nativeFrameWords "java/lang/System" "arraycopy" 5 + 11) ≤ R.locals) (h0 : ws[q0]? = some (a0, .inl (cJ, 38, .inr (.inl f)))) (h1 : ws[q1]? = some (a1, .inl (cJ, 38, .inr (.inl g)))) (hw : ws.set q1 (a1, .inl (cJ, 38, .inr (.inl (va_cpy f g 0 0 38)))) = ws')
    (k : V p l e R s m args below meth c nL D A cells slots Q (pc + 3) lv st ws') : V p l e R s m args below meth c nL D A cells slots Q pc lv (.int 38 :: .int 0 :: .ref a1 :: .int 0 :: .ref a0 :: st) ws := fun H locs ls hl hP hD hS => by
  refine va_copyl C.1 C.2.1 (C.2.2.1.trans hl.1.symm) C.2.2.2.1 (C.2.2.2.2.1 _ hlk) (C.2.2.2.2.1 _ m2_132) (C.2.2.2.2.1 _ m2_131) (C.2.2.2.2.1 _ m1_12) C.2.2.2.2.2.1.1 hP hD hS q0 q1 1 1 h0 h1 (ty := .long) rfl rfl rfl (by decide) (by decide) (by decide) (by decide) (by decide) (fun i _ => rfl) hfr hlo hd (fun H1 locs1 hP1 hD1 hS1 => k H1 locs1 ls hl (hw ▸ hP1) (hw ▸ hD1) hS1)
theorem v_mmax (C : Cx p s m args c cc nL own D A cI cJ) {idx : Nat} {x y : Int32} (hlk : Cond.methodLink own idx yJ9_max_7cf53 ∈ TB) (hd : decode cc pc = .ok (.invokestatic idx, 3)) (hfr : 1 ≤ R.frames) (hlo : (st.map fun v => v.category).sum + 13 ≤ R.locals) (hcs : cells ≤ R.cells ∧ slots ≤ R.slots) (k : V p l e R s m args below meth c nL D A cells slots Q (pc + 3) lv (.int (if x < y then y else x) :: st) ws) : V p l e R s m args below meth c nL D A cells slots Q pc lv (.int y :: .int x :: st) ws := fun H locs ls hl hP hD hS =>
  va_mmax C.1 C.2.1 (C.2.2.1.trans hl.1.symm) C.2.2.2.1 (C.2.2.2.2.1 _ hlk) (C.2.2.2.2.1 _ m1_167) (C.2.2.2.2.1 _ m1_14) (C.2.2.2.2.1 _ m1_168) hfr hlo hcs.1 hcs.2 hd (k H locs ls hl hP hD hS)
theorem v_mmin (C : Cx p s m args c cc nL own D A cI cJ) {idx : Nat} {x y : Int32} (hlk : Cond.methodLink own idx yJ9_min_7cf53 ∈ TB) (hd : decode cc pc = .ok (.invokestatic idx, 3)) (hfr : 1 ≤ R.frames) (hlo : (st.map fun v => v.category).sum + 13 ≤ R.locals) (hcs : cells ≤ R.cells ∧ slots ≤ R.slots) (k : V p l e R s m args below meth c nL D A cells slots Q (pc + 3) lv (.int (if y < x then y else x) :: st) ws) : V p l e R s m args below meth c nL D A cells slots Q pc lv (.int y :: .int x :: st) ws := fun H locs ls hl hP hD hS =>
  va_mmin C.1 C.2.1 (C.2.2.1.trans hl.1.symm) C.2.2.2.1 (C.2.2.2.2.1 _ hlk) (C.2.2.2.2.1 _ m3_7) (C.2.2.2.2.1 _ m1_14) (C.2.2.2.2.1 _ m3_8) hfr hlo hcs.1 hcs.2 hd (k H locs ls hl hP hD hS)
theorem v_tsw4 (C : Cx p s m args c cc nL own D A cI cJ) {x : Int32} {α : Type} {f0 f1 f2 f3 g : Option α} {o : α} {t0 t1 t2 t3 td : Nat} {o0 o1 o2 o3 od : Int} {len : Nat} (hd : decode cc pc = .ok (.tableswitch od 0 3 #[o0, o1, o2, o3], len)) (ht : (pc : Int) + o0 = (t0 : Int) ∧ (pc : Int) + o1 = (t1 : Int) ∧ (pc : Int) + o2 = (t2 : Int) ∧ (pc : Int) + o3 = (t3 : Int)) (hdt : (pc : Int) + od = (td : Int)) (h : (if x = 0 then f0 else (if x = 1 then f1 else (if x = 2 then f2 else (if x = 3 then f3 else g)))) = some o) (k0 : f0 = some o → V p l e R s m args below meth c nL D A cells slots Q t0 lv st ws) (k1 : f1 = some o → V p l e R s m args below meth c nL D A cells slots Q t1 lv st ws) (k2 : f2 = some o → V p l e R s m args below meth c nL D A cells slots Q t2 lv st ws) (k3 : f3 = some o → V p l e R s m args below meth c nL D A cells slots Q t3 lv st ws) (kd : g = some o → V p l e R s m args below meth c nL D A cells slots Q td lv st ws) : V p l e R s m args below meth c nL D A cells slots Q pc lv (.int x :: st) ws := fun H locs ls hl hP hD hS => by
  obtain ⟨h0, h1, h2, h3⟩ := ht
  by_cases q0 : x = 0
  · rw [if_pos q0] at h
    subst q0
    exact lv_tableIn C.1 C.2.1 hd (by decide) (by decide) (off := o0) (by first | rfl | decide) h0 (k0 h H locs ls hl hP hD hS)
  rw [if_neg q0] at h
  by_cases q1 : x = 1
  · rw [if_pos q1] at h
    subst q1
    exact lv_tableIn C.1 C.2.1 hd (by decide) (by decide) (off := o1) (by first | rfl | decide) h1 (k1 h H locs ls hl hP hD hS)
  rw [if_neg q1] at h
  by_cases q2 : x = 2
  · rw [if_pos q2] at h
    subst q2
    exact lv_tableIn C.1 C.2.1 hd (by decide) (by decide) (off := o2) (by first | rfl | decide) h2 (k2 h H locs ls hl hP hD hS)
  rw [if_neg q2] at h
  by_cases q3 : x = 3
  · rw [if_pos q3] at h
    subst q3
    exact lv_tableIn C.1 C.2.1 hd (by decide) (by decide) (off := o3) (by first | rfl | decide) h3 (k3 h H locs ls hl hP hD hS)
  rw [if_neg q3] at h
  refine lv_tableOut C.1 C.2.1 hd ?_ hdt (kd h H locs ls hl hP hD hS)
  have ne : ∀ k : Int32, ¬ x = k → ¬ x.toInt = k.toInt := fun k h e => h (Int32.toInt_inj.mp e)
  have e0 := ne 0 q0
  rw [show (0 : Int32).toInt = 0 from by decide] at e0
  have e1 := ne 1 q1
  rw [show (1 : Int32).toInt = 1 from by decide] at e1
  have e2 := ne 2 q2
  rw [show (2 : Int32).toInt = 2 from by decide] at e2
  have e3 := ne 3 q3
  rw [show (3 : Int32).toInt = 3 from by decide] at e3
  omega
theorem v_tsw5 (C : Cx p s m args c cc nL own D A cI cJ) {x : Int32} {α : Type} {f0 f1 f2 f3 f4 g : Option α} {o : α} {t0 t1 t2 t3 t4 td : Nat} {o0 o1 o2 o3 o4 od : Int} {len : Nat} (hd : decode cc pc = .ok (.tableswitch od 0 4 #[o0, o1, o2, o3, o4], len)) (ht : (pc : Int) + o0 = (t0 : Int) ∧ (pc : Int) + o1 = (t1 : Int) ∧ (pc : Int) + o2 = (t2 : Int) ∧ (pc : Int) + o3 = (t3 : Int) ∧ (pc : Int) + o4 = (t4 : Int)) (hdt : (pc : Int) + od = (td : Int)) (h : (if x = 0 then f0 else (if x = 1 then f1 else (if x = 2 then f2 else (if x = 3 then f3 else (if x = 4 then f4 else g))))) = some o) (k0 : f0 = some o → V p l e R s m args below meth c nL D A cells slots Q t0 lv st ws) (k1 : f1 = some o → V p l e R s m args below meth c nL D A cells slots Q t1 lv st ws) (k2 : f2 = some o → V p l e R s m args below meth c nL D A cells slots Q t2 lv st ws) (k3 : f3 = some o → V p l e R s m args below meth c nL D A cells slots Q t3 lv st ws) (k4 : f4 = some o → V p l e R s m args below meth c nL D A cells slots Q t4 lv st ws) (kd : g = some o → V p l e R s m args below meth c nL D A cells slots Q td lv st ws) : V p l e R s m args below meth c nL D A cells slots Q pc lv (.int x :: st) ws := fun H locs ls hl hP hD hS => by
  obtain ⟨h0, h1, h2, h3, h4⟩ := ht
  by_cases q0 : x = 0
  · rw [if_pos q0] at h
    subst q0
    exact lv_tableIn C.1 C.2.1 hd (by decide) (by decide) (off := o0) (by first | rfl | decide) h0 (k0 h H locs ls hl hP hD hS)
  rw [if_neg q0] at h
  by_cases q1 : x = 1
  · rw [if_pos q1] at h
    subst q1
    exact lv_tableIn C.1 C.2.1 hd (by decide) (by decide) (off := o1) (by first | rfl | decide) h1 (k1 h H locs ls hl hP hD hS)
  rw [if_neg q1] at h
  by_cases q2 : x = 2
  · rw [if_pos q2] at h
    subst q2
    exact lv_tableIn C.1 C.2.1 hd (by decide) (by decide) (off := o2) (by first | rfl | decide) h2 (k2 h H locs ls hl hP hD hS)
  rw [if_neg q2] at h
  by_cases q3 : x = 3
  · rw [if_pos q3] at h
    subst q3
    exact lv_tableIn C.1 C.2.1 hd (by decide) (by decide) (off := o3) (by first | rfl | decide) h3 (k3 h H locs ls hl hP hD hS)
  rw [if_neg q3] at h
  by_cases q4 : x = 4
  · rw [if_pos q4] at h
    subst q4
    exact lv_tableIn C.1 C.2.1 hd (by decide) (by decide) (off := o4) (by first | rfl | decide) h4 (k4 h H locs ls hl hP hD hS)
  rw [if_neg q4] at h
  refine lv_tableOut C.1 C.2.1 hd ?_ hdt (kd h H locs ls hl hP hD hS)
  have ne : ∀ k : Int32, ¬ x = k → ¬ x.toInt = k.toInt := fun k h e => h (Int32.toInt_inj.mp e)
  have e0 := ne 0 q0
  rw [show (0 : Int32).toInt = 0 from by decide] at e0
  have e1 := ne 1 q1
  rw [show (1 : Int32).toInt = 1 from by decide] at e1
  have e2 := ne 2 q2
  rw [show (2 : Int32).toInt = 2 from by decide] at e2
  have e3 := ne 3 q3
  rw [show (3 : Int32).toInt = 3 from by decide] at e3
  have e4 := ne 4 q4
  rw [show (4 : Int32).toInt = 4 from by decide] at e4
  omega
theorem v_tsw6 (C : Cx p s m args c cc nL own D A cI cJ) {x : Int32} {α : Type} {f0 f1 f2 f3 f4 f5 g : Option α} {o : α} {t0 t1 t2 t3 t4 t5 td : Nat} {o0 o1 o2 o3 o4 o5 od : Int} {len : Nat} (hd : decode cc pc = .ok (.tableswitch od 0 5 #[o0, o1, o2, o3, o4, o5], len)) (ht : (pc : Int) + o0 = (t0 : Int) ∧ (pc : Int) + o1 = (t1 : Int) ∧ (pc : Int) + o2 = (t2 : Int) ∧ (pc : Int) + o3 = (t3 : Int) ∧ (pc : Int) + o4 = (t4 : Int) ∧ (pc : Int) + o5 = (t5 : Int)) (hdt : (pc : Int) + od = (td : Int)) (h : (if x = 0 then f0 else (if x = 1 then f1 else (if x = 2 then f2 else (if x = 3 then f3 else (if x = 4 then f4 else (if x = 5 then f5 else g)))))) = some o) (k0 : f0 = some o → V p l e R s m args below meth c nL D A cells slots Q t0 lv st ws) (k1 : f1 = some o → V p l e R s m args below meth c nL D A cells slots Q t1 lv st ws) (k2 : f2 = some o → V p l e R s m args below meth c nL D A cells slots Q t2 lv st ws) (k3 : f3 = some o → V p l e R s m args below meth c nL D A cells slots Q t3 lv st ws) (k4 : f4 = some o → V p l e R s m args below meth c nL D A cells slots Q t4 lv st ws) (k5 : f5 = some o → V p l e R s m args below meth c nL D A cells slots Q t5 lv st ws) (kd : g = some o → V p l e R s m args below meth c nL D A cells slots Q td lv st ws) : V p l e R s m args below meth c nL D A cells slots Q pc lv (.int x :: st) ws := fun H locs ls hl hP hD hS => by
  obtain ⟨h0, h1, h2, h3, h4, h5⟩ := ht
  by_cases q0 : x = 0
  · rw [if_pos q0] at h
    subst q0
    exact lv_tableIn C.1 C.2.1 hd (by decide) (by decide) (off := o0) (by first | rfl | decide) h0 (k0 h H locs ls hl hP hD hS)
  rw [if_neg q0] at h
  by_cases q1 : x = 1
  · rw [if_pos q1] at h
    subst q1
    exact lv_tableIn C.1 C.2.1 hd (by decide) (by decide) (off := o1) (by first | rfl | decide) h1 (k1 h H locs ls hl hP hD hS)
  rw [if_neg q1] at h
  by_cases q2 : x = 2
  · rw [if_pos q2] at h
    subst q2
    exact lv_tableIn C.1 C.2.1 hd (by decide) (by decide) (off := o2) (by first | rfl | decide) h2 (k2 h H locs ls hl hP hD hS)
  rw [if_neg q2] at h
  by_cases q3 : x = 3
  · rw [if_pos q3] at h
    subst q3
    exact lv_tableIn C.1 C.2.1 hd (by decide) (by decide) (off := o3) (by first | rfl | decide) h3 (k3 h H locs ls hl hP hD hS)
  rw [if_neg q3] at h
  by_cases q4 : x = 4
  · rw [if_pos q4] at h
    subst q4
    exact lv_tableIn C.1 C.2.1 hd (by decide) (by decide) (off := o4) (by first | rfl | decide) h4 (k4 h H locs ls hl hP hD hS)
  rw [if_neg q4] at h
  by_cases q5 : x = 5
  · rw [if_pos q5] at h
    subst q5
    exact lv_tableIn C.1 C.2.1 hd (by decide) (by decide) (off := o5) (by first | rfl | decide) h5 (k5 h H locs ls hl hP hD hS)
  rw [if_neg q5] at h
  refine lv_tableOut C.1 C.2.1 hd ?_ hdt (kd h H locs ls hl hP hD hS)
  have ne : ∀ k : Int32, ¬ x = k → ¬ x.toInt = k.toInt := fun k h e => h (Int32.toInt_inj.mp e)
  have e0 := ne 0 q0
  rw [show (0 : Int32).toInt = 0 from by decide] at e0
  have e1 := ne 1 q1
  rw [show (1 : Int32).toInt = 1 from by decide] at e1
  have e2 := ne 2 q2
  rw [show (2 : Int32).toInt = 2 from by decide] at e2
  have e3 := ne 3 q3
  rw [show (3 : Int32).toInt = 3 from by decide] at e3
  have e4 := ne 4 q4
  rw [show (4 : Int32).toInt = 4 from by decide] at e4
  have e5 := ne 5 q5
  rw [show (5 : Int32).toInt = 5 from by decide] at e5
  omega
end

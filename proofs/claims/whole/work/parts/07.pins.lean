abbrev wP (cI cJ : ClassId) (aP : Nat → Nat) (top_P : (Nat → Int32)) (bottom_P : (Nat → Int32)) : va_W := [(aP 0, .inr (0, [.ref (aP 1), .ref (aP 2)])), (aP 1, .inl (cI, 20, .inl top_P)), (aP 2, .inl (cI, 20, .inl bottom_P))]
def f_X0_has (top_P : (Nat → Int32)) (bottom_P : (Nat → Int32)) (x1 : Int32) (x2 : Int32) : Option Int32 := bnd x2 20 (if (top_P x2.toNatClampNeg) = x1 then (some 1) else (bnd x2 20 (if (bottom_P x2.toNatClampNeg) = x1 then (some 1) else (some 0))))
theorem cw_X0_has : CWv yX0_has cX0_has 3 (some .boolean) RX0 2 := ⟨m1_160, ms1_6, m1_2, m1_161, rfl, by decide, by decide, by decide +kernel⟩
set_option maxHeartbeats 4000000 in
set_option maxRecDepth 100000 in
theorem c_X0_has (l : Launch) (D : va_G) (cI cJ : ClassId) (aP : Nat → Nat) (top_P : (Nat → Int32)) (bottom_P : (Nat → Int32)) (x1 : Int32) (x2 : Int32) (r : Int32) (h : f_X0_has top_P bottom_P x1 x2 = some r) : Cti l D cI cJ yX0_has cX0_has 3 (some .boolean) 0 0 [.ref (aP 0), .int x1, .int x2] (wP cI cJ aP top_P bottom_P) (wP cI cJ aP top_P bottom_P) r := by
  refine mk_z [(0, .ref (aP 0)), (1, .int x1), (2, .int x2)] (by decide) rfl (Nat.le_of_ble_eq_true rfl) rfl (fun p e s m args below meth c A Q C hk => ?_)
  unfold f_X0_has at h
  refine v_aload_n C 0 dX0_has_0 rfl rfl ?_
  refine v_get C 0 0 iuX0 rfl rfl (by decide) m1_30 rfl rfl dX0_has_1 ?_
  refine v_iload_n C 2 dX0_has_4 rfl rfl ?_
  refine v_iald C 1 rfl dX0_has_5 h (fun h => ?_)
  refine v_iload_n C 1 dX0_has_6 rfl rfl ?_
  refine v_icmp_eq (tgt := 20) C dX0_has_7 (by decide) h (fun h => ?_) (fun h => ?_)
  · refine v_iconst (v := 1) C dX0_has_20 (by decide) ?_
    refine v_goto (tgt := 25) C dX0_has_21 (by decide) ?_
    cases h
    exact hk _ _ dX0_has_25 (Or.inr rfl)
  · refine v_aload_n C 0 dX0_has_10 rfl rfl ?_
    refine v_get C 0 1 iuX0 rfl rfl (by decide) m1_33 rfl rfl dX0_has_11 ?_
    refine v_iload_n C 2 dX0_has_14 rfl rfl ?_
    refine v_iald C 2 rfl dX0_has_15 h (fun h => ?_)
    refine v_iload_n C 1 dX0_has_16 rfl rfl ?_
    refine v_icmp_ne (tgt := 24) C dX0_has_17 (by decide) h (fun h => ?_) (fun h => ?_)
    · refine v_iconst (v := 1) C dX0_has_20 (by decide) ?_
      refine v_goto (tgt := 25) C dX0_has_21 (by decide) ?_
      cases h
      exact hk _ _ dX0_has_25 (Or.inr rfl)
    · refine v_iconst (v := 0) C dX0_has_24 (by decide) ?_
      cases h
      exact hk _ _ dX0_has_25 (Or.inl rfl)
def f_X0_pinsOf_B4 (x1 : Int32) (top_P : (Nat → Int32)) (bottom_P : (Nat → Int32)) : (Int32 × Int32) → Option ((Int32 × Int32) ⊕ Int32)
  | (x2, x3) => if 20 ≤ x3 then (some (.inr x2)) else (bnd x3 20 (if (top_P x3.toNatClampNeg) = x1 then (bnd x3 20 (if (bottom_P x3.toNatClampNeg) = x1 then (some (.inl (((x2 + 1) + 1, x3 + 1)))) else (some (.inl (x2 + 1, x3 + 1))))) else (bnd x3 20 (if (bottom_P x3.toNatClampNeg) = x1 then (some (.inl (x2 + 1, x3 + 1))) else (some (.inl (x2, x3 + 1)))))))
def f_X0_pinsOf (top_P : (Nat → Int32)) (bottom_P : (Nat → Int32)) (x1 : Int32) : Option Int32 := (lp (f_X0_pinsOf_B4 x1 top_P bottom_P) 64 (0, 0)).bind (fun r => match r with | x2_1 => some x2_1)
theorem cw_X0_pinsOf : CWv yX0_pinsOf cX0_pinsOf 4 (some .int) RX0 1 := ⟨m1_152, ms1_4, m1_2, m1_153, rfl, by decide, by decide, by decide +kernel⟩
set_option maxHeartbeats 4000000 in
set_option maxRecDepth 100000 in
theorem t_X0_pinsOf_B4 {p : Program} {l : Launch} {e : Env} {s : State} {m : MethodId} {args : Array Value} {below : List Frame} {meth : Method} {c : Code} {D : va_G} {A : Nat → Prop} {cI cJ : ClassId} {Q : State → Prop} (C : Cx p s m args c cX0_pinsOf 4 RX0 D A cI cJ) {aP : Nat → Nat} {x1 : Int32} {top_P : (Nat → Int32)} {bottom_P : (Nat → Int32)} (s8 : (Int32 × Int32)) (o8 : (Int32 × Int32) ⊕ Int32) (h : f_X0_pinsOf_B4 x1 top_P bottom_P s8 = some o8) (hl : ∀ s8, o8 = .inl s8 → V p l e (rmO 0 0) s m args below meth c 4 D A 0 0 Q 4 [(0, .ref (aP 0)), (1, .int x1), (2, .int s8.1), (3, .int s8.2)] [] (wP cI cJ aP top_P bottom_P)) (hx : ∀ r8, o8 = .inr r8 → V p l e (rmO 0 0) s m args below meth c 4 D A 0 0 Q 42 [(2, .int r8)] [] (wP cI cJ aP top_P bottom_P)) : V p l e (rmO 0 0) s m args below meth c 4 D A 0 0 Q 4 [(0, .ref (aP 0)), (1, .int x1), (2, .int s8.1), (3, .int s8.2)] [] (wP cI cJ aP top_P bottom_P) := by
  obtain ⟨x2, x3⟩ := s8
  unfold f_X0_pinsOf_B4 at h
  show V p l e (rmO 0 0) s m args below meth c 4 D A 0 0 Q 4 [(0, .ref (aP 0)), (1, .int x1), (2, .int x2), (3, .int x3)] [] (wP cI cJ aP top_P bottom_P)
  refine v_iload_n C 3 dX0_pinsOf_4 rfl rfl ?_
  refine v_bipush (v := 20) C dX0_pinsOf_5 (by decide) ?_
  refine v_icmp_ge (tgt := 42) C dX0_pinsOf_7 (by decide) h (fun h => ?_) (fun h => ?_)
  · refine v_perm [2] rfl ?_
    cases h
    exact hx _ rfl
  · refine v_aload_n C 0 dX0_pinsOf_10 rfl rfl ?_
    refine v_get C 0 0 iuX0 rfl rfl (by decide) m1_30 rfl rfl dX0_pinsOf_11 ?_
    refine v_iload_n C 3 dX0_pinsOf_14 rfl rfl ?_
    refine v_iald C 1 rfl dX0_pinsOf_15 h (fun h => ?_)
    refine v_iload_n C 1 dX0_pinsOf_16 rfl rfl ?_
    refine v_icmp_ne (tgt := 23) C dX0_pinsOf_17 (by decide) h (fun h => ?_) (fun h => ?_)
    · refine v_iinc C [(2, .int (x2 + 1)), (0, .ref (aP 0)), (1, .int x1), (3, .int x3)] 2 dX0_pinsOf_20 rfl rfl (by decide) rfl ?_
      refine v_aload_n C 1 dX0_pinsOf_23 rfl rfl ?_
      refine v_get C 0 1 iuX0 rfl rfl (by decide) m1_33 rfl rfl dX0_pinsOf_24 ?_
      refine v_iload_n C 3 dX0_pinsOf_27 rfl rfl ?_
      refine v_iald C 2 rfl dX0_pinsOf_28 h (fun h => ?_)
      refine v_iload_n C 2 dX0_pinsOf_29 rfl rfl ?_
      refine v_icmp_ne (tgt := 36) C dX0_pinsOf_30 (by decide) h (fun h => ?_) (fun h => ?_)
      · refine v_iinc C [(2, .int ((x2 + 1) + 1)), (0, .ref (aP 0)), (1, .int x1), (3, .int x3)] 0 dX0_pinsOf_33 rfl rfl (by decide) rfl ?_
        refine v_iinc C [(3, .int (x3 + 1)), (2, .int ((x2 + 1) + 1)), (0, .ref (aP 0)), (1, .int x1)] 3 dX0_pinsOf_36 rfl rfl (by decide) rfl ?_
        refine v_goto (tgt := 4) C dX0_pinsOf_39 (by decide) ?_
        refine v_perm [2, 3, 1, 0] rfl ?_
        cases h
        exact hl _ rfl
      · refine v_iinc C [(3, .int (x3 + 1)), (2, .int (x2 + 1)), (0, .ref (aP 0)), (1, .int x1)] 3 dX0_pinsOf_36 rfl rfl (by decide) rfl ?_
        refine v_goto (tgt := 4) C dX0_pinsOf_39 (by decide) ?_
        refine v_perm [2, 3, 1, 0] rfl ?_
        cases h
        exact hl _ rfl
    · refine v_aload_n C 0 dX0_pinsOf_23 rfl rfl ?_
      refine v_get C 0 1 iuX0 rfl rfl (by decide) m1_33 rfl rfl dX0_pinsOf_24 ?_
      refine v_iload_n C 3 dX0_pinsOf_27 rfl rfl ?_
      refine v_iald C 2 rfl dX0_pinsOf_28 h (fun h => ?_)
      refine v_iload_n C 1 dX0_pinsOf_29 rfl rfl ?_
      refine v_icmp_ne (tgt := 36) C dX0_pinsOf_30 (by decide) h (fun h => ?_) (fun h => ?_)
      · refine v_iinc C [(2, .int (x2 + 1)), (0, .ref (aP 0)), (1, .int x1), (3, .int x3)] 2 dX0_pinsOf_33 rfl rfl (by decide) rfl ?_
        refine v_iinc C [(3, .int (x3 + 1)), (2, .int (x2 + 1)), (0, .ref (aP 0)), (1, .int x1)] 3 dX0_pinsOf_36 rfl rfl (by decide) rfl ?_
        refine v_goto (tgt := 4) C dX0_pinsOf_39 (by decide) ?_
        refine v_perm [2, 3, 1, 0] rfl ?_
        cases h
        exact hl _ rfl
      · refine v_iinc C [(3, .int (x3 + 1)), (0, .ref (aP 0)), (1, .int x1), (2, .int x2)] 3 dX0_pinsOf_36 rfl rfl (by decide) rfl ?_
        refine v_goto (tgt := 4) C dX0_pinsOf_39 (by decide) ?_
        refine v_perm [1, 2, 3, 0] rfl ?_
        cases h
        exact hl _ rfl
set_option maxHeartbeats 4000000 in
set_option maxRecDepth 100000 in
theorem t_X0_pinsOf_L4 {p : Program} {l : Launch} {e : Env} {s : State} {m : MethodId} {args : Array Value} {below : List Frame} {meth : Method} {c : Code} {D : va_G} {A : Nat → Prop} {cI cJ : ClassId} {Q : State → Prop} (C : Cx p s m args c cX0_pinsOf 4 RX0 D A cI cJ) {aP : Nat → Nat} {x1 : Int32} {top_P : (Nat → Int32)} {bottom_P : (Nat → Int32)} {n8 : Nat} {s9 : (Int32 × Int32)} {o8 : Int32} (h : lp (f_X0_pinsOf_B4 x1 top_P bottom_P) n8 s9 = some o8) (hk : V p l e (rmO 0 0) s m args below meth c 4 D A 0 0 Q 42 [(2, .int o8)] [] (wP cI cJ aP top_P bottom_P)) : V p l e (rmO 0 0) s m args below meth c 4 D A 0 0 Q 4 [(0, .ref (aP 0)), (1, .int x1), (2, .int s9.1), (3, .int s9.2)] [] (wP cI cJ aP top_P bottom_P) := lp_ok (Pσ := fun s8 => V p l e (rmO 0 0) s m args below meth c 4 D A 0 0 Q 4 [(0, .ref (aP 0)), (1, .int x1), (2, .int s8.1), (3, .int s8.2)] [] (wP cI cJ aP top_P bottom_P)) (Pρ := fun r8 => V p l e (rmO 0 0) s m args below meth c 4 D A 0 0 Q 42 [(2, .int r8)] [] (wP cI cJ aP top_P bottom_P)) (fun s o h hl hx => t_X0_pinsOf_B4 C s o h hl hx) n8 s9 o8 h hk
set_option maxHeartbeats 4000000 in
set_option maxRecDepth 100000 in
theorem c_X0_pinsOf (l : Launch) (D : va_G) (cI cJ : ClassId) (aP : Nat → Nat) (top_P : (Nat → Int32)) (bottom_P : (Nat → Int32)) (x1 : Int32) (r : Int32) (h : f_X0_pinsOf top_P bottom_P x1 = some r) : Cti l D cI cJ yX0_pinsOf cX0_pinsOf 4 (some .int) 0 0 [.ref (aP 0), .int x1] (wP cI cJ aP top_P bottom_P) (wP cI cJ aP top_P bottom_P) r := by
  refine mk_i [(0, .ref (aP 0)), (1, .int x1)] (by decide) rfl (Nat.le_of_ble_eq_true rfl) rfl (fun p e s m args below meth c A Q C hk => ?_)
  unfold f_X0_pinsOf at h
  refine v_iconst (v := 0) C dX0_pinsOf_0 (by decide) ?_
  refine v_istore_n C [(2, .int 0), (0, .ref (aP 0)), (1, .int x1)] dX0_pinsOf_1 rfl (by decide) rfl ?_
  refine v_iconst (v := 0) C dX0_pinsOf_2 (by decide) ?_
  refine v_istore_n C [(3, .int 0), (2, .int 0), (0, .ref (aP 0)), (1, .int x1)] dX0_pinsOf_3 rfl (by decide) rfl ?_
  obtain ⟨r, h1, h⟩ := bind_el h
  refine v_perm [2, 3, 1, 0] rfl ?_
  obtain ⟨x2_1, rfl⟩ : ∃ z, z = r := ⟨_, rfl⟩
  refine t_X0_pinsOf_L4 C (s9 := (0, 0)) h1 ?_
  show V p l e (rmO 0 0) s m args below meth c 4 D A 0 0 Q 42 [(2, .int x2_1)] [] (wP cI cJ aP top_P bottom_P)
  try dsimp only at h
  refine v_iload_n C 0 dX0_pinsOf_42 rfl rfl ?_
  cases h
  exact hk _ _ dX0_pinsOf_43
def f_X0_firstColumn_B2 (x1 : Int32) (top_P : (Nat → Int32)) (bottom_P : (Nat → Int32)) : Int32 → Option (Int32 ⊕ (Unit ⊕ Int32))
  | x2 => if 20 ≤ x2 then (some (.inr (.inl ()))) else ((f_X0_has top_P bottom_P x1 x2).bind (fun r => match r with | r_1 => if r_1 = 0 then (some (.inl (x2 + 1))) else (some (.inr (.inr x2)))))
def f_X0_firstColumn (top_P : (Nat → Int32)) (bottom_P : (Nat → Int32)) (x1 : Int32) : Option Int32 := (lp (f_X0_firstColumn_B2 x1 top_P bottom_P) 64 0).bind (fun r => match r with | .inl _ => some (-1) | .inr x2_2 => some x2_2)
theorem cw_X0_firstColumn : CWv yX0_firstColumn cX0_firstColumn 3 (some .int) RX0 1 := ⟨m1_156, ms1_5, m1_2, m1_157, rfl, by decide, by decide, by decide +kernel⟩
set_option maxHeartbeats 4000000 in
set_option maxRecDepth 100000 in
theorem t_X0_firstColumn_B2 {p : Program} {l : Launch} {e : Env} {s : State} {m : MethodId} {args : Array Value} {below : List Frame} {meth : Method} {c : Code} {D : va_G} {A : Nat → Prop} {cI cJ : ClassId} {Q : State → Prop} (C : Cx p s m args c cX0_firstColumn 3 RX0 D A cI cJ) {aP : Nat → Nat} {x1 : Int32} {top_P : (Nat → Int32)} {bottom_P : (Nat → Int32)} (s8 : Int32) (o8 : Int32 ⊕ (Unit ⊕ Int32)) (h : f_X0_firstColumn_B2 x1 top_P bottom_P s8 = some o8) (hl : ∀ s8, o8 = .inl s8 → V p l e (rmO 1 22) s m args below meth c 3 D A 0 0 Q 2 [(0, .ref (aP 0)), (1, .int x1), (2, .int s8)] [] (wP cI cJ aP top_P bottom_P)) (hx0 : ∀ r8, o8 = .inr (.inl r8) → V p l e (rmO 1 22) s m args below meth c 3 D A 0 0 Q 25 [] [] (wP cI cJ aP top_P bottom_P)) (hx1 : ∀ r8, o8 = .inr (.inr r8) → V p l e (rmO 1 22) s m args below meth c 3 D A 0 0 Q 17 [(2, .int r8)] [] (wP cI cJ aP top_P bottom_P)) : V p l e (rmO 1 22) s m args below meth c 3 D A 0 0 Q 2 [(0, .ref (aP 0)), (1, .int x1), (2, .int s8)] [] (wP cI cJ aP top_P bottom_P) := by
  obtain ⟨x2, rfl⟩ : ∃ z, z = s8 := ⟨_, rfl⟩
  unfold f_X0_firstColumn_B2 at h
  show V p l e (rmO 1 22) s m args below meth c 3 D A 0 0 Q 2 [(0, .ref (aP 0)), (1, .int x1), (2, .int x2)] [] (wP cI cJ aP top_P bottom_P)
  refine v_iload_n C 2 dX0_firstColumn_2 rfl rfl ?_
  refine v_bipush (v := 20) C dX0_firstColumn_3 (by decide) ?_
  refine v_icmp_ge (tgt := 25) C dX0_firstColumn_5 (by decide) h (fun h => ?_) (fun h => ?_)
  · refine v_perm [] rfl ?_
    cases h
    exact hx0 _ rfl
  · refine v_aload_n C 0 dX0_firstColumn_8 rfl rfl ?_
    refine v_iload_n C 1 dX0_firstColumn_9 rfl rfl ?_
    refine v_iload_n C 2 dX0_firstColumn_10 rfl rfl ?_
    obtain ⟨r, h1, h⟩ := bind_el h
    obtain ⟨r_1, rfl⟩ : ∃ z, z = r := ⟨_, rfl⟩
    try dsimp only at h
    refine v_callVi (As := [.int x1, .int x2]) (st := []) (wr := []) (w1 := (wP cI cJ aP top_P bottom_P)) (ws' := (wP cI cJ aP top_P bottom_P)) (isC := [0, 1, 2]) (isR := []) (pm := [0, 1, 2]) C (c_X0_has l D cI cJ aP top_P bottom_P x1 x2 r_1 h1) cw_X0_has 0 rfl rfl m1_158 dX0_firstColumn_11 rfl ⟨Nat.le_of_ble_eq_true rfl, Nat.le_of_ble_eq_true rfl⟩ (Nat.le_of_ble_eq_true rfl) ⟨Nat.le_refl 0, Nat.le_refl 0⟩ ⟨rfl, rfl, rfl, rfl, by decide, rfl, rfl⟩ ?_
    refine v_if_eq (tgt := 19) C dX0_firstColumn_14 (by decide) h (fun h => ?_) (fun h => ?_)
    · refine v_iinc C [(2, .int (x2 + 1)), (0, .ref (aP 0)), (1, .int x1)] 2 dX0_firstColumn_19 rfl rfl (by decide) rfl ?_
      refine v_goto (tgt := 2) C dX0_firstColumn_22 (by decide) ?_
      refine v_perm [1, 2, 0] rfl ?_
      cases h
      exact hl _ rfl
    · refine v_perm [2] rfl ?_
      cases h
      exact hx1 _ rfl
set_option maxHeartbeats 4000000 in
set_option maxRecDepth 100000 in
theorem t_X0_firstColumn_L2 {p : Program} {l : Launch} {e : Env} {s : State} {m : MethodId} {args : Array Value} {below : List Frame} {meth : Method} {c : Code} {D : va_G} {A : Nat → Prop} {cI cJ : ClassId} {Q : State → Prop} (C : Cx p s m args c cX0_firstColumn 3 RX0 D A cI cJ) {aP : Nat → Nat} {x1 : Int32} {top_P : (Nat → Int32)} {bottom_P : (Nat → Int32)} {n8 : Nat} {s9 : Int32} {o8 : (Unit ⊕ Int32)} (h : lp (f_X0_firstColumn_B2 x1 top_P bottom_P) n8 s9 = some o8) (hk : (Sum.elim (fun r8 => V p l e (rmO 1 22) s m args below meth c 3 D A 0 0 Q 25 [] [] (wP cI cJ aP top_P bottom_P)) (fun r8 => V p l e (rmO 1 22) s m args below meth c 3 D A 0 0 Q 17 [(2, .int r8)] [] (wP cI cJ aP top_P bottom_P))) o8) : V p l e (rmO 1 22) s m args below meth c 3 D A 0 0 Q 2 [(0, .ref (aP 0)), (1, .int x1), (2, .int s9)] [] (wP cI cJ aP top_P bottom_P) := lp_ok (Pσ := fun s8 => V p l e (rmO 1 22) s m args below meth c 3 D A 0 0 Q 2 [(0, .ref (aP 0)), (1, .int x1), (2, .int s8)] [] (wP cI cJ aP top_P bottom_P)) (Pρ := Sum.elim (fun r8 => V p l e (rmO 1 22) s m args below meth c 3 D A 0 0 Q 25 [] [] (wP cI cJ aP top_P bottom_P)) (fun r8 => V p l e (rmO 1 22) s m args below meth c 3 D A 0 0 Q 17 [(2, .int r8)] [] (wP cI cJ aP top_P bottom_P))) (fun s o h hl hx => t_X0_firstColumn_B2 C s o h hl (fun r e => hx _ e) (fun r e => hx _ e)) n8 s9 o8 h hk
set_option maxHeartbeats 4000000 in
set_option maxRecDepth 100000 in
theorem c_X0_firstColumn (l : Launch) (D : va_G) (cI cJ : ClassId) (aP : Nat → Nat) (top_P : (Nat → Int32)) (bottom_P : (Nat → Int32)) (x1 : Int32) (r : Int32) (h : f_X0_firstColumn top_P bottom_P x1 = some r) : Cti l D cI cJ yX0_firstColumn cX0_firstColumn 3 (some .int) 1 22 [.ref (aP 0), .int x1] (wP cI cJ aP top_P bottom_P) (wP cI cJ aP top_P bottom_P) r := by
  refine mk_i [(0, .ref (aP 0)), (1, .int x1)] (by decide) rfl (Nat.le_of_ble_eq_true rfl) rfl (fun p e s m args below meth c A Q C hk => ?_)
  unfold f_X0_firstColumn at h
  refine v_iconst (v := 0) C dX0_firstColumn_0 (by decide) ?_
  refine v_istore_n C [(2, .int 0), (0, .ref (aP 0)), (1, .int x1)] dX0_firstColumn_1 rfl (by decide) rfl ?_
  obtain ⟨r, h1, h⟩ := bind_el h
  refine v_perm [1, 2, 0] rfl ?_
  rcases r with _ | ⟨x2_2⟩
  · refine t_X0_firstColumn_L2 C (s9 := 0) h1 ?_
    show V p l e (rmO 1 22) s m args below meth c 3 D A 0 0 Q 25 [] [] (wP cI cJ aP top_P bottom_P)
    try dsimp only at h
    refine v_iconst (v := (-1)) C dX0_firstColumn_25 (by decide) ?_
    cases h
    exact hk _ _ dX0_firstColumn_26
  · refine t_X0_firstColumn_L2 C (s9 := 0) h1 ?_
    show V p l e (rmO 1 22) s m args below meth c 3 D A 0 0 Q 17 [(2, .int x2_2)] [] (wP cI cJ aP top_P bottom_P)
    try dsimp only at h
    refine v_iload_n C 0 dX0_firstColumn_17 rfl rfl ?_
    cases h
    exact hk _ _ dX0_firstColumn_18
def f_X0_lastColumn_B3 (x1 : Int32) (top_P : (Nat → Int32)) (bottom_P : (Nat → Int32)) : Int32 → Option (Int32 ⊕ (Unit ⊕ Int32))
  | x2 => if x2 < 0 then (some (.inr (.inl ()))) else ((f_X0_has top_P bottom_P x1 x2).bind (fun r => match r with | r_1 => if r_1 = 0 then (some (.inl (x2 + (-1)))) else (some (.inr (.inr x2)))))
def f_X0_lastColumn (top_P : (Nat → Int32)) (bottom_P : (Nat → Int32)) (x1 : Int32) : Option Int32 := (lp (f_X0_lastColumn_B3 x1 top_P bottom_P) 64 19).bind (fun r => match r with | .inl _ => some (-1) | .inr x2_2 => some x2_2)
theorem cw_X0_lastColumn : CWv yX0_lastColumn cX0_lastColumn 3 (some .int) RX0 1 := ⟨m1_164, ms1_7, m1_2, m1_165, rfl, by decide, by decide, by decide +kernel⟩
set_option maxHeartbeats 4000000 in
set_option maxRecDepth 100000 in
theorem t_X0_lastColumn_B3 {p : Program} {l : Launch} {e : Env} {s : State} {m : MethodId} {args : Array Value} {below : List Frame} {meth : Method} {c : Code} {D : va_G} {A : Nat → Prop} {cI cJ : ClassId} {Q : State → Prop} (C : Cx p s m args c cX0_lastColumn 3 RX0 D A cI cJ) {aP : Nat → Nat} {x1 : Int32} {top_P : (Nat → Int32)} {bottom_P : (Nat → Int32)} (s8 : Int32) (o8 : Int32 ⊕ (Unit ⊕ Int32)) (h : f_X0_lastColumn_B3 x1 top_P bottom_P s8 = some o8) (hl : ∀ s8, o8 = .inl s8 → V p l e (rmO 1 22) s m args below meth c 3 D A 0 0 Q 3 [(0, .ref (aP 0)), (1, .int x1), (2, .int s8)] [] (wP cI cJ aP top_P bottom_P)) (hx0 : ∀ r8, o8 = .inr (.inl r8) → V p l e (rmO 1 22) s m args below meth c 3 D A 0 0 Q 24 [] [] (wP cI cJ aP top_P bottom_P)) (hx1 : ∀ r8, o8 = .inr (.inr r8) → V p l e (rmO 1 22) s m args below meth c 3 D A 0 0 Q 16 [(2, .int r8)] [] (wP cI cJ aP top_P bottom_P)) : V p l e (rmO 1 22) s m args below meth c 3 D A 0 0 Q 3 [(0, .ref (aP 0)), (1, .int x1), (2, .int s8)] [] (wP cI cJ aP top_P bottom_P) := by
  obtain ⟨x2, rfl⟩ : ∃ z, z = s8 := ⟨_, rfl⟩
  unfold f_X0_lastColumn_B3 at h
  show V p l e (rmO 1 22) s m args below meth c 3 D A 0 0 Q 3 [(0, .ref (aP 0)), (1, .int x1), (2, .int x2)] [] (wP cI cJ aP top_P bottom_P)
  refine v_iload_n C 2 dX0_lastColumn_3 rfl rfl ?_
  refine v_if_lt (tgt := 24) C dX0_lastColumn_4 (by decide) h (fun h => ?_) (fun h => ?_)
  · refine v_perm [] rfl ?_
    cases h
    exact hx0 _ rfl
  · refine v_aload_n C 0 dX0_lastColumn_7 rfl rfl ?_
    refine v_iload_n C 1 dX0_lastColumn_8 rfl rfl ?_
    refine v_iload_n C 2 dX0_lastColumn_9 rfl rfl ?_
    obtain ⟨r, h1, h⟩ := bind_el h
    obtain ⟨r_1, rfl⟩ : ∃ z, z = r := ⟨_, rfl⟩
    try dsimp only at h
    refine v_callVi (As := [.int x1, .int x2]) (st := []) (wr := []) (w1 := (wP cI cJ aP top_P bottom_P)) (ws' := (wP cI cJ aP top_P bottom_P)) (isC := [0, 1, 2]) (isR := []) (pm := [0, 1, 2]) C (c_X0_has l D cI cJ aP top_P bottom_P x1 x2 r_1 h1) cw_X0_has 0 rfl rfl m1_158 dX0_lastColumn_10 rfl ⟨Nat.le_of_ble_eq_true rfl, Nat.le_of_ble_eq_true rfl⟩ (Nat.le_of_ble_eq_true rfl) ⟨Nat.le_refl 0, Nat.le_refl 0⟩ ⟨rfl, rfl, rfl, rfl, by decide, rfl, rfl⟩ ?_
    refine v_if_eq (tgt := 18) C dX0_lastColumn_13 (by decide) h (fun h => ?_) (fun h => ?_)
    · refine v_iinc C [(2, .int (x2 + (-1))), (0, .ref (aP 0)), (1, .int x1)] 2 dX0_lastColumn_18 rfl rfl (by decide) rfl ?_
      refine v_goto (tgt := 3) C dX0_lastColumn_21 (by decide) ?_
      refine v_perm [1, 2, 0] rfl ?_
      cases h
      exact hl _ rfl
    · refine v_perm [2] rfl ?_
      cases h
      exact hx1 _ rfl
set_option maxHeartbeats 4000000 in
set_option maxRecDepth 100000 in
theorem t_X0_lastColumn_L3 {p : Program} {l : Launch} {e : Env} {s : State} {m : MethodId} {args : Array Value} {below : List Frame} {meth : Method} {c : Code} {D : va_G} {A : Nat → Prop} {cI cJ : ClassId} {Q : State → Prop} (C : Cx p s m args c cX0_lastColumn 3 RX0 D A cI cJ) {aP : Nat → Nat} {x1 : Int32} {top_P : (Nat → Int32)} {bottom_P : (Nat → Int32)} {n8 : Nat} {s9 : Int32} {o8 : (Unit ⊕ Int32)} (h : lp (f_X0_lastColumn_B3 x1 top_P bottom_P) n8 s9 = some o8) (hk : (Sum.elim (fun r8 => V p l e (rmO 1 22) s m args below meth c 3 D A 0 0 Q 24 [] [] (wP cI cJ aP top_P bottom_P)) (fun r8 => V p l e (rmO 1 22) s m args below meth c 3 D A 0 0 Q 16 [(2, .int r8)] [] (wP cI cJ aP top_P bottom_P))) o8) : V p l e (rmO 1 22) s m args below meth c 3 D A 0 0 Q 3 [(0, .ref (aP 0)), (1, .int x1), (2, .int s9)] [] (wP cI cJ aP top_P bottom_P) := lp_ok (Pσ := fun s8 => V p l e (rmO 1 22) s m args below meth c 3 D A 0 0 Q 3 [(0, .ref (aP 0)), (1, .int x1), (2, .int s8)] [] (wP cI cJ aP top_P bottom_P)) (Pρ := Sum.elim (fun r8 => V p l e (rmO 1 22) s m args below meth c 3 D A 0 0 Q 24 [] [] (wP cI cJ aP top_P bottom_P)) (fun r8 => V p l e (rmO 1 22) s m args below meth c 3 D A 0 0 Q 16 [(2, .int r8)] [] (wP cI cJ aP top_P bottom_P))) (fun s o h hl hx => t_X0_lastColumn_B3 C s o h hl (fun r e => hx _ e) (fun r e => hx _ e)) n8 s9 o8 h hk
set_option maxHeartbeats 4000000 in
set_option maxRecDepth 100000 in
theorem c_X0_lastColumn (l : Launch) (D : va_G) (cI cJ : ClassId) (aP : Nat → Nat) (top_P : (Nat → Int32)) (bottom_P : (Nat → Int32)) (x1 : Int32) (r : Int32) (h : f_X0_lastColumn top_P bottom_P x1 = some r) : Cti l D cI cJ yX0_lastColumn cX0_lastColumn 3 (some .int) 1 22 [.ref (aP 0), .int x1] (wP cI cJ aP top_P bottom_P) (wP cI cJ aP top_P bottom_P) r := by
  refine mk_i [(0, .ref (aP 0)), (1, .int x1)] (by decide) rfl (Nat.le_of_ble_eq_true rfl) rfl (fun p e s m args below meth c A Q C hk => ?_)
  unfold f_X0_lastColumn at h
  refine v_bipush (v := 19) C dX0_lastColumn_0 (by decide) ?_
  refine v_istore_n C [(2, .int 19), (0, .ref (aP 0)), (1, .int x1)] dX0_lastColumn_2 rfl (by decide) rfl ?_
  obtain ⟨r, h1, h⟩ := bind_el h
  refine v_perm [1, 2, 0] rfl ?_
  rcases r with _ | ⟨x2_2⟩
  · refine t_X0_lastColumn_L3 C (s9 := 19) h1 ?_
    show V p l e (rmO 1 22) s m args below meth c 3 D A 0 0 Q 24 [] [] (wP cI cJ aP top_P bottom_P)
    try dsimp only at h
    refine v_iconst (v := (-1)) C dX0_lastColumn_24 (by decide) ?_
    cases h
    exact hk _ _ dX0_lastColumn_25
  · refine t_X0_lastColumn_L3 C (s9 := 19) h1 ?_
    show V p l e (rmO 1 22) s m args below meth c 3 D A 0 0 Q 16 [(2, .int x2_2)] [] (wP cI cJ aP top_P bottom_P)
    try dsimp only at h
    refine v_iload_n C 0 dX0_lastColumn_16 rfl rfl ?_
    cases h
    exact hk _ _ dX0_lastColumn_17
def f_X0_kindOf (top_P : (Nat → Int32)) (bottom_P : (Nat → Int32)) (x1 : Int32) : Option Int32 := (f_X0_pinsOf top_P bottom_P x1).bind (fun r => match r with | r_1 => if r_1 = 0 then (some 0) else (if r_1 = 1 then (some 1) else ((f_X0_firstColumn top_P bottom_P x1).bind (fun r => match r with | r_2 => (f_X0_lastColumn top_P bottom_P x1).bind (fun r => match r with | r_3 => if r_2 = r_3 then (some 2) else (some 3))))))
theorem cw_X0_kindOf : CWv yX0_kindOf cX0_kindOf 3 (some .int) RX0 1 := ⟨m1_148, ms1_3, m1_2, m1_149, rfl, by decide, by decide, by decide +kernel⟩
set_option maxHeartbeats 4000000 in
set_option maxRecDepth 100000 in
theorem c_X0_kindOf (l : Launch) (D : va_G) (cI cJ : ClassId) (aP : Nat → Nat) (top_P : (Nat → Int32)) (bottom_P : (Nat → Int32)) (x1 : Int32) (r : Int32) (h : f_X0_kindOf top_P bottom_P x1 = some r) : Cti l D cI cJ yX0_kindOf cX0_kindOf 3 (some .int) 2 44 [.ref (aP 0), .int x1] (wP cI cJ aP top_P bottom_P) (wP cI cJ aP top_P bottom_P) r := by
  refine mk_i [(0, .ref (aP 0)), (1, .int x1)] (by decide) rfl (Nat.le_of_ble_eq_true rfl) rfl (fun p e s m args below meth c A Q C hk => ?_)
  unfold f_X0_kindOf at h
  refine v_aload_n C 0 dX0_kindOf_0 rfl rfl ?_
  refine v_iload_n C 1 dX0_kindOf_1 rfl rfl ?_
  obtain ⟨r, h1, h⟩ := bind_el h
  obtain ⟨r_1, rfl⟩ : ∃ z, z = r := ⟨_, rfl⟩
  try dsimp only at h
  refine v_callVi (As := [.int x1]) (st := []) (wr := []) (w1 := (wP cI cJ aP top_P bottom_P)) (ws' := (wP cI cJ aP top_P bottom_P)) (isC := [0, 1, 2]) (isR := []) (pm := [0, 1, 2]) C (c_X0_pinsOf l D cI cJ aP top_P bottom_P x1 r_1 h1) cw_X0_pinsOf 0 rfl rfl m1_150 dX0_kindOf_2 rfl ⟨Nat.le_of_ble_eq_true rfl, Nat.le_of_ble_eq_true rfl⟩ (Nat.le_of_ble_eq_true rfl) ⟨Nat.le_refl 0, Nat.le_refl 0⟩ ⟨rfl, rfl, rfl, rfl, by decide, rfl, rfl⟩ ?_
  refine v_istore_n C [(2, .int r_1), (0, .ref (aP 0)), (1, .int x1)] dX0_kindOf_5 rfl (by decide) rfl ?_
  refine v_iload_n C 0 dX0_kindOf_6 rfl rfl ?_
  refine v_if_ne (tgt := 12) C dX0_kindOf_7 (by decide) h (fun h => ?_) (fun h => ?_)
  · refine v_iconst (v := 0) C dX0_kindOf_10 (by decide) ?_
    cases h
    exact hk _ _ dX0_kindOf_11
  · refine v_iload_n C 0 dX0_kindOf_12 rfl rfl ?_
    refine v_iconst (v := 1) C dX0_kindOf_13 (by decide) ?_
    refine v_icmp_ne (tgt := 19) C dX0_kindOf_14 (by decide) h (fun h => ?_) (fun h => ?_)
    · refine v_iconst (v := 1) C dX0_kindOf_17 (by decide) ?_
      cases h
      exact hk _ _ dX0_kindOf_18
    · refine v_aload_n C 1 dX0_kindOf_19 rfl rfl ?_
      refine v_iload_n C 2 dX0_kindOf_20 rfl rfl ?_
      obtain ⟨r, h1, h⟩ := bind_el h
      obtain ⟨r_2, rfl⟩ : ∃ z, z = r := ⟨_, rfl⟩
      try dsimp only at h
      refine v_callVi (As := [.int x1]) (st := []) (wr := []) (w1 := (wP cI cJ aP top_P bottom_P)) (ws' := (wP cI cJ aP top_P bottom_P)) (isC := [0, 1, 2]) (isR := []) (pm := [0, 1, 2]) C (c_X0_firstColumn l D cI cJ aP top_P bottom_P x1 r_2 h1) cw_X0_firstColumn 0 rfl rfl m1_154 dX0_kindOf_21 rfl ⟨Nat.le_of_ble_eq_true rfl, Nat.le_of_ble_eq_true rfl⟩ (Nat.le_of_ble_eq_true rfl) ⟨Nat.le_refl 0, Nat.le_refl 0⟩ ⟨rfl, rfl, rfl, rfl, by decide, rfl, rfl⟩ ?_
      refine v_aload_n C 1 dX0_kindOf_24 rfl rfl ?_
      refine v_iload_n C 2 dX0_kindOf_25 rfl rfl ?_
      obtain ⟨r, h1, h⟩ := bind_el h
      obtain ⟨r_3, rfl⟩ : ∃ z, z = r := ⟨_, rfl⟩
      try dsimp only at h
      refine v_callVi (As := [.int x1]) (st := [.int r_2]) (wr := []) (w1 := (wP cI cJ aP top_P bottom_P)) (ws' := (wP cI cJ aP top_P bottom_P)) (isC := [0, 1, 2]) (isR := []) (pm := [0, 1, 2]) C (c_X0_lastColumn l D cI cJ aP top_P bottom_P x1 r_3 h1) cw_X0_lastColumn 0 rfl rfl m1_162 dX0_kindOf_26 rfl ⟨Nat.le_of_ble_eq_true rfl, Nat.le_of_ble_eq_true rfl⟩ (Nat.le_of_ble_eq_true rfl) ⟨Nat.le_refl 0, Nat.le_refl 0⟩ ⟨rfl, rfl, rfl, rfl, by decide, rfl, rfl⟩ ?_
      refine v_icmp_ne (tgt := 36) C dX0_kindOf_29 (by decide) h (fun h => ?_) (fun h => ?_)
      · refine v_iconst (v := 2) C dX0_kindOf_32 (by decide) ?_
        refine v_goto (tgt := 37) C dX0_kindOf_33 (by decide) ?_
        cases h
        exact hk _ _ dX0_kindOf_37
      · refine v_iconst (v := 3) C dX0_kindOf_36 (by decide) ?_
        cases h
        exact hk _ _ dX0_kindOf_37
def f_X0_isLong (top_P : (Nat → Int32)) (bottom_P : (Nat → Int32)) (x1 : Int32) : Option Int32 := (f_X0_kindOf top_P bottom_P x1).bind (fun r => match r with | r_1 => if r_1 = 3 then (some 1) else (some 0))
theorem cw_X0_isLong : CWv yX0_isLong cX0_isLong 2 (some .boolean) RX0 1 := ⟨m1_144, ms1_2, m1_2, m1_145, rfl, by decide, by decide, by decide +kernel⟩
set_option maxHeartbeats 4000000 in
set_option maxRecDepth 100000 in
theorem c_X0_isLong (l : Launch) (D : va_G) (cI cJ : ClassId) (aP : Nat → Nat) (top_P : (Nat → Int32)) (bottom_P : (Nat → Int32)) (x1 : Int32) (r : Int32) (h : f_X0_isLong top_P bottom_P x1 = some r) : Cti l D cI cJ yX0_isLong cX0_isLong 2 (some .boolean) 3 66 [.ref (aP 0), .int x1] (wP cI cJ aP top_P bottom_P) (wP cI cJ aP top_P bottom_P) r := by
  refine mk_z [(0, .ref (aP 0)), (1, .int x1)] (by decide) rfl (Nat.le_of_ble_eq_true rfl) rfl (fun p e s m args below meth c A Q C hk => ?_)
  unfold f_X0_isLong at h
  refine v_aload_n C 0 dX0_isLong_0 rfl rfl ?_
  refine v_iload_n C 1 dX0_isLong_1 rfl rfl ?_
  obtain ⟨r, h1, h⟩ := bind_el h
  obtain ⟨r_1, rfl⟩ : ∃ z, z = r := ⟨_, rfl⟩
  try dsimp only at h
  refine v_callVi (As := [.int x1]) (st := []) (wr := []) (w1 := (wP cI cJ aP top_P bottom_P)) (ws' := (wP cI cJ aP top_P bottom_P)) (isC := [0, 1, 2]) (isR := []) (pm := [0, 1, 2]) C (c_X0_kindOf l D cI cJ aP top_P bottom_P x1 r_1 h1) cw_X0_kindOf 0 rfl rfl m1_146 dX0_isLong_2 rfl ⟨Nat.le_of_ble_eq_true rfl, Nat.le_of_ble_eq_true rfl⟩ (Nat.le_of_ble_eq_true rfl) ⟨Nat.le_refl 0, Nat.le_refl 0⟩ ⟨rfl, rfl, rfl, rfl, by decide, rfl, rfl⟩ ?_
  refine v_iconst (v := 3) C dX0_isLong_5 (by decide) ?_
  refine v_icmp_ne (tgt := 13) C dX0_isLong_6 (by decide) h (fun h => ?_) (fun h => ?_)
  · refine v_iconst (v := 1) C dX0_isLong_9 (by decide) ?_
    refine v_goto (tgt := 14) C dX0_isLong_10 (by decide) ?_
    cases h
    exact hk _ _ dX0_isLong_14 (Or.inr rfl)
  · refine v_iconst (v := 0) C dX0_isLong_13 (by decide) ?_
    cases h
    exact hk _ _ dX0_isLong_14 (Or.inl rfl)
def f_X0_anySingle_B2 (top_P : (Nat → Int32)) (bottom_P : (Nat → Int32)) : Int32 → Option (Int32 ⊕ (Unit ⊕ Unit))
  | x1 => if 9 < x1 then (some (.inr (.inl ()))) else ((f_X0_kindOf top_P bottom_P x1).bind (fun r => match r with | r_1 => if r_1 = 1 then (some (.inr (.inr ()))) else (some (.inl (x1 + 1)))))
def f_X0_anySingle (top_P : (Nat → Int32)) (bottom_P : (Nat → Int32)) : Option Int32 := (lp (f_X0_anySingle_B2 top_P bottom_P) 64 1).bind (fun r => match r with | .inl _ => some 0 | .inr _ => some 1)
theorem cw_X0_anySingle : CWv yX0_anySingle cX0_anySingle 2 (some .boolean) RX0 0 := ⟨m2_115, ms2_6, m1_2, m2_116, rfl, by decide, by decide, by decide +kernel⟩
set_option maxHeartbeats 4000000 in
set_option maxRecDepth 100000 in
theorem t_X0_anySingle_B2 {p : Program} {l : Launch} {e : Env} {s : State} {m : MethodId} {args : Array Value} {below : List Frame} {meth : Method} {c : Code} {D : va_G} {A : Nat → Prop} {cI cJ : ClassId} {Q : State → Prop} (C : Cx p s m args c cX0_anySingle 2 RX0 D A cI cJ) {aP : Nat → Nat} {top_P : (Nat → Int32)} {bottom_P : (Nat → Int32)} (s8 : Int32) (o8 : Int32 ⊕ (Unit ⊕ Unit)) (h : f_X0_anySingle_B2 top_P bottom_P s8 = some o8) (hl : ∀ s8, o8 = .inl s8 → V p l e (rmO 3 66) s m args below meth c 2 D A 0 0 Q 2 [(0, .ref (aP 0)), (1, .int s8)] [] (wP cI cJ aP top_P bottom_P)) (hx0 : ∀ r8, o8 = .inr (.inl r8) → V p l e (rmO 3 66) s m args below meth c 2 D A 0 0 Q 25 [] [] (wP cI cJ aP top_P bottom_P)) (hx1 : ∀ r8, o8 = .inr (.inr r8) → V p l e (rmO 3 66) s m args below meth c 2 D A 0 0 Q 17 [] [] (wP cI cJ aP top_P bottom_P)) : V p l e (rmO 3 66) s m args below meth c 2 D A 0 0 Q 2 [(0, .ref (aP 0)), (1, .int s8)] [] (wP cI cJ aP top_P bottom_P) := by
  obtain ⟨x1, rfl⟩ : ∃ z, z = s8 := ⟨_, rfl⟩
  unfold f_X0_anySingle_B2 at h
  show V p l e (rmO 3 66) s m args below meth c 2 D A 0 0 Q 2 [(0, .ref (aP 0)), (1, .int x1)] [] (wP cI cJ aP top_P bottom_P)
  refine v_iload_n C 1 dX0_anySingle_2 rfl rfl ?_
  refine v_bipush (v := 9) C dX0_anySingle_3 (by decide) ?_
  refine v_icmp_gt (tgt := 25) C dX0_anySingle_5 (by decide) h (fun h => ?_) (fun h => ?_)
  · refine v_perm [] rfl ?_
    cases h
    exact hx0 _ rfl
  · refine v_aload_n C 0 dX0_anySingle_8 rfl rfl ?_
    refine v_iload_n C 1 dX0_anySingle_9 rfl rfl ?_
    obtain ⟨r, h1, h⟩ := bind_el h
    obtain ⟨r_1, rfl⟩ : ∃ z, z = r := ⟨_, rfl⟩
    try dsimp only at h
    refine v_callVi (As := [.int x1]) (st := []) (wr := []) (w1 := (wP cI cJ aP top_P bottom_P)) (ws' := (wP cI cJ aP top_P bottom_P)) (isC := [0, 1, 2]) (isR := []) (pm := [0, 1, 2]) C (c_X0_kindOf l D cI cJ aP top_P bottom_P x1 r_1 h1) cw_X0_kindOf 0 rfl rfl m1_146 dX0_anySingle_10 rfl ⟨Nat.le_of_ble_eq_true rfl, Nat.le_of_ble_eq_true rfl⟩ (Nat.le_of_ble_eq_true rfl) ⟨Nat.le_refl 0, Nat.le_refl 0⟩ ⟨rfl, rfl, rfl, rfl, by decide, rfl, rfl⟩ ?_
    refine v_iconst (v := 1) C dX0_anySingle_13 (by decide) ?_
    refine v_icmp_ne (tgt := 19) C dX0_anySingle_14 (by decide) h (fun h => ?_) (fun h => ?_)
    · refine v_perm [] rfl ?_
      cases h
      exact hx1 _ rfl
    · refine v_iinc C [(1, .int (x1 + 1)), (0, .ref (aP 0))] 1 dX0_anySingle_19 rfl rfl (by decide) rfl ?_
      refine v_goto (tgt := 2) C dX0_anySingle_22 (by decide) ?_
      refine v_perm [1, 0] rfl ?_
      cases h
      exact hl _ rfl
set_option maxHeartbeats 4000000 in
set_option maxRecDepth 100000 in
theorem t_X0_anySingle_L2 {p : Program} {l : Launch} {e : Env} {s : State} {m : MethodId} {args : Array Value} {below : List Frame} {meth : Method} {c : Code} {D : va_G} {A : Nat → Prop} {cI cJ : ClassId} {Q : State → Prop} (C : Cx p s m args c cX0_anySingle 2 RX0 D A cI cJ) {aP : Nat → Nat} {top_P : (Nat → Int32)} {bottom_P : (Nat → Int32)} {n8 : Nat} {s9 : Int32} {o8 : (Unit ⊕ Unit)} (h : lp (f_X0_anySingle_B2 top_P bottom_P) n8 s9 = some o8) (hk : (Sum.elim (fun r8 => V p l e (rmO 3 66) s m args below meth c 2 D A 0 0 Q 25 [] [] (wP cI cJ aP top_P bottom_P)) (fun r8 => V p l e (rmO 3 66) s m args below meth c 2 D A 0 0 Q 17 [] [] (wP cI cJ aP top_P bottom_P))) o8) : V p l e (rmO 3 66) s m args below meth c 2 D A 0 0 Q 2 [(0, .ref (aP 0)), (1, .int s9)] [] (wP cI cJ aP top_P bottom_P) := lp_ok (Pσ := fun s8 => V p l e (rmO 3 66) s m args below meth c 2 D A 0 0 Q 2 [(0, .ref (aP 0)), (1, .int s8)] [] (wP cI cJ aP top_P bottom_P)) (Pρ := Sum.elim (fun r8 => V p l e (rmO 3 66) s m args below meth c 2 D A 0 0 Q 25 [] [] (wP cI cJ aP top_P bottom_P)) (fun r8 => V p l e (rmO 3 66) s m args below meth c 2 D A 0 0 Q 17 [] [] (wP cI cJ aP top_P bottom_P))) (fun s o h hl hx => t_X0_anySingle_B2 C s o h hl (fun r e => hx _ e) (fun r e => hx _ e)) n8 s9 o8 h hk
set_option maxHeartbeats 4000000 in
set_option maxRecDepth 100000 in
theorem c_X0_anySingle (l : Launch) (D : va_G) (cI cJ : ClassId) (aP : Nat → Nat) (top_P : (Nat → Int32)) (bottom_P : (Nat → Int32)) (r : Int32) (h : f_X0_anySingle top_P bottom_P = some r) : Cti l D cI cJ yX0_anySingle cX0_anySingle 2 (some .boolean) 3 66 [.ref (aP 0)] (wP cI cJ aP top_P bottom_P) (wP cI cJ aP top_P bottom_P) r := by
  refine mk_z [(0, .ref (aP 0))] (by decide) rfl (Nat.le_of_ble_eq_true rfl) rfl (fun p e s m args below meth c A Q C hk => ?_)
  unfold f_X0_anySingle at h
  refine v_iconst (v := 1) C dX0_anySingle_0 (by decide) ?_
  refine v_istore_n C [(1, .int 1), (0, .ref (aP 0))] dX0_anySingle_1 rfl (by decide) rfl ?_
  obtain ⟨r, h1, h⟩ := bind_el h
  refine v_perm [1, 0] rfl ?_
  rcases r with _ | _
  · refine t_X0_anySingle_L2 C (s9 := 1) h1 ?_
    show V p l e (rmO 3 66) s m args below meth c 2 D A 0 0 Q 25 [] [] (wP cI cJ aP top_P bottom_P)
    try dsimp only at h
    refine v_iconst (v := 0) C dX0_anySingle_25 (by decide) ?_
    cases h
    exact hk _ _ dX0_anySingle_26 (Or.inl rfl)
  · refine t_X0_anySingle_L2 C (s9 := 1) h1 ?_
    show V p l e (rmO 3 66) s m args below meth c 2 D A 0 0 Q 17 [] [] (wP cI cJ aP top_P bottom_P)
    try dsimp only at h
    refine v_iconst (v := 1) C dX0_anySingle_17 (by decide) ?_
    cases h
    exact hk _ _ dX0_anySingle_18 (Or.inr rfl)
def f_X0_longNetsAt_B4 (x1 : Int32) (top_P : (Nat → Int32)) (bottom_P : (Nat → Int32)) : (Int32 × Int32) → Option ((Int32 × Int32) ⊕ Int32)
  | (x2, x3) => if 9 < x3 then (some (.inr x2)) else ((f_X0_isLong top_P bottom_P x3).bind (fun r => match r with | r_1 => if r_1 = 0 then (some (.inl (x2, x3 + 1))) else ((f_X0_firstColumn top_P bottom_P x3).bind (fun r => match r with | r_2 => if x1 < r_2 then (some (.inl (x2, x3 + 1))) else ((f_X0_lastColumn top_P bottom_P x3).bind (fun r => match r with | r_3 => if r_3 < x1 then (some (.inl (x2, x3 + 1))) else (some (.inl (x2 + 1, x3 + 1)))))))))
def f_X0_longNetsAt (top_P : (Nat → Int32)) (bottom_P : (Nat → Int32)) (x1 : Int32) : Option Int32 := (lp (f_X0_longNetsAt_B4 x1 top_P bottom_P) 64 (0, 1)).bind (fun r => match r with | x2_4 => some x2_4)
theorem cw_X0_longNetsAt : CWv yX0_longNetsAt cX0_longNetsAt 4 (some .int) RX0 1 := ⟨m1_140, ms1_1, m1_2, m1_141, rfl, by decide, by decide, by decide +kernel⟩
set_option maxHeartbeats 4000000 in
set_option maxRecDepth 100000 in
theorem t_X0_longNetsAt_B4 {p : Program} {l : Launch} {e : Env} {s : State} {m : MethodId} {args : Array Value} {below : List Frame} {meth : Method} {c : Code} {D : va_G} {A : Nat → Prop} {cI cJ : ClassId} {Q : State → Prop} (C : Cx p s m args c cX0_longNetsAt 4 RX0 D A cI cJ) {aP : Nat → Nat} {x1 : Int32} {top_P : (Nat → Int32)} {bottom_P : (Nat → Int32)} (s8 : (Int32 × Int32)) (o8 : (Int32 × Int32) ⊕ Int32) (h : f_X0_longNetsAt_B4 x1 top_P bottom_P s8 = some o8) (hl : ∀ s8, o8 = .inl s8 → V p l e (rmO 4 87) s m args below meth c 4 D A 0 0 Q 4 [(0, .ref (aP 0)), (1, .int x1), (2, .int s8.1), (3, .int s8.2)] [] (wP cI cJ aP top_P bottom_P)) (hx : ∀ r8, o8 = .inr r8 → V p l e (rmO 4 87) s m args below meth c 4 D A 0 0 Q 45 [(2, .int r8)] [] (wP cI cJ aP top_P bottom_P)) : V p l e (rmO 4 87) s m args below meth c 4 D A 0 0 Q 4 [(0, .ref (aP 0)), (1, .int x1), (2, .int s8.1), (3, .int s8.2)] [] (wP cI cJ aP top_P bottom_P) := by
  obtain ⟨x2, x3⟩ := s8
  unfold f_X0_longNetsAt_B4 at h
  show V p l e (rmO 4 87) s m args below meth c 4 D A 0 0 Q 4 [(0, .ref (aP 0)), (1, .int x1), (2, .int x2), (3, .int x3)] [] (wP cI cJ aP top_P bottom_P)
  refine v_iload_n C 3 dX0_longNetsAt_4 rfl rfl ?_
  refine v_bipush (v := 9) C dX0_longNetsAt_5 (by decide) ?_
  refine v_icmp_gt (tgt := 45) C dX0_longNetsAt_7 (by decide) h (fun h => ?_) (fun h => ?_)
  · refine v_perm [2] rfl ?_
    cases h
    exact hx _ rfl
  · refine v_aload_n C 0 dX0_longNetsAt_10 rfl rfl ?_
    refine v_iload_n C 3 dX0_longNetsAt_11 rfl rfl ?_
    obtain ⟨r, h1, h⟩ := bind_el h
    obtain ⟨r_1, rfl⟩ : ∃ z, z = r := ⟨_, rfl⟩
    try dsimp only at h
    refine v_callVi (As := [.int x3]) (st := []) (wr := []) (w1 := (wP cI cJ aP top_P bottom_P)) (ws' := (wP cI cJ aP top_P bottom_P)) (isC := [0, 1, 2]) (isR := []) (pm := [0, 1, 2]) C (c_X0_isLong l D cI cJ aP top_P bottom_P x3 r_1 h1) cw_X0_isLong 0 rfl rfl m1_142 dX0_longNetsAt_12 rfl ⟨Nat.le_of_ble_eq_true rfl, Nat.le_of_ble_eq_true rfl⟩ (Nat.le_of_ble_eq_true rfl) ⟨Nat.le_refl 0, Nat.le_refl 0⟩ ⟨rfl, rfl, rfl, rfl, by decide, rfl, rfl⟩ ?_
    refine v_if_eq (tgt := 39) C dX0_longNetsAt_15 (by decide) h (fun h => ?_) (fun h => ?_)
    · refine v_iinc C [(3, .int (x3 + 1)), (0, .ref (aP 0)), (1, .int x1), (2, .int x2)] 3 dX0_longNetsAt_39 rfl rfl (by decide) rfl ?_
      refine v_goto (tgt := 4) C dX0_longNetsAt_42 (by decide) ?_
      refine v_perm [1, 2, 3, 0] rfl ?_
      cases h
      exact hl _ rfl
    · refine v_aload_n C 0 dX0_longNetsAt_18 rfl rfl ?_
      refine v_iload_n C 3 dX0_longNetsAt_19 rfl rfl ?_
      obtain ⟨r, h1, h⟩ := bind_el h
      obtain ⟨r_2, rfl⟩ : ∃ z, z = r := ⟨_, rfl⟩
      try dsimp only at h
      refine v_callVi (As := [.int x3]) (st := []) (wr := []) (w1 := (wP cI cJ aP top_P bottom_P)) (ws' := (wP cI cJ aP top_P bottom_P)) (isC := [0, 1, 2]) (isR := []) (pm := [0, 1, 2]) C (c_X0_firstColumn l D cI cJ aP top_P bottom_P x3 r_2 h1) cw_X0_firstColumn 0 rfl rfl m1_154 dX0_longNetsAt_20 rfl ⟨Nat.le_of_ble_eq_true rfl, Nat.le_of_ble_eq_true rfl⟩ (Nat.le_of_ble_eq_true rfl) ⟨Nat.le_refl 0, Nat.le_refl 0⟩ ⟨rfl, rfl, rfl, rfl, by decide, rfl, rfl⟩ ?_
      refine v_iload_n C 1 dX0_longNetsAt_23 rfl rfl ?_
      refine v_icmp_gt (tgt := 39) C dX0_longNetsAt_24 (by decide) h (fun h => ?_) (fun h => ?_)
      · refine v_iinc C [(3, .int (x3 + 1)), (0, .ref (aP 0)), (1, .int x1), (2, .int x2)] 3 dX0_longNetsAt_39 rfl rfl (by decide) rfl ?_
        refine v_goto (tgt := 4) C dX0_longNetsAt_42 (by decide) ?_
        refine v_perm [1, 2, 3, 0] rfl ?_
        cases h
        exact hl _ rfl
      · refine v_iload_n C 1 dX0_longNetsAt_27 rfl rfl ?_
        refine v_aload_n C 0 dX0_longNetsAt_28 rfl rfl ?_
        refine v_iload_n C 3 dX0_longNetsAt_29 rfl rfl ?_
        obtain ⟨r, h1, h⟩ := bind_el h
        obtain ⟨r_3, rfl⟩ : ∃ z, z = r := ⟨_, rfl⟩
        try dsimp only at h
        refine v_callVi (As := [.int x3]) (st := [.int x1]) (wr := []) (w1 := (wP cI cJ aP top_P bottom_P)) (ws' := (wP cI cJ aP top_P bottom_P)) (isC := [0, 1, 2]) (isR := []) (pm := [0, 1, 2]) C (c_X0_lastColumn l D cI cJ aP top_P bottom_P x3 r_3 h1) cw_X0_lastColumn 0 rfl rfl m1_162 dX0_longNetsAt_30 rfl ⟨Nat.le_of_ble_eq_true rfl, Nat.le_of_ble_eq_true rfl⟩ (Nat.le_of_ble_eq_true rfl) ⟨Nat.le_refl 0, Nat.le_refl 0⟩ ⟨rfl, rfl, rfl, rfl, by decide, rfl, rfl⟩ ?_
        refine v_icmp_gt (tgt := 39) C dX0_longNetsAt_33 (by decide) h (fun h => ?_) (fun h => ?_)
        · refine v_iinc C [(3, .int (x3 + 1)), (0, .ref (aP 0)), (1, .int x1), (2, .int x2)] 3 dX0_longNetsAt_39 rfl rfl (by decide) rfl ?_
          refine v_goto (tgt := 4) C dX0_longNetsAt_42 (by decide) ?_
          refine v_perm [1, 2, 3, 0] rfl ?_
          cases h
          exact hl _ rfl
        · refine v_iinc C [(2, .int (x2 + 1)), (0, .ref (aP 0)), (1, .int x1), (3, .int x3)] 2 dX0_longNetsAt_36 rfl rfl (by decide) rfl ?_
          refine v_iinc C [(3, .int (x3 + 1)), (2, .int (x2 + 1)), (0, .ref (aP 0)), (1, .int x1)] 3 dX0_longNetsAt_39 rfl rfl (by decide) rfl ?_
          refine v_goto (tgt := 4) C dX0_longNetsAt_42 (by decide) ?_
          refine v_perm [2, 3, 1, 0] rfl ?_
          cases h
          exact hl _ rfl
set_option maxHeartbeats 4000000 in
set_option maxRecDepth 100000 in
theorem t_X0_longNetsAt_L4 {p : Program} {l : Launch} {e : Env} {s : State} {m : MethodId} {args : Array Value} {below : List Frame} {meth : Method} {c : Code} {D : va_G} {A : Nat → Prop} {cI cJ : ClassId} {Q : State → Prop} (C : Cx p s m args c cX0_longNetsAt 4 RX0 D A cI cJ) {aP : Nat → Nat} {x1 : Int32} {top_P : (Nat → Int32)} {bottom_P : (Nat → Int32)} {n8 : Nat} {s9 : (Int32 × Int32)} {o8 : Int32} (h : lp (f_X0_longNetsAt_B4 x1 top_P bottom_P) n8 s9 = some o8) (hk : V p l e (rmO 4 87) s m args below meth c 4 D A 0 0 Q 45 [(2, .int o8)] [] (wP cI cJ aP top_P bottom_P)) : V p l e (rmO 4 87) s m args below meth c 4 D A 0 0 Q 4 [(0, .ref (aP 0)), (1, .int x1), (2, .int s9.1), (3, .int s9.2)] [] (wP cI cJ aP top_P bottom_P) := lp_ok (Pσ := fun s8 => V p l e (rmO 4 87) s m args below meth c 4 D A 0 0 Q 4 [(0, .ref (aP 0)), (1, .int x1), (2, .int s8.1), (3, .int s8.2)] [] (wP cI cJ aP top_P bottom_P)) (Pρ := fun r8 => V p l e (rmO 4 87) s m args below meth c 4 D A 0 0 Q 45 [(2, .int r8)] [] (wP cI cJ aP top_P bottom_P)) (fun s o h hl hx => t_X0_longNetsAt_B4 C s o h hl hx) n8 s9 o8 h hk
set_option maxHeartbeats 4000000 in
set_option maxRecDepth 100000 in
theorem c_X0_longNetsAt (l : Launch) (D : va_G) (cI cJ : ClassId) (aP : Nat → Nat) (top_P : (Nat → Int32)) (bottom_P : (Nat → Int32)) (x1 : Int32) (r : Int32) (h : f_X0_longNetsAt top_P bottom_P x1 = some r) : Cti l D cI cJ yX0_longNetsAt cX0_longNetsAt 4 (some .int) 4 87 [.ref (aP 0), .int x1] (wP cI cJ aP top_P bottom_P) (wP cI cJ aP top_P bottom_P) r := by
  refine mk_i [(0, .ref (aP 0)), (1, .int x1)] (by decide) rfl (Nat.le_of_ble_eq_true rfl) rfl (fun p e s m args below meth c A Q C hk => ?_)
  unfold f_X0_longNetsAt at h
  refine v_iconst (v := 0) C dX0_longNetsAt_0 (by decide) ?_
  refine v_istore_n C [(2, .int 0), (0, .ref (aP 0)), (1, .int x1)] dX0_longNetsAt_1 rfl (by decide) rfl ?_
  refine v_iconst (v := 1) C dX0_longNetsAt_2 (by decide) ?_
  refine v_istore_n C [(3, .int 1), (2, .int 0), (0, .ref (aP 0)), (1, .int x1)] dX0_longNetsAt_3 rfl (by decide) rfl ?_
  obtain ⟨r, h1, h⟩ := bind_el h
  refine v_perm [2, 3, 1, 0] rfl ?_
  obtain ⟨x2_4, rfl⟩ : ∃ z, z = r := ⟨_, rfl⟩
  refine t_X0_longNetsAt_L4 C (s9 := (0, 1)) h1 ?_
  show V p l e (rmO 4 87) s m args below meth c 4 D A 0 0 Q 45 [(2, .int x2_4)] [] (wP cI cJ aP top_P bottom_P)
  try dsimp only at h
  refine v_iload_n C 0 dX0_longNetsAt_45 rfl rfl ?_
  cases h
  exact hk _ _ dX0_longNetsAt_46
def f_X0_put (top_P : (Nat → Int32)) (bottom_P : (Nat → Int32)) (x1 : Int32) (x2 : Int32) (x3 : Int32) : Option (Int32 × (Nat → Int32) × (Nat → Int32)) := if x2 = 0 then (bnd x1 20 (bnd x1 20 (some (bottom_P x1.toNatClampNeg, top_P, upd bottom_P x1.toNatClampNeg x3)))) else (bnd x1 20 (bnd x1 20 (some (top_P x1.toNatClampNeg, upd top_P x1.toNatClampNeg x3, bottom_P))))
theorem cw_X0_put : CWv yX0_put cX0_put 6 (some .int) RX0 3 := ⟨m2_103, ms2_5, m1_2, m2_104, rfl, by decide, by decide, by decide +kernel⟩
set_option maxHeartbeats 4000000 in
set_option maxRecDepth 100000 in
theorem c_X0_put (l : Launch) (D : va_G) (cI cJ : ClassId) (aP : Nat → Nat) (top_P : (Nat → Int32)) (bottom_P : (Nat → Int32)) (x1 : Int32) (x2 : Int32) (x3 : Int32) (r : Int32) (top_P' : (Nat → Int32)) (bottom_P' : (Nat → Int32)) (h : f_X0_put top_P bottom_P x1 x2 x3 = some (r, top_P', bottom_P')) : Cti l D cI cJ yX0_put cX0_put 6 (some .int) 0 0 [.ref (aP 0), .int x1, .int x2, .int x3] (wP cI cJ aP top_P bottom_P) (wP cI cJ aP top_P' bottom_P') r := by
  refine mk_i [(0, .ref (aP 0)), (1, .int x1), (2, .int x2), (3, .int x3)] (by decide) rfl (Nat.le_of_ble_eq_true rfl) rfl (fun p e s m args below meth c A Q C hk => ?_)
  unfold f_X0_put at h
  refine v_iload_n C 2 dX0_put_0 rfl rfl ?_
  refine v_if_eq (tgt := 11) C dX0_put_1 (by decide) h (fun h => ?_) (fun h => ?_)
  · refine v_aload_n C 0 dX0_put_11 rfl rfl ?_
    refine v_get C 0 1 iuX0 rfl rfl (by decide) m1_33 rfl rfl dX0_put_12 ?_
    refine v_astore C [(4, .ref (aP 2)), (0, .ref (aP 0)), (1, .int x1), (2, .int x2), (3, .int x3)] dX0_put_15 (by decide) rfl ?_
    refine v_aload C 0 dX0_put_17 rfl ?_
    refine v_iload_n C 2 dX0_put_19 rfl rfl ?_
    refine v_iald C 2 rfl dX0_put_20 h (fun h => ?_)
    refine v_istore C [(5, .int (bottom_P x1.toNatClampNeg)), (4, .ref (aP 2)), (0, .ref (aP 0)), (1, .int x1), (2, .int x2), (3, .int x3)] dX0_put_21 (by decide) rfl ?_
    refine v_aload C 1 dX0_put_23 rfl ?_
    refine v_iload_n C 3 dX0_put_25 rfl rfl ?_
    refine v_iload_n C 5 dX0_put_26 rfl rfl ?_
    refine v_iast C (wP cI cJ aP top_P (upd bottom_P x1.toNatClampNeg x3)) 2 rfl dX0_put_27 h rfl (fun h => ?_)
    refine v_iload C 0 dX0_put_28 rfl ?_
    cases h
    exact hk _ _ dX0_put_30
  · refine v_aload_n C 0 dX0_put_4 rfl rfl ?_
    refine v_get C 0 0 iuX0 rfl rfl (by decide) m1_30 rfl rfl dX0_put_5 ?_
    refine v_goto (tgt := 15) C dX0_put_8 (by decide) ?_
    refine v_astore C [(4, .ref (aP 1)), (0, .ref (aP 0)), (1, .int x1), (2, .int x2), (3, .int x3)] dX0_put_15 (by decide) rfl ?_
    refine v_aload C 0 dX0_put_17 rfl ?_
    refine v_iload_n C 2 dX0_put_19 rfl rfl ?_
    refine v_iald C 1 rfl dX0_put_20 h (fun h => ?_)
    refine v_istore C [(5, .int (top_P x1.toNatClampNeg)), (4, .ref (aP 1)), (0, .ref (aP 0)), (1, .int x1), (2, .int x2), (3, .int x3)] dX0_put_21 (by decide) rfl ?_
    refine v_aload C 1 dX0_put_23 rfl ?_
    refine v_iload_n C 3 dX0_put_25 rfl rfl ?_
    refine v_iload_n C 5 dX0_put_26 rfl rfl ?_
    refine v_iast C (wP cI cJ aP (upd top_P x1.toNatClampNeg x3) bottom_P) 1 rfl dX0_put_27 h rfl (fun h => ?_)
    refine v_iload C 0 dX0_put_28 rfl ?_
    cases h
    exact hk _ _ dX0_put_30

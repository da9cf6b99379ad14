abbrev wR (cI cJ : ClassId) (aR : Nat → Nat) (reach_R : (Nat → Int64)) (steps_R : (Nat → Int32)) (told_R : (Nat → Int32)) (length_R : Int32) : va_W := [(aR 0, .inr (2, [.ref (aR 1), .ref (aR 2), .ref (aR 3), .int length_R])), (aR 1, .inl (cJ, 38, .inr (.inl reach_R))), (aR 2, .inl (cI, 38, .inl steps_R)), (aR 3, .inl (cI, 38, .inl told_R))]
def f_X2_toldAt (told_R : (Nat → Int32)) (length_R : Int32) (x1 : Int32) : Option Int32 := if x1 < 0 then (some (-1)) else (if length_R ≤ x1 then (some (-1)) else (bnd x1 38 (some (told_R x1.toNatClampNeg))))
theorem cw_X2_toldAt : CWv yX2_toldAt cX2_toldAt 2 (some .int) RX2 1 := ⟨m1_132, ms1_0, m1_3, m1_133, rfl, by decide, by decide, by decide +kernel⟩
set_option maxHeartbeats 4000000 in
set_option maxRecDepth 100000 in
theorem c_X2_toldAt (l : Launch) (D : va_G) (cI cJ : ClassId) (aR : Nat → Nat) (reach_R : (Nat → Int64)) (steps_R : (Nat → Int32)) (told_R : (Nat → Int32)) (length_R : Int32) (x1 : Int32) (r : Int32) (h : f_X2_toldAt told_R length_R x1 = some r) : Cti l D cI cJ yX2_toldAt cX2_toldAt 2 (some .int) 0 0 [.ref (aR 0), .int x1] (wR cI cJ aR reach_R steps_R told_R length_R) (wR cI cJ aR reach_R steps_R told_R length_R) r := by
  refine mk_i [(0, .ref (aR 0)), (1, .int x1)] (by decide) rfl (Nat.le_of_ble_eq_true rfl) rfl (fun p e s m args below meth c A Q C hk => ?_)
  unfold f_X2_toldAt at h
  refine v_iload_n C 1 dX2_toldAt_0 rfl rfl ?_
  refine v_if_lt (tgt := 21) C dX2_toldAt_1 (by decide) h (fun h => ?_) (fun h => ?_)
  · refine v_iconst (v := (-1)) C dX2_toldAt_21 (by decide) ?_
    cases h
    exact hk _ _ dX2_toldAt_22
  · refine v_iload_n C 1 dX2_toldAt_4 rfl rfl ?_
    refine v_aload_n C 0 dX2_toldAt_5 rfl rfl ?_
    refine v_get C 0 3 iuX2 rfl rfl (by decide) m1_51 rfl rfl dX2_toldAt_6 ?_
    refine v_icmp_ge (tgt := 21) C dX2_toldAt_9 (by decide) h (fun h => ?_) (fun h => ?_)
    · refine v_iconst (v := (-1)) C dX2_toldAt_21 (by decide) ?_
      cases h
      exact hk _ _ dX2_toldAt_22
    · refine v_aload_n C 0 dX2_toldAt_12 rfl rfl ?_
      refine v_get C 0 2 iuX2 rfl rfl (by decide) m1_50 rfl rfl dX2_toldAt_13 ?_
      refine v_iload_n C 1 dX2_toldAt_16 rfl rfl ?_
      refine v_iald C 3 rfl dX2_toldAt_17 h (fun h => ?_)
      refine v_goto (tgt := 22) C dX2_toldAt_18 (by decide) ?_
      cases h
      exact hk _ _ dX2_toldAt_22
abbrev wRL (cI cJ : ClassId) (aR : Nat → Nat) (aL : Nat → Nat) (reach_R : (Nat → Int64)) (steps_R : (Nat → Int32)) (told_R : (Nat → Int32)) (length_R : Int32) (netOf_L : (Nat → Int32)) (left_L : (Nat → Int32)) (right_L : (Nat → Int32)) (trackOf_L : (Nat → Int32)) (touched_L : (Nat → Int32)) (below_L : (Nat → Int64)) (byLeft_L : (Nat → Int32)) (size_L : Int32) (tracks_L : Int32) : va_W := [(aR 0, .inr (2, [.ref (aR 1), .ref (aR 2), .ref (aR 3), .int length_R])), (aR 1, .inl (cJ, 38, .inr (.inl reach_R))), (aR 2, .inl (cI, 38, .inl steps_R)), (aR 3, .inl (cI, 38, .inl told_R)), (aL 0, .inr (1, [.ref (aL 1), .ref (aL 2), .ref (aL 3), .ref (aL 4), .ref (aL 5), .ref (aL 6), .ref (aL 7), .int size_L, .int tracks_L])), (aL 1, .inl (cI, 38, .inl netOf_L)), (aL 2, .inl (cI, 38, .inl left_L)), (aL 3, .inl (cI, 38, .inl right_L)), (aL 4, .inl (cI, 38, .inl trackOf_L)), (aL 5, .inl (cI, 38, .inl touched_L)), (aL 6, .inl (cJ, 38, .inr (.inl below_L))), (aL 7, .inl (cI, 38, .inl byLeft_L))]
def f_X2_findReach_B27 (x2 : Int32) (size_L : Int32) : (Int32 × (Nat → Int64)) → Option ((Int32 × (Nat → Int64)) ⊕ (Nat → Int64))
  | (x3, reach_R) => if size_L ≤ x3 then (some (.inr reach_R)) else (bnd x3 38 ((f_X1_isIn (reach_R x3.toNatClampNeg) x2).bind (fun r => match r with | r_1 => if r_1 = 0 then (some (.inl (x3 + 1, reach_R))) else (bnd x3 38 (bnd x2 38 (bnd x3 38 (some (.inl ((x3 + 1, vp_updL reach_R x3.toNatClampNeg ((reach_R x3.toNatClampNeg) ||| (reach_R x2.toNatClampNeg))))))))))))
def f_X2_findReach_B17 (size_L : Int32) : (Int32 × (Nat → Int64)) → Option ((Int32 × (Nat → Int64)) ⊕ (Nat → Int64))
  | (x2, reach_R) => if size_L ≤ x2 then (some (.inr reach_R)) else ((lp (f_X2_findReach_B27 x2 size_L) 64 (0, reach_R)).bind (fun r => match r with | reach_R_2 => some (.inl (x2 + 1, reach_R_2))))
def f_X2_findReach (reach_R : (Nat → Int64)) (below_L : (Nat → Int64)) (size_L : Int32) : Option (Nat → Int64) := (lp (f_X2_findReach_B17 size_L) 64 (0, va_cpy below_L reach_R 0 0 38)).bind (fun r => match r with | reach_R_3 => some reach_R_3)
theorem cw_X2_findReach : CWv yX2_findReach cX2_findReach 4 none RX2 1 := ⟨m2_128, ms2_9, m1_3, m2_129, rfl, by decide, by decide, by decide +kernel⟩
set_option maxHeartbeats 4000000 in
set_option maxRecDepth 100000 in
theorem t_X2_findReach_B27 {p : Program} {l : Launch} {e : Env} {s : State} {m : MethodId} {args : Array Value} {below : List Frame} {meth : Method} {c : Code} {D : va_G} {A : Nat → Prop} {cI cJ : ClassId} {Q : State → Prop} (C : Cx p s m args c cX2_findReach 4 RX2 D A cI cJ) {aR : Nat → Nat} {aL : Nat → Nat} {x2 : Int32} {steps_R : (Nat → Int32)} {told_R : (Nat → Int32)} {length_R : Int32} {netOf_L : (Nat → Int32)} {left_L : (Nat → Int32)} {right_L : (Nat → Int32)} {trackOf_L : (Nat → Int32)} {touched_L : (Nat → Int32)} {below_L : (Nat → Int64)} {byLeft_L : (Nat → Int32)} {size_L : Int32} {tracks_L : Int32} (s8 : (Int32 × (Nat → Int64))) (o8 : (Int32 × (Nat → Int64)) ⊕ (Nat → Int64)) (h : f_X2_findReach_B27 x2 size_L s8 = some o8) (hl : ∀ s8, o8 = .inl s8 → V p l e (rmO 1 40) s m args below meth c 4 D A 0 0 Q 27 [(0, .ref (aR 0)), (1, .ref (aL 0)), (2, .int x2), (3, .int s8.1)] [] (wRL cI cJ aR aL s8.2 steps_R told_R length_R netOf_L left_L right_L trackOf_L touched_L below_L byLeft_L size_L tracks_L)) (hx : ∀ r8, o8 = .inr r8 → V p l e (rmO 1 40) s m args below meth c 4 D A 0 0 Q 69 [(0, .ref (aR 0)), (1, .ref (aL 0)), (2, .int x2)] [] (wRL cI cJ aR aL r8 steps_R told_R length_R netOf_L left_L right_L trackOf_L touched_L below_L byLeft_L size_L tracks_L)) : V p l e (rmO 1 40) s m args below meth c 4 D A 0 0 Q 27 [(0, .ref (aR 0)), (1, .ref (aL 0)), (2, .int x2), (3, .int s8.1)] [] (wRL cI cJ aR aL s8.2 steps_R told_R length_R netOf_L left_L right_L trackOf_L touched_L below_L byLeft_L size_L tracks_L) := by
  obtain ⟨x3, reach_R⟩ := s8
  unfold f_X2_findReach_B27 at h
  show V p l e (rmO 1 40) s m args below meth c 4 D A 0 0 Q 27 [(0, .ref (aR 0)), (1, .ref (aL 0)), (2, .int x2), (3, .int x3)] [] (wRL cI cJ aR aL reach_R steps_R told_R length_R netOf_L left_L right_L trackOf_L touched_L below_L byLeft_L size_L tracks_L)
  refine v_iload_n C 3 dX2_findReach_27 rfl rfl ?_
  refine v_aload_n C 1 dX2_findReach_28 rfl rfl ?_
  refine v_getN C 4 7 iuX1 rfl rfl (by decide) nw_12 rfl rfl dX2_findReach_29 ?_
  refine v_icmp_ge (tgt := 69) C dX2_findReach_32 (by decide) h (fun h => ?_) (fun h => ?_)
  · refine v_perm [0, 1, 2] rfl ?_
    cases h
    exact hx _ rfl
  · refine v_aload_n C 0 dX2_findReach_35 rfl rfl ?_
    refine v_get C 0 0 iuX2 rfl rfl (by decide) m1_48 rfl rfl dX2_findReach_36 ?_
    refine v_iload_n C 3 dX2_findReach_39 rfl rfl ?_
    refine v_lald C 1 rfl dX2_findReach_40 h (fun h => ?_)
    refine v_iload_n C 2 dX2_findReach_41 rfl rfl ?_
    obtain ⟨r, h1, h⟩ := bind_el h
    obtain ⟨r_1, rfl⟩ : ∃ z, z = r := ⟨_, rfl⟩
    try dsimp only at h
    refine v_callSNi (As := [.long (reach_R x3.toNatClampNeg), .int x2]) (st := []) (wr := [(aR 0, .inr (2, [.ref (aR 1), .ref (aR 2), .ref (aR 3), .int length_R])), (aR 1, .inl (cJ, 38, .inr (.inl reach_R))), (aR 2, .inl (cI, 38, .inl steps_R)), (aR 3, .inl (cI, 38, .inl told_R)), (aL 0, .inr (1, [.ref (aL 1), .ref (aL 2), .ref (aL 3), .ref (aL 4), .ref (aL 5), .ref (aL 6), .ref (aL 7), .int size_L, .int tracks_L])), (aL 1, .inl (cI, 38, .inl netOf_L)), (aL 2, .inl (cI, 38, .inl left_L)), (aL 3, .inl (cI, 38, .inl right_L)), (aL 4, .inl (cI, 38, .inl trackOf_L)), (aL 5, .inl (cI, 38, .inl touched_L)), (aL 6, .inl (cJ, 38, .inr (.inl below_L))), (aL 7, .inl (cI, 38, .inl byLeft_L))]) (w1 := []) (ws' := (wRL cI cJ aR aL reach_R steps_R told_R length_R netOf_L left_L right_L trackOf_L touched_L below_L byLeft_L size_L tracks_L)) (isC := []) (isR := [0, 1, 2, 3, 4, 5, 6, 7, 8, 9, 10, 11]) (pm := [0, 1, 2, 3, 4, 5, 6, 7, 8, 9, 10, 11]) C (c_X1_isIn l D cI cJ (reach_R x3.toNatClampNeg) x2 r_1 h1) cw_X1_isIn nw_28 dX2_findReach_42 rfl ⟨Nat.le_of_ble_eq_true rfl, Nat.le_of_ble_eq_true rfl⟩ (Nat.le_of_ble_eq_true rfl) ⟨Nat.le_refl 0, Nat.le_refl 0⟩ ⟨rfl, rfl, rfl, rfl, by decide, rfl, rfl⟩ ?_
    refine v_if_eq (tgt := 63) C dX2_findReach_45 (by decide) h (fun h => ?_) (fun h => ?_)
    · refine v_iinc C [(3, .int (x3 + 1)), (0, .ref (aR 0)), (1, .ref (aL 0)), (2, .int x2)] 3 dX2_findReach_63 rfl rfl (by decide) rfl ?_
      refine v_goto (tgt := 27) C dX2_findReach_66 (by decide) ?_
      refine v_perm [1, 2, 3, 0] rfl ?_
      cases h
      exact hl _ rfl
    · refine v_aload_n C 0 dX2_findReach_48 rfl rfl ?_
      refine v_get C 0 0 iuX2 rfl rfl (by decide) m1_48 rfl rfl dX2_findReach_49 ?_
      refine v_iload_n C 3 dX2_findReach_52 rfl rfl ?_
      refine v_dup2 C dX2_findReach_53 rfl rfl ?_
      refine v_lald C 1 rfl dX2_findReach_54 h (fun h => ?_)
      refine v_aload_n C 0 dX2_findReach_55 rfl rfl ?_
      refine v_get C 0 0 iuX2 rfl rfl (by decide) m1_48 rfl rfl dX2_findReach_56 ?_
      refine v_iload_n C 2 dX2_findReach_59 rfl rfl ?_
      refine v_lald C 1 rfl dX2_findReach_60 h (fun h => ?_)
      refine v_lor C dX2_findReach_61 ?_
      refine v_last C (wRL cI cJ aR aL (vp_updL reach_R x3.toNatClampNeg ((reach_R x3.toNatClampNeg) ||| (reach_R x2.toNatClampNeg))) steps_R told_R length_R netOf_L left_L right_L trackOf_L touched_L below_L byLeft_L size_L tracks_L) 1 rfl dX2_findReach_62 h rfl (fun h => ?_)
      refine v_iinc C [(3, .int (x3 + 1)), (0, .ref (aR 0)), (1, .ref (aL 0)), (2, .int x2)] 3 dX2_findReach_63 rfl rfl (by decide) rfl ?_
      refine v_goto (tgt := 27) C dX2_findReach_66 (by decide) ?_
      refine v_perm [1, 2, 3, 0] rfl ?_
      cases h
      exact hl _ rfl
set_option maxHeartbeats 4000000 in
set_option maxRecDepth 100000 in
theorem t_X2_findReach_L27 {p : Program} {l : Launch} {e : Env} {s : State} {m : MethodId} {args : Array Value} {below : List Frame} {meth : Method} {c : Code} {D : va_G} {A : Nat → Prop} {cI cJ : ClassId} {Q : State → Prop} (C : Cx p s m args c cX2_findReach 4 RX2 D A cI cJ) {aR : Nat → Nat} {aL : Nat → Nat} {x2 : Int32} {steps_R : (Nat → Int32)} {told_R : (Nat → Int32)} {length_R : Int32} {netOf_L : (Nat → Int32)} {left_L : (Nat → Int32)} {right_L : (Nat → Int32)} {trackOf_L : (Nat → Int32)} {touched_L : (Nat → Int32)} {below_L : (Nat → Int64)} {byLeft_L : (Nat → Int32)} {size_L : Int32} {tracks_L : Int32} {n8 : Nat} {s9 : (Int32 × (Nat → Int64))} {o8 : (Nat → Int64)} (h : lp (f_X2_findReach_B27 x2 size_L) n8 s9 = some o8) (hk : V p l e (rmO 1 40) s m args below meth c 4 D A 0 0 Q 69 [(0, .ref (aR 0)), (1, .ref (aL 0)), (2, .int x2)] [] (wRL cI cJ aR aL o8 steps_R told_R length_R netOf_L left_L right_L trackOf_L touched_L below_L byLeft_L size_L tracks_L)) : V p l e (rmO 1 40) s m args below meth c 4 D A 0 0 Q 27 [(0, .ref (aR 0)), (1, .ref (aL 0)), (2, .int x2), (3, .int s9.1)] [] (wRL cI cJ aR aL s9.2 steps_R told_R length_R netOf_L left_L right_L trackOf_L touched_L below_L byLeft_L size_L tracks_L) := lp_ok (Pσ := fun s8 => V p l e (rmO 1 40) s m args below meth c 4 D A 0 0 Q 27 [(0, .ref (aR 0)), (1, .ref (aL 0)), (2, .int x2), (3, .int s8.1)] [] (wRL cI cJ aR aL s8.2 steps_R told_R length_R netOf_L left_L right_L trackOf_L touched_L below_L byLeft_L size_L tracks_L)) (Pρ := fun r8 => V p l e (rmO 1 40) s m args below meth c 4 D A 0 0 Q 69 [(0, .ref (aR 0)), (1, .ref (aL 0)), (2, .int x2)] [] (wRL cI cJ aR aL r8 steps_R told_R length_R netOf_L left_L right_L trackOf_L touched_L below_L byLeft_L size_L tracks_L)) (fun s o h hl hx => t_X2_findReach_B27 C s o h hl hx) n8 s9 o8 h hk
set_option maxHeartbeats 4000000 in
set_option maxRecDepth 100000 in
theorem t_X2_findReach_B17 {p : Program} {l : Launch} {e : Env} {s : State} {m : MethodId} {args : Array Value} {below : List Frame} {meth : Method} {c : Code} {D : va_G} {A : Nat → Prop} {cI cJ : ClassId} {Q : State → Prop} (C : Cx p s m args c cX2_findReach 4 RX2 D A cI cJ) {aR : Nat → Nat} {aL : Nat → Nat} {steps_R : (Nat → Int32)} {told_R : (Nat → Int32)} {length_R : Int32} {netOf_L : (Nat → Int32)} {left_L : (Nat → Int32)} {right_L : (Nat → Int32)} {trackOf_L : (Nat → Int32)} {touched_L : (Nat → Int32)} {below_L : (Nat → Int64)} {byLeft_L : (Nat → Int32)} {size_L : Int32} {tracks_L : Int32} (s8 : (Int32 × (Nat → Int64))) (o8 : (Int32 × (Nat → Int64)) ⊕ (Nat → Int64)) (h : f_X2_findReach_B17 size_L s8 = some o8) (hl : ∀ s8, o8 = .inl s8 → V p l e (rmO 1 40) s m args below meth c 4 D A 0 0 Q 17 [(0, .ref (aR 0)), (1, .ref (aL 0)), (2, .int s8.1)] [] (wRL cI cJ aR aL s8.2 steps_R told_R length_R netOf_L left_L right_L trackOf_L touched_L below_L byLeft_L size_L tracks_L)) (hx : ∀ r8, o8 = .inr r8 → V p l e (rmO 1 40) s m args below meth c 4 D A 0 0 Q 75 [] [] (wRL cI cJ aR aL r8 steps_R told_R length_R netOf_L left_L right_L trackOf_L touched_L below_L byLeft_L size_L tracks_L)) : V p l e (rmO 1 40) s m args below meth c 4 D A 0 0 Q 17 [(0, .ref (aR 0)), (1, .ref (aL 0)), (2, .int s8.1)] [] (wRL cI cJ aR aL s8.2 steps_R told_R length_R netOf_L left_L right_L trackOf_L touched_L below_L byLeft_L size_L tracks_L) := by
  obtain ⟨x2, reach_R⟩ := s8
  unfold f_X2_findReach_B17 at h
  show V p l e (rmO 1 40) s m args below meth c 4 D A 0 0 Q 17 [(0, .ref (aR 0)), (1, .ref (aL 0)), (2, .int x2)] [] (wRL cI cJ aR aL reach_R steps_R told_R length_R netOf_L left_L right_L trackOf_L touched_L below_L byLeft_L size_L tracks_L)
  refine v_iload_n C 2 dX2_findReach_17 rfl rfl ?_
  refine v_aload_n C 1 dX2_findReach_18 rfl rfl ?_
  refine v_getN C 4 7 iuX1 rfl rfl (by decide) nw_12 rfl rfl dX2_findReach_19 ?_
  refine v_icmp_ge (tgt := 75) C dX2_findReach_22 (by decide) h (fun h => ?_) (fun h => ?_)
  · refine v_perm [] rfl ?_
    cases h
    exact hx _ rfl
  · refine v_iconst (v := 0) C dX2_findReach_25 (by decide) ?_
    refine v_istore_n C [(3, .int 0), (0, .ref (aR 0)), (1, .ref (aL 0)), (2, .int x2)] dX2_findReach_26 rfl (by decide) rfl ?_
    obtain ⟨r, h1, h⟩ := bind_el h
    refine v_perm [1, 2, 3, 0] rfl ?_
    obtain ⟨reach_R_2, rfl⟩ : ∃ z, z = r := ⟨_, rfl⟩
    refine t_X2_findReach_L27 C (s9 := (0, reach_R)) h1 ?_
    show V p l e (rmO 1 40) s m args below meth c 4 D A 0 0 Q 69 [(0, .ref (aR 0)), (1, .ref (aL 0)), (2, .int x2)] [] (wRL cI cJ aR aL reach_R_2 steps_R told_R length_R netOf_L left_L right_L trackOf_L touched_L below_L byLeft_L size_L tracks_L)
    try dsimp only at h
    refine v_iinc C [(2, .int (x2 + 1)), (0, .ref (aR 0)), (1, .ref (aL 0))] 2 dX2_findReach_69 rfl rfl (by decide) rfl ?_
    refine v_goto (tgt := 17) C dX2_findReach_72 (by decide) ?_
    refine v_perm [1, 2, 0] rfl ?_
    cases h
    exact hl _ rfl
set_option maxHeartbeats 4000000 in
set_option maxRecDepth 100000 in
theorem t_X2_findReach_L17 {p : Program} {l : Launch} {e : Env} {s : State} {m : MethodId} {args : Array Value} {below : List Frame} {meth : Method} {c : Code} {D : va_G} {A : Nat → Prop} {cI cJ : ClassId} {Q : State → Prop} (C : Cx p s m args c cX2_findReach 4 RX2 D A cI cJ) {aR : Nat → Nat} {aL : Nat → Nat} {steps_R : (Nat → Int32)} {told_R : (Nat → Int32)} {length_R : Int32} {netOf_L : (Nat → Int32)} {left_L : (Nat → Int32)} {right_L : (Nat → Int32)} {trackOf_L : (Nat → Int32)} {touched_L : (Nat → Int32)} {below_L : (Nat → Int64)} {byLeft_L : (Nat → Int32)} {size_L : Int32} {tracks_L : Int32} {n8 : Nat} {s9 : (Int32 × (Nat → Int64))} {o8 : (Nat → Int64)} (h : lp (f_X2_findReach_B17 size_L) n8 s9 = some o8) (hk : V p l e (rmO 1 40) s m args below meth c 4 D A 0 0 Q 75 [] [] (wRL cI cJ aR aL o8 steps_R told_R length_R netOf_L left_L right_L trackOf_L touched_L below_L byLeft_L size_L tracks_L)) : V p l e (rmO 1 40) s m args below meth c 4 D A 0 0 Q 17 [(0, .ref (aR 0)), (1, .ref (aL 0)), (2, .int s9.1)] [] (wRL cI cJ aR aL s9.2 steps_R told_R length_R netOf_L left_L right_L trackOf_L touched_L below_L byLeft_L size_L tracks_L) := lp_ok (Pσ := fun s8 => V p l e (rmO 1 40) s m args below meth c 4 D A 0 0 Q 17 [(0, .ref (aR 0)), (1, .ref (aL 0)), (2, .int s8.1)] [] (wRL cI cJ aR aL s8.2 steps_R told_R length_R netOf_L left_L right_L trackOf_L touched_L below_L byLeft_L size_L tracks_L)) (Pρ := fun r8 => V p l e (rmO 1 40) s m args below meth c 4 D A 0 0 Q 75 [] [] (wRL cI cJ aR aL r8 steps_R told_R length_R netOf_L left_L right_L trackOf_L touched_L below_L byLeft_L size_L tracks_L)) (fun s o h hl hx => t_X2_findReach_B17 C s o h hl hx) n8 s9 o8 h hk
set_option maxHeartbeats 4000000 in
set_option maxRecDepth 100000 in
theorem c_X2_findReach (l : Launch) (D : va_G) (cI cJ : ClassId) (aR : Nat → Nat) (aL : Nat → Nat) (reach_R : (Nat → Int64)) (steps_R : (Nat → Int32)) (told_R : (Nat → Int32)) (length_R : Int32) (netOf_L : (Nat → Int32)) (left_L : (Nat → Int32)) (right_L : (Nat → Int32)) (trackOf_L : (Nat → Int32)) (touched_L : (Nat → Int32)) (below_L : (Nat → Int64)) (byLeft_L : (Nat → Int32)) (size_L : Int32) (tracks_L : Int32) (reach_R' : (Nat → Int64)) (h : f_X2_findReach reach_R below_L size_L = some reach_R') : Ctv l D cI cJ yX2_findReach cX2_findReach 4 none 1 40 [.ref (aR 0), .ref (aL 0)] (wRL cI cJ aR aL reach_R steps_R told_R length_R netOf_L left_L right_L trackOf_L touched_L below_L byLeft_L size_L tracks_L) (wRL cI cJ aR aL reach_R' steps_R told_R length_R netOf_L left_L right_L trackOf_L touched_L below_L byLeft_L size_L tracks_L) := by
  refine mk_v [(0, .ref (aR 0)), (1, .ref (aL 0))] (by decide) rfl (Nat.le_of_ble_eq_true rfl) rfl (fun p e s m args below meth c A Q C hk => ?_)
  unfold f_X2_findReach at h
  refine v_aload_n C 1 dX2_findReach_0 rfl rfl ?_
  refine v_getN C 4 5 iuX1 rfl rfl (by decide) nw_11 rfl rfl dX2_findReach_1 ?_
  refine v_iconst (v := 0) C dX2_findReach_4 (by decide) ?_
  refine v_aload_n C 0 dX2_findReach_5 rfl rfl ?_
  refine v_get C 0 0 iuX2 rfl rfl (by decide) m1_48 rfl rfl dX2_findReach_6 ?_
  refine v_iconst (v := 0) C dX2_findReach_9 (by decide) ?_
  refine v_bipush (v := 38) C dX2_findReach_10 (by decide) ?_
  refine v_copyl C (wRL cI cJ aR aL (va_cpy below_L reach_R 0 0 38) steps_R told_R length_R netOf_L left_L right_L trackOf_L touched_L below_L byLeft_L size_L tracks_L) 10 1 m2_130 dX2_findReach_12 (Nat.le_of_ble_eq_true rfl) (by decide) rfl rfl rfl ?_
  refine v_iconst (v := 0) C dX2_findReach_15 (by decide) ?_
  refine v_istore_n C [(2, .int 0), (0, .ref (aR 0)), (1, .ref (aL 0))] dX2_findReach_16 rfl (by decide) rfl ?_
  obtain ⟨r, h1, h⟩ := bind_el h
  refine v_perm [1, 2, 0] rfl ?_
  obtain ⟨reach_R_3, rfl⟩ : ∃ z, z = r := ⟨_, rfl⟩
  refine t_X2_findReach_L17 C (s9 := (0, va_cpy below_L reach_R 0 0 38)) h1 ?_
  show V p l e (rmO 1 40) s m args below meth c 4 D A 0 0 Q 75 [] [] (wRL cI cJ aR aL reach_R_3 steps_R told_R length_R netOf_L left_L right_L trackOf_L touched_L below_L byLeft_L size_L tracks_L)
  try dsimp only at h
  cases h
  exact hk _ _ dX2_findReach_75
def f_X2_lowestInRing_B7 (reach_R : (Nat → Int64)) (size_L : Int32) : Int32 → Option (Int32 ⊕ (Unit ⊕ Int32))
  | x2 => if size_L ≤ x2 then (some (.inr (.inl ()))) else (bnd x2 38 ((f_X1_isIn (reach_R x2.toNatClampNeg) x2).bind (fun r => match r with | r_2 => if r_2 = 0 then (some (.inl (x2 + 1))) else (some (.inr (.inr x2))))))
def f_X2_lowestInRing (reach_R : (Nat → Int64)) (below_L : (Nat → Int64)) (size_L : Int32) : Option (Int32 × (Nat → Int64)) := (f_X2_findReach reach_R below_L size_L).bind (fun r => match r with | reach_R_1 => (lp (f_X2_lowestInRing_B7 reach_R_1 size_L) 64 0).bind (fun r => match r with | .inl _ => some (((-1), reach_R_1)) | .inr x2_3 => some (x2_3, reach_R_1)))
theorem cw_X2_lowestInRing : CWv yX2_lowestInRing cX2_lowestInRing 3 (some .int) RX2 1 := ⟨m2_124, ms2_8, m1_3, m2_125, rfl, by decide, by decide, by decide +kernel⟩
set_option maxHeartbeats 4000000 in
set_option maxRecDepth 100000 in
theorem t_X2_lowestInRing_B7 {p : Program} {l : Launch} {e : Env} {s : State} {m : MethodId} {args : Array Value} {below : List Frame} {meth : Method} {c : Code} {D : va_G} {A : Nat → Prop} {cI cJ : ClassId} {Q : State → Prop} (C : Cx p s m args c cX2_lowestInRing 3 RX2 D A cI cJ) {aR : Nat → Nat} {aL : Nat → Nat} {reach_R : (Nat → Int64)} {steps_R : (Nat → Int32)} {told_R : (Nat → Int32)} {length_R : Int32} {netOf_L : (Nat → Int32)} {left_L : (Nat → Int32)} {right_L : (Nat → Int32)} {trackOf_L : (Nat → Int32)} {touched_L : (Nat → Int32)} {below_L : (Nat → Int64)} {byLeft_L : (Nat → Int32)} {size_L : Int32} {tracks_L : Int32} (s8 : Int32) (o8 : Int32 ⊕ (Unit ⊕ Int32)) (h : f_X2_lowestInRing_B7 reach_R size_L s8 = some o8) (hl : ∀ s8, o8 = .inl s8 → V p l e (rmO 2 63) s m args below meth c 3 D A 0 0 Q 7 [(0, .ref (aR 0)), (1, .ref (aL 0)), (2, .int s8)] [] (wRL cI cJ aR aL reach_R steps_R told_R length_R netOf_L left_L right_L trackOf_L touched_L below_L byLeft_L size_L tracks_L)) (hx0 : ∀ r8, o8 = .inr (.inl r8) → V p l e (rmO 2 63) s m args below meth c 3 D A 0 0 Q 36 [] [] (wRL cI cJ aR aL reach_R steps_R told_R length_R netOf_L left_L right_L trackOf_L touched_L below_L byLeft_L size_L tracks_L)) (hx1 : ∀ r8, o8 = .inr (.inr r8) → V p l e (rmO 2 63) s m args below meth c 3 D A 0 0 Q 28 [(2, .int r8)] [] (wRL cI cJ aR aL reach_R steps_R told_R length_R netOf_L left_L right_L trackOf_L touched_L below_L byLeft_L size_L tracks_L)) : V p l e (rmO 2 63) s m args below meth c 3 D A 0 0 Q 7 [(0, .ref (aR 0)), (1, .ref (aL 0)), (2, .int s8)] [] (wRL cI cJ aR aL reach_R steps_R told_R length_R netOf_L left_L right_L trackOf_L touched_L below_L byLeft_L size_L tracks_L) := by
  obtain ⟨x2, rfl⟩ : ∃ z, z = s8 := ⟨_, rfl⟩
  unfold f_X2_lowestInRing_B7 at h
  show V p l e (rmO 2 63) s m args below meth c 3 D A 0 0 Q 7 [(0, .ref (aR 0)), (1, .ref (aL 0)), (2, .int x2)] [] (wRL cI cJ aR aL reach_R steps_R told_R length_R netOf_L left_L right_L trackOf_L touched_L below_L byLeft_L size_L tracks_L)
  refine v_iload_n C 2 dX2_lowestInRing_7 rfl rfl ?_
  refine v_aload_n C 1 dX2_lowestInRing_8 rfl rfl ?_
  refine v_getN C 4 7 iuX1 rfl rfl (by decide) nw_12 rfl rfl dX2_lowestInRing_9 ?_
  refine v_icmp_ge (tgt := 36) C dX2_lowestInRing_12 (by decide) h (fun h => ?_) (fun h => ?_)
  · refine v_perm [] rfl ?_
    cases h
    exact hx0 _ rfl
  · refine v_aload_n C 0 dX2_lowestInRing_15 rfl rfl ?_
    refine v_get C 0 0 iuX2 rfl rfl (by decide) m1_48 rfl rfl dX2_lowestInRing_16 ?_
    refine v_iload_n C 2 dX2_lowestInRing_19 rfl rfl ?_
    refine v_lald C 1 rfl dX2_lowestInRing_20 h (fun h => ?_)
    refine v_iload_n C 2 dX2_lowestInRing_21 rfl rfl ?_
    obtain ⟨r, h1, h⟩ := bind_el h
    obtain ⟨r_2, rfl⟩ : ∃ z, z = r := ⟨_, rfl⟩
    try dsimp only at h
    refine v_callSNi (As := [.long (reach_R x2.toNatClampNeg), .int x2]) (st := []) (wr := [(aR 0, .inr (2, [.ref (aR 1), .ref (aR 2), .ref (aR 3), .int length_R])), (aR 1, .inl (cJ, 38, .inr (.inl reach_R))), (aR 2, .inl (cI, 38, .inl steps_R)), (aR 3, .inl (cI, 38, .inl told_R)), (aL 0, .inr (1, [.ref (aL 1), .ref (aL 2), .ref (aL 3), .ref (aL 4), .ref (aL 5), .ref (aL 6), .ref (aL 7), .int size_L, .int tracks_L])), (aL 1, .inl (cI, 38, .inl netOf_L)), (aL 2, .inl (cI, 38, .inl left_L)), (aL 3, .inl (cI, 38, .inl right_L)), (aL 4, .inl (cI, 38, .inl trackOf_L)), (aL 5, .inl (cI, 38, .inl touched_L)), (aL 6, .inl (cJ, 38, .inr (.inl below_L))), (aL 7, .inl (cI, 38, .inl byLeft_L))]) (w1 := []) (ws' := (wRL cI cJ aR aL reach_R steps_R told_R length_R netOf_L left_L right_L trackOf_L touched_L below_L byLeft_L size_L tracks_L)) (isC := []) (isR := [0, 1, 2, 3, 4, 5, 6, 7, 8, 9, 10, 11]) (pm := [0, 1, 2, 3, 4, 5, 6, 7, 8, 9, 10, 11]) C (c_X1_isIn l D cI cJ (reach_R x2.toNatClampNeg) x2 r_2 h1) cw_X1_isIn nw_28 dX2_lowestInRing_22 rfl ⟨Nat.le_of_ble_eq_true rfl, Nat.le_of_ble_eq_true rfl⟩ (Nat.le_of_ble_eq_true rfl) ⟨Nat.le_refl 0, Nat.le_refl 0⟩ ⟨rfl, rfl, rfl, rfl, by decide, rfl, rfl⟩ ?_
    refine v_if_eq (tgt := 30) C dX2_lowestInRing_25 (by decide) h (fun h => ?_) (fun h => ?_)
    · refine v_iinc C [(2, .int (x2 + 1)), (0, .ref (aR 0)), (1, .ref (aL 0))] 2 dX2_lowestInRing_30 rfl rfl (by decide) rfl ?_
      refine v_goto (tgt := 7) C dX2_lowestInRing_33 (by decide) ?_
      refine v_perm [1, 2, 0] rfl ?_
      cases h
      exact hl _ rfl
    · refine v_perm [2] rfl ?_
      cases h
      exact hx1 _ rfl
set_option maxHeartbeats 4000000 in
set_option maxRecDepth 100000 in
theorem t_X2_lowestInRing_L7 {p : Program} {l : Launch} {e : Env} {s : State} {m : MethodId} {args : Array Value} {below : List Frame} {meth : Method} {c : Code} {D : va_G} {A : Nat → Prop} {cI cJ : ClassId} {Q : State → Prop} (C : Cx p s m args c cX2_lowestInRing 3 RX2 D A cI cJ) {aR : Nat → Nat} {aL : Nat → Nat} {reach_R : (Nat → Int64)} {steps_R : (Nat → Int32)} {told_R : (Nat → Int32)} {length_R : Int32} {netOf_L : (Nat → Int32)} {left_L : (Nat → Int32)} {right_L : (Nat → Int32)} {trackOf_L : (Nat → Int32)} {touched_L : (Nat → Int32)} {below_L : (Nat → Int64)} {byLeft_L : (Nat → Int32)} {size_L : Int32} {tracks_L : Int32} {n8 : Nat} {s9 : Int32} {o8 : (Unit ⊕ Int32)} (h : lp (f_X2_lowestInRing_B7 reach_R size_L) n8 s9 = some o8) (hk : (Sum.elim (fun r8 => V p l e (rmO 2 63) s m args below meth c 3 D A 0 0 Q 36 [] [] (wRL cI cJ aR aL reach_R steps_R told_R length_R netOf_L left_L right_L trackOf_L touched_L below_L byLeft_L size_L tracks_L)) (fun r8 => V p l e (rmO 2 63) s m args below meth c 3 D A 0 0 Q 28 [(2, .int r8)] [] (wRL cI cJ aR aL reach_R steps_R told_R length_R netOf_L left_L right_L trackOf_L touched_L below_L byLeft_L size_L tracks_L))) o8) : V p l e (rmO 2 63) s m args below meth c 3 D A 0 0 Q 7 [(0, .ref (aR 0)), (1, .ref (aL 0)), (2, .int s9)] [] (wRL cI cJ aR aL reach_R steps_R told_R length_R netOf_L left_L right_L trackOf_L touched_L below_L byLeft_L size_L tracks_L) := lp_ok (Pσ := fun s8 => V p l e (rmO 2 63) s m args below meth c 3 D A 0 0 Q 7 [(0, .ref (aR 0)), (1, .ref (aL 0)), (2, .int s8)] [] (wRL cI cJ aR aL reach_R steps_R told_R length_R netOf_L left_L right_L trackOf_L touched_L below_L byLeft_L size_L tracks_L)) (Pρ := Sum.elim (fun r8 => V p l e (rmO 2 63) s m args below meth c 3 D A 0 0 Q 36 [] [] (wRL cI cJ aR aL reach_R steps_R told_R length_R netOf_L left_L right_L trackOf_L touched_L below_L byLeft_L size_L tracks_L)) (fun r8 => V p l e (rmO 2 63) s m args below meth c 3 D A 0 0 Q 28 [(2, .int r8)] [] (wRL cI cJ aR aL reach_R steps_R told_R length_R netOf_L left_L right_L trackOf_L touched_L below_L byLeft_L size_L tracks_L))) (fun s o h hl hx => t_X2_lowestInRing_B7 C s o h hl (fun r e => hx _ e) (fun r e => hx _ e)) n8 s9 o8 h hk
set_option maxHeartbeats 4000000 in
set_option maxRecDepth 100000 in
theorem c_X2_lowestInRing (l : Launch) (D : va_G) (cI cJ : ClassId) (aR : Nat → Nat) (aL : Nat → Nat) (reach_R : (Nat → Int64)) (steps_R : (Nat → Int32)) (told_R : (Nat → Int32)) (length_R : Int32) (netOf_L : (Nat → Int32)) (left_L : (Nat → Int32)) (right_L : (Nat → Int32)) (trackOf_L : (Nat → Int32)) (touched_L : (Nat → Int32)) (below_L : (Nat → Int64)) (byLeft_L : (Nat → Int32)) (size_L : Int32) (tracks_L : Int32) (r : Int32) (reach_R' : (Nat → Int64)) (h : f_X2_lowestInRing reach_R below_L size_L = some (r, reach_R')) : Cti l D cI cJ yX2_lowestInRing cX2_lowestInRing 3 (some .int) 2 63 [.ref (aR 0), .ref (aL 0)] (wRL cI cJ aR aL reach_R steps_R told_R length_R netOf_L left_L right_L trackOf_L touched_L below_L byLeft_L size_L tracks_L) (wRL cI cJ aR aL reach_R' steps_R told_R length_R netOf_L left_L right_L trackOf_L touched_L below_L byLeft_L size_L tracks_L) r := by
  refine mk_i [(0, .ref (aR 0)), (1, .ref (aL 0))] (by decide) rfl (Nat.le_of_ble_eq_true rfl) rfl (fun p e s m args below meth c A Q C hk => ?_)
  unfold f_X2_lowestInRing at h
  refine v_aload_n C 0 dX2_lowestInRing_0 rfl rfl ?_
  refine v_aload_n C 1 dX2_lowestInRing_1 rfl rfl ?_
  obtain ⟨r, h1, h⟩ := bind_el h
  obtain ⟨reach_R_1, rfl⟩ : ∃ z, z = r := ⟨_, rfl⟩
  try dsimp only at h
  refine v_callVv (As := [.ref (aL 0)]) (st := []) (wr := []) (w1 := (wRL cI cJ aR aL reach_R_1 steps_R told_R length_R netOf_L left_L right_L trackOf_L touched_L below_L byLeft_L size_L tracks_L)) (ws' := (wRL cI cJ aR aL reach_R_1 steps_R told_R length_R netOf_L left_L right_L trackOf_L touched_L below_L byLeft_L size_L tracks_L)) (isC := [0, 1, 2, 3, 4, 5, 6, 7, 8, 9, 10, 11]) (isR := []) (pm := [0, 1, 2, 3, 4, 5, 6, 7, 8, 9, 10, 11]) C (c_X2_findReach l D cI cJ aR aL reach_R steps_R told_R length_R netOf_L left_L right_L trackOf_L touched_L below_L byLeft_L size_L tracks_L reach_R_1 h1) cw_X2_findReach 0 rfl rfl m2_126 dX2_lowestInRing_2 rfl ⟨Nat.le_of_ble_eq_true rfl, Nat.le_of_ble_eq_true rfl⟩ (Nat.le_of_ble_eq_true rfl) ⟨Nat.le_refl 0, Nat.le_refl 0⟩ ⟨rfl, rfl, rfl, rfl, by decide, rfl, rfl⟩ ?_
  refine v_iconst (v := 0) C dX2_lowestInRing_5 (by decide) ?_
  refine v_istore_n C [(2, .int 0), (0, .ref (aR 0)), (1, .ref (aL 0))] dX2_lowestInRing_6 rfl (by decide) rfl ?_
  obtain ⟨r, h1, h⟩ := bind_el h
  refine v_perm [1, 2, 0] rfl ?_
  rcases r with _ | ⟨x2_3⟩
  · refine t_X2_lowestInRing_L7 C (s9 := 0) h1 ?_
    show V p l e (rmO 2 63) s m args below meth c 3 D A 0 0 Q 36 [] [] (wRL cI cJ aR aL reach_R_1 steps_R told_R length_R netOf_L left_L right_L trackOf_L touched_L below_L byLeft_L size_L tracks_L)
    try dsimp only at h
    refine v_iconst (v := (-1)) C dX2_lowestInRing_36 (by decide) ?_
    cases h
    exact hk _ _ dX2_lowestInRing_37
  · refine t_X2_lowestInRing_L7 C (s9 := 0) h1 ?_
    show V p l e (rmO 2 63) s m args below meth c 3 D A 0 0 Q 28 [(2, .int x2_3)] [] (wRL cI cJ aR aL reach_R_1 steps_R told_R length_R netOf_L left_L right_L trackOf_L touched_L below_L byLeft_L size_L tracks_L)
    try dsimp only at h
    refine v_iload_n C 0 dX2_lowestInRing_28 rfl rfl ?_
    cases h
    exact hk _ _ dX2_lowestInRing_29
def f_X2_countStepsTo_B37 (x5 : Int32) (x6 : Int64) (below_L : (Nat → Int64)) (size_L : Int32) : (Int64 × Int32 × (Nat → Int32)) → Option ((Int64 × Int32 × (Nat → Int32)) ⊕ (Int64 × (Nat → Int32)))
  | (x3, x8, steps_R) => if size_L ≤ x8 then (some (.inr (x3, steps_R))) else (bnd x8 38 (if (steps_R x8.toNatClampNeg) = (-1) then (bnd x8 38 (if (lg_cmp ((below_L x8.toNatClampNeg) &&& x6) 0) = 0 then (some (.inl (x3, x8 + 1, steps_R))) else (bnd x8 38 (some (.inl ((x3 ||| ((1 : Int64) <<< (x8.toInt64 &&& 63)), x8 + 1, upd steps_R x8.toNatClampNeg x5))))))) else (some (.inl (x3, x8 + 1, steps_R)))))
def f_X2_countStepsTo_B22 (below_L : (Nat → Int64)) (size_L : Int32) : (Int64 × Int32 × (Nat → Int32)) → Option ((Int64 × Int32 × (Nat → Int32)) ⊕ (Nat → Int32))
  | (x3, x5, steps_R) => if size_L ≤ x5 then (some (.inr steps_R)) else ((lp (f_X2_countStepsTo_B37 x5 x3 below_L size_L) 64 (x3, 0, steps_R)).bind (fun r => match r with | (x3_2, steps_R_3) => some (.inl (x3_2, x5 + 1, steps_R_3))))
def f_X2_countStepsTo (steps_R : (Nat → Int32)) (below_L : (Nat → Int64)) (size_L : Int32) (x2 : Int32) : Option (Nat → Int32) := (f_J7_fill_53178 steps_R (-1)).bind (fun r => match r with | steps_R_1 => bnd x2 38 ((lp (f_X2_countStepsTo_B22 below_L size_L) 64 (((1 : Int64) <<< (x2.toInt64 &&& 63), 1, upd steps_R_1 x2.toNatClampNeg 0))).bind (fun r => match r with | steps_R_4 => some steps_R_4)))
theorem cw_X2_countStepsTo : CWv yX2_countStepsTo cX2_countStepsTo 9 none RX2 2 := ⟨m2_145, ms2_12, m1_3, m2_146, rfl, by decide, by decide, by decide +kernel⟩
set_option maxHeartbeats 4000000 in
set_option maxRecDepth 100000 in
theorem t_X2_countStepsTo_B37 {p : Program} {l : Launch} {e : Env} {s : State} {m : MethodId} {args : Array Value} {below : List Frame} {meth : Method} {c : Code} {D : va_G} {A : Nat → Prop} {cI cJ : ClassId} {Q : State → Prop} (C : Cx p s m args c cX2_countStepsTo 9 RX2 D A cI cJ) {aR : Nat → Nat} {aL : Nat → Nat} {x5 : Int32} {x6 : Int64} {reach_R : (Nat → Int64)} {told_R : (Nat → Int32)} {length_R : Int32} {netOf_L : (Nat → Int32)} {left_L : (Nat → Int32)} {right_L : (Nat → Int32)} {trackOf_L : (Nat → Int32)} {touched_L : (Nat → Int32)} {below_L : (Nat → Int64)} {byLeft_L : (Nat → Int32)} {size_L : Int32} {tracks_L : Int32} (s8 : (Int64 × Int32 × (Nat → Int32))) (o8 : (Int64 × Int32 × (Nat → Int32)) ⊕ (Int64 × (Nat → Int32))) (h : f_X2_countStepsTo_B37 x5 x6 below_L size_L s8 = some o8) (hl : ∀ s8, o8 = .inl s8 → V p l e (rmO 1 23) s m args below meth c 9 D A 0 0 Q 37 [(0, .ref (aR 0)), (1, .ref (aL 0)), (3, .long s8.1), (5, .int x5), (6, .long x6), (8, .int s8.2.1)] [] (wRL cI cJ aR aL reach_R s8.2.2 told_R length_R netOf_L left_L right_L trackOf_L touched_L below_L byLeft_L size_L tracks_L)) (hx : ∀ r8, o8 = .inr r8 → V p l e (rmO 1 23) s m args below meth c 9 D A 0 0 Q 94 [(0, .ref (aR 0)), (1, .ref (aL 0)), (3, .long r8.1), (5, .int x5)] [] (wRL cI cJ aR aL reach_R r8.2 told_R length_R netOf_L left_L right_L trackOf_L touched_L below_L byLeft_L size_L tracks_L)) : V p l e (rmO 1 23) s m args below meth c 9 D A 0 0 Q 37 [(0, .ref (aR 0)), (1, .ref (aL 0)), (3, .long s8.1), (5, .int x5), (6, .long x6), (8, .int s8.2.1)] [] (wRL cI cJ aR aL reach_R s8.2.2 told_R length_R netOf_L left_L right_L trackOf_L touched_L below_L byLeft_L size_L tracks_L) := by
  obtain ⟨x3, x8, steps_R⟩ := s8
  unfold f_X2_countStepsTo_B37 at h
  show V p l e (rmO 1 23) s m args below meth c 9 D A 0 0 Q 37 [(0, .ref (aR 0)), (1, .ref (aL 0)), (3, .long x3), (5, .int x5), (6, .long x6), (8, .int x8)] [] (wRL cI cJ aR aL reach_R steps_R told_R length_R netOf_L left_L right_L trackOf_L touched_L below_L byLeft_L size_L tracks_L)
  refine v_iload C 5 dX2_countStepsTo_37 rfl ?_
  refine v_aload_n C 1 dX2_countStepsTo_39 rfl rfl ?_
  refine v_getN C 4 7 iuX1 rfl rfl (by decide) nw_12 rfl rfl dX2_countStepsTo_40 ?_
  refine v_icmp_ge (tgt := 94) C dX2_countStepsTo_43 (by decide) h (fun h => ?_) (fun h => ?_)
  · refine v_perm [0, 1, 2, 3] rfl ?_
    cases h
    exact hx _ rfl
  · refine v_aload_n C 0 dX2_countStepsTo_46 rfl rfl ?_
    refine v_get C 0 1 iuX2 rfl rfl (by decide) m1_49 rfl rfl dX2_countStepsTo_47 ?_
    refine v_iload C 5 dX2_countStepsTo_50 rfl ?_
    refine v_iald C 2 rfl dX2_countStepsTo_52 h (fun h => ?_)
    refine v_iconst (v := (-1)) C dX2_countStepsTo_53 (by decide) ?_
    refine v_icmp_ne (tgt := 88) C dX2_countStepsTo_54 (by decide) h (fun h => ?_) (fun h => ?_)
    · refine v_aload_n C 1 dX2_countStepsTo_57 rfl rfl ?_
      refine v_getN C 4 5 iuX1 rfl rfl (by decide) nw_11 rfl rfl dX2_countStepsTo_58 ?_
      refine v_iload C 5 dX2_countStepsTo_61 rfl ?_
      refine v_lald C 10 rfl dX2_countStepsTo_63 h (fun h => ?_)
      refine v_lload C 4 dX2_countStepsTo_64 rfl ?_
      refine v_land C dX2_countStepsTo_66 ?_
      refine v_lconst (v := 0) C dX2_countStepsTo_67 (by decide) ?_
      refine v_lcmp C dX2_countStepsTo_68 ?_
      refine v_if_eq (tgt := 88) C dX2_countStepsTo_69 (by decide) h (fun h => ?_) (fun h => ?_)
      · refine v_iinc C [(8, .int (x8 + 1)), (0, .ref (aR 0)), (1, .ref (aL 0)), (3, .long x3), (5, .int x5), (6, .long x6)] 5 dX2_countStepsTo_88 rfl rfl (by decide) rfl ?_
        refine v_goto (tgt := 37) C dX2_countStepsTo_91 (by decide) ?_
        refine v_perm [1, 2, 3, 4, 5, 0] rfl ?_
        cases h
        exact hl _ rfl
      · refine v_aload_n C 0 dX2_countStepsTo_72 rfl rfl ?_
        refine v_get C 0 1 iuX2 rfl rfl (by decide) m1_49 rfl rfl dX2_countStepsTo_73 ?_
        refine v_iload C 5 dX2_countStepsTo_76 rfl ?_
        refine v_iload C 3 dX2_countStepsTo_78 rfl ?_
        refine v_iast C (wRL cI cJ aR aL reach_R (upd steps_R x8.toNatClampNeg x5) told_R length_R netOf_L left_L right_L trackOf_L touched_L below_L byLeft_L size_L tracks_L) 2 rfl dX2_countStepsTo_80 h rfl (fun h => ?_)
        refine v_lload_n C 2 dX2_countStepsTo_81 rfl rfl ?_
        refine v_lconst (v := 1) C dX2_countStepsTo_82 (by decide) ?_
        refine v_iload C 5 dX2_countStepsTo_83 rfl ?_
        refine v_lshl C dX2_countStepsTo_85 ?_
        refine v_lor C dX2_countStepsTo_86 ?_
        refine v_lstore_n C [(3, .long (x3 ||| ((1 : Int64) <<< (x8.toInt64 &&& 63)))), (0, .ref (aR 0)), (1, .ref (aL 0)), (5, .int x5), (6, .long x6), (8, .int x8)] dX2_countStepsTo_87 rfl (by decide) rfl ?_
        refine v_iinc C [(8, .int (x8 + 1)), (3, .long (x3 ||| ((1 : Int64) <<< (x8.toInt64 &&& 63)))), (0, .ref (aR 0)), (1, .ref (aL 0)), (5, .int x5), (6, .long x6)] 5 dX2_countStepsTo_88 rfl rfl (by decide) rfl ?_
        refine v_goto (tgt := 37) C dX2_countStepsTo_91 (by decide) ?_
        refine v_perm [2, 3, 1, 4, 5, 0] rfl ?_
        cases h
        exact hl _ rfl
    · refine v_iinc C [(8, .int (x8 + 1)), (0, .ref (aR 0)), (1, .ref (aL 0)), (3, .long x3), (5, .int x5), (6, .long x6)] 5 dX2_countStepsTo_88 rfl rfl (by decide) rfl ?_
      refine v_goto (tgt := 37) C dX2_countStepsTo_91 (by decide) ?_
      refine v_perm [1, 2, 3, 4, 5, 0] rfl ?_
      cases h
      exact hl _ rfl
set_option maxHeartbeats 4000000 in
set_option maxRecDepth 100000 in
theorem t_X2_countStepsTo_L37 {p : Program} {l : Launch} {e : Env} {s : State} {m : MethodId} {args : Array Value} {below : List Frame} {meth : Method} {c : Code} {D : va_G} {A : Nat → Prop} {cI cJ : ClassId} {Q : State → Prop} (C : Cx p s m args c cX2_countStepsTo 9 RX2 D A cI cJ) {aR : Nat → Nat} {aL : Nat → Nat} {x5 : Int32} {x6 : Int64} {reach_R : (Nat → Int64)} {told_R : (Nat → Int32)} {length_R : Int32} {netOf_L : (Nat → Int32)} {left_L : (Nat → Int32)} {right_L : (Nat → Int32)} {trackOf_L : (Nat → Int32)} {touched_L : (Nat → Int32)} {below_L : (Nat → Int64)} {byLeft_L : (Nat → Int32)} {size_L : Int32} {tracks_L : Int32} {n8 : Nat} {s9 : (Int64 × Int32 × (Nat → Int32))} {o8 : (Int64 × (Nat → Int32))} (h : lp (f_X2_countStepsTo_B37 x5 x6 below_L size_L) n8 s9 = some o8) (hk : V p l e (rmO 1 23) s m args below meth c 9 D A 0 0 Q 94 [(0, .ref (aR 0)), (1, .ref (aL 0)), (3, .long o8.1), (5, .int x5)] [] (wRL cI cJ aR aL reach_R o8.2 told_R length_R netOf_L left_L right_L trackOf_L touched_L below_L byLeft_L size_L tracks_L)) : V p l e (rmO 1 23) s m args below meth c 9 D A 0 0 Q 37 [(0, .ref (aR 0)), (1, .ref (aL 0)), (3, .long s9.1), (5, .int x5), (6, .long x6), (8, .int s9.2.1)] [] (wRL cI cJ aR aL reach_R s9.2.2 told_R length_R netOf_L left_L right_L trackOf_L touched_L below_L byLeft_L size_L tracks_L) := lp_ok (Pσ := fun s8 => V p l e (rmO 1 23) s m args below meth c 9 D A 0 0 Q 37 [(0, .ref (aR 0)), (1, .ref (aL 0)), (3, .long s8.1), (5, .int x5), (6, .long x6), (8, .int s8.2.1)] [] (wRL cI cJ aR aL reach_R s8.2.2 told_R length_R netOf_L left_L right_L trackOf_L touched_L below_L byLeft_L size_L tracks_L)) (Pρ := fun r8 => V p l e (rmO 1 23) s m args below meth c 9 D A 0 0 Q 94 [(0, .ref (aR 0)), (1, .ref (aL 0)), (3, .long r8.1), (5, .int x5)] [] (wRL cI cJ aR aL reach_R r8.2 told_R length_R netOf_L left_L right_L trackOf_L touched_L below_L byLeft_L size_L tracks_L)) (fun s o h hl hx => t_X2_countStepsTo_B37 C s o h hl hx) n8 s9 o8 h hk
set_option maxHeartbeats 4000000 in
set_option maxRecDepth 100000 in
theorem t_X2_countStepsTo_B22 {p : Program} {l : Launch} {e : Env} {s : State} {m : MethodId} {args : Array Value} {below : List Frame} {meth : Method} {c : Code} {D : va_G} {A : Nat → Prop} {cI cJ : ClassId} {Q : State → Prop} (C : Cx p s m args c cX2_countStepsTo 9 RX2 D A cI cJ) {aR : Nat → Nat} {aL : Nat → Nat} {reach_R : (Nat → Int64)} {told_R : (Nat → Int32)} {length_R : Int32} {netOf_L : (Nat → Int32)} {left_L : (Nat → Int32)} {right_L : (Nat → Int32)} {trackOf_L : (Nat → Int32)} {touched_L : (Nat → Int32)} {below_L : (Nat → Int64)} {byLeft_L : (Nat → Int32)} {size_L : Int32} {tracks_L : Int32} (s8 : (Int64 × Int32 × (Nat → Int32))) (o8 : (Int64 × Int32 × (Nat → Int32)) ⊕ (Nat → Int32)) (h : f_X2_countStepsTo_B22 below_L size_L s8 = some o8) (hl : ∀ s8, o8 = .inl s8 → V p l e (rmO 1 23) s m args below meth c 9 D A 0 0 Q 22 [(0, .ref (aR 0)), (1, .ref (aL 0)), (3, .long s8.1), (5, .int s8.2.1)] [] (wRL cI cJ aR aL reach_R s8.2.2 told_R length_R netOf_L left_L right_L trackOf_L touched_L below_L byLeft_L size_L tracks_L)) (hx : ∀ r8, o8 = .inr r8 → V p l e (rmO 1 23) s m args below meth c 9 D A 0 0 Q 100 [] [] (wRL cI cJ aR aL reach_R r8 told_R length_R netOf_L left_L right_L trackOf_L touched_L below_L byLeft_L size_L tracks_L)) : V p l e (rmO 1 23) s m args below meth c 9 D A 0 0 Q 22 [(0, .ref (aR 0)), (1, .ref (aL 0)), (3, .long s8.1), (5, .int s8.2.1)] [] (wRL cI cJ aR aL reach_R s8.2.2 told_R length_R netOf_L left_L right_L trackOf_L touched_L below_L byLeft_L size_L tracks_L) := by
  obtain ⟨x3, x5, steps_R⟩ := s8
  unfold f_X2_countStepsTo_B22 at h
  show V p l e (rmO 1 23) s m args below meth c 9 D A 0 0 Q 22 [(0, .ref (aR 0)), (1, .ref (aL 0)), (3, .long x3), (5, .int x5)] [] (wRL cI cJ aR aL reach_R steps_R told_R length_R netOf_L left_L right_L trackOf_L touched_L below_L byLeft_L size_L tracks_L)
  refine v_iload C 3 dX2_countStepsTo_22 rfl ?_
  refine v_aload_n C 1 dX2_countStepsTo_24 rfl rfl ?_
  refine v_getN C 4 7 iuX1 rfl rfl (by decide) nw_12 rfl rfl dX2_countStepsTo_25 ?_
  refine v_icmp_ge (tgt := 100) C dX2_countStepsTo_28 (by decide) h (fun h => ?_) (fun h => ?_)
  · refine v_perm [] rfl ?_
    cases h
    exact hx _ rfl
  · refine v_lload_n C 2 dX2_countStepsTo_31 rfl rfl ?_
    refine v_lstore C [(6, .long x3), (0, .ref (aR 0)), (1, .ref (aL 0)), (3, .long x3), (5, .int x5)] dX2_countStepsTo_32 (by decide) rfl ?_
    refine v_iconst (v := 0) C dX2_countStepsTo_34 (by decide) ?_
    refine v_istore C [(8, .int 0), (6, .long x3), (0, .ref (aR 0)), (1, .ref (aL 0)), (3, .long x3), (5, .int x5)] dX2_countStepsTo_35 (by decide) rfl ?_
    obtain ⟨r, h1, h⟩ := bind_el h
    refine v_perm [2, 3, 4, 5, 1, 0] rfl ?_
    obtain ⟨x3_2, steps_R_3⟩ := r
    refine t_X2_countStepsTo_L37 C (s9 := (x3, 0, steps_R)) h1 ?_
    show V p l e (rmO 1 23) s m args below meth c 9 D A 0 0 Q 94 [(0, .ref (aR 0)), (1, .ref (aL 0)), (3, .long x3_2), (5, .int x5)] [] (wRL cI cJ aR aL reach_R steps_R_3 told_R length_R netOf_L left_L right_L trackOf_L touched_L below_L byLeft_L size_L tracks_L)
    try dsimp only at h
    refine v_iinc C [(5, .int (x5 + 1)), (0, .ref (aR 0)), (1, .ref (aL 0)), (3, .long x3_2)] 3 dX2_countStepsTo_94 rfl rfl (by decide) rfl ?_
    refine v_goto (tgt := 22) C dX2_countStepsTo_97 (by decide) ?_
    refine v_perm [1, 2, 3, 0] rfl ?_
    cases h
    exact hl _ rfl
set_option maxHeartbeats 4000000 in
set_option maxRecDepth 100000 in
theorem t_X2_countStepsTo_L22 {p : Program} {l : Launch} {e : Env} {s : State} {m : MethodId} {args : Array Value} {below : List Frame} {meth : Method} {c : Code} {D : va_G} {A : Nat → Prop} {cI cJ : ClassId} {Q : State → Prop} (C : Cx p s m args c cX2_countStepsTo 9 RX2 D A cI cJ) {aR : Nat → Nat} {aL : Nat → Nat} {reach_R : (Nat → Int64)} {told_R : (Nat → Int32)} {length_R : Int32} {netOf_L : (Nat → Int32)} {left_L : (Nat → Int32)} {right_L : (Nat → Int32)} {trackOf_L : (Nat → Int32)} {touched_L : (Nat → Int32)} {below_L : (Nat → Int64)} {byLeft_L : (Nat → Int32)} {size_L : Int32} {tracks_L : Int32} {n8 : Nat} {s9 : (Int64 × Int32 × (Nat → Int32))} {o8 : (Nat → Int32)} (h : lp (f_X2_countStepsTo_B22 below_L size_L) n8 s9 = some o8) (hk : V p l e (rmO 1 23) s m args below meth c 9 D A 0 0 Q 100 [] [] (wRL cI cJ aR aL reach_R o8 told_R length_R netOf_L left_L right_L trackOf_L touched_L below_L byLeft_L size_L tracks_L)) : V p l e (rmO 1 23) s m args below meth c 9 D A 0 0 Q 22 [(0, .ref (aR 0)), (1, .ref (aL 0)), (3, .long s9.1), (5, .int s9.2.1)] [] (wRL cI cJ aR aL reach_R s9.2.2 told_R length_R netOf_L left_L right_L trackOf_L touched_L below_L byLeft_L size_L tracks_L) := lp_ok (Pσ := fun s8 => V p l e (rmO 1 23) s m args below meth c 9 D A 0 0 Q 22 [(0, .ref (aR 0)), (1, .ref (aL 0)), (3, .long s8.1), (5, .int s8.2.1)] [] (wRL cI cJ aR aL reach_R s8.2.2 told_R length_R netOf_L left_L right_L trackOf_L touched_L below_L byLeft_L size_L tracks_L)) (Pρ := fun r8 => V p l e (rmO 1 23) s m args below meth c 9 D A 0 0 Q 100 [] [] (wRL cI cJ aR aL reach_R r8 told_R length_R netOf_L left_L right_L trackOf_L touched_L below_L byLeft_L size_L tracks_L)) (fun s o h hl hx => t_X2_countStepsTo_B22 C s o h hl hx) n8 s9 o8 h hk
set_option maxHeartbeats 4000000 in
set_option maxRecDepth 100000 in
theorem c_X2_countStepsTo (l : Launch) (D : va_G) (cI cJ : ClassId) (aR : Nat → Nat) (aL : Nat → Nat) (reach_R : (Nat → Int64)) (steps_R : (Nat → Int32)) (told_R : (Nat → Int32)) (length_R : Int32) (netOf_L : (Nat → Int32)) (left_L : (Nat → Int32)) (right_L : (Nat → Int32)) (trackOf_L : (Nat → Int32)) (touched_L : (Nat → Int32)) (below_L : (Nat → Int64)) (byLeft_L : (Nat → Int32)) (size_L : Int32) (tracks_L : Int32) (x2 : Int32) (steps_R' : (Nat → Int32)) (h : f_X2_countStepsTo steps_R below_L size_L x2 = some steps_R') : Ctv l D cI cJ yX2_countStepsTo cX2_countStepsTo 9 none 1 23 [.ref (aR 0), .ref (aL 0), .int x2] (wRL cI cJ aR aL reach_R steps_R told_R length_R netOf_L left_L right_L trackOf_L touched_L below_L byLeft_L size_L tracks_L) (wRL cI cJ aR aL reach_R steps_R' told_R length_R netOf_L left_L right_L trackOf_L touched_L below_L byLeft_L size_L tracks_L) := by
  refine mk_v [(0, .ref (aR 0)), (1, .ref (aL 0)), (2, .int x2)] (by decide) rfl (Nat.le_of_ble_eq_true rfl) rfl (fun p e s m args below meth c A Q C hk => ?_)
  unfold f_X2_countStepsTo at h
  refine v_aload_n C 0 dX2_countStepsTo_0 rfl rfl ?_
  refine v_get C 0 1 iuX2 rfl rfl (by decide) m1_49 rfl rfl dX2_countStepsTo_1 ?_
  refine v_iconst (v := (-1)) C dX2_countStepsTo_4 (by decide) ?_
  obtain ⟨r, h1, h⟩ := bind_el h
  obtain ⟨steps_R_1, rfl⟩ : ∃ z, z = r := ⟨_, rfl⟩
  try dsimp only at h
  refine v_callSv (As := [.ref (aR 2), .int (-1)]) (st := []) (wr := [(aR 0, .inr (2, [.ref (aR 1), .ref (aR 2), .ref (aR 3), .int length_R])), (aR 1, .inl (cJ, 38, .inr (.inl reach_R))), (aR 3, .inl (cI, 38, .inl told_R)), (aL 0, .inr (1, [.ref (aL 1), .ref (aL 2), .ref (aL 3), .ref (aL 4), .ref (aL 5), .ref (aL 6), .ref (aL 7), .int size_L, .int tracks_L])), (aL 1, .inl (cI, 38, .inl netOf_L)), (aL 2, .inl (cI, 38, .inl left_L)), (aL 3, .inl (cI, 38, .inl right_L)), (aL 4, .inl (cI, 38, .inl trackOf_L)), (aL 5, .inl (cI, 38, .inl touched_L)), (aL 6, .inl (cJ, 38, .inr (.inl below_L))), (aL 7, .inl (cI, 38, .inl byLeft_L))]) (w1 := (wAI cI cJ (fun _ => aR 2) steps_R_1)) (ws' := (wRL cI cJ aR aL reach_R steps_R_1 told_R length_R netOf_L left_L right_L trackOf_L touched_L below_L byLeft_L size_L tracks_L)) (isC := [2]) (isR := [0, 1, 3, 4, 5, 6, 7, 8, 9, 10, 11]) (pm := [0, 1, 11, 2, 3, 4, 5, 6, 7, 8, 9, 10]) C (c_J7_fill_53178 l D cI cJ (fun _ => aR 2) steps_R (-1) steps_R_1 h1) cw_J7_fill_53178 m2_147 dX2_countStepsTo_5 rfl ⟨Nat.le_of_ble_eq_true rfl, Nat.le_of_ble_eq_true rfl⟩ (Nat.le_of_ble_eq_true rfl) ⟨Nat.le_refl 0, Nat.le_refl 0⟩ ⟨rfl, rfl, rfl, rfl, by decide, rfl, rfl⟩ ?_
  refine v_aload_n C 0 dX2_countStepsTo_8 rfl rfl ?_
  refine v_get C 0 1 iuX2 rfl rfl (by decide) m1_49 rfl rfl dX2_countStepsTo_9 ?_
  refine v_iload_n C 2 dX2_countStepsTo_12 rfl rfl ?_
  refine v_iconst (v := 0) C dX2_countStepsTo_13 (by decide) ?_
  refine v_iast C (wRL cI cJ aR aL reach_R (upd steps_R_1 x2.toNatClampNeg 0) told_R length_R netOf_L left_L right_L trackOf_L touched_L below_L byLeft_L size_L tracks_L) 2 rfl dX2_countStepsTo_14 h rfl (fun h => ?_)
  refine v_lconst (v := 1) C dX2_countStepsTo_15 (by decide) ?_
  refine v_iload_n C 2 dX2_countStepsTo_16 rfl rfl ?_
  refine v_lshl C dX2_countStepsTo_17 ?_
  refine v_lstore_n C [(3, .long ((1 : Int64) <<< (x2.toInt64 &&& 63))), (0, .ref (aR 0)), (1, .ref (aL 0)), (2, .int x2)] dX2_countStepsTo_18 rfl (by decide) rfl ?_
  refine v_iconst (v := 1) C dX2_countStepsTo_19 (by decide) ?_
  refine v_istore C [(5, .int 1), (3, .long ((1 : Int64) <<< (x2.toInt64 &&& 63))), (0, .ref (aR 0)), (1, .ref (aL 0)), (2, .int x2)] dX2_countStepsTo_20 (by decide) rfl ?_
  obtain ⟨r, h1, h⟩ := bind_el h
  refine v_perm [2, 3, 1, 0] rfl ?_
  obtain ⟨steps_R_4, rfl⟩ : ∃ z, z = r := ⟨_, rfl⟩
  refine t_X2_countStepsTo_L22 C (s9 := ((1 : Int64) <<< (x2.toInt64 &&& 63), 1, upd steps_R_1 x2.toNatClampNeg 0)) h1 ?_
  show V p l e (rmO 1 23) s m args below meth c 9 D A 0 0 Q 100 [] [] (wRL cI cJ aR aL reach_R steps_R_4 told_R length_R netOf_L left_L right_L trackOf_L touched_L below_L byLeft_L size_L tracks_L)
  try dsimp only at h
  cases h
  exact hk _ _ dX2_countStepsTo_100
def f_X2_nearestBelow_B5 (x2 : Int32) (steps_R : (Nat → Int32)) (below_L : (Nat → Int64)) (size_L : Int32) : (Int32 × Int32) → Option ((Int32 × Int32) ⊕ Int32)
  | (x3, x4) => if size_L ≤ x4 then (some (.inr x3)) else (bnd x2 38 ((f_X1_isIn (below_L x2.toNatClampNeg) x4).bind (fun r => match r with | r_1 => if r_1 = 0 then (some (.inl (x3, x4 + 1))) else (bnd x4 38 (if (steps_R x4.toNatClampNeg) = (-1) then (some (.inl (x3, x4 + 1))) else (if x3 = (-1) then (some (.inl (x4, x4 + 1))) else (bnd x4 38 (bnd x3 38 (if (steps_R x3.toNatClampNeg) ≤ (steps_R x4.toNatClampNeg) then (some (.inl (x3, x4 + 1))) else (some (.inl (x4, x4 + 1))))))))))))
def f_X2_nearestBelow (steps_R : (Nat → Int32)) (below_L : (Nat → Int64)) (size_L : Int32) (x2 : Int32) : Option Int32 := (lp (f_X2_nearestBelow_B5 x2 steps_R below_L size_L) 64 (((-1), 0))).bind (fun r => match r with | x3_2 => some x3_2)
theorem cw_X2_nearestBelow : CWv yX2_nearestBelow cX2_nearestBelow 5 (some .int) RX2 2 := ⟨m2_152, ms2_13, m1_3, m2_153, rfl, by decide, by decide, by decide +kernel⟩
set_option maxHeartbeats 4000000 in
set_option maxRecDepth 100000 in
theorem t_X2_nearestBelow_B5 {p : Program} {l : Launch} {e : Env} {s : State} {m : MethodId} {args : Array Value} {below : List Frame} {meth : Method} {c : Code} {D : va_G} {A : Nat → Prop} {cI cJ : ClassId} {Q : State → Prop} (C : Cx p s m args c cX2_nearestBelow 5 RX2 D A cI cJ) {aR : Nat → Nat} {aL : Nat → Nat} {x2 : Int32} {reach_R : (Nat → Int64)} {steps_R : (Nat → Int32)} {told_R : (Nat → Int32)} {length_R : Int32} {netOf_L : (Nat → Int32)} {left_L : (Nat → Int32)} {right_L : (Nat → Int32)} {trackOf_L : (Nat → Int32)} {touched_L : (Nat → Int32)} {below_L : (Nat → Int64)} {byLeft_L : (Nat → Int32)} {size_L : Int32} {tracks_L : Int32} (s8 : (Int32 × Int32)) (o8 : (Int32 × Int32) ⊕ Int32) (h : f_X2_nearestBelow_B5 x2 steps_R below_L size_L s8 = some o8) (hl : ∀ s8, o8 = .inl s8 → V p l e (rmO 1 22) s m args below meth c 5 D A 0 0 Q 5 [(0, .ref (aR 0)), (1, .ref (aL 0)), (2, .int x2), (3, .int s8.1), (4, .int s8.2)] [] (wRL cI cJ aR aL reach_R steps_R told_R length_R netOf_L left_L right_L trackOf_L touched_L below_L byLeft_L size_L tracks_L)) (hx : ∀ r8, o8 = .inr r8 → V p l e (rmO 1 22) s m args below meth c 5 D A 0 0 Q 69 [(3, .int r8)] [] (wRL cI cJ aR aL reach_R steps_R told_R length_R netOf_L left_L right_L trackOf_L touched_L below_L byLeft_L size_L tracks_L)) : V p l e (rmO 1 22) s m args below meth c 5 D A 0 0 Q 5 [(0, .ref (aR 0)), (1, .ref (aL 0)), (2, .int x2), (3, .int s8.1), (4, .int s8.2)] [] (wRL cI cJ aR aL reach_R steps_R told_R length_R netOf_L left_L right_L trackOf_L touched_L below_L byLeft_L size_L tracks_L) := by
  obtain ⟨x3, x4⟩ := s8
  unfold f_X2_nearestBelow_B5 at h
  show V p l e (rmO 1 22) s m args below meth c 5 D A 0 0 Q 5 [(0, .ref (aR 0)), (1, .ref (aL 0)), (2, .int x2), (3, .int x3), (4, .int x4)] [] (wRL cI cJ aR aL reach_R steps_R told_R length_R netOf_L left_L right_L trackOf_L touched_L below_L byLeft_L size_L tracks_L)
  refine v_iload C 4 dX2_nearestBelow_5 rfl ?_
  refine v_aload_n C 1 dX2_nearestBelow_7 rfl rfl ?_
  refine v_getN C 4 7 iuX1 rfl rfl (by decide) nw_12 rfl rfl dX2_nearestBelow_8 ?_
  refine v_icmp_ge (tgt := 69) C dX2_nearestBelow_11 (by decide) h (fun h => ?_) (fun h => ?_)
  · refine v_perm [3] rfl ?_
    cases h
    exact hx _ rfl
  · refine v_aload_n C 1 dX2_nearestBelow_14 rfl rfl ?_
    refine v_getN C 4 5 iuX1 rfl rfl (by decide) nw_11 rfl rfl dX2_nearestBelow_15 ?_
    refine v_iload_n C 2 dX2_nearestBelow_18 rfl rfl ?_
    refine v_lald C 10 rfl dX2_nearestBelow_19 h (fun h => ?_)
    refine v_iload C 4 dX2_nearestBelow_20 rfl ?_
    obtain ⟨r, h1, h⟩ := bind_el h
    obtain ⟨r_1, rfl⟩ : ∃ z, z = r := ⟨_, rfl⟩
    try dsimp only at h
    refine v_callSNi (As := [.long (below_L x2.toNatClampNeg), .int x4]) (st := []) (wr := [(aR 0, .inr (2, [.ref (aR 1), .ref (aR 2), .ref (aR 3), .int length_R])), (aR 1, .inl (cJ, 38, .inr (.inl reach_R))), (aR 2, .inl (cI, 38, .inl steps_R)), (aR 3, .inl (cI, 38, .inl told_R)), (aL 0, .inr (1, [.ref (aL 1), .ref (aL 2), .ref (aL 3), .ref (aL 4), .ref (aL 5), .ref (aL 6), .ref (aL 7), .int size_L, .int tracks_L])), (aL 1, .inl (cI, 38, .inl netOf_L)), (aL 2, .inl (cI, 38, .inl left_L)), (aL 3, .inl (cI, 38, .inl right_L)), (aL 4, .inl (cI, 38, .inl trackOf_L)), (aL 5, .inl (cI, 38, .inl touched_L)), (aL 6, .inl (cJ, 38, .inr (.inl below_L))), (aL 7, .inl (cI, 38, .inl byLeft_L))]) (w1 := []) (ws' := (wRL cI cJ aR aL reach_R steps_R told_R length_R netOf_L left_L right_L trackOf_L touched_L below_L byLeft_L size_L tracks_L)) (isC := []) (isR := [0, 1, 2, 3, 4, 5, 6, 7, 8, 9, 10, 11]) (pm := [0, 1, 2, 3, 4, 5, 6, 7, 8, 9, 10, 11]) C (c_X1_isIn l D cI cJ (below_L x2.toNatClampNeg) x4 r_1 h1) cw_X1_isIn nw_28 dX2_nearestBelow_22 rfl ⟨Nat.le_of_ble_eq_true rfl, Nat.le_of_ble_eq_true rfl⟩ (Nat.le_of_ble_eq_true rfl) ⟨Nat.le_refl 0, Nat.le_refl 0⟩ ⟨rfl, rfl, rfl, rfl, by decide, rfl, rfl⟩ ?_
    refine v_if_eq (tgt := 63) C dX2_nearestBelow_25 (by decide) h (fun h => ?_) (fun h => ?_)
    · refine v_iinc C [(4, .int (x4 + 1)), (0, .ref (aR 0)), (1, .ref (aL 0)), (2, .int x2), (3, .int x3)] 4 dX2_nearestBelow_63 rfl rfl (by decide) rfl ?_
      refine v_goto (tgt := 5) C dX2_nearestBelow_66 (by decide) ?_
      refine v_perm [1, 2, 3, 4, 0] rfl ?_
      cases h
      exact hl _ rfl
    · refine v_aload_n C 0 dX2_nearestBelow_28 rfl rfl ?_
      refine v_get C 0 1 iuX2 rfl rfl (by decide) m1_49 rfl rfl dX2_nearestBelow_29 ?_
      refine v_iload C 4 dX2_nearestBelow_32 rfl ?_
      refine v_iald C 2 rfl dX2_nearestBelow_34 h (fun h => ?_)
      refine v_iconst (v := (-1)) C dX2_nearestBelow_35 (by decide) ?_
      refine v_icmp_eq (tgt := 63) C dX2_nearestBelow_36 (by decide) h (fun h => ?_) (fun h => ?_)
      · refine v_iinc C [(4, .int (x4 + 1)), (0, .ref (aR 0)), (1, .ref (aL 0)), (2, .int x2), (3, .int x3)] 4 dX2_nearestBelow_63 rfl rfl (by decide) rfl ?_
        refine v_goto (tgt := 5) C dX2_nearestBelow_66 (by decide) ?_
        refine v_perm [1, 2, 3, 4, 0] rfl ?_
        cases h
        exact hl _ rfl
      · refine v_iload_n C 3 dX2_nearestBelow_39 rfl rfl ?_
        refine v_iconst (v := (-1)) C dX2_nearestBelow_40 (by decide) ?_
        refine v_icmp_eq (tgt := 60) C dX2_nearestBelow_41 (by decide) h (fun h => ?_) (fun h => ?_)
        · refine v_iload C 4 dX2_nearestBelow_60 rfl ?_
          refine v_istore_n C [(3, .int x4), (0, .ref (aR 0)), (1, .ref (aL 0)), (2, .int x2), (4, .int x4)] dX2_nearestBelow_62 rfl (by decide) rfl ?_
          refine v_iinc C [(4, .int (x4 + 1)), (3, .int x4), (0, .ref (aR 0)), (1, .ref (aL 0)), (2, .int x2)] 4 dX2_nearestBelow_63 rfl rfl (by decide) rfl ?_
          refine v_goto (tgt := 5) C dX2_nearestBelow_66 (by decide) ?_
          refine v_perm [2, 3, 4, 1, 0] rfl ?_
          cases h
          exact hl _ rfl
        · refine v_aload_n C 0 dX2_nearestBelow_44 rfl rfl ?_
          refine v_get C 0 1 iuX2 rfl rfl (by decide) m1_49 rfl rfl dX2_nearestBelow_45 ?_
          refine v_iload C 4 dX2_nearestBelow_48 rfl ?_
          refine v_iald C 2 rfl dX2_nearestBelow_50 h (fun h => ?_)
          refine v_aload_n C 0 dX2_nearestBelow_51 rfl rfl ?_
          refine v_get C 0 1 iuX2 rfl rfl (by decide) m1_49 rfl rfl dX2_nearestBelow_52 ?_
          refine v_iload_n C 3 dX2_nearestBelow_55 rfl rfl ?_
          refine v_iald C 2 rfl dX2_nearestBelow_56 h (fun h => ?_)
          refine v_icmp_ge (tgt := 63) C dX2_nearestBelow_57 (by decide) h (fun h => ?_) (fun h => ?_)
          · refine v_iinc C [(4, .int (x4 + 1)), (0, .ref (aR 0)), (1, .ref (aL 0)), (2, .int x2), (3, .int x3)] 4 dX2_nearestBelow_63 rfl rfl (by decide) rfl ?_
            refine v_goto (tgt := 5) C dX2_nearestBelow_66 (by decide) ?_
            refine v_perm [1, 2, 3, 4, 0] rfl ?_
            cases h
            exact hl _ rfl
          · refine v_iload C 4 dX2_nearestBelow_60 rfl ?_
            refine v_istore_n C [(3, .int x4), (0, .ref (aR 0)), (1, .ref (aL 0)), (2, .int x2), (4, .int x4)] dX2_nearestBelow_62 rfl (by decide) rfl ?_
            refine v_iinc C [(4, .int (x4 + 1)), (3, .int x4), (0, .ref (aR 0)), (1, .ref (aL 0)), (2, .int x2)] 4 dX2_nearestBelow_63 rfl rfl (by decide) rfl ?_
            refine v_goto (tgt := 5) C dX2_nearestBelow_66 (by decide) ?_
            refine v_perm [2, 3, 4, 1, 0] rfl ?_
            cases h
            exact hl _ rfl
set_option maxHeartbeats 4000000 in
set_option maxRecDepth 100000 in
theorem t_X2_nearestBelow_L5 {p : Program} {l : Launch} {e : Env} {s : State} {m : MethodId} {args : Array Value} {below : List Frame} {meth : Method} {c : Code} {D : va_G} {A : Nat → Prop} {cI cJ : ClassId} {Q : State → Prop} (C : Cx p s m args c cX2_nearestBelow 5 RX2 D A cI cJ) {aR : Nat → Nat} {aL : Nat → Nat} {x2 : Int32} {reach_R : (Nat → Int64)} {steps_R : (Nat → Int32)} {told_R : (Nat → Int32)} {length_R : Int32} {netOf_L : (Nat → Int32)} {left_L : (Nat → Int32)} {right_L : (Nat → Int32)} {trackOf_L : (Nat → Int32)} {touched_L : (Nat → Int32)} {below_L : (Nat → Int64)} {byLeft_L : (Nat → Int32)} {size_L : Int32} {tracks_L : Int32} {n8 : Nat} {s9 : (Int32 × Int32)} {o8 : Int32} (h : lp (f_X2_nearestBelow_B5 x2 steps_R below_L size_L) n8 s9 = some o8) (hk : V p l e (rmO 1 22) s m args below meth c 5 D A 0 0 Q 69 [(3, .int o8)] [] (wRL cI cJ aR aL reach_R steps_R told_R length_R netOf_L left_L right_L trackOf_L touched_L below_L byLeft_L size_L tracks_L)) : V p l e (rmO 1 22) s m args below meth c 5 D A 0 0 Q 5 [(0, .ref (aR 0)), (1, .ref (aL 0)), (2, .int x2), (3, .int s9.1), (4, .int s9.2)] [] (wRL cI cJ aR aL reach_R steps_R told_R length_R netOf_L left_L right_L trackOf_L touched_L below_L byLeft_L size_L tracks_L) := lp_ok (Pσ := fun s8 => V p l e (rmO 1 22) s m args below meth c 5 D A 0 0 Q 5 [(0, .ref (aR 0)), (1, .ref (aL 0)), (2, .int x2), (3, .int s8.1), (4, .int s8.2)] [] (wRL cI cJ aR aL reach_R steps_R told_R length_R netOf_L left_L right_L trackOf_L touched_L below_L byLeft_L size_L tracks_L)) (Pρ := fun r8 => V p l e (rmO 1 22) s m args below meth c 5 D A 0 0 Q 69 [(3, .int r8)] [] (wRL cI cJ aR aL reach_R steps_R told_R length_R netOf_L left_L right_L trackOf_L touched_L below_L byLeft_L size_L tracks_L)) (fun s o h hl hx => t_X2_nearestBelow_B5 C s o h hl hx) n8 s9 o8 h hk
set_option maxHeartbeats 4000000 in
set_option maxRecDepth 100000 in
theorem c_X2_nearestBelow (l : Launch) (D : va_G) (cI cJ : ClassId) (aR : Nat → Nat) (aL : Nat → Nat) (reach_R : (Nat → Int64)) (steps_R : (Nat → Int32)) (told_R : (Nat → Int32)) (length_R : Int32) (netOf_L : (Nat → Int32)) (left_L : (Nat → Int32)) (right_L : (Nat → Int32)) (trackOf_L : (Nat → Int32)) (touched_L : (Nat → Int32)) (below_L : (Nat → Int64)) (byLeft_L : (Nat → Int32)) (size_L : Int32) (tracks_L : Int32) (x2 : Int32) (r : Int32) (h : f_X2_nearestBelow steps_R below_L size_L x2 = some r) : Cti l D cI cJ yX2_nearestBelow cX2_nearestBelow 5 (some .int) 1 22 [.ref (aR 0), .ref (aL 0), .int x2] (wRL cI cJ aR aL reach_R steps_R told_R length_R netOf_L left_L right_L trackOf_L touched_L below_L byLeft_L size_L tracks_L) (wRL cI cJ aR aL reach_R steps_R told_R length_R netOf_L left_L right_L trackOf_L touched_L below_L byLeft_L size_L tracks_L) r := by
  refine mk_i [(0, .ref (aR 0)), (1, .ref (aL 0)), (2, .int x2)] (by decide) rfl (Nat.le_of_ble_eq_true rfl) rfl (fun p e s m args below meth c A Q C hk => ?_)
  unfold f_X2_nearestBelow at h
  refine v_iconst (v := (-1)) C dX2_nearestBelow_0 (by decide) ?_
  refine v_istore_n C [(3, .int (-1)), (0, .ref (aR 0)), (1, .ref (aL 0)), (2, .int x2)] dX2_nearestBelow_1 rfl (by decide) rfl ?_
  refine v_iconst (v := 0) C dX2_nearestBelow_2 (by decide) ?_
  refine v_istore C [(4, .int 0), (3, .int (-1)), (0, .ref (aR 0)), (1, .ref (aL 0)), (2, .int x2)] dX2_nearestBelow_3 (by decide) rfl ?_
  obtain ⟨r, h1, h⟩ := bind_el h
  refine v_perm [2, 3, 4, 1, 0] rfl ?_
  obtain ⟨x3_2, rfl⟩ : ∃ z, z = r := ⟨_, rfl⟩
  refine t_X2_nearestBelow_L5 C (s9 := ((-1), 0)) h1 ?_
  show V p l e (rmO 1 22) s m args below meth c 5 D A 0 0 Q 69 [(3, .int x3_2)] [] (wRL cI cJ aR aL reach_R steps_R told_R length_R netOf_L left_L right_L trackOf_L touched_L below_L byLeft_L size_L tracks_L)
  try dsimp only at h
  refine v_iload_n C 0 dX2_nearestBelow_69 rfl rfl ?_
  cases h
  exact hk _ _ dX2_nearestBelow_70
def f_X2_tell_B25 (x2 : Int32) (steps_R : (Nat → Int32)) (below_L : (Nat → Int64)) (size_L : Int32) : (Int32 × (Nat → Int32) × Int32) → Option ((Int32 × (Nat → Int32) × Int32) ⊕ ((Nat → Int32) × Int32))
  | (x3, told_R, length_R) => bnd length_R 38 ((f_X2_nearestBelow steps_R below_L size_L x3).bind (fun r => match r with | r_4 => if r_4 = x2 then (some (.inr (upd told_R length_R.toNatClampNeg x3, length_R + 1))) else (if r_4 = (-1) then (some (.inr (upd told_R length_R.toNatClampNeg x3, length_R + 1))) else (if (length_R + 1) < size_L then (some (.inl (r_4, upd told_R length_R.toNatClampNeg x3, length_R + 1))) else (some (.inr (upd told_R length_R.toNatClampNeg x3, length_R + 1)))))))
def f_X2_tell (reach_R : (Nat → Int64)) (steps_R : (Nat → Int32)) (told_R : (Nat → Int32)) (below_L : (Nat → Int64)) (size_L : Int32) : Option ((Nat → Int64) × (Nat → Int32) × (Nat → Int32) × Int32) := (f_X2_lowestInRing reach_R below_L size_L).bind (fun r => match r with | (r_1, reach_R_2) => if r_1 = (-1) then (some (reach_R_2, steps_R, told_R, 0)) else ((f_X2_countStepsTo steps_R below_L size_L r_1).bind (fun r => match r with | steps_R_3 => (lp (f_X2_tell_B25 r_1 steps_R_3 below_L size_L) 64 (r_1, told_R, 0)).bind (fun r => match r with | (told_R_5, length_R_6) => some (reach_R_2, steps_R_3, told_R_5, length_R_6)))))
theorem cw_X2_tell : CWv yX2_tell cX2_tell 4 none RX2 1 := ⟨m2_140, ms2_11, m1_3, m2_141, rfl, by decide, by decide, by decide +kernel⟩
set_option maxHeartbeats 4000000 in
set_option maxRecDepth 100000 in
theorem t_X2_tell_B25 {p : Program} {l : Launch} {e : Env} {s : State} {m : MethodId} {args : Array Value} {below : List Frame} {meth : Method} {c : Code} {D : va_G} {A : Nat → Prop} {cI cJ : ClassId} {Q : State → Prop} (C : Cx p s m args c cX2_tell 4 RX2 D A cI cJ) {aR : Nat → Nat} {aL : Nat → Nat} {x2 : Int32} {reach_R : (Nat → Int64)} {steps_R : (Nat → Int32)} {netOf_L : (Nat → Int32)} {left_L : (Nat → Int32)} {right_L : (Nat → Int32)} {trackOf_L : (Nat → Int32)} {touched_L : (Nat → Int32)} {below_L : (Nat → Int64)} {byLeft_L : (Nat → Int32)} {size_L : Int32} {tracks_L : Int32} (s8 : (Int32 × (Nat → Int32) × Int32)) (o8 : (Int32 × (Nat → Int32) × Int32) ⊕ ((Nat → Int32) × Int32)) (h : f_X2_tell_B25 x2 steps_R below_L size_L s8 = some o8) (hl : ∀ s8, o8 = .inl s8 → V p l e (rmO 3 85) s m args below meth c 4 D A 0 0 Q 25 [(0, .ref (aR 0)), (1, .ref (aL 0)), (2, .int x2), (3, .int s8.1)] [] (wRL cI cJ aR aL reach_R steps_R s8.2.1 s8.2.2 netOf_L left_L right_L trackOf_L touched_L below_L byLeft_L size_L tracks_L)) (hx : ∀ r8, o8 = .inr r8 → V p l e (rmO 3 85) s m args below meth c 4 D A 0 0 Q 73 [] [] (wRL cI cJ aR aL reach_R steps_R r8.1 r8.2 netOf_L left_L right_L trackOf_L touched_L below_L byLeft_L size_L tracks_L)) : V p l e (rmO 3 85) s m args below meth c 4 D A 0 0 Q 25 [(0, .ref (aR 0)), (1, .ref (aL 0)), (2, .int x2), (3, .int s8.1)] [] (wRL cI cJ aR aL reach_R steps_R s8.2.1 s8.2.2 netOf_L left_L right_L trackOf_L touched_L below_L byLeft_L size_L tracks_L) := by
  obtain ⟨x3, told_R, length_R⟩ := s8
  unfold f_X2_tell_B25 at h
  show V p l e (rmO 3 85) s m args below meth c 4 D A 0 0 Q 25 [(0, .ref (aR 0)), (1, .ref (aL 0)), (2, .int x2), (3, .int x3)] [] (wRL cI cJ aR aL reach_R steps_R told_R length_R netOf_L left_L right_L trackOf_L touched_L below_L byLeft_L size_L tracks_L)
  refine v_aload_n C 0 dX2_tell_25 rfl rfl ?_
  refine v_get C 0 2 iuX2 rfl rfl (by decide) m1_50 rfl rfl dX2_tell_26 ?_
  refine v_aload_n C 0 dX2_tell_29 rfl rfl ?_
  refine v_get C 0 3 iuX2 rfl rfl (by decide) m1_51 rfl rfl dX2_tell_30 ?_
  refine v_iload_n C 3 dX2_tell_33 rfl rfl ?_
  refine v_iast C (wRL cI cJ aR aL reach_R steps_R (upd told_R length_R.toNatClampNeg x3) length_R netOf_L left_L right_L trackOf_L touched_L below_L byLeft_L size_L tracks_L) 3 rfl dX2_tell_34 h rfl (fun h => ?_)
  refine v_aload_n C 0 dX2_tell_35 rfl rfl ?_
  refine v_dup C dX2_tell_36 rfl ?_
  refine v_get C 0 3 iuX2 rfl rfl (by decide) m1_51 rfl rfl dX2_tell_37 ?_
  refine v_iconst (v := 1) C dX2_tell_40 (by decide) ?_
  refine v_iadd C dX2_tell_41 ?_
  refine v_put C (wRL cI cJ aR aL reach_R steps_R (upd told_R length_R.toNatClampNeg x3) (length_R + 1) netOf_L left_L right_L trackOf_L touched_L below_L byLeft_L size_L tracks_L) 0 3 iuX2 tyX2_ok nmX2 rfl rfl (by decide) m1_51 rfl rfl rfl rfl rfl (Nat.le_of_ble_eq_true rfl) dX2_tell_42 rfl ?_
  refine v_aload_n C 0 dX2_tell_45 rfl rfl ?_
  refine v_aload_n C 1 dX2_tell_46 rfl rfl ?_
  refine v_iload_n C 3 dX2_tell_47 rfl rfl ?_
  obtain ⟨r, h1, h⟩ := bind_el h
  obtain ⟨r_4, rfl⟩ : ∃ z, z = r := ⟨_, rfl⟩
  try dsimp only at h
  refine v_callVi (As := [.ref (aL 0), .int x3]) (st := []) (wr := []) (w1 := (wRL cI cJ aR aL reach_R steps_R (upd told_R length_R.toNatClampNeg x3) (length_R + 1) netOf_L left_L right_L trackOf_L touched_L below_L byLeft_L size_L tracks_L)) (ws' := (wRL cI cJ aR aL reach_R steps_R (upd told_R length_R.toNatClampNeg x3) (length_R + 1) netOf_L left_L right_L trackOf_L touched_L below_L byLeft_L size_L tracks_L)) (isC := [0, 1, 2, 3, 4, 5, 6, 7, 8, 9, 10, 11]) (isR := []) (pm := [0, 1, 2, 3, 4, 5, 6, 7, 8, 9, 10, 11]) C (c_X2_nearestBelow l D cI cJ aR aL reach_R steps_R (upd told_R length_R.toNatClampNeg x3) (length_R + 1) netOf_L left_L right_L trackOf_L touched_L below_L byLeft_L size_L tracks_L x3 r_4 h1) cw_X2_nearestBelow 0 rfl rfl m2_150 dX2_tell_48 rfl ⟨Nat.le_of_ble_eq_true rfl, Nat.le_of_ble_eq_true rfl⟩ (Nat.le_of_ble_eq_true rfl) ⟨Nat.le_refl 0, Nat.le_refl 0⟩ ⟨rfl, rfl, rfl, rfl, by decide, rfl, rfl⟩ ?_
  refine v_istore_n C [(3, .int r_4), (0, .ref (aR 0)), (1, .ref (aL 0)), (2, .int x2)] dX2_tell_51 rfl (by decide) rfl ?_
  refine v_iload_n C 0 dX2_tell_52 rfl rfl ?_
  refine v_iload_n C 3 dX2_tell_53 rfl rfl ?_
  refine v_icmp_eq (tgt := 73) C dX2_tell_54 (by decide) h (fun h => ?_) (fun h => ?_)
  · refine v_perm [] rfl ?_
    cases h
    exact hx _ rfl
  · refine v_iload_n C 0 dX2_tell_57 rfl rfl ?_
    refine v_iconst (v := (-1)) C dX2_tell_58 (by decide) ?_
    refine v_icmp_eq (tgt := 73) C dX2_tell_59 (by decide) h (fun h => ?_) (fun h => ?_)
    · refine v_perm [] rfl ?_
      cases h
      exact hx _ rfl
    · refine v_aload_n C 1 dX2_tell_62 rfl rfl ?_
      refine v_get C 0 3 iuX2 rfl rfl (by decide) m1_51 rfl rfl dX2_tell_63 ?_
      refine v_aload_n C 2 dX2_tell_66 rfl rfl ?_
      refine v_getN C 4 7 iuX1 rfl rfl (by decide) nw_12 rfl rfl dX2_tell_67 ?_
      refine v_icmp_lt (tgt := 25) C dX2_tell_70 (by decide) h (fun h => ?_) (fun h => ?_)
      · refine v_perm [1, 2, 3, 0] rfl ?_
        cases h
        exact hl _ rfl
      · refine v_perm [] rfl ?_
        cases h
        exact hx _ rfl
set_option maxHeartbeats 4000000 in
set_option maxRecDepth 100000 in
theorem t_X2_tell_L25 {p : Program} {l : Launch} {e : Env} {s : State} {m : MethodId} {args : Array Value} {below : List Frame} {meth : Method} {c : Code} {D : va_G} {A : Nat → Prop} {cI cJ : ClassId} {Q : State → Prop} (C : Cx p s m args c cX2_tell 4 RX2 D A cI cJ) {aR : Nat → Nat} {aL : Nat → Nat} {x2 : Int32} {reach_R : (Nat → Int64)} {steps_R : (Nat → Int32)} {netOf_L : (Nat → Int32)} {left_L : (Nat → Int32)} {right_L : (Nat → Int32)} {trackOf_L : (Nat → Int32)} {touched_L : (Nat → Int32)} {below_L : (Nat → Int64)} {byLeft_L : (Nat → Int32)} {size_L : Int32} {tracks_L : Int32} {n8 : Nat} {s9 : (Int32 × (Nat → Int32) × Int32)} {o8 : ((Nat → Int32) × Int32)} (h : lp (f_X2_tell_B25 x2 steps_R below_L size_L) n8 s9 = some o8) (hk : V p l e (rmO 3 85) s m args below meth c 4 D A 0 0 Q 73 [] [] (wRL cI cJ aR aL reach_R steps_R o8.1 o8.2 netOf_L left_L right_L trackOf_L touched_L below_L byLeft_L size_L tracks_L)) : V p l e (rmO 3 85) s m args below meth c 4 D A 0 0 Q 25 [(0, .ref (aR 0)), (1, .ref (aL 0)), (2, .int x2), (3, .int s9.1)] [] (wRL cI cJ aR aL reach_R steps_R s9.2.1 s9.2.2 netOf_L left_L right_L trackOf_L touched_L below_L byLeft_L size_L tracks_L) := lp_ok (Pσ := fun s8 => V p l e (rmO 3 85) s m args below meth c 4 D A 0 0 Q 25 [(0, .ref (aR 0)), (1, .ref (aL 0)), (2, .int x2), (3, .int s8.1)] [] (wRL cI cJ aR aL reach_R steps_R s8.2.1 s8.2.2 netOf_L left_L right_L trackOf_L touched_L below_L byLeft_L size_L tracks_L)) (Pρ := fun r8 => V p l e (rmO 3 85) s m args below meth c 4 D A 0 0 Q 73 [] [] (wRL cI cJ aR aL reach_R steps_R r8.1 r8.2 netOf_L left_L right_L trackOf_L touched_L below_L byLeft_L size_L tracks_L)) (fun s o h hl hx => t_X2_tell_B25 C s o h hl hx) n8 s9 o8 h hk
set_option maxHeartbeats 4000000 in
set_option maxRecDepth 100000 in
theorem c_X2_tell (l : Launch) (D : va_G) (cI cJ : ClassId) (aR : Nat → Nat) (aL : Nat → Nat) (reach_R : (Nat → Int64)) (steps_R : (Nat → Int32)) (told_R : (Nat → Int32)) (length_R : Int32) (netOf_L : (Nat → Int32)) (left_L : (Nat → Int32)) (right_L : (Nat → Int32)) (trackOf_L : (Nat → Int32)) (touched_L : (Nat → Int32)) (below_L : (Nat → Int64)) (byLeft_L : (Nat → Int32)) (size_L : Int32) (tracks_L : Int32) (reach_R' : (Nat → Int64)) (steps_R' : (Nat → Int32)) (told_R' : (Nat → Int32)) (length_R' : Int32) (h : f_X2_tell reach_R steps_R told_R below_L size_L = some (reach_R', steps_R', told_R', length_R')) : Ctv l D cI cJ yX2_tell cX2_tell 4 none 3 85 [.ref (aR 0), .ref (aL 0)] (wRL cI cJ aR aL reach_R steps_R told_R length_R netOf_L left_L right_L trackOf_L touched_L below_L byLeft_L size_L tracks_L) (wRL cI cJ aR aL reach_R' steps_R' told_R' length_R' netOf_L left_L right_L trackOf_L touched_L below_L byLeft_L size_L tracks_L) := by
  refine mk_v [(0, .ref (aR 0)), (1, .ref (aL 0))] (by decide) rfl (Nat.le_of_ble_eq_true rfl) rfl (fun p e s m args below meth c A Q C hk => ?_)
  unfold f_X2_tell at h
  refine v_aload_n C 0 dX2_tell_0 rfl rfl ?_
  refine v_aload_n C 1 dX2_tell_1 rfl rfl ?_
  obtain ⟨r, h1, h⟩ := bind_el h
  obtain ⟨r_1, reach_R_2⟩ := r
  try dsimp only at h
  refine v_callVi (As := [.ref (aL 0)]) (st := []) (wr := []) (w1 := (wRL cI cJ aR aL reach_R_2 steps_R told_R length_R netOf_L left_L right_L trackOf_L touched_L below_L byLeft_L size_L tracks_L)) (ws' := (wRL cI cJ aR aL reach_R_2 steps_R told_R length_R netOf_L left_L right_L trackOf_L touched_L below_L byLeft_L size_L tracks_L)) (isC := [0, 1, 2, 3, 4, 5, 6, 7, 8, 9, 10, 11]) (isR := []) (pm := [0, 1, 2, 3, 4, 5, 6, 7, 8, 9, 10, 11]) C (c_X2_lowestInRing l D cI cJ aR aL reach_R steps_R told_R length_R netOf_L left_L right_L trackOf_L touched_L below_L byLeft_L size_L tracks_L r_1 reach_R_2 h1) cw_X2_lowestInRing 0 rfl rfl m2_142 dX2_tell_2 rfl ⟨Nat.le_of_ble_eq_true rfl, Nat.le_of_ble_eq_true rfl⟩ (Nat.le_of_ble_eq_true rfl) ⟨Nat.le_refl 0, Nat.le_refl 0⟩ ⟨rfl, rfl, rfl, rfl, by decide, rfl, rfl⟩ ?_
  refine v_istore_n C [(2, .int r_1), (0, .ref (aR 0)), (1, .ref (aL 0))] dX2_tell_5 rfl (by decide) rfl ?_
  refine v_aload_n C 1 dX2_tell_6 rfl rfl ?_
  refine v_iconst (v := 0) C dX2_tell_7 (by decide) ?_
  refine v_put C (wRL cI cJ aR aL reach_R_2 steps_R told_R 0 netOf_L left_L right_L trackOf_L touched_L below_L byLeft_L size_L tracks_L) 0 3 iuX2 tyX2_ok nmX2 rfl rfl (by decide) m1_51 rfl rfl rfl rfl rfl (Nat.le_of_ble_eq_true rfl) dX2_tell_8 rfl ?_
  refine v_iload_n C 0 dX2_tell_11 rfl rfl ?_
  refine v_iconst (v := (-1)) C dX2_tell_12 (by decide) ?_
  refine v_icmp_ne (tgt := 17) C dX2_tell_13 (by decide) h (fun h => ?_) (fun h => ?_)
  · cases h
    exact hk _ _ dX2_tell_16
  · refine v_aload_n C 1 dX2_tell_17 rfl rfl ?_
    refine v_aload_n C 2 dX2_tell_18 rfl rfl ?_
    refine v_iload_n C 0 dX2_tell_19 rfl rfl ?_
    obtain ⟨r, h1, h⟩ := bind_el h
    obtain ⟨steps_R_3, rfl⟩ : ∃ z, z = r := ⟨_, rfl⟩
    try dsimp only at h
    refine v_callVv (As := [.ref (aL 0), .int r_1]) (st := []) (wr := []) (w1 := (wRL cI cJ aR aL reach_R_2 steps_R_3 told_R 0 netOf_L left_L right_L trackOf_L touched_L below_L byLeft_L size_L tracks_L)) (ws' := (wRL cI cJ aR aL reach_R_2 steps_R_3 told_R 0 netOf_L left_L right_L trackOf_L touched_L below_L byLeft_L size_L tracks_L)) (isC := [0, 1, 2, 3, 4, 5, 6, 7, 8, 9, 10, 11]) (isR := []) (pm := [0, 1, 2, 3, 4, 5, 6, 7, 8, 9, 10, 11]) C (c_X2_countStepsTo l D cI cJ aR aL reach_R_2 steps_R told_R 0 netOf_L left_L right_L trackOf_L touched_L below_L byLeft_L size_L tracks_L r_1 steps_R_3 h1) cw_X2_countStepsTo 0 rfl rfl m2_143 dX2_tell_20 rfl ⟨Nat.le_of_ble_eq_true rfl, Nat.le_of_ble_eq_true rfl⟩ (Nat.le_of_ble_eq_true rfl) ⟨Nat.le_refl 0, Nat.le_refl 0⟩ ⟨rfl, rfl, rfl, rfl, by decide, rfl, rfl⟩ ?_
    refine v_iload_n C 0 dX2_tell_23 rfl rfl ?_
    refine v_istore_n C [(3, .int r_1), (2, .int r_1), (0, .ref (aR 0)), (1, .ref (aL 0))] dX2_tell_24 rfl (by decide) rfl ?_
    obtain ⟨r, h1, h⟩ := bind_el h
    refine v_perm [2, 3, 1, 0] rfl ?_
    obtain ⟨told_R_5, length_R_6⟩ := r
    refine t_X2_tell_L25 C (s9 := (r_1, told_R, 0)) h1 ?_
    show V p l e (rmO 3 85) s m args below meth c 4 D A 0 0 Q 73 [] [] (wRL cI cJ aR aL reach_R_2 steps_R_3 told_R_5 length_R_6 netOf_L left_L right_L trackOf_L touched_L below_L byLeft_L size_L tracks_L)
    try dsimp only at h
    cases h
    exact hk _ _ dX2_tell_73

abbrev wM (cI cJ : ClassId) (aM : Nat → Nat) (thrown_M : Int32) (pins_M : (Nat → Int32)) (many_M : Int32) (nets_M : (Nat → Int32)) (lefts_M : (Nat → Int32)) (rights_M : (Nat → Int32)) (touches_M : (Nat → Int32)) (below_M : (Nat → Int64)) (reach_M : (Nat → Int64)) (tracksOf_M : (Nat → Int32)) (steps_M : (Nat → Int32)) (laid_M : Int32) (laidMany_M : Int32) (tracks_M : Int32) (laidNet_M : (Nat → Int32)) (laidLeft_M : (Nat → Int32)) (laidRight_M : (Nat → Int32)) (laidTouch_M : (Nat → Int32)) (laidTrack_M : (Nat → Int32)) (ringSize_M : Int32) (ringOf_M : (Nat → Int32)) (lays_M : Int32) (refusals_M : Int32) : va_W := [(aM 0, .inr (4, [.int thrown_M, .ref (aM 1), .int many_M, .ref (aM 2), .ref (aM 3), .ref (aM 4), .ref (aM 5), .ref (aM 6), .ref (aM 7), .ref (aM 8), .ref (aM 9), .int laid_M, .int laidMany_M, .int tracks_M, .ref (aM 10), .ref (aM 11), .ref (aM 12), .ref (aM 13), .ref (aM 14), .int ringSize_M, .ref (aM 15), .int lays_M, .int refusals_M])), (aM 1, .inl (cI, 40, .inl pins_M)), (aM 2, .inl (cI, 40, .inl nets_M)), (aM 3, .inl (cI, 40, .inl lefts_M)), (aM 4, .inl (cI, 40, .inl rights_M)), (aM 5, .inl (cI, 40, .inl touches_M)), (aM 6, .inl (cJ, 40, .inr (.inl below_M))), (aM 7, .inl (cJ, 40, .inr (.inl reach_M))), (aM 8, .inl (cI, 40, .inl tracksOf_M)), (aM 9, .inl (cI, 40, .inl steps_M)), (aM 10, .inl (cI, 40, .inl laidNet_M)), (aM 11, .inl (cI, 40, .inl laidLeft_M)), (aM 12, .inl (cI, 40, .inl laidRight_M)), (aM 13, .inl (cI, 40, .inl laidTouch_M)), (aM 14, .inl (cI, 40, .inl laidTrack_M)), (aM 15, .inl (cI, 40, .inl ringOf_M))]
def f_X4_thrown (thrown_M : Int32) : Option Int32 := some thrown_M
theorem cw_X4_thrown : CWv yX4_thrown cX4_thrown 1 (some .int) RX4 0 := ⟨m3_124, m3_125, m1_5, m3_126, rfl, by decide, by decide, by decide +kernel⟩
set_option maxHeartbeats 4000000 in
set_option maxRecDepth 100000 in
theorem c_X4_thrown (l : Launch) (D : va_G) (cI cJ : ClassId) (aM : Nat → Nat) (thrown_M : Int32) (pins_M : (Nat → Int32)) (many_M : Int32) (nets_M : (Nat → Int32)) (lefts_M : (Nat → Int32)) (rights_M : (Nat → Int32)) (touches_M : (Nat → Int32)) (below_M : (Nat → Int64)) (reach_M : (Nat → Int64)) (tracksOf_M : (Nat → Int32)) (steps_M : (Nat → Int32)) (laid_M : Int32) (laidMany_M : Int32) (tracks_M : Int32) (laidNet_M : (Nat → Int32)) (laidLeft_M : (Nat → Int32)) (laidRight_M : (Nat → Int32)) (laidTouch_M : (Nat → Int32)) (laidTrack_M : (Nat → Int32)) (ringSize_M : Int32) (ringOf_M : (Nat → Int32)) (lays_M : Int32) (refusals_M : Int32) (r : Int32) (h : f_X4_thrown thrown_M = some r) : Cti l D cI cJ yX4_thrown cX4_thrown 1 (some .int) 0 0 [.ref (aM 0)] (wM cI cJ aM thrown_M pins_M many_M nets_M lefts_M rights_M touches_M below_M reach_M tracksOf_M steps_M laid_M laidMany_M tracks_M laidNet_M laidLeft_M laidRight_M laidTouch_M laidTrack_M ringSize_M ringOf_M lays_M refusals_M) (wM cI cJ aM thrown_M pins_M many_M nets_M lefts_M rights_M touches_M below_M reach_M tracksOf_M steps_M laid_M laidMany_M tracks_M laidNet_M laidLeft_M laidRight_M laidTouch_M laidTrack_M ringSize_M ringOf_M lays_M refusals_M) r := by
  refine mk_i [(0, .ref (aM 0))] (by decide) rfl (Nat.le_of_ble_eq_true rfl) rfl (fun p e s m args below meth c A Q C hk => ?_)
  unfold f_X4_thrown at h
  refine v_aload_n C 0 dX4_thrown_0 rfl rfl ?_
  refine v_get C 0 0 iuX4 rfl rfl (by decide) m3_53 rfl rfl dX4_thrown_1 ?_
  cases h
  exact hk _ _ dX4_thrown_4
def f_X4_fail (x1 : Int32) : Option (Int32 × Int32) := some (0, x1)
theorem cw_X4_fail : CWv yX4_fail cX4_fail 2 (some .int) RX4 1 := ⟨m3_162, ms3_15, m1_5, m3_163, rfl, by decide, by decide, by decide +kernel⟩
set_option maxHeartbeats 4000000 in
set_option maxRecDepth 100000 in
theorem c_X4_fail (l : Launch) (D : va_G) (cI cJ : ClassId) (aM : Nat → Nat) (thrown_M : Int32) (pins_M : (Nat → Int32)) (many_M : Int32) (nets_M : (Nat → Int32)) (lefts_M : (Nat → Int32)) (rights_M : (Nat → Int32)) (touches_M : (Nat → Int32)) (below_M : (Nat → Int64)) (reach_M : (Nat → Int64)) (tracksOf_M : (Nat → Int32)) (steps_M : (Nat → Int32)) (laid_M : Int32) (laidMany_M : Int32) (tracks_M : Int32) (laidNet_M : (Nat → Int32)) (laidLeft_M : (Nat → Int32)) (laidRight_M : (Nat → Int32)) (laidTouch_M : (Nat → Int32)) (laidTrack_M : (Nat → Int32)) (ringSize_M : Int32) (ringOf_M : (Nat → Int32)) (lays_M : Int32) (refusals_M : Int32) (x1 : Int32) (r : Int32) (thrown_M' : Int32) (h : f_X4_fail x1 = some (r, thrown_M')) : Cti l D cI cJ yX4_fail cX4_fail 2 (some .int) 0 0 [.ref (aM 0), .int x1] (wM cI cJ aM thrown_M pins_M many_M nets_M lefts_M rights_M touches_M below_M reach_M tracksOf_M steps_M laid_M laidMany_M tracks_M laidNet_M laidLeft_M laidRight_M laidTouch_M laidTrack_M ringSize_M ringOf_M lays_M refusals_M) (wM cI cJ aM thrown_M' pins_M many_M nets_M lefts_M rights_M touches_M below_M reach_M tracksOf_M steps_M laid_M laidMany_M tracks_M laidNet_M laidLeft_M laidRight_M laidTouch_M laidTrack_M ringSize_M ringOf_M lays_M refusals_M) r := by
  refine mk_i [(0, .ref (aM 0)), (1, .int x1)] (by decide) rfl (Nat.le_of_ble_eq_true rfl) rfl (fun p e s m args below meth c A Q C hk => ?_)
  unfold f_X4_fail at h
  refine v_aload_n C 0 dX4_fail_0 rfl rfl ?_
  refine v_iload_n C 1 dX4_fail_1 rfl rfl ?_
  refine v_put C (wM cI cJ aM x1 pins_M many_M nets_M lefts_M rights_M touches_M below_M reach_M tracksOf_M steps_M laid_M laidMany_M tracks_M laidNet_M laidLeft_M laidRight_M laidTouch_M laidTrack_M ringSize_M ringOf_M lays_M refusals_M) 0 0 iuX4 tyX4_ok nmX4 rfl rfl (by decide) m3_53 rfl rfl rfl rfl rfl (Nat.le_of_ble_eq_true rfl) dX4_fail_2 rfl ?_
  refine v_iconst (v := 0) C dX4_fail_5 (by decide) ?_
  cases h
  exact hk _ _ dX4_fail_6
def f_X4_in (x0 : Int32) (x1 : Int32) (x2 : Int32) : Option Int32 := if x0 < x1 then (some 0) else (if x2 < x0 then (some 0) else (some 1))
theorem cw_X4_in : CWs yX4_in cX4_in 3 (some .boolean) 3 := ⟨m3_132, m1_5, m3_133, by decide, by decide, by decide +kernel⟩
set_option maxHeartbeats 4000000 in
set_option maxRecDepth 100000 in
theorem c_X4_in (l : Launch) (D : va_G) (cI cJ : ClassId) (x0 : Int32) (x1 : Int32) (x2 : Int32) (r : Int32) (h : f_X4_in x0 x1 x2 = some r) : Cti l D cI cJ yX4_in cX4_in 3 (some .boolean) 0 0 [.int x0, .int x1, .int x2] [] [] r := by
  refine mk_z [(0, .int x0), (1, .int x1), (2, .int x2)] (by decide) rfl (Nat.le_of_ble_eq_true rfl) rfl (fun p e s m args below meth c A Q C hk => ?_)
  unfold f_X4_in at h
  refine v_iload_n C 0 dX4_in_0 rfl rfl ?_
  refine v_iload_n C 1 dX4_in_1 rfl rfl ?_
  refine v_icmp_lt (tgt := 14) C dX4_in_2 (by decide) h (fun h => ?_) (fun h => ?_)
  · refine v_iconst (v := 0) C dX4_in_14 (by decide) ?_
    cases h
    exact hk _ _ dX4_in_15 (Or.inl rfl)
  · refine v_iload_n C 0 dX4_in_5 rfl rfl ?_
    refine v_iload_n C 2 dX4_in_6 rfl rfl ?_
    refine v_icmp_gt (tgt := 14) C dX4_in_7 (by decide) h (fun h => ?_) (fun h => ?_)
    · refine v_iconst (v := 0) C dX4_in_14 (by decide) ?_
      cases h
      exact hk _ _ dX4_in_15 (Or.inl rfl)
    · refine v_iconst (v := 1) C dX4_in_10 (by decide) ?_
      refine v_goto (tgt := 15) C dX4_in_11 (by decide) ?_
      cases h
      exact hk _ _ dX4_in_15 (Or.inr rfl)
def f_X4_pin_J54 (thrown_M : Int32) (pins_M : (Nat → Int32)) (x3 : Int32) (s0 : Int32) : Option (Int32 × Int32 × (Nat → Int32) × Int32 × Int32 × Int32) := bnd s0 40 (bnd s0 40 (some (pins_M s0.toNatClampNeg, thrown_M, upd pins_M s0.toNatClampNeg x3, 0, 0, 0)))
def f_X4_pin (pins_M : (Nat → Int32)) (laid_M : Int32) (laidMany_M : Int32) (tracks_M : Int32) (x1 : Int32) (x2 : Int32) (x3 : Int32) : Option (Int32 × Int32 × (Nat → Int32) × Int32 × Int32 × Int32) := (f_X4_in x1 0 19).bind (fun r => match r with | r_1 => if r_1 = 0 then (if (1 : Int32) ≤ 0 then (if x2 = 0 then (f_X4_pin_J54 1 pins_M x3 ((20 : Int32) + x1)) else (f_X4_pin_J54 1 pins_M x3 x1)) else (some (0, 1, pins_M, laid_M, laidMany_M, tracks_M))) else ((f_X4_in x3 0 9).bind (fun r => match r with | r_2 => if r_2 = 0 then (if (2 : Int32) ≤ 0 then (if x2 = 0 then (f_X4_pin_J54 2 pins_M x3 ((20 : Int32) + x1)) else (f_X4_pin_J54 2 pins_M x3 x1)) else (some (0, 2, pins_M, laid_M, laidMany_M, tracks_M))) else (if (0 : Int32) ≤ 0 then (if x2 = 0 then (f_X4_pin_J54 0 pins_M x3 ((20 : Int32) + x1)) else (f_X4_pin_J54 0 pins_M x3 x1)) else (some (0, 0, pins_M, laid_M, laidMany_M, tracks_M))))))
theorem cw_X4_pin : CWv yX4_pin cX4_pin 6 (some .int) RX4 3 := ⟨m3_128, m3_129, m1_5, m3_130, rfl, by decide, by decide, by decide +kernel⟩
set_option maxHeartbeats 4000000 in
set_option maxRecDepth 100000 in
theorem t_X4_pin_J54 {p : Program} {l : Launch} {e : Env} {s : State} {m : MethodId} {args : Array Value} {below : List Frame} {meth : Method} {c : Code} {D : va_G} {A : Nat → Prop} {cI cJ : ClassId} {Q : State → Prop} (C : Cx p s m args c cX4_pin 6 RX4 D A cI cJ) {aM : Nat → Nat} {thrown_M : Int32} {pins_M : (Nat → Int32)} {many_M : Int32} {nets_M : (Nat → Int32)} {lefts_M : (Nat → Int32)} {rights_M : (Nat → Int32)} {touches_M : (Nat → Int32)} {below_M : (Nat → Int64)} {reach_M : (Nat → Int64)} {tracksOf_M : (Nat → Int32)} {steps_M : (Nat → Int32)} {laid_M : Int32} {laidMany_M : Int32} {tracks_M : Int32} {laidNet_M : (Nat → Int32)} {laidLeft_M : (Nat → Int32)} {laidRight_M : (Nat → Int32)} {laidTouch_M : (Nat → Int32)} {laidTrack_M : (Nat → Int32)} {ringSize_M : Int32} {ringOf_M : (Nat → Int32)} {lays_M : Int32} {refusals_M : Int32} {x3 : Int32} {s0 : Int32} {r : Int32} {thrown_M' : Int32} {pins_M' : (Nat → Int32)} {laid_M' : Int32} {laidMany_M' : Int32} {tracks_M' : Int32} (h : f_X4_pin_J54 thrown_M pins_M x3 s0 = some (r, thrown_M', pins_M', laid_M', laidMany_M', tracks_M')) (hk : ∀ (pc : Nat) (lv : List (Nat × Value)), decode cX4_pin pc = .ok (.ireturn, 1) → V p l e (rmO 1 22) s m args below meth c 6 D A 0 0 Q pc lv [.int r] (wM cI cJ aM thrown_M' pins_M' many_M nets_M lefts_M rights_M touches_M below_M reach_M tracksOf_M steps_M laid_M' laidMany_M' tracks_M' laidNet_M laidLeft_M laidRight_M laidTouch_M laidTrack_M ringSize_M ringOf_M lays_M refusals_M)) : V p l e (rmO 1 22) s m args below meth c 6 D A 0 0 Q 54 [(0, .ref (aM 0)), (3, .int x3)] [.int s0] (wM cI cJ aM thrown_M pins_M many_M nets_M lefts_M rights_M touches_M below_M reach_M tracksOf_M steps_M laid_M laidMany_M tracks_M laidNet_M laidLeft_M laidRight_M laidTouch_M laidTrack_M ringSize_M ringOf_M lays_M refusals_M) := by
  unfold f_X4_pin_J54 at h
  refine v_istore C [(4, .int s0), (0, .ref (aM 0)), (3, .int x3)] dX4_pin_54 (by decide) rfl ?_
  refine v_aload_n C 1 dX4_pin_56 rfl rfl ?_
  refine v_get C 0 1 iuX4 rfl rfl (by decide) m3_54 rfl rfl dX4_pin_57 ?_
  refine v_iload C 0 dX4_pin_60 rfl ?_
  refine v_iald C 1 rfl dX4_pin_62 h (fun h => ?_)
  refine v_istore C [(5, .int (pins_M s0.toNatClampNeg)), (4, .int s0), (0, .ref (aM 0)), (3, .int x3)] dX4_pin_63 (by decide) rfl ?_
  refine v_aload_n C 2 dX4_pin_65 rfl rfl ?_
  refine v_get C 0 1 iuX4 rfl rfl (by decide) m3_54 rfl rfl dX4_pin_66 ?_
  refine v_iload C 1 dX4_pin_69 rfl ?_
  refine v_iload_n C 3 dX4_pin_71 rfl rfl ?_
  refine v_iast C (wM cI cJ aM thrown_M (upd pins_M s0.toNatClampNeg x3) many_M nets_M lefts_M rights_M touches_M below_M reach_M tracksOf_M steps_M laid_M laidMany_M tracks_M laidNet_M laidLeft_M laidRight_M laidTouch_M laidTrack_M ringSize_M ringOf_M lays_M refusals_M) 1 rfl dX4_pin_72 h rfl (fun h => ?_)
  refine v_aload_n C 2 dX4_pin_73 rfl rfl ?_
  refine v_iconst (v := 0) C dX4_pin_74 (by decide) ?_
  refine v_put C (wM cI cJ aM thrown_M (upd pins_M s0.toNatClampNeg x3) many_M nets_M lefts_M rights_M touches_M below_M reach_M tracksOf_M steps_M 0 laidMany_M tracks_M laidNet_M laidLeft_M laidRight_M laidTouch_M laidTrack_M ringSize_M ringOf_M lays_M refusals_M) 0 11 iuX4 tyX4_ok nmX4 rfl rfl (by decide) m3_64 rfl rfl rfl rfl rfl (Nat.le_of_ble_eq_true rfl) dX4_pin_75 rfl ?_
  refine v_aload_n C 2 dX4_pin_78 rfl rfl ?_
  refine v_iconst (v := 0) C dX4_pin_79 (by decide) ?_
  refine v_put C (wM cI cJ aM thrown_M (upd pins_M s0.toNatClampNeg x3) many_M nets_M lefts_M rights_M touches_M below_M reach_M tracksOf_M steps_M 0 0 tracks_M laidNet_M laidLeft_M laidRight_M laidTouch_M laidTrack_M ringSize_M ringOf_M lays_M refusals_M) 0 12 iuX4 tyX4_ok nmX4 rfl rfl (by decide) m3_65 rfl rfl rfl rfl rfl (Nat.le_of_ble_eq_true rfl) dX4_pin_80 rfl ?_
  refine v_aload_n C 2 dX4_pin_83 rfl rfl ?_
  refine v_iconst (v := 0) C dX4_pin_84 (by decide) ?_
  refine v_put C (wM cI cJ aM thrown_M (upd pins_M s0.toNatClampNeg x3) many_M nets_M lefts_M rights_M touches_M below_M reach_M tracksOf_M steps_M 0 0 0 laidNet_M laidLeft_M laidRight_M laidTouch_M laidTrack_M ringSize_M ringOf_M lays_M refusals_M) 0 13 iuX4 tyX4_ok nmX4 rfl rfl (by decide) m3_66 rfl rfl rfl rfl rfl (Nat.le_of_ble_eq_true rfl) dX4_pin_85 rfl ?_
  refine v_iload C 0 dX4_pin_88 rfl ?_
  cases h
  exact hk _ _ dX4_pin_90
set_option maxHeartbeats 4000000 in
set_option maxRecDepth 100000 in
theorem c_X4_pin (l : Launch) (D : va_G) (cI cJ : ClassId) (aM : Nat → Nat) (thrown_M : Int32) (pins_M : (Nat → Int32)) (many_M : Int32) (nets_M : (Nat → Int32)) (lefts_M : (Nat → Int32)) (rights_M : (Nat → Int32)) (touches_M : (Nat → Int32)) (below_M : (Nat → Int64)) (reach_M : (Nat → Int64)) (tracksOf_M : (Nat → Int32)) (steps_M : (Nat → Int32)) (laid_M : Int32) (laidMany_M : Int32) (tracks_M : Int32) (laidNet_M : (Nat → Int32)) (laidLeft_M : (Nat → Int32)) (laidRight_M : (Nat → Int32)) (laidTouch_M : (Nat → Int32)) (laidTrack_M : (Nat → Int32)) (ringSize_M : Int32) (ringOf_M : (Nat → Int32)) (lays_M : Int32) (refusals_M : Int32) (x1 : Int32) (x2 : Int32) (x3 : Int32) (r : Int32) (thrown_M' : Int32) (pins_M' : (Nat → Int32)) (laid_M' : Int32) (laidMany_M' : Int32) (tracks_M' : Int32) (h : f_X4_pin pins_M laid_M laidMany_M tracks_M x1 x2 x3 = some (r, thrown_M', pins_M', laid_M', laidMany_M', tracks_M')) : Cti l D cI cJ yX4_pin cX4_pin 6 (some .int) 1 22 [.ref (aM 0), .int x1, .int x2, .int x3] (wM cI cJ aM thrown_M pins_M many_M nets_M lefts_M rights_M touches_M below_M reach_M tracksOf_M steps_M laid_M laidMany_M tracks_M laidNet_M laidLeft_M laidRight_M laidTouch_M laidTrack_M ringSize_M ringOf_M lays_M refusals_M) (wM cI cJ aM thrown_M' pins_M' many_M nets_M lefts_M rights_M touches_M below_M reach_M tracksOf_M steps_M laid_M' laidMany_M' tracks_M' laidNet_M laidLeft_M laidRight_M laidTouch_M laidTrack_M ringSize_M ringOf_M lays_M refusals_M) r := by
  refine mk_i [(0, .ref (aM 0)), (1, .int x1), (2, .int x2), (3, .int x3)] (by decide) rfl (Nat.le_of_ble_eq_true rfl) rfl (fun p e s m args below meth c A Q C hk => ?_)
  unfold f_X4_pin at h
  refine v_aload_n C 0 dX4_pin_0 rfl rfl ?_
  refine v_iload_n C 1 dX4_pin_1 rfl rfl ?_
  refine v_iconst (v := 0) C dX4_pin_2 (by decide) ?_
  refine v_bipush (v := 19) C dX4_pin_3 (by decide) ?_
  obtain ⟨r, h1, h⟩ := bind_el h
  obtain ⟨r_1, rfl⟩ : ∃ z, z = r := ⟨_, rfl⟩
  try dsimp only at h
  refine v_callSi (As := [.int x1, .int 0, .int 19]) (st := [.ref (aM 0)]) (wr := [(aM 0, .inr (4, [.int thrown_M, .ref (aM 1), .int many_M, .ref (aM 2), .ref (aM 3), .ref (aM 4), .ref (aM 5), .ref (aM 6), .ref (aM 7), .ref (aM 8), .ref (aM 9), .int laid_M, .int laidMany_M, .int tracks_M, .ref (aM 10), .ref (aM 11), .ref (aM 12), .ref (aM 13), .ref (aM 14), .int ringSize_M, .ref (aM 15), .int lays_M, .int refusals_M])), (aM 1, .inl (cI, 40, .inl pins_M)), (aM 2, .inl (cI, 40, .inl nets_M)), (aM 3, .inl (cI, 40, .inl lefts_M)), (aM 4, .inl (cI, 40, .inl rights_M)), (aM 5, .inl (cI, 40, .inl touches_M)), (aM 6, .inl (cJ, 40, .inr (.inl below_M))), (aM 7, .inl (cJ, 40, .inr (.inl reach_M))), (aM 8, .inl (cI, 40, .inl tracksOf_M)), (aM 9, .inl (cI, 40, .inl steps_M)), (aM 10, .inl (cI, 40, .inl laidNet_M)), (aM 11, .inl (cI, 40, .inl laidLeft_M)), (aM 12, .inl (cI, 40, .inl laidRight_M)), (aM 13, .inl (cI, 40, .inl laidTouch_M)), (aM 14, .inl (cI, 40, .inl laidTrack_M)), (aM 15, .inl (cI, 40, .inl ringOf_M))]) (w1 := []) (ws' := (wM cI cJ aM thrown_M pins_M many_M nets_M lefts_M rights_M touches_M below_M reach_M tracksOf_M steps_M laid_M laidMany_M tracks_M laidNet_M laidLeft_M laidRight_M laidTouch_M laidTrack_M ringSize_M ringOf_M lays_M refusals_M)) (isC := []) (isR := [0, 1, 2, 3, 4, 5, 6, 7, 8, 9, 10, 11, 12, 13, 14, 15]) (pm := [0, 1, 2, 3, 4, 5, 6, 7, 8, 9, 10, 11, 12, 13, 14, 15]) C (c_X4_in l D cI cJ x1 0 19 r_1 h1) cw_X4_in m3_131 dX4_pin_5 rfl ⟨Nat.le_of_ble_eq_true rfl, Nat.le_of_ble_eq_true rfl⟩ (Nat.le_of_ble_eq_true rfl) ⟨Nat.le_refl 0, Nat.le_refl 0⟩ ⟨rfl, rfl, rfl, rfl, by decide, rfl, rfl⟩ ?_
  refine v_if_ne (tgt := 15) C dX4_pin_8 (by decide) h (fun h => ?_) (fun h => ?_)
  · refine v_iconst (v := 1) C dX4_pin_11 (by decide) ?_
    refine v_goto (tgt := 30) C dX4_pin_12 (by decide) ?_
    refine v_put C (wM cI cJ aM 1 pins_M many_M nets_M lefts_M rights_M touches_M below_M reach_M tracksOf_M steps_M laid_M laidMany_M tracks_M laidNet_M laidLeft_M laidRight_M laidTouch_M laidTrack_M ringSize_M ringOf_M lays_M refusals_M) 0 0 iuX4 tyX4_ok nmX4 rfl rfl (by decide) m3_53 rfl rfl rfl rfl rfl (Nat.le_of_ble_eq_true rfl) dX4_pin_30 rfl ?_
    refine v_aload_n C 0 dX4_pin_33 rfl rfl ?_
    refine v_get C 0 0 iuX4 rfl rfl (by decide) m3_53 rfl rfl dX4_pin_34 ?_
    refine v_if_le (tgt := 42) C dX4_pin_37 (by decide) h (fun h => ?_) (fun h => ?_)
    · refine v_iload_n C 2 dX4_pin_42 rfl rfl ?_
      refine v_if_eq (tgt := 50) C dX4_pin_43 (by decide) h (fun h => ?_) (fun h => ?_)
      · refine v_bipush (v := 20) C dX4_pin_50 (by decide) ?_
        refine v_iload_n C 1 dX4_pin_52 rfl rfl ?_
        refine v_iadd C dX4_pin_53 ?_
        refine v_perm [0, 3] rfl ?_
        exact t_X4_pin_J54 C (thrown_M := 1) (pins_M := pins_M) (x3 := x3) (s0 := (20 : Int32) + x1) h hk
      · refine v_iload_n C 1 dX4_pin_46 rfl rfl ?_
        refine v_goto (tgt := 54) C dX4_pin_47 (by decide) ?_
        refine v_perm [0, 3] rfl ?_
        exact t_X4_pin_J54 C (thrown_M := 1) (pins_M := pins_M) (x3 := x3) (s0 := x1) h hk
    · refine v_iconst (v := 0) C dX4_pin_40 (by decide) ?_
      cases h
      exact hk _ _ dX4_pin_41
  · refine v_iload_n C 3 dX4_pin_15 rfl rfl ?_
    refine v_iconst (v := 0) C dX4_pin_16 (by decide) ?_
    refine v_bipush (v := 9) C dX4_pin_17 (by decide) ?_
    obtain ⟨r, h1, h⟩ := bind_el h
    obtain ⟨r_2, rfl⟩ : ∃ z, z = r := ⟨_, rfl⟩
    try dsimp only at h
    refine v_callSi (As := [.int x3, .int 0, .int 9]) (st := [.ref (aM 0)]) (wr := [(aM 0, .inr (4, [.int thrown_M, .ref (aM 1), .int many_M, .ref (aM 2), .ref (aM 3), .ref (aM 4), .ref (aM 5), .ref (aM 6), .ref (aM 7), .ref (aM 8), .ref (aM 9), .int laid_M, .int laidMany_M, .int tracks_M, .ref (aM 10), .ref (aM 11), .ref (aM 12), .ref (aM 13), .ref (aM 14), .int ringSize_M, .ref (aM 15), .int lays_M, .int refusals_M])), (aM 1, .inl (cI, 40, .inl pins_M)), (aM 2, .inl (cI, 40, .inl nets_M)), (aM 3, .inl (cI, 40, .inl lefts_M)), (aM 4, .inl (cI, 40, .inl rights_M)), (aM 5, .inl (cI, 40, .inl touches_M)), (aM 6, .inl (cJ, 40, .inr (.inl below_M))), (aM 7, .inl (cJ, 40, .inr (.inl reach_M))), (aM 8, .inl (cI, 40, .inl tracksOf_M)), (aM 9, .inl (cI, 40, .inl steps_M)), (aM 10, .inl (cI, 40, .inl laidNet_M)), (aM 11, .inl (cI, 40, .inl laidLeft_M)), (aM 12, .inl (cI, 40, .inl laidRight_M)), (aM 13, .inl (cI, 40, .inl laidTouch_M)), (aM 14, .inl (cI, 40, .inl laidTrack_M)), (aM 15, .inl (cI, 40, .inl ringOf_M))]) (w1 := []) (ws' := (wM cI cJ aM thrown_M pins_M many_M nets_M lefts_M rights_M touches_M below_M reach_M tracksOf_M steps_M laid_M laidMany_M tracks_M laidNet_M laidLeft_M laidRight_M laidTouch_M laidTrack_M ringSize_M ringOf_M lays_M refusals_M)) (isC := []) (isR := [0, 1, 2, 3, 4, 5, 6, 7, 8, 9, 10, 11, 12, 13, 14, 15]) (pm := [0, 1, 2, 3, 4, 5, 6, 7, 8, 9, 10, 11, 12, 13, 14, 15]) C (c_X4_in l D cI cJ x3 0 9 r_2 h1) cw_X4_in m3_131 dX4_pin_19 rfl ⟨Nat.le_of_ble_eq_true rfl, Nat.le_of_ble_eq_true rfl⟩ (Nat.le_of_ble_eq_true rfl) ⟨Nat.le_refl 0, Nat.le_refl 0⟩ ⟨rfl, rfl, rfl, rfl, by decide, rfl, rfl⟩ ?_
    refine v_if_ne (tgt := 29) C dX4_pin_22 (by decide) h (fun h => ?_) (fun h => ?_)
    · refine v_iconst (v := 2) C dX4_pin_25 (by decide) ?_
      refine v_goto (tgt := 30) C dX4_pin_26 (by decide) ?_
      refine v_put C (wM cI cJ aM 2 pins_M many_M nets_M lefts_M rights_M touches_M below_M reach_M tracksOf_M steps_M laid_M laidMany_M tracks_M laidNet_M laidLeft_M laidRight_M laidTouch_M laidTrack_M ringSize_M ringOf_M lays_M refusals_M) 0 0 iuX4 tyX4_ok nmX4 rfl rfl (by decide) m3_53 rfl rfl rfl rfl rfl (Nat.le_of_ble_eq_true rfl) dX4_pin_30 rfl ?_
      refine v_aload_n C 0 dX4_pin_33 rfl rfl ?_
      refine v_get C 0 0 iuX4 rfl rfl (by decide) m3_53 rfl rfl dX4_pin_34 ?_
      refine v_if_le (tgt := 42) C dX4_pin_37 (by decide) h (fun h => ?_) (fun h => ?_)
      · refine v_iload_n C 2 dX4_pin_42 rfl rfl ?_
        refine v_if_eq (tgt := 50) C dX4_pin_43 (by decide) h (fun h => ?_) (fun h => ?_)
        · refine v_bipush (v := 20) C dX4_pin_50 (by decide) ?_
          refine v_iload_n C 1 dX4_pin_52 rfl rfl ?_
          refine v_iadd C dX4_pin_53 ?_
          refine v_perm [0, 3] rfl ?_
          exact t_X4_pin_J54 C (thrown_M := 2) (pins_M := pins_M) (x3 := x3) (s0 := (20 : Int32) + x1) h hk
        · refine v_iload_n C 1 dX4_pin_46 rfl rfl ?_
          refine v_goto (tgt := 54) C dX4_pin_47 (by decide) ?_
          refine v_perm [0, 3] rfl ?_
          exact t_X4_pin_J54 C (thrown_M := 2) (pins_M := pins_M) (x3 := x3) (s0 := x1) h hk
      · refine v_iconst (v := 0) C dX4_pin_40 (by decide) ?_
        cases h
        exact hk _ _ dX4_pin_41
    · refine v_iconst (v := 0) C dX4_pin_29 (by decide) ?_
      refine v_put C (wM cI cJ aM 0 pins_M many_M nets_M lefts_M rights_M touches_M below_M reach_M tracksOf_M steps_M laid_M laidMany_M tracks_M laidNet_M laidLeft_M laidRight_M laidTouch_M laidTrack_M ringSize_M ringOf_M lays_M refusals_M) 0 0 iuX4 tyX4_ok nmX4 rfl rfl (by decide) m3_53 rfl rfl rfl rfl rfl (Nat.le_of_ble_eq_true rfl) dX4_pin_30 rfl ?_
      refine v_aload_n C 0 dX4_pin_33 rfl rfl ?_
      refine v_get C 0 0 iuX4 rfl rfl (by decide) m3_53 rfl rfl dX4_pin_34 ?_
      refine v_if_le (tgt := 42) C dX4_pin_37 (by decide) h (fun h => ?_) (fun h => ?_)
      · refine v_iload_n C 2 dX4_pin_42 rfl rfl ?_
        refine v_if_eq (tgt := 50) C dX4_pin_43 (by decide) h (fun h => ?_) (fun h => ?_)
        · refine v_bipush (v := 20) C dX4_pin_50 (by decide) ?_
          refine v_iload_n C 1 dX4_pin_52 rfl rfl ?_
          refine v_iadd C dX4_pin_53 ?_
          refine v_perm [0, 3] rfl ?_
          exact t_X4_pin_J54 C (thrown_M := 0) (pins_M := pins_M) (x3 := x3) (s0 := (20 : Int32) + x1) h hk
        · refine v_iload_n C 1 dX4_pin_46 rfl rfl ?_
          refine v_goto (tgt := 54) C dX4_pin_47 (by decide) ?_
          refine v_perm [0, 3] rfl ?_
          exact t_X4_pin_J54 C (thrown_M := 0) (pins_M := pins_M) (x3 := x3) (s0 := x1) h hk
      · refine v_iconst (v := 0) C dX4_pin_40 (by decide) ?_
        cases h
        exact hk _ _ dX4_pin_41
def f_X4_columns_B4 (x1 : Int32) (pins_M : (Nat → Int32)) : (Int32 × Int32) → Option ((Int32 × Int32) ⊕ Int32)
  | (x2, x3) => if 20 ≤ x3 then (some (.inr x2)) else (bnd x3 40 (if (pins_M x3.toNatClampNeg) = x1 then (some (.inl ((x2 ||| ((1 : Int32) <<< (x3 &&& 31)), x3 + 1)))) else (bnd ((20 : Int32) + x3) 40 (if (pins_M ((20 : Int32) + x3).toNatClampNeg) = x1 then (some (.inl ((x2 ||| ((1 : Int32) <<< (x3 &&& 31)), x3 + 1)))) else (some (.inl (x2, x3 + 1)))))))
def f_X4_columns (pins_M : (Nat → Int32)) (x1 : Int32) : Option Int32 := (lp (f_X4_columns_B4 x1 pins_M) 64 (0, 0)).bind (fun r => match r with | x2_1 => some x2_1)
theorem cw_X4_columns : CWv yX4_columns cX4_columns 4 (some .int) RX4 1 := ⟨m3_152, ms3_14, m1_5, m3_153, rfl, by decide, by decide, by decide +kernel⟩
set_option maxHeartbeats 4000000 in
set_option maxRecDepth 100000 in
theorem t_X4_columns_B4 {p : Program} {l : Launch} {e : Env} {s : State} {m : MethodId} {args : Array Value} {below : List Frame} {meth : Method} {c : Code} {D : va_G} {A : Nat → Prop} {cI cJ : ClassId} {Q : State → Prop} (C : Cx p s m args c cX4_columns 4 RX4 D A cI cJ) {aM : Nat → Nat} {x1 : Int32} {thrown_M : Int32} {pins_M : (Nat → Int32)} {many_M : Int32} {nets_M : (Nat → Int32)} {lefts_M : (Nat → Int32)} {rights_M : (Nat → Int32)} {touches_M : (Nat → Int32)} {below_M : (Nat → Int64)} {reach_M : (Nat → Int64)} {tracksOf_M : (Nat → Int32)} {steps_M : (Nat → Int32)} {laid_M : Int32} {laidMany_M : Int32} {tracks_M : Int32} {laidNet_M : (Nat → Int32)} {laidLeft_M : (Nat → Int32)} {laidRight_M : (Nat → Int32)} {laidTouch_M : (Nat → Int32)} {laidTrack_M : (Nat → Int32)} {ringSize_M : Int32} {ringOf_M : (Nat → Int32)} {lays_M : Int32} {refusals_M : Int32} (s8 : (Int32 × Int32)) (o8 : (Int32 × Int32) ⊕ Int32) (h : f_X4_columns_B4 x1 pins_M s8 = some o8) (hl : ∀ s8, o8 = .inl s8 → V p l e (rmO 0 0) s m args below meth c 4 D A 0 0 Q 4 [(0, .ref (aM 0)), (1, .int x1), (2, .int s8.1), (3, .int s8.2)] [] (wM cI cJ aM thrown_M pins_M many_M nets_M lefts_M rights_M touches_M below_M reach_M tracksOf_M steps_M laid_M laidMany_M tracks_M laidNet_M laidLeft_M laidRight_M laidTouch_M laidTrack_M ringSize_M ringOf_M lays_M refusals_M)) (hx : ∀ r8, o8 = .inr r8 → V p l e (rmO 0 0) s m args below meth c 4 D A 0 0 Q 49 [(2, .int r8)] [] (wM cI cJ aM thrown_M pins_M many_M nets_M lefts_M rights_M touches_M below_M reach_M tracksOf_M steps_M laid_M laidMany_M tracks_M laidNet_M laidLeft_M laidRight_M laidTouch_M laidTrack_M ringSize_M ringOf_M lays_M refusals_M)) : V p l e (rmO 0 0) s m args below meth c 4 D A 0 0 Q 4 [(0, .ref (aM 0)), (1, .int x1), (2, .int s8.1), (3, .int s8.2)] [] (wM cI cJ aM thrown_M pins_M many_M nets_M lefts_M rights_M touches_M below_M reach_M tracksOf_M steps_M laid_M laidMany_M tracks_M laidNet_M laidLeft_M laidRight_M laidTouch_M laidTrack_M ringSize_M ringOf_M lays_M refusals_M) := by
  obtain ⟨x2, x3⟩ := s8
  unfold f_X4_columns_B4 at h
  show V p l e (rmO 0 0) s m args below meth c 4 D A 0 0 Q 4 [(0, .ref (aM 0)), (1, .int x1), (2, .int x2), (3, .int x3)] [] (wM cI cJ aM thrown_M pins_M many_M nets_M lefts_M rights_M touches_M below_M reach_M tracksOf_M steps_M laid_M laidMany_M tracks_M laidNet_M laidLeft_M laidRight_M laidTouch_M laidTrack_M ringSize_M ringOf_M lays_M refusals_M)
  refine v_iload_n C 3 dX4_columns_4 rfl rfl ?_
  refine v_bipush (v := 20) C dX4_columns_5 (by decide) ?_
  refine v_icmp_ge (tgt := 49) C dX4_columns_7 (by decide) h (fun h => ?_) (fun h => ?_)
  · refine v_perm [2] rfl ?_
    cases h
    exact hx _ rfl
  · refine v_aload_n C 0 dX4_columns_10 rfl rfl ?_
    refine v_get C 0 1 iuX4 rfl rfl (by decide) m3_54 rfl rfl dX4_columns_11 ?_
    refine v_iload_n C 3 dX4_columns_14 rfl rfl ?_
    refine v_iald C 1 rfl dX4_columns_15 h (fun h => ?_)
    refine v_iload_n C 1 dX4_columns_16 rfl rfl ?_
    refine v_icmp_eq (tgt := 33) C dX4_columns_17 (by decide) h (fun h => ?_) (fun h => ?_)
    · refine v_iload_n C 2 dX4_columns_33 rfl rfl ?_
      refine v_iconst (v := 1) C dX4_columns_34 (by decide) ?_
      refine v_iload_n C 3 dX4_columns_35 rfl rfl ?_
      refine v_ishl C dX4_columns_36 ?_
      refine v_ior C dX4_columns_37 ?_
      refine v_goto (tgt := 42) C dX4_columns_38 (by decide) ?_
      refine v_istore_n C [(2, .int (x2 ||| ((1 : Int32) <<< (x3 &&& 31)))), (0, .ref (aM 0)), (1, .int x1), (3, .int x3)] dX4_columns_42 rfl (by decide) rfl ?_
      refine v_iinc C [(3, .int (x3 + 1)), (2, .int (x2 ||| ((1 : Int32) <<< (x3 &&& 31)))), (0, .ref (aM 0)), (1, .int x1)] 3 dX4_columns_43 rfl rfl (by decide) rfl ?_
      refine v_goto (tgt := 4) C dX4_columns_46 (by decide) ?_
      refine v_perm [2, 3, 1, 0] rfl ?_
      cases h
      exact hl _ rfl
    · refine v_aload_n C 0 dX4_columns_20 rfl rfl ?_
      refine v_get C 0 1 iuX4 rfl rfl (by decide) m3_54 rfl rfl dX4_columns_21 ?_
      refine v_bipush (v := 20) C dX4_columns_24 (by decide) ?_
      refine v_iload_n C 3 dX4_columns_26 rfl rfl ?_
      refine v_iadd C dX4_columns_27 ?_
      refine v_iald C 1 rfl dX4_columns_28 h (fun h => ?_)
      refine v_iload_n C 1 dX4_columns_29 rfl rfl ?_
      refine v_icmp_ne (tgt := 41) C dX4_columns_30 (by decide) h (fun h => ?_) (fun h => ?_)
      · refine v_iload_n C 2 dX4_columns_33 rfl rfl ?_
        refine v_iconst (v := 1) C dX4_columns_34 (by decide) ?_
        refine v_iload_n C 3 dX4_columns_35 rfl rfl ?_
        refine v_ishl C dX4_columns_36 ?_
        refine v_ior C dX4_columns_37 ?_
        refine v_goto (tgt := 42) C dX4_columns_38 (by decide) ?_
        refine v_istore_n C [(2, .int (x2 ||| ((1 : Int32) <<< (x3 &&& 31)))), (0, .ref (aM 0)), (1, .int x1), (3, .int x3)] dX4_columns_42 rfl (by decide) rfl ?_
        refine v_iinc C [(3, .int (x3 + 1)), (2, .int (x2 ||| ((1 : Int32) <<< (x3 &&& 31)))), (0, .ref (aM 0)), (1, .int x1)] 3 dX4_columns_43 rfl rfl (by decide) rfl ?_
        refine v_goto (tgt := 4) C dX4_columns_46 (by decide) ?_
        refine v_perm [2, 3, 1, 0] rfl ?_
        cases h
        exact hl _ rfl
      · refine v_iload_n C 2 dX4_columns_41 rfl rfl ?_
        refine v_istore_n C [(2, .int x2), (0, .ref (aM 0)), (1, .int x1), (3, .int x3)] dX4_columns_42 rfl (by decide) rfl ?_
        refine v_iinc C [(3, .int (x3 + 1)), (2, .int x2), (0, .ref (aM 0)), (1, .int x1)] 3 dX4_columns_43 rfl rfl (by decide) rfl ?_
        refine v_goto (tgt := 4) C dX4_columns_46 (by decide) ?_
        refine v_perm [2, 3, 1, 0] rfl ?_
        cases h
        exact hl _ rfl
set_option maxHeartbeats 4000000 in
set_option maxRecDepth 100000 in
theorem t_X4_columns_L4 {p : Program} {l : Launch} {e : Env} {s : State} {m : MethodId} {args : Array Value} {below : List Frame} {meth : Method} {c : Code} {D : va_G} {A : Nat → Prop} {cI cJ : ClassId} {Q : State → Prop} (C : Cx p s m args c cX4_columns 4 RX4 D A cI cJ) {aM : Nat → Nat} {x1 : Int32} {thrown_M : Int32} {pins_M : (Nat → Int32)} {many_M : Int32} {nets_M : (Nat → Int32)} {lefts_M : (Nat → Int32)} {rights_M : (Nat → Int32)} {touches_M : (Nat → Int32)} {below_M : (Nat → Int64)} {reach_M : (Nat → Int64)} {tracksOf_M : (Nat → Int32)} {steps_M : (Nat → Int32)} {laid_M : Int32} {laidMany_M : Int32} {tracks_M : Int32} {laidNet_M : (Nat → Int32)} {laidLeft_M : (Nat → Int32)} {laidRight_M : (Nat → Int32)} {laidTouch_M : (Nat → Int32)} {laidTrack_M : (Nat → Int32)} {ringSize_M : Int32} {ringOf_M : (Nat → Int32)} {lays_M : Int32} {refusals_M : Int32} {n8 : Nat} {s9 : (Int32 × Int32)} {o8 : Int32} (h : lp (f_X4_columns_B4 x1 pins_M) n8 s9 = some o8) (hk : V p l e (rmO 0 0) s m args below meth c 4 D A 0 0 Q 49 [(2, .int o8)] [] (wM cI cJ aM thrown_M pins_M many_M nets_M lefts_M rights_M touches_M below_M reach_M tracksOf_M steps_M laid_M laidMany_M tracks_M laidNet_M laidLeft_M laidRight_M laidTouch_M laidTrack_M ringSize_M ringOf_M lays_M refusals_M)) : V p l e (rmO 0 0) s m args below meth c 4 D A 0 0 Q 4 [(0, .ref (aM 0)), (1, .int x1), (2, .int s9.1), (3, .int s9.2)] [] (wM cI cJ aM thrown_M pins_M many_M nets_M lefts_M rights_M touches_M below_M reach_M tracksOf_M steps_M laid_M laidMany_M tracks_M laidNet_M laidLeft_M laidRight_M laidTouch_M laidTrack_M ringSize_M ringOf_M lays_M refusals_M) := lp_ok (Pσ := fun s8 => V p l e (rmO 0 0) s m args below meth c 4 D A 0 0 Q 4 [(0, .ref (aM 0)), (1, .int x1), (2, .int s8.1), (3, .int s8.2)] [] (wM cI cJ aM thrown_M pins_M many_M nets_M lefts_M rights_M touches_M below_M reach_M tracksOf_M steps_M laid_M laidMany_M tracks_M laidNet_M laidLeft_M laidRight_M laidTouch_M laidTrack_M ringSize_M ringOf_M lays_M refusals_M)) (Pρ := fun r8 => V p l e (rmO 0 0) s m args below meth c 4 D A 0 0 Q 49 [(2, .int r8)] [] (wM cI cJ aM thrown_M pins_M many_M nets_M lefts_M rights_M touches_M below_M reach_M tracksOf_M steps_M laid_M laidMany_M tracks_M laidNet_M laidLeft_M laidRight_M laidTouch_M laidTrack_M ringSize_M ringOf_M lays_M refusals_M)) (fun s o h hl hx => t_X4_columns_B4 C s o h hl hx) n8 s9 o8 h hk
set_option maxHeartbeats 4000000 in
set_option maxRecDepth 100000 in
theorem c_X4_columns (l : Launch) (D : va_G) (cI cJ : ClassId) (aM : Nat → Nat) (thrown_M : Int32) (pins_M : (Nat → Int32)) (many_M : Int32) (nets_M : (Nat → Int32)) (lefts_M : (Nat → Int32)) (rights_M : (Nat → Int32)) (touches_M : (Nat → Int32)) (below_M : (Nat → Int64)) (reach_M : (Nat → Int64)) (tracksOf_M : (Nat → Int32)) (steps_M : (Nat → Int32)) (laid_M : Int32) (laidMany_M : Int32) (tracks_M : Int32) (laidNet_M : (Nat → Int32)) (laidLeft_M : (Nat → Int32)) (laidRight_M : (Nat → Int32)) (laidTouch_M : (Nat → Int32)) (laidTrack_M : (Nat → Int32)) (ringSize_M : Int32) (ringOf_M : (Nat → Int32)) (lays_M : Int32) (refusals_M : Int32) (x1 : Int32) (r : Int32) (h : f_X4_columns pins_M x1 = some r) : Cti l D cI cJ yX4_columns cX4_columns 4 (some .int) 0 0 [.ref (aM 0), .int x1] (wM cI cJ aM thrown_M pins_M many_M nets_M lefts_M rights_M touches_M below_M reach_M tracksOf_M steps_M laid_M laidMany_M tracks_M laidNet_M laidLeft_M laidRight_M laidTouch_M laidTrack_M ringSize_M ringOf_M lays_M refusals_M) (wM cI cJ aM thrown_M pins_M many_M nets_M lefts_M rights_M touches_M below_M reach_M tracksOf_M steps_M laid_M laidMany_M tracks_M laidNet_M laidLeft_M laidRight_M laidTouch_M laidTrack_M ringSize_M ringOf_M lays_M refusals_M) r := by
  refine mk_i [(0, .ref (aM 0)), (1, .int x1)] (by decide) rfl (Nat.le_of_ble_eq_true rfl) rfl (fun p e s m args below meth c A Q C hk => ?_)
  unfold f_X4_columns at h
  refine v_iconst (v := 0) C dX4_columns_0 (by decide) ?_
  refine v_istore_n C [(2, .int 0), (0, .ref (aM 0)), (1, .int x1)] dX4_columns_1 rfl (by decide) rfl ?_
  refine v_iconst (v := 0) C dX4_columns_2 (by decide) ?_
  refine v_istore_n C [(3, .int 0), (2, .int 0), (0, .ref (aM 0)), (1, .int x1)] dX4_columns_3 rfl (by decide) rfl ?_
  obtain ⟨r, h1, h⟩ := bind_el h
  refine v_perm [2, 3, 1, 0] rfl ?_
  obtain ⟨x2_1, rfl⟩ : ∃ z, z = r := ⟨_, rfl⟩
  refine t_X4_columns_L4 C (s9 := (0, 0)) h1 ?_
  show V p l e (rmO 0 0) s m args below meth c 4 D A 0 0 Q 49 [(2, .int x2_1)] [] (wM cI cJ aM thrown_M pins_M many_M nets_M lefts_M rights_M touches_M below_M reach_M tracksOf_M steps_M laid_M laidMany_M tracks_M laidNet_M laidLeft_M laidRight_M laidTouch_M laidTrack_M ringSize_M ringOf_M lays_M refusals_M)
  try dsimp only at h
  refine v_iload_n C 0 dX4_columns_49 rfl rfl ?_
  cases h
  exact hk _ _ dX4_columns_50
def f_X4_pinsOf_B4 (x1 : Int32) (pins_M : (Nat → Int32)) : (Int32 × Int32) → Option ((Int32 × Int32) ⊕ Int32)
  | (x2, x3) => if 40 ≤ x3 then (some (.inr x2)) else (bnd x3 40 (if (pins_M x3.toNatClampNeg) = x1 then (some (.inl (x2 + 1, x3 + 1))) else (some (.inl (x2, x3 + 1)))))
def f_X4_pinsOf (pins_M : (Nat → Int32)) (x1 : Int32) : Option Int32 := (lp (f_X4_pinsOf_B4 x1 pins_M) 64 (0, 0)).bind (fun r => match r with | x2_1 => some x2_1)
theorem cw_X4_pinsOf : CWv yX4_pinsOf cX4_pinsOf 4 (some .int) RX4 1 := ⟨m3_148, ms3_13, m1_5, m3_149, rfl, by decide, by decide, by decide +kernel⟩
set_option maxHeartbeats 4000000 in
set_option maxRecDepth 100000 in
theorem t_X4_pinsOf_B4 {p : Program} {l : Launch} {e : Env} {s : State} {m : MethodId} {args : Array Value} {below : List Frame} {meth : Method} {c : Code} {D : va_G} {A : Nat → Prop} {cI cJ : ClassId} {Q : State → Prop} (C : Cx p s m args c cX4_pinsOf 4 RX4 D A cI cJ) {aM : Nat → Nat} {x1 : Int32} {thrown_M : Int32} {pins_M : (Nat → Int32)} {many_M : Int32} {nets_M : (Nat → Int32)} {lefts_M : (Nat → Int32)} {rights_M : (Nat → Int32)} {touches_M : (Nat → Int32)} {below_M : (Nat → Int64)} {reach_M : (Nat → Int64)} {tracksOf_M : (Nat → Int32)} {steps_M : (Nat → Int32)} {laid_M : Int32} {laidMany_M : Int32} {tracks_M : Int32} {laidNet_M : (Nat → Int32)} {laidLeft_M : (Nat → Int32)} {laidRight_M : (Nat → Int32)} {laidTouch_M : (Nat → Int32)} {laidTrack_M : (Nat → Int32)} {ringSize_M : Int32} {ringOf_M : (Nat → Int32)} {lays_M : Int32} {refusals_M : Int32} (s8 : (Int32 × Int32)) (o8 : (Int32 × Int32) ⊕ Int32) (h : f_X4_pinsOf_B4 x1 pins_M s8 = some o8) (hl : ∀ s8, o8 = .inl s8 → V p l e (rmO 0 0) s m args below meth c 4 D A 0 0 Q 4 [(0, .ref (aM 0)), (1, .int x1), (2, .int s8.1), (3, .int s8.2)] [] (wM cI cJ aM thrown_M pins_M many_M nets_M lefts_M rights_M touches_M below_M reach_M tracksOf_M steps_M laid_M laidMany_M tracks_M laidNet_M laidLeft_M laidRight_M laidTouch_M laidTrack_M ringSize_M ringOf_M lays_M refusals_M)) (hx : ∀ r8, o8 = .inr r8 → V p l e (rmO 0 0) s m args below meth c 4 D A 0 0 Q 34 [(2, .int r8)] [] (wM cI cJ aM thrown_M pins_M many_M nets_M lefts_M rights_M touches_M below_M reach_M tracksOf_M steps_M laid_M laidMany_M tracks_M laidNet_M laidLeft_M laidRight_M laidTouch_M laidTrack_M ringSize_M ringOf_M lays_M refusals_M)) : V p l e (rmO 0 0) s m args below meth c 4 D A 0 0 Q 4 [(0, .ref (aM 0)), (1, .int x1), (2, .int s8.1), (3, .int s8.2)] [] (wM cI cJ aM thrown_M pins_M many_M nets_M lefts_M rights_M touches_M below_M reach_M tracksOf_M steps_M laid_M laidMany_M tracks_M laidNet_M laidLeft_M laidRight_M laidTouch_M laidTrack_M ringSize_M ringOf_M lays_M refusals_M) := by
  obtain ⟨x2, x3⟩ := s8
  unfold f_X4_pinsOf_B4 at h
  show V p l e (rmO 0 0) s m args below meth c 4 D A 0 0 Q 4 [(0, .ref (aM 0)), (1, .int x1), (2, .int x2), (3, .int x3)] [] (wM cI cJ aM thrown_M pins_M many_M nets_M lefts_M rights_M touches_M below_M reach_M tracksOf_M steps_M laid_M laidMany_M tracks_M laidNet_M laidLeft_M laidRight_M laidTouch_M laidTrack_M ringSize_M ringOf_M lays_M refusals_M)
  refine v_iload_n C 3 dX4_pinsOf_4 rfl rfl ?_
  refine v_bipush (v := 40) C dX4_pinsOf_5 (by decide) ?_
  refine v_icmp_ge (tgt := 34) C dX4_pinsOf_7 (by decide) h (fun h => ?_) (fun h => ?_)
  · refine v_perm [2] rfl ?_
    cases h
    exact hx _ rfl
  · refine v_aload_n C 0 dX4_pinsOf_10 rfl rfl ?_
    refine v_get C 0 1 iuX4 rfl rfl (by decide) m3_54 rfl rfl dX4_pinsOf_11 ?_
    refine v_iload_n C 3 dX4_pinsOf_14 rfl rfl ?_
    refine v_iald C 1 rfl dX4_pinsOf_15 h (fun h => ?_)
    refine v_iload_n C 1 dX4_pinsOf_16 rfl rfl ?_
    refine v_icmp_ne (tgt := 26) C dX4_pinsOf_17 (by decide) h (fun h => ?_) (fun h => ?_)
    · refine v_iload_n C 2 dX4_pinsOf_20 rfl rfl ?_
      refine v_iconst (v := 1) C dX4_pinsOf_21 (by decide) ?_
      refine v_iadd C dX4_pinsOf_22 ?_
      refine v_goto (tgt := 27) C dX4_pinsOf_23 (by decide) ?_
      refine v_istore_n C [(2, .int (x2 + 1)), (0, .ref (aM 0)), (1, .int x1), (3, .int x3)] dX4_pinsOf_27 rfl (by decide) rfl ?_
      refine v_iinc C [(3, .int (x3 + 1)), (2, .int (x2 + 1)), (0, .ref (aM 0)), (1, .int x1)] 3 dX4_pinsOf_28 rfl rfl (by decide) rfl ?_
      refine v_goto (tgt := 4) C dX4_pinsOf_31 (by decide) ?_
      refine v_perm [2, 3, 1, 0] rfl ?_
      cases h
      exact hl _ rfl
    · refine v_iload_n C 2 dX4_pinsOf_26 rfl rfl ?_
      refine v_istore_n C [(2, .int x2), (0, .ref (aM 0)), (1, .int x1), (3, .int x3)] dX4_pinsOf_27 rfl (by decide) rfl ?_
      refine v_iinc C [(3, .int (x3 + 1)), (2, .int x2), (0, .ref (aM 0)), (1, .int x1)] 3 dX4_pinsOf_28 rfl rfl (by decide) rfl ?_
      refine v_goto (tgt := 4) C dX4_pinsOf_31 (by decide) ?_
      refine v_perm [2, 3, 1, 0] rfl ?_
      cases h
      exact hl _ rfl
set_option maxHeartbeats 4000000 in
set_option maxRecDepth 100000 in
theorem t_X4_pinsOf_L4 {p : Program} {l : Launch} {e : Env} {s : State} {m : MethodId} {args : Array Value} {below : List Frame} {meth : Method} {c : Code} {D : va_G} {A : Nat → Prop} {cI cJ : ClassId} {Q : State → Prop} (C : Cx p s m args c cX4_pinsOf 4 RX4 D A cI cJ) {aM : Nat → Nat} {x1 : Int32} {thrown_M : Int32} {pins_M : (Nat → Int32)} {many_M : Int32} {nets_M : (Nat → Int32)} {lefts_M : (Nat → Int32)} {rights_M : (Nat → Int32)} {touches_M : (Nat → Int32)} {below_M : (Nat → Int64)} {reach_M : (Nat → Int64)} {tracksOf_M : (Nat → Int32)} {steps_M : (Nat → Int32)} {laid_M : Int32} {laidMany_M : Int32} {tracks_M : Int32} {laidNet_M : (Nat → Int32)} {laidLeft_M : (Nat → Int32)} {laidRight_M : (Nat → Int32)} {laidTouch_M : (Nat → Int32)} {laidTrack_M : (Nat → Int32)} {ringSize_M : Int32} {ringOf_M : (Nat → Int32)} {lays_M : Int32} {refusals_M : Int32} {n8 : Nat} {s9 : (Int32 × Int32)} {o8 : Int32} (h : lp (f_X4_pinsOf_B4 x1 pins_M) n8 s9 = some o8) (hk : V p l e (rmO 0 0) s m args below meth c 4 D A 0 0 Q 34 [(2, .int o8)] [] (wM cI cJ aM thrown_M pins_M many_M nets_M lefts_M rights_M touches_M below_M reach_M tracksOf_M steps_M laid_M laidMany_M tracks_M laidNet_M laidLeft_M laidRight_M laidTouch_M laidTrack_M ringSize_M ringOf_M lays_M refusals_M)) : V p l e (rmO 0 0) s m args below meth c 4 D A 0 0 Q 4 [(0, .ref (aM 0)), (1, .int x1), (2, .int s9.1), (3, .int s9.2)] [] (wM cI cJ aM thrown_M pins_M many_M nets_M lefts_M rights_M touches_M below_M reach_M tracksOf_M steps_M laid_M laidMany_M tracks_M laidNet_M laidLeft_M laidRight_M laidTouch_M laidTrack_M ringSize_M ringOf_M lays_M refusals_M) := lp_ok (Pσ := fun s8 => V p l e (rmO 0 0) s m args below meth c 4 D A 0 0 Q 4 [(0, .ref (aM 0)), (1, .int x1), (2, .int s8.1), (3, .int s8.2)] [] (wM cI cJ aM thrown_M pins_M many_M nets_M lefts_M rights_M touches_M below_M reach_M tracksOf_M steps_M laid_M laidMany_M tracks_M laidNet_M laidLeft_M laidRight_M laidTouch_M laidTrack_M ringSize_M ringOf_M lays_M refusals_M)) (Pρ := fun r8 => V p l e (rmO 0 0) s m args below meth c 4 D A 0 0 Q 34 [(2, .int r8)] [] (wM cI cJ aM thrown_M pins_M many_M nets_M lefts_M rights_M touches_M below_M reach_M tracksOf_M steps_M laid_M laidMany_M tracks_M laidNet_M laidLeft_M laidRight_M laidTouch_M laidTrack_M ringSize_M ringOf_M lays_M refusals_M)) (fun s o h hl hx => t_X4_pinsOf_B4 C s o h hl hx) n8 s9 o8 h hk
set_option maxHeartbeats 4000000 in
set_option maxRecDepth 100000 in
theorem c_X4_pinsOf (l : Launch) (D : va_G) (cI cJ : ClassId) (aM : Nat → Nat) (thrown_M : Int32) (pins_M : (Nat → Int32)) (many_M : Int32) (nets_M : (Nat → Int32)) (lefts_M : (Nat → Int32)) (rights_M : (Nat → Int32)) (touches_M : (Nat → Int32)) (below_M : (Nat → Int64)) (reach_M : (Nat → Int64)) (tracksOf_M : (Nat → Int32)) (steps_M : (Nat → Int32)) (laid_M : Int32) (laidMany_M : Int32) (tracks_M : Int32) (laidNet_M : (Nat → Int32)) (laidLeft_M : (Nat → Int32)) (laidRight_M : (Nat → Int32)) (laidTouch_M : (Nat → Int32)) (laidTrack_M : (Nat → Int32)) (ringSize_M : Int32) (ringOf_M : (Nat → Int32)) (lays_M : Int32) (refusals_M : Int32) (x1 : Int32) (r : Int32) (h : f_X4_pinsOf pins_M x1 = some r) : Cti l D cI cJ yX4_pinsOf cX4_pinsOf 4 (some .int) 0 0 [.ref (aM 0), .int x1] (wM cI cJ aM thrown_M pins_M many_M nets_M lefts_M rights_M touches_M below_M reach_M tracksOf_M steps_M laid_M laidMany_M tracks_M laidNet_M laidLeft_M laidRight_M laidTouch_M laidTrack_M ringSize_M ringOf_M lays_M refusals_M) (wM cI cJ aM thrown_M pins_M many_M nets_M lefts_M rights_M touches_M below_M reach_M tracksOf_M steps_M laid_M laidMany_M tracks_M laidNet_M laidLeft_M laidRight_M laidTouch_M laidTrack_M ringSize_M ringOf_M lays_M refusals_M) r := by
  refine mk_i [(0, .ref (aM 0)), (1, .int x1)] (by decide) rfl (Nat.le_of_ble_eq_true rfl) rfl (fun p e s m args below meth c A Q C hk => ?_)
  unfold f_X4_pinsOf at h
  refine v_iconst (v := 0) C dX4_pinsOf_0 (by decide) ?_
  refine v_istore_n C [(2, .int 0), (0, .ref (aM 0)), (1, .int x1)] dX4_pinsOf_1 rfl (by decide) rfl ?_
  refine v_iconst (v := 0) C dX4_pinsOf_2 (by decide) ?_
  refine v_istore_n C [(3, .int 0), (2, .int 0), (0, .ref (aM 0)), (1, .int x1)] dX4_pinsOf_3 rfl (by decide) rfl ?_
  obtain ⟨r, h1, h⟩ := bind_el h
  refine v_perm [2, 3, 1, 0] rfl ?_
  obtain ⟨x2_1, rfl⟩ : ∃ z, z = r := ⟨_, rfl⟩
  refine t_X4_pinsOf_L4 C (s9 := (0, 0)) h1 ?_
  show V p l e (rmO 0 0) s m args below meth c 4 D A 0 0 Q 34 [(2, .int x2_1)] [] (wM cI cJ aM thrown_M pins_M many_M nets_M lefts_M rights_M touches_M below_M reach_M tracksOf_M steps_M laid_M laidMany_M tracks_M laidNet_M laidLeft_M laidRight_M laidTouch_M laidTrack_M ringSize_M ringOf_M lays_M refusals_M)
  try dsimp only at h
  refine v_iload_n C 0 dX4_pinsOf_34 rfl rfl ?_
  cases h
  exact hk _ _ dX4_pinsOf_35
def f_X4_lowest_B2 (x0 : Int32) : Int32 → Option (Int32 ⊕ Int32)
  | x1 => if ((x0 >>> (x1 &&& 31)) &&& 1) = 0 then (some (.inl (x1 + 1))) else (some (.inr x1))
def f_X4_lowest (x0 : Int32) : Option Int32 := (lp (f_X4_lowest_B2 x0) 64 0).bind (fun r => match r with | x1_1 => some x1_1)
theorem cw_X4_lowest : CWs yX4_lowest cX4_lowest 2 (some .int) 1 := ⟨m3_155, m1_5, m3_156, by decide, by decide, by decide +kernel⟩
set_option maxHeartbeats 4000000 in
set_option maxRecDepth 100000 in
theorem t_X4_lowest_B2 {p : Program} {l : Launch} {e : Env} {s : State} {m : MethodId} {args : Array Value} {below : List Frame} {meth : Method} {c : Code} {D : va_G} {A : Nat → Prop} {cI cJ : ClassId} {Q : State → Prop} (C : Cx p s m args c cX4_lowest 2 RX4 D A cI cJ) {x0 : Int32} (s8 : Int32) (o8 : Int32 ⊕ Int32) (h : f_X4_lowest_B2 x0 s8 = some o8) (hl : ∀ s8, o8 = .inl s8 → V p l e (rmO 0 0) s m args below meth c 2 D A 0 0 Q 2 [(0, .int x0), (1, .int s8)] [] []) (hx : ∀ r8, o8 = .inr r8 → V p l e (rmO 0 0) s m args below meth c 2 D A 0 0 Q 16 [(1, .int r8)] [] []) : V p l e (rmO 0 0) s m args below meth c 2 D A 0 0 Q 2 [(0, .int x0), (1, .int s8)] [] [] := by
  obtain ⟨x1, rfl⟩ : ∃ z, z = s8 := ⟨_, rfl⟩
  unfold f_X4_lowest_B2 at h
  show V p l e (rmO 0 0) s m args below meth c 2 D A 0 0 Q 2 [(0, .int x0), (1, .int x1)] [] []
  refine v_iload_n C 0 dX4_lowest_2 rfl rfl ?_
  refine v_iload_n C 1 dX4_lowest_3 rfl rfl ?_
  refine v_ishr C dX4_lowest_4 ?_
  refine v_iconst (v := 1) C dX4_lowest_5 (by decide) ?_
  refine v_iand C dX4_lowest_6 ?_
  refine v_if_ne (tgt := 16) C dX4_lowest_7 (by decide) h (fun h => ?_) (fun h => ?_)
  · refine v_iinc C [(1, .int (x1 + 1)), (0, .int x0)] 1 dX4_lowest_10 rfl rfl (by decide) rfl ?_
    refine v_goto (tgt := 2) C dX4_lowest_13 (by decide) ?_
    refine v_perm [1, 0] rfl ?_
    cases h
    exact hl _ rfl
  · refine v_perm [1] rfl ?_
    cases h
    exact hx _ rfl
set_option maxHeartbeats 4000000 in
set_option maxRecDepth 100000 in
theorem t_X4_lowest_L2 {p : Program} {l : Launch} {e : Env} {s : State} {m : MethodId} {args : Array Value} {below : List Frame} {meth : Method} {c : Code} {D : va_G} {A : Nat → Prop} {cI cJ : ClassId} {Q : State → Prop} (C : Cx p s m args c cX4_lowest 2 RX4 D A cI cJ) {x0 : Int32} {n8 : Nat} {s9 : Int32} {o8 : Int32} (h : lp (f_X4_lowest_B2 x0) n8 s9 = some o8) (hk : V p l e (rmO 0 0) s m args below meth c 2 D A 0 0 Q 16 [(1, .int o8)] [] []) : V p l e (rmO 0 0) s m args below meth c 2 D A 0 0 Q 2 [(0, .int x0), (1, .int s9)] [] [] := lp_ok (Pσ := fun s8 => V p l e (rmO 0 0) s m args below meth c 2 D A 0 0 Q 2 [(0, .int x0), (1, .int s8)] [] []) (Pρ := fun r8 => V p l e (rmO 0 0) s m args below meth c 2 D A 0 0 Q 16 [(1, .int r8)] [] []) (fun s o h hl hx => t_X4_lowest_B2 C s o h hl hx) n8 s9 o8 h hk
set_option maxHeartbeats 4000000 in
set_option maxRecDepth 100000 in
theorem c_X4_lowest (l : Launch) (D : va_G) (cI cJ : ClassId) (x0 : Int32) (r : Int32) (h : f_X4_lowest x0 = some r) : Cti l D cI cJ yX4_lowest cX4_lowest 2 (some .int) 0 0 [.int x0] [] [] r := by
  refine mk_i [(0, .int x0)] (by decide) rfl (Nat.le_of_ble_eq_true rfl) rfl (fun p e s m args below meth c A Q C hk => ?_)
  unfold f_X4_lowest at h
  refine v_iconst (v := 0) C dX4_lowest_0 (by decide) ?_
  refine v_istore_n C [(1, .int 0), (0, .int x0)] dX4_lowest_1 rfl (by decide) rfl ?_
  obtain ⟨r, h1, h⟩ := bind_el h
  refine v_perm [1, 0] rfl ?_
  obtain ⟨x1_1, rfl⟩ : ∃ z, z = r := ⟨_, rfl⟩
  refine t_X4_lowest_L2 C (s9 := 0) h1 ?_
  show V p l e (rmO 0 0) s m args below meth c 2 D A 0 0 Q 16 [(1, .int x1_1)] [] []
  try dsimp only at h
  refine v_iload_n C 0 dX4_lowest_16 rfl rfl ?_
  cases h
  exact hk _ _ dX4_lowest_17
def f_X4_highest_B3 (x0 : Int32) : Int32 → Option (Int32 ⊕ Int32)
  | x1 => if ((x0 >>> (x1 &&& 31)) &&& 1) = 0 then (some (.inl (x1 + (-1)))) else (some (.inr x1))
def f_X4_highest (x0 : Int32) : Option Int32 := (lp (f_X4_highest_B3 x0) 64 19).bind (fun r => match r with | x1_1 => some x1_1)
theorem cw_X4_highest : CWs yX4_highest cX4_highest 2 (some .int) 1 := ⟨m3_158, m1_5, m3_159, by decide, by decide, by decide +kernel⟩
set_option maxHeartbeats 4000000 in
set_option maxRecDepth 100000 in
theorem t_X4_highest_B3 {p : Program} {l : Launch} {e : Env} {s : State} {m : MethodId} {args : Array Value} {below : List Frame} {meth : Method} {c : Code} {D : va_G} {A : Nat → Prop} {cI cJ : ClassId} {Q : State → Prop} (C : Cx p s m args c cX4_highest 2 RX4 D A cI cJ) {x0 : Int32} (s8 : Int32) (o8 : Int32 ⊕ Int32) (h : f_X4_highest_B3 x0 s8 = some o8) (hl : ∀ s8, o8 = .inl s8 → V p l e (rmO 0 0) s m args below meth c 2 D A 0 0 Q 3 [(0, .int x0), (1, .int s8)] [] []) (hx : ∀ r8, o8 = .inr r8 → V p l e (rmO 0 0) s m args below meth c 2 D A 0 0 Q 17 [(1, .int r8)] [] []) : V p l e (rmO 0 0) s m args below meth c 2 D A 0 0 Q 3 [(0, .int x0), (1, .int s8)] [] [] := by
  obtain ⟨x1, rfl⟩ : ∃ z, z = s8 := ⟨_, rfl⟩
  unfold f_X4_highest_B3 at h
  show V p l e (rmO 0 0) s m args below meth c 2 D A 0 0 Q 3 [(0, .int x0), (1, .int x1)] [] []
  refine v_iload_n C 0 dX4_highest_3 rfl rfl ?_
  refine v_iload_n C 1 dX4_highest_4 rfl rfl ?_
  refine v_ishr C dX4_highest_5 ?_
  refine v_iconst (v := 1) C dX4_highest_6 (by decide) ?_
  refine v_iand C dX4_highest_7 ?_
  refine v_if_ne (tgt := 17) C dX4_highest_8 (by decide) h (fun h => ?_) (fun h => ?_)
  · refine v_iinc C [(1, .int (x1 + (-1))), (0, .int x0)] 1 dX4_highest_11 rfl rfl (by decide) rfl ?_
    refine v_goto (tgt := 3) C dX4_highest_14 (by decide) ?_
    refine v_perm [1, 0] rfl ?_
    cases h
    exact hl _ rfl
  · refine v_perm [1] rfl ?_
    cases h
    exact hx _ rfl
set_option maxHeartbeats 4000000 in
set_option maxRecDepth 100000 in
theorem t_X4_highest_L3 {p : Program} {l : Launch} {e : Env} {s : State} {m : MethodId} {args : Array Value} {below : List Frame} {meth : Method} {c : Code} {D : va_G} {A : Nat → Prop} {cI cJ : ClassId} {Q : State → Prop} (C : Cx p s m args c cX4_highest 2 RX4 D A cI cJ) {x0 : Int32} {n8 : Nat} {s9 : Int32} {o8 : Int32} (h : lp (f_X4_highest_B3 x0) n8 s9 = some o8) (hk : V p l e (rmO 0 0) s m args below meth c 2 D A 0 0 Q 17 [(1, .int o8)] [] []) : V p l e (rmO 0 0) s m args below meth c 2 D A 0 0 Q 3 [(0, .int x0), (1, .int s9)] [] [] := lp_ok (Pσ := fun s8 => V p l e (rmO 0 0) s m args below meth c 2 D A 0 0 Q 3 [(0, .int x0), (1, .int s8)] [] []) (Pρ := fun r8 => V p l e (rmO 0 0) s m args below meth c 2 D A 0 0 Q 17 [(1, .int r8)] [] []) (fun s o h hl hx => t_X4_highest_B3 C s o h hl hx) n8 s9 o8 h hk
set_option maxHeartbeats 4000000 in
set_option maxRecDepth 100000 in
theorem c_X4_highest (l : Launch) (D : va_G) (cI cJ : ClassId) (x0 : Int32) (r : Int32) (h : f_X4_highest x0 = some r) : Cti l D cI cJ yX4_highest cX4_highest 2 (some .int) 0 0 [.int x0] [] [] r := by
  refine mk_i [(0, .int x0)] (by decide) rfl (Nat.le_of_ble_eq_true rfl) rfl (fun p e s m args below meth c A Q C hk => ?_)
  unfold f_X4_highest at h
  refine v_bipush (v := 19) C dX4_highest_0 (by decide) ?_
  refine v_istore_n C [(1, .int 19), (0, .int x0)] dX4_highest_2 rfl (by decide) rfl ?_
  obtain ⟨r, h1, h⟩ := bind_el h
  refine v_perm [1, 0] rfl ?_
  obtain ⟨x1_1, rfl⟩ : ∃ z, z = r := ⟨_, rfl⟩
  refine t_X4_highest_L3 C (s9 := 19) h1 ?_
  show V p l e (rmO 0 0) s m args below meth c 2 D A 0 0 Q 17 [(1, .int x1_1)] [] []
  try dsimp only at h
  refine v_iload_n C 0 dX4_highest_17 rfl rfl ?_
  cases h
  exact hk _ _ dX4_highest_18
def f_X4_sort (pins_M : (Nat → Int32)) (x1 : Int32) : Option Int32 := (f_X4_pinsOf pins_M x1).bind (fun r => match r with | r_1 => (f_X4_columns pins_M x1).bind (fun r => match r with | r_2 => if 2 ≤ r_1 then ((f_X4_lowest r_2).bind (fun r => match r with | r_3 => (f_X4_highest r_2).bind (fun r => match r with | r_4 => if r_3 = r_4 then (some 2) else (some 3)))) else (some r_1)))
theorem cw_X4_sort : CWv yX4_sort cX4_sort 4 (some .int) RX4 1 := ⟨m3_144, ms3_12, m1_5, m3_145, rfl, by decide, by decide, by decide +kernel⟩
set_option maxHeartbeats 4000000 in
set_option maxRecDepth 100000 in
theorem c_X4_sort (l : Launch) (D : va_G) (cI cJ : ClassId) (aM : Nat → Nat) (thrown_M : Int32) (pins_M : (Nat → Int32)) (many_M : Int32) (nets_M : (Nat → Int32)) (lefts_M : (Nat → Int32)) (rights_M : (Nat → Int32)) (touches_M : (Nat → Int32)) (below_M : (Nat → Int64)) (reach_M : (Nat → Int64)) (tracksOf_M : (Nat → Int32)) (steps_M : (Nat → Int32)) (laid_M : Int32) (laidMany_M : Int32) (tracks_M : Int32) (laidNet_M : (Nat → Int32)) (laidLeft_M : (Nat → Int32)) (laidRight_M : (Nat → Int32)) (laidTouch_M : (Nat → Int32)) (laidTrack_M : (Nat → Int32)) (ringSize_M : Int32) (ringOf_M : (Nat → Int32)) (lays_M : Int32) (refusals_M : Int32) (x1 : Int32) (r : Int32) (h : f_X4_sort pins_M x1 = some r) : Cti l D cI cJ yX4_sort cX4_sort 4 (some .int) 1 23 [.ref (aM 0), .int x1] (wM cI cJ aM thrown_M pins_M many_M nets_M lefts_M rights_M touches_M below_M reach_M tracksOf_M steps_M laid_M laidMany_M tracks_M laidNet_M laidLeft_M laidRight_M laidTouch_M laidTrack_M ringSize_M ringOf_M lays_M refusals_M) (wM cI cJ aM thrown_M pins_M many_M nets_M lefts_M rights_M touches_M below_M reach_M tracksOf_M steps_M laid_M laidMany_M tracks_M laidNet_M laidLeft_M laidRight_M laidTouch_M laidTrack_M ringSize_M ringOf_M lays_M refusals_M) r := by
  refine mk_i [(0, .ref (aM 0)), (1, .int x1)] (by decide) rfl (Nat.le_of_ble_eq_true rfl) rfl (fun p e s m args below meth c A Q C hk => ?_)
  unfold f_X4_sort at h
  refine v_aload_n C 0 dX4_sort_0 rfl rfl ?_
  refine v_iload_n C 1 dX4_sort_1 rfl rfl ?_
  obtain ⟨r, h1, h⟩ := bind_el h
  obtain ⟨r_1, rfl⟩ : ∃ z, z = r := ⟨_, rfl⟩
  try dsimp only at h
  refine v_callVi (As := [.int x1]) (st := []) (wr := []) (w1 := (wM cI cJ aM thrown_M pins_M many_M nets_M lefts_M rights_M touches_M below_M reach_M tracksOf_M steps_M laid_M laidMany_M tracks_M laidNet_M laidLeft_M laidRight_M laidTouch_M laidTrack_M ringSize_M ringOf_M lays_M refusals_M)) (ws' := (wM cI cJ aM thrown_M pins_M many_M nets_M lefts_M rights_M touches_M below_M reach_M tracksOf_M steps_M laid_M laidMany_M tracks_M laidNet_M laidLeft_M laidRight_M laidTouch_M laidTrack_M ringSize_M ringOf_M lays_M refusals_M)) (isC := [0, 1, 2, 3, 4, 5, 6, 7, 8, 9, 10, 11, 12, 13, 14, 15]) (isR := []) (pm := [0, 1, 2, 3, 4, 5, 6, 7, 8, 9, 10, 11, 12, 13, 14, 15]) C (c_X4_pinsOf l D cI cJ aM thrown_M pins_M many_M nets_M lefts_M rights_M touches_M below_M reach_M tracksOf_M steps_M laid_M laidMany_M tracks_M laidNet_M laidLeft_M laidRight_M laidTouch_M laidTrack_M ringSize_M ringOf_M lays_M refusals_M x1 r_1 h1) cw_X4_pinsOf 0 rfl rfl m3_146 dX4_sort_2 rfl ⟨Nat.le_of_ble_eq_true rfl, Nat.le_of_ble_eq_true rfl⟩ (Nat.le_of_ble_eq_true rfl) ⟨Nat.le_refl 0, Nat.le_refl 0⟩ ⟨rfl, rfl, rfl, rfl, by decide, rfl, rfl⟩ ?_
  refine v_istore_n C [(2, .int r_1), (0, .ref (aM 0)), (1, .int x1)] dX4_sort_5 rfl (by decide) rfl ?_
  refine v_aload_n C 1 dX4_sort_6 rfl rfl ?_
  refine v_iload_n C 2 dX4_sort_7 rfl rfl ?_
  obtain ⟨r, h1, h⟩ := bind_el h
  obtain ⟨r_2, rfl⟩ : ∃ z, z = r := ⟨_, rfl⟩
  try dsimp only at h
  refine v_callVi (As := [.int x1]) (st := []) (wr := []) (w1 := (wM cI cJ aM thrown_M pins_M many_M nets_M lefts_M rights_M touches_M below_M reach_M tracksOf_M steps_M laid_M laidMany_M tracks_M laidNet_M laidLeft_M laidRight_M laidTouch_M laidTrack_M ringSize_M ringOf_M lays_M refusals_M)) (ws' := (wM cI cJ aM thrown_M pins_M many_M nets_M lefts_M rights_M touches_M below_M reach_M tracksOf_M steps_M laid_M laidMany_M tracks_M laidNet_M laidLeft_M laidRight_M laidTouch_M laidTrack_M ringSize_M ringOf_M lays_M refusals_M)) (isC := [0, 1, 2, 3, 4, 5, 6, 7, 8, 9, 10, 11, 12, 13, 14, 15]) (isR := []) (pm := [0, 1, 2, 3, 4, 5, 6, 7, 8, 9, 10, 11, 12, 13, 14, 15]) C (c_X4_columns l D cI cJ aM thrown_M pins_M many_M nets_M lefts_M rights_M touches_M below_M reach_M tracksOf_M steps_M laid_M laidMany_M tracks_M laidNet_M laidLeft_M laidRight_M laidTouch_M laidTrack_M ringSize_M ringOf_M lays_M refusals_M x1 r_2 h1) cw_X4_columns 0 rfl rfl m3_150 dX4_sort_8 rfl ⟨Nat.le_of_ble_eq_true rfl, Nat.le_of_ble_eq_true rfl⟩ (Nat.le_of_ble_eq_true rfl) ⟨Nat.le_refl 0, Nat.le_refl 0⟩ ⟨rfl, rfl, rfl, rfl, by decide, rfl, rfl⟩ ?_
  refine v_istore_n C [(3, .int r_2), (2, .int r_1), (0, .ref (aM 0)), (1, .int x1)] dX4_sort_11 rfl (by decide) rfl ?_
  refine v_iload_n C 1 dX4_sort_12 rfl rfl ?_
  refine v_iconst (v := 2) C dX4_sort_13 (by decide) ?_
  refine v_icmp_ge (tgt := 21) C dX4_sort_14 (by decide) h (fun h => ?_) (fun h => ?_)
  · refine v_iload_n C 0 dX4_sort_21 rfl rfl ?_
    obtain ⟨r, h1, h⟩ := bind_el h
    obtain ⟨r_3, rfl⟩ : ∃ z, z = r := ⟨_, rfl⟩
    try dsimp only at h
    refine v_callSi (As := [.int r_2]) (st := []) (wr := [(aM 0, .inr (4, [.int thrown_M, .ref (aM 1), .int many_M, .ref (aM 2), .ref (aM 3), .ref (aM 4), .ref (aM 5), .ref (aM 6), .ref (aM 7), .ref (aM 8), .ref (aM 9), .int laid_M, .int laidMany_M, .int tracks_M, .ref (aM 10), .ref (aM 11), .ref (aM 12), .ref (aM 13), .ref (aM 14), .int ringSize_M, .ref (aM 15), .int lays_M, .int refusals_M])), (aM 1, .inl (cI, 40, .inl pins_M)), (aM 2, .inl (cI, 40, .inl nets_M)), (aM 3, .inl (cI, 40, .inl lefts_M)), (aM 4, .inl (cI, 40, .inl rights_M)), (aM 5, .inl (cI, 40, .inl touches_M)), (aM 6, .inl (cJ, 40, .inr (.inl below_M))), (aM 7, .inl (cJ, 40, .inr (.inl reach_M))), (aM 8, .inl (cI, 40, .inl tracksOf_M)), (aM 9, .inl (cI, 40, .inl steps_M)), (aM 10, .inl (cI, 40, .inl laidNet_M)), (aM 11, .inl (cI, 40, .inl laidLeft_M)), (aM 12, .inl (cI, 40, .inl laidRight_M)), (aM 13, .inl (cI, 40, .inl laidTouch_M)), (aM 14, .inl (cI, 40, .inl laidTrack_M)), (aM 15, .inl (cI, 40, .inl ringOf_M))]) (w1 := []) (ws' := (wM cI cJ aM thrown_M pins_M many_M nets_M lefts_M rights_M touches_M below_M reach_M tracksOf_M steps_M laid_M laidMany_M tracks_M laidNet_M laidLeft_M laidRight_M laidTouch_M laidTrack_M ringSize_M ringOf_M lays_M refusals_M)) (isC := []) (isR := [0, 1, 2, 3, 4, 5, 6, 7, 8, 9, 10, 11, 12, 13, 14, 15]) (pm := [0, 1, 2, 3, 4, 5, 6, 7, 8, 9, 10, 11, 12, 13, 14, 15]) C (c_X4_lowest l D cI cJ r_2 r_3 h1) cw_X4_lowest m3_154 dX4_sort_22 rfl ⟨Nat.le_of_ble_eq_true rfl, Nat.le_of_ble_eq_true rfl⟩ (Nat.le_of_ble_eq_true rfl) ⟨Nat.le_refl 0, Nat.le_refl 0⟩ ⟨rfl, rfl, rfl, rfl, by decide, rfl, rfl⟩ ?_
    refine v_iload_n C 0 dX4_sort_25 rfl rfl ?_
    obtain ⟨r, h1, h⟩ := bind_el h
    obtain ⟨r_4, rfl⟩ : ∃ z, z = r := ⟨_, rfl⟩
    try dsimp only at h
    refine v_callSi (As := [.int r_2]) (st := [.int r_3]) (wr := [(aM 0, .inr (4, [.int thrown_M, .ref (aM 1), .int many_M, .ref (aM 2), .ref (aM 3), .ref (aM 4), .ref (aM 5), .ref (aM 6), .ref (aM 7), .ref (aM 8), .ref (aM 9), .int laid_M, .int laidMany_M, .int tracks_M, .ref (aM 10), .ref (aM 11), .ref (aM 12), .ref (aM 13), .ref (aM 14), .int ringSize_M, .ref (aM 15), .int lays_M, .int refusals_M])), (aM 1, .inl (cI, 40, .inl pins_M)), (aM 2, .inl (cI, 40, .inl nets_M)), (aM 3, .inl (cI, 40, .inl lefts_M)), (aM 4, .inl (cI, 40, .inl rights_M)), (aM 5, .inl (cI, 40, .inl touches_M)), (aM 6, .inl (cJ, 40, .inr (.inl below_M))), (aM 7, .inl (cJ, 40, .inr (.inl reach_M))), (aM 8, .inl (cI, 40, .inl tracksOf_M)), (aM 9, .inl (cI, 40, .inl steps_M)), (aM 10, .inl (cI, 40, .inl laidNet_M)), (aM 11, .inl (cI, 40, .inl laidLeft_M)), (aM 12, .inl (cI, 40, .inl laidRight_M)), (aM 13, .inl (cI, 40, .inl laidTouch_M)), (aM 14, .inl (cI, 40, .inl laidTrack_M)), (aM 15, .inl (cI, 40, .inl ringOf_M))]) (w1 := []) (ws' := (wM cI cJ aM thrown_M pins_M many_M nets_M lefts_M rights_M touches_M below_M reach_M tracksOf_M steps_M laid_M laidMany_M tracks_M laidNet_M laidLeft_M laidRight_M laidTouch_M laidTrack_M ringSize_M ringOf_M lays_M refusals_M)) (isC := []) (isR := [0, 1, 2, 3, 4, 5, 6, 7, 8, 9, 10, 11, 12, 13, 14, 15]) (pm := [0, 1, 2, 3, 4, 5, 6, 7, 8, 9, 10, 11, 12, 13, 14, 15]) C (c_X4_highest l D cI cJ r_2 r_4 h1) cw_X4_highest m3_157 dX4_sort_26 rfl ⟨Nat.le_of_ble_eq_true rfl, Nat.le_of_ble_eq_true rfl⟩ (Nat.le_of_ble_eq_true rfl) ⟨Nat.le_refl 0, Nat.le_refl 0⟩ ⟨rfl, rfl, rfl, rfl, by decide, rfl, rfl⟩ ?_
    refine v_icmp_ne (tgt := 36) C dX4_sort_29 (by decide) h (fun h => ?_) (fun h => ?_)
    · refine v_iconst (v := 2) C dX4_sort_32 (by decide) ?_
      refine v_goto (tgt := 37) C dX4_sort_33 (by decide) ?_
      cases h
      exact hk _ _ dX4_sort_37
    · refine v_iconst (v := 3) C dX4_sort_36 (by decide) ?_
      cases h
      exact hk _ _ dX4_sort_37
  · refine v_iload_n C 1 dX4_sort_17 rfl rfl ?_
    refine v_goto (tgt := 37) C dX4_sort_18 (by decide) ?_
    cases h
    exact hk _ _ dX4_sort_37
def f_X4_anySingle_B4 (pins_M : (Nat → Int32)) : (Int32 × Int32) → Option ((Int32 × Int32) ⊕ Int32)
  | (x1, x2) => if 9 < x2 then (some (.inr x1)) else (if x1 = 0 then ((f_X4_sort pins_M x2).bind (fun r => match r with | r_1 => if r_1 = 1 then (some (.inl (1, x2 + 1))) else (some (.inl (0, x2 + 1))))) else (some (.inl (1, x2 + 1))))
def f_X4_anySingle (pins_M : (Nat → Int32)) : Option Int32 := (lp (f_X4_anySingle_B4 pins_M) 64 (0, 1)).bind (fun r => match r with | x1_2 => zbl x1_2 (some x1_2))
theorem cw_X4_anySingle : CWv yX4_anySingle cX4_anySingle 3 (some .boolean) RX4 0 := ⟨m3_140, ms3_11, m1_5, m3_141, rfl, by decide, by decide, by decide +kernel⟩
set_option maxHeartbeats 4000000 in
set_option maxRecDepth 100000 in
theorem t_X4_anySingle_B4 {p : Program} {l : Launch} {e : Env} {s : State} {m : MethodId} {args : Array Value} {below : List Frame} {meth : Method} {c : Code} {D : va_G} {A : Nat → Prop} {cI cJ : ClassId} {Q : State → Prop} (C : Cx p s m args c cX4_anySingle 3 RX4 D A cI cJ) {aM : Nat → Nat} {thrown_M : Int32} {pins_M : (Nat → Int32)} {many_M : Int32} {nets_M : (Nat → Int32)} {lefts_M : (Nat → Int32)} {rights_M : (Nat → Int32)} {touches_M : (Nat → Int32)} {below_M : (Nat → Int64)} {reach_M : (Nat → Int64)} {tracksOf_M : (Nat → Int32)} {steps_M : (Nat → Int32)} {laid_M : Int32} {laidMany_M : Int32} {tracks_M : Int32} {laidNet_M : (Nat → Int32)} {laidLeft_M : (Nat → Int32)} {laidRight_M : (Nat → Int32)} {laidTouch_M : (Nat → Int32)} {laidTrack_M : (Nat → Int32)} {ringSize_M : Int32} {ringOf_M : (Nat → Int32)} {lays_M : Int32} {refusals_M : Int32} (s8 : (Int32 × Int32)) (o8 : (Int32 × Int32) ⊕ Int32) (h : f_X4_anySingle_B4 pins_M s8 = some o8) (hl : ∀ s8, o8 = .inl s8 → V p l e (rmO 2 46) s m args below meth c 3 D A 0 0 Q 4 [(0, .ref (aM 0)), (1, .int s8.1), (2, .int s8.2)] [] (wM cI cJ aM thrown_M pins_M many_M nets_M lefts_M rights_M touches_M below_M reach_M tracksOf_M steps_M laid_M laidMany_M tracks_M laidNet_M laidLeft_M laidRight_M laidTouch_M laidTrack_M ringSize_M ringOf_M lays_M refusals_M)) (hx : ∀ r8, o8 = .inr r8 → V p l e (rmO 2 46) s m args below meth c 3 D A 0 0 Q 35 [(1, .int r8)] [] (wM cI cJ aM thrown_M pins_M many_M nets_M lefts_M rights_M touches_M below_M reach_M tracksOf_M steps_M laid_M laidMany_M tracks_M laidNet_M laidLeft_M laidRight_M laidTouch_M laidTrack_M ringSize_M ringOf_M lays_M refusals_M)) : V p l e (rmO 2 46) s m args below meth c 3 D A 0 0 Q 4 [(0, .ref (aM 0)), (1, .int s8.1), (2, .int s8.2)] [] (wM cI cJ aM thrown_M pins_M many_M nets_M lefts_M rights_M touches_M below_M reach_M tracksOf_M steps_M laid_M laidMany_M tracks_M laidNet_M laidLeft_M laidRight_M laidTouch_M laidTrack_M ringSize_M ringOf_M lays_M refusals_M) := by
  obtain ⟨x1, x2⟩ := s8
  unfold f_X4_anySingle_B4 at h
  show V p l e (rmO 2 46) s m args below meth c 3 D A 0 0 Q 4 [(0, .ref (aM 0)), (1, .int x1), (2, .int x2)] [] (wM cI cJ aM thrown_M pins_M many_M nets_M lefts_M rights_M touches_M below_M reach_M tracksOf_M steps_M laid_M laidMany_M tracks_M laidNet_M laidLeft_M laidRight_M laidTouch_M laidTrack_M ringSize_M ringOf_M lays_M refusals_M)
  refine v_iload_n C 2 dX4_anySingle_4 rfl rfl ?_
  refine v_bipush (v := 9) C dX4_anySingle_5 (by decide) ?_
  refine v_icmp_gt (tgt := 35) C dX4_anySingle_7 (by decide) h (fun h => ?_) (fun h => ?_)
  · refine v_perm [1] rfl ?_
    cases h
    exact hx _ rfl
  · refine v_iload_n C 1 dX4_anySingle_10 rfl rfl ?_
    refine v_if_ne (tgt := 23) C dX4_anySingle_11 (by decide) h (fun h => ?_) (fun h => ?_)
    · refine v_aload_n C 0 dX4_anySingle_14 rfl rfl ?_
      refine v_iload_n C 2 dX4_anySingle_15 rfl rfl ?_
      obtain ⟨r, h1, h⟩ := bind_el h
      obtain ⟨r_1, rfl⟩ : ∃ z, z = r := ⟨_, rfl⟩
      try dsimp only at h
      refine v_callVi (As := [.int x2]) (st := []) (wr := []) (w1 := (wM cI cJ aM thrown_M pins_M many_M nets_M lefts_M rights_M touches_M below_M reach_M tracksOf_M steps_M laid_M laidMany_M tracks_M laidNet_M laidLeft_M laidRight_M laidTouch_M laidTrack_M ringSize_M ringOf_M lays_M refusals_M)) (ws' := (wM cI cJ aM thrown_M pins_M many_M nets_M lefts_M rights_M touches_M below_M reach_M tracksOf_M steps_M laid_M laidMany_M tracks_M laidNet_M laidLeft_M laidRight_M laidTouch_M laidTrack_M ringSize_M ringOf_M lays_M refusals_M)) (isC := [0, 1, 2, 3, 4, 5, 6, 7, 8, 9, 10, 11, 12, 13, 14, 15]) (isR := []) (pm := [0, 1, 2, 3, 4, 5, 6, 7, 8, 9, 10, 11, 12, 13, 14, 15]) C (c_X4_sort l D cI cJ aM thrown_M pins_M many_M nets_M lefts_M rights_M touches_M below_M reach_M tracksOf_M steps_M laid_M laidMany_M tracks_M laidNet_M laidLeft_M laidRight_M laidTouch_M laidTrack_M ringSize_M ringOf_M lays_M refusals_M x2 r_1 h1) cw_X4_sort 0 rfl rfl m3_142 dX4_anySingle_16 rfl ⟨Nat.le_of_ble_eq_true rfl, Nat.le_of_ble_eq_true rfl⟩ (Nat.le_of_ble_eq_true rfl) ⟨Nat.le_refl 0, Nat.le_refl 0⟩ ⟨rfl, rfl, rfl, rfl, by decide, rfl, rfl⟩ ?_
      refine v_iconst (v := 1) C dX4_anySingle_19 (by decide) ?_
      refine v_icmp_ne (tgt := 27) C dX4_anySingle_20 (by decide) h (fun h => ?_) (fun h => ?_)
      · refine v_iconst (v := 1) C dX4_anySingle_23 (by decide) ?_
        refine v_goto (tgt := 28) C dX4_anySingle_24 (by decide) ?_
        refine v_istore_n C [(1, .int 1), (0, .ref (aM 0)), (2, .int x2)] dX4_anySingle_28 rfl (by decide) rfl ?_
        refine v_iinc C [(2, .int (x2 + 1)), (1, .int 1), (0, .ref (aM 0))] 2 dX4_anySingle_29 rfl rfl (by decide) rfl ?_
        refine v_goto (tgt := 4) C dX4_anySingle_32 (by decide) ?_
        refine v_perm [2, 1, 0] rfl ?_
        cases h
        exact hl _ rfl
      · refine v_iconst (v := 0) C dX4_anySingle_27 (by decide) ?_
        refine v_istore_n C [(1, .int 0), (0, .ref (aM 0)), (2, .int x2)] dX4_anySingle_28 rfl (by decide) rfl ?_
        refine v_iinc C [(2, .int (x2 + 1)), (1, .int 0), (0, .ref (aM 0))] 2 dX4_anySingle_29 rfl rfl (by decide) rfl ?_
        refine v_goto (tgt := 4) C dX4_anySingle_32 (by decide) ?_
        refine v_perm [2, 1, 0] rfl ?_
        cases h
        exact hl _ rfl
    · refine v_iconst (v := 1) C dX4_anySingle_23 (by decide) ?_
      refine v_goto (tgt := 28) C dX4_anySingle_24 (by decide) ?_
      refine v_istore_n C [(1, .int 1), (0, .ref (aM 0)), (2, .int x2)] dX4_anySingle_28 rfl (by decide) rfl ?_
      refine v_iinc C [(2, .int (x2 + 1)), (1, .int 1), (0, .ref (aM 0))] 2 dX4_anySingle_29 rfl rfl (by decide) rfl ?_
      refine v_goto (tgt := 4) C dX4_anySingle_32 (by decide) ?_
      refine v_perm [2, 1, 0] rfl ?_
      cases h
      exact hl _ rfl
set_option maxHeartbeats 4000000 in
set_option maxRecDepth 100000 in
theorem t_X4_anySingle_L4 {p : Program} {l : Launch} {e : Env} {s : State} {m : MethodId} {args : Array Value} {below : List Frame} {meth : Method} {c : Code} {D : va_G} {A : Nat → Prop} {cI cJ : ClassId} {Q : State → Prop} (C : Cx p s m args c cX4_anySingle 3 RX4 D A cI cJ) {aM : Nat → Nat} {thrown_M : Int32} {pins_M : (Nat → Int32)} {many_M : Int32} {nets_M : (Nat → Int32)} {lefts_M : (Nat → Int32)} {rights_M : (Nat → Int32)} {touches_M : (Nat → Int32)} {below_M : (Nat → Int64)} {reach_M : (Nat → Int64)} {tracksOf_M : (Nat → Int32)} {steps_M : (Nat → Int32)} {laid_M : Int32} {laidMany_M : Int32} {tracks_M : Int32} {laidNet_M : (Nat → Int32)} {laidLeft_M : (Nat → Int32)} {laidRight_M : (Nat → Int32)} {laidTouch_M : (Nat → Int32)} {laidTrack_M : (Nat → Int32)} {ringSize_M : Int32} {ringOf_M : (Nat → Int32)} {lays_M : Int32} {refusals_M : Int32} {n8 : Nat} {s9 : (Int32 × Int32)} {o8 : Int32} (h : lp (f_X4_anySingle_B4 pins_M) n8 s9 = some o8) (hk : V p l e (rmO 2 46) s m args below meth c 3 D A 0 0 Q 35 [(1, .int o8)] [] (wM cI cJ aM thrown_M pins_M many_M nets_M lefts_M rights_M touches_M below_M reach_M tracksOf_M steps_M laid_M laidMany_M tracks_M laidNet_M laidLeft_M laidRight_M laidTouch_M laidTrack_M ringSize_M ringOf_M lays_M refusals_M)) : V p l e (rmO 2 46) s m args below meth c 3 D A 0 0 Q 4 [(0, .ref (aM 0)), (1, .int s9.1), (2, .int s9.2)] [] (wM cI cJ aM thrown_M pins_M many_M nets_M lefts_M rights_M touches_M below_M reach_M tracksOf_M steps_M laid_M laidMany_M tracks_M laidNet_M laidLeft_M laidRight_M laidTouch_M laidTrack_M ringSize_M ringOf_M lays_M refusals_M) := lp_ok (Pσ := fun s8 => V p l e (rmO 2 46) s m args below meth c 3 D A 0 0 Q 4 [(0, .ref (aM 0)), (1, .int s8.1), (2, .int s8.2)] [] (wM cI cJ aM thrown_M pins_M many_M nets_M lefts_M rights_M touches_M below_M reach_M tracksOf_M steps_M laid_M laidMany_M tracks_M laidNet_M laidLeft_M laidRight_M laidTouch_M laidTrack_M ringSize_M ringOf_M lays_M refusals_M)) (Pρ := fun r8 => V p l e (rmO 2 46) s m args below meth c 3 D A 0 0 Q 35 [(1, .int r8)] [] (wM cI cJ aM thrown_M pins_M many_M nets_M lefts_M rights_M touches_M below_M reach_M tracksOf_M steps_M laid_M laidMany_M tracks_M laidNet_M laidLeft_M laidRight_M laidTouch_M laidTrack_M ringSize_M ringOf_M lays_M refusals_M)) (fun s o h hl hx => t_X4_anySingle_B4 C s o h hl hx) n8 s9 o8 h hk
set_option maxHeartbeats 4000000 in
set_option maxRecDepth 100000 in
theorem c_X4_anySingle (l : Launch) (D : va_G) (cI cJ : ClassId) (aM : Nat → Nat) (thrown_M : Int32) (pins_M : (Nat → Int32)) (many_M : Int32) (nets_M : (Nat → Int32)) (lefts_M : (Nat → Int32)) (rights_M : (Nat → Int32)) (touches_M : (Nat → Int32)) (below_M : (Nat → Int64)) (reach_M : (Nat → Int64)) (tracksOf_M : (Nat → Int32)) (steps_M : (Nat → Int32)) (laid_M : Int32) (laidMany_M : Int32) (tracks_M : Int32) (laidNet_M : (Nat → Int32)) (laidLeft_M : (Nat → Int32)) (laidRight_M : (Nat → Int32)) (laidTouch_M : (Nat → Int32)) (laidTrack_M : (Nat → Int32)) (ringSize_M : Int32) (ringOf_M : (Nat → Int32)) (lays_M : Int32) (refusals_M : Int32) (r : Int32) (h : f_X4_anySingle pins_M = some r) : Cti l D cI cJ yX4_anySingle cX4_anySingle 3 (some .boolean) 2 46 [.ref (aM 0)] (wM cI cJ aM thrown_M pins_M many_M nets_M lefts_M rights_M touches_M below_M reach_M tracksOf_M steps_M laid_M laidMany_M tracks_M laidNet_M laidLeft_M laidRight_M laidTouch_M laidTrack_M ringSize_M ringOf_M lays_M refusals_M) (wM cI cJ aM thrown_M pins_M many_M nets_M lefts_M rights_M touches_M below_M reach_M tracksOf_M steps_M laid_M laidMany_M tracks_M laidNet_M laidLeft_M laidRight_M laidTouch_M laidTrack_M ringSize_M ringOf_M lays_M refusals_M) r := by
  refine mk_z [(0, .ref (aM 0))] (by decide) rfl (Nat.le_of_ble_eq_true rfl) rfl (fun p e s m args below meth c A Q C hk => ?_)
  unfold f_X4_anySingle at h
  refine v_iconst (v := 0) C dX4_anySingle_0 (by decide) ?_
  refine v_istore_n C [(1, .int 0), (0, .ref (aM 0))] dX4_anySingle_1 rfl (by decide) rfl ?_
  refine v_iconst (v := 1) C dX4_anySingle_2 (by decide) ?_
  refine v_istore_n C [(2, .int 1), (1, .int 0), (0, .ref (aM 0))] dX4_anySingle_3 rfl (by decide) rfl ?_
  obtain ⟨r, h1, h⟩ := bind_el h
  refine v_perm [2, 1, 0] rfl ?_
  obtain ⟨x1_2, rfl⟩ : ∃ z, z = r := ⟨_, rfl⟩
  refine t_X4_anySingle_L4 C (s9 := (0, 1)) h1 ?_
  show V p l e (rmO 2 46) s m args below meth c 3 D A 0 0 Q 35 [(1, .int x1_2)] [] (wM cI cJ aM thrown_M pins_M many_M nets_M lefts_M rights_M touches_M below_M reach_M tracksOf_M steps_M laid_M laidMany_M tracks_M laidNet_M laidLeft_M laidRight_M laidTouch_M laidTrack_M ringSize_M ringOf_M lays_M refusals_M)
  try dsimp only at h
  refine v_iload_n C 0 dX4_anySingle_35 rfl rfl ?_
  have hz := (zbl_el h).1
  replace h := (zbl_el h).2
  cases h
  exact hk _ _ dX4_anySingle_36 hz
def f_X4_segmentOf (many_M : Int32) (nets_M : (Nat → Int32)) (lefts_M : (Nat → Int32)) (rights_M : (Nat → Int32)) (touches_M : (Nat → Int32)) (x1 : Int32) (x2 : Int32) (x3 : Int32) (x4 : Int32) : Option (Int32 × (Nat → Int32) × (Nat → Int32) × (Nat → Int32) × (Nat → Int32)) := bnd many_M 40 (bnd many_M 40 (bnd many_M 40 (bnd many_M 40 (some (many_M + 1, upd nets_M many_M.toNatClampNeg x1, upd lefts_M many_M.toNatClampNeg x2, upd rights_M many_M.toNatClampNeg x3, upd touches_M many_M.toNatClampNeg x4)))))
theorem cw_X4_segmentOf : CWv yX4_segmentOf cX4_segmentOf 5 none RX4 4 := ⟨m3_174, ms4_2, m1_5, m3_175, rfl, by decide, by decide, by decide +kernel⟩
set_option maxHeartbeats 4000000 in
set_option maxRecDepth 100000 in
theorem c_X4_segmentOf (l : Launch) (D : va_G) (cI cJ : ClassId) (aM : Nat → Nat) (thrown_M : Int32) (pins_M : (Nat → Int32)) (many_M : Int32) (nets_M : (Nat → Int32)) (lefts_M : (Nat → Int32)) (rights_M : (Nat → Int32)) (touches_M : (Nat → Int32)) (below_M : (Nat → Int64)) (reach_M : (Nat → Int64)) (tracksOf_M : (Nat → Int32)) (steps_M : (Nat → Int32)) (laid_M : Int32) (laidMany_M : Int32) (tracks_M : Int32) (laidNet_M : (Nat → Int32)) (laidLeft_M : (Nat → Int32)) (laidRight_M : (Nat → Int32)) (laidTouch_M : (Nat → Int32)) (laidTrack_M : (Nat → Int32)) (ringSize_M : Int32) (ringOf_M : (Nat → Int32)) (lays_M : Int32) (refusals_M : Int32) (x1 : Int32) (x2 : Int32) (x3 : Int32) (x4 : Int32) (many_M' : Int32) (nets_M' : (Nat → Int32)) (lefts_M' : (Nat → Int32)) (rights_M' : (Nat → Int32)) (touches_M' : (Nat → Int32)) (h : f_X4_segmentOf many_M nets_M lefts_M rights_M touches_M x1 x2 x3 x4 = some (many_M', nets_M', lefts_M', rights_M', touches_M')) : Ctv l D cI cJ yX4_segmentOf cX4_segmentOf 5 none 0 0 [.ref (aM 0), .int x1, .int x2, .int x3, .int x4] (wM cI cJ aM thrown_M pins_M many_M nets_M lefts_M rights_M touches_M below_M reach_M tracksOf_M steps_M laid_M laidMany_M tracks_M laidNet_M laidLeft_M laidRight_M laidTouch_M laidTrack_M ringSize_M ringOf_M lays_M refusals_M) (wM cI cJ aM thrown_M pins_M many_M' nets_M' lefts_M' rights_M' touches_M' below_M reach_M tracksOf_M steps_M laid_M laidMany_M tracks_M laidNet_M laidLeft_M laidRight_M laidTouch_M laidTrack_M ringSize_M ringOf_M lays_M refusals_M) := by
  refine mk_v [(0, .ref (aM 0)), (1, .int x1), (2, .int x2), (3, .int x3), (4, .int x4)] (by decide) rfl (Nat.le_of_ble_eq_true rfl) rfl (fun p e s m args below meth c A Q C hk => ?_)
  unfold f_X4_segmentOf at h
  refine v_aload_n C 0 dX4_segmentOf_0 rfl rfl ?_
  refine v_get C 0 3 iuX4 rfl rfl (by decide) m3_56 rfl rfl dX4_segmentOf_1 ?_
  refine v_aload_n C 0 dX4_segmentOf_4 rfl rfl ?_
  refine v_get C 0 2 iuX4 rfl rfl (by decide) m3_55 rfl rfl dX4_segmentOf_5 ?_
  refine v_iload_n C 1 dX4_segmentOf_8 rfl rfl ?_
  refine v_iast C (wM cI cJ aM thrown_M pins_M many_M (upd nets_M many_M.toNatClampNeg x1) lefts_M rights_M touches_M below_M reach_M tracksOf_M steps_M laid_M laidMany_M tracks_M laidNet_M laidLeft_M laidRight_M laidTouch_M laidTrack_M ringSize_M ringOf_M lays_M refusals_M) 2 rfl dX4_segmentOf_9 h rfl (fun h => ?_)
  refine v_aload_n C 0 dX4_segmentOf_10 rfl rfl ?_
  refine v_get C 0 4 iuX4 rfl rfl (by decide) m3_57 rfl rfl dX4_segmentOf_11 ?_
  refine v_aload_n C 0 dX4_segmentOf_14 rfl rfl ?_
  refine v_get C 0 2 iuX4 rfl rfl (by decide) m3_55 rfl rfl dX4_segmentOf_15 ?_
  refine v_iload_n C 2 dX4_segmentOf_18 rfl rfl ?_
  refine v_iast C (wM cI cJ aM thrown_M pins_M many_M (upd nets_M many_M.toNatClampNeg x1) (upd lefts_M many_M.toNatClampNeg x2) rights_M touches_M below_M reach_M tracksOf_M steps_M laid_M laidMany_M tracks_M laidNet_M laidLeft_M laidRight_M laidTouch_M laidTrack_M ringSize_M ringOf_M lays_M refusals_M) 3 rfl dX4_segmentOf_19 h rfl (fun h => ?_)
  refine v_aload_n C 0 dX4_segmentOf_20 rfl rfl ?_
  refine v_get C 0 5 iuX4 rfl rfl (by decide) m3_58 rfl rfl dX4_segmentOf_21 ?_
  refine v_aload_n C 0 dX4_segmentOf_24 rfl rfl ?_
  refine v_get C 0 2 iuX4 rfl rfl (by decide) m3_55 rfl rfl dX4_segmentOf_25 ?_
  refine v_iload_n C 3 dX4_segmentOf_28 rfl rfl ?_
  refine v_iast C (wM cI cJ aM thrown_M pins_M many_M (upd nets_M many_M.toNatClampNeg x1) (upd lefts_M many_M.toNatClampNeg x2) (upd rights_M many_M.toNatClampNeg x3) touches_M below_M reach_M tracksOf_M steps_M laid_M laidMany_M tracks_M laidNet_M laidLeft_M laidRight_M laidTouch_M laidTrack_M ringSize_M ringOf_M lays_M refusals_M) 4 rfl dX4_segmentOf_29 h rfl (fun h => ?_)
  refine v_aload_n C 0 dX4_segmentOf_30 rfl rfl ?_
  refine v_get C 0 6 iuX4 rfl rfl (by decide) m3_59 rfl rfl dX4_segmentOf_31 ?_
  refine v_aload_n C 0 dX4_segmentOf_34 rfl rfl ?_
  refine v_get C 0 2 iuX4 rfl rfl (by decide) m3_55 rfl rfl dX4_segmentOf_35 ?_
  refine v_iload C 4 dX4_segmentOf_38 rfl ?_
  refine v_iast C (wM cI cJ aM thrown_M pins_M many_M (upd nets_M many_M.toNatClampNeg x1) (upd lefts_M many_M.toNatClampNeg x2) (upd rights_M many_M.toNatClampNeg x3) (upd touches_M many_M.toNatClampNeg x4) below_M reach_M tracksOf_M steps_M laid_M laidMany_M tracks_M laidNet_M laidLeft_M laidRight_M laidTouch_M laidTrack_M ringSize_M ringOf_M lays_M refusals_M) 5 rfl dX4_segmentOf_40 h rfl (fun h => ?_)
  refine v_aload_n C 0 dX4_segmentOf_41 rfl rfl ?_
  refine v_dup C dX4_segmentOf_42 rfl ?_
  refine v_get C 0 2 iuX4 rfl rfl (by decide) m3_55 rfl rfl dX4_segmentOf_43 ?_
  refine v_iconst (v := 1) C dX4_segmentOf_46 (by decide) ?_
  refine v_iadd C dX4_segmentOf_47 ?_
  refine v_put C (wM cI cJ aM thrown_M pins_M (many_M + 1) (upd nets_M many_M.toNatClampNeg x1) (upd lefts_M many_M.toNatClampNeg x2) (upd rights_M many_M.toNatClampNeg x3) (upd touches_M many_M.toNatClampNeg x4) below_M reach_M tracksOf_M steps_M laid_M laidMany_M tracks_M laidNet_M laidLeft_M laidRight_M laidTouch_M laidTrack_M ringSize_M ringOf_M lays_M refusals_M) 0 2 iuX4 tyX4_ok nmX4 rfl rfl (by decide) m3_55 rfl rfl rfl rfl rfl (Nat.le_of_ble_eq_true rfl) dX4_segmentOf_48 rfl ?_
  cases h
  exact hk _ _ dX4_segmentOf_51
def f_X4_makeSegments_B52 (x1 : Int32) (x2 : Int32) (x3 : Int32) (pins_M : (Nat → Int32)) : (Int32 × Int32 × Int32 × (Nat → Int32) × (Nat → Int32) × (Nat → Int32) × (Nat → Int32)) → Option ((Int32 × Int32 × Int32 × (Nat → Int32) × (Nat → Int32) × (Nat → Int32) × (Nat → Int32)) ⊕ (Int32 × (Nat → Int32) × (Nat → Int32) × (Nat → Int32) × (Nat → Int32)))
  | (x4, x5, many_M, nets_M, lefts_M, rights_M, touches_M) => if 20 ≤ x5 then (some (.inr (many_M, nets_M, lefts_M, rights_M, touches_M))) else ((f_X4_sort pins_M x2).bind (fun r => match r with | r_3 => if r_3 = 3 then (if x1 = 0 then (some (.inr (many_M, nets_M, lefts_M, rights_M, touches_M))) else (if ((x3 >>> (x5 &&& 31)) &&& 1) = 1 then (if x4 < 0 then (some (.inl (x5, x5 + 1, many_M, nets_M, lefts_M, rights_M, touches_M))) else ((f_X4_segmentOf many_M nets_M lefts_M rights_M touches_M x2 x4 x5 (((1 : Int32) <<< (x4 &&& 31)) ||| ((1 : Int32) <<< (x5 &&& 31)))).bind (fun r => match r with | (many_M_4, nets_M_5, lefts_M_6, rights_M_7, touches_M_8) => some (.inl (x5, x5 + 1, many_M_4, nets_M_5, lefts_M_6, rights_M_7, touches_M_8))))) else (some (.inl (x4, x5 + 1, many_M, nets_M, lefts_M, rights_M, touches_M))))) else (some (.inr (many_M, nets_M, lefts_M, rights_M, touches_M)))))
def f_X4_makeSegments_J46 (pins_M : (Nat → Int32)) (many_M : Int32) (nets_M : (Nat → Int32)) (lefts_M : (Nat → Int32)) (rights_M : (Nat → Int32)) (touches_M : (Nat → Int32)) (x1 : Int32) (x2 : Int32) (x3 : Int32) : Option ((Int32 × Int32 × (Nat → Int32) × (Nat → Int32) × (Nat → Int32) × (Nat → Int32)) ⊕ (Int32 × (Nat → Int32) × (Nat → Int32) × (Nat → Int32) × (Nat → Int32))) := (lp (f_X4_makeSegments_B52 x1 x2 x3 pins_M) 64 (((-1), 0, many_M, nets_M, lefts_M, rights_M, touches_M))).bind (fun r => match r with | (many_M_9, nets_M_10, lefts_M_11, rights_M_12, touches_M_13) => some (.inl (x2 + 1, many_M_9, nets_M_10, lefts_M_11, rights_M_12, touches_M_13)))
def f_X4_makeSegments_B7 (x1 : Int32) (pins_M : (Nat → Int32)) : (Int32 × Int32 × (Nat → Int32) × (Nat → Int32) × (Nat → Int32) × (Nat → Int32)) → Option ((Int32 × Int32 × (Nat → Int32) × (Nat → Int32) × (Nat → Int32) × (Nat → Int32)) ⊕ (Int32 × (Nat → Int32) × (Nat → Int32) × (Nat → Int32) × (Nat → Int32)))
  | (x2, many_M, nets_M, lefts_M, rights_M, touches_M) => if 9 < x2 then (some (.inr (many_M, nets_M, lefts_M, rights_M, touches_M))) else ((f_X4_columns pins_M x2).bind (fun r => match r with | r_1 => (f_X4_sort pins_M x2).bind (fun r => match r with | r_2 => if r_2 = 3 then (if x1 = 0 then ((f_X4_lowest r_1).bind (fun r => match r with | r_14 => (f_X4_highest r_1).bind (fun r => match r with | r_15 => (f_X4_segmentOf many_M nets_M lefts_M rights_M touches_M x2 r_14 r_15 r_1).bind (fun r => match r with | (many_M_16, nets_M_17, lefts_M_18, rights_M_19, touches_M_20) => f_X4_makeSegments_J46 pins_M many_M_16 nets_M_17 lefts_M_18 rights_M_19 touches_M_20 x1 x2 r_1)))) else (f_X4_makeSegments_J46 pins_M many_M nets_M lefts_M rights_M touches_M x1 x2 r_1)) else (f_X4_makeSegments_J46 pins_M many_M nets_M lefts_M rights_M touches_M x1 x2 r_1))))
def f_X4_makeSegments (pins_M : (Nat → Int32)) (nets_M : (Nat → Int32)) (lefts_M : (Nat → Int32)) (rights_M : (Nat → Int32)) (touches_M : (Nat → Int32)) (x1 : Int32) : Option (Int32 × (Nat → Int32) × (Nat → Int32) × (Nat → Int32) × (Nat → Int32)) := (lp (f_X4_makeSegments_B7 x1 pins_M) 64 (1, 0, nets_M, lefts_M, rights_M, touches_M)).bind (fun r => match r with | (many_M_21, nets_M_22, lefts_M_23, rights_M_24, touches_M_25) => some (many_M_21, nets_M_22, lefts_M_23, rights_M_24, touches_M_25))
theorem cw_X4_makeSegments : CWv yX4_makeSegments cX4_makeSegments 6 none RX4 1 := ⟨m3_170, ms4_1, m1_5, m3_171, rfl, by decide, by decide, by decide +kernel⟩
set_option maxHeartbeats 4000000 in
set_option maxRecDepth 100000 in
theorem t_X4_makeSegments_B52 {p : Program} {l : Launch} {e : Env} {s : State} {m : MethodId} {args : Array Value} {below : List Frame} {meth : Method} {c : Code} {D : va_G} {A : Nat → Prop} {cI cJ : ClassId} {Q : State → Prop} (C : Cx p s m args c cX4_makeSegments 6 RX4 D A cI cJ) {aM : Nat → Nat} {x1 : Int32} {x2 : Int32} {x3 : Int32} {thrown_M : Int32} {pins_M : (Nat → Int32)} {below_M : (Nat → Int64)} {reach_M : (Nat → Int64)} {tracksOf_M : (Nat → Int32)} {steps_M : (Nat → Int32)} {laid_M : Int32} {laidMany_M : Int32} {tracks_M : Int32} {laidNet_M : (Nat → Int32)} {laidLeft_M : (Nat → Int32)} {laidRight_M : (Nat → Int32)} {laidTouch_M : (Nat → Int32)} {laidTrack_M : (Nat → Int32)} {ringSize_M : Int32} {ringOf_M : (Nat → Int32)} {lays_M : Int32} {refusals_M : Int32} (s8 : (Int32 × Int32 × Int32 × (Nat → Int32) × (Nat → Int32) × (Nat → Int32) × (Nat → Int32))) (o8 : (Int32 × Int32 × Int32 × (Nat → Int32) × (Nat → Int32) × (Nat → Int32) × (Nat → Int32)) ⊕ (Int32 × (Nat → Int32) × (Nat → Int32) × (Nat → Int32) × (Nat → Int32))) (h : f_X4_makeSegments_B52 x1 x2 x3 pins_M s8 = some o8) (hl : ∀ s8, o8 = .inl s8 → V p l e (rmO 2 46) s m args below meth c 6 D A 0 0 Q 52 [(0, .ref (aM 0)), (1, .int x1), (2, .int x2), (3, .int x3), (4, .int s8.1), (5, .int s8.2.1)] [] (wM cI cJ aM thrown_M pins_M s8.2.2.1 s8.2.2.2.1 s8.2.2.2.2.1 s8.2.2.2.2.2.1 s8.2.2.2.2.2.2 below_M reach_M tracksOf_M steps_M laid_M laidMany_M tracks_M laidNet_M laidLeft_M laidRight_M laidTouch_M laidTrack_M ringSize_M ringOf_M lays_M refusals_M)) (hx : ∀ r8, o8 = .inr r8 → V p l e (rmO 2 46) s m args below meth c 6 D A 0 0 Q 115 [(0, .ref (aM 0)), (1, .int x1), (2, .int x2)] [] (wM cI cJ aM thrown_M pins_M r8.1 r8.2.1 r8.2.2.1 r8.2.2.2.1 r8.2.2.2.2 below_M reach_M tracksOf_M steps_M laid_M laidMany_M tracks_M laidNet_M laidLeft_M laidRight_M laidTouch_M laidTrack_M ringSize_M ringOf_M lays_M refusals_M)) : V p l e (rmO 2 46) s m args below meth c 6 D A 0 0 Q 52 [(0, .ref (aM 0)), (1, .int x1), (2, .int x2), (3, .int x3), (4, .int s8.1), (5, .int s8.2.1)] [] (wM cI cJ aM thrown_M pins_M s8.2.2.1 s8.2.2.2.1 s8.2.2.2.2.1 s8.2.2.2.2.2.1 s8.2.2.2.2.2.2 below_M reach_M tracksOf_M steps_M laid_M laidMany_M tracks_M laidNet_M laidLeft_M laidRight_M laidTouch_M laidTrack_M ringSize_M ringOf_M lays_M refusals_M) := by
  obtain ⟨x4, x5, many_M, nets_M, lefts_M, rights_M, touches_M⟩ := s8
  unfold f_X4_makeSegments_B52 at h
  show V p l e (rmO 2 46) s m args below meth c 6 D A 0 0 Q 52 [(0, .ref (aM 0)), (1, .int x1), (2, .int x2), (3, .int x3), (4, .int x4), (5, .int x5)] [] (wM cI cJ aM thrown_M pins_M many_M nets_M lefts_M rights_M touches_M below_M reach_M tracksOf_M steps_M laid_M laidMany_M tracks_M laidNet_M laidLeft_M laidRight_M laidTouch_M laidTrack_M ringSize_M ringOf_M lays_M refusals_M)
  refine v_iload C 5 dX4_makeSegments_52 rfl ?_
  refine v_bipush (v := 20) C dX4_makeSegments_54 (by decide) ?_
  refine v_icmp_ge (tgt := 115) C dX4_makeSegments_56 (by decide) h (fun h => ?_) (fun h => ?_)
  · refine v_perm [0, 1, 2] rfl ?_
    cases h
    exact hx _ rfl
  · refine v_aload_n C 0 dX4_makeSegments_59 rfl rfl ?_
    refine v_iload_n C 2 dX4_makeSegments_60 rfl rfl ?_
    obtain ⟨r, h1, h⟩ := bind_el h
    obtain ⟨r_3, rfl⟩ : ∃ z, z = r := ⟨_, rfl⟩
    try dsimp only at h
    refine v_callVi (As := [.int x2]) (st := []) (wr := []) (w1 := (wM cI cJ aM thrown_M pins_M many_M nets_M lefts_M rights_M touches_M below_M reach_M tracksOf_M steps_M laid_M laidMany_M tracks_M laidNet_M laidLeft_M laidRight_M laidTouch_M laidTrack_M ringSize_M ringOf_M lays_M refusals_M)) (ws' := (wM cI cJ aM thrown_M pins_M many_M nets_M lefts_M rights_M touches_M below_M reach_M tracksOf_M steps_M laid_M laidMany_M tracks_M laidNet_M laidLeft_M laidRight_M laidTouch_M laidTrack_M ringSize_M ringOf_M lays_M refusals_M)) (isC := [0, 1, 2, 3, 4, 5, 6, 7, 8, 9, 10, 11, 12, 13, 14, 15]) (isR := []) (pm := [0, 1, 2, 3, 4, 5, 6, 7, 8, 9, 10, 11, 12, 13, 14, 15]) C (c_X4_sort l D cI cJ aM thrown_M pins_M many_M nets_M lefts_M rights_M touches_M below_M reach_M tracksOf_M steps_M laid_M laidMany_M tracks_M laidNet_M laidLeft_M laidRight_M laidTouch_M laidTrack_M ringSize_M ringOf_M lays_M refusals_M x2 r_3 h1) cw_X4_sort 0 rfl rfl m3_142 dX4_makeSegments_61 rfl ⟨Nat.le_of_ble_eq_true rfl, Nat.le_of_ble_eq_true rfl⟩ (Nat.le_of_ble_eq_true rfl) ⟨Nat.le_refl 0, Nat.le_refl 0⟩ ⟨rfl, rfl, rfl, rfl, by decide, rfl, rfl⟩ ?_
    refine v_iconst (v := 3) C dX4_makeSegments_64 (by decide) ?_
    refine v_icmp_ne (tgt := 115) C dX4_makeSegments_65 (by decide) h (fun h => ?_) (fun h => ?_)
    · refine v_iload_n C 1 dX4_makeSegments_68 rfl rfl ?_
      refine v_if_eq (tgt := 115) C dX4_makeSegments_69 (by decide) h (fun h => ?_) (fun h => ?_)
      · refine v_perm [0, 1, 2] rfl ?_
        cases h
        exact hx _ rfl
      · refine v_iload_n C 3 dX4_makeSegments_72 rfl rfl ?_
        refine v_iload C 5 dX4_makeSegments_73 rfl ?_
        refine v_ishr C dX4_makeSegments_75 ?_
        refine v_iconst (v := 1) C dX4_makeSegments_76 (by decide) ?_
        refine v_iand C dX4_makeSegments_77 ?_
        refine v_iconst (v := 1) C dX4_makeSegments_78 (by decide) ?_
        refine v_icmp_ne (tgt := 109) C dX4_makeSegments_79 (by decide) h (fun h => ?_) (fun h => ?_)
        · refine v_iload C 4 dX4_makeSegments_82 rfl ?_
          refine v_if_lt (tgt := 105) C dX4_makeSegments_84 (by decide) h (fun h => ?_) (fun h => ?_)
          · refine v_iload C 5 dX4_makeSegments_105 rfl ?_
            refine v_istore C [(4, .int x5), (0, .ref (aM 0)), (1, .int x1), (2, .int x2), (3, .int x3), (5, .int x5)] dX4_makeSegments_107 (by decide) rfl ?_
            refine v_iinc C [(5, .int (x5 + 1)), (4, .int x5), (0, .ref (aM 0)), (1, .int x1), (2, .int x2), (3, .int x3)] 5 dX4_makeSegments_109 rfl rfl (by decide) rfl ?_
            refine v_goto (tgt := 52) C dX4_makeSegments_112 (by decide) ?_
            refine v_perm [2, 3, 4, 5, 1, 0] rfl ?_
            cases h
            exact hl _ rfl
          · refine v_aload_n C 0 dX4_makeSegments_87 rfl rfl ?_
            refine v_iload_n C 2 dX4_makeSegments_88 rfl rfl ?_
            refine v_iload C 4 dX4_makeSegments_89 rfl ?_
            refine v_iload C 5 dX4_makeSegments_91 rfl ?_
            refine v_iconst (v := 1) C dX4_makeSegments_93 (by decide) ?_
            refine v_iload C 4 dX4_makeSegments_94 rfl ?_
            refine v_ishl C dX4_makeSegments_96 ?_
            refine v_iconst (v := 1) C dX4_makeSegments_97 (by decide) ?_
            refine v_iload C 5 dX4_makeSegments_98 rfl ?_
            refine v_ishl C dX4_makeSegments_100 ?_
            refine v_ior C dX4_makeSegments_101 ?_
            obtain ⟨r, h1, h⟩ := bind_el h
            obtain ⟨many_M_4, nets_M_5, lefts_M_6, rights_M_7, touches_M_8⟩ := r
            try dsimp only at h
            refine v_callVv (As := [.int x2, .int x4, .int x5, .int (((1 : Int32) <<< (x4 &&& 31)) ||| ((1 : Int32) <<< (x5 &&& 31)))]) (st := []) (wr := []) (w1 := (wM cI cJ aM thrown_M pins_M many_M_4 nets_M_5 lefts_M_6 rights_M_7 touches_M_8 below_M reach_M tracksOf_M steps_M laid_M laidMany_M tracks_M laidNet_M laidLeft_M laidRight_M laidTouch_M laidTrack_M ringSize_M ringOf_M lays_M refusals_M)) (ws' := (wM cI cJ aM thrown_M pins_M many_M_4 nets_M_5 lefts_M_6 rights_M_7 touches_M_8 below_M reach_M tracksOf_M steps_M laid_M laidMany_M tracks_M laidNet_M laidLeft_M laidRight_M laidTouch_M laidTrack_M ringSize_M ringOf_M lays_M refusals_M)) (isC := [0, 1, 2, 3, 4, 5, 6, 7, 8, 9, 10, 11, 12, 13, 14, 15]) (isR := []) (pm := [0, 1, 2, 3, 4, 5, 6, 7, 8, 9, 10, 11, 12, 13, 14, 15]) C (c_X4_segmentOf l D cI cJ aM thrown_M pins_M many_M nets_M lefts_M rights_M touches_M below_M reach_M tracksOf_M steps_M laid_M laidMany_M tracks_M laidNet_M laidLeft_M laidRight_M laidTouch_M laidTrack_M ringSize_M ringOf_M lays_M refusals_M x2 x4 x5 (((1 : Int32) <<< (x4 &&& 31)) ||| ((1 : Int32) <<< (x5 &&& 31))) many_M_4 nets_M_5 lefts_M_6 rights_M_7 touches_M_8 h1) cw_X4_segmentOf 0 rfl rfl m3_172 dX4_makeSegments_102 rfl ⟨Nat.le_of_ble_eq_true rfl, Nat.le_of_ble_eq_true rfl⟩ (Nat.le_of_ble_eq_true rfl) ⟨Nat.le_refl 0, Nat.le_refl 0⟩ ⟨rfl, rfl, rfl, rfl, by decide, rfl, rfl⟩ ?_
            refine v_iload C 5 dX4_makeSegments_105 rfl ?_
            refine v_istore C [(4, .int x5), (0, .ref (aM 0)), (1, .int x1), (2, .int x2), (3, .int x3), (5, .int x5)] dX4_makeSegments_107 (by decide) rfl ?_
            refine v_iinc C [(5, .int (x5 + 1)), (4, .int x5), (0, .ref (aM 0)), (1, .int x1), (2, .int x2), (3, .int x3)] 5 dX4_makeSegments_109 rfl rfl (by decide) rfl ?_
            refine v_goto (tgt := 52) C dX4_makeSegments_112 (by decide) ?_
            refine v_perm [2, 3, 4, 5, 1, 0] rfl ?_
            cases h
            exact hl _ rfl
        · refine v_iinc C [(5, .int (x5 + 1)), (0, .ref (aM 0)), (1, .int x1), (2, .int x2), (3, .int x3), (4, .int x4)] 5 dX4_makeSegments_109 rfl rfl (by decide) rfl ?_
          refine v_goto (tgt := 52) C dX4_makeSegments_112 (by decide) ?_
          refine v_perm [1, 2, 3, 4, 5, 0] rfl ?_
          cases h
          exact hl _ rfl
    · refine v_perm [0, 1, 2] rfl ?_
      cases h
      exact hx _ rfl
set_option maxHeartbeats 4000000 in
set_option maxRecDepth 100000 in
theorem t_X4_makeSegments_L52 {p : Program} {l : Launch} {e : Env} {s : State} {m : MethodId} {args : Array Value} {below : List Frame} {meth : Method} {c : Code} {D : va_G} {A : Nat → Prop} {cI cJ : ClassId} {Q : State → Prop} (C : Cx p s m args c cX4_makeSegments 6 RX4 D A cI cJ) {aM : Nat → Nat} {x1 : Int32} {x2 : Int32} {x3 : Int32} {thrown_M : Int32} {pins_M : (Nat → Int32)} {below_M : (Nat → Int64)} {reach_M : (Nat → Int64)} {tracksOf_M : (Nat → Int32)} {steps_M : (Nat → Int32)} {laid_M : Int32} {laidMany_M : Int32} {tracks_M : Int32} {laidNet_M : (Nat → Int32)} {laidLeft_M : (Nat → Int32)} {laidRight_M : (Nat → Int32)} {laidTouch_M : (Nat → Int32)} {laidTrack_M : (Nat → Int32)} {ringSize_M : Int32} {ringOf_M : (Nat → Int32)} {lays_M : Int32} {refusals_M : Int32} {n8 : Nat} {s9 : (Int32 × Int32 × Int32 × (Nat → Int32) × (Nat → Int32) × (Nat → Int32) × (Nat → Int32))} {o8 : (Int32 × (Nat → Int32) × (Nat → Int32) × (Nat → Int32) × (Nat → Int32))} (h : lp (f_X4_makeSegments_B52 x1 x2 x3 pins_M) n8 s9 = some o8) (hk : V p l e (rmO 2 46) s m args below meth c 6 D A 0 0 Q 115 [(0, .ref (aM 0)), (1, .int x1), (2, .int x2)] [] (wM cI cJ aM thrown_M pins_M o8.1 o8.2.1 o8.2.2.1 o8.2.2.2.1 o8.2.2.2.2 below_M reach_M tracksOf_M steps_M laid_M laidMany_M tracks_M laidNet_M laidLeft_M laidRight_M laidTouch_M laidTrack_M ringSize_M ringOf_M lays_M refusals_M)) : V p l e (rmO 2 46) s m args below meth c 6 D A 0 0 Q 52 [(0, .ref (aM 0)), (1, .int x1), (2, .int x2), (3, .int x3), (4, .int s9.1), (5, .int s9.2.1)] [] (wM cI cJ aM thrown_M pins_M s9.2.2.1 s9.2.2.2.1 s9.2.2.2.2.1 s9.2.2.2.2.2.1 s9.2.2.2.2.2.2 below_M reach_M tracksOf_M steps_M laid_M laidMany_M tracks_M laidNet_M laidLeft_M laidRight_M laidTouch_M laidTrack_M ringSize_M ringOf_M lays_M refusals_M) := lp_ok (Pσ := fun s8 => V p l e (rmO 2 46) s m args below meth c 6 D A 0 0 Q 52 [(0, .ref (aM 0)), (1, .int x1), (2, .int x2), (3, .int x3), (4, .int s8.1), (5, .int s8.2.1)] [] (wM cI cJ aM thrown_M pins_M s8.2.2.1 s8.2.2.2.1 s8.2.2.2.2.1 s8.2.2.2.2.2.1 s8.2.2.2.2.2.2 below_M reach_M tracksOf_M steps_M laid_M laidMany_M tracks_M laidNet_M laidLeft_M laidRight_M laidTouch_M laidTrack_M ringSize_M ringOf_M lays_M refusals_M)) (Pρ := fun r8 => V p l e (rmO 2 46) s m args below meth c 6 D A 0 0 Q 115 [(0, .ref (aM 0)), (1, .int x1), (2, .int x2)] [] (wM cI cJ aM thrown_M pins_M r8.1 r8.2.1 r8.2.2.1 r8.2.2.2.1 r8.2.2.2.2 below_M reach_M tracksOf_M steps_M laid_M laidMany_M tracks_M laidNet_M laidLeft_M laidRight_M laidTouch_M laidTrack_M ringSize_M ringOf_M lays_M refusals_M)) (fun s o h hl hx => t_X4_makeSegments_B52 C s o h hl hx) n8 s9 o8 h hk
set_option maxHeartbeats 4000000 in
set_option maxRecDepth 100000 in
theorem t_X4_makeSegments_J46 {p : Program} {l : Launch} {e : Env} {s : State} {m : MethodId} {args : Array Value} {below : List Frame} {meth : Method} {c : Code} {D : va_G} {A : Nat → Prop} {cI cJ : ClassId} {Q : State → Prop} (C : Cx p s m args c cX4_makeSegments 6 RX4 D A cI cJ) {aM : Nat → Nat} {thrown_M : Int32} {pins_M : (Nat → Int32)} {many_M : Int32} {nets_M : (Nat → Int32)} {lefts_M : (Nat → Int32)} {rights_M : (Nat → Int32)} {touches_M : (Nat → Int32)} {below_M : (Nat → Int64)} {reach_M : (Nat → Int64)} {tracksOf_M : (Nat → Int32)} {steps_M : (Nat → Int32)} {laid_M : Int32} {laidMany_M : Int32} {tracks_M : Int32} {laidNet_M : (Nat → Int32)} {laidLeft_M : (Nat → Int32)} {laidRight_M : (Nat → Int32)} {laidTouch_M : (Nat → Int32)} {laidTrack_M : (Nat → Int32)} {ringSize_M : Int32} {ringOf_M : (Nat → Int32)} {lays_M : Int32} {refusals_M : Int32} {x1 : Int32} {x2 : Int32} {x3 : Int32} {o8 : (Int32 × Int32 × (Nat → Int32) × (Nat → Int32) × (Nat → Int32) × (Nat → Int32)) ⊕ (Int32 × (Nat → Int32) × (Nat → Int32) × (Nat → Int32) × (Nat → Int32))} (h : f_X4_makeSegments_J46 pins_M many_M nets_M lefts_M rights_M touches_M x1 x2 x3 = some o8) (hl : ∀ s8, o8 = .inl s8 → V p l e (rmO 2 46) s m args below meth c 6 D A 0 0 Q 7 [(0, .ref (aM 0)), (1, .int x1), (2, .int s8.1)] [] (wM cI cJ aM thrown_M pins_M s8.2.1 s8.2.2.1 s8.2.2.2.1 s8.2.2.2.2.1 s8.2.2.2.2.2 below_M reach_M tracksOf_M steps_M laid_M laidMany_M tracks_M laidNet_M laidLeft_M laidRight_M laidTouch_M laidTrack_M ringSize_M ringOf_M lays_M refusals_M)) (hx : ∀ r8, o8 = .inr r8 → V p l e (rmO 2 46) s m args below meth c 6 D A 0 0 Q 121 [] [] (wM cI cJ aM thrown_M pins_M r8.1 r8.2.1 r8.2.2.1 r8.2.2.2.1 r8.2.2.2.2 below_M reach_M tracksOf_M steps_M laid_M laidMany_M tracks_M laidNet_M laidLeft_M laidRight_M laidTouch_M laidTrack_M ringSize_M ringOf_M lays_M refusals_M)) : V p l e (rmO 2 46) s m args below meth c 6 D A 0 0 Q 46 [(0, .ref (aM 0)), (1, .int x1), (2, .int x2), (3, .int x3)] [] (wM cI cJ aM thrown_M pins_M many_M nets_M lefts_M rights_M touches_M below_M reach_M tracksOf_M steps_M laid_M laidMany_M tracks_M laidNet_M laidLeft_M laidRight_M laidTouch_M laidTrack_M ringSize_M ringOf_M lays_M refusals_M) := by
  unfold f_X4_makeSegments_J46 at h
  refine v_iconst (v := (-1)) C dX4_makeSegments_46 (by decide) ?_
  refine v_istore C [(4, .int (-1)), (0, .ref (aM 0)), (1, .int x1), (2, .int x2), (3, .int x3)] dX4_makeSegments_47 (by decide) rfl ?_
  refine v_iconst (v := 0) C dX4_makeSegments_49 (by decide) ?_
  refine v_istore C [(5, .int 0), (4, .int (-1)), (0, .ref (aM 0)), (1, .int x1), (2, .int x2), (3, .int x3)] dX4_makeSegments_50 (by decide) rfl ?_
  obtain ⟨r, h1, h⟩ := bind_el h
  refine v_perm [2, 3, 4, 5, 1, 0] rfl ?_
  obtain ⟨many_M_9, nets_M_10, lefts_M_11, rights_M_12, touches_M_13⟩ := r
  refine t_X4_makeSegments_L52 C (s9 := ((-1), 0, many_M, nets_M, lefts_M, rights_M, touches_M)) h1 ?_
  show V p l e (rmO 2 46) s m args below meth c 6 D A 0 0 Q 115 [(0, .ref (aM 0)), (1, .int x1), (2, .int x2)] [] (wM cI cJ aM thrown_M pins_M many_M_9 nets_M_10 lefts_M_11 rights_M_12 touches_M_13 below_M reach_M tracksOf_M steps_M laid_M laidMany_M tracks_M laidNet_M laidLeft_M laidRight_M laidTouch_M laidTrack_M ringSize_M ringOf_M lays_M refusals_M)
  try dsimp only at h
  refine v_iinc C [(2, .int (x2 + 1)), (0, .ref (aM 0)), (1, .int x1)] 2 dX4_makeSegments_115 rfl rfl (by decide) rfl ?_
  refine v_goto (tgt := 7) C dX4_makeSegments_118 (by decide) ?_
  refine v_perm [1, 2, 0] rfl ?_
  cases h
  exact hl _ rfl
set_option maxHeartbeats 4000000 in
set_option maxRecDepth 100000 in
theorem t_X4_makeSegments_B7 {p : Program} {l : Launch} {e : Env} {s : State} {m : MethodId} {args : Array Value} {below : List Frame} {meth : Method} {c : Code} {D : va_G} {A : Nat → Prop} {cI cJ : ClassId} {Q : State → Prop} (C : Cx p s m args c cX4_makeSegments 6 RX4 D A cI cJ) {aM : Nat → Nat} {x1 : Int32} {thrown_M : Int32} {pins_M : (Nat → Int32)} {below_M : (Nat → Int64)} {reach_M : (Nat → Int64)} {tracksOf_M : (Nat → Int32)} {steps_M : (Nat → Int32)} {laid_M : Int32} {laidMany_M : Int32} {tracks_M : Int32} {laidNet_M : (Nat → Int32)} {laidLeft_M : (Nat → Int32)} {laidRight_M : (Nat → Int32)} {laidTouch_M : (Nat → Int32)} {laidTrack_M : (Nat → Int32)} {ringSize_M : Int32} {ringOf_M : (Nat → Int32)} {lays_M : Int32} {refusals_M : Int32} (s8 : (Int32 × Int32 × (Nat → Int32) × (Nat → Int32) × (Nat → Int32) × (Nat → Int32))) (o8 : (Int32 × Int32 × (Nat → Int32) × (Nat → Int32) × (Nat → Int32) × (Nat → Int32)) ⊕ (Int32 × (Nat → Int32) × (Nat → Int32) × (Nat → Int32) × (Nat → Int32))) (h : f_X4_makeSegments_B7 x1 pins_M s8 = some o8) (hl : ∀ s8, o8 = .inl s8 → V p l e (rmO 2 46) s m args below meth c 6 D A 0 0 Q 7 [(0, .ref (aM 0)), (1, .int x1), (2, .int s8.1)] [] (wM cI cJ aM thrown_M pins_M s8.2.1 s8.2.2.1 s8.2.2.2.1 s8.2.2.2.2.1 s8.2.2.2.2.2 below_M reach_M tracksOf_M steps_M laid_M laidMany_M tracks_M laidNet_M laidLeft_M laidRight_M laidTouch_M laidTrack_M ringSize_M ringOf_M lays_M refusals_M)) (hx : ∀ r8, o8 = .inr r8 → V p l e (rmO 2 46) s m args below meth c 6 D A 0 0 Q 121 [] [] (wM cI cJ aM thrown_M pins_M r8.1 r8.2.1 r8.2.2.1 r8.2.2.2.1 r8.2.2.2.2 below_M reach_M tracksOf_M steps_M laid_M laidMany_M tracks_M laidNet_M laidLeft_M laidRight_M laidTouch_M laidTrack_M ringSize_M ringOf_M lays_M refusals_M)) : V p l e (rmO 2 46) s m args below meth c 6 D A 0 0 Q 7 [(0, .ref (aM 0)), (1, .int x1), (2, .int s8.1)] [] (wM cI cJ aM thrown_M pins_M s8.2.1 s8.2.2.1 s8.2.2.2.1 s8.2.2.2.2.1 s8.2.2.2.2.2 below_M reach_M tracksOf_M steps_M laid_M laidMany_M tracks_M laidNet_M laidLeft_M laidRight_M laidTouch_M laidTrack_M ringSize_M ringOf_M lays_M refusals_M) := by
  obtain ⟨x2, many_M, nets_M, lefts_M, rights_M, touches_M⟩ := s8
  unfold f_X4_makeSegments_B7 at h
  show V p l e (rmO 2 46) s m args below meth c 6 D A 0 0 Q 7 [(0, .ref (aM 0)), (1, .int x1), (2, .int x2)] [] (wM cI cJ aM thrown_M pins_M many_M nets_M lefts_M rights_M touches_M below_M reach_M tracksOf_M steps_M laid_M laidMany_M tracks_M laidNet_M laidLeft_M laidRight_M laidTouch_M laidTrack_M ringSize_M ringOf_M lays_M refusals_M)
  refine v_iload_n C 2 dX4_makeSegments_7 rfl rfl ?_
  refine v_bipush (v := 9) C dX4_makeSegments_8 (by decide) ?_
  refine v_icmp_gt (tgt := 121) C dX4_makeSegments_10 (by decide) h (fun h => ?_) (fun h => ?_)
  · refine v_perm [] rfl ?_
    cases h
    exact hx _ rfl
  · refine v_aload_n C 0 dX4_makeSegments_13 rfl rfl ?_
    refine v_iload_n C 2 dX4_makeSegments_14 rfl rfl ?_
    obtain ⟨r, h1, h⟩ := bind_el h
    obtain ⟨r_1, rfl⟩ : ∃ z, z = r := ⟨_, rfl⟩
    try dsimp only at h
    refine v_callVi (As := [.int x2]) (st := []) (wr := []) (w1 := (wM cI cJ aM thrown_M pins_M many_M nets_M lefts_M rights_M touches_M below_M reach_M tracksOf_M steps_M laid_M laidMany_M tracks_M laidNet_M laidLeft_M laidRight_M laidTouch_M laidTrack_M ringSize_M ringOf_M lays_M refusals_M)) (ws' := (wM cI cJ aM thrown_M pins_M many_M nets_M lefts_M rights_M touches_M below_M reach_M tracksOf_M steps_M laid_M laidMany_M tracks_M laidNet_M laidLeft_M laidRight_M laidTouch_M laidTrack_M ringSize_M ringOf_M lays_M refusals_M)) (isC := [0, 1, 2, 3, 4, 5, 6, 7, 8, 9, 10, 11, 12, 13, 14, 15]) (isR := []) (pm := [0, 1, 2, 3, 4, 5, 6, 7, 8, 9, 10, 11, 12, 13, 14, 15]) C (c_X4_columns l D cI cJ aM thrown_M pins_M many_M nets_M lefts_M rights_M touches_M below_M reach_M tracksOf_M steps_M laid_M laidMany_M tracks_M laidNet_M laidLeft_M laidRight_M laidTouch_M laidTrack_M ringSize_M ringOf_M lays_M refusals_M x2 r_1 h1) cw_X4_columns 0 rfl rfl m3_150 dX4_makeSegments_15 rfl ⟨Nat.le_of_ble_eq_true rfl, Nat.le_of_ble_eq_true rfl⟩ (Nat.le_of_ble_eq_true rfl) ⟨Nat.le_refl 0, Nat.le_refl 0⟩ ⟨rfl, rfl, rfl, rfl, by decide, rfl, rfl⟩ ?_
    refine v_istore_n C [(3, .int r_1), (0, .ref (aM 0)), (1, .int x1), (2, .int x2)] dX4_makeSegments_18 rfl (by decide) rfl ?_
    refine v_aload_n C 1 dX4_makeSegments_19 rfl rfl ?_
    refine v_iload_n C 3 dX4_makeSegments_20 rfl rfl ?_
    obtain ⟨r, h1, h⟩ := bind_el h
    obtain ⟨r_2, rfl⟩ : ∃ z, z = r := ⟨_, rfl⟩
    try dsimp only at h
    refine v_callVi (As := [.int x2]) (st := []) (wr := []) (w1 := (wM cI cJ aM thrown_M pins_M many_M nets_M lefts_M rights_M touches_M below_M reach_M tracksOf_M steps_M laid_M laidMany_M tracks_M laidNet_M laidLeft_M laidRight_M laidTouch_M laidTrack_M ringSize_M ringOf_M lays_M refusals_M)) (ws' := (wM cI cJ aM thrown_M pins_M many_M nets_M lefts_M rights_M touches_M below_M reach_M tracksOf_M steps_M laid_M laidMany_M tracks_M laidNet_M laidLeft_M laidRight_M laidTouch_M laidTrack_M ringSize_M ringOf_M lays_M refusals_M)) (isC := [0, 1, 2, 3, 4, 5, 6, 7, 8, 9, 10, 11, 12, 13, 14, 15]) (isR := []) (pm := [0, 1, 2, 3, 4, 5, 6, 7, 8, 9, 10, 11, 12, 13, 14, 15]) C (c_X4_sort l D cI cJ aM thrown_M pins_M many_M nets_M lefts_M rights_M touches_M below_M reach_M tracksOf_M steps_M laid_M laidMany_M tracks_M laidNet_M laidLeft_M laidRight_M laidTouch_M laidTrack_M ringSize_M ringOf_M lays_M refusals_M x2 r_2 h1) cw_X4_sort 0 rfl rfl m3_142 dX4_makeSegments_21 rfl ⟨Nat.le_of_ble_eq_true rfl, Nat.le_of_ble_eq_true rfl⟩ (Nat.le_of_ble_eq_true rfl) ⟨Nat.le_refl 0, Nat.le_refl 0⟩ ⟨rfl, rfl, rfl, rfl, by decide, rfl, rfl⟩ ?_
    refine v_iconst (v := 3) C dX4_makeSegments_24 (by decide) ?_
    refine v_icmp_ne (tgt := 46) C dX4_makeSegments_25 (by decide) h (fun h => ?_) (fun h => ?_)
    · refine v_iload_n C 2 dX4_makeSegments_28 rfl rfl ?_
      refine v_if_ne (tgt := 46) C dX4_makeSegments_29 (by decide) h (fun h => ?_) (fun h => ?_)
      · refine v_aload_n C 1 dX4_makeSegments_32 rfl rfl ?_
        refine v_iload_n C 3 dX4_makeSegments_33 rfl rfl ?_
        refine v_iload_n C 0 dX4_makeSegments_34 rfl rfl ?_
        obtain ⟨r, h1, h⟩ := bind_el h
        obtain ⟨r_14, rfl⟩ : ∃ z, z = r := ⟨_, rfl⟩
        try dsimp only at h
        refine v_callSi (As := [.int r_1]) (st := [.int x2, .ref (aM 0)]) (wr := [(aM 0, .inr (4, [.int thrown_M, .ref (aM 1), .int many_M, .ref (aM 2), .ref (aM 3), .ref (aM 4), .ref (aM 5), .ref (aM 6), .ref (aM 7), .ref (aM 8), .ref (aM 9), .int laid_M, .int laidMany_M, .int tracks_M, .ref (aM 10), .ref (aM 11), .ref (aM 12), .ref (aM 13), .ref (aM 14), .int ringSize_M, .ref (aM 15), .int lays_M, .int refusals_M])), (aM 1, .inl (cI, 40, .inl pins_M)), (aM 2, .inl (cI, 40, .inl nets_M)), (aM 3, .inl (cI, 40, .inl lefts_M)), (aM 4, .inl (cI, 40, .inl rights_M)), (aM 5, .inl (cI, 40, .inl touches_M)), (aM 6, .inl (cJ, 40, .inr (.inl below_M))), (aM 7, .inl (cJ, 40, .inr (.inl reach_M))), (aM 8, .inl (cI, 40, .inl tracksOf_M)), (aM 9, .inl (cI, 40, .inl steps_M)), (aM 10, .inl (cI, 40, .inl laidNet_M)), (aM 11, .inl (cI, 40, .inl laidLeft_M)), (aM 12, .inl (cI, 40, .inl laidRight_M)), (aM 13, .inl (cI, 40, .inl laidTouch_M)), (aM 14, .inl (cI, 40, .inl laidTrack_M)), (aM 15, .inl (cI, 40, .inl ringOf_M))]) (w1 := []) (ws' := (wM cI cJ aM thrown_M pins_M many_M nets_M lefts_M rights_M touches_M below_M reach_M tracksOf_M steps_M laid_M laidMany_M tracks_M laidNet_M laidLeft_M laidRight_M laidTouch_M laidTrack_M ringSize_M ringOf_M lays_M refusals_M)) (isC := []) (isR := [0, 1, 2, 3, 4, 5, 6, 7, 8, 9, 10, 11, 12, 13, 14, 15]) (pm := [0, 1, 2, 3, 4, 5, 6, 7, 8, 9, 10, 11, 12, 13, 14, 15]) C (c_X4_lowest l D cI cJ r_1 r_14 h1) cw_X4_lowest m3_154 dX4_makeSegments_35 rfl ⟨Nat.le_of_ble_eq_true rfl, Nat.le_of_ble_eq_true rfl⟩ (Nat.le_of_ble_eq_true rfl) ⟨Nat.le_refl 0, Nat.le_refl 0⟩ ⟨rfl, rfl, rfl, rfl, by decide, rfl, rfl⟩ ?_
        refine v_iload_n C 0 dX4_makeSegments_38 rfl rfl ?_
        obtain ⟨r, h1, h⟩ := bind_el h
        obtain ⟨r_15, rfl⟩ : ∃ z, z = r := ⟨_, rfl⟩
        try dsimp only at h
        refine v_callSi (As := [.int r_1]) (st := [.int r_14, .int x2, .ref (aM 0)]) (wr := [(aM 0, .inr (4, [.int thrown_M, .ref (aM 1), .int many_M, .ref (aM 2), .ref (aM 3), .ref (aM 4), .ref (aM 5), .ref (aM 6), .ref (aM 7), .ref (aM 8), .ref (aM 9), .int laid_M, .int laidMany_M, .int tracks_M, .ref (aM 10), .ref (aM 11), .ref (aM 12), .ref (aM 13), .ref (aM 14), .int ringSize_M, .ref (aM 15), .int lays_M, .int refusals_M])), (aM 1, .inl (cI, 40, .inl pins_M)), (aM 2, .inl (cI, 40, .inl nets_M)), (aM 3, .inl (cI, 40, .inl lefts_M)), (aM 4, .inl (cI, 40, .inl rights_M)), (aM 5, .inl (cI, 40, .inl touches_M)), (aM 6, .inl (cJ, 40, .inr (.inl below_M))), (aM 7, .inl (cJ, 40, .inr (.inl reach_M))), (aM 8, .inl (cI, 40, .inl tracksOf_M)), (aM 9, .inl (cI, 40, .inl steps_M)), (aM 10, .inl (cI, 40, .inl laidNet_M)), (aM 11, .inl (cI, 40, .inl laidLeft_M)), (aM 12, .inl (cI, 40, .inl laidRight_M)), (aM 13, .inl (cI, 40, .inl laidTouch_M)), (aM 14, .inl (cI, 40, .inl laidTrack_M)), (aM 15, .inl (cI, 40, .inl ringOf_M))]) (w1 := []) (ws' := (wM cI cJ aM thrown_M pins_M many_M nets_M lefts_M rights_M touches_M below_M reach_M tracksOf_M steps_M laid_M laidMany_M tracks_M laidNet_M laidLeft_M laidRight_M laidTouch_M laidTrack_M ringSize_M ringOf_M lays_M refusals_M)) (isC := []) (isR := [0, 1, 2, 3, 4, 5, 6, 7, 8, 9, 10, 11, 12, 13, 14, 15]) (pm := [0, 1, 2, 3, 4, 5, 6, 7, 8, 9, 10, 11, 12, 13, 14, 15]) C (c_X4_highest l D cI cJ r_1 r_15 h1) cw_X4_highest m3_157 dX4_makeSegments_39 rfl ⟨Nat.le_of_ble_eq_true rfl, Nat.le_of_ble_eq_true rfl⟩ (Nat.le_of_ble_eq_true rfl) ⟨Nat.le_refl 0, Nat.le_refl 0⟩ ⟨rfl, rfl, rfl, rfl, by decide, rfl, rfl⟩ ?_
        refine v_iload_n C 0 dX4_makeSegments_42 rfl rfl ?_
        obtain ⟨r, h1, h⟩ := bind_el h
        obtain ⟨many_M_16, nets_M_17, lefts_M_18, rights_M_19, touches_M_20⟩ := r
        try dsimp only at h
        refine v_callVv (As := [.int x2, .int r_14, .int r_15, .int r_1]) (st := []) (wr := []) (w1 := (wM cI cJ aM thrown_M pins_M many_M_16 nets_M_17 lefts_M_18 rights_M_19 touches_M_20 below_M reach_M tracksOf_M steps_M laid_M laidMany_M tracks_M laidNet_M laidLeft_M laidRight_M laidTouch_M laidTrack_M ringSize_M ringOf_M lays_M refusals_M)) (ws' := (wM cI cJ aM thrown_M pins_M many_M_16 nets_M_17 lefts_M_18 rights_M_19 touches_M_20 below_M reach_M tracksOf_M steps_M laid_M laidMany_M tracks_M laidNet_M laidLeft_M laidRight_M laidTouch_M laidTrack_M ringSize_M ringOf_M lays_M refusals_M)) (isC := [0, 1, 2, 3, 4, 5, 6, 7, 8, 9, 10, 11, 12, 13, 14, 15]) (isR := []) (pm := [0, 1, 2, 3, 4, 5, 6, 7, 8, 9, 10, 11, 12, 13, 14, 15]) C (c_X4_segmentOf l D cI cJ aM thrown_M pins_M many_M nets_M lefts_M rights_M touches_M below_M reach_M tracksOf_M steps_M laid_M laidMany_M tracks_M laidNet_M laidLeft_M laidRight_M laidTouch_M laidTrack_M ringSize_M ringOf_M lays_M refusals_M x2 r_14 r_15 r_1 many_M_16 nets_M_17 lefts_M_18 rights_M_19 touches_M_20 h1) cw_X4_segmentOf 0 rfl rfl m3_172 dX4_makeSegments_43 rfl ⟨Nat.le_of_ble_eq_true rfl, Nat.le_of_ble_eq_true rfl⟩ (Nat.le_of_ble_eq_true rfl) ⟨Nat.le_refl 0, Nat.le_refl 0⟩ ⟨rfl, rfl, rfl, rfl, by decide, rfl, rfl⟩ ?_
        refine v_perm [1, 2, 3, 0] rfl ?_
        exact t_X4_makeSegments_J46 C (pins_M := pins_M) (many_M := many_M_16) (nets_M := nets_M_17) (lefts_M := lefts_M_18) (rights_M := rights_M_19) (touches_M := touches_M_20) (x1 := x1) (x2 := x2) (x3 := r_1) h hl hx
      · refine v_perm [1, 2, 3, 0] rfl ?_
        exact t_X4_makeSegments_J46 C (pins_M := pins_M) (many_M := many_M) (nets_M := nets_M) (lefts_M := lefts_M) (rights_M := rights_M) (touches_M := touches_M) (x1 := x1) (x2 := x2) (x3 := r_1) h hl hx
    · refine v_perm [1, 2, 3, 0] rfl ?_
      exact t_X4_makeSegments_J46 C (pins_M := pins_M) (many_M := many_M) (nets_M := nets_M) (lefts_M := lefts_M) (rights_M := rights_M) (touches_M := touches_M) (x1 := x1) (x2 := x2) (x3 := r_1) h hl hx
set_option maxHeartbeats 4000000 in
set_option maxRecDepth 100000 in
theorem t_X4_makeSegments_L7 {p : Program} {l : Launch} {e : Env} {s : State} {m : MethodId} {args : Array Value} {below : List Frame} {meth : Method} {c : Code} {D : va_G} {A : Nat → Prop} {cI cJ : ClassId} {Q : State → Prop} (C : Cx p s m args c cX4_makeSegments 6 RX4 D A cI cJ) {aM : Nat → Nat} {x1 : Int32} {thrown_M : Int32} {pins_M : (Nat → Int32)} {below_M : (Nat → Int64)} {reach_M : (Nat → Int64)} {tracksOf_M : (Nat → Int32)} {steps_M : (Nat → Int32)} {laid_M : Int32} {laidMany_M : Int32} {tracks_M : Int32} {laidNet_M : (Nat → Int32)} {laidLeft_M : (Nat → Int32)} {laidRight_M : (Nat → Int32)} {laidTouch_M : (Nat → Int32)} {laidTrack_M : (Nat → Int32)} {ringSize_M : Int32} {ringOf_M : (Nat → Int32)} {lays_M : Int32} {refusals_M : Int32} {n8 : Nat} {s9 : (Int32 × Int32 × (Nat → Int32) × (Nat → Int32) × (Nat → Int32) × (Nat → Int32))} {o8 : (Int32 × (Nat → Int32) × (Nat → Int32) × (Nat → Int32) × (Nat → Int32))} (h : lp (f_X4_makeSegments_B7 x1 pins_M) n8 s9 = some o8) (hk : V p l e (rmO 2 46) s m args below meth c 6 D A 0 0 Q 121 [] [] (wM cI cJ aM thrown_M pins_M o8.1 o8.2.1 o8.2.2.1 o8.2.2.2.1 o8.2.2.2.2 below_M reach_M tracksOf_M steps_M laid_M laidMany_M tracks_M laidNet_M laidLeft_M laidRight_M laidTouch_M laidTrack_M ringSize_M ringOf_M lays_M refusals_M)) : V p l e (rmO 2 46) s m args below meth c 6 D A 0 0 Q 7 [(0, .ref (aM 0)), (1, .int x1), (2, .int s9.1)] [] (wM cI cJ aM thrown_M pins_M s9.2.1 s9.2.2.1 s9.2.2.2.1 s9.2.2.2.2.1 s9.2.2.2.2.2 below_M reach_M tracksOf_M steps_M laid_M laidMany_M tracks_M laidNet_M laidLeft_M laidRight_M laidTouch_M laidTrack_M ringSize_M ringOf_M lays_M refusals_M) := lp_ok (Pσ := fun s8 => V p l e (rmO 2 46) s m args below meth c 6 D A 0 0 Q 7 [(0, .ref (aM 0)), (1, .int x1), (2, .int s8.1)] [] (wM cI cJ aM thrown_M pins_M s8.2.1 s8.2.2.1 s8.2.2.2.1 s8.2.2.2.2.1 s8.2.2.2.2.2 below_M reach_M tracksOf_M steps_M laid_M laidMany_M tracks_M laidNet_M laidLeft_M laidRight_M laidTouch_M laidTrack_M ringSize_M ringOf_M lays_M refusals_M)) (Pρ := fun r8 => V p l e (rmO 2 46) s m args below meth c 6 D A 0 0 Q 121 [] [] (wM cI cJ aM thrown_M pins_M r8.1 r8.2.1 r8.2.2.1 r8.2.2.2.1 r8.2.2.2.2 below_M reach_M tracksOf_M steps_M laid_M laidMany_M tracks_M laidNet_M laidLeft_M laidRight_M laidTouch_M laidTrack_M ringSize_M ringOf_M lays_M refusals_M)) (fun s o h hl hx => t_X4_makeSegments_B7 C s o h hl hx) n8 s9 o8 h hk
set_option maxHeartbeats 4000000 in
set_option maxRecDepth 100000 in
theorem c_X4_makeSegments (l : Launch) (D : va_G) (cI cJ : ClassId) (aM : Nat → Nat) (thrown_M : Int32) (pins_M : (Nat → Int32)) (many_M : Int32) (nets_M : (Nat → Int32)) (lefts_M : (Nat → Int32)) (rights_M : (Nat → Int32)) (touches_M : (Nat → Int32)) (below_M : (Nat → Int64)) (reach_M : (Nat → Int64)) (tracksOf_M : (Nat → Int32)) (steps_M : (Nat → Int32)) (laid_M : Int32) (laidMany_M : Int32) (tracks_M : Int32) (laidNet_M : (Nat → Int32)) (laidLeft_M : (Nat → Int32)) (laidRight_M : (Nat → Int32)) (laidTouch_M : (Nat → Int32)) (laidTrack_M : (Nat → Int32)) (ringSize_M : Int32) (ringOf_M : (Nat → Int32)) (lays_M : Int32) (refusals_M : Int32) (x1 : Int32) (many_M' : Int32) (nets_M' : (Nat → Int32)) (lefts_M' : (Nat → Int32)) (rights_M' : (Nat → Int32)) (touches_M' : (Nat → Int32)) (h : f_X4_makeSegments pins_M nets_M lefts_M rights_M touches_M x1 = some (many_M', nets_M', lefts_M', rights_M', touches_M')) : Ctv l D cI cJ yX4_makeSegments cX4_makeSegments 6 none 2 46 [.ref (aM 0), .int x1] (wM cI cJ aM thrown_M pins_M many_M nets_M lefts_M rights_M touches_M below_M reach_M tracksOf_M steps_M laid_M laidMany_M tracks_M laidNet_M laidLeft_M laidRight_M laidTouch_M laidTrack_M ringSize_M ringOf_M lays_M refusals_M) (wM cI cJ aM thrown_M pins_M many_M' nets_M' lefts_M' rights_M' touches_M' below_M reach_M tracksOf_M steps_M laid_M laidMany_M tracks_M laidNet_M laidLeft_M laidRight_M laidTouch_M laidTrack_M ringSize_M ringOf_M lays_M refusals_M) := by
  refine mk_v [(0, .ref (aM 0)), (1, .int x1)] (by decide) rfl (Nat.le_of_ble_eq_true rfl) rfl (fun p e s m args below meth c A Q C hk => ?_)
  unfold f_X4_makeSegments at h
  refine v_aload_n C 0 dX4_makeSegments_0 rfl rfl ?_
  refine v_iconst (v := 0) C dX4_makeSegments_1 (by decide) ?_
  refine v_put C (wM cI cJ aM thrown_M pins_M 0 nets_M lefts_M rights_M touches_M below_M reach_M tracksOf_M steps_M laid_M laidMany_M tracks_M laidNet_M laidLeft_M laidRight_M laidTouch_M laidTrack_M ringSize_M ringOf_M lays_M refusals_M) 0 2 iuX4 tyX4_ok nmX4 rfl rfl (by decide) m3_55 rfl rfl rfl rfl rfl (Nat.le_of_ble_eq_true rfl) dX4_makeSegments_2 rfl ?_
  refine v_iconst (v := 1) C dX4_makeSegments_5 (by decide) ?_
  refine v_istore_n C [(2, .int 1), (0, .ref (aM 0)), (1, .int x1)] dX4_makeSegments_6 rfl (by decide) rfl ?_
  obtain ⟨r, h1, h⟩ := bind_el h
  refine v_perm [1, 2, 0] rfl ?_
  obtain ⟨many_M_21, nets_M_22, lefts_M_23, rights_M_24, touches_M_25⟩ := r
  refine t_X4_makeSegments_L7 C (s9 := (1, 0, nets_M, lefts_M, rights_M, touches_M)) h1 ?_
  show V p l e (rmO 2 46) s m args below meth c 6 D A 0 0 Q 121 [] [] (wM cI cJ aM thrown_M pins_M many_M_21 nets_M_22 lefts_M_23 rights_M_24 touches_M_25 below_M reach_M tracksOf_M steps_M laid_M laidMany_M tracks_M laidNet_M laidLeft_M laidRight_M laidTouch_M laidTrack_M ringSize_M ringOf_M lays_M refusals_M)
  try dsimp only at h
  cases h
  exact hk _ _ dX4_makeSegments_121
def f_X4_touching (nets_M : (Nat → Int32)) (touches_M : (Nat → Int32)) (x1 : Int32) (x2 : Int32) (x3 : Int32) : Option Int32 := bnd x1 40 (if (nets_M x1.toNatClampNeg) = x3 then (bnd x1 40 (if (((touches_M x1.toNatClampNeg) >>> (x2 &&& 31)) &&& 1) = 1 then (some 1) else (some 0))) else (some 0))
theorem cw_X4_touching : CWv yX4_touching cX4_touching 4 (some .boolean) RX4 3 := ⟨m3_178, ms4_3, m1_5, m3_179, rfl, by decide, by decide, by decide +kernel⟩
set_option maxHeartbeats 4000000 in
set_option maxRecDepth 100000 in
theorem c_X4_touching (l : Launch) (D : va_G) (cI cJ : ClassId) (aM : Nat → Nat) (thrown_M : Int32) (pins_M : (Nat → Int32)) (many_M : Int32) (nets_M : (Nat → Int32)) (lefts_M : (Nat → Int32)) (rights_M : (Nat → Int32)) (touches_M : (Nat → Int32)) (below_M : (Nat → Int64)) (reach_M : (Nat → Int64)) (tracksOf_M : (Nat → Int32)) (steps_M : (Nat → Int32)) (laid_M : Int32) (laidMany_M : Int32) (tracks_M : Int32) (laidNet_M : (Nat → Int32)) (laidLeft_M : (Nat → Int32)) (laidRight_M : (Nat → Int32)) (laidTouch_M : (Nat → Int32)) (laidTrack_M : (Nat → Int32)) (ringSize_M : Int32) (ringOf_M : (Nat → Int32)) (lays_M : Int32) (refusals_M : Int32) (x1 : Int32) (x2 : Int32) (x3 : Int32) (r : Int32) (h : f_X4_touching nets_M touches_M x1 x2 x3 = some r) : Cti l D cI cJ yX4_touching cX4_touching 4 (some .boolean) 0 0 [.ref (aM 0), .int x1, .int x2, .int x3] (wM cI cJ aM thrown_M pins_M many_M nets_M lefts_M rights_M touches_M below_M reach_M tracksOf_M steps_M laid_M laidMany_M tracks_M laidNet_M laidLeft_M laidRight_M laidTouch_M laidTrack_M ringSize_M ringOf_M lays_M refusals_M) (wM cI cJ aM thrown_M pins_M many_M nets_M lefts_M rights_M touches_M below_M reach_M tracksOf_M steps_M laid_M laidMany_M tracks_M laidNet_M laidLeft_M laidRight_M laidTouch_M laidTrack_M ringSize_M ringOf_M lays_M refusals_M) r := by
  refine mk_z [(0, .ref (aM 0)), (1, .int x1), (2, .int x2), (3, .int x3)] (by decide) rfl (Nat.le_of_ble_eq_true rfl) rfl (fun p e s m args below meth c A Q C hk => ?_)
  unfold f_X4_touching at h
  refine v_aload_n C 0 dX4_touching_0 rfl rfl ?_
  refine v_get C 0 3 iuX4 rfl rfl (by decide) m3_56 rfl rfl dX4_touching_1 ?_
  refine v_iload_n C 1 dX4_touching_4 rfl rfl ?_
  refine v_iald C 2 rfl dX4_touching_5 h (fun h => ?_)
  refine v_iload_n C 3 dX4_touching_6 rfl rfl ?_
  refine v_icmp_ne (tgt := 28) C dX4_touching_7 (by decide) h (fun h => ?_) (fun h => ?_)
  · refine v_aload_n C 0 dX4_touching_10 rfl rfl ?_
    refine v_get C 0 6 iuX4 rfl rfl (by decide) m3_59 rfl rfl dX4_touching_11 ?_
    refine v_iload_n C 1 dX4_touching_14 rfl rfl ?_
    refine v_iald C 5 rfl dX4_touching_15 h (fun h => ?_)
    refine v_iload_n C 2 dX4_touching_16 rfl rfl ?_
    refine v_ishr C dX4_touching_17 ?_
    refine v_iconst (v := 1) C dX4_touching_18 (by decide) ?_
    refine v_iand C dX4_touching_19 ?_
    refine v_iconst (v := 1) C dX4_touching_20 (by decide) ?_
    refine v_icmp_ne (tgt := 28) C dX4_touching_21 (by decide) h (fun h => ?_) (fun h => ?_)
    · refine v_iconst (v := 1) C dX4_touching_24 (by decide) ?_
      refine v_goto (tgt := 29) C dX4_touching_25 (by decide) ?_
      cases h
      exact hk _ _ dX4_touching_29 (Or.inr rfl)
    · refine v_iconst (v := 0) C dX4_touching_28 (by decide) ?_
      cases h
      exact hk _ _ dX4_touching_29 (Or.inl rfl)
  · refine v_iconst (v := 0) C dX4_touching_28 (by decide) ?_
    cases h
    exact hk _ _ dX4_touching_29 (Or.inl rfl)
def f_X4_study_B42 (x3 : Int32) (x4 : Int32) (pins_M : (Nat → Int32)) (nets_M : (Nat → Int32)) (touches_M : (Nat → Int32)) : (Int32 × Int32) → Option ((Int32 × Int32) ⊕ Int32)
  | (x5, x6) => if 20 ≤ x6 then (some (.inr x5)) else (bnd x6 40 (bnd ((20 : Int32) + x6) 40 (if x5 = 0 then (if (pins_M x6.toNatClampNeg) ≤ 0 then (some (.inl (0, x6 + 1))) else (if (pins_M ((20 : Int32) + x6).toNatClampNeg) ≤ 0 then (some (.inl (0, x6 + 1))) else (if (pins_M x6.toNatClampNeg) = (pins_M ((20 : Int32) + x6).toNatClampNeg) then (some (.inl (0, x6 + 1))) else ((f_X4_touching nets_M touches_M x3 x6 (pins_M x6.toNatClampNeg)).bind (fun r => match r with | r_6 => if r_6 = 0 then (some (.inl (0, x6 + 1))) else ((f_X4_touching nets_M touches_M x4 x6 (pins_M ((20 : Int32) + x6).toNatClampNeg)).bind (fun r => match r with | r_7 => if r_7 = 0 then (some (.inl (0, x6 + 1))) else (some (.inl (1, x6 + 1)))))))))) else (some (.inl (1, x6 + 1))))))
def f_X4_study_B27 (x3 : Int32) (pins_M : (Nat → Int32)) (many_M : Int32) (nets_M : (Nat → Int32)) (touches_M : (Nat → Int32)) : (Int32 × Int32 × (Nat → Int64)) → Option ((Int32 × Int32 × (Nat → Int64)) ⊕ (Int32 × (Nat → Int64)))
  | (x2, x4, below_M) => if many_M ≤ x4 then (some (.inr (x2, below_M))) else ((lp (f_X4_study_B42 x3 x4 pins_M nets_M touches_M) 64 (0, 0)).bind (fun r => match r with | x5_8 => if x5_8 = 0 then (bnd x3 40 (bnd x3 40 (if x5_8 = 0 then (some (.inl ((x2, x4 + 1, vp_updL below_M x3.toNatClampNeg (below_M x3.toNatClampNeg))))) else (some (.inl ((x2 + 1, x4 + 1, vp_updL below_M x3.toNatClampNeg (below_M x3.toNatClampNeg)))))))) else (bnd x3 40 (bnd x3 40 (if x5_8 = 0 then (some (.inl ((x2, x4 + 1, vp_updL below_M x3.toNatClampNeg ((below_M x3.toNatClampNeg) ||| ((1 : Int64) <<< (x4.toInt64 &&& 63))))))) else (some (.inl ((x2 + 1, x4 + 1, vp_updL below_M x3.toNatClampNeg ((below_M x3.toNatClampNeg) ||| ((1 : Int64) <<< (x4.toInt64 &&& 63))))))))))))
def f_X4_study_B9 (pins_M : (Nat → Int32)) (many_M : Int32) (nets_M : (Nat → Int32)) (touches_M : (Nat → Int32)) : (Int32 × Int32 × (Nat → Int64)) → Option ((Int32 × Int32 × (Nat → Int64)) ⊕ (Int32 × (Nat → Int64)))
  | (x2, x3, below_M) => if many_M ≤ x3 then (some (.inr (x2, below_M))) else (bnd x3 40 ((lp (f_X4_study_B27 x3 pins_M many_M nets_M touches_M) 64 (x2, 0, vp_updL below_M x3.toNatClampNeg 0)).bind (fun r => match r with | (x2_9, below_M_10) => some (.inl (x2_9, x3 + 1, below_M_10)))))
def f_X4_study (pins_M : (Nat → Int32)) (nets_M : (Nat → Int32)) (lefts_M : (Nat → Int32)) (rights_M : (Nat → Int32)) (touches_M : (Nat → Int32)) (below_M : (Nat → Int64)) (x1 : Int32) : Option (Int32 × Int32 × (Nat → Int32) × (Nat → Int32) × (Nat → Int32) × (Nat → Int32) × (Nat → Int64)) := (f_X4_makeSegments pins_M nets_M lefts_M rights_M touches_M x1).bind (fun r => match r with | (many_M_1, nets_M_2, lefts_M_3, rights_M_4, touches_M_5) => (lp (f_X4_study_B9 pins_M many_M_1 nets_M_2 touches_M_5) 64 (0, 0, below_M)).bind (fun r => match r with | (x2_11, below_M_12) => some (x2_11, many_M_1, nets_M_2, lefts_M_3, rights_M_4, touches_M_5, below_M_12)))
theorem cw_X4_study : CWv yX4_study cX4_study 9 (some .int) RX4 1 := ⟨m3_166, ms4_0, m1_5, m3_167, rfl, by decide, by decide, by decide +kernel⟩
set_option maxHeartbeats 4000000 in
set_option maxRecDepth 100000 in
theorem t_X4_study_B42 {p : Program} {l : Launch} {e : Env} {s : State} {m : MethodId} {args : Array Value} {below : List Frame} {meth : Method} {c : Code} {D : va_G} {A : Nat → Prop} {cI cJ : ClassId} {Q : State → Prop} (C : Cx p s m args c cX4_study 9 RX4 D A cI cJ) {aM : Nat → Nat} {x2 : Int32} {x3 : Int32} {x4 : Int32} {thrown_M : Int32} {pins_M : (Nat → Int32)} {many_M : Int32} {nets_M : (Nat → Int32)} {lefts_M : (Nat → Int32)} {rights_M : (Nat → Int32)} {touches_M : (Nat → Int32)} {below_M : (Nat → Int64)} {reach_M : (Nat → Int64)} {tracksOf_M : (Nat → Int32)} {steps_M : (Nat → Int32)} {laid_M : Int32} {laidMany_M : Int32} {tracks_M : Int32} {laidNet_M : (Nat → Int32)} {laidLeft_M : (Nat → Int32)} {laidRight_M : (Nat → Int32)} {laidTouch_M : (Nat → Int32)} {laidTrack_M : (Nat → Int32)} {ringSize_M : Int32} {ringOf_M : (Nat → Int32)} {lays_M : Int32} {refusals_M : Int32} (s8 : (Int32 × Int32)) (o8 : (Int32 × Int32) ⊕ Int32) (h : f_X4_study_B42 x3 x4 pins_M nets_M touches_M s8 = some o8) (hl : ∀ s8, o8 = .inl s8 → V p l e (rmO 3 71) s m args below meth c 9 D A 0 0 Q 42 [(0, .ref (aM 0)), (2, .int x2), (3, .int x3), (4, .int x4), (5, .int s8.1), (6, .int s8.2)] [] (wM cI cJ aM thrown_M pins_M many_M nets_M lefts_M rights_M touches_M below_M reach_M tracksOf_M steps_M laid_M laidMany_M tracks_M laidNet_M laidLeft_M laidRight_M laidTouch_M laidTrack_M ringSize_M ringOf_M lays_M refusals_M)) (hx : ∀ r8, o8 = .inr r8 → V p l e (rmO 3 71) s m args below meth c 9 D A 0 0 Q 130 [(0, .ref (aM 0)), (2, .int x2), (3, .int x3), (4, .int x4), (5, .int r8)] [] (wM cI cJ aM thrown_M pins_M many_M nets_M lefts_M rights_M touches_M below_M reach_M tracksOf_M steps_M laid_M laidMany_M tracks_M laidNet_M laidLeft_M laidRight_M laidTouch_M laidTrack_M ringSize_M ringOf_M lays_M refusals_M)) : V p l e (rmO 3 71) s m args below meth c 9 D A 0 0 Q 42 [(0, .ref (aM 0)), (2, .int x2), (3, .int x3), (4, .int x4), (5, .int s8.1), (6, .int s8.2)] [] (wM cI cJ aM thrown_M pins_M many_M nets_M lefts_M rights_M touches_M below_M reach_M tracksOf_M steps_M laid_M laidMany_M tracks_M laidNet_M laidLeft_M laidRight_M laidTouch_M laidTrack_M ringSize_M ringOf_M lays_M refusals_M) := by
  obtain ⟨x5, x6⟩ := s8
  unfold f_X4_study_B42 at h
  show V p l e (rmO 3 71) s m args below meth c 9 D A 0 0 Q 42 [(0, .ref (aM 0)), (2, .int x2), (3, .int x3), (4, .int x4), (5, .int x5), (6, .int x6)] [] (wM cI cJ aM thrown_M pins_M many_M nets_M lefts_M rights_M touches_M below_M reach_M tracksOf_M steps_M laid_M laidMany_M tracks_M laidNet_M laidLeft_M laidRight_M laidTouch_M laidTrack_M ringSize_M ringOf_M lays_M refusals_M)
  refine v_iload C 5 dX4_study_42 rfl ?_
  refine v_bipush (v := 20) C dX4_study_44 (by decide) ?_
  refine v_icmp_ge (tgt := 130) C dX4_study_46 (by decide) h (fun h => ?_) (fun h => ?_)
  · refine v_perm [0, 1, 2, 3, 4] rfl ?_
    cases h
    exact hx _ rfl
  · refine v_aload_n C 0 dX4_study_49 rfl rfl ?_
    refine v_get C 0 1 iuX4 rfl rfl (by decide) m3_54 rfl rfl dX4_study_50 ?_
    refine v_iload C 5 dX4_study_53 rfl ?_
    refine v_iald C 1 rfl dX4_study_55 h (fun h => ?_)
    refine v_istore C [(7, .int (pins_M x6.toNatClampNeg)), (0, .ref (aM 0)), (2, .int x2), (3, .int x3), (4, .int x4), (5, .int x5), (6, .int x6)] dX4_study_56 (by decide) rfl ?_
    refine v_aload_n C 1 dX4_study_58 rfl rfl ?_
    refine v_get C 0 1 iuX4 rfl rfl (by decide) m3_54 rfl rfl dX4_study_59 ?_
    refine v_bipush (v := 20) C dX4_study_62 (by decide) ?_
    refine v_iload C 6 dX4_study_64 rfl ?_
    refine v_iadd C dX4_study_66 ?_
    refine v_iald C 1 rfl dX4_study_67 h (fun h => ?_)
    refine v_istore C [(8, .int (pins_M ((20 : Int32) + x6).toNatClampNeg)), (7, .int (pins_M x6.toNatClampNeg)), (0, .ref (aM 0)), (2, .int x2), (3, .int x3), (4, .int x4), (5, .int x5), (6, .int x6)] dX4_study_68 (by decide) rfl ?_
    refine v_iload C 6 dX4_study_70 rfl ?_
    refine v_if_ne (tgt := 117) C dX4_study_72 (by decide) h (fun h => ?_) (fun h => ?_)
    · refine v_iload C 1 dX4_study_75 rfl ?_
      refine v_if_le (tgt := 121) C dX4_study_77 (by decide) h (fun h => ?_) (fun h => ?_)
      · refine v_iconst (v := 0) C dX4_study_121 (by decide) ?_
        refine v_istore C [(5, .int 0), (8, .int (pins_M ((20 : Int32) + x6).toNatClampNeg)), (7, .int (pins_M x6.toNatClampNeg)), (0, .ref (aM 0)), (2, .int x2), (3, .int x3), (4, .int x4), (6, .int x6)] dX4_study_122 (by decide) rfl ?_
        refine v_iinc C [(6, .int (x6 + 1)), (5, .int 0), (8, .int (pins_M ((20 : Int32) + x6).toNatClampNeg)), (7, .int (pins_M x6.toNatClampNeg)), (0, .ref (aM 0)), (2, .int x2), (3, .int x3), (4, .int x4)] 7 dX4_study_124 rfl rfl (by decide) rfl ?_
        refine v_goto (tgt := 42) C dX4_study_127 (by decide) ?_
        refine v_perm [4, 5, 6, 7, 1, 0] rfl ?_
        cases h
        exact hl _ rfl
      · refine v_iload C 0 dX4_study_80 rfl ?_
        refine v_if_le (tgt := 121) C dX4_study_82 (by decide) h (fun h => ?_) (fun h => ?_)
        · refine v_iconst (v := 0) C dX4_study_121 (by decide) ?_
          refine v_istore C [(5, .int 0), (8, .int (pins_M ((20 : Int32) + x6).toNatClampNeg)), (7, .int (pins_M x6.toNatClampNeg)), (0, .ref (aM 0)), (2, .int x2), (3, .int x3), (4, .int x4), (6, .int x6)] dX4_study_122 (by decide) rfl ?_
          refine v_iinc C [(6, .int (x6 + 1)), (5, .int 0), (8, .int (pins_M ((20 : Int32) + x6).toNatClampNeg)), (7, .int (pins_M x6.toNatClampNeg)), (0, .ref (aM 0)), (2, .int x2), (3, .int x3), (4, .int x4)] 7 dX4_study_124 rfl rfl (by decide) rfl ?_
          refine v_goto (tgt := 42) C dX4_study_127 (by decide) ?_
          refine v_perm [4, 5, 6, 7, 1, 0] rfl ?_
          cases h
          exact hl _ rfl
        · refine v_iload C 1 dX4_study_85 rfl ?_
          refine v_iload C 0 dX4_study_87 rfl ?_
          refine v_icmp_eq (tgt := 121) C dX4_study_89 (by decide) h (fun h => ?_) (fun h => ?_)
          · refine v_iconst (v := 0) C dX4_study_121 (by decide) ?_
            refine v_istore C [(5, .int 0), (8, .int (pins_M ((20 : Int32) + x6).toNatClampNeg)), (7, .int (pins_M x6.toNatClampNeg)), (0, .ref (aM 0)), (2, .int x2), (3, .int x3), (4, .int x4), (6, .int x6)] dX4_study_122 (by decide) rfl ?_
            refine v_iinc C [(6, .int (x6 + 1)), (5, .int 0), (8, .int (pins_M ((20 : Int32) + x6).toNatClampNeg)), (7, .int (pins_M x6.toNatClampNeg)), (0, .ref (aM 0)), (2, .int x2), (3, .int x3), (4, .int x4)] 7 dX4_study_124 rfl rfl (by decide) rfl ?_
            refine v_goto (tgt := 42) C dX4_study_127 (by decide) ?_
            refine v_perm [4, 5, 6, 7, 1, 0] rfl ?_
            cases h
            exact hl _ rfl
          · refine v_aload_n C 2 dX4_study_92 rfl rfl ?_
            refine v_iload_n C 4 dX4_study_93 rfl rfl ?_
            refine v_iload C 7 dX4_study_94 rfl ?_
            refine v_iload C 1 dX4_study_96 rfl ?_
            obtain ⟨r, h1, h⟩ := bind_el h
            obtain ⟨r_6, rfl⟩ : ∃ z, z = r := ⟨_, rfl⟩
            try dsimp only at h
            refine v_callVi (As := [.int x3, .int x6, .int (pins_M x6.toNatClampNeg)]) (st := []) (wr := []) (w1 := (wM cI cJ aM thrown_M pins_M many_M nets_M lefts_M rights_M touches_M below_M reach_M tracksOf_M steps_M laid_M laidMany_M tracks_M laidNet_M laidLeft_M laidRight_M laidTouch_M laidTrack_M ringSize_M ringOf_M lays_M refusals_M)) (ws' := (wM cI cJ aM thrown_M pins_M many_M nets_M lefts_M rights_M touches_M below_M reach_M tracksOf_M steps_M laid_M laidMany_M tracks_M laidNet_M laidLeft_M laidRight_M laidTouch_M laidTrack_M ringSize_M ringOf_M lays_M refusals_M)) (isC := [0, 1, 2, 3, 4, 5, 6, 7, 8, 9, 10, 11, 12, 13, 14, 15]) (isR := []) (pm := [0, 1, 2, 3, 4, 5, 6, 7, 8, 9, 10, 11, 12, 13, 14, 15]) C (c_X4_touching l D cI cJ aM thrown_M pins_M many_M nets_M lefts_M rights_M touches_M below_M reach_M tracksOf_M steps_M laid_M laidMany_M tracks_M laidNet_M laidLeft_M laidRight_M laidTouch_M laidTrack_M ringSize_M ringOf_M lays_M refusals_M x3 x6 (pins_M x6.toNatClampNeg) r_6 h1) cw_X4_touching 0 rfl rfl m3_176 dX4_study_98 rfl ⟨Nat.le_of_ble_eq_true rfl, Nat.le_of_ble_eq_true rfl⟩ (Nat.le_of_ble_eq_true rfl) ⟨Nat.le_refl 0, Nat.le_refl 0⟩ ⟨rfl, rfl, rfl, rfl, by decide, rfl, rfl⟩ ?_
            refine v_if_eq (tgt := 121) C dX4_study_101 (by decide) h (fun h => ?_) (fun h => ?_)
            · refine v_iconst (v := 0) C dX4_study_121 (by decide) ?_
              refine v_istore C [(5, .int 0), (8, .int (pins_M ((20 : Int32) + x6).toNatClampNeg)), (7, .int (pins_M x6.toNatClampNeg)), (0, .ref (aM 0)), (2, .int x2), (3, .int x3), (4, .int x4), (6, .int x6)] dX4_study_122 (by decide) rfl ?_
              refine v_iinc C [(6, .int (x6 + 1)), (5, .int 0), (8, .int (pins_M ((20 : Int32) + x6).toNatClampNeg)), (7, .int (pins_M x6.toNatClampNeg)), (0, .ref (aM 0)), (2, .int x2), (3, .int x3), (4, .int x4)] 7 dX4_study_124 rfl rfl (by decide) rfl ?_
              refine v_goto (tgt := 42) C dX4_study_127 (by decide) ?_
              refine v_perm [4, 5, 6, 7, 1, 0] rfl ?_
              cases h
              exact hl _ rfl
            · refine v_aload_n C 2 dX4_study_104 rfl rfl ?_
              refine v_iload C 5 dX4_study_105 rfl ?_
              refine v_iload C 7 dX4_study_107 rfl ?_
              refine v_iload C 0 dX4_study_109 rfl ?_
              obtain ⟨r, h1, h⟩ := bind_el h
              obtain ⟨r_7, rfl⟩ : ∃ z, z = r := ⟨_, rfl⟩
              try dsimp only at h
              refine v_callVi (As := [.int x4, .int x6, .int (pins_M ((20 : Int32) + x6).toNatClampNeg)]) (st := []) (wr := []) (w1 := (wM cI cJ aM thrown_M pins_M many_M nets_M lefts_M rights_M touches_M below_M reach_M tracksOf_M steps_M laid_M laidMany_M tracks_M laidNet_M laidLeft_M laidRight_M laidTouch_M laidTrack_M ringSize_M ringOf_M lays_M refusals_M)) (ws' := (wM cI cJ aM thrown_M pins_M many_M nets_M lefts_M rights_M touches_M below_M reach_M tracksOf_M steps_M laid_M laidMany_M tracks_M laidNet_M laidLeft_M laidRight_M laidTouch_M laidTrack_M ringSize_M ringOf_M lays_M refusals_M)) (isC := [0, 1, 2, 3, 4, 5, 6, 7, 8, 9, 10, 11, 12, 13, 14, 15]) (isR := []) (pm := [0, 1, 2, 3, 4, 5, 6, 7, 8, 9, 10, 11, 12, 13, 14, 15]) C (c_X4_touching l D cI cJ aM thrown_M pins_M many_M nets_M lefts_M rights_M touches_M below_M reach_M tracksOf_M steps_M laid_M laidMany_M tracks_M laidNet_M laidLeft_M laidRight_M laidTouch_M laidTrack_M ringSize_M ringOf_M lays_M refusals_M x4 x6 (pins_M ((20 : Int32) + x6).toNatClampNeg) r_7 h1) cw_X4_touching 0 rfl rfl m3_176 dX4_study_111 rfl ⟨Nat.le_of_ble_eq_true rfl, Nat.le_of_ble_eq_true rfl⟩ (Nat.le_of_ble_eq_true rfl) ⟨Nat.le_refl 0, Nat.le_refl 0⟩ ⟨rfl, rfl, rfl, rfl, by decide, rfl, rfl⟩ ?_
              refine v_if_eq (tgt := 121) C dX4_study_114 (by decide) h (fun h => ?_) (fun h => ?_)
              · refine v_iconst (v := 0) C dX4_study_121 (by decide) ?_
                refine v_istore C [(5, .int 0), (8, .int (pins_M ((20 : Int32) + x6).toNatClampNeg)), (7, .int (pins_M x6.toNatClampNeg)), (0, .ref (aM 0)), (2, .int x2), (3, .int x3), (4, .int x4), (6, .int x6)] dX4_study_122 (by decide) rfl ?_
                refine v_iinc C [(6, .int (x6 + 1)), (5, .int 0), (8, .int (pins_M ((20 : Int32) + x6).toNatClampNeg)), (7, .int (pins_M x6.toNatClampNeg)), (0, .ref (aM 0)), (2, .int x2), (3, .int x3), (4, .int x4)] 7 dX4_study_124 rfl rfl (by decide) rfl ?_
                refine v_goto (tgt := 42) C dX4_study_127 (by decide) ?_
                refine v_perm [4, 5, 6, 7, 1, 0] rfl ?_
                cases h
                exact hl _ rfl
              · refine v_iconst (v := 1) C dX4_study_117 (by decide) ?_
                refine v_goto (tgt := 122) C dX4_study_118 (by decide) ?_
                refine v_istore C [(5, .int 1), (8, .int (pins_M ((20 : Int32) + x6).toNatClampNeg)), (7, .int (pins_M x6.toNatClampNeg)), (0, .ref (aM 0)), (2, .int x2), (3, .int x3), (4, .int x4), (6, .int x6)] dX4_study_122 (by decide) rfl ?_
                refine v_iinc C [(6, .int (x6 + 1)), (5, .int 1), (8, .int (pins_M ((20 : Int32) + x6).toNatClampNeg)), (7, .int (pins_M x6.toNatClampNeg)), (0, .ref (aM 0)), (2, .int x2), (3, .int x3), (4, .int x4)] 7 dX4_study_124 rfl rfl (by decide) rfl ?_
                refine v_goto (tgt := 42) C dX4_study_127 (by decide) ?_
                refine v_perm [4, 5, 6, 7, 1, 0] rfl ?_
                cases h
                exact hl _ rfl
    · refine v_iconst (v := 1) C dX4_study_117 (by decide) ?_
      refine v_goto (tgt := 122) C dX4_study_118 (by decide) ?_
      refine v_istore C [(5, .int 1), (8, .int (pins_M ((20 : Int32) + x6).toNatClampNeg)), (7, .int (pins_M x6.toNatClampNeg)), (0, .ref (aM 0)), (2, .int x2), (3, .int x3), (4, .int x4), (6, .int x6)] dX4_study_122 (by decide) rfl ?_
      refine v_iinc C [(6, .int (x6 + 1)), (5, .int 1), (8, .int (pins_M ((20 : Int32) + x6).toNatClampNeg)), (7, .int (pins_M x6.toNatClampNeg)), (0, .ref (aM 0)), (2, .int x2), (3, .int x3), (4, .int x4)] 7 dX4_study_124 rfl rfl (by decide) rfl ?_
      refine v_goto (tgt := 42) C dX4_study_127 (by decide) ?_
      refine v_perm [4, 5, 6, 7, 1, 0] rfl ?_
      cases h
      exact hl _ rfl
set_option maxHeartbeats 4000000 in
set_option maxRecDepth 100000 in
theorem t_X4_study_L42 {p : Program} {l : Launch} {e : Env} {s : State} {m : MethodId} {args : Array Value} {below : List Frame} {meth : Method} {c : Code} {D : va_G} {A : Nat → Prop} {cI cJ : ClassId} {Q : State → Prop} (C : Cx p s m args c cX4_study 9 RX4 D A cI cJ) {aM : Nat → Nat} {x2 : Int32} {x3 : Int32} {x4 : Int32} {thrown_M : Int32} {pins_M : (Nat → Int32)} {many_M : Int32} {nets_M : (Nat → Int32)} {lefts_M : (Nat → Int32)} {rights_M : (Nat → Int32)} {touches_M : (Nat → Int32)} {below_M : (Nat → Int64)} {reach_M : (Nat → Int64)} {tracksOf_M : (Nat → Int32)} {steps_M : (Nat → Int32)} {laid_M : Int32} {laidMany_M : Int32} {tracks_M : Int32} {laidNet_M : (Nat → Int32)} {laidLeft_M : (Nat → Int32)} {laidRight_M : (Nat → Int32)} {laidTouch_M : (Nat → Int32)} {laidTrack_M : (Nat → Int32)} {ringSize_M : Int32} {ringOf_M : (Nat → Int32)} {lays_M : Int32} {refusals_M : Int32} {n8 : Nat} {s9 : (Int32 × Int32)} {o8 : Int32} (h : lp (f_X4_study_B42 x3 x4 pins_M nets_M touches_M) n8 s9 = some o8) (hk : V p l e (rmO 3 71) s m args below meth c 9 D A 0 0 Q 130 [(0, .ref (aM 0)), (2, .int x2), (3, .int x3), (4, .int x4), (5, .int o8)] [] (wM cI cJ aM thrown_M pins_M many_M nets_M lefts_M rights_M touches_M below_M reach_M tracksOf_M steps_M laid_M laidMany_M tracks_M laidNet_M laidLeft_M laidRight_M laidTouch_M laidTrack_M ringSize_M ringOf_M lays_M refusals_M)) : V p l e (rmO 3 71) s m args below meth c 9 D A 0 0 Q 42 [(0, .ref (aM 0)), (2, .int x2), (3, .int x3), (4, .int x4), (5, .int s9.1), (6, .int s9.2)] [] (wM cI cJ aM thrown_M pins_M many_M nets_M lefts_M rights_M touches_M below_M reach_M tracksOf_M steps_M laid_M laidMany_M tracks_M laidNet_M laidLeft_M laidRight_M laidTouch_M laidTrack_M ringSize_M ringOf_M lays_M refusals_M) := lp_ok (Pσ := fun s8 => V p l e (rmO 3 71) s m args below meth c 9 D A 0 0 Q 42 [(0, .ref (aM 0)), (2, .int x2), (3, .int x3), (4, .int x4), (5, .int s8.1), (6, .int s8.2)] [] (wM cI cJ aM thrown_M pins_M many_M nets_M lefts_M rights_M touches_M below_M reach_M tracksOf_M steps_M laid_M laidMany_M tracks_M laidNet_M laidLeft_M laidRight_M laidTouch_M laidTrack_M ringSize_M ringOf_M lays_M refusals_M)) (Pρ := fun r8 => V p l e (rmO 3 71) s m args below meth c 9 D A 0 0 Q 130 [(0, .ref (aM 0)), (2, .int x2), (3, .int x3), (4, .int x4), (5, .int r8)] [] (wM cI cJ aM thrown_M pins_M many_M nets_M lefts_M rights_M touches_M below_M reach_M tracksOf_M steps_M laid_M laidMany_M tracks_M laidNet_M laidLeft_M laidRight_M laidTouch_M laidTrack_M ringSize_M ringOf_M lays_M refusals_M)) (fun s o h hl hx => t_X4_study_B42 C s o h hl hx) n8 s9 o8 h hk
set_option maxHeartbeats 4000000 in
set_option maxRecDepth 100000 in
theorem t_X4_study_B27 {p : Program} {l : Launch} {e : Env} {s : State} {m : MethodId} {args : Array Value} {below : List Frame} {meth : Method} {c : Code} {D : va_G} {A : Nat → Prop} {cI cJ : ClassId} {Q : State → Prop} (C : Cx p s m args c cX4_study 9 RX4 D A cI cJ) {aM : Nat → Nat} {x3 : Int32} {thrown_M : Int32} {pins_M : (Nat → Int32)} {many_M : Int32} {nets_M : (Nat → Int32)} {lefts_M : (Nat → Int32)} {rights_M : (Nat → Int32)} {touches_M : (Nat → Int32)} {reach_M : (Nat → Int64)} {tracksOf_M : (Nat → Int32)} {steps_M : (Nat → Int32)} {laid_M : Int32} {laidMany_M : Int32} {tracks_M : Int32} {laidNet_M : (Nat → Int32)} {laidLeft_M : (Nat → Int32)} {laidRight_M : (Nat → Int32)} {laidTouch_M : (Nat → Int32)} {laidTrack_M : (Nat → Int32)} {ringSize_M : Int32} {ringOf_M : (Nat → Int32)} {lays_M : Int32} {refusals_M : Int32} (s8 : (Int32 × Int32 × (Nat → Int64))) (o8 : (Int32 × Int32 × (Nat → Int64)) ⊕ (Int32 × (Nat → Int64))) (h : f_X4_study_B27 x3 pins_M many_M nets_M touches_M s8 = some o8) (hl : ∀ s8, o8 = .inl s8 → V p l e (rmO 3 71) s m args below meth c 9 D A 0 0 Q 27 [(0, .ref (aM 0)), (2, .int s8.1), (3, .int x3), (4, .int s8.2.1)] [] (wM cI cJ aM thrown_M pins_M many_M nets_M lefts_M rights_M touches_M s8.2.2 reach_M tracksOf_M steps_M laid_M laidMany_M tracks_M laidNet_M laidLeft_M laidRight_M laidTouch_M laidTrack_M ringSize_M ringOf_M lays_M refusals_M)) (hx : ∀ r8, o8 = .inr r8 → V p l e (rmO 3 71) s m args below meth c 9 D A 0 0 Q 180 [(0, .ref (aM 0)), (2, .int r8.1), (3, .int x3)] [] (wM cI cJ aM thrown_M pins_M many_M nets_M lefts_M rights_M touches_M r8.2 reach_M tracksOf_M steps_M laid_M laidMany_M tracks_M laidNet_M laidLeft_M laidRight_M laidTouch_M laidTrack_M ringSize_M ringOf_M lays_M refusals_M)) : V p l e (rmO 3 71) s m args below meth c 9 D A 0 0 Q 27 [(0, .ref (aM 0)), (2, .int s8.1), (3, .int x3), (4, .int s8.2.1)] [] (wM cI cJ aM thrown_M pins_M many_M nets_M lefts_M rights_M touches_M s8.2.2 reach_M tracksOf_M steps_M laid_M laidMany_M tracks_M laidNet_M laidLeft_M laidRight_M laidTouch_M laidTrack_M ringSize_M ringOf_M lays_M refusals_M) := by
  obtain ⟨x2, x4, below_M⟩ := s8
  unfold f_X4_study_B27 at h
  show V p l e (rmO 3 71) s m args below meth c 9 D A 0 0 Q 27 [(0, .ref (aM 0)), (2, .int x2), (3, .int x3), (4, .int x4)] [] (wM cI cJ aM thrown_M pins_M many_M nets_M lefts_M rights_M touches_M below_M reach_M tracksOf_M steps_M laid_M laidMany_M tracks_M laidNet_M laidLeft_M laidRight_M laidTouch_M laidTrack_M ringSize_M ringOf_M lays_M refusals_M)
  refine v_iload C 3 dX4_study_27 rfl ?_
  refine v_aload_n C 0 dX4_study_29 rfl rfl ?_
  refine v_get C 0 2 iuX4 rfl rfl (by decide) m3_55 rfl rfl dX4_study_30 ?_
  refine v_icmp_ge (tgt := 180) C dX4_study_33 (by decide) h (fun h => ?_) (fun h => ?_)
  · refine v_perm [0, 1, 2] rfl ?_
    cases h
    exact hx _ rfl
  · refine v_iconst (v := 0) C dX4_study_36 (by decide) ?_
    refine v_istore C [(5, .int 0), (0, .ref (aM 0)), (2, .int x2), (3, .int x3), (4, .int x4)] dX4_study_37 (by decide) rfl ?_
    refine v_iconst (v := 0) C dX4_study_39 (by decide) ?_
    refine v_istore C [(6, .int 0), (5, .int 0), (0, .ref (aM 0)), (2, .int x2), (3, .int x3), (4, .int x4)] dX4_study_40 (by decide) rfl ?_
    obtain ⟨r, h1, h⟩ := bind_el h
    refine v_perm [2, 3, 4, 5, 1, 0] rfl ?_
    obtain ⟨x5_8, rfl⟩ : ∃ z, z = r := ⟨_, rfl⟩
    refine t_X4_study_L42 C (s9 := (0, 0)) h1 ?_
    show V p l e (rmO 3 71) s m args below meth c 9 D A 0 0 Q 130 [(0, .ref (aM 0)), (2, .int x2), (3, .int x3), (4, .int x4), (5, .int x5_8)] [] (wM cI cJ aM thrown_M pins_M many_M nets_M lefts_M rights_M touches_M below_M reach_M tracksOf_M steps_M laid_M laidMany_M tracks_M laidNet_M laidLeft_M laidRight_M laidTouch_M laidTrack_M ringSize_M ringOf_M lays_M refusals_M)
    try dsimp only at h
    refine v_aload_n C 0 dX4_study_130 rfl rfl ?_
    refine v_get C 0 7 iuX4 rfl rfl (by decide) m3_60 rfl rfl dX4_study_131 ?_
    refine v_iload_n C 2 dX4_study_134 rfl rfl ?_
    refine v_iload C 4 dX4_study_135 rfl ?_
    refine v_if_eq (tgt := 154) C dX4_study_137 (by decide) h (fun h => ?_) (fun h => ?_)
    · refine v_aload_n C 0 dX4_study_154 rfl rfl ?_
      refine v_get C 0 7 iuX4 rfl rfl (by decide) m3_60 rfl rfl dX4_study_155 ?_
      refine v_iload_n C 2 dX4_study_158 rfl rfl ?_
      refine v_lald C 6 rfl dX4_study_159 h (fun h => ?_)
      refine v_last C (wM cI cJ aM thrown_M pins_M many_M nets_M lefts_M rights_M touches_M (vp_updL below_M x3.toNatClampNeg (below_M x3.toNatClampNeg)) reach_M tracksOf_M steps_M laid_M laidMany_M tracks_M laidNet_M laidLeft_M laidRight_M laidTouch_M laidTrack_M ringSize_M ringOf_M lays_M refusals_M) 6 rfl dX4_study_160 h rfl (fun h => ?_)
      refine v_iload C 4 dX4_study_161 rfl ?_
      refine v_if_eq (tgt := 172) C dX4_study_163 (by decide) h (fun h => ?_) (fun h => ?_)
      · refine v_iload_n C 1 dX4_study_172 rfl rfl ?_
        refine v_istore_n C [(2, .int x2), (0, .ref (aM 0)), (3, .int x3), (4, .int x4), (5, .int x5_8)] dX4_study_173 rfl (by decide) rfl ?_
        refine v_iinc C [(4, .int (x4 + 1)), (2, .int x2), (0, .ref (aM 0)), (3, .int x3), (5, .int x5_8)] 3 dX4_study_174 rfl rfl (by decide) rfl ?_
        refine v_goto (tgt := 27) C dX4_study_177 (by decide) ?_
        refine v_perm [2, 1, 3, 0] rfl ?_
        cases h
        exact hl _ rfl
      · refine v_iload_n C 1 dX4_study_166 rfl rfl ?_
        refine v_iconst (v := 1) C dX4_study_167 (by decide) ?_
        refine v_iadd C dX4_study_168 ?_
        refine v_goto (tgt := 173) C dX4_study_169 (by decide) ?_
        refine v_istore_n C [(2, .int (x2 + 1)), (0, .ref (aM 0)), (3, .int x3), (4, .int x4), (5, .int x5_8)] dX4_study_173 rfl (by decide) rfl ?_
        refine v_iinc C [(4, .int (x4 + 1)), (2, .int (x2 + 1)), (0, .ref (aM 0)), (3, .int x3), (5, .int x5_8)] 3 dX4_study_174 rfl rfl (by decide) rfl ?_
        refine v_goto (tgt := 27) C dX4_study_177 (by decide) ?_
        refine v_perm [2, 1, 3, 0] rfl ?_
        cases h
        exact hl _ rfl
    · refine v_aload_n C 0 dX4_study_140 rfl rfl ?_
      refine v_get C 0 7 iuX4 rfl rfl (by decide) m3_60 rfl rfl dX4_study_141 ?_
      refine v_iload_n C 2 dX4_study_144 rfl rfl ?_
      refine v_lald C 6 rfl dX4_study_145 h (fun h => ?_)
      refine v_lconst (v := 1) C dX4_study_146 (by decide) ?_
      refine v_iload C 3 dX4_study_147 rfl ?_
      refine v_lshl C dX4_study_149 ?_
      refine v_lor C dX4_study_150 ?_
      refine v_goto (tgt := 160) C dX4_study_151 (by decide) ?_
      refine v_last C (wM cI cJ aM thrown_M pins_M many_M nets_M lefts_M rights_M touches_M (vp_updL below_M x3.toNatClampNeg ((below_M x3.toNatClampNeg) ||| ((1 : Int64) <<< (x4.toInt64 &&& 63)))) reach_M tracksOf_M steps_M laid_M laidMany_M tracks_M laidNet_M laidLeft_M laidRight_M laidTouch_M laidTrack_M ringSize_M ringOf_M lays_M refusals_M) 6 rfl dX4_study_160 h rfl (fun h => ?_)
      refine v_iload C 4 dX4_study_161 rfl ?_
      refine v_if_eq (tgt := 172) C dX4_study_163 (by decide) h (fun h => ?_) (fun h => ?_)
      · refine v_iload_n C 1 dX4_study_172 rfl rfl ?_
        refine v_istore_n C [(2, .int x2), (0, .ref (aM 0)), (3, .int x3), (4, .int x4), (5, .int x5_8)] dX4_study_173 rfl (by decide) rfl ?_
        refine v_iinc C [(4, .int (x4 + 1)), (2, .int x2), (0, .ref (aM 0)), (3, .int x3), (5, .int x5_8)] 3 dX4_study_174 rfl rfl (by decide) rfl ?_
        refine v_goto (tgt := 27) C dX4_study_177 (by decide) ?_
        refine v_perm [2, 1, 3, 0] rfl ?_
        cases h
        exact hl _ rfl
      · refine v_iload_n C 1 dX4_study_166 rfl rfl ?_
        refine v_iconst (v := 1) C dX4_study_167 (by decide) ?_
        refine v_iadd C dX4_study_168 ?_
        refine v_goto (tgt := 173) C dX4_study_169 (by decide) ?_
        refine v_istore_n C [(2, .int (x2 + 1)), (0, .ref (aM 0)), (3, .int x3), (4, .int x4), (5, .int x5_8)] dX4_study_173 rfl (by decide) rfl ?_
        refine v_iinc C [(4, .int (x4 + 1)), (2, .int (x2 + 1)), (0, .ref (aM 0)), (3, .int x3), (5, .int x5_8)] 3 dX4_study_174 rfl rfl (by decide) rfl ?_
        refine v_goto (tgt := 27) C dX4_study_177 (by decide) ?_
        refine v_perm [2, 1, 3, 0] rfl ?_
        cases h
        exact hl _ rfl
set_option maxHeartbeats 4000000 in
set_option maxRecDepth 100000 in
theorem t_X4_study_L27 {p : Program} {l : Launch} {e : Env} {s : State} {m : MethodId} {args : Array Value} {below : List Frame} {meth : Method} {c : Code} {D : va_G} {A : Nat → Prop} {cI cJ : ClassId} {Q : State → Prop} (C : Cx p s m args c cX4_study 9 RX4 D A cI cJ) {aM : Nat → Nat} {x3 : Int32} {thrown_M : Int32} {pins_M : (Nat → Int32)} {many_M : Int32} {nets_M : (Nat → Int32)} {lefts_M : (Nat → Int32)} {rights_M : (Nat → Int32)} {touches_M : (Nat → Int32)} {reach_M : (Nat → Int64)} {tracksOf_M : (Nat → Int32)} {steps_M : (Nat → Int32)} {laid_M : Int32} {laidMany_M : Int32} {tracks_M : Int32} {laidNet_M : (Nat → Int32)} {laidLeft_M : (Nat → Int32)} {laidRight_M : (Nat → Int32)} {laidTouch_M : (Nat → Int32)} {laidTrack_M : (Nat → Int32)} {ringSize_M : Int32} {ringOf_M : (Nat → Int32)} {lays_M : Int32} {refusals_M : Int32} {n8 : Nat} {s9 : (Int32 × Int32 × (Nat → Int64))} {o8 : (Int32 × (Nat → Int64))} (h : lp (f_X4_study_B27 x3 pins_M many_M nets_M touches_M) n8 s9 = some o8) (hk : V p l e (rmO 3 71) s m args below meth c 9 D A 0 0 Q 180 [(0, .ref (aM 0)), (2, .int o8.1), (3, .int x3)] [] (wM cI cJ aM thrown_M pins_M many_M nets_M lefts_M rights_M touches_M o8.2 reach_M tracksOf_M steps_M laid_M laidMany_M tracks_M laidNet_M laidLeft_M laidRight_M laidTouch_M laidTrack_M ringSize_M ringOf_M lays_M refusals_M)) : V p l e (rmO 3 71) s m args below meth c 9 D A 0 0 Q 27 [(0, .ref (aM 0)), (2, .int s9.1), (3, .int x3), (4, .int s9.2.1)] [] (wM cI cJ aM thrown_M pins_M many_M nets_M lefts_M rights_M touches_M s9.2.2 reach_M tracksOf_M steps_M laid_M laidMany_M tracks_M laidNet_M laidLeft_M laidRight_M laidTouch_M laidTrack_M ringSize_M ringOf_M lays_M refusals_M) := lp_ok (Pσ := fun s8 => V p l e (rmO 3 71) s m args below meth c 9 D A 0 0 Q 27 [(0, .ref (aM 0)), (2, .int s8.1), (3, .int x3), (4, .int s8.2.1)] [] (wM cI cJ aM thrown_M pins_M many_M nets_M lefts_M rights_M touches_M s8.2.2 reach_M tracksOf_M steps_M laid_M laidMany_M tracks_M laidNet_M laidLeft_M laidRight_M laidTouch_M laidTrack_M ringSize_M ringOf_M lays_M refusals_M)) (Pρ := fun r8 => V p l e (rmO 3 71) s m args below meth c 9 D A 0 0 Q 180 [(0, .ref (aM 0)), (2, .int r8.1), (3, .int x3)] [] (wM cI cJ aM thrown_M pins_M many_M nets_M lefts_M rights_M touches_M r8.2 reach_M tracksOf_M steps_M laid_M laidMany_M tracks_M laidNet_M laidLeft_M laidRight_M laidTouch_M laidTrack_M ringSize_M ringOf_M lays_M refusals_M)) (fun s o h hl hx => t_X4_study_B27 C s o h hl hx) n8 s9 o8 h hk
set_option maxHeartbeats 4000000 in
set_option maxRecDepth 100000 in
theorem t_X4_study_B9 {p : Program} {l : Launch} {e : Env} {s : State} {m : MethodId} {args : Array Value} {below : List Frame} {meth : Method} {c : Code} {D : va_G} {A : Nat → Prop} {cI cJ : ClassId} {Q : State → Prop} (C : Cx p s m args c cX4_study 9 RX4 D A cI cJ) {aM : Nat → Nat} {thrown_M : Int32} {pins_M : (Nat → Int32)} {many_M : Int32} {nets_M : (Nat → Int32)} {lefts_M : (Nat → Int32)} {rights_M : (Nat → Int32)} {touches_M : (Nat → Int32)} {reach_M : (Nat → Int64)} {tracksOf_M : (Nat → Int32)} {steps_M : (Nat → Int32)} {laid_M : Int32} {laidMany_M : Int32} {tracks_M : Int32} {laidNet_M : (Nat → Int32)} {laidLeft_M : (Nat → Int32)} {laidRight_M : (Nat → Int32)} {laidTouch_M : (Nat → Int32)} {laidTrack_M : (Nat → Int32)} {ringSize_M : Int32} {ringOf_M : (Nat → Int32)} {lays_M : Int32} {refusals_M : Int32} (s8 : (Int32 × Int32 × (Nat → Int64))) (o8 : (Int32 × Int32 × (Nat → Int64)) ⊕ (Int32 × (Nat → Int64))) (h : f_X4_study_B9 pins_M many_M nets_M touches_M s8 = some o8) (hl : ∀ s8, o8 = .inl s8 → V p l e (rmO 3 71) s m args below meth c 9 D A 0 0 Q 9 [(0, .ref (aM 0)), (2, .int s8.1), (3, .int s8.2.1)] [] (wM cI cJ aM thrown_M pins_M many_M nets_M lefts_M rights_M touches_M s8.2.2 reach_M tracksOf_M steps_M laid_M laidMany_M tracks_M laidNet_M laidLeft_M laidRight_M laidTouch_M laidTrack_M ringSize_M ringOf_M lays_M refusals_M)) (hx : ∀ r8, o8 = .inr r8 → V p l e (rmO 3 71) s m args below meth c 9 D A 0 0 Q 186 [(2, .int r8.1)] [] (wM cI cJ aM thrown_M pins_M many_M nets_M lefts_M rights_M touches_M r8.2 reach_M tracksOf_M steps_M laid_M laidMany_M tracks_M laidNet_M laidLeft_M laidRight_M laidTouch_M laidTrack_M ringSize_M ringOf_M lays_M refusals_M)) : V p l e (rmO 3 71) s m args below meth c 9 D A 0 0 Q 9 [(0, .ref (aM 0)), (2, .int s8.1), (3, .int s8.2.1)] [] (wM cI cJ aM thrown_M pins_M many_M nets_M lefts_M rights_M touches_M s8.2.2 reach_M tracksOf_M steps_M laid_M laidMany_M tracks_M laidNet_M laidLeft_M laidRight_M laidTouch_M laidTrack_M ringSize_M ringOf_M lays_M refusals_M) := by
  obtain ⟨x2, x3, below_M⟩ := s8
  unfold f_X4_study_B9 at h
  show V p l e (rmO 3 71) s m args below meth c 9 D A 0 0 Q 9 [(0, .ref (aM 0)), (2, .int x2), (3, .int x3)] [] (wM cI cJ aM thrown_M pins_M many_M nets_M lefts_M rights_M touches_M below_M reach_M tracksOf_M steps_M laid_M laidMany_M tracks_M laidNet_M laidLeft_M laidRight_M laidTouch_M laidTrack_M ringSize_M ringOf_M lays_M refusals_M)
  refine v_iload_n C 2 dX4_study_9 rfl rfl ?_
  refine v_aload_n C 0 dX4_study_10 rfl rfl ?_
  refine v_get C 0 2 iuX4 rfl rfl (by decide) m3_55 rfl rfl dX4_study_11 ?_
  refine v_icmp_ge (tgt := 186) C dX4_study_14 (by decide) h (fun h => ?_) (fun h => ?_)
  · refine v_perm [1] rfl ?_
    cases h
    exact hx _ rfl
  · refine v_aload_n C 0 dX4_study_17 rfl rfl ?_
    refine v_get C 0 7 iuX4 rfl rfl (by decide) m3_60 rfl rfl dX4_study_18 ?_
    refine v_iload_n C 2 dX4_study_21 rfl rfl ?_
    refine v_lconst (v := 0) C dX4_study_22 (by decide) ?_
    refine v_last C (wM cI cJ aM thrown_M pins_M many_M nets_M lefts_M rights_M touches_M (vp_updL below_M x3.toNatClampNeg 0) reach_M tracksOf_M steps_M laid_M laidMany_M tracks_M laidNet_M laidLeft_M laidRight_M laidTouch_M laidTrack_M ringSize_M ringOf_M lays_M refusals_M) 6 rfl dX4_study_23 h rfl (fun h => ?_)
    refine v_iconst (v := 0) C dX4_study_24 (by decide) ?_
    refine v_istore C [(4, .int 0), (0, .ref (aM 0)), (2, .int x2), (3, .int x3)] dX4_study_25 (by decide) rfl ?_
    obtain ⟨r, h1, h⟩ := bind_el h
    refine v_perm [1, 2, 3, 0] rfl ?_
    obtain ⟨x2_9, below_M_10⟩ := r
    refine t_X4_study_L27 C (s9 := (x2, 0, vp_updL below_M x3.toNatClampNeg 0)) h1 ?_
    show V p l e (rmO 3 71) s m args below meth c 9 D A 0 0 Q 180 [(0, .ref (aM 0)), (2, .int x2_9), (3, .int x3)] [] (wM cI cJ aM thrown_M pins_M many_M nets_M lefts_M rights_M touches_M below_M_10 reach_M tracksOf_M steps_M laid_M laidMany_M tracks_M laidNet_M laidLeft_M laidRight_M laidTouch_M laidTrack_M ringSize_M ringOf_M lays_M refusals_M)
    try dsimp only at h
    refine v_iinc C [(3, .int (x3 + 1)), (0, .ref (aM 0)), (2, .int x2_9)] 2 dX4_study_180 rfl rfl (by decide) rfl ?_
    refine v_goto (tgt := 9) C dX4_study_183 (by decide) ?_
    refine v_perm [1, 2, 0] rfl ?_
    cases h
    exact hl _ rfl
set_option maxHeartbeats 4000000 in
set_option maxRecDepth 100000 in
theorem t_X4_study_L9 {p : Program} {l : Launch} {e : Env} {s : State} {m : MethodId} {args : Array Value} {below : List Frame} {meth : Method} {c : Code} {D : va_G} {A : Nat → Prop} {cI cJ : ClassId} {Q : State → Prop} (C : Cx p s m args c cX4_study 9 RX4 D A cI cJ) {aM : Nat → Nat} {thrown_M : Int32} {pins_M : (Nat → Int32)} {many_M : Int32} {nets_M : (Nat → Int32)} {lefts_M : (Nat → Int32)} {rights_M : (Nat → Int32)} {touches_M : (Nat → Int32)} {reach_M : (Nat → Int64)} {tracksOf_M : (Nat → Int32)} {steps_M : (Nat → Int32)} {laid_M : Int32} {laidMany_M : Int32} {tracks_M : Int32} {laidNet_M : (Nat → Int32)} {laidLeft_M : (Nat → Int32)} {laidRight_M : (Nat → Int32)} {laidTouch_M : (Nat → Int32)} {laidTrack_M : (Nat → Int32)} {ringSize_M : Int32} {ringOf_M : (Nat → Int32)} {lays_M : Int32} {refusals_M : Int32} {n8 : Nat} {s9 : (Int32 × Int32 × (Nat → Int64))} {o8 : (Int32 × (Nat → Int64))} (h : lp (f_X4_study_B9 pins_M many_M nets_M touches_M) n8 s9 = some o8) (hk : V p l e (rmO 3 71) s m args below meth c 9 D A 0 0 Q 186 [(2, .int o8.1)] [] (wM cI cJ aM thrown_M pins_M many_M nets_M lefts_M rights_M touches_M o8.2 reach_M tracksOf_M steps_M laid_M laidMany_M tracks_M laidNet_M laidLeft_M laidRight_M laidTouch_M laidTrack_M ringSize_M ringOf_M lays_M refusals_M)) : V p l e (rmO 3 71) s m args below meth c 9 D A 0 0 Q 9 [(0, .ref (aM 0)), (2, .int s9.1), (3, .int s9.2.1)] [] (wM cI cJ aM thrown_M pins_M many_M nets_M lefts_M rights_M touches_M s9.2.2 reach_M tracksOf_M steps_M laid_M laidMany_M tracks_M laidNet_M laidLeft_M laidRight_M laidTouch_M laidTrack_M ringSize_M ringOf_M lays_M refusals_M) := lp_ok (Pσ := fun s8 => V p l e (rmO 3 71) s m args below meth c 9 D A 0 0 Q 9 [(0, .ref (aM 0)), (2, .int s8.1), (3, .int s8.2.1)] [] (wM cI cJ aM thrown_M pins_M many_M nets_M lefts_M rights_M touches_M s8.2.2 reach_M tracksOf_M steps_M laid_M laidMany_M tracks_M laidNet_M laidLeft_M laidRight_M laidTouch_M laidTrack_M ringSize_M ringOf_M lays_M refusals_M)) (Pρ := fun r8 => V p l e (rmO 3 71) s m args below meth c 9 D A 0 0 Q 186 [(2, .int r8.1)] [] (wM cI cJ aM thrown_M pins_M many_M nets_M lefts_M rights_M touches_M r8.2 reach_M tracksOf_M steps_M laid_M laidMany_M tracks_M laidNet_M laidLeft_M laidRight_M laidTouch_M laidTrack_M ringSize_M ringOf_M lays_M refusals_M)) (fun s o h hl hx => t_X4_study_B9 C s o h hl hx) n8 s9 o8 h hk
set_option maxHeartbeats 4000000 in
set_option maxRecDepth 100000 in
theorem c_X4_study (l : Launch) (D : va_G) (cI cJ : ClassId) (aM : Nat → Nat) (thrown_M : Int32) (pins_M : (Nat → Int32)) (many_M : Int32) (nets_M : (Nat → Int32)) (lefts_M : (Nat → Int32)) (rights_M : (Nat → Int32)) (touches_M : (Nat → Int32)) (below_M : (Nat → Int64)) (reach_M : (Nat → Int64)) (tracksOf_M : (Nat → Int32)) (steps_M : (Nat → Int32)) (laid_M : Int32) (laidMany_M : Int32) (tracks_M : Int32) (laidNet_M : (Nat → Int32)) (laidLeft_M : (Nat → Int32)) (laidRight_M : (Nat → Int32)) (laidTouch_M : (Nat → Int32)) (laidTrack_M : (Nat → Int32)) (ringSize_M : Int32) (ringOf_M : (Nat → Int32)) (lays_M : Int32) (refusals_M : Int32) (x1 : Int32) (r : Int32) (many_M' : Int32) (nets_M' : (Nat → Int32)) (lefts_M' : (Nat → Int32)) (rights_M' : (Nat → Int32)) (touches_M' : (Nat → Int32)) (below_M' : (Nat → Int64)) (h : f_X4_study pins_M nets_M lefts_M rights_M touches_M below_M x1 = some (r, many_M', nets_M', lefts_M', rights_M', touches_M', below_M')) : Cti l D cI cJ yX4_study cX4_study 9 (some .int) 3 71 [.ref (aM 0), .int x1] (wM cI cJ aM thrown_M pins_M many_M nets_M lefts_M rights_M touches_M below_M reach_M tracksOf_M steps_M laid_M laidMany_M tracks_M laidNet_M laidLeft_M laidRight_M laidTouch_M laidTrack_M ringSize_M ringOf_M lays_M refusals_M) (wM cI cJ aM thrown_M pins_M many_M' nets_M' lefts_M' rights_M' touches_M' below_M' reach_M tracksOf_M steps_M laid_M laidMany_M tracks_M laidNet_M laidLeft_M laidRight_M laidTouch_M laidTrack_M ringSize_M ringOf_M lays_M refusals_M) r := by
  refine mk_i [(0, .ref (aM 0)), (1, .int x1)] (by decide) rfl (Nat.le_of_ble_eq_true rfl) rfl (fun p e s m args below meth c A Q C hk => ?_)
  unfold f_X4_study at h
  refine v_aload_n C 0 dX4_study_0 rfl rfl ?_
  refine v_iload_n C 1 dX4_study_1 rfl rfl ?_
  obtain ⟨r, h1, h⟩ := bind_el h
  obtain ⟨many_M_1, nets_M_2, lefts_M_3, rights_M_4, touches_M_5⟩ := r
  try dsimp only at h
  refine v_callVv (As := [.int x1]) (st := []) (wr := []) (w1 := (wM cI cJ aM thrown_M pins_M many_M_1 nets_M_2 lefts_M_3 rights_M_4 touches_M_5 below_M reach_M tracksOf_M steps_M laid_M laidMany_M tracks_M laidNet_M laidLeft_M laidRight_M laidTouch_M laidTrack_M ringSize_M ringOf_M lays_M refusals_M)) (ws' := (wM cI cJ aM thrown_M pins_M many_M_1 nets_M_2 lefts_M_3 rights_M_4 touches_M_5 below_M reach_M tracksOf_M steps_M laid_M laidMany_M tracks_M laidNet_M laidLeft_M laidRight_M laidTouch_M laidTrack_M ringSize_M ringOf_M lays_M refusals_M)) (isC := [0, 1, 2, 3, 4, 5, 6, 7, 8, 9, 10, 11, 12, 13, 14, 15]) (isR := []) (pm := [0, 1, 2, 3, 4, 5, 6, 7, 8, 9, 10, 11, 12, 13, 14, 15]) C (c_X4_makeSegments l D cI cJ aM thrown_M pins_M many_M nets_M lefts_M rights_M touches_M below_M reach_M tracksOf_M steps_M laid_M laidMany_M tracks_M laidNet_M laidLeft_M laidRight_M laidTouch_M laidTrack_M ringSize_M ringOf_M lays_M refusals_M x1 many_M_1 nets_M_2 lefts_M_3 rights_M_4 touches_M_5 h1) cw_X4_makeSegments 0 rfl rfl m3_168 dX4_study_2 rfl ⟨Nat.le_of_ble_eq_true rfl, Nat.le_of_ble_eq_true rfl⟩ (Nat.le_of_ble_eq_true rfl) ⟨Nat.le_refl 0, Nat.le_refl 0⟩ ⟨rfl, rfl, rfl, rfl, by decide, rfl, rfl⟩ ?_
  refine v_iconst (v := 0) C dX4_study_5 (by decide) ?_
  refine v_istore_n C [(2, .int 0), (0, .ref (aM 0)), (1, .int x1)] dX4_study_6 rfl (by decide) rfl ?_
  refine v_iconst (v := 0) C dX4_study_7 (by decide) ?_
  refine v_istore_n C [(3, .int 0), (2, .int 0), (0, .ref (aM 0)), (1, .int x1)] dX4_study_8 rfl (by decide) rfl ?_
  obtain ⟨r, h1, h⟩ := bind_el h
  refine v_perm [2, 1, 0] rfl ?_
  obtain ⟨x2_11, below_M_12⟩ := r
  refine t_X4_study_L9 C (s9 := (0, 0, below_M)) h1 ?_
  show V p l e (rmO 3 71) s m args below meth c 9 D A 0 0 Q 186 [(2, .int x2_11)] [] (wM cI cJ aM thrown_M pins_M many_M_1 nets_M_2 lefts_M_3 rights_M_4 touches_M_5 below_M_12 reach_M tracksOf_M steps_M laid_M laidMany_M tracks_M laidNet_M laidLeft_M laidRight_M laidTouch_M laidTrack_M ringSize_M ringOf_M lays_M refusals_M)
  try dsimp only at h
  refine v_iload_n C 0 dX4_study_186 rfl rfl ?_
  cases h
  exact hk _ _ dX4_study_187
def f_X4_has (x0 : Int64) (x2 : Int32) : Option Int32 := if (lg_cmp ((x0 >>> (x2.toInt64 &&& 63)) &&& 1) 1) = 0 then (some 1) else (some 0)
theorem cw_X4_has : CWs yX4_has cX4_has 3 (some .boolean) 2 := ⟨m3_189, m1_5, m3_190, by decide, by decide, by decide +kernel⟩
set_option maxHeartbeats 4000000 in
set_option maxRecDepth 100000 in
theorem c_X4_has (l : Launch) (D : va_G) (cI cJ : ClassId) (x0 : Int64) (x2 : Int32) (r : Int32) (h : f_X4_has x0 x2 = some r) : Cti l D cI cJ yX4_has cX4_has 3 (some .boolean) 0 0 [.long x0, .int x2] [] [] r := by
  refine mk_z [(0, .long x0), (2, .int x2)] (by decide) rfl (Nat.le_of_ble_eq_true rfl) rfl (fun p e s m args below meth c A Q C hk => ?_)
  unfold f_X4_has at h
  refine v_lload_n C 0 dX4_has_0 rfl rfl ?_
  refine v_iload_n C 1 dX4_has_1 rfl rfl ?_
  refine v_lshr C dX4_has_2 ?_
  refine v_lconst (v := 1) C dX4_has_3 (by decide) ?_
  refine v_land C dX4_has_4 ?_
  refine v_lconst (v := 1) C dX4_has_5 (by decide) ?_
  refine v_lcmp C dX4_has_6 ?_
  refine v_if_ne (tgt := 14) C dX4_has_7 (by decide) h (fun h => ?_) (fun h => ?_)
  · refine v_iconst (v := 1) C dX4_has_10 (by decide) ?_
    refine v_goto (tgt := 15) C dX4_has_11 (by decide) ?_
    cases h
    exact hk _ _ dX4_has_15 (Or.inr rfl)
  · refine v_iconst (v := 0) C dX4_has_14 (by decide) ?_
    cases h
    exact hk _ _ dX4_has_15 (Or.inl rfl)
def f_X4_inRing_B2 (many_M : Int32) (below_M : (Nat → Int64)) : (Int32 × (Nat → Int64)) → Option ((Int32 × (Nat → Int64)) ⊕ (Nat → Int64))
  | (x1, reach_M) => if many_M ≤ x1 then (some (.inr reach_M)) else (bnd x1 40 (bnd x1 40 (some (.inl ((x1 + 1, vp_updL reach_M x1.toNatClampNeg (below_M x1.toNatClampNeg)))))))
def f_X4_inRing_B40 (x1 : Int32) (many_M : Int32) : (Int32 × (Nat → Int64)) → Option ((Int32 × (Nat → Int64)) ⊕ (Nat → Int64))
  | (x2, reach_M) => if many_M ≤ x2 then (some (.inr reach_M)) else (bnd x2 40 ((f_X4_has (reach_M x2.toNatClampNeg) x1).bind (fun r => match r with | r_2 => if r_2 = 0 then (bnd x2 40 (bnd x2 40 (some (.inl ((x2 + 1, vp_updL reach_M x2.toNatClampNeg (reach_M x2.toNatClampNeg))))))) else (bnd x2 40 (bnd x1 40 (bnd x2 40 (some (.inl ((x2 + 1, vp_updL reach_M x2.toNatClampNeg ((reach_M x2.toNatClampNeg) ||| (reach_M x1.toNatClampNeg))))))))))))
def f_X4_inRing_B30 (many_M : Int32) : (Int32 × (Nat → Int64)) → Option ((Int32 × (Nat → Int64)) ⊕ (Nat → Int64))
  | (x1, reach_M) => if many_M ≤ x1 then (some (.inr reach_M)) else ((lp (f_X4_inRing_B40 x1 many_M) 64 (0, reach_M)).bind (fun r => match r with | reach_M_3 => some (.inl (x1 + 1, reach_M_3))))
def f_X4_inRing_B110 (reach_M : (Nat → Int64)) : (Int32 × Int32) → Option ((Int32 × Int32) ⊕ Int32)
  | (x1, x2) => if x2 < 0 then (some (.inr x1)) else (bnd x2 40 ((f_X4_has (reach_M x2.toNatClampNeg) x2).bind (fun r => match r with | r_5 => if r_5 = 0 then (some (.inl ((x1, x2 + (-1))))) else (some (.inl ((x2, x2 + (-1))))))))
def f_X4_inRing (many_M : Int32) (below_M : (Nat → Int64)) (reach_M : (Nat → Int64)) : Option (Int32 × (Nat → Int64)) := (lp (f_X4_inRing_B2 many_M below_M) 64 (0, reach_M)).bind (fun r => match r with | reach_M_1 => (lp (f_X4_inRing_B30 many_M) 64 (0, reach_M_1)).bind (fun r => match r with | reach_M_4 => (lp (f_X4_inRing_B110 reach_M_4) 64 (((-1), many_M - 1))).bind (fun r => match r with | x1_6 => some (x1_6, reach_M_4))))
theorem cw_X4_inRing : CWv yX4_inRing cX4_inRing 3 (some .int) RX4 0 := ⟨m3_186, ms4_5, m1_5, m3_187, rfl, by decide, by decide, by decide +kernel⟩
set_option maxHeartbeats 4000000 in
set_option maxRecDepth 100000 in
theorem t_X4_inRing_B2 {p : Program} {l : Launch} {e : Env} {s : State} {m : MethodId} {args : Array Value} {below : List Frame} {meth : Method} {c : Code} {D : va_G} {A : Nat → Prop} {cI cJ : ClassId} {Q : State → Prop} (C : Cx p s m args c cX4_inRing 3 RX4 D A cI cJ) {aM : Nat → Nat} {thrown_M : Int32} {pins_M : (Nat → Int32)} {many_M : Int32} {nets_M : (Nat → Int32)} {lefts_M : (Nat → Int32)} {rights_M : (Nat → Int32)} {touches_M : (Nat → Int32)} {below_M : (Nat → Int64)} {tracksOf_M : (Nat → Int32)} {steps_M : (Nat → Int32)} {laid_M : Int32} {laidMany_M : Int32} {tracks_M : Int32} {laidNet_M : (Nat → Int32)} {laidLeft_M : (Nat → Int32)} {laidRight_M : (Nat → Int32)} {laidTouch_M : (Nat → Int32)} {laidTrack_M : (Nat → Int32)} {ringSize_M : Int32} {ringOf_M : (Nat → Int32)} {lays_M : Int32} {refusals_M : Int32} (s8 : (Int32 × (Nat → Int64))) (o8 : (Int32 × (Nat → Int64)) ⊕ (Nat → Int64)) (h : f_X4_inRing_B2 many_M below_M s8 = some o8) (hl : ∀ s8, o8 = .inl s8 → V p l e (rmO 1 22) s m args below meth c 3 D A 0 0 Q 2 [(0, .ref (aM 0)), (1, .int s8.1)] [] (wM cI cJ aM thrown_M pins_M many_M nets_M lefts_M rights_M touches_M below_M s8.2 tracksOf_M steps_M laid_M laidMany_M tracks_M laidNet_M laidLeft_M laidRight_M laidTouch_M laidTrack_M ringSize_M ringOf_M lays_M refusals_M)) (hx : ∀ r8, o8 = .inr r8 → V p l e (rmO 1 22) s m args below meth c 3 D A 0 0 Q 28 [(0, .ref (aM 0))] [] (wM cI cJ aM thrown_M pins_M many_M nets_M lefts_M rights_M touches_M below_M r8 tracksOf_M steps_M laid_M laidMany_M tracks_M laidNet_M laidLeft_M laidRight_M laidTouch_M laidTrack_M ringSize_M ringOf_M lays_M refusals_M)) : V p l e (rmO 1 22) s m args below meth c 3 D A 0 0 Q 2 [(0, .ref (aM 0)), (1, .int s8.1)] [] (wM cI cJ aM thrown_M pins_M many_M nets_M lefts_M rights_M touches_M below_M s8.2 tracksOf_M steps_M laid_M laidMany_M tracks_M laidNet_M laidLeft_M laidRight_M laidTouch_M laidTrack_M ringSize_M ringOf_M lays_M refusals_M) := by
  obtain ⟨x1, reach_M⟩ := s8
  unfold f_X4_inRing_B2 at h
  show V p l e (rmO 1 22) s m args below meth c 3 D A 0 0 Q 2 [(0, .ref (aM 0)), (1, .int x1)] [] (wM cI cJ aM thrown_M pins_M many_M nets_M lefts_M rights_M touches_M below_M reach_M tracksOf_M steps_M laid_M laidMany_M tracks_M laidNet_M laidLeft_M laidRight_M laidTouch_M laidTrack_M ringSize_M ringOf_M lays_M refusals_M)
  refine v_iload_n C 1 dX4_inRing_2 rfl rfl ?_
  refine v_aload_n C 0 dX4_inRing_3 rfl rfl ?_
  refine v_get C 0 2 iuX4 rfl rfl (by decide) m3_55 rfl rfl dX4_inRing_4 ?_
  refine v_icmp_ge (tgt := 28) C dX4_inRing_7 (by decide) h (fun h => ?_) (fun h => ?_)
  · refine v_perm [0] rfl ?_
    cases h
    exact hx _ rfl
  · refine v_aload_n C 0 dX4_inRing_10 rfl rfl ?_
    refine v_get C 0 8 iuX4 rfl rfl (by decide) m3_61 rfl rfl dX4_inRing_11 ?_
    refine v_iload_n C 1 dX4_inRing_14 rfl rfl ?_
    refine v_aload_n C 0 dX4_inRing_15 rfl rfl ?_
    refine v_get C 0 7 iuX4 rfl rfl (by decide) m3_60 rfl rfl dX4_inRing_16 ?_
    refine v_iload_n C 1 dX4_inRing_19 rfl rfl ?_
    refine v_lald C 6 rfl dX4_inRing_20 h (fun h => ?_)
    refine v_last C (wM cI cJ aM thrown_M pins_M many_M nets_M lefts_M rights_M touches_M below_M (vp_updL reach_M x1.toNatClampNeg (below_M x1.toNatClampNeg)) tracksOf_M steps_M laid_M laidMany_M tracks_M laidNet_M laidLeft_M laidRight_M laidTouch_M laidTrack_M ringSize_M ringOf_M lays_M refusals_M) 7 rfl dX4_inRing_21 h rfl (fun h => ?_)
    refine v_iinc C [(1, .int (x1 + 1)), (0, .ref (aM 0))] 1 dX4_inRing_22 rfl rfl (by decide) rfl ?_
    refine v_goto (tgt := 2) C dX4_inRing_25 (by decide) ?_
    refine v_perm [1, 0] rfl ?_
    cases h
    exact hl _ rfl
set_option maxHeartbeats 4000000 in
set_option maxRecDepth 100000 in
theorem t_X4_inRing_L2 {p : Program} {l : Launch} {e : Env} {s : State} {m : MethodId} {args : Array Value} {below : List Frame} {meth : Method} {c : Code} {D : va_G} {A : Nat → Prop} {cI cJ : ClassId} {Q : State → Prop} (C : Cx p s m args c cX4_inRing 3 RX4 D A cI cJ) {aM : Nat → Nat} {thrown_M : Int32} {pins_M : (Nat → Int32)} {many_M : Int32} {nets_M : (Nat → Int32)} {lefts_M : (Nat → Int32)} {rights_M : (Nat → Int32)} {touches_M : (Nat → Int32)} {below_M : (Nat → Int64)} {tracksOf_M : (Nat → Int32)} {steps_M : (Nat → Int32)} {laid_M : Int32} {laidMany_M : Int32} {tracks_M : Int32} {laidNet_M : (Nat → Int32)} {laidLeft_M : (Nat → Int32)} {laidRight_M : (Nat → Int32)} {laidTouch_M : (Nat → Int32)} {laidTrack_M : (Nat → Int32)} {ringSize_M : Int32} {ringOf_M : (Nat → Int32)} {lays_M : Int32} {refusals_M : Int32} {n8 : Nat} {s9 : (Int32 × (Nat → Int64))} {o8 : (Nat → Int64)} (h : lp (f_X4_inRing_B2 many_M below_M) n8 s9 = some o8) (hk : V p l e (rmO 1 22) s m args below meth c 3 D A 0 0 Q 28 [(0, .ref (aM 0))] [] (wM cI cJ aM thrown_M pins_M many_M nets_M lefts_M rights_M touches_M below_M o8 tracksOf_M steps_M laid_M laidMany_M tracks_M laidNet_M laidLeft_M laidRight_M laidTouch_M laidTrack_M ringSize_M ringOf_M lays_M refusals_M)) : V p l e (rmO 1 22) s m args below meth c 3 D A 0 0 Q 2 [(0, .ref (aM 0)), (1, .int s9.1)] [] (wM cI cJ aM thrown_M pins_M many_M nets_M lefts_M rights_M touches_M below_M s9.2 tracksOf_M steps_M laid_M laidMany_M tracks_M laidNet_M laidLeft_M laidRight_M laidTouch_M laidTrack_M ringSize_M ringOf_M lays_M refusals_M) := lp_ok (Pσ := fun s8 => V p l e (rmO 1 22) s m args below meth c 3 D A 0 0 Q 2 [(0, .ref (aM 0)), (1, .int s8.1)] [] (wM cI cJ aM thrown_M pins_M many_M nets_M lefts_M rights_M touches_M below_M s8.2 tracksOf_M steps_M laid_M laidMany_M tracks_M laidNet_M laidLeft_M laidRight_M laidTouch_M laidTrack_M ringSize_M ringOf_M lays_M refusals_M)) (Pρ := fun r8 => V p l e (rmO 1 22) s m args below meth c 3 D A 0 0 Q 28 [(0, .ref (aM 0))] [] (wM cI cJ aM thrown_M pins_M many_M nets_M lefts_M rights_M touches_M below_M r8 tracksOf_M steps_M laid_M laidMany_M tracks_M laidNet_M laidLeft_M laidRight_M laidTouch_M laidTrack_M ringSize_M ringOf_M lays_M refusals_M)) (fun s o h hl hx => t_X4_inRing_B2 C s o h hl hx) n8 s9 o8 h hk
set_option maxHeartbeats 4000000 in
set_option maxRecDepth 100000 in
theorem t_X4_inRing_B40 {p : Program} {l : Launch} {e : Env} {s : State} {m : MethodId} {args : Array Value} {below : List Frame} {meth : Method} {c : Code} {D : va_G} {A : Nat → Prop} {cI cJ : ClassId} {Q : State → Prop} (C : Cx p s m args c cX4_inRing 3 RX4 D A cI cJ) {aM : Nat → Nat} {x1 : Int32} {thrown_M : Int32} {pins_M : (Nat → Int32)} {many_M : Int32} {nets_M : (Nat → Int32)} {lefts_M : (Nat → Int32)} {rights_M : (Nat → Int32)} {touches_M : (Nat → Int32)} {below_M : (Nat → Int64)} {tracksOf_M : (Nat → Int32)} {steps_M : (Nat → Int32)} {laid_M : Int32} {laidMany_M : Int32} {tracks_M : Int32} {laidNet_M : (Nat → Int32)} {laidLeft_M : (Nat → Int32)} {laidRight_M : (Nat → Int32)} {laidTouch_M : (Nat → Int32)} {laidTrack_M : (Nat → Int32)} {ringSize_M : Int32} {ringOf_M : (Nat → Int32)} {lays_M : Int32} {refusals_M : Int32} (s8 : (Int32 × (Nat → Int64))) (o8 : (Int32 × (Nat → Int64)) ⊕ (Nat → Int64)) (h : f_X4_inRing_B40 x1 many_M s8 = some o8) (hl : ∀ s8, o8 = .inl s8 → V p l e (rmO 1 22) s m args below meth c 3 D A 0 0 Q 40 [(0, .ref (aM 0)), (1, .int x1), (2, .int s8.1)] [] (wM cI cJ aM thrown_M pins_M many_M nets_M lefts_M rights_M touches_M below_M s8.2 tracksOf_M steps_M laid_M laidMany_M tracks_M laidNet_M laidLeft_M laidRight_M laidTouch_M laidTrack_M ringSize_M ringOf_M lays_M refusals_M)) (hx : ∀ r8, o8 = .inr r8 → V p l e (rmO 1 22) s m args below meth c 3 D A 0 0 Q 95 [(0, .ref (aM 0)), (1, .int x1)] [] (wM cI cJ aM thrown_M pins_M many_M nets_M lefts_M rights_M touches_M below_M r8 tracksOf_M steps_M laid_M laidMany_M tracks_M laidNet_M laidLeft_M laidRight_M laidTouch_M laidTrack_M ringSize_M ringOf_M lays_M refusals_M)) : V p l e (rmO 1 22) s m args below meth c 3 D A 0 0 Q 40 [(0, .ref (aM 0)), (1, .int x1), (2, .int s8.1)] [] (wM cI cJ aM thrown_M pins_M many_M nets_M lefts_M rights_M touches_M below_M s8.2 tracksOf_M steps_M laid_M laidMany_M tracks_M laidNet_M laidLeft_M laidRight_M laidTouch_M laidTrack_M ringSize_M ringOf_M lays_M refusals_M) := by
  obtain ⟨x2, reach_M⟩ := s8
  unfold f_X4_inRing_B40 at h
  show V p l e (rmO 1 22) s m args below meth c 3 D A 0 0 Q 40 [(0, .ref (aM 0)), (1, .int x1), (2, .int x2)] [] (wM cI cJ aM thrown_M pins_M many_M nets_M lefts_M rights_M touches_M below_M reach_M tracksOf_M steps_M laid_M laidMany_M tracks_M laidNet_M laidLeft_M laidRight_M laidTouch_M laidTrack_M ringSize_M ringOf_M lays_M refusals_M)
  refine v_iload_n C 2 dX4_inRing_40 rfl rfl ?_
  refine v_aload_n C 0 dX4_inRing_41 rfl rfl ?_
  refine v_get C 0 2 iuX4 rfl rfl (by decide) m3_55 rfl rfl dX4_inRing_42 ?_
  refine v_icmp_ge (tgt := 95) C dX4_inRing_45 (by decide) h (fun h => ?_) (fun h => ?_)
  · refine v_perm [0, 1] rfl ?_
    cases h
    exact hx _ rfl
  · refine v_aload_n C 0 dX4_inRing_48 rfl rfl ?_
    refine v_get C 0 8 iuX4 rfl rfl (by decide) m3_61 rfl rfl dX4_inRing_49 ?_
    refine v_iload_n C 2 dX4_inRing_52 rfl rfl ?_
    refine v_aload_n C 0 dX4_inRing_53 rfl rfl ?_
    refine v_get C 0 8 iuX4 rfl rfl (by decide) m3_61 rfl rfl dX4_inRing_54 ?_
    refine v_iload_n C 2 dX4_inRing_57 rfl rfl ?_
    refine v_lald C 7 rfl dX4_inRing_58 h (fun h => ?_)
    refine v_iload_n C 1 dX4_inRing_59 rfl rfl ?_
    obtain ⟨r, h1, h⟩ := bind_el h
    obtain ⟨r_2, rfl⟩ : ∃ z, z = r := ⟨_, rfl⟩
    try dsimp only at h
    refine v_callSi (As := [.long (reach_M x2.toNatClampNeg), .int x1]) (st := [.int x2, .ref (aM 7)]) (wr := [(aM 0, .inr (4, [.int thrown_M, .ref (aM 1), .int many_M, .ref (aM 2), .ref (aM 3), .ref (aM 4), .ref (aM 5), .ref (aM 6), .ref (aM 7), .ref (aM 8), .ref (aM 9), .int laid_M, .int laidMany_M, .int tracks_M, .ref (aM 10), .ref (aM 11), .ref (aM 12), .ref (aM 13), .ref (aM 14), .int ringSize_M, .ref (aM 15), .int lays_M, .int refusals_M])), (aM 1, .inl (cI, 40, .inl pins_M)), (aM 2, .inl (cI, 40, .inl nets_M)), (aM 3, .inl (cI, 40, .inl lefts_M)), (aM 4, .inl (cI, 40, .inl rights_M)), (aM 5, .inl (cI, 40, .inl touches_M)), (aM 6, .inl (cJ, 40, .inr (.inl below_M))), (aM 7, .inl (cJ, 40, .inr (.inl reach_M))), (aM 8, .inl (cI, 40, .inl tracksOf_M)), (aM 9, .inl (cI, 40, .inl steps_M)), (aM 10, .inl (cI, 40, .inl laidNet_M)), (aM 11, .inl (cI, 40, .inl laidLeft_M)), (aM 12, .inl (cI, 40, .inl laidRight_M)), (aM 13, .inl (cI, 40, .inl laidTouch_M)), (aM 14, .inl (cI, 40, .inl laidTrack_M)), (aM 15, .inl (cI, 40, .inl ringOf_M))]) (w1 := []) (ws' := (wM cI cJ aM thrown_M pins_M many_M nets_M lefts_M rights_M touches_M below_M reach_M tracksOf_M steps_M laid_M laidMany_M tracks_M laidNet_M laidLeft_M laidRight_M laidTouch_M laidTrack_M ringSize_M ringOf_M lays_M refusals_M)) (isC := []) (isR := [0, 1, 2, 3, 4, 5, 6, 7, 8, 9, 10, 11, 12, 13, 14, 15]) (pm := [0, 1, 2, 3, 4, 5, 6, 7, 8, 9, 10, 11, 12, 13, 14, 15]) C (c_X4_has l D cI cJ (reach_M x2.toNatClampNeg) x1 r_2 h1) cw_X4_has m3_188 dX4_inRing_60 rfl ⟨Nat.le_of_ble_eq_true rfl, Nat.le_of_ble_eq_true rfl⟩ (Nat.le_of_ble_eq_true rfl) ⟨Nat.le_refl 0, Nat.le_refl 0⟩ ⟨rfl, rfl, rfl, rfl, by decide, rfl, rfl⟩ ?_
    refine v_if_eq (tgt := 82) C dX4_inRing_63 (by decide) h (fun h => ?_) (fun h => ?_)
    · refine v_aload_n C 0 dX4_inRing_82 rfl rfl ?_
      refine v_get C 0 8 iuX4 rfl rfl (by decide) m3_61 rfl rfl dX4_inRing_83 ?_
      refine v_iload_n C 2 dX4_inRing_86 rfl rfl ?_
      refine v_lald C 7 rfl dX4_inRing_87 h (fun h => ?_)
      refine v_last C (wM cI cJ aM thrown_M pins_M many_M nets_M lefts_M rights_M touches_M below_M (vp_updL reach_M x2.toNatClampNeg (reach_M x2.toNatClampNeg)) tracksOf_M steps_M laid_M laidMany_M tracks_M laidNet_M laidLeft_M laidRight_M laidTouch_M laidTrack_M ringSize_M ringOf_M lays_M refusals_M) 7 rfl dX4_inRing_88 h rfl (fun h => ?_)
      refine v_iinc C [(2, .int (x2 + 1)), (0, .ref (aM 0)), (1, .int x1)] 2 dX4_inRing_89 rfl rfl (by decide) rfl ?_
      refine v_goto (tgt := 40) C dX4_inRing_92 (by decide) ?_
      refine v_perm [1, 2, 0] rfl ?_
      cases h
      exact hl _ rfl
    · refine v_aload_n C 0 dX4_inRing_66 rfl rfl ?_
      refine v_get C 0 8 iuX4 rfl rfl (by decide) m3_61 rfl rfl dX4_inRing_67 ?_
      refine v_iload_n C 2 dX4_inRing_70 rfl rfl ?_
      refine v_lald C 7 rfl dX4_inRing_71 h (fun h => ?_)
      refine v_aload_n C 0 dX4_inRing_72 rfl rfl ?_
      refine v_get C 0 8 iuX4 rfl rfl (by decide) m3_61 rfl rfl dX4_inRing_73 ?_
      refine v_iload_n C 1 dX4_inRing_76 rfl rfl ?_
      refine v_lald C 7 rfl dX4_inRing_77 h (fun h => ?_)
      refine v_lor C dX4_inRing_78 ?_
      refine v_goto (tgt := 88) C dX4_inRing_79 (by decide) ?_
      refine v_last C (wM cI cJ aM thrown_M pins_M many_M nets_M lefts_M rights_M touches_M below_M (vp_updL reach_M x2.toNatClampNeg ((reach_M x2.toNatClampNeg) ||| (reach_M x1.toNatClampNeg))) tracksOf_M steps_M laid_M laidMany_M tracks_M laidNet_M laidLeft_M laidRight_M laidTouch_M laidTrack_M ringSize_M ringOf_M lays_M refusals_M) 7 rfl dX4_inRing_88 h rfl (fun h => ?_)
      refine v_iinc C [(2, .int (x2 + 1)), (0, .ref (aM 0)), (1, .int x1)] 2 dX4_inRing_89 rfl rfl (by decide) rfl ?_
      refine v_goto (tgt := 40) C dX4_inRing_92 (by decide) ?_
      refine v_perm [1, 2, 0] rfl ?_
      cases h
      exact hl _ rfl
set_option maxHeartbeats 4000000 in
set_option maxRecDepth 100000 in
theorem t_X4_inRing_L40 {p : Program} {l : Launch} {e : Env} {s : State} {m : MethodId} {args : Array Value} {below : List Frame} {meth : Method} {c : Code} {D : va_G} {A : Nat → Prop} {cI cJ : ClassId} {Q : State → Prop} (C : Cx p s m args c cX4_inRing 3 RX4 D A cI cJ) {aM : Nat → Nat} {x1 : Int32} {thrown_M : Int32} {pins_M : (Nat → Int32)} {many_M : Int32} {nets_M : (Nat → Int32)} {lefts_M : (Nat → Int32)} {rights_M : (Nat → Int32)} {touches_M : (Nat → Int32)} {below_M : (Nat → Int64)} {tracksOf_M : (Nat → Int32)} {steps_M : (Nat → Int32)} {laid_M : Int32} {laidMany_M : Int32} {tracks_M : Int32} {laidNet_M : (Nat → Int32)} {laidLeft_M : (Nat → Int32)} {laidRight_M : (Nat → Int32)} {laidTouch_M : (Nat → Int32)} {laidTrack_M : (Nat → Int32)} {ringSize_M : Int32} {ringOf_M : (Nat → Int32)} {lays_M : Int32} {refusals_M : Int32} {n8 : Nat} {s9 : (Int32 × (Nat → Int64))} {o8 : (Nat → Int64)} (h : lp (f_X4_inRing_B40 x1 many_M) n8 s9 = some o8) (hk : V p l e (rmO 1 22) s m args below meth c 3 D A 0 0 Q 95 [(0, .ref (aM 0)), (1, .int x1)] [] (wM cI cJ aM thrown_M pins_M many_M nets_M lefts_M rights_M touches_M below_M o8 tracksOf_M steps_M laid_M laidMany_M tracks_M laidNet_M laidLeft_M laidRight_M laidTouch_M laidTrack_M ringSize_M ringOf_M lays_M refusals_M)) : V p l e (rmO 1 22) s m args below meth c 3 D A 0 0 Q 40 [(0, .ref (aM 0)), (1, .int x1), (2, .int s9.1)] [] (wM cI cJ aM thrown_M pins_M many_M nets_M lefts_M rights_M touches_M below_M s9.2 tracksOf_M steps_M laid_M laidMany_M tracks_M laidNet_M laidLeft_M laidRight_M laidTouch_M laidTrack_M ringSize_M ringOf_M lays_M refusals_M) := lp_ok (Pσ := fun s8 => V p l e (rmO 1 22) s m args below meth c 3 D A 0 0 Q 40 [(0, .ref (aM 0)), (1, .int x1), (2, .int s8.1)] [] (wM cI cJ aM thrown_M pins_M many_M nets_M lefts_M rights_M touches_M below_M s8.2 tracksOf_M steps_M laid_M laidMany_M tracks_M laidNet_M laidLeft_M laidRight_M laidTouch_M laidTrack_M ringSize_M ringOf_M lays_M refusals_M)) (Pρ := fun r8 => V p l e (rmO 1 22) s m args below meth c 3 D A 0 0 Q 95 [(0, .ref (aM 0)), (1, .int x1)] [] (wM cI cJ aM thrown_M pins_M many_M nets_M lefts_M rights_M touches_M below_M r8 tracksOf_M steps_M laid_M laidMany_M tracks_M laidNet_M laidLeft_M laidRight_M laidTouch_M laidTrack_M ringSize_M ringOf_M lays_M refusals_M)) (fun s o h hl hx => t_X4_inRing_B40 C s o h hl hx) n8 s9 o8 h hk
set_option maxHeartbeats 4000000 in
set_option maxRecDepth 100000 in
theorem t_X4_inRing_B30 {p : Program} {l : Launch} {e : Env} {s : State} {m : MethodId} {args : Array Value} {below : List Frame} {meth : Method} {c : Code} {D : va_G} {A : Nat → Prop} {cI cJ : ClassId} {Q : State → Prop} (C : Cx p s m args c cX4_inRing 3 RX4 D A cI cJ) {aM : Nat → Nat} {thrown_M : Int32} {pins_M : (Nat → Int32)} {many_M : Int32} {nets_M : (Nat → Int32)} {lefts_M : (Nat → Int32)} {rights_M : (Nat → Int32)} {touches_M : (Nat → Int32)} {below_M : (Nat → Int64)} {tracksOf_M : (Nat → Int32)} {steps_M : (Nat → Int32)} {laid_M : Int32} {laidMany_M : Int32} {tracks_M : Int32} {laidNet_M : (Nat → Int32)} {laidLeft_M : (Nat → Int32)} {laidRight_M : (Nat → Int32)} {laidTouch_M : (Nat → Int32)} {laidTrack_M : (Nat → Int32)} {ringSize_M : Int32} {ringOf_M : (Nat → Int32)} {lays_M : Int32} {refusals_M : Int32} (s8 : (Int32 × (Nat → Int64))) (o8 : (Int32 × (Nat → Int64)) ⊕ (Nat → Int64)) (h : f_X4_inRing_B30 many_M s8 = some o8) (hl : ∀ s8, o8 = .inl s8 → V p l e (rmO 1 22) s m args below meth c 3 D A 0 0 Q 30 [(0, .ref (aM 0)), (1, .int s8.1)] [] (wM cI cJ aM thrown_M pins_M many_M nets_M lefts_M rights_M touches_M below_M s8.2 tracksOf_M steps_M laid_M laidMany_M tracks_M laidNet_M laidLeft_M laidRight_M laidTouch_M laidTrack_M ringSize_M ringOf_M lays_M refusals_M)) (hx : ∀ r8, o8 = .inr r8 → V p l e (rmO 1 22) s m args below meth c 3 D A 0 0 Q 101 [(0, .ref (aM 0))] [] (wM cI cJ aM thrown_M pins_M many_M nets_M lefts_M rights_M touches_M below_M r8 tracksOf_M steps_M laid_M laidMany_M tracks_M laidNet_M laidLeft_M laidRight_M laidTouch_M laidTrack_M ringSize_M ringOf_M lays_M refusals_M)) : V p l e (rmO 1 22) s m args below meth c 3 D A 0 0 Q 30 [(0, .ref (aM 0)), (1, .int s8.1)] [] (wM cI cJ aM thrown_M pins_M many_M nets_M lefts_M rights_M touches_M below_M s8.2 tracksOf_M steps_M laid_M laidMany_M tracks_M laidNet_M laidLeft_M laidRight_M laidTouch_M laidTrack_M ringSize_M ringOf_M lays_M refusals_M) := by
  obtain ⟨x1, reach_M⟩ := s8
  unfold f_X4_inRing_B30 at h
  show V p l e (rmO 1 22) s m args below meth c 3 D A 0 0 Q 30 [(0, .ref (aM 0)), (1, .int x1)] [] (wM cI cJ aM thrown_M pins_M many_M nets_M lefts_M rights_M touches_M below_M reach_M tracksOf_M steps_M laid_M laidMany_M tracks_M laidNet_M laidLeft_M laidRight_M laidTouch_M laidTrack_M ringSize_M ringOf_M lays_M refusals_M)
  refine v_iload_n C 1 dX4_inRing_30 rfl rfl ?_
  refine v_aload_n C 0 dX4_inRing_31 rfl rfl ?_
  refine v_get C 0 2 iuX4 rfl rfl (by decide) m3_55 rfl rfl dX4_inRing_32 ?_
  refine v_icmp_ge (tgt := 101) C dX4_inRing_35 (by decide) h (fun h => ?_) (fun h => ?_)
  · refine v_perm [0] rfl ?_
    cases h
    exact hx _ rfl
  · refine v_iconst (v := 0) C dX4_inRing_38 (by decide) ?_
    refine v_istore_n C [(2, .int 0), (0, .ref (aM 0)), (1, .int x1)] dX4_inRing_39 rfl (by decide) rfl ?_
    obtain ⟨r, h1, h⟩ := bind_el h
    refine v_perm [1, 2, 0] rfl ?_
    obtain ⟨reach_M_3, rfl⟩ : ∃ z, z = r := ⟨_, rfl⟩
    refine t_X4_inRing_L40 C (s9 := (0, reach_M)) h1 ?_
    show V p l e (rmO 1 22) s m args below meth c 3 D A 0 0 Q 95 [(0, .ref (aM 0)), (1, .int x1)] [] (wM cI cJ aM thrown_M pins_M many_M nets_M lefts_M rights_M touches_M below_M reach_M_3 tracksOf_M steps_M laid_M laidMany_M tracks_M laidNet_M laidLeft_M laidRight_M laidTouch_M laidTrack_M ringSize_M ringOf_M lays_M refusals_M)
    try dsimp only at h
    refine v_iinc C [(1, .int (x1 + 1)), (0, .ref (aM 0))] 1 dX4_inRing_95 rfl rfl (by decide) rfl ?_
    refine v_goto (tgt := 30) C dX4_inRing_98 (by decide) ?_
    refine v_perm [1, 0] rfl ?_
    cases h
    exact hl _ rfl
set_option maxHeartbeats 4000000 in
set_option maxRecDepth 100000 in
theorem t_X4_inRing_L30 {p : Program} {l : Launch} {e : Env} {s : State} {m : MethodId} {args : Array Value} {below : List Frame} {meth : Method} {c : Code} {D : va_G} {A : Nat → Prop} {cI cJ : ClassId} {Q : State → Prop} (C : Cx p s m args c cX4_inRing 3 RX4 D A cI cJ) {aM : Nat → Nat} {thrown_M : Int32} {pins_M : (Nat → Int32)} {many_M : Int32} {nets_M : (Nat → Int32)} {lefts_M : (Nat → Int32)} {rights_M : (Nat → Int32)} {touches_M : (Nat → Int32)} {below_M : (Nat → Int64)} {tracksOf_M : (Nat → Int32)} {steps_M : (Nat → Int32)} {laid_M : Int32} {laidMany_M : Int32} {tracks_M : Int32} {laidNet_M : (Nat → Int32)} {laidLeft_M : (Nat → Int32)} {laidRight_M : (Nat → Int32)} {laidTouch_M : (Nat → Int32)} {laidTrack_M : (Nat → Int32)} {ringSize_M : Int32} {ringOf_M : (Nat → Int32)} {lays_M : Int32} {refusals_M : Int32} {n8 : Nat} {s9 : (Int32 × (Nat → Int64))} {o8 : (Nat → Int64)} (h : lp (f_X4_inRing_B30 many_M) n8 s9 = some o8) (hk : V p l e (rmO 1 22) s m args below meth c 3 D A 0 0 Q 101 [(0, .ref (aM 0))] [] (wM cI cJ aM thrown_M pins_M many_M nets_M lefts_M rights_M touches_M below_M o8 tracksOf_M steps_M laid_M laidMany_M tracks_M laidNet_M laidLeft_M laidRight_M laidTouch_M laidTrack_M ringSize_M ringOf_M lays_M refusals_M)) : V p l e (rmO 1 22) s m args below meth c 3 D A 0 0 Q 30 [(0, .ref (aM 0)), (1, .int s9.1)] [] (wM cI cJ aM thrown_M pins_M many_M nets_M lefts_M rights_M touches_M below_M s9.2 tracksOf_M steps_M laid_M laidMany_M tracks_M laidNet_M laidLeft_M laidRight_M laidTouch_M laidTrack_M ringSize_M ringOf_M lays_M refusals_M) := lp_ok (Pσ := fun s8 => V p l e (rmO 1 22) s m args below meth c 3 D A 0 0 Q 30 [(0, .ref (aM 0)), (1, .int s8.1)] [] (wM cI cJ aM thrown_M pins_M many_M nets_M lefts_M rights_M touches_M below_M s8.2 tracksOf_M steps_M laid_M laidMany_M tracks_M laidNet_M laidLeft_M laidRight_M laidTouch_M laidTrack_M ringSize_M ringOf_M lays_M refusals_M)) (Pρ := fun r8 => V p l e (rmO 1 22) s m args below meth c 3 D A 0 0 Q 101 [(0, .ref (aM 0))] [] (wM cI cJ aM thrown_M pins_M many_M nets_M lefts_M rights_M touches_M below_M r8 tracksOf_M steps_M laid_M laidMany_M tracks_M laidNet_M laidLeft_M laidRight_M laidTouch_M laidTrack_M ringSize_M ringOf_M lays_M refusals_M)) (fun s o h hl hx => t_X4_inRing_B30 C s o h hl hx) n8 s9 o8 h hk
set_option maxHeartbeats 4000000 in
set_option maxRecDepth 100000 in
theorem t_X4_inRing_B110 {p : Program} {l : Launch} {e : Env} {s : State} {m : MethodId} {args : Array Value} {below : List Frame} {meth : Method} {c : Code} {D : va_G} {A : Nat → Prop} {cI cJ : ClassId} {Q : State → Prop} (C : Cx p s m args c cX4_inRing 3 RX4 D A cI cJ) {aM : Nat → Nat} {thrown_M : Int32} {pins_M : (Nat → Int32)} {many_M : Int32} {nets_M : (Nat → Int32)} {lefts_M : (Nat → Int32)} {rights_M : (Nat → Int32)} {touches_M : (Nat → Int32)} {below_M : (Nat → Int64)} {reach_M : (Nat → Int64)} {tracksOf_M : (Nat → Int32)} {steps_M : (Nat → Int32)} {laid_M : Int32} {laidMany_M : Int32} {tracks_M : Int32} {laidNet_M : (Nat → Int32)} {laidLeft_M : (Nat → Int32)} {laidRight_M : (Nat → Int32)} {laidTouch_M : (Nat → Int32)} {laidTrack_M : (Nat → Int32)} {ringSize_M : Int32} {ringOf_M : (Nat → Int32)} {lays_M : Int32} {refusals_M : Int32} (s8 : (Int32 × Int32)) (o8 : (Int32 × Int32) ⊕ Int32) (h : f_X4_inRing_B110 reach_M s8 = some o8) (hl : ∀ s8, o8 = .inl s8 → V p l e (rmO 1 22) s m args below meth c 3 D A 0 0 Q 110 [(0, .ref (aM 0)), (1, .int s8.1), (2, .int s8.2)] [] (wM cI cJ aM thrown_M pins_M many_M nets_M lefts_M rights_M touches_M below_M reach_M tracksOf_M steps_M laid_M laidMany_M tracks_M laidNet_M laidLeft_M laidRight_M laidTouch_M laidTrack_M ringSize_M ringOf_M lays_M refusals_M)) (hx : ∀ r8, o8 = .inr r8 → V p l e (rmO 1 22) s m args below meth c 3 D A 0 0 Q 139 [(1, .int r8)] [] (wM cI cJ aM thrown_M pins_M many_M nets_M lefts_M rights_M touches_M below_M reach_M tracksOf_M steps_M laid_M laidMany_M tracks_M laidNet_M laidLeft_M laidRight_M laidTouch_M laidTrack_M ringSize_M ringOf_M lays_M refusals_M)) : V p l e (rmO 1 22) s m args below meth c 3 D A 0 0 Q 110 [(0, .ref (aM 0)), (1, .int s8.1), (2, .int s8.2)] [] (wM cI cJ aM thrown_M pins_M many_M nets_M lefts_M rights_M touches_M below_M reach_M tracksOf_M steps_M laid_M laidMany_M tracks_M laidNet_M laidLeft_M laidRight_M laidTouch_M laidTrack_M ringSize_M ringOf_M lays_M refusals_M) := by
  obtain ⟨x1, x2⟩ := s8
  unfold f_X4_inRing_B110 at h
  show V p l e (rmO 1 22) s m args below meth c 3 D A 0 0 Q 110 [(0, .ref (aM 0)), (1, .int x1), (2, .int x2)] [] (wM cI cJ aM thrown_M pins_M many_M nets_M lefts_M rights_M touches_M below_M reach_M tracksOf_M steps_M laid_M laidMany_M tracks_M laidNet_M laidLeft_M laidRight_M laidTouch_M laidTrack_M ringSize_M ringOf_M lays_M refusals_M)
  refine v_iload_n C 2 dX4_inRing_110 rfl rfl ?_
  refine v_if_lt (tgt := 139) C dX4_inRing_111 (by decide) h (fun h => ?_) (fun h => ?_)
  · refine v_perm [1] rfl ?_
    cases h
    exact hx _ rfl
  · refine v_aload_n C 0 dX4_inRing_114 rfl rfl ?_
    refine v_get C 0 8 iuX4 rfl rfl (by decide) m3_61 rfl rfl dX4_inRing_115 ?_
    refine v_iload_n C 2 dX4_inRing_118 rfl rfl ?_
    refine v_lald C 7 rfl dX4_inRing_119 h (fun h => ?_)
    refine v_iload_n C 2 dX4_inRing_120 rfl rfl ?_
    obtain ⟨r, h1, h⟩ := bind_el h
    obtain ⟨r_5, rfl⟩ : ∃ z, z = r := ⟨_, rfl⟩
    try dsimp only at h
    refine v_callSi (As := [.long (reach_M x2.toNatClampNeg), .int x2]) (st := []) (wr := [(aM 0, .inr (4, [.int thrown_M, .ref (aM 1), .int many_M, .ref (aM 2), .ref (aM 3), .ref (aM 4), .ref (aM 5), .ref (aM 6), .ref (aM 7), .ref (aM 8), .ref (aM 9), .int laid_M, .int laidMany_M, .int tracks_M, .ref (aM 10), .ref (aM 11), .ref (aM 12), .ref (aM 13), .ref (aM 14), .int ringSize_M, .ref (aM 15), .int lays_M, .int refusals_M])), (aM 1, .inl (cI, 40, .inl pins_M)), (aM 2, .inl (cI, 40, .inl nets_M)), (aM 3, .inl (cI, 40, .inl lefts_M)), (aM 4, .inl (cI, 40, .inl rights_M)), (aM 5, .inl (cI, 40, .inl touches_M)), (aM 6, .inl (cJ, 40, .inr (.inl below_M))), (aM 7, .inl (cJ, 40, .inr (.inl reach_M))), (aM 8, .inl (cI, 40, .inl tracksOf_M)), (aM 9, .inl (cI, 40, .inl steps_M)), (aM 10, .inl (cI, 40, .inl laidNet_M)), (aM 11, .inl (cI, 40, .inl laidLeft_M)), (aM 12, .inl (cI, 40, .inl laidRight_M)), (aM 13, .inl (cI, 40, .inl laidTouch_M)), (aM 14, .inl (cI, 40, .inl laidTrack_M)), (aM 15, .inl (cI, 40, .inl ringOf_M))]) (w1 := []) (ws' := (wM cI cJ aM thrown_M pins_M many_M nets_M lefts_M rights_M touches_M below_M reach_M tracksOf_M steps_M laid_M laidMany_M tracks_M laidNet_M laidLeft_M laidRight_M laidTouch_M laidTrack_M ringSize_M ringOf_M lays_M refusals_M)) (isC := []) (isR := [0, 1, 2, 3, 4, 5, 6, 7, 8, 9, 10, 11, 12, 13, 14, 15]) (pm := [0, 1, 2, 3, 4, 5, 6, 7, 8, 9, 10, 11, 12, 13, 14, 15]) C (c_X4_has l D cI cJ (reach_M x2.toNatClampNeg) x2 r_5 h1) cw_X4_has m3_188 dX4_inRing_121 rfl ⟨Nat.le_of_ble_eq_true rfl, Nat.le_of_ble_eq_true rfl⟩ (Nat.le_of_ble_eq_true rfl) ⟨Nat.le_refl 0, Nat.le_refl 0⟩ ⟨rfl, rfl, rfl, rfl, by decide, rfl, rfl⟩ ?_
    refine v_if_eq (tgt := 131) C dX4_inRing_124 (by decide) h (fun h => ?_) (fun h => ?_)
    · refine v_iload_n C 1 dX4_inRing_131 rfl rfl ?_
      refine v_istore_n C [(1, .int x1), (0, .ref (aM 0)), (2, .int x2)] dX4_inRing_132 rfl (by decide) rfl ?_
      refine v_iinc C [(2, .int (x2 + (-1))), (1, .int x1), (0, .ref (aM 0))] 2 dX4_inRing_133 rfl rfl (by decide) rfl ?_
      refine v_goto (tgt := 110) C dX4_inRing_136 (by decide) ?_
      refine v_perm [2, 1, 0] rfl ?_
      cases h
      exact hl _ rfl
    · refine v_iload_n C 2 dX4_inRing_127 rfl rfl ?_
      refine v_goto (tgt := 132) C dX4_inRing_128 (by decide) ?_
      refine v_istore_n C [(1, .int x2), (0, .ref (aM 0)), (2, .int x2)] dX4_inRing_132 rfl (by decide) rfl ?_
      refine v_iinc C [(2, .int (x2 + (-1))), (1, .int x2), (0, .ref (aM 0))] 2 dX4_inRing_133 rfl rfl (by decide) rfl ?_
      refine v_goto (tgt := 110) C dX4_inRing_136 (by decide) ?_
      refine v_perm [2, 1, 0] rfl ?_
      cases h
      exact hl _ rfl
set_option maxHeartbeats 4000000 in
set_option maxRecDepth 100000 in
theorem t_X4_inRing_L110 {p : Program} {l : Launch} {e : Env} {s : State} {m : MethodId} {args : Array Value} {below : List Frame} {meth : Method} {c : Code} {D : va_G} {A : Nat → Prop} {cI cJ : ClassId} {Q : State → Prop} (C : Cx p s m args c cX4_inRing 3 RX4 D A cI cJ) {aM : Nat → Nat} {thrown_M : Int32} {pins_M : (Nat → Int32)} {many_M : Int32} {nets_M : (Nat → Int32)} {lefts_M : (Nat → Int32)} {rights_M : (Nat → Int32)} {touches_M : (Nat → Int32)} {below_M : (Nat → Int64)} {reach_M : (Nat → Int64)} {tracksOf_M : (Nat → Int32)} {steps_M : (Nat → Int32)} {laid_M : Int32} {laidMany_M : Int32} {tracks_M : Int32} {laidNet_M : (Nat → Int32)} {laidLeft_M : (Nat → Int32)} {laidRight_M : (Nat → Int32)} {laidTouch_M : (Nat → Int32)} {laidTrack_M : (Nat → Int32)} {ringSize_M : Int32} {ringOf_M : (Nat → Int32)} {lays_M : Int32} {refusals_M : Int32} {n8 : Nat} {s9 : (Int32 × Int32)} {o8 : Int32} (h : lp (f_X4_inRing_B110 reach_M) n8 s9 = some o8) (hk : V p l e (rmO 1 22) s m args below meth c 3 D A 0 0 Q 139 [(1, .int o8)] [] (wM cI cJ aM thrown_M pins_M many_M nets_M lefts_M rights_M touches_M below_M reach_M tracksOf_M steps_M laid_M laidMany_M tracks_M laidNet_M laidLeft_M laidRight_M laidTouch_M laidTrack_M ringSize_M ringOf_M lays_M refusals_M)) : V p l e (rmO 1 22) s m args below meth c 3 D A 0 0 Q 110 [(0, .ref (aM 0)), (1, .int s9.1), (2, .int s9.2)] [] (wM cI cJ aM thrown_M pins_M many_M nets_M lefts_M rights_M touches_M below_M reach_M tracksOf_M steps_M laid_M laidMany_M tracks_M laidNet_M laidLeft_M laidRight_M laidTouch_M laidTrack_M ringSize_M ringOf_M lays_M refusals_M) := lp_ok (Pσ := fun s8 => V p l e (rmO 1 22) s m args below meth c 3 D A 0 0 Q 110 [(0, .ref (aM 0)), (1, .int s8.1), (2, .int s8.2)] [] (wM cI cJ aM thrown_M pins_M many_M nets_M lefts_M rights_M touches_M below_M reach_M tracksOf_M steps_M laid_M laidMany_M tracks_M laidNet_M laidLeft_M laidRight_M laidTouch_M laidTrack_M ringSize_M ringOf_M lays_M refusals_M)) (Pρ := fun r8 => V p l e (rmO 1 22) s m args below meth c 3 D A 0 0 Q 139 [(1, .int r8)] [] (wM cI cJ aM thrown_M pins_M many_M nets_M lefts_M rights_M touches_M below_M reach_M tracksOf_M steps_M laid_M laidMany_M tracks_M laidNet_M laidLeft_M laidRight_M laidTouch_M laidTrack_M ringSize_M ringOf_M lays_M refusals_M)) (fun s o h hl hx => t_X4_inRing_B110 C s o h hl hx) n8 s9 o8 h hk
set_option maxHeartbeats 4000000 in
set_option maxRecDepth 100000 in
theorem c_X4_inRing (l : Launch) (D : va_G) (cI cJ : ClassId) (aM : Nat → Nat) (thrown_M : Int32) (pins_M : (Nat → Int32)) (many_M : Int32) (nets_M : (Nat → Int32)) (lefts_M : (Nat → Int32)) (rights_M : (Nat → Int32)) (touches_M : (Nat → Int32)) (below_M : (Nat → Int64)) (reach_M : (Nat → Int64)) (tracksOf_M : (Nat → Int32)) (steps_M : (Nat → Int32)) (laid_M : Int32) (laidMany_M : Int32) (tracks_M : Int32) (laidNet_M : (Nat → Int32)) (laidLeft_M : (Nat → Int32)) (laidRight_M : (Nat → Int32)) (laidTouch_M : (Nat → Int32)) (laidTrack_M : (Nat → Int32)) (ringSize_M : Int32) (ringOf_M : (Nat → Int32)) (lays_M : Int32) (refusals_M : Int32) (r : Int32) (reach_M' : (Nat → Int64)) (h : f_X4_inRing many_M below_M reach_M = some (r, reach_M')) : Cti l D cI cJ yX4_inRing cX4_inRing 3 (some .int) 1 22 [.ref (aM 0)] (wM cI cJ aM thrown_M pins_M many_M nets_M lefts_M rights_M touches_M below_M reach_M tracksOf_M steps_M laid_M laidMany_M tracks_M laidNet_M laidLeft_M laidRight_M laidTouch_M laidTrack_M ringSize_M ringOf_M lays_M refusals_M) (wM cI cJ aM thrown_M pins_M many_M nets_M lefts_M rights_M touches_M below_M reach_M' tracksOf_M steps_M laid_M laidMany_M tracks_M laidNet_M laidLeft_M laidRight_M laidTouch_M laidTrack_M ringSize_M ringOf_M lays_M refusals_M) r := by
  refine mk_i [(0, .ref (aM 0))] (by decide) rfl (Nat.le_of_ble_eq_true rfl) rfl (fun p e s m args below meth c A Q C hk => ?_)
  unfold f_X4_inRing at h
  refine v_iconst (v := 0) C dX4_inRing_0 (by decide) ?_
  refine v_istore_n C [(1, .int 0), (0, .ref (aM 0))] dX4_inRing_1 rfl (by decide) rfl ?_
  obtain ⟨r, h1, h⟩ := bind_el h
  refine v_perm [1, 0] rfl ?_
  obtain ⟨reach_M_1, rfl⟩ : ∃ z, z = r := ⟨_, rfl⟩
  refine t_X4_inRing_L2 C (s9 := (0, reach_M)) h1 ?_
  show V p l e (rmO 1 22) s m args below meth c 3 D A 0 0 Q 28 [(0, .ref (aM 0))] [] (wM cI cJ aM thrown_M pins_M many_M nets_M lefts_M rights_M touches_M below_M reach_M_1 tracksOf_M steps_M laid_M laidMany_M tracks_M laidNet_M laidLeft_M laidRight_M laidTouch_M laidTrack_M ringSize_M ringOf_M lays_M refusals_M)
  try dsimp only at h
  refine v_iconst (v := 0) C dX4_inRing_28 (by decide) ?_
  refine v_istore_n C [(1, .int 0), (0, .ref (aM 0))] dX4_inRing_29 rfl (by decide) rfl ?_
  obtain ⟨r, h1, h⟩ := bind_el h
  refine v_perm [1, 0] rfl ?_
  obtain ⟨reach_M_4, rfl⟩ : ∃ z, z = r := ⟨_, rfl⟩
  refine t_X4_inRing_L30 C (s9 := (0, reach_M_1)) h1 ?_
  show V p l e (rmO 1 22) s m args below meth c 3 D A 0 0 Q 101 [(0, .ref (aM 0))] [] (wM cI cJ aM thrown_M pins_M many_M nets_M lefts_M rights_M touches_M below_M reach_M_4 tracksOf_M steps_M laid_M laidMany_M tracks_M laidNet_M laidLeft_M laidRight_M laidTouch_M laidTrack_M ringSize_M ringOf_M lays_M refusals_M)
  try dsimp only at h
  refine v_iconst (v := (-1)) C dX4_inRing_101 (by decide) ?_
  refine v_istore_n C [(1, .int (-1)), (0, .ref (aM 0))] dX4_inRing_102 rfl (by decide) rfl ?_
  refine v_aload_n C 1 dX4_inRing_103 rfl rfl ?_
  refine v_get C 0 2 iuX4 rfl rfl (by decide) m3_55 rfl rfl dX4_inRing_104 ?_
  refine v_iconst (v := 1) C dX4_inRing_107 (by decide) ?_
  refine v_isub C dX4_inRing_108 ?_
  refine v_istore_n C [(2, .int (many_M - 1)), (1, .int (-1)), (0, .ref (aM 0))] dX4_inRing_109 rfl (by decide) rfl ?_
  obtain ⟨r, h1, h⟩ := bind_el h
  refine v_perm [2, 1, 0] rfl ?_
  obtain ⟨x1_6, rfl⟩ : ∃ z, z = r := ⟨_, rfl⟩
  refine t_X4_inRing_L110 C (s9 := ((-1), many_M - 1)) h1 ?_
  show V p l e (rmO 1 22) s m args below meth c 3 D A 0 0 Q 139 [(1, .int x1_6)] [] (wM cI cJ aM thrown_M pins_M many_M nets_M lefts_M rights_M touches_M below_M reach_M_4 tracksOf_M steps_M laid_M laidMany_M tracks_M laidNet_M laidLeft_M laidRight_M laidTouch_M laidTrack_M ringSize_M ringOf_M lays_M refusals_M)
  try dsimp only at h
  refine v_iload_n C 0 dX4_inRing_139 rfl rfl ?_
  cases h
  exact hk _ _ dX4_inRing_140
def f_X4_countSteps_B2 (x1 : Int32) (many_M : Int32) : (Int32 × (Nat → Int32)) → Option ((Int32 × (Nat → Int32)) ⊕ (Nat → Int32))
  | (x2, steps_M) => if many_M ≤ x2 then (some (.inr steps_M)) else (if x2 = x1 then (bnd x2 40 (some (.inl (x2 + 1, upd steps_M x2.toNatClampNeg 0)))) else (bnd x2 40 (some (.inl (x2 + 1, upd steps_M x2.toNatClampNeg 100)))))
def f_X4_countSteps_J102 (steps_M : (Nat → Int32)) (x3 : Int32) (x4 : Int32) (s0 : Int32) : Option ((Int32 × (Nat → Int32)) ⊕ (Nat → Int32)) := if s0 = 0 then (bnd x3 40 (bnd x3 40 (some (.inl ((x4 + 1, upd steps_M x3.toNatClampNeg (steps_M x3.toNatClampNeg))))))) else (bnd x4 40 (bnd x3 40 (some (.inl ((x4 + 1, upd steps_M x3.toNatClampNeg ((steps_M x4.toNatClampNeg) + 1)))))))
def f_X4_countSteps_J101 (steps_M : (Nat → Int32)) (x3 : Int32) (x4 : Int32) : Option ((Int32 × (Nat → Int32)) ⊕ (Nat → Int32)) := f_X4_countSteps_J102 steps_M x3 x4 0
def f_X4_countSteps_B56 (x3 : Int32) (many_M : Int32) (below_M : (Nat → Int64)) : (Int32 × (Nat → Int32)) → Option ((Int32 × (Nat → Int32)) ⊕ (Nat → Int32))
  | (x4, steps_M) => if many_M ≤ x4 then (some (.inr steps_M)) else (bnd x3 40 ((f_X4_has (below_M x3.toNatClampNeg) x4).bind (fun r => match r with | r_2 => if r_2 = 0 then (f_X4_countSteps_J101 steps_M x3 x4) else (bnd x4 40 (bnd x3 40 (if (steps_M x3.toNatClampNeg) ≤ ((steps_M x4.toNatClampNeg) + 1) then (f_X4_countSteps_J101 steps_M x3 x4) else (f_X4_countSteps_J102 steps_M x3 x4 1)))))))
def f_X4_countSteps_B45 (many_M : Int32) (below_M : (Nat → Int64)) : (Int32 × (Nat → Int32)) → Option ((Int32 × (Nat → Int32)) ⊕ (Nat → Int32))
  | (x3, steps_M) => if many_M ≤ x3 then (some (.inr steps_M)) else ((lp (f_X4_countSteps_B56 x3 many_M below_M) 64 (0, steps_M)).bind (fun r => match r with | steps_M_3 => some (.inl (x3 + 1, steps_M_3))))
def f_X4_countSteps_B35 (many_M : Int32) (below_M : (Nat → Int64)) : (Int32 × (Nat → Int32)) → Option ((Int32 × (Nat → Int32)) ⊕ (Nat → Int32))
  | (x2, steps_M) => if many_M ≤ x2 then (some (.inr steps_M)) else ((lp (f_X4_countSteps_B45 many_M below_M) 64 (0, steps_M)).bind (fun r => match r with | steps_M_4 => some (.inl (x2 + 1, steps_M_4))))
def f_X4_countSteps (many_M : Int32) (below_M : (Nat → Int64)) (steps_M : (Nat → Int32)) (x1 : Int32) : Option (Nat → Int32) := (lp (f_X4_countSteps_B2 x1 many_M) 64 (0, steps_M)).bind (fun r => match r with | steps_M_1 => (lp (f_X4_countSteps_B35 many_M below_M) 64 (0, steps_M_1)).bind (fun r => match r with | steps_M_5 => some steps_M_5))
theorem cw_X4_countSteps : CWv yX4_countSteps cX4_countSteps 6 none RX4 1 := ⟨m3_197, ms4_7, m1_5, m3_198, rfl, by decide, by decide, by decide +kernel⟩
set_option maxHeartbeats 4000000 in
set_option maxRecDepth 100000 in
theorem t_X4_countSteps_B2 {p : Program} {l : Launch} {e : Env} {s : State} {m : MethodId} {args : Array Value} {below : List Frame} {meth : Method} {c : Code} {D : va_G} {A : Nat → Prop} {cI cJ : ClassId} {Q : State → Prop} (C : Cx p s m args c cX4_countSteps 6 RX4 D A cI cJ) {aM : Nat → Nat} {x1 : Int32} {thrown_M : Int32} {pins_M : (Nat → Int32)} {many_M : Int32} {nets_M : (Nat → Int32)} {lefts_M : (Nat → Int32)} {rights_M : (Nat → Int32)} {touches_M : (Nat → Int32)} {below_M : (Nat → Int64)} {reach_M : (Nat → Int64)} {tracksOf_M : (Nat → Int32)} {laid_M : Int32} {laidMany_M : Int32} {tracks_M : Int32} {laidNet_M : (Nat → Int32)} {laidLeft_M : (Nat → Int32)} {laidRight_M : (Nat → Int32)} {laidTouch_M : (Nat → Int32)} {laidTrack_M : (Nat → Int32)} {ringSize_M : Int32} {ringOf_M : (Nat → Int32)} {lays_M : Int32} {refusals_M : Int32} (s8 : (Int32 × (Nat → Int32))) (o8 : (Int32 × (Nat → Int32)) ⊕ (Nat → Int32)) (h : f_X4_countSteps_B2 x1 many_M s8 = some o8) (hl : ∀ s8, o8 = .inl s8 → V p l e (rmO 1 22) s m args below meth c 6 D A 0 0 Q 2 [(0, .ref (aM 0)), (1, .int x1), (2, .int s8.1)] [] (wM cI cJ aM thrown_M pins_M many_M nets_M lefts_M rights_M touches_M below_M reach_M tracksOf_M s8.2 laid_M laidMany_M tracks_M laidNet_M laidLeft_M laidRight_M laidTouch_M laidTrack_M ringSize_M ringOf_M lays_M refusals_M)) (hx : ∀ r8, o8 = .inr r8 → V p l e (rmO 1 22) s m args below meth c 6 D A 0 0 Q 33 [(0, .ref (aM 0))] [] (wM cI cJ aM thrown_M pins_M many_M nets_M lefts_M rights_M touches_M below_M reach_M tracksOf_M r8 laid_M laidMany_M tracks_M laidNet_M laidLeft_M laidRight_M laidTouch_M laidTrack_M ringSize_M ringOf_M lays_M refusals_M)) : V p l e (rmO 1 22) s m args below meth c 6 D A 0 0 Q 2 [(0, .ref (aM 0)), (1, .int x1), (2, .int s8.1)] [] (wM cI cJ aM thrown_M pins_M many_M nets_M lefts_M rights_M touches_M below_M reach_M tracksOf_M s8.2 laid_M laidMany_M tracks_M laidNet_M laidLeft_M laidRight_M laidTouch_M laidTrack_M ringSize_M ringOf_M lays_M refusals_M) := by
  obtain ⟨x2, steps_M⟩ := s8
  unfold f_X4_countSteps_B2 at h
  show V p l e (rmO 1 22) s m args below meth c 6 D A 0 0 Q 2 [(0, .ref (aM 0)), (1, .int x1), (2, .int x2)] [] (wM cI cJ aM thrown_M pins_M many_M nets_M lefts_M rights_M touches_M below_M reach_M tracksOf_M steps_M laid_M laidMany_M tracks_M laidNet_M laidLeft_M laidRight_M laidTouch_M laidTrack_M ringSize_M ringOf_M lays_M refusals_M)
  refine v_iload_n C 2 dX4_countSteps_2 rfl rfl ?_
  refine v_aload_n C 0 dX4_countSteps_3 rfl rfl ?_
  refine v_get C 0 2 iuX4 rfl rfl (by decide) m3_55 rfl rfl dX4_countSteps_4 ?_
  refine v_icmp_ge (tgt := 33) C dX4_countSteps_7 (by decide) h (fun h => ?_) (fun h => ?_)
  · refine v_perm [0] rfl ?_
    cases h
    exact hx _ rfl
  · refine v_aload_n C 0 dX4_countSteps_10 rfl rfl ?_
    refine v_get C 0 10 iuX4 rfl rfl (by decide) m3_63 rfl rfl dX4_countSteps_11 ?_
    refine v_iload_n C 2 dX4_countSteps_14 rfl rfl ?_
    refine v_iload_n C 2 dX4_countSteps_15 rfl rfl ?_
    refine v_iload_n C 1 dX4_countSteps_16 rfl rfl ?_
    refine v_icmp_ne (tgt := 24) C dX4_countSteps_17 (by decide) h (fun h => ?_) (fun h => ?_)
    · refine v_iconst (v := 0) C dX4_countSteps_20 (by decide) ?_
      refine v_goto (tgt := 26) C dX4_countSteps_21 (by decide) ?_
      refine v_iast C (wM cI cJ aM thrown_M pins_M many_M nets_M lefts_M rights_M touches_M below_M reach_M tracksOf_M (upd steps_M x2.toNatClampNeg 0) laid_M laidMany_M tracks_M laidNet_M laidLeft_M laidRight_M laidTouch_M laidTrack_M ringSize_M ringOf_M lays_M refusals_M) 9 rfl dX4_countSteps_26 h rfl (fun h => ?_)
      refine v_iinc C [(2, .int (x2 + 1)), (0, .ref (aM 0)), (1, .int x1)] 2 dX4_countSteps_27 rfl rfl (by decide) rfl ?_
      refine v_goto (tgt := 2) C dX4_countSteps_30 (by decide) ?_
      refine v_perm [1, 2, 0] rfl ?_
      cases h
      exact hl _ rfl
    · refine v_bipush (v := 100) C dX4_countSteps_24 (by decide) ?_
      refine v_iast C (wM cI cJ aM thrown_M pins_M many_M nets_M lefts_M rights_M touches_M below_M reach_M tracksOf_M (upd steps_M x2.toNatClampNeg 100) laid_M laidMany_M tracks_M laidNet_M laidLeft_M laidRight_M laidTouch_M laidTrack_M ringSize_M ringOf_M lays_M refusals_M) 9 rfl dX4_countSteps_26 h rfl (fun h => ?_)
      refine v_iinc C [(2, .int (x2 + 1)), (0, .ref (aM 0)), (1, .int x1)] 2 dX4_countSteps_27 rfl rfl (by decide) rfl ?_
      refine v_goto (tgt := 2) C dX4_countSteps_30 (by decide) ?_
      refine v_perm [1, 2, 0] rfl ?_
      cases h
      exact hl _ rfl
set_option maxHeartbeats 4000000 in
set_option maxRecDepth 100000 in
theorem t_X4_countSteps_L2 {p : Program} {l : Launch} {e : Env} {s : State} {m : MethodId} {args : Array Value} {below : List Frame} {meth : Method} {c : Code} {D : va_G} {A : Nat → Prop} {cI cJ : ClassId} {Q : State → Prop} (C : Cx p s m args c cX4_countSteps 6 RX4 D A cI cJ) {aM : Nat → Nat} {x1 : Int32} {thrown_M : Int32} {pins_M : (Nat → Int32)} {many_M : Int32} {nets_M : (Nat → Int32)} {lefts_M : (Nat → Int32)} {rights_M : (Nat → Int32)} {touches_M : (Nat → Int32)} {below_M : (Nat → Int64)} {reach_M : (Nat → Int64)} {tracksOf_M : (Nat → Int32)} {laid_M : Int32} {laidMany_M : Int32} {tracks_M : Int32} {laidNet_M : (Nat → Int32)} {laidLeft_M : (Nat → Int32)} {laidRight_M : (Nat → Int32)} {laidTouch_M : (Nat → Int32)} {laidTrack_M : (Nat → Int32)} {ringSize_M : Int32} {ringOf_M : (Nat → Int32)} {lays_M : Int32} {refusals_M : Int32} {n8 : Nat} {s9 : (Int32 × (Nat → Int32))} {o8 : (Nat → Int32)} (h : lp (f_X4_countSteps_B2 x1 many_M) n8 s9 = some o8) (hk : V p l e (rmO 1 22) s m args below meth c 6 D A 0 0 Q 33 [(0, .ref (aM 0))] [] (wM cI cJ aM thrown_M pins_M many_M nets_M lefts_M rights_M touches_M below_M reach_M tracksOf_M o8 laid_M laidMany_M tracks_M laidNet_M laidLeft_M laidRight_M laidTouch_M laidTrack_M ringSize_M ringOf_M lays_M refusals_M)) : V p l e (rmO 1 22) s m args below meth c 6 D A 0 0 Q 2 [(0, .ref (aM 0)), (1, .int x1), (2, .int s9.1)] [] (wM cI cJ aM thrown_M pins_M many_M nets_M lefts_M rights_M touches_M below_M reach_M tracksOf_M s9.2 laid_M laidMany_M tracks_M laidNet_M laidLeft_M laidRight_M laidTouch_M laidTrack_M ringSize_M ringOf_M lays_M refusals_M) := lp_ok (Pσ := fun s8 => V p l e (rmO 1 22) s m args below meth c 6 D A 0 0 Q 2 [(0, .ref (aM 0)), (1, .int x1), (2, .int s8.1)] [] (wM cI cJ aM thrown_M pins_M many_M nets_M lefts_M rights_M touches_M below_M reach_M tracksOf_M s8.2 laid_M laidMany_M tracks_M laidNet_M laidLeft_M laidRight_M laidTouch_M laidTrack_M ringSize_M ringOf_M lays_M refusals_M)) (Pρ := fun r8 => V p l e (rmO 1 22) s m args below meth c 6 D A 0 0 Q 33 [(0, .ref (aM 0))] [] (wM cI cJ aM thrown_M pins_M many_M nets_M lefts_M rights_M touches_M below_M reach_M tracksOf_M r8 laid_M laidMany_M tracks_M laidNet_M laidLeft_M laidRight_M laidTouch_M laidTrack_M ringSize_M ringOf_M lays_M refusals_M)) (fun s o h hl hx => t_X4_countSteps_B2 C s o h hl hx) n8 s9 o8 h hk
set_option maxHeartbeats 4000000 in
set_option maxRecDepth 100000 in
theorem t_X4_countSteps_J102 {p : Program} {l : Launch} {e : Env} {s : State} {m : MethodId} {args : Array Value} {below : List Frame} {meth : Method} {c : Code} {D : va_G} {A : Nat → Prop} {cI cJ : ClassId} {Q : State → Prop} (C : Cx p s m args c cX4_countSteps 6 RX4 D A cI cJ) {aM : Nat → Nat} {thrown_M : Int32} {pins_M : (Nat → Int32)} {many_M : Int32} {nets_M : (Nat → Int32)} {lefts_M : (Nat → Int32)} {rights_M : (Nat → Int32)} {touches_M : (Nat → Int32)} {below_M : (Nat → Int64)} {reach_M : (Nat → Int64)} {tracksOf_M : (Nat → Int32)} {steps_M : (Nat → Int32)} {laid_M : Int32} {laidMany_M : Int32} {tracks_M : Int32} {laidNet_M : (Nat → Int32)} {laidLeft_M : (Nat → Int32)} {laidRight_M : (Nat → Int32)} {laidTouch_M : (Nat → Int32)} {laidTrack_M : (Nat → Int32)} {ringSize_M : Int32} {ringOf_M : (Nat → Int32)} {lays_M : Int32} {refusals_M : Int32} {x2 : Int32} {x3 : Int32} {x4 : Int32} {s0 : Int32} {o8 : (Int32 × (Nat → Int32)) ⊕ (Nat → Int32)} (h : f_X4_countSteps_J102 steps_M x3 x4 s0 = some o8) (hl : ∀ s8, o8 = .inl s8 → V p l e (rmO 1 22) s m args below meth c 6 D A 0 0 Q 56 [(0, .ref (aM 0)), (2, .int x2), (3, .int x3), (4, .int s8.1)] [] (wM cI cJ aM thrown_M pins_M many_M nets_M lefts_M rights_M touches_M below_M reach_M tracksOf_M s8.2 laid_M laidMany_M tracks_M laidNet_M laidLeft_M laidRight_M laidTouch_M laidTrack_M ringSize_M ringOf_M lays_M refusals_M)) (hx : ∀ r8, o8 = .inr r8 → V p l e (rmO 1 22) s m args below meth c 6 D A 0 0 Q 139 [(0, .ref (aM 0)), (2, .int x2), (3, .int x3)] [] (wM cI cJ aM thrown_M pins_M many_M nets_M lefts_M rights_M touches_M below_M reach_M tracksOf_M r8 laid_M laidMany_M tracks_M laidNet_M laidLeft_M laidRight_M laidTouch_M laidTrack_M ringSize_M ringOf_M lays_M refusals_M)) : V p l e (rmO 1 22) s m args below meth c 6 D A 0 0 Q 102 [(0, .ref (aM 0)), (2, .int x2), (3, .int x3), (4, .int x4)] [.int s0] (wM cI cJ aM thrown_M pins_M many_M nets_M lefts_M rights_M touches_M below_M reach_M tracksOf_M steps_M laid_M laidMany_M tracks_M laidNet_M laidLeft_M laidRight_M laidTouch_M laidTrack_M ringSize_M ringOf_M lays_M refusals_M) := by
  unfold f_X4_countSteps_J102 at h
  refine v_istore C [(5, .int s0), (0, .ref (aM 0)), (2, .int x2), (3, .int x3), (4, .int x4)] dX4_countSteps_102 (by decide) rfl ?_
  refine v_aload_n C 1 dX4_countSteps_104 rfl rfl ?_
  refine v_get C 0 10 iuX4 rfl rfl (by decide) m3_63 rfl rfl dX4_countSteps_105 ?_
  refine v_iload_n C 3 dX4_countSteps_108 rfl rfl ?_
  refine v_iload C 0 dX4_countSteps_109 rfl ?_
  refine v_if_eq (tgt := 126) C dX4_countSteps_111 (by decide) h (fun h => ?_) (fun h => ?_)
  · refine v_aload_n C 1 dX4_countSteps_126 rfl rfl ?_
    refine v_get C 0 10 iuX4 rfl rfl (by decide) m3_63 rfl rfl dX4_countSteps_127 ?_
    refine v_iload_n C 3 dX4_countSteps_130 rfl rfl ?_
    refine v_iald C 9 rfl dX4_countSteps_131 h (fun h => ?_)
    refine v_iast C (wM cI cJ aM thrown_M pins_M many_M nets_M lefts_M rights_M touches_M below_M reach_M tracksOf_M (upd steps_M x3.toNatClampNeg (steps_M x3.toNatClampNeg)) laid_M laidMany_M tracks_M laidNet_M laidLeft_M laidRight_M laidTouch_M laidTrack_M ringSize_M ringOf_M lays_M refusals_M) 9 rfl dX4_countSteps_132 h rfl (fun h => ?_)
    refine v_iinc C [(4, .int (x4 + 1)), (5, .int s0), (0, .ref (aM 0)), (2, .int x2), (3, .int x3)] 4 dX4_countSteps_133 rfl rfl (by decide) rfl ?_
    refine v_goto (tgt := 56) C dX4_countSteps_136 (by decide) ?_
    refine v_perm [2, 3, 4, 0] rfl ?_
    cases h
    exact hl _ rfl
  · refine v_aload_n C 1 dX4_countSteps_114 rfl rfl ?_
    refine v_get C 0 10 iuX4 rfl rfl (by decide) m3_63 rfl rfl dX4_countSteps_115 ?_
    refine v_iload C 4 dX4_countSteps_118 rfl ?_
    refine v_iald C 9 rfl dX4_countSteps_120 h (fun h => ?_)
    refine v_iconst (v := 1) C dX4_countSteps_121 (by decide) ?_
    refine v_iadd C dX4_countSteps_122 ?_
    refine v_goto (tgt := 132) C dX4_countSteps_123 (by decide) ?_
    refine v_iast C (wM cI cJ aM thrown_M pins_M many_M nets_M lefts_M rights_M touches_M below_M reach_M tracksOf_M (upd steps_M x3.toNatClampNeg ((steps_M x4.toNatClampNeg) + 1)) laid_M laidMany_M tracks_M laidNet_M laidLeft_M laidRight_M laidTouch_M laidTrack_M ringSize_M ringOf_M lays_M refusals_M) 9 rfl dX4_countSteps_132 h rfl (fun h => ?_)
    refine v_iinc C [(4, .int (x4 + 1)), (5, .int s0), (0, .ref (aM 0)), (2, .int x2), (3, .int x3)] 4 dX4_countSteps_133 rfl rfl (by decide) rfl ?_
    refine v_goto (tgt := 56) C dX4_countSteps_136 (by decide) ?_
    refine v_perm [2, 3, 4, 0] rfl ?_
    cases h
    exact hl _ rfl
set_option maxHeartbeats 4000000 in
set_option maxRecDepth 100000 in
theorem t_X4_countSteps_J101 {p : Program} {l : Launch} {e : Env} {s : State} {m : MethodId} {args : Array Value} {below : List Frame} {meth : Method} {c : Code} {D : va_G} {A : Nat → Prop} {cI cJ : ClassId} {Q : State → Prop} (C : Cx p s m args c cX4_countSteps 6 RX4 D A cI cJ) {aM : Nat → Nat} {thrown_M : Int32} {pins_M : (Nat → Int32)} {many_M : Int32} {nets_M : (Nat → Int32)} {lefts_M : (Nat → Int32)} {rights_M : (Nat → Int32)} {touches_M : (Nat → Int32)} {below_M : (Nat → Int64)} {reach_M : (Nat → Int64)} {tracksOf_M : (Nat → Int32)} {steps_M : (Nat → Int32)} {laid_M : Int32} {laidMany_M : Int32} {tracks_M : Int32} {laidNet_M : (Nat → Int32)} {laidLeft_M : (Nat → Int32)} {laidRight_M : (Nat → Int32)} {laidTouch_M : (Nat → Int32)} {laidTrack_M : (Nat → Int32)} {ringSize_M : Int32} {ringOf_M : (Nat → Int32)} {lays_M : Int32} {refusals_M : Int32} {x2 : Int32} {x3 : Int32} {x4 : Int32} {o8 : (Int32 × (Nat → Int32)) ⊕ (Nat → Int32)} (h : f_X4_countSteps_J101 steps_M x3 x4 = some o8) (hl : ∀ s8, o8 = .inl s8 → V p l e (rmO 1 22) s m args below meth c 6 D A 0 0 Q 56 [(0, .ref (aM 0)), (2, .int x2), (3, .int x3), (4, .int s8.1)] [] (wM cI cJ aM thrown_M pins_M many_M nets_M lefts_M rights_M touches_M below_M reach_M tracksOf_M s8.2 laid_M laidMany_M tracks_M laidNet_M laidLeft_M laidRight_M laidTouch_M laidTrack_M ringSize_M ringOf_M lays_M refusals_M)) (hx : ∀ r8, o8 = .inr r8 → V p l e (rmO 1 22) s m args below meth c 6 D A 0 0 Q 139 [(0, .ref (aM 0)), (2, .int x2), (3, .int x3)] [] (wM cI cJ aM thrown_M pins_M many_M nets_M lefts_M rights_M touches_M below_M reach_M tracksOf_M r8 laid_M laidMany_M tracks_M laidNet_M laidLeft_M laidRight_M laidTouch_M laidTrack_M ringSize_M ringOf_M lays_M refusals_M)) : V p l e (rmO 1 22) s m args below meth c 6 D A 0 0 Q 101 [(0, .ref (aM 0)), (2, .int x2), (3, .int x3), (4, .int x4)] [] (wM cI cJ aM thrown_M pins_M many_M nets_M lefts_M rights_M touches_M below_M reach_M tracksOf_M steps_M laid_M laidMany_M tracks_M laidNet_M laidLeft_M laidRight_M laidTouch_M laidTrack_M ringSize_M ringOf_M lays_M refusals_M) := by
  unfold f_X4_countSteps_J101 at h
  refine v_iconst (v := 0) C dX4_countSteps_101 (by decide) ?_
  refine v_perm [0, 1, 2, 3] rfl ?_
  exact t_X4_countSteps_J102 C (steps_M := steps_M) (x3 := x3) (x4 := x4) (s0 := 0) h hl hx
set_option maxHeartbeats 4000000 in
set_option maxRecDepth 100000 in
theorem t_X4_countSteps_B56 {p : Program} {l : Launch} {e : Env} {s : State} {m : MethodId} {args : Array Value} {below : List Frame} {meth : Method} {c : Code} {D : va_G} {A : Nat → Prop} {cI cJ : ClassId} {Q : State → Prop} (C : Cx p s m args c cX4_countSteps 6 RX4 D A cI cJ) {aM : Nat → Nat} {x2 : Int32} {x3 : Int32} {thrown_M : Int32} {pins_M : (Nat → Int32)} {many_M : Int32} {nets_M : (Nat → Int32)} {lefts_M : (Nat → Int32)} {rights_M : (Nat → Int32)} {touches_M : (Nat → Int32)} {below_M : (Nat → Int64)} {reach_M : (Nat → Int64)} {tracksOf_M : (Nat → Int32)} {laid_M : Int32} {laidMany_M : Int32} {tracks_M : Int32} {laidNet_M : (Nat → Int32)} {laidLeft_M : (Nat → Int32)} {laidRight_M : (Nat → Int32)} {laidTouch_M : (Nat → Int32)} {laidTrack_M : (Nat → Int32)} {ringSize_M : Int32} {ringOf_M : (Nat → Int32)} {lays_M : Int32} {refusals_M : Int32} (s8 : (Int32 × (Nat → Int32))) (o8 : (Int32 × (Nat → Int32)) ⊕ (Nat → Int32)) (h : f_X4_countSteps_B56 x3 many_M below_M s8 = some o8) (hl : ∀ s8, o8 = .inl s8 → V p l e (rmO 1 22) s m args below meth c 6 D A 0 0 Q 56 [(0, .ref (aM 0)), (2, .int x2), (3, .int x3), (4, .int s8.1)] [] (wM cI cJ aM thrown_M pins_M many_M nets_M lefts_M rights_M touches_M below_M reach_M tracksOf_M s8.2 laid_M laidMany_M tracks_M laidNet_M laidLeft_M laidRight_M laidTouch_M laidTrack_M ringSize_M ringOf_M lays_M refusals_M)) (hx : ∀ r8, o8 = .inr r8 → V p l e (rmO 1 22) s m args below meth c 6 D A 0 0 Q 139 [(0, .ref (aM 0)), (2, .int x2), (3, .int x3)] [] (wM cI cJ aM thrown_M pins_M many_M nets_M lefts_M rights_M touches_M below_M reach_M tracksOf_M r8 laid_M laidMany_M tracks_M laidNet_M laidLeft_M laidRight_M laidTouch_M laidTrack_M ringSize_M ringOf_M lays_M refusals_M)) : V p l e (rmO 1 22) s m args below meth c 6 D A 0 0 Q 56 [(0, .ref (aM 0)), (2, .int x2), (3, .int x3), (4, .int s8.1)] [] (wM cI cJ aM thrown_M pins_M many_M nets_M lefts_M rights_M touches_M below_M reach_M tracksOf_M s8.2 laid_M laidMany_M tracks_M laidNet_M laidLeft_M laidRight_M laidTouch_M laidTrack_M ringSize_M ringOf_M lays_M refusals_M) := by
  obtain ⟨x4, steps_M⟩ := s8
  unfold f_X4_countSteps_B56 at h
  show V p l e (rmO 1 22) s m args below meth c 6 D A 0 0 Q 56 [(0, .ref (aM 0)), (2, .int x2), (3, .int x3), (4, .int x4)] [] (wM cI cJ aM thrown_M pins_M many_M nets_M lefts_M rights_M touches_M below_M reach_M tracksOf_M steps_M laid_M laidMany_M tracks_M laidNet_M laidLeft_M laidRight_M laidTouch_M laidTrack_M ringSize_M ringOf_M lays_M refusals_M)
  refine v_iload C 3 dX4_countSteps_56 rfl ?_
  refine v_aload_n C 0 dX4_countSteps_58 rfl rfl ?_
  refine v_get C 0 2 iuX4 rfl rfl (by decide) m3_55 rfl rfl dX4_countSteps_59 ?_
  refine v_icmp_ge (tgt := 139) C dX4_countSteps_62 (by decide) h (fun h => ?_) (fun h => ?_)
  · refine v_perm [0, 1, 2] rfl ?_
    cases h
    exact hx _ rfl
  · refine v_aload_n C 0 dX4_countSteps_65 rfl rfl ?_
    refine v_get C 0 7 iuX4 rfl rfl (by decide) m3_60 rfl rfl dX4_countSteps_66 ?_
    refine v_iload_n C 2 dX4_countSteps_69 rfl rfl ?_
    refine v_lald C 6 rfl dX4_countSteps_70 h (fun h => ?_)
    refine v_iload C 3 dX4_countSteps_71 rfl ?_
    obtain ⟨r, h1, h⟩ := bind_el h
    obtain ⟨r_2, rfl⟩ : ∃ z, z = r := ⟨_, rfl⟩
    try dsimp only at h
    refine v_callSi (As := [.long (below_M x3.toNatClampNeg), .int x4]) (st := []) (wr := [(aM 0, .inr (4, [.int thrown_M, .ref (aM 1), .int many_M, .ref (aM 2), .ref (aM 3), .ref (aM 4), .ref (aM 5), .ref (aM 6), .ref (aM 7), .ref (aM 8), .ref (aM 9), .int laid_M, .int laidMany_M, .int tracks_M, .ref (aM 10), .ref (aM 11), .ref (aM 12), .ref (aM 13), .ref (aM 14), .int ringSize_M, .ref (aM 15), .int lays_M, .int refusals_M])), (aM 1, .inl (cI, 40, .inl pins_M)), (aM 2, .inl (cI, 40, .inl nets_M)), (aM 3, .inl (cI, 40, .inl lefts_M)), (aM 4, .inl (cI, 40, .inl rights_M)), (aM 5, .inl (cI, 40, .inl touches_M)), (aM 6, .inl (cJ, 40, .inr (.inl below_M))), (aM 7, .inl (cJ, 40, .inr (.inl reach_M))), (aM 8, .inl (cI, 40, .inl tracksOf_M)), (aM 9, .inl (cI, 40, .inl steps_M)), (aM 10, .inl (cI, 40, .inl laidNet_M)), (aM 11, .inl (cI, 40, .inl laidLeft_M)), (aM 12, .inl (cI, 40, .inl laidRight_M)), (aM 13, .inl (cI, 40, .inl laidTouch_M)), (aM 14, .inl (cI, 40, .inl laidTrack_M)), (aM 15, .inl (cI, 40, .inl ringOf_M))]) (w1 := []) (ws' := (wM cI cJ aM thrown_M pins_M many_M nets_M lefts_M rights_M touches_M below_M reach_M tracksOf_M steps_M laid_M laidMany_M tracks_M laidNet_M laidLeft_M laidRight_M laidTouch_M laidTrack_M ringSize_M ringOf_M lays_M refusals_M)) (isC := []) (isR := [0, 1, 2, 3, 4, 5, 6, 7, 8, 9, 10, 11, 12, 13, 14, 15]) (pm := [0, 1, 2, 3, 4, 5, 6, 7, 8, 9, 10, 11, 12, 13, 14, 15]) C (c_X4_has l D cI cJ (below_M x3.toNatClampNeg) x4 r_2 h1) cw_X4_has m3_188 dX4_countSteps_73 rfl ⟨Nat.le_of_ble_eq_true rfl, Nat.le_of_ble_eq_true rfl⟩ (Nat.le_of_ble_eq_true rfl) ⟨Nat.le_refl 0, Nat.le_refl 0⟩ ⟨rfl, rfl, rfl, rfl, by decide, rfl, rfl⟩ ?_
    refine v_if_eq (tgt := 101) C dX4_countSteps_76 (by decide) h (fun h => ?_) (fun h => ?_)
    · refine v_perm [0, 1, 2, 3] rfl ?_
      exact t_X4_countSteps_J101 C (steps_M := steps_M) (x3 := x3) (x4 := x4) h hl hx
    · refine v_aload_n C 0 dX4_countSteps_79 rfl rfl ?_
      refine v_get C 0 10 iuX4 rfl rfl (by decide) m3_63 rfl rfl dX4_countSteps_80 ?_
      refine v_iload C 3 dX4_countSteps_83 rfl ?_
      refine v_iald C 9 rfl dX4_countSteps_85 h (fun h => ?_)
      refine v_iconst (v := 1) C dX4_countSteps_86 (by decide) ?_
      refine v_iadd C dX4_countSteps_87 ?_
      refine v_aload_n C 0 dX4_countSteps_88 rfl rfl ?_
      refine v_get C 0 10 iuX4 rfl rfl (by decide) m3_63 rfl rfl dX4_countSteps_89 ?_
      refine v_iload_n C 2 dX4_countSteps_92 rfl rfl ?_
      refine v_iald C 9 rfl dX4_countSteps_93 h (fun h => ?_)
      refine v_icmp_ge (tgt := 101) C dX4_countSteps_94 (by decide) h (fun h => ?_) (fun h => ?_)
      · refine v_perm [0, 1, 2, 3] rfl ?_
        exact t_X4_countSteps_J101 C (steps_M := steps_M) (x3 := x3) (x4 := x4) h hl hx
      · refine v_iconst (v := 1) C dX4_countSteps_97 (by decide) ?_
        refine v_goto (tgt := 102) C dX4_countSteps_98 (by decide) ?_
        refine v_perm [0, 1, 2, 3] rfl ?_
        exact t_X4_countSteps_J102 C (steps_M := steps_M) (x3 := x3) (x4 := x4) (s0 := 1) h hl hx
set_option maxHeartbeats 4000000 in
set_option maxRecDepth 100000 in
theorem t_X4_countSteps_L56 {p : Program} {l : Launch} {e : Env} {s : State} {m : MethodId} {args : Array Value} {below : List Frame} {meth : Method} {c : Code} {D : va_G} {A : Nat → Prop} {cI cJ : ClassId} {Q : State → Prop} (C : Cx p s m args c cX4_countSteps 6 RX4 D A cI cJ) {aM : Nat → Nat} {x2 : Int32} {x3 : Int32} {thrown_M : Int32} {pins_M : (Nat → Int32)} {many_M : Int32} {nets_M : (Nat → Int32)} {lefts_M : (Nat → Int32)} {rights_M : (Nat → Int32)} {touches_M : (Nat → Int32)} {below_M : (Nat → Int64)} {reach_M : (Nat → Int64)} {tracksOf_M : (Nat → Int32)} {laid_M : Int32} {laidMany_M : Int32} {tracks_M : Int32} {laidNet_M : (Nat → Int32)} {laidLeft_M : (Nat → Int32)} {laidRight_M : (Nat → Int32)} {laidTouch_M : (Nat → Int32)} {laidTrack_M : (Nat → Int32)} {ringSize_M : Int32} {ringOf_M : (Nat → Int32)} {lays_M : Int32} {refusals_M : Int32} {n8 : Nat} {s9 : (Int32 × (Nat → Int32))} {o8 : (Nat → Int32)} (h : lp (f_X4_countSteps_B56 x3 many_M below_M) n8 s9 = some o8) (hk : V p l e (rmO 1 22) s m args below meth c 6 D A 0 0 Q 139 [(0, .ref (aM 0)), (2, .int x2), (3, .int x3)] [] (wM cI cJ aM thrown_M pins_M many_M nets_M lefts_M rights_M touches_M below_M reach_M tracksOf_M o8 laid_M laidMany_M tracks_M laidNet_M laidLeft_M laidRight_M laidTouch_M laidTrack_M ringSize_M ringOf_M lays_M refusals_M)) : V p l e (rmO 1 22) s m args below meth c 6 D A 0 0 Q 56 [(0, .ref (aM 0)), (2, .int x2), (3, .int x3), (4, .int s9.1)] [] (wM cI cJ aM thrown_M pins_M many_M nets_M lefts_M rights_M touches_M below_M reach_M tracksOf_M s9.2 laid_M laidMany_M tracks_M laidNet_M laidLeft_M laidRight_M laidTouch_M laidTrack_M ringSize_M ringOf_M lays_M refusals_M) := lp_ok (Pσ := fun s8 => V p l e (rmO 1 22) s m args below meth c 6 D A 0 0 Q 56 [(0, .ref (aM 0)), (2, .int x2), (3, .int x3), (4, .int s8.1)] [] (wM cI cJ aM thrown_M pins_M many_M nets_M lefts_M rights_M touches_M below_M reach_M tracksOf_M s8.2 laid_M laidMany_M tracks_M laidNet_M laidLeft_M laidRight_M laidTouch_M laidTrack_M ringSize_M ringOf_M lays_M refusals_M)) (Pρ := fun r8 => V p l e (rmO 1 22) s m args below meth c 6 D A 0 0 Q 139 [(0, .ref (aM 0)), (2, .int x2), (3, .int x3)] [] (wM cI cJ aM thrown_M pins_M many_M nets_M lefts_M rights_M touches_M below_M reach_M tracksOf_M r8 laid_M laidMany_M tracks_M laidNet_M laidLeft_M laidRight_M laidTouch_M laidTrack_M ringSize_M ringOf_M lays_M refusals_M)) (fun s o h hl hx => t_X4_countSteps_B56 C s o h hl hx) n8 s9 o8 h hk
set_option maxHeartbeats 4000000 in
set_option maxRecDepth 100000 in
theorem t_X4_countSteps_B45 {p : Program} {l : Launch} {e : Env} {s : State} {m : MethodId} {args : Array Value} {below : List Frame} {meth : Method} {c : Code} {D : va_G} {A : Nat → Prop} {cI cJ : ClassId} {Q : State → Prop} (C : Cx p s m args c cX4_countSteps 6 RX4 D A cI cJ) {aM : Nat → Nat} {x2 : Int32} {thrown_M : Int32} {pins_M : (Nat → Int32)} {many_M : Int32} {nets_M : (Nat → Int32)} {lefts_M : (Nat → Int32)} {rights_M : (Nat → Int32)} {touches_M : (Nat → Int32)} {below_M : (Nat → Int64)} {reach_M : (Nat → Int64)} {tracksOf_M : (Nat → Int32)} {laid_M : Int32} {laidMany_M : Int32} {tracks_M : Int32} {laidNet_M : (Nat → Int32)} {laidLeft_M : (Nat → Int32)} {laidRight_M : (Nat → Int32)} {laidTouch_M : (Nat → Int32)} {laidTrack_M : (Nat → Int32)} {ringSize_M : Int32} {ringOf_M : (Nat → Int32)} {lays_M : Int32} {refusals_M : Int32} (s8 : (Int32 × (Nat → Int32))) (o8 : (Int32 × (Nat → Int32)) ⊕ (Nat → Int32)) (h : f_X4_countSteps_B45 many_M below_M s8 = some o8) (hl : ∀ s8, o8 = .inl s8 → V p l e (rmO 1 22) s m args below meth c 6 D A 0 0 Q 45 [(0, .ref (aM 0)), (2, .int x2), (3, .int s8.1)] [] (wM cI cJ aM thrown_M pins_M many_M nets_M lefts_M rights_M touches_M below_M reach_M tracksOf_M s8.2 laid_M laidMany_M tracks_M laidNet_M laidLeft_M laidRight_M laidTouch_M laidTrack_M ringSize_M ringOf_M lays_M refusals_M)) (hx : ∀ r8, o8 = .inr r8 → V p l e (rmO 1 22) s m args below meth c 6 D A 0 0 Q 145 [(0, .ref (aM 0)), (2, .int x2)] [] (wM cI cJ aM thrown_M pins_M many_M nets_M lefts_M rights_M touches_M below_M reach_M tracksOf_M r8 laid_M laidMany_M tracks_M laidNet_M laidLeft_M laidRight_M laidTouch_M laidTrack_M ringSize_M ringOf_M lays_M refusals_M)) : V p l e (rmO 1 22) s m args below meth c 6 D A 0 0 Q 45 [(0, .ref (aM 0)), (2, .int x2), (3, .int s8.1)] [] (wM cI cJ aM thrown_M pins_M many_M nets_M lefts_M rights_M touches_M below_M reach_M tracksOf_M s8.2 laid_M laidMany_M tracks_M laidNet_M laidLeft_M laidRight_M laidTouch_M laidTrack_M ringSize_M ringOf_M lays_M refusals_M) := by
  obtain ⟨x3, steps_M⟩ := s8
  unfold f_X4_countSteps_B45 at h
  show V p l e (rmO 1 22) s m args below meth c 6 D A 0 0 Q 45 [(0, .ref (aM 0)), (2, .int x2), (3, .int x3)] [] (wM cI cJ aM thrown_M pins_M many_M nets_M lefts_M rights_M touches_M below_M reach_M tracksOf_M steps_M laid_M laidMany_M tracks_M laidNet_M laidLeft_M laidRight_M laidTouch_M laidTrack_M ringSize_M ringOf_M lays_M refusals_M)
  refine v_iload_n C 2 dX4_countSteps_45 rfl rfl ?_
  refine v_aload_n C 0 dX4_countSteps_46 rfl rfl ?_
  refine v_get C 0 2 iuX4 rfl rfl (by decide) m3_55 rfl rfl dX4_countSteps_47 ?_
  refine v_icmp_ge (tgt := 145) C dX4_countSteps_50 (by decide) h (fun h => ?_) (fun h => ?_)
  · refine v_perm [0, 1] rfl ?_
    cases h
    exact hx _ rfl
  · refine v_iconst (v := 0) C dX4_countSteps_53 (by decide) ?_
    refine v_istore C [(4, .int 0), (0, .ref (aM 0)), (2, .int x2), (3, .int x3)] dX4_countSteps_54 (by decide) rfl ?_
    obtain ⟨r, h1, h⟩ := bind_el h
    refine v_perm [1, 2, 3, 0] rfl ?_
    obtain ⟨steps_M_3, rfl⟩ : ∃ z, z = r := ⟨_, rfl⟩
    refine t_X4_countSteps_L56 C (s9 := (0, steps_M)) h1 ?_
    show V p l e (rmO 1 22) s m args below meth c 6 D A 0 0 Q 139 [(0, .ref (aM 0)), (2, .int x2), (3, .int x3)] [] (wM cI cJ aM thrown_M pins_M many_M nets_M lefts_M rights_M touches_M below_M reach_M tracksOf_M steps_M_3 laid_M laidMany_M tracks_M laidNet_M laidLeft_M laidRight_M laidTouch_M laidTrack_M ringSize_M ringOf_M lays_M refusals_M)
    try dsimp only at h
    refine v_iinc C [(3, .int (x3 + 1)), (0, .ref (aM 0)), (2, .int x2)] 2 dX4_countSteps_139 rfl rfl (by decide) rfl ?_
    refine v_goto (tgt := 45) C dX4_countSteps_142 (by decide) ?_
    refine v_perm [1, 2, 0] rfl ?_
    cases h
    exact hl _ rfl
set_option maxHeartbeats 4000000 in
set_option maxRecDepth 100000 in
theorem t_X4_countSteps_L45 {p : Program} {l : Launch} {e : Env} {s : State} {m : MethodId} {args : Array Value} {below : List Frame} {meth : Method} {c : Code} {D : va_G} {A : Nat → Prop} {cI cJ : ClassId} {Q : State → Prop} (C : Cx p s m args c cX4_countSteps 6 RX4 D A cI cJ) {aM : Nat → Nat} {x2 : Int32} {thrown_M : Int32} {pins_M : (Nat → Int32)} {many_M : Int32} {nets_M : (Nat → Int32)} {lefts_M : (Nat → Int32)} {rights_M : (Nat → Int32)} {touches_M : (Nat → Int32)} {below_M : (Nat → Int64)} {reach_M : (Nat → Int64)} {tracksOf_M : (Nat → Int32)} {laid_M : Int32} {laidMany_M : Int32} {tracks_M : Int32} {laidNet_M : (Nat → Int32)} {laidLeft_M : (Nat → Int32)} {laidRight_M : (Nat → Int32)} {laidTouch_M : (Nat → Int32)} {laidTrack_M : (Nat → Int32)} {ringSize_M : Int32} {ringOf_M : (Nat → Int32)} {lays_M : Int32} {refusals_M : Int32} {n8 : Nat} {s9 : (Int32 × (Nat → Int32))} {o8 : (Nat → Int32)} (h : lp (f_X4_countSteps_B45 many_M below_M) n8 s9 = some o8) (hk : V p l e (rmO 1 22) s m args below meth c 6 D A 0 0 Q 145 [(0, .ref (aM 0)), (2, .int x2)] [] (wM cI cJ aM thrown_M pins_M many_M nets_M lefts_M rights_M touches_M below_M reach_M tracksOf_M o8 laid_M laidMany_M tracks_M laidNet_M laidLeft_M laidRight_M laidTouch_M laidTrack_M ringSize_M ringOf_M lays_M refusals_M)) : V p l e (rmO 1 22) s m args below meth c 6 D A 0 0 Q 45 [(0, .ref (aM 0)), (2, .int x2), (3, .int s9.1)] [] (wM cI cJ aM thrown_M pins_M many_M nets_M lefts_M rights_M touches_M below_M reach_M tracksOf_M s9.2 laid_M laidMany_M tracks_M laidNet_M laidLeft_M laidRight_M laidTouch_M laidTrack_M ringSize_M ringOf_M lays_M refusals_M) := lp_ok (Pσ := fun s8 => V p l e (rmO 1 22) s m args below meth c 6 D A 0 0 Q 45 [(0, .ref (aM 0)), (2, .int x2), (3, .int s8.1)] [] (wM cI cJ aM thrown_M pins_M many_M nets_M lefts_M rights_M touches_M below_M reach_M tracksOf_M s8.2 laid_M laidMany_M tracks_M laidNet_M laidLeft_M laidRight_M laidTouch_M laidTrack_M ringSize_M ringOf_M lays_M refusals_M)) (Pρ := fun r8 => V p l e (rmO 1 22) s m args below meth c 6 D A 0 0 Q 145 [(0, .ref (aM 0)), (2, .int x2)] [] (wM cI cJ aM thrown_M pins_M many_M nets_M lefts_M rights_M touches_M below_M reach_M tracksOf_M r8 laid_M laidMany_M tracks_M laidNet_M laidLeft_M laidRight_M laidTouch_M laidTrack_M ringSize_M ringOf_M lays_M refusals_M)) (fun s o h hl hx => t_X4_countSteps_B45 C s o h hl hx) n8 s9 o8 h hk
set_option maxHeartbeats 4000000 in
set_option maxRecDepth 100000 in
theorem t_X4_countSteps_B35 {p : Program} {l : Launch} {e : Env} {s : State} {m : MethodId} {args : Array Value} {below : List Frame} {meth : Method} {c : Code} {D : va_G} {A : Nat → Prop} {cI cJ : ClassId} {Q : State → Prop} (C : Cx p s m args c cX4_countSteps 6 RX4 D A cI cJ) {aM : Nat → Nat} {thrown_M : Int32} {pins_M : (Nat → Int32)} {many_M : Int32} {nets_M : (Nat → Int32)} {lefts_M : (Nat → Int32)} {rights_M : (Nat → Int32)} {touches_M : (Nat → Int32)} {below_M : (Nat → Int64)} {reach_M : (Nat → Int64)} {tracksOf_M : (Nat → Int32)} {laid_M : Int32} {laidMany_M : Int32} {tracks_M : Int32} {laidNet_M : (Nat → Int32)} {laidLeft_M : (Nat → Int32)} {laidRight_M : (Nat → Int32)} {laidTouch_M : (Nat → Int32)} {laidTrack_M : (Nat → Int32)} {ringSize_M : Int32} {ringOf_M : (Nat → Int32)} {lays_M : Int32} {refusals_M : Int32} (s8 : (Int32 × (Nat → Int32))) (o8 : (Int32 × (Nat → Int32)) ⊕ (Nat → Int32)) (h : f_X4_countSteps_B35 many_M below_M s8 = some o8) (hl : ∀ s8, o8 = .inl s8 → V p l e (rmO 1 22) s m args below meth c 6 D A 0 0 Q 35 [(0, .ref (aM 0)), (2, .int s8.1)] [] (wM cI cJ aM thrown_M pins_M many_M nets_M lefts_M rights_M touches_M below_M reach_M tracksOf_M s8.2 laid_M laidMany_M tracks_M laidNet_M laidLeft_M laidRight_M laidTouch_M laidTrack_M ringSize_M ringOf_M lays_M refusals_M)) (hx : ∀ r8, o8 = .inr r8 → V p l e (rmO 1 22) s m args below meth c 6 D A 0 0 Q 151 [] [] (wM cI cJ aM thrown_M pins_M many_M nets_M lefts_M rights_M touches_M below_M reach_M tracksOf_M r8 laid_M laidMany_M tracks_M laidNet_M laidLeft_M laidRight_M laidTouch_M laidTrack_M ringSize_M ringOf_M lays_M refusals_M)) : V p l e (rmO 1 22) s m args below meth c 6 D A 0 0 Q 35 [(0, .ref (aM 0)), (2, .int s8.1)] [] (wM cI cJ aM thrown_M pins_M many_M nets_M lefts_M rights_M touches_M below_M reach_M tracksOf_M s8.2 laid_M laidMany_M tracks_M laidNet_M laidLeft_M laidRight_M laidTouch_M laidTrack_M ringSize_M ringOf_M lays_M refusals_M) := by
  obtain ⟨x2, steps_M⟩ := s8
  unfold f_X4_countSteps_B35 at h
  show V p l e (rmO 1 22) s m args below meth c 6 D A 0 0 Q 35 [(0, .ref (aM 0)), (2, .int x2)] [] (wM cI cJ aM thrown_M pins_M many_M nets_M lefts_M rights_M touches_M below_M reach_M tracksOf_M steps_M laid_M laidMany_M tracks_M laidNet_M laidLeft_M laidRight_M laidTouch_M laidTrack_M ringSize_M ringOf_M lays_M refusals_M)
  refine v_iload_n C 1 dX4_countSteps_35 rfl rfl ?_
  refine v_aload_n C 0 dX4_countSteps_36 rfl rfl ?_
  refine v_get C 0 2 iuX4 rfl rfl (by decide) m3_55 rfl rfl dX4_countSteps_37 ?_
  refine v_icmp_ge (tgt := 151) C dX4_countSteps_40 (by decide) h (fun h => ?_) (fun h => ?_)
  · refine v_perm [] rfl ?_
    cases h
    exact hx _ rfl
  · refine v_iconst (v := 0) C dX4_countSteps_43 (by decide) ?_
    refine v_istore_n C [(3, .int 0), (0, .ref (aM 0)), (2, .int x2)] dX4_countSteps_44 rfl (by decide) rfl ?_
    obtain ⟨r, h1, h⟩ := bind_el h
    refine v_perm [1, 2, 0] rfl ?_
    obtain ⟨steps_M_4, rfl⟩ : ∃ z, z = r := ⟨_, rfl⟩
    refine t_X4_countSteps_L45 C (s9 := (0, steps_M)) h1 ?_
    show V p l e (rmO 1 22) s m args below meth c 6 D A 0 0 Q 145 [(0, .ref (aM 0)), (2, .int x2)] [] (wM cI cJ aM thrown_M pins_M many_M nets_M lefts_M rights_M touches_M below_M reach_M tracksOf_M steps_M_4 laid_M laidMany_M tracks_M laidNet_M laidLeft_M laidRight_M laidTouch_M laidTrack_M ringSize_M ringOf_M lays_M refusals_M)
    try dsimp only at h
    refine v_iinc C [(2, .int (x2 + 1)), (0, .ref (aM 0))] 1 dX4_countSteps_145 rfl rfl (by decide) rfl ?_
    refine v_goto (tgt := 35) C dX4_countSteps_148 (by decide) ?_
    refine v_perm [1, 0] rfl ?_
    cases h
    exact hl _ rfl
set_option maxHeartbeats 4000000 in
set_option maxRecDepth 100000 in
theorem t_X4_countSteps_L35 {p : Program} {l : Launch} {e : Env} {s : State} {m : MethodId} {args : Array Value} {below : List Frame} {meth : Method} {c : Code} {D : va_G} {A : Nat → Prop} {cI cJ : ClassId} {Q : State → Prop} (C : Cx p s m args c cX4_countSteps 6 RX4 D A cI cJ) {aM : Nat → Nat} {thrown_M : Int32} {pins_M : (Nat → Int32)} {many_M : Int32} {nets_M : (Nat → Int32)} {lefts_M : (Nat → Int32)} {rights_M : (Nat → Int32)} {touches_M : (Nat → Int32)} {below_M : (Nat → Int64)} {reach_M : (Nat → Int64)} {tracksOf_M : (Nat → Int32)} {laid_M : Int32} {laidMany_M : Int32} {tracks_M : Int32} {laidNet_M : (Nat → Int32)} {laidLeft_M : (Nat → Int32)} {laidRight_M : (Nat → Int32)} {laidTouch_M : (Nat → Int32)} {laidTrack_M : (Nat → Int32)} {ringSize_M : Int32} {ringOf_M : (Nat → Int32)} {lays_M : Int32} {refusals_M : Int32} {n8 : Nat} {s9 : (Int32 × (Nat → Int32))} {o8 : (Nat → Int32)} (h : lp (f_X4_countSteps_B35 many_M below_M) n8 s9 = some o8) (hk : V p l e (rmO 1 22) s m args below meth c 6 D A 0 0 Q 151 [] [] (wM cI cJ aM thrown_M pins_M many_M nets_M lefts_M rights_M touches_M below_M reach_M tracksOf_M o8 laid_M laidMany_M tracks_M laidNet_M laidLeft_M laidRight_M laidTouch_M laidTrack_M ringSize_M ringOf_M lays_M refusals_M)) : V p l e (rmO 1 22) s m args below meth c 6 D A 0 0 Q 35 [(0, .ref (aM 0)), (2, .int s9.1)] [] (wM cI cJ aM thrown_M pins_M many_M nets_M lefts_M rights_M touches_M below_M reach_M tracksOf_M s9.2 laid_M laidMany_M tracks_M laidNet_M laidLeft_M laidRight_M laidTouch_M laidTrack_M ringSize_M ringOf_M lays_M refusals_M) := lp_ok (Pσ := fun s8 => V p l e (rmO 1 22) s m args below meth c 6 D A 0 0 Q 35 [(0, .ref (aM 0)), (2, .int s8.1)] [] (wM cI cJ aM thrown_M pins_M many_M nets_M lefts_M rights_M touches_M below_M reach_M tracksOf_M s8.2 laid_M laidMany_M tracks_M laidNet_M laidLeft_M laidRight_M laidTouch_M laidTrack_M ringSize_M ringOf_M lays_M refusals_M)) (Pρ := fun r8 => V p l e (rmO 1 22) s m args below meth c 6 D A 0 0 Q 151 [] [] (wM cI cJ aM thrown_M pins_M many_M nets_M lefts_M rights_M touches_M below_M reach_M tracksOf_M r8 laid_M laidMany_M tracks_M laidNet_M laidLeft_M laidRight_M laidTouch_M laidTrack_M ringSize_M ringOf_M lays_M refusals_M)) (fun s o h hl hx => t_X4_countSteps_B35 C s o h hl hx) n8 s9 o8 h hk
set_option maxHeartbeats 4000000 in
set_option maxRecDepth 100000 in
theorem c_X4_countSteps (l : Launch) (D : va_G) (cI cJ : ClassId) (aM : Nat → Nat) (thrown_M : Int32) (pins_M : (Nat → Int32)) (many_M : Int32) (nets_M : (Nat → Int32)) (lefts_M : (Nat → Int32)) (rights_M : (Nat → Int32)) (touches_M : (Nat → Int32)) (below_M : (Nat → Int64)) (reach_M : (Nat → Int64)) (tracksOf_M : (Nat → Int32)) (steps_M : (Nat → Int32)) (laid_M : Int32) (laidMany_M : Int32) (tracks_M : Int32) (laidNet_M : (Nat → Int32)) (laidLeft_M : (Nat → Int32)) (laidRight_M : (Nat → Int32)) (laidTouch_M : (Nat → Int32)) (laidTrack_M : (Nat → Int32)) (ringSize_M : Int32) (ringOf_M : (Nat → Int32)) (lays_M : Int32) (refusals_M : Int32) (x1 : Int32) (steps_M' : (Nat → Int32)) (h : f_X4_countSteps many_M below_M steps_M x1 = some steps_M') : Ctv l D cI cJ yX4_countSteps cX4_countSteps 6 none 1 22 [.ref (aM 0), .int x1] (wM cI cJ aM thrown_M pins_M many_M nets_M lefts_M rights_M touches_M below_M reach_M tracksOf_M steps_M laid_M laidMany_M tracks_M laidNet_M laidLeft_M laidRight_M laidTouch_M laidTrack_M ringSize_M ringOf_M lays_M refusals_M) (wM cI cJ aM thrown_M pins_M many_M nets_M lefts_M rights_M touches_M below_M reach_M tracksOf_M steps_M' laid_M laidMany_M tracks_M laidNet_M laidLeft_M laidRight_M laidTouch_M laidTrack_M ringSize_M ringOf_M lays_M refusals_M) := by
  refine mk_v [(0, .ref (aM 0)), (1, .int x1)] (by decide) rfl (Nat.le_of_ble_eq_true rfl) rfl (fun p e s m args below meth c A Q C hk => ?_)
  unfold f_X4_countSteps at h
  refine v_iconst (v := 0) C dX4_countSteps_0 (by decide) ?_
  refine v_istore_n C [(2, .int 0), (0, .ref (aM 0)), (1, .int x1)] dX4_countSteps_1 rfl (by decide) rfl ?_
  obtain ⟨r, h1, h⟩ := bind_el h
  refine v_perm [1, 2, 0] rfl ?_
  obtain ⟨steps_M_1, rfl⟩ : ∃ z, z = r := ⟨_, rfl⟩
  refine t_X4_countSteps_L2 C (s9 := (0, steps_M)) h1 ?_
  show V p l e (rmO 1 22) s m args below meth c 6 D A 0 0 Q 33 [(0, .ref (aM 0))] [] (wM cI cJ aM thrown_M pins_M many_M nets_M lefts_M rights_M touches_M below_M reach_M tracksOf_M steps_M_1 laid_M laidMany_M tracks_M laidNet_M laidLeft_M laidRight_M laidTouch_M laidTrack_M ringSize_M ringOf_M lays_M refusals_M)
  try dsimp only at h
  refine v_iconst (v := 0) C dX4_countSteps_33 (by decide) ?_
  refine v_istore_n C [(2, .int 0), (0, .ref (aM 0))] dX4_countSteps_34 rfl (by decide) rfl ?_
  obtain ⟨r, h1, h⟩ := bind_el h
  refine v_perm [1, 0] rfl ?_
  obtain ⟨steps_M_5, rfl⟩ : ∃ z, z = r := ⟨_, rfl⟩
  refine t_X4_countSteps_L35 C (s9 := (0, steps_M_1)) h1 ?_
  show V p l e (rmO 1 22) s m args below meth c 6 D A 0 0 Q 151 [] [] (wM cI cJ aM thrown_M pins_M many_M nets_M lefts_M rights_M touches_M below_M reach_M tracksOf_M steps_M_5 laid_M laidMany_M tracks_M laidNet_M laidLeft_M laidRight_M laidTouch_M laidTrack_M ringSize_M ringOf_M lays_M refusals_M)
  try dsimp only at h
  cases h
  exact hk _ _ dX4_countSteps_151
def f_X4_tellRing_B44 (x2 : Int32) (many_M : Int32) (below_M : (Nat → Int64)) (steps_M : (Nat → Int32)) : (Int32 × Int32) → Option ((Int32 × Int32) ⊕ Int32)
  | (x4, x5) => if many_M ≤ x5 then (some (.inr x4)) else (bnd x2 40 ((f_X4_has (below_M x2.toNatClampNeg) x5).bind (fun r => match r with | r_2 => if r_2 = 0 then (if (0 : Int32) = 0 then (some (.inl (x4, x5 + 1))) else (some (.inl (x5, x5 + 1)))) else (if x4 < 0 then (if (1 : Int32) = 0 then (some (.inl (x4, x5 + 1))) else (some (.inl (x5, x5 + 1)))) else (bnd x5 40 (bnd x4 40 (if (steps_M x4.toNatClampNeg) ≤ (steps_M x5.toNatClampNeg) then (if (0 : Int32) = 0 then (some (.inl (x4, x5 + 1))) else (some (.inl (x5, x5 + 1)))) else (if (1 : Int32) = 0 then (some (.inl (x4, x5 + 1))) else (some (.inl (x5, x5 + 1)))))))))))
def f_X4_tellRing_B14 (x1 : Int32) (many_M : Int32) (below_M : (Nat → Int64)) (steps_M : (Nat → Int32)) : (Int32 × Int32 × Int32 × (Nat → Int32)) → Option ((Int32 × Int32 × Int32 × (Nat → Int32)) ⊕ (Int32 × (Nat → Int32)))
  | (x2, x3, ringSize_M, ringOf_M) => if x3 = 0 then (some (.inr (ringSize_M, ringOf_M))) else (bnd ringSize_M 40 ((lp (f_X4_tellRing_B44 x2 many_M below_M steps_M) 64 (((-1), 0))).bind (fun r => match r with | x4_3 => if x4_3 = x1 then (some (.inl (x4_3, 0, ringSize_M + 1, upd ringOf_M ringSize_M.toNatClampNeg x2))) else (some (.inl (x4_3, 1, ringSize_M + 1, upd ringOf_M ringSize_M.toNatClampNeg x2))))))
def f_X4_tellRing (many_M : Int32) (below_M : (Nat → Int64)) (steps_M : (Nat → Int32)) (ringOf_M : (Nat → Int32)) (x1 : Int32) : Option ((Nat → Int32) × Int32 × (Nat → Int32)) := (f_X4_countSteps many_M below_M steps_M x1).bind (fun r => match r with | steps_M_1 => (lp (f_X4_tellRing_B14 x1 many_M below_M steps_M_1) 64 (x1, 1, 0, ringOf_M)).bind (fun r => match r with | (ringSize_M_4, ringOf_M_5) => some (steps_M_1, ringSize_M_4, ringOf_M_5)))
theorem cw_X4_tellRing : CWv yX4_tellRing cX4_tellRing 7 none RX4 1 := ⟨m3_193, ms4_6, m1_5, m3_194, rfl, by decide, by decide, by decide +kernel⟩
set_option maxHeartbeats 4000000 in
set_option maxRecDepth 100000 in
theorem t_X4_tellRing_B44 {p : Program} {l : Launch} {e : Env} {s : State} {m : MethodId} {args : Array Value} {below : List Frame} {meth : Method} {c : Code} {D : va_G} {A : Nat → Prop} {cI cJ : ClassId} {Q : State → Prop} (C : Cx p s m args c cX4_tellRing 7 RX4 D A cI cJ) {aM : Nat → Nat} {x1 : Int32} {x2 : Int32} {thrown_M : Int32} {pins_M : (Nat → Int32)} {many_M : Int32} {nets_M : (Nat → Int32)} {lefts_M : (Nat → Int32)} {rights_M : (Nat → Int32)} {touches_M : (Nat → Int32)} {below_M : (Nat → Int64)} {reach_M : (Nat → Int64)} {tracksOf_M : (Nat → Int32)} {steps_M : (Nat → Int32)} {laid_M : Int32} {laidMany_M : Int32} {tracks_M : Int32} {laidNet_M : (Nat → Int32)} {laidLeft_M : (Nat → Int32)} {laidRight_M : (Nat → Int32)} {laidTouch_M : (Nat → Int32)} {laidTrack_M : (Nat → Int32)} {ringSize_M : Int32} {ringOf_M : (Nat → Int32)} {lays_M : Int32} {refusals_M : Int32} (s8 : (Int32 × Int32)) (o8 : (Int32 × Int32) ⊕ Int32) (h : f_X4_tellRing_B44 x2 many_M below_M steps_M s8 = some o8) (hl : ∀ s8, o8 = .inl s8 → V p l e (rmO 2 47) s m args below meth c 7 D A 0 0 Q 44 [(0, .ref (aM 0)), (1, .int x1), (2, .int x2), (4, .int s8.1), (5, .int s8.2)] [] (wM cI cJ aM thrown_M pins_M many_M nets_M lefts_M rights_M touches_M below_M reach_M tracksOf_M steps_M laid_M laidMany_M tracks_M laidNet_M laidLeft_M laidRight_M laidTouch_M laidTrack_M ringSize_M ringOf_M lays_M refusals_M)) (hx : ∀ r8, o8 = .inr r8 → V p l e (rmO 2 47) s m args below meth c 7 D A 0 0 Q 116 [(0, .ref (aM 0)), (1, .int x1), (4, .int r8)] [] (wM cI cJ aM thrown_M pins_M many_M nets_M lefts_M rights_M touches_M below_M reach_M tracksOf_M steps_M laid_M laidMany_M tracks_M laidNet_M laidLeft_M laidRight_M laidTouch_M laidTrack_M ringSize_M ringOf_M lays_M refusals_M)) : V p l e (rmO 2 47) s m args below meth c 7 D A 0 0 Q 44 [(0, .ref (aM 0)), (1, .int x1), (2, .int x2), (4, .int s8.1), (5, .int s8.2)] [] (wM cI cJ aM thrown_M pins_M many_M nets_M lefts_M rights_M touches_M below_M reach_M tracksOf_M steps_M laid_M laidMany_M tracks_M laidNet_M laidLeft_M laidRight_M laidTouch_M laidTrack_M ringSize_M ringOf_M lays_M refusals_M) := by
  obtain ⟨x4, x5⟩ := s8
  unfold f_X4_tellRing_B44 at h
  show V p l e (rmO 2 47) s m args below meth c 7 D A 0 0 Q 44 [(0, .ref (aM 0)), (1, .int x1), (2, .int x2), (4, .int x4), (5, .int x5)] [] (wM cI cJ aM thrown_M pins_M many_M nets_M lefts_M rights_M touches_M below_M reach_M tracksOf_M steps_M laid_M laidMany_M tracks_M laidNet_M laidLeft_M laidRight_M laidTouch_M laidTrack_M ringSize_M ringOf_M lays_M refusals_M)
  refine v_iload C 4 dX4_tellRing_44 rfl ?_
  refine v_aload_n C 0 dX4_tellRing_46 rfl rfl ?_
  refine v_get C 0 2 iuX4 rfl rfl (by decide) m3_55 rfl rfl dX4_tellRing_47 ?_
  refine v_icmp_ge (tgt := 116) C dX4_tellRing_50 (by decide) h (fun h => ?_) (fun h => ?_)
  · refine v_perm [0, 1, 3] rfl ?_
    cases h
    exact hx _ rfl
  · refine v_aload_n C 0 dX4_tellRing_53 rfl rfl ?_
    refine v_get C 0 7 iuX4 rfl rfl (by decide) m3_60 rfl rfl dX4_tellRing_54 ?_
    refine v_iload_n C 2 dX4_tellRing_57 rfl rfl ?_
    refine v_lald C 6 rfl dX4_tellRing_58 h (fun h => ?_)
    refine v_iload C 4 dX4_tellRing_59 rfl ?_
    obtain ⟨r, h1, h⟩ := bind_el h
    obtain ⟨r_2, rfl⟩ : ∃ z, z = r := ⟨_, rfl⟩
    try dsimp only at h
    refine v_callSi (As := [.long (below_M x2.toNatClampNeg), .int x5]) (st := []) (wr := [(aM 0, .inr (4, [.int thrown_M, .ref (aM 1), .int many_M, .ref (aM 2), .ref (aM 3), .ref (aM 4), .ref (aM 5), .ref (aM 6), .ref (aM 7), .ref (aM 8), .ref (aM 9), .int laid_M, .int laidMany_M, .int tracks_M, .ref (aM 10), .ref (aM 11), .ref (aM 12), .ref (aM 13), .ref (aM 14), .int ringSize_M, .ref (aM 15), .int lays_M, .int refusals_M])), (aM 1, .inl (cI, 40, .inl pins_M)), (aM 2, .inl (cI, 40, .inl nets_M)), (aM 3, .inl (cI, 40, .inl lefts_M)), (aM 4, .inl (cI, 40, .inl rights_M)), (aM 5, .inl (cI, 40, .inl touches_M)), (aM 6, .inl (cJ, 40, .inr (.inl below_M))), (aM 7, .inl (cJ, 40, .inr (.inl reach_M))), (aM 8, .inl (cI, 40, .inl tracksOf_M)), (aM 9, .inl (cI, 40, .inl steps_M)), (aM 10, .inl (cI, 40, .inl laidNet_M)), (aM 11, .inl (cI, 40, .inl laidLeft_M)), (aM 12, .inl (cI, 40, .inl laidRight_M)), (aM 13, .inl (cI, 40, .inl laidTouch_M)), (aM 14, .inl (cI, 40, .inl laidTrack_M)), (aM 15, .inl (cI, 40, .inl ringOf_M))]) (w1 := []) (ws' := (wM cI cJ aM thrown_M pins_M many_M nets_M lefts_M rights_M touches_M below_M reach_M tracksOf_M steps_M laid_M laidMany_M tracks_M laidNet_M laidLeft_M laidRight_M laidTouch_M laidTrack_M ringSize_M ringOf_M lays_M refusals_M)) (isC := []) (isR := [0, 1, 2, 3, 4, 5, 6, 7, 8, 9, 10, 11, 12, 13, 14, 15]) (pm := [0, 1, 2, 3, 4, 5, 6, 7, 8, 9, 10, 11, 12, 13, 14, 15]) C (c_X4_has l D cI cJ (below_M x2.toNatClampNeg) x5 r_2 h1) cw_X4_has m3_188 dX4_tellRing_61 rfl ⟨Nat.le_of_ble_eq_true rfl, Nat.le_of_ble_eq_true rfl⟩ (Nat.le_of_ble_eq_true rfl) ⟨Nat.le_refl 0, Nat.le_refl 0⟩ ⟨rfl, rfl, rfl, rfl, by decide, rfl, rfl⟩ ?_
    refine v_if_eq (tgt := 93) C dX4_tellRing_64 (by decide) h (fun h => ?_) (fun h => ?_)
    · refine v_iconst (v := 0) C dX4_tellRing_93 (by decide) ?_
      refine v_istore C [(6, .int 0), (0, .ref (aM 0)), (1, .int x1), (2, .int x2), (4, .int x4), (5, .int x5)] dX4_tellRing_94 (by decide) rfl ?_
      refine v_iload C 0 dX4_tellRing_96 rfl ?_
      refine v_if_eq (tgt := 106) C dX4_tellRing_98 (by decide) h (fun h => ?_) (fun h => ?_)
      · refine v_iload C 4 dX4_tellRing_106 rfl ?_
        refine v_istore C [(4, .int x4), (6, .int 0), (0, .ref (aM 0)), (1, .int x1), (2, .int x2), (5, .int x5)] dX4_tellRing_108 (by decide) rfl ?_
        refine v_iinc C [(5, .int (x5 + 1)), (4, .int x4), (6, .int 0), (0, .ref (aM 0)), (1, .int x1), (2, .int x2)] 5 dX4_tellRing_110 rfl rfl (by decide) rfl ?_
        refine v_goto (tgt := 44) C dX4_tellRing_113 (by decide) ?_
        refine v_perm [3, 4, 5, 1, 0] rfl ?_
        cases h
        exact hl _ rfl
      · refine v_iload C 5 dX4_tellRing_101 rfl ?_
        refine v_goto (tgt := 108) C dX4_tellRing_103 (by decide) ?_
        refine v_istore C [(4, .int x5), (6, .int 0), (0, .ref (aM 0)), (1, .int x1), (2, .int x2), (5, .int x5)] dX4_tellRing_108 (by decide) rfl ?_
        refine v_iinc C [(5, .int (x5 + 1)), (4, .int x5), (6, .int 0), (0, .ref (aM 0)), (1, .int x1), (2, .int x2)] 5 dX4_tellRing_110 rfl rfl (by decide) rfl ?_
        refine v_goto (tgt := 44) C dX4_tellRing_113 (by decide) ?_
        refine v_perm [3, 4, 5, 1, 0] rfl ?_
        cases h
        exact hl _ rfl
    · refine v_iload C 3 dX4_tellRing_67 rfl ?_
      refine v_if_lt (tgt := 89) C dX4_tellRing_69 (by decide) h (fun h => ?_) (fun h => ?_)
      · refine v_iconst (v := 1) C dX4_tellRing_89 (by decide) ?_
        refine v_goto (tgt := 94) C dX4_tellRing_90 (by decide) ?_
        refine v_istore C [(6, .int 1), (0, .ref (aM 0)), (1, .int x1), (2, .int x2), (4, .int x4), (5, .int x5)] dX4_tellRing_94 (by decide) rfl ?_
        refine v_iload C 0 dX4_tellRing_96 rfl ?_
        refine v_if_eq (tgt := 106) C dX4_tellRing_98 (by decide) h (fun h => ?_) (fun h => ?_)
        · refine v_iload C 4 dX4_tellRing_106 rfl ?_
          refine v_istore C [(4, .int x4), (6, .int 1), (0, .ref (aM 0)), (1, .int x1), (2, .int x2), (5, .int x5)] dX4_tellRing_108 (by decide) rfl ?_
          refine v_iinc C [(5, .int (x5 + 1)), (4, .int x4), (6, .int 1), (0, .ref (aM 0)), (1, .int x1), (2, .int x2)] 5 dX4_tellRing_110 rfl rfl (by decide) rfl ?_
          refine v_goto (tgt := 44) C dX4_tellRing_113 (by decide) ?_
          refine v_perm [3, 4, 5, 1, 0] rfl ?_
          cases h
          exact hl _ rfl
        · refine v_iload C 5 dX4_tellRing_101 rfl ?_
          refine v_goto (tgt := 108) C dX4_tellRing_103 (by decide) ?_
          refine v_istore C [(4, .int x5), (6, .int 1), (0, .ref (aM 0)), (1, .int x1), (2, .int x2), (5, .int x5)] dX4_tellRing_108 (by decide) rfl ?_
          refine v_iinc C [(5, .int (x5 + 1)), (4, .int x5), (6, .int 1), (0, .ref (aM 0)), (1, .int x1), (2, .int x2)] 5 dX4_tellRing_110 rfl rfl (by decide) rfl ?_
          refine v_goto (tgt := 44) C dX4_tellRing_113 (by decide) ?_
          refine v_perm [3, 4, 5, 1, 0] rfl ?_
          cases h
          exact hl _ rfl
      · refine v_aload_n C 0 dX4_tellRing_72 rfl rfl ?_
        refine v_get C 0 10 iuX4 rfl rfl (by decide) m3_63 rfl rfl dX4_tellRing_73 ?_
        refine v_iload C 4 dX4_tellRing_76 rfl ?_
        refine v_iald C 9 rfl dX4_tellRing_78 h (fun h => ?_)
        refine v_aload_n C 0 dX4_tellRing_79 rfl rfl ?_
        refine v_get C 0 10 iuX4 rfl rfl (by decide) m3_63 rfl rfl dX4_tellRing_80 ?_
        refine v_iload C 3 dX4_tellRing_83 rfl ?_
        refine v_iald C 9 rfl dX4_tellRing_85 h (fun h => ?_)
        refine v_icmp_ge (tgt := 93) C dX4_tellRing_86 (by decide) h (fun h => ?_) (fun h => ?_)
        · refine v_iconst (v := 0) C dX4_tellRing_93 (by decide) ?_
          refine v_istore C [(6, .int 0), (0, .ref (aM 0)), (1, .int x1), (2, .int x2), (4, .int x4), (5, .int x5)] dX4_tellRing_94 (by decide) rfl ?_
          refine v_iload C 0 dX4_tellRing_96 rfl ?_
          refine v_if_eq (tgt := 106) C dX4_tellRing_98 (by decide) h (fun h => ?_) (fun h => ?_)
          · refine v_iload C 4 dX4_tellRing_106 rfl ?_
            refine v_istore C [(4, .int x4), (6, .int 0), (0, .ref (aM 0)), (1, .int x1), (2, .int x2), (5, .int x5)] dX4_tellRing_108 (by decide) rfl ?_
            refine v_iinc C [(5, .int (x5 + 1)), (4, .int x4), (6, .int 0), (0, .ref (aM 0)), (1, .int x1), (2, .int x2)] 5 dX4_tellRing_110 rfl rfl (by decide) rfl ?_
            refine v_goto (tgt := 44) C dX4_tellRing_113 (by decide) ?_
            refine v_perm [3, 4, 5, 1, 0] rfl ?_
            cases h
            exact hl _ rfl
          · refine v_iload C 5 dX4_tellRing_101 rfl ?_
            refine v_goto (tgt := 108) C dX4_tellRing_103 (by decide) ?_
            refine v_istore C [(4, .int x5), (6, .int 0), (0, .ref (aM 0)), (1, .int x1), (2, .int x2), (5, .int x5)] dX4_tellRing_108 (by decide) rfl ?_
            refine v_iinc C [(5, .int (x5 + 1)), (4, .int x5), (6, .int 0), (0, .ref (aM 0)), (1, .int x1), (2, .int x2)] 5 dX4_tellRing_110 rfl rfl (by decide) rfl ?_
            refine v_goto (tgt := 44) C dX4_tellRing_113 (by decide) ?_
            refine v_perm [3, 4, 5, 1, 0] rfl ?_
            cases h
            exact hl _ rfl
        · refine v_iconst (v := 1) C dX4_tellRing_89 (by decide) ?_
          refine v_goto (tgt := 94) C dX4_tellRing_90 (by decide) ?_
          refine v_istore C [(6, .int 1), (0, .ref (aM 0)), (1, .int x1), (2, .int x2), (4, .int x4), (5, .int x5)] dX4_tellRing_94 (by decide) rfl ?_
          refine v_iload C 0 dX4_tellRing_96 rfl ?_
          refine v_if_eq (tgt := 106) C dX4_tellRing_98 (by decide) h (fun h => ?_) (fun h => ?_)
          · refine v_iload C 4 dX4_tellRing_106 rfl ?_
            refine v_istore C [(4, .int x4), (6, .int 1), (0, .ref (aM 0)), (1, .int x1), (2, .int x2), (5, .int x5)] dX4_tellRing_108 (by decide) rfl ?_
            refine v_iinc C [(5, .int (x5 + 1)), (4, .int x4), (6, .int 1), (0, .ref (aM 0)), (1, .int x1), (2, .int x2)] 5 dX4_tellRing_110 rfl rfl (by decide) rfl ?_
            refine v_goto (tgt := 44) C dX4_tellRing_113 (by decide) ?_
            refine v_perm [3, 4, 5, 1, 0] rfl ?_
            cases h
            exact hl _ rfl
          · refine v_iload C 5 dX4_tellRing_101 rfl ?_
            refine v_goto (tgt := 108) C dX4_tellRing_103 (by decide) ?_
            refine v_istore C [(4, .int x5), (6, .int 1), (0, .ref (aM 0)), (1, .int x1), (2, .int x2), (5, .int x5)] dX4_tellRing_108 (by decide) rfl ?_
            refine v_iinc C [(5, .int (x5 + 1)), (4, .int x5), (6, .int 1), (0, .ref (aM 0)), (1, .int x1), (2, .int x2)] 5 dX4_tellRing_110 rfl rfl (by decide) rfl ?_
            refine v_goto (tgt := 44) C dX4_tellRing_113 (by decide) ?_
            refine v_perm [3, 4, 5, 1, 0] rfl ?_
            cases h
            exact hl _ rfl
set_option maxHeartbeats 4000000 in
set_option maxRecDepth 100000 in
theorem t_X4_tellRing_L44 {p : Program} {l : Launch} {e : Env} {s : State} {m : MethodId} {args : Array Value} {below : List Frame} {meth : Method} {c : Code} {D : va_G} {A : Nat → Prop} {cI cJ : ClassId} {Q : State → Prop} (C : Cx p s m args c cX4_tellRing 7 RX4 D A cI cJ) {aM : Nat → Nat} {x1 : Int32} {x2 : Int32} {thrown_M : Int32} {pins_M : (Nat → Int32)} {many_M : Int32} {nets_M : (Nat → Int32)} {lefts_M : (Nat → Int32)} {rights_M : (Nat → Int32)} {touches_M : (Nat → Int32)} {below_M : (Nat → Int64)} {reach_M : (Nat → Int64)} {tracksOf_M : (Nat → Int32)} {steps_M : (Nat → Int32)} {laid_M : Int32} {laidMany_M : Int32} {tracks_M : Int32} {laidNet_M : (Nat → Int32)} {laidLeft_M : (Nat → Int32)} {laidRight_M : (Nat → Int32)} {laidTouch_M : (Nat → Int32)} {laidTrack_M : (Nat → Int32)} {ringSize_M : Int32} {ringOf_M : (Nat → Int32)} {lays_M : Int32} {refusals_M : Int32} {n8 : Nat} {s9 : (Int32 × Int32)} {o8 : Int32} (h : lp (f_X4_tellRing_B44 x2 many_M below_M steps_M) n8 s9 = some o8) (hk : V p l e (rmO 2 47) s m args below meth c 7 D A 0 0 Q 116 [(0, .ref (aM 0)), (1, .int x1), (4, .int o8)] [] (wM cI cJ aM thrown_M pins_M many_M nets_M lefts_M rights_M touches_M below_M reach_M tracksOf_M steps_M laid_M laidMany_M tracks_M laidNet_M laidLeft_M laidRight_M laidTouch_M laidTrack_M ringSize_M ringOf_M lays_M refusals_M)) : V p l e (rmO 2 47) s m args below meth c 7 D A 0 0 Q 44 [(0, .ref (aM 0)), (1, .int x1), (2, .int x2), (4, .int s9.1), (5, .int s9.2)] [] (wM cI cJ aM thrown_M pins_M many_M nets_M lefts_M rights_M touches_M below_M reach_M tracksOf_M steps_M laid_M laidMany_M tracks_M laidNet_M laidLeft_M laidRight_M laidTouch_M laidTrack_M ringSize_M ringOf_M lays_M refusals_M) := lp_ok (Pσ := fun s8 => V p l e (rmO 2 47) s m args below meth c 7 D A 0 0 Q 44 [(0, .ref (aM 0)), (1, .int x1), (2, .int x2), (4, .int s8.1), (5, .int s8.2)] [] (wM cI cJ aM thrown_M pins_M many_M nets_M lefts_M rights_M touches_M below_M reach_M tracksOf_M steps_M laid_M laidMany_M tracks_M laidNet_M laidLeft_M laidRight_M laidTouch_M laidTrack_M ringSize_M ringOf_M lays_M refusals_M)) (Pρ := fun r8 => V p l e (rmO 2 47) s m args below meth c 7 D A 0 0 Q 116 [(0, .ref (aM 0)), (1, .int x1), (4, .int r8)] [] (wM cI cJ aM thrown_M pins_M many_M nets_M lefts_M rights_M touches_M below_M reach_M tracksOf_M steps_M laid_M laidMany_M tracks_M laidNet_M laidLeft_M laidRight_M laidTouch_M laidTrack_M ringSize_M ringOf_M lays_M refusals_M)) (fun s o h hl hx => t_X4_tellRing_B44 C s o h hl hx) n8 s9 o8 h hk
set_option maxHeartbeats 4000000 in
set_option maxRecDepth 100000 in
theorem t_X4_tellRing_B14 {p : Program} {l : Launch} {e : Env} {s : State} {m : MethodId} {args : Array Value} {below : List Frame} {meth : Method} {c : Code} {D : va_G} {A : Nat → Prop} {cI cJ : ClassId} {Q : State → Prop} (C : Cx p s m args c cX4_tellRing 7 RX4 D A cI cJ) {aM : Nat → Nat} {x1 : Int32} {thrown_M : Int32} {pins_M : (Nat → Int32)} {many_M : Int32} {nets_M : (Nat → Int32)} {lefts_M : (Nat → Int32)} {rights_M : (Nat → Int32)} {touches_M : (Nat → Int32)} {below_M : (Nat → Int64)} {reach_M : (Nat → Int64)} {tracksOf_M : (Nat → Int32)} {steps_M : (Nat → Int32)} {laid_M : Int32} {laidMany_M : Int32} {tracks_M : Int32} {laidNet_M : (Nat → Int32)} {laidLeft_M : (Nat → Int32)} {laidRight_M : (Nat → Int32)} {laidTouch_M : (Nat → Int32)} {laidTrack_M : (Nat → Int32)} {lays_M : Int32} {refusals_M : Int32} (s8 : (Int32 × Int32 × Int32 × (Nat → Int32))) (o8 : (Int32 × Int32 × Int32 × (Nat → Int32)) ⊕ (Int32 × (Nat → Int32))) (h : f_X4_tellRing_B14 x1 many_M below_M steps_M s8 = some o8) (hl : ∀ s8, o8 = .inl s8 → V p l e (rmO 2 47) s m args below meth c 7 D A 0 0 Q 14 [(0, .ref (aM 0)), (1, .int x1), (2, .int s8.1), (3, .int s8.2.1)] [] (wM cI cJ aM thrown_M pins_M many_M nets_M lefts_M rights_M touches_M below_M reach_M tracksOf_M steps_M laid_M laidMany_M tracks_M laidNet_M laidLeft_M laidRight_M laidTouch_M laidTrack_M s8.2.2.1 s8.2.2.2 lays_M refusals_M)) (hx : ∀ r8, o8 = .inr r8 → V p l e (rmO 2 47) s m args below meth c 7 D A 0 0 Q 133 [] [] (wM cI cJ aM thrown_M pins_M many_M nets_M lefts_M rights_M touches_M below_M reach_M tracksOf_M steps_M laid_M laidMany_M tracks_M laidNet_M laidLeft_M laidRight_M laidTouch_M laidTrack_M r8.1 r8.2 lays_M refusals_M)) : V p l e (rmO 2 47) s m args below meth c 7 D A 0 0 Q 14 [(0, .ref (aM 0)), (1, .int x1), (2, .int s8.1), (3, .int s8.2.1)] [] (wM cI cJ aM thrown_M pins_M many_M nets_M lefts_M rights_M touches_M below_M reach_M tracksOf_M steps_M laid_M laidMany_M tracks_M laidNet_M laidLeft_M laidRight_M laidTouch_M laidTrack_M s8.2.2.1 s8.2.2.2 lays_M refusals_M) := by
  obtain ⟨x2, x3, ringSize_M, ringOf_M⟩ := s8
  unfold f_X4_tellRing_B14 at h
  show V p l e (rmO 2 47) s m args below meth c 7 D A 0 0 Q 14 [(0, .ref (aM 0)), (1, .int x1), (2, .int x2), (3, .int x3)] [] (wM cI cJ aM thrown_M pins_M many_M nets_M lefts_M rights_M touches_M below_M reach_M tracksOf_M steps_M laid_M laidMany_M tracks_M laidNet_M laidLeft_M laidRight_M laidTouch_M laidTrack_M ringSize_M ringOf_M lays_M refusals_M)
  refine v_iload_n C 3 dX4_tellRing_14 rfl rfl ?_
  refine v_if_eq (tgt := 133) C dX4_tellRing_15 (by decide) h (fun h => ?_) (fun h => ?_)
  · refine v_perm [] rfl ?_
    cases h
    exact hx _ rfl
  · refine v_aload_n C 0 dX4_tellRing_18 rfl rfl ?_
    refine v_get C 0 20 iuX4 rfl rfl (by decide) m3_73 rfl rfl dX4_tellRing_19 ?_
    refine v_aload_n C 0 dX4_tellRing_22 rfl rfl ?_
    refine v_get C 0 19 iuX4 rfl rfl (by decide) m3_72 rfl rfl dX4_tellRing_23 ?_
    refine v_iload_n C 2 dX4_tellRing_26 rfl rfl ?_
    refine v_iast C (wM cI cJ aM thrown_M pins_M many_M nets_M lefts_M rights_M touches_M below_M reach_M tracksOf_M steps_M laid_M laidMany_M tracks_M laidNet_M laidLeft_M laidRight_M laidTouch_M laidTrack_M ringSize_M (upd ringOf_M ringSize_M.toNatClampNeg x2) lays_M refusals_M) 15 rfl dX4_tellRing_27 h rfl (fun h => ?_)
    refine v_aload_n C 0 dX4_tellRing_28 rfl rfl ?_
    refine v_dup C dX4_tellRing_29 rfl ?_
    refine v_get C 0 19 iuX4 rfl rfl (by decide) m3_72 rfl rfl dX4_tellRing_30 ?_
    refine v_iconst (v := 1) C dX4_tellRing_33 (by decide) ?_
    refine v_iadd C dX4_tellRing_34 ?_
    refine v_put C (wM cI cJ aM thrown_M pins_M many_M nets_M lefts_M rights_M touches_M below_M reach_M tracksOf_M steps_M laid_M laidMany_M tracks_M laidNet_M laidLeft_M laidRight_M laidTouch_M laidTrack_M (ringSize_M + 1) (upd ringOf_M ringSize_M.toNatClampNeg x2) lays_M refusals_M) 0 19 iuX4 tyX4_ok nmX4 rfl rfl (by decide) m3_72 rfl rfl rfl rfl rfl (Nat.le_of_ble_eq_true rfl) dX4_tellRing_35 rfl ?_
    refine v_iconst (v := (-1)) C dX4_tellRing_38 (by decide) ?_
    refine v_istore C [(4, .int (-1)), (0, .ref (aM 0)), (1, .int x1), (2, .int x2), (3, .int x3)] dX4_tellRing_39 (by decide) rfl ?_
    refine v_iconst (v := 0) C dX4_tellRing_41 (by decide) ?_
    refine v_istore C [(5, .int 0), (4, .int (-1)), (0, .ref (aM 0)), (1, .int x1), (2, .int x2), (3, .int x3)] dX4_tellRing_42 (by decide) rfl ?_
    obtain ⟨r, h1, h⟩ := bind_el h
    refine v_perm [2, 3, 4, 1, 0] rfl ?_
    obtain ⟨x4_3, rfl⟩ : ∃ z, z = r := ⟨_, rfl⟩
    refine t_X4_tellRing_L44 C (s9 := ((-1), 0)) h1 ?_
    show V p l e (rmO 2 47) s m args below meth c 7 D A 0 0 Q 116 [(0, .ref (aM 0)), (1, .int x1), (4, .int x4_3)] [] (wM cI cJ aM thrown_M pins_M many_M nets_M lefts_M rights_M touches_M below_M reach_M tracksOf_M steps_M laid_M laidMany_M tracks_M laidNet_M laidLeft_M laidRight_M laidTouch_M laidTrack_M (ringSize_M + 1) (upd ringOf_M ringSize_M.toNatClampNeg x2) lays_M refusals_M)
    try dsimp only at h
    refine v_iload C 2 dX4_tellRing_116 rfl ?_
    refine v_istore_n C [(2, .int x4_3), (0, .ref (aM 0)), (1, .int x1), (4, .int x4_3)] dX4_tellRing_118 rfl (by decide) rfl ?_
    refine v_iload_n C 0 dX4_tellRing_119 rfl rfl ?_
    refine v_iload_n C 2 dX4_tellRing_120 rfl rfl ?_
    refine v_icmp_eq (tgt := 128) C dX4_tellRing_121 (by decide) h (fun h => ?_) (fun h => ?_)
    · refine v_iconst (v := 0) C dX4_tellRing_128 (by decide) ?_
      refine v_istore_n C [(3, .int 0), (2, .int x4_3), (0, .ref (aM 0)), (1, .int x1), (4, .int x4_3)] dX4_tellRing_129 rfl (by decide) rfl ?_
      refine v_goto (tgt := 14) C dX4_tellRing_130 (by decide) ?_
      refine v_perm [2, 3, 1, 0] rfl ?_
      cases h
      exact hl _ rfl
    · refine v_iconst (v := 1) C dX4_tellRing_124 (by decide) ?_
      refine v_goto (tgt := 129) C dX4_tellRing_125 (by decide) ?_
      refine v_istore_n C [(3, .int 1), (2, .int x4_3), (0, .ref (aM 0)), (1, .int x1), (4, .int x4_3)] dX4_tellRing_129 rfl (by decide) rfl ?_
      refine v_goto (tgt := 14) C dX4_tellRing_130 (by decide) ?_
      refine v_perm [2, 3, 1, 0] rfl ?_
      cases h
      exact hl _ rfl
set_option maxHeartbeats 4000000 in
set_option maxRecDepth 100000 in
theorem t_X4_tellRing_L14 {p : Program} {l : Launch} {e : Env} {s : State} {m : MethodId} {args : Array Value} {below : List Frame} {meth : Method} {c : Code} {D : va_G} {A : Nat → Prop} {cI cJ : ClassId} {Q : State → Prop} (C : Cx p s m args c cX4_tellRing 7 RX4 D A cI cJ) {aM : Nat → Nat} {x1 : Int32} {thrown_M : Int32} {pins_M : (Nat → Int32)} {many_M : Int32} {nets_M : (Nat → Int32)} {lefts_M : (Nat → Int32)} {rights_M : (Nat → Int32)} {touches_M : (Nat → Int32)} {below_M : (Nat → Int64)} {reach_M : (Nat → Int64)} {tracksOf_M : (Nat → Int32)} {steps_M : (Nat → Int32)} {laid_M : Int32} {laidMany_M : Int32} {tracks_M : Int32} {laidNet_M : (Nat → Int32)} {laidLeft_M : (Nat → Int32)} {laidRight_M : (Nat → Int32)} {laidTouch_M : (Nat → Int32)} {laidTrack_M : (Nat → Int32)} {lays_M : Int32} {refusals_M : Int32} {n8 : Nat} {s9 : (Int32 × Int32 × Int32 × (Nat → Int32))} {o8 : (Int32 × (Nat → Int32))} (h : lp (f_X4_tellRing_B14 x1 many_M below_M steps_M) n8 s9 = some o8) (hk : V p l e (rmO 2 47) s m args below meth c 7 D A 0 0 Q 133 [] [] (wM cI cJ aM thrown_M pins_M many_M nets_M lefts_M rights_M touches_M below_M reach_M tracksOf_M steps_M laid_M laidMany_M tracks_M laidNet_M laidLeft_M laidRight_M laidTouch_M laidTrack_M o8.1 o8.2 lays_M refusals_M)) : V p l e (rmO 2 47) s m args below meth c 7 D A 0 0 Q 14 [(0, .ref (aM 0)), (1, .int x1), (2, .int s9.1), (3, .int s9.2.1)] [] (wM cI cJ aM thrown_M pins_M many_M nets_M lefts_M rights_M touches_M below_M reach_M tracksOf_M steps_M laid_M laidMany_M tracks_M laidNet_M laidLeft_M laidRight_M laidTouch_M laidTrack_M s9.2.2.1 s9.2.2.2 lays_M refusals_M) := lp_ok (Pσ := fun s8 => V p l e (rmO 2 47) s m args below meth c 7 D A 0 0 Q 14 [(0, .ref (aM 0)), (1, .int x1), (2, .int s8.1), (3, .int s8.2.1)] [] (wM cI cJ aM thrown_M pins_M many_M nets_M lefts_M rights_M touches_M below_M reach_M tracksOf_M steps_M laid_M laidMany_M tracks_M laidNet_M laidLeft_M laidRight_M laidTouch_M laidTrack_M s8.2.2.1 s8.2.2.2 lays_M refusals_M)) (Pρ := fun r8 => V p l e (rmO 2 47) s m args below meth c 7 D A 0 0 Q 133 [] [] (wM cI cJ aM thrown_M pins_M many_M nets_M lefts_M rights_M touches_M below_M reach_M tracksOf_M steps_M laid_M laidMany_M tracks_M laidNet_M laidLeft_M laidRight_M laidTouch_M laidTrack_M r8.1 r8.2 lays_M refusals_M)) (fun s o h hl hx => t_X4_tellRing_B14 C s o h hl hx) n8 s9 o8 h hk
set_option maxHeartbeats 4000000 in
set_option maxRecDepth 100000 in
theorem c_X4_tellRing (l : Launch) (D : va_G) (cI cJ : ClassId) (aM : Nat → Nat) (thrown_M : Int32) (pins_M : (Nat → Int32)) (many_M : Int32) (nets_M : (Nat → Int32)) (lefts_M : (Nat → Int32)) (rights_M : (Nat → Int32)) (touches_M : (Nat → Int32)) (below_M : (Nat → Int64)) (reach_M : (Nat → Int64)) (tracksOf_M : (Nat → Int32)) (steps_M : (Nat → Int32)) (laid_M : Int32) (laidMany_M : Int32) (tracks_M : Int32) (laidNet_M : (Nat → Int32)) (laidLeft_M : (Nat → Int32)) (laidRight_M : (Nat → Int32)) (laidTouch_M : (Nat → Int32)) (laidTrack_M : (Nat → Int32)) (ringSize_M : Int32) (ringOf_M : (Nat → Int32)) (lays_M : Int32) (refusals_M : Int32) (x1 : Int32) (steps_M' : (Nat → Int32)) (ringSize_M' : Int32) (ringOf_M' : (Nat → Int32)) (h : f_X4_tellRing many_M below_M steps_M ringOf_M x1 = some (steps_M', ringSize_M', ringOf_M')) : Ctv l D cI cJ yX4_tellRing cX4_tellRing 7 none 2 47 [.ref (aM 0), .int x1] (wM cI cJ aM thrown_M pins_M many_M nets_M lefts_M rights_M touches_M below_M reach_M tracksOf_M steps_M laid_M laidMany_M tracks_M laidNet_M laidLeft_M laidRight_M laidTouch_M laidTrack_M ringSize_M ringOf_M lays_M refusals_M) (wM cI cJ aM thrown_M pins_M many_M nets_M lefts_M rights_M touches_M below_M reach_M tracksOf_M steps_M' laid_M laidMany_M tracks_M laidNet_M laidLeft_M laidRight_M laidTouch_M laidTrack_M ringSize_M' ringOf_M' lays_M refusals_M) := by
  refine mk_v [(0, .ref (aM 0)), (1, .int x1)] (by decide) rfl (Nat.le_of_ble_eq_true rfl) rfl (fun p e s m args below meth c A Q C hk => ?_)
  unfold f_X4_tellRing at h
  refine v_aload_n C 0 dX4_tellRing_0 rfl rfl ?_
  refine v_iload_n C 1 dX4_tellRing_1 rfl rfl ?_
  obtain ⟨r, h1, h⟩ := bind_el h
  obtain ⟨steps_M_1, rfl⟩ : ∃ z, z = r := ⟨_, rfl⟩
  try dsimp only at h
  refine v_callVv (As := [.int x1]) (st := []) (wr := []) (w1 := (wM cI cJ aM thrown_M pins_M many_M nets_M lefts_M rights_M touches_M below_M reach_M tracksOf_M steps_M_1 laid_M laidMany_M tracks_M laidNet_M laidLeft_M laidRight_M laidTouch_M laidTrack_M ringSize_M ringOf_M lays_M refusals_M)) (ws' := (wM cI cJ aM thrown_M pins_M many_M nets_M lefts_M rights_M touches_M below_M reach_M tracksOf_M steps_M_1 laid_M laidMany_M tracks_M laidNet_M laidLeft_M laidRight_M laidTouch_M laidTrack_M ringSize_M ringOf_M lays_M refusals_M)) (isC := [0, 1, 2, 3, 4, 5, 6, 7, 8, 9, 10, 11, 12, 13, 14, 15]) (isR := []) (pm := [0, 1, 2, 3, 4, 5, 6, 7, 8, 9, 10, 11, 12, 13, 14, 15]) C (c_X4_countSteps l D cI cJ aM thrown_M pins_M many_M nets_M lefts_M rights_M touches_M below_M reach_M tracksOf_M steps_M laid_M laidMany_M tracks_M laidNet_M laidLeft_M laidRight_M laidTouch_M laidTrack_M ringSize_M ringOf_M lays_M refusals_M x1 steps_M_1 h1) cw_X4_countSteps 0 rfl rfl m3_195 dX4_tellRing_2 rfl ⟨Nat.le_of_ble_eq_true rfl, Nat.le_of_ble_eq_true rfl⟩ (Nat.le_of_ble_eq_true rfl) ⟨Nat.le_refl 0, Nat.le_refl 0⟩ ⟨rfl, rfl, rfl, rfl, by decide, rfl, rfl⟩ ?_
  refine v_aload_n C 0 dX4_tellRing_5 rfl rfl ?_
  refine v_iconst (v := 0) C dX4_tellRing_6 (by decide) ?_
  refine v_put C (wM cI cJ aM thrown_M pins_M many_M nets_M lefts_M rights_M touches_M below_M reach_M tracksOf_M steps_M_1 laid_M laidMany_M tracks_M laidNet_M laidLeft_M laidRight_M laidTouch_M laidTrack_M 0 ringOf_M lays_M refusals_M) 0 19 iuX4 tyX4_ok nmX4 rfl rfl (by decide) m3_72 rfl rfl rfl rfl rfl (Nat.le_of_ble_eq_true rfl) dX4_tellRing_7 rfl ?_
  refine v_iload_n C 1 dX4_tellRing_10 rfl rfl ?_
  refine v_istore_n C [(2, .int x1), (0, .ref (aM 0)), (1, .int x1)] dX4_tellRing_11 rfl (by decide) rfl ?_
  refine v_iconst (v := 1) C dX4_tellRing_12 (by decide) ?_
  refine v_istore_n C [(3, .int 1), (2, .int x1), (0, .ref (aM 0)), (1, .int x1)] dX4_tellRing_13 rfl (by decide) rfl ?_
  obtain ⟨r, h1, h⟩ := bind_el h
  refine v_perm [2, 3, 1, 0] rfl ?_
  obtain ⟨ringSize_M_4, ringOf_M_5⟩ := r
  refine t_X4_tellRing_L14 C (s9 := (x1, 1, 0, ringOf_M)) h1 ?_
  show V p l e (rmO 2 47) s m args below meth c 7 D A 0 0 Q 133 [] [] (wM cI cJ aM thrown_M pins_M many_M nets_M lefts_M rights_M touches_M below_M reach_M tracksOf_M steps_M_1 laid_M laidMany_M tracks_M laidNet_M laidLeft_M laidRight_M laidTouch_M laidTrack_M ringSize_M_4 ringOf_M_5 lays_M refusals_M)
  try dsimp only at h
  cases h
  exact hk _ _ dX4_tellRing_133
def f_X4_free_B18 (x1 : Int32) (x2 : Int32) (many_M : Int32) (below_M : (Nat → Int64)) (tracksOf_M : (Nat → Int32)) : (Int32 × Int32) → Option ((Int32 × Int32) ⊕ Int32)
  | (x3, x4) => if many_M ≤ x4 then (some (.inr x3)) else (if x3 = 0 then (some (.inl (0, x4 + 1))) else (bnd x4 40 ((f_X4_has (below_M x4.toNatClampNeg) x1).bind (fun r => match r with | r_1 => if r_1 = 0 then (some (.inl (1, x4 + 1))) else (bnd x4 40 ((f_X4_in (tracksOf_M x4.toNatClampNeg) 0 (x2 - 1)).bind (fun r => match r with | r_2 => if r_2 = 0 then (some (.inl (0, x4 + 1))) else (some (.inl (1, x4 + 1))))))))))
def f_X4_free_J14 (many_M : Int32) (below_M : (Nat → Int64)) (tracksOf_M : (Nat → Int32)) (x1 : Int32) (x2 : Int32) (s0 : Int32) : Option Int32 := (lp (f_X4_free_B18 x1 x2 many_M below_M tracksOf_M) 64 (s0, 0)).bind (fun r => match r with | x3_3 => zbl x3_3 (some x3_3))
def f_X4_free (many_M : Int32) (below_M : (Nat → Int64)) (tracksOf_M : (Nat → Int32)) (x1 : Int32) (x2 : Int32) : Option Int32 := bnd x1 40 (if (0 : Int32) ≤ (tracksOf_M x1.toNatClampNeg) then (f_X4_free_J14 many_M below_M tracksOf_M x1 x2 0) else (f_X4_free_J14 many_M below_M tracksOf_M x1 x2 1))
theorem cw_X4_free : CWv yX4_free cX4_free 5 (some .boolean) RX4 2 := ⟨m3_213, ms4_11, m1_5, m3_214, rfl, by decide, by decide, by decide +kernel⟩
set_option maxHeartbeats 4000000 in
set_option maxRecDepth 100000 in
theorem t_X4_free_B18 {p : Program} {l : Launch} {e : Env} {s : State} {m : MethodId} {args : Array Value} {below : List Frame} {meth : Method} {c : Code} {D : va_G} {A : Nat → Prop} {cI cJ : ClassId} {Q : State → Prop} (C : Cx p s m args c cX4_free 5 RX4 D A cI cJ) {aM : Nat → Nat} {x1 : Int32} {x2 : Int32} {thrown_M : Int32} {pins_M : (Nat → Int32)} {many_M : Int32} {nets_M : (Nat → Int32)} {lefts_M : (Nat → Int32)} {rights_M : (Nat → Int32)} {touches_M : (Nat → Int32)} {below_M : (Nat → Int64)} {reach_M : (Nat → Int64)} {tracksOf_M : (Nat → Int32)} {steps_M : (Nat → Int32)} {laid_M : Int32} {laidMany_M : Int32} {tracks_M : Int32} {laidNet_M : (Nat → Int32)} {laidLeft_M : (Nat → Int32)} {laidRight_M : (Nat → Int32)} {laidTouch_M : (Nat → Int32)} {laidTrack_M : (Nat → Int32)} {ringSize_M : Int32} {ringOf_M : (Nat → Int32)} {lays_M : Int32} {refusals_M : Int32} (s8 : (Int32 × Int32)) (o8 : (Int32 × Int32) ⊕ Int32) (h : f_X4_free_B18 x1 x2 many_M below_M tracksOf_M s8 = some o8) (hl : ∀ s8, o8 = .inl s8 → V p l e (rmO 1 22) s m args below meth c 5 D A 0 0 Q 18 [(0, .ref (aM 0)), (1, .int x1), (2, .int x2), (3, .int s8.1), (4, .int s8.2)] [] (wM cI cJ aM thrown_M pins_M many_M nets_M lefts_M rights_M touches_M below_M reach_M tracksOf_M steps_M laid_M laidMany_M tracks_M laidNet_M laidLeft_M laidRight_M laidTouch_M laidTrack_M ringSize_M ringOf_M lays_M refusals_M)) (hx : ∀ r8, o8 = .inr r8 → V p l e (rmO 1 22) s m args below meth c 5 D A 0 0 Q 74 [(3, .int r8)] [] (wM cI cJ aM thrown_M pins_M many_M nets_M lefts_M rights_M touches_M below_M reach_M tracksOf_M steps_M laid_M laidMany_M tracks_M laidNet_M laidLeft_M laidRight_M laidTouch_M laidTrack_M ringSize_M ringOf_M lays_M refusals_M)) : V p l e (rmO 1 22) s m args below meth c 5 D A 0 0 Q 18 [(0, .ref (aM 0)), (1, .int x1), (2, .int x2), (3, .int s8.1), (4, .int s8.2)] [] (wM cI cJ aM thrown_M pins_M many_M nets_M lefts_M rights_M touches_M below_M reach_M tracksOf_M steps_M laid_M laidMany_M tracks_M laidNet_M laidLeft_M laidRight_M laidTouch_M laidTrack_M ringSize_M ringOf_M lays_M refusals_M) := by
  obtain ⟨x3, x4⟩ := s8
  unfold f_X4_free_B18 at h
  show V p l e (rmO 1 22) s m args below meth c 5 D A 0 0 Q 18 [(0, .ref (aM 0)), (1, .int x1), (2, .int x2), (3, .int x3), (4, .int x4)] [] (wM cI cJ aM thrown_M pins_M many_M nets_M lefts_M rights_M touches_M below_M reach_M tracksOf_M steps_M laid_M laidMany_M tracks_M laidNet_M laidLeft_M laidRight_M laidTouch_M laidTrack_M ringSize_M ringOf_M lays_M refusals_M)
  refine v_iload C 4 dX4_free_18 rfl ?_
  refine v_aload_n C 0 dX4_free_20 rfl rfl ?_
  refine v_get C 0 2 iuX4 rfl rfl (by decide) m3_55 rfl rfl dX4_free_21 ?_
  refine v_icmp_ge (tgt := 74) C dX4_free_24 (by decide) h (fun h => ?_) (fun h => ?_)
  · refine v_perm [3] rfl ?_
    cases h
    exact hx _ rfl
  · refine v_iload_n C 3 dX4_free_27 rfl rfl ?_
    refine v_if_eq (tgt := 66) C dX4_free_28 (by decide) h (fun h => ?_) (fun h => ?_)
    · refine v_iconst (v := 0) C dX4_free_66 (by decide) ?_
      refine v_istore_n C [(3, .int 0), (0, .ref (aM 0)), (1, .int x1), (2, .int x2), (4, .int x4)] dX4_free_67 rfl (by decide) rfl ?_
      refine v_iinc C [(4, .int (x4 + 1)), (3, .int 0), (0, .ref (aM 0)), (1, .int x1), (2, .int x2)] 4 dX4_free_68 rfl rfl (by decide) rfl ?_
      refine v_goto (tgt := 18) C dX4_free_71 (by decide) ?_
      refine v_perm [2, 3, 4, 1, 0] rfl ?_
      cases h
      exact hl _ rfl
    · refine v_aload_n C 0 dX4_free_31 rfl rfl ?_
      refine v_get C 0 7 iuX4 rfl rfl (by decide) m3_60 rfl rfl dX4_free_32 ?_
      refine v_iload C 4 dX4_free_35 rfl ?_
      refine v_lald C 6 rfl dX4_free_37 h (fun h => ?_)
      refine v_iload_n C 1 dX4_free_38 rfl rfl ?_
      obtain ⟨r, h1, h⟩ := bind_el h
      obtain ⟨r_1, rfl⟩ : ∃ z, z = r := ⟨_, rfl⟩
      try dsimp only at h
      refine v_callSi (As := [.long (below_M x4.toNatClampNeg), .int x1]) (st := []) (wr := [(aM 0, .inr (4, [.int thrown_M, .ref (aM 1), .int many_M, .ref (aM 2), .ref (aM 3), .ref (aM 4), .ref (aM 5), .ref (aM 6), .ref (aM 7), .ref (aM 8), .ref (aM 9), .int laid_M, .int laidMany_M, .int tracks_M, .ref (aM 10), .ref (aM 11), .ref (aM 12), .ref (aM 13), .ref (aM 14), .int ringSize_M, .ref (aM 15), .int lays_M, .int refusals_M])), (aM 1, .inl (cI, 40, .inl pins_M)), (aM 2, .inl (cI, 40, .inl nets_M)), (aM 3, .inl (cI, 40, .inl lefts_M)), (aM 4, .inl (cI, 40, .inl rights_M)), (aM 5, .inl (cI, 40, .inl touches_M)), (aM 6, .inl (cJ, 40, .inr (.inl below_M))), (aM 7, .inl (cJ, 40, .inr (.inl reach_M))), (aM 8, .inl (cI, 40, .inl tracksOf_M)), (aM 9, .inl (cI, 40, .inl steps_M)), (aM 10, .inl (cI, 40, .inl laidNet_M)), (aM 11, .inl (cI, 40, .inl laidLeft_M)), (aM 12, .inl (cI, 40, .inl laidRight_M)), (aM 13, .inl (cI, 40, .inl laidTouch_M)), (aM 14, .inl (cI, 40, .inl laidTrack_M)), (aM 15, .inl (cI, 40, .inl ringOf_M))]) (w1 := []) (ws' := (wM cI cJ aM thrown_M pins_M many_M nets_M lefts_M rights_M touches_M below_M reach_M tracksOf_M steps_M laid_M laidMany_M tracks_M laidNet_M laidLeft_M laidRight_M laidTouch_M laidTrack_M ringSize_M ringOf_M lays_M refusals_M)) (isC := []) (isR := [0, 1, 2, 3, 4, 5, 6, 7, 8, 9, 10, 11, 12, 13, 14, 15]) (pm := [0, 1, 2, 3, 4, 5, 6, 7, 8, 9, 10, 11, 12, 13, 14, 15]) C (c_X4_has l D cI cJ (below_M x4.toNatClampNeg) x1 r_1 h1) cw_X4_has m3_188 dX4_free_39 rfl ⟨Nat.le_of_ble_eq_true rfl, Nat.le_of_ble_eq_true rfl⟩ (Nat.le_of_ble_eq_true rfl) ⟨Nat.le_refl 0, Nat.le_refl 0⟩ ⟨rfl, rfl, rfl, rfl, by decide, rfl, rfl⟩ ?_
      refine v_if_eq (tgt := 62) C dX4_free_42 (by decide) h (fun h => ?_) (fun h => ?_)
      · refine v_iconst (v := 1) C dX4_free_62 (by decide) ?_
        refine v_goto (tgt := 67) C dX4_free_63 (by decide) ?_
        refine v_istore_n C [(3, .int 1), (0, .ref (aM 0)), (1, .int x1), (2, .int x2), (4, .int x4)] dX4_free_67 rfl (by decide) rfl ?_
        refine v_iinc C [(4, .int (x4 + 1)), (3, .int 1), (0, .ref (aM 0)), (1, .int x1), (2, .int x2)] 4 dX4_free_68 rfl rfl (by decide) rfl ?_
        refine v_goto (tgt := 18) C dX4_free_71 (by decide) ?_
        refine v_perm [2, 3, 4, 1, 0] rfl ?_
        cases h
        exact hl _ rfl
      · refine v_aload_n C 0 dX4_free_45 rfl rfl ?_
        refine v_get C 0 9 iuX4 rfl rfl (by decide) m3_62 rfl rfl dX4_free_46 ?_
        refine v_iload C 4 dX4_free_49 rfl ?_
        refine v_iald C 8 rfl dX4_free_51 h (fun h => ?_)
        refine v_iconst (v := 0) C dX4_free_52 (by decide) ?_
        refine v_iload_n C 2 dX4_free_53 rfl rfl ?_
        refine v_iconst (v := 1) C dX4_free_54 (by decide) ?_
        refine v_isub C dX4_free_55 ?_
        obtain ⟨r, h1, h⟩ := bind_el h
        obtain ⟨r_2, rfl⟩ : ∃ z, z = r := ⟨_, rfl⟩
        try dsimp only at h
        refine v_callSi (As := [.int (tracksOf_M x4.toNatClampNeg), .int 0, .int (x2 - 1)]) (st := []) (wr := [(aM 0, .inr (4, [.int thrown_M, .ref (aM 1), .int many_M, .ref (aM 2), .ref (aM 3), .ref (aM 4), .ref (aM 5), .ref (aM 6), .ref (aM 7), .ref (aM 8), .ref (aM 9), .int laid_M, .int laidMany_M, .int tracks_M, .ref (aM 10), .ref (aM 11), .ref (aM 12), .ref (aM 13), .ref (aM 14), .int ringSize_M, .ref (aM 15), .int lays_M, .int refusals_M])), (aM 1, .inl (cI, 40, .inl pins_M)), (aM 2, .inl (cI, 40, .inl nets_M)), (aM 3, .inl (cI, 40, .inl lefts_M)), (aM 4, .inl (cI, 40, .inl rights_M)), (aM 5, .inl (cI, 40, .inl touches_M)), (aM 6, .inl (cJ, 40, .inr (.inl below_M))), (aM 7, .inl (cJ, 40, .inr (.inl reach_M))), (aM 8, .inl (cI, 40, .inl tracksOf_M)), (aM 9, .inl (cI, 40, .inl steps_M)), (aM 10, .inl (cI, 40, .inl laidNet_M)), (aM 11, .inl (cI, 40, .inl laidLeft_M)), (aM 12, .inl (cI, 40, .inl laidRight_M)), (aM 13, .inl (cI, 40, .inl laidTouch_M)), (aM 14, .inl (cI, 40, .inl laidTrack_M)), (aM 15, .inl (cI, 40, .inl ringOf_M))]) (w1 := []) (ws' := (wM cI cJ aM thrown_M pins_M many_M nets_M lefts_M rights_M touches_M below_M reach_M tracksOf_M steps_M laid_M laidMany_M tracks_M laidNet_M laidLeft_M laidRight_M laidTouch_M laidTrack_M ringSize_M ringOf_M lays_M refusals_M)) (isC := []) (isR := [0, 1, 2, 3, 4, 5, 6, 7, 8, 9, 10, 11, 12, 13, 14, 15]) (pm := [0, 1, 2, 3, 4, 5, 6, 7, 8, 9, 10, 11, 12, 13, 14, 15]) C (c_X4_in l D cI cJ (tracksOf_M x4.toNatClampNeg) 0 (x2 - 1) r_2 h1) cw_X4_in m3_131 dX4_free_56 rfl ⟨Nat.le_of_ble_eq_true rfl, Nat.le_of_ble_eq_true rfl⟩ (Nat.le_of_ble_eq_true rfl) ⟨Nat.le_refl 0, Nat.le_refl 0⟩ ⟨rfl, rfl, rfl, rfl, by decide, rfl, rfl⟩ ?_
        refine v_if_eq (tgt := 66) C dX4_free_59 (by decide) h (fun h => ?_) (fun h => ?_)
        · refine v_iconst (v := 0) C dX4_free_66 (by decide) ?_
          refine v_istore_n C [(3, .int 0), (0, .ref (aM 0)), (1, .int x1), (2, .int x2), (4, .int x4)] dX4_free_67 rfl (by decide) rfl ?_
          refine v_iinc C [(4, .int (x4 + 1)), (3, .int 0), (0, .ref (aM 0)), (1, .int x1), (2, .int x2)] 4 dX4_free_68 rfl rfl (by decide) rfl ?_
          refine v_goto (tgt := 18) C dX4_free_71 (by decide) ?_
          refine v_perm [2, 3, 4, 1, 0] rfl ?_
          cases h
          exact hl _ rfl
        · refine v_iconst (v := 1) C dX4_free_62 (by decide) ?_
          refine v_goto (tgt := 67) C dX4_free_63 (by decide) ?_
          refine v_istore_n C [(3, .int 1), (0, .ref (aM 0)), (1, .int x1), (2, .int x2), (4, .int x4)] dX4_free_67 rfl (by decide) rfl ?_
          refine v_iinc C [(4, .int (x4 + 1)), (3, .int 1), (0, .ref (aM 0)), (1, .int x1), (2, .int x2)] 4 dX4_free_68 rfl rfl (by decide) rfl ?_
          refine v_goto (tgt := 18) C dX4_free_71 (by decide) ?_
          refine v_perm [2, 3, 4, 1, 0] rfl ?_
          cases h
          exact hl _ rfl
set_option maxHeartbeats 4000000 in
set_option maxRecDepth 100000 in
theorem t_X4_free_L18 {p : Program} {l : Launch} {e : Env} {s : State} {m : MethodId} {args : Array Value} {below : List Frame} {meth : Method} {c : Code} {D : va_G} {A : Nat → Prop} {cI cJ : ClassId} {Q : State → Prop} (C : Cx p s m args c cX4_free 5 RX4 D A cI cJ) {aM : Nat → Nat} {x1 : Int32} {x2 : Int32} {thrown_M : Int32} {pins_M : (Nat → Int32)} {many_M : Int32} {nets_M : (Nat → Int32)} {lefts_M : (Nat → Int32)} {rights_M : (Nat → Int32)} {touches_M : (Nat → Int32)} {below_M : (Nat → Int64)} {reach_M : (Nat → Int64)} {tracksOf_M : (Nat → Int32)} {steps_M : (Nat → Int32)} {laid_M : Int32} {laidMany_M : Int32} {tracks_M : Int32} {laidNet_M : (Nat → Int32)} {laidLeft_M : (Nat → Int32)} {laidRight_M : (Nat → Int32)} {laidTouch_M : (Nat → Int32)} {laidTrack_M : (Nat → Int32)} {ringSize_M : Int32} {ringOf_M : (Nat → Int32)} {lays_M : Int32} {refusals_M : Int32} {n8 : Nat} {s9 : (Int32 × Int32)} {o8 : Int32} (h : lp (f_X4_free_B18 x1 x2 many_M below_M tracksOf_M) n8 s9 = some o8) (hk : V p l e (rmO 1 22) s m args below meth c 5 D A 0 0 Q 74 [(3, .int o8)] [] (wM cI cJ aM thrown_M pins_M many_M nets_M lefts_M rights_M touches_M below_M reach_M tracksOf_M steps_M laid_M laidMany_M tracks_M laidNet_M laidLeft_M laidRight_M laidTouch_M laidTrack_M ringSize_M ringOf_M lays_M refusals_M)) : V p l e (rmO 1 22) s m args below meth c 5 D A 0 0 Q 18 [(0, .ref (aM 0)), (1, .int x1), (2, .int x2), (3, .int s9.1), (4, .int s9.2)] [] (wM cI cJ aM thrown_M pins_M many_M nets_M lefts_M rights_M touches_M below_M reach_M tracksOf_M steps_M laid_M laidMany_M tracks_M laidNet_M laidLeft_M laidRight_M laidTouch_M laidTrack_M ringSize_M ringOf_M lays_M refusals_M) := lp_ok (Pσ := fun s8 => V p l e (rmO 1 22) s m args below meth c 5 D A 0 0 Q 18 [(0, .ref (aM 0)), (1, .int x1), (2, .int x2), (3, .int s8.1), (4, .int s8.2)] [] (wM cI cJ aM thrown_M pins_M many_M nets_M lefts_M rights_M touches_M below_M reach_M tracksOf_M steps_M laid_M laidMany_M tracks_M laidNet_M laidLeft_M laidRight_M laidTouch_M laidTrack_M ringSize_M ringOf_M lays_M refusals_M)) (Pρ := fun r8 => V p l e (rmO 1 22) s m args below meth c 5 D A 0 0 Q 74 [(3, .int r8)] [] (wM cI cJ aM thrown_M pins_M many_M nets_M lefts_M rights_M touches_M below_M reach_M tracksOf_M steps_M laid_M laidMany_M tracks_M laidNet_M laidLeft_M laidRight_M laidTouch_M laidTrack_M ringSize_M ringOf_M lays_M refusals_M)) (fun s o h hl hx => t_X4_free_B18 C s o h hl hx) n8 s9 o8 h hk
set_option maxHeartbeats 4000000 in
set_option maxRecDepth 100000 in
theorem t_X4_free_J14 {p : Program} {l : Launch} {e : Env} {s : State} {m : MethodId} {args : Array Value} {below : List Frame} {meth : Method} {c : Code} {D : va_G} {A : Nat → Prop} {cI cJ : ClassId} {Q : State → Prop} (C : Cx p s m args c cX4_free 5 RX4 D A cI cJ) {aM : Nat → Nat} {thrown_M : Int32} {pins_M : (Nat → Int32)} {many_M : Int32} {nets_M : (Nat → Int32)} {lefts_M : (Nat → Int32)} {rights_M : (Nat → Int32)} {touches_M : (Nat → Int32)} {below_M : (Nat → Int64)} {reach_M : (Nat → Int64)} {tracksOf_M : (Nat → Int32)} {steps_M : (Nat → Int32)} {laid_M : Int32} {laidMany_M : Int32} {tracks_M : Int32} {laidNet_M : (Nat → Int32)} {laidLeft_M : (Nat → Int32)} {laidRight_M : (Nat → Int32)} {laidTouch_M : (Nat → Int32)} {laidTrack_M : (Nat → Int32)} {ringSize_M : Int32} {ringOf_M : (Nat → Int32)} {lays_M : Int32} {refusals_M : Int32} {x1 : Int32} {x2 : Int32} {s0 : Int32} {r : Int32} (h : f_X4_free_J14 many_M below_M tracksOf_M x1 x2 s0 = some r) (hk : ∀ (pc : Nat) (lv : List (Nat × Value)), decode cX4_free pc = .ok (.ireturn, 1) → (r = 0 ∨ r = 1) → V p l e (rmO 1 22) s m args below meth c 5 D A 0 0 Q pc lv [.int r] (wM cI cJ aM thrown_M pins_M many_M nets_M lefts_M rights_M touches_M below_M reach_M tracksOf_M steps_M laid_M laidMany_M tracks_M laidNet_M laidLeft_M laidRight_M laidTouch_M laidTrack_M ringSize_M ringOf_M lays_M refusals_M)) : V p l e (rmO 1 22) s m args below meth c 5 D A 0 0 Q 14 [(0, .ref (aM 0)), (1, .int x1), (2, .int x2)] [.int s0] (wM cI cJ aM thrown_M pins_M many_M nets_M lefts_M rights_M touches_M below_M reach_M tracksOf_M steps_M laid_M laidMany_M tracks_M laidNet_M laidLeft_M laidRight_M laidTouch_M laidTrack_M ringSize_M ringOf_M lays_M refusals_M) := by
  unfold f_X4_free_J14 at h
  refine v_istore_n C [(3, .int s0), (0, .ref (aM 0)), (1, .int x1), (2, .int x2)] dX4_free_14 rfl (by decide) rfl ?_
  refine v_iconst (v := 0) C dX4_free_15 (by decide) ?_
  refine v_istore C [(4, .int 0), (3, .int s0), (0, .ref (aM 0)), (1, .int x1), (2, .int x2)] dX4_free_16 (by decide) rfl ?_
  obtain ⟨r, h1, h⟩ := bind_el h
  refine v_perm [2, 3, 4, 1, 0] rfl ?_
  obtain ⟨x3_3, rfl⟩ : ∃ z, z = r := ⟨_, rfl⟩
  refine t_X4_free_L18 C (s9 := (s0, 0)) h1 ?_
  show V p l e (rmO 1 22) s m args below meth c 5 D A 0 0 Q 74 [(3, .int x3_3)] [] (wM cI cJ aM thrown_M pins_M many_M nets_M lefts_M rights_M touches_M below_M reach_M tracksOf_M steps_M laid_M laidMany_M tracks_M laidNet_M laidLeft_M laidRight_M laidTouch_M laidTrack_M ringSize_M ringOf_M lays_M refusals_M)
  try dsimp only at h
  refine v_iload_n C 0 dX4_free_74 rfl rfl ?_
  have hz := (zbl_el h).1
  replace h := (zbl_el h).2
  cases h
  exact hk _ _ dX4_free_75 hz
set_option maxHeartbeats 4000000 in
set_option maxRecDepth 100000 in
theorem c_X4_free (l : Launch) (D : va_G) (cI cJ : ClassId) (aM : Nat → Nat) (thrown_M : Int32) (pins_M : (Nat → Int32)) (many_M : Int32) (nets_M : (Nat → Int32)) (lefts_M : (Nat → Int32)) (rights_M : (Nat → Int32)) (touches_M : (Nat → Int32)) (below_M : (Nat → Int64)) (reach_M : (Nat → Int64)) (tracksOf_M : (Nat → Int32)) (steps_M : (Nat → Int32)) (laid_M : Int32) (laidMany_M : Int32) (tracks_M : Int32) (laidNet_M : (Nat → Int32)) (laidLeft_M : (Nat → Int32)) (laidRight_M : (Nat → Int32)) (laidTouch_M : (Nat → Int32)) (laidTrack_M : (Nat → Int32)) (ringSize_M : Int32) (ringOf_M : (Nat → Int32)) (lays_M : Int32) (refusals_M : Int32) (x1 : Int32) (x2 : Int32) (r : Int32) (h : f_X4_free many_M below_M tracksOf_M x1 x2 = some r) : Cti l D cI cJ yX4_free cX4_free 5 (some .boolean) 1 22 [.ref (aM 0), .int x1, .int x2] (wM cI cJ aM thrown_M pins_M many_M nets_M lefts_M rights_M touches_M below_M reach_M tracksOf_M steps_M laid_M laidMany_M tracks_M laidNet_M laidLeft_M laidRight_M laidTouch_M laidTrack_M ringSize_M ringOf_M lays_M refusals_M) (wM cI cJ aM thrown_M pins_M many_M nets_M lefts_M rights_M touches_M below_M reach_M tracksOf_M steps_M laid_M laidMany_M tracks_M laidNet_M laidLeft_M laidRight_M laidTouch_M laidTrack_M ringSize_M ringOf_M lays_M refusals_M) r := by
  refine mk_z [(0, .ref (aM 0)), (1, .int x1), (2, .int x2)] (by decide) rfl (Nat.le_of_ble_eq_true rfl) rfl (fun p e s m args below meth c A Q C hk => ?_)
  unfold f_X4_free at h
  refine v_aload_n C 0 dX4_free_0 rfl rfl ?_
  refine v_get C 0 9 iuX4 rfl rfl (by decide) m3_62 rfl rfl dX4_free_1 ?_
  refine v_iload_n C 1 dX4_free_4 rfl rfl ?_
  refine v_iald C 8 rfl dX4_free_5 h (fun h => ?_)
  refine v_if_ge (tgt := 13) C dX4_free_6 (by decide) h (fun h => ?_) (fun h => ?_)
  · refine v_iconst (v := 0) C dX4_free_13 (by decide) ?_
    refine v_perm [0, 1, 2] rfl ?_
    exact t_X4_free_J14 C (many_M := many_M) (below_M := below_M) (tracksOf_M := tracksOf_M) (x1 := x1) (x2 := x2) (s0 := 0) h hk
  · refine v_iconst (v := 1) C dX4_free_9 (by decide) ?_
    refine v_goto (tgt := 14) C dX4_free_10 (by decide) ?_
    refine v_perm [0, 1, 2] rfl ?_
    exact t_X4_free_J14 C (many_M := many_M) (below_M := below_M) (tracksOf_M := tracksOf_M) (x1 := x1) (x2 := x2) (s0 := 1) h hk
def f_X4_nextFor_J109 (many_M : Int32) (lefts_M : (Nat → Int32)) (below_M : (Nat → Int64)) (tracksOf_M : (Nat → Int32)) (x1 : Int32) (x5 : Int32) (x6 : Int32) (x7 : Int32) (s0 : Int32) : Option ((Int32 × Int32) ⊕ Int32) := if x7 = 0 then (some (.inl ((x5, x6 + (-1))))) else (if s0 = 0 then (some (.inl ((x5, x6 + (-1))))) else ((f_X4_free many_M below_M tracksOf_M x6 x1).bind (fun r => match r with | r_1 => if r_1 = 0 then (some (.inl ((x5, x6 + (-1))))) else (if x5 < 0 then (some (.inl ((x6, x6 + (-1))))) else (bnd x6 40 (bnd x5 40 (if (lefts_M x5.toNatClampNeg) < (lefts_M x6.toNatClampNeg) then (some (.inl ((x5, x6 + (-1))))) else (some (.inl ((x6, x6 + (-1))))))))))))
def f_X4_nextFor_J104 (many_M : Int32) (lefts_M : (Nat → Int32)) (below_M : (Nat → Int64)) (tracksOf_M : (Nat → Int32)) (x1 : Int32) (x5 : Int32) (x6 : Int32) (x7 : Int32) : Option ((Int32 × Int32) ⊕ Int32) := f_X4_nextFor_J109 many_M lefts_M below_M tracksOf_M x1 x5 x6 x7 1
def f_X4_nextFor_J108 (many_M : Int32) (lefts_M : (Nat → Int32)) (below_M : (Nat → Int64)) (tracksOf_M : (Nat → Int32)) (x1 : Int32) (x5 : Int32) (x6 : Int32) (x7 : Int32) : Option ((Int32 × Int32) ⊕ Int32) := f_X4_nextFor_J109 many_M lefts_M below_M tracksOf_M x1 x5 x6 x7 0
def f_X4_nextFor_J50 (many_M : Int32) (nets_M : (Nat → Int32)) (lefts_M : (Nat → Int32)) (rights_M : (Nat → Int32)) (below_M : (Nat → Int64)) (tracksOf_M : (Nat → Int32)) (x1 : Int32) (x2 : Int32) (x5 : Int32) (x6 : Int32) (s0 : Int32) : Option ((Int32 × Int32) ⊕ Int32) := if x2 < 0 then (f_X4_nextFor_J104 many_M lefts_M below_M tracksOf_M x1 x5 x6 s0) else (bnd x6 40 (bnd x2 40 (if (rights_M x2.toNatClampNeg) < (lefts_M x6.toNatClampNeg) then (f_X4_nextFor_J104 many_M lefts_M below_M tracksOf_M x1 x5 x6 s0) else (bnd x6 40 (bnd x2 40 (if (lefts_M x6.toNatClampNeg) = (rights_M x2.toNatClampNeg) then (bnd x6 40 (bnd x2 40 (if (nets_M x6.toNatClampNeg) = (nets_M x2.toNatClampNeg) then (f_X4_nextFor_J104 many_M lefts_M below_M tracksOf_M x1 x5 x6 s0) else (f_X4_nextFor_J108 many_M lefts_M below_M tracksOf_M x1 x5 x6 s0)))) else (f_X4_nextFor_J108 many_M lefts_M below_M tracksOf_M x1 x5 x6 s0)))))))
def f_X4_nextFor_J45 (many_M : Int32) (nets_M : (Nat → Int32)) (lefts_M : (Nat → Int32)) (rights_M : (Nat → Int32)) (below_M : (Nat → Int64)) (tracksOf_M : (Nat → Int32)) (x1 : Int32) (x2 : Int32) (x5 : Int32) (x6 : Int32) : Option ((Int32 × Int32) ⊕ Int32) := f_X4_nextFor_J50 many_M nets_M lefts_M rights_M below_M tracksOf_M x1 x2 x5 x6 1
def f_X4_nextFor_J49 (many_M : Int32) (nets_M : (Nat → Int32)) (lefts_M : (Nat → Int32)) (rights_M : (Nat → Int32)) (below_M : (Nat → Int64)) (tracksOf_M : (Nat → Int32)) (x1 : Int32) (x2 : Int32) (x5 : Int32) (x6 : Int32) : Option ((Int32 × Int32) ⊕ Int32) := f_X4_nextFor_J50 many_M nets_M lefts_M rights_M below_M tracksOf_M x1 x2 x5 x6 0
def f_X4_nextFor_B11 (x1 : Int32) (x2 : Int32) (x3 : Int32) (x4 : Int32) (many_M : Int32) (nets_M : (Nat → Int32)) (lefts_M : (Nat → Int32)) (rights_M : (Nat → Int32)) (below_M : (Nat → Int64)) (tracksOf_M : (Nat → Int32)) : (Int32 × Int32) → Option ((Int32 × Int32) ⊕ Int32)
  | (x5, x6) => if x6 < 0 then (some (.inr x5)) else (bnd x6 40 (if x3 < (lefts_M x6.toNatClampNeg) then (f_X4_nextFor_J45 many_M nets_M lefts_M rights_M below_M tracksOf_M x1 x2 x5 x6) else (bnd x6 40 (if (lefts_M x6.toNatClampNeg) = x3 then (if x6 ≤ x4 then (f_X4_nextFor_J49 many_M nets_M lefts_M rights_M below_M tracksOf_M x1 x2 x5 x6) else (f_X4_nextFor_J45 many_M nets_M lefts_M rights_M below_M tracksOf_M x1 x2 x5 x6)) else (f_X4_nextFor_J49 many_M nets_M lefts_M rights_M below_M tracksOf_M x1 x2 x5 x6)))))
def f_X4_nextFor (many_M : Int32) (nets_M : (Nat → Int32)) (lefts_M : (Nat → Int32)) (rights_M : (Nat → Int32)) (below_M : (Nat → Int64)) (tracksOf_M : (Nat → Int32)) (x1 : Int32) (x2 : Int32) (x3 : Int32) (x4 : Int32) : Option Int32 := (lp (f_X4_nextFor_B11 x1 x2 x3 x4 many_M nets_M lefts_M rights_M below_M tracksOf_M) 64 (((-1), many_M - 1))).bind (fun r => match r with | x5_2 => some x5_2)
theorem cw_X4_nextFor : CWv yX4_nextFor cX4_nextFor 9 (some .int) RX4 4 := ⟨m3_209, ms4_10, m1_5, m3_210, rfl, by decide, by decide, by decide +kernel⟩
set_option maxHeartbeats 4000000 in
set_option maxRecDepth 100000 in
theorem t_X4_nextFor_J109 {p : Program} {l : Launch} {e : Env} {s : State} {m : MethodId} {args : Array Value} {below : List Frame} {meth : Method} {c : Code} {D : va_G} {A : Nat → Prop} {cI cJ : ClassId} {Q : State → Prop} (C : Cx p s m args c cX4_nextFor 9 RX4 D A cI cJ) {aM : Nat → Nat} {thrown_M : Int32} {pins_M : (Nat → Int32)} {many_M : Int32} {nets_M : (Nat → Int32)} {lefts_M : (Nat → Int32)} {rights_M : (Nat → Int32)} {touches_M : (Nat → Int32)} {below_M : (Nat → Int64)} {reach_M : (Nat → Int64)} {tracksOf_M : (Nat → Int32)} {steps_M : (Nat → Int32)} {laid_M : Int32} {laidMany_M : Int32} {tracks_M : Int32} {laidNet_M : (Nat → Int32)} {laidLeft_M : (Nat → Int32)} {laidRight_M : (Nat → Int32)} {laidTouch_M : (Nat → Int32)} {laidTrack_M : (Nat → Int32)} {ringSize_M : Int32} {ringOf_M : (Nat → Int32)} {lays_M : Int32} {refusals_M : Int32} {x1 : Int32} {x2 : Int32} {x3 : Int32} {x4 : Int32} {x5 : Int32} {x6 : Int32} {x7 : Int32} {s0 : Int32} {o8 : (Int32 × Int32) ⊕ Int32} (h : f_X4_nextFor_J109 many_M lefts_M below_M tracksOf_M x1 x5 x6 x7 s0 = some o8) (hl : ∀ s8, o8 = .inl s8 → V p l e (rmO 2 46) s m args below meth c 9 D A 0 0 Q 11 [(0, .ref (aM 0)), (1, .int x1), (2, .int x2), (3, .int x3), (4, .int x4), (5, .int s8.1), (6, .int s8.2)] [] (wM cI cJ aM thrown_M pins_M many_M nets_M lefts_M rights_M touches_M below_M reach_M tracksOf_M steps_M laid_M laidMany_M tracks_M laidNet_M laidLeft_M laidRight_M laidTouch_M laidTrack_M ringSize_M ringOf_M lays_M refusals_M)) (hx : ∀ r8, o8 = .inr r8 → V p l e (rmO 2 46) s m args below meth c 9 D A 0 0 Q 163 [(5, .int r8)] [] (wM cI cJ aM thrown_M pins_M many_M nets_M lefts_M rights_M touches_M below_M reach_M tracksOf_M steps_M laid_M laidMany_M tracks_M laidNet_M laidLeft_M laidRight_M laidTouch_M laidTrack_M ringSize_M ringOf_M lays_M refusals_M)) : V p l e (rmO 2 46) s m args below meth c 9 D A 0 0 Q 109 [(0, .ref (aM 0)), (1, .int x1), (2, .int x2), (3, .int x3), (4, .int x4), (5, .int x5), (6, .int x6), (7, .int x7)] [.int s0] (wM cI cJ aM thrown_M pins_M many_M nets_M lefts_M rights_M touches_M below_M reach_M tracksOf_M steps_M laid_M laidMany_M tracks_M laidNet_M laidLeft_M laidRight_M laidTouch_M laidTrack_M ringSize_M ringOf_M lays_M refusals_M) := by
  unfold f_X4_nextFor_J109 at h
  refine v_istore C [(8, .int s0), (0, .ref (aM 0)), (1, .int x1), (2, .int x2), (3, .int x3), (4, .int x4), (5, .int x5), (6, .int x6), (7, .int x7)] dX4_nextFor_109 (by decide) rfl ?_
  refine v_iload C 8 dX4_nextFor_111 rfl ?_
  refine v_if_eq (tgt := 157) C dX4_nextFor_113 (by decide) h (fun h => ?_) (fun h => ?_)
  · refine v_iinc C [(6, .int (x6 + (-1))), (8, .int s0), (0, .ref (aM 0)), (1, .int x1), (2, .int x2), (3, .int x3), (4, .int x4), (5, .int x5), (7, .int x7)] 7 dX4_nextFor_157 rfl rfl (by decide) rfl ?_
    refine v_goto (tgt := 11) C dX4_nextFor_160 (by decide) ?_
    refine v_perm [2, 3, 4, 5, 6, 7, 0] rfl ?_
    cases h
    exact hl _ rfl
  · refine v_iload C 0 dX4_nextFor_116 rfl ?_
    refine v_if_eq (tgt := 157) C dX4_nextFor_118 (by decide) h (fun h => ?_) (fun h => ?_)
    · refine v_iinc C [(6, .int (x6 + (-1))), (8, .int s0), (0, .ref (aM 0)), (1, .int x1), (2, .int x2), (3, .int x3), (4, .int x4), (5, .int x5), (7, .int x7)] 7 dX4_nextFor_157 rfl rfl (by decide) rfl ?_
      refine v_goto (tgt := 11) C dX4_nextFor_160 (by decide) ?_
      refine v_perm [2, 3, 4, 5, 6, 7, 0] rfl ?_
      cases h
      exact hl _ rfl
    · refine v_aload_n C 1 dX4_nextFor_121 rfl rfl ?_
      refine v_iload C 7 dX4_nextFor_122 rfl ?_
      refine v_iload_n C 2 dX4_nextFor_124 rfl rfl ?_
      obtain ⟨r, h1, h⟩ := bind_el h
      obtain ⟨r_1, rfl⟩ : ∃ z, z = r := ⟨_, rfl⟩
      try dsimp only at h
      refine v_callVi (As := [.int x6, .int x1]) (st := []) (wr := []) (w1 := (wM cI cJ aM thrown_M pins_M many_M nets_M lefts_M rights_M touches_M below_M reach_M tracksOf_M steps_M laid_M laidMany_M tracks_M laidNet_M laidLeft_M laidRight_M laidTouch_M laidTrack_M ringSize_M ringOf_M lays_M refusals_M)) (ws' := (wM cI cJ aM thrown_M pins_M many_M nets_M lefts_M rights_M touches_M below_M reach_M tracksOf_M steps_M laid_M laidMany_M tracks_M laidNet_M laidLeft_M laidRight_M laidTouch_M laidTrack_M ringSize_M ringOf_M lays_M refusals_M)) (isC := [0, 1, 2, 3, 4, 5, 6, 7, 8, 9, 10, 11, 12, 13, 14, 15]) (isR := []) (pm := [0, 1, 2, 3, 4, 5, 6, 7, 8, 9, 10, 11, 12, 13, 14, 15]) C (c_X4_free l D cI cJ aM thrown_M pins_M many_M nets_M lefts_M rights_M touches_M below_M reach_M tracksOf_M steps_M laid_M laidMany_M tracks_M laidNet_M laidLeft_M laidRight_M laidTouch_M laidTrack_M ringSize_M ringOf_M lays_M refusals_M x6 x1 r_1 h1) cw_X4_free 0 rfl rfl m3_211 dX4_nextFor_125 rfl ⟨Nat.le_of_ble_eq_true rfl, Nat.le_of_ble_eq_true rfl⟩ (Nat.le_of_ble_eq_true rfl) ⟨Nat.le_refl 0, Nat.le_refl 0⟩ ⟨rfl, rfl, rfl, rfl, by decide, rfl, rfl⟩ ?_
      refine v_if_eq (tgt := 157) C dX4_nextFor_128 (by decide) h (fun h => ?_) (fun h => ?_)
      · refine v_iinc C [(6, .int (x6 + (-1))), (8, .int s0), (0, .ref (aM 0)), (1, .int x1), (2, .int x2), (3, .int x3), (4, .int x4), (5, .int x5), (7, .int x7)] 7 dX4_nextFor_157 rfl rfl (by decide) rfl ?_
        refine v_goto (tgt := 11) C dX4_nextFor_160 (by decide) ?_
        refine v_perm [2, 3, 4, 5, 6, 7, 0] rfl ?_
        cases h
        exact hl _ rfl
      · refine v_iload C 6 dX4_nextFor_131 rfl ?_
        refine v_if_lt (tgt := 153) C dX4_nextFor_133 (by decide) h (fun h => ?_) (fun h => ?_)
        · refine v_iload C 7 dX4_nextFor_153 rfl ?_
          refine v_istore C [(5, .int x6), (8, .int s0), (0, .ref (aM 0)), (1, .int x1), (2, .int x2), (3, .int x3), (4, .int x4), (6, .int x6), (7, .int x7)] dX4_nextFor_155 (by decide) rfl ?_
          refine v_iinc C [(6, .int (x6 + (-1))), (5, .int x6), (8, .int s0), (0, .ref (aM 0)), (1, .int x1), (2, .int x2), (3, .int x3), (4, .int x4), (7, .int x7)] 7 dX4_nextFor_157 rfl rfl (by decide) rfl ?_
          refine v_goto (tgt := 11) C dX4_nextFor_160 (by decide) ?_
          refine v_perm [3, 4, 5, 6, 7, 1, 0] rfl ?_
          cases h
          exact hl _ rfl
        · refine v_aload_n C 1 dX4_nextFor_136 rfl rfl ?_
          refine v_get C 0 4 iuX4 rfl rfl (by decide) m3_57 rfl rfl dX4_nextFor_137 ?_
          refine v_iload C 7 dX4_nextFor_140 rfl ?_
          refine v_iald C 3 rfl dX4_nextFor_142 h (fun h => ?_)
          refine v_aload_n C 1 dX4_nextFor_143 rfl rfl ?_
          refine v_get C 0 4 iuX4 rfl rfl (by decide) m3_57 rfl rfl dX4_nextFor_144 ?_
          refine v_iload C 6 dX4_nextFor_147 rfl ?_
          refine v_iald C 3 rfl dX4_nextFor_149 h (fun h => ?_)
          refine v_icmp_gt (tgt := 157) C dX4_nextFor_150 (by decide) h (fun h => ?_) (fun h => ?_)
          · refine v_iinc C [(6, .int (x6 + (-1))), (8, .int s0), (0, .ref (aM 0)), (1, .int x1), (2, .int x2), (3, .int x3), (4, .int x4), (5, .int x5), (7, .int x7)] 7 dX4_nextFor_157 rfl rfl (by decide) rfl ?_
            refine v_goto (tgt := 11) C dX4_nextFor_160 (by decide) ?_
            refine v_perm [2, 3, 4, 5, 6, 7, 0] rfl ?_
            cases h
            exact hl _ rfl
          · refine v_iload C 7 dX4_nextFor_153 rfl ?_
            refine v_istore C [(5, .int x6), (8, .int s0), (0, .ref (aM 0)), (1, .int x1), (2, .int x2), (3, .int x3), (4, .int x4), (6, .int x6), (7, .int x7)] dX4_nextFor_155 (by decide) rfl ?_
            refine v_iinc C [(6, .int (x6 + (-1))), (5, .int x6), (8, .int s0), (0, .ref (aM 0)), (1, .int x1), (2, .int x2), (3, .int x3), (4, .int x4), (7, .int x7)] 7 dX4_nextFor_157 rfl rfl (by decide) rfl ?_
            refine v_goto (tgt := 11) C dX4_nextFor_160 (by decide) ?_
            refine v_perm [3, 4, 5, 6, 7, 1, 0] rfl ?_
            cases h
            exact hl _ rfl
set_option maxHeartbeats 4000000 in
set_option maxRecDepth 100000 in
theorem t_X4_nextFor_J104 {p : Program} {l : Launch} {e : Env} {s : State} {m : MethodId} {args : Array Value} {below : List Frame} {meth : Method} {c : Code} {D : va_G} {A : Nat → Prop} {cI cJ : ClassId} {Q : State → Prop} (C : Cx p s m args c cX4_nextFor 9 RX4 D A cI cJ) {aM : Nat → Nat} {thrown_M : Int32} {pins_M : (Nat → Int32)} {many_M : Int32} {nets_M : (Nat → Int32)} {lefts_M : (Nat → Int32)} {rights_M : (Nat → Int32)} {touches_M : (Nat → Int32)} {below_M : (Nat → Int64)} {reach_M : (Nat → Int64)} {tracksOf_M : (Nat → Int32)} {steps_M : (Nat → Int32)} {laid_M : Int32} {laidMany_M : Int32} {tracks_M : Int32} {laidNet_M : (Nat → Int32)} {laidLeft_M : (Nat → Int32)} {laidRight_M : (Nat → Int32)} {laidTouch_M : (Nat → Int32)} {laidTrack_M : (Nat → Int32)} {ringSize_M : Int32} {ringOf_M : (Nat → Int32)} {lays_M : Int32} {refusals_M : Int32} {x1 : Int32} {x2 : Int32} {x3 : Int32} {x4 : Int32} {x5 : Int32} {x6 : Int32} {x7 : Int32} {o8 : (Int32 × Int32) ⊕ Int32} (h : f_X4_nextFor_J104 many_M lefts_M below_M tracksOf_M x1 x5 x6 x7 = some o8) (hl : ∀ s8, o8 = .inl s8 → V p l e (rmO 2 46) s m args below meth c 9 D A 0 0 Q 11 [(0, .ref (aM 0)), (1, .int x1), (2, .int x2), (3, .int x3), (4, .int x4), (5, .int s8.1), (6, .int s8.2)] [] (wM cI cJ aM thrown_M pins_M many_M nets_M lefts_M rights_M touches_M below_M reach_M tracksOf_M steps_M laid_M laidMany_M tracks_M laidNet_M laidLeft_M laidRight_M laidTouch_M laidTrack_M ringSize_M ringOf_M lays_M refusals_M)) (hx : ∀ r8, o8 = .inr r8 → V p l e (rmO 2 46) s m args below meth c 9 D A 0 0 Q 163 [(5, .int r8)] [] (wM cI cJ aM thrown_M pins_M many_M nets_M lefts_M rights_M touches_M below_M reach_M tracksOf_M steps_M laid_M laidMany_M tracks_M laidNet_M laidLeft_M laidRight_M laidTouch_M laidTrack_M ringSize_M ringOf_M lays_M refusals_M)) : V p l e (rmO 2 46) s m args below meth c 9 D A 0 0 Q 104 [(0, .ref (aM 0)), (1, .int x1), (2, .int x2), (3, .int x3), (4, .int x4), (5, .int x5), (6, .int x6), (7, .int x7)] [] (wM cI cJ aM thrown_M pins_M many_M nets_M lefts_M rights_M touches_M below_M reach_M tracksOf_M steps_M laid_M laidMany_M tracks_M laidNet_M laidLeft_M laidRight_M laidTouch_M laidTrack_M ringSize_M ringOf_M lays_M refusals_M) := by
  unfold f_X4_nextFor_J104 at h
  refine v_iconst (v := 1) C dX4_nextFor_104 (by decide) ?_
  refine v_goto (tgt := 109) C dX4_nextFor_105 (by decide) ?_
  refine v_perm [0, 1, 2, 3, 4, 5, 6, 7] rfl ?_
  exact t_X4_nextFor_J109 C (many_M := many_M) (lefts_M := lefts_M) (below_M := below_M) (tracksOf_M := tracksOf_M) (x1 := x1) (x5 := x5) (x6 := x6) (x7 := x7) (s0 := 1) h hl hx
set_option maxHeartbeats 4000000 in
set_option maxRecDepth 100000 in
theorem t_X4_nextFor_J108 {p : Program} {l : Launch} {e : Env} {s : State} {m : MethodId} {args : Array Value} {below : List Frame} {meth : Method} {c : Code} {D : va_G} {A : Nat → Prop} {cI cJ : ClassId} {Q : State → Prop} (C : Cx p s m args c cX4_nextFor 9 RX4 D A cI cJ) {aM : Nat → Nat} {thrown_M : Int32} {pins_M : (Nat → Int32)} {many_M : Int32} {nets_M : (Nat → Int32)} {lefts_M : (Nat → Int32)} {rights_M : (Nat → Int32)} {touches_M : (Nat → Int32)} {below_M : (Nat → Int64)} {reach_M : (Nat → Int64)} {tracksOf_M : (Nat → Int32)} {steps_M : (Nat → Int32)} {laid_M : Int32} {laidMany_M : Int32} {tracks_M : Int32} {laidNet_M : (Nat → Int32)} {laidLeft_M : (Nat → Int32)} {laidRight_M : (Nat → Int32)} {laidTouch_M : (Nat → Int32)} {laidTrack_M : (Nat → Int32)} {ringSize_M : Int32} {ringOf_M : (Nat → Int32)} {lays_M : Int32} {refusals_M : Int32} {x1 : Int32} {x2 : Int32} {x3 : Int32} {x4 : Int32} {x5 : Int32} {x6 : Int32} {x7 : Int32} {o8 : (Int32 × Int32) ⊕ Int32} (h : f_X4_nextFor_J108 many_M lefts_M below_M tracksOf_M x1 x5 x6 x7 = some o8) (hl : ∀ s8, o8 = .inl s8 → V p l e (rmO 2 46) s m args below meth c 9 D A 0 0 Q 11 [(0, .ref (aM 0)), (1, .int x1), (2, .int x2), (3, .int x3), (4, .int x4), (5, .int s8.1), (6, .int s8.2)] [] (wM cI cJ aM thrown_M pins_M many_M nets_M lefts_M rights_M touches_M below_M reach_M tracksOf_M steps_M laid_M laidMany_M tracks_M laidNet_M laidLeft_M laidRight_M laidTouch_M laidTrack_M ringSize_M ringOf_M lays_M refusals_M)) (hx : ∀ r8, o8 = .inr r8 → V p l e (rmO 2 46) s m args below meth c 9 D A 0 0 Q 163 [(5, .int r8)] [] (wM cI cJ aM thrown_M pins_M many_M nets_M lefts_M rights_M touches_M below_M reach_M tracksOf_M steps_M laid_M laidMany_M tracks_M laidNet_M laidLeft_M laidRight_M laidTouch_M laidTrack_M ringSize_M ringOf_M lays_M refusals_M)) : V p l e (rmO 2 46) s m args below meth c 9 D A 0 0 Q 108 [(0, .ref (aM 0)), (1, .int x1), (2, .int x2), (3, .int x3), (4, .int x4), (5, .int x5), (6, .int x6), (7, .int x7)] [] (wM cI cJ aM thrown_M pins_M many_M nets_M lefts_M rights_M touches_M below_M reach_M tracksOf_M steps_M laid_M laidMany_M tracks_M laidNet_M laidLeft_M laidRight_M laidTouch_M laidTrack_M ringSize_M ringOf_M lays_M refusals_M) := by
  unfold f_X4_nextFor_J108 at h
  refine v_iconst (v := 0) C dX4_nextFor_108 (by decide) ?_
  refine v_perm [0, 1, 2, 3, 4, 5, 6, 7] rfl ?_
  exact t_X4_nextFor_J109 C (many_M := many_M) (lefts_M := lefts_M) (below_M := below_M) (tracksOf_M := tracksOf_M) (x1 := x1) (x5 := x5) (x6 := x6) (x7 := x7) (s0 := 0) h hl hx
set_option maxHeartbeats 4000000 in
set_option maxRecDepth 100000 in
theorem t_X4_nextFor_J50 {p : Program} {l : Launch} {e : Env} {s : State} {m : MethodId} {args : Array Value} {below : List Frame} {meth : Method} {c : Code} {D : va_G} {A : Nat → Prop} {cI cJ : ClassId} {Q : State → Prop} (C : Cx p s m args c cX4_nextFor 9 RX4 D A cI cJ) {aM : Nat → Nat} {thrown_M : Int32} {pins_M : (Nat → Int32)} {many_M : Int32} {nets_M : (Nat → Int32)} {lefts_M : (Nat → Int32)} {rights_M : (Nat → Int32)} {touches_M : (Nat → Int32)} {below_M : (Nat → Int64)} {reach_M : (Nat → Int64)} {tracksOf_M : (Nat → Int32)} {steps_M : (Nat → Int32)} {laid_M : Int32} {laidMany_M : Int32} {tracks_M : Int32} {laidNet_M : (Nat → Int32)} {laidLeft_M : (Nat → Int32)} {laidRight_M : (Nat → Int32)} {laidTouch_M : (Nat → Int32)} {laidTrack_M : (Nat → Int32)} {ringSize_M : Int32} {ringOf_M : (Nat → Int32)} {lays_M : Int32} {refusals_M : Int32} {x1 : Int32} {x2 : Int32} {x3 : Int32} {x4 : Int32} {x5 : Int32} {x6 : Int32} {s0 : Int32} {o8 : (Int32 × Int32) ⊕ Int32} (h : f_X4_nextFor_J50 many_M nets_M lefts_M rights_M below_M tracksOf_M x1 x2 x5 x6 s0 = some o8) (hl : ∀ s8, o8 = .inl s8 → V p l e (rmO 2 46) s m args below meth c 9 D A 0 0 Q 11 [(0, .ref (aM 0)), (1, .int x1), (2, .int x2), (3, .int x3), (4, .int x4), (5, .int s8.1), (6, .int s8.2)] [] (wM cI cJ aM thrown_M pins_M many_M nets_M lefts_M rights_M touches_M below_M reach_M tracksOf_M steps_M laid_M laidMany_M tracks_M laidNet_M laidLeft_M laidRight_M laidTouch_M laidTrack_M ringSize_M ringOf_M lays_M refusals_M)) (hx : ∀ r8, o8 = .inr r8 → V p l e (rmO 2 46) s m args below meth c 9 D A 0 0 Q 163 [(5, .int r8)] [] (wM cI cJ aM thrown_M pins_M many_M nets_M lefts_M rights_M touches_M below_M reach_M tracksOf_M steps_M laid_M laidMany_M tracks_M laidNet_M laidLeft_M laidRight_M laidTouch_M laidTrack_M ringSize_M ringOf_M lays_M refusals_M)) : V p l e (rmO 2 46) s m args below meth c 9 D A 0 0 Q 50 [(0, .ref (aM 0)), (1, .int x1), (2, .int x2), (3, .int x3), (4, .int x4), (5, .int x5), (6, .int x6)] [.int s0] (wM cI cJ aM thrown_M pins_M many_M nets_M lefts_M rights_M touches_M below_M reach_M tracksOf_M steps_M laid_M laidMany_M tracks_M laidNet_M laidLeft_M laidRight_M laidTouch_M laidTrack_M ringSize_M ringOf_M lays_M refusals_M) := by
  unfold f_X4_nextFor_J50 at h
  refine v_istore C [(7, .int s0), (0, .ref (aM 0)), (1, .int x1), (2, .int x2), (3, .int x3), (4, .int x4), (5, .int x5), (6, .int x6)] dX4_nextFor_50 (by decide) rfl ?_
  refine v_iload_n C 3 dX4_nextFor_52 rfl rfl ?_
  refine v_if_lt (tgt := 104) C dX4_nextFor_53 (by decide) h (fun h => ?_) (fun h => ?_)
  · refine v_perm [1, 2, 3, 4, 5, 6, 7, 0] rfl ?_
    exact t_X4_nextFor_J104 C (many_M := many_M) (lefts_M := lefts_M) (below_M := below_M) (tracksOf_M := tracksOf_M) (x1 := x1) (x5 := x5) (x6 := x6) (x7 := s0) h hl hx
  · refine v_aload_n C 1 dX4_nextFor_56 rfl rfl ?_
    refine v_get C 0 4 iuX4 rfl rfl (by decide) m3_57 rfl rfl dX4_nextFor_57 ?_
    refine v_iload C 7 dX4_nextFor_60 rfl ?_
    refine v_iald C 3 rfl dX4_nextFor_62 h (fun h => ?_)
    refine v_aload_n C 1 dX4_nextFor_63 rfl rfl ?_
    refine v_get C 0 5 iuX4 rfl rfl (by decide) m3_58 rfl rfl dX4_nextFor_64 ?_
    refine v_iload_n C 3 dX4_nextFor_67 rfl rfl ?_
    refine v_iald C 4 rfl dX4_nextFor_68 h (fun h => ?_)
    refine v_icmp_gt (tgt := 104) C dX4_nextFor_69 (by decide) h (fun h => ?_) (fun h => ?_)
    · refine v_perm [1, 2, 3, 4, 5, 6, 7, 0] rfl ?_
      exact t_X4_nextFor_J104 C (many_M := many_M) (lefts_M := lefts_M) (below_M := below_M) (tracksOf_M := tracksOf_M) (x1 := x1) (x5 := x5) (x6 := x6) (x7 := s0) h hl hx
    · refine v_aload_n C 1 dX4_nextFor_72 rfl rfl ?_
      refine v_get C 0 4 iuX4 rfl rfl (by decide) m3_57 rfl rfl dX4_nextFor_73 ?_
      refine v_iload C 7 dX4_nextFor_76 rfl ?_
      refine v_iald C 3 rfl dX4_nextFor_78 h (fun h => ?_)
      refine v_aload_n C 1 dX4_nextFor_79 rfl rfl ?_
      refine v_get C 0 5 iuX4 rfl rfl (by decide) m3_58 rfl rfl dX4_nextFor_80 ?_
      refine v_iload_n C 3 dX4_nextFor_83 rfl rfl ?_
      refine v_iald C 4 rfl dX4_nextFor_84 h (fun h => ?_)
      refine v_icmp_ne (tgt := 108) C dX4_nextFor_85 (by decide) h (fun h => ?_) (fun h => ?_)
      · refine v_aload_n C 1 dX4_nextFor_88 rfl rfl ?_
        refine v_get C 0 3 iuX4 rfl rfl (by decide) m3_56 rfl rfl dX4_nextFor_89 ?_
        refine v_iload C 7 dX4_nextFor_92 rfl ?_
        refine v_iald C 2 rfl dX4_nextFor_94 h (fun h => ?_)
        refine v_aload_n C 1 dX4_nextFor_95 rfl rfl ?_
        refine v_get C 0 3 iuX4 rfl rfl (by decide) m3_56 rfl rfl dX4_nextFor_96 ?_
        refine v_iload_n C 3 dX4_nextFor_99 rfl rfl ?_
        refine v_iald C 2 rfl dX4_nextFor_100 h (fun h => ?_)
        refine v_icmp_ne (tgt := 108) C dX4_nextFor_101 (by decide) h (fun h => ?_) (fun h => ?_)
        · refine v_perm [1, 2, 3, 4, 5, 6, 7, 0] rfl ?_
          exact t_X4_nextFor_J104 C (many_M := many_M) (lefts_M := lefts_M) (below_M := below_M) (tracksOf_M := tracksOf_M) (x1 := x1) (x5 := x5) (x6 := x6) (x7 := s0) h hl hx
        · refine v_perm [1, 2, 3, 4, 5, 6, 7, 0] rfl ?_
          exact t_X4_nextFor_J108 C (many_M := many_M) (lefts_M := lefts_M) (below_M := below_M) (tracksOf_M := tracksOf_M) (x1 := x1) (x5 := x5) (x6 := x6) (x7 := s0) h hl hx
      · refine v_perm [1, 2, 3, 4, 5, 6, 7, 0] rfl ?_
        exact t_X4_nextFor_J108 C (many_M := many_M) (lefts_M := lefts_M) (below_M := below_M) (tracksOf_M := tracksOf_M) (x1 := x1) (x5 := x5) (x6 := x6) (x7 := s0) h hl hx
set_option maxHeartbeats 4000000 in
set_option maxRecDepth 100000 in
theorem t_X4_nextFor_J45 {p : Program} {l : Launch} {e : Env} {s : State} {m : MethodId} {args : Array Value} {below : List Frame} {meth : Method} {c : Code} {D : va_G} {A : Nat → Prop} {cI cJ : ClassId} {Q : State → Prop} (C : Cx p s m args c cX4_nextFor 9 RX4 D A cI cJ) {aM : Nat → Nat} {thrown_M : Int32} {pins_M : (Nat → Int32)} {many_M : Int32} {nets_M : (Nat → Int32)} {lefts_M : (Nat → Int32)} {rights_M : (Nat → Int32)} {touches_M : (Nat → Int32)} {below_M : (Nat → Int64)} {reach_M : (Nat → Int64)} {tracksOf_M : (Nat → Int32)} {steps_M : (Nat → Int32)} {laid_M : Int32} {laidMany_M : Int32} {tracks_M : Int32} {laidNet_M : (Nat → Int32)} {laidLeft_M : (Nat → Int32)} {laidRight_M : (Nat → Int32)} {laidTouch_M : (Nat → Int32)} {laidTrack_M : (Nat → Int32)} {ringSize_M : Int32} {ringOf_M : (Nat → Int32)} {lays_M : Int32} {refusals_M : Int32} {x1 : Int32} {x2 : Int32} {x3 : Int32} {x4 : Int32} {x5 : Int32} {x6 : Int32} {o8 : (Int32 × Int32) ⊕ Int32} (h : f_X4_nextFor_J45 many_M nets_M lefts_M rights_M below_M tracksOf_M x1 x2 x5 x6 = some o8) (hl : ∀ s8, o8 = .inl s8 → V p l e (rmO 2 46) s m args below meth c 9 D A 0 0 Q 11 [(0, .ref (aM 0)), (1, .int x1), (2, .int x2), (3, .int x3), (4, .int x4), (5, .int s8.1), (6, .int s8.2)] [] (wM cI cJ aM thrown_M pins_M many_M nets_M lefts_M rights_M touches_M below_M reach_M tracksOf_M steps_M laid_M laidMany_M tracks_M laidNet_M laidLeft_M laidRight_M laidTouch_M laidTrack_M ringSize_M ringOf_M lays_M refusals_M)) (hx : ∀ r8, o8 = .inr r8 → V p l e (rmO 2 46) s m args below meth c 9 D A 0 0 Q 163 [(5, .int r8)] [] (wM cI cJ aM thrown_M pins_M many_M nets_M lefts_M rights_M touches_M below_M reach_M tracksOf_M steps_M laid_M laidMany_M tracks_M laidNet_M laidLeft_M laidRight_M laidTouch_M laidTrack_M ringSize_M ringOf_M lays_M refusals_M)) : V p l e (rmO 2 46) s m args below meth c 9 D A 0 0 Q 45 [(0, .ref (aM 0)), (1, .int x1), (2, .int x2), (3, .int x3), (4, .int x4), (5, .int x5), (6, .int x6)] [] (wM cI cJ aM thrown_M pins_M many_M nets_M lefts_M rights_M touches_M below_M reach_M tracksOf_M steps_M laid_M laidMany_M tracks_M laidNet_M laidLeft_M laidRight_M laidTouch_M laidTrack_M ringSize_M ringOf_M lays_M refusals_M) := by
  unfold f_X4_nextFor_J45 at h
  refine v_iconst (v := 1) C dX4_nextFor_45 (by decide) ?_
  refine v_goto (tgt := 50) C dX4_nextFor_46 (by decide) ?_
  refine v_perm [0, 1, 2, 3, 4, 5, 6] rfl ?_
  exact t_X4_nextFor_J50 C (many_M := many_M) (nets_M := nets_M) (lefts_M := lefts_M) (rights_M := rights_M) (below_M := below_M) (tracksOf_M := tracksOf_M) (x1 := x1) (x2 := x2) (x5 := x5) (x6 := x6) (s0 := 1) h hl hx
set_option maxHeartbeats 4000000 in
set_option maxRecDepth 100000 in
theorem t_X4_nextFor_J49 {p : Program} {l : Launch} {e : Env} {s : State} {m : MethodId} {args : Array Value} {below : List Frame} {meth : Method} {c : Code} {D : va_G} {A : Nat → Prop} {cI cJ : ClassId} {Q : State → Prop} (C : Cx p s m args c cX4_nextFor 9 RX4 D A cI cJ) {aM : Nat → Nat} {thrown_M : Int32} {pins_M : (Nat → Int32)} {many_M : Int32} {nets_M : (Nat → Int32)} {lefts_M : (Nat → Int32)} {rights_M : (Nat → Int32)} {touches_M : (Nat → Int32)} {below_M : (Nat → Int64)} {reach_M : (Nat → Int64)} {tracksOf_M : (Nat → Int32)} {steps_M : (Nat → Int32)} {laid_M : Int32} {laidMany_M : Int32} {tracks_M : Int32} {laidNet_M : (Nat → Int32)} {laidLeft_M : (Nat → Int32)} {laidRight_M : (Nat → Int32)} {laidTouch_M : (Nat → Int32)} {laidTrack_M : (Nat → Int32)} {ringSize_M : Int32} {ringOf_M : (Nat → Int32)} {lays_M : Int32} {refusals_M : Int32} {x1 : Int32} {x2 : Int32} {x3 : Int32} {x4 : Int32} {x5 : Int32} {x6 : Int32} {o8 : (Int32 × Int32) ⊕ Int32} (h : f_X4_nextFor_J49 many_M nets_M lefts_M rights_M below_M tracksOf_M x1 x2 x5 x6 = some o8) (hl : ∀ s8, o8 = .inl s8 → V p l e (rmO 2 46) s m args below meth c 9 D A 0 0 Q 11 [(0, .ref (aM 0)), (1, .int x1), (2, .int x2), (3, .int x3), (4, .int x4), (5, .int s8.1), (6, .int s8.2)] [] (wM cI cJ aM thrown_M pins_M many_M nets_M lefts_M rights_M touches_M below_M reach_M tracksOf_M steps_M laid_M laidMany_M tracks_M laidNet_M laidLeft_M laidRight_M laidTouch_M laidTrack_M ringSize_M ringOf_M lays_M refusals_M)) (hx : ∀ r8, o8 = .inr r8 → V p l e (rmO 2 46) s m args below meth c 9 D A 0 0 Q 163 [(5, .int r8)] [] (wM cI cJ aM thrown_M pins_M many_M nets_M lefts_M rights_M touches_M below_M reach_M tracksOf_M steps_M laid_M laidMany_M tracks_M laidNet_M laidLeft_M laidRight_M laidTouch_M laidTrack_M ringSize_M ringOf_M lays_M refusals_M)) : V p l e (rmO 2 46) s m args below meth c 9 D A 0 0 Q 49 [(0, .ref (aM 0)), (1, .int x1), (2, .int x2), (3, .int x3), (4, .int x4), (5, .int x5), (6, .int x6)] [] (wM cI cJ aM thrown_M pins_M many_M nets_M lefts_M rights_M touches_M below_M reach_M tracksOf_M steps_M laid_M laidMany_M tracks_M laidNet_M laidLeft_M laidRight_M laidTouch_M laidTrack_M ringSize_M ringOf_M lays_M refusals_M) := by
  unfold f_X4_nextFor_J49 at h
  refine v_iconst (v := 0) C dX4_nextFor_49 (by decide) ?_
  refine v_perm [0, 1, 2, 3, 4, 5, 6] rfl ?_
  exact t_X4_nextFor_J50 C (many_M := many_M) (nets_M := nets_M) (lefts_M := lefts_M) (rights_M := rights_M) (below_M := below_M) (tracksOf_M := tracksOf_M) (x1 := x1) (x2 := x2) (x5 := x5) (x6 := x6) (s0 := 0) h hl hx
set_option maxHeartbeats 4000000 in
set_option maxRecDepth 100000 in
theorem t_X4_nextFor_B11 {p : Program} {l : Launch} {e : Env} {s : State} {m : MethodId} {args : Array Value} {below : List Frame} {meth : Method} {c : Code} {D : va_G} {A : Nat → Prop} {cI cJ : ClassId} {Q : State → Prop} (C : Cx p s m args c cX4_nextFor 9 RX4 D A cI cJ) {aM : Nat → Nat} {x1 : Int32} {x2 : Int32} {x3 : Int32} {x4 : Int32} {thrown_M : Int32} {pins_M : (Nat → Int32)} {many_M : Int32} {nets_M : (Nat → Int32)} {lefts_M : (Nat → Int32)} {rights_M : (Nat → Int32)} {touches_M : (Nat → Int32)} {below_M : (Nat → Int64)} {reach_M : (Nat → Int64)} {tracksOf_M : (Nat → Int32)} {steps_M : (Nat → Int32)} {laid_M : Int32} {laidMany_M : Int32} {tracks_M : Int32} {laidNet_M : (Nat → Int32)} {laidLeft_M : (Nat → Int32)} {laidRight_M : (Nat → Int32)} {laidTouch_M : (Nat → Int32)} {laidTrack_M : (Nat → Int32)} {ringSize_M : Int32} {ringOf_M : (Nat → Int32)} {lays_M : Int32} {refusals_M : Int32} (s8 : (Int32 × Int32)) (o8 : (Int32 × Int32) ⊕ Int32) (h : f_X4_nextFor_B11 x1 x2 x3 x4 many_M nets_M lefts_M rights_M below_M tracksOf_M s8 = some o8) (hl : ∀ s8, o8 = .inl s8 → V p l e (rmO 2 46) s m args below meth c 9 D A 0 0 Q 11 [(0, .ref (aM 0)), (1, .int x1), (2, .int x2), (3, .int x3), (4, .int x4), (5, .int s8.1), (6, .int s8.2)] [] (wM cI cJ aM thrown_M pins_M many_M nets_M lefts_M rights_M touches_M below_M reach_M tracksOf_M steps_M laid_M laidMany_M tracks_M laidNet_M laidLeft_M laidRight_M laidTouch_M laidTrack_M ringSize_M ringOf_M lays_M refusals_M)) (hx : ∀ r8, o8 = .inr r8 → V p l e (rmO 2 46) s m args below meth c 9 D A 0 0 Q 163 [(5, .int r8)] [] (wM cI cJ aM thrown_M pins_M many_M nets_M lefts_M rights_M touches_M below_M reach_M tracksOf_M steps_M laid_M laidMany_M tracks_M laidNet_M laidLeft_M laidRight_M laidTouch_M laidTrack_M ringSize_M ringOf_M lays_M refusals_M)) : V p l e (rmO 2 46) s m args below meth c 9 D A 0 0 Q 11 [(0, .ref (aM 0)), (1, .int x1), (2, .int x2), (3, .int x3), (4, .int x4), (5, .int s8.1), (6, .int s8.2)] [] (wM cI cJ aM thrown_M pins_M many_M nets_M lefts_M rights_M touches_M below_M reach_M tracksOf_M steps_M laid_M laidMany_M tracks_M laidNet_M laidLeft_M laidRight_M laidTouch_M laidTrack_M ringSize_M ringOf_M lays_M refusals_M) := by
  obtain ⟨x5, x6⟩ := s8
  unfold f_X4_nextFor_B11 at h
  show V p l e (rmO 2 46) s m args below meth c 9 D A 0 0 Q 11 [(0, .ref (aM 0)), (1, .int x1), (2, .int x2), (3, .int x3), (4, .int x4), (5, .int x5), (6, .int x6)] [] (wM cI cJ aM thrown_M pins_M many_M nets_M lefts_M rights_M touches_M below_M reach_M tracksOf_M steps_M laid_M laidMany_M tracks_M laidNet_M laidLeft_M laidRight_M laidTouch_M laidTrack_M ringSize_M ringOf_M lays_M refusals_M)
  refine v_iload C 6 dX4_nextFor_11 rfl ?_
  refine v_if_lt (tgt := 163) C dX4_nextFor_13 (by decide) h (fun h => ?_) (fun h => ?_)
  · refine v_perm [5] rfl ?_
    cases h
    exact hx _ rfl
  · refine v_aload_n C 0 dX4_nextFor_16 rfl rfl ?_
    refine v_get C 0 4 iuX4 rfl rfl (by decide) m3_57 rfl rfl dX4_nextFor_17 ?_
    refine v_iload C 6 dX4_nextFor_20 rfl ?_
    refine v_iald C 3 rfl dX4_nextFor_22 h (fun h => ?_)
    refine v_iload_n C 3 dX4_nextFor_23 rfl rfl ?_
    refine v_icmp_gt (tgt := 45) C dX4_nextFor_24 (by decide) h (fun h => ?_) (fun h => ?_)
    · refine v_perm [0, 1, 2, 3, 4, 5, 6] rfl ?_
      exact t_X4_nextFor_J45 C (many_M := many_M) (nets_M := nets_M) (lefts_M := lefts_M) (rights_M := rights_M) (below_M := below_M) (tracksOf_M := tracksOf_M) (x1 := x1) (x2 := x2) (x5 := x5) (x6 := x6) h hl hx
    · refine v_aload_n C 0 dX4_nextFor_27 rfl rfl ?_
      refine v_get C 0 4 iuX4 rfl rfl (by decide) m3_57 rfl rfl dX4_nextFor_28 ?_
      refine v_iload C 6 dX4_nextFor_31 rfl ?_
      refine v_iald C 3 rfl dX4_nextFor_33 h (fun h => ?_)
      refine v_iload_n C 3 dX4_nextFor_34 rfl rfl ?_
      refine v_icmp_ne (tgt := 49) C dX4_nextFor_35 (by decide) h (fun h => ?_) (fun h => ?_)
      · refine v_iload C 6 dX4_nextFor_38 rfl ?_
        refine v_iload C 4 dX4_nextFor_40 rfl ?_
        refine v_icmp_le (tgt := 49) C dX4_nextFor_42 (by decide) h (fun h => ?_) (fun h => ?_)
        · refine v_perm [0, 1, 2, 3, 4, 5, 6] rfl ?_
          exact t_X4_nextFor_J49 C (many_M := many_M) (nets_M := nets_M) (lefts_M := lefts_M) (rights_M := rights_M) (below_M := below_M) (tracksOf_M := tracksOf_M) (x1 := x1) (x2 := x2) (x5 := x5) (x6 := x6) h hl hx
        · refine v_perm [0, 1, 2, 3, 4, 5, 6] rfl ?_
          exact t_X4_nextFor_J45 C (many_M := many_M) (nets_M := nets_M) (lefts_M := lefts_M) (rights_M := rights_M) (below_M := below_M) (tracksOf_M := tracksOf_M) (x1 := x1) (x2 := x2) (x5 := x5) (x6 := x6) h hl hx
      · refine v_perm [0, 1, 2, 3, 4, 5, 6] rfl ?_
        exact t_X4_nextFor_J49 C (many_M := many_M) (nets_M := nets_M) (lefts_M := lefts_M) (rights_M := rights_M) (below_M := below_M) (tracksOf_M := tracksOf_M) (x1 := x1) (x2 := x2) (x5 := x5) (x6 := x6) h hl hx
set_option maxHeartbeats 4000000 in
set_option maxRecDepth 100000 in
theorem t_X4_nextFor_L11 {p : Program} {l : Launch} {e : Env} {s : State} {m : MethodId} {args : Array Value} {below : List Frame} {meth : Method} {c : Code} {D : va_G} {A : Nat → Prop} {cI cJ : ClassId} {Q : State → Prop} (C : Cx p s m args c cX4_nextFor 9 RX4 D A cI cJ) {aM : Nat → Nat} {x1 : Int32} {x2 : Int32} {x3 : Int32} {x4 : Int32} {thrown_M : Int32} {pins_M : (Nat → Int32)} {many_M : Int32} {nets_M : (Nat → Int32)} {lefts_M : (Nat → Int32)} {rights_M : (Nat → Int32)} {touches_M : (Nat → Int32)} {below_M : (Nat → Int64)} {reach_M : (Nat → Int64)} {tracksOf_M : (Nat → Int32)} {steps_M : (Nat → Int32)} {laid_M : Int32} {laidMany_M : Int32} {tracks_M : Int32} {laidNet_M : (Nat → Int32)} {laidLeft_M : (Nat → Int32)} {laidRight_M : (Nat → Int32)} {laidTouch_M : (Nat → Int32)} {laidTrack_M : (Nat → Int32)} {ringSize_M : Int32} {ringOf_M : (Nat → Int32)} {lays_M : Int32} {refusals_M : Int32} {n8 : Nat} {s9 : (Int32 × Int32)} {o8 : Int32} (h : lp (f_X4_nextFor_B11 x1 x2 x3 x4 many_M nets_M lefts_M rights_M below_M tracksOf_M) n8 s9 = some o8) (hk : V p l e (rmO 2 46) s m args below meth c 9 D A 0 0 Q 163 [(5, .int o8)] [] (wM cI cJ aM thrown_M pins_M many_M nets_M lefts_M rights_M touches_M below_M reach_M tracksOf_M steps_M laid_M laidMany_M tracks_M laidNet_M laidLeft_M laidRight_M laidTouch_M laidTrack_M ringSize_M ringOf_M lays_M refusals_M)) : V p l e (rmO 2 46) s m args below meth c 9 D A 0 0 Q 11 [(0, .ref (aM 0)), (1, .int x1), (2, .int x2), (3, .int x3), (4, .int x4), (5, .int s9.1), (6, .int s9.2)] [] (wM cI cJ aM thrown_M pins_M many_M nets_M lefts_M rights_M touches_M below_M reach_M tracksOf_M steps_M laid_M laidMany_M tracks_M laidNet_M laidLeft_M laidRight_M laidTouch_M laidTrack_M ringSize_M ringOf_M lays_M refusals_M) := lp_ok (Pσ := fun s8 => V p l e (rmO 2 46) s m args below meth c 9 D A 0 0 Q 11 [(0, .ref (aM 0)), (1, .int x1), (2, .int x2), (3, .int x3), (4, .int x4), (5, .int s8.1), (6, .int s8.2)] [] (wM cI cJ aM thrown_M pins_M many_M nets_M lefts_M rights_M touches_M below_M reach_M tracksOf_M steps_M laid_M laidMany_M tracks_M laidNet_M laidLeft_M laidRight_M laidTouch_M laidTrack_M ringSize_M ringOf_M lays_M refusals_M)) (Pρ := fun r8 => V p l e (rmO 2 46) s m args below meth c 9 D A 0 0 Q 163 [(5, .int r8)] [] (wM cI cJ aM thrown_M pins_M many_M nets_M lefts_M rights_M touches_M below_M reach_M tracksOf_M steps_M laid_M laidMany_M tracks_M laidNet_M laidLeft_M laidRight_M laidTouch_M laidTrack_M ringSize_M ringOf_M lays_M refusals_M)) (fun s o h hl hx => t_X4_nextFor_B11 C s o h hl hx) n8 s9 o8 h hk
set_option maxHeartbeats 4000000 in
set_option maxRecDepth 100000 in
theorem c_X4_nextFor (l : Launch) (D : va_G) (cI cJ : ClassId) (aM : Nat → Nat) (thrown_M : Int32) (pins_M : (Nat → Int32)) (many_M : Int32) (nets_M : (Nat → Int32)) (lefts_M : (Nat → Int32)) (rights_M : (Nat → Int32)) (touches_M : (Nat → Int32)) (below_M : (Nat → Int64)) (reach_M : (Nat → Int64)) (tracksOf_M : (Nat → Int32)) (steps_M : (Nat → Int32)) (laid_M : Int32) (laidMany_M : Int32) (tracks_M : Int32) (laidNet_M : (Nat → Int32)) (laidLeft_M : (Nat → Int32)) (laidRight_M : (Nat → Int32)) (laidTouch_M : (Nat → Int32)) (laidTrack_M : (Nat → Int32)) (ringSize_M : Int32) (ringOf_M : (Nat → Int32)) (lays_M : Int32) (refusals_M : Int32) (x1 : Int32) (x2 : Int32) (x3 : Int32) (x4 : Int32) (r : Int32) (h : f_X4_nextFor many_M nets_M lefts_M rights_M below_M tracksOf_M x1 x2 x3 x4 = some r) : Cti l D cI cJ yX4_nextFor cX4_nextFor 9 (some .int) 2 46 [.ref (aM 0), .int x1, .int x2, .int x3, .int x4] (wM cI cJ aM thrown_M pins_M many_M nets_M lefts_M rights_M touches_M below_M reach_M tracksOf_M steps_M laid_M laidMany_M tracks_M laidNet_M laidLeft_M laidRight_M laidTouch_M laidTrack_M ringSize_M ringOf_M lays_M refusals_M) (wM cI cJ aM thrown_M pins_M many_M nets_M lefts_M rights_M touches_M below_M reach_M tracksOf_M steps_M laid_M laidMany_M tracks_M laidNet_M laidLeft_M laidRight_M laidTouch_M laidTrack_M ringSize_M ringOf_M lays_M refusals_M) r := by
  refine mk_i [(0, .ref (aM 0)), (1, .int x1), (2, .int x2), (3, .int x3), (4, .int x4)] (by decide) rfl (Nat.le_of_ble_eq_true rfl) rfl (fun p e s m args below meth c A Q C hk => ?_)
  unfold f_X4_nextFor at h
  refine v_iconst (v := (-1)) C dX4_nextFor_0 (by decide) ?_
  refine v_istore C [(5, .int (-1)), (0, .ref (aM 0)), (1, .int x1), (2, .int x2), (3, .int x3), (4, .int x4)] dX4_nextFor_1 (by decide) rfl ?_
  refine v_aload_n C 1 dX4_nextFor_3 rfl rfl ?_
  refine v_get C 0 2 iuX4 rfl rfl (by decide) m3_55 rfl rfl dX4_nextFor_4 ?_
  refine v_iconst (v := 1) C dX4_nextFor_7 (by decide) ?_
  refine v_isub C dX4_nextFor_8 ?_
  refine v_istore C [(6, .int (many_M - 1)), (5, .int (-1)), (0, .ref (aM 0)), (1, .int x1), (2, .int x2), (3, .int x3), (4, .int x4)] dX4_nextFor_9 (by decide) rfl ?_
  obtain ⟨r, h1, h⟩ := bind_el h
  refine v_perm [2, 3, 4, 5, 6, 1, 0] rfl ?_
  obtain ⟨x5_2, rfl⟩ : ∃ z, z = r := ⟨_, rfl⟩
  refine t_X4_nextFor_L11 C (s9 := ((-1), many_M - 1)) h1 ?_
  show V p l e (rmO 2 46) s m args below meth c 9 D A 0 0 Q 163 [(5, .int x5_2)] [] (wM cI cJ aM thrown_M pins_M many_M nets_M lefts_M rights_M touches_M below_M reach_M tracksOf_M steps_M laid_M laidMany_M tracks_M laidNet_M laidLeft_M laidRight_M laidTouch_M laidTrack_M ringSize_M ringOf_M lays_M refusals_M)
  try dsimp only at h
  refine v_iload C 0 dX4_nextFor_163 rfl ?_
  cases h
  exact hk _ _ dX4_nextFor_165
def f_X4_fill_B6 (many_M : Int32) : (Int32 × (Nat → Int32)) → Option ((Int32 × (Nat → Int32)) ⊕ (Nat → Int32))
  | (x3, tracksOf_M) => if many_M ≤ x3 then (some (.inr tracksOf_M)) else (bnd x3 40 (some (.inl ((x3 + 1, upd tracksOf_M x3.toNatClampNeg (-1))))))
def f_X4_fill_B47 (x2 : Int32) (many_M : Int32) (nets_M : (Nat → Int32)) (lefts_M : (Nat → Int32)) (rights_M : (Nat → Int32)) (below_M : (Nat → Int64)) : (Int32 × Int32 × (Nat → Int32)) → Option ((Int32 × Int32 × (Nat → Int32)) ⊕ (Int32 × (Nat → Int32)))
  | (x1, x4, tracksOf_M) => if x4 < 0 then (some (.inr (x1, tracksOf_M))) else (bnd x4 40 (bnd x4 40 ((f_X4_nextFor many_M nets_M lefts_M rights_M below_M (upd tracksOf_M x4.toNatClampNeg x2) x2 x4 (lefts_M x4.toNatClampNeg) x4).bind (fun r => match r with | r_3 => some (.inl (x1 + 1, r_3, upd tracksOf_M x4.toNatClampNeg x2))))))
def f_X4_fill_B27 (many_M : Int32) (nets_M : (Nat → Int32)) (lefts_M : (Nat → Int32)) (rights_M : (Nat → Int32)) (below_M : (Nat → Int64)) : (Int32 × Int32 × (Nat → Int32)) → Option ((Int32 × Int32 × (Nat → Int32)) ⊕ (Int32 × (Nat → Int32)))
  | (x1, x2, tracksOf_M) => if many_M ≤ x1 then (some (.inr (x2, tracksOf_M))) else ((f_X4_nextFor many_M nets_M lefts_M rights_M below_M tracksOf_M x2 (-1) (-1) (-1)).bind (fun r => match r with | r_2 => (lp (f_X4_fill_B47 x2 many_M nets_M lefts_M rights_M below_M) 64 (x1, r_2, tracksOf_M)).bind (fun r => match r with | (x1_4, tracksOf_M_5) => some (.inl (x1_4, x2 + 1, tracksOf_M_5)))))
def f_X4_fill (many_M : Int32) (nets_M : (Nat → Int32)) (lefts_M : (Nat → Int32)) (rights_M : (Nat → Int32)) (below_M : (Nat → Int64)) (tracksOf_M : (Nat → Int32)) : Option (Int32 × (Nat → Int32)) := (lp (f_X4_fill_B6 many_M) 64 (0, tracksOf_M)).bind (fun r => match r with | tracksOf_M_1 => (lp (f_X4_fill_B27 many_M nets_M lefts_M rights_M below_M) 64 (0, 0, tracksOf_M_1)).bind (fun r => match r with | (x2_6, tracksOf_M_7) => some (x2_6, tracksOf_M_7)))
theorem cw_X4_fill : CWv yX4_fill cX4_fill 5 (some .int) RX4 0 := ⟨m3_205, ms4_9, m1_5, m3_206, rfl, by decide, by decide, by decide +kernel⟩
set_option maxHeartbeats 4000000 in
set_option maxRecDepth 100000 in
theorem t_X4_fill_B6 {p : Program} {l : Launch} {e : Env} {s : State} {m : MethodId} {args : Array Value} {below : List Frame} {meth : Method} {c : Code} {D : va_G} {A : Nat → Prop} {cI cJ : ClassId} {Q : State → Prop} (C : Cx p s m args c cX4_fill 5 RX4 D A cI cJ) {aM : Nat → Nat} {x1 : Int32} {x2 : Int32} {thrown_M : Int32} {pins_M : (Nat → Int32)} {many_M : Int32} {nets_M : (Nat → Int32)} {lefts_M : (Nat → Int32)} {rights_M : (Nat → Int32)} {touches_M : (Nat → Int32)} {below_M : (Nat → Int64)} {reach_M : (Nat → Int64)} {steps_M : (Nat → Int32)} {laid_M : Int32} {laidMany_M : Int32} {tracks_M : Int32} {laidNet_M : (Nat → Int32)} {laidLeft_M : (Nat → Int32)} {laidRight_M : (Nat → Int32)} {laidTouch_M : (Nat → Int32)} {laidTrack_M : (Nat → Int32)} {ringSize_M : Int32} {ringOf_M : (Nat → Int32)} {lays_M : Int32} {refusals_M : Int32} (s8 : (Int32 × (Nat → Int32))) (o8 : (Int32 × (Nat → Int32)) ⊕ (Nat → Int32)) (h : f_X4_fill_B6 many_M s8 = some o8) (hl : ∀ s8, o8 = .inl s8 → V p l e (rmO 3 74) s m args below meth c 5 D A 0 0 Q 6 [(0, .ref (aM 0)), (1, .int x1), (2, .int x2), (3, .int s8.1)] [] (wM cI cJ aM thrown_M pins_M many_M nets_M lefts_M rights_M touches_M below_M reach_M s8.2 steps_M laid_M laidMany_M tracks_M laidNet_M laidLeft_M laidRight_M laidTouch_M laidTrack_M ringSize_M ringOf_M lays_M refusals_M)) (hx : ∀ r8, o8 = .inr r8 → V p l e (rmO 3 74) s m args below meth c 5 D A 0 0 Q 27 [(0, .ref (aM 0)), (1, .int x1), (2, .int x2)] [] (wM cI cJ aM thrown_M pins_M many_M nets_M lefts_M rights_M touches_M below_M reach_M r8 steps_M laid_M laidMany_M tracks_M laidNet_M laidLeft_M laidRight_M laidTouch_M laidTrack_M ringSize_M ringOf_M lays_M refusals_M)) : V p l e (rmO 3 74) s m args below meth c 5 D A 0 0 Q 6 [(0, .ref (aM 0)), (1, .int x1), (2, .int x2), (3, .int s8.1)] [] (wM cI cJ aM thrown_M pins_M many_M nets_M lefts_M rights_M touches_M below_M reach_M s8.2 steps_M laid_M laidMany_M tracks_M laidNet_M laidLeft_M laidRight_M laidTouch_M laidTrack_M ringSize_M ringOf_M lays_M refusals_M) := by
  obtain ⟨x3, tracksOf_M⟩ := s8
  unfold f_X4_fill_B6 at h
  show V p l e (rmO 3 74) s m args below meth c 5 D A 0 0 Q 6 [(0, .ref (aM 0)), (1, .int x1), (2, .int x2), (3, .int x3)] [] (wM cI cJ aM thrown_M pins_M many_M nets_M lefts_M rights_M touches_M below_M reach_M tracksOf_M steps_M laid_M laidMany_M tracks_M laidNet_M laidLeft_M laidRight_M laidTouch_M laidTrack_M ringSize_M ringOf_M lays_M refusals_M)
  refine v_iload_n C 3 dX4_fill_6 rfl rfl ?_
  refine v_aload_n C 0 dX4_fill_7 rfl rfl ?_
  refine v_get C 0 2 iuX4 rfl rfl (by decide) m3_55 rfl rfl dX4_fill_8 ?_
  refine v_icmp_ge (tgt := 27) C dX4_fill_11 (by decide) h (fun h => ?_) (fun h => ?_)
  · refine v_perm [0, 1, 2] rfl ?_
    cases h
    exact hx _ rfl
  · refine v_aload_n C 0 dX4_fill_14 rfl rfl ?_
    refine v_get C 0 9 iuX4 rfl rfl (by decide) m3_62 rfl rfl dX4_fill_15 ?_
    refine v_iload_n C 3 dX4_fill_18 rfl rfl ?_
    refine v_iconst (v := (-1)) C dX4_fill_19 (by decide) ?_
    refine v_iast C (wM cI cJ aM thrown_M pins_M many_M nets_M lefts_M rights_M touches_M below_M reach_M (upd tracksOf_M x3.toNatClampNeg (-1)) steps_M laid_M laidMany_M tracks_M laidNet_M laidLeft_M laidRight_M laidTouch_M laidTrack_M ringSize_M ringOf_M lays_M refusals_M) 8 rfl dX4_fill_20 h rfl (fun h => ?_)
    refine v_iinc C [(3, .int (x3 + 1)), (0, .ref (aM 0)), (1, .int x1), (2, .int x2)] 3 dX4_fill_21 rfl rfl (by decide) rfl ?_
    refine v_goto (tgt := 6) C dX4_fill_24 (by decide) ?_
    refine v_perm [1, 2, 3, 0] rfl ?_
    cases h
    exact hl _ rfl
set_option maxHeartbeats 4000000 in
set_option maxRecDepth 100000 in
theorem t_X4_fill_L6 {p : Program} {l : Launch} {e : Env} {s : State} {m : MethodId} {args : Array Value} {below : List Frame} {meth : Method} {c : Code} {D : va_G} {A : Nat → Prop} {cI cJ : ClassId} {Q : State → Prop} (C : Cx p s m args c cX4_fill 5 RX4 D A cI cJ) {aM : Nat → Nat} {x1 : Int32} {x2 : Int32} {thrown_M : Int32} {pins_M : (Nat → Int32)} {many_M : Int32} {nets_M : (Nat → Int32)} {lefts_M : (Nat → Int32)} {rights_M : (Nat → Int32)} {touches_M : (Nat → Int32)} {below_M : (Nat → Int64)} {reach_M : (Nat → Int64)} {steps_M : (Nat → Int32)} {laid_M : Int32} {laidMany_M : Int32} {tracks_M : Int32} {laidNet_M : (Nat → Int32)} {laidLeft_M : (Nat → Int32)} {laidRight_M : (Nat → Int32)} {laidTouch_M : (Nat → Int32)} {laidTrack_M : (Nat → Int32)} {ringSize_M : Int32} {ringOf_M : (Nat → Int32)} {lays_M : Int32} {refusals_M : Int32} {n8 : Nat} {s9 : (Int32 × (Nat → Int32))} {o8 : (Nat → Int32)} (h : lp (f_X4_fill_B6 many_M) n8 s9 = some o8) (hk : V p l e (rmO 3 74) s m args below meth c 5 D A 0 0 Q 27 [(0, .ref (aM 0)), (1, .int x1), (2, .int x2)] [] (wM cI cJ aM thrown_M pins_M many_M nets_M lefts_M rights_M touches_M below_M reach_M o8 steps_M laid_M laidMany_M tracks_M laidNet_M laidLeft_M laidRight_M laidTouch_M laidTrack_M ringSize_M ringOf_M lays_M refusals_M)) : V p l e (rmO 3 74) s m args below meth c 5 D A 0 0 Q 6 [(0, .ref (aM 0)), (1, .int x1), (2, .int x2), (3, .int s9.1)] [] (wM cI cJ aM thrown_M pins_M many_M nets_M lefts_M rights_M touches_M below_M reach_M s9.2 steps_M laid_M laidMany_M tracks_M laidNet_M laidLeft_M laidRight_M laidTouch_M laidTrack_M ringSize_M ringOf_M lays_M refusals_M) := lp_ok (Pσ := fun s8 => V p l e (rmO 3 74) s m args below meth c 5 D A 0 0 Q 6 [(0, .ref (aM 0)), (1, .int x1), (2, .int x2), (3, .int s8.1)] [] (wM cI cJ aM thrown_M pins_M many_M nets_M lefts_M rights_M touches_M below_M reach_M s8.2 steps_M laid_M laidMany_M tracks_M laidNet_M laidLeft_M laidRight_M laidTouch_M laidTrack_M ringSize_M ringOf_M lays_M refusals_M)) (Pρ := fun r8 => V p l e (rmO 3 74) s m args below meth c 5 D A 0 0 Q 27 [(0, .ref (aM 0)), (1, .int x1), (2, .int x2)] [] (wM cI cJ aM thrown_M pins_M many_M nets_M lefts_M rights_M touches_M below_M reach_M r8 steps_M laid_M laidMany_M tracks_M laidNet_M laidLeft_M laidRight_M laidTouch_M laidTrack_M ringSize_M ringOf_M lays_M refusals_M)) (fun s o h hl hx => t_X4_fill_B6 C s o h hl hx) n8 s9 o8 h hk
set_option maxHeartbeats 4000000 in
set_option maxRecDepth 100000 in
theorem t_X4_fill_B47 {p : Program} {l : Launch} {e : Env} {s : State} {m : MethodId} {args : Array Value} {below : List Frame} {meth : Method} {c : Code} {D : va_G} {A : Nat → Prop} {cI cJ : ClassId} {Q : State → Prop} (C : Cx p s m args c cX4_fill 5 RX4 D A cI cJ) {aM : Nat → Nat} {x2 : Int32} {thrown_M : Int32} {pins_M : (Nat → Int32)} {many_M : Int32} {nets_M : (Nat → Int32)} {lefts_M : (Nat → Int32)} {rights_M : (Nat → Int32)} {touches_M : (Nat → Int32)} {below_M : (Nat → Int64)} {reach_M : (Nat → Int64)} {steps_M : (Nat → Int32)} {laid_M : Int32} {laidMany_M : Int32} {tracks_M : Int32} {laidNet_M : (Nat → Int32)} {laidLeft_M : (Nat → Int32)} {laidRight_M : (Nat → Int32)} {laidTouch_M : (Nat → Int32)} {laidTrack_M : (Nat → Int32)} {ringSize_M : Int32} {ringOf_M : (Nat → Int32)} {lays_M : Int32} {refusals_M : Int32} (s8 : (Int32 × Int32 × (Nat → Int32))) (o8 : (Int32 × Int32 × (Nat → Int32)) ⊕ (Int32 × (Nat → Int32))) (h : f_X4_fill_B47 x2 many_M nets_M lefts_M rights_M below_M s8 = some o8) (hl : ∀ s8, o8 = .inl s8 → V p l e (rmO 3 74) s m args below meth c 5 D A 0 0 Q 47 [(0, .ref (aM 0)), (1, .int s8.1), (2, .int x2), (4, .int s8.2.1)] [] (wM cI cJ aM thrown_M pins_M many_M nets_M lefts_M rights_M touches_M below_M reach_M s8.2.2 steps_M laid_M laidMany_M tracks_M laidNet_M laidLeft_M laidRight_M laidTouch_M laidTrack_M ringSize_M ringOf_M lays_M refusals_M)) (hx : ∀ r8, o8 = .inr r8 → V p l e (rmO 3 74) s m args below meth c 5 D A 0 0 Q 84 [(0, .ref (aM 0)), (1, .int r8.1), (2, .int x2)] [] (wM cI cJ aM thrown_M pins_M many_M nets_M lefts_M rights_M touches_M below_M reach_M r8.2 steps_M laid_M laidMany_M tracks_M laidNet_M laidLeft_M laidRight_M laidTouch_M laidTrack_M ringSize_M ringOf_M lays_M refusals_M)) : V p l e (rmO 3 74) s m args below meth c 5 D A 0 0 Q 47 [(0, .ref (aM 0)), (1, .int s8.1), (2, .int x2), (4, .int s8.2.1)] [] (wM cI cJ aM thrown_M pins_M many_M nets_M lefts_M rights_M touches_M below_M reach_M s8.2.2 steps_M laid_M laidMany_M tracks_M laidNet_M laidLeft_M laidRight_M laidTouch_M laidTrack_M ringSize_M ringOf_M lays_M refusals_M) := by
  obtain ⟨x1, x4, tracksOf_M⟩ := s8
  unfold f_X4_fill_B47 at h
  show V p l e (rmO 3 74) s m args below meth c 5 D A 0 0 Q 47 [(0, .ref (aM 0)), (1, .int x1), (2, .int x2), (4, .int x4)] [] (wM cI cJ aM thrown_M pins_M many_M nets_M lefts_M rights_M touches_M below_M reach_M tracksOf_M steps_M laid_M laidMany_M tracks_M laidNet_M laidLeft_M laidRight_M laidTouch_M laidTrack_M ringSize_M ringOf_M lays_M refusals_M)
  refine v_iload C 3 dX4_fill_47 rfl ?_
  refine v_if_lt (tgt := 84) C dX4_fill_49 (by decide) h (fun h => ?_) (fun h => ?_)
  · refine v_perm [0, 1, 2] rfl ?_
    cases h
    exact hx _ rfl
  · refine v_aload_n C 0 dX4_fill_52 rfl rfl ?_
    refine v_get C 0 9 iuX4 rfl rfl (by decide) m3_62 rfl rfl dX4_fill_53 ?_
    refine v_iload C 3 dX4_fill_56 rfl ?_
    refine v_iload_n C 2 dX4_fill_58 rfl rfl ?_
    refine v_iast C (wM cI cJ aM thrown_M pins_M many_M nets_M lefts_M rights_M touches_M below_M reach_M (upd tracksOf_M x4.toNatClampNeg x2) steps_M laid_M laidMany_M tracks_M laidNet_M laidLeft_M laidRight_M laidTouch_M laidTrack_M ringSize_M ringOf_M lays_M refusals_M) 8 rfl dX4_fill_59 h rfl (fun h => ?_)
    refine v_iinc C [(1, .int (x1 + 1)), (0, .ref (aM 0)), (2, .int x2), (4, .int x4)] 1 dX4_fill_60 rfl rfl (by decide) rfl ?_
    refine v_iload C 3 dX4_fill_63 rfl ?_
    refine v_istore_n C [(3, .int x4), (1, .int (x1 + 1)), (0, .ref (aM 0)), (2, .int x2), (4, .int x4)] dX4_fill_65 rfl (by decide) rfl ?_
    refine v_aload_n C 2 dX4_fill_66 rfl rfl ?_
    refine v_iload_n C 3 dX4_fill_67 rfl rfl ?_
    refine v_iload_n C 0 dX4_fill_68 rfl rfl ?_
    refine v_aload_n C 2 dX4_fill_69 rfl rfl ?_
    refine v_get C 0 4 iuX4 rfl rfl (by decide) m3_57 rfl rfl dX4_fill_70 ?_
    refine v_iload_n C 0 dX4_fill_73 rfl rfl ?_
    refine v_iald C 3 rfl dX4_fill_74 h (fun h => ?_)
    refine v_iload_n C 0 dX4_fill_75 rfl rfl ?_
    obtain ⟨r, h1, h⟩ := bind_el h
    obtain ⟨r_3, rfl⟩ : ∃ z, z = r := ⟨_, rfl⟩
    try dsimp only at h
    refine v_callVi (As := [.int x2, .int x4, .int (lefts_M x4.toNatClampNeg), .int x4]) (st := []) (wr := []) (w1 := (wM cI cJ aM thrown_M pins_M many_M nets_M lefts_M rights_M touches_M below_M reach_M (upd tracksOf_M x4.toNatClampNeg x2) steps_M laid_M laidMany_M tracks_M laidNet_M laidLeft_M laidRight_M laidTouch_M laidTrack_M ringSize_M ringOf_M lays_M refusals_M)) (ws' := (wM cI cJ aM thrown_M pins_M many_M nets_M lefts_M rights_M touches_M below_M reach_M (upd tracksOf_M x4.toNatClampNeg x2) steps_M laid_M laidMany_M tracks_M laidNet_M laidLeft_M laidRight_M laidTouch_M laidTrack_M ringSize_M ringOf_M lays_M refusals_M)) (isC := [0, 1, 2, 3, 4, 5, 6, 7, 8, 9, 10, 11, 12, 13, 14, 15]) (isR := []) (pm := [0, 1, 2, 3, 4, 5, 6, 7, 8, 9, 10, 11, 12, 13, 14, 15]) C (c_X4_nextFor l D cI cJ aM thrown_M pins_M many_M nets_M lefts_M rights_M touches_M below_M reach_M (upd tracksOf_M x4.toNatClampNeg x2) steps_M laid_M laidMany_M tracks_M laidNet_M laidLeft_M laidRight_M laidTouch_M laidTrack_M ringSize_M ringOf_M lays_M refusals_M x2 x4 (lefts_M x4.toNatClampNeg) x4 r_3 h1) cw_X4_nextFor 0 rfl rfl m3_207 dX4_fill_76 rfl ⟨Nat.le_of_ble_eq_true rfl, Nat.le_of_ble_eq_true rfl⟩ (Nat.le_of_ble_eq_true rfl) ⟨Nat.le_refl 0, Nat.le_refl 0⟩ ⟨rfl, rfl, rfl, rfl, by decide, rfl, rfl⟩ ?_
    refine v_istore C [(4, .int r_3), (3, .int x4), (1, .int (x1 + 1)), (0, .ref (aM 0)), (2, .int x2)] dX4_fill_79 (by decide) rfl ?_
    refine v_goto (tgt := 47) C dX4_fill_81 (by decide) ?_
    refine v_perm [3, 2, 4, 0] rfl ?_
    cases h
    exact hl _ rfl
set_option maxHeartbeats 4000000 in
set_option maxRecDepth 100000 in
theorem t_X4_fill_L47 {p : Program} {l : Launch} {e : Env} {s : State} {m : MethodId} {args : Array Value} {below : List Frame} {meth : Method} {c : Code} {D : va_G} {A : Nat → Prop} {cI cJ : ClassId} {Q : State → Prop} (C : Cx p s m args c cX4_fill 5 RX4 D A cI cJ) {aM : Nat → Nat} {x2 : Int32} {thrown_M : Int32} {pins_M : (Nat → Int32)} {many_M : Int32} {nets_M : (Nat → Int32)} {lefts_M : (Nat → Int32)} {rights_M : (Nat → Int32)} {touches_M : (Nat → Int32)} {below_M : (Nat → Int64)} {reach_M : (Nat → Int64)} {steps_M : (Nat → Int32)} {laid_M : Int32} {laidMany_M : Int32} {tracks_M : Int32} {laidNet_M : (Nat → Int32)} {laidLeft_M : (Nat → Int32)} {laidRight_M : (Nat → Int32)} {laidTouch_M : (Nat → Int32)} {laidTrack_M : (Nat → Int32)} {ringSize_M : Int32} {ringOf_M : (Nat → Int32)} {lays_M : Int32} {refusals_M : Int32} {n8 : Nat} {s9 : (Int32 × Int32 × (Nat → Int32))} {o8 : (Int32 × (Nat → Int32))} (h : lp (f_X4_fill_B47 x2 many_M nets_M lefts_M rights_M below_M) n8 s9 = some o8) (hk : V p l e (rmO 3 74) s m args below meth c 5 D A 0 0 Q 84 [(0, .ref (aM 0)), (1, .int o8.1), (2, .int x2)] [] (wM cI cJ aM thrown_M pins_M many_M nets_M lefts_M rights_M touches_M below_M reach_M o8.2 steps_M laid_M laidMany_M tracks_M laidNet_M laidLeft_M laidRight_M laidTouch_M laidTrack_M ringSize_M ringOf_M lays_M refusals_M)) : V p l e (rmO 3 74) s m args below meth c 5 D A 0 0 Q 47 [(0, .ref (aM 0)), (1, .int s9.1), (2, .int x2), (4, .int s9.2.1)] [] (wM cI cJ aM thrown_M pins_M many_M nets_M lefts_M rights_M touches_M below_M reach_M s9.2.2 steps_M laid_M laidMany_M tracks_M laidNet_M laidLeft_M laidRight_M laidTouch_M laidTrack_M ringSize_M ringOf_M lays_M refusals_M) := lp_ok (Pσ := fun s8 => V p l e (rmO 3 74) s m args below meth c 5 D A 0 0 Q 47 [(0, .ref (aM 0)), (1, .int s8.1), (2, .int x2), (4, .int s8.2.1)] [] (wM cI cJ aM thrown_M pins_M many_M nets_M lefts_M rights_M touches_M below_M reach_M s8.2.2 steps_M laid_M laidMany_M tracks_M laidNet_M laidLeft_M laidRight_M laidTouch_M laidTrack_M ringSize_M ringOf_M lays_M refusals_M)) (Pρ := fun r8 => V p l e (rmO 3 74) s m args below meth c 5 D A 0 0 Q 84 [(0, .ref (aM 0)), (1, .int r8.1), (2, .int x2)] [] (wM cI cJ aM thrown_M pins_M many_M nets_M lefts_M rights_M touches_M below_M reach_M r8.2 steps_M laid_M laidMany_M tracks_M laidNet_M laidLeft_M laidRight_M laidTouch_M laidTrack_M ringSize_M ringOf_M lays_M refusals_M)) (fun s o h hl hx => t_X4_fill_B47 C s o h hl hx) n8 s9 o8 h hk
set_option maxHeartbeats 4000000 in
set_option maxRecDepth 100000 in
theorem t_X4_fill_B27 {p : Program} {l : Launch} {e : Env} {s : State} {m : MethodId} {args : Array Value} {below : List Frame} {meth : Method} {c : Code} {D : va_G} {A : Nat → Prop} {cI cJ : ClassId} {Q : State → Prop} (C : Cx p s m args c cX4_fill 5 RX4 D A cI cJ) {aM : Nat → Nat} {thrown_M : Int32} {pins_M : (Nat → Int32)} {many_M : Int32} {nets_M : (Nat → Int32)} {lefts_M : (Nat → Int32)} {rights_M : (Nat → Int32)} {touches_M : (Nat → Int32)} {below_M : (Nat → Int64)} {reach_M : (Nat → Int64)} {steps_M : (Nat → Int32)} {laid_M : Int32} {laidMany_M : Int32} {tracks_M : Int32} {laidNet_M : (Nat → Int32)} {laidLeft_M : (Nat → Int32)} {laidRight_M : (Nat → Int32)} {laidTouch_M : (Nat → Int32)} {laidTrack_M : (Nat → Int32)} {ringSize_M : Int32} {ringOf_M : (Nat → Int32)} {lays_M : Int32} {refusals_M : Int32} (s8 : (Int32 × Int32 × (Nat → Int32))) (o8 : (Int32 × Int32 × (Nat → Int32)) ⊕ (Int32 × (Nat → Int32))) (h : f_X4_fill_B27 many_M nets_M lefts_M rights_M below_M s8 = some o8) (hl : ∀ s8, o8 = .inl s8 → V p l e (rmO 3 74) s m args below meth c 5 D A 0 0 Q 27 [(0, .ref (aM 0)), (1, .int s8.1), (2, .int s8.2.1)] [] (wM cI cJ aM thrown_M pins_M many_M nets_M lefts_M rights_M touches_M below_M reach_M s8.2.2 steps_M laid_M laidMany_M tracks_M laidNet_M laidLeft_M laidRight_M laidTouch_M laidTrack_M ringSize_M ringOf_M lays_M refusals_M)) (hx : ∀ r8, o8 = .inr r8 → V p l e (rmO 3 74) s m args below meth c 5 D A 0 0 Q 90 [(2, .int r8.1)] [] (wM cI cJ aM thrown_M pins_M many_M nets_M lefts_M rights_M touches_M below_M reach_M r8.2 steps_M laid_M laidMany_M tracks_M laidNet_M laidLeft_M laidRight_M laidTouch_M laidTrack_M ringSize_M ringOf_M lays_M refusals_M)) : V p l e (rmO 3 74) s m args below meth c 5 D A 0 0 Q 27 [(0, .ref (aM 0)), (1, .int s8.1), (2, .int s8.2.1)] [] (wM cI cJ aM thrown_M pins_M many_M nets_M lefts_M rights_M touches_M below_M reach_M s8.2.2 steps_M laid_M laidMany_M tracks_M laidNet_M laidLeft_M laidRight_M laidTouch_M laidTrack_M ringSize_M ringOf_M lays_M refusals_M) := by
  obtain ⟨x1, x2, tracksOf_M⟩ := s8
  unfold f_X4_fill_B27 at h
  show V p l e (rmO 3 74) s m args below meth c 5 D A 0 0 Q 27 [(0, .ref (aM 0)), (1, .int x1), (2, .int x2)] [] (wM cI cJ aM thrown_M pins_M many_M nets_M lefts_M rights_M touches_M below_M reach_M tracksOf_M steps_M laid_M laidMany_M tracks_M laidNet_M laidLeft_M laidRight_M laidTouch_M laidTrack_M ringSize_M ringOf_M lays_M refusals_M)
  refine v_iload_n C 1 dX4_fill_27 rfl rfl ?_
  refine v_aload_n C 0 dX4_fill_28 rfl rfl ?_
  refine v_get C 0 2 iuX4 rfl rfl (by decide) m3_55 rfl rfl dX4_fill_29 ?_
  refine v_icmp_ge (tgt := 90) C dX4_fill_32 (by decide) h (fun h => ?_) (fun h => ?_)
  · refine v_perm [2] rfl ?_
    cases h
    exact hx _ rfl
  · refine v_iconst (v := (-1)) C dX4_fill_35 (by decide) ?_
    refine v_istore_n C [(3, .int (-1)), (0, .ref (aM 0)), (1, .int x1), (2, .int x2)] dX4_fill_36 rfl (by decide) rfl ?_
    refine v_aload_n C 1 dX4_fill_37 rfl rfl ?_
    refine v_iload_n C 3 dX4_fill_38 rfl rfl ?_
    refine v_iconst (v := (-1)) C dX4_fill_39 (by decide) ?_
    refine v_iconst (v := (-1)) C dX4_fill_40 (by decide) ?_
    refine v_iconst (v := (-1)) C dX4_fill_41 (by decide) ?_
    obtain ⟨r, h1, h⟩ := bind_el h
    obtain ⟨r_2, rfl⟩ : ∃ z, z = r := ⟨_, rfl⟩
    try dsimp only at h
    refine v_callVi (As := [.int x2, .int (-1), .int (-1), .int (-1)]) (st := []) (wr := []) (w1 := (wM cI cJ aM thrown_M pins_M many_M nets_M lefts_M rights_M touches_M below_M reach_M tracksOf_M steps_M laid_M laidMany_M tracks_M laidNet_M laidLeft_M laidRight_M laidTouch_M laidTrack_M ringSize_M ringOf_M lays_M refusals_M)) (ws' := (wM cI cJ aM thrown_M pins_M many_M nets_M lefts_M rights_M touches_M below_M reach_M tracksOf_M steps_M laid_M laidMany_M tracks_M laidNet_M laidLeft_M laidRight_M laidTouch_M laidTrack_M ringSize_M ringOf_M lays_M refusals_M)) (isC := [0, 1, 2, 3, 4, 5, 6, 7, 8, 9, 10, 11, 12, 13, 14, 15]) (isR := []) (pm := [0, 1, 2, 3, 4, 5, 6, 7, 8, 9, 10, 11, 12, 13, 14, 15]) C (c_X4_nextFor l D cI cJ aM thrown_M pins_M many_M nets_M lefts_M rights_M touches_M below_M reach_M tracksOf_M steps_M laid_M laidMany_M tracks_M laidNet_M laidLeft_M laidRight_M laidTouch_M laidTrack_M ringSize_M ringOf_M lays_M refusals_M x2 (-1) (-1) (-1) r_2 h1) cw_X4_nextFor 0 rfl rfl m3_207 dX4_fill_42 rfl ⟨Nat.le_of_ble_eq_true rfl, Nat.le_of_ble_eq_true rfl⟩ (Nat.le_of_ble_eq_true rfl) ⟨Nat.le_refl 0, Nat.le_refl 0⟩ ⟨rfl, rfl, rfl, rfl, by decide, rfl, rfl⟩ ?_
    refine v_istore C [(4, .int r_2), (3, .int (-1)), (0, .ref (aM 0)), (1, .int x1), (2, .int x2)] dX4_fill_45 (by decide) rfl ?_
    obtain ⟨r, h1, h⟩ := bind_el h
    refine v_perm [2, 3, 4, 0] rfl ?_
    obtain ⟨x1_4, tracksOf_M_5⟩ := r
    refine t_X4_fill_L47 C (s9 := (x1, r_2, tracksOf_M)) h1 ?_
    show V p l e (rmO 3 74) s m args below meth c 5 D A 0 0 Q 84 [(0, .ref (aM 0)), (1, .int x1_4), (2, .int x2)] [] (wM cI cJ aM thrown_M pins_M many_M nets_M lefts_M rights_M touches_M below_M reach_M tracksOf_M_5 steps_M laid_M laidMany_M tracks_M laidNet_M laidLeft_M laidRight_M laidTouch_M laidTrack_M ringSize_M ringOf_M lays_M refusals_M)
    try dsimp only at h
    refine v_iinc C [(2, .int (x2 + 1)), (0, .ref (aM 0)), (1, .int x1_4)] 2 dX4_fill_84 rfl rfl (by decide) rfl ?_
    refine v_goto (tgt := 27) C dX4_fill_87 (by decide) ?_
    refine v_perm [1, 2, 0] rfl ?_
    cases h
    exact hl _ rfl
set_option maxHeartbeats 4000000 in
set_option maxRecDepth 100000 in
theorem t_X4_fill_L27 {p : Program} {l : Launch} {e : Env} {s : State} {m : MethodId} {args : Array Value} {below : List Frame} {meth : Method} {c : Code} {D : va_G} {A : Nat → Prop} {cI cJ : ClassId} {Q : State → Prop} (C : Cx p s m args c cX4_fill 5 RX4 D A cI cJ) {aM : Nat → Nat} {thrown_M : Int32} {pins_M : (Nat → Int32)} {many_M : Int32} {nets_M : (Nat → Int32)} {lefts_M : (Nat → Int32)} {rights_M : (Nat → Int32)} {touches_M : (Nat → Int32)} {below_M : (Nat → Int64)} {reach_M : (Nat → Int64)} {steps_M : (Nat → Int32)} {laid_M : Int32} {laidMany_M : Int32} {tracks_M : Int32} {laidNet_M : (Nat → Int32)} {laidLeft_M : (Nat → Int32)} {laidRight_M : (Nat → Int32)} {laidTouch_M : (Nat → Int32)} {laidTrack_M : (Nat → Int32)} {ringSize_M : Int32} {ringOf_M : (Nat → Int32)} {lays_M : Int32} {refusals_M : Int32} {n8 : Nat} {s9 : (Int32 × Int32 × (Nat → Int32))} {o8 : (Int32 × (Nat → Int32))} (h : lp (f_X4_fill_B27 many_M nets_M lefts_M rights_M below_M) n8 s9 = some o8) (hk : V p l e (rmO 3 74) s m args below meth c 5 D A 0 0 Q 90 [(2, .int o8.1)] [] (wM cI cJ aM thrown_M pins_M many_M nets_M lefts_M rights_M touches_M below_M reach_M o8.2 steps_M laid_M laidMany_M tracks_M laidNet_M laidLeft_M laidRight_M laidTouch_M laidTrack_M ringSize_M ringOf_M lays_M refusals_M)) : V p l e (rmO 3 74) s m args below meth c 5 D A 0 0 Q 27 [(0, .ref (aM 0)), (1, .int s9.1), (2, .int s9.2.1)] [] (wM cI cJ aM thrown_M pins_M many_M nets_M lefts_M rights_M touches_M below_M reach_M s9.2.2 steps_M laid_M laidMany_M tracks_M laidNet_M laidLeft_M laidRight_M laidTouch_M laidTrack_M ringSize_M ringOf_M lays_M refusals_M) := lp_ok (Pσ := fun s8 => V p l e (rmO 3 74) s m args below meth c 5 D A 0 0 Q 27 [(0, .ref (aM 0)), (1, .int s8.1), (2, .int s8.2.1)] [] (wM cI cJ aM thrown_M pins_M many_M nets_M lefts_M rights_M touches_M below_M reach_M s8.2.2 steps_M laid_M laidMany_M tracks_M laidNet_M laidLeft_M laidRight_M laidTouch_M laidTrack_M ringSize_M ringOf_M lays_M refusals_M)) (Pρ := fun r8 => V p l e (rmO 3 74) s m args below meth c 5 D A 0 0 Q 90 [(2, .int r8.1)] [] (wM cI cJ aM thrown_M pins_M many_M nets_M lefts_M rights_M touches_M below_M reach_M r8.2 steps_M laid_M laidMany_M tracks_M laidNet_M laidLeft_M laidRight_M laidTouch_M laidTrack_M ringSize_M ringOf_M lays_M refusals_M)) (fun s o h hl hx => t_X4_fill_B27 C s o h hl hx) n8 s9 o8 h hk
set_option maxHeartbeats 4000000 in
set_option maxRecDepth 100000 in
theorem c_X4_fill (l : Launch) (D : va_G) (cI cJ : ClassId) (aM : Nat → Nat) (thrown_M : Int32) (pins_M : (Nat → Int32)) (many_M : Int32) (nets_M : (Nat → Int32)) (lefts_M : (Nat → Int32)) (rights_M : (Nat → Int32)) (touches_M : (Nat → Int32)) (below_M : (Nat → Int64)) (reach_M : (Nat → Int64)) (tracksOf_M : (Nat → Int32)) (steps_M : (Nat → Int32)) (laid_M : Int32) (laidMany_M : Int32) (tracks_M : Int32) (laidNet_M : (Nat → Int32)) (laidLeft_M : (Nat → Int32)) (laidRight_M : (Nat → Int32)) (laidTouch_M : (Nat → Int32)) (laidTrack_M : (Nat → Int32)) (ringSize_M : Int32) (ringOf_M : (Nat → Int32)) (lays_M : Int32) (refusals_M : Int32) (r : Int32) (tracksOf_M' : (Nat → Int32)) (h : f_X4_fill many_M nets_M lefts_M rights_M below_M tracksOf_M = some (r, tracksOf_M')) : Cti l D cI cJ yX4_fill cX4_fill 5 (some .int) 3 74 [.ref (aM 0)] (wM cI cJ aM thrown_M pins_M many_M nets_M lefts_M rights_M touches_M below_M reach_M tracksOf_M steps_M laid_M laidMany_M tracks_M laidNet_M laidLeft_M laidRight_M laidTouch_M laidTrack_M ringSize_M ringOf_M lays_M refusals_M) (wM cI cJ aM thrown_M pins_M many_M nets_M lefts_M rights_M touches_M below_M reach_M tracksOf_M' steps_M laid_M laidMany_M tracks_M laidNet_M laidLeft_M laidRight_M laidTouch_M laidTrack_M ringSize_M ringOf_M lays_M refusals_M) r := by
  refine mk_i [(0, .ref (aM 0))] (by decide) rfl (Nat.le_of_ble_eq_true rfl) rfl (fun p e s m args below meth c A Q C hk => ?_)
  unfold f_X4_fill at h
  refine v_iconst (v := 0) C dX4_fill_0 (by decide) ?_
  refine v_istore_n C [(1, .int 0), (0, .ref (aM 0))] dX4_fill_1 rfl (by decide) rfl ?_
  refine v_iconst (v := 0) C dX4_fill_2 (by decide) ?_
  refine v_istore_n C [(2, .int 0), (1, .int 0), (0, .ref (aM 0))] dX4_fill_3 rfl (by decide) rfl ?_
  refine v_iconst (v := 0) C dX4_fill_4 (by decide) ?_
  refine v_istore_n C [(3, .int 0), (2, .int 0), (1, .int 0), (0, .ref (aM 0))] dX4_fill_5 rfl (by decide) rfl ?_
  obtain ⟨r, h1, h⟩ := bind_el h
  refine v_perm [3, 2, 1, 0] rfl ?_
  obtain ⟨tracksOf_M_1, rfl⟩ : ∃ z, z = r := ⟨_, rfl⟩
  refine t_X4_fill_L6 C (s9 := (0, tracksOf_M)) h1 ?_
  show V p l e (rmO 3 74) s m args below meth c 5 D A 0 0 Q 27 [(0, .ref (aM 0)), (1, .int 0), (2, .int 0)] [] (wM cI cJ aM thrown_M pins_M many_M nets_M lefts_M rights_M touches_M below_M reach_M tracksOf_M_1 steps_M laid_M laidMany_M tracks_M laidNet_M laidLeft_M laidRight_M laidTouch_M laidTrack_M ringSize_M ringOf_M lays_M refusals_M)
  try dsimp only at h
  obtain ⟨r, h1, h⟩ := bind_el h
  refine v_perm [0, 1, 2] rfl ?_
  obtain ⟨x2_6, tracksOf_M_7⟩ := r
  refine t_X4_fill_L27 C (s9 := (0, 0, tracksOf_M_1)) h1 ?_
  show V p l e (rmO 3 74) s m args below meth c 5 D A 0 0 Q 90 [(2, .int x2_6)] [] (wM cI cJ aM thrown_M pins_M many_M nets_M lefts_M rights_M touches_M below_M reach_M tracksOf_M_7 steps_M laid_M laidMany_M tracks_M laidNet_M laidLeft_M laidRight_M laidTouch_M laidTrack_M ringSize_M ringOf_M lays_M refusals_M)
  try dsimp only at h
  refine v_iload_n C 0 dX4_fill_90 rfl rfl ?_
  cases h
  exact hk _ _ dX4_fill_91
def f_X4_layNow_B23 (many_M : Int32) (nets_M : (Nat → Int32)) (lefts_M : (Nat → Int32)) (rights_M : (Nat → Int32)) (touches_M : (Nat → Int32)) (tracksOf_M : (Nat → Int32)) : (Int32 × (Nat → Int32) × (Nat → Int32) × (Nat → Int32) × (Nat → Int32) × (Nat → Int32)) → Option ((Int32 × (Nat → Int32) × (Nat → Int32) × (Nat → Int32) × (Nat → Int32) × (Nat → Int32)) ⊕ ((Nat → Int32) × (Nat → Int32) × (Nat → Int32) × (Nat → Int32) × (Nat → Int32)))
  | (x1, laidNet_M, laidLeft_M, laidRight_M, laidTouch_M, laidTrack_M) => if many_M ≤ x1 then (some (.inr (laidNet_M, laidLeft_M, laidRight_M, laidTouch_M, laidTrack_M))) else (bnd x1 40 (bnd x1 40 (bnd x1 40 (bnd x1 40 (bnd x1 40 (bnd x1 40 (bnd x1 40 (bnd x1 40 (bnd x1 40 (bnd x1 40 (some (.inl ((x1 + 1, upd laidNet_M x1.toNatClampNeg (nets_M x1.toNatClampNeg), upd laidLeft_M x1.toNatClampNeg (lefts_M x1.toNatClampNeg), upd laidRight_M x1.toNatClampNeg (rights_M x1.toNatClampNeg), upd laidTouch_M x1.toNatClampNeg (touches_M x1.toNatClampNeg), upd laidTrack_M x1.toNatClampNeg (tracksOf_M x1.toNatClampNeg)))))))))))))))
def f_X4_layNow (many_M : Int32) (nets_M : (Nat → Int32)) (lefts_M : (Nat → Int32)) (rights_M : (Nat → Int32)) (touches_M : (Nat → Int32)) (below_M : (Nat → Int64)) (tracksOf_M : (Nat → Int32)) (laidNet_M : (Nat → Int32)) (laidLeft_M : (Nat → Int32)) (laidRight_M : (Nat → Int32)) (laidTouch_M : (Nat → Int32)) (laidTrack_M : (Nat → Int32)) (lays_M : Int32) : Option (Int32 × (Nat → Int32) × Int32 × Int32 × Int32 × (Nat → Int32) × (Nat → Int32) × (Nat → Int32) × (Nat → Int32) × (Nat → Int32) × Int32) := (f_X4_fill many_M nets_M lefts_M rights_M below_M tracksOf_M).bind (fun r => match r with | (r_1, tracksOf_M_2) => (lp (f_X4_layNow_B23 many_M nets_M lefts_M rights_M touches_M tracksOf_M_2) 64 (0, laidNet_M, laidLeft_M, laidRight_M, laidTouch_M, laidTrack_M)).bind (fun r => match r with | (laidNet_M_3, laidLeft_M_4, laidRight_M_5, laidTouch_M_6, laidTrack_M_7) => some (r_1, tracksOf_M_2, 1, many_M, r_1, laidNet_M_3, laidLeft_M_4, laidRight_M_5, laidTouch_M_6, laidTrack_M_7, lays_M + 1)))
theorem cw_X4_layNow : CWv yX4_layNow cX4_layNow 2 (some .int) RX4 0 := ⟨m3_201, ms4_8, m1_5, m3_202, rfl, by decide, by decide, by decide +kernel⟩
set_option maxHeartbeats 4000000 in
set_option maxRecDepth 100000 in
theorem t_X4_layNow_B23 {p : Program} {l : Launch} {e : Env} {s : State} {m : MethodId} {args : Array Value} {below : List Frame} {meth : Method} {c : Code} {D : va_G} {A : Nat → Prop} {cI cJ : ClassId} {Q : State → Prop} (C : Cx p s m args c cX4_layNow 2 RX4 D A cI cJ) {aM : Nat → Nat} {thrown_M : Int32} {pins_M : (Nat → Int32)} {many_M : Int32} {nets_M : (Nat → Int32)} {lefts_M : (Nat → Int32)} {rights_M : (Nat → Int32)} {touches_M : (Nat → Int32)} {below_M : (Nat → Int64)} {reach_M : (Nat → Int64)} {tracksOf_M : (Nat → Int32)} {steps_M : (Nat → Int32)} {laid_M : Int32} {laidMany_M : Int32} {tracks_M : Int32} {ringSize_M : Int32} {ringOf_M : (Nat → Int32)} {lays_M : Int32} {refusals_M : Int32} (s8 : (Int32 × (Nat → Int32) × (Nat → Int32) × (Nat → Int32) × (Nat → Int32) × (Nat → Int32))) (o8 : (Int32 × (Nat → Int32) × (Nat → Int32) × (Nat → Int32) × (Nat → Int32) × (Nat → Int32)) ⊕ ((Nat → Int32) × (Nat → Int32) × (Nat → Int32) × (Nat → Int32) × (Nat → Int32))) (h : f_X4_layNow_B23 many_M nets_M lefts_M rights_M touches_M tracksOf_M s8 = some o8) (hl : ∀ s8, o8 = .inl s8 → V p l e (rmO 4 98) s m args below meth c 2 D A 0 0 Q 23 [(0, .ref (aM 0)), (1, .int s8.1)] [] (wM cI cJ aM thrown_M pins_M many_M nets_M lefts_M rights_M touches_M below_M reach_M tracksOf_M steps_M laid_M laidMany_M tracks_M s8.2.1 s8.2.2.1 s8.2.2.2.1 s8.2.2.2.2.1 s8.2.2.2.2.2 ringSize_M ringOf_M lays_M refusals_M)) (hx : ∀ r8, o8 = .inr r8 → V p l e (rmO 4 98) s m args below meth c 2 D A 0 0 Q 97 [(0, .ref (aM 0))] [] (wM cI cJ aM thrown_M pins_M many_M nets_M lefts_M rights_M touches_M below_M reach_M tracksOf_M steps_M laid_M laidMany_M tracks_M r8.1 r8.2.1 r8.2.2.1 r8.2.2.2.1 r8.2.2.2.2 ringSize_M ringOf_M lays_M refusals_M)) : V p l e (rmO 4 98) s m args below meth c 2 D A 0 0 Q 23 [(0, .ref (aM 0)), (1, .int s8.1)] [] (wM cI cJ aM thrown_M pins_M many_M nets_M lefts_M rights_M touches_M below_M reach_M tracksOf_M steps_M laid_M laidMany_M tracks_M s8.2.1 s8.2.2.1 s8.2.2.2.1 s8.2.2.2.2.1 s8.2.2.2.2.2 ringSize_M ringOf_M lays_M refusals_M) := by
  obtain ⟨x1, laidNet_M, laidLeft_M, laidRight_M, laidTouch_M, laidTrack_M⟩ := s8
  unfold f_X4_layNow_B23 at h
  show V p l e (rmO 4 98) s m args below meth c 2 D A 0 0 Q 23 [(0, .ref (aM 0)), (1, .int x1)] [] (wM cI cJ aM thrown_M pins_M many_M nets_M lefts_M rights_M touches_M below_M reach_M tracksOf_M steps_M laid_M laidMany_M tracks_M laidNet_M laidLeft_M laidRight_M laidTouch_M laidTrack_M ringSize_M ringOf_M lays_M refusals_M)
  refine v_iload_n C 1 dX4_layNow_23 rfl rfl ?_
  refine v_aload_n C 0 dX4_layNow_24 rfl rfl ?_
  refine v_get C 0 2 iuX4 rfl rfl (by decide) m3_55 rfl rfl dX4_layNow_25 ?_
  refine v_icmp_ge (tgt := 97) C dX4_layNow_28 (by decide) h (fun h => ?_) (fun h => ?_)
  · refine v_perm [0] rfl ?_
    cases h
    exact hx _ rfl
  · refine v_aload_n C 0 dX4_layNow_31 rfl rfl ?_
    refine v_get C 0 14 iuX4 rfl rfl (by decide) m3_67 rfl rfl dX4_layNow_32 ?_
    refine v_iload_n C 1 dX4_layNow_35 rfl rfl ?_
    refine v_aload_n C 0 dX4_layNow_36 rfl rfl ?_
    refine v_get C 0 3 iuX4 rfl rfl (by decide) m3_56 rfl rfl dX4_layNow_37 ?_
    refine v_iload_n C 1 dX4_layNow_40 rfl rfl ?_
    refine v_iald C 2 rfl dX4_layNow_41 h (fun h => ?_)
    refine v_iast C (wM cI cJ aM thrown_M pins_M many_M nets_M lefts_M rights_M touches_M below_M reach_M tracksOf_M steps_M laid_M laidMany_M tracks_M (upd laidNet_M x1.toNatClampNeg (nets_M x1.toNatClampNeg)) laidLeft_M laidRight_M laidTouch_M laidTrack_M ringSize_M ringOf_M lays_M refusals_M) 10 rfl dX4_layNow_42 h rfl (fun h => ?_)
    refine v_aload_n C 0 dX4_layNow_43 rfl rfl ?_
    refine v_get C 0 15 iuX4 rfl rfl (by decide) m3_68 rfl rfl dX4_layNow_44 ?_
    refine v_iload_n C 1 dX4_layNow_47 rfl rfl ?_
    refine v_aload_n C 0 dX4_layNow_48 rfl rfl ?_
    refine v_get C 0 4 iuX4 rfl rfl (by decide) m3_57 rfl rfl dX4_layNow_49 ?_
    refine v_iload_n C 1 dX4_layNow_52 rfl rfl ?_
    refine v_iald C 3 rfl dX4_layNow_53 h (fun h => ?_)
    refine v_iast C (wM cI cJ aM thrown_M pins_M many_M nets_M lefts_M rights_M touches_M below_M reach_M tracksOf_M steps_M laid_M laidMany_M tracks_M (upd laidNet_M x1.toNatClampNeg (nets_M x1.toNatClampNeg)) (upd laidLeft_M x1.toNatClampNeg (lefts_M x1.toNatClampNeg)) laidRight_M laidTouch_M laidTrack_M ringSize_M ringOf_M lays_M refusals_M) 11 rfl dX4_layNow_54 h rfl (fun h => ?_)
    refine v_aload_n C 0 dX4_layNow_55 rfl rfl ?_
    refine v_get C 0 16 iuX4 rfl rfl (by decide) m3_69 rfl rfl dX4_layNow_56 ?_
    refine v_iload_n C 1 dX4_layNow_59 rfl rfl ?_
    refine v_aload_n C 0 dX4_layNow_60 rfl rfl ?_
    refine v_get C 0 5 iuX4 rfl rfl (by decide) m3_58 rfl rfl dX4_layNow_61 ?_
    refine v_iload_n C 1 dX4_layNow_64 rfl rfl ?_
    refine v_iald C 4 rfl dX4_layNow_65 h (fun h => ?_)
    refine v_iast C (wM cI cJ aM thrown_M pins_M many_M nets_M lefts_M rights_M touches_M below_M reach_M tracksOf_M steps_M laid_M laidMany_M tracks_M (upd laidNet_M x1.toNatClampNeg (nets_M x1.toNatClampNeg)) (upd laidLeft_M x1.toNatClampNeg (lefts_M x1.toNatClampNeg)) (upd laidRight_M x1.toNatClampNeg (rights_M x1.toNatClampNeg)) laidTouch_M laidTrack_M ringSize_M ringOf_M lays_M refusals_M) 12 rfl dX4_layNow_66 h rfl (fun h => ?_)
    refine v_aload_n C 0 dX4_layNow_67 rfl rfl ?_
    refine v_get C 0 17 iuX4 rfl rfl (by decide) m3_70 rfl rfl dX4_layNow_68 ?_
    refine v_iload_n C 1 dX4_layNow_71 rfl rfl ?_
    refine v_aload_n C 0 dX4_layNow_72 rfl rfl ?_
    refine v_get C 0 6 iuX4 rfl rfl (by decide) m3_59 rfl rfl dX4_layNow_73 ?_
    refine v_iload_n C 1 dX4_layNow_76 rfl rfl ?_
    refine v_iald C 5 rfl dX4_layNow_77 h (fun h => ?_)
    refine v_iast C (wM cI cJ aM thrown_M pins_M many_M nets_M lefts_M rights_M touches_M below_M reach_M tracksOf_M steps_M laid_M laidMany_M tracks_M (upd laidNet_M x1.toNatClampNeg (nets_M x1.toNatClampNeg)) (upd laidLeft_M x1.toNatClampNeg (lefts_M x1.toNatClampNeg)) (upd laidRight_M x1.toNatClampNeg (rights_M x1.toNatClampNeg)) (upd laidTouch_M x1.toNatClampNeg (touches_M x1.toNatClampNeg)) laidTrack_M ringSize_M ringOf_M lays_M refusals_M) 13 rfl dX4_layNow_78 h rfl (fun h => ?_)
    refine v_aload_n C 0 dX4_layNow_79 rfl rfl ?_
    refine v_get C 0 18 iuX4 rfl rfl (by decide) m3_71 rfl rfl dX4_layNow_80 ?_
    refine v_iload_n C 1 dX4_layNow_83 rfl rfl ?_
    refine v_aload_n C 0 dX4_layNow_84 rfl rfl ?_
    refine v_get C 0 9 iuX4 rfl rfl (by decide) m3_62 rfl rfl dX4_layNow_85 ?_
    refine v_iload_n C 1 dX4_layNow_88 rfl rfl ?_
    refine v_iald C 8 rfl dX4_layNow_89 h (fun h => ?_)
    refine v_iast C (wM cI cJ aM thrown_M pins_M many_M nets_M lefts_M rights_M touches_M below_M reach_M tracksOf_M steps_M laid_M laidMany_M tracks_M (upd laidNet_M x1.toNatClampNeg (nets_M x1.toNatClampNeg)) (upd laidLeft_M x1.toNatClampNeg (lefts_M x1.toNatClampNeg)) (upd laidRight_M x1.toNatClampNeg (rights_M x1.toNatClampNeg)) (upd laidTouch_M x1.toNatClampNeg (touches_M x1.toNatClampNeg)) (upd laidTrack_M x1.toNatClampNeg (tracksOf_M x1.toNatClampNeg)) ringSize_M ringOf_M lays_M refusals_M) 14 rfl dX4_layNow_90 h rfl (fun h => ?_)
    refine v_iinc C [(1, .int (x1 + 1)), (0, .ref (aM 0))] 1 dX4_layNow_91 rfl rfl (by decide) rfl ?_
    refine v_goto (tgt := 23) C dX4_layNow_94 (by decide) ?_
    refine v_perm [1, 0] rfl ?_
    cases h
    exact hl _ rfl
set_option maxHeartbeats 4000000 in
set_option maxRecDepth 100000 in
theorem t_X4_layNow_L23 {p : Program} {l : Launch} {e : Env} {s : State} {m : MethodId} {args : Array Value} {below : List Frame} {meth : Method} {c : Code} {D : va_G} {A : Nat → Prop} {cI cJ : ClassId} {Q : State → Prop} (C : Cx p s m args c cX4_layNow 2 RX4 D A cI cJ) {aM : Nat → Nat} {thrown_M : Int32} {pins_M : (Nat → Int32)} {many_M : Int32} {nets_M : (Nat → Int32)} {lefts_M : (Nat → Int32)} {rights_M : (Nat → Int32)} {touches_M : (Nat → Int32)} {below_M : (Nat → Int64)} {reach_M : (Nat → Int64)} {tracksOf_M : (Nat → Int32)} {steps_M : (Nat → Int32)} {laid_M : Int32} {laidMany_M : Int32} {tracks_M : Int32} {ringSize_M : Int32} {ringOf_M : (Nat → Int32)} {lays_M : Int32} {refusals_M : Int32} {n8 : Nat} {s9 : (Int32 × (Nat → Int32) × (Nat → Int32) × (Nat → Int32) × (Nat → Int32) × (Nat → Int32))} {o8 : ((Nat → Int32) × (Nat → Int32) × (Nat → Int32) × (Nat → Int32) × (Nat → Int32))} (h : lp (f_X4_layNow_B23 many_M nets_M lefts_M rights_M touches_M tracksOf_M) n8 s9 = some o8) (hk : V p l e (rmO 4 98) s m args below meth c 2 D A 0 0 Q 97 [(0, .ref (aM 0))] [] (wM cI cJ aM thrown_M pins_M many_M nets_M lefts_M rights_M touches_M below_M reach_M tracksOf_M steps_M laid_M laidMany_M tracks_M o8.1 o8.2.1 o8.2.2.1 o8.2.2.2.1 o8.2.2.2.2 ringSize_M ringOf_M lays_M refusals_M)) : V p l e (rmO 4 98) s m args below meth c 2 D A 0 0 Q 23 [(0, .ref (aM 0)), (1, .int s9.1)] [] (wM cI cJ aM thrown_M pins_M many_M nets_M lefts_M rights_M touches_M below_M reach_M tracksOf_M steps_M laid_M laidMany_M tracks_M s9.2.1 s9.2.2.1 s9.2.2.2.1 s9.2.2.2.2.1 s9.2.2.2.2.2 ringSize_M ringOf_M lays_M refusals_M) := lp_ok (Pσ := fun s8 => V p l e (rmO 4 98) s m args below meth c 2 D A 0 0 Q 23 [(0, .ref (aM 0)), (1, .int s8.1)] [] (wM cI cJ aM thrown_M pins_M many_M nets_M lefts_M rights_M touches_M below_M reach_M tracksOf_M steps_M laid_M laidMany_M tracks_M s8.2.1 s8.2.2.1 s8.2.2.2.1 s8.2.2.2.2.1 s8.2.2.2.2.2 ringSize_M ringOf_M lays_M refusals_M)) (Pρ := fun r8 => V p l e (rmO 4 98) s m args below meth c 2 D A 0 0 Q 97 [(0, .ref (aM 0))] [] (wM cI cJ aM thrown_M pins_M many_M nets_M lefts_M rights_M touches_M below_M reach_M tracksOf_M steps_M laid_M laidMany_M tracks_M r8.1 r8.2.1 r8.2.2.1 r8.2.2.2.1 r8.2.2.2.2 ringSize_M ringOf_M lays_M refusals_M)) (fun s o h hl hx => t_X4_layNow_B23 C s o h hl hx) n8 s9 o8 h hk
set_option maxHeartbeats 4000000 in
set_option maxRecDepth 100000 in
theorem c_X4_layNow (l : Launch) (D : va_G) (cI cJ : ClassId) (aM : Nat → Nat) (thrown_M : Int32) (pins_M : (Nat → Int32)) (many_M : Int32) (nets_M : (Nat → Int32)) (lefts_M : (Nat → Int32)) (rights_M : (Nat → Int32)) (touches_M : (Nat → Int32)) (below_M : (Nat → Int64)) (reach_M : (Nat → Int64)) (tracksOf_M : (Nat → Int32)) (steps_M : (Nat → Int32)) (laid_M : Int32) (laidMany_M : Int32) (tracks_M : Int32) (laidNet_M : (Nat → Int32)) (laidLeft_M : (Nat → Int32)) (laidRight_M : (Nat → Int32)) (laidTouch_M : (Nat → Int32)) (laidTrack_M : (Nat → Int32)) (ringSize_M : Int32) (ringOf_M : (Nat → Int32)) (lays_M : Int32) (refusals_M : Int32) (r : Int32) (tracksOf_M' : (Nat → Int32)) (laid_M' : Int32) (laidMany_M' : Int32) (tracks_M' : Int32) (laidNet_M' : (Nat → Int32)) (laidLeft_M' : (Nat → Int32)) (laidRight_M' : (Nat → Int32)) (laidTouch_M' : (Nat → Int32)) (laidTrack_M' : (Nat → Int32)) (lays_M' : Int32) (h : f_X4_layNow many_M nets_M lefts_M rights_M touches_M below_M tracksOf_M laidNet_M laidLeft_M laidRight_M laidTouch_M laidTrack_M lays_M = some (r, tracksOf_M', laid_M', laidMany_M', tracks_M', laidNet_M', laidLeft_M', laidRight_M', laidTouch_M', laidTrack_M', lays_M')) : Cti l D cI cJ yX4_layNow cX4_layNow 2 (some .int) 4 98 [.ref (aM 0)] (wM cI cJ aM thrown_M pins_M many_M nets_M lefts_M rights_M touches_M below_M reach_M tracksOf_M steps_M laid_M laidMany_M tracks_M laidNet_M laidLeft_M laidRight_M laidTouch_M laidTrack_M ringSize_M ringOf_M lays_M refusals_M) (wM cI cJ aM thrown_M pins_M many_M nets_M lefts_M rights_M touches_M below_M reach_M tracksOf_M' steps_M laid_M' laidMany_M' tracks_M' laidNet_M' laidLeft_M' laidRight_M' laidTouch_M' laidTrack_M' ringSize_M ringOf_M lays_M' refusals_M) r := by
  refine mk_i [(0, .ref (aM 0))] (by decide) rfl (Nat.le_of_ble_eq_true rfl) rfl (fun p e s m args below meth c A Q C hk => ?_)
  unfold f_X4_layNow at h
  refine v_aload_n C 0 dX4_layNow_0 rfl rfl ?_
  refine v_aload_n C 0 dX4_layNow_1 rfl rfl ?_
  obtain ⟨r, h1, h⟩ := bind_el h
  obtain ⟨r_1, tracksOf_M_2⟩ := r
  try dsimp only at h
  refine v_callVi (As := []) (st := [.ref (aM 0)]) (wr := []) (w1 := (wM cI cJ aM thrown_M pins_M many_M nets_M lefts_M rights_M touches_M below_M reach_M tracksOf_M_2 steps_M laid_M laidMany_M tracks_M laidNet_M laidLeft_M laidRight_M laidTouch_M laidTrack_M ringSize_M ringOf_M lays_M refusals_M)) (ws' := (wM cI cJ aM thrown_M pins_M many_M nets_M lefts_M rights_M touches_M below_M reach_M tracksOf_M_2 steps_M laid_M laidMany_M tracks_M laidNet_M laidLeft_M laidRight_M laidTouch_M laidTrack_M ringSize_M ringOf_M lays_M refusals_M)) (isC := [0, 1, 2, 3, 4, 5, 6, 7, 8, 9, 10, 11, 12, 13, 14, 15]) (isR := []) (pm := [0, 1, 2, 3, 4, 5, 6, 7, 8, 9, 10, 11, 12, 13, 14, 15]) C (c_X4_fill l D cI cJ aM thrown_M pins_M many_M nets_M lefts_M rights_M touches_M below_M reach_M tracksOf_M steps_M laid_M laidMany_M tracks_M laidNet_M laidLeft_M laidRight_M laidTouch_M laidTrack_M ringSize_M ringOf_M lays_M refusals_M r_1 tracksOf_M_2 h1) cw_X4_fill 0 rfl rfl m3_203 dX4_layNow_2 rfl ⟨Nat.le_of_ble_eq_true rfl, Nat.le_of_ble_eq_true rfl⟩ (Nat.le_of_ble_eq_true rfl) ⟨Nat.le_refl 0, Nat.le_refl 0⟩ ⟨rfl, rfl, rfl, rfl, by decide, rfl, rfl⟩ ?_
  refine v_put C (wM cI cJ aM thrown_M pins_M many_M nets_M lefts_M rights_M touches_M below_M reach_M tracksOf_M_2 steps_M laid_M laidMany_M r_1 laidNet_M laidLeft_M laidRight_M laidTouch_M laidTrack_M ringSize_M ringOf_M lays_M refusals_M) 0 13 iuX4 tyX4_ok nmX4 rfl rfl (by decide) m3_66 rfl rfl rfl rfl rfl (Nat.le_of_ble_eq_true rfl) dX4_layNow_5 rfl ?_
  refine v_aload_n C 0 dX4_layNow_8 rfl rfl ?_
  refine v_iconst (v := 1) C dX4_layNow_9 (by decide) ?_
  refine v_put C (wM cI cJ aM thrown_M pins_M many_M nets_M lefts_M rights_M touches_M below_M reach_M tracksOf_M_2 steps_M 1 laidMany_M r_1 laidNet_M laidLeft_M laidRight_M laidTouch_M laidTrack_M ringSize_M ringOf_M lays_M refusals_M) 0 11 iuX4 tyX4_ok nmX4 rfl rfl (by decide) m3_64 rfl rfl rfl rfl rfl (Nat.le_of_ble_eq_true rfl) dX4_layNow_10 rfl ?_
  refine v_aload_n C 0 dX4_layNow_13 rfl rfl ?_
  refine v_aload_n C 0 dX4_layNow_14 rfl rfl ?_
  refine v_get C 0 2 iuX4 rfl rfl (by decide) m3_55 rfl rfl dX4_layNow_15 ?_
  refine v_put C (wM cI cJ aM thrown_M pins_M many_M nets_M lefts_M rights_M touches_M below_M reach_M tracksOf_M_2 steps_M 1 many_M r_1 laidNet_M laidLeft_M laidRight_M laidTouch_M laidTrack_M ringSize_M ringOf_M lays_M refusals_M) 0 12 iuX4 tyX4_ok nmX4 rfl rfl (by decide) m3_65 rfl rfl rfl rfl rfl (Nat.le_of_ble_eq_true rfl) dX4_layNow_18 rfl ?_
  refine v_iconst (v := 0) C dX4_layNow_21 (by decide) ?_
  refine v_istore_n C [(1, .int 0), (0, .ref (aM 0))] dX4_layNow_22 rfl (by decide) rfl ?_
  obtain ⟨r, h1, h⟩ := bind_el h
  refine v_perm [1, 0] rfl ?_
  obtain ⟨laidNet_M_3, laidLeft_M_4, laidRight_M_5, laidTouch_M_6, laidTrack_M_7⟩ := r
  refine t_X4_layNow_L23 C (s9 := (0, laidNet_M, laidLeft_M, laidRight_M, laidTouch_M, laidTrack_M)) h1 ?_
  show V p l e (rmO 4 98) s m args below meth c 2 D A 0 0 Q 97 [(0, .ref (aM 0))] [] (wM cI cJ aM thrown_M pins_M many_M nets_M lefts_M rights_M touches_M below_M reach_M tracksOf_M_2 steps_M 1 many_M r_1 laidNet_M_3 laidLeft_M_4 laidRight_M_5 laidTouch_M_6 laidTrack_M_7 ringSize_M ringOf_M lays_M refusals_M)
  try dsimp only at h
  refine v_aload_n C 0 dX4_layNow_97 rfl rfl ?_
  refine v_dup C dX4_layNow_98 rfl ?_
  refine v_get C 0 21 iuX4 rfl rfl (by decide) m3_74 rfl rfl dX4_layNow_99 ?_
  refine v_iconst (v := 1) C dX4_layNow_102 (by decide) ?_
  refine v_iadd C dX4_layNow_103 ?_
  refine v_put C (wM cI cJ aM thrown_M pins_M many_M nets_M lefts_M rights_M touches_M below_M reach_M tracksOf_M_2 steps_M 1 many_M r_1 laidNet_M_3 laidLeft_M_4 laidRight_M_5 laidTouch_M_6 laidTrack_M_7 ringSize_M ringOf_M (lays_M + 1) refusals_M) 0 21 iuX4 tyX4_ok nmX4 rfl rfl (by decide) m3_74 rfl rfl rfl rfl rfl (Nat.le_of_ble_eq_true rfl) dX4_layNow_104 rfl ?_
  refine v_aload_n C 0 dX4_layNow_107 rfl rfl ?_
  refine v_get C 0 13 iuX4 rfl rfl (by decide) m3_66 rfl rfl dX4_layNow_108 ?_
  cases h
  exact hk _ _ dX4_layNow_111
def f_X4_noRing (thrown_M : Int32) (many_M : Int32) (below_M : (Nat → Int64)) (reach_M : (Nat → Int64)) (steps_M : (Nat → Int32)) (ringSize_M : Int32) (ringOf_M : (Nat → Int32)) (refusals_M : Int32) : Option (Int32 × Int32 × (Nat → Int64) × (Nat → Int32) × Int32 × (Nat → Int32) × Int32) := (f_X4_inRing many_M below_M reach_M).bind (fun r => match r with | (r_1, reach_M_2) => if (0 : Int32) ≤ r_1 then ((f_X4_tellRing many_M below_M steps_M ringOf_M r_1).bind (fun r => match r with | (steps_M_3, ringSize_M_4, ringOf_M_5) => some (0, 2, reach_M_2, steps_M_3, ringSize_M_4, ringOf_M_5, refusals_M + 1))) else (some (1, thrown_M, reach_M_2, steps_M, ringSize_M, ringOf_M, refusals_M)))
theorem cw_X4_noRing : CWv yX4_noRing cX4_noRing 2 (some .boolean) RX4 0 := ⟨m3_182, ms4_4, m1_5, m3_183, rfl, by decide, by decide, by decide +kernel⟩
set_option maxHeartbeats 4000000 in
set_option maxRecDepth 100000 in
theorem c_X4_noRing (l : Launch) (D : va_G) (cI cJ : ClassId) (aM : Nat → Nat) (thrown_M : Int32) (pins_M : (Nat → Int32)) (many_M : Int32) (nets_M : (Nat → Int32)) (lefts_M : (Nat → Int32)) (rights_M : (Nat → Int32)) (touches_M : (Nat → Int32)) (below_M : (Nat → Int64)) (reach_M : (Nat → Int64)) (tracksOf_M : (Nat → Int32)) (steps_M : (Nat → Int32)) (laid_M : Int32) (laidMany_M : Int32) (tracks_M : Int32) (laidNet_M : (Nat → Int32)) (laidLeft_M : (Nat → Int32)) (laidRight_M : (Nat → Int32)) (laidTouch_M : (Nat → Int32)) (laidTrack_M : (Nat → Int32)) (ringSize_M : Int32) (ringOf_M : (Nat → Int32)) (lays_M : Int32) (refusals_M : Int32) (r : Int32) (thrown_M' : Int32) (reach_M' : (Nat → Int64)) (steps_M' : (Nat → Int32)) (ringSize_M' : Int32) (ringOf_M' : (Nat → Int32)) (refusals_M' : Int32) (h : f_X4_noRing thrown_M many_M below_M reach_M steps_M ringSize_M ringOf_M refusals_M = some (r, thrown_M', reach_M', steps_M', ringSize_M', ringOf_M', refusals_M')) : Cti l D cI cJ yX4_noRing cX4_noRing 2 (some .boolean) 3 73 [.ref (aM 0)] (wM cI cJ aM thrown_M pins_M many_M nets_M lefts_M rights_M touches_M below_M reach_M tracksOf_M steps_M laid_M laidMany_M tracks_M laidNet_M laidLeft_M laidRight_M laidTouch_M laidTrack_M ringSize_M ringOf_M lays_M refusals_M) (wM cI cJ aM thrown_M' pins_M many_M nets_M lefts_M rights_M touches_M below_M reach_M' tracksOf_M steps_M' laid_M laidMany_M tracks_M laidNet_M laidLeft_M laidRight_M laidTouch_M laidTrack_M ringSize_M' ringOf_M' lays_M refusals_M') r := by
  refine mk_z [(0, .ref (aM 0))] (by decide) rfl (Nat.le_of_ble_eq_true rfl) rfl (fun p e s m args below meth c A Q C hk => ?_)
  unfold f_X4_noRing at h
  refine v_aload_n C 0 dX4_noRing_0 rfl rfl ?_
  obtain ⟨r, h1, h⟩ := bind_el h
  obtain ⟨r_1, reach_M_2⟩ := r
  try dsimp only at h
  refine v_callVi (As := []) (st := []) (wr := []) (w1 := (wM cI cJ aM thrown_M pins_M many_M nets_M lefts_M rights_M touches_M below_M reach_M_2 tracksOf_M steps_M laid_M laidMany_M tracks_M laidNet_M laidLeft_M laidRight_M laidTouch_M laidTrack_M ringSize_M ringOf_M lays_M refusals_M)) (ws' := (wM cI cJ aM thrown_M pins_M many_M nets_M lefts_M rights_M touches_M below_M reach_M_2 tracksOf_M steps_M laid_M laidMany_M tracks_M laidNet_M laidLeft_M laidRight_M laidTouch_M laidTrack_M ringSize_M ringOf_M lays_M refusals_M)) (isC := [0, 1, 2, 3, 4, 5, 6, 7, 8, 9, 10, 11, 12, 13, 14, 15]) (isR := []) (pm := [0, 1, 2, 3, 4, 5, 6, 7, 8, 9, 10, 11, 12, 13, 14, 15]) C (c_X4_inRing l D cI cJ aM thrown_M pins_M many_M nets_M lefts_M rights_M touches_M below_M reach_M tracksOf_M steps_M laid_M laidMany_M tracks_M laidNet_M laidLeft_M laidRight_M laidTouch_M laidTrack_M ringSize_M ringOf_M lays_M refusals_M r_1 reach_M_2 h1) cw_X4_inRing 0 rfl rfl m3_184 dX4_noRing_1 rfl ⟨Nat.le_of_ble_eq_true rfl, Nat.le_of_ble_eq_true rfl⟩ (Nat.le_of_ble_eq_true rfl) ⟨Nat.le_refl 0, Nat.le_refl 0⟩ ⟨rfl, rfl, rfl, rfl, by decide, rfl, rfl⟩ ?_
  refine v_istore_n C [(1, .int r_1), (0, .ref (aM 0))] dX4_noRing_4 rfl (by decide) rfl ?_
  refine v_iload_n C 0 dX4_noRing_5 rfl rfl ?_
  refine v_if_ge (tgt := 11) C dX4_noRing_6 (by decide) h (fun h => ?_) (fun h => ?_)
  · refine v_aload_n C 1 dX4_noRing_11 rfl rfl ?_
    refine v_iload_n C 0 dX4_noRing_12 rfl rfl ?_
    obtain ⟨r, h1, h⟩ := bind_el h
    obtain ⟨steps_M_3, ringSize_M_4, ringOf_M_5⟩ := r
    try dsimp only at h
    refine v_callVv (As := [.int r_1]) (st := []) (wr := []) (w1 := (wM cI cJ aM thrown_M pins_M many_M nets_M lefts_M rights_M touches_M below_M reach_M_2 tracksOf_M steps_M_3 laid_M laidMany_M tracks_M laidNet_M laidLeft_M laidRight_M laidTouch_M laidTrack_M ringSize_M_4 ringOf_M_5 lays_M refusals_M)) (ws' := (wM cI cJ aM thrown_M pins_M many_M nets_M lefts_M rights_M touches_M below_M reach_M_2 tracksOf_M steps_M_3 laid_M laidMany_M tracks_M laidNet_M laidLeft_M laidRight_M laidTouch_M laidTrack_M ringSize_M_4 ringOf_M_5 lays_M refusals_M)) (isC := [0, 1, 2, 3, 4, 5, 6, 7, 8, 9, 10, 11, 12, 13, 14, 15]) (isR := []) (pm := [0, 1, 2, 3, 4, 5, 6, 7, 8, 9, 10, 11, 12, 13, 14, 15]) C (c_X4_tellRing l D cI cJ aM thrown_M pins_M many_M nets_M lefts_M rights_M touches_M below_M reach_M_2 tracksOf_M steps_M laid_M laidMany_M tracks_M laidNet_M laidLeft_M laidRight_M laidTouch_M laidTrack_M ringSize_M ringOf_M lays_M refusals_M r_1 steps_M_3 ringSize_M_4 ringOf_M_5 h1) cw_X4_tellRing 0 rfl rfl m3_191 dX4_noRing_13 rfl ⟨Nat.le_of_ble_eq_true rfl, Nat.le_of_ble_eq_true rfl⟩ (Nat.le_of_ble_eq_true rfl) ⟨Nat.le_refl 0, Nat.le_refl 0⟩ ⟨rfl, rfl, rfl, rfl, by decide, rfl, rfl⟩ ?_
    refine v_aload_n C 1 dX4_noRing_16 rfl rfl ?_
    refine v_dup C dX4_noRing_17 rfl ?_
    refine v_get C 0 22 iuX4 rfl rfl (by decide) m3_75 rfl rfl dX4_noRing_18 ?_
    refine v_iconst (v := 1) C dX4_noRing_21 (by decide) ?_
    refine v_iadd C dX4_noRing_22 ?_
    refine v_put C (wM cI cJ aM thrown_M pins_M many_M nets_M lefts_M rights_M touches_M below_M reach_M_2 tracksOf_M steps_M_3 laid_M laidMany_M tracks_M laidNet_M laidLeft_M laidRight_M laidTouch_M laidTrack_M ringSize_M_4 ringOf_M_5 lays_M (refusals_M + 1)) 0 22 iuX4 tyX4_ok nmX4 rfl rfl (by decide) m3_75 rfl rfl rfl rfl rfl (Nat.le_of_ble_eq_true rfl) dX4_noRing_23 rfl ?_
    refine v_aload_n C 1 dX4_noRing_26 rfl rfl ?_
    refine v_iconst (v := 2) C dX4_noRing_27 (by decide) ?_
    refine v_put C (wM cI cJ aM 2 pins_M many_M nets_M lefts_M rights_M touches_M below_M reach_M_2 tracksOf_M steps_M_3 laid_M laidMany_M tracks_M laidNet_M laidLeft_M laidRight_M laidTouch_M laidTrack_M ringSize_M_4 ringOf_M_5 lays_M (refusals_M + 1)) 0 0 iuX4 tyX4_ok nmX4 rfl rfl (by decide) m3_53 rfl rfl rfl rfl rfl (Nat.le_of_ble_eq_true rfl) dX4_noRing_28 rfl ?_
    refine v_iconst (v := 0) C dX4_noRing_31 (by decide) ?_
    cases h
    exact hk _ _ dX4_noRing_32 (Or.inl rfl)
  · refine v_iconst (v := 1) C dX4_noRing_9 (by decide) ?_
    cases h
    exact hk _ _ dX4_noRing_10 (Or.inr rfl)
def f_X4_lay (pins_M : (Nat → Int32)) (many_M : Int32) (nets_M : (Nat → Int32)) (lefts_M : (Nat → Int32)) (rights_M : (Nat → Int32)) (touches_M : (Nat → Int32)) (below_M : (Nat → Int64)) (reach_M : (Nat → Int64)) (tracksOf_M : (Nat → Int32)) (steps_M : (Nat → Int32)) (laid_M : Int32) (laidMany_M : Int32) (tracks_M : Int32) (laidNet_M : (Nat → Int32)) (laidLeft_M : (Nat → Int32)) (laidRight_M : (Nat → Int32)) (laidTouch_M : (Nat → Int32)) (laidTrack_M : (Nat → Int32)) (ringSize_M : Int32) (ringOf_M : (Nat → Int32)) (lays_M : Int32) (refusals_M : Int32) (x1 : Int32) : Option (Int32 × Int32 × Int32 × (Nat → Int32) × (Nat → Int32) × (Nat → Int32) × (Nat → Int32) × (Nat → Int64) × (Nat → Int64) × (Nat → Int32) × (Nat → Int32) × Int32 × Int32 × Int32 × (Nat → Int32) × (Nat → Int32) × (Nat → Int32) × (Nat → Int32) × (Nat → Int32) × Int32 × (Nat → Int32) × Int32 × Int32) := (f_X4_anySingle pins_M).bind (fun r => match r with | r_1 => if r_1 = 0 then ((f_X4_study pins_M nets_M lefts_M rights_M touches_M below_M x1).bind (fun r => match r with | (r_2, many_M_3, nets_M_4, lefts_M_5, rights_M_6, touches_M_7, below_M_8) => (f_X4_noRing 0 many_M_3 below_M_8 reach_M steps_M ringSize_M ringOf_M refusals_M).bind (fun r => match r with | (r_9, thrown_M_10, reach_M_11, steps_M_12, ringSize_M_13, ringOf_M_14, refusals_M_15) => if r_9 = 0 then (some (0, thrown_M_10, many_M_3, nets_M_4, lefts_M_5, rights_M_6, touches_M_7, below_M_8, reach_M_11, tracksOf_M, steps_M_12, laid_M, laidMany_M, tracks_M, laidNet_M, laidLeft_M, laidRight_M, laidTouch_M, laidTrack_M, ringSize_M_13, ringOf_M_14, lays_M, refusals_M_15)) else ((f_X4_layNow many_M_3 nets_M_4 lefts_M_5 rights_M_6 touches_M_7 below_M_8 tracksOf_M laidNet_M laidLeft_M laidRight_M laidTouch_M laidTrack_M lays_M).bind (fun r => match r with | (r_16, tracksOf_M_17, laid_M_18, laidMany_M_19, tracks_M_20, laidNet_M_21, laidLeft_M_22, laidRight_M_23, laidTouch_M_24, laidTrack_M_25, lays_M_26) => some (r_16, thrown_M_10, many_M_3, nets_M_4, lefts_M_5, rights_M_6, touches_M_7, below_M_8, reach_M_11, tracksOf_M_17, steps_M_12, laid_M_18, laidMany_M_19, tracks_M_20, laidNet_M_21, laidLeft_M_22, laidRight_M_23, laidTouch_M_24, laidTrack_M_25, ringSize_M_13, ringOf_M_14, lays_M_26, refusals_M_15)))))) else ((f_X4_fail 1).bind (fun r => match r with | (r_27, thrown_M_28) => some (r_27, thrown_M_28, many_M, nets_M, lefts_M, rights_M, touches_M, below_M, reach_M, tracksOf_M, steps_M, laid_M, laidMany_M, tracks_M, laidNet_M, laidLeft_M, laidRight_M, laidTouch_M, laidTrack_M, ringSize_M, ringOf_M, lays_M, refusals_M))))
theorem cw_X4_lay : CWv yX4_lay cX4_lay 3 (some .int) RX4 1 := ⟨m3_135, m3_136, m1_5, m3_137, rfl, by decide, by decide, by decide +kernel⟩
set_option maxHeartbeats 4000000 in
set_option maxRecDepth 100000 in
theorem c_X4_lay (l : Launch) (D : va_G) (cI cJ : ClassId) (aM : Nat → Nat) (thrown_M : Int32) (pins_M : (Nat → Int32)) (many_M : Int32) (nets_M : (Nat → Int32)) (lefts_M : (Nat → Int32)) (rights_M : (Nat → Int32)) (touches_M : (Nat → Int32)) (below_M : (Nat → Int64)) (reach_M : (Nat → Int64)) (tracksOf_M : (Nat → Int32)) (steps_M : (Nat → Int32)) (laid_M : Int32) (laidMany_M : Int32) (tracks_M : Int32) (laidNet_M : (Nat → Int32)) (laidLeft_M : (Nat → Int32)) (laidRight_M : (Nat → Int32)) (laidTouch_M : (Nat → Int32)) (laidTrack_M : (Nat → Int32)) (ringSize_M : Int32) (ringOf_M : (Nat → Int32)) (lays_M : Int32) (refusals_M : Int32) (x1 : Int32) (r : Int32) (thrown_M' : Int32) (many_M' : Int32) (nets_M' : (Nat → Int32)) (lefts_M' : (Nat → Int32)) (rights_M' : (Nat → Int32)) (touches_M' : (Nat → Int32)) (below_M' : (Nat → Int64)) (reach_M' : (Nat → Int64)) (tracksOf_M' : (Nat → Int32)) (steps_M' : (Nat → Int32)) (laid_M' : Int32) (laidMany_M' : Int32) (tracks_M' : Int32) (laidNet_M' : (Nat → Int32)) (laidLeft_M' : (Nat → Int32)) (laidRight_M' : (Nat → Int32)) (laidTouch_M' : (Nat → Int32)) (laidTrack_M' : (Nat → Int32)) (ringSize_M' : Int32) (ringOf_M' : (Nat → Int32)) (lays_M' : Int32) (refusals_M' : Int32) (h : f_X4_lay pins_M many_M nets_M lefts_M rights_M touches_M below_M reach_M tracksOf_M steps_M laid_M laidMany_M tracks_M laidNet_M laidLeft_M laidRight_M laidTouch_M laidTrack_M ringSize_M ringOf_M lays_M refusals_M x1 = some (r, thrown_M', many_M', nets_M', lefts_M', rights_M', touches_M', below_M', reach_M', tracksOf_M', steps_M', laid_M', laidMany_M', tracks_M', laidNet_M', laidLeft_M', laidRight_M', laidTouch_M', laidTrack_M', ringSize_M', ringOf_M', lays_M', refusals_M')) : Cti l D cI cJ yX4_lay cX4_lay 3 (some .int) 5 119 [.ref (aM 0), .int x1] (wM cI cJ aM thrown_M pins_M many_M nets_M lefts_M rights_M touches_M below_M reach_M tracksOf_M steps_M laid_M laidMany_M tracks_M laidNet_M laidLeft_M laidRight_M laidTouch_M laidTrack_M ringSize_M ringOf_M lays_M refusals_M) (wM cI cJ aM thrown_M' pins_M many_M' nets_M' lefts_M' rights_M' touches_M' below_M' reach_M' tracksOf_M' steps_M' laid_M' laidMany_M' tracks_M' laidNet_M' laidLeft_M' laidRight_M' laidTouch_M' laidTrack_M' ringSize_M' ringOf_M' lays_M' refusals_M') r := by
  refine mk_i [(0, .ref (aM 0)), (1, .int x1)] (by decide) rfl (Nat.le_of_ble_eq_true rfl) rfl (fun p e s m args below meth c A Q C hk => ?_)
  unfold f_X4_lay at h
  refine v_aload_n C 0 dX4_lay_0 rfl rfl ?_
  refine v_iconst (v := 0) C dX4_lay_1 (by decide) ?_
  refine v_put C (wM cI cJ aM 0 pins_M many_M nets_M lefts_M rights_M touches_M below_M reach_M tracksOf_M steps_M laid_M laidMany_M tracks_M laidNet_M laidLeft_M laidRight_M laidTouch_M laidTrack_M ringSize_M ringOf_M lays_M refusals_M) 0 0 iuX4 tyX4_ok nmX4 rfl rfl (by decide) m3_53 rfl rfl rfl rfl rfl (Nat.le_of_ble_eq_true rfl) dX4_lay_2 rfl ?_
  refine v_aload_n C 0 dX4_lay_5 rfl rfl ?_
  obtain ⟨r, h1, h⟩ := bind_el h
  obtain ⟨r_1, rfl⟩ : ∃ z, z = r := ⟨_, rfl⟩
  try dsimp only at h
  refine v_callVi (As := []) (st := []) (wr := []) (w1 := (wM cI cJ aM 0 pins_M many_M nets_M lefts_M rights_M touches_M below_M reach_M tracksOf_M steps_M laid_M laidMany_M tracks_M laidNet_M laidLeft_M laidRight_M laidTouch_M laidTrack_M ringSize_M ringOf_M lays_M refusals_M)) (ws' := (wM cI cJ aM 0 pins_M many_M nets_M lefts_M rights_M touches_M below_M reach_M tracksOf_M steps_M laid_M laidMany_M tracks_M laidNet_M laidLeft_M laidRight_M laidTouch_M laidTrack_M ringSize_M ringOf_M lays_M refusals_M)) (isC := [0, 1, 2, 3, 4, 5, 6, 7, 8, 9, 10, 11, 12, 13, 14, 15]) (isR := []) (pm := [0, 1, 2, 3, 4, 5, 6, 7, 8, 9, 10, 11, 12, 13, 14, 15]) C (c_X4_anySingle l D cI cJ aM 0 pins_M many_M nets_M lefts_M rights_M touches_M below_M reach_M tracksOf_M steps_M laid_M laidMany_M tracks_M laidNet_M laidLeft_M laidRight_M laidTouch_M laidTrack_M ringSize_M ringOf_M lays_M refusals_M r_1 h1) cw_X4_anySingle 0 rfl rfl m3_138 dX4_lay_6 rfl ⟨Nat.le_of_ble_eq_true rfl, Nat.le_of_ble_eq_true rfl⟩ (Nat.le_of_ble_eq_true rfl) ⟨Nat.le_refl 0, Nat.le_refl 0⟩ ⟨rfl, rfl, rfl, rfl, by decide, rfl, rfl⟩ ?_
  refine v_if_eq (tgt := 18) C dX4_lay_9 (by decide) h (fun h => ?_) (fun h => ?_)
  · refine v_aload_n C 0 dX4_lay_18 rfl rfl ?_
    refine v_iload_n C 1 dX4_lay_19 rfl rfl ?_
    obtain ⟨r, h1, h⟩ := bind_el h
    obtain ⟨r_2, many_M_3, nets_M_4, lefts_M_5, rights_M_6, touches_M_7, below_M_8⟩ := r
    try dsimp only at h
    refine v_callVi (As := [.int x1]) (st := []) (wr := []) (w1 := (wM cI cJ aM 0 pins_M many_M_3 nets_M_4 lefts_M_5 rights_M_6 touches_M_7 below_M_8 reach_M tracksOf_M steps_M laid_M laidMany_M tracks_M laidNet_M laidLeft_M laidRight_M laidTouch_M laidTrack_M ringSize_M ringOf_M lays_M refusals_M)) (ws' := (wM cI cJ aM 0 pins_M many_M_3 nets_M_4 lefts_M_5 rights_M_6 touches_M_7 below_M_8 reach_M tracksOf_M steps_M laid_M laidMany_M tracks_M laidNet_M laidLeft_M laidRight_M laidTouch_M laidTrack_M ringSize_M ringOf_M lays_M refusals_M)) (isC := [0, 1, 2, 3, 4, 5, 6, 7, 8, 9, 10, 11, 12, 13, 14, 15]) (isR := []) (pm := [0, 1, 2, 3, 4, 5, 6, 7, 8, 9, 10, 11, 12, 13, 14, 15]) C (c_X4_study l D cI cJ aM 0 pins_M many_M nets_M lefts_M rights_M touches_M below_M reach_M tracksOf_M steps_M laid_M laidMany_M tracks_M laidNet_M laidLeft_M laidRight_M laidTouch_M laidTrack_M ringSize_M ringOf_M lays_M refusals_M x1 r_2 many_M_3 nets_M_4 lefts_M_5 rights_M_6 touches_M_7 below_M_8 h1) cw_X4_study 0 rfl rfl m3_164 dX4_lay_20 rfl ⟨Nat.le_of_ble_eq_true rfl, Nat.le_of_ble_eq_true rfl⟩ (Nat.le_of_ble_eq_true rfl) ⟨Nat.le_refl 0, Nat.le_refl 0⟩ ⟨rfl, rfl, rfl, rfl, by decide, rfl, rfl⟩ ?_
    refine v_istore_n C [(2, .int r_2), (0, .ref (aM 0)), (1, .int x1)] dX4_lay_23 rfl (by decide) rfl ?_
    refine v_aload_n C 1 dX4_lay_24 rfl rfl ?_
    obtain ⟨r, h1, h⟩ := bind_el h
    obtain ⟨r_9, thrown_M_10, reach_M_11, steps_M_12, ringSize_M_13, ringOf_M_14, refusals_M_15⟩ := r
    try dsimp only at h
    refine v_callVi (As := []) (st := []) (wr := []) (w1 := (wM cI cJ aM thrown_M_10 pins_M many_M_3 nets_M_4 lefts_M_5 rights_M_6 touches_M_7 below_M_8 reach_M_11 tracksOf_M steps_M_12 laid_M laidMany_M tracks_M laidNet_M laidLeft_M laidRight_M laidTouch_M laidTrack_M ringSize_M_13 ringOf_M_14 lays_M refusals_M_15)) (ws' := (wM cI cJ aM thrown_M_10 pins_M many_M_3 nets_M_4 lefts_M_5 rights_M_6 touches_M_7 below_M_8 reach_M_11 tracksOf_M steps_M_12 laid_M laidMany_M tracks_M laidNet_M laidLeft_M laidRight_M laidTouch_M laidTrack_M ringSize_M_13 ringOf_M_14 lays_M refusals_M_15)) (isC := [0, 1, 2, 3, 4, 5, 6, 7, 8, 9, 10, 11, 12, 13, 14, 15]) (isR := []) (pm := [0, 1, 2, 3, 4, 5, 6, 7, 8, 9, 10, 11, 12, 13, 14, 15]) C (c_X4_noRing l D cI cJ aM 0 pins_M many_M_3 nets_M_4 lefts_M_5 rights_M_6 touches_M_7 below_M_8 reach_M tracksOf_M steps_M laid_M laidMany_M tracks_M laidNet_M laidLeft_M laidRight_M laidTouch_M laidTrack_M ringSize_M ringOf_M lays_M refusals_M r_9 thrown_M_10 reach_M_11 steps_M_12 ringSize_M_13 ringOf_M_14 refusals_M_15 h1) cw_X4_noRing 0 rfl rfl m3_180 dX4_lay_25 rfl ⟨Nat.le_of_ble_eq_true rfl, Nat.le_of_ble_eq_true rfl⟩ (Nat.le_of_ble_eq_true rfl) ⟨Nat.le_refl 0, Nat.le_refl 0⟩ ⟨rfl, rfl, rfl, rfl, by decide, rfl, rfl⟩ ?_
    refine v_if_eq (tgt := 38) C dX4_lay_28 (by decide) h (fun h => ?_) (fun h => ?_)
    · refine v_iconst (v := 0) C dX4_lay_38 (by decide) ?_
      cases h
      exact hk _ _ dX4_lay_39
    · refine v_aload_n C 1 dX4_lay_31 rfl rfl ?_
      obtain ⟨r, h1, h⟩ := bind_el h
      obtain ⟨r_16, tracksOf_M_17, laid_M_18, laidMany_M_19, tracks_M_20, laidNet_M_21, laidLeft_M_22, laidRight_M_23, laidTouch_M_24, laidTrack_M_25, lays_M_26⟩ := r
      try dsimp only at h
      refine v_callVi (As := []) (st := []) (wr := []) (w1 := (wM cI cJ aM thrown_M_10 pins_M many_M_3 nets_M_4 lefts_M_5 rights_M_6 touches_M_7 below_M_8 reach_M_11 tracksOf_M_17 steps_M_12 laid_M_18 laidMany_M_19 tracks_M_20 laidNet_M_21 laidLeft_M_22 laidRight_M_23 laidTouch_M_24 laidTrack_M_25 ringSize_M_13 ringOf_M_14 lays_M_26 refusals_M_15)) (ws' := (wM cI cJ aM thrown_M_10 pins_M many_M_3 nets_M_4 lefts_M_5 rights_M_6 touches_M_7 below_M_8 reach_M_11 tracksOf_M_17 steps_M_12 laid_M_18 laidMany_M_19 tracks_M_20 laidNet_M_21 laidLeft_M_22 laidRight_M_23 laidTouch_M_24 laidTrack_M_25 ringSize_M_13 ringOf_M_14 lays_M_26 refusals_M_15)) (isC := [0, 1, 2, 3, 4, 5, 6, 7, 8, 9, 10, 11, 12, 13, 14, 15]) (isR := []) (pm := [0, 1, 2, 3, 4, 5, 6, 7, 8, 9, 10, 11, 12, 13, 14, 15]) C (c_X4_layNow l D cI cJ aM thrown_M_10 pins_M many_M_3 nets_M_4 lefts_M_5 rights_M_6 touches_M_7 below_M_8 reach_M_11 tracksOf_M steps_M_12 laid_M laidMany_M tracks_M laidNet_M laidLeft_M laidRight_M laidTouch_M laidTrack_M ringSize_M_13 ringOf_M_14 lays_M refusals_M_15 r_16 tracksOf_M_17 laid_M_18 laidMany_M_19 tracks_M_20 laidNet_M_21 laidLeft_M_22 laidRight_M_23 laidTouch_M_24 laidTrack_M_25 lays_M_26 h1) cw_X4_layNow 0 rfl rfl m3_199 dX4_lay_32 rfl ⟨Nat.le_of_ble_eq_true rfl, Nat.le_of_ble_eq_true rfl⟩ (Nat.le_of_ble_eq_true rfl) ⟨Nat.le_refl 0, Nat.le_refl 0⟩ ⟨rfl, rfl, rfl, rfl, by decide, rfl, rfl⟩ ?_
      refine v_goto (tgt := 39) C dX4_lay_35 (by decide) ?_
      cases h
      exact hk _ _ dX4_lay_39
  · refine v_aload_n C 0 dX4_lay_12 rfl rfl ?_
    refine v_iconst (v := 1) C dX4_lay_13 (by decide) ?_
    obtain ⟨r, h1, h⟩ := bind_el h
    obtain ⟨r_27, thrown_M_28⟩ := r
    try dsimp only at h
    refine v_callVi (As := [.int 1]) (st := []) (wr := []) (w1 := (wM cI cJ aM thrown_M_28 pins_M many_M nets_M lefts_M rights_M touches_M below_M reach_M tracksOf_M steps_M laid_M laidMany_M tracks_M laidNet_M laidLeft_M laidRight_M laidTouch_M laidTrack_M ringSize_M ringOf_M lays_M refusals_M)) (ws' := (wM cI cJ aM thrown_M_28 pins_M many_M nets_M lefts_M rights_M touches_M below_M reach_M tracksOf_M steps_M laid_M laidMany_M tracks_M laidNet_M laidLeft_M laidRight_M laidTouch_M laidTrack_M ringSize_M ringOf_M lays_M refusals_M)) (isC := [0, 1, 2, 3, 4, 5, 6, 7, 8, 9, 10, 11, 12, 13, 14, 15]) (isR := []) (pm := [0, 1, 2, 3, 4, 5, 6, 7, 8, 9, 10, 11, 12, 13, 14, 15]) C (c_X4_fail l D cI cJ aM 0 pins_M many_M nets_M lefts_M rights_M touches_M below_M reach_M tracksOf_M steps_M laid_M laidMany_M tracks_M laidNet_M laidLeft_M laidRight_M laidTouch_M laidTrack_M ringSize_M ringOf_M lays_M refusals_M 1 r_27 thrown_M_28 h1) cw_X4_fail 0 rfl rfl m3_160 dX4_lay_14 rfl ⟨Nat.le_of_ble_eq_true rfl, Nat.le_of_ble_eq_true rfl⟩ (Nat.le_of_ble_eq_true rfl) ⟨Nat.le_refl 0, Nat.le_refl 0⟩ ⟨rfl, rfl, rfl, rfl, by decide, rfl, rfl⟩ ?_
    cases h
    exact hk _ _ dX4_lay_17
def f_X4_layAny (pins_M : (Nat → Int32)) (many_M : Int32) (nets_M : (Nat → Int32)) (lefts_M : (Nat → Int32)) (rights_M : (Nat → Int32)) (touches_M : (Nat → Int32)) (below_M : (Nat → Int64)) (reach_M : (Nat → Int64)) (tracksOf_M : (Nat → Int32)) (steps_M : (Nat → Int32)) (laid_M : Int32) (laidMany_M : Int32) (tracks_M : Int32) (laidNet_M : (Nat → Int32)) (laidLeft_M : (Nat → Int32)) (laidRight_M : (Nat → Int32)) (laidTouch_M : (Nat → Int32)) (laidTrack_M : (Nat → Int32)) (ringSize_M : Int32) (ringOf_M : (Nat → Int32)) (lays_M : Int32) (refusals_M : Int32) : Option (Int32 × Int32 × Int32 × (Nat → Int32) × (Nat → Int32) × (Nat → Int32) × (Nat → Int32) × (Nat → Int64) × (Nat → Int64) × (Nat → Int32) × (Nat → Int32) × Int32 × Int32 × Int32 × (Nat → Int32) × (Nat → Int32) × (Nat → Int32) × (Nat → Int32) × (Nat → Int32) × Int32 × (Nat → Int32) × Int32 × Int32) := (f_X4_anySingle pins_M).bind (fun r => match r with | r_1 => if r_1 = 0 then ((f_X4_study pins_M nets_M lefts_M rights_M touches_M below_M 0).bind (fun r => match r with | (r_2, many_M_3, nets_M_4, lefts_M_5, rights_M_6, touches_M_7, below_M_8) => (f_X4_inRing many_M_3 below_M_8 reach_M).bind (fun r => match r with | (r_9, reach_M_10) => if (0 : Int32) ≤ r_9 then ((f_X4_study pins_M nets_M_4 lefts_M_5 rights_M_6 touches_M_7 below_M_8 1).bind (fun r => match r with | (r_11, many_M_12, nets_M_13, lefts_M_14, rights_M_15, touches_M_16, below_M_17) => (f_X4_noRing 0 many_M_12 below_M_17 reach_M_10 steps_M ringSize_M ringOf_M refusals_M).bind (fun r => match r with | (r_18, thrown_M_19, reach_M_20, steps_M_21, ringSize_M_22, ringOf_M_23, refusals_M_24) => if r_18 = 0 then (some (0, thrown_M_19, many_M_12, nets_M_13, lefts_M_14, rights_M_15, touches_M_16, below_M_17, reach_M_20, tracksOf_M, steps_M_21, laid_M, laidMany_M, tracks_M, laidNet_M, laidLeft_M, laidRight_M, laidTouch_M, laidTrack_M, ringSize_M_22, ringOf_M_23, lays_M, refusals_M_24)) else ((f_X4_layNow many_M_12 nets_M_13 lefts_M_14 rights_M_15 touches_M_16 below_M_17 tracksOf_M laidNet_M laidLeft_M laidRight_M laidTouch_M laidTrack_M lays_M).bind (fun r => match r with | (r_25, tracksOf_M_26, laid_M_27, laidMany_M_28, tracks_M_29, laidNet_M_30, laidLeft_M_31, laidRight_M_32, laidTouch_M_33, laidTrack_M_34, lays_M_35) => some (((1000 : Int32) + r_25, thrown_M_19, many_M_12, nets_M_13, lefts_M_14, rights_M_15, touches_M_16, below_M_17, reach_M_20, tracksOf_M_26, steps_M_21, laid_M_27, laidMany_M_28, tracks_M_29, laidNet_M_30, laidLeft_M_31, laidRight_M_32, laidTouch_M_33, laidTrack_M_34, ringSize_M_22, ringOf_M_23, lays_M_35, refusals_M_24))))))) else ((f_X4_layNow many_M_3 nets_M_4 lefts_M_5 rights_M_6 touches_M_7 below_M_8 tracksOf_M laidNet_M laidLeft_M laidRight_M laidTouch_M laidTrack_M lays_M).bind (fun r => match r with | (r_36, tracksOf_M_37, laid_M_38, laidMany_M_39, tracks_M_40, laidNet_M_41, laidLeft_M_42, laidRight_M_43, laidTouch_M_44, laidTrack_M_45, lays_M_46) => some (r_36, 0, many_M_3, nets_M_4, lefts_M_5, rights_M_6, touches_M_7, below_M_8, reach_M_10, tracksOf_M_37, steps_M, laid_M_38, laidMany_M_39, tracks_M_40, laidNet_M_41, laidLeft_M_42, laidRight_M_43, laidTouch_M_44, laidTrack_M_45, ringSize_M, ringOf_M, lays_M_46, refusals_M)))))) else ((f_X4_fail 1).bind (fun r => match r with | (r_47, thrown_M_48) => some (r_47, thrown_M_48, many_M, nets_M, lefts_M, rights_M, touches_M, below_M, reach_M, tracksOf_M, steps_M, laid_M, laidMany_M, tracks_M, laidNet_M, laidLeft_M, laidRight_M, laidTouch_M, laidTrack_M, ringSize_M, ringOf_M, lays_M, refusals_M))))
theorem cw_X4_layAny : CWv yX4_layAny cX4_layAny 2 (some .int) RX4 0 := ⟨m3_216, m3_217, m1_5, m3_218, rfl, by decide, by decide, by decide +kernel⟩
set_option maxHeartbeats 4000000 in
set_option maxRecDepth 100000 in
theorem c_X4_layAny (l : Launch) (D : va_G) (cI cJ : ClassId) (aM : Nat → Nat) (thrown_M : Int32) (pins_M : (Nat → Int32)) (many_M : Int32) (nets_M : (Nat → Int32)) (lefts_M : (Nat → Int32)) (rights_M : (Nat → Int32)) (touches_M : (Nat → Int32)) (below_M : (Nat → Int64)) (reach_M : (Nat → Int64)) (tracksOf_M : (Nat → Int32)) (steps_M : (Nat → Int32)) (laid_M : Int32) (laidMany_M : Int32) (tracks_M : Int32) (laidNet_M : (Nat → Int32)) (laidLeft_M : (Nat → Int32)) (laidRight_M : (Nat → Int32)) (laidTouch_M : (Nat → Int32)) (laidTrack_M : (Nat → Int32)) (ringSize_M : Int32) (ringOf_M : (Nat → Int32)) (lays_M : Int32) (refusals_M : Int32) (r : Int32) (thrown_M' : Int32) (many_M' : Int32) (nets_M' : (Nat → Int32)) (lefts_M' : (Nat → Int32)) (rights_M' : (Nat → Int32)) (touches_M' : (Nat → Int32)) (below_M' : (Nat → Int64)) (reach_M' : (Nat → Int64)) (tracksOf_M' : (Nat → Int32)) (steps_M' : (Nat → Int32)) (laid_M' : Int32) (laidMany_M' : Int32) (tracks_M' : Int32) (laidNet_M' : (Nat → Int32)) (laidLeft_M' : (Nat → Int32)) (laidRight_M' : (Nat → Int32)) (laidTouch_M' : (Nat → Int32)) (laidTrack_M' : (Nat → Int32)) (ringSize_M' : Int32) (ringOf_M' : (Nat → Int32)) (lays_M' : Int32) (refusals_M' : Int32) (h : f_X4_layAny pins_M many_M nets_M lefts_M rights_M touches_M below_M reach_M tracksOf_M steps_M laid_M laidMany_M tracks_M laidNet_M laidLeft_M laidRight_M laidTouch_M laidTrack_M ringSize_M ringOf_M lays_M refusals_M = some (r, thrown_M', many_M', nets_M', lefts_M', rights_M', touches_M', below_M', reach_M', tracksOf_M', steps_M', laid_M', laidMany_M', tracks_M', laidNet_M', laidLeft_M', laidRight_M', laidTouch_M', laidTrack_M', ringSize_M', ringOf_M', lays_M', refusals_M')) : Cti l D cI cJ yX4_layAny cX4_layAny 2 (some .int) 5 119 [.ref (aM 0)] (wM cI cJ aM thrown_M pins_M many_M nets_M lefts_M rights_M touches_M below_M reach_M tracksOf_M steps_M laid_M laidMany_M tracks_M laidNet_M laidLeft_M laidRight_M laidTouch_M laidTrack_M ringSize_M ringOf_M lays_M refusals_M) (wM cI cJ aM thrown_M' pins_M many_M' nets_M' lefts_M' rights_M' touches_M' below_M' reach_M' tracksOf_M' steps_M' laid_M' laidMany_M' tracks_M' laidNet_M' laidLeft_M' laidRight_M' laidTouch_M' laidTrack_M' ringSize_M' ringOf_M' lays_M' refusals_M') r := by
  refine mk_i [(0, .ref (aM 0))] (by decide) rfl (Nat.le_of_ble_eq_true rfl) rfl (fun p e s m args below meth c A Q C hk => ?_)
  unfold f_X4_layAny at h
  refine v_aload_n C 0 dX4_layAny_0 rfl rfl ?_
  refine v_iconst (v := 0) C dX4_layAny_1 (by decide) ?_
  refine v_put C (wM cI cJ aM 0 pins_M many_M nets_M lefts_M rights_M touches_M below_M reach_M tracksOf_M steps_M laid_M laidMany_M tracks_M laidNet_M laidLeft_M laidRight_M laidTouch_M laidTrack_M ringSize_M ringOf_M lays_M refusals_M) 0 0 iuX4 tyX4_ok nmX4 rfl rfl (by decide) m3_53 rfl rfl rfl rfl rfl (Nat.le_of_ble_eq_true rfl) dX4_layAny_2 rfl ?_
  refine v_aload_n C 0 dX4_layAny_5 rfl rfl ?_
  obtain ⟨r, h1, h⟩ := bind_el h
  obtain ⟨r_1, rfl⟩ : ∃ z, z = r := ⟨_, rfl⟩
  try dsimp only at h
  refine v_callVi (As := []) (st := []) (wr := []) (w1 := (wM cI cJ aM 0 pins_M many_M nets_M lefts_M rights_M touches_M below_M reach_M tracksOf_M steps_M laid_M laidMany_M tracks_M laidNet_M laidLeft_M laidRight_M laidTouch_M laidTrack_M ringSize_M ringOf_M lays_M refusals_M)) (ws' := (wM cI cJ aM 0 pins_M many_M nets_M lefts_M rights_M touches_M below_M reach_M tracksOf_M steps_M laid_M laidMany_M tracks_M laidNet_M laidLeft_M laidRight_M laidTouch_M laidTrack_M ringSize_M ringOf_M lays_M refusals_M)) (isC := [0, 1, 2, 3, 4, 5, 6, 7, 8, 9, 10, 11, 12, 13, 14, 15]) (isR := []) (pm := [0, 1, 2, 3, 4, 5, 6, 7, 8, 9, 10, 11, 12, 13, 14, 15]) C (c_X4_anySingle l D cI cJ aM 0 pins_M many_M nets_M lefts_M rights_M touches_M below_M reach_M tracksOf_M steps_M laid_M laidMany_M tracks_M laidNet_M laidLeft_M laidRight_M laidTouch_M laidTrack_M ringSize_M ringOf_M lays_M refusals_M r_1 h1) cw_X4_anySingle 0 rfl rfl m3_138 dX4_layAny_6 rfl ⟨Nat.le_of_ble_eq_true rfl, Nat.le_of_ble_eq_true rfl⟩ (Nat.le_of_ble_eq_true rfl) ⟨Nat.le_refl 0, Nat.le_refl 0⟩ ⟨rfl, rfl, rfl, rfl, by decide, rfl, rfl⟩ ?_
  refine v_if_eq (tgt := 18) C dX4_layAny_9 (by decide) h (fun h => ?_) (fun h => ?_)
  · refine v_aload_n C 0 dX4_layAny_18 rfl rfl ?_
    refine v_iconst (v := 0) C dX4_layAny_19 (by decide) ?_
    obtain ⟨r, h1, h⟩ := bind_el h
    obtain ⟨r_2, many_M_3, nets_M_4, lefts_M_5, rights_M_6, touches_M_7, below_M_8⟩ := r
    try dsimp only at h
    refine v_callVi (As := [.int 0]) (st := []) (wr := []) (w1 := (wM cI cJ aM 0 pins_M many_M_3 nets_M_4 lefts_M_5 rights_M_6 touches_M_7 below_M_8 reach_M tracksOf_M steps_M laid_M laidMany_M tracks_M laidNet_M laidLeft_M laidRight_M laidTouch_M laidTrack_M ringSize_M ringOf_M lays_M refusals_M)) (ws' := (wM cI cJ aM 0 pins_M many_M_3 nets_M_4 lefts_M_5 rights_M_6 touches_M_7 below_M_8 reach_M tracksOf_M steps_M laid_M laidMany_M tracks_M laidNet_M laidLeft_M laidRight_M laidTouch_M laidTrack_M ringSize_M ringOf_M lays_M refusals_M)) (isC := [0, 1, 2, 3, 4, 5, 6, 7, 8, 9, 10, 11, 12, 13, 14, 15]) (isR := []) (pm := [0, 1, 2, 3, 4, 5, 6, 7, 8, 9, 10, 11, 12, 13, 14, 15]) C (c_X4_study l D cI cJ aM 0 pins_M many_M nets_M lefts_M rights_M touches_M below_M reach_M tracksOf_M steps_M laid_M laidMany_M tracks_M laidNet_M laidLeft_M laidRight_M laidTouch_M laidTrack_M ringSize_M ringOf_M lays_M refusals_M 0 r_2 many_M_3 nets_M_4 lefts_M_5 rights_M_6 touches_M_7 below_M_8 h1) cw_X4_study 0 rfl rfl m3_164 dX4_layAny_20 rfl ⟨Nat.le_of_ble_eq_true rfl, Nat.le_of_ble_eq_true rfl⟩ (Nat.le_of_ble_eq_true rfl) ⟨Nat.le_refl 0, Nat.le_refl 0⟩ ⟨rfl, rfl, rfl, rfl, by decide, rfl, rfl⟩ ?_
    refine v_istore_n C [(1, .int r_2), (0, .ref (aM 0))] dX4_layAny_23 rfl (by decide) rfl ?_
    refine v_aload_n C 1 dX4_layAny_24 rfl rfl ?_
    obtain ⟨r, h1, h⟩ := bind_el h
    obtain ⟨r_9, reach_M_10⟩ := r
    try dsimp only at h
    refine v_callVi (As := []) (st := []) (wr := []) (w1 := (wM cI cJ aM 0 pins_M many_M_3 nets_M_4 lefts_M_5 rights_M_6 touches_M_7 below_M_8 reach_M_10 tracksOf_M steps_M laid_M laidMany_M tracks_M laidNet_M laidLeft_M laidRight_M laidTouch_M laidTrack_M ringSize_M ringOf_M lays_M refusals_M)) (ws' := (wM cI cJ aM 0 pins_M many_M_3 nets_M_4 lefts_M_5 rights_M_6 touches_M_7 below_M_8 reach_M_10 tracksOf_M steps_M laid_M laidMany_M tracks_M laidNet_M laidLeft_M laidRight_M laidTouch_M laidTrack_M ringSize_M ringOf_M lays_M refusals_M)) (isC := [0, 1, 2, 3, 4, 5, 6, 7, 8, 9, 10, 11, 12, 13, 14, 15]) (isR := []) (pm := [0, 1, 2, 3, 4, 5, 6, 7, 8, 9, 10, 11, 12, 13, 14, 15]) C (c_X4_inRing l D cI cJ aM 0 pins_M many_M_3 nets_M_4 lefts_M_5 rights_M_6 touches_M_7 below_M_8 reach_M tracksOf_M steps_M laid_M laidMany_M tracks_M laidNet_M laidLeft_M laidRight_M laidTouch_M laidTrack_M ringSize_M ringOf_M lays_M refusals_M r_9 reach_M_10 h1) cw_X4_inRing 0 rfl rfl m3_184 dX4_layAny_25 rfl ⟨Nat.le_of_ble_eq_true rfl, Nat.le_of_ble_eq_true rfl⟩ (Nat.le_of_ble_eq_true rfl) ⟨Nat.le_refl 0, Nat.le_refl 0⟩ ⟨rfl, rfl, rfl, rfl, by decide, rfl, rfl⟩ ?_
    refine v_if_ge (tgt := 36) C dX4_layAny_28 (by decide) h (fun h => ?_) (fun h => ?_)
    · refine v_aload_n C 1 dX4_layAny_36 rfl rfl ?_
      refine v_iconst (v := 1) C dX4_layAny_37 (by decide) ?_
      obtain ⟨r, h1, h⟩ := bind_el h
      obtain ⟨r_11, many_M_12, nets_M_13, lefts_M_14, rights_M_15, touches_M_16, below_M_17⟩ := r
      try dsimp only at h
      refine v_callVi (As := [.int 1]) (st := []) (wr := []) (w1 := (wM cI cJ aM 0 pins_M many_M_12 nets_M_13 lefts_M_14 rights_M_15 touches_M_16 below_M_17 reach_M_10 tracksOf_M steps_M laid_M laidMany_M tracks_M laidNet_M laidLeft_M laidRight_M laidTouch_M laidTrack_M ringSize_M ringOf_M lays_M refusals_M)) (ws' := (wM cI cJ aM 0 pins_M many_M_12 nets_M_13 lefts_M_14 rights_M_15 touches_M_16 below_M_17 reach_M_10 tracksOf_M steps_M laid_M laidMany_M tracks_M laidNet_M laidLeft_M laidRight_M laidTouch_M laidTrack_M ringSize_M ringOf_M lays_M refusals_M)) (isC := [0, 1, 2, 3, 4, 5, 6, 7, 8, 9, 10, 11, 12, 13, 14, 15]) (isR := []) (pm := [0, 1, 2, 3, 4, 5, 6, 7, 8, 9, 10, 11, 12, 13, 14, 15]) C (c_X4_study l D cI cJ aM 0 pins_M many_M_3 nets_M_4 lefts_M_5 rights_M_6 touches_M_7 below_M_8 reach_M_10 tracksOf_M steps_M laid_M laidMany_M tracks_M laidNet_M laidLeft_M laidRight_M laidTouch_M laidTrack_M ringSize_M ringOf_M lays_M refusals_M 1 r_11 many_M_12 nets_M_13 lefts_M_14 rights_M_15 touches_M_16 below_M_17 h1) cw_X4_study 0 rfl rfl m3_164 dX4_layAny_38 rfl ⟨Nat.le_of_ble_eq_true rfl, Nat.le_of_ble_eq_true rfl⟩ (Nat.le_of_ble_eq_true rfl) ⟨Nat.le_refl 0, Nat.le_refl 0⟩ ⟨rfl, rfl, rfl, rfl, by decide, rfl, rfl⟩ ?_
      refine v_istore_n C [(1, .int r_11), (0, .ref (aM 0))] dX4_layAny_41 rfl (by decide) rfl ?_
      refine v_aload_n C 1 dX4_layAny_42 rfl rfl ?_
      obtain ⟨r, h1, h⟩ := bind_el h
      obtain ⟨r_18, thrown_M_19, reach_M_20, steps_M_21, ringSize_M_22, ringOf_M_23, refusals_M_24⟩ := r
      try dsimp only at h
      refine v_callVi (As := []) (st := []) (wr := []) (w1 := (wM cI cJ aM thrown_M_19 pins_M many_M_12 nets_M_13 lefts_M_14 rights_M_15 touches_M_16 below_M_17 reach_M_20 tracksOf_M steps_M_21 laid_M laidMany_M tracks_M laidNet_M laidLeft_M laidRight_M laidTouch_M laidTrack_M ringSize_M_22 ringOf_M_23 lays_M refusals_M_24)) (ws' := (wM cI cJ aM thrown_M_19 pins_M many_M_12 nets_M_13 lefts_M_14 rights_M_15 touches_M_16 below_M_17 reach_M_20 tracksOf_M steps_M_21 laid_M laidMany_M tracks_M laidNet_M laidLeft_M laidRight_M laidTouch_M laidTrack_M ringSize_M_22 ringOf_M_23 lays_M refusals_M_24)) (isC := [0, 1, 2, 3, 4, 5, 6, 7, 8, 9, 10, 11, 12, 13, 14, 15]) (isR := []) (pm := [0, 1, 2, 3, 4, 5, 6, 7, 8, 9, 10, 11, 12, 13, 14, 15]) C (c_X4_noRing l D cI cJ aM 0 pins_M many_M_12 nets_M_13 lefts_M_14 rights_M_15 touches_M_16 below_M_17 reach_M_10 tracksOf_M steps_M laid_M laidMany_M tracks_M laidNet_M laidLeft_M laidRight_M laidTouch_M laidTrack_M ringSize_M ringOf_M lays_M refusals_M r_18 thrown_M_19 reach_M_20 steps_M_21 ringSize_M_22 ringOf_M_23 refusals_M_24 h1) cw_X4_noRing 0 rfl rfl m3_180 dX4_layAny_43 rfl ⟨Nat.le_of_ble_eq_true rfl, Nat.le_of_ble_eq_true rfl⟩ (Nat.le_of_ble_eq_true rfl) ⟨Nat.le_refl 0, Nat.le_refl 0⟩ ⟨rfl, rfl, rfl, rfl, by decide, rfl, rfl⟩ ?_
      refine v_if_eq (tgt := 60) C dX4_layAny_46 (by decide) h (fun h => ?_) (fun h => ?_)
      · refine v_iconst (v := 0) C dX4_layAny_60 (by decide) ?_
        cases h
        exact hk _ _ dX4_layAny_61
      · refine v_sipush (v := 1000) C dX4_layAny_49 (by decide) ?_
        refine v_aload_n C 1 dX4_layAny_52 rfl rfl ?_
        obtain ⟨r, h1, h⟩ := bind_el h
        obtain ⟨r_25, tracksOf_M_26, laid_M_27, laidMany_M_28, tracks_M_29, laidNet_M_30, laidLeft_M_31, laidRight_M_32, laidTouch_M_33, laidTrack_M_34, lays_M_35⟩ := r
        try dsimp only at h
        refine v_callVi (As := []) (st := [.int 1000]) (wr := []) (w1 := (wM cI cJ aM thrown_M_19 pins_M many_M_12 nets_M_13 lefts_M_14 rights_M_15 touches_M_16 below_M_17 reach_M_20 tracksOf_M_26 steps_M_21 laid_M_27 laidMany_M_28 tracks_M_29 laidNet_M_30 laidLeft_M_31 laidRight_M_32 laidTouch_M_33 laidTrack_M_34 ringSize_M_22 ringOf_M_23 lays_M_35 refusals_M_24)) (ws' := (wM cI cJ aM thrown_M_19 pins_M many_M_12 nets_M_13 lefts_M_14 rights_M_15 touches_M_16 below_M_17 reach_M_20 tracksOf_M_26 steps_M_21 laid_M_27 laidMany_M_28 tracks_M_29 laidNet_M_30 laidLeft_M_31 laidRight_M_32 laidTouch_M_33 laidTrack_M_34 ringSize_M_22 ringOf_M_23 lays_M_35 refusals_M_24)) (isC := [0, 1, 2, 3, 4, 5, 6, 7, 8, 9, 10, 11, 12, 13, 14, 15]) (isR := []) (pm := [0, 1, 2, 3, 4, 5, 6, 7, 8, 9, 10, 11, 12, 13, 14, 15]) C (c_X4_layNow l D cI cJ aM thrown_M_19 pins_M many_M_12 nets_M_13 lefts_M_14 rights_M_15 touches_M_16 below_M_17 reach_M_20 tracksOf_M steps_M_21 laid_M laidMany_M tracks_M laidNet_M laidLeft_M laidRight_M laidTouch_M laidTrack_M ringSize_M_22 ringOf_M_23 lays_M refusals_M_24 r_25 tracksOf_M_26 laid_M_27 laidMany_M_28 tracks_M_29 laidNet_M_30 laidLeft_M_31 laidRight_M_32 laidTouch_M_33 laidTrack_M_34 lays_M_35 h1) cw_X4_layNow 0 rfl rfl m3_199 dX4_layAny_53 rfl ⟨Nat.le_of_ble_eq_true rfl, Nat.le_of_ble_eq_true rfl⟩ (Nat.le_of_ble_eq_true rfl) ⟨Nat.le_refl 0, Nat.le_refl 0⟩ ⟨rfl, rfl, rfl, rfl, by decide, rfl, rfl⟩ ?_
        refine v_iadd C dX4_layAny_56 ?_
        refine v_goto (tgt := 61) C dX4_layAny_57 (by decide) ?_
        cases h
        exact hk _ _ dX4_layAny_61
    · refine v_aload_n C 1 dX4_layAny_31 rfl rfl ?_
      obtain ⟨r, h1, h⟩ := bind_el h
      obtain ⟨r_36, tracksOf_M_37, laid_M_38, laidMany_M_39, tracks_M_40, laidNet_M_41, laidLeft_M_42, laidRight_M_43, laidTouch_M_44, laidTrack_M_45, lays_M_46⟩ := r
      try dsimp only at h
      refine v_callVi (As := []) (st := []) (wr := []) (w1 := (wM cI cJ aM 0 pins_M many_M_3 nets_M_4 lefts_M_5 rights_M_6 touches_M_7 below_M_8 reach_M_10 tracksOf_M_37 steps_M laid_M_38 laidMany_M_39 tracks_M_40 laidNet_M_41 laidLeft_M_42 laidRight_M_43 laidTouch_M_44 laidTrack_M_45 ringSize_M ringOf_M lays_M_46 refusals_M)) (ws' := (wM cI cJ aM 0 pins_M many_M_3 nets_M_4 lefts_M_5 rights_M_6 touches_M_7 below_M_8 reach_M_10 tracksOf_M_37 steps_M laid_M_38 laidMany_M_39 tracks_M_40 laidNet_M_41 laidLeft_M_42 laidRight_M_43 laidTouch_M_44 laidTrack_M_45 ringSize_M ringOf_M lays_M_46 refusals_M)) (isC := [0, 1, 2, 3, 4, 5, 6, 7, 8, 9, 10, 11, 12, 13, 14, 15]) (isR := []) (pm := [0, 1, 2, 3, 4, 5, 6, 7, 8, 9, 10, 11, 12, 13, 14, 15]) C (c_X4_layNow l D cI cJ aM 0 pins_M many_M_3 nets_M_4 lefts_M_5 rights_M_6 touches_M_7 below_M_8 reach_M_10 tracksOf_M steps_M laid_M laidMany_M tracks_M laidNet_M laidLeft_M laidRight_M laidTouch_M laidTrack_M ringSize_M ringOf_M lays_M refusals_M r_36 tracksOf_M_37 laid_M_38 laidMany_M_39 tracks_M_40 laidNet_M_41 laidLeft_M_42 laidRight_M_43 laidTouch_M_44 laidTrack_M_45 lays_M_46 h1) cw_X4_layNow 0 rfl rfl m3_199 dX4_layAny_32 rfl ⟨Nat.le_of_ble_eq_true rfl, Nat.le_of_ble_eq_true rfl⟩ (Nat.le_of_ble_eq_true rfl) ⟨Nat.le_refl 0, Nat.le_refl 0⟩ ⟨rfl, rfl, rfl, rfl, by decide, rfl, rfl⟩ ?_
      cases h
      exact hk _ _ dX4_layAny_35
  · refine v_aload_n C 0 dX4_layAny_12 rfl rfl ?_
    refine v_iconst (v := 1) C dX4_layAny_13 (by decide) ?_
    obtain ⟨r, h1, h⟩ := bind_el h
    obtain ⟨r_47, thrown_M_48⟩ := r
    try dsimp only at h
    refine v_callVi (As := [.int 1]) (st := []) (wr := []) (w1 := (wM cI cJ aM thrown_M_48 pins_M many_M nets_M lefts_M rights_M touches_M below_M reach_M tracksOf_M steps_M laid_M laidMany_M tracks_M laidNet_M laidLeft_M laidRight_M laidTouch_M laidTrack_M ringSize_M ringOf_M lays_M refusals_M)) (ws' := (wM cI cJ aM thrown_M_48 pins_M many_M nets_M lefts_M rights_M touches_M below_M reach_M tracksOf_M steps_M laid_M laidMany_M tracks_M laidNet_M laidLeft_M laidRight_M laidTouch_M laidTrack_M ringSize_M ringOf_M lays_M refusals_M)) (isC := [0, 1, 2, 3, 4, 5, 6, 7, 8, 9, 10, 11, 12, 13, 14, 15]) (isR := []) (pm := [0, 1, 2, 3, 4, 5, 6, 7, 8, 9, 10, 11, 12, 13, 14, 15]) C (c_X4_fail l D cI cJ aM 0 pins_M many_M nets_M lefts_M rights_M touches_M below_M reach_M tracksOf_M steps_M laid_M laidMany_M tracks_M laidNet_M laidLeft_M laidRight_M laidTouch_M laidTrack_M ringSize_M ringOf_M lays_M refusals_M 1 r_47 thrown_M_48 h1) cw_X4_fail 0 rfl rfl m3_160 dX4_layAny_14 rfl ⟨Nat.le_of_ble_eq_true rfl, Nat.le_of_ble_eq_true rfl⟩ (Nat.le_of_ble_eq_true rfl) ⟨Nat.le_refl 0, Nat.le_refl 0⟩ ⟨rfl, rfl, rfl, rfl, by decide, rfl, rfl⟩ ?_
    cases h
    exact hk _ _ dX4_layAny_17
def f_X4_ring (ringSize_M : Int32) (ringOf_M : (Nat → Int32)) (x1 : Int32) : Option (Int32 × Int32) := (f_X4_in x1 0 (ringSize_M - 1)).bind (fun r => match r with | r_1 => if r_1 = 0 then (some (((-1), 0))) else (bnd x1 40 (some (ringOf_M x1.toNatClampNeg, 0))))
theorem cw_X4_ring : CWv yX4_ring cX4_ring 2 (some .int) RX4 1 := ⟨m3_220, m3_221, m1_5, m3_222, rfl, by decide, by decide, by decide +kernel⟩
set_option maxHeartbeats 4000000 in
set_option maxRecDepth 100000 in
theorem c_X4_ring (l : Launch) (D : va_G) (cI cJ : ClassId) (aM : Nat → Nat) (thrown_M : Int32) (pins_M : (Nat → Int32)) (many_M : Int32) (nets_M : (Nat → Int32)) (lefts_M : (Nat → Int32)) (rights_M : (Nat → Int32)) (touches_M : (Nat → Int32)) (below_M : (Nat → Int64)) (reach_M : (Nat → Int64)) (tracksOf_M : (Nat → Int32)) (steps_M : (Nat → Int32)) (laid_M : Int32) (laidMany_M : Int32) (tracks_M : Int32) (laidNet_M : (Nat → Int32)) (laidLeft_M : (Nat → Int32)) (laidRight_M : (Nat → Int32)) (laidTouch_M : (Nat → Int32)) (laidTrack_M : (Nat → Int32)) (ringSize_M : Int32) (ringOf_M : (Nat → Int32)) (lays_M : Int32) (refusals_M : Int32) (x1 : Int32) (r : Int32) (thrown_M' : Int32) (h : f_X4_ring ringSize_M ringOf_M x1 = some (r, thrown_M')) : Cti l D cI cJ yX4_ring cX4_ring 2 (some .int) 1 22 [.ref (aM 0), .int x1] (wM cI cJ aM thrown_M pins_M many_M nets_M lefts_M rights_M touches_M below_M reach_M tracksOf_M steps_M laid_M laidMany_M tracks_M laidNet_M laidLeft_M laidRight_M laidTouch_M laidTrack_M ringSize_M ringOf_M lays_M refusals_M) (wM cI cJ aM thrown_M' pins_M many_M nets_M lefts_M rights_M touches_M below_M reach_M tracksOf_M steps_M laid_M laidMany_M tracks_M laidNet_M laidLeft_M laidRight_M laidTouch_M laidTrack_M ringSize_M ringOf_M lays_M refusals_M) r := by
  refine mk_i [(0, .ref (aM 0)), (1, .int x1)] (by decide) rfl (Nat.le_of_ble_eq_true rfl) rfl (fun p e s m args below meth c A Q C hk => ?_)
  unfold f_X4_ring at h
  refine v_aload_n C 0 dX4_ring_0 rfl rfl ?_
  refine v_iconst (v := 0) C dX4_ring_1 (by decide) ?_
  refine v_put C (wM cI cJ aM 0 pins_M many_M nets_M lefts_M rights_M touches_M below_M reach_M tracksOf_M steps_M laid_M laidMany_M tracks_M laidNet_M laidLeft_M laidRight_M laidTouch_M laidTrack_M ringSize_M ringOf_M lays_M refusals_M) 0 0 iuX4 tyX4_ok nmX4 rfl rfl (by decide) m3_53 rfl rfl rfl rfl rfl (Nat.le_of_ble_eq_true rfl) dX4_ring_2 rfl ?_
  refine v_iload_n C 1 dX4_ring_5 rfl rfl ?_
  refine v_iconst (v := 0) C dX4_ring_6 (by decide) ?_
  refine v_aload_n C 0 dX4_ring_7 rfl rfl ?_
  refine v_get C 0 19 iuX4 rfl rfl (by decide) m3_72 rfl rfl dX4_ring_8 ?_
  refine v_iconst (v := 1) C dX4_ring_11 (by decide) ?_
  refine v_isub C dX4_ring_12 ?_
  obtain ⟨r, h1, h⟩ := bind_el h
  obtain ⟨r_1, rfl⟩ : ∃ z, z = r := ⟨_, rfl⟩
  try dsimp only at h
  refine v_callSi (As := [.int x1, .int 0, .int (ringSize_M - 1)]) (st := []) (wr := [(aM 0, .inr (4, [.int 0, .ref (aM 1), .int many_M, .ref (aM 2), .ref (aM 3), .ref (aM 4), .ref (aM 5), .ref (aM 6), .ref (aM 7), .ref (aM 8), .ref (aM 9), .int laid_M, .int laidMany_M, .int tracks_M, .ref (aM 10), .ref (aM 11), .ref (aM 12), .ref (aM 13), .ref (aM 14), .int ringSize_M, .ref (aM 15), .int lays_M, .int refusals_M])), (aM 1, .inl (cI, 40, .inl pins_M)), (aM 2, .inl (cI, 40, .inl nets_M)), (aM 3, .inl (cI, 40, .inl lefts_M)), (aM 4, .inl (cI, 40, .inl rights_M)), (aM 5, .inl (cI, 40, .inl touches_M)), (aM 6, .inl (cJ, 40, .inr (.inl below_M))), (aM 7, .inl (cJ, 40, .inr (.inl reach_M))), (aM 8, .inl (cI, 40, .inl tracksOf_M)), (aM 9, .inl (cI, 40, .inl steps_M)), (aM 10, .inl (cI, 40, .inl laidNet_M)), (aM 11, .inl (cI, 40, .inl laidLeft_M)), (aM 12, .inl (cI, 40, .inl laidRight_M)), (aM 13, .inl (cI, 40, .inl laidTouch_M)), (aM 14, .inl (cI, 40, .inl laidTrack_M)), (aM 15, .inl (cI, 40, .inl ringOf_M))]) (w1 := []) (ws' := (wM cI cJ aM 0 pins_M many_M nets_M lefts_M rights_M touches_M below_M reach_M tracksOf_M steps_M laid_M laidMany_M tracks_M laidNet_M laidLeft_M laidRight_M laidTouch_M laidTrack_M ringSize_M ringOf_M lays_M refusals_M)) (isC := []) (isR := [0, 1, 2, 3, 4, 5, 6, 7, 8, 9, 10, 11, 12, 13, 14, 15]) (pm := [0, 1, 2, 3, 4, 5, 6, 7, 8, 9, 10, 11, 12, 13, 14, 15]) C (c_X4_in l D cI cJ x1 0 (ringSize_M - 1) r_1 h1) cw_X4_in m3_131 dX4_ring_13 rfl ⟨Nat.le_of_ble_eq_true rfl, Nat.le_of_ble_eq_true rfl⟩ (Nat.le_of_ble_eq_true rfl) ⟨Nat.le_refl 0, Nat.le_refl 0⟩ ⟨rfl, rfl, rfl, rfl, by decide, rfl, rfl⟩ ?_
  refine v_if_eq (tgt := 28) C dX4_ring_16 (by decide) h (fun h => ?_) (fun h => ?_)
  · refine v_iconst (v := (-1)) C dX4_ring_28 (by decide) ?_
    cases h
    exact hk _ _ dX4_ring_29
  · refine v_aload_n C 0 dX4_ring_19 rfl rfl ?_
    refine v_get C 0 20 iuX4 rfl rfl (by decide) m3_73 rfl rfl dX4_ring_20 ?_
    refine v_iload_n C 1 dX4_ring_23 rfl rfl ?_
    refine v_iald C 15 rfl dX4_ring_24 h (fun h => ?_)
    refine v_goto (tgt := 29) C dX4_ring_25 (by decide) ?_
    cases h
    exact hk _ _ dX4_ring_29
def f_X4_segment (laidMany_M : Int32) (laidNet_M : (Nat → Int32)) (laidLeft_M : (Nat → Int32)) (laidRight_M : (Nat → Int32)) (laidTrack_M : (Nat → Int32)) (x1 : Int32) (x2 : Int32) : Option (Int32 × Int32) := (f_X4_in x1 0 (laidMany_M - 1)).bind (fun r => match r with | r_1 => if r_1 = 0 then (if (1 : Int32) ≤ 0 then (if x2 = 0 then (bnd x1 40 (some (laidNet_M x1.toNatClampNeg, 1))) else (if x2 = 1 then (bnd x1 40 (some (laidLeft_M x1.toNatClampNeg, 1))) else (if x2 = 2 then (bnd x1 40 (some (laidRight_M x1.toNatClampNeg, 1))) else (bnd x1 40 (some (laidTrack_M x1.toNatClampNeg, 1)))))) else (some (0, 1))) else ((f_X4_in x2 0 3).bind (fun r => match r with | r_2 => if r_2 = 0 then (if (1 : Int32) ≤ 0 then (if x2 = 0 then (bnd x1 40 (some (laidNet_M x1.toNatClampNeg, 1))) else (if x2 = 1 then (bnd x1 40 (some (laidLeft_M x1.toNatClampNeg, 1))) else (if x2 = 2 then (bnd x1 40 (some (laidRight_M x1.toNatClampNeg, 1))) else (bnd x1 40 (some (laidTrack_M x1.toNatClampNeg, 1)))))) else (some (0, 1))) else (if (0 : Int32) ≤ 0 then (if x2 = 0 then (bnd x1 40 (some (laidNet_M x1.toNatClampNeg, 0))) else (if x2 = 1 then (bnd x1 40 (some (laidLeft_M x1.toNatClampNeg, 0))) else (if x2 = 2 then (bnd x1 40 (some (laidRight_M x1.toNatClampNeg, 0))) else (bnd x1 40 (some (laidTrack_M x1.toNatClampNeg, 0)))))) else (some (0, 0))))))
theorem cw_X4_segment : CWv yX4_segment cX4_segment 3 (some .int) RX4 2 := ⟨m3_224, m3_225, m1_5, m3_226, rfl, by decide, by decide, by decide +kernel⟩
set_option maxHeartbeats 4000000 in
set_option maxRecDepth 100000 in
theorem c_X4_segment (l : Launch) (D : va_G) (cI cJ : ClassId) (aM : Nat → Nat) (thrown_M : Int32) (pins_M : (Nat → Int32)) (many_M : Int32) (nets_M : (Nat → Int32)) (lefts_M : (Nat → Int32)) (rights_M : (Nat → Int32)) (touches_M : (Nat → Int32)) (below_M : (Nat → Int64)) (reach_M : (Nat → Int64)) (tracksOf_M : (Nat → Int32)) (steps_M : (Nat → Int32)) (laid_M : Int32) (laidMany_M : Int32) (tracks_M : Int32) (laidNet_M : (Nat → Int32)) (laidLeft_M : (Nat → Int32)) (laidRight_M : (Nat → Int32)) (laidTouch_M : (Nat → Int32)) (laidTrack_M : (Nat → Int32)) (ringSize_M : Int32) (ringOf_M : (Nat → Int32)) (lays_M : Int32) (refusals_M : Int32) (x1 : Int32) (x2 : Int32) (r : Int32) (thrown_M' : Int32) (h : f_X4_segment laidMany_M laidNet_M laidLeft_M laidRight_M laidTrack_M x1 x2 = some (r, thrown_M')) : Cti l D cI cJ yX4_segment cX4_segment 3 (some .int) 1 22 [.ref (aM 0), .int x1, .int x2] (wM cI cJ aM thrown_M pins_M many_M nets_M lefts_M rights_M touches_M below_M reach_M tracksOf_M steps_M laid_M laidMany_M tracks_M laidNet_M laidLeft_M laidRight_M laidTouch_M laidTrack_M ringSize_M ringOf_M lays_M refusals_M) (wM cI cJ aM thrown_M' pins_M many_M nets_M lefts_M rights_M touches_M below_M reach_M tracksOf_M steps_M laid_M laidMany_M tracks_M laidNet_M laidLeft_M laidRight_M laidTouch_M laidTrack_M ringSize_M ringOf_M lays_M refusals_M) r := by
  refine mk_i [(0, .ref (aM 0)), (1, .int x1), (2, .int x2)] (by decide) rfl (Nat.le_of_ble_eq_true rfl) rfl (fun p e s m args below meth c A Q C hk => ?_)
  unfold f_X4_segment at h
  refine v_aload_n C 0 dX4_segment_0 rfl rfl ?_
  refine v_iload_n C 1 dX4_segment_1 rfl rfl ?_
  refine v_iconst (v := 0) C dX4_segment_2 (by decide) ?_
  refine v_aload_n C 0 dX4_segment_3 rfl rfl ?_
  refine v_get C 0 12 iuX4 rfl rfl (by decide) m3_65 rfl rfl dX4_segment_4 ?_
  refine v_iconst (v := 1) C dX4_segment_7 (by decide) ?_
  refine v_isub C dX4_segment_8 ?_
  obtain ⟨r, h1, h⟩ := bind_el h
  obtain ⟨r_1, rfl⟩ : ∃ z, z = r := ⟨_, rfl⟩
  try dsimp only at h
  refine v_callSi (As := [.int x1, .int 0, .int (laidMany_M - 1)]) (st := [.ref (aM 0)]) (wr := [(aM 0, .inr (4, [.int thrown_M, .ref (aM 1), .int many_M, .ref (aM 2), .ref (aM 3), .ref (aM 4), .ref (aM 5), .ref (aM 6), .ref (aM 7), .ref (aM 8), .ref (aM 9), .int laid_M, .int laidMany_M, .int tracks_M, .ref (aM 10), .ref (aM 11), .ref (aM 12), .ref (aM 13), .ref (aM 14), .int ringSize_M, .ref (aM 15), .int lays_M, .int refusals_M])), (aM 1, .inl (cI, 40, .inl pins_M)), (aM 2, .inl (cI, 40, .inl nets_M)), (aM 3, .inl (cI, 40, .inl lefts_M)), (aM 4, .inl (cI, 40, .inl rights_M)), (aM 5, .inl (cI, 40, .inl touches_M)), (aM 6, .inl (cJ, 40, .inr (.inl below_M))), (aM 7, .inl (cJ, 40, .inr (.inl reach_M))), (aM 8, .inl (cI, 40, .inl tracksOf_M)), (aM 9, .inl (cI, 40, .inl steps_M)), (aM 10, .inl (cI, 40, .inl laidNet_M)), (aM 11, .inl (cI, 40, .inl laidLeft_M)), (aM 12, .inl (cI, 40, .inl laidRight_M)), (aM 13, .inl (cI, 40, .inl laidTouch_M)), (aM 14, .inl (cI, 40, .inl laidTrack_M)), (aM 15, .inl (cI, 40, .inl ringOf_M))]) (w1 := []) (ws' := (wM cI cJ aM thrown_M pins_M many_M nets_M lefts_M rights_M touches_M below_M reach_M tracksOf_M steps_M laid_M laidMany_M tracks_M laidNet_M laidLeft_M laidRight_M laidTouch_M laidTrack_M ringSize_M ringOf_M lays_M refusals_M)) (isC := []) (isR := [0, 1, 2, 3, 4, 5, 6, 7, 8, 9, 10, 11, 12, 13, 14, 15]) (pm := [0, 1, 2, 3, 4, 5, 6, 7, 8, 9, 10, 11, 12, 13, 14, 15]) C (c_X4_in l D cI cJ x1 0 (laidMany_M - 1) r_1 h1) cw_X4_in m3_131 dX4_segment_9 rfl ⟨Nat.le_of_ble_eq_true rfl, Nat.le_of_ble_eq_true rfl⟩ (Nat.le_of_ble_eq_true rfl) ⟨Nat.le_refl 0, Nat.le_refl 0⟩ ⟨rfl, rfl, rfl, rfl, by decide, rfl, rfl⟩ ?_
  refine v_if_eq (tgt := 28) C dX4_segment_12 (by decide) h (fun h => ?_) (fun h => ?_)
  · refine v_iconst (v := 1) C dX4_segment_28 (by decide) ?_
    refine v_put C (wM cI cJ aM 1 pins_M many_M nets_M lefts_M rights_M touches_M below_M reach_M tracksOf_M steps_M laid_M laidMany_M tracks_M laidNet_M laidLeft_M laidRight_M laidTouch_M laidTrack_M ringSize_M ringOf_M lays_M refusals_M) 0 0 iuX4 tyX4_ok nmX4 rfl rfl (by decide) m3_53 rfl rfl rfl rfl rfl (Nat.le_of_ble_eq_true rfl) dX4_segment_29 rfl ?_
    refine v_aload_n C 0 dX4_segment_32 rfl rfl ?_
    refine v_get C 0 0 iuX4 rfl rfl (by decide) m3_53 rfl rfl dX4_segment_33 ?_
    refine v_if_le (tgt := 41) C dX4_segment_36 (by decide) h (fun h => ?_) (fun h => ?_)
    · refine v_iload_n C 2 dX4_segment_41 rfl rfl ?_
      refine v_if_ne (tgt := 54) C dX4_segment_42 (by decide) h (fun h => ?_) (fun h => ?_)
      · refine v_aload_n C 0 dX4_segment_45 rfl rfl ?_
        refine v_get C 0 14 iuX4 rfl rfl (by decide) m3_67 rfl rfl dX4_segment_46 ?_
        refine v_iload_n C 1 dX4_segment_49 rfl rfl ?_
        refine v_iald C 10 rfl dX4_segment_50 h (fun h => ?_)
        refine v_goto (tgt := 88) C dX4_segment_51 (by decide) ?_
        cases h
        exact hk _ _ dX4_segment_88
      · refine v_iload_n C 2 dX4_segment_54 rfl rfl ?_
        refine v_iconst (v := 1) C dX4_segment_55 (by decide) ?_
        refine v_icmp_ne (tgt := 68) C dX4_segment_56 (by decide) h (fun h => ?_) (fun h => ?_)
        · refine v_aload_n C 0 dX4_segment_59 rfl rfl ?_
          refine v_get C 0 15 iuX4 rfl rfl (by decide) m3_68 rfl rfl dX4_segment_60 ?_
          refine v_iload_n C 1 dX4_segment_63 rfl rfl ?_
          refine v_iald C 11 rfl dX4_segment_64 h (fun h => ?_)
          refine v_goto (tgt := 88) C dX4_segment_65 (by decide) ?_
          cases h
          exact hk _ _ dX4_segment_88
        · refine v_iload_n C 2 dX4_segment_68 rfl rfl ?_
          refine v_iconst (v := 2) C dX4_segment_69 (by decide) ?_
          refine v_icmp_ne (tgt := 82) C dX4_segment_70 (by decide) h (fun h => ?_) (fun h => ?_)
          · refine v_aload_n C 0 dX4_segment_73 rfl rfl ?_
            refine v_get C 0 16 iuX4 rfl rfl (by decide) m3_69 rfl rfl dX4_segment_74 ?_
            refine v_iload_n C 1 dX4_segment_77 rfl rfl ?_
            refine v_iald C 12 rfl dX4_segment_78 h (fun h => ?_)
            refine v_goto (tgt := 88) C dX4_segment_79 (by decide) ?_
            cases h
            exact hk _ _ dX4_segment_88
          · refine v_aload_n C 0 dX4_segment_82 rfl rfl ?_
            refine v_get C 0 18 iuX4 rfl rfl (by decide) m3_71 rfl rfl dX4_segment_83 ?_
            refine v_iload_n C 1 dX4_segment_86 rfl rfl ?_
            refine v_iald C 14 rfl dX4_segment_87 h (fun h => ?_)
            cases h
            exact hk _ _ dX4_segment_88
    · refine v_iconst (v := 0) C dX4_segment_39 (by decide) ?_
      cases h
      exact hk _ _ dX4_segment_40
  · refine v_iload_n C 2 dX4_segment_15 rfl rfl ?_
    refine v_iconst (v := 0) C dX4_segment_16 (by decide) ?_
    refine v_iconst (v := 3) C dX4_segment_17 (by decide) ?_
    obtain ⟨r, h1, h⟩ := bind_el h
    obtain ⟨r_2, rfl⟩ : ∃ z, z = r := ⟨_, rfl⟩
    try dsimp only at h
    refine v_callSi (As := [.int x2, .int 0, .int 3]) (st := [.ref (aM 0)]) (wr := [(aM 0, .inr (4, [.int thrown_M, .ref (aM 1), .int many_M, .ref (aM 2), .ref (aM 3), .ref (aM 4), .ref (aM 5), .ref (aM 6), .ref (aM 7), .ref (aM 8), .ref (aM 9), .int laid_M, .int laidMany_M, .int tracks_M, .ref (aM 10), .ref (aM 11), .ref (aM 12), .ref (aM 13), .ref (aM 14), .int ringSize_M, .ref (aM 15), .int lays_M, .int refusals_M])), (aM 1, .inl (cI, 40, .inl pins_M)), (aM 2, .inl (cI, 40, .inl nets_M)), (aM 3, .inl (cI, 40, .inl lefts_M)), (aM 4, .inl (cI, 40, .inl rights_M)), (aM 5, .inl (cI, 40, .inl touches_M)), (aM 6, .inl (cJ, 40, .inr (.inl below_M))), (aM 7, .inl (cJ, 40, .inr (.inl reach_M))), (aM 8, .inl (cI, 40, .inl tracksOf_M)), (aM 9, .inl (cI, 40, .inl steps_M)), (aM 10, .inl (cI, 40, .inl laidNet_M)), (aM 11, .inl (cI, 40, .inl laidLeft_M)), (aM 12, .inl (cI, 40, .inl laidRight_M)), (aM 13, .inl (cI, 40, .inl laidTouch_M)), (aM 14, .inl (cI, 40, .inl laidTrack_M)), (aM 15, .inl (cI, 40, .inl ringOf_M))]) (w1 := []) (ws' := (wM cI cJ aM thrown_M pins_M many_M nets_M lefts_M rights_M touches_M below_M reach_M tracksOf_M steps_M laid_M laidMany_M tracks_M laidNet_M laidLeft_M laidRight_M laidTouch_M laidTrack_M ringSize_M ringOf_M lays_M refusals_M)) (isC := []) (isR := [0, 1, 2, 3, 4, 5, 6, 7, 8, 9, 10, 11, 12, 13, 14, 15]) (pm := [0, 1, 2, 3, 4, 5, 6, 7, 8, 9, 10, 11, 12, 13, 14, 15]) C (c_X4_in l D cI cJ x2 0 3 r_2 h1) cw_X4_in m3_131 dX4_segment_18 rfl ⟨Nat.le_of_ble_eq_true rfl, Nat.le_of_ble_eq_true rfl⟩ (Nat.le_of_ble_eq_true rfl) ⟨Nat.le_refl 0, Nat.le_refl 0⟩ ⟨rfl, rfl, rfl, rfl, by decide, rfl, rfl⟩ ?_
    refine v_if_eq (tgt := 28) C dX4_segment_21 (by decide) h (fun h => ?_) (fun h => ?_)
    · refine v_iconst (v := 1) C dX4_segment_28 (by decide) ?_
      refine v_put C (wM cI cJ aM 1 pins_M many_M nets_M lefts_M rights_M touches_M below_M reach_M tracksOf_M steps_M laid_M laidMany_M tracks_M laidNet_M laidLeft_M laidRight_M laidTouch_M laidTrack_M ringSize_M ringOf_M lays_M refusals_M) 0 0 iuX4 tyX4_ok nmX4 rfl rfl (by decide) m3_53 rfl rfl rfl rfl rfl (Nat.le_of_ble_eq_true rfl) dX4_segment_29 rfl ?_
      refine v_aload_n C 0 dX4_segment_32 rfl rfl ?_
      refine v_get C 0 0 iuX4 rfl rfl (by decide) m3_53 rfl rfl dX4_segment_33 ?_
      refine v_if_le (tgt := 41) C dX4_segment_36 (by decide) h (fun h => ?_) (fun h => ?_)
      · refine v_iload_n C 2 dX4_segment_41 rfl rfl ?_
        refine v_if_ne (tgt := 54) C dX4_segment_42 (by decide) h (fun h => ?_) (fun h => ?_)
        · refine v_aload_n C 0 dX4_segment_45 rfl rfl ?_
          refine v_get C 0 14 iuX4 rfl rfl (by decide) m3_67 rfl rfl dX4_segment_46 ?_
          refine v_iload_n C 1 dX4_segment_49 rfl rfl ?_
          refine v_iald C 10 rfl dX4_segment_50 h (fun h => ?_)
          refine v_goto (tgt := 88) C dX4_segment_51 (by decide) ?_
          cases h
          exact hk _ _ dX4_segment_88
        · refine v_iload_n C 2 dX4_segment_54 rfl rfl ?_
          refine v_iconst (v := 1) C dX4_segment_55 (by decide) ?_
          refine v_icmp_ne (tgt := 68) C dX4_segment_56 (by decide) h (fun h => ?_) (fun h => ?_)
          · refine v_aload_n C 0 dX4_segment_59 rfl rfl ?_
            refine v_get C 0 15 iuX4 rfl rfl (by decide) m3_68 rfl rfl dX4_segment_60 ?_
            refine v_iload_n C 1 dX4_segment_63 rfl rfl ?_
            refine v_iald C 11 rfl dX4_segment_64 h (fun h => ?_)
            refine v_goto (tgt := 88) C dX4_segment_65 (by decide) ?_
            cases h
            exact hk _ _ dX4_segment_88
          · refine v_iload_n C 2 dX4_segment_68 rfl rfl ?_
            refine v_iconst (v := 2) C dX4_segment_69 (by decide) ?_
            refine v_icmp_ne (tgt := 82) C dX4_segment_70 (by decide) h (fun h => ?_) (fun h => ?_)
            · refine v_aload_n C 0 dX4_segment_73 rfl rfl ?_
              refine v_get C 0 16 iuX4 rfl rfl (by decide) m3_69 rfl rfl dX4_segment_74 ?_
              refine v_iload_n C 1 dX4_segment_77 rfl rfl ?_
              refine v_iald C 12 rfl dX4_segment_78 h (fun h => ?_)
              refine v_goto (tgt := 88) C dX4_segment_79 (by decide) ?_
              cases h
              exact hk _ _ dX4_segment_88
            · refine v_aload_n C 0 dX4_segment_82 rfl rfl ?_
              refine v_get C 0 18 iuX4 rfl rfl (by decide) m3_71 rfl rfl dX4_segment_83 ?_
              refine v_iload_n C 1 dX4_segment_86 rfl rfl ?_
              refine v_iald C 14 rfl dX4_segment_87 h (fun h => ?_)
              cases h
              exact hk _ _ dX4_segment_88
      · refine v_iconst (v := 0) C dX4_segment_39 (by decide) ?_
        cases h
        exact hk _ _ dX4_segment_40
    · refine v_iconst (v := 0) C dX4_segment_24 (by decide) ?_
      refine v_goto (tgt := 29) C dX4_segment_25 (by decide) ?_
      refine v_put C (wM cI cJ aM 0 pins_M many_M nets_M lefts_M rights_M touches_M below_M reach_M tracksOf_M steps_M laid_M laidMany_M tracks_M laidNet_M laidLeft_M laidRight_M laidTouch_M laidTrack_M ringSize_M ringOf_M lays_M refusals_M) 0 0 iuX4 tyX4_ok nmX4 rfl rfl (by decide) m3_53 rfl rfl rfl rfl rfl (Nat.le_of_ble_eq_true rfl) dX4_segment_29 rfl ?_
      refine v_aload_n C 0 dX4_segment_32 rfl rfl ?_
      refine v_get C 0 0 iuX4 rfl rfl (by decide) m3_53 rfl rfl dX4_segment_33 ?_
      refine v_if_le (tgt := 41) C dX4_segment_36 (by decide) h (fun h => ?_) (fun h => ?_)
      · refine v_iload_n C 2 dX4_segment_41 rfl rfl ?_
        refine v_if_ne (tgt := 54) C dX4_segment_42 (by decide) h (fun h => ?_) (fun h => ?_)
        · refine v_aload_n C 0 dX4_segment_45 rfl rfl ?_
          refine v_get C 0 14 iuX4 rfl rfl (by decide) m3_67 rfl rfl dX4_segment_46 ?_
          refine v_iload_n C 1 dX4_segment_49 rfl rfl ?_
          refine v_iald C 10 rfl dX4_segment_50 h (fun h => ?_)
          refine v_goto (tgt := 88) C dX4_segment_51 (by decide) ?_
          cases h
          exact hk _ _ dX4_segment_88
        · refine v_iload_n C 2 dX4_segment_54 rfl rfl ?_
          refine v_iconst (v := 1) C dX4_segment_55 (by decide) ?_
          refine v_icmp_ne (tgt := 68) C dX4_segment_56 (by decide) h (fun h => ?_) (fun h => ?_)
          · refine v_aload_n C 0 dX4_segment_59 rfl rfl ?_
            refine v_get C 0 15 iuX4 rfl rfl (by decide) m3_68 rfl rfl dX4_segment_60 ?_
            refine v_iload_n C 1 dX4_segment_63 rfl rfl ?_
            refine v_iald C 11 rfl dX4_segment_64 h (fun h => ?_)
            refine v_goto (tgt := 88) C dX4_segment_65 (by decide) ?_
            cases h
            exact hk _ _ dX4_segment_88
          · refine v_iload_n C 2 dX4_segment_68 rfl rfl ?_
            refine v_iconst (v := 2) C dX4_segment_69 (by decide) ?_
            refine v_icmp_ne (tgt := 82) C dX4_segment_70 (by decide) h (fun h => ?_) (fun h => ?_)
            · refine v_aload_n C 0 dX4_segment_73 rfl rfl ?_
              refine v_get C 0 16 iuX4 rfl rfl (by decide) m3_69 rfl rfl dX4_segment_74 ?_
              refine v_iload_n C 1 dX4_segment_77 rfl rfl ?_
              refine v_iald C 12 rfl dX4_segment_78 h (fun h => ?_)
              refine v_goto (tgt := 88) C dX4_segment_79 (by decide) ?_
              cases h
              exact hk _ _ dX4_segment_88
            · refine v_aload_n C 0 dX4_segment_82 rfl rfl ?_
              refine v_get C 0 18 iuX4 rfl rfl (by decide) m3_71 rfl rfl dX4_segment_83 ?_
              refine v_iload_n C 1 dX4_segment_86 rfl rfl ?_
              refine v_iald C 14 rfl dX4_segment_87 h (fun h => ?_)
              cases h
              exact hk _ _ dX4_segment_88
      · refine v_iconst (v := 0) C dX4_segment_39 (by decide) ?_
        cases h
        exact hk _ _ dX4_segment_40
def f_X4_out (x1 : Int32) : Option (Int32 × Int32) := if x1 = 0 then (if x1 = 0 then (some (1, 1)) else (some (0, 1))) else (if x1 = 0 then (some (1, 0)) else (some (0, 0)))
theorem cw_X4_out : CWv yX4_out cX4_out 2 (some .boolean) RX4 1 := ⟨m3_233, ms4_12, m1_5, m3_234, rfl, by decide, by decide, by decide +kernel⟩
set_option maxHeartbeats 4000000 in
set_option maxRecDepth 100000 in
theorem c_X4_out (l : Launch) (D : va_G) (cI cJ : ClassId) (aM : Nat → Nat) (thrown_M : Int32) (pins_M : (Nat → Int32)) (many_M : Int32) (nets_M : (Nat → Int32)) (lefts_M : (Nat → Int32)) (rights_M : (Nat → Int32)) (touches_M : (Nat → Int32)) (below_M : (Nat → Int64)) (reach_M : (Nat → Int64)) (tracksOf_M : (Nat → Int32)) (steps_M : (Nat → Int32)) (laid_M : Int32) (laidMany_M : Int32) (tracks_M : Int32) (laidNet_M : (Nat → Int32)) (laidLeft_M : (Nat → Int32)) (laidRight_M : (Nat → Int32)) (laidTouch_M : (Nat → Int32)) (laidTrack_M : (Nat → Int32)) (ringSize_M : Int32) (ringOf_M : (Nat → Int32)) (lays_M : Int32) (refusals_M : Int32) (x1 : Int32) (r : Int32) (thrown_M' : Int32) (h : f_X4_out x1 = some (r, thrown_M')) : Cti l D cI cJ yX4_out cX4_out 2 (some .boolean) 0 0 [.ref (aM 0), .int x1] (wM cI cJ aM thrown_M pins_M many_M nets_M lefts_M rights_M touches_M below_M reach_M tracksOf_M steps_M laid_M laidMany_M tracks_M laidNet_M laidLeft_M laidRight_M laidTouch_M laidTrack_M ringSize_M ringOf_M lays_M refusals_M) (wM cI cJ aM thrown_M' pins_M many_M nets_M lefts_M rights_M touches_M below_M reach_M tracksOf_M steps_M laid_M laidMany_M tracks_M laidNet_M laidLeft_M laidRight_M laidTouch_M laidTrack_M ringSize_M ringOf_M lays_M refusals_M) r := by
  refine mk_z [(0, .ref (aM 0)), (1, .int x1)] (by decide) rfl (Nat.le_of_ble_eq_true rfl) rfl (fun p e s m args below meth c A Q C hk => ?_)
  unfold f_X4_out at h
  refine v_aload_n C 0 dX4_out_0 rfl rfl ?_
  refine v_iload_n C 1 dX4_out_1 rfl rfl ?_
  refine v_if_eq (tgt := 9) C dX4_out_2 (by decide) h (fun h => ?_) (fun h => ?_)
  · refine v_iconst (v := 1) C dX4_out_9 (by decide) ?_
    refine v_put C (wM cI cJ aM 1 pins_M many_M nets_M lefts_M rights_M touches_M below_M reach_M tracksOf_M steps_M laid_M laidMany_M tracks_M laidNet_M laidLeft_M laidRight_M laidTouch_M laidTrack_M ringSize_M ringOf_M lays_M refusals_M) 0 0 iuX4 tyX4_ok nmX4 rfl rfl (by decide) m3_53 rfl rfl rfl rfl rfl (Nat.le_of_ble_eq_true rfl) dX4_out_10 rfl ?_
    refine v_iload_n C 1 dX4_out_13 rfl rfl ?_
    refine v_if_ne (tgt := 21) C dX4_out_14 (by decide) h (fun h => ?_) (fun h => ?_)
    · refine v_iconst (v := 1) C dX4_out_17 (by decide) ?_
      refine v_goto (tgt := 22) C dX4_out_18 (by decide) ?_
      cases h
      exact hk _ _ dX4_out_22 (Or.inr rfl)
    · refine v_iconst (v := 0) C dX4_out_21 (by decide) ?_
      cases h
      exact hk _ _ dX4_out_22 (Or.inl rfl)
  · refine v_iconst (v := 0) C dX4_out_5 (by decide) ?_
    refine v_goto (tgt := 10) C dX4_out_6 (by decide) ?_
    refine v_put C (wM cI cJ aM 0 pins_M many_M nets_M lefts_M rights_M touches_M below_M reach_M tracksOf_M steps_M laid_M laidMany_M tracks_M laidNet_M laidLeft_M laidRight_M laidTouch_M laidTrack_M ringSize_M ringOf_M lays_M refusals_M) 0 0 iuX4 tyX4_ok nmX4 rfl rfl (by decide) m3_53 rfl rfl rfl rfl rfl (Nat.le_of_ble_eq_true rfl) dX4_out_10 rfl ?_
    refine v_iload_n C 1 dX4_out_13 rfl rfl ?_
    refine v_if_ne (tgt := 21) C dX4_out_14 (by decide) h (fun h => ?_) (fun h => ?_)
    · refine v_iconst (v := 1) C dX4_out_17 (by decide) ?_
      refine v_goto (tgt := 22) C dX4_out_18 (by decide) ?_
      cases h
      exact hk _ _ dX4_out_22 (Or.inr rfl)
    · refine v_iconst (v := 0) C dX4_out_21 (by decide) ?_
      cases h
      exact hk _ _ dX4_out_22 (Or.inl rfl)
def f_X4_levelAt_B5 (x1 : Int32) (x2 : Int32) (laidMany_M : Int32) (laidNet_M : (Nat → Int32)) (laidLeft_M : (Nat → Int32)) (laidRight_M : (Nat → Int32)) (laidTrack_M : (Nat → Int32)) : (Int32 × Int32) → Option ((Int32 × Int32) ⊕ Int32)
  | (x3, x4) => if laidMany_M ≤ x4 then (some (.inr x3)) else (bnd x4 40 (if (laidTrack_M x4.toNatClampNeg) = x1 then (bnd x4 40 (bnd x4 40 ((f_X4_in x2 (laidLeft_M x4.toNatClampNeg) (laidRight_M x4.toNatClampNeg)).bind (fun r => match r with | r_1 => if r_1 = 0 then (some (.inl (x3, x4 + 1))) else (bnd x4 40 (some (.inl (laidNet_M x4.toNatClampNeg, x4 + 1)))))))) else (some (.inl (x3, x4 + 1)))))
def f_X4_levelAt (laidMany_M : Int32) (laidNet_M : (Nat → Int32)) (laidLeft_M : (Nat → Int32)) (laidRight_M : (Nat → Int32)) (laidTrack_M : (Nat → Int32)) (x1 : Int32) (x2 : Int32) : Option Int32 := (lp (f_X4_levelAt_B5 x1 x2 laidMany_M laidNet_M laidLeft_M laidRight_M laidTrack_M) 64 (0, 0)).bind (fun r => match r with | x3_2 => some x3_2)
theorem cw_X4_levelAt : CWv yX4_levelAt cX4_levelAt 5 (some .int) RX4 2 := ⟨m3_237, ms4_13, m1_5, m3_238, rfl, by decide, by decide, by decide +kernel⟩
set_option maxHeartbeats 4000000 in
set_option maxRecDepth 100000 in
theorem t_X4_levelAt_B5 {p : Program} {l : Launch} {e : Env} {s : State} {m : MethodId} {args : Array Value} {below : List Frame} {meth : Method} {c : Code} {D : va_G} {A : Nat → Prop} {cI cJ : ClassId} {Q : State → Prop} (C : Cx p s m args c cX4_levelAt 5 RX4 D A cI cJ) {aM : Nat → Nat} {x1 : Int32} {x2 : Int32} {thrown_M : Int32} {pins_M : (Nat → Int32)} {many_M : Int32} {nets_M : (Nat → Int32)} {lefts_M : (Nat → Int32)} {rights_M : (Nat → Int32)} {touches_M : (Nat → Int32)} {below_M : (Nat → Int64)} {reach_M : (Nat → Int64)} {tracksOf_M : (Nat → Int32)} {steps_M : (Nat → Int32)} {laid_M : Int32} {laidMany_M : Int32} {tracks_M : Int32} {laidNet_M : (Nat → Int32)} {laidLeft_M : (Nat → Int32)} {laidRight_M : (Nat → Int32)} {laidTouch_M : (Nat → Int32)} {laidTrack_M : (Nat → Int32)} {ringSize_M : Int32} {ringOf_M : (Nat → Int32)} {lays_M : Int32} {refusals_M : Int32} (s8 : (Int32 × Int32)) (o8 : (Int32 × Int32) ⊕ Int32) (h : f_X4_levelAt_B5 x1 x2 laidMany_M laidNet_M laidLeft_M laidRight_M laidTrack_M s8 = some o8) (hl : ∀ s8, o8 = .inl s8 → V p l e (rmO 1 22) s m args below meth c 5 D A 0 0 Q 5 [(0, .ref (aM 0)), (1, .int x1), (2, .int x2), (3, .int s8.1), (4, .int s8.2)] [] (wM cI cJ aM thrown_M pins_M many_M nets_M lefts_M rights_M touches_M below_M reach_M tracksOf_M steps_M laid_M laidMany_M tracks_M laidNet_M laidLeft_M laidRight_M laidTouch_M laidTrack_M ringSize_M ringOf_M lays_M refusals_M)) (hx : ∀ r8, o8 = .inr r8 → V p l e (rmO 1 22) s m args below meth c 5 D A 0 0 Q 64 [(3, .int r8)] [] (wM cI cJ aM thrown_M pins_M many_M nets_M lefts_M rights_M touches_M below_M reach_M tracksOf_M steps_M laid_M laidMany_M tracks_M laidNet_M laidLeft_M laidRight_M laidTouch_M laidTrack_M ringSize_M ringOf_M lays_M refusals_M)) : V p l e (rmO 1 22) s m args below meth c 5 D A 0 0 Q 5 [(0, .ref (aM 0)), (1, .int x1), (2, .int x2), (3, .int s8.1), (4, .int s8.2)] [] (wM cI cJ aM thrown_M pins_M many_M nets_M lefts_M rights_M touches_M below_M reach_M tracksOf_M steps_M laid_M laidMany_M tracks_M laidNet_M laidLeft_M laidRight_M laidTouch_M laidTrack_M ringSize_M ringOf_M lays_M refusals_M) := by
  obtain ⟨x3, x4⟩ := s8
  unfold f_X4_levelAt_B5 at h
  show V p l e (rmO 1 22) s m args below meth c 5 D A 0 0 Q 5 [(0, .ref (aM 0)), (1, .int x1), (2, .int x2), (3, .int x3), (4, .int x4)] [] (wM cI cJ aM thrown_M pins_M many_M nets_M lefts_M rights_M touches_M below_M reach_M tracksOf_M steps_M laid_M laidMany_M tracks_M laidNet_M laidLeft_M laidRight_M laidTouch_M laidTrack_M ringSize_M ringOf_M lays_M refusals_M)
  refine v_iload C 4 dX4_levelAt_5 rfl ?_
  refine v_aload_n C 0 dX4_levelAt_7 rfl rfl ?_
  refine v_get C 0 12 iuX4 rfl rfl (by decide) m3_65 rfl rfl dX4_levelAt_8 ?_
  refine v_icmp_ge (tgt := 64) C dX4_levelAt_11 (by decide) h (fun h => ?_) (fun h => ?_)
  · refine v_perm [3] rfl ?_
    cases h
    exact hx _ rfl
  · refine v_aload_n C 0 dX4_levelAt_14 rfl rfl ?_
    refine v_get C 0 18 iuX4 rfl rfl (by decide) m3_71 rfl rfl dX4_levelAt_15 ?_
    refine v_iload C 4 dX4_levelAt_18 rfl ?_
    refine v_iald C 14 rfl dX4_levelAt_20 h (fun h => ?_)
    refine v_iload_n C 1 dX4_levelAt_21 rfl rfl ?_
    refine v_icmp_ne (tgt := 56) C dX4_levelAt_22 (by decide) h (fun h => ?_) (fun h => ?_)
    · refine v_iload_n C 2 dX4_levelAt_25 rfl rfl ?_
      refine v_aload_n C 0 dX4_levelAt_26 rfl rfl ?_
      refine v_get C 0 15 iuX4 rfl rfl (by decide) m3_68 rfl rfl dX4_levelAt_27 ?_
      refine v_iload C 4 dX4_levelAt_30 rfl ?_
      refine v_iald C 11 rfl dX4_levelAt_32 h (fun h => ?_)
      refine v_aload_n C 0 dX4_levelAt_33 rfl rfl ?_
      refine v_get C 0 16 iuX4 rfl rfl (by decide) m3_69 rfl rfl dX4_levelAt_34 ?_
      refine v_iload C 4 dX4_levelAt_37 rfl ?_
      refine v_iald C 12 rfl dX4_levelAt_39 h (fun h => ?_)
      obtain ⟨r, h1, h⟩ := bind_el h
      obtain ⟨r_1, rfl⟩ : ∃ z, z = r := ⟨_, rfl⟩
      try dsimp only at h
      refine v_callSi (As := [.int x2, .int (laidLeft_M x4.toNatClampNeg), .int (laidRight_M x4.toNatClampNeg)]) (st := []) (wr := [(aM 0, .inr (4, [.int thrown_M, .ref (aM 1), .int many_M, .ref (aM 2), .ref (aM 3), .ref (aM 4), .ref (aM 5), .ref (aM 6), .ref (aM 7), .ref (aM 8), .ref (aM 9), .int laid_M, .int laidMany_M, .int tracks_M, .ref (aM 10), .ref (aM 11), .ref (aM 12), .ref (aM 13), .ref (aM 14), .int ringSize_M, .ref (aM 15), .int lays_M, .int refusals_M])), (aM 1, .inl (cI, 40, .inl pins_M)), (aM 2, .inl (cI, 40, .inl nets_M)), (aM 3, .inl (cI, 40, .inl lefts_M)), (aM 4, .inl (cI, 40, .inl rights_M)), (aM 5, .inl (cI, 40, .inl touches_M)), (aM 6, .inl (cJ, 40, .inr (.inl below_M))), (aM 7, .inl (cJ, 40, .inr (.inl reach_M))), (aM 8, .inl (cI, 40, .inl tracksOf_M)), (aM 9, .inl (cI, 40, .inl steps_M)), (aM 10, .inl (cI, 40, .inl laidNet_M)), (aM 11, .inl (cI, 40, .inl laidLeft_M)), (aM 12, .inl (cI, 40, .inl laidRight_M)), (aM 13, .inl (cI, 40, .inl laidTouch_M)), (aM 14, .inl (cI, 40, .inl laidTrack_M)), (aM 15, .inl (cI, 40, .inl ringOf_M))]) (w1 := []) (ws' := (wM cI cJ aM thrown_M pins_M many_M nets_M lefts_M rights_M touches_M below_M reach_M tracksOf_M steps_M laid_M laidMany_M tracks_M laidNet_M laidLeft_M laidRight_M laidTouch_M laidTrack_M ringSize_M ringOf_M lays_M refusals_M)) (isC := []) (isR := [0, 1, 2, 3, 4, 5, 6, 7, 8, 9, 10, 11, 12, 13, 14, 15]) (pm := [0, 1, 2, 3, 4, 5, 6, 7, 8, 9, 10, 11, 12, 13, 14, 15]) C (c_X4_in l D cI cJ x2 (laidLeft_M x4.toNatClampNeg) (laidRight_M x4.toNatClampNeg) r_1 h1) cw_X4_in m3_131 dX4_levelAt_40 rfl ⟨Nat.le_of_ble_eq_true rfl, Nat.le_of_ble_eq_true rfl⟩ (Nat.le_of_ble_eq_true rfl) ⟨Nat.le_refl 0, Nat.le_refl 0⟩ ⟨rfl, rfl, rfl, rfl, by decide, rfl, rfl⟩ ?_
      refine v_if_eq (tgt := 56) C dX4_levelAt_43 (by decide) h (fun h => ?_) (fun h => ?_)
      · refine v_iload_n C 3 dX4_levelAt_56 rfl rfl ?_
        refine v_istore_n C [(3, .int x3), (0, .ref (aM 0)), (1, .int x1), (2, .int x2), (4, .int x4)] dX4_levelAt_57 rfl (by decide) rfl ?_
        refine v_iinc C [(4, .int (x4 + 1)), (3, .int x3), (0, .ref (aM 0)), (1, .int x1), (2, .int x2)] 4 dX4_levelAt_58 rfl rfl (by decide) rfl ?_
        refine v_goto (tgt := 5) C dX4_levelAt_61 (by decide) ?_
        refine v_perm [2, 3, 4, 1, 0] rfl ?_
        cases h
        exact hl _ rfl
      · refine v_aload_n C 0 dX4_levelAt_46 rfl rfl ?_
        refine v_get C 0 14 iuX4 rfl rfl (by decide) m3_67 rfl rfl dX4_levelAt_47 ?_
        refine v_iload C 4 dX4_levelAt_50 rfl ?_
        refine v_iald C 10 rfl dX4_levelAt_52 h (fun h => ?_)
        refine v_goto (tgt := 57) C dX4_levelAt_53 (by decide) ?_
        refine v_istore_n C [(3, .int (laidNet_M x4.toNatClampNeg)), (0, .ref (aM 0)), (1, .int x1), (2, .int x2), (4, .int x4)] dX4_levelAt_57 rfl (by decide) rfl ?_
        refine v_iinc C [(4, .int (x4 + 1)), (3, .int (laidNet_M x4.toNatClampNeg)), (0, .ref (aM 0)), (1, .int x1), (2, .int x2)] 4 dX4_levelAt_58 rfl rfl (by decide) rfl ?_
        refine v_goto (tgt := 5) C dX4_levelAt_61 (by decide) ?_
        refine v_perm [2, 3, 4, 1, 0] rfl ?_
        cases h
        exact hl _ rfl
    · refine v_iload_n C 3 dX4_levelAt_56 rfl rfl ?_
      refine v_istore_n C [(3, .int x3), (0, .ref (aM 0)), (1, .int x1), (2, .int x2), (4, .int x4)] dX4_levelAt_57 rfl (by decide) rfl ?_
      refine v_iinc C [(4, .int (x4 + 1)), (3, .int x3), (0, .ref (aM 0)), (1, .int x1), (2, .int x2)] 4 dX4_levelAt_58 rfl rfl (by decide) rfl ?_
      refine v_goto (tgt := 5) C dX4_levelAt_61 (by decide) ?_
      refine v_perm [2, 3, 4, 1, 0] rfl ?_
      cases h
      exact hl _ rfl
set_option maxHeartbeats 4000000 in
set_option maxRecDepth 100000 in
theorem t_X4_levelAt_L5 {p : Program} {l : Launch} {e : Env} {s : State} {m : MethodId} {args : Array Value} {below : List Frame} {meth : Method} {c : Code} {D : va_G} {A : Nat → Prop} {cI cJ : ClassId} {Q : State → Prop} (C : Cx p s m args c cX4_levelAt 5 RX4 D A cI cJ) {aM : Nat → Nat} {x1 : Int32} {x2 : Int32} {thrown_M : Int32} {pins_M : (Nat → Int32)} {many_M : Int32} {nets_M : (Nat → Int32)} {lefts_M : (Nat → Int32)} {rights_M : (Nat → Int32)} {touches_M : (Nat → Int32)} {below_M : (Nat → Int64)} {reach_M : (Nat → Int64)} {tracksOf_M : (Nat → Int32)} {steps_M : (Nat → Int32)} {laid_M : Int32} {laidMany_M : Int32} {tracks_M : Int32} {laidNet_M : (Nat → Int32)} {laidLeft_M : (Nat → Int32)} {laidRight_M : (Nat → Int32)} {laidTouch_M : (Nat → Int32)} {laidTrack_M : (Nat → Int32)} {ringSize_M : Int32} {ringOf_M : (Nat → Int32)} {lays_M : Int32} {refusals_M : Int32} {n8 : Nat} {s9 : (Int32 × Int32)} {o8 : Int32} (h : lp (f_X4_levelAt_B5 x1 x2 laidMany_M laidNet_M laidLeft_M laidRight_M laidTrack_M) n8 s9 = some o8) (hk : V p l e (rmO 1 22) s m args below meth c 5 D A 0 0 Q 64 [(3, .int o8)] [] (wM cI cJ aM thrown_M pins_M many_M nets_M lefts_M rights_M touches_M below_M reach_M tracksOf_M steps_M laid_M laidMany_M tracks_M laidNet_M laidLeft_M laidRight_M laidTouch_M laidTrack_M ringSize_M ringOf_M lays_M refusals_M)) : V p l e (rmO 1 22) s m args below meth c 5 D A 0 0 Q 5 [(0, .ref (aM 0)), (1, .int x1), (2, .int x2), (3, .int s9.1), (4, .int s9.2)] [] (wM cI cJ aM thrown_M pins_M many_M nets_M lefts_M rights_M touches_M below_M reach_M tracksOf_M steps_M laid_M laidMany_M tracks_M laidNet_M laidLeft_M laidRight_M laidTouch_M laidTrack_M ringSize_M ringOf_M lays_M refusals_M) := lp_ok (Pσ := fun s8 => V p l e (rmO 1 22) s m args below meth c 5 D A 0 0 Q 5 [(0, .ref (aM 0)), (1, .int x1), (2, .int x2), (3, .int s8.1), (4, .int s8.2)] [] (wM cI cJ aM thrown_M pins_M many_M nets_M lefts_M rights_M touches_M below_M reach_M tracksOf_M steps_M laid_M laidMany_M tracks_M laidNet_M laidLeft_M laidRight_M laidTouch_M laidTrack_M ringSize_M ringOf_M lays_M refusals_M)) (Pρ := fun r8 => V p l e (rmO 1 22) s m args below meth c 5 D A 0 0 Q 64 [(3, .int r8)] [] (wM cI cJ aM thrown_M pins_M many_M nets_M lefts_M rights_M touches_M below_M reach_M tracksOf_M steps_M laid_M laidMany_M tracks_M laidNet_M laidLeft_M laidRight_M laidTouch_M laidTrack_M ringSize_M ringOf_M lays_M refusals_M)) (fun s o h hl hx => t_X4_levelAt_B5 C s o h hl hx) n8 s9 o8 h hk
set_option maxHeartbeats 4000000 in
set_option maxRecDepth 100000 in
theorem c_X4_levelAt (l : Launch) (D : va_G) (cI cJ : ClassId) (aM : Nat → Nat) (thrown_M : Int32) (pins_M : (Nat → Int32)) (many_M : Int32) (nets_M : (Nat → Int32)) (lefts_M : (Nat → Int32)) (rights_M : (Nat → Int32)) (touches_M : (Nat → Int32)) (below_M : (Nat → Int64)) (reach_M : (Nat → Int64)) (tracksOf_M : (Nat → Int32)) (steps_M : (Nat → Int32)) (laid_M : Int32) (laidMany_M : Int32) (tracks_M : Int32) (laidNet_M : (Nat → Int32)) (laidLeft_M : (Nat → Int32)) (laidRight_M : (Nat → Int32)) (laidTouch_M : (Nat → Int32)) (laidTrack_M : (Nat → Int32)) (ringSize_M : Int32) (ringOf_M : (Nat → Int32)) (lays_M : Int32) (refusals_M : Int32) (x1 : Int32) (x2 : Int32) (r : Int32) (h : f_X4_levelAt laidMany_M laidNet_M laidLeft_M laidRight_M laidTrack_M x1 x2 = some r) : Cti l D cI cJ yX4_levelAt cX4_levelAt 5 (some .int) 1 22 [.ref (aM 0), .int x1, .int x2] (wM cI cJ aM thrown_M pins_M many_M nets_M lefts_M rights_M touches_M below_M reach_M tracksOf_M steps_M laid_M laidMany_M tracks_M laidNet_M laidLeft_M laidRight_M laidTouch_M laidTrack_M ringSize_M ringOf_M lays_M refusals_M) (wM cI cJ aM thrown_M pins_M many_M nets_M lefts_M rights_M touches_M below_M reach_M tracksOf_M steps_M laid_M laidMany_M tracks_M laidNet_M laidLeft_M laidRight_M laidTouch_M laidTrack_M ringSize_M ringOf_M lays_M refusals_M) r := by
  refine mk_i [(0, .ref (aM 0)), (1, .int x1), (2, .int x2)] (by decide) rfl (Nat.le_of_ble_eq_true rfl) rfl (fun p e s m args below meth c A Q C hk => ?_)
  unfold f_X4_levelAt at h
  refine v_iconst (v := 0) C dX4_levelAt_0 (by decide) ?_
  refine v_istore_n C [(3, .int 0), (0, .ref (aM 0)), (1, .int x1), (2, .int x2)] dX4_levelAt_1 rfl (by decide) rfl ?_
  refine v_iconst (v := 0) C dX4_levelAt_2 (by decide) ?_
  refine v_istore C [(4, .int 0), (3, .int 0), (0, .ref (aM 0)), (1, .int x1), (2, .int x2)] dX4_levelAt_3 (by decide) rfl ?_
  obtain ⟨r, h1, h⟩ := bind_el h
  refine v_perm [2, 3, 4, 1, 0] rfl ?_
  obtain ⟨x3_2, rfl⟩ : ∃ z, z = r := ⟨_, rfl⟩
  refine t_X4_levelAt_L5 C (s9 := (0, 0)) h1 ?_
  show V p l e (rmO 1 22) s m args below meth c 5 D A 0 0 Q 64 [(3, .int x3_2)] [] (wM cI cJ aM thrown_M pins_M many_M nets_M lefts_M rights_M touches_M below_M reach_M tracksOf_M steps_M laid_M laidMany_M tracks_M laidNet_M laidLeft_M laidRight_M laidTouch_M laidTrack_M ringSize_M ringOf_M lays_M refusals_M)
  try dsimp only at h
  refine v_iload_n C 0 dX4_levelAt_64 rfl rfl ?_
  cases h
  exact hk _ _ dX4_levelAt_65
def f_X4_level (laidMany_M : Int32) (tracks_M : Int32) (laidNet_M : (Nat → Int32)) (laidLeft_M : (Nat → Int32)) (laidRight_M : (Nat → Int32)) (laidTrack_M : (Nat → Int32)) (x1 : Int32) (x2 : Int32) : Option (Int32 × Int32) := (f_X4_in x1 0 (tracks_M - 1)).bind (fun r => match r with | r_1 => if r_1 = 0 then ((f_X4_out 0).bind (fun r => match r with | (r_2, thrown_M_3) => if r_2 = 0 then ((f_X4_levelAt laidMany_M laidNet_M laidLeft_M laidRight_M laidTrack_M x1 x2).bind (fun r => match r with | r_4 => some (r_4, thrown_M_3))) else (some (0, thrown_M_3)))) else ((f_X4_in x2 0 19).bind (fun r => match r with | r_5 => if r_5 = 0 then ((f_X4_out 0).bind (fun r => match r with | (r_6, thrown_M_7) => if r_6 = 0 then ((f_X4_levelAt laidMany_M laidNet_M laidLeft_M laidRight_M laidTrack_M x1 x2).bind (fun r => match r with | r_8 => some (r_8, thrown_M_7))) else (some (0, thrown_M_7)))) else ((f_X4_out 1).bind (fun r => match r with | (r_9, thrown_M_10) => if r_9 = 0 then ((f_X4_levelAt laidMany_M laidNet_M laidLeft_M laidRight_M laidTrack_M x1 x2).bind (fun r => match r with | r_11 => some (r_11, thrown_M_10))) else (some (0, thrown_M_10)))))))
theorem cw_X4_level : CWv yX4_level cX4_level 3 (some .int) RX4 2 := ⟨m3_228, m3_229, m1_5, m3_230, rfl, by decide, by decide, by decide +kernel⟩
set_option maxHeartbeats 4000000 in
set_option maxRecDepth 100000 in
theorem c_X4_level (l : Launch) (D : va_G) (cI cJ : ClassId) (aM : Nat → Nat) (thrown_M : Int32) (pins_M : (Nat → Int32)) (many_M : Int32) (nets_M : (Nat → Int32)) (lefts_M : (Nat → Int32)) (rights_M : (Nat → Int32)) (touches_M : (Nat → Int32)) (below_M : (Nat → Int64)) (reach_M : (Nat → Int64)) (tracksOf_M : (Nat → Int32)) (steps_M : (Nat → Int32)) (laid_M : Int32) (laidMany_M : Int32) (tracks_M : Int32) (laidNet_M : (Nat → Int32)) (laidLeft_M : (Nat → Int32)) (laidRight_M : (Nat → Int32)) (laidTouch_M : (Nat → Int32)) (laidTrack_M : (Nat → Int32)) (ringSize_M : Int32) (ringOf_M : (Nat → Int32)) (lays_M : Int32) (refusals_M : Int32) (x1 : Int32) (x2 : Int32) (r : Int32) (thrown_M' : Int32) (h : f_X4_level laidMany_M tracks_M laidNet_M laidLeft_M laidRight_M laidTrack_M x1 x2 = some (r, thrown_M')) : Cti l D cI cJ yX4_level cX4_level 3 (some .int) 2 46 [.ref (aM 0), .int x1, .int x2] (wM cI cJ aM thrown_M pins_M many_M nets_M lefts_M rights_M touches_M below_M reach_M tracksOf_M steps_M laid_M laidMany_M tracks_M laidNet_M laidLeft_M laidRight_M laidTouch_M laidTrack_M ringSize_M ringOf_M lays_M refusals_M) (wM cI cJ aM thrown_M' pins_M many_M nets_M lefts_M rights_M touches_M below_M reach_M tracksOf_M steps_M laid_M laidMany_M tracks_M laidNet_M laidLeft_M laidRight_M laidTouch_M laidTrack_M ringSize_M ringOf_M lays_M refusals_M) r := by
  refine mk_i [(0, .ref (aM 0)), (1, .int x1), (2, .int x2)] (by decide) rfl (Nat.le_of_ble_eq_true rfl) rfl (fun p e s m args below meth c A Q C hk => ?_)
  unfold f_X4_level at h
  refine v_aload_n C 0 dX4_level_0 rfl rfl ?_
  refine v_iload_n C 1 dX4_level_1 rfl rfl ?_
  refine v_iconst (v := 0) C dX4_level_2 (by decide) ?_
  refine v_aload_n C 0 dX4_level_3 rfl rfl ?_
  refine v_get C 0 13 iuX4 rfl rfl (by decide) m3_66 rfl rfl dX4_level_4 ?_
  refine v_iconst (v := 1) C dX4_level_7 (by decide) ?_
  refine v_isub C dX4_level_8 ?_
  obtain ⟨r, h1, h⟩ := bind_el h
  obtain ⟨r_1, rfl⟩ : ∃ z, z = r := ⟨_, rfl⟩
  try dsimp only at h
  refine v_callSi (As := [.int x1, .int 0, .int (tracks_M - 1)]) (st := [.ref (aM 0)]) (wr := [(aM 0, .inr (4, [.int thrown_M, .ref (aM 1), .int many_M, .ref (aM 2), .ref (aM 3), .ref (aM 4), .ref (aM 5), .ref (aM 6), .ref (aM 7), .ref (aM 8), .ref (aM 9), .int laid_M, .int laidMany_M, .int tracks_M, .ref (aM 10), .ref (aM 11), .ref (aM 12), .ref (aM 13), .ref (aM 14), .int ringSize_M, .ref (aM 15), .int lays_M, .int refusals_M])), (aM 1, .inl (cI, 40, .inl pins_M)), (aM 2, .inl (cI, 40, .inl nets_M)), (aM 3, .inl (cI, 40, .inl lefts_M)), (aM 4, .inl (cI, 40, .inl rights_M)), (aM 5, .inl (cI, 40, .inl touches_M)), (aM 6, .inl (cJ, 40, .inr (.inl below_M))), (aM 7, .inl (cJ, 40, .inr (.inl reach_M))), (aM 8, .inl (cI, 40, .inl tracksOf_M)), (aM 9, .inl (cI, 40, .inl steps_M)), (aM 10, .inl (cI, 40, .inl laidNet_M)), (aM 11, .inl (cI, 40, .inl laidLeft_M)), (aM 12, .inl (cI, 40, .inl laidRight_M)), (aM 13, .inl (cI, 40, .inl laidTouch_M)), (aM 14, .inl (cI, 40, .inl laidTrack_M)), (aM 15, .inl (cI, 40, .inl ringOf_M))]) (w1 := []) (ws' := (wM cI cJ aM thrown_M pins_M many_M nets_M lefts_M rights_M touches_M below_M reach_M tracksOf_M steps_M laid_M laidMany_M tracks_M laidNet_M laidLeft_M laidRight_M laidTouch_M laidTrack_M ringSize_M ringOf_M lays_M refusals_M)) (isC := []) (isR := [0, 1, 2, 3, 4, 5, 6, 7, 8, 9, 10, 11, 12, 13, 14, 15]) (pm := [0, 1, 2, 3, 4, 5, 6, 7, 8, 9, 10, 11, 12, 13, 14, 15]) C (c_X4_in l D cI cJ x1 0 (tracks_M - 1) r_1 h1) cw_X4_in m3_131 dX4_level_9 rfl ⟨Nat.le_of_ble_eq_true rfl, Nat.le_of_ble_eq_true rfl⟩ (Nat.le_of_ble_eq_true rfl) ⟨Nat.le_refl 0, Nat.le_refl 0⟩ ⟨rfl, rfl, rfl, rfl, by decide, rfl, rfl⟩ ?_
  refine v_if_eq (tgt := 29) C dX4_level_12 (by decide) h (fun h => ?_) (fun h => ?_)
  · refine v_iconst (v := 0) C dX4_level_29 (by decide) ?_
    obtain ⟨r, h1, h⟩ := bind_el h
    obtain ⟨r_2, thrown_M_3⟩ := r
    try dsimp only at h
    refine v_callVi (As := [.int 0]) (st := []) (wr := []) (w1 := (wM cI cJ aM thrown_M_3 pins_M many_M nets_M lefts_M rights_M touches_M below_M reach_M tracksOf_M steps_M laid_M laidMany_M tracks_M laidNet_M laidLeft_M laidRight_M laidTouch_M laidTrack_M ringSize_M ringOf_M lays_M refusals_M)) (ws' := (wM cI cJ aM thrown_M_3 pins_M many_M nets_M lefts_M rights_M touches_M below_M reach_M tracksOf_M steps_M laid_M laidMany_M tracks_M laidNet_M laidLeft_M laidRight_M laidTouch_M laidTrack_M ringSize_M ringOf_M lays_M refusals_M)) (isC := [0, 1, 2, 3, 4, 5, 6, 7, 8, 9, 10, 11, 12, 13, 14, 15]) (isR := []) (pm := [0, 1, 2, 3, 4, 5, 6, 7, 8, 9, 10, 11, 12, 13, 14, 15]) C (c_X4_out l D cI cJ aM thrown_M pins_M many_M nets_M lefts_M rights_M touches_M below_M reach_M tracksOf_M steps_M laid_M laidMany_M tracks_M laidNet_M laidLeft_M laidRight_M laidTouch_M laidTrack_M ringSize_M ringOf_M lays_M refusals_M 0 r_2 thrown_M_3 h1) cw_X4_out 0 rfl rfl m3_231 dX4_level_30 rfl ⟨Nat.le_of_ble_eq_true rfl, Nat.le_of_ble_eq_true rfl⟩ (Nat.le_of_ble_eq_true rfl) ⟨Nat.le_refl 0, Nat.le_refl 0⟩ ⟨rfl, rfl, rfl, rfl, by decide, rfl, rfl⟩ ?_
    refine v_if_eq (tgt := 40) C dX4_level_33 (by decide) h (fun h => ?_) (fun h => ?_)
    · refine v_aload_n C 0 dX4_level_40 rfl rfl ?_
      refine v_iload_n C 1 dX4_level_41 rfl rfl ?_
      refine v_iload_n C 2 dX4_level_42 rfl rfl ?_
      obtain ⟨r, h1, h⟩ := bind_el h
      obtain ⟨r_4, rfl⟩ : ∃ z, z = r := ⟨_, rfl⟩
      try dsimp only at h
      refine v_callVi (As := [.int x1, .int x2]) (st := []) (wr := []) (w1 := (wM cI cJ aM thrown_M_3 pins_M many_M nets_M lefts_M rights_M touches_M below_M reach_M tracksOf_M steps_M laid_M laidMany_M tracks_M laidNet_M laidLeft_M laidRight_M laidTouch_M laidTrack_M ringSize_M ringOf_M lays_M refusals_M)) (ws' := (wM cI cJ aM thrown_M_3 pins_M many_M nets_M lefts_M rights_M touches_M below_M reach_M tracksOf_M steps_M laid_M laidMany_M tracks_M laidNet_M laidLeft_M laidRight_M laidTouch_M laidTrack_M ringSize_M ringOf_M lays_M refusals_M)) (isC := [0, 1, 2, 3, 4, 5, 6, 7, 8, 9, 10, 11, 12, 13, 14, 15]) (isR := []) (pm := [0, 1, 2, 3, 4, 5, 6, 7, 8, 9, 10, 11, 12, 13, 14, 15]) C (c_X4_levelAt l D cI cJ aM thrown_M_3 pins_M many_M nets_M lefts_M rights_M touches_M below_M reach_M tracksOf_M steps_M laid_M laidMany_M tracks_M laidNet_M laidLeft_M laidRight_M laidTouch_M laidTrack_M ringSize_M ringOf_M lays_M refusals_M x1 x2 r_4 h1) cw_X4_levelAt 0 rfl rfl m3_235 dX4_level_43 rfl ⟨Nat.le_of_ble_eq_true rfl, Nat.le_of_ble_eq_true rfl⟩ (Nat.le_of_ble_eq_true rfl) ⟨Nat.le_refl 0, Nat.le_refl 0⟩ ⟨rfl, rfl, rfl, rfl, by decide, rfl, rfl⟩ ?_
      cases h
      exact hk _ _ dX4_level_46
    · refine v_iconst (v := 0) C dX4_level_36 (by decide) ?_
      refine v_goto (tgt := 46) C dX4_level_37 (by decide) ?_
      cases h
      exact hk _ _ dX4_level_46
  · refine v_iload_n C 2 dX4_level_15 rfl rfl ?_
    refine v_iconst (v := 0) C dX4_level_16 (by decide) ?_
    refine v_bipush (v := 19) C dX4_level_17 (by decide) ?_
    obtain ⟨r, h1, h⟩ := bind_el h
    obtain ⟨r_5, rfl⟩ : ∃ z, z = r := ⟨_, rfl⟩
    try dsimp only at h
    refine v_callSi (As := [.int x2, .int 0, .int 19]) (st := [.ref (aM 0)]) (wr := [(aM 0, .inr (4, [.int thrown_M, .ref (aM 1), .int many_M, .ref (aM 2), .ref (aM 3), .ref (aM 4), .ref (aM 5), .ref (aM 6), .ref (aM 7), .ref (aM 8), .ref (aM 9), .int laid_M, .int laidMany_M, .int tracks_M, .ref (aM 10), .ref (aM 11), .ref (aM 12), .ref (aM 13), .ref (aM 14), .int ringSize_M, .ref (aM 15), .int lays_M, .int refusals_M])), (aM 1, .inl (cI, 40, .inl pins_M)), (aM 2, .inl (cI, 40, .inl nets_M)), (aM 3, .inl (cI, 40, .inl lefts_M)), (aM 4, .inl (cI, 40, .inl rights_M)), (aM 5, .inl (cI, 40, .inl touches_M)), (aM 6, .inl (cJ, 40, .inr (.inl below_M))), (aM 7, .inl (cJ, 40, .inr (.inl reach_M))), (aM 8, .inl (cI, 40, .inl tracksOf_M)), (aM 9, .inl (cI, 40, .inl steps_M)), (aM 10, .inl (cI, 40, .inl laidNet_M)), (aM 11, .inl (cI, 40, .inl laidLeft_M)), (aM 12, .inl (cI, 40, .inl laidRight_M)), (aM 13, .inl (cI, 40, .inl laidTouch_M)), (aM 14, .inl (cI, 40, .inl laidTrack_M)), (aM 15, .inl (cI, 40, .inl ringOf_M))]) (w1 := []) (ws' := (wM cI cJ aM thrown_M pins_M many_M nets_M lefts_M rights_M touches_M below_M reach_M tracksOf_M steps_M laid_M laidMany_M tracks_M laidNet_M laidLeft_M laidRight_M laidTouch_M laidTrack_M ringSize_M ringOf_M lays_M refusals_M)) (isC := []) (isR := [0, 1, 2, 3, 4, 5, 6, 7, 8, 9, 10, 11, 12, 13, 14, 15]) (pm := [0, 1, 2, 3, 4, 5, 6, 7, 8, 9, 10, 11, 12, 13, 14, 15]) C (c_X4_in l D cI cJ x2 0 19 r_5 h1) cw_X4_in m3_131 dX4_level_19 rfl ⟨Nat.le_of_ble_eq_true rfl, Nat.le_of_ble_eq_true rfl⟩ (Nat.le_of_ble_eq_true rfl) ⟨Nat.le_refl 0, Nat.le_refl 0⟩ ⟨rfl, rfl, rfl, rfl, by decide, rfl, rfl⟩ ?_
    refine v_if_eq (tgt := 29) C dX4_level_22 (by decide) h (fun h => ?_) (fun h => ?_)
    · refine v_iconst (v := 0) C dX4_level_29 (by decide) ?_
      obtain ⟨r, h1, h⟩ := bind_el h
      obtain ⟨r_6, thrown_M_7⟩ := r
      try dsimp only at h
      refine v_callVi (As := [.int 0]) (st := []) (wr := []) (w1 := (wM cI cJ aM thrown_M_7 pins_M many_M nets_M lefts_M rights_M touches_M below_M reach_M tracksOf_M steps_M laid_M laidMany_M tracks_M laidNet_M laidLeft_M laidRight_M laidTouch_M laidTrack_M ringSize_M ringOf_M lays_M refusals_M)) (ws' := (wM cI cJ aM thrown_M_7 pins_M many_M nets_M lefts_M rights_M touches_M below_M reach_M tracksOf_M steps_M laid_M laidMany_M tracks_M laidNet_M laidLeft_M laidRight_M laidTouch_M laidTrack_M ringSize_M ringOf_M lays_M refusals_M)) (isC := [0, 1, 2, 3, 4, 5, 6, 7, 8, 9, 10, 11, 12, 13, 14, 15]) (isR := []) (pm := [0, 1, 2, 3, 4, 5, 6, 7, 8, 9, 10, 11, 12, 13, 14, 15]) C (c_X4_out l D cI cJ aM thrown_M pins_M many_M nets_M lefts_M rights_M touches_M below_M reach_M tracksOf_M steps_M laid_M laidMany_M tracks_M laidNet_M laidLeft_M laidRight_M laidTouch_M laidTrack_M ringSize_M ringOf_M lays_M refusals_M 0 r_6 thrown_M_7 h1) cw_X4_out 0 rfl rfl m3_231 dX4_level_30 rfl ⟨Nat.le_of_ble_eq_true rfl, Nat.le_of_ble_eq_true rfl⟩ (Nat.le_of_ble_eq_true rfl) ⟨Nat.le_refl 0, Nat.le_refl 0⟩ ⟨rfl, rfl, rfl, rfl, by decide, rfl, rfl⟩ ?_
      refine v_if_eq (tgt := 40) C dX4_level_33 (by decide) h (fun h => ?_) (fun h => ?_)
      · refine v_aload_n C 0 dX4_level_40 rfl rfl ?_
        refine v_iload_n C 1 dX4_level_41 rfl rfl ?_
        refine v_iload_n C 2 dX4_level_42 rfl rfl ?_
        obtain ⟨r, h1, h⟩ := bind_el h
        obtain ⟨r_8, rfl⟩ : ∃ z, z = r := ⟨_, rfl⟩
        try dsimp only at h
        refine v_callVi (As := [.int x1, .int x2]) (st := []) (wr := []) (w1 := (wM cI cJ aM thrown_M_7 pins_M many_M nets_M lefts_M rights_M touches_M below_M reach_M tracksOf_M steps_M laid_M laidMany_M tracks_M laidNet_M laidLeft_M laidRight_M laidTouch_M laidTrack_M ringSize_M ringOf_M lays_M refusals_M)) (ws' := (wM cI cJ aM thrown_M_7 pins_M many_M nets_M lefts_M rights_M touches_M below_M reach_M tracksOf_M steps_M laid_M laidMany_M tracks_M laidNet_M laidLeft_M laidRight_M laidTouch_M laidTrack_M ringSize_M ringOf_M lays_M refusals_M)) (isC := [0, 1, 2, 3, 4, 5, 6, 7, 8, 9, 10, 11, 12, 13, 14, 15]) (isR := []) (pm := [0, 1, 2, 3, 4, 5, 6, 7, 8, 9, 10, 11, 12, 13, 14, 15]) C (c_X4_levelAt l D cI cJ aM thrown_M_7 pins_M many_M nets_M lefts_M rights_M touches_M below_M reach_M tracksOf_M steps_M laid_M laidMany_M tracks_M laidNet_M laidLeft_M laidRight_M laidTouch_M laidTrack_M ringSize_M ringOf_M lays_M refusals_M x1 x2 r_8 h1) cw_X4_levelAt 0 rfl rfl m3_235 dX4_level_43 rfl ⟨Nat.le_of_ble_eq_true rfl, Nat.le_of_ble_eq_true rfl⟩ (Nat.le_of_ble_eq_true rfl) ⟨Nat.le_refl 0, Nat.le_refl 0⟩ ⟨rfl, rfl, rfl, rfl, by decide, rfl, rfl⟩ ?_
        cases h
        exact hk _ _ dX4_level_46
      · refine v_iconst (v := 0) C dX4_level_36 (by decide) ?_
        refine v_goto (tgt := 46) C dX4_level_37 (by decide) ?_
        cases h
        exact hk _ _ dX4_level_46
    · refine v_iconst (v := 1) C dX4_level_25 (by decide) ?_
      refine v_goto (tgt := 30) C dX4_level_26 (by decide) ?_
      obtain ⟨r, h1, h⟩ := bind_el h
      obtain ⟨r_9, thrown_M_10⟩ := r
      try dsimp only at h
      refine v_callVi (As := [.int 1]) (st := []) (wr := []) (w1 := (wM cI cJ aM thrown_M_10 pins_M many_M nets_M lefts_M rights_M touches_M below_M reach_M tracksOf_M steps_M laid_M laidMany_M tracks_M laidNet_M laidLeft_M laidRight_M laidTouch_M laidTrack_M ringSize_M ringOf_M lays_M refusals_M)) (ws' := (wM cI cJ aM thrown_M_10 pins_M many_M nets_M lefts_M rights_M touches_M below_M reach_M tracksOf_M steps_M laid_M laidMany_M tracks_M laidNet_M laidLeft_M laidRight_M laidTouch_M laidTrack_M ringSize_M ringOf_M lays_M refusals_M)) (isC := [0, 1, 2, 3, 4, 5, 6, 7, 8, 9, 10, 11, 12, 13, 14, 15]) (isR := []) (pm := [0, 1, 2, 3, 4, 5, 6, 7, 8, 9, 10, 11, 12, 13, 14, 15]) C (c_X4_out l D cI cJ aM thrown_M pins_M many_M nets_M lefts_M rights_M touches_M below_M reach_M tracksOf_M steps_M laid_M laidMany_M tracks_M laidNet_M laidLeft_M laidRight_M laidTouch_M laidTrack_M ringSize_M ringOf_M lays_M refusals_M 1 r_9 thrown_M_10 h1) cw_X4_out 0 rfl rfl m3_231 dX4_level_30 rfl ⟨Nat.le_of_ble_eq_true rfl, Nat.le_of_ble_eq_true rfl⟩ (Nat.le_of_ble_eq_true rfl) ⟨Nat.le_refl 0, Nat.le_refl 0⟩ ⟨rfl, rfl, rfl, rfl, by decide, rfl, rfl⟩ ?_
      refine v_if_eq (tgt := 40) C dX4_level_33 (by decide) h (fun h => ?_) (fun h => ?_)
      · refine v_aload_n C 0 dX4_level_40 rfl rfl ?_
        refine v_iload_n C 1 dX4_level_41 rfl rfl ?_
        refine v_iload_n C 2 dX4_level_42 rfl rfl ?_
        obtain ⟨r, h1, h⟩ := bind_el h
        obtain ⟨r_11, rfl⟩ : ∃ z, z = r := ⟨_, rfl⟩
        try dsimp only at h
        refine v_callVi (As := [.int x1, .int x2]) (st := []) (wr := []) (w1 := (wM cI cJ aM thrown_M_10 pins_M many_M nets_M lefts_M rights_M touches_M below_M reach_M tracksOf_M steps_M laid_M laidMany_M tracks_M laidNet_M laidLeft_M laidRight_M laidTouch_M laidTrack_M ringSize_M ringOf_M lays_M refusals_M)) (ws' := (wM cI cJ aM thrown_M_10 pins_M many_M nets_M lefts_M rights_M touches_M below_M reach_M tracksOf_M steps_M laid_M laidMany_M tracks_M laidNet_M laidLeft_M laidRight_M laidTouch_M laidTrack_M ringSize_M ringOf_M lays_M refusals_M)) (isC := [0, 1, 2, 3, 4, 5, 6, 7, 8, 9, 10, 11, 12, 13, 14, 15]) (isR := []) (pm := [0, 1, 2, 3, 4, 5, 6, 7, 8, 9, 10, 11, 12, 13, 14, 15]) C (c_X4_levelAt l D cI cJ aM thrown_M_10 pins_M many_M nets_M lefts_M rights_M touches_M below_M reach_M tracksOf_M steps_M laid_M laidMany_M tracks_M laidNet_M laidLeft_M laidRight_M laidTouch_M laidTrack_M ringSize_M ringOf_M lays_M refusals_M x1 x2 r_11 h1) cw_X4_levelAt 0 rfl rfl m3_235 dX4_level_43 rfl ⟨Nat.le_of_ble_eq_true rfl, Nat.le_of_ble_eq_true rfl⟩ (Nat.le_of_ble_eq_true rfl) ⟨Nat.le_refl 0, Nat.le_refl 0⟩ ⟨rfl, rfl, rfl, rfl, by decide, rfl, rfl⟩ ?_
        cases h
        exact hk _ _ dX4_level_46
      · refine v_iconst (v := 0) C dX4_level_36 (by decide) ?_
        refine v_goto (tgt := 46) C dX4_level_37 (by decide) ?_
        cases h
        exact hk _ _ dX4_level_46
def f_X4_lies_B6 (x1 : Int32) (x2 : Int32) (x3 : Int32) (laidMany_M : Int32) (laidNet_M : (Nat → Int32)) (laidTouch_M : (Nat → Int32)) (laidTrack_M : (Nat → Int32)) : (Int32 × Int32) → Option ((Int32 × Int32) ⊕ Int32)
  | (x4, x5) => if laidMany_M ≤ x5 then (some (.inr x4)) else (if x4 = 0 then (bnd x5 40 (if (laidNet_M x5.toNatClampNeg) = x1 then (bnd x5 40 (if (laidTrack_M x5.toNatClampNeg) = x3 then (bnd x5 40 (if (((laidTouch_M x5.toNatClampNeg) >>> (x2 &&& 31)) &&& 1) = 1 then (some (.inl (1, x5 + 1))) else (some (.inl (0, x5 + 1))))) else (some (.inl (0, x5 + 1))))) else (some (.inl (0, x5 + 1))))) else (some (.inl (1, x5 + 1))))
def f_X4_lies (laidMany_M : Int32) (laidNet_M : (Nat → Int32)) (laidTouch_M : (Nat → Int32)) (laidTrack_M : (Nat → Int32)) (x1 : Int32) (x2 : Int32) (x3 : Int32) : Option Int32 := (lp (f_X4_lies_B6 x1 x2 x3 laidMany_M laidNet_M laidTouch_M laidTrack_M) 64 (0, 0)).bind (fun r => match r with | x4_1 => zbl x4_1 (some x4_1))
theorem cw_X4_lies : CWv yX4_lies cX4_lies 6 (some .boolean) RX4 3 := ⟨m4_9, ms4_15, m1_5, m4_10, rfl, by decide, by decide, by decide +kernel⟩
set_option maxHeartbeats 4000000 in
set_option maxRecDepth 100000 in
theorem t_X4_lies_B6 {p : Program} {l : Launch} {e : Env} {s : State} {m : MethodId} {args : Array Value} {below : List Frame} {meth : Method} {c : Code} {D : va_G} {A : Nat → Prop} {cI cJ : ClassId} {Q : State → Prop} (C : Cx p s m args c cX4_lies 6 RX4 D A cI cJ) {aM : Nat → Nat} {x1 : Int32} {x2 : Int32} {x3 : Int32} {thrown_M : Int32} {pins_M : (Nat → Int32)} {many_M : Int32} {nets_M : (Nat → Int32)} {lefts_M : (Nat → Int32)} {rights_M : (Nat → Int32)} {touches_M : (Nat → Int32)} {below_M : (Nat → Int64)} {reach_M : (Nat → Int64)} {tracksOf_M : (Nat → Int32)} {steps_M : (Nat → Int32)} {laid_M : Int32} {laidMany_M : Int32} {tracks_M : Int32} {laidNet_M : (Nat → Int32)} {laidLeft_M : (Nat → Int32)} {laidRight_M : (Nat → Int32)} {laidTouch_M : (Nat → Int32)} {laidTrack_M : (Nat → Int32)} {ringSize_M : Int32} {ringOf_M : (Nat → Int32)} {lays_M : Int32} {refusals_M : Int32} (s8 : (Int32 × Int32)) (o8 : (Int32 × Int32) ⊕ Int32) (h : f_X4_lies_B6 x1 x2 x3 laidMany_M laidNet_M laidTouch_M laidTrack_M s8 = some o8) (hl : ∀ s8, o8 = .inl s8 → V p l e (rmO 0 0) s m args below meth c 6 D A 0 0 Q 6 [(0, .ref (aM 0)), (1, .int x1), (2, .int x2), (3, .int x3), (4, .int s8.1), (5, .int s8.2)] [] (wM cI cJ aM thrown_M pins_M many_M nets_M lefts_M rights_M touches_M below_M reach_M tracksOf_M steps_M laid_M laidMany_M tracks_M laidNet_M laidLeft_M laidRight_M laidTouch_M laidTrack_M ringSize_M ringOf_M lays_M refusals_M)) (hx : ∀ r8, o8 = .inr r8 → V p l e (rmO 0 0) s m args below meth c 6 D A 0 0 Q 70 [(4, .int r8)] [] (wM cI cJ aM thrown_M pins_M many_M nets_M lefts_M rights_M touches_M below_M reach_M tracksOf_M steps_M laid_M laidMany_M tracks_M laidNet_M laidLeft_M laidRight_M laidTouch_M laidTrack_M ringSize_M ringOf_M lays_M refusals_M)) : V p l e (rmO 0 0) s m args below meth c 6 D A 0 0 Q 6 [(0, .ref (aM 0)), (1, .int x1), (2, .int x2), (3, .int x3), (4, .int s8.1), (5, .int s8.2)] [] (wM cI cJ aM thrown_M pins_M many_M nets_M lefts_M rights_M touches_M below_M reach_M tracksOf_M steps_M laid_M laidMany_M tracks_M laidNet_M laidLeft_M laidRight_M laidTouch_M laidTrack_M ringSize_M ringOf_M lays_M refusals_M) := by
  obtain ⟨x4, x5⟩ := s8
  unfold f_X4_lies_B6 at h
  show V p l e (rmO 0 0) s m args below meth c 6 D A 0 0 Q 6 [(0, .ref (aM 0)), (1, .int x1), (2, .int x2), (3, .int x3), (4, .int x4), (5, .int x5)] [] (wM cI cJ aM thrown_M pins_M many_M nets_M lefts_M rights_M touches_M below_M reach_M tracksOf_M steps_M laid_M laidMany_M tracks_M laidNet_M laidLeft_M laidRight_M laidTouch_M laidTrack_M ringSize_M ringOf_M lays_M refusals_M)
  refine v_iload C 5 dX4_lies_6 rfl ?_
  refine v_aload_n C 0 dX4_lies_8 rfl rfl ?_
  refine v_get C 0 12 iuX4 rfl rfl (by decide) m3_65 rfl rfl dX4_lies_9 ?_
  refine v_icmp_ge (tgt := 70) C dX4_lies_12 (by decide) h (fun h => ?_) (fun h => ?_)
  · refine v_perm [4] rfl ?_
    cases h
    exact hx _ rfl
  · refine v_iload C 4 dX4_lies_15 rfl ?_
    refine v_if_ne (tgt := 57) C dX4_lies_17 (by decide) h (fun h => ?_) (fun h => ?_)
    · refine v_aload_n C 0 dX4_lies_20 rfl rfl ?_
      refine v_get C 0 14 iuX4 rfl rfl (by decide) m3_67 rfl rfl dX4_lies_21 ?_
      refine v_iload C 5 dX4_lies_24 rfl ?_
      refine v_iald C 10 rfl dX4_lies_26 h (fun h => ?_)
      refine v_iload_n C 1 dX4_lies_27 rfl rfl ?_
      refine v_icmp_ne (tgt := 61) C dX4_lies_28 (by decide) h (fun h => ?_) (fun h => ?_)
      · refine v_aload_n C 0 dX4_lies_31 rfl rfl ?_
        refine v_get C 0 18 iuX4 rfl rfl (by decide) m3_71 rfl rfl dX4_lies_32 ?_
        refine v_iload C 5 dX4_lies_35 rfl ?_
        refine v_iald C 14 rfl dX4_lies_37 h (fun h => ?_)
        refine v_iload_n C 3 dX4_lies_38 rfl rfl ?_
        refine v_icmp_ne (tgt := 61) C dX4_lies_39 (by decide) h (fun h => ?_) (fun h => ?_)
        · refine v_aload_n C 0 dX4_lies_42 rfl rfl ?_
          refine v_get C 0 17 iuX4 rfl rfl (by decide) m3_70 rfl rfl dX4_lies_43 ?_
          refine v_iload C 5 dX4_lies_46 rfl ?_
          refine v_iald C 13 rfl dX4_lies_48 h (fun h => ?_)
          refine v_iload_n C 2 dX4_lies_49 rfl rfl ?_
          refine v_ishr C dX4_lies_50 ?_
          refine v_iconst (v := 1) C dX4_lies_51 (by decide) ?_
          refine v_iand C dX4_lies_52 ?_
          refine v_iconst (v := 1) C dX4_lies_53 (by decide) ?_
          refine v_icmp_ne (tgt := 61) C dX4_lies_54 (by decide) h (fun h => ?_) (fun h => ?_)
          · refine v_iconst (v := 1) C dX4_lies_57 (by decide) ?_
            refine v_goto (tgt := 62) C dX4_lies_58 (by decide) ?_
            refine v_istore C [(4, .int 1), (0, .ref (aM 0)), (1, .int x1), (2, .int x2), (3, .int x3), (5, .int x5)] dX4_lies_62 (by decide) rfl ?_
            refine v_iinc C [(5, .int (x5 + 1)), (4, .int 1), (0, .ref (aM 0)), (1, .int x1), (2, .int x2), (3, .int x3)] 5 dX4_lies_64 rfl rfl (by decide) rfl ?_
            refine v_goto (tgt := 6) C dX4_lies_67 (by decide) ?_
            refine v_perm [2, 3, 4, 5, 1, 0] rfl ?_
            cases h
            exact hl _ rfl
          · refine v_iconst (v := 0) C dX4_lies_61 (by decide) ?_
            refine v_istore C [(4, .int 0), (0, .ref (aM 0)), (1, .int x1), (2, .int x2), (3, .int x3), (5, .int x5)] dX4_lies_62 (by decide) rfl ?_
            refine v_iinc C [(5, .int (x5 + 1)), (4, .int 0), (0, .ref (aM 0)), (1, .int x1), (2, .int x2), (3, .int x3)] 5 dX4_lies_64 rfl rfl (by decide) rfl ?_
            refine v_goto (tgt := 6) C dX4_lies_67 (by decide) ?_
            refine v_perm [2, 3, 4, 5, 1, 0] rfl ?_
            cases h
            exact hl _ rfl
        · refine v_iconst (v := 0) C dX4_lies_61 (by decide) ?_
          refine v_istore C [(4, .int 0), (0, .ref (aM 0)), (1, .int x1), (2, .int x2), (3, .int x3), (5, .int x5)] dX4_lies_62 (by decide) rfl ?_
          refine v_iinc C [(5, .int (x5 + 1)), (4, .int 0), (0, .ref (aM 0)), (1, .int x1), (2, .int x2), (3, .int x3)] 5 dX4_lies_64 rfl rfl (by decide) rfl ?_
          refine v_goto (tgt := 6) C dX4_lies_67 (by decide) ?_
          refine v_perm [2, 3, 4, 5, 1, 0] rfl ?_
          cases h
          exact hl _ rfl
      · refine v_iconst (v := 0) C dX4_lies_61 (by decide) ?_
        refine v_istore C [(4, .int 0), (0, .ref (aM 0)), (1, .int x1), (2, .int x2), (3, .int x3), (5, .int x5)] dX4_lies_62 (by decide) rfl ?_
        refine v_iinc C [(5, .int (x5 + 1)), (4, .int 0), (0, .ref (aM 0)), (1, .int x1), (2, .int x2), (3, .int x3)] 5 dX4_lies_64 rfl rfl (by decide) rfl ?_
        refine v_goto (tgt := 6) C dX4_lies_67 (by decide) ?_
        refine v_perm [2, 3, 4, 5, 1, 0] rfl ?_
        cases h
        exact hl _ rfl
    · refine v_iconst (v := 1) C dX4_lies_57 (by decide) ?_
      refine v_goto (tgt := 62) C dX4_lies_58 (by decide) ?_
      refine v_istore C [(4, .int 1), (0, .ref (aM 0)), (1, .int x1), (2, .int x2), (3, .int x3), (5, .int x5)] dX4_lies_62 (by decide) rfl ?_
      refine v_iinc C [(5, .int (x5 + 1)), (4, .int 1), (0, .ref (aM 0)), (1, .int x1), (2, .int x2), (3, .int x3)] 5 dX4_lies_64 rfl rfl (by decide) rfl ?_
      refine v_goto (tgt := 6) C dX4_lies_67 (by decide) ?_
      refine v_perm [2, 3, 4, 5, 1, 0] rfl ?_
      cases h
      exact hl _ rfl
set_option maxHeartbeats 4000000 in
set_option maxRecDepth 100000 in
theorem t_X4_lies_L6 {p : Program} {l : Launch} {e : Env} {s : State} {m : MethodId} {args : Array Value} {below : List Frame} {meth : Method} {c : Code} {D : va_G} {A : Nat → Prop} {cI cJ : ClassId} {Q : State → Prop} (C : Cx p s m args c cX4_lies 6 RX4 D A cI cJ) {aM : Nat → Nat} {x1 : Int32} {x2 : Int32} {x3 : Int32} {thrown_M : Int32} {pins_M : (Nat → Int32)} {many_M : Int32} {nets_M : (Nat → Int32)} {lefts_M : (Nat → Int32)} {rights_M : (Nat → Int32)} {touches_M : (Nat → Int32)} {below_M : (Nat → Int64)} {reach_M : (Nat → Int64)} {tracksOf_M : (Nat → Int32)} {steps_M : (Nat → Int32)} {laid_M : Int32} {laidMany_M : Int32} {tracks_M : Int32} {laidNet_M : (Nat → Int32)} {laidLeft_M : (Nat → Int32)} {laidRight_M : (Nat → Int32)} {laidTouch_M : (Nat → Int32)} {laidTrack_M : (Nat → Int32)} {ringSize_M : Int32} {ringOf_M : (Nat → Int32)} {lays_M : Int32} {refusals_M : Int32} {n8 : Nat} {s9 : (Int32 × Int32)} {o8 : Int32} (h : lp (f_X4_lies_B6 x1 x2 x3 laidMany_M laidNet_M laidTouch_M laidTrack_M) n8 s9 = some o8) (hk : V p l e (rmO 0 0) s m args below meth c 6 D A 0 0 Q 70 [(4, .int o8)] [] (wM cI cJ aM thrown_M pins_M many_M nets_M lefts_M rights_M touches_M below_M reach_M tracksOf_M steps_M laid_M laidMany_M tracks_M laidNet_M laidLeft_M laidRight_M laidTouch_M laidTrack_M ringSize_M ringOf_M lays_M refusals_M)) : V p l e (rmO 0 0) s m args below meth c 6 D A 0 0 Q 6 [(0, .ref (aM 0)), (1, .int x1), (2, .int x2), (3, .int x3), (4, .int s9.1), (5, .int s9.2)] [] (wM cI cJ aM thrown_M pins_M many_M nets_M lefts_M rights_M touches_M below_M reach_M tracksOf_M steps_M laid_M laidMany_M tracks_M laidNet_M laidLeft_M laidRight_M laidTouch_M laidTrack_M ringSize_M ringOf_M lays_M refusals_M) := lp_ok (Pσ := fun s8 => V p l e (rmO 0 0) s m args below meth c 6 D A 0 0 Q 6 [(0, .ref (aM 0)), (1, .int x1), (2, .int x2), (3, .int x3), (4, .int s8.1), (5, .int s8.2)] [] (wM cI cJ aM thrown_M pins_M many_M nets_M lefts_M rights_M touches_M below_M reach_M tracksOf_M steps_M laid_M laidMany_M tracks_M laidNet_M laidLeft_M laidRight_M laidTouch_M laidTrack_M ringSize_M ringOf_M lays_M refusals_M)) (Pρ := fun r8 => V p l e (rmO 0 0) s m args below meth c 6 D A 0 0 Q 70 [(4, .int r8)] [] (wM cI cJ aM thrown_M pins_M many_M nets_M lefts_M rights_M touches_M below_M reach_M tracksOf_M steps_M laid_M laidMany_M tracks_M laidNet_M laidLeft_M laidRight_M laidTouch_M laidTrack_M ringSize_M ringOf_M lays_M refusals_M)) (fun s o h hl hx => t_X4_lies_B6 C s o h hl hx) n8 s9 o8 h hk
set_option maxHeartbeats 4000000 in
set_option maxRecDepth 100000 in
theorem c_X4_lies (l : Launch) (D : va_G) (cI cJ : ClassId) (aM : Nat → Nat) (thrown_M : Int32) (pins_M : (Nat → Int32)) (many_M : Int32) (nets_M : (Nat → Int32)) (lefts_M : (Nat → Int32)) (rights_M : (Nat → Int32)) (touches_M : (Nat → Int32)) (below_M : (Nat → Int64)) (reach_M : (Nat → Int64)) (tracksOf_M : (Nat → Int32)) (steps_M : (Nat → Int32)) (laid_M : Int32) (laidMany_M : Int32) (tracks_M : Int32) (laidNet_M : (Nat → Int32)) (laidLeft_M : (Nat → Int32)) (laidRight_M : (Nat → Int32)) (laidTouch_M : (Nat → Int32)) (laidTrack_M : (Nat → Int32)) (ringSize_M : Int32) (ringOf_M : (Nat → Int32)) (lays_M : Int32) (refusals_M : Int32) (x1 : Int32) (x2 : Int32) (x3 : Int32) (r : Int32) (h : f_X4_lies laidMany_M laidNet_M laidTouch_M laidTrack_M x1 x2 x3 = some r) : Cti l D cI cJ yX4_lies cX4_lies 6 (some .boolean) 0 0 [.ref (aM 0), .int x1, .int x2, .int x3] (wM cI cJ aM thrown_M pins_M many_M nets_M lefts_M rights_M touches_M below_M reach_M tracksOf_M steps_M laid_M laidMany_M tracks_M laidNet_M laidLeft_M laidRight_M laidTouch_M laidTrack_M ringSize_M ringOf_M lays_M refusals_M) (wM cI cJ aM thrown_M pins_M many_M nets_M lefts_M rights_M touches_M below_M reach_M tracksOf_M steps_M laid_M laidMany_M tracks_M laidNet_M laidLeft_M laidRight_M laidTouch_M laidTrack_M ringSize_M ringOf_M lays_M refusals_M) r := by
  refine mk_z [(0, .ref (aM 0)), (1, .int x1), (2, .int x2), (3, .int x3)] (by decide) rfl (Nat.le_of_ble_eq_true rfl) rfl (fun p e s m args below meth c A Q C hk => ?_)
  unfold f_X4_lies at h
  refine v_iconst (v := 0) C dX4_lies_0 (by decide) ?_
  refine v_istore C [(4, .int 0), (0, .ref (aM 0)), (1, .int x1), (2, .int x2), (3, .int x3)] dX4_lies_1 (by decide) rfl ?_
  refine v_iconst (v := 0) C dX4_lies_3 (by decide) ?_
  refine v_istore C [(5, .int 0), (4, .int 0), (0, .ref (aM 0)), (1, .int x1), (2, .int x2), (3, .int x3)] dX4_lies_4 (by decide) rfl ?_
  obtain ⟨r, h1, h⟩ := bind_el h
  refine v_perm [2, 3, 4, 5, 1, 0] rfl ?_
  obtain ⟨x4_1, rfl⟩ : ∃ z, z = r := ⟨_, rfl⟩
  refine t_X4_lies_L6 C (s9 := (0, 0)) h1 ?_
  show V p l e (rmO 0 0) s m args below meth c 6 D A 0 0 Q 70 [(4, .int x4_1)] [] (wM cI cJ aM thrown_M pins_M many_M nets_M lefts_M rights_M touches_M below_M reach_M tracksOf_M steps_M laid_M laidMany_M tracks_M laidNet_M laidLeft_M laidRight_M laidTouch_M laidTrack_M ringSize_M ringOf_M lays_M refusals_M)
  try dsimp only at h
  refine v_iload C 0 dX4_lies_70 rfl ?_
  have hz := (zbl_el h).1
  replace h := (zbl_el h).2
  cases h
  exact hk _ _ dX4_lies_72 hz
def f_X4_uprightAt_J92 (laidMany_M : Int32) (laidNet_M : (Nat → Int32)) (laidTouch_M : (Nat → Int32)) (laidTrack_M : (Nat → Int32)) (x1 : Int32) (x2 : Int32) (x4 : Int32) (x6 : Int32) (x7 : Int32) (s0 : Int32) : Option ((Int32 × Int32 × Int32) ⊕ (Int32 × Int32)) := if x6 = 0 then (if x2 < x7 then (some (.inl (s0, 0, x7 + 1))) else ((f_X4_lies laidMany_M laidNet_M laidTouch_M laidTrack_M x4 x1 x7).bind (fun r => match r with | r_1 => if r_1 = 0 then (some (.inl (s0, 0, x7 + 1))) else (some (.inl (s0, 1, x7 + 1)))))) else (some (.inl (s0, 1, x7 + 1)))
def f_X4_uprightAt_J87 (laidMany_M : Int32) (laidNet_M : (Nat → Int32)) (laidTouch_M : (Nat → Int32)) (laidTrack_M : (Nat → Int32)) (x1 : Int32) (x2 : Int32) (x4 : Int32) (x6 : Int32) (x7 : Int32) : Option ((Int32 × Int32 × Int32) ⊕ (Int32 × Int32)) := f_X4_uprightAt_J92 laidMany_M laidNet_M laidTouch_M laidTrack_M x1 x2 x4 x6 x7 1
def f_X4_uprightAt_J91 (laidMany_M : Int32) (laidNet_M : (Nat → Int32)) (laidTouch_M : (Nat → Int32)) (laidTrack_M : (Nat → Int32)) (x1 : Int32) (x2 : Int32) (x4 : Int32) (x6 : Int32) (x7 : Int32) : Option ((Int32 × Int32 × Int32) ⊕ (Int32 × Int32)) := f_X4_uprightAt_J92 laidMany_M laidNet_M laidTouch_M laidTrack_M x1 x2 x4 x6 x7 0
def f_X4_uprightAt_B56 (x1 : Int32) (x2 : Int32) (x3 : Int32) (x4 : Int32) (laidMany_M : Int32) (tracks_M : Int32) (laidNet_M : (Nat → Int32)) (laidTouch_M : (Nat → Int32)) (laidTrack_M : (Nat → Int32)) : (Int32 × Int32 × Int32) → Option ((Int32 × Int32 × Int32) ⊕ (Int32 × Int32))
  | (x5, x6, x7) => if tracks_M ≤ x7 then (some (.inr (x5, x6))) else (if x5 = 0 then (if x7 < x2 then (f_X4_uprightAt_J91 laidMany_M laidNet_M laidTouch_M laidTrack_M x1 x2 x4 x6 x7) else ((f_X4_lies laidMany_M laidNet_M laidTouch_M laidTrack_M x3 x1 x7).bind (fun r => match r with | r_2 => if r_2 = 0 then (f_X4_uprightAt_J91 laidMany_M laidNet_M laidTouch_M laidTrack_M x1 x2 x4 x6 x7) else (f_X4_uprightAt_J87 laidMany_M laidNet_M laidTouch_M laidTrack_M x1 x2 x4 x6 x7)))) else (f_X4_uprightAt_J87 laidMany_M laidNet_M laidTouch_M laidTrack_M x1 x2 x4 x6 x7))
def f_X4_uprightAt_J51 (laidMany_M : Int32) (tracks_M : Int32) (laidNet_M : (Nat → Int32)) (laidTouch_M : (Nat → Int32)) (laidTrack_M : (Nat → Int32)) (x1 : Int32) (x2 : Int32) (x3 : Int32) (x4 : Int32) (x5 : Int32) (s0 : Int32) : Option Int32 := (lp (f_X4_uprightAt_B56 x1 x2 x3 x4 laidMany_M tracks_M laidNet_M laidTouch_M laidTrack_M) 64 (x5, s0, 0)).bind (fun r => match r with | (x5_3, x6_4) => if x3 ≤ 0 then (if x4 ≤ 0 then (some 0) else (if x6_4 = 0 then (some 0) else (some x4))) else (if x5_3 = 0 then (if x4 ≤ 0 then (some 0) else (if x6_4 = 0 then (some 0) else (some x4))) else (some x3)))
def f_X4_uprightAt_J36 (laidMany_M : Int32) (tracks_M : Int32) (laidNet_M : (Nat → Int32)) (laidTouch_M : (Nat → Int32)) (laidTrack_M : (Nat → Int32)) (x1 : Int32) (x2 : Int32) (x3 : Int32) (x4 : Int32) (s0 : Int32) : Option Int32 := if x2 = tracks_M then (f_X4_uprightAt_J51 laidMany_M tracks_M laidNet_M laidTouch_M laidTrack_M x1 x2 x3 x4 s0 1) else (f_X4_uprightAt_J51 laidMany_M tracks_M laidNet_M laidTouch_M laidTrack_M x1 x2 x3 x4 s0 0)
def f_X4_uprightAt (pins_M : (Nat → Int32)) (laidMany_M : Int32) (tracks_M : Int32) (laidNet_M : (Nat → Int32)) (laidTouch_M : (Nat → Int32)) (laidTrack_M : (Nat → Int32)) (x1 : Int32) (x2 : Int32) : Option Int32 := bnd x1 40 (bnd ((20 : Int32) + x1) 40 (if (pins_M x1.toNatClampNeg) = (pins_M ((20 : Int32) + x1).toNatClampNeg) then (some (pins_M x1.toNatClampNeg)) else (if x2 = (-1) then (f_X4_uprightAt_J36 laidMany_M tracks_M laidNet_M laidTouch_M laidTrack_M x1 x2 (pins_M x1.toNatClampNeg) (pins_M ((20 : Int32) + x1).toNatClampNeg) 1) else (f_X4_uprightAt_J36 laidMany_M tracks_M laidNet_M laidTouch_M laidTrack_M x1 x2 (pins_M x1.toNatClampNeg) (pins_M ((20 : Int32) + x1).toNatClampNeg) 0))))
theorem cw_X4_uprightAt : CWv yX4_uprightAt cX4_uprightAt 8 (some .int) RX4 2 := ⟨m4_5, ms4_14, m1_5, m4_6, rfl, by decide, by decide, by decide +kernel⟩
set_option maxHeartbeats 4000000 in
set_option maxRecDepth 100000 in
theorem t_X4_uprightAt_J92 {p : Program} {l : Launch} {e : Env} {s : State} {m : MethodId} {args : Array Value} {below : List Frame} {meth : Method} {c : Code} {D : va_G} {A : Nat → Prop} {cI cJ : ClassId} {Q : State → Prop} (C : Cx p s m args c cX4_uprightAt 8 RX4 D A cI cJ) {aM : Nat → Nat} {thrown_M : Int32} {pins_M : (Nat → Int32)} {many_M : Int32} {nets_M : (Nat → Int32)} {lefts_M : (Nat → Int32)} {rights_M : (Nat → Int32)} {touches_M : (Nat → Int32)} {below_M : (Nat → Int64)} {reach_M : (Nat → Int64)} {tracksOf_M : (Nat → Int32)} {steps_M : (Nat → Int32)} {laid_M : Int32} {laidMany_M : Int32} {tracks_M : Int32} {laidNet_M : (Nat → Int32)} {laidLeft_M : (Nat → Int32)} {laidRight_M : (Nat → Int32)} {laidTouch_M : (Nat → Int32)} {laidTrack_M : (Nat → Int32)} {ringSize_M : Int32} {ringOf_M : (Nat → Int32)} {lays_M : Int32} {refusals_M : Int32} {x1 : Int32} {x2 : Int32} {x3 : Int32} {x4 : Int32} {x6 : Int32} {x7 : Int32} {s0 : Int32} {o8 : (Int32 × Int32 × Int32) ⊕ (Int32 × Int32)} (h : f_X4_uprightAt_J92 laidMany_M laidNet_M laidTouch_M laidTrack_M x1 x2 x4 x6 x7 s0 = some o8) (hl : ∀ s8, o8 = .inl s8 → V p l e (rmO 1 25) s m args below meth c 8 D A 0 0 Q 56 [(0, .ref (aM 0)), (1, .int x1), (2, .int x2), (3, .int x3), (4, .int x4), (5, .int s8.1), (6, .int s8.2.1), (7, .int s8.2.2)] [] (wM cI cJ aM thrown_M pins_M many_M nets_M lefts_M rights_M touches_M below_M reach_M tracksOf_M steps_M laid_M laidMany_M tracks_M laidNet_M laidLeft_M laidRight_M laidTouch_M laidTrack_M ringSize_M ringOf_M lays_M refusals_M)) (hx : ∀ r8, o8 = .inr r8 → V p l e (rmO 1 25) s m args below meth c 8 D A 0 0 Q 130 [(3, .int x3), (4, .int x4), (5, .int r8.1), (6, .int r8.2)] [] (wM cI cJ aM thrown_M pins_M many_M nets_M lefts_M rights_M touches_M below_M reach_M tracksOf_M steps_M laid_M laidMany_M tracks_M laidNet_M laidLeft_M laidRight_M laidTouch_M laidTrack_M ringSize_M ringOf_M lays_M refusals_M)) : V p l e (rmO 1 25) s m args below meth c 8 D A 0 0 Q 92 [(0, .ref (aM 0)), (1, .int x1), (2, .int x2), (3, .int x3), (4, .int x4), (6, .int x6), (7, .int x7)] [.int s0] (wM cI cJ aM thrown_M pins_M many_M nets_M lefts_M rights_M touches_M below_M reach_M tracksOf_M steps_M laid_M laidMany_M tracks_M laidNet_M laidLeft_M laidRight_M laidTouch_M laidTrack_M ringSize_M ringOf_M lays_M refusals_M) := by
  unfold f_X4_uprightAt_J92 at h
  refine v_istore C [(5, .int s0), (0, .ref (aM 0)), (1, .int x1), (2, .int x2), (3, .int x3), (4, .int x4), (6, .int x6), (7, .int x7)] dX4_uprightAt_92 (by decide) rfl ?_
  refine v_iload C 6 dX4_uprightAt_94 rfl ?_
  refine v_if_ne (tgt := 117) C dX4_uprightAt_96 (by decide) h (fun h => ?_) (fun h => ?_)
  · refine v_iload C 7 dX4_uprightAt_99 rfl ?_
    refine v_iload_n C 3 dX4_uprightAt_101 rfl rfl ?_
    refine v_icmp_gt (tgt := 121) C dX4_uprightAt_102 (by decide) h (fun h => ?_) (fun h => ?_)
    · refine v_iconst (v := 0) C dX4_uprightAt_121 (by decide) ?_
      refine v_istore C [(6, .int 0), (5, .int s0), (0, .ref (aM 0)), (1, .int x1), (2, .int x2), (3, .int x3), (4, .int x4), (7, .int x7)] dX4_uprightAt_122 (by decide) rfl ?_
      refine v_iinc C [(7, .int (x7 + 1)), (6, .int 0), (5, .int s0), (0, .ref (aM 0)), (1, .int x1), (2, .int x2), (3, .int x3), (4, .int x4)] 7 dX4_uprightAt_124 rfl rfl (by decide) rfl ?_
      refine v_goto (tgt := 56) C dX4_uprightAt_127 (by decide) ?_
      refine v_perm [3, 4, 5, 6, 7, 2, 1, 0] rfl ?_
      cases h
      exact hl _ rfl
    · refine v_aload_n C 1 dX4_uprightAt_105 rfl rfl ?_
      refine v_iload C 5 dX4_uprightAt_106 rfl ?_
      refine v_iload_n C 2 dX4_uprightAt_108 rfl rfl ?_
      refine v_iload C 7 dX4_uprightAt_109 rfl ?_
      obtain ⟨r, h1, h⟩ := bind_el h
      obtain ⟨r_1, rfl⟩ : ∃ z, z = r := ⟨_, rfl⟩
      try dsimp only at h
      refine v_callVi (As := [.int x4, .int x1, .int x7]) (st := []) (wr := []) (w1 := (wM cI cJ aM thrown_M pins_M many_M nets_M lefts_M rights_M touches_M below_M reach_M tracksOf_M steps_M laid_M laidMany_M tracks_M laidNet_M laidLeft_M laidRight_M laidTouch_M laidTrack_M ringSize_M ringOf_M lays_M refusals_M)) (ws' := (wM cI cJ aM thrown_M pins_M many_M nets_M lefts_M rights_M touches_M below_M reach_M tracksOf_M steps_M laid_M laidMany_M tracks_M laidNet_M laidLeft_M laidRight_M laidTouch_M laidTrack_M ringSize_M ringOf_M lays_M refusals_M)) (isC := [0, 1, 2, 3, 4, 5, 6, 7, 8, 9, 10, 11, 12, 13, 14, 15]) (isR := []) (pm := [0, 1, 2, 3, 4, 5, 6, 7, 8, 9, 10, 11, 12, 13, 14, 15]) C (c_X4_lies l D cI cJ aM thrown_M pins_M many_M nets_M lefts_M rights_M touches_M below_M reach_M tracksOf_M steps_M laid_M laidMany_M tracks_M laidNet_M laidLeft_M laidRight_M laidTouch_M laidTrack_M ringSize_M ringOf_M lays_M refusals_M x4 x1 x7 r_1 h1) cw_X4_lies 0 rfl rfl m4_7 dX4_uprightAt_111 rfl ⟨Nat.le_of_ble_eq_true rfl, Nat.le_of_ble_eq_true rfl⟩ (Nat.le_of_ble_eq_true rfl) ⟨Nat.le_refl 0, Nat.le_refl 0⟩ ⟨rfl, rfl, rfl, rfl, by decide, rfl, rfl⟩ ?_
      refine v_if_eq (tgt := 121) C dX4_uprightAt_114 (by decide) h (fun h => ?_) (fun h => ?_)
      · refine v_iconst (v := 0) C dX4_uprightAt_121 (by decide) ?_
        refine v_istore C [(6, .int 0), (5, .int s0), (0, .ref (aM 0)), (1, .int x1), (2, .int x2), (3, .int x3), (4, .int x4), (7, .int x7)] dX4_uprightAt_122 (by decide) rfl ?_
        refine v_iinc C [(7, .int (x7 + 1)), (6, .int 0), (5, .int s0), (0, .ref (aM 0)), (1, .int x1), (2, .int x2), (3, .int x3), (4, .int x4)] 7 dX4_uprightAt_124 rfl rfl (by decide) rfl ?_
        refine v_goto (tgt := 56) C dX4_uprightAt_127 (by decide) ?_
        refine v_perm [3, 4, 5, 6, 7, 2, 1, 0] rfl ?_
        cases h
        exact hl _ rfl
      · refine v_iconst (v := 1) C dX4_uprightAt_117 (by decide) ?_
        refine v_goto (tgt := 122) C dX4_uprightAt_118 (by decide) ?_
        refine v_istore C [(6, .int 1), (5, .int s0), (0, .ref (aM 0)), (1, .int x1), (2, .int x2), (3, .int x3), (4, .int x4), (7, .int x7)] dX4_uprightAt_122 (by decide) rfl ?_
        refine v_iinc C [(7, .int (x7 + 1)), (6, .int 1), (5, .int s0), (0, .ref (aM 0)), (1, .int x1), (2, .int x2), (3, .int x3), (4, .int x4)] 7 dX4_uprightAt_124 rfl rfl (by decide) rfl ?_
        refine v_goto (tgt := 56) C dX4_uprightAt_127 (by decide) ?_
        refine v_perm [3, 4, 5, 6, 7, 2, 1, 0] rfl ?_
        cases h
        exact hl _ rfl
  · refine v_iconst (v := 1) C dX4_uprightAt_117 (by decide) ?_
    refine v_goto (tgt := 122) C dX4_uprightAt_118 (by decide) ?_
    refine v_istore C [(6, .int 1), (5, .int s0), (0, .ref (aM 0)), (1, .int x1), (2, .int x2), (3, .int x3), (4, .int x4), (7, .int x7)] dX4_uprightAt_122 (by decide) rfl ?_
    refine v_iinc C [(7, .int (x7 + 1)), (6, .int 1), (5, .int s0), (0, .ref (aM 0)), (1, .int x1), (2, .int x2), (3, .int x3), (4, .int x4)] 7 dX4_uprightAt_124 rfl rfl (by decide) rfl ?_
    refine v_goto (tgt := 56) C dX4_uprightAt_127 (by decide) ?_
    refine v_perm [3, 4, 5, 6, 7, 2, 1, 0] rfl ?_
    cases h
    exact hl _ rfl
set_option maxHeartbeats 4000000 in
set_option maxRecDepth 100000 in
theorem t_X4_uprightAt_J87 {p : Program} {l : Launch} {e : Env} {s : State} {m : MethodId} {args : Array Value} {below : List Frame} {meth : Method} {c : Code} {D : va_G} {A : Nat → Prop} {cI cJ : ClassId} {Q : State → Prop} (C : Cx p s m args c cX4_uprightAt 8 RX4 D A cI cJ) {aM : Nat → Nat} {thrown_M : Int32} {pins_M : (Nat → Int32)} {many_M : Int32} {nets_M : (Nat → Int32)} {lefts_M : (Nat → Int32)} {rights_M : (Nat → Int32)} {touches_M : (Nat → Int32)} {below_M : (Nat → Int64)} {reach_M : (Nat → Int64)} {tracksOf_M : (Nat → Int32)} {steps_M : (Nat → Int32)} {laid_M : Int32} {laidMany_M : Int32} {tracks_M : Int32} {laidNet_M : (Nat → Int32)} {laidLeft_M : (Nat → Int32)} {laidRight_M : (Nat → Int32)} {laidTouch_M : (Nat → Int32)} {laidTrack_M : (Nat → Int32)} {ringSize_M : Int32} {ringOf_M : (Nat → Int32)} {lays_M : Int32} {refusals_M : Int32} {x1 : Int32} {x2 : Int32} {x3 : Int32} {x4 : Int32} {x6 : Int32} {x7 : Int32} {o8 : (Int32 × Int32 × Int32) ⊕ (Int32 × Int32)} (h : f_X4_uprightAt_J87 laidMany_M laidNet_M laidTouch_M laidTrack_M x1 x2 x4 x6 x7 = some o8) (hl : ∀ s8, o8 = .inl s8 → V p l e (rmO 1 25) s m args below meth c 8 D A 0 0 Q 56 [(0, .ref (aM 0)), (1, .int x1), (2, .int x2), (3, .int x3), (4, .int x4), (5, .int s8.1), (6, .int s8.2.1), (7, .int s8.2.2)] [] (wM cI cJ aM thrown_M pins_M many_M nets_M lefts_M rights_M touches_M below_M reach_M tracksOf_M steps_M laid_M laidMany_M tracks_M laidNet_M laidLeft_M laidRight_M laidTouch_M laidTrack_M ringSize_M ringOf_M lays_M refusals_M)) (hx : ∀ r8, o8 = .inr r8 → V p l e (rmO 1 25) s m args below meth c 8 D A 0 0 Q 130 [(3, .int x3), (4, .int x4), (5, .int r8.1), (6, .int r8.2)] [] (wM cI cJ aM thrown_M pins_M many_M nets_M lefts_M rights_M touches_M below_M reach_M tracksOf_M steps_M laid_M laidMany_M tracks_M laidNet_M laidLeft_M laidRight_M laidTouch_M laidTrack_M ringSize_M ringOf_M lays_M refusals_M)) : V p l e (rmO 1 25) s m args below meth c 8 D A 0 0 Q 87 [(0, .ref (aM 0)), (1, .int x1), (2, .int x2), (3, .int x3), (4, .int x4), (6, .int x6), (7, .int x7)] [] (wM cI cJ aM thrown_M pins_M many_M nets_M lefts_M rights_M touches_M below_M reach_M tracksOf_M steps_M laid_M laidMany_M tracks_M laidNet_M laidLeft_M laidRight_M laidTouch_M laidTrack_M ringSize_M ringOf_M lays_M refusals_M) := by
  unfold f_X4_uprightAt_J87 at h
  refine v_iconst (v := 1) C dX4_uprightAt_87 (by decide) ?_
  refine v_goto (tgt := 92) C dX4_uprightAt_88 (by decide) ?_
  refine v_perm [0, 1, 2, 3, 4, 5, 6] rfl ?_
  exact t_X4_uprightAt_J92 C (laidMany_M := laidMany_M) (laidNet_M := laidNet_M) (laidTouch_M := laidTouch_M) (laidTrack_M := laidTrack_M) (x1 := x1) (x2 := x2) (x4 := x4) (x6 := x6) (x7 := x7) (s0 := 1) h hl hx
set_option maxHeartbeats 4000000 in
set_option maxRecDepth 100000 in
theorem t_X4_uprightAt_J91 {p : Program} {l : Launch} {e : Env} {s : State} {m : MethodId} {args : Array Value} {below : List Frame} {meth : Method} {c : Code} {D : va_G} {A : Nat → Prop} {cI cJ : ClassId} {Q : State → Prop} (C : Cx p s m args c cX4_uprightAt 8 RX4 D A cI cJ) {aM : Nat → Nat} {thrown_M : Int32} {pins_M : (Nat → Int32)} {many_M : Int32} {nets_M : (Nat → Int32)} {lefts_M : (Nat → Int32)} {rights_M : (Nat → Int32)} {touches_M : (Nat → Int32)} {below_M : (Nat → Int64)} {reach_M : (Nat → Int64)} {tracksOf_M : (Nat → Int32)} {steps_M : (Nat → Int32)} {laid_M : Int32} {laidMany_M : Int32} {tracks_M : Int32} {laidNet_M : (Nat → Int32)} {laidLeft_M : (Nat → Int32)} {laidRight_M : (Nat → Int32)} {laidTouch_M : (Nat → Int32)} {laidTrack_M : (Nat → Int32)} {ringSize_M : Int32} {ringOf_M : (Nat → Int32)} {lays_M : Int32} {refusals_M : Int32} {x1 : Int32} {x2 : Int32} {x3 : Int32} {x4 : Int32} {x6 : Int32} {x7 : Int32} {o8 : (Int32 × Int32 × Int32) ⊕ (Int32 × Int32)} (h : f_X4_uprightAt_J91 laidMany_M laidNet_M laidTouch_M laidTrack_M x1 x2 x4 x6 x7 = some o8) (hl : ∀ s8, o8 = .inl s8 → V p l e (rmO 1 25) s m args below meth c 8 D A 0 0 Q 56 [(0, .ref (aM 0)), (1, .int x1), (2, .int x2), (3, .int x3), (4, .int x4), (5, .int s8.1), (6, .int s8.2.1), (7, .int s8.2.2)] [] (wM cI cJ aM thrown_M pins_M many_M nets_M lefts_M rights_M touches_M below_M reach_M tracksOf_M steps_M laid_M laidMany_M tracks_M laidNet_M laidLeft_M laidRight_M laidTouch_M laidTrack_M ringSize_M ringOf_M lays_M refusals_M)) (hx : ∀ r8, o8 = .inr r8 → V p l e (rmO 1 25) s m args below meth c 8 D A 0 0 Q 130 [(3, .int x3), (4, .int x4), (5, .int r8.1), (6, .int r8.2)] [] (wM cI cJ aM thrown_M pins_M many_M nets_M lefts_M rights_M touches_M below_M reach_M tracksOf_M steps_M laid_M laidMany_M tracks_M laidNet_M laidLeft_M laidRight_M laidTouch_M laidTrack_M ringSize_M ringOf_M lays_M refusals_M)) : V p l e (rmO 1 25) s m args below meth c 8 D A 0 0 Q 91 [(0, .ref (aM 0)), (1, .int x1), (2, .int x2), (3, .int x3), (4, .int x4), (6, .int x6), (7, .int x7)] [] (wM cI cJ aM thrown_M pins_M many_M nets_M lefts_M rights_M touches_M below_M reach_M tracksOf_M steps_M laid_M laidMany_M tracks_M laidNet_M laidLeft_M laidRight_M laidTouch_M laidTrack_M ringSize_M ringOf_M lays_M refusals_M) := by
  unfold f_X4_uprightAt_J91 at h
  refine v_iconst (v := 0) C dX4_uprightAt_91 (by decide) ?_
  refine v_perm [0, 1, 2, 3, 4, 5, 6] rfl ?_
  exact t_X4_uprightAt_J92 C (laidMany_M := laidMany_M) (laidNet_M := laidNet_M) (laidTouch_M := laidTouch_M) (laidTrack_M := laidTrack_M) (x1 := x1) (x2 := x2) (x4 := x4) (x6 := x6) (x7 := x7) (s0 := 0) h hl hx
set_option maxHeartbeats 4000000 in
set_option maxRecDepth 100000 in
theorem t_X4_uprightAt_B56 {p : Program} {l : Launch} {e : Env} {s : State} {m : MethodId} {args : Array Value} {below : List Frame} {meth : Method} {c : Code} {D : va_G} {A : Nat → Prop} {cI cJ : ClassId} {Q : State → Prop} (C : Cx p s m args c cX4_uprightAt 8 RX4 D A cI cJ) {aM : Nat → Nat} {x1 : Int32} {x2 : Int32} {x3 : Int32} {x4 : Int32} {thrown_M : Int32} {pins_M : (Nat → Int32)} {many_M : Int32} {nets_M : (Nat → Int32)} {lefts_M : (Nat → Int32)} {rights_M : (Nat → Int32)} {touches_M : (Nat → Int32)} {below_M : (Nat → Int64)} {reach_M : (Nat → Int64)} {tracksOf_M : (Nat → Int32)} {steps_M : (Nat → Int32)} {laid_M : Int32} {laidMany_M : Int32} {tracks_M : Int32} {laidNet_M : (Nat → Int32)} {laidLeft_M : (Nat → Int32)} {laidRight_M : (Nat → Int32)} {laidTouch_M : (Nat → Int32)} {laidTrack_M : (Nat → Int32)} {ringSize_M : Int32} {ringOf_M : (Nat → Int32)} {lays_M : Int32} {refusals_M : Int32} (s8 : (Int32 × Int32 × Int32)) (o8 : (Int32 × Int32 × Int32) ⊕ (Int32 × Int32)) (h : f_X4_uprightAt_B56 x1 x2 x3 x4 laidMany_M tracks_M laidNet_M laidTouch_M laidTrack_M s8 = some o8) (hl : ∀ s8, o8 = .inl s8 → V p l e (rmO 1 25) s m args below meth c 8 D A 0 0 Q 56 [(0, .ref (aM 0)), (1, .int x1), (2, .int x2), (3, .int x3), (4, .int x4), (5, .int s8.1), (6, .int s8.2.1), (7, .int s8.2.2)] [] (wM cI cJ aM thrown_M pins_M many_M nets_M lefts_M rights_M touches_M below_M reach_M tracksOf_M steps_M laid_M laidMany_M tracks_M laidNet_M laidLeft_M laidRight_M laidTouch_M laidTrack_M ringSize_M ringOf_M lays_M refusals_M)) (hx : ∀ r8, o8 = .inr r8 → V p l e (rmO 1 25) s m args below meth c 8 D A 0 0 Q 130 [(3, .int x3), (4, .int x4), (5, .int r8.1), (6, .int r8.2)] [] (wM cI cJ aM thrown_M pins_M many_M nets_M lefts_M rights_M touches_M below_M reach_M tracksOf_M steps_M laid_M laidMany_M tracks_M laidNet_M laidLeft_M laidRight_M laidTouch_M laidTrack_M ringSize_M ringOf_M lays_M refusals_M)) : V p l e (rmO 1 25) s m args below meth c 8 D A 0 0 Q 56 [(0, .ref (aM 0)), (1, .int x1), (2, .int x2), (3, .int x3), (4, .int x4), (5, .int s8.1), (6, .int s8.2.1), (7, .int s8.2.2)] [] (wM cI cJ aM thrown_M pins_M many_M nets_M lefts_M rights_M touches_M below_M reach_M tracksOf_M steps_M laid_M laidMany_M tracks_M laidNet_M laidLeft_M laidRight_M laidTouch_M laidTrack_M ringSize_M ringOf_M lays_M refusals_M) := by
  obtain ⟨x5, x6, x7⟩ := s8
  unfold f_X4_uprightAt_B56 at h
  show V p l e (rmO 1 25) s m args below meth c 8 D A 0 0 Q 56 [(0, .ref (aM 0)), (1, .int x1), (2, .int x2), (3, .int x3), (4, .int x4), (5, .int x5), (6, .int x6), (7, .int x7)] [] (wM cI cJ aM thrown_M pins_M many_M nets_M lefts_M rights_M touches_M below_M reach_M tracksOf_M steps_M laid_M laidMany_M tracks_M laidNet_M laidLeft_M laidRight_M laidTouch_M laidTrack_M ringSize_M ringOf_M lays_M refusals_M)
  refine v_iload C 7 dX4_uprightAt_56 rfl ?_
  refine v_aload_n C 0 dX4_uprightAt_58 rfl rfl ?_
  refine v_get C 0 13 iuX4 rfl rfl (by decide) m3_66 rfl rfl dX4_uprightAt_59 ?_
  refine v_icmp_ge (tgt := 130) C dX4_uprightAt_62 (by decide) h (fun h => ?_) (fun h => ?_)
  · refine v_perm [3, 4, 5, 6] rfl ?_
    cases h
    exact hx _ rfl
  · refine v_iload C 5 dX4_uprightAt_65 rfl ?_
    refine v_if_ne (tgt := 87) C dX4_uprightAt_67 (by decide) h (fun h => ?_) (fun h => ?_)
    · refine v_iload C 7 dX4_uprightAt_70 rfl ?_
      refine v_iload_n C 2 dX4_uprightAt_72 rfl rfl ?_
      refine v_icmp_lt (tgt := 91) C dX4_uprightAt_73 (by decide) h (fun h => ?_) (fun h => ?_)
      · refine v_perm [0, 1, 2, 3, 4, 6, 7] rfl ?_
        exact t_X4_uprightAt_J91 C (laidMany_M := laidMany_M) (laidNet_M := laidNet_M) (laidTouch_M := laidTouch_M) (laidTrack_M := laidTrack_M) (x1 := x1) (x2 := x2) (x4 := x4) (x6 := x6) (x7 := x7) h hl hx
      · refine v_aload_n C 0 dX4_uprightAt_76 rfl rfl ?_
        refine v_iload_n C 3 dX4_uprightAt_77 rfl rfl ?_
        refine v_iload_n C 1 dX4_uprightAt_78 rfl rfl ?_
        refine v_iload C 7 dX4_uprightAt_79 rfl ?_
        obtain ⟨r, h1, h⟩ := bind_el h
        obtain ⟨r_2, rfl⟩ : ∃ z, z = r := ⟨_, rfl⟩
        try dsimp only at h
        refine v_callVi (As := [.int x3, .int x1, .int x7]) (st := []) (wr := []) (w1 := (wM cI cJ aM thrown_M pins_M many_M nets_M lefts_M rights_M touches_M below_M reach_M tracksOf_M steps_M laid_M laidMany_M tracks_M laidNet_M laidLeft_M laidRight_M laidTouch_M laidTrack_M ringSize_M ringOf_M lays_M refusals_M)) (ws' := (wM cI cJ aM thrown_M pins_M many_M nets_M lefts_M rights_M touches_M below_M reach_M tracksOf_M steps_M laid_M laidMany_M tracks_M laidNet_M laidLeft_M laidRight_M laidTouch_M laidTrack_M ringSize_M ringOf_M lays_M refusals_M)) (isC := [0, 1, 2, 3, 4, 5, 6, 7, 8, 9, 10, 11, 12, 13, 14, 15]) (isR := []) (pm := [0, 1, 2, 3, 4, 5, 6, 7, 8, 9, 10, 11, 12, 13, 14, 15]) C (c_X4_lies l D cI cJ aM thrown_M pins_M many_M nets_M lefts_M rights_M touches_M below_M reach_M tracksOf_M steps_M laid_M laidMany_M tracks_M laidNet_M laidLeft_M laidRight_M laidTouch_M laidTrack_M ringSize_M ringOf_M lays_M refusals_M x3 x1 x7 r_2 h1) cw_X4_lies 0 rfl rfl m4_7 dX4_uprightAt_81 rfl ⟨Nat.le_of_ble_eq_true rfl, Nat.le_of_ble_eq_true rfl⟩ (Nat.le_of_ble_eq_true rfl) ⟨Nat.le_refl 0, Nat.le_refl 0⟩ ⟨rfl, rfl, rfl, rfl, by decide, rfl, rfl⟩ ?_
        refine v_if_eq (tgt := 91) C dX4_uprightAt_84 (by decide) h (fun h => ?_) (fun h => ?_)
        · refine v_perm [0, 1, 2, 3, 4, 6, 7] rfl ?_
          exact t_X4_uprightAt_J91 C (laidMany_M := laidMany_M) (laidNet_M := laidNet_M) (laidTouch_M := laidTouch_M) (laidTrack_M := laidTrack_M) (x1 := x1) (x2 := x2) (x4 := x4) (x6 := x6) (x7 := x7) h hl hx
        · refine v_perm [0, 1, 2, 3, 4, 6, 7] rfl ?_
          exact t_X4_uprightAt_J87 C (laidMany_M := laidMany_M) (laidNet_M := laidNet_M) (laidTouch_M := laidTouch_M) (laidTrack_M := laidTrack_M) (x1 := x1) (x2 := x2) (x4 := x4) (x6 := x6) (x7 := x7) h hl hx
    · refine v_perm [0, 1, 2, 3, 4, 6, 7] rfl ?_
      exact t_X4_uprightAt_J87 C (laidMany_M := laidMany_M) (laidNet_M := laidNet_M) (laidTouch_M := laidTouch_M) (laidTrack_M := laidTrack_M) (x1 := x1) (x2 := x2) (x4 := x4) (x6 := x6) (x7 := x7) h hl hx
set_option maxHeartbeats 4000000 in
set_option maxRecDepth 100000 in
theorem t_X4_uprightAt_L56 {p : Program} {l : Launch} {e : Env} {s : State} {m : MethodId} {args : Array Value} {below : List Frame} {meth : Method} {c : Code} {D : va_G} {A : Nat → Prop} {cI cJ : ClassId} {Q : State → Prop} (C : Cx p s m args c cX4_uprightAt 8 RX4 D A cI cJ) {aM : Nat → Nat} {x1 : Int32} {x2 : Int32} {x3 : Int32} {x4 : Int32} {thrown_M : Int32} {pins_M : (Nat → Int32)} {many_M : Int32} {nets_M : (Nat → Int32)} {lefts_M : (Nat → Int32)} {rights_M : (Nat → Int32)} {touches_M : (Nat → Int32)} {below_M : (Nat → Int64)} {reach_M : (Nat → Int64)} {tracksOf_M : (Nat → Int32)} {steps_M : (Nat → Int32)} {laid_M : Int32} {laidMany_M : Int32} {tracks_M : Int32} {laidNet_M : (Nat → Int32)} {laidLeft_M : (Nat → Int32)} {laidRight_M : (Nat → Int32)} {laidTouch_M : (Nat → Int32)} {laidTrack_M : (Nat → Int32)} {ringSize_M : Int32} {ringOf_M : (Nat → Int32)} {lays_M : Int32} {refusals_M : Int32} {n8 : Nat} {s9 : (Int32 × Int32 × Int32)} {o8 : (Int32 × Int32)} (h : lp (f_X4_uprightAt_B56 x1 x2 x3 x4 laidMany_M tracks_M laidNet_M laidTouch_M laidTrack_M) n8 s9 = some o8) (hk : V p l e (rmO 1 25) s m args below meth c 8 D A 0 0 Q 130 [(3, .int x3), (4, .int x4), (5, .int o8.1), (6, .int o8.2)] [] (wM cI cJ aM thrown_M pins_M many_M nets_M lefts_M rights_M touches_M below_M reach_M tracksOf_M steps_M laid_M laidMany_M tracks_M laidNet_M laidLeft_M laidRight_M laidTouch_M laidTrack_M ringSize_M ringOf_M lays_M refusals_M)) : V p l e (rmO 1 25) s m args below meth c 8 D A 0 0 Q 56 [(0, .ref (aM 0)), (1, .int x1), (2, .int x2), (3, .int x3), (4, .int x4), (5, .int s9.1), (6, .int s9.2.1), (7, .int s9.2.2)] [] (wM cI cJ aM thrown_M pins_M many_M nets_M lefts_M rights_M touches_M below_M reach_M tracksOf_M steps_M laid_M laidMany_M tracks_M laidNet_M laidLeft_M laidRight_M laidTouch_M laidTrack_M ringSize_M ringOf_M lays_M refusals_M) := lp_ok (Pσ := fun s8 => V p l e (rmO 1 25) s m args below meth c 8 D A 0 0 Q 56 [(0, .ref (aM 0)), (1, .int x1), (2, .int x2), (3, .int x3), (4, .int x4), (5, .int s8.1), (6, .int s8.2.1), (7, .int s8.2.2)] [] (wM cI cJ aM thrown_M pins_M many_M nets_M lefts_M rights_M touches_M below_M reach_M tracksOf_M steps_M laid_M laidMany_M tracks_M laidNet_M laidLeft_M laidRight_M laidTouch_M laidTrack_M ringSize_M ringOf_M lays_M refusals_M)) (Pρ := fun r8 => V p l e (rmO 1 25) s m args below meth c 8 D A 0 0 Q 130 [(3, .int x3), (4, .int x4), (5, .int r8.1), (6, .int r8.2)] [] (wM cI cJ aM thrown_M pins_M many_M nets_M lefts_M rights_M touches_M below_M reach_M tracksOf_M steps_M laid_M laidMany_M tracks_M laidNet_M laidLeft_M laidRight_M laidTouch_M laidTrack_M ringSize_M ringOf_M lays_M refusals_M)) (fun s o h hl hx => t_X4_uprightAt_B56 C s o h hl hx) n8 s9 o8 h hk
set_option maxHeartbeats 4000000 in
set_option maxRecDepth 100000 in
theorem t_X4_uprightAt_J51 {p : Program} {l : Launch} {e : Env} {s : State} {m : MethodId} {args : Array Value} {below : List Frame} {meth : Method} {c : Code} {D : va_G} {A : Nat → Prop} {cI cJ : ClassId} {Q : State → Prop} (C : Cx p s m args c cX4_uprightAt 8 RX4 D A cI cJ) {aM : Nat → Nat} {thrown_M : Int32} {pins_M : (Nat → Int32)} {many_M : Int32} {nets_M : (Nat → Int32)} {lefts_M : (Nat → Int32)} {rights_M : (Nat → Int32)} {touches_M : (Nat → Int32)} {below_M : (Nat → Int64)} {reach_M : (Nat → Int64)} {tracksOf_M : (Nat → Int32)} {steps_M : (Nat → Int32)} {laid_M : Int32} {laidMany_M : Int32} {tracks_M : Int32} {laidNet_M : (Nat → Int32)} {laidLeft_M : (Nat → Int32)} {laidRight_M : (Nat → Int32)} {laidTouch_M : (Nat → Int32)} {laidTrack_M : (Nat → Int32)} {ringSize_M : Int32} {ringOf_M : (Nat → Int32)} {lays_M : Int32} {refusals_M : Int32} {x1 : Int32} {x2 : Int32} {x3 : Int32} {x4 : Int32} {x5 : Int32} {s0 : Int32} {r : Int32} (h : f_X4_uprightAt_J51 laidMany_M tracks_M laidNet_M laidTouch_M laidTrack_M x1 x2 x3 x4 x5 s0 = some r) (hk : ∀ (pc : Nat) (lv : List (Nat × Value)), decode cX4_uprightAt pc = .ok (.ireturn, 1) → V p l e (rmO 1 25) s m args below meth c 8 D A 0 0 Q pc lv [.int r] (wM cI cJ aM thrown_M pins_M many_M nets_M lefts_M rights_M touches_M below_M reach_M tracksOf_M steps_M laid_M laidMany_M tracks_M laidNet_M laidLeft_M laidRight_M laidTouch_M laidTrack_M ringSize_M ringOf_M lays_M refusals_M)) : V p l e (rmO 1 25) s m args below meth c 8 D A 0 0 Q 51 [(0, .ref (aM 0)), (1, .int x1), (2, .int x2), (3, .int x3), (4, .int x4), (5, .int x5)] [.int s0] (wM cI cJ aM thrown_M pins_M many_M nets_M lefts_M rights_M touches_M below_M reach_M tracksOf_M steps_M laid_M laidMany_M tracks_M laidNet_M laidLeft_M laidRight_M laidTouch_M laidTrack_M ringSize_M ringOf_M lays_M refusals_M) := by
  unfold f_X4_uprightAt_J51 at h
  refine v_istore C [(6, .int s0), (0, .ref (aM 0)), (1, .int x1), (2, .int x2), (3, .int x3), (4, .int x4), (5, .int x5)] dX4_uprightAt_51 (by decide) rfl ?_
  refine v_iconst (v := 0) C dX4_uprightAt_53 (by decide) ?_
  refine v_istore C [(7, .int 0), (6, .int s0), (0, .ref (aM 0)), (1, .int x1), (2, .int x2), (3, .int x3), (4, .int x4), (5, .int x5)] dX4_uprightAt_54 (by decide) rfl ?_
  obtain ⟨r, h1, h⟩ := bind_el h
  refine v_perm [2, 3, 4, 5, 6, 7, 1, 0] rfl ?_
  obtain ⟨x5_3, x6_4⟩ := r
  refine t_X4_uprightAt_L56 C (s9 := (x5, s0, 0)) h1 ?_
  show V p l e (rmO 1 25) s m args below meth c 8 D A 0 0 Q 130 [(3, .int x3), (4, .int x4), (5, .int x5_3), (6, .int x6_4)] [] (wM cI cJ aM thrown_M pins_M many_M nets_M lefts_M rights_M touches_M below_M reach_M tracksOf_M steps_M laid_M laidMany_M tracks_M laidNet_M laidLeft_M laidRight_M laidTouch_M laidTrack_M ringSize_M ringOf_M lays_M refusals_M)
  try dsimp only at h
  refine v_iload_n C 0 dX4_uprightAt_130 rfl rfl ?_
  refine v_if_le (tgt := 143) C dX4_uprightAt_131 (by decide) h (fun h => ?_) (fun h => ?_)
  · refine v_iload C 1 dX4_uprightAt_143 rfl ?_
    refine v_if_le (tgt := 158) C dX4_uprightAt_145 (by decide) h (fun h => ?_) (fun h => ?_)
    · refine v_iconst (v := 0) C dX4_uprightAt_158 (by decide) ?_
      cases h
      exact hk _ _ dX4_uprightAt_159
    · refine v_iload C 3 dX4_uprightAt_148 rfl ?_
      refine v_if_eq (tgt := 158) C dX4_uprightAt_150 (by decide) h (fun h => ?_) (fun h => ?_)
      · refine v_iconst (v := 0) C dX4_uprightAt_158 (by decide) ?_
        cases h
        exact hk _ _ dX4_uprightAt_159
      · refine v_iload C 1 dX4_uprightAt_153 rfl ?_
        refine v_goto (tgt := 159) C dX4_uprightAt_155 (by decide) ?_
        cases h
        exact hk _ _ dX4_uprightAt_159
  · refine v_iload C 2 dX4_uprightAt_134 rfl ?_
    refine v_if_eq (tgt := 143) C dX4_uprightAt_136 (by decide) h (fun h => ?_) (fun h => ?_)
    · refine v_iload C 1 dX4_uprightAt_143 rfl ?_
      refine v_if_le (tgt := 158) C dX4_uprightAt_145 (by decide) h (fun h => ?_) (fun h => ?_)
      · refine v_iconst (v := 0) C dX4_uprightAt_158 (by decide) ?_
        cases h
        exact hk _ _ dX4_uprightAt_159
      · refine v_iload C 3 dX4_uprightAt_148 rfl ?_
        refine v_if_eq (tgt := 158) C dX4_uprightAt_150 (by decide) h (fun h => ?_) (fun h => ?_)
        · refine v_iconst (v := 0) C dX4_uprightAt_158 (by decide) ?_
          cases h
          exact hk _ _ dX4_uprightAt_159
        · refine v_iload C 1 dX4_uprightAt_153 rfl ?_
          refine v_goto (tgt := 159) C dX4_uprightAt_155 (by decide) ?_
          cases h
          exact hk _ _ dX4_uprightAt_159
    · refine v_iload_n C 0 dX4_uprightAt_139 rfl rfl ?_
      refine v_goto (tgt := 159) C dX4_uprightAt_140 (by decide) ?_
      cases h
      exact hk _ _ dX4_uprightAt_159
set_option maxHeartbeats 4000000 in
set_option maxRecDepth 100000 in
theorem t_X4_uprightAt_J36 {p : Program} {l : Launch} {e : Env} {s : State} {m : MethodId} {args : Array Value} {below : List Frame} {meth : Method} {c : Code} {D : va_G} {A : Nat → Prop} {cI cJ : ClassId} {Q : State → Prop} (C : Cx p s m args c cX4_uprightAt 8 RX4 D A cI cJ) {aM : Nat → Nat} {thrown_M : Int32} {pins_M : (Nat → Int32)} {many_M : Int32} {nets_M : (Nat → Int32)} {lefts_M : (Nat → Int32)} {rights_M : (Nat → Int32)} {touches_M : (Nat → Int32)} {below_M : (Nat → Int64)} {reach_M : (Nat → Int64)} {tracksOf_M : (Nat → Int32)} {steps_M : (Nat → Int32)} {laid_M : Int32} {laidMany_M : Int32} {tracks_M : Int32} {laidNet_M : (Nat → Int32)} {laidLeft_M : (Nat → Int32)} {laidRight_M : (Nat → Int32)} {laidTouch_M : (Nat → Int32)} {laidTrack_M : (Nat → Int32)} {ringSize_M : Int32} {ringOf_M : (Nat → Int32)} {lays_M : Int32} {refusals_M : Int32} {x1 : Int32} {x2 : Int32} {x3 : Int32} {x4 : Int32} {s0 : Int32} {r : Int32} (h : f_X4_uprightAt_J36 laidMany_M tracks_M laidNet_M laidTouch_M laidTrack_M x1 x2 x3 x4 s0 = some r) (hk : ∀ (pc : Nat) (lv : List (Nat × Value)), decode cX4_uprightAt pc = .ok (.ireturn, 1) → V p l e (rmO 1 25) s m args below meth c 8 D A 0 0 Q pc lv [.int r] (wM cI cJ aM thrown_M pins_M many_M nets_M lefts_M rights_M touches_M below_M reach_M tracksOf_M steps_M laid_M laidMany_M tracks_M laidNet_M laidLeft_M laidRight_M laidTouch_M laidTrack_M ringSize_M ringOf_M lays_M refusals_M)) : V p l e (rmO 1 25) s m args below meth c 8 D A 0 0 Q 36 [(0, .ref (aM 0)), (1, .int x1), (2, .int x2), (3, .int x3), (4, .int x4)] [.int s0] (wM cI cJ aM thrown_M pins_M many_M nets_M lefts_M rights_M touches_M below_M reach_M tracksOf_M steps_M laid_M laidMany_M tracks_M laidNet_M laidLeft_M laidRight_M laidTouch_M laidTrack_M ringSize_M ringOf_M lays_M refusals_M) := by
  unfold f_X4_uprightAt_J36 at h
  refine v_istore C [(5, .int s0), (0, .ref (aM 0)), (1, .int x1), (2, .int x2), (3, .int x3), (4, .int x4)] dX4_uprightAt_36 (by decide) rfl ?_
  refine v_iload_n C 3 dX4_uprightAt_38 rfl rfl ?_
  refine v_aload_n C 1 dX4_uprightAt_39 rfl rfl ?_
  refine v_get C 0 13 iuX4 rfl rfl (by decide) m3_66 rfl rfl dX4_uprightAt_40 ?_
  refine v_icmp_ne (tgt := 50) C dX4_uprightAt_43 (by decide) h (fun h => ?_) (fun h => ?_)
  · refine v_iconst (v := 1) C dX4_uprightAt_46 (by decide) ?_
    refine v_goto (tgt := 51) C dX4_uprightAt_47 (by decide) ?_
    refine v_perm [1, 2, 3, 4, 5, 0] rfl ?_
    exact t_X4_uprightAt_J51 C (laidMany_M := laidMany_M) (tracks_M := tracks_M) (laidNet_M := laidNet_M) (laidTouch_M := laidTouch_M) (laidTrack_M := laidTrack_M) (x1 := x1) (x2 := x2) (x3 := x3) (x4 := x4) (x5 := s0) (s0 := 1) h hk
  · refine v_iconst (v := 0) C dX4_uprightAt_50 (by decide) ?_
    refine v_perm [1, 2, 3, 4, 5, 0] rfl ?_
    exact t_X4_uprightAt_J51 C (laidMany_M := laidMany_M) (tracks_M := tracks_M) (laidNet_M := laidNet_M) (laidTouch_M := laidTouch_M) (laidTrack_M := laidTrack_M) (x1 := x1) (x2 := x2) (x3 := x3) (x4 := x4) (x5 := s0) (s0 := 0) h hk
set_option maxHeartbeats 4000000 in
set_option maxRecDepth 100000 in
theorem c_X4_uprightAt (l : Launch) (D : va_G) (cI cJ : ClassId) (aM : Nat → Nat) (thrown_M : Int32) (pins_M : (Nat → Int32)) (many_M : Int32) (nets_M : (Nat → Int32)) (lefts_M : (Nat → Int32)) (rights_M : (Nat → Int32)) (touches_M : (Nat → Int32)) (below_M : (Nat → Int64)) (reach_M : (Nat → Int64)) (tracksOf_M : (Nat → Int32)) (steps_M : (Nat → Int32)) (laid_M : Int32) (laidMany_M : Int32) (tracks_M : Int32) (laidNet_M : (Nat → Int32)) (laidLeft_M : (Nat → Int32)) (laidRight_M : (Nat → Int32)) (laidTouch_M : (Nat → Int32)) (laidTrack_M : (Nat → Int32)) (ringSize_M : Int32) (ringOf_M : (Nat → Int32)) (lays_M : Int32) (refusals_M : Int32) (x1 : Int32) (x2 : Int32) (r : Int32) (h : f_X4_uprightAt pins_M laidMany_M tracks_M laidNet_M laidTouch_M laidTrack_M x1 x2 = some r) : Cti l D cI cJ yX4_uprightAt cX4_uprightAt 8 (some .int) 1 25 [.ref (aM 0), .int x1, .int x2] (wM cI cJ aM thrown_M pins_M many_M nets_M lefts_M rights_M touches_M below_M reach_M tracksOf_M steps_M laid_M laidMany_M tracks_M laidNet_M laidLeft_M laidRight_M laidTouch_M laidTrack_M ringSize_M ringOf_M lays_M refusals_M) (wM cI cJ aM thrown_M pins_M many_M nets_M lefts_M rights_M touches_M below_M reach_M tracksOf_M steps_M laid_M laidMany_M tracks_M laidNet_M laidLeft_M laidRight_M laidTouch_M laidTrack_M ringSize_M ringOf_M lays_M refusals_M) r := by
  refine mk_i [(0, .ref (aM 0)), (1, .int x1), (2, .int x2)] (by decide) rfl (Nat.le_of_ble_eq_true rfl) rfl (fun p e s m args below meth c A Q C hk => ?_)
  unfold f_X4_uprightAt at h
  refine v_aload_n C 0 dX4_uprightAt_0 rfl rfl ?_
  refine v_get C 0 1 iuX4 rfl rfl (by decide) m3_54 rfl rfl dX4_uprightAt_1 ?_
  refine v_iload_n C 1 dX4_uprightAt_4 rfl rfl ?_
  refine v_iald C 1 rfl dX4_uprightAt_5 h (fun h => ?_)
  refine v_istore_n C [(3, .int (pins_M x1.toNatClampNeg)), (0, .ref (aM 0)), (1, .int x1), (2, .int x2)] dX4_uprightAt_6 rfl (by decide) rfl ?_
  refine v_aload_n C 1 dX4_uprightAt_7 rfl rfl ?_
  refine v_get C 0 1 iuX4 rfl rfl (by decide) m3_54 rfl rfl dX4_uprightAt_8 ?_
  refine v_bipush (v := 20) C dX4_uprightAt_11 (by decide) ?_
  refine v_iload_n C 2 dX4_uprightAt_13 rfl rfl ?_
  refine v_iadd C dX4_uprightAt_14 ?_
  refine v_iald C 1 rfl dX4_uprightAt_15 h (fun h => ?_)
  refine v_istore C [(4, .int (pins_M ((20 : Int32) + x1).toNatClampNeg)), (3, .int (pins_M x1.toNatClampNeg)), (0, .ref (aM 0)), (1, .int x1), (2, .int x2)] dX4_uprightAt_16 (by decide) rfl ?_
  refine v_iload_n C 1 dX4_uprightAt_18 rfl rfl ?_
  refine v_iload C 0 dX4_uprightAt_19 rfl ?_
  refine v_icmp_ne (tgt := 26) C dX4_uprightAt_21 (by decide) h (fun h => ?_) (fun h => ?_)
  · refine v_iload_n C 1 dX4_uprightAt_24 rfl rfl ?_
    cases h
    exact hk _ _ dX4_uprightAt_25
  · refine v_iload_n C 4 dX4_uprightAt_26 rfl rfl ?_
    refine v_iconst (v := (-1)) C dX4_uprightAt_27 (by decide) ?_
    refine v_icmp_ne (tgt := 35) C dX4_uprightAt_28 (by decide) h (fun h => ?_) (fun h => ?_)
    · refine v_iconst (v := 1) C dX4_uprightAt_31 (by decide) ?_
      refine v_goto (tgt := 36) C dX4_uprightAt_32 (by decide) ?_
      refine v_perm [2, 3, 4, 1, 0] rfl ?_
      exact t_X4_uprightAt_J36 C (laidMany_M := laidMany_M) (tracks_M := tracks_M) (laidNet_M := laidNet_M) (laidTouch_M := laidTouch_M) (laidTrack_M := laidTrack_M) (x1 := x1) (x2 := x2) (x3 := pins_M x1.toNatClampNeg) (x4 := pins_M ((20 : Int32) + x1).toNatClampNeg) (s0 := 1) h hk
    · refine v_iconst (v := 0) C dX4_uprightAt_35 (by decide) ?_
      refine v_perm [2, 3, 4, 1, 0] rfl ?_
      exact t_X4_uprightAt_J36 C (laidMany_M := laidMany_M) (tracks_M := tracks_M) (laidNet_M := laidNet_M) (laidTouch_M := laidTouch_M) (laidTrack_M := laidTrack_M) (x1 := x1) (x2 := x2) (x3 := pins_M x1.toNatClampNeg) (x4 := pins_M ((20 : Int32) + x1).toNatClampNeg) (s0 := 0) h hk
def f_X4_upright (pins_M : (Nat → Int32)) (laid_M : Int32) (laidMany_M : Int32) (tracks_M : Int32) (laidNet_M : (Nat → Int32)) (laidTouch_M : (Nat → Int32)) (laidTrack_M : (Nat → Int32)) (x1 : Int32) (x2 : Int32) : Option (Int32 × Int32) := if laid_M = 0 then ((f_X4_out 0).bind (fun r => match r with | (r_1, thrown_M_2) => if r_1 = 0 then ((f_X4_uprightAt pins_M laidMany_M tracks_M laidNet_M laidTouch_M laidTrack_M x1 x2).bind (fun r => match r with | r_3 => some (r_3, thrown_M_2))) else (some (0, thrown_M_2)))) else ((f_X4_in x1 0 19).bind (fun r => match r with | r_4 => if r_4 = 0 then ((f_X4_out 0).bind (fun r => match r with | (r_5, thrown_M_6) => if r_5 = 0 then ((f_X4_uprightAt pins_M laidMany_M tracks_M laidNet_M laidTouch_M laidTrack_M x1 x2).bind (fun r => match r with | r_7 => some (r_7, thrown_M_6))) else (some (0, thrown_M_6)))) else ((f_X4_in x2 (-1) tracks_M).bind (fun r => match r with | r_8 => if r_8 = 0 then ((f_X4_out 0).bind (fun r => match r with | (r_9, thrown_M_10) => if r_9 = 0 then ((f_X4_uprightAt pins_M laidMany_M tracks_M laidNet_M laidTouch_M laidTrack_M x1 x2).bind (fun r => match r with | r_11 => some (r_11, thrown_M_10))) else (some (0, thrown_M_10)))) else ((f_X4_out 1).bind (fun r => match r with | (r_12, thrown_M_13) => if r_12 = 0 then ((f_X4_uprightAt pins_M laidMany_M tracks_M laidNet_M laidTouch_M laidTrack_M x1 x2).bind (fun r => match r with | r_14 => some (r_14, thrown_M_13))) else (some (0, thrown_M_13))))))))
theorem cw_X4_upright : CWv yX4_upright cX4_upright 3 (some .int) RX4 2 := ⟨m4_0, m4_1, m1_5, m4_2, rfl, by decide, by decide, by decide +kernel⟩
set_option maxHeartbeats 4000000 in
set_option maxRecDepth 100000 in
theorem c_X4_upright (l : Launch) (D : va_G) (cI cJ : ClassId) (aM : Nat → Nat) (thrown_M : Int32) (pins_M : (Nat → Int32)) (many_M : Int32) (nets_M : (Nat → Int32)) (lefts_M : (Nat → Int32)) (rights_M : (Nat → Int32)) (touches_M : (Nat → Int32)) (below_M : (Nat → Int64)) (reach_M : (Nat → Int64)) (tracksOf_M : (Nat → Int32)) (steps_M : (Nat → Int32)) (laid_M : Int32) (laidMany_M : Int32) (tracks_M : Int32) (laidNet_M : (Nat → Int32)) (laidLeft_M : (Nat → Int32)) (laidRight_M : (Nat → Int32)) (laidTouch_M : (Nat → Int32)) (laidTrack_M : (Nat → Int32)) (ringSize_M : Int32) (ringOf_M : (Nat → Int32)) (lays_M : Int32) (refusals_M : Int32) (x1 : Int32) (x2 : Int32) (r : Int32) (thrown_M' : Int32) (h : f_X4_upright pins_M laid_M laidMany_M tracks_M laidNet_M laidTouch_M laidTrack_M x1 x2 = some (r, thrown_M')) : Cti l D cI cJ yX4_upright cX4_upright 3 (some .int) 2 52 [.ref (aM 0), .int x1, .int x2] (wM cI cJ aM thrown_M pins_M many_M nets_M lefts_M rights_M touches_M below_M reach_M tracksOf_M steps_M laid_M laidMany_M tracks_M laidNet_M laidLeft_M laidRight_M laidTouch_M laidTrack_M ringSize_M ringOf_M lays_M refusals_M) (wM cI cJ aM thrown_M' pins_M many_M nets_M lefts_M rights_M touches_M below_M reach_M tracksOf_M steps_M laid_M laidMany_M tracks_M laidNet_M laidLeft_M laidRight_M laidTouch_M laidTrack_M ringSize_M ringOf_M lays_M refusals_M) r := by
  refine mk_i [(0, .ref (aM 0)), (1, .int x1), (2, .int x2)] (by decide) rfl (Nat.le_of_ble_eq_true rfl) rfl (fun p e s m args below meth c A Q C hk => ?_)
  unfold f_X4_upright at h
  refine v_aload_n C 0 dX4_upright_0 rfl rfl ?_
  refine v_aload_n C 0 dX4_upright_1 rfl rfl ?_
  refine v_get C 0 11 iuX4 rfl rfl (by decide) m3_64 rfl rfl dX4_upright_2 ?_
  refine v_if_eq (tgt := 34) C dX4_upright_5 (by decide) h (fun h => ?_) (fun h => ?_)
  · refine v_iconst (v := 0) C dX4_upright_34 (by decide) ?_
    obtain ⟨r, h1, h⟩ := bind_el h
    obtain ⟨r_1, thrown_M_2⟩ := r
    try dsimp only at h
    refine v_callVi (As := [.int 0]) (st := []) (wr := []) (w1 := (wM cI cJ aM thrown_M_2 pins_M many_M nets_M lefts_M rights_M touches_M below_M reach_M tracksOf_M steps_M laid_M laidMany_M tracks_M laidNet_M laidLeft_M laidRight_M laidTouch_M laidTrack_M ringSize_M ringOf_M lays_M refusals_M)) (ws' := (wM cI cJ aM thrown_M_2 pins_M many_M nets_M lefts_M rights_M touches_M below_M reach_M tracksOf_M steps_M laid_M laidMany_M tracks_M laidNet_M laidLeft_M laidRight_M laidTouch_M laidTrack_M ringSize_M ringOf_M lays_M refusals_M)) (isC := [0, 1, 2, 3, 4, 5, 6, 7, 8, 9, 10, 11, 12, 13, 14, 15]) (isR := []) (pm := [0, 1, 2, 3, 4, 5, 6, 7, 8, 9, 10, 11, 12, 13, 14, 15]) C (c_X4_out l D cI cJ aM thrown_M pins_M many_M nets_M lefts_M rights_M touches_M below_M reach_M tracksOf_M steps_M laid_M laidMany_M tracks_M laidNet_M laidLeft_M laidRight_M laidTouch_M laidTrack_M ringSize_M ringOf_M lays_M refusals_M 0 r_1 thrown_M_2 h1) cw_X4_out 0 rfl rfl m3_231 dX4_upright_35 rfl ⟨Nat.le_of_ble_eq_true rfl, Nat.le_of_ble_eq_true rfl⟩ (Nat.le_of_ble_eq_true rfl) ⟨Nat.le_refl 0, Nat.le_refl 0⟩ ⟨rfl, rfl, rfl, rfl, by decide, rfl, rfl⟩ ?_
    refine v_if_eq (tgt := 45) C dX4_upright_38 (by decide) h (fun h => ?_) (fun h => ?_)
    · refine v_aload_n C 0 dX4_upright_45 rfl rfl ?_
      refine v_iload_n C 1 dX4_upright_46 rfl rfl ?_
      refine v_iload_n C 2 dX4_upright_47 rfl rfl ?_
      obtain ⟨r, h1, h⟩ := bind_el h
      obtain ⟨r_3, rfl⟩ : ∃ z, z = r := ⟨_, rfl⟩
      try dsimp only at h
      refine v_callVi (As := [.int x1, .int x2]) (st := []) (wr := []) (w1 := (wM cI cJ aM thrown_M_2 pins_M many_M nets_M lefts_M rights_M touches_M below_M reach_M tracksOf_M steps_M laid_M laidMany_M tracks_M laidNet_M laidLeft_M laidRight_M laidTouch_M laidTrack_M ringSize_M ringOf_M lays_M refusals_M)) (ws' := (wM cI cJ aM thrown_M_2 pins_M many_M nets_M lefts_M rights_M touches_M below_M reach_M tracksOf_M steps_M laid_M laidMany_M tracks_M laidNet_M laidLeft_M laidRight_M laidTouch_M laidTrack_M ringSize_M ringOf_M lays_M refusals_M)) (isC := [0, 1, 2, 3, 4, 5, 6, 7, 8, 9, 10, 11, 12, 13, 14, 15]) (isR := []) (pm := [0, 1, 2, 3, 4, 5, 6, 7, 8, 9, 10, 11, 12, 13, 14, 15]) C (c_X4_uprightAt l D cI cJ aM thrown_M_2 pins_M many_M nets_M lefts_M rights_M touches_M below_M reach_M tracksOf_M steps_M laid_M laidMany_M tracks_M laidNet_M laidLeft_M laidRight_M laidTouch_M laidTrack_M ringSize_M ringOf_M lays_M refusals_M x1 x2 r_3 h1) cw_X4_uprightAt 0 rfl rfl m4_3 dX4_upright_48 rfl ⟨Nat.le_of_ble_eq_true rfl, Nat.le_of_ble_eq_true rfl⟩ (Nat.le_of_ble_eq_true rfl) ⟨Nat.le_refl 0, Nat.le_refl 0⟩ ⟨rfl, rfl, rfl, rfl, by decide, rfl, rfl⟩ ?_
      cases h
      exact hk _ _ dX4_upright_51
    · refine v_iconst (v := 0) C dX4_upright_41 (by decide) ?_
      refine v_goto (tgt := 51) C dX4_upright_42 (by decide) ?_
      cases h
      exact hk _ _ dX4_upright_51
  · refine v_iload_n C 1 dX4_upright_8 rfl rfl ?_
    refine v_iconst (v := 0) C dX4_upright_9 (by decide) ?_
    refine v_bipush (v := 19) C dX4_upright_10 (by decide) ?_
    obtain ⟨r, h1, h⟩ := bind_el h
    obtain ⟨r_4, rfl⟩ : ∃ z, z = r := ⟨_, rfl⟩
    try dsimp only at h
    refine v_callSi (As := [.int x1, .int 0, .int 19]) (st := [.ref (aM 0)]) (wr := [(aM 0, .inr (4, [.int thrown_M, .ref (aM 1), .int many_M, .ref (aM 2), .ref (aM 3), .ref (aM 4), .ref (aM 5), .ref (aM 6), .ref (aM 7), .ref (aM 8), .ref (aM 9), .int laid_M, .int laidMany_M, .int tracks_M, .ref (aM 10), .ref (aM 11), .ref (aM 12), .ref (aM 13), .ref (aM 14), .int ringSize_M, .ref (aM 15), .int lays_M, .int refusals_M])), (aM 1, .inl (cI, 40, .inl pins_M)), (aM 2, .inl (cI, 40, .inl nets_M)), (aM 3, .inl (cI, 40, .inl lefts_M)), (aM 4, .inl (cI, 40, .inl rights_M)), (aM 5, .inl (cI, 40, .inl touches_M)), (aM 6, .inl (cJ, 40, .inr (.inl below_M))), (aM 7, .inl (cJ, 40, .inr (.inl reach_M))), (aM 8, .inl (cI, 40, .inl tracksOf_M)), (aM 9, .inl (cI, 40, .inl steps_M)), (aM 10, .inl (cI, 40, .inl laidNet_M)), (aM 11, .inl (cI, 40, .inl laidLeft_M)), (aM 12, .inl (cI, 40, .inl laidRight_M)), (aM 13, .inl (cI, 40, .inl laidTouch_M)), (aM 14, .inl (cI, 40, .inl laidTrack_M)), (aM 15, .inl (cI, 40, .inl ringOf_M))]) (w1 := []) (ws' := (wM cI cJ aM thrown_M pins_M many_M nets_M lefts_M rights_M touches_M below_M reach_M tracksOf_M steps_M laid_M laidMany_M tracks_M laidNet_M laidLeft_M laidRight_M laidTouch_M laidTrack_M ringSize_M ringOf_M lays_M refusals_M)) (isC := []) (isR := [0, 1, 2, 3, 4, 5, 6, 7, 8, 9, 10, 11, 12, 13, 14, 15]) (pm := [0, 1, 2, 3, 4, 5, 6, 7, 8, 9, 10, 11, 12, 13, 14, 15]) C (c_X4_in l D cI cJ x1 0 19 r_4 h1) cw_X4_in m3_131 dX4_upright_12 rfl ⟨Nat.le_of_ble_eq_true rfl, Nat.le_of_ble_eq_true rfl⟩ (Nat.le_of_ble_eq_true rfl) ⟨Nat.le_refl 0, Nat.le_refl 0⟩ ⟨rfl, rfl, rfl, rfl, by decide, rfl, rfl⟩ ?_
    refine v_if_eq (tgt := 34) C dX4_upright_15 (by decide) h (fun h => ?_) (fun h => ?_)
    · refine v_iconst (v := 0) C dX4_upright_34 (by decide) ?_
      obtain ⟨r, h1, h⟩ := bind_el h
      obtain ⟨r_5, thrown_M_6⟩ := r
      try dsimp only at h
      refine v_callVi (As := [.int 0]) (st := []) (wr := []) (w1 := (wM cI cJ aM thrown_M_6 pins_M many_M nets_M lefts_M rights_M touches_M below_M reach_M tracksOf_M steps_M laid_M laidMany_M tracks_M laidNet_M laidLeft_M laidRight_M laidTouch_M laidTrack_M ringSize_M ringOf_M lays_M refusals_M)) (ws' := (wM cI cJ aM thrown_M_6 pins_M many_M nets_M lefts_M rights_M touches_M below_M reach_M tracksOf_M steps_M laid_M laidMany_M tracks_M laidNet_M laidLeft_M laidRight_M laidTouch_M laidTrack_M ringSize_M ringOf_M lays_M refusals_M)) (isC := [0, 1, 2, 3, 4, 5, 6, 7, 8, 9, 10, 11, 12, 13, 14, 15]) (isR := []) (pm := [0, 1, 2, 3, 4, 5, 6, 7, 8, 9, 10, 11, 12, 13, 14, 15]) C (c_X4_out l D cI cJ aM thrown_M pins_M many_M nets_M lefts_M rights_M touches_M below_M reach_M tracksOf_M steps_M laid_M laidMany_M tracks_M laidNet_M laidLeft_M laidRight_M laidTouch_M laidTrack_M ringSize_M ringOf_M lays_M refusals_M 0 r_5 thrown_M_6 h1) cw_X4_out 0 rfl rfl m3_231 dX4_upright_35 rfl ⟨Nat.le_of_ble_eq_true rfl, Nat.le_of_ble_eq_true rfl⟩ (Nat.le_of_ble_eq_true rfl) ⟨Nat.le_refl 0, Nat.le_refl 0⟩ ⟨rfl, rfl, rfl, rfl, by decide, rfl, rfl⟩ ?_
      refine v_if_eq (tgt := 45) C dX4_upright_38 (by decide) h (fun h => ?_) (fun h => ?_)
      · refine v_aload_n C 0 dX4_upright_45 rfl rfl ?_
        refine v_iload_n C 1 dX4_upright_46 rfl rfl ?_
        refine v_iload_n C 2 dX4_upright_47 rfl rfl ?_
        obtain ⟨r, h1, h⟩ := bind_el h
        obtain ⟨r_7, rfl⟩ : ∃ z, z = r := ⟨_, rfl⟩
        try dsimp only at h
        refine v_callVi (As := [.int x1, .int x2]) (st := []) (wr := []) (w1 := (wM cI cJ aM thrown_M_6 pins_M many_M nets_M lefts_M rights_M touches_M below_M reach_M tracksOf_M steps_M laid_M laidMany_M tracks_M laidNet_M laidLeft_M laidRight_M laidTouch_M laidTrack_M ringSize_M ringOf_M lays_M refusals_M)) (ws' := (wM cI cJ aM thrown_M_6 pins_M many_M nets_M lefts_M rights_M touches_M below_M reach_M tracksOf_M steps_M laid_M laidMany_M tracks_M laidNet_M laidLeft_M laidRight_M laidTouch_M laidTrack_M ringSize_M ringOf_M lays_M refusals_M)) (isC := [0, 1, 2, 3, 4, 5, 6, 7, 8, 9, 10, 11, 12, 13, 14, 15]) (isR := []) (pm := [0, 1, 2, 3, 4, 5, 6, 7, 8, 9, 10, 11, 12, 13, 14, 15]) C (c_X4_uprightAt l D cI cJ aM thrown_M_6 pins_M many_M nets_M lefts_M rights_M touches_M below_M reach_M tracksOf_M steps_M laid_M laidMany_M tracks_M laidNet_M laidLeft_M laidRight_M laidTouch_M laidTrack_M ringSize_M ringOf_M lays_M refusals_M x1 x2 r_7 h1) cw_X4_uprightAt 0 rfl rfl m4_3 dX4_upright_48 rfl ⟨Nat.le_of_ble_eq_true rfl, Nat.le_of_ble_eq_true rfl⟩ (Nat.le_of_ble_eq_true rfl) ⟨Nat.le_refl 0, Nat.le_refl 0⟩ ⟨rfl, rfl, rfl, rfl, by decide, rfl, rfl⟩ ?_
        cases h
        exact hk _ _ dX4_upright_51
      · refine v_iconst (v := 0) C dX4_upright_41 (by decide) ?_
        refine v_goto (tgt := 51) C dX4_upright_42 (by decide) ?_
        cases h
        exact hk _ _ dX4_upright_51
    · refine v_iload_n C 2 dX4_upright_18 rfl rfl ?_
      refine v_iconst (v := (-1)) C dX4_upright_19 (by decide) ?_
      refine v_aload_n C 0 dX4_upright_20 rfl rfl ?_
      refine v_get C 0 13 iuX4 rfl rfl (by decide) m3_66 rfl rfl dX4_upright_21 ?_
      obtain ⟨r, h1, h⟩ := bind_el h
      obtain ⟨r_8, rfl⟩ : ∃ z, z = r := ⟨_, rfl⟩
      try dsimp only at h
      refine v_callSi (As := [.int x2, .int (-1), .int tracks_M]) (st := [.ref (aM 0)]) (wr := [(aM 0, .inr (4, [.int thrown_M, .ref (aM 1), .int many_M, .ref (aM 2), .ref (aM 3), .ref (aM 4), .ref (aM 5), .ref (aM 6), .ref (aM 7), .ref (aM 8), .ref (aM 9), .int laid_M, .int laidMany_M, .int tracks_M, .ref (aM 10), .ref (aM 11), .ref (aM 12), .ref (aM 13), .ref (aM 14), .int ringSize_M, .ref (aM 15), .int lays_M, .int refusals_M])), (aM 1, .inl (cI, 40, .inl pins_M)), (aM 2, .inl (cI, 40, .inl nets_M)), (aM 3, .inl (cI, 40, .inl lefts_M)), (aM 4, .inl (cI, 40, .inl rights_M)), (aM 5, .inl (cI, 40, .inl touches_M)), (aM 6, .inl (cJ, 40, .inr (.inl below_M))), (aM 7, .inl (cJ, 40, .inr (.inl reach_M))), (aM 8, .inl (cI, 40, .inl tracksOf_M)), (aM 9, .inl (cI, 40, .inl steps_M)), (aM 10, .inl (cI, 40, .inl laidNet_M)), (aM 11, .inl (cI, 40, .inl laidLeft_M)), (aM 12, .inl (cI, 40, .inl laidRight_M)), (aM 13, .inl (cI, 40, .inl laidTouch_M)), (aM 14, .inl (cI, 40, .inl laidTrack_M)), (aM 15, .inl (cI, 40, .inl ringOf_M))]) (w1 := []) (ws' := (wM cI cJ aM thrown_M pins_M many_M nets_M lefts_M rights_M touches_M below_M reach_M tracksOf_M steps_M laid_M laidMany_M tracks_M laidNet_M laidLeft_M laidRight_M laidTouch_M laidTrack_M ringSize_M ringOf_M lays_M refusals_M)) (isC := []) (isR := [0, 1, 2, 3, 4, 5, 6, 7, 8, 9, 10, 11, 12, 13, 14, 15]) (pm := [0, 1, 2, 3, 4, 5, 6, 7, 8, 9, 10, 11, 12, 13, 14, 15]) C (c_X4_in l D cI cJ x2 (-1) tracks_M r_8 h1) cw_X4_in m3_131 dX4_upright_24 rfl ⟨Nat.le_of_ble_eq_true rfl, Nat.le_of_ble_eq_true rfl⟩ (Nat.le_of_ble_eq_true rfl) ⟨Nat.le_refl 0, Nat.le_refl 0⟩ ⟨rfl, rfl, rfl, rfl, by decide, rfl, rfl⟩ ?_
      refine v_if_eq (tgt := 34) C dX4_upright_27 (by decide) h (fun h => ?_) (fun h => ?_)
      · refine v_iconst (v := 0) C dX4_upright_34 (by decide) ?_
        obtain ⟨r, h1, h⟩ := bind_el h
        obtain ⟨r_9, thrown_M_10⟩ := r
        try dsimp only at h
        refine v_callVi (As := [.int 0]) (st := []) (wr := []) (w1 := (wM cI cJ aM thrown_M_10 pins_M many_M nets_M lefts_M rights_M touches_M below_M reach_M tracksOf_M steps_M laid_M laidMany_M tracks_M laidNet_M laidLeft_M laidRight_M laidTouch_M laidTrack_M ringSize_M ringOf_M lays_M refusals_M)) (ws' := (wM cI cJ aM thrown_M_10 pins_M many_M nets_M lefts_M rights_M touches_M below_M reach_M tracksOf_M steps_M laid_M laidMany_M tracks_M laidNet_M laidLeft_M laidRight_M laidTouch_M laidTrack_M ringSize_M ringOf_M lays_M refusals_M)) (isC := [0, 1, 2, 3, 4, 5, 6, 7, 8, 9, 10, 11, 12, 13, 14, 15]) (isR := []) (pm := [0, 1, 2, 3, 4, 5, 6, 7, 8, 9, 10, 11, 12, 13, 14, 15]) C (c_X4_out l D cI cJ aM thrown_M pins_M many_M nets_M lefts_M rights_M touches_M below_M reach_M tracksOf_M steps_M laid_M laidMany_M tracks_M laidNet_M laidLeft_M laidRight_M laidTouch_M laidTrack_M ringSize_M ringOf_M lays_M refusals_M 0 r_9 thrown_M_10 h1) cw_X4_out 0 rfl rfl m3_231 dX4_upright_35 rfl ⟨Nat.le_of_ble_eq_true rfl, Nat.le_of_ble_eq_true rfl⟩ (Nat.le_of_ble_eq_true rfl) ⟨Nat.le_refl 0, Nat.le_refl 0⟩ ⟨rfl, rfl, rfl, rfl, by decide, rfl, rfl⟩ ?_
        refine v_if_eq (tgt := 45) C dX4_upright_38 (by decide) h (fun h => ?_) (fun h => ?_)
        · refine v_aload_n C 0 dX4_upright_45 rfl rfl ?_
          refine v_iload_n C 1 dX4_upright_46 rfl rfl ?_
          refine v_iload_n C 2 dX4_upright_47 rfl rfl ?_
          obtain ⟨r, h1, h⟩ := bind_el h
          obtain ⟨r_11, rfl⟩ : ∃ z, z = r := ⟨_, rfl⟩
          try dsimp only at h
          refine v_callVi (As := [.int x1, .int x2]) (st := []) (wr := []) (w1 := (wM cI cJ aM thrown_M_10 pins_M many_M nets_M lefts_M rights_M touches_M below_M reach_M tracksOf_M steps_M laid_M laidMany_M tracks_M laidNet_M laidLeft_M laidRight_M laidTouch_M laidTrack_M ringSize_M ringOf_M lays_M refusals_M)) (ws' := (wM cI cJ aM thrown_M_10 pins_M many_M nets_M lefts_M rights_M touches_M below_M reach_M tracksOf_M steps_M laid_M laidMany_M tracks_M laidNet_M laidLeft_M laidRight_M laidTouch_M laidTrack_M ringSize_M ringOf_M lays_M refusals_M)) (isC := [0, 1, 2, 3, 4, 5, 6, 7, 8, 9, 10, 11, 12, 13, 14, 15]) (isR := []) (pm := [0, 1, 2, 3, 4, 5, 6, 7, 8, 9, 10, 11, 12, 13, 14, 15]) C (c_X4_uprightAt l D cI cJ aM thrown_M_10 pins_M many_M nets_M lefts_M rights_M touches_M below_M reach_M tracksOf_M steps_M laid_M laidMany_M tracks_M laidNet_M laidLeft_M laidRight_M laidTouch_M laidTrack_M ringSize_M ringOf_M lays_M refusals_M x1 x2 r_11 h1) cw_X4_uprightAt 0 rfl rfl m4_3 dX4_upright_48 rfl ⟨Nat.le_of_ble_eq_true rfl, Nat.le_of_ble_eq_true rfl⟩ (Nat.le_of_ble_eq_true rfl) ⟨Nat.le_refl 0, Nat.le_refl 0⟩ ⟨rfl, rfl, rfl, rfl, by decide, rfl, rfl⟩ ?_
          cases h
          exact hk _ _ dX4_upright_51
        · refine v_iconst (v := 0) C dX4_upright_41 (by decide) ?_
          refine v_goto (tgt := 51) C dX4_upright_42 (by decide) ?_
          cases h
          exact hk _ _ dX4_upright_51
      · refine v_iconst (v := 1) C dX4_upright_30 (by decide) ?_
        refine v_goto (tgt := 35) C dX4_upright_31 (by decide) ?_
        obtain ⟨r, h1, h⟩ := bind_el h
        obtain ⟨r_12, thrown_M_13⟩ := r
        try dsimp only at h
        refine v_callVi (As := [.int 1]) (st := []) (wr := []) (w1 := (wM cI cJ aM thrown_M_13 pins_M many_M nets_M lefts_M rights_M touches_M below_M reach_M tracksOf_M steps_M laid_M laidMany_M tracks_M laidNet_M laidLeft_M laidRight_M laidTouch_M laidTrack_M ringSize_M ringOf_M lays_M refusals_M)) (ws' := (wM cI cJ aM thrown_M_13 pins_M many_M nets_M lefts_M rights_M touches_M below_M reach_M tracksOf_M steps_M laid_M laidMany_M tracks_M laidNet_M laidLeft_M laidRight_M laidTouch_M laidTrack_M ringSize_M ringOf_M lays_M refusals_M)) (isC := [0, 1, 2, 3, 4, 5, 6, 7, 8, 9, 10, 11, 12, 13, 14, 15]) (isR := []) (pm := [0, 1, 2, 3, 4, 5, 6, 7, 8, 9, 10, 11, 12, 13, 14, 15]) C (c_X4_out l D cI cJ aM thrown_M pins_M many_M nets_M lefts_M rights_M touches_M below_M reach_M tracksOf_M steps_M laid_M laidMany_M tracks_M laidNet_M laidLeft_M laidRight_M laidTouch_M laidTrack_M ringSize_M ringOf_M lays_M refusals_M 1 r_12 thrown_M_13 h1) cw_X4_out 0 rfl rfl m3_231 dX4_upright_35 rfl ⟨Nat.le_of_ble_eq_true rfl, Nat.le_of_ble_eq_true rfl⟩ (Nat.le_of_ble_eq_true rfl) ⟨Nat.le_refl 0, Nat.le_refl 0⟩ ⟨rfl, rfl, rfl, rfl, by decide, rfl, rfl⟩ ?_
        refine v_if_eq (tgt := 45) C dX4_upright_38 (by decide) h (fun h => ?_) (fun h => ?_)
        · refine v_aload_n C 0 dX4_upright_45 rfl rfl ?_
          refine v_iload_n C 1 dX4_upright_46 rfl rfl ?_
          refine v_iload_n C 2 dX4_upright_47 rfl rfl ?_
          obtain ⟨r, h1, h⟩ := bind_el h
          obtain ⟨r_14, rfl⟩ : ∃ z, z = r := ⟨_, rfl⟩
          try dsimp only at h
          refine v_callVi (As := [.int x1, .int x2]) (st := []) (wr := []) (w1 := (wM cI cJ aM thrown_M_13 pins_M many_M nets_M lefts_M rights_M touches_M below_M reach_M tracksOf_M steps_M laid_M laidMany_M tracks_M laidNet_M laidLeft_M laidRight_M laidTouch_M laidTrack_M ringSize_M ringOf_M lays_M refusals_M)) (ws' := (wM cI cJ aM thrown_M_13 pins_M many_M nets_M lefts_M rights_M touches_M below_M reach_M tracksOf_M steps_M laid_M laidMany_M tracks_M laidNet_M laidLeft_M laidRight_M laidTouch_M laidTrack_M ringSize_M ringOf_M lays_M refusals_M)) (isC := [0, 1, 2, 3, 4, 5, 6, 7, 8, 9, 10, 11, 12, 13, 14, 15]) (isR := []) (pm := [0, 1, 2, 3, 4, 5, 6, 7, 8, 9, 10, 11, 12, 13, 14, 15]) C (c_X4_uprightAt l D cI cJ aM thrown_M_13 pins_M many_M nets_M lefts_M rights_M touches_M below_M reach_M tracksOf_M steps_M laid_M laidMany_M tracks_M laidNet_M laidLeft_M laidRight_M laidTouch_M laidTrack_M ringSize_M ringOf_M lays_M refusals_M x1 x2 r_14 h1) cw_X4_uprightAt 0 rfl rfl m4_3 dX4_upright_48 rfl ⟨Nat.le_of_ble_eq_true rfl, Nat.le_of_ble_eq_true rfl⟩ (Nat.le_of_ble_eq_true rfl) ⟨Nat.le_refl 0, Nat.le_refl 0⟩ ⟨rfl, rfl, rfl, rfl, by decide, rfl, rfl⟩ ?_
          cases h
          exact hk _ _ dX4_upright_51
        · refine v_iconst (v := 0) C dX4_upright_41 (by decide) ?_
          refine v_goto (tgt := 51) C dX4_upright_42 (by decide) ?_
          cases h
          exact hk _ _ dX4_upright_51
def f_X4_viaAt (pins_M : (Nat → Int32)) (laidMany_M : Int32) (tracks_M : Int32) (laidNet_M : (Nat → Int32)) (laidLeft_M : (Nat → Int32)) (laidRight_M : (Nat → Int32)) (laidTouch_M : (Nat → Int32)) (laidTrack_M : (Nat → Int32)) (x1 : Int32) (x2 : Int32) : Option Int32 := (f_X4_levelAt laidMany_M laidNet_M laidLeft_M laidRight_M laidTrack_M x1 x2).bind (fun r => match r with | r_1 => if r_1 ≤ 0 then (some 0) else ((f_X4_uprightAt pins_M laidMany_M tracks_M laidNet_M laidTouch_M laidTrack_M x2 x1).bind (fun r => match r with | r_2 => if r_2 = r_1 then ((f_X4_lies laidMany_M laidNet_M laidTouch_M laidTrack_M r_1 x2 x1).bind (fun r => match r with | r_3 => if r_3 = 0 then (some 0) else (some 1))) else (some 0))))
theorem cw_X4_viaAt : CWv yX4_viaAt cX4_viaAt 4 (some .boolean) RX4 2 := ⟨m4_17, ms5_0, m1_5, m4_18, rfl, by decide, by decide, by decide +kernel⟩
set_option maxHeartbeats 4000000 in
set_option maxRecDepth 100000 in
theorem c_X4_viaAt (l : Launch) (D : va_G) (cI cJ : ClassId) (aM : Nat → Nat) (thrown_M : Int32) (pins_M : (Nat → Int32)) (many_M : Int32) (nets_M : (Nat → Int32)) (lefts_M : (Nat → Int32)) (rights_M : (Nat → Int32)) (touches_M : (Nat → Int32)) (below_M : (Nat → Int64)) (reach_M : (Nat → Int64)) (tracksOf_M : (Nat → Int32)) (steps_M : (Nat → Int32)) (laid_M : Int32) (laidMany_M : Int32) (tracks_M : Int32) (laidNet_M : (Nat → Int32)) (laidLeft_M : (Nat → Int32)) (laidRight_M : (Nat → Int32)) (laidTouch_M : (Nat → Int32)) (laidTrack_M : (Nat → Int32)) (ringSize_M : Int32) (ringOf_M : (Nat → Int32)) (lays_M : Int32) (refusals_M : Int32) (x1 : Int32) (x2 : Int32) (r : Int32) (h : f_X4_viaAt pins_M laidMany_M tracks_M laidNet_M laidLeft_M laidRight_M laidTouch_M laidTrack_M x1 x2 = some r) : Cti l D cI cJ yX4_viaAt cX4_viaAt 4 (some .boolean) 2 52 [.ref (aM 0), .int x1, .int x2] (wM cI cJ aM thrown_M pins_M many_M nets_M lefts_M rights_M touches_M below_M reach_M tracksOf_M steps_M laid_M laidMany_M tracks_M laidNet_M laidLeft_M laidRight_M laidTouch_M laidTrack_M ringSize_M ringOf_M lays_M refusals_M) (wM cI cJ aM thrown_M pins_M many_M nets_M lefts_M rights_M touches_M below_M reach_M tracksOf_M steps_M laid_M laidMany_M tracks_M laidNet_M laidLeft_M laidRight_M laidTouch_M laidTrack_M ringSize_M ringOf_M lays_M refusals_M) r := by
  refine mk_z [(0, .ref (aM 0)), (1, .int x1), (2, .int x2)] (by decide) rfl (Nat.le_of_ble_eq_true rfl) rfl (fun p e s m args below meth c A Q C hk => ?_)
  unfold f_X4_viaAt at h
  refine v_aload_n C 0 dX4_viaAt_0 rfl rfl ?_
  refine v_iload_n C 1 dX4_viaAt_1 rfl rfl ?_
  refine v_iload_n C 2 dX4_viaAt_2 rfl rfl ?_
  obtain ⟨r, h1, h⟩ := bind_el h
  obtain ⟨r_1, rfl⟩ : ∃ z, z = r := ⟨_, rfl⟩
  try dsimp only at h
  refine v_callVi (As := [.int x1, .int x2]) (st := []) (wr := []) (w1 := (wM cI cJ aM thrown_M pins_M many_M nets_M lefts_M rights_M touches_M below_M reach_M tracksOf_M steps_M laid_M laidMany_M tracks_M laidNet_M laidLeft_M laidRight_M laidTouch_M laidTrack_M ringSize_M ringOf_M lays_M refusals_M)) (ws' := (wM cI cJ aM thrown_M pins_M many_M nets_M lefts_M rights_M touches_M below_M reach_M tracksOf_M steps_M laid_M laidMany_M tracks_M laidNet_M laidLeft_M laidRight_M laidTouch_M laidTrack_M ringSize_M ringOf_M lays_M refusals_M)) (isC := [0, 1, 2, 3, 4, 5, 6, 7, 8, 9, 10, 11, 12, 13, 14, 15]) (isR := []) (pm := [0, 1, 2, 3, 4, 5, 6, 7, 8, 9, 10, 11, 12, 13, 14, 15]) C (c_X4_levelAt l D cI cJ aM thrown_M pins_M many_M nets_M lefts_M rights_M touches_M below_M reach_M tracksOf_M steps_M laid_M laidMany_M tracks_M laidNet_M laidLeft_M laidRight_M laidTouch_M laidTrack_M ringSize_M ringOf_M lays_M refusals_M x1 x2 r_1 h1) cw_X4_levelAt 0 rfl rfl m3_235 dX4_viaAt_3 rfl ⟨Nat.le_of_ble_eq_true rfl, Nat.le_of_ble_eq_true rfl⟩ (Nat.le_of_ble_eq_true rfl) ⟨Nat.le_refl 0, Nat.le_refl 0⟩ ⟨rfl, rfl, rfl, rfl, by decide, rfl, rfl⟩ ?_
  refine v_istore_n C [(3, .int r_1), (0, .ref (aM 0)), (1, .int x1), (2, .int x2)] dX4_viaAt_6 rfl (by decide) rfl ?_
  refine v_iload_n C 0 dX4_viaAt_7 rfl rfl ?_
  refine v_if_le (tgt := 35) C dX4_viaAt_8 (by decide) h (fun h => ?_) (fun h => ?_)
  · refine v_iconst (v := 0) C dX4_viaAt_35 (by decide) ?_
    cases h
    exact hk _ _ dX4_viaAt_36 (Or.inl rfl)
  · refine v_aload_n C 1 dX4_viaAt_11 rfl rfl ?_
    refine v_iload_n C 3 dX4_viaAt_12 rfl rfl ?_
    refine v_iload_n C 2 dX4_viaAt_13 rfl rfl ?_
    obtain ⟨r, h1, h⟩ := bind_el h
    obtain ⟨r_2, rfl⟩ : ∃ z, z = r := ⟨_, rfl⟩
    try dsimp only at h
    refine v_callVi (As := [.int x2, .int x1]) (st := []) (wr := []) (w1 := (wM cI cJ aM thrown_M pins_M many_M nets_M lefts_M rights_M touches_M below_M reach_M tracksOf_M steps_M laid_M laidMany_M tracks_M laidNet_M laidLeft_M laidRight_M laidTouch_M laidTrack_M ringSize_M ringOf_M lays_M refusals_M)) (ws' := (wM cI cJ aM thrown_M pins_M many_M nets_M lefts_M rights_M touches_M below_M reach_M tracksOf_M steps_M laid_M laidMany_M tracks_M laidNet_M laidLeft_M laidRight_M laidTouch_M laidTrack_M ringSize_M ringOf_M lays_M refusals_M)) (isC := [0, 1, 2, 3, 4, 5, 6, 7, 8, 9, 10, 11, 12, 13, 14, 15]) (isR := []) (pm := [0, 1, 2, 3, 4, 5, 6, 7, 8, 9, 10, 11, 12, 13, 14, 15]) C (c_X4_uprightAt l D cI cJ aM thrown_M pins_M many_M nets_M lefts_M rights_M touches_M below_M reach_M tracksOf_M steps_M laid_M laidMany_M tracks_M laidNet_M laidLeft_M laidRight_M laidTouch_M laidTrack_M ringSize_M ringOf_M lays_M refusals_M x2 x1 r_2 h1) cw_X4_uprightAt 0 rfl rfl m4_3 dX4_viaAt_14 rfl ⟨Nat.le_of_ble_eq_true rfl, Nat.le_of_ble_eq_true rfl⟩ (Nat.le_of_ble_eq_true rfl) ⟨Nat.le_refl 0, Nat.le_refl 0⟩ ⟨rfl, rfl, rfl, rfl, by decide, rfl, rfl⟩ ?_
    refine v_iload_n C 0 dX4_viaAt_17 rfl rfl ?_
    refine v_icmp_ne (tgt := 35) C dX4_viaAt_18 (by decide) h (fun h => ?_) (fun h => ?_)
    · refine v_aload_n C 1 dX4_viaAt_21 rfl rfl ?_
      refine v_iload_n C 0 dX4_viaAt_22 rfl rfl ?_
      refine v_iload_n C 3 dX4_viaAt_23 rfl rfl ?_
      refine v_iload_n C 2 dX4_viaAt_24 rfl rfl ?_
      obtain ⟨r, h1, h⟩ := bind_el h
      obtain ⟨r_3, rfl⟩ : ∃ z, z = r := ⟨_, rfl⟩
      try dsimp only at h
      refine v_callVi (As := [.int r_1, .int x2, .int x1]) (st := []) (wr := []) (w1 := (wM cI cJ aM thrown_M pins_M many_M nets_M lefts_M rights_M touches_M below_M reach_M tracksOf_M steps_M laid_M laidMany_M tracks_M laidNet_M laidLeft_M laidRight_M laidTouch_M laidTrack_M ringSize_M ringOf_M lays_M refusals_M)) (ws' := (wM cI cJ aM thrown_M pins_M many_M nets_M lefts_M rights_M touches_M below_M reach_M tracksOf_M steps_M laid_M laidMany_M tracks_M laidNet_M laidLeft_M laidRight_M laidTouch_M laidTrack_M ringSize_M ringOf_M lays_M refusals_M)) (isC := [0, 1, 2, 3, 4, 5, 6, 7, 8, 9, 10, 11, 12, 13, 14, 15]) (isR := []) (pm := [0, 1, 2, 3, 4, 5, 6, 7, 8, 9, 10, 11, 12, 13, 14, 15]) C (c_X4_lies l D cI cJ aM thrown_M pins_M many_M nets_M lefts_M rights_M touches_M below_M reach_M tracksOf_M steps_M laid_M laidMany_M tracks_M laidNet_M laidLeft_M laidRight_M laidTouch_M laidTrack_M ringSize_M ringOf_M lays_M refusals_M r_1 x2 x1 r_3 h1) cw_X4_lies 0 rfl rfl m4_7 dX4_viaAt_25 rfl ⟨Nat.le_of_ble_eq_true rfl, Nat.le_of_ble_eq_true rfl⟩ (Nat.le_of_ble_eq_true rfl) ⟨Nat.le_refl 0, Nat.le_refl 0⟩ ⟨rfl, rfl, rfl, rfl, by decide, rfl, rfl⟩ ?_
      refine v_if_eq (tgt := 35) C dX4_viaAt_28 (by decide) h (fun h => ?_) (fun h => ?_)
      · refine v_iconst (v := 0) C dX4_viaAt_35 (by decide) ?_
        cases h
        exact hk _ _ dX4_viaAt_36 (Or.inl rfl)
      · refine v_iconst (v := 1) C dX4_viaAt_31 (by decide) ?_
        refine v_goto (tgt := 36) C dX4_viaAt_32 (by decide) ?_
        cases h
        exact hk _ _ dX4_viaAt_36 (Or.inr rfl)
    · refine v_iconst (v := 0) C dX4_viaAt_35 (by decide) ?_
      cases h
      exact hk _ _ dX4_viaAt_36 (Or.inl rfl)
def f_X4_via (pins_M : (Nat → Int32)) (laidMany_M : Int32) (tracks_M : Int32) (laidNet_M : (Nat → Int32)) (laidLeft_M : (Nat → Int32)) (laidRight_M : (Nat → Int32)) (laidTouch_M : (Nat → Int32)) (laidTrack_M : (Nat → Int32)) (x1 : Int32) (x2 : Int32) : Option (Int32 × Int32) := (f_X4_in x1 0 (tracks_M - 1)).bind (fun r => match r with | r_1 => if r_1 = 0 then ((f_X4_out 0).bind (fun r => match r with | (r_2, thrown_M_3) => if r_2 = 0 then ((f_X4_viaAt pins_M laidMany_M tracks_M laidNet_M laidLeft_M laidRight_M laidTouch_M laidTrack_M x1 x2).bind (fun r => match r with | r_4 => if r_4 = 0 then (some (0, thrown_M_3)) else (some (1, thrown_M_3)))) else (some (0, thrown_M_3)))) else ((f_X4_in x2 0 19).bind (fun r => match r with | r_5 => if r_5 = 0 then ((f_X4_out 0).bind (fun r => match r with | (r_6, thrown_M_7) => if r_6 = 0 then ((f_X4_viaAt pins_M laidMany_M tracks_M laidNet_M laidLeft_M laidRight_M laidTouch_M laidTrack_M x1 x2).bind (fun r => match r with | r_8 => if r_8 = 0 then (some (0, thrown_M_7)) else (some (1, thrown_M_7)))) else (some (0, thrown_M_7)))) else ((f_X4_out 1).bind (fun r => match r with | (r_9, thrown_M_10) => if r_9 = 0 then ((f_X4_viaAt pins_M laidMany_M tracks_M laidNet_M laidLeft_M laidRight_M laidTouch_M laidTrack_M x1 x2).bind (fun r => match r with | r_11 => if r_11 = 0 then (some (0, thrown_M_10)) else (some (1, thrown_M_10)))) else (some (0, thrown_M_10)))))))
theorem cw_X4_via : CWv yX4_via cX4_via 3 (some .boolean) RX4 2 := ⟨m4_12, m4_13, m1_5, m4_14, rfl, by decide, by decide, by decide +kernel⟩
set_option maxHeartbeats 4000000 in
set_option maxRecDepth 100000 in
theorem c_X4_via (l : Launch) (D : va_G) (cI cJ : ClassId) (aM : Nat → Nat) (thrown_M : Int32) (pins_M : (Nat → Int32)) (many_M : Int32) (nets_M : (Nat → Int32)) (lefts_M : (Nat → Int32)) (rights_M : (Nat → Int32)) (touches_M : (Nat → Int32)) (below_M : (Nat → Int64)) (reach_M : (Nat → Int64)) (tracksOf_M : (Nat → Int32)) (steps_M : (Nat → Int32)) (laid_M : Int32) (laidMany_M : Int32) (tracks_M : Int32) (laidNet_M : (Nat → Int32)) (laidLeft_M : (Nat → Int32)) (laidRight_M : (Nat → Int32)) (laidTouch_M : (Nat → Int32)) (laidTrack_M : (Nat → Int32)) (ringSize_M : Int32) (ringOf_M : (Nat → Int32)) (lays_M : Int32) (refusals_M : Int32) (x1 : Int32) (x2 : Int32) (r : Int32) (thrown_M' : Int32) (h : f_X4_via pins_M laidMany_M tracks_M laidNet_M laidLeft_M laidRight_M laidTouch_M laidTrack_M x1 x2 = some (r, thrown_M')) : Cti l D cI cJ yX4_via cX4_via 3 (some .boolean) 3 75 [.ref (aM 0), .int x1, .int x2] (wM cI cJ aM thrown_M pins_M many_M nets_M lefts_M rights_M touches_M below_M reach_M tracksOf_M steps_M laid_M laidMany_M tracks_M laidNet_M laidLeft_M laidRight_M laidTouch_M laidTrack_M ringSize_M ringOf_M lays_M refusals_M) (wM cI cJ aM thrown_M' pins_M many_M nets_M lefts_M rights_M touches_M below_M reach_M tracksOf_M steps_M laid_M laidMany_M tracks_M laidNet_M laidLeft_M laidRight_M laidTouch_M laidTrack_M ringSize_M ringOf_M lays_M refusals_M) r := by
  refine mk_z [(0, .ref (aM 0)), (1, .int x1), (2, .int x2)] (by decide) rfl (Nat.le_of_ble_eq_true rfl) rfl (fun p e s m args below meth c A Q C hk => ?_)
  unfold f_X4_via at h
  refine v_aload_n C 0 dX4_via_0 rfl rfl ?_
  refine v_iload_n C 1 dX4_via_1 rfl rfl ?_
  refine v_iconst (v := 0) C dX4_via_2 (by decide) ?_
  refine v_aload_n C 0 dX4_via_3 rfl rfl ?_
  refine v_get C 0 13 iuX4 rfl rfl (by decide) m3_66 rfl rfl dX4_via_4 ?_
  refine v_iconst (v := 1) C dX4_via_7 (by decide) ?_
  refine v_isub C dX4_via_8 ?_
  obtain ⟨r, h1, h⟩ := bind_el h
  obtain ⟨r_1, rfl⟩ : ∃ z, z = r := ⟨_, rfl⟩
  try dsimp only at h
  refine v_callSi (As := [.int x1, .int 0, .int (tracks_M - 1)]) (st := [.ref (aM 0)]) (wr := [(aM 0, .inr (4, [.int thrown_M, .ref (aM 1), .int many_M, .ref (aM 2), .ref (aM 3), .ref (aM 4), .ref (aM 5), .ref (aM 6), .ref (aM 7), .ref (aM 8), .ref (aM 9), .int laid_M, .int laidMany_M, .int tracks_M, .ref (aM 10), .ref (aM 11), .ref (aM 12), .ref (aM 13), .ref (aM 14), .int ringSize_M, .ref (aM 15), .int lays_M, .int refusals_M])), (aM 1, .inl (cI, 40, .inl pins_M)), (aM 2, .inl (cI, 40, .inl nets_M)), (aM 3, .inl (cI, 40, .inl lefts_M)), (aM 4, .inl (cI, 40, .inl rights_M)), (aM 5, .inl (cI, 40, .inl touches_M)), (aM 6, .inl (cJ, 40, .inr (.inl below_M))), (aM 7, .inl (cJ, 40, .inr (.inl reach_M))), (aM 8, .inl (cI, 40, .inl tracksOf_M)), (aM 9, .inl (cI, 40, .inl steps_M)), (aM 10, .inl (cI, 40, .inl laidNet_M)), (aM 11, .inl (cI, 40, .inl laidLeft_M)), (aM 12, .inl (cI, 40, .inl laidRight_M)), (aM 13, .inl (cI, 40, .inl laidTouch_M)), (aM 14, .inl (cI, 40, .inl laidTrack_M)), (aM 15, .inl (cI, 40, .inl ringOf_M))]) (w1 := []) (ws' := (wM cI cJ aM thrown_M pins_M many_M nets_M lefts_M rights_M touches_M below_M reach_M tracksOf_M steps_M laid_M laidMany_M tracks_M laidNet_M laidLeft_M laidRight_M laidTouch_M laidTrack_M ringSize_M ringOf_M lays_M refusals_M)) (isC := []) (isR := [0, 1, 2, 3, 4, 5, 6, 7, 8, 9, 10, 11, 12, 13, 14, 15]) (pm := [0, 1, 2, 3, 4, 5, 6, 7, 8, 9, 10, 11, 12, 13, 14, 15]) C (c_X4_in l D cI cJ x1 0 (tracks_M - 1) r_1 h1) cw_X4_in m3_131 dX4_via_9 rfl ⟨Nat.le_of_ble_eq_true rfl, Nat.le_of_ble_eq_true rfl⟩ (Nat.le_of_ble_eq_true rfl) ⟨Nat.le_refl 0, Nat.le_refl 0⟩ ⟨rfl, rfl, rfl, rfl, by decide, rfl, rfl⟩ ?_
  refine v_if_eq (tgt := 29) C dX4_via_12 (by decide) h (fun h => ?_) (fun h => ?_)
  · refine v_iconst (v := 0) C dX4_via_29 (by decide) ?_
    obtain ⟨r, h1, h⟩ := bind_el h
    obtain ⟨r_2, thrown_M_3⟩ := r
    try dsimp only at h
    refine v_callVi (As := [.int 0]) (st := []) (wr := []) (w1 := (wM cI cJ aM thrown_M_3 pins_M many_M nets_M lefts_M rights_M touches_M below_M reach_M tracksOf_M steps_M laid_M laidMany_M tracks_M laidNet_M laidLeft_M laidRight_M laidTouch_M laidTrack_M ringSize_M ringOf_M lays_M refusals_M)) (ws' := (wM cI cJ aM thrown_M_3 pins_M many_M nets_M lefts_M rights_M touches_M below_M reach_M tracksOf_M steps_M laid_M laidMany_M tracks_M laidNet_M laidLeft_M laidRight_M laidTouch_M laidTrack_M ringSize_M ringOf_M lays_M refusals_M)) (isC := [0, 1, 2, 3, 4, 5, 6, 7, 8, 9, 10, 11, 12, 13, 14, 15]) (isR := []) (pm := [0, 1, 2, 3, 4, 5, 6, 7, 8, 9, 10, 11, 12, 13, 14, 15]) C (c_X4_out l D cI cJ aM thrown_M pins_M many_M nets_M lefts_M rights_M touches_M below_M reach_M tracksOf_M steps_M laid_M laidMany_M tracks_M laidNet_M laidLeft_M laidRight_M laidTouch_M laidTrack_M ringSize_M ringOf_M lays_M refusals_M 0 r_2 thrown_M_3 h1) cw_X4_out 0 rfl rfl m3_231 dX4_via_30 rfl ⟨Nat.le_of_ble_eq_true rfl, Nat.le_of_ble_eq_true rfl⟩ (Nat.le_of_ble_eq_true rfl) ⟨Nat.le_refl 0, Nat.le_refl 0⟩ ⟨rfl, rfl, rfl, rfl, by decide, rfl, rfl⟩ ?_
    refine v_if_ne (tgt := 49) C dX4_via_33 (by decide) h (fun h => ?_) (fun h => ?_)
    · refine v_aload_n C 0 dX4_via_36 rfl rfl ?_
      refine v_iload_n C 1 dX4_via_37 rfl rfl ?_
      refine v_iload_n C 2 dX4_via_38 rfl rfl ?_
      obtain ⟨r, h1, h⟩ := bind_el h
      obtain ⟨r_4, rfl⟩ : ∃ z, z = r := ⟨_, rfl⟩
      try dsimp only at h
      refine v_callVi (As := [.int x1, .int x2]) (st := []) (wr := []) (w1 := (wM cI cJ aM thrown_M_3 pins_M many_M nets_M lefts_M rights_M touches_M below_M reach_M tracksOf_M steps_M laid_M laidMany_M tracks_M laidNet_M laidLeft_M laidRight_M laidTouch_M laidTrack_M ringSize_M ringOf_M lays_M refusals_M)) (ws' := (wM cI cJ aM thrown_M_3 pins_M many_M nets_M lefts_M rights_M touches_M below_M reach_M tracksOf_M steps_M laid_M laidMany_M tracks_M laidNet_M laidLeft_M laidRight_M laidTouch_M laidTrack_M ringSize_M ringOf_M lays_M refusals_M)) (isC := [0, 1, 2, 3, 4, 5, 6, 7, 8, 9, 10, 11, 12, 13, 14, 15]) (isR := []) (pm := [0, 1, 2, 3, 4, 5, 6, 7, 8, 9, 10, 11, 12, 13, 14, 15]) C (c_X4_viaAt l D cI cJ aM thrown_M_3 pins_M many_M nets_M lefts_M rights_M touches_M below_M reach_M tracksOf_M steps_M laid_M laidMany_M tracks_M laidNet_M laidLeft_M laidRight_M laidTouch_M laidTrack_M ringSize_M ringOf_M lays_M refusals_M x1 x2 r_4 h1) cw_X4_viaAt 0 rfl rfl m4_15 dX4_via_39 rfl ⟨Nat.le_of_ble_eq_true rfl, Nat.le_of_ble_eq_true rfl⟩ (Nat.le_of_ble_eq_true rfl) ⟨Nat.le_refl 0, Nat.le_refl 0⟩ ⟨rfl, rfl, rfl, rfl, by decide, rfl, rfl⟩ ?_
      refine v_if_eq (tgt := 49) C dX4_via_42 (by decide) h (fun h => ?_) (fun h => ?_)
      · refine v_iconst (v := 0) C dX4_via_49 (by decide) ?_
        cases h
        exact hk _ _ dX4_via_50 (Or.inl rfl)
      · refine v_iconst (v := 1) C dX4_via_45 (by decide) ?_
        refine v_goto (tgt := 50) C dX4_via_46 (by decide) ?_
        cases h
        exact hk _ _ dX4_via_50 (Or.inr rfl)
    · refine v_iconst (v := 0) C dX4_via_49 (by decide) ?_
      cases h
      exact hk _ _ dX4_via_50 (Or.inl rfl)
  · refine v_iload_n C 2 dX4_via_15 rfl rfl ?_
    refine v_iconst (v := 0) C dX4_via_16 (by decide) ?_
    refine v_bipush (v := 19) C dX4_via_17 (by decide) ?_
    obtain ⟨r, h1, h⟩ := bind_el h
    obtain ⟨r_5, rfl⟩ : ∃ z, z = r := ⟨_, rfl⟩
    try dsimp only at h
    refine v_callSi (As := [.int x2, .int 0, .int 19]) (st := [.ref (aM 0)]) (wr := [(aM 0, .inr (4, [.int thrown_M, .ref (aM 1), .int many_M, .ref (aM 2), .ref (aM 3), .ref (aM 4), .ref (aM 5), .ref (aM 6), .ref (aM 7), .ref (aM 8), .ref (aM 9), .int laid_M, .int laidMany_M, .int tracks_M, .ref (aM 10), .ref (aM 11), .ref (aM 12), .ref (aM 13), .ref (aM 14), .int ringSize_M, .ref (aM 15), .int lays_M, .int refusals_M])), (aM 1, .inl (cI, 40, .inl pins_M)), (aM 2, .inl (cI, 40, .inl nets_M)), (aM 3, .inl (cI, 40, .inl lefts_M)), (aM 4, .inl (cI, 40, .inl rights_M)), (aM 5, .inl (cI, 40, .inl touches_M)), (aM 6, .inl (cJ, 40, .inr (.inl below_M))), (aM 7, .inl (cJ, 40, .inr (.inl reach_M))), (aM 8, .inl (cI, 40, .inl tracksOf_M)), (aM 9, .inl (cI, 40, .inl steps_M)), (aM 10, .inl (cI, 40, .inl laidNet_M)), (aM 11, .inl (cI, 40, .inl laidLeft_M)), (aM 12, .inl (cI, 40, .inl laidRight_M)), (aM 13, .inl (cI, 40, .inl laidTouch_M)), (aM 14, .inl (cI, 40, .inl laidTrack_M)), (aM 15, .inl (cI, 40, .inl ringOf_M))]) (w1 := []) (ws' := (wM cI cJ aM thrown_M pins_M many_M nets_M lefts_M rights_M touches_M below_M reach_M tracksOf_M steps_M laid_M laidMany_M tracks_M laidNet_M laidLeft_M laidRight_M laidTouch_M laidTrack_M ringSize_M ringOf_M lays_M refusals_M)) (isC := []) (isR := [0, 1, 2, 3, 4, 5, 6, 7, 8, 9, 10, 11, 12, 13, 14, 15]) (pm := [0, 1, 2, 3, 4, 5, 6, 7, 8, 9, 10, 11, 12, 13, 14, 15]) C (c_X4_in l D cI cJ x2 0 19 r_5 h1) cw_X4_in m3_131 dX4_via_19 rfl ⟨Nat.le_of_ble_eq_true rfl, Nat.le_of_ble_eq_true rfl⟩ (Nat.le_of_ble_eq_true rfl) ⟨Nat.le_refl 0, Nat.le_refl 0⟩ ⟨rfl, rfl, rfl, rfl, by decide, rfl, rfl⟩ ?_
    refine v_if_eq (tgt := 29) C dX4_via_22 (by decide) h (fun h => ?_) (fun h => ?_)
    · refine v_iconst (v := 0) C dX4_via_29 (by decide) ?_
      obtain ⟨r, h1, h⟩ := bind_el h
      obtain ⟨r_6, thrown_M_7⟩ := r
      try dsimp only at h
      refine v_callVi (As := [.int 0]) (st := []) (wr := []) (w1 := (wM cI cJ aM thrown_M_7 pins_M many_M nets_M lefts_M rights_M touches_M below_M reach_M tracksOf_M steps_M laid_M laidMany_M tracks_M laidNet_M laidLeft_M laidRight_M laidTouch_M laidTrack_M ringSize_M ringOf_M lays_M refusals_M)) (ws' := (wM cI cJ aM thrown_M_7 pins_M many_M nets_M lefts_M rights_M touches_M below_M reach_M tracksOf_M steps_M laid_M laidMany_M tracks_M laidNet_M laidLeft_M laidRight_M laidTouch_M laidTrack_M ringSize_M ringOf_M lays_M refusals_M)) (isC := [0, 1, 2, 3, 4, 5, 6, 7, 8, 9, 10, 11, 12, 13, 14, 15]) (isR := []) (pm := [0, 1, 2, 3, 4, 5, 6, 7, 8, 9, 10, 11, 12, 13, 14, 15]) C (c_X4_out l D cI cJ aM thrown_M pins_M many_M nets_M lefts_M rights_M touches_M below_M reach_M tracksOf_M steps_M laid_M laidMany_M tracks_M laidNet_M laidLeft_M laidRight_M laidTouch_M laidTrack_M ringSize_M ringOf_M lays_M refusals_M 0 r_6 thrown_M_7 h1) cw_X4_out 0 rfl rfl m3_231 dX4_via_30 rfl ⟨Nat.le_of_ble_eq_true rfl, Nat.le_of_ble_eq_true rfl⟩ (Nat.le_of_ble_eq_true rfl) ⟨Nat.le_refl 0, Nat.le_refl 0⟩ ⟨rfl, rfl, rfl, rfl, by decide, rfl, rfl⟩ ?_
      refine v_if_ne (tgt := 49) C dX4_via_33 (by decide) h (fun h => ?_) (fun h => ?_)
      · refine v_aload_n C 0 dX4_via_36 rfl rfl ?_
        refine v_iload_n C 1 dX4_via_37 rfl rfl ?_
        refine v_iload_n C 2 dX4_via_38 rfl rfl ?_
        obtain ⟨r, h1, h⟩ := bind_el h
        obtain ⟨r_8, rfl⟩ : ∃ z, z = r := ⟨_, rfl⟩
        try dsimp only at h
        refine v_callVi (As := [.int x1, .int x2]) (st := []) (wr := []) (w1 := (wM cI cJ aM thrown_M_7 pins_M many_M nets_M lefts_M rights_M touches_M below_M reach_M tracksOf_M steps_M laid_M laidMany_M tracks_M laidNet_M laidLeft_M laidRight_M laidTouch_M laidTrack_M ringSize_M ringOf_M lays_M refusals_M)) (ws' := (wM cI cJ aM thrown_M_7 pins_M many_M nets_M lefts_M rights_M touches_M below_M reach_M tracksOf_M steps_M laid_M laidMany_M tracks_M laidNet_M laidLeft_M laidRight_M laidTouch_M laidTrack_M ringSize_M ringOf_M lays_M refusals_M)) (isC := [0, 1, 2, 3, 4, 5, 6, 7, 8, 9, 10, 11, 12, 13, 14, 15]) (isR := []) (pm := [0, 1, 2, 3, 4, 5, 6, 7, 8, 9, 10, 11, 12, 13, 14, 15]) C (c_X4_viaAt l D cI cJ aM thrown_M_7 pins_M many_M nets_M lefts_M rights_M touches_M below_M reach_M tracksOf_M steps_M laid_M laidMany_M tracks_M laidNet_M laidLeft_M laidRight_M laidTouch_M laidTrack_M ringSize_M ringOf_M lays_M refusals_M x1 x2 r_8 h1) cw_X4_viaAt 0 rfl rfl m4_15 dX4_via_39 rfl ⟨Nat.le_of_ble_eq_true rfl, Nat.le_of_ble_eq_true rfl⟩ (Nat.le_of_ble_eq_true rfl) ⟨Nat.le_refl 0, Nat.le_refl 0⟩ ⟨rfl, rfl, rfl, rfl, by decide, rfl, rfl⟩ ?_
        refine v_if_eq (tgt := 49) C dX4_via_42 (by decide) h (fun h => ?_) (fun h => ?_)
        · refine v_iconst (v := 0) C dX4_via_49 (by decide) ?_
          cases h
          exact hk _ _ dX4_via_50 (Or.inl rfl)
        · refine v_iconst (v := 1) C dX4_via_45 (by decide) ?_
          refine v_goto (tgt := 50) C dX4_via_46 (by decide) ?_
          cases h
          exact hk _ _ dX4_via_50 (Or.inr rfl)
      · refine v_iconst (v := 0) C dX4_via_49 (by decide) ?_
        cases h
        exact hk _ _ dX4_via_50 (Or.inl rfl)
    · refine v_iconst (v := 1) C dX4_via_25 (by decide) ?_
      refine v_goto (tgt := 30) C dX4_via_26 (by decide) ?_
      obtain ⟨r, h1, h⟩ := bind_el h
      obtain ⟨r_9, thrown_M_10⟩ := r
      try dsimp only at h
      refine v_callVi (As := [.int 1]) (st := []) (wr := []) (w1 := (wM cI cJ aM thrown_M_10 pins_M many_M nets_M lefts_M rights_M touches_M below_M reach_M tracksOf_M steps_M laid_M laidMany_M tracks_M laidNet_M laidLeft_M laidRight_M laidTouch_M laidTrack_M ringSize_M ringOf_M lays_M refusals_M)) (ws' := (wM cI cJ aM thrown_M_10 pins_M many_M nets_M lefts_M rights_M touches_M below_M reach_M tracksOf_M steps_M laid_M laidMany_M tracks_M laidNet_M laidLeft_M laidRight_M laidTouch_M laidTrack_M ringSize_M ringOf_M lays_M refusals_M)) (isC := [0, 1, 2, 3, 4, 5, 6, 7, 8, 9, 10, 11, 12, 13, 14, 15]) (isR := []) (pm := [0, 1, 2, 3, 4, 5, 6, 7, 8, 9, 10, 11, 12, 13, 14, 15]) C (c_X4_out l D cI cJ aM thrown_M pins_M many_M nets_M lefts_M rights_M touches_M below_M reach_M tracksOf_M steps_M laid_M laidMany_M tracks_M laidNet_M laidLeft_M laidRight_M laidTouch_M laidTrack_M ringSize_M ringOf_M lays_M refusals_M 1 r_9 thrown_M_10 h1) cw_X4_out 0 rfl rfl m3_231 dX4_via_30 rfl ⟨Nat.le_of_ble_eq_true rfl, Nat.le_of_ble_eq_true rfl⟩ (Nat.le_of_ble_eq_true rfl) ⟨Nat.le_refl 0, Nat.le_refl 0⟩ ⟨rfl, rfl, rfl, rfl, by decide, rfl, rfl⟩ ?_
      refine v_if_ne (tgt := 49) C dX4_via_33 (by decide) h (fun h => ?_) (fun h => ?_)
      · refine v_aload_n C 0 dX4_via_36 rfl rfl ?_
        refine v_iload_n C 1 dX4_via_37 rfl rfl ?_
        refine v_iload_n C 2 dX4_via_38 rfl rfl ?_
        obtain ⟨r, h1, h⟩ := bind_el h
        obtain ⟨r_11, rfl⟩ : ∃ z, z = r := ⟨_, rfl⟩
        try dsimp only at h
        refine v_callVi (As := [.int x1, .int x2]) (st := []) (wr := []) (w1 := (wM cI cJ aM thrown_M_10 pins_M many_M nets_M lefts_M rights_M touches_M below_M reach_M tracksOf_M steps_M laid_M laidMany_M tracks_M laidNet_M laidLeft_M laidRight_M laidTouch_M laidTrack_M ringSize_M ringOf_M lays_M refusals_M)) (ws' := (wM cI cJ aM thrown_M_10 pins_M many_M nets_M lefts_M rights_M touches_M below_M reach_M tracksOf_M steps_M laid_M laidMany_M tracks_M laidNet_M laidLeft_M laidRight_M laidTouch_M laidTrack_M ringSize_M ringOf_M lays_M refusals_M)) (isC := [0, 1, 2, 3, 4, 5, 6, 7, 8, 9, 10, 11, 12, 13, 14, 15]) (isR := []) (pm := [0, 1, 2, 3, 4, 5, 6, 7, 8, 9, 10, 11, 12, 13, 14, 15]) C (c_X4_viaAt l D cI cJ aM thrown_M_10 pins_M many_M nets_M lefts_M rights_M touches_M below_M reach_M tracksOf_M steps_M laid_M laidMany_M tracks_M laidNet_M laidLeft_M laidRight_M laidTouch_M laidTrack_M ringSize_M ringOf_M lays_M refusals_M x1 x2 r_11 h1) cw_X4_viaAt 0 rfl rfl m4_15 dX4_via_39 rfl ⟨Nat.le_of_ble_eq_true rfl, Nat.le_of_ble_eq_true rfl⟩ (Nat.le_of_ble_eq_true rfl) ⟨Nat.le_refl 0, Nat.le_refl 0⟩ ⟨rfl, rfl, rfl, rfl, by decide, rfl, rfl⟩ ?_
        refine v_if_eq (tgt := 49) C dX4_via_42 (by decide) h (fun h => ?_) (fun h => ?_)
        · refine v_iconst (v := 0) C dX4_via_49 (by decide) ?_
          cases h
          exact hk _ _ dX4_via_50 (Or.inl rfl)
        · refine v_iconst (v := 1) C dX4_via_45 (by decide) ?_
          refine v_goto (tgt := 50) C dX4_via_46 (by decide) ?_
          cases h
          exact hk _ _ dX4_via_50 (Or.inr rfl)
      · refine v_iconst (v := 0) C dX4_via_49 (by decide) ?_
        cases h
        exact hk _ _ dX4_via_50 (Or.inl rfl)
def f_X4_density_B20 (x2 : Int32) (pins_M : (Nat → Int32)) : (Int32 × Int32) → Option ((Int32 × Int32) ⊕ Int32)
  | (x3, x4) => if 9 < x4 then (some (.inr x3)) else ((f_X4_sort pins_M x4).bind (fun r => match r with | r_1 => if r_1 = 3 then ((f_X4_columns pins_M x4).bind (fun r => match r with | r_2 => (f_X4_lowest r_2).bind (fun r => match r with | r_3 => (f_X4_columns pins_M x4).bind (fun r => match r with | r_4 => (f_X4_highest r_4).bind (fun r => match r with | r_5 => (f_X4_in x2 r_3 r_5).bind (fun r => match r with | r_6 => if r_6 = 0 then (if (0 : Int32) = 0 then (some (.inl (x3, x4 + 1))) else (some (.inl (x3 + 1, x4 + 1)))) else (if (1 : Int32) = 0 then (some (.inl (x3, x4 + 1))) else (some (.inl (x3 + 1, x4 + 1)))))))))) else (if (0 : Int32) = 0 then (some (.inl (x3, x4 + 1))) else (some (.inl (x3 + 1, x4 + 1))))))
def f_X4_density_B9 (pins_M : (Nat → Int32)) : (Int32 × Int32) → Option ((Int32 × Int32) ⊕ Int32)
  | (x1, x2) => if 20 ≤ x2 then (some (.inr x1)) else ((lp (f_X4_density_B20 x2 pins_M) 64 (0, 1)).bind (fun r => match r with | x3_7 => if x3_7 ≤ x1 then (some (.inl (x1, x2 + 1))) else (some (.inl (x3_7, x2 + 1)))))
def f_X4_density (pins_M : (Nat → Int32)) : Option (Int32 × Int32) := (lp (f_X4_density_B9 pins_M) 64 (0, 0)).bind (fun r => match r with | x1_8 => some (x1_8, 0))
theorem cw_X4_density : CWv yX4_density cX4_density 6 (some .int) RX4 0 := ⟨m4_20, m4_21, m1_5, m4_22, rfl, by decide, by decide, by decide +kernel⟩
set_option maxHeartbeats 4000000 in
set_option maxRecDepth 100000 in
theorem t_X4_density_B20 {p : Program} {l : Launch} {e : Env} {s : State} {m : MethodId} {args : Array Value} {below : List Frame} {meth : Method} {c : Code} {D : va_G} {A : Nat → Prop} {cI cJ : ClassId} {Q : State → Prop} (C : Cx p s m args c cX4_density 6 RX4 D A cI cJ) {aM : Nat → Nat} {x1 : Int32} {x2 : Int32} {thrown_M : Int32} {pins_M : (Nat → Int32)} {many_M : Int32} {nets_M : (Nat → Int32)} {lefts_M : (Nat → Int32)} {rights_M : (Nat → Int32)} {touches_M : (Nat → Int32)} {below_M : (Nat → Int64)} {reach_M : (Nat → Int64)} {tracksOf_M : (Nat → Int32)} {steps_M : (Nat → Int32)} {laid_M : Int32} {laidMany_M : Int32} {tracks_M : Int32} {laidNet_M : (Nat → Int32)} {laidLeft_M : (Nat → Int32)} {laidRight_M : (Nat → Int32)} {laidTouch_M : (Nat → Int32)} {laidTrack_M : (Nat → Int32)} {ringSize_M : Int32} {ringOf_M : (Nat → Int32)} {lays_M : Int32} {refusals_M : Int32} (s8 : (Int32 × Int32)) (o8 : (Int32 × Int32) ⊕ Int32) (h : f_X4_density_B20 x2 pins_M s8 = some o8) (hl : ∀ s8, o8 = .inl s8 → V p l e (rmO 2 46) s m args below meth c 6 D A 0 0 Q 20 [(0, .ref (aM 0)), (1, .int x1), (2, .int x2), (3, .int s8.1), (4, .int s8.2)] [] (wM cI cJ aM thrown_M pins_M many_M nets_M lefts_M rights_M touches_M below_M reach_M tracksOf_M steps_M laid_M laidMany_M tracks_M laidNet_M laidLeft_M laidRight_M laidTouch_M laidTrack_M ringSize_M ringOf_M lays_M refusals_M)) (hx : ∀ r8, o8 = .inr r8 → V p l e (rmO 2 46) s m args below meth c 6 D A 0 0 Q 88 [(0, .ref (aM 0)), (1, .int x1), (2, .int x2), (3, .int r8)] [] (wM cI cJ aM thrown_M pins_M many_M nets_M lefts_M rights_M touches_M below_M reach_M tracksOf_M steps_M laid_M laidMany_M tracks_M laidNet_M laidLeft_M laidRight_M laidTouch_M laidTrack_M ringSize_M ringOf_M lays_M refusals_M)) : V p l e (rmO 2 46) s m args below meth c 6 D A 0 0 Q 20 [(0, .ref (aM 0)), (1, .int x1), (2, .int x2), (3, .int s8.1), (4, .int s8.2)] [] (wM cI cJ aM thrown_M pins_M many_M nets_M lefts_M rights_M touches_M below_M reach_M tracksOf_M steps_M laid_M laidMany_M tracks_M laidNet_M laidLeft_M laidRight_M laidTouch_M laidTrack_M ringSize_M ringOf_M lays_M refusals_M) := by
  obtain ⟨x3, x4⟩ := s8
  unfold f_X4_density_B20 at h
  show V p l e (rmO 2 46) s m args below meth c 6 D A 0 0 Q 20 [(0, .ref (aM 0)), (1, .int x1), (2, .int x2), (3, .int x3), (4, .int x4)] [] (wM cI cJ aM thrown_M pins_M many_M nets_M lefts_M rights_M touches_M below_M reach_M tracksOf_M steps_M laid_M laidMany_M tracks_M laidNet_M laidLeft_M laidRight_M laidTouch_M laidTrack_M ringSize_M ringOf_M lays_M refusals_M)
  refine v_iload C 4 dX4_density_20 rfl ?_
  refine v_bipush (v := 9) C dX4_density_22 (by decide) ?_
  refine v_icmp_gt (tgt := 88) C dX4_density_24 (by decide) h (fun h => ?_) (fun h => ?_)
  · refine v_perm [0, 1, 2, 3] rfl ?_
    cases h
    exact hx _ rfl
  · refine v_aload_n C 0 dX4_density_27 rfl rfl ?_
    refine v_iload C 4 dX4_density_28 rfl ?_
    obtain ⟨r, h1, h⟩ := bind_el h
    obtain ⟨r_1, rfl⟩ : ∃ z, z = r := ⟨_, rfl⟩
    try dsimp only at h
    refine v_callVi (As := [.int x4]) (st := []) (wr := []) (w1 := (wM cI cJ aM thrown_M pins_M many_M nets_M lefts_M rights_M touches_M below_M reach_M tracksOf_M steps_M laid_M laidMany_M tracks_M laidNet_M laidLeft_M laidRight_M laidTouch_M laidTrack_M ringSize_M ringOf_M lays_M refusals_M)) (ws' := (wM cI cJ aM thrown_M pins_M many_M nets_M lefts_M rights_M touches_M below_M reach_M tracksOf_M steps_M laid_M laidMany_M tracks_M laidNet_M laidLeft_M laidRight_M laidTouch_M laidTrack_M ringSize_M ringOf_M lays_M refusals_M)) (isC := [0, 1, 2, 3, 4, 5, 6, 7, 8, 9, 10, 11, 12, 13, 14, 15]) (isR := []) (pm := [0, 1, 2, 3, 4, 5, 6, 7, 8, 9, 10, 11, 12, 13, 14, 15]) C (c_X4_sort l D cI cJ aM thrown_M pins_M many_M nets_M lefts_M rights_M touches_M below_M reach_M tracksOf_M steps_M laid_M laidMany_M tracks_M laidNet_M laidLeft_M laidRight_M laidTouch_M laidTrack_M ringSize_M ringOf_M lays_M refusals_M x4 r_1 h1) cw_X4_sort 0 rfl rfl m3_142 dX4_density_30 rfl ⟨Nat.le_of_ble_eq_true rfl, Nat.le_of_ble_eq_true rfl⟩ (Nat.le_of_ble_eq_true rfl) ⟨Nat.le_refl 0, Nat.le_refl 0⟩ ⟨rfl, rfl, rfl, rfl, by decide, rfl, rfl⟩ ?_
    refine v_iconst (v := 3) C dX4_density_33 (by decide) ?_
    refine v_icmp_ne (tgt := 66) C dX4_density_34 (by decide) h (fun h => ?_) (fun h => ?_)
    · refine v_iload_n C 2 dX4_density_37 rfl rfl ?_
      refine v_aload_n C 0 dX4_density_38 rfl rfl ?_
      refine v_iload C 4 dX4_density_39 rfl ?_
      obtain ⟨r, h1, h⟩ := bind_el h
      obtain ⟨r_2, rfl⟩ : ∃ z, z = r := ⟨_, rfl⟩
      try dsimp only at h
      refine v_callVi (As := [.int x4]) (st := [.int x2]) (wr := []) (w1 := (wM cI cJ aM thrown_M pins_M many_M nets_M lefts_M rights_M touches_M below_M reach_M tracksOf_M steps_M laid_M laidMany_M tracks_M laidNet_M laidLeft_M laidRight_M laidTouch_M laidTrack_M ringSize_M ringOf_M lays_M refusals_M)) (ws' := (wM cI cJ aM thrown_M pins_M many_M nets_M lefts_M rights_M touches_M below_M reach_M tracksOf_M steps_M laid_M laidMany_M tracks_M laidNet_M laidLeft_M laidRight_M laidTouch_M laidTrack_M ringSize_M ringOf_M lays_M refusals_M)) (isC := [0, 1, 2, 3, 4, 5, 6, 7, 8, 9, 10, 11, 12, 13, 14, 15]) (isR := []) (pm := [0, 1, 2, 3, 4, 5, 6, 7, 8, 9, 10, 11, 12, 13, 14, 15]) C (c_X4_columns l D cI cJ aM thrown_M pins_M many_M nets_M lefts_M rights_M touches_M below_M reach_M tracksOf_M steps_M laid_M laidMany_M tracks_M laidNet_M laidLeft_M laidRight_M laidTouch_M laidTrack_M ringSize_M ringOf_M lays_M refusals_M x4 r_2 h1) cw_X4_columns 0 rfl rfl m3_150 dX4_density_41 rfl ⟨Nat.le_of_ble_eq_true rfl, Nat.le_of_ble_eq_true rfl⟩ (Nat.le_of_ble_eq_true rfl) ⟨Nat.le_refl 0, Nat.le_refl 0⟩ ⟨rfl, rfl, rfl, rfl, by decide, rfl, rfl⟩ ?_
      obtain ⟨r, h1, h⟩ := bind_el h
      obtain ⟨r_3, rfl⟩ : ∃ z, z = r := ⟨_, rfl⟩
      try dsimp only at h
      refine v_callSi (As := [.int r_2]) (st := [.int x2]) (wr := [(aM 0, .inr (4, [.int thrown_M, .ref (aM 1), .int many_M, .ref (aM 2), .ref (aM 3), .ref (aM 4), .ref (aM 5), .ref (aM 6), .ref (aM 7), .ref (aM 8), .ref (aM 9), .int laid_M, .int laidMany_M, .int tracks_M, .ref (aM 10), .ref (aM 11), .ref (aM 12), .ref (aM 13), .ref (aM 14), .int ringSize_M, .ref (aM 15), .int lays_M, .int refusals_M])), (aM 1, .inl (cI, 40, .inl pins_M)), (aM 2, .inl (cI, 40, .inl nets_M)), (aM 3, .inl (cI, 40, .inl lefts_M)), (aM 4, .inl (cI, 40, .inl rights_M)), (aM 5, .inl (cI, 40, .inl touches_M)), (aM 6, .inl (cJ, 40, .inr (.inl below_M))), (aM 7, .inl (cJ, 40, .inr (.inl reach_M))), (aM 8, .inl (cI, 40, .inl tracksOf_M)), (aM 9, .inl (cI, 40, .inl steps_M)), (aM 10, .inl (cI, 40, .inl laidNet_M)), (aM 11, .inl (cI, 40, .inl laidLeft_M)), (aM 12, .inl (cI, 40, .inl laidRight_M)), (aM 13, .inl (cI, 40, .inl laidTouch_M)), (aM 14, .inl (cI, 40, .inl laidTrack_M)), (aM 15, .inl (cI, 40, .inl ringOf_M))]) (w1 := []) (ws' := (wM cI cJ aM thrown_M pins_M many_M nets_M lefts_M rights_M touches_M below_M reach_M tracksOf_M steps_M laid_M laidMany_M tracks_M laidNet_M laidLeft_M laidRight_M laidTouch_M laidTrack_M ringSize_M ringOf_M lays_M refusals_M)) (isC := []) (isR := [0, 1, 2, 3, 4, 5, 6, 7, 8, 9, 10, 11, 12, 13, 14, 15]) (pm := [0, 1, 2, 3, 4, 5, 6, 7, 8, 9, 10, 11, 12, 13, 14, 15]) C (c_X4_lowest l D cI cJ r_2 r_3 h1) cw_X4_lowest m3_154 dX4_density_44 rfl ⟨Nat.le_of_ble_eq_true rfl, Nat.le_of_ble_eq_true rfl⟩ (Nat.le_of_ble_eq_true rfl) ⟨Nat.le_refl 0, Nat.le_refl 0⟩ ⟨rfl, rfl, rfl, rfl, by decide, rfl, rfl⟩ ?_
      refine v_aload_n C 0 dX4_density_47 rfl rfl ?_
      refine v_iload C 4 dX4_density_48 rfl ?_
      obtain ⟨r, h1, h⟩ := bind_el h
      obtain ⟨r_4, rfl⟩ : ∃ z, z = r := ⟨_, rfl⟩
      try dsimp only at h
      refine v_callVi (As := [.int x4]) (st := [.int r_3, .int x2]) (wr := []) (w1 := (wM cI cJ aM thrown_M pins_M many_M nets_M lefts_M rights_M touches_M below_M reach_M tracksOf_M steps_M laid_M laidMany_M tracks_M laidNet_M laidLeft_M laidRight_M laidTouch_M laidTrack_M ringSize_M ringOf_M lays_M refusals_M)) (ws' := (wM cI cJ aM thrown_M pins_M many_M nets_M lefts_M rights_M touches_M below_M reach_M tracksOf_M steps_M laid_M laidMany_M tracks_M laidNet_M laidLeft_M laidRight_M laidTouch_M laidTrack_M ringSize_M ringOf_M lays_M refusals_M)) (isC := [0, 1, 2, 3, 4, 5, 6, 7, 8, 9, 10, 11, 12, 13, 14, 15]) (isR := []) (pm := [0, 1, 2, 3, 4, 5, 6, 7, 8, 9, 10, 11, 12, 13, 14, 15]) C (c_X4_columns l D cI cJ aM thrown_M pins_M many_M nets_M lefts_M rights_M touches_M below_M reach_M tracksOf_M steps_M laid_M laidMany_M tracks_M laidNet_M laidLeft_M laidRight_M laidTouch_M laidTrack_M ringSize_M ringOf_M lays_M refusals_M x4 r_4 h1) cw_X4_columns 0 rfl rfl m3_150 dX4_density_50 rfl ⟨Nat.le_of_ble_eq_true rfl, Nat.le_of_ble_eq_true rfl⟩ (Nat.le_of_ble_eq_true rfl) ⟨Nat.le_refl 0, Nat.le_refl 0⟩ ⟨rfl, rfl, rfl, rfl, by decide, rfl, rfl⟩ ?_
      obtain ⟨r, h1, h⟩ := bind_el h
      obtain ⟨r_5, rfl⟩ : ∃ z, z = r := ⟨_, rfl⟩
      try dsimp only at h
      refine v_callSi (As := [.int r_4]) (st := [.int r_3, .int x2]) (wr := [(aM 0, .inr (4, [.int thrown_M, .ref (aM 1), .int many_M, .ref (aM 2), .ref (aM 3), .ref (aM 4), .ref (aM 5), .ref (aM 6), .ref (aM 7), .ref (aM 8), .ref (aM 9), .int laid_M, .int laidMany_M, .int tracks_M, .ref (aM 10), .ref (aM 11), .ref (aM 12), .ref (aM 13), .ref (aM 14), .int ringSize_M, .ref (aM 15), .int lays_M, .int refusals_M])), (aM 1, .inl (cI, 40, .inl pins_M)), (aM 2, .inl (cI, 40, .inl nets_M)), (aM 3, .inl (cI, 40, .inl lefts_M)), (aM 4, .inl (cI, 40, .inl rights_M)), (aM 5, .inl (cI, 40, .inl touches_M)), (aM 6, .inl (cJ, 40, .inr (.inl below_M))), (aM 7, .inl (cJ, 40, .inr (.inl reach_M))), (aM 8, .inl (cI, 40, .inl tracksOf_M)), (aM 9, .inl (cI, 40, .inl steps_M)), (aM 10, .inl (cI, 40, .inl laidNet_M)), (aM 11, .inl (cI, 40, .inl laidLeft_M)), (aM 12, .inl (cI, 40, .inl laidRight_M)), (aM 13, .inl (cI, 40, .inl laidTouch_M)), (aM 14, .inl (cI, 40, .inl laidTrack_M)), (aM 15, .inl (cI, 40, .inl ringOf_M))]) (w1 := []) (ws' := (wM cI cJ aM thrown_M pins_M many_M nets_M lefts_M rights_M touches_M below_M reach_M tracksOf_M steps_M laid_M laidMany_M tracks_M laidNet_M laidLeft_M laidRight_M laidTouch_M laidTrack_M ringSize_M ringOf_M lays_M refusals_M)) (isC := []) (isR := [0, 1, 2, 3, 4, 5, 6, 7, 8, 9, 10, 11, 12, 13, 14, 15]) (pm := [0, 1, 2, 3, 4, 5, 6, 7, 8, 9, 10, 11, 12, 13, 14, 15]) C (c_X4_highest l D cI cJ r_4 r_5 h1) cw_X4_highest m3_157 dX4_density_53 rfl ⟨Nat.le_of_ble_eq_true rfl, Nat.le_of_ble_eq_true rfl⟩ (Nat.le_of_ble_eq_true rfl) ⟨Nat.le_refl 0, Nat.le_refl 0⟩ ⟨rfl, rfl, rfl, rfl, by decide, rfl, rfl⟩ ?_
      obtain ⟨r, h1, h⟩ := bind_el h
      obtain ⟨r_6, rfl⟩ : ∃ z, z = r := ⟨_, rfl⟩
      try dsimp only at h
      refine v_callSi (As := [.int x2, .int r_3, .int r_5]) (st := []) (wr := [(aM 0, .inr (4, [.int thrown_M, .ref (aM 1), .int many_M, .ref (aM 2), .ref (aM 3), .ref (aM 4), .ref (aM 5), .ref (aM 6), .ref (aM 7), .ref (aM 8), .ref (aM 9), .int laid_M, .int laidMany_M, .int tracks_M, .ref (aM 10), .ref (aM 11), .ref (aM 12), .ref (aM 13), .ref (aM 14), .int ringSize_M, .ref (aM 15), .int lays_M, .int refusals_M])), (aM 1, .inl (cI, 40, .inl pins_M)), (aM 2, .inl (cI, 40, .inl nets_M)), (aM 3, .inl (cI, 40, .inl lefts_M)), (aM 4, .inl (cI, 40, .inl rights_M)), (aM 5, .inl (cI, 40, .inl touches_M)), (aM 6, .inl (cJ, 40, .inr (.inl below_M))), (aM 7, .inl (cJ, 40, .inr (.inl reach_M))), (aM 8, .inl (cI, 40, .inl tracksOf_M)), (aM 9, .inl (cI, 40, .inl steps_M)), (aM 10, .inl (cI, 40, .inl laidNet_M)), (aM 11, .inl (cI, 40, .inl laidLeft_M)), (aM 12, .inl (cI, 40, .inl laidRight_M)), (aM 13, .inl (cI, 40, .inl laidTouch_M)), (aM 14, .inl (cI, 40, .inl laidTrack_M)), (aM 15, .inl (cI, 40, .inl ringOf_M))]) (w1 := []) (ws' := (wM cI cJ aM thrown_M pins_M many_M nets_M lefts_M rights_M touches_M below_M reach_M tracksOf_M steps_M laid_M laidMany_M tracks_M laidNet_M laidLeft_M laidRight_M laidTouch_M laidTrack_M ringSize_M ringOf_M lays_M refusals_M)) (isC := []) (isR := [0, 1, 2, 3, 4, 5, 6, 7, 8, 9, 10, 11, 12, 13, 14, 15]) (pm := [0, 1, 2, 3, 4, 5, 6, 7, 8, 9, 10, 11, 12, 13, 14, 15]) C (c_X4_in l D cI cJ x2 r_3 r_5 r_6 h1) cw_X4_in m3_131 dX4_density_56 rfl ⟨Nat.le_of_ble_eq_true rfl, Nat.le_of_ble_eq_true rfl⟩ (Nat.le_of_ble_eq_true rfl) ⟨Nat.le_refl 0, Nat.le_refl 0⟩ ⟨rfl, rfl, rfl, rfl, by decide, rfl, rfl⟩ ?_
      refine v_if_eq (tgt := 66) C dX4_density_59 (by decide) h (fun h => ?_) (fun h => ?_)
      · refine v_iconst (v := 0) C dX4_density_66 (by decide) ?_
        refine v_istore C [(5, .int 0), (0, .ref (aM 0)), (1, .int x1), (2, .int x2), (3, .int x3), (4, .int x4)] dX4_density_67 (by decide) rfl ?_
        refine v_iload C 0 dX4_density_69 rfl ?_
        refine v_if_eq (tgt := 80) C dX4_density_71 (by decide) h (fun h => ?_) (fun h => ?_)
        · refine v_iload_n C 4 dX4_density_80 rfl rfl ?_
          refine v_istore_n C [(3, .int x3), (5, .int 0), (0, .ref (aM 0)), (1, .int x1), (2, .int x2), (4, .int x4)] dX4_density_81 rfl (by decide) rfl ?_
          refine v_iinc C [(4, .int (x4 + 1)), (3, .int x3), (5, .int 0), (0, .ref (aM 0)), (1, .int x1), (2, .int x2)] 5 dX4_density_82 rfl rfl (by decide) rfl ?_
          refine v_goto (tgt := 20) C dX4_density_85 (by decide) ?_
          refine v_perm [3, 4, 5, 1, 0] rfl ?_
          cases h
          exact hl _ rfl
        · refine v_iload_n C 4 dX4_density_74 rfl rfl ?_
          refine v_iconst (v := 1) C dX4_density_75 (by decide) ?_
          refine v_iadd C dX4_density_76 ?_
          refine v_goto (tgt := 81) C dX4_density_77 (by decide) ?_
          refine v_istore_n C [(3, .int (x3 + 1)), (5, .int 0), (0, .ref (aM 0)), (1, .int x1), (2, .int x2), (4, .int x4)] dX4_density_81 rfl (by decide) rfl ?_
          refine v_iinc C [(4, .int (x4 + 1)), (3, .int (x3 + 1)), (5, .int 0), (0, .ref (aM 0)), (1, .int x1), (2, .int x2)] 5 dX4_density_82 rfl rfl (by decide) rfl ?_
          refine v_goto (tgt := 20) C dX4_density_85 (by decide) ?_
          refine v_perm [3, 4, 5, 1, 0] rfl ?_
          cases h
          exact hl _ rfl
      · refine v_iconst (v := 1) C dX4_density_62 (by decide) ?_
        refine v_goto (tgt := 67) C dX4_density_63 (by decide) ?_
        refine v_istore C [(5, .int 1), (0, .ref (aM 0)), (1, .int x1), (2, .int x2), (3, .int x3), (4, .int x4)] dX4_density_67 (by decide) rfl ?_
        refine v_iload C 0 dX4_density_69 rfl ?_
        refine v_if_eq (tgt := 80) C dX4_density_71 (by decide) h (fun h => ?_) (fun h => ?_)
        · refine v_iload_n C 4 dX4_density_80 rfl rfl ?_
          refine v_istore_n C [(3, .int x3), (5, .int 1), (0, .ref (aM 0)), (1, .int x1), (2, .int x2), (4, .int x4)] dX4_density_81 rfl (by decide) rfl ?_
          refine v_iinc C [(4, .int (x4 + 1)), (3, .int x3), (5, .int 1), (0, .ref (aM 0)), (1, .int x1), (2, .int x2)] 5 dX4_density_82 rfl rfl (by decide) rfl ?_
          refine v_goto (tgt := 20) C dX4_density_85 (by decide) ?_
          refine v_perm [3, 4, 5, 1, 0] rfl ?_
          cases h
          exact hl _ rfl
        · refine v_iload_n C 4 dX4_density_74 rfl rfl ?_
          refine v_iconst (v := 1) C dX4_density_75 (by decide) ?_
          refine v_iadd C dX4_density_76 ?_
          refine v_goto (tgt := 81) C dX4_density_77 (by decide) ?_
          refine v_istore_n C [(3, .int (x3 + 1)), (5, .int 1), (0, .ref (aM 0)), (1, .int x1), (2, .int x2), (4, .int x4)] dX4_density_81 rfl (by decide) rfl ?_
          refine v_iinc C [(4, .int (x4 + 1)), (3, .int (x3 + 1)), (5, .int 1), (0, .ref (aM 0)), (1, .int x1), (2, .int x2)] 5 dX4_density_82 rfl rfl (by decide) rfl ?_
          refine v_goto (tgt := 20) C dX4_density_85 (by decide) ?_
          refine v_perm [3, 4, 5, 1, 0] rfl ?_
          cases h
          exact hl _ rfl
    · refine v_iconst (v := 0) C dX4_density_66 (by decide) ?_
      refine v_istore C [(5, .int 0), (0, .ref (aM 0)), (1, .int x1), (2, .int x2), (3, .int x3), (4, .int x4)] dX4_density_67 (by decide) rfl ?_
      refine v_iload C 0 dX4_density_69 rfl ?_
      refine v_if_eq (tgt := 80) C dX4_density_71 (by decide) h (fun h => ?_) (fun h => ?_)
      · refine v_iload_n C 4 dX4_density_80 rfl rfl ?_
        refine v_istore_n C [(3, .int x3), (5, .int 0), (0, .ref (aM 0)), (1, .int x1), (2, .int x2), (4, .int x4)] dX4_density_81 rfl (by decide) rfl ?_
        refine v_iinc C [(4, .int (x4 + 1)), (3, .int x3), (5, .int 0), (0, .ref (aM 0)), (1, .int x1), (2, .int x2)] 5 dX4_density_82 rfl rfl (by decide) rfl ?_
        refine v_goto (tgt := 20) C dX4_density_85 (by decide) ?_
        refine v_perm [3, 4, 5, 1, 0] rfl ?_
        cases h
        exact hl _ rfl
      · refine v_iload_n C 4 dX4_density_74 rfl rfl ?_
        refine v_iconst (v := 1) C dX4_density_75 (by decide) ?_
        refine v_iadd C dX4_density_76 ?_
        refine v_goto (tgt := 81) C dX4_density_77 (by decide) ?_
        refine v_istore_n C [(3, .int (x3 + 1)), (5, .int 0), (0, .ref (aM 0)), (1, .int x1), (2, .int x2), (4, .int x4)] dX4_density_81 rfl (by decide) rfl ?_
        refine v_iinc C [(4, .int (x4 + 1)), (3, .int (x3 + 1)), (5, .int 0), (0, .ref (aM 0)), (1, .int x1), (2, .int x2)] 5 dX4_density_82 rfl rfl (by decide) rfl ?_
        refine v_goto (tgt := 20) C dX4_density_85 (by decide) ?_
        refine v_perm [3, 4, 5, 1, 0] rfl ?_
        cases h
        exact hl _ rfl
set_option maxHeartbeats 4000000 in
set_option maxRecDepth 100000 in
theorem t_X4_density_L20 {p : Program} {l : Launch} {e : Env} {s : State} {m : MethodId} {args : Array Value} {below : List Frame} {meth : Method} {c : Code} {D : va_G} {A : Nat → Prop} {cI cJ : ClassId} {Q : State → Prop} (C : Cx p s m args c cX4_density 6 RX4 D A cI cJ) {aM : Nat → Nat} {x1 : Int32} {x2 : Int32} {thrown_M : Int32} {pins_M : (Nat → Int32)} {many_M : Int32} {nets_M : (Nat → Int32)} {lefts_M : (Nat → Int32)} {rights_M : (Nat → Int32)} {touches_M : (Nat → Int32)} {below_M : (Nat → Int64)} {reach_M : (Nat → Int64)} {tracksOf_M : (Nat → Int32)} {steps_M : (Nat → Int32)} {laid_M : Int32} {laidMany_M : Int32} {tracks_M : Int32} {laidNet_M : (Nat → Int32)} {laidLeft_M : (Nat → Int32)} {laidRight_M : (Nat → Int32)} {laidTouch_M : (Nat → Int32)} {laidTrack_M : (Nat → Int32)} {ringSize_M : Int32} {ringOf_M : (Nat → Int32)} {lays_M : Int32} {refusals_M : Int32} {n8 : Nat} {s9 : (Int32 × Int32)} {o8 : Int32} (h : lp (f_X4_density_B20 x2 pins_M) n8 s9 = some o8) (hk : V p l e (rmO 2 46) s m args below meth c 6 D A 0 0 Q 88 [(0, .ref (aM 0)), (1, .int x1), (2, .int x2), (3, .int o8)] [] (wM cI cJ aM thrown_M pins_M many_M nets_M lefts_M rights_M touches_M below_M reach_M tracksOf_M steps_M laid_M laidMany_M tracks_M laidNet_M laidLeft_M laidRight_M laidTouch_M laidTrack_M ringSize_M ringOf_M lays_M refusals_M)) : V p l e (rmO 2 46) s m args below meth c 6 D A 0 0 Q 20 [(0, .ref (aM 0)), (1, .int x1), (2, .int x2), (3, .int s9.1), (4, .int s9.2)] [] (wM cI cJ aM thrown_M pins_M many_M nets_M lefts_M rights_M touches_M below_M reach_M tracksOf_M steps_M laid_M laidMany_M tracks_M laidNet_M laidLeft_M laidRight_M laidTouch_M laidTrack_M ringSize_M ringOf_M lays_M refusals_M) := lp_ok (Pσ := fun s8 => V p l e (rmO 2 46) s m args below meth c 6 D A 0 0 Q 20 [(0, .ref (aM 0)), (1, .int x1), (2, .int x2), (3, .int s8.1), (4, .int s8.2)] [] (wM cI cJ aM thrown_M pins_M many_M nets_M lefts_M rights_M touches_M below_M reach_M tracksOf_M steps_M laid_M laidMany_M tracks_M laidNet_M laidLeft_M laidRight_M laidTouch_M laidTrack_M ringSize_M ringOf_M lays_M refusals_M)) (Pρ := fun r8 => V p l e (rmO 2 46) s m args below meth c 6 D A 0 0 Q 88 [(0, .ref (aM 0)), (1, .int x1), (2, .int x2), (3, .int r8)] [] (wM cI cJ aM thrown_M pins_M many_M nets_M lefts_M rights_M touches_M below_M reach_M tracksOf_M steps_M laid_M laidMany_M tracks_M laidNet_M laidLeft_M laidRight_M laidTouch_M laidTrack_M ringSize_M ringOf_M lays_M refusals_M)) (fun s o h hl hx => t_X4_density_B20 C s o h hl hx) n8 s9 o8 h hk
set_option maxHeartbeats 4000000 in
set_option maxRecDepth 100000 in
theorem t_X4_density_B9 {p : Program} {l : Launch} {e : Env} {s : State} {m : MethodId} {args : Array Value} {below : List Frame} {meth : Method} {c : Code} {D : va_G} {A : Nat → Prop} {cI cJ : ClassId} {Q : State → Prop} (C : Cx p s m args c cX4_density 6 RX4 D A cI cJ) {aM : Nat → Nat} {thrown_M : Int32} {pins_M : (Nat → Int32)} {many_M : Int32} {nets_M : (Nat → Int32)} {lefts_M : (Nat → Int32)} {rights_M : (Nat → Int32)} {touches_M : (Nat → Int32)} {below_M : (Nat → Int64)} {reach_M : (Nat → Int64)} {tracksOf_M : (Nat → Int32)} {steps_M : (Nat → Int32)} {laid_M : Int32} {laidMany_M : Int32} {tracks_M : Int32} {laidNet_M : (Nat → Int32)} {laidLeft_M : (Nat → Int32)} {laidRight_M : (Nat → Int32)} {laidTouch_M : (Nat → Int32)} {laidTrack_M : (Nat → Int32)} {ringSize_M : Int32} {ringOf_M : (Nat → Int32)} {lays_M : Int32} {refusals_M : Int32} (s8 : (Int32 × Int32)) (o8 : (Int32 × Int32) ⊕ Int32) (h : f_X4_density_B9 pins_M s8 = some o8) (hl : ∀ s8, o8 = .inl s8 → V p l e (rmO 2 46) s m args below meth c 6 D A 0 0 Q 9 [(0, .ref (aM 0)), (1, .int s8.1), (2, .int s8.2)] [] (wM cI cJ aM thrown_M pins_M many_M nets_M lefts_M rights_M touches_M below_M reach_M tracksOf_M steps_M laid_M laidMany_M tracks_M laidNet_M laidLeft_M laidRight_M laidTouch_M laidTrack_M ringSize_M ringOf_M lays_M refusals_M)) (hx : ∀ r8, o8 = .inr r8 → V p l e (rmO 2 46) s m args below meth c 6 D A 0 0 Q 105 [(1, .int r8)] [] (wM cI cJ aM thrown_M pins_M many_M nets_M lefts_M rights_M touches_M below_M reach_M tracksOf_M steps_M laid_M laidMany_M tracks_M laidNet_M laidLeft_M laidRight_M laidTouch_M laidTrack_M ringSize_M ringOf_M lays_M refusals_M)) : V p l e (rmO 2 46) s m args below meth c 6 D A 0 0 Q 9 [(0, .ref (aM 0)), (1, .int s8.1), (2, .int s8.2)] [] (wM cI cJ aM thrown_M pins_M many_M nets_M lefts_M rights_M touches_M below_M reach_M tracksOf_M steps_M laid_M laidMany_M tracks_M laidNet_M laidLeft_M laidRight_M laidTouch_M laidTrack_M ringSize_M ringOf_M lays_M refusals_M) := by
  obtain ⟨x1, x2⟩ := s8
  unfold f_X4_density_B9 at h
  show V p l e (rmO 2 46) s m args below meth c 6 D A 0 0 Q 9 [(0, .ref (aM 0)), (1, .int x1), (2, .int x2)] [] (wM cI cJ aM thrown_M pins_M many_M nets_M lefts_M rights_M touches_M below_M reach_M tracksOf_M steps_M laid_M laidMany_M tracks_M laidNet_M laidLeft_M laidRight_M laidTouch_M laidTrack_M ringSize_M ringOf_M lays_M refusals_M)
  refine v_iload_n C 2 dX4_density_9 rfl rfl ?_
  refine v_bipush (v := 20) C dX4_density_10 (by decide) ?_
  refine v_icmp_ge (tgt := 105) C dX4_density_12 (by decide) h (fun h => ?_) (fun h => ?_)
  · refine v_perm [1] rfl ?_
    cases h
    exact hx _ rfl
  · refine v_iconst (v := 0) C dX4_density_15 (by decide) ?_
    refine v_istore_n C [(3, .int 0), (0, .ref (aM 0)), (1, .int x1), (2, .int x2)] dX4_density_16 rfl (by decide) rfl ?_
    refine v_iconst (v := 1) C dX4_density_17 (by decide) ?_
    refine v_istore C [(4, .int 1), (3, .int 0), (0, .ref (aM 0)), (1, .int x1), (2, .int x2)] dX4_density_18 (by decide) rfl ?_
    obtain ⟨r, h1, h⟩ := bind_el h
    refine v_perm [2, 3, 4, 1, 0] rfl ?_
    obtain ⟨x3_7, rfl⟩ : ∃ z, z = r := ⟨_, rfl⟩
    refine t_X4_density_L20 C (s9 := (0, 1)) h1 ?_
    show V p l e (rmO 2 46) s m args below meth c 6 D A 0 0 Q 88 [(0, .ref (aM 0)), (1, .int x1), (2, .int x2), (3, .int x3_7)] [] (wM cI cJ aM thrown_M pins_M many_M nets_M lefts_M rights_M touches_M below_M reach_M tracksOf_M steps_M laid_M laidMany_M tracks_M laidNet_M laidLeft_M laidRight_M laidTouch_M laidTrack_M ringSize_M ringOf_M lays_M refusals_M)
    try dsimp only at h
    refine v_iload_n C 3 dX4_density_88 rfl rfl ?_
    refine v_iload_n C 1 dX4_density_89 rfl rfl ?_
    refine v_icmp_le (tgt := 97) C dX4_density_90 (by decide) h (fun h => ?_) (fun h => ?_)
    · refine v_iload_n C 1 dX4_density_97 rfl rfl ?_
      refine v_istore_n C [(1, .int x1), (0, .ref (aM 0)), (2, .int x2), (3, .int x3_7)] dX4_density_98 rfl (by decide) rfl ?_
      refine v_iinc C [(2, .int (x2 + 1)), (1, .int x1), (0, .ref (aM 0)), (3, .int x3_7)] 2 dX4_density_99 rfl rfl (by decide) rfl ?_
      refine v_goto (tgt := 9) C dX4_density_102 (by decide) ?_
      refine v_perm [2, 1, 0] rfl ?_
      cases h
      exact hl _ rfl
    · refine v_iload_n C 3 dX4_density_93 rfl rfl ?_
      refine v_goto (tgt := 98) C dX4_density_94 (by decide) ?_
      refine v_istore_n C [(1, .int x3_7), (0, .ref (aM 0)), (2, .int x2), (3, .int x3_7)] dX4_density_98 rfl (by decide) rfl ?_
      refine v_iinc C [(2, .int (x2 + 1)), (1, .int x3_7), (0, .ref (aM 0)), (3, .int x3_7)] 2 dX4_density_99 rfl rfl (by decide) rfl ?_
      refine v_goto (tgt := 9) C dX4_density_102 (by decide) ?_
      refine v_perm [2, 1, 0] rfl ?_
      cases h
      exact hl _ rfl
set_option maxHeartbeats 4000000 in
set_option maxRecDepth 100000 in
theorem t_X4_density_L9 {p : Program} {l : Launch} {e : Env} {s : State} {m : MethodId} {args : Array Value} {below : List Frame} {meth : Method} {c : Code} {D : va_G} {A : Nat → Prop} {cI cJ : ClassId} {Q : State → Prop} (C : Cx p s m args c cX4_density 6 RX4 D A cI cJ) {aM : Nat → Nat} {thrown_M : Int32} {pins_M : (Nat → Int32)} {many_M : Int32} {nets_M : (Nat → Int32)} {lefts_M : (Nat → Int32)} {rights_M : (Nat → Int32)} {touches_M : (Nat → Int32)} {below_M : (Nat → Int64)} {reach_M : (Nat → Int64)} {tracksOf_M : (Nat → Int32)} {steps_M : (Nat → Int32)} {laid_M : Int32} {laidMany_M : Int32} {tracks_M : Int32} {laidNet_M : (Nat → Int32)} {laidLeft_M : (Nat → Int32)} {laidRight_M : (Nat → Int32)} {laidTouch_M : (Nat → Int32)} {laidTrack_M : (Nat → Int32)} {ringSize_M : Int32} {ringOf_M : (Nat → Int32)} {lays_M : Int32} {refusals_M : Int32} {n8 : Nat} {s9 : (Int32 × Int32)} {o8 : Int32} (h : lp (f_X4_density_B9 pins_M) n8 s9 = some o8) (hk : V p l e (rmO 2 46) s m args below meth c 6 D A 0 0 Q 105 [(1, .int o8)] [] (wM cI cJ aM thrown_M pins_M many_M nets_M lefts_M rights_M touches_M below_M reach_M tracksOf_M steps_M laid_M laidMany_M tracks_M laidNet_M laidLeft_M laidRight_M laidTouch_M laidTrack_M ringSize_M ringOf_M lays_M refusals_M)) : V p l e (rmO 2 46) s m args below meth c 6 D A 0 0 Q 9 [(0, .ref (aM 0)), (1, .int s9.1), (2, .int s9.2)] [] (wM cI cJ aM thrown_M pins_M many_M nets_M lefts_M rights_M touches_M below_M reach_M tracksOf_M steps_M laid_M laidMany_M tracks_M laidNet_M laidLeft_M laidRight_M laidTouch_M laidTrack_M ringSize_M ringOf_M lays_M refusals_M) := lp_ok (Pσ := fun s8 => V p l e (rmO 2 46) s m args below meth c 6 D A 0 0 Q 9 [(0, .ref (aM 0)), (1, .int s8.1), (2, .int s8.2)] [] (wM cI cJ aM thrown_M pins_M many_M nets_M lefts_M rights_M touches_M below_M reach_M tracksOf_M steps_M laid_M laidMany_M tracks_M laidNet_M laidLeft_M laidRight_M laidTouch_M laidTrack_M ringSize_M ringOf_M lays_M refusals_M)) (Pρ := fun r8 => V p l e (rmO 2 46) s m args below meth c 6 D A 0 0 Q 105 [(1, .int r8)] [] (wM cI cJ aM thrown_M pins_M many_M nets_M lefts_M rights_M touches_M below_M reach_M tracksOf_M steps_M laid_M laidMany_M tracks_M laidNet_M laidLeft_M laidRight_M laidTouch_M laidTrack_M ringSize_M ringOf_M lays_M refusals_M)) (fun s o h hl hx => t_X4_density_B9 C s o h hl hx) n8 s9 o8 h hk
set_option maxHeartbeats 4000000 in
set_option maxRecDepth 100000 in
theorem c_X4_density (l : Launch) (D : va_G) (cI cJ : ClassId) (aM : Nat → Nat) (thrown_M : Int32) (pins_M : (Nat → Int32)) (many_M : Int32) (nets_M : (Nat → Int32)) (lefts_M : (Nat → Int32)) (rights_M : (Nat → Int32)) (touches_M : (Nat → Int32)) (below_M : (Nat → Int64)) (reach_M : (Nat → Int64)) (tracksOf_M : (Nat → Int32)) (steps_M : (Nat → Int32)) (laid_M : Int32) (laidMany_M : Int32) (tracks_M : Int32) (laidNet_M : (Nat → Int32)) (laidLeft_M : (Nat → Int32)) (laidRight_M : (Nat → Int32)) (laidTouch_M : (Nat → Int32)) (laidTrack_M : (Nat → Int32)) (ringSize_M : Int32) (ringOf_M : (Nat → Int32)) (lays_M : Int32) (refusals_M : Int32) (r : Int32) (thrown_M' : Int32) (h : f_X4_density pins_M = some (r, thrown_M')) : Cti l D cI cJ yX4_density cX4_density 6 (some .int) 2 46 [.ref (aM 0)] (wM cI cJ aM thrown_M pins_M many_M nets_M lefts_M rights_M touches_M below_M reach_M tracksOf_M steps_M laid_M laidMany_M tracks_M laidNet_M laidLeft_M laidRight_M laidTouch_M laidTrack_M ringSize_M ringOf_M lays_M refusals_M) (wM cI cJ aM thrown_M' pins_M many_M nets_M lefts_M rights_M touches_M below_M reach_M tracksOf_M steps_M laid_M laidMany_M tracks_M laidNet_M laidLeft_M laidRight_M laidTouch_M laidTrack_M ringSize_M ringOf_M lays_M refusals_M) r := by
  refine mk_i [(0, .ref (aM 0))] (by decide) rfl (Nat.le_of_ble_eq_true rfl) rfl (fun p e s m args below meth c A Q C hk => ?_)
  unfold f_X4_density at h
  refine v_aload_n C 0 dX4_density_0 rfl rfl ?_
  refine v_iconst (v := 0) C dX4_density_1 (by decide) ?_
  refine v_put C (wM cI cJ aM 0 pins_M many_M nets_M lefts_M rights_M touches_M below_M reach_M tracksOf_M steps_M laid_M laidMany_M tracks_M laidNet_M laidLeft_M laidRight_M laidTouch_M laidTrack_M ringSize_M ringOf_M lays_M refusals_M) 0 0 iuX4 tyX4_ok nmX4 rfl rfl (by decide) m3_53 rfl rfl rfl rfl rfl (Nat.le_of_ble_eq_true rfl) dX4_density_2 rfl ?_
  refine v_iconst (v := 0) C dX4_density_5 (by decide) ?_
  refine v_istore_n C [(1, .int 0), (0, .ref (aM 0))] dX4_density_6 rfl (by decide) rfl ?_
  refine v_iconst (v := 0) C dX4_density_7 (by decide) ?_
  refine v_istore_n C [(2, .int 0), (1, .int 0), (0, .ref (aM 0))] dX4_density_8 rfl (by decide) rfl ?_
  obtain ⟨r, h1, h⟩ := bind_el h
  refine v_perm [2, 1, 0] rfl ?_
  obtain ⟨x1_8, rfl⟩ : ∃ z, z = r := ⟨_, rfl⟩
  refine t_X4_density_L9 C (s9 := (0, 0)) h1 ?_
  show V p l e (rmO 2 46) s m args below meth c 6 D A 0 0 Q 105 [(1, .int x1_8)] [] (wM cI cJ aM 0 pins_M many_M nets_M lefts_M rights_M touches_M below_M reach_M tracksOf_M steps_M laid_M laidMany_M tracks_M laidNet_M laidLeft_M laidRight_M laidTouch_M laidTrack_M ringSize_M ringOf_M lays_M refusals_M)
  try dsimp only at h
  refine v_iload_n C 0 dX4_density_105 rfl rfl ?_
  cases h
  exact hk _ _ dX4_density_106
def f_X4_pairs (pins_M : (Nat → Int32)) (nets_M : (Nat → Int32)) (lefts_M : (Nat → Int32)) (rights_M : (Nat → Int32)) (touches_M : (Nat → Int32)) (below_M : (Nat → Int64)) (x1 : Int32) : Option (Int32 × Int32 × Int32 × (Nat → Int32) × (Nat → Int32) × (Nat → Int32) × (Nat → Int32) × (Nat → Int64)) := (f_X4_study pins_M nets_M lefts_M rights_M touches_M below_M x1).bind (fun r => match r with | (r_1, many_M_2, nets_M_3, lefts_M_4, rights_M_5, touches_M_6, below_M_7) => some (r_1, 0, many_M_2, nets_M_3, lefts_M_4, rights_M_5, touches_M_6, below_M_7))
theorem cw_X4_pairs : CWv yX4_pairs cX4_pairs 2 (some .int) RX4 1 := ⟨m4_24, m4_25, m1_5, m4_26, rfl, by decide, by decide, by decide +kernel⟩
set_option maxHeartbeats 4000000 in
set_option maxRecDepth 100000 in
theorem c_X4_pairs (l : Launch) (D : va_G) (cI cJ : ClassId) (aM : Nat → Nat) (thrown_M : Int32) (pins_M : (Nat → Int32)) (many_M : Int32) (nets_M : (Nat → Int32)) (lefts_M : (Nat → Int32)) (rights_M : (Nat → Int32)) (touches_M : (Nat → Int32)) (below_M : (Nat → Int64)) (reach_M : (Nat → Int64)) (tracksOf_M : (Nat → Int32)) (steps_M : (Nat → Int32)) (laid_M : Int32) (laidMany_M : Int32) (tracks_M : Int32) (laidNet_M : (Nat → Int32)) (laidLeft_M : (Nat → Int32)) (laidRight_M : (Nat → Int32)) (laidTouch_M : (Nat → Int32)) (laidTrack_M : (Nat → Int32)) (ringSize_M : Int32) (ringOf_M : (Nat → Int32)) (lays_M : Int32) (refusals_M : Int32) (x1 : Int32) (r : Int32) (thrown_M' : Int32) (many_M' : Int32) (nets_M' : (Nat → Int32)) (lefts_M' : (Nat → Int32)) (rights_M' : (Nat → Int32)) (touches_M' : (Nat → Int32)) (below_M' : (Nat → Int64)) (h : f_X4_pairs pins_M nets_M lefts_M rights_M touches_M below_M x1 = some (r, thrown_M', many_M', nets_M', lefts_M', rights_M', touches_M', below_M')) : Cti l D cI cJ yX4_pairs cX4_pairs 2 (some .int) 4 99 [.ref (aM 0), .int x1] (wM cI cJ aM thrown_M pins_M many_M nets_M lefts_M rights_M touches_M below_M reach_M tracksOf_M steps_M laid_M laidMany_M tracks_M laidNet_M laidLeft_M laidRight_M laidTouch_M laidTrack_M ringSize_M ringOf_M lays_M refusals_M) (wM cI cJ aM thrown_M' pins_M many_M' nets_M' lefts_M' rights_M' touches_M' below_M' reach_M tracksOf_M steps_M laid_M laidMany_M tracks_M laidNet_M laidLeft_M laidRight_M laidTouch_M laidTrack_M ringSize_M ringOf_M lays_M refusals_M) r := by
  refine mk_i [(0, .ref (aM 0)), (1, .int x1)] (by decide) rfl (Nat.le_of_ble_eq_true rfl) rfl (fun p e s m args below meth c A Q C hk => ?_)
  unfold f_X4_pairs at h
  refine v_aload_n C 0 dX4_pairs_0 rfl rfl ?_
  refine v_iconst (v := 0) C dX4_pairs_1 (by decide) ?_
  refine v_put C (wM cI cJ aM 0 pins_M many_M nets_M lefts_M rights_M touches_M below_M reach_M tracksOf_M steps_M laid_M laidMany_M tracks_M laidNet_M laidLeft_M laidRight_M laidTouch_M laidTrack_M ringSize_M ringOf_M lays_M refusals_M) 0 0 iuX4 tyX4_ok nmX4 rfl rfl (by decide) m3_53 rfl rfl rfl rfl rfl (Nat.le_of_ble_eq_true rfl) dX4_pairs_2 rfl ?_
  refine v_aload_n C 0 dX4_pairs_5 rfl rfl ?_
  refine v_iload_n C 1 dX4_pairs_6 rfl rfl ?_
  obtain ⟨r, h1, h⟩ := bind_el h
  obtain ⟨r_1, many_M_2, nets_M_3, lefts_M_4, rights_M_5, touches_M_6, below_M_7⟩ := r
  try dsimp only at h
  refine v_callVi (As := [.int x1]) (st := []) (wr := []) (w1 := (wM cI cJ aM 0 pins_M many_M_2 nets_M_3 lefts_M_4 rights_M_5 touches_M_6 below_M_7 reach_M tracksOf_M steps_M laid_M laidMany_M tracks_M laidNet_M laidLeft_M laidRight_M laidTouch_M laidTrack_M ringSize_M ringOf_M lays_M refusals_M)) (ws' := (wM cI cJ aM 0 pins_M many_M_2 nets_M_3 lefts_M_4 rights_M_5 touches_M_6 below_M_7 reach_M tracksOf_M steps_M laid_M laidMany_M tracks_M laidNet_M laidLeft_M laidRight_M laidTouch_M laidTrack_M ringSize_M ringOf_M lays_M refusals_M)) (isC := [0, 1, 2, 3, 4, 5, 6, 7, 8, 9, 10, 11, 12, 13, 14, 15]) (isR := []) (pm := [0, 1, 2, 3, 4, 5, 6, 7, 8, 9, 10, 11, 12, 13, 14, 15]) C (c_X4_study l D cI cJ aM 0 pins_M many_M nets_M lefts_M rights_M touches_M below_M reach_M tracksOf_M steps_M laid_M laidMany_M tracks_M laidNet_M laidLeft_M laidRight_M laidTouch_M laidTrack_M ringSize_M ringOf_M lays_M refusals_M x1 r_1 many_M_2 nets_M_3 lefts_M_4 rights_M_5 touches_M_6 below_M_7 h1) cw_X4_study 0 rfl rfl m3_164 dX4_pairs_7 rfl ⟨Nat.le_of_ble_eq_true rfl, Nat.le_of_ble_eq_true rfl⟩ (Nat.le_of_ble_eq_true rfl) ⟨Nat.le_refl 0, Nat.le_refl 0⟩ ⟨rfl, rfl, rfl, rfl, by decide, rfl, rfl⟩ ?_
  cases h
  exact hk _ _ dX4_pairs_10
def f_X4_net (pins_M : (Nat → Int32)) (x1 : Int32) (x2 : Int32) : Option (Int32 × Int32) := (f_X4_in x1 1 9).bind (fun r => match r with | r_1 => if r_1 = 0 then ((f_X4_out 0).bind (fun r => match r with | (r_2, thrown_M_3) => if r_2 = 0 then ((f_X4_sort pins_M x1).bind (fun r => match r with | r_4 => if 2 ≤ x2 then (if x2 = 2 then ((f_X4_pinsOf pins_M x1).bind (fun r => match r with | r_5 => some (r_5, thrown_M_3))) else (some (r_4, thrown_M_3))) else (if 3 ≤ r_4 then (if x2 = 0 then ((f_X4_columns pins_M x1).bind (fun r => match r with | r_8 => (f_X4_lowest r_8).bind (fun r => match r with | r_9 => some (r_9, thrown_M_3)))) else ((f_X4_columns pins_M x1).bind (fun r => match r with | r_6 => (f_X4_highest r_6).bind (fun r => match r with | r_7 => some (r_7, thrown_M_3))))) else (some (((-1), thrown_M_3)))))) else (some (0, thrown_M_3)))) else ((f_X4_in x2 0 3).bind (fun r => match r with | r_10 => if r_10 = 0 then ((f_X4_out 0).bind (fun r => match r with | (r_11, thrown_M_12) => if r_11 = 0 then ((f_X4_sort pins_M x1).bind (fun r => match r with | r_13 => if 2 ≤ x2 then (if x2 = 2 then ((f_X4_pinsOf pins_M x1).bind (fun r => match r with | r_14 => some (r_14, thrown_M_12))) else (some (r_13, thrown_M_12))) else (if 3 ≤ r_13 then (if x2 = 0 then ((f_X4_columns pins_M x1).bind (fun r => match r with | r_17 => (f_X4_lowest r_17).bind (fun r => match r with | r_18 => some (r_18, thrown_M_12)))) else ((f_X4_columns pins_M x1).bind (fun r => match r with | r_15 => (f_X4_highest r_15).bind (fun r => match r with | r_16 => some (r_16, thrown_M_12))))) else (some (((-1), thrown_M_12)))))) else (some (0, thrown_M_12)))) else ((f_X4_out 1).bind (fun r => match r with | (r_19, thrown_M_20) => if r_19 = 0 then ((f_X4_sort pins_M x1).bind (fun r => match r with | r_21 => if 2 ≤ x2 then (if x2 = 2 then ((f_X4_pinsOf pins_M x1).bind (fun r => match r with | r_22 => some (r_22, thrown_M_20))) else (some (r_21, thrown_M_20))) else (if 3 ≤ r_21 then (if x2 = 0 then ((f_X4_columns pins_M x1).bind (fun r => match r with | r_25 => (f_X4_lowest r_25).bind (fun r => match r with | r_26 => some (r_26, thrown_M_20)))) else ((f_X4_columns pins_M x1).bind (fun r => match r with | r_23 => (f_X4_highest r_23).bind (fun r => match r with | r_24 => some (r_24, thrown_M_20))))) else (some (((-1), thrown_M_20)))))) else (some (0, thrown_M_20)))))))
theorem cw_X4_net : CWv yX4_net cX4_net 4 (some .int) RX4 2 := ⟨m4_28, m4_29, m1_5, m4_30, rfl, by decide, by decide, by decide +kernel⟩
set_option maxHeartbeats 4000000 in
set_option maxRecDepth 100000 in
theorem c_X4_net (l : Launch) (D : va_G) (cI cJ : ClassId) (aM : Nat → Nat) (thrown_M : Int32) (pins_M : (Nat → Int32)) (many_M : Int32) (nets_M : (Nat → Int32)) (lefts_M : (Nat → Int32)) (rights_M : (Nat → Int32)) (touches_M : (Nat → Int32)) (below_M : (Nat → Int64)) (reach_M : (Nat → Int64)) (tracksOf_M : (Nat → Int32)) (steps_M : (Nat → Int32)) (laid_M : Int32) (laidMany_M : Int32) (tracks_M : Int32) (laidNet_M : (Nat → Int32)) (laidLeft_M : (Nat → Int32)) (laidRight_M : (Nat → Int32)) (laidTouch_M : (Nat → Int32)) (laidTrack_M : (Nat → Int32)) (ringSize_M : Int32) (ringOf_M : (Nat → Int32)) (lays_M : Int32) (refusals_M : Int32) (x1 : Int32) (x2 : Int32) (r : Int32) (thrown_M' : Int32) (h : f_X4_net pins_M x1 x2 = some (r, thrown_M')) : Cti l D cI cJ yX4_net cX4_net 4 (some .int) 2 46 [.ref (aM 0), .int x1, .int x2] (wM cI cJ aM thrown_M pins_M many_M nets_M lefts_M rights_M touches_M below_M reach_M tracksOf_M steps_M laid_M laidMany_M tracks_M laidNet_M laidLeft_M laidRight_M laidTouch_M laidTrack_M ringSize_M ringOf_M lays_M refusals_M) (wM cI cJ aM thrown_M' pins_M many_M nets_M lefts_M rights_M touches_M below_M reach_M tracksOf_M steps_M laid_M laidMany_M tracks_M laidNet_M laidLeft_M laidRight_M laidTouch_M laidTrack_M ringSize_M ringOf_M lays_M refusals_M) r := by
  refine mk_i [(0, .ref (aM 0)), (1, .int x1), (2, .int x2)] (by decide) rfl (Nat.le_of_ble_eq_true rfl) rfl (fun p e s m args below meth c A Q C hk => ?_)
  unfold f_X4_net at h
  refine v_aload_n C 0 dX4_net_0 rfl rfl ?_
  refine v_iload_n C 1 dX4_net_1 rfl rfl ?_
  refine v_iconst (v := 1) C dX4_net_2 (by decide) ?_
  refine v_bipush (v := 9) C dX4_net_3 (by decide) ?_
  obtain ⟨r, h1, h⟩ := bind_el h
  obtain ⟨r_1, rfl⟩ : ∃ z, z = r := ⟨_, rfl⟩
  try dsimp only at h
  refine v_callSi (As := [.int x1, .int 1, .int 9]) (st := [.ref (aM 0)]) (wr := [(aM 0, .inr (4, [.int thrown_M, .ref (aM 1), .int many_M, .ref (aM 2), .ref (aM 3), .ref (aM 4), .ref (aM 5), .ref (aM 6), .ref (aM 7), .ref (aM 8), .ref (aM 9), .int laid_M, .int laidMany_M, .int tracks_M, .ref (aM 10), .ref (aM 11), .ref (aM 12), .ref (aM 13), .ref (aM 14), .int ringSize_M, .ref (aM 15), .int lays_M, .int refusals_M])), (aM 1, .inl (cI, 40, .inl pins_M)), (aM 2, .inl (cI, 40, .inl nets_M)), (aM 3, .inl (cI, 40, .inl lefts_M)), (aM 4, .inl (cI, 40, .inl rights_M)), (aM 5, .inl (cI, 40, .inl touches_M)), (aM 6, .inl (cJ, 40, .inr (.inl below_M))), (aM 7, .inl (cJ, 40, .inr (.inl reach_M))), (aM 8, .inl (cI, 40, .inl tracksOf_M)), (aM 9, .inl (cI, 40, .inl steps_M)), (aM 10, .inl (cI, 40, .inl laidNet_M)), (aM 11, .inl (cI, 40, .inl laidLeft_M)), (aM 12, .inl (cI, 40, .inl laidRight_M)), (aM 13, .inl (cI, 40, .inl laidTouch_M)), (aM 14, .inl (cI, 40, .inl laidTrack_M)), (aM 15, .inl (cI, 40, .inl ringOf_M))]) (w1 := []) (ws' := (wM cI cJ aM thrown_M pins_M many_M nets_M lefts_M rights_M touches_M below_M reach_M tracksOf_M steps_M laid_M laidMany_M tracks_M laidNet_M laidLeft_M laidRight_M laidTouch_M laidTrack_M ringSize_M ringOf_M lays_M refusals_M)) (isC := []) (isR := [0, 1, 2, 3, 4, 5, 6, 7, 8, 9, 10, 11, 12, 13, 14, 15]) (pm := [0, 1, 2, 3, 4, 5, 6, 7, 8, 9, 10, 11, 12, 13, 14, 15]) C (c_X4_in l D cI cJ x1 1 9 r_1 h1) cw_X4_in m3_131 dX4_net_5 rfl ⟨Nat.le_of_ble_eq_true rfl, Nat.le_of_ble_eq_true rfl⟩ (Nat.le_of_ble_eq_true rfl) ⟨Nat.le_refl 0, Nat.le_refl 0⟩ ⟨rfl, rfl, rfl, rfl, by decide, rfl, rfl⟩ ?_
  refine v_if_eq (tgt := 24) C dX4_net_8 (by decide) h (fun h => ?_) (fun h => ?_)
  · refine v_iconst (v := 0) C dX4_net_24 (by decide) ?_
    obtain ⟨r, h1, h⟩ := bind_el h
    obtain ⟨r_2, thrown_M_3⟩ := r
    try dsimp only at h
    refine v_callVi (As := [.int 0]) (st := []) (wr := []) (w1 := (wM cI cJ aM thrown_M_3 pins_M many_M nets_M lefts_M rights_M touches_M below_M reach_M tracksOf_M steps_M laid_M laidMany_M tracks_M laidNet_M laidLeft_M laidRight_M laidTouch_M laidTrack_M ringSize_M ringOf_M lays_M refusals_M)) (ws' := (wM cI cJ aM thrown_M_3 pins_M many_M nets_M lefts_M rights_M touches_M below_M reach_M tracksOf_M steps_M laid_M laidMany_M tracks_M laidNet_M laidLeft_M laidRight_M laidTouch_M laidTrack_M ringSize_M ringOf_M lays_M refusals_M)) (isC := [0, 1, 2, 3, 4, 5, 6, 7, 8, 9, 10, 11, 12, 13, 14, 15]) (isR := []) (pm := [0, 1, 2, 3, 4, 5, 6, 7, 8, 9, 10, 11, 12, 13, 14, 15]) C (c_X4_out l D cI cJ aM thrown_M pins_M many_M nets_M lefts_M rights_M touches_M below_M reach_M tracksOf_M steps_M laid_M laidMany_M tracks_M laidNet_M laidLeft_M laidRight_M laidTouch_M laidTrack_M ringSize_M ringOf_M lays_M refusals_M 0 r_2 thrown_M_3 h1) cw_X4_out 0 rfl rfl m3_231 dX4_net_25 rfl ⟨Nat.le_of_ble_eq_true rfl, Nat.le_of_ble_eq_true rfl⟩ (Nat.le_of_ble_eq_true rfl) ⟨Nat.le_refl 0, Nat.le_refl 0⟩ ⟨rfl, rfl, rfl, rfl, by decide, rfl, rfl⟩ ?_
    refine v_if_eq (tgt := 33) C dX4_net_28 (by decide) h (fun h => ?_) (fun h => ?_)
    · refine v_aload_n C 0 dX4_net_33 rfl rfl ?_
      refine v_iload_n C 1 dX4_net_34 rfl rfl ?_
      obtain ⟨r, h1, h⟩ := bind_el h
      obtain ⟨r_4, rfl⟩ : ∃ z, z = r := ⟨_, rfl⟩
      try dsimp only at h
      refine v_callVi (As := [.int x1]) (st := []) (wr := []) (w1 := (wM cI cJ aM thrown_M_3 pins_M many_M nets_M lefts_M rights_M touches_M below_M reach_M tracksOf_M steps_M laid_M laidMany_M tracks_M laidNet_M laidLeft_M laidRight_M laidTouch_M laidTrack_M ringSize_M ringOf_M lays_M refusals_M)) (ws' := (wM cI cJ aM thrown_M_3 pins_M many_M nets_M lefts_M rights_M touches_M below_M reach_M tracksOf_M steps_M laid_M laidMany_M tracks_M laidNet_M laidLeft_M laidRight_M laidTouch_M laidTrack_M ringSize_M ringOf_M lays_M refusals_M)) (isC := [0, 1, 2, 3, 4, 5, 6, 7, 8, 9, 10, 11, 12, 13, 14, 15]) (isR := []) (pm := [0, 1, 2, 3, 4, 5, 6, 7, 8, 9, 10, 11, 12, 13, 14, 15]) C (c_X4_sort l D cI cJ aM thrown_M_3 pins_M many_M nets_M lefts_M rights_M touches_M below_M reach_M tracksOf_M steps_M laid_M laidMany_M tracks_M laidNet_M laidLeft_M laidRight_M laidTouch_M laidTrack_M ringSize_M ringOf_M lays_M refusals_M x1 r_4 h1) cw_X4_sort 0 rfl rfl m3_142 dX4_net_35 rfl ⟨Nat.le_of_ble_eq_true rfl, Nat.le_of_ble_eq_true rfl⟩ (Nat.le_of_ble_eq_true rfl) ⟨Nat.le_refl 0, Nat.le_refl 0⟩ ⟨rfl, rfl, rfl, rfl, by decide, rfl, rfl⟩ ?_
      refine v_istore_n C [(3, .int r_4), (0, .ref (aM 0)), (1, .int x1), (2, .int x2)] dX4_net_38 rfl (by decide) rfl ?_
      refine v_iload_n C 3 dX4_net_39 rfl rfl ?_
      refine v_iconst (v := 2) C dX4_net_40 (by decide) ?_
      refine v_icmp_ge (tgt := 77) C dX4_net_41 (by decide) h (fun h => ?_) (fun h => ?_)
      · refine v_iload_n C 3 dX4_net_77 rfl rfl ?_
        refine v_iconst (v := 2) C dX4_net_78 (by decide) ?_
        refine v_icmp_ne (tgt := 90) C dX4_net_79 (by decide) h (fun h => ?_) (fun h => ?_)
        · refine v_aload_n C 1 dX4_net_82 rfl rfl ?_
          refine v_iload_n C 2 dX4_net_83 rfl rfl ?_
          obtain ⟨r, h1, h⟩ := bind_el h
          obtain ⟨r_5, rfl⟩ : ∃ z, z = r := ⟨_, rfl⟩
          try dsimp only at h
          refine v_callVi (As := [.int x1]) (st := []) (wr := []) (w1 := (wM cI cJ aM thrown_M_3 pins_M many_M nets_M lefts_M rights_M touches_M below_M reach_M tracksOf_M steps_M laid_M laidMany_M tracks_M laidNet_M laidLeft_M laidRight_M laidTouch_M laidTrack_M ringSize_M ringOf_M lays_M refusals_M)) (ws' := (wM cI cJ aM thrown_M_3 pins_M many_M nets_M lefts_M rights_M touches_M below_M reach_M tracksOf_M steps_M laid_M laidMany_M tracks_M laidNet_M laidLeft_M laidRight_M laidTouch_M laidTrack_M ringSize_M ringOf_M lays_M refusals_M)) (isC := [0, 1, 2, 3, 4, 5, 6, 7, 8, 9, 10, 11, 12, 13, 14, 15]) (isR := []) (pm := [0, 1, 2, 3, 4, 5, 6, 7, 8, 9, 10, 11, 12, 13, 14, 15]) C (c_X4_pinsOf l D cI cJ aM thrown_M_3 pins_M many_M nets_M lefts_M rights_M touches_M below_M reach_M tracksOf_M steps_M laid_M laidMany_M tracks_M laidNet_M laidLeft_M laidRight_M laidTouch_M laidTrack_M ringSize_M ringOf_M lays_M refusals_M x1 r_5 h1) cw_X4_pinsOf 0 rfl rfl m3_146 dX4_net_84 rfl ⟨Nat.le_of_ble_eq_true rfl, Nat.le_of_ble_eq_true rfl⟩ (Nat.le_of_ble_eq_true rfl) ⟨Nat.le_refl 0, Nat.le_refl 0⟩ ⟨rfl, rfl, rfl, rfl, by decide, rfl, rfl⟩ ?_
          refine v_goto (tgt := 91) C dX4_net_87 (by decide) ?_
          cases h
          exact hk _ _ dX4_net_91
        · refine v_iload_n C 0 dX4_net_90 rfl rfl ?_
          cases h
          exact hk _ _ dX4_net_91
      · refine v_iload_n C 0 dX4_net_44 rfl rfl ?_
        refine v_iconst (v := 3) C dX4_net_45 (by decide) ?_
        refine v_icmp_ge (tgt := 53) C dX4_net_46 (by decide) h (fun h => ?_) (fun h => ?_)
        · refine v_iload_n C 3 dX4_net_53 rfl rfl ?_
          refine v_if_ne (tgt := 68) C dX4_net_54 (by decide) h (fun h => ?_) (fun h => ?_)
          · refine v_aload_n C 1 dX4_net_57 rfl rfl ?_
            refine v_iload_n C 2 dX4_net_58 rfl rfl ?_
            obtain ⟨r, h1, h⟩ := bind_el h
            obtain ⟨r_8, rfl⟩ : ∃ z, z = r := ⟨_, rfl⟩
            try dsimp only at h
            refine v_callVi (As := [.int x1]) (st := []) (wr := []) (w1 := (wM cI cJ aM thrown_M_3 pins_M many_M nets_M lefts_M rights_M touches_M below_M reach_M tracksOf_M steps_M laid_M laidMany_M tracks_M laidNet_M laidLeft_M laidRight_M laidTouch_M laidTrack_M ringSize_M ringOf_M lays_M refusals_M)) (ws' := (wM cI cJ aM thrown_M_3 pins_M many_M nets_M lefts_M rights_M touches_M below_M reach_M tracksOf_M steps_M laid_M laidMany_M tracks_M laidNet_M laidLeft_M laidRight_M laidTouch_M laidTrack_M ringSize_M ringOf_M lays_M refusals_M)) (isC := [0, 1, 2, 3, 4, 5, 6, 7, 8, 9, 10, 11, 12, 13, 14, 15]) (isR := []) (pm := [0, 1, 2, 3, 4, 5, 6, 7, 8, 9, 10, 11, 12, 13, 14, 15]) C (c_X4_columns l D cI cJ aM thrown_M_3 pins_M many_M nets_M lefts_M rights_M touches_M below_M reach_M tracksOf_M steps_M laid_M laidMany_M tracks_M laidNet_M laidLeft_M laidRight_M laidTouch_M laidTrack_M ringSize_M ringOf_M lays_M refusals_M x1 r_8 h1) cw_X4_columns 0 rfl rfl m3_150 dX4_net_59 rfl ⟨Nat.le_of_ble_eq_true rfl, Nat.le_of_ble_eq_true rfl⟩ (Nat.le_of_ble_eq_true rfl) ⟨Nat.le_refl 0, Nat.le_refl 0⟩ ⟨rfl, rfl, rfl, rfl, by decide, rfl, rfl⟩ ?_
            obtain ⟨r, h1, h⟩ := bind_el h
            obtain ⟨r_9, rfl⟩ : ∃ z, z = r := ⟨_, rfl⟩
            try dsimp only at h
            refine v_callSi (As := [.int r_8]) (st := []) (wr := [(aM 0, .inr (4, [.int thrown_M_3, .ref (aM 1), .int many_M, .ref (aM 2), .ref (aM 3), .ref (aM 4), .ref (aM 5), .ref (aM 6), .ref (aM 7), .ref (aM 8), .ref (aM 9), .int laid_M, .int laidMany_M, .int tracks_M, .ref (aM 10), .ref (aM 11), .ref (aM 12), .ref (aM 13), .ref (aM 14), .int ringSize_M, .ref (aM 15), .int lays_M, .int refusals_M])), (aM 1, .inl (cI, 40, .inl pins_M)), (aM 2, .inl (cI, 40, .inl nets_M)), (aM 3, .inl (cI, 40, .inl lefts_M)), (aM 4, .inl (cI, 40, .inl rights_M)), (aM 5, .inl (cI, 40, .inl touches_M)), (aM 6, .inl (cJ, 40, .inr (.inl below_M))), (aM 7, .inl (cJ, 40, .inr (.inl reach_M))), (aM 8, .inl (cI, 40, .inl tracksOf_M)), (aM 9, .inl (cI, 40, .inl steps_M)), (aM 10, .inl (cI, 40, .inl laidNet_M)), (aM 11, .inl (cI, 40, .inl laidLeft_M)), (aM 12, .inl (cI, 40, .inl laidRight_M)), (aM 13, .inl (cI, 40, .inl laidTouch_M)), (aM 14, .inl (cI, 40, .inl laidTrack_M)), (aM 15, .inl (cI, 40, .inl ringOf_M))]) (w1 := []) (ws' := (wM cI cJ aM thrown_M_3 pins_M many_M nets_M lefts_M rights_M touches_M below_M reach_M tracksOf_M steps_M laid_M laidMany_M tracks_M laidNet_M laidLeft_M laidRight_M laidTouch_M laidTrack_M ringSize_M ringOf_M lays_M refusals_M)) (isC := []) (isR := [0, 1, 2, 3, 4, 5, 6, 7, 8, 9, 10, 11, 12, 13, 14, 15]) (pm := [0, 1, 2, 3, 4, 5, 6, 7, 8, 9, 10, 11, 12, 13, 14, 15]) C (c_X4_lowest l D cI cJ r_8 r_9 h1) cw_X4_lowest m3_154 dX4_net_62 rfl ⟨Nat.le_of_ble_eq_true rfl, Nat.le_of_ble_eq_true rfl⟩ (Nat.le_of_ble_eq_true rfl) ⟨Nat.le_refl 0, Nat.le_refl 0⟩ ⟨rfl, rfl, rfl, rfl, by decide, rfl, rfl⟩ ?_
            refine v_goto (tgt := 76) C dX4_net_65 (by decide) ?_
            cases h
            exact hk _ _ dX4_net_76
          · refine v_aload_n C 1 dX4_net_68 rfl rfl ?_
            refine v_iload_n C 2 dX4_net_69 rfl rfl ?_
            obtain ⟨r, h1, h⟩ := bind_el h
            obtain ⟨r_6, rfl⟩ : ∃ z, z = r := ⟨_, rfl⟩
            try dsimp only at h
            refine v_callVi (As := [.int x1]) (st := []) (wr := []) (w1 := (wM cI cJ aM thrown_M_3 pins_M many_M nets_M lefts_M rights_M touches_M below_M reach_M tracksOf_M steps_M laid_M laidMany_M tracks_M laidNet_M laidLeft_M laidRight_M laidTouch_M laidTrack_M ringSize_M ringOf_M lays_M refusals_M)) (ws' := (wM cI cJ aM thrown_M_3 pins_M many_M nets_M lefts_M rights_M touches_M below_M reach_M tracksOf_M steps_M laid_M laidMany_M tracks_M laidNet_M laidLeft_M laidRight_M laidTouch_M laidTrack_M ringSize_M ringOf_M lays_M refusals_M)) (isC := [0, 1, 2, 3, 4, 5, 6, 7, 8, 9, 10, 11, 12, 13, 14, 15]) (isR := []) (pm := [0, 1, 2, 3, 4, 5, 6, 7, 8, 9, 10, 11, 12, 13, 14, 15]) C (c_X4_columns l D cI cJ aM thrown_M_3 pins_M many_M nets_M lefts_M rights_M touches_M below_M reach_M tracksOf_M steps_M laid_M laidMany_M tracks_M laidNet_M laidLeft_M laidRight_M laidTouch_M laidTrack_M ringSize_M ringOf_M lays_M refusals_M x1 r_6 h1) cw_X4_columns 0 rfl rfl m3_150 dX4_net_70 rfl ⟨Nat.le_of_ble_eq_true rfl, Nat.le_of_ble_eq_true rfl⟩ (Nat.le_of_ble_eq_true rfl) ⟨Nat.le_refl 0, Nat.le_refl 0⟩ ⟨rfl, rfl, rfl, rfl, by decide, rfl, rfl⟩ ?_
            obtain ⟨r, h1, h⟩ := bind_el h
            obtain ⟨r_7, rfl⟩ : ∃ z, z = r := ⟨_, rfl⟩
            try dsimp only at h
            refine v_callSi (As := [.int r_6]) (st := []) (wr := [(aM 0, .inr (4, [.int thrown_M_3, .ref (aM 1), .int many_M, .ref (aM 2), .ref (aM 3), .ref (aM 4), .ref (aM 5), .ref (aM 6), .ref (aM 7), .ref (aM 8), .ref (aM 9), .int laid_M, .int laidMany_M, .int tracks_M, .ref (aM 10), .ref (aM 11), .ref (aM 12), .ref (aM 13), .ref (aM 14), .int ringSize_M, .ref (aM 15), .int lays_M, .int refusals_M])), (aM 1, .inl (cI, 40, .inl pins_M)), (aM 2, .inl (cI, 40, .inl nets_M)), (aM 3, .inl (cI, 40, .inl lefts_M)), (aM 4, .inl (cI, 40, .inl rights_M)), (aM 5, .inl (cI, 40, .inl touches_M)), (aM 6, .inl (cJ, 40, .inr (.inl below_M))), (aM 7, .inl (cJ, 40, .inr (.inl reach_M))), (aM 8, .inl (cI, 40, .inl tracksOf_M)), (aM 9, .inl (cI, 40, .inl steps_M)), (aM 10, .inl (cI, 40, .inl laidNet_M)), (aM 11, .inl (cI, 40, .inl laidLeft_M)), (aM 12, .inl (cI, 40, .inl laidRight_M)), (aM 13, .inl (cI, 40, .inl laidTouch_M)), (aM 14, .inl (cI, 40, .inl laidTrack_M)), (aM 15, .inl (cI, 40, .inl ringOf_M))]) (w1 := []) (ws' := (wM cI cJ aM thrown_M_3 pins_M many_M nets_M lefts_M rights_M touches_M below_M reach_M tracksOf_M steps_M laid_M laidMany_M tracks_M laidNet_M laidLeft_M laidRight_M laidTouch_M laidTrack_M ringSize_M ringOf_M lays_M refusals_M)) (isC := []) (isR := [0, 1, 2, 3, 4, 5, 6, 7, 8, 9, 10, 11, 12, 13, 14, 15]) (pm := [0, 1, 2, 3, 4, 5, 6, 7, 8, 9, 10, 11, 12, 13, 14, 15]) C (c_X4_highest l D cI cJ r_6 r_7 h1) cw_X4_highest m3_157 dX4_net_73 rfl ⟨Nat.le_of_ble_eq_true rfl, Nat.le_of_ble_eq_true rfl⟩ (Nat.le_of_ble_eq_true rfl) ⟨Nat.le_refl 0, Nat.le_refl 0⟩ ⟨rfl, rfl, rfl, rfl, by decide, rfl, rfl⟩ ?_
            cases h
            exact hk _ _ dX4_net_76
        · refine v_iconst (v := (-1)) C dX4_net_49 (by decide) ?_
          refine v_goto (tgt := 76) C dX4_net_50 (by decide) ?_
          cases h
          exact hk _ _ dX4_net_76
    · refine v_iconst (v := 0) C dX4_net_31 (by decide) ?_
      cases h
      exact hk _ _ dX4_net_32
  · refine v_iload_n C 2 dX4_net_11 rfl rfl ?_
    refine v_iconst (v := 0) C dX4_net_12 (by decide) ?_
    refine v_iconst (v := 3) C dX4_net_13 (by decide) ?_
    obtain ⟨r, h1, h⟩ := bind_el h
    obtain ⟨r_10, rfl⟩ : ∃ z, z = r := ⟨_, rfl⟩
    try dsimp only at h
    refine v_callSi (As := [.int x2, .int 0, .int 3]) (st := [.ref (aM 0)]) (wr := [(aM 0, .inr (4, [.int thrown_M, .ref (aM 1), .int many_M, .ref (aM 2), .ref (aM 3), .ref (aM 4), .ref (aM 5), .ref (aM 6), .ref (aM 7), .ref (aM 8), .ref (aM 9), .int laid_M, .int laidMany_M, .int tracks_M, .ref (aM 10), .ref (aM 11), .ref (aM 12), .ref (aM 13), .ref (aM 14), .int ringSize_M, .ref (aM 15), .int lays_M, .int refusals_M])), (aM 1, .inl (cI, 40, .inl pins_M)), (aM 2, .inl (cI, 40, .inl nets_M)), (aM 3, .inl (cI, 40, .inl lefts_M)), (aM 4, .inl (cI, 40, .inl rights_M)), (aM 5, .inl (cI, 40, .inl touches_M)), (aM 6, .inl (cJ, 40, .inr (.inl below_M))), (aM 7, .inl (cJ, 40, .inr (.inl reach_M))), (aM 8, .inl (cI, 40, .inl tracksOf_M)), (aM 9, .inl (cI, 40, .inl steps_M)), (aM 10, .inl (cI, 40, .inl laidNet_M)), (aM 11, .inl (cI, 40, .inl laidLeft_M)), (aM 12, .inl (cI, 40, .inl laidRight_M)), (aM 13, .inl (cI, 40, .inl laidTouch_M)), (aM 14, .inl (cI, 40, .inl laidTrack_M)), (aM 15, .inl (cI, 40, .inl ringOf_M))]) (w1 := []) (ws' := (wM cI cJ aM thrown_M pins_M many_M nets_M lefts_M rights_M touches_M below_M reach_M tracksOf_M steps_M laid_M laidMany_M tracks_M laidNet_M laidLeft_M laidRight_M laidTouch_M laidTrack_M ringSize_M ringOf_M lays_M refusals_M)) (isC := []) (isR := [0, 1, 2, 3, 4, 5, 6, 7, 8, 9, 10, 11, 12, 13, 14, 15]) (pm := [0, 1, 2, 3, 4, 5, 6, 7, 8, 9, 10, 11, 12, 13, 14, 15]) C (c_X4_in l D cI cJ x2 0 3 r_10 h1) cw_X4_in m3_131 dX4_net_14 rfl ⟨Nat.le_of_ble_eq_true rfl, Nat.le_of_ble_eq_true rfl⟩ (Nat.le_of_ble_eq_true rfl) ⟨Nat.le_refl 0, Nat.le_refl 0⟩ ⟨rfl, rfl, rfl, rfl, by decide, rfl, rfl⟩ ?_
    refine v_if_eq (tgt := 24) C dX4_net_17 (by decide) h (fun h => ?_) (fun h => ?_)
    · refine v_iconst (v := 0) C dX4_net_24 (by decide) ?_
      obtain ⟨r, h1, h⟩ := bind_el h
      obtain ⟨r_11, thrown_M_12⟩ := r
      try dsimp only at h
      refine v_callVi (As := [.int 0]) (st := []) (wr := []) (w1 := (wM cI cJ aM thrown_M_12 pins_M many_M nets_M lefts_M rights_M touches_M below_M reach_M tracksOf_M steps_M laid_M laidMany_M tracks_M laidNet_M laidLeft_M laidRight_M laidTouch_M laidTrack_M ringSize_M ringOf_M lays_M refusals_M)) (ws' := (wM cI cJ aM thrown_M_12 pins_M many_M nets_M lefts_M rights_M touches_M below_M reach_M tracksOf_M steps_M laid_M laidMany_M tracks_M laidNet_M laidLeft_M laidRight_M laidTouch_M laidTrack_M ringSize_M ringOf_M lays_M refusals_M)) (isC := [0, 1, 2, 3, 4, 5, 6, 7, 8, 9, 10, 11, 12, 13, 14, 15]) (isR := []) (pm := [0, 1, 2, 3, 4, 5, 6, 7, 8, 9, 10, 11, 12, 13, 14, 15]) C (c_X4_out l D cI cJ aM thrown_M pins_M many_M nets_M lefts_M rights_M touches_M below_M reach_M tracksOf_M steps_M laid_M laidMany_M tracks_M laidNet_M laidLeft_M laidRight_M laidTouch_M laidTrack_M ringSize_M ringOf_M lays_M refusals_M 0 r_11 thrown_M_12 h1) cw_X4_out 0 rfl rfl m3_231 dX4_net_25 rfl ⟨Nat.le_of_ble_eq_true rfl, Nat.le_of_ble_eq_true rfl⟩ (Nat.le_of_ble_eq_true rfl) ⟨Nat.le_refl 0, Nat.le_refl 0⟩ ⟨rfl, rfl, rfl, rfl, by decide, rfl, rfl⟩ ?_
      refine v_if_eq (tgt := 33) C dX4_net_28 (by decide) h (fun h => ?_) (fun h => ?_)
      · refine v_aload_n C 0 dX4_net_33 rfl rfl ?_
        refine v_iload_n C 1 dX4_net_34 rfl rfl ?_
        obtain ⟨r, h1, h⟩ := bind_el h
        obtain ⟨r_13, rfl⟩ : ∃ z, z = r := ⟨_, rfl⟩
        try dsimp only at h
        refine v_callVi (As := [.int x1]) (st := []) (wr := []) (w1 := (wM cI cJ aM thrown_M_12 pins_M many_M nets_M lefts_M rights_M touches_M below_M reach_M tracksOf_M steps_M laid_M laidMany_M tracks_M laidNet_M laidLeft_M laidRight_M laidTouch_M laidTrack_M ringSize_M ringOf_M lays_M refusals_M)) (ws' := (wM cI cJ aM thrown_M_12 pins_M many_M nets_M lefts_M rights_M touches_M below_M reach_M tracksOf_M steps_M laid_M laidMany_M tracks_M laidNet_M laidLeft_M laidRight_M laidTouch_M laidTrack_M ringSize_M ringOf_M lays_M refusals_M)) (isC := [0, 1, 2, 3, 4, 5, 6, 7, 8, 9, 10, 11, 12, 13, 14, 15]) (isR := []) (pm := [0, 1, 2, 3, 4, 5, 6, 7, 8, 9, 10, 11, 12, 13, 14, 15]) C (c_X4_sort l D cI cJ aM thrown_M_12 pins_M many_M nets_M lefts_M rights_M touches_M below_M reach_M tracksOf_M steps_M laid_M laidMany_M tracks_M laidNet_M laidLeft_M laidRight_M laidTouch_M laidTrack_M ringSize_M ringOf_M lays_M refusals_M x1 r_13 h1) cw_X4_sort 0 rfl rfl m3_142 dX4_net_35 rfl ⟨Nat.le_of_ble_eq_true rfl, Nat.le_of_ble_eq_true rfl⟩ (Nat.le_of_ble_eq_true rfl) ⟨Nat.le_refl 0, Nat.le_refl 0⟩ ⟨rfl, rfl, rfl, rfl, by decide, rfl, rfl⟩ ?_
        refine v_istore_n C [(3, .int r_13), (0, .ref (aM 0)), (1, .int x1), (2, .int x2)] dX4_net_38 rfl (by decide) rfl ?_
        refine v_iload_n C 3 dX4_net_39 rfl rfl ?_
        refine v_iconst (v := 2) C dX4_net_40 (by decide) ?_
        refine v_icmp_ge (tgt := 77) C dX4_net_41 (by decide) h (fun h => ?_) (fun h => ?_)
        · refine v_iload_n C 3 dX4_net_77 rfl rfl ?_
          refine v_iconst (v := 2) C dX4_net_78 (by decide) ?_
          refine v_icmp_ne (tgt := 90) C dX4_net_79 (by decide) h (fun h => ?_) (fun h => ?_)
          · refine v_aload_n C 1 dX4_net_82 rfl rfl ?_
            refine v_iload_n C 2 dX4_net_83 rfl rfl ?_
            obtain ⟨r, h1, h⟩ := bind_el h
            obtain ⟨r_14, rfl⟩ : ∃ z, z = r := ⟨_, rfl⟩
            try dsimp only at h
            refine v_callVi (As := [.int x1]) (st := []) (wr := []) (w1 := (wM cI cJ aM thrown_M_12 pins_M many_M nets_M lefts_M rights_M touches_M below_M reach_M tracksOf_M steps_M laid_M laidMany_M tracks_M laidNet_M laidLeft_M laidRight_M laidTouch_M laidTrack_M ringSize_M ringOf_M lays_M refusals_M)) (ws' := (wM cI cJ aM thrown_M_12 pins_M many_M nets_M lefts_M rights_M touches_M below_M reach_M tracksOf_M steps_M laid_M laidMany_M tracks_M laidNet_M laidLeft_M laidRight_M laidTouch_M laidTrack_M ringSize_M ringOf_M lays_M refusals_M)) (isC := [0, 1, 2, 3, 4, 5, 6, 7, 8, 9, 10, 11, 12, 13, 14, 15]) (isR := []) (pm := [0, 1, 2, 3, 4, 5, 6, 7, 8, 9, 10, 11, 12, 13, 14, 15]) C (c_X4_pinsOf l D cI cJ aM thrown_M_12 pins_M many_M nets_M lefts_M rights_M touches_M below_M reach_M tracksOf_M steps_M laid_M laidMany_M tracks_M laidNet_M laidLeft_M laidRight_M laidTouch_M laidTrack_M ringSize_M ringOf_M lays_M refusals_M x1 r_14 h1) cw_X4_pinsOf 0 rfl rfl m3_146 dX4_net_84 rfl ⟨Nat.le_of_ble_eq_true rfl, Nat.le_of_ble_eq_true rfl⟩ (Nat.le_of_ble_eq_true rfl) ⟨Nat.le_refl 0, Nat.le_refl 0⟩ ⟨rfl, rfl, rfl, rfl, by decide, rfl, rfl⟩ ?_
            refine v_goto (tgt := 91) C dX4_net_87 (by decide) ?_
            cases h
            exact hk _ _ dX4_net_91
          · refine v_iload_n C 0 dX4_net_90 rfl rfl ?_
            cases h
            exact hk _ _ dX4_net_91
        · refine v_iload_n C 0 dX4_net_44 rfl rfl ?_
          refine v_iconst (v := 3) C dX4_net_45 (by decide) ?_
          refine v_icmp_ge (tgt := 53) C dX4_net_46 (by decide) h (fun h => ?_) (fun h => ?_)
          · refine v_iload_n C 3 dX4_net_53 rfl rfl ?_
            refine v_if_ne (tgt := 68) C dX4_net_54 (by decide) h (fun h => ?_) (fun h => ?_)
            · refine v_aload_n C 1 dX4_net_57 rfl rfl ?_
              refine v_iload_n C 2 dX4_net_58 rfl rfl ?_
              obtain ⟨r, h1, h⟩ := bind_el h
              obtain ⟨r_17, rfl⟩ : ∃ z, z = r := ⟨_, rfl⟩
              try dsimp only at h
              refine v_callVi (As := [.int x1]) (st := []) (wr := []) (w1 := (wM cI cJ aM thrown_M_12 pins_M many_M nets_M lefts_M rights_M touches_M below_M reach_M tracksOf_M steps_M laid_M laidMany_M tracks_M laidNet_M laidLeft_M laidRight_M laidTouch_M laidTrack_M ringSize_M ringOf_M lays_M refusals_M)) (ws' := (wM cI cJ aM thrown_M_12 pins_M many_M nets_M lefts_M rights_M touches_M below_M reach_M tracksOf_M steps_M laid_M laidMany_M tracks_M laidNet_M laidLeft_M laidRight_M laidTouch_M laidTrack_M ringSize_M ringOf_M lays_M refusals_M)) (isC := [0, 1, 2, 3, 4, 5, 6, 7, 8, 9, 10, 11, 12, 13, 14, 15]) (isR := []) (pm := [0, 1, 2, 3, 4, 5, 6, 7, 8, 9, 10, 11, 12, 13, 14, 15]) C (c_X4_columns l D cI cJ aM thrown_M_12 pins_M many_M nets_M lefts_M rights_M touches_M below_M reach_M tracksOf_M steps_M laid_M laidMany_M tracks_M laidNet_M laidLeft_M laidRight_M laidTouch_M laidTrack_M ringSize_M ringOf_M lays_M refusals_M x1 r_17 h1) cw_X4_columns 0 rfl rfl m3_150 dX4_net_59 rfl ⟨Nat.le_of_ble_eq_true rfl, Nat.le_of_ble_eq_true rfl⟩ (Nat.le_of_ble_eq_true rfl) ⟨Nat.le_refl 0, Nat.le_refl 0⟩ ⟨rfl, rfl, rfl, rfl, by decide, rfl, rfl⟩ ?_
              obtain ⟨r, h1, h⟩ := bind_el h
              obtain ⟨r_18, rfl⟩ : ∃ z, z = r := ⟨_, rfl⟩
              try dsimp only at h
              refine v_callSi (As := [.int r_17]) (st := []) (wr := [(aM 0, .inr (4, [.int thrown_M_12, .ref (aM 1), .int many_M, .ref (aM 2), .ref (aM 3), .ref (aM 4), .ref (aM 5), .ref (aM 6), .ref (aM 7), .ref (aM 8), .ref (aM 9), .int laid_M, .int laidMany_M, .int tracks_M, .ref (aM 10), .ref (aM 11), .ref (aM 12), .ref (aM 13), .ref (aM 14), .int ringSize_M, .ref (aM 15), .int lays_M, .int refusals_M])), (aM 1, .inl (cI, 40, .inl pins_M)), (aM 2, .inl (cI, 40, .inl nets_M)), (aM 3, .inl (cI, 40, .inl lefts_M)), (aM 4, .inl (cI, 40, .inl rights_M)), (aM 5, .inl (cI, 40, .inl touches_M)), (aM 6, .inl (cJ, 40, .inr (.inl below_M))), (aM 7, .inl (cJ, 40, .inr (.inl reach_M))), (aM 8, .inl (cI, 40, .inl tracksOf_M)), (aM 9, .inl (cI, 40, .inl steps_M)), (aM 10, .inl (cI, 40, .inl laidNet_M)), (aM 11, .inl (cI, 40, .inl laidLeft_M)), (aM 12, .inl (cI, 40, .inl laidRight_M)), (aM 13, .inl (cI, 40, .inl laidTouch_M)), (aM 14, .inl (cI, 40, .inl laidTrack_M)), (aM 15, .inl (cI, 40, .inl ringOf_M))]) (w1 := []) (ws' := (wM cI cJ aM thrown_M_12 pins_M many_M nets_M lefts_M rights_M touches_M below_M reach_M tracksOf_M steps_M laid_M laidMany_M tracks_M laidNet_M laidLeft_M laidRight_M laidTouch_M laidTrack_M ringSize_M ringOf_M lays_M refusals_M)) (isC := []) (isR := [0, 1, 2, 3, 4, 5, 6, 7, 8, 9, 10, 11, 12, 13, 14, 15]) (pm := [0, 1, 2, 3, 4, 5, 6, 7, 8, 9, 10, 11, 12, 13, 14, 15]) C (c_X4_lowest l D cI cJ r_17 r_18 h1) cw_X4_lowest m3_154 dX4_net_62 rfl ⟨Nat.le_of_ble_eq_true rfl, Nat.le_of_ble_eq_true rfl⟩ (Nat.le_of_ble_eq_true rfl) ⟨Nat.le_refl 0, Nat.le_refl 0⟩ ⟨rfl, rfl, rfl, rfl, by decide, rfl, rfl⟩ ?_
              refine v_goto (tgt := 76) C dX4_net_65 (by decide) ?_
              cases h
              exact hk _ _ dX4_net_76
            · refine v_aload_n C 1 dX4_net_68 rfl rfl ?_
              refine v_iload_n C 2 dX4_net_69 rfl rfl ?_
              obtain ⟨r, h1, h⟩ := bind_el h
              obtain ⟨r_15, rfl⟩ : ∃ z, z = r := ⟨_, rfl⟩
              try dsimp only at h
              refine v_callVi (As := [.int x1]) (st := []) (wr := []) (w1 := (wM cI cJ aM thrown_M_12 pins_M many_M nets_M lefts_M rights_M touches_M below_M reach_M tracksOf_M steps_M laid_M laidMany_M tracks_M laidNet_M laidLeft_M laidRight_M laidTouch_M laidTrack_M ringSize_M ringOf_M lays_M refusals_M)) (ws' := (wM cI cJ aM thrown_M_12 pins_M many_M nets_M lefts_M rights_M touches_M below_M reach_M tracksOf_M steps_M laid_M laidMany_M tracks_M laidNet_M laidLeft_M laidRight_M laidTouch_M laidTrack_M ringSize_M ringOf_M lays_M refusals_M)) (isC := [0, 1, 2, 3, 4, 5, 6, 7, 8, 9, 10, 11, 12, 13, 14, 15]) (isR := []) (pm := [0, 1, 2, 3, 4, 5, 6, 7, 8, 9, 10, 11, 12, 13, 14, 15]) C (c_X4_columns l D cI cJ aM thrown_M_12 pins_M many_M nets_M lefts_M rights_M touches_M below_M reach_M tracksOf_M steps_M laid_M laidMany_M tracks_M laidNet_M laidLeft_M laidRight_M laidTouch_M laidTrack_M ringSize_M ringOf_M lays_M refusals_M x1 r_15 h1) cw_X4_columns 0 rfl rfl m3_150 dX4_net_70 rfl ⟨Nat.le_of_ble_eq_true rfl, Nat.le_of_ble_eq_true rfl⟩ (Nat.le_of_ble_eq_true rfl) ⟨Nat.le_refl 0, Nat.le_refl 0⟩ ⟨rfl, rfl, rfl, rfl, by decide, rfl, rfl⟩ ?_
              obtain ⟨r, h1, h⟩ := bind_el h
              obtain ⟨r_16, rfl⟩ : ∃ z, z = r := ⟨_, rfl⟩
              try dsimp only at h
              refine v_callSi (As := [.int r_15]) (st := []) (wr := [(aM 0, .inr (4, [.int thrown_M_12, .ref (aM 1), .int many_M, .ref (aM 2), .ref (aM 3), .ref (aM 4), .ref (aM 5), .ref (aM 6), .ref (aM 7), .ref (aM 8), .ref (aM 9), .int laid_M, .int laidMany_M, .int tracks_M, .ref (aM 10), .ref (aM 11), .ref (aM 12), .ref (aM 13), .ref (aM 14), .int ringSize_M, .ref (aM 15), .int lays_M, .int refusals_M])), (aM 1, .inl (cI, 40, .inl pins_M)), (aM 2, .inl (cI, 40, .inl nets_M)), (aM 3, .inl (cI, 40, .inl lefts_M)), (aM 4, .inl (cI, 40, .inl rights_M)), (aM 5, .inl (cI, 40, .inl touches_M)), (aM 6, .inl (cJ, 40, .inr (.inl below_M))), (aM 7, .inl (cJ, 40, .inr (.inl reach_M))), (aM 8, .inl (cI, 40, .inl tracksOf_M)), (aM 9, .inl (cI, 40, .inl steps_M)), (aM 10, .inl (cI, 40, .inl laidNet_M)), (aM 11, .inl (cI, 40, .inl laidLeft_M)), (aM 12, .inl (cI, 40, .inl laidRight_M)), (aM 13, .inl (cI, 40, .inl laidTouch_M)), (aM 14, .inl (cI, 40, .inl laidTrack_M)), (aM 15, .inl (cI, 40, .inl ringOf_M))]) (w1 := []) (ws' := (wM cI cJ aM thrown_M_12 pins_M many_M nets_M lefts_M rights_M touches_M below_M reach_M tracksOf_M steps_M laid_M laidMany_M tracks_M laidNet_M laidLeft_M laidRight_M laidTouch_M laidTrack_M ringSize_M ringOf_M lays_M refusals_M)) (isC := []) (isR := [0, 1, 2, 3, 4, 5, 6, 7, 8, 9, 10, 11, 12, 13, 14, 15]) (pm := [0, 1, 2, 3, 4, 5, 6, 7, 8, 9, 10, 11, 12, 13, 14, 15]) C (c_X4_highest l D cI cJ r_15 r_16 h1) cw_X4_highest m3_157 dX4_net_73 rfl ⟨Nat.le_of_ble_eq_true rfl, Nat.le_of_ble_eq_true rfl⟩ (Nat.le_of_ble_eq_true rfl) ⟨Nat.le_refl 0, Nat.le_refl 0⟩ ⟨rfl, rfl, rfl, rfl, by decide, rfl, rfl⟩ ?_
              cases h
              exact hk _ _ dX4_net_76
          · refine v_iconst (v := (-1)) C dX4_net_49 (by decide) ?_
            refine v_goto (tgt := 76) C dX4_net_50 (by decide) ?_
            cases h
            exact hk _ _ dX4_net_76
      · refine v_iconst (v := 0) C dX4_net_31 (by decide) ?_
        cases h
        exact hk _ _ dX4_net_32
    · refine v_iconst (v := 1) C dX4_net_20 (by decide) ?_
      refine v_goto (tgt := 25) C dX4_net_21 (by decide) ?_
      obtain ⟨r, h1, h⟩ := bind_el h
      obtain ⟨r_19, thrown_M_20⟩ := r
      try dsimp only at h
      refine v_callVi (As := [.int 1]) (st := []) (wr := []) (w1 := (wM cI cJ aM thrown_M_20 pins_M many_M nets_M lefts_M rights_M touches_M below_M reach_M tracksOf_M steps_M laid_M laidMany_M tracks_M laidNet_M laidLeft_M laidRight_M laidTouch_M laidTrack_M ringSize_M ringOf_M lays_M refusals_M)) (ws' := (wM cI cJ aM thrown_M_20 pins_M many_M nets_M lefts_M rights_M touches_M below_M reach_M tracksOf_M steps_M laid_M laidMany_M tracks_M laidNet_M laidLeft_M laidRight_M laidTouch_M laidTrack_M ringSize_M ringOf_M lays_M refusals_M)) (isC := [0, 1, 2, 3, 4, 5, 6, 7, 8, 9, 10, 11, 12, 13, 14, 15]) (isR := []) (pm := [0, 1, 2, 3, 4, 5, 6, 7, 8, 9, 10, 11, 12, 13, 14, 15]) C (c_X4_out l D cI cJ aM thrown_M pins_M many_M nets_M lefts_M rights_M touches_M below_M reach_M tracksOf_M steps_M laid_M laidMany_M tracks_M laidNet_M laidLeft_M laidRight_M laidTouch_M laidTrack_M ringSize_M ringOf_M lays_M refusals_M 1 r_19 thrown_M_20 h1) cw_X4_out 0 rfl rfl m3_231 dX4_net_25 rfl ⟨Nat.le_of_ble_eq_true rfl, Nat.le_of_ble_eq_true rfl⟩ (Nat.le_of_ble_eq_true rfl) ⟨Nat.le_refl 0, Nat.le_refl 0⟩ ⟨rfl, rfl, rfl, rfl, by decide, rfl, rfl⟩ ?_
      refine v_if_eq (tgt := 33) C dX4_net_28 (by decide) h (fun h => ?_) (fun h => ?_)
      · refine v_aload_n C 0 dX4_net_33 rfl rfl ?_
        refine v_iload_n C 1 dX4_net_34 rfl rfl ?_
        obtain ⟨r, h1, h⟩ := bind_el h
        obtain ⟨r_21, rfl⟩ : ∃ z, z = r := ⟨_, rfl⟩
        try dsimp only at h
        refine v_callVi (As := [.int x1]) (st := []) (wr := []) (w1 := (wM cI cJ aM thrown_M_20 pins_M many_M nets_M lefts_M rights_M touches_M below_M reach_M tracksOf_M steps_M laid_M laidMany_M tracks_M laidNet_M laidLeft_M laidRight_M laidTouch_M laidTrack_M ringSize_M ringOf_M lays_M refusals_M)) (ws' := (wM cI cJ aM thrown_M_20 pins_M many_M nets_M lefts_M rights_M touches_M below_M reach_M tracksOf_M steps_M laid_M laidMany_M tracks_M laidNet_M laidLeft_M laidRight_M laidTouch_M laidTrack_M ringSize_M ringOf_M lays_M refusals_M)) (isC := [0, 1, 2, 3, 4, 5, 6, 7, 8, 9, 10, 11, 12, 13, 14, 15]) (isR := []) (pm := [0, 1, 2, 3, 4, 5, 6, 7, 8, 9, 10, 11, 12, 13, 14, 15]) C (c_X4_sort l D cI cJ aM thrown_M_20 pins_M many_M nets_M lefts_M rights_M touches_M below_M reach_M tracksOf_M steps_M laid_M laidMany_M tracks_M laidNet_M laidLeft_M laidRight_M laidTouch_M laidTrack_M ringSize_M ringOf_M lays_M refusals_M x1 r_21 h1) cw_X4_sort 0 rfl rfl m3_142 dX4_net_35 rfl ⟨Nat.le_of_ble_eq_true rfl, Nat.le_of_ble_eq_true rfl⟩ (Nat.le_of_ble_eq_true rfl) ⟨Nat.le_refl 0, Nat.le_refl 0⟩ ⟨rfl, rfl, rfl, rfl, by decide, rfl, rfl⟩ ?_
        refine v_istore_n C [(3, .int r_21), (0, .ref (aM 0)), (1, .int x1), (2, .int x2)] dX4_net_38 rfl (by decide) rfl ?_
        refine v_iload_n C 3 dX4_net_39 rfl rfl ?_
        refine v_iconst (v := 2) C dX4_net_40 (by decide) ?_
        refine v_icmp_ge (tgt := 77) C dX4_net_41 (by decide) h (fun h => ?_) (fun h => ?_)
        · refine v_iload_n C 3 dX4_net_77 rfl rfl ?_
          refine v_iconst (v := 2) C dX4_net_78 (by decide) ?_
          refine v_icmp_ne (tgt := 90) C dX4_net_79 (by decide) h (fun h => ?_) (fun h => ?_)
          · refine v_aload_n C 1 dX4_net_82 rfl rfl ?_
            refine v_iload_n C 2 dX4_net_83 rfl rfl ?_
            obtain ⟨r, h1, h⟩ := bind_el h
            obtain ⟨r_22, rfl⟩ : ∃ z, z = r := ⟨_, rfl⟩
            try dsimp only at h
            refine v_callVi (As := [.int x1]) (st := []) (wr := []) (w1 := (wM cI cJ aM thrown_M_20 pins_M many_M nets_M lefts_M rights_M touches_M below_M reach_M tracksOf_M steps_M laid_M laidMany_M tracks_M laidNet_M laidLeft_M laidRight_M laidTouch_M laidTrack_M ringSize_M ringOf_M lays_M refusals_M)) (ws' := (wM cI cJ aM thrown_M_20 pins_M many_M nets_M lefts_M rights_M touches_M below_M reach_M tracksOf_M steps_M laid_M laidMany_M tracks_M laidNet_M laidLeft_M laidRight_M laidTouch_M laidTrack_M ringSize_M ringOf_M lays_M refusals_M)) (isC := [0, 1, 2, 3, 4, 5, 6, 7, 8, 9, 10, 11, 12, 13, 14, 15]) (isR := []) (pm := [0, 1, 2, 3, 4, 5, 6, 7, 8, 9, 10, 11, 12, 13, 14, 15]) C (c_X4_pinsOf l D cI cJ aM thrown_M_20 pins_M many_M nets_M lefts_M rights_M touches_M below_M reach_M tracksOf_M steps_M laid_M laidMany_M tracks_M laidNet_M laidLeft_M laidRight_M laidTouch_M laidTrack_M ringSize_M ringOf_M lays_M refusals_M x1 r_22 h1) cw_X4_pinsOf 0 rfl rfl m3_146 dX4_net_84 rfl ⟨Nat.le_of_ble_eq_true rfl, Nat.le_of_ble_eq_true rfl⟩ (Nat.le_of_ble_eq_true rfl) ⟨Nat.le_refl 0, Nat.le_refl 0⟩ ⟨rfl, rfl, rfl, rfl, by decide, rfl, rfl⟩ ?_
            refine v_goto (tgt := 91) C dX4_net_87 (by decide) ?_
            cases h
            exact hk _ _ dX4_net_91
          · refine v_iload_n C 0 dX4_net_90 rfl rfl ?_
            cases h
            exact hk _ _ dX4_net_91
        · refine v_iload_n C 0 dX4_net_44 rfl rfl ?_
          refine v_iconst (v := 3) C dX4_net_45 (by decide) ?_
          refine v_icmp_ge (tgt := 53) C dX4_net_46 (by decide) h (fun h => ?_) (fun h => ?_)
          · refine v_iload_n C 3 dX4_net_53 rfl rfl ?_
            refine v_if_ne (tgt := 68) C dX4_net_54 (by decide) h (fun h => ?_) (fun h => ?_)
            · refine v_aload_n C 1 dX4_net_57 rfl rfl ?_
              refine v_iload_n C 2 dX4_net_58 rfl rfl ?_
              obtain ⟨r, h1, h⟩ := bind_el h
              obtain ⟨r_25, rfl⟩ : ∃ z, z = r := ⟨_, rfl⟩
              try dsimp only at h
              refine v_callVi (As := [.int x1]) (st := []) (wr := []) (w1 := (wM cI cJ aM thrown_M_20 pins_M many_M nets_M lefts_M rights_M touches_M below_M reach_M tracksOf_M steps_M laid_M laidMany_M tracks_M laidNet_M laidLeft_M laidRight_M laidTouch_M laidTrack_M ringSize_M ringOf_M lays_M refusals_M)) (ws' := (wM cI cJ aM thrown_M_20 pins_M many_M nets_M lefts_M rights_M touches_M below_M reach_M tracksOf_M steps_M laid_M laidMany_M tracks_M laidNet_M laidLeft_M laidRight_M laidTouch_M laidTrack_M ringSize_M ringOf_M lays_M refusals_M)) (isC := [0, 1, 2, 3, 4, 5, 6, 7, 8, 9, 10, 11, 12, 13, 14, 15]) (isR := []) (pm := [0, 1, 2, 3, 4, 5, 6, 7, 8, 9, 10, 11, 12, 13, 14, 15]) C (c_X4_columns l D cI cJ aM thrown_M_20 pins_M many_M nets_M lefts_M rights_M touches_M below_M reach_M tracksOf_M steps_M laid_M laidMany_M tracks_M laidNet_M laidLeft_M laidRight_M laidTouch_M laidTrack_M ringSize_M ringOf_M lays_M refusals_M x1 r_25 h1) cw_X4_columns 0 rfl rfl m3_150 dX4_net_59 rfl ⟨Nat.le_of_ble_eq_true rfl, Nat.le_of_ble_eq_true rfl⟩ (Nat.le_of_ble_eq_true rfl) ⟨Nat.le_refl 0, Nat.le_refl 0⟩ ⟨rfl, rfl, rfl, rfl, by decide, rfl, rfl⟩ ?_
              obtain ⟨r, h1, h⟩ := bind_el h
              obtain ⟨r_26, rfl⟩ : ∃ z, z = r := ⟨_, rfl⟩
              try dsimp only at h
              refine v_callSi (As := [.int r_25]) (st := []) (wr := [(aM 0, .inr (4, [.int thrown_M_20, .ref (aM 1), .int many_M, .ref (aM 2), .ref (aM 3), .ref (aM 4), .ref (aM 5), .ref (aM 6), .ref (aM 7), .ref (aM 8), .ref (aM 9), .int laid_M, .int laidMany_M, .int tracks_M, .ref (aM 10), .ref (aM 11), .ref (aM 12), .ref (aM 13), .ref (aM 14), .int ringSize_M, .ref (aM 15), .int lays_M, .int refusals_M])), (aM 1, .inl (cI, 40, .inl pins_M)), (aM 2, .inl (cI, 40, .inl nets_M)), (aM 3, .inl (cI, 40, .inl lefts_M)), (aM 4, .inl (cI, 40, .inl rights_M)), (aM 5, .inl (cI, 40, .inl touches_M)), (aM 6, .inl (cJ, 40, .inr (.inl below_M))), (aM 7, .inl (cJ, 40, .inr (.inl reach_M))), (aM 8, .inl (cI, 40, .inl tracksOf_M)), (aM 9, .inl (cI, 40, .inl steps_M)), (aM 10, .inl (cI, 40, .inl laidNet_M)), (aM 11, .inl (cI, 40, .inl laidLeft_M)), (aM 12, .inl (cI, 40, .inl laidRight_M)), (aM 13, .inl (cI, 40, .inl laidTouch_M)), (aM 14, .inl (cI, 40, .inl laidTrack_M)), (aM 15, .inl (cI, 40, .inl ringOf_M))]) (w1 := []) (ws' := (wM cI cJ aM thrown_M_20 pins_M many_M nets_M lefts_M rights_M touches_M below_M reach_M tracksOf_M steps_M laid_M laidMany_M tracks_M laidNet_M laidLeft_M laidRight_M laidTouch_M laidTrack_M ringSize_M ringOf_M lays_M refusals_M)) (isC := []) (isR := [0, 1, 2, 3, 4, 5, 6, 7, 8, 9, 10, 11, 12, 13, 14, 15]) (pm := [0, 1, 2, 3, 4, 5, 6, 7, 8, 9, 10, 11, 12, 13, 14, 15]) C (c_X4_lowest l D cI cJ r_25 r_26 h1) cw_X4_lowest m3_154 dX4_net_62 rfl ⟨Nat.le_of_ble_eq_true rfl, Nat.le_of_ble_eq_true rfl⟩ (Nat.le_of_ble_eq_true rfl) ⟨Nat.le_refl 0, Nat.le_refl 0⟩ ⟨rfl, rfl, rfl, rfl, by decide, rfl, rfl⟩ ?_
              refine v_goto (tgt := 76) C dX4_net_65 (by decide) ?_
              cases h
              exact hk _ _ dX4_net_76
            · refine v_aload_n C 1 dX4_net_68 rfl rfl ?_
              refine v_iload_n C 2 dX4_net_69 rfl rfl ?_
              obtain ⟨r, h1, h⟩ := bind_el h
              obtain ⟨r_23, rfl⟩ : ∃ z, z = r := ⟨_, rfl⟩
              try dsimp only at h
              refine v_callVi (As := [.int x1]) (st := []) (wr := []) (w1 := (wM cI cJ aM thrown_M_20 pins_M many_M nets_M lefts_M rights_M touches_M below_M reach_M tracksOf_M steps_M laid_M laidMany_M tracks_M laidNet_M laidLeft_M laidRight_M laidTouch_M laidTrack_M ringSize_M ringOf_M lays_M refusals_M)) (ws' := (wM cI cJ aM thrown_M_20 pins_M many_M nets_M lefts_M rights_M touches_M below_M reach_M tracksOf_M steps_M laid_M laidMany_M tracks_M laidNet_M laidLeft_M laidRight_M laidTouch_M laidTrack_M ringSize_M ringOf_M lays_M refusals_M)) (isC := [0, 1, 2, 3, 4, 5, 6, 7, 8, 9, 10, 11, 12, 13, 14, 15]) (isR := []) (pm := [0, 1, 2, 3, 4, 5, 6, 7, 8, 9, 10, 11, 12, 13, 14, 15]) C (c_X4_columns l D cI cJ aM thrown_M_20 pins_M many_M nets_M lefts_M rights_M touches_M below_M reach_M tracksOf_M steps_M laid_M laidMany_M tracks_M laidNet_M laidLeft_M laidRight_M laidTouch_M laidTrack_M ringSize_M ringOf_M lays_M refusals_M x1 r_23 h1) cw_X4_columns 0 rfl rfl m3_150 dX4_net_70 rfl ⟨Nat.le_of_ble_eq_true rfl, Nat.le_of_ble_eq_true rfl⟩ (Nat.le_of_ble_eq_true rfl) ⟨Nat.le_refl 0, Nat.le_refl 0⟩ ⟨rfl, rfl, rfl, rfl, by decide, rfl, rfl⟩ ?_
              obtain ⟨r, h1, h⟩ := bind_el h
              obtain ⟨r_24, rfl⟩ : ∃ z, z = r := ⟨_, rfl⟩
              try dsimp only at h
              refine v_callSi (As := [.int r_23]) (st := []) (wr := [(aM 0, .inr (4, [.int thrown_M_20, .ref (aM 1), .int many_M, .ref (aM 2), .ref (aM 3), .ref (aM 4), .ref (aM 5), .ref (aM 6), .ref (aM 7), .ref (aM 8), .ref (aM 9), .int laid_M, .int laidMany_M, .int tracks_M, .ref (aM 10), .ref (aM 11), .ref (aM 12), .ref (aM 13), .ref (aM 14), .int ringSize_M, .ref (aM 15), .int lays_M, .int refusals_M])), (aM 1, .inl (cI, 40, .inl pins_M)), (aM 2, .inl (cI, 40, .inl nets_M)), (aM 3, .inl (cI, 40, .inl lefts_M)), (aM 4, .inl (cI, 40, .inl rights_M)), (aM 5, .inl (cI, 40, .inl touches_M)), (aM 6, .inl (cJ, 40, .inr (.inl below_M))), (aM 7, .inl (cJ, 40, .inr (.inl reach_M))), (aM 8, .inl (cI, 40, .inl tracksOf_M)), (aM 9, .inl (cI, 40, .inl steps_M)), (aM 10, .inl (cI, 40, .inl laidNet_M)), (aM 11, .inl (cI, 40, .inl laidLeft_M)), (aM 12, .inl (cI, 40, .inl laidRight_M)), (aM 13, .inl (cI, 40, .inl laidTouch_M)), (aM 14, .inl (cI, 40, .inl laidTrack_M)), (aM 15, .inl (cI, 40, .inl ringOf_M))]) (w1 := []) (ws' := (wM cI cJ aM thrown_M_20 pins_M many_M nets_M lefts_M rights_M touches_M below_M reach_M tracksOf_M steps_M laid_M laidMany_M tracks_M laidNet_M laidLeft_M laidRight_M laidTouch_M laidTrack_M ringSize_M ringOf_M lays_M refusals_M)) (isC := []) (isR := [0, 1, 2, 3, 4, 5, 6, 7, 8, 9, 10, 11, 12, 13, 14, 15]) (pm := [0, 1, 2, 3, 4, 5, 6, 7, 8, 9, 10, 11, 12, 13, 14, 15]) C (c_X4_highest l D cI cJ r_23 r_24 h1) cw_X4_highest m3_157 dX4_net_73 rfl ⟨Nat.le_of_ble_eq_true rfl, Nat.le_of_ble_eq_true rfl⟩ (Nat.le_of_ble_eq_true rfl) ⟨Nat.le_refl 0, Nat.le_refl 0⟩ ⟨rfl, rfl, rfl, rfl, by decide, rfl, rfl⟩ ?_
              cases h
              exact hk _ _ dX4_net_76
          · refine v_iconst (v := (-1)) C dX4_net_49 (by decide) ?_
            refine v_goto (tgt := 76) C dX4_net_50 (by decide) ?_
            cases h
            exact hk _ _ dX4_net_76
      · refine v_iconst (v := 0) C dX4_net_31 (by decide) ?_
        cases h
        exact hk _ _ dX4_net_32
def f_X4_vias_B14 (x2 : Int32) (pins_M : (Nat → Int32)) (laidMany_M : Int32) (tracks_M : Int32) (laidNet_M : (Nat → Int32)) (laidLeft_M : (Nat → Int32)) (laidRight_M : (Nat → Int32)) (laidTouch_M : (Nat → Int32)) (laidTrack_M : (Nat → Int32)) : (Int32 × Int32) → Option ((Int32 × Int32) ⊕ Int32)
  | (x1, x3) => if 20 ≤ x3 then (some (.inr x1)) else ((f_X4_viaAt pins_M laidMany_M tracks_M laidNet_M laidLeft_M laidRight_M laidTouch_M laidTrack_M x2 x3).bind (fun r => match r with | r_1 => if r_1 = 0 then (some (.inl (x1, x3 + 1))) else (some (.inl (x1 + 1, x3 + 1)))))
def f_X4_vias_B4 (pins_M : (Nat → Int32)) (laidMany_M : Int32) (tracks_M : Int32) (laidNet_M : (Nat → Int32)) (laidLeft_M : (Nat → Int32)) (laidRight_M : (Nat → Int32)) (laidTouch_M : (Nat → Int32)) (laidTrack_M : (Nat → Int32)) : (Int32 × Int32) → Option ((Int32 × Int32) ⊕ Int32)
  | (x1, x2) => if tracks_M ≤ x2 then (some (.inr x1)) else ((lp (f_X4_vias_B14 x2 pins_M laidMany_M tracks_M laidNet_M laidLeft_M laidRight_M laidTouch_M laidTrack_M) 64 (x1, 0)).bind (fun r => match r with | x1_2 => some (.inl (x1_2, x2 + 1))))
def f_X4_vias (pins_M : (Nat → Int32)) (laidMany_M : Int32) (tracks_M : Int32) (laidNet_M : (Nat → Int32)) (laidLeft_M : (Nat → Int32)) (laidRight_M : (Nat → Int32)) (laidTouch_M : (Nat → Int32)) (laidTrack_M : (Nat → Int32)) : Option Int32 := (lp (f_X4_vias_B4 pins_M laidMany_M tracks_M laidNet_M laidLeft_M laidRight_M laidTouch_M laidTrack_M) 64 (0, 0)).bind (fun r => match r with | x1_3 => some x1_3)
theorem cw_X4_vias : CWv yX4_vias cX4_vias 4 (some .int) RX4 0 := ⟨m4_37, ms5_1, m1_5, m4_38, rfl, by decide, by decide, by decide +kernel⟩
set_option maxHeartbeats 4000000 in
set_option maxRecDepth 100000 in
theorem t_X4_vias_B14 {p : Program} {l : Launch} {e : Env} {s : State} {m : MethodId} {args : Array Value} {below : List Frame} {meth : Method} {c : Code} {D : va_G} {A : Nat → Prop} {cI cJ : ClassId} {Q : State → Prop} (C : Cx p s m args c cX4_vias 4 RX4 D A cI cJ) {aM : Nat → Nat} {x2 : Int32} {thrown_M : Int32} {pins_M : (Nat → Int32)} {many_M : Int32} {nets_M : (Nat → Int32)} {lefts_M : (Nat → Int32)} {rights_M : (Nat → Int32)} {touches_M : (Nat → Int32)} {below_M : (Nat → Int64)} {reach_M : (Nat → Int64)} {tracksOf_M : (Nat → Int32)} {steps_M : (Nat → Int32)} {laid_M : Int32} {laidMany_M : Int32} {tracks_M : Int32} {laidNet_M : (Nat → Int32)} {laidLeft_M : (Nat → Int32)} {laidRight_M : (Nat → Int32)} {laidTouch_M : (Nat → Int32)} {laidTrack_M : (Nat → Int32)} {ringSize_M : Int32} {ringOf_M : (Nat → Int32)} {lays_M : Int32} {refusals_M : Int32} (s8 : (Int32 × Int32)) (o8 : (Int32 × Int32) ⊕ Int32) (h : f_X4_vias_B14 x2 pins_M laidMany_M tracks_M laidNet_M laidLeft_M laidRight_M laidTouch_M laidTrack_M s8 = some o8) (hl : ∀ s8, o8 = .inl s8 → V p l e (rmO 3 75) s m args below meth c 4 D A 0 0 Q 14 [(0, .ref (aM 0)), (1, .int s8.1), (2, .int x2), (3, .int s8.2)] [] (wM cI cJ aM thrown_M pins_M many_M nets_M lefts_M rights_M touches_M below_M reach_M tracksOf_M steps_M laid_M laidMany_M tracks_M laidNet_M laidLeft_M laidRight_M laidTouch_M laidTrack_M ringSize_M ringOf_M lays_M refusals_M)) (hx : ∀ r8, o8 = .inr r8 → V p l e (rmO 3 75) s m args below meth c 4 D A 0 0 Q 43 [(0, .ref (aM 0)), (1, .int r8), (2, .int x2)] [] (wM cI cJ aM thrown_M pins_M many_M nets_M lefts_M rights_M touches_M below_M reach_M tracksOf_M steps_M laid_M laidMany_M tracks_M laidNet_M laidLeft_M laidRight_M laidTouch_M laidTrack_M ringSize_M ringOf_M lays_M refusals_M)) : V p l e (rmO 3 75) s m args below meth c 4 D A 0 0 Q 14 [(0, .ref (aM 0)), (1, .int s8.1), (2, .int x2), (3, .int s8.2)] [] (wM cI cJ aM thrown_M pins_M many_M nets_M lefts_M rights_M touches_M below_M reach_M tracksOf_M steps_M laid_M laidMany_M tracks_M laidNet_M laidLeft_M laidRight_M laidTouch_M laidTrack_M ringSize_M ringOf_M lays_M refusals_M) := by
  obtain ⟨x1, x3⟩ := s8
  unfold f_X4_vias_B14 at h
  show V p l e (rmO 3 75) s m args below meth c 4 D A 0 0 Q 14 [(0, .ref (aM 0)), (1, .int x1), (2, .int x2), (3, .int x3)] [] (wM cI cJ aM thrown_M pins_M many_M nets_M lefts_M rights_M touches_M below_M reach_M tracksOf_M steps_M laid_M laidMany_M tracks_M laidNet_M laidLeft_M laidRight_M laidTouch_M laidTrack_M ringSize_M ringOf_M lays_M refusals_M)
  refine v_iload_n C 3 dX4_vias_14 rfl rfl ?_
  refine v_bipush (v := 20) C dX4_vias_15 (by decide) ?_
  refine v_icmp_ge (tgt := 43) C dX4_vias_17 (by decide) h (fun h => ?_) (fun h => ?_)
  · refine v_perm [0, 1, 2] rfl ?_
    cases h
    exact hx _ rfl
  · refine v_aload_n C 0 dX4_vias_20 rfl rfl ?_
    refine v_iload_n C 2 dX4_vias_21 rfl rfl ?_
    refine v_iload_n C 3 dX4_vias_22 rfl rfl ?_
    obtain ⟨r, h1, h⟩ := bind_el h
    obtain ⟨r_1, rfl⟩ : ∃ z, z = r := ⟨_, rfl⟩
    try dsimp only at h
    refine v_callVi (As := [.int x2, .int x3]) (st := []) (wr := []) (w1 := (wM cI cJ aM thrown_M pins_M many_M nets_M lefts_M rights_M touches_M below_M reach_M tracksOf_M steps_M laid_M laidMany_M tracks_M laidNet_M laidLeft_M laidRight_M laidTouch_M laidTrack_M ringSize_M ringOf_M lays_M refusals_M)) (ws' := (wM cI cJ aM thrown_M pins_M many_M nets_M lefts_M rights_M touches_M below_M reach_M tracksOf_M steps_M laid_M laidMany_M tracks_M laidNet_M laidLeft_M laidRight_M laidTouch_M laidTrack_M ringSize_M ringOf_M lays_M refusals_M)) (isC := [0, 1, 2, 3, 4, 5, 6, 7, 8, 9, 10, 11, 12, 13, 14, 15]) (isR := []) (pm := [0, 1, 2, 3, 4, 5, 6, 7, 8, 9, 10, 11, 12, 13, 14, 15]) C (c_X4_viaAt l D cI cJ aM thrown_M pins_M many_M nets_M lefts_M rights_M touches_M below_M reach_M tracksOf_M steps_M laid_M laidMany_M tracks_M laidNet_M laidLeft_M laidRight_M laidTouch_M laidTrack_M ringSize_M ringOf_M lays_M refusals_M x2 x3 r_1 h1) cw_X4_viaAt 0 rfl rfl m4_15 dX4_vias_23 rfl ⟨Nat.le_of_ble_eq_true rfl, Nat.le_of_ble_eq_true rfl⟩ (Nat.le_of_ble_eq_true rfl) ⟨Nat.le_refl 0, Nat.le_refl 0⟩ ⟨rfl, rfl, rfl, rfl, by decide, rfl, rfl⟩ ?_
    refine v_if_eq (tgt := 35) C dX4_vias_26 (by decide) h (fun h => ?_) (fun h => ?_)
    · refine v_iload_n C 1 dX4_vias_35 rfl rfl ?_
      refine v_istore_n C [(1, .int x1), (0, .ref (aM 0)), (2, .int x2), (3, .int x3)] dX4_vias_36 rfl (by decide) rfl ?_
      refine v_iinc C [(3, .int (x3 + 1)), (1, .int x1), (0, .ref (aM 0)), (2, .int x2)] 3 dX4_vias_37 rfl rfl (by decide) rfl ?_
      refine v_goto (tgt := 14) C dX4_vias_40 (by decide) ?_
      refine v_perm [2, 1, 3, 0] rfl ?_
      cases h
      exact hl _ rfl
    · refine v_iload_n C 1 dX4_vias_29 rfl rfl ?_
      refine v_iconst (v := 1) C dX4_vias_30 (by decide) ?_
      refine v_iadd C dX4_vias_31 ?_
      refine v_goto (tgt := 36) C dX4_vias_32 (by decide) ?_
      refine v_istore_n C [(1, .int (x1 + 1)), (0, .ref (aM 0)), (2, .int x2), (3, .int x3)] dX4_vias_36 rfl (by decide) rfl ?_
      refine v_iinc C [(3, .int (x3 + 1)), (1, .int (x1 + 1)), (0, .ref (aM 0)), (2, .int x2)] 3 dX4_vias_37 rfl rfl (by decide) rfl ?_
      refine v_goto (tgt := 14) C dX4_vias_40 (by decide) ?_
      refine v_perm [2, 1, 3, 0] rfl ?_
      cases h
      exact hl _ rfl
set_option maxHeartbeats 4000000 in
set_option maxRecDepth 100000 in
theorem t_X4_vias_L14 {p : Program} {l : Launch} {e : Env} {s : State} {m : MethodId} {args : Array Value} {below : List Frame} {meth : Method} {c : Code} {D : va_G} {A : Nat → Prop} {cI cJ : ClassId} {Q : State → Prop} (C : Cx p s m args c cX4_vias 4 RX4 D A cI cJ) {aM : Nat → Nat} {x2 : Int32} {thrown_M : Int32} {pins_M : (Nat → Int32)} {many_M : Int32} {nets_M : (Nat → Int32)} {lefts_M : (Nat → Int32)} {rights_M : (Nat → Int32)} {touches_M : (Nat → Int32)} {below_M : (Nat → Int64)} {reach_M : (Nat → Int64)} {tracksOf_M : (Nat → Int32)} {steps_M : (Nat → Int32)} {laid_M : Int32} {laidMany_M : Int32} {tracks_M : Int32} {laidNet_M : (Nat → Int32)} {laidLeft_M : (Nat → Int32)} {laidRight_M : (Nat → Int32)} {laidTouch_M : (Nat → Int32)} {laidTrack_M : (Nat → Int32)} {ringSize_M : Int32} {ringOf_M : (Nat → Int32)} {lays_M : Int32} {refusals_M : Int32} {n8 : Nat} {s9 : (Int32 × Int32)} {o8 : Int32} (h : lp (f_X4_vias_B14 x2 pins_M laidMany_M tracks_M laidNet_M laidLeft_M laidRight_M laidTouch_M laidTrack_M) n8 s9 = some o8) (hk : V p l e (rmO 3 75) s m args below meth c 4 D A 0 0 Q 43 [(0, .ref (aM 0)), (1, .int o8), (2, .int x2)] [] (wM cI cJ aM thrown_M pins_M many_M nets_M lefts_M rights_M touches_M below_M reach_M tracksOf_M steps_M laid_M laidMany_M tracks_M laidNet_M laidLeft_M laidRight_M laidTouch_M laidTrack_M ringSize_M ringOf_M lays_M refusals_M)) : V p l e (rmO 3 75) s m args below meth c 4 D A 0 0 Q 14 [(0, .ref (aM 0)), (1, .int s9.1), (2, .int x2), (3, .int s9.2)] [] (wM cI cJ aM thrown_M pins_M many_M nets_M lefts_M rights_M touches_M below_M reach_M tracksOf_M steps_M laid_M laidMany_M tracks_M laidNet_M laidLeft_M laidRight_M laidTouch_M laidTrack_M ringSize_M ringOf_M lays_M refusals_M) := lp_ok (Pσ := fun s8 => V p l e (rmO 3 75) s m args below meth c 4 D A 0 0 Q 14 [(0, .ref (aM 0)), (1, .int s8.1), (2, .int x2), (3, .int s8.2)] [] (wM cI cJ aM thrown_M pins_M many_M nets_M lefts_M rights_M touches_M below_M reach_M tracksOf_M steps_M laid_M laidMany_M tracks_M laidNet_M laidLeft_M laidRight_M laidTouch_M laidTrack_M ringSize_M ringOf_M lays_M refusals_M)) (Pρ := fun r8 => V p l e (rmO 3 75) s m args below meth c 4 D A 0 0 Q 43 [(0, .ref (aM 0)), (1, .int r8), (2, .int x2)] [] (wM cI cJ aM thrown_M pins_M many_M nets_M lefts_M rights_M touches_M below_M reach_M tracksOf_M steps_M laid_M laidMany_M tracks_M laidNet_M laidLeft_M laidRight_M laidTouch_M laidTrack_M ringSize_M ringOf_M lays_M refusals_M)) (fun s o h hl hx => t_X4_vias_B14 C s o h hl hx) n8 s9 o8 h hk
set_option maxHeartbeats 4000000 in
set_option maxRecDepth 100000 in
theorem t_X4_vias_B4 {p : Program} {l : Launch} {e : Env} {s : State} {m : MethodId} {args : Array Value} {below : List Frame} {meth : Method} {c : Code} {D : va_G} {A : Nat → Prop} {cI cJ : ClassId} {Q : State → Prop} (C : Cx p s m args c cX4_vias 4 RX4 D A cI cJ) {aM : Nat → Nat} {thrown_M : Int32} {pins_M : (Nat → Int32)} {many_M : Int32} {nets_M : (Nat → Int32)} {lefts_M : (Nat → Int32)} {rights_M : (Nat → Int32)} {touches_M : (Nat → Int32)} {below_M : (Nat → Int64)} {reach_M : (Nat → Int64)} {tracksOf_M : (Nat → Int32)} {steps_M : (Nat → Int32)} {laid_M : Int32} {laidMany_M : Int32} {tracks_M : Int32} {laidNet_M : (Nat → Int32)} {laidLeft_M : (Nat → Int32)} {laidRight_M : (Nat → Int32)} {laidTouch_M : (Nat → Int32)} {laidTrack_M : (Nat → Int32)} {ringSize_M : Int32} {ringOf_M : (Nat → Int32)} {lays_M : Int32} {refusals_M : Int32} (s8 : (Int32 × Int32)) (o8 : (Int32 × Int32) ⊕ Int32) (h : f_X4_vias_B4 pins_M laidMany_M tracks_M laidNet_M laidLeft_M laidRight_M laidTouch_M laidTrack_M s8 = some o8) (hl : ∀ s8, o8 = .inl s8 → V p l e (rmO 3 75) s m args below meth c 4 D A 0 0 Q 4 [(0, .ref (aM 0)), (1, .int s8.1), (2, .int s8.2)] [] (wM cI cJ aM thrown_M pins_M many_M nets_M lefts_M rights_M touches_M below_M reach_M tracksOf_M steps_M laid_M laidMany_M tracks_M laidNet_M laidLeft_M laidRight_M laidTouch_M laidTrack_M ringSize_M ringOf_M lays_M refusals_M)) (hx : ∀ r8, o8 = .inr r8 → V p l e (rmO 3 75) s m args below meth c 4 D A 0 0 Q 49 [(1, .int r8)] [] (wM cI cJ aM thrown_M pins_M many_M nets_M lefts_M rights_M touches_M below_M reach_M tracksOf_M steps_M laid_M laidMany_M tracks_M laidNet_M laidLeft_M laidRight_M laidTouch_M laidTrack_M ringSize_M ringOf_M lays_M refusals_M)) : V p l e (rmO 3 75) s m args below meth c 4 D A 0 0 Q 4 [(0, .ref (aM 0)), (1, .int s8.1), (2, .int s8.2)] [] (wM cI cJ aM thrown_M pins_M many_M nets_M lefts_M rights_M touches_M below_M reach_M tracksOf_M steps_M laid_M laidMany_M tracks_M laidNet_M laidLeft_M laidRight_M laidTouch_M laidTrack_M ringSize_M ringOf_M lays_M refusals_M) := by
  obtain ⟨x1, x2⟩ := s8
  unfold f_X4_vias_B4 at h
  show V p l e (rmO 3 75) s m args below meth c 4 D A 0 0 Q 4 [(0, .ref (aM 0)), (1, .int x1), (2, .int x2)] [] (wM cI cJ aM thrown_M pins_M many_M nets_M lefts_M rights_M touches_M below_M reach_M tracksOf_M steps_M laid_M laidMany_M tracks_M laidNet_M laidLeft_M laidRight_M laidTouch_M laidTrack_M ringSize_M ringOf_M lays_M refusals_M)
  refine v_iload_n C 2 dX4_vias_4 rfl rfl ?_
  refine v_aload_n C 0 dX4_vias_5 rfl rfl ?_
  refine v_get C 0 13 iuX4 rfl rfl (by decide) m3_66 rfl rfl dX4_vias_6 ?_
  refine v_icmp_ge (tgt := 49) C dX4_vias_9 (by decide) h (fun h => ?_) (fun h => ?_)
  · refine v_perm [1] rfl ?_
    cases h
    exact hx _ rfl
  · refine v_iconst (v := 0) C dX4_vias_12 (by decide) ?_
    refine v_istore_n C [(3, .int 0), (0, .ref (aM 0)), (1, .int x1), (2, .int x2)] dX4_vias_13 rfl (by decide) rfl ?_
    obtain ⟨r, h1, h⟩ := bind_el h
    refine v_perm [1, 2, 3, 0] rfl ?_
    obtain ⟨x1_2, rfl⟩ : ∃ z, z = r := ⟨_, rfl⟩
    refine t_X4_vias_L14 C (s9 := (x1, 0)) h1 ?_
    show V p l e (rmO 3 75) s m args below meth c 4 D A 0 0 Q 43 [(0, .ref (aM 0)), (1, .int x1_2), (2, .int x2)] [] (wM cI cJ aM thrown_M pins_M many_M nets_M lefts_M rights_M touches_M below_M reach_M tracksOf_M steps_M laid_M laidMany_M tracks_M laidNet_M laidLeft_M laidRight_M laidTouch_M laidTrack_M ringSize_M ringOf_M lays_M refusals_M)
    try dsimp only at h
    refine v_iinc C [(2, .int (x2 + 1)), (0, .ref (aM 0)), (1, .int x1_2)] 2 dX4_vias_43 rfl rfl (by decide) rfl ?_
    refine v_goto (tgt := 4) C dX4_vias_46 (by decide) ?_
    refine v_perm [1, 2, 0] rfl ?_
    cases h
    exact hl _ rfl
set_option maxHeartbeats 4000000 in
set_option maxRecDepth 100000 in
theorem t_X4_vias_L4 {p : Program} {l : Launch} {e : Env} {s : State} {m : MethodId} {args : Array Value} {below : List Frame} {meth : Method} {c : Code} {D : va_G} {A : Nat → Prop} {cI cJ : ClassId} {Q : State → Prop} (C : Cx p s m args c cX4_vias 4 RX4 D A cI cJ) {aM : Nat → Nat} {thrown_M : Int32} {pins_M : (Nat → Int32)} {many_M : Int32} {nets_M : (Nat → Int32)} {lefts_M : (Nat → Int32)} {rights_M : (Nat → Int32)} {touches_M : (Nat → Int32)} {below_M : (Nat → Int64)} {reach_M : (Nat → Int64)} {tracksOf_M : (Nat → Int32)} {steps_M : (Nat → Int32)} {laid_M : Int32} {laidMany_M : Int32} {tracks_M : Int32} {laidNet_M : (Nat → Int32)} {laidLeft_M : (Nat → Int32)} {laidRight_M : (Nat → Int32)} {laidTouch_M : (Nat → Int32)} {laidTrack_M : (Nat → Int32)} {ringSize_M : Int32} {ringOf_M : (Nat → Int32)} {lays_M : Int32} {refusals_M : Int32} {n8 : Nat} {s9 : (Int32 × Int32)} {o8 : Int32} (h : lp (f_X4_vias_B4 pins_M laidMany_M tracks_M laidNet_M laidLeft_M laidRight_M laidTouch_M laidTrack_M) n8 s9 = some o8) (hk : V p l e (rmO 3 75) s m args below meth c 4 D A 0 0 Q 49 [(1, .int o8)] [] (wM cI cJ aM thrown_M pins_M many_M nets_M lefts_M rights_M touches_M below_M reach_M tracksOf_M steps_M laid_M laidMany_M tracks_M laidNet_M laidLeft_M laidRight_M laidTouch_M laidTrack_M ringSize_M ringOf_M lays_M refusals_M)) : V p l e (rmO 3 75) s m args below meth c 4 D A 0 0 Q 4 [(0, .ref (aM 0)), (1, .int s9.1), (2, .int s9.2)] [] (wM cI cJ aM thrown_M pins_M many_M nets_M lefts_M rights_M touches_M below_M reach_M tracksOf_M steps_M laid_M laidMany_M tracks_M laidNet_M laidLeft_M laidRight_M laidTouch_M laidTrack_M ringSize_M ringOf_M lays_M refusals_M) := lp_ok (Pσ := fun s8 => V p l e (rmO 3 75) s m args below meth c 4 D A 0 0 Q 4 [(0, .ref (aM 0)), (1, .int s8.1), (2, .int s8.2)] [] (wM cI cJ aM thrown_M pins_M many_M nets_M lefts_M rights_M touches_M below_M reach_M tracksOf_M steps_M laid_M laidMany_M tracks_M laidNet_M laidLeft_M laidRight_M laidTouch_M laidTrack_M ringSize_M ringOf_M lays_M refusals_M)) (Pρ := fun r8 => V p l e (rmO 3 75) s m args below meth c 4 D A 0 0 Q 49 [(1, .int r8)] [] (wM cI cJ aM thrown_M pins_M many_M nets_M lefts_M rights_M touches_M below_M reach_M tracksOf_M steps_M laid_M laidMany_M tracks_M laidNet_M laidLeft_M laidRight_M laidTouch_M laidTrack_M ringSize_M ringOf_M lays_M refusals_M)) (fun s o h hl hx => t_X4_vias_B4 C s o h hl hx) n8 s9 o8 h hk
set_option maxHeartbeats 4000000 in
set_option maxRecDepth 100000 in
theorem c_X4_vias (l : Launch) (D : va_G) (cI cJ : ClassId) (aM : Nat → Nat) (thrown_M : Int32) (pins_M : (Nat → Int32)) (many_M : Int32) (nets_M : (Nat → Int32)) (lefts_M : (Nat → Int32)) (rights_M : (Nat → Int32)) (touches_M : (Nat → Int32)) (below_M : (Nat → Int64)) (reach_M : (Nat → Int64)) (tracksOf_M : (Nat → Int32)) (steps_M : (Nat → Int32)) (laid_M : Int32) (laidMany_M : Int32) (tracks_M : Int32) (laidNet_M : (Nat → Int32)) (laidLeft_M : (Nat → Int32)) (laidRight_M : (Nat → Int32)) (laidTouch_M : (Nat → Int32)) (laidTrack_M : (Nat → Int32)) (ringSize_M : Int32) (ringOf_M : (Nat → Int32)) (lays_M : Int32) (refusals_M : Int32) (r : Int32) (h : f_X4_vias pins_M laidMany_M tracks_M laidNet_M laidLeft_M laidRight_M laidTouch_M laidTrack_M = some r) : Cti l D cI cJ yX4_vias cX4_vias 4 (some .int) 3 75 [.ref (aM 0)] (wM cI cJ aM thrown_M pins_M many_M nets_M lefts_M rights_M touches_M below_M reach_M tracksOf_M steps_M laid_M laidMany_M tracks_M laidNet_M laidLeft_M laidRight_M laidTouch_M laidTrack_M ringSize_M ringOf_M lays_M refusals_M) (wM cI cJ aM thrown_M pins_M many_M nets_M lefts_M rights_M touches_M below_M reach_M tracksOf_M steps_M laid_M laidMany_M tracks_M laidNet_M laidLeft_M laidRight_M laidTouch_M laidTrack_M ringSize_M ringOf_M lays_M refusals_M) r := by
  refine mk_i [(0, .ref (aM 0))] (by decide) rfl (Nat.le_of_ble_eq_true rfl) rfl (fun p e s m args below meth c A Q C hk => ?_)
  unfold f_X4_vias at h
  refine v_iconst (v := 0) C dX4_vias_0 (by decide) ?_
  refine v_istore_n C [(1, .int 0), (0, .ref (aM 0))] dX4_vias_1 rfl (by decide) rfl ?_
  refine v_iconst (v := 0) C dX4_vias_2 (by decide) ?_
  refine v_istore_n C [(2, .int 0), (1, .int 0), (0, .ref (aM 0))] dX4_vias_3 rfl (by decide) rfl ?_
  obtain ⟨r, h1, h⟩ := bind_el h
  refine v_perm [2, 1, 0] rfl ?_
  obtain ⟨x1_3, rfl⟩ : ∃ z, z = r := ⟨_, rfl⟩
  refine t_X4_vias_L4 C (s9 := (0, 0)) h1 ?_
  show V p l e (rmO 3 75) s m args below meth c 4 D A 0 0 Q 49 [(1, .int x1_3)] [] (wM cI cJ aM thrown_M pins_M many_M nets_M lefts_M rights_M touches_M below_M reach_M tracksOf_M steps_M laid_M laidMany_M tracks_M laidNet_M laidLeft_M laidRight_M laidTouch_M laidTrack_M ringSize_M ringOf_M lays_M refusals_M)
  try dsimp only at h
  refine v_iload_n C 0 dX4_vias_49 rfl rfl ?_
  cases h
  exact hk _ _ dX4_vias_50
def f_X4_count (pins_M : (Nat → Int32)) (laid_M : Int32) (laidMany_M : Int32) (tracks_M : Int32) (laidNet_M : (Nat → Int32)) (laidLeft_M : (Nat → Int32)) (laidRight_M : (Nat → Int32)) (laidTouch_M : (Nat → Int32)) (laidTrack_M : (Nat → Int32)) (lays_M : Int32) (refusals_M : Int32) (x1 : Int32) : Option (Int32 × Int32) := (f_X4_in x1 0 5).bind (fun r => match r with | r_1 => (f_X4_out r_1).bind (fun r => match r with | (r_2, thrown_M_3) => if r_2 = 0 then (if x1 = 0 then (some (tracks_M, thrown_M_3)) else (if x1 = 1 then (some (laidMany_M, thrown_M_3)) else (if x1 = 2 then ((f_X4_vias pins_M laidMany_M tracks_M laidNet_M laidLeft_M laidRight_M laidTouch_M laidTrack_M).bind (fun r => match r with | r_4 => some (r_4, thrown_M_3))) else (if x1 = 3 then (some (lays_M, thrown_M_3)) else (if x1 = 4 then (some (refusals_M, thrown_M_3)) else (if laid_M = 0 then (some (0, thrown_M_3)) else (some (1, thrown_M_3)))))))) else (some (0, thrown_M_3))))
theorem cw_X4_count : CWv yX4_count cX4_count 2 (some .int) RX4 1 := ⟨m4_32, m4_33, m1_5, m4_34, rfl, by decide, by decide, by decide +kernel⟩
set_option maxHeartbeats 4000000 in
set_option maxRecDepth 100000 in
theorem c_X4_count (l : Launch) (D : va_G) (cI cJ : ClassId) (aM : Nat → Nat) (thrown_M : Int32) (pins_M : (Nat → Int32)) (many_M : Int32) (nets_M : (Nat → Int32)) (lefts_M : (Nat → Int32)) (rights_M : (Nat → Int32)) (touches_M : (Nat → Int32)) (below_M : (Nat → Int64)) (reach_M : (Nat → Int64)) (tracksOf_M : (Nat → Int32)) (steps_M : (Nat → Int32)) (laid_M : Int32) (laidMany_M : Int32) (tracks_M : Int32) (laidNet_M : (Nat → Int32)) (laidLeft_M : (Nat → Int32)) (laidRight_M : (Nat → Int32)) (laidTouch_M : (Nat → Int32)) (laidTrack_M : (Nat → Int32)) (ringSize_M : Int32) (ringOf_M : (Nat → Int32)) (lays_M : Int32) (refusals_M : Int32) (x1 : Int32) (r : Int32) (thrown_M' : Int32) (h : f_X4_count pins_M laid_M laidMany_M tracks_M laidNet_M laidLeft_M laidRight_M laidTouch_M laidTrack_M lays_M refusals_M x1 = some (r, thrown_M')) : Cti l D cI cJ yX4_count cX4_count 2 (some .int) 4 98 [.ref (aM 0), .int x1] (wM cI cJ aM thrown_M pins_M many_M nets_M lefts_M rights_M touches_M below_M reach_M tracksOf_M steps_M laid_M laidMany_M tracks_M laidNet_M laidLeft_M laidRight_M laidTouch_M laidTrack_M ringSize_M ringOf_M lays_M refusals_M) (wM cI cJ aM thrown_M' pins_M many_M nets_M lefts_M rights_M touches_M below_M reach_M tracksOf_M steps_M laid_M laidMany_M tracks_M laidNet_M laidLeft_M laidRight_M laidTouch_M laidTrack_M ringSize_M ringOf_M lays_M refusals_M) r := by
  refine mk_i [(0, .ref (aM 0)), (1, .int x1)] (by decide) rfl (Nat.le_of_ble_eq_true rfl) rfl (fun p e s m args below meth c A Q C hk => ?_)
  unfold f_X4_count at h
  refine v_aload_n C 0 dX4_count_0 rfl rfl ?_
  refine v_iload_n C 1 dX4_count_1 rfl rfl ?_
  refine v_iconst (v := 0) C dX4_count_2 (by decide) ?_
  refine v_iconst (v := 5) C dX4_count_3 (by decide) ?_
  obtain ⟨r, h1, h⟩ := bind_el h
  obtain ⟨r_1, rfl⟩ : ∃ z, z = r := ⟨_, rfl⟩
  try dsimp only at h
  refine v_callSi (As := [.int x1, .int 0, .int 5]) (st := [.ref (aM 0)]) (wr := [(aM 0, .inr (4, [.int thrown_M, .ref (aM 1), .int many_M, .ref (aM 2), .ref (aM 3), .ref (aM 4), .ref (aM 5), .ref (aM 6), .ref (aM 7), .ref (aM 8), .ref (aM 9), .int laid_M, .int laidMany_M, .int tracks_M, .ref (aM 10), .ref (aM 11), .ref (aM 12), .ref (aM 13), .ref (aM 14), .int ringSize_M, .ref (aM 15), .int lays_M, .int refusals_M])), (aM 1, .inl (cI, 40, .inl pins_M)), (aM 2, .inl (cI, 40, .inl nets_M)), (aM 3, .inl (cI, 40, .inl lefts_M)), (aM 4, .inl (cI, 40, .inl rights_M)), (aM 5, .inl (cI, 40, .inl touches_M)), (aM 6, .inl (cJ, 40, .inr (.inl below_M))), (aM 7, .inl (cJ, 40, .inr (.inl reach_M))), (aM 8, .inl (cI, 40, .inl tracksOf_M)), (aM 9, .inl (cI, 40, .inl steps_M)), (aM 10, .inl (cI, 40, .inl laidNet_M)), (aM 11, .inl (cI, 40, .inl laidLeft_M)), (aM 12, .inl (cI, 40, .inl laidRight_M)), (aM 13, .inl (cI, 40, .inl laidTouch_M)), (aM 14, .inl (cI, 40, .inl laidTrack_M)), (aM 15, .inl (cI, 40, .inl ringOf_M))]) (w1 := []) (ws' := (wM cI cJ aM thrown_M pins_M many_M nets_M lefts_M rights_M touches_M below_M reach_M tracksOf_M steps_M laid_M laidMany_M tracks_M laidNet_M laidLeft_M laidRight_M laidTouch_M laidTrack_M ringSize_M ringOf_M lays_M refusals_M)) (isC := []) (isR := [0, 1, 2, 3, 4, 5, 6, 7, 8, 9, 10, 11, 12, 13, 14, 15]) (pm := [0, 1, 2, 3, 4, 5, 6, 7, 8, 9, 10, 11, 12, 13, 14, 15]) C (c_X4_in l D cI cJ x1 0 5 r_1 h1) cw_X4_in m3_131 dX4_count_4 rfl ⟨Nat.le_of_ble_eq_true rfl, Nat.le_of_ble_eq_true rfl⟩ (Nat.le_of_ble_eq_true rfl) ⟨Nat.le_refl 0, Nat.le_refl 0⟩ ⟨rfl, rfl, rfl, rfl, by decide, rfl, rfl⟩ ?_
  obtain ⟨r, h1, h⟩ := bind_el h
  obtain ⟨r_2, thrown_M_3⟩ := r
  try dsimp only at h
  refine v_callVi (As := [.int r_1]) (st := []) (wr := []) (w1 := (wM cI cJ aM thrown_M_3 pins_M many_M nets_M lefts_M rights_M touches_M below_M reach_M tracksOf_M steps_M laid_M laidMany_M tracks_M laidNet_M laidLeft_M laidRight_M laidTouch_M laidTrack_M ringSize_M ringOf_M lays_M refusals_M)) (ws' := (wM cI cJ aM thrown_M_3 pins_M many_M nets_M lefts_M rights_M touches_M below_M reach_M tracksOf_M steps_M laid_M laidMany_M tracks_M laidNet_M laidLeft_M laidRight_M laidTouch_M laidTrack_M ringSize_M ringOf_M lays_M refusals_M)) (isC := [0, 1, 2, 3, 4, 5, 6, 7, 8, 9, 10, 11, 12, 13, 14, 15]) (isR := []) (pm := [0, 1, 2, 3, 4, 5, 6, 7, 8, 9, 10, 11, 12, 13, 14, 15]) C (c_X4_out l D cI cJ aM thrown_M pins_M many_M nets_M lefts_M rights_M touches_M below_M reach_M tracksOf_M steps_M laid_M laidMany_M tracks_M laidNet_M laidLeft_M laidRight_M laidTouch_M laidTrack_M ringSize_M ringOf_M lays_M refusals_M r_1 r_2 thrown_M_3 h1) cw_X4_out 0 rfl rfl m3_231 dX4_count_7 rfl ⟨Nat.le_of_ble_eq_true rfl, Nat.le_of_ble_eq_true rfl⟩ (Nat.le_of_ble_eq_true rfl) ⟨Nat.le_refl 0, Nat.le_refl 0⟩ ⟨rfl, rfl, rfl, rfl, by decide, rfl, rfl⟩ ?_
  refine v_if_eq (tgt := 15) C dX4_count_10 (by decide) h (fun h => ?_) (fun h => ?_)
  · refine v_iload_n C 1 dX4_count_15 rfl rfl ?_
    refine v_tsw5 (t0 := 52) (t1 := 57) (t2 := 62) (t3 := 67) (t4 := 72) (td := 77) C dX4_count_16 ⟨by decide, by decide, by decide, by decide, by decide⟩ (by decide) h (fun h => ?_) (fun h => ?_) (fun h => ?_) (fun h => ?_) (fun h => ?_) (fun h => ?_)
    · refine v_aload_n C 0 dX4_count_52 rfl rfl ?_
      refine v_get C 0 13 iuX4 rfl rfl (by decide) m3_66 rfl rfl dX4_count_53 ?_
      cases h
      exact hk _ _ dX4_count_56
    · refine v_aload_n C 0 dX4_count_57 rfl rfl ?_
      refine v_get C 0 12 iuX4 rfl rfl (by decide) m3_65 rfl rfl dX4_count_58 ?_
      cases h
      exact hk _ _ dX4_count_61
    · refine v_aload_n C 0 dX4_count_62 rfl rfl ?_
      obtain ⟨r, h1, h⟩ := bind_el h
      obtain ⟨r_4, rfl⟩ : ∃ z, z = r := ⟨_, rfl⟩
      try dsimp only at h
      refine v_callVi (As := []) (st := []) (wr := []) (w1 := (wM cI cJ aM thrown_M_3 pins_M many_M nets_M lefts_M rights_M touches_M below_M reach_M tracksOf_M steps_M laid_M laidMany_M tracks_M laidNet_M laidLeft_M laidRight_M laidTouch_M laidTrack_M ringSize_M ringOf_M lays_M refusals_M)) (ws' := (wM cI cJ aM thrown_M_3 pins_M many_M nets_M lefts_M rights_M touches_M below_M reach_M tracksOf_M steps_M laid_M laidMany_M tracks_M laidNet_M laidLeft_M laidRight_M laidTouch_M laidTrack_M ringSize_M ringOf_M lays_M refusals_M)) (isC := [0, 1, 2, 3, 4, 5, 6, 7, 8, 9, 10, 11, 12, 13, 14, 15]) (isR := []) (pm := [0, 1, 2, 3, 4, 5, 6, 7, 8, 9, 10, 11, 12, 13, 14, 15]) C (c_X4_vias l D cI cJ aM thrown_M_3 pins_M many_M nets_M lefts_M rights_M touches_M below_M reach_M tracksOf_M steps_M laid_M laidMany_M tracks_M laidNet_M laidLeft_M laidRight_M laidTouch_M laidTrack_M ringSize_M ringOf_M lays_M refusals_M r_4 h1) cw_X4_vias 0 rfl rfl m4_35 dX4_count_63 rfl ⟨Nat.le_of_ble_eq_true rfl, Nat.le_of_ble_eq_true rfl⟩ (Nat.le_of_ble_eq_true rfl) ⟨Nat.le_refl 0, Nat.le_refl 0⟩ ⟨rfl, rfl, rfl, rfl, by decide, rfl, rfl⟩ ?_
      cases h
      exact hk _ _ dX4_count_66
    · refine v_aload_n C 0 dX4_count_67 rfl rfl ?_
      refine v_get C 0 21 iuX4 rfl rfl (by decide) m3_74 rfl rfl dX4_count_68 ?_
      cases h
      exact hk _ _ dX4_count_71
    · refine v_aload_n C 0 dX4_count_72 rfl rfl ?_
      refine v_get C 0 22 iuX4 rfl rfl (by decide) m3_75 rfl rfl dX4_count_73 ?_
      cases h
      exact hk _ _ dX4_count_76
    · refine v_aload_n C 0 dX4_count_77 rfl rfl ?_
      refine v_get C 0 11 iuX4 rfl rfl (by decide) m3_64 rfl rfl dX4_count_78 ?_
      refine v_if_eq (tgt := 88) C dX4_count_81 (by decide) h (fun h => ?_) (fun h => ?_)
      · refine v_iconst (v := 0) C dX4_count_88 (by decide) ?_
        cases h
        exact hk _ _ dX4_count_89
      · refine v_iconst (v := 1) C dX4_count_84 (by decide) ?_
        refine v_goto (tgt := 89) C dX4_count_85 (by decide) ?_
        cases h
        exact hk _ _ dX4_count_89
  · refine v_iconst (v := 0) C dX4_count_13 (by decide) ?_
    cases h
    exact hk _ _ dX4_count_14
def f_X4_used_B19 (x2 : Int32) (laidMany_M : Int32) (laidNet_M : (Nat → Int32)) (laidLeft_M : (Nat → Int32)) (laidRight_M : (Nat → Int32)) (laidTrack_M : (Nat → Int32)) : (Int32 × Int32) → Option ((Int32 × Int32) ⊕ Int32)
  | (x1, x3) => if 20 ≤ x3 then (some (.inr x1)) else ((f_X4_levelAt laidMany_M laidNet_M laidLeft_M laidRight_M laidTrack_M x2 x3).bind (fun r => match r with | r_1 => if r_1 ≤ 0 then (some (.inl (x1, x3 + 1))) else (some (.inl (x1 + 1, x3 + 1)))))
def f_X4_used_B9 (laidMany_M : Int32) (tracks_M : Int32) (laidNet_M : (Nat → Int32)) (laidLeft_M : (Nat → Int32)) (laidRight_M : (Nat → Int32)) (laidTrack_M : (Nat → Int32)) : (Int32 × Int32) → Option ((Int32 × Int32) ⊕ Int32)
  | (x1, x2) => if tracks_M ≤ x2 then (some (.inr x1)) else ((lp (f_X4_used_B19 x2 laidMany_M laidNet_M laidLeft_M laidRight_M laidTrack_M) 64 (x1, 0)).bind (fun r => match r with | x1_2 => some (.inl (x1_2, x2 + 1))))
def f_X4_used (laidMany_M : Int32) (tracks_M : Int32) (laidNet_M : (Nat → Int32)) (laidLeft_M : (Nat → Int32)) (laidRight_M : (Nat → Int32)) (laidTrack_M : (Nat → Int32)) : Option (UInt32 × Int32) := (lp (f_X4_used_B9 laidMany_M tracks_M laidNet_M laidLeft_M laidRight_M laidTrack_M) 64 (0, 0)).bind (fun r => match r with | x1_3 => if tracks_M = 0 then (some (FP.fconst0, 0)) else (fnn (FP.fdiv (FP.i2f x1_3) (FP.i2f ((20 : Int32) * tracks_M))) (some ((FP.fdiv (FP.i2f x1_3) (FP.i2f ((20 : Int32) * tracks_M)), 0)))))
theorem cw_X4_used : CWv yX4_used cX4_used 4 (some .float) RX4 0 := ⟨m4_40, m4_41, m1_5, m4_42, rfl, by decide, by decide, by decide +kernel⟩
set_option maxHeartbeats 4000000 in
set_option maxRecDepth 100000 in
theorem t_X4_used_B19 {p : Program} {l : Launch} {e : Env} {s : State} {m : MethodId} {args : Array Value} {below : List Frame} {meth : Method} {c : Code} {D : va_G} {A : Nat → Prop} {cI cJ : ClassId} {Q : State → Prop} (C : Cx p s m args c cX4_used 4 RX4 D A cI cJ) {aM : Nat → Nat} {x2 : Int32} {thrown_M : Int32} {pins_M : (Nat → Int32)} {many_M : Int32} {nets_M : (Nat → Int32)} {lefts_M : (Nat → Int32)} {rights_M : (Nat → Int32)} {touches_M : (Nat → Int32)} {below_M : (Nat → Int64)} {reach_M : (Nat → Int64)} {tracksOf_M : (Nat → Int32)} {steps_M : (Nat → Int32)} {laid_M : Int32} {laidMany_M : Int32} {tracks_M : Int32} {laidNet_M : (Nat → Int32)} {laidLeft_M : (Nat → Int32)} {laidRight_M : (Nat → Int32)} {laidTouch_M : (Nat → Int32)} {laidTrack_M : (Nat → Int32)} {ringSize_M : Int32} {ringOf_M : (Nat → Int32)} {lays_M : Int32} {refusals_M : Int32} (s8 : (Int32 × Int32)) (o8 : (Int32 × Int32) ⊕ Int32) (h : f_X4_used_B19 x2 laidMany_M laidNet_M laidLeft_M laidRight_M laidTrack_M s8 = some o8) (hl : ∀ s8, o8 = .inl s8 → V p l e (rmO 2 46) s m args below meth c 4 D A 0 0 Q 19 [(0, .ref (aM 0)), (1, .int s8.1), (2, .int x2), (3, .int s8.2)] [] (wM cI cJ aM thrown_M pins_M many_M nets_M lefts_M rights_M touches_M below_M reach_M tracksOf_M steps_M laid_M laidMany_M tracks_M laidNet_M laidLeft_M laidRight_M laidTouch_M laidTrack_M ringSize_M ringOf_M lays_M refusals_M)) (hx : ∀ r8, o8 = .inr r8 → V p l e (rmO 2 46) s m args below meth c 4 D A 0 0 Q 48 [(0, .ref (aM 0)), (1, .int r8), (2, .int x2)] [] (wM cI cJ aM thrown_M pins_M many_M nets_M lefts_M rights_M touches_M below_M reach_M tracksOf_M steps_M laid_M laidMany_M tracks_M laidNet_M laidLeft_M laidRight_M laidTouch_M laidTrack_M ringSize_M ringOf_M lays_M refusals_M)) : V p l e (rmO 2 46) s m args below meth c 4 D A 0 0 Q 19 [(0, .ref (aM 0)), (1, .int s8.1), (2, .int x2), (3, .int s8.2)] [] (wM cI cJ aM thrown_M pins_M many_M nets_M lefts_M rights_M touches_M below_M reach_M tracksOf_M steps_M laid_M laidMany_M tracks_M laidNet_M laidLeft_M laidRight_M laidTouch_M laidTrack_M ringSize_M ringOf_M lays_M refusals_M) := by
  obtain ⟨x1, x3⟩ := s8
  unfold f_X4_used_B19 at h
  show V p l e (rmO 2 46) s m args below meth c 4 D A 0 0 Q 19 [(0, .ref (aM 0)), (1, .int x1), (2, .int x2), (3, .int x3)] [] (wM cI cJ aM thrown_M pins_M many_M nets_M lefts_M rights_M touches_M below_M reach_M tracksOf_M steps_M laid_M laidMany_M tracks_M laidNet_M laidLeft_M laidRight_M laidTouch_M laidTrack_M ringSize_M ringOf_M lays_M refusals_M)
  refine v_iload_n C 3 dX4_used_19 rfl rfl ?_
  refine v_bipush (v := 20) C dX4_used_20 (by decide) ?_
  refine v_icmp_ge (tgt := 48) C dX4_used_22 (by decide) h (fun h => ?_) (fun h => ?_)
  · refine v_perm [0, 1, 2] rfl ?_
    cases h
    exact hx _ rfl
  · refine v_aload_n C 0 dX4_used_25 rfl rfl ?_
    refine v_iload_n C 2 dX4_used_26 rfl rfl ?_
    refine v_iload_n C 3 dX4_used_27 rfl rfl ?_
    obtain ⟨r, h1, h⟩ := bind_el h
    obtain ⟨r_1, rfl⟩ : ∃ z, z = r := ⟨_, rfl⟩
    try dsimp only at h
    refine v_callVi (As := [.int x2, .int x3]) (st := []) (wr := []) (w1 := (wM cI cJ aM thrown_M pins_M many_M nets_M lefts_M rights_M touches_M below_M reach_M tracksOf_M steps_M laid_M laidMany_M tracks_M laidNet_M laidLeft_M laidRight_M laidTouch_M laidTrack_M ringSize_M ringOf_M lays_M refusals_M)) (ws' := (wM cI cJ aM thrown_M pins_M many_M nets_M lefts_M rights_M touches_M below_M reach_M tracksOf_M steps_M laid_M laidMany_M tracks_M laidNet_M laidLeft_M laidRight_M laidTouch_M laidTrack_M ringSize_M ringOf_M lays_M refusals_M)) (isC := [0, 1, 2, 3, 4, 5, 6, 7, 8, 9, 10, 11, 12, 13, 14, 15]) (isR := []) (pm := [0, 1, 2, 3, 4, 5, 6, 7, 8, 9, 10, 11, 12, 13, 14, 15]) C (c_X4_levelAt l D cI cJ aM thrown_M pins_M many_M nets_M lefts_M rights_M touches_M below_M reach_M tracksOf_M steps_M laid_M laidMany_M tracks_M laidNet_M laidLeft_M laidRight_M laidTouch_M laidTrack_M ringSize_M ringOf_M lays_M refusals_M x2 x3 r_1 h1) cw_X4_levelAt 0 rfl rfl m3_235 dX4_used_28 rfl ⟨Nat.le_of_ble_eq_true rfl, Nat.le_of_ble_eq_true rfl⟩ (Nat.le_of_ble_eq_true rfl) ⟨Nat.le_refl 0, Nat.le_refl 0⟩ ⟨rfl, rfl, rfl, rfl, by decide, rfl, rfl⟩ ?_
    refine v_if_le (tgt := 40) C dX4_used_31 (by decide) h (fun h => ?_) (fun h => ?_)
    · refine v_iload_n C 1 dX4_used_40 rfl rfl ?_
      refine v_istore_n C [(1, .int x1), (0, .ref (aM 0)), (2, .int x2), (3, .int x3)] dX4_used_41 rfl (by decide) rfl ?_
      refine v_iinc C [(3, .int (x3 + 1)), (1, .int x1), (0, .ref (aM 0)), (2, .int x2)] 3 dX4_used_42 rfl rfl (by decide) rfl ?_
      refine v_goto (tgt := 19) C dX4_used_45 (by decide) ?_
      refine v_perm [2, 1, 3, 0] rfl ?_
      cases h
      exact hl _ rfl
    · refine v_iload_n C 1 dX4_used_34 rfl rfl ?_
      refine v_iconst (v := 1) C dX4_used_35 (by decide) ?_
      refine v_iadd C dX4_used_36 ?_
      refine v_goto (tgt := 41) C dX4_used_37 (by decide) ?_
      refine v_istore_n C [(1, .int (x1 + 1)), (0, .ref (aM 0)), (2, .int x2), (3, .int x3)] dX4_used_41 rfl (by decide) rfl ?_
      refine v_iinc C [(3, .int (x3 + 1)), (1, .int (x1 + 1)), (0, .ref (aM 0)), (2, .int x2)] 3 dX4_used_42 rfl rfl (by decide) rfl ?_
      refine v_goto (tgt := 19) C dX4_used_45 (by decide) ?_
      refine v_perm [2, 1, 3, 0] rfl ?_
      cases h
      exact hl _ rfl
set_option maxHeartbeats 4000000 in
set_option maxRecDepth 100000 in
theorem t_X4_used_L19 {p : Program} {l : Launch} {e : Env} {s : State} {m : MethodId} {args : Array Value} {below : List Frame} {meth : Method} {c : Code} {D : va_G} {A : Nat → Prop} {cI cJ : ClassId} {Q : State → Prop} (C : Cx p s m args c cX4_used 4 RX4 D A cI cJ) {aM : Nat → Nat} {x2 : Int32} {thrown_M : Int32} {pins_M : (Nat → Int32)} {many_M : Int32} {nets_M : (Nat → Int32)} {lefts_M : (Nat → Int32)} {rights_M : (Nat → Int32)} {touches_M : (Nat → Int32)} {below_M : (Nat → Int64)} {reach_M : (Nat → Int64)} {tracksOf_M : (Nat → Int32)} {steps_M : (Nat → Int32)} {laid_M : Int32} {laidMany_M : Int32} {tracks_M : Int32} {laidNet_M : (Nat → Int32)} {laidLeft_M : (Nat → Int32)} {laidRight_M : (Nat → Int32)} {laidTouch_M : (Nat → Int32)} {laidTrack_M : (Nat → Int32)} {ringSize_M : Int32} {ringOf_M : (Nat → Int32)} {lays_M : Int32} {refusals_M : Int32} {n8 : Nat} {s9 : (Int32 × Int32)} {o8 : Int32} (h : lp (f_X4_used_B19 x2 laidMany_M laidNet_M laidLeft_M laidRight_M laidTrack_M) n8 s9 = some o8) (hk : V p l e (rmO 2 46) s m args below meth c 4 D A 0 0 Q 48 [(0, .ref (aM 0)), (1, .int o8), (2, .int x2)] [] (wM cI cJ aM thrown_M pins_M many_M nets_M lefts_M rights_M touches_M below_M reach_M tracksOf_M steps_M laid_M laidMany_M tracks_M laidNet_M laidLeft_M laidRight_M laidTouch_M laidTrack_M ringSize_M ringOf_M lays_M refusals_M)) : V p l e (rmO 2 46) s m args below meth c 4 D A 0 0 Q 19 [(0, .ref (aM 0)), (1, .int s9.1), (2, .int x2), (3, .int s9.2)] [] (wM cI cJ aM thrown_M pins_M many_M nets_M lefts_M rights_M touches_M below_M reach_M tracksOf_M steps_M laid_M laidMany_M tracks_M laidNet_M laidLeft_M laidRight_M laidTouch_M laidTrack_M ringSize_M ringOf_M lays_M refusals_M) := lp_ok (Pσ := fun s8 => V p l e (rmO 2 46) s m args below meth c 4 D A 0 0 Q 19 [(0, .ref (aM 0)), (1, .int s8.1), (2, .int x2), (3, .int s8.2)] [] (wM cI cJ aM thrown_M pins_M many_M nets_M lefts_M rights_M touches_M below_M reach_M tracksOf_M steps_M laid_M laidMany_M tracks_M laidNet_M laidLeft_M laidRight_M laidTouch_M laidTrack_M ringSize_M ringOf_M lays_M refusals_M)) (Pρ := fun r8 => V p l e (rmO 2 46) s m args below meth c 4 D A 0 0 Q 48 [(0, .ref (aM 0)), (1, .int r8), (2, .int x2)] [] (wM cI cJ aM thrown_M pins_M many_M nets_M lefts_M rights_M touches_M below_M reach_M tracksOf_M steps_M laid_M laidMany_M tracks_M laidNet_M laidLeft_M laidRight_M laidTouch_M laidTrack_M ringSize_M ringOf_M lays_M refusals_M)) (fun s o h hl hx => t_X4_used_B19 C s o h hl hx) n8 s9 o8 h hk
set_option maxHeartbeats 4000000 in
set_option maxRecDepth 100000 in
theorem t_X4_used_B9 {p : Program} {l : Launch} {e : Env} {s : State} {m : MethodId} {args : Array Value} {below : List Frame} {meth : Method} {c : Code} {D : va_G} {A : Nat → Prop} {cI cJ : ClassId} {Q : State → Prop} (C : Cx p s m args c cX4_used 4 RX4 D A cI cJ) {aM : Nat → Nat} {thrown_M : Int32} {pins_M : (Nat → Int32)} {many_M : Int32} {nets_M : (Nat → Int32)} {lefts_M : (Nat → Int32)} {rights_M : (Nat → Int32)} {touches_M : (Nat → Int32)} {below_M : (Nat → Int64)} {reach_M : (Nat → Int64)} {tracksOf_M : (Nat → Int32)} {steps_M : (Nat → Int32)} {laid_M : Int32} {laidMany_M : Int32} {tracks_M : Int32} {laidNet_M : (Nat → Int32)} {laidLeft_M : (Nat → Int32)} {laidRight_M : (Nat → Int32)} {laidTouch_M : (Nat → Int32)} {laidTrack_M : (Nat → Int32)} {ringSize_M : Int32} {ringOf_M : (Nat → Int32)} {lays_M : Int32} {refusals_M : Int32} (s8 : (Int32 × Int32)) (o8 : (Int32 × Int32) ⊕ Int32) (h : f_X4_used_B9 laidMany_M tracks_M laidNet_M laidLeft_M laidRight_M laidTrack_M s8 = some o8) (hl : ∀ s8, o8 = .inl s8 → V p l e (rmO 2 46) s m args below meth c 4 D A 0 0 Q 9 [(0, .ref (aM 0)), (1, .int s8.1), (2, .int s8.2)] [] (wM cI cJ aM thrown_M pins_M many_M nets_M lefts_M rights_M touches_M below_M reach_M tracksOf_M steps_M laid_M laidMany_M tracks_M laidNet_M laidLeft_M laidRight_M laidTouch_M laidTrack_M ringSize_M ringOf_M lays_M refusals_M)) (hx : ∀ r8, o8 = .inr r8 → V p l e (rmO 2 46) s m args below meth c 4 D A 0 0 Q 54 [(0, .ref (aM 0)), (1, .int r8)] [] (wM cI cJ aM thrown_M pins_M many_M nets_M lefts_M rights_M touches_M below_M reach_M tracksOf_M steps_M laid_M laidMany_M tracks_M laidNet_M laidLeft_M laidRight_M laidTouch_M laidTrack_M ringSize_M ringOf_M lays_M refusals_M)) : V p l e (rmO 2 46) s m args below meth c 4 D A 0 0 Q 9 [(0, .ref (aM 0)), (1, .int s8.1), (2, .int s8.2)] [] (wM cI cJ aM thrown_M pins_M many_M nets_M lefts_M rights_M touches_M below_M reach_M tracksOf_M steps_M laid_M laidMany_M tracks_M laidNet_M laidLeft_M laidRight_M laidTouch_M laidTrack_M ringSize_M ringOf_M lays_M refusals_M) := by
  obtain ⟨x1, x2⟩ := s8
  unfold f_X4_used_B9 at h
  show V p l e (rmO 2 46) s m args below meth c 4 D A 0 0 Q 9 [(0, .ref (aM 0)), (1, .int x1), (2, .int x2)] [] (wM cI cJ aM thrown_M pins_M many_M nets_M lefts_M rights_M touches_M below_M reach_M tracksOf_M steps_M laid_M laidMany_M tracks_M laidNet_M laidLeft_M laidRight_M laidTouch_M laidTrack_M ringSize_M ringOf_M lays_M refusals_M)
  refine v_iload_n C 2 dX4_used_9 rfl rfl ?_
  refine v_aload_n C 0 dX4_used_10 rfl rfl ?_
  refine v_get C 0 13 iuX4 rfl rfl (by decide) m3_66 rfl rfl dX4_used_11 ?_
  refine v_icmp_ge (tgt := 54) C dX4_used_14 (by decide) h (fun h => ?_) (fun h => ?_)
  · refine v_perm [0, 1] rfl ?_
    cases h
    exact hx _ rfl
  · refine v_iconst (v := 0) C dX4_used_17 (by decide) ?_
    refine v_istore_n C [(3, .int 0), (0, .ref (aM 0)), (1, .int x1), (2, .int x2)] dX4_used_18 rfl (by decide) rfl ?_
    obtain ⟨r, h1, h⟩ := bind_el h
    refine v_perm [1, 2, 3, 0] rfl ?_
    obtain ⟨x1_2, rfl⟩ : ∃ z, z = r := ⟨_, rfl⟩
    refine t_X4_used_L19 C (s9 := (x1, 0)) h1 ?_
    show V p l e (rmO 2 46) s m args below meth c 4 D A 0 0 Q 48 [(0, .ref (aM 0)), (1, .int x1_2), (2, .int x2)] [] (wM cI cJ aM thrown_M pins_M many_M nets_M lefts_M rights_M touches_M below_M reach_M tracksOf_M steps_M laid_M laidMany_M tracks_M laidNet_M laidLeft_M laidRight_M laidTouch_M laidTrack_M ringSize_M ringOf_M lays_M refusals_M)
    try dsimp only at h
    refine v_iinc C [(2, .int (x2 + 1)), (0, .ref (aM 0)), (1, .int x1_2)] 2 dX4_used_48 rfl rfl (by decide) rfl ?_
    refine v_goto (tgt := 9) C dX4_used_51 (by decide) ?_
    refine v_perm [1, 2, 0] rfl ?_
    cases h
    exact hl _ rfl
set_option maxHeartbeats 4000000 in
set_option maxRecDepth 100000 in
theorem t_X4_used_L9 {p : Program} {l : Launch} {e : Env} {s : State} {m : MethodId} {args : Array Value} {below : List Frame} {meth : Method} {c : Code} {D : va_G} {A : Nat → Prop} {cI cJ : ClassId} {Q : State → Prop} (C : Cx p s m args c cX4_used 4 RX4 D A cI cJ) {aM : Nat → Nat} {thrown_M : Int32} {pins_M : (Nat → Int32)} {many_M : Int32} {nets_M : (Nat → Int32)} {lefts_M : (Nat → Int32)} {rights_M : (Nat → Int32)} {touches_M : (Nat → Int32)} {below_M : (Nat → Int64)} {reach_M : (Nat → Int64)} {tracksOf_M : (Nat → Int32)} {steps_M : (Nat → Int32)} {laid_M : Int32} {laidMany_M : Int32} {tracks_M : Int32} {laidNet_M : (Nat → Int32)} {laidLeft_M : (Nat → Int32)} {laidRight_M : (Nat → Int32)} {laidTouch_M : (Nat → Int32)} {laidTrack_M : (Nat → Int32)} {ringSize_M : Int32} {ringOf_M : (Nat → Int32)} {lays_M : Int32} {refusals_M : Int32} {n8 : Nat} {s9 : (Int32 × Int32)} {o8 : Int32} (h : lp (f_X4_used_B9 laidMany_M tracks_M laidNet_M laidLeft_M laidRight_M laidTrack_M) n8 s9 = some o8) (hk : V p l e (rmO 2 46) s m args below meth c 4 D A 0 0 Q 54 [(0, .ref (aM 0)), (1, .int o8)] [] (wM cI cJ aM thrown_M pins_M many_M nets_M lefts_M rights_M touches_M below_M reach_M tracksOf_M steps_M laid_M laidMany_M tracks_M laidNet_M laidLeft_M laidRight_M laidTouch_M laidTrack_M ringSize_M ringOf_M lays_M refusals_M)) : V p l e (rmO 2 46) s m args below meth c 4 D A 0 0 Q 9 [(0, .ref (aM 0)), (1, .int s9.1), (2, .int s9.2)] [] (wM cI cJ aM thrown_M pins_M many_M nets_M lefts_M rights_M touches_M below_M reach_M tracksOf_M steps_M laid_M laidMany_M tracks_M laidNet_M laidLeft_M laidRight_M laidTouch_M laidTrack_M ringSize_M ringOf_M lays_M refusals_M) := lp_ok (Pσ := fun s8 => V p l e (rmO 2 46) s m args below meth c 4 D A 0 0 Q 9 [(0, .ref (aM 0)), (1, .int s8.1), (2, .int s8.2)] [] (wM cI cJ aM thrown_M pins_M many_M nets_M lefts_M rights_M touches_M below_M reach_M tracksOf_M steps_M laid_M laidMany_M tracks_M laidNet_M laidLeft_M laidRight_M laidTouch_M laidTrack_M ringSize_M ringOf_M lays_M refusals_M)) (Pρ := fun r8 => V p l e (rmO 2 46) s m args below meth c 4 D A 0 0 Q 54 [(0, .ref (aM 0)), (1, .int r8)] [] (wM cI cJ aM thrown_M pins_M many_M nets_M lefts_M rights_M touches_M below_M reach_M tracksOf_M steps_M laid_M laidMany_M tracks_M laidNet_M laidLeft_M laidRight_M laidTouch_M laidTrack_M ringSize_M ringOf_M lays_M refusals_M)) (fun s o h hl hx => t_X4_used_B9 C s o h hl hx) n8 s9 o8 h hk
set_option maxHeartbeats 4000000 in
set_option maxRecDepth 100000 in
theorem c_X4_used (l : Launch) (D : va_G) (cI cJ : ClassId) (aM : Nat → Nat) (thrown_M : Int32) (pins_M : (Nat → Int32)) (many_M : Int32) (nets_M : (Nat → Int32)) (lefts_M : (Nat → Int32)) (rights_M : (Nat → Int32)) (touches_M : (Nat → Int32)) (below_M : (Nat → Int64)) (reach_M : (Nat → Int64)) (tracksOf_M : (Nat → Int32)) (steps_M : (Nat → Int32)) (laid_M : Int32) (laidMany_M : Int32) (tracks_M : Int32) (laidNet_M : (Nat → Int32)) (laidLeft_M : (Nat → Int32)) (laidRight_M : (Nat → Int32)) (laidTouch_M : (Nat → Int32)) (laidTrack_M : (Nat → Int32)) (ringSize_M : Int32) (ringOf_M : (Nat → Int32)) (lays_M : Int32) (refusals_M : Int32) (r : UInt32) (thrown_M' : Int32) (h : f_X4_used laidMany_M tracks_M laidNet_M laidLeft_M laidRight_M laidTrack_M = some (r, thrown_M')) : Ctf l D cI cJ yX4_used cX4_used 4 (some .float) 2 46 [.ref (aM 0)] (wM cI cJ aM thrown_M pins_M many_M nets_M lefts_M rights_M touches_M below_M reach_M tracksOf_M steps_M laid_M laidMany_M tracks_M laidNet_M laidLeft_M laidRight_M laidTouch_M laidTrack_M ringSize_M ringOf_M lays_M refusals_M) (wM cI cJ aM thrown_M' pins_M many_M nets_M lefts_M rights_M touches_M below_M reach_M tracksOf_M steps_M laid_M laidMany_M tracks_M laidNet_M laidLeft_M laidRight_M laidTouch_M laidTrack_M ringSize_M ringOf_M lays_M refusals_M) r := by
  refine mk_f [(0, .ref (aM 0))] (by decide) rfl (Nat.le_of_ble_eq_true rfl) rfl (fun p e s m args below meth c A Q C hk => ?_)
  unfold f_X4_used at h
  refine v_aload_n C 0 dX4_used_0 rfl rfl ?_
  refine v_iconst (v := 0) C dX4_used_1 (by decide) ?_
  refine v_put C (wM cI cJ aM 0 pins_M many_M nets_M lefts_M rights_M touches_M below_M reach_M tracksOf_M steps_M laid_M laidMany_M tracks_M laidNet_M laidLeft_M laidRight_M laidTouch_M laidTrack_M ringSize_M ringOf_M lays_M refusals_M) 0 0 iuX4 tyX4_ok nmX4 rfl rfl (by decide) m3_53 rfl rfl rfl rfl rfl (Nat.le_of_ble_eq_true rfl) dX4_used_2 rfl ?_
  refine v_iconst (v := 0) C dX4_used_5 (by decide) ?_
  refine v_istore_n C [(1, .int 0), (0, .ref (aM 0))] dX4_used_6 rfl (by decide) rfl ?_
  refine v_iconst (v := 0) C dX4_used_7 (by decide) ?_
  refine v_istore_n C [(2, .int 0), (1, .int 0), (0, .ref (aM 0))] dX4_used_8 rfl (by decide) rfl ?_
  obtain ⟨r, h1, h⟩ := bind_el h
  refine v_perm [2, 1, 0] rfl ?_
  obtain ⟨x1_3, rfl⟩ : ∃ z, z = r := ⟨_, rfl⟩
  refine t_X4_used_L9 C (s9 := (0, 0)) h1 ?_
  show V p l e (rmO 2 46) s m args below meth c 4 D A 0 0 Q 54 [(0, .ref (aM 0)), (1, .int x1_3)] [] (wM cI cJ aM 0 pins_M many_M nets_M lefts_M rights_M touches_M below_M reach_M tracksOf_M steps_M laid_M laidMany_M tracks_M laidNet_M laidLeft_M laidRight_M laidTouch_M laidTrack_M ringSize_M ringOf_M lays_M refusals_M)
  try dsimp only at h
  refine v_aload_n C 0 dX4_used_54 rfl rfl ?_
  refine v_get C 0 13 iuX4 rfl rfl (by decide) m3_66 rfl rfl dX4_used_55 ?_
  refine v_if_ne (tgt := 63) C dX4_used_58 (by decide) h (fun h => ?_) (fun h => ?_)
  · refine v_fconst0 C dX4_used_61 ?_
    cases h
    exact hk _ _ dX4_used_62
  · refine v_iload_n C 1 dX4_used_63 rfl rfl ?_
    refine v_i2f C dX4_used_64 ?_
    refine v_fstore_n C [(2, .float (FP.i2f x1_3)), (0, .ref (aM 0)), (1, .int x1_3)] dX4_used_65 rfl (by decide) rfl ?_
    refine v_bipush (v := 20) C dX4_used_66 (by decide) ?_
    refine v_aload_n C 1 dX4_used_68 rfl rfl ?_
    refine v_get C 0 13 iuX4 rfl rfl (by decide) m3_66 rfl rfl dX4_used_69 ?_
    refine v_imul C dX4_used_72 ?_
    refine v_i2f C dX4_used_73 ?_
    refine v_fstore_n C [(3, .float (FP.i2f ((20 : Int32) * tracks_M))), (2, .float (FP.i2f x1_3)), (0, .ref (aM 0)), (1, .int x1_3)] dX4_used_74 rfl (by decide) rfl ?_
    refine v_fload_n C 1 dX4_used_75 rfl rfl ?_
    refine v_fload_n C 0 dX4_used_76 rfl rfl ?_
    refine v_fdiv C (fnn_el h).1 dX4_used_77 ?_
    replace h := (fnn_el h).2
    cases h
    exact hk _ _ dX4_used_78

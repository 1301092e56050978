def rm_X4_rests : Room := { frames := 1, cells := 0, slots := 0, locals := 23 }
theorem hd_X4_rests : yX4_rests.cls ≠ "java/lang/invoke/MethodHandle" ∧ yX4_rests.cls ≠ "java/lang/invoke/VarHandle" ∧ (parseMethodDescriptor yX4_rests.desc).map (fun d => d.parameters.length) = some 4 := by decide +kernel
abbrev wsX4_rests : List Cond := .code yX4_rests cX4_rests 4 (some .boolean) :: WALL
set_option maxRecDepth 100000 in
set_option maxHeartbeats 4000000 in
theorem l_X4_rests_b40 {p : Program} {l : Launch} {e : Env} {s : State} {m : MethodId} {args : Array Value} {below : List Frame} {meth : Method} {c : Code} {E : zE} {A : Nat → Prop} {o : Int32} (F : Nat) (a0 : Int32) (a1 : Int32) (a2 : Int32) (a3 : Int32) (C : zC p s m args c meth cX4_rests 4 RX4 wsX4_rests E A) (hr : meth.sig.returnType = some .boolean) : ∀  (s0 : Int32) (s1 : Int32), f_X4_rests_b40 F a0 a1 a2 a3 s0 s1 = some o → zG p l e rm_X4_rests s m args below meth c 4 E A 0 0 (MQ below (zQ E A (some (.int o)) []) args s 0 0 A) [] 40 [(1, .int a1), (3, .int a3)] [.int s1, .int s0] := by
  intro s0 s1 h
  rw [f_X4_rests_b40] at h
  refine z_iload_n C dX4_rests_40 rfl 0 rfl ?_
  refine z_iload_n C dX4_rests_41 rfl 1 rfl ?_
  obtain ⟨o7, ho8, h⟩ := bnd_some h
  refine z_callS (wc := []) (wr := []) (wc' := []) (ws2 := []) (As := [.int s1, .int a1, .int a3]) (st2 := [.int o7, .int s0]) C [] [] [] rfl rfl rfl rfl (by decide) rfl rfl (c_X4_toInspector F ho8) (goodST consT W_602 W_603 W_58 W_604) rfl rfl rfl hd_X4_toInspector ⟨Nat.le_of_ble_eq_true rfl, Nat.le_of_ble_eq_true rfl⟩ rfl rfl rfl (Nat.le_of_ble_eq_true rfl) dX4_rests_42 ⟨Nat.zero_le _, Nat.zero_le _⟩ ?_
  refine z_icmp_lt (tgt := 52) C dX4_rests_45 (by decide) (fun c => ?_) (fun c => ?_)
  · replace h := (if_pos c).symm.trans h
    refine z_iconst (v := (0 : Int32)) C dX4_rests_52 (by decide) ?_
    obtain rfl := Option.some.inj h
    exact z_zret (v := (0 : Int32)) C hr rfl dX4_rests_53
  · replace h := (if_neg c).symm.trans h
    refine z_iconst (v := (1 : Int32)) C dX4_rests_48 (by decide) ?_
    refine z_goto (tgt := 53) C dX4_rests_49 (by decide) ?_
    obtain rfl := Option.some.inj h
    exact z_zret (v := (1 : Int32)) C hr rfl dX4_rests_53
set_option maxRecDepth 100000 in
set_option maxHeartbeats 4000000 in
theorem l_X4_rests_b17 {p : Program} {l : Launch} {e : Env} {s : State} {m : MethodId} {args : Array Value} {below : List Frame} {meth : Method} {c : Code} {E : zE} {A : Nat → Prop} {o : Int32} (F : Nat) (a0 : Int32) (a1 : Int32) (a2 : Int32) (a3 : Int32) (C : zC p s m args c meth cX4_rests 4 RX4 wsX4_rests E A) (hr : meth.sig.returnType = some .boolean) : ∀  (s0 : Int32) (s1 : Int32) (s2 : Int32), f_X4_rests_b17 F a0 a1 a2 a3 s0 s1 s2 = some o → zG p l e rm_X4_rests s m args below meth c 4 E A 0 0 (MQ below (zQ E A (some (.int o)) []) args s 0 0 A) [] 17 [(0, .int a0), (1, .int a1), (2, .int a2), (3, .int a3)] [.int s2, .int s1, .int s0] := by
  intro s0 s1 s2 h
  rw [f_X4_rests_b17] at h
  refine z_iload_n C dX4_rests_17 rfl 2 rfl ?_
  refine z_iload_n C dX4_rests_18 rfl 3 rfl ?_
  obtain ⟨o3, ho4, h⟩ := bnd_some h
  refine z_callS (wc := []) (wr := []) (wc' := []) (ws2 := []) (As := [.int s1, .int s2, .int a2, .int a3]) (st2 := [.int o3, .int s0]) C [] [] [] rfl rfl rfl rfl (by decide) rfl rfl (c_X4_toWell F ho4) (goodST consT W_599 W_600 W_58 W_601) rfl rfl rfl hd_X4_toWell ⟨Nat.le_of_ble_eq_true rfl, Nat.le_of_ble_eq_true rfl⟩ rfl rfl rfl (Nat.le_of_ble_eq_true rfl) dX4_rests_19 ⟨Nat.zero_le _, Nat.zero_le _⟩ ?_
  refine z_icmp_lt (tgt := 52) C dX4_rests_22 (by decide) (fun c => ?_) (fun c => ?_)
  · replace h := (if_pos c).symm.trans h
    refine z_iconst (v := (0 : Int32)) C dX4_rests_52 (by decide) ?_
    obtain rfl := Option.some.inj h
    exact z_zret (v := (0 : Int32)) C hr rfl dX4_rests_53
  · replace h := (if_neg c).symm.trans h
    refine z_iload_n C dX4_rests_25 rfl 0 rfl ?_
    refine z_iload_n C dX4_rests_26 rfl 1 rfl ?_
    refine z_iload_n C dX4_rests_27 rfl 3 rfl ?_
    obtain ⟨o5, ho6, h⟩ := bnd_some h
    refine z_callS (wc := []) (wr := []) (wc' := []) (ws2 := []) (As := [.int a0, .int a1, .int a3]) (st2 := [.int o5]) C [] [] [] rfl rfl rfl rfl (by decide) rfl rfl (c_X4_toInspector F ho6) (goodST consT W_602 W_603 W_58 W_604) rfl rfl rfl hd_X4_toInspector ⟨Nat.le_of_ble_eq_true rfl, Nat.le_of_ble_eq_true rfl⟩ rfl rfl rfl (Nat.le_of_ble_eq_true rfl) dX4_rests_28 ⟨Nat.zero_le _, Nat.zero_le _⟩ ?_
    refine z_iload_n C dX4_rests_31 rfl 0 rfl ?_
    refine z_if_ne (tgt := 39) C dX4_rests_32 (by decide) (fun c => ?_) (fun c => ?_)
    · replace h := (if_neg c).symm.trans h
      refine z_iconst (v := (0 : Int32)) C dX4_rests_39 (by decide) ?_
      refine z_sub [1, 3] (L' := [(1, .int a1), (3, .int a3)]) rfl ?_
      exact (l_X4_rests_b40 F a0 a1 a2 a3 C hr) o5 (0 : Int32) h
    · replace h := (if_pos c).symm.trans h
      refine z_iconst (v := (1 : Int32)) C dX4_rests_35 (by decide) ?_
      refine z_goto (tgt := 40) C dX4_rests_36 (by decide) ?_
      refine z_sub [1, 3] (L' := [(1, .int a1), (3, .int a3)]) rfl ?_
      exact (l_X4_rests_b40 F a0 a1 a2 a3 C hr) o5 (1 : Int32) h
set_option maxRecDepth 100000 in
set_option maxHeartbeats 4000000 in
theorem c_X4_rests {l : Launch} {E : zE} {a0 : Int32} {a1 : Int32} {a2 : Int32} {a3 : Int32} {o : Int32} (F : Nat) (h : f_X4_rests F a0 a1 a2 a3 = some o) : zM l yX4_rests wsX4_rests rm_X4_rests E [.int a0, .int a1, .int a2, .int a3] [] (some (.int o)) [] := by
  refine zM.of (cc := cX4_rests) (maxL := 4) (ret := (some .boolean)) (by decide +kernel) rfl (Nat.le_of_ble_eq_true rfl) ?_
  intro p e s m args below meth c A C hr
  have C : zC p s m args c meth cX4_rests 4 RX4 wsX4_rests E A := C
  rw [f_X4_rests] at h
  refine z_iload_n C dX4_rests_0 rfl 0 rfl ?_
  refine z_iload_n C dX4_rests_1 rfl 1 rfl ?_
  refine z_iload_n C dX4_rests_2 rfl 2 rfl ?_
  refine z_iload_n C dX4_rests_3 rfl 3 rfl ?_
  obtain ⟨o1, ho2, h⟩ := bnd_some h
  refine z_callS (wc := []) (wr := []) (wc' := []) (ws2 := []) (As := [.int a0, .int a1, .int a2, .int a3]) (st2 := [.int o1]) C [] [] [] rfl rfl rfl rfl (by decide) rfl rfl (c_X4_toWell F ho2) (goodST consT W_599 W_600 W_58 W_601) rfl rfl rfl hd_X4_toWell ⟨Nat.le_of_ble_eq_true rfl, Nat.le_of_ble_eq_true rfl⟩ rfl rfl rfl (Nat.le_of_ble_eq_true rfl) dX4_rests_4 ⟨Nat.zero_le _, Nat.zero_le _⟩ ?_
  refine z_iload_n C dX4_rests_7 rfl 0 rfl ?_
  refine z_iload_n C dX4_rests_8 rfl 1 rfl ?_
  refine z_if_ne (tgt := 16) C dX4_rests_9 (by decide) (fun c => ?_) (fun c => ?_)
  · replace h := (if_neg c).symm.trans h
    refine z_iconst (v := (0 : Int32)) C dX4_rests_16 (by decide) ?_
    exact (l_X4_rests_b17 F a0 a1 a2 a3 C hr) o1 a0 (0 : Int32) h
  · replace h := (if_pos c).symm.trans h
    refine z_iconst (v := (1 : Int32)) C dX4_rests_12 (by decide) ?_
    refine z_goto (tgt := 17) C dX4_rests_13 (by decide) ?_
    exact (l_X4_rests_b17 F a0 a1 a2 a3 C hr) o1 a0 (1 : Int32) h
def rm_X4_inspector : Room := { frames := 4, cells := 0, slots := 0, locals := 93 }
theorem hd_X4_inspector : yX4_inspector.cls = yX4_inspector.cls ∧ yX4_inspector.cls ≠ "java/lang/invoke/MethodHandle" ∧ yX4_inspector.cls ≠ "java/lang/invoke/VarHandle" ∧ (parseMethodDescriptor yX4_inspector.desc).map (fun d => d.parameters.length) = some 2 := by decide +kernel
abbrev wsX4_inspector : List Cond := .code yX4_inspector cX4_inspector 7 (some .int) :: WALL
set_option maxRecDepth 100000 in
set_option maxHeartbeats 4000000 in
theorem l_X4_inspector_b18 {p : Program} {l : Launch} {e : Env} {s : State} {m : MethodId} {args : Array Value} {below : List Frame} {meth : Method} {c : Code} {E : zE} {A : Nat → Prop} {q_t q_t_now q_t_now_hours q_t_now_ahead q_t_now_kind q_t_now_wanted q_t_now_gets q_t_images q_t_search q_t_reader q_t_now_had q_t_now_due q_t_now_leftHour q_t_now_leftPressure q_t_now_note q_t_now_past : Nat} {t_above : Int32} {t_below : Int32} {t_fulls : Int32} {t_now_day : Int32} {t_now_lefts : Int32} {t_now_notes : Int32} {t_now_undos : Int32} {o : Int32 × Int32 × Int32 × Int32 × (Nat → Int32) × (Nat → Int32)} (F : Nat) (a1 : Int32) (a2 : Int32) (t_now_pressure : Int32) (t_now_wells : Int32) (t_now_hours : Nat → Int32) (t_now_kind : Nat → Int32) (t_now_wanted : Nat → Int32) (C : zC p s m args c meth cX4_inspector 7 RX4 wsX4_inspector E A) (hr : meth.sig.returnType = some .int) : ∀  (t_bads : Int32) (t_nos : Int32) (t_now_leftOver : Int32) (t_now_ahead : Nat → Int32) (t_now_gets : Nat → Int32), f_X4_inspector_b18 F a1 a2 t_now_pressure t_now_wells t_now_hours t_now_kind t_now_wanted t_bads t_nos t_now_leftOver t_now_ahead t_now_gets = some o → zG p l e rm_X4_inspector s m args below meth c 7 E A 0 0 (MQ below (zQ E A (some (.int o.1)) [(q_t, .inr (3, [.ref q_t_now, .ref q_t_images, .ref q_t_search, .ref q_t_reader, .int t_above, .int t_below, .int o.2.1, .int o.2.2.1, .int t_fulls])), (q_t_now, .inr (0, [.int t_now_pressure, .int t_now_day, .int t_now_wells, .int t_now_lefts, .int t_now_notes, .int t_now_undos, .ref q_t_now_kind, .ref q_t_now_wanted, .ref q_t_now_hours, .ref q_t_now_had, .ref q_t_now_due, .ref q_t_now_leftHour, .ref q_t_now_leftPressure, .ref q_t_now_note, .ref q_t_now_past, .ref q_t_now_ahead, .ref q_t_now_gets, .int o.2.2.2.1])), (q_t_now_hours, zI E 5 t_now_hours), (q_t_now_ahead, zI E 5 o.2.2.2.2.1), (q_t_now_kind, zI E 5 t_now_kind), (q_t_now_wanted, zI E 5 t_now_wanted), (q_t_now_gets, zI E 5 o.2.2.2.2.2)]) args s 0 0 A) [(q_t, .inr (3, [.ref q_t_now, .ref q_t_images, .ref q_t_search, .ref q_t_reader, .int t_above, .int t_below, .int t_bads, .int t_nos, .int t_fulls])), (q_t_now, .inr (0, [.int t_now_pressure, .int t_now_day, .int t_now_wells, .int t_now_lefts, .int t_now_notes, .int t_now_undos, .ref q_t_now_kind, .ref q_t_now_wanted, .ref q_t_now_hours, .ref q_t_now_had, .ref q_t_now_due, .ref q_t_now_leftHour, .ref q_t_now_leftPressure, .ref q_t_now_note, .ref q_t_now_past, .ref q_t_now_ahead, .ref q_t_now_gets, .int t_now_leftOver])), (q_t_now_hours, zI E 5 t_now_hours), (q_t_now_ahead, zI E 5 t_now_ahead), (q_t_now_kind, zI E 5 t_now_kind), (q_t_now_wanted, zI E 5 t_now_wanted), (q_t_now_gets, zI E 5 t_now_gets)] 18 [(0, .ref q_t)] [] := by
  intro t_bads t_nos t_now_leftOver t_now_ahead t_now_gets h
  rw [f_X4_inspector_b18] at h
  refine z_aload_n C dX4_inspector_18 rfl 0 rfl ?_
  obtain ⟨o12, ho13, h⟩ := bnd_some h
  refine z_callV (wc := [(q_t, .inr (3, [.ref q_t_now, .ref q_t_images, .ref q_t_search, .ref q_t_reader, .int t_above, .int t_below, .int t_bads, .int t_nos, .int t_fulls]))]) (wr := [(q_t_now, .inr (0, [.int t_now_pressure, .int t_now_day, .int t_now_wells, .int t_now_lefts, .int t_now_notes, .int t_now_undos, .ref q_t_now_kind, .ref q_t_now_wanted, .ref q_t_now_hours, .ref q_t_now_had, .ref q_t_now_due, .ref q_t_now_leftHour, .ref q_t_now_leftPressure, .ref q_t_now_note, .ref q_t_now_past, .ref q_t_now_ahead, .ref q_t_now_gets, .int t_now_leftOver])), (q_t_now_hours, zI E 5 t_now_hours), (q_t_now_ahead, zI E 5 t_now_ahead), (q_t_now_kind, zI E 5 t_now_kind), (q_t_now_wanted, zI E 5 t_now_wanted), (q_t_now_gets, zI E 5 t_now_gets)]) (wc' := [(q_t, .inr (3, [.ref q_t_now, .ref q_t_images, .ref q_t_search, .ref q_t_reader, .int t_above, .int t_below, .int o12.2, .int t_nos, .int t_fulls]))]) (ws2 := [(q_t, .inr (3, [.ref q_t_now, .ref q_t_images, .ref q_t_search, .ref q_t_reader, .int t_above, .int t_below, .int o12.2, .int t_nos, .int t_fulls])), (q_t_now, .inr (0, [.int t_now_pressure, .int t_now_day, .int t_now_wells, .int t_now_lefts, .int t_now_notes, .int t_now_undos, .ref q_t_now_kind, .ref q_t_now_wanted, .ref q_t_now_hours, .ref q_t_now_had, .ref q_t_now_due, .ref q_t_now_leftHour, .ref q_t_now_leftPressure, .ref q_t_now_note, .ref q_t_now_past, .ref q_t_now_ahead, .ref q_t_now_gets, .int t_now_leftOver])), (q_t_now_hours, zI E 5 t_now_hours), (q_t_now_ahead, zI E 5 t_now_ahead), (q_t_now_kind, zI E 5 t_now_kind), (q_t_now_wanted, zI E 5 t_now_wanted), (q_t_now_gets, zI E 5 t_now_gets)]) (As := []) (st2 := [.int o12.1]) C [0] [1, 2, 3, 4, 5, 6] [6, 0, 1, 2, 3, 4, 5] rfl rfl rfl rfl (by decide) rfl rfl (c_X4_bad F ho13) (goodVT consT W_264 W_266 W_0 W_58 W_267) rfl rfl rfl hd_X4_bad ⟨Nat.le_of_ble_eq_true rfl, Nat.le_of_ble_eq_true rfl⟩ rfl rfl rfl (j := 0) rfl rfl rfl (Nat.le_of_ble_eq_true rfl) dX4_inspector_19 ⟨Nat.zero_le _, Nat.zero_le _⟩ ?_
  obtain rfl := Option.some.inj h
  exact z_iret (v := o12.1) C hr dX4_inspector_22
set_option maxRecDepth 100000 in
set_option maxHeartbeats 4000000 in
theorem l_X4_inspector_b133 {p : Program} {l : Launch} {e : Env} {s : State} {m : MethodId} {args : Array Value} {below : List Frame} {meth : Method} {c : Code} {E : zE} {A : Nat → Prop} {q_t q_t_now q_t_now_hours q_t_now_ahead q_t_now_kind q_t_now_wanted q_t_now_gets q_t_images q_t_search q_t_reader q_t_now_had q_t_now_due q_t_now_leftHour q_t_now_leftPressure q_t_now_note q_t_now_past : Nat} {t_above : Int32} {t_below : Int32} {t_fulls : Int32} {t_now_day : Int32} {t_now_lefts : Int32} {t_now_notes : Int32} {t_now_undos : Int32} {o : Int32 × Int32 × Int32 × Int32 × (Nat → Int32) × (Nat → Int32)} (F : Nat) (a1 : Int32) (a2 : Int32) (t_now_pressure : Int32) (t_now_wells : Int32) (t_now_hours : Nat → Int32) (t_now_kind : Nat → Int32) (t_now_wanted : Nat → Int32) (K83 : Int32 → Int32 → Int32 → Int32 → Int32 → Int32 → Int32 → (Nat → Int32) → (Nat → Int32) → Option (Int32 × Int32 × Int32 × Int32 × (Nat → Int32) × (Nat → Int32))) (C : zC p s m args c meth cX4_inspector 7 RX4 wsX4_inspector E A) (hr : meth.sig.returnType = some .int) (hK83 : ∀ (v3 : Int32) (v4 : Int32) (v5 : Int32) (v6 : Int32) (t_bads : Int32) (t_nos : Int32) (t_now_leftOver : Int32) (t_now_ahead : Nat → Int32) (t_now_gets : Nat → Int32), K83 v3 v4 v5 v6 t_bads t_nos t_now_leftOver t_now_ahead t_now_gets = some o → zG p l e rm_X4_inspector s m args below meth c 7 E A 0 0 (MQ below (zQ E A (some (.int o.1)) [(q_t, .inr (3, [.ref q_t_now, .ref q_t_images, .ref q_t_search, .ref q_t_reader, .int t_above, .int t_below, .int o.2.1, .int o.2.2.1, .int t_fulls])), (q_t_now, .inr (0, [.int t_now_pressure, .int t_now_day, .int t_now_wells, .int t_now_lefts, .int t_now_notes, .int t_now_undos, .ref q_t_now_kind, .ref q_t_now_wanted, .ref q_t_now_hours, .ref q_t_now_had, .ref q_t_now_due, .ref q_t_now_leftHour, .ref q_t_now_leftPressure, .ref q_t_now_note, .ref q_t_now_past, .ref q_t_now_ahead, .ref q_t_now_gets, .int o.2.2.2.1])), (q_t_now_hours, zI E 5 t_now_hours), (q_t_now_ahead, zI E 5 o.2.2.2.2.1), (q_t_now_kind, zI E 5 t_now_kind), (q_t_now_wanted, zI E 5 t_now_wanted), (q_t_now_gets, zI E 5 o.2.2.2.2.2)]) args s 0 0 A) [(q_t, .inr (3, [.ref q_t_now, .ref q_t_images, .ref q_t_search, .ref q_t_reader, .int t_above, .int t_below, .int t_bads, .int t_nos, .int t_fulls])), (q_t_now, .inr (0, [.int t_now_pressure, .int t_now_day, .int t_now_wells, .int t_now_lefts, .int t_now_notes, .int t_now_undos, .ref q_t_now_kind, .ref q_t_now_wanted, .ref q_t_now_hours, .ref q_t_now_had, .ref q_t_now_due, .ref q_t_now_leftHour, .ref q_t_now_leftPressure, .ref q_t_now_note, .ref q_t_now_past, .ref q_t_now_ahead, .ref q_t_now_gets, .int t_now_leftOver])), (q_t_now_hours, zI E 5 t_now_hours), (q_t_now_ahead, zI E 5 t_now_ahead), (q_t_now_kind, zI E 5 t_now_kind), (q_t_now_wanted, zI E 5 t_now_wanted), (q_t_now_gets, zI E 5 t_now_gets)] 83 [(3, .int v3), (4, .int v4), (5, .int v5), (6, .int v6)] []) : ∀  (v3 : Int32) (v4 : Int32) (v5 : Int32) (v6 : Int32) (t_bads : Int32) (t_nos : Int32) (t_now_leftOver : Int32) (t_now_ahead : Nat → Int32) (t_now_gets : Nat → Int32), f_X4_inspector_b133 F a1 a2 t_now_pressure t_now_wells t_now_hours t_now_kind t_now_wanted K83 v3 v4 v5 v6 t_bads t_nos t_now_leftOver t_now_ahead t_now_gets = some o → zG p l e rm_X4_inspector s m args below meth c 7 E A 0 0 (MQ below (zQ E A (some (.int o.1)) [(q_t, .inr (3, [.ref q_t_now, .ref q_t_images, .ref q_t_search, .ref q_t_reader, .int t_above, .int t_below, .int o.2.1, .int o.2.2.1, .int t_fulls])), (q_t_now, .inr (0, [.int t_now_pressure, .int t_now_day, .int t_now_wells, .int t_now_lefts, .int t_now_notes, .int t_now_undos, .ref q_t_now_kind, .ref q_t_now_wanted, .ref q_t_now_hours, .ref q_t_now_had, .ref q_t_now_due, .ref q_t_now_leftHour, .ref q_t_now_leftPressure, .ref q_t_now_note, .ref q_t_now_past, .ref q_t_now_ahead, .ref q_t_now_gets, .int o.2.2.2.1])), (q_t_now_hours, zI E 5 t_now_hours), (q_t_now_ahead, zI E 5 o.2.2.2.2.1), (q_t_now_kind, zI E 5 t_now_kind), (q_t_now_wanted, zI E 5 t_now_wanted), (q_t_now_gets, zI E 5 o.2.2.2.2.2)]) args s 0 0 A) [(q_t, .inr (3, [.ref q_t_now, .ref q_t_images, .ref q_t_search, .ref q_t_reader, .int t_above, .int t_below, .int t_bads, .int t_nos, .int t_fulls])), (q_t_now, .inr (0, [.int t_now_pressure, .int t_now_day, .int t_now_wells, .int t_now_lefts, .int t_now_notes, .int t_now_undos, .ref q_t_now_kind, .ref q_t_now_wanted, .ref q_t_now_hours, .ref q_t_now_had, .ref q_t_now_due, .ref q_t_now_leftHour, .ref q_t_now_leftPressure, .ref q_t_now_note, .ref q_t_now_past, .ref q_t_now_ahead, .ref q_t_now_gets, .int t_now_leftOver])), (q_t_now_hours, zI E 5 t_now_hours), (q_t_now_ahead, zI E 5 t_now_ahead), (q_t_now_kind, zI E 5 t_now_kind), (q_t_now_wanted, zI E 5 t_now_wanted), (q_t_now_gets, zI E 5 t_now_gets)] 133 [(3, .int v3), (4, .int v4), (5, .int v5), (6, .int v6)] [] := by
  intro v3 v4 v5 v6 t_bads t_nos t_now_leftOver t_now_ahead t_now_gets h
  rw [f_X4_inspector_b133] at h
  refine z_iinc (v := v6 + (1 : Int32)) (L' := [(6, .int (v6 + (1 : Int32))), (3, .int v3), (4, .int v4), (5, .int v5)]) C dX4_inspector_133 3 rfl rfl (by decide) rfl ?_
  refine z_goto (tgt := 83) C dX4_inspector_136 (by decide) ?_
  refine z_sub [1, 2, 3, 0] (L' := [(3, .int v3), (4, .int v4), (5, .int v5), (6, .int (v6 + (1 : Int32)))]) rfl ?_
  exact hK83 v3 v4 v5 (v6 + (1 : Int32)) t_bads t_nos t_now_leftOver t_now_ahead t_now_gets h
set_option maxRecDepth 100000 in
set_option maxHeartbeats 4000000 in
theorem l_X4_inspector_b115 {p : Program} {l : Launch} {e : Env} {s : State} {m : MethodId} {args : Array Value} {below : List Frame} {meth : Method} {c : Code} {E : zE} {A : Nat → Prop} {q_t q_t_now q_t_now_hours q_t_now_ahead q_t_now_kind q_t_now_wanted q_t_now_gets q_t_images q_t_search q_t_reader q_t_now_had q_t_now_due q_t_now_leftHour q_t_now_leftPressure q_t_now_note q_t_now_past : Nat} {t_above : Int32} {t_below : Int32} {t_fulls : Int32} {t_now_day : Int32} {t_now_lefts : Int32} {t_now_notes : Int32} {t_now_undos : Int32} {o : Int32 × Int32 × Int32 × Int32 × (Nat → Int32) × (Nat → Int32)} (F : Nat) (a1 : Int32) (a2 : Int32) (t_now_pressure : Int32) (t_now_wells : Int32) (t_now_hours : Nat → Int32) (t_now_kind : Nat → Int32) (t_now_wanted : Nat → Int32) (K83 : Int32 → Int32 → Int32 → Int32 → Int32 → Int32 → Int32 → (Nat → Int32) → (Nat → Int32) → Option (Int32 × Int32 × Int32 × Int32 × (Nat → Int32) × (Nat → Int32))) (C : zC p s m args c meth cX4_inspector 7 RX4 wsX4_inspector E A) (hr : meth.sig.returnType = some .int) (hK83 : ∀ (v3 : Int32) (v4 : Int32) (v5 : Int32) (v6 : Int32) (t_bads : Int32) (t_nos : Int32) (t_now_leftOver : Int32) (t_now_ahead : Nat → Int32) (t_now_gets : Nat → Int32), K83 v3 v4 v5 v6 t_bads t_nos t_now_leftOver t_now_ahead t_now_gets = some o → zG p l e rm_X4_inspector s m args below meth c 7 E A 0 0 (MQ below (zQ E A (some (.int o.1)) [(q_t, .inr (3, [.ref q_t_now, .ref q_t_images, .ref q_t_search, .ref q_t_reader, .int t_above, .int t_below, .int o.2.1, .int o.2.2.1, .int t_fulls])), (q_t_now, .inr (0, [.int t_now_pressure, .int t_now_day, .int t_now_wells, .int t_now_lefts, .int t_now_notes, .int t_now_undos, .ref q_t_now_kind, .ref q_t_now_wanted, .ref q_t_now_hours, .ref q_t_now_had, .ref q_t_now_due, .ref q_t_now_leftHour, .ref q_t_now_leftPressure, .ref q_t_now_note, .ref q_t_now_past, .ref q_t_now_ahead, .ref q_t_now_gets, .int o.2.2.2.1])), (q_t_now_hours, zI E 5 t_now_hours), (q_t_now_ahead, zI E 5 o.2.2.2.2.1), (q_t_now_kind, zI E 5 t_now_kind), (q_t_now_wanted, zI E 5 t_now_wanted), (q_t_now_gets, zI E 5 o.2.2.2.2.2)]) args s 0 0 A) [(q_t, .inr (3, [.ref q_t_now, .ref q_t_images, .ref q_t_search, .ref q_t_reader, .int t_above, .int t_below, .int t_bads, .int t_nos, .int t_fulls])), (q_t_now, .inr (0, [.int t_now_pressure, .int t_now_day, .int t_now_wells, .int t_now_lefts, .int t_now_notes, .int t_now_undos, .ref q_t_now_kind, .ref q_t_now_wanted, .ref q_t_now_hours, .ref q_t_now_had, .ref q_t_now_due, .ref q_t_now_leftHour, .ref q_t_now_leftPressure, .ref q_t_now_note, .ref q_t_now_past, .ref q_t_now_ahead, .ref q_t_now_gets, .int t_now_leftOver])), (q_t_now_hours, zI E 5 t_now_hours), (q_t_now_ahead, zI E 5 t_now_ahead), (q_t_now_kind, zI E 5 t_now_kind), (q_t_now_wanted, zI E 5 t_now_wanted), (q_t_now_gets, zI E 5 t_now_gets)] 83 [(3, .int v3), (4, .int v4), (5, .int v5), (6, .int v6)] []) : ∀  (v3 : Int32) (v4 : Int32) (v5 : Int32) (v6 : Int32) (s0 : Int32) (s1 : Int32) (t_bads : Int32) (t_nos : Int32) (t_now_leftOver : Int32) (t_now_ahead : Nat → Int32) (t_now_gets : Nat → Int32), f_X4_inspector_b115 F a1 a2 t_now_pressure t_now_wells t_now_hours t_now_kind t_now_wanted K83 v3 v4 v5 v6 s0 s1 t_bads t_nos t_now_leftOver t_now_ahead t_now_gets = some o → zG p l e rm_X4_inspector s m args below meth c 7 E A 0 0 (MQ below (zQ E A (some (.int o.1)) [(q_t, .inr (3, [.ref q_t_now, .ref q_t_images, .ref q_t_search, .ref q_t_reader, .int t_above, .int t_below, .int o.2.1, .int o.2.2.1, .int t_fulls])), (q_t_now, .inr (0, [.int t_now_pressure, .int t_now_day, .int t_now_wells, .int t_now_lefts, .int t_now_notes, .int t_now_undos, .ref q_t_now_kind, .ref q_t_now_wanted, .ref q_t_now_hours, .ref q_t_now_had, .ref q_t_now_due, .ref q_t_now_leftHour, .ref q_t_now_leftPressure, .ref q_t_now_note, .ref q_t_now_past, .ref q_t_now_ahead, .ref q_t_now_gets, .int o.2.2.2.1])), (q_t_now_hours, zI E 5 t_now_hours), (q_t_now_ahead, zI E 5 o.2.2.2.2.1), (q_t_now_kind, zI E 5 t_now_kind), (q_t_now_wanted, zI E 5 t_now_wanted), (q_t_now_gets, zI E 5 o.2.2.2.2.2)]) args s 0 0 A) [(q_t, .inr (3, [.ref q_t_now, .ref q_t_images, .ref q_t_search, .ref q_t_reader, .int t_above, .int t_below, .int t_bads, .int t_nos, .int t_fulls])), (q_t_now, .inr (0, [.int t_now_pressure, .int t_now_day, .int t_now_wells, .int t_now_lefts, .int t_now_notes, .int t_now_undos, .ref q_t_now_kind, .ref q_t_now_wanted, .ref q_t_now_hours, .ref q_t_now_had, .ref q_t_now_due, .ref q_t_now_leftHour, .ref q_t_now_leftPressure, .ref q_t_now_note, .ref q_t_now_past, .ref q_t_now_ahead, .ref q_t_now_gets, .int t_now_leftOver])), (q_t_now_hours, zI E 5 t_now_hours), (q_t_now_ahead, zI E 5 t_now_ahead), (q_t_now_kind, zI E 5 t_now_kind), (q_t_now_wanted, zI E 5 t_now_wanted), (q_t_now_gets, zI E 5 t_now_gets)] 115 [(3, .int v3), (4, .int v4), (5, .int v5), (6, .int v6)] [.int s1, .int s0] := by
  intro v3 v4 v5 v6 s0 s1 t_bads t_nos t_now_leftOver t_now_ahead t_now_gets h
  rw [f_X4_inspector_b115] at h
  refine z_iload_n C dX4_inspector_115 rfl 0 rfl ?_
  refine z_iload C dX4_inspector_116 1 rfl ?_
  obtain ⟨o14, ho15, h⟩ := bnd_some h
  refine z_callS (wc := []) (wr := [(q_t, .inr (3, [.ref q_t_now, .ref q_t_images, .ref q_t_search, .ref q_t_reader, .int t_above, .int t_below, .int t_bads, .int t_nos, .int t_fulls])), (q_t_now, .inr (0, [.int t_now_pressure, .int t_now_day, .int t_now_wells, .int t_now_lefts, .int t_now_notes, .int t_now_undos, .ref q_t_now_kind, .ref q_t_now_wanted, .ref q_t_now_hours, .ref q_t_now_had, .ref q_t_now_due, .ref q_t_now_leftHour, .ref q_t_now_leftPressure, .ref q_t_now_note, .ref q_t_now_past, .ref q_t_now_ahead, .ref q_t_now_gets, .int t_now_leftOver])), (q_t_now_hours, zI E 5 t_now_hours), (q_t_now_ahead, zI E 5 t_now_ahead), (q_t_now_kind, zI E 5 t_now_kind), (q_t_now_wanted, zI E 5 t_now_wanted), (q_t_now_gets, zI E 5 t_now_gets)]) (wc' := []) (ws2 := [(q_t, .inr (3, [.ref q_t_now, .ref q_t_images, .ref q_t_search, .ref q_t_reader, .int t_above, .int t_below, .int t_bads, .int t_nos, .int t_fulls])), (q_t_now, .inr (0, [.int t_now_pressure, .int t_now_day, .int t_now_wells, .int t_now_lefts, .int t_now_notes, .int t_now_undos, .ref q_t_now_kind, .ref q_t_now_wanted, .ref q_t_now_hours, .ref q_t_now_had, .ref q_t_now_due, .ref q_t_now_leftHour, .ref q_t_now_leftPressure, .ref q_t_now_note, .ref q_t_now_past, .ref q_t_now_ahead, .ref q_t_now_gets, .int t_now_leftOver])), (q_t_now_hours, zI E 5 t_now_hours), (q_t_now_ahead, zI E 5 t_now_ahead), (q_t_now_kind, zI E 5 t_now_kind), (q_t_now_wanted, zI E 5 t_now_wanted), (q_t_now_gets, zI E 5 t_now_gets)]) (As := [.int s0, .int s1, .int v3, .int v4]) (st2 := [.int o14]) C [] [0, 1, 2, 3, 4, 5, 6] [0, 1, 2, 3, 4, 5, 6] rfl rfl rfl rfl (by decide) rfl rfl (c_X4_rests F ho15) (goodST consT W_596 W_597 W_58 W_598) rfl rfl rfl hd_X4_rests ⟨Nat.le_of_ble_eq_true rfl, Nat.le_of_ble_eq_true rfl⟩ rfl rfl rfl (Nat.le_of_ble_eq_true rfl) dX4_inspector_118 ⟨Nat.zero_le _, Nat.zero_le _⟩ ?_
  refine z_if_eq (tgt := 133) C dX4_inspector_121 (by decide) (fun c => ?_) (fun c => ?_)
  · replace h := (if_pos c).symm.trans h
    exact (l_X4_inspector_b133 F a1 a2 t_now_pressure t_now_wells t_now_hours t_now_kind t_now_wanted K83 C hr hK83) v3 v4 v5 v6 t_bads t_nos t_now_leftOver t_now_ahead t_now_gets h
  · replace h := (if_neg c).symm.trans h
    refine z_iload C dX4_inspector_124 2 rfl ?_
    refine z_iconst (v := (1 : Int32)) C dX4_inspector_126 (by decide) ?_
    refine z_iload C dX4_inspector_127 3 rfl ?_
    refine z_ishl C dX4_inspector_129 ?_
    refine z_ior C dX4_inspector_130 ?_
    refine z_istore (L' := [(5, .int (v5 ||| ((1 : Int32) <<< (v6 &&& 31)))), (3, .int v3), (4, .int v4), (6, .int v6)]) C dX4_inspector_131 (by decide) rfl ?_
    refine z_sub [1, 2, 0, 3] (L' := [(3, .int v3), (4, .int v4), (5, .int (v5 ||| ((1 : Int32) <<< (v6 &&& 31)))), (6, .int v6)]) rfl ?_
    exact (l_X4_inspector_b133 F a1 a2 t_now_pressure t_now_wells t_now_hours t_now_kind t_now_wanted K83 C hr hK83) v3 v4 (v5 ||| ((1 : Int32) <<< (v6 &&& 31))) v6 t_bads t_nos t_now_leftOver t_now_ahead t_now_gets h
set_option maxRecDepth 100000 in
set_option maxHeartbeats 4000000 in
theorem l_X4_inspector_b102 {p : Program} {l : Launch} {e : Env} {s : State} {m : MethodId} {args : Array Value} {below : List Frame} {meth : Method} {c : Code} {E : zE} {A : Nat → Prop} {q_t q_t_now q_t_now_hours q_t_now_ahead q_t_now_kind q_t_now_wanted q_t_now_gets q_t_images q_t_search q_t_reader q_t_now_had q_t_now_due q_t_now_leftHour q_t_now_leftPressure q_t_now_note q_t_now_past : Nat} {t_above : Int32} {t_below : Int32} {t_fulls : Int32} {t_now_day : Int32} {t_now_lefts : Int32} {t_now_notes : Int32} {t_now_undos : Int32} {o : Int32 × Int32 × Int32 × Int32 × (Nat → Int32) × (Nat → Int32)} (F : Nat) (a1 : Int32) (a2 : Int32) (t_now_pressure : Int32) (t_now_wells : Int32) (t_now_hours : Nat → Int32) (t_now_kind : Nat → Int32) (t_now_wanted : Nat → Int32) (K83 : Int32 → Int32 → Int32 → Int32 → Int32 → Int32 → Int32 → (Nat → Int32) → (Nat → Int32) → Option (Int32 × Int32 × Int32 × Int32 × (Nat → Int32) × (Nat → Int32))) (C : zC p s m args c meth cX4_inspector 7 RX4 wsX4_inspector E A) (hr : meth.sig.returnType = some .int) (hK83 : ∀ (v3 : Int32) (v4 : Int32) (v5 : Int32) (v6 : Int32) (t_bads : Int32) (t_nos : Int32) (t_now_leftOver : Int32) (t_now_ahead : Nat → Int32) (t_now_gets : Nat → Int32), K83 v3 v4 v5 v6 t_bads t_nos t_now_leftOver t_now_ahead t_now_gets = some o → zG p l e rm_X4_inspector s m args below meth c 7 E A 0 0 (MQ below (zQ E A (some (.int o.1)) [(q_t, .inr (3, [.ref q_t_now, .ref q_t_images, .ref q_t_search, .ref q_t_reader, .int t_above, .int t_below, .int o.2.1, .int o.2.2.1, .int t_fulls])), (q_t_now, .inr (0, [.int t_now_pressure, .int t_now_day, .int t_now_wells, .int t_now_lefts, .int t_now_notes, .int t_now_undos, .ref q_t_now_kind, .ref q_t_now_wanted, .ref q_t_now_hours, .ref q_t_now_had, .ref q_t_now_due, .ref q_t_now_leftHour, .ref q_t_now_leftPressure, .ref q_t_now_note, .ref q_t_now_past, .ref q_t_now_ahead, .ref q_t_now_gets, .int o.2.2.2.1])), (q_t_now_hours, zI E 5 t_now_hours), (q_t_now_ahead, zI E 5 o.2.2.2.2.1), (q_t_now_kind, zI E 5 t_now_kind), (q_t_now_wanted, zI E 5 t_now_wanted), (q_t_now_gets, zI E 5 o.2.2.2.2.2)]) args s 0 0 A) [(q_t, .inr (3, [.ref q_t_now, .ref q_t_images, .ref q_t_search, .ref q_t_reader, .int t_above, .int t_below, .int t_bads, .int t_nos, .int t_fulls])), (q_t_now, .inr (0, [.int t_now_pressure, .int t_now_day, .int t_now_wells, .int t_now_lefts, .int t_now_notes, .int t_now_undos, .ref q_t_now_kind, .ref q_t_now_wanted, .ref q_t_now_hours, .ref q_t_now_had, .ref q_t_now_due, .ref q_t_now_leftHour, .ref q_t_now_leftPressure, .ref q_t_now_note, .ref q_t_now_past, .ref q_t_now_ahead, .ref q_t_now_gets, .int t_now_leftOver])), (q_t_now_hours, zI E 5 t_now_hours), (q_t_now_ahead, zI E 5 t_now_ahead), (q_t_now_kind, zI E 5 t_now_kind), (q_t_now_wanted, zI E 5 t_now_wanted), (q_t_now_gets, zI E 5 t_now_gets)] 83 [(3, .int v3), (4, .int v4), (5, .int v5), (6, .int v6)] []) : ∀  (v3 : Int32) (v4 : Int32) (v5 : Int32) (v6 : Int32) (s0 : Int32) (t_bads : Int32) (t_nos : Int32) (t_now_leftOver : Int32) (t_now_ahead : Nat → Int32) (t_now_gets : Nat → Int32), f_X4_inspector_b102 F a1 a2 t_now_pressure t_now_wells t_now_hours t_now_kind t_now_wanted K83 v3 v4 v5 v6 s0 t_bads t_nos t_now_leftOver t_now_ahead t_now_gets = some o → zG p l e rm_X4_inspector s m args below meth c 7 E A 0 0 (MQ below (zQ E A (some (.int o.1)) [(q_t, .inr (3, [.ref q_t_now, .ref q_t_images, .ref q_t_search, .ref q_t_reader, .int t_above, .int t_below, .int o.2.1, .int o.2.2.1, .int t_fulls])), (q_t_now, .inr (0, [.int t_now_pressure, .int t_now_day, .int t_now_wells, .int t_now_lefts, .int t_now_notes, .int t_now_undos, .ref q_t_now_kind, .ref q_t_now_wanted, .ref q_t_now_hours, .ref q_t_now_had, .ref q_t_now_due, .ref q_t_now_leftHour, .ref q_t_now_leftPressure, .ref q_t_now_note, .ref q_t_now_past, .ref q_t_now_ahead, .ref q_t_now_gets, .int o.2.2.2.1])), (q_t_now_hours, zI E 5 t_now_hours), (q_t_now_ahead, zI E 5 o.2.2.2.2.1), (q_t_now_kind, zI E 5 t_now_kind), (q_t_now_wanted, zI E 5 t_now_wanted), (q_t_now_gets, zI E 5 o.2.2.2.2.2)]) args s 0 0 A) [(q_t, .inr (3, [.ref q_t_now, .ref q_t_images, .ref q_t_search, .ref q_t_reader, .int t_above, .int t_below, .int t_bads, .int t_nos, .int t_fulls])), (q_t_now, .inr (0, [.int t_now_pressure, .int t_now_day, .int t_now_wells, .int t_now_lefts, .int t_now_notes, .int t_now_undos, .ref q_t_now_kind, .ref q_t_now_wanted, .ref q_t_now_hours, .ref q_t_now_had, .ref q_t_now_due, .ref q_t_now_leftHour, .ref q_t_now_leftPressure, .ref q_t_now_note, .ref q_t_now_past, .ref q_t_now_ahead, .ref q_t_now_gets, .int t_now_leftOver])), (q_t_now_hours, zI E 5 t_now_hours), (q_t_now_ahead, zI E 5 t_now_ahead), (q_t_now_kind, zI E 5 t_now_kind), (q_t_now_wanted, zI E 5 t_now_wanted), (q_t_now_gets, zI E 5 t_now_gets)] 102 [(3, .int v3), (4, .int v4), (5, .int v5), (6, .int v6)] [.int s0] := by
  intro v3 v4 v5 v6 s0 t_bads t_nos t_now_leftOver t_now_ahead t_now_gets h
  rw [f_X4_inspector_b102] at h
  refine z_iload C dX4_inspector_102 3 rfl ?_
  refine z_iconst (v := (2 : Int32)) C dX4_inspector_104 (by decide) ?_
  refine z_iand C dX4_inspector_105 ?_
  refine z_iconst (v := (2 : Int32)) C dX4_inspector_106 (by decide) ?_
  refine z_icmp_ne (tgt := 114) C dX4_inspector_107 (by decide) (fun c => ?_) (fun c => ?_)
  · replace h := (if_neg c).symm.trans h
    refine z_iconst (v := (0 : Int32)) C dX4_inspector_114 (by decide) ?_
    exact (l_X4_inspector_b115 F a1 a2 t_now_pressure t_now_wells t_now_hours t_now_kind t_now_wanted K83 C hr hK83) v3 v4 v5 v6 s0 (0 : Int32) t_bads t_nos t_now_leftOver t_now_ahead t_now_gets h
  · replace h := (if_pos c).symm.trans h
    refine z_iconst (v := (1 : Int32)) C dX4_inspector_110 (by decide) ?_
    refine z_goto (tgt := 115) C dX4_inspector_111 (by decide) ?_
    exact (l_X4_inspector_b115 F a1 a2 t_now_pressure t_now_wells t_now_hours t_now_kind t_now_wanted K83 C hr hK83) v3 v4 v5 v6 s0 (1 : Int32) t_bads t_nos t_now_leftOver t_now_ahead t_now_gets h
set_option maxRecDepth 100000 in
set_option maxHeartbeats 4000000 in
theorem l_X4_inspector_b83 {p : Program} {l : Launch} {e : Env} {s : State} {m : MethodId} {args : Array Value} {below : List Frame} {meth : Method} {c : Code} {E : zE} {A : Nat → Prop} {q_t q_t_now q_t_now_hours q_t_now_ahead q_t_now_kind q_t_now_wanted q_t_now_gets q_t_images q_t_search q_t_reader q_t_now_had q_t_now_due q_t_now_leftHour q_t_now_leftPressure q_t_now_note q_t_now_past : Nat} {t_above : Int32} {t_below : Int32} {t_fulls : Int32} {t_now_day : Int32} {t_now_lefts : Int32} {t_now_notes : Int32} {t_now_undos : Int32} {o : Int32 × Int32 × Int32 × Int32 × (Nat → Int32) × (Nat → Int32)} (F : Nat) (a1 : Int32) (a2 : Int32) (t_now_pressure : Int32) (t_now_wells : Int32) (t_now_hours : Nat → Int32) (t_now_kind : Nat → Int32) (t_now_wanted : Nat → Int32) (C : zC p s m args c meth cX4_inspector 7 RX4 wsX4_inspector E A) (hr : meth.sig.returnType = some .int) : ∀ (n : Nat) (v3 : Int32) (v4 : Int32) (v5 : Int32) (v6 : Int32) (t_bads : Int32) (t_nos : Int32) (t_now_leftOver : Int32) (t_now_ahead : Nat → Int32) (t_now_gets : Nat → Int32), f_X4_inspector_b83 F a1 a2 t_now_pressure t_now_wells t_now_hours t_now_kind t_now_wanted n v3 v4 v5 v6 t_bads t_nos t_now_leftOver t_now_ahead t_now_gets = some o → zG p l e rm_X4_inspector s m args below meth c 7 E A 0 0 (MQ below (zQ E A (some (.int o.1)) [(q_t, .inr (3, [.ref q_t_now, .ref q_t_images, .ref q_t_search, .ref q_t_reader, .int t_above, .int t_below, .int o.2.1, .int o.2.2.1, .int t_fulls])), (q_t_now, .inr (0, [.int t_now_pressure, .int t_now_day, .int t_now_wells, .int t_now_lefts, .int t_now_notes, .int t_now_undos, .ref q_t_now_kind, .ref q_t_now_wanted, .ref q_t_now_hours, .ref q_t_now_had, .ref q_t_now_due, .ref q_t_now_leftHour, .ref q_t_now_leftPressure, .ref q_t_now_note, .ref q_t_now_past, .ref q_t_now_ahead, .ref q_t_now_gets, .int o.2.2.2.1])), (q_t_now_hours, zI E 5 t_now_hours), (q_t_now_ahead, zI E 5 o.2.2.2.2.1), (q_t_now_kind, zI E 5 t_now_kind), (q_t_now_wanted, zI E 5 t_now_wanted), (q_t_now_gets, zI E 5 o.2.2.2.2.2)]) args s 0 0 A) [(q_t, .inr (3, [.ref q_t_now, .ref q_t_images, .ref q_t_search, .ref q_t_reader, .int t_above, .int t_below, .int t_bads, .int t_nos, .int t_fulls])), (q_t_now, .inr (0, [.int t_now_pressure, .int t_now_day, .int t_now_wells, .int t_now_lefts, .int t_now_notes, .int t_now_undos, .ref q_t_now_kind, .ref q_t_now_wanted, .ref q_t_now_hours, .ref q_t_now_had, .ref q_t_now_due, .ref q_t_now_leftHour, .ref q_t_now_leftPressure, .ref q_t_now_note, .ref q_t_now_past, .ref q_t_now_ahead, .ref q_t_now_gets, .int t_now_leftOver])), (q_t_now_hours, zI E 5 t_now_hours), (q_t_now_ahead, zI E 5 t_now_ahead), (q_t_now_kind, zI E 5 t_now_kind), (q_t_now_wanted, zI E 5 t_now_wanted), (q_t_now_gets, zI E 5 t_now_gets)] 83 [(3, .int v3), (4, .int v4), (5, .int v5), (6, .int v6)] [] := by
  intro n
  induction n with
  | zero =>
    intro v3 v4 v5 v6 t_bads t_nos t_now_leftOver t_now_ahead t_now_gets h
    rw [f_X4_inspector_b83] at h
    cases h
  | succ n ih =>
    intro v3 v4 v5 v6 t_bads t_nos t_now_leftOver t_now_ahead t_now_gets h
    rw [f_X4_inspector_b83] at h
    refine z_iload C dX4_inspector_83 3 rfl ?_
    refine z_iconst (v := (4 : Int32)) C dX4_inspector_85 (by decide) ?_
    refine z_icmp_ge (tgt := 139) C dX4_inspector_86 (by decide) (fun c => ?_) (fun c => ?_)
    · replace h := (if_pos c).symm.trans h
      refine z_iload C dX4_inspector_139 2 rfl ?_
      obtain rfl := Option.some.inj h
      exact z_iret (v := v5) C hr dX4_inspector_141
    · replace h := (if_neg c).symm.trans h
      refine z_iload C dX4_inspector_89 3 rfl ?_
      refine z_iconst (v := (1 : Int32)) C dX4_inspector_91 (by decide) ?_
      refine z_iand C dX4_inspector_92 ?_
      refine z_iconst (v := (1 : Int32)) C dX4_inspector_93 (by decide) ?_
      refine z_icmp_ne (tgt := 101) C dX4_inspector_94 (by decide) (fun c => ?_) (fun c => ?_)
      · replace h := (if_neg c).symm.trans h
        refine z_iconst (v := (0 : Int32)) C dX4_inspector_101 (by decide) ?_
        exact (l_X4_inspector_b102 F a1 a2 t_now_pressure t_now_wells t_now_hours t_now_kind t_now_wanted (f_X4_inspector_b83 F a1 a2 t_now_pressure t_now_wells t_now_hours t_now_kind t_now_wanted n) C hr ih) v3 v4 v5 v6 (0 : Int32) t_bads t_nos t_now_leftOver t_now_ahead t_now_gets h
      · replace h := (if_pos c).symm.trans h
        refine z_iconst (v := (1 : Int32)) C dX4_inspector_97 (by decide) ?_
        refine z_goto (tgt := 102) C dX4_inspector_98 (by decide) ?_
        exact (l_X4_inspector_b102 F a1 a2 t_now_pressure t_now_wells t_now_hours t_now_kind t_now_wanted (f_X4_inspector_b83 F a1 a2 t_now_pressure t_now_wells t_now_hours t_now_kind t_now_wanted n) C hr ih) v3 v4 v5 v6 (1 : Int32) t_bads t_nos t_now_leftOver t_now_ahead t_now_gets h
set_option maxRecDepth 100000 in
set_option maxHeartbeats 4000000 in
theorem l_X4_inspector_b75 {p : Program} {l : Launch} {e : Env} {s : State} {m : MethodId} {args : Array Value} {below : List Frame} {meth : Method} {c : Code} {E : zE} {A : Nat → Prop} {q_t q_t_now q_t_now_hours q_t_now_ahead q_t_now_kind q_t_now_wanted q_t_now_gets q_t_images q_t_search q_t_reader q_t_now_had q_t_now_due q_t_now_leftHour q_t_now_leftPressure q_t_now_note q_t_now_past : Nat} {t_above : Int32} {t_below : Int32} {t_fulls : Int32} {t_now_day : Int32} {t_now_lefts : Int32} {t_now_notes : Int32} {t_now_undos : Int32} {o : Int32 × Int32 × Int32 × Int32 × (Nat → Int32) × (Nat → Int32)} (F : Nat) (a1 : Int32) (a2 : Int32) (t_now_pressure : Int32) (t_now_wells : Int32) (t_now_hours : Nat → Int32) (t_now_kind : Nat → Int32) (t_now_wanted : Nat → Int32) (C : zC p s m args c meth cX4_inspector 7 RX4 wsX4_inspector E A) (hr : meth.sig.returnType = some .int) : ∀  (v3 : Int32) (s0 : Int32) (t_bads : Int32) (t_nos : Int32) (t_now_leftOver : Int32) (t_now_ahead : Nat → Int32) (t_now_gets : Nat → Int32), f_X4_inspector_b75 F a1 a2 t_now_pressure t_now_wells t_now_hours t_now_kind t_now_wanted v3 s0 t_bads t_nos t_now_leftOver t_now_ahead t_now_gets = some o → zG p l e rm_X4_inspector s m args below meth c 7 E A 0 0 (MQ below (zQ E A (some (.int o.1)) [(q_t, .inr (3, [.ref q_t_now, .ref q_t_images, .ref q_t_search, .ref q_t_reader, .int t_above, .int t_below, .int o.2.1, .int o.2.2.1, .int t_fulls])), (q_t_now, .inr (0, [.int t_now_pressure, .int t_now_day, .int t_now_wells, .int t_now_lefts, .int t_now_notes, .int t_now_undos, .ref q_t_now_kind, .ref q_t_now_wanted, .ref q_t_now_hours, .ref q_t_now_had, .ref q_t_now_due, .ref q_t_now_leftHour, .ref q_t_now_leftPressure, .ref q_t_now_note, .ref q_t_now_past, .ref q_t_now_ahead, .ref q_t_now_gets, .int o.2.2.2.1])), (q_t_now_hours, zI E 5 t_now_hours), (q_t_now_ahead, zI E 5 o.2.2.2.2.1), (q_t_now_kind, zI E 5 t_now_kind), (q_t_now_wanted, zI E 5 t_now_wanted), (q_t_now_gets, zI E 5 o.2.2.2.2.2)]) args s 0 0 A) [(q_t, .inr (3, [.ref q_t_now, .ref q_t_images, .ref q_t_search, .ref q_t_reader, .int t_above, .int t_below, .int t_bads, .int t_nos, .int t_fulls])), (q_t_now, .inr (0, [.int t_now_pressure, .int t_now_day, .int t_now_wells, .int t_now_lefts, .int t_now_notes, .int t_now_undos, .ref q_t_now_kind, .ref q_t_now_wanted, .ref q_t_now_hours, .ref q_t_now_had, .ref q_t_now_due, .ref q_t_now_leftHour, .ref q_t_now_leftPressure, .ref q_t_now_note, .ref q_t_now_past, .ref q_t_now_ahead, .ref q_t_now_gets, .int t_now_leftOver])), (q_t_now_hours, zI E 5 t_now_hours), (q_t_now_ahead, zI E 5 t_now_ahead), (q_t_now_kind, zI E 5 t_now_kind), (q_t_now_wanted, zI E 5 t_now_wanted), (q_t_now_gets, zI E 5 t_now_gets)] 75 [(3, .int v3)] [.int s0] := by
  intro v3 s0 t_bads t_nos t_now_leftOver t_now_ahead t_now_gets h
  rw [f_X4_inspector_b75] at h
  refine z_istore (L' := [(4, .int s0), (3, .int v3)]) C dX4_inspector_75 (by decide) rfl ?_
  refine z_iconst (v := (0 : Int32)) C dX4_inspector_77 (by decide) ?_
  refine z_istore (L' := [(5, .int (0 : Int32)), (4, .int s0), (3, .int v3)]) C dX4_inspector_78 (by decide) rfl ?_
  refine z_iconst (v := (0 : Int32)) C dX4_inspector_80 (by decide) ?_
  refine z_istore (L' := [(6, .int (0 : Int32)), (5, .int (0 : Int32)), (4, .int s0), (3, .int v3)]) C dX4_inspector_81 (by decide) rfl ?_
  refine z_sub [3, 2, 1, 0] (L' := [(3, .int v3), (4, .int s0), (5, .int (0 : Int32)), (6, .int (0 : Int32))]) rfl ?_
  exact (l_X4_inspector_b83 F a1 a2 t_now_pressure t_now_wells t_now_hours t_now_kind t_now_wanted C hr F) v3 s0 (0 : Int32) (0 : Int32) t_bads t_nos t_now_leftOver t_now_ahead t_now_gets h
set_option maxRecDepth 100000 in
set_option maxHeartbeats 4000000 in
theorem c_X4_inspector {l : Launch} {E : zE} {q_t q_t_now q_t_now_hours q_t_now_ahead q_t_now_kind q_t_now_wanted q_t_now_gets q_t_images q_t_search q_t_reader q_t_now_had q_t_now_due q_t_now_leftHour q_t_now_leftPressure q_t_now_note q_t_now_past : Nat} {t_above : Int32} {t_below : Int32} {t_fulls : Int32} {t_now_day : Int32} {t_now_lefts : Int32} {t_now_notes : Int32} {t_now_undos : Int32} {a1 : Int32} {a2 : Int32} {t_now_pressure : Int32} {t_now_wells : Int32} {t_now_hours : Nat → Int32} {t_now_kind : Nat → Int32} {t_now_wanted : Nat → Int32} {t_bads : Int32} {t_nos : Int32} {t_now_leftOver : Int32} {t_now_ahead : Nat → Int32} {t_now_gets : Nat → Int32} {o : Int32 × Int32 × Int32 × Int32 × (Nat → Int32) × (Nat → Int32)} (F : Nat) (h : f_X4_inspector F a1 a2 t_now_pressure t_now_wells t_now_hours t_now_kind t_now_wanted t_bads t_nos t_now_leftOver t_now_ahead t_now_gets = some o) : zM l yX4_inspector wsX4_inspector rm_X4_inspector E [.ref q_t, .int a1, .int a2] [(q_t, .inr (3, [.ref q_t_now, .ref q_t_images, .ref q_t_search, .ref q_t_reader, .int t_above, .int t_below, .int t_bads, .int t_nos, .int t_fulls])), (q_t_now, .inr (0, [.int t_now_pressure, .int t_now_day, .int t_now_wells, .int t_now_lefts, .int t_now_notes, .int t_now_undos, .ref q_t_now_kind, .ref q_t_now_wanted, .ref q_t_now_hours, .ref q_t_now_had, .ref q_t_now_due, .ref q_t_now_leftHour, .ref q_t_now_leftPressure, .ref q_t_now_note, .ref q_t_now_past, .ref q_t_now_ahead, .ref q_t_now_gets, .int t_now_leftOver])), (q_t_now_hours, zI E 5 t_now_hours), (q_t_now_ahead, zI E 5 t_now_ahead), (q_t_now_kind, zI E 5 t_now_kind), (q_t_now_wanted, zI E 5 t_now_wanted), (q_t_now_gets, zI E 5 t_now_gets)] (some (.int o.1)) [(q_t, .inr (3, [.ref q_t_now, .ref q_t_images, .ref q_t_search, .ref q_t_reader, .int t_above, .int t_below, .int o.2.1, .int o.2.2.1, .int t_fulls])), (q_t_now, .inr (0, [.int t_now_pressure, .int t_now_day, .int t_now_wells, .int t_now_lefts, .int t_now_notes, .int t_now_undos, .ref q_t_now_kind, .ref q_t_now_wanted, .ref q_t_now_hours, .ref q_t_now_had, .ref q_t_now_due, .ref q_t_now_leftHour, .ref q_t_now_leftPressure, .ref q_t_now_note, .ref q_t_now_past, .ref q_t_now_ahead, .ref q_t_now_gets, .int o.2.2.2.1])), (q_t_now_hours, zI E 5 t_now_hours), (q_t_now_ahead, zI E 5 o.2.2.2.2.1), (q_t_now_kind, zI E 5 t_now_kind), (q_t_now_wanted, zI E 5 t_now_wanted), (q_t_now_gets, zI E 5 o.2.2.2.2.2)] := by
  refine zM.of (cc := cX4_inspector) (maxL := 7) (ret := (some .int)) (by decide +kernel) rfl (Nat.le_of_ble_eq_true rfl) ?_
  intro p e s m args below meth c A C hr
  have C : zC p s m args c meth cX4_inspector 7 RX4 wsX4_inspector E A := C
  rw [f_X4_inspector] at h
  refine z_aload_n C dX4_inspector_0 rfl 0 rfl ?_
  refine z_get C inT_X4 0 rfl rfl 0 (by decide) rfl (mc W_226) rfl dX4_inspector_1 ?_
  refine z_iload_n C dX4_inspector_4 rfl 1 rfl ?_
  obtain ⟨o1, ho2, h⟩ := bnd_some h
  refine z_callV (wc := [(q_t_now, .inr (0, [.int t_now_pressure, .int t_now_day, .int t_now_wells, .int t_now_lefts, .int t_now_notes, .int t_now_undos, .ref q_t_now_kind, .ref q_t_now_wanted, .ref q_t_now_hours, .ref q_t_now_had, .ref q_t_now_due, .ref q_t_now_leftHour, .ref q_t_now_leftPressure, .ref q_t_now_note, .ref q_t_now_past, .ref q_t_now_ahead, .ref q_t_now_gets, .int t_now_leftOver]))]) (wr := [(q_t, .inr (3, [.ref q_t_now, .ref q_t_images, .ref q_t_search, .ref q_t_reader, .int t_above, .int t_below, .int t_bads, .int t_nos, .int t_fulls])), (q_t_now_hours, zI E 5 t_now_hours), (q_t_now_ahead, zI E 5 t_now_ahead), (q_t_now_kind, zI E 5 t_now_kind), (q_t_now_wanted, zI E 5 t_now_wanted), (q_t_now_gets, zI E 5 t_now_gets)]) (wc' := [(q_t_now, .inr (0, [.int t_now_pressure, .int t_now_day, .int t_now_wells, .int t_now_lefts, .int t_now_notes, .int t_now_undos, .ref q_t_now_kind, .ref q_t_now_wanted, .ref q_t_now_hours, .ref q_t_now_had, .ref q_t_now_due, .ref q_t_now_leftHour, .ref q_t_now_leftPressure, .ref q_t_now_note, .ref q_t_now_past, .ref q_t_now_ahead, .ref q_t_now_gets, .int t_now_leftOver]))]) (ws2 := [(q_t, .inr (3, [.ref q_t_now, .ref q_t_images, .ref q_t_search, .ref q_t_reader, .int t_above, .int t_below, .int t_bads, .int t_nos, .int t_fulls])), (q_t_now, .inr (0, [.int t_now_pressure, .int t_now_day, .int t_now_wells, .int t_now_lefts, .int t_now_notes, .int t_now_undos, .ref q_t_now_kind, .ref q_t_now_wanted, .ref q_t_now_hours, .ref q_t_now_had, .ref q_t_now_due, .ref q_t_now_leftHour, .ref q_t_now_leftPressure, .ref q_t_now_note, .ref q_t_now_past, .ref q_t_now_ahead, .ref q_t_now_gets, .int t_now_leftOver])), (q_t_now_hours, zI E 5 t_now_hours), (q_t_now_ahead, zI E 5 t_now_ahead), (q_t_now_kind, zI E 5 t_now_kind), (q_t_now_wanted, zI E 5 t_now_wanted), (q_t_now_gets, zI E 5 t_now_gets)]) (As := [.int a1]) (st2 := [.int o1]) C [1] [0, 2, 3, 4, 5, 6] [0, 6, 1, 2, 3, 4, 5] rfl rfl rfl rfl (by decide) rfl rfl (c_X1_has F ho2) (goodVT consT W_404 W_405 W_406 W_59 W_407) rfl rfl rfl hd_X1_has ⟨Nat.le_of_ble_eq_true rfl, Nat.le_of_ble_eq_true rfl⟩ rfl rfl rfl (j := 0) rfl rfl rfl (Nat.le_of_ble_eq_true rfl) dX4_inspector_5 ⟨Nat.zero_le _, Nat.zero_le _⟩ ?_
  refine z_if_eq (tgt := 18) C dX4_inspector_8 (by decide) (fun c => ?_) (fun c => ?_)
  · replace h := (if_pos c).symm.trans h
    refine z_sub [0] (L' := [(0, .ref q_t)]) rfl ?_
    exact (l_X4_inspector_b18 F a1 a2 t_now_pressure t_now_wells t_now_hours t_now_kind t_now_wanted C hr) t_bads t_nos t_now_leftOver t_now_ahead t_now_gets h
  · replace h := (if_neg c).symm.trans h
    refine z_iload_n C dX4_inspector_11 rfl 2 rfl ?_
    obtain ⟨o3, ho4, h⟩ := bnd_some h
    refine z_callS (wc := []) (wr := [(q_t, .inr (3, [.ref q_t_now, .ref q_t_images, .ref q_t_search, .ref q_t_reader, .int t_above, .int t_below, .int t_bads, .int t_nos, .int t_fulls])), (q_t_now, .inr (0, [.int t_now_pressure, .int t_now_day, .int t_now_wells, .int t_now_lefts, .int t_now_notes, .int t_now_undos, .ref q_t_now_kind, .ref q_t_now_wanted, .ref q_t_now_hours, .ref q_t_now_had, .ref q_t_now_due, .ref q_t_now_leftHour, .ref q_t_now_leftPressure, .ref q_t_now_note, .ref q_t_now_past, .ref q_t_now_ahead, .ref q_t_now_gets, .int t_now_leftOver])), (q_t_now_hours, zI E 5 t_now_hours), (q_t_now_ahead, zI E 5 t_now_ahead), (q_t_now_kind, zI E 5 t_now_kind), (q_t_now_wanted, zI E 5 t_now_wanted), (q_t_now_gets, zI E 5 t_now_gets)]) (wc' := []) (ws2 := [(q_t, .inr (3, [.ref q_t_now, .ref q_t_images, .ref q_t_search, .ref q_t_reader, .int t_above, .int t_below, .int t_bads, .int t_nos, .int t_fulls])), (q_t_now, .inr (0, [.int t_now_pressure, .int t_now_day, .int t_now_wells, .int t_now_lefts, .int t_now_notes, .int t_now_undos, .ref q_t_now_kind, .ref q_t_now_wanted, .ref q_t_now_hours, .ref q_t_now_had, .ref q_t_now_due, .ref q_t_now_leftHour, .ref q_t_now_leftPressure, .ref q_t_now_note, .ref q_t_now_past, .ref q_t_now_ahead, .ref q_t_now_gets, .int t_now_leftOver])), (q_t_now_hours, zI E 5 t_now_hours), (q_t_now_ahead, zI E 5 t_now_ahead), (q_t_now_kind, zI E 5 t_now_kind), (q_t_now_wanted, zI E 5 t_now_wanted), (q_t_now_gets, zI E 5 t_now_gets)]) (As := [.int a2]) (st2 := [.int o3]) C [] [0, 1, 2, 3, 4, 5, 6] [0, 1, 2, 3, 4, 5, 6] rfl rfl rfl rfl (by decide) rfl rfl (c_X4_isHour F ho4) (goodST consT W_436 W_437 W_58 W_438) rfl rfl rfl hd_X4_isHour ⟨Nat.le_of_ble_eq_true rfl, Nat.le_of_ble_eq_true rfl⟩ rfl rfl rfl (Nat.le_of_ble_eq_true rfl) dX4_inspector_12 ⟨Nat.zero_le _, Nat.zero_le _⟩ ?_
    refine z_if_ne (tgt := 23) C dX4_inspector_15 (by decide) (fun c => ?_) (fun c => ?_)
    · replace h := (if_neg c).symm.trans h
      refine z_aload_n C dX4_inspector_23 rfl 0 rfl ?_
      refine z_get C inT_X4 0 rfl rfl 0 (by decide) rfl (mc W_226) rfl dX4_inspector_24 ?_
      refine z_iload_n C dX4_inspector_27 rfl 1 rfl ?_
      refine z_iload_n C dX4_inspector_28 rfl 2 rfl ?_
      obtain ⟨o5, ho6, h⟩ := bnd_some h
      refine z_callV (wc := [(q_t_now, .inr (0, [.int t_now_pressure, .int t_now_day, .int t_now_wells, .int t_now_lefts, .int t_now_notes, .int t_now_undos, .ref q_t_now_kind, .ref q_t_now_wanted, .ref q_t_now_hours, .ref q_t_now_had, .ref q_t_now_due, .ref q_t_now_leftHour, .ref q_t_now_leftPressure, .ref q_t_now_note, .ref q_t_now_past, .ref q_t_now_ahead, .ref q_t_now_gets, .int t_now_leftOver])), (q_t_now_hours, zI E 5 t_now_hours)]) (wr := [(q_t, .inr (3, [.ref q_t_now, .ref q_t_images, .ref q_t_search, .ref q_t_reader, .int t_above, .int t_below, .int t_bads, .int t_nos, .int t_fulls])), (q_t_now_ahead, zI E 5 t_now_ahead), (q_t_now_kind, zI E 5 t_now_kind), (q_t_now_wanted, zI E 5 t_now_wanted), (q_t_now_gets, zI E 5 t_now_gets)]) (wc' := [(q_t_now, .inr (0, [.int t_now_pressure, .int t_now_day, .int t_now_wells, .int t_now_lefts, .int t_now_notes, .int t_now_undos, .ref q_t_now_kind, .ref q_t_now_wanted, .ref q_t_now_hours, .ref q_t_now_had, .ref q_t_now_due, .ref q_t_now_leftHour, .ref q_t_now_leftPressure, .ref q_t_now_note, .ref q_t_now_past, .ref q_t_now_ahead, .ref q_t_now_gets, .int t_now_leftOver])), (q_t_now_hours, zI E 5 t_now_hours)]) (ws2 := [(q_t, .inr (3, [.ref q_t_now, .ref q_t_images, .ref q_t_search, .ref q_t_reader, .int t_above, .int t_below, .int t_bads, .int t_nos, .int t_fulls])), (q_t_now, .inr (0, [.int t_now_pressure, .int t_now_day, .int t_now_wells, .int t_now_lefts, .int t_now_notes, .int t_now_undos, .ref q_t_now_kind, .ref q_t_now_wanted, .ref q_t_now_hours, .ref q_t_now_had, .ref q_t_now_due, .ref q_t_now_leftHour, .ref q_t_now_leftPressure, .ref q_t_now_note, .ref q_t_now_past, .ref q_t_now_ahead, .ref q_t_now_gets, .int t_now_leftOver])), (q_t_now_hours, zI E 5 t_now_hours), (q_t_now_ahead, zI E 5 t_now_ahead), (q_t_now_kind, zI E 5 t_now_kind), (q_t_now_wanted, zI E 5 t_now_wanted), (q_t_now_gets, zI E 5 t_now_gets)]) (As := [.int a1, .int a2]) (st2 := [.int o5]) C [1, 2] [0, 3, 4, 5, 6] [0, 5, 6, 1, 2, 3, 4] rfl rfl rfl rfl (by decide) rfl rfl (c_X1_isOpen F ho6) (goodVT consT W_595 W_368 W_369 W_59 W_370) rfl rfl rfl hd_X1_isOpen ⟨Nat.le_of_ble_eq_true rfl, Nat.le_of_ble_eq_true rfl⟩ rfl rfl rfl (j := 0) rfl rfl rfl (Nat.le_of_ble_eq_true rfl) dX4_inspector_29 ⟨Nat.zero_le _, Nat.zero_le _⟩ ?_
      refine z_if_ne (tgt := 40) C dX4_inspector_32 (by decide) (fun c => ?_) (fun c => ?_)
      · replace h := (if_neg c).symm.trans h
        refine z_aload_n C dX4_inspector_40 rfl 0 rfl ?_
        refine z_get C inT_X4 0 rfl rfl 0 (by decide) rfl (mc W_226) rfl dX4_inspector_41 ?_
        refine z_iload_n C dX4_inspector_44 rfl 1 rfl ?_
        refine z_iload_n C dX4_inspector_45 rfl 2 rfl ?_
        refine z_aload_n C dX4_inspector_46 rfl 0 rfl ?_
        refine z_get C inT_X4 0 rfl rfl 0 (by decide) rfl (mc W_226) rfl dX4_inspector_47 ?_
        refine z_get C inT_X1 1 rfl rfl 0 (by decide) rfl (mc W_83) rfl dX4_inspector_50 ?_
        obtain ⟨o7, ho8, h⟩ := bnd_some h
        refine z_callV (wc := [(q_t_now, .inr (0, [.int t_now_pressure, .int t_now_day, .int t_now_wells, .int t_now_lefts, .int t_now_notes, .int t_now_undos, .ref q_t_now_kind, .ref q_t_now_wanted, .ref q_t_now_hours, .ref q_t_now_had, .ref q_t_now_due, .ref q_t_now_leftHour, .ref q_t_now_leftPressure, .ref q_t_now_note, .ref q_t_now_past, .ref q_t_now_ahead, .ref q_t_now_gets, .int t_now_leftOver])), (q_t_now_hours, zI E 5 t_now_hours), (q_t_now_ahead, zI E 5 t_now_ahead), (q_t_now_kind, zI E 5 t_now_kind), (q_t_now_wanted, zI E 5 t_now_wanted), (q_t_now_gets, zI E 5 t_now_gets)]) (wr := [(q_t, .inr (3, [.ref q_t_now, .ref q_t_images, .ref q_t_search, .ref q_t_reader, .int t_above, .int t_below, .int t_bads, .int t_nos, .int t_fulls]))]) (wc' := [(q_t_now, .inr (0, [.int t_now_pressure, .int t_now_day, .int t_now_wells, .int t_now_lefts, .int t_now_notes, .int t_now_undos, .ref q_t_now_kind, .ref q_t_now_wanted, .ref q_t_now_hours, .ref q_t_now_had, .ref q_t_now_due, .ref q_t_now_leftHour, .ref q_t_now_leftPressure, .ref q_t_now_note, .ref q_t_now_past, .ref q_t_now_ahead, .ref q_t_now_gets, .int o7.2.1])), (q_t_now_hours, zI E 5 t_now_hours), (q_t_now_ahead, zI E 5 o7.2.2.1), (q_t_now_kind, zI E 5 t_now_kind), (q_t_now_wanted, zI E 5 t_now_wanted), (q_t_now_gets, zI E 5 o7.2.2.2)]) (ws2 := [(q_t, .inr (3, [.ref q_t_now, .ref q_t_images, .ref q_t_search, .ref q_t_reader, .int t_above, .int t_below, .int t_bads, .int t_nos, .int t_fulls])), (q_t_now, .inr (0, [.int t_now_pressure, .int t_now_day, .int t_now_wells, .int t_now_lefts, .int t_now_notes, .int t_now_undos, .ref q_t_now_kind, .ref q_t_now_wanted, .ref q_t_now_hours, .ref q_t_now_had, .ref q_t_now_due, .ref q_t_now_leftHour, .ref q_t_now_leftPressure, .ref q_t_now_note, .ref q_t_now_past, .ref q_t_now_ahead, .ref q_t_now_gets, .int o7.2.1])), (q_t_now_hours, zI E 5 t_now_hours), (q_t_now_ahead, zI E 5 o7.2.2.1), (q_t_now_kind, zI E 5 t_now_kind), (q_t_now_wanted, zI E 5 t_now_wanted), (q_t_now_gets, zI E 5 o7.2.2.2)]) (As := [.int a1, .int a2, .int t_now_pressure]) (st2 := [.int o7.1]) C [1, 2, 3, 4, 5, 6] [0] [0, 1, 2, 3, 4, 5, 6] rfl rfl rfl rfl (by decide) rfl rfl (c_X1_getsAt F ho8) (goodVT consT W_517 W_462 W_463 W_59 W_464) rfl rfl rfl hd_X1_getsAt ⟨Nat.le_of_ble_eq_true rfl, Nat.le_of_ble_eq_true rfl⟩ rfl rfl rfl (j := 0) rfl rfl rfl (Nat.le_of_ble_eq_true rfl) dX4_inspector_53 ⟨Nat.zero_le _, Nat.zero_le _⟩ ?_
        refine z_istore_n (L' := [(3, .int o7.1), (0, .ref q_t), (1, .int a1), (2, .int a2)]) C dX4_inspector_56 rfl (by decide) rfl ?_
        refine z_aload_n C dX4_inspector_57 rfl 1 rfl ?_
        refine z_get C inT_X4 0 rfl rfl 0 (by decide) rfl (mc W_226) rfl dX4_inspector_58 ?_
        refine z_get C inT_X1 1 rfl rfl 6 (by decide) rfl (mc W_98) rfl dX4_inspector_61 ?_
        refine z_iload_n C dX4_inspector_64 rfl 2 rfl ?_
        obtain ⟨c9, h⟩ := chk_some h
        refine z_iald C 4 rfl c9 dX4_inspector_65 ?_
        refine z_iconst (v := (3 : Int32)) C dX4_inspector_66 (by decide) ?_
        refine z_icmp_ne (tgt := 74) C dX4_inspector_67 (by decide) (fun c => ?_) (fun c => ?_)
        · replace h := (if_neg c).symm.trans h
          refine z_iconst (v := (0 : Int32)) C dX4_inspector_74 (by decide) ?_
          refine z_sub [0] (L' := [(3, .int o7.1)]) rfl ?_
          exact (l_X4_inspector_b75 F a1 a2 t_now_pressure t_now_wells t_now_hours t_now_kind t_now_wanted C hr) o7.1 (0 : Int32) t_bads t_nos o7.2.1 o7.2.2.1 o7.2.2.2 h
        · replace h := (if_pos c).symm.trans h
          refine z_iconst (v := (1 : Int32)) C dX4_inspector_70 (by decide) ?_
          refine z_goto (tgt := 75) C dX4_inspector_71 (by decide) ?_
          refine z_sub [0] (L' := [(3, .int o7.1)]) rfl ?_
          exact (l_X4_inspector_b75 F a1 a2 t_now_pressure t_now_wells t_now_hours t_now_kind t_now_wanted C hr) o7.1 (1 : Int32) t_bads t_nos o7.2.1 o7.2.2.1 o7.2.2.2 h
      · replace h := (if_pos c).symm.trans h
        refine z_aload_n C dX4_inspector_35 rfl 0 rfl ?_
        obtain ⟨o10, ho11, h⟩ := bnd_some h
        refine z_callV (wc := [(q_t, .inr (3, [.ref q_t_now, .ref q_t_images, .ref q_t_search, .ref q_t_reader, .int t_above, .int t_below, .int t_bads, .int t_nos, .int t_fulls]))]) (wr := [(q_t_now, .inr (0, [.int t_now_pressure, .int t_now_day, .int t_now_wells, .int t_now_lefts, .int t_now_notes, .int t_now_undos, .ref q_t_now_kind, .ref q_t_now_wanted, .ref q_t_now_hours, .ref q_t_now_had, .ref q_t_now_due, .ref q_t_now_leftHour, .ref q_t_now_leftPressure, .ref q_t_now_note, .ref q_t_now_past, .ref q_t_now_ahead, .ref q_t_now_gets, .int t_now_leftOver])), (q_t_now_hours, zI E 5 t_now_hours), (q_t_now_ahead, zI E 5 t_now_ahead), (q_t_now_kind, zI E 5 t_now_kind), (q_t_now_wanted, zI E 5 t_now_wanted), (q_t_now_gets, zI E 5 t_now_gets)]) (wc' := [(q_t, .inr (3, [.ref q_t_now, .ref q_t_images, .ref q_t_search, .ref q_t_reader, .int t_above, .int t_below, .int t_bads, .int o10.2, .int t_fulls]))]) (ws2 := [(q_t, .inr (3, [.ref q_t_now, .ref q_t_images, .ref q_t_search, .ref q_t_reader, .int t_above, .int t_below, .int t_bads, .int o10.2, .int t_fulls])), (q_t_now, .inr (0, [.int t_now_pressure, .int t_now_day, .int t_now_wells, .int t_now_lefts, .int t_now_notes, .int t_now_undos, .ref q_t_now_kind, .ref q_t_now_wanted, .ref q_t_now_hours, .ref q_t_now_had, .ref q_t_now_due, .ref q_t_now_leftHour, .ref q_t_now_leftPressure, .ref q_t_now_note, .ref q_t_now_past, .ref q_t_now_ahead, .ref q_t_now_gets, .int t_now_leftOver])), (q_t_now_hours, zI E 5 t_now_hours), (q_t_now_ahead, zI E 5 t_now_ahead), (q_t_now_kind, zI E 5 t_now_kind), (q_t_now_wanted, zI E 5 t_now_wanted), (q_t_now_gets, zI E 5 t_now_gets)]) (As := []) (st2 := [.int o10.1]) C [0] [1, 2, 3, 4, 5, 6] [6, 0, 1, 2, 3, 4, 5] rfl rfl rfl rfl (by decide) rfl rfl (c_X4_no F ho11) (goodVT consT W_420 W_422 W_13 W_58 W_423) rfl rfl rfl hd_X4_no ⟨Nat.le_of_ble_eq_true rfl, Nat.le_of_ble_eq_true rfl⟩ rfl rfl rfl (j := 0) rfl rfl rfl (Nat.le_of_ble_eq_true rfl) dX4_inspector_36 ⟨Nat.zero_le _, Nat.zero_le _⟩ ?_
        obtain rfl := Option.some.inj h
        exact z_iret (v := o10.1) C hr dX4_inspector_39
    · replace h := (if_pos c).symm.trans h
      refine z_sub [0] (L' := [(0, .ref q_t)]) rfl ?_
      exact (l_X4_inspector_b18 F a1 a2 t_now_pressure t_now_wells t_now_hours t_now_kind t_now_wanted C hr) t_bads t_nos t_now_leftOver t_now_ahead t_now_gets h
def rm_X4_commonDivisor : Room := { frames := 0, cells := 0, slots := 0, locals := 0 }
theorem hd_X4_commonDivisor : yX4_commonDivisor.cls ≠ "java/lang/invoke/MethodHandle" ∧ yX4_commonDivisor.cls ≠ "java/lang/invoke/VarHandle" ∧ (parseMethodDescriptor yX4_commonDivisor.desc).map (fun d => d.parameters.length) = some 2 := by decide +kernel
abbrev wsX4_commonDivisor : List Cond := .code yX4_commonDivisor cX4_commonDivisor 6 (some .int) :: WALL
set_option maxRecDepth 100000 in
set_option maxHeartbeats 4000000 in
theorem l_X4_commonDivisor_b7 {p : Program} {l : Launch} {e : Env} {s : State} {m : MethodId} {args : Array Value} {below : List Frame} {meth : Method} {c : Code} {E : zE} {A : Nat → Prop} {o : Int32} (F : Nat) (a0 : Int32) (a1 : Int32) (C : zC p s m args c meth cX4_commonDivisor 6 RX4 wsX4_commonDivisor E A) (hr : meth.sig.returnType = some .int) : ∀ (n : Nat) (v2 : Int32) (v3 : Int32) (v4 : Int32), f_X4_commonDivisor_b7 F a0 a1 n v2 v3 v4 = some o → zG p l e rm_X4_commonDivisor s m args below meth c 6 E A 0 0 (MQ below (zQ E A (some (.int o)) []) args s 0 0 A) [] 7 [(2, .int v2), (3, .int v3), (4, .int v4)] [] := by
  intro n
  induction n with
  | zero =>
    intro v2 v3 v4 h
    rw [f_X4_commonDivisor_b7] at h
    cases h
  | succ n ih =>
    intro v2 v3 v4 h
    rw [f_X4_commonDivisor_b7] at h
    refine z_iload C dX4_commonDivisor_7 2 rfl ?_
    refine z_bipush (v := (100 : Int32)) C dX4_commonDivisor_9 (by decide) ?_
    refine z_icmp_ge (tgt := 34) C dX4_commonDivisor_11 (by decide) (fun c => ?_) (fun c => ?_)
    · replace h := (if_pos c).symm.trans h
      refine z_iload_n C dX4_commonDivisor_34 rfl 0 rfl ?_
      obtain rfl := Option.some.inj h
      exact z_iret (v := v2) C hr dX4_commonDivisor_35
    · replace h := (if_neg c).symm.trans h
      refine z_iload_n C dX4_commonDivisor_14 rfl 1 rfl ?_
      refine z_if_eq (tgt := 34) C dX4_commonDivisor_15 (by decide) (fun c => ?_) (fun c => ?_)
      · replace h := (if_pos c).symm.trans h
        refine z_iload_n C dX4_commonDivisor_34 rfl 0 rfl ?_
        obtain rfl := Option.some.inj h
        exact z_iret (v := v2) C hr dX4_commonDivisor_35
      · replace h := (if_neg c).symm.trans h
        refine z_iload_n C dX4_commonDivisor_18 rfl 0 rfl ?_
        refine z_iload_n C dX4_commonDivisor_19 rfl 1 rfl ?_
        obtain ⟨c1, h⟩ := chk_some h
        refine z_irem C dX4_commonDivisor_20 (of_decide_eq_true c1) ?_
        refine z_istore (L' := [(5, .int (v2 - v2 / v3 * v3)), (2, .int v2), (3, .int v3), (4, .int v4)]) C dX4_commonDivisor_21 (by decide) rfl ?_
        refine z_iload_n C dX4_commonDivisor_23 rfl 2 rfl ?_
        refine z_istore_n (L' := [(2, .int v3), (5, .int (v2 - v2 / v3 * v3)), (3, .int v3), (4, .int v4)]) C dX4_commonDivisor_24 rfl (by decide) rfl ?_
        refine z_iload C dX4_commonDivisor_25 1 rfl ?_
        refine z_istore_n (L' := [(3, .int (v2 - v2 / v3 * v3)), (2, .int v3), (5, .int (v2 - v2 / v3 * v3)), (4, .int v4)]) C dX4_commonDivisor_27 rfl (by decide) rfl ?_
        refine z_iinc (v := v4 + (1 : Int32)) (L' := [(4, .int (v4 + (1 : Int32))), (3, .int (v2 - v2 / v3 * v3)), (2, .int v3), (5, .int (v2 - v2 / v3 * v3))]) C dX4_commonDivisor_28 3 rfl rfl (by decide) rfl ?_
        refine z_goto (tgt := 7) C dX4_commonDivisor_31 (by decide) ?_
        refine z_sub [2, 1, 0] (L' := [(2, .int v3), (3, .int (v2 - v2 / v3 * v3)), (4, .int (v4 + (1 : Int32)))]) rfl ?_
        exact ih v3 (v2 - v2 / v3 * v3) (v4 + (1 : Int32)) h
set_option maxRecDepth 100000 in
set_option maxHeartbeats 4000000 in
theorem c_X4_commonDivisor {l : Launch} {E : zE} {a0 : Int32} {a1 : Int32} {o : Int32} (F : Nat) (h : f_X4_commonDivisor F a0 a1 = some o) : zM l yX4_commonDivisor wsX4_commonDivisor rm_X4_commonDivisor E [.int a0, .int a1] [] (some (.int o)) [] := by
  refine zM.of (cc := cX4_commonDivisor) (maxL := 6) (ret := (some .int)) (by decide +kernel) rfl (Nat.le_of_ble_eq_true rfl) ?_
  intro p e s m args below meth c A C hr
  have C : zC p s m args c meth cX4_commonDivisor 6 RX4 wsX4_commonDivisor E A := C
  rw [f_X4_commonDivisor] at h
  refine z_iload_n C dX4_commonDivisor_0 rfl 0 rfl ?_
  refine z_istore_n (L' := [(2, .int a0), (0, .int a0), (1, .int a1)]) C dX4_commonDivisor_1 rfl (by decide) rfl ?_
  refine z_iload_n C dX4_commonDivisor_2 rfl 2 rfl ?_
  refine z_istore_n (L' := [(3, .int a1), (2, .int a0), (0, .int a0), (1, .int a1)]) C dX4_commonDivisor_3 rfl (by decide) rfl ?_
  refine z_iconst (v := (0 : Int32)) C dX4_commonDivisor_4 (by decide) ?_
  refine z_istore (L' := [(4, .int (0 : Int32)), (3, .int a1), (2, .int a0), (0, .int a0), (1, .int a1)]) C dX4_commonDivisor_5 (by decide) rfl ?_
  refine z_sub [2, 1, 0] (L' := [(2, .int a0), (3, .int a1), (4, .int (0 : Int32))]) rfl ?_
  exact (l_X4_commonDivisor_b7 F a0 a1 C hr F) a0 a1 (0 : Int32) h
def rm_X4_setFraction : Room := { frames := 1, cells := 0, slots := 0, locals := 25 }
theorem hd_X4_setFraction : yX4_setFraction.cls = yX4_setFraction.cls ∧ yX4_setFraction.cls ≠ "java/lang/invoke/MethodHandle" ∧ yX4_setFraction.cls ≠ "java/lang/invoke/VarHandle" ∧ (parseMethodDescriptor yX4_setFraction.desc).map (fun d => d.parameters.length) = some 2 := by decide +kernel
abbrev wsX4_setFraction : List Cond := .code yX4_setFraction cX4_setFraction 4 none :: WALL
set_option maxRecDepth 100000 in
set_option maxHeartbeats 4000000 in
theorem c_X4_setFraction {l : Launch} {E : zE} {q_t q_t_now q_t_images q_t_search q_t_reader : Nat} {t_bads : Int32} {t_nos : Int32} {t_fulls : Int32} {a1 : Int32} {a2 : Int32} {t_above : Int32} {t_below : Int32} {o : Int32 × Int32} (F : Nat) (h : f_X4_setFraction F a1 a2 t_above t_below = some o) : zM l yX4_setFraction wsX4_setFraction rm_X4_setFraction E [.ref q_t, .int a1, .int a2] [(q_t, .inr (3, [.ref q_t_now, .ref q_t_images, .ref q_t_search, .ref q_t_reader, .int t_above, .int t_below, .int t_bads, .int t_nos, .int t_fulls]))] none [(q_t, .inr (3, [.ref q_t_now, .ref q_t_images, .ref q_t_search, .ref q_t_reader, .int o.1, .int o.2, .int t_bads, .int t_nos, .int t_fulls]))] := by
  refine zM.of (cc := cX4_setFraction) (maxL := 4) (ret := none) (by decide +kernel) rfl (Nat.le_of_ble_eq_true rfl) ?_
  intro p e s m args below meth c A C hr
  have C : zC p s m args c meth cX4_setFraction 4 RX4 wsX4_setFraction E A := C
  rw [f_X4_setFraction] at h
  refine z_iload_n C dX4_setFraction_0 rfl 1 rfl ?_
  refine z_iload_n C dX4_setFraction_1 rfl 2 rfl ?_
  obtain ⟨o1, ho2, h⟩ := bnd_some h
  refine z_callS (wc := []) (wr := [(q_t, .inr (3, [.ref q_t_now, .ref q_t_images, .ref q_t_search, .ref q_t_reader, .int t_above, .int t_below, .int t_bads, .int t_nos, .int t_fulls]))]) (wc' := []) (ws2 := [(q_t, .inr (3, [.ref q_t_now, .ref q_t_images, .ref q_t_search, .ref q_t_reader, .int t_above, .int t_below, .int t_bads, .int t_nos, .int t_fulls]))]) (As := [.int a1, .int a2]) (st2 := [.int o1]) C [] [0] [0] rfl rfl rfl rfl (by decide) rfl rfl (c_X4_commonDivisor F ho2) (goodST consT W_613 W_614 W_58 W_615) rfl rfl rfl hd_X4_commonDivisor ⟨Nat.le_of_ble_eq_true rfl, Nat.le_of_ble_eq_true rfl⟩ rfl rfl rfl (Nat.le_of_ble_eq_true rfl) dX4_setFraction_2 ⟨Nat.zero_le _, Nat.zero_le _⟩ ?_
  refine z_istore_n (L' := [(3, .int o1), (0, .ref q_t), (1, .int a1), (2, .int a2)]) C dX4_setFraction_5 rfl (by decide) rfl ?_
  refine z_iload_n C dX4_setFraction_6 rfl 0 rfl ?_
  refine z_if_ne (tgt := 11) C dX4_setFraction_7 (by decide) (fun c => ?_) (fun c => ?_)
  · replace h := (if_neg c).symm.trans h
    refine z_aload_n C dX4_setFraction_11 rfl 1 rfl ?_
    refine z_iload_n C dX4_setFraction_12 rfl 2 rfl ?_
    refine z_iload_n C dX4_setFraction_13 rfl 0 rfl ?_
    obtain ⟨c3, h⟩ := chk_some h
    refine z_idiv C dX4_setFraction_14 (of_decide_eq_true c3) ?_
    refine z_put (ws' := [(q_t, .inr (3, [.ref q_t_now, .ref q_t_images, .ref q_t_search, .ref q_t_reader, .int (a1 / o1), .int t_below, .int t_bads, .int t_nos, .int t_fulls]))]) C inT_X4 tyX4 tyX4_ok nmX4 0 rfl rfl 4 (by decide) rfl (mc W_230) rfl rfl rfl (Nat.le_of_ble_eq_true rfl) rfl dX4_setFraction_15 ?_
    refine z_aload_n C dX4_setFraction_18 rfl 1 rfl ?_
    refine z_iload_n C dX4_setFraction_19 rfl 3 rfl ?_
    refine z_iload_n C dX4_setFraction_20 rfl 0 rfl ?_
    obtain ⟨c4, h⟩ := chk_some h
    refine z_idiv C dX4_setFraction_21 (of_decide_eq_true c4) ?_
    refine z_put (ws' := [(q_t, .inr (3, [.ref q_t_now, .ref q_t_images, .ref q_t_search, .ref q_t_reader, .int (a1 / o1), .int (a2 / o1), .int t_bads, .int t_nos, .int t_fulls]))]) C inT_X4 tyX4 tyX4_ok nmX4 0 rfl rfl 5 (by decide) rfl (mc W_231) rfl rfl rfl (Nat.le_of_ble_eq_true rfl) rfl dX4_setFraction_22 ?_
    obtain rfl := Option.some.inj h
    exact z_vret C hr dX4_setFraction_25
  · replace h := (if_pos c).symm.trans h
    obtain rfl := Option.some.inj h
    exact z_vret C hr dX4_setFraction_10
def rm_X4_noons : Room := { frames := 4, cells := 0, slots := 0, locals := 93 }
theorem hd_X4_noons : yX4_noons.cls = yX4_noons.cls ∧ yX4_noons.cls ≠ "java/lang/invoke/MethodHandle" ∧ yX4_noons.cls ≠ "java/lang/invoke/VarHandle" ∧ (parseMethodDescriptor yX4_noons.desc).map (fun d => d.parameters.length) = some 3 := by decide +kernel
abbrev wsX4_noons : List Cond := .code yX4_noons cX4_noons 6 (some .int) :: WALL
set_option maxRecDepth 100000 in
set_option maxHeartbeats 4000000 in
theorem l_X4_noons_b28 {p : Program} {l : Launch} {e : Env} {s : State} {m : MethodId} {args : Array Value} {below : List Frame} {meth : Method} {c : Code} {E : zE} {A : Nat → Prop} {q_t q_t_now q_t_now_hours q_t_now_ahead q_t_now_kind q_t_now_wanted q_t_now_gets q_t_images q_t_search q_t_reader q_t_now_had q_t_now_due q_t_now_leftHour q_t_now_leftPressure q_t_now_note q_t_now_past : Nat} {t_nos : Int32} {t_fulls : Int32} {t_now_day : Int32} {t_now_lefts : Int32} {t_now_notes : Int32} {t_now_undos : Int32} {o : Int32 × Int32 × Int32 × Int32 × Int32 × (Nat → Int32) × (Nat → Int32)} (F : Nat) (a1 : Int32) (a2 : Int32) (a3 : Int32) (t_now_pressure : Int32) (t_now_wells : Int32) (t_now_hours : Nat → Int32) (t_now_kind : Nat → Int32) (t_now_wanted : Nat → Int32) (C : zC p s m args c meth cX4_noons 6 RX4 wsX4_noons E A) (hr : meth.sig.returnType = some .int) : ∀  (t_above : Int32) (t_below : Int32) (t_bads : Int32) (t_now_leftOver : Int32) (t_now_ahead : Nat → Int32) (t_now_gets : Nat → Int32), f_X4_noons_b28 F a1 a2 a3 t_now_pressure t_now_wells t_now_hours t_now_kind t_now_wanted t_above t_below t_bads t_now_leftOver t_now_ahead t_now_gets = some o → zG p l e rm_X4_noons s m args below meth c 6 E A 0 0 (MQ below (zQ E A (some (.int o.1)) [(q_t, .inr (3, [.ref q_t_now, .ref q_t_images, .ref q_t_search, .ref q_t_reader, .int o.2.1, .int o.2.2.1, .int o.2.2.2.1, .int t_nos, .int t_fulls])), (q_t_now, .inr (0, [.int t_now_pressure, .int t_now_day, .int t_now_wells, .int t_now_lefts, .int t_now_notes, .int t_now_undos, .ref q_t_now_kind, .ref q_t_now_wanted, .ref q_t_now_hours, .ref q_t_now_had, .ref q_t_now_due, .ref q_t_now_leftHour, .ref q_t_now_leftPressure, .ref q_t_now_note, .ref q_t_now_past, .ref q_t_now_ahead, .ref q_t_now_gets, .int o.2.2.2.2.1])), (q_t_now_hours, zI E 5 t_now_hours), (q_t_now_ahead, zI E 5 o.2.2.2.2.2.1), (q_t_now_kind, zI E 5 t_now_kind), (q_t_now_wanted, zI E 5 t_now_wanted), (q_t_now_gets, zI E 5 o.2.2.2.2.2.2)]) args s 0 0 A) [(q_t, .inr (3, [.ref q_t_now, .ref q_t_images, .ref q_t_search, .ref q_t_reader, .int t_above, .int t_below, .int t_bads, .int t_nos, .int t_fulls])), (q_t_now, .inr (0, [.int t_now_pressure, .int t_now_day, .int t_now_wells, .int t_now_lefts, .int t_now_notes, .int t_now_undos, .ref q_t_now_kind, .ref q_t_now_wanted, .ref q_t_now_hours, .ref q_t_now_had, .ref q_t_now_due, .ref q_t_now_leftHour, .ref q_t_now_leftPressure, .ref q_t_now_note, .ref q_t_now_past, .ref q_t_now_ahead, .ref q_t_now_gets, .int t_now_leftOver])), (q_t_now_hours, zI E 5 t_now_hours), (q_t_now_ahead, zI E 5 t_now_ahead), (q_t_now_kind, zI E 5 t_now_kind), (q_t_now_wanted, zI E 5 t_now_wanted), (q_t_now_gets, zI E 5 t_now_gets)] 28 [(0, .ref q_t)] [] := by
  intro t_above t_below t_bads t_now_leftOver t_now_ahead t_now_gets h
  rw [f_X4_noons_b28] at h
  refine z_aload_n C dX4_noons_28 rfl 0 rfl ?_
  obtain ⟨o13, ho14, h⟩ := bnd_some h
  refine z_callV (wc := [(q_t, .inr (3, [.ref q_t_now, .ref q_t_images, .ref q_t_search, .ref q_t_reader, .int t_above, .int t_below, .int t_bads, .int t_nos, .int t_fulls]))]) (wr := [(q_t_now, .inr (0, [.int t_now_pressure, .int t_now_day, .int t_now_wells, .int t_now_lefts, .int t_now_notes, .int t_now_undos, .ref q_t_now_kind, .ref q_t_now_wanted, .ref q_t_now_hours, .ref q_t_now_had, .ref q_t_now_due, .ref q_t_now_leftHour, .ref q_t_now_leftPressure, .ref q_t_now_note, .ref q_t_now_past, .ref q_t_now_ahead, .ref q_t_now_gets, .int t_now_leftOver])), (q_t_now_hours, zI E 5 t_now_hours), (q_t_now_ahead, zI E 5 t_now_ahead), (q_t_now_kind, zI E 5 t_now_kind), (q_t_now_wanted, zI E 5 t_now_wanted), (q_t_now_gets, zI E 5 t_now_gets)]) (wc' := [(q_t, .inr (3, [.ref q_t_now, .ref q_t_images, .ref q_t_search, .ref q_t_reader, .int t_above, .int t_below, .int o13.2, .int t_nos, .int t_fulls]))]) (ws2 := [(q_t, .inr (3, [.ref q_t_now, .ref q_t_images, .ref q_t_search, .ref q_t_reader, .int t_above, .int t_below, .int o13.2, .int t_nos, .int t_fulls])), (q_t_now, .inr (0, [.int t_now_pressure, .int t_now_day, .int t_now_wells, .int t_now_lefts, .int t_now_notes, .int t_now_undos, .ref q_t_now_kind, .ref q_t_now_wanted, .ref q_t_now_hours, .ref q_t_now_had, .ref q_t_now_due, .ref q_t_now_leftHour, .ref q_t_now_leftPressure, .ref q_t_now_note, .ref q_t_now_past, .ref q_t_now_ahead, .ref q_t_now_gets, .int t_now_leftOver])), (q_t_now_hours, zI E 5 t_now_hours), (q_t_now_ahead, zI E 5 t_now_ahead), (q_t_now_kind, zI E 5 t_now_kind), (q_t_now_wanted, zI E 5 t_now_wanted), (q_t_now_gets, zI E 5 t_now_gets)]) (As := []) (st2 := [.int o13.1]) C [0] [1, 2, 3, 4, 5, 6] [6, 0, 1, 2, 3, 4, 5] rfl rfl rfl rfl (by decide) rfl rfl (c_X4_bad F ho14) (goodVT consT W_264 W_266 W_0 W_58 W_267) rfl rfl rfl hd_X4_bad ⟨Nat.le_of_ble_eq_true rfl, Nat.le_of_ble_eq_true rfl⟩ rfl rfl rfl (j := 0) rfl rfl rfl (Nat.le_of_ble_eq_true rfl) dX4_noons_29 ⟨Nat.zero_le _, Nat.zero_le _⟩ ?_
  obtain rfl := Option.some.inj h
  exact z_iret (v := o13.1) C hr dX4_noons_32
set_option maxRecDepth 100000 in
set_option maxHeartbeats 4000000 in
theorem c_X4_noons {l : Launch} {E : zE} {q_t q_t_now q_t_now_hours q_t_now_ahead q_t_now_kind q_t_now_wanted q_t_now_gets q_t_images q_t_search q_t_reader q_t_now_had q_t_now_due q_t_now_leftHour q_t_now_leftPressure q_t_now_note q_t_now_past : Nat} {t_nos : Int32} {t_fulls : Int32} {t_now_day : Int32} {t_now_lefts : Int32} {t_now_notes : Int32} {t_now_undos : Int32} {a1 : Int32} {a2 : Int32} {a3 : Int32} {t_now_pressure : Int32} {t_now_wells : Int32} {t_now_hours : Nat → Int32} {t_now_kind : Nat → Int32} {t_now_wanted : Nat → Int32} {t_above : Int32} {t_below : Int32} {t_bads : Int32} {t_now_leftOver : Int32} {t_now_ahead : Nat → Int32} {t_now_gets : Nat → Int32} {o : Int32 × Int32 × Int32 × Int32 × Int32 × (Nat → Int32) × (Nat → Int32)} (F : Nat) (h : f_X4_noons F a1 a2 a3 t_now_pressure t_now_wells t_now_hours t_now_kind t_now_wanted t_above t_below t_bads t_now_leftOver t_now_ahead t_now_gets = some o) : zM l yX4_noons wsX4_noons rm_X4_noons E [.ref q_t, .int a1, .int a2, .int a3] [(q_t, .inr (3, [.ref q_t_now, .ref q_t_images, .ref q_t_search, .ref q_t_reader, .int t_above, .int t_below, .int t_bads, .int t_nos, .int t_fulls])), (q_t_now, .inr (0, [.int t_now_pressure, .int t_now_day, .int t_now_wells, .int t_now_lefts, .int t_now_notes, .int t_now_undos, .ref q_t_now_kind, .ref q_t_now_wanted, .ref q_t_now_hours, .ref q_t_now_had, .ref q_t_now_due, .ref q_t_now_leftHour, .ref q_t_now_leftPressure, .ref q_t_now_note, .ref q_t_now_past, .ref q_t_now_ahead, .ref q_t_now_gets, .int t_now_leftOver])), (q_t_now_hours, zI E 5 t_now_hours), (q_t_now_ahead, zI E 5 t_now_ahead), (q_t_now_kind, zI E 5 t_now_kind), (q_t_now_wanted, zI E 5 t_now_wanted), (q_t_now_gets, zI E 5 t_now_gets)] (some (.int o.1)) [(q_t, .inr (3, [.ref q_t_now, .ref q_t_images, .ref q_t_search, .ref q_t_reader, .int o.2.1, .int o.2.2.1, .int o.2.2.2.1, .int t_nos, .int t_fulls])), (q_t_now, .inr (0, [.int t_now_pressure, .int t_now_day, .int t_now_wells, .int t_now_lefts, .int t_now_notes, .int t_now_undos, .ref q_t_now_kind, .ref q_t_now_wanted, .ref q_t_now_hours, .ref q_t_now_had, .ref q_t_now_due, .ref q_t_now_leftHour, .ref q_t_now_leftPressure, .ref q_t_now_note, .ref q_t_now_past, .ref q_t_now_ahead, .ref q_t_now_gets, .int o.2.2.2.2.1])), (q_t_now_hours, zI E 5 t_now_hours), (q_t_now_ahead, zI E 5 o.2.2.2.2.2.1), (q_t_now_kind, zI E 5 t_now_kind), (q_t_now_wanted, zI E 5 t_now_wanted), (q_t_now_gets, zI E 5 o.2.2.2.2.2.2)] := by
  refine zM.of (cc := cX4_noons) (maxL := 6) (ret := (some .int)) (by decide +kernel) rfl (Nat.le_of_ble_eq_true rfl) ?_
  intro p e s m args below meth c A C hr
  have C : zC p s m args c meth cX4_noons 6 RX4 wsX4_noons E A := C
  rw [f_X4_noons] at h
  refine z_aload_n C dX4_noons_0 rfl 0 rfl ?_
  refine z_get C inT_X4 0 rfl rfl 0 (by decide) rfl (mc W_226) rfl dX4_noons_1 ?_
  refine z_iload_n C dX4_noons_4 rfl 1 rfl ?_
  obtain ⟨o1, ho2, h⟩ := bnd_some h
  refine z_callV (wc := [(q_t_now, .inr (0, [.int t_now_pressure, .int t_now_day, .int t_now_wells, .int t_now_lefts, .int t_now_notes, .int t_now_undos, .ref q_t_now_kind, .ref q_t_now_wanted, .ref q_t_now_hours, .ref q_t_now_had, .ref q_t_now_due, .ref q_t_now_leftHour, .ref q_t_now_leftPressure, .ref q_t_now_note, .ref q_t_now_past, .ref q_t_now_ahead, .ref q_t_now_gets, .int t_now_leftOver]))]) (wr := [(q_t, .inr (3, [.ref q_t_now, .ref q_t_images, .ref q_t_search, .ref q_t_reader, .int t_above, .int t_below, .int t_bads, .int t_nos, .int t_fulls])), (q_t_now_hours, zI E 5 t_now_hours), (q_t_now_ahead, zI E 5 t_now_ahead), (q_t_now_kind, zI E 5 t_now_kind), (q_t_now_wanted, zI E 5 t_now_wanted), (q_t_now_gets, zI E 5 t_now_gets)]) (wc' := [(q_t_now, .inr (0, [.int t_now_pressure, .int t_now_day, .int t_now_wells, .int t_now_lefts, .int t_now_notes, .int t_now_undos, .ref q_t_now_kind, .ref q_t_now_wanted, .ref q_t_now_hours, .ref q_t_now_had, .ref q_t_now_due, .ref q_t_now_leftHour, .ref q_t_now_leftPressure, .ref q_t_now_note, .ref q_t_now_past, .ref q_t_now_ahead, .ref q_t_now_gets, .int t_now_leftOver]))]) (ws2 := [(q_t, .inr (3, [.ref q_t_now, .ref q_t_images, .ref q_t_search, .ref q_t_reader, .int t_above, .int t_below, .int t_bads, .int t_nos, .int t_fulls])), (q_t_now, .inr (0, [.int t_now_pressure, .int t_now_day, .int t_now_wells, .int t_now_lefts, .int t_now_notes, .int t_now_undos, .ref q_t_now_kind, .ref q_t_now_wanted, .ref q_t_now_hours, .ref q_t_now_had, .ref q_t_now_due, .ref q_t_now_leftHour, .ref q_t_now_leftPressure, .ref q_t_now_note, .ref q_t_now_past, .ref q_t_now_ahead, .ref q_t_now_gets, .int t_now_leftOver])), (q_t_now_hours, zI E 5 t_now_hours), (q_t_now_ahead, zI E 5 t_now_ahead), (q_t_now_kind, zI E 5 t_now_kind), (q_t_now_wanted, zI E 5 t_now_wanted), (q_t_now_gets, zI E 5 t_now_gets)]) (As := [.int a1]) (st2 := [.int o1]) C [1] [0, 2, 3, 4, 5, 6] [0, 6, 1, 2, 3, 4, 5] rfl rfl rfl rfl (by decide) rfl rfl (c_X1_has F ho2) (goodVT consT W_404 W_405 W_406 W_59 W_407) rfl rfl rfl hd_X1_has ⟨Nat.le_of_ble_eq_true rfl, Nat.le_of_ble_eq_true rfl⟩ rfl rfl rfl (j := 0) rfl rfl rfl (Nat.le_of_ble_eq_true rfl) dX4_noons_5 ⟨Nat.zero_le _, Nat.zero_le _⟩ ?_
  refine z_if_eq (tgt := 28) C dX4_noons_8 (by decide) (fun c => ?_) (fun c => ?_)
  · replace h := (if_pos c).symm.trans h
    refine z_sub [0] (L' := [(0, .ref q_t)]) rfl ?_
    exact (l_X4_noons_b28 F a1 a2 a3 t_now_pressure t_now_wells t_now_hours t_now_kind t_now_wanted C hr) t_above t_below t_bads t_now_leftOver t_now_ahead t_now_gets h
  · replace h := (if_neg c).symm.trans h
    refine z_iload_n C dX4_noons_11 rfl 2 rfl ?_
    obtain ⟨o3, ho4, h⟩ := bnd_some h
    refine z_callS (wc := []) (wr := [(q_t, .inr (3, [.ref q_t_now, .ref q_t_images, .ref q_t_search, .ref q_t_reader, .int t_above, .int t_below, .int t_bads, .int t_nos, .int t_fulls])), (q_t_now, .inr (0, [.int t_now_pressure, .int t_now_day, .int t_now_wells, .int t_now_lefts, .int t_now_notes, .int t_now_undos, .ref q_t_now_kind, .ref q_t_now_wanted, .ref q_t_now_hours, .ref q_t_now_had, .ref q_t_now_due, .ref q_t_now_leftHour, .ref q_t_now_leftPressure, .ref q_t_now_note, .ref q_t_now_past, .ref q_t_now_ahead, .ref q_t_now_gets, .int t_now_leftOver])), (q_t_now_hours, zI E 5 t_now_hours), (q_t_now_ahead, zI E 5 t_now_ahead), (q_t_now_kind, zI E 5 t_now_kind), (q_t_now_wanted, zI E 5 t_now_wanted), (q_t_now_gets, zI E 5 t_now_gets)]) (wc' := []) (ws2 := [(q_t, .inr (3, [.ref q_t_now, .ref q_t_images, .ref q_t_search, .ref q_t_reader, .int t_above, .int t_below, .int t_bads, .int t_nos, .int t_fulls])), (q_t_now, .inr (0, [.int t_now_pressure, .int t_now_day, .int t_now_wells, .int t_now_lefts, .int t_now_notes, .int t_now_undos, .ref q_t_now_kind, .ref q_t_now_wanted, .ref q_t_now_hours, .ref q_t_now_had, .ref q_t_now_due, .ref q_t_now_leftHour, .ref q_t_now_leftPressure, .ref q_t_now_note, .ref q_t_now_past, .ref q_t_now_ahead, .ref q_t_now_gets, .int t_now_leftOver])), (q_t_now_hours, zI E 5 t_now_hours), (q_t_now_ahead, zI E 5 t_now_ahead), (q_t_now_kind, zI E 5 t_now_kind), (q_t_now_wanted, zI E 5 t_now_wanted), (q_t_now_gets, zI E 5 t_now_gets)]) (As := [.int a2]) (st2 := [.int o3]) C [] [0, 1, 2, 3, 4, 5, 6] [0, 1, 2, 3, 4, 5, 6] rfl rfl rfl rfl (by decide) rfl rfl (c_X4_isHour F ho4) (goodST consT W_436 W_437 W_58 W_438) rfl rfl rfl hd_X4_isHour ⟨Nat.le_of_ble_eq_true rfl, Nat.le_of_ble_eq_true rfl⟩ rfl rfl rfl (Nat.le_of_ble_eq_true rfl) dX4_noons_12 ⟨Nat.zero_le _, Nat.zero_le _⟩ ?_
    refine z_if_eq (tgt := 28) C dX4_noons_15 (by decide) (fun c => ?_) (fun c => ?_)
    · replace h := (if_pos c).symm.trans h
      refine z_sub [0] (L' := [(0, .ref q_t)]) rfl ?_
      exact (l_X4_noons_b28 F a1 a2 a3 t_now_pressure t_now_wells t_now_hours t_now_kind t_now_wanted C hr) t_above t_below t_bads t_now_leftOver t_now_ahead t_now_gets h
    · replace h := (if_neg c).symm.trans h
      refine z_iload_n C dX4_noons_18 rfl 3 rfl ?_
      refine z_iconst (v := (0 : Int32)) C dX4_noons_19 (by decide) ?_
      refine z_bipush (v := (10 : Int32)) C dX4_noons_20 (by decide) ?_
      obtain ⟨o5, ho6, h⟩ := bnd_some h
      refine z_callS (wc := []) (wr := [(q_t, .inr (3, [.ref q_t_now, .ref q_t_images, .ref q_t_search, .ref q_t_reader, .int t_above, .int t_below, .int t_bads, .int t_nos, .int t_fulls])), (q_t_now, .inr (0, [.int t_now_pressure, .int t_now_day, .int t_now_wells, .int t_now_lefts, .int t_now_notes, .int t_now_undos, .ref q_t_now_kind, .ref q_t_now_wanted, .ref q_t_now_hours, .ref q_t_now_had, .ref q_t_now_due, .ref q_t_now_leftHour, .ref q_t_now_leftPressure, .ref q_t_now_note, .ref q_t_now_past, .ref q_t_now_ahead, .ref q_t_now_gets, .int t_now_leftOver])), (q_t_now_hours, zI E 5 t_now_hours), (q_t_now_ahead, zI E 5 t_now_ahead), (q_t_now_kind, zI E 5 t_now_kind), (q_t_now_wanted, zI E 5 t_now_wanted), (q_t_now_gets, zI E 5 t_now_gets)]) (wc' := []) (ws2 := [(q_t, .inr (3, [.ref q_t_now, .ref q_t_images, .ref q_t_search, .ref q_t_reader, .int t_above, .int t_below, .int t_bads, .int t_nos, .int t_fulls])), (q_t_now, .inr (0, [.int t_now_pressure, .int t_now_day, .int t_now_wells, .int t_now_lefts, .int t_now_notes, .int t_now_undos, .ref q_t_now_kind, .ref q_t_now_wanted, .ref q_t_now_hours, .ref q_t_now_had, .ref q_t_now_due, .ref q_t_now_leftHour, .ref q_t_now_leftPressure, .ref q_t_now_note, .ref q_t_now_past, .ref q_t_now_ahead, .ref q_t_now_gets, .int t_now_leftOver])), (q_t_now_hours, zI E 5 t_now_hours), (q_t_now_ahead, zI E 5 t_now_ahead), (q_t_now_kind, zI E 5 t_now_kind), (q_t_now_wanted, zI E 5 t_now_wanted), (q_t_now_gets, zI E 5 t_now_gets)]) (As := [.int a3, .int (0 : Int32), .int (10 : Int32)]) (st2 := [.int o5]) C [] [0, 1, 2, 3, 4, 5, 6] [0, 1, 2, 3, 4, 5, 6] rfl rfl rfl rfl (by decide) rfl rfl (c_X4_within F ho6) (goodST consT W_261 W_262 W_58 W_263) rfl rfl rfl hd_X4_within ⟨Nat.le_of_ble_eq_true rfl, Nat.le_of_ble_eq_true rfl⟩ rfl rfl rfl (Nat.le_of_ble_eq_true rfl) dX4_noons_22 ⟨Nat.zero_le _, Nat.zero_le _⟩ ?_
      refine z_if_ne (tgt := 33) C dX4_noons_25 (by decide) (fun c => ?_) (fun c => ?_)
      · replace h := (if_neg c).symm.trans h
        refine z_aload_n C dX4_noons_33 rfl 0 rfl ?_
        refine z_get C inT_X4 0 rfl rfl 0 (by decide) rfl (mc W_226) rfl dX4_noons_34 ?_
        refine z_iload_n C dX4_noons_37 rfl 1 rfl ?_
        refine z_iload_n C dX4_noons_38 rfl 2 rfl ?_
        refine z_aload_n C dX4_noons_39 rfl 0 rfl ?_
        refine z_get C inT_X4 0 rfl rfl 0 (by decide) rfl (mc W_226) rfl dX4_noons_40 ?_
        refine z_get C inT_X1 1 rfl rfl 0 (by decide) rfl (mc W_83) rfl dX4_noons_43 ?_
        refine z_iconst (v := (2 : Int32)) C dX4_noons_46 (by decide) ?_
        refine z_idiv C dX4_noons_47 (by decide) ?_
        obtain ⟨o7, ho8, h⟩ := bnd_some h
        refine z_callV (wc := [(q_t_now, .inr (0, [.int t_now_pressure, .int t_now_day, .int t_now_wells, .int t_now_lefts, .int t_now_notes, .int t_now_undos, .ref q_t_now_kind, .ref q_t_now_wanted, .ref q_t_now_hours, .ref q_t_now_had, .ref q_t_now_due, .ref q_t_now_leftHour, .ref q_t_now_leftPressure, .ref q_t_now_note, .ref q_t_now_past, .ref q_t_now_ahead, .ref q_t_now_gets, .int t_now_leftOver])), (q_t_now_hours, zI E 5 t_now_hours), (q_t_now_ahead, zI E 5 t_now_ahead), (q_t_now_kind, zI E 5 t_now_kind), (q_t_now_wanted, zI E 5 t_now_wanted), (q_t_now_gets, zI E 5 t_now_gets)]) (wr := [(q_t, .inr (3, [.ref q_t_now, .ref q_t_images, .ref q_t_search, .ref q_t_reader, .int t_above, .int t_below, .int t_bads, .int t_nos, .int t_fulls]))]) (wc' := [(q_t_now, .inr (0, [.int t_now_pressure, .int t_now_day, .int t_now_wells, .int t_now_lefts, .int t_now_notes, .int t_now_undos, .ref q_t_now_kind, .ref q_t_now_wanted, .ref q_t_now_hours, .ref q_t_now_had, .ref q_t_now_due, .ref q_t_now_leftHour, .ref q_t_now_leftPressure, .ref q_t_now_note, .ref q_t_now_past, .ref q_t_now_ahead, .ref q_t_now_gets, .int o7.2.1])), (q_t_now_hours, zI E 5 t_now_hours), (q_t_now_ahead, zI E 5 o7.2.2.1), (q_t_now_kind, zI E 5 t_now_kind), (q_t_now_wanted, zI E 5 t_now_wanted), (q_t_now_gets, zI E 5 o7.2.2.2)]) (ws2 := [(q_t, .inr (3, [.ref q_t_now, .ref q_t_images, .ref q_t_search, .ref q_t_reader, .int t_above, .int t_below, .int t_bads, .int t_nos, .int t_fulls])), (q_t_now, .inr (0, [.int t_now_pressure, .int t_now_day, .int t_now_wells, .int t_now_lefts, .int t_now_notes, .int t_now_undos, .ref q_t_now_kind, .ref q_t_now_wanted, .ref q_t_now_hours, .ref q_t_now_had, .ref q_t_now_due, .ref q_t_now_leftHour, .ref q_t_now_leftPressure, .ref q_t_now_note, .ref q_t_now_past, .ref q_t_now_ahead, .ref q_t_now_gets, .int o7.2.1])), (q_t_now_hours, zI E 5 t_now_hours), (q_t_now_ahead, zI E 5 o7.2.2.1), (q_t_now_kind, zI E 5 t_now_kind), (q_t_now_wanted, zI E 5 t_now_wanted), (q_t_now_gets, zI E 5 o7.2.2.2)]) (As := [.int a1, .int a2, .int (t_now_pressure / (2 : Int32))]) (st2 := [.int o7.1]) C [1, 2, 3, 4, 5, 6] [0] [0, 1, 2, 3, 4, 5, 6] rfl rfl rfl rfl (by decide) rfl rfl (c_X1_getsAt F ho8) (goodVT consT W_517 W_462 W_463 W_59 W_464) rfl rfl rfl hd_X1_getsAt ⟨Nat.le_of_ble_eq_true rfl, Nat.le_of_ble_eq_true rfl⟩ rfl rfl rfl (j := 0) rfl rfl rfl (Nat.le_of_ble_eq_true rfl) dX4_noons_48 ⟨Nat.zero_le _, Nat.zero_le _⟩ ?_
        refine z_istore (L' := [(4, .int o7.1), (0, .ref q_t), (1, .int a1), (2, .int a2), (3, .int a3)]) C dX4_noons_51 (by decide) rfl ?_
        refine z_aload_n C dX4_noons_53 rfl 1 rfl ?_
        refine z_get C inT_X4 0 rfl rfl 0 (by decide) rfl (mc W_226) rfl dX4_noons_54 ?_
        refine z_iload_n C dX4_noons_57 rfl 2 rfl ?_
        refine z_iload_n C dX4_noons_58 rfl 3 rfl ?_
        refine z_aload_n C dX4_noons_59 rfl 1 rfl ?_
        refine z_get C inT_X4 0 rfl rfl 0 (by decide) rfl (mc W_226) rfl dX4_noons_60 ?_
        refine z_get C inT_X1 1 rfl rfl 0 (by decide) rfl (mc W_83) rfl dX4_noons_63 ?_
        obtain ⟨o9, ho10, h⟩ := bnd_some h
        refine z_callV (wc := [(q_t_now, .inr (0, [.int t_now_pressure, .int t_now_day, .int t_now_wells, .int t_now_lefts, .int t_now_notes, .int t_now_undos, .ref q_t_now_kind, .ref q_t_now_wanted, .ref q_t_now_hours, .ref q_t_now_had, .ref q_t_now_due, .ref q_t_now_leftHour, .ref q_t_now_leftPressure, .ref q_t_now_note, .ref q_t_now_past, .ref q_t_now_ahead, .ref q_t_now_gets, .int o7.2.1])), (q_t_now_hours, zI E 5 t_now_hours), (q_t_now_ahead, zI E 5 o7.2.2.1), (q_t_now_kind, zI E 5 t_now_kind), (q_t_now_wanted, zI E 5 t_now_wanted), (q_t_now_gets, zI E 5 o7.2.2.2)]) (wr := [(q_t, .inr (3, [.ref q_t_now, .ref q_t_images, .ref q_t_search, .ref q_t_reader, .int t_above, .int t_below, .int t_bads, .int t_nos, .int t_fulls]))]) (wc' := [(q_t_now, .inr (0, [.int t_now_pressure, .int t_now_day, .int t_now_wells, .int t_now_lefts, .int t_now_notes, .int t_now_undos, .ref q_t_now_kind, .ref q_t_now_wanted, .ref q_t_now_hours, .ref q_t_now_had, .ref q_t_now_due, .ref q_t_now_leftHour, .ref q_t_now_leftPressure, .ref q_t_now_note, .ref q_t_now_past, .ref q_t_now_ahead, .ref q_t_now_gets, .int o9.2.1])), (q_t_now_hours, zI E 5 t_now_hours), (q_t_now_ahead, zI E 5 o9.2.2.1), (q_t_now_kind, zI E 5 t_now_kind), (q_t_now_wanted, zI E 5 t_now_wanted), (q_t_now_gets, zI E 5 o9.2.2.2)]) (ws2 := [(q_t, .inr (3, [.ref q_t_now, .ref q_t_images, .ref q_t_search, .ref q_t_reader, .int t_above, .int t_below, .int t_bads, .int t_nos, .int t_fulls])), (q_t_now, .inr (0, [.int t_now_pressure, .int t_now_day, .int t_now_wells, .int t_now_lefts, .int t_now_notes, .int t_now_undos, .ref q_t_now_kind, .ref q_t_now_wanted, .ref q_t_now_hours, .ref q_t_now_had, .ref q_t_now_due, .ref q_t_now_leftHour, .ref q_t_now_leftPressure, .ref q_t_now_note, .ref q_t_now_past, .ref q_t_now_ahead, .ref q_t_now_gets, .int o9.2.1])), (q_t_now_hours, zI E 5 t_now_hours), (q_t_now_ahead, zI E 5 o9.2.2.1), (q_t_now_kind, zI E 5 t_now_kind), (q_t_now_wanted, zI E 5 t_now_wanted), (q_t_now_gets, zI E 5 o9.2.2.2)]) (As := [.int a1, .int a2, .int t_now_pressure]) (st2 := [.int o9.1]) C [1, 2, 3, 4, 5, 6] [0] [0, 1, 2, 3, 4, 5, 6] rfl rfl rfl rfl (by decide) rfl rfl (c_X1_getsAt F ho10) (goodVT consT W_517 W_462 W_463 W_59 W_464) rfl rfl rfl hd_X1_getsAt ⟨Nat.le_of_ble_eq_true rfl, Nat.le_of_ble_eq_true rfl⟩ rfl rfl rfl (j := 0) rfl rfl rfl (Nat.le_of_ble_eq_true rfl) dX4_noons_66 ⟨Nat.zero_le _, Nat.zero_le _⟩ ?_
        refine z_istore (L' := [(5, .int o9.1), (4, .int o7.1), (0, .ref q_t), (1, .int a1), (2, .int a2), (3, .int a3)]) C dX4_noons_69 (by decide) rfl ?_
        refine z_aload_n C dX4_noons_71 rfl 2 rfl ?_
        refine z_iload_n C dX4_noons_72 rfl 5 rfl ?_
        refine z_iload C dX4_noons_73 1 rfl ?_
        refine z_imul C dX4_noons_75 ?_
        refine z_bipush (v := (10 : Int32)) C dX4_noons_76 (by decide) ?_
        refine z_iload_n C dX4_noons_78 rfl 5 rfl ?_
        refine z_isub C dX4_noons_79 ?_
        refine z_iload C dX4_noons_80 0 rfl ?_
        refine z_imul C dX4_noons_82 ?_
        refine z_iadd C dX4_noons_83 ?_
        refine z_bipush (v := (10 : Int32)) C dX4_noons_84 (by decide) ?_
        obtain ⟨o11, ho12, h⟩ := bnd_some h
        refine z_callV (wc := [(q_t, .inr (3, [.ref q_t_now, .ref q_t_images, .ref q_t_search, .ref q_t_reader, .int t_above, .int t_below, .int t_bads, .int t_nos, .int t_fulls]))]) (wr := [(q_t_now, .inr (0, [.int t_now_pressure, .int t_now_day, .int t_now_wells, .int t_now_lefts, .int t_now_notes, .int t_now_undos, .ref q_t_now_kind, .ref q_t_now_wanted, .ref q_t_now_hours, .ref q_t_now_had, .ref q_t_now_due, .ref q_t_now_leftHour, .ref q_t_now_leftPressure, .ref q_t_now_note, .ref q_t_now_past, .ref q_t_now_ahead, .ref q_t_now_gets, .int o9.2.1])), (q_t_now_hours, zI E 5 t_now_hours), (q_t_now_ahead, zI E 5 o9.2.2.1), (q_t_now_kind, zI E 5 t_now_kind), (q_t_now_wanted, zI E 5 t_now_wanted), (q_t_now_gets, zI E 5 o9.2.2.2)]) (wc' := [(q_t, .inr (3, [.ref q_t_now, .ref q_t_images, .ref q_t_search, .ref q_t_reader, .int o11.1, .int o11.2, .int t_bads, .int t_nos, .int t_fulls]))]) (ws2 := [(q_t, .inr (3, [.ref q_t_now, .ref q_t_images, .ref q_t_search, .ref q_t_reader, .int o11.1, .int o11.2, .int t_bads, .int t_nos, .int t_fulls])), (q_t_now, .inr (0, [.int t_now_pressure, .int t_now_day, .int t_now_wells, .int t_now_lefts, .int t_now_notes, .int t_now_undos, .ref q_t_now_kind, .ref q_t_now_wanted, .ref q_t_now_hours, .ref q_t_now_had, .ref q_t_now_due, .ref q_t_now_leftHour, .ref q_t_now_leftPressure, .ref q_t_now_note, .ref q_t_now_past, .ref q_t_now_ahead, .ref q_t_now_gets, .int o9.2.1])), (q_t_now_hours, zI E 5 t_now_hours), (q_t_now_ahead, zI E 5 o9.2.2.1), (q_t_now_kind, zI E 5 t_now_kind), (q_t_now_wanted, zI E 5 t_now_wanted), (q_t_now_gets, zI E 5 o9.2.2.2)]) (As := [.int ((a3 * o7.1) + (((10 : Int32) - a3) * o9.1)), .int (10 : Int32)]) (st2 := []) C [0] [1, 2, 3, 4, 5, 6] [6, 0, 1, 2, 3, 4, 5] rfl rfl rfl rfl (by decide) rfl rfl (c_X4_setFraction F ho12) (goodVT consT W_609 W_611 W_25 W_58 W_612) rfl rfl rfl hd_X4_setFraction ⟨Nat.le_of_ble_eq_true rfl, Nat.le_of_ble_eq_true rfl⟩ rfl rfl rfl (j := 0) rfl rfl rfl (Nat.le_of_ble_eq_true rfl) dX4_noons_86 ⟨Nat.zero_le _, Nat.zero_le _⟩ ?_
        refine z_iconst (v := (1 : Int32)) C dX4_noons_89 (by decide) ?_
        obtain rfl := Option.some.inj h
        exact z_iret (v := (1 : Int32)) C hr dX4_noons_90
      · replace h := (if_pos c).symm.trans h
        refine z_sub [0] (L' := [(0, .ref q_t)]) rfl ?_
        exact (l_X4_noons_b28 F a1 a2 a3 t_now_pressure t_now_wells t_now_hours t_now_kind t_now_wanted C hr) t_above t_below t_bads t_now_leftOver t_now_ahead t_now_gets h
def rm_X4_years : Room := { frames := 4, cells := 0, slots := 0, locals := 93 }
theorem hd_X4_years : yX4_years.cls = yX4_years.cls ∧ yX4_years.cls ≠ "java/lang/invoke/MethodHandle" ∧ yX4_years.cls ≠ "java/lang/invoke/VarHandle" ∧ (parseMethodDescriptor yX4_years.desc).map (fun d => d.parameters.length) = some 2 := by decide +kernel
abbrev wsX4_years : List Cond := .code yX4_years cX4_years 7 (some .int) :: WALL
set_option maxRecDepth 100000 in
set_option maxHeartbeats 4000000 in
theorem l_X4_years_b20 {p : Program} {l : Launch} {e : Env} {s : State} {m : MethodId} {args : Array Value} {below : List Frame} {meth : Method} {c : Code} {E : zE} {A : Nat → Prop} {q_t q_t_now q_t_now_hours q_t_now_ahead q_t_now_kind q_t_now_wanted q_t_now_gets q_t_images q_t_search q_t_reader q_t_now_had q_t_now_due q_t_now_leftHour q_t_now_leftPressure q_t_now_note q_t_now_past : Nat} {t_above : Int32} {t_below : Int32} {t_nos : Int32} {t_fulls : Int32} {t_now_pressure : Int32} {t_now_day : Int32} {t_now_lefts : Int32} {t_now_notes : Int32} {t_now_undos : Int32} {o : Int32 × Int32 × Int32 × (Nat → Int32) × (Nat → Int32)} (F : Nat) (a1 : Int32) (a2 : Int32) (t_now_wells : Int32) (t_now_hours : Nat → Int32) (t_now_kind : Nat → Int32) (t_now_wanted : Nat → Int32) (C : zC p s m args c meth cX4_years 7 RX4 wsX4_years E A) (hr : meth.sig.returnType = some .int) : ∀  (t_bads : Int32) (t_now_leftOver : Int32) (t_now_ahead : Nat → Int32) (t_now_gets : Nat → Int32), f_X4_years_b20 F a1 a2 t_now_wells t_now_hours t_now_kind t_now_wanted t_bads t_now_leftOver t_now_ahead t_now_gets = some o → zG p l e rm_X4_years s m args below meth c 7 E A 0 0 (MQ below (zQ E A (some (.int o.1)) [(q_t, .inr (3, [.ref q_t_now, .ref q_t_images, .ref q_t_search, .ref q_t_reader, .int t_above, .int t_below, .int o.2.1, .int t_nos, .int t_fulls])), (q_t_now, .inr (0, [.int t_now_pressure, .int t_now_day, .int t_now_wells, .int t_now_lefts, .int t_now_notes, .int t_now_undos, .ref q_t_now_kind, .ref q_t_now_wanted, .ref q_t_now_hours, .ref q_t_now_had, .ref q_t_now_due, .ref q_t_now_leftHour, .ref q_t_now_leftPressure, .ref q_t_now_note, .ref q_t_now_past, .ref q_t_now_ahead, .ref q_t_now_gets, .int o.2.2.1])), (q_t_now_hours, zI E 5 t_now_hours), (q_t_now_ahead, zI E 5 o.2.2.2.1), (q_t_now_kind, zI E 5 t_now_kind), (q_t_now_wanted, zI E 5 t_now_wanted), (q_t_now_gets, zI E 5 o.2.2.2.2)]) args s 0 0 A) [(q_t, .inr (3, [.ref q_t_now, .ref q_t_images, .ref q_t_search, .ref q_t_reader, .int t_above, .int t_below, .int t_bads, .int t_nos, .int t_fulls])), (q_t_now, .inr (0, [.int t_now_pressure, .int t_now_day, .int t_now_wells, .int t_now_lefts, .int t_now_notes, .int t_now_undos, .ref q_t_now_kind, .ref q_t_now_wanted, .ref q_t_now_hours, .ref q_t_now_had, .ref q_t_now_due, .ref q_t_now_leftHour, .ref q_t_now_leftPressure, .ref q_t_now_note, .ref q_t_now_past, .ref q_t_now_ahead, .ref q_t_now_gets, .int t_now_leftOver])), (q_t_now_hours, zI E 5 t_now_hours), (q_t_now_ahead, zI E 5 t_now_ahead), (q_t_now_kind, zI E 5 t_now_kind), (q_t_now_wanted, zI E 5 t_now_wanted), (q_t_now_gets, zI E 5 t_now_gets)] 20 [(0, .ref q_t)] [] := by
  intro t_bads t_now_leftOver t_now_ahead t_now_gets h
  rw [f_X4_years_b20] at h
  refine z_aload_n C dX4_years_20 rfl 0 rfl ?_
  obtain ⟨o5, ho6, h⟩ := bnd_some h
  refine z_callV (wc := [(q_t, .inr (3, [.ref q_t_now, .ref q_t_images, .ref q_t_search, .ref q_t_reader, .int t_above, .int t_below, .int t_bads, .int t_nos, .int t_fulls]))]) (wr := [(q_t_now, .inr (0, [.int t_now_pressure, .int t_now_day, .int t_now_wells, .int t_now_lefts, .int t_now_notes, .int t_now_undos, .ref q_t_now_kind, .ref q_t_now_wanted, .ref q_t_now_hours, .ref q_t_now_had, .ref q_t_now_due, .ref q_t_now_leftHour, .ref q_t_now_leftPressure, .ref q_t_now_note, .ref q_t_now_past, .ref q_t_now_ahead, .ref q_t_now_gets, .int t_now_leftOver])), (q_t_now_hours, zI E 5 t_now_hours), (q_t_now_ahead, zI E 5 t_now_ahead), (q_t_now_kind, zI E 5 t_now_kind), (q_t_now_wanted, zI E 5 t_now_wanted), (q_t_now_gets, zI E 5 t_now_gets)]) (wc' := [(q_t, .inr (3, [.ref q_t_now, .ref q_t_images, .ref q_t_search, .ref q_t_reader, .int t_above, .int t_below, .int o5.2, .int t_nos, .int t_fulls]))]) (ws2 := [(q_t, .inr (3, [.ref q_t_now, .ref q_t_images, .ref q_t_search, .ref q_t_reader, .int t_above, .int t_below, .int o5.2, .int t_nos, .int t_fulls])), (q_t_now, .inr (0, [.int t_now_pressure, .int t_now_day, .int t_now_wells, .int t_now_lefts, .int t_now_notes, .int t_now_undos, .ref q_t_now_kind, .ref q_t_now_wanted, .ref q_t_now_hours, .ref q_t_now_had, .ref q_t_now_due, .ref q_t_now_leftHour, .ref q_t_now_leftPressure, .ref q_t_now_note, .ref q_t_now_past, .ref q_t_now_ahead, .ref q_t_now_gets, .int t_now_leftOver])), (q_t_now_hours, zI E 5 t_now_hours), (q_t_now_ahead, zI E 5 t_now_ahead), (q_t_now_kind, zI E 5 t_now_kind), (q_t_now_wanted, zI E 5 t_now_wanted), (q_t_now_gets, zI E 5 t_now_gets)]) (As := []) (st2 := [.int o5.1]) C [0] [1, 2, 3, 4, 5, 6] [6, 0, 1, 2, 3, 4, 5] rfl rfl rfl rfl (by decide) rfl rfl (c_X4_bad F ho6) (goodVT consT W_264 W_266 W_0 W_58 W_267) rfl rfl rfl hd_X4_bad ⟨Nat.le_of_ble_eq_true rfl, Nat.le_of_ble_eq_true rfl⟩ rfl rfl rfl (j := 0) rfl rfl rfl (Nat.le_of_ble_eq_true rfl) dX4_years_21 ⟨Nat.zero_le _, Nat.zero_le _⟩ ?_
  obtain rfl := Option.some.inj h
  exact z_iret (v := o5.1) C hr dX4_years_24
set_option maxRecDepth 100000 in
set_option maxHeartbeats 4000000 in
theorem l_X4_years_b34 {p : Program} {l : Launch} {e : Env} {s : State} {m : MethodId} {args : Array Value} {below : List Frame} {meth : Method} {c : Code} {E : zE} {A : Nat → Prop} {q_t q_t_now q_t_now_hours q_t_now_ahead q_t_now_kind q_t_now_wanted q_t_now_gets q_t_images q_t_search q_t_reader q_t_now_had q_t_now_due q_t_now_leftHour q_t_now_leftPressure q_t_now_note q_t_now_past : Nat} {t_above : Int32} {t_below : Int32} {t_nos : Int32} {t_fulls : Int32} {t_now_pressure : Int32} {t_now_day : Int32} {t_now_lefts : Int32} {t_now_notes : Int32} {t_now_undos : Int32} {o : Int32 × Int32 × Int32 × (Nat → Int32) × (Nat → Int32)} (F : Nat) (a1 : Int32) (a2 : Int32) (t_now_wells : Int32) (t_now_hours : Nat → Int32) (t_now_kind : Nat → Int32) (t_now_wanted : Nat → Int32) (C : zC p s m args c meth cX4_years 7 RX4 wsX4_years E A) (hr : meth.sig.returnType = some .int) : ∀ (n : Nat) (v3 : Int64) (v5 : Int32) (v6 : Int32) (t_bads : Int32) (t_now_leftOver : Int32) (t_now_ahead : Nat → Int32) (t_now_gets : Nat → Int32), f_X4_years_b34 F a1 a2 t_now_wells t_now_hours t_now_kind t_now_wanted n v3 v5 v6 t_bads t_now_leftOver t_now_ahead t_now_gets = some o → zG p l e rm_X4_years s m args below meth c 7 E A 0 0 (MQ below (zQ E A (some (.int o.1)) [(q_t, .inr (3, [.ref q_t_now, .ref q_t_images, .ref q_t_search, .ref q_t_reader, .int t_above, .int t_below, .int o.2.1, .int t_nos, .int t_fulls])), (q_t_now, .inr (0, [.int t_now_pressure, .int t_now_day, .int t_now_wells, .int t_now_lefts, .int t_now_notes, .int t_now_undos, .ref q_t_now_kind, .ref q_t_now_wanted, .ref q_t_now_hours, .ref q_t_now_had, .ref q_t_now_due, .ref q_t_now_leftHour, .ref q_t_now_leftPressure, .ref q_t_now_note, .ref q_t_now_past, .ref q_t_now_ahead, .ref q_t_now_gets, .int o.2.2.1])), (q_t_now_hours, zI E 5 t_now_hours), (q_t_now_ahead, zI E 5 o.2.2.2.1), (q_t_now_kind, zI E 5 t_now_kind), (q_t_now_wanted, zI E 5 t_now_wanted), (q_t_now_gets, zI E 5 o.2.2.2.2)]) args s 0 0 A) [(q_t, .inr (3, [.ref q_t_now, .ref q_t_images, .ref q_t_search, .ref q_t_reader, .int t_above, .int t_below, .int t_bads, .int t_nos, .int t_fulls])), (q_t_now, .inr (0, [.int t_now_pressure, .int t_now_day, .int t_now_wells, .int t_now_lefts, .int t_now_notes, .int t_now_undos, .ref q_t_now_kind, .ref q_t_now_wanted, .ref q_t_now_hours, .ref q_t_now_had, .ref q_t_now_due, .ref q_t_now_leftHour, .ref q_t_now_leftPressure, .ref q_t_now_note, .ref q_t_now_past, .ref q_t_now_ahead, .ref q_t_now_gets, .int t_now_leftOver])), (q_t_now_hours, zI E 5 t_now_hours), (q_t_now_ahead, zI E 5 t_now_ahead), (q_t_now_kind, zI E 5 t_now_kind), (q_t_now_wanted, zI E 5 t_now_wanted), (q_t_now_gets, zI E 5 t_now_gets)] 34 [(0, .ref q_t), (2, .int a2), (3, .long v3), (5, .int v5), (6, .int v6)] [] := by
  intro n
  induction n with
  | zero =>
    intro v3 v5 v6 t_bads t_now_leftOver t_now_ahead t_now_gets h
    rw [f_X4_years_b34] at h
    cases h
  | succ n ih =>
    intro v3 v5 v6 t_bads t_now_leftOver t_now_ahead t_now_gets h
    rw [f_X4_years_b34] at h
    refine z_iload C dX4_years_34 4 rfl ?_
    refine z_iload_n C dX4_years_36 rfl 1 rfl ?_
    refine z_icmp_ge (tgt := 82) C dX4_years_37 (by decide) (fun c => ?_) (fun c => ?_)
    · replace h := (if_pos c).symm.trans h
      refine z_iload C dX4_years_82 3 rfl ?_
      obtain rfl := Option.some.inj h
      exact z_iret (v := v5) C hr dX4_years_84
    · replace h := (if_neg c).symm.trans h
      refine z_lload_n C dX4_years_40 rfl 2 rfl ?_
      refine z_ldc2 (v := (1103515245 : Int64)) C dX4_years_41 (mc W_621) ?_
      refine z_lmul C dX4_years_44 ?_
      refine z_ldc2 (v := (12345 : Int64)) C dX4_years_45 (mc W_622) ?_
      refine z_ladd C dX4_years_48 ?_
      refine z_ldc2 (v := (2147483648 : Int64)) C dX4_years_49 (mc W_623) ?_
      refine z_lrem C dX4_years_52 (by decide) ?_
      refine z_lstore_n (L' := [(3, .long (((v3 * (1103515245 : Int64)) + (12345 : Int64)) - ((v3 * (1103515245 : Int64)) + (12345 : Int64)) / (2147483648 : Int64) * (2147483648 : Int64))), (0, .ref q_t), (2, .int a2), (5, .int v5), (6, .int v6)]) C dX4_years_53 rfl (by decide) rfl ?_
      refine z_iload C dX4_years_54 3 rfl ?_
      refine z_aload_n C dX4_years_56 rfl 1 rfl ?_
      refine z_get C inT_X4 0 rfl rfl 0 (by decide) rfl (mc W_226) rfl dX4_years_57 ?_
      refine z_lload_n C dX4_years_60 rfl 0 rfl ?_
      refine z_ldc2 (v := (65536 : Int64)) C dX4_years_61 (mc W_624) ?_
      refine z_ldiv C dX4_years_64 (by decide) ?_
      refine z_ldc2 (v := (61 : Int64)) C dX4_years_65 (mc W_625) ?_
      refine z_lrem C dX4_years_68 (by decide) ?_
      refine z_l2i C dX4_years_69 ?_
      obtain ⟨o7, ho8, h⟩ := bnd_some h
      refine z_callV (wc := [(q_t_now, .inr (0, [.int t_now_pressure, .int t_now_day, .int t_now_wells, .int t_now_lefts, .int t_now_notes, .int t_now_undos, .ref q_t_now_kind, .ref q_t_now_wanted, .ref q_t_now_hours, .ref q_t_now_had, .ref q_t_now_due, .ref q_t_now_leftHour, .ref q_t_now_leftPressure, .ref q_t_now_note, .ref q_t_now_past, .ref q_t_now_ahead, .ref q_t_now_gets, .int t_now_leftOver])), (q_t_now_hours, zI E 5 t_now_hours), (q_t_now_ahead, zI E 5 t_now_ahead), (q_t_now_kind, zI E 5 t_now_kind), (q_t_now_wanted, zI E 5 t_now_wanted), (q_t_now_gets, zI E 5 t_now_gets)]) (wr := [(q_t, .inr (3, [.ref q_t_now, .ref q_t_images, .ref q_t_search, .ref q_t_reader, .int t_above, .int t_below, .int t_bads, .int t_nos, .int t_fulls]))]) (wc' := [(q_t_now, .inr (0, [.int t_now_pressure, .int t_now_day, .int t_now_wells, .int t_now_lefts, .int t_now_notes, .int t_now_undos, .ref q_t_now_kind, .ref q_t_now_wanted, .ref q_t_now_hours, .ref q_t_now_had, .ref q_t_now_due, .ref q_t_now_leftHour, .ref q_t_now_leftPressure, .ref q_t_now_note, .ref q_t_now_past, .ref q_t_now_ahead, .ref q_t_now_gets, .int o7.2.1])), (q_t_now_hours, zI E 5 t_now_hours), (q_t_now_ahead, zI E 5 o7.2.2.1), (q_t_now_kind, zI E 5 t_now_kind), (q_t_now_wanted, zI E 5 t_now_wanted), (q_t_now_gets, zI E 5 o7.2.2.2)]) (ws2 := [(q_t, .inr (3, [.ref q_t_now, .ref q_t_images, .ref q_t_search, .ref q_t_reader, .int t_above, .int t_below, .int t_bads, .int t_nos, .int t_fulls])), (q_t_now, .inr (0, [.int t_now_pressure, .int t_now_day, .int t_now_wells, .int t_now_lefts, .int t_now_notes, .int t_now_undos, .ref q_t_now_kind, .ref q_t_now_wanted, .ref q_t_now_hours, .ref q_t_now_had, .ref q_t_now_due, .ref q_t_now_leftHour, .ref q_t_now_leftPressure, .ref q_t_now_note, .ref q_t_now_past, .ref q_t_now_ahead, .ref q_t_now_gets, .int o7.2.1])), (q_t_now_hours, zI E 5 t_now_hours), (q_t_now_ahead, zI E 5 o7.2.2.1), (q_t_now_kind, zI E 5 t_now_kind), (q_t_now_wanted, zI E 5 t_now_wanted), (q_t_now_gets, zI E 5 o7.2.2.2)]) (As := [.int ((((((v3 * (1103515245 : Int64)) + (12345 : Int64)) - ((v3 * (1103515245 : Int64)) + (12345 : Int64)) / (2147483648 : Int64) * (2147483648 : Int64)) / (65536 : Int64)) - ((((v3 * (1103515245 : Int64)) + (12345 : Int64)) - ((v3 * (1103515245 : Int64)) + (12345 : Int64)) / (2147483648 : Int64) * (2147483648 : Int64)) / (65536 : Int64)) / (61 : Int64) * (61 : Int64)).toInt32)]) (st2 := [.int o7.1, .int v5]) C [1, 2, 3, 4, 5, 6] [0] [0, 1, 2, 3, 4, 5, 6] rfl rfl rfl rfl (by decide) rfl rfl (c_X1_dailyOfAll F ho8) (goodVT consT W_626 W_627 W_628 W_59 W_629) rfl rfl rfl hd_X1_dailyOfAll ⟨Nat.le_of_ble_eq_true rfl, Nat.le_of_ble_eq_true rfl⟩ rfl rfl rfl (j := 0) rfl rfl rfl (Nat.le_of_ble_eq_true rfl) dX4_years_70 ⟨Nat.zero_le _, Nat.zero_le _⟩ ?_
      refine z_iadd C dX4_years_73 ?_
      refine z_istore (L' := [(5, .int (v5 + o7.1)), (3, .long (((v3 * (1103515245 : Int64)) + (12345 : Int64)) - ((v3 * (1103515245 : Int64)) + (12345 : Int64)) / (2147483648 : Int64) * (2147483648 : Int64))), (0, .ref q_t), (2, .int a2), (6, .int v6)]) C dX4_years_74 (by decide) rfl ?_
      refine z_iinc (v := v6 + (1 : Int32)) (L' := [(6, .int (v6 + (1 : Int32))), (5, .int (v5 + o7.1)), (3, .long (((v3 * (1103515245 : Int64)) + (12345 : Int64)) - ((v3 * (1103515245 : Int64)) + (12345 : Int64)) / (2147483648 : Int64) * (2147483648 : Int64))), (0, .ref q_t), (2, .int a2)]) C dX4_years_76 4 rfl rfl (by decide) rfl ?_
      refine z_goto (tgt := 34) C dX4_years_79 (by decide) ?_
      refine z_sub [3, 4, 2, 1, 0] (L' := [(0, .ref q_t), (2, .int a2), (3, .long (((v3 * (1103515245 : Int64)) + (12345 : Int64)) - ((v3 * (1103515245 : Int64)) + (12345 : Int64)) / (2147483648 : Int64) * (2147483648 : Int64))), (5, .int (v5 + o7.1)), (6, .int (v6 + (1 : Int32)))]) rfl ?_
      exact ih (((v3 * (1103515245 : Int64)) + (12345 : Int64)) - ((v3 * (1103515245 : Int64)) + (12345 : Int64)) / (2147483648 : Int64) * (2147483648 : Int64)) (v5 + o7.1) (v6 + (1 : Int32)) t_bads o7.2.1 o7.2.2.1 o7.2.2.2 h
set_option maxRecDepth 100000 in
set_option maxHeartbeats 4000000 in
theorem c_X4_years {l : Launch} {E : zE} {q_t q_t_now q_t_now_hours q_t_now_ahead q_t_now_kind q_t_now_wanted q_t_now_gets q_t_images q_t_search q_t_reader q_t_now_had q_t_now_due q_t_now_leftHour q_t_now_leftPressure q_t_now_note q_t_now_past : Nat} {t_above : Int32} {t_below : Int32} {t_nos : Int32} {t_fulls : Int32} {t_now_pressure : Int32} {t_now_day : Int32} {t_now_lefts : Int32} {t_now_notes : Int32} {t_now_undos : Int32} {a1 : Int32} {a2 : Int32} {t_now_wells : Int32} {t_now_hours : Nat → Int32} {t_now_kind : Nat → Int32} {t_now_wanted : Nat → Int32} {t_bads : Int32} {t_now_leftOver : Int32} {t_now_ahead : Nat → Int32} {t_now_gets : Nat → Int32} {o : Int32 × Int32 × Int32 × (Nat → Int32) × (Nat → Int32)} (F : Nat) (h : f_X4_years F a1 a2 t_now_wells t_now_hours t_now_kind t_now_wanted t_bads t_now_leftOver t_now_ahead t_now_gets = some o) : zM l yX4_years wsX4_years rm_X4_years E [.ref q_t, .int a1, .int a2] [(q_t, .inr (3, [.ref q_t_now, .ref q_t_images, .ref q_t_search, .ref q_t_reader, .int t_above, .int t_below, .int t_bads, .int t_nos, .int t_fulls])), (q_t_now, .inr (0, [.int t_now_pressure, .int t_now_day, .int t_now_wells, .int t_now_lefts, .int t_now_notes, .int t_now_undos, .ref q_t_now_kind, .ref q_t_now_wanted, .ref q_t_now_hours, .ref q_t_now_had, .ref q_t_now_due, .ref q_t_now_leftHour, .ref q_t_now_leftPressure, .ref q_t_now_note, .ref q_t_now_past, .ref q_t_now_ahead, .ref q_t_now_gets, .int t_now_leftOver])), (q_t_now_hours, zI E 5 t_now_hours), (q_t_now_ahead, zI E 5 t_now_ahead), (q_t_now_kind, zI E 5 t_now_kind), (q_t_now_wanted, zI E 5 t_now_wanted), (q_t_now_gets, zI E 5 t_now_gets)] (some (.int o.1)) [(q_t, .inr (3, [.ref q_t_now, .ref q_t_images, .ref q_t_search, .ref q_t_reader, .int t_above, .int t_below, .int o.2.1, .int t_nos, .int t_fulls])), (q_t_now, .inr (0, [.int t_now_pressure, .int t_now_day, .int t_now_wells, .int t_now_lefts, .int t_now_notes, .int t_now_undos, .ref q_t_now_kind, .ref q_t_now_wanted, .ref q_t_now_hours, .ref q_t_now_had, .ref q_t_now_due, .ref q_t_now_leftHour, .ref q_t_now_leftPressure, .ref q_t_now_note, .ref q_t_now_past, .ref q_t_now_ahead, .ref q_t_now_gets, .int o.2.2.1])), (q_t_now_hours, zI E 5 t_now_hours), (q_t_now_ahead, zI E 5 o.2.2.2.1), (q_t_now_kind, zI E 5 t_now_kind), (q_t_now_wanted, zI E 5 t_now_wanted), (q_t_now_gets, zI E 5 o.2.2.2.2)] := by
  refine zM.of (cc := cX4_years) (maxL := 7) (ret := (some .int)) (by decide +kernel) rfl (Nat.le_of_ble_eq_true rfl) ?_
  intro p e s m args below meth c A C hr
  have C : zC p s m args c meth cX4_years 7 RX4 wsX4_years E A := C
  rw [f_X4_years] at h
  refine z_iload_n C dX4_years_0 rfl 1 rfl ?_
  refine z_iconst (v := (0 : Int32)) C dX4_years_1 (by decide) ?_
  refine z_ldc (v := (999999 : Int32)) C dX4_years_2 (mc W_620) ?_
  obtain ⟨o1, ho2, h⟩ := bnd_some h
  refine z_callS (wc := []) (wr := [(q_t, .inr (3, [.ref q_t_now, .ref q_t_images, .ref q_t_search, .ref q_t_reader, .int t_above, .int t_below, .int t_bads, .int t_nos, .int t_fulls])), (q_t_now, .inr (0, [.int t_now_pressure, .int t_now_day, .int t_now_wells, .int t_now_lefts, .int t_now_notes, .int t_now_undos, .ref q_t_now_kind, .ref q_t_now_wanted, .ref q_t_now_hours, .ref q_t_now_had, .ref q_t_now_due, .ref q_t_now_leftHour, .ref q_t_now_leftPressure, .ref q_t_now_note, .ref q_t_now_past, .ref q_t_now_ahead, .ref q_t_now_gets, .int t_now_leftOver])), (q_t_now_hours, zI E 5 t_now_hours), (q_t_now_ahead, zI E 5 t_now_ahead), (q_t_now_kind, zI E 5 t_now_kind), (q_t_now_wanted, zI E 5 t_now_wanted), (q_t_now_gets, zI E 5 t_now_gets)]) (wc' := []) (ws2 := [(q_t, .inr (3, [.ref q_t_now, .ref q_t_images, .ref q_t_search, .ref q_t_reader, .int t_above, .int t_below, .int t_bads, .int t_nos, .int t_fulls])), (q_t_now, .inr (0, [.int t_now_pressure, .int t_now_day, .int t_now_wells, .int t_now_lefts, .int t_now_notes, .int t_now_undos, .ref q_t_now_kind, .ref q_t_now_wanted, .ref q_t_now_hours, .ref q_t_now_had, .ref q_t_now_due, .ref q_t_now_leftHour, .ref q_t_now_leftPressure, .ref q_t_now_note, .ref q_t_now_past, .ref q_t_now_ahead, .ref q_t_now_gets, .int t_now_leftOver])), (q_t_now_hours, zI E 5 t_now_hours), (q_t_now_ahead, zI E 5 t_now_ahead), (q_t_now_kind, zI E 5 t_now_kind), (q_t_now_wanted, zI E 5 t_now_wanted), (q_t_now_gets, zI E 5 t_now_gets)]) (As := [.int a1, .int (0 : Int32), .int (999999 : Int32)]) (st2 := [.int o1]) C [] [0, 1, 2, 3, 4, 5, 6] [0, 1, 2, 3, 4, 5, 6] rfl rfl rfl rfl (by decide) rfl rfl (c_X4_within F ho2) (goodST consT W_261 W_262 W_58 W_263) rfl rfl rfl hd_X4_within ⟨Nat.le_of_ble_eq_true rfl, Nat.le_of_ble_eq_true rfl⟩ rfl rfl rfl (Nat.le_of_ble_eq_true rfl) dX4_years_4 ⟨Nat.zero_le _, Nat.zero_le _⟩ ?_
  refine z_if_eq (tgt := 20) C dX4_years_7 (by decide) (fun c => ?_) (fun c => ?_)
  · replace h := (if_pos c).symm.trans h
    refine z_sub [0] (L' := [(0, .ref q_t)]) rfl ?_
    exact (l_X4_years_b20 F a1 a2 t_now_wells t_now_hours t_now_kind t_now_wanted C hr) t_bads t_now_leftOver t_now_ahead t_now_gets h
  · replace h := (if_neg c).symm.trans h
    refine z_iload_n C dX4_years_10 rfl 2 rfl ?_
    refine z_iconst (v := (0 : Int32)) C dX4_years_11 (by decide) ?_
    refine z_bipush (v := (60 : Int32)) C dX4_years_12 (by decide) ?_
    obtain ⟨o3, ho4, h⟩ := bnd_some h
    refine z_callS (wc := []) (wr := [(q_t, .inr (3, [.ref q_t_now, .ref q_t_images, .ref q_t_search, .ref q_t_reader, .int t_above, .int t_below, .int t_bads, .int t_nos, .int t_fulls])), (q_t_now, .inr (0, [.int t_now_pressure, .int t_now_day, .int t_now_wells, .int t_now_lefts, .int t_now_notes, .int t_now_undos, .ref q_t_now_kind, .ref q_t_now_wanted, .ref q_t_now_hours, .ref q_t_now_had, .ref q_t_now_due, .ref q_t_now_leftHour, .ref q_t_now_leftPressure, .ref q_t_now_note, .ref q_t_now_past, .ref q_t_now_ahead, .ref q_t_now_gets, .int t_now_leftOver])), (q_t_now_hours, zI E 5 t_now_hours), (q_t_now_ahead, zI E 5 t_now_ahead), (q_t_now_kind, zI E 5 t_now_kind), (q_t_now_wanted, zI E 5 t_now_wanted), (q_t_now_gets, zI E 5 t_now_gets)]) (wc' := []) (ws2 := [(q_t, .inr (3, [.ref q_t_now, .ref q_t_images, .ref q_t_search, .ref q_t_reader, .int t_above, .int t_below, .int t_bads, .int t_nos, .int t_fulls])), (q_t_now, .inr (0, [.int t_now_pressure, .int t_now_day, .int t_now_wells, .int t_now_lefts, .int t_now_notes, .int t_now_undos, .ref q_t_now_kind, .ref q_t_now_wanted, .ref q_t_now_hours, .ref q_t_now_had, .ref q_t_now_due, .ref q_t_now_leftHour, .ref q_t_now_leftPressure, .ref q_t_now_note, .ref q_t_now_past, .ref q_t_now_ahead, .ref q_t_now_gets, .int t_now_leftOver])), (q_t_now_hours, zI E 5 t_now_hours), (q_t_now_ahead, zI E 5 t_now_ahead), (q_t_now_kind, zI E 5 t_now_kind), (q_t_now_wanted, zI E 5 t_now_wanted), (q_t_now_gets, zI E 5 t_now_gets)]) (As := [.int a2, .int (0 : Int32), .int (60 : Int32)]) (st2 := [.int o3]) C [] [0, 1, 2, 3, 4, 5, 6] [0, 1, 2, 3, 4, 5, 6] rfl rfl rfl rfl (by decide) rfl rfl (c_X4_within F ho4) (goodST consT W_261 W_262 W_58 W_263) rfl rfl rfl hd_X4_within ⟨Nat.le_of_ble_eq_true rfl, Nat.le_of_ble_eq_true rfl⟩ rfl rfl rfl (Nat.le_of_ble_eq_true rfl) dX4_years_14 ⟨Nat.zero_le _, Nat.zero_le _⟩ ?_
    refine z_if_ne (tgt := 25) C dX4_years_17 (by decide) (fun c => ?_) (fun c => ?_)
    · replace h := (if_neg c).symm.trans h
      refine z_iload_n C dX4_years_25 rfl 1 rfl ?_
      refine z_i2l C dX4_years_26 ?_
      refine z_lstore_n (L' := [(3, .long a1.toInt64), (0, .ref q_t), (1, .int a1), (2, .int a2)]) C dX4_years_27 rfl (by decide) rfl ?_
      refine z_iconst (v := (0 : Int32)) C dX4_years_28 (by decide) ?_
      refine z_istore (L' := [(5, .int (0 : Int32)), (3, .long a1.toInt64), (0, .ref q_t), (1, .int a1), (2, .int a2)]) C dX4_years_29 (by decide) rfl ?_
      refine z_iconst (v := (0 : Int32)) C dX4_years_31 (by decide) ?_
      refine z_istore (L' := [(6, .int (0 : Int32)), (5, .int (0 : Int32)), (3, .long a1.toInt64), (0, .ref q_t), (1, .int a1), (2, .int a2)]) C dX4_years_32 (by decide) rfl ?_
      refine z_sub [3, 5, 2, 1, 0] (L' := [(0, .ref q_t), (2, .int a2), (3, .long a1.toInt64), (5, .int (0 : Int32)), (6, .int (0 : Int32))]) rfl ?_
      exact (l_X4_years_b34 F a1 a2 t_now_wells t_now_hours t_now_kind t_now_wanted C hr F) a1.toInt64 (0 : Int32) (0 : Int32) t_bads t_now_leftOver t_now_ahead t_now_gets h
    · replace h := (if_pos c).symm.trans h
      refine z_sub [0] (L' := [(0, .ref q_t)]) rfl ?_
      exact (l_X4_years_b20 F a1 a2 t_now_wells t_now_hours t_now_kind t_now_wanted C hr) t_bads t_now_leftOver t_now_ahead t_now_gets h
def rm_X4_part : Room := { frames := 1, cells := 0, slots := 0, locals := 22 }
theorem hd_X4_part : yX4_part.cls = yX4_part.cls ∧ yX4_part.cls ≠ "java/lang/invoke/MethodHandle" ∧ yX4_part.cls ≠ "java/lang/invoke/VarHandle" ∧ (parseMethodDescriptor yX4_part.desc).map (fun d => d.parameters.length) = some 1 := by decide +kernel
abbrev wsX4_part : List Cond := .code yX4_part cX4_part 2 (some .long) :: WALL
set_option maxRecDepth 100000 in
set_option maxHeartbeats 4000000 in
theorem c_X4_part {l : Launch} {E : zE} {q_t q_t_now q_t_images q_t_search q_t_reader : Nat} {t_nos : Int32} {t_fulls : Int32} {a1 : Int32} {t_above : Int32} {t_below : Int32} {t_bads : Int32} {o : Int64 × Int32} (F : Nat) (h : f_X4_part F a1 t_above t_below t_bads = some o) : zM l yX4_part wsX4_part rm_X4_part E [.ref q_t, .int a1] [(q_t, .inr (3, [.ref q_t_now, .ref q_t_images, .ref q_t_search, .ref q_t_reader, .int t_above, .int t_below, .int t_bads, .int t_nos, .int t_fulls]))] (some (.long o.1)) [(q_t, .inr (3, [.ref q_t_now, .ref q_t_images, .ref q_t_search, .ref q_t_reader, .int t_above, .int t_below, .int o.2, .int t_nos, .int t_fulls]))] := by
  refine zM.of (cc := cX4_part) (maxL := 2) (ret := (some .long)) (by decide +kernel) rfl (Nat.le_of_ble_eq_true rfl) ?_
  intro p e s m args below meth c A C hr
  have C : zC p s m args c meth cX4_part 2 RX4 wsX4_part E A := C
  rw [f_X4_part] at h
  refine z_iload_n C dX4_part_0 rfl 1 rfl ?_
  refine z_iconst (v := (0 : Int32)) C dX4_part_1 (by decide) ?_
  refine z_iconst (v := (1 : Int32)) C dX4_part_2 (by decide) ?_
  obtain ⟨o1, ho2, h⟩ := bnd_some h
  refine z_callS (wc := []) (wr := [(q_t, .inr (3, [.ref q_t_now, .ref q_t_images, .ref q_t_search, .ref q_t_reader, .int t_above, .int t_below, .int t_bads, .int t_nos, .int t_fulls]))]) (wc' := []) (ws2 := [(q_t, .inr (3, [.ref q_t_now, .ref q_t_images, .ref q_t_search, .ref q_t_reader, .int t_above, .int t_below, .int t_bads, .int t_nos, .int t_fulls]))]) (As := [.int a1, .int (0 : Int32), .int (1 : Int32)]) (st2 := [.int o1]) C [] [0] [0] rfl rfl rfl rfl (by decide) rfl rfl (c_X4_within F ho2) (goodST consT W_261 W_262 W_58 W_263) rfl rfl rfl hd_X4_within ⟨Nat.le_of_ble_eq_true rfl, Nat.le_of_ble_eq_true rfl⟩ rfl rfl rfl (Nat.le_of_ble_eq_true rfl) dX4_part_3 ⟨Nat.zero_le _, Nat.zero_le _⟩ ?_
  refine z_if_ne (tgt := 15) C dX4_part_6 (by decide) (fun c => ?_) (fun c => ?_)
  · replace h := (if_neg c).symm.trans h
    refine z_iload_n C dX4_part_15 rfl 1 rfl ?_
    refine z_if_ne (tgt := 27) C dX4_part_16 (by decide) (fun c => ?_) (fun c => ?_)
    · replace h := (if_neg c).symm.trans h
      refine z_aload_n C dX4_part_27 rfl 0 rfl ?_
      refine z_get C inT_X4 0 rfl rfl 5 (by decide) rfl (mc W_231) rfl dX4_part_28 ?_
      refine z_i2l C dX4_part_31 ?_
      obtain rfl := Option.some.inj h
      exact z_lret (v := t_below.toInt64) C hr dX4_part_32
    · replace h := (if_pos c).symm.trans h
      refine z_aload_n C dX4_part_19 rfl 0 rfl ?_
      refine z_get C inT_X4 0 rfl rfl 4 (by decide) rfl (mc W_230) rfl dX4_part_20 ?_
      refine z_i2l C dX4_part_23 ?_
      refine z_goto (tgt := 32) C dX4_part_24 (by decide) ?_
      obtain rfl := Option.some.inj h
      exact z_lret (v := t_above.toInt64) C hr dX4_part_32
  · replace h := (if_pos c).symm.trans h
    refine z_aload_n C dX4_part_9 rfl 0 rfl ?_
    obtain ⟨o3, ho4, h⟩ := bnd_some h
    refine z_callV (wc := [(q_t, .inr (3, [.ref q_t_now, .ref q_t_images, .ref q_t_search, .ref q_t_reader, .int t_above, .int t_below, .int t_bads, .int t_nos, .int t_fulls]))]) (wr := []) (wc' := [(q_t, .inr (3, [.ref q_t_now, .ref q_t_images, .ref q_t_search, .ref q_t_reader, .int t_above, .int t_below, .int o3.2, .int t_nos, .int t_fulls]))]) (ws2 := [(q_t, .inr (3, [.ref q_t_now, .ref q_t_images, .ref q_t_search, .ref q_t_reader, .int t_above, .int t_below, .int o3.2, .int t_nos, .int t_fulls]))]) (As := []) (st2 := [.int o3.1]) C [0] [] [0] rfl rfl rfl rfl (by decide) rfl rfl (c_X4_bad F ho4) (goodVT consT W_264 W_266 W_0 W_58 W_267) rfl rfl rfl hd_X4_bad ⟨Nat.le_of_ble_eq_true rfl, Nat.le_of_ble_eq_true rfl⟩ rfl rfl rfl (j := 0) rfl rfl rfl (Nat.le_of_ble_eq_true rfl) dX4_part_10 ⟨Nat.zero_le _, Nat.zero_le _⟩ ?_
    refine z_i2l C dX4_part_13 ?_
    obtain rfl := Option.some.inj h
    exact z_lret (v := o3.1.toInt64) C hr dX4_part_14
def rm_X4_status : Room := { frames := 0, cells := 0, slots := 0, locals := 0 }
theorem hd_X4_status : yX4_status.cls = yX4_status.cls ∧ yX4_status.cls ≠ "java/lang/invoke/MethodHandle" ∧ yX4_status.cls ≠ "java/lang/invoke/VarHandle" ∧ (parseMethodDescriptor yX4_status.desc).map (fun d => d.parameters.length) = some 1 := by decide +kernel
abbrev wsX4_status : List Cond := .code yX4_status cX4_status 2 (some .int) :: WALL
set_option maxRecDepth 100000 in
set_option maxHeartbeats 4000000 in
theorem c_X4_status {l : Launch} {E : zE} {q_t q_t_now q_t_images q_t_search q_t_reader : Nat} {t_above : Int32} {t_below : Int32} {a1 : Int32} {t_nos : Int32} {t_fulls : Int32} {t_bads : Int32} {o : Int32 × Int32} (F : Nat) (h : f_X4_status F a1 t_nos t_fulls t_bads = some o) : zM l yX4_status wsX4_status rm_X4_status E [.ref q_t, .int a1] [(q_t, .inr (3, [.ref q_t_now, .ref q_t_images, .ref q_t_search, .ref q_t_reader, .int t_above, .int t_below, .int t_bads, .int t_nos, .int t_fulls]))] (some (.int o.1)) [(q_t, .inr (3, [.ref q_t_now, .ref q_t_images, .ref q_t_search, .ref q_t_reader, .int t_above, .int t_below, .int o.2, .int t_nos, .int t_fulls]))] := by
  refine zM.of (cc := cX4_status) (maxL := 2) (ret := (some .int)) (by decide +kernel) rfl (Nat.le_of_ble_eq_true rfl) ?_
  intro p e s m args below meth c A C hr
  have C : zC p s m args c meth cX4_status 2 RX4 wsX4_status E A := C
  rw [f_X4_status] at h
  refine z_iload_n C dX4_status_0 rfl 1 rfl ?_
  by_cases e0 : a1 = (0 : Int32)
  · replace h := (if_pos e0).symm.trans h
    refine z_tabIn (tgt := 28) C dX4_status_1 (by rw [e0]; decide) (by rw [e0]; decide) (by rw [e0]; rfl) (by decide) ?_
    refine z_aload_n C dX4_status_28 rfl 0 rfl ?_
    refine z_get C inT_X4 0 rfl rfl 6 (by decide) rfl (mc W_232) rfl dX4_status_29 ?_
    obtain rfl := Option.some.inj h
    exact z_iret (v := t_bads) C hr dX4_status_32
  · replace h := (if_neg e0).symm.trans h
    by_cases e1 : a1 = (1 : Int32)
    · replace h := (if_pos e1).symm.trans h
      refine z_tabIn (tgt := 33) C dX4_status_1 (by rw [e1]; decide) (by rw [e1]; decide) (by rw [e1]; rfl) (by decide) ?_
      refine z_aload_n C dX4_status_33 rfl 0 rfl ?_
      refine z_get C inT_X4 0 rfl rfl 7 (by decide) rfl (mc W_233) rfl dX4_status_34 ?_
      obtain rfl := Option.some.inj h
      exact z_iret (v := t_nos) C hr dX4_status_37
    · replace h := (if_neg e1).symm.trans h
      by_cases e2 : a1 = (2 : Int32)
      · replace h := (if_pos e2).symm.trans h
        refine z_tabIn (tgt := 38) C dX4_status_1 (by rw [e2]; decide) (by rw [e2]; decide) (by rw [e2]; rfl) (by decide) ?_
        refine z_aload_n C dX4_status_38 rfl 0 rfl ?_
        refine z_get C inT_X4 0 rfl rfl 8 (by decide) rfl (mc W_234) rfl dX4_status_39 ?_
        obtain rfl := Option.some.inj h
        exact z_iret (v := t_fulls) C hr dX4_status_42
      · replace h := (if_neg e2).symm.trans h
        have g0 := lv_neT (a := 0) e0 (by decide)
        have g1 := lv_neT (a := 1) e1 (by decide)
        have g2 := lv_neT (a := 2) e2 (by decide)
        refine z_tabOut (tgt := 43) C dX4_status_1 (by omega) (by decide) ?_
        refine z_aload_n C dX4_status_43 rfl 0 rfl ?_
        refine z_dup C dX4_status_44 rfl ?_
        refine z_get C inT_X4 0 rfl rfl 6 (by decide) rfl (mc W_232) rfl dX4_status_45 ?_
        refine z_iconst (v := (1 : Int32)) C dX4_status_48 (by decide) ?_
        refine z_iadd C dX4_status_49 ?_
        refine z_put (ws' := [(q_t, .inr (3, [.ref q_t_now, .ref q_t_images, .ref q_t_search, .ref q_t_reader, .int t_above, .int t_below, .int (t_bads + (1 : Int32)), .int t_nos, .int t_fulls]))]) C inT_X4 tyX4 tyX4_ok nmX4 0 rfl rfl 6 (by decide) rfl (mc W_232) rfl rfl rfl (Nat.le_of_ble_eq_true rfl) rfl dX4_status_50 ?_
        refine z_iconst (v := (-1 : Int32)) C dX4_status_53 (by decide) ?_
        obtain rfl := Option.some.inj h
        exact z_iret (v := (-1 : Int32)) C hr dX4_status_54
def rm_X4_howMany : Room := { frames := 1, cells := 0, slots := 0, locals := 23 }
theorem hd_X4_howMany : yX4_howMany.cls = yX4_howMany.cls ∧ yX4_howMany.cls ≠ "java/lang/invoke/MethodHandle" ∧ yX4_howMany.cls ≠ "java/lang/invoke/VarHandle" ∧ (parseMethodDescriptor yX4_howMany.desc).map (fun d => d.parameters.length) = some 1 := by decide +kernel
abbrev wsX4_howMany : List Cond := .code yX4_howMany cX4_howMany 2 (some .int) :: WALL
set_option maxRecDepth 100000 in
set_option maxHeartbeats 4000000 in
theorem c_X4_howMany {l : Launch} {E : zE} {q_t q_t_now q_t_now_had q_t_now_due q_t_reader q_t_images q_t_search q_t_now_kind q_t_now_wanted q_t_now_hours q_t_now_leftHour q_t_now_leftPressure q_t_now_note q_t_now_past q_t_now_ahead q_t_now_gets q_t_reader_draft q_t_reader_text : Nat} {t_above : Int32} {t_below : Int32} {t_bads : Int32} {t_nos : Int32} {t_fulls : Int32} {t_now_leftOver : Int32} {t_reader_start : Int32} {t_reader_next : Int32} {t_reader_token : Int32} {t_reader_value : Int32} {a1 : Int32} {t_now_pressure : Int32} {t_now_day : Int32} {t_now_wells : Int32} {t_now_lefts : Int32} {t_now_notes : Int32} {t_now_undos : Int32} {t_now_had : Nat → Int32} {t_now_due : Nat → Int32} {t_reader_length : Int32} {o : Int32} (F : Nat) (h : f_X4_howMany F a1 t_now_pressure t_now_day t_now_wells t_now_lefts t_now_notes t_now_undos t_now_had t_now_due t_reader_length = some o) : zM l yX4_howMany wsX4_howMany rm_X4_howMany E [.ref q_t, .int a1] [(q_t, .inr (3, [.ref q_t_now, .ref q_t_images, .ref q_t_search, .ref q_t_reader, .int t_above, .int t_below, .int t_bads, .int t_nos, .int t_fulls])), (q_t_now, .inr (0, [.int t_now_pressure, .int t_now_day, .int t_now_wells, .int t_now_lefts, .int t_now_notes, .int t_now_undos, .ref q_t_now_kind, .ref q_t_now_wanted, .ref q_t_now_hours, .ref q_t_now_had, .ref q_t_now_due, .ref q_t_now_leftHour, .ref q_t_now_leftPressure, .ref q_t_now_note, .ref q_t_now_past, .ref q_t_now_ahead, .ref q_t_now_gets, .int t_now_leftOver])), (q_t_now_had, zI E 5 t_now_had), (q_t_now_due, zI E 5 t_now_due), (q_t_reader, .inr (1, [.ref q_t_reader_draft, .int t_reader_start, .int t_reader_length, .ref q_t_reader_text, .int t_reader_next, .int t_reader_token, .int t_reader_value]))] (some (.int o)) [(q_t, .inr (3, [.ref q_t_now, .ref q_t_images, .ref q_t_search, .ref q_t_reader, .int t_above, .int t_below, .int t_bads, .int t_nos, .int t_fulls])), (q_t_now, .inr (0, [.int t_now_pressure, .int t_now_day, .int t_now_wells, .int t_now_lefts, .int t_now_notes, .int t_now_undos, .ref q_t_now_kind, .ref q_t_now_wanted, .ref q_t_now_hours, .ref q_t_now_had, .ref q_t_now_due, .ref q_t_now_leftHour, .ref q_t_now_leftPressure, .ref q_t_now_note, .ref q_t_now_past, .ref q_t_now_ahead, .ref q_t_now_gets, .int t_now_leftOver])), (q_t_now_had, zI E 5 t_now_had), (q_t_now_due, zI E 5 t_now_due), (q_t_reader, .inr (1, [.ref q_t_reader_draft, .int t_reader_start, .int t_reader_length, .ref q_t_reader_text, .int t_reader_next, .int t_reader_token, .int t_reader_value]))] := by
  refine zM.of (cc := cX4_howMany) (maxL := 2) (ret := (some .int)) (by decide +kernel) rfl (Nat.le_of_ble_eq_true rfl) ?_
  intro p e s m args below meth c A C hr
  have C : zC p s m args c meth cX4_howMany 2 RX4 wsX4_howMany E A := C
  rw [f_X4_howMany] at h
  refine z_iload_n C dX4_howMany_0 rfl 1 rfl ?_
  by_cases e0 : a1 = (0 : Int32)
  · replace h := (if_pos e0).symm.trans h
    refine z_tabIn (tgt := 48) C dX4_howMany_1 (by rw [e0]; decide) (by rw [e0]; decide) (by rw [e0]; rfl) (by decide) ?_
    refine z_aload_n C dX4_howMany_48 rfl 0 rfl ?_
    refine z_get C inT_X4 0 rfl rfl 0 (by decide) rfl (mc W_226) rfl dX4_howMany_49 ?_
    refine z_get C inT_X1 1 rfl rfl 2 (by decide) rfl (mc W_88) rfl dX4_howMany_52 ?_
    obtain rfl := Option.some.inj h
    exact z_iret (v := t_now_wells) C hr dX4_howMany_55
  · replace h := (if_neg e0).symm.trans h
    by_cases e1 : a1 = (1 : Int32)
    · replace h := (if_pos e1).symm.trans h
      refine z_tabIn (tgt := 56) C dX4_howMany_1 (by rw [e1]; decide) (by rw [e1]; decide) (by rw [e1]; rfl) (by decide) ?_
      refine z_aload_n C dX4_howMany_56 rfl 0 rfl ?_
      refine z_get C inT_X4 0 rfl rfl 0 (by decide) rfl (mc W_226) rfl dX4_howMany_57 ?_
      refine z_get C inT_X1 1 rfl rfl 0 (by decide) rfl (mc W_83) rfl dX4_howMany_60 ?_
      obtain rfl := Option.some.inj h
      exact z_iret (v := t_now_pressure) C hr dX4_howMany_63
    · replace h := (if_neg e1).symm.trans h
      by_cases e2 : a1 = (2 : Int32)
      · replace h := (if_pos e2).symm.trans h
        refine z_tabIn (tgt := 64) C dX4_howMany_1 (by rw [e2]; decide) (by rw [e2]; decide) (by rw [e2]; rfl) (by decide) ?_
        refine z_aload_n C dX4_howMany_64 rfl 0 rfl ?_
        refine z_get C inT_X4 0 rfl rfl 0 (by decide) rfl (mc W_226) rfl dX4_howMany_65 ?_
        refine z_get C inT_X1 1 rfl rfl 1 (by decide) rfl (mc W_85) rfl dX4_howMany_68 ?_
        obtain rfl := Option.some.inj h
        exact z_iret (v := t_now_day) C hr dX4_howMany_71
      · replace h := (if_neg e2).symm.trans h
        by_cases e3 : a1 = (3 : Int32)
        · replace h := (if_pos e3).symm.trans h
          refine z_tabIn (tgt := 72) C dX4_howMany_1 (by rw [e3]; decide) (by rw [e3]; decide) (by rw [e3]; rfl) (by decide) ?_
          refine z_aload_n C dX4_howMany_72 rfl 0 rfl ?_
          refine z_get C inT_X4 0 rfl rfl 0 (by decide) rfl (mc W_226) rfl dX4_howMany_73 ?_
          refine z_aload_n C dX4_howMany_76 rfl 0 rfl ?_
          refine z_get C inT_X4 0 rfl rfl 0 (by decide) rfl (mc W_226) rfl dX4_howMany_77 ?_
          refine z_get C inT_X1 1 rfl rfl 9 (by decide) rfl (mc W_106) rfl dX4_howMany_80 ?_
          obtain ⟨o1, ho2, h⟩ := bnd_some h
          refine z_callV (wc := [(q_t_now, .inr (0, [.int t_now_pressure, .int t_now_day, .int t_now_wells, .int t_now_lefts, .int t_now_notes, .int t_now_undos, .ref q_t_now_kind, .ref q_t_now_wanted, .ref q_t_now_hours, .ref q_t_now_had, .ref q_t_now_due, .ref q_t_now_leftHour, .ref q_t_now_leftPressure, .ref q_t_now_note, .ref q_t_now_past, .ref q_t_now_ahead, .ref q_t_now_gets, .int t_now_leftOver])), (q_t_now_had, zI E 5 t_now_had)]) (wr := [(q_t, .inr (3, [.ref q_t_now, .ref q_t_images, .ref q_t_search, .ref q_t_reader, .int t_above, .int t_below, .int t_bads, .int t_nos, .int t_fulls])), (q_t_now_due, zI E 5 t_now_due), (q_t_reader, .inr (1, [.ref q_t_reader_draft, .int t_reader_start, .int t_reader_length, .ref q_t_reader_text, .int t_reader_next, .int t_reader_token, .int t_reader_value]))]) (wc' := [(q_t_now, .inr (0, [.int t_now_pressure, .int t_now_day, .int t_now_wells, .int t_now_lefts, .int t_now_notes, .int t_now_undos, .ref q_t_now_kind, .ref q_t_now_wanted, .ref q_t_now_hours, .ref q_t_now_had, .ref q_t_now_due, .ref q_t_now_leftHour, .ref q_t_now_leftPressure, .ref q_t_now_note, .ref q_t_now_past, .ref q_t_now_ahead, .ref q_t_now_gets, .int t_now_leftOver])), (q_t_now_had, zI E 5 t_now_had)]) (ws2 := [(q_t, .inr (3, [.ref q_t_now, .ref q_t_images, .ref q_t_search, .ref q_t_reader, .int t_above, .int t_below, .int t_bads, .int t_nos, .int t_fulls])), (q_t_now, .inr (0, [.int t_now_pressure, .int t_now_day, .int t_now_wells, .int t_now_lefts, .int t_now_notes, .int t_now_undos, .ref q_t_now_kind, .ref q_t_now_wanted, .ref q_t_now_hours, .ref q_t_now_had, .ref q_t_now_due, .ref q_t_now_leftHour, .ref q_t_now_leftPressure, .ref q_t_now_note, .ref q_t_now_past, .ref q_t_now_ahead, .ref q_t_now_gets, .int t_now_leftOver])), (q_t_now_had, zI E 5 t_now_had), (q_t_now_due, zI E 5 t_now_due), (q_t_reader, .inr (1, [.ref q_t_reader_draft, .int t_reader_start, .int t_reader_length, .ref q_t_reader_text, .int t_reader_next, .int t_reader_token, .int t_reader_value]))]) (As := [.ref q_t_now_had]) (st2 := [.int o1]) C [1, 2] [0, 3, 4] [0, 3, 4, 1, 2] rfl rfl rfl rfl (by decide) rfl rfl (c_X1_sumOf F ho2) (goodVT consT W_654 W_655 W_656 W_59 W_657) rfl rfl rfl hd_X1_sumOf ⟨Nat.le_of_ble_eq_true rfl, Nat.le_of_ble_eq_true rfl⟩ rfl rfl rfl (j := 0) rfl rfl rfl (Nat.le_of_ble_eq_true rfl) dX4_howMany_83 ⟨Nat.zero_le _, Nat.zero_le _⟩ ?_
          obtain rfl := Option.some.inj h
          exact z_iret (v := o1) C hr dX4_howMany_86
        · replace h := (if_neg e3).symm.trans h
          by_cases e4 : a1 = (4 : Int32)
          · replace h := (if_pos e4).symm.trans h
            refine z_tabIn (tgt := 87) C dX4_howMany_1 (by rw [e4]; decide) (by rw [e4]; decide) (by rw [e4]; rfl) (by decide) ?_
            refine z_aload_n C dX4_howMany_87 rfl 0 rfl ?_
            refine z_get C inT_X4 0 rfl rfl 0 (by decide) rfl (mc W_226) rfl dX4_howMany_88 ?_
            refine z_aload_n C dX4_howMany_91 rfl 0 rfl ?_
            refine z_get C inT_X4 0 rfl rfl 0 (by decide) rfl (mc W_226) rfl dX4_howMany_92 ?_
            refine z_get C inT_X1 1 rfl rfl 10 (by decide) rfl (mc W_108) rfl dX4_howMany_95 ?_
            obtain ⟨o3, ho4, h⟩ := bnd_some h
            refine z_callV (wc := [(q_t_now, .inr (0, [.int t_now_pressure, .int t_now_day, .int t_now_wells, .int t_now_lefts, .int t_now_notes, .int t_now_undos, .ref q_t_now_kind, .ref q_t_now_wanted, .ref q_t_now_hours, .ref q_t_now_had, .ref q_t_now_due, .ref q_t_now_leftHour, .ref q_t_now_leftPressure, .ref q_t_now_note, .ref q_t_now_past, .ref q_t_now_ahead, .ref q_t_now_gets, .int t_now_leftOver])), (q_t_now_due, zI E 5 t_now_due)]) (wr := [(q_t, .inr (3, [.ref q_t_now, .ref q_t_images, .ref q_t_search, .ref q_t_reader, .int t_above, .int t_below, .int t_bads, .int t_nos, .int t_fulls])), (q_t_now_had, zI E 5 t_now_had), (q_t_reader, .inr (1, [.ref q_t_reader_draft, .int t_reader_start, .int t_reader_length, .ref q_t_reader_text, .int t_reader_next, .int t_reader_token, .int t_reader_value]))]) (wc' := [(q_t_now, .inr (0, [.int t_now_pressure, .int t_now_day, .int t_now_wells, .int t_now_lefts, .int t_now_notes, .int t_now_undos, .ref q_t_now_kind, .ref q_t_now_wanted, .ref q_t_now_hours, .ref q_t_now_had, .ref q_t_now_due, .ref q_t_now_leftHour, .ref q_t_now_leftPressure, .ref q_t_now_note, .ref q_t_now_past, .ref q_t_now_ahead, .ref q_t_now_gets, .int t_now_leftOver])), (q_t_now_due, zI E 5 t_now_due)]) (ws2 := [(q_t, .inr (3, [.ref q_t_now, .ref q_t_images, .ref q_t_search, .ref q_t_reader, .int t_above, .int t_below, .int t_bads, .int t_nos, .int t_fulls])), (q_t_now, .inr (0, [.int t_now_pressure, .int t_now_day, .int t_now_wells, .int t_now_lefts, .int t_now_notes, .int t_now_undos, .ref q_t_now_kind, .ref q_t_now_wanted, .ref q_t_now_hours, .ref q_t_now_had, .ref q_t_now_due, .ref q_t_now_leftHour, .ref q_t_now_leftPressure, .ref q_t_now_note, .ref q_t_now_past, .ref q_t_now_ahead, .ref q_t_now_gets, .int t_now_leftOver])), (q_t_now_had, zI E 5 t_now_had), (q_t_now_due, zI E 5 t_now_due), (q_t_reader, .inr (1, [.ref q_t_reader_draft, .int t_reader_start, .int t_reader_length, .ref q_t_reader_text, .int t_reader_next, .int t_reader_token, .int t_reader_value]))]) (As := [.ref q_t_now_due]) (st2 := [.int o3]) C [1, 3] [0, 2, 4] [0, 3, 1, 4, 2] rfl rfl rfl rfl (by decide) rfl rfl (c_X1_sumOf F ho4) (goodVT consT W_654 W_655 W_656 W_59 W_657) rfl rfl rfl hd_X1_sumOf ⟨Nat.le_of_ble_eq_true rfl, Nat.le_of_ble_eq_true rfl⟩ rfl rfl rfl (j := 0) rfl rfl rfl (Nat.le_of_ble_eq_true rfl) dX4_howMany_98 ⟨Nat.zero_le _, Nat.zero_le _⟩ ?_
            obtain rfl := Option.some.inj h
            exact z_iret (v := o3) C hr dX4_howMany_101
          · replace h := (if_neg e4).symm.trans h
            by_cases e5 : a1 = (5 : Int32)
            · replace h := (if_pos e5).symm.trans h
              refine z_tabIn (tgt := 102) C dX4_howMany_1 (by rw [e5]; decide) (by rw [e5]; decide) (by rw [e5]; rfl) (by decide) ?_
              refine z_aload_n C dX4_howMany_102 rfl 0 rfl ?_
              refine z_get C inT_X4 0 rfl rfl 0 (by decide) rfl (mc W_226) rfl dX4_howMany_103 ?_
              refine z_get C inT_X1 1 rfl rfl 3 (by decide) rfl (mc W_91) rfl dX4_howMany_106 ?_
              obtain rfl := Option.some.inj h
              exact z_iret (v := t_now_lefts) C hr dX4_howMany_109
            · replace h := (if_neg e5).symm.trans h
              by_cases e6 : a1 = (6 : Int32)
              · replace h := (if_pos e6).symm.trans h
                refine z_tabIn (tgt := 110) C dX4_howMany_1 (by rw [e6]; decide) (by rw [e6]; decide) (by rw [e6]; rfl) (by decide) ?_
                refine z_aload_n C dX4_howMany_110 rfl 0 rfl ?_
                refine z_get C inT_X4 0 rfl rfl 0 (by decide) rfl (mc W_226) rfl dX4_howMany_111 ?_
                refine z_get C inT_X1 1 rfl rfl 4 (by decide) rfl (mc W_93) rfl dX4_howMany_114 ?_
                obtain rfl := Option.some.inj h
                exact z_iret (v := t_now_notes) C hr dX4_howMany_117
              · replace h := (if_neg e6).symm.trans h
                by_cases e7 : a1 = (7 : Int32)
                · replace h := (if_pos e7).symm.trans h
                  refine z_tabIn (tgt := 118) C dX4_howMany_1 (by rw [e7]; decide) (by rw [e7]; decide) (by rw [e7]; rfl) (by decide) ?_
                  refine z_aload_n C dX4_howMany_118 rfl 0 rfl ?_
                  refine z_get C inT_X4 0 rfl rfl 0 (by decide) rfl (mc W_226) rfl dX4_howMany_119 ?_
                  refine z_get C inT_X1 1 rfl rfl 5 (by decide) rfl (mc W_95) rfl dX4_howMany_122 ?_
                  obtain rfl := Option.some.inj h
                  exact z_iret (v := t_now_undos) C hr dX4_howMany_125
                · replace h := (if_neg e7).symm.trans h
                  have g0 := lv_neT (a := 0) e0 (by decide)
                  have g1 := lv_neT (a := 1) e1 (by decide)
                  have g2 := lv_neT (a := 2) e2 (by decide)
                  have g3 := lv_neT (a := 3) e3 (by decide)
                  have g4 := lv_neT (a := 4) e4 (by decide)
                  have g5 := lv_neT (a := 5) e5 (by decide)
                  have g6 := lv_neT (a := 6) e6 (by decide)
                  have g7 := lv_neT (a := 7) e7 (by decide)
                  refine z_tabOut (tgt := 126) C dX4_howMany_1 (by omega) (by decide) ?_
                  refine z_aload_n C dX4_howMany_126 rfl 0 rfl ?_
                  refine z_get C inT_X4 0 rfl rfl 3 (by decide) rfl (mc W_229) rfl dX4_howMany_127 ?_
                  refine z_get C inT_X2 4 rfl rfl 2 (by decide) rfl (mc W_205) rfl dX4_howMany_130 ?_
                  obtain rfl := Option.some.inj h
                  exact z_iret (v := t_reader_length) C hr dX4_howMany_133
def rm_X4_count : Room := { frames := 2, cells := 0, slots := 0, locals := 44 }
theorem hd_X4_count : yX4_count.cls = yX4_count.cls ∧ yX4_count.cls ≠ "java/lang/invoke/MethodHandle" ∧ yX4_count.cls ≠ "java/lang/invoke/VarHandle" ∧ (parseMethodDescriptor yX4_count.desc).map (fun d => d.parameters.length) = some 1 := by decide +kernel
abbrev wsX4_count : List Cond := .code yX4_count cX4_count 2 (some .int) :: WALL
set_option maxRecDepth 100000 in
set_option maxHeartbeats 4000000 in
theorem c_X4_count {l : Launch} {E : zE} {q_t q_t_now q_t_now_had q_t_now_due q_t_reader q_t_images q_t_search q_t_now_kind q_t_now_wanted q_t_now_hours q_t_now_leftHour q_t_now_leftPressure q_t_now_note q_t_now_past q_t_now_ahead q_t_now_gets q_t_reader_draft q_t_reader_text : Nat} {t_above : Int32} {t_below : Int32} {t_nos : Int32} {t_fulls : Int32} {t_now_leftOver : Int32} {t_reader_start : Int32} {t_reader_next : Int32} {t_reader_token : Int32} {t_reader_value : Int32} {a1 : Int32} {t_now_pressure : Int32} {t_now_day : Int32} {t_now_wells : Int32} {t_now_lefts : Int32} {t_now_notes : Int32} {t_now_undos : Int32} {t_now_had : Nat → Int32} {t_now_due : Nat → Int32} {t_reader_length : Int32} {t_bads : Int32} {o : Int32 × Int32} (F : Nat) (h : f_X4_count F a1 t_now_pressure t_now_day t_now_wells t_now_lefts t_now_notes t_now_undos t_now_had t_now_due t_reader_length t_bads = some o) : zM l yX4_count wsX4_count rm_X4_count E [.ref q_t, .int a1] [(q_t, .inr (3, [.ref q_t_now, .ref q_t_images, .ref q_t_search, .ref q_t_reader, .int t_above, .int t_below, .int t_bads, .int t_nos, .int t_fulls])), (q_t_now, .inr (0, [.int t_now_pressure, .int t_now_day, .int t_now_wells, .int t_now_lefts, .int t_now_notes, .int t_now_undos, .ref q_t_now_kind, .ref q_t_now_wanted, .ref q_t_now_hours, .ref q_t_now_had, .ref q_t_now_due, .ref q_t_now_leftHour, .ref q_t_now_leftPressure, .ref q_t_now_note, .ref q_t_now_past, .ref q_t_now_ahead, .ref q_t_now_gets, .int t_now_leftOver])), (q_t_now_had, zI E 5 t_now_had), (q_t_now_due, zI E 5 t_now_due), (q_t_reader, .inr (1, [.ref q_t_reader_draft, .int t_reader_start, .int t_reader_length, .ref q_t_reader_text, .int t_reader_next, .int t_reader_token, .int t_reader_value]))] (some (.int o.1)) [(q_t, .inr (3, [.ref q_t_now, .ref q_t_images, .ref q_t_search, .ref q_t_reader, .int t_above, .int t_below, .int o.2, .int t_nos, .int t_fulls])), (q_t_now, .inr (0, [.int t_now_pressure, .int t_now_day, .int t_now_wells, .int t_now_lefts, .int t_now_notes, .int t_now_undos, .ref q_t_now_kind, .ref q_t_now_wanted, .ref q_t_now_hours, .ref q_t_now_had, .ref q_t_now_due, .ref q_t_now_leftHour, .ref q_t_now_leftPressure, .ref q_t_now_note, .ref q_t_now_past, .ref q_t_now_ahead, .ref q_t_now_gets, .int t_now_leftOver])), (q_t_now_had, zI E 5 t_now_had), (q_t_now_due, zI E 5 t_now_due), (q_t_reader, .inr (1, [.ref q_t_reader_draft, .int t_reader_start, .int t_reader_length, .ref q_t_reader_text, .int t_reader_next, .int t_reader_token, .int t_reader_value]))] := by
  refine zM.of (cc := cX4_count) (maxL := 2) (ret := (some .int)) (by decide +kernel) rfl (Nat.le_of_ble_eq_true rfl) ?_
  intro p e s m args below meth c A C hr
  have C : zC p s m args c meth cX4_count 2 RX4 wsX4_count E A := C
  rw [f_X4_count] at h
  refine z_iload_n C dX4_count_0 rfl 1 rfl ?_
  refine z_iconst (v := (0 : Int32)) C dX4_count_1 (by decide) ?_
  refine z_bipush (v := (8 : Int32)) C dX4_count_2 (by decide) ?_
  obtain ⟨o1, ho2, h⟩ := bnd_some h
  refine z_callS (wc := []) (wr := [(q_t, .inr (3, [.ref q_t_now, .ref q_t_images, .ref q_t_search, .ref q_t_reader, .int t_above, .int t_below, .int t_bads, .int t_nos, .int t_fulls])), (q_t_now, .inr (0, [.int t_now_pressure, .int t_now_day, .int t_now_wells, .int t_now_lefts, .int t_now_notes, .int t_now_undos, .ref q_t_now_kind, .ref q_t_now_wanted, .ref q_t_now_hours, .ref q_t_now_had, .ref q_t_now_due, .ref q_t_now_leftHour, .ref q_t_now_leftPressure, .ref q_t_now_note, .ref q_t_now_past, .ref q_t_now_ahead, .ref q_t_now_gets, .int t_now_leftOver])), (q_t_now_had, zI E 5 t_now_had), (q_t_now_due, zI E 5 t_now_due), (q_t_reader, .inr (1, [.ref q_t_reader_draft, .int t_reader_start, .int t_reader_length, .ref q_t_reader_text, .int t_reader_next, .int t_reader_token, .int t_reader_value]))]) (wc' := []) (ws2 := [(q_t, .inr (3, [.ref q_t_now, .ref q_t_images, .ref q_t_search, .ref q_t_reader, .int t_above, .int t_below, .int t_bads, .int t_nos, .int t_fulls])), (q_t_now, .inr (0, [.int t_now_pressure, .int t_now_day, .int t_now_wells, .int t_now_lefts, .int t_now_notes, .int t_now_undos, .ref q_t_now_kind, .ref q_t_now_wanted, .ref q_t_now_hours, .ref q_t_now_had, .ref q_t_now_due, .ref q_t_now_leftHour, .ref q_t_now_leftPressure, .ref q_t_now_note, .ref q_t_now_past, .ref q_t_now_ahead, .ref q_t_now_gets, .int t_now_leftOver])), (q_t_now_had, zI E 5 t_now_had), (q_t_now_due, zI E 5 t_now_due), (q_t_reader, .inr (1, [.ref q_t_reader_draft, .int t_reader_start, .int t_reader_length, .ref q_t_reader_text, .int t_reader_next, .int t_reader_token, .int t_reader_value]))]) (As := [.int a1, .int (0 : Int32), .int (8 : Int32)]) (st2 := [.int o1]) C [] [0, 1, 2, 3, 4] [0, 1, 2, 3, 4] rfl rfl rfl rfl (by decide) rfl rfl (c_X4_within F ho2) (goodST consT W_261 W_262 W_58 W_263) rfl rfl rfl hd_X4_within ⟨Nat.le_of_ble_eq_true rfl, Nat.le_of_ble_eq_true rfl⟩ rfl rfl rfl (Nat.le_of_ble_eq_true rfl) dX4_count_4 ⟨Nat.zero_le _, Nat.zero_le _⟩ ?_
  refine z_if_ne (tgt := 15) C dX4_count_7 (by decide) (fun c => ?_) (fun c => ?_)
  · replace h := (if_neg c).symm.trans h
    refine z_aload_n C dX4_count_15 rfl 0 rfl ?_
    refine z_iload_n C dX4_count_16 rfl 1 rfl ?_
    obtain ⟨o3, ho4, h⟩ := bnd_some h
    refine z_callV (wc := [(q_t, .inr (3, [.ref q_t_now, .ref q_t_images, .ref q_t_search, .ref q_t_reader, .int t_above, .int t_below, .int t_bads, .int t_nos, .int t_fulls])), (q_t_now, .inr (0, [.int t_now_pressure, .int t_now_day, .int t_now_wells, .int t_now_lefts, .int t_now_notes, .int t_now_undos, .ref q_t_now_kind, .ref q_t_now_wanted, .ref q_t_now_hours, .ref q_t_now_had, .ref q_t_now_due, .ref q_t_now_leftHour, .ref q_t_now_leftPressure, .ref q_t_now_note, .ref q_t_now_past, .ref q_t_now_ahead, .ref q_t_now_gets, .int t_now_leftOver])), (q_t_now_had, zI E 5 t_now_had), (q_t_now_due, zI E 5 t_now_due), (q_t_reader, .inr (1, [.ref q_t_reader_draft, .int t_reader_start, .int t_reader_length, .ref q_t_reader_text, .int t_reader_next, .int t_reader_token, .int t_reader_value]))]) (wr := []) (wc' := [(q_t, .inr (3, [.ref q_t_now, .ref q_t_images, .ref q_t_search, .ref q_t_reader, .int t_above, .int t_below, .int t_bads, .int t_nos, .int t_fulls])), (q_t_now, .inr (0, [.int t_now_pressure, .int t_now_day, .int t_now_wells, .int t_now_lefts, .int t_now_notes, .int t_now_undos, .ref q_t_now_kind, .ref q_t_now_wanted, .ref q_t_now_hours, .ref q_t_now_had, .ref q_t_now_due, .ref q_t_now_leftHour, .ref q_t_now_leftPressure, .ref q_t_now_note, .ref q_t_now_past, .ref q_t_now_ahead, .ref q_t_now_gets, .int t_now_leftOver])), (q_t_now_had, zI E 5 t_now_had), (q_t_now_due, zI E 5 t_now_due), (q_t_reader, .inr (1, [.ref q_t_reader_draft, .int t_reader_start, .int t_reader_length, .ref q_t_reader_text, .int t_reader_next, .int t_reader_token, .int t_reader_value]))]) (ws2 := [(q_t, .inr (3, [.ref q_t_now, .ref q_t_images, .ref q_t_search, .ref q_t_reader, .int t_above, .int t_below, .int t_bads, .int t_nos, .int t_fulls])), (q_t_now, .inr (0, [.int t_now_pressure, .int t_now_day, .int t_now_wells, .int t_now_lefts, .int t_now_notes, .int t_now_undos, .ref q_t_now_kind, .ref q_t_now_wanted, .ref q_t_now_hours, .ref q_t_now_had, .ref q_t_now_due, .ref q_t_now_leftHour, .ref q_t_now_leftPressure, .ref q_t_now_note, .ref q_t_now_past, .ref q_t_now_ahead, .ref q_t_now_gets, .int t_now_leftOver])), (q_t_now_had, zI E 5 t_now_had), (q_t_now_due, zI E 5 t_now_due), (q_t_reader, .inr (1, [.ref q_t_reader_draft, .int t_reader_start, .int t_reader_length, .ref q_t_reader_text, .int t_reader_next, .int t_reader_token, .int t_reader_value]))]) (As := [.int a1]) (st2 := [.int o3]) C [0, 1, 2, 3, 4] [] [0, 1, 2, 3, 4] rfl rfl rfl rfl (by decide) rfl rfl (c_X4_howMany F ho4) (goodVT consT W_650 W_652 W_26 W_58 W_653) rfl rfl rfl hd_X4_howMany ⟨Nat.le_of_ble_eq_true rfl, Nat.le_of_ble_eq_true rfl⟩ rfl rfl rfl (j := 0) rfl rfl rfl (Nat.le_of_ble_eq_true rfl) dX4_count_17 ⟨Nat.zero_le _, Nat.zero_le _⟩ ?_
    obtain rfl := Option.some.inj h
    exact z_iret (v := o3) C hr dX4_count_20
  · replace h := (if_pos c).symm.trans h
    refine z_aload_n C dX4_count_10 rfl 0 rfl ?_
    obtain ⟨o5, ho6, h⟩ := bnd_some h
    refine z_callV (wc := [(q_t, .inr (3, [.ref q_t_now, .ref q_t_images, .ref q_t_search, .ref q_t_reader, .int t_above, .int t_below, .int t_bads, .int t_nos, .int t_fulls]))]) (wr := [(q_t_now, .inr (0, [.int t_now_pressure, .int t_now_day, .int t_now_wells, .int t_now_lefts, .int t_now_notes, .int t_now_undos, .ref q_t_now_kind, .ref q_t_now_wanted, .ref q_t_now_hours, .ref q_t_now_had, .ref q_t_now_due, .ref q_t_now_leftHour, .ref q_t_now_leftPressure, .ref q_t_now_note, .ref q_t_now_past, .ref q_t_now_ahead, .ref q_t_now_gets, .int t_now_leftOver])), (q_t_now_had, zI E 5 t_now_had), (q_t_now_due, zI E 5 t_now_due), (q_t_reader, .inr (1, [.ref q_t_reader_draft, .int t_reader_start, .int t_reader_length, .ref q_t_reader_text, .int t_reader_next, .int t_reader_token, .int t_reader_value]))]) (wc' := [(q_t, .inr (3, [.ref q_t_now, .ref q_t_images, .ref q_t_search, .ref q_t_reader, .int t_above, .int t_below, .int o5.2, .int t_nos, .int t_fulls]))]) (ws2 := [(q_t, .inr (3, [.ref q_t_now, .ref q_t_images, .ref q_t_search, .ref q_t_reader, .int t_above, .int t_below, .int o5.2, .int t_nos, .int t_fulls])), (q_t_now, .inr (0, [.int t_now_pressure, .int t_now_day, .int t_now_wells, .int t_now_lefts, .int t_now_notes, .int t_now_undos, .ref q_t_now_kind, .ref q_t_now_wanted, .ref q_t_now_hours, .ref q_t_now_had, .ref q_t_now_due, .ref q_t_now_leftHour, .ref q_t_now_leftPressure, .ref q_t_now_note, .ref q_t_now_past, .ref q_t_now_ahead, .ref q_t_now_gets, .int t_now_leftOver])), (q_t_now_had, zI E 5 t_now_had), (q_t_now_due, zI E 5 t_now_due), (q_t_reader, .inr (1, [.ref q_t_reader_draft, .int t_reader_start, .int t_reader_length, .ref q_t_reader_text, .int t_reader_next, .int t_reader_token, .int t_reader_value]))]) (As := []) (st2 := [.int o5.1]) C [0] [1, 2, 3, 4] [4, 0, 1, 2, 3] rfl rfl rfl rfl (by decide) rfl rfl (c_X4_bad F ho6) (goodVT consT W_264 W_266 W_0 W_58 W_267) rfl rfl rfl hd_X4_bad ⟨Nat.le_of_ble_eq_true rfl, Nat.le_of_ble_eq_true rfl⟩ rfl rfl rfl (j := 0) rfl rfl rfl (Nat.le_of_ble_eq_true rfl) dX4_count_11 ⟨Nat.zero_le _, Nat.zero_le _⟩ ?_
    obtain rfl := Option.some.inj h
    exact z_iret (v := o5.1) C hr dX4_count_14

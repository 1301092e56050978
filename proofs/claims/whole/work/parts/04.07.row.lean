def rm_X4_fitsNotes : Room := { frames := 3, cells := 0, slots := 0, locals := 69 }
theorem hd_X4_fitsNotes : yX4_fitsNotes.cls = yX4_fitsNotes.cls ∧ yX4_fitsNotes.cls ≠ "java/lang/invoke/MethodHandle" ∧ yX4_fitsNotes.cls ≠ "java/lang/invoke/VarHandle" ∧ (parseMethodDescriptor yX4_fitsNotes.desc).map (fun d => d.parameters.length) = some 2 := by decide +kernel
abbrev wsX4_fitsNotes : List Cond := .code yX4_fitsNotes cX4_fitsNotes 4 (some .boolean) :: WALL
set_option maxRecDepth 100000 in
set_option maxHeartbeats 4000000 in
theorem l_X4_fitsNotes_b43 {p : Program} {l : Launch} {e : Env} {s : State} {m : MethodId} {args : Array Value} {below : List Frame} {meth : Method} {c : Code} {E : zE} {A : Nat → Prop} {q_t q_t_now q_t_now_note q_t_images q_t_search q_t_reader q_t_now_kind q_t_now_wanted q_t_now_hours q_t_now_had q_t_now_due q_t_now_leftHour q_t_now_leftPressure q_t_now_past q_t_now_ahead q_t_now_gets : Nat} {t_above : Int32} {t_below : Int32} {t_bads : Int32} {t_nos : Int32} {t_fulls : Int32} {t_now_pressure : Int32} {t_now_day : Int32} {t_now_wells : Int32} {t_now_lefts : Int32} {t_now_undos : Int32} {t_now_leftOver : Int32} {o : Int32} (F : Nat) (a1 : Int32) (a2 : Int32) (t_now_notes : Int32) (t_now_note : Nat → Int32) (K2 : Int32 → Option (Int32)) (C : zC p s m args c meth cX4_fitsNotes 4 RX4 wsX4_fitsNotes E A) (hr : meth.sig.returnType = some .boolean) (hK2 : ∀ (v3 : Int32), K2 v3 = some o → zG p l e rm_X4_fitsNotes s m args below meth c 4 E A 0 0 (MQ below (zQ E A (some (.int o)) [(q_t, .inr (3, [.ref q_t_now, .ref q_t_images, .ref q_t_search, .ref q_t_reader, .int t_above, .int t_below, .int t_bads, .int t_nos, .int t_fulls])), (q_t_now, .inr (0, [.int t_now_pressure, .int t_now_day, .int t_now_wells, .int t_now_lefts, .int t_now_notes, .int t_now_undos, .ref q_t_now_kind, .ref q_t_now_wanted, .ref q_t_now_hours, .ref q_t_now_had, .ref q_t_now_due, .ref q_t_now_leftHour, .ref q_t_now_leftPressure, .ref q_t_now_note, .ref q_t_now_past, .ref q_t_now_ahead, .ref q_t_now_gets, .int t_now_leftOver])), (q_t_now_note, zI E 36 t_now_note)]) args s 0 0 A) [(q_t, .inr (3, [.ref q_t_now, .ref q_t_images, .ref q_t_search, .ref q_t_reader, .int t_above, .int t_below, .int t_bads, .int t_nos, .int t_fulls])), (q_t_now, .inr (0, [.int t_now_pressure, .int t_now_day, .int t_now_wells, .int t_now_lefts, .int t_now_notes, .int t_now_undos, .ref q_t_now_kind, .ref q_t_now_wanted, .ref q_t_now_hours, .ref q_t_now_had, .ref q_t_now_due, .ref q_t_now_leftHour, .ref q_t_now_leftPressure, .ref q_t_now_note, .ref q_t_now_past, .ref q_t_now_ahead, .ref q_t_now_gets, .int t_now_leftOver])), (q_t_now_note, zI E 36 t_now_note)] 2 [(0, .ref q_t), (1, .int a1), (2, .int a2), (3, .int v3)] []) : ∀  (v3 : Int32), f_X4_fitsNotes_b43 F a1 a2 t_now_notes t_now_note K2 v3 = some o → zG p l e rm_X4_fitsNotes s m args below meth c 4 E A 0 0 (MQ below (zQ E A (some (.int o)) [(q_t, .inr (3, [.ref q_t_now, .ref q_t_images, .ref q_t_search, .ref q_t_reader, .int t_above, .int t_below, .int t_bads, .int t_nos, .int t_fulls])), (q_t_now, .inr (0, [.int t_now_pressure, .int t_now_day, .int t_now_wells, .int t_now_lefts, .int t_now_notes, .int t_now_undos, .ref q_t_now_kind, .ref q_t_now_wanted, .ref q_t_now_hours, .ref q_t_now_had, .ref q_t_now_due, .ref q_t_now_leftHour, .ref q_t_now_leftPressure, .ref q_t_now_note, .ref q_t_now_past, .ref q_t_now_ahead, .ref q_t_now_gets, .int t_now_leftOver])), (q_t_now_note, zI E 36 t_now_note)]) args s 0 0 A) [(q_t, .inr (3, [.ref q_t_now, .ref q_t_images, .ref q_t_search, .ref q_t_reader, .int t_above, .int t_below, .int t_bads, .int t_nos, .int t_fulls])), (q_t_now, .inr (0, [.int t_now_pressure, .int t_now_day, .int t_now_wells, .int t_now_lefts, .int t_now_notes, .int t_now_undos, .ref q_t_now_kind, .ref q_t_now_wanted, .ref q_t_now_hours, .ref q_t_now_had, .ref q_t_now_due, .ref q_t_now_leftHour, .ref q_t_now_leftPressure, .ref q_t_now_note, .ref q_t_now_past, .ref q_t_now_ahead, .ref q_t_now_gets, .int t_now_leftOver])), (q_t_now_note, zI E 36 t_now_note)] 43 [(0, .ref q_t), (1, .int a1), (2, .int a2), (3, .int v3)] [] := by
  intro v3 h
  rw [f_X4_fitsNotes_b43] at h
  refine z_iinc (v := v3 + (1 : Int32)) (L' := [(3, .int (v3 + (1 : Int32))), (0, .ref q_t), (1, .int a1), (2, .int a2)]) C dX4_fitsNotes_43 3 rfl rfl (by decide) rfl ?_
  refine z_goto (tgt := 2) C dX4_fitsNotes_46 (by decide) ?_
  refine z_sub [1, 2, 3, 0] (L' := [(0, .ref q_t), (1, .int a1), (2, .int a2), (3, .int (v3 + (1 : Int32)))]) rfl ?_
  exact hK2 (v3 + (1 : Int32)) h
set_option maxRecDepth 100000 in
set_option maxHeartbeats 4000000 in
theorem l_X4_fitsNotes_b2 {p : Program} {l : Launch} {e : Env} {s : State} {m : MethodId} {args : Array Value} {below : List Frame} {meth : Method} {c : Code} {E : zE} {A : Nat → Prop} {q_t q_t_now q_t_now_note q_t_images q_t_search q_t_reader q_t_now_kind q_t_now_wanted q_t_now_hours q_t_now_had q_t_now_due q_t_now_leftHour q_t_now_leftPressure q_t_now_past q_t_now_ahead q_t_now_gets : Nat} {t_above : Int32} {t_below : Int32} {t_bads : Int32} {t_nos : Int32} {t_fulls : Int32} {t_now_pressure : Int32} {t_now_day : Int32} {t_now_wells : Int32} {t_now_lefts : Int32} {t_now_undos : Int32} {t_now_leftOver : Int32} {o : Int32} (F : Nat) (a1 : Int32) (a2 : Int32) (t_now_notes : Int32) (t_now_note : Nat → Int32) (C : zC p s m args c meth cX4_fitsNotes 4 RX4 wsX4_fitsNotes E A) (hr : meth.sig.returnType = some .boolean) : ∀ (n : Nat) (v3 : Int32), f_X4_fitsNotes_b2 F a1 a2 t_now_notes t_now_note n v3 = some o → zG p l e rm_X4_fitsNotes s m args below meth c 4 E A 0 0 (MQ below (zQ E A (some (.int o)) [(q_t, .inr (3, [.ref q_t_now, .ref q_t_images, .ref q_t_search, .ref q_t_reader, .int t_above, .int t_below, .int t_bads, .int t_nos, .int t_fulls])), (q_t_now, .inr (0, [.int t_now_pressure, .int t_now_day, .int t_now_wells, .int t_now_lefts, .int t_now_notes, .int t_now_undos, .ref q_t_now_kind, .ref q_t_now_wanted, .ref q_t_now_hours, .ref q_t_now_had, .ref q_t_now_due, .ref q_t_now_leftHour, .ref q_t_now_leftPressure, .ref q_t_now_note, .ref q_t_now_past, .ref q_t_now_ahead, .ref q_t_now_gets, .int t_now_leftOver])), (q_t_now_note, zI E 36 t_now_note)]) args s 0 0 A) [(q_t, .inr (3, [.ref q_t_now, .ref q_t_images, .ref q_t_search, .ref q_t_reader, .int t_above, .int t_below, .int t_bads, .int t_nos, .int t_fulls])), (q_t_now, .inr (0, [.int t_now_pressure, .int t_now_day, .int t_now_wells, .int t_now_lefts, .int t_now_notes, .int t_now_undos, .ref q_t_now_kind, .ref q_t_now_wanted, .ref q_t_now_hours, .ref q_t_now_had, .ref q_t_now_due, .ref q_t_now_leftHour, .ref q_t_now_leftPressure, .ref q_t_now_note, .ref q_t_now_past, .ref q_t_now_ahead, .ref q_t_now_gets, .int t_now_leftOver])), (q_t_now_note, zI E 36 t_now_note)] 2 [(0, .ref q_t), (1, .int a1), (2, .int a2), (3, .int v3)] [] := by
  intro n
  induction n with
  | zero =>
    intro v3 h
    rw [f_X4_fitsNotes_b2] at h
    cases h
  | succ n ih =>
    intro v3 h
    rw [f_X4_fitsNotes_b2] at h
    refine z_iload_n C dX4_fitsNotes_2 rfl 3 rfl ?_
    refine z_aload_n C dX4_fitsNotes_3 rfl 0 rfl ?_
    refine z_get C inT_X4 0 rfl rfl 0 (by decide) rfl (mc W_226) rfl dX4_fitsNotes_4 ?_
    refine z_get C inT_X1 1 rfl rfl 4 (by decide) rfl (mc W_93) rfl dX4_fitsNotes_7 ?_
    refine z_icmp_ge (tgt := 49) C dX4_fitsNotes_10 (by decide) (fun c => ?_) (fun c => ?_)
    · replace h := (if_pos c).symm.trans h
      refine z_iconst (v := (1 : Int32)) C dX4_fitsNotes_49 (by decide) ?_
      obtain rfl := Option.some.inj h
      exact z_zret (v := (1 : Int32)) C hr rfl dX4_fitsNotes_50
    · replace h := (if_neg c).symm.trans h
      refine z_aload_n C dX4_fitsNotes_13 rfl 0 rfl ?_
      refine z_get C inT_X4 0 rfl rfl 0 (by decide) rfl (mc W_226) rfl dX4_fitsNotes_14 ?_
      refine z_get C inT_X1 1 rfl rfl 13 (by decide) rfl (mc W_114) rfl dX4_fitsNotes_17 ?_
      refine z_iload_n C dX4_fitsNotes_20 rfl 3 rfl ?_
      refine z_bipush (v := (6 : Int32)) C dX4_fitsNotes_21 (by decide) ?_
      refine z_imul C dX4_fitsNotes_23 ?_
      obtain ⟨c1, h⟩ := chk_some h
      refine z_iald C 2 rfl c1 dX4_fitsNotes_24 ?_
      refine z_iload_n C dX4_fitsNotes_25 rfl 2 rfl ?_
      refine z_icmp_ne (tgt := 43) C dX4_fitsNotes_26 (by decide) (fun c => ?_) (fun c => ?_)
      · replace h := (if_neg c).symm.trans h
        exact (l_X4_fitsNotes_b43 F a1 a2 t_now_notes t_now_note (f_X4_fitsNotes_b2 F a1 a2 t_now_notes t_now_note n) C hr ih) v3 h
      · replace h := (if_pos c).symm.trans h
        refine z_aload_n C dX4_fitsNotes_29 rfl 0 rfl ?_
        refine z_iload_n C dX4_fitsNotes_30 rfl 1 rfl ?_
        refine z_iload_n C dX4_fitsNotes_31 rfl 3 rfl ?_
        refine z_bipush (v := (6 : Int32)) C dX4_fitsNotes_32 (by decide) ?_
        refine z_imul C dX4_fitsNotes_34 ?_
        obtain ⟨o2, ho3, h⟩ := bnd_some h
        refine z_callV (wc := [(q_t, .inr (3, [.ref q_t_now, .ref q_t_images, .ref q_t_search, .ref q_t_reader, .int t_above, .int t_below, .int t_bads, .int t_nos, .int t_fulls])), (q_t_now, .inr (0, [.int t_now_pressure, .int t_now_day, .int t_now_wells, .int t_now_lefts, .int t_now_notes, .int t_now_undos, .ref q_t_now_kind, .ref q_t_now_wanted, .ref q_t_now_hours, .ref q_t_now_had, .ref q_t_now_due, .ref q_t_now_leftHour, .ref q_t_now_leftPressure, .ref q_t_now_note, .ref q_t_now_past, .ref q_t_now_ahead, .ref q_t_now_gets, .int t_now_leftOver])), (q_t_now_note, zI E 36 t_now_note)]) (wr := []) (wc' := [(q_t, .inr (3, [.ref q_t_now, .ref q_t_images, .ref q_t_search, .ref q_t_reader, .int t_above, .int t_below, .int t_bads, .int t_nos, .int t_fulls])), (q_t_now, .inr (0, [.int t_now_pressure, .int t_now_day, .int t_now_wells, .int t_now_lefts, .int t_now_notes, .int t_now_undos, .ref q_t_now_kind, .ref q_t_now_wanted, .ref q_t_now_hours, .ref q_t_now_had, .ref q_t_now_due, .ref q_t_now_leftHour, .ref q_t_now_leftPressure, .ref q_t_now_note, .ref q_t_now_past, .ref q_t_now_ahead, .ref q_t_now_gets, .int t_now_leftOver])), (q_t_now_note, zI E 36 t_now_note)]) (ws2 := [(q_t, .inr (3, [.ref q_t_now, .ref q_t_images, .ref q_t_search, .ref q_t_reader, .int t_above, .int t_below, .int t_bads, .int t_nos, .int t_fulls])), (q_t_now, .inr (0, [.int t_now_pressure, .int t_now_day, .int t_now_wells, .int t_now_lefts, .int t_now_notes, .int t_now_undos, .ref q_t_now_kind, .ref q_t_now_wanted, .ref q_t_now_hours, .ref q_t_now_had, .ref q_t_now_due, .ref q_t_now_leftHour, .ref q_t_now_leftPressure, .ref q_t_now_note, .ref q_t_now_past, .ref q_t_now_ahead, .ref q_t_now_gets, .int t_now_leftOver])), (q_t_now_note, zI E 36 t_now_note)]) (As := [.int a1, .int (v3 * (6 : Int32))]) (st2 := [.int o2]) C [0, 1, 2] [] [0, 1, 2] rfl rfl rfl rfl (by decide) rfl rfl (c_X4_fitsNote F ho3) (goodVT consT W_562 W_564 W_23 W_58 W_565) rfl rfl rfl hd_X4_fitsNote ⟨Nat.le_of_ble_eq_true rfl, Nat.le_of_ble_eq_true rfl⟩ rfl rfl rfl (j := 0) rfl rfl rfl (Nat.le_of_ble_eq_true rfl) dX4_fitsNotes_35 ⟨Nat.zero_le _, Nat.zero_le _⟩ ?_
        refine z_if_ne (tgt := 43) C dX4_fitsNotes_38 (by decide) (fun c => ?_) (fun c => ?_)
        · replace h := (if_neg c).symm.trans h
          exact (l_X4_fitsNotes_b43 F a1 a2 t_now_notes t_now_note (f_X4_fitsNotes_b2 F a1 a2 t_now_notes t_now_note n) C hr ih) v3 h
        · replace h := (if_pos c).symm.trans h
          refine z_iconst (v := (0 : Int32)) C dX4_fitsNotes_41 (by decide) ?_
          obtain rfl := Option.some.inj h
          exact z_zret (v := (0 : Int32)) C hr rfl dX4_fitsNotes_42
set_option maxRecDepth 100000 in
set_option maxHeartbeats 4000000 in
theorem c_X4_fitsNotes {l : Launch} {E : zE} {q_t q_t_now q_t_now_note q_t_images q_t_search q_t_reader q_t_now_kind q_t_now_wanted q_t_now_hours q_t_now_had q_t_now_due q_t_now_leftHour q_t_now_leftPressure q_t_now_past q_t_now_ahead q_t_now_gets : Nat} {t_above : Int32} {t_below : Int32} {t_bads : Int32} {t_nos : Int32} {t_fulls : Int32} {t_now_pressure : Int32} {t_now_day : Int32} {t_now_wells : Int32} {t_now_lefts : Int32} {t_now_undos : Int32} {t_now_leftOver : Int32} {a1 : Int32} {a2 : Int32} {t_now_notes : Int32} {t_now_note : Nat → Int32} {o : Int32} (F : Nat) (h : f_X4_fitsNotes F a1 a2 t_now_notes t_now_note = some o) : zM l yX4_fitsNotes wsX4_fitsNotes rm_X4_fitsNotes E [.ref q_t, .int a1, .int a2] [(q_t, .inr (3, [.ref q_t_now, .ref q_t_images, .ref q_t_search, .ref q_t_reader, .int t_above, .int t_below, .int t_bads, .int t_nos, .int t_fulls])), (q_t_now, .inr (0, [.int t_now_pressure, .int t_now_day, .int t_now_wells, .int t_now_lefts, .int t_now_notes, .int t_now_undos, .ref q_t_now_kind, .ref q_t_now_wanted, .ref q_t_now_hours, .ref q_t_now_had, .ref q_t_now_due, .ref q_t_now_leftHour, .ref q_t_now_leftPressure, .ref q_t_now_note, .ref q_t_now_past, .ref q_t_now_ahead, .ref q_t_now_gets, .int t_now_leftOver])), (q_t_now_note, zI E 36 t_now_note)] (some (.int o)) [(q_t, .inr (3, [.ref q_t_now, .ref q_t_images, .ref q_t_search, .ref q_t_reader, .int t_above, .int t_below, .int t_bads, .int t_nos, .int t_fulls])), (q_t_now, .inr (0, [.int t_now_pressure, .int t_now_day, .int t_now_wells, .int t_now_lefts, .int t_now_notes, .int t_now_undos, .ref q_t_now_kind, .ref q_t_now_wanted, .ref q_t_now_hours, .ref q_t_now_had, .ref q_t_now_due, .ref q_t_now_leftHour, .ref q_t_now_leftPressure, .ref q_t_now_note, .ref q_t_now_past, .ref q_t_now_ahead, .ref q_t_now_gets, .int t_now_leftOver])), (q_t_now_note, zI E 36 t_now_note)] := by
  refine zM.of (cc := cX4_fitsNotes) (maxL := 4) (ret := (some .boolean)) (by decide +kernel) rfl (Nat.le_of_ble_eq_true rfl) ?_
  intro p e s m args below meth c A C hr
  have C : zC p s m args c meth cX4_fitsNotes 4 RX4 wsX4_fitsNotes E A := C
  rw [f_X4_fitsNotes] at h
  refine z_iconst (v := (0 : Int32)) C dX4_fitsNotes_0 (by decide) ?_
  refine z_istore_n (L' := [(3, .int (0 : Int32)), (0, .ref q_t), (1, .int a1), (2, .int a2)]) C dX4_fitsNotes_1 rfl (by decide) rfl ?_
  refine z_sub [1, 2, 3, 0] (L' := [(0, .ref q_t), (1, .int a1), (2, .int a2), (3, .int (0 : Int32))]) rfl ?_
  exact (l_X4_fitsNotes_b2 F a1 a2 t_now_notes t_now_note C hr F) (0 : Int32) h
def rm_X4_kindsOf : Room := { frames := 4, cells := 0, slots := 0, locals := 92 }
theorem hd_X4_kindsOf : yX4_kindsOf.cls = yX4_kindsOf.cls ∧ yX4_kindsOf.cls ≠ "java/lang/invoke/MethodHandle" ∧ yX4_kindsOf.cls ≠ "java/lang/invoke/VarHandle" ∧ (parseMethodDescriptor yX4_kindsOf.desc).map (fun d => d.parameters.length) = some 1 := by decide +kernel
abbrev wsX4_kindsOf : List Cond := .code yX4_kindsOf cX4_kindsOf 4 (some .int) :: WALL
set_option maxRecDepth 100000 in
set_option maxHeartbeats 4000000 in
theorem l_X4_kindsOf_b25 {p : Program} {l : Launch} {e : Env} {s : State} {m : MethodId} {args : Array Value} {below : List Frame} {meth : Method} {c : Code} {E : zE} {A : Nat → Prop} {q_t q_t_now q_t_now_note q_t_images q_t_search q_t_reader q_t_now_kind q_t_now_wanted q_t_now_hours q_t_now_had q_t_now_due q_t_now_leftHour q_t_now_leftPressure q_t_now_past q_t_now_ahead q_t_now_gets : Nat} {t_above : Int32} {t_below : Int32} {t_bads : Int32} {t_nos : Int32} {t_fulls : Int32} {t_now_pressure : Int32} {t_now_day : Int32} {t_now_wells : Int32} {t_now_lefts : Int32} {t_now_undos : Int32} {t_now_leftOver : Int32} {o : Int32} (F : Nat) (a1 : Int32) (t_now_notes : Int32) (t_now_note : Nat → Int32) (K4 : Int32 → Int32 → Option (Int32)) (C : zC p s m args c meth cX4_kindsOf 4 RX4 wsX4_kindsOf E A) (hr : meth.sig.returnType = some .int) (hK4 : ∀ (v2 : Int32) (v3 : Int32), K4 v2 v3 = some o → zG p l e rm_X4_kindsOf s m args below meth c 4 E A 0 0 (MQ below (zQ E A (some (.int o)) [(q_t, .inr (3, [.ref q_t_now, .ref q_t_images, .ref q_t_search, .ref q_t_reader, .int t_above, .int t_below, .int t_bads, .int t_nos, .int t_fulls])), (q_t_now, .inr (0, [.int t_now_pressure, .int t_now_day, .int t_now_wells, .int t_now_lefts, .int t_now_notes, .int t_now_undos, .ref q_t_now_kind, .ref q_t_now_wanted, .ref q_t_now_hours, .ref q_t_now_had, .ref q_t_now_due, .ref q_t_now_leftHour, .ref q_t_now_leftPressure, .ref q_t_now_note, .ref q_t_now_past, .ref q_t_now_ahead, .ref q_t_now_gets, .int t_now_leftOver])), (q_t_now_note, zI E 36 t_now_note)]) args s 0 0 A) [(q_t, .inr (3, [.ref q_t_now, .ref q_t_images, .ref q_t_search, .ref q_t_reader, .int t_above, .int t_below, .int t_bads, .int t_nos, .int t_fulls])), (q_t_now, .inr (0, [.int t_now_pressure, .int t_now_day, .int t_now_wells, .int t_now_lefts, .int t_now_notes, .int t_now_undos, .ref q_t_now_kind, .ref q_t_now_wanted, .ref q_t_now_hours, .ref q_t_now_had, .ref q_t_now_due, .ref q_t_now_leftHour, .ref q_t_now_leftPressure, .ref q_t_now_note, .ref q_t_now_past, .ref q_t_now_ahead, .ref q_t_now_gets, .int t_now_leftOver])), (q_t_now_note, zI E 36 t_now_note)] 4 [(0, .ref q_t), (1, .int a1), (2, .int v2), (3, .int v3)] []) : ∀  (v2 : Int32) (v3 : Int32), f_X4_kindsOf_b25 F a1 t_now_notes t_now_note K4 v2 v3 = some o → zG p l e rm_X4_kindsOf s m args below meth c 4 E A 0 0 (MQ below (zQ E A (some (.int o)) [(q_t, .inr (3, [.ref q_t_now, .ref q_t_images, .ref q_t_search, .ref q_t_reader, .int t_above, .int t_below, .int t_bads, .int t_nos, .int t_fulls])), (q_t_now, .inr (0, [.int t_now_pressure, .int t_now_day, .int t_now_wells, .int t_now_lefts, .int t_now_notes, .int t_now_undos, .ref q_t_now_kind, .ref q_t_now_wanted, .ref q_t_now_hours, .ref q_t_now_had, .ref q_t_now_due, .ref q_t_now_leftHour, .ref q_t_now_leftPressure, .ref q_t_now_note, .ref q_t_now_past, .ref q_t_now_ahead, .ref q_t_now_gets, .int t_now_leftOver])), (q_t_now_note, zI E 36 t_now_note)]) args s 0 0 A) [(q_t, .inr (3, [.ref q_t_now, .ref q_t_images, .ref q_t_search, .ref q_t_reader, .int t_above, .int t_below, .int t_bads, .int t_nos, .int t_fulls])), (q_t_now, .inr (0, [.int t_now_pressure, .int t_now_day, .int t_now_wells, .int t_now_lefts, .int t_now_notes, .int t_now_undos, .ref q_t_now_kind, .ref q_t_now_wanted, .ref q_t_now_hours, .ref q_t_now_had, .ref q_t_now_due, .ref q_t_now_leftHour, .ref q_t_now_leftPressure, .ref q_t_now_note, .ref q_t_now_past, .ref q_t_now_ahead, .ref q_t_now_gets, .int t_now_leftOver])), (q_t_now_note, zI E 36 t_now_note)] 25 [(0, .ref q_t), (1, .int a1), (2, .int v2), (3, .int v3)] [] := by
  intro v2 v3 h
  rw [f_X4_kindsOf_b25] at h
  refine z_iinc (v := v3 + (1 : Int32)) (L' := [(3, .int (v3 + (1 : Int32))), (0, .ref q_t), (1, .int a1), (2, .int v2)]) C dX4_kindsOf_25 3 rfl rfl (by decide) rfl ?_
  refine z_goto (tgt := 4) C dX4_kindsOf_28 (by decide) ?_
  refine z_sub [1, 2, 3, 0] (L' := [(0, .ref q_t), (1, .int a1), (2, .int v2), (3, .int (v3 + (1 : Int32)))]) rfl ?_
  exact hK4 v2 (v3 + (1 : Int32)) h
set_option maxRecDepth 100000 in
set_option maxHeartbeats 4000000 in
theorem l_X4_kindsOf_b4 {p : Program} {l : Launch} {e : Env} {s : State} {m : MethodId} {args : Array Value} {below : List Frame} {meth : Method} {c : Code} {E : zE} {A : Nat → Prop} {q_t q_t_now q_t_now_note q_t_images q_t_search q_t_reader q_t_now_kind q_t_now_wanted q_t_now_hours q_t_now_had q_t_now_due q_t_now_leftHour q_t_now_leftPressure q_t_now_past q_t_now_ahead q_t_now_gets : Nat} {t_above : Int32} {t_below : Int32} {t_bads : Int32} {t_nos : Int32} {t_fulls : Int32} {t_now_pressure : Int32} {t_now_day : Int32} {t_now_wells : Int32} {t_now_lefts : Int32} {t_now_undos : Int32} {t_now_leftOver : Int32} {o : Int32} (F : Nat) (a1 : Int32) (t_now_notes : Int32) (t_now_note : Nat → Int32) (C : zC p s m args c meth cX4_kindsOf 4 RX4 wsX4_kindsOf E A) (hr : meth.sig.returnType = some .int) : ∀ (n : Nat) (v2 : Int32) (v3 : Int32), f_X4_kindsOf_b4 F a1 t_now_notes t_now_note n v2 v3 = some o → zG p l e rm_X4_kindsOf s m args below meth c 4 E A 0 0 (MQ below (zQ E A (some (.int o)) [(q_t, .inr (3, [.ref q_t_now, .ref q_t_images, .ref q_t_search, .ref q_t_reader, .int t_above, .int t_below, .int t_bads, .int t_nos, .int t_fulls])), (q_t_now, .inr (0, [.int t_now_pressure, .int t_now_day, .int t_now_wells, .int t_now_lefts, .int t_now_notes, .int t_now_undos, .ref q_t_now_kind, .ref q_t_now_wanted, .ref q_t_now_hours, .ref q_t_now_had, .ref q_t_now_due, .ref q_t_now_leftHour, .ref q_t_now_leftPressure, .ref q_t_now_note, .ref q_t_now_past, .ref q_t_now_ahead, .ref q_t_now_gets, .int t_now_leftOver])), (q_t_now_note, zI E 36 t_now_note)]) args s 0 0 A) [(q_t, .inr (3, [.ref q_t_now, .ref q_t_images, .ref q_t_search, .ref q_t_reader, .int t_above, .int t_below, .int t_bads, .int t_nos, .int t_fulls])), (q_t_now, .inr (0, [.int t_now_pressure, .int t_now_day, .int t_now_wells, .int t_now_lefts, .int t_now_notes, .int t_now_undos, .ref q_t_now_kind, .ref q_t_now_wanted, .ref q_t_now_hours, .ref q_t_now_had, .ref q_t_now_due, .ref q_t_now_leftHour, .ref q_t_now_leftPressure, .ref q_t_now_note, .ref q_t_now_past, .ref q_t_now_ahead, .ref q_t_now_gets, .int t_now_leftOver])), (q_t_now_note, zI E 36 t_now_note)] 4 [(0, .ref q_t), (1, .int a1), (2, .int v2), (3, .int v3)] [] := by
  intro n
  induction n with
  | zero =>
    intro v2 v3 h
    rw [f_X4_kindsOf_b4] at h
    cases h
  | succ n ih =>
    intro v2 v3 h
    rw [f_X4_kindsOf_b4] at h
    refine z_iload_n C dX4_kindsOf_4 rfl 3 rfl ?_
    refine z_bipush (v := (6 : Int32)) C dX4_kindsOf_5 (by decide) ?_
    refine z_icmp_ge (tgt := 31) C dX4_kindsOf_7 (by decide) (fun c => ?_) (fun c => ?_)
    · replace h := (if_pos c).symm.trans h
      refine z_iload_n C dX4_kindsOf_31 rfl 2 rfl ?_
      obtain rfl := Option.some.inj h
      exact z_iret (v := v2) C hr dX4_kindsOf_32
    · replace h := (if_neg c).symm.trans h
      refine z_aload_n C dX4_kindsOf_10 rfl 0 rfl ?_
      refine z_iload_n C dX4_kindsOf_11 rfl 3 rfl ?_
      refine z_iload_n C dX4_kindsOf_12 rfl 1 rfl ?_
      obtain ⟨o1, ho2, h⟩ := bnd_some h
      refine z_callV (wc := [(q_t, .inr (3, [.ref q_t_now, .ref q_t_images, .ref q_t_search, .ref q_t_reader, .int t_above, .int t_below, .int t_bads, .int t_nos, .int t_fulls])), (q_t_now, .inr (0, [.int t_now_pressure, .int t_now_day, .int t_now_wells, .int t_now_lefts, .int t_now_notes, .int t_now_undos, .ref q_t_now_kind, .ref q_t_now_wanted, .ref q_t_now_hours, .ref q_t_now_had, .ref q_t_now_due, .ref q_t_now_leftHour, .ref q_t_now_leftPressure, .ref q_t_now_note, .ref q_t_now_past, .ref q_t_now_ahead, .ref q_t_now_gets, .int t_now_leftOver])), (q_t_now_note, zI E 36 t_now_note)]) (wr := []) (wc' := [(q_t, .inr (3, [.ref q_t_now, .ref q_t_images, .ref q_t_search, .ref q_t_reader, .int t_above, .int t_below, .int t_bads, .int t_nos, .int t_fulls])), (q_t_now, .inr (0, [.int t_now_pressure, .int t_now_day, .int t_now_wells, .int t_now_lefts, .int t_now_notes, .int t_now_undos, .ref q_t_now_kind, .ref q_t_now_wanted, .ref q_t_now_hours, .ref q_t_now_had, .ref q_t_now_due, .ref q_t_now_leftHour, .ref q_t_now_leftPressure, .ref q_t_now_note, .ref q_t_now_past, .ref q_t_now_ahead, .ref q_t_now_gets, .int t_now_leftOver])), (q_t_now_note, zI E 36 t_now_note)]) (ws2 := [(q_t, .inr (3, [.ref q_t_now, .ref q_t_images, .ref q_t_search, .ref q_t_reader, .int t_above, .int t_below, .int t_bads, .int t_nos, .int t_fulls])), (q_t_now, .inr (0, [.int t_now_pressure, .int t_now_day, .int t_now_wells, .int t_now_lefts, .int t_now_notes, .int t_now_undos, .ref q_t_now_kind, .ref q_t_now_wanted, .ref q_t_now_hours, .ref q_t_now_had, .ref q_t_now_due, .ref q_t_now_leftHour, .ref q_t_now_leftPressure, .ref q_t_now_note, .ref q_t_now_past, .ref q_t_now_ahead, .ref q_t_now_gets, .int t_now_leftOver])), (q_t_now_note, zI E 36 t_now_note)]) (As := [.int v3, .int a1]) (st2 := [.int o1]) C [0, 1, 2] [] [0, 1, 2] rfl rfl rfl rfl (by decide) rfl rfl (c_X4_fitsNotes F ho2) (goodVT consT W_558 W_560 W_22 W_58 W_561) rfl rfl rfl hd_X4_fitsNotes ⟨Nat.le_of_ble_eq_true rfl, Nat.le_of_ble_eq_true rfl⟩ rfl rfl rfl (j := 0) rfl rfl rfl (Nat.le_of_ble_eq_true rfl) dX4_kindsOf_13 ⟨Nat.zero_le _, Nat.zero_le _⟩ ?_
      refine z_if_eq (tgt := 25) C dX4_kindsOf_16 (by decide) (fun c => ?_) (fun c => ?_)
      · replace h := (if_pos c).symm.trans h
        exact (l_X4_kindsOf_b25 F a1 t_now_notes t_now_note (f_X4_kindsOf_b4 F a1 t_now_notes t_now_note n) C hr ih) v2 v3 h
      · replace h := (if_neg c).symm.trans h
        refine z_iload_n C dX4_kindsOf_19 rfl 2 rfl ?_
        refine z_iconst (v := (1 : Int32)) C dX4_kindsOf_20 (by decide) ?_
        refine z_iload_n C dX4_kindsOf_21 rfl 3 rfl ?_
        refine z_ishl C dX4_kindsOf_22 ?_
        refine z_ior C dX4_kindsOf_23 ?_
        refine z_istore_n (L' := [(2, .int (v2 ||| ((1 : Int32) <<< (v3 &&& 31)))), (0, .ref q_t), (1, .int a1), (3, .int v3)]) C dX4_kindsOf_24 rfl (by decide) rfl ?_
        refine z_sub [1, 2, 0, 3] (L' := [(0, .ref q_t), (1, .int a1), (2, .int (v2 ||| ((1 : Int32) <<< (v3 &&& 31)))), (3, .int v3)]) rfl ?_
        exact (l_X4_kindsOf_b25 F a1 t_now_notes t_now_note (f_X4_kindsOf_b4 F a1 t_now_notes t_now_note n) C hr ih) (v2 ||| ((1 : Int32) <<< (v3 &&& 31))) v3 h
set_option maxRecDepth 100000 in
set_option maxHeartbeats 4000000 in
theorem c_X4_kindsOf {l : Launch} {E : zE} {q_t q_t_now q_t_now_note q_t_images q_t_search q_t_reader q_t_now_kind q_t_now_wanted q_t_now_hours q_t_now_had q_t_now_due q_t_now_leftHour q_t_now_leftPressure q_t_now_past q_t_now_ahead q_t_now_gets : Nat} {t_above : Int32} {t_below : Int32} {t_bads : Int32} {t_nos : Int32} {t_fulls : Int32} {t_now_pressure : Int32} {t_now_day : Int32} {t_now_wells : Int32} {t_now_lefts : Int32} {t_now_undos : Int32} {t_now_leftOver : Int32} {a1 : Int32} {t_now_notes : Int32} {t_now_note : Nat → Int32} {o : Int32} (F : Nat) (h : f_X4_kindsOf F a1 t_now_notes t_now_note = some o) : zM l yX4_kindsOf wsX4_kindsOf rm_X4_kindsOf E [.ref q_t, .int a1] [(q_t, .inr (3, [.ref q_t_now, .ref q_t_images, .ref q_t_search, .ref q_t_reader, .int t_above, .int t_below, .int t_bads, .int t_nos, .int t_fulls])), (q_t_now, .inr (0, [.int t_now_pressure, .int t_now_day, .int t_now_wells, .int t_now_lefts, .int t_now_notes, .int t_now_undos, .ref q_t_now_kind, .ref q_t_now_wanted, .ref q_t_now_hours, .ref q_t_now_had, .ref q_t_now_due, .ref q_t_now_leftHour, .ref q_t_now_leftPressure, .ref q_t_now_note, .ref q_t_now_past, .ref q_t_now_ahead, .ref q_t_now_gets, .int t_now_leftOver])), (q_t_now_note, zI E 36 t_now_note)] (some (.int o)) [(q_t, .inr (3, [.ref q_t_now, .ref q_t_images, .ref q_t_search, .ref q_t_reader, .int t_above, .int t_below, .int t_bads, .int t_nos, .int t_fulls])), (q_t_now, .inr (0, [.int t_now_pressure, .int t_now_day, .int t_now_wells, .int t_now_lefts, .int t_now_notes, .int t_now_undos, .ref q_t_now_kind, .ref q_t_now_wanted, .ref q_t_now_hours, .ref q_t_now_had, .ref q_t_now_due, .ref q_t_now_leftHour, .ref q_t_now_leftPressure, .ref q_t_now_note, .ref q_t_now_past, .ref q_t_now_ahead, .ref q_t_now_gets, .int t_now_leftOver])), (q_t_now_note, zI E 36 t_now_note)] := by
  refine zM.of (cc := cX4_kindsOf) (maxL := 4) (ret := (some .int)) (by decide +kernel) rfl (Nat.le_of_ble_eq_true rfl) ?_
  intro p e s m args below meth c A C hr
  have C : zC p s m args c meth cX4_kindsOf 4 RX4 wsX4_kindsOf E A := C
  rw [f_X4_kindsOf] at h
  refine z_iconst (v := (0 : Int32)) C dX4_kindsOf_0 (by decide) ?_
  refine z_istore_n (L' := [(2, .int (0 : Int32)), (0, .ref q_t), (1, .int a1)]) C dX4_kindsOf_1 rfl (by decide) rfl ?_
  refine z_iconst (v := (0 : Int32)) C dX4_kindsOf_2 (by decide) ?_
  refine z_istore_n (L' := [(3, .int (0 : Int32)), (2, .int (0 : Int32)), (0, .ref q_t), (1, .int a1)]) C dX4_kindsOf_3 rfl (by decide) rfl ?_
  refine z_sub [2, 3, 1, 0] (L' := [(0, .ref q_t), (1, .int a1), (2, .int (0 : Int32)), (3, .int (0 : Int32))]) rfl ?_
  exact (l_X4_kindsOf_b4 F a1 t_now_notes t_now_note C hr F) (0 : Int32) (0 : Int32) h
def rm_X4_is : Room := { frames := 5, cells := 0, slots := 0, locals := 115 }
theorem hd_X4_is : yX4_is.cls = yX4_is.cls ∧ yX4_is.cls ≠ "java/lang/invoke/MethodHandle" ∧ yX4_is.cls ≠ "java/lang/invoke/VarHandle" ∧ (parseMethodDescriptor yX4_is.desc).map (fun d => d.parameters.length) = some 1 := by decide +kernel
abbrev wsX4_is : List Cond := .code yX4_is cX4_is 2 (some .int) :: WALL
set_option maxRecDepth 100000 in
set_option maxHeartbeats 4000000 in
theorem c_X4_is {l : Launch} {E : zE} {q_t q_t_now q_t_now_note q_t_images q_t_search q_t_reader q_t_now_kind q_t_now_wanted q_t_now_hours q_t_now_had q_t_now_due q_t_now_leftHour q_t_now_leftPressure q_t_now_past q_t_now_ahead q_t_now_gets : Nat} {t_above : Int32} {t_below : Int32} {t_nos : Int32} {t_fulls : Int32} {t_now_pressure : Int32} {t_now_day : Int32} {t_now_lefts : Int32} {t_now_undos : Int32} {t_now_leftOver : Int32} {a1 : Int32} {t_now_wells : Int32} {t_now_notes : Int32} {t_now_note : Nat → Int32} {t_bads : Int32} {o : Int32 × Int32} (F : Nat) (h : f_X4_is F a1 t_now_wells t_now_notes t_now_note t_bads = some o) : zM l yX4_is wsX4_is rm_X4_is E [.ref q_t, .int a1] [(q_t, .inr (3, [.ref q_t_now, .ref q_t_images, .ref q_t_search, .ref q_t_reader, .int t_above, .int t_below, .int t_bads, .int t_nos, .int t_fulls])), (q_t_now, .inr (0, [.int t_now_pressure, .int t_now_day, .int t_now_wells, .int t_now_lefts, .int t_now_notes, .int t_now_undos, .ref q_t_now_kind, .ref q_t_now_wanted, .ref q_t_now_hours, .ref q_t_now_had, .ref q_t_now_due, .ref q_t_now_leftHour, .ref q_t_now_leftPressure, .ref q_t_now_note, .ref q_t_now_past, .ref q_t_now_ahead, .ref q_t_now_gets, .int t_now_leftOver])), (q_t_now_note, zI E 36 t_now_note)] (some (.int o.1)) [(q_t, .inr (3, [.ref q_t_now, .ref q_t_images, .ref q_t_search, .ref q_t_reader, .int t_above, .int t_below, .int o.2, .int t_nos, .int t_fulls])), (q_t_now, .inr (0, [.int t_now_pressure, .int t_now_day, .int t_now_wells, .int t_now_lefts, .int t_now_notes, .int t_now_undos, .ref q_t_now_kind, .ref q_t_now_wanted, .ref q_t_now_hours, .ref q_t_now_had, .ref q_t_now_due, .ref q_t_now_leftHour, .ref q_t_now_leftPressure, .ref q_t_now_note, .ref q_t_now_past, .ref q_t_now_ahead, .ref q_t_now_gets, .int t_now_leftOver])), (q_t_now_note, zI E 36 t_now_note)] := by
  refine zM.of (cc := cX4_is) (maxL := 2) (ret := (some .int)) (by decide +kernel) rfl (Nat.le_of_ble_eq_true rfl) ?_
  intro p e s m args below meth c A C hr
  have C : zC p s m args c meth cX4_is 2 RX4 wsX4_is E A := C
  rw [f_X4_is] at h
  refine z_aload_n C dX4_is_0 rfl 0 rfl ?_
  refine z_get C inT_X4 0 rfl rfl 0 (by decide) rfl (mc W_226) rfl dX4_is_1 ?_
  refine z_iload_n C dX4_is_4 rfl 1 rfl ?_
  obtain ⟨o1, ho2, h⟩ := bnd_some h
  refine z_callV (wc := [(q_t_now, .inr (0, [.int t_now_pressure, .int t_now_day, .int t_now_wells, .int t_now_lefts, .int t_now_notes, .int t_now_undos, .ref q_t_now_kind, .ref q_t_now_wanted, .ref q_t_now_hours, .ref q_t_now_had, .ref q_t_now_due, .ref q_t_now_leftHour, .ref q_t_now_leftPressure, .ref q_t_now_note, .ref q_t_now_past, .ref q_t_now_ahead, .ref q_t_now_gets, .int t_now_leftOver]))]) (wr := [(q_t, .inr (3, [.ref q_t_now, .ref q_t_images, .ref q_t_search, .ref q_t_reader, .int t_above, .int t_below, .int t_bads, .int t_nos, .int t_fulls])), (q_t_now_note, zI E 36 t_now_note)]) (wc' := [(q_t_now, .inr (0, [.int t_now_pressure, .int t_now_day, .int t_now_wells, .int t_now_lefts, .int t_now_notes, .int t_now_undos, .ref q_t_now_kind, .ref q_t_now_wanted, .ref q_t_now_hours, .ref q_t_now_had, .ref q_t_now_due, .ref q_t_now_leftHour, .ref q_t_now_leftPressure, .ref q_t_now_note, .ref q_t_now_past, .ref q_t_now_ahead, .ref q_t_now_gets, .int t_now_leftOver]))]) (ws2 := [(q_t, .inr (3, [.ref q_t_now, .ref q_t_images, .ref q_t_search, .ref q_t_reader, .int t_above, .int t_below, .int t_bads, .int t_nos, .int t_fulls])), (q_t_now, .inr (0, [.int t_now_pressure, .int t_now_day, .int t_now_wells, .int t_now_lefts, .int t_now_notes, .int t_now_undos, .ref q_t_now_kind, .ref q_t_now_wanted, .ref q_t_now_hours, .ref q_t_now_had, .ref q_t_now_due, .ref q_t_now_leftHour, .ref q_t_now_leftPressure, .ref q_t_now_note, .ref q_t_now_past, .ref q_t_now_ahead, .ref q_t_now_gets, .int t_now_leftOver])), (q_t_now_note, zI E 36 t_now_note)]) (As := [.int a1]) (st2 := [.int o1]) C [1] [0, 2] [0, 2, 1] rfl rfl rfl rfl (by decide) rfl rfl (c_X1_has F ho2) (goodVT consT W_404 W_405 W_406 W_59 W_407) rfl rfl rfl hd_X1_has ⟨Nat.le_of_ble_eq_true rfl, Nat.le_of_ble_eq_true rfl⟩ rfl rfl rfl (j := 0) rfl rfl rfl (Nat.le_of_ble_eq_true rfl) dX4_is_5 ⟨Nat.zero_le _, Nat.zero_le _⟩ ?_
  refine z_if_ne (tgt := 16) C dX4_is_8 (by decide) (fun c => ?_) (fun c => ?_)
  · replace h := (if_neg c).symm.trans h
    refine z_aload_n C dX4_is_16 rfl 0 rfl ?_
    refine z_iload_n C dX4_is_17 rfl 1 rfl ?_
    obtain ⟨o3, ho4, h⟩ := bnd_some h
    refine z_callV (wc := [(q_t, .inr (3, [.ref q_t_now, .ref q_t_images, .ref q_t_search, .ref q_t_reader, .int t_above, .int t_below, .int t_bads, .int t_nos, .int t_fulls])), (q_t_now, .inr (0, [.int t_now_pressure, .int t_now_day, .int t_now_wells, .int t_now_lefts, .int t_now_notes, .int t_now_undos, .ref q_t_now_kind, .ref q_t_now_wanted, .ref q_t_now_hours, .ref q_t_now_had, .ref q_t_now_due, .ref q_t_now_leftHour, .ref q_t_now_leftPressure, .ref q_t_now_note, .ref q_t_now_past, .ref q_t_now_ahead, .ref q_t_now_gets, .int t_now_leftOver])), (q_t_now_note, zI E 36 t_now_note)]) (wr := []) (wc' := [(q_t, .inr (3, [.ref q_t_now, .ref q_t_images, .ref q_t_search, .ref q_t_reader, .int t_above, .int t_below, .int t_bads, .int t_nos, .int t_fulls])), (q_t_now, .inr (0, [.int t_now_pressure, .int t_now_day, .int t_now_wells, .int t_now_lefts, .int t_now_notes, .int t_now_undos, .ref q_t_now_kind, .ref q_t_now_wanted, .ref q_t_now_hours, .ref q_t_now_had, .ref q_t_now_due, .ref q_t_now_leftHour, .ref q_t_now_leftPressure, .ref q_t_now_note, .ref q_t_now_past, .ref q_t_now_ahead, .ref q_t_now_gets, .int t_now_leftOver])), (q_t_now_note, zI E 36 t_now_note)]) (ws2 := [(q_t, .inr (3, [.ref q_t_now, .ref q_t_images, .ref q_t_search, .ref q_t_reader, .int t_above, .int t_below, .int t_bads, .int t_nos, .int t_fulls])), (q_t_now, .inr (0, [.int t_now_pressure, .int t_now_day, .int t_now_wells, .int t_now_lefts, .int t_now_notes, .int t_now_undos, .ref q_t_now_kind, .ref q_t_now_wanted, .ref q_t_now_hours, .ref q_t_now_had, .ref q_t_now_due, .ref q_t_now_leftHour, .ref q_t_now_leftPressure, .ref q_t_now_note, .ref q_t_now_past, .ref q_t_now_ahead, .ref q_t_now_gets, .int t_now_leftOver])), (q_t_now_note, zI E 36 t_now_note)]) (As := [.int a1]) (st2 := [.int o3]) C [0, 1, 2] [] [0, 1, 2] rfl rfl rfl rfl (by decide) rfl rfl (c_X4_kindsOf F ho4) (goodVT consT W_554 W_556 W_21 W_58 W_557) rfl rfl rfl hd_X4_kindsOf ⟨Nat.le_of_ble_eq_true rfl, Nat.le_of_ble_eq_true rfl⟩ rfl rfl rfl (j := 0) rfl rfl rfl (Nat.le_of_ble_eq_true rfl) dX4_is_18 ⟨Nat.zero_le _, Nat.zero_le _⟩ ?_
    obtain rfl := Option.some.inj h
    exact z_iret (v := o3) C hr dX4_is_21
  · replace h := (if_pos c).symm.trans h
    refine z_aload_n C dX4_is_11 rfl 0 rfl ?_
    obtain ⟨o5, ho6, h⟩ := bnd_some h
    refine z_callV (wc := [(q_t, .inr (3, [.ref q_t_now, .ref q_t_images, .ref q_t_search, .ref q_t_reader, .int t_above, .int t_below, .int t_bads, .int t_nos, .int t_fulls]))]) (wr := [(q_t_now, .inr (0, [.int t_now_pressure, .int t_now_day, .int t_now_wells, .int t_now_lefts, .int t_now_notes, .int t_now_undos, .ref q_t_now_kind, .ref q_t_now_wanted, .ref q_t_now_hours, .ref q_t_now_had, .ref q_t_now_due, .ref q_t_now_leftHour, .ref q_t_now_leftPressure, .ref q_t_now_note, .ref q_t_now_past, .ref q_t_now_ahead, .ref q_t_now_gets, .int t_now_leftOver])), (q_t_now_note, zI E 36 t_now_note)]) (wc' := [(q_t, .inr (3, [.ref q_t_now, .ref q_t_images, .ref q_t_search, .ref q_t_reader, .int t_above, .int t_below, .int o5.2, .int t_nos, .int t_fulls]))]) (ws2 := [(q_t, .inr (3, [.ref q_t_now, .ref q_t_images, .ref q_t_search, .ref q_t_reader, .int t_above, .int t_below, .int o5.2, .int t_nos, .int t_fulls])), (q_t_now, .inr (0, [.int t_now_pressure, .int t_now_day, .int t_now_wells, .int t_now_lefts, .int t_now_notes, .int t_now_undos, .ref q_t_now_kind, .ref q_t_now_wanted, .ref q_t_now_hours, .ref q_t_now_had, .ref q_t_now_due, .ref q_t_now_leftHour, .ref q_t_now_leftPressure, .ref q_t_now_note, .ref q_t_now_past, .ref q_t_now_ahead, .ref q_t_now_gets, .int t_now_leftOver])), (q_t_now_note, zI E 36 t_now_note)]) (As := []) (st2 := [.int o5.1]) C [0] [1, 2] [2, 0, 1] rfl rfl rfl rfl (by decide) rfl rfl (c_X4_bad F ho6) (goodVT consT W_264 W_266 W_0 W_58 W_267) rfl rfl rfl hd_X4_bad ⟨Nat.le_of_ble_eq_true rfl, Nat.le_of_ble_eq_true rfl⟩ rfl rfl rfl (j := 0) rfl rfl rfl (Nat.le_of_ble_eq_true rfl) dX4_is_12 ⟨Nat.zero_le _, Nat.zero_le _⟩ ?_
    obtain rfl := Option.some.inj h
    exact z_iret (v := o5.1) C hr dX4_is_15
def rm_X4_areAlike : Room := { frames := 2, cells := 0, slots := 0, locals := 46 }
theorem hd_X4_areAlike : yX4_areAlike.cls ≠ "java/lang/invoke/MethodHandle" ∧ yX4_areAlike.cls ≠ "java/lang/invoke/VarHandle" ∧ (parseMethodDescriptor yX4_areAlike.desc).map (fun d => d.parameters.length) = some 5 := by decide +kernel
abbrev wsX4_areAlike : List Cond := .code yX4_areAlike cX4_areAlike 7 (some .boolean) :: WALL
set_option maxRecDepth 100000 in
set_option maxHeartbeats 4000000 in
theorem c_X4_areAlike {l : Launch} {E : zE} {a0 : Int32} {a1 : Int32} {a2 : Int32} {a3 : Int32} {a4 : Int32} {o : Int32} (F : Nat) (h : f_X4_areAlike F a0 a1 a2 a3 a4 = some o) : zM l yX4_areAlike wsX4_areAlike rm_X4_areAlike E [.int a0, .int a1, .int a2, .int a3, .int a4] [] (some (.int o)) [] := by
  refine zM.of (cc := cX4_areAlike) (maxL := 7) (ret := (some .boolean)) (by decide +kernel) rfl (Nat.le_of_ble_eq_true rfl) ?_
  intro p e s m args below meth c A C hr
  have C : zC p s m args c meth cX4_areAlike 7 RX4 wsX4_areAlike E A := C
  rw [f_X4_areAlike] at h
  refine z_iload_n C dX4_areAlike_0 rfl 0 rfl ?_
  refine z_iload_n C dX4_areAlike_1 rfl 2 rfl ?_
  refine z_iload_n C dX4_areAlike_2 rfl 3 rfl ?_
  refine z_iload C dX4_areAlike_3 4 rfl ?_
  obtain ⟨o1, ho2, h⟩ := bnd_some h
  refine z_callS (wc := []) (wr := []) (wc' := []) (ws2 := []) (As := [.int a0, .int a2, .int a3, .int a4]) (st2 := [.int o1]) C [] [] [] rfl rfl rfl rfl (by decide) rfl rfl (c_X0_gets F ho2) (goodST consT W_566 W_376 W_63 W_377) rfl rfl rfl hd_X0_gets ⟨Nat.le_of_ble_eq_true rfl, Nat.le_of_ble_eq_true rfl⟩ rfl rfl rfl (Nat.le_of_ble_eq_true rfl) dX4_areAlike_5 ⟨Nat.zero_le _, Nat.zero_le _⟩ ?_
  refine z_istore (L' := [(5, .int o1), (0, .int a0), (1, .int a1), (2, .int a2), (3, .int a3), (4, .int a4)]) C dX4_areAlike_8 (by decide) rfl ?_
  refine z_iload_n C dX4_areAlike_10 rfl 2 rfl ?_
  refine z_iload_n C dX4_areAlike_11 rfl 3 rfl ?_
  refine z_iload_n C dX4_areAlike_12 rfl 4 rfl ?_
  refine z_iload C dX4_areAlike_13 5 rfl ?_
  obtain ⟨o3, ho4, h⟩ := bnd_some h
  refine z_callS (wc := []) (wr := []) (wc' := []) (ws2 := []) (As := [.int a1, .int a2, .int a3, .int a4]) (st2 := [.int o3]) C [] [] [] rfl rfl rfl rfl (by decide) rfl rfl (c_X0_gets F ho4) (goodST consT W_566 W_376 W_63 W_377) rfl rfl rfl hd_X0_gets ⟨Nat.le_of_ble_eq_true rfl, Nat.le_of_ble_eq_true rfl⟩ rfl rfl rfl (Nat.le_of_ble_eq_true rfl) dX4_areAlike_15 ⟨Nat.zero_le _, Nat.zero_le _⟩ ?_
  refine z_istore (L' := [(6, .int o3), (5, .int o1), (0, .int a0), (1, .int a1), (2, .int a2), (3, .int a3), (4, .int a4)]) C dX4_areAlike_18 (by decide) rfl ?_
  refine z_iload C dX4_areAlike_20 1 rfl ?_
  refine z_iload C dX4_areAlike_22 0 rfl ?_
  refine z_icmp_ne (tgt := 46) C dX4_areAlike_24 (by decide) (fun c => ?_) (fun c => ?_)
  · replace h := (if_neg c).symm.trans h
    refine z_iconst (v := (0 : Int32)) C dX4_areAlike_46 (by decide) ?_
    obtain rfl := Option.some.inj h
    exact z_zret (v := (0 : Int32)) C hr rfl dX4_areAlike_47
  · replace h := (if_pos c).symm.trans h
    refine z_iload_n C dX4_areAlike_27 rfl 2 rfl ?_
    refine z_iload C dX4_areAlike_28 1 rfl ?_
    obtain ⟨o5, ho6, h⟩ := bnd_some h
    refine z_callS (wc := []) (wr := []) (wc' := []) (ws2 := []) (As := [.int a0, .int o1]) (st2 := [.int o5]) C [] [] [] rfl rfl rfl rfl (by decide) rfl rfl (c_X0_due F ho6) (goodST consT W_567 W_382 W_63 W_383) rfl rfl rfl hd_X0_due ⟨Nat.le_of_ble_eq_true rfl, Nat.le_of_ble_eq_true rfl⟩ rfl rfl rfl (Nat.le_of_ble_eq_true rfl) dX4_areAlike_30 ⟨Nat.zero_le _, Nat.zero_le _⟩ ?_
    refine z_iload_n C dX4_areAlike_33 rfl 3 rfl ?_
    refine z_iload C dX4_areAlike_34 0 rfl ?_
    obtain ⟨o7, ho8, h⟩ := bnd_some h
    refine z_callS (wc := []) (wr := []) (wc' := []) (ws2 := []) (As := [.int a1, .int o3]) (st2 := [.int o7, .int o5]) C [] [] [] rfl rfl rfl rfl (by decide) rfl rfl (c_X0_due F ho8) (goodST consT W_567 W_382 W_63 W_383) rfl rfl rfl hd_X0_due ⟨Nat.le_of_ble_eq_true rfl, Nat.le_of_ble_eq_true rfl⟩ rfl rfl rfl (Nat.le_of_ble_eq_true rfl) dX4_areAlike_36 ⟨Nat.zero_le _, Nat.zero_le _⟩ ?_
    refine z_icmp_ne (tgt := 46) C dX4_areAlike_39 (by decide) (fun c => ?_) (fun c => ?_)
    · replace h := (if_neg c).symm.trans h
      refine z_iconst (v := (0 : Int32)) C dX4_areAlike_46 (by decide) ?_
      obtain rfl := Option.some.inj h
      exact z_zret (v := (0 : Int32)) C hr rfl dX4_areAlike_47
    · replace h := (if_pos c).symm.trans h
      refine z_iconst (v := (1 : Int32)) C dX4_areAlike_42 (by decide) ?_
      refine z_goto (tgt := 47) C dX4_areAlike_43 (by decide) ?_
      obtain rfl := Option.some.inj h
      exact z_zret (v := (1 : Int32)) C hr rfl dX4_areAlike_47
def rm_X4_mostAlike : Room := { frames := 3, cells := 0, slots := 0, locals := 72 }
theorem hd_X4_mostAlike : yX4_mostAlike.cls ≠ "java/lang/invoke/MethodHandle" ∧ yX4_mostAlike.cls ≠ "java/lang/invoke/VarHandle" ∧ (parseMethodDescriptor yX4_mostAlike.desc).map (fun d => d.parameters.length) = some 4 := by decide +kernel
abbrev wsX4_mostAlike : List Cond := .code yX4_mostAlike cX4_mostAlike 8 (some .int) :: WALL
set_option maxRecDepth 100000 in
set_option maxHeartbeats 4000000 in
theorem l_X4_mostAlike_b57 {p : Program} {l : Launch} {e : Env} {s : State} {m : MethodId} {args : Array Value} {below : List Frame} {meth : Method} {c : Code} {E : zE} {A : Nat → Prop} {o : Int32} (F : Nat) (a0 : Int32) (a1 : Int32) (a2 : Int32) (a3 : Int32) (K19 : Int32 → Int32 → Int32 → Int32 → Option (Int32)) (C : zC p s m args c meth cX4_mostAlike 8 RX4 wsX4_mostAlike E A) (hr : meth.sig.returnType = some .int) (hK19 : ∀ (v4 : Int32) (v5 : Int32) (v6 : Int32) (v7 : Int32), K19 v4 v5 v6 v7 = some o → zG p l e rm_X4_mostAlike s m args below meth c 8 E A 0 0 (MQ below (zQ E A (some (.int o)) []) args s 0 0 A) [] 19 [(0, .int a0), (1, .int a1), (2, .int a2), (3, .int a3), (4, .int v4), (5, .int v5), (6, .int v6), (7, .int v7)] []) : ∀  (v4 : Int32) (v5 : Int32) (v6 : Int32) (v7 : Int32), f_X4_mostAlike_b57 F a0 a1 a2 a3 K19 v4 v5 v6 v7 = some o → zG p l e rm_X4_mostAlike s m args below meth c 8 E A 0 0 (MQ below (zQ E A (some (.int o)) []) args s 0 0 A) [] 57 [(0, .int a0), (1, .int a1), (2, .int a2), (3, .int a3), (4, .int v4), (5, .int v5), (6, .int v6), (7, .int v7)] [] := by
  intro v4 v5 v6 v7 h
  rw [f_X4_mostAlike_b57] at h
  refine z_iinc (v := v7 + (1 : Int32)) (L' := [(7, .int (v7 + (1 : Int32))), (0, .int a0), (1, .int a1), (2, .int a2), (3, .int a3), (4, .int v4), (5, .int v5), (6, .int v6)]) C dX4_mostAlike_57 7 rfl rfl (by decide) rfl ?_
  refine z_goto (tgt := 19) C dX4_mostAlike_60 (by decide) ?_
  refine z_sub [1, 2, 3, 4, 5, 6, 7, 0] (L' := [(0, .int a0), (1, .int a1), (2, .int a2), (3, .int a3), (4, .int v4), (5, .int v5), (6, .int v6), (7, .int (v7 + (1 : Int32)))]) rfl ?_
  exact hK19 v4 v5 v6 (v7 + (1 : Int32)) h
set_option maxRecDepth 100000 in
set_option maxHeartbeats 4000000 in
theorem l_X4_mostAlike_b19 {p : Program} {l : Launch} {e : Env} {s : State} {m : MethodId} {args : Array Value} {below : List Frame} {meth : Method} {c : Code} {E : zE} {A : Nat → Prop} {o : Int32} (F : Nat) (a0 : Int32) (a1 : Int32) (a2 : Int32) (a3 : Int32) (K6 : Int32 → Int32 → Option (Int32)) (C : zC p s m args c meth cX4_mostAlike 8 RX4 wsX4_mostAlike E A) (hr : meth.sig.returnType = some .int) (hK6 : ∀ (v4 : Int32) (v5 : Int32), K6 v4 v5 = some o → zG p l e rm_X4_mostAlike s m args below meth c 8 E A 0 0 (MQ below (zQ E A (some (.int o)) []) args s 0 0 A) [] 6 [(0, .int a0), (1, .int a1), (2, .int a2), (3, .int a3), (4, .int v4), (5, .int v5)] []) : ∀ (n : Nat) (v4 : Int32) (v5 : Int32) (v6 : Int32) (v7 : Int32), f_X4_mostAlike_b19 F a0 a1 a2 a3 K6 n v4 v5 v6 v7 = some o → zG p l e rm_X4_mostAlike s m args below meth c 8 E A 0 0 (MQ below (zQ E A (some (.int o)) []) args s 0 0 A) [] 19 [(0, .int a0), (1, .int a1), (2, .int a2), (3, .int a3), (4, .int v4), (5, .int v5), (6, .int v6), (7, .int v7)] [] := by
  intro n
  induction n with
  | zero =>
    intro v4 v5 v6 v7 h
    rw [f_X4_mostAlike_b19] at h
    cases h
  | succ n ih =>
    intro v4 v5 v6 v7 h
    rw [f_X4_mostAlike_b19] at h
    refine z_iload C dX4_mostAlike_19 7 rfl ?_
    refine z_bipush (v := (6 : Int32)) C dX4_mostAlike_21 (by decide) ?_
    refine z_icmp_ge (tgt := 63) C dX4_mostAlike_23 (by decide) (fun c => ?_) (fun c => ?_)
    · replace h := (if_pos c).symm.trans h
      refine z_iload C dX4_mostAlike_63 4 rfl ?_
      refine z_iload C dX4_mostAlike_65 6 rfl ?_
      refine z_mmax C (mc W_578) (mc W_507) (mc W_64) (mc W_508) (Nat.le_of_ble_eq_true rfl) (Nat.le_of_ble_eq_true rfl) (Nat.zero_le _) (Nat.zero_le _) dX4_mostAlike_67 ?_
      refine z_istore (L' := [(4, .int (if v4 < v6 then v6 else v4)), (0, .int a0), (1, .int a1), (2, .int a2), (3, .int a3), (5, .int v5), (6, .int v6), (7, .int v7)]) C dX4_mostAlike_70 (by decide) rfl ?_
      refine z_iinc (v := v5 + (1 : Int32)) (L' := [(5, .int (v5 + (1 : Int32))), (4, .int (if v4 < v6 then v6 else v4)), (0, .int a0), (1, .int a1), (2, .int a2), (3, .int a3), (6, .int v6), (7, .int v7)]) C dX4_mostAlike_72 5 rfl rfl (by decide) rfl ?_
      refine z_goto (tgt := 6) C dX4_mostAlike_75 (by decide) ?_
      refine z_sub [2, 3, 4, 5, 1, 0] (L' := [(0, .int a0), (1, .int a1), (2, .int a2), (3, .int a3), (4, .int (if v4 < v6 then v6 else v4)), (5, .int (v5 + (1 : Int32)))]) rfl ?_
      exact hK6 (if v4 < v6 then v6 else v4) (v5 + (1 : Int32)) h
    · replace h := (if_neg c).symm.trans h
      refine z_iload_n C dX4_mostAlike_26 rfl 0 rfl ?_
      refine z_iload C dX4_mostAlike_27 5 rfl ?_
      refine z_ishr C dX4_mostAlike_29 ?_
      refine z_iload_n C dX4_mostAlike_30 rfl 0 rfl ?_
      refine z_iload C dX4_mostAlike_31 7 rfl ?_
      refine z_ishr C dX4_mostAlike_33 ?_
      refine z_iand C dX4_mostAlike_34 ?_
      refine z_iconst (v := (1 : Int32)) C dX4_mostAlike_35 (by decide) ?_
      refine z_iand C dX4_mostAlike_36 ?_
      refine z_iconst (v := (1 : Int32)) C dX4_mostAlike_37 (by decide) ?_
      refine z_icmp_ne (tgt := 57) C dX4_mostAlike_38 (by decide) (fun c => ?_) (fun c => ?_)
      · replace h := (if_neg c).symm.trans h
        exact (l_X4_mostAlike_b57 F a0 a1 a2 a3 (f_X4_mostAlike_b19 F a0 a1 a2 a3 K6 n) C hr ih) v4 v5 v6 v7 h
      · replace h := (if_pos c).symm.trans h
        refine z_iload C dX4_mostAlike_41 5 rfl ?_
        refine z_iload C dX4_mostAlike_43 7 rfl ?_
        refine z_iload_n C dX4_mostAlike_45 rfl 1 rfl ?_
        refine z_iload_n C dX4_mostAlike_46 rfl 2 rfl ?_
        refine z_iload_n C dX4_mostAlike_47 rfl 3 rfl ?_
        obtain ⟨o1, ho2, h⟩ := bnd_some h
        refine z_callS (wc := []) (wr := []) (wc' := []) (ws2 := []) (As := [.int v5, .int v7, .int a1, .int a2, .int a3]) (st2 := [.int o1]) C [] [] [] rfl rfl rfl rfl (by decide) rfl rfl (c_X4_areAlike F ho2) (goodST consT W_575 W_576 W_58 W_577) rfl rfl rfl hd_X4_areAlike ⟨Nat.le_of_ble_eq_true rfl, Nat.le_of_ble_eq_true rfl⟩ rfl rfl rfl (Nat.le_of_ble_eq_true rfl) dX4_mostAlike_48 ⟨Nat.zero_le _, Nat.zero_le _⟩ ?_
        refine z_if_eq (tgt := 57) C dX4_mostAlike_51 (by decide) (fun c => ?_) (fun c => ?_)
        · replace h := (if_pos c).symm.trans h
          exact (l_X4_mostAlike_b57 F a0 a1 a2 a3 (f_X4_mostAlike_b19 F a0 a1 a2 a3 K6 n) C hr ih) v4 v5 v6 v7 h
        · replace h := (if_neg c).symm.trans h
          refine z_iinc (v := v6 + (1 : Int32)) (L' := [(6, .int (v6 + (1 : Int32))), (0, .int a0), (1, .int a1), (2, .int a2), (3, .int a3), (4, .int v4), (5, .int v5), (7, .int v7)]) C dX4_mostAlike_54 6 rfl rfl (by decide) rfl ?_
          refine z_sub [1, 2, 3, 4, 5, 6, 0, 7] (L' := [(0, .int a0), (1, .int a1), (2, .int a2), (3, .int a3), (4, .int v4), (5, .int v5), (6, .int (v6 + (1 : Int32))), (7, .int v7)]) rfl ?_
          exact (l_X4_mostAlike_b57 F a0 a1 a2 a3 (f_X4_mostAlike_b19 F a0 a1 a2 a3 K6 n) C hr ih) v4 v5 (v6 + (1 : Int32)) v7 h
set_option maxRecDepth 100000 in
set_option maxHeartbeats 4000000 in
theorem l_X4_mostAlike_b6 {p : Program} {l : Launch} {e : Env} {s : State} {m : MethodId} {args : Array Value} {below : List Frame} {meth : Method} {c : Code} {E : zE} {A : Nat → Prop} {o : Int32} (F : Nat) (a0 : Int32) (a1 : Int32) (a2 : Int32) (a3 : Int32) (C : zC p s m args c meth cX4_mostAlike 8 RX4 wsX4_mostAlike E A) (hr : meth.sig.returnType = some .int) : ∀ (n : Nat) (v4 : Int32) (v5 : Int32), f_X4_mostAlike_b6 F a0 a1 a2 a3 n v4 v5 = some o → zG p l e rm_X4_mostAlike s m args below meth c 8 E A 0 0 (MQ below (zQ E A (some (.int o)) []) args s 0 0 A) [] 6 [(0, .int a0), (1, .int a1), (2, .int a2), (3, .int a3), (4, .int v4), (5, .int v5)] [] := by
  intro n
  induction n with
  | zero =>
    intro v4 v5 h
    rw [f_X4_mostAlike_b6] at h
    cases h
  | succ n ih =>
    intro v4 v5 h
    rw [f_X4_mostAlike_b6] at h
    refine z_iload C dX4_mostAlike_6 5 rfl ?_
    refine z_bipush (v := (6 : Int32)) C dX4_mostAlike_8 (by decide) ?_
    refine z_icmp_ge (tgt := 78) C dX4_mostAlike_10 (by decide) (fun c => ?_) (fun c => ?_)
    · replace h := (if_pos c).symm.trans h
      refine z_iload C dX4_mostAlike_78 4 rfl ?_
      obtain rfl := Option.some.inj h
      exact z_iret (v := v4) C hr dX4_mostAlike_80
    · replace h := (if_neg c).symm.trans h
      refine z_iconst (v := (0 : Int32)) C dX4_mostAlike_13 (by decide) ?_
      refine z_istore (L' := [(6, .int (0 : Int32)), (0, .int a0), (1, .int a1), (2, .int a2), (3, .int a3), (4, .int v4), (5, .int v5)]) C dX4_mostAlike_14 (by decide) rfl ?_
      refine z_iconst (v := (0 : Int32)) C dX4_mostAlike_16 (by decide) ?_
      refine z_istore (L' := [(7, .int (0 : Int32)), (6, .int (0 : Int32)), (0, .int a0), (1, .int a1), (2, .int a2), (3, .int a3), (4, .int v4), (5, .int v5)]) C dX4_mostAlike_17 (by decide) rfl ?_
      refine z_sub [2, 3, 4, 5, 6, 7, 1, 0] (L' := [(0, .int a0), (1, .int a1), (2, .int a2), (3, .int a3), (4, .int v4), (5, .int v5), (6, .int (0 : Int32)), (7, .int (0 : Int32))]) rfl ?_
      exact (l_X4_mostAlike_b19 F a0 a1 a2 a3 (f_X4_mostAlike_b6 F a0 a1 a2 a3 n) C hr ih F) v4 v5 (0 : Int32) (0 : Int32) h
set_option maxRecDepth 100000 in
set_option maxHeartbeats 4000000 in
theorem c_X4_mostAlike {l : Launch} {E : zE} {a0 : Int32} {a1 : Int32} {a2 : Int32} {a3 : Int32} {o : Int32} (F : Nat) (h : f_X4_mostAlike F a0 a1 a2 a3 = some o) : zM l yX4_mostAlike wsX4_mostAlike rm_X4_mostAlike E [.int a0, .int a1, .int a2, .int a3] [] (some (.int o)) [] := by
  refine zM.of (cc := cX4_mostAlike) (maxL := 8) (ret := (some .int)) (by decide +kernel) rfl (Nat.le_of_ble_eq_true rfl) ?_
  intro p e s m args below meth c A C hr
  have C : zC p s m args c meth cX4_mostAlike 8 RX4 wsX4_mostAlike E A := C
  rw [f_X4_mostAlike] at h
  refine z_iconst (v := (0 : Int32)) C dX4_mostAlike_0 (by decide) ?_
  refine z_istore (L' := [(4, .int (0 : Int32)), (0, .int a0), (1, .int a1), (2, .int a2), (3, .int a3)]) C dX4_mostAlike_1 (by decide) rfl ?_
  refine z_iconst (v := (0 : Int32)) C dX4_mostAlike_3 (by decide) ?_
  refine z_istore (L' := [(5, .int (0 : Int32)), (4, .int (0 : Int32)), (0, .int a0), (1, .int a1), (2, .int a2), (3, .int a3)]) C dX4_mostAlike_4 (by decide) rfl ?_
  refine z_sub [2, 3, 4, 5, 1, 0] (L' := [(0, .int a0), (1, .int a1), (2, .int a2), (3, .int a3), (4, .int (0 : Int32)), (5, .int (0 : Int32))]) rfl ?_
  exact (l_X4_mostAlike_b6 F a0 a1 a2 a3 C hr F) (0 : Int32) (0 : Int32) h
def rm_X4_look : Room := { frames := 5, cells := 0, slots := 0, locals := 115 }
theorem hd_X4_look : yX4_look.cls = yX4_look.cls ∧ yX4_look.cls ≠ "java/lang/invoke/MethodHandle" ∧ yX4_look.cls ≠ "java/lang/invoke/VarHandle" ∧ (parseMethodDescriptor yX4_look.desc).map (fun d => d.parameters.length) = some 1 := by decide +kernel
abbrev wsX4_look : List Cond := .code yX4_look cX4_look 8 (some .int) :: WALL
set_option maxRecDepth 100000 in
set_option maxHeartbeats 4000000 in
theorem l_X4_look_b91 {p : Program} {l : Launch} {e : Env} {s : State} {m : MethodId} {args : Array Value} {below : List Frame} {meth : Method} {c : Code} {E : zE} {A : Nat → Prop} {q_t q_t_now q_t_now_note q_t_now_wanted q_t_images q_t_search q_t_reader q_t_now_kind q_t_now_hours q_t_now_had q_t_now_due q_t_now_leftHour q_t_now_leftPressure q_t_now_past q_t_now_ahead q_t_now_gets : Nat} {t_above : Int32} {t_below : Int32} {t_nos : Int32} {t_fulls : Int32} {t_now_pressure : Int32} {t_now_day : Int32} {t_now_lefts : Int32} {t_now_undos : Int32} {t_now_leftOver : Int32} {o : Int32 × Int32} (F : Nat) (a1 : Int32) (t_now_wells : Int32) (t_now_notes : Int32) (t_now_note : Nat → Int32) (t_now_wanted : Nat → Int32) (K46 : Int32 → Int32 → Int32 → Int32 → Int32 → Int32 → Option (Int32 × Int32)) (C : zC p s m args c meth cX4_look 8 RX4 wsX4_look E A) (hr : meth.sig.returnType = some .int) (hK46 : ∀ (v2 : Int32) (v3 : Int32) (v4 : Int32) (v5 : Int32) (v6 : Int32) (t_bads : Int32), K46 v2 v3 v4 v5 v6 t_bads = some o → zG p l e rm_X4_look s m args below meth c 8 E A 0 0 (MQ below (zQ E A (some (.int o.1)) [(q_t, .inr (3, [.ref q_t_now, .ref q_t_images, .ref q_t_search, .ref q_t_reader, .int t_above, .int t_below, .int o.2, .int t_nos, .int t_fulls])), (q_t_now, .inr (0, [.int t_now_pressure, .int t_now_day, .int t_now_wells, .int t_now_lefts, .int t_now_notes, .int t_now_undos, .ref q_t_now_kind, .ref q_t_now_wanted, .ref q_t_now_hours, .ref q_t_now_had, .ref q_t_now_due, .ref q_t_now_leftHour, .ref q_t_now_leftPressure, .ref q_t_now_note, .ref q_t_now_past, .ref q_t_now_ahead, .ref q_t_now_gets, .int t_now_leftOver])), (q_t_now_note, zI E 36 t_now_note), (q_t_now_wanted, zI E 5 t_now_wanted)]) args s 0 0 A) [(q_t, .inr (3, [.ref q_t_now, .ref q_t_images, .ref q_t_search, .ref q_t_reader, .int t_above, .int t_below, .int t_bads, .int t_nos, .int t_fulls])), (q_t_now, .inr (0, [.int t_now_pressure, .int t_now_day, .int t_now_wells, .int t_now_lefts, .int t_now_notes, .int t_now_undos, .ref q_t_now_kind, .ref q_t_now_wanted, .ref q_t_now_hours, .ref q_t_now_had, .ref q_t_now_due, .ref q_t_now_leftHour, .ref q_t_now_leftPressure, .ref q_t_now_note, .ref q_t_now_past, .ref q_t_now_ahead, .ref q_t_now_gets, .int t_now_leftOver])), (q_t_now_note, zI E 36 t_now_note), (q_t_now_wanted, zI E 5 t_now_wanted)] 46 [(0, .ref q_t), (1, .int a1), (2, .int v2), (3, .int v3), (4, .int v4), (5, .int v5), (6, .int v6)] []) : ∀  (v2 : Int32) (v3 : Int32) (v4 : Int32) (v5 : Int32) (v6 : Int32) (t_bads : Int32), f_X4_look_b91 F a1 t_now_wells t_now_notes t_now_note t_now_wanted K46 v2 v3 v4 v5 v6 t_bads = some o → zG p l e rm_X4_look s m args below meth c 8 E A 0 0 (MQ below (zQ E A (some (.int o.1)) [(q_t, .inr (3, [.ref q_t_now, .ref q_t_images, .ref q_t_search, .ref q_t_reader, .int t_above, .int t_below, .int o.2, .int t_nos, .int t_fulls])), (q_t_now, .inr (0, [.int t_now_pressure, .int t_now_day, .int t_now_wells, .int t_now_lefts, .int t_now_notes, .int t_now_undos, .ref q_t_now_kind, .ref q_t_now_wanted, .ref q_t_now_hours, .ref q_t_now_had, .ref q_t_now_due, .ref q_t_now_leftHour, .ref q_t_now_leftPressure, .ref q_t_now_note, .ref q_t_now_past, .ref q_t_now_ahead, .ref q_t_now_gets, .int t_now_leftOver])), (q_t_now_note, zI E 36 t_now_note), (q_t_now_wanted, zI E 5 t_now_wanted)]) args s 0 0 A) [(q_t, .inr (3, [.ref q_t_now, .ref q_t_images, .ref q_t_search, .ref q_t_reader, .int t_above, .int t_below, .int t_bads, .int t_nos, .int t_fulls])), (q_t_now, .inr (0, [.int t_now_pressure, .int t_now_day, .int t_now_wells, .int t_now_lefts, .int t_now_notes, .int t_now_undos, .ref q_t_now_kind, .ref q_t_now_wanted, .ref q_t_now_hours, .ref q_t_now_had, .ref q_t_now_due, .ref q_t_now_leftHour, .ref q_t_now_leftPressure, .ref q_t_now_note, .ref q_t_now_past, .ref q_t_now_ahead, .ref q_t_now_gets, .int t_now_leftOver])), (q_t_now_note, zI E 36 t_now_note), (q_t_now_wanted, zI E 5 t_now_wanted)] 91 [(0, .ref q_t), (1, .int a1), (2, .int v2), (3, .int v3), (4, .int v4), (5, .int v5), (6, .int v6)] [] := by
  intro v2 v3 v4 v5 v6 t_bads h
  rw [f_X4_look_b91] at h
  refine z_iinc (v := v6 + (1 : Int32)) (L' := [(6, .int (v6 + (1 : Int32))), (0, .ref q_t), (1, .int a1), (2, .int v2), (3, .int v3), (4, .int v4), (5, .int v5)]) C dX4_look_91 6 rfl rfl (by decide) rfl ?_
  refine z_goto (tgt := 46) C dX4_look_94 (by decide) ?_
  refine z_sub [1, 2, 3, 4, 5, 6, 0] (L' := [(0, .ref q_t), (1, .int a1), (2, .int v2), (3, .int v3), (4, .int v4), (5, .int v5), (6, .int (v6 + (1 : Int32)))]) rfl ?_
  exact hK46 v2 v3 v4 v5 (v6 + (1 : Int32)) t_bads h
set_option maxRecDepth 100000 in
set_option maxHeartbeats 4000000 in
theorem l_X4_look_b46 {p : Program} {l : Launch} {e : Env} {s : State} {m : MethodId} {args : Array Value} {below : List Frame} {meth : Method} {c : Code} {E : zE} {A : Nat → Prop} {q_t q_t_now q_t_now_note q_t_now_wanted q_t_images q_t_search q_t_reader q_t_now_kind q_t_now_hours q_t_now_had q_t_now_due q_t_now_leftHour q_t_now_leftPressure q_t_now_past q_t_now_ahead q_t_now_gets : Nat} {t_above : Int32} {t_below : Int32} {t_nos : Int32} {t_fulls : Int32} {t_now_pressure : Int32} {t_now_day : Int32} {t_now_lefts : Int32} {t_now_undos : Int32} {t_now_leftOver : Int32} {o : Int32 × Int32} (F : Nat) (a1 : Int32) (t_now_wells : Int32) (t_now_notes : Int32) (t_now_note : Nat → Int32) (t_now_wanted : Nat → Int32) (K37 : Int32 → Int32 → Int32 → Int32 → Int32 → Option (Int32 × Int32)) (C : zC p s m args c meth cX4_look 8 RX4 wsX4_look E A) (hr : meth.sig.returnType = some .int) (hK37 : ∀ (v2 : Int32) (v3 : Int32) (v4 : Int32) (v5 : Int32) (t_bads : Int32), K37 v2 v3 v4 v5 t_bads = some o → zG p l e rm_X4_look s m args below meth c 8 E A 0 0 (MQ below (zQ E A (some (.int o.1)) [(q_t, .inr (3, [.ref q_t_now, .ref q_t_images, .ref q_t_search, .ref q_t_reader, .int t_above, .int t_below, .int o.2, .int t_nos, .int t_fulls])), (q_t_now, .inr (0, [.int t_now_pressure, .int t_now_day, .int t_now_wells, .int t_now_lefts, .int t_now_notes, .int t_now_undos, .ref q_t_now_kind, .ref q_t_now_wanted, .ref q_t_now_hours, .ref q_t_now_had, .ref q_t_now_due, .ref q_t_now_leftHour, .ref q_t_now_leftPressure, .ref q_t_now_note, .ref q_t_now_past, .ref q_t_now_ahead, .ref q_t_now_gets, .int t_now_leftOver])), (q_t_now_note, zI E 36 t_now_note), (q_t_now_wanted, zI E 5 t_now_wanted)]) args s 0 0 A) [(q_t, .inr (3, [.ref q_t_now, .ref q_t_images, .ref q_t_search, .ref q_t_reader, .int t_above, .int t_below, .int t_bads, .int t_nos, .int t_fulls])), (q_t_now, .inr (0, [.int t_now_pressure, .int t_now_day, .int t_now_wells, .int t_now_lefts, .int t_now_notes, .int t_now_undos, .ref q_t_now_kind, .ref q_t_now_wanted, .ref q_t_now_hours, .ref q_t_now_had, .ref q_t_now_due, .ref q_t_now_leftHour, .ref q_t_now_leftPressure, .ref q_t_now_note, .ref q_t_now_past, .ref q_t_now_ahead, .ref q_t_now_gets, .int t_now_leftOver])), (q_t_now_note, zI E 36 t_now_note), (q_t_now_wanted, zI E 5 t_now_wanted)] 37 [(0, .ref q_t), (1, .int a1), (2, .int v2), (3, .int v3), (4, .int v4), (5, .int v5)] []) : ∀ (n : Nat) (v2 : Int32) (v3 : Int32) (v4 : Int32) (v5 : Int32) (v6 : Int32) (t_bads : Int32), f_X4_look_b46 F a1 t_now_wells t_now_notes t_now_note t_now_wanted K37 n v2 v3 v4 v5 v6 t_bads = some o → zG p l e rm_X4_look s m args below meth c 8 E A 0 0 (MQ below (zQ E A (some (.int o.1)) [(q_t, .inr (3, [.ref q_t_now, .ref q_t_images, .ref q_t_search, .ref q_t_reader, .int t_above, .int t_below, .int o.2, .int t_nos, .int t_fulls])), (q_t_now, .inr (0, [.int t_now_pressure, .int t_now_day, .int t_now_wells, .int t_now_lefts, .int t_now_notes, .int t_now_undos, .ref q_t_now_kind, .ref q_t_now_wanted, .ref q_t_now_hours, .ref q_t_now_had, .ref q_t_now_due, .ref q_t_now_leftHour, .ref q_t_now_leftPressure, .ref q_t_now_note, .ref q_t_now_past, .ref q_t_now_ahead, .ref q_t_now_gets, .int t_now_leftOver])), (q_t_now_note, zI E 36 t_now_note), (q_t_now_wanted, zI E 5 t_now_wanted)]) args s 0 0 A) [(q_t, .inr (3, [.ref q_t_now, .ref q_t_images, .ref q_t_search, .ref q_t_reader, .int t_above, .int t_below, .int t_bads, .int t_nos, .int t_fulls])), (q_t_now, .inr (0, [.int t_now_pressure, .int t_now_day, .int t_now_wells, .int t_now_lefts, .int t_now_notes, .int t_now_undos, .ref q_t_now_kind, .ref q_t_now_wanted, .ref q_t_now_hours, .ref q_t_now_had, .ref q_t_now_due, .ref q_t_now_leftHour, .ref q_t_now_leftPressure, .ref q_t_now_note, .ref q_t_now_past, .ref q_t_now_ahead, .ref q_t_now_gets, .int t_now_leftOver])), (q_t_now_note, zI E 36 t_now_note), (q_t_now_wanted, zI E 5 t_now_wanted)] 46 [(0, .ref q_t), (1, .int a1), (2, .int v2), (3, .int v3), (4, .int v4), (5, .int v5), (6, .int v6)] [] := by
  intro n
  induction n with
  | zero =>
    intro v2 v3 v4 v5 v6 t_bads h
    rw [f_X4_look_b46] at h
    cases h
  | succ n ih =>
    intro v2 v3 v4 v5 v6 t_bads h
    rw [f_X4_look_b46] at h
    refine z_iload C dX4_look_46 6 rfl ?_
    refine z_bipush (v := (30 : Int32)) C dX4_look_48 (by decide) ?_
    refine z_icmp_gt (tgt := 97) C dX4_look_50 (by decide) (fun c => ?_) (fun c => ?_)
    · replace h := (if_pos c).symm.trans h
      refine z_iinc (v := v5 + (1 : Int32)) (L' := [(5, .int (v5 + (1 : Int32))), (0, .ref q_t), (1, .int a1), (2, .int v2), (3, .int v3), (4, .int v4), (6, .int v6)]) C dX4_look_97 5 rfl rfl (by decide) rfl ?_
      refine z_goto (tgt := 37) C dX4_look_100 (by decide) ?_
      refine z_sub [1, 2, 3, 4, 5, 0] (L' := [(0, .ref q_t), (1, .int a1), (2, .int v2), (3, .int v3), (4, .int v4), (5, .int (v5 + (1 : Int32)))]) rfl ?_
      exact hK37 v2 v3 v4 (v5 + (1 : Int32)) t_bads h
    · replace h := (if_neg c).symm.trans h
      refine z_iload_n C dX4_look_53 rfl 2 rfl ?_
      refine z_aload_n C dX4_look_54 rfl 0 rfl ?_
      refine z_get C inT_X4 0 rfl rfl 0 (by decide) rfl (mc W_226) rfl dX4_look_55 ?_
      refine z_get C inT_X1 1 rfl rfl 7 (by decide) rfl (mc W_101) rfl dX4_look_58 ?_
      refine z_iload_n C dX4_look_61 rfl 1 rfl ?_
      obtain ⟨c7, h⟩ := chk_some h
      refine z_iald C 3 rfl c7 dX4_look_62 ?_
      refine z_iload C dX4_look_63 5 rfl ?_
      refine z_iload C dX4_look_65 6 rfl ?_
      obtain ⟨o8, ho9, h⟩ := bnd_some h
      refine z_callS (wc := []) (wr := [(q_t, .inr (3, [.ref q_t_now, .ref q_t_images, .ref q_t_search, .ref q_t_reader, .int t_above, .int t_below, .int t_bads, .int t_nos, .int t_fulls])), (q_t_now, .inr (0, [.int t_now_pressure, .int t_now_day, .int t_now_wells, .int t_now_lefts, .int t_now_notes, .int t_now_undos, .ref q_t_now_kind, .ref q_t_now_wanted, .ref q_t_now_hours, .ref q_t_now_had, .ref q_t_now_due, .ref q_t_now_leftHour, .ref q_t_now_leftPressure, .ref q_t_now_note, .ref q_t_now_past, .ref q_t_now_ahead, .ref q_t_now_gets, .int t_now_leftOver])), (q_t_now_note, zI E 36 t_now_note), (q_t_now_wanted, zI E 5 t_now_wanted)]) (wc' := []) (ws2 := [(q_t, .inr (3, [.ref q_t_now, .ref q_t_images, .ref q_t_search, .ref q_t_reader, .int t_above, .int t_below, .int t_bads, .int t_nos, .int t_fulls])), (q_t_now, .inr (0, [.int t_now_pressure, .int t_now_day, .int t_now_wells, .int t_now_lefts, .int t_now_notes, .int t_now_undos, .ref q_t_now_kind, .ref q_t_now_wanted, .ref q_t_now_hours, .ref q_t_now_had, .ref q_t_now_due, .ref q_t_now_leftHour, .ref q_t_now_leftPressure, .ref q_t_now_note, .ref q_t_now_past, .ref q_t_now_ahead, .ref q_t_now_gets, .int t_now_leftOver])), (q_t_now_note, zI E 36 t_now_note), (q_t_now_wanted, zI E 5 t_now_wanted)]) (As := [.int v2, .int (t_now_wanted a1.toNatClampNeg), .int v5, .int v6]) (st2 := [.int o8]) C [] [0, 1, 2, 3] [0, 1, 2, 3] rfl rfl rfl rfl (by decide) rfl rfl (c_X4_mostAlike F ho9) (goodST consT W_572 W_573 W_58 W_574) rfl rfl rfl hd_X4_mostAlike ⟨Nat.le_of_ble_eq_true rfl, Nat.le_of_ble_eq_true rfl⟩ rfl rfl rfl (Nat.le_of_ble_eq_true rfl) dX4_look_67 ⟨Nat.zero_le _, Nat.zero_le _⟩ ?_
      refine z_istore (L' := [(7, .int o8), (0, .ref q_t), (1, .int a1), (2, .int v2), (3, .int v3), (4, .int v4), (5, .int v5), (6, .int v6)]) C dX4_look_70 (by decide) rfl ?_
      refine z_iload C dX4_look_72 0 rfl ?_
      refine z_iload_n C dX4_look_74 rfl 4 rfl ?_
      refine z_icmp_ge (tgt := 91) C dX4_look_75 (by decide) (fun c => ?_) (fun c => ?_)
      · replace h := (if_pos c).symm.trans h
        refine z_sub [1, 2, 3, 4, 5, 6, 7] (L' := [(0, .ref q_t), (1, .int a1), (2, .int v2), (3, .int v3), (4, .int v4), (5, .int v5), (6, .int v6)]) rfl ?_
        exact (l_X4_look_b91 F a1 t_now_wells t_now_notes t_now_note t_now_wanted (f_X4_look_b46 F a1 t_now_wells t_now_notes t_now_note t_now_wanted K37 n) C hr ih) v2 v3 v4 v5 v6 t_bads h
      · replace h := (if_neg c).symm.trans h
        refine z_iload C dX4_look_78 0 rfl ?_
        refine z_istore_n (L' := [(3, .int o8), (7, .int o8), (0, .ref q_t), (1, .int a1), (2, .int v2), (4, .int v4), (5, .int v5), (6, .int v6)]) C dX4_look_80 rfl (by decide) rfl ?_
        refine z_bipush (v := (100 : Int32)) C dX4_look_81 (by decide) ?_
        refine z_iload C dX4_look_83 6 rfl ?_
        refine z_imul C dX4_look_85 ?_
        refine z_iload C dX4_look_86 7 rfl ?_
        refine z_iadd C dX4_look_88 ?_
        refine z_istore (L' := [(4, .int (((100 : Int32) * v5) + v6)), (3, .int o8), (7, .int o8), (0, .ref q_t), (1, .int a1), (2, .int v2), (5, .int v5), (6, .int v6)]) C dX4_look_89 (by decide) rfl ?_
        refine z_sub [3, 4, 5, 1, 0, 6, 7] (L' := [(0, .ref q_t), (1, .int a1), (2, .int v2), (3, .int o8), (4, .int (((100 : Int32) * v5) + v6)), (5, .int v5), (6, .int v6)]) rfl ?_
        exact (l_X4_look_b91 F a1 t_now_wells t_now_notes t_now_note t_now_wanted (f_X4_look_b46 F a1 t_now_wells t_now_notes t_now_note t_now_wanted K37 n) C hr ih) v2 o8 (((100 : Int32) * v5) + v6) v5 v6 t_bads h
set_option maxRecDepth 100000 in
set_option maxHeartbeats 4000000 in
theorem l_X4_look_b37 {p : Program} {l : Launch} {e : Env} {s : State} {m : MethodId} {args : Array Value} {below : List Frame} {meth : Method} {c : Code} {E : zE} {A : Nat → Prop} {q_t q_t_now q_t_now_note q_t_now_wanted q_t_images q_t_search q_t_reader q_t_now_kind q_t_now_hours q_t_now_had q_t_now_due q_t_now_leftHour q_t_now_leftPressure q_t_now_past q_t_now_ahead q_t_now_gets : Nat} {t_above : Int32} {t_below : Int32} {t_nos : Int32} {t_fulls : Int32} {t_now_pressure : Int32} {t_now_day : Int32} {t_now_lefts : Int32} {t_now_undos : Int32} {t_now_leftOver : Int32} {o : Int32 × Int32} (F : Nat) (a1 : Int32) (t_now_wells : Int32) (t_now_notes : Int32) (t_now_note : Nat → Int32) (t_now_wanted : Nat → Int32) (C : zC p s m args c meth cX4_look 8 RX4 wsX4_look E A) (hr : meth.sig.returnType = some .int) : ∀ (n : Nat) (v2 : Int32) (v3 : Int32) (v4 : Int32) (v5 : Int32) (t_bads : Int32), f_X4_look_b37 F a1 t_now_wells t_now_notes t_now_note t_now_wanted n v2 v3 v4 v5 t_bads = some o → zG p l e rm_X4_look s m args below meth c 8 E A 0 0 (MQ below (zQ E A (some (.int o.1)) [(q_t, .inr (3, [.ref q_t_now, .ref q_t_images, .ref q_t_search, .ref q_t_reader, .int t_above, .int t_below, .int o.2, .int t_nos, .int t_fulls])), (q_t_now, .inr (0, [.int t_now_pressure, .int t_now_day, .int t_now_wells, .int t_now_lefts, .int t_now_notes, .int t_now_undos, .ref q_t_now_kind, .ref q_t_now_wanted, .ref q_t_now_hours, .ref q_t_now_had, .ref q_t_now_due, .ref q_t_now_leftHour, .ref q_t_now_leftPressure, .ref q_t_now_note, .ref q_t_now_past, .ref q_t_now_ahead, .ref q_t_now_gets, .int t_now_leftOver])), (q_t_now_note, zI E 36 t_now_note), (q_t_now_wanted, zI E 5 t_now_wanted)]) args s 0 0 A) [(q_t, .inr (3, [.ref q_t_now, .ref q_t_images, .ref q_t_search, .ref q_t_reader, .int t_above, .int t_below, .int t_bads, .int t_nos, .int t_fulls])), (q_t_now, .inr (0, [.int t_now_pressure, .int t_now_day, .int t_now_wells, .int t_now_lefts, .int t_now_notes, .int t_now_undos, .ref q_t_now_kind, .ref q_t_now_wanted, .ref q_t_now_hours, .ref q_t_now_had, .ref q_t_now_due, .ref q_t_now_leftHour, .ref q_t_now_leftPressure, .ref q_t_now_note, .ref q_t_now_past, .ref q_t_now_ahead, .ref q_t_now_gets, .int t_now_leftOver])), (q_t_now_note, zI E 36 t_now_note), (q_t_now_wanted, zI E 5 t_now_wanted)] 37 [(0, .ref q_t), (1, .int a1), (2, .int v2), (3, .int v3), (4, .int v4), (5, .int v5)] [] := by
  intro n
  induction n with
  | zero =>
    intro v2 v3 v4 v5 t_bads h
    rw [f_X4_look_b37] at h
    cases h
  | succ n ih =>
    intro v2 v3 v4 v5 t_bads h
    rw [f_X4_look_b37] at h
    refine z_iload C dX4_look_37 5 rfl ?_
    refine z_iconst (v := (2 : Int32)) C dX4_look_39 (by decide) ?_
    refine z_icmp_ge (tgt := 103) C dX4_look_40 (by decide) (fun c => ?_) (fun c => ?_)
    · replace h := (if_pos c).symm.trans h
      refine z_iload C dX4_look_103 4 rfl ?_
      obtain rfl := Option.some.inj h
      exact z_iret (v := v4) C hr dX4_look_105
    · replace h := (if_neg c).symm.trans h
      refine z_iconst (v := (0 : Int32)) C dX4_look_43 (by decide) ?_
      refine z_istore (L' := [(6, .int (0 : Int32)), (0, .ref q_t), (1, .int a1), (2, .int v2), (3, .int v3), (4, .int v4), (5, .int v5)]) C dX4_look_44 (by decide) rfl ?_
      refine z_sub [1, 2, 3, 4, 5, 6, 0] (L' := [(0, .ref q_t), (1, .int a1), (2, .int v2), (3, .int v3), (4, .int v4), (5, .int v5), (6, .int (0 : Int32))]) rfl ?_
      exact (l_X4_look_b46 F a1 t_now_wells t_now_notes t_now_note t_now_wanted (f_X4_look_b37 F a1 t_now_wells t_now_notes t_now_note t_now_wanted n) C hr ih F) v2 v3 v4 v5 (0 : Int32) t_bads h
set_option maxRecDepth 100000 in
set_option maxHeartbeats 4000000 in
theorem c_X4_look {l : Launch} {E : zE} {q_t q_t_now q_t_now_note q_t_now_wanted q_t_images q_t_search q_t_reader q_t_now_kind q_t_now_hours q_t_now_had q_t_now_due q_t_now_leftHour q_t_now_leftPressure q_t_now_past q_t_now_ahead q_t_now_gets : Nat} {t_above : Int32} {t_below : Int32} {t_nos : Int32} {t_fulls : Int32} {t_now_pressure : Int32} {t_now_day : Int32} {t_now_lefts : Int32} {t_now_undos : Int32} {t_now_leftOver : Int32} {a1 : Int32} {t_now_wells : Int32} {t_now_notes : Int32} {t_now_note : Nat → Int32} {t_now_wanted : Nat → Int32} {t_bads : Int32} {o : Int32 × Int32} (F : Nat) (h : f_X4_look F a1 t_now_wells t_now_notes t_now_note t_now_wanted t_bads = some o) : zM l yX4_look wsX4_look rm_X4_look E [.ref q_t, .int a1] [(q_t, .inr (3, [.ref q_t_now, .ref q_t_images, .ref q_t_search, .ref q_t_reader, .int t_above, .int t_below, .int t_bads, .int t_nos, .int t_fulls])), (q_t_now, .inr (0, [.int t_now_pressure, .int t_now_day, .int t_now_wells, .int t_now_lefts, .int t_now_notes, .int t_now_undos, .ref q_t_now_kind, .ref q_t_now_wanted, .ref q_t_now_hours, .ref q_t_now_had, .ref q_t_now_due, .ref q_t_now_leftHour, .ref q_t_now_leftPressure, .ref q_t_now_note, .ref q_t_now_past, .ref q_t_now_ahead, .ref q_t_now_gets, .int t_now_leftOver])), (q_t_now_note, zI E 36 t_now_note), (q_t_now_wanted, zI E 5 t_now_wanted)] (some (.int o.1)) [(q_t, .inr (3, [.ref q_t_now, .ref q_t_images, .ref q_t_search, .ref q_t_reader, .int t_above, .int t_below, .int o.2, .int t_nos, .int t_fulls])), (q_t_now, .inr (0, [.int t_now_pressure, .int t_now_day, .int t_now_wells, .int t_now_lefts, .int t_now_notes, .int t_now_undos, .ref q_t_now_kind, .ref q_t_now_wanted, .ref q_t_now_hours, .ref q_t_now_had, .ref q_t_now_due, .ref q_t_now_leftHour, .ref q_t_now_leftPressure, .ref q_t_now_note, .ref q_t_now_past, .ref q_t_now_ahead, .ref q_t_now_gets, .int t_now_leftOver])), (q_t_now_note, zI E 36 t_now_note), (q_t_now_wanted, zI E 5 t_now_wanted)] := by
  refine zM.of (cc := cX4_look) (maxL := 8) (ret := (some .int)) (by decide +kernel) rfl (Nat.le_of_ble_eq_true rfl) ?_
  intro p e s m args below meth c A C hr
  have C : zC p s m args c meth cX4_look 8 RX4 wsX4_look E A := C
  rw [f_X4_look] at h
  refine z_aload_n C dX4_look_0 rfl 0 rfl ?_
  refine z_get C inT_X4 0 rfl rfl 0 (by decide) rfl (mc W_226) rfl dX4_look_1 ?_
  refine z_iload_n C dX4_look_4 rfl 1 rfl ?_
  obtain ⟨o1, ho2, h⟩ := bnd_some h
  refine z_callV (wc := [(q_t_now, .inr (0, [.int t_now_pressure, .int t_now_day, .int t_now_wells, .int t_now_lefts, .int t_now_notes, .int t_now_undos, .ref q_t_now_kind, .ref q_t_now_wanted, .ref q_t_now_hours, .ref q_t_now_had, .ref q_t_now_due, .ref q_t_now_leftHour, .ref q_t_now_leftPressure, .ref q_t_now_note, .ref q_t_now_past, .ref q_t_now_ahead, .ref q_t_now_gets, .int t_now_leftOver]))]) (wr := [(q_t, .inr (3, [.ref q_t_now, .ref q_t_images, .ref q_t_search, .ref q_t_reader, .int t_above, .int t_below, .int t_bads, .int t_nos, .int t_fulls])), (q_t_now_note, zI E 36 t_now_note), (q_t_now_wanted, zI E 5 t_now_wanted)]) (wc' := [(q_t_now, .inr (0, [.int t_now_pressure, .int t_now_day, .int t_now_wells, .int t_now_lefts, .int t_now_notes, .int t_now_undos, .ref q_t_now_kind, .ref q_t_now_wanted, .ref q_t_now_hours, .ref q_t_now_had, .ref q_t_now_due, .ref q_t_now_leftHour, .ref q_t_now_leftPressure, .ref q_t_now_note, .ref q_t_now_past, .ref q_t_now_ahead, .ref q_t_now_gets, .int t_now_leftOver]))]) (ws2 := [(q_t, .inr (3, [.ref q_t_now, .ref q_t_images, .ref q_t_search, .ref q_t_reader, .int t_above, .int t_below, .int t_bads, .int t_nos, .int t_fulls])), (q_t_now, .inr (0, [.int t_now_pressure, .int t_now_day, .int t_now_wells, .int t_now_lefts, .int t_now_notes, .int t_now_undos, .ref q_t_now_kind, .ref q_t_now_wanted, .ref q_t_now_hours, .ref q_t_now_had, .ref q_t_now_due, .ref q_t_now_leftHour, .ref q_t_now_leftPressure, .ref q_t_now_note, .ref q_t_now_past, .ref q_t_now_ahead, .ref q_t_now_gets, .int t_now_leftOver])), (q_t_now_note, zI E 36 t_now_note), (q_t_now_wanted, zI E 5 t_now_wanted)]) (As := [.int a1]) (st2 := [.int o1]) C [1] [0, 2, 3] [0, 3, 1, 2] rfl rfl rfl rfl (by decide) rfl rfl (c_X1_has F ho2) (goodVT consT W_404 W_405 W_406 W_59 W_407) rfl rfl rfl hd_X1_has ⟨Nat.le_of_ble_eq_true rfl, Nat.le_of_ble_eq_true rfl⟩ rfl rfl rfl (j := 0) rfl rfl rfl (Nat.le_of_ble_eq_true rfl) dX4_look_5 ⟨Nat.zero_le _, Nat.zero_le _⟩ ?_
  refine z_if_ne (tgt := 16) C dX4_look_8 (by decide) (fun c => ?_) (fun c => ?_)
  · replace h := (if_neg c).symm.trans h
    refine z_aload_n C dX4_look_16 rfl 0 rfl ?_
    refine z_iload_n C dX4_look_17 rfl 1 rfl ?_
    obtain ⟨o3, ho4, h⟩ := bnd_some h
    refine z_callV (wc := [(q_t, .inr (3, [.ref q_t_now, .ref q_t_images, .ref q_t_search, .ref q_t_reader, .int t_above, .int t_below, .int t_bads, .int t_nos, .int t_fulls])), (q_t_now, .inr (0, [.int t_now_pressure, .int t_now_day, .int t_now_wells, .int t_now_lefts, .int t_now_notes, .int t_now_undos, .ref q_t_now_kind, .ref q_t_now_wanted, .ref q_t_now_hours, .ref q_t_now_had, .ref q_t_now_due, .ref q_t_now_leftHour, .ref q_t_now_leftPressure, .ref q_t_now_note, .ref q_t_now_past, .ref q_t_now_ahead, .ref q_t_now_gets, .int t_now_leftOver])), (q_t_now_note, zI E 36 t_now_note)]) (wr := [(q_t_now_wanted, zI E 5 t_now_wanted)]) (wc' := [(q_t, .inr (3, [.ref q_t_now, .ref q_t_images, .ref q_t_search, .ref q_t_reader, .int t_above, .int t_below, .int t_bads, .int t_nos, .int t_fulls])), (q_t_now, .inr (0, [.int t_now_pressure, .int t_now_day, .int t_now_wells, .int t_now_lefts, .int t_now_notes, .int t_now_undos, .ref q_t_now_kind, .ref q_t_now_wanted, .ref q_t_now_hours, .ref q_t_now_had, .ref q_t_now_due, .ref q_t_now_leftHour, .ref q_t_now_leftPressure, .ref q_t_now_note, .ref q_t_now_past, .ref q_t_now_ahead, .ref q_t_now_gets, .int t_now_leftOver])), (q_t_now_note, zI E 36 t_now_note)]) (ws2 := [(q_t, .inr (3, [.ref q_t_now, .ref q_t_images, .ref q_t_search, .ref q_t_reader, .int t_above, .int t_below, .int t_bads, .int t_nos, .int t_fulls])), (q_t_now, .inr (0, [.int t_now_pressure, .int t_now_day, .int t_now_wells, .int t_now_lefts, .int t_now_notes, .int t_now_undos, .ref q_t_now_kind, .ref q_t_now_wanted, .ref q_t_now_hours, .ref q_t_now_had, .ref q_t_now_due, .ref q_t_now_leftHour, .ref q_t_now_leftPressure, .ref q_t_now_note, .ref q_t_now_past, .ref q_t_now_ahead, .ref q_t_now_gets, .int t_now_leftOver])), (q_t_now_note, zI E 36 t_now_note), (q_t_now_wanted, zI E 5 t_now_wanted)]) (As := [.int a1]) (st2 := [.int o3]) C [0, 1, 2] [3] [1, 2, 3, 0] rfl rfl rfl rfl (by decide) rfl rfl (c_X4_kindsOf F ho4) (goodVT consT W_554 W_556 W_21 W_58 W_557) rfl rfl rfl hd_X4_kindsOf ⟨Nat.le_of_ble_eq_true rfl, Nat.le_of_ble_eq_true rfl⟩ rfl rfl rfl (j := 0) rfl rfl rfl (Nat.le_of_ble_eq_true rfl) dX4_look_18 ⟨Nat.zero_le _, Nat.zero_le _⟩ ?_
    refine z_istore_n (L' := [(2, .int o3), (0, .ref q_t), (1, .int a1)]) C dX4_look_21 rfl (by decide) rfl ?_
    refine z_iload_n C dX4_look_22 rfl 0 rfl ?_
    refine z_if_ne (tgt := 28) C dX4_look_23 (by decide) (fun c => ?_) (fun c => ?_)
    · replace h := (if_neg c).symm.trans h
      refine z_bipush (v := (7 : Int32)) C dX4_look_28 (by decide) ?_
      refine z_istore_n (L' := [(3, .int (7 : Int32)), (2, .int o3), (0, .ref q_t), (1, .int a1)]) C dX4_look_30 rfl (by decide) rfl ?_
      refine z_iconst (v := (-1 : Int32)) C dX4_look_31 (by decide) ?_
      refine z_istore (L' := [(4, .int (-1 : Int32)), (3, .int (7 : Int32)), (2, .int o3), (0, .ref q_t), (1, .int a1)]) C dX4_look_32 (by decide) rfl ?_
      refine z_iconst (v := (0 : Int32)) C dX4_look_34 (by decide) ?_
      refine z_istore (L' := [(5, .int (0 : Int32)), (4, .int (-1 : Int32)), (3, .int (7 : Int32)), (2, .int o3), (0, .ref q_t), (1, .int a1)]) C dX4_look_35 (by decide) rfl ?_
      refine z_sub [4, 5, 3, 2, 1, 0] (L' := [(0, .ref q_t), (1, .int a1), (2, .int o3), (3, .int (7 : Int32)), (4, .int (-1 : Int32)), (5, .int (0 : Int32))]) rfl ?_
      exact (l_X4_look_b37 F a1 t_now_wells t_now_notes t_now_note t_now_wanted C hr F) o3 (7 : Int32) (-1 : Int32) (0 : Int32) t_bads h
    · replace h := (if_pos c).symm.trans h
      refine z_iconst (v := (-1 : Int32)) C dX4_look_26 (by decide) ?_
      obtain rfl := Option.some.inj h
      exact z_iret (v := (-1 : Int32)) C hr dX4_look_27
  · replace h := (if_pos c).symm.trans h
    refine z_aload_n C dX4_look_11 rfl 0 rfl ?_
    obtain ⟨o5, ho6, h⟩ := bnd_some h
    refine z_callV (wc := [(q_t, .inr (3, [.ref q_t_now, .ref q_t_images, .ref q_t_search, .ref q_t_reader, .int t_above, .int t_below, .int t_bads, .int t_nos, .int t_fulls]))]) (wr := [(q_t_now, .inr (0, [.int t_now_pressure, .int t_now_day, .int t_now_wells, .int t_now_lefts, .int t_now_notes, .int t_now_undos, .ref q_t_now_kind, .ref q_t_now_wanted, .ref q_t_now_hours, .ref q_t_now_had, .ref q_t_now_due, .ref q_t_now_leftHour, .ref q_t_now_leftPressure, .ref q_t_now_note, .ref q_t_now_past, .ref q_t_now_ahead, .ref q_t_now_gets, .int t_now_leftOver])), (q_t_now_note, zI E 36 t_now_note), (q_t_now_wanted, zI E 5 t_now_wanted)]) (wc' := [(q_t, .inr (3, [.ref q_t_now, .ref q_t_images, .ref q_t_search, .ref q_t_reader, .int t_above, .int t_below, .int o5.2, .int t_nos, .int t_fulls]))]) (ws2 := [(q_t, .inr (3, [.ref q_t_now, .ref q_t_images, .ref q_t_search, .ref q_t_reader, .int t_above, .int t_below, .int o5.2, .int t_nos, .int t_fulls])), (q_t_now, .inr (0, [.int t_now_pressure, .int t_now_day, .int t_now_wells, .int t_now_lefts, .int t_now_notes, .int t_now_undos, .ref q_t_now_kind, .ref q_t_now_wanted, .ref q_t_now_hours, .ref q_t_now_had, .ref q_t_now_due, .ref q_t_now_leftHour, .ref q_t_now_leftPressure, .ref q_t_now_note, .ref q_t_now_past, .ref q_t_now_ahead, .ref q_t_now_gets, .int t_now_leftOver])), (q_t_now_note, zI E 36 t_now_note), (q_t_now_wanted, zI E 5 t_now_wanted)]) (As := []) (st2 := [.int o5.1]) C [0] [1, 2, 3] [3, 0, 1, 2] rfl rfl rfl rfl (by decide) rfl rfl (c_X4_bad F ho6) (goodVT consT W_264 W_266 W_0 W_58 W_267) rfl rfl rfl hd_X4_bad ⟨Nat.le_of_ble_eq_true rfl, Nat.le_of_ble_eq_true rfl⟩ rfl rfl rfl (j := 0) rfl rfl rfl (Nat.le_of_ble_eq_true rfl) dX4_look_12 ⟨Nat.zero_le _, Nat.zero_le _⟩ ?_
    obtain rfl := Option.some.inj h
    exact z_iret (v := o5.1) C hr dX4_look_15
def rm_X4_bothWouldSwap : Room := { frames := 4, cells := 0, slots := 0, locals := 94 }
theorem hd_X4_bothWouldSwap : yX4_bothWouldSwap.cls = yX4_bothWouldSwap.cls ∧ yX4_bothWouldSwap.cls ≠ "java/lang/invoke/MethodHandle" ∧ yX4_bothWouldSwap.cls ≠ "java/lang/invoke/VarHandle" ∧ (parseMethodDescriptor yX4_bothWouldSwap.desc).map (fun d => d.parameters.length) = some 2 := by decide +kernel
abbrev wsX4_bothWouldSwap : List Cond := .code yX4_bothWouldSwap cX4_bothWouldSwap 7 (some .boolean) :: WALL
set_option maxRecDepth 100000 in
set_option maxHeartbeats 4000000 in
theorem l_X4_bothWouldSwap_b71 {p : Program} {l : Launch} {e : Env} {s : State} {m : MethodId} {args : Array Value} {below : List Frame} {meth : Method} {c : Code} {E : zE} {A : Nat → Prop} {q_t q_t_now q_t_now_hours q_t_now_ahead q_t_now_kind q_t_now_wanted q_t_now_gets q_t_images q_t_search q_t_reader q_t_now_had q_t_now_due q_t_now_leftHour q_t_now_leftPressure q_t_now_note q_t_now_past : Nat} {t_above : Int32} {t_below : Int32} {t_bads : Int32} {t_nos : Int32} {t_fulls : Int32} {t_now_day : Int32} {t_now_lefts : Int32} {t_now_notes : Int32} {t_now_undos : Int32} {o : Int32 × Int32 × (Nat → Int32) × (Nat → Int32) × (Nat → Int32)} (F : Nat) (a1 : Int32) (a2 : Int32) (t_now_pressure : Int32) (t_now_wells : Int32) (t_now_kind : Nat → Int32) (t_now_wanted : Nat → Int32) (K72 : Int32 → Int32 → (Nat → Int32) → (Nat → Int32) → (Nat → Int32) → Option (Int32 × Int32 × (Nat → Int32) × (Nat → Int32) × (Nat → Int32))) (C : zC p s m args c meth cX4_bothWouldSwap 7 RX4 wsX4_bothWouldSwap E A) (hr : meth.sig.returnType = some .boolean) (hK72 : ∀ (s0 : Int32) (t_now_leftOver : Int32) (t_now_hours : Nat → Int32) (t_now_ahead : Nat → Int32) (t_now_gets : Nat → Int32), K72 s0 t_now_leftOver t_now_hours t_now_ahead t_now_gets = some o → zG p l e rm_X4_bothWouldSwap s m args below meth c 7 E A 0 0 (MQ below (zQ E A (some (.int o.1)) [(q_t, .inr (3, [.ref q_t_now, .ref q_t_images, .ref q_t_search, .ref q_t_reader, .int t_above, .int t_below, .int t_bads, .int t_nos, .int t_fulls])), (q_t_now, .inr (0, [.int t_now_pressure, .int t_now_day, .int t_now_wells, .int t_now_lefts, .int t_now_notes, .int t_now_undos, .ref q_t_now_kind, .ref q_t_now_wanted, .ref q_t_now_hours, .ref q_t_now_had, .ref q_t_now_due, .ref q_t_now_leftHour, .ref q_t_now_leftPressure, .ref q_t_now_note, .ref q_t_now_past, .ref q_t_now_ahead, .ref q_t_now_gets, .int o.2.1])), (q_t_now_hours, zI E 5 o.2.2.1), (q_t_now_ahead, zI E 5 o.2.2.2.1), (q_t_now_kind, zI E 5 t_now_kind), (q_t_now_wanted, zI E 5 t_now_wanted), (q_t_now_gets, zI E 5 o.2.2.2.2)]) args s 0 0 A) [(q_t, .inr (3, [.ref q_t_now, .ref q_t_images, .ref q_t_search, .ref q_t_reader, .int t_above, .int t_below, .int t_bads, .int t_nos, .int t_fulls])), (q_t_now, .inr (0, [.int t_now_pressure, .int t_now_day, .int t_now_wells, .int t_now_lefts, .int t_now_notes, .int t_now_undos, .ref q_t_now_kind, .ref q_t_now_wanted, .ref q_t_now_hours, .ref q_t_now_had, .ref q_t_now_due, .ref q_t_now_leftHour, .ref q_t_now_leftPressure, .ref q_t_now_note, .ref q_t_now_past, .ref q_t_now_ahead, .ref q_t_now_gets, .int t_now_leftOver])), (q_t_now_hours, zI E 5 t_now_hours), (q_t_now_ahead, zI E 5 t_now_ahead), (q_t_now_kind, zI E 5 t_now_kind), (q_t_now_wanted, zI E 5 t_now_wanted), (q_t_now_gets, zI E 5 t_now_gets)] 72 [(0, .ref q_t), (1, .int a1), (2, .int a2)] [.int s0]) : ∀  (t_now_leftOver : Int32) (t_now_hours : Nat → Int32) (t_now_ahead : Nat → Int32) (t_now_gets : Nat → Int32), f_X4_bothWouldSwap_b71 F a1 a2 t_now_pressure t_now_wells t_now_kind t_now_wanted K72 t_now_leftOver t_now_hours t_now_ahead t_now_gets = some o → zG p l e rm_X4_bothWouldSwap s m args below meth c 7 E A 0 0 (MQ below (zQ E A (some (.int o.1)) [(q_t, .inr (3, [.ref q_t_now, .ref q_t_images, .ref q_t_search, .ref q_t_reader, .int t_above, .int t_below, .int t_bads, .int t_nos, .int t_fulls])), (q_t_now, .inr (0, [.int t_now_pressure, .int t_now_day, .int t_now_wells, .int t_now_lefts, .int t_now_notes, .int t_now_undos, .ref q_t_now_kind, .ref q_t_now_wanted, .ref q_t_now_hours, .ref q_t_now_had, .ref q_t_now_due, .ref q_t_now_leftHour, .ref q_t_now_leftPressure, .ref q_t_now_note, .ref q_t_now_past, .ref q_t_now_ahead, .ref q_t_now_gets, .int o.2.1])), (q_t_now_hours, zI E 5 o.2.2.1), (q_t_now_ahead, zI E 5 o.2.2.2.1), (q_t_now_kind, zI E 5 t_now_kind), (q_t_now_wanted, zI E 5 t_now_wanted), (q_t_now_gets, zI E 5 o.2.2.2.2)]) args s 0 0 A) [(q_t, .inr (3, [.ref q_t_now, .ref q_t_images, .ref q_t_search, .ref q_t_reader, .int t_above, .int t_below, .int t_bads, .int t_nos, .int t_fulls])), (q_t_now, .inr (0, [.int t_now_pressure, .int t_now_day, .int t_now_wells, .int t_now_lefts, .int t_now_notes, .int t_now_undos, .ref q_t_now_kind, .ref q_t_now_wanted, .ref q_t_now_hours, .ref q_t_now_had, .ref q_t_now_due, .ref q_t_now_leftHour, .ref q_t_now_leftPressure, .ref q_t_now_note, .ref q_t_now_past, .ref q_t_now_ahead, .ref q_t_now_gets, .int t_now_leftOver])), (q_t_now_hours, zI E 5 t_now_hours), (q_t_now_ahead, zI E 5 t_now_ahead), (q_t_now_kind, zI E 5 t_now_kind), (q_t_now_wanted, zI E 5 t_now_wanted), (q_t_now_gets, zI E 5 t_now_gets)] 71 [(0, .ref q_t), (1, .int a1), (2, .int a2)] [] := by
  intro t_now_leftOver t_now_hours t_now_ahead t_now_gets h
  rw [f_X4_bothWouldSwap_b71] at h
  refine z_iconst (v := (0 : Int32)) C dX4_bothWouldSwap_71 (by decide) ?_
  exact hK72 (0 : Int32) t_now_leftOver t_now_hours t_now_ahead t_now_gets h
set_option maxRecDepth 100000 in
set_option maxHeartbeats 4000000 in
theorem l_X4_bothWouldSwap_b72 {p : Program} {l : Launch} {e : Env} {s : State} {m : MethodId} {args : Array Value} {below : List Frame} {meth : Method} {c : Code} {E : zE} {A : Nat → Prop} {q_t q_t_now q_t_now_hours q_t_now_ahead q_t_now_kind q_t_now_wanted q_t_now_gets q_t_images q_t_search q_t_reader q_t_now_had q_t_now_due q_t_now_leftHour q_t_now_leftPressure q_t_now_note q_t_now_past : Nat} {t_above : Int32} {t_below : Int32} {t_bads : Int32} {t_nos : Int32} {t_fulls : Int32} {t_now_day : Int32} {t_now_lefts : Int32} {t_now_notes : Int32} {t_now_undos : Int32} {o : Int32 × Int32 × (Nat → Int32) × (Nat → Int32) × (Nat → Int32)} (F : Nat) (a1 : Int32) (a2 : Int32) (t_now_pressure : Int32) (t_now_wells : Int32) (t_now_kind : Nat → Int32) (t_now_wanted : Nat → Int32) (C : zC p s m args c meth cX4_bothWouldSwap 7 RX4 wsX4_bothWouldSwap E A) (hr : meth.sig.returnType = some .boolean) : ∀  (s0 : Int32) (t_now_leftOver : Int32) (t_now_hours : Nat → Int32) (t_now_ahead : Nat → Int32) (t_now_gets : Nat → Int32), f_X4_bothWouldSwap_b72 F a1 a2 t_now_pressure t_now_wells t_now_kind t_now_wanted s0 t_now_leftOver t_now_hours t_now_ahead t_now_gets = some o → zG p l e rm_X4_bothWouldSwap s m args below meth c 7 E A 0 0 (MQ below (zQ E A (some (.int o.1)) [(q_t, .inr (3, [.ref q_t_now, .ref q_t_images, .ref q_t_search, .ref q_t_reader, .int t_above, .int t_below, .int t_bads, .int t_nos, .int t_fulls])), (q_t_now, .inr (0, [.int t_now_pressure, .int t_now_day, .int t_now_wells, .int t_now_lefts, .int t_now_notes, .int t_now_undos, .ref q_t_now_kind, .ref q_t_now_wanted, .ref q_t_now_hours, .ref q_t_now_had, .ref q_t_now_due, .ref q_t_now_leftHour, .ref q_t_now_leftPressure, .ref q_t_now_note, .ref q_t_now_past, .ref q_t_now_ahead, .ref q_t_now_gets, .int o.2.1])), (q_t_now_hours, zI E 5 o.2.2.1), (q_t_now_ahead, zI E 5 o.2.2.2.1), (q_t_now_kind, zI E 5 t_now_kind), (q_t_now_wanted, zI E 5 t_now_wanted), (q_t_now_gets, zI E 5 o.2.2.2.2)]) args s 0 0 A) [(q_t, .inr (3, [.ref q_t_now, .ref q_t_images, .ref q_t_search, .ref q_t_reader, .int t_above, .int t_below, .int t_bads, .int t_nos, .int t_fulls])), (q_t_now, .inr (0, [.int t_now_pressure, .int t_now_day, .int t_now_wells, .int t_now_lefts, .int t_now_notes, .int t_now_undos, .ref q_t_now_kind, .ref q_t_now_wanted, .ref q_t_now_hours, .ref q_t_now_had, .ref q_t_now_due, .ref q_t_now_leftHour, .ref q_t_now_leftPressure, .ref q_t_now_note, .ref q_t_now_past, .ref q_t_now_ahead, .ref q_t_now_gets, .int t_now_leftOver])), (q_t_now_hours, zI E 5 t_now_hours), (q_t_now_ahead, zI E 5 t_now_ahead), (q_t_now_kind, zI E 5 t_now_kind), (q_t_now_wanted, zI E 5 t_now_wanted), (q_t_now_gets, zI E 5 t_now_gets)] 72 [(0, .ref q_t), (1, .int a1), (2, .int a2)] [.int s0] := by
  intro s0 t_now_leftOver t_now_hours t_now_ahead t_now_gets h
  rw [f_X4_bothWouldSwap_b72] at h
  refine z_istore (L' := [(6, .int s0), (0, .ref q_t), (1, .int a1), (2, .int a2)]) C dX4_bothWouldSwap_72 (by decide) rfl ?_
  refine z_aload_n C dX4_bothWouldSwap_74 rfl 1 rfl ?_
  refine z_get C inT_X4 0 rfl rfl 0 (by decide) rfl (mc W_226) rfl dX4_bothWouldSwap_75 ?_
  refine z_iload_n C dX4_bothWouldSwap_78 rfl 2 rfl ?_
  refine z_iload_n C dX4_bothWouldSwap_79 rfl 3 rfl ?_
  obtain ⟨o13, ho14, h⟩ := bnd_some h
  refine z_callV (wc := [(q_t_now, .inr (0, [.int t_now_pressure, .int t_now_day, .int t_now_wells, .int t_now_lefts, .int t_now_notes, .int t_now_undos, .ref q_t_now_kind, .ref q_t_now_wanted, .ref q_t_now_hours, .ref q_t_now_had, .ref q_t_now_due, .ref q_t_now_leftHour, .ref q_t_now_leftPressure, .ref q_t_now_note, .ref q_t_now_past, .ref q_t_now_ahead, .ref q_t_now_gets, .int t_now_leftOver])), (q_t_now_hours, zI E 5 t_now_hours)]) (wr := [(q_t, .inr (3, [.ref q_t_now, .ref q_t_images, .ref q_t_search, .ref q_t_reader, .int t_above, .int t_below, .int t_bads, .int t_nos, .int t_fulls])), (q_t_now_ahead, zI E 5 t_now_ahead), (q_t_now_kind, zI E 5 t_now_kind), (q_t_now_wanted, zI E 5 t_now_wanted), (q_t_now_gets, zI E 5 t_now_gets)]) (wc' := [(q_t_now, .inr (0, [.int t_now_pressure, .int t_now_day, .int t_now_wells, .int t_now_lefts, .int t_now_notes, .int t_now_undos, .ref q_t_now_kind, .ref q_t_now_wanted, .ref q_t_now_hours, .ref q_t_now_had, .ref q_t_now_due, .ref q_t_now_leftHour, .ref q_t_now_leftPressure, .ref q_t_now_note, .ref q_t_now_past, .ref q_t_now_ahead, .ref q_t_now_gets, .int t_now_leftOver])), (q_t_now_hours, zI E 5 o13)]) (ws2 := [(q_t, .inr (3, [.ref q_t_now, .ref q_t_images, .ref q_t_search, .ref q_t_reader, .int t_above, .int t_below, .int t_bads, .int t_nos, .int t_fulls])), (q_t_now, .inr (0, [.int t_now_pressure, .int t_now_day, .int t_now_wells, .int t_now_lefts, .int t_now_notes, .int t_now_undos, .ref q_t_now_kind, .ref q_t_now_wanted, .ref q_t_now_hours, .ref q_t_now_had, .ref q_t_now_due, .ref q_t_now_leftHour, .ref q_t_now_leftPressure, .ref q_t_now_note, .ref q_t_now_past, .ref q_t_now_ahead, .ref q_t_now_gets, .int t_now_leftOver])), (q_t_now_hours, zI E 5 o13), (q_t_now_ahead, zI E 5 t_now_ahead), (q_t_now_kind, zI E 5 t_now_kind), (q_t_now_wanted, zI E 5 t_now_wanted), (q_t_now_gets, zI E 5 t_now_gets)]) (As := [.int a1, .int a2]) (st2 := []) C [1, 2] [0, 3, 4, 5, 6] [0, 5, 6, 1, 2, 3, 4] rfl rfl rfl rfl (by decide) rfl rfl (c_X1_swapHours F ho14) (goodVT consT W_587 W_588 W_589 W_59 W_590) rfl rfl rfl hd_X1_swapHours ⟨Nat.le_of_ble_eq_true rfl, Nat.le_of_ble_eq_true rfl⟩ rfl rfl rfl (j := 0) rfl rfl rfl (Nat.le_of_ble_eq_true rfl) dX4_bothWouldSwap_80 ⟨Nat.zero_le _, Nat.zero_le _⟩ ?_
  refine z_iload C dX4_bothWouldSwap_83 0 rfl ?_
  obtain ⟨c15, h⟩ := chk_some h
  obtain rfl := Option.some.inj h
  exact z_zret (v := s0) C hr (bo_n c15) dX4_bothWouldSwap_85
set_option maxRecDepth 100000 in
set_option maxHeartbeats 4000000 in
theorem c_X4_bothWouldSwap {l : Launch} {E : zE} {q_t q_t_now q_t_now_hours q_t_now_ahead q_t_now_kind q_t_now_wanted q_t_now_gets q_t_images q_t_search q_t_reader q_t_now_had q_t_now_due q_t_now_leftHour q_t_now_leftPressure q_t_now_note q_t_now_past : Nat} {t_above : Int32} {t_below : Int32} {t_bads : Int32} {t_nos : Int32} {t_fulls : Int32} {t_now_day : Int32} {t_now_lefts : Int32} {t_now_notes : Int32} {t_now_undos : Int32} {a1 : Int32} {a2 : Int32} {t_now_pressure : Int32} {t_now_wells : Int32} {t_now_kind : Nat → Int32} {t_now_wanted : Nat → Int32} {t_now_leftOver : Int32} {t_now_hours : Nat → Int32} {t_now_ahead : Nat → Int32} {t_now_gets : Nat → Int32} {o : Int32 × Int32 × (Nat → Int32) × (Nat → Int32) × (Nat → Int32)} (F : Nat) (h : f_X4_bothWouldSwap F a1 a2 t_now_pressure t_now_wells t_now_kind t_now_wanted t_now_leftOver t_now_hours t_now_ahead t_now_gets = some o) : zM l yX4_bothWouldSwap wsX4_bothWouldSwap rm_X4_bothWouldSwap E [.ref q_t, .int a1, .int a2] [(q_t, .inr (3, [.ref q_t_now, .ref q_t_images, .ref q_t_search, .ref q_t_reader, .int t_above, .int t_below, .int t_bads, .int t_nos, .int t_fulls])), (q_t_now, .inr (0, [.int t_now_pressure, .int t_now_day, .int t_now_wells, .int t_now_lefts, .int t_now_notes, .int t_now_undos, .ref q_t_now_kind, .ref q_t_now_wanted, .ref q_t_now_hours, .ref q_t_now_had, .ref q_t_now_due, .ref q_t_now_leftHour, .ref q_t_now_leftPressure, .ref q_t_now_note, .ref q_t_now_past, .ref q_t_now_ahead, .ref q_t_now_gets, .int t_now_leftOver])), (q_t_now_hours, zI E 5 t_now_hours), (q_t_now_ahead, zI E 5 t_now_ahead), (q_t_now_kind, zI E 5 t_now_kind), (q_t_now_wanted, zI E 5 t_now_wanted), (q_t_now_gets, zI E 5 t_now_gets)] (some (.int o.1)) [(q_t, .inr (3, [.ref q_t_now, .ref q_t_images, .ref q_t_search, .ref q_t_reader, .int t_above, .int t_below, .int t_bads, .int t_nos, .int t_fulls])), (q_t_now, .inr (0, [.int t_now_pressure, .int t_now_day, .int t_now_wells, .int t_now_lefts, .int t_now_notes, .int t_now_undos, .ref q_t_now_kind, .ref q_t_now_wanted, .ref q_t_now_hours, .ref q_t_now_had, .ref q_t_now_due, .ref q_t_now_leftHour, .ref q_t_now_leftPressure, .ref q_t_now_note, .ref q_t_now_past, .ref q_t_now_ahead, .ref q_t_now_gets, .int o.2.1])), (q_t_now_hours, zI E 5 o.2.2.1), (q_t_now_ahead, zI E 5 o.2.2.2.1), (q_t_now_kind, zI E 5 t_now_kind), (q_t_now_wanted, zI E 5 t_now_wanted), (q_t_now_gets, zI E 5 o.2.2.2.2)] := by
  refine zM.of (cc := cX4_bothWouldSwap) (maxL := 7) (ret := (some .boolean)) (by decide +kernel) rfl (Nat.le_of_ble_eq_true rfl) ?_
  intro p e s m args below meth c A C hr
  have C : zC p s m args c meth cX4_bothWouldSwap 7 RX4 wsX4_bothWouldSwap E A := C
  rw [f_X4_bothWouldSwap] at h
  refine z_aload_n C dX4_bothWouldSwap_0 rfl 0 rfl ?_
  refine z_get C inT_X4 0 rfl rfl 0 (by decide) rfl (mc W_226) rfl dX4_bothWouldSwap_1 ?_
  obtain ⟨o1, ho2, h⟩ := bnd_some h
  refine z_callV (wc := [(q_t_now, .inr (0, [.int t_now_pressure, .int t_now_day, .int t_now_wells, .int t_now_lefts, .int t_now_notes, .int t_now_undos, .ref q_t_now_kind, .ref q_t_now_wanted, .ref q_t_now_hours, .ref q_t_now_had, .ref q_t_now_due, .ref q_t_now_leftHour, .ref q_t_now_leftPressure, .ref q_t_now_note, .ref q_t_now_past, .ref q_t_now_ahead, .ref q_t_now_gets, .int t_now_leftOver]))]) (wr := [(q_t, .inr (3, [.ref q_t_now, .ref q_t_images, .ref q_t_search, .ref q_t_reader, .int t_above, .int t_below, .int t_bads, .int t_nos, .int t_fulls])), (q_t_now_hours, zI E 5 t_now_hours), (q_t_now_ahead, zI E 5 t_now_ahead), (q_t_now_kind, zI E 5 t_now_kind), (q_t_now_wanted, zI E 5 t_now_wanted), (q_t_now_gets, zI E 5 t_now_gets)]) (wc' := [(q_t_now, .inr (0, [.int t_now_pressure, .int t_now_day, .int t_now_wells, .int t_now_lefts, .int t_now_notes, .int t_now_undos, .ref q_t_now_kind, .ref q_t_now_wanted, .ref q_t_now_hours, .ref q_t_now_had, .ref q_t_now_due, .ref q_t_now_leftHour, .ref q_t_now_leftPressure, .ref q_t_now_note, .ref q_t_now_past, .ref q_t_now_ahead, .ref q_t_now_gets, .int t_now_leftOver]))]) (ws2 := [(q_t, .inr (3, [.ref q_t_now, .ref q_t_images, .ref q_t_search, .ref q_t_reader, .int t_above, .int t_below, .int t_bads, .int t_nos, .int t_fulls])), (q_t_now, .inr (0, [.int t_now_pressure, .int t_now_day, .int t_now_wells, .int t_now_lefts, .int t_now_notes, .int t_now_undos, .ref q_t_now_kind, .ref q_t_now_wanted, .ref q_t_now_hours, .ref q_t_now_had, .ref q_t_now_due, .ref q_t_now_leftHour, .ref q_t_now_leftPressure, .ref q_t_now_note, .ref q_t_now_past, .ref q_t_now_ahead, .ref q_t_now_gets, .int t_now_leftOver])), (q_t_now_hours, zI E 5 t_now_hours), (q_t_now_ahead, zI E 5 t_now_ahead), (q_t_now_kind, zI E 5 t_now_kind), (q_t_now_wanted, zI E 5 t_now_wanted), (q_t_now_gets, zI E 5 t_now_gets)]) (As := []) (st2 := [.int o1]) C [1] [0, 2, 3, 4, 5, 6] [0, 6, 1, 2, 3, 4, 5] rfl rfl rfl rfl (by decide) rfl rfl (c_X1_everyWell F ho2) (goodVT consT W_449 W_450 W_451 W_59 W_452) rfl rfl rfl hd_X1_everyWell ⟨Nat.le_of_ble_eq_true rfl, Nat.le_of_ble_eq_true rfl⟩ rfl rfl rfl (j := 0) rfl rfl rfl (Nat.le_of_ble_eq_true rfl) dX4_bothWouldSwap_4 ⟨Nat.zero_le _, Nat.zero_le _⟩ ?_
  refine z_istore_n (L' := [(3, .int o1), (0, .ref q_t), (1, .int a1), (2, .int a2)]) C dX4_bothWouldSwap_7 rfl (by decide) rfl ?_
  refine z_aload_n C dX4_bothWouldSwap_8 rfl 1 rfl ?_
  refine z_get C inT_X4 0 rfl rfl 0 (by decide) rfl (mc W_226) rfl dX4_bothWouldSwap_9 ?_
  refine z_iload_n C dX4_bothWouldSwap_12 rfl 2 rfl ?_
  refine z_iload_n C dX4_bothWouldSwap_13 rfl 0 rfl ?_
  obtain ⟨o3, ho4, h⟩ := bnd_some h
  refine z_callV (wc := [(q_t_now, .inr (0, [.int t_now_pressure, .int t_now_day, .int t_now_wells, .int t_now_lefts, .int t_now_notes, .int t_now_undos, .ref q_t_now_kind, .ref q_t_now_wanted, .ref q_t_now_hours, .ref q_t_now_had, .ref q_t_now_due, .ref q_t_now_leftHour, .ref q_t_now_leftPressure, .ref q_t_now_note, .ref q_t_now_past, .ref q_t_now_ahead, .ref q_t_now_gets, .int t_now_leftOver])), (q_t_now_hours, zI E 5 t_now_hours), (q_t_now_ahead, zI E 5 t_now_ahead), (q_t_now_kind, zI E 5 t_now_kind), (q_t_now_wanted, zI E 5 t_now_wanted), (q_t_now_gets, zI E 5 t_now_gets)]) (wr := [(q_t, .inr (3, [.ref q_t_now, .ref q_t_images, .ref q_t_search, .ref q_t_reader, .int t_above, .int t_below, .int t_bads, .int t_nos, .int t_fulls]))]) (wc' := [(q_t_now, .inr (0, [.int t_now_pressure, .int t_now_day, .int t_now_wells, .int t_now_lefts, .int t_now_notes, .int t_now_undos, .ref q_t_now_kind, .ref q_t_now_wanted, .ref q_t_now_hours, .ref q_t_now_had, .ref q_t_now_due, .ref q_t_now_leftHour, .ref q_t_now_leftPressure, .ref q_t_now_note, .ref q_t_now_past, .ref q_t_now_ahead, .ref q_t_now_gets, .int o3.2.1])), (q_t_now_hours, zI E 5 t_now_hours), (q_t_now_ahead, zI E 5 o3.2.2.1), (q_t_now_kind, zI E 5 t_now_kind), (q_t_now_wanted, zI E 5 t_now_wanted), (q_t_now_gets, zI E 5 o3.2.2.2)]) (ws2 := [(q_t, .inr (3, [.ref q_t_now, .ref q_t_images, .ref q_t_search, .ref q_t_reader, .int t_above, .int t_below, .int t_bads, .int t_nos, .int t_fulls])), (q_t_now, .inr (0, [.int t_now_pressure, .int t_now_day, .int t_now_wells, .int t_now_lefts, .int t_now_notes, .int t_now_undos, .ref q_t_now_kind, .ref q_t_now_wanted, .ref q_t_now_hours, .ref q_t_now_had, .ref q_t_now_due, .ref q_t_now_leftHour, .ref q_t_now_leftPressure, .ref q_t_now_note, .ref q_t_now_past, .ref q_t_now_ahead, .ref q_t_now_gets, .int o3.2.1])), (q_t_now_hours, zI E 5 t_now_hours), (q_t_now_ahead, zI E 5 o3.2.2.1), (q_t_now_kind, zI E 5 t_now_kind), (q_t_now_wanted, zI E 5 t_now_wanted), (q_t_now_gets, zI E 5 o3.2.2.2)]) (As := [.int a1, .int o1]) (st2 := [.int o3.1]) C [1, 2, 3, 4, 5, 6] [0] [0, 1, 2, 3, 4, 5, 6] rfl rfl rfl rfl (by decide) rfl rfl (c_X1_dailyGets F ho4) (goodVT consT W_453 W_454 W_455 W_59 W_456) rfl rfl rfl hd_X1_dailyGets ⟨Nat.le_of_ble_eq_true rfl, Nat.le_of_ble_eq_true rfl⟩ rfl rfl rfl (j := 0) rfl rfl rfl (Nat.le_of_ble_eq_true rfl) dX4_bothWouldSwap_14 ⟨Nat.zero_le _, Nat.zero_le _⟩ ?_
  refine z_istore (L' := [(4, .int o3.1), (3, .int o1), (0, .ref q_t), (1, .int a1), (2, .int a2)]) C dX4_bothWouldSwap_17 (by decide) rfl ?_
  refine z_aload_n C dX4_bothWouldSwap_19 rfl 2 rfl ?_
  refine z_get C inT_X4 0 rfl rfl 0 (by decide) rfl (mc W_226) rfl dX4_bothWouldSwap_20 ?_
  refine z_iload_n C dX4_bothWouldSwap_23 rfl 4 rfl ?_
  refine z_iload_n C dX4_bothWouldSwap_24 rfl 1 rfl ?_
  obtain ⟨o5, ho6, h⟩ := bnd_some h
  refine z_callV (wc := [(q_t_now, .inr (0, [.int t_now_pressure, .int t_now_day, .int t_now_wells, .int t_now_lefts, .int t_now_notes, .int t_now_undos, .ref q_t_now_kind, .ref q_t_now_wanted, .ref q_t_now_hours, .ref q_t_now_had, .ref q_t_now_due, .ref q_t_now_leftHour, .ref q_t_now_leftPressure, .ref q_t_now_note, .ref q_t_now_past, .ref q_t_now_ahead, .ref q_t_now_gets, .int o3.2.1])), (q_t_now_hours, zI E 5 t_now_hours), (q_t_now_ahead, zI E 5 o3.2.2.1), (q_t_now_kind, zI E 5 t_now_kind), (q_t_now_wanted, zI E 5 t_now_wanted), (q_t_now_gets, zI E 5 o3.2.2.2)]) (wr := [(q_t, .inr (3, [.ref q_t_now, .ref q_t_images, .ref q_t_search, .ref q_t_reader, .int t_above, .int t_below, .int t_bads, .int t_nos, .int t_fulls]))]) (wc' := [(q_t_now, .inr (0, [.int t_now_pressure, .int t_now_day, .int t_now_wells, .int t_now_lefts, .int t_now_notes, .int t_now_undos, .ref q_t_now_kind, .ref q_t_now_wanted, .ref q_t_now_hours, .ref q_t_now_had, .ref q_t_now_due, .ref q_t_now_leftHour, .ref q_t_now_leftPressure, .ref q_t_now_note, .ref q_t_now_past, .ref q_t_now_ahead, .ref q_t_now_gets, .int o5.2.1])), (q_t_now_hours, zI E 5 t_now_hours), (q_t_now_ahead, zI E 5 o5.2.2.1), (q_t_now_kind, zI E 5 t_now_kind), (q_t_now_wanted, zI E 5 t_now_wanted), (q_t_now_gets, zI E 5 o5.2.2.2)]) (ws2 := [(q_t, .inr (3, [.ref q_t_now, .ref q_t_images, .ref q_t_search, .ref q_t_reader, .int t_above, .int t_below, .int t_bads, .int t_nos, .int t_fulls])), (q_t_now, .inr (0, [.int t_now_pressure, .int t_now_day, .int t_now_wells, .int t_now_lefts, .int t_now_notes, .int t_now_undos, .ref q_t_now_kind, .ref q_t_now_wanted, .ref q_t_now_hours, .ref q_t_now_had, .ref q_t_now_due, .ref q_t_now_leftHour, .ref q_t_now_leftPressure, .ref q_t_now_note, .ref q_t_now_past, .ref q_t_now_ahead, .ref q_t_now_gets, .int o5.2.1])), (q_t_now_hours, zI E 5 t_now_hours), (q_t_now_ahead, zI E 5 o5.2.2.1), (q_t_now_kind, zI E 5 t_now_kind), (q_t_now_wanted, zI E 5 t_now_wanted), (q_t_now_gets, zI E 5 o5.2.2.2)]) (As := [.int a2, .int o1]) (st2 := [.int o5.1]) C [1, 2, 3, 4, 5, 6] [0] [0, 1, 2, 3, 4, 5, 6] rfl rfl rfl rfl (by decide) rfl rfl (c_X1_dailyGets F ho6) (goodVT consT W_453 W_454 W_455 W_59 W_456) rfl rfl rfl hd_X1_dailyGets ⟨Nat.le_of_ble_eq_true rfl, Nat.le_of_ble_eq_true rfl⟩ rfl rfl rfl (j := 0) rfl rfl rfl (Nat.le_of_ble_eq_true rfl) dX4_bothWouldSwap_25 ⟨Nat.zero_le _, Nat.zero_le _⟩ ?_
  refine z_istore (L' := [(5, .int o5.1), (4, .int o3.1), (3, .int o1), (0, .ref q_t), (1, .int a1), (2, .int a2)]) C dX4_bothWouldSwap_28 (by decide) rfl ?_
  refine z_aload_n C dX4_bothWouldSwap_30 rfl 3 rfl ?_
  refine z_get C inT_X4 0 rfl rfl 0 (by decide) rfl (mc W_226) rfl dX4_bothWouldSwap_31 ?_
  refine z_iload_n C dX4_bothWouldSwap_34 rfl 4 rfl ?_
  refine z_iload_n C dX4_bothWouldSwap_35 rfl 5 rfl ?_
  obtain ⟨o7, ho8, h⟩ := bnd_some h
  refine z_callV (wc := [(q_t_now, .inr (0, [.int t_now_pressure, .int t_now_day, .int t_now_wells, .int t_now_lefts, .int t_now_notes, .int t_now_undos, .ref q_t_now_kind, .ref q_t_now_wanted, .ref q_t_now_hours, .ref q_t_now_had, .ref q_t_now_due, .ref q_t_now_leftHour, .ref q_t_now_leftPressure, .ref q_t_now_note, .ref q_t_now_past, .ref q_t_now_ahead, .ref q_t_now_gets, .int o5.2.1])), (q_t_now_hours, zI E 5 t_now_hours)]) (wr := [(q_t, .inr (3, [.ref q_t_now, .ref q_t_images, .ref q_t_search, .ref q_t_reader, .int t_above, .int t_below, .int t_bads, .int t_nos, .int t_fulls])), (q_t_now_ahead, zI E 5 o5.2.2.1), (q_t_now_kind, zI E 5 t_now_kind), (q_t_now_wanted, zI E 5 t_now_wanted), (q_t_now_gets, zI E 5 o5.2.2.2)]) (wc' := [(q_t_now, .inr (0, [.int t_now_pressure, .int t_now_day, .int t_now_wells, .int t_now_lefts, .int t_now_notes, .int t_now_undos, .ref q_t_now_kind, .ref q_t_now_wanted, .ref q_t_now_hours, .ref q_t_now_had, .ref q_t_now_due, .ref q_t_now_leftHour, .ref q_t_now_leftPressure, .ref q_t_now_note, .ref q_t_now_past, .ref q_t_now_ahead, .ref q_t_now_gets, .int o5.2.1])), (q_t_now_hours, zI E 5 o7)]) (ws2 := [(q_t, .inr (3, [.ref q_t_now, .ref q_t_images, .ref q_t_search, .ref q_t_reader, .int t_above, .int t_below, .int t_bads, .int t_nos, .int t_fulls])), (q_t_now, .inr (0, [.int t_now_pressure, .int t_now_day, .int t_now_wells, .int t_now_lefts, .int t_now_notes, .int t_now_undos, .ref q_t_now_kind, .ref q_t_now_wanted, .ref q_t_now_hours, .ref q_t_now_had, .ref q_t_now_due, .ref q_t_now_leftHour, .ref q_t_now_leftPressure, .ref q_t_now_note, .ref q_t_now_past, .ref q_t_now_ahead, .ref q_t_now_gets, .int o5.2.1])), (q_t_now_hours, zI E 5 o7), (q_t_now_ahead, zI E 5 o5.2.2.1), (q_t_now_kind, zI E 5 t_now_kind), (q_t_now_wanted, zI E 5 t_now_wanted), (q_t_now_gets, zI E 5 o5.2.2.2)]) (As := [.int a1, .int a2]) (st2 := []) C [1, 2] [0, 3, 4, 5, 6] [0, 5, 6, 1, 2, 3, 4] rfl rfl rfl rfl (by decide) rfl rfl (c_X1_swapHours F ho8) (goodVT consT W_587 W_588 W_589 W_59 W_590) rfl rfl rfl hd_X1_swapHours ⟨Nat.le_of_ble_eq_true rfl, Nat.le_of_ble_eq_true rfl⟩ rfl rfl rfl (j := 0) rfl rfl rfl (Nat.le_of_ble_eq_true rfl) dX4_bothWouldSwap_36 ⟨Nat.zero_le _, Nat.zero_le _⟩ ?_
  refine z_aload_n C dX4_bothWouldSwap_39 rfl 3 rfl ?_
  refine z_get C inT_X4 0 rfl rfl 0 (by decide) rfl (mc W_226) rfl dX4_bothWouldSwap_40 ?_
  refine z_iload_n C dX4_bothWouldSwap_43 rfl 4 rfl ?_
  refine z_iload_n C dX4_bothWouldSwap_44 rfl 2 rfl ?_
  obtain ⟨o9, ho10, h⟩ := bnd_some h
  refine z_callV (wc := [(q_t_now, .inr (0, [.int t_now_pressure, .int t_now_day, .int t_now_wells, .int t_now_lefts, .int t_now_notes, .int t_now_undos, .ref q_t_now_kind, .ref q_t_now_wanted, .ref q_t_now_hours, .ref q_t_now_had, .ref q_t_now_due, .ref q_t_now_leftHour, .ref q_t_now_leftPressure, .ref q_t_now_note, .ref q_t_now_past, .ref q_t_now_ahead, .ref q_t_now_gets, .int o5.2.1])), (q_t_now_hours, zI E 5 o7), (q_t_now_ahead, zI E 5 o5.2.2.1), (q_t_now_kind, zI E 5 t_now_kind), (q_t_now_wanted, zI E 5 t_now_wanted), (q_t_now_gets, zI E 5 o5.2.2.2)]) (wr := [(q_t, .inr (3, [.ref q_t_now, .ref q_t_images, .ref q_t_search, .ref q_t_reader, .int t_above, .int t_below, .int t_bads, .int t_nos, .int t_fulls]))]) (wc' := [(q_t_now, .inr (0, [.int t_now_pressure, .int t_now_day, .int t_now_wells, .int t_now_lefts, .int t_now_notes, .int t_now_undos, .ref q_t_now_kind, .ref q_t_now_wanted, .ref q_t_now_hours, .ref q_t_now_had, .ref q_t_now_due, .ref q_t_now_leftHour, .ref q_t_now_leftPressure, .ref q_t_now_note, .ref q_t_now_past, .ref q_t_now_ahead, .ref q_t_now_gets, .int o9.2.1])), (q_t_now_hours, zI E 5 o7), (q_t_now_ahead, zI E 5 o9.2.2.1), (q_t_now_kind, zI E 5 t_now_kind), (q_t_now_wanted, zI E 5 t_now_wanted), (q_t_now_gets, zI E 5 o9.2.2.2)]) (ws2 := [(q_t, .inr (3, [.ref q_t_now, .ref q_t_images, .ref q_t_search, .ref q_t_reader, .int t_above, .int t_below, .int t_bads, .int t_nos, .int t_fulls])), (q_t_now, .inr (0, [.int t_now_pressure, .int t_now_day, .int t_now_wells, .int t_now_lefts, .int t_now_notes, .int t_now_undos, .ref q_t_now_kind, .ref q_t_now_wanted, .ref q_t_now_hours, .ref q_t_now_had, .ref q_t_now_due, .ref q_t_now_leftHour, .ref q_t_now_leftPressure, .ref q_t_now_note, .ref q_t_now_past, .ref q_t_now_ahead, .ref q_t_now_gets, .int o9.2.1])), (q_t_now_hours, zI E 5 o7), (q_t_now_ahead, zI E 5 o9.2.2.1), (q_t_now_kind, zI E 5 t_now_kind), (q_t_now_wanted, zI E 5 t_now_wanted), (q_t_now_gets, zI E 5 o9.2.2.2)]) (As := [.int a1, .int o1]) (st2 := [.int o9.1]) C [1, 2, 3, 4, 5, 6] [0] [0, 1, 2, 3, 4, 5, 6] rfl rfl rfl rfl (by decide) rfl rfl (c_X1_dailyGets F ho10) (goodVT consT W_453 W_454 W_455 W_59 W_456) rfl rfl rfl hd_X1_dailyGets ⟨Nat.le_of_ble_eq_true rfl, Nat.le_of_ble_eq_true rfl⟩ rfl rfl rfl (j := 0) rfl rfl rfl (Nat.le_of_ble_eq_true rfl) dX4_bothWouldSwap_45 ⟨Nat.zero_le _, Nat.zero_le _⟩ ?_
  refine z_iload C dX4_bothWouldSwap_48 1 rfl ?_
  refine z_icmp_le (tgt := 71) C dX4_bothWouldSwap_50 (by decide) (fun c => ?_) (fun c => ?_)
  · replace h := (if_pos c).symm.trans h
    refine z_sub [3, 4, 5] (L' := [(0, .ref q_t), (1, .int a1), (2, .int a2)]) rfl ?_
    exact (l_X4_bothWouldSwap_b71 F a1 a2 t_now_pressure t_now_wells t_now_kind t_now_wanted (f_X4_bothWouldSwap_b72 F a1 a2 t_now_pressure t_now_wells t_now_kind t_now_wanted) C hr (l_X4_bothWouldSwap_b72 F a1 a2 t_now_pressure t_now_wells t_now_kind t_now_wanted C hr)) o9.2.1 o7 o9.2.2.1 o9.2.2.2 h
  · replace h := (if_neg c).symm.trans h
    refine z_aload_n C dX4_bothWouldSwap_53 rfl 3 rfl ?_
    refine z_get C inT_X4 0 rfl rfl 0 (by decide) rfl (mc W_226) rfl dX4_bothWouldSwap_54 ?_
    refine z_iload_n C dX4_bothWouldSwap_57 rfl 5 rfl ?_
    refine z_iload_n C dX4_bothWouldSwap_58 rfl 2 rfl ?_
    obtain ⟨o11, ho12, h⟩ := bnd_some h
    refine z_callV (wc := [(q_t_now, .inr (0, [.int t_now_pressure, .int t_now_day, .int t_now_wells, .int t_now_lefts, .int t_now_notes, .int t_now_undos, .ref q_t_now_kind, .ref q_t_now_wanted, .ref q_t_now_hours, .ref q_t_now_had, .ref q_t_now_due, .ref q_t_now_leftHour, .ref q_t_now_leftPressure, .ref q_t_now_note, .ref q_t_now_past, .ref q_t_now_ahead, .ref q_t_now_gets, .int o9.2.1])), (q_t_now_hours, zI E 5 o7), (q_t_now_ahead, zI E 5 o9.2.2.1), (q_t_now_kind, zI E 5 t_now_kind), (q_t_now_wanted, zI E 5 t_now_wanted), (q_t_now_gets, zI E 5 o9.2.2.2)]) (wr := [(q_t, .inr (3, [.ref q_t_now, .ref q_t_images, .ref q_t_search, .ref q_t_reader, .int t_above, .int t_below, .int t_bads, .int t_nos, .int t_fulls]))]) (wc' := [(q_t_now, .inr (0, [.int t_now_pressure, .int t_now_day, .int t_now_wells, .int t_now_lefts, .int t_now_notes, .int t_now_undos, .ref q_t_now_kind, .ref q_t_now_wanted, .ref q_t_now_hours, .ref q_t_now_had, .ref q_t_now_due, .ref q_t_now_leftHour, .ref q_t_now_leftPressure, .ref q_t_now_note, .ref q_t_now_past, .ref q_t_now_ahead, .ref q_t_now_gets, .int o11.2.1])), (q_t_now_hours, zI E 5 o7), (q_t_now_ahead, zI E 5 o11.2.2.1), (q_t_now_kind, zI E 5 t_now_kind), (q_t_now_wanted, zI E 5 t_now_wanted), (q_t_now_gets, zI E 5 o11.2.2.2)]) (ws2 := [(q_t, .inr (3, [.ref q_t_now, .ref q_t_images, .ref q_t_search, .ref q_t_reader, .int t_above, .int t_below, .int t_bads, .int t_nos, .int t_fulls])), (q_t_now, .inr (0, [.int t_now_pressure, .int t_now_day, .int t_now_wells, .int t_now_lefts, .int t_now_notes, .int t_now_undos, .ref q_t_now_kind, .ref q_t_now_wanted, .ref q_t_now_hours, .ref q_t_now_had, .ref q_t_now_due, .ref q_t_now_leftHour, .ref q_t_now_leftPressure, .ref q_t_now_note, .ref q_t_now_past, .ref q_t_now_ahead, .ref q_t_now_gets, .int o11.2.1])), (q_t_now_hours, zI E 5 o7), (q_t_now_ahead, zI E 5 o11.2.2.1), (q_t_now_kind, zI E 5 t_now_kind), (q_t_now_wanted, zI E 5 t_now_wanted), (q_t_now_gets, zI E 5 o11.2.2.2)]) (As := [.int a2, .int o1]) (st2 := [.int o11.1]) C [1, 2, 3, 4, 5, 6] [0] [0, 1, 2, 3, 4, 5, 6] rfl rfl rfl rfl (by decide) rfl rfl (c_X1_dailyGets F ho12) (goodVT consT W_453 W_454 W_455 W_59 W_456) rfl rfl rfl hd_X1_dailyGets ⟨Nat.le_of_ble_eq_true rfl, Nat.le_of_ble_eq_true rfl⟩ rfl rfl rfl (j := 0) rfl rfl rfl (Nat.le_of_ble_eq_true rfl) dX4_bothWouldSwap_59 ⟨Nat.zero_le _, Nat.zero_le _⟩ ?_
    refine z_iload C dX4_bothWouldSwap_62 0 rfl ?_
    refine z_icmp_le (tgt := 71) C dX4_bothWouldSwap_64 (by decide) (fun c => ?_) (fun c => ?_)
    · replace h := (if_pos c).symm.trans h
      refine z_sub [3, 4, 5] (L' := [(0, .ref q_t), (1, .int a1), (2, .int a2)]) rfl ?_
      exact (l_X4_bothWouldSwap_b71 F a1 a2 t_now_pressure t_now_wells t_now_kind t_now_wanted (f_X4_bothWouldSwap_b72 F a1 a2 t_now_pressure t_now_wells t_now_kind t_now_wanted) C hr (l_X4_bothWouldSwap_b72 F a1 a2 t_now_pressure t_now_wells t_now_kind t_now_wanted C hr)) o11.2.1 o7 o11.2.2.1 o11.2.2.2 h
    · replace h := (if_neg c).symm.trans h
      refine z_iconst (v := (1 : Int32)) C dX4_bothWouldSwap_67 (by decide) ?_
      refine z_goto (tgt := 72) C dX4_bothWouldSwap_68 (by decide) ?_
      refine z_sub [3, 4, 5] (L' := [(0, .ref q_t), (1, .int a1), (2, .int a2)]) rfl ?_
      exact (l_X4_bothWouldSwap_b72 F a1 a2 t_now_pressure t_now_wells t_now_kind t_now_wanted C hr) (1 : Int32) o11.2.1 o7 o11.2.2.1 o11.2.2.2 h
def rm_X4_swaps : Room := { frames := 5, cells := 0, slots := 0, locals := 120 }
theorem hd_X4_swaps : yX4_swaps.cls = yX4_swaps.cls ∧ yX4_swaps.cls ≠ "java/lang/invoke/MethodHandle" ∧ yX4_swaps.cls ≠ "java/lang/invoke/VarHandle" ∧ (parseMethodDescriptor yX4_swaps.desc).map (fun d => d.parameters.length) = some 1 := by decide +kernel
abbrev wsX4_swaps : List Cond := .code yX4_swaps cX4_swaps 5 (some .int) :: WALL
set_option maxRecDepth 100000 in
set_option maxHeartbeats 4000000 in
theorem l_X4_swaps_b71 {p : Program} {l : Launch} {e : Env} {s : State} {m : MethodId} {args : Array Value} {below : List Frame} {meth : Method} {c : Code} {E : zE} {A : Nat → Prop} {q_t q_t_now q_t_now_hours q_t_now_ahead q_t_now_kind q_t_now_wanted q_t_now_gets q_t_images q_t_search q_t_reader q_t_now_had q_t_now_due q_t_now_leftHour q_t_now_leftPressure q_t_now_note q_t_now_past : Nat} {t_above : Int32} {t_below : Int32} {t_nos : Int32} {t_fulls : Int32} {t_now_day : Int32} {t_now_lefts : Int32} {t_now_notes : Int32} {t_now_undos : Int32} {o : Int32 × Int32 × Int32 × (Nat → Int32) × (Nat → Int32) × (Nat → Int32)} (F : Nat) (a1 : Int32) (t_now_pressure : Int32) (t_now_wells : Int32) (t_now_kind : Nat → Int32) (t_now_wanted : Nat → Int32) (K30 : Int32 → Int32 → Int32 → Int32 → Int32 → (Nat → Int32) → (Nat → Int32) → (Nat → Int32) → Option (Int32 × Int32 × Int32 × (Nat → Int32) × (Nat → Int32) × (Nat → Int32))) (C : zC p s m args c meth cX4_swaps 5 RX4 wsX4_swaps E A) (hr : meth.sig.returnType = some .int) (hK30 : ∀ (v2 : Int32) (v3 : Int32) (v4 : Int32) (t_bads : Int32) (t_now_leftOver : Int32) (t_now_hours : Nat → Int32) (t_now_ahead : Nat → Int32) (t_now_gets : Nat → Int32), K30 v2 v3 v4 t_bads t_now_leftOver t_now_hours t_now_ahead t_now_gets = some o → zG p l e rm_X4_swaps s m args below meth c 5 E A 0 0 (MQ below (zQ E A (some (.int o.1)) [(q_t, .inr (3, [.ref q_t_now, .ref q_t_images, .ref q_t_search, .ref q_t_reader, .int t_above, .int t_below, .int o.2.1, .int t_nos, .int t_fulls])), (q_t_now, .inr (0, [.int t_now_pressure, .int t_now_day, .int t_now_wells, .int t_now_lefts, .int t_now_notes, .int t_now_undos, .ref q_t_now_kind, .ref q_t_now_wanted, .ref q_t_now_hours, .ref q_t_now_had, .ref q_t_now_due, .ref q_t_now_leftHour, .ref q_t_now_leftPressure, .ref q_t_now_note, .ref q_t_now_past, .ref q_t_now_ahead, .ref q_t_now_gets, .int o.2.2.1])), (q_t_now_hours, zI E 5 o.2.2.2.1), (q_t_now_ahead, zI E 5 o.2.2.2.2.1), (q_t_now_kind, zI E 5 t_now_kind), (q_t_now_wanted, zI E 5 t_now_wanted), (q_t_now_gets, zI E 5 o.2.2.2.2.2)]) args s 0 0 A) [(q_t, .inr (3, [.ref q_t_now, .ref q_t_images, .ref q_t_search, .ref q_t_reader, .int t_above, .int t_below, .int t_bads, .int t_nos, .int t_fulls])), (q_t_now, .inr (0, [.int t_now_pressure, .int t_now_day, .int t_now_wells, .int t_now_lefts, .int t_now_notes, .int t_now_undos, .ref q_t_now_kind, .ref q_t_now_wanted, .ref q_t_now_hours, .ref q_t_now_had, .ref q_t_now_due, .ref q_t_now_leftHour, .ref q_t_now_leftPressure, .ref q_t_now_note, .ref q_t_now_past, .ref q_t_now_ahead, .ref q_t_now_gets, .int t_now_leftOver])), (q_t_now_hours, zI E 5 t_now_hours), (q_t_now_ahead, zI E 5 t_now_ahead), (q_t_now_kind, zI E 5 t_now_kind), (q_t_now_wanted, zI E 5 t_now_wanted), (q_t_now_gets, zI E 5 t_now_gets)] 30 [(0, .ref q_t), (1, .int a1), (2, .int v2), (3, .int v3), (4, .int v4)] []) : ∀  (v2 : Int32) (v3 : Int32) (v4 : Int32) (t_bads : Int32) (t_now_leftOver : Int32) (t_now_hours : Nat → Int32) (t_now_ahead : Nat → Int32) (t_now_gets : Nat → Int32), f_X4_swaps_b71 F a1 t_now_pressure t_now_wells t_now_kind t_now_wanted K30 v2 v3 v4 t_bads t_now_leftOver t_now_hours t_now_ahead t_now_gets = some o → zG p l e rm_X4_swaps s m args below meth c 5 E A 0 0 (MQ below (zQ E A (some (.int o.1)) [(q_t, .inr (3, [.ref q_t_now, .ref q_t_images, .ref q_t_search, .ref q_t_reader, .int t_above, .int t_below, .int o.2.1, .int t_nos, .int t_fulls])), (q_t_now, .inr (0, [.int t_now_pressure, .int t_now_day, .int t_now_wells, .int t_now_lefts, .int t_now_notes, .int t_now_undos, .ref q_t_now_kind, .ref q_t_now_wanted, .ref q_t_now_hours, .ref q_t_now_had, .ref q_t_now_due, .ref q_t_now_leftHour, .ref q_t_now_leftPressure, .ref q_t_now_note, .ref q_t_now_past, .ref q_t_now_ahead, .ref q_t_now_gets, .int o.2.2.1])), (q_t_now_hours, zI E 5 o.2.2.2.1), (q_t_now_ahead, zI E 5 o.2.2.2.2.1), (q_t_now_kind, zI E 5 t_now_kind), (q_t_now_wanted, zI E 5 t_now_wanted), (q_t_now_gets, zI E 5 o.2.2.2.2.2)]) args s 0 0 A) [(q_t, .inr (3, [.ref q_t_now, .ref q_t_images, .ref q_t_search, .ref q_t_reader, .int t_above, .int t_below, .int t_bads, .int t_nos, .int t_fulls])), (q_t_now, .inr (0, [.int t_now_pressure, .int t_now_day, .int t_now_wells, .int t_now_lefts, .int t_now_notes, .int t_now_undos, .ref q_t_now_kind, .ref q_t_now_wanted, .ref q_t_now_hours, .ref q_t_now_had, .ref q_t_now_due, .ref q_t_now_leftHour, .ref q_t_now_leftPressure, .ref q_t_now_note, .ref q_t_now_past, .ref q_t_now_ahead, .ref q_t_now_gets, .int t_now_leftOver])), (q_t_now_hours, zI E 5 t_now_hours), (q_t_now_ahead, zI E 5 t_now_ahead), (q_t_now_kind, zI E 5 t_now_kind), (q_t_now_wanted, zI E 5 t_now_wanted), (q_t_now_gets, zI E 5 t_now_gets)] 71 [(0, .ref q_t), (1, .int a1), (2, .int v2), (3, .int v3), (4, .int v4)] [] := by
  intro v2 v3 v4 t_bads t_now_leftOver t_now_hours t_now_ahead t_now_gets h
  rw [f_X4_swaps_b71] at h
  refine z_iinc (v := v4 + (1 : Int32)) (L' := [(4, .int (v4 + (1 : Int32))), (0, .ref q_t), (1, .int a1), (2, .int v2), (3, .int v3)]) C dX4_swaps_71 4 rfl rfl (by decide) rfl ?_
  refine z_goto (tgt := 30) C dX4_swaps_74 (by decide) ?_
  refine z_sub [1, 2, 3, 4, 0] (L' := [(0, .ref q_t), (1, .int a1), (2, .int v2), (3, .int v3), (4, .int (v4 + (1 : Int32)))]) rfl ?_
  exact hK30 v2 v3 (v4 + (1 : Int32)) t_bads t_now_leftOver t_now_hours t_now_ahead t_now_gets h
set_option maxRecDepth 100000 in
set_option maxHeartbeats 4000000 in
theorem l_X4_swaps_b30 {p : Program} {l : Launch} {e : Env} {s : State} {m : MethodId} {args : Array Value} {below : List Frame} {meth : Method} {c : Code} {E : zE} {A : Nat → Prop} {q_t q_t_now q_t_now_hours q_t_now_ahead q_t_now_kind q_t_now_wanted q_t_now_gets q_t_images q_t_search q_t_reader q_t_now_had q_t_now_due q_t_now_leftHour q_t_now_leftPressure q_t_now_note q_t_now_past : Nat} {t_above : Int32} {t_below : Int32} {t_nos : Int32} {t_fulls : Int32} {t_now_day : Int32} {t_now_lefts : Int32} {t_now_notes : Int32} {t_now_undos : Int32} {o : Int32 × Int32 × Int32 × (Nat → Int32) × (Nat → Int32) × (Nat → Int32)} (F : Nat) (a1 : Int32) (t_now_pressure : Int32) (t_now_wells : Int32) (t_now_kind : Nat → Int32) (t_now_wanted : Nat → Int32) (K14 : Int32 → Int32 → Int32 → Int32 → (Nat → Int32) → (Nat → Int32) → (Nat → Int32) → Option (Int32 × Int32 × Int32 × (Nat → Int32) × (Nat → Int32) × (Nat → Int32))) (C : zC p s m args c meth cX4_swaps 5 RX4 wsX4_swaps E A) (hr : meth.sig.returnType = some .int) (hK14 : ∀ (v2 : Int32) (v3 : Int32) (t_bads : Int32) (t_now_leftOver : Int32) (t_now_hours : Nat → Int32) (t_now_ahead : Nat → Int32) (t_now_gets : Nat → Int32), K14 v2 v3 t_bads t_now_leftOver t_now_hours t_now_ahead t_now_gets = some o → zG p l e rm_X4_swaps s m args below meth c 5 E A 0 0 (MQ below (zQ E A (some (.int o.1)) [(q_t, .inr (3, [.ref q_t_now, .ref q_t_images, .ref q_t_search, .ref q_t_reader, .int t_above, .int t_below, .int o.2.1, .int t_nos, .int t_fulls])), (q_t_now, .inr (0, [.int t_now_pressure, .int t_now_day, .int t_now_wells, .int t_now_lefts, .int t_now_notes, .int t_now_undos, .ref q_t_now_kind, .ref q_t_now_wanted, .ref q_t_now_hours, .ref q_t_now_had, .ref q_t_now_due, .ref q_t_now_leftHour, .ref q_t_now_leftPressure, .ref q_t_now_note, .ref q_t_now_past, .ref q_t_now_ahead, .ref q_t_now_gets, .int o.2.2.1])), (q_t_now_hours, zI E 5 o.2.2.2.1), (q_t_now_ahead, zI E 5 o.2.2.2.2.1), (q_t_now_kind, zI E 5 t_now_kind), (q_t_now_wanted, zI E 5 t_now_wanted), (q_t_now_gets, zI E 5 o.2.2.2.2.2)]) args s 0 0 A) [(q_t, .inr (3, [.ref q_t_now, .ref q_t_images, .ref q_t_search, .ref q_t_reader, .int t_above, .int t_below, .int t_bads, .int t_nos, .int t_fulls])), (q_t_now, .inr (0, [.int t_now_pressure, .int t_now_day, .int t_now_wells, .int t_now_lefts, .int t_now_notes, .int t_now_undos, .ref q_t_now_kind, .ref q_t_now_wanted, .ref q_t_now_hours, .ref q_t_now_had, .ref q_t_now_due, .ref q_t_now_leftHour, .ref q_t_now_leftPressure, .ref q_t_now_note, .ref q_t_now_past, .ref q_t_now_ahead, .ref q_t_now_gets, .int t_now_leftOver])), (q_t_now_hours, zI E 5 t_now_hours), (q_t_now_ahead, zI E 5 t_now_ahead), (q_t_now_kind, zI E 5 t_now_kind), (q_t_now_wanted, zI E 5 t_now_wanted), (q_t_now_gets, zI E 5 t_now_gets)] 14 [(0, .ref q_t), (1, .int a1), (2, .int v2), (3, .int v3)] []) : ∀ (n : Nat) (v2 : Int32) (v3 : Int32) (v4 : Int32) (t_bads : Int32) (t_now_leftOver : Int32) (t_now_hours : Nat → Int32) (t_now_ahead : Nat → Int32) (t_now_gets : Nat → Int32), f_X4_swaps_b30 F a1 t_now_pressure t_now_wells t_now_kind t_now_wanted K14 n v2 v3 v4 t_bads t_now_leftOver t_now_hours t_now_ahead t_now_gets = some o → zG p l e rm_X4_swaps s m args below meth c 5 E A 0 0 (MQ below (zQ E A (some (.int o.1)) [(q_t, .inr (3, [.ref q_t_now, .ref q_t_images, .ref q_t_search, .ref q_t_reader, .int t_above, .int t_below, .int o.2.1, .int t_nos, .int t_fulls])), (q_t_now, .inr (0, [.int t_now_pressure, .int t_now_day, .int t_now_wells, .int t_now_lefts, .int t_now_notes, .int t_now_undos, .ref q_t_now_kind, .ref q_t_now_wanted, .ref q_t_now_hours, .ref q_t_now_had, .ref q_t_now_due, .ref q_t_now_leftHour, .ref q_t_now_leftPressure, .ref q_t_now_note, .ref q_t_now_past, .ref q_t_now_ahead, .ref q_t_now_gets, .int o.2.2.1])), (q_t_now_hours, zI E 5 o.2.2.2.1), (q_t_now_ahead, zI E 5 o.2.2.2.2.1), (q_t_now_kind, zI E 5 t_now_kind), (q_t_now_wanted, zI E 5 t_now_wanted), (q_t_now_gets, zI E 5 o.2.2.2.2.2)]) args s 0 0 A) [(q_t, .inr (3, [.ref q_t_now, .ref q_t_images, .ref q_t_search, .ref q_t_reader, .int t_above, .int t_below, .int t_bads, .int t_nos, .int t_fulls])), (q_t_now, .inr (0, [.int t_now_pressure, .int t_now_day, .int t_now_wells, .int t_now_lefts, .int t_now_notes, .int t_now_undos, .ref q_t_now_kind, .ref q_t_now_wanted, .ref q_t_now_hours, .ref q_t_now_had, .ref q_t_now_due, .ref q_t_now_leftHour, .ref q_t_now_leftPressure, .ref q_t_now_note, .ref q_t_now_past, .ref q_t_now_ahead, .ref q_t_now_gets, .int t_now_leftOver])), (q_t_now_hours, zI E 5 t_now_hours), (q_t_now_ahead, zI E 5 t_now_ahead), (q_t_now_kind, zI E 5 t_now_kind), (q_t_now_wanted, zI E 5 t_now_wanted), (q_t_now_gets, zI E 5 t_now_gets)] 30 [(0, .ref q_t), (1, .int a1), (2, .int v2), (3, .int v3), (4, .int v4)] [] := by
  intro n
  induction n with
  | zero =>
    intro v2 v3 v4 t_bads t_now_leftOver t_now_hours t_now_ahead t_now_gets h
    rw [f_X4_swaps_b30] at h
    cases h
  | succ n ih =>
    intro v2 v3 v4 t_bads t_now_leftOver t_now_hours t_now_ahead t_now_gets h
    rw [f_X4_swaps_b30] at h
    refine z_iload C dX4_swaps_30 4 rfl ?_
    refine z_aload_n C dX4_swaps_32 rfl 0 rfl ?_
    refine z_get C inT_X4 0 rfl rfl 0 (by decide) rfl (mc W_226) rfl dX4_swaps_33 ?_
    refine z_get C inT_X1 1 rfl rfl 2 (by decide) rfl (mc W_88) rfl dX4_swaps_36 ?_
    refine z_icmp_ge (tgt := 77) C dX4_swaps_39 (by decide) (fun c => ?_) (fun c => ?_)
    · replace h := (if_pos c).symm.trans h
      refine z_iinc (v := v3 + (1 : Int32)) (L' := [(3, .int (v3 + (1 : Int32))), (0, .ref q_t), (1, .int a1), (2, .int v2), (4, .int v4)]) C dX4_swaps_77 3 rfl rfl (by decide) rfl ?_
      refine z_goto (tgt := 14) C dX4_swaps_80 (by decide) ?_
      refine z_sub [1, 2, 3, 0] (L' := [(0, .ref q_t), (1, .int a1), (2, .int v2), (3, .int (v3 + (1 : Int32)))]) rfl ?_
      exact hK14 v2 (v3 + (1 : Int32)) t_bads t_now_leftOver t_now_hours t_now_ahead t_now_gets h
    · replace h := (if_neg c).symm.trans h
      refine z_aload_n C dX4_swaps_42 rfl 0 rfl ?_
      refine z_iload_n C dX4_swaps_43 rfl 3 rfl ?_
      refine z_iload C dX4_swaps_44 4 rfl ?_
      obtain ⟨o3, ho4, h⟩ := bnd_some h
      refine z_callV (wc := [(q_t, .inr (3, [.ref q_t_now, .ref q_t_images, .ref q_t_search, .ref q_t_reader, .int t_above, .int t_below, .int t_bads, .int t_nos, .int t_fulls])), (q_t_now, .inr (0, [.int t_now_pressure, .int t_now_day, .int t_now_wells, .int t_now_lefts, .int t_now_notes, .int t_now_undos, .ref q_t_now_kind, .ref q_t_now_wanted, .ref q_t_now_hours, .ref q_t_now_had, .ref q_t_now_due, .ref q_t_now_leftHour, .ref q_t_now_leftPressure, .ref q_t_now_note, .ref q_t_now_past, .ref q_t_now_ahead, .ref q_t_now_gets, .int t_now_leftOver])), (q_t_now_hours, zI E 5 t_now_hours), (q_t_now_ahead, zI E 5 t_now_ahead), (q_t_now_kind, zI E 5 t_now_kind), (q_t_now_wanted, zI E 5 t_now_wanted), (q_t_now_gets, zI E 5 t_now_gets)]) (wr := []) (wc' := [(q_t, .inr (3, [.ref q_t_now, .ref q_t_images, .ref q_t_search, .ref q_t_reader, .int t_above, .int t_below, .int t_bads, .int t_nos, .int t_fulls])), (q_t_now, .inr (0, [.int t_now_pressure, .int t_now_day, .int t_now_wells, .int t_now_lefts, .int t_now_notes, .int t_now_undos, .ref q_t_now_kind, .ref q_t_now_wanted, .ref q_t_now_hours, .ref q_t_now_had, .ref q_t_now_due, .ref q_t_now_leftHour, .ref q_t_now_leftPressure, .ref q_t_now_note, .ref q_t_now_past, .ref q_t_now_ahead, .ref q_t_now_gets, .int o3.2.1])), (q_t_now_hours, zI E 5 o3.2.2.1), (q_t_now_ahead, zI E 5 o3.2.2.2.1), (q_t_now_kind, zI E 5 t_now_kind), (q_t_now_wanted, zI E 5 t_now_wanted), (q_t_now_gets, zI E 5 o3.2.2.2.2)]) (ws2 := [(q_t, .inr (3, [.ref q_t_now, .ref q_t_images, .ref q_t_search, .ref q_t_reader, .int t_above, .int t_below, .int t_bads, .int t_nos, .int t_fulls])), (q_t_now, .inr (0, [.int t_now_pressure, .int t_now_day, .int t_now_wells, .int t_now_lefts, .int t_now_notes, .int t_now_undos, .ref q_t_now_kind, .ref q_t_now_wanted, .ref q_t_now_hours, .ref q_t_now_had, .ref q_t_now_due, .ref q_t_now_leftHour, .ref q_t_now_leftPressure, .ref q_t_now_note, .ref q_t_now_past, .ref q_t_now_ahead, .ref q_t_now_gets, .int o3.2.1])), (q_t_now_hours, zI E 5 o3.2.2.1), (q_t_now_ahead, zI E 5 o3.2.2.2.1), (q_t_now_kind, zI E 5 t_now_kind), (q_t_now_wanted, zI E 5 t_now_wanted), (q_t_now_gets, zI E 5 o3.2.2.2.2)]) (As := [.int v3, .int v4]) (st2 := [.int o3.1]) C [0, 1, 2, 3, 4, 5, 6] [] [0, 1, 2, 3, 4, 5, 6] rfl rfl rfl rfl (by decide) rfl rfl (c_X4_bothWouldSwap F ho4) (goodVT consT W_583 W_585 W_24 W_58 W_586) rfl rfl rfl hd_X4_bothWouldSwap ⟨Nat.le_of_ble_eq_true rfl, Nat.le_of_ble_eq_true rfl⟩ rfl rfl rfl (j := 0) rfl rfl rfl (Nat.le_of_ble_eq_true rfl) dX4_swaps_46 ⟨Nat.zero_le _, Nat.zero_le _⟩ ?_
      refine z_if_ne (tgt := 55) C dX4_swaps_49 (by decide) (fun c => ?_) (fun c => ?_)
      · replace h := (if_neg c).symm.trans h
        refine z_iload_n C dX4_swaps_55 rfl 2 rfl ?_
        refine z_iload_n C dX4_swaps_56 rfl 1 rfl ?_
        refine z_icmp_ne (tgt := 68) C dX4_swaps_57 (by decide) (fun c => ?_) (fun c => ?_)
        · replace h := (if_neg c).symm.trans h
          refine z_iinc (v := v2 + (1 : Int32)) (L' := [(2, .int (v2 + (1 : Int32))), (0, .ref q_t), (1, .int a1), (3, .int v3), (4, .int v4)]) C dX4_swaps_68 2 rfl rfl (by decide) rfl ?_
          refine z_sub [1, 2, 0, 3, 4] (L' := [(0, .ref q_t), (1, .int a1), (2, .int (v2 + (1 : Int32))), (3, .int v3), (4, .int v4)]) rfl ?_
          exact (l_X4_swaps_b71 F a1 t_now_pressure t_now_wells t_now_kind t_now_wanted (f_X4_swaps_b30 F a1 t_now_pressure t_now_wells t_now_kind t_now_wanted K14 n) C hr ih) (v2 + (1 : Int32)) v3 v4 t_bads o3.2.1 o3.2.2.1 o3.2.2.2.1 o3.2.2.2.2 h
        · replace h := (if_pos c).symm.trans h
          refine z_bipush (v := (10 : Int32)) C dX4_swaps_60 (by decide) ?_
          refine z_iload_n C dX4_swaps_62 rfl 3 rfl ?_
          refine z_imul C dX4_swaps_63 ?_
          refine z_iload C dX4_swaps_64 4 rfl ?_
          refine z_iadd C dX4_swaps_66 ?_
          obtain rfl := Option.some.inj h
          exact z_iret (v := ((10 : Int32) * v3) + v4) C hr dX4_swaps_67
      · replace h := (if_pos c).symm.trans h
        refine z_goto (tgt := 71) C dX4_swaps_52 (by decide) ?_
        exact (l_X4_swaps_b71 F a1 t_now_pressure t_now_wells t_now_kind t_now_wanted (f_X4_swaps_b30 F a1 t_now_pressure t_now_wells t_now_kind t_now_wanted K14 n) C hr ih) v2 v3 v4 t_bads o3.2.1 o3.2.2.1 o3.2.2.2.1 o3.2.2.2.2 h
set_option maxRecDepth 100000 in
set_option maxHeartbeats 4000000 in
theorem l_X4_swaps_b14 {p : Program} {l : Launch} {e : Env} {s : State} {m : MethodId} {args : Array Value} {below : List Frame} {meth : Method} {c : Code} {E : zE} {A : Nat → Prop} {q_t q_t_now q_t_now_hours q_t_now_ahead q_t_now_kind q_t_now_wanted q_t_now_gets q_t_images q_t_search q_t_reader q_t_now_had q_t_now_due q_t_now_leftHour q_t_now_leftPressure q_t_now_note q_t_now_past : Nat} {t_above : Int32} {t_below : Int32} {t_nos : Int32} {t_fulls : Int32} {t_now_day : Int32} {t_now_lefts : Int32} {t_now_notes : Int32} {t_now_undos : Int32} {o : Int32 × Int32 × Int32 × (Nat → Int32) × (Nat → Int32) × (Nat → Int32)} (F : Nat) (a1 : Int32) (t_now_pressure : Int32) (t_now_wells : Int32) (t_now_kind : Nat → Int32) (t_now_wanted : Nat → Int32) (C : zC p s m args c meth cX4_swaps 5 RX4 wsX4_swaps E A) (hr : meth.sig.returnType = some .int) : ∀ (n : Nat) (v2 : Int32) (v3 : Int32) (t_bads : Int32) (t_now_leftOver : Int32) (t_now_hours : Nat → Int32) (t_now_ahead : Nat → Int32) (t_now_gets : Nat → Int32), f_X4_swaps_b14 F a1 t_now_pressure t_now_wells t_now_kind t_now_wanted n v2 v3 t_bads t_now_leftOver t_now_hours t_now_ahead t_now_gets = some o → zG p l e rm_X4_swaps s m args below meth c 5 E A 0 0 (MQ below (zQ E A (some (.int o.1)) [(q_t, .inr (3, [.ref q_t_now, .ref q_t_images, .ref q_t_search, .ref q_t_reader, .int t_above, .int t_below, .int o.2.1, .int t_nos, .int t_fulls])), (q_t_now, .inr (0, [.int t_now_pressure, .int t_now_day, .int t_now_wells, .int t_now_lefts, .int t_now_notes, .int t_now_undos, .ref q_t_now_kind, .ref q_t_now_wanted, .ref q_t_now_hours, .ref q_t_now_had, .ref q_t_now_due, .ref q_t_now_leftHour, .ref q_t_now_leftPressure, .ref q_t_now_note, .ref q_t_now_past, .ref q_t_now_ahead, .ref q_t_now_gets, .int o.2.2.1])), (q_t_now_hours, zI E 5 o.2.2.2.1), (q_t_now_ahead, zI E 5 o.2.2.2.2.1), (q_t_now_kind, zI E 5 t_now_kind), (q_t_now_wanted, zI E 5 t_now_wanted), (q_t_now_gets, zI E 5 o.2.2.2.2.2)]) args s 0 0 A) [(q_t, .inr (3, [.ref q_t_now, .ref q_t_images, .ref q_t_search, .ref q_t_reader, .int t_above, .int t_below, .int t_bads, .int t_nos, .int t_fulls])), (q_t_now, .inr (0, [.int t_now_pressure, .int t_now_day, .int t_now_wells, .int t_now_lefts, .int t_now_notes, .int t_now_undos, .ref q_t_now_kind, .ref q_t_now_wanted, .ref q_t_now_hours, .ref q_t_now_had, .ref q_t_now_due, .ref q_t_now_leftHour, .ref q_t_now_leftPressure, .ref q_t_now_note, .ref q_t_now_past, .ref q_t_now_ahead, .ref q_t_now_gets, .int t_now_leftOver])), (q_t_now_hours, zI E 5 t_now_hours), (q_t_now_ahead, zI E 5 t_now_ahead), (q_t_now_kind, zI E 5 t_now_kind), (q_t_now_wanted, zI E 5 t_now_wanted), (q_t_now_gets, zI E 5 t_now_gets)] 14 [(0, .ref q_t), (1, .int a1), (2, .int v2), (3, .int v3)] [] := by
  intro n
  induction n with
  | zero =>
    intro v2 v3 t_bads t_now_leftOver t_now_hours t_now_ahead t_now_gets h
    rw [f_X4_swaps_b14] at h
    cases h
  | succ n ih =>
    intro v2 v3 t_bads t_now_leftOver t_now_hours t_now_ahead t_now_gets h
    rw [f_X4_swaps_b14] at h
    refine z_iload_n C dX4_swaps_14 rfl 3 rfl ?_
    refine z_aload_n C dX4_swaps_15 rfl 0 rfl ?_
    refine z_get C inT_X4 0 rfl rfl 0 (by decide) rfl (mc W_226) rfl dX4_swaps_16 ?_
    refine z_get C inT_X1 1 rfl rfl 2 (by decide) rfl (mc W_88) rfl dX4_swaps_19 ?_
    refine z_icmp_ge (tgt := 83) C dX4_swaps_22 (by decide) (fun c => ?_) (fun c => ?_)
    · replace h := (if_pos c).symm.trans h
      refine z_iload_n C dX4_swaps_83 rfl 1 rfl ?_
      refine z_iconst (v := (-1 : Int32)) C dX4_swaps_84 (by decide) ?_
      refine z_icmp_ne (tgt := 92) C dX4_swaps_85 (by decide) (fun c => ?_) (fun c => ?_)
      · replace h := (if_neg c).symm.trans h
        refine z_bipush (v := (-5 : Int32)) C dX4_swaps_92 (by decide) ?_
        obtain rfl := Option.some.inj h
        exact z_iret (v := (-5 : Int32)) C hr dX4_swaps_94
      · replace h := (if_pos c).symm.trans h
        refine z_iload_n C dX4_swaps_88 rfl 2 rfl ?_
        refine z_goto (tgt := 94) C dX4_swaps_89 (by decide) ?_
        obtain rfl := Option.some.inj h
        exact z_iret (v := v2) C hr dX4_swaps_94
    · replace h := (if_neg c).symm.trans h
      refine z_iload_n C dX4_swaps_25 rfl 3 rfl ?_
      refine z_iconst (v := (1 : Int32)) C dX4_swaps_26 (by decide) ?_
      refine z_iadd C dX4_swaps_27 ?_
      refine z_istore (L' := [(4, .int (v3 + (1 : Int32))), (0, .ref q_t), (1, .int a1), (2, .int v2), (3, .int v3)]) C dX4_swaps_28 (by decide) rfl ?_
      refine z_sub [1, 2, 3, 4, 0] (L' := [(0, .ref q_t), (1, .int a1), (2, .int v2), (3, .int v3), (4, .int (v3 + (1 : Int32)))]) rfl ?_
      exact (l_X4_swaps_b30 F a1 t_now_pressure t_now_wells t_now_kind t_now_wanted (f_X4_swaps_b14 F a1 t_now_pressure t_now_wells t_now_kind t_now_wanted n) C hr ih F) v2 v3 (v3 + (1 : Int32)) t_bads t_now_leftOver t_now_hours t_now_ahead t_now_gets h
set_option maxRecDepth 100000 in
set_option maxHeartbeats 4000000 in
theorem c_X4_swaps {l : Launch} {E : zE} {q_t q_t_now q_t_now_hours q_t_now_ahead q_t_now_kind q_t_now_wanted q_t_now_gets q_t_images q_t_search q_t_reader q_t_now_had q_t_now_due q_t_now_leftHour q_t_now_leftPressure q_t_now_note q_t_now_past : Nat} {t_above : Int32} {t_below : Int32} {t_nos : Int32} {t_fulls : Int32} {t_now_day : Int32} {t_now_lefts : Int32} {t_now_notes : Int32} {t_now_undos : Int32} {a1 : Int32} {t_now_pressure : Int32} {t_now_wells : Int32} {t_now_kind : Nat → Int32} {t_now_wanted : Nat → Int32} {t_bads : Int32} {t_now_leftOver : Int32} {t_now_hours : Nat → Int32} {t_now_ahead : Nat → Int32} {t_now_gets : Nat → Int32} {o : Int32 × Int32 × Int32 × (Nat → Int32) × (Nat → Int32) × (Nat → Int32)} (F : Nat) (h : f_X4_swaps F a1 t_now_pressure t_now_wells t_now_kind t_now_wanted t_bads t_now_leftOver t_now_hours t_now_ahead t_now_gets = some o) : zM l yX4_swaps wsX4_swaps rm_X4_swaps E [.ref q_t, .int a1] [(q_t, .inr (3, [.ref q_t_now, .ref q_t_images, .ref q_t_search, .ref q_t_reader, .int t_above, .int t_below, .int t_bads, .int t_nos, .int t_fulls])), (q_t_now, .inr (0, [.int t_now_pressure, .int t_now_day, .int t_now_wells, .int t_now_lefts, .int t_now_notes, .int t_now_undos, .ref q_t_now_kind, .ref q_t_now_wanted, .ref q_t_now_hours, .ref q_t_now_had, .ref q_t_now_due, .ref q_t_now_leftHour, .ref q_t_now_leftPressure, .ref q_t_now_note, .ref q_t_now_past, .ref q_t_now_ahead, .ref q_t_now_gets, .int t_now_leftOver])), (q_t_now_hours, zI E 5 t_now_hours), (q_t_now_ahead, zI E 5 t_now_ahead), (q_t_now_kind, zI E 5 t_now_kind), (q_t_now_wanted, zI E 5 t_now_wanted), (q_t_now_gets, zI E 5 t_now_gets)] (some (.int o.1)) [(q_t, .inr (3, [.ref q_t_now, .ref q_t_images, .ref q_t_search, .ref q_t_reader, .int t_above, .int t_below, .int o.2.1, .int t_nos, .int t_fulls])), (q_t_now, .inr (0, [.int t_now_pressure, .int t_now_day, .int t_now_wells, .int t_now_lefts, .int t_now_notes, .int t_now_undos, .ref q_t_now_kind, .ref q_t_now_wanted, .ref q_t_now_hours, .ref q_t_now_had, .ref q_t_now_due, .ref q_t_now_leftHour, .ref q_t_now_leftPressure, .ref q_t_now_note, .ref q_t_now_past, .ref q_t_now_ahead, .ref q_t_now_gets, .int o.2.2.1])), (q_t_now_hours, zI E 5 o.2.2.2.1), (q_t_now_ahead, zI E 5 o.2.2.2.2.1), (q_t_now_kind, zI E 5 t_now_kind), (q_t_now_wanted, zI E 5 t_now_wanted), (q_t_now_gets, zI E 5 o.2.2.2.2.2)] := by
  refine zM.of (cc := cX4_swaps) (maxL := 5) (ret := (some .int)) (by decide +kernel) rfl (Nat.le_of_ble_eq_true rfl) ?_
  intro p e s m args below meth c A C hr
  have C : zC p s m args c meth cX4_swaps 5 RX4 wsX4_swaps E A := C
  rw [f_X4_swaps] at h
  refine z_iload_n C dX4_swaps_0 rfl 1 rfl ?_
  refine z_iconst (v := (-1 : Int32)) C dX4_swaps_1 (by decide) ?_
  refine z_icmp_ge (tgt := 10) C dX4_swaps_2 (by decide) (fun c => ?_) (fun c => ?_)
  · replace h := (if_pos c).symm.trans h
    refine z_iconst (v := (0 : Int32)) C dX4_swaps_10 (by decide) ?_
    refine z_istore_n (L' := [(2, .int (0 : Int32)), (0, .ref q_t), (1, .int a1)]) C dX4_swaps_11 rfl (by decide) rfl ?_
    refine z_iconst (v := (0 : Int32)) C dX4_swaps_12 (by decide) ?_
    refine z_istore_n (L' := [(3, .int (0 : Int32)), (2, .int (0 : Int32)), (0, .ref q_t), (1, .int a1)]) C dX4_swaps_13 rfl (by decide) rfl ?_
    refine z_sub [2, 3, 1, 0] (L' := [(0, .ref q_t), (1, .int a1), (2, .int (0 : Int32)), (3, .int (0 : Int32))]) rfl ?_
    exact (l_X4_swaps_b14 F a1 t_now_pressure t_now_wells t_now_kind t_now_wanted C hr F) (0 : Int32) (0 : Int32) t_bads t_now_leftOver t_now_hours t_now_ahead t_now_gets h
  · replace h := (if_neg c).symm.trans h
    refine z_aload_n C dX4_swaps_5 rfl 0 rfl ?_
    obtain ⟨o1, ho2, h⟩ := bnd_some h
    refine z_callV (wc := [(q_t, .inr (3, [.ref q_t_now, .ref q_t_images, .ref q_t_search, .ref q_t_reader, .int t_above, .int t_below, .int t_bads, .int t_nos, .int t_fulls]))]) (wr := [(q_t_now, .inr (0, [.int t_now_pressure, .int t_now_day, .int t_now_wells, .int t_now_lefts, .int t_now_notes, .int t_now_undos, .ref q_t_now_kind, .ref q_t_now_wanted, .ref q_t_now_hours, .ref q_t_now_had, .ref q_t_now_due, .ref q_t_now_leftHour, .ref q_t_now_leftPressure, .ref q_t_now_note, .ref q_t_now_past, .ref q_t_now_ahead, .ref q_t_now_gets, .int t_now_leftOver])), (q_t_now_hours, zI E 5 t_now_hours), (q_t_now_ahead, zI E 5 t_now_ahead), (q_t_now_kind, zI E 5 t_now_kind), (q_t_now_wanted, zI E 5 t_now_wanted), (q_t_now_gets, zI E 5 t_now_gets)]) (wc' := [(q_t, .inr (3, [.ref q_t_now, .ref q_t_images, .ref q_t_search, .ref q_t_reader, .int t_above, .int t_below, .int o1.2, .int t_nos, .int t_fulls]))]) (ws2 := [(q_t, .inr (3, [.ref q_t_now, .ref q_t_images, .ref q_t_search, .ref q_t_reader, .int t_above, .int t_below, .int o1.2, .int t_nos, .int t_fulls])), (q_t_now, .inr (0, [.int t_now_pressure, .int t_now_day, .int t_now_wells, .int t_now_lefts, .int t_now_notes, .int t_now_undos, .ref q_t_now_kind, .ref q_t_now_wanted, .ref q_t_now_hours, .ref q_t_now_had, .ref q_t_now_due, .ref q_t_now_leftHour, .ref q_t_now_leftPressure, .ref q_t_now_note, .ref q_t_now_past, .ref q_t_now_ahead, .ref q_t_now_gets, .int t_now_leftOver])), (q_t_now_hours, zI E 5 t_now_hours), (q_t_now_ahead, zI E 5 t_now_ahead), (q_t_now_kind, zI E 5 t_now_kind), (q_t_now_wanted, zI E 5 t_now_wanted), (q_t_now_gets, zI E 5 t_now_gets)]) (As := []) (st2 := [.int o1.1]) C [0] [1, 2, 3, 4, 5, 6] [6, 0, 1, 2, 3, 4, 5] rfl rfl rfl rfl (by decide) rfl rfl (c_X4_badHere F ho2) (goodVT consT W_469 W_471 W_15 W_58 W_472) rfl rfl rfl hd_X4_badHere ⟨Nat.le_of_ble_eq_true rfl, Nat.le_of_ble_eq_true rfl⟩ rfl rfl rfl (j := 0) rfl rfl rfl (Nat.le_of_ble_eq_true rfl) dX4_swaps_6 ⟨Nat.zero_le _, Nat.zero_le _⟩ ?_
    obtain rfl := Option.some.inj h
    exact z_iret (v := o1.1) C hr dX4_swaps_9
def rm_X4_toWell : Room := { frames := 0, cells := 0, slots := 0, locals := 0 }
theorem hd_X4_toWell : yX4_toWell.cls ≠ "java/lang/invoke/MethodHandle" ∧ yX4_toWell.cls ≠ "java/lang/invoke/VarHandle" ∧ (parseMethodDescriptor yX4_toWell.desc).map (fun d => d.parameters.length) = some 4 := by decide +kernel
abbrev wsX4_toWell : List Cond := .code yX4_toWell cX4_toWell 4 (some .int) :: WALL
set_option maxRecDepth 100000 in
set_option maxHeartbeats 4000000 in
theorem c_X4_toWell {l : Launch} {E : zE} {a0 : Int32} {a1 : Int32} {a2 : Int32} {a3 : Int32} {o : Int32} (F : Nat) (h : f_X4_toWell F a0 a1 a2 a3 = some o) : zM l yX4_toWell wsX4_toWell rm_X4_toWell E [.int a0, .int a1, .int a2, .int a3] [] (some (.int o)) [] := by
  refine zM.of (cc := cX4_toWell) (maxL := 4) (ret := (some .int)) (by decide +kernel) rfl (Nat.le_of_ble_eq_true rfl) ?_
  intro p e s m args below meth c A C hr
  have C : zC p s m args c meth cX4_toWell 4 RX4 wsX4_toWell E A := C
  rw [f_X4_toWell] at h
  refine z_iload_n C dX4_toWell_0 rfl 1 rfl ?_
  refine z_if_ne (tgt := 6) C dX4_toWell_1 (by decide) (fun c => ?_) (fun c => ?_)
  · replace h := (if_neg c).symm.trans h
    refine z_iload_n C dX4_toWell_6 rfl 0 rfl ?_
    refine z_if_eq (tgt := 21) C dX4_toWell_7 (by decide) (fun c => ?_) (fun c => ?_)
    · replace h := (if_pos c).symm.trans h
      refine z_iload_n C dX4_toWell_21 rfl 2 rfl ?_
      obtain rfl := Option.some.inj h
      exact z_iret (v := a2) C hr dX4_toWell_22
    · replace h := (if_neg c).symm.trans h
      refine z_iload_n C dX4_toWell_10 rfl 3 rfl ?_
      refine z_if_eq (tgt := 21) C dX4_toWell_11 (by decide) (fun c => ?_) (fun c => ?_)
      · replace h := (if_pos c).symm.trans h
        refine z_iload_n C dX4_toWell_21 rfl 2 rfl ?_
        obtain rfl := Option.some.inj h
        exact z_iret (v := a2) C hr dX4_toWell_22
      · replace h := (if_neg c).symm.trans h
        refine z_iload_n C dX4_toWell_14 rfl 2 rfl ?_
        refine z_bipush (v := (20 : Int32)) C dX4_toWell_15 (by decide) ?_
        refine z_isub C dX4_toWell_17 ?_
        refine z_goto (tgt := 22) C dX4_toWell_18 (by decide) ?_
        obtain rfl := Option.some.inj h
        exact z_iret (v := a2 - (20 : Int32)) C hr dX4_toWell_22
  · replace h := (if_pos c).symm.trans h
    refine z_iconst (v := (0 : Int32)) C dX4_toWell_4 (by decide) ?_
    obtain rfl := Option.some.inj h
    exact z_iret (v := (0 : Int32)) C hr dX4_toWell_5
def rm_X4_toInspector : Room := { frames := 0, cells := 0, slots := 0, locals := 0 }
theorem hd_X4_toInspector : yX4_toInspector.cls ≠ "java/lang/invoke/MethodHandle" ∧ yX4_toInspector.cls ≠ "java/lang/invoke/VarHandle" ∧ (parseMethodDescriptor yX4_toInspector.desc).map (fun d => d.parameters.length) = some 3 := by decide +kernel
abbrev wsX4_toInspector : List Cond := .code yX4_toInspector cX4_toInspector 3 (some .int) :: WALL
set_option maxRecDepth 100000 in
set_option maxHeartbeats 4000000 in
theorem c_X4_toInspector {l : Launch} {E : zE} {a0 : Int32} {a1 : Int32} {a2 : Int32} {o : Int32} (F : Nat) (h : f_X4_toInspector F a0 a1 a2 = some o) : zM l yX4_toInspector wsX4_toInspector rm_X4_toInspector E [.int a0, .int a1, .int a2] [] (some (.int o)) [] := by
  refine zM.of (cc := cX4_toInspector) (maxL := 3) (ret := (some .int)) (by decide +kernel) rfl (Nat.le_of_ble_eq_true rfl) ?_
  intro p e s m args below meth c A C hr
  have C : zC p s m args c meth cX4_toInspector 3 RX4 wsX4_toInspector E A := C
  rw [f_X4_toInspector] at h
  refine z_iload_n C dX4_toInspector_0 rfl 0 rfl ?_
  refine z_if_ne (tgt := 6) C dX4_toInspector_1 (by decide) (fun c => ?_) (fun c => ?_)
  · replace h := (if_neg c).symm.trans h
    refine z_iload_n C dX4_toInspector_6 rfl 1 rfl ?_
    refine z_if_eq (tgt := 18) C dX4_toInspector_7 (by decide) (fun c => ?_) (fun c => ?_)
    · replace h := (if_pos c).symm.trans h
      refine z_iconst (v := (-1 : Int32)) C dX4_toInspector_18 (by decide) ?_
      obtain rfl := Option.some.inj h
      exact z_iret (v := (-1 : Int32)) C hr dX4_toInspector_19
    · replace h := (if_neg c).symm.trans h
      refine z_iload_n C dX4_toInspector_10 rfl 2 rfl ?_
      refine z_if_eq (tgt := 18) C dX4_toInspector_11 (by decide) (fun c => ?_) (fun c => ?_)
      · replace h := (if_pos c).symm.trans h
        refine z_iconst (v := (-1 : Int32)) C dX4_toInspector_18 (by decide) ?_
        obtain rfl := Option.some.inj h
        exact z_iret (v := (-1 : Int32)) C hr dX4_toInspector_19
      · replace h := (if_neg c).symm.trans h
        refine z_iconst (v := (5 : Int32)) C dX4_toInspector_14 (by decide) ?_
        refine z_goto (tgt := 19) C dX4_toInspector_15 (by decide) ?_
        obtain rfl := Option.some.inj h
        exact z_iret (v := (5 : Int32)) C hr dX4_toInspector_19
  · replace h := (if_pos c).symm.trans h
    refine z_iconst (v := (0 : Int32)) C dX4_toInspector_4 (by decide) ?_
    obtain rfl := Option.some.inj h
    exact z_iret (v := (0 : Int32)) C hr dX4_toInspector_5

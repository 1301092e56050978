def rm_X1_copyFrom : Room := { frames := 1, cells := 0, slots := 0, locals := 40 }
theorem hd_X1_copyFrom : yX1_copyFrom.cls = yX1_copyFrom.cls ∧ yX1_copyFrom.cls ≠ "java/lang/invoke/MethodHandle" ∧ yX1_copyFrom.cls ≠ "java/lang/invoke/VarHandle" ∧ (parseMethodDescriptor yX1_copyFrom.desc).map (fun d => d.parameters.length) = some 1 := by decide +kernel
abbrev wsX1_copyFrom : List Cond := .code yX1_copyFrom cX1_copyFrom 2 none :: WALL
set_option maxRecDepth 100000 in
set_option maxHeartbeats 4000000 in
theorem c_X1_copyFrom {l : Launch} {E : zE} {q_t q_p1 q_p1_kind q_t_kind q_p1_wanted q_t_wanted q_p1_hours q_t_hours q_p1_had q_t_had q_p1_due q_t_due q_p1_leftHour q_t_leftHour q_p1_leftPressure q_t_leftPressure q_p1_note q_t_note q_p1_past q_t_past q_t_ahead q_t_gets q_p1_ahead q_p1_gets : Nat} {t_leftOver : Int32} {p1_leftOver : Int32} {p1_pressure : Int32} {p1_day : Int32} {p1_wells : Int32} {p1_lefts : Int32} {p1_notes : Int32} {p1_undos : Int32} {p1_kind : Nat → Int32} {p1_wanted : Nat → Int32} {p1_hours : Nat → Int32} {p1_had : Nat → Int32} {p1_due : Nat → Int32} {p1_leftHour : Nat → Int32} {p1_leftPressure : Nat → Int32} {p1_note : Nat → Int32} {p1_past : Nat → Int32} {t_pressure : Int32} {t_day : Int32} {t_wells : Int32} {t_lefts : Int32} {t_notes : Int32} {t_undos : Int32} {t_kind : Nat → Int32} {t_wanted : Nat → Int32} {t_hours : Nat → Int32} {t_had : Nat → Int32} {t_due : Nat → Int32} {t_leftHour : Nat → Int32} {t_leftPressure : Nat → Int32} {t_note : Nat → Int32} {t_past : Nat → Int32} {o : Int32 × Int32 × Int32 × Int32 × Int32 × Int32 × (Nat → Int32) × (Nat → Int32) × (Nat → Int32) × (Nat → Int32) × (Nat → Int32) × (Nat → Int32) × (Nat → Int32) × (Nat → Int32) × (Nat → Int32)} (F : Nat) (h : f_X1_copyFrom F p1_pressure p1_day p1_wells p1_lefts p1_notes p1_undos p1_kind p1_wanted p1_hours p1_had p1_due p1_leftHour p1_leftPressure p1_note p1_past t_pressure t_day t_wells t_lefts t_notes t_undos t_kind t_wanted t_hours t_had t_due t_leftHour t_leftPressure t_note t_past = some o) : zM l yX1_copyFrom wsX1_copyFrom rm_X1_copyFrom E [.ref q_t, .ref q_p1] [(q_t, .inr (0, [.int t_pressure, .int t_day, .int t_wells, .int t_lefts, .int t_notes, .int t_undos, .ref q_t_kind, .ref q_t_wanted, .ref q_t_hours, .ref q_t_had, .ref q_t_due, .ref q_t_leftHour, .ref q_t_leftPressure, .ref q_t_note, .ref q_t_past, .ref q_t_ahead, .ref q_t_gets, .int t_leftOver])), (q_p1, .inr (0, [.int p1_pressure, .int p1_day, .int p1_wells, .int p1_lefts, .int p1_notes, .int p1_undos, .ref q_p1_kind, .ref q_p1_wanted, .ref q_p1_hours, .ref q_p1_had, .ref q_p1_due, .ref q_p1_leftHour, .ref q_p1_leftPressure, .ref q_p1_note, .ref q_p1_past, .ref q_p1_ahead, .ref q_p1_gets, .int p1_leftOver])), (q_p1_kind, zI E 5 p1_kind), (q_t_kind, zI E 5 t_kind), (q_p1_wanted, zI E 5 p1_wanted), (q_t_wanted, zI E 5 t_wanted), (q_p1_hours, zI E 5 p1_hours), (q_t_hours, zI E 5 t_hours), (q_p1_had, zI E 5 p1_had), (q_t_had, zI E 5 t_had), (q_p1_due, zI E 5 p1_due), (q_t_due, zI E 5 t_due), (q_p1_leftHour, zI E 4 p1_leftHour), (q_t_leftHour, zI E 4 t_leftHour), (q_p1_leftPressure, zI E 4 p1_leftPressure), (q_t_leftPressure, zI E 4 t_leftPressure), (q_p1_note, zI E 36 p1_note), (q_t_note, zI E 36 t_note), (q_p1_past, zI E 176 p1_past), (q_t_past, zI E 176 t_past)] none [(q_t, .inr (0, [.int o.1, .int o.2.1, .int o.2.2.1, .int o.2.2.2.1, .int o.2.2.2.2.1, .int o.2.2.2.2.2.1, .ref q_t_kind, .ref q_t_wanted, .ref q_t_hours, .ref q_t_had, .ref q_t_due, .ref q_t_leftHour, .ref q_t_leftPressure, .ref q_t_note, .ref q_t_past, .ref q_t_ahead, .ref q_t_gets, .int t_leftOver])), (q_p1, .inr (0, [.int p1_pressure, .int p1_day, .int p1_wells, .int p1_lefts, .int p1_notes, .int p1_undos, .ref q_p1_kind, .ref q_p1_wanted, .ref q_p1_hours, .ref q_p1_had, .ref q_p1_due, .ref q_p1_leftHour, .ref q_p1_leftPressure, .ref q_p1_note, .ref q_p1_past, .ref q_p1_ahead, .ref q_p1_gets, .int p1_leftOver])), (q_p1_kind, zI E 5 p1_kind), (q_t_kind, zI E 5 o.2.2.2.2.2.2.1), (q_p1_wanted, zI E 5 p1_wanted), (q_t_wanted, zI E 5 o.2.2.2.2.2.2.2.1), (q_p1_hours, zI E 5 p1_hours), (q_t_hours, zI E 5 o.2.2.2.2.2.2.2.2.1), (q_p1_had, zI E 5 p1_had), (q_t_had, zI E 5 o.2.2.2.2.2.2.2.2.2.1), (q_p1_due, zI E 5 p1_due), (q_t_due, zI E 5 o.2.2.2.2.2.2.2.2.2.2.1), (q_p1_leftHour, zI E 4 p1_leftHour), (q_t_leftHour, zI E 4 o.2.2.2.2.2.2.2.2.2.2.2.1), (q_p1_leftPressure, zI E 4 p1_leftPressure), (q_t_leftPressure, zI E 4 o.2.2.2.2.2.2.2.2.2.2.2.2.1), (q_p1_note, zI E 36 p1_note), (q_t_note, zI E 36 o.2.2.2.2.2.2.2.2.2.2.2.2.2.1), (q_p1_past, zI E 176 p1_past), (q_t_past, zI E 176 o.2.2.2.2.2.2.2.2.2.2.2.2.2.2)] := by
  refine zM.of (cc := cX1_copyFrom) (maxL := 2) (ret := none) (by decide +kernel) rfl (Nat.le_of_ble_eq_true rfl) ?_
  intro p e s m args below meth c A C hr
  have C : zC p s m args c meth cX1_copyFrom 2 RX1 wsX1_copyFrom E A := C
  rw [f_X1_copyFrom] at h
  refine z_aload_n C dX1_copyFrom_0 rfl 0 rfl ?_
  refine z_aload_n C dX1_copyFrom_1 rfl 1 rfl ?_
  refine z_get C inT_X1 1 rfl rfl 0 (by decide) rfl (mc W_80) rfl dX1_copyFrom_2 ?_
  refine z_put (ws' := [(q_t, .inr (0, [.int p1_pressure, .int t_day, .int t_wells, .int t_lefts, .int t_notes, .int t_undos, .ref q_t_kind, .ref q_t_wanted, .ref q_t_hours, .ref q_t_had, .ref q_t_due, .ref q_t_leftHour, .ref q_t_leftPressure, .ref q_t_note, .ref q_t_past, .ref q_t_ahead, .ref q_t_gets, .int t_leftOver])), (q_p1, .inr (0, [.int p1_pressure, .int p1_day, .int p1_wells, .int p1_lefts, .int p1_notes, .int p1_undos, .ref q_p1_kind, .ref q_p1_wanted, .ref q_p1_hours, .ref q_p1_had, .ref q_p1_due, .ref q_p1_leftHour, .ref q_p1_leftPressure, .ref q_p1_note, .ref q_p1_past, .ref q_p1_ahead, .ref q_p1_gets, .int p1_leftOver])), (q_p1_kind, zI E 5 p1_kind), (q_t_kind, zI E 5 t_kind), (q_p1_wanted, zI E 5 p1_wanted), (q_t_wanted, zI E 5 t_wanted), (q_p1_hours, zI E 5 p1_hours), (q_t_hours, zI E 5 t_hours), (q_p1_had, zI E 5 p1_had), (q_t_had, zI E 5 t_had), (q_p1_due, zI E 5 p1_due), (q_t_due, zI E 5 t_due), (q_p1_leftHour, zI E 4 p1_leftHour), (q_t_leftHour, zI E 4 t_leftHour), (q_p1_leftPressure, zI E 4 p1_leftPressure), (q_t_leftPressure, zI E 4 t_leftPressure), (q_p1_note, zI E 36 p1_note), (q_t_note, zI E 36 t_note), (q_p1_past, zI E 176 p1_past), (q_t_past, zI E 176 t_past)]) C inT_X1 tyX1 tyX1_ok nmX1 0 rfl rfl 0 (by decide) rfl (mc W_80) rfl rfl rfl (Nat.le_of_ble_eq_true rfl) rfl dX1_copyFrom_5 ?_
  refine z_aload_n C dX1_copyFrom_8 rfl 0 rfl ?_
  refine z_aload_n C dX1_copyFrom_9 rfl 1 rfl ?_
  refine z_get C inT_X1 1 rfl rfl 1 (by decide) rfl (mc W_84) rfl dX1_copyFrom_10 ?_
  refine z_put (ws' := [(q_t, .inr (0, [.int p1_pressure, .int p1_day, .int t_wells, .int t_lefts, .int t_notes, .int t_undos, .ref q_t_kind, .ref q_t_wanted, .ref q_t_hours, .ref q_t_had, .ref q_t_due, .ref q_t_leftHour, .ref q_t_leftPressure, .ref q_t_note, .ref q_t_past, .ref q_t_ahead, .ref q_t_gets, .int t_leftOver])), (q_p1, .inr (0, [.int p1_pressure, .int p1_day, .int p1_wells, .int p1_lefts, .int p1_notes, .int p1_undos, .ref q_p1_kind, .ref q_p1_wanted, .ref q_p1_hours, .ref q_p1_had, .ref q_p1_due, .ref q_p1_leftHour, .ref q_p1_leftPressure, .ref q_p1_note, .ref q_p1_past, .ref q_p1_ahead, .ref q_p1_gets, .int p1_leftOver])), (q_p1_kind, zI E 5 p1_kind), (q_t_kind, zI E 5 t_kind), (q_p1_wanted, zI E 5 p1_wanted), (q_t_wanted, zI E 5 t_wanted), (q_p1_hours, zI E 5 p1_hours), (q_t_hours, zI E 5 t_hours), (q_p1_had, zI E 5 p1_had), (q_t_had, zI E 5 t_had), (q_p1_due, zI E 5 p1_due), (q_t_due, zI E 5 t_due), (q_p1_leftHour, zI E 4 p1_leftHour), (q_t_leftHour, zI E 4 t_leftHour), (q_p1_leftPressure, zI E 4 p1_leftPressure), (q_t_leftPressure, zI E 4 t_leftPressure), (q_p1_note, zI E 36 p1_note), (q_t_note, zI E 36 t_note), (q_p1_past, zI E 176 p1_past), (q_t_past, zI E 176 t_past)]) C inT_X1 tyX1 tyX1_ok nmX1 0 rfl rfl 1 (by decide) rfl (mc W_84) rfl rfl rfl (Nat.le_of_ble_eq_true rfl) rfl dX1_copyFrom_13 ?_
  refine z_aload_n C dX1_copyFrom_16 rfl 0 rfl ?_
  refine z_aload_n C dX1_copyFrom_17 rfl 1 rfl ?_
  refine z_get C inT_X1 1 rfl rfl 2 (by decide) rfl (mc W_86) rfl dX1_copyFrom_18 ?_
  refine z_put (ws' := [(q_t, .inr (0, [.int p1_pressure, .int p1_day, .int p1_wells, .int t_lefts, .int t_notes, .int t_undos, .ref q_t_kind, .ref q_t_wanted, .ref q_t_hours, .ref q_t_had, .ref q_t_due, .ref q_t_leftHour, .ref q_t_leftPressure, .ref q_t_note, .ref q_t_past, .ref q_t_ahead, .ref q_t_gets, .int t_leftOver])), (q_p1, .inr (0, [.int p1_pressure, .int p1_day, .int p1_wells, .int p1_lefts, .int p1_notes, .int p1_undos, .ref q_p1_kind, .ref q_p1_wanted, .ref q_p1_hours, .ref q_p1_had, .ref q_p1_due, .ref q_p1_leftHour, .ref q_p1_leftPressure, .ref q_p1_note, .ref q_p1_past, .ref q_p1_ahead, .ref q_p1_gets, .int p1_leftOver])), (q_p1_kind, zI E 5 p1_kind), (q_t_kind, zI E 5 t_kind), (q_p1_wanted, zI E 5 p1_wanted), (q_t_wanted, zI E 5 t_wanted), (q_p1_hours, zI E 5 p1_hours), (q_t_hours, zI E 5 t_hours), (q_p1_had, zI E 5 p1_had), (q_t_had, zI E 5 t_had), (q_p1_due, zI E 5 p1_due), (q_t_due, zI E 5 t_due), (q_p1_leftHour, zI E 4 p1_leftHour), (q_t_leftHour, zI E 4 t_leftHour), (q_p1_leftPressure, zI E 4 p1_leftPressure), (q_t_leftPressure, zI E 4 t_leftPressure), (q_p1_note, zI E 36 p1_note), (q_t_note, zI E 36 t_note), (q_p1_past, zI E 176 p1_past), (q_t_past, zI E 176 t_past)]) C inT_X1 tyX1 tyX1_ok nmX1 0 rfl rfl 2 (by decide) rfl (mc W_86) rfl rfl rfl (Nat.le_of_ble_eq_true rfl) rfl dX1_copyFrom_21 ?_
  refine z_aload_n C dX1_copyFrom_24 rfl 0 rfl ?_
  refine z_aload_n C dX1_copyFrom_25 rfl 1 rfl ?_
  refine z_get C inT_X1 1 rfl rfl 3 (by decide) rfl (mc W_90) rfl dX1_copyFrom_26 ?_
  refine z_put (ws' := [(q_t, .inr (0, [.int p1_pressure, .int p1_day, .int p1_wells, .int p1_lefts, .int t_notes, .int t_undos, .ref q_t_kind, .ref q_t_wanted, .ref q_t_hours, .ref q_t_had, .ref q_t_due, .ref q_t_leftHour, .ref q_t_leftPressure, .ref q_t_note, .ref q_t_past, .ref q_t_ahead, .ref q_t_gets, .int t_leftOver])), (q_p1, .inr (0, [.int p1_pressure, .int p1_day, .int p1_wells, .int p1_lefts, .int p1_notes, .int p1_undos, .ref q_p1_kind, .ref q_p1_wanted, .ref q_p1_hours, .ref q_p1_had, .ref q_p1_due, .ref q_p1_leftHour, .ref q_p1_leftPressure, .ref q_p1_note, .ref q_p1_past, .ref q_p1_ahead, .ref q_p1_gets, .int p1_leftOver])), (q_p1_kind, zI E 5 p1_kind), (q_t_kind, zI E 5 t_kind), (q_p1_wanted, zI E 5 p1_wanted), (q_t_wanted, zI E 5 t_wanted), (q_p1_hours, zI E 5 p1_hours), (q_t_hours, zI E 5 t_hours), (q_p1_had, zI E 5 p1_had), (q_t_had, zI E 5 t_had), (q_p1_due, zI E 5 p1_due), (q_t_due, zI E 5 t_due), (q_p1_leftHour, zI E 4 p1_leftHour), (q_t_leftHour, zI E 4 t_leftHour), (q_p1_leftPressure, zI E 4 p1_leftPressure), (q_t_leftPressure, zI E 4 t_leftPressure), (q_p1_note, zI E 36 p1_note), (q_t_note, zI E 36 t_note), (q_p1_past, zI E 176 p1_past), (q_t_past, zI E 176 t_past)]) C inT_X1 tyX1 tyX1_ok nmX1 0 rfl rfl 3 (by decide) rfl (mc W_90) rfl rfl rfl (Nat.le_of_ble_eq_true rfl) rfl dX1_copyFrom_29 ?_
  refine z_aload_n C dX1_copyFrom_32 rfl 0 rfl ?_
  refine z_aload_n C dX1_copyFrom_33 rfl 1 rfl ?_
  refine z_get C inT_X1 1 rfl rfl 4 (by decide) rfl (mc W_92) rfl dX1_copyFrom_34 ?_
  refine z_put (ws' := [(q_t, .inr (0, [.int p1_pressure, .int p1_day, .int p1_wells, .int p1_lefts, .int p1_notes, .int t_undos, .ref q_t_kind, .ref q_t_wanted, .ref q_t_hours, .ref q_t_had, .ref q_t_due, .ref q_t_leftHour, .ref q_t_leftPressure, .ref q_t_note, .ref q_t_past, .ref q_t_ahead, .ref q_t_gets, .int t_leftOver])), (q_p1, .inr (0, [.int p1_pressure, .int p1_day, .int p1_wells, .int p1_lefts, .int p1_notes, .int p1_undos, .ref q_p1_kind, .ref q_p1_wanted, .ref q_p1_hours, .ref q_p1_had, .ref q_p1_due, .ref q_p1_leftHour, .ref q_p1_leftPressure, .ref q_p1_note, .ref q_p1_past, .ref q_p1_ahead, .ref q_p1_gets, .int p1_leftOver])), (q_p1_kind, zI E 5 p1_kind), (q_t_kind, zI E 5 t_kind), (q_p1_wanted, zI E 5 p1_wanted), (q_t_wanted, zI E 5 t_wanted), (q_p1_hours, zI E 5 p1_hours), (q_t_hours, zI E 5 t_hours), (q_p1_had, zI E 5 p1_had), (q_t_had, zI E 5 t_had), (q_p1_due, zI E 5 p1_due), (q_t_due, zI E 5 t_due), (q_p1_leftHour, zI E 4 p1_leftHour), (q_t_leftHour, zI E 4 t_leftHour), (q_p1_leftPressure, zI E 4 p1_leftPressure), (q_t_leftPressure, zI E 4 t_leftPressure), (q_p1_note, zI E 36 p1_note), (q_t_note, zI E 36 t_note), (q_p1_past, zI E 176 p1_past), (q_t_past, zI E 176 t_past)]) C inT_X1 tyX1 tyX1_ok nmX1 0 rfl rfl 4 (by decide) rfl (mc W_92) rfl rfl rfl (Nat.le_of_ble_eq_true rfl) rfl dX1_copyFrom_37 ?_
  refine z_aload_n C dX1_copyFrom_40 rfl 0 rfl ?_
  refine z_aload_n C dX1_copyFrom_41 rfl 1 rfl ?_
  refine z_get C inT_X1 1 rfl rfl 5 (by decide) rfl (mc W_94) rfl dX1_copyFrom_42 ?_
  refine z_put (ws' := [(q_t, .inr (0, [.int p1_pressure, .int p1_day, .int p1_wells, .int p1_lefts, .int p1_notes, .int p1_undos, .ref q_t_kind, .ref q_t_wanted, .ref q_t_hours, .ref q_t_had, .ref q_t_due, .ref q_t_leftHour, .ref q_t_leftPressure, .ref q_t_note, .ref q_t_past, .ref q_t_ahead, .ref q_t_gets, .int t_leftOver])), (q_p1, .inr (0, [.int p1_pressure, .int p1_day, .int p1_wells, .int p1_lefts, .int p1_notes, .int p1_undos, .ref q_p1_kind, .ref q_p1_wanted, .ref q_p1_hours, .ref q_p1_had, .ref q_p1_due, .ref q_p1_leftHour, .ref q_p1_leftPressure, .ref q_p1_note, .ref q_p1_past, .ref q_p1_ahead, .ref q_p1_gets, .int p1_leftOver])), (q_p1_kind, zI E 5 p1_kind), (q_t_kind, zI E 5 t_kind), (q_p1_wanted, zI E 5 p1_wanted), (q_t_wanted, zI E 5 t_wanted), (q_p1_hours, zI E 5 p1_hours), (q_t_hours, zI E 5 t_hours), (q_p1_had, zI E 5 p1_had), (q_t_had, zI E 5 t_had), (q_p1_due, zI E 5 p1_due), (q_t_due, zI E 5 t_due), (q_p1_leftHour, zI E 4 p1_leftHour), (q_t_leftHour, zI E 4 t_leftHour), (q_p1_leftPressure, zI E 4 p1_leftPressure), (q_t_leftPressure, zI E 4 t_leftPressure), (q_p1_note, zI E 36 p1_note), (q_t_note, zI E 36 t_note), (q_p1_past, zI E 176 p1_past), (q_t_past, zI E 176 t_past)]) C inT_X1 tyX1 tyX1_ok nmX1 0 rfl rfl 5 (by decide) rfl (mc W_94) rfl rfl rfl (Nat.le_of_ble_eq_true rfl) rfl dX1_copyFrom_45 ?_
  refine z_aload_n C dX1_copyFrom_48 rfl 1 rfl ?_
  refine z_get C inT_X1 1 rfl rfl 6 (by decide) rfl (mc W_96) rfl dX1_copyFrom_49 ?_
  refine z_iconst (v := (0 : Int32)) C dX1_copyFrom_52 (by decide) ?_
  refine z_aload_n C dX1_copyFrom_53 rfl 0 rfl ?_
  refine z_get C inT_X1 0 rfl rfl 6 (by decide) rfl (mc W_96) rfl dX1_copyFrom_54 ?_
  refine z_iconst (v := (0 : Int32)) C dX1_copyFrom_57 (by decide) ?_
  refine z_iconst (v := (5 : Int32)) C dX1_copyFrom_58 (by decide) ?_
  obtain ⟨c1, h⟩ := chk_some h
  refine z_copy (ws' := [(q_t, .inr (0, [.int p1_pressure, .int p1_day, .int p1_wells, .int p1_lefts, .int p1_notes, .int p1_undos, .ref q_t_kind, .ref q_t_wanted, .ref q_t_hours, .ref q_t_had, .ref q_t_due, .ref q_t_leftHour, .ref q_t_leftPressure, .ref q_t_note, .ref q_t_past, .ref q_t_ahead, .ref q_t_gets, .int t_leftOver])), (q_p1, .inr (0, [.int p1_pressure, .int p1_day, .int p1_wells, .int p1_lefts, .int p1_notes, .int p1_undos, .ref q_p1_kind, .ref q_p1_wanted, .ref q_p1_hours, .ref q_p1_had, .ref q_p1_due, .ref q_p1_leftHour, .ref q_p1_leftPressure, .ref q_p1_note, .ref q_p1_past, .ref q_p1_ahead, .ref q_p1_gets, .int p1_leftOver])), (q_p1_kind, zI E 5 p1_kind), (q_t_kind, zI E 5 (va_cpy p1_kind t_kind (0 : Int32).toNatClampNeg (0 : Int32).toNatClampNeg (5 : Int32).toNatClampNeg)), (q_p1_wanted, zI E 5 p1_wanted), (q_t_wanted, zI E 5 t_wanted), (q_p1_hours, zI E 5 p1_hours), (q_t_hours, zI E 5 t_hours), (q_p1_had, zI E 5 p1_had), (q_t_had, zI E 5 t_had), (q_p1_due, zI E 5 p1_due), (q_t_due, zI E 5 t_due), (q_p1_leftHour, zI E 4 p1_leftHour), (q_t_leftHour, zI E 4 t_leftHour), (q_p1_leftPressure, zI E 4 p1_leftPressure), (q_t_leftPressure, zI E 4 t_leftPressure), (q_p1_note, zI E 36 p1_note), (q_t_note, zI E 36 t_note), (q_p1_past, zI E 176 p1_past), (q_t_past, zI E 176 t_past)]) C 2 3 rfl rfl c1 rfl (mc W_388) (mc W_390) (mc W_389) (mc W_65) (Nat.le_of_ble_eq_true rfl) (Nat.le_of_ble_eq_true rfl) dX1_copyFrom_59 ?_
  refine z_aload_n C dX1_copyFrom_62 rfl 1 rfl ?_
  refine z_get C inT_X1 1 rfl rfl 7 (by decide) rfl (mc W_99) rfl dX1_copyFrom_63 ?_
  refine z_iconst (v := (0 : Int32)) C dX1_copyFrom_66 (by decide) ?_
  refine z_aload_n C dX1_copyFrom_67 rfl 0 rfl ?_
  refine z_get C inT_X1 0 rfl rfl 7 (by decide) rfl (mc W_99) rfl dX1_copyFrom_68 ?_
  refine z_iconst (v := (0 : Int32)) C dX1_copyFrom_71 (by decide) ?_
  refine z_iconst (v := (5 : Int32)) C dX1_copyFrom_72 (by decide) ?_
  obtain ⟨c2, h⟩ := chk_some h
  refine z_copy (ws' := [(q_t, .inr (0, [.int p1_pressure, .int p1_day, .int p1_wells, .int p1_lefts, .int p1_notes, .int p1_undos, .ref q_t_kind, .ref q_t_wanted, .ref q_t_hours, .ref q_t_had, .ref q_t_due, .ref q_t_leftHour, .ref q_t_leftPressure, .ref q_t_note, .ref q_t_past, .ref q_t_ahead, .ref q_t_gets, .int t_leftOver])), (q_p1, .inr (0, [.int p1_pressure, .int p1_day, .int p1_wells, .int p1_lefts, .int p1_notes, .int p1_undos, .ref q_p1_kind, .ref q_p1_wanted, .ref q_p1_hours, .ref q_p1_had, .ref q_p1_due, .ref q_p1_leftHour, .ref q_p1_leftPressure, .ref q_p1_note, .ref q_p1_past, .ref q_p1_ahead, .ref q_p1_gets, .int p1_leftOver])), (q_p1_kind, zI E 5 p1_kind), (q_t_kind, zI E 5 (va_cpy p1_kind t_kind (0 : Int32).toNatClampNeg (0 : Int32).toNatClampNeg (5 : Int32).toNatClampNeg)), (q_p1_wanted, zI E 5 p1_wanted), (q_t_wanted, zI E 5 (va_cpy p1_wanted t_wanted (0 : Int32).toNatClampNeg (0 : Int32).toNatClampNeg (5 : Int32).toNatClampNeg)), (q_p1_hours, zI E 5 p1_hours), (q_t_hours, zI E 5 t_hours), (q_p1_had, zI E 5 p1_had), (q_t_had, zI E 5 t_had), (q_p1_due, zI E 5 p1_due), (q_t_due, zI E 5 t_due), (q_p1_leftHour, zI E 4 p1_leftHour), (q_t_leftHour, zI E 4 t_leftHour), (q_p1_leftPressure, zI E 4 p1_leftPressure), (q_t_leftPressure, zI E 4 t_leftPressure), (q_p1_note, zI E 36 p1_note), (q_t_note, zI E 36 t_note), (q_p1_past, zI E 176 p1_past), (q_t_past, zI E 176 t_past)]) C 4 5 rfl rfl c2 rfl (mc W_388) (mc W_390) (mc W_389) (mc W_65) (Nat.le_of_ble_eq_true rfl) (Nat.le_of_ble_eq_true rfl) dX1_copyFrom_73 ?_
  refine z_aload_n C dX1_copyFrom_76 rfl 1 rfl ?_
  refine z_get C inT_X1 1 rfl rfl 8 (by decide) rfl (mc W_102) rfl dX1_copyFrom_77 ?_
  refine z_iconst (v := (0 : Int32)) C dX1_copyFrom_80 (by decide) ?_
  refine z_aload_n C dX1_copyFrom_81 rfl 0 rfl ?_
  refine z_get C inT_X1 0 rfl rfl 8 (by decide) rfl (mc W_102) rfl dX1_copyFrom_82 ?_
  refine z_iconst (v := (0 : Int32)) C dX1_copyFrom_85 (by decide) ?_
  refine z_iconst (v := (5 : Int32)) C dX1_copyFrom_86 (by decide) ?_
  obtain ⟨c3, h⟩ := chk_some h
  refine z_copy (ws' := [(q_t, .inr (0, [.int p1_pressure, .int p1_day, .int p1_wells, .int p1_lefts, .int p1_notes, .int p1_undos, .ref q_t_kind, .ref q_t_wanted, .ref q_t_hours, .ref q_t_had, .ref q_t_due, .ref q_t_leftHour, .ref q_t_leftPressure, .ref q_t_note, .ref q_t_past, .ref q_t_ahead, .ref q_t_gets, .int t_leftOver])), (q_p1, .inr (0, [.int p1_pressure, .int p1_day, .int p1_wells, .int p1_lefts, .int p1_notes, .int p1_undos, .ref q_p1_kind, .ref q_p1_wanted, .ref q_p1_hours, .ref q_p1_had, .ref q_p1_due, .ref q_p1_leftHour, .ref q_p1_leftPressure, .ref q_p1_note, .ref q_p1_past, .ref q_p1_ahead, .ref q_p1_gets, .int p1_leftOver])), (q_p1_kind, zI E 5 p1_kind), (q_t_kind, zI E 5 (va_cpy p1_kind t_kind (0 : Int32).toNatClampNeg (0 : Int32).toNatClampNeg (5 : Int32).toNatClampNeg)), (q_p1_wanted, zI E 5 p1_wanted), (q_t_wanted, zI E 5 (va_cpy p1_wanted t_wanted (0 : Int32).toNatClampNeg (0 : Int32).toNatClampNeg (5 : Int32).toNatClampNeg)), (q_p1_hours, zI E 5 p1_hours), (q_t_hours, zI E 5 (va_cpy p1_hours t_hours (0 : Int32).toNatClampNeg (0 : Int32).toNatClampNeg (5 : Int32).toNatClampNeg)), (q_p1_had, zI E 5 p1_had), (q_t_had, zI E 5 t_had), (q_p1_due, zI E 5 p1_due), (q_t_due, zI E 5 t_due), (q_p1_leftHour, zI E 4 p1_leftHour), (q_t_leftHour, zI E 4 t_leftHour), (q_p1_leftPressure, zI E 4 p1_leftPressure), (q_t_leftPressure, zI E 4 t_leftPressure), (q_p1_note, zI E 36 p1_note), (q_t_note, zI E 36 t_note), (q_p1_past, zI E 176 p1_past), (q_t_past, zI E 176 t_past)]) C 6 7 rfl rfl c3 rfl (mc W_388) (mc W_390) (mc W_389) (mc W_65) (Nat.le_of_ble_eq_true rfl) (Nat.le_of_ble_eq_true rfl) dX1_copyFrom_87 ?_
  refine z_aload_n C dX1_copyFrom_90 rfl 1 rfl ?_
  refine z_get C inT_X1 1 rfl rfl 9 (by decide) rfl (mc W_105) rfl dX1_copyFrom_91 ?_
  refine z_iconst (v := (0 : Int32)) C dX1_copyFrom_94 (by decide) ?_
  refine z_aload_n C dX1_copyFrom_95 rfl 0 rfl ?_
  refine z_get C inT_X1 0 rfl rfl 9 (by decide) rfl (mc W_105) rfl dX1_copyFrom_96 ?_
  refine z_iconst (v := (0 : Int32)) C dX1_copyFrom_99 (by decide) ?_
  refine z_iconst (v := (5 : Int32)) C dX1_copyFrom_100 (by decide) ?_
  obtain ⟨c4, h⟩ := chk_some h
  refine z_copy (ws' := [(q_t, .inr (0, [.int p1_pressure, .int p1_day, .int p1_wells, .int p1_lefts, .int p1_notes, .int p1_undos, .ref q_t_kind, .ref q_t_wanted, .ref q_t_hours, .ref q_t_had, .ref q_t_due, .ref q_t_leftHour, .ref q_t_leftPressure, .ref q_t_note, .ref q_t_past, .ref q_t_ahead, .ref q_t_gets, .int t_leftOver])), (q_p1, .inr (0, [.int p1_pressure, .int p1_day, .int p1_wells, .int p1_lefts, .int p1_notes, .int p1_undos, .ref q_p1_kind, .ref q_p1_wanted, .ref q_p1_hours, .ref q_p1_had, .ref q_p1_due, .ref q_p1_leftHour, .ref q_p1_leftPressure, .ref q_p1_note, .ref q_p1_past, .ref q_p1_ahead, .ref q_p1_gets, .int p1_leftOver])), (q_p1_kind, zI E 5 p1_kind), (q_t_kind, zI E 5 (va_cpy p1_kind t_kind (0 : Int32).toNatClampNeg (0 : Int32).toNatClampNeg (5 : Int32).toNatClampNeg)), (q_p1_wanted, zI E 5 p1_wanted), (q_t_wanted, zI E 5 (va_cpy p1_wanted t_wanted (0 : Int32).toNatClampNeg (0 : Int32).toNatClampNeg (5 : Int32).toNatClampNeg)), (q_p1_hours, zI E 5 p1_hours), (q_t_hours, zI E 5 (va_cpy p1_hours t_hours (0 : Int32).toNatClampNeg (0 : Int32).toNatClampNeg (5 : Int32).toNatClampNeg)), (q_p1_had, zI E 5 p1_had), (q_t_had, zI E 5 (va_cpy p1_had t_had (0 : Int32).toNatClampNeg (0 : Int32).toNatClampNeg (5 : Int32).toNatClampNeg)), (q_p1_due, zI E 5 p1_due), (q_t_due, zI E 5 t_due), (q_p1_leftHour, zI E 4 p1_leftHour), (q_t_leftHour, zI E 4 t_leftHour), (q_p1_leftPressure, zI E 4 p1_leftPressure), (q_t_leftPressure, zI E 4 t_leftPressure), (q_p1_note, zI E 36 p1_note), (q_t_note, zI E 36 t_note), (q_p1_past, zI E 176 p1_past), (q_t_past, zI E 176 t_past)]) C 8 9 rfl rfl c4 rfl (mc W_388) (mc W_390) (mc W_389) (mc W_65) (Nat.le_of_ble_eq_true rfl) (Nat.le_of_ble_eq_true rfl) dX1_copyFrom_101 ?_
  refine z_aload_n C dX1_copyFrom_104 rfl 1 rfl ?_
  refine z_get C inT_X1 1 rfl rfl 10 (by decide) rfl (mc W_107) rfl dX1_copyFrom_105 ?_
  refine z_iconst (v := (0 : Int32)) C dX1_copyFrom_108 (by decide) ?_
  refine z_aload_n C dX1_copyFrom_109 rfl 0 rfl ?_
  refine z_get C inT_X1 0 rfl rfl 10 (by decide) rfl (mc W_107) rfl dX1_copyFrom_110 ?_
  refine z_iconst (v := (0 : Int32)) C dX1_copyFrom_113 (by decide) ?_
  refine z_iconst (v := (5 : Int32)) C dX1_copyFrom_114 (by decide) ?_
  obtain ⟨c5, h⟩ := chk_some h
  refine z_copy (ws' := [(q_t, .inr (0, [.int p1_pressure, .int p1_day, .int p1_wells, .int p1_lefts, .int p1_notes, .int p1_undos, .ref q_t_kind, .ref q_t_wanted, .ref q_t_hours, .ref q_t_had, .ref q_t_due, .ref q_t_leftHour, .ref q_t_leftPressure, .ref q_t_note, .ref q_t_past, .ref q_t_ahead, .ref q_t_gets, .int t_leftOver])), (q_p1, .inr (0, [.int p1_pressure, .int p1_day, .int p1_wells, .int p1_lefts, .int p1_notes, .int p1_undos, .ref q_p1_kind, .ref q_p1_wanted, .ref q_p1_hours, .ref q_p1_had, .ref q_p1_due, .ref q_p1_leftHour, .ref q_p1_leftPressure, .ref q_p1_note, .ref q_p1_past, .ref q_p1_ahead, .ref q_p1_gets, .int p1_leftOver])), (q_p1_kind, zI E 5 p1_kind), (q_t_kind, zI E 5 (va_cpy p1_kind t_kind (0 : Int32).toNatClampNeg (0 : Int32).toNatClampNeg (5 : Int32).toNatClampNeg)), (q_p1_wanted, zI E 5 p1_wanted), (q_t_wanted, zI E 5 (va_cpy p1_wanted t_wanted (0 : Int32).toNatClampNeg (0 : Int32).toNatClampNeg (5 : Int32).toNatClampNeg)), (q_p1_hours, zI E 5 p1_hours), (q_t_hours, zI E 5 (va_cpy p1_hours t_hours (0 : Int32).toNatClampNeg (0 : Int32).toNatClampNeg (5 : Int32).toNatClampNeg)), (q_p1_had, zI E 5 p1_had), (q_t_had, zI E 5 (va_cpy p1_had t_had (0 : Int32).toNatClampNeg (0 : Int32).toNatClampNeg (5 : Int32).toNatClampNeg)), (q_p1_due, zI E 5 p1_due), (q_t_due, zI E 5 (va_cpy p1_due t_due (0 : Int32).toNatClampNeg (0 : Int32).toNatClampNeg (5 : Int32).toNatClampNeg)), (q_p1_leftHour, zI E 4 p1_leftHour), (q_t_leftHour, zI E 4 t_leftHour), (q_p1_leftPressure, zI E 4 p1_leftPressure), (q_t_leftPressure, zI E 4 t_leftPressure), (q_p1_note, zI E 36 p1_note), (q_t_note, zI E 36 t_note), (q_p1_past, zI E 176 p1_past), (q_t_past, zI E 176 t_past)]) C 10 11 rfl rfl c5 rfl (mc W_388) (mc W_390) (mc W_389) (mc W_65) (Nat.le_of_ble_eq_true rfl) (Nat.le_of_ble_eq_true rfl) dX1_copyFrom_115 ?_
  refine z_aload_n C dX1_copyFrom_118 rfl 1 rfl ?_
  refine z_get C inT_X1 1 rfl rfl 11 (by decide) rfl (mc W_109) rfl dX1_copyFrom_119 ?_
  refine z_iconst (v := (0 : Int32)) C dX1_copyFrom_122 (by decide) ?_
  refine z_aload_n C dX1_copyFrom_123 rfl 0 rfl ?_
  refine z_get C inT_X1 0 rfl rfl 11 (by decide) rfl (mc W_109) rfl dX1_copyFrom_124 ?_
  refine z_iconst (v := (0 : Int32)) C dX1_copyFrom_127 (by decide) ?_
  refine z_iconst (v := (4 : Int32)) C dX1_copyFrom_128 (by decide) ?_
  obtain ⟨c6, h⟩ := chk_some h
  refine z_copy (ws' := [(q_t, .inr (0, [.int p1_pressure, .int p1_day, .int p1_wells, .int p1_lefts, .int p1_notes, .int p1_undos, .ref q_t_kind, .ref q_t_wanted, .ref q_t_hours, .ref q_t_had, .ref q_t_due, .ref q_t_leftHour, .ref q_t_leftPressure, .ref q_t_note, .ref q_t_past, .ref q_t_ahead, .ref q_t_gets, .int t_leftOver])), (q_p1, .inr (0, [.int p1_pressure, .int p1_day, .int p1_wells, .int p1_lefts, .int p1_notes, .int p1_undos, .ref q_p1_kind, .ref q_p1_wanted, .ref q_p1_hours, .ref q_p1_had, .ref q_p1_due, .ref q_p1_leftHour, .ref q_p1_leftPressure, .ref q_p1_note, .ref q_p1_past, .ref q_p1_ahead, .ref q_p1_gets, .int p1_leftOver])), (q_p1_kind, zI E 5 p1_kind), (q_t_kind, zI E 5 (va_cpy p1_kind t_kind (0 : Int32).toNatClampNeg (0 : Int32).toNatClampNeg (5 : Int32).toNatClampNeg)), (q_p1_wanted, zI E 5 p1_wanted), (q_t_wanted, zI E 5 (va_cpy p1_wanted t_wanted (0 : Int32).toNatClampNeg (0 : Int32).toNatClampNeg (5 : Int32).toNatClampNeg)), (q_p1_hours, zI E 5 p1_hours), (q_t_hours, zI E 5 (va_cpy p1_hours t_hours (0 : Int32).toNatClampNeg (0 : Int32).toNatClampNeg (5 : Int32).toNatClampNeg)), (q_p1_had, zI E 5 p1_had), (q_t_had, zI E 5 (va_cpy p1_had t_had (0 : Int32).toNatClampNeg (0 : Int32).toNatClampNeg (5 : Int32).toNatClampNeg)), (q_p1_due, zI E 5 p1_due), (q_t_due, zI E 5 (va_cpy p1_due t_due (0 : Int32).toNatClampNeg (0 : Int32).toNatClampNeg (5 : Int32).toNatClampNeg)), (q_p1_leftHour, zI E 4 p1_leftHour), (q_t_leftHour, zI E 4 (va_cpy p1_leftHour t_leftHour (0 : Int32).toNatClampNeg (0 : Int32).toNatClampNeg (4 : Int32).toNatClampNeg)), (q_p1_leftPressure, zI E 4 p1_leftPressure), (q_t_leftPressure, zI E 4 t_leftPressure), (q_p1_note, zI E 36 p1_note), (q_t_note, zI E 36 t_note), (q_p1_past, zI E 176 p1_past), (q_t_past, zI E 176 t_past)]) C 12 13 rfl rfl c6 rfl (mc W_388) (mc W_390) (mc W_389) (mc W_65) (Nat.le_of_ble_eq_true rfl) (Nat.le_of_ble_eq_true rfl) dX1_copyFrom_129 ?_
  refine z_aload_n C dX1_copyFrom_132 rfl 1 rfl ?_
  refine z_get C inT_X1 1 rfl rfl 12 (by decide) rfl (mc W_111) rfl dX1_copyFrom_133 ?_
  refine z_iconst (v := (0 : Int32)) C dX1_copyFrom_136 (by decide) ?_
  refine z_aload_n C dX1_copyFrom_137 rfl 0 rfl ?_
  refine z_get C inT_X1 0 rfl rfl 12 (by decide) rfl (mc W_111) rfl dX1_copyFrom_138 ?_
  refine z_iconst (v := (0 : Int32)) C dX1_copyFrom_141 (by decide) ?_
  refine z_iconst (v := (4 : Int32)) C dX1_copyFrom_142 (by decide) ?_
  obtain ⟨c7, h⟩ := chk_some h
  refine z_copy (ws' := [(q_t, .inr (0, [.int p1_pressure, .int p1_day, .int p1_wells, .int p1_lefts, .int p1_notes, .int p1_undos, .ref q_t_kind, .ref q_t_wanted, .ref q_t_hours, .ref q_t_had, .ref q_t_due, .ref q_t_leftHour, .ref q_t_leftPressure, .ref q_t_note, .ref q_t_past, .ref q_t_ahead, .ref q_t_gets, .int t_leftOver])), (q_p1, .inr (0, [.int p1_pressure, .int p1_day, .int p1_wells, .int p1_lefts, .int p1_notes, .int p1_undos, .ref q_p1_kind, .ref q_p1_wanted, .ref q_p1_hours, .ref q_p1_had, .ref q_p1_due, .ref q_p1_leftHour, .ref q_p1_leftPressure, .ref q_p1_note, .ref q_p1_past, .ref q_p1_ahead, .ref q_p1_gets, .int p1_leftOver])), (q_p1_kind, zI E 5 p1_kind), (q_t_kind, zI E 5 (va_cpy p1_kind t_kind (0 : Int32).toNatClampNeg (0 : Int32).toNatClampNeg (5 : Int32).toNatClampNeg)), (q_p1_wanted, zI E 5 p1_wanted), (q_t_wanted, zI E 5 (va_cpy p1_wanted t_wanted (0 : Int32).toNatClampNeg (0 : Int32).toNatClampNeg (5 : Int32).toNatClampNeg)), (q_p1_hours, zI E 5 p1_hours), (q_t_hours, zI E 5 (va_cpy p1_hours t_hours (0 : Int32).toNatClampNeg (0 : Int32).toNatClampNeg (5 : Int32).toNatClampNeg)), (q_p1_had, zI E 5 p1_had), (q_t_had, zI E 5 (va_cpy p1_had t_had (0 : Int32).toNatClampNeg (0 : Int32).toNatClampNeg (5 : Int32).toNatClampNeg)), (q_p1_due, zI E 5 p1_due), (q_t_due, zI E 5 (va_cpy p1_due t_due (0 : Int32).toNatClampNeg (0 : Int32).toNatClampNeg (5 : Int32).toNatClampNeg)), (q_p1_leftHour, zI E 4 p1_leftHour), (q_t_leftHour, zI E 4 (va_cpy p1_leftHour t_leftHour (0 : Int32).toNatClampNeg (0 : Int32).toNatClampNeg (4 : Int32).toNatClampNeg)), (q_p1_leftPressure, zI E 4 p1_leftPressure), (q_t_leftPressure, zI E 4 (va_cpy p1_leftPressure t_leftPressure (0 : Int32).toNatClampNeg (0 : Int32).toNatClampNeg (4 : Int32).toNatClampNeg)), (q_p1_note, zI E 36 p1_note), (q_t_note, zI E 36 t_note), (q_p1_past, zI E 176 p1_past), (q_t_past, zI E 176 t_past)]) C 14 15 rfl rfl c7 rfl (mc W_388) (mc W_390) (mc W_389) (mc W_65) (Nat.le_of_ble_eq_true rfl) (Nat.le_of_ble_eq_true rfl) dX1_copyFrom_143 ?_
  refine z_aload_n C dX1_copyFrom_146 rfl 1 rfl ?_
  refine z_get C inT_X1 1 rfl rfl 13 (by decide) rfl (mc W_113) rfl dX1_copyFrom_147 ?_
  refine z_iconst (v := (0 : Int32)) C dX1_copyFrom_150 (by decide) ?_
  refine z_aload_n C dX1_copyFrom_151 rfl 0 rfl ?_
  refine z_get C inT_X1 0 rfl rfl 13 (by decide) rfl (mc W_113) rfl dX1_copyFrom_152 ?_
  refine z_iconst (v := (0 : Int32)) C dX1_copyFrom_155 (by decide) ?_
  refine z_bipush (v := (36 : Int32)) C dX1_copyFrom_156 (by decide) ?_
  obtain ⟨c8, h⟩ := chk_some h
  refine z_copy (ws' := [(q_t, .inr (0, [.int p1_pressure, .int p1_day, .int p1_wells, .int p1_lefts, .int p1_notes, .int p1_undos, .ref q_t_kind, .ref q_t_wanted, .ref q_t_hours, .ref q_t_had, .ref q_t_due, .ref q_t_leftHour, .ref q_t_leftPressure, .ref q_t_note, .ref q_t_past, .ref q_t_ahead, .ref q_t_gets, .int t_leftOver])), (q_p1, .inr (0, [.int p1_pressure, .int p1_day, .int p1_wells, .int p1_lefts, .int p1_notes, .int p1_undos, .ref q_p1_kind, .ref q_p1_wanted, .ref q_p1_hours, .ref q_p1_had, .ref q_p1_due, .ref q_p1_leftHour, .ref q_p1_leftPressure, .ref q_p1_note, .ref q_p1_past, .ref q_p1_ahead, .ref q_p1_gets, .int p1_leftOver])), (q_p1_kind, zI E 5 p1_kind), (q_t_kind, zI E 5 (va_cpy p1_kind t_kind (0 : Int32).toNatClampNeg (0 : Int32).toNatClampNeg (5 : Int32).toNatClampNeg)), (q_p1_wanted, zI E 5 p1_wanted), (q_t_wanted, zI E 5 (va_cpy p1_wanted t_wanted (0 : Int32).toNatClampNeg (0 : Int32).toNatClampNeg (5 : Int32).toNatClampNeg)), (q_p1_hours, zI E 5 p1_hours), (q_t_hours, zI E 5 (va_cpy p1_hours t_hours (0 : Int32).toNatClampNeg (0 : Int32).toNatClampNeg (5 : Int32).toNatClampNeg)), (q_p1_had, zI E 5 p1_had), (q_t_had, zI E 5 (va_cpy p1_had t_had (0 : Int32).toNatClampNeg (0 : Int32).toNatClampNeg (5 : Int32).toNatClampNeg)), (q_p1_due, zI E 5 p1_due), (q_t_due, zI E 5 (va_cpy p1_due t_due (0 : Int32).toNatClampNeg (0 : Int32).toNatClampNeg (5 : Int32).toNatClampNeg)), (q_p1_leftHour, zI E 4 p1_leftHour), (q_t_leftHour, zI E 4 (va_cpy p1_leftHour t_leftHour (0 : Int32).toNatClampNeg (0 : Int32).toNatClampNeg (4 : Int32).toNatClampNeg)), (q_p1_leftPressure, zI E 4 p1_leftPressure), (q_t_leftPressure, zI E 4 (va_cpy p1_leftPressure t_leftPressure (0 : Int32).toNatClampNeg (0 : Int32).toNatClampNeg (4 : Int32).toNatClampNeg)), (q_p1_note, zI E 36 p1_note), (q_t_note, zI E 36 (va_cpy p1_note t_note (0 : Int32).toNatClampNeg (0 : Int32).toNatClampNeg (36 : Int32).toNatClampNeg)), (q_p1_past, zI E 176 p1_past), (q_t_past, zI E 176 t_past)]) C 16 17 rfl rfl c8 rfl (mc W_388) (mc W_390) (mc W_389) (mc W_65) (Nat.le_of_ble_eq_true rfl) (Nat.le_of_ble_eq_true rfl) dX1_copyFrom_158 ?_
  refine z_aload_n C dX1_copyFrom_161 rfl 1 rfl ?_
  refine z_get C inT_X1 1 rfl rfl 14 (by decide) rfl (mc W_115) rfl dX1_copyFrom_162 ?_
  refine z_iconst (v := (0 : Int32)) C dX1_copyFrom_165 (by decide) ?_
  refine z_aload_n C dX1_copyFrom_166 rfl 0 rfl ?_
  refine z_get C inT_X1 0 rfl rfl 14 (by decide) rfl (mc W_115) rfl dX1_copyFrom_167 ?_
  refine z_iconst (v := (0 : Int32)) C dX1_copyFrom_170 (by decide) ?_
  refine z_sipush (v := (176 : Int32)) C dX1_copyFrom_171 (by decide) ?_
  obtain ⟨c9, h⟩ := chk_some h
  refine z_copy (ws' := [(q_t, .inr (0, [.int p1_pressure, .int p1_day, .int p1_wells, .int p1_lefts, .int p1_notes, .int p1_undos, .ref q_t_kind, .ref q_t_wanted, .ref q_t_hours, .ref q_t_had, .ref q_t_due, .ref q_t_leftHour, .ref q_t_leftPressure, .ref q_t_note, .ref q_t_past, .ref q_t_ahead, .ref q_t_gets, .int t_leftOver])), (q_p1, .inr (0, [.int p1_pressure, .int p1_day, .int p1_wells, .int p1_lefts, .int p1_notes, .int p1_undos, .ref q_p1_kind, .ref q_p1_wanted, .ref q_p1_hours, .ref q_p1_had, .ref q_p1_due, .ref q_p1_leftHour, .ref q_p1_leftPressure, .ref q_p1_note, .ref q_p1_past, .ref q_p1_ahead, .ref q_p1_gets, .int p1_leftOver])), (q_p1_kind, zI E 5 p1_kind), (q_t_kind, zI E 5 (va_cpy p1_kind t_kind (0 : Int32).toNatClampNeg (0 : Int32).toNatClampNeg (5 : Int32).toNatClampNeg)), (q_p1_wanted, zI E 5 p1_wanted), (q_t_wanted, zI E 5 (va_cpy p1_wanted t_wanted (0 : Int32).toNatClampNeg (0 : Int32).toNatClampNeg (5 : Int32).toNatClampNeg)), (q_p1_hours, zI E 5 p1_hours), (q_t_hours, zI E 5 (va_cpy p1_hours t_hours (0 : Int32).toNatClampNeg (0 : Int32).toNatClampNeg (5 : Int32).toNatClampNeg)), (q_p1_had, zI E 5 p1_had), (q_t_had, zI E 5 (va_cpy p1_had t_had (0 : Int32).toNatClampNeg (0 : Int32).toNatClampNeg (5 : Int32).toNatClampNeg)), (q_p1_due, zI E 5 p1_due), (q_t_due, zI E 5 (va_cpy p1_due t_due (0 : Int32).toNatClampNeg (0 : Int32).toNatClampNeg (5 : Int32).toNatClampNeg)), (q_p1_leftHour, zI E 4 p1_leftHour), (q_t_leftHour, zI E 4 (va_cpy p1_leftHour t_leftHour (0 : Int32).toNatClampNeg (0 : Int32).toNatClampNeg (4 : Int32).toNatClampNeg)), (q_p1_leftPressure, zI E 4 p1_leftPressure), (q_t_leftPressure, zI E 4 (va_cpy p1_leftPressure t_leftPressure (0 : Int32).toNatClampNeg (0 : Int32).toNatClampNeg (4 : Int32).toNatClampNeg)), (q_p1_note, zI E 36 p1_note), (q_t_note, zI E 36 (va_cpy p1_note t_note (0 : Int32).toNatClampNeg (0 : Int32).toNatClampNeg (36 : Int32).toNatClampNeg)), (q_p1_past, zI E 176 p1_past), (q_t_past, zI E 176 (va_cpy p1_past t_past (0 : Int32).toNatClampNeg (0 : Int32).toNatClampNeg (176 : Int32).toNatClampNeg))]) C 18 19 rfl rfl c9 rfl (mc W_388) (mc W_390) (mc W_389) (mc W_65) (Nat.le_of_ble_eq_true rfl) (Nat.le_of_ble_eq_true rfl) dX1_copyFrom_174 ?_
  obtain rfl := Option.some.inj h
  exact z_vret C hr dX1_copyFrom_177
def rm_X1_everyWell : Room := { frames := 0, cells := 0, slots := 0, locals := 0 }
theorem hd_X1_everyWell : yX1_everyWell.cls = yX1_everyWell.cls ∧ yX1_everyWell.cls ≠ "java/lang/invoke/MethodHandle" ∧ yX1_everyWell.cls ≠ "java/lang/invoke/VarHandle" ∧ (parseMethodDescriptor yX1_everyWell.desc).map (fun d => d.parameters.length) = some 0 := by decide +kernel
abbrev wsX1_everyWell : List Cond := .code yX1_everyWell cX1_everyWell 1 (some .int) :: WALL
set_option maxRecDepth 100000 in
set_option maxHeartbeats 4000000 in
theorem c_X1_everyWell {l : Launch} {E : zE} {q_t q_t_kind q_t_wanted q_t_hours q_t_had q_t_due q_t_leftHour q_t_leftPressure q_t_note q_t_past q_t_ahead q_t_gets : Nat} {t_pressure : Int32} {t_day : Int32} {t_lefts : Int32} {t_notes : Int32} {t_undos : Int32} {t_leftOver : Int32} {t_wells : Int32} {o : Int32} (F : Nat) (h : f_X1_everyWell F t_wells = some o) : zM l yX1_everyWell wsX1_everyWell rm_X1_everyWell E [.ref q_t] [(q_t, .inr (0, [.int t_pressure, .int t_day, .int t_wells, .int t_lefts, .int t_notes, .int t_undos, .ref q_t_kind, .ref q_t_wanted, .ref q_t_hours, .ref q_t_had, .ref q_t_due, .ref q_t_leftHour, .ref q_t_leftPressure, .ref q_t_note, .ref q_t_past, .ref q_t_ahead, .ref q_t_gets, .int t_leftOver]))] (some (.int o)) [(q_t, .inr (0, [.int t_pressure, .int t_day, .int t_wells, .int t_lefts, .int t_notes, .int t_undos, .ref q_t_kind, .ref q_t_wanted, .ref q_t_hours, .ref q_t_had, .ref q_t_due, .ref q_t_leftHour, .ref q_t_leftPressure, .ref q_t_note, .ref q_t_past, .ref q_t_ahead, .ref q_t_gets, .int t_leftOver]))] := by
  refine zM.of (cc := cX1_everyWell) (maxL := 1) (ret := (some .int)) (by decide +kernel) rfl (Nat.le_of_ble_eq_true rfl) ?_
  intro p e s m args below meth c A C hr
  have C : zC p s m args c meth cX1_everyWell 1 RX1 wsX1_everyWell E A := C
  rw [f_X1_everyWell] at h
  refine z_iconst (v := (1 : Int32)) C dX1_everyWell_0 (by decide) ?_
  refine z_aload_n C dX1_everyWell_1 rfl 0 rfl ?_
  refine z_get C inT_X1 0 rfl rfl 2 (by decide) rfl (mc W_86) rfl dX1_everyWell_2 ?_
  refine z_ishl C dX1_everyWell_5 ?_
  refine z_iconst (v := (1 : Int32)) C dX1_everyWell_6 (by decide) ?_
  refine z_isub C dX1_everyWell_7 ?_
  obtain rfl := Option.some.inj h
  exact z_iret (v := ((1 : Int32) <<< (t_wells &&& 31)) - (1 : Int32)) C hr dX1_everyWell_8
def rm_X1_addWell : Room := { frames := 0, cells := 0, slots := 0, locals := 0 }
theorem hd_X1_addWell : yX1_addWell.cls = yX1_addWell.cls ∧ yX1_addWell.cls ≠ "java/lang/invoke/MethodHandle" ∧ yX1_addWell.cls ≠ "java/lang/invoke/VarHandle" ∧ (parseMethodDescriptor yX1_addWell.desc).map (fun d => d.parameters.length) = some 3 := by decide +kernel
abbrev wsX1_addWell : List Cond := .code yX1_addWell cX1_addWell 4 (some .int) :: WALL
set_option maxRecDepth 100000 in
set_option maxHeartbeats 4000000 in
theorem c_X1_addWell {l : Launch} {E : zE} {q_t q_t_kind q_t_wanted q_t_hours q_t_had q_t_due q_t_leftHour q_t_leftPressure q_t_note q_t_past q_t_ahead q_t_gets : Nat} {t_pressure : Int32} {t_day : Int32} {t_lefts : Int32} {t_notes : Int32} {t_leftOver : Int32} {a1 : Int32} {a2 : Int32} {a3 : Int32} {t_wells : Int32} {t_undos : Int32} {t_kind : Nat → Int32} {t_wanted : Nat → Int32} {t_hours : Nat → Int32} {t_had : Nat → Int32} {t_due : Nat → Int32} {o : Int32 × Int32 × Int32 × (Nat → Int32) × (Nat → Int32) × (Nat → Int32) × (Nat → Int32) × (Nat → Int32)} (F : Nat) (h : f_X1_addWell F a1 a2 a3 t_wells t_undos t_kind t_wanted t_hours t_had t_due = some o) : zM l yX1_addWell wsX1_addWell rm_X1_addWell E [.ref q_t, .int a1, .int a2, .int a3] [(q_t, .inr (0, [.int t_pressure, .int t_day, .int t_wells, .int t_lefts, .int t_notes, .int t_undos, .ref q_t_kind, .ref q_t_wanted, .ref q_t_hours, .ref q_t_had, .ref q_t_due, .ref q_t_leftHour, .ref q_t_leftPressure, .ref q_t_note, .ref q_t_past, .ref q_t_ahead, .ref q_t_gets, .int t_leftOver])), (q_t_kind, zI E 5 t_kind), (q_t_wanted, zI E 5 t_wanted), (q_t_hours, zI E 5 t_hours), (q_t_had, zI E 5 t_had), (q_t_due, zI E 5 t_due)] (some (.int o.1)) [(q_t, .inr (0, [.int t_pressure, .int t_day, .int o.2.1, .int t_lefts, .int t_notes, .int o.2.2.1, .ref q_t_kind, .ref q_t_wanted, .ref q_t_hours, .ref q_t_had, .ref q_t_due, .ref q_t_leftHour, .ref q_t_leftPressure, .ref q_t_note, .ref q_t_past, .ref q_t_ahead, .ref q_t_gets, .int t_leftOver])), (q_t_kind, zI E 5 o.2.2.2.1), (q_t_wanted, zI E 5 o.2.2.2.2.1), (q_t_hours, zI E 5 o.2.2.2.2.2.1), (q_t_had, zI E 5 o.2.2.2.2.2.2.1), (q_t_due, zI E 5 o.2.2.2.2.2.2.2)] := by
  refine zM.of (cc := cX1_addWell) (maxL := 4) (ret := (some .int)) (by decide +kernel) rfl (Nat.le_of_ble_eq_true rfl) ?_
  intro p e s m args below meth c A C hr
  have C : zC p s m args c meth cX1_addWell 4 RX1 wsX1_addWell E A := C
  rw [f_X1_addWell] at h
  refine z_aload_n C dX1_addWell_0 rfl 0 rfl ?_
  refine z_get C inT_X1 0 rfl rfl 2 (by decide) rfl (mc W_86) rfl dX1_addWell_1 ?_
  refine z_iconst (v := (5 : Int32)) C dX1_addWell_4 (by decide) ?_
  refine z_icmp_lt (tgt := 11) C dX1_addWell_5 (by decide) (fun c => ?_) (fun c => ?_)
  · replace h := (if_pos c).symm.trans h
    refine z_aload_n C dX1_addWell_11 rfl 0 rfl ?_
    refine z_get C inT_X1 0 rfl rfl 6 (by decide) rfl (mc W_96) rfl dX1_addWell_12 ?_
    refine z_aload_n C dX1_addWell_15 rfl 0 rfl ?_
    refine z_get C inT_X1 0 rfl rfl 2 (by decide) rfl (mc W_86) rfl dX1_addWell_16 ?_
    refine z_iload_n C dX1_addWell_19 rfl 1 rfl ?_
    obtain ⟨c1, h⟩ := chk_some h
    refine z_iast (ws' := [(q_t, .inr (0, [.int t_pressure, .int t_day, .int t_wells, .int t_lefts, .int t_notes, .int t_undos, .ref q_t_kind, .ref q_t_wanted, .ref q_t_hours, .ref q_t_had, .ref q_t_due, .ref q_t_leftHour, .ref q_t_leftPressure, .ref q_t_note, .ref q_t_past, .ref q_t_ahead, .ref q_t_gets, .int t_leftOver])), (q_t_kind, zI E 5 (upd t_kind t_wells.toNatClampNeg a1)), (q_t_wanted, zI E 5 t_wanted), (q_t_hours, zI E 5 t_hours), (q_t_had, zI E 5 t_had), (q_t_due, zI E 5 t_due)]) C 1 rfl c1 rfl dX1_addWell_20 ?_
    refine z_aload_n C dX1_addWell_21 rfl 0 rfl ?_
    refine z_get C inT_X1 0 rfl rfl 7 (by decide) rfl (mc W_99) rfl dX1_addWell_22 ?_
    refine z_aload_n C dX1_addWell_25 rfl 0 rfl ?_
    refine z_get C inT_X1 0 rfl rfl 2 (by decide) rfl (mc W_86) rfl dX1_addWell_26 ?_
    refine z_iload_n C dX1_addWell_29 rfl 2 rfl ?_
    obtain ⟨c2, h⟩ := chk_some h
    refine z_iast (ws' := [(q_t, .inr (0, [.int t_pressure, .int t_day, .int t_wells, .int t_lefts, .int t_notes, .int t_undos, .ref q_t_kind, .ref q_t_wanted, .ref q_t_hours, .ref q_t_had, .ref q_t_due, .ref q_t_leftHour, .ref q_t_leftPressure, .ref q_t_note, .ref q_t_past, .ref q_t_ahead, .ref q_t_gets, .int t_leftOver])), (q_t_kind, zI E 5 (upd t_kind t_wells.toNatClampNeg a1)), (q_t_wanted, zI E 5 (upd t_wanted t_wells.toNatClampNeg a2)), (q_t_hours, zI E 5 t_hours), (q_t_had, zI E 5 t_had), (q_t_due, zI E 5 t_due)]) C 2 rfl c2 rfl dX1_addWell_30 ?_
    refine z_aload_n C dX1_addWell_31 rfl 0 rfl ?_
    refine z_get C inT_X1 0 rfl rfl 8 (by decide) rfl (mc W_102) rfl dX1_addWell_32 ?_
    refine z_aload_n C dX1_addWell_35 rfl 0 rfl ?_
    refine z_get C inT_X1 0 rfl rfl 2 (by decide) rfl (mc W_86) rfl dX1_addWell_36 ?_
    refine z_iload_n C dX1_addWell_39 rfl 3 rfl ?_
    obtain ⟨c3, h⟩ := chk_some h
    refine z_iast (ws' := [(q_t, .inr (0, [.int t_pressure, .int t_day, .int t_wells, .int t_lefts, .int t_notes, .int t_undos, .ref q_t_kind, .ref q_t_wanted, .ref q_t_hours, .ref q_t_had, .ref q_t_due, .ref q_t_leftHour, .ref q_t_leftPressure, .ref q_t_note, .ref q_t_past, .ref q_t_ahead, .ref q_t_gets, .int t_leftOver])), (q_t_kind, zI E 5 (upd t_kind t_wells.toNatClampNeg a1)), (q_t_wanted, zI E 5 (upd t_wanted t_wells.toNatClampNeg a2)), (q_t_hours, zI E 5 (upd t_hours t_wells.toNatClampNeg a3)), (q_t_had, zI E 5 t_had), (q_t_due, zI E 5 t_due)]) C 3 rfl c3 rfl dX1_addWell_40 ?_
    refine z_aload_n C dX1_addWell_41 rfl 0 rfl ?_
    refine z_get C inT_X1 0 rfl rfl 9 (by decide) rfl (mc W_105) rfl dX1_addWell_42 ?_
    refine z_aload_n C dX1_addWell_45 rfl 0 rfl ?_
    refine z_get C inT_X1 0 rfl rfl 2 (by decide) rfl (mc W_86) rfl dX1_addWell_46 ?_
    refine z_iconst (v := (0 : Int32)) C dX1_addWell_49 (by decide) ?_
    obtain ⟨c4, h⟩ := chk_some h
    refine z_iast (ws' := [(q_t, .inr (0, [.int t_pressure, .int t_day, .int t_wells, .int t_lefts, .int t_notes, .int t_undos, .ref q_t_kind, .ref q_t_wanted, .ref q_t_hours, .ref q_t_had, .ref q_t_due, .ref q_t_leftHour, .ref q_t_leftPressure, .ref q_t_note, .ref q_t_past, .ref q_t_ahead, .ref q_t_gets, .int t_leftOver])), (q_t_kind, zI E 5 (upd t_kind t_wells.toNatClampNeg a1)), (q_t_wanted, zI E 5 (upd t_wanted t_wells.toNatClampNeg a2)), (q_t_hours, zI E 5 (upd t_hours t_wells.toNatClampNeg a3)), (q_t_had, zI E 5 (upd t_had t_wells.toNatClampNeg (0 : Int32))), (q_t_due, zI E 5 t_due)]) C 4 rfl c4 rfl dX1_addWell_50 ?_
    refine z_aload_n C dX1_addWell_51 rfl 0 rfl ?_
    refine z_get C inT_X1 0 rfl rfl 10 (by decide) rfl (mc W_107) rfl dX1_addWell_52 ?_
    refine z_aload_n C dX1_addWell_55 rfl 0 rfl ?_
    refine z_get C inT_X1 0 rfl rfl 2 (by decide) rfl (mc W_86) rfl dX1_addWell_56 ?_
    refine z_iconst (v := (0 : Int32)) C dX1_addWell_59 (by decide) ?_
    obtain ⟨c5, h⟩ := chk_some h
    refine z_iast (ws' := [(q_t, .inr (0, [.int t_pressure, .int t_day, .int t_wells, .int t_lefts, .int t_notes, .int t_undos, .ref q_t_kind, .ref q_t_wanted, .ref q_t_hours, .ref q_t_had, .ref q_t_due, .ref q_t_leftHour, .ref q_t_leftPressure, .ref q_t_note, .ref q_t_past, .ref q_t_ahead, .ref q_t_gets, .int t_leftOver])), (q_t_kind, zI E 5 (upd t_kind t_wells.toNatClampNeg a1)), (q_t_wanted, zI E 5 (upd t_wanted t_wells.toNatClampNeg a2)), (q_t_hours, zI E 5 (upd t_hours t_wells.toNatClampNeg a3)), (q_t_had, zI E 5 (upd t_had t_wells.toNatClampNeg (0 : Int32))), (q_t_due, zI E 5 (upd t_due t_wells.toNatClampNeg (0 : Int32)))]) C 5 rfl c5 rfl dX1_addWell_60 ?_
    refine z_aload_n C dX1_addWell_61 rfl 0 rfl ?_
    refine z_iconst (v := (0 : Int32)) C dX1_addWell_62 (by decide) ?_
    refine z_put (ws' := [(q_t, .inr (0, [.int t_pressure, .int t_day, .int t_wells, .int t_lefts, .int t_notes, .int (0 : Int32), .ref q_t_kind, .ref q_t_wanted, .ref q_t_hours, .ref q_t_had, .ref q_t_due, .ref q_t_leftHour, .ref q_t_leftPressure, .ref q_t_note, .ref q_t_past, .ref q_t_ahead, .ref q_t_gets, .int t_leftOver])), (q_t_kind, zI E 5 (upd t_kind t_wells.toNatClampNeg a1)), (q_t_wanted, zI E 5 (upd t_wanted t_wells.toNatClampNeg a2)), (q_t_hours, zI E 5 (upd t_hours t_wells.toNatClampNeg a3)), (q_t_had, zI E 5 (upd t_had t_wells.toNatClampNeg (0 : Int32))), (q_t_due, zI E 5 (upd t_due t_wells.toNatClampNeg (0 : Int32)))]) C inT_X1 tyX1 tyX1_ok nmX1 0 rfl rfl 5 (by decide) rfl (mc W_94) rfl rfl rfl (Nat.le_of_ble_eq_true rfl) rfl dX1_addWell_63 ?_
    refine z_aload_n C dX1_addWell_66 rfl 0 rfl ?_
    refine z_dup C dX1_addWell_67 rfl ?_
    refine z_get C inT_X1 0 rfl rfl 2 (by decide) rfl (mc W_86) rfl dX1_addWell_68 ?_
    refine z_iconst (v := (1 : Int32)) C dX1_addWell_71 (by decide) ?_
    refine z_iadd C dX1_addWell_72 ?_
    refine z_put (ws' := [(q_t, .inr (0, [.int t_pressure, .int t_day, .int (t_wells + (1 : Int32)), .int t_lefts, .int t_notes, .int (0 : Int32), .ref q_t_kind, .ref q_t_wanted, .ref q_t_hours, .ref q_t_had, .ref q_t_due, .ref q_t_leftHour, .ref q_t_leftPressure, .ref q_t_note, .ref q_t_past, .ref q_t_ahead, .ref q_t_gets, .int t_leftOver])), (q_t_kind, zI E 5 (upd t_kind t_wells.toNatClampNeg a1)), (q_t_wanted, zI E 5 (upd t_wanted t_wells.toNatClampNeg a2)), (q_t_hours, zI E 5 (upd t_hours t_wells.toNatClampNeg a3)), (q_t_had, zI E 5 (upd t_had t_wells.toNatClampNeg (0 : Int32))), (q_t_due, zI E 5 (upd t_due t_wells.toNatClampNeg (0 : Int32)))]) C inT_X1 tyX1 tyX1_ok nmX1 0 rfl rfl 2 (by decide) rfl (mc W_86) rfl rfl rfl (Nat.le_of_ble_eq_true rfl) rfl dX1_addWell_73 ?_
    refine z_aload_n C dX1_addWell_76 rfl 0 rfl ?_
    refine z_get C inT_X1 0 rfl rfl 2 (by decide) rfl (mc W_86) rfl dX1_addWell_77 ?_
    refine z_iconst (v := (1 : Int32)) C dX1_addWell_80 (by decide) ?_
    refine z_isub C dX1_addWell_81 ?_
    obtain rfl := Option.some.inj h
    exact z_iret (v := (t_wells + (1 : Int32)) - (1 : Int32)) C hr dX1_addWell_82
  · replace h := (if_neg c).symm.trans h
    refine z_bipush (v := (-4 : Int32)) C dX1_addWell_8 (by decide) ?_
    obtain rfl := Option.some.inj h
    exact z_iret (v := (-4 : Int32)) C hr dX1_addWell_10
def rm_X1_addLeft : Room := { frames := 0, cells := 0, slots := 0, locals := 0 }
theorem hd_X1_addLeft : yX1_addLeft.cls = yX1_addLeft.cls ∧ yX1_addLeft.cls ≠ "java/lang/invoke/MethodHandle" ∧ yX1_addLeft.cls ≠ "java/lang/invoke/VarHandle" ∧ (parseMethodDescriptor yX1_addLeft.desc).map (fun d => d.parameters.length) = some 2 := by decide +kernel
abbrev wsX1_addLeft : List Cond := .code yX1_addLeft cX1_addLeft 3 (some .int) :: WALL
set_option maxRecDepth 100000 in
set_option maxHeartbeats 4000000 in
theorem c_X1_addLeft {l : Launch} {E : zE} {q_t q_t_leftHour q_t_leftPressure q_t_kind q_t_wanted q_t_hours q_t_had q_t_due q_t_note q_t_past q_t_ahead q_t_gets : Nat} {t_pressure : Int32} {t_day : Int32} {t_wells : Int32} {t_notes : Int32} {t_undos : Int32} {t_leftOver : Int32} {a1 : Int32} {a2 : Int32} {t_lefts : Int32} {t_leftHour : Nat → Int32} {t_leftPressure : Nat → Int32} {o : Int32 × Int32 × (Nat → Int32) × (Nat → Int32)} (F : Nat) (h : f_X1_addLeft F a1 a2 t_lefts t_leftHour t_leftPressure = some o) : zM l yX1_addLeft wsX1_addLeft rm_X1_addLeft E [.ref q_t, .int a1, .int a2] [(q_t, .inr (0, [.int t_pressure, .int t_day, .int t_wells, .int t_lefts, .int t_notes, .int t_undos, .ref q_t_kind, .ref q_t_wanted, .ref q_t_hours, .ref q_t_had, .ref q_t_due, .ref q_t_leftHour, .ref q_t_leftPressure, .ref q_t_note, .ref q_t_past, .ref q_t_ahead, .ref q_t_gets, .int t_leftOver])), (q_t_leftHour, zI E 4 t_leftHour), (q_t_leftPressure, zI E 4 t_leftPressure)] (some (.int o.1)) [(q_t, .inr (0, [.int t_pressure, .int t_day, .int t_wells, .int o.2.1, .int t_notes, .int t_undos, .ref q_t_kind, .ref q_t_wanted, .ref q_t_hours, .ref q_t_had, .ref q_t_due, .ref q_t_leftHour, .ref q_t_leftPressure, .ref q_t_note, .ref q_t_past, .ref q_t_ahead, .ref q_t_gets, .int t_leftOver])), (q_t_leftHour, zI E 4 o.2.2.1), (q_t_leftPressure, zI E 4 o.2.2.2)] := by
  refine zM.of (cc := cX1_addLeft) (maxL := 3) (ret := (some .int)) (by decide +kernel) rfl (Nat.le_of_ble_eq_true rfl) ?_
  intro p e s m args below meth c A C hr
  have C : zC p s m args c meth cX1_addLeft 3 RX1 wsX1_addLeft E A := C
  rw [f_X1_addLeft] at h
  refine z_aload_n C dX1_addLeft_0 rfl 0 rfl ?_
  refine z_get C inT_X1 0 rfl rfl 3 (by decide) rfl (mc W_90) rfl dX1_addLeft_1 ?_
  refine z_iconst (v := (4 : Int32)) C dX1_addLeft_4 (by decide) ?_
  refine z_icmp_lt (tgt := 11) C dX1_addLeft_5 (by decide) (fun c => ?_) (fun c => ?_)
  · replace h := (if_pos c).symm.trans h
    refine z_aload_n C dX1_addLeft_11 rfl 0 rfl ?_
    refine z_get C inT_X1 0 rfl rfl 11 (by decide) rfl (mc W_109) rfl dX1_addLeft_12 ?_
    refine z_aload_n C dX1_addLeft_15 rfl 0 rfl ?_
    refine z_get C inT_X1 0 rfl rfl 3 (by decide) rfl (mc W_90) rfl dX1_addLeft_16 ?_
    refine z_iload_n C dX1_addLeft_19 rfl 1 rfl ?_
    obtain ⟨c1, h⟩ := chk_some h
    refine z_iast (ws' := [(q_t, .inr (0, [.int t_pressure, .int t_day, .int t_wells, .int t_lefts, .int t_notes, .int t_undos, .ref q_t_kind, .ref q_t_wanted, .ref q_t_hours, .ref q_t_had, .ref q_t_due, .ref q_t_leftHour, .ref q_t_leftPressure, .ref q_t_note, .ref q_t_past, .ref q_t_ahead, .ref q_t_gets, .int t_leftOver])), (q_t_leftHour, zI E 4 (upd t_leftHour t_lefts.toNatClampNeg a1)), (q_t_leftPressure, zI E 4 t_leftPressure)]) C 1 rfl c1 rfl dX1_addLeft_20 ?_
    refine z_aload_n C dX1_addLeft_21 rfl 0 rfl ?_
    refine z_get C inT_X1 0 rfl rfl 12 (by decide) rfl (mc W_111) rfl dX1_addLeft_22 ?_
    refine z_aload_n C dX1_addLeft_25 rfl 0 rfl ?_
    refine z_get C inT_X1 0 rfl rfl 3 (by decide) rfl (mc W_90) rfl dX1_addLeft_26 ?_
    refine z_iload_n C dX1_addLeft_29 rfl 2 rfl ?_
    obtain ⟨c2, h⟩ := chk_some h
    refine z_iast (ws' := [(q_t, .inr (0, [.int t_pressure, .int t_day, .int t_wells, .int t_lefts, .int t_notes, .int t_undos, .ref q_t_kind, .ref q_t_wanted, .ref q_t_hours, .ref q_t_had, .ref q_t_due, .ref q_t_leftHour, .ref q_t_leftPressure, .ref q_t_note, .ref q_t_past, .ref q_t_ahead, .ref q_t_gets, .int t_leftOver])), (q_t_leftHour, zI E 4 (upd t_leftHour t_lefts.toNatClampNeg a1)), (q_t_leftPressure, zI E 4 (upd t_leftPressure t_lefts.toNatClampNeg a2))]) C 2 rfl c2 rfl dX1_addLeft_30 ?_
    refine z_aload_n C dX1_addLeft_31 rfl 0 rfl ?_
    refine z_dup C dX1_addLeft_32 rfl ?_
    refine z_get C inT_X1 0 rfl rfl 3 (by decide) rfl (mc W_90) rfl dX1_addLeft_33 ?_
    refine z_iconst (v := (1 : Int32)) C dX1_addLeft_36 (by decide) ?_
    refine z_iadd C dX1_addLeft_37 ?_
    refine z_put (ws' := [(q_t, .inr (0, [.int t_pressure, .int t_day, .int t_wells, .int (t_lefts + (1 : Int32)), .int t_notes, .int t_undos, .ref q_t_kind, .ref q_t_wanted, .ref q_t_hours, .ref q_t_had, .ref q_t_due, .ref q_t_leftHour, .ref q_t_leftPressure, .ref q_t_note, .ref q_t_past, .ref q_t_ahead, .ref q_t_gets, .int t_leftOver])), (q_t_leftHour, zI E 4 (upd t_leftHour t_lefts.toNatClampNeg a1)), (q_t_leftPressure, zI E 4 (upd t_leftPressure t_lefts.toNatClampNeg a2))]) C inT_X1 tyX1 tyX1_ok nmX1 0 rfl rfl 3 (by decide) rfl (mc W_90) rfl rfl rfl (Nat.le_of_ble_eq_true rfl) rfl dX1_addLeft_38 ?_
    refine z_aload_n C dX1_addLeft_41 rfl 0 rfl ?_
    refine z_get C inT_X1 0 rfl rfl 3 (by decide) rfl (mc W_90) rfl dX1_addLeft_42 ?_
    obtain rfl := Option.some.inj h
    exact z_iret (v := t_lefts + (1 : Int32)) C hr dX1_addLeft_45
  · replace h := (if_neg c).symm.trans h
    refine z_bipush (v := (-4 : Int32)) C dX1_addLeft_8 (by decide) ?_
    obtain rfl := Option.some.inj h
    exact z_iret (v := (-4 : Int32)) C hr dX1_addLeft_10
def rm_X1_addNote : Room := { frames := 0, cells := 0, slots := 0, locals := 0 }
theorem hd_X1_addNote : yX1_addNote.cls = yX1_addNote.cls ∧ yX1_addNote.cls ≠ "java/lang/invoke/MethodHandle" ∧ yX1_addNote.cls ≠ "java/lang/invoke/VarHandle" ∧ (parseMethodDescriptor yX1_addNote.desc).map (fun d => d.parameters.length) = some 6 := by decide +kernel
abbrev wsX1_addNote : List Cond := .code yX1_addNote cX1_addNote 8 (some .int) :: WALL
set_option maxRecDepth 100000 in
set_option maxHeartbeats 4000000 in
theorem c_X1_addNote {l : Launch} {E : zE} {q_t q_t_note q_t_kind q_t_wanted q_t_hours q_t_had q_t_due q_t_leftHour q_t_leftPressure q_t_past q_t_ahead q_t_gets : Nat} {t_pressure : Int32} {t_day : Int32} {t_wells : Int32} {t_lefts : Int32} {t_undos : Int32} {t_leftOver : Int32} {a1 : Int32} {a2 : Int32} {a3 : Int32} {a4 : Int32} {a5 : Int32} {a6 : Int32} {t_notes : Int32} {t_note : Nat → Int32} {o : Int32 × Int32 × (Nat → Int32)} (F : Nat) (h : f_X1_addNote F a1 a2 a3 a4 a5 a6 t_notes t_note = some o) : zM l yX1_addNote wsX1_addNote rm_X1_addNote E [.ref q_t, .int a1, .int a2, .int a3, .int a4, .int a5, .int a6] [(q_t, .inr (0, [.int t_pressure, .int t_day, .int t_wells, .int t_lefts, .int t_notes, .int t_undos, .ref q_t_kind, .ref q_t_wanted, .ref q_t_hours, .ref q_t_had, .ref q_t_due, .ref q_t_leftHour, .ref q_t_leftPressure, .ref q_t_note, .ref q_t_past, .ref q_t_ahead, .ref q_t_gets, .int t_leftOver])), (q_t_note, zI E 36 t_note)] (some (.int o.1)) [(q_t, .inr (0, [.int t_pressure, .int t_day, .int t_wells, .int t_lefts, .int o.2.1, .int t_undos, .ref q_t_kind, .ref q_t_wanted, .ref q_t_hours, .ref q_t_had, .ref q_t_due, .ref q_t_leftHour, .ref q_t_leftPressure, .ref q_t_note, .ref q_t_past, .ref q_t_ahead, .ref q_t_gets, .int t_leftOver])), (q_t_note, zI E 36 o.2.2)] := by
  refine zM.of (cc := cX1_addNote) (maxL := 8) (ret := (some .int)) (by decide +kernel) rfl (Nat.le_of_ble_eq_true rfl) ?_
  intro p e s m args below meth c A C hr
  have C : zC p s m args c meth cX1_addNote 8 RX1 wsX1_addNote E A := C
  rw [f_X1_addNote] at h
  refine z_aload_n C dX1_addNote_0 rfl 0 rfl ?_
  refine z_get C inT_X1 0 rfl rfl 4 (by decide) rfl (mc W_92) rfl dX1_addNote_1 ?_
  refine z_bipush (v := (6 : Int32)) C dX1_addNote_4 (by decide) ?_
  refine z_icmp_lt (tgt := 12) C dX1_addNote_6 (by decide) (fun c => ?_) (fun c => ?_)
  · replace h := (if_pos c).symm.trans h
    refine z_aload_n C dX1_addNote_12 rfl 0 rfl ?_
    refine z_get C inT_X1 0 rfl rfl 4 (by decide) rfl (mc W_92) rfl dX1_addNote_13 ?_
    refine z_bipush (v := (6 : Int32)) C dX1_addNote_16 (by decide) ?_
    refine z_imul C dX1_addNote_18 ?_
    refine z_istore (L' := [(7, .int (t_notes * (6 : Int32))), (0, .ref q_t), (1, .int a1), (2, .int a2), (3, .int a3), (4, .int a4), (5, .int a5), (6, .int a6)]) C dX1_addNote_19 (by decide) rfl ?_
    refine z_aload_n C dX1_addNote_21 rfl 1 rfl ?_
    refine z_get C inT_X1 0 rfl rfl 13 (by decide) rfl (mc W_113) rfl dX1_addNote_22 ?_
    refine z_iload C dX1_addNote_25 0 rfl ?_
    refine z_iload_n C dX1_addNote_27 rfl 2 rfl ?_
    obtain ⟨c1, h⟩ := chk_some h
    refine z_iast (ws' := [(q_t, .inr (0, [.int t_pressure, .int t_day, .int t_wells, .int t_lefts, .int t_notes, .int t_undos, .ref q_t_kind, .ref q_t_wanted, .ref q_t_hours, .ref q_t_had, .ref q_t_due, .ref q_t_leftHour, .ref q_t_leftPressure, .ref q_t_note, .ref q_t_past, .ref q_t_ahead, .ref q_t_gets, .int t_leftOver])), (q_t_note, zI E 36 (upd t_note (t_notes * (6 : Int32)).toNatClampNeg a1))]) C 1 rfl c1 rfl dX1_addNote_28 ?_
    refine z_aload_n C dX1_addNote_29 rfl 1 rfl ?_
    refine z_get C inT_X1 0 rfl rfl 13 (by decide) rfl (mc W_113) rfl dX1_addNote_30 ?_
    refine z_iload C dX1_addNote_33 0 rfl ?_
    refine z_iconst (v := (1 : Int32)) C dX1_addNote_35 (by decide) ?_
    refine z_iadd C dX1_addNote_36 ?_
    refine z_iload_n C dX1_addNote_37 rfl 3 rfl ?_
    obtain ⟨c2, h⟩ := chk_some h
    refine z_iast (ws' := [(q_t, .inr (0, [.int t_pressure, .int t_day, .int t_wells, .int t_lefts, .int t_notes, .int t_undos, .ref q_t_kind, .ref q_t_wanted, .ref q_t_hours, .ref q_t_had, .ref q_t_due, .ref q_t_leftHour, .ref q_t_leftPressure, .ref q_t_note, .ref q_t_past, .ref q_t_ahead, .ref q_t_gets, .int t_leftOver])), (q_t_note, zI E 36 (upd (upd t_note (t_notes * (6 : Int32)).toNatClampNeg a1) ((t_notes * (6 : Int32)) + (1 : Int32)).toNatClampNeg a2))]) C 1 rfl c2 rfl dX1_addNote_38 ?_
    refine z_aload_n C dX1_addNote_39 rfl 1 rfl ?_
    refine z_get C inT_X1 0 rfl rfl 13 (by decide) rfl (mc W_113) rfl dX1_addNote_40 ?_
    refine z_iload C dX1_addNote_43 0 rfl ?_
    refine z_iconst (v := (2 : Int32)) C dX1_addNote_45 (by decide) ?_
    refine z_iadd C dX1_addNote_46 ?_
    refine z_iload_n C dX1_addNote_47 rfl 4 rfl ?_
    obtain ⟨c3, h⟩ := chk_some h
    refine z_iast (ws' := [(q_t, .inr (0, [.int t_pressure, .int t_day, .int t_wells, .int t_lefts, .int t_notes, .int t_undos, .ref q_t_kind, .ref q_t_wanted, .ref q_t_hours, .ref q_t_had, .ref q_t_due, .ref q_t_leftHour, .ref q_t_leftPressure, .ref q_t_note, .ref q_t_past, .ref q_t_ahead, .ref q_t_gets, .int t_leftOver])), (q_t_note, zI E 36 (upd (upd (upd t_note (t_notes * (6 : Int32)).toNatClampNeg a1) ((t_notes * (6 : Int32)) + (1 : Int32)).toNatClampNeg a2) ((t_notes * (6 : Int32)) + (2 : Int32)).toNatClampNeg a3))]) C 1 rfl c3 rfl dX1_addNote_48 ?_
    refine z_aload_n C dX1_addNote_49 rfl 1 rfl ?_
    refine z_get C inT_X1 0 rfl rfl 13 (by decide) rfl (mc W_113) rfl dX1_addNote_50 ?_
    refine z_iload C dX1_addNote_53 0 rfl ?_
    refine z_iconst (v := (3 : Int32)) C dX1_addNote_55 (by decide) ?_
    refine z_iadd C dX1_addNote_56 ?_
    refine z_iload C dX1_addNote_57 5 rfl ?_
    obtain ⟨c4, h⟩ := chk_some h
    refine z_iast (ws' := [(q_t, .inr (0, [.int t_pressure, .int t_day, .int t_wells, .int t_lefts, .int t_notes, .int t_undos, .ref q_t_kind, .ref q_t_wanted, .ref q_t_hours, .ref q_t_had, .ref q_t_due, .ref q_t_leftHour, .ref q_t_leftPressure, .ref q_t_note, .ref q_t_past, .ref q_t_ahead, .ref q_t_gets, .int t_leftOver])), (q_t_note, zI E 36 (upd (upd (upd (upd t_note (t_notes * (6 : Int32)).toNatClampNeg a1) ((t_notes * (6 : Int32)) + (1 : Int32)).toNatClampNeg a2) ((t_notes * (6 : Int32)) + (2 : Int32)).toNatClampNeg a3) ((t_notes * (6 : Int32)) + (3 : Int32)).toNatClampNeg a4))]) C 1 rfl c4 rfl dX1_addNote_59 ?_
    refine z_aload_n C dX1_addNote_60 rfl 1 rfl ?_
    refine z_get C inT_X1 0 rfl rfl 13 (by decide) rfl (mc W_113) rfl dX1_addNote_61 ?_
    refine z_iload C dX1_addNote_64 0 rfl ?_
    refine z_iconst (v := (4 : Int32)) C dX1_addNote_66 (by decide) ?_
    refine z_iadd C dX1_addNote_67 ?_
    refine z_iload C dX1_addNote_68 6 rfl ?_
    obtain ⟨c5, h⟩ := chk_some h
    refine z_iast (ws' := [(q_t, .inr (0, [.int t_pressure, .int t_day, .int t_wells, .int t_lefts, .int t_notes, .int t_undos, .ref q_t_kind, .ref q_t_wanted, .ref q_t_hours, .ref q_t_had, .ref q_t_due, .ref q_t_leftHour, .ref q_t_leftPressure, .ref q_t_note, .ref q_t_past, .ref q_t_ahead, .ref q_t_gets, .int t_leftOver])), (q_t_note, zI E 36 (upd (upd (upd (upd (upd t_note (t_notes * (6 : Int32)).toNatClampNeg a1) ((t_notes * (6 : Int32)) + (1 : Int32)).toNatClampNeg a2) ((t_notes * (6 : Int32)) + (2 : Int32)).toNatClampNeg a3) ((t_notes * (6 : Int32)) + (3 : Int32)).toNatClampNeg a4) ((t_notes * (6 : Int32)) + (4 : Int32)).toNatClampNeg a5))]) C 1 rfl c5 rfl dX1_addNote_70 ?_
    refine z_aload_n C dX1_addNote_71 rfl 1 rfl ?_
    refine z_get C inT_X1 0 rfl rfl 13 (by decide) rfl (mc W_113) rfl dX1_addNote_72 ?_
    refine z_iload C dX1_addNote_75 0 rfl ?_
    refine z_iconst (v := (5 : Int32)) C dX1_addNote_77 (by decide) ?_
    refine z_iadd C dX1_addNote_78 ?_
    refine z_iload C dX1_addNote_79 7 rfl ?_
    obtain ⟨c6, h⟩ := chk_some h
    refine z_iast (ws' := [(q_t, .inr (0, [.int t_pressure, .int t_day, .int t_wells, .int t_lefts, .int t_notes, .int t_undos, .ref q_t_kind, .ref q_t_wanted, .ref q_t_hours, .ref q_t_had, .ref q_t_due, .ref q_t_leftHour, .ref q_t_leftPressure, .ref q_t_note, .ref q_t_past, .ref q_t_ahead, .ref q_t_gets, .int t_leftOver])), (q_t_note, zI E 36 (upd (upd (upd (upd (upd (upd t_note (t_notes * (6 : Int32)).toNatClampNeg a1) ((t_notes * (6 : Int32)) + (1 : Int32)).toNatClampNeg a2) ((t_notes * (6 : Int32)) + (2 : Int32)).toNatClampNeg a3) ((t_notes * (6 : Int32)) + (3 : Int32)).toNatClampNeg a4) ((t_notes * (6 : Int32)) + (4 : Int32)).toNatClampNeg a5) ((t_notes * (6 : Int32)) + (5 : Int32)).toNatClampNeg a6))]) C 1 rfl c6 rfl dX1_addNote_81 ?_
    refine z_aload_n C dX1_addNote_82 rfl 1 rfl ?_
    refine z_dup C dX1_addNote_83 rfl ?_
    refine z_get C inT_X1 0 rfl rfl 4 (by decide) rfl (mc W_92) rfl dX1_addNote_84 ?_
    refine z_iconst (v := (1 : Int32)) C dX1_addNote_87 (by decide) ?_
    refine z_iadd C dX1_addNote_88 ?_
    refine z_put (ws' := [(q_t, .inr (0, [.int t_pressure, .int t_day, .int t_wells, .int t_lefts, .int (t_notes + (1 : Int32)), .int t_undos, .ref q_t_kind, .ref q_t_wanted, .ref q_t_hours, .ref q_t_had, .ref q_t_due, .ref q_t_leftHour, .ref q_t_leftPressure, .ref q_t_note, .ref q_t_past, .ref q_t_ahead, .ref q_t_gets, .int t_leftOver])), (q_t_note, zI E 36 (upd (upd (upd (upd (upd (upd t_note (t_notes * (6 : Int32)).toNatClampNeg a1) ((t_notes * (6 : Int32)) + (1 : Int32)).toNatClampNeg a2) ((t_notes * (6 : Int32)) + (2 : Int32)).toNatClampNeg a3) ((t_notes * (6 : Int32)) + (3 : Int32)).toNatClampNeg a4) ((t_notes * (6 : Int32)) + (4 : Int32)).toNatClampNeg a5) ((t_notes * (6 : Int32)) + (5 : Int32)).toNatClampNeg a6))]) C inT_X1 tyX1 tyX1_ok nmX1 0 rfl rfl 4 (by decide) rfl (mc W_92) rfl rfl rfl (Nat.le_of_ble_eq_true rfl) rfl dX1_addNote_89 ?_
    refine z_aload_n C dX1_addNote_92 rfl 1 rfl ?_
    refine z_get C inT_X1 0 rfl rfl 4 (by decide) rfl (mc W_92) rfl dX1_addNote_93 ?_
    obtain rfl := Option.some.inj h
    exact z_iret (v := t_notes + (1 : Int32)) C hr dX1_addNote_96
  · replace h := (if_neg c).symm.trans h
    refine z_bipush (v := (-4 : Int32)) C dX1_addNote_9 (by decide) ?_
    obtain rfl := Option.some.inj h
    exact z_iret (v := (-4 : Int32)) C hr dX1_addNote_11
def rm_X1_remember : Room := { frames := 1, cells := 0, slots := 0, locals := 40 }
theorem hd_X1_remember : yX1_remember.cls = yX1_remember.cls ∧ yX1_remember.cls ≠ "java/lang/invoke/MethodHandle" ∧ yX1_remember.cls ≠ "java/lang/invoke/VarHandle" ∧ (parseMethodDescriptor yX1_remember.desc).map (fun d => d.parameters.length) = some 0 := by decide +kernel
abbrev wsX1_remember : List Cond := .code yX1_remember cX1_remember 2 none :: WALL
set_option maxRecDepth 100000 in
set_option maxHeartbeats 4000000 in
theorem l_X1_remember_b36 {p : Program} {l : Launch} {e : Env} {s : State} {m : MethodId} {args : Array Value} {below : List Frame} {meth : Method} {c : Code} {E : zE} {A : Nat → Prop} {q_t q_t_past q_t_wanted q_t_hours q_t_had q_t_due q_t_kind q_t_leftHour q_t_leftPressure q_t_note q_t_ahead q_t_gets : Nat} {t_wells : Int32} {t_lefts : Int32} {t_notes : Int32} {t_leftOver : Int32} {o : Int32 × (Nat → Int32)} (F : Nat) (t_pressure : Int32) (t_day : Int32) (t_wanted : Nat → Int32) (t_hours : Nat → Int32) (t_had : Nat → Int32) (t_due : Nat → Int32) (C : zC p s m args c meth cX1_remember 2 RX1 wsX1_remember E A) (hr : meth.sig.returnType = none) : ∀  (t_undos : Int32) (t_past : Nat → Int32), f_X1_remember_b36 F t_pressure t_day t_wanted t_hours t_had t_due t_undos t_past = some o → zG p l e rm_X1_remember s m args below meth c 2 E A 0 0 (MQ below (zQ E A none [(q_t, .inr (0, [.int t_pressure, .int t_day, .int t_wells, .int t_lefts, .int t_notes, .int o.1, .ref q_t_kind, .ref q_t_wanted, .ref q_t_hours, .ref q_t_had, .ref q_t_due, .ref q_t_leftHour, .ref q_t_leftPressure, .ref q_t_note, .ref q_t_past, .ref q_t_ahead, .ref q_t_gets, .int t_leftOver])), (q_t_past, zI E 176 o.2), (q_t_wanted, zI E 5 t_wanted), (q_t_hours, zI E 5 t_hours), (q_t_had, zI E 5 t_had), (q_t_due, zI E 5 t_due)]) args s 0 0 A) [(q_t, .inr (0, [.int t_pressure, .int t_day, .int t_wells, .int t_lefts, .int t_notes, .int t_undos, .ref q_t_kind, .ref q_t_wanted, .ref q_t_hours, .ref q_t_had, .ref q_t_due, .ref q_t_leftHour, .ref q_t_leftPressure, .ref q_t_note, .ref q_t_past, .ref q_t_ahead, .ref q_t_gets, .int t_leftOver])), (q_t_past, zI E 176 t_past), (q_t_wanted, zI E 5 t_wanted), (q_t_hours, zI E 5 t_hours), (q_t_had, zI E 5 t_had), (q_t_due, zI E 5 t_due)] 36 [(0, .ref q_t)] [] := by
  intro t_undos t_past h
  rw [f_X1_remember_b36] at h
  refine z_aload_n C dX1_remember_36 rfl 0 rfl ?_
  refine z_get C inT_X1 0 rfl rfl 5 (by decide) rfl (mc W_94) rfl dX1_remember_37 ?_
  refine z_bipush (v := (22 : Int32)) C dX1_remember_40 (by decide) ?_
  refine z_imul C dX1_remember_42 ?_
  refine z_istore_n (L' := [(1, .int (t_undos * (22 : Int32))), (0, .ref q_t)]) C dX1_remember_43 rfl (by decide) rfl ?_
  refine z_aload_n C dX1_remember_44 rfl 1 rfl ?_
  refine z_get C inT_X1 0 rfl rfl 14 (by decide) rfl (mc W_115) rfl dX1_remember_45 ?_
  refine z_iload_n C dX1_remember_48 rfl 0 rfl ?_
  refine z_aload_n C dX1_remember_49 rfl 1 rfl ?_
  refine z_get C inT_X1 0 rfl rfl 0 (by decide) rfl (mc W_80) rfl dX1_remember_50 ?_
  obtain ⟨c2, h⟩ := chk_some h
  refine z_iast (ws' := [(q_t, .inr (0, [.int t_pressure, .int t_day, .int t_wells, .int t_lefts, .int t_notes, .int t_undos, .ref q_t_kind, .ref q_t_wanted, .ref q_t_hours, .ref q_t_had, .ref q_t_due, .ref q_t_leftHour, .ref q_t_leftPressure, .ref q_t_note, .ref q_t_past, .ref q_t_ahead, .ref q_t_gets, .int t_leftOver])), (q_t_past, zI E 176 (upd t_past (t_undos * (22 : Int32)).toNatClampNeg t_pressure)), (q_t_wanted, zI E 5 t_wanted), (q_t_hours, zI E 5 t_hours), (q_t_had, zI E 5 t_had), (q_t_due, zI E 5 t_due)]) C 1 rfl c2 rfl dX1_remember_53 ?_
  refine z_aload_n C dX1_remember_54 rfl 1 rfl ?_
  refine z_get C inT_X1 0 rfl rfl 14 (by decide) rfl (mc W_115) rfl dX1_remember_55 ?_
  refine z_iload_n C dX1_remember_58 rfl 0 rfl ?_
  refine z_iconst (v := (1 : Int32)) C dX1_remember_59 (by decide) ?_
  refine z_iadd C dX1_remember_60 ?_
  refine z_aload_n C dX1_remember_61 rfl 1 rfl ?_
  refine z_get C inT_X1 0 rfl rfl 1 (by decide) rfl (mc W_84) rfl dX1_remember_62 ?_
  obtain ⟨c3, h⟩ := chk_some h
  refine z_iast (ws' := [(q_t, .inr (0, [.int t_pressure, .int t_day, .int t_wells, .int t_lefts, .int t_notes, .int t_undos, .ref q_t_kind, .ref q_t_wanted, .ref q_t_hours, .ref q_t_had, .ref q_t_due, .ref q_t_leftHour, .ref q_t_leftPressure, .ref q_t_note, .ref q_t_past, .ref q_t_ahead, .ref q_t_gets, .int t_leftOver])), (q_t_past, zI E 176 (upd (upd t_past (t_undos * (22 : Int32)).toNatClampNeg t_pressure) ((t_undos * (22 : Int32)) + (1 : Int32)).toNatClampNeg t_day)), (q_t_wanted, zI E 5 t_wanted), (q_t_hours, zI E 5 t_hours), (q_t_had, zI E 5 t_had), (q_t_due, zI E 5 t_due)]) C 1 rfl c3 rfl dX1_remember_65 ?_
  refine z_aload_n C dX1_remember_66 rfl 1 rfl ?_
  refine z_get C inT_X1 0 rfl rfl 7 (by decide) rfl (mc W_99) rfl dX1_remember_67 ?_
  refine z_iconst (v := (0 : Int32)) C dX1_remember_70 (by decide) ?_
  refine z_aload_n C dX1_remember_71 rfl 1 rfl ?_
  refine z_get C inT_X1 0 rfl rfl 14 (by decide) rfl (mc W_115) rfl dX1_remember_72 ?_
  refine z_iload_n C dX1_remember_75 rfl 0 rfl ?_
  refine z_iconst (v := (2 : Int32)) C dX1_remember_76 (by decide) ?_
  refine z_iadd C dX1_remember_77 ?_
  refine z_iconst (v := (5 : Int32)) C dX1_remember_78 (by decide) ?_
  obtain ⟨c4, h⟩ := chk_some h
  refine z_copy (ws' := [(q_t, .inr (0, [.int t_pressure, .int t_day, .int t_wells, .int t_lefts, .int t_notes, .int t_undos, .ref q_t_kind, .ref q_t_wanted, .ref q_t_hours, .ref q_t_had, .ref q_t_due, .ref q_t_leftHour, .ref q_t_leftPressure, .ref q_t_note, .ref q_t_past, .ref q_t_ahead, .ref q_t_gets, .int t_leftOver])), (q_t_past, zI E 176 (va_cpy t_wanted (upd (upd t_past (t_undos * (22 : Int32)).toNatClampNeg t_pressure) ((t_undos * (22 : Int32)) + (1 : Int32)).toNatClampNeg t_day) (0 : Int32).toNatClampNeg ((t_undos * (22 : Int32)) + (2 : Int32)).toNatClampNeg (5 : Int32).toNatClampNeg)), (q_t_wanted, zI E 5 t_wanted), (q_t_hours, zI E 5 t_hours), (q_t_had, zI E 5 t_had), (q_t_due, zI E 5 t_due)]) C 2 1 rfl rfl c4 rfl (mc W_388) (mc W_390) (mc W_389) (mc W_65) (Nat.le_of_ble_eq_true rfl) (Nat.le_of_ble_eq_true rfl) dX1_remember_79 ?_
  refine z_aload_n C dX1_remember_82 rfl 1 rfl ?_
  refine z_get C inT_X1 0 rfl rfl 8 (by decide) rfl (mc W_102) rfl dX1_remember_83 ?_
  refine z_iconst (v := (0 : Int32)) C dX1_remember_86 (by decide) ?_
  refine z_aload_n C dX1_remember_87 rfl 1 rfl ?_
  refine z_get C inT_X1 0 rfl rfl 14 (by decide) rfl (mc W_115) rfl dX1_remember_88 ?_
  refine z_iload_n C dX1_remember_91 rfl 0 rfl ?_
  refine z_iconst (v := (2 : Int32)) C dX1_remember_92 (by decide) ?_
  refine z_iadd C dX1_remember_93 ?_
  refine z_iconst (v := (5 : Int32)) C dX1_remember_94 (by decide) ?_
  refine z_iadd C dX1_remember_95 ?_
  refine z_iconst (v := (5 : Int32)) C dX1_remember_96 (by decide) ?_
  obtain ⟨c5, h⟩ := chk_some h
  refine z_copy (ws' := [(q_t, .inr (0, [.int t_pressure, .int t_day, .int t_wells, .int t_lefts, .int t_notes, .int t_undos, .ref q_t_kind, .ref q_t_wanted, .ref q_t_hours, .ref q_t_had, .ref q_t_due, .ref q_t_leftHour, .ref q_t_leftPressure, .ref q_t_note, .ref q_t_past, .ref q_t_ahead, .ref q_t_gets, .int t_leftOver])), (q_t_past, zI E 176 (va_cpy t_hours (va_cpy t_wanted (upd (upd t_past (t_undos * (22 : Int32)).toNatClampNeg t_pressure) ((t_undos * (22 : Int32)) + (1 : Int32)).toNatClampNeg t_day) (0 : Int32).toNatClampNeg ((t_undos * (22 : Int32)) + (2 : Int32)).toNatClampNeg (5 : Int32).toNatClampNeg) (0 : Int32).toNatClampNeg (((t_undos * (22 : Int32)) + (2 : Int32)) + (5 : Int32)).toNatClampNeg (5 : Int32).toNatClampNeg)), (q_t_wanted, zI E 5 t_wanted), (q_t_hours, zI E 5 t_hours), (q_t_had, zI E 5 t_had), (q_t_due, zI E 5 t_due)]) C 3 1 rfl rfl c5 rfl (mc W_388) (mc W_390) (mc W_389) (mc W_65) (Nat.le_of_ble_eq_true rfl) (Nat.le_of_ble_eq_true rfl) dX1_remember_97 ?_
  refine z_aload_n C dX1_remember_100 rfl 1 rfl ?_
  refine z_get C inT_X1 0 rfl rfl 9 (by decide) rfl (mc W_105) rfl dX1_remember_101 ?_
  refine z_iconst (v := (0 : Int32)) C dX1_remember_104 (by decide) ?_
  refine z_aload_n C dX1_remember_105 rfl 1 rfl ?_
  refine z_get C inT_X1 0 rfl rfl 14 (by decide) rfl (mc W_115) rfl dX1_remember_106 ?_
  refine z_iload_n C dX1_remember_109 rfl 0 rfl ?_
  refine z_iconst (v := (2 : Int32)) C dX1_remember_110 (by decide) ?_
  refine z_iadd C dX1_remember_111 ?_
  refine z_bipush (v := (10 : Int32)) C dX1_remember_112 (by decide) ?_
  refine z_iadd C dX1_remember_114 ?_
  refine z_iconst (v := (5 : Int32)) C dX1_remember_115 (by decide) ?_
  obtain ⟨c6, h⟩ := chk_some h
  refine z_copy (ws' := [(q_t, .inr (0, [.int t_pressure, .int t_day, .int t_wells, .int t_lefts, .int t_notes, .int t_undos, .ref q_t_kind, .ref q_t_wanted, .ref q_t_hours, .ref q_t_had, .ref q_t_due, .ref q_t_leftHour, .ref q_t_leftPressure, .ref q_t_note, .ref q_t_past, .ref q_t_ahead, .ref q_t_gets, .int t_leftOver])), (q_t_past, zI E 176 (va_cpy t_had (va_cpy t_hours (va_cpy t_wanted (upd (upd t_past (t_undos * (22 : Int32)).toNatClampNeg t_pressure) ((t_undos * (22 : Int32)) + (1 : Int32)).toNatClampNeg t_day) (0 : Int32).toNatClampNeg ((t_undos * (22 : Int32)) + (2 : Int32)).toNatClampNeg (5 : Int32).toNatClampNeg) (0 : Int32).toNatClampNeg (((t_undos * (22 : Int32)) + (2 : Int32)) + (5 : Int32)).toNatClampNeg (5 : Int32).toNatClampNeg) (0 : Int32).toNatClampNeg (((t_undos * (22 : Int32)) + (2 : Int32)) + (10 : Int32)).toNatClampNeg (5 : Int32).toNatClampNeg)), (q_t_wanted, zI E 5 t_wanted), (q_t_hours, zI E 5 t_hours), (q_t_had, zI E 5 t_had), (q_t_due, zI E 5 t_due)]) C 4 1 rfl rfl c6 rfl (mc W_388) (mc W_390) (mc W_389) (mc W_65) (Nat.le_of_ble_eq_true rfl) (Nat.le_of_ble_eq_true rfl) dX1_remember_116 ?_
  refine z_aload_n C dX1_remember_119 rfl 1 rfl ?_
  refine z_get C inT_X1 0 rfl rfl 10 (by decide) rfl (mc W_107) rfl dX1_remember_120 ?_
  refine z_iconst (v := (0 : Int32)) C dX1_remember_123 (by decide) ?_
  refine z_aload_n C dX1_remember_124 rfl 1 rfl ?_
  refine z_get C inT_X1 0 rfl rfl 14 (by decide) rfl (mc W_115) rfl dX1_remember_125 ?_
  refine z_iload_n C dX1_remember_128 rfl 0 rfl ?_
  refine z_iconst (v := (2 : Int32)) C dX1_remember_129 (by decide) ?_
  refine z_iadd C dX1_remember_130 ?_
  refine z_bipush (v := (15 : Int32)) C dX1_remember_131 (by decide) ?_
  refine z_iadd C dX1_remember_133 ?_
  refine z_iconst (v := (5 : Int32)) C dX1_remember_134 (by decide) ?_
  obtain ⟨c7, h⟩ := chk_some h
  refine z_copy (ws' := [(q_t, .inr (0, [.int t_pressure, .int t_day, .int t_wells, .int t_lefts, .int t_notes, .int t_undos, .ref q_t_kind, .ref q_t_wanted, .ref q_t_hours, .ref q_t_had, .ref q_t_due, .ref q_t_leftHour, .ref q_t_leftPressure, .ref q_t_note, .ref q_t_past, .ref q_t_ahead, .ref q_t_gets, .int t_leftOver])), (q_t_past, zI E 176 (va_cpy t_due (va_cpy t_had (va_cpy t_hours (va_cpy t_wanted (upd (upd t_past (t_undos * (22 : Int32)).toNatClampNeg t_pressure) ((t_undos * (22 : Int32)) + (1 : Int32)).toNatClampNeg t_day) (0 : Int32).toNatClampNeg ((t_undos * (22 : Int32)) + (2 : Int32)).toNatClampNeg (5 : Int32).toNatClampNeg) (0 : Int32).toNatClampNeg (((t_undos * (22 : Int32)) + (2 : Int32)) + (5 : Int32)).toNatClampNeg (5 : Int32).toNatClampNeg) (0 : Int32).toNatClampNeg (((t_undos * (22 : Int32)) + (2 : Int32)) + (10 : Int32)).toNatClampNeg (5 : Int32).toNatClampNeg) (0 : Int32).toNatClampNeg (((t_undos * (22 : Int32)) + (2 : Int32)) + (15 : Int32)).toNatClampNeg (5 : Int32).toNatClampNeg)), (q_t_wanted, zI E 5 t_wanted), (q_t_hours, zI E 5 t_hours), (q_t_had, zI E 5 t_had), (q_t_due, zI E 5 t_due)]) C 5 1 rfl rfl c7 rfl (mc W_388) (mc W_390) (mc W_389) (mc W_65) (Nat.le_of_ble_eq_true rfl) (Nat.le_of_ble_eq_true rfl) dX1_remember_135 ?_
  refine z_aload_n C dX1_remember_138 rfl 1 rfl ?_
  refine z_dup C dX1_remember_139 rfl ?_
  refine z_get C inT_X1 0 rfl rfl 5 (by decide) rfl (mc W_94) rfl dX1_remember_140 ?_
  refine z_iconst (v := (1 : Int32)) C dX1_remember_143 (by decide) ?_
  refine z_iadd C dX1_remember_144 ?_
  refine z_put (ws' := [(q_t, .inr (0, [.int t_pressure, .int t_day, .int t_wells, .int t_lefts, .int t_notes, .int (t_undos + (1 : Int32)), .ref q_t_kind, .ref q_t_wanted, .ref q_t_hours, .ref q_t_had, .ref q_t_due, .ref q_t_leftHour, .ref q_t_leftPressure, .ref q_t_note, .ref q_t_past, .ref q_t_ahead, .ref q_t_gets, .int t_leftOver])), (q_t_past, zI E 176 (va_cpy t_due (va_cpy t_had (va_cpy t_hours (va_cpy t_wanted (upd (upd t_past (t_undos * (22 : Int32)).toNatClampNeg t_pressure) ((t_undos * (22 : Int32)) + (1 : Int32)).toNatClampNeg t_day) (0 : Int32).toNatClampNeg ((t_undos * (22 : Int32)) + (2 : Int32)).toNatClampNeg (5 : Int32).toNatClampNeg) (0 : Int32).toNatClampNeg (((t_undos * (22 : Int32)) + (2 : Int32)) + (5 : Int32)).toNatClampNeg (5 : Int32).toNatClampNeg) (0 : Int32).toNatClampNeg (((t_undos * (22 : Int32)) + (2 : Int32)) + (10 : Int32)).toNatClampNeg (5 : Int32).toNatClampNeg) (0 : Int32).toNatClampNeg (((t_undos * (22 : Int32)) + (2 : Int32)) + (15 : Int32)).toNatClampNeg (5 : Int32).toNatClampNeg)), (q_t_wanted, zI E 5 t_wanted), (q_t_hours, zI E 5 t_hours), (q_t_had, zI E 5 t_had), (q_t_due, zI E 5 t_due)]) C inT_X1 tyX1 tyX1_ok nmX1 0 rfl rfl 5 (by decide) rfl (mc W_94) rfl rfl rfl (Nat.le_of_ble_eq_true rfl) rfl dX1_remember_145 ?_
  obtain rfl := Option.some.inj h
  exact z_vret C hr dX1_remember_148
set_option maxRecDepth 100000 in
set_option maxHeartbeats 4000000 in
theorem c_X1_remember {l : Launch} {E : zE} {q_t q_t_past q_t_wanted q_t_hours q_t_had q_t_due q_t_kind q_t_leftHour q_t_leftPressure q_t_note q_t_ahead q_t_gets : Nat} {t_wells : Int32} {t_lefts : Int32} {t_notes : Int32} {t_leftOver : Int32} {t_pressure : Int32} {t_day : Int32} {t_wanted : Nat → Int32} {t_hours : Nat → Int32} {t_had : Nat → Int32} {t_due : Nat → Int32} {t_undos : Int32} {t_past : Nat → Int32} {o : Int32 × (Nat → Int32)} (F : Nat) (h : f_X1_remember F t_pressure t_day t_wanted t_hours t_had t_due t_undos t_past = some o) : zM l yX1_remember wsX1_remember rm_X1_remember E [.ref q_t] [(q_t, .inr (0, [.int t_pressure, .int t_day, .int t_wells, .int t_lefts, .int t_notes, .int t_undos, .ref q_t_kind, .ref q_t_wanted, .ref q_t_hours, .ref q_t_had, .ref q_t_due, .ref q_t_leftHour, .ref q_t_leftPressure, .ref q_t_note, .ref q_t_past, .ref q_t_ahead, .ref q_t_gets, .int t_leftOver])), (q_t_past, zI E 176 t_past), (q_t_wanted, zI E 5 t_wanted), (q_t_hours, zI E 5 t_hours), (q_t_had, zI E 5 t_had), (q_t_due, zI E 5 t_due)] none [(q_t, .inr (0, [.int t_pressure, .int t_day, .int t_wells, .int t_lefts, .int t_notes, .int o.1, .ref q_t_kind, .ref q_t_wanted, .ref q_t_hours, .ref q_t_had, .ref q_t_due, .ref q_t_leftHour, .ref q_t_leftPressure, .ref q_t_note, .ref q_t_past, .ref q_t_ahead, .ref q_t_gets, .int t_leftOver])), (q_t_past, zI E 176 o.2), (q_t_wanted, zI E 5 t_wanted), (q_t_hours, zI E 5 t_hours), (q_t_had, zI E 5 t_had), (q_t_due, zI E 5 t_due)] := by
  refine zM.of (cc := cX1_remember) (maxL := 2) (ret := none) (by decide +kernel) rfl (Nat.le_of_ble_eq_true rfl) ?_
  intro p e s m args below meth c A C hr
  have C : zC p s m args c meth cX1_remember 2 RX1 wsX1_remember E A := C
  rw [f_X1_remember] at h
  refine z_aload_n C dX1_remember_0 rfl 0 rfl ?_
  refine z_get C inT_X1 0 rfl rfl 5 (by decide) rfl (mc W_94) rfl dX1_remember_1 ?_
  refine z_bipush (v := (8 : Int32)) C dX1_remember_4 (by decide) ?_
  refine z_icmp_lt (tgt := 36) C dX1_remember_6 (by decide) (fun c => ?_) (fun c => ?_)
  · replace h := (if_pos c).symm.trans h
    exact (l_X1_remember_b36 F t_pressure t_day t_wanted t_hours t_had t_due C hr) t_undos t_past h
  · replace h := (if_neg c).symm.trans h
    refine z_aload_n C dX1_remember_9 rfl 0 rfl ?_
    refine z_bipush (v := (7 : Int32)) C dX1_remember_10 (by decide) ?_
    refine z_put (ws' := [(q_t, .inr (0, [.int t_pressure, .int t_day, .int t_wells, .int t_lefts, .int t_notes, .int (7 : Int32), .ref q_t_kind, .ref q_t_wanted, .ref q_t_hours, .ref q_t_had, .ref q_t_due, .ref q_t_leftHour, .ref q_t_leftPressure, .ref q_t_note, .ref q_t_past, .ref q_t_ahead, .ref q_t_gets, .int t_leftOver])), (q_t_past, zI E 176 t_past), (q_t_wanted, zI E 5 t_wanted), (q_t_hours, zI E 5 t_hours), (q_t_had, zI E 5 t_had), (q_t_due, zI E 5 t_due)]) C inT_X1 tyX1 tyX1_ok nmX1 0 rfl rfl 5 (by decide) rfl (mc W_94) rfl rfl rfl (Nat.le_of_ble_eq_true rfl) rfl dX1_remember_12 ?_
    refine z_aload_n C dX1_remember_15 rfl 0 rfl ?_
    refine z_get C inT_X1 0 rfl rfl 14 (by decide) rfl (mc W_115) rfl dX1_remember_16 ?_
    refine z_bipush (v := (22 : Int32)) C dX1_remember_19 (by decide) ?_
    refine z_aload_n C dX1_remember_21 rfl 0 rfl ?_
    refine z_get C inT_X1 0 rfl rfl 14 (by decide) rfl (mc W_115) rfl dX1_remember_22 ?_
    refine z_iconst (v := (0 : Int32)) C dX1_remember_25 (by decide) ?_
    refine z_aload_n C dX1_remember_26 rfl 0 rfl ?_
    refine z_get C inT_X1 0 rfl rfl 5 (by decide) rfl (mc W_94) rfl dX1_remember_27 ?_
    refine z_bipush (v := (22 : Int32)) C dX1_remember_30 (by decide) ?_
    refine z_imul C dX1_remember_32 ?_
    obtain ⟨c1, h⟩ := chk_some h
    refine z_copy (ws' := [(q_t, .inr (0, [.int t_pressure, .int t_day, .int t_wells, .int t_lefts, .int t_notes, .int (7 : Int32), .ref q_t_kind, .ref q_t_wanted, .ref q_t_hours, .ref q_t_had, .ref q_t_due, .ref q_t_leftHour, .ref q_t_leftPressure, .ref q_t_note, .ref q_t_past, .ref q_t_ahead, .ref q_t_gets, .int t_leftOver])), (q_t_past, zI E 176 (va_cpy t_past t_past (22 : Int32).toNatClampNeg (0 : Int32).toNatClampNeg ((7 : Int32) * (22 : Int32)).toNatClampNeg)), (q_t_wanted, zI E 5 t_wanted), (q_t_hours, zI E 5 t_hours), (q_t_had, zI E 5 t_had), (q_t_due, zI E 5 t_due)]) C 1 1 rfl rfl c1 rfl (mc W_388) (mc W_390) (mc W_389) (mc W_65) (Nat.le_of_ble_eq_true rfl) (Nat.le_of_ble_eq_true rfl) dX1_remember_33 ?_
    exact (l_X1_remember_b36 F t_pressure t_day t_wanted t_hours t_had t_due C hr) (7 : Int32) (va_cpy t_past t_past (22 : Int32).toNatClampNeg (0 : Int32).toNatClampNeg ((7 : Int32) * (22 : Int32)).toNatClampNeg) h
def rm_X1_goBack : Room := { frames := 1, cells := 0, slots := 0, locals := 40 }
theorem hd_X1_goBack : yX1_goBack.cls = yX1_goBack.cls ∧ yX1_goBack.cls ≠ "java/lang/invoke/MethodHandle" ∧ yX1_goBack.cls ≠ "java/lang/invoke/VarHandle" ∧ (parseMethodDescriptor yX1_goBack.desc).map (fun d => d.parameters.length) = some 0 := by decide +kernel
abbrev wsX1_goBack : List Cond := .code yX1_goBack cX1_goBack 2 none :: WALL
set_option maxRecDepth 100000 in
set_option maxHeartbeats 4000000 in
theorem c_X1_goBack {l : Launch} {E : zE} {q_t q_t_past q_t_wanted q_t_hours q_t_had q_t_due q_t_kind q_t_leftHour q_t_leftPressure q_t_note q_t_ahead q_t_gets : Nat} {t_wells : Int32} {t_lefts : Int32} {t_notes : Int32} {t_leftOver : Int32} {t_past : Nat → Int32} {t_pressure : Int32} {t_day : Int32} {t_undos : Int32} {t_wanted : Nat → Int32} {t_hours : Nat → Int32} {t_had : Nat → Int32} {t_due : Nat → Int32} {o : Int32 × Int32 × Int32 × (Nat → Int32) × (Nat → Int32) × (Nat → Int32) × (Nat → Int32)} (F : Nat) (h : f_X1_goBack F t_past t_pressure t_day t_undos t_wanted t_hours t_had t_due = some o) : zM l yX1_goBack wsX1_goBack rm_X1_goBack E [.ref q_t] [(q_t, .inr (0, [.int t_pressure, .int t_day, .int t_wells, .int t_lefts, .int t_notes, .int t_undos, .ref q_t_kind, .ref q_t_wanted, .ref q_t_hours, .ref q_t_had, .ref q_t_due, .ref q_t_leftHour, .ref q_t_leftPressure, .ref q_t_note, .ref q_t_past, .ref q_t_ahead, .ref q_t_gets, .int t_leftOver])), (q_t_past, zI E 176 t_past), (q_t_wanted, zI E 5 t_wanted), (q_t_hours, zI E 5 t_hours), (q_t_had, zI E 5 t_had), (q_t_due, zI E 5 t_due)] none [(q_t, .inr (0, [.int o.1, .int o.2.1, .int t_wells, .int t_lefts, .int t_notes, .int o.2.2.1, .ref q_t_kind, .ref q_t_wanted, .ref q_t_hours, .ref q_t_had, .ref q_t_due, .ref q_t_leftHour, .ref q_t_leftPressure, .ref q_t_note, .ref q_t_past, .ref q_t_ahead, .ref q_t_gets, .int t_leftOver])), (q_t_past, zI E 176 t_past), (q_t_wanted, zI E 5 o.2.2.2.1), (q_t_hours, zI E 5 o.2.2.2.2.1), (q_t_had, zI E 5 o.2.2.2.2.2.1), (q_t_due, zI E 5 o.2.2.2.2.2.2)] := by
  refine zM.of (cc := cX1_goBack) (maxL := 2) (ret := none) (by decide +kernel) rfl (Nat.le_of_ble_eq_true rfl) ?_
  intro p e s m args below meth c A C hr
  have C : zC p s m args c meth cX1_goBack 2 RX1 wsX1_goBack E A := C
  rw [f_X1_goBack] at h
  refine z_aload_n C dX1_goBack_0 rfl 0 rfl ?_
  refine z_get C inT_X1 0 rfl rfl 5 (by decide) rfl (mc W_94) rfl dX1_goBack_1 ?_
  refine z_if_gt (tgt := 8) C dX1_goBack_4 (by decide) (fun c => ?_) (fun c => ?_)
  · replace h := (if_pos c).symm.trans h
    refine z_aload_n C dX1_goBack_8 rfl 0 rfl ?_
    refine z_dup C dX1_goBack_9 rfl ?_
    refine z_get C inT_X1 0 rfl rfl 5 (by decide) rfl (mc W_94) rfl dX1_goBack_10 ?_
    refine z_iconst (v := (1 : Int32)) C dX1_goBack_13 (by decide) ?_
    refine z_isub C dX1_goBack_14 ?_
    refine z_put (ws' := [(q_t, .inr (0, [.int t_pressure, .int t_day, .int t_wells, .int t_lefts, .int t_notes, .int (t_undos - (1 : Int32)), .ref q_t_kind, .ref q_t_wanted, .ref q_t_hours, .ref q_t_had, .ref q_t_due, .ref q_t_leftHour, .ref q_t_leftPressure, .ref q_t_note, .ref q_t_past, .ref q_t_ahead, .ref q_t_gets, .int t_leftOver])), (q_t_past, zI E 176 t_past), (q_t_wanted, zI E 5 t_wanted), (q_t_hours, zI E 5 t_hours), (q_t_had, zI E 5 t_had), (q_t_due, zI E 5 t_due)]) C inT_X1 tyX1 tyX1_ok nmX1 0 rfl rfl 5 (by decide) rfl (mc W_94) rfl rfl rfl (Nat.le_of_ble_eq_true rfl) rfl dX1_goBack_15 ?_
    refine z_aload_n C dX1_goBack_18 rfl 0 rfl ?_
    refine z_get C inT_X1 0 rfl rfl 5 (by decide) rfl (mc W_94) rfl dX1_goBack_19 ?_
    refine z_bipush (v := (22 : Int32)) C dX1_goBack_22 (by decide) ?_
    refine z_imul C dX1_goBack_24 ?_
    refine z_istore_n (L' := [(1, .int ((t_undos - (1 : Int32)) * (22 : Int32))), (0, .ref q_t)]) C dX1_goBack_25 rfl (by decide) rfl ?_
    refine z_aload_n C dX1_goBack_26 rfl 1 rfl ?_
    refine z_aload_n C dX1_goBack_27 rfl 1 rfl ?_
    refine z_get C inT_X1 0 rfl rfl 14 (by decide) rfl (mc W_115) rfl dX1_goBack_28 ?_
    refine z_iload_n C dX1_goBack_31 rfl 0 rfl ?_
    obtain ⟨c1, h⟩ := chk_some h
    refine z_iald C 1 rfl c1 dX1_goBack_32 ?_
    refine z_put (ws' := [(q_t, .inr (0, [.int (t_past ((t_undos - (1 : Int32)) * (22 : Int32)).toNatClampNeg), .int t_day, .int t_wells, .int t_lefts, .int t_notes, .int (t_undos - (1 : Int32)), .ref q_t_kind, .ref q_t_wanted, .ref q_t_hours, .ref q_t_had, .ref q_t_due, .ref q_t_leftHour, .ref q_t_leftPressure, .ref q_t_note, .ref q_t_past, .ref q_t_ahead, .ref q_t_gets, .int t_leftOver])), (q_t_past, zI E 176 t_past), (q_t_wanted, zI E 5 t_wanted), (q_t_hours, zI E 5 t_hours), (q_t_had, zI E 5 t_had), (q_t_due, zI E 5 t_due)]) C inT_X1 tyX1 tyX1_ok nmX1 0 rfl rfl 0 (by decide) rfl (mc W_80) rfl rfl rfl (Nat.le_of_ble_eq_true rfl) rfl dX1_goBack_33 ?_
    refine z_aload_n C dX1_goBack_36 rfl 1 rfl ?_
    refine z_aload_n C dX1_goBack_37 rfl 1 rfl ?_
    refine z_get C inT_X1 0 rfl rfl 14 (by decide) rfl (mc W_115) rfl dX1_goBack_38 ?_
    refine z_iload_n C dX1_goBack_41 rfl 0 rfl ?_
    refine z_iconst (v := (1 : Int32)) C dX1_goBack_42 (by decide) ?_
    refine z_iadd C dX1_goBack_43 ?_
    obtain ⟨c2, h⟩ := chk_some h
    refine z_iald C 1 rfl c2 dX1_goBack_44 ?_
    refine z_put (ws' := [(q_t, .inr (0, [.int (t_past ((t_undos - (1 : Int32)) * (22 : Int32)).toNatClampNeg), .int (t_past (((t_undos - (1 : Int32)) * (22 : Int32)) + (1 : Int32)).toNatClampNeg), .int t_wells, .int t_lefts, .int t_notes, .int (t_undos - (1 : Int32)), .ref q_t_kind, .ref q_t_wanted, .ref q_t_hours, .ref q_t_had, .ref q_t_due, .ref q_t_leftHour, .ref q_t_leftPressure, .ref q_t_note, .ref q_t_past, .ref q_t_ahead, .ref q_t_gets, .int t_leftOver])), (q_t_past, zI E 176 t_past), (q_t_wanted, zI E 5 t_wanted), (q_t_hours, zI E 5 t_hours), (q_t_had, zI E 5 t_had), (q_t_due, zI E 5 t_due)]) C inT_X1 tyX1 tyX1_ok nmX1 0 rfl rfl 1 (by decide) rfl (mc W_84) rfl rfl rfl (Nat.le_of_ble_eq_true rfl) rfl dX1_goBack_45 ?_
    refine z_aload_n C dX1_goBack_48 rfl 1 rfl ?_
    refine z_get C inT_X1 0 rfl rfl 14 (by decide) rfl (mc W_115) rfl dX1_goBack_49 ?_
    refine z_iload_n C dX1_goBack_52 rfl 0 rfl ?_
    refine z_iconst (v := (2 : Int32)) C dX1_goBack_53 (by decide) ?_
    refine z_iadd C dX1_goBack_54 ?_
    refine z_aload_n C dX1_goBack_55 rfl 1 rfl ?_
    refine z_get C inT_X1 0 rfl rfl 7 (by decide) rfl (mc W_99) rfl dX1_goBack_56 ?_
    refine z_iconst (v := (0 : Int32)) C dX1_goBack_59 (by decide) ?_
    refine z_iconst (v := (5 : Int32)) C dX1_goBack_60 (by decide) ?_
    obtain ⟨c3, h⟩ := chk_some h
    refine z_copy (ws' := [(q_t, .inr (0, [.int (t_past ((t_undos - (1 : Int32)) * (22 : Int32)).toNatClampNeg), .int (t_past (((t_undos - (1 : Int32)) * (22 : Int32)) + (1 : Int32)).toNatClampNeg), .int t_wells, .int t_lefts, .int t_notes, .int (t_undos - (1 : Int32)), .ref q_t_kind, .ref q_t_wanted, .ref q_t_hours, .ref q_t_had, .ref q_t_due, .ref q_t_leftHour, .ref q_t_leftPressure, .ref q_t_note, .ref q_t_past, .ref q_t_ahead, .ref q_t_gets, .int t_leftOver])), (q_t_past, zI E 176 t_past), (q_t_wanted, zI E 5 (va_cpy t_past t_wanted (((t_undos - (1 : Int32)) * (22 : Int32)) + (2 : Int32)).toNatClampNeg (0 : Int32).toNatClampNeg (5 : Int32).toNatClampNeg)), (q_t_hours, zI E 5 t_hours), (q_t_had, zI E 5 t_had), (q_t_due, zI E 5 t_due)]) C 1 2 rfl rfl c3 rfl (mc W_388) (mc W_390) (mc W_389) (mc W_65) (Nat.le_of_ble_eq_true rfl) (Nat.le_of_ble_eq_true rfl) dX1_goBack_61 ?_
    refine z_aload_n C dX1_goBack_64 rfl 1 rfl ?_
    refine z_get C inT_X1 0 rfl rfl 14 (by decide) rfl (mc W_115) rfl dX1_goBack_65 ?_
    refine z_iload_n C dX1_goBack_68 rfl 0 rfl ?_
    refine z_iconst (v := (2 : Int32)) C dX1_goBack_69 (by decide) ?_
    refine z_iadd C dX1_goBack_70 ?_
    refine z_iconst (v := (5 : Int32)) C dX1_goBack_71 (by decide) ?_
    refine z_iadd C dX1_goBack_72 ?_
    refine z_aload_n C dX1_goBack_73 rfl 1 rfl ?_
    refine z_get C inT_X1 0 rfl rfl 8 (by decide) rfl (mc W_102) rfl dX1_goBack_74 ?_
    refine z_iconst (v := (0 : Int32)) C dX1_goBack_77 (by decide) ?_
    refine z_iconst (v := (5 : Int32)) C dX1_goBack_78 (by decide) ?_
    obtain ⟨c4, h⟩ := chk_some h
    refine z_copy (ws' := [(q_t, .inr (0, [.int (t_past ((t_undos - (1 : Int32)) * (22 : Int32)).toNatClampNeg), .int (t_past (((t_undos - (1 : Int32)) * (22 : Int32)) + (1 : Int32)).toNatClampNeg), .int t_wells, .int t_lefts, .int t_notes, .int (t_undos - (1 : Int32)), .ref q_t_kind, .ref q_t_wanted, .ref q_t_hours, .ref q_t_had, .ref q_t_due, .ref q_t_leftHour, .ref q_t_leftPressure, .ref q_t_note, .ref q_t_past, .ref q_t_ahead, .ref q_t_gets, .int t_leftOver])), (q_t_past, zI E 176 t_past), (q_t_wanted, zI E 5 (va_cpy t_past t_wanted (((t_undos - (1 : Int32)) * (22 : Int32)) + (2 : Int32)).toNatClampNeg (0 : Int32).toNatClampNeg (5 : Int32).toNatClampNeg)), (q_t_hours, zI E 5 (va_cpy t_past t_hours ((((t_undos - (1 : Int32)) * (22 : Int32)) + (2 : Int32)) + (5 : Int32)).toNatClampNeg (0 : Int32).toNatClampNeg (5 : Int32).toNatClampNeg)), (q_t_had, zI E 5 t_had), (q_t_due, zI E 5 t_due)]) C 1 3 rfl rfl c4 rfl (mc W_388) (mc W_390) (mc W_389) (mc W_65) (Nat.le_of_ble_eq_true rfl) (Nat.le_of_ble_eq_true rfl) dX1_goBack_79 ?_
    refine z_aload_n C dX1_goBack_82 rfl 1 rfl ?_
    refine z_get C inT_X1 0 rfl rfl 14 (by decide) rfl (mc W_115) rfl dX1_goBack_83 ?_
    refine z_iload_n C dX1_goBack_86 rfl 0 rfl ?_
    refine z_iconst (v := (2 : Int32)) C dX1_goBack_87 (by decide) ?_
    refine z_iadd C dX1_goBack_88 ?_
    refine z_bipush (v := (10 : Int32)) C dX1_goBack_89 (by decide) ?_
    refine z_iadd C dX1_goBack_91 ?_
    refine z_aload_n C dX1_goBack_92 rfl 1 rfl ?_
    refine z_get C inT_X1 0 rfl rfl 9 (by decide) rfl (mc W_105) rfl dX1_goBack_93 ?_
    refine z_iconst (v := (0 : Int32)) C dX1_goBack_96 (by decide) ?_
    refine z_iconst (v := (5 : Int32)) C dX1_goBack_97 (by decide) ?_
    obtain ⟨c5, h⟩ := chk_some h
    refine z_copy (ws' := [(q_t, .inr (0, [.int (t_past ((t_undos - (1 : Int32)) * (22 : Int32)).toNatClampNeg), .int (t_past (((t_undos - (1 : Int32)) * (22 : Int32)) + (1 : Int32)).toNatClampNeg), .int t_wells, .int t_lefts, .int t_notes, .int (t_undos - (1 : Int32)), .ref q_t_kind, .ref q_t_wanted, .ref q_t_hours, .ref q_t_had, .ref q_t_due, .ref q_t_leftHour, .ref q_t_leftPressure, .ref q_t_note, .ref q_t_past, .ref q_t_ahead, .ref q_t_gets, .int t_leftOver])), (q_t_past, zI E 176 t_past), (q_t_wanted, zI E 5 (va_cpy t_past t_wanted (((t_undos - (1 : Int32)) * (22 : Int32)) + (2 : Int32)).toNatClampNeg (0 : Int32).toNatClampNeg (5 : Int32).toNatClampNeg)), (q_t_hours, zI E 5 (va_cpy t_past t_hours ((((t_undos - (1 : Int32)) * (22 : Int32)) + (2 : Int32)) + (5 : Int32)).toNatClampNeg (0 : Int32).toNatClampNeg (5 : Int32).toNatClampNeg)), (q_t_had, zI E 5 (va_cpy t_past t_had ((((t_undos - (1 : Int32)) * (22 : Int32)) + (2 : Int32)) + (10 : Int32)).toNatClampNeg (0 : Int32).toNatClampNeg (5 : Int32).toNatClampNeg)), (q_t_due, zI E 5 t_due)]) C 1 4 rfl rfl c5 rfl (mc W_388) (mc W_390) (mc W_389) (mc W_65) (Nat.le_of_ble_eq_true rfl) (Nat.le_of_ble_eq_true rfl) dX1_goBack_98 ?_
    refine z_aload_n C dX1_goBack_101 rfl 1 rfl ?_
    refine z_get C inT_X1 0 rfl rfl 14 (by decide) rfl (mc W_115) rfl dX1_goBack_102 ?_
    refine z_iload_n C dX1_goBack_105 rfl 0 rfl ?_
    refine z_iconst (v := (2 : Int32)) C dX1_goBack_106 (by decide) ?_
    refine z_iadd C dX1_goBack_107 ?_
    refine z_bipush (v := (15 : Int32)) C dX1_goBack_108 (by decide) ?_
    refine z_iadd C dX1_goBack_110 ?_
    refine z_aload_n C dX1_goBack_111 rfl 1 rfl ?_
    refine z_get C inT_X1 0 rfl rfl 10 (by decide) rfl (mc W_107) rfl dX1_goBack_112 ?_
    refine z_iconst (v := (0 : Int32)) C dX1_goBack_115 (by decide) ?_
    refine z_iconst (v := (5 : Int32)) C dX1_goBack_116 (by decide) ?_
    obtain ⟨c6, h⟩ := chk_some h
    refine z_copy (ws' := [(q_t, .inr (0, [.int (t_past ((t_undos - (1 : Int32)) * (22 : Int32)).toNatClampNeg), .int (t_past (((t_undos - (1 : Int32)) * (22 : Int32)) + (1 : Int32)).toNatClampNeg), .int t_wells, .int t_lefts, .int t_notes, .int (t_undos - (1 : Int32)), .ref q_t_kind, .ref q_t_wanted, .ref q_t_hours, .ref q_t_had, .ref q_t_due, .ref q_t_leftHour, .ref q_t_leftPressure, .ref q_t_note, .ref q_t_past, .ref q_t_ahead, .ref q_t_gets, .int t_leftOver])), (q_t_past, zI E 176 t_past), (q_t_wanted, zI E 5 (va_cpy t_past t_wanted (((t_undos - (1 : Int32)) * (22 : Int32)) + (2 : Int32)).toNatClampNeg (0 : Int32).toNatClampNeg (5 : Int32).toNatClampNeg)), (q_t_hours, zI E 5 (va_cpy t_past t_hours ((((t_undos - (1 : Int32)) * (22 : Int32)) + (2 : Int32)) + (5 : Int32)).toNatClampNeg (0 : Int32).toNatClampNeg (5 : Int32).toNatClampNeg)), (q_t_had, zI E 5 (va_cpy t_past t_had ((((t_undos - (1 : Int32)) * (22 : Int32)) + (2 : Int32)) + (10 : Int32)).toNatClampNeg (0 : Int32).toNatClampNeg (5 : Int32).toNatClampNeg)), (q_t_due, zI E 5 (va_cpy t_past t_due ((((t_undos - (1 : Int32)) * (22 : Int32)) + (2 : Int32)) + (15 : Int32)).toNatClampNeg (0 : Int32).toNatClampNeg (5 : Int32).toNatClampNeg))]) C 1 5 rfl rfl c6 rfl (mc W_388) (mc W_390) (mc W_389) (mc W_65) (Nat.le_of_ble_eq_true rfl) (Nat.le_of_ble_eq_true rfl) dX1_goBack_117 ?_
    obtain rfl := Option.some.inj h
    exact z_vret C hr dX1_goBack_120
  · replace h := (if_neg c).symm.trans h
    obtain rfl := Option.some.inj h
    exact z_vret C hr dX1_goBack_7
def rm_X1_passDay : Room := { frames := 3, cells := 0, slots := 0, locals := 70 }
theorem hd_X1_passDay : yX1_passDay.cls = yX1_passDay.cls ∧ yX1_passDay.cls ≠ "java/lang/invoke/MethodHandle" ∧ yX1_passDay.cls ≠ "java/lang/invoke/VarHandle" ∧ (parseMethodDescriptor yX1_passDay.desc).map (fun d => d.parameters.length) = some 0 := by decide +kernel
abbrev wsX1_passDay : List Cond := .code yX1_passDay cX1_passDay 4 (some .int) :: WALL
set_option maxRecDepth 100000 in
set_option maxHeartbeats 4000000 in
theorem l_X1_passDay_b38 {p : Program} {l : Launch} {e : Env} {s : State} {m : MethodId} {args : Array Value} {below : List Frame} {meth : Method} {c : Code} {E : zE} {A : Nat → Prop} {q_t q_t_hours q_t_ahead q_t_kind q_t_wanted q_t_gets q_t_had q_t_due q_t_leftHour q_t_leftPressure q_t_note q_t_past : Nat} {t_lefts : Int32} {t_notes : Int32} {t_undos : Int32} {o : Int32 × Int32 × Int32 × (Nat → Int32) × (Nat → Int32) × (Nat → Int32) × (Nat → Int32)} (F : Nat) (t_pressure : Int32) (t_wells : Int32) (t_hours : Nat → Int32) (t_kind : Nat → Int32) (t_wanted : Nat → Int32) (K16 : Int32 → Int32 → Int32 → Int32 → (Nat → Int32) → (Nat → Int32) → (Nat → Int32) → (Nat → Int32) → Option (Int32 × Int32 × Int32 × (Nat → Int32) × (Nat → Int32) × (Nat → Int32) × (Nat → Int32))) (C : zC p s m args c meth cX1_passDay 4 RX1 wsX1_passDay E A) (hr : meth.sig.returnType = some .int) (hK16 : ∀ (v1 : Int32) (v2 : Int32) (t_day : Int32) (t_leftOver : Int32) (t_ahead : Nat → Int32) (t_gets : Nat → Int32) (t_had : Nat → Int32) (t_due : Nat → Int32), K16 v1 v2 t_day t_leftOver t_ahead t_gets t_had t_due = some o → zG p l e rm_X1_passDay s m args below meth c 4 E A 0 0 (MQ below (zQ E A (some (.int o.1)) [(q_t, .inr (0, [.int t_pressure, .int o.2.1, .int t_wells, .int t_lefts, .int t_notes, .int t_undos, .ref q_t_kind, .ref q_t_wanted, .ref q_t_hours, .ref q_t_had, .ref q_t_due, .ref q_t_leftHour, .ref q_t_leftPressure, .ref q_t_note, .ref q_t_past, .ref q_t_ahead, .ref q_t_gets, .int o.2.2.1])), (q_t_hours, zI E 5 t_hours), (q_t_ahead, zI E 5 o.2.2.2.1), (q_t_kind, zI E 5 t_kind), (q_t_wanted, zI E 5 t_wanted), (q_t_gets, zI E 5 o.2.2.2.2.1), (q_t_had, zI E 5 o.2.2.2.2.2.1), (q_t_due, zI E 5 o.2.2.2.2.2.2)]) args s 0 0 A) [(q_t, .inr (0, [.int t_pressure, .int t_day, .int t_wells, .int t_lefts, .int t_notes, .int t_undos, .ref q_t_kind, .ref q_t_wanted, .ref q_t_hours, .ref q_t_had, .ref q_t_due, .ref q_t_leftHour, .ref q_t_leftPressure, .ref q_t_note, .ref q_t_past, .ref q_t_ahead, .ref q_t_gets, .int t_leftOver])), (q_t_hours, zI E 5 t_hours), (q_t_ahead, zI E 5 t_ahead), (q_t_kind, zI E 5 t_kind), (q_t_wanted, zI E 5 t_wanted), (q_t_gets, zI E 5 t_gets), (q_t_had, zI E 5 t_had), (q_t_due, zI E 5 t_due)] 16 [(0, .ref q_t), (1, .int v1), (2, .int v2)] []) : ∀ (n : Nat) (v1 : Int32) (v2 : Int32) (v3 : Int32) (t_day : Int32) (t_leftOver : Int32) (t_ahead : Nat → Int32) (t_gets : Nat → Int32) (t_had : Nat → Int32) (t_due : Nat → Int32), f_X1_passDay_b38 F t_pressure t_wells t_hours t_kind t_wanted K16 n v1 v2 v3 t_day t_leftOver t_ahead t_gets t_had t_due = some o → zG p l e rm_X1_passDay s m args below meth c 4 E A 0 0 (MQ below (zQ E A (some (.int o.1)) [(q_t, .inr (0, [.int t_pressure, .int o.2.1, .int t_wells, .int t_lefts, .int t_notes, .int t_undos, .ref q_t_kind, .ref q_t_wanted, .ref q_t_hours, .ref q_t_had, .ref q_t_due, .ref q_t_leftHour, .ref q_t_leftPressure, .ref q_t_note, .ref q_t_past, .ref q_t_ahead, .ref q_t_gets, .int o.2.2.1])), (q_t_hours, zI E 5 t_hours), (q_t_ahead, zI E 5 o.2.2.2.1), (q_t_kind, zI E 5 t_kind), (q_t_wanted, zI E 5 t_wanted), (q_t_gets, zI E 5 o.2.2.2.2.1), (q_t_had, zI E 5 o.2.2.2.2.2.1), (q_t_due, zI E 5 o.2.2.2.2.2.2)]) args s 0 0 A) [(q_t, .inr (0, [.int t_pressure, .int t_day, .int t_wells, .int t_lefts, .int t_notes, .int t_undos, .ref q_t_kind, .ref q_t_wanted, .ref q_t_hours, .ref q_t_had, .ref q_t_due, .ref q_t_leftHour, .ref q_t_leftPressure, .ref q_t_note, .ref q_t_past, .ref q_t_ahead, .ref q_t_gets, .int t_leftOver])), (q_t_hours, zI E 5 t_hours), (q_t_ahead, zI E 5 t_ahead), (q_t_kind, zI E 5 t_kind), (q_t_wanted, zI E 5 t_wanted), (q_t_gets, zI E 5 t_gets), (q_t_had, zI E 5 t_had), (q_t_due, zI E 5 t_due)] 38 [(0, .ref q_t), (1, .int v1), (2, .int v2), (3, .int v3)] [] := by
  intro n
  induction n with
  | zero =>
    intro v1 v2 v3 t_day t_leftOver t_ahead t_gets t_had t_due h
    rw [f_X1_passDay_b38] at h
    cases h
  | succ n ih =>
    intro v1 v2 v3 t_day t_leftOver t_ahead t_gets t_had t_due h
    rw [f_X1_passDay_b38] at h
    refine z_iload_n C dX1_passDay_38 rfl 3 rfl ?_
    refine z_aload_n C dX1_passDay_39 rfl 0 rfl ?_
    refine z_get C inT_X1 0 rfl rfl 2 (by decide) rfl (mc W_86) rfl dX1_passDay_40 ?_
    refine z_icmp_ge (tgt := 100) C dX1_passDay_43 (by decide) (fun c => ?_) (fun c => ?_)
    · replace h := (if_pos c).symm.trans h
      refine z_iinc (v := v2 + (1 : Int32)) (L' := [(2, .int (v2 + (1 : Int32))), (0, .ref q_t), (1, .int v1), (3, .int v3)]) C dX1_passDay_100 2 rfl rfl (by decide) rfl ?_
      refine z_goto (tgt := 16) C dX1_passDay_103 (by decide) ?_
      refine z_sub [1, 2, 0] (L' := [(0, .ref q_t), (1, .int v1), (2, .int (v2 + (1 : Int32)))]) rfl ?_
      exact hK16 v1 (v2 + (1 : Int32)) t_day t_leftOver t_ahead t_gets t_had t_due h
    · replace h := (if_neg c).symm.trans h
      refine z_aload_n C dX1_passDay_46 rfl 0 rfl ?_
      refine z_get C inT_X1 0 rfl rfl 9 (by decide) rfl (mc W_105) rfl dX1_passDay_47 ?_
      refine z_iload_n C dX1_passDay_50 rfl 3 rfl ?_
      refine z_dup2 C dX1_passDay_51 rfl rfl ?_
      obtain ⟨c5, h⟩ := chk_some h
      refine z_iald C 6 rfl c5 dX1_passDay_52 ?_
      refine z_aload_n C dX1_passDay_53 rfl 0 rfl ?_
      refine z_get C inT_X1 0 rfl rfl 16 (by decide) rfl (mc W_118) rfl dX1_passDay_54 ?_
      refine z_iload_n C dX1_passDay_57 rfl 3 rfl ?_
      obtain ⟨c6, h⟩ := chk_some h
      refine z_iald C 5 rfl c6 dX1_passDay_58 ?_
      refine z_iadd C dX1_passDay_59 ?_
      obtain ⟨c7, h⟩ := chk_some h
      refine z_iast (ws' := [(q_t, .inr (0, [.int t_pressure, .int t_day, .int t_wells, .int t_lefts, .int t_notes, .int t_undos, .ref q_t_kind, .ref q_t_wanted, .ref q_t_hours, .ref q_t_had, .ref q_t_due, .ref q_t_leftHour, .ref q_t_leftPressure, .ref q_t_note, .ref q_t_past, .ref q_t_ahead, .ref q_t_gets, .int t_leftOver])), (q_t_hours, zI E 5 t_hours), (q_t_ahead, zI E 5 t_ahead), (q_t_kind, zI E 5 t_kind), (q_t_wanted, zI E 5 t_wanted), (q_t_gets, zI E 5 t_gets), (q_t_had, zI E 5 (upd t_had v3.toNatClampNeg ((t_had v3.toNatClampNeg) + (t_gets v3.toNatClampNeg)))), (q_t_due, zI E 5 t_due)]) C 6 rfl c7 rfl dX1_passDay_60 ?_
      refine z_aload_n C dX1_passDay_61 rfl 0 rfl ?_
      refine z_get C inT_X1 0 rfl rfl 10 (by decide) rfl (mc W_107) rfl dX1_passDay_62 ?_
      refine z_iload_n C dX1_passDay_65 rfl 3 rfl ?_
      refine z_dup2 C dX1_passDay_66 rfl rfl ?_
      obtain ⟨c8, h⟩ := chk_some h
      refine z_iald C 7 rfl c8 dX1_passDay_67 ?_
      refine z_aload_n C dX1_passDay_68 rfl 0 rfl ?_
      refine z_get C inT_X1 0 rfl rfl 6 (by decide) rfl (mc W_96) rfl dX1_passDay_69 ?_
      refine z_iload_n C dX1_passDay_72 rfl 3 rfl ?_
      obtain ⟨c9, h⟩ := chk_some h
      refine z_iald C 3 rfl c9 dX1_passDay_73 ?_
      refine z_aload_n C dX1_passDay_74 rfl 0 rfl ?_
      refine z_get C inT_X1 0 rfl rfl 16 (by decide) rfl (mc W_118) rfl dX1_passDay_75 ?_
      refine z_iload_n C dX1_passDay_78 rfl 3 rfl ?_
      obtain ⟨c10, h⟩ := chk_some h
      refine z_iald C 5 rfl c10 dX1_passDay_79 ?_
      obtain ⟨o11, ho12, h⟩ := bnd_some h
      refine z_callS (wc := []) (wr := [(q_t, .inr (0, [.int t_pressure, .int t_day, .int t_wells, .int t_lefts, .int t_notes, .int t_undos, .ref q_t_kind, .ref q_t_wanted, .ref q_t_hours, .ref q_t_had, .ref q_t_due, .ref q_t_leftHour, .ref q_t_leftPressure, .ref q_t_note, .ref q_t_past, .ref q_t_ahead, .ref q_t_gets, .int t_leftOver])), (q_t_hours, zI E 5 t_hours), (q_t_ahead, zI E 5 t_ahead), (q_t_kind, zI E 5 t_kind), (q_t_wanted, zI E 5 t_wanted), (q_t_gets, zI E 5 t_gets), (q_t_had, zI E 5 (upd t_had v3.toNatClampNeg ((t_had v3.toNatClampNeg) + (t_gets v3.toNatClampNeg)))), (q_t_due, zI E 5 t_due)]) (wc' := []) (ws2 := [(q_t, .inr (0, [.int t_pressure, .int t_day, .int t_wells, .int t_lefts, .int t_notes, .int t_undos, .ref q_t_kind, .ref q_t_wanted, .ref q_t_hours, .ref q_t_had, .ref q_t_due, .ref q_t_leftHour, .ref q_t_leftPressure, .ref q_t_note, .ref q_t_past, .ref q_t_ahead, .ref q_t_gets, .int t_leftOver])), (q_t_hours, zI E 5 t_hours), (q_t_ahead, zI E 5 t_ahead), (q_t_kind, zI E 5 t_kind), (q_t_wanted, zI E 5 t_wanted), (q_t_gets, zI E 5 t_gets), (q_t_had, zI E 5 (upd t_had v3.toNatClampNeg ((t_had v3.toNatClampNeg) + (t_gets v3.toNatClampNeg)))), (q_t_due, zI E 5 t_due)]) (As := [.int (t_kind v3.toNatClampNeg), .int (t_gets v3.toNatClampNeg)]) (st2 := [.int o11, .int (t_due v3.toNatClampNeg), .int v3, .ref q_t_due]) C [] [0, 1, 2, 3, 4, 5, 6, 7] [0, 1, 2, 3, 4, 5, 6, 7] rfl rfl rfl rfl (by decide) rfl rfl (c_X0_due F ho12) (goodST consT W_381 W_382 W_63 W_383) rfl rfl rfl hd_X0_due ⟨Nat.le_of_ble_eq_true rfl, Nat.le_of_ble_eq_true rfl⟩ rfl rfl rfl (Nat.le_of_ble_eq_true rfl) dX1_passDay_80 ⟨Nat.zero_le _, Nat.zero_le _⟩ ?_
      refine z_iadd C dX1_passDay_83 ?_
      obtain ⟨c13, h⟩ := chk_some h
      refine z_iast (ws' := [(q_t, .inr (0, [.int t_pressure, .int t_day, .int t_wells, .int t_lefts, .int t_notes, .int t_undos, .ref q_t_kind, .ref q_t_wanted, .ref q_t_hours, .ref q_t_had, .ref q_t_due, .ref q_t_leftHour, .ref q_t_leftPressure, .ref q_t_note, .ref q_t_past, .ref q_t_ahead, .ref q_t_gets, .int t_leftOver])), (q_t_hours, zI E 5 t_hours), (q_t_ahead, zI E 5 t_ahead), (q_t_kind, zI E 5 t_kind), (q_t_wanted, zI E 5 t_wanted), (q_t_gets, zI E 5 t_gets), (q_t_had, zI E 5 (upd t_had v3.toNatClampNeg ((t_had v3.toNatClampNeg) + (t_gets v3.toNatClampNeg)))), (q_t_due, zI E 5 (upd t_due v3.toNatClampNeg ((t_due v3.toNatClampNeg) + o11)))]) C 7 rfl c13 rfl dX1_passDay_84 ?_
      refine z_iload_n C dX1_passDay_85 rfl 1 rfl ?_
      refine z_aload_n C dX1_passDay_86 rfl 0 rfl ?_
      refine z_get C inT_X1 0 rfl rfl 16 (by decide) rfl (mc W_118) rfl dX1_passDay_87 ?_
      refine z_iload_n C dX1_passDay_90 rfl 3 rfl ?_
      obtain ⟨c14, h⟩ := chk_some h
      refine z_iald C 5 rfl c14 dX1_passDay_91 ?_
      refine z_iadd C dX1_passDay_92 ?_
      refine z_istore_n (L' := [(1, .int (v1 + (t_gets v3.toNatClampNeg))), (0, .ref q_t), (2, .int v2), (3, .int v3)]) C dX1_passDay_93 rfl (by decide) rfl ?_
      refine z_iinc (v := v3 + (1 : Int32)) (L' := [(3, .int (v3 + (1 : Int32))), (1, .int (v1 + (t_gets v3.toNatClampNeg))), (0, .ref q_t), (2, .int v2)]) C dX1_passDay_94 3 rfl rfl (by decide) rfl ?_
      refine z_goto (tgt := 38) C dX1_passDay_97 (by decide) ?_
      refine z_sub [2, 1, 3, 0] (L' := [(0, .ref q_t), (1, .int (v1 + (t_gets v3.toNatClampNeg))), (2, .int v2), (3, .int (v3 + (1 : Int32)))]) rfl ?_
      exact ih (v1 + (t_gets v3.toNatClampNeg)) v2 (v3 + (1 : Int32)) t_day t_leftOver t_ahead t_gets (upd t_had v3.toNatClampNeg ((t_had v3.toNatClampNeg) + (t_gets v3.toNatClampNeg))) (upd t_due v3.toNatClampNeg ((t_due v3.toNatClampNeg) + o11)) h
set_option maxRecDepth 100000 in
set_option maxHeartbeats 4000000 in
theorem l_X1_passDay_b16 {p : Program} {l : Launch} {e : Env} {s : State} {m : MethodId} {args : Array Value} {below : List Frame} {meth : Method} {c : Code} {E : zE} {A : Nat → Prop} {q_t q_t_hours q_t_ahead q_t_kind q_t_wanted q_t_gets q_t_had q_t_due q_t_leftHour q_t_leftPressure q_t_note q_t_past : Nat} {t_lefts : Int32} {t_notes : Int32} {t_undos : Int32} {o : Int32 × Int32 × Int32 × (Nat → Int32) × (Nat → Int32) × (Nat → Int32) × (Nat → Int32)} (F : Nat) (t_pressure : Int32) (t_wells : Int32) (t_hours : Nat → Int32) (t_kind : Nat → Int32) (t_wanted : Nat → Int32) (C : zC p s m args c meth cX1_passDay 4 RX1 wsX1_passDay E A) (hr : meth.sig.returnType = some .int) : ∀ (n : Nat) (v1 : Int32) (v2 : Int32) (t_day : Int32) (t_leftOver : Int32) (t_ahead : Nat → Int32) (t_gets : Nat → Int32) (t_had : Nat → Int32) (t_due : Nat → Int32), f_X1_passDay_b16 F t_pressure t_wells t_hours t_kind t_wanted n v1 v2 t_day t_leftOver t_ahead t_gets t_had t_due = some o → zG p l e rm_X1_passDay s m args below meth c 4 E A 0 0 (MQ below (zQ E A (some (.int o.1)) [(q_t, .inr (0, [.int t_pressure, .int o.2.1, .int t_wells, .int t_lefts, .int t_notes, .int t_undos, .ref q_t_kind, .ref q_t_wanted, .ref q_t_hours, .ref q_t_had, .ref q_t_due, .ref q_t_leftHour, .ref q_t_leftPressure, .ref q_t_note, .ref q_t_past, .ref q_t_ahead, .ref q_t_gets, .int o.2.2.1])), (q_t_hours, zI E 5 t_hours), (q_t_ahead, zI E 5 o.2.2.2.1), (q_t_kind, zI E 5 t_kind), (q_t_wanted, zI E 5 t_wanted), (q_t_gets, zI E 5 o.2.2.2.2.1), (q_t_had, zI E 5 o.2.2.2.2.2.1), (q_t_due, zI E 5 o.2.2.2.2.2.2)]) args s 0 0 A) [(q_t, .inr (0, [.int t_pressure, .int t_day, .int t_wells, .int t_lefts, .int t_notes, .int t_undos, .ref q_t_kind, .ref q_t_wanted, .ref q_t_hours, .ref q_t_had, .ref q_t_due, .ref q_t_leftHour, .ref q_t_leftPressure, .ref q_t_note, .ref q_t_past, .ref q_t_ahead, .ref q_t_gets, .int t_leftOver])), (q_t_hours, zI E 5 t_hours), (q_t_ahead, zI E 5 t_ahead), (q_t_kind, zI E 5 t_kind), (q_t_wanted, zI E 5 t_wanted), (q_t_gets, zI E 5 t_gets), (q_t_had, zI E 5 t_had), (q_t_due, zI E 5 t_due)] 16 [(0, .ref q_t), (1, .int v1), (2, .int v2)] [] := by
  intro n
  induction n with
  | zero =>
    intro v1 v2 t_day t_leftOver t_ahead t_gets t_had t_due h
    rw [f_X1_passDay_b16] at h
    cases h
  | succ n ih =>
    intro v1 v2 t_day t_leftOver t_ahead t_gets t_had t_due h
    rw [f_X1_passDay_b16] at h
    refine z_iload_n C dX1_passDay_16 rfl 2 rfl ?_
    refine z_bipush (v := (8 : Int32)) C dX1_passDay_17 (by decide) ?_
    refine z_icmp_ge (tgt := 106) C dX1_passDay_19 (by decide) (fun c => ?_) (fun c => ?_)
    · replace h := (if_pos c).symm.trans h
      refine z_aload_n C dX1_passDay_106 rfl 0 rfl ?_
      refine z_dup C dX1_passDay_107 rfl ?_
      refine z_get C inT_X1 0 rfl rfl 1 (by decide) rfl (mc W_84) rfl dX1_passDay_108 ?_
      refine z_iconst (v := (1 : Int32)) C dX1_passDay_111 (by decide) ?_
      refine z_iadd C dX1_passDay_112 ?_
      refine z_put (ws' := [(q_t, .inr (0, [.int t_pressure, .int (t_day + (1 : Int32)), .int t_wells, .int t_lefts, .int t_notes, .int t_undos, .ref q_t_kind, .ref q_t_wanted, .ref q_t_hours, .ref q_t_had, .ref q_t_due, .ref q_t_leftHour, .ref q_t_leftPressure, .ref q_t_note, .ref q_t_past, .ref q_t_ahead, .ref q_t_gets, .int t_leftOver])), (q_t_hours, zI E 5 t_hours), (q_t_ahead, zI E 5 t_ahead), (q_t_kind, zI E 5 t_kind), (q_t_wanted, zI E 5 t_wanted), (q_t_gets, zI E 5 t_gets), (q_t_had, zI E 5 t_had), (q_t_due, zI E 5 t_due)]) C inT_X1 tyX1 tyX1_ok nmX1 0 rfl rfl 1 (by decide) rfl (mc W_84) rfl rfl rfl (Nat.le_of_ble_eq_true rfl) rfl dX1_passDay_113 ?_
      refine z_iload_n C dX1_passDay_116 rfl 1 rfl ?_
      obtain rfl := Option.some.inj h
      exact z_iret (v := v1) C hr dX1_passDay_117
    · replace h := (if_neg c).symm.trans h
      refine z_aload_n C dX1_passDay_22 rfl 0 rfl ?_
      refine z_iload_n C dX1_passDay_23 rfl 2 rfl ?_
      refine z_aload_n C dX1_passDay_24 rfl 0 rfl ?_
      refine z_iload_n C dX1_passDay_25 rfl 2 rfl ?_
      obtain ⟨o1, ho2, h⟩ := bnd_some h
      refine z_callV (wc := [(q_t, .inr (0, [.int t_pressure, .int t_day, .int t_wells, .int t_lefts, .int t_notes, .int t_undos, .ref q_t_kind, .ref q_t_wanted, .ref q_t_hours, .ref q_t_had, .ref q_t_due, .ref q_t_leftHour, .ref q_t_leftPressure, .ref q_t_note, .ref q_t_past, .ref q_t_ahead, .ref q_t_gets, .int t_leftOver])), (q_t_hours, zI E 5 t_hours)]) (wr := [(q_t_ahead, zI E 5 t_ahead), (q_t_kind, zI E 5 t_kind), (q_t_wanted, zI E 5 t_wanted), (q_t_gets, zI E 5 t_gets), (q_t_had, zI E 5 t_had), (q_t_due, zI E 5 t_due)]) (wc' := [(q_t, .inr (0, [.int t_pressure, .int t_day, .int t_wells, .int t_lefts, .int t_notes, .int t_undos, .ref q_t_kind, .ref q_t_wanted, .ref q_t_hours, .ref q_t_had, .ref q_t_due, .ref q_t_leftHour, .ref q_t_leftPressure, .ref q_t_note, .ref q_t_past, .ref q_t_ahead, .ref q_t_gets, .int t_leftOver])), (q_t_hours, zI E 5 t_hours)]) (ws2 := [(q_t, .inr (0, [.int t_pressure, .int t_day, .int t_wells, .int t_lefts, .int t_notes, .int t_undos, .ref q_t_kind, .ref q_t_wanted, .ref q_t_hours, .ref q_t_had, .ref q_t_due, .ref q_t_leftHour, .ref q_t_leftPressure, .ref q_t_note, .ref q_t_past, .ref q_t_ahead, .ref q_t_gets, .int t_leftOver])), (q_t_hours, zI E 5 t_hours), (q_t_ahead, zI E 5 t_ahead), (q_t_kind, zI E 5 t_kind), (q_t_wanted, zI E 5 t_wanted), (q_t_gets, zI E 5 t_gets), (q_t_had, zI E 5 t_had), (q_t_due, zI E 5 t_due)]) (As := [.int v2]) (st2 := [.int o1, .int v2, .ref q_t]) C [0, 1] [2, 3, 4, 5, 6, 7] [6, 7, 0, 1, 2, 3, 4, 5] rfl rfl rfl rfl (by decide) rfl rfl (c_X1_openIn F ho2) (goodVT consT W_363 W_364 W_365 W_59 W_366) rfl rfl rfl hd_X1_openIn ⟨Nat.le_of_ble_eq_true rfl, Nat.le_of_ble_eq_true rfl⟩ rfl rfl rfl (j := 0) rfl rfl rfl (Nat.le_of_ble_eq_true rfl) dX1_passDay_26 ⟨Nat.zero_le _, Nat.zero_le _⟩ ?_
      refine z_aload_n C dX1_passDay_29 rfl 0 rfl ?_
      refine z_get C inT_X1 0 rfl rfl 0 (by decide) rfl (mc W_80) rfl dX1_passDay_30 ?_
      obtain ⟨o3, ho4, h⟩ := bnd_some h
      refine z_callV (wc := [(q_t, .inr (0, [.int t_pressure, .int t_day, .int t_wells, .int t_lefts, .int t_notes, .int t_undos, .ref q_t_kind, .ref q_t_wanted, .ref q_t_hours, .ref q_t_had, .ref q_t_due, .ref q_t_leftHour, .ref q_t_leftPressure, .ref q_t_note, .ref q_t_past, .ref q_t_ahead, .ref q_t_gets, .int t_leftOver])), (q_t_ahead, zI E 5 t_ahead), (q_t_kind, zI E 5 t_kind), (q_t_wanted, zI E 5 t_wanted), (q_t_gets, zI E 5 t_gets)]) (wr := [(q_t_hours, zI E 5 t_hours), (q_t_had, zI E 5 t_had), (q_t_due, zI E 5 t_due)]) (wc' := [(q_t, .inr (0, [.int t_pressure, .int t_day, .int t_wells, .int t_lefts, .int t_notes, .int t_undos, .ref q_t_kind, .ref q_t_wanted, .ref q_t_hours, .ref q_t_had, .ref q_t_due, .ref q_t_leftHour, .ref q_t_leftPressure, .ref q_t_note, .ref q_t_past, .ref q_t_ahead, .ref q_t_gets, .int o3.1])), (q_t_ahead, zI E 5 o3.2.1), (q_t_kind, zI E 5 t_kind), (q_t_wanted, zI E 5 t_wanted), (q_t_gets, zI E 5 o3.2.2)]) (ws2 := [(q_t, .inr (0, [.int t_pressure, .int t_day, .int t_wells, .int t_lefts, .int t_notes, .int t_undos, .ref q_t_kind, .ref q_t_wanted, .ref q_t_hours, .ref q_t_had, .ref q_t_due, .ref q_t_leftHour, .ref q_t_leftPressure, .ref q_t_note, .ref q_t_past, .ref q_t_ahead, .ref q_t_gets, .int o3.1])), (q_t_hours, zI E 5 t_hours), (q_t_ahead, zI E 5 o3.2.1), (q_t_kind, zI E 5 t_kind), (q_t_wanted, zI E 5 t_wanted), (q_t_gets, zI E 5 o3.2.2), (q_t_had, zI E 5 t_had), (q_t_due, zI E 5 t_due)]) (As := [.int v2, .int o1, .int t_pressure]) (st2 := []) C [0, 2, 3, 4, 5] [1, 6, 7] [3, 0, 4, 5, 6, 7, 1, 2] rfl rfl rfl rfl (by decide) rfl rfl (c_X1_runHour F ho4) (goodVT consT W_371 W_372 W_373 W_59 W_374) rfl rfl rfl hd_X1_runHour ⟨Nat.le_of_ble_eq_true rfl, Nat.le_of_ble_eq_true rfl⟩ rfl rfl rfl (j := 0) rfl rfl rfl (Nat.le_of_ble_eq_true rfl) dX1_passDay_33 ⟨Nat.zero_le _, Nat.zero_le _⟩ ?_
      refine z_iconst (v := (0 : Int32)) C dX1_passDay_36 (by decide) ?_
      refine z_istore_n (L' := [(3, .int (0 : Int32)), (0, .ref q_t), (1, .int v1), (2, .int v2)]) C dX1_passDay_37 rfl (by decide) rfl ?_
      refine z_sub [1, 2, 3, 0] (L' := [(0, .ref q_t), (1, .int v1), (2, .int v2), (3, .int (0 : Int32))]) rfl ?_
      exact (l_X1_passDay_b38 F t_pressure t_wells t_hours t_kind t_wanted (f_X1_passDay_b16 F t_pressure t_wells t_hours t_kind t_wanted n) C hr ih F) v1 v2 (0 : Int32) t_day o3.1 o3.2.1 o3.2.2 t_had t_due h
set_option maxRecDepth 100000 in
set_option maxHeartbeats 4000000 in
theorem c_X1_passDay {l : Launch} {E : zE} {q_t q_t_hours q_t_ahead q_t_kind q_t_wanted q_t_gets q_t_had q_t_due q_t_leftHour q_t_leftPressure q_t_note q_t_past : Nat} {t_lefts : Int32} {t_notes : Int32} {t_undos : Int32} {t_pressure : Int32} {t_wells : Int32} {t_hours : Nat → Int32} {t_kind : Nat → Int32} {t_wanted : Nat → Int32} {t_day : Int32} {t_leftOver : Int32} {t_ahead : Nat → Int32} {t_gets : Nat → Int32} {t_had : Nat → Int32} {t_due : Nat → Int32} {o : Int32 × Int32 × Int32 × (Nat → Int32) × (Nat → Int32) × (Nat → Int32) × (Nat → Int32)} (F : Nat) (h : f_X1_passDay F t_pressure t_wells t_hours t_kind t_wanted t_day t_leftOver t_ahead t_gets t_had t_due = some o) : zM l yX1_passDay wsX1_passDay rm_X1_passDay E [.ref q_t] [(q_t, .inr (0, [.int t_pressure, .int t_day, .int t_wells, .int t_lefts, .int t_notes, .int t_undos, .ref q_t_kind, .ref q_t_wanted, .ref q_t_hours, .ref q_t_had, .ref q_t_due, .ref q_t_leftHour, .ref q_t_leftPressure, .ref q_t_note, .ref q_t_past, .ref q_t_ahead, .ref q_t_gets, .int t_leftOver])), (q_t_hours, zI E 5 t_hours), (q_t_ahead, zI E 5 t_ahead), (q_t_kind, zI E 5 t_kind), (q_t_wanted, zI E 5 t_wanted), (q_t_gets, zI E 5 t_gets), (q_t_had, zI E 5 t_had), (q_t_due, zI E 5 t_due)] (some (.int o.1)) [(q_t, .inr (0, [.int t_pressure, .int o.2.1, .int t_wells, .int t_lefts, .int t_notes, .int t_undos, .ref q_t_kind, .ref q_t_wanted, .ref q_t_hours, .ref q_t_had, .ref q_t_due, .ref q_t_leftHour, .ref q_t_leftPressure, .ref q_t_note, .ref q_t_past, .ref q_t_ahead, .ref q_t_gets, .int o.2.2.1])), (q_t_hours, zI E 5 t_hours), (q_t_ahead, zI E 5 o.2.2.2.1), (q_t_kind, zI E 5 t_kind), (q_t_wanted, zI E 5 t_wanted), (q_t_gets, zI E 5 o.2.2.2.2.1), (q_t_had, zI E 5 o.2.2.2.2.2.1), (q_t_due, zI E 5 o.2.2.2.2.2.2)] := by
  refine zM.of (cc := cX1_passDay) (maxL := 4) (ret := (some .int)) (by decide +kernel) rfl (Nat.le_of_ble_eq_true rfl) ?_
  intro p e s m args below meth c A C hr
  have C : zC p s m args c meth cX1_passDay 4 RX1 wsX1_passDay E A := C
  rw [f_X1_passDay] at h
  refine z_aload_n C dX1_passDay_0 rfl 0 rfl ?_
  refine z_get C inT_X1 0 rfl rfl 1 (by decide) rfl (mc W_84) rfl dX1_passDay_1 ?_
  refine z_sipush (v := (999 : Int32)) C dX1_passDay_4 (by decide) ?_
  refine z_icmp_lt (tgt := 12) C dX1_passDay_7 (by decide) (fun c => ?_) (fun c => ?_)
  · replace h := (if_pos c).symm.trans h
    refine z_iconst (v := (0 : Int32)) C dX1_passDay_12 (by decide) ?_
    refine z_istore_n (L' := [(1, .int (0 : Int32)), (0, .ref q_t)]) C dX1_passDay_13 rfl (by decide) rfl ?_
    refine z_iconst (v := (0 : Int32)) C dX1_passDay_14 (by decide) ?_
    refine z_istore_n (L' := [(2, .int (0 : Int32)), (1, .int (0 : Int32)), (0, .ref q_t)]) C dX1_passDay_15 rfl (by decide) rfl ?_
    refine z_sub [2, 1, 0] (L' := [(0, .ref q_t), (1, .int (0 : Int32)), (2, .int (0 : Int32))]) rfl ?_
    exact (l_X1_passDay_b16 F t_pressure t_wells t_hours t_kind t_wanted C hr F) (0 : Int32) (0 : Int32) t_day t_leftOver t_ahead t_gets t_had t_due h
  · replace h := (if_neg c).symm.trans h
    refine z_iconst (v := (0 : Int32)) C dX1_passDay_10 (by decide) ?_
    obtain rfl := Option.some.inj h
    exact z_iret (v := (0 : Int32)) C hr dX1_passDay_11
def rm_X1_dailyGets : Room := { frames := 3, cells := 0, slots := 0, locals := 70 }
theorem hd_X1_dailyGets : yX1_dailyGets.cls = yX1_dailyGets.cls ∧ yX1_dailyGets.cls ≠ "java/lang/invoke/MethodHandle" ∧ yX1_dailyGets.cls ≠ "java/lang/invoke/VarHandle" ∧ (parseMethodDescriptor yX1_dailyGets.desc).map (fun d => d.parameters.length) = some 2 := by decide +kernel
abbrev wsX1_dailyGets : List Cond := .code yX1_dailyGets cX1_dailyGets 5 (some .int) :: WALL
set_option maxRecDepth 100000 in
set_option maxHeartbeats 4000000 in
theorem l_X1_dailyGets_b5 {p : Program} {l : Launch} {e : Env} {s : State} {m : MethodId} {args : Array Value} {below : List Frame} {meth : Method} {c : Code} {E : zE} {A : Nat → Prop} {q_t q_t_hours q_t_ahead q_t_kind q_t_wanted q_t_gets q_t_had q_t_due q_t_leftHour q_t_leftPressure q_t_note q_t_past : Nat} {t_day : Int32} {t_lefts : Int32} {t_notes : Int32} {t_undos : Int32} {o : Int32 × Int32 × (Nat → Int32) × (Nat → Int32)} (F : Nat) (a1 : Int32) (a2 : Int32) (t_pressure : Int32) (t_wells : Int32) (t_hours : Nat → Int32) (t_kind : Nat → Int32) (t_wanted : Nat → Int32) (C : zC p s m args c meth cX1_dailyGets 5 RX1 wsX1_dailyGets E A) (hr : meth.sig.returnType = some .int) : ∀ (n : Nat) (v3 : Int32) (v4 : Int32) (t_leftOver : Int32) (t_ahead : Nat → Int32) (t_gets : Nat → Int32), f_X1_dailyGets_b5 F a1 a2 t_pressure t_wells t_hours t_kind t_wanted n v3 v4 t_leftOver t_ahead t_gets = some o → zG p l e rm_X1_dailyGets s m args below meth c 5 E A 0 0 (MQ below (zQ E A (some (.int o.1)) [(q_t, .inr (0, [.int t_pressure, .int t_day, .int t_wells, .int t_lefts, .int t_notes, .int t_undos, .ref q_t_kind, .ref q_t_wanted, .ref q_t_hours, .ref q_t_had, .ref q_t_due, .ref q_t_leftHour, .ref q_t_leftPressure, .ref q_t_note, .ref q_t_past, .ref q_t_ahead, .ref q_t_gets, .int o.2.1])), (q_t_hours, zI E 5 t_hours), (q_t_ahead, zI E 5 o.2.2.1), (q_t_kind, zI E 5 t_kind), (q_t_wanted, zI E 5 t_wanted), (q_t_gets, zI E 5 o.2.2.2)]) args s 0 0 A) [(q_t, .inr (0, [.int t_pressure, .int t_day, .int t_wells, .int t_lefts, .int t_notes, .int t_undos, .ref q_t_kind, .ref q_t_wanted, .ref q_t_hours, .ref q_t_had, .ref q_t_due, .ref q_t_leftHour, .ref q_t_leftPressure, .ref q_t_note, .ref q_t_past, .ref q_t_ahead, .ref q_t_gets, .int t_leftOver])), (q_t_hours, zI E 5 t_hours), (q_t_ahead, zI E 5 t_ahead), (q_t_kind, zI E 5 t_kind), (q_t_wanted, zI E 5 t_wanted), (q_t_gets, zI E 5 t_gets)] 5 [(0, .ref q_t), (1, .int a1), (2, .int a2), (3, .int v3), (4, .int v4)] [] := by
  intro n
  induction n with
  | zero =>
    intro v3 v4 t_leftOver t_ahead t_gets h
    rw [f_X1_dailyGets_b5] at h
    cases h
  | succ n ih =>
    intro v3 v4 t_leftOver t_ahead t_gets h
    rw [f_X1_dailyGets_b5] at h
    refine z_iload C dX1_dailyGets_5 4 rfl ?_
    refine z_bipush (v := (8 : Int32)) C dX1_dailyGets_7 (by decide) ?_
    refine z_icmp_ge (tgt := 45) C dX1_dailyGets_9 (by decide) (fun c => ?_) (fun c => ?_)
    · replace h := (if_pos c).symm.trans h
      refine z_iload_n C dX1_dailyGets_45 rfl 3 rfl ?_
      obtain rfl := Option.some.inj h
      exact z_iret (v := v3) C hr dX1_dailyGets_46
    · replace h := (if_neg c).symm.trans h
      refine z_aload_n C dX1_dailyGets_12 rfl 0 rfl ?_
      refine z_iload C dX1_dailyGets_13 4 rfl ?_
      refine z_aload_n C dX1_dailyGets_15 rfl 0 rfl ?_
      refine z_iload C dX1_dailyGets_16 4 rfl ?_
      obtain ⟨o1, ho2, h⟩ := bnd_some h
      refine z_callV (wc := [(q_t, .inr (0, [.int t_pressure, .int t_day, .int t_wells, .int t_lefts, .int t_notes, .int t_undos, .ref q_t_kind, .ref q_t_wanted, .ref q_t_hours, .ref q_t_had, .ref q_t_due, .ref q_t_leftHour, .ref q_t_leftPressure, .ref q_t_note, .ref q_t_past, .ref q_t_ahead, .ref q_t_gets, .int t_leftOver])), (q_t_hours, zI E 5 t_hours)]) (wr := [(q_t_ahead, zI E 5 t_ahead), (q_t_kind, zI E 5 t_kind), (q_t_wanted, zI E 5 t_wanted), (q_t_gets, zI E 5 t_gets)]) (wc' := [(q_t, .inr (0, [.int t_pressure, .int t_day, .int t_wells, .int t_lefts, .int t_notes, .int t_undos, .ref q_t_kind, .ref q_t_wanted, .ref q_t_hours, .ref q_t_had, .ref q_t_due, .ref q_t_leftHour, .ref q_t_leftPressure, .ref q_t_note, .ref q_t_past, .ref q_t_ahead, .ref q_t_gets, .int t_leftOver])), (q_t_hours, zI E 5 t_hours)]) (ws2 := [(q_t, .inr (0, [.int t_pressure, .int t_day, .int t_wells, .int t_lefts, .int t_notes, .int t_undos, .ref q_t_kind, .ref q_t_wanted, .ref q_t_hours, .ref q_t_had, .ref q_t_due, .ref q_t_leftHour, .ref q_t_leftPressure, .ref q_t_note, .ref q_t_past, .ref q_t_ahead, .ref q_t_gets, .int t_leftOver])), (q_t_hours, zI E 5 t_hours), (q_t_ahead, zI E 5 t_ahead), (q_t_kind, zI E 5 t_kind), (q_t_wanted, zI E 5 t_wanted), (q_t_gets, zI E 5 t_gets)]) (As := [.int v4]) (st2 := [.int o1, .int v4, .ref q_t]) C [0, 1] [2, 3, 4, 5] [4, 5, 0, 1, 2, 3] rfl rfl rfl rfl (by decide) rfl rfl (c_X1_openIn F ho2) (goodVT consT W_363 W_364 W_365 W_59 W_366) rfl rfl rfl hd_X1_openIn ⟨Nat.le_of_ble_eq_true rfl, Nat.le_of_ble_eq_true rfl⟩ rfl rfl rfl (j := 0) rfl rfl rfl (Nat.le_of_ble_eq_true rfl) dX1_dailyGets_18 ⟨Nat.zero_le _, Nat.zero_le _⟩ ?_
      refine z_iload_n C dX1_dailyGets_21 rfl 2 rfl ?_
      refine z_iand C dX1_dailyGets_22 ?_
      refine z_aload_n C dX1_dailyGets_23 rfl 0 rfl ?_
      refine z_get C inT_X1 0 rfl rfl 0 (by decide) rfl (mc W_80) rfl dX1_dailyGets_24 ?_
      obtain ⟨o3, ho4, h⟩ := bnd_some h
      refine z_callV (wc := [(q_t, .inr (0, [.int t_pressure, .int t_day, .int t_wells, .int t_lefts, .int t_notes, .int t_undos, .ref q_t_kind, .ref q_t_wanted, .ref q_t_hours, .ref q_t_had, .ref q_t_due, .ref q_t_leftHour, .ref q_t_leftPressure, .ref q_t_note, .ref q_t_past, .ref q_t_ahead, .ref q_t_gets, .int t_leftOver])), (q_t_ahead, zI E 5 t_ahead), (q_t_kind, zI E 5 t_kind), (q_t_wanted, zI E 5 t_wanted), (q_t_gets, zI E 5 t_gets)]) (wr := [(q_t_hours, zI E 5 t_hours)]) (wc' := [(q_t, .inr (0, [.int t_pressure, .int t_day, .int t_wells, .int t_lefts, .int t_notes, .int t_undos, .ref q_t_kind, .ref q_t_wanted, .ref q_t_hours, .ref q_t_had, .ref q_t_due, .ref q_t_leftHour, .ref q_t_leftPressure, .ref q_t_note, .ref q_t_past, .ref q_t_ahead, .ref q_t_gets, .int o3.1])), (q_t_ahead, zI E 5 o3.2.1), (q_t_kind, zI E 5 t_kind), (q_t_wanted, zI E 5 t_wanted), (q_t_gets, zI E 5 o3.2.2)]) (ws2 := [(q_t, .inr (0, [.int t_pressure, .int t_day, .int t_wells, .int t_lefts, .int t_notes, .int t_undos, .ref q_t_kind, .ref q_t_wanted, .ref q_t_hours, .ref q_t_had, .ref q_t_due, .ref q_t_leftHour, .ref q_t_leftPressure, .ref q_t_note, .ref q_t_past, .ref q_t_ahead, .ref q_t_gets, .int o3.1])), (q_t_hours, zI E 5 t_hours), (q_t_ahead, zI E 5 o3.2.1), (q_t_kind, zI E 5 t_kind), (q_t_wanted, zI E 5 t_wanted), (q_t_gets, zI E 5 o3.2.2)]) (As := [.int v4, .int (o1 &&& a2), .int t_pressure]) (st2 := []) C [0, 2, 3, 4, 5] [1] [1, 0, 2, 3, 4, 5] rfl rfl rfl rfl (by decide) rfl rfl (c_X1_runHour F ho4) (goodVT consT W_371 W_372 W_373 W_59 W_374) rfl rfl rfl hd_X1_runHour ⟨Nat.le_of_ble_eq_true rfl, Nat.le_of_ble_eq_true rfl⟩ rfl rfl rfl (j := 0) rfl rfl rfl (Nat.le_of_ble_eq_true rfl) dX1_dailyGets_27 ⟨Nat.zero_le _, Nat.zero_le _⟩ ?_
      refine z_iload_n C dX1_dailyGets_30 rfl 3 rfl ?_
      refine z_aload_n C dX1_dailyGets_31 rfl 0 rfl ?_
      refine z_get C inT_X1 0 rfl rfl 16 (by decide) rfl (mc W_118) rfl dX1_dailyGets_32 ?_
      refine z_iload_n C dX1_dailyGets_35 rfl 1 rfl ?_
      obtain ⟨c5, h⟩ := chk_some h
      refine z_iald C 5 rfl c5 dX1_dailyGets_36 ?_
      refine z_iadd C dX1_dailyGets_37 ?_
      refine z_istore_n (L' := [(3, .int (v3 + (o3.2.2 a1.toNatClampNeg))), (0, .ref q_t), (1, .int a1), (2, .int a2), (4, .int v4)]) C dX1_dailyGets_38 rfl (by decide) rfl ?_
      refine z_iinc (v := v4 + (1 : Int32)) (L' := [(4, .int (v4 + (1 : Int32))), (3, .int (v3 + (o3.2.2 a1.toNatClampNeg))), (0, .ref q_t), (1, .int a1), (2, .int a2)]) C dX1_dailyGets_39 4 rfl rfl (by decide) rfl ?_
      refine z_goto (tgt := 5) C dX1_dailyGets_42 (by decide) ?_
      refine z_sub [2, 3, 4, 1, 0] (L' := [(0, .ref q_t), (1, .int a1), (2, .int a2), (3, .int (v3 + (o3.2.2 a1.toNatClampNeg))), (4, .int (v4 + (1 : Int32)))]) rfl ?_
      exact ih (v3 + (o3.2.2 a1.toNatClampNeg)) (v4 + (1 : Int32)) o3.1 o3.2.1 o3.2.2 h
set_option maxRecDepth 100000 in
set_option maxHeartbeats 4000000 in
theorem c_X1_dailyGets {l : Launch} {E : zE} {q_t q_t_hours q_t_ahead q_t_kind q_t_wanted q_t_gets q_t_had q_t_due q_t_leftHour q_t_leftPressure q_t_note q_t_past : Nat} {t_day : Int32} {t_lefts : Int32} {t_notes : Int32} {t_undos : Int32} {a1 : Int32} {a2 : Int32} {t_pressure : Int32} {t_wells : Int32} {t_hours : Nat → Int32} {t_kind : Nat → Int32} {t_wanted : Nat → Int32} {t_leftOver : Int32} {t_ahead : Nat → Int32} {t_gets : Nat → Int32} {o : Int32 × Int32 × (Nat → Int32) × (Nat → Int32)} (F : Nat) (h : f_X1_dailyGets F a1 a2 t_pressure t_wells t_hours t_kind t_wanted t_leftOver t_ahead t_gets = some o) : zM l yX1_dailyGets wsX1_dailyGets rm_X1_dailyGets E [.ref q_t, .int a1, .int a2] [(q_t, .inr (0, [.int t_pressure, .int t_day, .int t_wells, .int t_lefts, .int t_notes, .int t_undos, .ref q_t_kind, .ref q_t_wanted, .ref q_t_hours, .ref q_t_had, .ref q_t_due, .ref q_t_leftHour, .ref q_t_leftPressure, .ref q_t_note, .ref q_t_past, .ref q_t_ahead, .ref q_t_gets, .int t_leftOver])), (q_t_hours, zI E 5 t_hours), (q_t_ahead, zI E 5 t_ahead), (q_t_kind, zI E 5 t_kind), (q_t_wanted, zI E 5 t_wanted), (q_t_gets, zI E 5 t_gets)] (some (.int o.1)) [(q_t, .inr (0, [.int t_pressure, .int t_day, .int t_wells, .int t_lefts, .int t_notes, .int t_undos, .ref q_t_kind, .ref q_t_wanted, .ref q_t_hours, .ref q_t_had, .ref q_t_due, .ref q_t_leftHour, .ref q_t_leftPressure, .ref q_t_note, .ref q_t_past, .ref q_t_ahead, .ref q_t_gets, .int o.2.1])), (q_t_hours, zI E 5 t_hours), (q_t_ahead, zI E 5 o.2.2.1), (q_t_kind, zI E 5 t_kind), (q_t_wanted, zI E 5 t_wanted), (q_t_gets, zI E 5 o.2.2.2)] := by
  refine zM.of (cc := cX1_dailyGets) (maxL := 5) (ret := (some .int)) (by decide +kernel) rfl (Nat.le_of_ble_eq_true rfl) ?_
  intro p e s m args below meth c A C hr
  have C : zC p s m args c meth cX1_dailyGets 5 RX1 wsX1_dailyGets E A := C
  rw [f_X1_dailyGets] at h
  refine z_iconst (v := (0 : Int32)) C dX1_dailyGets_0 (by decide) ?_
  refine z_istore_n (L' := [(3, .int (0 : Int32)), (0, .ref q_t), (1, .int a1), (2, .int a2)]) C dX1_dailyGets_1 rfl (by decide) rfl ?_
  refine z_iconst (v := (0 : Int32)) C dX1_dailyGets_2 (by decide) ?_
  refine z_istore (L' := [(4, .int (0 : Int32)), (3, .int (0 : Int32)), (0, .ref q_t), (1, .int a1), (2, .int a2)]) C dX1_dailyGets_3 (by decide) rfl ?_
  refine z_sub [2, 3, 4, 1, 0] (L' := [(0, .ref q_t), (1, .int a1), (2, .int a2), (3, .int (0 : Int32)), (4, .int (0 : Int32))]) rfl ?_
  exact (l_X1_dailyGets_b5 F a1 a2 t_pressure t_wells t_hours t_kind t_wanted C hr F) (0 : Int32) (0 : Int32) t_leftOver t_ahead t_gets h
def rm_X1_dailyDue : Room := { frames := 4, cells := 0, slots := 0, locals := 93 }
theorem hd_X1_dailyDue : yX1_dailyDue.cls = yX1_dailyDue.cls ∧ yX1_dailyDue.cls ≠ "java/lang/invoke/MethodHandle" ∧ yX1_dailyDue.cls ≠ "java/lang/invoke/VarHandle" ∧ (parseMethodDescriptor yX1_dailyDue.desc).map (fun d => d.parameters.length) = some 1 := by decide +kernel
abbrev wsX1_dailyDue : List Cond := .code yX1_dailyDue cX1_dailyDue 4 (some .int) :: WALL
set_option maxRecDepth 100000 in
set_option maxHeartbeats 4000000 in
theorem l_X1_dailyDue_b4 {p : Program} {l : Launch} {e : Env} {s : State} {m : MethodId} {args : Array Value} {below : List Frame} {meth : Method} {c : Code} {E : zE} {A : Nat → Prop} {q_t q_t_kind q_t_hours q_t_ahead q_t_wanted q_t_gets q_t_had q_t_due q_t_leftHour q_t_leftPressure q_t_note q_t_past : Nat} {t_day : Int32} {t_lefts : Int32} {t_notes : Int32} {t_undos : Int32} {o : Int32 × Int32 × (Nat → Int32) × (Nat → Int32)} (F : Nat) (a1 : Int32) (t_pressure : Int32) (t_wells : Int32) (t_kind : Nat → Int32) (t_hours : Nat → Int32) (t_wanted : Nat → Int32) (C : zC p s m args c meth cX1_dailyDue 4 RX1 wsX1_dailyDue E A) (hr : meth.sig.returnType = some .int) : ∀ (n : Nat) (v2 : Int32) (v3 : Int32) (t_leftOver : Int32) (t_ahead : Nat → Int32) (t_gets : Nat → Int32), f_X1_dailyDue_b4 F a1 t_pressure t_wells t_kind t_hours t_wanted n v2 v3 t_leftOver t_ahead t_gets = some o → zG p l e rm_X1_dailyDue s m args below meth c 4 E A 0 0 (MQ below (zQ E A (some (.int o.1)) [(q_t, .inr (0, [.int t_pressure, .int t_day, .int t_wells, .int t_lefts, .int t_notes, .int t_undos, .ref q_t_kind, .ref q_t_wanted, .ref q_t_hours, .ref q_t_had, .ref q_t_due, .ref q_t_leftHour, .ref q_t_leftPressure, .ref q_t_note, .ref q_t_past, .ref q_t_ahead, .ref q_t_gets, .int o.2.1])), (q_t_kind, zI E 5 t_kind), (q_t_hours, zI E 5 t_hours), (q_t_ahead, zI E 5 o.2.2.1), (q_t_wanted, zI E 5 t_wanted), (q_t_gets, zI E 5 o.2.2.2)]) args s 0 0 A) [(q_t, .inr (0, [.int t_pressure, .int t_day, .int t_wells, .int t_lefts, .int t_notes, .int t_undos, .ref q_t_kind, .ref q_t_wanted, .ref q_t_hours, .ref q_t_had, .ref q_t_due, .ref q_t_leftHour, .ref q_t_leftPressure, .ref q_t_note, .ref q_t_past, .ref q_t_ahead, .ref q_t_gets, .int t_leftOver])), (q_t_kind, zI E 5 t_kind), (q_t_hours, zI E 5 t_hours), (q_t_ahead, zI E 5 t_ahead), (q_t_wanted, zI E 5 t_wanted), (q_t_gets, zI E 5 t_gets)] 4 [(0, .ref q_t), (1, .int a1), (2, .int v2), (3, .int v3)] [] := by
  intro n
  induction n with
  | zero =>
    intro v2 v3 t_leftOver t_ahead t_gets h
    rw [f_X1_dailyDue_b4] at h
    cases h
  | succ n ih =>
    intro v2 v3 t_leftOver t_ahead t_gets h
    rw [f_X1_dailyDue_b4] at h
    refine z_iload_n C dX1_dailyDue_4 rfl 3 rfl ?_
    refine z_bipush (v := (8 : Int32)) C dX1_dailyDue_5 (by decide) ?_
    refine z_icmp_ge (tgt := 38) C dX1_dailyDue_7 (by decide) (fun c => ?_) (fun c => ?_)
    · replace h := (if_pos c).symm.trans h
      refine z_iload_n C dX1_dailyDue_38 rfl 2 rfl ?_
      obtain rfl := Option.some.inj h
      exact z_iret (v := v2) C hr dX1_dailyDue_39
    · replace h := (if_neg c).symm.trans h
      refine z_iload_n C dX1_dailyDue_10 rfl 2 rfl ?_
      refine z_aload_n C dX1_dailyDue_11 rfl 0 rfl ?_
      refine z_get C inT_X1 0 rfl rfl 6 (by decide) rfl (mc W_96) rfl dX1_dailyDue_12 ?_
      refine z_iload_n C dX1_dailyDue_15 rfl 1 rfl ?_
      obtain ⟨c1, h⟩ := chk_some h
      refine z_iald C 1 rfl c1 dX1_dailyDue_16 ?_
      refine z_aload_n C dX1_dailyDue_17 rfl 0 rfl ?_
      refine z_iload_n C dX1_dailyDue_18 rfl 1 rfl ?_
      refine z_iload_n C dX1_dailyDue_19 rfl 3 rfl ?_
      refine z_aload_n C dX1_dailyDue_20 rfl 0 rfl ?_
      refine z_get C inT_X1 0 rfl rfl 0 (by decide) rfl (mc W_80) rfl dX1_dailyDue_21 ?_
      obtain ⟨o2, ho3, h⟩ := bnd_some h
      refine z_callV (wc := [(q_t, .inr (0, [.int t_pressure, .int t_day, .int t_wells, .int t_lefts, .int t_notes, .int t_undos, .ref q_t_kind, .ref q_t_wanted, .ref q_t_hours, .ref q_t_had, .ref q_t_due, .ref q_t_leftHour, .ref q_t_leftPressure, .ref q_t_note, .ref q_t_past, .ref q_t_ahead, .ref q_t_gets, .int t_leftOver])), (q_t_hours, zI E 5 t_hours), (q_t_ahead, zI E 5 t_ahead), (q_t_kind, zI E 5 t_kind), (q_t_wanted, zI E 5 t_wanted), (q_t_gets, zI E 5 t_gets)]) (wr := []) (wc' := [(q_t, .inr (0, [.int t_pressure, .int t_day, .int t_wells, .int t_lefts, .int t_notes, .int t_undos, .ref q_t_kind, .ref q_t_wanted, .ref q_t_hours, .ref q_t_had, .ref q_t_due, .ref q_t_leftHour, .ref q_t_leftPressure, .ref q_t_note, .ref q_t_past, .ref q_t_ahead, .ref q_t_gets, .int o2.2.1])), (q_t_hours, zI E 5 t_hours), (q_t_ahead, zI E 5 o2.2.2.1), (q_t_kind, zI E 5 t_kind), (q_t_wanted, zI E 5 t_wanted), (q_t_gets, zI E 5 o2.2.2.2)]) (ws2 := [(q_t, .inr (0, [.int t_pressure, .int t_day, .int t_wells, .int t_lefts, .int t_notes, .int t_undos, .ref q_t_kind, .ref q_t_wanted, .ref q_t_hours, .ref q_t_had, .ref q_t_due, .ref q_t_leftHour, .ref q_t_leftPressure, .ref q_t_note, .ref q_t_past, .ref q_t_ahead, .ref q_t_gets, .int o2.2.1])), (q_t_kind, zI E 5 t_kind), (q_t_hours, zI E 5 t_hours), (q_t_ahead, zI E 5 o2.2.2.1), (q_t_wanted, zI E 5 t_wanted), (q_t_gets, zI E 5 o2.2.2.2)]) (As := [.int a1, .int v3, .int t_pressure]) (st2 := [.int o2.1, .int (t_kind a1.toNatClampNeg), .int v2]) C [0, 2, 3, 1, 4, 5] [] [0, 3, 1, 2, 4, 5] rfl rfl rfl rfl (by decide) rfl rfl (c_X1_getsAt F ho3) (goodVT consT W_461 W_462 W_463 W_59 W_464) rfl rfl rfl hd_X1_getsAt ⟨Nat.le_of_ble_eq_true rfl, Nat.le_of_ble_eq_true rfl⟩ rfl rfl rfl (j := 0) rfl rfl rfl (Nat.le_of_ble_eq_true rfl) dX1_dailyDue_24 ⟨Nat.zero_le _, Nat.zero_le _⟩ ?_
      obtain ⟨o4, ho5, h⟩ := bnd_some h
      refine z_callS (wc := []) (wr := [(q_t, .inr (0, [.int t_pressure, .int t_day, .int t_wells, .int t_lefts, .int t_notes, .int t_undos, .ref q_t_kind, .ref q_t_wanted, .ref q_t_hours, .ref q_t_had, .ref q_t_due, .ref q_t_leftHour, .ref q_t_leftPressure, .ref q_t_note, .ref q_t_past, .ref q_t_ahead, .ref q_t_gets, .int o2.2.1])), (q_t_kind, zI E 5 t_kind), (q_t_hours, zI E 5 t_hours), (q_t_ahead, zI E 5 o2.2.2.1), (q_t_wanted, zI E 5 t_wanted), (q_t_gets, zI E 5 o2.2.2.2)]) (wc' := []) (ws2 := [(q_t, .inr (0, [.int t_pressure, .int t_day, .int t_wells, .int t_lefts, .int t_notes, .int t_undos, .ref q_t_kind, .ref q_t_wanted, .ref q_t_hours, .ref q_t_had, .ref q_t_due, .ref q_t_leftHour, .ref q_t_leftPressure, .ref q_t_note, .ref q_t_past, .ref q_t_ahead, .ref q_t_gets, .int o2.2.1])), (q_t_kind, zI E 5 t_kind), (q_t_hours, zI E 5 t_hours), (q_t_ahead, zI E 5 o2.2.2.1), (q_t_wanted, zI E 5 t_wanted), (q_t_gets, zI E 5 o2.2.2.2)]) (As := [.int (t_kind a1.toNatClampNeg), .int o2.1]) (st2 := [.int o4, .int v2]) C [] [0, 1, 2, 3, 4, 5] [0, 1, 2, 3, 4, 5] rfl rfl rfl rfl (by decide) rfl rfl (c_X0_due F ho5) (goodST consT W_381 W_382 W_63 W_383) rfl rfl rfl hd_X0_due ⟨Nat.le_of_ble_eq_true rfl, Nat.le_of_ble_eq_true rfl⟩ rfl rfl rfl (Nat.le_of_ble_eq_true rfl) dX1_dailyDue_27 ⟨Nat.zero_le _, Nat.zero_le _⟩ ?_
      refine z_iadd C dX1_dailyDue_30 ?_
      refine z_istore_n (L' := [(2, .int (v2 + o4)), (0, .ref q_t), (1, .int a1), (3, .int v3)]) C dX1_dailyDue_31 rfl (by decide) rfl ?_
      refine z_iinc (v := v3 + (1 : Int32)) (L' := [(3, .int (v3 + (1 : Int32))), (2, .int (v2 + o4)), (0, .ref q_t), (1, .int a1)]) C dX1_dailyDue_32 3 rfl rfl (by decide) rfl ?_
      refine z_goto (tgt := 4) C dX1_dailyDue_35 (by decide) ?_
      refine z_sub [2, 3, 1, 0] (L' := [(0, .ref q_t), (1, .int a1), (2, .int (v2 + o4)), (3, .int (v3 + (1 : Int32)))]) rfl ?_
      exact ih (v2 + o4) (v3 + (1 : Int32)) o2.2.1 o2.2.2.1 o2.2.2.2 h
set_option maxRecDepth 100000 in
set_option maxHeartbeats 4000000 in
theorem c_X1_dailyDue {l : Launch} {E : zE} {q_t q_t_kind q_t_hours q_t_ahead q_t_wanted q_t_gets q_t_had q_t_due q_t_leftHour q_t_leftPressure q_t_note q_t_past : Nat} {t_day : Int32} {t_lefts : Int32} {t_notes : Int32} {t_undos : Int32} {a1 : Int32} {t_pressure : Int32} {t_wells : Int32} {t_kind : Nat → Int32} {t_hours : Nat → Int32} {t_wanted : Nat → Int32} {t_leftOver : Int32} {t_ahead : Nat → Int32} {t_gets : Nat → Int32} {o : Int32 × Int32 × (Nat → Int32) × (Nat → Int32)} (F : Nat) (h : f_X1_dailyDue F a1 t_pressure t_wells t_kind t_hours t_wanted t_leftOver t_ahead t_gets = some o) : zM l yX1_dailyDue wsX1_dailyDue rm_X1_dailyDue E [.ref q_t, .int a1] [(q_t, .inr (0, [.int t_pressure, .int t_day, .int t_wells, .int t_lefts, .int t_notes, .int t_undos, .ref q_t_kind, .ref q_t_wanted, .ref q_t_hours, .ref q_t_had, .ref q_t_due, .ref q_t_leftHour, .ref q_t_leftPressure, .ref q_t_note, .ref q_t_past, .ref q_t_ahead, .ref q_t_gets, .int t_leftOver])), (q_t_kind, zI E 5 t_kind), (q_t_hours, zI E 5 t_hours), (q_t_ahead, zI E 5 t_ahead), (q_t_wanted, zI E 5 t_wanted), (q_t_gets, zI E 5 t_gets)] (some (.int o.1)) [(q_t, .inr (0, [.int t_pressure, .int t_day, .int t_wells, .int t_lefts, .int t_notes, .int t_undos, .ref q_t_kind, .ref q_t_wanted, .ref q_t_hours, .ref q_t_had, .ref q_t_due, .ref q_t_leftHour, .ref q_t_leftPressure, .ref q_t_note, .ref q_t_past, .ref q_t_ahead, .ref q_t_gets, .int o.2.1])), (q_t_kind, zI E 5 t_kind), (q_t_hours, zI E 5 t_hours), (q_t_ahead, zI E 5 o.2.2.1), (q_t_wanted, zI E 5 t_wanted), (q_t_gets, zI E 5 o.2.2.2)] := by
  refine zM.of (cc := cX1_dailyDue) (maxL := 4) (ret := (some .int)) (by decide +kernel) rfl (Nat.le_of_ble_eq_true rfl) ?_
  intro p e s m args below meth c A C hr
  have C : zC p s m args c meth cX1_dailyDue 4 RX1 wsX1_dailyDue E A := C
  rw [f_X1_dailyDue] at h
  refine z_iconst (v := (0 : Int32)) C dX1_dailyDue_0 (by decide) ?_
  refine z_istore_n (L' := [(2, .int (0 : Int32)), (0, .ref q_t), (1, .int a1)]) C dX1_dailyDue_1 rfl (by decide) rfl ?_
  refine z_iconst (v := (0 : Int32)) C dX1_dailyDue_2 (by decide) ?_
  refine z_istore_n (L' := [(3, .int (0 : Int32)), (2, .int (0 : Int32)), (0, .ref q_t), (1, .int a1)]) C dX1_dailyDue_3 rfl (by decide) rfl ?_
  refine z_sub [2, 3, 1, 0] (L' := [(0, .ref q_t), (1, .int a1), (2, .int (0 : Int32)), (3, .int (0 : Int32))]) rfl ?_
  exact (l_X1_dailyDue_b4 F a1 t_pressure t_wells t_kind t_hours t_wanted C hr F) (0 : Int32) (0 : Int32) t_leftOver t_ahead t_gets h
def rm_X1_dailyOfAll : Room := { frames := 3, cells := 0, slots := 0, locals := 70 }
theorem hd_X1_dailyOfAll : yX1_dailyOfAll.cls = yX1_dailyOfAll.cls ∧ yX1_dailyOfAll.cls ≠ "java/lang/invoke/MethodHandle" ∧ yX1_dailyOfAll.cls ≠ "java/lang/invoke/VarHandle" ∧ (parseMethodDescriptor yX1_dailyOfAll.desc).map (fun d => d.parameters.length) = some 1 := by decide +kernel
abbrev wsX1_dailyOfAll : List Cond := .code yX1_dailyOfAll cX1_dailyOfAll 4 (some .int) :: WALL
set_option maxRecDepth 100000 in
set_option maxHeartbeats 4000000 in
theorem l_X1_dailyOfAll_b4 {p : Program} {l : Launch} {e : Env} {s : State} {m : MethodId} {args : Array Value} {below : List Frame} {meth : Method} {c : Code} {E : zE} {A : Nat → Prop} {q_t q_t_hours q_t_ahead q_t_kind q_t_wanted q_t_gets q_t_had q_t_due q_t_leftHour q_t_leftPressure q_t_note q_t_past : Nat} {t_pressure : Int32} {t_day : Int32} {t_lefts : Int32} {t_notes : Int32} {t_undos : Int32} {o : Int32 × Int32 × (Nat → Int32) × (Nat → Int32)} (F : Nat) (a1 : Int32) (t_wells : Int32) (t_hours : Nat → Int32) (t_kind : Nat → Int32) (t_wanted : Nat → Int32) (C : zC p s m args c meth cX1_dailyOfAll 4 RX1 wsX1_dailyOfAll E A) (hr : meth.sig.returnType = some .int) : ∀ (n : Nat) (v2 : Int32) (v3 : Int32) (t_leftOver : Int32) (t_ahead : Nat → Int32) (t_gets : Nat → Int32), f_X1_dailyOfAll_b4 F a1 t_wells t_hours t_kind t_wanted n v2 v3 t_leftOver t_ahead t_gets = some o → zG p l e rm_X1_dailyOfAll s m args below meth c 4 E A 0 0 (MQ below (zQ E A (some (.int o.1)) [(q_t, .inr (0, [.int t_pressure, .int t_day, .int t_wells, .int t_lefts, .int t_notes, .int t_undos, .ref q_t_kind, .ref q_t_wanted, .ref q_t_hours, .ref q_t_had, .ref q_t_due, .ref q_t_leftHour, .ref q_t_leftPressure, .ref q_t_note, .ref q_t_past, .ref q_t_ahead, .ref q_t_gets, .int o.2.1])), (q_t_hours, zI E 5 t_hours), (q_t_ahead, zI E 5 o.2.2.1), (q_t_kind, zI E 5 t_kind), (q_t_wanted, zI E 5 t_wanted), (q_t_gets, zI E 5 o.2.2.2)]) args s 0 0 A) [(q_t, .inr (0, [.int t_pressure, .int t_day, .int t_wells, .int t_lefts, .int t_notes, .int t_undos, .ref q_t_kind, .ref q_t_wanted, .ref q_t_hours, .ref q_t_had, .ref q_t_due, .ref q_t_leftHour, .ref q_t_leftPressure, .ref q_t_note, .ref q_t_past, .ref q_t_ahead, .ref q_t_gets, .int t_leftOver])), (q_t_hours, zI E 5 t_hours), (q_t_ahead, zI E 5 t_ahead), (q_t_kind, zI E 5 t_kind), (q_t_wanted, zI E 5 t_wanted), (q_t_gets, zI E 5 t_gets)] 4 [(0, .ref q_t), (1, .int a1), (2, .int v2), (3, .int v3)] [] := by
  intro n
  induction n with
  | zero =>
    intro v2 v3 t_leftOver t_ahead t_gets h
    rw [f_X1_dailyOfAll_b4] at h
    cases h
  | succ n ih =>
    intro v2 v3 t_leftOver t_ahead t_gets h
    rw [f_X1_dailyOfAll_b4] at h
    refine z_iload_n C dX1_dailyOfAll_4 rfl 3 rfl ?_
    refine z_bipush (v := (8 : Int32)) C dX1_dailyOfAll_5 (by decide) ?_
    refine z_icmp_ge (tgt := 36) C dX1_dailyOfAll_7 (by decide) (fun c => ?_) (fun c => ?_)
    · replace h := (if_pos c).symm.trans h
      refine z_iload_n C dX1_dailyOfAll_36 rfl 2 rfl ?_
      obtain rfl := Option.some.inj h
      exact z_iret (v := v2) C hr dX1_dailyOfAll_37
    · replace h := (if_neg c).symm.trans h
      refine z_aload_n C dX1_dailyOfAll_10 rfl 0 rfl ?_
      refine z_iload_n C dX1_dailyOfAll_11 rfl 3 rfl ?_
      refine z_aload_n C dX1_dailyOfAll_12 rfl 0 rfl ?_
      refine z_iload_n C dX1_dailyOfAll_13 rfl 3 rfl ?_
      obtain ⟨o1, ho2, h⟩ := bnd_some h
      refine z_callV (wc := [(q_t, .inr (0, [.int t_pressure, .int t_day, .int t_wells, .int t_lefts, .int t_notes, .int t_undos, .ref q_t_kind, .ref q_t_wanted, .ref q_t_hours, .ref q_t_had, .ref q_t_due, .ref q_t_leftHour, .ref q_t_leftPressure, .ref q_t_note, .ref q_t_past, .ref q_t_ahead, .ref q_t_gets, .int t_leftOver])), (q_t_hours, zI E 5 t_hours)]) (wr := [(q_t_ahead, zI E 5 t_ahead), (q_t_kind, zI E 5 t_kind), (q_t_wanted, zI E 5 t_wanted), (q_t_gets, zI E 5 t_gets)]) (wc' := [(q_t, .inr (0, [.int t_pressure, .int t_day, .int t_wells, .int t_lefts, .int t_notes, .int t_undos, .ref q_t_kind, .ref q_t_wanted, .ref q_t_hours, .ref q_t_had, .ref q_t_due, .ref q_t_leftHour, .ref q_t_leftPressure, .ref q_t_note, .ref q_t_past, .ref q_t_ahead, .ref q_t_gets, .int t_leftOver])), (q_t_hours, zI E 5 t_hours)]) (ws2 := [(q_t, .inr (0, [.int t_pressure, .int t_day, .int t_wells, .int t_lefts, .int t_notes, .int t_undos, .ref q_t_kind, .ref q_t_wanted, .ref q_t_hours, .ref q_t_had, .ref q_t_due, .ref q_t_leftHour, .ref q_t_leftPressure, .ref q_t_note, .ref q_t_past, .ref q_t_ahead, .ref q_t_gets, .int t_leftOver])), (q_t_hours, zI E 5 t_hours), (q_t_ahead, zI E 5 t_ahead), (q_t_kind, zI E 5 t_kind), (q_t_wanted, zI E 5 t_wanted), (q_t_gets, zI E 5 t_gets)]) (As := [.int v3]) (st2 := [.int o1, .int v3, .ref q_t]) C [0, 1] [2, 3, 4, 5] [4, 5, 0, 1, 2, 3] rfl rfl rfl rfl (by decide) rfl rfl (c_X1_openIn F ho2) (goodVT consT W_363 W_364 W_365 W_59 W_366) rfl rfl rfl hd_X1_openIn ⟨Nat.le_of_ble_eq_true rfl, Nat.le_of_ble_eq_true rfl⟩ rfl rfl rfl (j := 0) rfl rfl rfl (Nat.le_of_ble_eq_true rfl) dX1_dailyOfAll_14 ⟨Nat.zero_le _, Nat.zero_le _⟩ ?_
      refine z_iload_n C dX1_dailyOfAll_17 rfl 1 rfl ?_
      obtain ⟨o3, ho4, h⟩ := bnd_some h
      refine z_callV (wc := [(q_t, .inr (0, [.int t_pressure, .int t_day, .int t_wells, .int t_lefts, .int t_notes, .int t_undos, .ref q_t_kind, .ref q_t_wanted, .ref q_t_hours, .ref q_t_had, .ref q_t_due, .ref q_t_leftHour, .ref q_t_leftPressure, .ref q_t_note, .ref q_t_past, .ref q_t_ahead, .ref q_t_gets, .int t_leftOver])), (q_t_ahead, zI E 5 t_ahead), (q_t_kind, zI E 5 t_kind), (q_t_wanted, zI E 5 t_wanted), (q_t_gets, zI E 5 t_gets)]) (wr := [(q_t_hours, zI E 5 t_hours)]) (wc' := [(q_t, .inr (0, [.int t_pressure, .int t_day, .int t_wells, .int t_lefts, .int t_notes, .int t_undos, .ref q_t_kind, .ref q_t_wanted, .ref q_t_hours, .ref q_t_had, .ref q_t_due, .ref q_t_leftHour, .ref q_t_leftPressure, .ref q_t_note, .ref q_t_past, .ref q_t_ahead, .ref q_t_gets, .int o3.1])), (q_t_ahead, zI E 5 o3.2.1), (q_t_kind, zI E 5 t_kind), (q_t_wanted, zI E 5 t_wanted), (q_t_gets, zI E 5 o3.2.2)]) (ws2 := [(q_t, .inr (0, [.int t_pressure, .int t_day, .int t_wells, .int t_lefts, .int t_notes, .int t_undos, .ref q_t_kind, .ref q_t_wanted, .ref q_t_hours, .ref q_t_had, .ref q_t_due, .ref q_t_leftHour, .ref q_t_leftPressure, .ref q_t_note, .ref q_t_past, .ref q_t_ahead, .ref q_t_gets, .int o3.1])), (q_t_hours, zI E 5 t_hours), (q_t_ahead, zI E 5 o3.2.1), (q_t_kind, zI E 5 t_kind), (q_t_wanted, zI E 5 t_wanted), (q_t_gets, zI E 5 o3.2.2)]) (As := [.int v3, .int o1, .int a1]) (st2 := []) C [0, 2, 3, 4, 5] [1] [1, 0, 2, 3, 4, 5] rfl rfl rfl rfl (by decide) rfl rfl (c_X1_runHour F ho4) (goodVT consT W_371 W_372 W_373 W_59 W_374) rfl rfl rfl hd_X1_runHour ⟨Nat.le_of_ble_eq_true rfl, Nat.le_of_ble_eq_true rfl⟩ rfl rfl rfl (j := 0) rfl rfl rfl (Nat.le_of_ble_eq_true rfl) dX1_dailyOfAll_18 ⟨Nat.zero_le _, Nat.zero_le _⟩ ?_
      refine z_iload_n C dX1_dailyOfAll_21 rfl 2 rfl ?_
      refine z_iload_n C dX1_dailyOfAll_22 rfl 1 rfl ?_
      refine z_aload_n C dX1_dailyOfAll_23 rfl 0 rfl ?_
      refine z_get C inT_X1 0 rfl rfl 17 (by decide) rfl (mc W_120) rfl dX1_dailyOfAll_24 ?_
      refine z_isub C dX1_dailyOfAll_27 ?_
      refine z_iadd C dX1_dailyOfAll_28 ?_
      refine z_istore_n (L' := [(2, .int (v2 + (a1 - o3.1))), (0, .ref q_t), (1, .int a1), (3, .int v3)]) C dX1_dailyOfAll_29 rfl (by decide) rfl ?_
      refine z_iinc (v := v3 + (1 : Int32)) (L' := [(3, .int (v3 + (1 : Int32))), (2, .int (v2 + (a1 - o3.1))), (0, .ref q_t), (1, .int a1)]) C dX1_dailyOfAll_30 3 rfl rfl (by decide) rfl ?_
      refine z_goto (tgt := 4) C dX1_dailyOfAll_33 (by decide) ?_
      refine z_sub [2, 3, 1, 0] (L' := [(0, .ref q_t), (1, .int a1), (2, .int (v2 + (a1 - o3.1))), (3, .int (v3 + (1 : Int32)))]) rfl ?_
      exact ih (v2 + (a1 - o3.1)) (v3 + (1 : Int32)) o3.1 o3.2.1 o3.2.2 h
set_option maxRecDepth 100000 in
set_option maxHeartbeats 4000000 in
theorem c_X1_dailyOfAll {l : Launch} {E : zE} {q_t q_t_hours q_t_ahead q_t_kind q_t_wanted q_t_gets q_t_had q_t_due q_t_leftHour q_t_leftPressure q_t_note q_t_past : Nat} {t_pressure : Int32} {t_day : Int32} {t_lefts : Int32} {t_notes : Int32} {t_undos : Int32} {a1 : Int32} {t_wells : Int32} {t_hours : Nat → Int32} {t_kind : Nat → Int32} {t_wanted : Nat → Int32} {t_leftOver : Int32} {t_ahead : Nat → Int32} {t_gets : Nat → Int32} {o : Int32 × Int32 × (Nat → Int32) × (Nat → Int32)} (F : Nat) (h : f_X1_dailyOfAll F a1 t_wells t_hours t_kind t_wanted t_leftOver t_ahead t_gets = some o) : zM l yX1_dailyOfAll wsX1_dailyOfAll rm_X1_dailyOfAll E [.ref q_t, .int a1] [(q_t, .inr (0, [.int t_pressure, .int t_day, .int t_wells, .int t_lefts, .int t_notes, .int t_undos, .ref q_t_kind, .ref q_t_wanted, .ref q_t_hours, .ref q_t_had, .ref q_t_due, .ref q_t_leftHour, .ref q_t_leftPressure, .ref q_t_note, .ref q_t_past, .ref q_t_ahead, .ref q_t_gets, .int t_leftOver])), (q_t_hours, zI E 5 t_hours), (q_t_ahead, zI E 5 t_ahead), (q_t_kind, zI E 5 t_kind), (q_t_wanted, zI E 5 t_wanted), (q_t_gets, zI E 5 t_gets)] (some (.int o.1)) [(q_t, .inr (0, [.int t_pressure, .int t_day, .int t_wells, .int t_lefts, .int t_notes, .int t_undos, .ref q_t_kind, .ref q_t_wanted, .ref q_t_hours, .ref q_t_had, .ref q_t_due, .ref q_t_leftHour, .ref q_t_leftPressure, .ref q_t_note, .ref q_t_past, .ref q_t_ahead, .ref q_t_gets, .int o.2.1])), (q_t_hours, zI E 5 t_hours), (q_t_ahead, zI E 5 o.2.2.1), (q_t_kind, zI E 5 t_kind), (q_t_wanted, zI E 5 t_wanted), (q_t_gets, zI E 5 o.2.2.2)] := by
  refine zM.of (cc := cX1_dailyOfAll) (maxL := 4) (ret := (some .int)) (by decide +kernel) rfl (Nat.le_of_ble_eq_true rfl) ?_
  intro p e s m args below meth c A C hr
  have C : zC p s m args c meth cX1_dailyOfAll 4 RX1 wsX1_dailyOfAll E A := C
  rw [f_X1_dailyOfAll] at h
  refine z_iconst (v := (0 : Int32)) C dX1_dailyOfAll_0 (by decide) ?_
  refine z_istore_n (L' := [(2, .int (0 : Int32)), (0, .ref q_t), (1, .int a1)]) C dX1_dailyOfAll_1 rfl (by decide) rfl ?_
  refine z_iconst (v := (0 : Int32)) C dX1_dailyOfAll_2 (by decide) ?_
  refine z_istore_n (L' := [(3, .int (0 : Int32)), (2, .int (0 : Int32)), (0, .ref q_t), (1, .int a1)]) C dX1_dailyOfAll_3 rfl (by decide) rfl ?_
  refine z_sub [2, 3, 1, 0] (L' := [(0, .ref q_t), (1, .int a1), (2, .int (0 : Int32)), (3, .int (0 : Int32))]) rfl ?_
  exact (l_X1_dailyOfAll_b4 F a1 t_wells t_hours t_kind t_wanted C hr F) (0 : Int32) (0 : Int32) t_leftOver t_ahead t_gets h

def rm_X0_gets : Room := { frames := 1, cells := 0, slots := 0, locals := 21 }
theorem hd_X0_gets : yX0_gets.cls ≠ "java/lang/invoke/MethodHandle" ∧ yX0_gets.cls ≠ "java/lang/invoke/VarHandle" ∧ (parseMethodDescriptor yX0_gets.desc).map (fun d => d.parameters.length) = some 4 := by decide +kernel
abbrev wsX0_gets : List Cond := .code yX0_gets cX0_gets 6 (some .int) :: WALL
set_option maxRecDepth 100000 in
set_option maxHeartbeats 4000000 in
theorem l_X0_gets_b22 {p : Program} {l : Launch} {e : Env} {s : State} {m : MethodId} {args : Array Value} {below : List Frame} {meth : Method} {c : Code} {E : zE} {A : Nat → Prop} {o : Int32} (F : Nat) (a0 : Int32) (a1 : Int32) (a2 : Int32) (a3 : Int32) (C : zC p s m args c meth cX0_gets 6 RX0 wsX0_gets E A) (hr : meth.sig.returnType = some .int) : ∀  (v4 : Int32) (s0 : Int32), f_X0_gets_b22 F a0 a1 a2 a3 v4 s0 = some o → zG p l e rm_X0_gets s m args below meth c 6 E A 0 0 (MQ below (zQ E A (some (.int o)) []) args s 0 0 A) [] 22 [(0, .int a0), (2, .int a2), (3, .int a3), (4, .int v4)] [.int s0] := by
  intro v4 s0 h
  rw [f_X0_gets_b22] at h
  refine z_istore (L' := [(5, .int s0), (0, .int a0), (2, .int a2), (3, .int a3), (4, .int v4)]) C dX0_gets_22 (by decide) rfl ?_
  refine z_iload_n C dX0_gets_24 rfl 1 rfl ?_
  by_cases e2 : a0 = (2 : Int32)
  · replace h := (if_pos e2).symm.trans h
    refine z_tabIn (tgt := 56) C dX0_gets_25 (by rw [e2]; decide) (by rw [e2]; decide) (by rw [e2]; rfl) (by decide) ?_
    refine z_iload C dX0_gets_56 0 rfl ?_
    obtain rfl := Option.some.inj h
    exact z_iret (v := s0) C hr dX0_gets_58
  · replace h := (if_neg e2).symm.trans h
    by_cases e3 : a0 = (3 : Int32)
    · replace h := (if_pos e3).symm.trans h
      refine z_tabIn (tgt := 82) C dX0_gets_25 (by rw [e3]; decide) (by rw [e3]; decide) (by rw [e3]; rfl) (by decide) ?_
      refine z_iload C dX0_gets_82 4 rfl ?_
      obtain rfl := Option.some.inj h
      exact z_iret (v := v4) C hr dX0_gets_84
    · replace h := (if_neg e3).symm.trans h
      by_cases e4 : a0 = (4 : Int32)
      · replace h := (if_pos e4).symm.trans h
        refine z_tabIn (tgt := 59) C dX0_gets_25 (by rw [e4]; decide) (by rw [e4]; decide) (by rw [e4]; rfl) (by decide) ?_
        refine z_iload_n C dX0_gets_59 rfl 2 rfl ?_
        refine z_iconst (v := (1 : Int32)) C dX0_gets_60 (by decide) ?_
        refine z_iand C dX0_gets_61 ?_
        refine z_iconst (v := (1 : Int32)) C dX0_gets_62 (by decide) ?_
        refine z_icmp_ne (tgt := 71) C dX0_gets_63 (by decide) (fun c => ?_) (fun c => ?_)
        · replace h := (if_neg c).symm.trans h
          refine z_iconst (v := (0 : Int32)) C dX0_gets_71 (by decide) ?_
          obtain rfl := Option.some.inj h
          exact z_iret (v := (0 : Int32)) C hr dX0_gets_72
        · replace h := (if_pos c).symm.trans h
          refine z_iload C dX0_gets_66 4 rfl ?_
          refine z_goto (tgt := 72) C dX0_gets_68 (by decide) ?_
          obtain rfl := Option.some.inj h
          exact z_iret (v := v4) C hr dX0_gets_72
      · replace h := (if_neg e4).symm.trans h
        by_cases e5 : a0 = (5 : Int32)
        · replace h := (if_pos e5).symm.trans h
          refine z_tabIn (tgt := 73) C dX0_gets_25 (by rw [e5]; decide) (by rw [e5]; decide) (by rw [e5]; rfl) (by decide) ?_
          refine z_iconst (v := (2 : Int32)) C dX0_gets_73 (by decide) ?_
          refine z_iload C dX0_gets_74 0 rfl ?_
          refine z_imul C dX0_gets_76 ?_
          refine z_iload_n C dX0_gets_77 rfl 3 rfl ?_
          refine z_mmin C (mc W_378) (mc W_379) (mc W_64) (mc W_380) (Nat.le_of_ble_eq_true rfl) (Nat.le_of_ble_eq_true rfl) (Nat.zero_le _) (Nat.zero_le _) dX0_gets_78 ?_
          obtain rfl := Option.some.inj h
          exact z_iret (v := if a3 < ((2 : Int32) * s0) then a3 else ((2 : Int32) * s0)) C hr dX0_gets_81
        · replace h := (if_neg e5).symm.trans h
          have g2 := lv_neT (a := 2) e2 (by decide)
          have g3 := lv_neT (a := 3) e3 (by decide)
          have g4 := lv_neT (a := 4) e4 (by decide)
          have g5 := lv_neT (a := 5) e5 (by decide)
          refine z_tabOut (tgt := 82) C dX0_gets_25 (by omega) (by decide) ?_
          refine z_iload C dX0_gets_82 4 rfl ?_
          obtain rfl := Option.some.inj h
          exact z_iret (v := v4) C hr dX0_gets_84
set_option maxRecDepth 100000 in
set_option maxHeartbeats 4000000 in
theorem c_X0_gets {l : Launch} {E : zE} {a0 : Int32} {a1 : Int32} {a2 : Int32} {a3 : Int32} {o : Int32} (F : Nat) (h : f_X0_gets F a0 a1 a2 a3 = some o) : zM l yX0_gets wsX0_gets rm_X0_gets E [.int a0, .int a1, .int a2, .int a3] [] (some (.int o)) [] := by
  refine zM.of (cc := cX0_gets) (maxL := 6) (ret := (some .int)) (by decide +kernel) rfl (Nat.le_of_ble_eq_true rfl) ?_
  intro p e s m args below meth c A C hr
  have C : zC p s m args c meth cX0_gets 6 RX0 wsX0_gets E A := C
  rw [f_X0_gets] at h
  refine z_iload_n C dX0_gets_0 rfl 1 rfl ?_
  refine z_iload_n C dX0_gets_1 rfl 3 rfl ?_
  refine z_mmin C (mc W_378) (mc W_379) (mc W_64) (mc W_380) (Nat.le_of_ble_eq_true rfl) (Nat.le_of_ble_eq_true rfl) (Nat.zero_le _) (Nat.zero_le _) dX0_gets_2 ?_
  refine z_istore (L' := [(4, .int (if a3 < a1 then a3 else a1)), (0, .int a0), (1, .int a1), (2, .int a2), (3, .int a3)]) C dX0_gets_5 (by decide) rfl ?_
  refine z_iload_n C dX0_gets_7 rfl 4 rfl ?_
  refine z_bipush (v := (10 : Int32)) C dX0_gets_8 (by decide) ?_
  refine z_icmp_ge (tgt := 20) C dX0_gets_10 (by decide) (fun c => ?_) (fun c => ?_)
  · replace h := (if_pos c).symm.trans h
    refine z_iload C dX0_gets_20 0 rfl ?_
    refine z_sub [1, 3, 4, 0] (L' := [(0, .int a0), (2, .int a2), (3, .int a3), (4, .int (if a3 < a1 then a3 else a1))]) rfl ?_
    exact (l_X0_gets_b22 F a0 a1 a2 a3 C hr) (if a3 < a1 then a3 else a1) (if a3 < a1 then a3 else a1) h
  · replace h := (if_neg c).symm.trans h
    refine z_iload C dX0_gets_13 0 rfl ?_
    refine z_iconst (v := (2 : Int32)) C dX0_gets_15 (by decide) ?_
    refine z_idiv C dX0_gets_16 (by decide) ?_
    refine z_goto (tgt := 22) C dX0_gets_17 (by decide) ?_
    refine z_sub [1, 3, 4, 0] (L' := [(0, .int a0), (2, .int a2), (3, .int a3), (4, .int (if a3 < a1 then a3 else a1))]) rfl ?_
    exact (l_X0_gets_b22 F a0 a1 a2 a3 C hr) (if a3 < a1 then a3 else a1) ((if a3 < a1 then a3 else a1) / (2 : Int32)) h
def rm_X0_due : Room := { frames := 0, cells := 0, slots := 0, locals := 0 }
theorem hd_X0_due : yX0_due.cls ≠ "java/lang/invoke/MethodHandle" ∧ yX0_due.cls ≠ "java/lang/invoke/VarHandle" ∧ (parseMethodDescriptor yX0_due.desc).map (fun d => d.parameters.length) = some 2 := by decide +kernel
abbrev wsX0_due : List Cond := .code yX0_due cX0_due 2 (some .int) :: WALL
set_option maxRecDepth 100000 in
set_option maxHeartbeats 4000000 in
theorem c_X0_due {l : Launch} {E : zE} {a0 : Int32} {a1 : Int32} {o : Int32} (F : Nat) (h : f_X0_due F a0 a1 = some o) : zM l yX0_due wsX0_due rm_X0_due E [.int a0, .int a1] [] (some (.int o)) [] := by
  refine zM.of (cc := cX0_due) (maxL := 2) (ret := (some .int)) (by decide +kernel) rfl (Nat.le_of_ble_eq_true rfl) ?_
  intro p e s m args below meth c A C hr
  have C : zC p s m args c meth cX0_due 2 RX0 wsX0_due E A := C
  rw [f_X0_due] at h
  refine z_iload_n C dX0_due_0 rfl 0 rfl ?_
  by_cases e1 : a0 = (1 : Int32)
  · replace h := (if_pos e1).symm.trans h
    refine z_tabIn (tgt := 36) C dX0_due_1 (by rw [e1]; decide) (by rw [e1]; decide) (by rw [e1]; rfl) (by decide) ?_
    refine z_iconst (v := (2 : Int32)) C dX0_due_36 (by decide) ?_
    refine z_iload_n C dX0_due_37 rfl 1 rfl ?_
    refine z_imul C dX0_due_38 ?_
    obtain rfl := Option.some.inj h
    exact z_iret (v := (2 : Int32) * a1) C hr dX0_due_39
  · replace h := (if_neg e1).symm.trans h
    by_cases e2 : a0 = (2 : Int32)
    · replace h := (if_pos e2).symm.trans h
      refine z_tabIn (tgt := 55) C dX0_due_1 (by rw [e2]; decide) (by rw [e2]; decide) (by rw [e2]; rfl) (by decide) ?_
      refine z_iload_n C dX0_due_55 rfl 1 rfl ?_
      obtain rfl := Option.some.inj h
      exact z_iret (v := a1) C hr dX0_due_56
    · replace h := (if_neg e2).symm.trans h
      by_cases e3 : a0 = (3 : Int32)
      · replace h := (if_pos e3).symm.trans h
        refine z_tabIn (tgt := 40) C dX0_due_1 (by rw [e3]; decide) (by rw [e3]; decide) (by rw [e3]; rfl) (by decide) ?_
        refine z_iconst (v := (0 : Int32)) C dX0_due_40 (by decide) ?_
        obtain rfl := Option.some.inj h
        exact z_iret (v := (0 : Int32)) C hr dX0_due_41
      · replace h := (if_neg e3).symm.trans h
        by_cases e4 : a0 = (4 : Int32)
        · replace h := (if_pos e4).symm.trans h
          refine z_tabIn (tgt := 36) C dX0_due_1 (by rw [e4]; decide) (by rw [e4]; decide) (by rw [e4]; rfl) (by decide) ?_
          refine z_iconst (v := (2 : Int32)) C dX0_due_36 (by decide) ?_
          refine z_iload_n C dX0_due_37 rfl 1 rfl ?_
          refine z_imul C dX0_due_38 ?_
          obtain rfl := Option.some.inj h
          exact z_iret (v := (2 : Int32) * a1) C hr dX0_due_39
        · replace h := (if_neg e4).symm.trans h
          by_cases e5 : a0 = (5 : Int32)
          · replace h := (if_pos e5).symm.trans h
            refine z_tabIn (tgt := 42) C dX0_due_1 (by rw [e5]; decide) (by rw [e5]; decide) (by rw [e5]; rfl) (by decide) ?_
            refine z_iload_n C dX0_due_42 rfl 1 rfl ?_
            refine z_iconst (v := (1 : Int32)) C dX0_due_43 (by decide) ?_
            refine z_icmp_lt (tgt := 53) C dX0_due_44 (by decide) (fun c => ?_) (fun c => ?_)
            · replace h := (if_pos c).symm.trans h
              refine z_iload_n C dX0_due_53 rfl 1 rfl ?_
              obtain rfl := Option.some.inj h
              exact z_iret (v := a1) C hr dX0_due_54
            · replace h := (if_neg c).symm.trans h
              refine z_iload_n C dX0_due_47 rfl 1 rfl ?_
              refine z_iconst (v := (1 : Int32)) C dX0_due_48 (by decide) ?_
              refine z_iadd C dX0_due_49 ?_
              refine z_goto (tgt := 54) C dX0_due_50 (by decide) ?_
              obtain rfl := Option.some.inj h
              exact z_iret (v := a1 + (1 : Int32)) C hr dX0_due_54
          · replace h := (if_neg e5).symm.trans h
            have g1 := lv_neT (a := 1) e1 (by decide)
            have g2 := lv_neT (a := 2) e2 (by decide)
            have g3 := lv_neT (a := 3) e3 (by decide)
            have g4 := lv_neT (a := 4) e4 (by decide)
            have g5 := lv_neT (a := 5) e5 (by decide)
            refine z_tabOut (tgt := 55) C dX0_due_1 (by omega) (by decide) ?_
            refine z_iload_n C dX0_due_55 rfl 1 rfl ?_
            obtain rfl := Option.some.inj h
            exact z_iret (v := a1) C hr dX0_due_56
def rm_X1_restart : Room := { frames := 0, cells := 0, slots := 0, locals := 0 }
theorem hd_X1_restart : yX1_restart.cls = yX1_restart.cls ∧ yX1_restart.cls ≠ "java/lang/invoke/MethodHandle" ∧ yX1_restart.cls ≠ "java/lang/invoke/VarHandle" ∧ (parseMethodDescriptor yX1_restart.desc).map (fun d => d.parameters.length) = some 1 := by decide +kernel
abbrev wsX1_restart : List Cond := .code yX1_restart cX1_restart 2 none :: WALL
set_option maxRecDepth 100000 in
set_option maxHeartbeats 4000000 in
theorem c_X1_restart {l : Launch} {E : zE} {q_t q_t_kind q_t_wanted q_t_hours q_t_had q_t_due q_t_leftHour q_t_leftPressure q_t_note q_t_past q_t_ahead q_t_gets : Nat} {t_leftOver : Int32} {a1 : Int32} {t_pressure : Int32} {t_day : Int32} {t_wells : Int32} {t_lefts : Int32} {t_notes : Int32} {t_undos : Int32} {o : Int32 × Int32 × Int32 × Int32 × Int32 × Int32} (F : Nat) (h : f_X1_restart F a1 t_pressure t_day t_wells t_lefts t_notes t_undos = some o) : zM l yX1_restart wsX1_restart rm_X1_restart E [.ref q_t, .int a1] [(q_t, .inr (0, [.int t_pressure, .int t_day, .int t_wells, .int t_lefts, .int t_notes, .int t_undos, .ref q_t_kind, .ref q_t_wanted, .ref q_t_hours, .ref q_t_had, .ref q_t_due, .ref q_t_leftHour, .ref q_t_leftPressure, .ref q_t_note, .ref q_t_past, .ref q_t_ahead, .ref q_t_gets, .int t_leftOver]))] none [(q_t, .inr (0, [.int o.1, .int o.2.1, .int o.2.2.1, .int o.2.2.2.1, .int o.2.2.2.2.1, .int o.2.2.2.2.2, .ref q_t_kind, .ref q_t_wanted, .ref q_t_hours, .ref q_t_had, .ref q_t_due, .ref q_t_leftHour, .ref q_t_leftPressure, .ref q_t_note, .ref q_t_past, .ref q_t_ahead, .ref q_t_gets, .int t_leftOver]))] := by
  refine zM.of (cc := cX1_restart) (maxL := 2) (ret := none) (by decide +kernel) rfl (Nat.le_of_ble_eq_true rfl) ?_
  intro p e s m args below meth c A C hr
  have C : zC p s m args c meth cX1_restart 2 RX1 wsX1_restart E A := C
  rw [f_X1_restart] at h
  refine z_aload_n C dX1_restart_0 rfl 0 rfl ?_
  refine z_iload_n C dX1_restart_1 rfl 1 rfl ?_
  refine z_put (ws' := [(q_t, .inr (0, [.int a1, .int t_day, .int t_wells, .int t_lefts, .int t_notes, .int t_undos, .ref q_t_kind, .ref q_t_wanted, .ref q_t_hours, .ref q_t_had, .ref q_t_due, .ref q_t_leftHour, .ref q_t_leftPressure, .ref q_t_note, .ref q_t_past, .ref q_t_ahead, .ref q_t_gets, .int t_leftOver]))]) C inT_X1 tyX1 tyX1_ok nmX1 0 rfl rfl 0 (by decide) rfl (mc W_80) rfl rfl rfl (Nat.le_of_ble_eq_true rfl) rfl dX1_restart_2 ?_
  refine z_aload_n C dX1_restart_5 rfl 0 rfl ?_
  refine z_iconst (v := (0 : Int32)) C dX1_restart_6 (by decide) ?_
  refine z_put (ws' := [(q_t, .inr (0, [.int a1, .int (0 : Int32), .int t_wells, .int t_lefts, .int t_notes, .int t_undos, .ref q_t_kind, .ref q_t_wanted, .ref q_t_hours, .ref q_t_had, .ref q_t_due, .ref q_t_leftHour, .ref q_t_leftPressure, .ref q_t_note, .ref q_t_past, .ref q_t_ahead, .ref q_t_gets, .int t_leftOver]))]) C inT_X1 tyX1 tyX1_ok nmX1 0 rfl rfl 1 (by decide) rfl (mc W_84) rfl rfl rfl (Nat.le_of_ble_eq_true rfl) rfl dX1_restart_7 ?_
  refine z_aload_n C dX1_restart_10 rfl 0 rfl ?_
  refine z_iconst (v := (0 : Int32)) C dX1_restart_11 (by decide) ?_
  refine z_put (ws' := [(q_t, .inr (0, [.int a1, .int (0 : Int32), .int (0 : Int32), .int t_lefts, .int t_notes, .int t_undos, .ref q_t_kind, .ref q_t_wanted, .ref q_t_hours, .ref q_t_had, .ref q_t_due, .ref q_t_leftHour, .ref q_t_leftPressure, .ref q_t_note, .ref q_t_past, .ref q_t_ahead, .ref q_t_gets, .int t_leftOver]))]) C inT_X1 tyX1 tyX1_ok nmX1 0 rfl rfl 2 (by decide) rfl (mc W_86) rfl rfl rfl (Nat.le_of_ble_eq_true rfl) rfl dX1_restart_12 ?_
  refine z_aload_n C dX1_restart_15 rfl 0 rfl ?_
  refine z_iconst (v := (0 : Int32)) C dX1_restart_16 (by decide) ?_
  refine z_put (ws' := [(q_t, .inr (0, [.int a1, .int (0 : Int32), .int (0 : Int32), .int (0 : Int32), .int t_notes, .int t_undos, .ref q_t_kind, .ref q_t_wanted, .ref q_t_hours, .ref q_t_had, .ref q_t_due, .ref q_t_leftHour, .ref q_t_leftPressure, .ref q_t_note, .ref q_t_past, .ref q_t_ahead, .ref q_t_gets, .int t_leftOver]))]) C inT_X1 tyX1 tyX1_ok nmX1 0 rfl rfl 3 (by decide) rfl (mc W_90) rfl rfl rfl (Nat.le_of_ble_eq_true rfl) rfl dX1_restart_17 ?_
  refine z_aload_n C dX1_restart_20 rfl 0 rfl ?_
  refine z_iconst (v := (0 : Int32)) C dX1_restart_21 (by decide) ?_
  refine z_put (ws' := [(q_t, .inr (0, [.int a1, .int (0 : Int32), .int (0 : Int32), .int (0 : Int32), .int (0 : Int32), .int t_undos, .ref q_t_kind, .ref q_t_wanted, .ref q_t_hours, .ref q_t_had, .ref q_t_due, .ref q_t_leftHour, .ref q_t_leftPressure, .ref q_t_note, .ref q_t_past, .ref q_t_ahead, .ref q_t_gets, .int t_leftOver]))]) C inT_X1 tyX1 tyX1_ok nmX1 0 rfl rfl 4 (by decide) rfl (mc W_92) rfl rfl rfl (Nat.le_of_ble_eq_true rfl) rfl dX1_restart_22 ?_
  refine z_aload_n C dX1_restart_25 rfl 0 rfl ?_
  refine z_iconst (v := (0 : Int32)) C dX1_restart_26 (by decide) ?_
  refine z_put (ws' := [(q_t, .inr (0, [.int a1, .int (0 : Int32), .int (0 : Int32), .int (0 : Int32), .int (0 : Int32), .int (0 : Int32), .ref q_t_kind, .ref q_t_wanted, .ref q_t_hours, .ref q_t_had, .ref q_t_due, .ref q_t_leftHour, .ref q_t_leftPressure, .ref q_t_note, .ref q_t_past, .ref q_t_ahead, .ref q_t_gets, .int t_leftOver]))]) C inT_X1 tyX1 tyX1_ok nmX1 0 rfl rfl 5 (by decide) rfl (mc W_94) rfl rfl rfl (Nat.le_of_ble_eq_true rfl) rfl dX1_restart_27 ?_
  obtain rfl := Option.some.inj h
  exact z_vret C hr dX1_restart_30
def rm_X1_has : Room := { frames := 0, cells := 0, slots := 0, locals := 0 }
theorem hd_X1_has : yX1_has.cls = yX1_has.cls ∧ yX1_has.cls ≠ "java/lang/invoke/MethodHandle" ∧ yX1_has.cls ≠ "java/lang/invoke/VarHandle" ∧ (parseMethodDescriptor yX1_has.desc).map (fun d => d.parameters.length) = some 1 := by decide +kernel
abbrev wsX1_has : List Cond := .code yX1_has cX1_has 2 (some .boolean) :: WALL
set_option maxRecDepth 100000 in
set_option maxHeartbeats 4000000 in
theorem c_X1_has {l : Launch} {E : zE} {q_t q_t_kind q_t_wanted q_t_hours q_t_had q_t_due q_t_leftHour q_t_leftPressure q_t_note q_t_past q_t_ahead q_t_gets : Nat} {t_pressure : Int32} {t_day : Int32} {t_lefts : Int32} {t_notes : Int32} {t_undos : Int32} {t_leftOver : Int32} {a1 : Int32} {t_wells : Int32} {o : Int32} (F : Nat) (h : f_X1_has F a1 t_wells = some o) : zM l yX1_has wsX1_has rm_X1_has E [.ref q_t, .int a1] [(q_t, .inr (0, [.int t_pressure, .int t_day, .int t_wells, .int t_lefts, .int t_notes, .int t_undos, .ref q_t_kind, .ref q_t_wanted, .ref q_t_hours, .ref q_t_had, .ref q_t_due, .ref q_t_leftHour, .ref q_t_leftPressure, .ref q_t_note, .ref q_t_past, .ref q_t_ahead, .ref q_t_gets, .int t_leftOver]))] (some (.int o)) [(q_t, .inr (0, [.int t_pressure, .int t_day, .int t_wells, .int t_lefts, .int t_notes, .int t_undos, .ref q_t_kind, .ref q_t_wanted, .ref q_t_hours, .ref q_t_had, .ref q_t_due, .ref q_t_leftHour, .ref q_t_leftPressure, .ref q_t_note, .ref q_t_past, .ref q_t_ahead, .ref q_t_gets, .int t_leftOver]))] := by
  refine zM.of (cc := cX1_has) (maxL := 2) (ret := (some .boolean)) (by decide +kernel) rfl (Nat.le_of_ble_eq_true rfl) ?_
  intro p e s m args below meth c A C hr
  have C : zC p s m args c meth cX1_has 2 RX1 wsX1_has E A := C
  rw [f_X1_has] at h
  refine z_iload_n C dX1_has_0 rfl 1 rfl ?_
  refine z_if_lt (tgt := 16) C dX1_has_1 (by decide) (fun c => ?_) (fun c => ?_)
  · replace h := (if_pos c).symm.trans h
    refine z_iconst (v := (0 : Int32)) C dX1_has_16 (by decide) ?_
    obtain rfl := Option.some.inj h
    exact z_zret (v := (0 : Int32)) C hr rfl dX1_has_17
  · replace h := (if_neg c).symm.trans h
    refine z_iload_n C dX1_has_4 rfl 1 rfl ?_
    refine z_aload_n C dX1_has_5 rfl 0 rfl ?_
    refine z_get C inT_X1 0 rfl rfl 2 (by decide) rfl (mc W_86) rfl dX1_has_6 ?_
    refine z_icmp_ge (tgt := 16) C dX1_has_9 (by decide) (fun c => ?_) (fun c => ?_)
    · replace h := (if_pos c).symm.trans h
      refine z_iconst (v := (0 : Int32)) C dX1_has_16 (by decide) ?_
      obtain rfl := Option.some.inj h
      exact z_zret (v := (0 : Int32)) C hr rfl dX1_has_17
    · replace h := (if_neg c).symm.trans h
      refine z_iconst (v := (1 : Int32)) C dX1_has_12 (by decide) ?_
      refine z_goto (tgt := 17) C dX1_has_13 (by decide) ?_
      obtain rfl := Option.some.inj h
      exact z_zret (v := (1 : Int32)) C hr rfl dX1_has_17
def rm_X1_isOpen : Room := { frames := 0, cells := 0, slots := 0, locals := 0 }
theorem hd_X1_isOpen : yX1_isOpen.cls = yX1_isOpen.cls ∧ yX1_isOpen.cls ≠ "java/lang/invoke/MethodHandle" ∧ yX1_isOpen.cls ≠ "java/lang/invoke/VarHandle" ∧ (parseMethodDescriptor yX1_isOpen.desc).map (fun d => d.parameters.length) = some 2 := by decide +kernel
abbrev wsX1_isOpen : List Cond := .code yX1_isOpen cX1_isOpen 3 (some .boolean) :: WALL
set_option maxRecDepth 100000 in
set_option maxHeartbeats 4000000 in
theorem c_X1_isOpen {l : Launch} {E : zE} {q_t q_t_hours q_t_kind q_t_wanted q_t_had q_t_due q_t_leftHour q_t_leftPressure q_t_note q_t_past q_t_ahead q_t_gets : Nat} {t_pressure : Int32} {t_day : Int32} {t_wells : Int32} {t_lefts : Int32} {t_notes : Int32} {t_undos : Int32} {t_leftOver : Int32} {a1 : Int32} {a2 : Int32} {t_hours : Nat → Int32} {o : Int32} (F : Nat) (h : f_X1_isOpen F a1 a2 t_hours = some o) : zM l yX1_isOpen wsX1_isOpen rm_X1_isOpen E [.ref q_t, .int a1, .int a2] [(q_t, .inr (0, [.int t_pressure, .int t_day, .int t_wells, .int t_lefts, .int t_notes, .int t_undos, .ref q_t_kind, .ref q_t_wanted, .ref q_t_hours, .ref q_t_had, .ref q_t_due, .ref q_t_leftHour, .ref q_t_leftPressure, .ref q_t_note, .ref q_t_past, .ref q_t_ahead, .ref q_t_gets, .int t_leftOver])), (q_t_hours, zI E 5 t_hours)] (some (.int o)) [(q_t, .inr (0, [.int t_pressure, .int t_day, .int t_wells, .int t_lefts, .int t_notes, .int t_undos, .ref q_t_kind, .ref q_t_wanted, .ref q_t_hours, .ref q_t_had, .ref q_t_due, .ref q_t_leftHour, .ref q_t_leftPressure, .ref q_t_note, .ref q_t_past, .ref q_t_ahead, .ref q_t_gets, .int t_leftOver])), (q_t_hours, zI E 5 t_hours)] := by
  refine zM.of (cc := cX1_isOpen) (maxL := 3) (ret := (some .boolean)) (by decide +kernel) rfl (Nat.le_of_ble_eq_true rfl) ?_
  intro p e s m args below meth c A C hr
  have C : zC p s m args c meth cX1_isOpen 3 RX1 wsX1_isOpen E A := C
  rw [f_X1_isOpen] at h
  refine z_aload_n C dX1_isOpen_0 rfl 0 rfl ?_
  refine z_get C inT_X1 0 rfl rfl 8 (by decide) rfl (mc W_102) rfl dX1_isOpen_1 ?_
  refine z_iload_n C dX1_isOpen_4 rfl 1 rfl ?_
  obtain ⟨c1, h⟩ := chk_some h
  refine z_iald C 1 rfl c1 dX1_isOpen_5 ?_
  refine z_iload_n C dX1_isOpen_6 rfl 2 rfl ?_
  refine z_ishr C dX1_isOpen_7 ?_
  refine z_iconst (v := (1 : Int32)) C dX1_isOpen_8 (by decide) ?_
  refine z_iand C dX1_isOpen_9 ?_
  refine z_iconst (v := (1 : Int32)) C dX1_isOpen_10 (by decide) ?_
  refine z_icmp_ne (tgt := 18) C dX1_isOpen_11 (by decide) (fun c => ?_) (fun c => ?_)
  · replace h := (if_neg c).symm.trans h
    refine z_iconst (v := (0 : Int32)) C dX1_isOpen_18 (by decide) ?_
    obtain rfl := Option.some.inj h
    exact z_zret (v := (0 : Int32)) C hr rfl dX1_isOpen_19
  · replace h := (if_pos c).symm.trans h
    refine z_iconst (v := (1 : Int32)) C dX1_isOpen_14 (by decide) ?_
    refine z_goto (tgt := 19) C dX1_isOpen_15 (by decide) ?_
    obtain rfl := Option.some.inj h
    exact z_zret (v := (1 : Int32)) C hr rfl dX1_isOpen_19
def rm_X1_openIn : Room := { frames := 1, cells := 0, slots := 0, locals := 22 }
theorem hd_X1_openIn : yX1_openIn.cls = yX1_openIn.cls ∧ yX1_openIn.cls ≠ "java/lang/invoke/MethodHandle" ∧ yX1_openIn.cls ≠ "java/lang/invoke/VarHandle" ∧ (parseMethodDescriptor yX1_openIn.desc).map (fun d => d.parameters.length) = some 1 := by decide +kernel
abbrev wsX1_openIn : List Cond := .code yX1_openIn cX1_openIn 4 (some .int) :: WALL
set_option maxRecDepth 100000 in
set_option maxHeartbeats 4000000 in
theorem l_X1_openIn_b27 {p : Program} {l : Launch} {e : Env} {s : State} {m : MethodId} {args : Array Value} {below : List Frame} {meth : Method} {c : Code} {E : zE} {A : Nat → Prop} {q_t q_t_hours q_t_kind q_t_wanted q_t_had q_t_due q_t_leftHour q_t_leftPressure q_t_note q_t_past q_t_ahead q_t_gets : Nat} {t_pressure : Int32} {t_day : Int32} {t_lefts : Int32} {t_notes : Int32} {t_undos : Int32} {t_leftOver : Int32} {o : Int32} (F : Nat) (a1 : Int32) (t_wells : Int32) (t_hours : Nat → Int32) (K4 : Int32 → Int32 → Option (Int32)) (C : zC p s m args c meth cX1_openIn 4 RX1 wsX1_openIn E A) (hr : meth.sig.returnType = some .int) (hK4 : ∀ (v2 : Int32) (v3 : Int32), K4 v2 v3 = some o → zG p l e rm_X1_openIn s m args below meth c 4 E A 0 0 (MQ below (zQ E A (some (.int o)) [(q_t, .inr (0, [.int t_pressure, .int t_day, .int t_wells, .int t_lefts, .int t_notes, .int t_undos, .ref q_t_kind, .ref q_t_wanted, .ref q_t_hours, .ref q_t_had, .ref q_t_due, .ref q_t_leftHour, .ref q_t_leftPressure, .ref q_t_note, .ref q_t_past, .ref q_t_ahead, .ref q_t_gets, .int t_leftOver])), (q_t_hours, zI E 5 t_hours)]) args s 0 0 A) [(q_t, .inr (0, [.int t_pressure, .int t_day, .int t_wells, .int t_lefts, .int t_notes, .int t_undos, .ref q_t_kind, .ref q_t_wanted, .ref q_t_hours, .ref q_t_had, .ref q_t_due, .ref q_t_leftHour, .ref q_t_leftPressure, .ref q_t_note, .ref q_t_past, .ref q_t_ahead, .ref q_t_gets, .int t_leftOver])), (q_t_hours, zI E 5 t_hours)] 4 [(0, .ref q_t), (1, .int a1), (2, .int v2), (3, .int v3)] []) : ∀  (v2 : Int32) (v3 : Int32), f_X1_openIn_b27 F a1 t_wells t_hours K4 v2 v3 = some o → zG p l e rm_X1_openIn s m args below meth c 4 E A 0 0 (MQ below (zQ E A (some (.int o)) [(q_t, .inr (0, [.int t_pressure, .int t_day, .int t_wells, .int t_lefts, .int t_notes, .int t_undos, .ref q_t_kind, .ref q_t_wanted, .ref q_t_hours, .ref q_t_had, .ref q_t_due, .ref q_t_leftHour, .ref q_t_leftPressure, .ref q_t_note, .ref q_t_past, .ref q_t_ahead, .ref q_t_gets, .int t_leftOver])), (q_t_hours, zI E 5 t_hours)]) args s 0 0 A) [(q_t, .inr (0, [.int t_pressure, .int t_day, .int t_wells, .int t_lefts, .int t_notes, .int t_undos, .ref q_t_kind, .ref q_t_wanted, .ref q_t_hours, .ref q_t_had, .ref q_t_due, .ref q_t_leftHour, .ref q_t_leftPressure, .ref q_t_note, .ref q_t_past, .ref q_t_ahead, .ref q_t_gets, .int t_leftOver])), (q_t_hours, zI E 5 t_hours)] 27 [(0, .ref q_t), (1, .int a1), (2, .int v2), (3, .int v3)] [] := by
  intro v2 v3 h
  rw [f_X1_openIn_b27] at h
  refine z_iinc (v := v3 + (1 : Int32)) (L' := [(3, .int (v3 + (1 : Int32))), (0, .ref q_t), (1, .int a1), (2, .int v2)]) C dX1_openIn_27 3 rfl rfl (by decide) rfl ?_
  refine z_goto (tgt := 4) C dX1_openIn_30 (by decide) ?_
  refine z_sub [1, 2, 3, 0] (L' := [(0, .ref q_t), (1, .int a1), (2, .int v2), (3, .int (v3 + (1 : Int32)))]) rfl ?_
  exact hK4 v2 (v3 + (1 : Int32)) h
set_option maxRecDepth 100000 in
set_option maxHeartbeats 4000000 in
theorem l_X1_openIn_b4 {p : Program} {l : Launch} {e : Env} {s : State} {m : MethodId} {args : Array Value} {below : List Frame} {meth : Method} {c : Code} {E : zE} {A : Nat → Prop} {q_t q_t_hours q_t_kind q_t_wanted q_t_had q_t_due q_t_leftHour q_t_leftPressure q_t_note q_t_past q_t_ahead q_t_gets : Nat} {t_pressure : Int32} {t_day : Int32} {t_lefts : Int32} {t_notes : Int32} {t_undos : Int32} {t_leftOver : Int32} {o : Int32} (F : Nat) (a1 : Int32) (t_wells : Int32) (t_hours : Nat → Int32) (C : zC p s m args c meth cX1_openIn 4 RX1 wsX1_openIn E A) (hr : meth.sig.returnType = some .int) : ∀ (n : Nat) (v2 : Int32) (v3 : Int32), f_X1_openIn_b4 F a1 t_wells t_hours n v2 v3 = some o → zG p l e rm_X1_openIn s m args below meth c 4 E A 0 0 (MQ below (zQ E A (some (.int o)) [(q_t, .inr (0, [.int t_pressure, .int t_day, .int t_wells, .int t_lefts, .int t_notes, .int t_undos, .ref q_t_kind, .ref q_t_wanted, .ref q_t_hours, .ref q_t_had, .ref q_t_due, .ref q_t_leftHour, .ref q_t_leftPressure, .ref q_t_note, .ref q_t_past, .ref q_t_ahead, .ref q_t_gets, .int t_leftOver])), (q_t_hours, zI E 5 t_hours)]) args s 0 0 A) [(q_t, .inr (0, [.int t_pressure, .int t_day, .int t_wells, .int t_lefts, .int t_notes, .int t_undos, .ref q_t_kind, .ref q_t_wanted, .ref q_t_hours, .ref q_t_had, .ref q_t_due, .ref q_t_leftHour, .ref q_t_leftPressure, .ref q_t_note, .ref q_t_past, .ref q_t_ahead, .ref q_t_gets, .int t_leftOver])), (q_t_hours, zI E 5 t_hours)] 4 [(0, .ref q_t), (1, .int a1), (2, .int v2), (3, .int v3)] [] := by
  intro n
  induction n with
  | zero =>
    intro v2 v3 h
    rw [f_X1_openIn_b4] at h
    cases h
  | succ n ih =>
    intro v2 v3 h
    rw [f_X1_openIn_b4] at h
    refine z_iload_n C dX1_openIn_4 rfl 3 rfl ?_
    refine z_aload_n C dX1_openIn_5 rfl 0 rfl ?_
    refine z_get C inT_X1 0 rfl rfl 2 (by decide) rfl (mc W_86) rfl dX1_openIn_6 ?_
    refine z_icmp_ge (tgt := 33) C dX1_openIn_9 (by decide) (fun c => ?_) (fun c => ?_)
    · replace h := (if_pos c).symm.trans h
      refine z_iload_n C dX1_openIn_33 rfl 2 rfl ?_
      obtain rfl := Option.some.inj h
      exact z_iret (v := v2) C hr dX1_openIn_34
    · replace h := (if_neg c).symm.trans h
      refine z_aload_n C dX1_openIn_12 rfl 0 rfl ?_
      refine z_iload_n C dX1_openIn_13 rfl 3 rfl ?_
      refine z_iload_n C dX1_openIn_14 rfl 1 rfl ?_
      obtain ⟨o1, ho2, h⟩ := bnd_some h
      refine z_callV (wc := [(q_t, .inr (0, [.int t_pressure, .int t_day, .int t_wells, .int t_lefts, .int t_notes, .int t_undos, .ref q_t_kind, .ref q_t_wanted, .ref q_t_hours, .ref q_t_had, .ref q_t_due, .ref q_t_leftHour, .ref q_t_leftPressure, .ref q_t_note, .ref q_t_past, .ref q_t_ahead, .ref q_t_gets, .int t_leftOver])), (q_t_hours, zI E 5 t_hours)]) (wr := []) (wc' := [(q_t, .inr (0, [.int t_pressure, .int t_day, .int t_wells, .int t_lefts, .int t_notes, .int t_undos, .ref q_t_kind, .ref q_t_wanted, .ref q_t_hours, .ref q_t_had, .ref q_t_due, .ref q_t_leftHour, .ref q_t_leftPressure, .ref q_t_note, .ref q_t_past, .ref q_t_ahead, .ref q_t_gets, .int t_leftOver])), (q_t_hours, zI E 5 t_hours)]) (ws2 := [(q_t, .inr (0, [.int t_pressure, .int t_day, .int t_wells, .int t_lefts, .int t_notes, .int t_undos, .ref q_t_kind, .ref q_t_wanted, .ref q_t_hours, .ref q_t_had, .ref q_t_due, .ref q_t_leftHour, .ref q_t_leftPressure, .ref q_t_note, .ref q_t_past, .ref q_t_ahead, .ref q_t_gets, .int t_leftOver])), (q_t_hours, zI E 5 t_hours)]) (As := [.int v3, .int a1]) (st2 := [.int o1]) C [0, 1] [] [0, 1] rfl rfl rfl rfl (by decide) rfl rfl (c_X1_isOpen F ho2) (goodVT consT W_367 W_368 W_369 W_59 W_370) rfl rfl rfl hd_X1_isOpen ⟨Nat.le_of_ble_eq_true rfl, Nat.le_of_ble_eq_true rfl⟩ rfl rfl rfl (j := 0) rfl rfl rfl (Nat.le_of_ble_eq_true rfl) dX1_openIn_15 ⟨Nat.zero_le _, Nat.zero_le _⟩ ?_
      refine z_if_eq (tgt := 27) C dX1_openIn_18 (by decide) (fun c => ?_) (fun c => ?_)
      · replace h := (if_pos c).symm.trans h
        exact (l_X1_openIn_b27 F a1 t_wells t_hours (f_X1_openIn_b4 F a1 t_wells t_hours n) C hr ih) v2 v3 h
      · replace h := (if_neg c).symm.trans h
        refine z_iload_n C dX1_openIn_21 rfl 2 rfl ?_
        refine z_iconst (v := (1 : Int32)) C dX1_openIn_22 (by decide) ?_
        refine z_iload_n C dX1_openIn_23 rfl 3 rfl ?_
        refine z_ishl C dX1_openIn_24 ?_
        refine z_ior C dX1_openIn_25 ?_
        refine z_istore_n (L' := [(2, .int (v2 ||| ((1 : Int32) <<< (v3 &&& 31)))), (0, .ref q_t), (1, .int a1), (3, .int v3)]) C dX1_openIn_26 rfl (by decide) rfl ?_
        refine z_sub [1, 2, 0, 3] (L' := [(0, .ref q_t), (1, .int a1), (2, .int (v2 ||| ((1 : Int32) <<< (v3 &&& 31)))), (3, .int v3)]) rfl ?_
        exact (l_X1_openIn_b27 F a1 t_wells t_hours (f_X1_openIn_b4 F a1 t_wells t_hours n) C hr ih) (v2 ||| ((1 : Int32) <<< (v3 &&& 31))) v3 h
set_option maxRecDepth 100000 in
set_option maxHeartbeats 4000000 in
theorem c_X1_openIn {l : Launch} {E : zE} {q_t q_t_hours q_t_kind q_t_wanted q_t_had q_t_due q_t_leftHour q_t_leftPressure q_t_note q_t_past q_t_ahead q_t_gets : Nat} {t_pressure : Int32} {t_day : Int32} {t_lefts : Int32} {t_notes : Int32} {t_undos : Int32} {t_leftOver : Int32} {a1 : Int32} {t_wells : Int32} {t_hours : Nat → Int32} {o : Int32} (F : Nat) (h : f_X1_openIn F a1 t_wells t_hours = some o) : zM l yX1_openIn wsX1_openIn rm_X1_openIn E [.ref q_t, .int a1] [(q_t, .inr (0, [.int t_pressure, .int t_day, .int t_wells, .int t_lefts, .int t_notes, .int t_undos, .ref q_t_kind, .ref q_t_wanted, .ref q_t_hours, .ref q_t_had, .ref q_t_due, .ref q_t_leftHour, .ref q_t_leftPressure, .ref q_t_note, .ref q_t_past, .ref q_t_ahead, .ref q_t_gets, .int t_leftOver])), (q_t_hours, zI E 5 t_hours)] (some (.int o)) [(q_t, .inr (0, [.int t_pressure, .int t_day, .int t_wells, .int t_lefts, .int t_notes, .int t_undos, .ref q_t_kind, .ref q_t_wanted, .ref q_t_hours, .ref q_t_had, .ref q_t_due, .ref q_t_leftHour, .ref q_t_leftPressure, .ref q_t_note, .ref q_t_past, .ref q_t_ahead, .ref q_t_gets, .int t_leftOver])), (q_t_hours, zI E 5 t_hours)] := by
  refine zM.of (cc := cX1_openIn) (maxL := 4) (ret := (some .int)) (by decide +kernel) rfl (Nat.le_of_ble_eq_true rfl) ?_
  intro p e s m args below meth c A C hr
  have C : zC p s m args c meth cX1_openIn 4 RX1 wsX1_openIn E A := C
  rw [f_X1_openIn] at h
  refine z_iconst (v := (0 : Int32)) C dX1_openIn_0 (by decide) ?_
  refine z_istore_n (L' := [(2, .int (0 : Int32)), (0, .ref q_t), (1, .int a1)]) C dX1_openIn_1 rfl (by decide) rfl ?_
  refine z_iconst (v := (0 : Int32)) C dX1_openIn_2 (by decide) ?_
  refine z_istore_n (L' := [(3, .int (0 : Int32)), (2, .int (0 : Int32)), (0, .ref q_t), (1, .int a1)]) C dX1_openIn_3 rfl (by decide) rfl ?_
  refine z_sub [2, 3, 1, 0] (L' := [(0, .ref q_t), (1, .int a1), (2, .int (0 : Int32)), (3, .int (0 : Int32))]) rfl ?_
  exact (l_X1_openIn_b4 F a1 t_wells t_hours C hr F) (0 : Int32) (0 : Int32) h
def rm_X1_runHour : Room := { frames := 2, cells := 0, slots := 0, locals := 46 }
theorem hd_X1_runHour : yX1_runHour.cls = yX1_runHour.cls ∧ yX1_runHour.cls ≠ "java/lang/invoke/MethodHandle" ∧ yX1_runHour.cls ≠ "java/lang/invoke/VarHandle" ∧ (parseMethodDescriptor yX1_runHour.desc).map (fun d => d.parameters.length) = some 3 := by decide +kernel
abbrev wsX1_runHour : List Cond := .code yX1_runHour cX1_runHour 5 none :: WALL
set_option maxRecDepth 100000 in
set_option maxHeartbeats 4000000 in
theorem l_X1_runHour_b70 {p : Program} {l : Launch} {e : Env} {s : State} {m : MethodId} {args : Array Value} {below : List Frame} {meth : Method} {c : Code} {E : zE} {A : Nat → Prop} {q_t q_t_ahead q_t_kind q_t_wanted q_t_gets q_t_hours q_t_had q_t_due q_t_leftHour q_t_leftPressure q_t_note q_t_past : Nat} {t_pressure : Int32} {t_day : Int32} {t_lefts : Int32} {t_notes : Int32} {t_undos : Int32} {o : Int32 × (Nat → Int32) × (Nat → Int32)} (F : Nat) (a1 : Int32) (a2 : Int32) (a3 : Int32) (t_wells : Int32) (t_kind : Nat → Int32) (t_wanted : Nat → Int32) (K8 : Int32 → Int32 → (Nat → Int32) → (Nat → Int32) → Option (Int32 × (Nat → Int32) × (Nat → Int32))) (C : zC p s m args c meth cX1_runHour 5 RX1 wsX1_runHour E A) (hr : meth.sig.returnType = none) (hK8 : ∀ (v4 : Int32) (t_leftOver : Int32) (t_ahead : Nat → Int32) (t_gets : Nat → Int32), K8 v4 t_leftOver t_ahead t_gets = some o → zG p l e rm_X1_runHour s m args below meth c 5 E A 0 0 (MQ below (zQ E A none [(q_t, .inr (0, [.int t_pressure, .int t_day, .int t_wells, .int t_lefts, .int t_notes, .int t_undos, .ref q_t_kind, .ref q_t_wanted, .ref q_t_hours, .ref q_t_had, .ref q_t_due, .ref q_t_leftHour, .ref q_t_leftPressure, .ref q_t_note, .ref q_t_past, .ref q_t_ahead, .ref q_t_gets, .int o.1])), (q_t_ahead, zI E 5 o.2.1), (q_t_kind, zI E 5 t_kind), (q_t_wanted, zI E 5 t_wanted), (q_t_gets, zI E 5 o.2.2)]) args s 0 0 A) [(q_t, .inr (0, [.int t_pressure, .int t_day, .int t_wells, .int t_lefts, .int t_notes, .int t_undos, .ref q_t_kind, .ref q_t_wanted, .ref q_t_hours, .ref q_t_had, .ref q_t_due, .ref q_t_leftHour, .ref q_t_leftPressure, .ref q_t_note, .ref q_t_past, .ref q_t_ahead, .ref q_t_gets, .int t_leftOver])), (q_t_ahead, zI E 5 t_ahead), (q_t_kind, zI E 5 t_kind), (q_t_wanted, zI E 5 t_wanted), (q_t_gets, zI E 5 t_gets)] 8 [(0, .ref q_t), (1, .int a1), (2, .int a2), (4, .int v4)] []) : ∀  (v4 : Int32) (s1 : Int32) (s2 : Int32) (t_leftOver : Int32) (t_ahead : Nat → Int32) (t_gets : Nat → Int32), f_X1_runHour_b70 F a1 a2 a3 t_wells t_kind t_wanted K8 v4 s1 s2 t_leftOver t_ahead t_gets = some o → zG p l e rm_X1_runHour s m args below meth c 5 E A 0 0 (MQ below (zQ E A none [(q_t, .inr (0, [.int t_pressure, .int t_day, .int t_wells, .int t_lefts, .int t_notes, .int t_undos, .ref q_t_kind, .ref q_t_wanted, .ref q_t_hours, .ref q_t_had, .ref q_t_due, .ref q_t_leftHour, .ref q_t_leftPressure, .ref q_t_note, .ref q_t_past, .ref q_t_ahead, .ref q_t_gets, .int o.1])), (q_t_ahead, zI E 5 o.2.1), (q_t_kind, zI E 5 t_kind), (q_t_wanted, zI E 5 t_wanted), (q_t_gets, zI E 5 o.2.2)]) args s 0 0 A) [(q_t, .inr (0, [.int t_pressure, .int t_day, .int t_wells, .int t_lefts, .int t_notes, .int t_undos, .ref q_t_kind, .ref q_t_wanted, .ref q_t_hours, .ref q_t_had, .ref q_t_due, .ref q_t_leftHour, .ref q_t_leftPressure, .ref q_t_note, .ref q_t_past, .ref q_t_ahead, .ref q_t_gets, .int t_leftOver])), (q_t_ahead, zI E 5 t_ahead), (q_t_kind, zI E 5 t_kind), (q_t_wanted, zI E 5 t_wanted), (q_t_gets, zI E 5 t_gets)] 70 [(0, .ref q_t), (1, .int a1), (2, .int a2), (4, .int v4)] [.int s2, .int s1, .ref q_t_gets] := by
  intro v4 s1 s2 t_leftOver t_ahead t_gets h
  rw [f_X1_runHour_b70] at h
  obtain ⟨c6, h⟩ := chk_some h
  refine z_iast (ws' := [(q_t, .inr (0, [.int t_pressure, .int t_day, .int t_wells, .int t_lefts, .int t_notes, .int t_undos, .ref q_t_kind, .ref q_t_wanted, .ref q_t_hours, .ref q_t_had, .ref q_t_due, .ref q_t_leftHour, .ref q_t_leftPressure, .ref q_t_note, .ref q_t_past, .ref q_t_ahead, .ref q_t_gets, .int t_leftOver])), (q_t_ahead, zI E 5 t_ahead), (q_t_kind, zI E 5 t_kind), (q_t_wanted, zI E 5 t_wanted), (q_t_gets, zI E 5 (upd t_gets s1.toNatClampNeg s2))]) C 4 rfl c6 rfl dX1_runHour_70 ?_
  refine z_aload_n C dX1_runHour_71 rfl 0 rfl ?_
  refine z_dup C dX1_runHour_72 rfl ?_
  refine z_get C inT_X1 0 rfl rfl 17 (by decide) rfl (mc W_120) rfl dX1_runHour_73 ?_
  refine z_aload_n C dX1_runHour_76 rfl 0 rfl ?_
  refine z_get C inT_X1 0 rfl rfl 16 (by decide) rfl (mc W_118) rfl dX1_runHour_77 ?_
  refine z_iload C dX1_runHour_80 3 rfl ?_
  obtain ⟨c7, h⟩ := chk_some h
  refine z_iald C 4 rfl c7 dX1_runHour_82 ?_
  refine z_isub C dX1_runHour_83 ?_
  refine z_put (ws' := [(q_t, .inr (0, [.int t_pressure, .int t_day, .int t_wells, .int t_lefts, .int t_notes, .int t_undos, .ref q_t_kind, .ref q_t_wanted, .ref q_t_hours, .ref q_t_had, .ref q_t_due, .ref q_t_leftHour, .ref q_t_leftPressure, .ref q_t_note, .ref q_t_past, .ref q_t_ahead, .ref q_t_gets, .int (t_leftOver - ((upd t_gets s1.toNatClampNeg s2) v4.toNatClampNeg))])), (q_t_ahead, zI E 5 t_ahead), (q_t_kind, zI E 5 t_kind), (q_t_wanted, zI E 5 t_wanted), (q_t_gets, zI E 5 (upd t_gets s1.toNatClampNeg s2))]) C inT_X1 tyX1 tyX1_ok nmX1 0 rfl rfl 17 (by decide) rfl (mc W_120) rfl rfl rfl (Nat.le_of_ble_eq_true rfl) rfl dX1_runHour_84 ?_
  refine z_iinc (v := v4 + (1 : Int32)) (L' := [(4, .int (v4 + (1 : Int32))), (0, .ref q_t), (1, .int a1), (2, .int a2)]) C dX1_runHour_87 3 rfl rfl (by decide) rfl ?_
  refine z_goto (tgt := 8) C dX1_runHour_90 (by decide) ?_
  refine z_sub [1, 2, 3, 0] (L' := [(0, .ref q_t), (1, .int a1), (2, .int a2), (4, .int (v4 + (1 : Int32)))]) rfl ?_
  exact hK8 (v4 + (1 : Int32)) (t_leftOver - ((upd t_gets s1.toNatClampNeg s2) v4.toNatClampNeg)) t_ahead (upd t_gets s1.toNatClampNeg s2) h
set_option maxRecDepth 100000 in
set_option maxHeartbeats 4000000 in
theorem l_X1_runHour_b8 {p : Program} {l : Launch} {e : Env} {s : State} {m : MethodId} {args : Array Value} {below : List Frame} {meth : Method} {c : Code} {E : zE} {A : Nat → Prop} {q_t q_t_ahead q_t_kind q_t_wanted q_t_gets q_t_hours q_t_had q_t_due q_t_leftHour q_t_leftPressure q_t_note q_t_past : Nat} {t_pressure : Int32} {t_day : Int32} {t_lefts : Int32} {t_notes : Int32} {t_undos : Int32} {o : Int32 × (Nat → Int32) × (Nat → Int32)} (F : Nat) (a1 : Int32) (a2 : Int32) (a3 : Int32) (t_wells : Int32) (t_kind : Nat → Int32) (t_wanted : Nat → Int32) (C : zC p s m args c meth cX1_runHour 5 RX1 wsX1_runHour E A) (hr : meth.sig.returnType = none) : ∀ (n : Nat) (v4 : Int32) (t_leftOver : Int32) (t_ahead : Nat → Int32) (t_gets : Nat → Int32), f_X1_runHour_b8 F a1 a2 a3 t_wells t_kind t_wanted n v4 t_leftOver t_ahead t_gets = some o → zG p l e rm_X1_runHour s m args below meth c 5 E A 0 0 (MQ below (zQ E A none [(q_t, .inr (0, [.int t_pressure, .int t_day, .int t_wells, .int t_lefts, .int t_notes, .int t_undos, .ref q_t_kind, .ref q_t_wanted, .ref q_t_hours, .ref q_t_had, .ref q_t_due, .ref q_t_leftHour, .ref q_t_leftPressure, .ref q_t_note, .ref q_t_past, .ref q_t_ahead, .ref q_t_gets, .int o.1])), (q_t_ahead, zI E 5 o.2.1), (q_t_kind, zI E 5 t_kind), (q_t_wanted, zI E 5 t_wanted), (q_t_gets, zI E 5 o.2.2)]) args s 0 0 A) [(q_t, .inr (0, [.int t_pressure, .int t_day, .int t_wells, .int t_lefts, .int t_notes, .int t_undos, .ref q_t_kind, .ref q_t_wanted, .ref q_t_hours, .ref q_t_had, .ref q_t_due, .ref q_t_leftHour, .ref q_t_leftPressure, .ref q_t_note, .ref q_t_past, .ref q_t_ahead, .ref q_t_gets, .int t_leftOver])), (q_t_ahead, zI E 5 t_ahead), (q_t_kind, zI E 5 t_kind), (q_t_wanted, zI E 5 t_wanted), (q_t_gets, zI E 5 t_gets)] 8 [(0, .ref q_t), (1, .int a1), (2, .int a2), (4, .int v4)] [] := by
  intro n
  induction n with
  | zero =>
    intro v4 t_leftOver t_ahead t_gets h
    rw [f_X1_runHour_b8] at h
    cases h
  | succ n ih =>
    intro v4 t_leftOver t_ahead t_gets h
    rw [f_X1_runHour_b8] at h
    refine z_iload C dX1_runHour_8 3 rfl ?_
    refine z_aload_n C dX1_runHour_10 rfl 0 rfl ?_
    refine z_get C inT_X1 0 rfl rfl 2 (by decide) rfl (mc W_86) rfl dX1_runHour_11 ?_
    refine z_icmp_ge (tgt := 93) C dX1_runHour_14 (by decide) (fun c => ?_) (fun c => ?_)
    · replace h := (if_pos c).symm.trans h
      obtain rfl := Option.some.inj h
      exact z_vret C hr dX1_runHour_93
    · replace h := (if_neg c).symm.trans h
      refine z_aload_n C dX1_runHour_17 rfl 0 rfl ?_
      refine z_get C inT_X1 0 rfl rfl 15 (by decide) rfl (mc W_116) rfl dX1_runHour_18 ?_
      refine z_iload C dX1_runHour_21 3 rfl ?_
      refine z_aload_n C dX1_runHour_23 rfl 0 rfl ?_
      refine z_get C inT_X1 0 rfl rfl 17 (by decide) rfl (mc W_120) rfl dX1_runHour_24 ?_
      obtain ⟨c1, h⟩ := chk_some h
      refine z_iast (ws' := [(q_t, .inr (0, [.int t_pressure, .int t_day, .int t_wells, .int t_lefts, .int t_notes, .int t_undos, .ref q_t_kind, .ref q_t_wanted, .ref q_t_hours, .ref q_t_had, .ref q_t_due, .ref q_t_leftHour, .ref q_t_leftPressure, .ref q_t_note, .ref q_t_past, .ref q_t_ahead, .ref q_t_gets, .int t_leftOver])), (q_t_ahead, zI E 5 (upd t_ahead v4.toNatClampNeg t_leftOver)), (q_t_kind, zI E 5 t_kind), (q_t_wanted, zI E 5 t_wanted), (q_t_gets, zI E 5 t_gets)]) C 1 rfl c1 rfl dX1_runHour_27 ?_
      refine z_aload_n C dX1_runHour_28 rfl 0 rfl ?_
      refine z_get C inT_X1 0 rfl rfl 16 (by decide) rfl (mc W_118) rfl dX1_runHour_29 ?_
      refine z_iload C dX1_runHour_32 3 rfl ?_
      refine z_iload_n C dX1_runHour_34 rfl 2 rfl ?_
      refine z_iload C dX1_runHour_35 3 rfl ?_
      refine z_ishr C dX1_runHour_37 ?_
      refine z_iconst (v := (1 : Int32)) C dX1_runHour_38 (by decide) ?_
      refine z_iand C dX1_runHour_39 ?_
      refine z_iconst (v := (1 : Int32)) C dX1_runHour_40 (by decide) ?_
      refine z_icmp_ne (tgt := 69) C dX1_runHour_41 (by decide) (fun c => ?_) (fun c => ?_)
      · replace h := (if_neg c).symm.trans h
        refine z_iconst (v := (0 : Int32)) C dX1_runHour_69 (by decide) ?_
        exact (l_X1_runHour_b70 F a1 a2 a3 t_wells t_kind t_wanted (f_X1_runHour_b8 F a1 a2 a3 t_wells t_kind t_wanted n) C hr ih) v4 v4 (0 : Int32) t_leftOver (upd t_ahead v4.toNatClampNeg t_leftOver) t_gets h
      · replace h := (if_pos c).symm.trans h
        refine z_aload_n C dX1_runHour_44 rfl 0 rfl ?_
        refine z_get C inT_X1 0 rfl rfl 6 (by decide) rfl (mc W_96) rfl dX1_runHour_45 ?_
        refine z_iload C dX1_runHour_48 3 rfl ?_
        obtain ⟨c2, h⟩ := chk_some h
        refine z_iald C 2 rfl c2 dX1_runHour_50 ?_
        refine z_aload_n C dX1_runHour_51 rfl 0 rfl ?_
        refine z_get C inT_X1 0 rfl rfl 7 (by decide) rfl (mc W_99) rfl dX1_runHour_52 ?_
        refine z_iload C dX1_runHour_55 3 rfl ?_
        obtain ⟨c3, h⟩ := chk_some h
        refine z_iald C 3 rfl c3 dX1_runHour_57 ?_
        refine z_iload_n C dX1_runHour_58 rfl 1 rfl ?_
        refine z_aload_n C dX1_runHour_59 rfl 0 rfl ?_
        refine z_get C inT_X1 0 rfl rfl 17 (by decide) rfl (mc W_120) rfl dX1_runHour_60 ?_
        obtain ⟨o4, ho5, h⟩ := bnd_some h
        refine z_callS (wc := []) (wr := [(q_t, .inr (0, [.int t_pressure, .int t_day, .int t_wells, .int t_lefts, .int t_notes, .int t_undos, .ref q_t_kind, .ref q_t_wanted, .ref q_t_hours, .ref q_t_had, .ref q_t_due, .ref q_t_leftHour, .ref q_t_leftPressure, .ref q_t_note, .ref q_t_past, .ref q_t_ahead, .ref q_t_gets, .int t_leftOver])), (q_t_ahead, zI E 5 (upd t_ahead v4.toNatClampNeg t_leftOver)), (q_t_kind, zI E 5 t_kind), (q_t_wanted, zI E 5 t_wanted), (q_t_gets, zI E 5 t_gets)]) (wc' := []) (ws2 := [(q_t, .inr (0, [.int t_pressure, .int t_day, .int t_wells, .int t_lefts, .int t_notes, .int t_undos, .ref q_t_kind, .ref q_t_wanted, .ref q_t_hours, .ref q_t_had, .ref q_t_due, .ref q_t_leftHour, .ref q_t_leftPressure, .ref q_t_note, .ref q_t_past, .ref q_t_ahead, .ref q_t_gets, .int t_leftOver])), (q_t_ahead, zI E 5 (upd t_ahead v4.toNatClampNeg t_leftOver)), (q_t_kind, zI E 5 t_kind), (q_t_wanted, zI E 5 t_wanted), (q_t_gets, zI E 5 t_gets)]) (As := [.int (t_kind v4.toNatClampNeg), .int (t_wanted v4.toNatClampNeg), .int a1, .int t_leftOver]) (st2 := [.int o4, .int v4, .ref q_t_gets]) C [] [0, 1, 2, 3, 4] [0, 1, 2, 3, 4] rfl rfl rfl rfl (by decide) rfl rfl (c_X0_gets F ho5) (goodST consT W_375 W_376 W_63 W_377) rfl rfl rfl hd_X0_gets ⟨Nat.le_of_ble_eq_true rfl, Nat.le_of_ble_eq_true rfl⟩ rfl rfl rfl (Nat.le_of_ble_eq_true rfl) dX1_runHour_63 ⟨Nat.zero_le _, Nat.zero_le _⟩ ?_
        refine z_goto (tgt := 70) C dX1_runHour_66 (by decide) ?_
        exact (l_X1_runHour_b70 F a1 a2 a3 t_wells t_kind t_wanted (f_X1_runHour_b8 F a1 a2 a3 t_wells t_kind t_wanted n) C hr ih) v4 v4 o4 t_leftOver (upd t_ahead v4.toNatClampNeg t_leftOver) t_gets h
set_option maxRecDepth 100000 in
set_option maxHeartbeats 4000000 in
theorem c_X1_runHour {l : Launch} {E : zE} {q_t q_t_ahead q_t_kind q_t_wanted q_t_gets q_t_hours q_t_had q_t_due q_t_leftHour q_t_leftPressure q_t_note q_t_past : Nat} {t_pressure : Int32} {t_day : Int32} {t_lefts : Int32} {t_notes : Int32} {t_undos : Int32} {a1 : Int32} {a2 : Int32} {a3 : Int32} {t_wells : Int32} {t_kind : Nat → Int32} {t_wanted : Nat → Int32} {t_leftOver : Int32} {t_ahead : Nat → Int32} {t_gets : Nat → Int32} {o : Int32 × (Nat → Int32) × (Nat → Int32)} (F : Nat) (h : f_X1_runHour F a1 a2 a3 t_wells t_kind t_wanted t_leftOver t_ahead t_gets = some o) : zM l yX1_runHour wsX1_runHour rm_X1_runHour E [.ref q_t, .int a1, .int a2, .int a3] [(q_t, .inr (0, [.int t_pressure, .int t_day, .int t_wells, .int t_lefts, .int t_notes, .int t_undos, .ref q_t_kind, .ref q_t_wanted, .ref q_t_hours, .ref q_t_had, .ref q_t_due, .ref q_t_leftHour, .ref q_t_leftPressure, .ref q_t_note, .ref q_t_past, .ref q_t_ahead, .ref q_t_gets, .int t_leftOver])), (q_t_ahead, zI E 5 t_ahead), (q_t_kind, zI E 5 t_kind), (q_t_wanted, zI E 5 t_wanted), (q_t_gets, zI E 5 t_gets)] none [(q_t, .inr (0, [.int t_pressure, .int t_day, .int t_wells, .int t_lefts, .int t_notes, .int t_undos, .ref q_t_kind, .ref q_t_wanted, .ref q_t_hours, .ref q_t_had, .ref q_t_due, .ref q_t_leftHour, .ref q_t_leftPressure, .ref q_t_note, .ref q_t_past, .ref q_t_ahead, .ref q_t_gets, .int o.1])), (q_t_ahead, zI E 5 o.2.1), (q_t_kind, zI E 5 t_kind), (q_t_wanted, zI E 5 t_wanted), (q_t_gets, zI E 5 o.2.2)] := by
  refine zM.of (cc := cX1_runHour) (maxL := 5) (ret := none) (by decide +kernel) rfl (Nat.le_of_ble_eq_true rfl) ?_
  intro p e s m args below meth c A C hr
  have C : zC p s m args c meth cX1_runHour 5 RX1 wsX1_runHour E A := C
  rw [f_X1_runHour] at h
  refine z_aload_n C dX1_runHour_0 rfl 0 rfl ?_
  refine z_iload_n C dX1_runHour_1 rfl 3 rfl ?_
  refine z_put (ws' := [(q_t, .inr (0, [.int t_pressure, .int t_day, .int t_wells, .int t_lefts, .int t_notes, .int t_undos, .ref q_t_kind, .ref q_t_wanted, .ref q_t_hours, .ref q_t_had, .ref q_t_due, .ref q_t_leftHour, .ref q_t_leftPressure, .ref q_t_note, .ref q_t_past, .ref q_t_ahead, .ref q_t_gets, .int a3])), (q_t_ahead, zI E 5 t_ahead), (q_t_kind, zI E 5 t_kind), (q_t_wanted, zI E 5 t_wanted), (q_t_gets, zI E 5 t_gets)]) C inT_X1 tyX1 tyX1_ok nmX1 0 rfl rfl 17 (by decide) rfl (mc W_120) rfl rfl rfl (Nat.le_of_ble_eq_true rfl) rfl dX1_runHour_2 ?_
  refine z_iconst (v := (0 : Int32)) C dX1_runHour_5 (by decide) ?_
  refine z_istore (L' := [(4, .int (0 : Int32)), (0, .ref q_t), (1, .int a1), (2, .int a2), (3, .int a3)]) C dX1_runHour_6 (by decide) rfl ?_
  refine z_sub [1, 2, 3, 0] (L' := [(0, .ref q_t), (1, .int a1), (2, .int a2), (4, .int (0 : Int32))]) rfl ?_
  exact (l_X1_runHour_b8 F a1 a2 a3 t_wells t_kind t_wanted C hr F) (0 : Int32) a3 t_ahead t_gets h
def rm_X1_getsAt : Room := { frames := 3, cells := 0, slots := 0, locals := 70 }
theorem hd_X1_getsAt : yX1_getsAt.cls = yX1_getsAt.cls ∧ yX1_getsAt.cls ≠ "java/lang/invoke/MethodHandle" ∧ yX1_getsAt.cls ≠ "java/lang/invoke/VarHandle" ∧ (parseMethodDescriptor yX1_getsAt.desc).map (fun d => d.parameters.length) = some 3 := by decide +kernel
abbrev wsX1_getsAt : List Cond := .code yX1_getsAt cX1_getsAt 4 (some .int) :: WALL
set_option maxRecDepth 100000 in
set_option maxHeartbeats 4000000 in
theorem c_X1_getsAt {l : Launch} {E : zE} {q_t q_t_hours q_t_ahead q_t_kind q_t_wanted q_t_gets q_t_had q_t_due q_t_leftHour q_t_leftPressure q_t_note q_t_past : Nat} {t_pressure : Int32} {t_day : Int32} {t_lefts : Int32} {t_notes : Int32} {t_undos : Int32} {a1 : Int32} {a2 : Int32} {a3 : Int32} {t_wells : Int32} {t_hours : Nat → Int32} {t_kind : Nat → Int32} {t_wanted : Nat → Int32} {t_leftOver : Int32} {t_ahead : Nat → Int32} {t_gets : Nat → Int32} {o : Int32 × Int32 × (Nat → Int32) × (Nat → Int32)} (F : Nat) (h : f_X1_getsAt F a1 a2 a3 t_wells t_hours t_kind t_wanted t_leftOver t_ahead t_gets = some o) : zM l yX1_getsAt wsX1_getsAt rm_X1_getsAt E [.ref q_t, .int a1, .int a2, .int a3] [(q_t, .inr (0, [.int t_pressure, .int t_day, .int t_wells, .int t_lefts, .int t_notes, .int t_undos, .ref q_t_kind, .ref q_t_wanted, .ref q_t_hours, .ref q_t_had, .ref q_t_due, .ref q_t_leftHour, .ref q_t_leftPressure, .ref q_t_note, .ref q_t_past, .ref q_t_ahead, .ref q_t_gets, .int t_leftOver])), (q_t_hours, zI E 5 t_hours), (q_t_ahead, zI E 5 t_ahead), (q_t_kind, zI E 5 t_kind), (q_t_wanted, zI E 5 t_wanted), (q_t_gets, zI E 5 t_gets)] (some (.int o.1)) [(q_t, .inr (0, [.int t_pressure, .int t_day, .int t_wells, .int t_lefts, .int t_notes, .int t_undos, .ref q_t_kind, .ref q_t_wanted, .ref q_t_hours, .ref q_t_had, .ref q_t_due, .ref q_t_leftHour, .ref q_t_leftPressure, .ref q_t_note, .ref q_t_past, .ref q_t_ahead, .ref q_t_gets, .int o.2.1])), (q_t_hours, zI E 5 t_hours), (q_t_ahead, zI E 5 o.2.2.1), (q_t_kind, zI E 5 t_kind), (q_t_wanted, zI E 5 t_wanted), (q_t_gets, zI E 5 o.2.2.2)] := by
  refine zM.of (cc := cX1_getsAt) (maxL := 4) (ret := (some .int)) (by decide +kernel) rfl (Nat.le_of_ble_eq_true rfl) ?_
  intro p e s m args below meth c A C hr
  have C : zC p s m args c meth cX1_getsAt 4 RX1 wsX1_getsAt E A := C
  rw [f_X1_getsAt] at h
  refine z_aload_n C dX1_getsAt_0 rfl 0 rfl ?_
  refine z_iload_n C dX1_getsAt_1 rfl 2 rfl ?_
  refine z_aload_n C dX1_getsAt_2 rfl 0 rfl ?_
  refine z_iload_n C dX1_getsAt_3 rfl 2 rfl ?_
  obtain ⟨o1, ho2, h⟩ := bnd_some h
  refine z_callV (wc := [(q_t, .inr (0, [.int t_pressure, .int t_day, .int t_wells, .int t_lefts, .int t_notes, .int t_undos, .ref q_t_kind, .ref q_t_wanted, .ref q_t_hours, .ref q_t_had, .ref q_t_due, .ref q_t_leftHour, .ref q_t_leftPressure, .ref q_t_note, .ref q_t_past, .ref q_t_ahead, .ref q_t_gets, .int t_leftOver])), (q_t_hours, zI E 5 t_hours)]) (wr := [(q_t_ahead, zI E 5 t_ahead), (q_t_kind, zI E 5 t_kind), (q_t_wanted, zI E 5 t_wanted), (q_t_gets, zI E 5 t_gets)]) (wc' := [(q_t, .inr (0, [.int t_pressure, .int t_day, .int t_wells, .int t_lefts, .int t_notes, .int t_undos, .ref q_t_kind, .ref q_t_wanted, .ref q_t_hours, .ref q_t_had, .ref q_t_due, .ref q_t_leftHour, .ref q_t_leftPressure, .ref q_t_note, .ref q_t_past, .ref q_t_ahead, .ref q_t_gets, .int t_leftOver])), (q_t_hours, zI E 5 t_hours)]) (ws2 := [(q_t, .inr (0, [.int t_pressure, .int t_day, .int t_wells, .int t_lefts, .int t_notes, .int t_undos, .ref q_t_kind, .ref q_t_wanted, .ref q_t_hours, .ref q_t_had, .ref q_t_due, .ref q_t_leftHour, .ref q_t_leftPressure, .ref q_t_note, .ref q_t_past, .ref q_t_ahead, .ref q_t_gets, .int t_leftOver])), (q_t_hours, zI E 5 t_hours), (q_t_ahead, zI E 5 t_ahead), (q_t_kind, zI E 5 t_kind), (q_t_wanted, zI E 5 t_wanted), (q_t_gets, zI E 5 t_gets)]) (As := [.int a2]) (st2 := [.int o1, .int a2, .ref q_t]) C [0, 1] [2, 3, 4, 5] [4, 5, 0, 1, 2, 3] rfl rfl rfl rfl (by decide) rfl rfl (c_X1_openIn F ho2) (goodVT consT W_363 W_364 W_365 W_59 W_366) rfl rfl rfl hd_X1_openIn ⟨Nat.le_of_ble_eq_true rfl, Nat.le_of_ble_eq_true rfl⟩ rfl rfl rfl (j := 0) rfl rfl rfl (Nat.le_of_ble_eq_true rfl) dX1_getsAt_4 ⟨Nat.zero_le _, Nat.zero_le _⟩ ?_
  refine z_iload_n C dX1_getsAt_7 rfl 3 rfl ?_
  obtain ⟨o3, ho4, h⟩ := bnd_some h
  refine z_callV (wc := [(q_t, .inr (0, [.int t_pressure, .int t_day, .int t_wells, .int t_lefts, .int t_notes, .int t_undos, .ref q_t_kind, .ref q_t_wanted, .ref q_t_hours, .ref q_t_had, .ref q_t_due, .ref q_t_leftHour, .ref q_t_leftPressure, .ref q_t_note, .ref q_t_past, .ref q_t_ahead, .ref q_t_gets, .int t_leftOver])), (q_t_ahead, zI E 5 t_ahead), (q_t_kind, zI E 5 t_kind), (q_t_wanted, zI E 5 t_wanted), (q_t_gets, zI E 5 t_gets)]) (wr := [(q_t_hours, zI E 5 t_hours)]) (wc' := [(q_t, .inr (0, [.int t_pressure, .int t_day, .int t_wells, .int t_lefts, .int t_notes, .int t_undos, .ref q_t_kind, .ref q_t_wanted, .ref q_t_hours, .ref q_t_had, .ref q_t_due, .ref q_t_leftHour, .ref q_t_leftPressure, .ref q_t_note, .ref q_t_past, .ref q_t_ahead, .ref q_t_gets, .int o3.1])), (q_t_ahead, zI E 5 o3.2.1), (q_t_kind, zI E 5 t_kind), (q_t_wanted, zI E 5 t_wanted), (q_t_gets, zI E 5 o3.2.2)]) (ws2 := [(q_t, .inr (0, [.int t_pressure, .int t_day, .int t_wells, .int t_lefts, .int t_notes, .int t_undos, .ref q_t_kind, .ref q_t_wanted, .ref q_t_hours, .ref q_t_had, .ref q_t_due, .ref q_t_leftHour, .ref q_t_leftPressure, .ref q_t_note, .ref q_t_past, .ref q_t_ahead, .ref q_t_gets, .int o3.1])), (q_t_hours, zI E 5 t_hours), (q_t_ahead, zI E 5 o3.2.1), (q_t_kind, zI E 5 t_kind), (q_t_wanted, zI E 5 t_wanted), (q_t_gets, zI E 5 o3.2.2)]) (As := [.int a2, .int o1, .int a3]) (st2 := []) C [0, 2, 3, 4, 5] [1] [1, 0, 2, 3, 4, 5] rfl rfl rfl rfl (by decide) rfl rfl (c_X1_runHour F ho4) (goodVT consT W_371 W_372 W_373 W_59 W_374) rfl rfl rfl hd_X1_runHour ⟨Nat.le_of_ble_eq_true rfl, Nat.le_of_ble_eq_true rfl⟩ rfl rfl rfl (j := 0) rfl rfl rfl (Nat.le_of_ble_eq_true rfl) dX1_getsAt_8 ⟨Nat.zero_le _, Nat.zero_le _⟩ ?_
  refine z_aload_n C dX1_getsAt_11 rfl 0 rfl ?_
  refine z_get C inT_X1 0 rfl rfl 16 (by decide) rfl (mc W_118) rfl dX1_getsAt_12 ?_
  refine z_iload_n C dX1_getsAt_15 rfl 1 rfl ?_
  obtain ⟨c5, h⟩ := chk_some h
  refine z_iald C 5 rfl c5 dX1_getsAt_16 ?_
  obtain rfl := Option.some.inj h
  exact z_iret (v := o3.2.2 a1.toNatClampNeg) C hr dX1_getsAt_17

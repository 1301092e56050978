def rm_X1_swapHours : Room := { frames := 0, cells := 0, slots := 0, locals := 0 }
theorem hd_X1_swapHours : yX1_swapHours.cls = yX1_swapHours.cls ∧ yX1_swapHours.cls ≠ "java/lang/invoke/MethodHandle" ∧ yX1_swapHours.cls ≠ "java/lang/invoke/VarHandle" ∧ (parseMethodDescriptor yX1_swapHours.desc).map (fun d => d.parameters.length) = some 2 := by decide +kernel
abbrev wsX1_swapHours : List Cond := .code yX1_swapHours cX1_swapHours 4 none :: WALL
set_option maxRecDepth 100000 in
set_option maxHeartbeats 4000000 in
theorem c_X1_swapHours {l : Launch} {E : zE} {q_t q_t_hours q_t_kind q_t_wanted q_t_had q_t_due q_t_leftHour q_t_leftPressure q_t_note q_t_past q_t_ahead q_t_gets : Nat} {t_pressure : Int32} {t_day : Int32} {t_wells : Int32} {t_lefts : Int32} {t_notes : Int32} {t_undos : Int32} {t_leftOver : Int32} {a1 : Int32} {a2 : Int32} {t_hours : Nat → Int32} {o : (Nat → Int32)} (F : Nat) (h : f_X1_swapHours F a1 a2 t_hours = some o) : zM l yX1_swapHours wsX1_swapHours rm_X1_swapHours E [.ref q_t, .int a1, .int a2] [(q_t, .inr (0, [.int t_pressure, .int t_day, .int t_wells, .int t_lefts, .int t_notes, .int t_undos, .ref q_t_kind, .ref q_t_wanted, .ref q_t_hours, .ref q_t_had, .ref q_t_due, .ref q_t_leftHour, .ref q_t_leftPressure, .ref q_t_note, .ref q_t_past, .ref q_t_ahead, .ref q_t_gets, .int t_leftOver])), (q_t_hours, zI E 5 t_hours)] none [(q_t, .inr (0, [.int t_pressure, .int t_day, .int t_wells, .int t_lefts, .int t_notes, .int t_undos, .ref q_t_kind, .ref q_t_wanted, .ref q_t_hours, .ref q_t_had, .ref q_t_due, .ref q_t_leftHour, .ref q_t_leftPressure, .ref q_t_note, .ref q_t_past, .ref q_t_ahead, .ref q_t_gets, .int t_leftOver])), (q_t_hours, zI E 5 o)] := by
  refine zM.of (cc := cX1_swapHours) (maxL := 4) (ret := none) (by decide +kernel) rfl (Nat.le_of_ble_eq_true rfl) ?_
  intro p e s m args below meth c A C hr
  have C : zC p s m args c meth cX1_swapHours 4 RX1 wsX1_swapHours E A := C
  rw [f_X1_swapHours] at h
  refine z_aload_n C dX1_swapHours_0 rfl 0 rfl ?_
  refine z_get C inT_X1 0 rfl rfl 8 (by decide) rfl (mc W_102) rfl dX1_swapHours_1 ?_
  refine z_iload_n C dX1_swapHours_4 rfl 1 rfl ?_
  obtain ⟨c1, h⟩ := chk_some h
  refine z_iald C 1 rfl c1 dX1_swapHours_5 ?_
  refine z_istore_n (L' := [(3, .int (t_hours a1.toNatClampNeg)), (0, .ref q_t), (1, .int a1), (2, .int a2)]) C dX1_swapHours_6 rfl (by decide) rfl ?_
  refine z_aload_n C dX1_swapHours_7 rfl 1 rfl ?_
  refine z_get C inT_X1 0 rfl rfl 8 (by decide) rfl (mc W_102) rfl dX1_swapHours_8 ?_
  refine z_iload_n C dX1_swapHours_11 rfl 2 rfl ?_
  refine z_aload_n C dX1_swapHours_12 rfl 1 rfl ?_
  refine z_get C inT_X1 0 rfl rfl 8 (by decide) rfl (mc W_102) rfl dX1_swapHours_13 ?_
  refine z_iload_n C dX1_swapHours_16 rfl 3 rfl ?_
  obtain ⟨c2, h⟩ := chk_some h
  refine z_iald C 1 rfl c2 dX1_swapHours_17 ?_
  obtain ⟨c3, h⟩ := chk_some h
  refine z_iast (ws' := [(q_t, .inr (0, [.int t_pressure, .int t_day, .int t_wells, .int t_lefts, .int t_notes, .int t_undos, .ref q_t_kind, .ref q_t_wanted, .ref q_t_hours, .ref q_t_had, .ref q_t_due, .ref q_t_leftHour, .ref q_t_leftPressure, .ref q_t_note, .ref q_t_past, .ref q_t_ahead, .ref q_t_gets, .int t_leftOver])), (q_t_hours, zI E 5 (upd t_hours a1.toNatClampNeg (t_hours a2.toNatClampNeg)))]) C 1 rfl c3 rfl dX1_swapHours_18 ?_
  refine z_aload_n C dX1_swapHours_19 rfl 1 rfl ?_
  refine z_get C inT_X1 0 rfl rfl 8 (by decide) rfl (mc W_102) rfl dX1_swapHours_20 ?_
  refine z_iload_n C dX1_swapHours_23 rfl 3 rfl ?_
  refine z_iload_n C dX1_swapHours_24 rfl 0 rfl ?_
  obtain ⟨c4, h⟩ := chk_some h
  refine z_iast (ws' := [(q_t, .inr (0, [.int t_pressure, .int t_day, .int t_wells, .int t_lefts, .int t_notes, .int t_undos, .ref q_t_kind, .ref q_t_wanted, .ref q_t_hours, .ref q_t_had, .ref q_t_due, .ref q_t_leftHour, .ref q_t_leftPressure, .ref q_t_note, .ref q_t_past, .ref q_t_ahead, .ref q_t_gets, .int t_leftOver])), (q_t_hours, zI E 5 (upd (upd t_hours a1.toNatClampNeg (t_hours a2.toNatClampNeg)) a2.toNatClampNeg (t_hours a1.toNatClampNeg)))]) C 1 rfl c4 rfl dX1_swapHours_25 ?_
  obtain rfl := Option.some.inj h
  exact z_vret C hr dX1_swapHours_26
def rm_X1_sumOf : Room := { frames := 0, cells := 0, slots := 0, locals := 0 }
theorem hd_X1_sumOf : yX1_sumOf.cls = yX1_sumOf.cls ∧ yX1_sumOf.cls ≠ "java/lang/invoke/MethodHandle" ∧ yX1_sumOf.cls ≠ "java/lang/invoke/VarHandle" ∧ (parseMethodDescriptor yX1_sumOf.desc).map (fun d => d.parameters.length) = some 1 := by decide +kernel
abbrev wsX1_sumOf : List Cond := .code yX1_sumOf cX1_sumOf 4 (some .int) :: WALL
set_option maxRecDepth 100000 in
set_option maxHeartbeats 4000000 in
theorem l_X1_sumOf_b4 {p : Program} {l : Launch} {e : Env} {s : State} {m : MethodId} {args : Array Value} {below : List Frame} {meth : Method} {c : Code} {E : zE} {A : Nat → Prop} {q_t q_p1 q_t_kind q_t_wanted q_t_hours q_t_had q_t_due q_t_leftHour q_t_leftPressure q_t_note q_t_past q_t_ahead q_t_gets : Nat} {t_pressure : Int32} {t_day : Int32} {t_lefts : Int32} {t_notes : Int32} {t_undos : Int32} {t_leftOver : Int32} {o : Int32} (F : Nat) (n_p1 : Nat) (t_wells : Int32) (p1 : Nat → Int32) (C : zC p s m args c meth cX1_sumOf 4 RX1 wsX1_sumOf E A) (hr : meth.sig.returnType = some .int) : ∀ (n : Nat) (v2 : Int32) (v3 : Int32), f_X1_sumOf_b4 F n_p1 t_wells p1 n v2 v3 = some o → zG p l e rm_X1_sumOf s m args below meth c 4 E A 0 0 (MQ below (zQ E A (some (.int o)) [(q_t, .inr (0, [.int t_pressure, .int t_day, .int t_wells, .int t_lefts, .int t_notes, .int t_undos, .ref q_t_kind, .ref q_t_wanted, .ref q_t_hours, .ref q_t_had, .ref q_t_due, .ref q_t_leftHour, .ref q_t_leftPressure, .ref q_t_note, .ref q_t_past, .ref q_t_ahead, .ref q_t_gets, .int t_leftOver])), (q_p1, zI E n_p1 p1)]) args s 0 0 A) [(q_t, .inr (0, [.int t_pressure, .int t_day, .int t_wells, .int t_lefts, .int t_notes, .int t_undos, .ref q_t_kind, .ref q_t_wanted, .ref q_t_hours, .ref q_t_had, .ref q_t_due, .ref q_t_leftHour, .ref q_t_leftPressure, .ref q_t_note, .ref q_t_past, .ref q_t_ahead, .ref q_t_gets, .int t_leftOver])), (q_p1, zI E n_p1 p1)] 4 [(0, .ref q_t), (1, .ref q_p1), (2, .int v2), (3, .int v3)] [] := by
  intro n
  induction n with
  | zero =>
    intro v2 v3 h
    rw [f_X1_sumOf_b4] at h
    cases h
  | succ n ih =>
    intro v2 v3 h
    rw [f_X1_sumOf_b4] at h
    refine z_iload_n C dX1_sumOf_4 rfl 3 rfl ?_
    refine z_aload_n C dX1_sumOf_5 rfl 0 rfl ?_
    refine z_get C inT_X1 0 rfl rfl 2 (by decide) rfl (mc W_86) rfl dX1_sumOf_6 ?_
    refine z_icmp_ge (tgt := 30) C dX1_sumOf_9 (by decide) (fun c => ?_) (fun c => ?_)
    · replace h := (if_pos c).symm.trans h
      refine z_iload_n C dX1_sumOf_30 rfl 2 rfl ?_
      obtain rfl := Option.some.inj h
      exact z_iret (v := v2) C hr dX1_sumOf_31
    · replace h := (if_neg c).symm.trans h
      refine z_iload_n C dX1_sumOf_12 rfl 3 rfl ?_
      refine z_aload_n C dX1_sumOf_13 rfl 1 rfl ?_
      refine z_alen (v := Int32.ofNat n_p1) C 1 rfl rfl dX1_sumOf_14 ?_
      refine z_icmp_ge (tgt := 30) C dX1_sumOf_15 (by decide) (fun c => ?_) (fun c => ?_)
      · replace h := (if_pos c).symm.trans h
        refine z_iload_n C dX1_sumOf_30 rfl 2 rfl ?_
        obtain rfl := Option.some.inj h
        exact z_iret (v := v2) C hr dX1_sumOf_31
      · replace h := (if_neg c).symm.trans h
        refine z_iload_n C dX1_sumOf_18 rfl 2 rfl ?_
        refine z_aload_n C dX1_sumOf_19 rfl 1 rfl ?_
        refine z_iload_n C dX1_sumOf_20 rfl 3 rfl ?_
        obtain ⟨c1, h⟩ := chk_some h
        refine z_iald C 1 rfl c1 dX1_sumOf_21 ?_
        refine z_iadd C dX1_sumOf_22 ?_
        refine z_istore_n (L' := [(2, .int (v2 + (p1 v3.toNatClampNeg))), (0, .ref q_t), (1, .ref q_p1), (3, .int v3)]) C dX1_sumOf_23 rfl (by decide) rfl ?_
        refine z_iinc (v := v3 + (1 : Int32)) (L' := [(3, .int (v3 + (1 : Int32))), (2, .int (v2 + (p1 v3.toNatClampNeg))), (0, .ref q_t), (1, .ref q_p1)]) C dX1_sumOf_24 3 rfl rfl (by decide) rfl ?_
        refine z_goto (tgt := 4) C dX1_sumOf_27 (by decide) ?_
        refine z_sub [2, 3, 1, 0] (L' := [(0, .ref q_t), (1, .ref q_p1), (2, .int (v2 + (p1 v3.toNatClampNeg))), (3, .int (v3 + (1 : Int32)))]) rfl ?_
        exact ih (v2 + (p1 v3.toNatClampNeg)) (v3 + (1 : Int32)) h
set_option maxRecDepth 100000 in
set_option maxHeartbeats 4000000 in
theorem c_X1_sumOf {l : Launch} {E : zE} {q_t q_p1 q_t_kind q_t_wanted q_t_hours q_t_had q_t_due q_t_leftHour q_t_leftPressure q_t_note q_t_past q_t_ahead q_t_gets : Nat} {t_pressure : Int32} {t_day : Int32} {t_lefts : Int32} {t_notes : Int32} {t_undos : Int32} {t_leftOver : Int32} {n_p1 : Nat} {t_wells : Int32} {p1 : Nat → Int32} {o : Int32} (F : Nat) (h : f_X1_sumOf F n_p1 t_wells p1 = some o) : zM l yX1_sumOf wsX1_sumOf rm_X1_sumOf E [.ref q_t, .ref q_p1] [(q_t, .inr (0, [.int t_pressure, .int t_day, .int t_wells, .int t_lefts, .int t_notes, .int t_undos, .ref q_t_kind, .ref q_t_wanted, .ref q_t_hours, .ref q_t_had, .ref q_t_due, .ref q_t_leftHour, .ref q_t_leftPressure, .ref q_t_note, .ref q_t_past, .ref q_t_ahead, .ref q_t_gets, .int t_leftOver])), (q_p1, zI E n_p1 p1)] (some (.int o)) [(q_t, .inr (0, [.int t_pressure, .int t_day, .int t_wells, .int t_lefts, .int t_notes, .int t_undos, .ref q_t_kind, .ref q_t_wanted, .ref q_t_hours, .ref q_t_had, .ref q_t_due, .ref q_t_leftHour, .ref q_t_leftPressure, .ref q_t_note, .ref q_t_past, .ref q_t_ahead, .ref q_t_gets, .int t_leftOver])), (q_p1, zI E n_p1 p1)] := by
  refine zM.of (cc := cX1_sumOf) (maxL := 4) (ret := (some .int)) (by decide +kernel) rfl (Nat.le_of_ble_eq_true rfl) ?_
  intro p e s m args below meth c A C hr
  have C : zC p s m args c meth cX1_sumOf 4 RX1 wsX1_sumOf E A := C
  rw [f_X1_sumOf] at h
  refine z_iconst (v := (0 : Int32)) C dX1_sumOf_0 (by decide) ?_
  refine z_istore_n (L' := [(2, .int (0 : Int32)), (0, .ref q_t), (1, .ref q_p1)]) C dX1_sumOf_1 rfl (by decide) rfl ?_
  refine z_iconst (v := (0 : Int32)) C dX1_sumOf_2 (by decide) ?_
  refine z_istore_n (L' := [(3, .int (0 : Int32)), (2, .int (0 : Int32)), (0, .ref q_t), (1, .ref q_p1)]) C dX1_sumOf_3 rfl (by decide) rfl ?_
  refine z_sub [2, 3, 1, 0] (L' := [(0, .ref q_t), (1, .ref q_p1), (2, .int (0 : Int32)), (3, .int (0 : Int32))]) rfl ?_
  exact (l_X1_sumOf_b4 F n_p1 t_wells p1 C hr F) (0 : Int32) (0 : Int32) h
def rm_X2_add : Room := { frames := 0, cells := 0, slots := 0, locals := 0 }
theorem hd_X2_add : yX2_add.cls = yX2_add.cls ∧ yX2_add.cls ≠ "java/lang/invoke/MethodHandle" ∧ yX2_add.cls ≠ "java/lang/invoke/VarHandle" ∧ (parseMethodDescriptor yX2_add.desc).map (fun d => d.parameters.length) = some 1 := by decide +kernel
abbrev wsX2_add : List Cond := .code yX2_add cX2_add 2 (some .int) :: WALL
set_option maxRecDepth 100000 in
set_option maxHeartbeats 4000000 in
theorem c_X2_add {l : Launch} {E : zE} {q_t q_t_text q_t_draft : Nat} {t_start : Int32} {t_next : Int32} {t_token : Int32} {t_value : Int32} {a1 : Int32} {t_length : Int32} {t_text : Nat → Int32} {o : Int32 × Int32 × (Nat → Int32)} (F : Nat) (h : f_X2_add F a1 t_length t_text = some o) : zM l yX2_add wsX2_add rm_X2_add E [.ref q_t, .int a1] [(q_t, .inr (1, [.ref q_t_draft, .int t_start, .int t_length, .ref q_t_text, .int t_next, .int t_token, .int t_value])), (q_t_text, zB E 150 t_text)] (some (.int o.1)) [(q_t, .inr (1, [.ref q_t_draft, .int t_start, .int o.2.1, .ref q_t_text, .int t_next, .int t_token, .int t_value])), (q_t_text, zB E 150 o.2.2)] := by
  refine zM.of (cc := cX2_add) (maxL := 2) (ret := (some .int)) (by decide +kernel) rfl (Nat.le_of_ble_eq_true rfl) ?_
  intro p e s m args below meth c A C hr
  have C : zC p s m args c meth cX2_add 2 RX2 wsX2_add E A := C
  rw [f_X2_add] at h
  refine z_aload_n C dX2_add_0 rfl 0 rfl ?_
  refine z_get C inT_X2 0 rfl rfl 2 (by decide) rfl (mc W_204) rfl dX2_add_1 ?_
  refine z_sipush (v := (150 : Int32)) C dX2_add_4 (by decide) ?_
  refine z_icmp_lt (tgt := 13) C dX2_add_7 (by decide) (fun c => ?_) (fun c => ?_)
  · replace h := (if_pos c).symm.trans h
    refine z_aload_n C dX2_add_13 rfl 0 rfl ?_
    refine z_get C inT_X2 0 rfl rfl 3 (by decide) rfl (mc W_206) rfl dX2_add_14 ?_
    refine z_aload_n C dX2_add_17 rfl 0 rfl ?_
    refine z_get C inT_X2 0 rfl rfl 2 (by decide) rfl (mc W_204) rfl dX2_add_18 ?_
    refine z_iload_n C dX2_add_21 rfl 1 rfl ?_
    refine z_i2b C dX2_add_22 ?_
    obtain ⟨c1, h⟩ := chk_some h
    refine z_bast (ws' := [(q_t, .inr (1, [.ref q_t_draft, .int t_start, .int t_length, .ref q_t_text, .int t_next, .int t_token, .int t_value])), (q_t_text, zB E 150 (upd t_text t_length.toNatClampNeg (vp_nar .byte a1.toInt8.toInt32)))]) C 1 rfl c1 rfl dX2_add_23 ?_
    refine z_aload_n C dX2_add_24 rfl 0 rfl ?_
    refine z_dup C dX2_add_25 rfl ?_
    refine z_get C inT_X2 0 rfl rfl 2 (by decide) rfl (mc W_204) rfl dX2_add_26 ?_
    refine z_iconst (v := (1 : Int32)) C dX2_add_29 (by decide) ?_
    refine z_iadd C dX2_add_30 ?_
    refine z_put (ws' := [(q_t, .inr (1, [.ref q_t_draft, .int t_start, .int (t_length + (1 : Int32)), .ref q_t_text, .int t_next, .int t_token, .int t_value])), (q_t_text, zB E 150 (upd t_text t_length.toNatClampNeg (vp_nar .byte a1.toInt8.toInt32)))]) C inT_X2 tyX2 tyX2_ok nmX2 0 rfl rfl 2 (by decide) rfl (mc W_204) rfl rfl rfl (Nat.le_of_ble_eq_true rfl) rfl dX2_add_31 ?_
    refine z_aload_n C dX2_add_34 rfl 0 rfl ?_
    refine z_get C inT_X2 0 rfl rfl 2 (by decide) rfl (mc W_204) rfl dX2_add_35 ?_
    obtain rfl := Option.some.inj h
    exact z_iret (v := t_length + (1 : Int32)) C hr dX2_add_38
  · replace h := (if_neg c).symm.trans h
    refine z_bipush (v := (-4 : Int32)) C dX2_add_10 (by decide) ?_
    obtain rfl := Option.some.inj h
    exact z_iret (v := (-4 : Int32)) C hr dX2_add_12
def rm_X2_isLetter : Room := { frames := 0, cells := 0, slots := 0, locals := 0 }
theorem hd_X2_isLetter : yX2_isLetter.cls ≠ "java/lang/invoke/MethodHandle" ∧ yX2_isLetter.cls ≠ "java/lang/invoke/VarHandle" ∧ (parseMethodDescriptor yX2_isLetter.desc).map (fun d => d.parameters.length) = some 1 := by decide +kernel
abbrev wsX2_isLetter : List Cond := .code yX2_isLetter cX2_isLetter 1 (some .boolean) :: WALL
set_option maxRecDepth 100000 in
set_option maxHeartbeats 4000000 in
theorem c_X2_isLetter {l : Launch} {E : zE} {a0 : Int32} {o : Int32} (F : Nat) (h : f_X2_isLetter F a0 = some o) : zM l yX2_isLetter wsX2_isLetter rm_X2_isLetter E [.int a0] [] (some (.int o)) [] := by
  refine zM.of (cc := cX2_isLetter) (maxL := 1) (ret := (some .boolean)) (by decide +kernel) rfl (Nat.le_of_ble_eq_true rfl) ?_
  intro p e s m args below meth c A C hr
  have C : zC p s m args c meth cX2_isLetter 1 RX2 wsX2_isLetter E A := C
  rw [f_X2_isLetter] at h
  refine z_iload_n C dX2_isLetter_0 rfl 0 rfl ?_
  refine z_bipush (v := (97 : Int32)) C dX2_isLetter_1 (by decide) ?_
  refine z_icmp_lt (tgt := 16) C dX2_isLetter_3 (by decide) (fun c => ?_) (fun c => ?_)
  · replace h := (if_pos c).symm.trans h
    refine z_iconst (v := (0 : Int32)) C dX2_isLetter_16 (by decide) ?_
    obtain rfl := Option.some.inj h
    exact z_zret (v := (0 : Int32)) C hr rfl dX2_isLetter_17
  · replace h := (if_neg c).symm.trans h
    refine z_iload_n C dX2_isLetter_6 rfl 0 rfl ?_
    refine z_bipush (v := (122 : Int32)) C dX2_isLetter_7 (by decide) ?_
    refine z_icmp_gt (tgt := 16) C dX2_isLetter_9 (by decide) (fun c => ?_) (fun c => ?_)
    · replace h := (if_pos c).symm.trans h
      refine z_iconst (v := (0 : Int32)) C dX2_isLetter_16 (by decide) ?_
      obtain rfl := Option.some.inj h
      exact z_zret (v := (0 : Int32)) C hr rfl dX2_isLetter_17
    · replace h := (if_neg c).symm.trans h
      refine z_iconst (v := (1 : Int32)) C dX2_isLetter_12 (by decide) ?_
      refine z_goto (tgt := 17) C dX2_isLetter_13 (by decide) ?_
      obtain rfl := Option.some.inj h
      exact z_zret (v := (1 : Int32)) C hr rfl dX2_isLetter_17
def rm_X2_isFigure : Room := { frames := 0, cells := 0, slots := 0, locals := 0 }
theorem hd_X2_isFigure : yX2_isFigure.cls ≠ "java/lang/invoke/MethodHandle" ∧ yX2_isFigure.cls ≠ "java/lang/invoke/VarHandle" ∧ (parseMethodDescriptor yX2_isFigure.desc).map (fun d => d.parameters.length) = some 1 := by decide +kernel
abbrev wsX2_isFigure : List Cond := .code yX2_isFigure cX2_isFigure 1 (some .boolean) :: WALL
set_option maxRecDepth 100000 in
set_option maxHeartbeats 4000000 in
theorem c_X2_isFigure {l : Launch} {E : zE} {a0 : Int32} {o : Int32} (F : Nat) (h : f_X2_isFigure F a0 = some o) : zM l yX2_isFigure wsX2_isFigure rm_X2_isFigure E [.int a0] [] (some (.int o)) [] := by
  refine zM.of (cc := cX2_isFigure) (maxL := 1) (ret := (some .boolean)) (by decide +kernel) rfl (Nat.le_of_ble_eq_true rfl) ?_
  intro p e s m args below meth c A C hr
  have C : zC p s m args c meth cX2_isFigure 1 RX2 wsX2_isFigure E A := C
  rw [f_X2_isFigure] at h
  refine z_iload_n C dX2_isFigure_0 rfl 0 rfl ?_
  refine z_bipush (v := (48 : Int32)) C dX2_isFigure_1 (by decide) ?_
  refine z_icmp_lt (tgt := 16) C dX2_isFigure_3 (by decide) (fun c => ?_) (fun c => ?_)
  · replace h := (if_pos c).symm.trans h
    refine z_iconst (v := (0 : Int32)) C dX2_isFigure_16 (by decide) ?_
    obtain rfl := Option.some.inj h
    exact z_zret (v := (0 : Int32)) C hr rfl dX2_isFigure_17
  · replace h := (if_neg c).symm.trans h
    refine z_iload_n C dX2_isFigure_6 rfl 0 rfl ?_
    refine z_bipush (v := (57 : Int32)) C dX2_isFigure_7 (by decide) ?_
    refine z_icmp_gt (tgt := 16) C dX2_isFigure_9 (by decide) (fun c => ?_) (fun c => ?_)
    · replace h := (if_pos c).symm.trans h
      refine z_iconst (v := (0 : Int32)) C dX2_isFigure_16 (by decide) ?_
      obtain rfl := Option.some.inj h
      exact z_zret (v := (0 : Int32)) C hr rfl dX2_isFigure_17
    · replace h := (if_neg c).symm.trans h
      refine z_iconst (v := (1 : Int32)) C dX2_isFigure_12 (by decide) ?_
      refine z_goto (tgt := 17) C dX2_isFigure_13 (by decide) ?_
      obtain rfl := Option.some.inj h
      exact z_zret (v := (1 : Int32)) C hr rfl dX2_isFigure_17
def rm_X2_takeSign : Room := { frames := 0, cells := 0, slots := 0, locals := 0 }
theorem hd_X2_takeSign : yX2_takeSign.cls = yX2_takeSign.cls ∧ yX2_takeSign.cls ≠ "java/lang/invoke/MethodHandle" ∧ yX2_takeSign.cls ≠ "java/lang/invoke/VarHandle" ∧ (parseMethodDescriptor yX2_takeSign.desc).map (fun d => d.parameters.length) = some 0 := by decide +kernel
abbrev wsX2_takeSign : List Cond := .code yX2_takeSign cX2_takeSign 1 none :: WALL
set_option maxRecDepth 100000 in
set_option maxHeartbeats 4000000 in
theorem l_X2_takeSign_b21 {p : Program} {l : Launch} {e : Env} {s : State} {m : MethodId} {args : Array Value} {below : List Frame} {meth : Method} {c : Code} {E : zE} {A : Nat → Prop} {q_t q_t_text q_t_draft : Nat} {t_start : Int32} {t_length : Int32} {t_value : Int32} {o : Int32 × Int32} (F : Nat) (t_text : Nat → Int32) (C : zC p s m args c meth cX2_takeSign 1 RX2 wsX2_takeSign E A) (hr : meth.sig.returnType = none) : ∀  (s1 : Int32) (t_next : Int32) (t_token : Int32), f_X2_takeSign_b21 F t_text s1 t_next t_token = some o → zG p l e rm_X2_takeSign s m args below meth c 1 E A 0 0 (MQ below (zQ E A none [(q_t, .inr (1, [.ref q_t_draft, .int t_start, .int t_length, .ref q_t_text, .int o.1, .int o.2, .int t_value])), (q_t_text, zB E 150 t_text)]) args s 0 0 A) [(q_t, .inr (1, [.ref q_t_draft, .int t_start, .int t_length, .ref q_t_text, .int t_next, .int t_token, .int t_value])), (q_t_text, zB E 150 t_text)] 21 [(0, .ref q_t)] [.int s1, .ref q_t] := by
  intro s1 t_next t_token h
  rw [f_X2_takeSign_b21] at h
  refine z_put (ws' := [(q_t, .inr (1, [.ref q_t_draft, .int t_start, .int t_length, .ref q_t_text, .int t_next, .int s1, .int t_value])), (q_t_text, zB E 150 t_text)]) C inT_X2 tyX2 tyX2_ok nmX2 0 rfl rfl 5 (by decide) rfl (mc W_208) rfl rfl rfl (Nat.le_of_ble_eq_true rfl) rfl dX2_takeSign_21 ?_
  refine z_aload_n C dX2_takeSign_24 rfl 0 rfl ?_
  refine z_dup C dX2_takeSign_25 rfl ?_
  refine z_get C inT_X2 0 rfl rfl 4 (by decide) rfl (mc W_207) rfl dX2_takeSign_26 ?_
  refine z_iconst (v := (1 : Int32)) C dX2_takeSign_29 (by decide) ?_
  refine z_iadd C dX2_takeSign_30 ?_
  refine z_put (ws' := [(q_t, .inr (1, [.ref q_t_draft, .int t_start, .int t_length, .ref q_t_text, .int (t_next + (1 : Int32)), .int s1, .int t_value])), (q_t_text, zB E 150 t_text)]) C inT_X2 tyX2 tyX2_ok nmX2 0 rfl rfl 4 (by decide) rfl (mc W_207) rfl rfl rfl (Nat.le_of_ble_eq_true rfl) rfl dX2_takeSign_31 ?_
  obtain rfl := Option.some.inj h
  exact z_vret C hr dX2_takeSign_34
set_option maxRecDepth 100000 in
set_option maxHeartbeats 4000000 in
theorem c_X2_takeSign {l : Launch} {E : zE} {q_t q_t_text q_t_draft : Nat} {t_start : Int32} {t_length : Int32} {t_value : Int32} {t_text : Nat → Int32} {t_next : Int32} {t_token : Int32} {o : Int32 × Int32} (F : Nat) (h : f_X2_takeSign F t_text t_next t_token = some o) : zM l yX2_takeSign wsX2_takeSign rm_X2_takeSign E [.ref q_t] [(q_t, .inr (1, [.ref q_t_draft, .int t_start, .int t_length, .ref q_t_text, .int t_next, .int t_token, .int t_value])), (q_t_text, zB E 150 t_text)] none [(q_t, .inr (1, [.ref q_t_draft, .int t_start, .int t_length, .ref q_t_text, .int o.1, .int o.2, .int t_value])), (q_t_text, zB E 150 t_text)] := by
  refine zM.of (cc := cX2_takeSign) (maxL := 1) (ret := none) (by decide +kernel) rfl (Nat.le_of_ble_eq_true rfl) ?_
  intro p e s m args below meth c A C hr
  have C : zC p s m args c meth cX2_takeSign 1 RX2 wsX2_takeSign E A := C
  rw [f_X2_takeSign] at h
  refine z_aload_n C dX2_takeSign_0 rfl 0 rfl ?_
  refine z_aload_n C dX2_takeSign_1 rfl 0 rfl ?_
  refine z_get C inT_X2 0 rfl rfl 3 (by decide) rfl (mc W_206) rfl dX2_takeSign_2 ?_
  refine z_aload_n C dX2_takeSign_5 rfl 0 rfl ?_
  refine z_get C inT_X2 0 rfl rfl 4 (by decide) rfl (mc W_207) rfl dX2_takeSign_6 ?_
  obtain ⟨c1, h⟩ := chk_some h
  refine z_bald C 1 rfl c1 dX2_takeSign_9 ?_
  refine z_bipush (v := (59 : Int32)) C dX2_takeSign_10 (by decide) ?_
  refine z_icmp_ne (tgt := 19) C dX2_takeSign_12 (by decide) (fun c => ?_) (fun c => ?_)
  · replace h := (if_neg c).symm.trans h
    refine z_bipush (v := (7 : Int32)) C dX2_takeSign_19 (by decide) ?_
    exact (l_X2_takeSign_b21 F t_text C hr) (7 : Int32) t_next t_token h
  · replace h := (if_pos c).symm.trans h
    refine z_iconst (v := (1 : Int32)) C dX2_takeSign_15 (by decide) ?_
    refine z_goto (tgt := 21) C dX2_takeSign_16 (by decide) ?_
    exact (l_X2_takeSign_b21 F t_text C hr) (1 : Int32) t_next t_token h
def rm_X2_takeNumber : Room := { frames := 1, cells := 0, slots := 0, locals := 20 }
theorem hd_X2_takeNumber : yX2_takeNumber.cls = yX2_takeNumber.cls ∧ yX2_takeNumber.cls ≠ "java/lang/invoke/MethodHandle" ∧ yX2_takeNumber.cls ≠ "java/lang/invoke/VarHandle" ∧ (parseMethodDescriptor yX2_takeNumber.desc).map (fun d => d.parameters.length) = some 0 := by decide +kernel
abbrev wsX2_takeNumber : List Cond := .code yX2_takeNumber cX2_takeNumber 1 none :: WALL
set_option maxRecDepth 100000 in
set_option maxHeartbeats 4000000 in
theorem l_X2_takeNumber_b68 {p : Program} {l : Launch} {e : Env} {s : State} {m : MethodId} {args : Array Value} {below : List Frame} {meth : Method} {c : Code} {E : zE} {A : Nat → Prop} {q_t q_t_text q_t_draft : Nat} {o : Int32 × Int32 × Int32} (F : Nat) (t_start : Int32) (t_length : Int32) (t_text : Nat → Int32) (K5 : Int32 → Int32 → Int32 → Option (Int32 × Int32 × Int32)) (C : zC p s m args c meth cX2_takeNumber 1 RX2 wsX2_takeNumber E A) (hr : meth.sig.returnType = none) (hK5 : ∀ (t_next : Int32) (t_token : Int32) (t_value : Int32), K5 t_next t_token t_value = some o → zG p l e rm_X2_takeNumber s m args below meth c 1 E A 0 0 (MQ below (zQ E A none [(q_t, .inr (1, [.ref q_t_draft, .int t_start, .int t_length, .ref q_t_text, .int o.1, .int o.2.1, .int o.2.2])), (q_t_text, zB E 150 t_text)]) args s 0 0 A) [(q_t, .inr (1, [.ref q_t_draft, .int t_start, .int t_length, .ref q_t_text, .int t_next, .int t_token, .int t_value])), (q_t_text, zB E 150 t_text)] 5 [(0, .ref q_t)] []) : ∀  (t_next : Int32) (t_token : Int32) (t_value : Int32), f_X2_takeNumber_b68 F t_start t_length t_text K5 t_next t_token t_value = some o → zG p l e rm_X2_takeNumber s m args below meth c 1 E A 0 0 (MQ below (zQ E A none [(q_t, .inr (1, [.ref q_t_draft, .int t_start, .int t_length, .ref q_t_text, .int o.1, .int o.2.1, .int o.2.2])), (q_t_text, zB E 150 t_text)]) args s 0 0 A) [(q_t, .inr (1, [.ref q_t_draft, .int t_start, .int t_length, .ref q_t_text, .int t_next, .int t_token, .int t_value])), (q_t_text, zB E 150 t_text)] 68 [(0, .ref q_t)] [] := by
  intro t_next t_token t_value h
  rw [f_X2_takeNumber_b68] at h
  refine z_aload_n C dX2_takeNumber_68 rfl 0 rfl ?_
  refine z_dup C dX2_takeNumber_69 rfl ?_
  refine z_get C inT_X2 0 rfl rfl 4 (by decide) rfl (mc W_207) rfl dX2_takeNumber_70 ?_
  refine z_iconst (v := (1 : Int32)) C dX2_takeNumber_73 (by decide) ?_
  refine z_iadd C dX2_takeNumber_74 ?_
  refine z_put (ws' := [(q_t, .inr (1, [.ref q_t_draft, .int t_start, .int t_length, .ref q_t_text, .int (t_next + (1 : Int32)), .int t_token, .int t_value])), (q_t_text, zB E 150 t_text)]) C inT_X2 tyX2 tyX2_ok nmX2 0 rfl rfl 4 (by decide) rfl (mc W_207) rfl rfl rfl (Nat.le_of_ble_eq_true rfl) rfl dX2_takeNumber_75 ?_
  refine z_goto (tgt := 5) C dX2_takeNumber_78 (by decide) ?_
  exact hK5 (t_next + (1 : Int32)) t_token t_value h
set_option maxRecDepth 100000 in
set_option maxHeartbeats 4000000 in
theorem l_X2_takeNumber_b81 {p : Program} {l : Launch} {e : Env} {s : State} {m : MethodId} {args : Array Value} {below : List Frame} {meth : Method} {c : Code} {E : zE} {A : Nat → Prop} {q_t q_t_text q_t_draft : Nat} {o : Int32 × Int32 × Int32} (F : Nat) (t_start : Int32) (t_length : Int32) (t_text : Nat → Int32) (C : zC p s m args c meth cX2_takeNumber 1 RX2 wsX2_takeNumber E A) (hr : meth.sig.returnType = none) : ∀  (t_next : Int32) (t_token : Int32) (t_value : Int32), f_X2_takeNumber_b81 F t_start t_length t_text t_next t_token t_value = some o → zG p l e rm_X2_takeNumber s m args below meth c 1 E A 0 0 (MQ below (zQ E A none [(q_t, .inr (1, [.ref q_t_draft, .int t_start, .int t_length, .ref q_t_text, .int o.1, .int o.2.1, .int o.2.2])), (q_t_text, zB E 150 t_text)]) args s 0 0 A) [(q_t, .inr (1, [.ref q_t_draft, .int t_start, .int t_length, .ref q_t_text, .int t_next, .int t_token, .int t_value])), (q_t_text, zB E 150 t_text)] 81 [(0, .ref q_t)] [] := by
  intro t_next t_token t_value h
  rw [f_X2_takeNumber_b81] at h
  refine z_aload_n C dX2_takeNumber_81 rfl 0 rfl ?_
  refine z_aload_n C dX2_takeNumber_82 rfl 0 rfl ?_
  refine z_get C inT_X2 0 rfl rfl 4 (by decide) rfl (mc W_207) rfl dX2_takeNumber_83 ?_
  refine z_aload_n C dX2_takeNumber_86 rfl 0 rfl ?_
  refine z_get C inT_X2 0 rfl rfl 1 (by decide) rfl (mc W_202) rfl dX2_takeNumber_87 ?_
  refine z_isub C dX2_takeNumber_90 ?_
  refine z_iconst (v := (2 : Int32)) C dX2_takeNumber_91 (by decide) ?_
  refine z_icmp_gt (tgt := 99) C dX2_takeNumber_92 (by decide) (fun c => ?_) (fun c => ?_)
  · replace h := (if_pos c).symm.trans h
    refine z_bipush (v := (7 : Int32)) C dX2_takeNumber_99 (by decide) ?_
    refine z_put (ws' := [(q_t, .inr (1, [.ref q_t_draft, .int t_start, .int t_length, .ref q_t_text, .int t_next, .int (7 : Int32), .int t_value])), (q_t_text, zB E 150 t_text)]) C inT_X2 tyX2 tyX2_ok nmX2 0 rfl rfl 5 (by decide) rfl (mc W_208) rfl rfl rfl (Nat.le_of_ble_eq_true rfl) rfl dX2_takeNumber_101 ?_
    obtain rfl := Option.some.inj h
    exact z_vret C hr dX2_takeNumber_104
  · replace h := (if_neg c).symm.trans h
    refine z_iconst (v := (2 : Int32)) C dX2_takeNumber_95 (by decide) ?_
    refine z_goto (tgt := 101) C dX2_takeNumber_96 (by decide) ?_
    refine z_put (ws' := [(q_t, .inr (1, [.ref q_t_draft, .int t_start, .int t_length, .ref q_t_text, .int t_next, .int (2 : Int32), .int t_value])), (q_t_text, zB E 150 t_text)]) C inT_X2 tyX2 tyX2_ok nmX2 0 rfl rfl 5 (by decide) rfl (mc W_208) rfl rfl rfl (Nat.le_of_ble_eq_true rfl) rfl dX2_takeNumber_101 ?_
    obtain rfl := Option.some.inj h
    exact z_vret C hr dX2_takeNumber_104
set_option maxRecDepth 100000 in
set_option maxHeartbeats 4000000 in
theorem l_X2_takeNumber_b5 {p : Program} {l : Launch} {e : Env} {s : State} {m : MethodId} {args : Array Value} {below : List Frame} {meth : Method} {c : Code} {E : zE} {A : Nat → Prop} {q_t q_t_text q_t_draft : Nat} {o : Int32 × Int32 × Int32} (F : Nat) (t_start : Int32) (t_length : Int32) (t_text : Nat → Int32) (C : zC p s m args c meth cX2_takeNumber 1 RX2 wsX2_takeNumber E A) (hr : meth.sig.returnType = none) : ∀ (n : Nat) (t_next : Int32) (t_token : Int32) (t_value : Int32), f_X2_takeNumber_b5 F t_start t_length t_text n t_next t_token t_value = some o → zG p l e rm_X2_takeNumber s m args below meth c 1 E A 0 0 (MQ below (zQ E A none [(q_t, .inr (1, [.ref q_t_draft, .int t_start, .int t_length, .ref q_t_text, .int o.1, .int o.2.1, .int o.2.2])), (q_t_text, zB E 150 t_text)]) args s 0 0 A) [(q_t, .inr (1, [.ref q_t_draft, .int t_start, .int t_length, .ref q_t_text, .int t_next, .int t_token, .int t_value])), (q_t_text, zB E 150 t_text)] 5 [(0, .ref q_t)] [] := by
  intro n
  induction n with
  | zero =>
    intro t_next t_token t_value h
    rw [f_X2_takeNumber_b5] at h
    cases h
  | succ n ih =>
    intro t_next t_token t_value h
    rw [f_X2_takeNumber_b5] at h
    refine z_aload_n C dX2_takeNumber_5 rfl 0 rfl ?_
    refine z_get C inT_X2 0 rfl rfl 4 (by decide) rfl (mc W_207) rfl dX2_takeNumber_6 ?_
    refine z_aload_n C dX2_takeNumber_9 rfl 0 rfl ?_
    refine z_get C inT_X2 0 rfl rfl 2 (by decide) rfl (mc W_204) rfl dX2_takeNumber_10 ?_
    refine z_icmp_ge (tgt := 81) C dX2_takeNumber_13 (by decide) (fun c => ?_) (fun c => ?_)
    · replace h := (if_pos c).symm.trans h
      exact (l_X2_takeNumber_b81 F t_start t_length t_text C hr) t_next t_token t_value h
    · replace h := (if_neg c).symm.trans h
      refine z_aload_n C dX2_takeNumber_16 rfl 0 rfl ?_
      refine z_get C inT_X2 0 rfl rfl 3 (by decide) rfl (mc W_206) rfl dX2_takeNumber_17 ?_
      refine z_aload_n C dX2_takeNumber_20 rfl 0 rfl ?_
      refine z_get C inT_X2 0 rfl rfl 4 (by decide) rfl (mc W_207) rfl dX2_takeNumber_21 ?_
      obtain ⟨c1, h⟩ := chk_some h
      refine z_bald C 1 rfl c1 dX2_takeNumber_24 ?_
      obtain ⟨o2, ho3, h⟩ := bnd_some h
      refine z_callS (wc := []) (wr := [(q_t, .inr (1, [.ref q_t_draft, .int t_start, .int t_length, .ref q_t_text, .int t_next, .int t_token, .int t_value])), (q_t_text, zB E 150 t_text)]) (wc' := []) (ws2 := [(q_t, .inr (1, [.ref q_t_draft, .int t_start, .int t_length, .ref q_t_text, .int t_next, .int t_token, .int t_value])), (q_t_text, zB E 150 t_text)]) (As := [.int (t_text t_next.toNatClampNeg)]) (st2 := [.int o2]) C [] [0, 1] [0, 1] rfl rfl rfl rfl (by decide) rfl rfl (c_X2_isFigure F ho3) (goodST consT W_319 W_320 W_61 W_321) rfl rfl rfl hd_X2_isFigure ⟨Nat.le_of_ble_eq_true rfl, Nat.le_of_ble_eq_true rfl⟩ rfl rfl rfl (Nat.le_of_ble_eq_true rfl) dX2_takeNumber_25 ⟨Nat.zero_le _, Nat.zero_le _⟩ ?_
      refine z_if_eq (tgt := 81) C dX2_takeNumber_28 (by decide) (fun c => ?_) (fun c => ?_)
      · replace h := (if_pos c).symm.trans h
        exact (l_X2_takeNumber_b81 F t_start t_length t_text C hr) t_next t_token t_value h
      · replace h := (if_neg c).symm.trans h
        refine z_aload_n C dX2_takeNumber_31 rfl 0 rfl ?_
        refine z_get C inT_X2 0 rfl rfl 4 (by decide) rfl (mc W_207) rfl dX2_takeNumber_32 ?_
        refine z_aload_n C dX2_takeNumber_35 rfl 0 rfl ?_
        refine z_get C inT_X2 0 rfl rfl 1 (by decide) rfl (mc W_202) rfl dX2_takeNumber_36 ?_
        refine z_isub C dX2_takeNumber_39 ?_
        refine z_iconst (v := (2 : Int32)) C dX2_takeNumber_40 (by decide) ?_
        refine z_icmp_ge (tgt := 68) C dX2_takeNumber_41 (by decide) (fun c => ?_) (fun c => ?_)
        · replace h := (if_pos c).symm.trans h
          exact (l_X2_takeNumber_b68 F t_start t_length t_text (f_X2_takeNumber_b5 F t_start t_length t_text n) C hr ih) t_next t_token t_value h
        · replace h := (if_neg c).symm.trans h
          refine z_aload_n C dX2_takeNumber_44 rfl 0 rfl ?_
          refine z_bipush (v := (10 : Int32)) C dX2_takeNumber_45 (by decide) ?_
          refine z_aload_n C dX2_takeNumber_47 rfl 0 rfl ?_
          refine z_get C inT_X2 0 rfl rfl 6 (by decide) rfl (mc W_209) rfl dX2_takeNumber_48 ?_
          refine z_imul C dX2_takeNumber_51 ?_
          refine z_aload_n C dX2_takeNumber_52 rfl 0 rfl ?_
          refine z_get C inT_X2 0 rfl rfl 3 (by decide) rfl (mc W_206) rfl dX2_takeNumber_53 ?_
          refine z_aload_n C dX2_takeNumber_56 rfl 0 rfl ?_
          refine z_get C inT_X2 0 rfl rfl 4 (by decide) rfl (mc W_207) rfl dX2_takeNumber_57 ?_
          obtain ⟨c4, h⟩ := chk_some h
          refine z_bald C 1 rfl c4 dX2_takeNumber_60 ?_
          refine z_iadd C dX2_takeNumber_61 ?_
          refine z_bipush (v := (48 : Int32)) C dX2_takeNumber_62 (by decide) ?_
          refine z_isub C dX2_takeNumber_64 ?_
          refine z_put (ws' := [(q_t, .inr (1, [.ref q_t_draft, .int t_start, .int t_length, .ref q_t_text, .int t_next, .int t_token, .int ((((10 : Int32) * t_value) + (t_text t_next.toNatClampNeg)) - (48 : Int32))])), (q_t_text, zB E 150 t_text)]) C inT_X2 tyX2 tyX2_ok nmX2 0 rfl rfl 6 (by decide) rfl (mc W_209) rfl rfl rfl (Nat.le_of_ble_eq_true rfl) rfl dX2_takeNumber_65 ?_
          exact (l_X2_takeNumber_b68 F t_start t_length t_text (f_X2_takeNumber_b5 F t_start t_length t_text n) C hr ih) t_next t_token ((((10 : Int32) * t_value) + (t_text t_next.toNatClampNeg)) - (48 : Int32)) h
set_option maxRecDepth 100000 in
set_option maxHeartbeats 4000000 in
theorem c_X2_takeNumber {l : Launch} {E : zE} {q_t q_t_text q_t_draft : Nat} {t_start : Int32} {t_length : Int32} {t_text : Nat → Int32} {t_next : Int32} {t_token : Int32} {t_value : Int32} {o : Int32 × Int32 × Int32} (F : Nat) (h : f_X2_takeNumber F t_start t_length t_text t_next t_token t_value = some o) : zM l yX2_takeNumber wsX2_takeNumber rm_X2_takeNumber E [.ref q_t] [(q_t, .inr (1, [.ref q_t_draft, .int t_start, .int t_length, .ref q_t_text, .int t_next, .int t_token, .int t_value])), (q_t_text, zB E 150 t_text)] none [(q_t, .inr (1, [.ref q_t_draft, .int t_start, .int t_length, .ref q_t_text, .int o.1, .int o.2.1, .int o.2.2])), (q_t_text, zB E 150 t_text)] := by
  refine zM.of (cc := cX2_takeNumber) (maxL := 1) (ret := none) (by decide +kernel) rfl (Nat.le_of_ble_eq_true rfl) ?_
  intro p e s m args below meth c A C hr
  have C : zC p s m args c meth cX2_takeNumber 1 RX2 wsX2_takeNumber E A := C
  rw [f_X2_takeNumber] at h
  refine z_aload_n C dX2_takeNumber_0 rfl 0 rfl ?_
  refine z_iconst (v := (0 : Int32)) C dX2_takeNumber_1 (by decide) ?_
  refine z_put (ws' := [(q_t, .inr (1, [.ref q_t_draft, .int t_start, .int t_length, .ref q_t_text, .int t_next, .int t_token, .int (0 : Int32)])), (q_t_text, zB E 150 t_text)]) C inT_X2 tyX2 tyX2_ok nmX2 0 rfl rfl 6 (by decide) rfl (mc W_209) rfl rfl rfl (Nat.le_of_ble_eq_true rfl) rfl dX2_takeNumber_2 ?_
  exact (l_X2_takeNumber_b5 F t_start t_length t_text C hr F) t_next t_token (0 : Int32) h
def rm_X2_takeWord : Room := { frames := 1, cells := 0, slots := 0, locals := 20 }
theorem hd_X2_takeWord : yX2_takeWord.cls = yX2_takeWord.cls ∧ yX2_takeWord.cls ≠ "java/lang/invoke/MethodHandle" ∧ yX2_takeWord.cls ≠ "java/lang/invoke/VarHandle" ∧ (parseMethodDescriptor yX2_takeWord.desc).map (fun d => d.parameters.length) = some 0 := by decide +kernel
abbrev wsX2_takeWord : List Cond := .code yX2_takeWord cX2_takeWord 2 none :: WALL
set_option maxRecDepth 100000 in
set_option maxHeartbeats 4000000 in
theorem l_X2_takeWord_b71 {p : Program} {l : Launch} {e : Env} {s : State} {m : MethodId} {args : Array Value} {below : List Frame} {meth : Method} {c : Code} {E : zE} {A : Nat → Prop} {q_t q_t_text q_t_draft : Nat} {t_value : Int32} {o : Int32 × Int32} (F : Nat) (t_start : Int32) (t_length : Int32) (t_text : Nat → Int32) (C : zC p s m args c meth cX2_takeWord 2 RX2 wsX2_takeWord E A) (hr : meth.sig.returnType = none) : ∀  (v1 : Int32) (t_next : Int32) (t_token : Int32), f_X2_takeWord_b71 F t_start t_length t_text v1 t_next t_token = some o → zG p l e rm_X2_takeWord s m args below meth c 2 E A 0 0 (MQ below (zQ E A none [(q_t, .inr (1, [.ref q_t_draft, .int t_start, .int t_length, .ref q_t_text, .int o.1, .int o.2, .int t_value])), (q_t_text, zB E 150 t_text)]) args s 0 0 A) [(q_t, .inr (1, [.ref q_t_draft, .int t_start, .int t_length, .ref q_t_text, .int t_next, .int t_token, .int t_value])), (q_t_text, zB E 150 t_text)] 71 [(0, .ref q_t), (1, .int v1)] [] := by
  intro v1 t_next t_token h
  rw [f_X2_takeWord_b71] at h
  refine z_iload_n C dX2_takeWord_71 rfl 1 rfl ?_
  by_cases e6578553 : v1 = (6578553 : Int32)
  · replace h := (if_pos e6578553).symm.trans h
    refine z_look (tgt := 140) (off := 68) C dX2_takeWord_72 (by decide) (by rw [e6578553]; try decide) (by decide) ?_
    refine z_aload_n C dX2_takeWord_140 rfl 0 rfl ?_
    refine z_bipush (v := (6 : Int32)) C dX2_takeWord_141 (by decide) ?_
    refine z_put (ws' := [(q_t, .inr (1, [.ref q_t_draft, .int t_start, .int t_length, .ref q_t_text, .int t_next, .int (6 : Int32), .int t_value])), (q_t_text, zB E 150 t_text)]) C inT_X2 tyX2 tyX2_ok nmX2 0 rfl rfl 5 (by decide) rfl (mc W_208) rfl rfl rfl (Nat.le_of_ble_eq_true rfl) rfl dX2_takeWord_143 ?_
    refine z_goto (tgt := 155) C dX2_takeWord_146 (by decide) ?_
    obtain rfl := Option.some.inj h
    exact z_vret C hr dX2_takeWord_155
  · replace h := (if_neg e6578553).symm.trans h
    by_cases e1835100526 : v1 = (1835100526 : Int32)
    · replace h := (if_pos e1835100526).symm.trans h
      refine z_look (tgt := 116) (off := 44) C dX2_takeWord_72 (by decide) (by rw [e1835100526]; try decide) (by decide) ?_
      refine z_aload_n C dX2_takeWord_116 rfl 0 rfl ?_
      refine z_iconst (v := (3 : Int32)) C dX2_takeWord_117 (by decide) ?_
      refine z_put (ws' := [(q_t, .inr (1, [.ref q_t_draft, .int t_start, .int t_length, .ref q_t_text, .int t_next, .int (3 : Int32), .int t_value])), (q_t_text, zB E 150 t_text)]) C inT_X2 tyX2 tyX2_ok nmX2 0 rfl rfl 5 (by decide) rfl (mc W_208) rfl rfl rfl (Nat.le_of_ble_eq_true rfl) rfl dX2_takeWord_118 ?_
      refine z_goto (tgt := 155) C dX2_takeWord_121 (by decide) ?_
      obtain rfl := Option.some.inj h
      exact z_vret C hr dX2_takeWord_155
    · replace h := (if_neg e1835100526).symm.trans h
      by_cases e1953854062 : v1 = (1953854062 : Int32)
      · replace h := (if_pos e1953854062).symm.trans h
        refine z_look (tgt := 132) (off := 60) C dX2_takeWord_72 (by decide) (by rw [e1953854062]; try decide) (by decide) ?_
        refine z_aload_n C dX2_takeWord_132 rfl 0 rfl ?_
        refine z_iconst (v := (5 : Int32)) C dX2_takeWord_133 (by decide) ?_
        refine z_put (ws' := [(q_t, .inr (1, [.ref q_t_draft, .int t_start, .int t_length, .ref q_t_text, .int t_next, .int (5 : Int32), .int t_value])), (q_t_text, zB E 150 t_text)]) C inT_X2 tyX2 tyX2_ok nmX2 0 rfl rfl 5 (by decide) rfl (mc W_208) rfl rfl rfl (Nat.le_of_ble_eq_true rfl) rfl dX2_takeWord_134 ?_
        refine z_goto (tgt := 155) C dX2_takeWord_137 (by decide) ?_
        obtain rfl := Option.some.inj h
        exact z_vret C hr dX2_takeWord_155
      · replace h := (if_neg e1953854062).symm.trans h
        by_cases e2003135596 : v1 = (2003135596 : Int32)
        · replace h := (if_pos e2003135596).symm.trans h
          refine z_look (tgt := 124) (off := 52) C dX2_takeWord_72 (by decide) (by rw [e2003135596]; try decide) (by decide) ?_
          refine z_aload_n C dX2_takeWord_124 rfl 0 rfl ?_
          refine z_iconst (v := (4 : Int32)) C dX2_takeWord_125 (by decide) ?_
          refine z_put (ws' := [(q_t, .inr (1, [.ref q_t_draft, .int t_start, .int t_length, .ref q_t_text, .int t_next, .int (4 : Int32), .int t_value])), (q_t_text, zB E 150 t_text)]) C inT_X2 tyX2 tyX2_ok nmX2 0 rfl rfl 5 (by decide) rfl (mc W_208) rfl rfl rfl (Nat.le_of_ble_eq_true rfl) rfl dX2_takeWord_126 ?_
          refine z_goto (tgt := 155) C dX2_takeWord_129 (by decide) ?_
          obtain rfl := Option.some.inj h
          exact z_vret C hr dX2_takeWord_155
        · replace h := (if_neg e2003135596).symm.trans h
          refine z_look (tgt := 149) (off := 77) C dX2_takeWord_72 (by decide) (by show Op.lookupswitch.offset [(6578553, 68), (1835100526, 44), (1953854062, 60), (2003135596, 52)] _ _ = _; rw [lv_osw e6578553 (by decide), lv_osw e1835100526 (by decide), lv_osw e1953854062 (by decide), lv_osw e2003135596 (by decide)]; try rfl) (by decide) ?_
          refine z_aload_n C dX2_takeWord_149 rfl 0 rfl ?_
          refine z_bipush (v := (7 : Int32)) C dX2_takeWord_150 (by decide) ?_
          refine z_put (ws' := [(q_t, .inr (1, [.ref q_t_draft, .int t_start, .int t_length, .ref q_t_text, .int t_next, .int (7 : Int32), .int t_value])), (q_t_text, zB E 150 t_text)]) C inT_X2 tyX2 tyX2_ok nmX2 0 rfl rfl 5 (by decide) rfl (mc W_208) rfl rfl rfl (Nat.le_of_ble_eq_true rfl) rfl dX2_takeWord_152 ?_
          obtain rfl := Option.some.inj h
          exact z_vret C hr dX2_takeWord_155
set_option maxRecDepth 100000 in
set_option maxHeartbeats 4000000 in
theorem l_X2_takeWord_b56 {p : Program} {l : Launch} {e : Env} {s : State} {m : MethodId} {args : Array Value} {below : List Frame} {meth : Method} {c : Code} {E : zE} {A : Nat → Prop} {q_t q_t_text q_t_draft : Nat} {t_value : Int32} {o : Int32 × Int32} (F : Nat) (t_start : Int32) (t_length : Int32) (t_text : Nat → Int32) (C : zC p s m args c meth cX2_takeWord 2 RX2 wsX2_takeWord E A) (hr : meth.sig.returnType = none) : ∀  (v1 : Int32) (t_next : Int32) (t_token : Int32), f_X2_takeWord_b56 F t_start t_length t_text v1 t_next t_token = some o → zG p l e rm_X2_takeWord s m args below meth c 2 E A 0 0 (MQ below (zQ E A none [(q_t, .inr (1, [.ref q_t_draft, .int t_start, .int t_length, .ref q_t_text, .int o.1, .int o.2, .int t_value])), (q_t_text, zB E 150 t_text)]) args s 0 0 A) [(q_t, .inr (1, [.ref q_t_draft, .int t_start, .int t_length, .ref q_t_text, .int t_next, .int t_token, .int t_value])), (q_t_text, zB E 150 t_text)] 56 [(0, .ref q_t), (1, .int v1)] [] := by
  intro v1 t_next t_token h
  rw [f_X2_takeWord_b56] at h
  refine z_aload_n C dX2_takeWord_56 rfl 0 rfl ?_
  refine z_get C inT_X2 0 rfl rfl 4 (by decide) rfl (mc W_207) rfl dX2_takeWord_57 ?_
  refine z_aload_n C dX2_takeWord_60 rfl 0 rfl ?_
  refine z_get C inT_X2 0 rfl rfl 1 (by decide) rfl (mc W_202) rfl dX2_takeWord_61 ?_
  refine z_isub C dX2_takeWord_64 ?_
  refine z_iconst (v := (4 : Int32)) C dX2_takeWord_65 (by decide) ?_
  refine z_icmp_le (tgt := 71) C dX2_takeWord_66 (by decide) (fun c => ?_) (fun c => ?_)
  · replace h := (if_pos c).symm.trans h
    exact (l_X2_takeWord_b71 F t_start t_length t_text C hr) v1 t_next t_token h
  · replace h := (if_neg c).symm.trans h
    refine z_iconst (v := (0 : Int32)) C dX2_takeWord_69 (by decide) ?_
    refine z_istore_n (L' := [(1, .int (0 : Int32)), (0, .ref q_t)]) C dX2_takeWord_70 rfl (by decide) rfl ?_
    refine z_sub [1, 0] (L' := [(0, .ref q_t), (1, .int (0 : Int32))]) rfl ?_
    exact (l_X2_takeWord_b71 F t_start t_length t_text C hr) (0 : Int32) t_next t_token h
set_option maxRecDepth 100000 in
set_option maxHeartbeats 4000000 in
theorem l_X2_takeWord_b2 {p : Program} {l : Launch} {e : Env} {s : State} {m : MethodId} {args : Array Value} {below : List Frame} {meth : Method} {c : Code} {E : zE} {A : Nat → Prop} {q_t q_t_text q_t_draft : Nat} {t_value : Int32} {o : Int32 × Int32} (F : Nat) (t_start : Int32) (t_length : Int32) (t_text : Nat → Int32) (C : zC p s m args c meth cX2_takeWord 2 RX2 wsX2_takeWord E A) (hr : meth.sig.returnType = none) : ∀ (n : Nat) (v1 : Int32) (t_next : Int32) (t_token : Int32), f_X2_takeWord_b2 F t_start t_length t_text n v1 t_next t_token = some o → zG p l e rm_X2_takeWord s m args below meth c 2 E A 0 0 (MQ below (zQ E A none [(q_t, .inr (1, [.ref q_t_draft, .int t_start, .int t_length, .ref q_t_text, .int o.1, .int o.2, .int t_value])), (q_t_text, zB E 150 t_text)]) args s 0 0 A) [(q_t, .inr (1, [.ref q_t_draft, .int t_start, .int t_length, .ref q_t_text, .int t_next, .int t_token, .int t_value])), (q_t_text, zB E 150 t_text)] 2 [(0, .ref q_t), (1, .int v1)] [] := by
  intro n
  induction n with
  | zero =>
    intro v1 t_next t_token h
    rw [f_X2_takeWord_b2] at h
    cases h
  | succ n ih =>
    intro v1 t_next t_token h
    rw [f_X2_takeWord_b2] at h
    refine z_aload_n C dX2_takeWord_2 rfl 0 rfl ?_
    refine z_get C inT_X2 0 rfl rfl 4 (by decide) rfl (mc W_207) rfl dX2_takeWord_3 ?_
    refine z_aload_n C dX2_takeWord_6 rfl 0 rfl ?_
    refine z_get C inT_X2 0 rfl rfl 2 (by decide) rfl (mc W_204) rfl dX2_takeWord_7 ?_
    refine z_icmp_ge (tgt := 56) C dX2_takeWord_10 (by decide) (fun c => ?_) (fun c => ?_)
    · replace h := (if_pos c).symm.trans h
      exact (l_X2_takeWord_b56 F t_start t_length t_text C hr) v1 t_next t_token h
    · replace h := (if_neg c).symm.trans h
      refine z_aload_n C dX2_takeWord_13 rfl 0 rfl ?_
      refine z_get C inT_X2 0 rfl rfl 3 (by decide) rfl (mc W_206) rfl dX2_takeWord_14 ?_
      refine z_aload_n C dX2_takeWord_17 rfl 0 rfl ?_
      refine z_get C inT_X2 0 rfl rfl 4 (by decide) rfl (mc W_207) rfl dX2_takeWord_18 ?_
      obtain ⟨c1, h⟩ := chk_some h
      refine z_bald C 1 rfl c1 dX2_takeWord_21 ?_
      obtain ⟨o2, ho3, h⟩ := bnd_some h
      refine z_callS (wc := []) (wr := [(q_t, .inr (1, [.ref q_t_draft, .int t_start, .int t_length, .ref q_t_text, .int t_next, .int t_token, .int t_value])), (q_t_text, zB E 150 t_text)]) (wc' := []) (ws2 := [(q_t, .inr (1, [.ref q_t_draft, .int t_start, .int t_length, .ref q_t_text, .int t_next, .int t_token, .int t_value])), (q_t_text, zB E 150 t_text)]) (As := [.int (t_text t_next.toNatClampNeg)]) (st2 := [.int o2]) C [] [0, 1] [0, 1] rfl rfl rfl rfl (by decide) rfl rfl (c_X2_isLetter F ho3) (goodST consT W_312 W_313 W_61 W_314) rfl rfl rfl hd_X2_isLetter ⟨Nat.le_of_ble_eq_true rfl, Nat.le_of_ble_eq_true rfl⟩ rfl rfl rfl (Nat.le_of_ble_eq_true rfl) dX2_takeWord_22 ⟨Nat.zero_le _, Nat.zero_le _⟩ ?_
      refine z_if_eq (tgt := 56) C dX2_takeWord_25 (by decide) (fun c => ?_) (fun c => ?_)
      · replace h := (if_pos c).symm.trans h
        exact (l_X2_takeWord_b56 F t_start t_length t_text C hr) v1 t_next t_token h
      · replace h := (if_neg c).symm.trans h
        refine z_iload_n C dX2_takeWord_28 rfl 1 rfl ?_
        refine z_bipush (v := (8 : Int32)) C dX2_takeWord_29 (by decide) ?_
        refine z_ishl C dX2_takeWord_31 ?_
        refine z_aload_n C dX2_takeWord_32 rfl 0 rfl ?_
        refine z_get C inT_X2 0 rfl rfl 3 (by decide) rfl (mc W_206) rfl dX2_takeWord_33 ?_
        refine z_aload_n C dX2_takeWord_36 rfl 0 rfl ?_
        refine z_get C inT_X2 0 rfl rfl 4 (by decide) rfl (mc W_207) rfl dX2_takeWord_37 ?_
        obtain ⟨c4, h⟩ := chk_some h
        refine z_bald C 1 rfl c4 dX2_takeWord_40 ?_
        refine z_ior C dX2_takeWord_41 ?_
        refine z_istore_n (L' := [(1, .int ((v1 <<< ((8 : Int32) &&& 31)) ||| (t_text t_next.toNatClampNeg))), (0, .ref q_t)]) C dX2_takeWord_42 rfl (by decide) rfl ?_
        refine z_aload_n C dX2_takeWord_43 rfl 1 rfl ?_
        refine z_dup C dX2_takeWord_44 rfl ?_
        refine z_get C inT_X2 0 rfl rfl 4 (by decide) rfl (mc W_207) rfl dX2_takeWord_45 ?_
        refine z_iconst (v := (1 : Int32)) C dX2_takeWord_48 (by decide) ?_
        refine z_iadd C dX2_takeWord_49 ?_
        refine z_put (ws' := [(q_t, .inr (1, [.ref q_t_draft, .int t_start, .int t_length, .ref q_t_text, .int (t_next + (1 : Int32)), .int t_token, .int t_value])), (q_t_text, zB E 150 t_text)]) C inT_X2 tyX2 tyX2_ok nmX2 0 rfl rfl 4 (by decide) rfl (mc W_207) rfl rfl rfl (Nat.le_of_ble_eq_true rfl) rfl dX2_takeWord_50 ?_
        refine z_goto (tgt := 2) C dX2_takeWord_53 (by decide) ?_
        refine z_sub [1, 0] (L' := [(0, .ref q_t), (1, .int ((v1 <<< ((8 : Int32) &&& 31)) ||| (t_text t_next.toNatClampNeg)))]) rfl ?_
        exact ih ((v1 <<< ((8 : Int32) &&& 31)) ||| (t_text t_next.toNatClampNeg)) (t_next + (1 : Int32)) t_token h
set_option maxRecDepth 100000 in
set_option maxHeartbeats 4000000 in
theorem c_X2_takeWord {l : Launch} {E : zE} {q_t q_t_text q_t_draft : Nat} {t_value : Int32} {t_start : Int32} {t_length : Int32} {t_text : Nat → Int32} {t_next : Int32} {t_token : Int32} {o : Int32 × Int32} (F : Nat) (h : f_X2_takeWord F t_start t_length t_text t_next t_token = some o) : zM l yX2_takeWord wsX2_takeWord rm_X2_takeWord E [.ref q_t] [(q_t, .inr (1, [.ref q_t_draft, .int t_start, .int t_length, .ref q_t_text, .int t_next, .int t_token, .int t_value])), (q_t_text, zB E 150 t_text)] none [(q_t, .inr (1, [.ref q_t_draft, .int t_start, .int t_length, .ref q_t_text, .int o.1, .int o.2, .int t_value])), (q_t_text, zB E 150 t_text)] := by
  refine zM.of (cc := cX2_takeWord) (maxL := 2) (ret := none) (by decide +kernel) rfl (Nat.le_of_ble_eq_true rfl) ?_
  intro p e s m args below meth c A C hr
  have C : zC p s m args c meth cX2_takeWord 2 RX2 wsX2_takeWord E A := C
  rw [f_X2_takeWord] at h
  refine z_iconst (v := (0 : Int32)) C dX2_takeWord_0 (by decide) ?_
  refine z_istore_n (L' := [(1, .int (0 : Int32)), (0, .ref q_t)]) C dX2_takeWord_1 rfl (by decide) rfl ?_
  refine z_sub [1, 0] (L' := [(0, .ref q_t), (1, .int (0 : Int32))]) rfl ?_
  exact (l_X2_takeWord_b2 F t_start t_length t_text C hr F) (0 : Int32) t_next t_token h
def rm_X2_step : Room := { frames := 2, cells := 0, slots := 0, locals := 41 }
theorem hd_X2_step : yX2_step.cls = yX2_step.cls ∧ yX2_step.cls ≠ "java/lang/invoke/MethodHandle" ∧ yX2_step.cls ≠ "java/lang/invoke/VarHandle" ∧ (parseMethodDescriptor yX2_step.desc).map (fun d => d.parameters.length) = some 0 := by decide +kernel
abbrev wsX2_step : List Cond := .code yX2_step cX2_step 1 none :: WALL
set_option maxRecDepth 100000 in
set_option maxHeartbeats 4000000 in
theorem l_X2_step_b38 {p : Program} {l : Launch} {e : Env} {s : State} {m : MethodId} {args : Array Value} {below : List Frame} {meth : Method} {c : Code} {E : zE} {A : Nat → Prop} {q_t q_t_text q_t_draft : Nat} {o : Int32 × Int32 × Int32 × Int32} (F : Nat) (t_length : Int32) (t_text : Nat → Int32) (C : zC p s m args c meth cX2_step 1 RX2 wsX2_step E A) (hr : meth.sig.returnType = none) : ∀  (t_start : Int32) (t_next : Int32) (t_token : Int32) (t_value : Int32), f_X2_step_b38 F t_length t_text t_start t_next t_token t_value = some o → zG p l e rm_X2_step s m args below meth c 1 E A 0 0 (MQ below (zQ E A none [(q_t, .inr (1, [.ref q_t_draft, .int o.1, .int t_length, .ref q_t_text, .int o.2.1, .int o.2.2.1, .int o.2.2.2])), (q_t_text, zB E 150 t_text)]) args s 0 0 A) [(q_t, .inr (1, [.ref q_t_draft, .int t_start, .int t_length, .ref q_t_text, .int t_next, .int t_token, .int t_value])), (q_t_text, zB E 150 t_text)] 38 [(0, .ref q_t)] [] := by
  intro t_start t_next t_token t_value h
  rw [f_X2_step_b38] at h
  refine z_aload_n C dX2_step_38 rfl 0 rfl ?_
  refine z_aload_n C dX2_step_39 rfl 0 rfl ?_
  refine z_get C inT_X2 0 rfl rfl 4 (by decide) rfl (mc W_207) rfl dX2_step_40 ?_
  refine z_put (ws' := [(q_t, .inr (1, [.ref q_t_draft, .int t_next, .int t_length, .ref q_t_text, .int t_next, .int t_token, .int t_value])), (q_t_text, zB E 150 t_text)]) C inT_X2 tyX2 tyX2_ok nmX2 0 rfl rfl 1 (by decide) rfl (mc W_202) rfl rfl rfl (Nat.le_of_ble_eq_true rfl) rfl dX2_step_43 ?_
  refine z_aload_n C dX2_step_46 rfl 0 rfl ?_
  refine z_get C inT_X2 0 rfl rfl 4 (by decide) rfl (mc W_207) rfl dX2_step_47 ?_
  refine z_aload_n C dX2_step_50 rfl 0 rfl ?_
  refine z_get C inT_X2 0 rfl rfl 2 (by decide) rfl (mc W_204) rfl dX2_step_51 ?_
  refine z_icmp_lt (tgt := 65) C dX2_step_54 (by decide) (fun c => ?_) (fun c => ?_)
  · replace h := (if_pos c).symm.trans h
    refine z_aload_n C dX2_step_65 rfl 0 rfl ?_
    refine z_get C inT_X2 0 rfl rfl 3 (by decide) rfl (mc W_206) rfl dX2_step_66 ?_
    refine z_aload_n C dX2_step_69 rfl 0 rfl ?_
    refine z_get C inT_X2 0 rfl rfl 4 (by decide) rfl (mc W_207) rfl dX2_step_70 ?_
    obtain ⟨c2, h⟩ := chk_some h
    refine z_bald C 1 rfl c2 dX2_step_73 ?_
    obtain ⟨o3, ho4, h⟩ := bnd_some h
    refine z_callS (wc := []) (wr := [(q_t, .inr (1, [.ref q_t_draft, .int t_next, .int t_length, .ref q_t_text, .int t_next, .int t_token, .int t_value])), (q_t_text, zB E 150 t_text)]) (wc' := []) (ws2 := [(q_t, .inr (1, [.ref q_t_draft, .int t_next, .int t_length, .ref q_t_text, .int t_next, .int t_token, .int t_value])), (q_t_text, zB E 150 t_text)]) (As := [.int (t_text t_next.toNatClampNeg)]) (st2 := [.int o3]) C [] [0, 1] [0, 1] rfl rfl rfl rfl (by decide) rfl rfl (c_X2_isLetter F ho4) (goodST consT W_312 W_313 W_61 W_314) rfl rfl rfl hd_X2_isLetter ⟨Nat.le_of_ble_eq_true rfl, Nat.le_of_ble_eq_true rfl⟩ rfl rfl rfl (Nat.le_of_ble_eq_true rfl) dX2_step_74 ⟨Nat.zero_le _, Nat.zero_le _⟩ ?_
    refine z_if_eq (tgt := 87) C dX2_step_77 (by decide) (fun c => ?_) (fun c => ?_)
    · replace h := (if_pos c).symm.trans h
      refine z_aload_n C dX2_step_87 rfl 0 rfl ?_
      refine z_get C inT_X2 0 rfl rfl 3 (by decide) rfl (mc W_206) rfl dX2_step_88 ?_
      refine z_aload_n C dX2_step_91 rfl 0 rfl ?_
      refine z_get C inT_X2 0 rfl rfl 4 (by decide) rfl (mc W_207) rfl dX2_step_92 ?_
      obtain ⟨c5, h⟩ := chk_some h
      refine z_bald C 1 rfl c5 dX2_step_95 ?_
      obtain ⟨o6, ho7, h⟩ := bnd_some h
      refine z_callS (wc := []) (wr := [(q_t, .inr (1, [.ref q_t_draft, .int t_next, .int t_length, .ref q_t_text, .int t_next, .int t_token, .int t_value])), (q_t_text, zB E 150 t_text)]) (wc' := []) (ws2 := [(q_t, .inr (1, [.ref q_t_draft, .int t_next, .int t_length, .ref q_t_text, .int t_next, .int t_token, .int t_value])), (q_t_text, zB E 150 t_text)]) (As := [.int (t_text t_next.toNatClampNeg)]) (st2 := [.int o6]) C [] [0, 1] [0, 1] rfl rfl rfl rfl (by decide) rfl rfl (c_X2_isFigure F ho7) (goodST consT W_319 W_320 W_61 W_321) rfl rfl rfl hd_X2_isFigure ⟨Nat.le_of_ble_eq_true rfl, Nat.le_of_ble_eq_true rfl⟩ rfl rfl rfl (Nat.le_of_ble_eq_true rfl) dX2_step_96 ⟨Nat.zero_le _, Nat.zero_le _⟩ ?_
      refine z_if_eq (tgt := 109) C dX2_step_99 (by decide) (fun c => ?_) (fun c => ?_)
      · replace h := (if_pos c).symm.trans h
        refine z_aload_n C dX2_step_109 rfl 0 rfl ?_
        obtain ⟨o8, ho9, h⟩ := bnd_some h
        refine z_callV (wc := [(q_t, .inr (1, [.ref q_t_draft, .int t_next, .int t_length, .ref q_t_text, .int t_next, .int t_token, .int t_value])), (q_t_text, zB E 150 t_text)]) (wr := []) (wc' := [(q_t, .inr (1, [.ref q_t_draft, .int t_next, .int t_length, .ref q_t_text, .int o8.1, .int o8.2, .int t_value])), (q_t_text, zB E 150 t_text)]) (ws2 := [(q_t, .inr (1, [.ref q_t_draft, .int t_next, .int t_length, .ref q_t_text, .int o8.1, .int o8.2, .int t_value])), (q_t_text, zB E 150 t_text)]) (As := []) (st2 := []) C [0, 1] [] [0, 1] rfl rfl rfl rfl (by decide) rfl rfl (c_X2_takeSign F ho9) (goodVT consT W_326 W_328 W_5 W_61 W_329) rfl rfl rfl hd_X2_takeSign ⟨Nat.le_of_ble_eq_true rfl, Nat.le_of_ble_eq_true rfl⟩ rfl rfl rfl (j := 0) rfl rfl rfl (Nat.le_of_ble_eq_true rfl) dX2_step_110 ⟨Nat.zero_le _, Nat.zero_le _⟩ ?_
        obtain rfl := Option.some.inj h
        exact z_vret C hr dX2_step_113
      · replace h := (if_neg c).symm.trans h
        refine z_aload_n C dX2_step_102 rfl 0 rfl ?_
        obtain ⟨o10, ho11, h⟩ := bnd_some h
        refine z_callV (wc := [(q_t, .inr (1, [.ref q_t_draft, .int t_next, .int t_length, .ref q_t_text, .int t_next, .int t_token, .int t_value])), (q_t_text, zB E 150 t_text)]) (wr := []) (wc' := [(q_t, .inr (1, [.ref q_t_draft, .int t_next, .int t_length, .ref q_t_text, .int o10.1, .int o10.2.1, .int o10.2.2])), (q_t_text, zB E 150 t_text)]) (ws2 := [(q_t, .inr (1, [.ref q_t_draft, .int t_next, .int t_length, .ref q_t_text, .int o10.1, .int o10.2.1, .int o10.2.2])), (q_t_text, zB E 150 t_text)]) (As := []) (st2 := []) C [0, 1] [] [0, 1] rfl rfl rfl rfl (by decide) rfl rfl (c_X2_takeNumber F ho11) (goodVT consT W_322 W_324 W_4 W_61 W_325) rfl rfl rfl hd_X2_takeNumber ⟨Nat.le_of_ble_eq_true rfl, Nat.le_of_ble_eq_true rfl⟩ rfl rfl rfl (j := 0) rfl rfl rfl (Nat.le_of_ble_eq_true rfl) dX2_step_103 ⟨Nat.zero_le _, Nat.zero_le _⟩ ?_
        refine z_goto (tgt := 113) C dX2_step_106 (by decide) ?_
        obtain rfl := Option.some.inj h
        exact z_vret C hr dX2_step_113
    · replace h := (if_neg c).symm.trans h
      refine z_aload_n C dX2_step_80 rfl 0 rfl ?_
      obtain ⟨o12, ho13, h⟩ := bnd_some h
      refine z_callV (wc := [(q_t, .inr (1, [.ref q_t_draft, .int t_next, .int t_length, .ref q_t_text, .int t_next, .int t_token, .int t_value])), (q_t_text, zB E 150 t_text)]) (wr := []) (wc' := [(q_t, .inr (1, [.ref q_t_draft, .int t_next, .int t_length, .ref q_t_text, .int o12.1, .int o12.2, .int t_value])), (q_t_text, zB E 150 t_text)]) (ws2 := [(q_t, .inr (1, [.ref q_t_draft, .int t_next, .int t_length, .ref q_t_text, .int o12.1, .int o12.2, .int t_value])), (q_t_text, zB E 150 t_text)]) (As := []) (st2 := []) C [0, 1] [] [0, 1] rfl rfl rfl rfl (by decide) rfl rfl (c_X2_takeWord F ho13) (goodVT consT W_315 W_317 W_3 W_61 W_318) rfl rfl rfl hd_X2_takeWord ⟨Nat.le_of_ble_eq_true rfl, Nat.le_of_ble_eq_true rfl⟩ rfl rfl rfl (j := 0) rfl rfl rfl (Nat.le_of_ble_eq_true rfl) dX2_step_81 ⟨Nat.zero_le _, Nat.zero_le _⟩ ?_
      refine z_goto (tgt := 113) C dX2_step_84 (by decide) ?_
      obtain rfl := Option.some.inj h
      exact z_vret C hr dX2_step_113
  · replace h := (if_neg c).symm.trans h
    refine z_aload_n C dX2_step_57 rfl 0 rfl ?_
    refine z_iconst (v := (0 : Int32)) C dX2_step_58 (by decide) ?_
    refine z_put (ws' := [(q_t, .inr (1, [.ref q_t_draft, .int t_next, .int t_length, .ref q_t_text, .int t_next, .int (0 : Int32), .int t_value])), (q_t_text, zB E 150 t_text)]) C inT_X2 tyX2 tyX2_ok nmX2 0 rfl rfl 5 (by decide) rfl (mc W_208) rfl rfl rfl (Nat.le_of_ble_eq_true rfl) rfl dX2_step_59 ?_
    refine z_goto (tgt := 113) C dX2_step_62 (by decide) ?_
    obtain rfl := Option.some.inj h
    exact z_vret C hr dX2_step_113
set_option maxRecDepth 100000 in
set_option maxHeartbeats 4000000 in
theorem l_X2_step_b0 {p : Program} {l : Launch} {e : Env} {s : State} {m : MethodId} {args : Array Value} {below : List Frame} {meth : Method} {c : Code} {E : zE} {A : Nat → Prop} {q_t q_t_text q_t_draft : Nat} {o : Int32 × Int32 × Int32 × Int32} (F : Nat) (t_length : Int32) (t_text : Nat → Int32) (C : zC p s m args c meth cX2_step 1 RX2 wsX2_step E A) (hr : meth.sig.returnType = none) : ∀ (n : Nat) (t_start : Int32) (t_next : Int32) (t_token : Int32) (t_value : Int32), f_X2_step_b0 F t_length t_text n t_start t_next t_token t_value = some o → zG p l e rm_X2_step s m args below meth c 1 E A 0 0 (MQ below (zQ E A none [(q_t, .inr (1, [.ref q_t_draft, .int o.1, .int t_length, .ref q_t_text, .int o.2.1, .int o.2.2.1, .int o.2.2.2])), (q_t_text, zB E 150 t_text)]) args s 0 0 A) [(q_t, .inr (1, [.ref q_t_draft, .int t_start, .int t_length, .ref q_t_text, .int t_next, .int t_token, .int t_value])), (q_t_text, zB E 150 t_text)] 0 [(0, .ref q_t)] [] := by
  intro n
  induction n with
  | zero =>
    intro t_start t_next t_token t_value h
    rw [f_X2_step_b0] at h
    cases h
  | succ n ih =>
    intro t_start t_next t_token t_value h
    rw [f_X2_step_b0] at h
    refine z_aload_n C dX2_step_0 rfl 0 rfl ?_
    refine z_get C inT_X2 0 rfl rfl 4 (by decide) rfl (mc W_207) rfl dX2_step_1 ?_
    refine z_aload_n C dX2_step_4 rfl 0 rfl ?_
    refine z_get C inT_X2 0 rfl rfl 2 (by decide) rfl (mc W_204) rfl dX2_step_5 ?_
    refine z_icmp_ge (tgt := 38) C dX2_step_8 (by decide) (fun c => ?_) (fun c => ?_)
    · replace h := (if_pos c).symm.trans h
      exact (l_X2_step_b38 F t_length t_text C hr) t_start t_next t_token t_value h
    · replace h := (if_neg c).symm.trans h
      refine z_aload_n C dX2_step_11 rfl 0 rfl ?_
      refine z_get C inT_X2 0 rfl rfl 3 (by decide) rfl (mc W_206) rfl dX2_step_12 ?_
      refine z_aload_n C dX2_step_15 rfl 0 rfl ?_
      refine z_get C inT_X2 0 rfl rfl 4 (by decide) rfl (mc W_207) rfl dX2_step_16 ?_
      obtain ⟨c1, h⟩ := chk_some h
      refine z_bald C 1 rfl c1 dX2_step_19 ?_
      refine z_bipush (v := (32 : Int32)) C dX2_step_20 (by decide) ?_
      refine z_icmp_ne (tgt := 38) C dX2_step_22 (by decide) (fun c => ?_) (fun c => ?_)
      · replace h := (if_neg c).symm.trans h
        exact (l_X2_step_b38 F t_length t_text C hr) t_start t_next t_token t_value h
      · replace h := (if_pos c).symm.trans h
        refine z_aload_n C dX2_step_25 rfl 0 rfl ?_
        refine z_dup C dX2_step_26 rfl ?_
        refine z_get C inT_X2 0 rfl rfl 4 (by decide) rfl (mc W_207) rfl dX2_step_27 ?_
        refine z_iconst (v := (1 : Int32)) C dX2_step_30 (by decide) ?_
        refine z_iadd C dX2_step_31 ?_
        refine z_put (ws' := [(q_t, .inr (1, [.ref q_t_draft, .int t_start, .int t_length, .ref q_t_text, .int (t_next + (1 : Int32)), .int t_token, .int t_value])), (q_t_text, zB E 150 t_text)]) C inT_X2 tyX2 tyX2_ok nmX2 0 rfl rfl 4 (by decide) rfl (mc W_207) rfl rfl rfl (Nat.le_of_ble_eq_true rfl) rfl dX2_step_32 ?_
        refine z_goto (tgt := 0) C dX2_step_35 (by decide) ?_
        exact ih t_start (t_next + (1 : Int32)) t_token t_value h
set_option maxRecDepth 100000 in
set_option maxHeartbeats 4000000 in
theorem c_X2_step {l : Launch} {E : zE} {q_t q_t_text q_t_draft : Nat} {t_length : Int32} {t_text : Nat → Int32} {t_start : Int32} {t_next : Int32} {t_token : Int32} {t_value : Int32} {o : Int32 × Int32 × Int32 × Int32} (F : Nat) (h : f_X2_step F t_length t_text t_start t_next t_token t_value = some o) : zM l yX2_step wsX2_step rm_X2_step E [.ref q_t] [(q_t, .inr (1, [.ref q_t_draft, .int t_start, .int t_length, .ref q_t_text, .int t_next, .int t_token, .int t_value])), (q_t_text, zB E 150 t_text)] none [(q_t, .inr (1, [.ref q_t_draft, .int o.1, .int t_length, .ref q_t_text, .int o.2.1, .int o.2.2.1, .int o.2.2.2])), (q_t_text, zB E 150 t_text)] := by
  refine zM.of (cc := cX2_step) (maxL := 1) (ret := none) (by decide +kernel) rfl (Nat.le_of_ble_eq_true rfl) ?_
  intro p e s m args below meth c A C hr
  have C : zC p s m args c meth cX2_step 1 RX2 wsX2_step E A := C
  rw [f_X2_step] at h
  exact (l_X2_step_b0 F t_length t_text C hr F) t_start t_next t_token t_value h
def rm_X2_isNumber : Room := { frames := 0, cells := 0, slots := 0, locals := 0 }
theorem hd_X2_isNumber : yX2_isNumber.cls = yX2_isNumber.cls ∧ yX2_isNumber.cls ≠ "java/lang/invoke/MethodHandle" ∧ yX2_isNumber.cls ≠ "java/lang/invoke/VarHandle" ∧ (parseMethodDescriptor yX2_isNumber.desc).map (fun d => d.parameters.length) = some 2 := by decide +kernel
abbrev wsX2_isNumber : List Cond := .code yX2_isNumber cX2_isNumber 3 (some .boolean) :: WALL
set_option maxRecDepth 100000 in
set_option maxHeartbeats 4000000 in
theorem c_X2_isNumber {l : Launch} {E : zE} {q_t q_t_draft q_t_text : Nat} {t_start : Int32} {t_length : Int32} {t_next : Int32} {a1 : Int32} {a2 : Int32} {t_token : Int32} {t_value : Int32} {o : Int32} (F : Nat) (h : f_X2_isNumber F a1 a2 t_token t_value = some o) : zM l yX2_isNumber wsX2_isNumber rm_X2_isNumber E [.ref q_t, .int a1, .int a2] [(q_t, .inr (1, [.ref q_t_draft, .int t_start, .int t_length, .ref q_t_text, .int t_next, .int t_token, .int t_value]))] (some (.int o)) [(q_t, .inr (1, [.ref q_t_draft, .int t_start, .int t_length, .ref q_t_text, .int t_next, .int t_token, .int t_value]))] := by
  refine zM.of (cc := cX2_isNumber) (maxL := 3) (ret := (some .boolean)) (by decide +kernel) rfl (Nat.le_of_ble_eq_true rfl) ?_
  intro p e s m args below meth c A C hr
  have C : zC p s m args c meth cX2_isNumber 3 RX2 wsX2_isNumber E A := C
  rw [f_X2_isNumber] at h
  refine z_aload_n C dX2_isNumber_0 rfl 0 rfl ?_
  refine z_get C inT_X2 0 rfl rfl 5 (by decide) rfl (mc W_208) rfl dX2_isNumber_1 ?_
  refine z_iconst (v := (2 : Int32)) C dX2_isNumber_4 (by decide) ?_
  refine z_icmp_ne (tgt := 28) C dX2_isNumber_5 (by decide) (fun c => ?_) (fun c => ?_)
  · replace h := (if_neg c).symm.trans h
    refine z_iconst (v := (0 : Int32)) C dX2_isNumber_28 (by decide) ?_
    obtain rfl := Option.some.inj h
    exact z_zret (v := (0 : Int32)) C hr rfl dX2_isNumber_29
  · replace h := (if_pos c).symm.trans h
    refine z_aload_n C dX2_isNumber_8 rfl 0 rfl ?_
    refine z_get C inT_X2 0 rfl rfl 6 (by decide) rfl (mc W_209) rfl dX2_isNumber_9 ?_
    refine z_iload_n C dX2_isNumber_12 rfl 1 rfl ?_
    refine z_icmp_lt (tgt := 28) C dX2_isNumber_13 (by decide) (fun c => ?_) (fun c => ?_)
    · replace h := (if_pos c).symm.trans h
      refine z_iconst (v := (0 : Int32)) C dX2_isNumber_28 (by decide) ?_
      obtain rfl := Option.some.inj h
      exact z_zret (v := (0 : Int32)) C hr rfl dX2_isNumber_29
    · replace h := (if_neg c).symm.trans h
      refine z_aload_n C dX2_isNumber_16 rfl 0 rfl ?_
      refine z_get C inT_X2 0 rfl rfl 6 (by decide) rfl (mc W_209) rfl dX2_isNumber_17 ?_
      refine z_iload_n C dX2_isNumber_20 rfl 2 rfl ?_
      refine z_icmp_gt (tgt := 28) C dX2_isNumber_21 (by decide) (fun c => ?_) (fun c => ?_)
      · replace h := (if_pos c).symm.trans h
        refine z_iconst (v := (0 : Int32)) C dX2_isNumber_28 (by decide) ?_
        obtain rfl := Option.some.inj h
        exact z_zret (v := (0 : Int32)) C hr rfl dX2_isNumber_29
      · replace h := (if_neg c).symm.trans h
        refine z_iconst (v := (1 : Int32)) C dX2_isNumber_24 (by decide) ?_
        refine z_goto (tgt := 29) C dX2_isNumber_25 (by decide) ?_
        obtain rfl := Option.some.inj h
        exact z_zret (v := (1 : Int32)) C hr rfl dX2_isNumber_29
def rm_X2_semicolon : Room := { frames := 3, cells := 0, slots := 0, locals := 61 }
theorem hd_X2_semicolon : yX2_semicolon.cls = yX2_semicolon.cls ∧ yX2_semicolon.cls ≠ "java/lang/invoke/MethodHandle" ∧ yX2_semicolon.cls ≠ "java/lang/invoke/VarHandle" ∧ (parseMethodDescriptor yX2_semicolon.desc).map (fun d => d.parameters.length) = some 0 := by decide +kernel
abbrev wsX2_semicolon : List Cond := .code yX2_semicolon cX2_semicolon 1 (some .boolean) :: WALL
set_option maxRecDepth 100000 in
set_option maxHeartbeats 4000000 in
theorem c_X2_semicolon {l : Launch} {E : zE} {q_t q_t_text q_t_draft : Nat} {t_length : Int32} {t_text : Nat → Int32} {t_start : Int32} {t_next : Int32} {t_token : Int32} {t_value : Int32} {o : Int32 × Int32 × Int32 × Int32 × Int32} (F : Nat) (h : f_X2_semicolon F t_length t_text t_start t_next t_token t_value = some o) : zM l yX2_semicolon wsX2_semicolon rm_X2_semicolon E [.ref q_t] [(q_t, .inr (1, [.ref q_t_draft, .int t_start, .int t_length, .ref q_t_text, .int t_next, .int t_token, .int t_value])), (q_t_text, zB E 150 t_text)] (some (.int o.1)) [(q_t, .inr (1, [.ref q_t_draft, .int o.2.1, .int t_length, .ref q_t_text, .int o.2.2.1, .int o.2.2.2.1, .int o.2.2.2.2])), (q_t_text, zB E 150 t_text)] := by
  refine zM.of (cc := cX2_semicolon) (maxL := 1) (ret := (some .boolean)) (by decide +kernel) rfl (Nat.le_of_ble_eq_true rfl) ?_
  intro p e s m args below meth c A C hr
  have C : zC p s m args c meth cX2_semicolon 1 RX2 wsX2_semicolon E A := C
  rw [f_X2_semicolon] at h
  refine z_aload_n C dX2_semicolon_0 rfl 0 rfl ?_
  refine z_get C inT_X2 0 rfl rfl 5 (by decide) rfl (mc W_208) rfl dX2_semicolon_1 ?_
  refine z_iconst (v := (1 : Int32)) C dX2_semicolon_4 (by decide) ?_
  refine z_icmp_eq (tgt := 10) C dX2_semicolon_5 (by decide) (fun c => ?_) (fun c => ?_)
  · replace h := (if_pos c).symm.trans h
    refine z_aload_n C dX2_semicolon_10 rfl 0 rfl ?_
    obtain ⟨o1, ho2, h⟩ := bnd_some h
    refine z_callV (wc := [(q_t, .inr (1, [.ref q_t_draft, .int t_start, .int t_length, .ref q_t_text, .int t_next, .int t_token, .int t_value])), (q_t_text, zB E 150 t_text)]) (wr := []) (wc' := [(q_t, .inr (1, [.ref q_t_draft, .int o1.1, .int t_length, .ref q_t_text, .int o1.2.1, .int o1.2.2.1, .int o1.2.2.2])), (q_t_text, zB E 150 t_text)]) (ws2 := [(q_t, .inr (1, [.ref q_t_draft, .int o1.1, .int t_length, .ref q_t_text, .int o1.2.1, .int o1.2.2.1, .int o1.2.2.2])), (q_t_text, zB E 150 t_text)]) (As := []) (st2 := []) C [0, 1] [] [0, 1] rfl rfl rfl rfl (by decide) rfl rfl (c_X2_step F ho2) (goodVT consT W_308 W_310 W_2 W_61 W_311) rfl rfl rfl hd_X2_step ⟨Nat.le_of_ble_eq_true rfl, Nat.le_of_ble_eq_true rfl⟩ rfl rfl rfl (j := 0) rfl rfl rfl (Nat.le_of_ble_eq_true rfl) dX2_semicolon_11 ⟨Nat.zero_le _, Nat.zero_le _⟩ ?_
    refine z_iconst (v := (1 : Int32)) C dX2_semicolon_14 (by decide) ?_
    obtain rfl := Option.some.inj h
    exact z_zret (v := (1 : Int32)) C hr rfl dX2_semicolon_15
  · replace h := (if_neg c).symm.trans h
    refine z_iconst (v := (0 : Int32)) C dX2_semicolon_8 (by decide) ?_
    obtain rfl := Option.some.inj h
    exact z_zret (v := (0 : Int32)) C hr rfl dX2_semicolon_9
def rm_X2_mainItem : Room := { frames := 4, cells := 0, slots := 0, locals := 81 }
theorem hd_X2_mainItem : yX2_mainItem.cls = yX2_mainItem.cls ∧ yX2_mainItem.cls ≠ "java/lang/invoke/MethodHandle" ∧ yX2_mainItem.cls ≠ "java/lang/invoke/VarHandle" ∧ (parseMethodDescriptor yX2_mainItem.desc).map (fun d => d.parameters.length) = some 0 := by decide +kernel
abbrev wsX2_mainItem : List Cond := .code yX2_mainItem cX2_mainItem 1 (some .boolean) :: WALL
set_option maxRecDepth 100000 in
set_option maxHeartbeats 4000000 in
theorem c_X2_mainItem {l : Launch} {E : zE} {q_t q_t_text q_t_draft q_t_draft_kind q_t_draft_wanted q_t_draft_hours q_t_draft_had q_t_draft_due q_t_draft_leftHour q_t_draft_leftPressure q_t_draft_note q_t_draft_past q_t_draft_ahead q_t_draft_gets : Nat} {t_draft_day : Int32} {t_draft_wells : Int32} {t_draft_lefts : Int32} {t_draft_notes : Int32} {t_draft_undos : Int32} {t_draft_leftOver : Int32} {t_length : Int32} {t_text : Nat → Int32} {t_start : Int32} {t_next : Int32} {t_token : Int32} {t_value : Int32} {t_draft_pressure : Int32} {o : Int32 × Int32 × Int32 × Int32 × Int32 × Int32} (F : Nat) (h : f_X2_mainItem F t_length t_text t_start t_next t_token t_value t_draft_pressure = some o) : zM l yX2_mainItem wsX2_mainItem rm_X2_mainItem E [.ref q_t] [(q_t, .inr (1, [.ref q_t_draft, .int t_start, .int t_length, .ref q_t_text, .int t_next, .int t_token, .int t_value])), (q_t_text, zB E 150 t_text), (q_t_draft, .inr (0, [.int t_draft_pressure, .int t_draft_day, .int t_draft_wells, .int t_draft_lefts, .int t_draft_notes, .int t_draft_undos, .ref q_t_draft_kind, .ref q_t_draft_wanted, .ref q_t_draft_hours, .ref q_t_draft_had, .ref q_t_draft_due, .ref q_t_draft_leftHour, .ref q_t_draft_leftPressure, .ref q_t_draft_note, .ref q_t_draft_past, .ref q_t_draft_ahead, .ref q_t_draft_gets, .int t_draft_leftOver]))] (some (.int o.1)) [(q_t, .inr (1, [.ref q_t_draft, .int o.2.1, .int t_length, .ref q_t_text, .int o.2.2.1, .int o.2.2.2.1, .int o.2.2.2.2.1])), (q_t_text, zB E 150 t_text), (q_t_draft, .inr (0, [.int o.2.2.2.2.2, .int t_draft_day, .int t_draft_wells, .int t_draft_lefts, .int t_draft_notes, .int t_draft_undos, .ref q_t_draft_kind, .ref q_t_draft_wanted, .ref q_t_draft_hours, .ref q_t_draft_had, .ref q_t_draft_due, .ref q_t_draft_leftHour, .ref q_t_draft_leftPressure, .ref q_t_draft_note, .ref q_t_draft_past, .ref q_t_draft_ahead, .ref q_t_draft_gets, .int t_draft_leftOver]))] := by
  refine zM.of (cc := cX2_mainItem) (maxL := 1) (ret := (some .boolean)) (by decide +kernel) rfl (Nat.le_of_ble_eq_true rfl) ?_
  intro p e s m args below meth c A C hr
  have C : zC p s m args c meth cX2_mainItem 1 RX2 wsX2_mainItem E A := C
  rw [f_X2_mainItem] at h
  refine z_aload_n C dX2_mainItem_0 rfl 0 rfl ?_
  refine z_get C inT_X2 0 rfl rfl 5 (by decide) rfl (mc W_208) rfl dX2_mainItem_1 ?_
  refine z_iconst (v := (3 : Int32)) C dX2_mainItem_4 (by decide) ?_
  refine z_icmp_eq (tgt := 10) C dX2_mainItem_5 (by decide) (fun c => ?_) (fun c => ?_)
  · replace h := (if_pos c).symm.trans h
    refine z_aload_n C dX2_mainItem_10 rfl 0 rfl ?_
    obtain ⟨o1, ho2, h⟩ := bnd_some h
    refine z_callV (wc := [(q_t, .inr (1, [.ref q_t_draft, .int t_start, .int t_length, .ref q_t_text, .int t_next, .int t_token, .int t_value])), (q_t_text, zB E 150 t_text)]) (wr := [(q_t_draft, .inr (0, [.int t_draft_pressure, .int t_draft_day, .int t_draft_wells, .int t_draft_lefts, .int t_draft_notes, .int t_draft_undos, .ref q_t_draft_kind, .ref q_t_draft_wanted, .ref q_t_draft_hours, .ref q_t_draft_had, .ref q_t_draft_due, .ref q_t_draft_leftHour, .ref q_t_draft_leftPressure, .ref q_t_draft_note, .ref q_t_draft_past, .ref q_t_draft_ahead, .ref q_t_draft_gets, .int t_draft_leftOver]))]) (wc' := [(q_t, .inr (1, [.ref q_t_draft, .int o1.1, .int t_length, .ref q_t_text, .int o1.2.1, .int o1.2.2.1, .int o1.2.2.2])), (q_t_text, zB E 150 t_text)]) (ws2 := [(q_t, .inr (1, [.ref q_t_draft, .int o1.1, .int t_length, .ref q_t_text, .int o1.2.1, .int o1.2.2.1, .int o1.2.2.2])), (q_t_text, zB E 150 t_text), (q_t_draft, .inr (0, [.int t_draft_pressure, .int t_draft_day, .int t_draft_wells, .int t_draft_lefts, .int t_draft_notes, .int t_draft_undos, .ref q_t_draft_kind, .ref q_t_draft_wanted, .ref q_t_draft_hours, .ref q_t_draft_had, .ref q_t_draft_due, .ref q_t_draft_leftHour, .ref q_t_draft_leftPressure, .ref q_t_draft_note, .ref q_t_draft_past, .ref q_t_draft_ahead, .ref q_t_draft_gets, .int t_draft_leftOver]))]) (As := []) (st2 := []) C [0, 1] [2] [1, 2, 0] rfl rfl rfl rfl (by decide) rfl rfl (c_X2_step F ho2) (goodVT consT W_308 W_310 W_2 W_61 W_311) rfl rfl rfl hd_X2_step ⟨Nat.le_of_ble_eq_true rfl, Nat.le_of_ble_eq_true rfl⟩ rfl rfl rfl (j := 0) rfl rfl rfl (Nat.le_of_ble_eq_true rfl) dX2_mainItem_11 ⟨Nat.zero_le _, Nat.zero_le _⟩ ?_
    refine z_aload_n C dX2_mainItem_14 rfl 0 rfl ?_
    refine z_iconst (v := (0 : Int32)) C dX2_mainItem_15 (by decide) ?_
    refine z_bipush (v := (60 : Int32)) C dX2_mainItem_16 (by decide) ?_
    obtain ⟨o3, ho4, h⟩ := bnd_some h
    refine z_callV (wc := [(q_t, .inr (1, [.ref q_t_draft, .int o1.1, .int t_length, .ref q_t_text, .int o1.2.1, .int o1.2.2.1, .int o1.2.2.2]))]) (wr := [(q_t_text, zB E 150 t_text), (q_t_draft, .inr (0, [.int t_draft_pressure, .int t_draft_day, .int t_draft_wells, .int t_draft_lefts, .int t_draft_notes, .int t_draft_undos, .ref q_t_draft_kind, .ref q_t_draft_wanted, .ref q_t_draft_hours, .ref q_t_draft_had, .ref q_t_draft_due, .ref q_t_draft_leftHour, .ref q_t_draft_leftPressure, .ref q_t_draft_note, .ref q_t_draft_past, .ref q_t_draft_ahead, .ref q_t_draft_gets, .int t_draft_leftOver]))]) (wc' := [(q_t, .inr (1, [.ref q_t_draft, .int o1.1, .int t_length, .ref q_t_text, .int o1.2.1, .int o1.2.2.1, .int o1.2.2.2]))]) (ws2 := [(q_t, .inr (1, [.ref q_t_draft, .int o1.1, .int t_length, .ref q_t_text, .int o1.2.1, .int o1.2.2.1, .int o1.2.2.2])), (q_t_text, zB E 150 t_text), (q_t_draft, .inr (0, [.int t_draft_pressure, .int t_draft_day, .int t_draft_wells, .int t_draft_lefts, .int t_draft_notes, .int t_draft_undos, .ref q_t_draft_kind, .ref q_t_draft_wanted, .ref q_t_draft_hours, .ref q_t_draft_had, .ref q_t_draft_due, .ref q_t_draft_leftHour, .ref q_t_draft_leftPressure, .ref q_t_draft_note, .ref q_t_draft_past, .ref q_t_draft_ahead, .ref q_t_draft_gets, .int t_draft_leftOver]))]) (As := [.int (0 : Int32), .int (60 : Int32)]) (st2 := [.int o3]) C [0] [1, 2] [2, 0, 1] rfl rfl rfl rfl (by decide) rfl rfl (c_X2_isNumber F ho4) (goodVT consT W_334 W_336 W_7 W_61 W_337) rfl rfl rfl hd_X2_isNumber ⟨Nat.le_of_ble_eq_true rfl, Nat.le_of_ble_eq_true rfl⟩ rfl rfl rfl (j := 0) rfl rfl rfl (Nat.le_of_ble_eq_true rfl) dX2_mainItem_18 ⟨Nat.zero_le _, Nat.zero_le _⟩ ?_
    refine z_if_ne (tgt := 26) C dX2_mainItem_21 (by decide) (fun c => ?_) (fun c => ?_)
    · replace h := (if_neg c).symm.trans h
      refine z_aload_n C dX2_mainItem_26 rfl 0 rfl ?_
      refine z_get C inT_X2 0 rfl rfl 0 (by decide) rfl (mc W_200) rfl dX2_mainItem_27 ?_
      refine z_aload_n C dX2_mainItem_30 rfl 0 rfl ?_
      refine z_get C inT_X2 0 rfl rfl 6 (by decide) rfl (mc W_209) rfl dX2_mainItem_31 ?_
      refine z_put (ws' := [(q_t, .inr (1, [.ref q_t_draft, .int o1.1, .int t_length, .ref q_t_text, .int o1.2.1, .int o1.2.2.1, .int o1.2.2.2])), (q_t_text, zB E 150 t_text), (q_t_draft, .inr (0, [.int o1.2.2.2, .int t_draft_day, .int t_draft_wells, .int t_draft_lefts, .int t_draft_notes, .int t_draft_undos, .ref q_t_draft_kind, .ref q_t_draft_wanted, .ref q_t_draft_hours, .ref q_t_draft_had, .ref q_t_draft_due, .ref q_t_draft_leftHour, .ref q_t_draft_leftPressure, .ref q_t_draft_note, .ref q_t_draft_past, .ref q_t_draft_ahead, .ref q_t_draft_gets, .int t_draft_leftOver]))]) C inT_X1 tyX1 tyX1_ok nmX1 2 rfl rfl 0 (by decide) rfl (mc W_82) rfl rfl rfl (Nat.le_of_ble_eq_true rfl) rfl dX2_mainItem_34 ?_
      refine z_aload_n C dX2_mainItem_37 rfl 0 rfl ?_
      obtain ⟨o5, ho6, h⟩ := bnd_some h
      refine z_callV (wc := [(q_t, .inr (1, [.ref q_t_draft, .int o1.1, .int t_length, .ref q_t_text, .int o1.2.1, .int o1.2.2.1, .int o1.2.2.2])), (q_t_text, zB E 150 t_text)]) (wr := [(q_t_draft, .inr (0, [.int o1.2.2.2, .int t_draft_day, .int t_draft_wells, .int t_draft_lefts, .int t_draft_notes, .int t_draft_undos, .ref q_t_draft_kind, .ref q_t_draft_wanted, .ref q_t_draft_hours, .ref q_t_draft_had, .ref q_t_draft_due, .ref q_t_draft_leftHour, .ref q_t_draft_leftPressure, .ref q_t_draft_note, .ref q_t_draft_past, .ref q_t_draft_ahead, .ref q_t_draft_gets, .int t_draft_leftOver]))]) (wc' := [(q_t, .inr (1, [.ref q_t_draft, .int o5.1, .int t_length, .ref q_t_text, .int o5.2.1, .int o5.2.2.1, .int o5.2.2.2])), (q_t_text, zB E 150 t_text)]) (ws2 := [(q_t, .inr (1, [.ref q_t_draft, .int o5.1, .int t_length, .ref q_t_text, .int o5.2.1, .int o5.2.2.1, .int o5.2.2.2])), (q_t_text, zB E 150 t_text), (q_t_draft, .inr (0, [.int o1.2.2.2, .int t_draft_day, .int t_draft_wells, .int t_draft_lefts, .int t_draft_notes, .int t_draft_undos, .ref q_t_draft_kind, .ref q_t_draft_wanted, .ref q_t_draft_hours, .ref q_t_draft_had, .ref q_t_draft_due, .ref q_t_draft_leftHour, .ref q_t_draft_leftPressure, .ref q_t_draft_note, .ref q_t_draft_past, .ref q_t_draft_ahead, .ref q_t_draft_gets, .int t_draft_leftOver]))]) (As := []) (st2 := []) C [0, 1] [2] [1, 2, 0] rfl rfl rfl rfl (by decide) rfl rfl (c_X2_step F ho6) (goodVT consT W_308 W_310 W_2 W_61 W_311) rfl rfl rfl hd_X2_step ⟨Nat.le_of_ble_eq_true rfl, Nat.le_of_ble_eq_true rfl⟩ rfl rfl rfl (j := 0) rfl rfl rfl (Nat.le_of_ble_eq_true rfl) dX2_mainItem_38 ⟨Nat.zero_le _, Nat.zero_le _⟩ ?_
      refine z_aload_n C dX2_mainItem_41 rfl 0 rfl ?_
      obtain ⟨o7, ho8, h⟩ := bnd_some h
      refine z_callV (wc := [(q_t, .inr (1, [.ref q_t_draft, .int o5.1, .int t_length, .ref q_t_text, .int o5.2.1, .int o5.2.2.1, .int o5.2.2.2])), (q_t_text, zB E 150 t_text)]) (wr := [(q_t_draft, .inr (0, [.int o1.2.2.2, .int t_draft_day, .int t_draft_wells, .int t_draft_lefts, .int t_draft_notes, .int t_draft_undos, .ref q_t_draft_kind, .ref q_t_draft_wanted, .ref q_t_draft_hours, .ref q_t_draft_had, .ref q_t_draft_due, .ref q_t_draft_leftHour, .ref q_t_draft_leftPressure, .ref q_t_draft_note, .ref q_t_draft_past, .ref q_t_draft_ahead, .ref q_t_draft_gets, .int t_draft_leftOver]))]) (wc' := [(q_t, .inr (1, [.ref q_t_draft, .int o7.2.1, .int t_length, .ref q_t_text, .int o7.2.2.1, .int o7.2.2.2.1, .int o7.2.2.2.2])), (q_t_text, zB E 150 t_text)]) (ws2 := [(q_t, .inr (1, [.ref q_t_draft, .int o7.2.1, .int t_length, .ref q_t_text, .int o7.2.2.1, .int o7.2.2.2.1, .int o7.2.2.2.2])), (q_t_text, zB E 150 t_text), (q_t_draft, .inr (0, [.int o1.2.2.2, .int t_draft_day, .int t_draft_wells, .int t_draft_lefts, .int t_draft_notes, .int t_draft_undos, .ref q_t_draft_kind, .ref q_t_draft_wanted, .ref q_t_draft_hours, .ref q_t_draft_had, .ref q_t_draft_due, .ref q_t_draft_leftHour, .ref q_t_draft_leftPressure, .ref q_t_draft_note, .ref q_t_draft_past, .ref q_t_draft_ahead, .ref q_t_draft_gets, .int t_draft_leftOver]))]) (As := []) (st2 := [.int o7.1]) C [0, 1] [2] [1, 2, 0] rfl rfl rfl rfl (by decide) rfl rfl (c_X2_semicolon F ho8) (goodVT consT W_338 W_340 W_8 W_61 W_341) rfl rfl rfl hd_X2_semicolon ⟨Nat.le_of_ble_eq_true rfl, Nat.le_of_ble_eq_true rfl⟩ rfl rfl rfl (j := 0) rfl rfl rfl (Nat.le_of_ble_eq_true rfl) dX2_mainItem_42 ⟨Nat.zero_le _, Nat.zero_le _⟩ ?_
      obtain ⟨c9, h⟩ := chk_some h
      obtain rfl := Option.some.inj h
      exact z_zret (v := o7.1) C hr (bo_n c9) dX2_mainItem_45
    · replace h := (if_pos c).symm.trans h
      refine z_iconst (v := (0 : Int32)) C dX2_mainItem_24 (by decide) ?_
      obtain rfl := Option.some.inj h
      exact z_zret (v := (0 : Int32)) C hr rfl dX2_mainItem_25
  · replace h := (if_neg c).symm.trans h
    refine z_iconst (v := (0 : Int32)) C dX2_mainItem_8 (by decide) ?_
    obtain rfl := Option.some.inj h
    exact z_zret (v := (0 : Int32)) C hr rfl dX2_mainItem_9
def rm_X2_dayItem : Room := { frames := 4, cells := 0, slots := 0, locals := 93 }
theorem hd_X2_dayItem : yX2_dayItem.cls = yX2_dayItem.cls ∧ yX2_dayItem.cls ≠ "java/lang/invoke/MethodHandle" ∧ yX2_dayItem.cls ≠ "java/lang/invoke/VarHandle" ∧ (parseMethodDescriptor yX2_dayItem.desc).map (fun d => d.parameters.length) = some 0 := by decide +kernel
abbrev wsX2_dayItem : List Cond := .code yX2_dayItem cX2_dayItem 1 (some .boolean) :: WALL
set_option maxRecDepth 100000 in
set_option maxHeartbeats 4000000 in
theorem c_X2_dayItem {l : Launch} {E : zE} {q_t q_t_text q_t_draft q_t_draft_hours q_t_draft_ahead q_t_draft_kind q_t_draft_wanted q_t_draft_gets q_t_draft_had q_t_draft_due q_t_draft_leftHour q_t_draft_leftPressure q_t_draft_note q_t_draft_past : Nat} {t_draft_lefts : Int32} {t_draft_notes : Int32} {t_draft_undos : Int32} {t_length : Int32} {t_text : Nat → Int32} {t_draft_pressure : Int32} {t_draft_wells : Int32} {t_draft_hours : Nat → Int32} {t_draft_kind : Nat → Int32} {t_draft_wanted : Nat → Int32} {t_start : Int32} {t_next : Int32} {t_token : Int32} {t_value : Int32} {t_draft_day : Int32} {t_draft_leftOver : Int32} {t_draft_ahead : Nat → Int32} {t_draft_gets : Nat → Int32} {t_draft_had : Nat → Int32} {t_draft_due : Nat → Int32} {o : Int32 × Int32 × Int32 × Int32 × Int32 × Int32 × Int32 × (Nat → Int32) × (Nat → Int32) × (Nat → Int32) × (Nat → Int32)} (F : Nat) (h : f_X2_dayItem F t_length t_text t_draft_pressure t_draft_wells t_draft_hours t_draft_kind t_draft_wanted t_start t_next t_token t_value t_draft_day t_draft_leftOver t_draft_ahead t_draft_gets t_draft_had t_draft_due = some o) : zM l yX2_dayItem wsX2_dayItem rm_X2_dayItem E [.ref q_t] [(q_t, .inr (1, [.ref q_t_draft, .int t_start, .int t_length, .ref q_t_text, .int t_next, .int t_token, .int t_value])), (q_t_text, zB E 150 t_text), (q_t_draft, .inr (0, [.int t_draft_pressure, .int t_draft_day, .int t_draft_wells, .int t_draft_lefts, .int t_draft_notes, .int t_draft_undos, .ref q_t_draft_kind, .ref q_t_draft_wanted, .ref q_t_draft_hours, .ref q_t_draft_had, .ref q_t_draft_due, .ref q_t_draft_leftHour, .ref q_t_draft_leftPressure, .ref q_t_draft_note, .ref q_t_draft_past, .ref q_t_draft_ahead, .ref q_t_draft_gets, .int t_draft_leftOver])), (q_t_draft_hours, zI E 5 t_draft_hours), (q_t_draft_ahead, zI E 5 t_draft_ahead), (q_t_draft_kind, zI E 5 t_draft_kind), (q_t_draft_wanted, zI E 5 t_draft_wanted), (q_t_draft_gets, zI E 5 t_draft_gets), (q_t_draft_had, zI E 5 t_draft_had), (q_t_draft_due, zI E 5 t_draft_due)] (some (.int o.1)) [(q_t, .inr (1, [.ref q_t_draft, .int o.2.1, .int t_length, .ref q_t_text, .int o.2.2.1, .int o.2.2.2.1, .int o.2.2.2.2.1])), (q_t_text, zB E 150 t_text), (q_t_draft, .inr (0, [.int t_draft_pressure, .int o.2.2.2.2.2.1, .int t_draft_wells, .int t_draft_lefts, .int t_draft_notes, .int t_draft_undos, .ref q_t_draft_kind, .ref q_t_draft_wanted, .ref q_t_draft_hours, .ref q_t_draft_had, .ref q_t_draft_due, .ref q_t_draft_leftHour, .ref q_t_draft_leftPressure, .ref q_t_draft_note, .ref q_t_draft_past, .ref q_t_draft_ahead, .ref q_t_draft_gets, .int o.2.2.2.2.2.2.1])), (q_t_draft_hours, zI E 5 t_draft_hours), (q_t_draft_ahead, zI E 5 o.2.2.2.2.2.2.2.1), (q_t_draft_kind, zI E 5 t_draft_kind), (q_t_draft_wanted, zI E 5 t_draft_wanted), (q_t_draft_gets, zI E 5 o.2.2.2.2.2.2.2.2.1), (q_t_draft_had, zI E 5 o.2.2.2.2.2.2.2.2.2.1), (q_t_draft_due, zI E 5 o.2.2.2.2.2.2.2.2.2.2)] := by
  refine zM.of (cc := cX2_dayItem) (maxL := 1) (ret := (some .boolean)) (by decide +kernel) rfl (Nat.le_of_ble_eq_true rfl) ?_
  intro p e s m args below meth c A C hr
  have C : zC p s m args c meth cX2_dayItem 1 RX2 wsX2_dayItem E A := C
  rw [f_X2_dayItem] at h
  refine z_aload_n C dX2_dayItem_0 rfl 0 rfl ?_
  refine z_get C inT_X2 0 rfl rfl 5 (by decide) rfl (mc W_208) rfl dX2_dayItem_1 ?_
  refine z_bipush (v := (6 : Int32)) C dX2_dayItem_4 (by decide) ?_
  refine z_icmp_eq (tgt := 11) C dX2_dayItem_6 (by decide) (fun c => ?_) (fun c => ?_)
  · replace h := (if_pos c).symm.trans h
    refine z_aload_n C dX2_dayItem_11 rfl 0 rfl ?_
    obtain ⟨o1, ho2, h⟩ := bnd_some h
    refine z_callV (wc := [(q_t, .inr (1, [.ref q_t_draft, .int t_start, .int t_length, .ref q_t_text, .int t_next, .int t_token, .int t_value])), (q_t_text, zB E 150 t_text)]) (wr := [(q_t_draft, .inr (0, [.int t_draft_pressure, .int t_draft_day, .int t_draft_wells, .int t_draft_lefts, .int t_draft_notes, .int t_draft_undos, .ref q_t_draft_kind, .ref q_t_draft_wanted, .ref q_t_draft_hours, .ref q_t_draft_had, .ref q_t_draft_due, .ref q_t_draft_leftHour, .ref q_t_draft_leftPressure, .ref q_t_draft_note, .ref q_t_draft_past, .ref q_t_draft_ahead, .ref q_t_draft_gets, .int t_draft_leftOver])), (q_t_draft_hours, zI E 5 t_draft_hours), (q_t_draft_ahead, zI E 5 t_draft_ahead), (q_t_draft_kind, zI E 5 t_draft_kind), (q_t_draft_wanted, zI E 5 t_draft_wanted), (q_t_draft_gets, zI E 5 t_draft_gets), (q_t_draft_had, zI E 5 t_draft_had), (q_t_draft_due, zI E 5 t_draft_due)]) (wc' := [(q_t, .inr (1, [.ref q_t_draft, .int o1.1, .int t_length, .ref q_t_text, .int o1.2.1, .int o1.2.2.1, .int o1.2.2.2])), (q_t_text, zB E 150 t_text)]) (ws2 := [(q_t, .inr (1, [.ref q_t_draft, .int o1.1, .int t_length, .ref q_t_text, .int o1.2.1, .int o1.2.2.1, .int o1.2.2.2])), (q_t_text, zB E 150 t_text), (q_t_draft, .inr (0, [.int t_draft_pressure, .int t_draft_day, .int t_draft_wells, .int t_draft_lefts, .int t_draft_notes, .int t_draft_undos, .ref q_t_draft_kind, .ref q_t_draft_wanted, .ref q_t_draft_hours, .ref q_t_draft_had, .ref q_t_draft_due, .ref q_t_draft_leftHour, .ref q_t_draft_leftPressure, .ref q_t_draft_note, .ref q_t_draft_past, .ref q_t_draft_ahead, .ref q_t_draft_gets, .int t_draft_leftOver])), (q_t_draft_hours, zI E 5 t_draft_hours), (q_t_draft_ahead, zI E 5 t_draft_ahead), (q_t_draft_kind, zI E 5 t_draft_kind), (q_t_draft_wanted, zI E 5 t_draft_wanted), (q_t_draft_gets, zI E 5 t_draft_gets), (q_t_draft_had, zI E 5 t_draft_had), (q_t_draft_due, zI E 5 t_draft_due)]) (As := []) (st2 := []) C [0, 1] [2, 3, 4, 5, 6, 7, 8, 9] [8, 9, 0, 1, 2, 3, 4, 5, 6, 7] rfl rfl rfl rfl (by decide) rfl rfl (c_X2_step F ho2) (goodVT consT W_308 W_310 W_2 W_61 W_311) rfl rfl rfl hd_X2_step ⟨Nat.le_of_ble_eq_true rfl, Nat.le_of_ble_eq_true rfl⟩ rfl rfl rfl (j := 0) rfl rfl rfl (Nat.le_of_ble_eq_true rfl) dX2_dayItem_12 ⟨Nat.zero_le _, Nat.zero_le _⟩ ?_
    refine z_aload_n C dX2_dayItem_15 rfl 0 rfl ?_
    obtain ⟨o3, ho4, h⟩ := bnd_some h
    refine z_callV (wc := [(q_t, .inr (1, [.ref q_t_draft, .int o1.1, .int t_length, .ref q_t_text, .int o1.2.1, .int o1.2.2.1, .int o1.2.2.2])), (q_t_text, zB E 150 t_text)]) (wr := [(q_t_draft, .inr (0, [.int t_draft_pressure, .int t_draft_day, .int t_draft_wells, .int t_draft_lefts, .int t_draft_notes, .int t_draft_undos, .ref q_t_draft_kind, .ref q_t_draft_wanted, .ref q_t_draft_hours, .ref q_t_draft_had, .ref q_t_draft_due, .ref q_t_draft_leftHour, .ref q_t_draft_leftPressure, .ref q_t_draft_note, .ref q_t_draft_past, .ref q_t_draft_ahead, .ref q_t_draft_gets, .int t_draft_leftOver])), (q_t_draft_hours, zI E 5 t_draft_hours), (q_t_draft_ahead, zI E 5 t_draft_ahead), (q_t_draft_kind, zI E 5 t_draft_kind), (q_t_draft_wanted, zI E 5 t_draft_wanted), (q_t_draft_gets, zI E 5 t_draft_gets), (q_t_draft_had, zI E 5 t_draft_had), (q_t_draft_due, zI E 5 t_draft_due)]) (wc' := [(q_t, .inr (1, [.ref q_t_draft, .int o3.2.1, .int t_length, .ref q_t_text, .int o3.2.2.1, .int o3.2.2.2.1, .int o3.2.2.2.2])), (q_t_text, zB E 150 t_text)]) (ws2 := [(q_t, .inr (1, [.ref q_t_draft, .int o3.2.1, .int t_length, .ref q_t_text, .int o3.2.2.1, .int o3.2.2.2.1, .int o3.2.2.2.2])), (q_t_text, zB E 150 t_text), (q_t_draft, .inr (0, [.int t_draft_pressure, .int t_draft_day, .int t_draft_wells, .int t_draft_lefts, .int t_draft_notes, .int t_draft_undos, .ref q_t_draft_kind, .ref q_t_draft_wanted, .ref q_t_draft_hours, .ref q_t_draft_had, .ref q_t_draft_due, .ref q_t_draft_leftHour, .ref q_t_draft_leftPressure, .ref q_t_draft_note, .ref q_t_draft_past, .ref q_t_draft_ahead, .ref q_t_draft_gets, .int t_draft_leftOver])), (q_t_draft_hours, zI E 5 t_draft_hours), (q_t_draft_ahead, zI E 5 t_draft_ahead), (q_t_draft_kind, zI E 5 t_draft_kind), (q_t_draft_wanted, zI E 5 t_draft_wanted), (q_t_draft_gets, zI E 5 t_draft_gets), (q_t_draft_had, zI E 5 t_draft_had), (q_t_draft_due, zI E 5 t_draft_due)]) (As := []) (st2 := [.int o3.1]) C [0, 1] [2, 3, 4, 5, 6, 7, 8, 9] [8, 9, 0, 1, 2, 3, 4, 5, 6, 7] rfl rfl rfl rfl (by decide) rfl rfl (c_X2_semicolon F ho4) (goodVT consT W_338 W_340 W_8 W_61 W_341) rfl rfl rfl hd_X2_semicolon ⟨Nat.le_of_ble_eq_true rfl, Nat.le_of_ble_eq_true rfl⟩ rfl rfl rfl (j := 0) rfl rfl rfl (Nat.le_of_ble_eq_true rfl) dX2_dayItem_16 ⟨Nat.zero_le _, Nat.zero_le _⟩ ?_
    refine z_if_ne (tgt := 24) C dX2_dayItem_19 (by decide) (fun c => ?_) (fun c => ?_)
    · replace h := (if_neg c).symm.trans h
      refine z_aload_n C dX2_dayItem_24 rfl 0 rfl ?_
      refine z_get C inT_X2 0 rfl rfl 0 (by decide) rfl (mc W_200) rfl dX2_dayItem_25 ?_
      obtain ⟨o5, ho6, h⟩ := bnd_some h
      refine z_callV (wc := [(q_t_draft, .inr (0, [.int t_draft_pressure, .int t_draft_day, .int t_draft_wells, .int t_draft_lefts, .int t_draft_notes, .int t_draft_undos, .ref q_t_draft_kind, .ref q_t_draft_wanted, .ref q_t_draft_hours, .ref q_t_draft_had, .ref q_t_draft_due, .ref q_t_draft_leftHour, .ref q_t_draft_leftPressure, .ref q_t_draft_note, .ref q_t_draft_past, .ref q_t_draft_ahead, .ref q_t_draft_gets, .int t_draft_leftOver])), (q_t_draft_hours, zI E 5 t_draft_hours), (q_t_draft_ahead, zI E 5 t_draft_ahead), (q_t_draft_kind, zI E 5 t_draft_kind), (q_t_draft_wanted, zI E 5 t_draft_wanted), (q_t_draft_gets, zI E 5 t_draft_gets), (q_t_draft_had, zI E 5 t_draft_had), (q_t_draft_due, zI E 5 t_draft_due)]) (wr := [(q_t, .inr (1, [.ref q_t_draft, .int o3.2.1, .int t_length, .ref q_t_text, .int o3.2.2.1, .int o3.2.2.2.1, .int o3.2.2.2.2])), (q_t_text, zB E 150 t_text)]) (wc' := [(q_t_draft, .inr (0, [.int t_draft_pressure, .int o5.2.1, .int t_draft_wells, .int t_draft_lefts, .int t_draft_notes, .int t_draft_undos, .ref q_t_draft_kind, .ref q_t_draft_wanted, .ref q_t_draft_hours, .ref q_t_draft_had, .ref q_t_draft_due, .ref q_t_draft_leftHour, .ref q_t_draft_leftPressure, .ref q_t_draft_note, .ref q_t_draft_past, .ref q_t_draft_ahead, .ref q_t_draft_gets, .int o5.2.2.1])), (q_t_draft_hours, zI E 5 t_draft_hours), (q_t_draft_ahead, zI E 5 o5.2.2.2.1), (q_t_draft_kind, zI E 5 t_draft_kind), (q_t_draft_wanted, zI E 5 t_draft_wanted), (q_t_draft_gets, zI E 5 o5.2.2.2.2.1), (q_t_draft_had, zI E 5 o5.2.2.2.2.2.1), (q_t_draft_due, zI E 5 o5.2.2.2.2.2.2)]) (ws2 := [(q_t, .inr (1, [.ref q_t_draft, .int o3.2.1, .int t_length, .ref q_t_text, .int o3.2.2.1, .int o3.2.2.2.1, .int o3.2.2.2.2])), (q_t_text, zB E 150 t_text), (q_t_draft, .inr (0, [.int t_draft_pressure, .int o5.2.1, .int t_draft_wells, .int t_draft_lefts, .int t_draft_notes, .int t_draft_undos, .ref q_t_draft_kind, .ref q_t_draft_wanted, .ref q_t_draft_hours, .ref q_t_draft_had, .ref q_t_draft_due, .ref q_t_draft_leftHour, .ref q_t_draft_leftPressure, .ref q_t_draft_note, .ref q_t_draft_past, .ref q_t_draft_ahead, .ref q_t_draft_gets, .int o5.2.2.1])), (q_t_draft_hours, zI E 5 t_draft_hours), (q_t_draft_ahead, zI E 5 o5.2.2.2.1), (q_t_draft_kind, zI E 5 t_draft_kind), (q_t_draft_wanted, zI E 5 t_draft_wanted), (q_t_draft_gets, zI E 5 o5.2.2.2.2.1), (q_t_draft_had, zI E 5 o5.2.2.2.2.2.1), (q_t_draft_due, zI E 5 o5.2.2.2.2.2.2)]) (As := []) (st2 := [.int o5.1]) C [2, 3, 4, 5, 6, 7, 8, 9] [0, 1] [0, 1, 2, 3, 4, 5, 6, 7, 8, 9] rfl rfl rfl rfl (by decide) rfl rfl (c_X1_passDay F ho6) (goodVT consT W_359 W_360 W_361 W_59 W_362) rfl rfl rfl hd_X1_passDay ⟨Nat.le_of_ble_eq_true rfl, Nat.le_of_ble_eq_true rfl⟩ rfl rfl rfl (j := 0) rfl rfl rfl (Nat.le_of_ble_eq_true rfl) dX2_dayItem_28 ⟨Nat.zero_le _, Nat.zero_le _⟩ ?_
      refine z_pop C dX2_dayItem_31 rfl ?_
      refine z_iconst (v := (1 : Int32)) C dX2_dayItem_32 (by decide) ?_
      obtain rfl := Option.some.inj h
      exact z_zret (v := (1 : Int32)) C hr rfl dX2_dayItem_33
    · replace h := (if_pos c).symm.trans h
      refine z_iconst (v := (0 : Int32)) C dX2_dayItem_22 (by decide) ?_
      obtain rfl := Option.some.inj h
      exact z_zret (v := (0 : Int32)) C hr rfl dX2_dayItem_23
  · replace h := (if_neg c).symm.trans h
    refine z_iconst (v := (0 : Int32)) C dX2_dayItem_9 (by decide) ?_
    obtain rfl := Option.some.inj h
    exact z_zret (v := (0 : Int32)) C hr rfl dX2_dayItem_10
def rm_X2_readHours : Room := { frames := 3, cells := 0, slots := 0, locals := 61 }
theorem hd_X2_readHours : yX2_readHours.cls = yX2_readHours.cls ∧ yX2_readHours.cls ≠ "java/lang/invoke/MethodHandle" ∧ yX2_readHours.cls ≠ "java/lang/invoke/VarHandle" ∧ (parseMethodDescriptor yX2_readHours.desc).map (fun d => d.parameters.length) = some 0 := by decide +kernel
abbrev wsX2_readHours : List Cond := .code yX2_readHours cX2_readHours 3 (some .int) :: WALL
set_option maxRecDepth 100000 in
set_option maxHeartbeats 4000000 in
theorem l_X2_readHours_b4 {p : Program} {l : Launch} {e : Env} {s : State} {m : MethodId} {args : Array Value} {below : List Frame} {meth : Method} {c : Code} {E : zE} {A : Nat → Prop} {q_t q_t_text q_t_draft : Nat} {o : Int32 × Int32 × Int32 × Int32 × Int32} (F : Nat) (t_length : Int32) (t_text : Nat → Int32) (C : zC p s m args c meth cX2_readHours 3 RX2 wsX2_readHours E A) (hr : meth.sig.returnType = some .int) : ∀ (n : Nat) (v1 : Int32) (v2 : Int32) (t_start : Int32) (t_next : Int32) (t_token : Int32) (t_value : Int32), f_X2_readHours_b4 F t_length t_text n v1 v2 t_start t_next t_token t_value = some o → zG p l e rm_X2_readHours s m args below meth c 3 E A 0 0 (MQ below (zQ E A (some (.int o.1)) [(q_t, .inr (1, [.ref q_t_draft, .int o.2.1, .int t_length, .ref q_t_text, .int o.2.2.1, .int o.2.2.2.1, .int o.2.2.2.2])), (q_t_text, zB E 150 t_text)]) args s 0 0 A) [(q_t, .inr (1, [.ref q_t_draft, .int t_start, .int t_length, .ref q_t_text, .int t_next, .int t_token, .int t_value])), (q_t_text, zB E 150 t_text)] 4 [(0, .ref q_t), (1, .int v1), (2, .int v2)] [] := by
  intro n
  induction n with
  | zero =>
    intro v1 v2 t_start t_next t_token t_value h
    rw [f_X2_readHours_b4] at h
    cases h
  | succ n ih =>
    intro v1 v2 t_start t_next t_token t_value h
    rw [f_X2_readHours_b4] at h
    refine z_iload_n C dX2_readHours_4 rfl 2 rfl ?_
    refine z_aload_n C dX2_readHours_5 rfl 0 rfl ?_
    refine z_get C inT_X2 0 rfl rfl 2 (by decide) rfl (mc W_204) rfl dX2_readHours_6 ?_
    refine z_icmp_ge (tgt := 41) C dX2_readHours_9 (by decide) (fun c => ?_) (fun c => ?_)
    · replace h := (if_pos c).symm.trans h
      refine z_iload_n C dX2_readHours_41 rfl 1 rfl ?_
      obtain rfl := Option.some.inj h
      exact z_iret (v := v1) C hr dX2_readHours_42
    · replace h := (if_neg c).symm.trans h
      refine z_aload_n C dX2_readHours_12 rfl 0 rfl ?_
      refine z_iconst (v := (0 : Int32)) C dX2_readHours_13 (by decide) ?_
      refine z_bipush (v := (7 : Int32)) C dX2_readHours_14 (by decide) ?_
      obtain ⟨o1, ho2, h⟩ := bnd_some h
      refine z_callV (wc := [(q_t, .inr (1, [.ref q_t_draft, .int t_start, .int t_length, .ref q_t_text, .int t_next, .int t_token, .int t_value]))]) (wr := [(q_t_text, zB E 150 t_text)]) (wc' := [(q_t, .inr (1, [.ref q_t_draft, .int t_start, .int t_length, .ref q_t_text, .int t_next, .int t_token, .int t_value]))]) (ws2 := [(q_t, .inr (1, [.ref q_t_draft, .int t_start, .int t_length, .ref q_t_text, .int t_next, .int t_token, .int t_value])), (q_t_text, zB E 150 t_text)]) (As := [.int (0 : Int32), .int (7 : Int32)]) (st2 := [.int o1]) C [0] [1] [1, 0] rfl rfl rfl rfl (by decide) rfl rfl (c_X2_isNumber F ho2) (goodVT consT W_334 W_336 W_7 W_61 W_337) rfl rfl rfl hd_X2_isNumber ⟨Nat.le_of_ble_eq_true rfl, Nat.le_of_ble_eq_true rfl⟩ rfl rfl rfl (j := 0) rfl rfl rfl (Nat.le_of_ble_eq_true rfl) dX2_readHours_16 ⟨Nat.zero_le _, Nat.zero_le _⟩ ?_
      refine z_if_eq (tgt := 41) C dX2_readHours_19 (by decide) (fun c => ?_) (fun c => ?_)
      · replace h := (if_pos c).symm.trans h
        refine z_iload_n C dX2_readHours_41 rfl 1 rfl ?_
        obtain rfl := Option.some.inj h
        exact z_iret (v := v1) C hr dX2_readHours_42
      · replace h := (if_neg c).symm.trans h
        refine z_iload_n C dX2_readHours_22 rfl 1 rfl ?_
        refine z_iconst (v := (1 : Int32)) C dX2_readHours_23 (by decide) ?_
        refine z_aload_n C dX2_readHours_24 rfl 0 rfl ?_
        refine z_get C inT_X2 0 rfl rfl 6 (by decide) rfl (mc W_209) rfl dX2_readHours_25 ?_
        refine z_ishl C dX2_readHours_28 ?_
        refine z_ior C dX2_readHours_29 ?_
        refine z_istore_n (L' := [(1, .int (v1 ||| ((1 : Int32) <<< (t_value &&& 31)))), (0, .ref q_t), (2, .int v2)]) C dX2_readHours_30 rfl (by decide) rfl ?_
        refine z_aload_n C dX2_readHours_31 rfl 1 rfl ?_
        obtain ⟨o3, ho4, h⟩ := bnd_some h
        refine z_callV (wc := [(q_t, .inr (1, [.ref q_t_draft, .int t_start, .int t_length, .ref q_t_text, .int t_next, .int t_token, .int t_value])), (q_t_text, zB E 150 t_text)]) (wr := []) (wc' := [(q_t, .inr (1, [.ref q_t_draft, .int o3.1, .int t_length, .ref q_t_text, .int o3.2.1, .int o3.2.2.1, .int o3.2.2.2])), (q_t_text, zB E 150 t_text)]) (ws2 := [(q_t, .inr (1, [.ref q_t_draft, .int o3.1, .int t_length, .ref q_t_text, .int o3.2.1, .int o3.2.2.1, .int o3.2.2.2])), (q_t_text, zB E 150 t_text)]) (As := []) (st2 := []) C [0, 1] [] [0, 1] rfl rfl rfl rfl (by decide) rfl rfl (c_X2_step F ho4) (goodVT consT W_308 W_310 W_2 W_61 W_311) rfl rfl rfl hd_X2_step ⟨Nat.le_of_ble_eq_true rfl, Nat.le_of_ble_eq_true rfl⟩ rfl rfl rfl (j := 0) rfl rfl rfl (Nat.le_of_ble_eq_true rfl) dX2_readHours_32 ⟨Nat.zero_le _, Nat.zero_le _⟩ ?_
        refine z_iinc (v := v2 + (1 : Int32)) (L' := [(2, .int (v2 + (1 : Int32))), (1, .int (v1 ||| ((1 : Int32) <<< (t_value &&& 31)))), (0, .ref q_t)]) C dX2_readHours_35 2 rfl rfl (by decide) rfl ?_
        refine z_goto (tgt := 4) C dX2_readHours_38 (by decide) ?_
        refine z_sub [2, 1, 0] (L' := [(0, .ref q_t), (1, .int (v1 ||| ((1 : Int32) <<< (t_value &&& 31)))), (2, .int (v2 + (1 : Int32)))]) rfl ?_
        exact ih (v1 ||| ((1 : Int32) <<< (t_value &&& 31))) (v2 + (1 : Int32)) o3.1 o3.2.1 o3.2.2.1 o3.2.2.2 h
set_option maxRecDepth 100000 in
set_option maxHeartbeats 4000000 in
theorem c_X2_readHours {l : Launch} {E : zE} {q_t q_t_text q_t_draft : Nat} {t_length : Int32} {t_text : Nat → Int32} {t_start : Int32} {t_next : Int32} {t_token : Int32} {t_value : Int32} {o : Int32 × Int32 × Int32 × Int32 × Int32} (F : Nat) (h : f_X2_readHours F t_length t_text t_start t_next t_token t_value = some o) : zM l yX2_readHours wsX2_readHours rm_X2_readHours E [.ref q_t] [(q_t, .inr (1, [.ref q_t_draft, .int t_start, .int t_length, .ref q_t_text, .int t_next, .int t_token, .int t_value])), (q_t_text, zB E 150 t_text)] (some (.int o.1)) [(q_t, .inr (1, [.ref q_t_draft, .int o.2.1, .int t_length, .ref q_t_text, .int o.2.2.1, .int o.2.2.2.1, .int o.2.2.2.2])), (q_t_text, zB E 150 t_text)] := by
  refine zM.of (cc := cX2_readHours) (maxL := 3) (ret := (some .int)) (by decide +kernel) rfl (Nat.le_of_ble_eq_true rfl) ?_
  intro p e s m args below meth c A C hr
  have C : zC p s m args c meth cX2_readHours 3 RX2 wsX2_readHours E A := C
  rw [f_X2_readHours] at h
  refine z_iconst (v := (0 : Int32)) C dX2_readHours_0 (by decide) ?_
  refine z_istore_n (L' := [(1, .int (0 : Int32)), (0, .ref q_t)]) C dX2_readHours_1 rfl (by decide) rfl ?_
  refine z_iconst (v := (0 : Int32)) C dX2_readHours_2 (by decide) ?_
  refine z_istore_n (L' := [(2, .int (0 : Int32)), (1, .int (0 : Int32)), (0, .ref q_t)]) C dX2_readHours_3 rfl (by decide) rfl ?_
  refine z_sub [2, 1, 0] (L' := [(0, .ref q_t), (1, .int (0 : Int32)), (2, .int (0 : Int32))]) rfl ?_
  exact (l_X2_readHours_b4 F t_length t_text C hr F) (0 : Int32) (0 : Int32) t_start t_next t_token t_value h
def rm_X2_turnItem : Room := { frames := 4, cells := 0, slots := 0, locals := 83 }
theorem hd_X2_turnItem : yX2_turnItem.cls = yX2_turnItem.cls ∧ yX2_turnItem.cls ≠ "java/lang/invoke/MethodHandle" ∧ yX2_turnItem.cls ≠ "java/lang/invoke/VarHandle" ∧ (parseMethodDescriptor yX2_turnItem.desc).map (fun d => d.parameters.length) = some 0 := by decide +kernel
abbrev wsX2_turnItem : List Cond := .code yX2_turnItem cX2_turnItem 3 (some .boolean) :: WALL
set_option maxRecDepth 100000 in
set_option maxHeartbeats 4000000 in
theorem c_X2_turnItem {l : Launch} {E : zE} {q_t q_t_text q_t_draft q_t_draft_hours q_t_draft_kind q_t_draft_wanted q_t_draft_had q_t_draft_due q_t_draft_leftHour q_t_draft_leftPressure q_t_draft_note q_t_draft_past q_t_draft_ahead q_t_draft_gets : Nat} {t_draft_pressure : Int32} {t_draft_day : Int32} {t_draft_lefts : Int32} {t_draft_notes : Int32} {t_draft_undos : Int32} {t_draft_leftOver : Int32} {t_length : Int32} {t_text : Nat → Int32} {t_draft_wells : Int32} {t_start : Int32} {t_next : Int32} {t_token : Int32} {t_value : Int32} {t_draft_hours : Nat → Int32} {o : Int32 × Int32 × Int32 × Int32 × Int32 × (Nat → Int32)} (F : Nat) (h : f_X2_turnItem F t_length t_text t_draft_wells t_start t_next t_token t_value t_draft_hours = some o) : zM l yX2_turnItem wsX2_turnItem rm_X2_turnItem E [.ref q_t] [(q_t, .inr (1, [.ref q_t_draft, .int t_start, .int t_length, .ref q_t_text, .int t_next, .int t_token, .int t_value])), (q_t_text, zB E 150 t_text), (q_t_draft, .inr (0, [.int t_draft_pressure, .int t_draft_day, .int t_draft_wells, .int t_draft_lefts, .int t_draft_notes, .int t_draft_undos, .ref q_t_draft_kind, .ref q_t_draft_wanted, .ref q_t_draft_hours, .ref q_t_draft_had, .ref q_t_draft_due, .ref q_t_draft_leftHour, .ref q_t_draft_leftPressure, .ref q_t_draft_note, .ref q_t_draft_past, .ref q_t_draft_ahead, .ref q_t_draft_gets, .int t_draft_leftOver])), (q_t_draft_hours, zI E 5 t_draft_hours)] (some (.int o.1)) [(q_t, .inr (1, [.ref q_t_draft, .int o.2.1, .int t_length, .ref q_t_text, .int o.2.2.1, .int o.2.2.2.1, .int o.2.2.2.2.1])), (q_t_text, zB E 150 t_text), (q_t_draft, .inr (0, [.int t_draft_pressure, .int t_draft_day, .int t_draft_wells, .int t_draft_lefts, .int t_draft_notes, .int t_draft_undos, .ref q_t_draft_kind, .ref q_t_draft_wanted, .ref q_t_draft_hours, .ref q_t_draft_had, .ref q_t_draft_due, .ref q_t_draft_leftHour, .ref q_t_draft_leftPressure, .ref q_t_draft_note, .ref q_t_draft_past, .ref q_t_draft_ahead, .ref q_t_draft_gets, .int t_draft_leftOver])), (q_t_draft_hours, zI E 5 o.2.2.2.2.2)] := by
  refine zM.of (cc := cX2_turnItem) (maxL := 3) (ret := (some .boolean)) (by decide +kernel) rfl (Nat.le_of_ble_eq_true rfl) ?_
  intro p e s m args below meth c A C hr
  have C : zC p s m args c meth cX2_turnItem 3 RX2 wsX2_turnItem E A := C
  rw [f_X2_turnItem] at h
  refine z_aload_n C dX2_turnItem_0 rfl 0 rfl ?_
  refine z_get C inT_X2 0 rfl rfl 5 (by decide) rfl (mc W_208) rfl dX2_turnItem_1 ?_
  refine z_iconst (v := (5 : Int32)) C dX2_turnItem_4 (by decide) ?_
  refine z_icmp_eq (tgt := 10) C dX2_turnItem_5 (by decide) (fun c => ?_) (fun c => ?_)
  · replace h := (if_pos c).symm.trans h
    refine z_aload_n C dX2_turnItem_10 rfl 0 rfl ?_
    obtain ⟨o1, ho2, h⟩ := bnd_some h
    refine z_callV (wc := [(q_t, .inr (1, [.ref q_t_draft, .int t_start, .int t_length, .ref q_t_text, .int t_next, .int t_token, .int t_value])), (q_t_text, zB E 150 t_text)]) (wr := [(q_t_draft, .inr (0, [.int t_draft_pressure, .int t_draft_day, .int t_draft_wells, .int t_draft_lefts, .int t_draft_notes, .int t_draft_undos, .ref q_t_draft_kind, .ref q_t_draft_wanted, .ref q_t_draft_hours, .ref q_t_draft_had, .ref q_t_draft_due, .ref q_t_draft_leftHour, .ref q_t_draft_leftPressure, .ref q_t_draft_note, .ref q_t_draft_past, .ref q_t_draft_ahead, .ref q_t_draft_gets, .int t_draft_leftOver])), (q_t_draft_hours, zI E 5 t_draft_hours)]) (wc' := [(q_t, .inr (1, [.ref q_t_draft, .int o1.1, .int t_length, .ref q_t_text, .int o1.2.1, .int o1.2.2.1, .int o1.2.2.2])), (q_t_text, zB E 150 t_text)]) (ws2 := [(q_t, .inr (1, [.ref q_t_draft, .int o1.1, .int t_length, .ref q_t_text, .int o1.2.1, .int o1.2.2.1, .int o1.2.2.2])), (q_t_text, zB E 150 t_text), (q_t_draft, .inr (0, [.int t_draft_pressure, .int t_draft_day, .int t_draft_wells, .int t_draft_lefts, .int t_draft_notes, .int t_draft_undos, .ref q_t_draft_kind, .ref q_t_draft_wanted, .ref q_t_draft_hours, .ref q_t_draft_had, .ref q_t_draft_due, .ref q_t_draft_leftHour, .ref q_t_draft_leftPressure, .ref q_t_draft_note, .ref q_t_draft_past, .ref q_t_draft_ahead, .ref q_t_draft_gets, .int t_draft_leftOver])), (q_t_draft_hours, zI E 5 t_draft_hours)]) (As := []) (st2 := []) C [0, 1] [2, 3] [2, 3, 0, 1] rfl rfl rfl rfl (by decide) rfl rfl (c_X2_step F ho2) (goodVT consT W_308 W_310 W_2 W_61 W_311) rfl rfl rfl hd_X2_step ⟨Nat.le_of_ble_eq_true rfl, Nat.le_of_ble_eq_true rfl⟩ rfl rfl rfl (j := 0) rfl rfl rfl (Nat.le_of_ble_eq_true rfl) dX2_turnItem_11 ⟨Nat.zero_le _, Nat.zero_le _⟩ ?_
    refine z_aload_n C dX2_turnItem_14 rfl 0 rfl ?_
    refine z_iconst (v := (0 : Int32)) C dX2_turnItem_15 (by decide) ?_
    refine z_aload_n C dX2_turnItem_16 rfl 0 rfl ?_
    refine z_get C inT_X2 0 rfl rfl 0 (by decide) rfl (mc W_200) rfl dX2_turnItem_17 ?_
    refine z_get C inT_X1 2 rfl rfl 2 (by decide) rfl (mc W_89) rfl dX2_turnItem_20 ?_
    refine z_iconst (v := (1 : Int32)) C dX2_turnItem_23 (by decide) ?_
    refine z_isub C dX2_turnItem_24 ?_
    obtain ⟨o3, ho4, h⟩ := bnd_some h
    refine z_callV (wc := [(q_t, .inr (1, [.ref q_t_draft, .int o1.1, .int t_length, .ref q_t_text, .int o1.2.1, .int o1.2.2.1, .int o1.2.2.2]))]) (wr := [(q_t_text, zB E 150 t_text), (q_t_draft, .inr (0, [.int t_draft_pressure, .int t_draft_day, .int t_draft_wells, .int t_draft_lefts, .int t_draft_notes, .int t_draft_undos, .ref q_t_draft_kind, .ref q_t_draft_wanted, .ref q_t_draft_hours, .ref q_t_draft_had, .ref q_t_draft_due, .ref q_t_draft_leftHour, .ref q_t_draft_leftPressure, .ref q_t_draft_note, .ref q_t_draft_past, .ref q_t_draft_ahead, .ref q_t_draft_gets, .int t_draft_leftOver])), (q_t_draft_hours, zI E 5 t_draft_hours)]) (wc' := [(q_t, .inr (1, [.ref q_t_draft, .int o1.1, .int t_length, .ref q_t_text, .int o1.2.1, .int o1.2.2.1, .int o1.2.2.2]))]) (ws2 := [(q_t, .inr (1, [.ref q_t_draft, .int o1.1, .int t_length, .ref q_t_text, .int o1.2.1, .int o1.2.2.1, .int o1.2.2.2])), (q_t_text, zB E 150 t_text), (q_t_draft, .inr (0, [.int t_draft_pressure, .int t_draft_day, .int t_draft_wells, .int t_draft_lefts, .int t_draft_notes, .int t_draft_undos, .ref q_t_draft_kind, .ref q_t_draft_wanted, .ref q_t_draft_hours, .ref q_t_draft_had, .ref q_t_draft_due, .ref q_t_draft_leftHour, .ref q_t_draft_leftPressure, .ref q_t_draft_note, .ref q_t_draft_past, .ref q_t_draft_ahead, .ref q_t_draft_gets, .int t_draft_leftOver])), (q_t_draft_hours, zI E 5 t_draft_hours)]) (As := [.int (0 : Int32), .int (t_draft_wells - (1 : Int32))]) (st2 := [.int o3]) C [0] [1, 2, 3] [3, 0, 1, 2] rfl rfl rfl rfl (by decide) rfl rfl (c_X2_isNumber F ho4) (goodVT consT W_334 W_336 W_7 W_61 W_337) rfl rfl rfl hd_X2_isNumber ⟨Nat.le_of_ble_eq_true rfl, Nat.le_of_ble_eq_true rfl⟩ rfl rfl rfl (j := 0) rfl rfl rfl (Nat.le_of_ble_eq_true rfl) dX2_turnItem_25 ⟨Nat.zero_le _, Nat.zero_le _⟩ ?_
    refine z_if_ne (tgt := 33) C dX2_turnItem_28 (by decide) (fun c => ?_) (fun c => ?_)
    · replace h := (if_neg c).symm.trans h
      refine z_aload_n C dX2_turnItem_33 rfl 0 rfl ?_
      refine z_get C inT_X2 0 rfl rfl 6 (by decide) rfl (mc W_209) rfl dX2_turnItem_34 ?_
      refine z_istore_n (L' := [(1, .int o1.2.2.2), (0, .ref q_t)]) C dX2_turnItem_37 rfl (by decide) rfl ?_
      refine z_aload_n C dX2_turnItem_38 rfl 1 rfl ?_
      obtain ⟨o5, ho6, h⟩ := bnd_some h
      refine z_callV (wc := [(q_t, .inr (1, [.ref q_t_draft, .int o1.1, .int t_length, .ref q_t_text, .int o1.2.1, .int o1.2.2.1, .int o1.2.2.2])), (q_t_text, zB E 150 t_text)]) (wr := [(q_t_draft, .inr (0, [.int t_draft_pressure, .int t_draft_day, .int t_draft_wells, .int t_draft_lefts, .int t_draft_notes, .int t_draft_undos, .ref q_t_draft_kind, .ref q_t_draft_wanted, .ref q_t_draft_hours, .ref q_t_draft_had, .ref q_t_draft_due, .ref q_t_draft_leftHour, .ref q_t_draft_leftPressure, .ref q_t_draft_note, .ref q_t_draft_past, .ref q_t_draft_ahead, .ref q_t_draft_gets, .int t_draft_leftOver])), (q_t_draft_hours, zI E 5 t_draft_hours)]) (wc' := [(q_t, .inr (1, [.ref q_t_draft, .int o5.1, .int t_length, .ref q_t_text, .int o5.2.1, .int o5.2.2.1, .int o5.2.2.2])), (q_t_text, zB E 150 t_text)]) (ws2 := [(q_t, .inr (1, [.ref q_t_draft, .int o5.1, .int t_length, .ref q_t_text, .int o5.2.1, .int o5.2.2.1, .int o5.2.2.2])), (q_t_text, zB E 150 t_text), (q_t_draft, .inr (0, [.int t_draft_pressure, .int t_draft_day, .int t_draft_wells, .int t_draft_lefts, .int t_draft_notes, .int t_draft_undos, .ref q_t_draft_kind, .ref q_t_draft_wanted, .ref q_t_draft_hours, .ref q_t_draft_had, .ref q_t_draft_due, .ref q_t_draft_leftHour, .ref q_t_draft_leftPressure, .ref q_t_draft_note, .ref q_t_draft_past, .ref q_t_draft_ahead, .ref q_t_draft_gets, .int t_draft_leftOver])), (q_t_draft_hours, zI E 5 t_draft_hours)]) (As := []) (st2 := []) C [0, 1] [2, 3] [2, 3, 0, 1] rfl rfl rfl rfl (by decide) rfl rfl (c_X2_step F ho6) (goodVT consT W_308 W_310 W_2 W_61 W_311) rfl rfl rfl hd_X2_step ⟨Nat.le_of_ble_eq_true rfl, Nat.le_of_ble_eq_true rfl⟩ rfl rfl rfl (j := 0) rfl rfl rfl (Nat.le_of_ble_eq_true rfl) dX2_turnItem_39 ⟨Nat.zero_le _, Nat.zero_le _⟩ ?_
      refine z_aload_n C dX2_turnItem_42 rfl 1 rfl ?_
      obtain ⟨o7, ho8, h⟩ := bnd_some h
      refine z_callV (wc := [(q_t, .inr (1, [.ref q_t_draft, .int o5.1, .int t_length, .ref q_t_text, .int o5.2.1, .int o5.2.2.1, .int o5.2.2.2])), (q_t_text, zB E 150 t_text)]) (wr := [(q_t_draft, .inr (0, [.int t_draft_pressure, .int t_draft_day, .int t_draft_wells, .int t_draft_lefts, .int t_draft_notes, .int t_draft_undos, .ref q_t_draft_kind, .ref q_t_draft_wanted, .ref q_t_draft_hours, .ref q_t_draft_had, .ref q_t_draft_due, .ref q_t_draft_leftHour, .ref q_t_draft_leftPressure, .ref q_t_draft_note, .ref q_t_draft_past, .ref q_t_draft_ahead, .ref q_t_draft_gets, .int t_draft_leftOver])), (q_t_draft_hours, zI E 5 t_draft_hours)]) (wc' := [(q_t, .inr (1, [.ref q_t_draft, .int o7.2.1, .int t_length, .ref q_t_text, .int o7.2.2.1, .int o7.2.2.2.1, .int o7.2.2.2.2])), (q_t_text, zB E 150 t_text)]) (ws2 := [(q_t, .inr (1, [.ref q_t_draft, .int o7.2.1, .int t_length, .ref q_t_text, .int o7.2.2.1, .int o7.2.2.2.1, .int o7.2.2.2.2])), (q_t_text, zB E 150 t_text), (q_t_draft, .inr (0, [.int t_draft_pressure, .int t_draft_day, .int t_draft_wells, .int t_draft_lefts, .int t_draft_notes, .int t_draft_undos, .ref q_t_draft_kind, .ref q_t_draft_wanted, .ref q_t_draft_hours, .ref q_t_draft_had, .ref q_t_draft_due, .ref q_t_draft_leftHour, .ref q_t_draft_leftPressure, .ref q_t_draft_note, .ref q_t_draft_past, .ref q_t_draft_ahead, .ref q_t_draft_gets, .int t_draft_leftOver])), (q_t_draft_hours, zI E 5 t_draft_hours)]) (As := []) (st2 := [.int o7.1]) C [0, 1] [2, 3] [2, 3, 0, 1] rfl rfl rfl rfl (by decide) rfl rfl (c_X2_readHours F ho8) (goodVT consT W_346 W_348 W_10 W_61 W_349) rfl rfl rfl hd_X2_readHours ⟨Nat.le_of_ble_eq_true rfl, Nat.le_of_ble_eq_true rfl⟩ rfl rfl rfl (j := 0) rfl rfl rfl (Nat.le_of_ble_eq_true rfl) dX2_turnItem_43 ⟨Nat.zero_le _, Nat.zero_le _⟩ ?_
      refine z_istore_n (L' := [(2, .int o7.1), (1, .int o1.2.2.2), (0, .ref q_t)]) C dX2_turnItem_46 rfl (by decide) rfl ?_
      refine z_aload_n C dX2_turnItem_47 rfl 2 rfl ?_
      obtain ⟨o9, ho10, h⟩ := bnd_some h
      refine z_callV (wc := [(q_t, .inr (1, [.ref q_t_draft, .int o7.2.1, .int t_length, .ref q_t_text, .int o7.2.2.1, .int o7.2.2.2.1, .int o7.2.2.2.2])), (q_t_text, zB E 150 t_text)]) (wr := [(q_t_draft, .inr (0, [.int t_draft_pressure, .int t_draft_day, .int t_draft_wells, .int t_draft_lefts, .int t_draft_notes, .int t_draft_undos, .ref q_t_draft_kind, .ref q_t_draft_wanted, .ref q_t_draft_hours, .ref q_t_draft_had, .ref q_t_draft_due, .ref q_t_draft_leftHour, .ref q_t_draft_leftPressure, .ref q_t_draft_note, .ref q_t_draft_past, .ref q_t_draft_ahead, .ref q_t_draft_gets, .int t_draft_leftOver])), (q_t_draft_hours, zI E 5 t_draft_hours)]) (wc' := [(q_t, .inr (1, [.ref q_t_draft, .int o9.2.1, .int t_length, .ref q_t_text, .int o9.2.2.1, .int o9.2.2.2.1, .int o9.2.2.2.2])), (q_t_text, zB E 150 t_text)]) (ws2 := [(q_t, .inr (1, [.ref q_t_draft, .int o9.2.1, .int t_length, .ref q_t_text, .int o9.2.2.1, .int o9.2.2.2.1, .int o9.2.2.2.2])), (q_t_text, zB E 150 t_text), (q_t_draft, .inr (0, [.int t_draft_pressure, .int t_draft_day, .int t_draft_wells, .int t_draft_lefts, .int t_draft_notes, .int t_draft_undos, .ref q_t_draft_kind, .ref q_t_draft_wanted, .ref q_t_draft_hours, .ref q_t_draft_had, .ref q_t_draft_due, .ref q_t_draft_leftHour, .ref q_t_draft_leftPressure, .ref q_t_draft_note, .ref q_t_draft_past, .ref q_t_draft_ahead, .ref q_t_draft_gets, .int t_draft_leftOver])), (q_t_draft_hours, zI E 5 t_draft_hours)]) (As := []) (st2 := [.int o9.1]) C [0, 1] [2, 3] [2, 3, 0, 1] rfl rfl rfl rfl (by decide) rfl rfl (c_X2_semicolon F ho10) (goodVT consT W_338 W_340 W_8 W_61 W_341) rfl rfl rfl hd_X2_semicolon ⟨Nat.le_of_ble_eq_true rfl, Nat.le_of_ble_eq_true rfl⟩ rfl rfl rfl (j := 0) rfl rfl rfl (Nat.le_of_ble_eq_true rfl) dX2_turnItem_48 ⟨Nat.zero_le _, Nat.zero_le _⟩ ?_
      refine z_if_ne (tgt := 56) C dX2_turnItem_51 (by decide) (fun c => ?_) (fun c => ?_)
      · replace h := (if_neg c).symm.trans h
        refine z_aload_n C dX2_turnItem_56 rfl 2 rfl ?_
        refine z_get C inT_X2 0 rfl rfl 0 (by decide) rfl (mc W_200) rfl dX2_turnItem_57 ?_
        refine z_get C inT_X1 2 rfl rfl 8 (by decide) rfl (mc W_103) rfl dX2_turnItem_60 ?_
        refine z_iload_n C dX2_turnItem_63 rfl 1 rfl ?_
        refine z_iload_n C dX2_turnItem_64 rfl 0 rfl ?_
        obtain ⟨c11, h⟩ := chk_some h
        refine z_iast (ws' := [(q_t, .inr (1, [.ref q_t_draft, .int o9.2.1, .int t_length, .ref q_t_text, .int o9.2.2.1, .int o9.2.2.2.1, .int o9.2.2.2.2])), (q_t_text, zB E 150 t_text), (q_t_draft, .inr (0, [.int t_draft_pressure, .int t_draft_day, .int t_draft_wells, .int t_draft_lefts, .int t_draft_notes, .int t_draft_undos, .ref q_t_draft_kind, .ref q_t_draft_wanted, .ref q_t_draft_hours, .ref q_t_draft_had, .ref q_t_draft_due, .ref q_t_draft_leftHour, .ref q_t_draft_leftPressure, .ref q_t_draft_note, .ref q_t_draft_past, .ref q_t_draft_ahead, .ref q_t_draft_gets, .int t_draft_leftOver])), (q_t_draft_hours, zI E 5 (upd t_draft_hours o1.2.2.2.toNatClampNeg o7.1))]) C 3 rfl c11 rfl dX2_turnItem_65 ?_
        refine z_iconst (v := (1 : Int32)) C dX2_turnItem_66 (by decide) ?_
        obtain rfl := Option.some.inj h
        exact z_zret (v := (1 : Int32)) C hr rfl dX2_turnItem_67
      · replace h := (if_pos c).symm.trans h
        refine z_iconst (v := (0 : Int32)) C dX2_turnItem_54 (by decide) ?_
        obtain rfl := Option.some.inj h
        exact z_zret (v := (0 : Int32)) C hr rfl dX2_turnItem_55
    · replace h := (if_pos c).symm.trans h
      refine z_iconst (v := (0 : Int32)) C dX2_turnItem_31 (by decide) ?_
      obtain rfl := Option.some.inj h
      exact z_zret (v := (0 : Int32)) C hr rfl dX2_turnItem_32
  · replace h := (if_neg c).symm.trans h
    refine z_iconst (v := (0 : Int32)) C dX2_turnItem_8 (by decide) ?_
    obtain rfl := Option.some.inj h
    exact z_zret (v := (0 : Int32)) C hr rfl dX2_turnItem_9
def rm_X2_wellItem : Room := { frames := 4, cells := 0, slots := 0, locals := 83 }
theorem hd_X2_wellItem : yX2_wellItem.cls = yX2_wellItem.cls ∧ yX2_wellItem.cls ≠ "java/lang/invoke/MethodHandle" ∧ yX2_wellItem.cls ≠ "java/lang/invoke/VarHandle" ∧ (parseMethodDescriptor yX2_wellItem.desc).map (fun d => d.parameters.length) = some 0 := by decide +kernel
abbrev wsX2_wellItem : List Cond := .code yX2_wellItem cX2_wellItem 4 (some .boolean) :: WALL
set_option maxRecDepth 100000 in
set_option maxHeartbeats 4000000 in
theorem c_X2_wellItem {l : Launch} {E : zE} {q_t q_t_draft q_t_text q_t_draft_kind q_t_draft_wanted q_t_draft_hours q_t_draft_had q_t_draft_due q_t_draft_leftHour q_t_draft_leftPressure q_t_draft_note q_t_draft_past q_t_draft_ahead q_t_draft_gets : Nat} {t_draft_pressure : Int32} {t_draft_day : Int32} {t_draft_lefts : Int32} {t_draft_notes : Int32} {t_draft_leftOver : Int32} {t_length : Int32} {t_text : Nat → Int32} {t_start : Int32} {t_next : Int32} {t_token : Int32} {t_value : Int32} {t_draft_wells : Int32} {t_draft_undos : Int32} {t_draft_kind : Nat → Int32} {t_draft_wanted : Nat → Int32} {t_draft_hours : Nat → Int32} {t_draft_had : Nat → Int32} {t_draft_due : Nat → Int32} {o : Int32 × Int32 × Int32 × Int32 × Int32 × Int32 × Int32 × (Nat → Int32) × (Nat → Int32) × (Nat → Int32) × (Nat → Int32) × (Nat → Int32)} (F : Nat) (h : f_X2_wellItem F t_length t_text t_start t_next t_token t_value t_draft_wells t_draft_undos t_draft_kind t_draft_wanted t_draft_hours t_draft_had t_draft_due = some o) : zM l yX2_wellItem wsX2_wellItem rm_X2_wellItem E [.ref q_t] [(q_t, .inr (1, [.ref q_t_draft, .int t_start, .int t_length, .ref q_t_text, .int t_next, .int t_token, .int t_value])), (q_t_draft, .inr (0, [.int t_draft_pressure, .int t_draft_day, .int t_draft_wells, .int t_draft_lefts, .int t_draft_notes, .int t_draft_undos, .ref q_t_draft_kind, .ref q_t_draft_wanted, .ref q_t_draft_hours, .ref q_t_draft_had, .ref q_t_draft_due, .ref q_t_draft_leftHour, .ref q_t_draft_leftPressure, .ref q_t_draft_note, .ref q_t_draft_past, .ref q_t_draft_ahead, .ref q_t_draft_gets, .int t_draft_leftOver])), (q_t_text, zB E 150 t_text), (q_t_draft_kind, zI E 5 t_draft_kind), (q_t_draft_wanted, zI E 5 t_draft_wanted), (q_t_draft_hours, zI E 5 t_draft_hours), (q_t_draft_had, zI E 5 t_draft_had), (q_t_draft_due, zI E 5 t_draft_due)] (some (.int o.1)) [(q_t, .inr (1, [.ref q_t_draft, .int o.2.1, .int t_length, .ref q_t_text, .int o.2.2.1, .int o.2.2.2.1, .int o.2.2.2.2.1])), (q_t_draft, .inr (0, [.int t_draft_pressure, .int t_draft_day, .int o.2.2.2.2.2.1, .int t_draft_lefts, .int t_draft_notes, .int o.2.2.2.2.2.2.1, .ref q_t_draft_kind, .ref q_t_draft_wanted, .ref q_t_draft_hours, .ref q_t_draft_had, .ref q_t_draft_due, .ref q_t_draft_leftHour, .ref q_t_draft_leftPressure, .ref q_t_draft_note, .ref q_t_draft_past, .ref q_t_draft_ahead, .ref q_t_draft_gets, .int t_draft_leftOver])), (q_t_text, zB E 150 t_text), (q_t_draft_kind, zI E 5 o.2.2.2.2.2.2.2.1), (q_t_draft_wanted, zI E 5 o.2.2.2.2.2.2.2.2.1), (q_t_draft_hours, zI E 5 o.2.2.2.2.2.2.2.2.2.1), (q_t_draft_had, zI E 5 o.2.2.2.2.2.2.2.2.2.2.1), (q_t_draft_due, zI E 5 o.2.2.2.2.2.2.2.2.2.2.2)] := by
  refine zM.of (cc := cX2_wellItem) (maxL := 4) (ret := (some .boolean)) (by decide +kernel) rfl (Nat.le_of_ble_eq_true rfl) ?_
  intro p e s m args below meth c A C hr
  have C : zC p s m args c meth cX2_wellItem 4 RX2 wsX2_wellItem E A := C
  rw [f_X2_wellItem] at h
  refine z_aload_n C dX2_wellItem_0 rfl 0 rfl ?_
  refine z_get C inT_X2 0 rfl rfl 5 (by decide) rfl (mc W_208) rfl dX2_wellItem_1 ?_
  refine z_iconst (v := (4 : Int32)) C dX2_wellItem_4 (by decide) ?_
  refine z_icmp_ne (tgt := 19) C dX2_wellItem_5 (by decide) (fun c => ?_) (fun c => ?_)
  · replace h := (if_neg c).symm.trans h
    refine z_iconst (v := (0 : Int32)) C dX2_wellItem_19 (by decide) ?_
    obtain rfl := Option.some.inj h
    exact z_zret (v := (0 : Int32)) C hr rfl dX2_wellItem_20
  · replace h := (if_pos c).symm.trans h
    refine z_aload_n C dX2_wellItem_8 rfl 0 rfl ?_
    refine z_get C inT_X2 0 rfl rfl 0 (by decide) rfl (mc W_200) rfl dX2_wellItem_9 ?_
    refine z_get C inT_X1 1 rfl rfl 2 (by decide) rfl (mc W_89) rfl dX2_wellItem_12 ?_
    refine z_iconst (v := (5 : Int32)) C dX2_wellItem_15 (by decide) ?_
    refine z_icmp_lt (tgt := 21) C dX2_wellItem_16 (by decide) (fun c => ?_) (fun c => ?_)
    · replace h := (if_pos c).symm.trans h
      refine z_aload_n C dX2_wellItem_21 rfl 0 rfl ?_
      obtain ⟨o1, ho2, h⟩ := bnd_some h
      refine z_callV (wc := [(q_t, .inr (1, [.ref q_t_draft, .int t_start, .int t_length, .ref q_t_text, .int t_next, .int t_token, .int t_value])), (q_t_text, zB E 150 t_text)]) (wr := [(q_t_draft, .inr (0, [.int t_draft_pressure, .int t_draft_day, .int t_draft_wells, .int t_draft_lefts, .int t_draft_notes, .int t_draft_undos, .ref q_t_draft_kind, .ref q_t_draft_wanted, .ref q_t_draft_hours, .ref q_t_draft_had, .ref q_t_draft_due, .ref q_t_draft_leftHour, .ref q_t_draft_leftPressure, .ref q_t_draft_note, .ref q_t_draft_past, .ref q_t_draft_ahead, .ref q_t_draft_gets, .int t_draft_leftOver])), (q_t_draft_kind, zI E 5 t_draft_kind), (q_t_draft_wanted, zI E 5 t_draft_wanted), (q_t_draft_hours, zI E 5 t_draft_hours), (q_t_draft_had, zI E 5 t_draft_had), (q_t_draft_due, zI E 5 t_draft_due)]) (wc' := [(q_t, .inr (1, [.ref q_t_draft, .int o1.1, .int t_length, .ref q_t_text, .int o1.2.1, .int o1.2.2.1, .int o1.2.2.2])), (q_t_text, zB E 150 t_text)]) (ws2 := [(q_t, .inr (1, [.ref q_t_draft, .int o1.1, .int t_length, .ref q_t_text, .int o1.2.1, .int o1.2.2.1, .int o1.2.2.2])), (q_t_draft, .inr (0, [.int t_draft_pressure, .int t_draft_day, .int t_draft_wells, .int t_draft_lefts, .int t_draft_notes, .int t_draft_undos, .ref q_t_draft_kind, .ref q_t_draft_wanted, .ref q_t_draft_hours, .ref q_t_draft_had, .ref q_t_draft_due, .ref q_t_draft_leftHour, .ref q_t_draft_leftPressure, .ref q_t_draft_note, .ref q_t_draft_past, .ref q_t_draft_ahead, .ref q_t_draft_gets, .int t_draft_leftOver])), (q_t_text, zB E 150 t_text), (q_t_draft_kind, zI E 5 t_draft_kind), (q_t_draft_wanted, zI E 5 t_draft_wanted), (q_t_draft_hours, zI E 5 t_draft_hours), (q_t_draft_had, zI E 5 t_draft_had), (q_t_draft_due, zI E 5 t_draft_due)]) (As := []) (st2 := []) C [0, 2] [1, 3, 4, 5, 6, 7] [6, 0, 7, 1, 2, 3, 4, 5] rfl rfl rfl rfl (by decide) rfl rfl (c_X2_step F ho2) (goodVT consT W_308 W_310 W_2 W_61 W_311) rfl rfl rfl hd_X2_step ⟨Nat.le_of_ble_eq_true rfl, Nat.le_of_ble_eq_true rfl⟩ rfl rfl rfl (j := 0) rfl rfl rfl (Nat.le_of_ble_eq_true rfl) dX2_wellItem_22 ⟨Nat.zero_le _, Nat.zero_le _⟩ ?_
      refine z_aload_n C dX2_wellItem_25 rfl 0 rfl ?_
      refine z_iconst (v := (0 : Int32)) C dX2_wellItem_26 (by decide) ?_
      refine z_iconst (v := (5 : Int32)) C dX2_wellItem_27 (by decide) ?_
      obtain ⟨o3, ho4, h⟩ := bnd_some h
      refine z_callV (wc := [(q_t, .inr (1, [.ref q_t_draft, .int o1.1, .int t_length, .ref q_t_text, .int o1.2.1, .int o1.2.2.1, .int o1.2.2.2]))]) (wr := [(q_t_draft, .inr (0, [.int t_draft_pressure, .int t_draft_day, .int t_draft_wells, .int t_draft_lefts, .int t_draft_notes, .int t_draft_undos, .ref q_t_draft_kind, .ref q_t_draft_wanted, .ref q_t_draft_hours, .ref q_t_draft_had, .ref q_t_draft_due, .ref q_t_draft_leftHour, .ref q_t_draft_leftPressure, .ref q_t_draft_note, .ref q_t_draft_past, .ref q_t_draft_ahead, .ref q_t_draft_gets, .int t_draft_leftOver])), (q_t_text, zB E 150 t_text), (q_t_draft_kind, zI E 5 t_draft_kind), (q_t_draft_wanted, zI E 5 t_draft_wanted), (q_t_draft_hours, zI E 5 t_draft_hours), (q_t_draft_had, zI E 5 t_draft_had), (q_t_draft_due, zI E 5 t_draft_due)]) (wc' := [(q_t, .inr (1, [.ref q_t_draft, .int o1.1, .int t_length, .ref q_t_text, .int o1.2.1, .int o1.2.2.1, .int o1.2.2.2]))]) (ws2 := [(q_t, .inr (1, [.ref q_t_draft, .int o1.1, .int t_length, .ref q_t_text, .int o1.2.1, .int o1.2.2.1, .int o1.2.2.2])), (q_t_draft, .inr (0, [.int t_draft_pressure, .int t_draft_day, .int t_draft_wells, .int t_draft_lefts, .int t_draft_notes, .int t_draft_undos, .ref q_t_draft_kind, .ref q_t_draft_wanted, .ref q_t_draft_hours, .ref q_t_draft_had, .ref q_t_draft_due, .ref q_t_draft_leftHour, .ref q_t_draft_leftPressure, .ref q_t_draft_note, .ref q_t_draft_past, .ref q_t_draft_ahead, .ref q_t_draft_gets, .int t_draft_leftOver])), (q_t_text, zB E 150 t_text), (q_t_draft_kind, zI E 5 t_draft_kind), (q_t_draft_wanted, zI E 5 t_draft_wanted), (q_t_draft_hours, zI E 5 t_draft_hours), (q_t_draft_had, zI E 5 t_draft_had), (q_t_draft_due, zI E 5 t_draft_due)]) (As := [.int (0 : Int32), .int (5 : Int32)]) (st2 := [.int o3]) C [0] [1, 2, 3, 4, 5, 6, 7] [7, 0, 1, 2, 3, 4, 5, 6] rfl rfl rfl rfl (by decide) rfl rfl (c_X2_isNumber F ho4) (goodVT consT W_334 W_336 W_7 W_61 W_337) rfl rfl rfl hd_X2_isNumber ⟨Nat.le_of_ble_eq_true rfl, Nat.le_of_ble_eq_true rfl⟩ rfl rfl rfl (j := 0) rfl rfl rfl (Nat.le_of_ble_eq_true rfl) dX2_wellItem_28 ⟨Nat.zero_le _, Nat.zero_le _⟩ ?_
      refine z_if_ne (tgt := 36) C dX2_wellItem_31 (by decide) (fun c => ?_) (fun c => ?_)
      · replace h := (if_neg c).symm.trans h
        refine z_aload_n C dX2_wellItem_36 rfl 0 rfl ?_
        refine z_get C inT_X2 0 rfl rfl 6 (by decide) rfl (mc W_209) rfl dX2_wellItem_37 ?_
        refine z_istore_n (L' := [(1, .int o1.2.2.2), (0, .ref q_t)]) C dX2_wellItem_40 rfl (by decide) rfl ?_
        refine z_aload_n C dX2_wellItem_41 rfl 1 rfl ?_
        obtain ⟨o5, ho6, h⟩ := bnd_some h
        refine z_callV (wc := [(q_t, .inr (1, [.ref q_t_draft, .int o1.1, .int t_length, .ref q_t_text, .int o1.2.1, .int o1.2.2.1, .int o1.2.2.2])), (q_t_text, zB E 150 t_text)]) (wr := [(q_t_draft, .inr (0, [.int t_draft_pressure, .int t_draft_day, .int t_draft_wells, .int t_draft_lefts, .int t_draft_notes, .int t_draft_undos, .ref q_t_draft_kind, .ref q_t_draft_wanted, .ref q_t_draft_hours, .ref q_t_draft_had, .ref q_t_draft_due, .ref q_t_draft_leftHour, .ref q_t_draft_leftPressure, .ref q_t_draft_note, .ref q_t_draft_past, .ref q_t_draft_ahead, .ref q_t_draft_gets, .int t_draft_leftOver])), (q_t_draft_kind, zI E 5 t_draft_kind), (q_t_draft_wanted, zI E 5 t_draft_wanted), (q_t_draft_hours, zI E 5 t_draft_hours), (q_t_draft_had, zI E 5 t_draft_had), (q_t_draft_due, zI E 5 t_draft_due)]) (wc' := [(q_t, .inr (1, [.ref q_t_draft, .int o5.1, .int t_length, .ref q_t_text, .int o5.2.1, .int o5.2.2.1, .int o5.2.2.2])), (q_t_text, zB E 150 t_text)]) (ws2 := [(q_t, .inr (1, [.ref q_t_draft, .int o5.1, .int t_length, .ref q_t_text, .int o5.2.1, .int o5.2.2.1, .int o5.2.2.2])), (q_t_draft, .inr (0, [.int t_draft_pressure, .int t_draft_day, .int t_draft_wells, .int t_draft_lefts, .int t_draft_notes, .int t_draft_undos, .ref q_t_draft_kind, .ref q_t_draft_wanted, .ref q_t_draft_hours, .ref q_t_draft_had, .ref q_t_draft_due, .ref q_t_draft_leftHour, .ref q_t_draft_leftPressure, .ref q_t_draft_note, .ref q_t_draft_past, .ref q_t_draft_ahead, .ref q_t_draft_gets, .int t_draft_leftOver])), (q_t_text, zB E 150 t_text), (q_t_draft_kind, zI E 5 t_draft_kind), (q_t_draft_wanted, zI E 5 t_draft_wanted), (q_t_draft_hours, zI E 5 t_draft_hours), (q_t_draft_had, zI E 5 t_draft_had), (q_t_draft_due, zI E 5 t_draft_due)]) (As := []) (st2 := []) C [0, 2] [1, 3, 4, 5, 6, 7] [6, 0, 7, 1, 2, 3, 4, 5] rfl rfl rfl rfl (by decide) rfl rfl (c_X2_step F ho6) (goodVT consT W_308 W_310 W_2 W_61 W_311) rfl rfl rfl hd_X2_step ⟨Nat.le_of_ble_eq_true rfl, Nat.le_of_ble_eq_true rfl⟩ rfl rfl rfl (j := 0) rfl rfl rfl (Nat.le_of_ble_eq_true rfl) dX2_wellItem_42 ⟨Nat.zero_le _, Nat.zero_le _⟩ ?_
        refine z_aload_n C dX2_wellItem_45 rfl 1 rfl ?_
        refine z_iconst (v := (1 : Int32)) C dX2_wellItem_46 (by decide) ?_
        refine z_bipush (v := (20 : Int32)) C dX2_wellItem_47 (by decide) ?_
        obtain ⟨o7, ho8, h⟩ := bnd_some h
        refine z_callV (wc := [(q_t, .inr (1, [.ref q_t_draft, .int o5.1, .int t_length, .ref q_t_text, .int o5.2.1, .int o5.2.2.1, .int o5.2.2.2]))]) (wr := [(q_t_draft, .inr (0, [.int t_draft_pressure, .int t_draft_day, .int t_draft_wells, .int t_draft_lefts, .int t_draft_notes, .int t_draft_undos, .ref q_t_draft_kind, .ref q_t_draft_wanted, .ref q_t_draft_hours, .ref q_t_draft_had, .ref q_t_draft_due, .ref q_t_draft_leftHour, .ref q_t_draft_leftPressure, .ref q_t_draft_note, .ref q_t_draft_past, .ref q_t_draft_ahead, .ref q_t_draft_gets, .int t_draft_leftOver])), (q_t_text, zB E 150 t_text), (q_t_draft_kind, zI E 5 t_draft_kind), (q_t_draft_wanted, zI E 5 t_draft_wanted), (q_t_draft_hours, zI E 5 t_draft_hours), (q_t_draft_had, zI E 5 t_draft_had), (q_t_draft_due, zI E 5 t_draft_due)]) (wc' := [(q_t, .inr (1, [.ref q_t_draft, .int o5.1, .int t_length, .ref q_t_text, .int o5.2.1, .int o5.2.2.1, .int o5.2.2.2]))]) (ws2 := [(q_t, .inr (1, [.ref q_t_draft, .int o5.1, .int t_length, .ref q_t_text, .int o5.2.1, .int o5.2.2.1, .int o5.2.2.2])), (q_t_draft, .inr (0, [.int t_draft_pressure, .int t_draft_day, .int t_draft_wells, .int t_draft_lefts, .int t_draft_notes, .int t_draft_undos, .ref q_t_draft_kind, .ref q_t_draft_wanted, .ref q_t_draft_hours, .ref q_t_draft_had, .ref q_t_draft_due, .ref q_t_draft_leftHour, .ref q_t_draft_leftPressure, .ref q_t_draft_note, .ref q_t_draft_past, .ref q_t_draft_ahead, .ref q_t_draft_gets, .int t_draft_leftOver])), (q_t_text, zB E 150 t_text), (q_t_draft_kind, zI E 5 t_draft_kind), (q_t_draft_wanted, zI E 5 t_draft_wanted), (q_t_draft_hours, zI E 5 t_draft_hours), (q_t_draft_had, zI E 5 t_draft_had), (q_t_draft_due, zI E 5 t_draft_due)]) (As := [.int (1 : Int32), .int (20 : Int32)]) (st2 := [.int o7]) C [0] [1, 2, 3, 4, 5, 6, 7] [7, 0, 1, 2, 3, 4, 5, 6] rfl rfl rfl rfl (by decide) rfl rfl (c_X2_isNumber F ho8) (goodVT consT W_334 W_336 W_7 W_61 W_337) rfl rfl rfl hd_X2_isNumber ⟨Nat.le_of_ble_eq_true rfl, Nat.le_of_ble_eq_true rfl⟩ rfl rfl rfl (j := 0) rfl rfl rfl (Nat.le_of_ble_eq_true rfl) dX2_wellItem_49 ⟨Nat.zero_le _, Nat.zero_le _⟩ ?_
        refine z_if_ne (tgt := 57) C dX2_wellItem_52 (by decide) (fun c => ?_) (fun c => ?_)
        · replace h := (if_neg c).symm.trans h
          refine z_aload_n C dX2_wellItem_57 rfl 1 rfl ?_
          refine z_get C inT_X2 0 rfl rfl 6 (by decide) rfl (mc W_209) rfl dX2_wellItem_58 ?_
          refine z_istore_n (L' := [(2, .int o5.2.2.2), (1, .int o1.2.2.2), (0, .ref q_t)]) C dX2_wellItem_61 rfl (by decide) rfl ?_
          refine z_aload_n C dX2_wellItem_62 rfl 2 rfl ?_
          obtain ⟨o9, ho10, h⟩ := bnd_some h
          refine z_callV (wc := [(q_t, .inr (1, [.ref q_t_draft, .int o5.1, .int t_length, .ref q_t_text, .int o5.2.1, .int o5.2.2.1, .int o5.2.2.2])), (q_t_text, zB E 150 t_text)]) (wr := [(q_t_draft, .inr (0, [.int t_draft_pressure, .int t_draft_day, .int t_draft_wells, .int t_draft_lefts, .int t_draft_notes, .int t_draft_undos, .ref q_t_draft_kind, .ref q_t_draft_wanted, .ref q_t_draft_hours, .ref q_t_draft_had, .ref q_t_draft_due, .ref q_t_draft_leftHour, .ref q_t_draft_leftPressure, .ref q_t_draft_note, .ref q_t_draft_past, .ref q_t_draft_ahead, .ref q_t_draft_gets, .int t_draft_leftOver])), (q_t_draft_kind, zI E 5 t_draft_kind), (q_t_draft_wanted, zI E 5 t_draft_wanted), (q_t_draft_hours, zI E 5 t_draft_hours), (q_t_draft_had, zI E 5 t_draft_had), (q_t_draft_due, zI E 5 t_draft_due)]) (wc' := [(q_t, .inr (1, [.ref q_t_draft, .int o9.1, .int t_length, .ref q_t_text, .int o9.2.1, .int o9.2.2.1, .int o9.2.2.2])), (q_t_text, zB E 150 t_text)]) (ws2 := [(q_t, .inr (1, [.ref q_t_draft, .int o9.1, .int t_length, .ref q_t_text, .int o9.2.1, .int o9.2.2.1, .int o9.2.2.2])), (q_t_draft, .inr (0, [.int t_draft_pressure, .int t_draft_day, .int t_draft_wells, .int t_draft_lefts, .int t_draft_notes, .int t_draft_undos, .ref q_t_draft_kind, .ref q_t_draft_wanted, .ref q_t_draft_hours, .ref q_t_draft_had, .ref q_t_draft_due, .ref q_t_draft_leftHour, .ref q_t_draft_leftPressure, .ref q_t_draft_note, .ref q_t_draft_past, .ref q_t_draft_ahead, .ref q_t_draft_gets, .int t_draft_leftOver])), (q_t_text, zB E 150 t_text), (q_t_draft_kind, zI E 5 t_draft_kind), (q_t_draft_wanted, zI E 5 t_draft_wanted), (q_t_draft_hours, zI E 5 t_draft_hours), (q_t_draft_had, zI E 5 t_draft_had), (q_t_draft_due, zI E 5 t_draft_due)]) (As := []) (st2 := []) C [0, 2] [1, 3, 4, 5, 6, 7] [6, 0, 7, 1, 2, 3, 4, 5] rfl rfl rfl rfl (by decide) rfl rfl (c_X2_step F ho10) (goodVT consT W_308 W_310 W_2 W_61 W_311) rfl rfl rfl hd_X2_step ⟨Nat.le_of_ble_eq_true rfl, Nat.le_of_ble_eq_true rfl⟩ rfl rfl rfl (j := 0) rfl rfl rfl (Nat.le_of_ble_eq_true rfl) dX2_wellItem_63 ⟨Nat.zero_le _, Nat.zero_le _⟩ ?_
          refine z_aload_n C dX2_wellItem_66 rfl 2 rfl ?_
          obtain ⟨o11, ho12, h⟩ := bnd_some h
          refine z_callV (wc := [(q_t, .inr (1, [.ref q_t_draft, .int o9.1, .int t_length, .ref q_t_text, .int o9.2.1, .int o9.2.2.1, .int o9.2.2.2])), (q_t_text, zB E 150 t_text)]) (wr := [(q_t_draft, .inr (0, [.int t_draft_pressure, .int t_draft_day, .int t_draft_wells, .int t_draft_lefts, .int t_draft_notes, .int t_draft_undos, .ref q_t_draft_kind, .ref q_t_draft_wanted, .ref q_t_draft_hours, .ref q_t_draft_had, .ref q_t_draft_due, .ref q_t_draft_leftHour, .ref q_t_draft_leftPressure, .ref q_t_draft_note, .ref q_t_draft_past, .ref q_t_draft_ahead, .ref q_t_draft_gets, .int t_draft_leftOver])), (q_t_draft_kind, zI E 5 t_draft_kind), (q_t_draft_wanted, zI E 5 t_draft_wanted), (q_t_draft_hours, zI E 5 t_draft_hours), (q_t_draft_had, zI E 5 t_draft_had), (q_t_draft_due, zI E 5 t_draft_due)]) (wc' := [(q_t, .inr (1, [.ref q_t_draft, .int o11.2.1, .int t_length, .ref q_t_text, .int o11.2.2.1, .int o11.2.2.2.1, .int o11.2.2.2.2])), (q_t_text, zB E 150 t_text)]) (ws2 := [(q_t, .inr (1, [.ref q_t_draft, .int o11.2.1, .int t_length, .ref q_t_text, .int o11.2.2.1, .int o11.2.2.2.1, .int o11.2.2.2.2])), (q_t_draft, .inr (0, [.int t_draft_pressure, .int t_draft_day, .int t_draft_wells, .int t_draft_lefts, .int t_draft_notes, .int t_draft_undos, .ref q_t_draft_kind, .ref q_t_draft_wanted, .ref q_t_draft_hours, .ref q_t_draft_had, .ref q_t_draft_due, .ref q_t_draft_leftHour, .ref q_t_draft_leftPressure, .ref q_t_draft_note, .ref q_t_draft_past, .ref q_t_draft_ahead, .ref q_t_draft_gets, .int t_draft_leftOver])), (q_t_text, zB E 150 t_text), (q_t_draft_kind, zI E 5 t_draft_kind), (q_t_draft_wanted, zI E 5 t_draft_wanted), (q_t_draft_hours, zI E 5 t_draft_hours), (q_t_draft_had, zI E 5 t_draft_had), (q_t_draft_due, zI E 5 t_draft_due)]) (As := []) (st2 := [.int o11.1]) C [0, 2] [1, 3, 4, 5, 6, 7] [6, 0, 7, 1, 2, 3, 4, 5] rfl rfl rfl rfl (by decide) rfl rfl (c_X2_readHours F ho12) (goodVT consT W_346 W_348 W_10 W_61 W_349) rfl rfl rfl hd_X2_readHours ⟨Nat.le_of_ble_eq_true rfl, Nat.le_of_ble_eq_true rfl⟩ rfl rfl rfl (j := 0) rfl rfl rfl (Nat.le_of_ble_eq_true rfl) dX2_wellItem_67 ⟨Nat.zero_le _, Nat.zero_le _⟩ ?_
          refine z_istore_n (L' := [(3, .int o11.1), (2, .int o5.2.2.2), (1, .int o1.2.2.2), (0, .ref q_t)]) C dX2_wellItem_70 rfl (by decide) rfl ?_
          refine z_aload_n C dX2_wellItem_71 rfl 3 rfl ?_
          obtain ⟨o13, ho14, h⟩ := bnd_some h
          refine z_callV (wc := [(q_t, .inr (1, [.ref q_t_draft, .int o11.2.1, .int t_length, .ref q_t_text, .int o11.2.2.1, .int o11.2.2.2.1, .int o11.2.2.2.2])), (q_t_text, zB E 150 t_text)]) (wr := [(q_t_draft, .inr (0, [.int t_draft_pressure, .int t_draft_day, .int t_draft_wells, .int t_draft_lefts, .int t_draft_notes, .int t_draft_undos, .ref q_t_draft_kind, .ref q_t_draft_wanted, .ref q_t_draft_hours, .ref q_t_draft_had, .ref q_t_draft_due, .ref q_t_draft_leftHour, .ref q_t_draft_leftPressure, .ref q_t_draft_note, .ref q_t_draft_past, .ref q_t_draft_ahead, .ref q_t_draft_gets, .int t_draft_leftOver])), (q_t_draft_kind, zI E 5 t_draft_kind), (q_t_draft_wanted, zI E 5 t_draft_wanted), (q_t_draft_hours, zI E 5 t_draft_hours), (q_t_draft_had, zI E 5 t_draft_had), (q_t_draft_due, zI E 5 t_draft_due)]) (wc' := [(q_t, .inr (1, [.ref q_t_draft, .int o13.2.1, .int t_length, .ref q_t_text, .int o13.2.2.1, .int o13.2.2.2.1, .int o13.2.2.2.2])), (q_t_text, zB E 150 t_text)]) (ws2 := [(q_t, .inr (1, [.ref q_t_draft, .int o13.2.1, .int t_length, .ref q_t_text, .int o13.2.2.1, .int o13.2.2.2.1, .int o13.2.2.2.2])), (q_t_draft, .inr (0, [.int t_draft_pressure, .int t_draft_day, .int t_draft_wells, .int t_draft_lefts, .int t_draft_notes, .int t_draft_undos, .ref q_t_draft_kind, .ref q_t_draft_wanted, .ref q_t_draft_hours, .ref q_t_draft_had, .ref q_t_draft_due, .ref q_t_draft_leftHour, .ref q_t_draft_leftPressure, .ref q_t_draft_note, .ref q_t_draft_past, .ref q_t_draft_ahead, .ref q_t_draft_gets, .int t_draft_leftOver])), (q_t_text, zB E 150 t_text), (q_t_draft_kind, zI E 5 t_draft_kind), (q_t_draft_wanted, zI E 5 t_draft_wanted), (q_t_draft_hours, zI E 5 t_draft_hours), (q_t_draft_had, zI E 5 t_draft_had), (q_t_draft_due, zI E 5 t_draft_due)]) (As := []) (st2 := [.int o13.1]) C [0, 2] [1, 3, 4, 5, 6, 7] [6, 0, 7, 1, 2, 3, 4, 5] rfl rfl rfl rfl (by decide) rfl rfl (c_X2_semicolon F ho14) (goodVT consT W_338 W_340 W_8 W_61 W_341) rfl rfl rfl hd_X2_semicolon ⟨Nat.le_of_ble_eq_true rfl, Nat.le_of_ble_eq_true rfl⟩ rfl rfl rfl (j := 0) rfl rfl rfl (Nat.le_of_ble_eq_true rfl) dX2_wellItem_72 ⟨Nat.zero_le _, Nat.zero_le _⟩ ?_
          refine z_if_ne (tgt := 80) C dX2_wellItem_75 (by decide) (fun c => ?_) (fun c => ?_)
          · replace h := (if_neg c).symm.trans h
            refine z_aload_n C dX2_wellItem_80 rfl 3 rfl ?_
            refine z_get C inT_X2 0 rfl rfl 0 (by decide) rfl (mc W_200) rfl dX2_wellItem_81 ?_
            refine z_iload_n C dX2_wellItem_84 rfl 2 rfl ?_
            refine z_iload_n C dX2_wellItem_85 rfl 1 rfl ?_
            refine z_iload_n C dX2_wellItem_86 rfl 0 rfl ?_
            obtain ⟨o15, ho16, h⟩ := bnd_some h
            refine z_callV (wc := [(q_t_draft, .inr (0, [.int t_draft_pressure, .int t_draft_day, .int t_draft_wells, .int t_draft_lefts, .int t_draft_notes, .int t_draft_undos, .ref q_t_draft_kind, .ref q_t_draft_wanted, .ref q_t_draft_hours, .ref q_t_draft_had, .ref q_t_draft_due, .ref q_t_draft_leftHour, .ref q_t_draft_leftPressure, .ref q_t_draft_note, .ref q_t_draft_past, .ref q_t_draft_ahead, .ref q_t_draft_gets, .int t_draft_leftOver])), (q_t_draft_kind, zI E 5 t_draft_kind), (q_t_draft_wanted, zI E 5 t_draft_wanted), (q_t_draft_hours, zI E 5 t_draft_hours), (q_t_draft_had, zI E 5 t_draft_had), (q_t_draft_due, zI E 5 t_draft_due)]) (wr := [(q_t, .inr (1, [.ref q_t_draft, .int o13.2.1, .int t_length, .ref q_t_text, .int o13.2.2.1, .int o13.2.2.2.1, .int o13.2.2.2.2])), (q_t_text, zB E 150 t_text)]) (wc' := [(q_t_draft, .inr (0, [.int t_draft_pressure, .int t_draft_day, .int o15.2.1, .int t_draft_lefts, .int t_draft_notes, .int o15.2.2.1, .ref q_t_draft_kind, .ref q_t_draft_wanted, .ref q_t_draft_hours, .ref q_t_draft_had, .ref q_t_draft_due, .ref q_t_draft_leftHour, .ref q_t_draft_leftPressure, .ref q_t_draft_note, .ref q_t_draft_past, .ref q_t_draft_ahead, .ref q_t_draft_gets, .int t_draft_leftOver])), (q_t_draft_kind, zI E 5 o15.2.2.2.1), (q_t_draft_wanted, zI E 5 o15.2.2.2.2.1), (q_t_draft_hours, zI E 5 o15.2.2.2.2.2.1), (q_t_draft_had, zI E 5 o15.2.2.2.2.2.2.1), (q_t_draft_due, zI E 5 o15.2.2.2.2.2.2.2)]) (ws2 := [(q_t, .inr (1, [.ref q_t_draft, .int o13.2.1, .int t_length, .ref q_t_text, .int o13.2.2.1, .int o13.2.2.2.1, .int o13.2.2.2.2])), (q_t_draft, .inr (0, [.int t_draft_pressure, .int t_draft_day, .int o15.2.1, .int t_draft_lefts, .int t_draft_notes, .int o15.2.2.1, .ref q_t_draft_kind, .ref q_t_draft_wanted, .ref q_t_draft_hours, .ref q_t_draft_had, .ref q_t_draft_due, .ref q_t_draft_leftHour, .ref q_t_draft_leftPressure, .ref q_t_draft_note, .ref q_t_draft_past, .ref q_t_draft_ahead, .ref q_t_draft_gets, .int t_draft_leftOver])), (q_t_text, zB E 150 t_text), (q_t_draft_kind, zI E 5 o15.2.2.2.1), (q_t_draft_wanted, zI E 5 o15.2.2.2.2.1), (q_t_draft_hours, zI E 5 o15.2.2.2.2.2.1), (q_t_draft_had, zI E 5 o15.2.2.2.2.2.2.1), (q_t_draft_due, zI E 5 o15.2.2.2.2.2.2.2)]) (As := [.int o1.2.2.2, .int o5.2.2.2, .int o11.1]) (st2 := [.int o15.1]) C [1, 3, 4, 5, 6, 7] [0, 2] [0, 2, 1, 3, 4, 5, 6, 7] rfl rfl rfl rfl (by decide) rfl rfl (c_X1_addWell F ho16) (goodVT consT W_350 W_284 W_285 W_59 W_286) rfl rfl rfl hd_X1_addWell ⟨Nat.le_of_ble_eq_true rfl, Nat.le_of_ble_eq_true rfl⟩ rfl rfl rfl (j := 0) rfl rfl rfl (Nat.le_of_ble_eq_true rfl) dX2_wellItem_87 ⟨Nat.zero_le _, Nat.zero_le _⟩ ?_
            refine z_pop C dX2_wellItem_90 rfl ?_
            refine z_iconst (v := (1 : Int32)) C dX2_wellItem_91 (by decide) ?_
            obtain rfl := Option.some.inj h
            exact z_zret (v := (1 : Int32)) C hr rfl dX2_wellItem_92
          · replace h := (if_pos c).symm.trans h
            refine z_iconst (v := (0 : Int32)) C dX2_wellItem_78 (by decide) ?_
            obtain rfl := Option.some.inj h
            exact z_zret (v := (0 : Int32)) C hr rfl dX2_wellItem_79
        · replace h := (if_pos c).symm.trans h
          refine z_iconst (v := (0 : Int32)) C dX2_wellItem_55 (by decide) ?_
          obtain rfl := Option.some.inj h
          exact z_zret (v := (0 : Int32)) C hr rfl dX2_wellItem_56
      · replace h := (if_pos c).symm.trans h
        refine z_iconst (v := (0 : Int32)) C dX2_wellItem_34 (by decide) ?_
        obtain rfl := Option.some.inj h
        exact z_zret (v := (0 : Int32)) C hr rfl dX2_wellItem_35
    · replace h := (if_neg c).symm.trans h
      refine z_iconst (v := (0 : Int32)) C dX2_wellItem_19 (by decide) ?_
      obtain rfl := Option.some.inj h
      exact z_zret (v := (0 : Int32)) C hr rfl dX2_wellItem_20

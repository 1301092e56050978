def rm_X5_type : Room := { frames := 1, cells := 0, slots := 0, locals := 25 }
theorem hd_X5_type : yX5_type.cls = yX5_type.cls ∧ yX5_type.cls ≠ "java/lang/invoke/MethodHandle" ∧ yX5_type.cls ≠ "java/lang/invoke/VarHandle" ∧ (parseMethodDescriptor yX5_type.desc).map (fun d => d.parameters.length) = some 1 := by decide +kernel
abbrev wsX5_type : List Cond := .code yX5_type cX5_type 2 (some .int) :: WALL
set_option maxRecDepth 100000 in
set_option maxHeartbeats 4000000 in
theorem c_X5_type {l : Launch} {E : zE} {q_t q_t_bytes q_t_refused q_t_told q_t_kept q_t_isKept q_t_gets q_t_ahead q_t_dayGets q_t_dayDue q_t_own q_t_ownGets q_t_bestOwn q_t_alone q_t_atMuch q_t_hand q_t_his q_t_its q_t_anew q_t_values : Nat} {t_above : Int64} {t_below : Int64} {t_leftBehind : Int32} {t_tokenAt : Int32} {t_tokenLong : Int32} {t_token : Int32} {t_value : Int32} {t_takenHours : Int32} {a1 : Int32} {t_bytesLong : Int32} {t_bytes : Nat → Int32} {t_refused : Nat → Int32} {o : Int32 × Int32 × (Nat → Int32) × (Nat → Int32)} (F : Nat) (h : f_X5_type F a1 t_bytesLong t_bytes t_refused = some o) : zM l yX5_type wsX5_type rm_X5_type E [.ref q_t, .int a1] [(q_t, .inr (4, [.ref q_t_told, .ref q_t_kept, .ref q_t_isKept, .ref q_t_refused, .long t_above, .long t_below, .ref q_t_gets, .ref q_t_ahead, .int t_leftBehind, .ref q_t_dayGets, .ref q_t_dayDue, .ref q_t_own, .ref q_t_ownGets, .ref q_t_bestOwn, .ref q_t_alone, .ref q_t_atMuch, .ref q_t_hand, .ref q_t_his, .ref q_t_its, .ref q_t_bytes, .int t_bytesLong, .int t_tokenAt, .int t_tokenLong, .int t_token, .int t_value, .ref q_t_anew, .ref q_t_values, .int t_takenHours])), (q_t_bytes, zI E 150 t_bytes), (q_t_refused, zI E 3 t_refused)] (some (.int o.1)) [(q_t, .inr (4, [.ref q_t_told, .ref q_t_kept, .ref q_t_isKept, .ref q_t_refused, .long t_above, .long t_below, .ref q_t_gets, .ref q_t_ahead, .int t_leftBehind, .ref q_t_dayGets, .ref q_t_dayDue, .ref q_t_own, .ref q_t_ownGets, .ref q_t_bestOwn, .ref q_t_alone, .ref q_t_atMuch, .ref q_t_hand, .ref q_t_his, .ref q_t_its, .ref q_t_bytes, .int o.2.1, .int t_tokenAt, .int t_tokenLong, .int t_token, .int t_value, .ref q_t_anew, .ref q_t_values, .int t_takenHours])), (q_t_bytes, zI E 150 o.2.2.1), (q_t_refused, zI E 3 o.2.2.2)] := by
  refine zM.of (cc := cX5_type) (maxL := 2) (ret := (some .int)) (by decide +kernel) rfl (Nat.le_of_ble_eq_true rfl) ?_
  intro p e s m args below meth c A C hr
  have C : zC p s m args c meth cX5_type 2 RX5 wsX5_type E A := C
  rw [f_X5_type] at h
  refine z_iload_n C dX5_type_0 rfl 1 rfl ?_
  refine z_i2l C dX5_type_1 ?_
  refine z_lconst (v := (0 : Int64)) C dX5_type_2 (by decide) ?_
  refine z_ldc2 (v := (127 : Int64)) C dX5_type_3 (mc W_976) ?_
  obtain ⟨o1, ho2, h⟩ := bnd_some h
  refine z_callS (wc := []) (wr := [(q_t, .inr (4, [.ref q_t_told, .ref q_t_kept, .ref q_t_isKept, .ref q_t_refused, .long t_above, .long t_below, .ref q_t_gets, .ref q_t_ahead, .int t_leftBehind, .ref q_t_dayGets, .ref q_t_dayDue, .ref q_t_own, .ref q_t_ownGets, .ref q_t_bestOwn, .ref q_t_alone, .ref q_t_atMuch, .ref q_t_hand, .ref q_t_his, .ref q_t_its, .ref q_t_bytes, .int t_bytesLong, .int t_tokenAt, .int t_tokenLong, .int t_token, .int t_value, .ref q_t_anew, .ref q_t_values, .int t_takenHours])), (q_t_bytes, zI E 150 t_bytes), (q_t_refused, zI E 3 t_refused)]) (wc' := []) (ws2 := [(q_t, .inr (4, [.ref q_t_told, .ref q_t_kept, .ref q_t_isKept, .ref q_t_refused, .long t_above, .long t_below, .ref q_t_gets, .ref q_t_ahead, .int t_leftBehind, .ref q_t_dayGets, .ref q_t_dayDue, .ref q_t_own, .ref q_t_ownGets, .ref q_t_bestOwn, .ref q_t_alone, .ref q_t_atMuch, .ref q_t_hand, .ref q_t_his, .ref q_t_its, .ref q_t_bytes, .int t_bytesLong, .int t_tokenAt, .int t_tokenLong, .int t_token, .int t_value, .ref q_t_anew, .ref q_t_values, .int t_takenHours])), (q_t_bytes, zI E 150 t_bytes), (q_t_refused, zI E 3 t_refused)]) (As := [.long a1.toInt64, .long (0 : Int64), .long (127 : Int64)]) (st2 := [.int o1]) C [] [0, 1, 2] [0, 1, 2] rfl rfl rfl rfl (by decide) rfl rfl (c_X5_in F ho2) (goodST consT W_767 W_768 W_62 W_769) rfl rfl rfl hd_X5_in ⟨Nat.le_of_ble_eq_true rfl, Nat.le_of_ble_eq_true rfl⟩ rfl rfl rfl (Nat.le_of_ble_eq_true rfl) dX5_type_6 ⟨Nat.zero_le _, Nat.zero_le _⟩ ?_
  refine z_if_ne (tgt := 19) C dX5_type_9 (by decide) (fun c => ?_) (fun c => ?_)
  · replace h := (if_neg c).symm.trans h
    refine z_aload_n C dX5_type_19 rfl 0 rfl ?_
    refine z_get C inT_X5 0 rfl rfl 20 (by decide) rfl (mc W_693) rfl dX5_type_20 ?_
    refine z_sipush (v := (150 : Int32)) C dX5_type_23 (by decide) ?_
    refine z_icmp_ne (tgt := 34) C dX5_type_26 (by decide) (fun c => ?_) (fun c => ?_)
    · replace h := (if_neg c).symm.trans h
      refine z_aload_n C dX5_type_34 rfl 0 rfl ?_
      refine z_get C inT_X5 0 rfl rfl 19 (by decide) rfl (mc W_692) rfl dX5_type_35 ?_
      refine z_aload_n C dX5_type_38 rfl 0 rfl ?_
      refine z_get C inT_X5 0 rfl rfl 20 (by decide) rfl (mc W_693) rfl dX5_type_39 ?_
      refine z_iload_n C dX5_type_42 rfl 1 rfl ?_
      obtain ⟨c3, h⟩ := chk_some h
      refine z_iast (ws' := [(q_t, .inr (4, [.ref q_t_told, .ref q_t_kept, .ref q_t_isKept, .ref q_t_refused, .long t_above, .long t_below, .ref q_t_gets, .ref q_t_ahead, .int t_leftBehind, .ref q_t_dayGets, .ref q_t_dayDue, .ref q_t_own, .ref q_t_ownGets, .ref q_t_bestOwn, .ref q_t_alone, .ref q_t_atMuch, .ref q_t_hand, .ref q_t_his, .ref q_t_its, .ref q_t_bytes, .int t_bytesLong, .int t_tokenAt, .int t_tokenLong, .int t_token, .int t_value, .ref q_t_anew, .ref q_t_values, .int t_takenHours])), (q_t_bytes, zI E 150 (upd t_bytes t_bytesLong.toNatClampNeg a1)), (q_t_refused, zI E 3 t_refused)]) C 1 rfl c3 rfl dX5_type_43 ?_
      refine z_aload_n C dX5_type_44 rfl 0 rfl ?_
      refine z_dup C dX5_type_45 rfl ?_
      refine z_get C inT_X5 0 rfl rfl 20 (by decide) rfl (mc W_693) rfl dX5_type_46 ?_
      refine z_iconst (v := (1 : Int32)) C dX5_type_49 (by decide) ?_
      refine z_iadd C dX5_type_50 ?_
      refine z_put (ws' := [(q_t, .inr (4, [.ref q_t_told, .ref q_t_kept, .ref q_t_isKept, .ref q_t_refused, .long t_above, .long t_below, .ref q_t_gets, .ref q_t_ahead, .int t_leftBehind, .ref q_t_dayGets, .ref q_t_dayDue, .ref q_t_own, .ref q_t_ownGets, .ref q_t_bestOwn, .ref q_t_alone, .ref q_t_atMuch, .ref q_t_hand, .ref q_t_his, .ref q_t_its, .ref q_t_bytes, .int (t_bytesLong + (1 : Int32)), .int t_tokenAt, .int t_tokenLong, .int t_token, .int t_value, .ref q_t_anew, .ref q_t_values, .int t_takenHours])), (q_t_bytes, zI E 150 (upd t_bytes t_bytesLong.toNatClampNeg a1)), (q_t_refused, zI E 3 t_refused)]) C inT_X5 tyX5 tyX5_ok nmX5 0 rfl rfl 20 (by decide) rfl (mc W_693) rfl rfl rfl (Nat.le_of_ble_eq_true rfl) rfl dX5_type_51 ?_
      refine z_aload_n C dX5_type_54 rfl 0 rfl ?_
      refine z_get C inT_X5 0 rfl rfl 20 (by decide) rfl (mc W_693) rfl dX5_type_55 ?_
      obtain rfl := Option.some.inj h
      exact z_iret (v := t_bytesLong + (1 : Int32)) C hr dX5_type_58
    · replace h := (if_pos c).symm.trans h
      refine z_aload_n C dX5_type_29 rfl 0 rfl ?_
      obtain ⟨o4, ho5, h⟩ := bnd_some h
      refine z_callV (wc := [(q_t, .inr (4, [.ref q_t_told, .ref q_t_kept, .ref q_t_isKept, .ref q_t_refused, .long t_above, .long t_below, .ref q_t_gets, .ref q_t_ahead, .int t_leftBehind, .ref q_t_dayGets, .ref q_t_dayDue, .ref q_t_own, .ref q_t_ownGets, .ref q_t_bestOwn, .ref q_t_alone, .ref q_t_atMuch, .ref q_t_hand, .ref q_t_his, .ref q_t_its, .ref q_t_bytes, .int t_bytesLong, .int t_tokenAt, .int t_tokenLong, .int t_token, .int t_value, .ref q_t_anew, .ref q_t_values, .int t_takenHours])), (q_t_refused, zI E 3 t_refused)]) (wr := [(q_t_bytes, zI E 150 t_bytes)]) (wc' := [(q_t, .inr (4, [.ref q_t_told, .ref q_t_kept, .ref q_t_isKept, .ref q_t_refused, .long t_above, .long t_below, .ref q_t_gets, .ref q_t_ahead, .int t_leftBehind, .ref q_t_dayGets, .ref q_t_dayDue, .ref q_t_own, .ref q_t_ownGets, .ref q_t_bestOwn, .ref q_t_alone, .ref q_t_atMuch, .ref q_t_hand, .ref q_t_his, .ref q_t_its, .ref q_t_bytes, .int t_bytesLong, .int t_tokenAt, .int t_tokenLong, .int t_token, .int t_value, .ref q_t_anew, .ref q_t_values, .int t_takenHours])), (q_t_refused, zI E 3 o4.2)]) (ws2 := [(q_t, .inr (4, [.ref q_t_told, .ref q_t_kept, .ref q_t_isKept, .ref q_t_refused, .long t_above, .long t_below, .ref q_t_gets, .ref q_t_ahead, .int t_leftBehind, .ref q_t_dayGets, .ref q_t_dayDue, .ref q_t_own, .ref q_t_ownGets, .ref q_t_bestOwn, .ref q_t_alone, .ref q_t_atMuch, .ref q_t_hand, .ref q_t_his, .ref q_t_its, .ref q_t_bytes, .int t_bytesLong, .int t_tokenAt, .int t_tokenLong, .int t_token, .int t_value, .ref q_t_anew, .ref q_t_values, .int t_takenHours])), (q_t_bytes, zI E 150 t_bytes), (q_t_refused, zI E 3 o4.2)]) (As := []) (st2 := [.int o4.1]) C [0, 2] [1] [1, 0, 2] rfl rfl rfl rfl (by decide) rfl rfl (c_X5_full F ho5) (goodVT consT W_788 W_790 W_29 W_62 W_791) rfl rfl rfl hd_X5_full ⟨Nat.le_of_ble_eq_true rfl, Nat.le_of_ble_eq_true rfl⟩ rfl rfl rfl (j := 0) rfl rfl rfl (Nat.le_of_ble_eq_true rfl) dX5_type_30 ⟨Nat.zero_le _, Nat.zero_le _⟩ ?_
      obtain rfl := Option.some.inj h
      exact z_iret (v := o4.1) C hr dX5_type_33
  · replace h := (if_pos c).symm.trans h
    refine z_aload_n C dX5_type_12 rfl 0 rfl ?_
    refine z_bipush (v := (-2 : Int32)) C dX5_type_13 (by decide) ?_
    obtain ⟨o6, ho7, h⟩ := bnd_some h
    refine z_callV (wc := [(q_t, .inr (4, [.ref q_t_told, .ref q_t_kept, .ref q_t_isKept, .ref q_t_refused, .long t_above, .long t_below, .ref q_t_gets, .ref q_t_ahead, .int t_leftBehind, .ref q_t_dayGets, .ref q_t_dayDue, .ref q_t_own, .ref q_t_ownGets, .ref q_t_bestOwn, .ref q_t_alone, .ref q_t_atMuch, .ref q_t_hand, .ref q_t_his, .ref q_t_its, .ref q_t_bytes, .int t_bytesLong, .int t_tokenAt, .int t_tokenLong, .int t_token, .int t_value, .ref q_t_anew, .ref q_t_values, .int t_takenHours])), (q_t_refused, zI E 3 t_refused)]) (wr := [(q_t_bytes, zI E 150 t_bytes)]) (wc' := [(q_t, .inr (4, [.ref q_t_told, .ref q_t_kept, .ref q_t_isKept, .ref q_t_refused, .long t_above, .long t_below, .ref q_t_gets, .ref q_t_ahead, .int t_leftBehind, .ref q_t_dayGets, .ref q_t_dayDue, .ref q_t_own, .ref q_t_ownGets, .ref q_t_bestOwn, .ref q_t_alone, .ref q_t_atMuch, .ref q_t_hand, .ref q_t_his, .ref q_t_its, .ref q_t_bytes, .int t_bytesLong, .int t_tokenAt, .int t_tokenLong, .int t_token, .int t_value, .ref q_t_anew, .ref q_t_values, .int t_takenHours])), (q_t_refused, zI E 3 o6.2)]) (ws2 := [(q_t, .inr (4, [.ref q_t_told, .ref q_t_kept, .ref q_t_isKept, .ref q_t_refused, .long t_above, .long t_below, .ref q_t_gets, .ref q_t_ahead, .int t_leftBehind, .ref q_t_dayGets, .ref q_t_dayDue, .ref q_t_own, .ref q_t_ownGets, .ref q_t_bestOwn, .ref q_t_alone, .ref q_t_atMuch, .ref q_t_hand, .ref q_t_his, .ref q_t_its, .ref q_t_bytes, .int t_bytesLong, .int t_tokenAt, .int t_tokenLong, .int t_token, .int t_value, .ref q_t_anew, .ref q_t_values, .int t_takenHours])), (q_t_bytes, zI E 150 t_bytes), (q_t_refused, zI E 3 o6.2)]) (As := [.int (-2 : Int32)]) (st2 := [.int o6.1]) C [0, 2] [1] [1, 0, 2] rfl rfl rfl rfl (by decide) rfl rfl (c_X5_bad F ho7) (goodVT consT W_770 W_772 W_27 W_62 W_773) rfl rfl rfl hd_X5_bad ⟨Nat.le_of_ble_eq_true rfl, Nat.le_of_ble_eq_true rfl⟩ rfl rfl rfl (j := 0) rfl rfl rfl (Nat.le_of_ble_eq_true rfl) dX5_type_15 ⟨Nat.zero_le _, Nat.zero_le _⟩ ?_
    obtain rfl := Option.some.inj h
    exact z_iret (v := o6.1) C hr dX5_type_18
def rm_X5_clear : Room := { frames := 0, cells := 0, slots := 0, locals := 0 }
theorem hd_X5_clear : yX5_clear.cls = yX5_clear.cls ∧ yX5_clear.cls ≠ "java/lang/invoke/MethodHandle" ∧ yX5_clear.cls ≠ "java/lang/invoke/VarHandle" ∧ (parseMethodDescriptor yX5_clear.desc).map (fun d => d.parameters.length) = some 0 := by decide +kernel
abbrev wsX5_clear : List Cond := .code yX5_clear cX5_clear 2 (some .int) :: WALL
set_option maxRecDepth 100000 in
set_option maxHeartbeats 4000000 in
theorem c_X5_clear {l : Launch} {E : zE} {q_t q_t_told q_t_kept q_t_isKept q_t_refused q_t_gets q_t_ahead q_t_dayGets q_t_dayDue q_t_own q_t_ownGets q_t_bestOwn q_t_alone q_t_atMuch q_t_hand q_t_his q_t_its q_t_bytes q_t_anew q_t_values : Nat} {t_above : Int64} {t_below : Int64} {t_leftBehind : Int32} {t_tokenAt : Int32} {t_tokenLong : Int32} {t_token : Int32} {t_value : Int32} {t_takenHours : Int32} {t_bytesLong : Int32} {o : Int32 × Int32} (F : Nat) (h : f_X5_clear F t_bytesLong = some o) : zM l yX5_clear wsX5_clear rm_X5_clear E [.ref q_t] [(q_t, .inr (4, [.ref q_t_told, .ref q_t_kept, .ref q_t_isKept, .ref q_t_refused, .long t_above, .long t_below, .ref q_t_gets, .ref q_t_ahead, .int t_leftBehind, .ref q_t_dayGets, .ref q_t_dayDue, .ref q_t_own, .ref q_t_ownGets, .ref q_t_bestOwn, .ref q_t_alone, .ref q_t_atMuch, .ref q_t_hand, .ref q_t_his, .ref q_t_its, .ref q_t_bytes, .int t_bytesLong, .int t_tokenAt, .int t_tokenLong, .int t_token, .int t_value, .ref q_t_anew, .ref q_t_values, .int t_takenHours]))] (some (.int o.1)) [(q_t, .inr (4, [.ref q_t_told, .ref q_t_kept, .ref q_t_isKept, .ref q_t_refused, .long t_above, .long t_below, .ref q_t_gets, .ref q_t_ahead, .int t_leftBehind, .ref q_t_dayGets, .ref q_t_dayDue, .ref q_t_own, .ref q_t_ownGets, .ref q_t_bestOwn, .ref q_t_alone, .ref q_t_atMuch, .ref q_t_hand, .ref q_t_his, .ref q_t_its, .ref q_t_bytes, .int o.2, .int t_tokenAt, .int t_tokenLong, .int t_token, .int t_value, .ref q_t_anew, .ref q_t_values, .int t_takenHours]))] := by
  refine zM.of (cc := cX5_clear) (maxL := 2) (ret := (some .int)) (by decide +kernel) rfl (Nat.le_of_ble_eq_true rfl) ?_
  intro p e s m args below meth c A C hr
  have C : zC p s m args c meth cX5_clear 2 RX5 wsX5_clear E A := C
  rw [f_X5_clear] at h
  refine z_aload_n C dX5_clear_0 rfl 0 rfl ?_
  refine z_get C inT_X5 0 rfl rfl 20 (by decide) rfl (mc W_693) rfl dX5_clear_1 ?_
  refine z_istore_n (L' := [(1, .int t_bytesLong), (0, .ref q_t)]) C dX5_clear_4 rfl (by decide) rfl ?_
  refine z_aload_n C dX5_clear_5 rfl 1 rfl ?_
  refine z_iconst (v := (0 : Int32)) C dX5_clear_6 (by decide) ?_
  refine z_put (ws' := [(q_t, .inr (4, [.ref q_t_told, .ref q_t_kept, .ref q_t_isKept, .ref q_t_refused, .long t_above, .long t_below, .ref q_t_gets, .ref q_t_ahead, .int t_leftBehind, .ref q_t_dayGets, .ref q_t_dayDue, .ref q_t_own, .ref q_t_ownGets, .ref q_t_bestOwn, .ref q_t_alone, .ref q_t_atMuch, .ref q_t_hand, .ref q_t_his, .ref q_t_its, .ref q_t_bytes, .int (0 : Int32), .int t_tokenAt, .int t_tokenLong, .int t_token, .int t_value, .ref q_t_anew, .ref q_t_values, .int t_takenHours]))]) C inT_X5 tyX5 tyX5_ok nmX5 0 rfl rfl 20 (by decide) rfl (mc W_693) rfl rfl rfl (Nat.le_of_ble_eq_true rfl) rfl dX5_clear_7 ?_
  refine z_iload_n C dX5_clear_10 rfl 0 rfl ?_
  obtain rfl := Option.some.inj h
  exact z_iret (v := t_bytesLong) C hr dX5_clear_11
def rm_X5_isSmall : Room := { frames := 1, cells := 0, slots := 0, locals := 25 }
theorem hd_X5_isSmall : yX5_isSmall.cls ≠ "java/lang/invoke/MethodHandle" ∧ yX5_isSmall.cls ≠ "java/lang/invoke/VarHandle" ∧ (parseMethodDescriptor yX5_isSmall.desc).map (fun d => d.parameters.length) = some 1 := by decide +kernel
abbrev wsX5_isSmall : List Cond := .code yX5_isSmall cX5_isSmall 1 (some .boolean) :: WALL
set_option maxRecDepth 100000 in
set_option maxHeartbeats 4000000 in
theorem c_X5_isSmall {l : Launch} {E : zE} {a0 : Int32} {o : Int32} (F : Nat) (h : f_X5_isSmall F a0 = some o) : zM l yX5_isSmall wsX5_isSmall rm_X5_isSmall E [.int a0] [] (some (.int o)) [] := by
  refine zM.of (cc := cX5_isSmall) (maxL := 1) (ret := (some .boolean)) (by decide +kernel) rfl (Nat.le_of_ble_eq_true rfl) ?_
  intro p e s m args below meth c A C hr
  have C : zC p s m args c meth cX5_isSmall 1 RX5 wsX5_isSmall E A := C
  rw [f_X5_isSmall] at h
  refine z_iload_n C dX5_isSmall_0 rfl 0 rfl ?_
  refine z_i2l C dX5_isSmall_1 ?_
  refine z_ldc2 (v := (97 : Int64)) C dX5_isSmall_2 (mc W_992) ?_
  refine z_ldc2 (v := (122 : Int64)) C dX5_isSmall_5 (mc W_993) ?_
  obtain ⟨o1, ho2, h⟩ := bnd_some h
  refine z_callS (wc := []) (wr := []) (wc' := []) (ws2 := []) (As := [.long a0.toInt64, .long (97 : Int64), .long (122 : Int64)]) (st2 := [.int o1]) C [] [] [] rfl rfl rfl rfl (by decide) rfl rfl (c_X5_in F ho2) (goodST consT W_767 W_768 W_62 W_769) rfl rfl rfl hd_X5_in ⟨Nat.le_of_ble_eq_true rfl, Nat.le_of_ble_eq_true rfl⟩ rfl rfl rfl (Nat.le_of_ble_eq_true rfl) dX5_isSmall_8 ⟨Nat.zero_le _, Nat.zero_le _⟩ ?_
  obtain ⟨c3, h⟩ := chk_some h
  obtain rfl := Option.some.inj h
  exact z_zret (v := o1) C hr (bo_n c3) dX5_isSmall_11
def rm_X5_isFigure : Room := { frames := 1, cells := 0, slots := 0, locals := 25 }
theorem hd_X5_isFigure : yX5_isFigure.cls ≠ "java/lang/invoke/MethodHandle" ∧ yX5_isFigure.cls ≠ "java/lang/invoke/VarHandle" ∧ (parseMethodDescriptor yX5_isFigure.desc).map (fun d => d.parameters.length) = some 1 := by decide +kernel
abbrev wsX5_isFigure : List Cond := .code yX5_isFigure cX5_isFigure 1 (some .boolean) :: WALL
set_option maxRecDepth 100000 in
set_option maxHeartbeats 4000000 in
theorem c_X5_isFigure {l : Launch} {E : zE} {a0 : Int32} {o : Int32} (F : Nat) (h : f_X5_isFigure F a0 = some o) : zM l yX5_isFigure wsX5_isFigure rm_X5_isFigure E [.int a0] [] (some (.int o)) [] := by
  refine zM.of (cc := cX5_isFigure) (maxL := 1) (ret := (some .boolean)) (by decide +kernel) rfl (Nat.le_of_ble_eq_true rfl) ?_
  intro p e s m args below meth c A C hr
  have C : zC p s m args c meth cX5_isFigure 1 RX5 wsX5_isFigure E A := C
  rw [f_X5_isFigure] at h
  refine z_iload_n C dX5_isFigure_0 rfl 0 rfl ?_
  refine z_i2l C dX5_isFigure_1 ?_
  refine z_ldc2 (v := (48 : Int64)) C dX5_isFigure_2 (mc W_997) ?_
  refine z_ldc2 (v := (57 : Int64)) C dX5_isFigure_5 (mc W_998) ?_
  obtain ⟨o1, ho2, h⟩ := bnd_some h
  refine z_callS (wc := []) (wr := []) (wc' := []) (ws2 := []) (As := [.long a0.toInt64, .long (48 : Int64), .long (57 : Int64)]) (st2 := [.int o1]) C [] [] [] rfl rfl rfl rfl (by decide) rfl rfl (c_X5_in F ho2) (goodST consT W_767 W_768 W_62 W_769) rfl rfl rfl hd_X5_in ⟨Nat.le_of_ble_eq_true rfl, Nat.le_of_ble_eq_true rfl⟩ rfl rfl rfl (Nat.le_of_ble_eq_true rfl) dX5_isFigure_8 ⟨Nat.zero_le _, Nat.zero_le _⟩ ?_
  obtain ⟨c3, h⟩ := chk_some h
  obtain rfl := Option.some.inj h
  exact z_zret (v := o1) C hr (bo_n c3) dX5_isFigure_11
def rm_X5_lookAt : Room := { frames := 2, cells := 0, slots := 0, locals := 45 }
theorem hd_X5_lookAt : yX5_lookAt.cls = yX5_lookAt.cls ∧ yX5_lookAt.cls ≠ "java/lang/invoke/MethodHandle" ∧ yX5_lookAt.cls ≠ "java/lang/invoke/VarHandle" ∧ (parseMethodDescriptor yX5_lookAt.desc).map (fun d => d.parameters.length) = some 1 := by decide +kernel
abbrev wsX5_lookAt : List Cond := .code yX5_lookAt cX5_lookAt 5 none :: WALL
set_option maxRecDepth 100000 in
set_option maxHeartbeats 4000000 in
theorem l_X5_lookAt_b208 {p : Program} {l : Launch} {e : Env} {s : State} {m : MethodId} {args : Array Value} {below : List Frame} {meth : Method} {c : Code} {E : zE} {A : Nat → Prop} {q_t q_t_bytes q_t_told q_t_kept q_t_isKept q_t_refused q_t_gets q_t_ahead q_t_dayGets q_t_dayDue q_t_own q_t_ownGets q_t_bestOwn q_t_alone q_t_atMuch q_t_hand q_t_his q_t_its q_t_anew q_t_values : Nat} {t_above : Int64} {t_below : Int64} {t_leftBehind : Int32} {t_takenHours : Int32} {o : Int32 × Int32 × Int32 × Int32} (F : Nat) (a1 : Int32) (t_bytesLong : Int32) (t_bytes : Nat → Int32) (K136 : Int32 → Int32 → Int32 → Int32 → Int32 → Option (Int32 × Int32 × Int32 × Int32)) (C : zC p s m args c meth cX5_lookAt 5 RX5 wsX5_lookAt E A) (hr : meth.sig.returnType = none) (hK136 : ∀ (v3 : Int32) (t_tokenAt : Int32) (t_tokenLong : Int32) (t_token : Int32) (t_value : Int32), K136 v3 t_tokenAt t_tokenLong t_token t_value = some o → zG p l e rm_X5_lookAt s m args below meth c 5 E A 0 0 (MQ below (zQ E A none [(q_t, .inr (4, [.ref q_t_told, .ref q_t_kept, .ref q_t_isKept, .ref q_t_refused, .long t_above, .long t_below, .ref q_t_gets, .ref q_t_ahead, .int t_leftBehind, .ref q_t_dayGets, .ref q_t_dayDue, .ref q_t_own, .ref q_t_ownGets, .ref q_t_bestOwn, .ref q_t_alone, .ref q_t_atMuch, .ref q_t_hand, .ref q_t_his, .ref q_t_its, .ref q_t_bytes, .int t_bytesLong, .int o.1, .int o.2.1, .int o.2.2.1, .int o.2.2.2, .ref q_t_anew, .ref q_t_values, .int t_takenHours])), (q_t_bytes, zI E 150 t_bytes)]) args s 0 0 A) [(q_t, .inr (4, [.ref q_t_told, .ref q_t_kept, .ref q_t_isKept, .ref q_t_refused, .long t_above, .long t_below, .ref q_t_gets, .ref q_t_ahead, .int t_leftBehind, .ref q_t_dayGets, .ref q_t_dayDue, .ref q_t_own, .ref q_t_ownGets, .ref q_t_bestOwn, .ref q_t_alone, .ref q_t_atMuch, .ref q_t_hand, .ref q_t_his, .ref q_t_its, .ref q_t_bytes, .int t_bytesLong, .int t_tokenAt, .int t_tokenLong, .int t_token, .int t_value, .ref q_t_anew, .ref q_t_values, .int t_takenHours])), (q_t_bytes, zI E 150 t_bytes)] 136 [(0, .ref q_t), (3, .int v3)] []) : ∀  (v3 : Int32) (s1 : Int32) (s2 : Int32) (t_tokenAt : Int32) (t_tokenLong : Int32) (t_token : Int32) (t_value : Int32), f_X5_lookAt_b208 F a1 t_bytesLong t_bytes K136 v3 s1 s2 t_tokenAt t_tokenLong t_token t_value = some o → zG p l e rm_X5_lookAt s m args below meth c 5 E A 0 0 (MQ below (zQ E A none [(q_t, .inr (4, [.ref q_t_told, .ref q_t_kept, .ref q_t_isKept, .ref q_t_refused, .long t_above, .long t_below, .ref q_t_gets, .ref q_t_ahead, .int t_leftBehind, .ref q_t_dayGets, .ref q_t_dayDue, .ref q_t_own, .ref q_t_ownGets, .ref q_t_bestOwn, .ref q_t_alone, .ref q_t_atMuch, .ref q_t_hand, .ref q_t_his, .ref q_t_its, .ref q_t_bytes, .int t_bytesLong, .int o.1, .int o.2.1, .int o.2.2.1, .int o.2.2.2, .ref q_t_anew, .ref q_t_values, .int t_takenHours])), (q_t_bytes, zI E 150 t_bytes)]) args s 0 0 A) [(q_t, .inr (4, [.ref q_t_told, .ref q_t_kept, .ref q_t_isKept, .ref q_t_refused, .long t_above, .long t_below, .ref q_t_gets, .ref q_t_ahead, .int t_leftBehind, .ref q_t_dayGets, .ref q_t_dayDue, .ref q_t_own, .ref q_t_ownGets, .ref q_t_bestOwn, .ref q_t_alone, .ref q_t_atMuch, .ref q_t_hand, .ref q_t_his, .ref q_t_its, .ref q_t_bytes, .int t_bytesLong, .int t_tokenAt, .int t_tokenLong, .int t_token, .int t_value, .ref q_t_anew, .ref q_t_values, .int t_takenHours])), (q_t_bytes, zI E 150 t_bytes)] 208 [(0, .ref q_t), (3, .int v3)] [.int s2, .int s1, .ref q_t] := by
  intro v3 s1 s2 t_tokenAt t_tokenLong t_token t_value h
  rw [f_X5_lookAt_b208] at h
  refine z_iadd C dX5_lookAt_208 ?_
  refine z_put (ws' := [(q_t, .inr (4, [.ref q_t_told, .ref q_t_kept, .ref q_t_isKept, .ref q_t_refused, .long t_above, .long t_below, .ref q_t_gets, .ref q_t_ahead, .int t_leftBehind, .ref q_t_dayGets, .ref q_t_dayDue, .ref q_t_own, .ref q_t_ownGets, .ref q_t_bestOwn, .ref q_t_alone, .ref q_t_atMuch, .ref q_t_hand, .ref q_t_his, .ref q_t_its, .ref q_t_bytes, .int t_bytesLong, .int t_tokenAt, .int (s1 + s2), .int t_token, .int t_value, .ref q_t_anew, .ref q_t_values, .int t_takenHours])), (q_t_bytes, zI E 150 t_bytes)]) C inT_X5 tyX5 tyX5_ok nmX5 0 rfl rfl 22 (by decide) rfl (mc W_695) rfl rfl rfl (Nat.le_of_ble_eq_true rfl) rfl dX5_lookAt_209 ?_
  refine z_goto (tgt := 136) C dX5_lookAt_212 (by decide) ?_
  exact hK136 v3 t_tokenAt (s1 + s2) t_token t_value h
set_option maxRecDepth 100000 in
set_option maxHeartbeats 4000000 in
theorem l_X5_lookAt_b193 {p : Program} {l : Launch} {e : Env} {s : State} {m : MethodId} {args : Array Value} {below : List Frame} {meth : Method} {c : Code} {E : zE} {A : Nat → Prop} {q_t q_t_bytes q_t_told q_t_kept q_t_isKept q_t_refused q_t_gets q_t_ahead q_t_dayGets q_t_dayDue q_t_own q_t_ownGets q_t_bestOwn q_t_alone q_t_atMuch q_t_hand q_t_his q_t_its q_t_anew q_t_values : Nat} {t_above : Int64} {t_below : Int64} {t_leftBehind : Int32} {t_takenHours : Int32} {o : Int32 × Int32 × Int32 × Int32} (F : Nat) (a1 : Int32) (t_bytesLong : Int32) (t_bytes : Nat → Int32) (K136 : Int32 → Int32 → Int32 → Int32 → Int32 → Option (Int32 × Int32 × Int32 × Int32)) (C : zC p s m args c meth cX5_lookAt 5 RX5 wsX5_lookAt E A) (hr : meth.sig.returnType = none) (hK136 : ∀ (v3 : Int32) (t_tokenAt : Int32) (t_tokenLong : Int32) (t_token : Int32) (t_value : Int32), K136 v3 t_tokenAt t_tokenLong t_token t_value = some o → zG p l e rm_X5_lookAt s m args below meth c 5 E A 0 0 (MQ below (zQ E A none [(q_t, .inr (4, [.ref q_t_told, .ref q_t_kept, .ref q_t_isKept, .ref q_t_refused, .long t_above, .long t_below, .ref q_t_gets, .ref q_t_ahead, .int t_leftBehind, .ref q_t_dayGets, .ref q_t_dayDue, .ref q_t_own, .ref q_t_ownGets, .ref q_t_bestOwn, .ref q_t_alone, .ref q_t_atMuch, .ref q_t_hand, .ref q_t_his, .ref q_t_its, .ref q_t_bytes, .int t_bytesLong, .int o.1, .int o.2.1, .int o.2.2.1, .int o.2.2.2, .ref q_t_anew, .ref q_t_values, .int t_takenHours])), (q_t_bytes, zI E 150 t_bytes)]) args s 0 0 A) [(q_t, .inr (4, [.ref q_t_told, .ref q_t_kept, .ref q_t_isKept, .ref q_t_refused, .long t_above, .long t_below, .ref q_t_gets, .ref q_t_ahead, .int t_leftBehind, .ref q_t_dayGets, .ref q_t_dayDue, .ref q_t_own, .ref q_t_ownGets, .ref q_t_bestOwn, .ref q_t_alone, .ref q_t_atMuch, .ref q_t_hand, .ref q_t_his, .ref q_t_its, .ref q_t_bytes, .int t_bytesLong, .int t_tokenAt, .int t_tokenLong, .int t_token, .int t_value, .ref q_t_anew, .ref q_t_values, .int t_takenHours])), (q_t_bytes, zI E 150 t_bytes)] 136 [(0, .ref q_t), (3, .int v3)] []) : ∀  (s0 : Int32) (t_tokenAt : Int32) (t_tokenLong : Int32) (t_token : Int32) (t_value : Int32), f_X5_lookAt_b193 F a1 t_bytesLong t_bytes K136 s0 t_tokenAt t_tokenLong t_token t_value = some o → zG p l e rm_X5_lookAt s m args below meth c 5 E A 0 0 (MQ below (zQ E A none [(q_t, .inr (4, [.ref q_t_told, .ref q_t_kept, .ref q_t_isKept, .ref q_t_refused, .long t_above, .long t_below, .ref q_t_gets, .ref q_t_ahead, .int t_leftBehind, .ref q_t_dayGets, .ref q_t_dayDue, .ref q_t_own, .ref q_t_ownGets, .ref q_t_bestOwn, .ref q_t_alone, .ref q_t_atMuch, .ref q_t_hand, .ref q_t_his, .ref q_t_its, .ref q_t_bytes, .int t_bytesLong, .int o.1, .int o.2.1, .int o.2.2.1, .int o.2.2.2, .ref q_t_anew, .ref q_t_values, .int t_takenHours])), (q_t_bytes, zI E 150 t_bytes)]) args s 0 0 A) [(q_t, .inr (4, [.ref q_t_told, .ref q_t_kept, .ref q_t_isKept, .ref q_t_refused, .long t_above, .long t_below, .ref q_t_gets, .ref q_t_ahead, .int t_leftBehind, .ref q_t_dayGets, .ref q_t_dayDue, .ref q_t_own, .ref q_t_ownGets, .ref q_t_bestOwn, .ref q_t_alone, .ref q_t_atMuch, .ref q_t_hand, .ref q_t_his, .ref q_t_its, .ref q_t_bytes, .int t_bytesLong, .int t_tokenAt, .int t_tokenLong, .int t_token, .int t_value, .ref q_t_anew, .ref q_t_values, .int t_takenHours])), (q_t_bytes, zI E 150 t_bytes)] 193 [(0, .ref q_t)] [.int s0] := by
  intro s0 t_tokenAt t_tokenLong t_token t_value h
  rw [f_X5_lookAt_b193] at h
  refine z_istore_n (L' := [(3, .int s0), (0, .ref q_t)]) C dX5_lookAt_193 rfl (by decide) rfl ?_
  refine z_aload_n C dX5_lookAt_194 rfl 1 rfl ?_
  refine z_dup C dX5_lookAt_195 rfl ?_
  refine z_get C inT_X5 0 rfl rfl 22 (by decide) rfl (mc W_695) rfl dX5_lookAt_196 ?_
  refine z_iload_n C dX5_lookAt_199 rfl 0 rfl ?_
  refine z_if_eq (tgt := 207) C dX5_lookAt_200 (by decide) (fun c => ?_) (fun c => ?_)
  · replace h := (if_pos c).symm.trans h
    refine z_iconst (v := (0 : Int32)) C dX5_lookAt_207 (by decide) ?_
    refine z_sub [1, 0] (L' := [(0, .ref q_t), (3, .int s0)]) rfl ?_
    exact (l_X5_lookAt_b208 F a1 t_bytesLong t_bytes K136 C hr hK136) s0 t_tokenLong (0 : Int32) t_tokenAt t_tokenLong t_token t_value h
  · replace h := (if_neg c).symm.trans h
    refine z_iconst (v := (1 : Int32)) C dX5_lookAt_203 (by decide) ?_
    refine z_goto (tgt := 208) C dX5_lookAt_204 (by decide) ?_
    refine z_sub [1, 0] (L' := [(0, .ref q_t), (3, .int s0)]) rfl ?_
    exact (l_X5_lookAt_b208 F a1 t_bytesLong t_bytes K136 C hr hK136) s0 t_tokenLong (1 : Int32) t_tokenAt t_tokenLong t_token t_value h
set_option maxRecDepth 100000 in
set_option maxHeartbeats 4000000 in
theorem l_X5_lookAt_b274 {p : Program} {l : Launch} {e : Env} {s : State} {m : MethodId} {args : Array Value} {below : List Frame} {meth : Method} {c : Code} {E : zE} {A : Nat → Prop} {q_t q_t_bytes q_t_told q_t_kept q_t_isKept q_t_refused q_t_gets q_t_ahead q_t_dayGets q_t_dayDue q_t_own q_t_ownGets q_t_bestOwn q_t_alone q_t_atMuch q_t_hand q_t_his q_t_its q_t_anew q_t_values : Nat} {t_above : Int64} {t_below : Int64} {t_leftBehind : Int32} {t_takenHours : Int32} {o : Int32 × Int32 × Int32 × Int32} (F : Nat) (a1 : Int32) (t_bytesLong : Int32) (t_bytes : Nat → Int32) (C : zC p s m args c meth cX5_lookAt 5 RX5 wsX5_lookAt E A) (hr : meth.sig.returnType = none) : ∀  (t_tokenAt : Int32) (t_tokenLong : Int32) (t_token : Int32) (t_value : Int32), f_X5_lookAt_b274 F a1 t_bytesLong t_bytes t_tokenAt t_tokenLong t_token t_value = some o → zG p l e rm_X5_lookAt s m args below meth c 5 E A 0 0 (MQ below (zQ E A none [(q_t, .inr (4, [.ref q_t_told, .ref q_t_kept, .ref q_t_isKept, .ref q_t_refused, .long t_above, .long t_below, .ref q_t_gets, .ref q_t_ahead, .int t_leftBehind, .ref q_t_dayGets, .ref q_t_dayDue, .ref q_t_own, .ref q_t_ownGets, .ref q_t_bestOwn, .ref q_t_alone, .ref q_t_atMuch, .ref q_t_hand, .ref q_t_his, .ref q_t_its, .ref q_t_bytes, .int t_bytesLong, .int o.1, .int o.2.1, .int o.2.2.1, .int o.2.2.2, .ref q_t_anew, .ref q_t_values, .int t_takenHours])), (q_t_bytes, zI E 150 t_bytes)]) args s 0 0 A) [(q_t, .inr (4, [.ref q_t_told, .ref q_t_kept, .ref q_t_isKept, .ref q_t_refused, .long t_above, .long t_below, .ref q_t_gets, .ref q_t_ahead, .int t_leftBehind, .ref q_t_dayGets, .ref q_t_dayDue, .ref q_t_own, .ref q_t_ownGets, .ref q_t_bestOwn, .ref q_t_alone, .ref q_t_atMuch, .ref q_t_hand, .ref q_t_his, .ref q_t_its, .ref q_t_bytes, .int t_bytesLong, .int t_tokenAt, .int t_tokenLong, .int t_token, .int t_value, .ref q_t_anew, .ref q_t_values, .int t_takenHours])), (q_t_bytes, zI E 150 t_bytes)] 274 [(0, .ref q_t)] [] := by
  intro t_tokenAt t_tokenLong t_token t_value h
  rw [f_X5_lookAt_b274] at h
  refine z_aload_n C dX5_lookAt_274 rfl 0 rfl ?_
  refine z_aload_n C dX5_lookAt_275 rfl 0 rfl ?_
  refine z_get C inT_X5 0 rfl rfl 23 (by decide) rfl (mc W_696) rfl dX5_lookAt_276 ?_
  refine z_iconst (v := (2 : Int32)) C dX5_lookAt_279 (by decide) ?_
  refine z_icmp_ne (tgt := 295) C dX5_lookAt_280 (by decide) (fun c => ?_) (fun c => ?_)
  · replace h := (if_neg c).symm.trans h
    refine z_aload_n C dX5_lookAt_295 rfl 0 rfl ?_
    refine z_get C inT_X5 0 rfl rfl 23 (by decide) rfl (mc W_696) rfl dX5_lookAt_296 ?_
    refine z_put (ws' := [(q_t, .inr (4, [.ref q_t_told, .ref q_t_kept, .ref q_t_isKept, .ref q_t_refused, .long t_above, .long t_below, .ref q_t_gets, .ref q_t_ahead, .int t_leftBehind, .ref q_t_dayGets, .ref q_t_dayDue, .ref q_t_own, .ref q_t_ownGets, .ref q_t_bestOwn, .ref q_t_alone, .ref q_t_atMuch, .ref q_t_hand, .ref q_t_his, .ref q_t_its, .ref q_t_bytes, .int t_bytesLong, .int t_tokenAt, .int t_tokenLong, .int t_token, .int t_value, .ref q_t_anew, .ref q_t_values, .int t_takenHours])), (q_t_bytes, zI E 150 t_bytes)]) C inT_X5 tyX5 tyX5_ok nmX5 0 rfl rfl 23 (by decide) rfl (mc W_696) rfl rfl rfl (Nat.le_of_ble_eq_true rfl) rfl dX5_lookAt_299 ?_
    obtain rfl := Option.some.inj h
    exact z_vret C hr dX5_lookAt_302
  · replace h := (if_pos c).symm.trans h
    refine z_aload_n C dX5_lookAt_283 rfl 0 rfl ?_
    refine z_get C inT_X5 0 rfl rfl 22 (by decide) rfl (mc W_695) rfl dX5_lookAt_284 ?_
    refine z_iconst (v := (2 : Int32)) C dX5_lookAt_287 (by decide) ?_
    refine z_icmp_le (tgt := 295) C dX5_lookAt_288 (by decide) (fun c => ?_) (fun c => ?_)
    · replace h := (if_pos c).symm.trans h
      refine z_aload_n C dX5_lookAt_295 rfl 0 rfl ?_
      refine z_get C inT_X5 0 rfl rfl 23 (by decide) rfl (mc W_696) rfl dX5_lookAt_296 ?_
      refine z_put (ws' := [(q_t, .inr (4, [.ref q_t_told, .ref q_t_kept, .ref q_t_isKept, .ref q_t_refused, .long t_above, .long t_below, .ref q_t_gets, .ref q_t_ahead, .int t_leftBehind, .ref q_t_dayGets, .ref q_t_dayDue, .ref q_t_own, .ref q_t_ownGets, .ref q_t_bestOwn, .ref q_t_alone, .ref q_t_atMuch, .ref q_t_hand, .ref q_t_his, .ref q_t_its, .ref q_t_bytes, .int t_bytesLong, .int t_tokenAt, .int t_tokenLong, .int t_token, .int t_value, .ref q_t_anew, .ref q_t_values, .int t_takenHours])), (q_t_bytes, zI E 150 t_bytes)]) C inT_X5 tyX5 tyX5_ok nmX5 0 rfl rfl 23 (by decide) rfl (mc W_696) rfl rfl rfl (Nat.le_of_ble_eq_true rfl) rfl dX5_lookAt_299 ?_
      obtain rfl := Option.some.inj h
      exact z_vret C hr dX5_lookAt_302
    · replace h := (if_neg c).symm.trans h
      refine z_iconst (v := (4 : Int32)) C dX5_lookAt_291 (by decide) ?_
      refine z_goto (tgt := 299) C dX5_lookAt_292 (by decide) ?_
      refine z_put (ws' := [(q_t, .inr (4, [.ref q_t_told, .ref q_t_kept, .ref q_t_isKept, .ref q_t_refused, .long t_above, .long t_below, .ref q_t_gets, .ref q_t_ahead, .int t_leftBehind, .ref q_t_dayGets, .ref q_t_dayDue, .ref q_t_own, .ref q_t_ownGets, .ref q_t_bestOwn, .ref q_t_alone, .ref q_t_atMuch, .ref q_t_hand, .ref q_t_his, .ref q_t_its, .ref q_t_bytes, .int t_bytesLong, .int t_tokenAt, .int t_tokenLong, .int (4 : Int32), .int t_value, .ref q_t_anew, .ref q_t_values, .int t_takenHours])), (q_t_bytes, zI E 150 t_bytes)]) C inT_X5 tyX5 tyX5_ok nmX5 0 rfl rfl 23 (by decide) rfl (mc W_696) rfl rfl rfl (Nat.le_of_ble_eq_true rfl) rfl dX5_lookAt_299 ?_
      obtain rfl := Option.some.inj h
      exact z_vret C hr dX5_lookAt_302
set_option maxRecDepth 100000 in
set_option maxHeartbeats 4000000 in
theorem l_X5_lookAt_b218 {p : Program} {l : Launch} {e : Env} {s : State} {m : MethodId} {args : Array Value} {below : List Frame} {meth : Method} {c : Code} {E : zE} {A : Nat → Prop} {q_t q_t_bytes q_t_told q_t_kept q_t_isKept q_t_refused q_t_gets q_t_ahead q_t_dayGets q_t_dayDue q_t_own q_t_ownGets q_t_bestOwn q_t_alone q_t_atMuch q_t_hand q_t_his q_t_its q_t_anew q_t_values : Nat} {t_above : Int64} {t_below : Int64} {t_leftBehind : Int32} {t_takenHours : Int32} {o : Int32 × Int32 × Int32 × Int32} (F : Nat) (a1 : Int32) (t_bytesLong : Int32) (t_bytes : Nat → Int32) (C : zC p s m args c meth cX5_lookAt 5 RX5 wsX5_lookAt E A) (hr : meth.sig.returnType = none) : ∀ (n : Nat) (v4 : Int32) (t_tokenAt : Int32) (t_tokenLong : Int32) (t_token : Int32) (t_value : Int32), f_X5_lookAt_b218 F a1 t_bytesLong t_bytes n v4 t_tokenAt t_tokenLong t_token t_value = some o → zG p l e rm_X5_lookAt s m args below meth c 5 E A 0 0 (MQ below (zQ E A none [(q_t, .inr (4, [.ref q_t_told, .ref q_t_kept, .ref q_t_isKept, .ref q_t_refused, .long t_above, .long t_below, .ref q_t_gets, .ref q_t_ahead, .int t_leftBehind, .ref q_t_dayGets, .ref q_t_dayDue, .ref q_t_own, .ref q_t_ownGets, .ref q_t_bestOwn, .ref q_t_alone, .ref q_t_atMuch, .ref q_t_hand, .ref q_t_his, .ref q_t_its, .ref q_t_bytes, .int t_bytesLong, .int o.1, .int o.2.1, .int o.2.2.1, .int o.2.2.2, .ref q_t_anew, .ref q_t_values, .int t_takenHours])), (q_t_bytes, zI E 150 t_bytes)]) args s 0 0 A) [(q_t, .inr (4, [.ref q_t_told, .ref q_t_kept, .ref q_t_isKept, .ref q_t_refused, .long t_above, .long t_below, .ref q_t_gets, .ref q_t_ahead, .int t_leftBehind, .ref q_t_dayGets, .ref q_t_dayDue, .ref q_t_own, .ref q_t_ownGets, .ref q_t_bestOwn, .ref q_t_alone, .ref q_t_atMuch, .ref q_t_hand, .ref q_t_his, .ref q_t_its, .ref q_t_bytes, .int t_bytesLong, .int t_tokenAt, .int t_tokenLong, .int t_token, .int t_value, .ref q_t_anew, .ref q_t_values, .int t_takenHours])), (q_t_bytes, zI E 150 t_bytes)] 218 [(0, .ref q_t), (4, .int v4)] [] := by
  intro n
  induction n with
  | zero =>
    intro v4 t_tokenAt t_tokenLong t_token t_value h
    rw [f_X5_lookAt_b218] at h
    cases h
  | succ n ih =>
    intro v4 t_tokenAt t_tokenLong t_token t_value h
    rw [f_X5_lookAt_b218] at h
    refine z_iload C dX5_lookAt_218 1 rfl ?_
    refine z_aload_n C dX5_lookAt_220 rfl 0 rfl ?_
    refine z_get C inT_X5 0 rfl rfl 22 (by decide) rfl (mc W_695) rfl dX5_lookAt_221 ?_
    refine z_icmp_ge (tgt := 274) C dX5_lookAt_224 (by decide) (fun c => ?_) (fun c => ?_)
    · replace h := (if_pos c).symm.trans h
      refine z_sub [0] (L' := [(0, .ref q_t)]) rfl ?_
      exact (l_X5_lookAt_b274 F a1 t_bytesLong t_bytes C hr) t_tokenAt t_tokenLong t_token t_value h
    · replace h := (if_neg c).symm.trans h
      refine z_iload C dX5_lookAt_227 1 rfl ?_
      refine z_iconst (v := (2 : Int32)) C dX5_lookAt_229 (by decide) ?_
      refine z_icmp_ge (tgt := 274) C dX5_lookAt_230 (by decide) (fun c => ?_) (fun c => ?_)
      · replace h := (if_pos c).symm.trans h
        refine z_sub [0] (L' := [(0, .ref q_t)]) rfl ?_
        exact (l_X5_lookAt_b274 F a1 t_bytesLong t_bytes C hr) t_tokenAt t_tokenLong t_token t_value h
      · replace h := (if_neg c).symm.trans h
        refine z_aload_n C dX5_lookAt_233 rfl 0 rfl ?_
        refine z_get C inT_X5 0 rfl rfl 23 (by decide) rfl (mc W_696) rfl dX5_lookAt_234 ?_
        refine z_iconst (v := (2 : Int32)) C dX5_lookAt_237 (by decide) ?_
        refine z_icmp_ne (tgt := 274) C dX5_lookAt_238 (by decide) (fun c => ?_) (fun c => ?_)
        · replace h := (if_neg c).symm.trans h
          refine z_sub [0] (L' := [(0, .ref q_t)]) rfl ?_
          exact (l_X5_lookAt_b274 F a1 t_bytesLong t_bytes C hr) t_tokenAt t_tokenLong t_token t_value h
        · replace h := (if_pos c).symm.trans h
          refine z_aload_n C dX5_lookAt_241 rfl 0 rfl ?_
          refine z_bipush (v := (10 : Int32)) C dX5_lookAt_242 (by decide) ?_
          refine z_aload_n C dX5_lookAt_244 rfl 0 rfl ?_
          refine z_get C inT_X5 0 rfl rfl 24 (by decide) rfl (mc W_697) rfl dX5_lookAt_245 ?_
          refine z_imul C dX5_lookAt_248 ?_
          refine z_aload_n C dX5_lookAt_249 rfl 0 rfl ?_
          refine z_get C inT_X5 0 rfl rfl 19 (by decide) rfl (mc W_692) rfl dX5_lookAt_250 ?_
          refine z_aload_n C dX5_lookAt_253 rfl 0 rfl ?_
          refine z_get C inT_X5 0 rfl rfl 21 (by decide) rfl (mc W_694) rfl dX5_lookAt_254 ?_
          refine z_iload C dX5_lookAt_257 1 rfl ?_
          refine z_iadd C dX5_lookAt_259 ?_
          obtain ⟨c12, h⟩ := chk_some h
          refine z_iald C 1 rfl c12 dX5_lookAt_260 ?_
          refine z_iadd C dX5_lookAt_261 ?_
          refine z_bipush (v := (48 : Int32)) C dX5_lookAt_262 (by decide) ?_
          refine z_isub C dX5_lookAt_264 ?_
          refine z_put (ws' := [(q_t, .inr (4, [.ref q_t_told, .ref q_t_kept, .ref q_t_isKept, .ref q_t_refused, .long t_above, .long t_below, .ref q_t_gets, .ref q_t_ahead, .int t_leftBehind, .ref q_t_dayGets, .ref q_t_dayDue, .ref q_t_own, .ref q_t_ownGets, .ref q_t_bestOwn, .ref q_t_alone, .ref q_t_atMuch, .ref q_t_hand, .ref q_t_his, .ref q_t_its, .ref q_t_bytes, .int t_bytesLong, .int t_tokenAt, .int t_tokenLong, .int t_token, .int ((((10 : Int32) * t_value) + (t_bytes (t_tokenAt + v4).toNatClampNeg)) - (48 : Int32)), .ref q_t_anew, .ref q_t_values, .int t_takenHours])), (q_t_bytes, zI E 150 t_bytes)]) C inT_X5 tyX5 tyX5_ok nmX5 0 rfl rfl 24 (by decide) rfl (mc W_697) rfl rfl rfl (Nat.le_of_ble_eq_true rfl) rfl dX5_lookAt_265 ?_
          refine z_iinc (v := v4 + (1 : Int32)) (L' := [(4, .int (v4 + (1 : Int32))), (0, .ref q_t)]) C dX5_lookAt_268 1 rfl rfl (by decide) rfl ?_
          refine z_goto (tgt := 218) C dX5_lookAt_271 (by decide) ?_
          refine z_sub [1, 0] (L' := [(0, .ref q_t), (4, .int (v4 + (1 : Int32)))]) rfl ?_
          exact ih (v4 + (1 : Int32)) t_tokenAt t_tokenLong t_token ((((10 : Int32) * t_value) + (t_bytes (t_tokenAt + v4).toNatClampNeg)) - (48 : Int32)) h
set_option maxRecDepth 100000 in
set_option maxHeartbeats 4000000 in
theorem l_X5_lookAt_b215 {p : Program} {l : Launch} {e : Env} {s : State} {m : MethodId} {args : Array Value} {below : List Frame} {meth : Method} {c : Code} {E : zE} {A : Nat → Prop} {q_t q_t_bytes q_t_told q_t_kept q_t_isKept q_t_refused q_t_gets q_t_ahead q_t_dayGets q_t_dayDue q_t_own q_t_ownGets q_t_bestOwn q_t_alone q_t_atMuch q_t_hand q_t_his q_t_its q_t_anew q_t_values : Nat} {t_above : Int64} {t_below : Int64} {t_leftBehind : Int32} {t_takenHours : Int32} {o : Int32 × Int32 × Int32 × Int32} (F : Nat) (a1 : Int32) (t_bytesLong : Int32) (t_bytes : Nat → Int32) (C : zC p s m args c meth cX5_lookAt 5 RX5 wsX5_lookAt E A) (hr : meth.sig.returnType = none) : ∀  (t_tokenAt : Int32) (t_tokenLong : Int32) (t_token : Int32) (t_value : Int32), f_X5_lookAt_b215 F a1 t_bytesLong t_bytes t_tokenAt t_tokenLong t_token t_value = some o → zG p l e rm_X5_lookAt s m args below meth c 5 E A 0 0 (MQ below (zQ E A none [(q_t, .inr (4, [.ref q_t_told, .ref q_t_kept, .ref q_t_isKept, .ref q_t_refused, .long t_above, .long t_below, .ref q_t_gets, .ref q_t_ahead, .int t_leftBehind, .ref q_t_dayGets, .ref q_t_dayDue, .ref q_t_own, .ref q_t_ownGets, .ref q_t_bestOwn, .ref q_t_alone, .ref q_t_atMuch, .ref q_t_hand, .ref q_t_his, .ref q_t_its, .ref q_t_bytes, .int t_bytesLong, .int o.1, .int o.2.1, .int o.2.2.1, .int o.2.2.2, .ref q_t_anew, .ref q_t_values, .int t_takenHours])), (q_t_bytes, zI E 150 t_bytes)]) args s 0 0 A) [(q_t, .inr (4, [.ref q_t_told, .ref q_t_kept, .ref q_t_isKept, .ref q_t_refused, .long t_above, .long t_below, .ref q_t_gets, .ref q_t_ahead, .int t_leftBehind, .ref q_t_dayGets, .ref q_t_dayDue, .ref q_t_own, .ref q_t_ownGets, .ref q_t_bestOwn, .ref q_t_alone, .ref q_t_atMuch, .ref q_t_hand, .ref q_t_his, .ref q_t_its, .ref q_t_bytes, .int t_bytesLong, .int t_tokenAt, .int t_tokenLong, .int t_token, .int t_value, .ref q_t_anew, .ref q_t_values, .int t_takenHours])), (q_t_bytes, zI E 150 t_bytes)] 215 [(0, .ref q_t)] [] := by
  intro t_tokenAt t_tokenLong t_token t_value h
  rw [f_X5_lookAt_b215] at h
  refine z_iconst (v := (0 : Int32)) C dX5_lookAt_215 (by decide) ?_
  refine z_istore (L' := [(4, .int (0 : Int32)), (0, .ref q_t)]) C dX5_lookAt_216 (by decide) rfl ?_
  refine z_sub [1, 0] (L' := [(0, .ref q_t), (4, .int (0 : Int32))]) rfl ?_
  exact (l_X5_lookAt_b218 F a1 t_bytesLong t_bytes C hr F) (0 : Int32) t_tokenAt t_tokenLong t_token t_value h
set_option maxRecDepth 100000 in
set_option maxHeartbeats 4000000 in
theorem l_X5_lookAt_b136 {p : Program} {l : Launch} {e : Env} {s : State} {m : MethodId} {args : Array Value} {below : List Frame} {meth : Method} {c : Code} {E : zE} {A : Nat → Prop} {q_t q_t_bytes q_t_told q_t_kept q_t_isKept q_t_refused q_t_gets q_t_ahead q_t_dayGets q_t_dayDue q_t_own q_t_ownGets q_t_bestOwn q_t_alone q_t_atMuch q_t_hand q_t_his q_t_its q_t_anew q_t_values : Nat} {t_above : Int64} {t_below : Int64} {t_leftBehind : Int32} {t_takenHours : Int32} {o : Int32 × Int32 × Int32 × Int32} (F : Nat) (a1 : Int32) (t_bytesLong : Int32) (t_bytes : Nat → Int32) (C : zC p s m args c meth cX5_lookAt 5 RX5 wsX5_lookAt E A) (hr : meth.sig.returnType = none) : ∀ (n : Nat) (v3 : Int32) (t_tokenAt : Int32) (t_tokenLong : Int32) (t_token : Int32) (t_value : Int32), f_X5_lookAt_b136 F a1 t_bytesLong t_bytes n v3 t_tokenAt t_tokenLong t_token t_value = some o → zG p l e rm_X5_lookAt s m args below meth c 5 E A 0 0 (MQ below (zQ E A none [(q_t, .inr (4, [.ref q_t_told, .ref q_t_kept, .ref q_t_isKept, .ref q_t_refused, .long t_above, .long t_below, .ref q_t_gets, .ref q_t_ahead, .int t_leftBehind, .ref q_t_dayGets, .ref q_t_dayDue, .ref q_t_own, .ref q_t_ownGets, .ref q_t_bestOwn, .ref q_t_alone, .ref q_t_atMuch, .ref q_t_hand, .ref q_t_his, .ref q_t_its, .ref q_t_bytes, .int t_bytesLong, .int o.1, .int o.2.1, .int o.2.2.1, .int o.2.2.2, .ref q_t_anew, .ref q_t_values, .int t_takenHours])), (q_t_bytes, zI E 150 t_bytes)]) args s 0 0 A) [(q_t, .inr (4, [.ref q_t_told, .ref q_t_kept, .ref q_t_isKept, .ref q_t_refused, .long t_above, .long t_below, .ref q_t_gets, .ref q_t_ahead, .int t_leftBehind, .ref q_t_dayGets, .ref q_t_dayDue, .ref q_t_own, .ref q_t_ownGets, .ref q_t_bestOwn, .ref q_t_alone, .ref q_t_atMuch, .ref q_t_hand, .ref q_t_his, .ref q_t_its, .ref q_t_bytes, .int t_bytesLong, .int t_tokenAt, .int t_tokenLong, .int t_token, .int t_value, .ref q_t_anew, .ref q_t_values, .int t_takenHours])), (q_t_bytes, zI E 150 t_bytes)] 136 [(0, .ref q_t), (3, .int v3)] [] := by
  intro n
  induction n with
  | zero =>
    intro v3 t_tokenAt t_tokenLong t_token t_value h
    rw [f_X5_lookAt_b136] at h
    cases h
  | succ n ih =>
    intro v3 t_tokenAt t_tokenLong t_token t_value h
    rw [f_X5_lookAt_b136] at h
    refine z_iload_n C dX5_lookAt_136 rfl 1 rfl ?_
    refine z_if_eq (tgt := 215) C dX5_lookAt_137 (by decide) (fun c => ?_) (fun c => ?_)
    · replace h := (if_pos c).symm.trans h
      refine z_sub [0] (L' := [(0, .ref q_t)]) rfl ?_
      exact (l_X5_lookAt_b215 F a1 t_bytesLong t_bytes C hr) t_tokenAt t_tokenLong t_token t_value h
    · replace h := (if_neg c).symm.trans h
      refine z_aload_n C dX5_lookAt_140 rfl 0 rfl ?_
      refine z_get C inT_X5 0 rfl rfl 21 (by decide) rfl (mc W_694) rfl dX5_lookAt_141 ?_
      refine z_aload_n C dX5_lookAt_144 rfl 0 rfl ?_
      refine z_get C inT_X5 0 rfl rfl 22 (by decide) rfl (mc W_695) rfl dX5_lookAt_145 ?_
      refine z_iadd C dX5_lookAt_148 ?_
      refine z_aload_n C dX5_lookAt_149 rfl 0 rfl ?_
      refine z_get C inT_X5 0 rfl rfl 20 (by decide) rfl (mc W_693) rfl dX5_lookAt_150 ?_
      refine z_icmp_ge (tgt := 215) C dX5_lookAt_153 (by decide) (fun c => ?_) (fun c => ?_)
      · replace h := (if_pos c).symm.trans h
        refine z_sub [0] (L' := [(0, .ref q_t)]) rfl ?_
        exact (l_X5_lookAt_b215 F a1 t_bytesLong t_bytes C hr) t_tokenAt t_tokenLong t_token t_value h
      · replace h := (if_neg c).symm.trans h
        refine z_aload_n C dX5_lookAt_156 rfl 0 rfl ?_
        refine z_get C inT_X5 0 rfl rfl 19 (by decide) rfl (mc W_692) rfl dX5_lookAt_157 ?_
        refine z_aload_n C dX5_lookAt_160 rfl 0 rfl ?_
        refine z_get C inT_X5 0 rfl rfl 21 (by decide) rfl (mc W_694) rfl dX5_lookAt_161 ?_
        refine z_aload_n C dX5_lookAt_164 rfl 0 rfl ?_
        refine z_get C inT_X5 0 rfl rfl 22 (by decide) rfl (mc W_695) rfl dX5_lookAt_165 ?_
        refine z_iadd C dX5_lookAt_168 ?_
        obtain ⟨c7, h⟩ := chk_some h
        refine z_iald C 1 rfl c7 dX5_lookAt_169 ?_
        refine z_istore (L' := [(4, .int (t_bytes (t_tokenAt + t_tokenLong).toNatClampNeg)), (0, .ref q_t), (3, .int v3)]) C dX5_lookAt_170 (by decide) rfl ?_
        refine z_aload_n C dX5_lookAt_172 rfl 1 rfl ?_
        refine z_get C inT_X5 0 rfl rfl 23 (by decide) rfl (mc W_696) rfl dX5_lookAt_173 ?_
        refine z_iconst (v := (1 : Int32)) C dX5_lookAt_176 (by decide) ?_
        refine z_icmp_ne (tgt := 188) C dX5_lookAt_177 (by decide) (fun c => ?_) (fun c => ?_)
        · replace h := (if_neg c).symm.trans h
          refine z_iload C dX5_lookAt_188 0 rfl ?_
          obtain ⟨o8, ho9, h⟩ := bnd_some h
          refine z_callS (wc := []) (wr := [(q_t, .inr (4, [.ref q_t_told, .ref q_t_kept, .ref q_t_isKept, .ref q_t_refused, .long t_above, .long t_below, .ref q_t_gets, .ref q_t_ahead, .int t_leftBehind, .ref q_t_dayGets, .ref q_t_dayDue, .ref q_t_own, .ref q_t_ownGets, .ref q_t_bestOwn, .ref q_t_alone, .ref q_t_atMuch, .ref q_t_hand, .ref q_t_his, .ref q_t_its, .ref q_t_bytes, .int t_bytesLong, .int t_tokenAt, .int t_tokenLong, .int t_token, .int t_value, .ref q_t_anew, .ref q_t_values, .int t_takenHours])), (q_t_bytes, zI E 150 t_bytes)]) (wc' := []) (ws2 := [(q_t, .inr (4, [.ref q_t_told, .ref q_t_kept, .ref q_t_isKept, .ref q_t_refused, .long t_above, .long t_below, .ref q_t_gets, .ref q_t_ahead, .int t_leftBehind, .ref q_t_dayGets, .ref q_t_dayDue, .ref q_t_own, .ref q_t_ownGets, .ref q_t_bestOwn, .ref q_t_alone, .ref q_t_atMuch, .ref q_t_hand, .ref q_t_his, .ref q_t_its, .ref q_t_bytes, .int t_bytesLong, .int t_tokenAt, .int t_tokenLong, .int t_token, .int t_value, .ref q_t_anew, .ref q_t_values, .int t_takenHours])), (q_t_bytes, zI E 150 t_bytes)]) (As := [.int (t_bytes (t_tokenAt + t_tokenLong).toNatClampNeg)]) (st2 := [.int o8]) C [] [0, 1] [0, 1] rfl rfl rfl rfl (by decide) rfl rfl (c_X5_isFigure F ho9) (goodST consT W_994 W_995 W_62 W_996) rfl rfl rfl hd_X5_isFigure ⟨Nat.le_of_ble_eq_true rfl, Nat.le_of_ble_eq_true rfl⟩ rfl rfl rfl (Nat.le_of_ble_eq_true rfl) dX5_lookAt_190 ⟨Nat.zero_le _, Nat.zero_le _⟩ ?_
          refine z_sub [1] (L' := [(0, .ref q_t)]) rfl ?_
          exact (l_X5_lookAt_b193 F a1 t_bytesLong t_bytes (f_X5_lookAt_b136 F a1 t_bytesLong t_bytes n) C hr ih) o8 t_tokenAt t_tokenLong t_token t_value h
        · replace h := (if_pos c).symm.trans h
          refine z_iload C dX5_lookAt_180 0 rfl ?_
          obtain ⟨o10, ho11, h⟩ := bnd_some h
          refine z_callS (wc := []) (wr := [(q_t, .inr (4, [.ref q_t_told, .ref q_t_kept, .ref q_t_isKept, .ref q_t_refused, .long t_above, .long t_below, .ref q_t_gets, .ref q_t_ahead, .int t_leftBehind, .ref q_t_dayGets, .ref q_t_dayDue, .ref q_t_own, .ref q_t_ownGets, .ref q_t_bestOwn, .ref q_t_alone, .ref q_t_atMuch, .ref q_t_hand, .ref q_t_his, .ref q_t_its, .ref q_t_bytes, .int t_bytesLong, .int t_tokenAt, .int t_tokenLong, .int t_token, .int t_value, .ref q_t_anew, .ref q_t_values, .int t_takenHours])), (q_t_bytes, zI E 150 t_bytes)]) (wc' := []) (ws2 := [(q_t, .inr (4, [.ref q_t_told, .ref q_t_kept, .ref q_t_isKept, .ref q_t_refused, .long t_above, .long t_below, .ref q_t_gets, .ref q_t_ahead, .int t_leftBehind, .ref q_t_dayGets, .ref q_t_dayDue, .ref q_t_own, .ref q_t_ownGets, .ref q_t_bestOwn, .ref q_t_alone, .ref q_t_atMuch, .ref q_t_hand, .ref q_t_his, .ref q_t_its, .ref q_t_bytes, .int t_bytesLong, .int t_tokenAt, .int t_tokenLong, .int t_token, .int t_value, .ref q_t_anew, .ref q_t_values, .int t_takenHours])), (q_t_bytes, zI E 150 t_bytes)]) (As := [.int (t_bytes (t_tokenAt + t_tokenLong).toNatClampNeg)]) (st2 := [.int o10]) C [] [0, 1] [0, 1] rfl rfl rfl rfl (by decide) rfl rfl (c_X5_isSmall F ho11) (goodST consT W_989 W_990 W_62 W_991) rfl rfl rfl hd_X5_isSmall ⟨Nat.le_of_ble_eq_true rfl, Nat.le_of_ble_eq_true rfl⟩ rfl rfl rfl (Nat.le_of_ble_eq_true rfl) dX5_lookAt_182 ⟨Nat.zero_le _, Nat.zero_le _⟩ ?_
          refine z_goto (tgt := 193) C dX5_lookAt_185 (by decide) ?_
          refine z_sub [1] (L' := [(0, .ref q_t)]) rfl ?_
          exact (l_X5_lookAt_b193 F a1 t_bytesLong t_bytes (f_X5_lookAt_b136 F a1 t_bytesLong t_bytes n) C hr ih) o10 t_tokenAt t_tokenLong t_token t_value h
set_option maxRecDepth 100000 in
set_option maxHeartbeats 4000000 in
theorem l_X5_lookAt_b135 {p : Program} {l : Launch} {e : Env} {s : State} {m : MethodId} {args : Array Value} {below : List Frame} {meth : Method} {c : Code} {E : zE} {A : Nat → Prop} {q_t q_t_bytes q_t_told q_t_kept q_t_isKept q_t_refused q_t_gets q_t_ahead q_t_dayGets q_t_dayDue q_t_own q_t_ownGets q_t_bestOwn q_t_alone q_t_atMuch q_t_hand q_t_his q_t_its q_t_anew q_t_values : Nat} {t_above : Int64} {t_below : Int64} {t_leftBehind : Int32} {t_takenHours : Int32} {o : Int32 × Int32 × Int32 × Int32} (F : Nat) (a1 : Int32) (t_bytesLong : Int32) (t_bytes : Nat → Int32) (C : zC p s m args c meth cX5_lookAt 5 RX5 wsX5_lookAt E A) (hr : meth.sig.returnType = none) : ∀  (s0 : Int32) (t_tokenAt : Int32) (t_tokenLong : Int32) (t_token : Int32) (t_value : Int32), f_X5_lookAt_b135 F a1 t_bytesLong t_bytes s0 t_tokenAt t_tokenLong t_token t_value = some o → zG p l e rm_X5_lookAt s m args below meth c 5 E A 0 0 (MQ below (zQ E A none [(q_t, .inr (4, [.ref q_t_told, .ref q_t_kept, .ref q_t_isKept, .ref q_t_refused, .long t_above, .long t_below, .ref q_t_gets, .ref q_t_ahead, .int t_leftBehind, .ref q_t_dayGets, .ref q_t_dayDue, .ref q_t_own, .ref q_t_ownGets, .ref q_t_bestOwn, .ref q_t_alone, .ref q_t_atMuch, .ref q_t_hand, .ref q_t_his, .ref q_t_its, .ref q_t_bytes, .int t_bytesLong, .int o.1, .int o.2.1, .int o.2.2.1, .int o.2.2.2, .ref q_t_anew, .ref q_t_values, .int t_takenHours])), (q_t_bytes, zI E 150 t_bytes)]) args s 0 0 A) [(q_t, .inr (4, [.ref q_t_told, .ref q_t_kept, .ref q_t_isKept, .ref q_t_refused, .long t_above, .long t_below, .ref q_t_gets, .ref q_t_ahead, .int t_leftBehind, .ref q_t_dayGets, .ref q_t_dayDue, .ref q_t_own, .ref q_t_ownGets, .ref q_t_bestOwn, .ref q_t_alone, .ref q_t_atMuch, .ref q_t_hand, .ref q_t_his, .ref q_t_its, .ref q_t_bytes, .int t_bytesLong, .int t_tokenAt, .int t_tokenLong, .int t_token, .int t_value, .ref q_t_anew, .ref q_t_values, .int t_takenHours])), (q_t_bytes, zI E 150 t_bytes)] 135 [(0, .ref q_t)] [.int s0] := by
  intro s0 t_tokenAt t_tokenLong t_token t_value h
  rw [f_X5_lookAt_b135] at h
  refine z_istore_n (L' := [(3, .int s0), (0, .ref q_t)]) C dX5_lookAt_135 rfl (by decide) rfl ?_
  refine z_sub [1, 0] (L' := [(0, .ref q_t), (3, .int s0)]) rfl ?_
  exact (l_X5_lookAt_b136 F a1 t_bytesLong t_bytes C hr F) s0 t_tokenAt t_tokenLong t_token t_value h
set_option maxRecDepth 100000 in
set_option maxHeartbeats 4000000 in
theorem l_X5_lookAt_b114 {p : Program} {l : Launch} {e : Env} {s : State} {m : MethodId} {args : Array Value} {below : List Frame} {meth : Method} {c : Code} {E : zE} {A : Nat → Prop} {q_t q_t_bytes q_t_told q_t_kept q_t_isKept q_t_refused q_t_gets q_t_ahead q_t_dayGets q_t_dayDue q_t_own q_t_ownGets q_t_bestOwn q_t_alone q_t_atMuch q_t_hand q_t_his q_t_its q_t_anew q_t_values : Nat} {t_above : Int64} {t_below : Int64} {t_leftBehind : Int32} {t_takenHours : Int32} {o : Int32 × Int32 × Int32 × Int32} (F : Nat) (a1 : Int32) (t_bytesLong : Int32) (t_bytes : Nat → Int32) (C : zC p s m args c meth cX5_lookAt 5 RX5 wsX5_lookAt E A) (hr : meth.sig.returnType = none) : ∀  (s1 : Int32) (t_tokenAt : Int32) (t_tokenLong : Int32) (t_token : Int32) (t_value : Int32), f_X5_lookAt_b114 F a1 t_bytesLong t_bytes s1 t_tokenAt t_tokenLong t_token t_value = some o → zG p l e rm_X5_lookAt s m args below meth c 5 E A 0 0 (MQ below (zQ E A none [(q_t, .inr (4, [.ref q_t_told, .ref q_t_kept, .ref q_t_isKept, .ref q_t_refused, .long t_above, .long t_below, .ref q_t_gets, .ref q_t_ahead, .int t_leftBehind, .ref q_t_dayGets, .ref q_t_dayDue, .ref q_t_own, .ref q_t_ownGets, .ref q_t_bestOwn, .ref q_t_alone, .ref q_t_atMuch, .ref q_t_hand, .ref q_t_his, .ref q_t_its, .ref q_t_bytes, .int t_bytesLong, .int o.1, .int o.2.1, .int o.2.2.1, .int o.2.2.2, .ref q_t_anew, .ref q_t_values, .int t_takenHours])), (q_t_bytes, zI E 150 t_bytes)]) args s 0 0 A) [(q_t, .inr (4, [.ref q_t_told, .ref q_t_kept, .ref q_t_isKept, .ref q_t_refused, .long t_above, .long t_below, .ref q_t_gets, .ref q_t_ahead, .int t_leftBehind, .ref q_t_dayGets, .ref q_t_dayDue, .ref q_t_own, .ref q_t_ownGets, .ref q_t_bestOwn, .ref q_t_alone, .ref q_t_atMuch, .ref q_t_hand, .ref q_t_his, .ref q_t_its, .ref q_t_bytes, .int t_bytesLong, .int t_tokenAt, .int t_tokenLong, .int t_token, .int t_value, .ref q_t_anew, .ref q_t_values, .int t_takenHours])), (q_t_bytes, zI E 150 t_bytes)] 114 [(0, .ref q_t)] [.int s1, .ref q_t] := by
  intro s1 t_tokenAt t_tokenLong t_token t_value h
  rw [f_X5_lookAt_b114] at h
  refine z_put (ws' := [(q_t, .inr (4, [.ref q_t_told, .ref q_t_kept, .ref q_t_isKept, .ref q_t_refused, .long t_above, .long t_below, .ref q_t_gets, .ref q_t_ahead, .int t_leftBehind, .ref q_t_dayGets, .ref q_t_dayDue, .ref q_t_own, .ref q_t_ownGets, .ref q_t_bestOwn, .ref q_t_alone, .ref q_t_atMuch, .ref q_t_hand, .ref q_t_his, .ref q_t_its, .ref q_t_bytes, .int t_bytesLong, .int t_tokenAt, .int t_tokenLong, .int s1, .int t_value, .ref q_t_anew, .ref q_t_values, .int t_takenHours])), (q_t_bytes, zI E 150 t_bytes)]) C inT_X5 tyX5 tyX5_ok nmX5 0 rfl rfl 23 (by decide) rfl (mc W_696) rfl rfl rfl (Nat.le_of_ble_eq_true rfl) rfl dX5_lookAt_114 ?_
  refine z_aload_n C dX5_lookAt_117 rfl 0 rfl ?_
  refine z_iconst (v := (1 : Int32)) C dX5_lookAt_118 (by decide) ?_
  refine z_put (ws' := [(q_t, .inr (4, [.ref q_t_told, .ref q_t_kept, .ref q_t_isKept, .ref q_t_refused, .long t_above, .long t_below, .ref q_t_gets, .ref q_t_ahead, .int t_leftBehind, .ref q_t_dayGets, .ref q_t_dayDue, .ref q_t_own, .ref q_t_ownGets, .ref q_t_bestOwn, .ref q_t_alone, .ref q_t_atMuch, .ref q_t_hand, .ref q_t_his, .ref q_t_its, .ref q_t_bytes, .int t_bytesLong, .int t_tokenAt, .int (1 : Int32), .int s1, .int t_value, .ref q_t_anew, .ref q_t_values, .int t_takenHours])), (q_t_bytes, zI E 150 t_bytes)]) C inT_X5 tyX5 tyX5_ok nmX5 0 rfl rfl 22 (by decide) rfl (mc W_695) rfl rfl rfl (Nat.le_of_ble_eq_true rfl) rfl dX5_lookAt_119 ?_
  refine z_aload_n C dX5_lookAt_122 rfl 0 rfl ?_
  refine z_get C inT_X5 0 rfl rfl 23 (by decide) rfl (mc W_696) rfl dX5_lookAt_123 ?_
  refine z_iconst (v := (3 : Int32)) C dX5_lookAt_126 (by decide) ?_
  refine z_icmp_ge (tgt := 134) C dX5_lookAt_127 (by decide) (fun c => ?_) (fun c => ?_)
  · replace h := (if_pos c).symm.trans h
    refine z_iconst (v := (0 : Int32)) C dX5_lookAt_134 (by decide) ?_
    exact (l_X5_lookAt_b135 F a1 t_bytesLong t_bytes C hr) (0 : Int32) t_tokenAt (1 : Int32) s1 t_value h
  · replace h := (if_neg c).symm.trans h
    refine z_iconst (v := (1 : Int32)) C dX5_lookAt_130 (by decide) ?_
    refine z_goto (tgt := 135) C dX5_lookAt_131 (by decide) ?_
    exact (l_X5_lookAt_b135 F a1 t_bytesLong t_bytes C hr) (1 : Int32) t_tokenAt (1 : Int32) s1 t_value h
set_option maxRecDepth 100000 in
set_option maxHeartbeats 4000000 in
theorem l_X5_lookAt_b43 {p : Program} {l : Launch} {e : Env} {s : State} {m : MethodId} {args : Array Value} {below : List Frame} {meth : Method} {c : Code} {E : zE} {A : Nat → Prop} {q_t q_t_bytes q_t_told q_t_kept q_t_isKept q_t_refused q_t_gets q_t_ahead q_t_dayGets q_t_dayDue q_t_own q_t_ownGets q_t_bestOwn q_t_alone q_t_atMuch q_t_hand q_t_his q_t_its q_t_anew q_t_values : Nat} {t_above : Int64} {t_below : Int64} {t_leftBehind : Int32} {t_takenHours : Int32} {o : Int32 × Int32 × Int32 × Int32} (F : Nat) (a1 : Int32) (t_bytesLong : Int32) (t_bytes : Nat → Int32) (C : zC p s m args c meth cX5_lookAt 5 RX5 wsX5_lookAt E A) (hr : meth.sig.returnType = none) : ∀  (t_tokenAt : Int32) (t_tokenLong : Int32) (t_token : Int32) (t_value : Int32), f_X5_lookAt_b43 F a1 t_bytesLong t_bytes t_tokenAt t_tokenLong t_token t_value = some o → zG p l e rm_X5_lookAt s m args below meth c 5 E A 0 0 (MQ below (zQ E A none [(q_t, .inr (4, [.ref q_t_told, .ref q_t_kept, .ref q_t_isKept, .ref q_t_refused, .long t_above, .long t_below, .ref q_t_gets, .ref q_t_ahead, .int t_leftBehind, .ref q_t_dayGets, .ref q_t_dayDue, .ref q_t_own, .ref q_t_ownGets, .ref q_t_bestOwn, .ref q_t_alone, .ref q_t_atMuch, .ref q_t_hand, .ref q_t_his, .ref q_t_its, .ref q_t_bytes, .int t_bytesLong, .int o.1, .int o.2.1, .int o.2.2.1, .int o.2.2.2, .ref q_t_anew, .ref q_t_values, .int t_takenHours])), (q_t_bytes, zI E 150 t_bytes)]) args s 0 0 A) [(q_t, .inr (4, [.ref q_t_told, .ref q_t_kept, .ref q_t_isKept, .ref q_t_refused, .long t_above, .long t_below, .ref q_t_gets, .ref q_t_ahead, .int t_leftBehind, .ref q_t_dayGets, .ref q_t_dayDue, .ref q_t_own, .ref q_t_ownGets, .ref q_t_bestOwn, .ref q_t_alone, .ref q_t_atMuch, .ref q_t_hand, .ref q_t_his, .ref q_t_its, .ref q_t_bytes, .int t_bytesLong, .int t_tokenAt, .int t_tokenLong, .int t_token, .int t_value, .ref q_t_anew, .ref q_t_values, .int t_takenHours])), (q_t_bytes, zI E 150 t_bytes)] 43 [(0, .ref q_t)] [] := by
  intro t_tokenAt t_tokenLong t_token t_value h
  rw [f_X5_lookAt_b43] at h
  refine z_aload_n C dX5_lookAt_43 rfl 0 rfl ?_
  refine z_iconst (v := (0 : Int32)) C dX5_lookAt_44 (by decide) ?_
  refine z_put (ws' := [(q_t, .inr (4, [.ref q_t_told, .ref q_t_kept, .ref q_t_isKept, .ref q_t_refused, .long t_above, .long t_below, .ref q_t_gets, .ref q_t_ahead, .int t_leftBehind, .ref q_t_dayGets, .ref q_t_dayDue, .ref q_t_own, .ref q_t_ownGets, .ref q_t_bestOwn, .ref q_t_alone, .ref q_t_atMuch, .ref q_t_hand, .ref q_t_his, .ref q_t_its, .ref q_t_bytes, .int t_bytesLong, .int t_tokenAt, .int (0 : Int32), .int t_token, .int t_value, .ref q_t_anew, .ref q_t_values, .int t_takenHours])), (q_t_bytes, zI E 150 t_bytes)]) C inT_X5 tyX5 tyX5_ok nmX5 0 rfl rfl 22 (by decide) rfl (mc W_695) rfl rfl rfl (Nat.le_of_ble_eq_true rfl) rfl dX5_lookAt_45 ?_
  refine z_aload_n C dX5_lookAt_48 rfl 0 rfl ?_
  refine z_iconst (v := (0 : Int32)) C dX5_lookAt_49 (by decide) ?_
  refine z_put (ws' := [(q_t, .inr (4, [.ref q_t_told, .ref q_t_kept, .ref q_t_isKept, .ref q_t_refused, .long t_above, .long t_below, .ref q_t_gets, .ref q_t_ahead, .int t_leftBehind, .ref q_t_dayGets, .ref q_t_dayDue, .ref q_t_own, .ref q_t_ownGets, .ref q_t_bestOwn, .ref q_t_alone, .ref q_t_atMuch, .ref q_t_hand, .ref q_t_his, .ref q_t_its, .ref q_t_bytes, .int t_bytesLong, .int t_tokenAt, .int (0 : Int32), .int (0 : Int32), .int t_value, .ref q_t_anew, .ref q_t_values, .int t_takenHours])), (q_t_bytes, zI E 150 t_bytes)]) C inT_X5 tyX5 tyX5_ok nmX5 0 rfl rfl 23 (by decide) rfl (mc W_696) rfl rfl rfl (Nat.le_of_ble_eq_true rfl) rfl dX5_lookAt_50 ?_
  refine z_aload_n C dX5_lookAt_53 rfl 0 rfl ?_
  refine z_iconst (v := (0 : Int32)) C dX5_lookAt_54 (by decide) ?_
  refine z_put (ws' := [(q_t, .inr (4, [.ref q_t_told, .ref q_t_kept, .ref q_t_isKept, .ref q_t_refused, .long t_above, .long t_below, .ref q_t_gets, .ref q_t_ahead, .int t_leftBehind, .ref q_t_dayGets, .ref q_t_dayDue, .ref q_t_own, .ref q_t_ownGets, .ref q_t_bestOwn, .ref q_t_alone, .ref q_t_atMuch, .ref q_t_hand, .ref q_t_his, .ref q_t_its, .ref q_t_bytes, .int t_bytesLong, .int t_tokenAt, .int (0 : Int32), .int (0 : Int32), .int (0 : Int32), .ref q_t_anew, .ref q_t_values, .int t_takenHours])), (q_t_bytes, zI E 150 t_bytes)]) C inT_X5 tyX5 tyX5_ok nmX5 0 rfl rfl 24 (by decide) rfl (mc W_697) rfl rfl rfl (Nat.le_of_ble_eq_true rfl) rfl dX5_lookAt_55 ?_
  refine z_aload_n C dX5_lookAt_58 rfl 0 rfl ?_
  refine z_get C inT_X5 0 rfl rfl 21 (by decide) rfl (mc W_694) rfl dX5_lookAt_59 ?_
  refine z_aload_n C dX5_lookAt_62 rfl 0 rfl ?_
  refine z_get C inT_X5 0 rfl rfl 20 (by decide) rfl (mc W_693) rfl dX5_lookAt_63 ?_
  refine z_icmp_ne (tgt := 70) C dX5_lookAt_66 (by decide) (fun c => ?_) (fun c => ?_)
  · replace h := (if_neg c).symm.trans h
    refine z_aload_n C dX5_lookAt_70 rfl 0 rfl ?_
    refine z_get C inT_X5 0 rfl rfl 19 (by decide) rfl (mc W_692) rfl dX5_lookAt_71 ?_
    refine z_aload_n C dX5_lookAt_74 rfl 0 rfl ?_
    refine z_get C inT_X5 0 rfl rfl 21 (by decide) rfl (mc W_694) rfl dX5_lookAt_75 ?_
    obtain ⟨c2, h⟩ := chk_some h
    refine z_iald C 1 rfl c2 dX5_lookAt_78 ?_
    refine z_istore_n (L' := [(2, .int (t_bytes t_tokenAt.toNatClampNeg)), (0, .ref q_t)]) C dX5_lookAt_79 rfl (by decide) rfl ?_
    refine z_aload_n C dX5_lookAt_80 rfl 1 rfl ?_
    refine z_iload_n C dX5_lookAt_81 rfl 0 rfl ?_
    obtain ⟨o3, ho4, h⟩ := bnd_some h
    refine z_callS (wc := []) (wr := [(q_t, .inr (4, [.ref q_t_told, .ref q_t_kept, .ref q_t_isKept, .ref q_t_refused, .long t_above, .long t_below, .ref q_t_gets, .ref q_t_ahead, .int t_leftBehind, .ref q_t_dayGets, .ref q_t_dayDue, .ref q_t_own, .ref q_t_ownGets, .ref q_t_bestOwn, .ref q_t_alone, .ref q_t_atMuch, .ref q_t_hand, .ref q_t_his, .ref q_t_its, .ref q_t_bytes, .int t_bytesLong, .int t_tokenAt, .int (0 : Int32), .int (0 : Int32), .int (0 : Int32), .ref q_t_anew, .ref q_t_values, .int t_takenHours])), (q_t_bytes, zI E 150 t_bytes)]) (wc' := []) (ws2 := [(q_t, .inr (4, [.ref q_t_told, .ref q_t_kept, .ref q_t_isKept, .ref q_t_refused, .long t_above, .long t_below, .ref q_t_gets, .ref q_t_ahead, .int t_leftBehind, .ref q_t_dayGets, .ref q_t_dayDue, .ref q_t_own, .ref q_t_ownGets, .ref q_t_bestOwn, .ref q_t_alone, .ref q_t_atMuch, .ref q_t_hand, .ref q_t_his, .ref q_t_its, .ref q_t_bytes, .int t_bytesLong, .int t_tokenAt, .int (0 : Int32), .int (0 : Int32), .int (0 : Int32), .ref q_t_anew, .ref q_t_values, .int t_takenHours])), (q_t_bytes, zI E 150 t_bytes)]) (As := [.int (t_bytes t_tokenAt.toNatClampNeg)]) (st2 := [.int o3, .ref q_t]) C [] [0, 1] [0, 1] rfl rfl rfl rfl (by decide) rfl rfl (c_X5_isSmall F ho4) (goodST consT W_989 W_990 W_62 W_991) rfl rfl rfl hd_X5_isSmall ⟨Nat.le_of_ble_eq_true rfl, Nat.le_of_ble_eq_true rfl⟩ rfl rfl rfl (Nat.le_of_ble_eq_true rfl) dX5_lookAt_82 ⟨Nat.zero_le _, Nat.zero_le _⟩ ?_
    refine z_if_eq (tgt := 92) C dX5_lookAt_85 (by decide) (fun c => ?_) (fun c => ?_)
    · replace h := (if_pos c).symm.trans h
      refine z_iload_n C dX5_lookAt_92 rfl 0 rfl ?_
      obtain ⟨o5, ho6, h⟩ := bnd_some h
      refine z_callS (wc := []) (wr := [(q_t, .inr (4, [.ref q_t_told, .ref q_t_kept, .ref q_t_isKept, .ref q_t_refused, .long t_above, .long t_below, .ref q_t_gets, .ref q_t_ahead, .int t_leftBehind, .ref q_t_dayGets, .ref q_t_dayDue, .ref q_t_own, .ref q_t_ownGets, .ref q_t_bestOwn, .ref q_t_alone, .ref q_t_atMuch, .ref q_t_hand, .ref q_t_his, .ref q_t_its, .ref q_t_bytes, .int t_bytesLong, .int t_tokenAt, .int (0 : Int32), .int (0 : Int32), .int (0 : Int32), .ref q_t_anew, .ref q_t_values, .int t_takenHours])), (q_t_bytes, zI E 150 t_bytes)]) (wc' := []) (ws2 := [(q_t, .inr (4, [.ref q_t_told, .ref q_t_kept, .ref q_t_isKept, .ref q_t_refused, .long t_above, .long t_below, .ref q_t_gets, .ref q_t_ahead, .int t_leftBehind, .ref q_t_dayGets, .ref q_t_dayDue, .ref q_t_own, .ref q_t_ownGets, .ref q_t_bestOwn, .ref q_t_alone, .ref q_t_atMuch, .ref q_t_hand, .ref q_t_his, .ref q_t_its, .ref q_t_bytes, .int t_bytesLong, .int t_tokenAt, .int (0 : Int32), .int (0 : Int32), .int (0 : Int32), .ref q_t_anew, .ref q_t_values, .int t_takenHours])), (q_t_bytes, zI E 150 t_bytes)]) (As := [.int (t_bytes t_tokenAt.toNatClampNeg)]) (st2 := [.int o5, .ref q_t]) C [] [0, 1] [0, 1] rfl rfl rfl rfl (by decide) rfl rfl (c_X5_isFigure F ho6) (goodST consT W_994 W_995 W_62 W_996) rfl rfl rfl hd_X5_isFigure ⟨Nat.le_of_ble_eq_true rfl, Nat.le_of_ble_eq_true rfl⟩ rfl rfl rfl (Nat.le_of_ble_eq_true rfl) dX5_lookAt_93 ⟨Nat.zero_le _, Nat.zero_le _⟩ ?_
      refine z_if_eq (tgt := 103) C dX5_lookAt_96 (by decide) (fun c => ?_) (fun c => ?_)
      · replace h := (if_pos c).symm.trans h
        refine z_iload_n C dX5_lookAt_103 rfl 0 rfl ?_
        refine z_bipush (v := (59 : Int32)) C dX5_lookAt_104 (by decide) ?_
        refine z_icmp_ne (tgt := 113) C dX5_lookAt_106 (by decide) (fun c => ?_) (fun c => ?_)
        · replace h := (if_neg c).symm.trans h
          refine z_iconst (v := (4 : Int32)) C dX5_lookAt_113 (by decide) ?_
          refine z_sub [1] (L' := [(0, .ref q_t)]) rfl ?_
          exact (l_X5_lookAt_b114 F a1 t_bytesLong t_bytes C hr) (4 : Int32) t_tokenAt (0 : Int32) (0 : Int32) (0 : Int32) h
        · replace h := (if_pos c).symm.trans h
          refine z_iconst (v := (3 : Int32)) C dX5_lookAt_109 (by decide) ?_
          refine z_goto (tgt := 114) C dX5_lookAt_110 (by decide) ?_
          refine z_sub [1] (L' := [(0, .ref q_t)]) rfl ?_
          exact (l_X5_lookAt_b114 F a1 t_bytesLong t_bytes C hr) (3 : Int32) t_tokenAt (0 : Int32) (0 : Int32) (0 : Int32) h
      · replace h := (if_neg c).symm.trans h
        refine z_iconst (v := (2 : Int32)) C dX5_lookAt_99 (by decide) ?_
        refine z_goto (tgt := 114) C dX5_lookAt_100 (by decide) ?_
        refine z_sub [1] (L' := [(0, .ref q_t)]) rfl ?_
        exact (l_X5_lookAt_b114 F a1 t_bytesLong t_bytes C hr) (2 : Int32) t_tokenAt (0 : Int32) (0 : Int32) (0 : Int32) h
    · replace h := (if_neg c).symm.trans h
      refine z_iconst (v := (1 : Int32)) C dX5_lookAt_88 (by decide) ?_
      refine z_goto (tgt := 114) C dX5_lookAt_89 (by decide) ?_
      refine z_sub [1] (L' := [(0, .ref q_t)]) rfl ?_
      exact (l_X5_lookAt_b114 F a1 t_bytesLong t_bytes C hr) (1 : Int32) t_tokenAt (0 : Int32) (0 : Int32) (0 : Int32) h
  · replace h := (if_pos c).symm.trans h
    obtain rfl := Option.some.inj h
    exact z_vret C hr dX5_lookAt_69
set_option maxRecDepth 100000 in
set_option maxHeartbeats 4000000 in
theorem l_X5_lookAt_b5 {p : Program} {l : Launch} {e : Env} {s : State} {m : MethodId} {args : Array Value} {below : List Frame} {meth : Method} {c : Code} {E : zE} {A : Nat → Prop} {q_t q_t_bytes q_t_told q_t_kept q_t_isKept q_t_refused q_t_gets q_t_ahead q_t_dayGets q_t_dayDue q_t_own q_t_ownGets q_t_bestOwn q_t_alone q_t_atMuch q_t_hand q_t_his q_t_its q_t_anew q_t_values : Nat} {t_above : Int64} {t_below : Int64} {t_leftBehind : Int32} {t_takenHours : Int32} {o : Int32 × Int32 × Int32 × Int32} (F : Nat) (a1 : Int32) (t_bytesLong : Int32) (t_bytes : Nat → Int32) (C : zC p s m args c meth cX5_lookAt 5 RX5 wsX5_lookAt E A) (hr : meth.sig.returnType = none) : ∀ (n : Nat) (t_tokenAt : Int32) (t_tokenLong : Int32) (t_token : Int32) (t_value : Int32), f_X5_lookAt_b5 F a1 t_bytesLong t_bytes n t_tokenAt t_tokenLong t_token t_value = some o → zG p l e rm_X5_lookAt s m args below meth c 5 E A 0 0 (MQ below (zQ E A none [(q_t, .inr (4, [.ref q_t_told, .ref q_t_kept, .ref q_t_isKept, .ref q_t_refused, .long t_above, .long t_below, .ref q_t_gets, .ref q_t_ahead, .int t_leftBehind, .ref q_t_dayGets, .ref q_t_dayDue, .ref q_t_own, .ref q_t_ownGets, .ref q_t_bestOwn, .ref q_t_alone, .ref q_t_atMuch, .ref q_t_hand, .ref q_t_his, .ref q_t_its, .ref q_t_bytes, .int t_bytesLong, .int o.1, .int o.2.1, .int o.2.2.1, .int o.2.2.2, .ref q_t_anew, .ref q_t_values, .int t_takenHours])), (q_t_bytes, zI E 150 t_bytes)]) args s 0 0 A) [(q_t, .inr (4, [.ref q_t_told, .ref q_t_kept, .ref q_t_isKept, .ref q_t_refused, .long t_above, .long t_below, .ref q_t_gets, .ref q_t_ahead, .int t_leftBehind, .ref q_t_dayGets, .ref q_t_dayDue, .ref q_t_own, .ref q_t_ownGets, .ref q_t_bestOwn, .ref q_t_alone, .ref q_t_atMuch, .ref q_t_hand, .ref q_t_his, .ref q_t_its, .ref q_t_bytes, .int t_bytesLong, .int t_tokenAt, .int t_tokenLong, .int t_token, .int t_value, .ref q_t_anew, .ref q_t_values, .int t_takenHours])), (q_t_bytes, zI E 150 t_bytes)] 5 [(0, .ref q_t)] [] := by
  intro n
  induction n with
  | zero =>
    intro t_tokenAt t_tokenLong t_token t_value h
    rw [f_X5_lookAt_b5] at h
    cases h
  | succ n ih =>
    intro t_tokenAt t_tokenLong t_token t_value h
    rw [f_X5_lookAt_b5] at h
    refine z_aload_n C dX5_lookAt_5 rfl 0 rfl ?_
    refine z_get C inT_X5 0 rfl rfl 21 (by decide) rfl (mc W_694) rfl dX5_lookAt_6 ?_
    refine z_aload_n C dX5_lookAt_9 rfl 0 rfl ?_
    refine z_get C inT_X5 0 rfl rfl 20 (by decide) rfl (mc W_693) rfl dX5_lookAt_10 ?_
    refine z_icmp_ge (tgt := 43) C dX5_lookAt_13 (by decide) (fun c => ?_) (fun c => ?_)
    · replace h := (if_pos c).symm.trans h
      exact (l_X5_lookAt_b43 F a1 t_bytesLong t_bytes C hr) t_tokenAt t_tokenLong t_token t_value h
    · replace h := (if_neg c).symm.trans h
      refine z_aload_n C dX5_lookAt_16 rfl 0 rfl ?_
      refine z_get C inT_X5 0 rfl rfl 19 (by decide) rfl (mc W_692) rfl dX5_lookAt_17 ?_
      refine z_aload_n C dX5_lookAt_20 rfl 0 rfl ?_
      refine z_get C inT_X5 0 rfl rfl 21 (by decide) rfl (mc W_694) rfl dX5_lookAt_21 ?_
      obtain ⟨c1, h⟩ := chk_some h
      refine z_iald C 1 rfl c1 dX5_lookAt_24 ?_
      refine z_bipush (v := (32 : Int32)) C dX5_lookAt_25 (by decide) ?_
      refine z_icmp_ne (tgt := 43) C dX5_lookAt_27 (by decide) (fun c => ?_) (fun c => ?_)
      · replace h := (if_neg c).symm.trans h
        exact (l_X5_lookAt_b43 F a1 t_bytesLong t_bytes C hr) t_tokenAt t_tokenLong t_token t_value h
      · replace h := (if_pos c).symm.trans h
        refine z_aload_n C dX5_lookAt_30 rfl 0 rfl ?_
        refine z_dup C dX5_lookAt_31 rfl ?_
        refine z_get C inT_X5 0 rfl rfl 21 (by decide) rfl (mc W_694) rfl dX5_lookAt_32 ?_
        refine z_iconst (v := (1 : Int32)) C dX5_lookAt_35 (by decide) ?_
        refine z_iadd C dX5_lookAt_36 ?_
        refine z_put (ws' := [(q_t, .inr (4, [.ref q_t_told, .ref q_t_kept, .ref q_t_isKept, .ref q_t_refused, .long t_above, .long t_below, .ref q_t_gets, .ref q_t_ahead, .int t_leftBehind, .ref q_t_dayGets, .ref q_t_dayDue, .ref q_t_own, .ref q_t_ownGets, .ref q_t_bestOwn, .ref q_t_alone, .ref q_t_atMuch, .ref q_t_hand, .ref q_t_his, .ref q_t_its, .ref q_t_bytes, .int t_bytesLong, .int (t_tokenAt + (1 : Int32)), .int t_tokenLong, .int t_token, .int t_value, .ref q_t_anew, .ref q_t_values, .int t_takenHours])), (q_t_bytes, zI E 150 t_bytes)]) C inT_X5 tyX5 tyX5_ok nmX5 0 rfl rfl 21 (by decide) rfl (mc W_694) rfl rfl rfl (Nat.le_of_ble_eq_true rfl) rfl dX5_lookAt_37 ?_
        refine z_goto (tgt := 5) C dX5_lookAt_40 (by decide) ?_
        exact ih (t_tokenAt + (1 : Int32)) t_tokenLong t_token t_value h
set_option maxRecDepth 100000 in
set_option maxHeartbeats 4000000 in
theorem c_X5_lookAt {l : Launch} {E : zE} {q_t q_t_bytes q_t_told q_t_kept q_t_isKept q_t_refused q_t_gets q_t_ahead q_t_dayGets q_t_dayDue q_t_own q_t_ownGets q_t_bestOwn q_t_alone q_t_atMuch q_t_hand q_t_his q_t_its q_t_anew q_t_values : Nat} {t_above : Int64} {t_below : Int64} {t_leftBehind : Int32} {t_takenHours : Int32} {a1 : Int32} {t_bytesLong : Int32} {t_bytes : Nat → Int32} {t_tokenAt : Int32} {t_tokenLong : Int32} {t_token : Int32} {t_value : Int32} {o : Int32 × Int32 × Int32 × Int32} (F : Nat) (h : f_X5_lookAt F a1 t_bytesLong t_bytes t_tokenAt t_tokenLong t_token t_value = some o) : zM l yX5_lookAt wsX5_lookAt rm_X5_lookAt E [.ref q_t, .int a1] [(q_t, .inr (4, [.ref q_t_told, .ref q_t_kept, .ref q_t_isKept, .ref q_t_refused, .long t_above, .long t_below, .ref q_t_gets, .ref q_t_ahead, .int t_leftBehind, .ref q_t_dayGets, .ref q_t_dayDue, .ref q_t_own, .ref q_t_ownGets, .ref q_t_bestOwn, .ref q_t_alone, .ref q_t_atMuch, .ref q_t_hand, .ref q_t_his, .ref q_t_its, .ref q_t_bytes, .int t_bytesLong, .int t_tokenAt, .int t_tokenLong, .int t_token, .int t_value, .ref q_t_anew, .ref q_t_values, .int t_takenHours])), (q_t_bytes, zI E 150 t_bytes)] none [(q_t, .inr (4, [.ref q_t_told, .ref q_t_kept, .ref q_t_isKept, .ref q_t_refused, .long t_above, .long t_below, .ref q_t_gets, .ref q_t_ahead, .int t_leftBehind, .ref q_t_dayGets, .ref q_t_dayDue, .ref q_t_own, .ref q_t_ownGets, .ref q_t_bestOwn, .ref q_t_alone, .ref q_t_atMuch, .ref q_t_hand, .ref q_t_his, .ref q_t_its, .ref q_t_bytes, .int t_bytesLong, .int o.1, .int o.2.1, .int o.2.2.1, .int o.2.2.2, .ref q_t_anew, .ref q_t_values, .int t_takenHours])), (q_t_bytes, zI E 150 t_bytes)] := by
  refine zM.of (cc := cX5_lookAt) (maxL := 5) (ret := none) (by decide +kernel) rfl (Nat.le_of_ble_eq_true rfl) ?_
  intro p e s m args below meth c A C hr
  have C : zC p s m args c meth cX5_lookAt 5 RX5 wsX5_lookAt E A := C
  rw [f_X5_lookAt] at h
  refine z_aload_n C dX5_lookAt_0 rfl 0 rfl ?_
  refine z_iload_n C dX5_lookAt_1 rfl 1 rfl ?_
  refine z_put (ws' := [(q_t, .inr (4, [.ref q_t_told, .ref q_t_kept, .ref q_t_isKept, .ref q_t_refused, .long t_above, .long t_below, .ref q_t_gets, .ref q_t_ahead, .int t_leftBehind, .ref q_t_dayGets, .ref q_t_dayDue, .ref q_t_own, .ref q_t_ownGets, .ref q_t_bestOwn, .ref q_t_alone, .ref q_t_atMuch, .ref q_t_hand, .ref q_t_his, .ref q_t_its, .ref q_t_bytes, .int t_bytesLong, .int a1, .int t_tokenLong, .int t_token, .int t_value, .ref q_t_anew, .ref q_t_values, .int t_takenHours])), (q_t_bytes, zI E 150 t_bytes)]) C inT_X5 tyX5 tyX5_ok nmX5 0 rfl rfl 21 (by decide) rfl (mc W_694) rfl rfl rfl (Nat.le_of_ble_eq_true rfl) rfl dX5_lookAt_2 ?_
  refine z_sub [0] (L' := [(0, .ref q_t)]) rfl ?_
  exact (l_X5_lookAt_b5 F a1 t_bytesLong t_bytes C hr F) a1 t_tokenLong t_token t_value h
def rm_X5_goBehind : Room := { frames := 3, cells := 0, slots := 0, locals := 69 }
theorem hd_X5_goBehind : yX5_goBehind.cls = yX5_goBehind.cls ∧ yX5_goBehind.cls ≠ "java/lang/invoke/MethodHandle" ∧ yX5_goBehind.cls ≠ "java/lang/invoke/VarHandle" ∧ (parseMethodDescriptor yX5_goBehind.desc).map (fun d => d.parameters.length) = some 0 := by decide +kernel
abbrev wsX5_goBehind : List Cond := .code yX5_goBehind cX5_goBehind 1 none :: WALL
set_option maxRecDepth 100000 in
set_option maxHeartbeats 4000000 in
theorem c_X5_goBehind {l : Launch} {E : zE} {q_t q_t_bytes q_t_told q_t_kept q_t_isKept q_t_refused q_t_gets q_t_ahead q_t_dayGets q_t_dayDue q_t_own q_t_ownGets q_t_bestOwn q_t_alone q_t_atMuch q_t_hand q_t_his q_t_its q_t_anew q_t_values : Nat} {t_above : Int64} {t_below : Int64} {t_leftBehind : Int32} {t_takenHours : Int32} {t_bytesLong : Int32} {t_bytes : Nat → Int32} {t_tokenAt : Int32} {t_tokenLong : Int32} {t_token : Int32} {t_value : Int32} {o : Int32 × Int32 × Int32 × Int32} (F : Nat) (h : f_X5_goBehind F t_bytesLong t_bytes t_tokenAt t_tokenLong t_token t_value = some o) : zM l yX5_goBehind wsX5_goBehind rm_X5_goBehind E [.ref q_t] [(q_t, .inr (4, [.ref q_t_told, .ref q_t_kept, .ref q_t_isKept, .ref q_t_refused, .long t_above, .long t_below, .ref q_t_gets, .ref q_t_ahead, .int t_leftBehind, .ref q_t_dayGets, .ref q_t_dayDue, .ref q_t_own, .ref q_t_ownGets, .ref q_t_bestOwn, .ref q_t_alone, .ref q_t_atMuch, .ref q_t_hand, .ref q_t_his, .ref q_t_its, .ref q_t_bytes, .int t_bytesLong, .int t_tokenAt, .int t_tokenLong, .int t_token, .int t_value, .ref q_t_anew, .ref q_t_values, .int t_takenHours])), (q_t_bytes, zI E 150 t_bytes)] none [(q_t, .inr (4, [.ref q_t_told, .ref q_t_kept, .ref q_t_isKept, .ref q_t_refused, .long t_above, .long t_below, .ref q_t_gets, .ref q_t_ahead, .int t_leftBehind, .ref q_t_dayGets, .ref q_t_dayDue, .ref q_t_own, .ref q_t_ownGets, .ref q_t_bestOwn, .ref q_t_alone, .ref q_t_atMuch, .ref q_t_hand, .ref q_t_his, .ref q_t_its, .ref q_t_bytes, .int t_bytesLong, .int o.1, .int o.2.1, .int o.2.2.1, .int o.2.2.2, .ref q_t_anew, .ref q_t_values, .int t_takenHours])), (q_t_bytes, zI E 150 t_bytes)] := by
  refine zM.of (cc := cX5_goBehind) (maxL := 1) (ret := none) (by decide +kernel) rfl (Nat.le_of_ble_eq_true rfl) ?_
  intro p e s m args below meth c A C hr
  have C : zC p s m args c meth cX5_goBehind 1 RX5 wsX5_goBehind E A := C
  rw [f_X5_goBehind] at h
  refine z_aload_n C dX5_goBehind_0 rfl 0 rfl ?_
  refine z_aload_n C dX5_goBehind_1 rfl 0 rfl ?_
  refine z_get C inT_X5 0 rfl rfl 21 (by decide) rfl (mc W_694) rfl dX5_goBehind_2 ?_
  refine z_aload_n C dX5_goBehind_5 rfl 0 rfl ?_
  refine z_get C inT_X5 0 rfl rfl 22 (by decide) rfl (mc W_695) rfl dX5_goBehind_6 ?_
  refine z_iadd C dX5_goBehind_9 ?_
  obtain ⟨o1, ho2, h⟩ := bnd_some h
  refine z_callV (wc := [(q_t, .inr (4, [.ref q_t_told, .ref q_t_kept, .ref q_t_isKept, .ref q_t_refused, .long t_above, .long t_below, .ref q_t_gets, .ref q_t_ahead, .int t_leftBehind, .ref q_t_dayGets, .ref q_t_dayDue, .ref q_t_own, .ref q_t_ownGets, .ref q_t_bestOwn, .ref q_t_alone, .ref q_t_atMuch, .ref q_t_hand, .ref q_t_his, .ref q_t_its, .ref q_t_bytes, .int t_bytesLong, .int t_tokenAt, .int t_tokenLong, .int t_token, .int t_value, .ref q_t_anew, .ref q_t_values, .int t_takenHours])), (q_t_bytes, zI E 150 t_bytes)]) (wr := []) (wc' := [(q_t, .inr (4, [.ref q_t_told, .ref q_t_kept, .ref q_t_isKept, .ref q_t_refused, .long t_above, .long t_below, .ref q_t_gets, .ref q_t_ahead, .int t_leftBehind, .ref q_t_dayGets, .ref q_t_dayDue, .ref q_t_own, .ref q_t_ownGets, .ref q_t_bestOwn, .ref q_t_alone, .ref q_t_atMuch, .ref q_t_hand, .ref q_t_his, .ref q_t_its, .ref q_t_bytes, .int t_bytesLong, .int o1.1, .int o1.2.1, .int o1.2.2.1, .int o1.2.2.2, .ref q_t_anew, .ref q_t_values, .int t_takenHours])), (q_t_bytes, zI E 150 t_bytes)]) (ws2 := [(q_t, .inr (4, [.ref q_t_told, .ref q_t_kept, .ref q_t_isKept, .ref q_t_refused, .long t_above, .long t_below, .ref q_t_gets, .ref q_t_ahead, .int t_leftBehind, .ref q_t_dayGets, .ref q_t_dayDue, .ref q_t_own, .ref q_t_ownGets, .ref q_t_bestOwn, .ref q_t_alone, .ref q_t_atMuch, .ref q_t_hand, .ref q_t_his, .ref q_t_its, .ref q_t_bytes, .int t_bytesLong, .int o1.1, .int o1.2.1, .int o1.2.2.1, .int o1.2.2.2, .ref q_t_anew, .ref q_t_values, .int t_takenHours])), (q_t_bytes, zI E 150 t_bytes)]) (As := [.int (t_tokenAt + t_tokenLong)]) (st2 := []) C [0, 1] [] [0, 1] rfl rfl rfl rfl (by decide) rfl rfl (c_X5_lookAt F ho2) (goodVT consT W_985 W_987 W_44 W_62 W_988) rfl rfl rfl hd_X5_lookAt ⟨Nat.le_of_ble_eq_true rfl, Nat.le_of_ble_eq_true rfl⟩ rfl rfl rfl (j := 0) rfl rfl rfl (Nat.le_of_ble_eq_true rfl) dX5_goBehind_10 ⟨Nat.zero_le _, Nat.zero_le _⟩ ?_
  obtain rfl := Option.some.inj h
  exact z_vret C hr dX5_goBehind_13
def rm_X5_spells : Room := { frames := 0, cells := 0, slots := 0, locals := 0 }
theorem hd_X5_spells : yX5_spells.cls = yX5_spells.cls ∧ yX5_spells.cls ≠ "java/lang/invoke/MethodHandle" ∧ yX5_spells.cls ≠ "java/lang/invoke/VarHandle" ∧ (parseMethodDescriptor yX5_spells.desc).map (fun d => d.parameters.length) = some 7 := by decide +kernel
abbrev wsX5_spells : List Cond := .code yX5_spells cX5_spells 10 (some .boolean) :: WALL
set_option maxRecDepth 100000 in
set_option maxHeartbeats 4000000 in
theorem l_X5_spells_b20 {p : Program} {l : Launch} {e : Env} {s : State} {m : MethodId} {args : Array Value} {below : List Frame} {meth : Method} {c : Code} {E : zE} {A : Nat → Prop} {q_t q_t_bytes q_t_told q_t_kept q_t_isKept q_t_refused q_t_gets q_t_ahead q_t_dayGets q_t_dayDue q_t_own q_t_ownGets q_t_bestOwn q_t_alone q_t_atMuch q_t_hand q_t_his q_t_its q_t_anew q_t_values : Nat} {t_above : Int64} {t_below : Int64} {t_leftBehind : Int32} {t_bytesLong : Int32} {t_value : Int32} {t_takenHours : Int32} {o : Int32} (F : Nat) (a1 : Int32) (a2 : Int32) (a3 : Int32) (a4 : Int32) (a5 : Int32) (a6 : Int32) (a7 : Int32) (t_tokenAt : Int32) (t_tokenLong : Int32) (t_token : Int32) (t_bytes : Nat → Int32) (K21 : Int32 → Option (Int32)) (C : zC p s m args c meth cX5_spells 10 RX5 wsX5_spells E A) (hr : meth.sig.returnType = some .boolean) (hK21 : ∀ (s0 : Int32), K21 s0 = some o → zG p l e rm_X5_spells s m args below meth c 10 E A 0 0 (MQ below (zQ E A (some (.int o)) [(q_t, .inr (4, [.ref q_t_told, .ref q_t_kept, .ref q_t_isKept, .ref q_t_refused, .long t_above, .long t_below, .ref q_t_gets, .ref q_t_ahead, .int t_leftBehind, .ref q_t_dayGets, .ref q_t_dayDue, .ref q_t_own, .ref q_t_ownGets, .ref q_t_bestOwn, .ref q_t_alone, .ref q_t_atMuch, .ref q_t_hand, .ref q_t_his, .ref q_t_its, .ref q_t_bytes, .int t_bytesLong, .int t_tokenAt, .int t_tokenLong, .int t_token, .int t_value, .ref q_t_anew, .ref q_t_values, .int t_takenHours])), (q_t_bytes, zI E 150 t_bytes)]) args s 0 0 A) [(q_t, .inr (4, [.ref q_t_told, .ref q_t_kept, .ref q_t_isKept, .ref q_t_refused, .long t_above, .long t_below, .ref q_t_gets, .ref q_t_ahead, .int t_leftBehind, .ref q_t_dayGets, .ref q_t_dayDue, .ref q_t_own, .ref q_t_ownGets, .ref q_t_bestOwn, .ref q_t_alone, .ref q_t_atMuch, .ref q_t_hand, .ref q_t_his, .ref q_t_its, .ref q_t_bytes, .int t_bytesLong, .int t_tokenAt, .int t_tokenLong, .int t_token, .int t_value, .ref q_t_anew, .ref q_t_values, .int t_takenHours])), (q_t_bytes, zI E 150 t_bytes)] 21 [(0, .ref q_t), (1, .int a1), (2, .int a2), (3, .int a3), (4, .int a4), (5, .int a5), (6, .int a6), (7, .int a7)] [.int s0]) : f_X5_spells_b20 F a1 a2 a3 a4 a5 a6 a7 t_tokenAt t_tokenLong t_token t_bytes K21 = some o → zG p l e rm_X5_spells s m args below meth c 10 E A 0 0 (MQ below (zQ E A (some (.int o)) [(q_t, .inr (4, [.ref q_t_told, .ref q_t_kept, .ref q_t_isKept, .ref q_t_refused, .long t_above, .long t_below, .ref q_t_gets, .ref q_t_ahead, .int t_leftBehind, .ref q_t_dayGets, .ref q_t_dayDue, .ref q_t_own, .ref q_t_ownGets, .ref q_t_bestOwn, .ref q_t_alone, .ref q_t_atMuch, .ref q_t_hand, .ref q_t_his, .ref q_t_its, .ref q_t_bytes, .int t_bytesLong, .int t_tokenAt, .int t_tokenLong, .int t_token, .int t_value, .ref q_t_anew, .ref q_t_values, .int t_takenHours])), (q_t_bytes, zI E 150 t_bytes)]) args s 0 0 A) [(q_t, .inr (4, [.ref q_t_told, .ref q_t_kept, .ref q_t_isKept, .ref q_t_refused, .long t_above, .long t_below, .ref q_t_gets, .ref q_t_ahead, .int t_leftBehind, .ref q_t_dayGets, .ref q_t_dayDue, .ref q_t_own, .ref q_t_ownGets, .ref q_t_bestOwn, .ref q_t_alone, .ref q_t_atMuch, .ref q_t_hand, .ref q_t_his, .ref q_t_its, .ref q_t_bytes, .int t_bytesLong, .int t_tokenAt, .int t_tokenLong, .int t_token, .int t_value, .ref q_t_anew, .ref q_t_values, .int t_takenHours])), (q_t_bytes, zI E 150 t_bytes)] 20 [(0, .ref q_t), (1, .int a1), (2, .int a2), (3, .int a3), (4, .int a4), (5, .int a5), (6, .int a6), (7, .int a7)] [] := by
  intro h
  rw [f_X5_spells_b20] at h
  refine z_iconst (v := (0 : Int32)) C dX5_spells_20 (by decide) ?_
  exact hK21 (0 : Int32) h
set_option maxRecDepth 100000 in
set_option maxHeartbeats 4000000 in
theorem l_X5_spells_b111 {p : Program} {l : Launch} {e : Env} {s : State} {m : MethodId} {args : Array Value} {below : List Frame} {meth : Method} {c : Code} {E : zE} {A : Nat → Prop} {q_t q_t_bytes q_t_told q_t_kept q_t_isKept q_t_refused q_t_gets q_t_ahead q_t_dayGets q_t_dayDue q_t_own q_t_ownGets q_t_bestOwn q_t_alone q_t_atMuch q_t_hand q_t_his q_t_its q_t_anew q_t_values : Nat} {t_above : Int64} {t_below : Int64} {t_leftBehind : Int32} {t_bytesLong : Int32} {t_value : Int32} {t_takenHours : Int32} {o : Int32} (F : Nat) (a1 : Int32) (a2 : Int32) (a3 : Int32) (a4 : Int32) (a5 : Int32) (a6 : Int32) (a7 : Int32) (t_tokenAt : Int32) (t_tokenLong : Int32) (t_token : Int32) (t_bytes : Nat → Int32) (K26 : Int32 → Int32 → Option (Int32)) (C : zC p s m args c meth cX5_spells 10 RX5 wsX5_spells E A) (hr : meth.sig.returnType = some .boolean) (hK26 : ∀ (v8 : Int32) (v9 : Int32), K26 v8 v9 = some o → zG p l e rm_X5_spells s m args below meth c 10 E A 0 0 (MQ below (zQ E A (some (.int o)) [(q_t, .inr (4, [.ref q_t_told, .ref q_t_kept, .ref q_t_isKept, .ref q_t_refused, .long t_above, .long t_below, .ref q_t_gets, .ref q_t_ahead, .int t_leftBehind, .ref q_t_dayGets, .ref q_t_dayDue, .ref q_t_own, .ref q_t_ownGets, .ref q_t_bestOwn, .ref q_t_alone, .ref q_t_atMuch, .ref q_t_hand, .ref q_t_his, .ref q_t_its, .ref q_t_bytes, .int t_bytesLong, .int t_tokenAt, .int t_tokenLong, .int t_token, .int t_value, .ref q_t_anew, .ref q_t_values, .int t_takenHours])), (q_t_bytes, zI E 150 t_bytes)]) args s 0 0 A) [(q_t, .inr (4, [.ref q_t_told, .ref q_t_kept, .ref q_t_isKept, .ref q_t_refused, .long t_above, .long t_below, .ref q_t_gets, .ref q_t_ahead, .int t_leftBehind, .ref q_t_dayGets, .ref q_t_dayDue, .ref q_t_own, .ref q_t_ownGets, .ref q_t_bestOwn, .ref q_t_alone, .ref q_t_atMuch, .ref q_t_hand, .ref q_t_his, .ref q_t_its, .ref q_t_bytes, .int t_bytesLong, .int t_tokenAt, .int t_tokenLong, .int t_token, .int t_value, .ref q_t_anew, .ref q_t_values, .int t_takenHours])), (q_t_bytes, zI E 150 t_bytes)] 26 [(0, .ref q_t), (1, .int a1), (2, .int a2), (3, .int a3), (4, .int a4), (5, .int a5), (6, .int a6), (7, .int a7), (8, .int v8), (9, .int v9)] []) : ∀  (v9 : Int32) (s0 : Int32), f_X5_spells_b111 F a1 a2 a3 a4 a5 a6 a7 t_tokenAt t_tokenLong t_token t_bytes K26 v9 s0 = some o → zG p l e rm_X5_spells s m args below meth c 10 E A 0 0 (MQ below (zQ E A (some (.int o)) [(q_t, .inr (4, [.ref q_t_told, .ref q_t_kept, .ref q_t_isKept, .ref q_t_refused, .long t_above, .long t_below, .ref q_t_gets, .ref q_t_ahead, .int t_leftBehind, .ref q_t_dayGets, .ref q_t_dayDue, .ref q_t_own, .ref q_t_ownGets, .ref q_t_bestOwn, .ref q_t_alone, .ref q_t_atMuch, .ref q_t_hand, .ref q_t_his, .ref q_t_its, .ref q_t_bytes, .int t_bytesLong, .int t_tokenAt, .int t_tokenLong, .int t_token, .int t_value, .ref q_t_anew, .ref q_t_values, .int t_takenHours])), (q_t_bytes, zI E 150 t_bytes)]) args s 0 0 A) [(q_t, .inr (4, [.ref q_t_told, .ref q_t_kept, .ref q_t_isKept, .ref q_t_refused, .long t_above, .long t_below, .ref q_t_gets, .ref q_t_ahead, .int t_leftBehind, .ref q_t_dayGets, .ref q_t_dayDue, .ref q_t_own, .ref q_t_ownGets, .ref q_t_bestOwn, .ref q_t_alone, .ref q_t_atMuch, .ref q_t_hand, .ref q_t_his, .ref q_t_its, .ref q_t_bytes, .int t_bytesLong, .int t_tokenAt, .int t_tokenLong, .int t_token, .int t_value, .ref q_t_anew, .ref q_t_values, .int t_takenHours])), (q_t_bytes, zI E 150 t_bytes)] 111 [(0, .ref q_t), (1, .int a1), (2, .int a2), (3, .int a3), (4, .int a4), (5, .int a5), (6, .int a6), (7, .int a7), (9, .int v9)] [.int s0] := by
  intro v9 s0 h
  rw [f_X5_spells_b111] at h
  refine z_istore (L' := [(8, .int s0), (0, .ref q_t), (1, .int a1), (2, .int a2), (3, .int a3), (4, .int a4), (5, .int a5), (6, .int a6), (7, .int a7), (9, .int v9)]) C dX5_spells_111 (by decide) rfl ?_
  refine z_iinc (v := v9 + (1 : Int32)) (L' := [(9, .int (v9 + (1 : Int32))), (8, .int s0), (0, .ref q_t), (1, .int a1), (2, .int a2), (3, .int a3), (4, .int a4), (5, .int a5), (6, .int a6), (7, .int a7)]) C dX5_spells_113 9 rfl rfl (by decide) rfl ?_
  refine z_goto (tgt := 26) C dX5_spells_116 (by decide) ?_
  refine z_sub [2, 3, 4, 5, 6, 7, 8, 9, 1, 0] (L' := [(0, .ref q_t), (1, .int a1), (2, .int a2), (3, .int a3), (4, .int a4), (5, .int a5), (6, .int a6), (7, .int a7), (8, .int s0), (9, .int (v9 + (1 : Int32)))]) rfl ?_
  exact hK26 s0 (v9 + (1 : Int32)) h
set_option maxRecDepth 100000 in
set_option maxHeartbeats 4000000 in
theorem l_X5_spells_b103 {p : Program} {l : Launch} {e : Env} {s : State} {m : MethodId} {args : Array Value} {below : List Frame} {meth : Method} {c : Code} {E : zE} {A : Nat → Prop} {q_t q_t_bytes q_t_told q_t_kept q_t_isKept q_t_refused q_t_gets q_t_ahead q_t_dayGets q_t_dayDue q_t_own q_t_ownGets q_t_bestOwn q_t_alone q_t_atMuch q_t_hand q_t_his q_t_its q_t_anew q_t_values : Nat} {t_above : Int64} {t_below : Int64} {t_leftBehind : Int32} {t_bytesLong : Int32} {t_value : Int32} {t_takenHours : Int32} {o : Int32} (F : Nat) (a1 : Int32) (a2 : Int32) (a3 : Int32) (a4 : Int32) (a5 : Int32) (a6 : Int32) (a7 : Int32) (t_tokenAt : Int32) (t_tokenLong : Int32) (t_token : Int32) (t_bytes : Nat → Int32) (K26 : Int32 → Int32 → Option (Int32)) (C : zC p s m args c meth cX5_spells 10 RX5 wsX5_spells E A) (hr : meth.sig.returnType = some .boolean) (hK26 : ∀ (v8 : Int32) (v9 : Int32), K26 v8 v9 = some o → zG p l e rm_X5_spells s m args below meth c 10 E A 0 0 (MQ below (zQ E A (some (.int o)) [(q_t, .inr (4, [.ref q_t_told, .ref q_t_kept, .ref q_t_isKept, .ref q_t_refused, .long t_above, .long t_below, .ref q_t_gets, .ref q_t_ahead, .int t_leftBehind, .ref q_t_dayGets, .ref q_t_dayDue, .ref q_t_own, .ref q_t_ownGets, .ref q_t_bestOwn, .ref q_t_alone, .ref q_t_atMuch, .ref q_t_hand, .ref q_t_his, .ref q_t_its, .ref q_t_bytes, .int t_bytesLong, .int t_tokenAt, .int t_tokenLong, .int t_token, .int t_value, .ref q_t_anew, .ref q_t_values, .int t_takenHours])), (q_t_bytes, zI E 150 t_bytes)]) args s 0 0 A) [(q_t, .inr (4, [.ref q_t_told, .ref q_t_kept, .ref q_t_isKept, .ref q_t_refused, .long t_above, .long t_below, .ref q_t_gets, .ref q_t_ahead, .int t_leftBehind, .ref q_t_dayGets, .ref q_t_dayDue, .ref q_t_own, .ref q_t_ownGets, .ref q_t_bestOwn, .ref q_t_alone, .ref q_t_atMuch, .ref q_t_hand, .ref q_t_his, .ref q_t_its, .ref q_t_bytes, .int t_bytesLong, .int t_tokenAt, .int t_tokenLong, .int t_token, .int t_value, .ref q_t_anew, .ref q_t_values, .int t_takenHours])), (q_t_bytes, zI E 150 t_bytes)] 26 [(0, .ref q_t), (1, .int a1), (2, .int a2), (3, .int a3), (4, .int a4), (5, .int a5), (6, .int a6), (7, .int a7), (8, .int v8), (9, .int v9)] []) : ∀  (v9 : Int32) (s0 : Int32) (s1 : Int32), f_X5_spells_b103 F a1 a2 a3 a4 a5 a6 a7 t_tokenAt t_tokenLong t_token t_bytes K26 v9 s0 s1 = some o → zG p l e rm_X5_spells s m args below meth c 10 E A 0 0 (MQ below (zQ E A (some (.int o)) [(q_t, .inr (4, [.ref q_t_told, .ref q_t_kept, .ref q_t_isKept, .ref q_t_refused, .long t_above, .long t_below, .ref q_t_gets, .ref q_t_ahead, .int t_leftBehind, .ref q_t_dayGets, .ref q_t_dayDue, .ref q_t_own, .ref q_t_ownGets, .ref q_t_bestOwn, .ref q_t_alone, .ref q_t_atMuch, .ref q_t_hand, .ref q_t_his, .ref q_t_its, .ref q_t_bytes, .int t_bytesLong, .int t_tokenAt, .int t_tokenLong, .int t_token, .int t_value, .ref q_t_anew, .ref q_t_values, .int t_takenHours])), (q_t_bytes, zI E 150 t_bytes)]) args s 0 0 A) [(q_t, .inr (4, [.ref q_t_told, .ref q_t_kept, .ref q_t_isKept, .ref q_t_refused, .long t_above, .long t_below, .ref q_t_gets, .ref q_t_ahead, .int t_leftBehind, .ref q_t_dayGets, .ref q_t_dayDue, .ref q_t_own, .ref q_t_ownGets, .ref q_t_bestOwn, .ref q_t_alone, .ref q_t_atMuch, .ref q_t_hand, .ref q_t_his, .ref q_t_its, .ref q_t_bytes, .int t_bytesLong, .int t_tokenAt, .int t_tokenLong, .int t_token, .int t_value, .ref q_t_anew, .ref q_t_values, .int t_takenHours])), (q_t_bytes, zI E 150 t_bytes)] 103 [(0, .ref q_t), (1, .int a1), (2, .int a2), (3, .int a3), (4, .int a4), (5, .int a5), (6, .int a6), (7, .int a7), (9, .int v9)] [.int s1, .int s0] := by
  intro v9 s0 s1 h
  rw [f_X5_spells_b103] at h
  refine z_icmp_ne (tgt := 110) C dX5_spells_103 (by decide) (fun c => ?_) (fun c => ?_)
  · replace h := (if_neg c).symm.trans h
    refine z_iconst (v := (0 : Int32)) C dX5_spells_110 (by decide) ?_
    exact (l_X5_spells_b111 F a1 a2 a3 a4 a5 a6 a7 t_tokenAt t_tokenLong t_token t_bytes K26 C hr hK26) v9 (0 : Int32) h
  · replace h := (if_pos c).symm.trans h
    refine z_iconst (v := (1 : Int32)) C dX5_spells_106 (by decide) ?_
    refine z_goto (tgt := 111) C dX5_spells_107 (by decide) ?_
    exact (l_X5_spells_b111 F a1 a2 a3 a4 a5 a6 a7 t_tokenAt t_tokenLong t_token t_bytes K26 C hr hK26) v9 (1 : Int32) h
set_option maxRecDepth 100000 in
set_option maxHeartbeats 4000000 in
theorem l_X5_spells_b26 {p : Program} {l : Launch} {e : Env} {s : State} {m : MethodId} {args : Array Value} {below : List Frame} {meth : Method} {c : Code} {E : zE} {A : Nat → Prop} {q_t q_t_bytes q_t_told q_t_kept q_t_isKept q_t_refused q_t_gets q_t_ahead q_t_dayGets q_t_dayDue q_t_own q_t_ownGets q_t_bestOwn q_t_alone q_t_atMuch q_t_hand q_t_his q_t_its q_t_anew q_t_values : Nat} {t_above : Int64} {t_below : Int64} {t_leftBehind : Int32} {t_bytesLong : Int32} {t_value : Int32} {t_takenHours : Int32} {o : Int32} (F : Nat) (a1 : Int32) (a2 : Int32) (a3 : Int32) (a4 : Int32) (a5 : Int32) (a6 : Int32) (a7 : Int32) (t_tokenAt : Int32) (t_tokenLong : Int32) (t_token : Int32) (t_bytes : Nat → Int32) (C : zC p s m args c meth cX5_spells 10 RX5 wsX5_spells E A) (hr : meth.sig.returnType = some .boolean) : ∀ (n : Nat) (v8 : Int32) (v9 : Int32), f_X5_spells_b26 F a1 a2 a3 a4 a5 a6 a7 t_tokenAt t_tokenLong t_token t_bytes n v8 v9 = some o → zG p l e rm_X5_spells s m args below meth c 10 E A 0 0 (MQ below (zQ E A (some (.int o)) [(q_t, .inr (4, [.ref q_t_told, .ref q_t_kept, .ref q_t_isKept, .ref q_t_refused, .long t_above, .long t_below, .ref q_t_gets, .ref q_t_ahead, .int t_leftBehind, .ref q_t_dayGets, .ref q_t_dayDue, .ref q_t_own, .ref q_t_ownGets, .ref q_t_bestOwn, .ref q_t_alone, .ref q_t_atMuch, .ref q_t_hand, .ref q_t_his, .ref q_t_its, .ref q_t_bytes, .int t_bytesLong, .int t_tokenAt, .int t_tokenLong, .int t_token, .int t_value, .ref q_t_anew, .ref q_t_values, .int t_takenHours])), (q_t_bytes, zI E 150 t_bytes)]) args s 0 0 A) [(q_t, .inr (4, [.ref q_t_told, .ref q_t_kept, .ref q_t_isKept, .ref q_t_refused, .long t_above, .long t_below, .ref q_t_gets, .ref q_t_ahead, .int t_leftBehind, .ref q_t_dayGets, .ref q_t_dayDue, .ref q_t_own, .ref q_t_ownGets, .ref q_t_bestOwn, .ref q_t_alone, .ref q_t_atMuch, .ref q_t_hand, .ref q_t_his, .ref q_t_its, .ref q_t_bytes, .int t_bytesLong, .int t_tokenAt, .int t_tokenLong, .int t_token, .int t_value, .ref q_t_anew, .ref q_t_values, .int t_takenHours])), (q_t_bytes, zI E 150 t_bytes)] 26 [(0, .ref q_t), (1, .int a1), (2, .int a2), (3, .int a3), (4, .int a4), (5, .int a5), (6, .int a6), (7, .int a7), (8, .int v8), (9, .int v9)] [] := by
  intro n
  induction n with
  | zero =>
    intro v8 v9 h
    rw [f_X5_spells_b26] at h
    cases h
  | succ n ih =>
    intro v8 v9 h
    rw [f_X5_spells_b26] at h
    refine z_iload C dX5_spells_26 9 rfl ?_
    refine z_iload_n C dX5_spells_28 rfl 1 rfl ?_
    refine z_icmp_ge (tgt := 119) C dX5_spells_29 (by decide) (fun c => ?_) (fun c => ?_)
    · replace h := (if_pos c).symm.trans h
      refine z_iload C dX5_spells_119 8 rfl ?_
      obtain ⟨c1, h⟩ := chk_some h
      obtain rfl := Option.some.inj h
      exact z_zret (v := v8) C hr (bo_n c1) dX5_spells_121
    · replace h := (if_neg c).symm.trans h
      refine z_iload C dX5_spells_32 8 rfl ?_
      refine z_if_eq (tgt := 119) C dX5_spells_34 (by decide) (fun c => ?_) (fun c => ?_)
      · replace h := (if_pos c).symm.trans h
        refine z_iload C dX5_spells_119 8 rfl ?_
        obtain ⟨c2, h⟩ := chk_some h
        obtain rfl := Option.some.inj h
        exact z_zret (v := v8) C hr (bo_n c2) dX5_spells_121
      · replace h := (if_neg c).symm.trans h
        refine z_aload_n C dX5_spells_37 rfl 0 rfl ?_
        refine z_get C inT_X5 0 rfl rfl 19 (by decide) rfl (mc W_692) rfl dX5_spells_38 ?_
        refine z_aload_n C dX5_spells_41 rfl 0 rfl ?_
        refine z_get C inT_X5 0 rfl rfl 21 (by decide) rfl (mc W_694) rfl dX5_spells_42 ?_
        refine z_iload C dX5_spells_45 9 rfl ?_
        refine z_iadd C dX5_spells_47 ?_
        obtain ⟨c3, h⟩ := chk_some h
        refine z_iald C 1 rfl c3 dX5_spells_48 ?_
        refine z_iload C dX5_spells_49 9 rfl ?_
        refine z_if_ne (tgt := 58) C dX5_spells_51 (by decide) (fun c => ?_) (fun c => ?_)
        · replace h := (if_neg c).symm.trans h
          refine z_iload C dX5_spells_58 9 rfl ?_
          refine z_iconst (v := (1 : Int32)) C dX5_spells_60 (by decide) ?_
          refine z_icmp_ne (tgt := 68) C dX5_spells_61 (by decide) (fun c => ?_) (fun c => ?_)
          · replace h := (if_neg c).symm.trans h
            refine z_iload C dX5_spells_68 9 rfl ?_
            refine z_iconst (v := (2 : Int32)) C dX5_spells_70 (by decide) ?_
            refine z_icmp_ne (tgt := 79) C dX5_spells_71 (by decide) (fun c => ?_) (fun c => ?_)
            · replace h := (if_neg c).symm.trans h
              refine z_iload C dX5_spells_79 9 rfl ?_
              refine z_iconst (v := (3 : Int32)) C dX5_spells_81 (by decide) ?_
              refine z_icmp_ne (tgt := 90) C dX5_spells_82 (by decide) (fun c => ?_) (fun c => ?_)
              · replace h := (if_neg c).symm.trans h
                refine z_iload C dX5_spells_90 9 rfl ?_
                refine z_iconst (v := (4 : Int32)) C dX5_spells_92 (by decide) ?_
                refine z_icmp_ne (tgt := 101) C dX5_spells_93 (by decide) (fun c => ?_) (fun c => ?_)
                · replace h := (if_neg c).symm.trans h
                  refine z_iload C dX5_spells_101 7 rfl ?_
                  refine z_sub [0, 1, 2, 3, 4, 5, 6, 7, 9] (L' := [(0, .ref q_t), (1, .int a1), (2, .int a2), (3, .int a3), (4, .int a4), (5, .int a5), (6, .int a6), (7, .int a7), (9, .int v9)]) rfl ?_
                  exact (l_X5_spells_b103 F a1 a2 a3 a4 a5 a6 a7 t_tokenAt t_tokenLong t_token t_bytes (f_X5_spells_b26 F a1 a2 a3 a4 a5 a6 a7 t_tokenAt t_tokenLong t_token t_bytes n) C hr ih) v9 (t_bytes (t_tokenAt + v9).toNatClampNeg) a7 h
                · replace h := (if_pos c).symm.trans h
                  refine z_iload C dX5_spells_96 6 rfl ?_
                  refine z_goto (tgt := 103) C dX5_spells_98 (by decide) ?_
                  refine z_sub [0, 1, 2, 3, 4, 5, 6, 7, 9] (L' := [(0, .ref q_t), (1, .int a1), (2, .int a2), (3, .int a3), (4, .int a4), (5, .int a5), (6, .int a6), (7, .int a7), (9, .int v9)]) rfl ?_
                  exact (l_X5_spells_b103 F a1 a2 a3 a4 a5 a6 a7 t_tokenAt t_tokenLong t_token t_bytes (f_X5_spells_b26 F a1 a2 a3 a4 a5 a6 a7 t_tokenAt t_tokenLong t_token t_bytes n) C hr ih) v9 (t_bytes (t_tokenAt + v9).toNatClampNeg) a6 h
              · replace h := (if_pos c).symm.trans h
                refine z_iload C dX5_spells_85 5 rfl ?_
                refine z_goto (tgt := 103) C dX5_spells_87 (by decide) ?_
                refine z_sub [0, 1, 2, 3, 4, 5, 6, 7, 9] (L' := [(0, .ref q_t), (1, .int a1), (2, .int a2), (3, .int a3), (4, .int a4), (5, .int a5), (6, .int a6), (7, .int a7), (9, .int v9)]) rfl ?_
                exact (l_X5_spells_b103 F a1 a2 a3 a4 a5 a6 a7 t_tokenAt t_tokenLong t_token t_bytes (f_X5_spells_b26 F a1 a2 a3 a4 a5 a6 a7 t_tokenAt t_tokenLong t_token t_bytes n) C hr ih) v9 (t_bytes (t_tokenAt + v9).toNatClampNeg) a5 h
            · replace h := (if_pos c).symm.trans h
              refine z_iload C dX5_spells_74 4 rfl ?_
              refine z_goto (tgt := 103) C dX5_spells_76 (by decide) ?_
              refine z_sub [0, 1, 2, 3, 4, 5, 6, 7, 9] (L' := [(0, .ref q_t), (1, .int a1), (2, .int a2), (3, .int a3), (4, .int a4), (5, .int a5), (6, .int a6), (7, .int a7), (9, .int v9)]) rfl ?_
              exact (l_X5_spells_b103 F a1 a2 a3 a4 a5 a6 a7 t_tokenAt t_tokenLong t_token t_bytes (f_X5_spells_b26 F a1 a2 a3 a4 a5 a6 a7 t_tokenAt t_tokenLong t_token t_bytes n) C hr ih) v9 (t_bytes (t_tokenAt + v9).toNatClampNeg) a4 h
          · replace h := (if_pos c).symm.trans h
            refine z_iload_n C dX5_spells_64 rfl 3 rfl ?_
            refine z_goto (tgt := 103) C dX5_spells_65 (by decide) ?_
            refine z_sub [0, 1, 2, 3, 4, 5, 6, 7, 9] (L' := [(0, .ref q_t), (1, .int a1), (2, .int a2), (3, .int a3), (4, .int a4), (5, .int a5), (6, .int a6), (7, .int a7), (9, .int v9)]) rfl ?_
            exact (l_X5_spells_b103 F a1 a2 a3 a4 a5 a6 a7 t_tokenAt t_tokenLong t_token t_bytes (f_X5_spells_b26 F a1 a2 a3 a4 a5 a6 a7 t_tokenAt t_tokenLong t_token t_bytes n) C hr ih) v9 (t_bytes (t_tokenAt + v9).toNatClampNeg) a3 h
        · replace h := (if_pos c).symm.trans h
          refine z_iload_n C dX5_spells_54 rfl 2 rfl ?_
          refine z_goto (tgt := 103) C dX5_spells_55 (by decide) ?_
          refine z_sub [0, 1, 2, 3, 4, 5, 6, 7, 9] (L' := [(0, .ref q_t), (1, .int a1), (2, .int a2), (3, .int a3), (4, .int a4), (5, .int a5), (6, .int a6), (7, .int a7), (9, .int v9)]) rfl ?_
          exact (l_X5_spells_b103 F a1 a2 a3 a4 a5 a6 a7 t_tokenAt t_tokenLong t_token t_bytes (f_X5_spells_b26 F a1 a2 a3 a4 a5 a6 a7 t_tokenAt t_tokenLong t_token t_bytes n) C hr ih) v9 (t_bytes (t_tokenAt + v9).toNatClampNeg) a2 h
set_option maxRecDepth 100000 in
set_option maxHeartbeats 4000000 in
theorem l_X5_spells_b21 {p : Program} {l : Launch} {e : Env} {s : State} {m : MethodId} {args : Array Value} {below : List Frame} {meth : Method} {c : Code} {E : zE} {A : Nat → Prop} {q_t q_t_bytes q_t_told q_t_kept q_t_isKept q_t_refused q_t_gets q_t_ahead q_t_dayGets q_t_dayDue q_t_own q_t_ownGets q_t_bestOwn q_t_alone q_t_atMuch q_t_hand q_t_his q_t_its q_t_anew q_t_values : Nat} {t_above : Int64} {t_below : Int64} {t_leftBehind : Int32} {t_bytesLong : Int32} {t_value : Int32} {t_takenHours : Int32} {o : Int32} (F : Nat) (a1 : Int32) (a2 : Int32) (a3 : Int32) (a4 : Int32) (a5 : Int32) (a6 : Int32) (a7 : Int32) (t_tokenAt : Int32) (t_tokenLong : Int32) (t_token : Int32) (t_bytes : Nat → Int32) (C : zC p s m args c meth cX5_spells 10 RX5 wsX5_spells E A) (hr : meth.sig.returnType = some .boolean) : ∀  (s0 : Int32), f_X5_spells_b21 F a1 a2 a3 a4 a5 a6 a7 t_tokenAt t_tokenLong t_token t_bytes s0 = some o → zG p l e rm_X5_spells s m args below meth c 10 E A 0 0 (MQ below (zQ E A (some (.int o)) [(q_t, .inr (4, [.ref q_t_told, .ref q_t_kept, .ref q_t_isKept, .ref q_t_refused, .long t_above, .long t_below, .ref q_t_gets, .ref q_t_ahead, .int t_leftBehind, .ref q_t_dayGets, .ref q_t_dayDue, .ref q_t_own, .ref q_t_ownGets, .ref q_t_bestOwn, .ref q_t_alone, .ref q_t_atMuch, .ref q_t_hand, .ref q_t_his, .ref q_t_its, .ref q_t_bytes, .int t_bytesLong, .int t_tokenAt, .int t_tokenLong, .int t_token, .int t_value, .ref q_t_anew, .ref q_t_values, .int t_takenHours])), (q_t_bytes, zI E 150 t_bytes)]) args s 0 0 A) [(q_t, .inr (4, [.ref q_t_told, .ref q_t_kept, .ref q_t_isKept, .ref q_t_refused, .long t_above, .long t_below, .ref q_t_gets, .ref q_t_ahead, .int t_leftBehind, .ref q_t_dayGets, .ref q_t_dayDue, .ref q_t_own, .ref q_t_ownGets, .ref q_t_bestOwn, .ref q_t_alone, .ref q_t_atMuch, .ref q_t_hand, .ref q_t_his, .ref q_t_its, .ref q_t_bytes, .int t_bytesLong, .int t_tokenAt, .int t_tokenLong, .int t_token, .int t_value, .ref q_t_anew, .ref q_t_values, .int t_takenHours])), (q_t_bytes, zI E 150 t_bytes)] 21 [(0, .ref q_t), (1, .int a1), (2, .int a2), (3, .int a3), (4, .int a4), (5, .int a5), (6, .int a6), (7, .int a7)] [.int s0] := by
  intro s0 h
  rw [f_X5_spells_b21] at h
  refine z_istore (L' := [(8, .int s0), (0, .ref q_t), (1, .int a1), (2, .int a2), (3, .int a3), (4, .int a4), (5, .int a5), (6, .int a6), (7, .int a7)]) C dX5_spells_21 (by decide) rfl ?_
  refine z_iconst (v := (0 : Int32)) C dX5_spells_23 (by decide) ?_
  refine z_istore (L' := [(9, .int (0 : Int32)), (8, .int s0), (0, .ref q_t), (1, .int a1), (2, .int a2), (3, .int a3), (4, .int a4), (5, .int a5), (6, .int a6), (7, .int a7)]) C dX5_spells_24 (by decide) rfl ?_
  refine z_sub [2, 3, 4, 5, 6, 7, 8, 9, 1, 0] (L' := [(0, .ref q_t), (1, .int a1), (2, .int a2), (3, .int a3), (4, .int a4), (5, .int a5), (6, .int a6), (7, .int a7), (8, .int s0), (9, .int (0 : Int32))]) rfl ?_
  exact (l_X5_spells_b26 F a1 a2 a3 a4 a5 a6 a7 t_tokenAt t_tokenLong t_token t_bytes C hr F) s0 (0 : Int32) h
set_option maxRecDepth 100000 in
set_option maxHeartbeats 4000000 in
theorem c_X5_spells {l : Launch} {E : zE} {q_t q_t_bytes q_t_told q_t_kept q_t_isKept q_t_refused q_t_gets q_t_ahead q_t_dayGets q_t_dayDue q_t_own q_t_ownGets q_t_bestOwn q_t_alone q_t_atMuch q_t_hand q_t_his q_t_its q_t_anew q_t_values : Nat} {t_above : Int64} {t_below : Int64} {t_leftBehind : Int32} {t_bytesLong : Int32} {t_value : Int32} {t_takenHours : Int32} {a1 : Int32} {a2 : Int32} {a3 : Int32} {a4 : Int32} {a5 : Int32} {a6 : Int32} {a7 : Int32} {t_tokenAt : Int32} {t_tokenLong : Int32} {t_token : Int32} {t_bytes : Nat → Int32} {o : Int32} (F : Nat) (h : f_X5_spells F a1 a2 a3 a4 a5 a6 a7 t_tokenAt t_tokenLong t_token t_bytes = some o) : zM l yX5_spells wsX5_spells rm_X5_spells E [.ref q_t, .int a1, .int a2, .int a3, .int a4, .int a5, .int a6, .int a7] [(q_t, .inr (4, [.ref q_t_told, .ref q_t_kept, .ref q_t_isKept, .ref q_t_refused, .long t_above, .long t_below, .ref q_t_gets, .ref q_t_ahead, .int t_leftBehind, .ref q_t_dayGets, .ref q_t_dayDue, .ref q_t_own, .ref q_t_ownGets, .ref q_t_bestOwn, .ref q_t_alone, .ref q_t_atMuch, .ref q_t_hand, .ref q_t_his, .ref q_t_its, .ref q_t_bytes, .int t_bytesLong, .int t_tokenAt, .int t_tokenLong, .int t_token, .int t_value, .ref q_t_anew, .ref q_t_values, .int t_takenHours])), (q_t_bytes, zI E 150 t_bytes)] (some (.int o)) [(q_t, .inr (4, [.ref q_t_told, .ref q_t_kept, .ref q_t_isKept, .ref q_t_refused, .long t_above, .long t_below, .ref q_t_gets, .ref q_t_ahead, .int t_leftBehind, .ref q_t_dayGets, .ref q_t_dayDue, .ref q_t_own, .ref q_t_ownGets, .ref q_t_bestOwn, .ref q_t_alone, .ref q_t_atMuch, .ref q_t_hand, .ref q_t_his, .ref q_t_its, .ref q_t_bytes, .int t_bytesLong, .int t_tokenAt, .int t_tokenLong, .int t_token, .int t_value, .ref q_t_anew, .ref q_t_values, .int t_takenHours])), (q_t_bytes, zI E 150 t_bytes)] := by
  refine zM.of (cc := cX5_spells) (maxL := 10) (ret := (some .boolean)) (by decide +kernel) rfl (Nat.le_of_ble_eq_true rfl) ?_
  intro p e s m args below meth c A C hr
  have C : zC p s m args c meth cX5_spells 10 RX5 wsX5_spells E A := C
  rw [f_X5_spells] at h
  refine z_aload_n C dX5_spells_0 rfl 0 rfl ?_
  refine z_get C inT_X5 0 rfl rfl 23 (by decide) rfl (mc W_696) rfl dX5_spells_1 ?_
  refine z_iconst (v := (1 : Int32)) C dX5_spells_4 (by decide) ?_
  refine z_icmp_ne (tgt := 20) C dX5_spells_5 (by decide) (fun c => ?_) (fun c => ?_)
  · replace h := (if_neg c).symm.trans h
    exact (l_X5_spells_b20 F a1 a2 a3 a4 a5 a6 a7 t_tokenAt t_tokenLong t_token t_bytes (f_X5_spells_b21 F a1 a2 a3 a4 a5 a6 a7 t_tokenAt t_tokenLong t_token t_bytes) C hr (l_X5_spells_b21 F a1 a2 a3 a4 a5 a6 a7 t_tokenAt t_tokenLong t_token t_bytes C hr))  h
  · replace h := (if_pos c).symm.trans h
    refine z_aload_n C dX5_spells_8 rfl 0 rfl ?_
    refine z_get C inT_X5 0 rfl rfl 22 (by decide) rfl (mc W_695) rfl dX5_spells_9 ?_
    refine z_iload_n C dX5_spells_12 rfl 1 rfl ?_
    refine z_icmp_ne (tgt := 20) C dX5_spells_13 (by decide) (fun c => ?_) (fun c => ?_)
    · replace h := (if_neg c).symm.trans h
      exact (l_X5_spells_b20 F a1 a2 a3 a4 a5 a6 a7 t_tokenAt t_tokenLong t_token t_bytes (f_X5_spells_b21 F a1 a2 a3 a4 a5 a6 a7 t_tokenAt t_tokenLong t_token t_bytes) C hr (l_X5_spells_b21 F a1 a2 a3 a4 a5 a6 a7 t_tokenAt t_tokenLong t_token t_bytes C hr))  h
    · replace h := (if_pos c).symm.trans h
      refine z_iconst (v := (1 : Int32)) C dX5_spells_16 (by decide) ?_
      refine z_goto (tgt := 21) C dX5_spells_17 (by decide) ?_
      exact (l_X5_spells_b21 F a1 a2 a3 a4 a5 a6 a7 t_tokenAt t_tokenLong t_token t_bytes C hr) (1 : Int32) h
def rm_X5_takes : Room := { frames := 4, cells := 0, slots := 0, locals := 89 }
theorem hd_X5_takes : yX5_takes.cls = yX5_takes.cls ∧ yX5_takes.cls ≠ "java/lang/invoke/MethodHandle" ∧ yX5_takes.cls ≠ "java/lang/invoke/VarHandle" ∧ (parseMethodDescriptor yX5_takes.desc).map (fun d => d.parameters.length) = some 3 := by decide +kernel
abbrev wsX5_takes : List Cond := .code yX5_takes cX5_takes 4 (some .boolean) :: WALL
set_option maxRecDepth 100000 in
set_option maxHeartbeats 4000000 in
theorem c_X5_takes {l : Launch} {E : zE} {q_t q_t_values q_t_bytes q_t_told q_t_kept q_t_isKept q_t_refused q_t_gets q_t_ahead q_t_dayGets q_t_dayDue q_t_own q_t_ownGets q_t_bestOwn q_t_alone q_t_atMuch q_t_hand q_t_his q_t_its q_t_anew : Nat} {t_above : Int64} {t_below : Int64} {t_leftBehind : Int32} {t_takenHours : Int32} {a1 : Int32} {a2 : Int32} {a3 : Int32} {t_bytesLong : Int32} {t_bytes : Nat → Int32} {t_tokenAt : Int32} {t_tokenLong : Int32} {t_token : Int32} {t_value : Int32} {t_values : Nat → Int32} {o : Int32 × Int32 × Int32 × Int32 × Int32 × (Nat → Int32)} (F : Nat) (h : f_X5_takes F a1 a2 a3 t_bytesLong t_bytes t_tokenAt t_tokenLong t_token t_value t_values = some o) : zM l yX5_takes wsX5_takes rm_X5_takes E [.ref q_t, .int a1, .int a2, .int a3] [(q_t, .inr (4, [.ref q_t_told, .ref q_t_kept, .ref q_t_isKept, .ref q_t_refused, .long t_above, .long t_below, .ref q_t_gets, .ref q_t_ahead, .int t_leftBehind, .ref q_t_dayGets, .ref q_t_dayDue, .ref q_t_own, .ref q_t_ownGets, .ref q_t_bestOwn, .ref q_t_alone, .ref q_t_atMuch, .ref q_t_hand, .ref q_t_his, .ref q_t_its, .ref q_t_bytes, .int t_bytesLong, .int t_tokenAt, .int t_tokenLong, .int t_token, .int t_value, .ref q_t_anew, .ref q_t_values, .int t_takenHours])), (q_t_values, zI E 2 t_values), (q_t_bytes, zI E 150 t_bytes)] (some (.int o.1)) [(q_t, .inr (4, [.ref q_t_told, .ref q_t_kept, .ref q_t_isKept, .ref q_t_refused, .long t_above, .long t_below, .ref q_t_gets, .ref q_t_ahead, .int t_leftBehind, .ref q_t_dayGets, .ref q_t_dayDue, .ref q_t_own, .ref q_t_ownGets, .ref q_t_bestOwn, .ref q_t_alone, .ref q_t_atMuch, .ref q_t_hand, .ref q_t_his, .ref q_t_its, .ref q_t_bytes, .int t_bytesLong, .int o.2.1, .int o.2.2.1, .int o.2.2.2.1, .int o.2.2.2.2.1, .ref q_t_anew, .ref q_t_values, .int t_takenHours])), (q_t_values, zI E 2 o.2.2.2.2.2), (q_t_bytes, zI E 150 t_bytes)] := by
  refine zM.of (cc := cX5_takes) (maxL := 4) (ret := (some .boolean)) (by decide +kernel) rfl (Nat.le_of_ble_eq_true rfl) ?_
  intro p e s m args below meth c A C hr
  have C : zC p s m args c meth cX5_takes 4 RX5 wsX5_takes E A := C
  rw [f_X5_takes] at h
  refine z_aload_n C dX5_takes_0 rfl 0 rfl ?_
  refine z_get C inT_X5 0 rfl rfl 23 (by decide) rfl (mc W_696) rfl dX5_takes_1 ?_
  refine z_iconst (v := (2 : Int32)) C dX5_takes_4 (by decide) ?_
  refine z_icmp_ne (tgt := 23) C dX5_takes_5 (by decide) (fun c => ?_) (fun c => ?_)
  · replace h := (if_neg c).symm.trans h
    refine z_iconst (v := (0 : Int32)) C dX5_takes_23 (by decide) ?_
    obtain rfl := Option.some.inj h
    exact z_zret (v := (0 : Int32)) C hr rfl dX5_takes_24
  · replace h := (if_pos c).symm.trans h
    refine z_aload_n C dX5_takes_8 rfl 0 rfl ?_
    refine z_get C inT_X5 0 rfl rfl 24 (by decide) rfl (mc W_697) rfl dX5_takes_9 ?_
    refine z_i2l C dX5_takes_12 ?_
    refine z_iload_n C dX5_takes_13 rfl 2 rfl ?_
    refine z_i2l C dX5_takes_14 ?_
    refine z_iload_n C dX5_takes_15 rfl 3 rfl ?_
    refine z_i2l C dX5_takes_16 ?_
    obtain ⟨o1, ho2, h⟩ := bnd_some h
    refine z_callS (wc := []) (wr := [(q_t, .inr (4, [.ref q_t_told, .ref q_t_kept, .ref q_t_isKept, .ref q_t_refused, .long t_above, .long t_below, .ref q_t_gets, .ref q_t_ahead, .int t_leftBehind, .ref q_t_dayGets, .ref q_t_dayDue, .ref q_t_own, .ref q_t_ownGets, .ref q_t_bestOwn, .ref q_t_alone, .ref q_t_atMuch, .ref q_t_hand, .ref q_t_his, .ref q_t_its, .ref q_t_bytes, .int t_bytesLong, .int t_tokenAt, .int t_tokenLong, .int t_token, .int t_value, .ref q_t_anew, .ref q_t_values, .int t_takenHours])), (q_t_values, zI E 2 t_values), (q_t_bytes, zI E 150 t_bytes)]) (wc' := []) (ws2 := [(q_t, .inr (4, [.ref q_t_told, .ref q_t_kept, .ref q_t_isKept, .ref q_t_refused, .long t_above, .long t_below, .ref q_t_gets, .ref q_t_ahead, .int t_leftBehind, .ref q_t_dayGets, .ref q_t_dayDue, .ref q_t_own, .ref q_t_ownGets, .ref q_t_bestOwn, .ref q_t_alone, .ref q_t_atMuch, .ref q_t_hand, .ref q_t_his, .ref q_t_its, .ref q_t_bytes, .int t_bytesLong, .int t_tokenAt, .int t_tokenLong, .int t_token, .int t_value, .ref q_t_anew, .ref q_t_values, .int t_takenHours])), (q_t_values, zI E 2 t_values), (q_t_bytes, zI E 150 t_bytes)]) (As := [.long t_value.toInt64, .long a2.toInt64, .long a3.toInt64]) (st2 := [.int o1]) C [] [0, 1, 2] [0, 1, 2] rfl rfl rfl rfl (by decide) rfl rfl (c_X5_in F ho2) (goodST consT W_767 W_768 W_62 W_769) rfl rfl rfl hd_X5_in ⟨Nat.le_of_ble_eq_true rfl, Nat.le_of_ble_eq_true rfl⟩ rfl rfl rfl (Nat.le_of_ble_eq_true rfl) dX5_takes_17 ⟨Nat.zero_le _, Nat.zero_le _⟩ ?_
    refine z_if_ne (tgt := 25) C dX5_takes_20 (by decide) (fun c => ?_) (fun c => ?_)
    · replace h := (if_neg c).symm.trans h
      refine z_aload_n C dX5_takes_25 rfl 0 rfl ?_
      refine z_get C inT_X5 0 rfl rfl 26 (by decide) rfl (mc W_699) rfl dX5_takes_26 ?_
      refine z_iload_n C dX5_takes_29 rfl 1 rfl ?_
      refine z_aload_n C dX5_takes_30 rfl 0 rfl ?_
      refine z_get C inT_X5 0 rfl rfl 24 (by decide) rfl (mc W_697) rfl dX5_takes_31 ?_
      obtain ⟨c3, h⟩ := chk_some h
      refine z_iast (ws' := [(q_t, .inr (4, [.ref q_t_told, .ref q_t_kept, .ref q_t_isKept, .ref q_t_refused, .long t_above, .long t_below, .ref q_t_gets, .ref q_t_ahead, .int t_leftBehind, .ref q_t_dayGets, .ref q_t_dayDue, .ref q_t_own, .ref q_t_ownGets, .ref q_t_bestOwn, .ref q_t_alone, .ref q_t_atMuch, .ref q_t_hand, .ref q_t_his, .ref q_t_its, .ref q_t_bytes, .int t_bytesLong, .int t_tokenAt, .int t_tokenLong, .int t_token, .int t_value, .ref q_t_anew, .ref q_t_values, .int t_takenHours])), (q_t_values, zI E 2 (upd t_values a1.toNatClampNeg t_value)), (q_t_bytes, zI E 150 t_bytes)]) C 1 rfl c3 rfl dX5_takes_34 ?_
      refine z_aload_n C dX5_takes_35 rfl 0 rfl ?_
      obtain ⟨o4, ho5, h⟩ := bnd_some h
      refine z_callV (wc := [(q_t, .inr (4, [.ref q_t_told, .ref q_t_kept, .ref q_t_isKept, .ref q_t_refused, .long t_above, .long t_below, .ref q_t_gets, .ref q_t_ahead, .int t_leftBehind, .ref q_t_dayGets, .ref q_t_dayDue, .ref q_t_own, .ref q_t_ownGets, .ref q_t_bestOwn, .ref q_t_alone, .ref q_t_atMuch, .ref q_t_hand, .ref q_t_his, .ref q_t_its, .ref q_t_bytes, .int t_bytesLong, .int t_tokenAt, .int t_tokenLong, .int t_token, .int t_value, .ref q_t_anew, .ref q_t_values, .int t_takenHours])), (q_t_bytes, zI E 150 t_bytes)]) (wr := [(q_t_values, zI E 2 (upd t_values a1.toNatClampNeg t_value))]) (wc' := [(q_t, .inr (4, [.ref q_t_told, .ref q_t_kept, .ref q_t_isKept, .ref q_t_refused, .long t_above, .long t_below, .ref q_t_gets, .ref q_t_ahead, .int t_leftBehind, .ref q_t_dayGets, .ref q_t_dayDue, .ref q_t_own, .ref q_t_ownGets, .ref q_t_bestOwn, .ref q_t_alone, .ref q_t_atMuch, .ref q_t_hand, .ref q_t_his, .ref q_t_its, .ref q_t_bytes, .int t_bytesLong, .int o4.1, .int o4.2.1, .int o4.2.2.1, .int o4.2.2.2, .ref q_t_anew, .ref q_t_values, .int t_takenHours])), (q_t_bytes, zI E 150 t_bytes)]) (ws2 := [(q_t, .inr (4, [.ref q_t_told, .ref q_t_kept, .ref q_t_isKept, .ref q_t_refused, .long t_above, .long t_below, .ref q_t_gets, .ref q_t_ahead, .int t_leftBehind, .ref q_t_dayGets, .ref q_t_dayDue, .ref q_t_own, .ref q_t_ownGets, .ref q_t_bestOwn, .ref q_t_alone, .ref q_t_atMuch, .ref q_t_hand, .ref q_t_his, .ref q_t_its, .ref q_t_bytes, .int t_bytesLong, .int o4.1, .int o4.2.1, .int o4.2.2.1, .int o4.2.2.2, .ref q_t_anew, .ref q_t_values, .int t_takenHours])), (q_t_values, zI E 2 (upd t_values a1.toNatClampNeg t_value)), (q_t_bytes, zI E 150 t_bytes)]) (As := []) (st2 := []) C [0, 2] [1] [1, 0, 2] rfl rfl rfl rfl (by decide) rfl rfl (c_X5_goBehind F ho5) (goodVT consT W_1007 W_1009 W_47 W_62 W_1010) rfl rfl rfl hd_X5_goBehind ⟨Nat.le_of_ble_eq_true rfl, Nat.le_of_ble_eq_true rfl⟩ rfl rfl rfl (j := 0) rfl rfl rfl (Nat.le_of_ble_eq_true rfl) dX5_takes_36 ⟨Nat.zero_le _, Nat.zero_le _⟩ ?_
      refine z_iconst (v := (1 : Int32)) C dX5_takes_39 (by decide) ?_
      obtain rfl := Option.some.inj h
      exact z_zret (v := (1 : Int32)) C hr rfl dX5_takes_40
    · replace h := (if_pos c).symm.trans h
      refine z_iconst (v := (0 : Int32)) C dX5_takes_23 (by decide) ?_
      obtain rfl := Option.some.inj h
      exact z_zret (v := (0 : Int32)) C hr rfl dX5_takes_24
def rm_X5_takesHours : Room := { frames := 4, cells := 0, slots := 0, locals := 89 }
theorem hd_X5_takesHours : yX5_takesHours.cls = yX5_takesHours.cls ∧ yX5_takesHours.cls ≠ "java/lang/invoke/MethodHandle" ∧ yX5_takesHours.cls ≠ "java/lang/invoke/VarHandle" ∧ (parseMethodDescriptor yX5_takesHours.desc).map (fun d => d.parameters.length) = some 0 := by decide +kernel
abbrev wsX5_takesHours : List Cond := .code yX5_takesHours cX5_takesHours 1 (some .boolean) :: WALL
set_option maxRecDepth 100000 in
set_option maxHeartbeats 4000000 in
theorem l_X5_takesHours_b45 {p : Program} {l : Launch} {e : Env} {s : State} {m : MethodId} {args : Array Value} {below : List Frame} {meth : Method} {c : Code} {E : zE} {A : Nat → Prop} {q_t q_t_bytes q_t_told q_t_kept q_t_isKept q_t_refused q_t_gets q_t_ahead q_t_dayGets q_t_dayDue q_t_own q_t_ownGets q_t_bestOwn q_t_alone q_t_atMuch q_t_hand q_t_his q_t_its q_t_anew q_t_values : Nat} {t_above : Int64} {t_below : Int64} {t_leftBehind : Int32} {o : Int32 × Int32 × Int32 × Int32 × Int32 × Int32} (F : Nat) (t_bytesLong : Int32) (t_bytes : Nat → Int32) (C : zC p s m args c meth cX5_takesHours 1 RX5 wsX5_takesHours E A) (hr : meth.sig.returnType = some .boolean) : ∀  (t_tokenAt : Int32) (t_tokenLong : Int32) (t_token : Int32) (t_value : Int32) (t_takenHours : Int32), f_X5_takesHours_b45 F t_bytesLong t_bytes t_tokenAt t_tokenLong t_token t_value t_takenHours = some o → zG p l e rm_X5_takesHours s m args below meth c 1 E A 0 0 (MQ below (zQ E A (some (.int o.1)) [(q_t, .inr (4, [.ref q_t_told, .ref q_t_kept, .ref q_t_isKept, .ref q_t_refused, .long t_above, .long t_below, .ref q_t_gets, .ref q_t_ahead, .int t_leftBehind, .ref q_t_dayGets, .ref q_t_dayDue, .ref q_t_own, .ref q_t_ownGets, .ref q_t_bestOwn, .ref q_t_alone, .ref q_t_atMuch, .ref q_t_hand, .ref q_t_his, .ref q_t_its, .ref q_t_bytes, .int t_bytesLong, .int o.2.1, .int o.2.2.1, .int o.2.2.2.1, .int o.2.2.2.2.1, .ref q_t_anew, .ref q_t_values, .int o.2.2.2.2.2])), (q_t_bytes, zI E 150 t_bytes)]) args s 0 0 A) [(q_t, .inr (4, [.ref q_t_told, .ref q_t_kept, .ref q_t_isKept, .ref q_t_refused, .long t_above, .long t_below, .ref q_t_gets, .ref q_t_ahead, .int t_leftBehind, .ref q_t_dayGets, .ref q_t_dayDue, .ref q_t_own, .ref q_t_ownGets, .ref q_t_bestOwn, .ref q_t_alone, .ref q_t_atMuch, .ref q_t_hand, .ref q_t_his, .ref q_t_its, .ref q_t_bytes, .int t_bytesLong, .int t_tokenAt, .int t_tokenLong, .int t_token, .int t_value, .ref q_t_anew, .ref q_t_values, .int t_takenHours])), (q_t_bytes, zI E 150 t_bytes)] 45 [(0, .ref q_t)] [] := by
  intro t_tokenAt t_tokenLong t_token t_value t_takenHours h
  rw [f_X5_takesHours_b45] at h
  refine z_aload_n C dX5_takesHours_45 rfl 0 rfl ?_
  refine z_get C inT_X5 0 rfl rfl 23 (by decide) rfl (mc W_696) rfl dX5_takesHours_46 ?_
  refine z_iconst (v := (3 : Int32)) C dX5_takesHours_49 (by decide) ?_
  refine z_icmp_ne (tgt := 57) C dX5_takesHours_50 (by decide) (fun c => ?_) (fun c => ?_)
  · replace h := (if_neg c).symm.trans h
    refine z_iconst (v := (0 : Int32)) C dX5_takesHours_57 (by decide) ?_
    obtain rfl := Option.some.inj h
    exact z_zret (v := (0 : Int32)) C hr rfl dX5_takesHours_58
  · replace h := (if_pos c).symm.trans h
    refine z_iconst (v := (1 : Int32)) C dX5_takesHours_53 (by decide) ?_
    refine z_goto (tgt := 58) C dX5_takesHours_54 (by decide) ?_
    obtain rfl := Option.some.inj h
    exact z_zret (v := (1 : Int32)) C hr rfl dX5_takesHours_58
set_option maxRecDepth 100000 in
set_option maxHeartbeats 4000000 in
theorem l_X5_takesHours_b5 {p : Program} {l : Launch} {e : Env} {s : State} {m : MethodId} {args : Array Value} {below : List Frame} {meth : Method} {c : Code} {E : zE} {A : Nat → Prop} {q_t q_t_bytes q_t_told q_t_kept q_t_isKept q_t_refused q_t_gets q_t_ahead q_t_dayGets q_t_dayDue q_t_own q_t_ownGets q_t_bestOwn q_t_alone q_t_atMuch q_t_hand q_t_his q_t_its q_t_anew q_t_values : Nat} {t_above : Int64} {t_below : Int64} {t_leftBehind : Int32} {o : Int32 × Int32 × Int32 × Int32 × Int32 × Int32} (F : Nat) (t_bytesLong : Int32) (t_bytes : Nat → Int32) (C : zC p s m args c meth cX5_takesHours 1 RX5 wsX5_takesHours E A) (hr : meth.sig.returnType = some .boolean) : ∀ (n : Nat) (t_tokenAt : Int32) (t_tokenLong : Int32) (t_token : Int32) (t_value : Int32) (t_takenHours : Int32), f_X5_takesHours_b5 F t_bytesLong t_bytes n t_tokenAt t_tokenLong t_token t_value t_takenHours = some o → zG p l e rm_X5_takesHours s m args below meth c 1 E A 0 0 (MQ below (zQ E A (some (.int o.1)) [(q_t, .inr (4, [.ref q_t_told, .ref q_t_kept, .ref q_t_isKept, .ref q_t_refused, .long t_above, .long t_below, .ref q_t_gets, .ref q_t_ahead, .int t_leftBehind, .ref q_t_dayGets, .ref q_t_dayDue, .ref q_t_own, .ref q_t_ownGets, .ref q_t_bestOwn, .ref q_t_alone, .ref q_t_atMuch, .ref q_t_hand, .ref q_t_his, .ref q_t_its, .ref q_t_bytes, .int t_bytesLong, .int o.2.1, .int o.2.2.1, .int o.2.2.2.1, .int o.2.2.2.2.1, .ref q_t_anew, .ref q_t_values, .int o.2.2.2.2.2])), (q_t_bytes, zI E 150 t_bytes)]) args s 0 0 A) [(q_t, .inr (4, [.ref q_t_told, .ref q_t_kept, .ref q_t_isKept, .ref q_t_refused, .long t_above, .long t_below, .ref q_t_gets, .ref q_t_ahead, .int t_leftBehind, .ref q_t_dayGets, .ref q_t_dayDue, .ref q_t_own, .ref q_t_ownGets, .ref q_t_bestOwn, .ref q_t_alone, .ref q_t_atMuch, .ref q_t_hand, .ref q_t_his, .ref q_t_its, .ref q_t_bytes, .int t_bytesLong, .int t_tokenAt, .int t_tokenLong, .int t_token, .int t_value, .ref q_t_anew, .ref q_t_values, .int t_takenHours])), (q_t_bytes, zI E 150 t_bytes)] 5 [(0, .ref q_t)] [] := by
  intro n
  induction n with
  | zero =>
    intro t_tokenAt t_tokenLong t_token t_value t_takenHours h
    rw [f_X5_takesHours_b5] at h
    cases h
  | succ n ih =>
    intro t_tokenAt t_tokenLong t_token t_value t_takenHours h
    rw [f_X5_takesHours_b5] at h
    refine z_aload_n C dX5_takesHours_5 rfl 0 rfl ?_
    refine z_get C inT_X5 0 rfl rfl 23 (by decide) rfl (mc W_696) rfl dX5_takesHours_6 ?_
    refine z_iconst (v := (2 : Int32)) C dX5_takesHours_9 (by decide) ?_
    refine z_icmp_ne (tgt := 45) C dX5_takesHours_10 (by decide) (fun c => ?_) (fun c => ?_)
    · replace h := (if_neg c).symm.trans h
      exact (l_X5_takesHours_b45 F t_bytesLong t_bytes C hr) t_tokenAt t_tokenLong t_token t_value t_takenHours h
    · replace h := (if_pos c).symm.trans h
      refine z_aload_n C dX5_takesHours_13 rfl 0 rfl ?_
      refine z_get C inT_X5 0 rfl rfl 24 (by decide) rfl (mc W_697) rfl dX5_takesHours_14 ?_
      obtain ⟨o1, ho2, h⟩ := bnd_some h
      refine z_callS (wc := []) (wr := [(q_t, .inr (4, [.ref q_t_told, .ref q_t_kept, .ref q_t_isKept, .ref q_t_refused, .long t_above, .long t_below, .ref q_t_gets, .ref q_t_ahead, .int t_leftBehind, .ref q_t_dayGets, .ref q_t_dayDue, .ref q_t_own, .ref q_t_ownGets, .ref q_t_bestOwn, .ref q_t_alone, .ref q_t_atMuch, .ref q_t_hand, .ref q_t_his, .ref q_t_its, .ref q_t_bytes, .int t_bytesLong, .int t_tokenAt, .int t_tokenLong, .int t_token, .int t_value, .ref q_t_anew, .ref q_t_values, .int t_takenHours])), (q_t_bytes, zI E 150 t_bytes)]) (wc' := []) (ws2 := [(q_t, .inr (4, [.ref q_t_told, .ref q_t_kept, .ref q_t_isKept, .ref q_t_refused, .long t_above, .long t_below, .ref q_t_gets, .ref q_t_ahead, .int t_leftBehind, .ref q_t_dayGets, .ref q_t_dayDue, .ref q_t_own, .ref q_t_ownGets, .ref q_t_bestOwn, .ref q_t_alone, .ref q_t_atMuch, .ref q_t_hand, .ref q_t_his, .ref q_t_its, .ref q_t_bytes, .int t_bytesLong, .int t_tokenAt, .int t_tokenLong, .int t_token, .int t_value, .ref q_t_anew, .ref q_t_values, .int t_takenHours])), (q_t_bytes, zI E 150 t_bytes)]) (As := [.int t_value]) (st2 := [.int o1]) C [] [0, 1] [0, 1] rfl rfl rfl rfl (by decide) rfl rfl (c_X5_isHour F ho2) (goodST consT W_861 W_862 W_62 W_863) rfl rfl rfl hd_X5_isHour ⟨Nat.le_of_ble_eq_true rfl, Nat.le_of_ble_eq_true rfl⟩ rfl rfl rfl (Nat.le_of_ble_eq_true rfl) dX5_takesHours_17 ⟨Nat.zero_le _, Nat.zero_le _⟩ ?_
      refine z_if_eq (tgt := 45) C dX5_takesHours_20 (by decide) (fun c => ?_) (fun c => ?_)
      · replace h := (if_pos c).symm.trans h
        exact (l_X5_takesHours_b45 F t_bytesLong t_bytes C hr) t_tokenAt t_tokenLong t_token t_value t_takenHours h
      · replace h := (if_neg c).symm.trans h
        refine z_aload_n C dX5_takesHours_23 rfl 0 rfl ?_
        refine z_dup C dX5_takesHours_24 rfl ?_
        refine z_get C inT_X5 0 rfl rfl 27 (by decide) rfl (mc W_700) rfl dX5_takesHours_25 ?_
        refine z_iconst (v := (1 : Int32)) C dX5_takesHours_28 (by decide) ?_
        refine z_aload_n C dX5_takesHours_29 rfl 0 rfl ?_
        refine z_get C inT_X5 0 rfl rfl 24 (by decide) rfl (mc W_697) rfl dX5_takesHours_30 ?_
        refine z_ishl C dX5_takesHours_33 ?_
        refine z_ior C dX5_takesHours_34 ?_
        refine z_put (ws' := [(q_t, .inr (4, [.ref q_t_told, .ref q_t_kept, .ref q_t_isKept, .ref q_t_refused, .long t_above, .long t_below, .ref q_t_gets, .ref q_t_ahead, .int t_leftBehind, .ref q_t_dayGets, .ref q_t_dayDue, .ref q_t_own, .ref q_t_ownGets, .ref q_t_bestOwn, .ref q_t_alone, .ref q_t_atMuch, .ref q_t_hand, .ref q_t_his, .ref q_t_its, .ref q_t_bytes, .int t_bytesLong, .int t_tokenAt, .int t_tokenLong, .int t_token, .int t_value, .ref q_t_anew, .ref q_t_values, .int (t_takenHours ||| ((1 : Int32) <<< (t_value &&& 31)))])), (q_t_bytes, zI E 150 t_bytes)]) C inT_X5 tyX5 tyX5_ok nmX5 0 rfl rfl 27 (by decide) rfl (mc W_700) rfl rfl rfl (Nat.le_of_ble_eq_true rfl) rfl dX5_takesHours_35 ?_
        refine z_aload_n C dX5_takesHours_38 rfl 0 rfl ?_
        obtain ⟨o3, ho4, h⟩ := bnd_some h
        refine z_callV (wc := [(q_t, .inr (4, [.ref q_t_told, .ref q_t_kept, .ref q_t_isKept, .ref q_t_refused, .long t_above, .long t_below, .ref q_t_gets, .ref q_t_ahead, .int t_leftBehind, .ref q_t_dayGets, .ref q_t_dayDue, .ref q_t_own, .ref q_t_ownGets, .ref q_t_bestOwn, .ref q_t_alone, .ref q_t_atMuch, .ref q_t_hand, .ref q_t_his, .ref q_t_its, .ref q_t_bytes, .int t_bytesLong, .int t_tokenAt, .int t_tokenLong, .int t_token, .int t_value, .ref q_t_anew, .ref q_t_values, .int (t_takenHours ||| ((1 : Int32) <<< (t_value &&& 31)))])), (q_t_bytes, zI E 150 t_bytes)]) (wr := []) (wc' := [(q_t, .inr (4, [.ref q_t_told, .ref q_t_kept, .ref q_t_isKept, .ref q_t_refused, .long t_above, .long t_below, .ref q_t_gets, .ref q_t_ahead, .int t_leftBehind, .ref q_t_dayGets, .ref q_t_dayDue, .ref q_t_own, .ref q_t_ownGets, .ref q_t_bestOwn, .ref q_t_alone, .ref q_t_atMuch, .ref q_t_hand, .ref q_t_his, .ref q_t_its, .ref q_t_bytes, .int t_bytesLong, .int o3.1, .int o3.2.1, .int o3.2.2.1, .int o3.2.2.2, .ref q_t_anew, .ref q_t_values, .int (t_takenHours ||| ((1 : Int32) <<< (t_value &&& 31)))])), (q_t_bytes, zI E 150 t_bytes)]) (ws2 := [(q_t, .inr (4, [.ref q_t_told, .ref q_t_kept, .ref q_t_isKept, .ref q_t_refused, .long t_above, .long t_below, .ref q_t_gets, .ref q_t_ahead, .int t_leftBehind, .ref q_t_dayGets, .ref q_t_dayDue, .ref q_t_own, .ref q_t_ownGets, .ref q_t_bestOwn, .ref q_t_alone, .ref q_t_atMuch, .ref q_t_hand, .ref q_t_his, .ref q_t_its, .ref q_t_bytes, .int t_bytesLong, .int o3.1, .int o3.2.1, .int o3.2.2.1, .int o3.2.2.2, .ref q_t_anew, .ref q_t_values, .int (t_takenHours ||| ((1 : Int32) <<< (t_value &&& 31)))])), (q_t_bytes, zI E 150 t_bytes)]) (As := []) (st2 := []) C [0, 1] [] [0, 1] rfl rfl rfl rfl (by decide) rfl rfl (c_X5_goBehind F ho4) (goodVT consT W_1007 W_1009 W_47 W_62 W_1010) rfl rfl rfl hd_X5_goBehind ⟨Nat.le_of_ble_eq_true rfl, Nat.le_of_ble_eq_true rfl⟩ rfl rfl rfl (j := 0) rfl rfl rfl (Nat.le_of_ble_eq_true rfl) dX5_takesHours_39 ⟨Nat.zero_le _, Nat.zero_le _⟩ ?_
        refine z_goto (tgt := 5) C dX5_takesHours_42 (by decide) ?_
        exact ih o3.1 o3.2.1 o3.2.2.1 o3.2.2.2 (t_takenHours ||| ((1 : Int32) <<< (t_value &&& 31))) h
set_option maxRecDepth 100000 in
set_option maxHeartbeats 4000000 in
theorem c_X5_takesHours {l : Launch} {E : zE} {q_t q_t_bytes q_t_told q_t_kept q_t_isKept q_t_refused q_t_gets q_t_ahead q_t_dayGets q_t_dayDue q_t_own q_t_ownGets q_t_bestOwn q_t_alone q_t_atMuch q_t_hand q_t_his q_t_its q_t_anew q_t_values : Nat} {t_above : Int64} {t_below : Int64} {t_leftBehind : Int32} {t_bytesLong : Int32} {t_bytes : Nat → Int32} {t_tokenAt : Int32} {t_tokenLong : Int32} {t_token : Int32} {t_value : Int32} {t_takenHours : Int32} {o : Int32 × Int32 × Int32 × Int32 × Int32 × Int32} (F : Nat) (h : f_X5_takesHours F t_bytesLong t_bytes t_tokenAt t_tokenLong t_token t_value t_takenHours = some o) : zM l yX5_takesHours wsX5_takesHours rm_X5_takesHours E [.ref q_t] [(q_t, .inr (4, [.ref q_t_told, .ref q_t_kept, .ref q_t_isKept, .ref q_t_refused, .long t_above, .long t_below, .ref q_t_gets, .ref q_t_ahead, .int t_leftBehind, .ref q_t_dayGets, .ref q_t_dayDue, .ref q_t_own, .ref q_t_ownGets, .ref q_t_bestOwn, .ref q_t_alone, .ref q_t_atMuch, .ref q_t_hand, .ref q_t_his, .ref q_t_its, .ref q_t_bytes, .int t_bytesLong, .int t_tokenAt, .int t_tokenLong, .int t_token, .int t_value, .ref q_t_anew, .ref q_t_values, .int t_takenHours])), (q_t_bytes, zI E 150 t_bytes)] (some (.int o.1)) [(q_t, .inr (4, [.ref q_t_told, .ref q_t_kept, .ref q_t_isKept, .ref q_t_refused, .long t_above, .long t_below, .ref q_t_gets, .ref q_t_ahead, .int t_leftBehind, .ref q_t_dayGets, .ref q_t_dayDue, .ref q_t_own, .ref q_t_ownGets, .ref q_t_bestOwn, .ref q_t_alone, .ref q_t_atMuch, .ref q_t_hand, .ref q_t_his, .ref q_t_its, .ref q_t_bytes, .int t_bytesLong, .int o.2.1, .int o.2.2.1, .int o.2.2.2.1, .int o.2.2.2.2.1, .ref q_t_anew, .ref q_t_values, .int o.2.2.2.2.2])), (q_t_bytes, zI E 150 t_bytes)] := by
  refine zM.of (cc := cX5_takesHours) (maxL := 1) (ret := (some .boolean)) (by decide +kernel) rfl (Nat.le_of_ble_eq_true rfl) ?_
  intro p e s m args below meth c A C hr
  have C : zC p s m args c meth cX5_takesHours 1 RX5 wsX5_takesHours E A := C
  rw [f_X5_takesHours] at h
  refine z_aload_n C dX5_takesHours_0 rfl 0 rfl ?_
  refine z_iconst (v := (0 : Int32)) C dX5_takesHours_1 (by decide) ?_
  refine z_put (ws' := [(q_t, .inr (4, [.ref q_t_told, .ref q_t_kept, .ref q_t_isKept, .ref q_t_refused, .long t_above, .long t_below, .ref q_t_gets, .ref q_t_ahead, .int t_leftBehind, .ref q_t_dayGets, .ref q_t_dayDue, .ref q_t_own, .ref q_t_ownGets, .ref q_t_bestOwn, .ref q_t_alone, .ref q_t_atMuch, .ref q_t_hand, .ref q_t_his, .ref q_t_its, .ref q_t_bytes, .int t_bytesLong, .int t_tokenAt, .int t_tokenLong, .int t_token, .int t_value, .ref q_t_anew, .ref q_t_values, .int (0 : Int32)])), (q_t_bytes, zI E 150 t_bytes)]) C inT_X5 tyX5 tyX5_ok nmX5 0 rfl rfl 27 (by decide) rfl (mc W_700) rfl rfl rfl (Nat.le_of_ble_eq_true rfl) rfl dX5_takesHours_2 ?_
  exact (l_X5_takesHours_b5 F t_bytesLong t_bytes C hr F) t_tokenAt t_tokenLong t_token t_value (0 : Int32) h
def rm_X5_takesMain : Room := { frames := 5, cells := 0, slots := 0, locals := 112 }
theorem hd_X5_takesMain : yX5_takesMain.cls = yX5_takesMain.cls ∧ yX5_takesMain.cls ≠ "java/lang/invoke/MethodHandle" ∧ yX5_takesMain.cls ≠ "java/lang/invoke/VarHandle" ∧ (parseMethodDescriptor yX5_takesMain.desc).map (fun d => d.parameters.length) = some 0 := by decide +kernel
abbrev wsX5_takesMain : List Cond := .code yX5_takesMain cX5_takesMain 1 (some .boolean) :: WALL
set_option maxRecDepth 100000 in
set_option maxHeartbeats 4000000 in
theorem c_X5_takesMain {l : Launch} {E : zE} {q_t q_t_bytes q_t_values q_t_anew q_t_told q_t_kept q_t_isKept q_t_refused q_t_gets q_t_ahead q_t_dayGets q_t_dayDue q_t_own q_t_ownGets q_t_bestOwn q_t_alone q_t_atMuch q_t_hand q_t_his q_t_its : Nat} {t_above : Int64} {t_below : Int64} {t_leftBehind : Int32} {t_takenHours : Int32} {t_bytesLong : Int32} {t_bytes : Nat → Int32} {t_tokenAt : Int32} {t_tokenLong : Int32} {t_token : Int32} {t_value : Int32} {t_values : Nat → Int32} {t_anew : Nat → Int32} {o : Int32 × Int32 × Int32 × Int32 × Int32 × (Nat → Int32) × (Nat → Int32)} (F : Nat) (h : f_X5_takesMain F t_bytesLong t_bytes t_tokenAt t_tokenLong t_token t_value t_values t_anew = some o) : zM l yX5_takesMain wsX5_takesMain rm_X5_takesMain E [.ref q_t] [(q_t, .inr (4, [.ref q_t_told, .ref q_t_kept, .ref q_t_isKept, .ref q_t_refused, .long t_above, .long t_below, .ref q_t_gets, .ref q_t_ahead, .int t_leftBehind, .ref q_t_dayGets, .ref q_t_dayDue, .ref q_t_own, .ref q_t_ownGets, .ref q_t_bestOwn, .ref q_t_alone, .ref q_t_atMuch, .ref q_t_hand, .ref q_t_his, .ref q_t_its, .ref q_t_bytes, .int t_bytesLong, .int t_tokenAt, .int t_tokenLong, .int t_token, .int t_value, .ref q_t_anew, .ref q_t_values, .int t_takenHours])), (q_t_bytes, zI E 150 t_bytes), (q_t_values, zI E 2 t_values), (q_t_anew, zI E 75 t_anew)] (some (.int o.1)) [(q_t, .inr (4, [.ref q_t_told, .ref q_t_kept, .ref q_t_isKept, .ref q_t_refused, .long t_above, .long t_below, .ref q_t_gets, .ref q_t_ahead, .int t_leftBehind, .ref q_t_dayGets, .ref q_t_dayDue, .ref q_t_own, .ref q_t_ownGets, .ref q_t_bestOwn, .ref q_t_alone, .ref q_t_atMuch, .ref q_t_hand, .ref q_t_his, .ref q_t_its, .ref q_t_bytes, .int t_bytesLong, .int o.2.1, .int o.2.2.1, .int o.2.2.2.1, .int o.2.2.2.2.1, .ref q_t_anew, .ref q_t_values, .int t_takenHours])), (q_t_bytes, zI E 150 t_bytes), (q_t_values, zI E 2 o.2.2.2.2.2.1), (q_t_anew, zI E 75 o.2.2.2.2.2.2)] := by
  refine zM.of (cc := cX5_takesMain) (maxL := 1) (ret := (some .boolean)) (by decide +kernel) rfl (Nat.le_of_ble_eq_true rfl) ?_
  intro p e s m args below meth c A C hr
  have C : zC p s m args c meth cX5_takesMain 1 RX5 wsX5_takesMain E A := C
  rw [f_X5_takesMain] at h
  refine z_aload_n C dX5_takesMain_0 rfl 0 rfl ?_
  refine z_iconst (v := (4 : Int32)) C dX5_takesMain_1 (by decide) ?_
  refine z_bipush (v := (109 : Int32)) C dX5_takesMain_2 (by decide) ?_
  refine z_bipush (v := (97 : Int32)) C dX5_takesMain_4 (by decide) ?_
  refine z_bipush (v := (105 : Int32)) C dX5_takesMain_6 (by decide) ?_
  refine z_bipush (v := (110 : Int32)) C dX5_takesMain_8 (by decide) ?_
  refine z_iconst (v := (0 : Int32)) C dX5_takesMain_10 (by decide) ?_
  refine z_iconst (v := (0 : Int32)) C dX5_takesMain_11 (by decide) ?_
  obtain ⟨o1, ho2, h⟩ := bnd_some h
  refine z_callV (wc := [(q_t, .inr (4, [.ref q_t_told, .ref q_t_kept, .ref q_t_isKept, .ref q_t_refused, .long t_above, .long t_below, .ref q_t_gets, .ref q_t_ahead, .int t_leftBehind, .ref q_t_dayGets, .ref q_t_dayDue, .ref q_t_own, .ref q_t_ownGets, .ref q_t_bestOwn, .ref q_t_alone, .ref q_t_atMuch, .ref q_t_hand, .ref q_t_his, .ref q_t_its, .ref q_t_bytes, .int t_bytesLong, .int t_tokenAt, .int t_tokenLong, .int t_token, .int t_value, .ref q_t_anew, .ref q_t_values, .int t_takenHours])), (q_t_bytes, zI E 150 t_bytes)]) (wr := [(q_t_values, zI E 2 t_values), (q_t_anew, zI E 75 t_anew)]) (wc' := [(q_t, .inr (4, [.ref q_t_told, .ref q_t_kept, .ref q_t_isKept, .ref q_t_refused, .long t_above, .long t_below, .ref q_t_gets, .ref q_t_ahead, .int t_leftBehind, .ref q_t_dayGets, .ref q_t_dayDue, .ref q_t_own, .ref q_t_ownGets, .ref q_t_bestOwn, .ref q_t_alone, .ref q_t_atMuch, .ref q_t_hand, .ref q_t_his, .ref q_t_its, .ref q_t_bytes, .int t_bytesLong, .int t_tokenAt, .int t_tokenLong, .int t_token, .int t_value, .ref q_t_anew, .ref q_t_values, .int t_takenHours])), (q_t_bytes, zI E 150 t_bytes)]) (ws2 := [(q_t, .inr (4, [.ref q_t_told, .ref q_t_kept, .ref q_t_isKept, .ref q_t_refused, .long t_above, .long t_below, .ref q_t_gets, .ref q_t_ahead, .int t_leftBehind, .ref q_t_dayGets, .ref q_t_dayDue, .ref q_t_own, .ref q_t_ownGets, .ref q_t_bestOwn, .ref q_t_alone, .ref q_t_atMuch, .ref q_t_hand, .ref q_t_his, .ref q_t_its, .ref q_t_bytes, .int t_bytesLong, .int t_tokenAt, .int t_tokenLong, .int t_token, .int t_value, .ref q_t_anew, .ref q_t_values, .int t_takenHours])), (q_t_bytes, zI E 150 t_bytes), (q_t_values, zI E 2 t_values), (q_t_anew, zI E 75 t_anew)]) (As := [.int (4 : Int32), .int (109 : Int32), .int (97 : Int32), .int (105 : Int32), .int (110 : Int32), .int (0 : Int32), .int (0 : Int32)]) (st2 := [.int o1]) C [0, 1] [2, 3] [2, 3, 0, 1] rfl rfl rfl rfl (by decide) rfl rfl (c_X5_spells F ho2) (goodVT consT W_1003 W_1005 W_46 W_62 W_1006) rfl rfl rfl hd_X5_spells ⟨Nat.le_of_ble_eq_true rfl, Nat.le_of_ble_eq_true rfl⟩ rfl rfl rfl (j := 0) rfl rfl rfl (Nat.le_of_ble_eq_true rfl) dX5_takesMain_12 ⟨Nat.zero_le _, Nat.zero_le _⟩ ?_
  refine z_if_ne (tgt := 20) C dX5_takesMain_15 (by decide) (fun c => ?_) (fun c => ?_)
  · replace h := (if_neg c).symm.trans h
    refine z_aload_n C dX5_takesMain_20 rfl 0 rfl ?_
    obtain ⟨o3, ho4, h⟩ := bnd_some h
    refine z_callV (wc := [(q_t, .inr (4, [.ref q_t_told, .ref q_t_kept, .ref q_t_isKept, .ref q_t_refused, .long t_above, .long t_below, .ref q_t_gets, .ref q_t_ahead, .int t_leftBehind, .ref q_t_dayGets, .ref q_t_dayDue, .ref q_t_own, .ref q_t_ownGets, .ref q_t_bestOwn, .ref q_t_alone, .ref q_t_atMuch, .ref q_t_hand, .ref q_t_his, .ref q_t_its, .ref q_t_bytes, .int t_bytesLong, .int t_tokenAt, .int t_tokenLong, .int t_token, .int t_value, .ref q_t_anew, .ref q_t_values, .int t_takenHours])), (q_t_bytes, zI E 150 t_bytes)]) (wr := [(q_t_values, zI E 2 t_values), (q_t_anew, zI E 75 t_anew)]) (wc' := [(q_t, .inr (4, [.ref q_t_told, .ref q_t_kept, .ref q_t_isKept, .ref q_t_refused, .long t_above, .long t_below, .ref q_t_gets, .ref q_t_ahead, .int t_leftBehind, .ref q_t_dayGets, .ref q_t_dayDue, .ref q_t_own, .ref q_t_ownGets, .ref q_t_bestOwn, .ref q_t_alone, .ref q_t_atMuch, .ref q_t_hand, .ref q_t_his, .ref q_t_its, .ref q_t_bytes, .int t_bytesLong, .int o3.1, .int o3.2.1, .int o3.2.2.1, .int o3.2.2.2, .ref q_t_anew, .ref q_t_values, .int t_takenHours])), (q_t_bytes, zI E 150 t_bytes)]) (ws2 := [(q_t, .inr (4, [.ref q_t_told, .ref q_t_kept, .ref q_t_isKept, .ref q_t_refused, .long t_above, .long t_below, .ref q_t_gets, .ref q_t_ahead, .int t_leftBehind, .ref q_t_dayGets, .ref q_t_dayDue, .ref q_t_own, .ref q_t_ownGets, .ref q_t_bestOwn, .ref q_t_alone, .ref q_t_atMuch, .ref q_t_hand, .ref q_t_his, .ref q_t_its, .ref q_t_bytes, .int t_bytesLong, .int o3.1, .int o3.2.1, .int o3.2.2.1, .int o3.2.2.2, .ref q_t_anew, .ref q_t_values, .int t_takenHours])), (q_t_bytes, zI E 150 t_bytes), (q_t_values, zI E 2 t_values), (q_t_anew, zI E 75 t_anew)]) (As := []) (st2 := []) C [0, 1] [2, 3] [2, 3, 0, 1] rfl rfl rfl rfl (by decide) rfl rfl (c_X5_goBehind F ho4) (goodVT consT W_1007 W_1009 W_47 W_62 W_1010) rfl rfl rfl hd_X5_goBehind ⟨Nat.le_of_ble_eq_true rfl, Nat.le_of_ble_eq_true rfl⟩ rfl rfl rfl (j := 0) rfl rfl rfl (Nat.le_of_ble_eq_true rfl) dX5_takesMain_21 ⟨Nat.zero_le _, Nat.zero_le _⟩ ?_
    refine z_aload_n C dX5_takesMain_24 rfl 0 rfl ?_
    refine z_iconst (v := (0 : Int32)) C dX5_takesMain_25 (by decide) ?_
    refine z_iconst (v := (0 : Int32)) C dX5_takesMain_26 (by decide) ?_
    refine z_bipush (v := (60 : Int32)) C dX5_takesMain_27 (by decide) ?_
    obtain ⟨o5, ho6, h⟩ := bnd_some h
    refine z_callV (wc := [(q_t, .inr (4, [.ref q_t_told, .ref q_t_kept, .ref q_t_isKept, .ref q_t_refused, .long t_above, .long t_below, .ref q_t_gets, .ref q_t_ahead, .int t_leftBehind, .ref q_t_dayGets, .ref q_t_dayDue, .ref q_t_own, .ref q_t_ownGets, .ref q_t_bestOwn, .ref q_t_alone, .ref q_t_atMuch, .ref q_t_hand, .ref q_t_his, .ref q_t_its, .ref q_t_bytes, .int t_bytesLong, .int o3.1, .int o3.2.1, .int o3.2.2.1, .int o3.2.2.2, .ref q_t_anew, .ref q_t_values, .int t_takenHours])), (q_t_values, zI E 2 t_values), (q_t_bytes, zI E 150 t_bytes)]) (wr := [(q_t_anew, zI E 75 t_anew)]) (wc' := [(q_t, .inr (4, [.ref q_t_told, .ref q_t_kept, .ref q_t_isKept, .ref q_t_refused, .long t_above, .long t_below, .ref q_t_gets, .ref q_t_ahead, .int t_leftBehind, .ref q_t_dayGets, .ref q_t_dayDue, .ref q_t_own, .ref q_t_ownGets, .ref q_t_bestOwn, .ref q_t_alone, .ref q_t_atMuch, .ref q_t_hand, .ref q_t_his, .ref q_t_its, .ref q_t_bytes, .int t_bytesLong, .int o5.2.1, .int o5.2.2.1, .int o5.2.2.2.1, .int o5.2.2.2.2.1, .ref q_t_anew, .ref q_t_values, .int t_takenHours])), (q_t_values, zI E 2 o5.2.2.2.2.2), (q_t_bytes, zI E 150 t_bytes)]) (ws2 := [(q_t, .inr (4, [.ref q_t_told, .ref q_t_kept, .ref q_t_isKept, .ref q_t_refused, .long t_above, .long t_below, .ref q_t_gets, .ref q_t_ahead, .int t_leftBehind, .ref q_t_dayGets, .ref q_t_dayDue, .ref q_t_own, .ref q_t_ownGets, .ref q_t_bestOwn, .ref q_t_alone, .ref q_t_atMuch, .ref q_t_hand, .ref q_t_his, .ref q_t_its, .ref q_t_bytes, .int t_bytesLong, .int o5.2.1, .int o5.2.2.1, .int o5.2.2.2.1, .int o5.2.2.2.2.1, .ref q_t_anew, .ref q_t_values, .int t_takenHours])), (q_t_bytes, zI E 150 t_bytes), (q_t_values, zI E 2 o5.2.2.2.2.2), (q_t_anew, zI E 75 t_anew)]) (As := [.int (0 : Int32), .int (0 : Int32), .int (60 : Int32)]) (st2 := [.int o5.1]) C [0, 2, 1] [3] [1, 3, 2, 0] rfl rfl rfl rfl (by decide) rfl rfl (c_X5_takes F ho6) (goodVT consT W_1011 W_1013 W_48 W_62 W_1014) rfl rfl rfl hd_X5_takes ⟨Nat.le_of_ble_eq_true rfl, Nat.le_of_ble_eq_true rfl⟩ rfl rfl rfl (j := 0) rfl rfl rfl (Nat.le_of_ble_eq_true rfl) dX5_takesMain_29 ⟨Nat.zero_le _, Nat.zero_le _⟩ ?_
    refine z_if_ne (tgt := 37) C dX5_takesMain_32 (by decide) (fun c => ?_) (fun c => ?_)
    · replace h := (if_neg c).symm.trans h
      refine z_aload_n C dX5_takesMain_37 rfl 0 rfl ?_
      refine z_get C inT_X5 0 rfl rfl 25 (by decide) rfl (mc W_698) rfl dX5_takesMain_38 ?_
      refine z_aload_n C dX5_takesMain_41 rfl 0 rfl ?_
      refine z_get C inT_X5 0 rfl rfl 26 (by decide) rfl (mc W_699) rfl dX5_takesMain_42 ?_
      refine z_iconst (v := (0 : Int32)) C dX5_takesMain_45 (by decide) ?_
      obtain ⟨c7, h⟩ := chk_some h
      refine z_iald C 2 rfl c7 dX5_takesMain_46 ?_
      obtain ⟨o8, ho9, h⟩ := bnd_some h
      refine z_callS (wc := [(q_t_anew, zI E 75 t_anew)]) (wr := [(q_t, .inr (4, [.ref q_t_told, .ref q_t_kept, .ref q_t_isKept, .ref q_t_refused, .long t_above, .long t_below, .ref q_t_gets, .ref q_t_ahead, .int t_leftBehind, .ref q_t_dayGets, .ref q_t_dayDue, .ref q_t_own, .ref q_t_ownGets, .ref q_t_bestOwn, .ref q_t_alone, .ref q_t_atMuch, .ref q_t_hand, .ref q_t_his, .ref q_t_its, .ref q_t_bytes, .int t_bytesLong, .int o5.2.1, .int o5.2.2.1, .int o5.2.2.2.1, .int o5.2.2.2.2.1, .ref q_t_anew, .ref q_t_values, .int t_takenHours])), (q_t_bytes, zI E 150 t_bytes), (q_t_values, zI E 2 o5.2.2.2.2.2)]) (wc' := [(q_t_anew, zI E 75 o8)]) (ws2 := [(q_t, .inr (4, [.ref q_t_told, .ref q_t_kept, .ref q_t_isKept, .ref q_t_refused, .long t_above, .long t_below, .ref q_t_gets, .ref q_t_ahead, .int t_leftBehind, .ref q_t_dayGets, .ref q_t_dayDue, .ref q_t_own, .ref q_t_ownGets, .ref q_t_bestOwn, .ref q_t_alone, .ref q_t_atMuch, .ref q_t_hand, .ref q_t_his, .ref q_t_its, .ref q_t_bytes, .int t_bytesLong, .int o5.2.1, .int o5.2.2.1, .int o5.2.2.2.1, .int o5.2.2.2.2.1, .ref q_t_anew, .ref q_t_values, .int t_takenHours])), (q_t_bytes, zI E 150 t_bytes), (q_t_values, zI E 2 o5.2.2.2.2.2), (q_t_anew, zI E 75 o8)]) (As := [.ref q_t_anew, .int (o5.2.2.2.2.2 (0 : Int32).toNatClampNeg)]) (st2 := []) C [3] [0, 1, 2] [0, 1, 2, 3] rfl rfl rfl rfl (by decide) rfl rfl (c_X5_begin F ho9) (goodST consT W_670 W_671 W_62 W_672) rfl rfl rfl hd_X5_begin ⟨Nat.le_of_ble_eq_true rfl, Nat.le_of_ble_eq_true rfl⟩ rfl rfl rfl (Nat.le_of_ble_eq_true rfl) dX5_takesMain_47 ⟨Nat.zero_le _, Nat.zero_le _⟩ ?_
      refine z_aload_n C dX5_takesMain_50 rfl 0 rfl ?_
      refine z_get C inT_X5 0 rfl rfl 23 (by decide) rfl (mc W_696) rfl dX5_takesMain_51 ?_
      refine z_iconst (v := (3 : Int32)) C dX5_takesMain_54 (by decide) ?_
      refine z_icmp_ne (tgt := 62) C dX5_takesMain_55 (by decide) (fun c => ?_) (fun c => ?_)
      · replace h := (if_neg c).symm.trans h
        refine z_iconst (v := (0 : Int32)) C dX5_takesMain_62 (by decide) ?_
        obtain rfl := Option.some.inj h
        exact z_zret (v := (0 : Int32)) C hr rfl dX5_takesMain_63
      · replace h := (if_pos c).symm.trans h
        refine z_iconst (v := (1 : Int32)) C dX5_takesMain_58 (by decide) ?_
        refine z_goto (tgt := 63) C dX5_takesMain_59 (by decide) ?_
        obtain rfl := Option.some.inj h
        exact z_zret (v := (1 : Int32)) C hr rfl dX5_takesMain_63
    · replace h := (if_pos c).symm.trans h
      refine z_iconst (v := (0 : Int32)) C dX5_takesMain_35 (by decide) ?_
      obtain rfl := Option.some.inj h
      exact z_zret (v := (0 : Int32)) C hr rfl dX5_takesMain_36
  · replace h := (if_pos c).symm.trans h
    refine z_iconst (v := (0 : Int32)) C dX5_takesMain_18 (by decide) ?_
    obtain rfl := Option.some.inj h
    exact z_zret (v := (0 : Int32)) C hr rfl dX5_takesMain_19

def rm_X5_passDay : Room := { frames := 3, cells := 0, slots := 0, locals := 75 }
theorem hd_X5_passDay : yX5_passDay.cls = yX5_passDay.cls ∧ yX5_passDay.cls ≠ "java/lang/invoke/MethodHandle" ∧ yX5_passDay.cls ≠ "java/lang/invoke/VarHandle" ∧ (parseMethodDescriptor yX5_passDay.desc).map (fun d => d.parameters.length) = some 1 := by decide +kernel
abbrev wsX5_passDay : List Cond := .code yX5_passDay cX5_passDay 4 (some .int) :: WALL
set_option maxRecDepth 100000 in
set_option maxHeartbeats 4000000 in
theorem l_X5_passDay_b14 {p : Program} {l : Launch} {e : Env} {s : State} {m : MethodId} {args : Array Value} {below : List Frame} {meth : Method} {c : Code} {E : zE} {A : Nat → Prop} {q_t q_p1 q_t_dayGets q_t_dayDue q_t_ahead q_t_gets q_t_told q_t_kept q_t_isKept q_t_refused q_t_own q_t_ownGets q_t_bestOwn q_t_alone q_t_atMuch q_t_hand q_t_his q_t_its q_t_bytes q_t_anew q_t_values : Nat} {t_above : Int64} {t_below : Int64} {t_bytesLong : Int32} {t_tokenAt : Int32} {t_tokenLong : Int32} {t_token : Int32} {t_value : Int32} {t_takenHours : Int32} {o : Int32 × Int32 × (Nat → Int32) × (Nat → Int32) × (Nat → Int32) × (Nat → Int32) × (Nat → Int32)} (F : Nat) (n_p1 : Nat) (C : zC p s m args c meth cX5_passDay 4 RX5 wsX5_passDay E A) (hr : meth.sig.returnType = some .int) : ∀ (n : Nat) (v2 : Int32) (v3 : Int32) (t_leftBehind : Int32) (p1 : Nat → Int32) (t_dayGets : Nat → Int32) (t_dayDue : Nat → Int32) (t_ahead : Nat → Int32) (t_gets : Nat → Int32), f_X5_passDay_b14 F n_p1 n v2 v3 t_leftBehind p1 t_dayGets t_dayDue t_ahead t_gets = some o → zG p l e rm_X5_passDay s m args below meth c 4 E A 0 0 (MQ below (zQ E A (some (.int o.1)) [(q_t, .inr (4, [.ref q_t_told, .ref q_t_kept, .ref q_t_isKept, .ref q_t_refused, .long t_above, .long t_below, .ref q_t_gets, .ref q_t_ahead, .int o.2.1, .ref q_t_dayGets, .ref q_t_dayDue, .ref q_t_own, .ref q_t_ownGets, .ref q_t_bestOwn, .ref q_t_alone, .ref q_t_atMuch, .ref q_t_hand, .ref q_t_his, .ref q_t_its, .ref q_t_bytes, .int t_bytesLong, .int t_tokenAt, .int t_tokenLong, .int t_token, .int t_value, .ref q_t_anew, .ref q_t_values, .int t_takenHours])), (q_p1, zI E n_p1 o.2.2.1), (q_t_dayGets, zI E 5 o.2.2.2.1), (q_t_dayDue, zI E 5 o.2.2.2.2.1), (q_t_ahead, zI E 5 o.2.2.2.2.2.1), (q_t_gets, zI E 5 o.2.2.2.2.2.2)]) args s 0 0 A) [(q_t, .inr (4, [.ref q_t_told, .ref q_t_kept, .ref q_t_isKept, .ref q_t_refused, .long t_above, .long t_below, .ref q_t_gets, .ref q_t_ahead, .int t_leftBehind, .ref q_t_dayGets, .ref q_t_dayDue, .ref q_t_own, .ref q_t_ownGets, .ref q_t_bestOwn, .ref q_t_alone, .ref q_t_atMuch, .ref q_t_hand, .ref q_t_his, .ref q_t_its, .ref q_t_bytes, .int t_bytesLong, .int t_tokenAt, .int t_tokenLong, .int t_token, .int t_value, .ref q_t_anew, .ref q_t_values, .int t_takenHours])), (q_p1, zI E n_p1 p1), (q_t_dayGets, zI E 5 t_dayGets), (q_t_dayDue, zI E 5 t_dayDue), (q_t_ahead, zI E 5 t_ahead), (q_t_gets, zI E 5 t_gets)] 14 [(0, .ref q_t), (1, .ref q_p1), (2, .int v2), (3, .int v3)] [] := by
  intro n
  induction n with
  | zero =>
    intro v2 v3 t_leftBehind p1 t_dayGets t_dayDue t_ahead t_gets h
    rw [f_X5_passDay_b14] at h
    cases h
  | succ n ih =>
    intro v2 v3 t_leftBehind p1 t_dayGets t_dayDue t_ahead t_gets h
    rw [f_X5_passDay_b14] at h
    refine z_iload_n C dX5_passDay_14 rfl 3 rfl ?_
    refine z_aload_n C dX5_passDay_15 rfl 1 rfl ?_
    refine z_iconst (v := (0 : Int32)) C dX5_passDay_16 (by decide) ?_
    obtain ⟨c4, h⟩ := chk_some h
    refine z_iald C 1 rfl c4 dX5_passDay_17 ?_
    refine z_icmp_ge (tgt := 65) C dX5_passDay_18 (by decide) (fun c => ?_) (fun c => ?_)
    · replace h := (if_pos c).symm.trans h
      refine z_aload_n C dX5_passDay_65 rfl 1 rfl ?_
      refine z_bipush (v := (25 : Int32)) C dX5_passDay_66 (by decide) ?_
      refine z_dup2 C dX5_passDay_68 rfl rfl ?_
      obtain ⟨c5, h⟩ := chk_some h
      refine z_iald C 1 rfl c5 dX5_passDay_69 ?_
      refine z_iconst (v := (1 : Int32)) C dX5_passDay_70 (by decide) ?_
      refine z_iadd C dX5_passDay_71 ?_
      obtain ⟨c6, h⟩ := chk_some h
      refine z_iast (ws' := [(q_t, .inr (4, [.ref q_t_told, .ref q_t_kept, .ref q_t_isKept, .ref q_t_refused, .long t_above, .long t_below, .ref q_t_gets, .ref q_t_ahead, .int t_leftBehind, .ref q_t_dayGets, .ref q_t_dayDue, .ref q_t_own, .ref q_t_ownGets, .ref q_t_bestOwn, .ref q_t_alone, .ref q_t_atMuch, .ref q_t_hand, .ref q_t_his, .ref q_t_its, .ref q_t_bytes, .int t_bytesLong, .int t_tokenAt, .int t_tokenLong, .int t_token, .int t_value, .ref q_t_anew, .ref q_t_values, .int t_takenHours])), (q_p1, zI E n_p1 (upd p1 (25 : Int32).toNatClampNeg ((p1 (25 : Int32).toNatClampNeg) + (1 : Int32)))), (q_t_dayGets, zI E 5 t_dayGets), (q_t_dayDue, zI E 5 t_dayDue), (q_t_ahead, zI E 5 t_ahead), (q_t_gets, zI E 5 t_gets)]) C 1 rfl c6 rfl dX5_passDay_72 ?_
      refine z_iload_n C dX5_passDay_73 rfl 2 rfl ?_
      obtain rfl := Option.some.inj h
      exact z_iret (v := v2) C hr dX5_passDay_74
    · replace h := (if_neg c).symm.trans h
      refine z_aload_n C dX5_passDay_21 rfl 1 rfl ?_
      refine z_iconst (v := (4 : Int32)) C dX5_passDay_22 (by decide) ?_
      refine z_iload_n C dX5_passDay_23 rfl 3 rfl ?_
      refine z_iadd C dX5_passDay_24 ?_
      refine z_dup2 C dX5_passDay_25 rfl rfl ?_
      obtain ⟨c7, h⟩ := chk_some h
      refine z_iald C 1 rfl c7 dX5_passDay_26 ?_
      refine z_aload_n C dX5_passDay_27 rfl 0 rfl ?_
      refine z_get C inT_X5 0 rfl rfl 9 (by decide) rfl (mc W_682) rfl dX5_passDay_28 ?_
      refine z_iload_n C dX5_passDay_31 rfl 3 rfl ?_
      obtain ⟨c8, h⟩ := chk_some h
      refine z_iald C 2 rfl c8 dX5_passDay_32 ?_
      refine z_iadd C dX5_passDay_33 ?_
      obtain ⟨c9, h⟩ := chk_some h
      refine z_iast (ws' := [(q_t, .inr (4, [.ref q_t_told, .ref q_t_kept, .ref q_t_isKept, .ref q_t_refused, .long t_above, .long t_below, .ref q_t_gets, .ref q_t_ahead, .int t_leftBehind, .ref q_t_dayGets, .ref q_t_dayDue, .ref q_t_own, .ref q_t_ownGets, .ref q_t_bestOwn, .ref q_t_alone, .ref q_t_atMuch, .ref q_t_hand, .ref q_t_his, .ref q_t_its, .ref q_t_bytes, .int t_bytesLong, .int t_tokenAt, .int t_tokenLong, .int t_token, .int t_value, .ref q_t_anew, .ref q_t_values, .int t_takenHours])), (q_p1, zI E n_p1 (upd p1 ((4 : Int32) + v3).toNatClampNeg ((p1 ((4 : Int32) + v3).toNatClampNeg) + (t_dayGets v3.toNatClampNeg)))), (q_t_dayGets, zI E 5 t_dayGets), (q_t_dayDue, zI E 5 t_dayDue), (q_t_ahead, zI E 5 t_ahead), (q_t_gets, zI E 5 t_gets)]) C 1 rfl c9 rfl dX5_passDay_34 ?_
      refine z_aload_n C dX5_passDay_35 rfl 1 rfl ?_
      refine z_bipush (v := (9 : Int32)) C dX5_passDay_36 (by decide) ?_
      refine z_iload_n C dX5_passDay_38 rfl 3 rfl ?_
      refine z_iadd C dX5_passDay_39 ?_
      refine z_dup2 C dX5_passDay_40 rfl rfl ?_
      obtain ⟨c10, h⟩ := chk_some h
      refine z_iald C 1 rfl c10 dX5_passDay_41 ?_
      refine z_aload_n C dX5_passDay_42 rfl 0 rfl ?_
      refine z_get C inT_X5 0 rfl rfl 10 (by decide) rfl (mc W_683) rfl dX5_passDay_43 ?_
      refine z_iload_n C dX5_passDay_46 rfl 3 rfl ?_
      obtain ⟨c11, h⟩ := chk_some h
      refine z_iald C 3 rfl c11 dX5_passDay_47 ?_
      refine z_iadd C dX5_passDay_48 ?_
      obtain ⟨c12, h⟩ := chk_some h
      refine z_iast (ws' := [(q_t, .inr (4, [.ref q_t_told, .ref q_t_kept, .ref q_t_isKept, .ref q_t_refused, .long t_above, .long t_below, .ref q_t_gets, .ref q_t_ahead, .int t_leftBehind, .ref q_t_dayGets, .ref q_t_dayDue, .ref q_t_own, .ref q_t_ownGets, .ref q_t_bestOwn, .ref q_t_alone, .ref q_t_atMuch, .ref q_t_hand, .ref q_t_his, .ref q_t_its, .ref q_t_bytes, .int t_bytesLong, .int t_tokenAt, .int t_tokenLong, .int t_token, .int t_value, .ref q_t_anew, .ref q_t_values, .int t_takenHours])), (q_p1, zI E n_p1 (upd (upd p1 ((4 : Int32) + v3).toNatClampNeg ((p1 ((4 : Int32) + v3).toNatClampNeg) + (t_dayGets v3.toNatClampNeg))) ((9 : Int32) + v3).toNatClampNeg (((upd p1 ((4 : Int32) + v3).toNatClampNeg ((p1 ((4 : Int32) + v3).toNatClampNeg) + (t_dayGets v3.toNatClampNeg))) ((9 : Int32) + v3).toNatClampNeg) + (t_dayDue v3.toNatClampNeg)))), (q_t_dayGets, zI E 5 t_dayGets), (q_t_dayDue, zI E 5 t_dayDue), (q_t_ahead, zI E 5 t_ahead), (q_t_gets, zI E 5 t_gets)]) C 1 rfl c12 rfl dX5_passDay_49 ?_
      refine z_iload_n C dX5_passDay_50 rfl 2 rfl ?_
      refine z_aload_n C dX5_passDay_51 rfl 0 rfl ?_
      refine z_get C inT_X5 0 rfl rfl 9 (by decide) rfl (mc W_682) rfl dX5_passDay_52 ?_
      refine z_iload_n C dX5_passDay_55 rfl 3 rfl ?_
      obtain ⟨c13, h⟩ := chk_some h
      refine z_iald C 2 rfl c13 dX5_passDay_56 ?_
      refine z_iadd C dX5_passDay_57 ?_
      refine z_istore_n (L' := [(2, .int (v2 + (t_dayGets v3.toNatClampNeg))), (0, .ref q_t), (1, .ref q_p1), (3, .int v3)]) C dX5_passDay_58 rfl (by decide) rfl ?_
      refine z_iinc (v := v3 + (1 : Int32)) (L' := [(3, .int (v3 + (1 : Int32))), (2, .int (v2 + (t_dayGets v3.toNatClampNeg))), (0, .ref q_t), (1, .ref q_p1)]) C dX5_passDay_59 3 rfl rfl (by decide) rfl ?_
      refine z_goto (tgt := 14) C dX5_passDay_62 (by decide) ?_
      refine z_sub [2, 3, 1, 0] (L' := [(0, .ref q_t), (1, .ref q_p1), (2, .int (v2 + (t_dayGets v3.toNatClampNeg))), (3, .int (v3 + (1 : Int32)))]) rfl ?_
      exact ih (v2 + (t_dayGets v3.toNatClampNeg)) (v3 + (1 : Int32)) t_leftBehind (upd (upd p1 ((4 : Int32) + v3).toNatClampNeg ((p1 ((4 : Int32) + v3).toNatClampNeg) + (t_dayGets v3.toNatClampNeg))) ((9 : Int32) + v3).toNatClampNeg (((upd p1 ((4 : Int32) + v3).toNatClampNeg ((p1 ((4 : Int32) + v3).toNatClampNeg) + (t_dayGets v3.toNatClampNeg))) ((9 : Int32) + v3).toNatClampNeg) + (t_dayDue v3.toNatClampNeg))) t_dayGets t_dayDue t_ahead t_gets h
set_option maxRecDepth 100000 in
set_option maxHeartbeats 4000000 in
theorem c_X5_passDay {l : Launch} {E : zE} {q_t q_p1 q_t_dayGets q_t_dayDue q_t_ahead q_t_gets q_t_told q_t_kept q_t_isKept q_t_refused q_t_own q_t_ownGets q_t_bestOwn q_t_alone q_t_atMuch q_t_hand q_t_his q_t_its q_t_bytes q_t_anew q_t_values : Nat} {t_above : Int64} {t_below : Int64} {t_bytesLong : Int32} {t_tokenAt : Int32} {t_tokenLong : Int32} {t_token : Int32} {t_value : Int32} {t_takenHours : Int32} {n_p1 : Nat} {t_leftBehind : Int32} {p1 : Nat → Int32} {t_dayGets : Nat → Int32} {t_dayDue : Nat → Int32} {t_ahead : Nat → Int32} {t_gets : Nat → Int32} {o : Int32 × Int32 × (Nat → Int32) × (Nat → Int32) × (Nat → Int32) × (Nat → Int32) × (Nat → Int32)} (F : Nat) (h : f_X5_passDay F n_p1 t_leftBehind p1 t_dayGets t_dayDue t_ahead t_gets = some o) : zM l yX5_passDay wsX5_passDay rm_X5_passDay E [.ref q_t, .ref q_p1] [(q_t, .inr (4, [.ref q_t_told, .ref q_t_kept, .ref q_t_isKept, .ref q_t_refused, .long t_above, .long t_below, .ref q_t_gets, .ref q_t_ahead, .int t_leftBehind, .ref q_t_dayGets, .ref q_t_dayDue, .ref q_t_own, .ref q_t_ownGets, .ref q_t_bestOwn, .ref q_t_alone, .ref q_t_atMuch, .ref q_t_hand, .ref q_t_his, .ref q_t_its, .ref q_t_bytes, .int t_bytesLong, .int t_tokenAt, .int t_tokenLong, .int t_token, .int t_value, .ref q_t_anew, .ref q_t_values, .int t_takenHours])), (q_p1, zI E n_p1 p1), (q_t_dayGets, zI E 5 t_dayGets), (q_t_dayDue, zI E 5 t_dayDue), (q_t_ahead, zI E 5 t_ahead), (q_t_gets, zI E 5 t_gets)] (some (.int o.1)) [(q_t, .inr (4, [.ref q_t_told, .ref q_t_kept, .ref q_t_isKept, .ref q_t_refused, .long t_above, .long t_below, .ref q_t_gets, .ref q_t_ahead, .int o.2.1, .ref q_t_dayGets, .ref q_t_dayDue, .ref q_t_own, .ref q_t_ownGets, .ref q_t_bestOwn, .ref q_t_alone, .ref q_t_atMuch, .ref q_t_hand, .ref q_t_his, .ref q_t_its, .ref q_t_bytes, .int t_bytesLong, .int t_tokenAt, .int t_tokenLong, .int t_token, .int t_value, .ref q_t_anew, .ref q_t_values, .int t_takenHours])), (q_p1, zI E n_p1 o.2.2.1), (q_t_dayGets, zI E 5 o.2.2.2.1), (q_t_dayDue, zI E 5 o.2.2.2.2.1), (q_t_ahead, zI E 5 o.2.2.2.2.2.1), (q_t_gets, zI E 5 o.2.2.2.2.2.2)] := by
  refine zM.of (cc := cX5_passDay) (maxL := 4) (ret := (some .int)) (by decide +kernel) rfl (Nat.le_of_ble_eq_true rfl) ?_
  intro p e s m args below meth c A C hr
  have C : zC p s m args c meth cX5_passDay 4 RX5 wsX5_passDay E A := C
  rw [f_X5_passDay] at h
  refine z_iconst (v := (0 : Int32)) C dX5_passDay_0 (by decide) ?_
  refine z_istore_n (L' := [(2, .int (0 : Int32)), (0, .ref q_t), (1, .ref q_p1)]) C dX5_passDay_1 rfl (by decide) rfl ?_
  refine z_aload_n C dX5_passDay_2 rfl 1 rfl ?_
  refine z_aload_n C dX5_passDay_3 rfl 2 rfl ?_
  refine z_aload_n C dX5_passDay_4 rfl 2 rfl ?_
  refine z_bipush (v := (24 : Int32)) C dX5_passDay_5 (by decide) ?_
  obtain ⟨c1, h⟩ := chk_some h
  refine z_iald C 1 rfl c1 dX5_passDay_7 ?_
  refine z_iconst (v := (0 : Int32)) C dX5_passDay_8 (by decide) ?_
  obtain ⟨o2, ho3, h⟩ := bnd_some h
  refine z_callV (wc := [(q_t, .inr (4, [.ref q_t_told, .ref q_t_kept, .ref q_t_isKept, .ref q_t_refused, .long t_above, .long t_below, .ref q_t_gets, .ref q_t_ahead, .int t_leftBehind, .ref q_t_dayGets, .ref q_t_dayDue, .ref q_t_own, .ref q_t_ownGets, .ref q_t_bestOwn, .ref q_t_alone, .ref q_t_atMuch, .ref q_t_hand, .ref q_t_his, .ref q_t_its, .ref q_t_bytes, .int t_bytesLong, .int t_tokenAt, .int t_tokenLong, .int t_token, .int t_value, .ref q_t_anew, .ref q_t_values, .int t_takenHours])), (q_t_dayGets, zI E 5 t_dayGets), (q_t_dayDue, zI E 5 t_dayDue), (q_p1, zI E n_p1 p1), (q_t_ahead, zI E 5 t_ahead), (q_t_gets, zI E 5 t_gets)]) (wr := []) (wc' := [(q_t, .inr (4, [.ref q_t_told, .ref q_t_kept, .ref q_t_isKept, .ref q_t_refused, .long t_above, .long t_below, .ref q_t_gets, .ref q_t_ahead, .int o2.1, .ref q_t_dayGets, .ref q_t_dayDue, .ref q_t_own, .ref q_t_ownGets, .ref q_t_bestOwn, .ref q_t_alone, .ref q_t_atMuch, .ref q_t_hand, .ref q_t_his, .ref q_t_its, .ref q_t_bytes, .int t_bytesLong, .int t_tokenAt, .int t_tokenLong, .int t_token, .int t_value, .ref q_t_anew, .ref q_t_values, .int t_takenHours])), (q_t_dayGets, zI E 5 o2.2.1), (q_t_dayDue, zI E 5 o2.2.2.1), (q_p1, zI E n_p1 p1), (q_t_ahead, zI E 5 o2.2.2.2.1), (q_t_gets, zI E 5 o2.2.2.2.2)]) (ws2 := [(q_t, .inr (4, [.ref q_t_told, .ref q_t_kept, .ref q_t_isKept, .ref q_t_refused, .long t_above, .long t_below, .ref q_t_gets, .ref q_t_ahead, .int o2.1, .ref q_t_dayGets, .ref q_t_dayDue, .ref q_t_own, .ref q_t_ownGets, .ref q_t_bestOwn, .ref q_t_alone, .ref q_t_atMuch, .ref q_t_hand, .ref q_t_his, .ref q_t_its, .ref q_t_bytes, .int t_bytesLong, .int t_tokenAt, .int t_tokenLong, .int t_token, .int t_value, .ref q_t_anew, .ref q_t_values, .int t_takenHours])), (q_p1, zI E n_p1 p1), (q_t_dayGets, zI E 5 o2.2.1), (q_t_dayDue, zI E 5 o2.2.2.1), (q_t_ahead, zI E 5 o2.2.2.2.1), (q_t_gets, zI E 5 o2.2.2.2.2)]) (As := [.ref q_p1, .int (p1 (24 : Int32).toNatClampNeg), .int (0 : Int32)]) (st2 := []) C [0, 2, 3, 1, 4, 5] [] [0, 3, 1, 2, 4, 5] rfl rfl rfl rfl (by decide) rfl rfl (c_X5_layDay F ho3) (goodVT consT W_808 W_810 W_32 W_62 W_811) rfl rfl rfl hd_X5_layDay ⟨Nat.le_of_ble_eq_true rfl, Nat.le_of_ble_eq_true rfl⟩ rfl rfl rfl (j := 0) rfl rfl rfl (Nat.le_of_ble_eq_true rfl) dX5_passDay_9 ⟨Nat.zero_le _, Nat.zero_le _⟩ ?_
  refine z_iconst (v := (0 : Int32)) C dX5_passDay_12 (by decide) ?_
  refine z_istore_n (L' := [(3, .int (0 : Int32)), (2, .int (0 : Int32)), (0, .ref q_t), (1, .ref q_p1)]) C dX5_passDay_13 rfl (by decide) rfl ?_
  refine z_sub [2, 3, 1, 0] (L' := [(0, .ref q_t), (1, .ref q_p1), (2, .int (0 : Int32)), (3, .int (0 : Int32))]) rfl ?_
  exact (l_X5_passDay_b14 F n_p1 C hr F) (0 : Int32) (0 : Int32) o2.1 p1 o2.2.1 o2.2.2.1 o2.2.2.2.1 o2.2.2.2.2 h
def rm_X5_keep : Room := { frames := 0, cells := 0, slots := 0, locals := 0 }
theorem hd_X5_keep : yX5_keep.cls = yX5_keep.cls ∧ yX5_keep.cls ≠ "java/lang/invoke/MethodHandle" ∧ yX5_keep.cls ≠ "java/lang/invoke/VarHandle" ∧ (parseMethodDescriptor yX5_keep.desc).map (fun d => d.parameters.length) = some 0 := by decide +kernel
abbrev wsX5_keep : List Cond := .code yX5_keep cX5_keep 2 none :: WALL
set_option maxRecDepth 100000 in
set_option maxHeartbeats 4000000 in
theorem l_X5_keep_b13 {p : Program} {l : Launch} {e : Env} {s : State} {m : MethodId} {args : Array Value} {below : List Frame} {meth : Method} {c : Code} {E : zE} {A : Nat → Prop} {q_t q_t_told q_t_kept q_t_isKept q_t_refused q_t_gets q_t_ahead q_t_dayGets q_t_dayDue q_t_own q_t_ownGets q_t_bestOwn q_t_alone q_t_atMuch q_t_hand q_t_his q_t_its q_t_bytes q_t_anew q_t_values : Nat} {t_above : Int64} {t_below : Int64} {t_leftBehind : Int32} {t_bytesLong : Int32} {t_tokenAt : Int32} {t_tokenLong : Int32} {t_token : Int32} {t_value : Int32} {t_takenHours : Int32} {o : (Nat → Int32)} (F : Nat) (K52 : (Nat → Int32) → Option ((Nat → Int32))) (C : zC p s m args c meth cX5_keep 2 RX5 wsX5_keep E A) (hr : meth.sig.returnType = none) (hK52 : ∀ (t_told : Nat → Int32), K52 t_told = some o → zG p l e rm_X5_keep s m args below meth c 2 E A 0 0 (MQ below (zQ E A none [(q_t, .inr (4, [.ref q_t_told, .ref q_t_kept, .ref q_t_isKept, .ref q_t_refused, .long t_above, .long t_below, .ref q_t_gets, .ref q_t_ahead, .int t_leftBehind, .ref q_t_dayGets, .ref q_t_dayDue, .ref q_t_own, .ref q_t_ownGets, .ref q_t_bestOwn, .ref q_t_alone, .ref q_t_atMuch, .ref q_t_hand, .ref q_t_his, .ref q_t_its, .ref q_t_bytes, .int t_bytesLong, .int t_tokenAt, .int t_tokenLong, .int t_token, .int t_value, .ref q_t_anew, .ref q_t_values, .int t_takenHours])), (q_t_told, zI E 251 o)]) args s 0 0 A) [(q_t, .inr (4, [.ref q_t_told, .ref q_t_kept, .ref q_t_isKept, .ref q_t_refused, .long t_above, .long t_below, .ref q_t_gets, .ref q_t_ahead, .int t_leftBehind, .ref q_t_dayGets, .ref q_t_dayDue, .ref q_t_own, .ref q_t_ownGets, .ref q_t_bestOwn, .ref q_t_alone, .ref q_t_atMuch, .ref q_t_hand, .ref q_t_his, .ref q_t_its, .ref q_t_bytes, .int t_bytesLong, .int t_tokenAt, .int t_tokenLong, .int t_token, .int t_value, .ref q_t_anew, .ref q_t_values, .int t_takenHours])), (q_t_told, zI E 251 t_told)] 52 [(0, .ref q_t)] []) : ∀ (n : Nat) (v1 : Int32) (t_told : Nat → Int32), f_X5_keep_b13 F K52 n v1 t_told = some o → zG p l e rm_X5_keep s m args below meth c 2 E A 0 0 (MQ below (zQ E A none [(q_t, .inr (4, [.ref q_t_told, .ref q_t_kept, .ref q_t_isKept, .ref q_t_refused, .long t_above, .long t_below, .ref q_t_gets, .ref q_t_ahead, .int t_leftBehind, .ref q_t_dayGets, .ref q_t_dayDue, .ref q_t_own, .ref q_t_ownGets, .ref q_t_bestOwn, .ref q_t_alone, .ref q_t_atMuch, .ref q_t_hand, .ref q_t_his, .ref q_t_its, .ref q_t_bytes, .int t_bytesLong, .int t_tokenAt, .int t_tokenLong, .int t_token, .int t_value, .ref q_t_anew, .ref q_t_values, .int t_takenHours])), (q_t_told, zI E 251 o)]) args s 0 0 A) [(q_t, .inr (4, [.ref q_t_told, .ref q_t_kept, .ref q_t_isKept, .ref q_t_refused, .long t_above, .long t_below, .ref q_t_gets, .ref q_t_ahead, .int t_leftBehind, .ref q_t_dayGets, .ref q_t_dayDue, .ref q_t_own, .ref q_t_ownGets, .ref q_t_bestOwn, .ref q_t_alone, .ref q_t_atMuch, .ref q_t_hand, .ref q_t_his, .ref q_t_its, .ref q_t_bytes, .int t_bytesLong, .int t_tokenAt, .int t_tokenLong, .int t_token, .int t_value, .ref q_t_anew, .ref q_t_values, .int t_takenHours])), (q_t_told, zI E 251 t_told)] 13 [(0, .ref q_t), (1, .int v1)] [] := by
  intro n
  induction n with
  | zero =>
    intro v1 t_told h
    rw [f_X5_keep_b13] at h
    cases h
  | succ n ih =>
    intro v1 t_told h
    rw [f_X5_keep_b13] at h
    refine z_iload_n C dX5_keep_13 rfl 1 rfl ?_
    refine z_sipush (v := (154 : Int32)) C dX5_keep_14 (by decide) ?_
    refine z_icmp_ge (tgt := 44) C dX5_keep_17 (by decide) (fun c => ?_) (fun c => ?_)
    · replace h := (if_pos c).symm.trans h
      refine z_aload_n C dX5_keep_44 rfl 0 rfl ?_
      refine z_get C inT_X5 0 rfl rfl 0 (by decide) rfl (mc W_673) rfl dX5_keep_45 ?_
      refine z_iconst (v := (3 : Int32)) C dX5_keep_48 (by decide) ?_
      refine z_bipush (v := (7 : Int32)) C dX5_keep_49 (by decide) ?_
      obtain ⟨c2, h⟩ := chk_some h
      refine z_iast (ws' := [(q_t, .inr (4, [.ref q_t_told, .ref q_t_kept, .ref q_t_isKept, .ref q_t_refused, .long t_above, .long t_below, .ref q_t_gets, .ref q_t_ahead, .int t_leftBehind, .ref q_t_dayGets, .ref q_t_dayDue, .ref q_t_own, .ref q_t_ownGets, .ref q_t_bestOwn, .ref q_t_alone, .ref q_t_atMuch, .ref q_t_hand, .ref q_t_his, .ref q_t_its, .ref q_t_bytes, .int t_bytesLong, .int t_tokenAt, .int t_tokenLong, .int t_token, .int t_value, .ref q_t_anew, .ref q_t_values, .int t_takenHours])), (q_t_told, zI E 251 (upd t_told (3 : Int32).toNatClampNeg (7 : Int32)))]) C 1 rfl c2 rfl dX5_keep_51 ?_
      refine z_sub [0] (L' := [(0, .ref q_t)]) rfl ?_
      exact hK52 (upd t_told (3 : Int32).toNatClampNeg (7 : Int32)) h
    · replace h := (if_neg c).symm.trans h
      refine z_aload_n C dX5_keep_20 rfl 0 rfl ?_
      refine z_get C inT_X5 0 rfl rfl 0 (by decide) rfl (mc W_673) rfl dX5_keep_21 ?_
      refine z_bipush (v := (75 : Int32)) C dX5_keep_24 (by decide) ?_
      refine z_iload_n C dX5_keep_26 rfl 1 rfl ?_
      refine z_iadd C dX5_keep_27 ?_
      refine z_aload_n C dX5_keep_28 rfl 0 rfl ?_
      refine z_get C inT_X5 0 rfl rfl 0 (by decide) rfl (mc W_673) rfl dX5_keep_29 ?_
      refine z_bipush (v := (97 : Int32)) C dX5_keep_32 (by decide) ?_
      refine z_iload_n C dX5_keep_34 rfl 1 rfl ?_
      refine z_iadd C dX5_keep_35 ?_
      obtain ⟨c3, h⟩ := chk_some h
      refine z_iald C 1 rfl c3 dX5_keep_36 ?_
      obtain ⟨c4, h⟩ := chk_some h
      refine z_iast (ws' := [(q_t, .inr (4, [.ref q_t_told, .ref q_t_kept, .ref q_t_isKept, .ref q_t_refused, .long t_above, .long t_below, .ref q_t_gets, .ref q_t_ahead, .int t_leftBehind, .ref q_t_dayGets, .ref q_t_dayDue, .ref q_t_own, .ref q_t_ownGets, .ref q_t_bestOwn, .ref q_t_alone, .ref q_t_atMuch, .ref q_t_hand, .ref q_t_his, .ref q_t_its, .ref q_t_bytes, .int t_bytesLong, .int t_tokenAt, .int t_tokenLong, .int t_token, .int t_value, .ref q_t_anew, .ref q_t_values, .int t_takenHours])), (q_t_told, zI E 251 (upd t_told ((75 : Int32) + v1).toNatClampNeg (t_told ((97 : Int32) + v1).toNatClampNeg)))]) C 1 rfl c4 rfl dX5_keep_37 ?_
      refine z_iinc (v := v1 + (1 : Int32)) (L' := [(1, .int (v1 + (1 : Int32))), (0, .ref q_t)]) C dX5_keep_38 1 rfl rfl (by decide) rfl ?_
      refine z_goto (tgt := 13) C dX5_keep_41 (by decide) ?_
      refine z_sub [1, 0] (L' := [(0, .ref q_t), (1, .int (v1 + (1 : Int32)))]) rfl ?_
      exact ih (v1 + (1 : Int32)) (upd t_told ((75 : Int32) + v1).toNatClampNeg (t_told ((97 : Int32) + v1).toNatClampNeg)) h
set_option maxRecDepth 100000 in
set_option maxHeartbeats 4000000 in
theorem l_X5_keep_b54 {p : Program} {l : Launch} {e : Env} {s : State} {m : MethodId} {args : Array Value} {below : List Frame} {meth : Method} {c : Code} {E : zE} {A : Nat → Prop} {q_t q_t_told q_t_kept q_t_isKept q_t_refused q_t_gets q_t_ahead q_t_dayGets q_t_dayDue q_t_own q_t_ownGets q_t_bestOwn q_t_alone q_t_atMuch q_t_hand q_t_his q_t_its q_t_bytes q_t_anew q_t_values : Nat} {t_above : Int64} {t_below : Int64} {t_leftBehind : Int32} {t_bytesLong : Int32} {t_tokenAt : Int32} {t_tokenLong : Int32} {t_token : Int32} {t_value : Int32} {t_takenHours : Int32} {o : (Nat → Int32)} (F : Nat) (C : zC p s m args c meth cX5_keep 2 RX5 wsX5_keep E A) (hr : meth.sig.returnType = none) : ∀ (n : Nat) (v1 : Int32) (t_told : Nat → Int32), f_X5_keep_b54 F n v1 t_told = some o → zG p l e rm_X5_keep s m args below meth c 2 E A 0 0 (MQ below (zQ E A none [(q_t, .inr (4, [.ref q_t_told, .ref q_t_kept, .ref q_t_isKept, .ref q_t_refused, .long t_above, .long t_below, .ref q_t_gets, .ref q_t_ahead, .int t_leftBehind, .ref q_t_dayGets, .ref q_t_dayDue, .ref q_t_own, .ref q_t_ownGets, .ref q_t_bestOwn, .ref q_t_alone, .ref q_t_atMuch, .ref q_t_hand, .ref q_t_his, .ref q_t_its, .ref q_t_bytes, .int t_bytesLong, .int t_tokenAt, .int t_tokenLong, .int t_token, .int t_value, .ref q_t_anew, .ref q_t_values, .int t_takenHours])), (q_t_told, zI E 251 o)]) args s 0 0 A) [(q_t, .inr (4, [.ref q_t_told, .ref q_t_kept, .ref q_t_isKept, .ref q_t_refused, .long t_above, .long t_below, .ref q_t_gets, .ref q_t_ahead, .int t_leftBehind, .ref q_t_dayGets, .ref q_t_dayDue, .ref q_t_own, .ref q_t_ownGets, .ref q_t_bestOwn, .ref q_t_alone, .ref q_t_atMuch, .ref q_t_hand, .ref q_t_his, .ref q_t_its, .ref q_t_bytes, .int t_bytesLong, .int t_tokenAt, .int t_tokenLong, .int t_token, .int t_value, .ref q_t_anew, .ref q_t_values, .int t_takenHours])), (q_t_told, zI E 251 t_told)] 54 [(0, .ref q_t), (1, .int v1)] [] := by
  intro n
  induction n with
  | zero =>
    intro v1 t_told h
    rw [f_X5_keep_b54] at h
    cases h
  | succ n ih =>
    intro v1 t_told h
    rw [f_X5_keep_b54] at h
    refine z_iload_n C dX5_keep_54 rfl 1 rfl ?_
    refine z_bipush (v := (22 : Int32)) C dX5_keep_55 (by decide) ?_
    refine z_icmp_ge (tgt := 93) C dX5_keep_57 (by decide) (fun c => ?_) (fun c => ?_)
    · replace h := (if_pos c).symm.trans h
      refine z_aload_n C dX5_keep_93 rfl 0 rfl ?_
      refine z_get C inT_X5 0 rfl rfl 0 (by decide) rfl (mc W_673) rfl dX5_keep_94 ?_
      refine z_iconst (v := (3 : Int32)) C dX5_keep_97 (by decide) ?_
      refine z_dup2 C dX5_keep_98 rfl rfl ?_
      obtain ⟨c5, h⟩ := chk_some h
      refine z_iald C 1 rfl c5 dX5_keep_99 ?_
      refine z_iconst (v := (1 : Int32)) C dX5_keep_100 (by decide) ?_
      refine z_iadd C dX5_keep_101 ?_
      obtain ⟨c6, h⟩ := chk_some h
      refine z_iast (ws' := [(q_t, .inr (4, [.ref q_t_told, .ref q_t_kept, .ref q_t_isKept, .ref q_t_refused, .long t_above, .long t_below, .ref q_t_gets, .ref q_t_ahead, .int t_leftBehind, .ref q_t_dayGets, .ref q_t_dayDue, .ref q_t_own, .ref q_t_ownGets, .ref q_t_bestOwn, .ref q_t_alone, .ref q_t_atMuch, .ref q_t_hand, .ref q_t_his, .ref q_t_its, .ref q_t_bytes, .int t_bytesLong, .int t_tokenAt, .int t_tokenLong, .int t_token, .int t_value, .ref q_t_anew, .ref q_t_values, .int t_takenHours])), (q_t_told, zI E 251 (upd t_told (3 : Int32).toNatClampNeg ((t_told (3 : Int32).toNatClampNeg) + (1 : Int32))))]) C 1 rfl c6 rfl dX5_keep_102 ?_
      obtain rfl := Option.some.inj h
      exact z_vret C hr dX5_keep_103
    · replace h := (if_neg c).symm.trans h
      refine z_aload_n C dX5_keep_60 rfl 0 rfl ?_
      refine z_get C inT_X5 0 rfl rfl 0 (by decide) rfl (mc W_673) rfl dX5_keep_61 ?_
      refine z_bipush (v := (75 : Int32)) C dX5_keep_64 (by decide) ?_
      refine z_bipush (v := (22 : Int32)) C dX5_keep_66 (by decide) ?_
      refine z_aload_n C dX5_keep_68 rfl 0 rfl ?_
      refine z_get C inT_X5 0 rfl rfl 0 (by decide) rfl (mc W_673) rfl dX5_keep_69 ?_
      refine z_iconst (v := (3 : Int32)) C dX5_keep_72 (by decide) ?_
      obtain ⟨c7, h⟩ := chk_some h
      refine z_iald C 1 rfl c7 dX5_keep_73 ?_
      refine z_imul C dX5_keep_74 ?_
      refine z_iadd C dX5_keep_75 ?_
      refine z_iload_n C dX5_keep_76 rfl 1 rfl ?_
      refine z_iadd C dX5_keep_77 ?_
      refine z_aload_n C dX5_keep_78 rfl 0 rfl ?_
      refine z_get C inT_X5 0 rfl rfl 0 (by decide) rfl (mc W_673) rfl dX5_keep_79 ?_
      refine z_iconst (v := (4 : Int32)) C dX5_keep_82 (by decide) ?_
      refine z_iload_n C dX5_keep_83 rfl 1 rfl ?_
      refine z_iadd C dX5_keep_84 ?_
      obtain ⟨c8, h⟩ := chk_some h
      refine z_iald C 1 rfl c8 dX5_keep_85 ?_
      obtain ⟨c9, h⟩ := chk_some h
      refine z_iast (ws' := [(q_t, .inr (4, [.ref q_t_told, .ref q_t_kept, .ref q_t_isKept, .ref q_t_refused, .long t_above, .long t_below, .ref q_t_gets, .ref q_t_ahead, .int t_leftBehind, .ref q_t_dayGets, .ref q_t_dayDue, .ref q_t_own, .ref q_t_ownGets, .ref q_t_bestOwn, .ref q_t_alone, .ref q_t_atMuch, .ref q_t_hand, .ref q_t_his, .ref q_t_its, .ref q_t_bytes, .int t_bytesLong, .int t_tokenAt, .int t_tokenLong, .int t_token, .int t_value, .ref q_t_anew, .ref q_t_values, .int t_takenHours])), (q_t_told, zI E 251 (upd t_told (((75 : Int32) + ((22 : Int32) * (t_told (3 : Int32).toNatClampNeg))) + v1).toNatClampNeg (t_told ((4 : Int32) + v1).toNatClampNeg)))]) C 1 rfl c9 rfl dX5_keep_86 ?_
      refine z_iinc (v := v1 + (1 : Int32)) (L' := [(1, .int (v1 + (1 : Int32))), (0, .ref q_t)]) C dX5_keep_87 1 rfl rfl (by decide) rfl ?_
      refine z_goto (tgt := 54) C dX5_keep_90 (by decide) ?_
      refine z_sub [1, 0] (L' := [(0, .ref q_t), (1, .int (v1 + (1 : Int32)))]) rfl ?_
      exact ih (v1 + (1 : Int32)) (upd t_told (((75 : Int32) + ((22 : Int32) * (t_told (3 : Int32).toNatClampNeg))) + v1).toNatClampNeg (t_told ((4 : Int32) + v1).toNatClampNeg)) h
set_option maxRecDepth 100000 in
set_option maxHeartbeats 4000000 in
theorem l_X5_keep_b52 {p : Program} {l : Launch} {e : Env} {s : State} {m : MethodId} {args : Array Value} {below : List Frame} {meth : Method} {c : Code} {E : zE} {A : Nat → Prop} {q_t q_t_told q_t_kept q_t_isKept q_t_refused q_t_gets q_t_ahead q_t_dayGets q_t_dayDue q_t_own q_t_ownGets q_t_bestOwn q_t_alone q_t_atMuch q_t_hand q_t_his q_t_its q_t_bytes q_t_anew q_t_values : Nat} {t_above : Int64} {t_below : Int64} {t_leftBehind : Int32} {t_bytesLong : Int32} {t_tokenAt : Int32} {t_tokenLong : Int32} {t_token : Int32} {t_value : Int32} {t_takenHours : Int32} {o : (Nat → Int32)} (F : Nat) (C : zC p s m args c meth cX5_keep 2 RX5 wsX5_keep E A) (hr : meth.sig.returnType = none) : ∀  (t_told : Nat → Int32), f_X5_keep_b52 F t_told = some o → zG p l e rm_X5_keep s m args below meth c 2 E A 0 0 (MQ below (zQ E A none [(q_t, .inr (4, [.ref q_t_told, .ref q_t_kept, .ref q_t_isKept, .ref q_t_refused, .long t_above, .long t_below, .ref q_t_gets, .ref q_t_ahead, .int t_leftBehind, .ref q_t_dayGets, .ref q_t_dayDue, .ref q_t_own, .ref q_t_ownGets, .ref q_t_bestOwn, .ref q_t_alone, .ref q_t_atMuch, .ref q_t_hand, .ref q_t_his, .ref q_t_its, .ref q_t_bytes, .int t_bytesLong, .int t_tokenAt, .int t_tokenLong, .int t_token, .int t_value, .ref q_t_anew, .ref q_t_values, .int t_takenHours])), (q_t_told, zI E 251 o)]) args s 0 0 A) [(q_t, .inr (4, [.ref q_t_told, .ref q_t_kept, .ref q_t_isKept, .ref q_t_refused, .long t_above, .long t_below, .ref q_t_gets, .ref q_t_ahead, .int t_leftBehind, .ref q_t_dayGets, .ref q_t_dayDue, .ref q_t_own, .ref q_t_ownGets, .ref q_t_bestOwn, .ref q_t_alone, .ref q_t_atMuch, .ref q_t_hand, .ref q_t_his, .ref q_t_its, .ref q_t_bytes, .int t_bytesLong, .int t_tokenAt, .int t_tokenLong, .int t_token, .int t_value, .ref q_t_anew, .ref q_t_values, .int t_takenHours])), (q_t_told, zI E 251 t_told)] 52 [(0, .ref q_t)] [] := by
  intro t_told h
  rw [f_X5_keep_b52] at h
  refine z_iconst (v := (0 : Int32)) C dX5_keep_52 (by decide) ?_
  refine z_istore_n (L' := [(1, .int (0 : Int32)), (0, .ref q_t)]) C dX5_keep_53 rfl (by decide) rfl ?_
  refine z_sub [1, 0] (L' := [(0, .ref q_t), (1, .int (0 : Int32))]) rfl ?_
  exact (l_X5_keep_b54 F C hr F) (0 : Int32) t_told h
set_option maxRecDepth 100000 in
set_option maxHeartbeats 4000000 in
theorem c_X5_keep {l : Launch} {E : zE} {q_t q_t_told q_t_kept q_t_isKept q_t_refused q_t_gets q_t_ahead q_t_dayGets q_t_dayDue q_t_own q_t_ownGets q_t_bestOwn q_t_alone q_t_atMuch q_t_hand q_t_his q_t_its q_t_bytes q_t_anew q_t_values : Nat} {t_above : Int64} {t_below : Int64} {t_leftBehind : Int32} {t_bytesLong : Int32} {t_tokenAt : Int32} {t_tokenLong : Int32} {t_token : Int32} {t_value : Int32} {t_takenHours : Int32} {t_told : Nat → Int32} {o : (Nat → Int32)} (F : Nat) (h : f_X5_keep F t_told = some o) : zM l yX5_keep wsX5_keep rm_X5_keep E [.ref q_t] [(q_t, .inr (4, [.ref q_t_told, .ref q_t_kept, .ref q_t_isKept, .ref q_t_refused, .long t_above, .long t_below, .ref q_t_gets, .ref q_t_ahead, .int t_leftBehind, .ref q_t_dayGets, .ref q_t_dayDue, .ref q_t_own, .ref q_t_ownGets, .ref q_t_bestOwn, .ref q_t_alone, .ref q_t_atMuch, .ref q_t_hand, .ref q_t_his, .ref q_t_its, .ref q_t_bytes, .int t_bytesLong, .int t_tokenAt, .int t_tokenLong, .int t_token, .int t_value, .ref q_t_anew, .ref q_t_values, .int t_takenHours])), (q_t_told, zI E 251 t_told)] none [(q_t, .inr (4, [.ref q_t_told, .ref q_t_kept, .ref q_t_isKept, .ref q_t_refused, .long t_above, .long t_below, .ref q_t_gets, .ref q_t_ahead, .int t_leftBehind, .ref q_t_dayGets, .ref q_t_dayDue, .ref q_t_own, .ref q_t_ownGets, .ref q_t_bestOwn, .ref q_t_alone, .ref q_t_atMuch, .ref q_t_hand, .ref q_t_his, .ref q_t_its, .ref q_t_bytes, .int t_bytesLong, .int t_tokenAt, .int t_tokenLong, .int t_token, .int t_value, .ref q_t_anew, .ref q_t_values, .int t_takenHours])), (q_t_told, zI E 251 o)] := by
  refine zM.of (cc := cX5_keep) (maxL := 2) (ret := none) (by decide +kernel) rfl (Nat.le_of_ble_eq_true rfl) ?_
  intro p e s m args below meth c A C hr
  have C : zC p s m args c meth cX5_keep 2 RX5 wsX5_keep E A := C
  rw [f_X5_keep] at h
  refine z_aload_n C dX5_keep_0 rfl 0 rfl ?_
  refine z_get C inT_X5 0 rfl rfl 0 (by decide) rfl (mc W_673) rfl dX5_keep_1 ?_
  refine z_iconst (v := (3 : Int32)) C dX5_keep_4 (by decide) ?_
  obtain ⟨c1, h⟩ := chk_some h
  refine z_iald C 1 rfl c1 dX5_keep_5 ?_
  refine z_bipush (v := (8 : Int32)) C dX5_keep_6 (by decide) ?_
  refine z_icmp_ne (tgt := 52) C dX5_keep_8 (by decide) (fun c => ?_) (fun c => ?_)
  · replace h := (if_neg c).symm.trans h
    exact (l_X5_keep_b52 F C hr) t_told h
  · replace h := (if_pos c).symm.trans h
    refine z_iconst (v := (0 : Int32)) C dX5_keep_11 (by decide) ?_
    refine z_istore_n (L' := [(1, .int (0 : Int32)), (0, .ref q_t)]) C dX5_keep_12 rfl (by decide) rfl ?_
    refine z_sub [1, 0] (L' := [(0, .ref q_t), (1, .int (0 : Int32))]) rfl ?_
    exact (l_X5_keep_b13 F (f_X5_keep_b52 F) C hr (l_X5_keep_b52 F C hr) F) (0 : Int32) t_told h
def rm_X5_day : Room := { frames := 4, cells := 0, slots := 0, locals := 98 }
theorem hd_X5_day : yX5_day.cls = yX5_day.cls ∧ yX5_day.cls ≠ "java/lang/invoke/MethodHandle" ∧ yX5_day.cls ≠ "java/lang/invoke/VarHandle" ∧ (parseMethodDescriptor yX5_day.desc).map (fun d => d.parameters.length) = some 1 := by decide +kernel
abbrev wsX5_day : List Cond := .code yX5_day cX5_day 4 (some .int) :: WALL
set_option maxRecDepth 100000 in
set_option maxHeartbeats 4000000 in
theorem l_X5_day_b27 {p : Program} {l : Launch} {e : Env} {s : State} {m : MethodId} {args : Array Value} {below : List Frame} {meth : Method} {c : Code} {E : zE} {A : Nat → Prop} {q_t q_t_told q_t_refused q_t_dayGets q_t_dayDue q_t_ahead q_t_gets q_t_kept q_t_isKept q_t_own q_t_ownGets q_t_bestOwn q_t_alone q_t_atMuch q_t_hand q_t_his q_t_its q_t_bytes q_t_anew q_t_values : Nat} {t_above : Int64} {t_below : Int64} {t_bytesLong : Int32} {t_tokenAt : Int32} {t_tokenLong : Int32} {t_token : Int32} {t_value : Int32} {t_takenHours : Int32} {o : Int32 × Int32 × (Nat → Int32) × (Nat → Int32) × (Nat → Int32) × (Nat → Int32) × (Nat → Int32) × (Nat → Int32)} (F : Nat) (a1 : Int32) (C : zC p s m args c meth cX5_day 4 RX5 wsX5_day E A) (hr : meth.sig.returnType = some .int) : ∀ (n : Nat) (v2 : Int32) (v3 : Int32) (t_leftBehind : Int32) (t_told : Nat → Int32) (t_refused : Nat → Int32) (t_dayGets : Nat → Int32) (t_dayDue : Nat → Int32) (t_ahead : Nat → Int32) (t_gets : Nat → Int32), f_X5_day_b27 F a1 n v2 v3 t_leftBehind t_told t_refused t_dayGets t_dayDue t_ahead t_gets = some o → zG p l e rm_X5_day s m args below meth c 4 E A 0 0 (MQ below (zQ E A (some (.int o.1)) [(q_t, .inr (4, [.ref q_t_told, .ref q_t_kept, .ref q_t_isKept, .ref q_t_refused, .long t_above, .long t_below, .ref q_t_gets, .ref q_t_ahead, .int o.2.1, .ref q_t_dayGets, .ref q_t_dayDue, .ref q_t_own, .ref q_t_ownGets, .ref q_t_bestOwn, .ref q_t_alone, .ref q_t_atMuch, .ref q_t_hand, .ref q_t_his, .ref q_t_its, .ref q_t_bytes, .int t_bytesLong, .int t_tokenAt, .int t_tokenLong, .int t_token, .int t_value, .ref q_t_anew, .ref q_t_values, .int t_takenHours])), (q_t_told, zI E 251 o.2.2.1), (q_t_refused, zI E 3 o.2.2.2.1), (q_t_dayGets, zI E 5 o.2.2.2.2.1), (q_t_dayDue, zI E 5 o.2.2.2.2.2.1), (q_t_ahead, zI E 5 o.2.2.2.2.2.2.1), (q_t_gets, zI E 5 o.2.2.2.2.2.2.2)]) args s 0 0 A) [(q_t, .inr (4, [.ref q_t_told, .ref q_t_kept, .ref q_t_isKept, .ref q_t_refused, .long t_above, .long t_below, .ref q_t_gets, .ref q_t_ahead, .int t_leftBehind, .ref q_t_dayGets, .ref q_t_dayDue, .ref q_t_own, .ref q_t_ownGets, .ref q_t_bestOwn, .ref q_t_alone, .ref q_t_atMuch, .ref q_t_hand, .ref q_t_his, .ref q_t_its, .ref q_t_bytes, .int t_bytesLong, .int t_tokenAt, .int t_tokenLong, .int t_token, .int t_value, .ref q_t_anew, .ref q_t_values, .int t_takenHours])), (q_t_told, zI E 251 t_told), (q_t_refused, zI E 3 t_refused), (q_t_dayGets, zI E 5 t_dayGets), (q_t_dayDue, zI E 5 t_dayDue), (q_t_ahead, zI E 5 t_ahead), (q_t_gets, zI E 5 t_gets)] 27 [(0, .ref q_t), (1, .int a1), (2, .int v2), (3, .int v3)] [] := by
  intro n
  induction n with
  | zero =>
    intro v2 v3 t_leftBehind t_told t_refused t_dayGets t_dayDue t_ahead t_gets h
    rw [f_X5_day_b27] at h
    cases h
  | succ n ih =>
    intro v2 v3 t_leftBehind t_told t_refused t_dayGets t_dayDue t_ahead t_gets h
    rw [f_X5_day_b27] at h
    refine z_iload_n C dX5_day_27 rfl 3 rfl ?_
    refine z_iload_n C dX5_day_28 rfl 1 rfl ?_
    refine z_icmp_ge (tgt := 62) C dX5_day_29 (by decide) (fun c => ?_) (fun c => ?_)
    · replace h := (if_pos c).symm.trans h
      refine z_iload_n C dX5_day_62 rfl 2 rfl ?_
      obtain rfl := Option.some.inj h
      exact z_iret (v := v2) C hr dX5_day_63
    · replace h := (if_neg c).symm.trans h
      refine z_aload_n C dX5_day_32 rfl 0 rfl ?_
      refine z_get C inT_X5 0 rfl rfl 0 (by decide) rfl (mc W_673) rfl dX5_day_33 ?_
      refine z_bipush (v := (25 : Int32)) C dX5_day_36 (by decide) ?_
      obtain ⟨c7, h⟩ := chk_some h
      refine z_iald C 1 rfl c7 dX5_day_38 ?_
      refine z_sipush (v := (999 : Int32)) C dX5_day_39 (by decide) ?_
      refine z_icmp_ge (tgt := 62) C dX5_day_42 (by decide) (fun c => ?_) (fun c => ?_)
      · replace h := (if_pos c).symm.trans h
        refine z_iload_n C dX5_day_62 rfl 2 rfl ?_
        obtain rfl := Option.some.inj h
        exact z_iret (v := v2) C hr dX5_day_63
      · replace h := (if_neg c).symm.trans h
        refine z_iload_n C dX5_day_45 rfl 2 rfl ?_
        refine z_aload_n C dX5_day_46 rfl 0 rfl ?_
        refine z_aload_n C dX5_day_47 rfl 0 rfl ?_
        refine z_get C inT_X5 0 rfl rfl 0 (by decide) rfl (mc W_673) rfl dX5_day_48 ?_
        obtain ⟨o8, ho9, h⟩ := bnd_some h
        refine z_callV (wc := [(q_t, .inr (4, [.ref q_t_told, .ref q_t_kept, .ref q_t_isKept, .ref q_t_refused, .long t_above, .long t_below, .ref q_t_gets, .ref q_t_ahead, .int t_leftBehind, .ref q_t_dayGets, .ref q_t_dayDue, .ref q_t_own, .ref q_t_ownGets, .ref q_t_bestOwn, .ref q_t_alone, .ref q_t_atMuch, .ref q_t_hand, .ref q_t_his, .ref q_t_its, .ref q_t_bytes, .int t_bytesLong, .int t_tokenAt, .int t_tokenLong, .int t_token, .int t_value, .ref q_t_anew, .ref q_t_values, .int t_takenHours])), (q_t_told, zI E 251 t_told), (q_t_dayGets, zI E 5 t_dayGets), (q_t_dayDue, zI E 5 t_dayDue), (q_t_ahead, zI E 5 t_ahead), (q_t_gets, zI E 5 t_gets)]) (wr := [(q_t_refused, zI E 3 t_refused)]) (wc' := [(q_t, .inr (4, [.ref q_t_told, .ref q_t_kept, .ref q_t_isKept, .ref q_t_refused, .long t_above, .long t_below, .ref q_t_gets, .ref q_t_ahead, .int o8.2.1, .ref q_t_dayGets, .ref q_t_dayDue, .ref q_t_own, .ref q_t_ownGets, .ref q_t_bestOwn, .ref q_t_alone, .ref q_t_atMuch, .ref q_t_hand, .ref q_t_his, .ref q_t_its, .ref q_t_bytes, .int t_bytesLong, .int t_tokenAt, .int t_tokenLong, .int t_token, .int t_value, .ref q_t_anew, .ref q_t_values, .int t_takenHours])), (q_t_told, zI E 251 o8.2.2.1), (q_t_dayGets, zI E 5 o8.2.2.2.1), (q_t_dayDue, zI E 5 o8.2.2.2.2.1), (q_t_ahead, zI E 5 o8.2.2.2.2.2.1), (q_t_gets, zI E 5 o8.2.2.2.2.2.2)]) (ws2 := [(q_t, .inr (4, [.ref q_t_told, .ref q_t_kept, .ref q_t_isKept, .ref q_t_refused, .long t_above, .long t_below, .ref q_t_gets, .ref q_t_ahead, .int o8.2.1, .ref q_t_dayGets, .ref q_t_dayDue, .ref q_t_own, .ref q_t_ownGets, .ref q_t_bestOwn, .ref q_t_alone, .ref q_t_atMuch, .ref q_t_hand, .ref q_t_his, .ref q_t_its, .ref q_t_bytes, .int t_bytesLong, .int t_tokenAt, .int t_tokenLong, .int t_token, .int t_value, .ref q_t_anew, .ref q_t_values, .int t_takenHours])), (q_t_told, zI E 251 o8.2.2.1), (q_t_refused, zI E 3 t_refused), (q_t_dayGets, zI E 5 o8.2.2.2.1), (q_t_dayDue, zI E 5 o8.2.2.2.2.1), (q_t_ahead, zI E 5 o8.2.2.2.2.2.1), (q_t_gets, zI E 5 o8.2.2.2.2.2.2)]) (As := [.ref q_t_told]) (st2 := [.int o8.1, .int v2]) C [0, 1, 3, 4, 5, 6] [2] [1, 2, 0, 3, 4, 5, 6] rfl rfl rfl rfl (by decide) rfl rfl (c_X5_passDay F ho9) (goodVT consT W_804 W_806 W_31 W_62 W_807) rfl rfl rfl hd_X5_passDay ⟨Nat.le_of_ble_eq_true rfl, Nat.le_of_ble_eq_true rfl⟩ rfl rfl rfl (j := 0) rfl rfl rfl (Nat.le_of_ble_eq_true rfl) dX5_day_51 ⟨Nat.zero_le _, Nat.zero_le _⟩ ?_
        refine z_iadd C dX5_day_54 ?_
        refine z_istore_n (L' := [(2, .int (v2 + o8.1)), (0, .ref q_t), (1, .int a1), (3, .int v3)]) C dX5_day_55 rfl (by decide) rfl ?_
        refine z_iinc (v := v3 + (1 : Int32)) (L' := [(3, .int (v3 + (1 : Int32))), (2, .int (v2 + o8.1)), (0, .ref q_t), (1, .int a1)]) C dX5_day_56 3 rfl rfl (by decide) rfl ?_
        refine z_goto (tgt := 27) C dX5_day_59 (by decide) ?_
        refine z_sub [2, 3, 1, 0] (L' := [(0, .ref q_t), (1, .int a1), (2, .int (v2 + o8.1)), (3, .int (v3 + (1 : Int32)))]) rfl ?_
        exact ih (v2 + o8.1) (v3 + (1 : Int32)) o8.2.1 o8.2.2.1 t_refused o8.2.2.2.1 o8.2.2.2.2.1 o8.2.2.2.2.2.1 o8.2.2.2.2.2.2 h
set_option maxRecDepth 100000 in
set_option maxHeartbeats 4000000 in
theorem c_X5_day {l : Launch} {E : zE} {q_t q_t_told q_t_refused q_t_dayGets q_t_dayDue q_t_ahead q_t_gets q_t_kept q_t_isKept q_t_own q_t_ownGets q_t_bestOwn q_t_alone q_t_atMuch q_t_hand q_t_his q_t_its q_t_bytes q_t_anew q_t_values : Nat} {t_above : Int64} {t_below : Int64} {t_bytesLong : Int32} {t_tokenAt : Int32} {t_tokenLong : Int32} {t_token : Int32} {t_value : Int32} {t_takenHours : Int32} {a1 : Int32} {t_leftBehind : Int32} {t_told : Nat → Int32} {t_refused : Nat → Int32} {t_dayGets : Nat → Int32} {t_dayDue : Nat → Int32} {t_ahead : Nat → Int32} {t_gets : Nat → Int32} {o : Int32 × Int32 × (Nat → Int32) × (Nat → Int32) × (Nat → Int32) × (Nat → Int32) × (Nat → Int32) × (Nat → Int32)} (F : Nat) (h : f_X5_day F a1 t_leftBehind t_told t_refused t_dayGets t_dayDue t_ahead t_gets = some o) : zM l yX5_day wsX5_day rm_X5_day E [.ref q_t, .int a1] [(q_t, .inr (4, [.ref q_t_told, .ref q_t_kept, .ref q_t_isKept, .ref q_t_refused, .long t_above, .long t_below, .ref q_t_gets, .ref q_t_ahead, .int t_leftBehind, .ref q_t_dayGets, .ref q_t_dayDue, .ref q_t_own, .ref q_t_ownGets, .ref q_t_bestOwn, .ref q_t_alone, .ref q_t_atMuch, .ref q_t_hand, .ref q_t_his, .ref q_t_its, .ref q_t_bytes, .int t_bytesLong, .int t_tokenAt, .int t_tokenLong, .int t_token, .int t_value, .ref q_t_anew, .ref q_t_values, .int t_takenHours])), (q_t_told, zI E 251 t_told), (q_t_refused, zI E 3 t_refused), (q_t_dayGets, zI E 5 t_dayGets), (q_t_dayDue, zI E 5 t_dayDue), (q_t_ahead, zI E 5 t_ahead), (q_t_gets, zI E 5 t_gets)] (some (.int o.1)) [(q_t, .inr (4, [.ref q_t_told, .ref q_t_kept, .ref q_t_isKept, .ref q_t_refused, .long t_above, .long t_below, .ref q_t_gets, .ref q_t_ahead, .int o.2.1, .ref q_t_dayGets, .ref q_t_dayDue, .ref q_t_own, .ref q_t_ownGets, .ref q_t_bestOwn, .ref q_t_alone, .ref q_t_atMuch, .ref q_t_hand, .ref q_t_his, .ref q_t_its, .ref q_t_bytes, .int t_bytesLong, .int t_tokenAt, .int t_tokenLong, .int t_token, .int t_value, .ref q_t_anew, .ref q_t_values, .int t_takenHours])), (q_t_told, zI E 251 o.2.2.1), (q_t_refused, zI E 3 o.2.2.2.1), (q_t_dayGets, zI E 5 o.2.2.2.2.1), (q_t_dayDue, zI E 5 o.2.2.2.2.2.1), (q_t_ahead, zI E 5 o.2.2.2.2.2.2.1), (q_t_gets, zI E 5 o.2.2.2.2.2.2.2)] := by
  refine zM.of (cc := cX5_day) (maxL := 4) (ret := (some .int)) (by decide +kernel) rfl (Nat.le_of_ble_eq_true rfl) ?_
  intro p e s m args below meth c A C hr
  have C : zC p s m args c meth cX5_day 4 RX5 wsX5_day E A := C
  rw [f_X5_day] at h
  refine z_iload_n C dX5_day_0 rfl 1 rfl ?_
  refine z_i2l C dX5_day_1 ?_
  refine z_lconst (v := (1 : Int64)) C dX5_day_2 (by decide) ?_
  refine z_ldc2 (v := (30 : Int64)) C dX5_day_3 (mc W_799) ?_
  obtain ⟨o1, ho2, h⟩ := bnd_some h
  refine z_callS (wc := []) (wr := [(q_t, .inr (4, [.ref q_t_told, .ref q_t_kept, .ref q_t_isKept, .ref q_t_refused, .long t_above, .long t_below, .ref q_t_gets, .ref q_t_ahead, .int t_leftBehind, .ref q_t_dayGets, .ref q_t_dayDue, .ref q_t_own, .ref q_t_ownGets, .ref q_t_bestOwn, .ref q_t_alone, .ref q_t_atMuch, .ref q_t_hand, .ref q_t_his, .ref q_t_its, .ref q_t_bytes, .int t_bytesLong, .int t_tokenAt, .int t_tokenLong, .int t_token, .int t_value, .ref q_t_anew, .ref q_t_values, .int t_takenHours])), (q_t_told, zI E 251 t_told), (q_t_refused, zI E 3 t_refused), (q_t_dayGets, zI E 5 t_dayGets), (q_t_dayDue, zI E 5 t_dayDue), (q_t_ahead, zI E 5 t_ahead), (q_t_gets, zI E 5 t_gets)]) (wc' := []) (ws2 := [(q_t, .inr (4, [.ref q_t_told, .ref q_t_kept, .ref q_t_isKept, .ref q_t_refused, .long t_above, .long t_below, .ref q_t_gets, .ref q_t_ahead, .int t_leftBehind, .ref q_t_dayGets, .ref q_t_dayDue, .ref q_t_own, .ref q_t_ownGets, .ref q_t_bestOwn, .ref q_t_alone, .ref q_t_atMuch, .ref q_t_hand, .ref q_t_his, .ref q_t_its, .ref q_t_bytes, .int t_bytesLong, .int t_tokenAt, .int t_tokenLong, .int t_token, .int t_value, .ref q_t_anew, .ref q_t_values, .int t_takenHours])), (q_t_told, zI E 251 t_told), (q_t_refused, zI E 3 t_refused), (q_t_dayGets, zI E 5 t_dayGets), (q_t_dayDue, zI E 5 t_dayDue), (q_t_ahead, zI E 5 t_ahead), (q_t_gets, zI E 5 t_gets)]) (As := [.long a1.toInt64, .long (1 : Int64), .long (30 : Int64)]) (st2 := [.int o1]) C [] [0, 1, 2, 3, 4, 5, 6] [0, 1, 2, 3, 4, 5, 6] rfl rfl rfl rfl (by decide) rfl rfl (c_X5_in F ho2) (goodST consT W_767 W_768 W_62 W_769) rfl rfl rfl hd_X5_in ⟨Nat.le_of_ble_eq_true rfl, Nat.le_of_ble_eq_true rfl⟩ rfl rfl rfl (Nat.le_of_ble_eq_true rfl) dX5_day_6 ⟨Nat.zero_le _, Nat.zero_le _⟩ ?_
  refine z_if_ne (tgt := 19) C dX5_day_9 (by decide) (fun c => ?_) (fun c => ?_)
  · replace h := (if_neg c).symm.trans h
    refine z_iconst (v := (0 : Int32)) C dX5_day_19 (by decide) ?_
    refine z_istore_n (L' := [(2, .int (0 : Int32)), (0, .ref q_t), (1, .int a1)]) C dX5_day_20 rfl (by decide) rfl ?_
    refine z_aload_n C dX5_day_21 rfl 1 rfl ?_
    obtain ⟨o3, ho4, h⟩ := bnd_some h
    refine z_callV (wc := [(q_t, .inr (4, [.ref q_t_told, .ref q_t_kept, .ref q_t_isKept, .ref q_t_refused, .long t_above, .long t_below, .ref q_t_gets, .ref q_t_ahead, .int t_leftBehind, .ref q_t_dayGets, .ref q_t_dayDue, .ref q_t_own, .ref q_t_ownGets, .ref q_t_bestOwn, .ref q_t_alone, .ref q_t_atMuch, .ref q_t_hand, .ref q_t_his, .ref q_t_its, .ref q_t_bytes, .int t_bytesLong, .int t_tokenAt, .int t_tokenLong, .int t_token, .int t_value, .ref q_t_anew, .ref q_t_values, .int t_takenHours])), (q_t_told, zI E 251 t_told)]) (wr := [(q_t_refused, zI E 3 t_refused), (q_t_dayGets, zI E 5 t_dayGets), (q_t_dayDue, zI E 5 t_dayDue), (q_t_ahead, zI E 5 t_ahead), (q_t_gets, zI E 5 t_gets)]) (wc' := [(q_t, .inr (4, [.ref q_t_told, .ref q_t_kept, .ref q_t_isKept, .ref q_t_refused, .long t_above, .long t_below, .ref q_t_gets, .ref q_t_ahead, .int t_leftBehind, .ref q_t_dayGets, .ref q_t_dayDue, .ref q_t_own, .ref q_t_ownGets, .ref q_t_bestOwn, .ref q_t_alone, .ref q_t_atMuch, .ref q_t_hand, .ref q_t_his, .ref q_t_its, .ref q_t_bytes, .int t_bytesLong, .int t_tokenAt, .int t_tokenLong, .int t_token, .int t_value, .ref q_t_anew, .ref q_t_values, .int t_takenHours])), (q_t_told, zI E 251 o3)]) (ws2 := [(q_t, .inr (4, [.ref q_t_told, .ref q_t_kept, .ref q_t_isKept, .ref q_t_refused, .long t_above, .long t_below, .ref q_t_gets, .ref q_t_ahead, .int t_leftBehind, .ref q_t_dayGets, .ref q_t_dayDue, .ref q_t_own, .ref q_t_ownGets, .ref q_t_bestOwn, .ref q_t_alone, .ref q_t_atMuch, .ref q_t_hand, .ref q_t_his, .ref q_t_its, .ref q_t_bytes, .int t_bytesLong, .int t_tokenAt, .int t_tokenLong, .int t_token, .int t_value, .ref q_t_anew, .ref q_t_values, .int t_takenHours])), (q_t_told, zI E 251 o3), (q_t_refused, zI E 3 t_refused), (q_t_dayGets, zI E 5 t_dayGets), (q_t_dayDue, zI E 5 t_dayDue), (q_t_ahead, zI E 5 t_ahead), (q_t_gets, zI E 5 t_gets)]) (As := []) (st2 := []) C [0, 1] [2, 3, 4, 5, 6] [5, 6, 0, 1, 2, 3, 4] rfl rfl rfl rfl (by decide) rfl rfl (c_X5_keep F ho4) (goodVT consT W_800 W_802 W_30 W_62 W_803) rfl rfl rfl hd_X5_keep ⟨Nat.le_of_ble_eq_true rfl, Nat.le_of_ble_eq_true rfl⟩ rfl rfl rfl (j := 0) rfl rfl rfl (Nat.le_of_ble_eq_true rfl) dX5_day_22 ⟨Nat.zero_le _, Nat.zero_le _⟩ ?_
    refine z_iconst (v := (0 : Int32)) C dX5_day_25 (by decide) ?_
    refine z_istore_n (L' := [(3, .int (0 : Int32)), (2, .int (0 : Int32)), (0, .ref q_t), (1, .int a1)]) C dX5_day_26 rfl (by decide) rfl ?_
    refine z_sub [2, 3, 1, 0] (L' := [(0, .ref q_t), (1, .int a1), (2, .int (0 : Int32)), (3, .int (0 : Int32))]) rfl ?_
    exact (l_X5_day_b27 F a1 C hr F) (0 : Int32) (0 : Int32) t_leftBehind o3 t_refused t_dayGets t_dayDue t_ahead t_gets h
  · replace h := (if_pos c).symm.trans h
    refine z_aload_n C dX5_day_12 rfl 0 rfl ?_
    refine z_bipush (v := (-2 : Int32)) C dX5_day_13 (by decide) ?_
    obtain ⟨o5, ho6, h⟩ := bnd_some h
    refine z_callV (wc := [(q_t, .inr (4, [.ref q_t_told, .ref q_t_kept, .ref q_t_isKept, .ref q_t_refused, .long t_above, .long t_below, .ref q_t_gets, .ref q_t_ahead, .int t_leftBehind, .ref q_t_dayGets, .ref q_t_dayDue, .ref q_t_own, .ref q_t_ownGets, .ref q_t_bestOwn, .ref q_t_alone, .ref q_t_atMuch, .ref q_t_hand, .ref q_t_his, .ref q_t_its, .ref q_t_bytes, .int t_bytesLong, .int t_tokenAt, .int t_tokenLong, .int t_token, .int t_value, .ref q_t_anew, .ref q_t_values, .int t_takenHours])), (q_t_refused, zI E 3 t_refused)]) (wr := [(q_t_told, zI E 251 t_told), (q_t_dayGets, zI E 5 t_dayGets), (q_t_dayDue, zI E 5 t_dayDue), (q_t_ahead, zI E 5 t_ahead), (q_t_gets, zI E 5 t_gets)]) (wc' := [(q_t, .inr (4, [.ref q_t_told, .ref q_t_kept, .ref q_t_isKept, .ref q_t_refused, .long t_above, .long t_below, .ref q_t_gets, .ref q_t_ahead, .int t_leftBehind, .ref q_t_dayGets, .ref q_t_dayDue, .ref q_t_own, .ref q_t_ownGets, .ref q_t_bestOwn, .ref q_t_alone, .ref q_t_atMuch, .ref q_t_hand, .ref q_t_his, .ref q_t_its, .ref q_t_bytes, .int t_bytesLong, .int t_tokenAt, .int t_tokenLong, .int t_token, .int t_value, .ref q_t_anew, .ref q_t_values, .int t_takenHours])), (q_t_refused, zI E 3 o5.2)]) (ws2 := [(q_t, .inr (4, [.ref q_t_told, .ref q_t_kept, .ref q_t_isKept, .ref q_t_refused, .long t_above, .long t_below, .ref q_t_gets, .ref q_t_ahead, .int t_leftBehind, .ref q_t_dayGets, .ref q_t_dayDue, .ref q_t_own, .ref q_t_ownGets, .ref q_t_bestOwn, .ref q_t_alone, .ref q_t_atMuch, .ref q_t_hand, .ref q_t_his, .ref q_t_its, .ref q_t_bytes, .int t_bytesLong, .int t_tokenAt, .int t_tokenLong, .int t_token, .int t_value, .ref q_t_anew, .ref q_t_values, .int t_takenHours])), (q_t_told, zI E 251 t_told), (q_t_refused, zI E 3 o5.2), (q_t_dayGets, zI E 5 t_dayGets), (q_t_dayDue, zI E 5 t_dayDue), (q_t_ahead, zI E 5 t_ahead), (q_t_gets, zI E 5 t_gets)]) (As := [.int (-2 : Int32)]) (st2 := [.int o5.1]) C [0, 2] [1, 3, 4, 5, 6] [5, 0, 6, 1, 2, 3, 4] rfl rfl rfl rfl (by decide) rfl rfl (c_X5_bad F ho6) (goodVT consT W_770 W_772 W_27 W_62 W_773) rfl rfl rfl hd_X5_bad ⟨Nat.le_of_ble_eq_true rfl, Nat.le_of_ble_eq_true rfl⟩ rfl rfl rfl (j := 0) rfl rfl rfl (Nat.le_of_ble_eq_true rfl) dX5_day_15 ⟨Nat.zero_le _, Nat.zero_le _⟩ ?_
    obtain rfl := Option.some.inj h
    exact z_iret (v := o5.1) C hr dX5_day_18
def rm_X5_turn : Room := { frames := 2, cells := 0, slots := 0, locals := 46 }
theorem hd_X5_turn : yX5_turn.cls = yX5_turn.cls ∧ yX5_turn.cls ≠ "java/lang/invoke/MethodHandle" ∧ yX5_turn.cls ≠ "java/lang/invoke/VarHandle" ∧ (parseMethodDescriptor yX5_turn.desc).map (fun d => d.parameters.length) = some 2 := by decide +kernel
abbrev wsX5_turn : List Cond := .code yX5_turn cX5_turn 4 (some .int) :: WALL
set_option maxRecDepth 100000 in
set_option maxHeartbeats 4000000 in
theorem l_X5_turn_b20 {p : Program} {l : Launch} {e : Env} {s : State} {m : MethodId} {args : Array Value} {below : List Frame} {meth : Method} {c : Code} {E : zE} {A : Nat → Prop} {q_t q_t_told q_t_refused q_t_kept q_t_isKept q_t_gets q_t_ahead q_t_dayGets q_t_dayDue q_t_own q_t_ownGets q_t_bestOwn q_t_alone q_t_atMuch q_t_hand q_t_his q_t_its q_t_bytes q_t_anew q_t_values : Nat} {t_above : Int64} {t_below : Int64} {t_leftBehind : Int32} {t_bytesLong : Int32} {t_tokenAt : Int32} {t_tokenLong : Int32} {t_token : Int32} {t_value : Int32} {t_takenHours : Int32} {o : Int32 × (Nat → Int32) × (Nat → Int32)} (F : Nat) (a1 : Int32) (a2 : Int32) (C : zC p s m args c meth cX5_turn 4 RX5 wsX5_turn E A) (hr : meth.sig.returnType = some .int) : ∀  (t_told : Nat → Int32) (t_refused : Nat → Int32), f_X5_turn_b20 F a1 a2 t_told t_refused = some o → zG p l e rm_X5_turn s m args below meth c 4 E A 0 0 (MQ below (zQ E A (some (.int o.1)) [(q_t, .inr (4, [.ref q_t_told, .ref q_t_kept, .ref q_t_isKept, .ref q_t_refused, .long t_above, .long t_below, .ref q_t_gets, .ref q_t_ahead, .int t_leftBehind, .ref q_t_dayGets, .ref q_t_dayDue, .ref q_t_own, .ref q_t_ownGets, .ref q_t_bestOwn, .ref q_t_alone, .ref q_t_atMuch, .ref q_t_hand, .ref q_t_his, .ref q_t_its, .ref q_t_bytes, .int t_bytesLong, .int t_tokenAt, .int t_tokenLong, .int t_token, .int t_value, .ref q_t_anew, .ref q_t_values, .int t_takenHours])), (q_t_told, zI E 251 o.2.1), (q_t_refused, zI E 3 o.2.2)]) args s 0 0 A) [(q_t, .inr (4, [.ref q_t_told, .ref q_t_kept, .ref q_t_isKept, .ref q_t_refused, .long t_above, .long t_below, .ref q_t_gets, .ref q_t_ahead, .int t_leftBehind, .ref q_t_dayGets, .ref q_t_dayDue, .ref q_t_own, .ref q_t_ownGets, .ref q_t_bestOwn, .ref q_t_alone, .ref q_t_atMuch, .ref q_t_hand, .ref q_t_his, .ref q_t_its, .ref q_t_bytes, .int t_bytesLong, .int t_tokenAt, .int t_tokenLong, .int t_token, .int t_value, .ref q_t_anew, .ref q_t_values, .int t_takenHours])), (q_t_told, zI E 251 t_told), (q_t_refused, zI E 3 t_refused)] 20 [(0, .ref q_t)] [] := by
  intro t_told t_refused h
  rw [f_X5_turn_b20] at h
  refine z_aload_n C dX5_turn_20 rfl 0 rfl ?_
  refine z_bipush (v := (-2 : Int32)) C dX5_turn_21 (by decide) ?_
  obtain ⟨o9, ho10, h⟩ := bnd_some h
  refine z_callV (wc := [(q_t, .inr (4, [.ref q_t_told, .ref q_t_kept, .ref q_t_isKept, .ref q_t_refused, .long t_above, .long t_below, .ref q_t_gets, .ref q_t_ahead, .int t_leftBehind, .ref q_t_dayGets, .ref q_t_dayDue, .ref q_t_own, .ref q_t_ownGets, .ref q_t_bestOwn, .ref q_t_alone, .ref q_t_atMuch, .ref q_t_hand, .ref q_t_his, .ref q_t_its, .ref q_t_bytes, .int t_bytesLong, .int t_tokenAt, .int t_tokenLong, .int t_token, .int t_value, .ref q_t_anew, .ref q_t_values, .int t_takenHours])), (q_t_refused, zI E 3 t_refused)]) (wr := [(q_t_told, zI E 251 t_told)]) (wc' := [(q_t, .inr (4, [.ref q_t_told, .ref q_t_kept, .ref q_t_isKept, .ref q_t_refused, .long t_above, .long t_below, .ref q_t_gets, .ref q_t_ahead, .int t_leftBehind, .ref q_t_dayGets, .ref q_t_dayDue, .ref q_t_own, .ref q_t_ownGets, .ref q_t_bestOwn, .ref q_t_alone, .ref q_t_atMuch, .ref q_t_hand, .ref q_t_his, .ref q_t_its, .ref q_t_bytes, .int t_bytesLong, .int t_tokenAt, .int t_tokenLong, .int t_token, .int t_value, .ref q_t_anew, .ref q_t_values, .int t_takenHours])), (q_t_refused, zI E 3 o9.2)]) (ws2 := [(q_t, .inr (4, [.ref q_t_told, .ref q_t_kept, .ref q_t_isKept, .ref q_t_refused, .long t_above, .long t_below, .ref q_t_gets, .ref q_t_ahead, .int t_leftBehind, .ref q_t_dayGets, .ref q_t_dayDue, .ref q_t_own, .ref q_t_ownGets, .ref q_t_bestOwn, .ref q_t_alone, .ref q_t_atMuch, .ref q_t_hand, .ref q_t_his, .ref q_t_its, .ref q_t_bytes, .int t_bytesLong, .int t_tokenAt, .int t_tokenLong, .int t_token, .int t_value, .ref q_t_anew, .ref q_t_values, .int t_takenHours])), (q_t_told, zI E 251 t_told), (q_t_refused, zI E 3 o9.2)]) (As := [.int (-2 : Int32)]) (st2 := [.int o9.1]) C [0, 2] [1] [1, 0, 2] rfl rfl rfl rfl (by decide) rfl rfl (c_X5_bad F ho10) (goodVT consT W_770 W_772 W_27 W_62 W_773) rfl rfl rfl hd_X5_bad ⟨Nat.le_of_ble_eq_true rfl, Nat.le_of_ble_eq_true rfl⟩ rfl rfl rfl (j := 0) rfl rfl rfl (Nat.le_of_ble_eq_true rfl) dX5_turn_23 ⟨Nat.zero_le _, Nat.zero_le _⟩ ?_
  obtain rfl := Option.some.inj h
  exact z_iret (v := o9.1) C hr dX5_turn_26
set_option maxRecDepth 100000 in
set_option maxHeartbeats 4000000 in
theorem c_X5_turn {l : Launch} {E : zE} {q_t q_t_told q_t_refused q_t_kept q_t_isKept q_t_gets q_t_ahead q_t_dayGets q_t_dayDue q_t_own q_t_ownGets q_t_bestOwn q_t_alone q_t_atMuch q_t_hand q_t_his q_t_its q_t_bytes q_t_anew q_t_values : Nat} {t_above : Int64} {t_below : Int64} {t_leftBehind : Int32} {t_bytesLong : Int32} {t_tokenAt : Int32} {t_tokenLong : Int32} {t_token : Int32} {t_value : Int32} {t_takenHours : Int32} {a1 : Int32} {a2 : Int32} {t_told : Nat → Int32} {t_refused : Nat → Int32} {o : Int32 × (Nat → Int32) × (Nat → Int32)} (F : Nat) (h : f_X5_turn F a1 a2 t_told t_refused = some o) : zM l yX5_turn wsX5_turn rm_X5_turn E [.ref q_t, .int a1, .int a2] [(q_t, .inr (4, [.ref q_t_told, .ref q_t_kept, .ref q_t_isKept, .ref q_t_refused, .long t_above, .long t_below, .ref q_t_gets, .ref q_t_ahead, .int t_leftBehind, .ref q_t_dayGets, .ref q_t_dayDue, .ref q_t_own, .ref q_t_ownGets, .ref q_t_bestOwn, .ref q_t_alone, .ref q_t_atMuch, .ref q_t_hand, .ref q_t_his, .ref q_t_its, .ref q_t_bytes, .int t_bytesLong, .int t_tokenAt, .int t_tokenLong, .int t_token, .int t_value, .ref q_t_anew, .ref q_t_values, .int t_takenHours])), (q_t_told, zI E 251 t_told), (q_t_refused, zI E 3 t_refused)] (some (.int o.1)) [(q_t, .inr (4, [.ref q_t_told, .ref q_t_kept, .ref q_t_isKept, .ref q_t_refused, .long t_above, .long t_below, .ref q_t_gets, .ref q_t_ahead, .int t_leftBehind, .ref q_t_dayGets, .ref q_t_dayDue, .ref q_t_own, .ref q_t_ownGets, .ref q_t_bestOwn, .ref q_t_alone, .ref q_t_atMuch, .ref q_t_hand, .ref q_t_his, .ref q_t_its, .ref q_t_bytes, .int t_bytesLong, .int t_tokenAt, .int t_tokenLong, .int t_token, .int t_value, .ref q_t_anew, .ref q_t_values, .int t_takenHours])), (q_t_told, zI E 251 o.2.1), (q_t_refused, zI E 3 o.2.2)] := by
  refine zM.of (cc := cX5_turn) (maxL := 4) (ret := (some .int)) (by decide +kernel) rfl (Nat.le_of_ble_eq_true rfl) ?_
  intro p e s m args below meth c A C hr
  have C : zC p s m args c meth cX5_turn 4 RX5 wsX5_turn E A := C
  rw [f_X5_turn] at h
  refine z_aload_n C dX5_turn_0 rfl 0 rfl ?_
  refine z_iload_n C dX5_turn_1 rfl 1 rfl ?_
  obtain ⟨o1, ho2, h⟩ := bnd_some h
  refine z_callV (wc := [(q_t, .inr (4, [.ref q_t_told, .ref q_t_kept, .ref q_t_isKept, .ref q_t_refused, .long t_above, .long t_below, .ref q_t_gets, .ref q_t_ahead, .int t_leftBehind, .ref q_t_dayGets, .ref q_t_dayDue, .ref q_t_own, .ref q_t_ownGets, .ref q_t_bestOwn, .ref q_t_alone, .ref q_t_atMuch, .ref q_t_hand, .ref q_t_his, .ref q_t_its, .ref q_t_bytes, .int t_bytesLong, .int t_tokenAt, .int t_tokenLong, .int t_token, .int t_value, .ref q_t_anew, .ref q_t_values, .int t_takenHours])), (q_t_told, zI E 251 t_told)]) (wr := [(q_t_refused, zI E 3 t_refused)]) (wc' := [(q_t, .inr (4, [.ref q_t_told, .ref q_t_kept, .ref q_t_isKept, .ref q_t_refused, .long t_above, .long t_below, .ref q_t_gets, .ref q_t_ahead, .int t_leftBehind, .ref q_t_dayGets, .ref q_t_dayDue, .ref q_t_own, .ref q_t_ownGets, .ref q_t_bestOwn, .ref q_t_alone, .ref q_t_atMuch, .ref q_t_hand, .ref q_t_his, .ref q_t_its, .ref q_t_bytes, .int t_bytesLong, .int t_tokenAt, .int t_tokenLong, .int t_token, .int t_value, .ref q_t_anew, .ref q_t_values, .int t_takenHours])), (q_t_told, zI E 251 t_told)]) (ws2 := [(q_t, .inr (4, [.ref q_t_told, .ref q_t_kept, .ref q_t_isKept, .ref q_t_refused, .long t_above, .long t_below, .ref q_t_gets, .ref q_t_ahead, .int t_leftBehind, .ref q_t_dayGets, .ref q_t_dayDue, .ref q_t_own, .ref q_t_ownGets, .ref q_t_bestOwn, .ref q_t_alone, .ref q_t_atMuch, .ref q_t_hand, .ref q_t_his, .ref q_t_its, .ref q_t_bytes, .int t_bytesLong, .int t_tokenAt, .int t_tokenLong, .int t_token, .int t_value, .ref q_t_anew, .ref q_t_values, .int t_takenHours])), (q_t_told, zI E 251 t_told), (q_t_refused, zI E 3 t_refused)]) (As := [.int a1]) (st2 := [.int o1]) C [0, 1] [2] [1, 2, 0] rfl rfl rfl rfl (by decide) rfl rfl (c_X5_isWell F ho2) (goodVT consT W_832 W_834 W_34 W_62 W_835) rfl rfl rfl hd_X5_isWell ⟨Nat.le_of_ble_eq_true rfl, Nat.le_of_ble_eq_true rfl⟩ rfl rfl rfl (j := 0) rfl rfl rfl (Nat.le_of_ble_eq_true rfl) dX5_turn_2 ⟨Nat.zero_le _, Nat.zero_le _⟩ ?_
  refine z_if_eq (tgt := 20) C dX5_turn_5 (by decide) (fun c => ?_) (fun c => ?_)
  · replace h := (if_pos c).symm.trans h
    refine z_sub [0] (L' := [(0, .ref q_t)]) rfl ?_
    exact (l_X5_turn_b20 F a1 a2 C hr) t_told t_refused h
  · replace h := (if_neg c).symm.trans h
    refine z_iload_n C dX5_turn_8 rfl 2 rfl ?_
    refine z_i2l C dX5_turn_9 ?_
    refine z_lconst (v := (0 : Int64)) C dX5_turn_10 (by decide) ?_
    refine z_ldc2 (v := (255 : Int64)) C dX5_turn_11 (mc W_787) ?_
    obtain ⟨o3, ho4, h⟩ := bnd_some h
    refine z_callS (wc := []) (wr := [(q_t, .inr (4, [.ref q_t_told, .ref q_t_kept, .ref q_t_isKept, .ref q_t_refused, .long t_above, .long t_below, .ref q_t_gets, .ref q_t_ahead, .int t_leftBehind, .ref q_t_dayGets, .ref q_t_dayDue, .ref q_t_own, .ref q_t_ownGets, .ref q_t_bestOwn, .ref q_t_alone, .ref q_t_atMuch, .ref q_t_hand, .ref q_t_his, .ref q_t_its, .ref q_t_bytes, .int t_bytesLong, .int t_tokenAt, .int t_tokenLong, .int t_token, .int t_value, .ref q_t_anew, .ref q_t_values, .int t_takenHours])), (q_t_told, zI E 251 t_told), (q_t_refused, zI E 3 t_refused)]) (wc' := []) (ws2 := [(q_t, .inr (4, [.ref q_t_told, .ref q_t_kept, .ref q_t_isKept, .ref q_t_refused, .long t_above, .long t_below, .ref q_t_gets, .ref q_t_ahead, .int t_leftBehind, .ref q_t_dayGets, .ref q_t_dayDue, .ref q_t_own, .ref q_t_ownGets, .ref q_t_bestOwn, .ref q_t_alone, .ref q_t_atMuch, .ref q_t_hand, .ref q_t_his, .ref q_t_its, .ref q_t_bytes, .int t_bytesLong, .int t_tokenAt, .int t_tokenLong, .int t_token, .int t_value, .ref q_t_anew, .ref q_t_values, .int t_takenHours])), (q_t_told, zI E 251 t_told), (q_t_refused, zI E 3 t_refused)]) (As := [.long a2.toInt64, .long (0 : Int64), .long (255 : Int64)]) (st2 := [.int o3]) C [] [0, 1, 2] [0, 1, 2] rfl rfl rfl rfl (by decide) rfl rfl (c_X5_in F ho4) (goodST consT W_767 W_768 W_62 W_769) rfl rfl rfl hd_X5_in ⟨Nat.le_of_ble_eq_true rfl, Nat.le_of_ble_eq_true rfl⟩ rfl rfl rfl (Nat.le_of_ble_eq_true rfl) dX5_turn_14 ⟨Nat.zero_le _, Nat.zero_le _⟩ ?_
    refine z_if_ne (tgt := 27) C dX5_turn_17 (by decide) (fun c => ?_) (fun c => ?_)
    · replace h := (if_neg c).symm.trans h
      refine z_aload_n C dX5_turn_27 rfl 0 rfl ?_
      refine z_get C inT_X5 0 rfl rfl 0 (by decide) rfl (mc W_673) rfl dX5_turn_28 ?_
      refine z_bipush (v := (14 : Int32)) C dX5_turn_31 (by decide) ?_
      refine z_iload_n C dX5_turn_33 rfl 1 rfl ?_
      refine z_iadd C dX5_turn_34 ?_
      obtain ⟨c5, h⟩ := chk_some h
      refine z_iald C 1 rfl c5 dX5_turn_35 ?_
      refine z_istore_n (L' := [(3, .int (t_told ((14 : Int32) + a1).toNatClampNeg)), (0, .ref q_t), (1, .int a1), (2, .int a2)]) C dX5_turn_36 rfl (by decide) rfl ?_
      refine z_aload_n C dX5_turn_37 rfl 1 rfl ?_
      obtain ⟨o6, ho7, h⟩ := bnd_some h
      refine z_callV (wc := [(q_t, .inr (4, [.ref q_t_told, .ref q_t_kept, .ref q_t_isKept, .ref q_t_refused, .long t_above, .long t_below, .ref q_t_gets, .ref q_t_ahead, .int t_leftBehind, .ref q_t_dayGets, .ref q_t_dayDue, .ref q_t_own, .ref q_t_ownGets, .ref q_t_bestOwn, .ref q_t_alone, .ref q_t_atMuch, .ref q_t_hand, .ref q_t_his, .ref q_t_its, .ref q_t_bytes, .int t_bytesLong, .int t_tokenAt, .int t_tokenLong, .int t_token, .int t_value, .ref q_t_anew, .ref q_t_values, .int t_takenHours])), (q_t_told, zI E 251 t_told)]) (wr := [(q_t_refused, zI E 3 t_refused)]) (wc' := [(q_t, .inr (4, [.ref q_t_told, .ref q_t_kept, .ref q_t_isKept, .ref q_t_refused, .long t_above, .long t_below, .ref q_t_gets, .ref q_t_ahead, .int t_leftBehind, .ref q_t_dayGets, .ref q_t_dayDue, .ref q_t_own, .ref q_t_ownGets, .ref q_t_bestOwn, .ref q_t_alone, .ref q_t_atMuch, .ref q_t_hand, .ref q_t_his, .ref q_t_its, .ref q_t_bytes, .int t_bytesLong, .int t_tokenAt, .int t_tokenLong, .int t_token, .int t_value, .ref q_t_anew, .ref q_t_values, .int t_takenHours])), (q_t_told, zI E 251 o6)]) (ws2 := [(q_t, .inr (4, [.ref q_t_told, .ref q_t_kept, .ref q_t_isKept, .ref q_t_refused, .long t_above, .long t_below, .ref q_t_gets, .ref q_t_ahead, .int t_leftBehind, .ref q_t_dayGets, .ref q_t_dayDue, .ref q_t_own, .ref q_t_ownGets, .ref q_t_bestOwn, .ref q_t_alone, .ref q_t_atMuch, .ref q_t_hand, .ref q_t_his, .ref q_t_its, .ref q_t_bytes, .int t_bytesLong, .int t_tokenAt, .int t_tokenLong, .int t_token, .int t_value, .ref q_t_anew, .ref q_t_values, .int t_takenHours])), (q_t_told, zI E 251 o6), (q_t_refused, zI E 3 t_refused)]) (As := []) (st2 := []) C [0, 1] [2] [1, 2, 0] rfl rfl rfl rfl (by decide) rfl rfl (c_X5_keep F ho7) (goodVT consT W_800 W_802 W_30 W_62 W_803) rfl rfl rfl hd_X5_keep ⟨Nat.le_of_ble_eq_true rfl, Nat.le_of_ble_eq_true rfl⟩ rfl rfl rfl (j := 0) rfl rfl rfl (Nat.le_of_ble_eq_true rfl) dX5_turn_38 ⟨Nat.zero_le _, Nat.zero_le _⟩ ?_
      refine z_aload_n C dX5_turn_41 rfl 1 rfl ?_
      refine z_get C inT_X5 0 rfl rfl 0 (by decide) rfl (mc W_673) rfl dX5_turn_42 ?_
      refine z_bipush (v := (14 : Int32)) C dX5_turn_45 (by decide) ?_
      refine z_iload_n C dX5_turn_47 rfl 2 rfl ?_
      refine z_iadd C dX5_turn_48 ?_
      refine z_iload_n C dX5_turn_49 rfl 3 rfl ?_
      obtain ⟨c8, h⟩ := chk_some h
      refine z_iast (ws' := [(q_t, .inr (4, [.ref q_t_told, .ref q_t_kept, .ref q_t_isKept, .ref q_t_refused, .long t_above, .long t_below, .ref q_t_gets, .ref q_t_ahead, .int t_leftBehind, .ref q_t_dayGets, .ref q_t_dayDue, .ref q_t_own, .ref q_t_ownGets, .ref q_t_bestOwn, .ref q_t_alone, .ref q_t_atMuch, .ref q_t_hand, .ref q_t_his, .ref q_t_its, .ref q_t_bytes, .int t_bytesLong, .int t_tokenAt, .int t_tokenLong, .int t_token, .int t_value, .ref q_t_anew, .ref q_t_values, .int t_takenHours])), (q_t_told, zI E 251 (upd o6 ((14 : Int32) + a1).toNatClampNeg a2)), (q_t_refused, zI E 3 t_refused)]) C 1 rfl c8 rfl dX5_turn_50 ?_
      refine z_iload_n C dX5_turn_51 rfl 0 rfl ?_
      obtain rfl := Option.some.inj h
      exact z_iret (v := t_told ((14 : Int32) + a1).toNatClampNeg) C hr dX5_turn_52
    · replace h := (if_pos c).symm.trans h
      refine z_sub [0] (L' := [(0, .ref q_t)]) rfl ?_
      exact (l_X5_turn_b20 F a1 a2 C hr) t_told t_refused h
def rm_X5_want : Room := { frames := 2, cells := 0, slots := 0, locals := 46 }
theorem hd_X5_want : yX5_want.cls = yX5_want.cls ∧ yX5_want.cls ≠ "java/lang/invoke/MethodHandle" ∧ yX5_want.cls ≠ "java/lang/invoke/VarHandle" ∧ (parseMethodDescriptor yX5_want.desc).map (fun d => d.parameters.length) = some 2 := by decide +kernel
abbrev wsX5_want : List Cond := .code yX5_want cX5_want 4 (some .int) :: WALL
set_option maxRecDepth 100000 in
set_option maxHeartbeats 4000000 in
theorem l_X5_want_b15 {p : Program} {l : Launch} {e : Env} {s : State} {m : MethodId} {args : Array Value} {below : List Frame} {meth : Method} {c : Code} {E : zE} {A : Nat → Prop} {q_t q_t_told q_t_refused q_t_kept q_t_isKept q_t_gets q_t_ahead q_t_dayGets q_t_dayDue q_t_own q_t_ownGets q_t_bestOwn q_t_alone q_t_atMuch q_t_hand q_t_his q_t_its q_t_bytes q_t_anew q_t_values : Nat} {t_above : Int64} {t_below : Int64} {t_leftBehind : Int32} {t_bytesLong : Int32} {t_tokenAt : Int32} {t_tokenLong : Int32} {t_token : Int32} {t_value : Int32} {t_takenHours : Int32} {o : Int32 × (Nat → Int32) × (Nat → Int32)} (F : Nat) (a1 : Int32) (a2 : Int32) (C : zC p s m args c meth cX5_want 4 RX5 wsX5_want E A) (hr : meth.sig.returnType = some .int) : ∀  (t_told : Nat → Int32) (t_refused : Nat → Int32), f_X5_want_b15 F a1 a2 t_told t_refused = some o → zG p l e rm_X5_want s m args below meth c 4 E A 0 0 (MQ below (zQ E A (some (.int o.1)) [(q_t, .inr (4, [.ref q_t_told, .ref q_t_kept, .ref q_t_isKept, .ref q_t_refused, .long t_above, .long t_below, .ref q_t_gets, .ref q_t_ahead, .int t_leftBehind, .ref q_t_dayGets, .ref q_t_dayDue, .ref q_t_own, .ref q_t_ownGets, .ref q_t_bestOwn, .ref q_t_alone, .ref q_t_atMuch, .ref q_t_hand, .ref q_t_his, .ref q_t_its, .ref q_t_bytes, .int t_bytesLong, .int t_tokenAt, .int t_tokenLong, .int t_token, .int t_value, .ref q_t_anew, .ref q_t_values, .int t_takenHours])), (q_t_told, zI E 251 o.2.1), (q_t_refused, zI E 3 o.2.2)]) args s 0 0 A) [(q_t, .inr (4, [.ref q_t_told, .ref q_t_kept, .ref q_t_isKept, .ref q_t_refused, .long t_above, .long t_below, .ref q_t_gets, .ref q_t_ahead, .int t_leftBehind, .ref q_t_dayGets, .ref q_t_dayDue, .ref q_t_own, .ref q_t_ownGets, .ref q_t_bestOwn, .ref q_t_alone, .ref q_t_atMuch, .ref q_t_hand, .ref q_t_his, .ref q_t_its, .ref q_t_bytes, .int t_bytesLong, .int t_tokenAt, .int t_tokenLong, .int t_token, .int t_value, .ref q_t_anew, .ref q_t_values, .int t_takenHours])), (q_t_told, zI E 251 t_told), (q_t_refused, zI E 3 t_refused)] 15 [(0, .ref q_t)] [] := by
  intro t_told t_refused h
  rw [f_X5_want_b15] at h
  refine z_aload_n C dX5_want_15 rfl 0 rfl ?_
  refine z_bipush (v := (-2 : Int32)) C dX5_want_16 (by decide) ?_
  obtain ⟨o9, ho10, h⟩ := bnd_some h
  refine z_callV (wc := [(q_t, .inr (4, [.ref q_t_told, .ref q_t_kept, .ref q_t_isKept, .ref q_t_refused, .long t_above, .long t_below, .ref q_t_gets, .ref q_t_ahead, .int t_leftBehind, .ref q_t_dayGets, .ref q_t_dayDue, .ref q_t_own, .ref q_t_ownGets, .ref q_t_bestOwn, .ref q_t_alone, .ref q_t_atMuch, .ref q_t_hand, .ref q_t_his, .ref q_t_its, .ref q_t_bytes, .int t_bytesLong, .int t_tokenAt, .int t_tokenLong, .int t_token, .int t_value, .ref q_t_anew, .ref q_t_values, .int t_takenHours])), (q_t_refused, zI E 3 t_refused)]) (wr := [(q_t_told, zI E 251 t_told)]) (wc' := [(q_t, .inr (4, [.ref q_t_told, .ref q_t_kept, .ref q_t_isKept, .ref q_t_refused, .long t_above, .long t_below, .ref q_t_gets, .ref q_t_ahead, .int t_leftBehind, .ref q_t_dayGets, .ref q_t_dayDue, .ref q_t_own, .ref q_t_ownGets, .ref q_t_bestOwn, .ref q_t_alone, .ref q_t_atMuch, .ref q_t_hand, .ref q_t_his, .ref q_t_its, .ref q_t_bytes, .int t_bytesLong, .int t_tokenAt, .int t_tokenLong, .int t_token, .int t_value, .ref q_t_anew, .ref q_t_values, .int t_takenHours])), (q_t_refused, zI E 3 o9.2)]) (ws2 := [(q_t, .inr (4, [.ref q_t_told, .ref q_t_kept, .ref q_t_isKept, .ref q_t_refused, .long t_above, .long t_below, .ref q_t_gets, .ref q_t_ahead, .int t_leftBehind, .ref q_t_dayGets, .ref q_t_dayDue, .ref q_t_own, .ref q_t_ownGets, .ref q_t_bestOwn, .ref q_t_alone, .ref q_t_atMuch, .ref q_t_hand, .ref q_t_his, .ref q_t_its, .ref q_t_bytes, .int t_bytesLong, .int t_tokenAt, .int t_tokenLong, .int t_token, .int t_value, .ref q_t_anew, .ref q_t_values, .int t_takenHours])), (q_t_told, zI E 251 t_told), (q_t_refused, zI E 3 o9.2)]) (As := [.int (-2 : Int32)]) (st2 := [.int o9.1]) C [0, 2] [1] [1, 0, 2] rfl rfl rfl rfl (by decide) rfl rfl (c_X5_bad F ho10) (goodVT consT W_770 W_772 W_27 W_62 W_773) rfl rfl rfl hd_X5_bad ⟨Nat.le_of_ble_eq_true rfl, Nat.le_of_ble_eq_true rfl⟩ rfl rfl rfl (j := 0) rfl rfl rfl (Nat.le_of_ble_eq_true rfl) dX5_want_18 ⟨Nat.zero_le _, Nat.zero_le _⟩ ?_
  obtain rfl := Option.some.inj h
  exact z_iret (v := o9.1) C hr dX5_want_21
set_option maxRecDepth 100000 in
set_option maxHeartbeats 4000000 in
theorem c_X5_want {l : Launch} {E : zE} {q_t q_t_told q_t_refused q_t_kept q_t_isKept q_t_gets q_t_ahead q_t_dayGets q_t_dayDue q_t_own q_t_ownGets q_t_bestOwn q_t_alone q_t_atMuch q_t_hand q_t_his q_t_its q_t_bytes q_t_anew q_t_values : Nat} {t_above : Int64} {t_below : Int64} {t_leftBehind : Int32} {t_bytesLong : Int32} {t_tokenAt : Int32} {t_tokenLong : Int32} {t_token : Int32} {t_value : Int32} {t_takenHours : Int32} {a1 : Int32} {a2 : Int32} {t_told : Nat → Int32} {t_refused : Nat → Int32} {o : Int32 × (Nat → Int32) × (Nat → Int32)} (F : Nat) (h : f_X5_want F a1 a2 t_told t_refused = some o) : zM l yX5_want wsX5_want rm_X5_want E [.ref q_t, .int a1, .int a2] [(q_t, .inr (4, [.ref q_t_told, .ref q_t_kept, .ref q_t_isKept, .ref q_t_refused, .long t_above, .long t_below, .ref q_t_gets, .ref q_t_ahead, .int t_leftBehind, .ref q_t_dayGets, .ref q_t_dayDue, .ref q_t_own, .ref q_t_ownGets, .ref q_t_bestOwn, .ref q_t_alone, .ref q_t_atMuch, .ref q_t_hand, .ref q_t_his, .ref q_t_its, .ref q_t_bytes, .int t_bytesLong, .int t_tokenAt, .int t_tokenLong, .int t_token, .int t_value, .ref q_t_anew, .ref q_t_values, .int t_takenHours])), (q_t_told, zI E 251 t_told), (q_t_refused, zI E 3 t_refused)] (some (.int o.1)) [(q_t, .inr (4, [.ref q_t_told, .ref q_t_kept, .ref q_t_isKept, .ref q_t_refused, .long t_above, .long t_below, .ref q_t_gets, .ref q_t_ahead, .int t_leftBehind, .ref q_t_dayGets, .ref q_t_dayDue, .ref q_t_own, .ref q_t_ownGets, .ref q_t_bestOwn, .ref q_t_alone, .ref q_t_atMuch, .ref q_t_hand, .ref q_t_his, .ref q_t_its, .ref q_t_bytes, .int t_bytesLong, .int t_tokenAt, .int t_tokenLong, .int t_token, .int t_value, .ref q_t_anew, .ref q_t_values, .int t_takenHours])), (q_t_told, zI E 251 o.2.1), (q_t_refused, zI E 3 o.2.2)] := by
  refine zM.of (cc := cX5_want) (maxL := 4) (ret := (some .int)) (by decide +kernel) rfl (Nat.le_of_ble_eq_true rfl) ?_
  intro p e s m args below meth c A C hr
  have C : zC p s m args c meth cX5_want 4 RX5 wsX5_want E A := C
  rw [f_X5_want] at h
  refine z_aload_n C dX5_want_0 rfl 0 rfl ?_
  refine z_iload_n C dX5_want_1 rfl 1 rfl ?_
  obtain ⟨o1, ho2, h⟩ := bnd_some h
  refine z_callV (wc := [(q_t, .inr (4, [.ref q_t_told, .ref q_t_kept, .ref q_t_isKept, .ref q_t_refused, .long t_above, .long t_below, .ref q_t_gets, .ref q_t_ahead, .int t_leftBehind, .ref q_t_dayGets, .ref q_t_dayDue, .ref q_t_own, .ref q_t_ownGets, .ref q_t_bestOwn, .ref q_t_alone, .ref q_t_atMuch, .ref q_t_hand, .ref q_t_his, .ref q_t_its, .ref q_t_bytes, .int t_bytesLong, .int t_tokenAt, .int t_tokenLong, .int t_token, .int t_value, .ref q_t_anew, .ref q_t_values, .int t_takenHours])), (q_t_told, zI E 251 t_told)]) (wr := [(q_t_refused, zI E 3 t_refused)]) (wc' := [(q_t, .inr (4, [.ref q_t_told, .ref q_t_kept, .ref q_t_isKept, .ref q_t_refused, .long t_above, .long t_below, .ref q_t_gets, .ref q_t_ahead, .int t_leftBehind, .ref q_t_dayGets, .ref q_t_dayDue, .ref q_t_own, .ref q_t_ownGets, .ref q_t_bestOwn, .ref q_t_alone, .ref q_t_atMuch, .ref q_t_hand, .ref q_t_his, .ref q_t_its, .ref q_t_bytes, .int t_bytesLong, .int t_tokenAt, .int t_tokenLong, .int t_token, .int t_value, .ref q_t_anew, .ref q_t_values, .int t_takenHours])), (q_t_told, zI E 251 t_told)]) (ws2 := [(q_t, .inr (4, [.ref q_t_told, .ref q_t_kept, .ref q_t_isKept, .ref q_t_refused, .long t_above, .long t_below, .ref q_t_gets, .ref q_t_ahead, .int t_leftBehind, .ref q_t_dayGets, .ref q_t_dayDue, .ref q_t_own, .ref q_t_ownGets, .ref q_t_bestOwn, .ref q_t_alone, .ref q_t_atMuch, .ref q_t_hand, .ref q_t_his, .ref q_t_its, .ref q_t_bytes, .int t_bytesLong, .int t_tokenAt, .int t_tokenLong, .int t_token, .int t_value, .ref q_t_anew, .ref q_t_values, .int t_takenHours])), (q_t_told, zI E 251 t_told), (q_t_refused, zI E 3 t_refused)]) (As := [.int a1]) (st2 := [.int o1]) C [0, 1] [2] [1, 2, 0] rfl rfl rfl rfl (by decide) rfl rfl (c_X5_isWell F ho2) (goodVT consT W_832 W_834 W_34 W_62 W_835) rfl rfl rfl hd_X5_isWell ⟨Nat.le_of_ble_eq_true rfl, Nat.le_of_ble_eq_true rfl⟩ rfl rfl rfl (j := 0) rfl rfl rfl (Nat.le_of_ble_eq_true rfl) dX5_want_2 ⟨Nat.zero_le _, Nat.zero_le _⟩ ?_
  refine z_if_eq (tgt := 15) C dX5_want_5 (by decide) (fun c => ?_) (fun c => ?_)
  · replace h := (if_pos c).symm.trans h
    refine z_sub [0] (L' := [(0, .ref q_t)]) rfl ?_
    exact (l_X5_want_b15 F a1 a2 C hr) t_told t_refused h
  · replace h := (if_neg c).symm.trans h
    refine z_iload_n C dX5_want_8 rfl 2 rfl ?_
    obtain ⟨o3, ho4, h⟩ := bnd_some h
    refine z_callS (wc := []) (wr := [(q_t, .inr (4, [.ref q_t_told, .ref q_t_kept, .ref q_t_isKept, .ref q_t_refused, .long t_above, .long t_below, .ref q_t_gets, .ref q_t_ahead, .int t_leftBehind, .ref q_t_dayGets, .ref q_t_dayDue, .ref q_t_own, .ref q_t_ownGets, .ref q_t_bestOwn, .ref q_t_alone, .ref q_t_atMuch, .ref q_t_hand, .ref q_t_his, .ref q_t_its, .ref q_t_bytes, .int t_bytesLong, .int t_tokenAt, .int t_tokenLong, .int t_token, .int t_value, .ref q_t_anew, .ref q_t_values, .int t_takenHours])), (q_t_told, zI E 251 t_told), (q_t_refused, zI E 3 t_refused)]) (wc' := []) (ws2 := [(q_t, .inr (4, [.ref q_t_told, .ref q_t_kept, .ref q_t_isKept, .ref q_t_refused, .long t_above, .long t_below, .ref q_t_gets, .ref q_t_ahead, .int t_leftBehind, .ref q_t_dayGets, .ref q_t_dayDue, .ref q_t_own, .ref q_t_ownGets, .ref q_t_bestOwn, .ref q_t_alone, .ref q_t_atMuch, .ref q_t_hand, .ref q_t_his, .ref q_t_its, .ref q_t_bytes, .int t_bytesLong, .int t_tokenAt, .int t_tokenLong, .int t_token, .int t_value, .ref q_t_anew, .ref q_t_values, .int t_takenHours])), (q_t_told, zI E 251 t_told), (q_t_refused, zI E 3 t_refused)]) (As := [.int a2]) (st2 := [.int o3]) C [] [0, 1, 2] [0, 1, 2] rfl rfl rfl rfl (by decide) rfl rfl (c_X5_isWanted F ho4) (goodST consT W_783 W_784 W_62 W_785) rfl rfl rfl hd_X5_isWanted ⟨Nat.le_of_ble_eq_true rfl, Nat.le_of_ble_eq_true rfl⟩ rfl rfl rfl (Nat.le_of_ble_eq_true rfl) dX5_want_9 ⟨Nat.zero_le _, Nat.zero_le _⟩ ?_
    refine z_if_ne (tgt := 22) C dX5_want_12 (by decide) (fun c => ?_) (fun c => ?_)
    · replace h := (if_neg c).symm.trans h
      refine z_aload_n C dX5_want_22 rfl 0 rfl ?_
      refine z_get C inT_X5 0 rfl rfl 0 (by decide) rfl (mc W_673) rfl dX5_want_23 ?_
      refine z_bipush (v := (19 : Int32)) C dX5_want_26 (by decide) ?_
      refine z_iload_n C dX5_want_28 rfl 1 rfl ?_
      refine z_iadd C dX5_want_29 ?_
      obtain ⟨c5, h⟩ := chk_some h
      refine z_iald C 1 rfl c5 dX5_want_30 ?_
      refine z_istore_n (L' := [(3, .int (t_told ((19 : Int32) + a1).toNatClampNeg)), (0, .ref q_t), (1, .int a1), (2, .int a2)]) C dX5_want_31 rfl (by decide) rfl ?_
      refine z_aload_n C dX5_want_32 rfl 1 rfl ?_
      obtain ⟨o6, ho7, h⟩ := bnd_some h
      refine z_callV (wc := [(q_t, .inr (4, [.ref q_t_told, .ref q_t_kept, .ref q_t_isKept, .ref q_t_refused, .long t_above, .long t_below, .ref q_t_gets, .ref q_t_ahead, .int t_leftBehind, .ref q_t_dayGets, .ref q_t_dayDue, .ref q_t_own, .ref q_t_ownGets, .ref q_t_bestOwn, .ref q_t_alone, .ref q_t_atMuch, .ref q_t_hand, .ref q_t_his, .ref q_t_its, .ref q_t_bytes, .int t_bytesLong, .int t_tokenAt, .int t_tokenLong, .int t_token, .int t_value, .ref q_t_anew, .ref q_t_values, .int t_takenHours])), (q_t_told, zI E 251 t_told)]) (wr := [(q_t_refused, zI E 3 t_refused)]) (wc' := [(q_t, .inr (4, [.ref q_t_told, .ref q_t_kept, .ref q_t_isKept, .ref q_t_refused, .long t_above, .long t_below, .ref q_t_gets, .ref q_t_ahead, .int t_leftBehind, .ref q_t_dayGets, .ref q_t_dayDue, .ref q_t_own, .ref q_t_ownGets, .ref q_t_bestOwn, .ref q_t_alone, .ref q_t_atMuch, .ref q_t_hand, .ref q_t_his, .ref q_t_its, .ref q_t_bytes, .int t_bytesLong, .int t_tokenAt, .int t_tokenLong, .int t_token, .int t_value, .ref q_t_anew, .ref q_t_values, .int t_takenHours])), (q_t_told, zI E 251 o6)]) (ws2 := [(q_t, .inr (4, [.ref q_t_told, .ref q_t_kept, .ref q_t_isKept, .ref q_t_refused, .long t_above, .long t_below, .ref q_t_gets, .ref q_t_ahead, .int t_leftBehind, .ref q_t_dayGets, .ref q_t_dayDue, .ref q_t_own, .ref q_t_ownGets, .ref q_t_bestOwn, .ref q_t_alone, .ref q_t_atMuch, .ref q_t_hand, .ref q_t_his, .ref q_t_its, .ref q_t_bytes, .int t_bytesLong, .int t_tokenAt, .int t_tokenLong, .int t_token, .int t_value, .ref q_t_anew, .ref q_t_values, .int t_takenHours])), (q_t_told, zI E 251 o6), (q_t_refused, zI E 3 t_refused)]) (As := []) (st2 := []) C [0, 1] [2] [1, 2, 0] rfl rfl rfl rfl (by decide) rfl rfl (c_X5_keep F ho7) (goodVT consT W_800 W_802 W_30 W_62 W_803) rfl rfl rfl hd_X5_keep ⟨Nat.le_of_ble_eq_true rfl, Nat.le_of_ble_eq_true rfl⟩ rfl rfl rfl (j := 0) rfl rfl rfl (Nat.le_of_ble_eq_true rfl) dX5_want_33 ⟨Nat.zero_le _, Nat.zero_le _⟩ ?_
      refine z_aload_n C dX5_want_36 rfl 1 rfl ?_
      refine z_get C inT_X5 0 rfl rfl 0 (by decide) rfl (mc W_673) rfl dX5_want_37 ?_
      refine z_bipush (v := (19 : Int32)) C dX5_want_40 (by decide) ?_
      refine z_iload_n C dX5_want_42 rfl 2 rfl ?_
      refine z_iadd C dX5_want_43 ?_
      refine z_iload_n C dX5_want_44 rfl 3 rfl ?_
      obtain ⟨c8, h⟩ := chk_some h
      refine z_iast (ws' := [(q_t, .inr (4, [.ref q_t_told, .ref q_t_kept, .ref q_t_isKept, .ref q_t_refused, .long t_above, .long t_below, .ref q_t_gets, .ref q_t_ahead, .int t_leftBehind, .ref q_t_dayGets, .ref q_t_dayDue, .ref q_t_own, .ref q_t_ownGets, .ref q_t_bestOwn, .ref q_t_alone, .ref q_t_atMuch, .ref q_t_hand, .ref q_t_his, .ref q_t_its, .ref q_t_bytes, .int t_bytesLong, .int t_tokenAt, .int t_tokenLong, .int t_token, .int t_value, .ref q_t_anew, .ref q_t_values, .int t_takenHours])), (q_t_told, zI E 251 (upd o6 ((19 : Int32) + a1).toNatClampNeg a2)), (q_t_refused, zI E 3 t_refused)]) C 1 rfl c8 rfl dX5_want_45 ?_
      refine z_iload_n C dX5_want_46 rfl 0 rfl ?_
      obtain rfl := Option.some.inj h
      exact z_iret (v := t_told ((19 : Int32) + a1).toNatClampNeg) C hr dX5_want_47
    · replace h := (if_pos c).symm.trans h
      refine z_sub [0] (L' := [(0, .ref q_t)]) rfl ?_
      exact (l_X5_want_b15 F a1 a2 C hr) t_told t_refused h
def rm_X5_press : Room := { frames := 2, cells := 0, slots := 0, locals := 45 }
theorem hd_X5_press : yX5_press.cls = yX5_press.cls ∧ yX5_press.cls ≠ "java/lang/invoke/MethodHandle" ∧ yX5_press.cls ≠ "java/lang/invoke/VarHandle" ∧ (parseMethodDescriptor yX5_press.desc).map (fun d => d.parameters.length) = some 1 := by decide +kernel
abbrev wsX5_press : List Cond := .code yX5_press cX5_press 3 (some .int) :: WALL
set_option maxRecDepth 100000 in
set_option maxHeartbeats 4000000 in
theorem c_X5_press {l : Launch} {E : zE} {q_t q_t_told q_t_refused q_t_kept q_t_isKept q_t_gets q_t_ahead q_t_dayGets q_t_dayDue q_t_own q_t_ownGets q_t_bestOwn q_t_alone q_t_atMuch q_t_hand q_t_his q_t_its q_t_bytes q_t_anew q_t_values : Nat} {t_above : Int64} {t_below : Int64} {t_leftBehind : Int32} {t_bytesLong : Int32} {t_tokenAt : Int32} {t_tokenLong : Int32} {t_token : Int32} {t_value : Int32} {t_takenHours : Int32} {a1 : Int32} {t_told : Nat → Int32} {t_refused : Nat → Int32} {o : Int32 × (Nat → Int32) × (Nat → Int32)} (F : Nat) (h : f_X5_press F a1 t_told t_refused = some o) : zM l yX5_press wsX5_press rm_X5_press E [.ref q_t, .int a1] [(q_t, .inr (4, [.ref q_t_told, .ref q_t_kept, .ref q_t_isKept, .ref q_t_refused, .long t_above, .long t_below, .ref q_t_gets, .ref q_t_ahead, .int t_leftBehind, .ref q_t_dayGets, .ref q_t_dayDue, .ref q_t_own, .ref q_t_ownGets, .ref q_t_bestOwn, .ref q_t_alone, .ref q_t_atMuch, .ref q_t_hand, .ref q_t_his, .ref q_t_its, .ref q_t_bytes, .int t_bytesLong, .int t_tokenAt, .int t_tokenLong, .int t_token, .int t_value, .ref q_t_anew, .ref q_t_values, .int t_takenHours])), (q_t_told, zI E 251 t_told), (q_t_refused, zI E 3 t_refused)] (some (.int o.1)) [(q_t, .inr (4, [.ref q_t_told, .ref q_t_kept, .ref q_t_isKept, .ref q_t_refused, .long t_above, .long t_below, .ref q_t_gets, .ref q_t_ahead, .int t_leftBehind, .ref q_t_dayGets, .ref q_t_dayDue, .ref q_t_own, .ref q_t_ownGets, .ref q_t_bestOwn, .ref q_t_alone, .ref q_t_atMuch, .ref q_t_hand, .ref q_t_his, .ref q_t_its, .ref q_t_bytes, .int t_bytesLong, .int t_tokenAt, .int t_tokenLong, .int t_token, .int t_value, .ref q_t_anew, .ref q_t_values, .int t_takenHours])), (q_t_told, zI E 251 o.2.1), (q_t_refused, zI E 3 o.2.2)] := by
  refine zM.of (cc := cX5_press) (maxL := 3) (ret := (some .int)) (by decide +kernel) rfl (Nat.le_of_ble_eq_true rfl) ?_
  intro p e s m args below meth c A C hr
  have C : zC p s m args c meth cX5_press 3 RX5 wsX5_press E A := C
  rw [f_X5_press] at h
  refine z_iload_n C dX5_press_0 rfl 1 rfl ?_
  obtain ⟨o1, ho2, h⟩ := bnd_some h
  refine z_callS (wc := []) (wr := [(q_t, .inr (4, [.ref q_t_told, .ref q_t_kept, .ref q_t_isKept, .ref q_t_refused, .long t_above, .long t_below, .ref q_t_gets, .ref q_t_ahead, .int t_leftBehind, .ref q_t_dayGets, .ref q_t_dayDue, .ref q_t_own, .ref q_t_ownGets, .ref q_t_bestOwn, .ref q_t_alone, .ref q_t_atMuch, .ref q_t_hand, .ref q_t_his, .ref q_t_its, .ref q_t_bytes, .int t_bytesLong, .int t_tokenAt, .int t_tokenLong, .int t_token, .int t_value, .ref q_t_anew, .ref q_t_values, .int t_takenHours])), (q_t_told, zI E 251 t_told), (q_t_refused, zI E 3 t_refused)]) (wc' := []) (ws2 := [(q_t, .inr (4, [.ref q_t_told, .ref q_t_kept, .ref q_t_isKept, .ref q_t_refused, .long t_above, .long t_below, .ref q_t_gets, .ref q_t_ahead, .int t_leftBehind, .ref q_t_dayGets, .ref q_t_dayDue, .ref q_t_own, .ref q_t_ownGets, .ref q_t_bestOwn, .ref q_t_alone, .ref q_t_atMuch, .ref q_t_hand, .ref q_t_his, .ref q_t_its, .ref q_t_bytes, .int t_bytesLong, .int t_tokenAt, .int t_tokenLong, .int t_token, .int t_value, .ref q_t_anew, .ref q_t_values, .int t_takenHours])), (q_t_told, zI E 251 t_told), (q_t_refused, zI E 3 t_refused)]) (As := [.int a1]) (st2 := [.int o1]) C [] [0, 1, 2] [0, 1, 2] rfl rfl rfl rfl (by decide) rfl rfl (c_X5_isPressure F ho2) (goodST consT W_763 W_764 W_62 W_765) rfl rfl rfl hd_X5_isPressure ⟨Nat.le_of_ble_eq_true rfl, Nat.le_of_ble_eq_true rfl⟩ rfl rfl rfl (Nat.le_of_ble_eq_true rfl) dX5_press_1 ⟨Nat.zero_le _, Nat.zero_le _⟩ ?_
  refine z_if_ne (tgt := 14) C dX5_press_4 (by decide) (fun c => ?_) (fun c => ?_)
  · replace h := (if_neg c).symm.trans h
    refine z_aload_n C dX5_press_14 rfl 0 rfl ?_
    refine z_get C inT_X5 0 rfl rfl 0 (by decide) rfl (mc W_673) rfl dX5_press_15 ?_
    refine z_bipush (v := (24 : Int32)) C dX5_press_18 (by decide) ?_
    obtain ⟨c3, h⟩ := chk_some h
    refine z_iald C 1 rfl c3 dX5_press_20 ?_
    refine z_istore_n (L' := [(2, .int (t_told (24 : Int32).toNatClampNeg)), (0, .ref q_t), (1, .int a1)]) C dX5_press_21 rfl (by decide) rfl ?_
    refine z_aload_n C dX5_press_22 rfl 1 rfl ?_
    obtain ⟨o4, ho5, h⟩ := bnd_some h
    refine z_callV (wc := [(q_t, .inr (4, [.ref q_t_told, .ref q_t_kept, .ref q_t_isKept, .ref q_t_refused, .long t_above, .long t_below, .ref q_t_gets, .ref q_t_ahead, .int t_leftBehind, .ref q_t_dayGets, .ref q_t_dayDue, .ref q_t_own, .ref q_t_ownGets, .ref q_t_bestOwn, .ref q_t_alone, .ref q_t_atMuch, .ref q_t_hand, .ref q_t_his, .ref q_t_its, .ref q_t_bytes, .int t_bytesLong, .int t_tokenAt, .int t_tokenLong, .int t_token, .int t_value, .ref q_t_anew, .ref q_t_values, .int t_takenHours])), (q_t_told, zI E 251 t_told)]) (wr := [(q_t_refused, zI E 3 t_refused)]) (wc' := [(q_t, .inr (4, [.ref q_t_told, .ref q_t_kept, .ref q_t_isKept, .ref q_t_refused, .long t_above, .long t_below, .ref q_t_gets, .ref q_t_ahead, .int t_leftBehind, .ref q_t_dayGets, .ref q_t_dayDue, .ref q_t_own, .ref q_t_ownGets, .ref q_t_bestOwn, .ref q_t_alone, .ref q_t_atMuch, .ref q_t_hand, .ref q_t_his, .ref q_t_its, .ref q_t_bytes, .int t_bytesLong, .int t_tokenAt, .int t_tokenLong, .int t_token, .int t_value, .ref q_t_anew, .ref q_t_values, .int t_takenHours])), (q_t_told, zI E 251 o4)]) (ws2 := [(q_t, .inr (4, [.ref q_t_told, .ref q_t_kept, .ref q_t_isKept, .ref q_t_refused, .long t_above, .long t_below, .ref q_t_gets, .ref q_t_ahead, .int t_leftBehind, .ref q_t_dayGets, .ref q_t_dayDue, .ref q_t_own, .ref q_t_ownGets, .ref q_t_bestOwn, .ref q_t_alone, .ref q_t_atMuch, .ref q_t_hand, .ref q_t_his, .ref q_t_its, .ref q_t_bytes, .int t_bytesLong, .int t_tokenAt, .int t_tokenLong, .int t_token, .int t_value, .ref q_t_anew, .ref q_t_values, .int t_takenHours])), (q_t_told, zI E 251 o4), (q_t_refused, zI E 3 t_refused)]) (As := []) (st2 := []) C [0, 1] [2] [1, 2, 0] rfl rfl rfl rfl (by decide) rfl rfl (c_X5_keep F ho5) (goodVT consT W_800 W_802 W_30 W_62 W_803) rfl rfl rfl hd_X5_keep ⟨Nat.le_of_ble_eq_true rfl, Nat.le_of_ble_eq_true rfl⟩ rfl rfl rfl (j := 0) rfl rfl rfl (Nat.le_of_ble_eq_true rfl) dX5_press_23 ⟨Nat.zero_le _, Nat.zero_le _⟩ ?_
    refine z_aload_n C dX5_press_26 rfl 1 rfl ?_
    refine z_get C inT_X5 0 rfl rfl 0 (by decide) rfl (mc W_673) rfl dX5_press_27 ?_
    refine z_bipush (v := (24 : Int32)) C dX5_press_30 (by decide) ?_
    refine z_iload_n C dX5_press_32 rfl 2 rfl ?_
    obtain ⟨c6, h⟩ := chk_some h
    refine z_iast (ws' := [(q_t, .inr (4, [.ref q_t_told, .ref q_t_kept, .ref q_t_isKept, .ref q_t_refused, .long t_above, .long t_below, .ref q_t_gets, .ref q_t_ahead, .int t_leftBehind, .ref q_t_dayGets, .ref q_t_dayDue, .ref q_t_own, .ref q_t_ownGets, .ref q_t_bestOwn, .ref q_t_alone, .ref q_t_atMuch, .ref q_t_hand, .ref q_t_his, .ref q_t_its, .ref q_t_bytes, .int t_bytesLong, .int t_tokenAt, .int t_tokenLong, .int t_token, .int t_value, .ref q_t_anew, .ref q_t_values, .int t_takenHours])), (q_t_told, zI E 251 (upd o4 (24 : Int32).toNatClampNeg a1)), (q_t_refused, zI E 3 t_refused)]) C 1 rfl c6 rfl dX5_press_33 ?_
    refine z_iload_n C dX5_press_34 rfl 0 rfl ?_
    obtain rfl := Option.some.inj h
    exact z_iret (v := t_told (24 : Int32).toNatClampNeg) C hr dX5_press_35
  · replace h := (if_pos c).symm.trans h
    refine z_aload_n C dX5_press_7 rfl 0 rfl ?_
    refine z_bipush (v := (-2 : Int32)) C dX5_press_8 (by decide) ?_
    obtain ⟨o7, ho8, h⟩ := bnd_some h
    refine z_callV (wc := [(q_t, .inr (4, [.ref q_t_told, .ref q_t_kept, .ref q_t_isKept, .ref q_t_refused, .long t_above, .long t_below, .ref q_t_gets, .ref q_t_ahead, .int t_leftBehind, .ref q_t_dayGets, .ref q_t_dayDue, .ref q_t_own, .ref q_t_ownGets, .ref q_t_bestOwn, .ref q_t_alone, .ref q_t_atMuch, .ref q_t_hand, .ref q_t_his, .ref q_t_its, .ref q_t_bytes, .int t_bytesLong, .int t_tokenAt, .int t_tokenLong, .int t_token, .int t_value, .ref q_t_anew, .ref q_t_values, .int t_takenHours])), (q_t_refused, zI E 3 t_refused)]) (wr := [(q_t_told, zI E 251 t_told)]) (wc' := [(q_t, .inr (4, [.ref q_t_told, .ref q_t_kept, .ref q_t_isKept, .ref q_t_refused, .long t_above, .long t_below, .ref q_t_gets, .ref q_t_ahead, .int t_leftBehind, .ref q_t_dayGets, .ref q_t_dayDue, .ref q_t_own, .ref q_t_ownGets, .ref q_t_bestOwn, .ref q_t_alone, .ref q_t_atMuch, .ref q_t_hand, .ref q_t_his, .ref q_t_its, .ref q_t_bytes, .int t_bytesLong, .int t_tokenAt, .int t_tokenLong, .int t_token, .int t_value, .ref q_t_anew, .ref q_t_values, .int t_takenHours])), (q_t_refused, zI E 3 o7.2)]) (ws2 := [(q_t, .inr (4, [.ref q_t_told, .ref q_t_kept, .ref q_t_isKept, .ref q_t_refused, .long t_above, .long t_below, .ref q_t_gets, .ref q_t_ahead, .int t_leftBehind, .ref q_t_dayGets, .ref q_t_dayDue, .ref q_t_own, .ref q_t_ownGets, .ref q_t_bestOwn, .ref q_t_alone, .ref q_t_atMuch, .ref q_t_hand, .ref q_t_his, .ref q_t_its, .ref q_t_bytes, .int t_bytesLong, .int t_tokenAt, .int t_tokenLong, .int t_token, .int t_value, .ref q_t_anew, .ref q_t_values, .int t_takenHours])), (q_t_told, zI E 251 t_told), (q_t_refused, zI E 3 o7.2)]) (As := [.int (-2 : Int32)]) (st2 := [.int o7.1]) C [0, 2] [1] [1, 0, 2] rfl rfl rfl rfl (by decide) rfl rfl (c_X5_bad F ho8) (goodVT consT W_770 W_772 W_27 W_62 W_773) rfl rfl rfl hd_X5_bad ⟨Nat.le_of_ble_eq_true rfl, Nat.le_of_ble_eq_true rfl⟩ rfl rfl rfl (j := 0) rfl rfl rfl (Nat.le_of_ble_eq_true rfl) dX5_press_10 ⟨Nat.zero_le _, Nat.zero_le _⟩ ?_
    obtain rfl := Option.some.inj h
    exact z_iret (v := o7.1) C hr dX5_press_13
def rm_X5_undo : Room := { frames := 1, cells := 0, slots := 0, locals := 20 }
theorem hd_X5_undo : yX5_undo.cls = yX5_undo.cls ∧ yX5_undo.cls ≠ "java/lang/invoke/MethodHandle" ∧ yX5_undo.cls ≠ "java/lang/invoke/VarHandle" ∧ (parseMethodDescriptor yX5_undo.desc).map (fun d => d.parameters.length) = some 0 := by decide +kernel
abbrev wsX5_undo : List Cond := .code yX5_undo cX5_undo 2 (some .int) :: WALL
set_option maxRecDepth 100000 in
set_option maxHeartbeats 4000000 in
theorem l_X5_undo_b26 {p : Program} {l : Launch} {e : Env} {s : State} {m : MethodId} {args : Array Value} {below : List Frame} {meth : Method} {c : Code} {E : zE} {A : Nat → Prop} {q_t q_t_told q_t_refused q_t_kept q_t_isKept q_t_gets q_t_ahead q_t_dayGets q_t_dayDue q_t_own q_t_ownGets q_t_bestOwn q_t_alone q_t_atMuch q_t_hand q_t_his q_t_its q_t_bytes q_t_anew q_t_values : Nat} {t_above : Int64} {t_below : Int64} {t_leftBehind : Int32} {t_bytesLong : Int32} {t_tokenAt : Int32} {t_tokenLong : Int32} {t_token : Int32} {t_value : Int32} {t_takenHours : Int32} {o : Int32 × (Nat → Int32) × (Nat → Int32)} (F : Nat) (C : zC p s m args c meth cX5_undo 2 RX5 wsX5_undo E A) (hr : meth.sig.returnType = some .int) : ∀ (n : Nat) (v1 : Int32) (t_told : Nat → Int32) (t_refused : Nat → Int32), f_X5_undo_b26 F n v1 t_told t_refused = some o → zG p l e rm_X5_undo s m args below meth c 2 E A 0 0 (MQ below (zQ E A (some (.int o.1)) [(q_t, .inr (4, [.ref q_t_told, .ref q_t_kept, .ref q_t_isKept, .ref q_t_refused, .long t_above, .long t_below, .ref q_t_gets, .ref q_t_ahead, .int t_leftBehind, .ref q_t_dayGets, .ref q_t_dayDue, .ref q_t_own, .ref q_t_ownGets, .ref q_t_bestOwn, .ref q_t_alone, .ref q_t_atMuch, .ref q_t_hand, .ref q_t_his, .ref q_t_its, .ref q_t_bytes, .int t_bytesLong, .int t_tokenAt, .int t_tokenLong, .int t_token, .int t_value, .ref q_t_anew, .ref q_t_values, .int t_takenHours])), (q_t_told, zI E 251 o.2.1), (q_t_refused, zI E 3 o.2.2)]) args s 0 0 A) [(q_t, .inr (4, [.ref q_t_told, .ref q_t_kept, .ref q_t_isKept, .ref q_t_refused, .long t_above, .long t_below, .ref q_t_gets, .ref q_t_ahead, .int t_leftBehind, .ref q_t_dayGets, .ref q_t_dayDue, .ref q_t_own, .ref q_t_ownGets, .ref q_t_bestOwn, .ref q_t_alone, .ref q_t_atMuch, .ref q_t_hand, .ref q_t_his, .ref q_t_its, .ref q_t_bytes, .int t_bytesLong, .int t_tokenAt, .int t_tokenLong, .int t_token, .int t_value, .ref q_t_anew, .ref q_t_values, .int t_takenHours])), (q_t_told, zI E 251 t_told), (q_t_refused, zI E 3 t_refused)] 26 [(0, .ref q_t), (1, .int v1)] [] := by
  intro n
  induction n with
  | zero =>
    intro v1 t_told t_refused h
    rw [f_X5_undo_b26] at h
    cases h
  | succ n ih =>
    intro v1 t_told t_refused h
    rw [f_X5_undo_b26] at h
    refine z_iload_n C dX5_undo_26 rfl 1 rfl ?_
    refine z_bipush (v := (22 : Int32)) C dX5_undo_27 (by decide) ?_
    refine z_icmp_ge (tgt := 65) C dX5_undo_29 (by decide) (fun c => ?_) (fun c => ?_)
    · replace h := (if_pos c).symm.trans h
      refine z_aload_n C dX5_undo_65 rfl 0 rfl ?_
      refine z_get C inT_X5 0 rfl rfl 0 (by decide) rfl (mc W_673) rfl dX5_undo_66 ?_
      refine z_bipush (v := (25 : Int32)) C dX5_undo_69 (by decide) ?_
      obtain ⟨c6, h⟩ := chk_some h
      refine z_iald C 1 rfl c6 dX5_undo_71 ?_
      obtain rfl := Option.some.inj h
      exact z_iret (v := t_told (25 : Int32).toNatClampNeg) C hr dX5_undo_72
    · replace h := (if_neg c).symm.trans h
      refine z_aload_n C dX5_undo_32 rfl 0 rfl ?_
      refine z_get C inT_X5 0 rfl rfl 0 (by decide) rfl (mc W_673) rfl dX5_undo_33 ?_
      refine z_iconst (v := (4 : Int32)) C dX5_undo_36 (by decide) ?_
      refine z_iload_n C dX5_undo_37 rfl 1 rfl ?_
      refine z_iadd C dX5_undo_38 ?_
      refine z_aload_n C dX5_undo_39 rfl 0 rfl ?_
      refine z_get C inT_X5 0 rfl rfl 0 (by decide) rfl (mc W_673) rfl dX5_undo_40 ?_
      refine z_bipush (v := (75 : Int32)) C dX5_undo_43 (by decide) ?_
      refine z_bipush (v := (22 : Int32)) C dX5_undo_45 (by decide) ?_
      refine z_aload_n C dX5_undo_47 rfl 0 rfl ?_
      refine z_get C inT_X5 0 rfl rfl 0 (by decide) rfl (mc W_673) rfl dX5_undo_48 ?_
      refine z_iconst (v := (3 : Int32)) C dX5_undo_51 (by decide) ?_
      obtain ⟨c7, h⟩ := chk_some h
      refine z_iald C 1 rfl c7 dX5_undo_52 ?_
      refine z_imul C dX5_undo_53 ?_
      refine z_iadd C dX5_undo_54 ?_
      refine z_iload_n C dX5_undo_55 rfl 1 rfl ?_
      refine z_iadd C dX5_undo_56 ?_
      obtain ⟨c8, h⟩ := chk_some h
      refine z_iald C 1 rfl c8 dX5_undo_57 ?_
      obtain ⟨c9, h⟩ := chk_some h
      refine z_iast (ws' := [(q_t, .inr (4, [.ref q_t_told, .ref q_t_kept, .ref q_t_isKept, .ref q_t_refused, .long t_above, .long t_below, .ref q_t_gets, .ref q_t_ahead, .int t_leftBehind, .ref q_t_dayGets, .ref q_t_dayDue, .ref q_t_own, .ref q_t_ownGets, .ref q_t_bestOwn, .ref q_t_alone, .ref q_t_atMuch, .ref q_t_hand, .ref q_t_his, .ref q_t_its, .ref q_t_bytes, .int t_bytesLong, .int t_tokenAt, .int t_tokenLong, .int t_token, .int t_value, .ref q_t_anew, .ref q_t_values, .int t_takenHours])), (q_t_told, zI E 251 (upd t_told ((4 : Int32) + v1).toNatClampNeg (t_told (((75 : Int32) + ((22 : Int32) * (t_told (3 : Int32).toNatClampNeg))) + v1).toNatClampNeg))), (q_t_refused, zI E 3 t_refused)]) C 1 rfl c9 rfl dX5_undo_58 ?_
      refine z_iinc (v := v1 + (1 : Int32)) (L' := [(1, .int (v1 + (1 : Int32))), (0, .ref q_t)]) C dX5_undo_59 1 rfl rfl (by decide) rfl ?_
      refine z_goto (tgt := 26) C dX5_undo_62 (by decide) ?_
      refine z_sub [1, 0] (L' := [(0, .ref q_t), (1, .int (v1 + (1 : Int32)))]) rfl ?_
      exact ih (v1 + (1 : Int32)) (upd t_told ((4 : Int32) + v1).toNatClampNeg (t_told (((75 : Int32) + ((22 : Int32) * (t_told (3 : Int32).toNatClampNeg))) + v1).toNatClampNeg)) t_refused h
set_option maxRecDepth 100000 in
set_option maxHeartbeats 4000000 in
theorem c_X5_undo {l : Launch} {E : zE} {q_t q_t_told q_t_refused q_t_kept q_t_isKept q_t_gets q_t_ahead q_t_dayGets q_t_dayDue q_t_own q_t_ownGets q_t_bestOwn q_t_alone q_t_atMuch q_t_hand q_t_his q_t_its q_t_bytes q_t_anew q_t_values : Nat} {t_above : Int64} {t_below : Int64} {t_leftBehind : Int32} {t_bytesLong : Int32} {t_tokenAt : Int32} {t_tokenLong : Int32} {t_token : Int32} {t_value : Int32} {t_takenHours : Int32} {t_told : Nat → Int32} {t_refused : Nat → Int32} {o : Int32 × (Nat → Int32) × (Nat → Int32)} (F : Nat) (h : f_X5_undo F t_told t_refused = some o) : zM l yX5_undo wsX5_undo rm_X5_undo E [.ref q_t] [(q_t, .inr (4, [.ref q_t_told, .ref q_t_kept, .ref q_t_isKept, .ref q_t_refused, .long t_above, .long t_below, .ref q_t_gets, .ref q_t_ahead, .int t_leftBehind, .ref q_t_dayGets, .ref q_t_dayDue, .ref q_t_own, .ref q_t_ownGets, .ref q_t_bestOwn, .ref q_t_alone, .ref q_t_atMuch, .ref q_t_hand, .ref q_t_his, .ref q_t_its, .ref q_t_bytes, .int t_bytesLong, .int t_tokenAt, .int t_tokenLong, .int t_token, .int t_value, .ref q_t_anew, .ref q_t_values, .int t_takenHours])), (q_t_told, zI E 251 t_told), (q_t_refused, zI E 3 t_refused)] (some (.int o.1)) [(q_t, .inr (4, [.ref q_t_told, .ref q_t_kept, .ref q_t_isKept, .ref q_t_refused, .long t_above, .long t_below, .ref q_t_gets, .ref q_t_ahead, .int t_leftBehind, .ref q_t_dayGets, .ref q_t_dayDue, .ref q_t_own, .ref q_t_ownGets, .ref q_t_bestOwn, .ref q_t_alone, .ref q_t_atMuch, .ref q_t_hand, .ref q_t_his, .ref q_t_its, .ref q_t_bytes, .int t_bytesLong, .int t_tokenAt, .int t_tokenLong, .int t_token, .int t_value, .ref q_t_anew, .ref q_t_values, .int t_takenHours])), (q_t_told, zI E 251 o.2.1), (q_t_refused, zI E 3 o.2.2)] := by
  refine zM.of (cc := cX5_undo) (maxL := 2) (ret := (some .int)) (by decide +kernel) rfl (Nat.le_of_ble_eq_true rfl) ?_
  intro p e s m args below meth c A C hr
  have C : zC p s m args c meth cX5_undo 2 RX5 wsX5_undo E A := C
  rw [f_X5_undo] at h
  refine z_aload_n C dX5_undo_0 rfl 0 rfl ?_
  refine z_get C inT_X5 0 rfl rfl 0 (by decide) rfl (mc W_673) rfl dX5_undo_1 ?_
  refine z_iconst (v := (3 : Int32)) C dX5_undo_4 (by decide) ?_
  obtain ⟨c1, h⟩ := chk_some h
  refine z_iald C 1 rfl c1 dX5_undo_5 ?_
  refine z_if_ne (tgt := 14) C dX5_undo_6 (by decide) (fun c => ?_) (fun c => ?_)
  · replace h := (if_neg c).symm.trans h
    refine z_aload_n C dX5_undo_14 rfl 0 rfl ?_
    refine z_get C inT_X5 0 rfl rfl 0 (by decide) rfl (mc W_673) rfl dX5_undo_15 ?_
    refine z_iconst (v := (3 : Int32)) C dX5_undo_18 (by decide) ?_
    refine z_dup2 C dX5_undo_19 rfl rfl ?_
    obtain ⟨c2, h⟩ := chk_some h
    refine z_iald C 1 rfl c2 dX5_undo_20 ?_
    refine z_iconst (v := (1 : Int32)) C dX5_undo_21 (by decide) ?_
    refine z_isub C dX5_undo_22 ?_
    obtain ⟨c3, h⟩ := chk_some h
    refine z_iast (ws' := [(q_t, .inr (4, [.ref q_t_told, .ref q_t_kept, .ref q_t_isKept, .ref q_t_refused, .long t_above, .long t_below, .ref q_t_gets, .ref q_t_ahead, .int t_leftBehind, .ref q_t_dayGets, .ref q_t_dayDue, .ref q_t_own, .ref q_t_ownGets, .ref q_t_bestOwn, .ref q_t_alone, .ref q_t_atMuch, .ref q_t_hand, .ref q_t_his, .ref q_t_its, .ref q_t_bytes, .int t_bytesLong, .int t_tokenAt, .int t_tokenLong, .int t_token, .int t_value, .ref q_t_anew, .ref q_t_values, .int t_takenHours])), (q_t_told, zI E 251 (upd t_told (3 : Int32).toNatClampNeg ((t_told (3 : Int32).toNatClampNeg) - (1 : Int32)))), (q_t_refused, zI E 3 t_refused)]) C 1 rfl c3 rfl dX5_undo_23 ?_
    refine z_iconst (v := (0 : Int32)) C dX5_undo_24 (by decide) ?_
    refine z_istore_n (L' := [(1, .int (0 : Int32)), (0, .ref q_t)]) C dX5_undo_25 rfl (by decide) rfl ?_
    refine z_sub [1, 0] (L' := [(0, .ref q_t), (1, .int (0 : Int32))]) rfl ?_
    exact (l_X5_undo_b26 F C hr F) (0 : Int32) (upd t_told (3 : Int32).toNatClampNeg ((t_told (3 : Int32).toNatClampNeg) - (1 : Int32))) t_refused h
  · replace h := (if_pos c).symm.trans h
    refine z_aload_n C dX5_undo_9 rfl 0 rfl ?_
    obtain ⟨o4, ho5, h⟩ := bnd_some h
    refine z_callV (wc := [(q_t, .inr (4, [.ref q_t_told, .ref q_t_kept, .ref q_t_isKept, .ref q_t_refused, .long t_above, .long t_below, .ref q_t_gets, .ref q_t_ahead, .int t_leftBehind, .ref q_t_dayGets, .ref q_t_dayDue, .ref q_t_own, .ref q_t_ownGets, .ref q_t_bestOwn, .ref q_t_alone, .ref q_t_atMuch, .ref q_t_hand, .ref q_t_his, .ref q_t_its, .ref q_t_bytes, .int t_bytesLong, .int t_tokenAt, .int t_tokenLong, .int t_token, .int t_value, .ref q_t_anew, .ref q_t_values, .int t_takenHours])), (q_t_refused, zI E 3 t_refused)]) (wr := [(q_t_told, zI E 251 t_told)]) (wc' := [(q_t, .inr (4, [.ref q_t_told, .ref q_t_kept, .ref q_t_isKept, .ref q_t_refused, .long t_above, .long t_below, .ref q_t_gets, .ref q_t_ahead, .int t_leftBehind, .ref q_t_dayGets, .ref q_t_dayDue, .ref q_t_own, .ref q_t_ownGets, .ref q_t_bestOwn, .ref q_t_alone, .ref q_t_atMuch, .ref q_t_hand, .ref q_t_his, .ref q_t_its, .ref q_t_bytes, .int t_bytesLong, .int t_tokenAt, .int t_tokenLong, .int t_token, .int t_value, .ref q_t_anew, .ref q_t_values, .int t_takenHours])), (q_t_refused, zI E 3 o4.2)]) (ws2 := [(q_t, .inr (4, [.ref q_t_told, .ref q_t_kept, .ref q_t_isKept, .ref q_t_refused, .long t_above, .long t_below, .ref q_t_gets, .ref q_t_ahead, .int t_leftBehind, .ref q_t_dayGets, .ref q_t_dayDue, .ref q_t_own, .ref q_t_ownGets, .ref q_t_bestOwn, .ref q_t_alone, .ref q_t_atMuch, .ref q_t_hand, .ref q_t_his, .ref q_t_its, .ref q_t_bytes, .int t_bytesLong, .int t_tokenAt, .int t_tokenLong, .int t_token, .int t_value, .ref q_t_anew, .ref q_t_values, .int t_takenHours])), (q_t_told, zI E 251 t_told), (q_t_refused, zI E 3 o4.2)]) (As := []) (st2 := [.int o4.1]) C [0, 2] [1] [1, 0, 2] rfl rfl rfl rfl (by decide) rfl rfl (c_X5_no F ho5) (goodVT consT W_848 W_850 W_35 W_62 W_851) rfl rfl rfl hd_X5_no ⟨Nat.le_of_ble_eq_true rfl, Nat.le_of_ble_eq_true rfl⟩ rfl rfl rfl (j := 0) rfl rfl rfl (Nat.le_of_ble_eq_true rfl) dX5_undo_10 ⟨Nat.zero_le _, Nat.zero_le _⟩ ?_
    obtain rfl := Option.some.inj h
    exact z_iret (v := o4.1) C hr dX5_undo_13
def rm_X5_of : Room := { frames := 2, cells := 0, slots := 0, locals := 46 }
theorem hd_X5_of : yX5_of.cls = yX5_of.cls ∧ yX5_of.cls ≠ "java/lang/invoke/MethodHandle" ∧ yX5_of.cls ≠ "java/lang/invoke/VarHandle" ∧ (parseMethodDescriptor yX5_of.desc).map (fun d => d.parameters.length) = some 2 := by decide +kernel
abbrev wsX5_of : List Cond := .code yX5_of cX5_of 3 (some .int) :: WALL
set_option maxRecDepth 100000 in
set_option maxHeartbeats 4000000 in
theorem l_X5_of_b20 {p : Program} {l : Launch} {e : Env} {s : State} {m : MethodId} {args : Array Value} {below : List Frame} {meth : Method} {c : Code} {E : zE} {A : Nat → Prop} {q_t q_t_told q_t_refused q_t_kept q_t_isKept q_t_gets q_t_ahead q_t_dayGets q_t_dayDue q_t_own q_t_ownGets q_t_bestOwn q_t_alone q_t_atMuch q_t_hand q_t_his q_t_its q_t_bytes q_t_anew q_t_values : Nat} {t_above : Int64} {t_below : Int64} {t_leftBehind : Int32} {t_bytesLong : Int32} {t_tokenAt : Int32} {t_tokenLong : Int32} {t_token : Int32} {t_value : Int32} {t_takenHours : Int32} {o : Int32 × (Nat → Int32)} (F : Nat) (a1 : Int32) (a2 : Int32) (t_told : Nat → Int32) (C : zC p s m args c meth cX5_of 3 RX5 wsX5_of E A) (hr : meth.sig.returnType = some .int) : ∀  (t_refused : Nat → Int32), f_X5_of_b20 F a1 a2 t_told t_refused = some o → zG p l e rm_X5_of s m args below meth c 3 E A 0 0 (MQ below (zQ E A (some (.int o.1)) [(q_t, .inr (4, [.ref q_t_told, .ref q_t_kept, .ref q_t_isKept, .ref q_t_refused, .long t_above, .long t_below, .ref q_t_gets, .ref q_t_ahead, .int t_leftBehind, .ref q_t_dayGets, .ref q_t_dayDue, .ref q_t_own, .ref q_t_ownGets, .ref q_t_bestOwn, .ref q_t_alone, .ref q_t_atMuch, .ref q_t_hand, .ref q_t_his, .ref q_t_its, .ref q_t_bytes, .int t_bytesLong, .int t_tokenAt, .int t_tokenLong, .int t_token, .int t_value, .ref q_t_anew, .ref q_t_values, .int t_takenHours])), (q_t_told, zI E 251 t_told), (q_t_refused, zI E 3 o.2)]) args s 0 0 A) [(q_t, .inr (4, [.ref q_t_told, .ref q_t_kept, .ref q_t_isKept, .ref q_t_refused, .long t_above, .long t_below, .ref q_t_gets, .ref q_t_ahead, .int t_leftBehind, .ref q_t_dayGets, .ref q_t_dayDue, .ref q_t_own, .ref q_t_ownGets, .ref q_t_bestOwn, .ref q_t_alone, .ref q_t_atMuch, .ref q_t_hand, .ref q_t_his, .ref q_t_its, .ref q_t_bytes, .int t_bytesLong, .int t_tokenAt, .int t_tokenLong, .int t_token, .int t_value, .ref q_t_anew, .ref q_t_values, .int t_takenHours])), (q_t_told, zI E 251 t_told), (q_t_refused, zI E 3 t_refused)] 20 [(0, .ref q_t)] [] := by
  intro t_refused h
  rw [f_X5_of_b20] at h
  refine z_aload_n C dX5_of_20 rfl 0 rfl ?_
  refine z_bipush (v := (-2 : Int32)) C dX5_of_21 (by decide) ?_
  obtain ⟨o10, ho11, h⟩ := bnd_some h
  refine z_callV (wc := [(q_t, .inr (4, [.ref q_t_told, .ref q_t_kept, .ref q_t_isKept, .ref q_t_refused, .long t_above, .long t_below, .ref q_t_gets, .ref q_t_ahead, .int t_leftBehind, .ref q_t_dayGets, .ref q_t_dayDue, .ref q_t_own, .ref q_t_ownGets, .ref q_t_bestOwn, .ref q_t_alone, .ref q_t_atMuch, .ref q_t_hand, .ref q_t_his, .ref q_t_its, .ref q_t_bytes, .int t_bytesLong, .int t_tokenAt, .int t_tokenLong, .int t_token, .int t_value, .ref q_t_anew, .ref q_t_values, .int t_takenHours])), (q_t_refused, zI E 3 t_refused)]) (wr := [(q_t_told, zI E 251 t_told)]) (wc' := [(q_t, .inr (4, [.ref q_t_told, .ref q_t_kept, .ref q_t_isKept, .ref q_t_refused, .long t_above, .long t_below, .ref q_t_gets, .ref q_t_ahead, .int t_leftBehind, .ref q_t_dayGets, .ref q_t_dayDue, .ref q_t_own, .ref q_t_ownGets, .ref q_t_bestOwn, .ref q_t_alone, .ref q_t_atMuch, .ref q_t_hand, .ref q_t_his, .ref q_t_its, .ref q_t_bytes, .int t_bytesLong, .int t_tokenAt, .int t_tokenLong, .int t_token, .int t_value, .ref q_t_anew, .ref q_t_values, .int t_takenHours])), (q_t_refused, zI E 3 o10.2)]) (ws2 := [(q_t, .inr (4, [.ref q_t_told, .ref q_t_kept, .ref q_t_isKept, .ref q_t_refused, .long t_above, .long t_below, .ref q_t_gets, .ref q_t_ahead, .int t_leftBehind, .ref q_t_dayGets, .ref q_t_dayDue, .ref q_t_own, .ref q_t_ownGets, .ref q_t_bestOwn, .ref q_t_alone, .ref q_t_atMuch, .ref q_t_hand, .ref q_t_his, .ref q_t_its, .ref q_t_bytes, .int t_bytesLong, .int t_tokenAt, .int t_tokenLong, .int t_token, .int t_value, .ref q_t_anew, .ref q_t_values, .int t_takenHours])), (q_t_told, zI E 251 t_told), (q_t_refused, zI E 3 o10.2)]) (As := [.int (-2 : Int32)]) (st2 := [.int o10.1]) C [0, 2] [1] [1, 0, 2] rfl rfl rfl rfl (by decide) rfl rfl (c_X5_bad F ho11) (goodVT consT W_770 W_772 W_27 W_62 W_773) rfl rfl rfl hd_X5_bad ⟨Nat.le_of_ble_eq_true rfl, Nat.le_of_ble_eq_true rfl⟩ rfl rfl rfl (j := 0) rfl rfl rfl (Nat.le_of_ble_eq_true rfl) dX5_of_23 ⟨Nat.zero_le _, Nat.zero_le _⟩ ?_
  obtain rfl := Option.some.inj h
  exact z_iret (v := o10.1) C hr dX5_of_26
set_option maxRecDepth 100000 in
set_option maxHeartbeats 4000000 in
theorem c_X5_of {l : Launch} {E : zE} {q_t q_t_told q_t_refused q_t_kept q_t_isKept q_t_gets q_t_ahead q_t_dayGets q_t_dayDue q_t_own q_t_ownGets q_t_bestOwn q_t_alone q_t_atMuch q_t_hand q_t_his q_t_its q_t_bytes q_t_anew q_t_values : Nat} {t_above : Int64} {t_below : Int64} {t_leftBehind : Int32} {t_bytesLong : Int32} {t_tokenAt : Int32} {t_tokenLong : Int32} {t_token : Int32} {t_value : Int32} {t_takenHours : Int32} {a1 : Int32} {a2 : Int32} {t_told : Nat → Int32} {t_refused : Nat → Int32} {o : Int32 × (Nat → Int32)} (F : Nat) (h : f_X5_of F a1 a2 t_told t_refused = some o) : zM l yX5_of wsX5_of rm_X5_of E [.ref q_t, .int a1, .int a2] [(q_t, .inr (4, [.ref q_t_told, .ref q_t_kept, .ref q_t_isKept, .ref q_t_refused, .long t_above, .long t_below, .ref q_t_gets, .ref q_t_ahead, .int t_leftBehind, .ref q_t_dayGets, .ref q_t_dayDue, .ref q_t_own, .ref q_t_ownGets, .ref q_t_bestOwn, .ref q_t_alone, .ref q_t_atMuch, .ref q_t_hand, .ref q_t_his, .ref q_t_its, .ref q_t_bytes, .int t_bytesLong, .int t_tokenAt, .int t_tokenLong, .int t_token, .int t_value, .ref q_t_anew, .ref q_t_values, .int t_takenHours])), (q_t_told, zI E 251 t_told), (q_t_refused, zI E 3 t_refused)] (some (.int o.1)) [(q_t, .inr (4, [.ref q_t_told, .ref q_t_kept, .ref q_t_isKept, .ref q_t_refused, .long t_above, .long t_below, .ref q_t_gets, .ref q_t_ahead, .int t_leftBehind, .ref q_t_dayGets, .ref q_t_dayDue, .ref q_t_own, .ref q_t_ownGets, .ref q_t_bestOwn, .ref q_t_alone, .ref q_t_atMuch, .ref q_t_hand, .ref q_t_his, .ref q_t_its, .ref q_t_bytes, .int t_bytesLong, .int t_tokenAt, .int t_tokenLong, .int t_token, .int t_value, .ref q_t_anew, .ref q_t_values, .int t_takenHours])), (q_t_told, zI E 251 t_told), (q_t_refused, zI E 3 o.2)] := by
  refine zM.of (cc := cX5_of) (maxL := 3) (ret := (some .int)) (by decide +kernel) rfl (Nat.le_of_ble_eq_true rfl) ?_
  intro p e s m args below meth c A C hr
  have C : zC p s m args c meth cX5_of 3 RX5 wsX5_of E A := C
  rw [f_X5_of] at h
  refine z_aload_n C dX5_of_0 rfl 0 rfl ?_
  refine z_iload_n C dX5_of_1 rfl 1 rfl ?_
  obtain ⟨o1, ho2, h⟩ := bnd_some h
  refine z_callV (wc := [(q_t, .inr (4, [.ref q_t_told, .ref q_t_kept, .ref q_t_isKept, .ref q_t_refused, .long t_above, .long t_below, .ref q_t_gets, .ref q_t_ahead, .int t_leftBehind, .ref q_t_dayGets, .ref q_t_dayDue, .ref q_t_own, .ref q_t_ownGets, .ref q_t_bestOwn, .ref q_t_alone, .ref q_t_atMuch, .ref q_t_hand, .ref q_t_his, .ref q_t_its, .ref q_t_bytes, .int t_bytesLong, .int t_tokenAt, .int t_tokenLong, .int t_token, .int t_value, .ref q_t_anew, .ref q_t_values, .int t_takenHours])), (q_t_told, zI E 251 t_told)]) (wr := [(q_t_refused, zI E 3 t_refused)]) (wc' := [(q_t, .inr (4, [.ref q_t_told, .ref q_t_kept, .ref q_t_isKept, .ref q_t_refused, .long t_above, .long t_below, .ref q_t_gets, .ref q_t_ahead, .int t_leftBehind, .ref q_t_dayGets, .ref q_t_dayDue, .ref q_t_own, .ref q_t_ownGets, .ref q_t_bestOwn, .ref q_t_alone, .ref q_t_atMuch, .ref q_t_hand, .ref q_t_his, .ref q_t_its, .ref q_t_bytes, .int t_bytesLong, .int t_tokenAt, .int t_tokenLong, .int t_token, .int t_value, .ref q_t_anew, .ref q_t_values, .int t_takenHours])), (q_t_told, zI E 251 t_told)]) (ws2 := [(q_t, .inr (4, [.ref q_t_told, .ref q_t_kept, .ref q_t_isKept, .ref q_t_refused, .long t_above, .long t_below, .ref q_t_gets, .ref q_t_ahead, .int t_leftBehind, .ref q_t_dayGets, .ref q_t_dayDue, .ref q_t_own, .ref q_t_ownGets, .ref q_t_bestOwn, .ref q_t_alone, .ref q_t_atMuch, .ref q_t_hand, .ref q_t_his, .ref q_t_its, .ref q_t_bytes, .int t_bytesLong, .int t_tokenAt, .int t_tokenLong, .int t_token, .int t_value, .ref q_t_anew, .ref q_t_values, .int t_takenHours])), (q_t_told, zI E 251 t_told), (q_t_refused, zI E 3 t_refused)]) (As := [.int a1]) (st2 := [.int o1]) C [0, 1] [2] [1, 2, 0] rfl rfl rfl rfl (by decide) rfl rfl (c_X5_isWell F ho2) (goodVT consT W_832 W_834 W_34 W_62 W_835) rfl rfl rfl hd_X5_isWell ⟨Nat.le_of_ble_eq_true rfl, Nat.le_of_ble_eq_true rfl⟩ rfl rfl rfl (j := 0) rfl rfl rfl (Nat.le_of_ble_eq_true rfl) dX5_of_2 ⟨Nat.zero_le _, Nat.zero_le _⟩ ?_
  refine z_if_eq (tgt := 20) C dX5_of_5 (by decide) (fun c => ?_) (fun c => ?_)
  · replace h := (if_pos c).symm.trans h
    refine z_sub [0] (L' := [(0, .ref q_t)]) rfl ?_
    exact (l_X5_of_b20 F a1 a2 t_told C hr) t_refused h
  · replace h := (if_neg c).symm.trans h
    refine z_iload_n C dX5_of_8 rfl 2 rfl ?_
    refine z_i2l C dX5_of_9 ?_
    refine z_lconst (v := (0 : Int64)) C dX5_of_10 (by decide) ?_
    refine z_ldc2 (v := (4 : Int64)) C dX5_of_11 (mc W_856) ?_
    obtain ⟨o3, ho4, h⟩ := bnd_some h
    refine z_callS (wc := []) (wr := [(q_t, .inr (4, [.ref q_t_told, .ref q_t_kept, .ref q_t_isKept, .ref q_t_refused, .long t_above, .long t_below, .ref q_t_gets, .ref q_t_ahead, .int t_leftBehind, .ref q_t_dayGets, .ref q_t_dayDue, .ref q_t_own, .ref q_t_ownGets, .ref q_t_bestOwn, .ref q_t_alone, .ref q_t_atMuch, .ref q_t_hand, .ref q_t_his, .ref q_t_its, .ref q_t_bytes, .int t_bytesLong, .int t_tokenAt, .int t_tokenLong, .int t_token, .int t_value, .ref q_t_anew, .ref q_t_values, .int t_takenHours])), (q_t_told, zI E 251 t_told), (q_t_refused, zI E 3 t_refused)]) (wc' := []) (ws2 := [(q_t, .inr (4, [.ref q_t_told, .ref q_t_kept, .ref q_t_isKept, .ref q_t_refused, .long t_above, .long t_below, .ref q_t_gets, .ref q_t_ahead, .int t_leftBehind, .ref q_t_dayGets, .ref q_t_dayDue, .ref q_t_own, .ref q_t_ownGets, .ref q_t_bestOwn, .ref q_t_alone, .ref q_t_atMuch, .ref q_t_hand, .ref q_t_his, .ref q_t_its, .ref q_t_bytes, .int t_bytesLong, .int t_tokenAt, .int t_tokenLong, .int t_token, .int t_value, .ref q_t_anew, .ref q_t_values, .int t_takenHours])), (q_t_told, zI E 251 t_told), (q_t_refused, zI E 3 t_refused)]) (As := [.long a2.toInt64, .long (0 : Int64), .long (4 : Int64)]) (st2 := [.int o3]) C [] [0, 1, 2] [0, 1, 2] rfl rfl rfl rfl (by decide) rfl rfl (c_X5_in F ho4) (goodST consT W_767 W_768 W_62 W_769) rfl rfl rfl hd_X5_in ⟨Nat.le_of_ble_eq_true rfl, Nat.le_of_ble_eq_true rfl⟩ rfl rfl rfl (Nat.le_of_ble_eq_true rfl) dX5_of_14 ⟨Nat.zero_le _, Nat.zero_le _⟩ ?_
    refine z_if_ne (tgt := 27) C dX5_of_17 (by decide) (fun c => ?_) (fun c => ?_)
    · replace h := (if_neg c).symm.trans h
      refine z_iload_n C dX5_of_27 rfl 2 rfl ?_
      by_cases e0 : a2 = (0 : Int32)
      · replace h := (if_pos e0).symm.trans h
        refine z_tabIn (tgt := 60) C dX5_of_28 (by rw [e0]; decide) (by rw [e0]; decide) (by rw [e0]; rfl) (by decide) ?_
        refine z_aload_n C dX5_of_60 rfl 0 rfl ?_
        refine z_get C inT_X5 0 rfl rfl 0 (by decide) rfl (mc W_673) rfl dX5_of_61 ?_
        refine z_bipush (v := (26 : Int32)) C dX5_of_64 (by decide) ?_
        refine z_iload_n C dX5_of_66 rfl 1 rfl ?_
        refine z_iadd C dX5_of_67 ?_
        obtain ⟨c5, h⟩ := chk_some h
        refine z_iald C 1 rfl c5 dX5_of_68 ?_
        obtain rfl := Option.some.inj h
        exact z_iret (v := t_told ((26 : Int32) + a1).toNatClampNeg) C hr dX5_of_69
      · replace h := (if_neg e0).symm.trans h
        by_cases e1 : a2 = (1 : Int32)
        · replace h := (if_pos e1).symm.trans h
          refine z_tabIn (tgt := 70) C dX5_of_28 (by rw [e1]; decide) (by rw [e1]; decide) (by rw [e1]; rfl) (by decide) ?_
          refine z_aload_n C dX5_of_70 rfl 0 rfl ?_
          refine z_get C inT_X5 0 rfl rfl 0 (by decide) rfl (mc W_673) rfl dX5_of_71 ?_
          refine z_bipush (v := (19 : Int32)) C dX5_of_74 (by decide) ?_
          refine z_iload_n C dX5_of_76 rfl 1 rfl ?_
          refine z_iadd C dX5_of_77 ?_
          obtain ⟨c6, h⟩ := chk_some h
          refine z_iald C 1 rfl c6 dX5_of_78 ?_
          obtain rfl := Option.some.inj h
          exact z_iret (v := t_told ((19 : Int32) + a1).toNatClampNeg) C hr dX5_of_79
        · replace h := (if_neg e1).symm.trans h
          by_cases e2 : a2 = (2 : Int32)
          · replace h := (if_pos e2).symm.trans h
            refine z_tabIn (tgt := 80) C dX5_of_28 (by rw [e2]; decide) (by rw [e2]; decide) (by rw [e2]; rfl) (by decide) ?_
            refine z_aload_n C dX5_of_80 rfl 0 rfl ?_
            refine z_get C inT_X5 0 rfl rfl 0 (by decide) rfl (mc W_673) rfl dX5_of_81 ?_
            refine z_bipush (v := (14 : Int32)) C dX5_of_84 (by decide) ?_
            refine z_iload_n C dX5_of_86 rfl 1 rfl ?_
            refine z_iadd C dX5_of_87 ?_
            obtain ⟨c7, h⟩ := chk_some h
            refine z_iald C 1 rfl c7 dX5_of_88 ?_
            obtain rfl := Option.some.inj h
            exact z_iret (v := t_told ((14 : Int32) + a1).toNatClampNeg) C hr dX5_of_89
          · replace h := (if_neg e2).symm.trans h
            by_cases e3 : a2 = (3 : Int32)
            · replace h := (if_pos e3).symm.trans h
              refine z_tabIn (tgt := 90) C dX5_of_28 (by rw [e3]; decide) (by rw [e3]; decide) (by rw [e3]; rfl) (by decide) ?_
              refine z_aload_n C dX5_of_90 rfl 0 rfl ?_
              refine z_get C inT_X5 0 rfl rfl 0 (by decide) rfl (mc W_673) rfl dX5_of_91 ?_
              refine z_iconst (v := (4 : Int32)) C dX5_of_94 (by decide) ?_
              refine z_iload_n C dX5_of_95 rfl 1 rfl ?_
              refine z_iadd C dX5_of_96 ?_
              obtain ⟨c8, h⟩ := chk_some h
              refine z_iald C 1 rfl c8 dX5_of_97 ?_
              obtain rfl := Option.some.inj h
              exact z_iret (v := t_told ((4 : Int32) + a1).toNatClampNeg) C hr dX5_of_98
            · replace h := (if_neg e3).symm.trans h
              have g0 := lv_neT (a := 0) e0 (by decide)
              have g1 := lv_neT (a := 1) e1 (by decide)
              have g2 := lv_neT (a := 2) e2 (by decide)
              have g3 := lv_neT (a := 3) e3 (by decide)
              refine z_tabOut (tgt := 99) C dX5_of_28 (by omega) (by decide) ?_
              refine z_aload_n C dX5_of_99 rfl 0 rfl ?_
              refine z_get C inT_X5 0 rfl rfl 0 (by decide) rfl (mc W_673) rfl dX5_of_100 ?_
              refine z_bipush (v := (9 : Int32)) C dX5_of_103 (by decide) ?_
              refine z_iload_n C dX5_of_105 rfl 1 rfl ?_
              refine z_iadd C dX5_of_106 ?_
              obtain ⟨c9, h⟩ := chk_some h
              refine z_iald C 1 rfl c9 dX5_of_107 ?_
              obtain rfl := Option.some.inj h
              exact z_iret (v := t_told ((9 : Int32) + a1).toNatClampNeg) C hr dX5_of_108
    · replace h := (if_pos c).symm.trans h
      refine z_sub [0] (L' := [(0, .ref q_t)]) rfl ?_
      exact (l_X5_of_b20 F a1 a2 t_told C hr) t_refused h
def rm_X5_hour : Room := { frames := 2, cells := 0, slots := 0, locals := 50 }
theorem hd_X5_hour : yX5_hour.cls = yX5_hour.cls ∧ yX5_hour.cls ≠ "java/lang/invoke/MethodHandle" ∧ yX5_hour.cls ≠ "java/lang/invoke/VarHandle" ∧ (parseMethodDescriptor yX5_hour.desc).map (fun d => d.parameters.length) = some 3 := by decide +kernel
abbrev wsX5_hour : List Cond := .code yX5_hour cX5_hour 4 (some .int) :: WALL
set_option maxRecDepth 100000 in
set_option maxHeartbeats 4000000 in
theorem l_X5_hour_b27 {p : Program} {l : Launch} {e : Env} {s : State} {m : MethodId} {args : Array Value} {below : List Frame} {meth : Method} {c : Code} {E : zE} {A : Nat → Prop} {q_t q_t_told q_t_ahead q_t_gets q_t_refused q_t_kept q_t_isKept q_t_dayGets q_t_dayDue q_t_own q_t_ownGets q_t_bestOwn q_t_alone q_t_atMuch q_t_hand q_t_his q_t_its q_t_bytes q_t_anew q_t_values : Nat} {t_above : Int64} {t_below : Int64} {t_bytesLong : Int32} {t_tokenAt : Int32} {t_tokenLong : Int32} {t_token : Int32} {t_value : Int32} {t_takenHours : Int32} {o : Int32 × Int32 × (Nat → Int32) × (Nat → Int32) × (Nat → Int32)} (F : Nat) (a1 : Int32) (a2 : Int32) (a3 : Int32) (t_told : Nat → Int32) (C : zC p s m args c meth cX5_hour 4 RX5 wsX5_hour E A) (hr : meth.sig.returnType = some .int) : ∀  (t_leftBehind : Int32) (t_ahead : Nat → Int32) (t_gets : Nat → Int32) (t_refused : Nat → Int32), f_X5_hour_b27 F a1 a2 a3 t_told t_leftBehind t_ahead t_gets t_refused = some o → zG p l e rm_X5_hour s m args below meth c 4 E A 0 0 (MQ below (zQ E A (some (.int o.1)) [(q_t, .inr (4, [.ref q_t_told, .ref q_t_kept, .ref q_t_isKept, .ref q_t_refused, .long t_above, .long t_below, .ref q_t_gets, .ref q_t_ahead, .int o.2.1, .ref q_t_dayGets, .ref q_t_dayDue, .ref q_t_own, .ref q_t_ownGets, .ref q_t_bestOwn, .ref q_t_alone, .ref q_t_atMuch, .ref q_t_hand, .ref q_t_his, .ref q_t_its, .ref q_t_bytes, .int t_bytesLong, .int t_tokenAt, .int t_tokenLong, .int t_token, .int t_value, .ref q_t_anew, .ref q_t_values, .int t_takenHours])), (q_t_told, zI E 251 t_told), (q_t_ahead, zI E 5 o.2.2.1), (q_t_gets, zI E 5 o.2.2.2.1), (q_t_refused, zI E 3 o.2.2.2.2)]) args s 0 0 A) [(q_t, .inr (4, [.ref q_t_told, .ref q_t_kept, .ref q_t_isKept, .ref q_t_refused, .long t_above, .long t_below, .ref q_t_gets, .ref q_t_ahead, .int t_leftBehind, .ref q_t_dayGets, .ref q_t_dayDue, .ref q_t_own, .ref q_t_ownGets, .ref q_t_bestOwn, .ref q_t_alone, .ref q_t_atMuch, .ref q_t_hand, .ref q_t_his, .ref q_t_its, .ref q_t_bytes, .int t_bytesLong, .int t_tokenAt, .int t_tokenLong, .int t_token, .int t_value, .ref q_t_anew, .ref q_t_values, .int t_takenHours])), (q_t_told, zI E 251 t_told), (q_t_ahead, zI E 5 t_ahead), (q_t_gets, zI E 5 t_gets), (q_t_refused, zI E 3 t_refused)] 27 [(0, .ref q_t)] [] := by
  intro t_leftBehind t_ahead t_gets t_refused h
  rw [f_X5_hour_b27] at h
  refine z_aload_n C dX5_hour_27 rfl 0 rfl ?_
  refine z_bipush (v := (-2 : Int32)) C dX5_hour_28 (by decide) ?_
  obtain ⟨o14, ho15, h⟩ := bnd_some h
  refine z_callV (wc := [(q_t, .inr (4, [.ref q_t_told, .ref q_t_kept, .ref q_t_isKept, .ref q_t_refused, .long t_above, .long t_below, .ref q_t_gets, .ref q_t_ahead, .int t_leftBehind, .ref q_t_dayGets, .ref q_t_dayDue, .ref q_t_own, .ref q_t_ownGets, .ref q_t_bestOwn, .ref q_t_alone, .ref q_t_atMuch, .ref q_t_hand, .ref q_t_his, .ref q_t_its, .ref q_t_bytes, .int t_bytesLong, .int t_tokenAt, .int t_tokenLong, .int t_token, .int t_value, .ref q_t_anew, .ref q_t_values, .int t_takenHours])), (q_t_refused, zI E 3 t_refused)]) (wr := [(q_t_told, zI E 251 t_told), (q_t_ahead, zI E 5 t_ahead), (q_t_gets, zI E 5 t_gets)]) (wc' := [(q_t, .inr (4, [.ref q_t_told, .ref q_t_kept, .ref q_t_isKept, .ref q_t_refused, .long t_above, .long t_below, .ref q_t_gets, .ref q_t_ahead, .int t_leftBehind, .ref q_t_dayGets, .ref q_t_dayDue, .ref q_t_own, .ref q_t_ownGets, .ref q_t_bestOwn, .ref q_t_alone, .ref q_t_atMuch, .ref q_t_hand, .ref q_t_his, .ref q_t_its, .ref q_t_bytes, .int t_bytesLong, .int t_tokenAt, .int t_tokenLong, .int t_token, .int t_value, .ref q_t_anew, .ref q_t_values, .int t_takenHours])), (q_t_refused, zI E 3 o14.2)]) (ws2 := [(q_t, .inr (4, [.ref q_t_told, .ref q_t_kept, .ref q_t_isKept, .ref q_t_refused, .long t_above, .long t_below, .ref q_t_gets, .ref q_t_ahead, .int t_leftBehind, .ref q_t_dayGets, .ref q_t_dayDue, .ref q_t_own, .ref q_t_ownGets, .ref q_t_bestOwn, .ref q_t_alone, .ref q_t_atMuch, .ref q_t_hand, .ref q_t_his, .ref q_t_its, .ref q_t_bytes, .int t_bytesLong, .int t_tokenAt, .int t_tokenLong, .int t_token, .int t_value, .ref q_t_anew, .ref q_t_values, .int t_takenHours])), (q_t_told, zI E 251 t_told), (q_t_ahead, zI E 5 t_ahead), (q_t_gets, zI E 5 t_gets), (q_t_refused, zI E 3 o14.2)]) (As := [.int (-2 : Int32)]) (st2 := [.int o14.1]) C [0, 4] [1, 2, 3] [3, 0, 1, 2, 4] rfl rfl rfl rfl (by decide) rfl rfl (c_X5_bad F ho15) (goodVT consT W_770 W_772 W_27 W_62 W_773) rfl rfl rfl hd_X5_bad ⟨Nat.le_of_ble_eq_true rfl, Nat.le_of_ble_eq_true rfl⟩ rfl rfl rfl (j := 0) rfl rfl rfl (Nat.le_of_ble_eq_true rfl) dX5_hour_30 ⟨Nat.zero_le _, Nat.zero_le _⟩ ?_
  obtain rfl := Option.some.inj h
  exact z_iret (v := o14.1) C hr dX5_hour_33
set_option maxRecDepth 100000 in
set_option maxHeartbeats 4000000 in
theorem c_X5_hour {l : Launch} {E : zE} {q_t q_t_told q_t_ahead q_t_gets q_t_refused q_t_kept q_t_isKept q_t_dayGets q_t_dayDue q_t_own q_t_ownGets q_t_bestOwn q_t_alone q_t_atMuch q_t_hand q_t_his q_t_its q_t_bytes q_t_anew q_t_values : Nat} {t_above : Int64} {t_below : Int64} {t_bytesLong : Int32} {t_tokenAt : Int32} {t_tokenLong : Int32} {t_token : Int32} {t_value : Int32} {t_takenHours : Int32} {a1 : Int32} {a2 : Int32} {a3 : Int32} {t_told : Nat → Int32} {t_leftBehind : Int32} {t_ahead : Nat → Int32} {t_gets : Nat → Int32} {t_refused : Nat → Int32} {o : Int32 × Int32 × (Nat → Int32) × (Nat → Int32) × (Nat → Int32)} (F : Nat) (h : f_X5_hour F a1 a2 a3 t_told t_leftBehind t_ahead t_gets t_refused = some o) : zM l yX5_hour wsX5_hour rm_X5_hour E [.ref q_t, .int a1, .int a2, .int a3] [(q_t, .inr (4, [.ref q_t_told, .ref q_t_kept, .ref q_t_isKept, .ref q_t_refused, .long t_above, .long t_below, .ref q_t_gets, .ref q_t_ahead, .int t_leftBehind, .ref q_t_dayGets, .ref q_t_dayDue, .ref q_t_own, .ref q_t_ownGets, .ref q_t_bestOwn, .ref q_t_alone, .ref q_t_atMuch, .ref q_t_hand, .ref q_t_his, .ref q_t_its, .ref q_t_bytes, .int t_bytesLong, .int t_tokenAt, .int t_tokenLong, .int t_token, .int t_value, .ref q_t_anew, .ref q_t_values, .int t_takenHours])), (q_t_told, zI E 251 t_told), (q_t_ahead, zI E 5 t_ahead), (q_t_gets, zI E 5 t_gets), (q_t_refused, zI E 3 t_refused)] (some (.int o.1)) [(q_t, .inr (4, [.ref q_t_told, .ref q_t_kept, .ref q_t_isKept, .ref q_t_refused, .long t_above, .long t_below, .ref q_t_gets, .ref q_t_ahead, .int o.2.1, .ref q_t_dayGets, .ref q_t_dayDue, .ref q_t_own, .ref q_t_ownGets, .ref q_t_bestOwn, .ref q_t_alone, .ref q_t_atMuch, .ref q_t_hand, .ref q_t_his, .ref q_t_its, .ref q_t_bytes, .int t_bytesLong, .int t_tokenAt, .int t_tokenLong, .int t_token, .int t_value, .ref q_t_anew, .ref q_t_values, .int t_takenHours])), (q_t_told, zI E 251 t_told), (q_t_ahead, zI E 5 o.2.2.1), (q_t_gets, zI E 5 o.2.2.2.1), (q_t_refused, zI E 3 o.2.2.2.2)] := by
  refine zM.of (cc := cX5_hour) (maxL := 4) (ret := (some .int)) (by decide +kernel) rfl (Nat.le_of_ble_eq_true rfl) ?_
  intro p e s m args below meth c A C hr
  have C : zC p s m args c meth cX5_hour 4 RX5 wsX5_hour E A := C
  rw [f_X5_hour] at h
  refine z_aload_n C dX5_hour_0 rfl 0 rfl ?_
  refine z_iload_n C dX5_hour_1 rfl 1 rfl ?_
  obtain ⟨o1, ho2, h⟩ := bnd_some h
  refine z_callV (wc := [(q_t, .inr (4, [.ref q_t_told, .ref q_t_kept, .ref q_t_isKept, .ref q_t_refused, .long t_above, .long t_below, .ref q_t_gets, .ref q_t_ahead, .int t_leftBehind, .ref q_t_dayGets, .ref q_t_dayDue, .ref q_t_own, .ref q_t_ownGets, .ref q_t_bestOwn, .ref q_t_alone, .ref q_t_atMuch, .ref q_t_hand, .ref q_t_his, .ref q_t_its, .ref q_t_bytes, .int t_bytesLong, .int t_tokenAt, .int t_tokenLong, .int t_token, .int t_value, .ref q_t_anew, .ref q_t_values, .int t_takenHours])), (q_t_told, zI E 251 t_told)]) (wr := [(q_t_ahead, zI E 5 t_ahead), (q_t_gets, zI E 5 t_gets), (q_t_refused, zI E 3 t_refused)]) (wc' := [(q_t, .inr (4, [.ref q_t_told, .ref q_t_kept, .ref q_t_isKept, .ref q_t_refused, .long t_above, .long t_below, .ref q_t_gets, .ref q_t_ahead, .int t_leftBehind, .ref q_t_dayGets, .ref q_t_dayDue, .ref q_t_own, .ref q_t_ownGets, .ref q_t_bestOwn, .ref q_t_alone, .ref q_t_atMuch, .ref q_t_hand, .ref q_t_his, .ref q_t_its, .ref q_t_bytes, .int t_bytesLong, .int t_tokenAt, .int t_tokenLong, .int t_token, .int t_value, .ref q_t_anew, .ref q_t_values, .int t_takenHours])), (q_t_told, zI E 251 t_told)]) (ws2 := [(q_t, .inr (4, [.ref q_t_told, .ref q_t_kept, .ref q_t_isKept, .ref q_t_refused, .long t_above, .long t_below, .ref q_t_gets, .ref q_t_ahead, .int t_leftBehind, .ref q_t_dayGets, .ref q_t_dayDue, .ref q_t_own, .ref q_t_ownGets, .ref q_t_bestOwn, .ref q_t_alone, .ref q_t_atMuch, .ref q_t_hand, .ref q_t_his, .ref q_t_its, .ref q_t_bytes, .int t_bytesLong, .int t_tokenAt, .int t_tokenLong, .int t_token, .int t_value, .ref q_t_anew, .ref q_t_values, .int t_takenHours])), (q_t_told, zI E 251 t_told), (q_t_ahead, zI E 5 t_ahead), (q_t_gets, zI E 5 t_gets), (q_t_refused, zI E 3 t_refused)]) (As := [.int a1]) (st2 := [.int o1]) C [0, 1] [2, 3, 4] [3, 4, 0, 1, 2] rfl rfl rfl rfl (by decide) rfl rfl (c_X5_isWell F ho2) (goodVT consT W_832 W_834 W_34 W_62 W_835) rfl rfl rfl hd_X5_isWell ⟨Nat.le_of_ble_eq_true rfl, Nat.le_of_ble_eq_true rfl⟩ rfl rfl rfl (j := 0) rfl rfl rfl (Nat.le_of_ble_eq_true rfl) dX5_hour_2 ⟨Nat.zero_le _, Nat.zero_le _⟩ ?_
  refine z_if_eq (tgt := 27) C dX5_hour_5 (by decide) (fun c => ?_) (fun c => ?_)
  · replace h := (if_pos c).symm.trans h
    refine z_sub [0] (L' := [(0, .ref q_t)]) rfl ?_
    exact (l_X5_hour_b27 F a1 a2 a3 t_told C hr) t_leftBehind t_ahead t_gets t_refused h
  · replace h := (if_neg c).symm.trans h
    refine z_iload_n C dX5_hour_8 rfl 2 rfl ?_
    obtain ⟨o3, ho4, h⟩ := bnd_some h
    refine z_callS (wc := []) (wr := [(q_t, .inr (4, [.ref q_t_told, .ref q_t_kept, .ref q_t_isKept, .ref q_t_refused, .long t_above, .long t_below, .ref q_t_gets, .ref q_t_ahead, .int t_leftBehind, .ref q_t_dayGets, .ref q_t_dayDue, .ref q_t_own, .ref q_t_ownGets, .ref q_t_bestOwn, .ref q_t_alone, .ref q_t_atMuch, .ref q_t_hand, .ref q_t_his, .ref q_t_its, .ref q_t_bytes, .int t_bytesLong, .int t_tokenAt, .int t_tokenLong, .int t_token, .int t_value, .ref q_t_anew, .ref q_t_values, .int t_takenHours])), (q_t_told, zI E 251 t_told), (q_t_ahead, zI E 5 t_ahead), (q_t_gets, zI E 5 t_gets), (q_t_refused, zI E 3 t_refused)]) (wc' := []) (ws2 := [(q_t, .inr (4, [.ref q_t_told, .ref q_t_kept, .ref q_t_isKept, .ref q_t_refused, .long t_above, .long t_below, .ref q_t_gets, .ref q_t_ahead, .int t_leftBehind, .ref q_t_dayGets, .ref q_t_dayDue, .ref q_t_own, .ref q_t_ownGets, .ref q_t_bestOwn, .ref q_t_alone, .ref q_t_atMuch, .ref q_t_hand, .ref q_t_his, .ref q_t_its, .ref q_t_bytes, .int t_bytesLong, .int t_tokenAt, .int t_tokenLong, .int t_token, .int t_value, .ref q_t_anew, .ref q_t_values, .int t_takenHours])), (q_t_told, zI E 251 t_told), (q_t_ahead, zI E 5 t_ahead), (q_t_gets, zI E 5 t_gets), (q_t_refused, zI E 3 t_refused)]) (As := [.int a2]) (st2 := [.int o3]) C [] [0, 1, 2, 3, 4] [0, 1, 2, 3, 4] rfl rfl rfl rfl (by decide) rfl rfl (c_X5_isHour F ho4) (goodST consT W_861 W_862 W_62 W_863) rfl rfl rfl hd_X5_isHour ⟨Nat.le_of_ble_eq_true rfl, Nat.le_of_ble_eq_true rfl⟩ rfl rfl rfl (Nat.le_of_ble_eq_true rfl) dX5_hour_9 ⟨Nat.zero_le _, Nat.zero_le _⟩ ?_
    refine z_if_eq (tgt := 27) C dX5_hour_12 (by decide) (fun c => ?_) (fun c => ?_)
    · replace h := (if_pos c).symm.trans h
      refine z_sub [0] (L' := [(0, .ref q_t)]) rfl ?_
      exact (l_X5_hour_b27 F a1 a2 a3 t_told C hr) t_leftBehind t_ahead t_gets t_refused h
    · replace h := (if_neg c).symm.trans h
      refine z_iload_n C dX5_hour_15 rfl 3 rfl ?_
      refine z_i2l C dX5_hour_16 ?_
      refine z_lconst (v := (0 : Int64)) C dX5_hour_17 (by decide) ?_
      refine z_ldc2 (v := (2 : Int64)) C dX5_hour_18 (mc W_865) ?_
      obtain ⟨o5, ho6, h⟩ := bnd_some h
      refine z_callS (wc := []) (wr := [(q_t, .inr (4, [.ref q_t_told, .ref q_t_kept, .ref q_t_isKept, .ref q_t_refused, .long t_above, .long t_below, .ref q_t_gets, .ref q_t_ahead, .int t_leftBehind, .ref q_t_dayGets, .ref q_t_dayDue, .ref q_t_own, .ref q_t_ownGets, .ref q_t_bestOwn, .ref q_t_alone, .ref q_t_atMuch, .ref q_t_hand, .ref q_t_his, .ref q_t_its, .ref q_t_bytes, .int t_bytesLong, .int t_tokenAt, .int t_tokenLong, .int t_token, .int t_value, .ref q_t_anew, .ref q_t_values, .int t_takenHours])), (q_t_told, zI E 251 t_told), (q_t_ahead, zI E 5 t_ahead), (q_t_gets, zI E 5 t_gets), (q_t_refused, zI E 3 t_refused)]) (wc' := []) (ws2 := [(q_t, .inr (4, [.ref q_t_told, .ref q_t_kept, .ref q_t_isKept, .ref q_t_refused, .long t_above, .long t_below, .ref q_t_gets, .ref q_t_ahead, .int t_leftBehind, .ref q_t_dayGets, .ref q_t_dayDue, .ref q_t_own, .ref q_t_ownGets, .ref q_t_bestOwn, .ref q_t_alone, .ref q_t_atMuch, .ref q_t_hand, .ref q_t_his, .ref q_t_its, .ref q_t_bytes, .int t_bytesLong, .int t_tokenAt, .int t_tokenLong, .int t_token, .int t_value, .ref q_t_anew, .ref q_t_values, .int t_takenHours])), (q_t_told, zI E 251 t_told), (q_t_ahead, zI E 5 t_ahead), (q_t_gets, zI E 5 t_gets), (q_t_refused, zI E 3 t_refused)]) (As := [.long a3.toInt64, .long (0 : Int64), .long (2 : Int64)]) (st2 := [.int o5]) C [] [0, 1, 2, 3, 4] [0, 1, 2, 3, 4] rfl rfl rfl rfl (by decide) rfl rfl (c_X5_in F ho6) (goodST consT W_767 W_768 W_62 W_769) rfl rfl rfl hd_X5_in ⟨Nat.le_of_ble_eq_true rfl, Nat.le_of_ble_eq_true rfl⟩ rfl rfl rfl (Nat.le_of_ble_eq_true rfl) dX5_hour_21 ⟨Nat.zero_le _, Nat.zero_le _⟩ ?_
      refine z_if_ne (tgt := 34) C dX5_hour_24 (by decide) (fun c => ?_) (fun c => ?_)
      · replace h := (if_neg c).symm.trans h
        refine z_aload_n C dX5_hour_34 rfl 0 rfl ?_
        refine z_aload_n C dX5_hour_35 rfl 0 rfl ?_
        refine z_get C inT_X5 0 rfl rfl 0 (by decide) rfl (mc W_673) rfl dX5_hour_36 ?_
        refine z_iload_n C dX5_hour_39 rfl 2 rfl ?_
        refine z_aload_n C dX5_hour_40 rfl 0 rfl ?_
        refine z_get C inT_X5 0 rfl rfl 0 (by decide) rfl (mc W_673) rfl dX5_hour_41 ?_
        refine z_bipush (v := (24 : Int32)) C dX5_hour_44 (by decide) ?_
        obtain ⟨c7, h⟩ := chk_some h
        refine z_iald C 1 rfl c7 dX5_hour_46 ?_
        refine z_aload_n C dX5_hour_47 rfl 0 rfl ?_
        refine z_get C inT_X5 0 rfl rfl 0 (by decide) rfl (mc W_673) rfl dX5_hour_48 ?_
        refine z_iload_n C dX5_hour_51 rfl 2 rfl ?_
        obtain ⟨o8, ho9, h⟩ := bnd_some h
        refine z_callS (wc := [(q_t_told, zI E 251 t_told)]) (wr := [(q_t, .inr (4, [.ref q_t_told, .ref q_t_kept, .ref q_t_isKept, .ref q_t_refused, .long t_above, .long t_below, .ref q_t_gets, .ref q_t_ahead, .int t_leftBehind, .ref q_t_dayGets, .ref q_t_dayDue, .ref q_t_own, .ref q_t_ownGets, .ref q_t_bestOwn, .ref q_t_alone, .ref q_t_atMuch, .ref q_t_hand, .ref q_t_his, .ref q_t_its, .ref q_t_bytes, .int t_bytesLong, .int t_tokenAt, .int t_tokenLong, .int t_token, .int t_value, .ref q_t_anew, .ref q_t_values, .int t_takenHours])), (q_t_ahead, zI E 5 t_ahead), (q_t_gets, zI E 5 t_gets), (q_t_refused, zI E 3 t_refused)]) (wc' := [(q_t_told, zI E 251 t_told)]) (ws2 := [(q_t, .inr (4, [.ref q_t_told, .ref q_t_kept, .ref q_t_isKept, .ref q_t_refused, .long t_above, .long t_below, .ref q_t_gets, .ref q_t_ahead, .int t_leftBehind, .ref q_t_dayGets, .ref q_t_dayDue, .ref q_t_own, .ref q_t_ownGets, .ref q_t_bestOwn, .ref q_t_alone, .ref q_t_atMuch, .ref q_t_hand, .ref q_t_his, .ref q_t_its, .ref q_t_bytes, .int t_bytesLong, .int t_tokenAt, .int t_tokenLong, .int t_token, .int t_value, .ref q_t_anew, .ref q_t_values, .int t_takenHours])), (q_t_told, zI E 251 t_told), (q_t_ahead, zI E 5 t_ahead), (q_t_gets, zI E 5 t_gets), (q_t_refused, zI E 3 t_refused)]) (As := [.ref q_t_told, .int a2]) (st2 := [.int o8, .int (t_told (24 : Int32).toNatClampNeg), .int a2, .ref q_t_told, .ref q_t]) C [1] [0, 2, 3, 4] [0, 4, 1, 2, 3] rfl rfl rfl rfl (by decide) rfl rfl (c_X5_openIn F ho9) (goodST consT W_812 W_813 W_62 W_814) rfl rfl rfl hd_X5_openIn ⟨Nat.le_of_ble_eq_true rfl, Nat.le_of_ble_eq_true rfl⟩ rfl rfl rfl (Nat.le_of_ble_eq_true rfl) dX5_hour_52 ⟨Nat.zero_le _, Nat.zero_le _⟩ ?_
        obtain ⟨o10, ho11, h⟩ := bnd_some h
        refine z_callV (wc := [(q_t, .inr (4, [.ref q_t_told, .ref q_t_kept, .ref q_t_isKept, .ref q_t_refused, .long t_above, .long t_below, .ref q_t_gets, .ref q_t_ahead, .int t_leftBehind, .ref q_t_dayGets, .ref q_t_dayDue, .ref q_t_own, .ref q_t_ownGets, .ref q_t_bestOwn, .ref q_t_alone, .ref q_t_atMuch, .ref q_t_hand, .ref q_t_his, .ref q_t_its, .ref q_t_bytes, .int t_bytesLong, .int t_tokenAt, .int t_tokenLong, .int t_token, .int t_value, .ref q_t_anew, .ref q_t_values, .int t_takenHours])), (q_t_told, zI E 251 t_told), (q_t_ahead, zI E 5 t_ahead), (q_t_gets, zI E 5 t_gets)]) (wr := [(q_t_refused, zI E 3 t_refused)]) (wc' := [(q_t, .inr (4, [.ref q_t_told, .ref q_t_kept, .ref q_t_isKept, .ref q_t_refused, .long t_above, .long t_below, .ref q_t_gets, .ref q_t_ahead, .int o10.1, .ref q_t_dayGets, .ref q_t_dayDue, .ref q_t_own, .ref q_t_ownGets, .ref q_t_bestOwn, .ref q_t_alone, .ref q_t_atMuch, .ref q_t_hand, .ref q_t_his, .ref q_t_its, .ref q_t_bytes, .int t_bytesLong, .int t_tokenAt, .int t_tokenLong, .int t_token, .int t_value, .ref q_t_anew, .ref q_t_values, .int t_takenHours])), (q_t_told, zI E 251 t_told), (q_t_ahead, zI E 5 o10.2.1), (q_t_gets, zI E 5 o10.2.2)]) (ws2 := [(q_t, .inr (4, [.ref q_t_told, .ref q_t_kept, .ref q_t_isKept, .ref q_t_refused, .long t_above, .long t_below, .ref q_t_gets, .ref q_t_ahead, .int o10.1, .ref q_t_dayGets, .ref q_t_dayDue, .ref q_t_own, .ref q_t_ownGets, .ref q_t_bestOwn, .ref q_t_alone, .ref q_t_atMuch, .ref q_t_hand, .ref q_t_his, .ref q_t_its, .ref q_t_bytes, .int t_bytesLong, .int t_tokenAt, .int t_tokenLong, .int t_token, .int t_value, .ref q_t_anew, .ref q_t_values, .int t_takenHours])), (q_t_told, zI E 251 t_told), (q_t_ahead, zI E 5 o10.2.1), (q_t_gets, zI E 5 o10.2.2), (q_t_refused, zI E 3 t_refused)]) (As := [.ref q_t_told, .int a2, .int (t_told (24 : Int32).toNatClampNeg), .int o8]) (st2 := []) C [0, 1, 2, 3] [4] [1, 2, 3, 4, 0] rfl rfl rfl rfl (by decide) rfl rfl (c_X5_goHour F ho11) (goodVT consT W_818 W_820 W_33 W_62 W_821) rfl rfl rfl hd_X5_goHour ⟨Nat.le_of_ble_eq_true rfl, Nat.le_of_ble_eq_true rfl⟩ rfl rfl rfl (j := 0) rfl rfl rfl (Nat.le_of_ble_eq_true rfl) dX5_hour_55 ⟨Nat.zero_le _, Nat.zero_le _⟩ ?_
        refine z_iload_n C dX5_hour_58 rfl 3 rfl ?_
        refine z_if_ne (tgt := 71) C dX5_hour_59 (by decide) (fun c => ?_) (fun c => ?_)
        · replace h := (if_neg c).symm.trans h
          refine z_iload_n C dX5_hour_71 rfl 3 rfl ?_
          refine z_iconst (v := (1 : Int32)) C dX5_hour_72 (by decide) ?_
          refine z_icmp_ne (tgt := 85) C dX5_hour_73 (by decide) (fun c => ?_) (fun c => ?_)
          · replace h := (if_neg c).symm.trans h
            refine z_aload_n C dX5_hour_85 rfl 0 rfl ?_
            refine z_get C inT_X5 0 rfl rfl 8 (by decide) rfl (mc W_681) rfl dX5_hour_86 ?_
            obtain rfl := Option.some.inj h
            exact z_iret (v := o10.1) C hr dX5_hour_89
          · replace h := (if_pos c).symm.trans h
            refine z_aload_n C dX5_hour_76 rfl 0 rfl ?_
            refine z_get C inT_X5 0 rfl rfl 7 (by decide) rfl (mc W_680) rfl dX5_hour_77 ?_
            refine z_iload_n C dX5_hour_80 rfl 1 rfl ?_
            obtain ⟨c12, h⟩ := chk_some h
            refine z_iald C 2 rfl c12 dX5_hour_81 ?_
            refine z_goto (tgt := 89) C dX5_hour_82 (by decide) ?_
            obtain rfl := Option.some.inj h
            exact z_iret (v := o10.2.1 a1.toNatClampNeg) C hr dX5_hour_89
        · replace h := (if_pos c).symm.trans h
          refine z_aload_n C dX5_hour_62 rfl 0 rfl ?_
          refine z_get C inT_X5 0 rfl rfl 6 (by decide) rfl (mc W_679) rfl dX5_hour_63 ?_
          refine z_iload_n C dX5_hour_66 rfl 1 rfl ?_
          obtain ⟨c13, h⟩ := chk_some h
          refine z_iald C 3 rfl c13 dX5_hour_67 ?_
          refine z_goto (tgt := 89) C dX5_hour_68 (by decide) ?_
          obtain rfl := Option.some.inj h
          exact z_iret (v := o10.2.2 a1.toNatClampNeg) C hr dX5_hour_89
      · replace h := (if_pos c).symm.trans h
        refine z_sub [0] (L' := [(0, .ref q_t)]) rfl ?_
        exact (l_X5_hour_b27 F a1 a2 a3 t_told C hr) t_leftBehind t_ahead t_gets t_refused h

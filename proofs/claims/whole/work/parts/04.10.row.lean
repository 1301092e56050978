def rm_X5_in : Room := { frames := 0, cells := 0, slots := 0, locals := 0 }
theorem hd_X5_in : yX5_in.cls ≠ "java/lang/invoke/MethodHandle" ∧ yX5_in.cls ≠ "java/lang/invoke/VarHandle" ∧ (parseMethodDescriptor yX5_in.desc).map (fun d => d.parameters.length) = some 3 := by decide +kernel
abbrev wsX5_in : List Cond := .code yX5_in cX5_in 6 (some .boolean) :: WALL
set_option maxRecDepth 100000 in
set_option maxHeartbeats 4000000 in
theorem c_X5_in {l : Launch} {E : zE} {a0 : Int64} {a2 : Int64} {a4 : Int64} {o : Int32} (F : Nat) (h : f_X5_in F a0 a2 a4 = some o) : zM l yX5_in wsX5_in rm_X5_in E [.long a0, .long a2, .long a4] [] (some (.int o)) [] := by
  refine zM.of (cc := cX5_in) (maxL := 6) (ret := (some .boolean)) (by decide +kernel) rfl (Nat.le_of_ble_eq_true rfl) ?_
  intro p e s m args below meth c A C hr
  have C : zC p s m args c meth cX5_in 6 RX5 wsX5_in E A := C
  rw [f_X5_in] at h
  refine z_lload_n C dX5_in_0 rfl 0 rfl ?_
  refine z_lload_n C dX5_in_1 rfl 1 rfl ?_
  refine z_lcmp C dX5_in_2 ?_
  refine z_if_lt (tgt := 17) C dX5_in_3 (by decide) (fun c => ?_) (fun c => ?_)
  · replace h := (if_pos c).symm.trans h
    refine z_iconst (v := (0 : Int32)) C dX5_in_17 (by decide) ?_
    obtain rfl := Option.some.inj h
    exact z_zret (v := (0 : Int32)) C hr rfl dX5_in_18
  · replace h := (if_neg c).symm.trans h
    refine z_lload_n C dX5_in_6 rfl 0 rfl ?_
    refine z_lload C dX5_in_7 2 rfl ?_
    refine z_lcmp C dX5_in_9 ?_
    refine z_if_gt (tgt := 17) C dX5_in_10 (by decide) (fun c => ?_) (fun c => ?_)
    · replace h := (if_pos c).symm.trans h
      refine z_iconst (v := (0 : Int32)) C dX5_in_17 (by decide) ?_
      obtain rfl := Option.some.inj h
      exact z_zret (v := (0 : Int32)) C hr rfl dX5_in_18
    · replace h := (if_neg c).symm.trans h
      refine z_iconst (v := (1 : Int32)) C dX5_in_13 (by decide) ?_
      refine z_goto (tgt := 18) C dX5_in_14 (by decide) ?_
      obtain rfl := Option.some.inj h
      exact z_zret (v := (1 : Int32)) C hr rfl dX5_in_18
def rm_X5_bad : Room := { frames := 0, cells := 0, slots := 0, locals := 0 }
theorem hd_X5_bad : yX5_bad.cls = yX5_bad.cls ∧ yX5_bad.cls ≠ "java/lang/invoke/MethodHandle" ∧ yX5_bad.cls ≠ "java/lang/invoke/VarHandle" ∧ (parseMethodDescriptor yX5_bad.desc).map (fun d => d.parameters.length) = some 1 := by decide +kernel
abbrev wsX5_bad : List Cond := .code yX5_bad cX5_bad 2 (some .int) :: WALL
set_option maxRecDepth 100000 in
set_option maxHeartbeats 4000000 in
theorem c_X5_bad {l : Launch} {E : zE} {q_t q_t_refused q_t_told q_t_kept q_t_isKept q_t_gets q_t_ahead q_t_dayGets q_t_dayDue q_t_own q_t_ownGets q_t_bestOwn q_t_alone q_t_atMuch q_t_hand q_t_his q_t_its q_t_bytes q_t_anew q_t_values : Nat} {t_above : Int64} {t_below : Int64} {t_leftBehind : Int32} {t_bytesLong : Int32} {t_tokenAt : Int32} {t_tokenLong : Int32} {t_token : Int32} {t_value : Int32} {t_takenHours : Int32} {a1 : Int32} {t_refused : Nat → Int32} {o : Int32 × (Nat → Int32)} (F : Nat) (h : f_X5_bad F a1 t_refused = some o) : zM l yX5_bad wsX5_bad rm_X5_bad E [.ref q_t, .int a1] [(q_t, .inr (4, [.ref q_t_told, .ref q_t_kept, .ref q_t_isKept, .ref q_t_refused, .long t_above, .long t_below, .ref q_t_gets, .ref q_t_ahead, .int t_leftBehind, .ref q_t_dayGets, .ref q_t_dayDue, .ref q_t_own, .ref q_t_ownGets, .ref q_t_bestOwn, .ref q_t_alone, .ref q_t_atMuch, .ref q_t_hand, .ref q_t_his, .ref q_t_its, .ref q_t_bytes, .int t_bytesLong, .int t_tokenAt, .int t_tokenLong, .int t_token, .int t_value, .ref q_t_anew, .ref q_t_values, .int t_takenHours])), (q_t_refused, zI E 3 t_refused)] (some (.int o.1)) [(q_t, .inr (4, [.ref q_t_told, .ref q_t_kept, .ref q_t_isKept, .ref q_t_refused, .long t_above, .long t_below, .ref q_t_gets, .ref q_t_ahead, .int t_leftBehind, .ref q_t_dayGets, .ref q_t_dayDue, .ref q_t_own, .ref q_t_ownGets, .ref q_t_bestOwn, .ref q_t_alone, .ref q_t_atMuch, .ref q_t_hand, .ref q_t_his, .ref q_t_its, .ref q_t_bytes, .int t_bytesLong, .int t_tokenAt, .int t_tokenLong, .int t_token, .int t_value, .ref q_t_anew, .ref q_t_values, .int t_takenHours])), (q_t_refused, zI E 3 o.2)] := by
  refine zM.of (cc := cX5_bad) (maxL := 2) (ret := (some .int)) (by decide +kernel) rfl (Nat.le_of_ble_eq_true rfl) ?_
  intro p e s m args below meth c A C hr
  have C : zC p s m args c meth cX5_bad 2 RX5 wsX5_bad E A := C
  rw [f_X5_bad] at h
  refine z_aload_n C dX5_bad_0 rfl 0 rfl ?_
  refine z_get C inT_X5 0 rfl rfl 3 (by decide) rfl (mc W_676) rfl dX5_bad_1 ?_
  refine z_iconst (v := (0 : Int32)) C dX5_bad_4 (by decide) ?_
  refine z_dup2 C dX5_bad_5 rfl rfl ?_
  obtain ⟨c1, h⟩ := chk_some h
  refine z_iald C 1 rfl c1 dX5_bad_6 ?_
  refine z_iconst (v := (1 : Int32)) C dX5_bad_7 (by decide) ?_
  refine z_iadd C dX5_bad_8 ?_
  obtain ⟨c2, h⟩ := chk_some h
  refine z_iast (ws' := [(q_t, .inr (4, [.ref q_t_told, .ref q_t_kept, .ref q_t_isKept, .ref q_t_refused, .long t_above, .long t_below, .ref q_t_gets, .ref q_t_ahead, .int t_leftBehind, .ref q_t_dayGets, .ref q_t_dayDue, .ref q_t_own, .ref q_t_ownGets, .ref q_t_bestOwn, .ref q_t_alone, .ref q_t_atMuch, .ref q_t_hand, .ref q_t_his, .ref q_t_its, .ref q_t_bytes, .int t_bytesLong, .int t_tokenAt, .int t_tokenLong, .int t_token, .int t_value, .ref q_t_anew, .ref q_t_values, .int t_takenHours])), (q_t_refused, zI E 3 (upd t_refused (0 : Int32).toNatClampNeg ((t_refused (0 : Int32).toNatClampNeg) + (1 : Int32))))]) C 1 rfl c2 rfl dX5_bad_9 ?_
  refine z_iload_n C dX5_bad_10 rfl 1 rfl ?_
  obtain rfl := Option.some.inj h
  exact z_iret (v := a1) C hr dX5_bad_11
def rm_X5_no : Room := { frames := 0, cells := 0, slots := 0, locals := 0 }
theorem hd_X5_no : yX5_no.cls = yX5_no.cls ∧ yX5_no.cls ≠ "java/lang/invoke/MethodHandle" ∧ yX5_no.cls ≠ "java/lang/invoke/VarHandle" ∧ (parseMethodDescriptor yX5_no.desc).map (fun d => d.parameters.length) = some 0 := by decide +kernel
abbrev wsX5_no : List Cond := .code yX5_no cX5_no 1 (some .int) :: WALL
set_option maxRecDepth 100000 in
set_option maxHeartbeats 4000000 in
theorem c_X5_no {l : Launch} {E : zE} {q_t q_t_refused q_t_told q_t_kept q_t_isKept q_t_gets q_t_ahead q_t_dayGets q_t_dayDue q_t_own q_t_ownGets q_t_bestOwn q_t_alone q_t_atMuch q_t_hand q_t_his q_t_its q_t_bytes q_t_anew q_t_values : Nat} {t_above : Int64} {t_below : Int64} {t_leftBehind : Int32} {t_bytesLong : Int32} {t_tokenAt : Int32} {t_tokenLong : Int32} {t_token : Int32} {t_value : Int32} {t_takenHours : Int32} {t_refused : Nat → Int32} {o : Int32 × (Nat → Int32)} (F : Nat) (h : f_X5_no F t_refused = some o) : zM l yX5_no wsX5_no rm_X5_no E [.ref q_t] [(q_t, .inr (4, [.ref q_t_told, .ref q_t_kept, .ref q_t_isKept, .ref q_t_refused, .long t_above, .long t_below, .ref q_t_gets, .ref q_t_ahead, .int t_leftBehind, .ref q_t_dayGets, .ref q_t_dayDue, .ref q_t_own, .ref q_t_ownGets, .ref q_t_bestOwn, .ref q_t_alone, .ref q_t_atMuch, .ref q_t_hand, .ref q_t_his, .ref q_t_its, .ref q_t_bytes, .int t_bytesLong, .int t_tokenAt, .int t_tokenLong, .int t_token, .int t_value, .ref q_t_anew, .ref q_t_values, .int t_takenHours])), (q_t_refused, zI E 3 t_refused)] (some (.int o.1)) [(q_t, .inr (4, [.ref q_t_told, .ref q_t_kept, .ref q_t_isKept, .ref q_t_refused, .long t_above, .long t_below, .ref q_t_gets, .ref q_t_ahead, .int t_leftBehind, .ref q_t_dayGets, .ref q_t_dayDue, .ref q_t_own, .ref q_t_ownGets, .ref q_t_bestOwn, .ref q_t_alone, .ref q_t_atMuch, .ref q_t_hand, .ref q_t_his, .ref q_t_its, .ref q_t_bytes, .int t_bytesLong, .int t_tokenAt, .int t_tokenLong, .int t_token, .int t_value, .ref q_t_anew, .ref q_t_values, .int t_takenHours])), (q_t_refused, zI E 3 o.2)] := by
  refine zM.of (cc := cX5_no) (maxL := 1) (ret := (some .int)) (by decide +kernel) rfl (Nat.le_of_ble_eq_true rfl) ?_
  intro p e s m args below meth c A C hr
  have C : zC p s m args c meth cX5_no 1 RX5 wsX5_no E A := C
  rw [f_X5_no] at h
  refine z_aload_n C dX5_no_0 rfl 0 rfl ?_
  refine z_get C inT_X5 0 rfl rfl 3 (by decide) rfl (mc W_676) rfl dX5_no_1 ?_
  refine z_iconst (v := (1 : Int32)) C dX5_no_4 (by decide) ?_
  refine z_dup2 C dX5_no_5 rfl rfl ?_
  obtain ⟨c1, h⟩ := chk_some h
  refine z_iald C 1 rfl c1 dX5_no_6 ?_
  refine z_iconst (v := (1 : Int32)) C dX5_no_7 (by decide) ?_
  refine z_iadd C dX5_no_8 ?_
  obtain ⟨c2, h⟩ := chk_some h
  refine z_iast (ws' := [(q_t, .inr (4, [.ref q_t_told, .ref q_t_kept, .ref q_t_isKept, .ref q_t_refused, .long t_above, .long t_below, .ref q_t_gets, .ref q_t_ahead, .int t_leftBehind, .ref q_t_dayGets, .ref q_t_dayDue, .ref q_t_own, .ref q_t_ownGets, .ref q_t_bestOwn, .ref q_t_alone, .ref q_t_atMuch, .ref q_t_hand, .ref q_t_his, .ref q_t_its, .ref q_t_bytes, .int t_bytesLong, .int t_tokenAt, .int t_tokenLong, .int t_token, .int t_value, .ref q_t_anew, .ref q_t_values, .int t_takenHours])), (q_t_refused, zI E 3 (upd t_refused (1 : Int32).toNatClampNeg ((t_refused (1 : Int32).toNatClampNeg) + (1 : Int32))))]) C 1 rfl c2 rfl dX5_no_9 ?_
  refine z_bipush (v := (-3 : Int32)) C dX5_no_10 (by decide) ?_
  obtain rfl := Option.some.inj h
  exact z_iret (v := (-3 : Int32)) C hr dX5_no_12
def rm_X5_full : Room := { frames := 0, cells := 0, slots := 0, locals := 0 }
theorem hd_X5_full : yX5_full.cls = yX5_full.cls ∧ yX5_full.cls ≠ "java/lang/invoke/MethodHandle" ∧ yX5_full.cls ≠ "java/lang/invoke/VarHandle" ∧ (parseMethodDescriptor yX5_full.desc).map (fun d => d.parameters.length) = some 0 := by decide +kernel
abbrev wsX5_full : List Cond := .code yX5_full cX5_full 1 (some .int) :: WALL
set_option maxRecDepth 100000 in
set_option maxHeartbeats 4000000 in
theorem c_X5_full {l : Launch} {E : zE} {q_t q_t_refused q_t_told q_t_kept q_t_isKept q_t_gets q_t_ahead q_t_dayGets q_t_dayDue q_t_own q_t_ownGets q_t_bestOwn q_t_alone q_t_atMuch q_t_hand q_t_his q_t_its q_t_bytes q_t_anew q_t_values : Nat} {t_above : Int64} {t_below : Int64} {t_leftBehind : Int32} {t_bytesLong : Int32} {t_tokenAt : Int32} {t_tokenLong : Int32} {t_token : Int32} {t_value : Int32} {t_takenHours : Int32} {t_refused : Nat → Int32} {o : Int32 × (Nat → Int32)} (F : Nat) (h : f_X5_full F t_refused = some o) : zM l yX5_full wsX5_full rm_X5_full E [.ref q_t] [(q_t, .inr (4, [.ref q_t_told, .ref q_t_kept, .ref q_t_isKept, .ref q_t_refused, .long t_above, .long t_below, .ref q_t_gets, .ref q_t_ahead, .int t_leftBehind, .ref q_t_dayGets, .ref q_t_dayDue, .ref q_t_own, .ref q_t_ownGets, .ref q_t_bestOwn, .ref q_t_alone, .ref q_t_atMuch, .ref q_t_hand, .ref q_t_his, .ref q_t_its, .ref q_t_bytes, .int t_bytesLong, .int t_tokenAt, .int t_tokenLong, .int t_token, .int t_value, .ref q_t_anew, .ref q_t_values, .int t_takenHours])), (q_t_refused, zI E 3 t_refused)] (some (.int o.1)) [(q_t, .inr (4, [.ref q_t_told, .ref q_t_kept, .ref q_t_isKept, .ref q_t_refused, .long t_above, .long t_below, .ref q_t_gets, .ref q_t_ahead, .int t_leftBehind, .ref q_t_dayGets, .ref q_t_dayDue, .ref q_t_own, .ref q_t_ownGets, .ref q_t_bestOwn, .ref q_t_alone, .ref q_t_atMuch, .ref q_t_hand, .ref q_t_his, .ref q_t_its, .ref q_t_bytes, .int t_bytesLong, .int t_tokenAt, .int t_tokenLong, .int t_token, .int t_value, .ref q_t_anew, .ref q_t_values, .int t_takenHours])), (q_t_refused, zI E 3 o.2)] := by
  refine zM.of (cc := cX5_full) (maxL := 1) (ret := (some .int)) (by decide +kernel) rfl (Nat.le_of_ble_eq_true rfl) ?_
  intro p e s m args below meth c A C hr
  have C : zC p s m args c meth cX5_full 1 RX5 wsX5_full E A := C
  rw [f_X5_full] at h
  refine z_aload_n C dX5_full_0 rfl 0 rfl ?_
  refine z_get C inT_X5 0 rfl rfl 3 (by decide) rfl (mc W_676) rfl dX5_full_1 ?_
  refine z_iconst (v := (2 : Int32)) C dX5_full_4 (by decide) ?_
  refine z_dup2 C dX5_full_5 rfl rfl ?_
  obtain ⟨c1, h⟩ := chk_some h
  refine z_iald C 1 rfl c1 dX5_full_6 ?_
  refine z_iconst (v := (1 : Int32)) C dX5_full_7 (by decide) ?_
  refine z_iadd C dX5_full_8 ?_
  obtain ⟨c2, h⟩ := chk_some h
  refine z_iast (ws' := [(q_t, .inr (4, [.ref q_t_told, .ref q_t_kept, .ref q_t_isKept, .ref q_t_refused, .long t_above, .long t_below, .ref q_t_gets, .ref q_t_ahead, .int t_leftBehind, .ref q_t_dayGets, .ref q_t_dayDue, .ref q_t_own, .ref q_t_ownGets, .ref q_t_bestOwn, .ref q_t_alone, .ref q_t_atMuch, .ref q_t_hand, .ref q_t_his, .ref q_t_its, .ref q_t_bytes, .int t_bytesLong, .int t_tokenAt, .int t_tokenLong, .int t_token, .int t_value, .ref q_t_anew, .ref q_t_values, .int t_takenHours])), (q_t_refused, zI E 3 (upd t_refused (2 : Int32).toNatClampNeg ((t_refused (2 : Int32).toNatClampNeg) + (1 : Int32))))]) C 1 rfl c2 rfl dX5_full_9 ?_
  refine z_bipush (v := (-4 : Int32)) C dX5_full_10 (by decide) ?_
  obtain rfl := Option.some.inj h
  exact z_iret (v := (-4 : Int32)) C hr dX5_full_12
def rm_X5_has : Room := { frames := 0, cells := 0, slots := 0, locals := 0 }
theorem hd_X5_has : yX5_has.cls ≠ "java/lang/invoke/MethodHandle" ∧ yX5_has.cls ≠ "java/lang/invoke/VarHandle" ∧ (parseMethodDescriptor yX5_has.desc).map (fun d => d.parameters.length) = some 2 := by decide +kernel
abbrev wsX5_has : List Cond := .code yX5_has cX5_has 2 (some .boolean) :: WALL
set_option maxRecDepth 100000 in
set_option maxHeartbeats 4000000 in
theorem c_X5_has {l : Launch} {E : zE} {a0 : Int32} {a1 : Int32} {o : Int32} (F : Nat) (h : f_X5_has F a0 a1 = some o) : zM l yX5_has wsX5_has rm_X5_has E [.int a0, .int a1] [] (some (.int o)) [] := by
  refine zM.of (cc := cX5_has) (maxL := 2) (ret := (some .boolean)) (by decide +kernel) rfl (Nat.le_of_ble_eq_true rfl) ?_
  intro p e s m args below meth c A C hr
  have C : zC p s m args c meth cX5_has 2 RX5 wsX5_has E A := C
  rw [f_X5_has] at h
  refine z_iload_n C dX5_has_0 rfl 0 rfl ?_
  refine z_iload_n C dX5_has_1 rfl 1 rfl ?_
  refine z_ishr C dX5_has_2 ?_
  refine z_iconst (v := (1 : Int32)) C dX5_has_3 (by decide) ?_
  refine z_iand C dX5_has_4 ?_
  refine z_iconst (v := (1 : Int32)) C dX5_has_5 (by decide) ?_
  refine z_icmp_ne (tgt := 13) C dX5_has_6 (by decide) (fun c => ?_) (fun c => ?_)
  · replace h := (if_neg c).symm.trans h
    refine z_iconst (v := (0 : Int32)) C dX5_has_13 (by decide) ?_
    obtain rfl := Option.some.inj h
    exact z_zret (v := (0 : Int32)) C hr rfl dX5_has_14
  · replace h := (if_pos c).symm.trans h
    refine z_iconst (v := (1 : Int32)) C dX5_has_9 (by decide) ?_
    refine z_goto (tgt := 14) C dX5_has_10 (by decide) ?_
    obtain rfl := Option.some.inj h
    exact z_zret (v := (1 : Int32)) C hr rfl dX5_has_14
def rm_X5_begin : Room := { frames := 0, cells := 0, slots := 0, locals := 0 }
theorem hd_X5_begin : yX5_begin.cls ≠ "java/lang/invoke/MethodHandle" ∧ yX5_begin.cls ≠ "java/lang/invoke/VarHandle" ∧ (parseMethodDescriptor yX5_begin.desc).map (fun d => d.parameters.length) = some 2 := by decide +kernel
abbrev wsX5_begin : List Cond := .code yX5_begin cX5_begin 3 none :: WALL
set_option maxRecDepth 100000 in
set_option maxHeartbeats 4000000 in
theorem l_X5_begin_b2 {p : Program} {l : Launch} {e : Env} {s : State} {m : MethodId} {args : Array Value} {below : List Frame} {meth : Method} {c : Code} {E : zE} {A : Nat → Prop} {q_p0 : Nat} {o : (Nat → Int32)} (F : Nat) (n_p0 : Nat) (a1 : Int32) (C : zC p s m args c meth cX5_begin 3 RX5 wsX5_begin E A) (hr : meth.sig.returnType = none) : ∀ (n : Nat) (v2 : Int32) (p0 : Nat → Int32), f_X5_begin_b2 F n_p0 a1 n v2 p0 = some o → zG p l e rm_X5_begin s m args below meth c 3 E A 0 0 (MQ below (zQ E A none [(q_p0, zI E n_p0 o)]) args s 0 0 A) [(q_p0, zI E n_p0 p0)] 2 [(0, .ref q_p0), (1, .int a1), (2, .int v2)] [] := by
  intro n
  induction n with
  | zero =>
    intro v2 p0 h
    rw [f_X5_begin_b2] at h
    cases h
  | succ n ih =>
    intro v2 p0 h
    rw [f_X5_begin_b2] at h
    refine z_iload_n C dX5_begin_2 rfl 2 rfl ?_
    refine z_bipush (v := (75 : Int32)) C dX5_begin_3 (by decide) ?_
    refine z_icmp_ge (tgt := 18) C dX5_begin_5 (by decide) (fun c => ?_) (fun c => ?_)
    · replace h := (if_pos c).symm.trans h
      refine z_aload_n C dX5_begin_18 rfl 0 rfl ?_
      refine z_bipush (v := (24 : Int32)) C dX5_begin_19 (by decide) ?_
      refine z_iload_n C dX5_begin_21 rfl 1 rfl ?_
      obtain ⟨c1, h⟩ := chk_some h
      refine z_iast (ws' := [(q_p0, zI E n_p0 (upd p0 (24 : Int32).toNatClampNeg a1))]) C 0 rfl c1 rfl dX5_begin_22 ?_
      obtain rfl := Option.some.inj h
      exact z_vret C hr dX5_begin_23
    · replace h := (if_neg c).symm.trans h
      refine z_aload_n C dX5_begin_8 rfl 0 rfl ?_
      refine z_iload_n C dX5_begin_9 rfl 2 rfl ?_
      refine z_iconst (v := (0 : Int32)) C dX5_begin_10 (by decide) ?_
      obtain ⟨c2, h⟩ := chk_some h
      refine z_iast (ws' := [(q_p0, zI E n_p0 (upd p0 v2.toNatClampNeg (0 : Int32)))]) C 0 rfl c2 rfl dX5_begin_11 ?_
      refine z_iinc (v := v2 + (1 : Int32)) (L' := [(2, .int (v2 + (1 : Int32))), (0, .ref q_p0), (1, .int a1)]) C dX5_begin_12 2 rfl rfl (by decide) rfl ?_
      refine z_goto (tgt := 2) C dX5_begin_15 (by decide) ?_
      refine z_sub [1, 2, 0] (L' := [(0, .ref q_p0), (1, .int a1), (2, .int (v2 + (1 : Int32)))]) rfl ?_
      exact ih (v2 + (1 : Int32)) (upd p0 v2.toNatClampNeg (0 : Int32)) h
set_option maxRecDepth 100000 in
set_option maxHeartbeats 4000000 in
theorem c_X5_begin {l : Launch} {E : zE} {q_p0 : Nat} {n_p0 : Nat} {a1 : Int32} {p0 : Nat → Int32} {o : (Nat → Int32)} (F : Nat) (h : f_X5_begin F n_p0 a1 p0 = some o) : zM l yX5_begin wsX5_begin rm_X5_begin E [.ref q_p0, .int a1] [(q_p0, zI E n_p0 p0)] none [(q_p0, zI E n_p0 o)] := by
  refine zM.of (cc := cX5_begin) (maxL := 3) (ret := none) (by decide +kernel) rfl (Nat.le_of_ble_eq_true rfl) ?_
  intro p e s m args below meth c A C hr
  have C : zC p s m args c meth cX5_begin 3 RX5 wsX5_begin E A := C
  rw [f_X5_begin] at h
  refine z_iconst (v := (0 : Int32)) C dX5_begin_0 (by decide) ?_
  refine z_istore_n (L' := [(2, .int (0 : Int32)), (0, .ref q_p0), (1, .int a1)]) C dX5_begin_1 rfl (by decide) rfl ?_
  refine z_sub [1, 2, 0] (L' := [(0, .ref q_p0), (1, .int a1), (2, .int (0 : Int32))]) rfl ?_
  exact (l_X5_begin_b2 F n_p0 a1 C hr F) (0 : Int32) p0 h
def rm_X5_many : Room := { frames := 0, cells := 0, slots := 0, locals := 0 }
theorem hd_X5_many : yX5_many.cls = yX5_many.cls ∧ yX5_many.cls ≠ "java/lang/invoke/MethodHandle" ∧ yX5_many.cls ≠ "java/lang/invoke/VarHandle" ∧ (parseMethodDescriptor yX5_many.desc).map (fun d => d.parameters.length) = some 0 := by decide +kernel
abbrev wsX5_many : List Cond := .code yX5_many cX5_many 1 (some .int) :: WALL
set_option maxRecDepth 100000 in
set_option maxHeartbeats 4000000 in
theorem c_X5_many {l : Launch} {E : zE} {q_t q_t_told q_t_kept q_t_isKept q_t_refused q_t_gets q_t_ahead q_t_dayGets q_t_dayDue q_t_own q_t_ownGets q_t_bestOwn q_t_alone q_t_atMuch q_t_hand q_t_his q_t_its q_t_bytes q_t_anew q_t_values : Nat} {t_above : Int64} {t_below : Int64} {t_leftBehind : Int32} {t_bytesLong : Int32} {t_tokenAt : Int32} {t_tokenLong : Int32} {t_token : Int32} {t_value : Int32} {t_takenHours : Int32} {t_told : Nat → Int32} {o : Int32} (F : Nat) (h : f_X5_many F t_told = some o) : zM l yX5_many wsX5_many rm_X5_many E [.ref q_t] [(q_t, .inr (4, [.ref q_t_told, .ref q_t_kept, .ref q_t_isKept, .ref q_t_refused, .long t_above, .long t_below, .ref q_t_gets, .ref q_t_ahead, .int t_leftBehind, .ref q_t_dayGets, .ref q_t_dayDue, .ref q_t_own, .ref q_t_ownGets, .ref q_t_bestOwn, .ref q_t_alone, .ref q_t_atMuch, .ref q_t_hand, .ref q_t_his, .ref q_t_its, .ref q_t_bytes, .int t_bytesLong, .int t_tokenAt, .int t_tokenLong, .int t_token, .int t_value, .ref q_t_anew, .ref q_t_values, .int t_takenHours])), (q_t_told, zI E 251 t_told)] (some (.int o)) [(q_t, .inr (4, [.ref q_t_told, .ref q_t_kept, .ref q_t_isKept, .ref q_t_refused, .long t_above, .long t_below, .ref q_t_gets, .ref q_t_ahead, .int t_leftBehind, .ref q_t_dayGets, .ref q_t_dayDue, .ref q_t_own, .ref q_t_ownGets, .ref q_t_bestOwn, .ref q_t_alone, .ref q_t_atMuch, .ref q_t_hand, .ref q_t_his, .ref q_t_its, .ref q_t_bytes, .int t_bytesLong, .int t_tokenAt, .int t_tokenLong, .int t_token, .int t_value, .ref q_t_anew, .ref q_t_values, .int t_takenHours])), (q_t_told, zI E 251 t_told)] := by
  refine zM.of (cc := cX5_many) (maxL := 1) (ret := (some .int)) (by decide +kernel) rfl (Nat.le_of_ble_eq_true rfl) ?_
  intro p e s m args below meth c A C hr
  have C : zC p s m args c meth cX5_many 1 RX5 wsX5_many E A := C
  rw [f_X5_many] at h
  refine z_aload_n C dX5_many_0 rfl 0 rfl ?_
  refine z_get C inT_X5 0 rfl rfl 0 (by decide) rfl (mc W_673) rfl dX5_many_1 ?_
  refine z_iconst (v := (0 : Int32)) C dX5_many_4 (by decide) ?_
  obtain ⟨c1, h⟩ := chk_some h
  refine z_iald C 1 rfl c1 dX5_many_5 ?_
  obtain rfl := Option.some.inj h
  exact z_iret (v := t_told (0 : Int32).toNatClampNeg) C hr dX5_many_6
def rm_X5_isWell : Room := { frames := 1, cells := 0, slots := 0, locals := 25 }
theorem hd_X5_isWell : yX5_isWell.cls = yX5_isWell.cls ∧ yX5_isWell.cls ≠ "java/lang/invoke/MethodHandle" ∧ yX5_isWell.cls ≠ "java/lang/invoke/VarHandle" ∧ (parseMethodDescriptor yX5_isWell.desc).map (fun d => d.parameters.length) = some 1 := by decide +kernel
abbrev wsX5_isWell : List Cond := .code yX5_isWell cX5_isWell 2 (some .boolean) :: WALL
set_option maxRecDepth 100000 in
set_option maxHeartbeats 4000000 in
theorem c_X5_isWell {l : Launch} {E : zE} {q_t q_t_told q_t_kept q_t_isKept q_t_refused q_t_gets q_t_ahead q_t_dayGets q_t_dayDue q_t_own q_t_ownGets q_t_bestOwn q_t_alone q_t_atMuch q_t_hand q_t_his q_t_its q_t_bytes q_t_anew q_t_values : Nat} {t_above : Int64} {t_below : Int64} {t_leftBehind : Int32} {t_bytesLong : Int32} {t_tokenAt : Int32} {t_tokenLong : Int32} {t_token : Int32} {t_value : Int32} {t_takenHours : Int32} {a1 : Int32} {t_told : Nat → Int32} {o : Int32} (F : Nat) (h : f_X5_isWell F a1 t_told = some o) : zM l yX5_isWell wsX5_isWell rm_X5_isWell E [.ref q_t, .int a1] [(q_t, .inr (4, [.ref q_t_told, .ref q_t_kept, .ref q_t_isKept, .ref q_t_refused, .long t_above, .long t_below, .ref q_t_gets, .ref q_t_ahead, .int t_leftBehind, .ref q_t_dayGets, .ref q_t_dayDue, .ref q_t_own, .ref q_t_ownGets, .ref q_t_bestOwn, .ref q_t_alone, .ref q_t_atMuch, .ref q_t_hand, .ref q_t_his, .ref q_t_its, .ref q_t_bytes, .int t_bytesLong, .int t_tokenAt, .int t_tokenLong, .int t_token, .int t_value, .ref q_t_anew, .ref q_t_values, .int t_takenHours])), (q_t_told, zI E 251 t_told)] (some (.int o)) [(q_t, .inr (4, [.ref q_t_told, .ref q_t_kept, .ref q_t_isKept, .ref q_t_refused, .long t_above, .long t_below, .ref q_t_gets, .ref q_t_ahead, .int t_leftBehind, .ref q_t_dayGets, .ref q_t_dayDue, .ref q_t_own, .ref q_t_ownGets, .ref q_t_bestOwn, .ref q_t_alone, .ref q_t_atMuch, .ref q_t_hand, .ref q_t_his, .ref q_t_its, .ref q_t_bytes, .int t_bytesLong, .int t_tokenAt, .int t_tokenLong, .int t_token, .int t_value, .ref q_t_anew, .ref q_t_values, .int t_takenHours])), (q_t_told, zI E 251 t_told)] := by
  refine zM.of (cc := cX5_isWell) (maxL := 2) (ret := (some .boolean)) (by decide +kernel) rfl (Nat.le_of_ble_eq_true rfl) ?_
  intro p e s m args below meth c A C hr
  have C : zC p s m args c meth cX5_isWell 2 RX5 wsX5_isWell E A := C
  rw [f_X5_isWell] at h
  refine z_iload_n C dX5_isWell_0 rfl 1 rfl ?_
  refine z_i2l C dX5_isWell_1 ?_
  refine z_lconst (v := (0 : Int64)) C dX5_isWell_2 (by decide) ?_
  refine z_aload_n C dX5_isWell_3 rfl 0 rfl ?_
  obtain ⟨o1, ho2, h⟩ := bnd_some h
  refine z_callV (wc := [(q_t, .inr (4, [.ref q_t_told, .ref q_t_kept, .ref q_t_isKept, .ref q_t_refused, .long t_above, .long t_below, .ref q_t_gets, .ref q_t_ahead, .int t_leftBehind, .ref q_t_dayGets, .ref q_t_dayDue, .ref q_t_own, .ref q_t_ownGets, .ref q_t_bestOwn, .ref q_t_alone, .ref q_t_atMuch, .ref q_t_hand, .ref q_t_his, .ref q_t_its, .ref q_t_bytes, .int t_bytesLong, .int t_tokenAt, .int t_tokenLong, .int t_token, .int t_value, .ref q_t_anew, .ref q_t_values, .int t_takenHours])), (q_t_told, zI E 251 t_told)]) (wr := []) (wc' := [(q_t, .inr (4, [.ref q_t_told, .ref q_t_kept, .ref q_t_isKept, .ref q_t_refused, .long t_above, .long t_below, .ref q_t_gets, .ref q_t_ahead, .int t_leftBehind, .ref q_t_dayGets, .ref q_t_dayDue, .ref q_t_own, .ref q_t_ownGets, .ref q_t_bestOwn, .ref q_t_alone, .ref q_t_atMuch, .ref q_t_hand, .ref q_t_his, .ref q_t_its, .ref q_t_bytes, .int t_bytesLong, .int t_tokenAt, .int t_tokenLong, .int t_token, .int t_value, .ref q_t_anew, .ref q_t_values, .int t_takenHours])), (q_t_told, zI E 251 t_told)]) (ws2 := [(q_t, .inr (4, [.ref q_t_told, .ref q_t_kept, .ref q_t_isKept, .ref q_t_refused, .long t_above, .long t_below, .ref q_t_gets, .ref q_t_ahead, .int t_leftBehind, .ref q_t_dayGets, .ref q_t_dayDue, .ref q_t_own, .ref q_t_ownGets, .ref q_t_bestOwn, .ref q_t_alone, .ref q_t_atMuch, .ref q_t_hand, .ref q_t_his, .ref q_t_its, .ref q_t_bytes, .int t_bytesLong, .int t_tokenAt, .int t_tokenLong, .int t_token, .int t_value, .ref q_t_anew, .ref q_t_values, .int t_takenHours])), (q_t_told, zI E 251 t_told)]) (As := []) (st2 := [.int o1, .long (0 : Int64), .long a1.toInt64]) C [0, 1] [] [0, 1] rfl rfl rfl rfl (by decide) rfl rfl (c_X5_many F ho2) (goodVT consT W_774 W_776 W_28 W_62 W_777) rfl rfl rfl hd_X5_many ⟨Nat.le_of_ble_eq_true rfl, Nat.le_of_ble_eq_true rfl⟩ rfl rfl rfl (j := 0) rfl rfl rfl (Nat.le_of_ble_eq_true rfl) dX5_isWell_4 ⟨Nat.zero_le _, Nat.zero_le _⟩ ?_
  refine z_iconst (v := (1 : Int32)) C dX5_isWell_7 (by decide) ?_
  refine z_isub C dX5_isWell_8 ?_
  refine z_i2l C dX5_isWell_9 ?_
  obtain ⟨o3, ho4, h⟩ := bnd_some h
  refine z_callS (wc := []) (wr := [(q_t, .inr (4, [.ref q_t_told, .ref q_t_kept, .ref q_t_isKept, .ref q_t_refused, .long t_above, .long t_below, .ref q_t_gets, .ref q_t_ahead, .int t_leftBehind, .ref q_t_dayGets, .ref q_t_dayDue, .ref q_t_own, .ref q_t_ownGets, .ref q_t_bestOwn, .ref q_t_alone, .ref q_t_atMuch, .ref q_t_hand, .ref q_t_his, .ref q_t_its, .ref q_t_bytes, .int t_bytesLong, .int t_tokenAt, .int t_tokenLong, .int t_token, .int t_value, .ref q_t_anew, .ref q_t_values, .int t_takenHours])), (q_t_told, zI E 251 t_told)]) (wc' := []) (ws2 := [(q_t, .inr (4, [.ref q_t_told, .ref q_t_kept, .ref q_t_isKept, .ref q_t_refused, .long t_above, .long t_below, .ref q_t_gets, .ref q_t_ahead, .int t_leftBehind, .ref q_t_dayGets, .ref q_t_dayDue, .ref q_t_own, .ref q_t_ownGets, .ref q_t_bestOwn, .ref q_t_alone, .ref q_t_atMuch, .ref q_t_hand, .ref q_t_his, .ref q_t_its, .ref q_t_bytes, .int t_bytesLong, .int t_tokenAt, .int t_tokenLong, .int t_token, .int t_value, .ref q_t_anew, .ref q_t_values, .int t_takenHours])), (q_t_told, zI E 251 t_told)]) (As := [.long a1.toInt64, .long (0 : Int64), .long ((o1 - (1 : Int32)).toInt64)]) (st2 := [.int o3]) C [] [0, 1] [0, 1] rfl rfl rfl rfl (by decide) rfl rfl (c_X5_in F ho4) (goodST consT W_767 W_768 W_62 W_769) rfl rfl rfl hd_X5_in ⟨Nat.le_of_ble_eq_true rfl, Nat.le_of_ble_eq_true rfl⟩ rfl rfl rfl (Nat.le_of_ble_eq_true rfl) dX5_isWell_10 ⟨Nat.zero_le _, Nat.zero_le _⟩ ?_
  obtain ⟨c5, h⟩ := chk_some h
  obtain rfl := Option.some.inj h
  exact z_zret (v := o3) C hr (bo_n c5) dX5_isWell_13
def rm_X5_isHour : Room := { frames := 1, cells := 0, slots := 0, locals := 25 }
theorem hd_X5_isHour : yX5_isHour.cls ≠ "java/lang/invoke/MethodHandle" ∧ yX5_isHour.cls ≠ "java/lang/invoke/VarHandle" ∧ (parseMethodDescriptor yX5_isHour.desc).map (fun d => d.parameters.length) = some 1 := by decide +kernel
abbrev wsX5_isHour : List Cond := .code yX5_isHour cX5_isHour 1 (some .boolean) :: WALL
set_option maxRecDepth 100000 in
set_option maxHeartbeats 4000000 in
theorem c_X5_isHour {l : Launch} {E : zE} {a0 : Int32} {o : Int32} (F : Nat) (h : f_X5_isHour F a0 = some o) : zM l yX5_isHour wsX5_isHour rm_X5_isHour E [.int a0] [] (some (.int o)) [] := by
  refine zM.of (cc := cX5_isHour) (maxL := 1) (ret := (some .boolean)) (by decide +kernel) rfl (Nat.le_of_ble_eq_true rfl) ?_
  intro p e s m args below meth c A C hr
  have C : zC p s m args c meth cX5_isHour 1 RX5 wsX5_isHour E A := C
  rw [f_X5_isHour] at h
  refine z_iload_n C dX5_isHour_0 rfl 0 rfl ?_
  refine z_i2l C dX5_isHour_1 ?_
  refine z_lconst (v := (0 : Int64)) C dX5_isHour_2 (by decide) ?_
  refine z_ldc2 (v := (7 : Int64)) C dX5_isHour_3 (mc W_864) ?_
  obtain ⟨o1, ho2, h⟩ := bnd_some h
  refine z_callS (wc := []) (wr := []) (wc' := []) (ws2 := []) (As := [.long a0.toInt64, .long (0 : Int64), .long (7 : Int64)]) (st2 := [.int o1]) C [] [] [] rfl rfl rfl rfl (by decide) rfl rfl (c_X5_in F ho2) (goodST consT W_767 W_768 W_62 W_769) rfl rfl rfl hd_X5_in ⟨Nat.le_of_ble_eq_true rfl, Nat.le_of_ble_eq_true rfl⟩ rfl rfl rfl (Nat.le_of_ble_eq_true rfl) dX5_isHour_6 ⟨Nat.zero_le _, Nat.zero_le _⟩ ?_
  obtain ⟨c3, h⟩ := chk_some h
  obtain rfl := Option.some.inj h
  exact z_zret (v := o1) C hr (bo_n c3) dX5_isHour_9
def rm_X5_isPressure : Room := { frames := 1, cells := 0, slots := 0, locals := 25 }
theorem hd_X5_isPressure : yX5_isPressure.cls ≠ "java/lang/invoke/MethodHandle" ∧ yX5_isPressure.cls ≠ "java/lang/invoke/VarHandle" ∧ (parseMethodDescriptor yX5_isPressure.desc).map (fun d => d.parameters.length) = some 1 := by decide +kernel
abbrev wsX5_isPressure : List Cond := .code yX5_isPressure cX5_isPressure 1 (some .boolean) :: WALL
set_option maxRecDepth 100000 in
set_option maxHeartbeats 4000000 in
theorem c_X5_isPressure {l : Launch} {E : zE} {a0 : Int32} {o : Int32} (F : Nat) (h : f_X5_isPressure F a0 = some o) : zM l yX5_isPressure wsX5_isPressure rm_X5_isPressure E [.int a0] [] (some (.int o)) [] := by
  refine zM.of (cc := cX5_isPressure) (maxL := 1) (ret := (some .boolean)) (by decide +kernel) rfl (Nat.le_of_ble_eq_true rfl) ?_
  intro p e s m args below meth c A C hr
  have C : zC p s m args c meth cX5_isPressure 1 RX5 wsX5_isPressure E A := C
  rw [f_X5_isPressure] at h
  refine z_iload_n C dX5_isPressure_0 rfl 0 rfl ?_
  refine z_i2l C dX5_isPressure_1 ?_
  refine z_lconst (v := (0 : Int64)) C dX5_isPressure_2 (by decide) ?_
  refine z_ldc2 (v := (60 : Int64)) C dX5_isPressure_3 (mc W_766) ?_
  obtain ⟨o1, ho2, h⟩ := bnd_some h
  refine z_callS (wc := []) (wr := []) (wc' := []) (ws2 := []) (As := [.long a0.toInt64, .long (0 : Int64), .long (60 : Int64)]) (st2 := [.int o1]) C [] [] [] rfl rfl rfl rfl (by decide) rfl rfl (c_X5_in F ho2) (goodST consT W_767 W_768 W_62 W_769) rfl rfl rfl hd_X5_in ⟨Nat.le_of_ble_eq_true rfl, Nat.le_of_ble_eq_true rfl⟩ rfl rfl rfl (Nat.le_of_ble_eq_true rfl) dX5_isPressure_6 ⟨Nat.zero_le _, Nat.zero_le _⟩ ?_
  obtain ⟨c3, h⟩ := chk_some h
  obtain rfl := Option.some.inj h
  exact z_zret (v := o1) C hr (bo_n c3) dX5_isPressure_9
def rm_X5_isWanted : Room := { frames := 1, cells := 0, slots := 0, locals := 25 }
theorem hd_X5_isWanted : yX5_isWanted.cls ≠ "java/lang/invoke/MethodHandle" ∧ yX5_isWanted.cls ≠ "java/lang/invoke/VarHandle" ∧ (parseMethodDescriptor yX5_isWanted.desc).map (fun d => d.parameters.length) = some 1 := by decide +kernel
abbrev wsX5_isWanted : List Cond := .code yX5_isWanted cX5_isWanted 1 (some .boolean) :: WALL
set_option maxRecDepth 100000 in
set_option maxHeartbeats 4000000 in
theorem c_X5_isWanted {l : Launch} {E : zE} {a0 : Int32} {o : Int32} (F : Nat) (h : f_X5_isWanted F a0 = some o) : zM l yX5_isWanted wsX5_isWanted rm_X5_isWanted E [.int a0] [] (some (.int o)) [] := by
  refine zM.of (cc := cX5_isWanted) (maxL := 1) (ret := (some .boolean)) (by decide +kernel) rfl (Nat.le_of_ble_eq_true rfl) ?_
  intro p e s m args below meth c A C hr
  have C : zC p s m args c meth cX5_isWanted 1 RX5 wsX5_isWanted E A := C
  rw [f_X5_isWanted] at h
  refine z_iload_n C dX5_isWanted_0 rfl 0 rfl ?_
  refine z_i2l C dX5_isWanted_1 ?_
  refine z_lconst (v := (1 : Int64)) C dX5_isWanted_2 (by decide) ?_
  refine z_ldc2 (v := (20 : Int64)) C dX5_isWanted_3 (mc W_786) ?_
  obtain ⟨o1, ho2, h⟩ := bnd_some h
  refine z_callS (wc := []) (wr := []) (wc' := []) (ws2 := []) (As := [.long a0.toInt64, .long (1 : Int64), .long (20 : Int64)]) (st2 := [.int o1]) C [] [] [] rfl rfl rfl rfl (by decide) rfl rfl (c_X5_in F ho2) (goodST consT W_767 W_768 W_62 W_769) rfl rfl rfl hd_X5_in ⟨Nat.le_of_ble_eq_true rfl, Nat.le_of_ble_eq_true rfl⟩ rfl rfl rfl (Nat.le_of_ble_eq_true rfl) dX5_isWanted_6 ⟨Nat.zero_le _, Nat.zero_le _⟩ ?_
  obtain ⟨c3, h⟩ := chk_some h
  obtain rfl := Option.some.inj h
  exact z_zret (v := o1) C hr (bo_n c3) dX5_isWanted_9
def rm_X5_board : Room := { frames := 2, cells := 0, slots := 0, locals := 45 }
theorem hd_X5_board : yX5_board.cls = yX5_board.cls ∧ yX5_board.cls ≠ "java/lang/invoke/MethodHandle" ∧ yX5_board.cls ≠ "java/lang/invoke/VarHandle" ∧ (parseMethodDescriptor yX5_board.desc).map (fun d => d.parameters.length) = some 1 := by decide +kernel
abbrev wsX5_board : List Cond := .code yX5_board cX5_board 3 (some .int) :: WALL
set_option maxRecDepth 100000 in
set_option maxHeartbeats 4000000 in
theorem c_X5_board {l : Launch} {E : zE} {q_t q_t_told q_t_refused q_t_kept q_t_isKept q_t_gets q_t_ahead q_t_dayGets q_t_dayDue q_t_own q_t_ownGets q_t_bestOwn q_t_alone q_t_atMuch q_t_hand q_t_his q_t_its q_t_bytes q_t_anew q_t_values : Nat} {t_above : Int64} {t_below : Int64} {t_leftBehind : Int32} {t_bytesLong : Int32} {t_tokenAt : Int32} {t_tokenLong : Int32} {t_token : Int32} {t_value : Int32} {t_takenHours : Int32} {a1 : Int32} {t_told : Nat → Int32} {t_refused : Nat → Int32} {o : Int32 × (Nat → Int32) × (Nat → Int32)} (F : Nat) (h : f_X5_board F a1 t_told t_refused = some o) : zM l yX5_board wsX5_board rm_X5_board E [.ref q_t, .int a1] [(q_t, .inr (4, [.ref q_t_told, .ref q_t_kept, .ref q_t_isKept, .ref q_t_refused, .long t_above, .long t_below, .ref q_t_gets, .ref q_t_ahead, .int t_leftBehind, .ref q_t_dayGets, .ref q_t_dayDue, .ref q_t_own, .ref q_t_ownGets, .ref q_t_bestOwn, .ref q_t_alone, .ref q_t_atMuch, .ref q_t_hand, .ref q_t_his, .ref q_t_its, .ref q_t_bytes, .int t_bytesLong, .int t_tokenAt, .int t_tokenLong, .int t_token, .int t_value, .ref q_t_anew, .ref q_t_values, .int t_takenHours])), (q_t_told, zI E 251 t_told), (q_t_refused, zI E 3 t_refused)] (some (.int o.1)) [(q_t, .inr (4, [.ref q_t_told, .ref q_t_kept, .ref q_t_isKept, .ref q_t_refused, .long t_above, .long t_below, .ref q_t_gets, .ref q_t_ahead, .int t_leftBehind, .ref q_t_dayGets, .ref q_t_dayDue, .ref q_t_own, .ref q_t_ownGets, .ref q_t_bestOwn, .ref q_t_alone, .ref q_t_atMuch, .ref q_t_hand, .ref q_t_his, .ref q_t_its, .ref q_t_bytes, .int t_bytesLong, .int t_tokenAt, .int t_tokenLong, .int t_token, .int t_value, .ref q_t_anew, .ref q_t_values, .int t_takenHours])), (q_t_told, zI E 251 o.2.1), (q_t_refused, zI E 3 o.2.2)] := by
  refine zM.of (cc := cX5_board) (maxL := 3) (ret := (some .int)) (by decide +kernel) rfl (Nat.le_of_ble_eq_true rfl) ?_
  intro p e s m args below meth c A C hr
  have C : zC p s m args c meth cX5_board 3 RX5 wsX5_board E A := C
  rw [f_X5_board] at h
  refine z_iload_n C dX5_board_0 rfl 1 rfl ?_
  obtain ⟨o1, ho2, h⟩ := bnd_some h
  refine z_callS (wc := []) (wr := [(q_t, .inr (4, [.ref q_t_told, .ref q_t_kept, .ref q_t_isKept, .ref q_t_refused, .long t_above, .long t_below, .ref q_t_gets, .ref q_t_ahead, .int t_leftBehind, .ref q_t_dayGets, .ref q_t_dayDue, .ref q_t_own, .ref q_t_ownGets, .ref q_t_bestOwn, .ref q_t_alone, .ref q_t_atMuch, .ref q_t_hand, .ref q_t_his, .ref q_t_its, .ref q_t_bytes, .int t_bytesLong, .int t_tokenAt, .int t_tokenLong, .int t_token, .int t_value, .ref q_t_anew, .ref q_t_values, .int t_takenHours])), (q_t_told, zI E 251 t_told), (q_t_refused, zI E 3 t_refused)]) (wc' := []) (ws2 := [(q_t, .inr (4, [.ref q_t_told, .ref q_t_kept, .ref q_t_isKept, .ref q_t_refused, .long t_above, .long t_below, .ref q_t_gets, .ref q_t_ahead, .int t_leftBehind, .ref q_t_dayGets, .ref q_t_dayDue, .ref q_t_own, .ref q_t_ownGets, .ref q_t_bestOwn, .ref q_t_alone, .ref q_t_atMuch, .ref q_t_hand, .ref q_t_his, .ref q_t_its, .ref q_t_bytes, .int t_bytesLong, .int t_tokenAt, .int t_tokenLong, .int t_token, .int t_value, .ref q_t_anew, .ref q_t_values, .int t_takenHours])), (q_t_told, zI E 251 t_told), (q_t_refused, zI E 3 t_refused)]) (As := [.int a1]) (st2 := [.int o1]) C [] [0, 1, 2] [0, 1, 2] rfl rfl rfl rfl (by decide) rfl rfl (c_X5_isPressure F ho2) (goodST consT W_763 W_764 W_62 W_765) rfl rfl rfl hd_X5_isPressure ⟨Nat.le_of_ble_eq_true rfl, Nat.le_of_ble_eq_true rfl⟩ rfl rfl rfl (Nat.le_of_ble_eq_true rfl) dX5_board_1 ⟨Nat.zero_le _, Nat.zero_le _⟩ ?_
  refine z_if_ne (tgt := 14) C dX5_board_4 (by decide) (fun c => ?_) (fun c => ?_)
  · replace h := (if_neg c).symm.trans h
    refine z_aload_n C dX5_board_14 rfl 0 rfl ?_
    obtain ⟨o3, ho4, h⟩ := bnd_some h
    refine z_callV (wc := [(q_t, .inr (4, [.ref q_t_told, .ref q_t_kept, .ref q_t_isKept, .ref q_t_refused, .long t_above, .long t_below, .ref q_t_gets, .ref q_t_ahead, .int t_leftBehind, .ref q_t_dayGets, .ref q_t_dayDue, .ref q_t_own, .ref q_t_ownGets, .ref q_t_bestOwn, .ref q_t_alone, .ref q_t_atMuch, .ref q_t_hand, .ref q_t_his, .ref q_t_its, .ref q_t_bytes, .int t_bytesLong, .int t_tokenAt, .int t_tokenLong, .int t_token, .int t_value, .ref q_t_anew, .ref q_t_values, .int t_takenHours])), (q_t_told, zI E 251 t_told)]) (wr := [(q_t_refused, zI E 3 t_refused)]) (wc' := [(q_t, .inr (4, [.ref q_t_told, .ref q_t_kept, .ref q_t_isKept, .ref q_t_refused, .long t_above, .long t_below, .ref q_t_gets, .ref q_t_ahead, .int t_leftBehind, .ref q_t_dayGets, .ref q_t_dayDue, .ref q_t_own, .ref q_t_ownGets, .ref q_t_bestOwn, .ref q_t_alone, .ref q_t_atMuch, .ref q_t_hand, .ref q_t_his, .ref q_t_its, .ref q_t_bytes, .int t_bytesLong, .int t_tokenAt, .int t_tokenLong, .int t_token, .int t_value, .ref q_t_anew, .ref q_t_values, .int t_takenHours])), (q_t_told, zI E 251 t_told)]) (ws2 := [(q_t, .inr (4, [.ref q_t_told, .ref q_t_kept, .ref q_t_isKept, .ref q_t_refused, .long t_above, .long t_below, .ref q_t_gets, .ref q_t_ahead, .int t_leftBehind, .ref q_t_dayGets, .ref q_t_dayDue, .ref q_t_own, .ref q_t_ownGets, .ref q_t_bestOwn, .ref q_t_alone, .ref q_t_atMuch, .ref q_t_hand, .ref q_t_his, .ref q_t_its, .ref q_t_bytes, .int t_bytesLong, .int t_tokenAt, .int t_tokenLong, .int t_token, .int t_value, .ref q_t_anew, .ref q_t_values, .int t_takenHours])), (q_t_told, zI E 251 t_told), (q_t_refused, zI E 3 t_refused)]) (As := []) (st2 := [.int o3]) C [0, 1] [2] [1, 2, 0] rfl rfl rfl rfl (by decide) rfl rfl (c_X5_many F ho4) (goodVT consT W_774 W_776 W_28 W_62 W_777) rfl rfl rfl hd_X5_many ⟨Nat.le_of_ble_eq_true rfl, Nat.le_of_ble_eq_true rfl⟩ rfl rfl rfl (j := 0) rfl rfl rfl (Nat.le_of_ble_eq_true rfl) dX5_board_15 ⟨Nat.zero_le _, Nat.zero_le _⟩ ?_
    refine z_istore_n (L' := [(2, .int o3), (0, .ref q_t), (1, .int a1)]) C dX5_board_18 rfl (by decide) rfl ?_
    refine z_aload_n C dX5_board_19 rfl 1 rfl ?_
    refine z_get C inT_X5 0 rfl rfl 0 (by decide) rfl (mc W_673) rfl dX5_board_20 ?_
    refine z_iload_n C dX5_board_23 rfl 2 rfl ?_
    obtain ⟨o5, ho6, h⟩ := bnd_some h
    refine z_callS (wc := [(q_t_told, zI E 251 t_told)]) (wr := [(q_t, .inr (4, [.ref q_t_told, .ref q_t_kept, .ref q_t_isKept, .ref q_t_refused, .long t_above, .long t_below, .ref q_t_gets, .ref q_t_ahead, .int t_leftBehind, .ref q_t_dayGets, .ref q_t_dayDue, .ref q_t_own, .ref q_t_ownGets, .ref q_t_bestOwn, .ref q_t_alone, .ref q_t_atMuch, .ref q_t_hand, .ref q_t_his, .ref q_t_its, .ref q_t_bytes, .int t_bytesLong, .int t_tokenAt, .int t_tokenLong, .int t_token, .int t_value, .ref q_t_anew, .ref q_t_values, .int t_takenHours])), (q_t_refused, zI E 3 t_refused)]) (wc' := [(q_t_told, zI E 251 o5)]) (ws2 := [(q_t, .inr (4, [.ref q_t_told, .ref q_t_kept, .ref q_t_isKept, .ref q_t_refused, .long t_above, .long t_below, .ref q_t_gets, .ref q_t_ahead, .int t_leftBehind, .ref q_t_dayGets, .ref q_t_dayDue, .ref q_t_own, .ref q_t_ownGets, .ref q_t_bestOwn, .ref q_t_alone, .ref q_t_atMuch, .ref q_t_hand, .ref q_t_his, .ref q_t_its, .ref q_t_bytes, .int t_bytesLong, .int t_tokenAt, .int t_tokenLong, .int t_token, .int t_value, .ref q_t_anew, .ref q_t_values, .int t_takenHours])), (q_t_told, zI E 251 o5), (q_t_refused, zI E 3 t_refused)]) (As := [.ref q_t_told, .int a1]) (st2 := []) C [1] [0, 2] [0, 2, 1] rfl rfl rfl rfl (by decide) rfl rfl (c_X5_begin F ho6) (goodST consT W_670 W_671 W_62 W_672) rfl rfl rfl hd_X5_begin ⟨Nat.le_of_ble_eq_true rfl, Nat.le_of_ble_eq_true rfl⟩ rfl rfl rfl (Nat.le_of_ble_eq_true rfl) dX5_board_24 ⟨Nat.zero_le _, Nat.zero_le _⟩ ?_
    refine z_iload_n C dX5_board_27 rfl 0 rfl ?_
    obtain rfl := Option.some.inj h
    exact z_iret (v := o3) C hr dX5_board_28
  · replace h := (if_pos c).symm.trans h
    refine z_aload_n C dX5_board_7 rfl 0 rfl ?_
    refine z_bipush (v := (-2 : Int32)) C dX5_board_8 (by decide) ?_
    obtain ⟨o7, ho8, h⟩ := bnd_some h
    refine z_callV (wc := [(q_t, .inr (4, [.ref q_t_told, .ref q_t_kept, .ref q_t_isKept, .ref q_t_refused, .long t_above, .long t_below, .ref q_t_gets, .ref q_t_ahead, .int t_leftBehind, .ref q_t_dayGets, .ref q_t_dayDue, .ref q_t_own, .ref q_t_ownGets, .ref q_t_bestOwn, .ref q_t_alone, .ref q_t_atMuch, .ref q_t_hand, .ref q_t_his, .ref q_t_its, .ref q_t_bytes, .int t_bytesLong, .int t_tokenAt, .int t_tokenLong, .int t_token, .int t_value, .ref q_t_anew, .ref q_t_values, .int t_takenHours])), (q_t_refused, zI E 3 t_refused)]) (wr := [(q_t_told, zI E 251 t_told)]) (wc' := [(q_t, .inr (4, [.ref q_t_told, .ref q_t_kept, .ref q_t_isKept, .ref q_t_refused, .long t_above, .long t_below, .ref q_t_gets, .ref q_t_ahead, .int t_leftBehind, .ref q_t_dayGets, .ref q_t_dayDue, .ref q_t_own, .ref q_t_ownGets, .ref q_t_bestOwn, .ref q_t_alone, .ref q_t_atMuch, .ref q_t_hand, .ref q_t_his, .ref q_t_its, .ref q_t_bytes, .int t_bytesLong, .int t_tokenAt, .int t_tokenLong, .int t_token, .int t_value, .ref q_t_anew, .ref q_t_values, .int t_takenHours])), (q_t_refused, zI E 3 o7.2)]) (ws2 := [(q_t, .inr (4, [.ref q_t_told, .ref q_t_kept, .ref q_t_isKept, .ref q_t_refused, .long t_above, .long t_below, .ref q_t_gets, .ref q_t_ahead, .int t_leftBehind, .ref q_t_dayGets, .ref q_t_dayDue, .ref q_t_own, .ref q_t_ownGets, .ref q_t_bestOwn, .ref q_t_alone, .ref q_t_atMuch, .ref q_t_hand, .ref q_t_his, .ref q_t_its, .ref q_t_bytes, .int t_bytesLong, .int t_tokenAt, .int t_tokenLong, .int t_token, .int t_value, .ref q_t_anew, .ref q_t_values, .int t_takenHours])), (q_t_told, zI E 251 t_told), (q_t_refused, zI E 3 o7.2)]) (As := [.int (-2 : Int32)]) (st2 := [.int o7.1]) C [0, 2] [1] [1, 0, 2] rfl rfl rfl rfl (by decide) rfl rfl (c_X5_bad F ho8) (goodVT consT W_770 W_772 W_27 W_62 W_773) rfl rfl rfl hd_X5_bad ⟨Nat.le_of_ble_eq_true rfl, Nat.le_of_ble_eq_true rfl⟩ rfl rfl rfl (j := 0) rfl rfl rfl (Nat.le_of_ble_eq_true rfl) dX5_board_10 ⟨Nat.zero_le _, Nat.zero_le _⟩ ?_
    obtain rfl := Option.some.inj h
    exact z_iret (v := o7.1) C hr dX5_board_13
def rm_X5_layWell : Room := { frames := 0, cells := 0, slots := 0, locals := 0 }
theorem hd_X5_layWell : yX5_layWell.cls ≠ "java/lang/invoke/MethodHandle" ∧ yX5_layWell.cls ≠ "java/lang/invoke/VarHandle" ∧ (parseMethodDescriptor yX5_layWell.desc).map (fun d => d.parameters.length) = some 4 := by decide +kernel
abbrev wsX5_layWell : List Cond := .code yX5_layWell cX5_layWell 5 none :: WALL
set_option maxRecDepth 100000 in
set_option maxHeartbeats 4000000 in
theorem c_X5_layWell {l : Launch} {E : zE} {q_p0 : Nat} {n_p0 : Nat} {a1 : Int32} {a2 : Int32} {a3 : Int32} {p0 : Nat → Int32} {o : (Nat → Int32)} (F : Nat) (h : f_X5_layWell F n_p0 a1 a2 a3 p0 = some o) : zM l yX5_layWell wsX5_layWell rm_X5_layWell E [.ref q_p0, .int a1, .int a2, .int a3] [(q_p0, zI E n_p0 p0)] none [(q_p0, zI E n_p0 o)] := by
  refine zM.of (cc := cX5_layWell) (maxL := 5) (ret := none) (by decide +kernel) rfl (Nat.le_of_ble_eq_true rfl) ?_
  intro p e s m args below meth c A C hr
  have C : zC p s m args c meth cX5_layWell 5 RX5 wsX5_layWell E A := C
  rw [f_X5_layWell] at h
  refine z_aload_n C dX5_layWell_0 rfl 0 rfl ?_
  refine z_iconst (v := (0 : Int32)) C dX5_layWell_1 (by decide) ?_
  obtain ⟨c1, h⟩ := chk_some h
  refine z_iald C 0 rfl c1 dX5_layWell_2 ?_
  refine z_istore (L' := [(4, .int (p0 (0 : Int32).toNatClampNeg)), (0, .ref q_p0), (1, .int a1), (2, .int a2), (3, .int a3)]) C dX5_layWell_3 (by decide) rfl ?_
  refine z_aload_n C dX5_layWell_5 rfl 1 rfl ?_
  refine z_bipush (v := (26 : Int32)) C dX5_layWell_6 (by decide) ?_
  refine z_iload C dX5_layWell_8 0 rfl ?_
  refine z_iadd C dX5_layWell_10 ?_
  refine z_iload_n C dX5_layWell_11 rfl 2 rfl ?_
  obtain ⟨c2, h⟩ := chk_some h
  refine z_iast (ws' := [(q_p0, zI E n_p0 (upd p0 ((26 : Int32) + (p0 (0 : Int32).toNatClampNeg)).toNatClampNeg a1))]) C 0 rfl c2 rfl dX5_layWell_12 ?_
  refine z_aload_n C dX5_layWell_13 rfl 1 rfl ?_
  refine z_bipush (v := (19 : Int32)) C dX5_layWell_14 (by decide) ?_
  refine z_iload C dX5_layWell_16 0 rfl ?_
  refine z_iadd C dX5_layWell_18 ?_
  refine z_iload_n C dX5_layWell_19 rfl 3 rfl ?_
  obtain ⟨c3, h⟩ := chk_some h
  refine z_iast (ws' := [(q_p0, zI E n_p0 (upd (upd p0 ((26 : Int32) + (p0 (0 : Int32).toNatClampNeg)).toNatClampNeg a1) ((19 : Int32) + (p0 (0 : Int32).toNatClampNeg)).toNatClampNeg a2))]) C 0 rfl c3 rfl dX5_layWell_20 ?_
  refine z_aload_n C dX5_layWell_21 rfl 1 rfl ?_
  refine z_bipush (v := (14 : Int32)) C dX5_layWell_22 (by decide) ?_
  refine z_iload C dX5_layWell_24 0 rfl ?_
  refine z_iadd C dX5_layWell_26 ?_
  refine z_iload_n C dX5_layWell_27 rfl 4 rfl ?_
  obtain ⟨c4, h⟩ := chk_some h
  refine z_iast (ws' := [(q_p0, zI E n_p0 (upd (upd (upd p0 ((26 : Int32) + (p0 (0 : Int32).toNatClampNeg)).toNatClampNeg a1) ((19 : Int32) + (p0 (0 : Int32).toNatClampNeg)).toNatClampNeg a2) ((14 : Int32) + (p0 (0 : Int32).toNatClampNeg)).toNatClampNeg a3))]) C 0 rfl c4 rfl dX5_layWell_28 ?_
  refine z_aload_n C dX5_layWell_29 rfl 1 rfl ?_
  refine z_iconst (v := (4 : Int32)) C dX5_layWell_30 (by decide) ?_
  refine z_iload C dX5_layWell_31 0 rfl ?_
  refine z_iadd C dX5_layWell_33 ?_
  refine z_iconst (v := (0 : Int32)) C dX5_layWell_34 (by decide) ?_
  obtain ⟨c5, h⟩ := chk_some h
  refine z_iast (ws' := [(q_p0, zI E n_p0 (upd (upd (upd (upd p0 ((26 : Int32) + (p0 (0 : Int32).toNatClampNeg)).toNatClampNeg a1) ((19 : Int32) + (p0 (0 : Int32).toNatClampNeg)).toNatClampNeg a2) ((14 : Int32) + (p0 (0 : Int32).toNatClampNeg)).toNatClampNeg a3) ((4 : Int32) + (p0 (0 : Int32).toNatClampNeg)).toNatClampNeg (0 : Int32)))]) C 0 rfl c5 rfl dX5_layWell_35 ?_
  refine z_aload_n C dX5_layWell_36 rfl 1 rfl ?_
  refine z_bipush (v := (9 : Int32)) C dX5_layWell_37 (by decide) ?_
  refine z_iload C dX5_layWell_39 0 rfl ?_
  refine z_iadd C dX5_layWell_41 ?_
  refine z_iconst (v := (0 : Int32)) C dX5_layWell_42 (by decide) ?_
  obtain ⟨c6, h⟩ := chk_some h
  refine z_iast (ws' := [(q_p0, zI E n_p0 (upd (upd (upd (upd (upd p0 ((26 : Int32) + (p0 (0 : Int32).toNatClampNeg)).toNatClampNeg a1) ((19 : Int32) + (p0 (0 : Int32).toNatClampNeg)).toNatClampNeg a2) ((14 : Int32) + (p0 (0 : Int32).toNatClampNeg)).toNatClampNeg a3) ((4 : Int32) + (p0 (0 : Int32).toNatClampNeg)).toNatClampNeg (0 : Int32)) ((9 : Int32) + (p0 (0 : Int32).toNatClampNeg)).toNatClampNeg (0 : Int32)))]) C 0 rfl c6 rfl dX5_layWell_43 ?_
  refine z_aload_n C dX5_layWell_44 rfl 1 rfl ?_
  refine z_iconst (v := (0 : Int32)) C dX5_layWell_45 (by decide) ?_
  refine z_dup2 C dX5_layWell_46 rfl rfl ?_
  obtain ⟨c7, h⟩ := chk_some h
  refine z_iald C 0 rfl c7 dX5_layWell_47 ?_
  refine z_iconst (v := (1 : Int32)) C dX5_layWell_48 (by decide) ?_
  refine z_iadd C dX5_layWell_49 ?_
  obtain ⟨c8, h⟩ := chk_some h
  refine z_iast (ws' := [(q_p0, zI E n_p0 (upd (upd (upd (upd (upd (upd p0 ((26 : Int32) + (p0 (0 : Int32).toNatClampNeg)).toNatClampNeg a1) ((19 : Int32) + (p0 (0 : Int32).toNatClampNeg)).toNatClampNeg a2) ((14 : Int32) + (p0 (0 : Int32).toNatClampNeg)).toNatClampNeg a3) ((4 : Int32) + (p0 (0 : Int32).toNatClampNeg)).toNatClampNeg (0 : Int32)) ((9 : Int32) + (p0 (0 : Int32).toNatClampNeg)).toNatClampNeg (0 : Int32)) (0 : Int32).toNatClampNeg (((upd (upd (upd (upd (upd p0 ((26 : Int32) + (p0 (0 : Int32).toNatClampNeg)).toNatClampNeg a1) ((19 : Int32) + (p0 (0 : Int32).toNatClampNeg)).toNatClampNeg a2) ((14 : Int32) + (p0 (0 : Int32).toNatClampNeg)).toNatClampNeg a3) ((4 : Int32) + (p0 (0 : Int32).toNatClampNeg)).toNatClampNeg (0 : Int32)) ((9 : Int32) + (p0 (0 : Int32).toNatClampNeg)).toNatClampNeg (0 : Int32)) (0 : Int32).toNatClampNeg) + (1 : Int32))))]) C 0 rfl c8 rfl dX5_layWell_50 ?_
  obtain rfl := Option.some.inj h
  exact z_vret C hr dX5_layWell_51
def rm_X5_well : Room := { frames := 2, cells := 0, slots := 0, locals := 45 }
theorem hd_X5_well : yX5_well.cls = yX5_well.cls ∧ yX5_well.cls ≠ "java/lang/invoke/MethodHandle" ∧ yX5_well.cls ≠ "java/lang/invoke/VarHandle" ∧ (parseMethodDescriptor yX5_well.desc).map (fun d => d.parameters.length) = some 3 := by decide +kernel
abbrev wsX5_well : List Cond := .code yX5_well cX5_well 4 (some .int) :: WALL
set_option maxRecDepth 100000 in
set_option maxHeartbeats 4000000 in
theorem l_X5_well_b31 {p : Program} {l : Launch} {e : Env} {s : State} {m : MethodId} {args : Array Value} {below : List Frame} {meth : Method} {c : Code} {E : zE} {A : Nat → Prop} {q_t q_t_told q_t_refused q_t_kept q_t_isKept q_t_gets q_t_ahead q_t_dayGets q_t_dayDue q_t_own q_t_ownGets q_t_bestOwn q_t_alone q_t_atMuch q_t_hand q_t_his q_t_its q_t_bytes q_t_anew q_t_values : Nat} {t_above : Int64} {t_below : Int64} {t_leftBehind : Int32} {t_bytesLong : Int32} {t_tokenAt : Int32} {t_tokenLong : Int32} {t_token : Int32} {t_value : Int32} {t_takenHours : Int32} {o : Int32 × (Nat → Int32) × (Nat → Int32)} (F : Nat) (a1 : Int32) (a2 : Int32) (a3 : Int32) (C : zC p s m args c meth cX5_well 4 RX5 wsX5_well E A) (hr : meth.sig.returnType = some .int) : ∀  (t_told : Nat → Int32) (t_refused : Nat → Int32), f_X5_well_b31 F a1 a2 a3 t_told t_refused = some o → zG p l e rm_X5_well s m args below meth c 4 E A 0 0 (MQ below (zQ E A (some (.int o.1)) [(q_t, .inr (4, [.ref q_t_told, .ref q_t_kept, .ref q_t_isKept, .ref q_t_refused, .long t_above, .long t_below, .ref q_t_gets, .ref q_t_ahead, .int t_leftBehind, .ref q_t_dayGets, .ref q_t_dayDue, .ref q_t_own, .ref q_t_ownGets, .ref q_t_bestOwn, .ref q_t_alone, .ref q_t_atMuch, .ref q_t_hand, .ref q_t_his, .ref q_t_its, .ref q_t_bytes, .int t_bytesLong, .int t_tokenAt, .int t_tokenLong, .int t_token, .int t_value, .ref q_t_anew, .ref q_t_values, .int t_takenHours])), (q_t_told, zI E 251 o.2.1), (q_t_refused, zI E 3 o.2.2)]) args s 0 0 A) [(q_t, .inr (4, [.ref q_t_told, .ref q_t_kept, .ref q_t_isKept, .ref q_t_refused, .long t_above, .long t_below, .ref q_t_gets, .ref q_t_ahead, .int t_leftBehind, .ref q_t_dayGets, .ref q_t_dayDue, .ref q_t_own, .ref q_t_ownGets, .ref q_t_bestOwn, .ref q_t_alone, .ref q_t_atMuch, .ref q_t_hand, .ref q_t_his, .ref q_t_its, .ref q_t_bytes, .int t_bytesLong, .int t_tokenAt, .int t_tokenLong, .int t_token, .int t_value, .ref q_t_anew, .ref q_t_values, .int t_takenHours])), (q_t_told, zI E 251 t_told), (q_t_refused, zI E 3 t_refused)] 31 [(0, .ref q_t)] [] := by
  intro t_told t_refused h
  rw [f_X5_well_b31] at h
  refine z_aload_n C dX5_well_31 rfl 0 rfl ?_
  refine z_bipush (v := (-2 : Int32)) C dX5_well_32 (by decide) ?_
  obtain ⟨o16, ho17, h⟩ := bnd_some h
  refine z_callV (wc := [(q_t, .inr (4, [.ref q_t_told, .ref q_t_kept, .ref q_t_isKept, .ref q_t_refused, .long t_above, .long t_below, .ref q_t_gets, .ref q_t_ahead, .int t_leftBehind, .ref q_t_dayGets, .ref q_t_dayDue, .ref q_t_own, .ref q_t_ownGets, .ref q_t_bestOwn, .ref q_t_alone, .ref q_t_atMuch, .ref q_t_hand, .ref q_t_his, .ref q_t_its, .ref q_t_bytes, .int t_bytesLong, .int t_tokenAt, .int t_tokenLong, .int t_token, .int t_value, .ref q_t_anew, .ref q_t_values, .int t_takenHours])), (q_t_refused, zI E 3 t_refused)]) (wr := [(q_t_told, zI E 251 t_told)]) (wc' := [(q_t, .inr (4, [.ref q_t_told, .ref q_t_kept, .ref q_t_isKept, .ref q_t_refused, .long t_above, .long t_below, .ref q_t_gets, .ref q_t_ahead, .int t_leftBehind, .ref q_t_dayGets, .ref q_t_dayDue, .ref q_t_own, .ref q_t_ownGets, .ref q_t_bestOwn, .ref q_t_alone, .ref q_t_atMuch, .ref q_t_hand, .ref q_t_his, .ref q_t_its, .ref q_t_bytes, .int t_bytesLong, .int t_tokenAt, .int t_tokenLong, .int t_token, .int t_value, .ref q_t_anew, .ref q_t_values, .int t_takenHours])), (q_t_refused, zI E 3 o16.2)]) (ws2 := [(q_t, .inr (4, [.ref q_t_told, .ref q_t_kept, .ref q_t_isKept, .ref q_t_refused, .long t_above, .long t_below, .ref q_t_gets, .ref q_t_ahead, .int t_leftBehind, .ref q_t_dayGets, .ref q_t_dayDue, .ref q_t_own, .ref q_t_ownGets, .ref q_t_bestOwn, .ref q_t_alone, .ref q_t_atMuch, .ref q_t_hand, .ref q_t_his, .ref q_t_its, .ref q_t_bytes, .int t_bytesLong, .int t_tokenAt, .int t_tokenLong, .int t_token, .int t_value, .ref q_t_anew, .ref q_t_values, .int t_takenHours])), (q_t_told, zI E 251 t_told), (q_t_refused, zI E 3 o16.2)]) (As := [.int (-2 : Int32)]) (st2 := [.int o16.1]) C [0, 2] [1] [1, 0, 2] rfl rfl rfl rfl (by decide) rfl rfl (c_X5_bad F ho17) (goodVT consT W_770 W_772 W_27 W_62 W_773) rfl rfl rfl hd_X5_bad ⟨Nat.le_of_ble_eq_true rfl, Nat.le_of_ble_eq_true rfl⟩ rfl rfl rfl (j := 0) rfl rfl rfl (Nat.le_of_ble_eq_true rfl) dX5_well_34 ⟨Nat.zero_le _, Nat.zero_le _⟩ ?_
  obtain rfl := Option.some.inj h
  exact z_iret (v := o16.1) C hr dX5_well_37
set_option maxRecDepth 100000 in
set_option maxHeartbeats 4000000 in
theorem c_X5_well {l : Launch} {E : zE} {q_t q_t_told q_t_refused q_t_kept q_t_isKept q_t_gets q_t_ahead q_t_dayGets q_t_dayDue q_t_own q_t_ownGets q_t_bestOwn q_t_alone q_t_atMuch q_t_hand q_t_his q_t_its q_t_bytes q_t_anew q_t_values : Nat} {t_above : Int64} {t_below : Int64} {t_leftBehind : Int32} {t_bytesLong : Int32} {t_tokenAt : Int32} {t_tokenLong : Int32} {t_token : Int32} {t_value : Int32} {t_takenHours : Int32} {a1 : Int32} {a2 : Int32} {a3 : Int32} {t_told : Nat → Int32} {t_refused : Nat → Int32} {o : Int32 × (Nat → Int32) × (Nat → Int32)} (F : Nat) (h : f_X5_well F a1 a2 a3 t_told t_refused = some o) : zM l yX5_well wsX5_well rm_X5_well E [.ref q_t, .int a1, .int a2, .int a3] [(q_t, .inr (4, [.ref q_t_told, .ref q_t_kept, .ref q_t_isKept, .ref q_t_refused, .long t_above, .long t_below, .ref q_t_gets, .ref q_t_ahead, .int t_leftBehind, .ref q_t_dayGets, .ref q_t_dayDue, .ref q_t_own, .ref q_t_ownGets, .ref q_t_bestOwn, .ref q_t_alone, .ref q_t_atMuch, .ref q_t_hand, .ref q_t_his, .ref q_t_its, .ref q_t_bytes, .int t_bytesLong, .int t_tokenAt, .int t_tokenLong, .int t_token, .int t_value, .ref q_t_anew, .ref q_t_values, .int t_takenHours])), (q_t_told, zI E 251 t_told), (q_t_refused, zI E 3 t_refused)] (some (.int o.1)) [(q_t, .inr (4, [.ref q_t_told, .ref q_t_kept, .ref q_t_isKept, .ref q_t_refused, .long t_above, .long t_below, .ref q_t_gets, .ref q_t_ahead, .int t_leftBehind, .ref q_t_dayGets, .ref q_t_dayDue, .ref q_t_own, .ref q_t_ownGets, .ref q_t_bestOwn, .ref q_t_alone, .ref q_t_atMuch, .ref q_t_hand, .ref q_t_his, .ref q_t_its, .ref q_t_bytes, .int t_bytesLong, .int t_tokenAt, .int t_tokenLong, .int t_token, .int t_value, .ref q_t_anew, .ref q_t_values, .int t_takenHours])), (q_t_told, zI E 251 o.2.1), (q_t_refused, zI E 3 o.2.2)] := by
  refine zM.of (cc := cX5_well) (maxL := 4) (ret := (some .int)) (by decide +kernel) rfl (Nat.le_of_ble_eq_true rfl) ?_
  intro p e s m args below meth c A C hr
  have C : zC p s m args c meth cX5_well 4 RX5 wsX5_well E A := C
  rw [f_X5_well] at h
  refine z_iload_n C dX5_well_0 rfl 1 rfl ?_
  refine z_i2l C dX5_well_1 ?_
  refine z_lconst (v := (0 : Int64)) C dX5_well_2 (by decide) ?_
  refine z_ldc2 (v := (5 : Int64)) C dX5_well_3 (mc W_782) ?_
  obtain ⟨o1, ho2, h⟩ := bnd_some h
  refine z_callS (wc := []) (wr := [(q_t, .inr (4, [.ref q_t_told, .ref q_t_kept, .ref q_t_isKept, .ref q_t_refused, .long t_above, .long t_below, .ref q_t_gets, .ref q_t_ahead, .int t_leftBehind, .ref q_t_dayGets, .ref q_t_dayDue, .ref q_t_own, .ref q_t_ownGets, .ref q_t_bestOwn, .ref q_t_alone, .ref q_t_atMuch, .ref q_t_hand, .ref q_t_his, .ref q_t_its, .ref q_t_bytes, .int t_bytesLong, .int t_tokenAt, .int t_tokenLong, .int t_token, .int t_value, .ref q_t_anew, .ref q_t_values, .int t_takenHours])), (q_t_told, zI E 251 t_told), (q_t_refused, zI E 3 t_refused)]) (wc' := []) (ws2 := [(q_t, .inr (4, [.ref q_t_told, .ref q_t_kept, .ref q_t_isKept, .ref q_t_refused, .long t_above, .long t_below, .ref q_t_gets, .ref q_t_ahead, .int t_leftBehind, .ref q_t_dayGets, .ref q_t_dayDue, .ref q_t_own, .ref q_t_ownGets, .ref q_t_bestOwn, .ref q_t_alone, .ref q_t_atMuch, .ref q_t_hand, .ref q_t_his, .ref q_t_its, .ref q_t_bytes, .int t_bytesLong, .int t_tokenAt, .int t_tokenLong, .int t_token, .int t_value, .ref q_t_anew, .ref q_t_values, .int t_takenHours])), (q_t_told, zI E 251 t_told), (q_t_refused, zI E 3 t_refused)]) (As := [.long a1.toInt64, .long (0 : Int64), .long (5 : Int64)]) (st2 := [.int o1]) C [] [0, 1, 2] [0, 1, 2] rfl rfl rfl rfl (by decide) rfl rfl (c_X5_in F ho2) (goodST consT W_767 W_768 W_62 W_769) rfl rfl rfl hd_X5_in ⟨Nat.le_of_ble_eq_true rfl, Nat.le_of_ble_eq_true rfl⟩ rfl rfl rfl (Nat.le_of_ble_eq_true rfl) dX5_well_6 ⟨Nat.zero_le _, Nat.zero_le _⟩ ?_
  refine z_if_eq (tgt := 31) C dX5_well_9 (by decide) (fun c => ?_) (fun c => ?_)
  · replace h := (if_pos c).symm.trans h
    refine z_sub [0] (L' := [(0, .ref q_t)]) rfl ?_
    exact (l_X5_well_b31 F a1 a2 a3 C hr) t_told t_refused h
  · replace h := (if_neg c).symm.trans h
    refine z_iload_n C dX5_well_12 rfl 2 rfl ?_
    obtain ⟨o3, ho4, h⟩ := bnd_some h
    refine z_callS (wc := []) (wr := [(q_t, .inr (4, [.ref q_t_told, .ref q_t_kept, .ref q_t_isKept, .ref q_t_refused, .long t_above, .long t_below, .ref q_t_gets, .ref q_t_ahead, .int t_leftBehind, .ref q_t_dayGets, .ref q_t_dayDue, .ref q_t_own, .ref q_t_ownGets, .ref q_t_bestOwn, .ref q_t_alone, .ref q_t_atMuch, .ref q_t_hand, .ref q_t_his, .ref q_t_its, .ref q_t_bytes, .int t_bytesLong, .int t_tokenAt, .int t_tokenLong, .int t_token, .int t_value, .ref q_t_anew, .ref q_t_values, .int t_takenHours])), (q_t_told, zI E 251 t_told), (q_t_refused, zI E 3 t_refused)]) (wc' := []) (ws2 := [(q_t, .inr (4, [.ref q_t_told, .ref q_t_kept, .ref q_t_isKept, .ref q_t_refused, .long t_above, .long t_below, .ref q_t_gets, .ref q_t_ahead, .int t_leftBehind, .ref q_t_dayGets, .ref q_t_dayDue, .ref q_t_own, .ref q_t_ownGets, .ref q_t_bestOwn, .ref q_t_alone, .ref q_t_atMuch, .ref q_t_hand, .ref q_t_his, .ref q_t_its, .ref q_t_bytes, .int t_bytesLong, .int t_tokenAt, .int t_tokenLong, .int t_token, .int t_value, .ref q_t_anew, .ref q_t_values, .int t_takenHours])), (q_t_told, zI E 251 t_told), (q_t_refused, zI E 3 t_refused)]) (As := [.int a2]) (st2 := [.int o3]) C [] [0, 1, 2] [0, 1, 2] rfl rfl rfl rfl (by decide) rfl rfl (c_X5_isWanted F ho4) (goodST consT W_783 W_784 W_62 W_785) rfl rfl rfl hd_X5_isWanted ⟨Nat.le_of_ble_eq_true rfl, Nat.le_of_ble_eq_true rfl⟩ rfl rfl rfl (Nat.le_of_ble_eq_true rfl) dX5_well_13 ⟨Nat.zero_le _, Nat.zero_le _⟩ ?_
    refine z_if_eq (tgt := 31) C dX5_well_16 (by decide) (fun c => ?_) (fun c => ?_)
    · replace h := (if_pos c).symm.trans h
      refine z_sub [0] (L' := [(0, .ref q_t)]) rfl ?_
      exact (l_X5_well_b31 F a1 a2 a3 C hr) t_told t_refused h
    · replace h := (if_neg c).symm.trans h
      refine z_iload_n C dX5_well_19 rfl 3 rfl ?_
      refine z_i2l C dX5_well_20 ?_
      refine z_lconst (v := (0 : Int64)) C dX5_well_21 (by decide) ?_
      refine z_ldc2 (v := (255 : Int64)) C dX5_well_22 (mc W_787) ?_
      obtain ⟨o5, ho6, h⟩ := bnd_some h
      refine z_callS (wc := []) (wr := [(q_t, .inr (4, [.ref q_t_told, .ref q_t_kept, .ref q_t_isKept, .ref q_t_refused, .long t_above, .long t_below, .ref q_t_gets, .ref q_t_ahead, .int t_leftBehind, .ref q_t_dayGets, .ref q_t_dayDue, .ref q_t_own, .ref q_t_ownGets, .ref q_t_bestOwn, .ref q_t_alone, .ref q_t_atMuch, .ref q_t_hand, .ref q_t_his, .ref q_t_its, .ref q_t_bytes, .int t_bytesLong, .int t_tokenAt, .int t_tokenLong, .int t_token, .int t_value, .ref q_t_anew, .ref q_t_values, .int t_takenHours])), (q_t_told, zI E 251 t_told), (q_t_refused, zI E 3 t_refused)]) (wc' := []) (ws2 := [(q_t, .inr (4, [.ref q_t_told, .ref q_t_kept, .ref q_t_isKept, .ref q_t_refused, .long t_above, .long t_below, .ref q_t_gets, .ref q_t_ahead, .int t_leftBehind, .ref q_t_dayGets, .ref q_t_dayDue, .ref q_t_own, .ref q_t_ownGets, .ref q_t_bestOwn, .ref q_t_alone, .ref q_t_atMuch, .ref q_t_hand, .ref q_t_his, .ref q_t_its, .ref q_t_bytes, .int t_bytesLong, .int t_tokenAt, .int t_tokenLong, .int t_token, .int t_value, .ref q_t_anew, .ref q_t_values, .int t_takenHours])), (q_t_told, zI E 251 t_told), (q_t_refused, zI E 3 t_refused)]) (As := [.long a3.toInt64, .long (0 : Int64), .long (255 : Int64)]) (st2 := [.int o5]) C [] [0, 1, 2] [0, 1, 2] rfl rfl rfl rfl (by decide) rfl rfl (c_X5_in F ho6) (goodST consT W_767 W_768 W_62 W_769) rfl rfl rfl hd_X5_in ⟨Nat.le_of_ble_eq_true rfl, Nat.le_of_ble_eq_true rfl⟩ rfl rfl rfl (Nat.le_of_ble_eq_true rfl) dX5_well_25 ⟨Nat.zero_le _, Nat.zero_le _⟩ ?_
      refine z_if_ne (tgt := 38) C dX5_well_28 (by decide) (fun c => ?_) (fun c => ?_)
      · replace h := (if_neg c).symm.trans h
        refine z_aload_n C dX5_well_38 rfl 0 rfl ?_
        obtain ⟨o7, ho8, h⟩ := bnd_some h
        refine z_callV (wc := [(q_t, .inr (4, [.ref q_t_told, .ref q_t_kept, .ref q_t_isKept, .ref q_t_refused, .long t_above, .long t_below, .ref q_t_gets, .ref q_t_ahead, .int t_leftBehind, .ref q_t_dayGets, .ref q_t_dayDue, .ref q_t_own, .ref q_t_ownGets, .ref q_t_bestOwn, .ref q_t_alone, .ref q_t_atMuch, .ref q_t_hand, .ref q_t_his, .ref q_t_its, .ref q_t_bytes, .int t_bytesLong, .int t_tokenAt, .int t_tokenLong, .int t_token, .int t_value, .ref q_t_anew, .ref q_t_values, .int t_takenHours])), (q_t_told, zI E 251 t_told)]) (wr := [(q_t_refused, zI E 3 t_refused)]) (wc' := [(q_t, .inr (4, [.ref q_t_told, .ref q_t_kept, .ref q_t_isKept, .ref q_t_refused, .long t_above, .long t_below, .ref q_t_gets, .ref q_t_ahead, .int t_leftBehind, .ref q_t_dayGets, .ref q_t_dayDue, .ref q_t_own, .ref q_t_ownGets, .ref q_t_bestOwn, .ref q_t_alone, .ref q_t_atMuch, .ref q_t_hand, .ref q_t_his, .ref q_t_its, .ref q_t_bytes, .int t_bytesLong, .int t_tokenAt, .int t_tokenLong, .int t_token, .int t_value, .ref q_t_anew, .ref q_t_values, .int t_takenHours])), (q_t_told, zI E 251 t_told)]) (ws2 := [(q_t, .inr (4, [.ref q_t_told, .ref q_t_kept, .ref q_t_isKept, .ref q_t_refused, .long t_above, .long t_below, .ref q_t_gets, .ref q_t_ahead, .int t_leftBehind, .ref q_t_dayGets, .ref q_t_dayDue, .ref q_t_own, .ref q_t_ownGets, .ref q_t_bestOwn, .ref q_t_alone, .ref q_t_atMuch, .ref q_t_hand, .ref q_t_his, .ref q_t_its, .ref q_t_bytes, .int t_bytesLong, .int t_tokenAt, .int t_tokenLong, .int t_token, .int t_value, .ref q_t_anew, .ref q_t_values, .int t_takenHours])), (q_t_told, zI E 251 t_told), (q_t_refused, zI E 3 t_refused)]) (As := []) (st2 := [.int o7]) C [0, 1] [2] [1, 2, 0] rfl rfl rfl rfl (by decide) rfl rfl (c_X5_many F ho8) (goodVT consT W_774 W_776 W_28 W_62 W_777) rfl rfl rfl hd_X5_many ⟨Nat.le_of_ble_eq_true rfl, Nat.le_of_ble_eq_true rfl⟩ rfl rfl rfl (j := 0) rfl rfl rfl (Nat.le_of_ble_eq_true rfl) dX5_well_39 ⟨Nat.zero_le _, Nat.zero_le _⟩ ?_
        refine z_iconst (v := (5 : Int32)) C dX5_well_42 (by decide) ?_
        refine z_icmp_ne (tgt := 51) C dX5_well_43 (by decide) (fun c => ?_) (fun c => ?_)
        · replace h := (if_neg c).symm.trans h
          refine z_aload_n C dX5_well_51 rfl 0 rfl ?_
          refine z_get C inT_X5 0 rfl rfl 0 (by decide) rfl (mc W_673) rfl dX5_well_52 ?_
          refine z_iload_n C dX5_well_55 rfl 1 rfl ?_
          refine z_iload_n C dX5_well_56 rfl 2 rfl ?_
          refine z_iload_n C dX5_well_57 rfl 3 rfl ?_
          obtain ⟨o9, ho10, h⟩ := bnd_some h
          refine z_callS (wc := [(q_t_told, zI E 251 t_told)]) (wr := [(q_t, .inr (4, [.ref q_t_told, .ref q_t_kept, .ref q_t_isKept, .ref q_t_refused, .long t_above, .long t_below, .ref q_t_gets, .ref q_t_ahead, .int t_leftBehind, .ref q_t_dayGets, .ref q_t_dayDue, .ref q_t_own, .ref q_t_ownGets, .ref q_t_bestOwn, .ref q_t_alone, .ref q_t_atMuch, .ref q_t_hand, .ref q_t_his, .ref q_t_its, .ref q_t_bytes, .int t_bytesLong, .int t_tokenAt, .int t_tokenLong, .int t_token, .int t_value, .ref q_t_anew, .ref q_t_values, .int t_takenHours])), (q_t_refused, zI E 3 t_refused)]) (wc' := [(q_t_told, zI E 251 o9)]) (ws2 := [(q_t, .inr (4, [.ref q_t_told, .ref q_t_kept, .ref q_t_isKept, .ref q_t_refused, .long t_above, .long t_below, .ref q_t_gets, .ref q_t_ahead, .int t_leftBehind, .ref q_t_dayGets, .ref q_t_dayDue, .ref q_t_own, .ref q_t_ownGets, .ref q_t_bestOwn, .ref q_t_alone, .ref q_t_atMuch, .ref q_t_hand, .ref q_t_his, .ref q_t_its, .ref q_t_bytes, .int t_bytesLong, .int t_tokenAt, .int t_tokenLong, .int t_token, .int t_value, .ref q_t_anew, .ref q_t_values, .int t_takenHours])), (q_t_told, zI E 251 o9), (q_t_refused, zI E 3 t_refused)]) (As := [.ref q_t_told, .int a1, .int a2, .int a3]) (st2 := []) C [1] [0, 2] [0, 2, 1] rfl rfl rfl rfl (by decide) rfl rfl (c_X5_layWell F ho10) (goodST consT W_792 W_793 W_62 W_794) rfl rfl rfl hd_X5_layWell ⟨Nat.le_of_ble_eq_true rfl, Nat.le_of_ble_eq_true rfl⟩ rfl rfl rfl (Nat.le_of_ble_eq_true rfl) dX5_well_58 ⟨Nat.zero_le _, Nat.zero_le _⟩ ?_
          refine z_aload_n C dX5_well_61 rfl 0 rfl ?_
          refine z_get C inT_X5 0 rfl rfl 0 (by decide) rfl (mc W_673) rfl dX5_well_62 ?_
          refine z_iconst (v := (3 : Int32)) C dX5_well_65 (by decide) ?_
          refine z_iconst (v := (0 : Int32)) C dX5_well_66 (by decide) ?_
          obtain ⟨c11, h⟩ := chk_some h
          refine z_iast (ws' := [(q_t, .inr (4, [.ref q_t_told, .ref q_t_kept, .ref q_t_isKept, .ref q_t_refused, .long t_above, .long t_below, .ref q_t_gets, .ref q_t_ahead, .int t_leftBehind, .ref q_t_dayGets, .ref q_t_dayDue, .ref q_t_own, .ref q_t_ownGets, .ref q_t_bestOwn, .ref q_t_alone, .ref q_t_atMuch, .ref q_t_hand, .ref q_t_his, .ref q_t_its, .ref q_t_bytes, .int t_bytesLong, .int t_tokenAt, .int t_tokenLong, .int t_token, .int t_value, .ref q_t_anew, .ref q_t_values, .int t_takenHours])), (q_t_told, zI E 251 (upd o9 (3 : Int32).toNatClampNeg (0 : Int32))), (q_t_refused, zI E 3 t_refused)]) C 1 rfl c11 rfl dX5_well_67 ?_
          refine z_aload_n C dX5_well_68 rfl 0 rfl ?_
          obtain ⟨o12, ho13, h⟩ := bnd_some h
          refine z_callV (wc := [(q_t, .inr (4, [.ref q_t_told, .ref q_t_kept, .ref q_t_isKept, .ref q_t_refused, .long t_above, .long t_below, .ref q_t_gets, .ref q_t_ahead, .int t_leftBehind, .ref q_t_dayGets, .ref q_t_dayDue, .ref q_t_own, .ref q_t_ownGets, .ref q_t_bestOwn, .ref q_t_alone, .ref q_t_atMuch, .ref q_t_hand, .ref q_t_his, .ref q_t_its, .ref q_t_bytes, .int t_bytesLong, .int t_tokenAt, .int t_tokenLong, .int t_token, .int t_value, .ref q_t_anew, .ref q_t_values, .int t_takenHours])), (q_t_told, zI E 251 (upd o9 (3 : Int32).toNatClampNeg (0 : Int32)))]) (wr := [(q_t_refused, zI E 3 t_refused)]) (wc' := [(q_t, .inr (4, [.ref q_t_told, .ref q_t_kept, .ref q_t_isKept, .ref q_t_refused, .long t_above, .long t_below, .ref q_t_gets, .ref q_t_ahead, .int t_leftBehind, .ref q_t_dayGets, .ref q_t_dayDue, .ref q_t_own, .ref q_t_ownGets, .ref q_t_bestOwn, .ref q_t_alone, .ref q_t_atMuch, .ref q_t_hand, .ref q_t_his, .ref q_t_its, .ref q_t_bytes, .int t_bytesLong, .int t_tokenAt, .int t_tokenLong, .int t_token, .int t_value, .ref q_t_anew, .ref q_t_values, .int t_takenHours])), (q_t_told, zI E 251 (upd o9 (3 : Int32).toNatClampNeg (0 : Int32)))]) (ws2 := [(q_t, .inr (4, [.ref q_t_told, .ref q_t_kept, .ref q_t_isKept, .ref q_t_refused, .long t_above, .long t_below, .ref q_t_gets, .ref q_t_ahead, .int t_leftBehind, .ref q_t_dayGets, .ref q_t_dayDue, .ref q_t_own, .ref q_t_ownGets, .ref q_t_bestOwn, .ref q_t_alone, .ref q_t_atMuch, .ref q_t_hand, .ref q_t_his, .ref q_t_its, .ref q_t_bytes, .int t_bytesLong, .int t_tokenAt, .int t_tokenLong, .int t_token, .int t_value, .ref q_t_anew, .ref q_t_values, .int t_takenHours])), (q_t_told, zI E 251 (upd o9 (3 : Int32).toNatClampNeg (0 : Int32))), (q_t_refused, zI E 3 t_refused)]) (As := []) (st2 := [.int o12]) C [0, 1] [2] [1, 2, 0] rfl rfl rfl rfl (by decide) rfl rfl (c_X5_many F ho13) (goodVT consT W_774 W_776 W_28 W_62 W_777) rfl rfl rfl hd_X5_many ⟨Nat.le_of_ble_eq_true rfl, Nat.le_of_ble_eq_true rfl⟩ rfl rfl rfl (j := 0) rfl rfl rfl (Nat.le_of_ble_eq_true rfl) dX5_well_69 ⟨Nat.zero_le _, Nat.zero_le _⟩ ?_
          refine z_iconst (v := (1 : Int32)) C dX5_well_72 (by decide) ?_
          refine z_isub C dX5_well_73 ?_
          obtain rfl := Option.some.inj h
          exact z_iret (v := o12 - (1 : Int32)) C hr dX5_well_74
        · replace h := (if_pos c).symm.trans h
          refine z_aload_n C dX5_well_46 rfl 0 rfl ?_
          obtain ⟨o14, ho15, h⟩ := bnd_some h
          refine z_callV (wc := [(q_t, .inr (4, [.ref q_t_told, .ref q_t_kept, .ref q_t_isKept, .ref q_t_refused, .long t_above, .long t_below, .ref q_t_gets, .ref q_t_ahead, .int t_leftBehind, .ref q_t_dayGets, .ref q_t_dayDue, .ref q_t_own, .ref q_t_ownGets, .ref q_t_bestOwn, .ref q_t_alone, .ref q_t_atMuch, .ref q_t_hand, .ref q_t_his, .ref q_t_its, .ref q_t_bytes, .int t_bytesLong, .int t_tokenAt, .int t_tokenLong, .int t_token, .int t_value, .ref q_t_anew, .ref q_t_values, .int t_takenHours])), (q_t_refused, zI E 3 t_refused)]) (wr := [(q_t_told, zI E 251 t_told)]) (wc' := [(q_t, .inr (4, [.ref q_t_told, .ref q_t_kept, .ref q_t_isKept, .ref q_t_refused, .long t_above, .long t_below, .ref q_t_gets, .ref q_t_ahead, .int t_leftBehind, .ref q_t_dayGets, .ref q_t_dayDue, .ref q_t_own, .ref q_t_ownGets, .ref q_t_bestOwn, .ref q_t_alone, .ref q_t_atMuch, .ref q_t_hand, .ref q_t_his, .ref q_t_its, .ref q_t_bytes, .int t_bytesLong, .int t_tokenAt, .int t_tokenLong, .int t_token, .int t_value, .ref q_t_anew, .ref q_t_values, .int t_takenHours])), (q_t_refused, zI E 3 o14.2)]) (ws2 := [(q_t, .inr (4, [.ref q_t_told, .ref q_t_kept, .ref q_t_isKept, .ref q_t_refused, .long t_above, .long t_below, .ref q_t_gets, .ref q_t_ahead, .int t_leftBehind, .ref q_t_dayGets, .ref q_t_dayDue, .ref q_t_own, .ref q_t_ownGets, .ref q_t_bestOwn, .ref q_t_alone, .ref q_t_atMuch, .ref q_t_hand, .ref q_t_his, .ref q_t_its, .ref q_t_bytes, .int t_bytesLong, .int t_tokenAt, .int t_tokenLong, .int t_token, .int t_value, .ref q_t_anew, .ref q_t_values, .int t_takenHours])), (q_t_told, zI E 251 t_told), (q_t_refused, zI E 3 o14.2)]) (As := []) (st2 := [.int o14.1]) C [0, 2] [1] [1, 0, 2] rfl rfl rfl rfl (by decide) rfl rfl (c_X5_full F ho15) (goodVT consT W_788 W_790 W_29 W_62 W_791) rfl rfl rfl hd_X5_full ⟨Nat.le_of_ble_eq_true rfl, Nat.le_of_ble_eq_true rfl⟩ rfl rfl rfl (j := 0) rfl rfl rfl (Nat.le_of_ble_eq_true rfl) dX5_well_47 ⟨Nat.zero_le _, Nat.zero_le _⟩ ?_
          obtain rfl := Option.some.inj h
          exact z_iret (v := o14.1) C hr dX5_well_50
      · replace h := (if_pos c).symm.trans h
        refine z_sub [0] (L' := [(0, .ref q_t)]) rfl ?_
        exact (l_X5_well_b31 F a1 a2 a3 C hr) t_told t_refused h
def rm_X5_getsAs : Room := { frames := 0, cells := 0, slots := 0, locals := 0 }
theorem hd_X5_getsAs : yX5_getsAs.cls ≠ "java/lang/invoke/MethodHandle" ∧ yX5_getsAs.cls ≠ "java/lang/invoke/VarHandle" ∧ (parseMethodDescriptor yX5_getsAs.desc).map (fun d => d.parameters.length) = some 4 := by decide +kernel
abbrev wsX5_getsAs : List Cond := .code yX5_getsAs cX5_getsAs 6 (some .int) :: WALL
set_option maxRecDepth 100000 in
set_option maxHeartbeats 4000000 in
theorem l_X5_getsAs_b27 {p : Program} {l : Launch} {e : Env} {s : State} {m : MethodId} {args : Array Value} {below : List Frame} {meth : Method} {c : Code} {E : zE} {A : Nat → Prop} {o : Int32} (F : Nat) (a0 : Int32) (a1 : Int32) (a2 : Int32) (a3 : Int32) (C : zC p s m args c meth cX5_getsAs 6 RX5 wsX5_getsAs E A) (hr : meth.sig.returnType = some .int) : ∀  (v4 : Int32) (s0 : Int32), f_X5_getsAs_b27 F a0 a1 a2 a3 v4 s0 = some o → zG p l e rm_X5_getsAs s m args below meth c 6 E A 0 0 (MQ below (zQ E A (some (.int o)) []) args s 0 0 A) [] 27 [(0, .int a0), (1, .int a1), (3, .int a3), (4, .int v4)] [.int s0] := by
  intro v4 s0 h
  rw [f_X5_getsAs_b27] at h
  refine z_istore (L' := [(5, .int s0), (0, .int a0), (1, .int a1), (3, .int a3), (4, .int v4)]) C dX5_getsAs_27 (by decide) rfl ?_
  refine z_iload_n C dX5_getsAs_29 rfl 1 rfl ?_
  by_cases e2 : a0 = (2 : Int32)
  · replace h := (if_pos e2).symm.trans h
    refine z_tabIn (tgt := 60) C dX5_getsAs_30 (by rw [e2]; decide) (by rw [e2]; decide) (by rw [e2]; rfl) (by decide) ?_
    refine z_iload C dX5_getsAs_60 0 rfl ?_
    obtain rfl := Option.some.inj h
    exact z_iret (v := s0) C hr dX5_getsAs_62
  · replace h := (if_neg e2).symm.trans h
    by_cases e3 : a0 = (3 : Int32)
    · replace h := (if_pos e3).symm.trans h
      refine z_tabIn (tgt := 94) C dX5_getsAs_30 (by rw [e3]; decide) (by rw [e3]; decide) (by rw [e3]; rfl) (by decide) ?_
      refine z_iload C dX5_getsAs_94 4 rfl ?_
      obtain rfl := Option.some.inj h
      exact z_iret (v := v4) C hr dX5_getsAs_96
    · replace h := (if_neg e3).symm.trans h
      by_cases e4 : a0 = (4 : Int32)
      · replace h := (if_pos e4).symm.trans h
        refine z_tabIn (tgt := 63) C dX5_getsAs_30 (by rw [e4]; decide) (by rw [e4]; decide) (by rw [e4]; rfl) (by decide) ?_
        refine z_iload_n C dX5_getsAs_63 rfl 2 rfl ?_
        refine z_iconst (v := (2 : Int32)) C dX5_getsAs_64 (by decide) ?_
        refine z_irem C dX5_getsAs_65 (by decide) ?_
        refine z_iconst (v := (1 : Int32)) C dX5_getsAs_66 (by decide) ?_
        refine z_icmp_ne (tgt := 75) C dX5_getsAs_67 (by decide) (fun c => ?_) (fun c => ?_)
        · replace h := (if_neg c).symm.trans h
          refine z_iconst (v := (0 : Int32)) C dX5_getsAs_75 (by decide) ?_
          obtain rfl := Option.some.inj h
          exact z_iret (v := (0 : Int32)) C hr dX5_getsAs_76
        · replace h := (if_pos c).symm.trans h
          refine z_iload C dX5_getsAs_70 4 rfl ?_
          refine z_goto (tgt := 76) C dX5_getsAs_72 (by decide) ?_
          obtain rfl := Option.some.inj h
          exact z_iret (v := v4) C hr dX5_getsAs_76
      · replace h := (if_neg e4).symm.trans h
        by_cases e5 : a0 = (5 : Int32)
        · replace h := (if_pos e5).symm.trans h
          refine z_tabIn (tgt := 77) C dX5_getsAs_30 (by rw [e5]; decide) (by rw [e5]; decide) (by rw [e5]; rfl) (by decide) ?_
          refine z_iconst (v := (2 : Int32)) C dX5_getsAs_77 (by decide) ?_
          refine z_iload C dX5_getsAs_78 0 rfl ?_
          refine z_imul C dX5_getsAs_80 ?_
          refine z_iload_n C dX5_getsAs_81 rfl 3 rfl ?_
          refine z_icmp_ge (tgt := 92) C dX5_getsAs_82 (by decide) (fun c => ?_) (fun c => ?_)
          · replace h := (if_pos c).symm.trans h
            refine z_iload_n C dX5_getsAs_92 rfl 3 rfl ?_
            obtain rfl := Option.some.inj h
            exact z_iret (v := a3) C hr dX5_getsAs_93
          · replace h := (if_neg c).symm.trans h
            refine z_iconst (v := (2 : Int32)) C dX5_getsAs_85 (by decide) ?_
            refine z_iload C dX5_getsAs_86 0 rfl ?_
            refine z_imul C dX5_getsAs_88 ?_
            refine z_goto (tgt := 93) C dX5_getsAs_89 (by decide) ?_
            obtain rfl := Option.some.inj h
            exact z_iret (v := (2 : Int32) * s0) C hr dX5_getsAs_93
        · replace h := (if_neg e5).symm.trans h
          have g2 := lv_neT (a := 2) e2 (by decide)
          have g3 := lv_neT (a := 3) e3 (by decide)
          have g4 := lv_neT (a := 4) e4 (by decide)
          have g5 := lv_neT (a := 5) e5 (by decide)
          refine z_tabOut (tgt := 94) C dX5_getsAs_30 (by omega) (by decide) ?_
          refine z_iload C dX5_getsAs_94 4 rfl ?_
          obtain rfl := Option.some.inj h
          exact z_iret (v := v4) C hr dX5_getsAs_96
set_option maxRecDepth 100000 in
set_option maxHeartbeats 4000000 in
theorem l_X5_getsAs_b10 {p : Program} {l : Launch} {e : Env} {s : State} {m : MethodId} {args : Array Value} {below : List Frame} {meth : Method} {c : Code} {E : zE} {A : Nat → Prop} {o : Int32} (F : Nat) (a0 : Int32) (a1 : Int32) (a2 : Int32) (a3 : Int32) (C : zC p s m args c meth cX5_getsAs 6 RX5 wsX5_getsAs E A) (hr : meth.sig.returnType = some .int) : ∀  (s0 : Int32), f_X5_getsAs_b10 F a0 a1 a2 a3 s0 = some o → zG p l e rm_X5_getsAs s m args below meth c 6 E A 0 0 (MQ below (zQ E A (some (.int o)) []) args s 0 0 A) [] 10 [(0, .int a0), (1, .int a1), (3, .int a3)] [.int s0] := by
  intro s0 h
  rw [f_X5_getsAs_b10] at h
  refine z_istore (L' := [(4, .int s0), (0, .int a0), (1, .int a1), (3, .int a3)]) C dX5_getsAs_10 (by decide) rfl ?_
  refine z_iload_n C dX5_getsAs_12 rfl 3 rfl ?_
  refine z_bipush (v := (10 : Int32)) C dX5_getsAs_13 (by decide) ?_
  refine z_icmp_ge (tgt := 25) C dX5_getsAs_15 (by decide) (fun c => ?_) (fun c => ?_)
  · replace h := (if_pos c).symm.trans h
    refine z_iload C dX5_getsAs_25 0 rfl ?_
    refine z_sub [1, 2, 3, 0] (L' := [(0, .int a0), (1, .int a1), (3, .int a3), (4, .int s0)]) rfl ?_
    exact (l_X5_getsAs_b27 F a0 a1 a2 a3 C hr) s0 s0 h
  · replace h := (if_neg c).symm.trans h
    refine z_iload C dX5_getsAs_18 0 rfl ?_
    refine z_iconst (v := (2 : Int32)) C dX5_getsAs_20 (by decide) ?_
    refine z_idiv C dX5_getsAs_21 (by decide) ?_
    refine z_goto (tgt := 27) C dX5_getsAs_22 (by decide) ?_
    refine z_sub [1, 2, 3, 0] (L' := [(0, .int a0), (1, .int a1), (3, .int a3), (4, .int s0)]) rfl ?_
    exact (l_X5_getsAs_b27 F a0 a1 a2 a3 C hr) s0 (s0 / (2 : Int32)) h
set_option maxRecDepth 100000 in
set_option maxHeartbeats 4000000 in
theorem c_X5_getsAs {l : Launch} {E : zE} {a0 : Int32} {a1 : Int32} {a2 : Int32} {a3 : Int32} {o : Int32} (F : Nat) (h : f_X5_getsAs F a0 a1 a2 a3 = some o) : zM l yX5_getsAs wsX5_getsAs rm_X5_getsAs E [.int a0, .int a1, .int a2, .int a3] [] (some (.int o)) [] := by
  refine zM.of (cc := cX5_getsAs) (maxL := 6) (ret := (some .int)) (by decide +kernel) rfl (Nat.le_of_ble_eq_true rfl) ?_
  intro p e s m args below meth c A C hr
  have C : zC p s m args c meth cX5_getsAs 6 RX5 wsX5_getsAs E A := C
  rw [f_X5_getsAs] at h
  refine z_iload_n C dX5_getsAs_0 rfl 2 rfl ?_
  refine z_iload_n C dX5_getsAs_1 rfl 3 rfl ?_
  refine z_icmp_ge (tgt := 9) C dX5_getsAs_2 (by decide) (fun c => ?_) (fun c => ?_)
  · replace h := (if_pos c).symm.trans h
    refine z_iload_n C dX5_getsAs_9 rfl 3 rfl ?_
    refine z_sub [0, 1, 3] (L' := [(0, .int a0), (1, .int a1), (3, .int a3)]) rfl ?_
    exact (l_X5_getsAs_b10 F a0 a1 a2 a3 C hr) a3 h
  · replace h := (if_neg c).symm.trans h
    refine z_iload_n C dX5_getsAs_5 rfl 2 rfl ?_
    refine z_goto (tgt := 10) C dX5_getsAs_6 (by decide) ?_
    refine z_sub [0, 1, 3] (L' := [(0, .int a0), (1, .int a1), (3, .int a3)]) rfl ?_
    exact (l_X5_getsAs_b10 F a0 a1 a2 a3 C hr) a2 h
def rm_X5_dueAs : Room := { frames := 0, cells := 0, slots := 0, locals := 0 }
theorem hd_X5_dueAs : yX5_dueAs.cls ≠ "java/lang/invoke/MethodHandle" ∧ yX5_dueAs.cls ≠ "java/lang/invoke/VarHandle" ∧ (parseMethodDescriptor yX5_dueAs.desc).map (fun d => d.parameters.length) = some 2 := by decide +kernel
abbrev wsX5_dueAs : List Cond := .code yX5_dueAs cX5_dueAs 2 (some .int) :: WALL
set_option maxRecDepth 100000 in
set_option maxHeartbeats 4000000 in
theorem c_X5_dueAs {l : Launch} {E : zE} {a0 : Int32} {a1 : Int32} {o : Int32} (F : Nat) (h : f_X5_dueAs F a0 a1 = some o) : zM l yX5_dueAs wsX5_dueAs rm_X5_dueAs E [.int a0, .int a1] [] (some (.int o)) [] := by
  refine zM.of (cc := cX5_dueAs) (maxL := 2) (ret := (some .int)) (by decide +kernel) rfl (Nat.le_of_ble_eq_true rfl) ?_
  intro p e s m args below meth c A C hr
  have C : zC p s m args c meth cX5_dueAs 2 RX5 wsX5_dueAs E A := C
  rw [f_X5_dueAs] at h
  refine z_iload_n C dX5_dueAs_0 rfl 0 rfl ?_
  by_cases e1 : a0 = (1 : Int32)
  · replace h := (if_pos e1).symm.trans h
    refine z_tabIn (tgt := 36) C dX5_dueAs_1 (by rw [e1]; decide) (by rw [e1]; decide) (by rw [e1]; rfl) (by decide) ?_
    refine z_iconst (v := (2 : Int32)) C dX5_dueAs_36 (by decide) ?_
    refine z_iload_n C dX5_dueAs_37 rfl 1 rfl ?_
    refine z_imul C dX5_dueAs_38 ?_
    obtain rfl := Option.some.inj h
    exact z_iret (v := (2 : Int32) * a1) C hr dX5_dueAs_39
  · replace h := (if_neg e1).symm.trans h
    by_cases e2 : a0 = (2 : Int32)
    · replace h := (if_pos e2).symm.trans h
      refine z_tabIn (tgt := 55) C dX5_dueAs_1 (by rw [e2]; decide) (by rw [e2]; decide) (by rw [e2]; rfl) (by decide) ?_
      refine z_iload_n C dX5_dueAs_55 rfl 1 rfl ?_
      obtain rfl := Option.some.inj h
      exact z_iret (v := a1) C hr dX5_dueAs_56
    · replace h := (if_neg e2).symm.trans h
      by_cases e3 : a0 = (3 : Int32)
      · replace h := (if_pos e3).symm.trans h
        refine z_tabIn (tgt := 40) C dX5_dueAs_1 (by rw [e3]; decide) (by rw [e3]; decide) (by rw [e3]; rfl) (by decide) ?_
        refine z_iconst (v := (0 : Int32)) C dX5_dueAs_40 (by decide) ?_
        obtain rfl := Option.some.inj h
        exact z_iret (v := (0 : Int32)) C hr dX5_dueAs_41
      · replace h := (if_neg e3).symm.trans h
        by_cases e4 : a0 = (4 : Int32)
        · replace h := (if_pos e4).symm.trans h
          refine z_tabIn (tgt := 36) C dX5_dueAs_1 (by rw [e4]; decide) (by rw [e4]; decide) (by rw [e4]; rfl) (by decide) ?_
          refine z_iconst (v := (2 : Int32)) C dX5_dueAs_36 (by decide) ?_
          refine z_iload_n C dX5_dueAs_37 rfl 1 rfl ?_
          refine z_imul C dX5_dueAs_38 ?_
          obtain rfl := Option.some.inj h
          exact z_iret (v := (2 : Int32) * a1) C hr dX5_dueAs_39
        · replace h := (if_neg e4).symm.trans h
          by_cases e5 : a0 = (5 : Int32)
          · replace h := (if_pos e5).symm.trans h
            refine z_tabIn (tgt := 42) C dX5_dueAs_1 (by rw [e5]; decide) (by rw [e5]; decide) (by rw [e5]; rfl) (by decide) ?_
            refine z_iload_n C dX5_dueAs_42 rfl 1 rfl ?_
            refine z_iconst (v := (1 : Int32)) C dX5_dueAs_43 (by decide) ?_
            refine z_icmp_lt (tgt := 53) C dX5_dueAs_44 (by decide) (fun c => ?_) (fun c => ?_)
            · replace h := (if_pos c).symm.trans h
              refine z_iload_n C dX5_dueAs_53 rfl 1 rfl ?_
              obtain rfl := Option.some.inj h
              exact z_iret (v := a1) C hr dX5_dueAs_54
            · replace h := (if_neg c).symm.trans h
              refine z_iload_n C dX5_dueAs_47 rfl 1 rfl ?_
              refine z_iconst (v := (1 : Int32)) C dX5_dueAs_48 (by decide) ?_
              refine z_iadd C dX5_dueAs_49 ?_
              refine z_goto (tgt := 54) C dX5_dueAs_50 (by decide) ?_
              obtain rfl := Option.some.inj h
              exact z_iret (v := a1 + (1 : Int32)) C hr dX5_dueAs_54
          · replace h := (if_neg e5).symm.trans h
            have g1 := lv_neT (a := 1) e1 (by decide)
            have g2 := lv_neT (a := 2) e2 (by decide)
            have g3 := lv_neT (a := 3) e3 (by decide)
            have g4 := lv_neT (a := 4) e4 (by decide)
            have g5 := lv_neT (a := 5) e5 (by decide)
            refine z_tabOut (tgt := 55) C dX5_dueAs_1 (by omega) (by decide) ?_
            refine z_iload_n C dX5_dueAs_55 rfl 1 rfl ?_
            obtain rfl := Option.some.inj h
            exact z_iret (v := a1) C hr dX5_dueAs_56
def rm_X5_goHour : Room := { frames := 1, cells := 0, slots := 0, locals := 25 }
theorem hd_X5_goHour : yX5_goHour.cls = yX5_goHour.cls ∧ yX5_goHour.cls ≠ "java/lang/invoke/MethodHandle" ∧ yX5_goHour.cls ≠ "java/lang/invoke/VarHandle" ∧ (parseMethodDescriptor yX5_goHour.desc).map (fun d => d.parameters.length) = some 4 := by decide +kernel
abbrev wsX5_goHour : List Cond := .code yX5_goHour cX5_goHour 6 none :: WALL
set_option maxRecDepth 100000 in
set_option maxHeartbeats 4000000 in
theorem l_X5_goHour_b69 {p : Program} {l : Launch} {e : Env} {s : State} {m : MethodId} {args : Array Value} {below : List Frame} {meth : Method} {c : Code} {E : zE} {A : Nat → Prop} {q_t q_p1 q_t_ahead q_t_gets q_t_told q_t_kept q_t_isKept q_t_refused q_t_dayGets q_t_dayDue q_t_own q_t_ownGets q_t_bestOwn q_t_alone q_t_atMuch q_t_hand q_t_his q_t_its q_t_bytes q_t_anew q_t_values : Nat} {t_above : Int64} {t_below : Int64} {t_bytesLong : Int32} {t_tokenAt : Int32} {t_tokenLong : Int32} {t_token : Int32} {t_value : Int32} {t_takenHours : Int32} {o : Int32 × (Nat → Int32) × (Nat → Int32)} (F : Nat) (n_p1 : Nat) (a2 : Int32) (a3 : Int32) (a4 : Int32) (p1 : Nat → Int32) (K8 : Int32 → Int32 → (Nat → Int32) → (Nat → Int32) → Option (Int32 × (Nat → Int32) × (Nat → Int32))) (C : zC p s m args c meth cX5_goHour 6 RX5 wsX5_goHour E A) (hr : meth.sig.returnType = none) (hK8 : ∀ (v5 : Int32) (t_leftBehind : Int32) (t_ahead : Nat → Int32) (t_gets : Nat → Int32), K8 v5 t_leftBehind t_ahead t_gets = some o → zG p l e rm_X5_goHour s m args below meth c 6 E A 0 0 (MQ below (zQ E A none [(q_t, .inr (4, [.ref q_t_told, .ref q_t_kept, .ref q_t_isKept, .ref q_t_refused, .long t_above, .long t_below, .ref q_t_gets, .ref q_t_ahead, .int o.1, .ref q_t_dayGets, .ref q_t_dayDue, .ref q_t_own, .ref q_t_ownGets, .ref q_t_bestOwn, .ref q_t_alone, .ref q_t_atMuch, .ref q_t_hand, .ref q_t_his, .ref q_t_its, .ref q_t_bytes, .int t_bytesLong, .int t_tokenAt, .int t_tokenLong, .int t_token, .int t_value, .ref q_t_anew, .ref q_t_values, .int t_takenHours])), (q_p1, zI E n_p1 p1), (q_t_ahead, zI E 5 o.2.1), (q_t_gets, zI E 5 o.2.2)]) args s 0 0 A) [(q_t, .inr (4, [.ref q_t_told, .ref q_t_kept, .ref q_t_isKept, .ref q_t_refused, .long t_above, .long t_below, .ref q_t_gets, .ref q_t_ahead, .int t_leftBehind, .ref q_t_dayGets, .ref q_t_dayDue, .ref q_t_own, .ref q_t_ownGets, .ref q_t_bestOwn, .ref q_t_alone, .ref q_t_atMuch, .ref q_t_hand, .ref q_t_his, .ref q_t_its, .ref q_t_bytes, .int t_bytesLong, .int t_tokenAt, .int t_tokenLong, .int t_token, .int t_value, .ref q_t_anew, .ref q_t_values, .int t_takenHours])), (q_p1, zI E n_p1 p1), (q_t_ahead, zI E 5 t_ahead), (q_t_gets, zI E 5 t_gets)] 8 [(0, .ref q_t), (1, .ref q_p1), (2, .int a2), (4, .int a4), (5, .int v5)] []) : ∀  (v5 : Int32) (s1 : Int32) (s2 : Int32) (t_leftBehind : Int32) (t_ahead : Nat → Int32) (t_gets : Nat → Int32), f_X5_goHour_b69 F n_p1 a2 a3 a4 p1 K8 v5 s1 s2 t_leftBehind t_ahead t_gets = some o → zG p l e rm_X5_goHour s m args below meth c 6 E A 0 0 (MQ below (zQ E A none [(q_t, .inr (4, [.ref q_t_told, .ref q_t_kept, .ref q_t_isKept, .ref q_t_refused, .long t_above, .long t_below, .ref q_t_gets, .ref q_t_ahead, .int o.1, .ref q_t_dayGets, .ref q_t_dayDue, .ref q_t_own, .ref q_t_ownGets, .ref q_t_bestOwn, .ref q_t_alone, .ref q_t_atMuch, .ref q_t_hand, .ref q_t_his, .ref q_t_its, .ref q_t_bytes, .int t_bytesLong, .int t_tokenAt, .int t_tokenLong, .int t_token, .int t_value, .ref q_t_anew, .ref q_t_values, .int t_takenHours])), (q_p1, zI E n_p1 p1), (q_t_ahead, zI E 5 o.2.1), (q_t_gets, zI E 5 o.2.2)]) args s 0 0 A) [(q_t, .inr (4, [.ref q_t_told, .ref q_t_kept, .ref q_t_isKept, .ref q_t_refused, .long t_above, .long t_below, .ref q_t_gets, .ref q_t_ahead, .int t_leftBehind, .ref q_t_dayGets, .ref q_t_dayDue, .ref q_t_own, .ref q_t_ownGets, .ref q_t_bestOwn, .ref q_t_alone, .ref q_t_atMuch, .ref q_t_hand, .ref q_t_his, .ref q_t_its, .ref q_t_bytes, .int t_bytesLong, .int t_tokenAt, .int t_tokenLong, .int t_token, .int t_value, .ref q_t_anew, .ref q_t_values, .int t_takenHours])), (q_p1, zI E n_p1 p1), (q_t_ahead, zI E 5 t_ahead), (q_t_gets, zI E 5 t_gets)] 69 [(0, .ref q_t), (1, .ref q_p1), (2, .int a2), (4, .int a4), (5, .int v5)] [.int s2, .int s1, .ref q_t_gets] := by
  intro v5 s1 s2 t_leftBehind t_ahead t_gets h
  rw [f_X5_goHour_b69] at h
  obtain ⟨c9, h⟩ := chk_some h
  refine z_iast (ws' := [(q_t, .inr (4, [.ref q_t_told, .ref q_t_kept, .ref q_t_isKept, .ref q_t_refused, .long t_above, .long t_below, .ref q_t_gets, .ref q_t_ahead, .int t_leftBehind, .ref q_t_dayGets, .ref q_t_dayDue, .ref q_t_own, .ref q_t_ownGets, .ref q_t_bestOwn, .ref q_t_alone, .ref q_t_atMuch, .ref q_t_hand, .ref q_t_his, .ref q_t_its, .ref q_t_bytes, .int t_bytesLong, .int t_tokenAt, .int t_tokenLong, .int t_token, .int t_value, .ref q_t_anew, .ref q_t_values, .int t_takenHours])), (q_p1, zI E n_p1 p1), (q_t_ahead, zI E 5 t_ahead), (q_t_gets, zI E 5 (upd t_gets s1.toNatClampNeg s2))]) C 3 rfl c9 rfl dX5_goHour_69 ?_
  refine z_aload_n C dX5_goHour_70 rfl 0 rfl ?_
  refine z_dup C dX5_goHour_71 rfl ?_
  refine z_get C inT_X5 0 rfl rfl 8 (by decide) rfl (mc W_681) rfl dX5_goHour_72 ?_
  refine z_aload_n C dX5_goHour_75 rfl 0 rfl ?_
  refine z_get C inT_X5 0 rfl rfl 6 (by decide) rfl (mc W_679) rfl dX5_goHour_76 ?_
  refine z_iload C dX5_goHour_79 4 rfl ?_
  obtain ⟨c10, h⟩ := chk_some h
  refine z_iald C 3 rfl c10 dX5_goHour_81 ?_
  refine z_isub C dX5_goHour_82 ?_
  refine z_put (ws' := [(q_t, .inr (4, [.ref q_t_told, .ref q_t_kept, .ref q_t_isKept, .ref q_t_refused, .long t_above, .long t_below, .ref q_t_gets, .ref q_t_ahead, .int (t_leftBehind - ((upd t_gets s1.toNatClampNeg s2) v5.toNatClampNeg)), .ref q_t_dayGets, .ref q_t_dayDue, .ref q_t_own, .ref q_t_ownGets, .ref q_t_bestOwn, .ref q_t_alone, .ref q_t_atMuch, .ref q_t_hand, .ref q_t_his, .ref q_t_its, .ref q_t_bytes, .int t_bytesLong, .int t_tokenAt, .int t_tokenLong, .int t_token, .int t_value, .ref q_t_anew, .ref q_t_values, .int t_takenHours])), (q_p1, zI E n_p1 p1), (q_t_ahead, zI E 5 t_ahead), (q_t_gets, zI E 5 (upd t_gets s1.toNatClampNeg s2))]) C inT_X5 tyX5 tyX5_ok nmX5 0 rfl rfl 8 (by decide) rfl (mc W_681) rfl rfl rfl (Nat.le_of_ble_eq_true rfl) rfl dX5_goHour_83 ?_
  refine z_iinc (v := v5 + (1 : Int32)) (L' := [(5, .int (v5 + (1 : Int32))), (0, .ref q_t), (1, .ref q_p1), (2, .int a2), (4, .int a4)]) C dX5_goHour_86 4 rfl rfl (by decide) rfl ?_
  refine z_goto (tgt := 8) C dX5_goHour_89 (by decide) ?_
  refine z_sub [1, 2, 3, 4, 0] (L' := [(0, .ref q_t), (1, .ref q_p1), (2, .int a2), (4, .int a4), (5, .int (v5 + (1 : Int32)))]) rfl ?_
  exact hK8 (v5 + (1 : Int32)) (t_leftBehind - ((upd t_gets s1.toNatClampNeg s2) v5.toNatClampNeg)) t_ahead (upd t_gets s1.toNatClampNeg s2) h
set_option maxRecDepth 100000 in
set_option maxHeartbeats 4000000 in
theorem l_X5_goHour_b8 {p : Program} {l : Launch} {e : Env} {s : State} {m : MethodId} {args : Array Value} {below : List Frame} {meth : Method} {c : Code} {E : zE} {A : Nat → Prop} {q_t q_p1 q_t_ahead q_t_gets q_t_told q_t_kept q_t_isKept q_t_refused q_t_dayGets q_t_dayDue q_t_own q_t_ownGets q_t_bestOwn q_t_alone q_t_atMuch q_t_hand q_t_his q_t_its q_t_bytes q_t_anew q_t_values : Nat} {t_above : Int64} {t_below : Int64} {t_bytesLong : Int32} {t_tokenAt : Int32} {t_tokenLong : Int32} {t_token : Int32} {t_value : Int32} {t_takenHours : Int32} {o : Int32 × (Nat → Int32) × (Nat → Int32)} (F : Nat) (n_p1 : Nat) (a2 : Int32) (a3 : Int32) (a4 : Int32) (p1 : Nat → Int32) (C : zC p s m args c meth cX5_goHour 6 RX5 wsX5_goHour E A) (hr : meth.sig.returnType = none) : ∀ (n : Nat) (v5 : Int32) (t_leftBehind : Int32) (t_ahead : Nat → Int32) (t_gets : Nat → Int32), f_X5_goHour_b8 F n_p1 a2 a3 a4 p1 n v5 t_leftBehind t_ahead t_gets = some o → zG p l e rm_X5_goHour s m args below meth c 6 E A 0 0 (MQ below (zQ E A none [(q_t, .inr (4, [.ref q_t_told, .ref q_t_kept, .ref q_t_isKept, .ref q_t_refused, .long t_above, .long t_below, .ref q_t_gets, .ref q_t_ahead, .int o.1, .ref q_t_dayGets, .ref q_t_dayDue, .ref q_t_own, .ref q_t_ownGets, .ref q_t_bestOwn, .ref q_t_alone, .ref q_t_atMuch, .ref q_t_hand, .ref q_t_his, .ref q_t_its, .ref q_t_bytes, .int t_bytesLong, .int t_tokenAt, .int t_tokenLong, .int t_token, .int t_value, .ref q_t_anew, .ref q_t_values, .int t_takenHours])), (q_p1, zI E n_p1 p1), (q_t_ahead, zI E 5 o.2.1), (q_t_gets, zI E 5 o.2.2)]) args s 0 0 A) [(q_t, .inr (4, [.ref q_t_told, .ref q_t_kept, .ref q_t_isKept, .ref q_t_refused, .long t_above, .long t_below, .ref q_t_gets, .ref q_t_ahead, .int t_leftBehind, .ref q_t_dayGets, .ref q_t_dayDue, .ref q_t_own, .ref q_t_ownGets, .ref q_t_bestOwn, .ref q_t_alone, .ref q_t_atMuch, .ref q_t_hand, .ref q_t_his, .ref q_t_its, .ref q_t_bytes, .int t_bytesLong, .int t_tokenAt, .int t_tokenLong, .int t_token, .int t_value, .ref q_t_anew, .ref q_t_values, .int t_takenHours])), (q_p1, zI E n_p1 p1), (q_t_ahead, zI E 5 t_ahead), (q_t_gets, zI E 5 t_gets)] 8 [(0, .ref q_t), (1, .ref q_p1), (2, .int a2), (4, .int a4), (5, .int v5)] [] := by
  intro n
  induction n with
  | zero =>
    intro v5 t_leftBehind t_ahead t_gets h
    rw [f_X5_goHour_b8] at h
    cases h
  | succ n ih =>
    intro v5 t_leftBehind t_ahead t_gets h
    rw [f_X5_goHour_b8] at h
    refine z_iload C dX5_goHour_8 4 rfl ?_
    refine z_aload_n C dX5_goHour_10 rfl 1 rfl ?_
    refine z_iconst (v := (0 : Int32)) C dX5_goHour_11 (by decide) ?_
    obtain ⟨c1, h⟩ := chk_some h
    refine z_iald C 1 rfl c1 dX5_goHour_12 ?_
    refine z_icmp_ge (tgt := 92) C dX5_goHour_13 (by decide) (fun c => ?_) (fun c => ?_)
    · replace h := (if_pos c).symm.trans h
      obtain rfl := Option.some.inj h
      exact z_vret C hr dX5_goHour_92
    · replace h := (if_neg c).symm.trans h
      refine z_aload_n C dX5_goHour_16 rfl 0 rfl ?_
      refine z_get C inT_X5 0 rfl rfl 7 (by decide) rfl (mc W_680) rfl dX5_goHour_17 ?_
      refine z_iload C dX5_goHour_20 4 rfl ?_
      refine z_aload_n C dX5_goHour_22 rfl 0 rfl ?_
      refine z_get C inT_X5 0 rfl rfl 8 (by decide) rfl (mc W_681) rfl dX5_goHour_23 ?_
      obtain ⟨c2, h⟩ := chk_some h
      refine z_iast (ws' := [(q_t, .inr (4, [.ref q_t_told, .ref q_t_kept, .ref q_t_isKept, .ref q_t_refused, .long t_above, .long t_below, .ref q_t_gets, .ref q_t_ahead, .int t_leftBehind, .ref q_t_dayGets, .ref q_t_dayDue, .ref q_t_own, .ref q_t_ownGets, .ref q_t_bestOwn, .ref q_t_alone, .ref q_t_atMuch, .ref q_t_hand, .ref q_t_his, .ref q_t_its, .ref q_t_bytes, .int t_bytesLong, .int t_tokenAt, .int t_tokenLong, .int t_token, .int t_value, .ref q_t_anew, .ref q_t_values, .int t_takenHours])), (q_p1, zI E n_p1 p1), (q_t_ahead, zI E 5 (upd t_ahead v5.toNatClampNeg t_leftBehind)), (q_t_gets, zI E 5 t_gets)]) C 2 rfl c2 rfl dX5_goHour_26 ?_
      refine z_aload_n C dX5_goHour_27 rfl 0 rfl ?_
      refine z_get C inT_X5 0 rfl rfl 6 (by decide) rfl (mc W_679) rfl dX5_goHour_28 ?_
      refine z_iload C dX5_goHour_31 4 rfl ?_
      refine z_iload C dX5_goHour_33 3 rfl ?_
      refine z_iload C dX5_goHour_35 4 rfl ?_
      obtain ⟨o3, ho4, h⟩ := bnd_some h
      refine z_callS (wc := []) (wr := [(q_t, .inr (4, [.ref q_t_told, .ref q_t_kept, .ref q_t_isKept, .ref q_t_refused, .long t_above, .long t_below, .ref q_t_gets, .ref q_t_ahead, .int t_leftBehind, .ref q_t_dayGets, .ref q_t_dayDue, .ref q_t_own, .ref q_t_ownGets, .ref q_t_bestOwn, .ref q_t_alone, .ref q_t_atMuch, .ref q_t_hand, .ref q_t_his, .ref q_t_its, .ref q_t_bytes, .int t_bytesLong, .int t_tokenAt, .int t_tokenLong, .int t_token, .int t_value, .ref q_t_anew, .ref q_t_values, .int t_takenHours])), (q_p1, zI E n_p1 p1), (q_t_ahead, zI E 5 (upd t_ahead v5.toNatClampNeg t_leftBehind)), (q_t_gets, zI E 5 t_gets)]) (wc' := []) (ws2 := [(q_t, .inr (4, [.ref q_t_told, .ref q_t_kept, .ref q_t_isKept, .ref q_t_refused, .long t_above, .long t_below, .ref q_t_gets, .ref q_t_ahead, .int t_leftBehind, .ref q_t_dayGets, .ref q_t_dayDue, .ref q_t_own, .ref q_t_ownGets, .ref q_t_bestOwn, .ref q_t_alone, .ref q_t_atMuch, .ref q_t_hand, .ref q_t_his, .ref q_t_its, .ref q_t_bytes, .int t_bytesLong, .int t_tokenAt, .int t_tokenLong, .int t_token, .int t_value, .ref q_t_anew, .ref q_t_values, .int t_takenHours])), (q_p1, zI E n_p1 p1), (q_t_ahead, zI E 5 (upd t_ahead v5.toNatClampNeg t_leftBehind)), (q_t_gets, zI E 5 t_gets)]) (As := [.int a4, .int v5]) (st2 := [.int o3, .int v5, .ref q_t_gets]) C [] [0, 1, 2, 3] [0, 1, 2, 3] rfl rfl rfl rfl (by decide) rfl rfl (c_X5_has F ho4) (goodST consT W_815 W_816 W_62 W_817) rfl rfl rfl hd_X5_has ⟨Nat.le_of_ble_eq_true rfl, Nat.le_of_ble_eq_true rfl⟩ rfl rfl rfl (Nat.le_of_ble_eq_true rfl) dX5_goHour_37 ⟨Nat.zero_le _, Nat.zero_le _⟩ ?_
      refine z_if_eq (tgt := 68) C dX5_goHour_40 (by decide) (fun c => ?_) (fun c => ?_)
      · replace h := (if_pos c).symm.trans h
        refine z_iconst (v := (0 : Int32)) C dX5_goHour_68 (by decide) ?_
        exact (l_X5_goHour_b69 F n_p1 a2 a3 a4 p1 (f_X5_goHour_b8 F n_p1 a2 a3 a4 p1 n) C hr ih) v5 v5 (0 : Int32) t_leftBehind (upd t_ahead v5.toNatClampNeg t_leftBehind) t_gets h
      · replace h := (if_neg c).symm.trans h
        refine z_aload_n C dX5_goHour_43 rfl 1 rfl ?_
        refine z_bipush (v := (26 : Int32)) C dX5_goHour_44 (by decide) ?_
        refine z_iload C dX5_goHour_46 4 rfl ?_
        refine z_iadd C dX5_goHour_48 ?_
        obtain ⟨c5, h⟩ := chk_some h
        refine z_iald C 1 rfl c5 dX5_goHour_49 ?_
        refine z_iload_n C dX5_goHour_50 rfl 2 rfl ?_
        refine z_aload_n C dX5_goHour_51 rfl 1 rfl ?_
        refine z_bipush (v := (19 : Int32)) C dX5_goHour_52 (by decide) ?_
        refine z_iload C dX5_goHour_54 4 rfl ?_
        refine z_iadd C dX5_goHour_56 ?_
        obtain ⟨c6, h⟩ := chk_some h
        refine z_iald C 1 rfl c6 dX5_goHour_57 ?_
        refine z_aload_n C dX5_goHour_58 rfl 0 rfl ?_
        refine z_get C inT_X5 0 rfl rfl 8 (by decide) rfl (mc W_681) rfl dX5_goHour_59 ?_
        obtain ⟨o7, ho8, h⟩ := bnd_some h
        refine z_callS (wc := []) (wr := [(q_t, .inr (4, [.ref q_t_told, .ref q_t_kept, .ref q_t_isKept, .ref q_t_refused, .long t_above, .long t_below, .ref q_t_gets, .ref q_t_ahead, .int t_leftBehind, .ref q_t_dayGets, .ref q_t_dayDue, .ref q_t_own, .ref q_t_ownGets, .ref q_t_bestOwn, .ref q_t_alone, .ref q_t_atMuch, .ref q_t_hand, .ref q_t_his, .ref q_t_its, .ref q_t_bytes, .int t_bytesLong, .int t_tokenAt, .int t_tokenLong, .int t_token, .int t_value, .ref q_t_anew, .ref q_t_values, .int t_takenHours])), (q_p1, zI E n_p1 p1), (q_t_ahead, zI E 5 (upd t_ahead v5.toNatClampNeg t_leftBehind)), (q_t_gets, zI E 5 t_gets)]) (wc' := []) (ws2 := [(q_t, .inr (4, [.ref q_t_told, .ref q_t_kept, .ref q_t_isKept, .ref q_t_refused, .long t_above, .long t_below, .ref q_t_gets, .ref q_t_ahead, .int t_leftBehind, .ref q_t_dayGets, .ref q_t_dayDue, .ref q_t_own, .ref q_t_ownGets, .ref q_t_bestOwn, .ref q_t_alone, .ref q_t_atMuch, .ref q_t_hand, .ref q_t_his, .ref q_t_its, .ref q_t_bytes, .int t_bytesLong, .int t_tokenAt, .int t_tokenLong, .int t_token, .int t_value, .ref q_t_anew, .ref q_t_values, .int t_takenHours])), (q_p1, zI E n_p1 p1), (q_t_ahead, zI E 5 (upd t_ahead v5.toNatClampNeg t_leftBehind)), (q_t_gets, zI E 5 t_gets)]) (As := [.int (p1 ((26 : Int32) + v5).toNatClampNeg), .int a2, .int (p1 ((19 : Int32) + v5).toNatClampNeg), .int t_leftBehind]) (st2 := [.int o7, .int v5, .ref q_t_gets]) C [] [0, 1, 2, 3] [0, 1, 2, 3] rfl rfl rfl rfl (by decide) rfl rfl (c_X5_getsAs F ho8) (goodST consT W_822 W_823 W_62 W_824) rfl rfl rfl hd_X5_getsAs ⟨Nat.le_of_ble_eq_true rfl, Nat.le_of_ble_eq_true rfl⟩ rfl rfl rfl (Nat.le_of_ble_eq_true rfl) dX5_goHour_62 ⟨Nat.zero_le _, Nat.zero_le _⟩ ?_
        refine z_goto (tgt := 69) C dX5_goHour_65 (by decide) ?_
        exact (l_X5_goHour_b69 F n_p1 a2 a3 a4 p1 (f_X5_goHour_b8 F n_p1 a2 a3 a4 p1 n) C hr ih) v5 v5 o7 t_leftBehind (upd t_ahead v5.toNatClampNeg t_leftBehind) t_gets h
set_option maxRecDepth 100000 in
set_option maxHeartbeats 4000000 in
theorem c_X5_goHour {l : Launch} {E : zE} {q_t q_p1 q_t_ahead q_t_gets q_t_told q_t_kept q_t_isKept q_t_refused q_t_dayGets q_t_dayDue q_t_own q_t_ownGets q_t_bestOwn q_t_alone q_t_atMuch q_t_hand q_t_his q_t_its q_t_bytes q_t_anew q_t_values : Nat} {t_above : Int64} {t_below : Int64} {t_bytesLong : Int32} {t_tokenAt : Int32} {t_tokenLong : Int32} {t_token : Int32} {t_value : Int32} {t_takenHours : Int32} {n_p1 : Nat} {a2 : Int32} {a3 : Int32} {a4 : Int32} {p1 : Nat → Int32} {t_leftBehind : Int32} {t_ahead : Nat → Int32} {t_gets : Nat → Int32} {o : Int32 × (Nat → Int32) × (Nat → Int32)} (F : Nat) (h : f_X5_goHour F n_p1 a2 a3 a4 p1 t_leftBehind t_ahead t_gets = some o) : zM l yX5_goHour wsX5_goHour rm_X5_goHour E [.ref q_t, .ref q_p1, .int a2, .int a3, .int a4] [(q_t, .inr (4, [.ref q_t_told, .ref q_t_kept, .ref q_t_isKept, .ref q_t_refused, .long t_above, .long t_below, .ref q_t_gets, .ref q_t_ahead, .int t_leftBehind, .ref q_t_dayGets, .ref q_t_dayDue, .ref q_t_own, .ref q_t_ownGets, .ref q_t_bestOwn, .ref q_t_alone, .ref q_t_atMuch, .ref q_t_hand, .ref q_t_his, .ref q_t_its, .ref q_t_bytes, .int t_bytesLong, .int t_tokenAt, .int t_tokenLong, .int t_token, .int t_value, .ref q_t_anew, .ref q_t_values, .int t_takenHours])), (q_p1, zI E n_p1 p1), (q_t_ahead, zI E 5 t_ahead), (q_t_gets, zI E 5 t_gets)] none [(q_t, .inr (4, [.ref q_t_told, .ref q_t_kept, .ref q_t_isKept, .ref q_t_refused, .long t_above, .long t_below, .ref q_t_gets, .ref q_t_ahead, .int o.1, .ref q_t_dayGets, .ref q_t_dayDue, .ref q_t_own, .ref q_t_ownGets, .ref q_t_bestOwn, .ref q_t_alone, .ref q_t_atMuch, .ref q_t_hand, .ref q_t_his, .ref q_t_its, .ref q_t_bytes, .int t_bytesLong, .int t_tokenAt, .int t_tokenLong, .int t_token, .int t_value, .ref q_t_anew, .ref q_t_values, .int t_takenHours])), (q_p1, zI E n_p1 p1), (q_t_ahead, zI E 5 o.2.1), (q_t_gets, zI E 5 o.2.2)] := by
  refine zM.of (cc := cX5_goHour) (maxL := 6) (ret := none) (by decide +kernel) rfl (Nat.le_of_ble_eq_true rfl) ?_
  intro p e s m args below meth c A C hr
  have C : zC p s m args c meth cX5_goHour 6 RX5 wsX5_goHour E A := C
  rw [f_X5_goHour] at h
  refine z_aload_n C dX5_goHour_0 rfl 0 rfl ?_
  refine z_iload_n C dX5_goHour_1 rfl 3 rfl ?_
  refine z_put (ws' := [(q_t, .inr (4, [.ref q_t_told, .ref q_t_kept, .ref q_t_isKept, .ref q_t_refused, .long t_above, .long t_below, .ref q_t_gets, .ref q_t_ahead, .int a3, .ref q_t_dayGets, .ref q_t_dayDue, .ref q_t_own, .ref q_t_ownGets, .ref q_t_bestOwn, .ref q_t_alone, .ref q_t_atMuch, .ref q_t_hand, .ref q_t_his, .ref q_t_its, .ref q_t_bytes, .int t_bytesLong, .int t_tokenAt, .int t_tokenLong, .int t_token, .int t_value, .ref q_t_anew, .ref q_t_values, .int t_takenHours])), (q_p1, zI E n_p1 p1), (q_t_ahead, zI E 5 t_ahead), (q_t_gets, zI E 5 t_gets)]) C inT_X5 tyX5 tyX5_ok nmX5 0 rfl rfl 8 (by decide) rfl (mc W_681) rfl rfl rfl (Nat.le_of_ble_eq_true rfl) rfl dX5_goHour_2 ?_
  refine z_iconst (v := (0 : Int32)) C dX5_goHour_5 (by decide) ?_
  refine z_istore (L' := [(5, .int (0 : Int32)), (0, .ref q_t), (1, .ref q_p1), (2, .int a2), (3, .int a3), (4, .int a4)]) C dX5_goHour_6 (by decide) rfl ?_
  refine z_sub [1, 2, 3, 5, 0] (L' := [(0, .ref q_t), (1, .ref q_p1), (2, .int a2), (4, .int a4), (5, .int (0 : Int32))]) rfl ?_
  exact (l_X5_goHour_b8 F n_p1 a2 a3 a4 p1 C hr F) (0 : Int32) a3 t_ahead t_gets h
def rm_X5_openIn : Room := { frames := 1, cells := 0, slots := 0, locals := 21 }
theorem hd_X5_openIn : yX5_openIn.cls ≠ "java/lang/invoke/MethodHandle" ∧ yX5_openIn.cls ≠ "java/lang/invoke/VarHandle" ∧ (parseMethodDescriptor yX5_openIn.desc).map (fun d => d.parameters.length) = some 2 := by decide +kernel
abbrev wsX5_openIn : List Cond := .code yX5_openIn cX5_openIn 4 (some .int) :: WALL
set_option maxRecDepth 100000 in
set_option maxHeartbeats 4000000 in
theorem l_X5_openIn_b32 {p : Program} {l : Launch} {e : Env} {s : State} {m : MethodId} {args : Array Value} {below : List Frame} {meth : Method} {c : Code} {E : zE} {A : Nat → Prop} {q_p0 : Nat} {o : Int32} (F : Nat) (n_p0 : Nat) (a1 : Int32) (p0 : Nat → Int32) (K4 : Int32 → Int32 → Option (Int32)) (C : zC p s m args c meth cX5_openIn 4 RX5 wsX5_openIn E A) (hr : meth.sig.returnType = some .int) (hK4 : ∀ (v2 : Int32) (v3 : Int32), K4 v2 v3 = some o → zG p l e rm_X5_openIn s m args below meth c 4 E A 0 0 (MQ below (zQ E A (some (.int o)) [(q_p0, zI E n_p0 p0)]) args s 0 0 A) [(q_p0, zI E n_p0 p0)] 4 [(0, .ref q_p0), (1, .int a1), (2, .int v2), (3, .int v3)] []) : ∀  (v3 : Int32) (s0 : Int32) (s1 : Int32), f_X5_openIn_b32 F n_p0 a1 p0 K4 v3 s0 s1 = some o → zG p l e rm_X5_openIn s m args below meth c 4 E A 0 0 (MQ below (zQ E A (some (.int o)) [(q_p0, zI E n_p0 p0)]) args s 0 0 A) [(q_p0, zI E n_p0 p0)] 32 [(0, .ref q_p0), (1, .int a1), (3, .int v3)] [.int s1, .int s0] := by
  intro v3 s0 s1 h
  rw [f_X5_openIn_b32] at h
  refine z_ior C dX5_openIn_32 ?_
  refine z_istore_n (L' := [(2, .int (s0 ||| s1)), (0, .ref q_p0), (1, .int a1), (3, .int v3)]) C dX5_openIn_33 rfl (by decide) rfl ?_
  refine z_iinc (v := v3 + (1 : Int32)) (L' := [(3, .int (v3 + (1 : Int32))), (2, .int (s0 ||| s1)), (0, .ref q_p0), (1, .int a1)]) C dX5_openIn_34 3 rfl rfl (by decide) rfl ?_
  refine z_goto (tgt := 4) C dX5_openIn_37 (by decide) ?_
  refine z_sub [2, 3, 1, 0] (L' := [(0, .ref q_p0), (1, .int a1), (2, .int (s0 ||| s1)), (3, .int (v3 + (1 : Int32)))]) rfl ?_
  exact hK4 (s0 ||| s1) (v3 + (1 : Int32)) h
set_option maxRecDepth 100000 in
set_option maxHeartbeats 4000000 in
theorem l_X5_openIn_b4 {p : Program} {l : Launch} {e : Env} {s : State} {m : MethodId} {args : Array Value} {below : List Frame} {meth : Method} {c : Code} {E : zE} {A : Nat → Prop} {q_p0 : Nat} {o : Int32} (F : Nat) (n_p0 : Nat) (a1 : Int32) (p0 : Nat → Int32) (C : zC p s m args c meth cX5_openIn 4 RX5 wsX5_openIn E A) (hr : meth.sig.returnType = some .int) : ∀ (n : Nat) (v2 : Int32) (v3 : Int32), f_X5_openIn_b4 F n_p0 a1 p0 n v2 v3 = some o → zG p l e rm_X5_openIn s m args below meth c 4 E A 0 0 (MQ below (zQ E A (some (.int o)) [(q_p0, zI E n_p0 p0)]) args s 0 0 A) [(q_p0, zI E n_p0 p0)] 4 [(0, .ref q_p0), (1, .int a1), (2, .int v2), (3, .int v3)] [] := by
  intro n
  induction n with
  | zero =>
    intro v2 v3 h
    rw [f_X5_openIn_b4] at h
    cases h
  | succ n ih =>
    intro v2 v3 h
    rw [f_X5_openIn_b4] at h
    refine z_iload_n C dX5_openIn_4 rfl 3 rfl ?_
    refine z_aload_n C dX5_openIn_5 rfl 0 rfl ?_
    refine z_iconst (v := (0 : Int32)) C dX5_openIn_6 (by decide) ?_
    obtain ⟨c1, h⟩ := chk_some h
    refine z_iald C 0 rfl c1 dX5_openIn_7 ?_
    refine z_icmp_ge (tgt := 40) C dX5_openIn_8 (by decide) (fun c => ?_) (fun c => ?_)
    · replace h := (if_pos c).symm.trans h
      refine z_iload_n C dX5_openIn_40 rfl 2 rfl ?_
      obtain rfl := Option.some.inj h
      exact z_iret (v := v2) C hr dX5_openIn_41
    · replace h := (if_neg c).symm.trans h
      refine z_iload_n C dX5_openIn_11 rfl 2 rfl ?_
      refine z_aload_n C dX5_openIn_12 rfl 0 rfl ?_
      refine z_bipush (v := (14 : Int32)) C dX5_openIn_13 (by decide) ?_
      refine z_iload_n C dX5_openIn_15 rfl 3 rfl ?_
      refine z_iadd C dX5_openIn_16 ?_
      obtain ⟨c2, h⟩ := chk_some h
      refine z_iald C 0 rfl c2 dX5_openIn_17 ?_
      refine z_iload_n C dX5_openIn_18 rfl 1 rfl ?_
      obtain ⟨o3, ho4, h⟩ := bnd_some h
      refine z_callS (wc := []) (wr := [(q_p0, zI E n_p0 p0)]) (wc' := []) (ws2 := [(q_p0, zI E n_p0 p0)]) (As := [.int (p0 ((14 : Int32) + v3).toNatClampNeg), .int a1]) (st2 := [.int o3, .int v2]) C [] [0] [0] rfl rfl rfl rfl (by decide) rfl rfl (c_X5_has F ho4) (goodST consT W_815 W_816 W_62 W_817) rfl rfl rfl hd_X5_has ⟨Nat.le_of_ble_eq_true rfl, Nat.le_of_ble_eq_true rfl⟩ rfl rfl rfl (Nat.le_of_ble_eq_true rfl) dX5_openIn_19 ⟨Nat.zero_le _, Nat.zero_le _⟩ ?_
      refine z_if_eq (tgt := 31) C dX5_openIn_22 (by decide) (fun c => ?_) (fun c => ?_)
      · replace h := (if_pos c).symm.trans h
        refine z_iconst (v := (0 : Int32)) C dX5_openIn_31 (by decide) ?_
        refine z_sub [0, 1, 3] (L' := [(0, .ref q_p0), (1, .int a1), (3, .int v3)]) rfl ?_
        exact (l_X5_openIn_b32 F n_p0 a1 p0 (f_X5_openIn_b4 F n_p0 a1 p0 n) C hr ih) v3 v2 (0 : Int32) h
      · replace h := (if_neg c).symm.trans h
        refine z_iconst (v := (1 : Int32)) C dX5_openIn_25 (by decide) ?_
        refine z_iload_n C dX5_openIn_26 rfl 3 rfl ?_
        refine z_ishl C dX5_openIn_27 ?_
        refine z_goto (tgt := 32) C dX5_openIn_28 (by decide) ?_
        refine z_sub [0, 1, 3] (L' := [(0, .ref q_p0), (1, .int a1), (3, .int v3)]) rfl ?_
        exact (l_X5_openIn_b32 F n_p0 a1 p0 (f_X5_openIn_b4 F n_p0 a1 p0 n) C hr ih) v3 v2 ((1 : Int32) <<< (v3 &&& 31)) h
set_option maxRecDepth 100000 in
set_option maxHeartbeats 4000000 in
theorem c_X5_openIn {l : Launch} {E : zE} {q_p0 : Nat} {n_p0 : Nat} {a1 : Int32} {p0 : Nat → Int32} {o : Int32} (F : Nat) (h : f_X5_openIn F n_p0 a1 p0 = some o) : zM l yX5_openIn wsX5_openIn rm_X5_openIn E [.ref q_p0, .int a1] [(q_p0, zI E n_p0 p0)] (some (.int o)) [(q_p0, zI E n_p0 p0)] := by
  refine zM.of (cc := cX5_openIn) (maxL := 4) (ret := (some .int)) (by decide +kernel) rfl (Nat.le_of_ble_eq_true rfl) ?_
  intro p e s m args below meth c A C hr
  have C : zC p s m args c meth cX5_openIn 4 RX5 wsX5_openIn E A := C
  rw [f_X5_openIn] at h
  refine z_iconst (v := (0 : Int32)) C dX5_openIn_0 (by decide) ?_
  refine z_istore_n (L' := [(2, .int (0 : Int32)), (0, .ref q_p0), (1, .int a1)]) C dX5_openIn_1 rfl (by decide) rfl ?_
  refine z_iconst (v := (0 : Int32)) C dX5_openIn_2 (by decide) ?_
  refine z_istore_n (L' := [(3, .int (0 : Int32)), (2, .int (0 : Int32)), (0, .ref q_p0), (1, .int a1)]) C dX5_openIn_3 rfl (by decide) rfl ?_
  refine z_sub [2, 3, 1, 0] (L' := [(0, .ref q_p0), (1, .int a1), (2, .int (0 : Int32)), (3, .int (0 : Int32))]) rfl ?_
  exact (l_X5_openIn_b4 F n_p0 a1 p0 C hr F) (0 : Int32) (0 : Int32) h
def rm_X5_sumOf : Room := { frames := 1, cells := 0, slots := 0, locals := 20 }
theorem hd_X5_sumOf : yX5_sumOf.cls = yX5_sumOf.cls ∧ yX5_sumOf.cls ≠ "java/lang/invoke/MethodHandle" ∧ yX5_sumOf.cls ≠ "java/lang/invoke/VarHandle" ∧ (parseMethodDescriptor yX5_sumOf.desc).map (fun d => d.parameters.length) = some 1 := by decide +kernel
abbrev wsX5_sumOf : List Cond := .code yX5_sumOf cX5_sumOf 4 (some .int) :: WALL
set_option maxRecDepth 100000 in
set_option maxHeartbeats 4000000 in
theorem l_X5_sumOf_b4 {p : Program} {l : Launch} {e : Env} {s : State} {m : MethodId} {args : Array Value} {below : List Frame} {meth : Method} {c : Code} {E : zE} {A : Nat → Prop} {q_t q_t_told q_p1 q_t_kept q_t_isKept q_t_refused q_t_gets q_t_ahead q_t_dayGets q_t_dayDue q_t_own q_t_ownGets q_t_bestOwn q_t_alone q_t_atMuch q_t_hand q_t_his q_t_its q_t_bytes q_t_anew q_t_values : Nat} {t_above : Int64} {t_below : Int64} {t_leftBehind : Int32} {t_bytesLong : Int32} {t_tokenAt : Int32} {t_tokenLong : Int32} {t_token : Int32} {t_value : Int32} {t_takenHours : Int32} {o : Int32} (F : Nat) (n_p1 : Nat) (t_told : Nat → Int32) (p1 : Nat → Int32) (C : zC p s m args c meth cX5_sumOf 4 RX5 wsX5_sumOf E A) (hr : meth.sig.returnType = some .int) : ∀ (n : Nat) (v2 : Int32) (v3 : Int32), f_X5_sumOf_b4 F n_p1 t_told p1 n v2 v3 = some o → zG p l e rm_X5_sumOf s m args below meth c 4 E A 0 0 (MQ below (zQ E A (some (.int o)) [(q_t, .inr (4, [.ref q_t_told, .ref q_t_kept, .ref q_t_isKept, .ref q_t_refused, .long t_above, .long t_below, .ref q_t_gets, .ref q_t_ahead, .int t_leftBehind, .ref q_t_dayGets, .ref q_t_dayDue, .ref q_t_own, .ref q_t_ownGets, .ref q_t_bestOwn, .ref q_t_alone, .ref q_t_atMuch, .ref q_t_hand, .ref q_t_his, .ref q_t_its, .ref q_t_bytes, .int t_bytesLong, .int t_tokenAt, .int t_tokenLong, .int t_token, .int t_value, .ref q_t_anew, .ref q_t_values, .int t_takenHours])), (q_t_told, zI E 251 t_told), (q_p1, zI E n_p1 p1)]) args s 0 0 A) [(q_t, .inr (4, [.ref q_t_told, .ref q_t_kept, .ref q_t_isKept, .ref q_t_refused, .long t_above, .long t_below, .ref q_t_gets, .ref q_t_ahead, .int t_leftBehind, .ref q_t_dayGets, .ref q_t_dayDue, .ref q_t_own, .ref q_t_ownGets, .ref q_t_bestOwn, .ref q_t_alone, .ref q_t_atMuch, .ref q_t_hand, .ref q_t_his, .ref q_t_its, .ref q_t_bytes, .int t_bytesLong, .int t_tokenAt, .int t_tokenLong, .int t_token, .int t_value, .ref q_t_anew, .ref q_t_values, .int t_takenHours])), (q_t_told, zI E 251 t_told), (q_p1, zI E n_p1 p1)] 4 [(0, .ref q_t), (1, .ref q_p1), (2, .int v2), (3, .int v3)] [] := by
  intro n
  induction n with
  | zero =>
    intro v2 v3 h
    rw [f_X5_sumOf_b4] at h
    cases h
  | succ n ih =>
    intro v2 v3 h
    rw [f_X5_sumOf_b4] at h
    refine z_iload_n C dX5_sumOf_4 rfl 3 rfl ?_
    refine z_aload_n C dX5_sumOf_5 rfl 0 rfl ?_
    obtain ⟨o1, ho2, h⟩ := bnd_some h
    refine z_callV (wc := [(q_t, .inr (4, [.ref q_t_told, .ref q_t_kept, .ref q_t_isKept, .ref q_t_refused, .long t_above, .long t_below, .ref q_t_gets, .ref q_t_ahead, .int t_leftBehind, .ref q_t_dayGets, .ref q_t_dayDue, .ref q_t_own, .ref q_t_ownGets, .ref q_t_bestOwn, .ref q_t_alone, .ref q_t_atMuch, .ref q_t_hand, .ref q_t_his, .ref q_t_its, .ref q_t_bytes, .int t_bytesLong, .int t_tokenAt, .int t_tokenLong, .int t_token, .int t_value, .ref q_t_anew, .ref q_t_values, .int t_takenHours])), (q_t_told, zI E 251 t_told)]) (wr := [(q_p1, zI E n_p1 p1)]) (wc' := [(q_t, .inr (4, [.ref q_t_told, .ref q_t_kept, .ref q_t_isKept, .ref q_t_refused, .long t_above, .long t_below, .ref q_t_gets, .ref q_t_ahead, .int t_leftBehind, .ref q_t_dayGets, .ref q_t_dayDue, .ref q_t_own, .ref q_t_ownGets, .ref q_t_bestOwn, .ref q_t_alone, .ref q_t_atMuch, .ref q_t_hand, .ref q_t_his, .ref q_t_its, .ref q_t_bytes, .int t_bytesLong, .int t_tokenAt, .int t_tokenLong, .int t_token, .int t_value, .ref q_t_anew, .ref q_t_values, .int t_takenHours])), (q_t_told, zI E 251 t_told)]) (ws2 := [(q_t, .inr (4, [.ref q_t_told, .ref q_t_kept, .ref q_t_isKept, .ref q_t_refused, .long t_above, .long t_below, .ref q_t_gets, .ref q_t_ahead, .int t_leftBehind, .ref q_t_dayGets, .ref q_t_dayDue, .ref q_t_own, .ref q_t_ownGets, .ref q_t_bestOwn, .ref q_t_alone, .ref q_t_atMuch, .ref q_t_hand, .ref q_t_his, .ref q_t_its, .ref q_t_bytes, .int t_bytesLong, .int t_tokenAt, .int t_tokenLong, .int t_token, .int t_value, .ref q_t_anew, .ref q_t_values, .int t_takenHours])), (q_t_told, zI E 251 t_told), (q_p1, zI E n_p1 p1)]) (As := []) (st2 := [.int o1, .int v3]) C [0, 1] [2] [1, 2, 0] rfl rfl rfl rfl (by decide) rfl rfl (c_X5_many F ho2) (goodVT consT W_774 W_776 W_28 W_62 W_777) rfl rfl rfl hd_X5_many ⟨Nat.le_of_ble_eq_true rfl, Nat.le_of_ble_eq_true rfl⟩ rfl rfl rfl (j := 0) rfl rfl rfl (Nat.le_of_ble_eq_true rfl) dX5_sumOf_6 ⟨Nat.zero_le _, Nat.zero_le _⟩ ?_
    refine z_icmp_ge (tgt := 24) C dX5_sumOf_9 (by decide) (fun c => ?_) (fun c => ?_)
    · replace h := (if_pos c).symm.trans h
      refine z_iload_n C dX5_sumOf_24 rfl 2 rfl ?_
      obtain rfl := Option.some.inj h
      exact z_iret (v := v2) C hr dX5_sumOf_25
    · replace h := (if_neg c).symm.trans h
      refine z_iload_n C dX5_sumOf_12 rfl 2 rfl ?_
      refine z_aload_n C dX5_sumOf_13 rfl 1 rfl ?_
      refine z_iload_n C dX5_sumOf_14 rfl 3 rfl ?_
      obtain ⟨c3, h⟩ := chk_some h
      refine z_iald C 2 rfl c3 dX5_sumOf_15 ?_
      refine z_iadd C dX5_sumOf_16 ?_
      refine z_istore_n (L' := [(2, .int (v2 + (p1 v3.toNatClampNeg))), (0, .ref q_t), (1, .ref q_p1), (3, .int v3)]) C dX5_sumOf_17 rfl (by decide) rfl ?_
      refine z_iinc (v := v3 + (1 : Int32)) (L' := [(3, .int (v3 + (1 : Int32))), (2, .int (v2 + (p1 v3.toNatClampNeg))), (0, .ref q_t), (1, .ref q_p1)]) C dX5_sumOf_18 3 rfl rfl (by decide) rfl ?_
      refine z_goto (tgt := 4) C dX5_sumOf_21 (by decide) ?_
      refine z_sub [2, 3, 1, 0] (L' := [(0, .ref q_t), (1, .ref q_p1), (2, .int (v2 + (p1 v3.toNatClampNeg))), (3, .int (v3 + (1 : Int32)))]) rfl ?_
      exact ih (v2 + (p1 v3.toNatClampNeg)) (v3 + (1 : Int32)) h
set_option maxRecDepth 100000 in
set_option maxHeartbeats 4000000 in
theorem c_X5_sumOf {l : Launch} {E : zE} {q_t q_t_told q_p1 q_t_kept q_t_isKept q_t_refused q_t_gets q_t_ahead q_t_dayGets q_t_dayDue q_t_own q_t_ownGets q_t_bestOwn q_t_alone q_t_atMuch q_t_hand q_t_his q_t_its q_t_bytes q_t_anew q_t_values : Nat} {t_above : Int64} {t_below : Int64} {t_leftBehind : Int32} {t_bytesLong : Int32} {t_tokenAt : Int32} {t_tokenLong : Int32} {t_token : Int32} {t_value : Int32} {t_takenHours : Int32} {n_p1 : Nat} {t_told : Nat → Int32} {p1 : Nat → Int32} {o : Int32} (F : Nat) (h : f_X5_sumOf F n_p1 t_told p1 = some o) : zM l yX5_sumOf wsX5_sumOf rm_X5_sumOf E [.ref q_t, .ref q_p1] [(q_t, .inr (4, [.ref q_t_told, .ref q_t_kept, .ref q_t_isKept, .ref q_t_refused, .long t_above, .long t_below, .ref q_t_gets, .ref q_t_ahead, .int t_leftBehind, .ref q_t_dayGets, .ref q_t_dayDue, .ref q_t_own, .ref q_t_ownGets, .ref q_t_bestOwn, .ref q_t_alone, .ref q_t_atMuch, .ref q_t_hand, .ref q_t_his, .ref q_t_its, .ref q_t_bytes, .int t_bytesLong, .int t_tokenAt, .int t_tokenLong, .int t_token, .int t_value, .ref q_t_anew, .ref q_t_values, .int t_takenHours])), (q_t_told, zI E 251 t_told), (q_p1, zI E n_p1 p1)] (some (.int o)) [(q_t, .inr (4, [.ref q_t_told, .ref q_t_kept, .ref q_t_isKept, .ref q_t_refused, .long t_above, .long t_below, .ref q_t_gets, .ref q_t_ahead, .int t_leftBehind, .ref q_t_dayGets, .ref q_t_dayDue, .ref q_t_own, .ref q_t_ownGets, .ref q_t_bestOwn, .ref q_t_alone, .ref q_t_atMuch, .ref q_t_hand, .ref q_t_his, .ref q_t_its, .ref q_t_bytes, .int t_bytesLong, .int t_tokenAt, .int t_tokenLong, .int t_token, .int t_value, .ref q_t_anew, .ref q_t_values, .int t_takenHours])), (q_t_told, zI E 251 t_told), (q_p1, zI E n_p1 p1)] := by
  refine zM.of (cc := cX5_sumOf) (maxL := 4) (ret := (some .int)) (by decide +kernel) rfl (Nat.le_of_ble_eq_true rfl) ?_
  intro p e s m args below meth c A C hr
  have C : zC p s m args c meth cX5_sumOf 4 RX5 wsX5_sumOf E A := C
  rw [f_X5_sumOf] at h
  refine z_iconst (v := (0 : Int32)) C dX5_sumOf_0 (by decide) ?_
  refine z_istore_n (L' := [(2, .int (0 : Int32)), (0, .ref q_t), (1, .ref q_p1)]) C dX5_sumOf_1 rfl (by decide) rfl ?_
  refine z_iconst (v := (0 : Int32)) C dX5_sumOf_2 (by decide) ?_
  refine z_istore_n (L' := [(3, .int (0 : Int32)), (2, .int (0 : Int32)), (0, .ref q_t), (1, .ref q_p1)]) C dX5_sumOf_3 rfl (by decide) rfl ?_
  refine z_sub [2, 3, 1, 0] (L' := [(0, .ref q_t), (1, .ref q_p1), (2, .int (0 : Int32)), (3, .int (0 : Int32))]) rfl ?_
  exact (l_X5_sumOf_b4 F n_p1 t_told p1 C hr F) (0 : Int32) (0 : Int32) h
def rm_X5_layDay : Room := { frames := 2, cells := 0, slots := 0, locals := 50 }
theorem hd_X5_layDay : yX5_layDay.cls = yX5_layDay.cls ∧ yX5_layDay.cls ≠ "java/lang/invoke/MethodHandle" ∧ yX5_layDay.cls ≠ "java/lang/invoke/VarHandle" ∧ (parseMethodDescriptor yX5_layDay.desc).map (fun d => d.parameters.length) = some 3 := by decide +kernel
abbrev wsX5_layDay : List Cond := .code yX5_layDay cX5_layDay 6 none :: WALL
set_option maxRecDepth 100000 in
set_option maxHeartbeats 4000000 in
theorem l_X5_layDay_b62 {p : Program} {l : Launch} {e : Env} {s : State} {m : MethodId} {args : Array Value} {below : List Frame} {meth : Method} {c : Code} {E : zE} {A : Nat → Prop} {q_t q_t_dayGets q_t_dayDue q_p1 q_t_ahead q_t_gets q_t_told q_t_kept q_t_isKept q_t_refused q_t_own q_t_ownGets q_t_bestOwn q_t_alone q_t_atMuch q_t_hand q_t_his q_t_its q_t_bytes q_t_anew q_t_values : Nat} {t_above : Int64} {t_below : Int64} {t_bytesLong : Int32} {t_tokenAt : Int32} {t_tokenLong : Int32} {t_token : Int32} {t_value : Int32} {t_takenHours : Int32} {o : Int32 × (Nat → Int32) × (Nat → Int32) × (Nat → Int32) × (Nat → Int32)} (F : Nat) (n_p1 : Nat) (a2 : Int32) (a3 : Int32) (p1 : Nat → Int32) (K34 : Int32 → Int32 → (Nat → Int32) → (Nat → Int32) → (Nat → Int32) → (Nat → Int32) → Option (Int32 × (Nat → Int32) × (Nat → Int32) × (Nat → Int32) × (Nat → Int32))) (C : zC p s m args c meth cX5_layDay 6 RX5 wsX5_layDay E A) (hr : meth.sig.returnType = none) (hK34 : ∀ (v4 : Int32) (t_leftBehind : Int32) (t_dayGets : Nat → Int32) (t_dayDue : Nat → Int32) (t_ahead : Nat → Int32) (t_gets : Nat → Int32), K34 v4 t_leftBehind t_dayGets t_dayDue t_ahead t_gets = some o → zG p l e rm_X5_layDay s m args below meth c 6 E A 0 0 (MQ below (zQ E A none [(q_t, .inr (4, [.ref q_t_told, .ref q_t_kept, .ref q_t_isKept, .ref q_t_refused, .long t_above, .long t_below, .ref q_t_gets, .ref q_t_ahead, .int o.1, .ref q_t_dayGets, .ref q_t_dayDue, .ref q_t_own, .ref q_t_ownGets, .ref q_t_bestOwn, .ref q_t_alone, .ref q_t_atMuch, .ref q_t_hand, .ref q_t_his, .ref q_t_its, .ref q_t_bytes, .int t_bytesLong, .int t_tokenAt, .int t_tokenLong, .int t_token, .int t_value, .ref q_t_anew, .ref q_t_values, .int t_takenHours])), (q_t_dayGets, zI E 5 o.2.1), (q_t_dayDue, zI E 5 o.2.2.1), (q_p1, zI E n_p1 p1), (q_t_ahead, zI E 5 o.2.2.2.1), (q_t_gets, zI E 5 o.2.2.2.2)]) args s 0 0 A) [(q_t, .inr (4, [.ref q_t_told, .ref q_t_kept, .ref q_t_isKept, .ref q_t_refused, .long t_above, .long t_below, .ref q_t_gets, .ref q_t_ahead, .int t_leftBehind, .ref q_t_dayGets, .ref q_t_dayDue, .ref q_t_own, .ref q_t_ownGets, .ref q_t_bestOwn, .ref q_t_alone, .ref q_t_atMuch, .ref q_t_hand, .ref q_t_his, .ref q_t_its, .ref q_t_bytes, .int t_bytesLong, .int t_tokenAt, .int t_tokenLong, .int t_token, .int t_value, .ref q_t_anew, .ref q_t_values, .int t_takenHours])), (q_t_dayGets, zI E 5 t_dayGets), (q_t_dayDue, zI E 5 t_dayDue), (q_p1, zI E n_p1 p1), (q_t_ahead, zI E 5 t_ahead), (q_t_gets, zI E 5 t_gets)] 34 [(0, .ref q_t), (1, .ref q_p1), (2, .int a2), (3, .int a3), (4, .int v4)] []) : ∀ (n : Nat) (v4 : Int32) (v5 : Int32) (t_leftBehind : Int32) (t_dayGets : Nat → Int32) (t_dayDue : Nat → Int32) (t_ahead : Nat → Int32) (t_gets : Nat → Int32), f_X5_layDay_b62 F n_p1 a2 a3 p1 K34 n v4 v5 t_leftBehind t_dayGets t_dayDue t_ahead t_gets = some o → zG p l e rm_X5_layDay s m args below meth c 6 E A 0 0 (MQ below (zQ E A none [(q_t, .inr (4, [.ref q_t_told, .ref q_t_kept, .ref q_t_isKept, .ref q_t_refused, .long t_above, .long t_below, .ref q_t_gets, .ref q_t_ahead, .int o.1, .ref q_t_dayGets, .ref q_t_dayDue, .ref q_t_own, .ref q_t_ownGets, .ref q_t_bestOwn, .ref q_t_alone, .ref q_t_atMuch, .ref q_t_hand, .ref q_t_his, .ref q_t_its, .ref q_t_bytes, .int t_bytesLong, .int t_tokenAt, .int t_tokenLong, .int t_token, .int t_value, .ref q_t_anew, .ref q_t_values, .int t_takenHours])), (q_t_dayGets, zI E 5 o.2.1), (q_t_dayDue, zI E 5 o.2.2.1), (q_p1, zI E n_p1 p1), (q_t_ahead, zI E 5 o.2.2.2.1), (q_t_gets, zI E 5 o.2.2.2.2)]) args s 0 0 A) [(q_t, .inr (4, [.ref q_t_told, .ref q_t_kept, .ref q_t_isKept, .ref q_t_refused, .long t_above, .long t_below, .ref q_t_gets, .ref q_t_ahead, .int t_leftBehind, .ref q_t_dayGets, .ref q_t_dayDue, .ref q_t_own, .ref q_t_ownGets, .ref q_t_bestOwn, .ref q_t_alone, .ref q_t_atMuch, .ref q_t_hand, .ref q_t_his, .ref q_t_its, .ref q_t_bytes, .int t_bytesLong, .int t_tokenAt, .int t_tokenLong, .int t_token, .int t_value, .ref q_t_anew, .ref q_t_values, .int t_takenHours])), (q_t_dayGets, zI E 5 t_dayGets), (q_t_dayDue, zI E 5 t_dayDue), (q_p1, zI E n_p1 p1), (q_t_ahead, zI E 5 t_ahead), (q_t_gets, zI E 5 t_gets)] 62 [(0, .ref q_t), (1, .ref q_p1), (2, .int a2), (3, .int a3), (4, .int v4), (5, .int v5)] [] := by
  intro n
  induction n with
  | zero =>
    intro v4 v5 t_leftBehind t_dayGets t_dayDue t_ahead t_gets h
    rw [f_X5_layDay_b62] at h
    cases h
  | succ n ih =>
    intro v4 v5 t_leftBehind t_dayGets t_dayDue t_ahead t_gets h
    rw [f_X5_layDay_b62] at h
    refine z_iload C dX5_layDay_62 5 rfl ?_
    refine z_aload_n C dX5_layDay_64 rfl 1 rfl ?_
    refine z_iconst (v := (0 : Int32)) C dX5_layDay_65 (by decide) ?_
    obtain ⟨c7, h⟩ := chk_some h
    refine z_iald C 3 rfl c7 dX5_layDay_66 ?_
    refine z_icmp_ge (tgt := 120) C dX5_layDay_67 (by decide) (fun c => ?_) (fun c => ?_)
    · replace h := (if_pos c).symm.trans h
      refine z_iinc (v := v4 + (1 : Int32)) (L' := [(4, .int (v4 + (1 : Int32))), (0, .ref q_t), (1, .ref q_p1), (2, .int a2), (3, .int a3), (5, .int v5)]) C dX5_layDay_120 4 rfl rfl (by decide) rfl ?_
      refine z_goto (tgt := 34) C dX5_layDay_123 (by decide) ?_
      refine z_sub [1, 2, 3, 4, 0] (L' := [(0, .ref q_t), (1, .ref q_p1), (2, .int a2), (3, .int a3), (4, .int (v4 + (1 : Int32)))]) rfl ?_
      exact hK34 (v4 + (1 : Int32)) t_leftBehind t_dayGets t_dayDue t_ahead t_gets h
    · replace h := (if_neg c).symm.trans h
      refine z_aload_n C dX5_layDay_70 rfl 0 rfl ?_
      refine z_get C inT_X5 0 rfl rfl 9 (by decide) rfl (mc W_682) rfl dX5_layDay_71 ?_
      refine z_iload C dX5_layDay_74 5 rfl ?_
      refine z_dup2 C dX5_layDay_76 rfl rfl ?_
      obtain ⟨c8, h⟩ := chk_some h
      refine z_iald C 1 rfl c8 dX5_layDay_77 ?_
      refine z_aload_n C dX5_layDay_78 rfl 0 rfl ?_
      refine z_get C inT_X5 0 rfl rfl 6 (by decide) rfl (mc W_679) rfl dX5_layDay_79 ?_
      refine z_iload C dX5_layDay_82 5 rfl ?_
      obtain ⟨c9, h⟩ := chk_some h
      refine z_iald C 5 rfl c9 dX5_layDay_84 ?_
      refine z_iadd C dX5_layDay_85 ?_
      obtain ⟨c10, h⟩ := chk_some h
      refine z_iast (ws' := [(q_t, .inr (4, [.ref q_t_told, .ref q_t_kept, .ref q_t_isKept, .ref q_t_refused, .long t_above, .long t_below, .ref q_t_gets, .ref q_t_ahead, .int t_leftBehind, .ref q_t_dayGets, .ref q_t_dayDue, .ref q_t_own, .ref q_t_ownGets, .ref q_t_bestOwn, .ref q_t_alone, .ref q_t_atMuch, .ref q_t_hand, .ref q_t_his, .ref q_t_its, .ref q_t_bytes, .int t_bytesLong, .int t_tokenAt, .int t_tokenLong, .int t_token, .int t_value, .ref q_t_anew, .ref q_t_values, .int t_takenHours])), (q_t_dayGets, zI E 5 (upd t_dayGets v5.toNatClampNeg ((t_dayGets v5.toNatClampNeg) + (t_gets v5.toNatClampNeg)))), (q_t_dayDue, zI E 5 t_dayDue), (q_p1, zI E n_p1 p1), (q_t_ahead, zI E 5 t_ahead), (q_t_gets, zI E 5 t_gets)]) C 1 rfl c10 rfl dX5_layDay_86 ?_
      refine z_aload_n C dX5_layDay_87 rfl 0 rfl ?_
      refine z_get C inT_X5 0 rfl rfl 10 (by decide) rfl (mc W_683) rfl dX5_layDay_88 ?_
      refine z_iload C dX5_layDay_91 5 rfl ?_
      refine z_dup2 C dX5_layDay_93 rfl rfl ?_
      obtain ⟨c11, h⟩ := chk_some h
      refine z_iald C 2 rfl c11 dX5_layDay_94 ?_
      refine z_aload_n C dX5_layDay_95 rfl 1 rfl ?_
      refine z_bipush (v := (26 : Int32)) C dX5_layDay_96 (by decide) ?_
      refine z_iload C dX5_layDay_98 5 rfl ?_
      refine z_iadd C dX5_layDay_100 ?_
      obtain ⟨c12, h⟩ := chk_some h
      refine z_iald C 3 rfl c12 dX5_layDay_101 ?_
      refine z_aload_n C dX5_layDay_102 rfl 0 rfl ?_
      refine z_get C inT_X5 0 rfl rfl 6 (by decide) rfl (mc W_679) rfl dX5_layDay_103 ?_
      refine z_iload C dX5_layDay_106 5 rfl ?_
      obtain ⟨c13, h⟩ := chk_some h
      refine z_iald C 5 rfl c13 dX5_layDay_108 ?_
      obtain ⟨o14, ho15, h⟩ := bnd_some h
      refine z_callS (wc := []) (wr := [(q_t, .inr (4, [.ref q_t_told, .ref q_t_kept, .ref q_t_isKept, .ref q_t_refused, .long t_above, .long t_below, .ref q_t_gets, .ref q_t_ahead, .int t_leftBehind, .ref q_t_dayGets, .ref q_t_dayDue, .ref q_t_own, .ref q_t_ownGets, .ref q_t_bestOwn, .ref q_t_alone, .ref q_t_atMuch, .ref q_t_hand, .ref q_t_his, .ref q_t_its, .ref q_t_bytes, .int t_bytesLong, .int t_tokenAt, .int t_tokenLong, .int t_token, .int t_value, .ref q_t_anew, .ref q_t_values, .int t_takenHours])), (q_t_dayGets, zI E 5 (upd t_dayGets v5.toNatClampNeg ((t_dayGets v5.toNatClampNeg) + (t_gets v5.toNatClampNeg)))), (q_t_dayDue, zI E 5 t_dayDue), (q_p1, zI E n_p1 p1), (q_t_ahead, zI E 5 t_ahead), (q_t_gets, zI E 5 t_gets)]) (wc' := []) (ws2 := [(q_t, .inr (4, [.ref q_t_told, .ref q_t_kept, .ref q_t_isKept, .ref q_t_refused, .long t_above, .long t_below, .ref q_t_gets, .ref q_t_ahead, .int t_leftBehind, .ref q_t_dayGets, .ref q_t_dayDue, .ref q_t_own, .ref q_t_ownGets, .ref q_t_bestOwn, .ref q_t_alone, .ref q_t_atMuch, .ref q_t_hand, .ref q_t_his, .ref q_t_its, .ref q_t_bytes, .int t_bytesLong, .int t_tokenAt, .int t_tokenLong, .int t_token, .int t_value, .ref q_t_anew, .ref q_t_values, .int t_takenHours])), (q_t_dayGets, zI E 5 (upd t_dayGets v5.toNatClampNeg ((t_dayGets v5.toNatClampNeg) + (t_gets v5.toNatClampNeg)))), (q_t_dayDue, zI E 5 t_dayDue), (q_p1, zI E n_p1 p1), (q_t_ahead, zI E 5 t_ahead), (q_t_gets, zI E 5 t_gets)]) (As := [.int (p1 ((26 : Int32) + v5).toNatClampNeg), .int (t_gets v5.toNatClampNeg)]) (st2 := [.int o14, .int (t_dayDue v5.toNatClampNeg), .int v5, .ref q_t_dayDue]) C [] [0, 1, 2, 3, 4, 5] [0, 1, 2, 3, 4, 5] rfl rfl rfl rfl (by decide) rfl rfl (c_X5_dueAs F ho15) (goodST consT W_825 W_826 W_62 W_827) rfl rfl rfl hd_X5_dueAs ⟨Nat.le_of_ble_eq_true rfl, Nat.le_of_ble_eq_true rfl⟩ rfl rfl rfl (Nat.le_of_ble_eq_true rfl) dX5_layDay_109 ⟨Nat.zero_le _, Nat.zero_le _⟩ ?_
      refine z_iadd C dX5_layDay_112 ?_
      obtain ⟨c16, h⟩ := chk_some h
      refine z_iast (ws' := [(q_t, .inr (4, [.ref q_t_told, .ref q_t_kept, .ref q_t_isKept, .ref q_t_refused, .long t_above, .long t_below, .ref q_t_gets, .ref q_t_ahead, .int t_leftBehind, .ref q_t_dayGets, .ref q_t_dayDue, .ref q_t_own, .ref q_t_ownGets, .ref q_t_bestOwn, .ref q_t_alone, .ref q_t_atMuch, .ref q_t_hand, .ref q_t_his, .ref q_t_its, .ref q_t_bytes, .int t_bytesLong, .int t_tokenAt, .int t_tokenLong, .int t_token, .int t_value, .ref q_t_anew, .ref q_t_values, .int t_takenHours])), (q_t_dayGets, zI E 5 (upd t_dayGets v5.toNatClampNeg ((t_dayGets v5.toNatClampNeg) + (t_gets v5.toNatClampNeg)))), (q_t_dayDue, zI E 5 (upd t_dayDue v5.toNatClampNeg ((t_dayDue v5.toNatClampNeg) + o14))), (q_p1, zI E n_p1 p1), (q_t_ahead, zI E 5 t_ahead), (q_t_gets, zI E 5 t_gets)]) C 2 rfl c16 rfl dX5_layDay_113 ?_
      refine z_iinc (v := v5 + (1 : Int32)) (L' := [(5, .int (v5 + (1 : Int32))), (0, .ref q_t), (1, .ref q_p1), (2, .int a2), (3, .int a3), (4, .int v4)]) C dX5_layDay_114 5 rfl rfl (by decide) rfl ?_
      refine z_goto (tgt := 62) C dX5_layDay_117 (by decide) ?_
      refine z_sub [1, 2, 3, 4, 5, 0] (L' := [(0, .ref q_t), (1, .ref q_p1), (2, .int a2), (3, .int a3), (4, .int v4), (5, .int (v5 + (1 : Int32)))]) rfl ?_
      exact ih v4 (v5 + (1 : Int32)) t_leftBehind (upd t_dayGets v5.toNatClampNeg ((t_dayGets v5.toNatClampNeg) + (t_gets v5.toNatClampNeg))) (upd t_dayDue v5.toNatClampNeg ((t_dayDue v5.toNatClampNeg) + o14)) t_ahead t_gets h
set_option maxRecDepth 100000 in
set_option maxHeartbeats 4000000 in
theorem l_X5_layDay_b34 {p : Program} {l : Launch} {e : Env} {s : State} {m : MethodId} {args : Array Value} {below : List Frame} {meth : Method} {c : Code} {E : zE} {A : Nat → Prop} {q_t q_t_dayGets q_t_dayDue q_p1 q_t_ahead q_t_gets q_t_told q_t_kept q_t_isKept q_t_refused q_t_own q_t_ownGets q_t_bestOwn q_t_alone q_t_atMuch q_t_hand q_t_his q_t_its q_t_bytes q_t_anew q_t_values : Nat} {t_above : Int64} {t_below : Int64} {t_bytesLong : Int32} {t_tokenAt : Int32} {t_tokenLong : Int32} {t_token : Int32} {t_value : Int32} {t_takenHours : Int32} {o : Int32 × (Nat → Int32) × (Nat → Int32) × (Nat → Int32) × (Nat → Int32)} (F : Nat) (n_p1 : Nat) (a2 : Int32) (a3 : Int32) (p1 : Nat → Int32) (C : zC p s m args c meth cX5_layDay 6 RX5 wsX5_layDay E A) (hr : meth.sig.returnType = none) : ∀ (n : Nat) (v4 : Int32) (t_leftBehind : Int32) (t_dayGets : Nat → Int32) (t_dayDue : Nat → Int32) (t_ahead : Nat → Int32) (t_gets : Nat → Int32), f_X5_layDay_b34 F n_p1 a2 a3 p1 n v4 t_leftBehind t_dayGets t_dayDue t_ahead t_gets = some o → zG p l e rm_X5_layDay s m args below meth c 6 E A 0 0 (MQ below (zQ E A none [(q_t, .inr (4, [.ref q_t_told, .ref q_t_kept, .ref q_t_isKept, .ref q_t_refused, .long t_above, .long t_below, .ref q_t_gets, .ref q_t_ahead, .int o.1, .ref q_t_dayGets, .ref q_t_dayDue, .ref q_t_own, .ref q_t_ownGets, .ref q_t_bestOwn, .ref q_t_alone, .ref q_t_atMuch, .ref q_t_hand, .ref q_t_his, .ref q_t_its, .ref q_t_bytes, .int t_bytesLong, .int t_tokenAt, .int t_tokenLong, .int t_token, .int t_value, .ref q_t_anew, .ref q_t_values, .int t_takenHours])), (q_t_dayGets, zI E 5 o.2.1), (q_t_dayDue, zI E 5 o.2.2.1), (q_p1, zI E n_p1 p1), (q_t_ahead, zI E 5 o.2.2.2.1), (q_t_gets, zI E 5 o.2.2.2.2)]) args s 0 0 A) [(q_t, .inr (4, [.ref q_t_told, .ref q_t_kept, .ref q_t_isKept, .ref q_t_refused, .long t_above, .long t_below, .ref q_t_gets, .ref q_t_ahead, .int t_leftBehind, .ref q_t_dayGets, .ref q_t_dayDue, .ref q_t_own, .ref q_t_ownGets, .ref q_t_bestOwn, .ref q_t_alone, .ref q_t_atMuch, .ref q_t_hand, .ref q_t_his, .ref q_t_its, .ref q_t_bytes, .int t_bytesLong, .int t_tokenAt, .int t_tokenLong, .int t_token, .int t_value, .ref q_t_anew, .ref q_t_values, .int t_takenHours])), (q_t_dayGets, zI E 5 t_dayGets), (q_t_dayDue, zI E 5 t_dayDue), (q_p1, zI E n_p1 p1), (q_t_ahead, zI E 5 t_ahead), (q_t_gets, zI E 5 t_gets)] 34 [(0, .ref q_t), (1, .ref q_p1), (2, .int a2), (3, .int a3), (4, .int v4)] [] := by
  intro n
  induction n with
  | zero =>
    intro v4 t_leftBehind t_dayGets t_dayDue t_ahead t_gets h
    rw [f_X5_layDay_b34] at h
    cases h
  | succ n ih =>
    intro v4 t_leftBehind t_dayGets t_dayDue t_ahead t_gets h
    rw [f_X5_layDay_b34] at h
    refine z_iload C dX5_layDay_34 4 rfl ?_
    refine z_bipush (v := (8 : Int32)) C dX5_layDay_36 (by decide) ?_
    refine z_icmp_ge (tgt := 126) C dX5_layDay_38 (by decide) (fun c => ?_) (fun c => ?_)
    · replace h := (if_pos c).symm.trans h
      obtain rfl := Option.some.inj h
      exact z_vret C hr dX5_layDay_126
    · replace h := (if_neg c).symm.trans h
      refine z_aload_n C dX5_layDay_41 rfl 0 rfl ?_
      refine z_aload_n C dX5_layDay_42 rfl 1 rfl ?_
      refine z_iload C dX5_layDay_43 4 rfl ?_
      refine z_iload_n C dX5_layDay_45 rfl 2 rfl ?_
      refine z_aload_n C dX5_layDay_46 rfl 1 rfl ?_
      refine z_iload C dX5_layDay_47 4 rfl ?_
      obtain ⟨o3, ho4, h⟩ := bnd_some h
      refine z_callS (wc := [(q_p1, zI E n_p1 p1)]) (wr := [(q_t, .inr (4, [.ref q_t_told, .ref q_t_kept, .ref q_t_isKept, .ref q_t_refused, .long t_above, .long t_below, .ref q_t_gets, .ref q_t_ahead, .int t_leftBehind, .ref q_t_dayGets, .ref q_t_dayDue, .ref q_t_own, .ref q_t_ownGets, .ref q_t_bestOwn, .ref q_t_alone, .ref q_t_atMuch, .ref q_t_hand, .ref q_t_his, .ref q_t_its, .ref q_t_bytes, .int t_bytesLong, .int t_tokenAt, .int t_tokenLong, .int t_token, .int t_value, .ref q_t_anew, .ref q_t_values, .int t_takenHours])), (q_t_dayGets, zI E 5 t_dayGets), (q_t_dayDue, zI E 5 t_dayDue), (q_t_ahead, zI E 5 t_ahead), (q_t_gets, zI E 5 t_gets)]) (wc' := [(q_p1, zI E n_p1 p1)]) (ws2 := [(q_t, .inr (4, [.ref q_t_told, .ref q_t_kept, .ref q_t_isKept, .ref q_t_refused, .long t_above, .long t_below, .ref q_t_gets, .ref q_t_ahead, .int t_leftBehind, .ref q_t_dayGets, .ref q_t_dayDue, .ref q_t_own, .ref q_t_ownGets, .ref q_t_bestOwn, .ref q_t_alone, .ref q_t_atMuch, .ref q_t_hand, .ref q_t_his, .ref q_t_its, .ref q_t_bytes, .int t_bytesLong, .int t_tokenAt, .int t_tokenLong, .int t_token, .int t_value, .ref q_t_anew, .ref q_t_values, .int t_takenHours])), (q_t_dayGets, zI E 5 t_dayGets), (q_t_dayDue, zI E 5 t_dayDue), (q_p1, zI E n_p1 p1), (q_t_ahead, zI E 5 t_ahead), (q_t_gets, zI E 5 t_gets)]) (As := [.ref q_p1, .int v4]) (st2 := [.int o3, .int a2, .int v4, .ref q_p1, .ref q_t]) C [3] [0, 1, 2, 4, 5] [0, 1, 2, 5, 3, 4] rfl rfl rfl rfl (by decide) rfl rfl (c_X5_openIn F ho4) (goodST consT W_812 W_813 W_62 W_814) rfl rfl rfl hd_X5_openIn ⟨Nat.le_of_ble_eq_true rfl, Nat.le_of_ble_eq_true rfl⟩ rfl rfl rfl (Nat.le_of_ble_eq_true rfl) dX5_layDay_49 ⟨Nat.zero_le _, Nat.zero_le _⟩ ?_
      refine z_iload_n C dX5_layDay_52 rfl 3 rfl ?_
      refine z_iconst (v := (-1 : Int32)) C dX5_layDay_53 (by decide) ?_
      refine z_ixor C dX5_layDay_54 ?_
      refine z_iand C dX5_layDay_55 ?_
      obtain ⟨o5, ho6, h⟩ := bnd_some h
      refine z_callV (wc := [(q_t, .inr (4, [.ref q_t_told, .ref q_t_kept, .ref q_t_isKept, .ref q_t_refused, .long t_above, .long t_below, .ref q_t_gets, .ref q_t_ahead, .int t_leftBehind, .ref q_t_dayGets, .ref q_t_dayDue, .ref q_t_own, .ref q_t_ownGets, .ref q_t_bestOwn, .ref q_t_alone, .ref q_t_atMuch, .ref q_t_hand, .ref q_t_his, .ref q_t_its, .ref q_t_bytes, .int t_bytesLong, .int t_tokenAt, .int t_tokenLong, .int t_token, .int t_value, .ref q_t_anew, .ref q_t_values, .int t_takenHours])), (q_p1, zI E n_p1 p1), (q_t_ahead, zI E 5 t_ahead), (q_t_gets, zI E 5 t_gets)]) (wr := [(q_t_dayGets, zI E 5 t_dayGets), (q_t_dayDue, zI E 5 t_dayDue)]) (wc' := [(q_t, .inr (4, [.ref q_t_told, .ref q_t_kept, .ref q_t_isKept, .ref q_t_refused, .long t_above, .long t_below, .ref q_t_gets, .ref q_t_ahead, .int o5.1, .ref q_t_dayGets, .ref q_t_dayDue, .ref q_t_own, .ref q_t_ownGets, .ref q_t_bestOwn, .ref q_t_alone, .ref q_t_atMuch, .ref q_t_hand, .ref q_t_his, .ref q_t_its, .ref q_t_bytes, .int t_bytesLong, .int t_tokenAt, .int t_tokenLong, .int t_token, .int t_value, .ref q_t_anew, .ref q_t_values, .int t_takenHours])), (q_p1, zI E n_p1 p1), (q_t_ahead, zI E 5 o5.2.1), (q_t_gets, zI E 5 o5.2.2)]) (ws2 := [(q_t, .inr (4, [.ref q_t_told, .ref q_t_kept, .ref q_t_isKept, .ref q_t_refused, .long t_above, .long t_below, .ref q_t_gets, .ref q_t_ahead, .int o5.1, .ref q_t_dayGets, .ref q_t_dayDue, .ref q_t_own, .ref q_t_ownGets, .ref q_t_bestOwn, .ref q_t_alone, .ref q_t_atMuch, .ref q_t_hand, .ref q_t_his, .ref q_t_its, .ref q_t_bytes, .int t_bytesLong, .int t_tokenAt, .int t_tokenLong, .int t_token, .int t_value, .ref q_t_anew, .ref q_t_values, .int t_takenHours])), (q_t_dayGets, zI E 5 t_dayGets), (q_t_dayDue, zI E 5 t_dayDue), (q_p1, zI E n_p1 p1), (q_t_ahead, zI E 5 o5.2.1), (q_t_gets, zI E 5 o5.2.2)]) (As := [.ref q_p1, .int v4, .int a2, .int (o3 &&& (a3 ^^^ (-1 : Int32)))]) (st2 := []) C [0, 3, 4, 5] [1, 2] [2, 0, 1, 3, 4, 5] rfl rfl rfl rfl (by decide) rfl rfl (c_X5_goHour F ho6) (goodVT consT W_818 W_820 W_33 W_62 W_821) rfl rfl rfl hd_X5_goHour ⟨Nat.le_of_ble_eq_true rfl, Nat.le_of_ble_eq_true rfl⟩ rfl rfl rfl (j := 0) rfl rfl rfl (Nat.le_of_ble_eq_true rfl) dX5_layDay_56 ⟨Nat.zero_le _, Nat.zero_le _⟩ ?_
      refine z_iconst (v := (0 : Int32)) C dX5_layDay_59 (by decide) ?_
      refine z_istore (L' := [(5, .int (0 : Int32)), (0, .ref q_t), (1, .ref q_p1), (2, .int a2), (3, .int a3), (4, .int v4)]) C dX5_layDay_60 (by decide) rfl ?_
      refine z_sub [1, 2, 3, 4, 5, 0] (L' := [(0, .ref q_t), (1, .ref q_p1), (2, .int a2), (3, .int a3), (4, .int v4), (5, .int (0 : Int32))]) rfl ?_
      exact (l_X5_layDay_b62 F n_p1 a2 a3 p1 (f_X5_layDay_b34 F n_p1 a2 a3 p1 n) C hr ih F) v4 (0 : Int32) o5.1 t_dayGets t_dayDue o5.2.1 o5.2.2 h
set_option maxRecDepth 100000 in
set_option maxHeartbeats 4000000 in
theorem l_X5_layDay_b3 {p : Program} {l : Launch} {e : Env} {s : State} {m : MethodId} {args : Array Value} {below : List Frame} {meth : Method} {c : Code} {E : zE} {A : Nat → Prop} {q_t q_t_dayGets q_t_dayDue q_p1 q_t_ahead q_t_gets q_t_told q_t_kept q_t_isKept q_t_refused q_t_own q_t_ownGets q_t_bestOwn q_t_alone q_t_atMuch q_t_hand q_t_his q_t_its q_t_bytes q_t_anew q_t_values : Nat} {t_above : Int64} {t_below : Int64} {t_bytesLong : Int32} {t_tokenAt : Int32} {t_tokenLong : Int32} {t_token : Int32} {t_value : Int32} {t_takenHours : Int32} {o : Int32 × (Nat → Int32) × (Nat → Int32) × (Nat → Int32) × (Nat → Int32)} (F : Nat) (n_p1 : Nat) (a2 : Int32) (a3 : Int32) (p1 : Nat → Int32) (C : zC p s m args c meth cX5_layDay 6 RX5 wsX5_layDay E A) (hr : meth.sig.returnType = none) : ∀ (n : Nat) (v4 : Int32) (t_leftBehind : Int32) (t_dayGets : Nat → Int32) (t_dayDue : Nat → Int32) (t_ahead : Nat → Int32) (t_gets : Nat → Int32), f_X5_layDay_b3 F n_p1 a2 a3 p1 n v4 t_leftBehind t_dayGets t_dayDue t_ahead t_gets = some o → zG p l e rm_X5_layDay s m args below meth c 6 E A 0 0 (MQ below (zQ E A none [(q_t, .inr (4, [.ref q_t_told, .ref q_t_kept, .ref q_t_isKept, .ref q_t_refused, .long t_above, .long t_below, .ref q_t_gets, .ref q_t_ahead, .int o.1, .ref q_t_dayGets, .ref q_t_dayDue, .ref q_t_own, .ref q_t_ownGets, .ref q_t_bestOwn, .ref q_t_alone, .ref q_t_atMuch, .ref q_t_hand, .ref q_t_his, .ref q_t_its, .ref q_t_bytes, .int t_bytesLong, .int t_tokenAt, .int t_tokenLong, .int t_token, .int t_value, .ref q_t_anew, .ref q_t_values, .int t_takenHours])), (q_t_dayGets, zI E 5 o.2.1), (q_t_dayDue, zI E 5 o.2.2.1), (q_p1, zI E n_p1 p1), (q_t_ahead, zI E 5 o.2.2.2.1), (q_t_gets, zI E 5 o.2.2.2.2)]) args s 0 0 A) [(q_t, .inr (4, [.ref q_t_told, .ref q_t_kept, .ref q_t_isKept, .ref q_t_refused, .long t_above, .long t_below, .ref q_t_gets, .ref q_t_ahead, .int t_leftBehind, .ref q_t_dayGets, .ref q_t_dayDue, .ref q_t_own, .ref q_t_ownGets, .ref q_t_bestOwn, .ref q_t_alone, .ref q_t_atMuch, .ref q_t_hand, .ref q_t_his, .ref q_t_its, .ref q_t_bytes, .int t_bytesLong, .int t_tokenAt, .int t_tokenLong, .int t_token, .int t_value, .ref q_t_anew, .ref q_t_values, .int t_takenHours])), (q_t_dayGets, zI E 5 t_dayGets), (q_t_dayDue, zI E 5 t_dayDue), (q_p1, zI E n_p1 p1), (q_t_ahead, zI E 5 t_ahead), (q_t_gets, zI E 5 t_gets)] 3 [(0, .ref q_t), (1, .ref q_p1), (2, .int a2), (3, .int a3), (4, .int v4)] [] := by
  intro n
  induction n with
  | zero =>
    intro v4 t_leftBehind t_dayGets t_dayDue t_ahead t_gets h
    rw [f_X5_layDay_b3] at h
    cases h
  | succ n ih =>
    intro v4 t_leftBehind t_dayGets t_dayDue t_ahead t_gets h
    rw [f_X5_layDay_b3] at h
    refine z_iload C dX5_layDay_3 4 rfl ?_
    refine z_iconst (v := (5 : Int32)) C dX5_layDay_5 (by decide) ?_
    refine z_icmp_ge (tgt := 31) C dX5_layDay_6 (by decide) (fun c => ?_) (fun c => ?_)
    · replace h := (if_pos c).symm.trans h
      refine z_iconst (v := (0 : Int32)) C dX5_layDay_31 (by decide) ?_
      refine z_istore (L' := [(4, .int (0 : Int32)), (0, .ref q_t), (1, .ref q_p1), (2, .int a2), (3, .int a3)]) C dX5_layDay_32 (by decide) rfl ?_
      refine z_sub [1, 2, 3, 4, 0] (L' := [(0, .ref q_t), (1, .ref q_p1), (2, .int a2), (3, .int a3), (4, .int (0 : Int32))]) rfl ?_
      exact (l_X5_layDay_b34 F n_p1 a2 a3 p1 C hr F) (0 : Int32) t_leftBehind t_dayGets t_dayDue t_ahead t_gets h
    · replace h := (if_neg c).symm.trans h
      refine z_aload_n C dX5_layDay_9 rfl 0 rfl ?_
      refine z_get C inT_X5 0 rfl rfl 9 (by decide) rfl (mc W_682) rfl dX5_layDay_10 ?_
      refine z_iload C dX5_layDay_13 4 rfl ?_
      refine z_iconst (v := (0 : Int32)) C dX5_layDay_15 (by decide) ?_
      obtain ⟨c1, h⟩ := chk_some h
      refine z_iast (ws' := [(q_t, .inr (4, [.ref q_t_told, .ref q_t_kept, .ref q_t_isKept, .ref q_t_refused, .long t_above, .long t_below, .ref q_t_gets, .ref q_t_ahead, .int t_leftBehind, .ref q_t_dayGets, .ref q_t_dayDue, .ref q_t_own, .ref q_t_ownGets, .ref q_t_bestOwn, .ref q_t_alone, .ref q_t_atMuch, .ref q_t_hand, .ref q_t_his, .ref q_t_its, .ref q_t_bytes, .int t_bytesLong, .int t_tokenAt, .int t_tokenLong, .int t_token, .int t_value, .ref q_t_anew, .ref q_t_values, .int t_takenHours])), (q_t_dayGets, zI E 5 (upd t_dayGets v4.toNatClampNeg (0 : Int32))), (q_t_dayDue, zI E 5 t_dayDue), (q_p1, zI E n_p1 p1), (q_t_ahead, zI E 5 t_ahead), (q_t_gets, zI E 5 t_gets)]) C 1 rfl c1 rfl dX5_layDay_16 ?_
      refine z_aload_n C dX5_layDay_17 rfl 0 rfl ?_
      refine z_get C inT_X5 0 rfl rfl 10 (by decide) rfl (mc W_683) rfl dX5_layDay_18 ?_
      refine z_iload C dX5_layDay_21 4 rfl ?_
      refine z_iconst (v := (0 : Int32)) C dX5_layDay_23 (by decide) ?_
      obtain ⟨c2, h⟩ := chk_some h
      refine z_iast (ws' := [(q_t, .inr (4, [.ref q_t_told, .ref q_t_kept, .ref q_t_isKept, .ref q_t_refused, .long t_above, .long t_below, .ref q_t_gets, .ref q_t_ahead, .int t_leftBehind, .ref q_t_dayGets, .ref q_t_dayDue, .ref q_t_own, .ref q_t_ownGets, .ref q_t_bestOwn, .ref q_t_alone, .ref q_t_atMuch, .ref q_t_hand, .ref q_t_his, .ref q_t_its, .ref q_t_bytes, .int t_bytesLong, .int t_tokenAt, .int t_tokenLong, .int t_token, .int t_value, .ref q_t_anew, .ref q_t_values, .int t_takenHours])), (q_t_dayGets, zI E 5 (upd t_dayGets v4.toNatClampNeg (0 : Int32))), (q_t_dayDue, zI E 5 (upd t_dayDue v4.toNatClampNeg (0 : Int32))), (q_p1, zI E n_p1 p1), (q_t_ahead, zI E 5 t_ahead), (q_t_gets, zI E 5 t_gets)]) C 2 rfl c2 rfl dX5_layDay_24 ?_
      refine z_iinc (v := v4 + (1 : Int32)) (L' := [(4, .int (v4 + (1 : Int32))), (0, .ref q_t), (1, .ref q_p1), (2, .int a2), (3, .int a3)]) C dX5_layDay_25 4 rfl rfl (by decide) rfl ?_
      refine z_goto (tgt := 3) C dX5_layDay_28 (by decide) ?_
      refine z_sub [1, 2, 3, 4, 0] (L' := [(0, .ref q_t), (1, .ref q_p1), (2, .int a2), (3, .int a3), (4, .int (v4 + (1 : Int32)))]) rfl ?_
      exact ih (v4 + (1 : Int32)) t_leftBehind (upd t_dayGets v4.toNatClampNeg (0 : Int32)) (upd t_dayDue v4.toNatClampNeg (0 : Int32)) t_ahead t_gets h
set_option maxRecDepth 100000 in
set_option maxHeartbeats 4000000 in
theorem c_X5_layDay {l : Launch} {E : zE} {q_t q_t_dayGets q_t_dayDue q_p1 q_t_ahead q_t_gets q_t_told q_t_kept q_t_isKept q_t_refused q_t_own q_t_ownGets q_t_bestOwn q_t_alone q_t_atMuch q_t_hand q_t_his q_t_its q_t_bytes q_t_anew q_t_values : Nat} {t_above : Int64} {t_below : Int64} {t_bytesLong : Int32} {t_tokenAt : Int32} {t_tokenLong : Int32} {t_token : Int32} {t_value : Int32} {t_takenHours : Int32} {n_p1 : Nat} {a2 : Int32} {a3 : Int32} {p1 : Nat → Int32} {t_leftBehind : Int32} {t_dayGets : Nat → Int32} {t_dayDue : Nat → Int32} {t_ahead : Nat → Int32} {t_gets : Nat → Int32} {o : Int32 × (Nat → Int32) × (Nat → Int32) × (Nat → Int32) × (Nat → Int32)} (F : Nat) (h : f_X5_layDay F n_p1 a2 a3 p1 t_leftBehind t_dayGets t_dayDue t_ahead t_gets = some o) : zM l yX5_layDay wsX5_layDay rm_X5_layDay E [.ref q_t, .ref q_p1, .int a2, .int a3] [(q_t, .inr (4, [.ref q_t_told, .ref q_t_kept, .ref q_t_isKept, .ref q_t_refused, .long t_above, .long t_below, .ref q_t_gets, .ref q_t_ahead, .int t_leftBehind, .ref q_t_dayGets, .ref q_t_dayDue, .ref q_t_own, .ref q_t_ownGets, .ref q_t_bestOwn, .ref q_t_alone, .ref q_t_atMuch, .ref q_t_hand, .ref q_t_his, .ref q_t_its, .ref q_t_bytes, .int t_bytesLong, .int t_tokenAt, .int t_tokenLong, .int t_token, .int t_value, .ref q_t_anew, .ref q_t_values, .int t_takenHours])), (q_t_dayGets, zI E 5 t_dayGets), (q_t_dayDue, zI E 5 t_dayDue), (q_p1, zI E n_p1 p1), (q_t_ahead, zI E 5 t_ahead), (q_t_gets, zI E 5 t_gets)] none [(q_t, .inr (4, [.ref q_t_told, .ref q_t_kept, .ref q_t_isKept, .ref q_t_refused, .long t_above, .long t_below, .ref q_t_gets, .ref q_t_ahead, .int o.1, .ref q_t_dayGets, .ref q_t_dayDue, .ref q_t_own, .ref q_t_ownGets, .ref q_t_bestOwn, .ref q_t_alone, .ref q_t_atMuch, .ref q_t_hand, .ref q_t_his, .ref q_t_its, .ref q_t_bytes, .int t_bytesLong, .int t_tokenAt, .int t_tokenLong, .int t_token, .int t_value, .ref q_t_anew, .ref q_t_values, .int t_takenHours])), (q_t_dayGets, zI E 5 o.2.1), (q_t_dayDue, zI E 5 o.2.2.1), (q_p1, zI E n_p1 p1), (q_t_ahead, zI E 5 o.2.2.2.1), (q_t_gets, zI E 5 o.2.2.2.2)] := by
  refine zM.of (cc := cX5_layDay) (maxL := 6) (ret := none) (by decide +kernel) rfl (Nat.le_of_ble_eq_true rfl) ?_
  intro p e s m args below meth c A C hr
  have C : zC p s m args c meth cX5_layDay 6 RX5 wsX5_layDay E A := C
  rw [f_X5_layDay] at h
  refine z_iconst (v := (0 : Int32)) C dX5_layDay_0 (by decide) ?_
  refine z_istore (L' := [(4, .int (0 : Int32)), (0, .ref q_t), (1, .ref q_p1), (2, .int a2), (3, .int a3)]) C dX5_layDay_1 (by decide) rfl ?_
  refine z_sub [1, 2, 3, 4, 0] (L' := [(0, .ref q_t), (1, .ref q_p1), (2, .int a2), (3, .int a3), (4, .int (0 : Int32))]) rfl ?_
  exact (l_X5_layDay_b3 F n_p1 a2 a3 p1 C hr F) (0 : Int32) t_leftBehind t_dayGets t_dayDue t_ahead t_gets h

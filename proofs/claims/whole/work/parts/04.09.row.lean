def rm_X4_digest : Room := { frames := 2, cells := 0, slots := 0, locals := 44 }
theorem hd_X4_digest : yX4_digest.cls = yX4_digest.cls ∧ yX4_digest.cls ≠ "java/lang/invoke/MethodHandle" ∧ yX4_digest.cls ≠ "java/lang/invoke/VarHandle" ∧ (parseMethodDescriptor yX4_digest.desc).map (fun d => d.parameters.length) = some 0 := by decide +kernel
abbrev wsX4_digest : List Cond := .code yX4_digest cX4_digest 4 (some .long) :: WALL
set_option maxRecDepth 100000 in
set_option maxHeartbeats 4000000 in
theorem l_X4_digest_b190 {p : Program} {l : Launch} {e : Env} {s : State} {m : MethodId} {args : Array Value} {below : List Frame} {meth : Method} {c : Code} {E : zE} {A : Nat → Prop} {q_t q_t_now q_t_now_had q_t_now_due q_t_reader q_t_now_kind q_t_now_wanted q_t_now_hours q_t_now_leftHour q_t_now_leftPressure q_t_now_note q_t_images q_t_search q_t_now_past q_t_now_ahead q_t_now_gets q_t_reader_draft q_t_reader_text : Nat} {t_bads : Int32} {t_nos : Int32} {t_fulls : Int32} {t_now_leftOver : Int32} {t_reader_start : Int32} {t_reader_next : Int32} {t_reader_token : Int32} {t_reader_value : Int32} {o : Int64} (F : Nat) (t_above : Int32) (t_below : Int32) (t_now_pressure : Int32) (t_now_day : Int32) (t_now_wells : Int32) (t_now_lefts : Int32) (t_now_notes : Int32) (t_now_undos : Int32) (t_now_had : Nat → Int32) (t_now_due : Nat → Int32) (t_reader_length : Int32) (t_now_kind : Nat → Int32) (t_now_wanted : Nat → Int32) (t_now_hours : Nat → Int32) (t_now_leftHour : Nat → Int32) (t_now_leftPressure : Nat → Int32) (t_now_note : Nat → Int32) (C : zC p s m args c meth cX4_digest 4 RX4 wsX4_digest E A) (hr : meth.sig.returnType = some .long) : ∀ (n : Nat) (v1 : Int64) (v3 : Int32), f_X4_digest_b190 F t_above t_below t_now_pressure t_now_day t_now_wells t_now_lefts t_now_notes t_now_undos t_now_had t_now_due t_reader_length t_now_kind t_now_wanted t_now_hours t_now_leftHour t_now_leftPressure t_now_note n v1 v3 = some o → zG p l e rm_X4_digest s m args below meth c 4 E A 0 0 (MQ below (zQ E A (some (.long o)) [(q_t, .inr (3, [.ref q_t_now, .ref q_t_images, .ref q_t_search, .ref q_t_reader, .int t_above, .int t_below, .int t_bads, .int t_nos, .int t_fulls])), (q_t_now, .inr (0, [.int t_now_pressure, .int t_now_day, .int t_now_wells, .int t_now_lefts, .int t_now_notes, .int t_now_undos, .ref q_t_now_kind, .ref q_t_now_wanted, .ref q_t_now_hours, .ref q_t_now_had, .ref q_t_now_due, .ref q_t_now_leftHour, .ref q_t_now_leftPressure, .ref q_t_now_note, .ref q_t_now_past, .ref q_t_now_ahead, .ref q_t_now_gets, .int t_now_leftOver])), (q_t_now_had, zI E 5 t_now_had), (q_t_now_due, zI E 5 t_now_due), (q_t_reader, .inr (1, [.ref q_t_reader_draft, .int t_reader_start, .int t_reader_length, .ref q_t_reader_text, .int t_reader_next, .int t_reader_token, .int t_reader_value])), (q_t_now_kind, zI E 5 t_now_kind), (q_t_now_wanted, zI E 5 t_now_wanted), (q_t_now_hours, zI E 5 t_now_hours), (q_t_now_leftHour, zI E 4 t_now_leftHour), (q_t_now_leftPressure, zI E 4 t_now_leftPressure), (q_t_now_note, zI E 36 t_now_note)]) args s 0 0 A) [(q_t, .inr (3, [.ref q_t_now, .ref q_t_images, .ref q_t_search, .ref q_t_reader, .int t_above, .int t_below, .int t_bads, .int t_nos, .int t_fulls])), (q_t_now, .inr (0, [.int t_now_pressure, .int t_now_day, .int t_now_wells, .int t_now_lefts, .int t_now_notes, .int t_now_undos, .ref q_t_now_kind, .ref q_t_now_wanted, .ref q_t_now_hours, .ref q_t_now_had, .ref q_t_now_due, .ref q_t_now_leftHour, .ref q_t_now_leftPressure, .ref q_t_now_note, .ref q_t_now_past, .ref q_t_now_ahead, .ref q_t_now_gets, .int t_now_leftOver])), (q_t_now_had, zI E 5 t_now_had), (q_t_now_due, zI E 5 t_now_due), (q_t_reader, .inr (1, [.ref q_t_reader_draft, .int t_reader_start, .int t_reader_length, .ref q_t_reader_text, .int t_reader_next, .int t_reader_token, .int t_reader_value])), (q_t_now_kind, zI E 5 t_now_kind), (q_t_now_wanted, zI E 5 t_now_wanted), (q_t_now_hours, zI E 5 t_now_hours), (q_t_now_leftHour, zI E 4 t_now_leftHour), (q_t_now_leftPressure, zI E 4 t_now_leftPressure), (q_t_now_note, zI E 36 t_now_note)] 190 [(0, .ref q_t), (1, .long v1), (3, .int v3)] [] := by
  intro n
  induction n with
  | zero =>
    intro v1 v3 h
    rw [f_X4_digest_b190] at h
    cases h
  | succ n ih =>
    intro v1 v3 h
    rw [f_X4_digest_b190] at h
    refine z_iload_n C dX4_digest_190 rfl 2 rfl ?_
    refine z_aload_n C dX4_digest_191 rfl 0 rfl ?_
    refine z_get C inT_X4 0 rfl rfl 0 (by decide) rfl (mc W_226) rfl dX4_digest_192 ?_
    refine z_get C inT_X1 1 rfl rfl 4 (by decide) rfl (mc W_93) rfl dX4_digest_195 ?_
    refine z_bipush (v := (6 : Int32)) C dX4_digest_198 (by decide) ?_
    refine z_imul C dX4_digest_200 ?_
    refine z_icmp_ge (tgt := 227) C dX4_digest_201 (by decide) (fun c => ?_) (fun c => ?_)
    · replace h := (if_pos c).symm.trans h
      refine z_ldc2 (v := (31 : Int64)) C dX4_digest_227 (mc W_663) ?_
      refine z_lload_n C dX4_digest_230 rfl 1 rfl ?_
      refine z_lmul C dX4_digest_231 ?_
      refine z_aload_n C dX4_digest_232 rfl 0 rfl ?_
      refine z_get C inT_X4 0 rfl rfl 4 (by decide) rfl (mc W_230) rfl dX4_digest_233 ?_
      refine z_i2l C dX4_digest_236 ?_
      refine z_ladd C dX4_digest_237 ?_
      refine z_lstore_n (L' := [(1, .long (((31 : Int64) * v1) + t_above.toInt64)), (0, .ref q_t), (3, .int v3)]) C dX4_digest_238 rfl (by decide) rfl ?_
      refine z_ldc2 (v := (31 : Int64)) C dX4_digest_239 (mc W_663) ?_
      refine z_lload_n C dX4_digest_242 rfl 0 rfl ?_
      refine z_lmul C dX4_digest_243 ?_
      refine z_aload_n C dX4_digest_244 rfl 1 rfl ?_
      refine z_get C inT_X4 0 rfl rfl 5 (by decide) rfl (mc W_231) rfl dX4_digest_245 ?_
      refine z_i2l C dX4_digest_248 ?_
      refine z_ladd C dX4_digest_249 ?_
      obtain rfl := Option.some.inj h
      exact z_lret (v := ((31 : Int64) * (((31 : Int64) * v1) + t_above.toInt64)) + t_below.toInt64) C hr dX4_digest_250
    · replace h := (if_neg c).symm.trans h
      refine z_ldc2 (v := (31 : Int64)) C dX4_digest_204 (mc W_663) ?_
      refine z_lload_n C dX4_digest_207 rfl 1 rfl ?_
      refine z_lmul C dX4_digest_208 ?_
      refine z_aload_n C dX4_digest_209 rfl 0 rfl ?_
      refine z_get C inT_X4 0 rfl rfl 0 (by decide) rfl (mc W_226) rfl dX4_digest_210 ?_
      refine z_get C inT_X1 1 rfl rfl 13 (by decide) rfl (mc W_114) rfl dX4_digest_213 ?_
      refine z_iload_n C dX4_digest_216 rfl 2 rfl ?_
      obtain ⟨c10, h⟩ := chk_some h
      refine z_iald C 10 rfl c10 dX4_digest_217 ?_
      refine z_i2l C dX4_digest_218 ?_
      refine z_ladd C dX4_digest_219 ?_
      refine z_lstore_n (L' := [(1, .long (((31 : Int64) * v1) + ((t_now_note v3.toNatClampNeg).toInt64))), (0, .ref q_t), (3, .int v3)]) C dX4_digest_220 rfl (by decide) rfl ?_
      refine z_iinc (v := v3 + (1 : Int32)) (L' := [(3, .int (v3 + (1 : Int32))), (1, .long (((31 : Int64) * v1) + ((t_now_note v3.toNatClampNeg).toInt64))), (0, .ref q_t)]) C dX4_digest_221 2 rfl rfl (by decide) rfl ?_
      refine z_goto (tgt := 190) C dX4_digest_224 (by decide) ?_
      refine z_sub [2, 1, 0] (L' := [(0, .ref q_t), (1, .long (((31 : Int64) * v1) + ((t_now_note v3.toNatClampNeg).toInt64))), (3, .int (v3 + (1 : Int32)))]) rfl ?_
      exact ih (((31 : Int64) * v1) + ((t_now_note v3.toNatClampNeg).toInt64)) (v3 + (1 : Int32)) h
set_option maxRecDepth 100000 in
set_option maxHeartbeats 4000000 in
theorem l_X4_digest_b137 {p : Program} {l : Launch} {e : Env} {s : State} {m : MethodId} {args : Array Value} {below : List Frame} {meth : Method} {c : Code} {E : zE} {A : Nat → Prop} {q_t q_t_now q_t_now_had q_t_now_due q_t_reader q_t_now_kind q_t_now_wanted q_t_now_hours q_t_now_leftHour q_t_now_leftPressure q_t_now_note q_t_images q_t_search q_t_now_past q_t_now_ahead q_t_now_gets q_t_reader_draft q_t_reader_text : Nat} {t_bads : Int32} {t_nos : Int32} {t_fulls : Int32} {t_now_leftOver : Int32} {t_reader_start : Int32} {t_reader_next : Int32} {t_reader_token : Int32} {t_reader_value : Int32} {o : Int64} (F : Nat) (t_above : Int32) (t_below : Int32) (t_now_pressure : Int32) (t_now_day : Int32) (t_now_wells : Int32) (t_now_lefts : Int32) (t_now_notes : Int32) (t_now_undos : Int32) (t_now_had : Nat → Int32) (t_now_due : Nat → Int32) (t_reader_length : Int32) (t_now_kind : Nat → Int32) (t_now_wanted : Nat → Int32) (t_now_hours : Nat → Int32) (t_now_leftHour : Nat → Int32) (t_now_leftPressure : Nat → Int32) (t_now_note : Nat → Int32) (C : zC p s m args c meth cX4_digest 4 RX4 wsX4_digest E A) (hr : meth.sig.returnType = some .long) : ∀ (n : Nat) (v1 : Int64) (v3 : Int32), f_X4_digest_b137 F t_above t_below t_now_pressure t_now_day t_now_wells t_now_lefts t_now_notes t_now_undos t_now_had t_now_due t_reader_length t_now_kind t_now_wanted t_now_hours t_now_leftHour t_now_leftPressure t_now_note n v1 v3 = some o → zG p l e rm_X4_digest s m args below meth c 4 E A 0 0 (MQ below (zQ E A (some (.long o)) [(q_t, .inr (3, [.ref q_t_now, .ref q_t_images, .ref q_t_search, .ref q_t_reader, .int t_above, .int t_below, .int t_bads, .int t_nos, .int t_fulls])), (q_t_now, .inr (0, [.int t_now_pressure, .int t_now_day, .int t_now_wells, .int t_now_lefts, .int t_now_notes, .int t_now_undos, .ref q_t_now_kind, .ref q_t_now_wanted, .ref q_t_now_hours, .ref q_t_now_had, .ref q_t_now_due, .ref q_t_now_leftHour, .ref q_t_now_leftPressure, .ref q_t_now_note, .ref q_t_now_past, .ref q_t_now_ahead, .ref q_t_now_gets, .int t_now_leftOver])), (q_t_now_had, zI E 5 t_now_had), (q_t_now_due, zI E 5 t_now_due), (q_t_reader, .inr (1, [.ref q_t_reader_draft, .int t_reader_start, .int t_reader_length, .ref q_t_reader_text, .int t_reader_next, .int t_reader_token, .int t_reader_value])), (q_t_now_kind, zI E 5 t_now_kind), (q_t_now_wanted, zI E 5 t_now_wanted), (q_t_now_hours, zI E 5 t_now_hours), (q_t_now_leftHour, zI E 4 t_now_leftHour), (q_t_now_leftPressure, zI E 4 t_now_leftPressure), (q_t_now_note, zI E 36 t_now_note)]) args s 0 0 A) [(q_t, .inr (3, [.ref q_t_now, .ref q_t_images, .ref q_t_search, .ref q_t_reader, .int t_above, .int t_below, .int t_bads, .int t_nos, .int t_fulls])), (q_t_now, .inr (0, [.int t_now_pressure, .int t_now_day, .int t_now_wells, .int t_now_lefts, .int t_now_notes, .int t_now_undos, .ref q_t_now_kind, .ref q_t_now_wanted, .ref q_t_now_hours, .ref q_t_now_had, .ref q_t_now_due, .ref q_t_now_leftHour, .ref q_t_now_leftPressure, .ref q_t_now_note, .ref q_t_now_past, .ref q_t_now_ahead, .ref q_t_now_gets, .int t_now_leftOver])), (q_t_now_had, zI E 5 t_now_had), (q_t_now_due, zI E 5 t_now_due), (q_t_reader, .inr (1, [.ref q_t_reader_draft, .int t_reader_start, .int t_reader_length, .ref q_t_reader_text, .int t_reader_next, .int t_reader_token, .int t_reader_value])), (q_t_now_kind, zI E 5 t_now_kind), (q_t_now_wanted, zI E 5 t_now_wanted), (q_t_now_hours, zI E 5 t_now_hours), (q_t_now_leftHour, zI E 4 t_now_leftHour), (q_t_now_leftPressure, zI E 4 t_now_leftPressure), (q_t_now_note, zI E 36 t_now_note)] 137 [(0, .ref q_t), (1, .long v1), (3, .int v3)] [] := by
  intro n
  induction n with
  | zero =>
    intro v1 v3 h
    rw [f_X4_digest_b137] at h
    cases h
  | succ n ih =>
    intro v1 v3 h
    rw [f_X4_digest_b137] at h
    refine z_iload_n C dX4_digest_137 rfl 2 rfl ?_
    refine z_aload_n C dX4_digest_138 rfl 0 rfl ?_
    refine z_get C inT_X4 0 rfl rfl 0 (by decide) rfl (mc W_226) rfl dX4_digest_139 ?_
    refine z_get C inT_X1 1 rfl rfl 3 (by decide) rfl (mc W_91) rfl dX4_digest_142 ?_
    refine z_icmp_ge (tgt := 188) C dX4_digest_145 (by decide) (fun c => ?_) (fun c => ?_)
    · replace h := (if_pos c).symm.trans h
      refine z_iconst (v := (0 : Int32)) C dX4_digest_188 (by decide) ?_
      refine z_istore_n (L' := [(3, .int (0 : Int32)), (0, .ref q_t), (1, .long v1)]) C dX4_digest_189 rfl (by decide) rfl ?_
      refine z_sub [1, 2, 0] (L' := [(0, .ref q_t), (1, .long v1), (3, .int (0 : Int32))]) rfl ?_
      exact (l_X4_digest_b190 F t_above t_below t_now_pressure t_now_day t_now_wells t_now_lefts t_now_notes t_now_undos t_now_had t_now_due t_reader_length t_now_kind t_now_wanted t_now_hours t_now_leftHour t_now_leftPressure t_now_note C hr F) v1 (0 : Int32) h
    · replace h := (if_neg c).symm.trans h
      refine z_ldc2 (v := (31 : Int64)) C dX4_digest_148 (mc W_663) ?_
      refine z_lload_n C dX4_digest_151 rfl 1 rfl ?_
      refine z_lmul C dX4_digest_152 ?_
      refine z_aload_n C dX4_digest_153 rfl 0 rfl ?_
      refine z_get C inT_X4 0 rfl rfl 0 (by decide) rfl (mc W_226) rfl dX4_digest_154 ?_
      refine z_get C inT_X1 1 rfl rfl 11 (by decide) rfl (mc W_110) rfl dX4_digest_157 ?_
      refine z_iload_n C dX4_digest_160 rfl 2 rfl ?_
      obtain ⟨c8, h⟩ := chk_some h
      refine z_iald C 8 rfl c8 dX4_digest_161 ?_
      refine z_i2l C dX4_digest_162 ?_
      refine z_ladd C dX4_digest_163 ?_
      refine z_lstore_n (L' := [(1, .long (((31 : Int64) * v1) + ((t_now_leftHour v3.toNatClampNeg).toInt64))), (0, .ref q_t), (3, .int v3)]) C dX4_digest_164 rfl (by decide) rfl ?_
      refine z_ldc2 (v := (31 : Int64)) C dX4_digest_165 (mc W_663) ?_
      refine z_lload_n C dX4_digest_168 rfl 0 rfl ?_
      refine z_lmul C dX4_digest_169 ?_
      refine z_aload_n C dX4_digest_170 rfl 1 rfl ?_
      refine z_get C inT_X4 0 rfl rfl 0 (by decide) rfl (mc W_226) rfl dX4_digest_171 ?_
      refine z_get C inT_X1 1 rfl rfl 12 (by decide) rfl (mc W_112) rfl dX4_digest_174 ?_
      refine z_iload_n C dX4_digest_177 rfl 2 rfl ?_
      obtain ⟨c9, h⟩ := chk_some h
      refine z_iald C 9 rfl c9 dX4_digest_178 ?_
      refine z_i2l C dX4_digest_179 ?_
      refine z_ladd C dX4_digest_180 ?_
      refine z_lstore_n (L' := [(1, .long (((31 : Int64) * (((31 : Int64) * v1) + ((t_now_leftHour v3.toNatClampNeg).toInt64))) + ((t_now_leftPressure v3.toNatClampNeg).toInt64))), (0, .ref q_t), (3, .int v3)]) C dX4_digest_181 rfl (by decide) rfl ?_
      refine z_iinc (v := v3 + (1 : Int32)) (L' := [(3, .int (v3 + (1 : Int32))), (1, .long (((31 : Int64) * (((31 : Int64) * v1) + ((t_now_leftHour v3.toNatClampNeg).toInt64))) + ((t_now_leftPressure v3.toNatClampNeg).toInt64))), (0, .ref q_t)]) C dX4_digest_182 2 rfl rfl (by decide) rfl ?_
      refine z_goto (tgt := 137) C dX4_digest_185 (by decide) ?_
      refine z_sub [2, 1, 0] (L' := [(0, .ref q_t), (1, .long (((31 : Int64) * (((31 : Int64) * v1) + ((t_now_leftHour v3.toNatClampNeg).toInt64))) + ((t_now_leftPressure v3.toNatClampNeg).toInt64))), (3, .int (v3 + (1 : Int32)))]) rfl ?_
      exact ih (((31 : Int64) * (((31 : Int64) * v1) + ((t_now_leftHour v3.toNatClampNeg).toInt64))) + ((t_now_leftPressure v3.toNatClampNeg).toInt64)) (v3 + (1 : Int32)) h
set_option maxRecDepth 100000 in
set_option maxHeartbeats 4000000 in
theorem l_X4_digest_b33 {p : Program} {l : Launch} {e : Env} {s : State} {m : MethodId} {args : Array Value} {below : List Frame} {meth : Method} {c : Code} {E : zE} {A : Nat → Prop} {q_t q_t_now q_t_now_had q_t_now_due q_t_reader q_t_now_kind q_t_now_wanted q_t_now_hours q_t_now_leftHour q_t_now_leftPressure q_t_now_note q_t_images q_t_search q_t_now_past q_t_now_ahead q_t_now_gets q_t_reader_draft q_t_reader_text : Nat} {t_bads : Int32} {t_nos : Int32} {t_fulls : Int32} {t_now_leftOver : Int32} {t_reader_start : Int32} {t_reader_next : Int32} {t_reader_token : Int32} {t_reader_value : Int32} {o : Int64} (F : Nat) (t_above : Int32) (t_below : Int32) (t_now_pressure : Int32) (t_now_day : Int32) (t_now_wells : Int32) (t_now_lefts : Int32) (t_now_notes : Int32) (t_now_undos : Int32) (t_now_had : Nat → Int32) (t_now_due : Nat → Int32) (t_reader_length : Int32) (t_now_kind : Nat → Int32) (t_now_wanted : Nat → Int32) (t_now_hours : Nat → Int32) (t_now_leftHour : Nat → Int32) (t_now_leftPressure : Nat → Int32) (t_now_note : Nat → Int32) (C : zC p s m args c meth cX4_digest 4 RX4 wsX4_digest E A) (hr : meth.sig.returnType = some .long) : ∀ (n : Nat) (v1 : Int64) (v3 : Int32), f_X4_digest_b33 F t_above t_below t_now_pressure t_now_day t_now_wells t_now_lefts t_now_notes t_now_undos t_now_had t_now_due t_reader_length t_now_kind t_now_wanted t_now_hours t_now_leftHour t_now_leftPressure t_now_note n v1 v3 = some o → zG p l e rm_X4_digest s m args below meth c 4 E A 0 0 (MQ below (zQ E A (some (.long o)) [(q_t, .inr (3, [.ref q_t_now, .ref q_t_images, .ref q_t_search, .ref q_t_reader, .int t_above, .int t_below, .int t_bads, .int t_nos, .int t_fulls])), (q_t_now, .inr (0, [.int t_now_pressure, .int t_now_day, .int t_now_wells, .int t_now_lefts, .int t_now_notes, .int t_now_undos, .ref q_t_now_kind, .ref q_t_now_wanted, .ref q_t_now_hours, .ref q_t_now_had, .ref q_t_now_due, .ref q_t_now_leftHour, .ref q_t_now_leftPressure, .ref q_t_now_note, .ref q_t_now_past, .ref q_t_now_ahead, .ref q_t_now_gets, .int t_now_leftOver])), (q_t_now_had, zI E 5 t_now_had), (q_t_now_due, zI E 5 t_now_due), (q_t_reader, .inr (1, [.ref q_t_reader_draft, .int t_reader_start, .int t_reader_length, .ref q_t_reader_text, .int t_reader_next, .int t_reader_token, .int t_reader_value])), (q_t_now_kind, zI E 5 t_now_kind), (q_t_now_wanted, zI E 5 t_now_wanted), (q_t_now_hours, zI E 5 t_now_hours), (q_t_now_leftHour, zI E 4 t_now_leftHour), (q_t_now_leftPressure, zI E 4 t_now_leftPressure), (q_t_now_note, zI E 36 t_now_note)]) args s 0 0 A) [(q_t, .inr (3, [.ref q_t_now, .ref q_t_images, .ref q_t_search, .ref q_t_reader, .int t_above, .int t_below, .int t_bads, .int t_nos, .int t_fulls])), (q_t_now, .inr (0, [.int t_now_pressure, .int t_now_day, .int t_now_wells, .int t_now_lefts, .int t_now_notes, .int t_now_undos, .ref q_t_now_kind, .ref q_t_now_wanted, .ref q_t_now_hours, .ref q_t_now_had, .ref q_t_now_due, .ref q_t_now_leftHour, .ref q_t_now_leftPressure, .ref q_t_now_note, .ref q_t_now_past, .ref q_t_now_ahead, .ref q_t_now_gets, .int t_now_leftOver])), (q_t_now_had, zI E 5 t_now_had), (q_t_now_due, zI E 5 t_now_due), (q_t_reader, .inr (1, [.ref q_t_reader_draft, .int t_reader_start, .int t_reader_length, .ref q_t_reader_text, .int t_reader_next, .int t_reader_token, .int t_reader_value])), (q_t_now_kind, zI E 5 t_now_kind), (q_t_now_wanted, zI E 5 t_now_wanted), (q_t_now_hours, zI E 5 t_now_hours), (q_t_now_leftHour, zI E 4 t_now_leftHour), (q_t_now_leftPressure, zI E 4 t_now_leftPressure), (q_t_now_note, zI E 36 t_now_note)] 33 [(0, .ref q_t), (1, .long v1), (3, .int v3)] [] := by
  intro n
  induction n with
  | zero =>
    intro v1 v3 h
    rw [f_X4_digest_b33] at h
    cases h
  | succ n ih =>
    intro v1 v3 h
    rw [f_X4_digest_b33] at h
    refine z_iload_n C dX4_digest_33 rfl 2 rfl ?_
    refine z_aload_n C dX4_digest_34 rfl 0 rfl ?_
    refine z_get C inT_X4 0 rfl rfl 0 (by decide) rfl (mc W_226) rfl dX4_digest_35 ?_
    refine z_get C inT_X1 1 rfl rfl 2 (by decide) rfl (mc W_88) rfl dX4_digest_38 ?_
    refine z_icmp_ge (tgt := 135) C dX4_digest_41 (by decide) (fun c => ?_) (fun c => ?_)
    · replace h := (if_pos c).symm.trans h
      refine z_iconst (v := (0 : Int32)) C dX4_digest_135 (by decide) ?_
      refine z_istore_n (L' := [(3, .int (0 : Int32)), (0, .ref q_t), (1, .long v1)]) C dX4_digest_136 rfl (by decide) rfl ?_
      refine z_sub [1, 2, 0] (L' := [(0, .ref q_t), (1, .long v1), (3, .int (0 : Int32))]) rfl ?_
      exact (l_X4_digest_b137 F t_above t_below t_now_pressure t_now_day t_now_wells t_now_lefts t_now_notes t_now_undos t_now_had t_now_due t_reader_length t_now_kind t_now_wanted t_now_hours t_now_leftHour t_now_leftPressure t_now_note C hr F) v1 (0 : Int32) h
    · replace h := (if_neg c).symm.trans h
      refine z_ldc2 (v := (31 : Int64)) C dX4_digest_44 (mc W_663) ?_
      refine z_lload_n C dX4_digest_47 rfl 1 rfl ?_
      refine z_lmul C dX4_digest_48 ?_
      refine z_aload_n C dX4_digest_49 rfl 0 rfl ?_
      refine z_get C inT_X4 0 rfl rfl 0 (by decide) rfl (mc W_226) rfl dX4_digest_50 ?_
      refine z_get C inT_X1 1 rfl rfl 6 (by decide) rfl (mc W_98) rfl dX4_digest_53 ?_
      refine z_iload_n C dX4_digest_56 rfl 2 rfl ?_
      obtain ⟨c3, h⟩ := chk_some h
      refine z_iald C 5 rfl c3 dX4_digest_57 ?_
      refine z_i2l C dX4_digest_58 ?_
      refine z_ladd C dX4_digest_59 ?_
      refine z_lstore_n (L' := [(1, .long (((31 : Int64) * v1) + ((t_now_kind v3.toNatClampNeg).toInt64))), (0, .ref q_t), (3, .int v3)]) C dX4_digest_60 rfl (by decide) rfl ?_
      refine z_ldc2 (v := (31 : Int64)) C dX4_digest_61 (mc W_663) ?_
      refine z_lload_n C dX4_digest_64 rfl 0 rfl ?_
      refine z_lmul C dX4_digest_65 ?_
      refine z_aload_n C dX4_digest_66 rfl 1 rfl ?_
      refine z_get C inT_X4 0 rfl rfl 0 (by decide) rfl (mc W_226) rfl dX4_digest_67 ?_
      refine z_get C inT_X1 1 rfl rfl 7 (by decide) rfl (mc W_101) rfl dX4_digest_70 ?_
      refine z_iload_n C dX4_digest_73 rfl 2 rfl ?_
      obtain ⟨c4, h⟩ := chk_some h
      refine z_iald C 6 rfl c4 dX4_digest_74 ?_
      refine z_i2l C dX4_digest_75 ?_
      refine z_ladd C dX4_digest_76 ?_
      refine z_lstore_n (L' := [(1, .long (((31 : Int64) * (((31 : Int64) * v1) + ((t_now_kind v3.toNatClampNeg).toInt64))) + ((t_now_wanted v3.toNatClampNeg).toInt64))), (0, .ref q_t), (3, .int v3)]) C dX4_digest_77 rfl (by decide) rfl ?_
      refine z_ldc2 (v := (31 : Int64)) C dX4_digest_78 (mc W_663) ?_
      refine z_lload_n C dX4_digest_81 rfl 0 rfl ?_
      refine z_lmul C dX4_digest_82 ?_
      refine z_aload_n C dX4_digest_83 rfl 1 rfl ?_
      refine z_get C inT_X4 0 rfl rfl 0 (by decide) rfl (mc W_226) rfl dX4_digest_84 ?_
      refine z_get C inT_X1 1 rfl rfl 8 (by decide) rfl (mc W_104) rfl dX4_digest_87 ?_
      refine z_iload_n C dX4_digest_90 rfl 2 rfl ?_
      obtain ⟨c5, h⟩ := chk_some h
      refine z_iald C 7 rfl c5 dX4_digest_91 ?_
      refine z_i2l C dX4_digest_92 ?_
      refine z_ladd C dX4_digest_93 ?_
      refine z_lstore_n (L' := [(1, .long (((31 : Int64) * (((31 : Int64) * (((31 : Int64) * v1) + ((t_now_kind v3.toNatClampNeg).toInt64))) + ((t_now_wanted v3.toNatClampNeg).toInt64))) + ((t_now_hours v3.toNatClampNeg).toInt64))), (0, .ref q_t), (3, .int v3)]) C dX4_digest_94 rfl (by decide) rfl ?_
      refine z_ldc2 (v := (31 : Int64)) C dX4_digest_95 (mc W_663) ?_
      refine z_lload_n C dX4_digest_98 rfl 0 rfl ?_
      refine z_lmul C dX4_digest_99 ?_
      refine z_aload_n C dX4_digest_100 rfl 1 rfl ?_
      refine z_get C inT_X4 0 rfl rfl 0 (by decide) rfl (mc W_226) rfl dX4_digest_101 ?_
      refine z_get C inT_X1 1 rfl rfl 9 (by decide) rfl (mc W_106) rfl dX4_digest_104 ?_
      refine z_iload_n C dX4_digest_107 rfl 2 rfl ?_
      obtain ⟨c6, h⟩ := chk_some h
      refine z_iald C 2 rfl c6 dX4_digest_108 ?_
      refine z_i2l C dX4_digest_109 ?_
      refine z_ladd C dX4_digest_110 ?_
      refine z_lstore_n (L' := [(1, .long (((31 : Int64) * (((31 : Int64) * (((31 : Int64) * (((31 : Int64) * v1) + ((t_now_kind v3.toNatClampNeg).toInt64))) + ((t_now_wanted v3.toNatClampNeg).toInt64))) + ((t_now_hours v3.toNatClampNeg).toInt64))) + ((t_now_had v3.toNatClampNeg).toInt64))), (0, .ref q_t), (3, .int v3)]) C dX4_digest_111 rfl (by decide) rfl ?_
      refine z_ldc2 (v := (31 : Int64)) C dX4_digest_112 (mc W_663) ?_
      refine z_lload_n C dX4_digest_115 rfl 0 rfl ?_
      refine z_lmul C dX4_digest_116 ?_
      refine z_aload_n C dX4_digest_117 rfl 1 rfl ?_
      refine z_get C inT_X4 0 rfl rfl 0 (by decide) rfl (mc W_226) rfl dX4_digest_118 ?_
      refine z_get C inT_X1 1 rfl rfl 10 (by decide) rfl (mc W_108) rfl dX4_digest_121 ?_
      refine z_iload_n C dX4_digest_124 rfl 2 rfl ?_
      obtain ⟨c7, h⟩ := chk_some h
      refine z_iald C 3 rfl c7 dX4_digest_125 ?_
      refine z_i2l C dX4_digest_126 ?_
      refine z_ladd C dX4_digest_127 ?_
      refine z_lstore_n (L' := [(1, .long (((31 : Int64) * (((31 : Int64) * (((31 : Int64) * (((31 : Int64) * (((31 : Int64) * v1) + ((t_now_kind v3.toNatClampNeg).toInt64))) + ((t_now_wanted v3.toNatClampNeg).toInt64))) + ((t_now_hours v3.toNatClampNeg).toInt64))) + ((t_now_had v3.toNatClampNeg).toInt64))) + ((t_now_due v3.toNatClampNeg).toInt64))), (0, .ref q_t), (3, .int v3)]) C dX4_digest_128 rfl (by decide) rfl ?_
      refine z_iinc (v := v3 + (1 : Int32)) (L' := [(3, .int (v3 + (1 : Int32))), (1, .long (((31 : Int64) * (((31 : Int64) * (((31 : Int64) * (((31 : Int64) * (((31 : Int64) * v1) + ((t_now_kind v3.toNatClampNeg).toInt64))) + ((t_now_wanted v3.toNatClampNeg).toInt64))) + ((t_now_hours v3.toNatClampNeg).toInt64))) + ((t_now_had v3.toNatClampNeg).toInt64))) + ((t_now_due v3.toNatClampNeg).toInt64))), (0, .ref q_t)]) C dX4_digest_129 2 rfl rfl (by decide) rfl ?_
      refine z_goto (tgt := 33) C dX4_digest_132 (by decide) ?_
      refine z_sub [2, 1, 0] (L' := [(0, .ref q_t), (1, .long (((31 : Int64) * (((31 : Int64) * (((31 : Int64) * (((31 : Int64) * (((31 : Int64) * v1) + ((t_now_kind v3.toNatClampNeg).toInt64))) + ((t_now_wanted v3.toNatClampNeg).toInt64))) + ((t_now_hours v3.toNatClampNeg).toInt64))) + ((t_now_had v3.toNatClampNeg).toInt64))) + ((t_now_due v3.toNatClampNeg).toInt64))), (3, .int (v3 + (1 : Int32)))]) rfl ?_
      exact ih (((31 : Int64) * (((31 : Int64) * (((31 : Int64) * (((31 : Int64) * (((31 : Int64) * v1) + ((t_now_kind v3.toNatClampNeg).toInt64))) + ((t_now_wanted v3.toNatClampNeg).toInt64))) + ((t_now_hours v3.toNatClampNeg).toInt64))) + ((t_now_had v3.toNatClampNeg).toInt64))) + ((t_now_due v3.toNatClampNeg).toInt64)) (v3 + (1 : Int32)) h
set_option maxRecDepth 100000 in
set_option maxHeartbeats 4000000 in
theorem l_X4_digest_b6 {p : Program} {l : Launch} {e : Env} {s : State} {m : MethodId} {args : Array Value} {below : List Frame} {meth : Method} {c : Code} {E : zE} {A : Nat → Prop} {q_t q_t_now q_t_now_had q_t_now_due q_t_reader q_t_now_kind q_t_now_wanted q_t_now_hours q_t_now_leftHour q_t_now_leftPressure q_t_now_note q_t_images q_t_search q_t_now_past q_t_now_ahead q_t_now_gets q_t_reader_draft q_t_reader_text : Nat} {t_bads : Int32} {t_nos : Int32} {t_fulls : Int32} {t_now_leftOver : Int32} {t_reader_start : Int32} {t_reader_next : Int32} {t_reader_token : Int32} {t_reader_value : Int32} {o : Int64} (F : Nat) (t_above : Int32) (t_below : Int32) (t_now_pressure : Int32) (t_now_day : Int32) (t_now_wells : Int32) (t_now_lefts : Int32) (t_now_notes : Int32) (t_now_undos : Int32) (t_now_had : Nat → Int32) (t_now_due : Nat → Int32) (t_reader_length : Int32) (t_now_kind : Nat → Int32) (t_now_wanted : Nat → Int32) (t_now_hours : Nat → Int32) (t_now_leftHour : Nat → Int32) (t_now_leftPressure : Nat → Int32) (t_now_note : Nat → Int32) (C : zC p s m args c meth cX4_digest 4 RX4 wsX4_digest E A) (hr : meth.sig.returnType = some .long) : ∀ (n : Nat) (v1 : Int64) (v3 : Int32), f_X4_digest_b6 F t_above t_below t_now_pressure t_now_day t_now_wells t_now_lefts t_now_notes t_now_undos t_now_had t_now_due t_reader_length t_now_kind t_now_wanted t_now_hours t_now_leftHour t_now_leftPressure t_now_note n v1 v3 = some o → zG p l e rm_X4_digest s m args below meth c 4 E A 0 0 (MQ below (zQ E A (some (.long o)) [(q_t, .inr (3, [.ref q_t_now, .ref q_t_images, .ref q_t_search, .ref q_t_reader, .int t_above, .int t_below, .int t_bads, .int t_nos, .int t_fulls])), (q_t_now, .inr (0, [.int t_now_pressure, .int t_now_day, .int t_now_wells, .int t_now_lefts, .int t_now_notes, .int t_now_undos, .ref q_t_now_kind, .ref q_t_now_wanted, .ref q_t_now_hours, .ref q_t_now_had, .ref q_t_now_due, .ref q_t_now_leftHour, .ref q_t_now_leftPressure, .ref q_t_now_note, .ref q_t_now_past, .ref q_t_now_ahead, .ref q_t_now_gets, .int t_now_leftOver])), (q_t_now_had, zI E 5 t_now_had), (q_t_now_due, zI E 5 t_now_due), (q_t_reader, .inr (1, [.ref q_t_reader_draft, .int t_reader_start, .int t_reader_length, .ref q_t_reader_text, .int t_reader_next, .int t_reader_token, .int t_reader_value])), (q_t_now_kind, zI E 5 t_now_kind), (q_t_now_wanted, zI E 5 t_now_wanted), (q_t_now_hours, zI E 5 t_now_hours), (q_t_now_leftHour, zI E 4 t_now_leftHour), (q_t_now_leftPressure, zI E 4 t_now_leftPressure), (q_t_now_note, zI E 36 t_now_note)]) args s 0 0 A) [(q_t, .inr (3, [.ref q_t_now, .ref q_t_images, .ref q_t_search, .ref q_t_reader, .int t_above, .int t_below, .int t_bads, .int t_nos, .int t_fulls])), (q_t_now, .inr (0, [.int t_now_pressure, .int t_now_day, .int t_now_wells, .int t_now_lefts, .int t_now_notes, .int t_now_undos, .ref q_t_now_kind, .ref q_t_now_wanted, .ref q_t_now_hours, .ref q_t_now_had, .ref q_t_now_due, .ref q_t_now_leftHour, .ref q_t_now_leftPressure, .ref q_t_now_note, .ref q_t_now_past, .ref q_t_now_ahead, .ref q_t_now_gets, .int t_now_leftOver])), (q_t_now_had, zI E 5 t_now_had), (q_t_now_due, zI E 5 t_now_due), (q_t_reader, .inr (1, [.ref q_t_reader_draft, .int t_reader_start, .int t_reader_length, .ref q_t_reader_text, .int t_reader_next, .int t_reader_token, .int t_reader_value])), (q_t_now_kind, zI E 5 t_now_kind), (q_t_now_wanted, zI E 5 t_now_wanted), (q_t_now_hours, zI E 5 t_now_hours), (q_t_now_leftHour, zI E 4 t_now_leftHour), (q_t_now_leftPressure, zI E 4 t_now_leftPressure), (q_t_now_note, zI E 36 t_now_note)] 6 [(0, .ref q_t), (1, .long v1), (3, .int v3)] [] := by
  intro n
  induction n with
  | zero =>
    intro v1 v3 h
    rw [f_X4_digest_b6] at h
    cases h
  | succ n ih =>
    intro v1 v3 h
    rw [f_X4_digest_b6] at h
    refine z_iload_n C dX4_digest_6 rfl 2 rfl ?_
    refine z_bipush (v := (8 : Int32)) C dX4_digest_7 (by decide) ?_
    refine z_icmp_gt (tgt := 31) C dX4_digest_9 (by decide) (fun c => ?_) (fun c => ?_)
    · replace h := (if_pos c).symm.trans h
      refine z_iconst (v := (0 : Int32)) C dX4_digest_31 (by decide) ?_
      refine z_istore_n (L' := [(3, .int (0 : Int32)), (0, .ref q_t), (1, .long v1)]) C dX4_digest_32 rfl (by decide) rfl ?_
      refine z_sub [1, 2, 0] (L' := [(0, .ref q_t), (1, .long v1), (3, .int (0 : Int32))]) rfl ?_
      exact (l_X4_digest_b33 F t_above t_below t_now_pressure t_now_day t_now_wells t_now_lefts t_now_notes t_now_undos t_now_had t_now_due t_reader_length t_now_kind t_now_wanted t_now_hours t_now_leftHour t_now_leftPressure t_now_note C hr F) v1 (0 : Int32) h
    · replace h := (if_neg c).symm.trans h
      refine z_ldc2 (v := (31 : Int64)) C dX4_digest_12 (mc W_663) ?_
      refine z_lload_n C dX4_digest_15 rfl 1 rfl ?_
      refine z_lmul C dX4_digest_16 ?_
      refine z_aload_n C dX4_digest_17 rfl 0 rfl ?_
      refine z_iload_n C dX4_digest_18 rfl 2 rfl ?_
      obtain ⟨o1, ho2, h⟩ := bnd_some h
      refine z_callV (wc := [(q_t, .inr (3, [.ref q_t_now, .ref q_t_images, .ref q_t_search, .ref q_t_reader, .int t_above, .int t_below, .int t_bads, .int t_nos, .int t_fulls])), (q_t_now, .inr (0, [.int t_now_pressure, .int t_now_day, .int t_now_wells, .int t_now_lefts, .int t_now_notes, .int t_now_undos, .ref q_t_now_kind, .ref q_t_now_wanted, .ref q_t_now_hours, .ref q_t_now_had, .ref q_t_now_due, .ref q_t_now_leftHour, .ref q_t_now_leftPressure, .ref q_t_now_note, .ref q_t_now_past, .ref q_t_now_ahead, .ref q_t_now_gets, .int t_now_leftOver])), (q_t_now_had, zI E 5 t_now_had), (q_t_now_due, zI E 5 t_now_due), (q_t_reader, .inr (1, [.ref q_t_reader_draft, .int t_reader_start, .int t_reader_length, .ref q_t_reader_text, .int t_reader_next, .int t_reader_token, .int t_reader_value]))]) (wr := [(q_t_now_kind, zI E 5 t_now_kind), (q_t_now_wanted, zI E 5 t_now_wanted), (q_t_now_hours, zI E 5 t_now_hours), (q_t_now_leftHour, zI E 4 t_now_leftHour), (q_t_now_leftPressure, zI E 4 t_now_leftPressure), (q_t_now_note, zI E 36 t_now_note)]) (wc' := [(q_t, .inr (3, [.ref q_t_now, .ref q_t_images, .ref q_t_search, .ref q_t_reader, .int t_above, .int t_below, .int t_bads, .int t_nos, .int t_fulls])), (q_t_now, .inr (0, [.int t_now_pressure, .int t_now_day, .int t_now_wells, .int t_now_lefts, .int t_now_notes, .int t_now_undos, .ref q_t_now_kind, .ref q_t_now_wanted, .ref q_t_now_hours, .ref q_t_now_had, .ref q_t_now_due, .ref q_t_now_leftHour, .ref q_t_now_leftPressure, .ref q_t_now_note, .ref q_t_now_past, .ref q_t_now_ahead, .ref q_t_now_gets, .int t_now_leftOver])), (q_t_now_had, zI E 5 t_now_had), (q_t_now_due, zI E 5 t_now_due), (q_t_reader, .inr (1, [.ref q_t_reader_draft, .int t_reader_start, .int t_reader_length, .ref q_t_reader_text, .int t_reader_next, .int t_reader_token, .int t_reader_value]))]) (ws2 := [(q_t, .inr (3, [.ref q_t_now, .ref q_t_images, .ref q_t_search, .ref q_t_reader, .int t_above, .int t_below, .int t_bads, .int t_nos, .int t_fulls])), (q_t_now, .inr (0, [.int t_now_pressure, .int t_now_day, .int t_now_wells, .int t_now_lefts, .int t_now_notes, .int t_now_undos, .ref q_t_now_kind, .ref q_t_now_wanted, .ref q_t_now_hours, .ref q_t_now_had, .ref q_t_now_due, .ref q_t_now_leftHour, .ref q_t_now_leftPressure, .ref q_t_now_note, .ref q_t_now_past, .ref q_t_now_ahead, .ref q_t_now_gets, .int t_now_leftOver])), (q_t_now_had, zI E 5 t_now_had), (q_t_now_due, zI E 5 t_now_due), (q_t_reader, .inr (1, [.ref q_t_reader_draft, .int t_reader_start, .int t_reader_length, .ref q_t_reader_text, .int t_reader_next, .int t_reader_token, .int t_reader_value])), (q_t_now_kind, zI E 5 t_now_kind), (q_t_now_wanted, zI E 5 t_now_wanted), (q_t_now_hours, zI E 5 t_now_hours), (q_t_now_leftHour, zI E 4 t_now_leftHour), (q_t_now_leftPressure, zI E 4 t_now_leftPressure), (q_t_now_note, zI E 36 t_now_note)]) (As := [.int v3]) (st2 := [.int o1, .long ((31 : Int64) * v1)]) C [0, 1, 2, 3, 4] [5, 6, 7, 8, 9, 10] [6, 7, 8, 9, 10, 0, 1, 2, 3, 4, 5] rfl rfl rfl rfl (by decide) rfl rfl (c_X4_howMany F ho2) (goodVT consT W_650 W_652 W_26 W_58 W_653) rfl rfl rfl hd_X4_howMany ⟨Nat.le_of_ble_eq_true rfl, Nat.le_of_ble_eq_true rfl⟩ rfl rfl rfl (j := 0) rfl rfl rfl (Nat.le_of_ble_eq_true rfl) dX4_digest_19 ⟨Nat.zero_le _, Nat.zero_le _⟩ ?_
      refine z_i2l C dX4_digest_22 ?_
      refine z_ladd C dX4_digest_23 ?_
      refine z_lstore_n (L' := [(1, .long (((31 : Int64) * v1) + o1.toInt64)), (0, .ref q_t), (3, .int v3)]) C dX4_digest_24 rfl (by decide) rfl ?_
      refine z_iinc (v := v3 + (1 : Int32)) (L' := [(3, .int (v3 + (1 : Int32))), (1, .long (((31 : Int64) * v1) + o1.toInt64)), (0, .ref q_t)]) C dX4_digest_25 2 rfl rfl (by decide) rfl ?_
      refine z_goto (tgt := 6) C dX4_digest_28 (by decide) ?_
      refine z_sub [2, 1, 0] (L' := [(0, .ref q_t), (1, .long (((31 : Int64) * v1) + o1.toInt64)), (3, .int (v3 + (1 : Int32)))]) rfl ?_
      exact ih (((31 : Int64) * v1) + o1.toInt64) (v3 + (1 : Int32)) h
set_option maxRecDepth 100000 in
set_option maxHeartbeats 4000000 in
theorem c_X4_digest {l : Launch} {E : zE} {q_t q_t_now q_t_now_had q_t_now_due q_t_reader q_t_now_kind q_t_now_wanted q_t_now_hours q_t_now_leftHour q_t_now_leftPressure q_t_now_note q_t_images q_t_search q_t_now_past q_t_now_ahead q_t_now_gets q_t_reader_draft q_t_reader_text : Nat} {t_bads : Int32} {t_nos : Int32} {t_fulls : Int32} {t_now_leftOver : Int32} {t_reader_start : Int32} {t_reader_next : Int32} {t_reader_token : Int32} {t_reader_value : Int32} {t_above : Int32} {t_below : Int32} {t_now_pressure : Int32} {t_now_day : Int32} {t_now_wells : Int32} {t_now_lefts : Int32} {t_now_notes : Int32} {t_now_undos : Int32} {t_now_had : Nat → Int32} {t_now_due : Nat → Int32} {t_reader_length : Int32} {t_now_kind : Nat → Int32} {t_now_wanted : Nat → Int32} {t_now_hours : Nat → Int32} {t_now_leftHour : Nat → Int32} {t_now_leftPressure : Nat → Int32} {t_now_note : Nat → Int32} {o : Int64} (F : Nat) (h : f_X4_digest F t_above t_below t_now_pressure t_now_day t_now_wells t_now_lefts t_now_notes t_now_undos t_now_had t_now_due t_reader_length t_now_kind t_now_wanted t_now_hours t_now_leftHour t_now_leftPressure t_now_note = some o) : zM l yX4_digest wsX4_digest rm_X4_digest E [.ref q_t] [(q_t, .inr (3, [.ref q_t_now, .ref q_t_images, .ref q_t_search, .ref q_t_reader, .int t_above, .int t_below, .int t_bads, .int t_nos, .int t_fulls])), (q_t_now, .inr (0, [.int t_now_pressure, .int t_now_day, .int t_now_wells, .int t_now_lefts, .int t_now_notes, .int t_now_undos, .ref q_t_now_kind, .ref q_t_now_wanted, .ref q_t_now_hours, .ref q_t_now_had, .ref q_t_now_due, .ref q_t_now_leftHour, .ref q_t_now_leftPressure, .ref q_t_now_note, .ref q_t_now_past, .ref q_t_now_ahead, .ref q_t_now_gets, .int t_now_leftOver])), (q_t_now_had, zI E 5 t_now_had), (q_t_now_due, zI E 5 t_now_due), (q_t_reader, .inr (1, [.ref q_t_reader_draft, .int t_reader_start, .int t_reader_length, .ref q_t_reader_text, .int t_reader_next, .int t_reader_token, .int t_reader_value])), (q_t_now_kind, zI E 5 t_now_kind), (q_t_now_wanted, zI E 5 t_now_wanted), (q_t_now_hours, zI E 5 t_now_hours), (q_t_now_leftHour, zI E 4 t_now_leftHour), (q_t_now_leftPressure, zI E 4 t_now_leftPressure), (q_t_now_note, zI E 36 t_now_note)] (some (.long o)) [(q_t, .inr (3, [.ref q_t_now, .ref q_t_images, .ref q_t_search, .ref q_t_reader, .int t_above, .int t_below, .int t_bads, .int t_nos, .int t_fulls])), (q_t_now, .inr (0, [.int t_now_pressure, .int t_now_day, .int t_now_wells, .int t_now_lefts, .int t_now_notes, .int t_now_undos, .ref q_t_now_kind, .ref q_t_now_wanted, .ref q_t_now_hours, .ref q_t_now_had, .ref q_t_now_due, .ref q_t_now_leftHour, .ref q_t_now_leftPressure, .ref q_t_now_note, .ref q_t_now_past, .ref q_t_now_ahead, .ref q_t_now_gets, .int t_now_leftOver])), (q_t_now_had, zI E 5 t_now_had), (q_t_now_due, zI E 5 t_now_due), (q_t_reader, .inr (1, [.ref q_t_reader_draft, .int t_reader_start, .int t_reader_length, .ref q_t_reader_text, .int t_reader_next, .int t_reader_token, .int t_reader_value])), (q_t_now_kind, zI E 5 t_now_kind), (q_t_now_wanted, zI E 5 t_now_wanted), (q_t_now_hours, zI E 5 t_now_hours), (q_t_now_leftHour, zI E 4 t_now_leftHour), (q_t_now_leftPressure, zI E 4 t_now_leftPressure), (q_t_now_note, zI E 36 t_now_note)] := by
  refine zM.of (cc := cX4_digest) (maxL := 4) (ret := (some .long)) (by decide +kernel) rfl (Nat.le_of_ble_eq_true rfl) ?_
  intro p e s m args below meth c A C hr
  have C : zC p s m args c meth cX4_digest 4 RX4 wsX4_digest E A := C
  rw [f_X4_digest] at h
  refine z_ldc2 (v := (1439 : Int64)) C dX4_digest_0 (mc W_662) ?_
  refine z_lstore_n (L' := [(1, .long (1439 : Int64)), (0, .ref q_t)]) C dX4_digest_3 rfl (by decide) rfl ?_
  refine z_iconst (v := (0 : Int32)) C dX4_digest_4 (by decide) ?_
  refine z_istore_n (L' := [(3, .int (0 : Int32)), (1, .long (1439 : Int64)), (0, .ref q_t)]) C dX4_digest_5 rfl (by decide) rfl ?_
  refine z_sub [2, 1, 0] (L' := [(0, .ref q_t), (1, .long (1439 : Int64)), (3, .int (0 : Int32))]) rfl ?_
  exact (l_X4_digest_b6 F t_above t_below t_now_pressure t_now_day t_now_wells t_now_lefts t_now_notes t_now_undos t_now_had t_now_due t_reader_length t_now_kind t_now_wanted t_now_hours t_now_leftHour t_now_leftPressure t_now_note C hr F) (1439 : Int64) (0 : Int32) h

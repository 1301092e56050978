def rm_X5_counted : Room := { frames := 2, cells := 0, slots := 0, locals := 43 }
theorem hd_X5_counted : yX5_counted.cls = yX5_counted.cls ∧ yX5_counted.cls ≠ "java/lang/invoke/MethodHandle" ∧ yX5_counted.cls ≠ "java/lang/invoke/VarHandle" ∧ (parseMethodDescriptor yX5_counted.desc).map (fun d => d.parameters.length) = some 1 := by decide +kernel
abbrev wsX5_counted : List Cond := .code yX5_counted cX5_counted 2 (some .int) :: WALL
set_option maxRecDepth 100000 in
set_option maxHeartbeats 4000000 in
theorem c_X5_counted {l : Launch} {E : zE} {q_t q_t_told q_t_kept q_t_isKept q_t_refused q_t_gets q_t_ahead q_t_dayGets q_t_dayDue q_t_own q_t_ownGets q_t_bestOwn q_t_alone q_t_atMuch q_t_hand q_t_his q_t_its q_t_bytes q_t_anew q_t_values : Nat} {t_above : Int64} {t_below : Int64} {t_leftBehind : Int32} {t_tokenAt : Int32} {t_tokenLong : Int32} {t_token : Int32} {t_value : Int32} {t_takenHours : Int32} {a1 : Int32} {t_bytesLong : Int32} {t_told : Nat → Int32} {o : Int32} (F : Nat) (h : f_X5_counted F a1 t_bytesLong t_told = some o) : zM l yX5_counted wsX5_counted rm_X5_counted E [.ref q_t, .int a1] [(q_t, .inr (4, [.ref q_t_told, .ref q_t_kept, .ref q_t_isKept, .ref q_t_refused, .long t_above, .long t_below, .ref q_t_gets, .ref q_t_ahead, .int t_leftBehind, .ref q_t_dayGets, .ref q_t_dayDue, .ref q_t_own, .ref q_t_ownGets, .ref q_t_bestOwn, .ref q_t_alone, .ref q_t_atMuch, .ref q_t_hand, .ref q_t_his, .ref q_t_its, .ref q_t_bytes, .int t_bytesLong, .int t_tokenAt, .int t_tokenLong, .int t_token, .int t_value, .ref q_t_anew, .ref q_t_values, .int t_takenHours])), (q_t_told, zI E 251 t_told)] (some (.int o)) [(q_t, .inr (4, [.ref q_t_told, .ref q_t_kept, .ref q_t_isKept, .ref q_t_refused, .long t_above, .long t_below, .ref q_t_gets, .ref q_t_ahead, .int t_leftBehind, .ref q_t_dayGets, .ref q_t_dayDue, .ref q_t_own, .ref q_t_ownGets, .ref q_t_bestOwn, .ref q_t_alone, .ref q_t_atMuch, .ref q_t_hand, .ref q_t_his, .ref q_t_its, .ref q_t_bytes, .int t_bytesLong, .int t_tokenAt, .int t_tokenLong, .int t_token, .int t_value, .ref q_t_anew, .ref q_t_values, .int t_takenHours])), (q_t_told, zI E 251 t_told)] := by
  refine zM.of (cc := cX5_counted) (maxL := 2) (ret := (some .int)) (by decide +kernel) rfl (Nat.le_of_ble_eq_true rfl) ?_
  intro p e s m args below meth c A C hr
  have C : zC p s m args c meth cX5_counted 2 RX5 wsX5_counted E A := C
  rw [f_X5_counted] at h
  refine z_iload_n C dX5_counted_0 rfl 1 rfl ?_
  by_cases e0 : a1 = (0 : Int32)
  · replace h := (if_pos e0).symm.trans h
    refine z_tabIn (tgt := 48) C dX5_counted_1 (by rw [e0]; decide) (by rw [e0]; decide) (by rw [e0]; rfl) (by decide) ?_
    refine z_aload_n C dX5_counted_48 rfl 0 rfl ?_
    obtain ⟨o1, ho2, h⟩ := bnd_some h
    refine z_callV (wc := [(q_t, .inr (4, [.ref q_t_told, .ref q_t_kept, .ref q_t_isKept, .ref q_t_refused, .long t_above, .long t_below, .ref q_t_gets, .ref q_t_ahead, .int t_leftBehind, .ref q_t_dayGets, .ref q_t_dayDue, .ref q_t_own, .ref q_t_ownGets, .ref q_t_bestOwn, .ref q_t_alone, .ref q_t_atMuch, .ref q_t_hand, .ref q_t_his, .ref q_t_its, .ref q_t_bytes, .int t_bytesLong, .int t_tokenAt, .int t_tokenLong, .int t_token, .int t_value, .ref q_t_anew, .ref q_t_values, .int t_takenHours])), (q_t_told, zI E 251 t_told)]) (wr := []) (wc' := [(q_t, .inr (4, [.ref q_t_told, .ref q_t_kept, .ref q_t_isKept, .ref q_t_refused, .long t_above, .long t_below, .ref q_t_gets, .ref q_t_ahead, .int t_leftBehind, .ref q_t_dayGets, .ref q_t_dayDue, .ref q_t_own, .ref q_t_ownGets, .ref q_t_bestOwn, .ref q_t_alone, .ref q_t_atMuch, .ref q_t_hand, .ref q_t_his, .ref q_t_its, .ref q_t_bytes, .int t_bytesLong, .int t_tokenAt, .int t_tokenLong, .int t_token, .int t_value, .ref q_t_anew, .ref q_t_values, .int t_takenHours])), (q_t_told, zI E 251 t_told)]) (ws2 := [(q_t, .inr (4, [.ref q_t_told, .ref q_t_kept, .ref q_t_isKept, .ref q_t_refused, .long t_above, .long t_below, .ref q_t_gets, .ref q_t_ahead, .int t_leftBehind, .ref q_t_dayGets, .ref q_t_dayDue, .ref q_t_own, .ref q_t_ownGets, .ref q_t_bestOwn, .ref q_t_alone, .ref q_t_atMuch, .ref q_t_hand, .ref q_t_his, .ref q_t_its, .ref q_t_bytes, .int t_bytesLong, .int t_tokenAt, .int t_tokenLong, .int t_token, .int t_value, .ref q_t_anew, .ref q_t_values, .int t_takenHours])), (q_t_told, zI E 251 t_told)]) (As := []) (st2 := [.int o1]) C [0, 1] [] [0, 1] rfl rfl rfl rfl (by decide) rfl rfl (c_X5_many F ho2) (goodVT consT W_774 W_776 W_28 W_62 W_777) rfl rfl rfl hd_X5_many ⟨Nat.le_of_ble_eq_true rfl, Nat.le_of_ble_eq_true rfl⟩ rfl rfl rfl (j := 0) rfl rfl rfl (Nat.le_of_ble_eq_true rfl) dX5_counted_49 ⟨Nat.zero_le _, Nat.zero_le _⟩ ?_
    obtain rfl := Option.some.inj h
    exact z_iret (v := o1) C hr dX5_counted_52
  · replace h := (if_neg e0).symm.trans h
    by_cases e1 : a1 = (1 : Int32)
    · replace h := (if_pos e1).symm.trans h
      refine z_tabIn (tgt := 53) C dX5_counted_1 (by rw [e1]; decide) (by rw [e1]; decide) (by rw [e1]; rfl) (by decide) ?_
      refine z_aload_n C dX5_counted_53 rfl 0 rfl ?_
      refine z_get C inT_X5 0 rfl rfl 0 (by decide) rfl (mc W_673) rfl dX5_counted_54 ?_
      refine z_bipush (v := (24 : Int32)) C dX5_counted_57 (by decide) ?_
      obtain ⟨c3, h⟩ := chk_some h
      refine z_iald C 1 rfl c3 dX5_counted_59 ?_
      obtain rfl := Option.some.inj h
      exact z_iret (v := t_told (24 : Int32).toNatClampNeg) C hr dX5_counted_60
    · replace h := (if_neg e1).symm.trans h
      by_cases e2 : a1 = (2 : Int32)
      · replace h := (if_pos e2).symm.trans h
        refine z_tabIn (tgt := 61) C dX5_counted_1 (by rw [e2]; decide) (by rw [e2]; decide) (by rw [e2]; rfl) (by decide) ?_
        refine z_aload_n C dX5_counted_61 rfl 0 rfl ?_
        refine z_get C inT_X5 0 rfl rfl 0 (by decide) rfl (mc W_673) rfl dX5_counted_62 ?_
        refine z_bipush (v := (25 : Int32)) C dX5_counted_65 (by decide) ?_
        obtain ⟨c4, h⟩ := chk_some h
        refine z_iald C 1 rfl c4 dX5_counted_67 ?_
        obtain rfl := Option.some.inj h
        exact z_iret (v := t_told (25 : Int32).toNatClampNeg) C hr dX5_counted_68
      · replace h := (if_neg e2).symm.trans h
        by_cases e3 : a1 = (3 : Int32)
        · replace h := (if_pos e3).symm.trans h
          refine z_tabIn (tgt := 69) C dX5_counted_1 (by rw [e3]; decide) (by rw [e3]; decide) (by rw [e3]; rfl) (by decide) ?_
          refine z_aload_n C dX5_counted_69 rfl 0 rfl ?_
          refine z_iconst (v := (4 : Int32)) C dX5_counted_70 (by decide) ?_
          obtain ⟨o5, ho6, h⟩ := bnd_some h
          refine z_callV (wc := [(q_t, .inr (4, [.ref q_t_told, .ref q_t_kept, .ref q_t_isKept, .ref q_t_refused, .long t_above, .long t_below, .ref q_t_gets, .ref q_t_ahead, .int t_leftBehind, .ref q_t_dayGets, .ref q_t_dayDue, .ref q_t_own, .ref q_t_ownGets, .ref q_t_bestOwn, .ref q_t_alone, .ref q_t_atMuch, .ref q_t_hand, .ref q_t_his, .ref q_t_its, .ref q_t_bytes, .int t_bytesLong, .int t_tokenAt, .int t_tokenLong, .int t_token, .int t_value, .ref q_t_anew, .ref q_t_values, .int t_takenHours])), (q_t_told, zI E 251 t_told)]) (wr := []) (wc' := [(q_t, .inr (4, [.ref q_t_told, .ref q_t_kept, .ref q_t_isKept, .ref q_t_refused, .long t_above, .long t_below, .ref q_t_gets, .ref q_t_ahead, .int t_leftBehind, .ref q_t_dayGets, .ref q_t_dayDue, .ref q_t_own, .ref q_t_ownGets, .ref q_t_bestOwn, .ref q_t_alone, .ref q_t_atMuch, .ref q_t_hand, .ref q_t_his, .ref q_t_its, .ref q_t_bytes, .int t_bytesLong, .int t_tokenAt, .int t_tokenLong, .int t_token, .int t_value, .ref q_t_anew, .ref q_t_values, .int t_takenHours])), (q_t_told, zI E 251 t_told)]) (ws2 := [(q_t, .inr (4, [.ref q_t_told, .ref q_t_kept, .ref q_t_isKept, .ref q_t_refused, .long t_above, .long t_below, .ref q_t_gets, .ref q_t_ahead, .int t_leftBehind, .ref q_t_dayGets, .ref q_t_dayDue, .ref q_t_own, .ref q_t_ownGets, .ref q_t_bestOwn, .ref q_t_alone, .ref q_t_atMuch, .ref q_t_hand, .ref q_t_his, .ref q_t_its, .ref q_t_bytes, .int t_bytesLong, .int t_tokenAt, .int t_tokenLong, .int t_token, .int t_value, .ref q_t_anew, .ref q_t_values, .int t_takenHours])), (q_t_told, zI E 251 t_told)]) (As := [.int (4 : Int32)]) (st2 := [.int o5]) C [0, 1] [] [0, 1] rfl rfl rfl rfl (by decide) rfl rfl (c_X5_allOf F ho6) (goodVT consT W_1060 W_1062 W_55 W_62 W_1063) rfl rfl rfl hd_X5_allOf ⟨Nat.le_of_ble_eq_true rfl, Nat.le_of_ble_eq_true rfl⟩ rfl rfl rfl (j := 0) rfl rfl rfl (Nat.le_of_ble_eq_true rfl) dX5_counted_71 ⟨Nat.zero_le _, Nat.zero_le _⟩ ?_
          obtain rfl := Option.some.inj h
          exact z_iret (v := o5) C hr dX5_counted_74
        · replace h := (if_neg e3).symm.trans h
          by_cases e4 : a1 = (4 : Int32)
          · replace h := (if_pos e4).symm.trans h
            refine z_tabIn (tgt := 75) C dX5_counted_1 (by rw [e4]; decide) (by rw [e4]; decide) (by rw [e4]; rfl) (by decide) ?_
            refine z_aload_n C dX5_counted_75 rfl 0 rfl ?_
            refine z_bipush (v := (9 : Int32)) C dX5_counted_76 (by decide) ?_
            obtain ⟨o7, ho8, h⟩ := bnd_some h
            refine z_callV (wc := [(q_t, .inr (4, [.ref q_t_told, .ref q_t_kept, .ref q_t_isKept, .ref q_t_refused, .long t_above, .long t_below, .ref q_t_gets, .ref q_t_ahead, .int t_leftBehind, .ref q_t_dayGets, .ref q_t_dayDue, .ref q_t_own, .ref q_t_ownGets, .ref q_t_bestOwn, .ref q_t_alone, .ref q_t_atMuch, .ref q_t_hand, .ref q_t_his, .ref q_t_its, .ref q_t_bytes, .int t_bytesLong, .int t_tokenAt, .int t_tokenLong, .int t_token, .int t_value, .ref q_t_anew, .ref q_t_values, .int t_takenHours])), (q_t_told, zI E 251 t_told)]) (wr := []) (wc' := [(q_t, .inr (4, [.ref q_t_told, .ref q_t_kept, .ref q_t_isKept, .ref q_t_refused, .long t_above, .long t_below, .ref q_t_gets, .ref q_t_ahead, .int t_leftBehind, .ref q_t_dayGets, .ref q_t_dayDue, .ref q_t_own, .ref q_t_ownGets, .ref q_t_bestOwn, .ref q_t_alone, .ref q_t_atMuch, .ref q_t_hand, .ref q_t_his, .ref q_t_its, .ref q_t_bytes, .int t_bytesLong, .int t_tokenAt, .int t_tokenLong, .int t_token, .int t_value, .ref q_t_anew, .ref q_t_values, .int t_takenHours])), (q_t_told, zI E 251 t_told)]) (ws2 := [(q_t, .inr (4, [.ref q_t_told, .ref q_t_kept, .ref q_t_isKept, .ref q_t_refused, .long t_above, .long t_below, .ref q_t_gets, .ref q_t_ahead, .int t_leftBehind, .ref q_t_dayGets, .ref q_t_dayDue, .ref q_t_own, .ref q_t_ownGets, .ref q_t_bestOwn, .ref q_t_alone, .ref q_t_atMuch, .ref q_t_hand, .ref q_t_his, .ref q_t_its, .ref q_t_bytes, .int t_bytesLong, .int t_tokenAt, .int t_tokenLong, .int t_token, .int t_value, .ref q_t_anew, .ref q_t_values, .int t_takenHours])), (q_t_told, zI E 251 t_told)]) (As := [.int (9 : Int32)]) (st2 := [.int o7]) C [0, 1] [] [0, 1] rfl rfl rfl rfl (by decide) rfl rfl (c_X5_allOf F ho8) (goodVT consT W_1060 W_1062 W_55 W_62 W_1063) rfl rfl rfl hd_X5_allOf ⟨Nat.le_of_ble_eq_true rfl, Nat.le_of_ble_eq_true rfl⟩ rfl rfl rfl (j := 0) rfl rfl rfl (Nat.le_of_ble_eq_true rfl) dX5_counted_78 ⟨Nat.zero_le _, Nat.zero_le _⟩ ?_
            obtain rfl := Option.some.inj h
            exact z_iret (v := o7) C hr dX5_counted_81
          · replace h := (if_neg e4).symm.trans h
            by_cases e5 : a1 = (5 : Int32)
            · replace h := (if_pos e5).symm.trans h
              refine z_tabIn (tgt := 82) C dX5_counted_1 (by rw [e5]; decide) (by rw [e5]; decide) (by rw [e5]; rfl) (by decide) ?_
              refine z_aload_n C dX5_counted_82 rfl 0 rfl ?_
              refine z_get C inT_X5 0 rfl rfl 0 (by decide) rfl (mc W_673) rfl dX5_counted_83 ?_
              refine z_iconst (v := (1 : Int32)) C dX5_counted_86 (by decide) ?_
              obtain ⟨c9, h⟩ := chk_some h
              refine z_iald C 1 rfl c9 dX5_counted_87 ?_
              obtain rfl := Option.some.inj h
              exact z_iret (v := t_told (1 : Int32).toNatClampNeg) C hr dX5_counted_88
            · replace h := (if_neg e5).symm.trans h
              by_cases e6 : a1 = (6 : Int32)
              · replace h := (if_pos e6).symm.trans h
                refine z_tabIn (tgt := 89) C dX5_counted_1 (by rw [e6]; decide) (by rw [e6]; decide) (by rw [e6]; rfl) (by decide) ?_
                refine z_aload_n C dX5_counted_89 rfl 0 rfl ?_
                refine z_get C inT_X5 0 rfl rfl 0 (by decide) rfl (mc W_673) rfl dX5_counted_90 ?_
                refine z_iconst (v := (2 : Int32)) C dX5_counted_93 (by decide) ?_
                obtain ⟨c10, h⟩ := chk_some h
                refine z_iald C 1 rfl c10 dX5_counted_94 ?_
                obtain rfl := Option.some.inj h
                exact z_iret (v := t_told (2 : Int32).toNatClampNeg) C hr dX5_counted_95
              · replace h := (if_neg e6).symm.trans h
                by_cases e7 : a1 = (7 : Int32)
                · replace h := (if_pos e7).symm.trans h
                  refine z_tabIn (tgt := 96) C dX5_counted_1 (by rw [e7]; decide) (by rw [e7]; decide) (by rw [e7]; rfl) (by decide) ?_
                  refine z_aload_n C dX5_counted_96 rfl 0 rfl ?_
                  refine z_get C inT_X5 0 rfl rfl 0 (by decide) rfl (mc W_673) rfl dX5_counted_97 ?_
                  refine z_iconst (v := (3 : Int32)) C dX5_counted_100 (by decide) ?_
                  obtain ⟨c11, h⟩ := chk_some h
                  refine z_iald C 1 rfl c11 dX5_counted_101 ?_
                  obtain rfl := Option.some.inj h
                  exact z_iret (v := t_told (3 : Int32).toNatClampNeg) C hr dX5_counted_102
                · replace h := (if_neg e7).symm.trans h
                  have g0 := lv_neT (a := 0) e0 (by decide)
                  have g1 := lv_neT (a := 1) e1 (by decide)
                  have g2 := lv_neT (a := 2) e2 (by decide)
                  have g3 := lv_neT (a := 3) e3 (by decide)
                  have g4 := lv_neT (a := 4) e4 (by decide)
                  have g5 := lv_neT (a := 5) e5 (by decide)
                  have g6 := lv_neT (a := 6) e6 (by decide)
                  have g7 := lv_neT (a := 7) e7 (by decide)
                  refine z_tabOut (tgt := 103) C dX5_counted_1 (by omega) (by decide) ?_
                  refine z_aload_n C dX5_counted_103 rfl 0 rfl ?_
                  refine z_get C inT_X5 0 rfl rfl 20 (by decide) rfl (mc W_693) rfl dX5_counted_104 ?_
                  obtain rfl := Option.some.inj h
                  exact z_iret (v := t_bytesLong) C hr dX5_counted_107
def rm_X5_count : Room := { frames := 3, cells := 0, slots := 0, locals := 64 }
theorem hd_X5_count : yX5_count.cls = yX5_count.cls ∧ yX5_count.cls ≠ "java/lang/invoke/MethodHandle" ∧ yX5_count.cls ≠ "java/lang/invoke/VarHandle" ∧ (parseMethodDescriptor yX5_count.desc).map (fun d => d.parameters.length) = some 1 := by decide +kernel
abbrev wsX5_count : List Cond := .code yX5_count cX5_count 2 (some .int) :: WALL
set_option maxRecDepth 100000 in
set_option maxHeartbeats 4000000 in
theorem c_X5_count {l : Launch} {E : zE} {q_t q_t_refused q_t_told q_t_kept q_t_isKept q_t_gets q_t_ahead q_t_dayGets q_t_dayDue q_t_own q_t_ownGets q_t_bestOwn q_t_alone q_t_atMuch q_t_hand q_t_his q_t_its q_t_bytes q_t_anew q_t_values : Nat} {t_above : Int64} {t_below : Int64} {t_leftBehind : Int32} {t_tokenAt : Int32} {t_tokenLong : Int32} {t_token : Int32} {t_value : Int32} {t_takenHours : Int32} {a1 : Int32} {t_bytesLong : Int32} {t_told : Nat → Int32} {t_refused : Nat → Int32} {o : Int32 × (Nat → Int32)} (F : Nat) (h : f_X5_count F a1 t_bytesLong t_told t_refused = some o) : zM l yX5_count wsX5_count rm_X5_count E [.ref q_t, .int a1] [(q_t, .inr (4, [.ref q_t_told, .ref q_t_kept, .ref q_t_isKept, .ref q_t_refused, .long t_above, .long t_below, .ref q_t_gets, .ref q_t_ahead, .int t_leftBehind, .ref q_t_dayGets, .ref q_t_dayDue, .ref q_t_own, .ref q_t_ownGets, .ref q_t_bestOwn, .ref q_t_alone, .ref q_t_atMuch, .ref q_t_hand, .ref q_t_his, .ref q_t_its, .ref q_t_bytes, .int t_bytesLong, .int t_tokenAt, .int t_tokenLong, .int t_token, .int t_value, .ref q_t_anew, .ref q_t_values, .int t_takenHours])), (q_t_refused, zI E 3 t_refused), (q_t_told, zI E 251 t_told)] (some (.int o.1)) [(q_t, .inr (4, [.ref q_t_told, .ref q_t_kept, .ref q_t_isKept, .ref q_t_refused, .long t_above, .long t_below, .ref q_t_gets, .ref q_t_ahead, .int t_leftBehind, .ref q_t_dayGets, .ref q_t_dayDue, .ref q_t_own, .ref q_t_ownGets, .ref q_t_bestOwn, .ref q_t_alone, .ref q_t_atMuch, .ref q_t_hand, .ref q_t_his, .ref q_t_its, .ref q_t_bytes, .int t_bytesLong, .int t_tokenAt, .int t_tokenLong, .int t_token, .int t_value, .ref q_t_anew, .ref q_t_values, .int t_takenHours])), (q_t_refused, zI E 3 o.2), (q_t_told, zI E 251 t_told)] := by
  refine zM.of (cc := cX5_count) (maxL := 2) (ret := (some .int)) (by decide +kernel) rfl (Nat.le_of_ble_eq_true rfl) ?_
  intro p e s m args below meth c A C hr
  have C : zC p s m args c meth cX5_count 2 RX5 wsX5_count E A := C
  rw [f_X5_count] at h
  refine z_iload_n C dX5_count_0 rfl 1 rfl ?_
  refine z_i2l C dX5_count_1 ?_
  refine z_lconst (v := (0 : Int64)) C dX5_count_2 (by decide) ?_
  refine z_ldc2 (v := (8 : Int64)) C dX5_count_3 (mc W_1055) ?_
  obtain ⟨o1, ho2, h⟩ := bnd_some h
  refine z_callS (wc := []) (wr := [(q_t, .inr (4, [.ref q_t_told, .ref q_t_kept, .ref q_t_isKept, .ref q_t_refused, .long t_above, .long t_below, .ref q_t_gets, .ref q_t_ahead, .int t_leftBehind, .ref q_t_dayGets, .ref q_t_dayDue, .ref q_t_own, .ref q_t_ownGets, .ref q_t_bestOwn, .ref q_t_alone, .ref q_t_atMuch, .ref q_t_hand, .ref q_t_his, .ref q_t_its, .ref q_t_bytes, .int t_bytesLong, .int t_tokenAt, .int t_tokenLong, .int t_token, .int t_value, .ref q_t_anew, .ref q_t_values, .int t_takenHours])), (q_t_refused, zI E 3 t_refused), (q_t_told, zI E 251 t_told)]) (wc' := []) (ws2 := [(q_t, .inr (4, [.ref q_t_told, .ref q_t_kept, .ref q_t_isKept, .ref q_t_refused, .long t_above, .long t_below, .ref q_t_gets, .ref q_t_ahead, .int t_leftBehind, .ref q_t_dayGets, .ref q_t_dayDue, .ref q_t_own, .ref q_t_ownGets, .ref q_t_bestOwn, .ref q_t_alone, .ref q_t_atMuch, .ref q_t_hand, .ref q_t_his, .ref q_t_its, .ref q_t_bytes, .int t_bytesLong, .int t_tokenAt, .int t_tokenLong, .int t_token, .int t_value, .ref q_t_anew, .ref q_t_values, .int t_takenHours])), (q_t_refused, zI E 3 t_refused), (q_t_told, zI E 251 t_told)]) (As := [.long a1.toInt64, .long (0 : Int64), .long (8 : Int64)]) (st2 := [.int o1]) C [] [0, 1, 2] [0, 1, 2] rfl rfl rfl rfl (by decide) rfl rfl (c_X5_in F ho2) (goodST consT W_767 W_768 W_62 W_769) rfl rfl rfl hd_X5_in ⟨Nat.le_of_ble_eq_true rfl, Nat.le_of_ble_eq_true rfl⟩ rfl rfl rfl (Nat.le_of_ble_eq_true rfl) dX5_count_6 ⟨Nat.zero_le _, Nat.zero_le _⟩ ?_
  refine z_if_eq (tgt := 20) C dX5_count_9 (by decide) (fun c => ?_) (fun c => ?_)
  · replace h := (if_pos c).symm.trans h
    refine z_aload_n C dX5_count_20 rfl 0 rfl ?_
    refine z_bipush (v := (-2 : Int32)) C dX5_count_21 (by decide) ?_
    obtain ⟨o3, ho4, h⟩ := bnd_some h
    refine z_callV (wc := [(q_t, .inr (4, [.ref q_t_told, .ref q_t_kept, .ref q_t_isKept, .ref q_t_refused, .long t_above, .long t_below, .ref q_t_gets, .ref q_t_ahead, .int t_leftBehind, .ref q_t_dayGets, .ref q_t_dayDue, .ref q_t_own, .ref q_t_ownGets, .ref q_t_bestOwn, .ref q_t_alone, .ref q_t_atMuch, .ref q_t_hand, .ref q_t_his, .ref q_t_its, .ref q_t_bytes, .int t_bytesLong, .int t_tokenAt, .int t_tokenLong, .int t_token, .int t_value, .ref q_t_anew, .ref q_t_values, .int t_takenHours])), (q_t_refused, zI E 3 t_refused)]) (wr := [(q_t_told, zI E 251 t_told)]) (wc' := [(q_t, .inr (4, [.ref q_t_told, .ref q_t_kept, .ref q_t_isKept, .ref q_t_refused, .long t_above, .long t_below, .ref q_t_gets, .ref q_t_ahead, .int t_leftBehind, .ref q_t_dayGets, .ref q_t_dayDue, .ref q_t_own, .ref q_t_ownGets, .ref q_t_bestOwn, .ref q_t_alone, .ref q_t_atMuch, .ref q_t_hand, .ref q_t_his, .ref q_t_its, .ref q_t_bytes, .int t_bytesLong, .int t_tokenAt, .int t_tokenLong, .int t_token, .int t_value, .ref q_t_anew, .ref q_t_values, .int t_takenHours])), (q_t_refused, zI E 3 o3.2)]) (ws2 := [(q_t, .inr (4, [.ref q_t_told, .ref q_t_kept, .ref q_t_isKept, .ref q_t_refused, .long t_above, .long t_below, .ref q_t_gets, .ref q_t_ahead, .int t_leftBehind, .ref q_t_dayGets, .ref q_t_dayDue, .ref q_t_own, .ref q_t_ownGets, .ref q_t_bestOwn, .ref q_t_alone, .ref q_t_atMuch, .ref q_t_hand, .ref q_t_his, .ref q_t_its, .ref q_t_bytes, .int t_bytesLong, .int t_tokenAt, .int t_tokenLong, .int t_token, .int t_value, .ref q_t_anew, .ref q_t_values, .int t_takenHours])), (q_t_refused, zI E 3 o3.2), (q_t_told, zI E 251 t_told)]) (As := [.int (-2 : Int32)]) (st2 := [.int o3.1]) C [0, 1] [2] [1, 2, 0] rfl rfl rfl rfl (by decide) rfl rfl (c_X5_bad F ho4) (goodVT consT W_770 W_772 W_27 W_62 W_773) rfl rfl rfl hd_X5_bad ⟨Nat.le_of_ble_eq_true rfl, Nat.le_of_ble_eq_true rfl⟩ rfl rfl rfl (j := 0) rfl rfl rfl (Nat.le_of_ble_eq_true rfl) dX5_count_23 ⟨Nat.zero_le _, Nat.zero_le _⟩ ?_
    obtain rfl := Option.some.inj h
    exact z_iret (v := o3.1) C hr dX5_count_26
  · replace h := (if_neg c).symm.trans h
    refine z_aload_n C dX5_count_12 rfl 0 rfl ?_
    refine z_iload_n C dX5_count_13 rfl 1 rfl ?_
    obtain ⟨o5, ho6, h⟩ := bnd_some h
    refine z_callV (wc := [(q_t, .inr (4, [.ref q_t_told, .ref q_t_kept, .ref q_t_isKept, .ref q_t_refused, .long t_above, .long t_below, .ref q_t_gets, .ref q_t_ahead, .int t_leftBehind, .ref q_t_dayGets, .ref q_t_dayDue, .ref q_t_own, .ref q_t_ownGets, .ref q_t_bestOwn, .ref q_t_alone, .ref q_t_atMuch, .ref q_t_hand, .ref q_t_his, .ref q_t_its, .ref q_t_bytes, .int t_bytesLong, .int t_tokenAt, .int t_tokenLong, .int t_token, .int t_value, .ref q_t_anew, .ref q_t_values, .int t_takenHours])), (q_t_told, zI E 251 t_told)]) (wr := [(q_t_refused, zI E 3 t_refused)]) (wc' := [(q_t, .inr (4, [.ref q_t_told, .ref q_t_kept, .ref q_t_isKept, .ref q_t_refused, .long t_above, .long t_below, .ref q_t_gets, .ref q_t_ahead, .int t_leftBehind, .ref q_t_dayGets, .ref q_t_dayDue, .ref q_t_own, .ref q_t_ownGets, .ref q_t_bestOwn, .ref q_t_alone, .ref q_t_atMuch, .ref q_t_hand, .ref q_t_his, .ref q_t_its, .ref q_t_bytes, .int t_bytesLong, .int t_tokenAt, .int t_tokenLong, .int t_token, .int t_value, .ref q_t_anew, .ref q_t_values, .int t_takenHours])), (q_t_told, zI E 251 t_told)]) (ws2 := [(q_t, .inr (4, [.ref q_t_told, .ref q_t_kept, .ref q_t_isKept, .ref q_t_refused, .long t_above, .long t_below, .ref q_t_gets, .ref q_t_ahead, .int t_leftBehind, .ref q_t_dayGets, .ref q_t_dayDue, .ref q_t_own, .ref q_t_ownGets, .ref q_t_bestOwn, .ref q_t_alone, .ref q_t_atMuch, .ref q_t_hand, .ref q_t_his, .ref q_t_its, .ref q_t_bytes, .int t_bytesLong, .int t_tokenAt, .int t_tokenLong, .int t_token, .int t_value, .ref q_t_anew, .ref q_t_values, .int t_takenHours])), (q_t_refused, zI E 3 t_refused), (q_t_told, zI E 251 t_told)]) (As := [.int a1]) (st2 := [.int o5]) C [0, 2] [1] [1, 0, 2] rfl rfl rfl rfl (by decide) rfl rfl (c_X5_counted F ho6) (goodVT consT W_1056 W_1058 W_54 W_62 W_1059) rfl rfl rfl hd_X5_counted ⟨Nat.le_of_ble_eq_true rfl, Nat.le_of_ble_eq_true rfl⟩ rfl rfl rfl (j := 0) rfl rfl rfl (Nat.le_of_ble_eq_true rfl) dX5_count_14 ⟨Nat.zero_le _, Nat.zero_le _⟩ ?_
    refine z_goto (tgt := 26) C dX5_count_17 (by decide) ?_
    obtain rfl := Option.some.inj h
    exact z_iret (v := o5) C hr dX5_count_26
def rm_X5_sums : Room := { frames := 0, cells := 0, slots := 0, locals := 0 }
theorem hd_X5_sums : yX5_sums.cls = yX5_sums.cls ∧ yX5_sums.cls ≠ "java/lang/invoke/MethodHandle" ∧ yX5_sums.cls ≠ "java/lang/invoke/VarHandle" ∧ (parseMethodDescriptor yX5_sums.desc).map (fun d => d.parameters.length) = some 3 := by decide +kernel
abbrev wsX5_sums : List Cond := .code yX5_sums cX5_sums 8 (some .long) :: WALL
set_option maxRecDepth 100000 in
set_option maxHeartbeats 4000000 in
theorem l_X5_sums_b6 {p : Program} {l : Launch} {e : Env} {s : State} {m : MethodId} {args : Array Value} {below : List Frame} {meth : Method} {c : Code} {E : zE} {A : Nat → Prop} {q_t q_t_told q_t_kept q_t_isKept q_t_refused q_t_gets q_t_ahead q_t_dayGets q_t_dayDue q_t_own q_t_ownGets q_t_bestOwn q_t_alone q_t_atMuch q_t_hand q_t_his q_t_its q_t_bytes q_t_anew q_t_values : Nat} {t_above : Int64} {t_below : Int64} {t_leftBehind : Int32} {t_bytesLong : Int32} {t_tokenAt : Int32} {t_tokenLong : Int32} {t_token : Int32} {t_value : Int32} {t_takenHours : Int32} {o : Int64} (F : Nat) (a1 : Int64) (a3 : Int32) (a4 : Int32) (t_told : Nat → Int32) (C : zC p s m args c meth cX5_sums 8 RX5 wsX5_sums E A) (hr : meth.sig.returnType = some .long) : ∀ (n : Nat) (v5 : Int64) (v7 : Int32), f_X5_sums_b6 F a1 a3 a4 t_told n v5 v7 = some o → zG p l e rm_X5_sums s m args below meth c 8 E A 0 0 (MQ below (zQ E A (some (.long o)) [(q_t, .inr (4, [.ref q_t_told, .ref q_t_kept, .ref q_t_isKept, .ref q_t_refused, .long t_above, .long t_below, .ref q_t_gets, .ref q_t_ahead, .int t_leftBehind, .ref q_t_dayGets, .ref q_t_dayDue, .ref q_t_own, .ref q_t_ownGets, .ref q_t_bestOwn, .ref q_t_alone, .ref q_t_atMuch, .ref q_t_hand, .ref q_t_his, .ref q_t_its, .ref q_t_bytes, .int t_bytesLong, .int t_tokenAt, .int t_tokenLong, .int t_token, .int t_value, .ref q_t_anew, .ref q_t_values, .int t_takenHours])), (q_t_told, zI E 251 t_told)]) args s 0 0 A) [(q_t, .inr (4, [.ref q_t_told, .ref q_t_kept, .ref q_t_isKept, .ref q_t_refused, .long t_above, .long t_below, .ref q_t_gets, .ref q_t_ahead, .int t_leftBehind, .ref q_t_dayGets, .ref q_t_dayDue, .ref q_t_own, .ref q_t_ownGets, .ref q_t_bestOwn, .ref q_t_alone, .ref q_t_atMuch, .ref q_t_hand, .ref q_t_his, .ref q_t_its, .ref q_t_bytes, .int t_bytesLong, .int t_tokenAt, .int t_tokenLong, .int t_token, .int t_value, .ref q_t_anew, .ref q_t_values, .int t_takenHours])), (q_t_told, zI E 251 t_told)] 6 [(0, .ref q_t), (3, .int a3), (4, .int a4), (5, .long v5), (7, .int v7)] [] := by
  intro n
  induction n with
  | zero =>
    intro v5 v7 h
    rw [f_X5_sums_b6] at h
    cases h
  | succ n ih =>
    intro v5 v7 h
    rw [f_X5_sums_b6] at h
    refine z_iload C dX5_sums_6 4 rfl ?_
    refine z_iload C dX5_sums_8 2 rfl ?_
    refine z_icmp_ge (tgt := 38) C dX5_sums_10 (by decide) (fun c => ?_) (fun c => ?_)
    · replace h := (if_pos c).symm.trans h
      refine z_lload C dX5_sums_38 3 rfl ?_
      obtain rfl := Option.some.inj h
      exact z_lret (v := v5) C hr dX5_sums_40
    · replace h := (if_neg c).symm.trans h
      refine z_ldc2 (v := (31 : Int64)) C dX5_sums_13 (mc W_1069) ?_
      refine z_lload C dX5_sums_16 3 rfl ?_
      refine z_lmul C dX5_sums_18 ?_
      refine z_aload_n C dX5_sums_19 rfl 0 rfl ?_
      refine z_get C inT_X5 0 rfl rfl 0 (by decide) rfl (mc W_673) rfl dX5_sums_20 ?_
      refine z_iload_n C dX5_sums_23 rfl 1 rfl ?_
      refine z_iload C dX5_sums_24 4 rfl ?_
      refine z_iadd C dX5_sums_26 ?_
      obtain ⟨c1, h⟩ := chk_some h
      refine z_iald C 1 rfl c1 dX5_sums_27 ?_
      refine z_i2l C dX5_sums_28 ?_
      refine z_ladd C dX5_sums_29 ?_
      refine z_lstore (L' := [(5, .long (((31 : Int64) * v5) + ((t_told (a3 + v7).toNatClampNeg).toInt64))), (0, .ref q_t), (3, .int a3), (4, .int a4), (7, .int v7)]) C dX5_sums_30 (by decide) rfl ?_
      refine z_iinc (v := v7 + (1 : Int32)) (L' := [(7, .int (v7 + (1 : Int32))), (5, .long (((31 : Int64) * v5) + ((t_told (a3 + v7).toNatClampNeg).toInt64))), (0, .ref q_t), (3, .int a3), (4, .int a4)]) C dX5_sums_32 4 rfl rfl (by decide) rfl ?_
      refine z_goto (tgt := 6) C dX5_sums_35 (by decide) ?_
      refine z_sub [2, 3, 4, 1, 0] (L' := [(0, .ref q_t), (3, .int a3), (4, .int a4), (5, .long (((31 : Int64) * v5) + ((t_told (a3 + v7).toNatClampNeg).toInt64))), (7, .int (v7 + (1 : Int32)))]) rfl ?_
      exact ih (((31 : Int64) * v5) + ((t_told (a3 + v7).toNatClampNeg).toInt64)) (v7 + (1 : Int32)) h
set_option maxRecDepth 100000 in
set_option maxHeartbeats 4000000 in
theorem c_X5_sums {l : Launch} {E : zE} {q_t q_t_told q_t_kept q_t_isKept q_t_refused q_t_gets q_t_ahead q_t_dayGets q_t_dayDue q_t_own q_t_ownGets q_t_bestOwn q_t_alone q_t_atMuch q_t_hand q_t_his q_t_its q_t_bytes q_t_anew q_t_values : Nat} {t_above : Int64} {t_below : Int64} {t_leftBehind : Int32} {t_bytesLong : Int32} {t_tokenAt : Int32} {t_tokenLong : Int32} {t_token : Int32} {t_value : Int32} {t_takenHours : Int32} {a1 : Int64} {a3 : Int32} {a4 : Int32} {t_told : Nat → Int32} {o : Int64} (F : Nat) (h : f_X5_sums F a1 a3 a4 t_told = some o) : zM l yX5_sums wsX5_sums rm_X5_sums E [.ref q_t, .long a1, .int a3, .int a4] [(q_t, .inr (4, [.ref q_t_told, .ref q_t_kept, .ref q_t_isKept, .ref q_t_refused, .long t_above, .long t_below, .ref q_t_gets, .ref q_t_ahead, .int t_leftBehind, .ref q_t_dayGets, .ref q_t_dayDue, .ref q_t_own, .ref q_t_ownGets, .ref q_t_bestOwn, .ref q_t_alone, .ref q_t_atMuch, .ref q_t_hand, .ref q_t_his, .ref q_t_its, .ref q_t_bytes, .int t_bytesLong, .int t_tokenAt, .int t_tokenLong, .int t_token, .int t_value, .ref q_t_anew, .ref q_t_values, .int t_takenHours])), (q_t_told, zI E 251 t_told)] (some (.long o)) [(q_t, .inr (4, [.ref q_t_told, .ref q_t_kept, .ref q_t_isKept, .ref q_t_refused, .long t_above, .long t_below, .ref q_t_gets, .ref q_t_ahead, .int t_leftBehind, .ref q_t_dayGets, .ref q_t_dayDue, .ref q_t_own, .ref q_t_ownGets, .ref q_t_bestOwn, .ref q_t_alone, .ref q_t_atMuch, .ref q_t_hand, .ref q_t_his, .ref q_t_its, .ref q_t_bytes, .int t_bytesLong, .int t_tokenAt, .int t_tokenLong, .int t_token, .int t_value, .ref q_t_anew, .ref q_t_values, .int t_takenHours])), (q_t_told, zI E 251 t_told)] := by
  refine zM.of (cc := cX5_sums) (maxL := 8) (ret := (some .long)) (by decide +kernel) rfl (Nat.le_of_ble_eq_true rfl) ?_
  intro p e s m args below meth c A C hr
  have C : zC p s m args c meth cX5_sums 8 RX5 wsX5_sums E A := C
  rw [f_X5_sums] at h
  refine z_lload_n C dX5_sums_0 rfl 1 rfl ?_
  refine z_lstore (L' := [(5, .long a1), (0, .ref q_t), (1, .long a1), (3, .int a3), (4, .int a4)]) C dX5_sums_1 (by decide) rfl ?_
  refine z_iconst (v := (0 : Int32)) C dX5_sums_3 (by decide) ?_
  refine z_istore (L' := [(7, .int (0 : Int32)), (5, .long a1), (0, .ref q_t), (1, .long a1), (3, .int a3), (4, .int a4)]) C dX5_sums_4 (by decide) rfl ?_
  refine z_sub [2, 4, 5, 1, 0] (L' := [(0, .ref q_t), (3, .int a3), (4, .int a4), (5, .long a1), (7, .int (0 : Int32))]) rfl ?_
  exact (l_X5_sums_b6 F a1 a3 a4 t_told C hr F) a1 (0 : Int32) h
def rm_X5_digest : Room := { frames := 3, cells := 0, slots := 0, locals := 64 }
theorem hd_X5_digest : yX5_digest.cls = yX5_digest.cls ∧ yX5_digest.cls ≠ "java/lang/invoke/MethodHandle" ∧ yX5_digest.cls ≠ "java/lang/invoke/VarHandle" ∧ (parseMethodDescriptor yX5_digest.desc).map (fun d => d.parameters.length) = some 0 := by decide +kernel
abbrev wsX5_digest : List Cond := .code yX5_digest cX5_digest 4 (some .long) :: WALL
set_option maxRecDepth 100000 in
set_option maxHeartbeats 4000000 in
theorem l_X5_digest_b33 {p : Program} {l : Launch} {e : Env} {s : State} {m : MethodId} {args : Array Value} {below : List Frame} {meth : Method} {c : Code} {E : zE} {A : Nat → Prop} {q_t q_t_told q_t_kept q_t_isKept q_t_refused q_t_gets q_t_ahead q_t_dayGets q_t_dayDue q_t_own q_t_ownGets q_t_bestOwn q_t_alone q_t_atMuch q_t_hand q_t_his q_t_its q_t_bytes q_t_anew q_t_values : Nat} {t_leftBehind : Int32} {t_tokenAt : Int32} {t_tokenLong : Int32} {t_token : Int32} {t_value : Int32} {t_takenHours : Int32} {o : Int64} (F : Nat) (t_above : Int64) (t_below : Int64) (t_bytesLong : Int32) (t_told : Nat → Int32) (C : zC p s m args c meth cX5_digest 4 RX5 wsX5_digest E A) (hr : meth.sig.returnType = some .long) : ∀ (n : Nat) (v1 : Int64) (v3 : Int32), f_X5_digest_b33 F t_above t_below t_bytesLong t_told n v1 v3 = some o → zG p l e rm_X5_digest s m args below meth c 4 E A 0 0 (MQ below (zQ E A (some (.long o)) [(q_t, .inr (4, [.ref q_t_told, .ref q_t_kept, .ref q_t_isKept, .ref q_t_refused, .long t_above, .long t_below, .ref q_t_gets, .ref q_t_ahead, .int t_leftBehind, .ref q_t_dayGets, .ref q_t_dayDue, .ref q_t_own, .ref q_t_ownGets, .ref q_t_bestOwn, .ref q_t_alone, .ref q_t_atMuch, .ref q_t_hand, .ref q_t_his, .ref q_t_its, .ref q_t_bytes, .int t_bytesLong, .int t_tokenAt, .int t_tokenLong, .int t_token, .int t_value, .ref q_t_anew, .ref q_t_values, .int t_takenHours])), (q_t_told, zI E 251 t_told)]) args s 0 0 A) [(q_t, .inr (4, [.ref q_t_told, .ref q_t_kept, .ref q_t_isKept, .ref q_t_refused, .long t_above, .long t_below, .ref q_t_gets, .ref q_t_ahead, .int t_leftBehind, .ref q_t_dayGets, .ref q_t_dayDue, .ref q_t_own, .ref q_t_ownGets, .ref q_t_bestOwn, .ref q_t_alone, .ref q_t_atMuch, .ref q_t_hand, .ref q_t_his, .ref q_t_its, .ref q_t_bytes, .int t_bytesLong, .int t_tokenAt, .int t_tokenLong, .int t_token, .int t_value, .ref q_t_anew, .ref q_t_values, .int t_takenHours])), (q_t_told, zI E 251 t_told)] 33 [(0, .ref q_t), (1, .long v1), (3, .int v3)] [] := by
  intro n
  induction n with
  | zero =>
    intro v1 v3 h
    rw [f_X5_digest_b33] at h
    cases h
  | succ n ih =>
    intro v1 v3 h
    rw [f_X5_digest_b33] at h
    refine z_iload_n C dX5_digest_33 rfl 2 rfl ?_
    refine z_aload_n C dX5_digest_34 rfl 0 rfl ?_
    obtain ⟨o3, ho4, h⟩ := bnd_some h
    refine z_callV (wc := [(q_t, .inr (4, [.ref q_t_told, .ref q_t_kept, .ref q_t_isKept, .ref q_t_refused, .long t_above, .long t_below, .ref q_t_gets, .ref q_t_ahead, .int t_leftBehind, .ref q_t_dayGets, .ref q_t_dayDue, .ref q_t_own, .ref q_t_ownGets, .ref q_t_bestOwn, .ref q_t_alone, .ref q_t_atMuch, .ref q_t_hand, .ref q_t_his, .ref q_t_its, .ref q_t_bytes, .int t_bytesLong, .int t_tokenAt, .int t_tokenLong, .int t_token, .int t_value, .ref q_t_anew, .ref q_t_values, .int t_takenHours])), (q_t_told, zI E 251 t_told)]) (wr := []) (wc' := [(q_t, .inr (4, [.ref q_t_told, .ref q_t_kept, .ref q_t_isKept, .ref q_t_refused, .long t_above, .long t_below, .ref q_t_gets, .ref q_t_ahead, .int t_leftBehind, .ref q_t_dayGets, .ref q_t_dayDue, .ref q_t_own, .ref q_t_ownGets, .ref q_t_bestOwn, .ref q_t_alone, .ref q_t_atMuch, .ref q_t_hand, .ref q_t_his, .ref q_t_its, .ref q_t_bytes, .int t_bytesLong, .int t_tokenAt, .int t_tokenLong, .int t_token, .int t_value, .ref q_t_anew, .ref q_t_values, .int t_takenHours])), (q_t_told, zI E 251 t_told)]) (ws2 := [(q_t, .inr (4, [.ref q_t_told, .ref q_t_kept, .ref q_t_isKept, .ref q_t_refused, .long t_above, .long t_below, .ref q_t_gets, .ref q_t_ahead, .int t_leftBehind, .ref q_t_dayGets, .ref q_t_dayDue, .ref q_t_own, .ref q_t_ownGets, .ref q_t_bestOwn, .ref q_t_alone, .ref q_t_atMuch, .ref q_t_hand, .ref q_t_his, .ref q_t_its, .ref q_t_bytes, .int t_bytesLong, .int t_tokenAt, .int t_tokenLong, .int t_token, .int t_value, .ref q_t_anew, .ref q_t_values, .int t_takenHours])), (q_t_told, zI E 251 t_told)]) (As := []) (st2 := [.int o3, .int v3]) C [0, 1] [] [0, 1] rfl rfl rfl rfl (by decide) rfl rfl (c_X5_many F ho4) (goodVT consT W_774 W_776 W_28 W_62 W_777) rfl rfl rfl hd_X5_many ⟨Nat.le_of_ble_eq_true rfl, Nat.le_of_ble_eq_true rfl⟩ rfl rfl rfl (j := 0) rfl rfl rfl (Nat.le_of_ble_eq_true rfl) dX5_digest_35 ⟨Nat.zero_le _, Nat.zero_le _⟩ ?_
    refine z_icmp_ge (tgt := 125) C dX5_digest_38 (by decide) (fun c => ?_) (fun c => ?_)
    · replace h := (if_pos c).symm.trans h
      refine z_aload_n C dX5_digest_125 rfl 0 rfl ?_
      refine z_lload_n C dX5_digest_126 rfl 1 rfl ?_
      refine z_bipush (v := (31 : Int32)) C dX5_digest_127 (by decide) ?_
      refine z_iconst (v := (2 : Int32)) C dX5_digest_129 (by decide) ?_
      refine z_aload_n C dX5_digest_130 rfl 0 rfl ?_
      refine z_get C inT_X5 0 rfl rfl 0 (by decide) rfl (mc W_673) rfl dX5_digest_131 ?_
      refine z_iconst (v := (1 : Int32)) C dX5_digest_134 (by decide) ?_
      obtain ⟨c5, h⟩ := chk_some h
      refine z_iald C 1 rfl c5 dX5_digest_135 ?_
      refine z_imul C dX5_digest_136 ?_
      obtain ⟨o6, ho7, h⟩ := bnd_some h
      refine z_callV (wc := [(q_t, .inr (4, [.ref q_t_told, .ref q_t_kept, .ref q_t_isKept, .ref q_t_refused, .long t_above, .long t_below, .ref q_t_gets, .ref q_t_ahead, .int t_leftBehind, .ref q_t_dayGets, .ref q_t_dayDue, .ref q_t_own, .ref q_t_ownGets, .ref q_t_bestOwn, .ref q_t_alone, .ref q_t_atMuch, .ref q_t_hand, .ref q_t_his, .ref q_t_its, .ref q_t_bytes, .int t_bytesLong, .int t_tokenAt, .int t_tokenLong, .int t_token, .int t_value, .ref q_t_anew, .ref q_t_values, .int t_takenHours])), (q_t_told, zI E 251 t_told)]) (wr := []) (wc' := [(q_t, .inr (4, [.ref q_t_told, .ref q_t_kept, .ref q_t_isKept, .ref q_t_refused, .long t_above, .long t_below, .ref q_t_gets, .ref q_t_ahead, .int t_leftBehind, .ref q_t_dayGets, .ref q_t_dayDue, .ref q_t_own, .ref q_t_ownGets, .ref q_t_bestOwn, .ref q_t_alone, .ref q_t_atMuch, .ref q_t_hand, .ref q_t_his, .ref q_t_its, .ref q_t_bytes, .int t_bytesLong, .int t_tokenAt, .int t_tokenLong, .int t_token, .int t_value, .ref q_t_anew, .ref q_t_values, .int t_takenHours])), (q_t_told, zI E 251 t_told)]) (ws2 := [(q_t, .inr (4, [.ref q_t_told, .ref q_t_kept, .ref q_t_isKept, .ref q_t_refused, .long t_above, .long t_below, .ref q_t_gets, .ref q_t_ahead, .int t_leftBehind, .ref q_t_dayGets, .ref q_t_dayDue, .ref q_t_own, .ref q_t_ownGets, .ref q_t_bestOwn, .ref q_t_alone, .ref q_t_atMuch, .ref q_t_hand, .ref q_t_his, .ref q_t_its, .ref q_t_bytes, .int t_bytesLong, .int t_tokenAt, .int t_tokenLong, .int t_token, .int t_value, .ref q_t_anew, .ref q_t_values, .int t_takenHours])), (q_t_told, zI E 251 t_told)]) (As := [.long v1, .int (31 : Int32), .int ((2 : Int32) * (t_told (1 : Int32).toNatClampNeg))]) (st2 := [.long o6]) C [0, 1] [] [0, 1] rfl rfl rfl rfl (by decide) rfl rfl (c_X5_sums F ho7) (goodVT consT W_1070 W_1072 W_56 W_62 W_1073) rfl rfl rfl hd_X5_sums ⟨Nat.le_of_ble_eq_true rfl, Nat.le_of_ble_eq_true rfl⟩ rfl rfl rfl (j := 0) rfl rfl rfl (Nat.le_of_ble_eq_true rfl) dX5_digest_137 ⟨Nat.zero_le _, Nat.zero_le _⟩ ?_
      refine z_lstore_n (L' := [(1, .long o6), (0, .ref q_t), (3, .int v3)]) C dX5_digest_140 rfl (by decide) rfl ?_
      refine z_aload_n C dX5_digest_141 rfl 1 rfl ?_
      refine z_lload_n C dX5_digest_142 rfl 0 rfl ?_
      refine z_bipush (v := (39 : Int32)) C dX5_digest_143 (by decide) ?_
      refine z_bipush (v := (6 : Int32)) C dX5_digest_145 (by decide) ?_
      refine z_aload_n C dX5_digest_147 rfl 1 rfl ?_
      refine z_get C inT_X5 0 rfl rfl 0 (by decide) rfl (mc W_673) rfl dX5_digest_148 ?_
      refine z_iconst (v := (2 : Int32)) C dX5_digest_151 (by decide) ?_
      obtain ⟨c8, h⟩ := chk_some h
      refine z_iald C 1 rfl c8 dX5_digest_152 ?_
      refine z_imul C dX5_digest_153 ?_
      obtain ⟨o9, ho10, h⟩ := bnd_some h
      refine z_callV (wc := [(q_t, .inr (4, [.ref q_t_told, .ref q_t_kept, .ref q_t_isKept, .ref q_t_refused, .long t_above, .long t_below, .ref q_t_gets, .ref q_t_ahead, .int t_leftBehind, .ref q_t_dayGets, .ref q_t_dayDue, .ref q_t_own, .ref q_t_ownGets, .ref q_t_bestOwn, .ref q_t_alone, .ref q_t_atMuch, .ref q_t_hand, .ref q_t_his, .ref q_t_its, .ref q_t_bytes, .int t_bytesLong, .int t_tokenAt, .int t_tokenLong, .int t_token, .int t_value, .ref q_t_anew, .ref q_t_values, .int t_takenHours])), (q_t_told, zI E 251 t_told)]) (wr := []) (wc' := [(q_t, .inr (4, [.ref q_t_told, .ref q_t_kept, .ref q_t_isKept, .ref q_t_refused, .long t_above, .long t_below, .ref q_t_gets, .ref q_t_ahead, .int t_leftBehind, .ref q_t_dayGets, .ref q_t_dayDue, .ref q_t_own, .ref q_t_ownGets, .ref q_t_bestOwn, .ref q_t_alone, .ref q_t_atMuch, .ref q_t_hand, .ref q_t_his, .ref q_t_its, .ref q_t_bytes, .int t_bytesLong, .int t_tokenAt, .int t_tokenLong, .int t_token, .int t_value, .ref q_t_anew, .ref q_t_values, .int t_takenHours])), (q_t_told, zI E 251 t_told)]) (ws2 := [(q_t, .inr (4, [.ref q_t_told, .ref q_t_kept, .ref q_t_isKept, .ref q_t_refused, .long t_above, .long t_below, .ref q_t_gets, .ref q_t_ahead, .int t_leftBehind, .ref q_t_dayGets, .ref q_t_dayDue, .ref q_t_own, .ref q_t_ownGets, .ref q_t_bestOwn, .ref q_t_alone, .ref q_t_atMuch, .ref q_t_hand, .ref q_t_his, .ref q_t_its, .ref q_t_bytes, .int t_bytesLong, .int t_tokenAt, .int t_tokenLong, .int t_token, .int t_value, .ref q_t_anew, .ref q_t_values, .int t_takenHours])), (q_t_told, zI E 251 t_told)]) (As := [.long o6, .int (39 : Int32), .int ((6 : Int32) * (t_told (2 : Int32).toNatClampNeg))]) (st2 := [.long o9]) C [0, 1] [] [0, 1] rfl rfl rfl rfl (by decide) rfl rfl (c_X5_sums F ho10) (goodVT consT W_1070 W_1072 W_56 W_62 W_1073) rfl rfl rfl hd_X5_sums ⟨Nat.le_of_ble_eq_true rfl, Nat.le_of_ble_eq_true rfl⟩ rfl rfl rfl (j := 0) rfl rfl rfl (Nat.le_of_ble_eq_true rfl) dX5_digest_154 ⟨Nat.zero_le _, Nat.zero_le _⟩ ?_
      refine z_lstore_n (L' := [(1, .long o9), (0, .ref q_t), (3, .int v3)]) C dX5_digest_157 rfl (by decide) rfl ?_
      refine z_ldc2 (v := (31 : Int64)) C dX5_digest_158 (mc W_1069) ?_
      refine z_ldc2 (v := (31 : Int64)) C dX5_digest_161 (mc W_1069) ?_
      refine z_lload_n C dX5_digest_164 rfl 0 rfl ?_
      refine z_lmul C dX5_digest_165 ?_
      refine z_aload_n C dX5_digest_166 rfl 1 rfl ?_
      refine z_get C inT_X5 0 rfl rfl 4 (by decide) rfl (mc W_677) rfl dX5_digest_167 ?_
      refine z_ladd C dX5_digest_170 ?_
      refine z_lmul C dX5_digest_171 ?_
      refine z_aload_n C dX5_digest_172 rfl 1 rfl ?_
      refine z_get C inT_X5 0 rfl rfl 5 (by decide) rfl (mc W_678) rfl dX5_digest_173 ?_
      refine z_ladd C dX5_digest_176 ?_
      obtain rfl := Option.some.inj h
      exact z_lret (v := ((31 : Int64) * (((31 : Int64) * o9) + t_above)) + t_below) C hr dX5_digest_177
    · replace h := (if_neg c).symm.trans h
      refine z_ldc2 (v := (31 : Int64)) C dX5_digest_41 (mc W_1069) ?_
      refine z_ldc2 (v := (31 : Int64)) C dX5_digest_44 (mc W_1069) ?_
      refine z_ldc2 (v := (31 : Int64)) C dX5_digest_47 (mc W_1069) ?_
      refine z_lload_n C dX5_digest_50 rfl 1 rfl ?_
      refine z_lmul C dX5_digest_51 ?_
      refine z_aload_n C dX5_digest_52 rfl 0 rfl ?_
      refine z_get C inT_X5 0 rfl rfl 0 (by decide) rfl (mc W_673) rfl dX5_digest_53 ?_
      refine z_bipush (v := (26 : Int32)) C dX5_digest_56 (by decide) ?_
      refine z_iload_n C dX5_digest_58 rfl 2 rfl ?_
      refine z_iadd C dX5_digest_59 ?_
      obtain ⟨c11, h⟩ := chk_some h
      refine z_iald C 1 rfl c11 dX5_digest_60 ?_
      refine z_i2l C dX5_digest_61 ?_
      refine z_ladd C dX5_digest_62 ?_
      refine z_lmul C dX5_digest_63 ?_
      refine z_aload_n C dX5_digest_64 rfl 0 rfl ?_
      refine z_get C inT_X5 0 rfl rfl 0 (by decide) rfl (mc W_673) rfl dX5_digest_65 ?_
      refine z_bipush (v := (19 : Int32)) C dX5_digest_68 (by decide) ?_
      refine z_iload_n C dX5_digest_70 rfl 2 rfl ?_
      refine z_iadd C dX5_digest_71 ?_
      obtain ⟨c12, h⟩ := chk_some h
      refine z_iald C 1 rfl c12 dX5_digest_72 ?_
      refine z_i2l C dX5_digest_73 ?_
      refine z_ladd C dX5_digest_74 ?_
      refine z_lmul C dX5_digest_75 ?_
      refine z_aload_n C dX5_digest_76 rfl 0 rfl ?_
      refine z_get C inT_X5 0 rfl rfl 0 (by decide) rfl (mc W_673) rfl dX5_digest_77 ?_
      refine z_bipush (v := (14 : Int32)) C dX5_digest_80 (by decide) ?_
      refine z_iload_n C dX5_digest_82 rfl 2 rfl ?_
      refine z_iadd C dX5_digest_83 ?_
      obtain ⟨c13, h⟩ := chk_some h
      refine z_iald C 1 rfl c13 dX5_digest_84 ?_
      refine z_i2l C dX5_digest_85 ?_
      refine z_ladd C dX5_digest_86 ?_
      refine z_lstore_n (L' := [(1, .long (((31 : Int64) * (((31 : Int64) * (((31 : Int64) * v1) + ((t_told ((26 : Int32) + v3).toNatClampNeg).toInt64))) + ((t_told ((19 : Int32) + v3).toNatClampNeg).toInt64))) + ((t_told ((14 : Int32) + v3).toNatClampNeg).toInt64))), (0, .ref q_t), (3, .int v3)]) C dX5_digest_87 rfl (by decide) rfl ?_
      refine z_ldc2 (v := (31 : Int64)) C dX5_digest_88 (mc W_1069) ?_
      refine z_ldc2 (v := (31 : Int64)) C dX5_digest_91 (mc W_1069) ?_
      refine z_lload_n C dX5_digest_94 rfl 0 rfl ?_
      refine z_lmul C dX5_digest_95 ?_
      refine z_aload_n C dX5_digest_96 rfl 1 rfl ?_
      refine z_get C inT_X5 0 rfl rfl 0 (by decide) rfl (mc W_673) rfl dX5_digest_97 ?_
      refine z_iconst (v := (4 : Int32)) C dX5_digest_100 (by decide) ?_
      refine z_iload_n C dX5_digest_101 rfl 2 rfl ?_
      refine z_iadd C dX5_digest_102 ?_
      obtain ⟨c14, h⟩ := chk_some h
      refine z_iald C 1 rfl c14 dX5_digest_103 ?_
      refine z_i2l C dX5_digest_104 ?_
      refine z_ladd C dX5_digest_105 ?_
      refine z_lmul C dX5_digest_106 ?_
      refine z_aload_n C dX5_digest_107 rfl 1 rfl ?_
      refine z_get C inT_X5 0 rfl rfl 0 (by decide) rfl (mc W_673) rfl dX5_digest_108 ?_
      refine z_bipush (v := (9 : Int32)) C dX5_digest_111 (by decide) ?_
      refine z_iload_n C dX5_digest_113 rfl 2 rfl ?_
      refine z_iadd C dX5_digest_114 ?_
      obtain ⟨c15, h⟩ := chk_some h
      refine z_iald C 1 rfl c15 dX5_digest_115 ?_
      refine z_i2l C dX5_digest_116 ?_
      refine z_ladd C dX5_digest_117 ?_
      refine z_lstore_n (L' := [(1, .long (((31 : Int64) * (((31 : Int64) * (((31 : Int64) * (((31 : Int64) * (((31 : Int64) * v1) + ((t_told ((26 : Int32) + v3).toNatClampNeg).toInt64))) + ((t_told ((19 : Int32) + v3).toNatClampNeg).toInt64))) + ((t_told ((14 : Int32) + v3).toNatClampNeg).toInt64))) + ((t_told ((4 : Int32) + v3).toNatClampNeg).toInt64))) + ((t_told ((9 : Int32) + v3).toNatClampNeg).toInt64))), (0, .ref q_t), (3, .int v3)]) C dX5_digest_118 rfl (by decide) rfl ?_
      refine z_iinc (v := v3 + (1 : Int32)) (L' := [(3, .int (v3 + (1 : Int32))), (1, .long (((31 : Int64) * (((31 : Int64) * (((31 : Int64) * (((31 : Int64) * (((31 : Int64) * v1) + ((t_told ((26 : Int32) + v3).toNatClampNeg).toInt64))) + ((t_told ((19 : Int32) + v3).toNatClampNeg).toInt64))) + ((t_told ((14 : Int32) + v3).toNatClampNeg).toInt64))) + ((t_told ((4 : Int32) + v3).toNatClampNeg).toInt64))) + ((t_told ((9 : Int32) + v3).toNatClampNeg).toInt64))), (0, .ref q_t)]) C dX5_digest_119 2 rfl rfl (by decide) rfl ?_
      refine z_goto (tgt := 33) C dX5_digest_122 (by decide) ?_
      refine z_sub [2, 1, 0] (L' := [(0, .ref q_t), (1, .long (((31 : Int64) * (((31 : Int64) * (((31 : Int64) * (((31 : Int64) * (((31 : Int64) * v1) + ((t_told ((26 : Int32) + v3).toNatClampNeg).toInt64))) + ((t_told ((19 : Int32) + v3).toNatClampNeg).toInt64))) + ((t_told ((14 : Int32) + v3).toNatClampNeg).toInt64))) + ((t_told ((4 : Int32) + v3).toNatClampNeg).toInt64))) + ((t_told ((9 : Int32) + v3).toNatClampNeg).toInt64))), (3, .int (v3 + (1 : Int32)))]) rfl ?_
      exact ih (((31 : Int64) * (((31 : Int64) * (((31 : Int64) * (((31 : Int64) * (((31 : Int64) * v1) + ((t_told ((26 : Int32) + v3).toNatClampNeg).toInt64))) + ((t_told ((19 : Int32) + v3).toNatClampNeg).toInt64))) + ((t_told ((14 : Int32) + v3).toNatClampNeg).toInt64))) + ((t_told ((4 : Int32) + v3).toNatClampNeg).toInt64))) + ((t_told ((9 : Int32) + v3).toNatClampNeg).toInt64)) (v3 + (1 : Int32)) h
set_option maxRecDepth 100000 in
set_option maxHeartbeats 4000000 in
theorem l_X5_digest_b6 {p : Program} {l : Launch} {e : Env} {s : State} {m : MethodId} {args : Array Value} {below : List Frame} {meth : Method} {c : Code} {E : zE} {A : Nat → Prop} {q_t q_t_told q_t_kept q_t_isKept q_t_refused q_t_gets q_t_ahead q_t_dayGets q_t_dayDue q_t_own q_t_ownGets q_t_bestOwn q_t_alone q_t_atMuch q_t_hand q_t_his q_t_its q_t_bytes q_t_anew q_t_values : Nat} {t_leftBehind : Int32} {t_tokenAt : Int32} {t_tokenLong : Int32} {t_token : Int32} {t_value : Int32} {t_takenHours : Int32} {o : Int64} (F : Nat) (t_above : Int64) (t_below : Int64) (t_bytesLong : Int32) (t_told : Nat → Int32) (C : zC p s m args c meth cX5_digest 4 RX5 wsX5_digest E A) (hr : meth.sig.returnType = some .long) : ∀ (n : Nat) (v1 : Int64) (v3 : Int32), f_X5_digest_b6 F t_above t_below t_bytesLong t_told n v1 v3 = some o → zG p l e rm_X5_digest s m args below meth c 4 E A 0 0 (MQ below (zQ E A (some (.long o)) [(q_t, .inr (4, [.ref q_t_told, .ref q_t_kept, .ref q_t_isKept, .ref q_t_refused, .long t_above, .long t_below, .ref q_t_gets, .ref q_t_ahead, .int t_leftBehind, .ref q_t_dayGets, .ref q_t_dayDue, .ref q_t_own, .ref q_t_ownGets, .ref q_t_bestOwn, .ref q_t_alone, .ref q_t_atMuch, .ref q_t_hand, .ref q_t_his, .ref q_t_its, .ref q_t_bytes, .int t_bytesLong, .int t_tokenAt, .int t_tokenLong, .int t_token, .int t_value, .ref q_t_anew, .ref q_t_values, .int t_takenHours])), (q_t_told, zI E 251 t_told)]) args s 0 0 A) [(q_t, .inr (4, [.ref q_t_told, .ref q_t_kept, .ref q_t_isKept, .ref q_t_refused, .long t_above, .long t_below, .ref q_t_gets, .ref q_t_ahead, .int t_leftBehind, .ref q_t_dayGets, .ref q_t_dayDue, .ref q_t_own, .ref q_t_ownGets, .ref q_t_bestOwn, .ref q_t_alone, .ref q_t_atMuch, .ref q_t_hand, .ref q_t_his, .ref q_t_its, .ref q_t_bytes, .int t_bytesLong, .int t_tokenAt, .int t_tokenLong, .int t_token, .int t_value, .ref q_t_anew, .ref q_t_values, .int t_takenHours])), (q_t_told, zI E 251 t_told)] 6 [(0, .ref q_t), (1, .long v1), (3, .int v3)] [] := by
  intro n
  induction n with
  | zero =>
    intro v1 v3 h
    rw [f_X5_digest_b6] at h
    cases h
  | succ n ih =>
    intro v1 v3 h
    rw [f_X5_digest_b6] at h
    refine z_iload_n C dX5_digest_6 rfl 2 rfl ?_
    refine z_bipush (v := (9 : Int32)) C dX5_digest_7 (by decide) ?_
    refine z_icmp_ge (tgt := 31) C dX5_digest_9 (by decide) (fun c => ?_) (fun c => ?_)
    · replace h := (if_pos c).symm.trans h
      refine z_iconst (v := (0 : Int32)) C dX5_digest_31 (by decide) ?_
      refine z_istore_n (L' := [(3, .int (0 : Int32)), (0, .ref q_t), (1, .long v1)]) C dX5_digest_32 rfl (by decide) rfl ?_
      refine z_sub [1, 2, 0] (L' := [(0, .ref q_t), (1, .long v1), (3, .int (0 : Int32))]) rfl ?_
      exact (l_X5_digest_b33 F t_above t_below t_bytesLong t_told C hr F) v1 (0 : Int32) h
    · replace h := (if_neg c).symm.trans h
      refine z_ldc2 (v := (31 : Int64)) C dX5_digest_12 (mc W_1069) ?_
      refine z_lload_n C dX5_digest_15 rfl 1 rfl ?_
      refine z_lmul C dX5_digest_16 ?_
      refine z_aload_n C dX5_digest_17 rfl 0 rfl ?_
      refine z_iload_n C dX5_digest_18 rfl 2 rfl ?_
      obtain ⟨o1, ho2, h⟩ := bnd_some h
      refine z_callV (wc := [(q_t, .inr (4, [.ref q_t_told, .ref q_t_kept, .ref q_t_isKept, .ref q_t_refused, .long t_above, .long t_below, .ref q_t_gets, .ref q_t_ahead, .int t_leftBehind, .ref q_t_dayGets, .ref q_t_dayDue, .ref q_t_own, .ref q_t_ownGets, .ref q_t_bestOwn, .ref q_t_alone, .ref q_t_atMuch, .ref q_t_hand, .ref q_t_his, .ref q_t_its, .ref q_t_bytes, .int t_bytesLong, .int t_tokenAt, .int t_tokenLong, .int t_token, .int t_value, .ref q_t_anew, .ref q_t_values, .int t_takenHours])), (q_t_told, zI E 251 t_told)]) (wr := []) (wc' := [(q_t, .inr (4, [.ref q_t_told, .ref q_t_kept, .ref q_t_isKept, .ref q_t_refused, .long t_above, .long t_below, .ref q_t_gets, .ref q_t_ahead, .int t_leftBehind, .ref q_t_dayGets, .ref q_t_dayDue, .ref q_t_own, .ref q_t_ownGets, .ref q_t_bestOwn, .ref q_t_alone, .ref q_t_atMuch, .ref q_t_hand, .ref q_t_his, .ref q_t_its, .ref q_t_bytes, .int t_bytesLong, .int t_tokenAt, .int t_tokenLong, .int t_token, .int t_value, .ref q_t_anew, .ref q_t_values, .int t_takenHours])), (q_t_told, zI E 251 t_told)]) (ws2 := [(q_t, .inr (4, [.ref q_t_told, .ref q_t_kept, .ref q_t_isKept, .ref q_t_refused, .long t_above, .long t_below, .ref q_t_gets, .ref q_t_ahead, .int t_leftBehind, .ref q_t_dayGets, .ref q_t_dayDue, .ref q_t_own, .ref q_t_ownGets, .ref q_t_bestOwn, .ref q_t_alone, .ref q_t_atMuch, .ref q_t_hand, .ref q_t_his, .ref q_t_its, .ref q_t_bytes, .int t_bytesLong, .int t_tokenAt, .int t_tokenLong, .int t_token, .int t_value, .ref q_t_anew, .ref q_t_values, .int t_takenHours])), (q_t_told, zI E 251 t_told)]) (As := [.int v3]) (st2 := [.int o1, .long ((31 : Int64) * v1)]) C [0, 1] [] [0, 1] rfl rfl rfl rfl (by decide) rfl rfl (c_X5_counted F ho2) (goodVT consT W_1056 W_1058 W_54 W_62 W_1059) rfl rfl rfl hd_X5_counted ⟨Nat.le_of_ble_eq_true rfl, Nat.le_of_ble_eq_true rfl⟩ rfl rfl rfl (j := 0) rfl rfl rfl (Nat.le_of_ble_eq_true rfl) dX5_digest_19 ⟨Nat.zero_le _, Nat.zero_le _⟩ ?_
      refine z_i2l C dX5_digest_22 ?_
      refine z_ladd C dX5_digest_23 ?_
      refine z_lstore_n (L' := [(1, .long (((31 : Int64) * v1) + o1.toInt64)), (0, .ref q_t), (3, .int v3)]) C dX5_digest_24 rfl (by decide) rfl ?_
      refine z_iinc (v := v3 + (1 : Int32)) (L' := [(3, .int (v3 + (1 : Int32))), (1, .long (((31 : Int64) * v1) + o1.toInt64)), (0, .ref q_t)]) C dX5_digest_25 2 rfl rfl (by decide) rfl ?_
      refine z_goto (tgt := 6) C dX5_digest_28 (by decide) ?_
      refine z_sub [2, 1, 0] (L' := [(0, .ref q_t), (1, .long (((31 : Int64) * v1) + o1.toInt64)), (3, .int (v3 + (1 : Int32)))]) rfl ?_
      exact ih (((31 : Int64) * v1) + o1.toInt64) (v3 + (1 : Int32)) h
set_option maxRecDepth 100000 in
set_option maxHeartbeats 4000000 in
theorem c_X5_digest {l : Launch} {E : zE} {q_t q_t_told q_t_kept q_t_isKept q_t_refused q_t_gets q_t_ahead q_t_dayGets q_t_dayDue q_t_own q_t_ownGets q_t_bestOwn q_t_alone q_t_atMuch q_t_hand q_t_his q_t_its q_t_bytes q_t_anew q_t_values : Nat} {t_leftBehind : Int32} {t_tokenAt : Int32} {t_tokenLong : Int32} {t_token : Int32} {t_value : Int32} {t_takenHours : Int32} {t_above : Int64} {t_below : Int64} {t_bytesLong : Int32} {t_told : Nat → Int32} {o : Int64} (F : Nat) (h : f_X5_digest F t_above t_below t_bytesLong t_told = some o) : zM l yX5_digest wsX5_digest rm_X5_digest E [.ref q_t] [(q_t, .inr (4, [.ref q_t_told, .ref q_t_kept, .ref q_t_isKept, .ref q_t_refused, .long t_above, .long t_below, .ref q_t_gets, .ref q_t_ahead, .int t_leftBehind, .ref q_t_dayGets, .ref q_t_dayDue, .ref q_t_own, .ref q_t_ownGets, .ref q_t_bestOwn, .ref q_t_alone, .ref q_t_atMuch, .ref q_t_hand, .ref q_t_his, .ref q_t_its, .ref q_t_bytes, .int t_bytesLong, .int t_tokenAt, .int t_tokenLong, .int t_token, .int t_value, .ref q_t_anew, .ref q_t_values, .int t_takenHours])), (q_t_told, zI E 251 t_told)] (some (.long o)) [(q_t, .inr (4, [.ref q_t_told, .ref q_t_kept, .ref q_t_isKept, .ref q_t_refused, .long t_above, .long t_below, .ref q_t_gets, .ref q_t_ahead, .int t_leftBehind, .ref q_t_dayGets, .ref q_t_dayDue, .ref q_t_own, .ref q_t_ownGets, .ref q_t_bestOwn, .ref q_t_alone, .ref q_t_atMuch, .ref q_t_hand, .ref q_t_his, .ref q_t_its, .ref q_t_bytes, .int t_bytesLong, .int t_tokenAt, .int t_tokenLong, .int t_token, .int t_value, .ref q_t_anew, .ref q_t_values, .int t_takenHours])), (q_t_told, zI E 251 t_told)] := by
  refine zM.of (cc := cX5_digest) (maxL := 4) (ret := (some .long)) (by decide +kernel) rfl (Nat.le_of_ble_eq_true rfl) ?_
  intro p e s m args below meth c A C hr
  have C : zC p s m args c meth cX5_digest 4 RX5 wsX5_digest E A := C
  rw [f_X5_digest] at h
  refine z_ldc2 (v := (1439 : Int64)) C dX5_digest_0 (mc W_1068) ?_
  refine z_lstore_n (L' := [(1, .long (1439 : Int64)), (0, .ref q_t)]) C dX5_digest_3 rfl (by decide) rfl ?_
  refine z_iconst (v := (0 : Int32)) C dX5_digest_4 (by decide) ?_
  refine z_istore_n (L' := [(3, .int (0 : Int32)), (1, .long (1439 : Int64)), (0, .ref q_t)]) C dX5_digest_5 rfl (by decide) rfl ?_
  refine z_sub [2, 1, 0] (L' := [(0, .ref q_t), (1, .long (1439 : Int64)), (3, .int (0 : Int32))]) rfl ?_
  exact (l_X5_digest_b6 F t_above t_below t_bytesLong t_told C hr F) (1439 : Int64) (0 : Int32) h

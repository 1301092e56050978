/-! PURE: calls without loops -/
theorem i2b_s {c : Nat} (h : c ≤ 127) : vp_nar .byte (nI c).toInt8.toInt32 = nI c := by
  have : ∀ n : Fin 128, vp_nar .byte (nI n.val).toInt8.toInt32 = nI n.val := by decide +kernel
  exact this ⟨c, by omega⟩
theorem rs_type : Rs_type := by
  unfold Rs_type
  intro x_above x_below x_bads x_nos x_fulls pressure day wells lefts notes undos kind wanted hours had due leftHour leftPressure note past len text m_above m_below m_bytesLong m_told m_refused m_bytes a1 hR
  obtain ⟨hP, hr, hf, n, rfl, hn, rfl, hb⟩ := id hR
  unfold f_X4_type f_X5_type f_X4_bad f_X4_full
  cases h1 : rgb 0 127 a1 with
  | false =>
    simp (disch := omega) only [chk_ix, chk_bo, cl_n, nI_add, pk_mul, pk_sub, nI_leI, nI_ltI, nI_eq, if_pos, if_neg, upd_e, pk_un, Option.bind_some, zlit, zlitL, within_x, in_m, has_x, reduceIte, Bool.false_eq_true, h1, bad_m]
    exact ⟨_, _, rfl, rfl, rfl, Rel_bad hR⟩
  | true =>
    obtain ⟨c, -, hc, rfl⟩ := rg_of h1 (by omega)
    rcases Nat.lt_or_ge n 150 with hlt | hge
    · unfold f_X2_add
      simp (disch := omega) only [chk_ix, chk_bo, cl_n, nI_add, pk_mul, pk_sub, nI_leI, nI_ltI, nI_eq, if_pos, if_neg, upd_e, pk_un, Option.bind_some, zlit, zlitL, within_x, in_m, has_x, reduceIte, Bool.false_eq_true, h1, i2b_s hc]
      refine ⟨_, _, rfl, rfl, rfl, hP, hr, hf, n + 1, rfl, by omega, rfl, fun k hk => ?_⟩
      rcases Nat.lt_or_ge k n with q | q
      · try simp (disch := omega) only [chk_ix, chk_bo, cl_n, nI_add, pk_mul, pk_sub, nI_leI, nI_ltI, nI_eq, if_pos, if_neg, upd_e, pk_un, Option.bind_some, zlit, zlitL, within_x, in_m, has_x, reduceIte, Bool.false_eq_true]
        exact hb k q
      · obtain rfl : k = n := by omega
        try simp (disch := omega) only [chk_ix, chk_bo, cl_n, nI_add, pk_mul, pk_sub, nI_leI, nI_ltI, nI_eq, if_pos, if_neg, upd_e, pk_un, Option.bind_some, zlit, zlitL, within_x, in_m, has_x, reduceIte, Bool.false_eq_true]
        exact ⟨⟨c, rfl, hc⟩, trivial⟩
    · obtain rfl : n = 150 := by omega
      simp (disch := omega) only [chk_ix, chk_bo, cl_n, nI_add, pk_mul, pk_sub, nI_leI, nI_ltI, nI_eq, if_pos, if_neg, upd_e, pk_un, Option.bind_some, zlit, zlitL, within_x, in_m, has_x, reduceIte, Bool.false_eq_true, h1, full_m]
      exact ⟨_, _, rfl, rfl, rfl, Rel_full hR⟩
theorem rs_clear : Rs_clear := by
  unfold Rs_clear
  intro x_above x_below x_bads x_nos x_fulls pressure day wells lefts notes undos kind wanted hours had due leftHour leftPressure note past len text m_above m_below m_bytesLong m_told m_refused m_bytes hR
  obtain ⟨hP, hr, hf, n, rfl, hn, rfl, hb⟩ := id hR
  exact ⟨_, _, rfl, rfl, rfl, hP, hr, hf, 0, rfl, by omega, rfl, fun k hk => absurd hk (Nat.not_lt_zero k)⟩
theorem rs_status : Rs_status := by
  unfold Rs_status
  intro x_above x_below x_bads x_nos x_fulls pressure day wells lefts notes undos kind wanted hours had due leftHour leftPressure note past len text m_above m_below m_bytesLong m_told m_refused m_bytes a1 hR
  obtain ⟨hP, hr, hf, n, rfl, hn, rfl, hb⟩ := id hR
  unfold f_X4_status f_X5_status
  cases h1 : rgb 0 2 a1 with
  | false =>
    have h0 : a1 ≠ nI 0 := fun e => by subst e; exact absurd h1 (by decide)
    have h2 : a1 ≠ nI 1 := fun e => by subst e; exact absurd h1 (by decide)
    have h3 : a1 ≠ nI 2 := fun e => by subst e; exact absurd h1 (by decide)
    simp (disch := omega) only [chk_ix, chk_bo, cl_n, nI_add, pk_mul, pk_sub, nI_leI, nI_ltI, nI_eq, if_pos, if_neg, upd_e, pk_un, Option.bind_some, zlit, zlitL, within_x, in_m, has_x, reduceIte, Bool.false_eq_true, h1, bad_m, h0, h2, h3]
    exact ⟨_, _, rfl, rfl, rfl, Rel_bad hR⟩
  | true =>
    obtain ⟨c, -, hc, rfl⟩ := rg_of h1 (by omega)
    rcases (show c = 0 ∨ c = 1 ∨ c = 2 by omega) with rfl | rfl | rfl
    · simp (disch := omega) only [chk_ix, chk_bo, cl_n, nI_add, pk_mul, pk_sub, nI_leI, nI_ltI, nI_eq, if_pos, if_neg, upd_e, pk_un, Option.bind_some, zlit, zlitL, within_x, in_m, has_x, reduceIte, Bool.false_eq_true, h1]
      exact ⟨_, _, rfl, rfl, hr.1.symm, hR⟩
    · simp (disch := omega) only [chk_ix, chk_bo, cl_n, nI_add, pk_mul, pk_sub, nI_leI, nI_ltI, nI_eq, if_pos, if_neg, upd_e, pk_un, Option.bind_some, zlit, zlitL, within_x, in_m, has_x, reduceIte, Bool.false_eq_true, h1]
      exact ⟨_, _, rfl, rfl, hr.2.1.symm, hR⟩
    · simp (disch := omega) only [chk_ix, chk_bo, cl_n, nI_add, pk_mul, pk_sub, nI_leI, nI_ltI, nI_eq, if_pos, if_neg, upd_e, pk_un, Option.bind_some, zlit, zlitL, within_x, in_m, has_x, reduceIte, Bool.false_eq_true, h1]
      exact ⟨_, _, rfl, rfl, hr.2.2.symm, hR⟩
theorem rs_part : Rs_part := by
  unfold Rs_part
  intro x_above x_below x_bads x_nos x_fulls pressure day wells lefts notes undos kind wanted hours had due leftHour leftPressure note past len text m_above m_below m_bytesLong m_told m_refused m_bytes a1 hR
  obtain ⟨hP, hr, hf, n, rfl, hn, rfl, hb⟩ := id hR
  unfold f_X4_part f_X5_part f_X4_bad
  cases h1 : rgb 0 1 a1 with
  | false =>
    have h0 : a1 ≠ nI 0 := fun e => by subst e; exact absurd h1 (by decide)
    have h2 : a1 ≠ nI 1 := fun e => by subst e; exact absurd h1 (by decide)
    simp (disch := omega) only [chk_ix, chk_bo, cl_n, nI_add, pk_mul, pk_sub, nI_leI, nI_ltI, nI_eq, if_pos, if_neg, upd_e, pk_un, Option.bind_some, zlit, zlitL, within_x, in_m, has_x, reduceIte, Bool.false_eq_true, h1, bad_m, h0, h2]
    exact ⟨_, _, rfl, rfl, rfl, Rel_bad hR⟩
  | true =>
    obtain ⟨c, -, hc, rfl⟩ := rg_of h1 (by omega)
    rcases (show c = 0 ∨ c = 1 by omega) with rfl | rfl
    · simp (disch := omega) only [chk_ix, chk_bo, cl_n, nI_add, pk_mul, pk_sub, nI_leI, nI_ltI, nI_eq, if_pos, if_neg, upd_e, pk_un, Option.bind_some, zlit, zlitL, within_x, in_m, has_x, reduceIte, Bool.false_eq_true, h1]
      exact ⟨_, _, rfl, rfl, hf.1.symm, hR⟩
    · simp (disch := omega) only [chk_ix, chk_bo, cl_n, nI_add, pk_mul, pk_sub, nI_leI, nI_ltI, nI_eq, if_pos, if_neg, upd_e, pk_un, Option.bind_some, zlit, zlitL, within_x, in_m, has_x, reduceIte, Bool.false_eq_true, h1]
      exact ⟨_, _, rfl, rfl, hf.2.symm, hR⟩
theorem rs_of : Rs_of := by
  unfold Rs_of
  intro x_above x_below x_bads x_nos x_fulls pressure day wells lefts notes undos kind wanted hours had due leftHour leftPressure note past len text m_above m_below m_bytesLong m_told m_refused m_bytes a1 a2 hR
  obtain ⟨hP, -⟩ := id hR
  obtain ⟨n, nl, nn, nu, d, p, ⟨rfl, hn, -⟩, ht, hw, -⟩ := hP
  unfold f_X4_of f_X5_of f_X4_bad f_X5_of_b20
  have hW := fun x => isWell_m FU x (t := m_told) ht.1 (by omega)
  cases h1 : hsb n a1 with
  | false =>
    simp (disch := omega) only [chk_ix, chk_bo, cl_n, nI_add, pk_mul, pk_sub, nI_leI, nI_ltI, nI_eq, if_pos, if_neg, upd_e, pk_un, Option.bind_some, zlit, zlitL, within_x, in_m, has_x, reduceIte, Bool.false_eq_true, hW, h1, bad_m]
    exact ⟨_, _, rfl, rfl, rfl, Rel_bad hR⟩
  | true =>
    obtain ⟨i, hi, rfl⟩ := hs_of h1 (by omega)
    obtain ⟨-, -, e1, e2, e3, e4, e5⟩ := hw i hi
    cases h2 : rgb 0 4 a2 with
    | false =>
      have g0 : a2 ≠ nI 0 := fun e => by subst e; exact absurd h2 (by decide)
      have g1 : a2 ≠ nI 1 := fun e => by subst e; exact absurd h2 (by decide)
      have g2 : a2 ≠ nI 2 := fun e => by subst e; exact absurd h2 (by decide)
      have g3 : a2 ≠ nI 3 := fun e => by subst e; exact absurd h2 (by decide)
      have g4 : a2 ≠ nI 4 := fun e => by subst e; exact absurd h2 (by decide)
      simp (disch := omega) only [chk_ix, chk_bo, cl_n, nI_add, pk_mul, pk_sub, nI_leI, nI_ltI, nI_eq, if_pos, if_neg, upd_e, pk_un, Option.bind_some, zlit, zlitL, within_x, in_m, has_x, reduceIte, Bool.false_eq_true, hW, h1, h2, bad_m, g0, g1, g2, g3, g4]
      exact ⟨_, _, rfl, rfl, rfl, Rel_bad hR⟩
    | true =>
      obtain ⟨c, -, hc, rfl⟩ := rg_of h2 (by omega)
      rcases (show c = 0 ∨ c = 1 ∨ c = 2 ∨ c = 3 ∨ c = 4 by omega) with rfl | rfl | rfl | rfl | rfl
      · simp (disch := omega) only [chk_ix, chk_bo, cl_n, nI_add, pk_mul, pk_sub, nI_leI, nI_ltI, nI_eq, if_pos, if_neg, upd_e, pk_un, Option.bind_some, zlit, zlitL, within_x, in_m, has_x, reduceIte, Bool.false_eq_true, hW, h1, h2, e1]
        exact ⟨_, _, rfl, rfl, rfl, hR⟩
      · simp (disch := omega) only [chk_ix, chk_bo, cl_n, nI_add, pk_mul, pk_sub, nI_leI, nI_ltI, nI_eq, if_pos, if_neg, upd_e, pk_un, Option.bind_some, zlit, zlitL, within_x, in_m, has_x, reduceIte, Bool.false_eq_true, hW, h1, h2, e2]
        exact ⟨_, _, rfl, rfl, rfl, hR⟩
      · simp (disch := omega) only [chk_ix, chk_bo, cl_n, nI_add, pk_mul, pk_sub, nI_leI, nI_ltI, nI_eq, if_pos, if_neg, upd_e, pk_un, Option.bind_some, zlit, zlitL, within_x, in_m, has_x, reduceIte, Bool.false_eq_true, hW, h1, h2, e3]
        exact ⟨_, _, rfl, rfl, rfl, hR⟩
      · simp (disch := omega) only [chk_ix, chk_bo, cl_n, nI_add, pk_mul, pk_sub, nI_leI, nI_ltI, nI_eq, if_pos, if_neg, upd_e, pk_un, Option.bind_some, zlit, zlitL, within_x, in_m, has_x, reduceIte, Bool.false_eq_true, hW, h1, h2, e4]
        exact ⟨_, _, rfl, rfl, rfl, hR⟩
      · simp (disch := omega) only [chk_ix, chk_bo, cl_n, nI_add, pk_mul, pk_sub, nI_leI, nI_ltI, nI_eq, if_pos, if_neg, upd_e, pk_un, Option.bind_some, zlit, zlitL, within_x, in_m, has_x, reduceIte, Bool.false_eq_true, hW, h1, h2, e5]
        exact ⟨_, _, rfl, rfl, rfl, hR⟩
theorem rs_left : Rs_left := by
  unfold Rs_left
  intro x_above x_below x_bads x_nos x_fulls pressure day wells lefts notes undos kind wanted hours had due leftHour leftPressure note past len text m_above m_below m_bytesLong m_told m_refused m_bytes a1 a2 hR
  obtain ⟨hP, hr, hf, hx⟩ := id hR
  obtain ⟨n, nl, nn, nu, d, p, h0, ht, hw, hl, hno, hp⟩ := hP
  obtain ⟨h01, h02, rfl, h03, h04⟩ := id h0
  unfold f_X4_left f_X4_left_b14 f_X5_left f_X5_left_b14 f_X4_bad f_X4_full
  cases h1 : rgb 0 7 a1 with
  | false =>
    simp (disch := omega) only [chk_ix, chk_bo, cl_n, nI_add, pk_mul, pk_sub, nI_leI, nI_ltI, nI_eq, if_pos, if_neg, upd_e, pk_un, Option.bind_some, zlit, zlitL, within_x, in_m, has_x, reduceIte, Bool.false_eq_true, isHour_x, isHour_m, h1, bad_m]
    exact ⟨_, _, rfl, rfl, rfl, Rel_bad hR⟩
  | true =>
    obtain ⟨c, -, hc, rfl⟩ := rg_of h1 (by omega)
    cases h2 : rgb 0 60 a2 with
    | false =>
      simp (disch := omega) only [chk_ix, chk_bo, cl_n, nI_add, pk_mul, pk_sub, nI_leI, nI_ltI, nI_eq, if_pos, if_neg, upd_e, pk_un, Option.bind_some, zlit, zlitL, within_x, in_m, has_x, reduceIte, Bool.false_eq_true, isHour_x, isHour_m, isPressure_x, isPressure_m, h1, h2, bad_m]
      exact ⟨_, _, rfl, rfl, rfl, Rel_bad hR⟩
    | true =>
      rcases Nat.lt_or_ge nl 4 with hlt | hge
      · unfold f_X1_addLeft
        have e0 : m_told 1 = nI nl := ht.2.1
        simp (disch := omega) only [chk_ix, chk_bo, cl_n, nI_add, pk_mul, pk_sub, nI_leI, nI_ltI, nI_eq, if_pos, if_neg, upd_e, pk_un, Option.bind_some, zlit, zlitL, within_x, in_m, has_x, reduceIte, Bool.false_eq_true, isHour_x, isHour_m, isPressure_x, isPressure_m, h1, h2, e0]
        refine ⟨_, _, rfl, rfl, rfl, ⟨n, nl + 1, nn, nu, d, p, ⟨h01, h02, rfl, by omega, h04⟩, ?_, fun i hi => ?_, fun k hk => ?_, fun k hk => ?_, fun k hk => ?_⟩, hr, hf, hx⟩
        · try simp (disch := omega) only [chk_ix, chk_bo, cl_n, nI_add, pk_mul, pk_sub, nI_leI, nI_ltI, nI_eq, if_pos, if_neg, upd_e, pk_un, Option.bind_some, zlit, zlitL, within_x, in_m, has_x, reduceIte, Bool.false_eq_true]
          exact ⟨ht.1, trivial, ht.2.2⟩
        · try simp (disch := omega) only [chk_ix, chk_bo, cl_n, nI_add, pk_mul, pk_sub, nI_leI, nI_ltI, nI_eq, if_pos, if_neg, upd_e, pk_un, Option.bind_some, zlit, zlitL, within_x, in_m, has_x, reduceIte, Bool.false_eq_true]
          exact hw i hi
        · rcases Nat.lt_or_ge k nl with q | q
          · try simp (disch := omega) only [chk_ix, chk_bo, cl_n, nI_add, pk_mul, pk_sub, nI_leI, nI_ltI, nI_eq, if_pos, if_neg, upd_e, pk_un, Option.bind_some, zlit, zlitL, within_x, in_m, has_x, reduceIte, Bool.false_eq_true]
            exact hl k q
          · obtain rfl : k = nl := by omega
            try simp (disch := omega) only [chk_ix, chk_bo, cl_n, nI_add, pk_mul, pk_sub, nI_leI, nI_ltI, nI_eq, if_pos, if_neg, upd_e, pk_un, Option.bind_some, zlit, zlitL, within_x, in_m, has_x, reduceIte, Bool.false_eq_true]
            exact ⟨⟨c, rfl, by omega⟩, by first | trivial | exact ⟨trivial, trivial⟩⟩
        · refine ⟨(hno k hk).1, fun j hj => ?_⟩
          try simp (disch := omega) only [chk_ix, chk_bo, cl_n, nI_add, pk_mul, pk_sub, nI_leI, nI_ltI, nI_eq, if_pos, if_neg, upd_e, pk_un, Option.bind_some, zlit, zlitL, within_x, in_m, has_x, reduceIte, Bool.false_eq_true]
          exact (hno k hk).2 j hj
        · try simp (disch := omega) only [chk_ix, chk_bo, cl_n, nI_add, pk_mul, pk_sub, nI_leI, nI_ltI, nI_eq, if_pos, if_neg, upd_e, pk_un, Option.bind_some, zlit, zlitL, within_x, in_m, has_x, reduceIte, Bool.false_eq_true]
          refine ⟨(hp k hk).1, (hp k hk).2.1, (hp k hk).2.2.1, (hp k hk).2.2.2.1, fun i hi => ?_⟩
          try simp (disch := omega) only [chk_ix, chk_bo, cl_n, nI_add, pk_mul, pk_sub, nI_leI, nI_ltI, nI_eq, if_pos, if_neg, upd_e, pk_un, Option.bind_some, zlit, zlitL, within_x, in_m, has_x, reduceIte, Bool.false_eq_true]
          exact (hp k hk).2.2.2.2 i hi
      · obtain rfl : nl = 4 := by omega
        have e0 : m_told 1 = nI 4 := ht.2.1
        simp (disch := omega) only [chk_ix, chk_bo, cl_n, nI_add, pk_mul, pk_sub, nI_leI, nI_ltI, nI_eq, if_pos, if_neg, upd_e, pk_un, Option.bind_some, zlit, zlitL, within_x, in_m, has_x, reduceIte, Bool.false_eq_true, isHour_x, isHour_m, isPressure_x, isPressure_m, h1, h2, full_m, e0]
        exact ⟨_, _, rfl, rfl, rfl, Rel_full hR⟩

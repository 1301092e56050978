/-! PURE: forget, note, board, well -/
theorem rs_forget : Rs_forget := by
  unfold Rs_forget
  intro x_above x_below x_bads x_nos x_fulls pressure day wells lefts notes undos kind wanted hours had due leftHour leftPressure note past len text m_above m_below m_bytesLong m_told m_refused m_bytes a1 hR
  obtain ⟨hP, hr, hf, hx⟩ := id hR
  obtain ⟨n, nl, nn, nu, d, p, h0, ht, hw, hl, hno, hp⟩ := hP
  obtain ⟨h01, h02, rfl, h03, rfl, h04, h05⟩ := id h0
  unfold f_X4_forget f_X4_forget_b35 f_X5_forget f_X4_bad
  cases h1 : rgb 0 1 a1 with
  | false =>
    simp (disch := omega) only [chk_ix, chk_bo, cl_n, nI_add, pk_mul, pk_sub, nI_leI, nI_ltI, nI_eq, if_pos, if_neg, upd_e, pk_un, Option.bind_some, zlit, zlitL, within_x, in_m, has_x, reduceIte, Bool.false_eq_true, h1, bad_m]
    exact ⟨_, _, rfl, rfl, rfl, Rel_bad hR⟩
  | true =>
    obtain ⟨c, -, hc, rfl⟩ := rg_of h1 (by omega)
    rcases (show c = 0 ∨ c = 1 by omega) with rfl | rfl
    · simp (disch := omega) only [chk_ix, chk_bo, cl_n, nI_add, pk_mul, pk_sub, nI_leI, nI_ltI, nI_eq, if_pos, if_neg, upd_e, pk_un, Option.bind_some, zlit, zlitL, within_x, in_m, has_x, reduceIte, Bool.false_eq_true, h1, ht.2.1]
      refine ⟨_, _, rfl, rfl, rfl, ⟨n, 0, nn, nu, d, p, ⟨h01, h02, rfl, by omega, rfl, h04, h05⟩, ?_, fun i hi => ?_, fun k hk => absurd hk (Nat.not_lt_zero k), fun k hk => ?_, fun k hk => ?_⟩, hr, hf, hx⟩
      · try simp (disch := omega) only [chk_ix, chk_bo, cl_n, nI_add, pk_mul, pk_sub, nI_leI, nI_ltI, nI_eq, if_pos, if_neg, upd_e, pk_un, Option.bind_some, zlit, zlitL, within_x, in_m, has_x, reduceIte, Bool.false_eq_true]
        exact ⟨ht.1, trivial, ht.2.2⟩
      · try simp (disch := omega) only [chk_ix, chk_bo, cl_n, nI_add, pk_mul, pk_sub, nI_leI, nI_ltI, nI_eq, if_pos, if_neg, upd_e, pk_un, Option.bind_some, zlit, zlitL, within_x, in_m, has_x, reduceIte, Bool.false_eq_true]
        exact hw i hi
      · refine ⟨(hno k hk).1, fun j hj => ?_⟩
        try simp (disch := omega) only [chk_ix, chk_bo, cl_n, nI_add, pk_mul, pk_sub, nI_leI, nI_ltI, nI_eq, if_pos, if_neg, upd_e, pk_un, Option.bind_some, zlit, zlitL, within_x, in_m, has_x, reduceIte, Bool.false_eq_true]
        exact (hno k hk).2 j hj
      · try simp (disch := omega) only [chk_ix, chk_bo, cl_n, nI_add, pk_mul, pk_sub, nI_leI, nI_ltI, nI_eq, if_pos, if_neg, upd_e, pk_un, Option.bind_some, zlit, zlitL, within_x, in_m, has_x, reduceIte, Bool.false_eq_true]
        refine ⟨(hp k hk).1, (hp k hk).2.1, (hp k hk).2.2.1, (hp k hk).2.2.2.1, fun i hi => ?_⟩
        try simp (disch := omega) only [chk_ix, chk_bo, cl_n, nI_add, pk_mul, pk_sub, nI_leI, nI_ltI, nI_eq, if_pos, if_neg, upd_e, pk_un, Option.bind_some, zlit, zlitL, within_x, in_m, has_x, reduceIte, Bool.false_eq_true]
        exact (hp k hk).2.2.2.2 i hi
    · simp (disch := omega) only [chk_ix, chk_bo, cl_n, nI_add, pk_mul, pk_sub, nI_leI, nI_ltI, nI_eq, if_pos, if_neg, upd_e, pk_un, Option.bind_some, zlit, zlitL, within_x, in_m, has_x, reduceIte, Bool.false_eq_true, h1, ht.2.2.1]
      refine ⟨_, _, rfl, rfl, rfl, ⟨n, nl, 0, nu, d, p, ⟨h01, h02, rfl, h03, rfl, by omega, h05⟩, ?_, fun i hi => ?_, fun k hk => ?_, fun k hk => absurd hk (Nat.not_lt_zero k), fun k hk => ?_⟩, hr, hf, hx⟩
      · try simp (disch := omega) only [chk_ix, chk_bo, cl_n, nI_add, pk_mul, pk_sub, nI_leI, nI_ltI, nI_eq, if_pos, if_neg, upd_e, pk_un, Option.bind_some, zlit, zlitL, within_x, in_m, has_x, reduceIte, Bool.false_eq_true]
        exact ⟨ht.1, ht.2.1, trivial, ht.2.2.2⟩
      · try simp (disch := omega) only [chk_ix, chk_bo, cl_n, nI_add, pk_mul, pk_sub, nI_leI, nI_ltI, nI_eq, if_pos, if_neg, upd_e, pk_un, Option.bind_some, zlit, zlitL, within_x, in_m, has_x, reduceIte, Bool.false_eq_true]
        exact hw i hi
      · try simp (disch := omega) only [chk_ix, chk_bo, cl_n, nI_add, pk_mul, pk_sub, nI_leI, nI_ltI, nI_eq, if_pos, if_neg, upd_e, pk_un, Option.bind_some, zlit, zlitL, within_x, in_m, has_x, reduceIte, Bool.false_eq_true]
        exact hl k hk
      · try simp (disch := omega) only [chk_ix, chk_bo, cl_n, nI_add, pk_mul, pk_sub, nI_leI, nI_ltI, nI_eq, if_pos, if_neg, upd_e, pk_un, Option.bind_some, zlit, zlitL, within_x, in_m, has_x, reduceIte, Bool.false_eq_true]
        refine ⟨(hp k hk).1, (hp k hk).2.1, (hp k hk).2.2.1, (hp k hk).2.2.2.1, fun i hi => ?_⟩
        try simp (disch := omega) only [chk_ix, chk_bo, cl_n, nI_add, pk_mul, pk_sub, nI_leI, nI_ltI, nI_eq, if_pos, if_neg, upd_e, pk_un, Option.bind_some, zlit, zlitL, within_x, in_m, has_x, reduceIte, Bool.false_eq_true]
        exact (hp k hk).2.2.2.2 i hi
theorem rs_note : Rs_note := by
  unfold Rs_note
  intro x_above x_below x_bads x_nos x_fulls pressure day wells lefts notes undos kind wanted hours had due leftHour leftPressure note past len text m_above m_below m_bytesLong m_told m_refused m_bytes a1 a2 a3 a4 a5 a6 hR
  obtain ⟨hP, hr, hf, hx⟩ := id hR
  obtain ⟨n, nl, nn, nu, d, p, h0, ht, hw, hl, hno, hp⟩ := hP
  obtain ⟨rfl, h02, h03, h04, rfl, h05, h06⟩ := id h0
  unfold f_X4_note f_X4_note_b33 f_X4_note_b60 f_X5_note f_X5_note_b56 f_X4_bad f_X4_full
  have hW := fun x => isWell_m FU x (t := m_told) ht.1 (by omega)
  cases h1 : hsb n a1 with
  | false =>
    simp (disch := omega) only [chk_ix, chk_bo, cl_n, nI_add, pk_mul, pk_sub, nI_leI, nI_ltI, nI_eq, if_pos, if_neg, upd_e, pk_un, Option.bind_some, zlit, zlitL, within_x, in_m, has_x, reduceIte, Bool.false_eq_true, hW, h1, bad_m]
    exact ⟨_, _, rfl, rfl, rfl, Rel_bad hR⟩
  | true =>
    cases h2 : rgb 1 20 a2 with
    | false =>
      simp (disch := omega) only [chk_ix, chk_bo, cl_n, nI_add, pk_mul, pk_sub, nI_leI, nI_ltI, nI_eq, if_pos, if_neg, upd_e, pk_un, Option.bind_some, zlit, zlitL, within_x, in_m, has_x, reduceIte, Bool.false_eq_true, hW, h1, h2, bad_m, isWanted_x, isWanted_m]
      exact ⟨_, _, rfl, rfl, rfl, Rel_bad hR⟩
    | true =>
      cases h3 : rgb 0 7 a3 with
      | false =>
        simp (disch := omega) only [chk_ix, chk_bo, cl_n, nI_add, pk_mul, pk_sub, nI_leI, nI_ltI, nI_eq, if_pos, if_neg, upd_e, pk_un, Option.bind_some, zlit, zlitL, within_x, in_m, has_x, reduceIte, Bool.false_eq_true, hW, h1, h2, h3, bad_m, isWanted_x, isWanted_m, isHour_x, isHour_m]
        exact ⟨_, _, rfl, rfl, rfl, Rel_bad hR⟩
      | true =>
        obtain ⟨c, -, hc, rfl⟩ := rg_of h3 (by omega)
        cases h4 : rgb 0 60 a4 with
        | false =>
          simp (disch := omega) only [chk_ix, chk_bo, cl_n, nI_add, pk_mul, pk_sub, nI_leI, nI_ltI, nI_eq, if_pos, if_neg, upd_e, pk_un, Option.bind_some, zlit, zlitL, within_x, in_m, has_x, reduceIte, Bool.false_eq_true, hW, h1, h2, h3, h4, bad_m, isWanted_x, isWanted_m, isHour_x, isHour_m, isPressure_x, isPressure_m]
          exact ⟨_, _, rfl, rfl, rfl, Rel_bad hR⟩
        | true =>
          cases h5 : rgb 0 40 a5 with
          | false =>
            simp (disch := omega) only [chk_ix, chk_bo, cl_n, nI_add, pk_mul, pk_sub, nI_leI, nI_ltI, nI_eq, if_pos, if_neg, upd_e, pk_un, Option.bind_some, zlit, zlitL, within_x, in_m, has_x, reduceIte, Bool.false_eq_true, hW, h1, h2, h3, h4, h5, bad_m, isWanted_x, isWanted_m, isHour_x, isHour_m, isPressure_x, isPressure_m]
            exact ⟨_, _, rfl, rfl, rfl, Rel_bad hR⟩
          | true =>
            cases h6 : rgb 0 80 a6 with
            | false =>
              simp (disch := omega) only [chk_ix, chk_bo, cl_n, nI_add, pk_mul, pk_sub, nI_leI, nI_ltI, nI_eq, if_pos, if_neg, upd_e, pk_un, Option.bind_some, zlit, zlitL, within_x, in_m, has_x, reduceIte, Bool.false_eq_true, hW, h1, h2, h3, h4, h5, h6, bad_m, isWanted_x, isWanted_m, isHour_x, isHour_m, isPressure_x, isPressure_m]
              exact ⟨_, _, rfl, rfl, rfl, Rel_bad hR⟩
            | true =>
              have e0 : m_told 2 = nI nn := ht.2.2.1
              rcases Nat.lt_or_ge nn 6 with hlt | hge
              · unfold f_X1_addNote
                simp (disch := omega) only [chk_ix, chk_bo, cl_n, nI_add, pk_mul, pk_sub, nI_leI, nI_ltI, nI_eq, if_pos, if_neg, upd_e, pk_un, Option.bind_some, zlit, zlitL, within_x, in_m, has_x, reduceIte, Bool.false_eq_true, hW, h1, h2, h3, h4, h5, h6, isWanted_x, isWanted_m, isHour_x, isHour_m, isPressure_x, isPressure_m, e0]
                refine ⟨_, _, rfl, rfl, rfl, ⟨n, nl, nn + 1, nu, d, p, ⟨rfl, h02, h03, h04, rfl, by omega, h06⟩, ?_, fun i hi => ?_, fun k hk => ?_, fun k hk => ?_, fun k hk => ?_⟩, hr, hf, hx⟩
                · try simp (disch := omega) only [chk_ix, chk_bo, cl_n, nI_add, pk_mul, pk_sub, nI_leI, nI_ltI, nI_eq, if_pos, if_neg, upd_e, pk_un, Option.bind_some, zlit, zlitL, within_x, in_m, has_x, reduceIte, Bool.false_eq_true]
                  exact ⟨ht.1, ht.2.1, trivial, ht.2.2.2⟩
                · try simp (disch := omega) only [chk_ix, chk_bo, cl_n, nI_add, pk_mul, pk_sub, nI_leI, nI_ltI, nI_eq, if_pos, if_neg, upd_e, pk_un, Option.bind_some, zlit, zlitL, within_x, in_m, has_x, reduceIte, Bool.false_eq_true]
                  exact hw i hi
                · try simp (disch := omega) only [chk_ix, chk_bo, cl_n, nI_add, pk_mul, pk_sub, nI_leI, nI_ltI, nI_eq, if_pos, if_neg, upd_e, pk_un, Option.bind_some, zlit, zlitL, within_x, in_m, has_x, reduceIte, Bool.false_eq_true]
                  exact hl k hk
                · rcases Nat.lt_or_ge k nn with q | q
                  · try simp (disch := omega) only [chk_ix, chk_bo, cl_n, nI_add, pk_mul, pk_sub, nI_leI, nI_ltI, nI_eq, if_pos, if_neg, upd_e, pk_un, Option.bind_some, zlit, zlitL, within_x, in_m, has_x, reduceIte, Bool.false_eq_true]
                    refine ⟨(hno k q).1, fun j hj => ?_⟩
                    try simp (disch := omega) only [chk_ix, chk_bo, cl_n, nI_add, pk_mul, pk_sub, nI_leI, nI_ltI, nI_eq, if_pos, if_neg, upd_e, pk_un, Option.bind_some, zlit, zlitL, within_x, in_m, has_x, reduceIte, Bool.false_eq_true]
                    exact (hno k q).2 j hj
                  · obtain rfl : k = nn := by omega
                    refine ⟨⟨c, ?_, by omega⟩, fun j hj => ?_⟩
                    · simp (disch := omega) only [chk_ix, chk_bo, cl_n, nI_add, pk_mul, pk_sub, nI_leI, nI_ltI, nI_eq, if_pos, if_neg, upd_e, pk_un, Option.bind_some, zlit, zlitL, within_x, in_m, has_x, reduceIte, Bool.false_eq_true, show 6 * k + 2 = k * 6 + 2 by omega]
                    · rcases (show j = 0 ∨ j = 1 ∨ j = 2 ∨ j = 3 ∨ j = 4 ∨ j = 5 by omega) with rfl | rfl | rfl | rfl | rfl | rfl
                      · simp (disch := omega) only [chk_ix, chk_bo, cl_n, nI_add, pk_mul, pk_sub, nI_leI, nI_ltI, nI_eq, if_pos, if_neg, upd_e, pk_un, Option.bind_some, zlit, zlitL, within_x, in_m, has_x, reduceIte, Bool.false_eq_true, show 6 * k = k * 6 by omega, Nat.add_zero]
                      · simp (disch := omega) only [chk_ix, chk_bo, cl_n, nI_add, pk_mul, pk_sub, nI_leI, nI_ltI, nI_eq, if_pos, if_neg, upd_e, pk_un, Option.bind_some, zlit, zlitL, within_x, in_m, has_x, reduceIte, Bool.false_eq_true, show 6 * k = k * 6 by omega]
                      · simp (disch := omega) only [chk_ix, chk_bo, cl_n, nI_add, pk_mul, pk_sub, nI_leI, nI_ltI, nI_eq, if_pos, if_neg, upd_e, pk_un, Option.bind_some, zlit, zlitL, within_x, in_m, has_x, reduceIte, Bool.false_eq_true, show 6 * k = k * 6 by omega]
                      · simp (disch := omega) only [chk_ix, chk_bo, cl_n, nI_add, pk_mul, pk_sub, nI_leI, nI_ltI, nI_eq, if_pos, if_neg, upd_e, pk_un, Option.bind_some, zlit, zlitL, within_x, in_m, has_x, reduceIte, Bool.false_eq_true, show 6 * k = k * 6 by omega]
                      · simp (disch := omega) only [chk_ix, chk_bo, cl_n, nI_add, pk_mul, pk_sub, nI_leI, nI_ltI, nI_eq, if_pos, if_neg, upd_e, pk_un, Option.bind_some, zlit, zlitL, within_x, in_m, has_x, reduceIte, Bool.false_eq_true, show 6 * k = k * 6 by omega]
                      · simp (disch := omega) only [chk_ix, chk_bo, cl_n, nI_add, pk_mul, pk_sub, nI_leI, nI_ltI, nI_eq, if_pos, if_neg, upd_e, pk_un, Option.bind_some, zlit, zlitL, within_x, in_m, has_x, reduceIte, Bool.false_eq_true, show 6 * k = k * 6 by omega]
                · try simp (disch := omega) only [chk_ix, chk_bo, cl_n, nI_add, pk_mul, pk_sub, nI_leI, nI_ltI, nI_eq, if_pos, if_neg, upd_e, pk_un, Option.bind_some, zlit, zlitL, within_x, in_m, has_x, reduceIte, Bool.false_eq_true]
                  refine ⟨(hp k hk).1, (hp k hk).2.1, (hp k hk).2.2.1, (hp k hk).2.2.2.1, fun i hi => ?_⟩
                  try simp (disch := omega) only [chk_ix, chk_bo, cl_n, nI_add, pk_mul, pk_sub, nI_leI, nI_ltI, nI_eq, if_pos, if_neg, upd_e, pk_un, Option.bind_some, zlit, zlitL, within_x, in_m, has_x, reduceIte, Bool.false_eq_true]
                  exact (hp k hk).2.2.2.2 i hi
              · obtain rfl : nn = 6 := by omega
                simp (disch := omega) only [chk_ix, chk_bo, cl_n, nI_add, pk_mul, pk_sub, nI_leI, nI_ltI, nI_eq, if_pos, if_neg, upd_e, pk_un, Option.bind_some, zlit, zlitL, within_x, in_m, has_x, reduceIte, Bool.false_eq_true, hW, h1, h2, h3, h4, h5, h6, isWanted_x, isWanted_m, isHour_x, isHour_m, isPressure_x, isPressure_m, e0, full_m]
                exact ⟨_, _, rfl, rfl, rfl, Rel_full hR⟩
/-- the reference's begin: 0 at the first 75 places, the pressure -/
theorem begin_m {F N : Nat} (hF : 75 < F) (hN : 75 ≤ N) (hN2 : N < 2 ^ 31) (a : Int32) (t : Nat → Int32) : f_X5_begin F N a t = some (upd (pre (fun _ => 0) t 75) 24 a) := by
  unfold f_X5_begin
  have key := loopN (fun m k => f_X5_begin_b2 F N a m (nI k) (pre (fun _ => 0) t k)) (some (upd (pre (fun _ => 0) t 75) 24 a)) 75 ?_ ?_ F hF
  · simpa only [pre_0, z0n] using key
  · intro k m hk
    show f_X5_begin_b2 F N a (m + 1) (nI k) _ = f_X5_begin_b2 F N a m (nI (k + 1)) _
    rw [f_X5_begin_b2]
    try simp (disch := omega) only [chk_ix, chk_bo, cl_n, nI_add, pk_mul, pk_sub, nI_leI, nI_ltI, nI_eq, if_pos, if_neg, upd_e, pk_un, Option.bind_some, zlit, zlitL, within_x, in_m, has_x, reduceIte, Bool.false_eq_true]
    exact congrArg (f_X5_begin_b2 F N a m (nI (k + 1))) (pre_s (fun _ => (0 : Int32)) t k)
  · intro m
    show f_X5_begin_b2 F N a (m + 1) (nI 75) _ = _
    rw [f_X5_begin_b2]
    try simp (disch := omega) only [chk_ix, chk_bo, cl_n, nI_add, pk_mul, pk_sub, nI_leI, nI_ltI, nI_eq, if_pos, if_neg, upd_e, pk_un, Option.bind_some, zlit, zlitL, within_x, in_m, has_x, reduceIte, Bool.false_eq_true]
theorem rs_board : Rs_board := by
  unfold Rs_board
  intro x_above x_below x_bads x_nos x_fulls pressure day wells lefts notes undos kind wanted hours had due leftHour leftPressure note past len text m_above m_below m_bytesLong m_told m_refused m_bytes a1 hR
  obtain ⟨hP, hr, hf, hx⟩ := id hR
  obtain ⟨n, nl, nn, nu, d, p, h0, ht, hw, hl, hno, hp⟩ := hP
  unfold f_X4_board f_X5_board f_X4_bad f_X1_restart
  cases h1 : rgb 0 60 a1 with
  | false =>
    simp (disch := omega) only [chk_ix, chk_bo, cl_n, nI_add, pk_mul, pk_sub, nI_leI, nI_ltI, nI_eq, if_pos, if_neg, upd_e, pk_un, Option.bind_some, zlit, zlitL, within_x, in_m, has_x, reduceIte, Bool.false_eq_true, isPressure_x, isPressure_m, h1, bad_m]
    exact ⟨_, _, rfl, rfl, rfl, Rel_bad hR⟩
  | true =>
    obtain ⟨c, -, hc, rfl⟩ := rg_of h1 (by omega)
    have hB := begin_m (F := FU) (N := 251) (ltF (by omega)) (by omega) (by omega) (nI c) m_told
    simp (disch := omega) only [chk_ix, chk_bo, cl_n, nI_add, pk_mul, pk_sub, nI_leI, nI_ltI, nI_eq, if_pos, if_neg, upd_e, pk_un, Option.bind_some, zlit, zlitL, within_x, in_m, has_x, reduceIte, Bool.false_eq_true, isPressure_x, isPressure_m, h1, many_m, hB, ht.1]
    refine ⟨_, _, rfl, rfl, rfl, ⟨0, 0, 0, 0, 0, c, ⟨rfl, by omega, rfl, by omega, rfl, by omega, rfl, by omega, rfl, by omega, rfl, hc⟩, ?_, fun k hk => absurd hk (Nat.not_lt_zero k), fun k hk => absurd hk (Nat.not_lt_zero k), fun k hk => absurd hk (Nat.not_lt_zero k), fun k hk => absurd hk (Nat.not_lt_zero k)⟩, hr, hf, hx⟩
    exact ⟨rfl, rfl, rfl, rfl, rfl, rfl⟩
theorem rs_start : Rs_start := by
  refine ⟨_, begin_m (ltF (by omega)) (by omega) (by omega) _ _, ⟨0, 0, 0, 0, 0, 30, ⟨rfl, by omega, rfl, by omega, rfl, by omega, rfl, by omega, rfl, by omega, rfl, by omega⟩, ?_, fun k hk => absurd hk (Nat.not_lt_zero k), fun k hk => absurd hk (Nat.not_lt_zero k), fun k hk => absurd hk (Nat.not_lt_zero k), fun k hk => absurd hk (Nat.not_lt_zero k)⟩, ⟨rfl, rfl, rfl⟩, ⟨rfl, rfl⟩, 0, rfl, by omega, rfl, fun k hk => absurd hk (Nat.not_lt_zero k)⟩
  exact ⟨rfl, rfl, rfl, rfl, rfl, rfl⟩
theorem layWell_m (F : Nat) {N n : Nat} (hn : n < 5) (hN : 31 ≤ N) (hN2 : N < 2 ^ 31) (a1 a2 a3 : Int32) {t : Nat → Int32} (h0 : t 0 = nI n) :
    f_X5_layWell F N a1 a2 a3 t = some (upd (upd (upd (upd (upd (upd t (26 + n) a1) (19 + n) a2) (14 + n) a3) (4 + n) 0) (9 + n) 0) 0 (nI (n + 1))) := by
  unfold f_X5_layWell
  simp (disch := omega) only [chk_ix, chk_bo, cl_n, nI_add, pk_mul, pk_sub, nI_leI, nI_ltI, nI_eq, if_pos, if_neg, upd_e, pk_un, Option.bind_some, zlit, zlitL, within_x, in_m, has_x, reduceIte, Bool.false_eq_true, h0]
theorem rs_well : Rs_well := by
  unfold Rs_well
  intro x_above x_below x_bads x_nos x_fulls pressure day wells lefts notes undos kind wanted hours had due leftHour leftPressure note past len text m_above m_below m_bytesLong m_told m_refused m_bytes a1 a2 a3 hR
  obtain ⟨hP, hr, hf, hx⟩ := id hR
  obtain ⟨n, nl, nn, nu, d, p, h0, ht, hw, hl, hno, hp⟩ := hP
  obtain ⟨rfl, h02, rfl, h03, rfl, h05, rfl, h06, h07⟩ := id h0
  unfold f_X4_well f_X4_well_b27 f_X5_well f_X5_well_b31 f_X4_bad f_X4_full
  cases h1 : rgb 0 5 a1 with
  | false =>
    simp (disch := omega) only [chk_ix, chk_bo, cl_n, nI_add, pk_mul, pk_sub, nI_leI, nI_ltI, nI_eq, if_pos, if_neg, upd_e, pk_un, Option.bind_some, zlit, zlitL, within_x, in_m, has_x, reduceIte, Bool.false_eq_true, h1, bad_m]
    exact ⟨_, _, rfl, rfl, rfl, Rel_bad hR⟩
  | true =>
    obtain ⟨c, -, hc, rfl⟩ := rg_of h1 (by omega)
    cases h2 : rgb 1 20 a2 with
    | false =>
      simp (disch := omega) only [chk_ix, chk_bo, cl_n, nI_add, pk_mul, pk_sub, nI_leI, nI_ltI, nI_eq, if_pos, if_neg, upd_e, pk_un, Option.bind_some, zlit, zlitL, within_x, in_m, has_x, reduceIte, Bool.false_eq_true, h1, h2, isWanted_x, isWanted_m, bad_m]
      exact ⟨_, _, rfl, rfl, rfl, Rel_bad hR⟩
    | true =>
      obtain ⟨w, hw1, hw2, rfl⟩ := rg_of h2 (by omega)
      cases h3 : rgb 0 255 a3 with
      | false =>
        simp (disch := omega) only [chk_ix, chk_bo, cl_n, nI_add, pk_mul, pk_sub, nI_leI, nI_ltI, nI_eq, if_pos, if_neg, upd_e, pk_un, Option.bind_some, zlit, zlitL, within_x, in_m, has_x, reduceIte, Bool.false_eq_true, h1, h2, h3, isWanted_x, isWanted_m, bad_m]
        exact ⟨_, _, rfl, rfl, rfl, Rel_bad hR⟩
      | true =>
        obtain ⟨o, -, ho, rfl⟩ := rg_of h3 (by omega)
        rcases Nat.lt_or_ge n 5 with hlt | hge
        · unfold f_X1_addWell
          have e0 : m_told 0 = nI n := ht.1
          have hL := layWell_m FU (N := 251) hlt (by omega) (by omega) (nI c) (nI w) (nI o) e0
          simp (disch := omega) only [chk_ix, chk_bo, cl_n, nI_add, pk_mul, pk_sub, nI_leI, nI_ltI, nI_eq, if_pos, if_neg, upd_e, pk_un, Option.bind_some, zlit, zlitL, within_x, in_m, has_x, reduceIte, Bool.false_eq_true, h1, h2, h3, isWanted_x, isWanted_m, many_m, e0, hL]
          refine ⟨_, _, rfl, rfl, rfl, ⟨n + 1, nl, nn, 0, d, p, ⟨rfl, by omega, rfl, h03, rfl, h05, rfl, by omega, h07⟩, ?_, fun i hi => ?_, fun k hk => ?_, fun k hk => ?_, fun k hk => absurd hk (Nat.not_lt_zero k)⟩, hr, hf, hx⟩
          · try simp (disch := omega) only [chk_ix, chk_bo, cl_n, nI_add, pk_mul, pk_sub, nI_leI, nI_ltI, nI_eq, if_pos, if_neg, upd_e, pk_un, Option.bind_some, zlit, zlitL, within_x, in_m, has_x, reduceIte, Bool.false_eq_true]
            exact ⟨trivial, ht.2.1, ht.2.2.1, trivial, ht.2.2.2.2⟩
          · rcases Nat.lt_or_ge i n with q | q
            · try simp (disch := omega) only [chk_ix, chk_bo, cl_n, nI_add, pk_mul, pk_sub, nI_leI, nI_ltI, nI_eq, if_pos, if_neg, upd_e, pk_un, Option.bind_some, zlit, zlitL, within_x, in_m, has_x, reduceIte, Bool.false_eq_true]
              exact hw i q
            · obtain rfl : i = n := by omega
              try simp (disch := omega) only [chk_ix, chk_bo, cl_n, nI_add, pk_mul, pk_sub, nI_leI, nI_ltI, nI_eq, if_pos, if_neg, upd_e, pk_un, Option.bind_some, zlit, zlitL, within_x, in_m, has_x, reduceIte, Bool.false_eq_true]
              exact ⟨⟨c, rfl, hc⟩, ⟨⟨w, rfl, hw1, hw2⟩, ⟨o, rfl, ho⟩⟩, by first | trivial | exact ⟨trivial, trivial, trivial, trivial, trivial⟩⟩
          · try simp (disch := omega) only [chk_ix, chk_bo, cl_n, nI_add, pk_mul, pk_sub, nI_leI, nI_ltI, nI_eq, if_pos, if_neg, upd_e, pk_un, Option.bind_some, zlit, zlitL, within_x, in_m, has_x, reduceIte, Bool.false_eq_true]
            exact hl k hk
          · refine ⟨(hno k hk).1, fun j hj => ?_⟩
            try simp (disch := omega) only [chk_ix, chk_bo, cl_n, nI_add, pk_mul, pk_sub, nI_leI, nI_ltI, nI_eq, if_pos, if_neg, upd_e, pk_un, Option.bind_some, zlit, zlitL, within_x, in_m, has_x, reduceIte, Bool.false_eq_true]
            exact (hno k hk).2 j hj
        · obtain rfl : n = 5 := by omega
          have e0 : m_told 0 = nI 5 := ht.1
          simp (disch := omega) only [chk_ix, chk_bo, cl_n, nI_add, pk_mul, pk_sub, nI_leI, nI_ltI, nI_eq, if_pos, if_neg, upd_e, pk_un, Option.bind_some, zlit, zlitL, within_x, in_m, has_x, reduceIte, Bool.false_eq_true, h1, h2, h3, isWanted_x, isWanted_m, many_m, e0, full_m]
          exact ⟨_, _, rfl, rfl, rfl, Rel_full hR⟩

/-! PURE: what may be undone: remember and keep, goBack and undo; press, turn, want -/
theorem cpo_n {sp dp n n0 n1 : Nat} (h1 : sp + n ≤ n0) (h2 : dp + n ≤ n1) (h3 : n0 < 2 ^ 31) (h4 : n1 < 2 ^ 31) : cpo (nI sp) (nI dp) (nI n) n0 n1 = true := by
  refine decide_eq_true ⟨nI_pos (by omega), nI_pos (by omega), nI_pos (by omega), ?_, ?_⟩
  · rw [nI_clamp (by omega), nI_clamp (by omega)]; exact h1
  · rw [nI_clamp (by omega), nI_clamp (by omega)]; exact h2
theorem chk_cpo {α : Type} {sp dp n n0 n1 : Nat} {x : Option α} (h1 : sp + n ≤ n0) (h2 : dp + n ≤ n1) (h3 : n0 < 2 ^ 31) (h4 : n1 < 2 ^ 31) : chk (cpo (nI sp) (nI dp) (nI n) n0 n1) x = x := chk_t (cpo_n h1 h2 h3 h4)
theorem cpy_0 (f g : Nat → Int32) (sp dp : Nat) : va_cpy f g sp dp 0 = g := by
  funext j; exact if_neg (by omega)
theorem cpy_s (f g : Nat → Int32) (sp dp k : Nat) : upd (va_cpy f g sp dp k) (dp + k) (f (sp + k)) = va_cpy f g sp dp (k + 1) := by
  funext j
  unfold upd va_cpy
  by_cases h : j = dp + k
  · rw [if_pos h, if_pos (by omega), h, show dp + k - dp = k by omega]
  · rw [if_neg h]
    by_cases h2 : dp ≤ j ∧ j < dp + k
    · rw [if_pos h2, if_pos (by omega)]
    · rw [if_neg h2, if_neg (by omega)]
theorem cpy_at {f g : Nat → Int32} {sp dp n j i : Nat} (h1 : dp ≤ j) (h2 : j < dp + n) (h3 : sp + (j - dp) = i) : va_cpy f g sp dp n j = f i := by
  rw [pk_cpy_in h1 h2, h3]
theorem cpy_no {f g : Nat → Int32} {sp dp n j : Nat} (h : ¬ (dp ≤ j ∧ j < dp + n)) : va_cpy f g sp dp n j = g j := if_neg h
theorem keep52_m {F u : Nat} (hF : 22 < F) (hu : u < 8) {t : Nat → Int32} (h3 : t 3 = nI u) : f_X5_keep_b52 F t = some (upd (va_cpy t t 4 (75 + 22 * u) 22) 3 (nI (u + 1))) := by
  unfold f_X5_keep_b52
  have key := loopN (fun m k => f_X5_keep_b54 F m (nI k) (va_cpy t t 4 (75 + 22 * u) k)) (some (upd (va_cpy t t 4 (75 + 22 * u) 22) 3 (nI (u + 1)))) 22 ?_ ?_ F hF
  · simpa only [cpy_0, z0n] using key
  · intro k m hk
    show f_X5_keep_b54 F (m + 1) (nI k) _ = f_X5_keep_b54 F m (nI (k + 1)) _
    have e3 : va_cpy t t 4 (75 + 22 * u) k 3 = nI u := (cpy_no (by omega)).trans h3
    have e4 : va_cpy t t 4 (75 + 22 * u) k (4 + k) = t (4 + k) := cpy_no (by omega)
    rw [f_X5_keep_b54]
    simp (disch := omega) only [chk_ix, chk_bo, cl_n, nI_add, pk_mul, pk_sub, nI_leI, nI_ltI, nI_eq, if_pos, if_neg, upd_e, pk_un, Option.bind_some, zlit, zlitL, within_x, in_m, has_x, reduceIte, Bool.false_eq_true, e3, e4]
    exact congrArg (f_X5_keep_b54 F m (nI (k + 1))) (cpy_s _ _ _ _ _)
  · intro m
    show f_X5_keep_b54 F (m + 1) (nI 22) _ = _
    have e3 : va_cpy t t 4 (75 + 22 * u) 22 3 = nI u := (cpy_no (by omega)).trans h3
    rw [f_X5_keep_b54]
    simp (disch := omega) only [chk_ix, chk_bo, cl_n, nI_add, pk_mul, pk_sub, nI_leI, nI_ltI, nI_eq, if_pos, if_neg, upd_e, pk_un, Option.bind_some, zlit, zlitL, within_x, in_m, has_x, reduceIte, Bool.false_eq_true, e3]
theorem keep_m {F u : Nat} (hF : 200 < F) (hu : u < 8) {t : Nat → Int32} (h3 : t 3 = nI u) : f_X5_keep F t = some (upd (va_cpy t t 4 (75 + 22 * u) 22) 3 (nI (u + 1))) := by
  unfold f_X5_keep
  rw [← keep52_m (F := F) (by omega) hu h3]
  simp (disch := omega) only [chk_ix, chk_bo, cl_n, nI_add, pk_mul, pk_sub, nI_leI, nI_ltI, nI_eq, if_pos, if_neg, upd_e, pk_un, Option.bind_some, zlit, zlitL, within_x, in_m, has_x, reduceIte, Bool.false_eq_true, h3]
theorem keep8_m {F : Nat} (hF : 200 < F) {t : Nat → Int32} (h3 : t 3 = nI 8) : f_X5_keep F t = some (upd (va_cpy (upd (va_cpy t t 97 75 154) 3 (nI 7)) (upd (va_cpy t t 97 75 154) 3 (nI 7)) 4 (75 + 22 * 7) 22) 3 (nI 8)) := by
  unfold f_X5_keep
  rw [← keep52_m (F := F) (u := 7) (t := upd (va_cpy t t 97 75 154) 3 (nI 7)) (by omega) (by omega) rfl]
  have key := loopN (fun m k => f_X5_keep_b13 F (f_X5_keep_b52 F) m (nI k) (va_cpy t t 97 75 k)) (f_X5_keep_b52 F (upd (va_cpy t t 97 75 154) 3 (nI 7))) 154 ?_ ?_ F (by omega)
  · simp (disch := omega) only [chk_ix, chk_bo, cl_n, nI_add, pk_mul, pk_sub, nI_leI, nI_ltI, nI_eq, if_pos, if_neg, upd_e, pk_un, Option.bind_some, zlit, zlitL, within_x, in_m, has_x, reduceIte, Bool.false_eq_true, h3]
    simpa only [cpy_0, z0n] using key
  · intro k m hk
    show f_X5_keep_b13 F (f_X5_keep_b52 F) (m + 1) (nI k) _ = f_X5_keep_b13 F (f_X5_keep_b52 F) m (nI (k + 1)) _
    have e4 : va_cpy t t 97 75 k (97 + k) = t (97 + k) := cpy_no (by omega)
    rw [f_X5_keep_b13]
    simp (disch := omega) only [chk_ix, chk_bo, cl_n, nI_add, pk_mul, pk_sub, nI_leI, nI_ltI, nI_eq, if_pos, if_neg, upd_e, pk_un, Option.bind_some, zlit, zlitL, within_x, in_m, has_x, reduceIte, Bool.false_eq_true, e4]
    exact congrArg (f_X5_keep_b13 F (f_X5_keep_b52 F) m (nI (k + 1))) (cpy_s _ _ _ _ _)
  · intro m
    show f_X5_keep_b13 F (f_X5_keep_b52 F) (m + 1) (nI 154) _ = _
    rw [f_X5_keep_b13]
    try simp (disch := omega) only [chk_ix, chk_bo, cl_n, nI_add, pk_mul, pk_sub, nI_leI, nI_ltI, nI_eq, if_pos, if_neg, upd_e, pk_un, Option.bind_some, zlit, zlitL, within_x, in_m, has_x, reduceIte, Bool.false_eq_true]
def rowP (u : Nat) (pr day : Int32) (wanted hours had due past : Nat → Int32) : Nat → Int32 := va_cpy due (va_cpy had (va_cpy hours (va_cpy wanted (upd (upd past (22 * u) pr) (22 * u + 1) day) 0 (22 * u + 2) 5) 0 (22 * u + 7) 5) 0 (22 * u + 12) 5) 0 (22 * u + 17) 5
theorem remember36_x {F u : Nat} (hu : u < 8) (pr day : Int32) (wanted hours had due past : Nat → Int32) : f_X1_remember_b36 F pr day wanted hours had due (nI u) past = some (nI (u + 1), rowP u pr day wanted hours had due past) := by
  unfold f_X1_remember_b36 rowP
  simp (disch := omega) only [chk_ix, chk_bo, cl_n, nI_add, pk_mul, pk_sub, nI_leI, nI_ltI, nI_eq, if_pos, if_neg, upd_e, pk_un, Option.bind_some, zlit, zlitL, within_x, in_m, has_x, reduceIte, Bool.false_eq_true, chk_cpo, Nat.mul_comm u 22]
theorem remember_x {F u : Nat} (hu : u < 8) (pr day : Int32) (wanted hours had due past : Nat → Int32) : f_X1_remember F pr day wanted hours had due (nI u) past = some (nI (u + 1), rowP u pr day wanted hours had due past) := by
  unfold f_X1_remember
  simp (disch := omega) only [chk_ix, chk_bo, cl_n, nI_add, pk_mul, pk_sub, nI_leI, nI_ltI, nI_eq, if_pos, if_neg, upd_e, pk_un, Option.bind_some, zlit, zlitL, within_x, in_m, has_x, reduceIte, Bool.false_eq_true, remember36_x hu]
theorem remember8_x {F : Nat} (pr day : Int32) (wanted hours had due past : Nat → Int32) : f_X1_remember F pr day wanted hours had due (nI 8) past = some (nI 8, rowP 7 pr day wanted hours had due (va_cpy past past 22 0 154)) := by
  unfold f_X1_remember
  simp (disch := omega) only [chk_ix, chk_bo, cl_n, nI_add, pk_mul, pk_sub, nI_leI, nI_ltI, nI_eq, if_pos, if_neg, upd_e, pk_un, Option.bind_some, zlit, zlitL, within_x, in_m, has_x, reduceIte, Bool.false_eq_true, chk_cpo, remember36_x (F := F) (u := 7) (show 7 < 8 by omega)]
/-- the places of a row -/
theorem rowP_old {u k : Nat} {pr day : Int32} {wanted hours had due past : Nat → Int32} (h : k < 22 * u) : rowP u pr day wanted hours had due past k = past k := by
  unfold rowP
  rw [cpy_no (by omega), cpy_no (by omega), cpy_no (by omega), cpy_no (by omega), pk_un (by omega), pk_un (by omega)]
theorem rowP_0 {u : Nat} {pr day : Int32} {wanted hours had due past : Nat → Int32} : rowP u pr day wanted hours had due past (22 * u) = pr := by
  unfold rowP
  rw [cpy_no (by omega), cpy_no (by omega), cpy_no (by omega), cpy_no (by omega), pk_un (by omega), pk_us]
theorem rowP_1 {u : Nat} {pr day : Int32} {wanted hours had due past : Nat → Int32} : rowP u pr day wanted hours had due past (22 * u + 1) = day := by
  unfold rowP
  rw [cpy_no (by omega), cpy_no (by omega), cpy_no (by omega), cpy_no (by omega), pk_us]
theorem rowP_2 {u i : Nat} (hi : i < 5) {pr day : Int32} {wanted hours had due past : Nat → Int32} : rowP u pr day wanted hours had due past (22 * u + 2 + i) = wanted i := by
  unfold rowP
  rw [cpy_no (by omega), cpy_no (by omega), cpy_no (by omega), cpy_at (i := i) (by omega) (by omega) (by omega)]
theorem rowP_7 {u i : Nat} (hi : i < 5) {pr day : Int32} {wanted hours had due past : Nat → Int32} : rowP u pr day wanted hours had due past (22 * u + 7 + i) = hours i := by
  unfold rowP
  rw [cpy_no (by omega), cpy_no (by omega), cpy_at (i := i) (by omega) (by omega) (by omega)]
theorem rowP_12 {u i : Nat} (hi : i < 5) {pr day : Int32} {wanted hours had due past : Nat → Int32} : rowP u pr day wanted hours had due past (22 * u + 12 + i) = had i := by
  unfold rowP
  rw [cpy_no (by omega), cpy_at (i := i) (by omega) (by omega) (by omega)]
theorem rowP_17 {u i : Nat} (hi : i < 5) {pr day : Int32} {wanted hours had due past : Nat → Int32} : rowP u pr day wanted hours had due past (22 * u + 17 + i) = due i := by
  unfold rowP
  rw [cpy_at (i := i) (by omega) (by omega) (by omega)]
/-- one more row, where there is room -/
theorem PR_keep1 {pr day wells lefts notes : Int32} {u : Nat} {kind wanted hours had due leftHour leftPressure note past told : Nat → Int32} (hu : u < 8) (h : PR pr day wells lefts notes (nI u) kind wanted hours had due leftHour leftPressure note past told) :
    PR pr day wells lefts notes (nI (u + 1)) kind wanted hours had due leftHour leftPressure note (rowP u pr day wanted hours had due past) (upd (va_cpy told told 4 (75 + 22 * u) 22) 3 (nI (u + 1))) := by
  obtain ⟨n, nl, nn, nu, d, p, ⟨h1, h2, h3, h4, h5, h6, h7, h8, h9, h10, h11, h12⟩, ht, hw, hl, hno, hp⟩ := h
  obtain rfl : u = nu := (nI_eq (by omega) (by omega)).mp h7
  refine ⟨n, nl, nn, u + 1, d, p, ⟨h1, h2, h3, h4, h5, h6, rfl, by omega, h9, h10, h11, h12⟩, ?_, fun i hi => ?_, fun k hk => ?_, fun k hk => ?_, fun k hk => ?_⟩
  · refine ⟨?_, ?_, ?_, pk_us, ?_, ?_⟩
    · rw [pk_un (by omega), cpy_no (by omega)]; exact ht.1
    · rw [pk_un (by omega), cpy_no (by omega)]; exact ht.2.1
    · rw [pk_un (by omega), cpy_no (by omega)]; exact ht.2.2.1
    · rw [pk_un (by omega), cpy_no (by omega)]; exact ht.2.2.2.2.1
    · rw [pk_un (by omega), cpy_no (by omega)]; exact ht.2.2.2.2.2
  · rw [pk_un (by omega), cpy_no (by omega), pk_un (by omega), cpy_no (by omega), pk_un (by omega), cpy_no (by omega), pk_un (by omega), cpy_no (by omega), pk_un (by omega), cpy_no (by omega)]
    exact hw i hi
  · rw [pk_un (by omega), cpy_no (by omega), pk_un (by omega), cpy_no (by omega)]
    exact hl k hk
  · refine ⟨(hno k hk).1, fun j hj => ?_⟩
    rw [pk_un (by omega), cpy_no (by omega)]
    exact (hno k hk).2 j hj
  · rcases Nat.lt_or_ge k u with q | q
    · obtain ⟨a1, a2, a3, a4, a5⟩ := hp k q
      rw [rowP_old (by omega), rowP_old (by omega), pk_un (by omega), cpy_no (by omega), pk_un (by omega), cpy_no (by omega)]
      refine ⟨a1, a2, a3, a4, fun i hi => ?_⟩
      rw [rowP_old (by omega), rowP_old (by omega), rowP_old (by omega), rowP_old (by omega), pk_un (by omega), cpy_no (by omega), pk_un (by omega), cpy_no (by omega), pk_un (by omega), cpy_no (by omega), pk_un (by omega), cpy_no (by omega)]
      exact a5 i hi
    · obtain rfl : k = u := by omega
      rw [rowP_0, rowP_1, pk_un (by omega), cpy_at (i := 24) (by omega) (by omega) (by omega), pk_un (by omega), cpy_at (i := 25) (by omega) (by omega) (by omega)]
      refine ⟨⟨p, h11, h12⟩, ⟨d, h9, h10⟩, ht.2.2.2.2.1, ht.2.2.2.2.2, fun i hi => ?_⟩
      obtain ⟨-, b1, b2, b3, b4, b5, b6⟩ := hw i hi
      rw [rowP_2 (by omega), rowP_7 (by omega), rowP_12 (by omega), rowP_17 (by omega)]
      refine ⟨b1, ?_, ?_, ?_, ?_⟩
      · rw [pk_un (by omega), cpy_at (i := 19 + i) (by omega) (by omega) (by omega)]; exact b3
      · rw [pk_un (by omega), cpy_at (i := 14 + i) (by omega) (by omega) (by omega)]; exact b4
      · rw [pk_un (by omega), cpy_at (i := 4 + i) (by omega) (by omega) (by omega)]; exact b5
      · rw [pk_un (by omega), cpy_at (i := 9 + i) (by omega) (by omega) (by omega)]; exact b6
/-- the eldest row goes -/
theorem PR_drop {pr day wells lefts notes : Int32} {kind wanted hours had due leftHour leftPressure note past told : Nat → Int32} (h : PR pr day wells lefts notes (nI 8) kind wanted hours had due leftHour leftPressure note past told) :
    PR pr day wells lefts notes (nI 7) kind wanted hours had due leftHour leftPressure note (va_cpy past past 22 0 154) (upd (va_cpy told told 97 75 154) 3 (nI 7)) := by
  obtain ⟨n, nl, nn, nu, d, p, ⟨h1, h2, h3, h4, h5, h6, h7, h8, h9, h10, h11, h12⟩, ht, hw, hl, hno, hp⟩ := h
  obtain rfl : 8 = nu := (nI_eq (by omega) (by omega)).mp h7
  refine ⟨n, nl, nn, 7, d, p, ⟨h1, h2, h3, h4, h5, h6, rfl, by omega, h9, h10, h11, h12⟩, ?_, fun i hi => ?_, fun k hk => ?_, fun k hk => ?_, fun k hk => ?_⟩
  · refine ⟨?_, ?_, ?_, pk_us, ?_, ?_⟩
    · rw [pk_un (by omega), cpy_no (by omega)]; exact ht.1
    · rw [pk_un (by omega), cpy_no (by omega)]; exact ht.2.1
    · rw [pk_un (by omega), cpy_no (by omega)]; exact ht.2.2.1
    · rw [pk_un (by omega), cpy_no (by omega)]; exact ht.2.2.2.2.1
    · rw [pk_un (by omega), cpy_no (by omega)]; exact ht.2.2.2.2.2
  · rw [pk_un (by omega), cpy_no (by omega), pk_un (by omega), cpy_no (by omega), pk_un (by omega), cpy_no (by omega), pk_un (by omega), cpy_no (by omega), pk_un (by omega), cpy_no (by omega)]
    exact hw i hi
  · rw [pk_un (by omega), cpy_no (by omega), pk_un (by omega), cpy_no (by omega)]
    exact hl k hk
  · refine ⟨(hno k hk).1, fun j hj => ?_⟩
    rw [pk_un (by omega), cpy_no (by omega)]
    exact (hno k hk).2 j hj
  · obtain ⟨a1, a2, a3, a4, a5⟩ := hp (k + 1) (by omega)
    rw [cpy_at (i := 22 * (k + 1)) (by omega) (by omega) (by omega), cpy_at (i := 22 * (k + 1) + 1) (by omega) (by omega) (by omega), pk_un (by omega), cpy_at (i := 95 + 22 * (k + 1)) (by omega) (by omega) (by omega), pk_un (by omega), cpy_at (i := 96 + 22 * (k + 1)) (by omega) (by omega) (by omega)]
    refine ⟨a1, a2, a3, a4, fun i hi => ?_⟩
    rw [cpy_at (i := 22 * (k + 1) + 2 + i) (by omega) (by omega) (by omega), cpy_at (i := 22 * (k + 1) + 7 + i) (by omega) (by omega) (by omega), cpy_at (i := 22 * (k + 1) + 12 + i) (by omega) (by omega) (by omega), cpy_at (i := 22 * (k + 1) + 17 + i) (by omega) (by omega) (by omega),
      pk_un (by omega), cpy_at (i := 90 + 22 * (k + 1) + i) (by omega) (by omega) (by omega), pk_un (by omega), cpy_at (i := 85 + 22 * (k + 1) + i) (by omega) (by omega) (by omega), pk_un (by omega), cpy_at (i := 75 + 22 * (k + 1) + i) (by omega) (by omega) (by omega), pk_un (by omega), cpy_at (i := 80 + 22 * (k + 1) + i) (by omega) (by omega) (by omega)]
    exact a5 i hi
/-- remember and keep -/
theorem PR_keep {F : Nat} (hF : 200 < F) {pr day wells lefts notes undos : Int32} {kind wanted hours had due leftHour leftPressure note past told : Nat → Int32} (h : PR pr day wells lefts notes undos kind wanted hours had due leftHour leftPressure note past told) :
    ∃ (u' : Int32) (past' told' : Nat → Int32), f_X1_remember F pr day wanted hours had due undos past = some (u', past') ∧ f_X5_keep F told = some told' ∧ PR pr day wells lefts notes u' kind wanted hours had due leftHour leftPressure note past' told' := by
  obtain ⟨n, nl, nn, nu, d, p, ⟨-, -, -, -, -, -, rfl, h8, -⟩, ht, -⟩ := id h
  rcases Nat.lt_or_ge nu 8 with q | q
  · exact ⟨_, _, _, remember_x q _ _ _ _ _ _ _, keep_m hF q ht.2.2.2.1, PR_keep1 q h⟩
  · obtain rfl : nu = 8 := by omega
    exact ⟨_, _, _, remember8_x _ _ _ _ _ _ _, keep8_m hF ht.2.2.2.1, PR_keep1 (by omega) (PR_drop h)⟩
/-- another pressure -/
theorem PR_press {pr day wells lefts notes undos : Int32} {kind wanted hours had due leftHour leftPressure note past told : Nat → Int32} {a : Nat} (ha : a ≤ 60) (h : PR pr day wells lefts notes undos kind wanted hours had due leftHour leftPressure note past told) :
    PR (nI a) day wells lefts notes undos kind wanted hours had due leftHour leftPressure note past (upd told 24 (nI a)) := by
  obtain ⟨n, nl, nn, nu, d, p, ⟨h1, h2, h3, h4, h5, h6, h7, h8, h9, h10, h11, h12⟩, ht, hw, hl, hno, hp⟩ := h
  refine ⟨n, nl, nn, nu, d, a, ⟨h1, h2, h3, h4, h5, h6, h7, h8, h9, h10, rfl, ha⟩, ?_, fun i hi => ?_, fun k hk => ?_, fun k hk => ?_, fun k hk => ?_⟩
  · rw [pk_un (by omega), pk_un (by omega), pk_un (by omega), pk_un (by omega), pk_us, pk_un (by omega)]
    exact ⟨ht.1, ht.2.1, ht.2.2.1, ht.2.2.2.1, rfl, ht.2.2.2.2.2⟩
  · rw [pk_un (by omega), pk_un (by omega), pk_un (by omega), pk_un (by omega), pk_un (by omega)]
    exact hw i hi
  · rw [pk_un (by omega), pk_un (by omega)]
    exact hl k hk
  · refine ⟨(hno k hk).1, fun j hj => ?_⟩
    rw [pk_un (by omega)]
    exact (hno k hk).2 j hj
  · obtain ⟨a1, a2, a3, a4, a5⟩ := hp k hk
    rw [pk_un (by omega), pk_un (by omega)]
    refine ⟨a1, a2, a3, a4, fun i hi => ?_⟩
    rw [pk_un (by omega), pk_un (by omega), pk_un (by omega), pk_un (by omega)]
    exact a5 i hi
/-- other hours of a well -/
theorem PR_turn {pr day lefts notes undos : Int32} {kind wanted hours had due leftHour leftPressure note past told : Nat → Int32} {n i0 a : Nat} (hn : n ≤ 5) (hi0 : i0 < n) (ha : a ≤ 255) (h : PR pr day (nI n) lefts notes undos kind wanted hours had due leftHour leftPressure note past told) :
    PR pr day (nI n) lefts notes undos kind wanted (upd hours i0 (nI a)) had due leftHour leftPressure note past (upd told (14 + i0) (nI a)) := by
  obtain ⟨n', nl, nn, nu, d, p, ⟨h1, h2, h3, h4, h5, h6, h7, h8, h9, h10, h11, h12⟩, ht, hw, hl, hno, hp⟩ := h
  obtain rfl : n = n' := (nI_eq (by omega) (by omega)).mp h1
  refine ⟨n, nl, nn, nu, d, p, ⟨h1, h2, h3, h4, h5, h6, h7, h8, h9, h10, h11, h12⟩, ?_, fun i hi => ?_, fun k hk => ?_, fun k hk => ?_, fun k hk => ?_⟩
  · rw [pk_un (by omega), pk_un (by omega), pk_un (by omega), pk_un (by omega), pk_un (by omega), pk_un (by omega)]
    exact ht
  · rw [pk_un (k := 14 + i0) (j := 26 + i) (by omega), pk_un (k := 14 + i0) (j := 19 + i) (by omega), pk_un (k := 14 + i0) (j := 4 + i) (by omega), pk_un (k := 14 + i0) (j := 9 + i) (by omega)]
    obtain ⟨b1, b2, b3, b4, b5, b6⟩ := hw i hi
    by_cases e : i = i0
    · subst e
      rw [pk_us, pk_us]
      exact ⟨b1, ⟨b2.1, a, rfl, ha⟩, b3, b4, rfl, b6⟩
    · rw [pk_un (by omega), pk_un (by omega)]
      exact ⟨b1, b2, b3, b4, b5, b6⟩
  · rw [pk_un (by omega), pk_un (by omega)]
    exact hl k hk
  · refine ⟨(hno k hk).1, fun j hj => ?_⟩
    rw [pk_un (by omega)]
    exact (hno k hk).2 j hj
  · obtain ⟨a1, a2, a3, a4, a5⟩ := hp k hk
    rw [pk_un (by omega), pk_un (by omega)]
    refine ⟨a1, a2, a3, a4, fun i hi => ?_⟩
    rw [pk_un (by omega), pk_un (by omega), pk_un (by omega), pk_un (by omega)]
    exact a5 i hi
theorem PR_want {pr day lefts notes undos : Int32} {kind wanted hours had due leftHour leftPressure note past told : Nat → Int32} {n i0 a : Nat} (hn : n ≤ 5) (hi0 : i0 < n) (ha1 : 1 ≤ a) (ha : a ≤ 20) (h : PR pr day (nI n) lefts notes undos kind wanted hours had due leftHour leftPressure note past told) :
    PR pr day (nI n) lefts notes undos kind (upd wanted i0 (nI a)) hours had due leftHour leftPressure note past (upd told (19 + i0) (nI a)) := by
  obtain ⟨n', nl, nn, nu, d, p, ⟨h1, h2, h3, h4, h5, h6, h7, h8, h9, h10, h11, h12⟩, ht, hw, hl, hno, hp⟩ := h
  obtain rfl : n = n' := (nI_eq (by omega) (by omega)).mp h1
  refine ⟨n, nl, nn, nu, d, p, ⟨h1, h2, h3, h4, h5, h6, h7, h8, h9, h10, h11, h12⟩, ?_, fun i hi => ?_, fun k hk => ?_, fun k hk => ?_, fun k hk => ?_⟩
  · rw [pk_un (by omega), pk_un (by omega), pk_un (by omega), pk_un (by omega), pk_un (by omega), pk_un (by omega)]
    exact ht
  · rw [pk_un (k := 19 + i0) (j := 26 + i) (by omega), pk_un (k := 19 + i0) (j := 14 + i) (by omega), pk_un (k := 19 + i0) (j := 4 + i) (by omega), pk_un (k := 19 + i0) (j := 9 + i) (by omega)]
    obtain ⟨b1, b2, b3, b4, b5, b6⟩ := hw i hi
    by_cases e : i = i0
    · subst e
      rw [pk_us, pk_us]
      exact ⟨b1, ⟨⟨a, rfl, ha1, ha⟩, b2.2⟩, b3, rfl, b5, b6⟩
    · rw [pk_un (by omega), pk_un (by omega)]
      exact ⟨b1, b2, b3, b4, b5, b6⟩
  · rw [pk_un (by omega), pk_un (by omega)]
    exact hl k hk
  · refine ⟨(hno k hk).1, fun j hj => ?_⟩
    rw [pk_un (by omega)]
    exact (hno k hk).2 j hj
  · obtain ⟨a1, a2, a3, a4, a5⟩ := hp k hk
    rw [pk_un (by omega), pk_un (by omega)]
    refine ⟨a1, a2, a3, a4, fun i hi => ?_⟩
    rw [pk_un (by omega), pk_un (by omega), pk_un (by omega), pk_un (by omega)]
    exact a5 i hi
theorem rs_press : Rs_press := by
  unfold Rs_press
  intro x_above x_below x_bads x_nos x_fulls pressure day wells lefts notes undos kind wanted hours had due leftHour leftPressure note past len text m_above m_below m_bytesLong m_told m_refused m_bytes a1 hR
  obtain ⟨hP, hr, hf, hx⟩ := id hR
  obtain ⟨u', past', told', e1, e2, hP2⟩ := PR_keep (F := FU) (ltF (by omega)) hP
  obtain ⟨n, nl, nn, nu, d, p, h0, ht, -⟩ := id hP
  unfold f_X4_press f_X5_press f_X4_bad
  cases h1 : rgb 0 60 a1 with
  | false =>
    simp (disch := omega) only [chk_ix, chk_bo, cl_n, nI_add, pk_mul, pk_sub, nI_leI, nI_ltI, nI_eq, if_pos, if_neg, upd_e, pk_un, Option.bind_some, zlit, zlitL, within_x, in_m, has_x, reduceIte, Bool.false_eq_true, isPressure_x, isPressure_m, h1, bad_m]
    exact ⟨_, _, rfl, rfl, rfl, Rel_bad hR⟩
  | true =>
    obtain ⟨c, -, hc, rfl⟩ := rg_of h1 (by omega)
    simp (disch := omega) only [chk_ix, chk_bo, cl_n, nI_add, pk_mul, pk_sub, nI_leI, nI_ltI, nI_eq, if_pos, if_neg, upd_e, pk_un, Option.bind_some, zlit, zlitL, within_x, in_m, has_x, reduceIte, Bool.false_eq_true, isPressure_x, isPressure_m, h1, e1, e2]
    exact ⟨_, _, rfl, rfl, ht.2.2.2.2.1.symm, PR_press hc hP2, hr, hf, hx⟩
theorem rs_turn : Rs_turn := by
  unfold Rs_turn
  intro x_above x_below x_bads x_nos x_fulls pressure day wells lefts notes undos kind wanted hours had due leftHour leftPressure note past len text m_above m_below m_bytesLong m_told m_refused m_bytes a1 a2 hR
  obtain ⟨hP, hr, hf, hx⟩ := id hR
  obtain ⟨u', past', told', e1, e2, hP2⟩ := PR_keep (F := FU) (ltF (by omega)) hP
  obtain ⟨n, nl, nn, nu, d, p, ⟨rfl, hn, -⟩, ht, hw, -⟩ := id hP
  unfold f_X4_turn f_X4_turn_b22 f_X5_turn f_X5_turn_b20 f_X4_bad
  have hW := fun x => isWell_m FU x (t := m_told) ht.1 (by omega)
  cases h1 : hsb n a1 with
  | false =>
    simp (disch := omega) only [chk_ix, chk_bo, cl_n, nI_add, pk_mul, pk_sub, nI_leI, nI_ltI, nI_eq, if_pos, if_neg, upd_e, pk_un, Option.bind_some, zlit, zlitL, within_x, in_m, has_x, reduceIte, Bool.false_eq_true, hW, h1, bad_m]
    exact ⟨_, _, rfl, rfl, rfl, Rel_bad hR⟩
  | true =>
    obtain ⟨i, hi, rfl⟩ := hs_of h1 (by omega)
    cases h2 : rgb 0 255 a2 with
    | false =>
      simp (disch := omega) only [chk_ix, chk_bo, cl_n, nI_add, pk_mul, pk_sub, nI_leI, nI_ltI, nI_eq, if_pos, if_neg, upd_e, pk_un, Option.bind_some, zlit, zlitL, within_x, in_m, has_x, reduceIte, Bool.false_eq_true, hW, h1, h2, bad_m]
      exact ⟨_, _, rfl, rfl, rfl, Rel_bad hR⟩
    | true =>
      obtain ⟨c, -, hc, rfl⟩ := rg_of h2 (by omega)
      simp (disch := omega) only [chk_ix, chk_bo, cl_n, nI_add, pk_mul, pk_sub, nI_leI, nI_ltI, nI_eq, if_pos, if_neg, upd_e, pk_un, Option.bind_some, zlit, zlitL, within_x, in_m, has_x, reduceIte, Bool.false_eq_true, hW, h1, h2, e1, e2]
      exact ⟨_, _, rfl, rfl, (hw i hi).2.2.2.2.1.symm, PR_turn hn hi hc hP2, hr, hf, hx⟩
theorem rs_want : Rs_want := by
  unfold Rs_want
  intro x_above x_below x_bads x_nos x_fulls pressure day wells lefts notes undos kind wanted hours had due leftHour leftPressure note past len text m_above m_below m_bytesLong m_told m_refused m_bytes a1 a2 hR
  obtain ⟨hP, hr, hf, hx⟩ := id hR
  obtain ⟨u', past', told', e1, e2, hP2⟩ := PR_keep (F := FU) (ltF (by omega)) hP
  obtain ⟨n, nl, nn, nu, d, p, ⟨rfl, hn, -⟩, ht, hw, -⟩ := id hP
  unfold f_X4_want f_X4_want_b18 f_X5_want f_X5_want_b15 f_X4_bad
  have hW := fun x => isWell_m FU x (t := m_told) ht.1 (by omega)
  cases h1 : hsb n a1 with
  | false =>
    simp (disch := omega) only [chk_ix, chk_bo, cl_n, nI_add, pk_mul, pk_sub, nI_leI, nI_ltI, nI_eq, if_pos, if_neg, upd_e, pk_un, Option.bind_some, zlit, zlitL, within_x, in_m, has_x, reduceIte, Bool.false_eq_true, hW, h1, bad_m]
    exact ⟨_, _, rfl, rfl, rfl, Rel_bad hR⟩
  | true =>
    obtain ⟨i, hi, rfl⟩ := hs_of h1 (by omega)
    cases h2 : rgb 1 20 a2 with
    | false =>
      simp (disch := omega) only [chk_ix, chk_bo, cl_n, nI_add, pk_mul, pk_sub, nI_leI, nI_ltI, nI_eq, if_pos, if_neg, upd_e, pk_un, Option.bind_some, zlit, zlitL, within_x, in_m, has_x, reduceIte, Bool.false_eq_true, hW, h1, h2, bad_m, isWanted_x, isWanted_m]
      exact ⟨_, _, rfl, rfl, rfl, Rel_bad hR⟩
    | true =>
      obtain ⟨c, hc1, hc, rfl⟩ := rg_of h2 (by omega)
      simp (disch := omega) only [chk_ix, chk_bo, cl_n, nI_add, pk_mul, pk_sub, nI_leI, nI_ltI, nI_eq, if_pos, if_neg, upd_e, pk_un, Option.bind_some, zlit, zlitL, within_x, in_m, has_x, reduceIte, Bool.false_eq_true, hW, h1, h2, e1, e2, isWanted_x, isWanted_m]
      exact ⟨_, _, rfl, rfl, (hw i hi).2.2.2.1.symm, PR_want hn hi hc1 hc hP2, hr, hf, hx⟩
/-- back by a row -/
theorem undo_m {F u : Nat} (hF : 22 < F) (hu : u < 8) {t r : Nat → Int32} (h3 : t 3 = nI (u + 1)) : f_X5_undo F t r = some (t (96 + 22 * u), va_cpy (upd t 3 (nI u)) (upd t 3 (nI u)) (75 + 22 * u) 4 22, r) := by
  unfold f_X5_undo
  generalize ht' : upd t 3 (nI u) = t'
  have h3' : t' 3 = nI u := by rw [← ht', pk_us]
  have key := loopN (fun m k => f_X5_undo_b26 F m (nI k) (va_cpy t' t' (75 + 22 * u) 4 k) r) (some (t (96 + 22 * u), va_cpy t' t' (75 + 22 * u) 4 22, r)) 22 ?_ ?_ F hF
  · simp (disch := omega) only [chk_ix, chk_bo, cl_n, nI_add, pk_mul, pk_sub, nI_leI, nI_ltI, nI_eq, if_pos, if_neg, upd_e, pk_un, Option.bind_some, zlit, zlitL, within_x, in_m, has_x, reduceIte, Bool.false_eq_true, h3, Nat.add_sub_cancel]
    rw [ht']
    simpa only [cpy_0, z0n] using key
  · intro k m hk
    show f_X5_undo_b26 F (m + 1) (nI k) _ r = f_X5_undo_b26 F m (nI (k + 1)) _ r
    have hck : va_cpy t' t' (75 + 22 * u) 4 k 3 = nI u := (cpy_no (by omega)).trans h3'
    have e4 : va_cpy t' t' (75 + 22 * u) 4 k (75 + 22 * u + k) = t' (75 + 22 * u + k) := cpy_no (by omega)
    rw [f_X5_undo_b26]
    simp (disch := omega) only [chk_ix, chk_bo, cl_n, nI_add, pk_mul, pk_sub, nI_leI, nI_ltI, nI_eq, if_pos, if_neg, upd_e, pk_un, Option.bind_some, zlit, zlitL, within_x, in_m, has_x, reduceIte, Bool.false_eq_true, hck, e4]
    exact congrArg (fun z => f_X5_undo_b26 F m (nI (k + 1)) z r) (cpy_s _ _ _ _ _)
  · intro m
    show f_X5_undo_b26 F (m + 1) (nI 22) _ r = _
    rw [f_X5_undo_b26]
    have e25 : va_cpy t' t' (75 + 22 * u) 4 22 25 = t (96 + 22 * u) := by
      rw [cpy_at (i := 96 + 22 * u) (by omega) (by omega) (by omega), ← ht', pk_un (by omega)]
    simp (disch := omega) only [chk_ix, chk_bo, cl_n, nI_add, pk_mul, pk_sub, nI_leI, nI_ltI, nI_eq, if_pos, if_neg, upd_e, pk_un, Option.bind_some, zlit, zlitL, within_x, in_m, has_x, reduceIte, Bool.false_eq_true, e25]
theorem goBack_x {F u : Nat} (hu : u < 8) (past : Nat → Int32) (pr day : Int32) (wanted hours had due : Nat → Int32) : f_X1_goBack F past pr day (nI (u + 1)) wanted hours had due = some (past (22 * u), past (22 * u + 1), nI u, va_cpy past wanted (22 * u + 2) 0 5, va_cpy past hours (22 * u + 7) 0 5, va_cpy past had (22 * u + 12) 0 5, va_cpy past due (22 * u + 17) 0 5) := by
  unfold f_X1_goBack
  simp (disch := omega) only [chk_ix, chk_bo, cl_n, nI_add, pk_mul, pk_sub, nI_leI, nI_ltI, nI_eq, if_pos, if_neg, upd_e, pk_un, Option.bind_some, zlit, zlitL, within_x, in_m, has_x, reduceIte, Bool.false_eq_true, chk_cpo, Nat.add_sub_cancel, Nat.mul_comm u 22]
theorem PR_back {pr day wells lefts notes : Int32} {u : Nat} {kind wanted hours had due leftHour leftPressure note past told : Nat → Int32} (hu : u < 8) (h : PR pr day wells lefts notes (nI (u + 1)) kind wanted hours had due leftHour leftPressure note past told) :
    PR (past (22 * u)) (past (22 * u + 1)) wells lefts notes (nI u) kind (va_cpy past wanted (22 * u + 2) 0 5) (va_cpy past hours (22 * u + 7) 0 5) (va_cpy past had (22 * u + 12) 0 5) (va_cpy past due (22 * u + 17) 0 5) leftHour leftPressure note past (va_cpy (upd told 3 (nI u)) (upd told 3 (nI u)) (75 + 22 * u) 4 22) := by
  obtain ⟨n, nl, nn, nu, d, p, ⟨h1, h2, h3, h4, h5, h6, h7, h8, h9, h10, h11, h12⟩, ht, hw, hl, hno, hp⟩ := h
  obtain rfl : u + 1 = nu := (nI_eq (by omega) (by omega)).mp h7
  obtain ⟨⟨a, ea, ha⟩, ⟨b, eb, hb⟩, a3, a4, a5⟩ := hp u (by omega)
  refine ⟨n, nl, nn, u, b, a, ⟨h1, h2, h3, h4, h5, h6, rfl, by omega, eb, hb, ea, ha⟩, ?_, fun i hi => ?_, fun k hk => ?_, fun k hk => ?_, fun k hk => ?_⟩
  · refine ⟨?_, ?_, ?_, ?_, ?_, ?_⟩
    · rw [cpy_no (by omega), pk_un (by omega)]; exact ht.1
    · rw [cpy_no (by omega), pk_un (by omega)]; exact ht.2.1
    · rw [cpy_no (by omega), pk_un (by omega)]; exact ht.2.2.1
    · rw [cpy_no (by omega), pk_us]
    · rw [cpy_at (i := 95 + 22 * u) (by omega) (by omega) (by omega), pk_un (by omega)]; exact a3
    · rw [cpy_at (i := 96 + 22 * u) (by omega) (by omega) (by omega), pk_un (by omega)]; exact a4
  · obtain ⟨b1, b2, b3, -⟩ := hw i hi
    obtain ⟨c1, c2, c3, c4, c5⟩ := a5 i hi
    rw [cpy_at (f := past) (g := wanted) (i := 22 * u + 2 + i) (by omega) (by omega) (by omega), cpy_at (f := past) (g := hours) (i := 22 * u + 7 + i) (by omega) (by omega) (by omega), cpy_at (f := past) (g := had) (i := 22 * u + 12 + i) (by omega) (by omega) (by omega), cpy_at (f := past) (g := due) (i := 22 * u + 17 + i) (by omega) (by omega) (by omega)]
    refine ⟨b1, c1, ?_, ?_, ?_, ?_, ?_⟩
    · rw [cpy_no (by omega), pk_un (by omega)]; exact b3
    · rw [cpy_at (i := 90 + 22 * u + i) (by omega) (by omega) (by omega), pk_un (by omega)]; exact c2
    · rw [cpy_at (i := 85 + 22 * u + i) (by omega) (by omega) (by omega), pk_un (by omega)]; exact c3
    · rw [cpy_at (i := 75 + 22 * u + i) (by omega) (by omega) (by omega), pk_un (by omega)]; exact c4
    · rw [cpy_at (i := 80 + 22 * u + i) (by omega) (by omega) (by omega), pk_un (by omega)]; exact c5
  · rw [cpy_no (by omega), pk_un (by omega), cpy_no (by omega), pk_un (by omega)]
    exact hl k hk
  · refine ⟨(hno k hk).1, fun j hj => ?_⟩
    rw [cpy_no (by omega), pk_un (by omega)]
    exact (hno k hk).2 j hj
  · obtain ⟨a1, a2, a3, a4, a5⟩ := hp k (by omega)
    rw [cpy_no (by omega), pk_un (by omega), cpy_no (by omega), pk_un (by omega)]
    refine ⟨a1, a2, a3, a4, fun i hi => ?_⟩
    rw [cpy_no (by omega), pk_un (by omega), cpy_no (by omega), pk_un (by omega), cpy_no (by omega), pk_un (by omega), cpy_no (by omega), pk_un (by omega)]
    exact a5 i hi
theorem rs_undo : Rs_undo := by
  unfold Rs_undo
  intro x_above x_below x_bads x_nos x_fulls pressure day wells lefts notes undos kind wanted hours had due leftHour leftPressure note past len text m_above m_below m_bytesLong m_told m_refused m_bytes hR
  obtain ⟨hP, hr, hf, hx⟩ := id hR
  obtain ⟨n, nl, nn, nu, d, p, ⟨-, -, -, -, -, -, rfl, h8, -⟩, ht, -, -, -, hp⟩ := id hP
  rcases Nat.eq_zero_or_pos nu with rfl | hpos
  · unfold f_X4_undo f_X5_undo f_X4_no
    simp (disch := omega) only [chk_ix, chk_bo, cl_n, nI_add, pk_mul, pk_sub, nI_leI, nI_ltI, nI_eq, if_pos, if_neg, upd_e, pk_un, Option.bind_some, zlit, zlitL, within_x, in_m, has_x, reduceIte, Bool.false_eq_true, ht.2.2.2.1, no_m]
    exact ⟨_, _, rfl, rfl, rfl, Rel_no hR⟩
  · obtain ⟨u, rfl⟩ : ∃ u, nu = u + 1 := ⟨nu - 1, by omega⟩
    unfold f_X4_undo
    rw [undo_m (ltF (by omega)) (by omega) ht.2.2.2.1, goBack_x (by omega)]
    simp (disch := omega) only [chk_ix, chk_bo, cl_n, nI_add, pk_mul, pk_sub, nI_leI, nI_ltI, nI_eq, if_pos, if_neg, upd_e, pk_un, Option.bind_some, zlit, zlitL, within_x, in_m, has_x, reduceIte, Bool.false_eq_true, show u + 1 ≠ 0 by omega]
    exact ⟨_, _, rfl, rfl, (hp u (by omega)).2.2.2.1.symm, PR_back (by omega) hP, hr, hf, hx⟩

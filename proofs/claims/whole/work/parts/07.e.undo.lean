/-! PURE: what may be undone: remember and keep, goBack and undo; press, turn, want -/
theorem cpo_n {sp dp n n0 n1 : Nat} (h1 : sp + n ≤ n0) (h2 : dp + n ≤ n1) (h3 : n0 < 2 ^ 31) (h4 : n1 < 2 ^ 31) : cpo (nI sp) (nI dp) (nI n) n0 n1 = true := by
  refine decide_eq_true ⟨nI_pos (by omega), nI_pos (by omega), nI_pos (by omega), ?_, ?_⟩
  · rw [nI_clamp (by omega), nI_clamp (by omega)]; exact h1
  · rw [nI_clamp (by omega), nI_clamp (by omega)]; exact h2
theorem chk_cpo {α : Type} {sp dp n n0 n1 : Nat} {x : Option α} (h1 : sp + n ≤ n0) (h2 : dp + n ≤ n1) (h3 : n0 < 2 ^ 31) (h4 : n1 < 2 ^ 31) : chk (cpo (nI sp) (nI dp) (nI n) n0 n1) x = x := chk_t (cpo_n h1 h2 h3 h4)
theorem cpy_0 (f g : Nat → Int32) (sp dp : Nat) : va_cpy f g sp dp 0 = g := by
  funext j; exact if_neg (by omega)
theorem cpy_s (f g : Nat → Int32) (sp dp k : Nat) : upd (va_cpy f g sp dp k) (dp + k) (f (sp + k)) = va_cpy f g sp dp (k + 1) := by
  funext j
  unfold upd va_cpy
  by_cases h : j = dp + k
  · rw [if_pos h, if_pos (by omega), h, show dp + k - dp = k by omega]
  · rw [if_neg h]
    by_cases h2 : dp ≤ j ∧ j < dp + k
    · rw [if_pos h2, if_pos (by omega)]
    · rw [if_neg h2, if_neg (by omega)]
theorem cpy_at {f g : Nat → Int32} {sp dp n j i : Nat} (h1 : dp ≤ j) (h2 : j < dp + n) (h3 : sp + (j - dp) = i) : va_cpy f g sp dp n j = f i := by
  rw [pk_cpy_in h1 h2, h3]
theorem cpy_no {f g : Nat → Int32} {sp dp n j : Nat} (h : ¬ (dp ≤ j ∧ j < dp + n)) : va_cpy f g sp dp n j = g j := if_neg h
theorem keep52_m {F u : Nat} (hF : 22 < F) (hu : u < 8) {t : Nat → Int32} (h3 : t 3 = nI u) : f_X5_keep_b52 F t = some (upd (va_cpy t t 4 (75 + 22 * u) 22) 3 (nI (u + 1))) := by
  unfold f_X5_keep_b52
  have key := loopN (fun m k => f_X5_keep_b54 F m (nI k) (va_cpy t t 4 (75 + 22 * u) k)) (some (upd (va_cpy t t 4 (75 + 22 * u) 22) 3 (nI (u + 1)))) 22 ?_ ?_ F hF
  · simpa only [cpy_0, z0n] using key
  · intro k m hk
    show f_X5_keep_b54 F (m + 1) (nI k) _ = f_X5_keep_b54 F m (nI (k + 1)) _
    have e3 : va_cpy t t 4 (75 + 22 * u) k 3 = nI u := (cpy_no (by omega)).trans h3
    have e4 : va_cpy t t 4 (75 + 22 * u) k (4 + k) = t (4 + k) := cpy_no (by omega)
    rw [f_X5_keep_b54]
    simp (disch := omega) only [chk_ix, chk_bo, cl_n, nI_add, pk_mul, pk_sub, nI_leI, nI_ltI, nI_eq, if_pos, if_neg, upd_e, pk_un, Option.bind_some, zlit, zlitL, within_x, in_m, has_x, reduceIte, Bool.false_eq_true, e3, e4]
    exact congrArg (f_X5_keep_b54 F m (nI (k + 1))) (cpy_s _ _ _ _ _)
  · intro m
    show f_X5_keep_b54 F (m + 1) (nI 22) _ = _
    have e3 : va_cpy t t 4 (75 + 22 * u) 22 3 = nI u := (cpy_no (by omega)).trans h3
    rw [f_X5_keep_b54]
    simp (disch := omega) only [chk_ix, chk_bo, cl_n, nI_add, pk_mul, pk_sub, nI_leI, nI_ltI, nI_eq, if_pos, if_neg, upd_e, pk_un, Option.bind_some, zlit, zlitL, within_x, in_m, has_x, reduceIte, Bool.false_eq_true, e3]
theorem keep_m {F u : Nat} (hF : 200 < F) (hu : u < 8) {t : Nat → Int32} (h3 : t 3 = nI u) : f_X5_keep F t = some (upd (va_cpy t t 4 (75 + 22 * u) 22) 3 (nI (u + 1))) := by
  unfold f_X5_keep
  rw [← keep52_m (F := F) (by omega) hu h3]
  simp (disch := omega) only [chk_ix, chk_bo, cl_n, nI_add, pk_mul, pk_sub, nI_leI, nI_ltI, nI_eq, if_pos, if_neg, upd_e, pk_un, Option.bind_some, zlit, zlitL, within_x, in_m, has_x, reduceIte, Bool.false_eq_true, h3]
theorem keep8_m {F : Nat} (hF : 200 < F) {t : Nat → Int32} (h3 : t 3 = nI 8) : f_X5_keep F t = some (upd (va_cpy (upd (va_cpy t t 97 75 154) 3 (nI 7)) (upd (va_cpy t t 97 75 154) 3 (nI 7)) 4 (75 + 22 * 7) 22) 3 (nI 8)) := by
  unfold f_X5_keep
  rw [← keep52_m (F := F) (u := 7) (t := upd (va_cpy t t 97 75 154) 3 (nI 7)) (by omega) (by omega) rfl]
  have key := loopN (fun m k => f_X5_keep_b13 F (f_X5_keep_b52 F) m (nI k) (va_cpy t t 97 75 k)) (f_X5_keep_b52 F (upd (va_cpy t t 97 75 154) 3 (nI 7))) 154 ?_ ?_ F (by omega)
  · simp (disch := omega) only [chk_ix, chk_bo, cl_n, nI_add, pk_mul, pk_sub, nI_leI, nI_ltI, nI_eq, if_pos, if_neg, upd_e, pk_un, Option.bind_some, zlit, zlitL, within_x, in_m, has_x, reduceIte, Bool.false_eq_true, h3]
    simpa only [cpy_0, z0n] using key
  · intro k m hk
    show f_X5_keep_b13 F (f_X5_keep_b52 F) (m + 1) (nI k) _ = f_X5_keep_b13 F (f_X5_keep_b52 F) m (nI (k + 1)) _
    have e4 : va_cpy t t 97 75 k (97 + k) = t (97 + k) := cpy_no (by omega)
    rw [f_X5_keep_b13]
    simp (disch := omega) only [chk_ix, chk_bo, cl_n, nI_add, pk_mul, pk_sub, nI_leI, nI_ltI, nI_eq, if_pos, if_neg, upd_e, pk_un, Option.bind_some, zlit, zlitL, within_x, in_m, has_x, reduceIte, Bool.false_eq_true, e4]
    exact congrArg (f_X5_keep_b13 F (f_X5_keep_b52 F) m (nI (k + 1))) (cpy_s _ _ _ _ _)
  · intro m
    show f_X5_keep_b13 F (f_X5_keep_b52 F) (m + 1) (nI 154) _ = _
    rw [f_X5_keep_b13]
    try simp (disch := omega) only [chk_ix, chk_bo, cl_n, nI_add, pk_mul, pk_sub, nI_leI, nI_ltI, nI_eq, if_pos, if_neg, upd_e, pk_un, Option.bind_some, zlit, zlitL, within_x, in_m, has_x, reduceIte, Bool.false_eq_true]
def rowP (u : Nat) (pr day : Int32) (wanted hours had due past : Nat → Int32) : Nat → Int32 := va_cpy due (va_cpy had (va_cpy hours (va_cpy wanted (upd (upd past (22 * u) pr) (22 * u + 1) day) 0 (22 * u + 2) 5) 0 (22 * u + 7) 5) 0 (22 * u + 12) 5) 0 (22 * u + 17) 5
theorem remember36_x {F u : Nat} (hu : u < 8) (pr day : Int32) (wanted hours had due past : Nat → Int32) : f_X1_remember_b36 F pr day wanted hours had due (nI u) past = some (nI (u + 1), rowP u pr day wanted hours had due past) := by
  unfold f_X1_remember_b36 rowP
  simp (disch := omega) only [chk_ix, chk_bo, cl_n, nI_add, pk_mul, pk_sub, nI_leI, nI_ltI, nI_eq, if_pos, if_neg, upd_e, pk_un, Option.bind_some, zlit, zlitL, within_x, in_m, has_x, reduceIte, Bool.false_eq_true, chk_cpo, Nat.mul_comm u 22]
theorem remember_x {F u : Nat} (hu : u < 8) (pr day : Int32) (wanted hours had due past : Nat → Int32) : f_X1_remember F pr day wanted hours had due (nI u) past = some (nI (u + 1), rowP u pr day wanted hours had due past) := by
  unfold f_X1_remember
  simp (disch := omega) only [chk_ix, chk_bo, cl_n, nI_add, pk_mul, pk_sub, nI_leI, nI_ltI, nI_eq, if_pos, if_neg, upd_e, pk_un, Option.bind_some, zlit, zlitL, within_x, in_m, has_x, reduceIte, Bool.false_eq_true, remember36_x hu]
theorem remember8_x {F : Nat} (pr day : Int32) (wanted hours had due past : Nat → Int32) : f_X1_remember F pr day wanted hours had due (nI 8) past = some (nI 8, rowP 7 pr day wanted hours had due (va_cpy past past 22 0 154)) := by
  unfold f_X1_remember
  simp (disch := omega) only [chk_ix, chk_bo, cl_n, nI_add, pk_mul, pk_sub, nI_leI, nI_ltI, nI_eq, if_pos, if_neg, upd_e, pk_un, Option.bind_some, zlit, zlitL, within_x, in_m, has_x, reduceIte, Bool.false_eq_true, chk_cpo, remember36_x (F := F) (u := 7) (show 7 < 8 by omega)]
/-- the places of a row -/
theorem rowP_old {u k : Nat} {pr day : Int32} {wanted hours had due past : Nat → Int32} (h : k < 22 * u) : rowP u pr day wanted hours had due past k = past k := by
  unfold rowP
  rw [cpy_no (by omega), cpy_no (by omega), cpy_no (by omega), cpy_no (by omega), pk_un (by omega), pk_un (by omega)]
theorem rowP_0 {u : Nat} {pr day : Int32} {wanted hours had due past : Nat → Int32} : rowP u pr day wanted hours had due past (22 * u) = pr := by
  unfold rowP
  rw [cpy_no (by omega), cpy_no (by omega), cpy_no (by omega), cpy_no (by omega), pk_un (by omega), pk_us]
theorem rowP_1 {u : Nat} {pr day : Int32} {wanted hours had due past : Nat → Int32} : rowP u pr day wanted hours had due past (22 * u + 1) = day := by
  unfold rowP
  rw [cpy_no (by omega), cpy_no (by omega), cpy_no (by omega), cpy_no (by omega), pk_us]
theorem rowP_2 {u i : Nat} (hi : i < 5) {pr day : Int32} {wanted hours had due past : Nat → Int32} : rowP u pr day wanted hours had due past (22 * u + 2 + i) = wanted i := by
  unfold rowP
  rw [cpy_no (by omega), cpy_no (by omega), cpy_no (by omega), cpy_at (i := i) (by omega) (by omega) (by omega)]
theorem rowP_7 {u i : Nat} (hi : i < 5) {pr day : Int32} {wanted hours had due past : Nat → Int32} : rowP u pr day wanted hours had due past (22 * u + 7 + i) = hours i := by
  unfold rowP
  rw [cpy_no (by omega), cpy_no (by omega), cpy_at (i := i) (by omega) (by omega) (by omega)]
theorem rowP_12 {u i : Nat} (hi : i < 5) {pr day : Int32} {wanted hours had due past : Nat → Int32} : rowP u pr day wanted hours had due past (22 * u + 12 + i) = had i := by
  unfold rowP
  rw [cpy_no (by omega), cpy_at (i := i) (by omega) (by omega) (by omega)]
theorem rowP_17 {u i : Nat} (hi : i < 5) {pr day : Int32} {wanted hours had due past : Nat → Int32} : rowP u pr day wanted hours had due past (22 * u + 17 + i) = due i := by
  unfold rowP
  rw [cpy_at (i := i) (by omega) (by omega) (by omega)]
/-- one more row, where there is room -/
theorem PR_keep1 {pr day wells lefts notes : Int32} {u : Nat} {kind wanted hours had due leftHour leftPressure note past told : Nat → Int32} (hu : u < 8) (h : PR pr day wells lefts notes (nI u) kind wanted hours had due leftHour leftPressure note past told) :
    PR pr day wells lefts notes (nI (u + 1)) kind wanted hours had due leftHour leftPressure note (rowP u pr day wanted hours had due past) (upd (va_cpy told told 4 (75 + 22 * u) 22) 3 (nI (u + 1))) := by
  obtain ⟨n, nl, nn, nu, d, p, ⟨h1, h2, h3, h4, h5, h6, h7, h8, h9, h10, h11, h12⟩, ht, hw, hl, hno, hp⟩ := h
  obtain rfl : u = nu := (nI_eq (by omega) (by omega)).mp h7
  refine ⟨n, nl, nn, u + 1, d, p, ⟨h1, h2, h3, h4, h5, h6, rfl, by omega, h9, h10, h11, h12⟩, ?_, fun i hi => ?_, fun k hk => ?_, fun k hk => ?_, fun k hk => ?_⟩
  · refine ⟨?_, ?_, ?_, pk_us, ?_, ?_⟩
    · rw [pk_un (by omega), cpy_no (by omega)]; exact ht.1
    · rw [pk_un (by omega), cpy_no (by omega)]; exact ht.2.1
    · rw [pk_un (by omega), cpy_no (by omega)]; exact ht.2.2.1
    · rw [pk_un (by omega), cpy_no (by omega)]; exact ht.2.2.2.2.1
    · rw [pk_un (by omega), cpy_no (by omega)]; exact ht.2.2.2.2.2
  · rw [pk_un (by omega), cpy_no (by omega), pk_un (by omega), cpy_no (by omega), pk_un (by omega), cpy_no (by omega), pk_un (by omega), cpy_no (by omega), pk_un (by omega), cpy_no (by omega)]
    exact hw i hi
  · rw [pk_un (by omega), cpy_no (by omega), pk_un (by omega), cpy_no (by omega)]
    exact hl k hk
  · refine ⟨(hno k hk).1, fun j hj => ?_⟩
    rw [pk_un (by omega), cpy_no (by omega)]
    exact (hno k hk).2 j hj
  · rcases Nat.lt_or_ge k u with q | q
    · obtain ⟨a1, a2, a3, a4, a5⟩ := hp k q
      rw [rowP_old (by omega), rowP_old (by omega), pk_un (by omega), cpy_no (by omega), pk_un (by omega), cpy_no (by omega)]
      refine ⟨a1, a2, a3, a4, fun i hi => ?_⟩
      rw [rowP_old (by omega), rowP_old (by omega), rowP_old (by omega), rowP_old (by omega), pk_un (by omega), cpy_no (by omega), pk_un (by omega), cpy_no (by omega), pk_un (by omega), cpy_no (by omega), pk_un (by omega), cpy_no (by omega)]
      exact a5 i hi
    · obtain rfl : k = u := by omega
      rw [rowP_0, rowP_1, pk_un (by omega), cpy_at (i := 24) (by omega) (by omega) (by omega), pk_un (by omega), cpy_at (i := 25) (by omega) (by omega) (by omega)]
      refine ⟨⟨p, h11, h12⟩, ⟨d, h9, h10⟩, ht.2.2.2.2.1, ht.2.2.2.2.2, fun i hi => ?_⟩
      obtain ⟨-, b1, b2, b3, b4, b5, b6⟩ := hw i hi
      rw [rowP_2 (by omega), rowP_7 (by omega), rowP_12 (by omega), rowP_17 (by omega)]
      refine ⟨b1, ?_, ?_, ?_, ?_⟩
      · rw [pk_un (by omega), cpy_at (i := 19 + i) (by omega) (by omega) (by omega)]; exact b3
      · rw [pk_un (by omega), cpy_at (i := 14 + i) (by omega) (by omega) (by omega)]; exact b4
      · rw [pk_un (by omega), cpy_at (i := 4 + i) (by omega) (by omega) (by omega)]; exact b5
      · rw [pk_un (by omega), cpy_at (i := 9 + i) (by omega) (by omega) (by omega)]; exact b6
/-- the eldest row goes -/
theorem PR_drop {pr day wells lefts notes : Int32} {kind wanted hours had due leftHour leftPressure note past told : Nat → Int32} (h : PR pr day wells lefts notes (nI 8) kind wanted hours had due leftHour leftPressure note past told) :
    PR pr day wells lefts notes (nI 7) kind wanted hours had due leftHour leftPressure note (va_cpy past past 22 0 154) (upd (va_cpy told told 97 75 154) 3 (nI 7)) := by
  obtain ⟨n, nl, nn, nu, d, p, ⟨h1, h2, h3, h4, h5, h6, h7, h8, h9, h10, h11, h12⟩, ht, hw, hl, hno, hp⟩ := h
  obtain rfl : 8 = nu := (nI_eq (by omega) (by omega)).mp h7
  refine ⟨n, nl, nn, 7, d, p, ⟨h1, h2, h3, h4, h5, h6, rfl, by omega, h9, h10, h11, h12⟩, ?_, fun i hi => ?_, fun k hk => ?_, fun k hk => ?_, fun k hk => ?_⟩
  · refine ⟨?_, ?_, ?_, pk_us, ?_, ?_⟩
    · rw [pk_un (by omega), cpy_no (by omega)]; exact ht.1
    · rw [pk_un (by omega), cpy_no (by omega)]; exact ht.2.1
    · rw [pk_un (by omega), cpy_no (by omega)]; exact ht.2.2.1
    · rw [pk_un (by omega), cpy_no (by omega)]; exact ht.2.2.2.2.1
    · rw [pk_un (by omega), cpy_no (by omega)]; exact ht.2.2.2.2.2
  · rw [pk_un (by omega), cpy_no (by omega), pk_un (by omega), cpy_no (by omega), pk_un (by omega), cpy_no (by omega), pk_un (by omega), cpy_no (by omega), pk_un (by omega), cpy_no (by omega)]
    exact hw i hi
  · rw [pk_un (by omega), cpy_no (by omega), pk_un (by omega), cpy_no (by omega)]
    exact hl k hk
  · refine ⟨(hno k hk).1, fun j hj => ?_⟩
    rw [pk_un (by omega), cpy_no (by omega)]
    exact (hno k hk).2 j hj
  · obtain ⟨a1, a2, a3, a4, a5⟩ := hp (k + 1) (by omega)
    rw [cpy_at (i := 22 * (k + 1)) (by omega) (by omega) (by omega), cpy_at (i := 22 * (k + 1) + 1) (by omega) (by omega) (by omega), pk_un (by omega), cpy_at (i := 95 + 22 * (k + 1)) (by omega) (by omega) (by omega), pk_un (by omega), cpy_at (i := 96 + 22 * (k + 1)) (by omega) (by omega) (by omega)]
    refine ⟨a1, a2, a3, a4, fun i hi => ?_⟩
    rw [cpy_at (i := 22 * (k + 1) + 2 + i) (by omega) (by omega) (by omega), cpy_at (i := 22 * (k + 1) + 7 + i) (by omega) (by omega) (by omega), cpy_at (i := 22 * (k + 1) + 12 + i) (by omega) (by omega) (by omega), cpy_at (i := 22 * (k + 1) + 17 + i) (by omega) (by omega) (by omega),
      pk_un (by omega), cpy_at (i := 90 + 22 * (k + 1) + i) (by omega) (by omega) (by omega), pk_un (by omega), cpy_at (i := 85 + 22 * (k + 1) + i) (by omega) (by omega) (by omega), pk_un (by omega), cpy_at (i := 75 + 22 * (k + 1) + i) (by omega) (by omega) (by omega), pk_un (by omega), cpy_at (i := 80 + 22 * (k + 1) + i) (by omega) (by omega) (by omega)]
    exact a5 i hi
/-- remember and keep -/
theorem PR_keep {F : Nat} (hF : 200 < F) {pr day wells lefts notes undos : Int32} {kind wanted hours had due leftHour leftPressure note past told : Nat → Int32} (h : PR pr day wells lefts notes undos kind wanted hours had due leftHour leftPressure note past told) :
    ∃ (u' : Int32) (past' told' : Nat → Int32), f_X1_remember F pr day wanted hours had due undos past = some (u', past') ∧ f_X5_keep F told = some told' ∧ PR pr day wells lefts notes u' kind wanted hours had due leftHour leftPressure note past' told' := by
  obtain ⟨n, nl, nn, nu, d, p, ⟨-, -, -, -, -, -, rfl, h8, -⟩, ht, -⟩ := id h
  rcases Nat.lt_or_ge nu 8 with q | q
  · exact ⟨_, _, _, remember_x q _ _ _ _ _ _ _, keep_m hF q ht.2.2.2.1, PR_keep1 q h⟩
  · obtain rfl : nu = 8 := by omega
    exact ⟨_, _, _, remember8_x _ _ _ _ _ _ _, keep8_m hF ht.2.2.2.1, PR_keep1 (by omega) (PR_drop h)⟩

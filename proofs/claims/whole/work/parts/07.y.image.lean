/-! PURE: image, from -/
/-- what binds is within the arrays -/
theorem PR_arr {pr day wells lefts notes undos : Int32} {kind wanted hours had due leftHour leftPressure note past told kind' wanted' hours' had' due' leftHour' leftPressure' note' past' : Nat → Int32} (h : PR pr day wells lefts notes undos kind wanted hours had due leftHour leftPressure note past told)
    (e1 : ∀ i, i < 5 → kind' i = kind i) (e2 : ∀ i, i < 5 → wanted' i = wanted i) (e3 : ∀ i, i < 5 → hours' i = hours i) (e4 : ∀ i, i < 5 → had' i = had i) (e5 : ∀ i, i < 5 → due' i = due i) (e6 : ∀ i, i < 4 → leftHour' i = leftHour i) (e7 : ∀ i, i < 4 → leftPressure' i = leftPressure i) (e8 : ∀ i, i < 36 → note' i = note i) (e9 : ∀ i, i < 176 → past' i = past i) :
    PR pr day wells lefts notes undos kind' wanted' hours' had' due' leftHour' leftPressure' note' past' told := by
  obtain ⟨n, nl, nn, nu, d, p, h0, ht, hw, hl, hno, hp⟩ := h
  obtain ⟨h1, h2, h3, h4, h5, h6, h7, h8, h9, h10, h11, h12⟩ := id h0
  refine ⟨n, nl, nn, nu, d, p, h0, ht, fun i hi => ?_, fun k hk => ?_, fun k hk => ⟨?_, fun j hj => ?_⟩, fun k hk => ?_⟩
  · rw [e1 i (by omega), e2 i (by omega), e3 i (by omega), e4 i (by omega), e5 i (by omega)]
    exact hw i hi
  · rw [e6 k (by omega), e7 k (by omega)]
    exact hl k hk
  · rw [e8 _ (by omega)]
    exact (hno k hk).1
  · rw [e8 _ (by omega)]
    exact (hno k hk).2 j hj
  · obtain ⟨a1, a2, a3, a4, a5⟩ := hp k hk
    rw [e9 (22 * k) (by omega), e9 (22 * k + 1) (by omega)]
    refine ⟨a1, a2, a3, a4, fun i hi => ?_⟩
    rw [e9 (22 * k + 2 + i) (by omega), e9 (22 * k + 7 + i) (by omega), e9 (22 * k + 12 + i) (by omega), e9 (22 * k + 17 + i) (by omega)]
    exact a5 i hi
theorem cpyAll {f g : Nat → Int32} {n j : Nat} (h : j < n) : va_cpy f g 0 0 n j = f j := cpy_at (i := j) (by omega) (by omega) (by omega)
theorem copy_x (F : Nat) {pr day wells lefts notes undos : Int32} {kind wanted hours had due leftHour leftPressure note past told : Nat → Int32} (h : PR pr day wells lefts notes undos kind wanted hours had due leftHour leftPressure note past told) (zpr zday zwells zlefts znotes zundos : Int32) (zkind zwanted zhours zhad zdue zleftHour zleftPressure znote zpast : Nat → Int32) :
    ∃ oc : Int32 × Int32 × Int32 × Int32 × Int32 × Int32 × (Nat → Int32) × (Nat → Int32) × (Nat → Int32) × (Nat → Int32) × (Nat → Int32) × (Nat → Int32) × (Nat → Int32) × (Nat → Int32) × (Nat → Int32), f_X1_copyFrom F pr day wells lefts notes undos kind wanted hours had due leftHour leftPressure note past zpr zday zwells zlefts znotes zundos zkind zwanted zhours zhad zdue zleftHour zleftPressure znote zpast = some oc ∧
      PR oc.1 oc.2.1 oc.2.2.1 oc.2.2.2.1 oc.2.2.2.2.1 oc.2.2.2.2.2.1 oc.2.2.2.2.2.2.1 oc.2.2.2.2.2.2.2.1 oc.2.2.2.2.2.2.2.2.1 oc.2.2.2.2.2.2.2.2.2.1 oc.2.2.2.2.2.2.2.2.2.2.1 oc.2.2.2.2.2.2.2.2.2.2.2.1 oc.2.2.2.2.2.2.2.2.2.2.2.2.1 oc.2.2.2.2.2.2.2.2.2.2.2.2.2.1 oc.2.2.2.2.2.2.2.2.2.2.2.2.2.2 told := by
  unfold f_X1_copyFrom
  rw [chk_t (by decide), chk_t (by decide), chk_t (by decide), chk_t (by decide), chk_t (by decide), chk_t (by decide), chk_t (by decide), chk_t (by decide), chk_t (by decide)]
  refine ⟨_, rfl, ?_⟩
  exact PR_arr h (fun i hi => cpyAll hi) (fun i hi => cpyAll hi) (fun i hi => cpyAll hi) (fun i hi => cpyAll hi) (fun i hi => cpyAll hi) (fun i hi => cpyAll hi) (fun i hi => cpyAll hi) (fun i hi => cpyAll hi) (fun i hi => cpyAll hi)
theorem image19_m {F ii : Nat} (hF : 300 < F) (hii : ii < 2) (told rf kf kept : Nat → Int32) :
    f_X5_image_b19 F (nI ii) told F 0 rf kf kept = some (1, rf, upd kf ii (vp_nar .boolean 1), va_cpy told kept 0 (251 * ii) 251) := by
  have key := loopN (fun m k => f_X5_image_b19 F (nI ii) told m (nI k) rf kf (va_cpy told kept 0 (251 * ii) k)) (some (1, rf, upd kf ii (vp_nar .boolean 1), va_cpy told kept 0 (251 * ii) 251)) 251 ?_ ?_ F (by omega)
  · simpa only [cpy_0, z0n] using key
  · intro k m hk
    show f_X5_image_b19 F (nI ii) told (m + 1) (nI k) rf kf (va_cpy told kept 0 (251 * ii) k) = f_X5_image_b19 F (nI ii) told m (nI (k + 1)) rf kf (va_cpy told kept 0 (251 * ii) (k + 1))
    have := cpy_s told kept 0 (251 * ii) k
    rw [Nat.zero_add] at this
    rw [f_X5_image_b19, if_neg (show ¬ (251 : Int32) ≤ nI k from nI_ge (b := 251) hk (by omega)), show (251 : Int32) * nI ii = nI (251 * ii) from pk_mul 251 ii, nI_add, chk_t (ix_n hk (by omega)), chk_t (ix_n (by omega) (by omega)), cl_n (show k < 2 ^ 31 by omega), cl_n (show 251 * ii + k < 2 ^ 31 by omega), nI_1, this]
  · intro m
    show f_X5_image_b19 F (nI ii) told (m + 1) (nI 251) rf kf _ = _
    rw [f_X5_image_b19, if_pos (show (251 : Int32) ≤ nI 251 by decide), chk_t (ix_n hii (by omega)), cl_n (by omega)]
theorem from33_m {F ii : Nat} (hF : 300 < F) (hii : ii < 2) (kf kept rf told : Nat → Int32) :
    f_X5_from_b33 F (nI ii) kf kept F 0 rf told = some (1, rf, va_cpy kept told (251 * ii) 0 251) := by
  have key := loopN (fun m k => f_X5_from_b33 F (nI ii) kf kept m (nI k) rf (va_cpy kept told (251 * ii) 0 k)) (some (1, rf, va_cpy kept told (251 * ii) 0 251)) 251 ?_ ?_ F (by omega)
  · simpa only [cpy_0, z0n] using key
  · intro k m hk
    show f_X5_from_b33 F (nI ii) kf kept (m + 1) (nI k) rf (va_cpy kept told (251 * ii) 0 k) = f_X5_from_b33 F (nI ii) kf kept m (nI (k + 1)) rf (va_cpy kept told (251 * ii) 0 (k + 1))
    have := cpy_s kept told (251 * ii) 0 k
    rw [Nat.zero_add] at this
    rw [f_X5_from_b33, if_neg (show ¬ (251 : Int32) ≤ nI k from nI_ge (b := 251) hk (by omega)), show (251 : Int32) * nI ii = nI (251 * ii) from pk_mul 251 ii, nI_add, chk_t (ix_n (by omega) (by omega)), chk_t (ix_n hk (by omega)), cl_n (show k < 2 ^ 31 by omega), cl_n (show 251 * ii + k < 2 ^ 31 by omega), nI_1, this]
  · intro m
    show f_X5_from_b33 F (nI ii) kf kept (m + 1) (nI 251) rf _ = _
    rw [f_X5_from_b33, if_pos (show (251 : Int32) ≤ nI 251 by decide)]
theorem rs_image : Rs_image := by
  unfold Rs_image
  intro x_above x_below x_bads x_nos x_fulls pressure day wells lefts notes undos kind wanted hours had due leftHour leftPressure note past len text m_above m_below m_bytesLong m_told m_refused m_bytes m_isKept m_kept a1 hR
  obtain ⟨hP, hr, hf, hx⟩ := id hR
  have q1 := within_x FU a1 (a := 0) (b := 1) (by omega) (by omega)
  have q2 := in_m FU a1 (a := 0) (b := 1) (by omega) (by omega)
  cases h1 : rgb 0 1 a1 with
  | false =>
    rw [h1] at q1 q2
    refine Or.inl ⟨nI 0, _, (-2, upd m_refused 0 (m_refused 0 + 1), m_isKept, m_kept), q1, rfl, rfl, ?_, rfl, rfl, rfl, Rel_bad hR⟩
    unfold f_X5_image
    rw [show f_X5_in FU a1.toInt64 0 1 = _ from q2, Option.bind_some, if_neg (show ¬ false = true by decide), if_pos (show nI 0 = (0 : Int32) from rfl), bad_m, Option.bind_some]
  | true =>
    obtain ⟨ii, -, hii, rfl⟩ := rg_of h1 (by omega)
    rw [h1, if_pos rfl] at q1 q2
    refine Or.inr ⟨ii, by omega, rfl, nI 1, (1, m_refused, upd m_isKept ii (vp_nar .boolean 1), va_cpy m_told m_kept 0 (251 * ii) 251), q1, ne1, ?_, rfl, rfl, ?_, fun k hk => pk_un hk, fun k hk => cpy_no (by omega), fun zpr zday zwells zlefts znotes zundos zkind zwanted zhours zhad zdue zleftHour zleftPressure znote zpast => ?_⟩
    · unfold f_X5_image
      rw [show f_X5_in FU (nI ii).toInt64 0 1 = _ from q2, Option.bind_some, if_neg ne1, image19_m (ltF (by omega)) (by omega)]
    · show upd m_isKept ii (vp_nar .boolean 1) ii = 1
      rw [pk_us]
      decide
    · refine copy_x FU (hP.cong (t' := fun k => va_cpy m_told m_kept 0 (251 * ii) 251 (251 * ii + k)) (fun k hk => ?_)) zpr zday zwells zlefts znotes zundos zkind zwanted zhours zhad zdue zleftHour zleftPressure znote zpast
      exact cpy_at (i := k) (by omega) (by omega) (by omega)
theorem rs_from : Rs_from := by
  unfold Rs_from
  intro x_above x_below x_bads x_nos x_fulls pressure day wells lefts notes undos kind wanted hours had due leftHour leftPressure note past len text m_above m_below m_bytesLong m_told m_refused m_bytes m_isKept m_kept a1 hR
  obtain ⟨hP, hr, hf, hx⟩ := id hR
  have q1 := within_x FU a1 (a := 0) (b := 1) (by omega) (by omega)
  have q2 := in_m FU a1 (a := 0) (b := 1) (by omega) (by omega)
  cases h1 : rgb 0 1 a1 with
  | false =>
    rw [h1] at q1 q2
    refine Or.inl ⟨nI 0, _, (-2, upd m_refused 0 (m_refused 0 + 1), m_told), q1, rfl, rfl, ?_, rfl, Rel_bad hR⟩
    unfold f_X5_from
    rw [show f_X5_in FU a1.toInt64 0 1 = _ from q2, Option.bind_some, if_neg (show ¬ false = true by decide), if_pos (show nI 0 = (0 : Int32) from rfl), bad_m, Option.bind_some]
  | true =>
    obtain ⟨ii, -, hii, rfl⟩ := rg_of h1 (by omega)
    rw [h1, if_pos rfl] at q1 q2
    refine Or.inr ⟨ii, by omega, rfl, nI 1, q1, ne1, fun hk => ?_, fun hk zpr zday zwells zlefts znotes zundos zkind zwanted zhours zhad zdue zleftHour zleftPressure znote zpast hz => ?_⟩
    · refine ⟨_, (-3, upd m_refused 1 (m_refused 1 + 1), m_told), rfl, ?_, rfl, Rel_no hR⟩
      unfold f_X5_from
      rw [show f_X5_in FU (nI ii).toInt64 0 1 = _ from q2, Option.bind_some, if_neg ne1, chk_t (ix_n (by omega) (by omega)), cl_n (by omega), if_pos hk, no_m, Option.bind_some]
    · obtain ⟨oc, e1, e2⟩ := copy_x FU hz pressure day wells lefts notes undos kind wanted hours had due leftHour leftPressure note past
      refine ⟨oc, (1, m_refused, va_cpy m_kept m_told (251 * ii) 0 251), e1, ?_, rfl, ?_⟩
      · unfold f_X5_from
        rw [show f_X5_in FU (nI ii).toInt64 0 1 = _ from q2, Option.bind_some, if_neg ne1, chk_t (ix_n (by omega) (by omega)), cl_n (by omega), if_neg (by rw [hk]; decide), from33_m (ltF (by omega)) (by omega)]
      · exact ⟨e2.cong (t' := va_cpy m_kept m_told (251 * ii) 0 251) (fun k hk => cpy_at (i := 251 * ii + k) (by omega) (by omega) (by omega)), hr, hf, hx⟩

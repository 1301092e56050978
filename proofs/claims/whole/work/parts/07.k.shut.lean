/-! PURE: shut, years -/
theorem every_but {n a j : Nat} (hn : n ≤ 5) (hj : j < n) (x y : Int32) : bt (x &&& ((((1 : Int32) <<< (nI n &&& 31)) - 1) &&& y)) j = bt (x &&& y) j := by
  have h := every_bt hn hj (-1)
  rw [b_and, b_m1 j (by omega), Bool.true_and] at h
  rw [b_and, b_and, h, Bool.true_and, b_and]
theorem shut_eq {F n a : Nat} (hF : 200 < F) (hn : n ≤ 5) (ha : a < n) {pr : Int32} {K Q H told : Nat → Int32} (h0 : told 0 = nI n) (h24 : told 24 = pr) (hw : ∀ j, j < n → told (26 + j) = K j ∧ told (19 + j) = Q j ∧ told (14 + j) = H j) (bads : Int32) (m_refused : Nat → Int32) :
    ∀ r k m1 m2 v w l0 ahead gets lb dg dd ah ge, k + r = n → r < m1 → r < m2 →
    ∃ (ox : Int32 × Int32 × Int32 × (Nat → Int32) × (Nat → Int32)) (om : Int32 × Int32 × (Nat → Int32) × (Nat → Int32) × (Nat → Int32) × (Nat → Int32) × (Nat → Int32)),
      f_X4_shut_b37 F (nI a) pr (nI n) H K Q m1 v w (nI k) bads l0 ahead gets = some ox ∧ f_X5_shut_b43 F (nI a) told m2 w v (nI k) lb dg dd ah ge m_refused = some om ∧ ox.1 = om.1 ∧ ox.2.1 = bads ∧ om.2.2.2.2.2.2 = m_refused := by
  intro r
  induction r with
  | zero =>
    intro k m1 m2 v w l0 ahead gets lb dg dd ah ge e h1 h2
    obtain ⟨m1, rfl⟩ : ∃ q, m1 = q + 1 := ⟨m1 - 1, by omega⟩
    obtain ⟨m2, rfl⟩ : ∃ q, m2 = q + 1 := ⟨m2 - 1, by omega⟩
    obtain rfl : k = n := by omega
    rw [f_X4_shut_b37, if_pos (nI_le (Nat.le_refl _) (by omega)), f_X5_shut_b43, many_m, Option.bind_some, h0, if_pos (nI_le (Nat.le_refl _) (by omega))]
    exact ⟨_, _, rfl, rfl, rfl, rfl, rfl⟩
  | succ r ih =>
    intro k m1 m2 v w l0 ahead gets lb dg dd ah ge e h1 h2
    obtain ⟨m1, rfl⟩ : ∃ q, m1 = q + 1 := ⟨m1 - 1, by omega⟩
    obtain ⟨m2, rfl⟩ : ∃ q, m2 = q + 1 := ⟨m2 - 1, by omega⟩
    rw [f_X4_shut_b37, if_neg (nI_ge (by omega) (by omega)), f_X5_shut_b43, many_m, Option.bind_some, h0, if_neg (nI_ge (by omega) (by omega))]
    by_cases hk : k = a
    · subst hk
      rw [if_pos rfl, if_pos rfl]
      unfold f_X4_shut_b94 f_X5_shut_b115
      rw [nI_1]
      exact ih (k + 1) m1 m2 _ _ _ _ _ _ _ _ _ _ (by omega) (by omega) (by omega)
    · have hk' : ¬ nI k = nI a := fun z => hk ((nI_eq (by omega) (by omega)).mp z)
      obtain ⟨rx, x1, x2⟩ := dailyGets_x (F := F) (by omega) hn ha ((((1 : Int32) <<< (nI n &&& 31)) - 1) &&& (((1 : Int32) <<< (nI k &&& 31)) ^^^ (-1))) pr H K Q ahead gets l0
      obtain ⟨rm, y1, y2⟩ := layDay_m (F := F) (n := n) (N := 251) (by omega) hn (by omega) (by omega) pr ((1 : Int32) <<< (nI k &&& 31)) h0 lb dg dd ah ge
      have hxy : rm.2.1 a = rx.1 := by
        rw [(y2 a ha).1, x2]
        refine dG_cong ha (fun j hj => ⟨(hw j hj).1, (hw j hj).2.1⟩) (by omega) (fun h _ j hj => ?_)
        rw [every_but (a := a) hn hj, op_cong (H' := H) (fun j hj => (hw j hj).2.2)]
      rw [if_neg hk', if_neg hk', everyWell_x, Option.bind_some, x1, Option.bind_some, chk_t (by decide), show told (24 : Int32).toNatClampNeg = pr from h24, y1, Option.bind_some, chk_t (ix_n (by omega) (by omega)), cl_n (by omega), hxy]
      unfold f_X4_shut_b94 f_X5_shut_b93 f_X5_shut_b114 f_X5_shut_b115
      simp only [chk_t (ix_n (show a < 5 by omega) (by omega)), cl_n (show a < 2 ^ 31 by omega), nI_1, hxy]
      by_cases hc : rx.1 ≤ v
      · rw [if_pos hc, if_pos hc, if_pos hc]
        exact ih (k + 1) m1 m2 _ _ _ _ _ _ _ _ _ _ (by omega) (by omega) (by omega)
      · rw [if_neg hc, if_neg hc, if_neg hc]
        exact ih (k + 1) m1 m2 _ _ _ _ _ _ _ _ _ _ (by omega) (by omega) (by omega)
theorem rs_shut : Rs_shut := by
  unfold Rs_shut
  intro x_above x_below x_bads x_nos x_fulls pressure day wells lefts notes undos leftOver kind wanted hours had due leftHour leftPressure note past ahead gets len text m_above m_below m_leftBehind m_bytesLong m_told m_refused m_gets m_ahead m_dayGets m_dayDue m_bytes a1 hR
  obtain ⟨hP, hr, hf, hx⟩ := id hR
  obtain ⟨n, nl, nn, nu, d, p, ⟨rfl, hn, -⟩, ht, hw, -⟩ := id hP
  have hw' : ∀ j, j < n → m_told (26 + j) = kind j ∧ m_told (19 + j) = wanted j ∧ m_told (14 + j) = hours j := fun j hj => ⟨(hw j hj).2.2.1, (hw j hj).2.2.2.1, (hw j hj).2.2.2.2.1⟩
  unfold f_X4_shut f_X5_shut f_X4_bad
  rw [has_x FU a1 (by omega), isWell_m FU a1 ht.1 (by omega), Option.bind_some, Option.bind_some]
  cases h1 : hsb n a1 with
  | false =>
    simp (disch := omega) only [chk_ix, chk_bo, cl_n, nI_add, pk_mul, pk_sub, nI_leI, nI_ltI, nI_eq, if_pos, if_neg, upd_e, pk_un, Option.bind_some, zlit, zlitL, within_x, in_m, has_x, reduceIte, Bool.false_eq_true, bad_m]
    exact ⟨_, _, rfl, rfl, rfl, Rel_bad hR⟩
  | true =>
    obtain ⟨a, ha, rfl⟩ := hs_of h1 (by omega)
    obtain ⟨rx, x1, x2⟩ := dailyEvery_x (F := FU) (ltF (by omega)) hn ha pressure hours kind wanted ahead gets leftOver
    obtain ⟨rm, y1, y2⟩ := layDay0_m (F := FU) (N := 251) (ltF (by omega)) hn (by omega) (by omega) pressure ht.1 hw' m_leftBehind m_dayGets m_dayDue m_ahead m_gets
    have hxy : rm.2.1 a = rx.1 := (y2 a ha).1.trans x2.symm
    obtain ⟨ox, om, e3, e4, e5, e6, e7⟩ := shut_eq (F := FU) (ltF (by omega)) hn ha ht.1 ht.2.2.2.2.1 hw' x_bads m_refused n 0 FU FU rx.1 (-1) rx.2.1 rx.2.2.1 rx.2.2.2 rm.1 rm.2.1 rm.2.2.1 rm.2.2.2.1 rm.2.2.2.2 (by omega) (ltF (by omega)) (ltF (by omega))
    rw [z0n] at e3 e4
    simp only [if_pos, Option.bind_some, if_neg (show ¬ nI 1 = (0 : Int32) by decide)]
    rw [everyWell_x, Option.bind_some, x1, Option.bind_some, chk_t (by decide), show m_told (24 : Int32).toNatClampNeg = pressure from ht.2.2.2.2.1, y1, Option.bind_some, chk_t (ix_n (by omega) (by omega)), cl_n (by omega), hxy, e3, e4]
    refine ⟨_, _, rfl, rfl, e5, ?_⟩
    rw [e6, e7]
    exact hR
/-- what all get: as the class tells it -/
theorem lo_sm (K Q : Nat → Int32) (h o p : Int32) : ∀ n, p - lo K Q h o p n = sm (ga K Q h o p) n
  | 0 => Int32.sub_self p
  | n + 1 => by
    rw [lo_s]
    show _ = sm (ga K Q h o p) n + ga K Q h o p n
    rw [← lo_sm K Q h o p n]
    generalize lo K Q h o p n = x
    generalize ga K Q h o p n = y
    grind
theorem sm_zero : ∀ n, sm (fun _ => (0 : Int32)) n = 0
  | 0 => rfl
  | n + 1 => by show sm (fun _ => (0 : Int32)) n + 0 = 0; rw [sm_zero n]; rfl
theorem ofAll_sm (K Q H : Nat → Int32) (p : Int32) (n : Nat) : ∀ m, Nat.rec (motive := fun _ => Int32) 0 (fun h x => x + (p - lo K Q (nI h) (op H (nI h) n) p n)) m = sm (fun i => dG K Q (fun h => op H (nI h) n) p i m) n
  | 0 => (sm_zero n).symm
  | m + 1 => by
    show Nat.rec (motive := fun _ => Int32) 0 (fun h x => x + (p - lo K Q (nI h) (op H (nI h) n) p n)) m + (p - lo K Q (nI m) (op H (nI m) n) p n) = sm (fun i => dG K Q (fun h => op H (nI h) n) p i m + ga K Q (nI m) (op H (nI m) n) p i) n
    rw [ofAll_sm K Q H p n m, lo_sm, sm_add]
theorem ofAll_x {F n : Nat} (hF : 8 < F) (hn : n ≤ 5) (p : Int32) (H K Q ah ge : Nat → Int32) (l0 : Int32) :
    ∃ r, f_X1_dailyOfAll F p (nI n) H K Q l0 ah ge = some r ∧ r.1 = sm (fun i => dG K Q (fun h => op H (nI h) n) p i 8) n := by
  obtain ⟨r, h1, h2⟩ := dailyOfAll_x hF hn p H K Q ah ge l0
  exact ⟨r, h1, h2.trans (ofAll_sm K Q H p n 8)⟩
theorem years_eq {F n a : Nat} (hF : 200 < F) (hn : n ≤ 5) (ha : a ≤ 60) (a1 : Int32) {K Q H told : Nat → Int32} (h0 : told 0 = nI n) (hw : ∀ j, j < n → told (26 + j) = K j ∧ told (19 + j) = Q j ∧ told (14 + j) = H j) (bads : Int32) (m_refused : Nat → Int32) :
    ∀ r k m1 m2 v w l0 ahead gets lb dg dd ah ge, k + r = a → r < m1 → r < m2 →
    ∃ (ox : Int32 × Int32 × Int32 × (Nat → Int32) × (Nat → Int32)) (om : Int32 × Int32 × (Nat → Int32) × (Nat → Int32) × (Nat → Int32) × (Nat → Int32) × (Nat → Int32)),
      f_X4_years_b34 F a1 (nI a) (nI n) H K Q m1 v w (nI k) bads l0 ahead gets = some ox ∧ f_X5_years_b40 F a1 (nI a) told m2 v w (nI k) lb dg dd ah ge m_refused = some om ∧ ox.1 = om.1 ∧ ox.2.1 = bads ∧ om.2.2.2.2.2.2 = m_refused := by
  intro r
  induction r with
  | zero =>
    intro k m1 m2 v w l0 ahead gets lb dg dd ah ge e h1 h2
    obtain ⟨m1, rfl⟩ : ∃ q, m1 = q + 1 := ⟨m1 - 1, by omega⟩
    obtain ⟨m2, rfl⟩ : ∃ q, m2 = q + 1 := ⟨m2 - 1, by omega⟩
    obtain rfl : k = a := by omega
    rw [f_X4_years_b34, if_pos (nI_le (Nat.le_refl _) (by omega)), f_X5_years_b40, if_pos (nI_le (Nat.le_refl _) (by omega))]
    exact ⟨_, _, rfl, rfl, rfl, rfl, rfl⟩
  | succ r ih =>
    intro k m1 m2 v w l0 ahead gets lb dg dd ah ge e h1 h2
    obtain ⟨m1, rfl⟩ : ∃ q, m1 = q + 1 := ⟨m1 - 1, by omega⟩
    obtain ⟨m2, rfl⟩ : ∃ q, m2 = q + 1 := ⟨m2 - 1, by omega⟩
    rw [f_X4_years_b34, if_neg (nI_ge (by omega) (by omega)), f_X5_years_b40, if_neg (nI_ge (by omega) (by omega))]
    generalize ((v * (1103515245 : Int64)) + (12345 : Int64)) - ((v * (1103515245 : Int64)) + (12345 : Int64)) / (2147483648 : Int64) * (2147483648 : Int64) = v'
    generalize ((v' / (65536 : Int64)) - (v' / (65536 : Int64)) / (61 : Int64) * (61 : Int64)).toInt32 = p
    obtain ⟨rx, x1, x2⟩ := ofAll_x (F := F) (by omega) hn p H K Q ahead gets l0
    obtain ⟨rm, y1, y2⟩ := layDay0_m (F := F) (n := n) (N := 251) (by omega) hn (by omega) (by omega) p h0 hw lb dg dd ah ge
    have y3 := sumOf_m (F := F) (n := n) (N := 5) (by omega) hn (by omega) (by omega) h0 rm.2.1
    have hxy : sm rm.2.1 n = rx.1 := (sm_cong (fun i hi => (y2 i hi).1)).trans x2.symm
    rw [x1, Option.bind_some, y1, Option.bind_some, y3, Option.bind_some, hxy, nI_1]
    exact ih (k + 1) m1 m2 _ _ _ _ _ _ _ _ _ _ (by omega) (by omega) (by omega)
theorem rs_years : Rs_years := by
  unfold Rs_years
  intro x_above x_below x_bads x_nos x_fulls pressure day wells lefts notes undos leftOver kind wanted hours had due leftHour leftPressure note past ahead gets len text m_above m_below m_leftBehind m_bytesLong m_told m_refused m_gets m_ahead m_dayGets m_dayDue m_bytes a1 a2 hR
  obtain ⟨hP, hr, hf, hx⟩ := id hR
  obtain ⟨n, nl, nn, nu, d, p, ⟨rfl, hn, -⟩, ht, hw, -⟩ := id hP
  have hw' : ∀ j, j < n → m_told (26 + j) = kind j ∧ m_told (19 + j) = wanted j ∧ m_told (14 + j) = hours j := fun j hj => ⟨(hw j hj).2.2.1, (hw j hj).2.2.2.1, (hw j hj).2.2.2.2.1⟩
  unfold f_X4_years f_X4_years_b20 f_X5_years f_X5_years_b24 f_X4_bad
  rw [show f_X4_within FU a1 0 999999 = _ from within_x FU a1 (a := 0) (b := 999999) (by omega) (by omega), show f_X5_in FU a1.toInt64 0 999999 = _ from in_m FU a1 (a := 0) (b := 999999) (by omega) (by omega), Option.bind_some, Option.bind_some,
    show f_X4_within FU a2 0 60 = _ from within_x FU a2 (a := 0) (b := 60) (by omega) (by omega), show f_X5_in FU a2.toInt64 0 60 = _ from in_m FU a2 (a := 0) (b := 60) (by omega) (by omega), Option.bind_some, Option.bind_some]
  cases h1 : rgb 0 999999 a1 with
  | false =>
    simp (disch := omega) only [chk_ix, chk_bo, cl_n, nI_add, pk_mul, pk_sub, nI_leI, nI_ltI, nI_eq, if_pos, if_neg, upd_e, pk_un, Option.bind_some, zlit, zlitL, within_x, in_m, has_x, reduceIte, Bool.false_eq_true, bad_m]
    exact ⟨_, _, rfl, rfl, rfl, Rel_bad hR⟩
  | true =>
    simp only [if_pos, Option.bind_some, if_neg (show ¬ nI 1 = (0 : Int32) by decide)]
    cases h2 : rgb 0 60 a2 with
    | false =>
      simp (disch := omega) only [chk_ix, chk_bo, cl_n, nI_add, pk_mul, pk_sub, nI_leI, nI_ltI, nI_eq, if_pos, if_neg, upd_e, pk_un, Option.bind_some, zlit, zlitL, within_x, in_m, has_x, reduceIte, Bool.false_eq_true, bad_m]
      exact ⟨_, _, rfl, rfl, rfl, Rel_bad hR⟩
    | true =>
      obtain ⟨a, -, ha, rfl⟩ := rg_of h2 (by omega)
      obtain ⟨ox, om, e3, e4, e5, e6, e7⟩ := years_eq (F := FU) (ltF (by omega)) hn ha a1 ht.1 hw' x_bads m_refused a 0 FU FU a1.toInt64 0 leftOver ahead gets m_leftBehind m_dayGets m_dayDue m_ahead m_gets (by omega) (ltF (by omega)) (ltF (by omega))
      rw [z0n] at e3 e4
      simp only [if_pos, Option.bind_some, if_neg (show ¬ nI 1 = (0 : Int32) by decide)]
      rw [e3, e4]
      refine ⟨_, _, rfl, rfl, e5, ?_⟩
      rw [e6, e7]
      exact hR

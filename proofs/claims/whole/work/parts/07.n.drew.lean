/-! PURE: drew -/
/-- whether set o leaves what was left, the k-th time -/
def ftB (K Q lh lp : Nat → Int32) (n : Nat) (p o : Int32) (k : Nat) : Bool := decide (lo K Q (lh k) o p n = lp k)
theorem fits_x {F n nl : Nat} (hF : 200 < F) (hn : n ≤ 5) (hl : nl ≤ 4) (o p : Int32) (K Q lh lp : Nat → Int32) (s : Int32 × (Nat → Int32) × (Nat → Int32)) :
    ∃ r, f_X4_fitsLefts F o p (nI n) (nI nl) lh K Q lp s.1 s.2.1 s.2.2 = some r ∧ r.1 = fl (al (ftB K Q lh lp n p o) nl) := by
  unfold f_X4_fitsLefts
  have st : ∀ k m (s : Int32 × (Nat → Int32) × (Nat → Int32)), k < nl → ∃ s', f_X4_fitsLefts_b2 F o p (nI n) (nI nl) lh K Q lp (m + 1) (nI k) s.1 s.2.1 s.2.2 = if ftB K Q lh lp n p o k = true then f_X4_fitsLefts_b2 F o p (nI n) (nI nl) lh K Q lp m (nI (k + 1)) s'.1 s'.2.1 s'.2.2 else some (0, s') := by
    intro k m s hk
    refine ⟨(lo K Q (lh k) o p n, pre (lo K Q (lh k) o p) s.2.1 n, pre (ga K Q (lh k) o p) s.2.2 n), ?_⟩
    rw [f_X4_fitsLefts_b2, if_neg (nI_ge hk (by omega)), chk_t (ix_n (by omega) (by omega)), runHour_x (by omega) hn, Option.bind_some, chk_t (ix_n (by omega) (by omega)), cl_n (by omega), nI_1]
    by_cases hc : ftB K Q lh lp n p o k = true
    · rw [if_pos hc, if_pos (decide_eq_true_iff.mp hc)]
    · rw [if_neg hc, if_neg (fun z => hc (decide_eq_true_iff.mpr z))]
  cases hf : al (ftB K Q lh lp n p o) nl with
  | true =>
    refine loopT (fun m k s => f_X4_fitsLefts_b2 F o p (nI n) (nI nl) lh K Q lp m (nI k) s.1 s.2.1 s.2.2) (ftB K Q lh lp n p o) (fun z => ∃ r, z = some r ∧ r.1 = fl true) nl hf ?_ ?_ F s (by omega)
    · intro k m s hk hb
      obtain ⟨s', e⟩ := st k m s hk
      rw [if_pos hb] at e
      exact ⟨s', e⟩
    · intro m s
      refine ⟨(1, s), ?_, rfl⟩
      show f_X4_fitsLefts_b2 F o p (nI n) (nI nl) lh K Q lp (m + 1) (nI nl) s.1 s.2.1 s.2.2 = _
      rw [f_X4_fitsLefts_b2, if_pos (nI_le (Nat.le_refl _) (by omega))]
  | false =>
    refine loopF (fun m k s => f_X4_fitsLefts_b2 F o p (nI n) (nI nl) lh K Q lp m (nI k) s.1 s.2.1 s.2.2) (ftB K Q lh lp n p o) (fun z => ∃ r, z = some r ∧ r.1 = fl false) nl hf ?_ ?_ F s (by omega)
    · intro k m s hk hb
      obtain ⟨s', e⟩ := st k m s hk
      rw [if_pos hb] at e
      exact ⟨s', e⟩
    · intro k m s hk hb
      obtain ⟨s', e⟩ := st k m s hk
      rw [if_neg (by rw [hb]; decide)] at e
      exact ⟨(0, s'), e, rfl⟩
theorem mayHave_m {F n nl : Nat} (hF : 200 < F) (hn : n ≤ 5) (hl : nl ≤ 4) (o : Int32) {p : Int32} {K Q lh lp told : Nat → Int32} (h0 : told 0 = nI n) (h1 : told 1 = nI nl) (h24 : told 24 = p) (hw : ∀ j, j < n → told (26 + j) = K j ∧ told (19 + j) = Q j)
    (hlf : ∀ k, k < nl → (∃ h : Nat, lh k = nI h ∧ h < 8) ∧ told (31 + 2 * k) = lh k ∧ told (32 + 2 * k) = lp k) (s : Int32 × (Nat → Int32) × (Nat → Int32)) :
    ∃ r, f_X5_mayHaveDrawn F o told s.1 s.2.1 s.2.2 = some r ∧ r.1 = fl (al (ftB K Q lh lp n p o) nl) := by
  unfold f_X5_mayHaveDrawn
  have key : ∀ r k m (s : Int32 × (Nat → Int32) × (Nat → Int32)), k + r = nl → r < m → ∃ z, f_X5_mayHaveDrawn_b4 F o told m (fl (al (ftB K Q lh lp n p o) k)) (nI k) s.1 s.2.1 s.2.2 = some z ∧ z.1 = fl (al (ftB K Q lh lp n p o) nl) := by
    intro r
    induction r with
    | zero =>
      intro k m s e hm
      obtain ⟨m, rfl⟩ : ∃ q, m = q + 1 := ⟨m - 1, by omega⟩
      obtain rfl : k = nl := by omega
      rw [f_X5_mayHaveDrawn_b4, chk_t (by decide), show told (1 : Int32).toNatClampNeg = nI k from h1, if_pos (nI_le (Nat.le_refl _) (by omega)), chk_t (by cases al (ftB K Q lh lp n p o) k <;> rfl)]
      exact ⟨_, rfl, rfl⟩
    | succ r ih =>
      intro k m s e hm
      obtain ⟨m, rfl⟩ : ∃ q, m = q + 1 := ⟨m - 1, by omega⟩
      obtain ⟨⟨h, e1, e2⟩, e3, e4⟩ := hlf k (by omega)
      rw [f_X5_mayHaveDrawn_b4, chk_t (by decide), show told (1 : Int32).toNatClampNeg = nI nl from h1, if_neg (nI_ge (by omega) (by omega)), show (2 : Int32) * nI k = nI (2 * k) from pk_mul 2 k, show (31 : Int32) + nI (2 * k) = nI (31 + 2 * k) from nI_add 31 _, chk_t (ix_n (by omega) (by omega)), chk_t (by decide), show told (24 : Int32).toNatClampNeg = p from h24, cl_n (by omega), e3, e1, goHour_m (by omega) hn (by omega) (by omega) e2 _ _ h0, Option.bind_some]
      have hlo : lo (fun i => told (26 + i)) (fun i => told (19 + i)) (nI h) o p n = lo K Q (nI h) o p n := lo_cong (fun j hj => ⟨(hw j hj).1, (hw j hj).2, Iff.rfl⟩)
      have hft : ftB K Q lh lp n p o k = decide (lo K Q (nI h) o p n = lp k) := by unfold ftB; rw [e1]
      have hnx := fun s => ih (k + 1) m s (by omega) (by omega)
      rw [show al (ftB K Q lh lp n p o) (k + 1) = (al (ftB K Q lh lp n p o) k && ftB K Q lh lp n p o k) from rfl] at hnx
      unfold f_X5_mayHaveDrawn_b69 f_X5_mayHaveDrawn_b70
      revert hnx
      generalize al (ftB K Q lh lp n p o) k = c
      intro hnx
      cases c with
      | false =>
        rw [if_pos (show fl false = 0 by decide), nI_1]
        exact hnx (_, _, _)
      | true =>
        rw [Bool.true_and, hft] at hnx
        rw [if_neg (show ¬ fl true = 0 by decide), show nI (31 + 2 * k) + (1 : Int32) = nI (31 + 2 * k + 1) from nI_1 _, chk_t (ix_n (by omega) (by omega)), cl_n (by omega), show 31 + 2 * k + 1 = 32 + 2 * k by omega, e4, nI_1, hlo]
        by_cases hc : lo K Q (nI h) o p n = lp k
        · rw [if_pos hc]
          rw [decide_eq_true hc] at hnx
          exact hnx (_, _, _)
        · rw [if_neg hc]
          rw [decide_eq_false hc] at hnx
          exact hnx (_, _, _)
  exact key nl 0 F s (by omega) (by omega)
theorem ev_n : ∀ n : Fin 6, ((1 : Int32) <<< (nI n.val &&& 31)) = nI (2 ^ n.val) ∧ ((1 : Int32) <<< (nI n.val &&& 31)) - 1 = nI (2 ^ n.val - 1) := by decide +kernel
theorem drew_eq {F n nl : Nat} (hF : 200 < F) (hn : n ≤ 5) (hl : nl ≤ 4) (a1 : Int32) {p : Int32} {K Q lh lp told : Nat → Int32} (h0 : told 0 = nI n) (h1 : told 1 = nI nl) (h24 : told 24 = p) (hw : ∀ j, j < n → told (26 + j) = K j ∧ told (19 + j) = Q j)
    (hlf : ∀ k, k < nl → (∃ h : Nat, lh k = nI h ∧ h < 8) ∧ told (31 + 2 * k) = lh k ∧ told (32 + 2 * k) = lp k) (bads : Int32) (m_refused : Nat → Int32) :
    ∀ r k m1 m2 v2 v3 v4 (s z : Int32 × (Nat → Int32) × (Nat → Int32)), k + r = 2 ^ n → r < m1 → r < m2 →
    ∃ (ox : Int32 × Int32 × Int32 × (Nat → Int32) × (Nat → Int32)) (om : Int32 × Int32 × (Nat → Int32) × (Nat → Int32) × (Nat → Int32)),
      f_X4_drew_b30 F a1 p (nI n) (nI nl) lh K Q lp m1 v2 v3 v4 (nI k) bads s.1 s.2.1 s.2.2 = some ox ∧ f_X5_drew_b36 F a1 told m2 v2 v3 v4 (nI k) z.1 m_refused z.2.1 z.2.2 = some om ∧ ox.1 = om.1 ∧ ox.2.1 = bads ∧ om.2.2.1 = m_refused := by
  have hp2 : 2 ^ n ≤ 32 := Nat.pow_le_pow_right (n := 2) (by omega) hn
  have hp1 : 1 ≤ 2 ^ n := Nat.one_le_two_pow
  obtain ⟨u1, u2⟩ := ev_n ⟨n, by omega⟩
  dsimp only at u1 u2
  intro r
  induction r with
  | zero =>
    intro k m1 m2 v2 v3 v4 s z e h1 h2
    obtain ⟨m1, rfl⟩ : ∃ q, m1 = q + 1 := ⟨m1 - 1, by omega⟩
    obtain ⟨m2, rfl⟩ : ∃ q, m2 = q + 1 := ⟨m2 - 1, by omega⟩
    obtain rfl : k = 2 ^ n := by omega
    rw [f_X4_drew_b30, everyWell_x, Option.bind_some, u2, if_pos (nI_lt (by omega) (by omega)), f_X5_drew_b36, many_m, Option.bind_some, h0, u1, if_pos (nI_le (by omega) (by omega))]
    by_cases q1 : a1 = 0
    · rw [if_pos q1, if_pos q1]; exact ⟨_, _, rfl, rfl, rfl, rfl, rfl⟩
    · rw [if_neg q1, if_neg q1]
      by_cases q2 : a1 = 2
      · rw [if_pos q2, if_pos q2]; exact ⟨_, _, rfl, rfl, rfl, rfl, rfl⟩
      · rw [if_neg q2, if_neg q2]
        by_cases q3 : v2 = 0
        · rw [if_pos q3, if_pos q3]; exact ⟨_, _, rfl, rfl, rfl, rfl, rfl⟩
        · rw [if_neg q3, if_neg q3]; exact ⟨_, _, rfl, rfl, rfl, rfl, rfl⟩
  | succ r ih =>
    intro k m1 m2 w2 w3 w4 s z e h1' h2
    obtain ⟨m1, rfl⟩ : ∃ q, m1 = q + 1 := ⟨m1 - 1, by omega⟩
    obtain ⟨m2, rfl⟩ : ∃ q, m2 = q + 1 := ⟨m2 - 1, by omega⟩
    obtain ⟨rx, x1, x2⟩ := fits_x (F := F) hF hn hl (nI k) p K Q lh lp s
    obtain ⟨rm, y1, y2⟩ := mayHave_m (F := F) hF hn hl (nI k) h0 h1 h24 hw hlf z
    rw [f_X4_drew_b30, everyWell_x, Option.bind_some, u2, if_neg (nI_nlt (by omega) (by omega)), f_X5_drew_b36, many_m, Option.bind_some, h0, u1, if_neg (nI_ge (by omega) (by omega)), x1, Option.bind_some, y1, Option.bind_some, x2, y2]
    unfold f_X4_drew_b69 f_X5_drew_b71
    rw [nI_1]
    by_cases q : fl (al (ftB K Q lh lp n p (nI k)) nl) = 0
    · rw [if_pos q, if_pos q]
      exact ih (k + 1) m1 m2 _ _ _ rx.2 rm.2 (by omega) (by omega) (by omega)
    · rw [if_neg q, if_neg q]
      exact ih (k + 1) m1 m2 _ _ _ rx.2 rm.2 (by omega) (by omega) (by omega)
theorem rs_drew : Rs_drew := by
  unfold Rs_drew
  intro x_above x_below x_bads x_nos x_fulls pressure day wells lefts notes undos leftOver kind wanted hours had due leftHour leftPressure note past ahead gets len text m_above m_below m_leftBehind m_bytesLong m_told m_refused m_gets m_ahead m_bytes a1 hR
  obtain ⟨hP, hr, hf, hx⟩ := id hR
  obtain ⟨n, nl, nn, nu, d, p, ⟨rfl, hn, rfl, hnl, -⟩, ht, hw, hlf, -⟩ := id hP
  unfold f_X4_drew f_X5_drew f_X4_bad
  cases h1 : rgb 0 2 a1 with
  | false =>
    have q1 : f_X4_within FU a1 0 2 = some 0 := (within_x FU a1 (a := 0) (b := 2) (by omega) (by omega)).trans (by rw [h1]; rfl)
    have q2 : f_X5_in FU a1.toInt64 0 2 = some 0 := (in_m FU a1 (a := 0) (b := 2) (by omega) (by omega)).trans (by rw [h1]; rfl)
    rw [q1, Option.bind_some, if_pos rfl, Option.bind_some, q2, Option.bind_some, if_pos rfl, bad_m, Option.bind_some]
    exact ⟨_, _, rfl, rfl, rfl, Rel_bad hR⟩
  | true =>
    have q1 : f_X4_within FU a1 0 2 = some (nI 1) := (within_x FU a1 (a := 0) (b := 2) (by omega) (by omega)).trans (by rw [h1, if_pos rfl])
    have q2 : f_X5_in FU a1.toInt64 0 2 = some (nI 1) := (in_m FU a1 (a := 0) (b := 2) (by omega) (by omega)).trans (by rw [h1, if_pos rfl])
    have hp2 : 2 ^ n ≤ 32 := Nat.pow_le_pow_right (n := 2) (by omega) hn
    obtain ⟨ox, om, e3, e4, e5, e6, e7⟩ := drew_eq (F := FU) (ltF (by omega)) hn hnl a1 ht.1 ht.2.1 ht.2.2.2.2.1 (fun j hj => ⟨(hw j hj).2.2.1, (hw j hj).2.2.2.1⟩) hlf x_bads m_refused (2 ^ n) 0 FU FU 0 (((1 : Int32) <<< (nI n &&& 31)) - 1) 0 (leftOver, ahead, gets) (m_leftBehind, m_ahead, m_gets) (by omega) (ltF (by omega)) (ltF (by omega))
    rw [z0n] at e3 e4
    rw [q1, Option.bind_some, if_neg (show ¬ nI 1 = (0 : Int32) by decide), q2, Option.bind_some, if_neg (show ¬ nI 1 = (0 : Int32) by decide), everyWell_x, Option.bind_some, many_m, Option.bind_some, ht.1, e3, e4]
    refine ⟨_, _, rfl, rfl, e5, ?_⟩
    rw [e6, e7]
    exact hR

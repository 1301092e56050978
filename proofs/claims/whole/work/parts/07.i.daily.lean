/-! PURE: daily -/
theorem Sm1 {n : Nat} (hn : n < 2 ^ 20) : ((nI n - 1).toInt64).toInt = (n : Int) - 1 := by
  rw [Int32.toInt_toInt64]
  exact pk_sub_toInt (b := 1) (by omega) (by omega)
/-- one of them, or all -/
def onb (n : Nat) (x : Int32) : Bool := decide (x = -1) || hsb n x
theorem m1_toInt (x : Int32) : x = -1 ↔ x.toInt = -1 := by rw [i_eq]; rfl
theorem inN_m (F : Nat) (x : Int32) {n : Nat} (hn : n < 2 ^ 20) : f_X5_in F x.toInt64 (-1 : Int64) ((nI n - 1).toInt64) = some (if onb n x = true then nI 1 else nI 0) := by
  unfold f_X5_in onb hsb
  simp only [Bool.and_eq_true, Bool.or_eq_true, decide_eq_true_eq, cmp_lt, cmp_gt, Int32.toInt_toInt64 x, Sm1 hn, m1_toInt]
  rw [show (-1 : Int64).toInt = -1 from rfl]
  by_cases h1 : x.toInt < -1
  · rw [if_pos h1, if_neg (by omega)]; rfl
  · rw [if_neg h1]
    by_cases h2 : (n : Int) - 1 < x.toInt
    · rw [if_pos h2, if_neg (by omega)]; rfl
    · rw [if_neg h2, if_pos (by omega)]; rfl
theorem nI_nm1 {k : Nat} (h : k < 2 ^ 31) : ¬ nI k = (-1 : Int32) := by
  intro z
  have := (m1_toInt _).mp z
  rw [nI_toInt h] at this
  omega
theorem onb_m1 {n : Nat} : onb n (-1) = true := rfl
theorem onb_no {n : Nat} {x : Int32} (h : ¬ x = -1) : onb n x = hsb n x := by unfold onb; rw [decide_eq_false h]; rfl
/-- the reference's day, by the class's cells -/
theorem layDay0_m {F n N : Nat} (hF : 8 < F) (hn : n ≤ 5) (hN : 31 ≤ N) (hN2 : N < 2 ^ 31) (p : Int32) {t K Q H : Nat → Int32} (h0 : t 0 = nI n) (hw : ∀ j, j < n → t (26 + j) = K j ∧ t (19 + j) = Q j ∧ t (14 + j) = H j) (lb : Int32) (dg dd ah ge : Nat → Int32) :
    ∃ r, f_X5_layDay F N p 0 t lb dg dd ah ge = some r ∧ ∀ i, i < n → r.2.1 i = dG K Q (fun h => op H (nI h) n) p i 8 ∧ r.2.2.1 i = dD K Q (fun h => op H (nI h) n) p i 8 := by
  obtain ⟨r, h1, h2⟩ := layDay_m (F := F) (n := n) (N := N) hF hn hN hN2 p 0 h0 lb dg dd ah ge
  refine ⟨r, h1, fun i hi => ?_⟩
  obtain ⟨a, b⟩ := h2 i hi
  have hO : ∀ h, h < 8 → ∀ j, j < n → bt (op (fun i => t (14 + i)) (nI h) n &&& ((0 : Int32) ^^^ (-1))) j = bt (op H (nI h) n) j := fun h _ j hj => by
    rw [none_bt _ (by omega), op_cong (H' := H) (fun j hj => (hw j hj).2.2)]
  rw [a, b]
  exact ⟨dG_cong hi (fun j hj => ⟨(hw j hj).1, (hw j hj).2.1⟩) (by omega) hO, dD_cong hi (fun j hj => ⟨(hw j hj).1, (hw j hj).2.1⟩) (by omega) hO⟩
theorem dailyEvery_x {F n i : Nat} (hF : 8 < F) (hn : n ≤ 5) (hi : i < n) (p : Int32) (H K Q ah ge : Nat → Int32) (l0 : Int32) :
    ∃ r, f_X1_dailyGets F (nI i) (((1 : Int32) <<< (nI n &&& 31)) - 1) p (nI n) H K Q l0 ah ge = some r ∧ r.1 = dG K Q (fun h => op H (nI h) n) p i 8 := by
  obtain ⟨r, h1, h2⟩ := dailyGets_x hF hn hi (((1 : Int32) <<< (nI n &&& 31)) - 1) p H K Q ah ge l0
  exact ⟨r, h1, h2.trans (dG_cong hi (fun j _ => ⟨rfl, rfl⟩) (by omega) (fun h _ j hj => every_bt hn hj _))⟩
/-- what daily tells of well i -/
def dv (c : Nat) (K Q H : Nat → Int32) (p : Int32) (n i : Nat) : Int32 := if c = 0 then dG K Q (fun h => op H (nI h) n) p i 8 else dD K Q (fun h => op H (nI h) n) p i 8
theorem dailyOfOne_x {F n i c : Nat} (hF : 8 < F) (hn : n ≤ 5) (hi : i < n) (hc : c < 2) (p : Int32) (H K Q ah ge : Nat → Int32) (l0 : Int32) :
    ∃ r, f_X4_dailyOfOne F (nI i) (nI c) p (nI n) K H Q l0 ah ge = some r ∧ r.1 = dv c K Q H p n i := by
  unfold f_X4_dailyOfOne dv
  rcases (show c = 0 ∨ c = 1 by omega) with rfl | rfl
  · obtain ⟨r, h1, h2⟩ := dailyEvery_x hF hn hi p H K Q ah ge l0
    rw [if_pos (show nI 0 = (0 : Int32) from rfl), everyWell_x, Option.bind_some, h1, Option.bind_some, if_pos rfl]
    exact ⟨_, rfl, h2⟩
  · obtain ⟨r, h1, h2⟩ := dailyDue_x hF hn hi p H K Q ah ge l0
    rw [if_neg (show ¬ nI 1 = (0 : Int32) from by decide), h1, Option.bind_some, if_neg (by omega)]
    exact ⟨_, rfl, h2⟩
theorem daily47_x {F n c : Nat} (hF : 8 < F) (hn : n ≤ 5) (hc : c < 2) (a1 p : Int32) (H K Q ah ge : Nat → Int32) (bads l0 : Int32) :
    ∃ r, f_X4_daily_b47 F a1 (nI c) p (nI n) K H Q F 0 0 bads l0 ah ge = some r ∧ (r.1 = sm (dv c K Q H p n) n ∧ r.2.1 = bads) := by
  refine loopI (σ := Int32 × Int32 × (Nat → Int32) × (Nat → Int32)) (fun m k s => f_X4_daily_b47 F a1 (nI c) p (nI n) K H Q m s.1 (nI k) bads s.2.1 s.2.2.1 s.2.2.2) (fun k s => s.1 = sm (dv c K Q H p n) k) _ n ?_ ?_ F (0, l0, ah, ge) (by omega) rfl
  · intro k m s hk hI
    obtain ⟨r, h1, h2⟩ := dailyOfOne_x (F := F) hF hn hk hc p H K Q s.2.2.1 s.2.2.2 s.2.1
    refine ⟨(s.1 + r.1, r.2.1, r.2.2.1, r.2.2.2), ?_, ?_⟩
    · show s.1 + r.1 = sm _ k + _
      rw [hI, h2]
    · show f_X4_daily_b47 F a1 (nI c) p (nI n) K H Q (m + 1) s.1 (nI k) bads s.2.1 s.2.2.1 s.2.2.2 = _
      rw [f_X4_daily_b47, if_neg (nI_ge hk (by omega)), h1, Option.bind_some, nI_1]
  · intro m s hI
    refine ⟨(s.1, bads, s.2.1, s.2.2.1, s.2.2.2), ?_, hI, rfl⟩
    show f_X4_daily_b47 F a1 (nI c) p (nI n) K H Q (m + 1) s.1 (nI n) bads s.2.1 s.2.2.1 s.2.2.2 = _
    rw [f_X4_daily_b47, if_pos (nI_le (Nat.le_refl n) (by omega))]
theorem rs_daily : Rs_daily := by
  unfold Rs_daily
  intro x_above x_below x_bads x_nos x_fulls pressure day wells lefts notes undos leftOver kind wanted hours had due leftHour leftPressure note past ahead gets len text m_above m_below m_leftBehind m_bytesLong m_told m_refused m_gets m_ahead m_dayGets m_dayDue m_bytes a1 a2 hR
  obtain ⟨hP, hr, hf, hx⟩ := id hR
  obtain ⟨n, nl, nn, nu, d, p, ⟨rfl, hn, -⟩, ht, hw, -⟩ := id hP
  have hw' : ∀ j, j < n → m_told (26 + j) = kind j ∧ m_told (19 + j) = wanted j ∧ m_told (14 + j) = hours j := fun j hj => ⟨(hw j hj).2.2.1, (hw j hj).2.2.2.1, (hw j hj).2.2.2.2.1⟩
  unfold f_X4_daily f_X4_daily_b16 f_X4_daily_b25 f_X5_daily f_X5_daily_b28 f_X4_bad
  have hW := inN_m FU a1 (n := n) (by omega)
  simp only [many_m, ht.1, Option.bind_some]
  rw [hW]
  obtain ⟨rm, e1, e2⟩ := layDay0_m (F := FU) (N := 251) (ltF (by omega)) hn (by omega) (by omega) pressure ht.1 hw' m_leftBehind m_dayGets m_dayDue m_ahead m_gets
  have e3 := sumOf_m (F := FU) (n := n) (N := 5) (ltF (by omega)) hn (by omega) (by omega) ht.1 rm.2.1
  have e4 := sumOf_m (F := FU) (n := n) (N := 5) (ltF (by omega)) hn (by omega) (by omega) ht.1 rm.2.2.1
  have s3 : sm (dv 0 kind wanted hours pressure n) n = sm rm.2.1 n := sm_cong (fun i hi => by rw [(e2 i hi).1]; rfl)
  have s4 : sm (dv 1 kind wanted hours pressure n) n = sm rm.2.2.1 n := sm_cong (fun i hi => by rw [(e2 i hi).2]; rfl)
  simp only [zlit] at e1
  by_cases hm : a1 = -1
  · subst hm
    rw [if_pos (rfl : (-1 : Int32) = -1)]
    cases h2 : rgb 0 1 a2 with
    | false =>
      simp (disch := omega) only [chk_ix, chk_bo, cl_n, nI_add, pk_mul, pk_sub, nI_leI, nI_ltI, nI_eq, if_pos, if_neg, upd_e, pk_un, Option.bind_some, zlit, zlitL, within_x, in_m, has_x, reduceIte, Bool.false_eq_true, onb_m1, h2, bad_m]
      exact ⟨_, _, rfl, rfl, rfl, Rel_bad hR⟩
    | true =>
      obtain ⟨c, -, hc, rfl⟩ := rg_of h2 (by omega)
      obtain ⟨r, h3, h4, h5⟩ := daily47_x (F := FU) (n := n) (c := c) (ltF (by omega)) hn (by omega) (-1) pressure hours kind wanted ahead gets x_bads leftOver
      rcases (show c = 0 ∨ c = 1 by omega) with rfl | rfl
      · simp only [zlit] at h3
        simp (disch := omega) only [chk_ix, chk_bo, cl_n, nI_add, pk_mul, pk_sub, nI_leI, nI_ltI, nI_eq, if_pos, if_neg, upd_e, pk_un, Option.bind_some, zlit, zlitL, within_x, in_m, has_x, reduceIte, Bool.false_eq_true, ht.2.2.2.2.1, onb_m1, h2, e1, e3, e4, h3]
        refine ⟨_, _, rfl, rfl, h4.trans s3, ?_⟩
        rw [h5]; exact hR
      · simp only [zlit] at h3
        simp (disch := omega) only [chk_ix, chk_bo, cl_n, nI_add, pk_mul, pk_sub, nI_leI, nI_ltI, nI_eq, if_pos, if_neg, upd_e, pk_un, Option.bind_some, zlit, zlitL, within_x, in_m, has_x, reduceIte, Bool.false_eq_true, ht.2.2.2.2.1, onb_m1, h2, e1, e3, e4, h3]
        refine ⟨_, _, rfl, rfl, h4.trans s4, ?_⟩
        rw [h5]; exact hR
  · rw [if_neg hm]
    have ho := onb_no (n := n) hm
    cases h1 : hsb n a1 with
    | false =>
      rw [h1] at ho
      simp (disch := omega) only [chk_ix, chk_bo, cl_n, nI_add, pk_mul, pk_sub, nI_leI, nI_ltI, nI_eq, if_pos, if_neg, upd_e, pk_un, Option.bind_some, zlit, zlitL, within_x, in_m, has_x, reduceIte, Bool.false_eq_true, ho, h1, bad_m]
      exact ⟨_, _, rfl, rfl, rfl, Rel_bad hR⟩
    | true =>
      rw [h1] at ho
      obtain ⟨i, hi, rfl⟩ := hs_of h1 (by omega)
      cases h2 : rgb 0 1 a2 with
      | false =>
        simp (disch := omega) only [chk_ix, chk_bo, cl_n, nI_add, pk_mul, pk_sub, nI_leI, nI_ltI, nI_eq, if_pos, if_neg, upd_e, pk_un, Option.bind_some, zlit, zlitL, within_x, in_m, has_x, reduceIte, Bool.false_eq_true, ho, h1, h2, bad_m]
        exact ⟨_, _, rfl, rfl, rfl, Rel_bad hR⟩
      | true =>
        obtain ⟨c, -, hc, rfl⟩ := rg_of h2 (by omega)
        obtain ⟨r, h3, h4⟩ := dailyOfOne_x (F := FU) (n := n) (c := c) (ltF (by omega)) hn hi (by omega) pressure hours kind wanted ahead gets leftOver
        rcases (show c = 0 ∨ c = 1 by omega) with rfl | rfl
        · try simp only [zlit] at h3
          simp only [zlit] at hm
          simp (disch := omega) only [chk_ix, chk_bo, cl_n, nI_add, pk_mul, pk_sub, nI_leI, nI_ltI, nI_eq, if_pos, if_neg, upd_e, pk_un, Option.bind_some, zlit, zlitL, within_x, in_m, has_x, reduceIte, Bool.false_eq_true, ht.2.2.2.2.1, ho, h1, h2, e1, e3, e4, h3, hm]
          exact ⟨_, _, rfl, rfl, h4.trans (e2 i hi).1.symm, hR⟩
        · try simp only [zlit] at h3
          simp only [zlit] at hm
          simp (disch := omega) only [chk_ix, chk_bo, cl_n, nI_add, pk_mul, pk_sub, nI_leI, nI_ltI, nI_eq, if_pos, if_neg, upd_e, pk_un, Option.bind_some, zlit, zlitL, within_x, in_m, has_x, reduceIte, Bool.false_eq_true, ht.2.2.2.2.1, ho, h1, h2, e1, e3, e4, h3, hm]
          exact ⟨_, _, rfl, rfl, h4.trans (e2 i hi).2.symm, hR⟩

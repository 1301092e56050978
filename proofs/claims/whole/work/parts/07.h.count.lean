/-! PURE: count, digest -/
def sm (f : Nat → Int32) : Nat → Int32
  | 0 => 0
  | k + 1 => sm f k + f k
theorem sm_cong {f g : Nat → Int32} : ∀ {n : Nat}, (∀ i, i < n → f i = g i) → sm f n = sm g n
  | 0, _ => rfl
  | n + 1, h => by
    unfold sm
    rw [sm_cong (n := n) (fun i hi => h i (by omega)), h n (by omega)]
theorem sumOf_x {F n : Nat} (hF : n < F) (hn : n ≤ 5) (f : Nat → Int32) : f_X1_sumOf F 5 (nI n) f = some (sm f n) := by
  unfold f_X1_sumOf
  refine loopN (fun m k => f_X1_sumOf_b4 F 5 (nI n) f m (sm f k) (nI k)) _ n ?_ ?_ F hF
  · intro k m hk
    show f_X1_sumOf_b4 F 5 (nI n) f (m + 1) (sm f k) (nI k) = f_X1_sumOf_b4 F 5 (nI n) f m (sm f (k + 1)) (nI (k + 1))
    rw [f_X1_sumOf_b4, if_neg (nI_ge hk (by omega)), if_neg (show ¬ Int32.ofNat 5 ≤ nI k from nI_ge (b := 5) (by omega) (by omega)), chk_t (ix_n (by omega) (by omega)), cl_n (by omega), nI_1]
    rfl
  · intro m
    show f_X1_sumOf_b4 F 5 (nI n) f (m + 1) _ (nI n) = _
    rw [f_X1_sumOf_b4, if_pos (nI_le (Nat.le_refl n) (by omega))]
theorem allOf_m {F n a : Nat} (hF : n < F) (hn : n ≤ 5) (ha : a ≤ 200) {t : Nat → Int32} (h0 : t 0 = nI n) : f_X5_allOf F (nI a) t = some (sm (fun i => t (a + i)) n) := by
  unfold f_X5_allOf
  refine loopN (fun m k => f_X5_allOf_b4 F (nI a) t m (sm (fun i => t (a + i)) k) (nI k)) _ n ?_ ?_ F hF
  · intro k m hk
    show f_X5_allOf_b4 F (nI a) t (m + 1) (sm _ k) (nI k) = f_X5_allOf_b4 F (nI a) t m (sm _ (k + 1)) (nI (k + 1))
    rw [f_X5_allOf_b4, many_m, Option.bind_some, h0, if_neg (nI_ge hk (by omega)), nI_add, chk_t (ix_n (by omega) (by omega)), cl_n (by omega), nI_1]
    rfl
  · intro m
    show f_X5_allOf_b4 F (nI a) t (m + 1) _ (nI n) = _
    rw [f_X5_allOf_b4, many_m, Option.bind_some, h0, if_pos (nI_le (Nat.le_refl n) (by omega))]
theorem sumOf_m {F n N : Nat} (hF : n < F) (hn : n ≤ 5) (hN : 5 ≤ N) (hN2 : N < 2 ^ 31) {t : Nat → Int32} (h0 : t 0 = nI n) (f : Nat → Int32) : f_X5_sumOf F N t f = some (sm f n) := by
  unfold f_X5_sumOf
  refine loopN (fun m k => f_X5_sumOf_b4 F N t f m (sm f k) (nI k)) _ n ?_ ?_ F hF
  · intro k m hk
    show f_X5_sumOf_b4 F N t f (m + 1) (sm f k) (nI k) = f_X5_sumOf_b4 F N t f m (sm f (k + 1)) (nI (k + 1))
    rw [f_X5_sumOf_b4, many_m, Option.bind_some, h0, if_neg (nI_ge hk (by omega)), chk_t (ix_n (by omega) hN2), cl_n (by omega), nI_1]
    rfl
  · intro m
    show f_X5_sumOf_b4 F N t f (m + 1) _ (nI n) = _
    rw [f_X5_sumOf_b4, many_m, Option.bind_some, h0, if_pos (nI_le (Nat.le_refl n) (by omega))]
/-- what count says, on both sides -/
theorem counted_eq {F : Nat} (hF : 10 < F) {pr day wells lefts notes undos : Int32} {kind wanted hours had due leftHour leftPressure note past told : Nat → Int32} (h : PR pr day wells lefts notes undos kind wanted hours had due leftHour leftPressure note past told) (len : Int32) {c : Nat} (hc : c ≤ 8) :
    ∃ v, f_X4_howMany F (nI c) pr day wells lefts notes undos had due len = some v ∧ f_X5_counted F (nI c) len told = some v := by
  obtain ⟨n, nl, nn, nu, d, p, ⟨rfl, hn, -⟩, ht, hw, -⟩ := h
  unfold f_X4_howMany f_X5_counted
  have s1 := sumOf_x (F := F) (n := n) (by omega) hn had
  have s2 := sumOf_x (F := F) (n := n) (by omega) hn due
  have s3 := allOf_m (F := F) (n := n) (a := 4) (by omega) hn (by omega) ht.1
  have s4 := allOf_m (F := F) (n := n) (a := 9) (by omega) hn (by omega) ht.1
  rcases (show c = 0 ∨ c = 1 ∨ c = 2 ∨ c = 3 ∨ c = 4 ∨ c = 5 ∨ c = 6 ∨ c = 7 ∨ c = 8 by omega) with rfl | rfl | rfl | rfl | rfl | rfl | rfl | rfl | rfl
  · simp (disch := omega) only [chk_ix, chk_bo, cl_n, nI_add, pk_mul, pk_sub, nI_leI, nI_ltI, nI_eq, if_pos, if_neg, upd_e, pk_un, Option.bind_some, zlit, zlitL, within_x, in_m, has_x, reduceIte, Bool.false_eq_true, many_m, ht.1]
    exact ⟨_, rfl, rfl⟩
  · simp (disch := omega) only [chk_ix, chk_bo, cl_n, nI_add, pk_mul, pk_sub, nI_leI, nI_ltI, nI_eq, if_pos, if_neg, upd_e, pk_un, Option.bind_some, zlit, zlitL, within_x, in_m, has_x, reduceIte, Bool.false_eq_true, many_m, ht.2.2.2.2.1]
    exact ⟨_, rfl, rfl⟩
  · simp (disch := omega) only [chk_ix, chk_bo, cl_n, nI_add, pk_mul, pk_sub, nI_leI, nI_ltI, nI_eq, if_pos, if_neg, upd_e, pk_un, Option.bind_some, zlit, zlitL, within_x, in_m, has_x, reduceIte, Bool.false_eq_true, many_m, ht.2.2.2.2.2]
    exact ⟨_, rfl, rfl⟩
  · simp (disch := omega) only [chk_ix, chk_bo, cl_n, nI_add, pk_mul, pk_sub, nI_leI, nI_ltI, nI_eq, if_pos, if_neg, upd_e, pk_un, Option.bind_some, zlit, zlitL, within_x, in_m, has_x, reduceIte, Bool.false_eq_true, many_m, s1, s3]
    exact ⟨_, rfl, congrArg some (sm_cong (fun i hi => (hw i hi).2.2.2.2.2.1))⟩
  · simp (disch := omega) only [chk_ix, chk_bo, cl_n, nI_add, pk_mul, pk_sub, nI_leI, nI_ltI, nI_eq, if_pos, if_neg, upd_e, pk_un, Option.bind_some, zlit, zlitL, within_x, in_m, has_x, reduceIte, Bool.false_eq_true, many_m, s2, s4]
    exact ⟨_, rfl, congrArg some (sm_cong (fun i hi => (hw i hi).2.2.2.2.2.2))⟩
  · simp (disch := omega) only [chk_ix, chk_bo, cl_n, nI_add, pk_mul, pk_sub, nI_leI, nI_ltI, nI_eq, if_pos, if_neg, upd_e, pk_un, Option.bind_some, zlit, zlitL, within_x, in_m, has_x, reduceIte, Bool.false_eq_true, many_m, ht.2.1]
    exact ⟨_, rfl, rfl⟩
  · simp (disch := omega) only [chk_ix, chk_bo, cl_n, nI_add, pk_mul, pk_sub, nI_leI, nI_ltI, nI_eq, if_pos, if_neg, upd_e, pk_un, Option.bind_some, zlit, zlitL, within_x, in_m, has_x, reduceIte, Bool.false_eq_true, many_m, ht.2.2.1]
    exact ⟨_, rfl, rfl⟩
  · simp (disch := omega) only [chk_ix, chk_bo, cl_n, nI_add, pk_mul, pk_sub, nI_leI, nI_ltI, nI_eq, if_pos, if_neg, upd_e, pk_un, Option.bind_some, zlit, zlitL, within_x, in_m, has_x, reduceIte, Bool.false_eq_true, many_m, ht.2.2.2.1]
    exact ⟨_, rfl, rfl⟩
  · simp (disch := omega) only [chk_ix, chk_bo, cl_n, nI_add, pk_mul, pk_sub, nI_leI, nI_ltI, nI_eq, if_pos, if_neg, upd_e, pk_un, Option.bind_some, zlit, zlitL, within_x, in_m, has_x, reduceIte, Bool.false_eq_true, many_m]
    exact ⟨_, rfl, rfl⟩
theorem rs_count : Rs_count := by
  unfold Rs_count
  intro x_above x_below x_bads x_nos x_fulls pressure day wells lefts notes undos kind wanted hours had due leftHour leftPressure note past len text m_above m_below m_bytesLong m_told m_refused m_bytes a1 hR
  obtain ⟨hP, hr, hf, nt, rfl, hnt, rfl, htx⟩ := id hR
  unfold f_X4_count f_X5_count f_X4_bad
  cases h1 : rgb 0 8 a1 with
  | false =>
    simp (disch := omega) only [chk_ix, chk_bo, cl_n, nI_add, pk_mul, pk_sub, nI_leI, nI_ltI, nI_eq, if_pos, if_neg, upd_e, pk_un, Option.bind_some, zlit, zlitL, within_x, in_m, has_x, reduceIte, Bool.false_eq_true, h1, bad_m]
    exact ⟨_, _, rfl, rfl, rfl, Rel_bad hR⟩
  | true =>
    obtain ⟨c, -, hc, rfl⟩ := rg_of h1 (by omega)
    obtain ⟨v, e1, e2⟩ := counted_eq (F := FU) (ltF (by omega)) hP (nI nt) hc
    simp (disch := omega) only [chk_ix, chk_bo, cl_n, nI_add, pk_mul, pk_sub, nI_leI, nI_ltI, nI_eq, if_pos, if_neg, upd_e, pk_un, Option.bind_some, zlit, zlitL, within_x, in_m, has_x, reduceIte, Bool.false_eq_true, h1, e1, e2]
    exact ⟨_, _, rfl, rfl, rfl, hR⟩
/-- the sums of the digest -/
def hs (h : Int64) (f : Nat → Int32) : Nat → Int64
  | 0 => h
  | k + 1 => 31 * hs h f k + (f k).toInt64
theorem hs_cong {h : Int64} {f g : Nat → Int32} : ∀ {n : Nat}, (∀ i, i < n → f i = g i) → hs h f n = hs h g n
  | 0, _ => rfl
  | n + 1, hh => by
    unfold hs
    rw [hs_cong (n := n) (fun i hi => hh i (by omega)), hh n (by omega)]
theorem sums_m {F n a : Nat} (hF : n < F) (h : Int64) (t : Nat → Int32) (ha : a + n ≤ 251) : f_X5_sums F h (nI a) (nI n) t = some (hs h (fun i => t (a + i)) n) := by
  unfold f_X5_sums
  refine loopN (fun m k => f_X5_sums_b6 F h (nI a) (nI n) t m (hs h (fun i => t (a + i)) k) (nI k)) _ n ?_ ?_ F hF
  · intro k m hk
    show f_X5_sums_b6 F h (nI a) (nI n) t (m + 1) (hs h _ k) (nI k) = f_X5_sums_b6 F h (nI a) (nI n) t m (hs h _ (k + 1)) (nI (k + 1))
    rw [f_X5_sums_b6, if_neg (nI_ge hk (by omega)), nI_add, chk_t (ix_n (by omega) (by omega)), cl_n (by omega), nI_1]
    rfl
  · intro m
    show f_X5_sums_b6 F h (nI a) (nI n) t (m + 1) _ (nI n) = _
    rw [f_X5_sums_b6, if_pos (nI_le (Nat.le_refl n) (by omega))]
/-- a well's five numbers -/
def hw5 (h : Int64) (K Q H A D : Nat → Int32) : Nat → Int64
  | 0 => h
  | k + 1 => 31 * (31 * (31 * (31 * (31 * hw5 h K Q H A D k + (K k).toInt64) + (Q k).toInt64) + (H k).toInt64) + (A k).toInt64) + (D k).toInt64
theorem hw5_cong {h : Int64} {K Q H A D K' Q' H' A' D' : Nat → Int32} : ∀ {n : Nat}, (∀ i, i < n → K i = K' i ∧ Q i = Q' i ∧ H i = H' i ∧ A i = A' i ∧ D i = D' i) → hw5 h K Q H A D n = hw5 h K' Q' H' A' D' n
  | 0, _ => rfl
  | n + 1, hh => by
    unfold hw5
    obtain ⟨h1, h2, h3, h4, h5⟩ := hh n (by omega)
    rw [hw5_cong (n := n) (fun i hi => hh i (by omega)), h1, h2, h3, h4, h5]
def hl2 (h : Int64) (A B : Nat → Int32) : Nat → Int64
  | 0 => h
  | k + 1 => 31 * (31 * hl2 h A B k + (A k).toInt64) + (B k).toInt64
theorem hl2_hs {h : Int64} {A B t : Nat → Int32} : ∀ {n : Nat}, (∀ k, k < n → t (2 * k) = A k ∧ t (2 * k + 1) = B k) → hs h t (2 * n) = hl2 h A B n
  | 0, _ => rfl
  | n + 1, hh => by
    rw [show 2 * (n + 1) = 2 * n + 1 + 1 by omega]
    unfold hl2 hs
    unfold hs
    rw [hl2_hs (n := n) (fun i hi => hh i (by omega)), (hh n (by omega)).1, (hh n (by omega)).2]
def hc9 (v : Nat → Int32) : Nat → Int64
  | 0 => 1439
  | k + 1 => 31 * hc9 v k + (v k).toInt64
theorem rs_digest : Rs_digest := by
  unfold Rs_digest
  intro x_above x_below x_bads x_nos x_fulls pressure day wells lefts notes undos kind wanted hours had due leftHour leftPressure note past len text m_above m_below m_bytesLong m_told m_refused m_bytes hR
  obtain ⟨hP, hr, hf, nt, rfl, hnt, rfl, htx⟩ := id hR
  have hv : ∃ v : Nat → Int32, ∀ c, c ≤ 8 → f_X4_howMany FU (nI c) pressure day wells lefts notes undos had due (nI nt) = some (v c) ∧ f_X5_counted FU (nI c) (nI nt) m_told = some (v c) := by
    refine ⟨fun c => if h : c ≤ 8 then Classical.choose (counted_eq (F := FU) (ltF (by omega)) hP (nI nt) h) else 0, fun c hc => ?_⟩
    have := Classical.choose_spec (counted_eq (F := FU) (ltF (by omega)) hP (nI nt) hc)
    dsimp only
    rw [dif_pos hc]
    exact this
  obtain ⟨v, hv⟩ := hv
  obtain ⟨n, nl, nn, nu, d, p, ⟨rfl, hn, rfl, hnl, rfl, hnn, h4⟩, ht, hw, hl, hno, -⟩ := id hP
  refine ⟨31 * (31 * hs (hl2 (hw5 (hc9 v 9) kind wanted hours had due n) leftHour leftPressure nl) note (6 * nn) + x_above.toInt64) + x_below.toInt64, 31 * (31 * hs (hs (hw5 (hc9 v 9) (fun i => m_told (26 + i)) (fun i => m_told (19 + i)) (fun i => m_told (14 + i)) (fun i => m_told (4 + i)) (fun i => m_told (9 + i)) n) (fun i => m_told (31 + i)) (2 * nl)) (fun i => m_told (39 + i)) (6 * nn) + m_above) + m_below, ?_, ?_, ?_, hR⟩
  · unfold f_X4_digest
    have k1 : ∀ h : Int64, f_X4_digest_b190 FU x_above x_below pressure day (nI n) (nI nl) (nI nn) undos had due (nI nt) kind wanted hours leftHour leftPressure note FU h 0 = some (31 * (31 * hs h note (6 * nn) + x_above.toInt64) + x_below.toInt64) := by
      intro h
      refine loopN (fun m k => f_X4_digest_b190 FU x_above x_below pressure day (nI n) (nI nl) (nI nn) undos had due (nI nt) kind wanted hours leftHour leftPressure note m (hs h note k) (nI k)) _ (6 * nn) ?_ ?_ FU (ltF (by omega))
      · intro k m hk
        show f_X4_digest_b190 FU x_above x_below pressure day (nI n) (nI nl) (nI nn) undos had due (nI nt) kind wanted hours leftHour leftPressure note (m + 1) _ (nI k) = f_X4_digest_b190 FU x_above x_below pressure day (nI n) (nI nl) (nI nn) undos had due (nI nt) kind wanted hours leftHour leftPressure note m _ (nI (k + 1))
        rw [f_X4_digest_b190, show nI nn * (6 : Int32) = nI (nn * 6) from pk_mul nn 6, if_neg (nI_ge (by omega) (by omega)), chk_t (ix_n (by omega) (by omega)), cl_n (by omega), nI_1]
        rfl
      · intro m
        show f_X4_digest_b190 FU x_above x_below pressure day (nI n) (nI nl) (nI nn) undos had due (nI nt) kind wanted hours leftHour leftPressure note (m + 1) _ (nI (6 * nn)) = _
        rw [f_X4_digest_b190, show nI nn * (6 : Int32) = nI (nn * 6) from pk_mul nn 6, if_pos (nI_le (by omega) (by omega))]
    have k2 : ∀ h : Int64, f_X4_digest_b137 FU x_above x_below pressure day (nI n) (nI nl) (nI nn) undos had due (nI nt) kind wanted hours leftHour leftPressure note FU h 0 = some (31 * (31 * hs (hl2 h leftHour leftPressure nl) note (6 * nn) + x_above.toInt64) + x_below.toInt64) := by
      intro h
      rw [← k1]
      refine loopN (fun m k => f_X4_digest_b137 FU x_above x_below pressure day (nI n) (nI nl) (nI nn) undos had due (nI nt) kind wanted hours leftHour leftPressure note m (hl2 h leftHour leftPressure k) (nI k)) _ nl ?_ ?_ FU (ltF (by omega))
      · intro k m hk
        show f_X4_digest_b137 FU x_above x_below pressure day (nI n) (nI nl) (nI nn) undos had due (nI nt) kind wanted hours leftHour leftPressure note (m + 1) _ (nI k) = f_X4_digest_b137 FU x_above x_below pressure day (nI n) (nI nl) (nI nn) undos had due (nI nt) kind wanted hours leftHour leftPressure note m _ (nI (k + 1))
        rw [f_X4_digest_b137, if_neg (nI_ge (by omega) (by omega)), chk_t (ix_n (by omega) (by omega)), chk_t (ix_n (by omega) (by omega)), cl_n (by omega), nI_1]
        rfl
      · intro m
        show f_X4_digest_b137 FU x_above x_below pressure day (nI n) (nI nl) (nI nn) undos had due (nI nt) kind wanted hours leftHour leftPressure note (m + 1) _ (nI nl) = _
        rw [f_X4_digest_b137, if_pos (nI_le (by omega) (by omega))]
    have k3 : ∀ h : Int64, f_X4_digest_b33 FU x_above x_below pressure day (nI n) (nI nl) (nI nn) undos had due (nI nt) kind wanted hours leftHour leftPressure note FU h 0 = some (31 * (31 * hs (hl2 (hw5 h kind wanted hours had due n) leftHour leftPressure nl) note (6 * nn) + x_above.toInt64) + x_below.toInt64) := by
      intro h
      rw [← k2]
      refine loopN (fun m k => f_X4_digest_b33 FU x_above x_below pressure day (nI n) (nI nl) (nI nn) undos had due (nI nt) kind wanted hours leftHour leftPressure note m (hw5 h kind wanted hours had due k) (nI k)) _ n ?_ ?_ FU (ltF (by omega))
      · intro k m hk
        show f_X4_digest_b33 FU x_above x_below pressure day (nI n) (nI nl) (nI nn) undos had due (nI nt) kind wanted hours leftHour leftPressure note (m + 1) _ (nI k) = f_X4_digest_b33 FU x_above x_below pressure day (nI n) (nI nl) (nI nn) undos had due (nI nt) kind wanted hours leftHour leftPressure note m _ (nI (k + 1))
        rw [f_X4_digest_b33, if_neg (nI_ge (by omega) (by omega)), chk_t (ix_n (by omega) (by omega)), chk_t (ix_n (by omega) (by omega)), chk_t (ix_n (by omega) (by omega)), chk_t (ix_n (by omega) (by omega)), chk_t (ix_n (by omega) (by omega)), cl_n (by omega), nI_1]
        rfl
      · intro m
        show f_X4_digest_b33 FU x_above x_below pressure day (nI n) (nI nl) (nI nn) undos had due (nI nt) kind wanted hours leftHour leftPressure note (m + 1) _ (nI n) = _
        rw [f_X4_digest_b33, if_pos (nI_le (by omega) (by omega))]
    rw [← k3]
    refine loopN (fun m k => f_X4_digest_b6 FU x_above x_below pressure day (nI n) (nI nl) (nI nn) undos had due (nI nt) kind wanted hours leftHour leftPressure note m (hc9 v k) (nI k)) _ 9 ?_ ?_ FU (ltF (by omega))
    · intro k m hk
      show f_X4_digest_b6 FU x_above x_below pressure day (nI n) (nI nl) (nI nn) undos had due (nI nt) kind wanted hours leftHour leftPressure note (m + 1) _ (nI k) = f_X4_digest_b6 FU x_above x_below pressure day (nI n) (nI nl) (nI nn) undos had due (nI nt) kind wanted hours leftHour leftPressure note m _ (nI (k + 1))
      rw [f_X4_digest_b6, if_neg (show ¬ (8 : Int32) < nI k from nI_nlt (a := 8) (by omega) (by omega)), (hv k (by omega)).1, Option.bind_some, nI_1]
      rfl
    · intro m
      show f_X4_digest_b6 FU x_above x_below pressure day (nI n) (nI nl) (nI nn) undos had due (nI nt) kind wanted hours leftHour leftPressure note (m + 1) _ (nI 9) = _
      rw [f_X4_digest_b6, if_pos (show (8 : Int32) < nI 9 from by decide)]
  · unfold f_X5_digest
    have k3 : ∀ h : Int64, f_X5_digest_b33 FU m_above m_below (nI nt) m_told FU h 0 = some (31 * (31 * hs (hs (hw5 h (fun i => m_told (26 + i)) (fun i => m_told (19 + i)) (fun i => m_told (14 + i)) (fun i => m_told (4 + i)) (fun i => m_told (9 + i)) n) (fun i => m_told (31 + i)) (2 * nl)) (fun i => m_told (39 + i)) (6 * nn) + m_above) + m_below) := by
      intro h
      refine loopN (fun m k => f_X5_digest_b33 FU m_above m_below (nI nt) m_told m (hw5 h (fun i => m_told (26 + i)) (fun i => m_told (19 + i)) (fun i => m_told (14 + i)) (fun i => m_told (4 + i)) (fun i => m_told (9 + i)) k) (nI k)) _ n ?_ ?_ FU (ltF (by omega))
      · intro k m hk
        show f_X5_digest_b33 FU m_above m_below (nI nt) m_told (m + 1) _ (nI k) = f_X5_digest_b33 FU m_above m_below (nI nt) m_told m _ (nI (k + 1))
        rw [f_X5_digest_b33, many_m, Option.bind_some, ht.1, if_neg (nI_ge (by omega) (by omega)), show (26 : Int32) + nI k = nI (26 + k) from nI_add 26 k, show (19 : Int32) + nI k = nI (19 + k) from nI_add 19 k, show (14 : Int32) + nI k = nI (14 + k) from nI_add 14 k, show (4 : Int32) + nI k = nI (4 + k) from nI_add 4 k, show (9 : Int32) + nI k = nI (9 + k) from nI_add 9 k,
          chk_t (ix_n (by omega) (by omega)), chk_t (ix_n (by omega) (by omega)), chk_t (ix_n (by omega) (by omega)), chk_t (ix_n (by omega) (by omega)), chk_t (ix_n (by omega) (by omega)), cl_n (by omega), cl_n (by omega), cl_n (by omega), cl_n (by omega), cl_n (by omega), nI_1]
        rfl
      · intro m
        show f_X5_digest_b33 FU m_above m_below (nI nt) m_told (m + 1) _ (nI n) = _
        rw [f_X5_digest_b33, many_m, Option.bind_some, ht.1, if_pos (nI_le (by omega) (by omega)), chk_t (by decide), show m_told (1 : Int32).toNatClampNeg = nI nl from ht.2.1, show (2 : Int32) * nI nl = nI (2 * nl) from pk_mul 2 nl, show (31 : Int32) = nI 31 from rfl, sums_m (ltF (by omega)) _ _ (by omega), Option.bind_some, chk_t (by decide), show m_told (2 : Int32).toNatClampNeg = nI nn from ht.2.2.1, show (6 : Int32) * nI nn = nI (6 * nn) from pk_mul 6 nn, show (39 : Int32) = nI 39 from rfl, sums_m (ltF (by omega)) _ _ (by omega), Option.bind_some]
    rw [← k3]
    refine loopN (fun m k => f_X5_digest_b6 FU m_above m_below (nI nt) m_told m (hc9 v k) (nI k)) _ 9 ?_ ?_ FU (ltF (by omega))
    · intro k m hk
      show f_X5_digest_b6 FU m_above m_below (nI nt) m_told (m + 1) _ (nI k) = f_X5_digest_b6 FU m_above m_below (nI nt) m_told m _ (nI (k + 1))
      rw [f_X5_digest_b6, if_neg (show ¬ (9 : Int32) ≤ nI k from nI_ge (b := 9) (by omega) (by omega)), (hv k (by omega)).2, Option.bind_some, nI_1]
      rfl
    · intro m
      show f_X5_digest_b6 FU m_above m_below (nI nt) m_told (m + 1) _ (nI 9) = _
      rw [f_X5_digest_b6, if_pos (show (9 : Int32) ≤ nI 9 from by decide)]
  · rw [hf.1, hf.2, hl2_hs (A := leftHour) (B := leftPressure) (fun k hk => ⟨(hl k hk).2.1, by rw [← (hl k hk).2.2, show 32 + 2 * k = 31 + (2 * k + 1) by omega]⟩), hw5_cong (K' := kind) (Q' := wanted) (H' := hours) (A' := had) (D' := due) (fun i hi => (hw i hi).2.2), hs_cong (f := fun i => m_told (39 + i)) (g := note) (fun i hi => ?_)]
    have := (hno (i / 6) (by omega)).2 (i % 6) (by omega)
    rw [show 39 + 6 * (i / 6) + i % 6 = 39 + i by omega, show 6 * (i / 6) + i % 6 = i by omega] at this
    exact this

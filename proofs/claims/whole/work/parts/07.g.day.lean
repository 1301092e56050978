/-! PURE: hour, daily; who may draw -/
/-- all wells, as the class has them by bits -/
theorem every_bt {n j : Nat} (hn : n ≤ 5) (hj : j < n) (x : Int32) : bt (x &&& (((1 : Int32) <<< (nI n &&& 31)) - 1)) j = bt x j := by
  have h : ∀ a b : Fin 6, b.val < a.val → bt (((1 : Int32) <<< (nI a.val &&& 31)) - 1) b.val = true := by decide +kernel
  rw [b_and, h ⟨n, by omega⟩ ⟨j, by omega⟩ hj, Bool.and_true]
theorem none_bt (x : Int32) {j : Nat} (hj : j < 32) : bt (x &&& ((0 : Int32) ^^^ (-1))) j = bt x j := by
  rw [b_and, b_xor, b_0, b_m1 j hj]
  simp
theorem but_bt {a j : Nat} (ha : a < 5) (hj : j < 5) : bt (((1 : Int32) <<< (nI a &&& 31)) ^^^ (-1)) j = !decide (j = a) := by
  have h : ∀ a b : Fin 5, bt (((1 : Int32) <<< (nI a.val &&& 31)) ^^^ (-1)) b.val = !decide (b.val = a.val) := by decide +kernel
  exact h ⟨a, ha⟩ ⟨j, hj⟩
theorem everyWell_x (F n : Nat) : f_X1_everyWell F (nI n) = some (((1 : Int32) <<< (nI n &&& 31)) - 1) := rfl
/-- the reference's hour is the class's -/
theorem ga_same {K Q K' Q' H H' : Nat → Int32} {n i : Nat} (hn : n ≤ 5) (hi : i < n) (hw : ∀ j, j < n → K' j = K j ∧ Q' j = Q j ∧ H' j = H j) (h p : Int32) : ga K' Q' h (op H' h n) p i = ga K Q h (op H h n) p i := by
  rw [op_cong (H := H') (H' := H) (fun j hj => (hw j hj).2.2)]
  exact ga_cong (n := n) (fun j hj => ⟨(hw j hj).1, (hw j hj).2.1, Iff.rfl⟩) hi
theorem lo_same {K Q K' Q' H H' : Nat → Int32} {n i : Nat} (hi : i ≤ n) (hw : ∀ j, j < n → K' j = K j ∧ Q' j = Q j ∧ H' j = H j) (h p : Int32) : lo K' Q' h (op H' h n) p i = lo K Q h (op H h n) p i := by
  rw [op_cong (H := H') (H' := H) (fun j hj => (hw j hj).2.2)]
  exact lo_cong (fun j hj => ⟨(hw j (by omega)).1, (hw j (by omega)).2.1, Iff.rfl⟩)
theorem rs_hour : Rs_hour := by
  unfold Rs_hour
  intro x_above x_below x_bads x_nos x_fulls pressure day wells lefts notes undos leftOver kind wanted hours had due leftHour leftPressure note past ahead gets len text m_above m_below m_leftBehind m_bytesLong m_told m_refused m_gets m_ahead m_bytes a1 a2 a3 hR
  obtain ⟨hP, hr, hf, hx⟩ := id hR
  obtain ⟨n, nl, nn, nu, d, p, ⟨rfl, hn, -⟩, ht, hw, -⟩ := id hP
  have hw' : ∀ j, j < n → m_told (26 + j) = kind j ∧ m_told (19 + j) = wanted j ∧ m_told (14 + j) = hours j := fun j hj => ⟨(hw j hj).2.2.1, (hw j hj).2.2.2.1, (hw j hj).2.2.2.2.1⟩
  unfold f_X4_hour f_X4_hour_b27 f_X5_hour f_X5_hour_b27 f_X4_bad
  have hW := fun x => isWell_m FU x (t := m_told) ht.1 (by omega)
  cases h1 : hsb n a1 with
  | false =>
    simp (disch := omega) only [chk_ix, chk_bo, cl_n, nI_add, pk_mul, pk_sub, nI_leI, nI_ltI, nI_eq, if_pos, if_neg, upd_e, pk_un, Option.bind_some, zlit, zlitL, within_x, in_m, has_x, reduceIte, Bool.false_eq_true, hW, h1, bad_m]
    exact ⟨_, _, rfl, rfl, rfl, Rel_bad hR⟩
  | true =>
    obtain ⟨i, hi, rfl⟩ := hs_of h1 (by omega)
    cases h2 : rgb 0 7 a2 with
    | false =>
      simp (disch := omega) only [chk_ix, chk_bo, cl_n, nI_add, pk_mul, pk_sub, nI_leI, nI_ltI, nI_eq, if_pos, if_neg, upd_e, pk_un, Option.bind_some, zlit, zlitL, within_x, in_m, has_x, reduceIte, Bool.false_eq_true, hW, h1, h2, bad_m, isHour_x, isHour_m]
      exact ⟨_, _, rfl, rfl, rfl, Rel_bad hR⟩
    | true =>
      obtain ⟨h, -, hh, rfl⟩ := rg_of h2 (by omega)
      cases h3 : rgb 0 2 a3 with
      | false =>
        simp (disch := omega) only [chk_ix, chk_bo, cl_n, nI_add, pk_mul, pk_sub, nI_leI, nI_ltI, nI_eq, if_pos, if_neg, upd_e, pk_un, Option.bind_some, zlit, zlitL, within_x, in_m, has_x, reduceIte, Bool.false_eq_true, hW, h1, h2, h3, bad_m, isHour_x, isHour_m]
        exact ⟨_, _, rfl, rfl, rfl, Rel_bad hR⟩
      | true =>
        obtain ⟨c, -, hc, rfl⟩ := rg_of h3 (by omega)
        have hG := fun l0 ah ge => goHour_m (F := FU) (n := n) (N := 251) (hh := h) (ltF (by omega)) hn (by omega) (by omega) (by omega) (m_told 24) (op (fun i => m_told (14 + i)) (nI h) n) ht.1 l0 ah ge
        have hO := openIn_m (F := FU) (n := n) (N := 251) (ltF (by omega)) hn (by omega) (by omega) (nI h) ht.1
        have hO2 := openIn_x (F := FU) (n := n) (ltF (by omega)) hn (nI h) hours
        have hG2 := fun l0 ah ge => runHour_x (F := FU) (n := n) (ltF (by omega)) hn (nI h) (op hours (nI h) n) pressure kind wanted ah ge l0
        rcases (show c = 0 ∨ c = 1 ∨ c = 2 by omega) with rfl | rfl | rfl
        · simp (disch := omega) only [chk_ix, chk_bo, cl_n, nI_add, pk_mul, pk_sub, nI_leI, nI_ltI, nI_eq, if_pos, if_neg, upd_e, pk_un, Option.bind_some, zlit, zlitL, within_x, in_m, has_x, reduceIte, Bool.false_eq_true, hW, h1, h2, h3, isHour_x, isHour_m, hO, hG, hO2, hG2]
          refine ⟨_, _, rfl, rfl, ?_, hR⟩
          dsimp only
          rw [pre_in hi, pre_in hi, ht.2.2.2.2.1]
          exact (ga_same hn hi hw' _ _).symm
        · simp (disch := omega) only [chk_ix, chk_bo, cl_n, nI_add, pk_mul, pk_sub, nI_leI, nI_ltI, nI_eq, if_pos, if_neg, upd_e, pk_un, Option.bind_some, zlit, zlitL, within_x, in_m, has_x, reduceIte, Bool.false_eq_true, hW, h1, h2, h3, isHour_x, isHour_m, hO, hG, hO2, hG2]
          refine ⟨_, _, rfl, rfl, ?_, hR⟩
          dsimp only
          rw [pre_in hi, pre_in hi, ht.2.2.2.2.1]
          exact (lo_same (by omega) hw' _ _).symm
        · simp (disch := omega) only [chk_ix, chk_bo, cl_n, nI_add, pk_mul, pk_sub, nI_leI, nI_ltI, nI_eq, if_pos, if_neg, upd_e, pk_un, Option.bind_some, zlit, zlitL, within_x, in_m, has_x, reduceIte, Bool.false_eq_true, hW, h1, h2, h3, isHour_x, isHour_m, hO, hG, hO2, hG2]
          refine ⟨_, _, rfl, rfl, ?_, hR⟩
          dsimp only
          rw [ht.2.2.2.2.1]
          exact (lo_same (Nat.le_refl n) hw' _ _).symm

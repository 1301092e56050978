/-! PURE: noons -/
theorem gcd_step (a b : Nat) : Nat.gcd a b = Nat.gcd b (a % b) := by
  rw [Nat.gcd_comm a b, Nat.gcd_rec b a, Nat.gcd_comm]
theorem gcd_x (F : Nat) (a0 a1 : Int32) : ∀ b m a c, b < m → b + c ≤ 99 → a < 1000 → f_X4_commonDivisor_b7 F a0 a1 m (nI a) (nI b) (nI c) = some (nI (Nat.gcd a b)) := by
  intro b
  induction b using Nat.strongRecOn with
  | ind b ih =>
    intro m a c hm hc ha
    obtain ⟨m, rfl⟩ : ∃ q, m = q + 1 := ⟨m - 1, by omega⟩
    rw [f_X4_commonDivisor_b7, if_neg (show ¬ (100 : Int32) ≤ nI c from nI_ge (b := 100) (by omega) (by omega))]
    by_cases h0 : b = 0
    · subst h0
      rw [if_pos (show nI 0 = (0 : Int32) from rfl), Nat.gcd_zero_right]
    · have hz : ¬ nI b = (0 : Int32) := fun z => h0 ((nI_eq (b := 0) (by omega) (by omega)).mp z)
      rw [if_neg hz, chk_t (decide_eq_true hz), pk_rem (by omega) (by omega) (by omega), nI_1, gcd_step a b]
      have hlt := Nat.mod_lt a (show 0 < b by omega)
      exact ih (a % b) hlt m b (c + 1) (by omega) (by omega) (by omega)
theorem cmp_0 (x : Int64) : lg_cmp x 0 = 0 ↔ x = 0 := by
  unfold lg_cmp
  by_cases h : x > 0
  · rw [if_pos h]
    refine ⟨fun z => absurd z (by decide), fun z => ?_⟩
    subst z
    exact absurd h (by decide)
  · rw [if_neg h]
    by_cases he : x = 0
    · rw [if_pos he]; exact ⟨fun _ => he, fun _ => rfl⟩
    · rw [if_neg he]; exact ⟨fun z => absurd z (by decide), fun z => absurd z he⟩
theorem gcd_m {F N : Nat} (hN : N < 1000) (ab be : Int64) : ∀ b m a, b < m → a < 1000 → b < 1000 → 0 < Nat.gcd a b → f_X5_fraction_b6 F (lN N) (lN 10) m (lN a) (lN b) ab be = some (lN (N / Nat.gcd a b), lN (10 / Nat.gcd a b)) := by
  intro b
  induction b using Nat.strongRecOn with
  | ind b ih =>
    intro m a hm ha hb hg
    obtain ⟨m, rfl⟩ : ∃ q, m = q + 1 := ⟨m - 1, by omega⟩
    rw [f_X5_fraction_b6]
    by_cases h0 : b = 0
    · subst h0
      rw [Nat.gcd_zero_right] at hg ⊢
      have hz : ¬ lN a = (0 : Int64) := fun z => absurd ((lN_eq (b := 0) (by omega) (by omega)).mp z) (by omega)
      rw [if_pos (show lg_cmp (lN 0) 0 = 0 from (cmp_0 _).mpr rfl), chk_t (decide_eq_true hz), chk_t (decide_eq_true hz), pk_lDiv (by omega) hg (by omega), pk_lDiv (by omega) hg (by omega)]
    · have hz : ¬ lN b = (0 : Int64) := fun z => h0 ((lN_eq (b := 0) (by omega) (by omega)).mp z)
      have hlt := Nat.mod_lt a (show 0 < b by omega)
      rw [if_neg (fun z => hz ((cmp_0 _).mp z)), chk_t (decide_eq_true hz), pk_lRem (by omega) (by omega) (by omega)]
      rw [gcd_step a b] at hg ⊢
      exact ih (a % b) hlt m b (by omega) (by omega) (by omega) hg
theorem frac_x {F N : Nat} (hF : 200 < F) (hN : N < 1000) (ab be : Int32) : f_X4_setFraction F (nI N) 10 ab be = some (nI (N / Nat.gcd N 10), nI (10 / Nat.gcd N 10)) := by
  have hg : 0 < Nat.gcd N 10 := Nat.gcd_pos_of_pos_right _ (by omega)
  have hl : Nat.gcd N 10 ≤ 10 := Nat.gcd_le_right _ (by omega)
  have e : f_X4_commonDivisor F (nI N) 10 = some (nI (Nat.gcd N 10)) := gcd_x F (nI N) 10 10 F N 0 (by omega) (by omega) (by omega)
  have hz : ¬ nI (Nat.gcd N 10) = (0 : Int32) := fun z => absurd ((nI_eq (b := 0) (by omega) (by omega)).mp z) (by omega)
  unfold f_X4_setFraction
  rw [e, Option.bind_some, if_neg hz, chk_t (decide_eq_true hz), chk_t (decide_eq_true hz), show (10 : Int32) = nI 10 from rfl, pk_div (by omega) hg (by omega), pk_div (by omega) hg (by omega)]
theorem frac_m {F N : Nat} (hF : 200 < F) (hN : N < 1000) (ab be : Int64) : f_X5_fraction F (lN N) 10 ab be = some (lN (N / Nat.gcd N 10), lN (10 / Nat.gcd N 10)) :=
  gcd_m hN ab be 10 F N (by omega) (by omega) (by omega) (Nat.gcd_pos_of_pos_right _ (by omega))
theorem rs_noons : Rs_noons := by
  unfold Rs_noons
  intro x_above x_below x_bads x_nos x_fulls pressure day wells lefts notes undos leftOver kind wanted hours had due leftHour leftPressure note past ahead gets len text m_above m_below m_leftBehind m_bytesLong m_told m_refused m_gets m_ahead m_bytes a1 a2 a3 hR
  obtain ⟨hP, hr, hf, hx⟩ := id hR
  obtain ⟨n, nl, nn, nu, d, p, ⟨rfl, hn, -, -, -, -, -, -, -, -, rfl, hp⟩, ht, hw, -⟩ := id hP
  have hw' : ∀ j, j < n → m_told (26 + j) = kind j ∧ m_told (19 + j) = wanted j ∧ m_told (14 + j) = hours j := fun j hj => ⟨(hw j hj).2.2.1, (hw j hj).2.2.2.1, (hw j hj).2.2.2.2.1⟩
  unfold f_X4_noons f_X4_noons_b28 f_X5_noons f_X5_noons_b27 f_X4_bad
  rw [has_x FU a1 (by omega), isWell_m FU a1 ht.1 (by omega), isHour_x, isHour_m, show f_X4_within FU a3 0 10 = _ from within_x FU a3 (a := 0) (b := 10) (by omega) (by omega), show f_X5_in FU a3.toInt64 0 10 = _ from in_m FU a3 (a := 0) (b := 10) (by omega) (by omega)]
  simp only [Option.bind_some]
  cases h1 : hsb n a1 with
  | false =>
    rw [if_neg (show ¬ false = true by decide), if_pos (show nI 0 = (0 : Int32) from rfl), if_pos (show nI 0 = (0 : Int32) from rfl), bad_m, Option.bind_some]
    exact ⟨_, _, rfl, rfl, rfl, Rel_bad hR⟩
  | true =>
    obtain ⟨a, ha, rfl⟩ := hs_of h1 (by omega)
    rw [if_pos rfl, if_neg ne1, if_neg ne1]
    cases h2 : rgb 0 7 a2 with
    | false =>
      rw [if_neg (show ¬ false = true by decide), if_pos (show nI 0 = (0 : Int32) from rfl), if_pos (show nI 0 = (0 : Int32) from rfl), bad_m, Option.bind_some]
      exact ⟨_, _, rfl, rfl, rfl, Rel_bad hR⟩
    | true =>
      obtain ⟨h, -, hh, rfl⟩ := rg_of h2 (by omega)
      rw [if_pos rfl, if_neg ne1, if_neg ne1]
      cases h3 : rgb 0 10 a3 with
      | false =>
        rw [if_neg (show ¬ false = true by decide), if_pos (show nI 0 = (0 : Int32) from rfl), if_pos (show nI 0 = (0 : Int32) from rfl), bad_m, Option.bind_some]
        exact ⟨_, _, rfl, rfl, rfl, Rel_bad hR⟩
      | true =>
        obtain ⟨c, -, hc, rfl⟩ := rg_of h3 (by omega)
        obtain ⟨g, hg, eg⟩ := ga_40 (n := n) (p := p) (K := kind) (Q := wanted) ha (by omega) (nI h) (op hours (nI h) n) (fun i hi => ⟨(hw i hi).1, (hw i hi).2.1.1⟩)
        obtain ⟨g2, hg2, eg2⟩ := ga_40 (n := n) (p := p / 2) (K := kind) (Q := wanted) ha (by omega) (nI h) (op hours (nI h) n) (fun i hi => ⟨(hw i hi).1, (hw i hi).2.1.1⟩)
        have hm : ∀ p', ga (fun i => m_told (26 + i)) (fun i => m_told (19 + i)) (nI h) (op (fun i => m_told (14 + i)) (nI h) n) p' a = ga kind wanted (nI h) (op hours (nI h) n) p' a := fun p' => ga_same hn ha hw' _ _
        have hc1 : c * g2 ≤ 10 * 40 := Nat.mul_le_mul hc hg2
        have hc2 : (10 - c) * g ≤ 10 * 40 := Nat.mul_le_mul (by omega) hg
        rw [if_pos rfl, if_neg ne1, if_neg ne1, show nI p / (2 : Int32) = nI (p / 2) from pk_div (d := 2) (by omega) (by omega) (by omega), getsAt_x (ltF (by omega)) hn ha, Option.bind_some]
        dsimp only
        rw [getsAt_x (ltF (by omega)) hn ha, Option.bind_some]
        dsimp only
        rw [eg, eg2, show (10 : Int32) - nI c = nI (10 - c) from pk_sub (a := 10) hc, pk_mul, pk_mul, nI_add, frac_x (ltF (by omega)) (by omega), Option.bind_some]
        rw [chk_t (by decide), show m_told (24 : Int32).toNatClampNeg = nI p from ht.2.2.2.2.1, openIn_m (n := n) (ltF (by omega)) hn (by omega) (by omega) _ ht.1, Option.bind_some, goHour_m (ltF (by omega)) hn (by omega) (by omega) (by omega) _ _ ht.1, Option.bind_some, chk_t (ix_n (by omega) (by omega)), chk_t (by decide), Option.bind_some, show nI p / (2 : Int32) = nI (p / 2) from pk_div (d := 2) (by omega) (by omega) (by omega), goHour_m (ltF (by omega)) hn (by omega) (by omega) (by omega) _ _ ht.1, Option.bind_some, chk_t (ix_n (by omega) (by omega)), cl_n (show a < 2 ^ 31 by omega)]
        dsimp only
        rw [pre_in ha, pre_in ha, hm, hm, eg, eg2, pk_mul, pk_mul, nI_add, nI_l (by omega), Nat.add_comm ((10 - c) * g) (c * g2), frac_m (ltF (by omega)) (by omega), Option.bind_some]
        refine ⟨_, _, rfl, rfl, rfl, hP, hr, ⟨?_, ?_⟩, hx⟩
        · have : (c * g2 + (10 - c) * g) / Nat.gcd (c * g2 + (10 - c) * g) 10 ≤ c * g2 + (10 - c) * g := Nat.div_le_self _ _
          exact (nI_l (by omega)).symm
        · have : 10 / Nat.gcd (c * g2 + (10 - c) * g) 10 ≤ 10 := Nat.div_le_self _ _
          exact (nI_l (by omega)).symm

/-! PURE: is, look -/
/-- whether note k is so by kind c -/
def nfB (c a1 : Int32) (note : Nat → Int32) (k : Nat) : Bool := if note (6 * k) = a1 then decide (kg c (note (6 * k + 1)) (note (6 * k + 2)) (note (6 * k + 3)) = note (6 * k + 4)) && decide (kd c (kg c (note (6 * k + 1)) (note (6 * k + 2)) (note (6 * k + 3))) = note (6 * k + 5)) else true
theorem fitsNote_x {F k : Nat} (hk : k < 6) (c : Int32) (note : Nat → Int32) : f_X4_fitsNote F c (nI (6 * k)) note = some (fl (decide (kg c (note (6 * k + 1)) (note (6 * k + 2)) (note (6 * k + 3)) = note (6 * k + 4)) && decide (kd c (kg c (note (6 * k + 1)) (note (6 * k + 2)) (note (6 * k + 3))) = note (6 * k + 5)))) := by
  unfold f_X4_fitsNote
  rw [show nI (6 * k) + (1 : Int32) = nI (6 * k + 1) from nI_add _ 1, show nI (6 * k) + (2 : Int32) = nI (6 * k + 2) from nI_add _ 2, show nI (6 * k) + (3 : Int32) = nI (6 * k + 3) from nI_add _ 3, show nI (6 * k) + (4 : Int32) = nI (6 * k + 4) from nI_add _ 4, show nI (6 * k) + (5 : Int32) = nI (6 * k + 5) from nI_add _ 5]
  rw [chk_t (ix_n (by omega) (by omega)), chk_t (ix_n (by omega) (by omega)), chk_t (ix_n (by omega) (by omega)), cl_n (show 6 * k + 1 < 2 ^ 31 by omega), cl_n (show 6 * k + 2 < 2 ^ 31 by omega), cl_n (show 6 * k + 3 < 2 ^ 31 by omega), kg_x, Option.bind_some, chk_t (ix_n (by omega) (by omega)), cl_n (show 6 * k + 4 < 2 ^ 31 by omega)]
  generalize kg c (note (6 * k + 1)) (note (6 * k + 2)) (note (6 * k + 3)) = g
  by_cases h1 : g = note (6 * k + 4)
  · rw [if_pos h1, kd_x, Option.bind_some, chk_t (ix_n (by omega) (by omega)), cl_n (show 6 * k + 5 < 2 ^ 31 by omega), decide_eq_true h1, Bool.true_and]
    by_cases h2 : kd c g = note (6 * k + 5)
    · rw [if_pos h2, decide_eq_true h2]; rfl
    · rw [if_neg h2, decide_eq_false h2]; rfl
  · rw [if_neg h1, decide_eq_false h1]; rfl
theorem fitsNotes_x {F nn : Nat} (hF : 200 < F) (hn : nn ≤ 6) (c a1 : Int32) (note : Nat → Int32) : f_X4_fitsNotes F c a1 (nI nn) note = some (fl (al (nfB c a1 note) nn)) := by
  unfold f_X4_fitsNotes
  have st : ∀ k m, k < nn → f_X4_fitsNotes_b2 F c a1 (nI nn) note (m + 1) (nI k) = if nfB c a1 note k = true then f_X4_fitsNotes_b2 F c a1 (nI nn) note m (nI (k + 1)) else some 0 := by
    intro k m hk
    rw [f_X4_fitsNotes_b2, if_neg (nI_ge hk (by omega)), show nI k * (6 : Int32) = nI (6 * k) from (pk_mul k 6).trans (by rw [Nat.mul_comm]), chk_t (ix_n (by omega) (by omega)), cl_n (by omega)]
    unfold f_X4_fitsNotes_b43 nfB
    rw [nI_1]
    by_cases h1 : note (6 * k) = a1
    · rw [if_pos h1, if_pos h1, fitsNote_x (by omega), Option.bind_some]
      generalize (decide (kg c (note (6 * k + 1)) (note (6 * k + 2)) (note (6 * k + 3)) = note (6 * k + 4)) && decide (kd c (kg c (note (6 * k + 1)) (note (6 * k + 2)) (note (6 * k + 3))) = note (6 * k + 5))) = b
      cases b
      · rw [if_pos (show fl false = 0 by decide), if_neg (by decide)]
      · rw [if_neg (show ¬ fl true = 0 by decide), if_pos rfl]
    · rw [if_neg h1, if_neg h1, if_pos rfl]
  cases hf : al (nfB c a1 note) nn with
  | true =>
    refine loopT (σ := Unit) (fun m k _ => f_X4_fitsNotes_b2 F c a1 (nI nn) note m (nI k)) (nfB c a1 note) (fun z => z = some (fl true)) nn hf ?_ ?_ F () (by omega)
    · intro k m s hk hb
      have e := st k m hk
      rw [if_pos hb] at e
      exact ⟨(), e⟩
    · intro m s
      show f_X4_fitsNotes_b2 F c a1 (nI nn) note (m + 1) (nI nn) = _
      rw [f_X4_fitsNotes_b2, if_pos (nI_le (Nat.le_refl _) (by omega))]
      rfl
  | false =>
    refine loopF (σ := Unit) (fun m k _ => f_X4_fitsNotes_b2 F c a1 (nI nn) note m (nI k)) (nfB c a1 note) (fun z => z = some (fl false)) nn hf ?_ ?_ F () (by omega)
    · intro k m s hk hb
      have e := st k m hk
      rw [if_pos hb] at e
      exact ⟨(), e⟩
    · intro k m s hk hb
      have e := st k m hk
      rw [if_neg (by rw [hb]; decide)] at e
      exact e
/-- sets by bits -/
def kB (b : Nat → Bool) : Nat → Int32
  | 0 => 0
  | k + 1 => if b k = true then kB b k ||| ((1 : Int32) <<< (nI k &&& 31)) else kB b k
theorem kB_6 (b : Nat → Bool) : ∃ x, x < 64 ∧ kB b 6 = nI x := by
  have h : ∀ b0 b1 b2 b3 b4 b5 : Bool, kB (fun k => if k = 0 then b0 else if k = 1 then b1 else if k = 2 then b2 else if k = 3 then b3 else if k = 4 then b4 else b5) 6 = nI (b0.toNat + 2 * b1.toNat + 4 * b2.toNat + 8 * b3.toNat + 16 * b4.toNat + 32 * b5.toNat) := by decide +kernel
  refine ⟨_, ?_, h (b 0) (b 1) (b 2) (b 3) (b 4) (b 5)⟩
  have t : ∀ b : Bool, b.toNat ≤ 1 := by decide
  have := t (b 0); have := t (b 1); have := t (b 2); have := t (b 3); have := t (b 4); have := t (b 5)
  omega
theorem kindsOf_x {F nn : Nat} (hF : 200 < F) (hn : nn ≤ 6) (a1 : Int32) (note : Nat → Int32) : f_X4_kindsOf F a1 (nI nn) note = some (kB (fun c => al (nfB (nI c) a1 note) nn) 6) := by
  unfold f_X4_kindsOf
  refine loopN (fun m k => f_X4_kindsOf_b4 F a1 (nI nn) note m (kB (fun c => al (nfB (nI c) a1 note) nn) k) (nI k)) _ 6 ?_ ?_ F (by omega)
  · intro k m hk
    show f_X4_kindsOf_b4 F a1 (nI nn) note (m + 1) (kB (fun c => al (nfB (nI c) a1 note) nn) k) (nI k) = f_X4_kindsOf_b4 F a1 (nI nn) note m (if al (nfB (nI k) a1 note) nn = true then kB (fun c => al (nfB (nI c) a1 note) nn) k ||| ((1 : Int32) <<< (nI k &&& 31)) else kB (fun c => al (nfB (nI c) a1 note) nn) k) (nI (k + 1))
    rw [f_X4_kindsOf_b4, if_neg (show ¬ (6 : Int32) ≤ nI k from nI_ge (b := 6) hk (by omega)), fitsNotes_x hF hn, Option.bind_some]
    unfold f_X4_kindsOf_b25
    rw [nI_1]
    cases al (nfB (nI k) a1 note) nn with
    | false => rw [if_pos (show fl false = 0 by decide), if_neg (by decide)]
    | true => rw [if_neg (show ¬ fl true = 0 by decide), if_pos rfl]
  · intro m
    show f_X4_kindsOf_b4 F a1 (nI nn) note (m + 1) _ (nI 6) = _
    rw [f_X4_kindsOf_b4, if_pos (show (6 : Int32) ≤ nI 6 by decide)]
theorem kinds16_m {F nn : Nat} (hF : 200 < F) (hn : nn ≤ 6) (a1 : Int32) {note told : Nat → Int32} (h2 : told 2 = nI nn) (hno : ∀ k, k < nn → (∃ h : Nat, note (6 * k + 2) = nI h ∧ h < 8) ∧ ∀ j, j < 6 → told (39 + 6 * k + j) = note (6 * k + j)) (K4 : Int32 → Int32 → Option Int32) (v2 c : Int32) :
    f_X5_kindsOf_b16 F a1 told K4 F v2 c 1 0 = K4 (if al (nfB c a1 note) nn = true then v2 ||| ((1 : Int32) <<< (c &&& 31)) else v2) (c + 1) := by
  have key := loopN (fun m k => f_X5_kindsOf_b16 F a1 told K4 m v2 c (fl (al (nfB c a1 note) k)) (nI k)) (K4 (if al (nfB c a1 note) nn = true then v2 ||| ((1 : Int32) <<< (c &&& 31)) else v2) (c + 1)) nn ?_ ?_ F (by omega)
  · exact key
  · intro k m hk
    show f_X5_kindsOf_b16 F a1 told K4 (m + 1) v2 c (fl (al (nfB c a1 note) k)) (nI k) = f_X5_kindsOf_b16 F a1 told K4 m v2 c (fl (al (nfB c a1 note) k && nfB c a1 note k)) (nI (k + 1))
    obtain ⟨⟨h, e1, e2⟩, e3⟩ := hno k hk
    have t0 : told (39 + 6 * k) = note (6 * k) := e3 0 (by omega)
    have t1 : told (39 + 6 * k + 1) = note (6 * k + 1) := e3 1 (by omega)
    have t2 : told (39 + 6 * k + 2) = nI h := (e3 2 (by omega)).trans e1
    have t3 : told (39 + 6 * k + 3) = note (6 * k + 3) := e3 3 (by omega)
    have t4 : told (39 + 6 * k + 4) = note (6 * k + 4) := e3 4 (by omega)
    have t5 : told (39 + 6 * k + 5) = note (6 * k + 5) := e3 5 (by omega)
    rw [f_X5_kindsOf_b16, chk_t (by decide), show told (2 : Int32).toNatClampNeg = nI nn from h2, if_neg (nI_ge hk (by omega)), show (6 : Int32) * nI k = nI (6 * k) from pk_mul 6 k, show (39 : Int32) + nI (6 * k) = nI (39 + 6 * k) from nI_add 39 _,
      show nI (39 + 6 * k) + (1 : Int32) = nI (39 + 6 * k + 1) from nI_add _ 1, show nI (39 + 6 * k) + (2 : Int32) = nI (39 + 6 * k + 2) from nI_add _ 2, show nI (39 + 6 * k) + (3 : Int32) = nI (39 + 6 * k + 3) from nI_add _ 3, show nI (39 + 6 * k) + (4 : Int32) = nI (39 + 6 * k + 4) from nI_add _ 4, show nI (39 + 6 * k) + (5 : Int32) = nI (39 + 6 * k + 5) from nI_add _ 5]
    rw [chk_t (ix_n (by omega) (by omega)), chk_t (ix_n (by omega) (by omega)), chk_t (ix_n (by omega) (by omega)), cl_n (show 39 + 6 * k + 1 < 2 ^ 31 by omega), cl_n (show 39 + 6 * k + 2 < 2 ^ 31 by omega), cl_n (show 39 + 6 * k + 3 < 2 ^ 31 by omega), t2, kg_m F _ _ _ e2, Option.bind_some, chk_t (ix_n (by omega) (by omega)), chk_t (ix_n (by omega) (by omega)), cl_n (show 39 + 6 * k + 4 < 2 ^ 31 by omega), cl_n (show 39 + 6 * k < 2 ^ 31 by omega), t0, t1, t3, t4]
    unfold nfB f_X5_kindsOf_b118 f_X5_kindsOf_b122 f_X5_kindsOf_b123
    rw [e1, nI_1]
    generalize kg c (note (6 * k + 1)) (nI h) (note (6 * k + 3)) = g
    generalize al _ k = b
    cases b with
    | false => rw [if_pos (show fl false = 0 by decide)]; rfl
    | true =>
      rw [if_neg (show ¬ fl true = 0 by decide), Bool.true_and]
      by_cases q1 : note (6 * k) = a1
      · rw [if_pos q1, if_pos q1]
        by_cases q2 : g = note (6 * k + 4)
        · rw [if_pos q2, kd_m, Option.bind_some, chk_t (ix_n (by omega) (by omega)), cl_n (show 39 + 6 * k + 5 < 2 ^ 31 by omega), t5, decide_eq_true q2, Bool.true_and]
          by_cases q3 : kd c g = note (6 * k + 5)
          · rw [if_pos q3, decide_eq_true q3]; rfl
          · rw [if_neg q3, decide_eq_false q3]; rfl
        · rw [if_neg q2, decide_eq_false q2]; rfl
      · rw [if_neg q1, if_neg q1]; rfl
  · intro m
    show f_X5_kindsOf_b16 F a1 told K4 (m + 1) v2 c (fl (al (nfB c a1 note) nn)) (nI nn) = _
    rw [f_X5_kindsOf_b16, chk_t (by decide), show told (2 : Int32).toNatClampNeg = nI nn from h2, if_pos (nI_le (Nat.le_refl _) (by omega))]
    unfold f_X5_kindsOf_b144
    cases al (nfB c a1 note) nn with
    | false => rw [if_pos (show fl false = 0 by decide), if_neg (by decide), Int32.or_zero]
    | true => rw [if_neg (show ¬ fl true = 0 by decide), if_pos rfl]
theorem kindsOf_m {F nn : Nat} (hF : 200 < F) (hn : nn ≤ 6) (a1 : Int32) {note told : Nat → Int32} (h2 : told 2 = nI nn) (hno : ∀ k, k < nn → (∃ h : Nat, note (6 * k + 2) = nI h ∧ h < 8) ∧ ∀ j, j < 6 → told (39 + 6 * k + j) = note (6 * k + j)) : f_X5_kindsOf F a1 told = some (kB (fun c => al (nfB (nI c) a1 note) nn) 6) := by
  unfold f_X5_kindsOf
  refine loopN (fun m k => f_X5_kindsOf_b4 F a1 told m (kB (fun c => al (nfB (nI c) a1 note) nn) k) (nI k)) _ 6 ?_ ?_ F (by omega)
  · intro k m hk
    show f_X5_kindsOf_b4 F a1 told (m + 1) (kB (fun c => al (nfB (nI c) a1 note) nn) k) (nI k) = f_X5_kindsOf_b4 F a1 told m (if al (nfB (nI k) a1 note) nn = true then kB (fun c => al (nfB (nI c) a1 note) nn) k ||| ((1 : Int32) <<< (nI k &&& 31)) else kB (fun c => al (nfB (nI c) a1 note) nn) k) (nI (k + 1))
    rw [f_X5_kindsOf_b4, if_neg (show ¬ (6 : Int32) ≤ nI k from nI_ge (b := 6) hk (by omega)), kinds16_m hF hn a1 h2 hno, nI_1]
  · intro m
    show f_X5_kindsOf_b4 F a1 told (m + 1) _ (nI 6) = _
    rw [f_X5_kindsOf_b4, if_pos (show (6 : Int32) ≤ nI 6 by decide)]
theorem rs_is : Rs_is := by
  unfold Rs_is
  intro x_above x_below x_bads x_nos x_fulls pressure day wells lefts notes undos kind wanted hours had due leftHour leftPressure note past len text m_above m_below m_bytesLong m_told m_refused m_bytes a1 hR
  obtain ⟨hP, hr, hf, hx⟩ := id hR
  obtain ⟨n, nl, nn, nu, d, p, ⟨rfl, hn, -, -, rfl, hnn, -⟩, ht, hw, hl, hno, -⟩ := id hP
  unfold f_X4_is f_X5_is f_X4_bad
  rw [has_x FU a1 (by omega), isWell_m FU a1 ht.1 (by omega)]
  simp only [Option.bind_some]
  cases h1 : hsb n a1 with
  | false =>
    rw [if_neg (show ¬ false = true by decide), if_pos (show nI 0 = (0 : Int32) from rfl), if_pos (show nI 0 = (0 : Int32) from rfl), bad_m, Option.bind_some]
    exact ⟨_, _, rfl, rfl, rfl, Rel_bad hR⟩
  | true =>
    rw [if_pos rfl, if_neg ne1, if_neg ne1, kindsOf_x (ltF (by omega)) hnn, kindsOf_m (ltF (by omega)) hnn a1 ht.2.2.1 hno]
    exact ⟨_, _, rfl, rfl, rfl, hR⟩

/-! PURE: the evaluator's rows, ranges on both sides -/
theorem zlit (n : Nat) : (OfNat.ofNat n : Int32) = nI n := rfl
theorem zlitL (n : Nat) : (OfNat.ofNat n : Int64) = lN n := rfl
theorem chk_ix {α : Type} {k n : Nat} {x : Option α} (h : k < n) (hn : n < 2 ^ 31) : chk (ix (nI k) n) x = x := chk_t (ix_n h hn)
theorem chk_bo {α : Type} {b : Bool} {x : Option α} : chk (bo (if b = true then nI 1 else nI 0)) x = x := by
  refine chk_t ?_
  cases b <;> rfl
theorem upd_e {f : Nat → Int32} {k j : Nat} {x : Int32} (h : j = k) : upd f k x j = x := if_pos h
/-- x is a to b -/
def rgb (a b : Nat) (x : Int32) : Bool := decide ((a : Int) ≤ x.toInt) && decide (x.toInt ≤ (b : Int))
/-- x is 0 to n - 1 -/
def hsb (n : Nat) (x : Int32) : Bool := decide (0 ≤ x.toInt) && decide (x.toInt < (n : Int))
theorem rg_of {a b : Nat} {x : Int32} (h : rgb a b x = true) (hb : b < 2 ^ 31) : ∃ k, a ≤ k ∧ k ≤ b ∧ x = nI k := by
  unfold rgb at h
  rw [Bool.and_eq_true, decide_eq_true_eq, decide_eq_true_eq] at h
  refine ⟨x.toInt.toNat, by omega, by omega, ?_⟩
  rw [i_eq, nI_toInt (by omega)]
  omega
theorem hs_of {n : Nat} {x : Int32} (h : hsb n x = true) (hb : n < 2 ^ 31) : ∃ k, k < n ∧ x = nI k := by
  unfold hsb at h
  rw [Bool.and_eq_true, decide_eq_true_eq, decide_eq_true_eq] at h
  refine ⟨x.toInt.toNat, by omega, ?_⟩
  rw [i_eq, nI_toInt (by omega)]
  omega
theorem within_x (F : Nat) (x : Int32) {a b : Nat} (ha : a < 2 ^ 31) (hb : b < 2 ^ 31) : f_X4_within F x (nI a) (nI b) = some (if rgb a b x = true then nI 1 else nI 0) := by
  unfold f_X4_within rgb
  simp only [Bool.and_eq_true, decide_eq_true_eq, i_lt, nI_toInt ha, nI_toInt hb]
  by_cases h1 : x.toInt < (a : Int)
  · rw [if_pos h1, if_neg (by omega)]; rfl
  · rw [if_neg h1]
    by_cases h2 : (b : Int) < x.toInt
    · rw [if_pos h2, if_neg (by omega)]; rfl
    · rw [if_neg h2, if_pos (by omega)]; rfl
theorem cmp_lt (x y : Int64) : (lg_cmp x y < 0) ↔ x.toInt < y.toInt := by
  unfold lg_cmp
  by_cases h : x > y
  · rw [if_pos h]
    have := Int64.lt_iff_toInt_lt.mp h
    exact ⟨fun z => absurd z (by decide), fun z => by omega⟩
  · rw [if_neg h]
    have h1 := Int64.not_lt.mp h
    have h2 := Int64.le_iff_toInt_le.mp h1
    by_cases he : x = y
    · rw [if_pos he, he]
      exact ⟨fun z => absurd z (by decide), fun z => by omega⟩
    · rw [if_neg he]
      refine ⟨fun _ => ?_, fun _ => by decide⟩
      rcases Int.lt_or_eq_of_le h2 with q | q
      · exact q
      · exact absurd (Int64.toInt_inj.mp q) he
theorem cmp_gt (x y : Int64) : (0 < lg_cmp x y) ↔ y.toInt < x.toInt := by
  unfold lg_cmp
  by_cases h : x > y
  · rw [if_pos h]
    exact ⟨fun _ => Int64.lt_iff_toInt_lt.mp h, fun _ => by decide⟩
  · rw [if_neg h]
    have h1 := Int64.not_lt.mp h
    have h2 := Int64.le_iff_toInt_le.mp h1
    by_cases he : x = y
    · rw [if_pos he]
      exact ⟨fun z => absurd z (by decide), fun z => by omega⟩
    · rw [if_neg he]
      exact ⟨fun z => absurd z (by decide), fun z => by omega⟩
theorem in_m (F : Nat) (x : Int32) {a b : Nat} (ha : a < 2 ^ 31) (hb : b < 2 ^ 31) : f_X5_in F x.toInt64 (lN a) (lN b) = some (if rgb a b x = true then nI 1 else nI 0) := by
  unfold f_X5_in rgb
  simp only [Bool.and_eq_true, decide_eq_true_eq, cmp_lt, cmp_gt, lN_toInt ha, lN_toInt hb, Int32.toInt_toInt64]
  by_cases h1 : x.toInt < (a : Int)
  · rw [if_pos h1, if_neg (by omega)]; rfl
  · rw [if_neg h1]
    by_cases h2 : (b : Int) < x.toInt
    · rw [if_pos h2, if_neg (by omega)]; rfl
    · rw [if_neg h2, if_pos (by omega)]; rfl
theorem has_x (F : Nat) (x : Int32) {n : Nat} (hn : n < 2 ^ 31) : f_X1_has F x (nI n) = some (if hsb n x = true then nI 1 else nI 0) := by
  unfold f_X1_has hsb
  simp only [Bool.and_eq_true, decide_eq_true_eq, i_lt, i_le, nI_toInt hn]
  rw [show (0 : Int32).toInt = 0 from rfl]
  by_cases h1 : x.toInt < 0
  · rw [if_pos h1, if_neg (by omega)]; rfl
  · rw [if_neg h1]
    by_cases h2 : (n : Int) ≤ x.toInt
    · rw [if_pos h2, if_neg (by omega)]; rfl
    · rw [if_neg h2, if_pos (by omega)]; rfl
theorem many_m (F : Nat) (t : Nat → Int32) : f_X5_many F t = some (t 0) := by
  unfold f_X5_many
  try simp (disch := omega) only [chk_ix, chk_bo, cl_n, nI_add, pk_mul, pk_sub, nI_leI, nI_ltI, nI_eq, if_pos, if_neg, upd_e, pk_un, Option.bind_some, zlit, zlitL, within_x, in_m, has_x, reduceIte, Bool.false_eq_true]
theorem isWell_m (F : Nat) (x : Int32) {n : Nat} {t : Nat → Int32} (ht : t 0 = nI n) (hn : n < 2 ^ 20) : f_X5_isWell F x t = some (if hsb n x = true then nI 1 else nI 0) := by
  unfold f_X5_isWell
  rw [many_m, Option.bind_some, ht]
  have key : f_X5_in F x.toInt64 (0 : Int64) ((nI n - 1).toInt64) = some (if hsb n x = true then nI 1 else nI 0) := by
    unfold f_X5_in hsb
    have h2 : (nI n - 1).toInt = (n : Int) - 1 := pk_sub_toInt (b := 1) (by omega) (by omega)
    simp only [Bool.and_eq_true, decide_eq_true_eq, cmp_lt, cmp_gt, Int32.toInt_toInt64, h2]
    rw [show (0 : Int64).toInt = 0 from rfl]
    by_cases h1 : x.toInt < 0
    · rw [if_pos h1, if_neg (by omega)]; rfl
    · rw [if_neg h1]
      by_cases h2 : (n : Int) - 1 < x.toInt
      · rw [if_pos h2, if_neg (by omega)]; rfl
      · rw [if_neg h2, if_pos (by omega)]; rfl
  rw [key, Option.bind_some, chk_bo]
theorem isHour_x (F : Nat) (x : Int32) : f_X4_isHour F x = some (if rgb 0 7 x = true then nI 1 else nI 0) := by unfold f_X4_isHour; try simp (disch := omega) only [chk_ix, chk_bo, cl_n, nI_add, pk_mul, pk_sub, nI_leI, nI_ltI, nI_eq, if_pos, if_neg, upd_e, pk_un, Option.bind_some, zlit, zlitL, within_x, in_m, has_x, reduceIte, Bool.false_eq_true]
theorem isHour_m (F : Nat) (x : Int32) : f_X5_isHour F x = some (if rgb 0 7 x = true then nI 1 else nI 0) := by unfold f_X5_isHour; try simp (disch := omega) only [chk_ix, chk_bo, cl_n, nI_add, pk_mul, pk_sub, nI_leI, nI_ltI, nI_eq, if_pos, if_neg, upd_e, pk_un, Option.bind_some, zlit, zlitL, within_x, in_m, has_x, reduceIte, Bool.false_eq_true]
theorem isPressure_x (F : Nat) (x : Int32) : f_X4_isPressure F x = some (if rgb 0 60 x = true then nI 1 else nI 0) := by unfold f_X4_isPressure; try simp (disch := omega) only [chk_ix, chk_bo, cl_n, nI_add, pk_mul, pk_sub, nI_leI, nI_ltI, nI_eq, if_pos, if_neg, upd_e, pk_un, Option.bind_some, zlit, zlitL, within_x, in_m, has_x, reduceIte, Bool.false_eq_true]
theorem isPressure_m (F : Nat) (x : Int32) : f_X5_isPressure F x = some (if rgb 0 60 x = true then nI 1 else nI 0) := by unfold f_X5_isPressure; try simp (disch := omega) only [chk_ix, chk_bo, cl_n, nI_add, pk_mul, pk_sub, nI_leI, nI_ltI, nI_eq, if_pos, if_neg, upd_e, pk_un, Option.bind_some, zlit, zlitL, within_x, in_m, has_x, reduceIte, Bool.false_eq_true]
theorem isWanted_x (F : Nat) (x : Int32) : f_X4_isWanted F x = some (if rgb 1 20 x = true then nI 1 else nI 0) := by unfold f_X4_isWanted; try simp (disch := omega) only [chk_ix, chk_bo, cl_n, nI_add, pk_mul, pk_sub, nI_leI, nI_ltI, nI_eq, if_pos, if_neg, upd_e, pk_un, Option.bind_some, zlit, zlitL, within_x, in_m, has_x, reduceIte, Bool.false_eq_true]
theorem isWanted_m (F : Nat) (x : Int32) : f_X5_isWanted F x = some (if rgb 1 20 x = true then nI 1 else nI 0) := by unfold f_X5_isWanted; try simp (disch := omega) only [chk_ix, chk_bo, cl_n, nI_add, pk_mul, pk_sub, nI_leI, nI_ltI, nI_eq, if_pos, if_neg, upd_e, pk_un, Option.bind_some, zlit, zlitL, within_x, in_m, has_x, reduceIte, Bool.false_eq_true]
theorem bad_m (F : Nat) (v : Int32) (r : Nat → Int32) : f_X5_bad F v r = some (v, upd r 0 (r 0 + 1)) := by
  unfold f_X5_bad
  rw [chk_t (by decide), chk_t (by decide)]; rfl
theorem no_m (F : Nat) (r : Nat → Int32) : f_X5_no F r = some (-3, upd r 1 (r 1 + 1)) := by
  unfold f_X5_no
  rw [chk_t (by decide), chk_t (by decide)]; rfl
theorem full_m (F : Nat) (r : Nat → Int32) : f_X5_full F r = some (-4, upd r 2 (r 2 + 1)) := by
  unfold f_X5_full
  rw [chk_t (by decide), chk_t (by decide)]; rfl
theorem Rel_bad {x_above x_below x_bads x_nos x_fulls pr day wells lefts notes undos : Int32} {kind wanted hours had due leftHour leftPressure note past : Nat → Int32} {len : Int32} {text m_told m_refused m_bytes : Nat → Int32} {m_above m_below : Int64} {m_len : Int32} (h : Rel x_above x_below x_bads x_nos x_fulls pr day wells lefts notes undos kind wanted hours had due leftHour leftPressure note past len text m_told m_refused m_bytes m_above m_below m_len) :
    Rel x_above x_below (x_bads + 1) x_nos x_fulls pr day wells lefts notes undos kind wanted hours had due leftHour leftPressure note past len text m_told (upd m_refused 0 (m_refused 0 + 1)) m_bytes m_above m_below m_len :=
  ⟨h.1, ⟨by rw [pk_us, h.2.1.1], by rw [pk_un (by decide)]; exact h.2.1.2.1, by rw [pk_un (by decide)]; exact h.2.1.2.2⟩, h.2.2⟩
theorem Rel_no {x_above x_below x_bads x_nos x_fulls pr day wells lefts notes undos : Int32} {kind wanted hours had due leftHour leftPressure note past : Nat → Int32} {len : Int32} {text m_told m_refused m_bytes : Nat → Int32} {m_above m_below : Int64} {m_len : Int32} (h : Rel x_above x_below x_bads x_nos x_fulls pr day wells lefts notes undos kind wanted hours had due leftHour leftPressure note past len text m_told m_refused m_bytes m_above m_below m_len) :
    Rel x_above x_below x_bads (x_nos + 1) x_fulls pr day wells lefts notes undos kind wanted hours had due leftHour leftPressure note past len text m_told (upd m_refused 1 (m_refused 1 + 1)) m_bytes m_above m_below m_len :=
  ⟨h.1, ⟨by rw [pk_un (by decide)]; exact h.2.1.1, by rw [pk_us, h.2.1.2.1], by rw [pk_un (by decide)]; exact h.2.1.2.2⟩, h.2.2⟩
theorem Rel_full {x_above x_below x_bads x_nos x_fulls pr day wells lefts notes undos : Int32} {kind wanted hours had due leftHour leftPressure note past : Nat → Int32} {len : Int32} {text m_told m_refused m_bytes : Nat → Int32} {m_above m_below : Int64} {m_len : Int32} (h : Rel x_above x_below x_bads x_nos x_fulls pr day wells lefts notes undos kind wanted hours had due leftHour leftPressure note past len text m_told m_refused m_bytes m_above m_below m_len) :
    Rel x_above x_below x_bads x_nos (x_fulls + 1) pr day wells lefts notes undos kind wanted hours had due leftHour leftPressure note past len text m_told (upd m_refused 2 (m_refused 2 + 1)) m_bytes m_above m_below m_len :=
  ⟨h.1, ⟨by rw [pk_un (by decide)]; exact h.2.1.1, by rw [pk_un (by decide)]; exact h.2.1.2.1, by rw [pk_us, h.2.1.2.2]⟩, h.2.2⟩

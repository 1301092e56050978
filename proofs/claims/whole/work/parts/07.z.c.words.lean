/-! PURE: words, numbers, hours of a text -/
theorem spell26_m {F L a n e : Nat} {T : Nat → Nat} {text bytes : Nat → Int32} (hT : TxR T L text bytes) (hn : n ≤ 4) (he : a + n ≤ L) (cs : Nat → Nat) (hcs : ∀ j, cs j ≤ 127) (ln tk : Int32) : ∀ r k m, k + r = n → r + 1 < m →
    ∃ b, f_X5_spells_b26 F (nI n) (nI (cs 0)) (nI (cs 1)) (nI (cs 2)) (nI (cs 3)) (nI (cs 4)) (nI (cs 5)) (nI a) ln tk bytes m 1 (nI k) = some (fl b) ∧ (b = true ↔ ∀ j, k ≤ j → j < n → T (a + j) = cs j) := by
  have hL := hT.1
  intro r
  induction r with
  | zero =>
    intro k m e hm
    obtain ⟨m, rfl⟩ : ∃ q, m = q + 1 := ⟨m - 1, by omega⟩
    obtain rfl : k = n := by omega
    refine ⟨true, ?_, ⟨fun _ j h1 h2 => by omega, fun _ => rfl⟩⟩
    rw [f_X5_spells_b26, if_pos (nI_le (Nat.le_refl _) (by omega)), chk_t (by decide)]
    rfl
  | succ r ih =>
    intro k m e hm
    obtain ⟨m, rfl⟩ : ∃ q, m = q + 2 := ⟨m - 2, by omega⟩
    obtain ⟨t1, t2, t3⟩ := hT.2 (a + k) (by omega)
    obtain ⟨b, i1, i2⟩ := ih (k + 1) (m + 1) (by omega) (by omega)
    have st : ∀ c, c = nI (cs k) → ∃ b, f_X5_spells_b103 F (nI n) (nI (cs 0)) (nI (cs 1)) (nI (cs 2)) (nI (cs 3)) (nI (cs 4)) (nI (cs 5)) (nI a) ln tk bytes (f_X5_spells_b26 F (nI n) (nI (cs 0)) (nI (cs 1)) (nI (cs 2)) (nI (cs 3)) (nI (cs 4)) (nI (cs 5)) (nI a) ln tk bytes (m + 1)) (nI k) (nI (T (a + k))) c = some (fl b) ∧ (b = true ↔ ∀ j, k ≤ j → j < n → T (a + j) = cs j) := by
      intro c hc
      have hck := hcs k
      unfold f_X5_spells_b103 f_X5_spells_b111
      rw [hc, nI_1]
      by_cases q : T (a + k) = cs k
      · rw [if_pos (congrArg nI q), i1]
        refine ⟨b, rfl, i2.trans ⟨fun h j h1 h2 => ?_, fun h j h1 h2 => h j (by omega) h2⟩⟩
        by_cases ej : j = k
        · subst ej; exact q
        · exact h j (by omega) h2
      · rw [if_neg (fun z => q ((nI_eq (by omega) (by omega)).mp z))]
        refine ⟨false, ?_, ⟨fun z => absurd z (by decide), fun h => absurd (h k (Nat.le_refl k) (by omega)) q⟩⟩
        rw [f_X5_spells_b26]
        by_cases q2 : nI n ≤ nI (k + 1)
        · rw [if_pos q2, chk_t (by decide)]; rfl
        · rw [if_neg q2, if_pos rfl, chk_t (by decide)]; rfl
    rw [f_X5_spells_b26, if_neg (nI_ge (by omega) (by omega)), if_neg (by decide), nI_add, chk_t (ix_n (by omega) (by omega)), cl_n (by omega), t2]
    rcases (show k = 0 ∨ k = 1 ∨ k = 2 ∨ k = 3 by omega) with rfl | rfl | rfl | rfl
    · rw [if_pos (by decide)]; exact st _ rfl
    · rw [if_neg (by decide), if_pos (by decide)]; exact st _ rfl
    · rw [if_neg (by decide), if_neg (by decide), if_pos (by decide)]; exact st _ rfl
    · rw [if_neg (by decide), if_neg (by decide), if_neg (by decide), if_pos (by decide)]; exact st _ rfl
theorem spell_m {F L a e n : Nat} {T : Nat → Nat} {text bytes : Nat → Int32} (hF : 300 < F) (hT : TxR T L text bytes) (hn0 : 0 < n) (hn : n ≤ 4) (hae : a ≤ e) (he : e ≤ L) (cs : Nat → Nat) (hcs : ∀ j, cs j ≤ 127) (tk : Int32) :
    ∃ b, f_X5_spells F (nI n) (nI (cs 0)) (nI (cs 1)) (nI (cs 2)) (nI (cs 3)) (nI (cs 4)) (nI (cs 5)) (nI a) (nI (e - a)) tk bytes = some (fl b) ∧ (b = true ↔ tk = 1 ∧ e = a + n ∧ ∀ j, j < n → T (a + j) = cs j) := by
  have hL := hT.1
  have h0 : f_X5_spells_b21 F (nI n) (nI (cs 0)) (nI (cs 1)) (nI (cs 2)) (nI (cs 3)) (nI (cs 4)) (nI (cs 5)) (nI a) (nI (e - a)) tk bytes 0 = some (fl false) := by
    obtain ⟨m, hm⟩ : ∃ q, F = q + 1 := ⟨F - 1, by omega⟩
    unfold f_X5_spells_b21
    have : ∀ G, f_X5_spells_b26 G (nI n) (nI (cs 0)) (nI (cs 1)) (nI (cs 2)) (nI (cs 3)) (nI (cs 4)) (nI (cs 5)) (nI a) (nI (e - a)) tk bytes F 0 0 = some (fl false) := by
      intro G
      rw [hm, f_X5_spells_b26, if_neg (show ¬ nI n ≤ (0 : Int32) from nI_ge (a := 0) hn0 (by omega)), if_pos rfl, chk_t (by decide)]
      rfl
    exact this F
  unfold f_X5_spells f_X5_spells_b20
  rw [h0]
  by_cases c1 : tk = 1
  · rw [if_pos c1]
    by_cases c2 : e - a = n
    · rw [if_pos (congrArg nI c2)]
      unfold f_X5_spells_b21
      obtain ⟨b, b1, b2⟩ := spell26_m (F := F) (a := a) (e := e) hT hn (by omega) cs hcs (nI (e - a)) tk n 0 F (by omega) (by omega)
      exact ⟨b, b1, b2.trans ⟨fun h => ⟨c1, by omega, fun j hj => h j (Nat.zero_le j) hj⟩, fun h j _ hj => h.2.2 j hj⟩⟩
    · rw [if_neg (fun z => c2 ((nI_eq (by omega) (by omega)).mp z))]
      exact ⟨false, rfl, fun z => absurd z (by decide), fun h => by omega⟩
  · rw [if_neg c1]
    exact ⟨false, rfl, fun z => absurd z (by decide), fun h => absurd h.1 c1⟩
theorem TK_w {T : Nat → Nat} {L a e : Nat} {tok val tokM valM : Int32} (h : TK T L a e tok val tokM valM) : (tok = 3 ↔ tokM = 1 ∧ wd4 T a e 109 97 105 110) ∧ (tok = 4 ↔ tokM = 1 ∧ wd4 T a e 119 101 108 108) ∧ (tok = 5 ↔ tokM = 1 ∧ wd4 T a e 116 117 114 110) ∧ (tok = 6 ↔ tokM = 1 ∧ wd3 T a e 100 97 121) := by
  rcases h with ⟨rfl, rfl, -⟩ | ⟨rfl, rfl, -⟩ | ⟨v, -, rfl, rfl, -⟩ | ⟨rfl, rfl, -⟩ | ⟨t, rfl, rfl, -, t1, t2, w1, w2, w3, w4⟩
  · exact ⟨⟨fun z => absurd z (by decide), fun z => absurd z.1 (by decide)⟩, ⟨fun z => absurd z (by decide), fun z => absurd z.1 (by decide)⟩, ⟨fun z => absurd z (by decide), fun z => absurd z.1 (by decide)⟩, ⟨fun z => absurd z (by decide), fun z => absurd z.1 (by decide)⟩⟩
  · exact ⟨⟨fun z => absurd z (by decide), fun z => absurd z.1 (by decide)⟩, ⟨fun z => absurd z (by decide), fun z => absurd z.1 (by decide)⟩, ⟨fun z => absurd z (by decide), fun z => absurd z.1 (by decide)⟩, ⟨fun z => absurd z (by decide), fun z => absurd z.1 (by decide)⟩⟩
  · exact ⟨⟨fun z => absurd z (by decide), fun z => absurd z.1 (by decide)⟩, ⟨fun z => absurd z (by decide), fun z => absurd z.1 (by decide)⟩, ⟨fun z => absurd z (by decide), fun z => absurd z.1 (by decide)⟩, ⟨fun z => absurd z (by decide), fun z => absurd z.1 (by decide)⟩⟩
  · exact ⟨⟨fun z => absurd z (by decide), fun z => absurd z.1 (by decide)⟩, ⟨fun z => absurd z (by decide), fun z => absurd z.1 (by decide)⟩, ⟨fun z => absurd z (by decide), fun z => absurd z.1 (by decide)⟩, ⟨fun z => absurd z (by decide), fun z => absurd z.1 (by decide)⟩⟩
  · have q : ∀ k : Nat, k < 10 → (nI t = nI k ↔ t = k) := fun k hk => nI_eq (by omega) (by omega)
    exact ⟨(q 3 (by omega)).trans (w1.trans ⟨fun h => ⟨rfl, h⟩, fun h => h.2⟩), (q 4 (by omega)).trans (w2.trans ⟨fun h => ⟨rfl, h⟩, fun h => h.2⟩), (q 5 (by omega)).trans (w3.trans ⟨fun h => ⟨rfl, h⟩, fun h => h.2⟩), (q 6 (by omega)).trans (w4.trans ⟨fun h => ⟨rfl, h⟩, fun h => h.2⟩)⟩
theorem TK_s {T : Nat → Nat} {L a e : Nat} {tok val tokM valM : Int32} (h : TK T L a e tok val tokM valM) : (tok = 1 ↔ tokM = 3) ∧ (tok = 2 ↔ tokM = 2) ∧ (tok = 0 ↔ tokM = 0) := by
  rcases h with ⟨rfl, rfl, -⟩ | ⟨rfl, rfl, -⟩ | ⟨v, -, rfl, rfl, -⟩ | ⟨rfl, rfl, -⟩ | ⟨t, rfl, rfl, -, t1, t2, -⟩
  · decide
  · decide
  · decide
  · decide
  · have q : ∀ k : Nat, k < 3 → ¬ nI t = nI k := fun k hk z => by have := (nI_eq (by omega) (by omega)).mp z; omega
    exact ⟨⟨fun z => absurd z (q 1 (by omega)), fun z => absurd z (by decide)⟩, ⟨fun z => absurd z (q 2 (by omega)), fun z => absurd z (by decide)⟩, ⟨fun z => absurd z (q 0 (by omega)), fun z => absurd z (by decide)⟩⟩
def lts (c0 c1 c2 c3 : Nat) : Nat → Nat := fun k => if k = 0 then c0 else if k = 1 then c1 else if k = 2 then c2 else if k = 3 then c3 else 0
theorem wd4_of {F L a e : Nat} {T : Nat → Nat} {text bytes : Nat → Int32} {x z : Int32 × Int32 × Int32 × Int32} (hF : 300 < F) (hT : TxR T L text bytes) (h : Cur T L a e x z) (c0 c1 c2 c3 : Nat) (h0 : c0 ≤ 127) (h1 : c1 ≤ 127) (h2 : c2 ≤ 127) (h3 : c3 ≤ 127) (t : Int32) (ht : x.2.2.1 = t ↔ z.2.2.1 = 1 ∧ wd4 T a e c0 c1 c2 c3) :
    f_X5_spells F 4 (nI c0) (nI c1) (nI c2) (nI c3) 0 0 z.1 z.2.1 z.2.2.1 bytes = some (fl (decide (x.2.2.1 = t))) := by
  obtain ⟨-, -, e3, e4, e5, e6, -⟩ := h
  obtain ⟨b, b1, b2⟩ := spell_m (F := F) (n := 4) hF hT (by omega) (by omega) e5 e6 (lts c0 c1 c2 c3) (fun j => by unfold lts; (repeat' split) <;> omega) z.2.2.1
  rw [e3, e4]
  refine Eq.trans b1 (congrArg (fun y => some (fl y)) ?_)
  rw [Bool.eq_iff_iff, decide_eq_true_iff, ht, b2]
  unfold wd4
  refine ⟨fun ⟨p, q, r⟩ => ⟨p, q, r 0 (by omega), r 1 (by omega), r 2 (by omega), r 3 (by omega)⟩, fun ⟨p, q, r0, r1, r2, r3⟩ => ⟨p, q, fun j hj => ?_⟩⟩
  rcases (show j = 0 ∨ j = 1 ∨ j = 2 ∨ j = 3 by omega) with rfl | rfl | rfl | rfl
  · exact r0
  · exact r1
  · exact r2
  · exact r3
theorem wd3_of {F L a e : Nat} {T : Nat → Nat} {text bytes : Nat → Int32} {x z : Int32 × Int32 × Int32 × Int32} (hF : 300 < F) (hT : TxR T L text bytes) (h : Cur T L a e x z) (c0 c1 c2 : Nat) (h0 : c0 ≤ 127) (h1 : c1 ≤ 127) (h2 : c2 ≤ 127) (t : Int32) (ht : x.2.2.1 = t ↔ z.2.2.1 = 1 ∧ wd3 T a e c0 c1 c2) :
    f_X5_spells F 3 (nI c0) (nI c1) (nI c2) 0 0 0 z.1 z.2.1 z.2.2.1 bytes = some (fl (decide (x.2.2.1 = t))) := by
  obtain ⟨-, -, e3, e4, e5, e6, -⟩ := h
  obtain ⟨b, b1, b2⟩ := spell_m (F := F) (n := 3) hF hT (by omega) (by omega) e5 e6 (lts c0 c1 c2 0) (fun j => by unfold lts; (repeat' split) <;> omega) z.2.2.1
  rw [e3, e4]
  refine Eq.trans b1 (congrArg (fun y => some (fl y)) ?_)
  rw [Bool.eq_iff_iff, decide_eq_true_iff, ht, b2]
  unfold wd3
  refine ⟨fun ⟨p, q, r⟩ => ⟨p, q, r 0 (by omega), r 1 (by omega), r 2 (by omega)⟩, fun ⟨p, q, r0, r1, r2⟩ => ⟨p, q, fun j hj => ?_⟩⟩
  rcases (show j = 0 ∨ j = 1 ∨ j = 2 by omega) with rfl | rfl | rfl
  · exact r0
  · exact r1
  · exact r2
/-- a number from lo to hi -/
def nb (lo hi x : Int32) : Bool := !decide (x < lo) && !decide (hi < x)
theorem isNum_x (F : Nat) (lo hi tok val : Int32) : f_X2_isNumber F lo hi tok val = some (fl (decide (tok = 2) && nb lo hi val)) := by
  unfold f_X2_isNumber nb
  by_cases c : tok = 2
  · rw [if_pos c, decide_eq_true c, Bool.true_and]
    by_cases c1 : val < lo
    · rw [if_pos c1, decide_eq_true c1]; rfl
    · rw [if_neg c1, decide_eq_false c1]
      by_cases c2 : hi < val
      · rw [if_pos c2, decide_eq_true c2]; rfl
      · rw [if_neg c2, decide_eq_false c2]; rfl
  · rw [if_neg c, decide_eq_false c]; rfl
theorem in_gen (F : Nat) (x lo hi : Int32) : f_X5_in F x.toInt64 lo.toInt64 hi.toInt64 = some (fl (nb lo hi x)) := by
  unfold f_X5_in nb
  simp only [cmp_lt, cmp_gt, Int32.toInt_toInt64]
  by_cases c1 : x.toInt < lo.toInt
  · rw [if_pos c1, decide_eq_true ((i_lt _ _).mpr c1)]; rfl
  · rw [if_neg c1, decide_eq_false (fun z => c1 ((i_lt _ _).mp z))]
    by_cases c2 : hi.toInt < x.toInt
    · rw [if_pos c2, decide_eq_true ((i_lt _ _).mpr c2)]; rfl
    · rw [if_neg c2, decide_eq_false (fun z => c2 ((i_lt _ _).mp z))]; rfl
theorem TK_n {T : Nat → Nat} {L a e : Nat} {tok val tokM valM : Int32} (h : TK T L a e tok val tokM valM) (ht : tok = 2) : ∃ v, v ≤ 99 ∧ val = nI v ∧ valM = nI v ∧ a < e := by
  rcases h with ⟨rfl, -⟩ | ⟨rfl, -⟩ | ⟨v, h1, -, -, h2, h3, h4⟩ | ⟨rfl, -⟩ | ⟨t, rfl, -, -, t1, t2, -⟩
  · exact absurd ht (by decide)
  · exact absurd ht (by decide)
  · exact ⟨v, h1, h2, h3, h4⟩
  · exact absurd ht (by decide)
  · have := (nI_eq (a := t) (b := 2) (by omega) (by omega)).mp ht
    omega
/-- a number is taken, or not -/
theorem numB {F L a e : Nat} {T : Nat → Nat} {text bytes : Nat → Int32} {x z : Int32 × Int32 × Int32 × Int32} (hF : 300 < F) (hT : TxR T L text bytes) (h : Cur T L a e x z) {i : Nat} (hi : i < 2) {ai : Int32} (hai : ai = nI i) (lo hi' : Int32) (vals : Nat → Int32) :
    (f_X2_isNumber F lo hi' x.2.2.1 x.2.2.2 = some 0 ∧ f_X5_takes F ai lo hi' (nI L) bytes z.1 z.2.1 z.2.2.1 z.2.2.2 vals = some (0, z.1, z.2.1, z.2.2.1, z.2.2.2, vals)) ∨
    (∃ v, v ≤ 99 ∧ x.2.2.2 = nI v ∧ nb lo hi' (nI v) = true ∧ f_X2_isNumber F lo hi' x.2.2.1 x.2.2.2 = some 1 ∧ ∃ a' e' x' z', a < e ∧ e ≤ a' ∧ Cur T L a' e' x' z' ∧ f_X2_step F (nI L) text x.1 x.2.1 x.2.2.1 x.2.2.2 = some x' ∧
      f_X5_takes F ai lo hi' (nI L) bytes z.1 z.2.1 z.2.2.1 z.2.2.2 vals = some (1, z'.1, z'.2.1, z'.2.2.1, z'.2.2.2, upd vals i (nI v))) := by
  obtain ⟨a', e', x', z', s1, s2, s3, s4⟩ := stepB hF hT h
  have hTK := h.2.2.2.2.2.2
  have hs := TK_s hTK
  subst hai
  unfold f_X5_takes
  rw [isNum_x]
  by_cases c : x.2.2.1 = 2
  · obtain ⟨v, v1, v2, v3, v4⟩ := TK_n hTK c
    rw [if_pos (hs.2.1.mp c), in_gen, Option.bind_some, decide_eq_true c, Bool.true_and, v2, v3]
    cases hb : nb lo hi' (nI v) with
    | false =>
      rw [if_pos (show fl false = 0 by decide)]
      exact Or.inl ⟨rfl, rfl⟩
    | true =>
      rw [v3] at s4
      rw [v2] at s3
      rw [if_neg (show ¬ fl true = 0 by decide), chk_t (ix_n hi (by omega)), s4, Option.bind_some, cl_n (by omega)]
      exact Or.inr ⟨v, v1, rfl, hb, rfl, a', e', x', z', v4, s1, s2, s3, rfl⟩
  · rw [if_neg (fun q => c (hs.2.1.mpr q)), decide_eq_false c, Bool.false_and]
    exact Or.inl ⟨rfl, rfl⟩
theorem or_hour : ∀ (M : Fin 256) (v : Fin 8), (nI M.val ||| ((1 : Int32) <<< (nI v.val &&& 31))) = nI (M.val ||| 2 ^ v.val) ∧ (M.val ||| 2 ^ v.val) < 256 := by decide +kernel
theorem nb_N {lo hi v : Nat} (hlo : lo < 2 ^ 31) (hhi : hi < 2 ^ 31) (hv : v < 2 ^ 31) : nb (nI lo) (nI hi) (nI v) = true ↔ lo ≤ v ∧ v ≤ hi := by
  unfold nb
  rw [Bool.and_eq_true, Bool.not_eq_true', Bool.not_eq_true', decide_eq_false_iff_not, decide_eq_false_iff_not, nI_ltI hv hlo, nI_ltI hhi hv]
  omega
/-- hours are taken -/
theorem hoursB {F L : Nat} {T : Nat → Nat} {text bytes : Nat → Int32} (hF : 300 < F) (hT : TxR T L text bytes) : ∀ d a e x z k M m1 m2, L - a = d → d + 1 < m1 → d + 1 < m2 → k ≤ a → M < 256 → Cur T L a e x z →
    ∃ a' e' x' z' M', M' < 256 ∧ a ≤ a' ∧ Cur T L a' e' x' z' ∧ f_X2_readHours_b4 F (nI L) text m1 (nI M) (nI k) x.1 x.2.1 x.2.2.1 x.2.2.2 = some (nI M', x'.1, x'.2.1, x'.2.2.1, x'.2.2.2) ∧
      f_X5_takesHours_b5 F (nI L) bytes m2 z.1 z.2.1 z.2.2.1 z.2.2.2 (nI M) = some (fl (decide (x'.2.2.1 = 1)), z'.1, z'.2.1, z'.2.2.1, z'.2.2.2, nI M') := by
  intro d
  induction d using Nat.strongRecOn with
  | ind d ih =>
    intro a e x z k M m1 m2 hd hm1 hm2 hk hM h
    have hL := hT.1
    obtain ⟨m1, rfl⟩ : ∃ q, m1 = q + 1 := ⟨m1 - 1, by omega⟩
    obtain ⟨m2, rfl⟩ : ∃ q, m2 = q + 1 := ⟨m2 - 1, by omega⟩
    have hTK := h.2.2.2.2.2.2
    have hs := TK_s hTK
    have hend : f_X5_takesHours_b45 F (nI L) bytes z.1 z.2.1 z.2.2.1 z.2.2.2 (nI M) = some (fl (decide (x.2.2.1 = 1)), z.1, z.2.1, z.2.2.1, z.2.2.2, nI M) := by
      unfold f_X5_takesHours_b45
      by_cases c : x.2.2.1 = 1
      · rw [if_pos (hs.1.mp c), decide_eq_true c]; rfl
      · rw [if_neg (fun q => c (hs.1.mpr q)), decide_eq_false c]; rfl
    rw [f_X2_readHours_b4, f_X5_takesHours_b5, isNum_x, Option.bind_some]
    by_cases c : x.2.2.1 = 2
    · obtain ⟨v, v1, v2, v3, v4⟩ := TK_n hTK c
      have he := h.2.2.2.2.2.1
      rw [if_neg (nI_ge (show k < L by omega) (by omega)), if_pos (hs.2.1.mp c), decide_eq_true c, Bool.true_and, isHour_m, Option.bind_some]
      have hr : rgb 0 7 z.2.2.2 = nb 0 7 x.2.2.2 := by
        rw [v2, v3, rgb_N (by omega), Bool.eq_iff_iff]
        rw [show nb (0 : Int32) 7 (nI v) = nb (nI 0) (nI 7) (nI v) from rfl, nb_N (by omega) (by omega) (by omega), Bool.and_eq_true, decide_eq_true_iff, decide_eq_true_iff]
      rw [hr]
      cases hb : nb 0 7 x.2.2.2 with
      | false =>
        rw [if_pos (show fl false = 0 by decide), if_pos (show (if false = true then nI 1 else nI 0) = (0 : Int32) by decide), hend]
        exact ⟨a, e, x, z, M, hM, Nat.le_refl a, h, rfl, rfl⟩
      | true =>
        obtain ⟨a', e', x', z', s1, s2, s3, s4⟩ := stepB hF hT h
        rw [v2, show nb (0 : Int32) 7 (nI v) = nb (nI 0) (nI 7) (nI v) from rfl, nb_N (by omega) (by omega) (by omega)] at hb
        obtain ⟨o1, o2⟩ := or_hour ⟨M, hM⟩ ⟨v, by omega⟩
        rw [if_neg (show ¬ fl true = 0 by decide), if_neg (show ¬ (if true = true then nI 1 else nI 0) = (0 : Int32) by decide), s3, Option.bind_some, s4, Option.bind_some, v2, v3, o1, nI_1]
        have hL' := s2.2.2.2.2.2.1
        have hL'' := s2.2.2.2.2.1
        obtain ⟨a2, e2, x2, z2, M2, j1, j2, j3, j4, j5⟩ := ih (L - a') (by omega) a' e' x' z' (k + 1) (M ||| 2 ^ v) m1 m2 rfl (by omega) (by omega) (by omega) o2 s2
        exact ⟨a2, e2, x2, z2, M2, j1, by omega, j3, j4, j5⟩
    · rw [if_neg (fun q => c (hs.2.1.mpr q)), decide_eq_false c, Bool.false_and, if_pos (show fl false = 0 by decide), hend]
      refine ⟨a, e, x, z, M, hM, Nat.le_refl a, h, ?_, rfl⟩
      split <;> rfl

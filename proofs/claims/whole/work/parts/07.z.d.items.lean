/-! PURE: items of a text -/
/-- the draft of the class and the reference's -/
def DR (n d p : Nat) (kind wanted hours had due anew : Nat → Int32) : Prop :=
  n ≤ 5 ∧ p ≤ 60 ∧ (anew 0 = nI n ∧ anew 1 = 0 ∧ anew 2 = 0 ∧ anew 3 = 0 ∧ anew 24 = nI p ∧ anew 25 = nI d) ∧
    ∀ i, i < n → (∃ a : Nat, kind i = nI a ∧ a ≤ 5) ∧ WH (wanted i) (hours i) ∧ anew (26 + i) = kind i ∧ anew (19 + i) = wanted i ∧ anew (14 + i) = hours i ∧ anew (4 + i) = had i ∧ anew (9 + i) = due i
/-- a semicolon, or not -/
theorem semB {F L a e : Nat} {T : Nat → Nat} {text bytes : Nat → Int32} {x z : Int32 × Int32 × Int32 × Int32} (hF : 300 < F) (hT : TxR T L text bytes) (h : Cur T L a e x z) :
    (¬ x.2.2.1 = 1 ∧ f_X2_semicolon F (nI L) text x.1 x.2.1 x.2.2.1 x.2.2.2 = some (0, x.1, x.2.1, x.2.2.1, x.2.2.2)) ∨
    (x.2.2.1 = 1 ∧ z.2.2.1 = 3 ∧ ∃ a' e' x' z', a < a' ∧ Cur T L a' e' x' z' ∧ f_X2_semicolon F (nI L) text x.1 x.2.1 x.2.2.1 x.2.2.2 = some (1, x'.1, x'.2.1, x'.2.2.1, x'.2.2.2) ∧ f_X5_goBehind F (nI L) bytes z.1 z.2.1 z.2.2.1 z.2.2.2 = some z') := by
  have hTK := h.2.2.2.2.2.2
  unfold f_X2_semicolon
  by_cases c : x.2.2.1 = 1
  · obtain ⟨a', e', x', z', s1, s2, s3, s4⟩ := stepB hF hT h
    have hae : a < e := by
      rcases hTK with ⟨q, -⟩ | ⟨-, -, q⟩ | ⟨v, -, q, -⟩ | ⟨q, -⟩ | ⟨t, -, -, q, -⟩
      · rw [c] at q; exact absurd q (by decide)
      · omega
      · rw [c] at q; exact absurd q (by decide)
      · rw [c] at q; exact absurd q (by decide)
      · exact q
    refine Or.inr ⟨c, (TK_s hTK).1.mp c, a', e', x', z', by omega, s2, ?_, s4⟩
    rw [if_pos c, s3, Option.bind_some]
  · rw [if_neg c]
    exact Or.inl ⟨c, rfl⟩
theorem takesHours_e (F : Nat) (L : Int32) (bytes : Nat → Int32) (z1 z2 z3 z4 th : Int32) : f_X5_takesHours F L bytes z1 z2 z3 z4 th = f_X5_takesHours_b5 F L bytes F z1 z2 z3 z4 0 := rfl
theorem readHours_e (F : Nat) (L : Int32) (text : Nat → Int32) (x1 x2 x3 x4 : Int32) : f_X2_readHours F L text x1 x2 x3 x4 = f_X2_readHours_b4 F L text F 0 0 x1 x2 x3 x4 := rfl
/-- hours and what follows -/
theorem hoursS {F L a e : Nat} {T : Nat → Nat} {text bytes : Nat → Int32} {x z : Int32 × Int32 × Int32 × Int32} (hF : 300 < F) (hT : TxR T L text bytes) (h : Cur T L a e x z) (th : Int32) :
    ∃ a1 e1 x1 z1 M, M < 256 ∧ a ≤ a1 ∧ Cur T L a1 e1 x1 z1 ∧ f_X2_readHours F (nI L) text x.1 x.2.1 x.2.2.1 x.2.2.2 = some (nI M, x1.1, x1.2.1, x1.2.2.1, x1.2.2.2) ∧
      f_X5_takesHours F (nI L) bytes z.1 z.2.1 z.2.2.1 z.2.2.2 th = some (fl (decide (x1.2.2.1 = 1)), z1.1, z1.2.1, z1.2.2.1, z1.2.2.2, nI M) := by
  have hL := hT.1
  have hae := h.2.2.2.2.1
  have he := h.2.2.2.2.2.1
  rw [takesHours_e, readHours_e]
  obtain ⟨a', e', x', z', M', j1, j2, j3, j4, j5⟩ := hoursB hF hT (L - a) a e x z 0 0 F F rfl (by omega) (by omega) (Nat.zero_le a) (by omega) h
  exact ⟨a', e', x', z', M', j1, j2, j3, j4, j5⟩
theorem DR_well {n d p c w M : Nat} {kind wanted hours had due anew : Nat → Int32} (h : DR n d p kind wanted hours had due anew) (hn : n < 5) (hc : c ≤ 5) (hw1 : 1 ≤ w) (hw2 : w ≤ 20) (hM : M < 256) :
    DR (n + 1) d p (upd kind n (nI c)) (upd wanted n (nI w)) (upd hours n (nI M)) (upd had n 0) (upd due n 0) (upd (upd (upd (upd (upd (upd anew (26 + n) (nI c)) (19 + n) (nI w)) (14 + n) (nI M)) (4 + n) 0) (9 + n) 0) 0 (nI (n + 1))) := by
  obtain ⟨h1, h2, ⟨t0, t1, t2, t3, t4, t5⟩, hw⟩ := h
  have g : ∀ j, ¬ j = 26 + n → ¬ j = 19 + n → ¬ j = 14 + n → ¬ j = 4 + n → ¬ j = 9 + n → ¬ j = 0 → upd (upd (upd (upd (upd (upd anew (26 + n) (nI c)) (19 + n) (nI w)) (14 + n) (nI M)) (4 + n) 0) (9 + n) 0) 0 (nI (n + 1)) j = anew j := fun j a b c d e f => by
    rw [pk_un f, pk_un e, pk_un d, pk_un c, pk_un b, pk_un a]
  refine ⟨by omega, h2, ⟨pk_us, ?_, ?_, ?_, ?_, ?_⟩, fun i hi => ?_⟩
  · rw [g 1 (by omega) (by omega) (by omega) (by omega) (by omega) (by omega)]; exact t1
  · rw [g 2 (by omega) (by omega) (by omega) (by omega) (by omega) (by omega)]; exact t2
  · rw [g 3 (by omega) (by omega) (by omega) (by omega) (by omega) (by omega)]; exact t3
  · rw [g 24 (by omega) (by omega) (by omega) (by omega) (by omega) (by omega)]; exact t4
  · rw [g 25 (by omega) (by omega) (by omega) (by omega) (by omega) (by omega)]; exact t5
  · by_cases e : i = n
    · subst e
      rw [pk_us, pk_us, pk_us, pk_us, pk_us]
      refine ⟨⟨c, rfl, hc⟩, ⟨⟨w, rfl, hw1, hw2⟩, M, rfl, by omega⟩, ?_, ?_, ?_, ?_, ?_⟩
      · rw [pk_un (by omega), pk_un (by omega), pk_un (by omega), pk_un (by omega), pk_un (by omega), pk_us]
      · rw [pk_un (by omega), pk_un (by omega), pk_un (by omega), pk_un (by omega), pk_us]
      · rw [pk_un (by omega), pk_un (by omega), pk_un (by omega), pk_us]
      · rw [pk_un (by omega), pk_un (by omega), pk_us]
      · rw [pk_un (by omega), pk_us]
    · rw [pk_un e, pk_un e, pk_un e, pk_un e, pk_un e, g (26 + i) (by omega) (by omega) (by omega) (by omega) (by omega) (by omega), g (19 + i) (by omega) (by omega) (by omega) (by omega) (by omega) (by omega), g (14 + i) (by omega) (by omega) (by omega) (by omega) (by omega) (by omega), g (4 + i) (by omega) (by omega) (by omega) (by omega) (by omega) (by omega), g (9 + i) (by omega) (by omega) (by omega) (by omega) (by omega) (by omega)]
      exact hw i (by omega)
theorem DR_turn {n d p v M : Nat} {kind wanted hours had due anew : Nat → Int32} (h : DR n d p kind wanted hours had due anew) (hv : v < n) (hM : M < 256) :
    DR n d p kind wanted (upd hours v (nI M)) had due (upd anew (14 + v) (nI M)) := by
  obtain ⟨h1, h2, ⟨t0, t1, t2, t3, t4, t5⟩, hw⟩ := h
  refine ⟨h1, h2, ⟨?_, ?_, ?_, ?_, ?_, ?_⟩, fun i hi => ?_⟩
  · rw [pk_un (by omega)]; exact t0
  · rw [pk_un (by omega)]; exact t1
  · rw [pk_un (by omega)]; exact t2
  · rw [pk_un (by omega)]; exact t3
  · rw [pk_un (by omega)]; exact t4
  · rw [pk_un (by omega)]; exact t5
  · obtain ⟨a1, ⟨a2, a3⟩, a4, a5, a6, a7, a8⟩ := hw i hi
    rw [pk_un (show ¬ 26 + i = 14 + v by omega), pk_un (show ¬ 19 + i = 14 + v by omega), pk_un (show ¬ 4 + i = 14 + v by omega), pk_un (show ¬ 9 + i = 14 + v by omega)]
    by_cases e : i = v
    · subst e
      rw [pk_us, pk_us]
      exact ⟨a1, ⟨a2, M, rfl, by omega⟩, a4, a5, rfl, a7, a8⟩
    · rw [pk_un e, pk_un (show ¬ 14 + i = 14 + v by omega)]
      exact ⟨a1, ⟨a2, a3⟩, a4, a5, a6, a7, a8⟩
theorem itemW {F L a e n d p : Nat} {T : Nat → Nat} {text bytes : Nat → Int32} {x z : Int32 × Int32 × Int32 × Int32} (hF : 300 < F) (hT : TxR T L text bytes) (h : Cur T L a e x z) (ht : x.2.2.1 = 4) {kind wanted hours had due anew : Nat → Int32} (hD : DR n d p kind wanted hours had due anew) (th : Int32) (vals : Nat → Int32) :
    (∃ (x' z' : Int32 × Int32 × Int32 × Int32) (th' : Int32) (vals' : Nat → Int32), x'.1 = z'.1 ∧ f_X2_wellItem F (nI L) text x.1 x.2.1 x.2.2.1 x.2.2.2 (nI n) 0 kind wanted hours had due = some (0, x'.1, x'.2.1, x'.2.2.1, x'.2.2.2, nI n, 0, kind, wanted, hours, had, due) ∧
      f_X5_takesWell F (nI L) bytes z.1 z.2.1 z.2.2.1 z.2.2.2 th anew vals = some (0, z'.1, z'.2.1, z'.2.2.1, z'.2.2.2, th', anew, vals')) ∨
    (∃ (a' e' : Nat) (x' z' z'' : Int32 × Int32 × Int32 × Int32) (th' : Int32) (vals' kind' wanted' hours' had' due' anew' : Nat → Int32), a < a' ∧ Cur T L a' e' x' z'' ∧ f_X2_wellItem F (nI L) text x.1 x.2.1 x.2.2.1 x.2.2.2 (nI n) 0 kind wanted hours had due = some (1, x'.1, x'.2.1, x'.2.2.1, x'.2.2.2, nI (n + 1), 0, kind', wanted', hours', had', due') ∧
      f_X5_takesWell F (nI L) bytes z.1 z.2.1 z.2.2.1 z.2.2.2 th anew vals = some (1, z'.1, z'.2.1, z'.2.2.1, z'.2.2.2, th', anew', vals') ∧ z'.2.2.1 = 3 ∧ f_X5_goBehind F (nI L) bytes z'.1 z'.2.1 z'.2.2.1 z'.2.2.2 = some z'' ∧ DR (n + 1) d p kind' wanted' hours' had' due' anew') := by
  obtain ⟨hn5, hp, ⟨t0, -⟩, -⟩ := id hD
  have hae := h.2.2.2.2.1
  unfold f_X2_wellItem f_X5_takesWell
  rw [if_pos ht, chk_t (by decide), show anew (0 : Int32).toNatClampNeg = nI n from t0]
  by_cases hn : n < 5
  · rw [if_pos (show nI n < (5 : Int32) from nI_lt (b := 5) hn (by omega)), if_neg (show ¬ nI n = (5 : Int32) from fun q => by have := (nI_eq (b := 5) (by omega) (by omega)).mp q; omega)]
    obtain ⟨a1, e1, x1, z1, s1, c1, s3, s4⟩ := stepB hF hT h
    rw [s3, Option.bind_some, s4, Option.bind_some]
    rcases numB hF hT c1 (i := 0) (by omega) (ai := 0) rfl 0 5 vals with ⟨n1, n2⟩ | ⟨v, v1, v2, v3, n1, a2, e2, x2, z2, l1, l2, c2, n2, n3⟩
    · rw [n1, Option.bind_some, if_pos rfl, n2, Option.bind_some, if_pos rfl]
      exact Or.inl ⟨x1, z1, th, vals, c1.1.trans c1.2.2.1.symm, rfl, rfl⟩
    · rw [n1, Option.bind_some, if_neg (show ¬ (1 : Int32) = 0 by decide), n2, Option.bind_some, n3, Option.bind_some, if_neg (show ¬ (1 : Int32) = 0 by decide)]
      dsimp only
      rcases numB hF hT c2 (i := 1) (by omega) (ai := 1) rfl 1 20 (upd vals 0 (nI v)) with ⟨m1, m2⟩ | ⟨w, w1, w2, w3, m1, a3, e3, x3, z3, l3, l4, c3, m2, m3⟩
      · rw [m1, Option.bind_some, if_pos rfl, m2, Option.bind_some, if_pos rfl]
        exact Or.inl ⟨x2, z2, th, _, c2.1.trans c2.2.2.1.symm, rfl, rfl⟩
      · rw [m1, Option.bind_some, if_neg (show ¬ (1 : Int32) = 0 by decide), m2, Option.bind_some, m3, Option.bind_some, if_neg (show ¬ (1 : Int32) = 0 by decide)]
        dsimp only
        obtain ⟨a4, e4, x4, z4, M, hM, l5, c4, r1, r2⟩ := hoursS hF hT c3 th
        rw [r1, Option.bind_some, r2, Option.bind_some]
        dsimp only
        rcases semB hF hT c4 with ⟨q1, q2⟩ | ⟨q1, q2, a5, e5, x5, z5, l6, c5, q3, q4⟩
        · rw [q2, Option.bind_some, if_pos rfl, decide_eq_false q1, if_pos (show fl false = 0 by decide)]
          exact Or.inl ⟨x4, z4, nI M, _, c4.1.trans c4.2.2.1.symm, rfl, rfl⟩
        · have hv : v ≤ 5 := ((nb_N (lo := 0) (hi := 5) (by omega) (by omega) (by omega)).mp v3).2
          have hw := (nb_N (lo := 1) (hi := 20) (by omega) (by omega) (by omega)).mp w3
          rw [q3, Option.bind_some, if_neg (show ¬ (1 : Int32) = 0 by decide), decide_eq_true q1, if_neg (show ¬ fl true = 0 by decide), chk_t (by decide), chk_t (by decide)]
          rw [show upd (upd vals 0 (nI v)) 1 (nI w) (0 : Int32).toNatClampNeg = nI v from rfl, show upd (upd vals 0 (nI v)) 1 (nI w) (1 : Int32).toNatClampNeg = nI w from rfl, layWell_m F hn (by omega) (by omega) _ _ _ t0, Option.bind_some, v2, w2]
          unfold f_X1_addWell
          rw [if_pos (show nI n < (5 : Int32) from nI_lt (b := 5) hn (by omega)), chk_t (ix_n hn (by omega)), chk_t (ix_n hn (by omega)), chk_t (ix_n hn (by omega)), chk_t (ix_n hn (by omega)), chk_t (ix_n hn (by omega)), Option.bind_some, cl_n (show n < 2 ^ 31 by omega)]
          dsimp only
          rw [nI_1]
          exact Or.inr ⟨a5, e5, x5, z4, z5, nI M, _, _, _, _, _, _, _, by omega, c5, rfl, rfl, q2, q4, DR_well hD hn hv hw.1 hw.2 hM⟩
  · obtain rfl : n = 5 := by omega
    rw [if_neg (show ¬ nI 5 < (5 : Int32) by decide), if_pos (show nI 5 = (5 : Int32) from rfl)]
    exact Or.inl ⟨x, z, th, vals, h.1.trans h.2.2.1.symm, rfl, rfl⟩
theorem nb_n1 {n v : Nat} (hn : n ≤ 5) (hv : v ≤ 99) (h : nb 0 (nI n - 1) (nI v) = true) : v < n := by
  unfold nb at h
  rw [Bool.and_eq_true, Bool.not_eq_true', Bool.not_eq_true', decide_eq_false_iff_not, decide_eq_false_iff_not] at h
  have h2 := h.2
  rw [i_lt, show (nI n - (1 : Int32)).toInt = (n : Int) - 1 from pk_sub_toInt (a := n) (b := 1) (by omega) (by omega), nI_toInt (by omega)] at h2
  omega
theorem itemT {F L a e n d p : Nat} {T : Nat → Nat} {text bytes : Nat → Int32} {x z : Int32 × Int32 × Int32 × Int32} (hF : 300 < F) (hT : TxR T L text bytes) (h : Cur T L a e x z) (ht : x.2.2.1 = 5) {kind wanted hours had due anew : Nat → Int32} (hD : DR n d p kind wanted hours had due anew) (th : Int32) (vals : Nat → Int32) :
    (∃ (x' z' : Int32 × Int32 × Int32 × Int32) (th' : Int32) (vals' : Nat → Int32), x'.1 = z'.1 ∧ f_X2_turnItem F (nI L) text (nI n) x.1 x.2.1 x.2.2.1 x.2.2.2 hours = some (0, x'.1, x'.2.1, x'.2.2.1, x'.2.2.2, hours) ∧
      f_X5_takesTurn F (nI L) bytes z.1 z.2.1 z.2.2.1 z.2.2.2 th anew vals = some (0, z'.1, z'.2.1, z'.2.2.1, z'.2.2.2, th', anew, vals')) ∨
    (∃ (a' e' : Nat) (x' z' z'' : Int32 × Int32 × Int32 × Int32) (th' : Int32) (vals' hours' anew' : Nat → Int32), a < a' ∧ Cur T L a' e' x' z'' ∧ f_X2_turnItem F (nI L) text (nI n) x.1 x.2.1 x.2.2.1 x.2.2.2 hours = some (1, x'.1, x'.2.1, x'.2.2.1, x'.2.2.2, hours') ∧
      f_X5_takesTurn F (nI L) bytes z.1 z.2.1 z.2.2.1 z.2.2.2 th anew vals = some (1, z'.1, z'.2.1, z'.2.2.1, z'.2.2.2, th', anew', vals') ∧ z'.2.2.1 = 3 ∧ f_X5_goBehind F (nI L) bytes z'.1 z'.2.1 z'.2.2.1 z'.2.2.2 = some z'' ∧ DR n d p kind wanted hours' had due anew') := by
  obtain ⟨hn5, hp, ⟨t0, -⟩, -⟩ := id hD
  have hae := h.2.2.2.2.1
  unfold f_X2_turnItem f_X5_takesTurn
  obtain ⟨a1, e1, x1, z1, s1, c1, s3, s4⟩ := stepB hF hT h
  rw [if_pos ht, s3, Option.bind_some, s4, Option.bind_some, chk_t (by decide), show anew (0 : Int32).toNatClampNeg = nI n from t0]
  rcases numB hF hT c1 (i := 0) (by omega) (ai := 0) rfl 0 (nI n - 1) vals with ⟨n1, n2⟩ | ⟨v, v1, v2, v3, n1, a2, e2, x2, z2, l1, l2, c2, n2, n3⟩
  · rw [n1, Option.bind_some, if_pos rfl, n2, Option.bind_some, if_pos rfl]
    exact Or.inl ⟨x1, z1, th, vals, c1.1.trans c1.2.2.1.symm, rfl, rfl⟩
  · have hv := nb_n1 hn5 v1 v3
    rw [n1, Option.bind_some, if_neg (show ¬ (1 : Int32) = 0 by decide), n2, Option.bind_some, n3, Option.bind_some, if_neg (show ¬ (1 : Int32) = 0 by decide)]
    dsimp only
    obtain ⟨a4, e4, x4, z4, M, hM, l5, c4, r1, r2⟩ := hoursS hF hT c2 th
    rw [r1, Option.bind_some, r2, Option.bind_some]
    dsimp only
    rcases semB hF hT c4 with ⟨q1, q2⟩ | ⟨q1, q2, a5, e5, x5, z5, l6, c5, q3, q4⟩
    · rw [q2, Option.bind_some, if_pos rfl, decide_eq_false q1, if_pos (show fl false = 0 by decide)]
      exact Or.inl ⟨x4, z4, nI M, _, c4.1.trans c4.2.2.1.symm, rfl, rfl⟩
    · rw [q3, Option.bind_some, if_neg (show ¬ (1 : Int32) = 0 by decide), decide_eq_true q1, if_neg (show ¬ fl true = 0 by decide), chk_t (show ix 0 2 = true by decide), show upd vals 0 (nI v) (0 : Int32).toNatClampNeg = nI v from rfl, v2, show (14 : Int32) + nI v = nI (14 + v) from nI_add 14 v, chk_t (ix_n (by omega) (by omega)), chk_t (ix_n (by omega) (by omega)), cl_n (show v < 2 ^ 31 by omega), cl_n (show 14 + v < 2 ^ 31 by omega)]
      exact Or.inr ⟨a5, e5, x5, z4, z5, nI M, _, _, _, by omega, c5, rfl, rfl, q2, q4, DR_turn hD hv hM⟩
theorem dG_N {n i p : Nat} {K Q : Nat → Int32} (hi : i < n) (hp : p < 10000) (O : Nat → Int32) (hw : ∀ i, i < n → (∃ a : Nat, K i = nI a ∧ a ≤ 5) ∧ (∃ a : Nat, Q i = nI a ∧ 1 ≤ a ∧ a ≤ 20)) : ∀ h, ∃ G, G ≤ 40 * h ∧ dG K Q O (nI p) i h = nI G
  | 0 => ⟨0, Nat.zero_le _, rfl⟩
  | h + 1 => by
    obtain ⟨G, h1, h2⟩ := dG_N hi hp O hw h
    obtain ⟨g, h3, h4⟩ := ga_40 hi hp (nI h) (O h) hw
    refine ⟨G + g, by omega, ?_⟩
    show dG K Q O (nI p) i h + ga K Q (nI h) (O h) (nI p) i = _
    rw [h2, h4, nI_add]
theorem DR_day {n d p : Nat} {kind wanted hours had due had' due' anew anew' G D : Nat → Int32} (h : DR n d p kind wanted hours had due anew)
    (hh : ∀ i, i < n → had' i = had i + G i ∧ due' i = due i + D i) (ht' : ∀ i, i < n → anew' (4 + i) = anew (4 + i) + G i ∧ anew' (9 + i) = anew (9 + i) + D i) (h25 : anew' 25 = nI (d + 1)) (hk : ∀ j, j < 4 ∨ 14 ≤ j → ¬ j = 25 → anew' j = anew j) :
    DR n (d + 1) p kind wanted hours had' due' anew' := by
  obtain ⟨h1, h2, ⟨t0, t1, t2, t3, t4, t5⟩, hw⟩ := h
  refine ⟨h1, h2, ⟨?_, ?_, ?_, ?_, ?_, h25⟩, fun i hi => ?_⟩
  · rw [hk 0 (by omega) (by omega)]; exact t0
  · rw [hk 1 (by omega) (by omega)]; exact t1
  · rw [hk 2 (by omega) (by omega)]; exact t2
  · rw [hk 3 (by omega) (by omega)]; exact t3
  · rw [hk 24 (by omega) (by omega)]; exact t4
  · obtain ⟨a1, a2, a4, a5, a6, a7, a8⟩ := hw i hi
    rw [hk (26 + i) (by omega) (by omega), hk (19 + i) (by omega) (by omega), hk (14 + i) (by omega) (by omega), (ht' i hi).1, (ht' i hi).2, (hh i hi).1, (hh i hi).2, a7, a8]
    exact ⟨a1, a2, a4, a5, a6, rfl, rfl⟩
theorem itemD {F L a e n d p : Nat} {T : Nat → Nat} {text bytes : Nat → Int32} {x z : Int32 × Int32 × Int32 × Int32} (hF : 300 < F) (hT : TxR T L text bytes) (h : Cur T L a e x z) (ht : x.2.2.1 = 6) {kind wanted hours had due anew : Nat → Int32} (hD : DR n d p kind wanted hours had due anew) (hd : d < 999) (lo0 lb : Int32) (ahead gets dg dd ah ge : Nat → Int32) :
    ∃ (z' : Int32 × Int32 × Int32 × Int32) (lb' : Int32) (anew' dg' dd' ah' ge' : Nat → Int32), f_X5_takesDay F (nI L) bytes lb z.1 z.2.1 z.2.2.1 z.2.2.2 anew dg dd ah ge = some (1, lb', z'.1, z'.2.1, z'.2.2.1, z'.2.2.2, anew', dg', dd', ah', ge') ∧
    ((∃ x' : Int32 × Int32 × Int32 × Int32, x'.1 = z'.1 ∧ ¬ z'.2.2.1 = 3 ∧ f_X2_dayItem F (nI L) text (nI p) (nI n) hours kind wanted x.1 x.2.1 x.2.2.1 x.2.2.2 (nI d) lo0 ahead gets had due = some (0, x'.1, x'.2.1, x'.2.2.1, x'.2.2.2, nI d, lo0, ahead, gets, had, due)) ∨
    (∃ (a' e' : Nat) (x' z'' : Int32 × Int32 × Int32 × Int32) (lo' : Int32) (ahead' gets' had' due' : Nat → Int32), a < a' ∧ Cur T L a' e' x' z'' ∧ f_X2_dayItem F (nI L) text (nI p) (nI n) hours kind wanted x.1 x.2.1 x.2.2.1 x.2.2.2 (nI d) lo0 ahead gets had due = some (1, x'.1, x'.2.1, x'.2.2.1, x'.2.2.2, nI (d + 1), lo', ahead', gets', had', due') ∧
      z'.2.2.1 = 3 ∧ f_X5_goBehind F (nI L) bytes z'.1 z'.2.1 z'.2.2.1 z'.2.2.2 = some z'' ∧ DR n (d + 1) p kind wanted hours had' due' anew')) := by
  obtain ⟨hn5, hp, ⟨t0, t1, t2, t3, t4, t5⟩, hw⟩ := id hD
  unfold f_X2_dayItem f_X5_takesDay
  obtain ⟨a1, e1, x1, z1, s1, c1, s3, s4⟩ := stepB hF hT h
  obtain ⟨rx, x1', x2', x3', x4'⟩ := passDay_x (F := F) (by omega) hn5 hd (nI p) hours kind wanted lo0 ahead gets had due
  obtain ⟨rm, y1, y2, y3, y4, y5⟩ := passDay_mN (N := 75) (by omega) (by omega) (F := F) (by omega) hn5 t0 t4 t5 (fun j hj => ⟨(hw j hj).2.2.1, (hw j hj).2.2.2.1, (hw j hj).2.2.2.2.1⟩) lb dg dd ah ge
  obtain ⟨G, g1, g2⟩ := sm_N (f := fun i => dG kind wanted (fun h => op hours (nI h) n) (nI p) i 8) (b := 320) (n := n) (fun i hi => by
    obtain ⟨G, a, b⟩ := dG_N hi (by omega) (fun h => op hours (nI h) n) (p := p) (fun i hi => ⟨(hw i hi).1, (hw i hi).2.1.1⟩) 8
    exact ⟨G, by omega, b⟩)
  rw [if_pos ht, s3, Option.bind_some, s4, Option.bind_some, y1, Option.bind_some, y2, g2, if_neg (show ¬ nI G < (0 : Int32) from nI_nlt (b := 0) (by omega) (by omega))]
  refine ⟨z1, _, _, _, _, _, _, rfl, ?_⟩
  rcases semB hF hT c1 with ⟨q1, q2⟩ | ⟨q1, q2, a5, e5, x5, z5, l6, c5, q3, q4⟩
  · rw [q2, Option.bind_some, if_pos rfl]
    exact Or.inl ⟨x1, c1.1.trans c1.2.2.1.symm, fun q => q1 ((TK_s c1.2.2.2.2.2.2).1.mpr q), rfl⟩
  · rw [q3, Option.bind_some, if_neg (show ¬ (1 : Int32) = 0 by decide), x1', Option.bind_some, x3']
    have hae := h.2.2.2.2.1
    exact Or.inr ⟨a5, e5, x5, z5, _, _, _, _, _, by omega, c5, rfl, q2, q4, DR_day hD x4' y3 y4 y5⟩

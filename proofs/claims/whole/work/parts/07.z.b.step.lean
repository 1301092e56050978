/-! PURE: a step to the next token, on both sides -/
theorem skip_x {F L s : Nat} {T : Nat → Nat} {text bytes : Nat → Int32} (hF : 300 < F) (hT : TxR T L text bytes) (hs : s ≤ L) (st tk vl : Int32) : f_X2_step F (nI L) text st (nI s) tk vl = f_X2_step_b38 F (nI L) text st (nI (scan (spT T) (L - s) s)) tk vl := by
  obtain ⟨hL, hT⟩ := hT
  unfold f_X2_step
  refine scan_loop (fun m s => f_X2_step_b0 F (nI L) text m st (nI s) tk vl) (spT T) (fun s => f_X2_step_b38 F (nI L) text st (nI s) tk vl) s L ?_ ?_ ?_ (L - s) s F (Nat.le_refl s) (by omega) (by omega)
  · intro m
    try dsimp only
    rw [f_X2_step_b0, if_pos (nI_le (Nat.le_refl _) (by omega))]
  · intro m s h1 h2 h3
    try dsimp only
    have h4 : ¬ T s = 32 := decide_eq_false_iff_not.mp h3
    rw [f_X2_step_b0, if_neg (nI_ge h2 (by omega)), chk_t (ix_n (by omega) (by omega)), cl_n (by omega), (hT s h2).1, if_neg (show ¬ nI (T s) = (32 : Int32) from fun z => h4 ((nI_eq (b := 32) (by have := (hT s h2).2.2; omega) (by omega)).mp z))]
  · intro m s h1 h2 h3
    try dsimp only
    have h4 : T s = 32 := decide_eq_true_iff.mp h3
    rw [f_X2_step_b0, if_neg (nI_ge h2 (by omega)), chk_t (ix_n (by omega) (by omega)), cl_n (by omega), (hT s h2).1, if_pos (show nI (T s) = (32 : Int32) from congrArg nI h4), nI_1]
theorem skip_m {F L s : Nat} {T : Nat → Nat} {text bytes : Nat → Int32} (hF : 300 < F) (hT : TxR T L text bytes) (hs : s ≤ L) (at0 ln tk vl : Int32) : f_X5_lookAt F (nI s) (nI L) bytes at0 ln tk vl = f_X5_lookAt_b43 F (nI s) (nI L) bytes (nI (scan (spT T) (L - s) s)) ln tk vl := by
  obtain ⟨hL, hT⟩ := hT
  unfold f_X5_lookAt
  generalize hs1 : nI s = s1
  have key := scan_loop (fun m s => f_X5_lookAt_b5 F s1 (nI L) bytes m (nI s) ln tk vl) (spT T) (fun s => f_X5_lookAt_b43 F s1 (nI L) bytes (nI s) ln tk vl) s L ?_ ?_ ?_ (L - s) s F (Nat.le_refl s) (by omega) (by omega)
  · rw [← hs1] at key ⊢
    exact key
  · intro m
    try dsimp only
    rw [f_X5_lookAt_b5, if_pos (nI_le (Nat.le_refl _) (by omega))]
  · intro m s h1 h2 h3
    try dsimp only
    have h4 : ¬ T s = 32 := decide_eq_false_iff_not.mp h3
    rw [f_X5_lookAt_b5, if_neg (nI_ge h2 (by omega)), chk_t (ix_n (by omega) (by omega)), cl_n (by omega), (hT s h2).2.1, if_neg (show ¬ nI (T s) = (32 : Int32) from fun z => h4 ((nI_eq (b := 32) (by have := (hT s h2).2.2; omega) (by omega)).mp z))]
  · intro m s h1 h2 h3
    try dsimp only
    have h4 : T s = 32 := decide_eq_true_iff.mp h3
    rw [f_X5_lookAt_b5, if_neg (nI_ge h2 (by omega)), chk_t (ix_n (by omega) (by omega)), cl_n (by omega), (hT s h2).2.1, if_pos (show nI (T s) = (32 : Int32) from congrArg nI h4), nI_1]
theorem scan_1 {P : Nat → Bool} {L a : Nat} (ha : a < L) (hP : P a = true) : scan P (L - a) a = scan P (L - (a + 1)) (a + 1) := by
  obtain ⟨d, hd⟩ : ∃ d, L - a = d + 1 := ⟨L - a - 1, by omega⟩
  rw [hd, show L - (a + 1) = d by omega, scan, if_pos hP]
theorem run_m {F L a : Nat} {T : Nat → Nat} {text bytes : Nat → Int32} (hF : 300 < F) (hT : TxR T L text bytes) (ha : a < L) (a1 : Int32) (P : Nat → Bool) (t : Int32) (hPt : (t = 1 ∧ P = leT T) ∨ (t = 2 ∧ P = fiT T)) (hl : P a = true) :
    f_X5_lookAt_b136 F a1 (nI L) bytes F 1 (nI a) 1 t 0 = f_X5_lookAt_b215 F a1 (nI L) bytes (nI a) (nI (scan P (L - a) a - a)) t 0 := by
  obtain ⟨hL, hT⟩ := hT
  rw [scan_1 ha hl]
  have key := scan_loop (fun m s => f_X5_lookAt_b136 F a1 (nI L) bytes m 1 (nI a) (nI (s - a)) t 0) P (fun s => f_X5_lookAt_b215 F a1 (nI L) bytes (nI a) (nI (s - a)) t 0) (a + 1) L ?_ ?_ ?_ (L - (a + 1)) (a + 1) F (Nat.le_refl _) (by omega) (by omega)
  · try dsimp only at key
    rw [show a + 1 - a = 1 by omega] at key
    exact key
  · intro m
    try dsimp only
    rw [f_X5_lookAt_b136, if_neg (by decide), nI_add, if_pos (nI_le (by omega) (by omega))]
  · intro m s h1 h2 h3
    try dsimp only
    have hb : ∀ x, x = fl (P s) → (if x = (0 : Int32) then f_X5_lookAt_b208 F a1 (nI L) bytes (f_X5_lookAt_b136 F a1 (nI L) bytes (m + 1)) x (nI (s - a)) 0 (nI a) (nI (s - a)) t 0 else f_X5_lookAt_b208 F a1 (nI L) bytes (f_X5_lookAt_b136 F a1 (nI L) bytes (m + 1)) x (nI (s - a)) 1 (nI a) (nI (s - a)) t 0) = f_X5_lookAt_b215 F a1 (nI L) bytes (nI a) (nI (s - a)) t 0 := by
      intro x hx
      rw [hx, h3, if_pos (show fl false = 0 by decide)]
      unfold f_X5_lookAt_b208
      rw [f_X5_lookAt_b136, if_pos (show fl false = 0 by decide), Int32.add_zero]
    rw [f_X5_lookAt_b136, if_neg (by decide), nI_add, show a + (s - a) = s by omega, if_neg (nI_ge h2 (by omega)), chk_t (ix_n (by omega) (by omega)), cl_n (show s < 2 ^ 31 by omega), (hT s h2).2.1]
    unfold f_X5_lookAt_b193
    rcases hPt with ⟨rfl, rfl⟩ | ⟨rfl, rfl⟩
    · rw [if_pos rfl, le_m F (hT s h2).2.2, Option.bind_some]
      exact hb _ rfl
    · rw [if_neg (by decide), fi_m F (hT s h2).2.2, Option.bind_some]
      exact hb _ rfl
  · intro m s h1 h2 h3
    try dsimp only
    have hb : ∀ x, x = fl (P s) → (if x = (0 : Int32) then f_X5_lookAt_b208 F a1 (nI L) bytes (f_X5_lookAt_b136 F a1 (nI L) bytes (m + 1)) x (nI (s - a)) 0 (nI a) (nI (s - a)) t 0 else f_X5_lookAt_b208 F a1 (nI L) bytes (f_X5_lookAt_b136 F a1 (nI L) bytes (m + 1)) x (nI (s - a)) 1 (nI a) (nI (s - a)) t 0) = f_X5_lookAt_b136 F a1 (nI L) bytes (m + 1) 1 (nI a) (nI (s + 1 - a)) t 0 := by
      intro x hx
      rw [hx, h3, if_neg (show ¬ fl true = 0 by decide)]
      unfold f_X5_lookAt_b208
      rw [nI_1, show s - a + 1 = s + 1 - a by omega]
      rfl
    rw [f_X5_lookAt_b136, if_neg (by decide), nI_add, show a + (s - a) = s by omega, if_neg (nI_ge h2 (by omega)), chk_t (ix_n (by omega) (by omega)), cl_n (show s < 2 ^ 31 by omega), (hT s h2).2.1]
    unfold f_X5_lookAt_b193
    rcases hPt with ⟨rfl, rfl⟩ | ⟨rfl, rfl⟩
    · rw [if_pos rfl, le_m F (hT s h2).2.2, Option.bind_some]
      exact hb _ rfl
    · rw [if_neg (by decide), fi_m F (hT s h2).2.2, Option.bind_some]
      exact hb _ rfl
theorem end_no {F : Nat} (hF : 300 < F) (a1 L : Int32) (bytes : Nat → Int32) (at0 : Int32) {k : Nat} (hk : 0 < k) (hk2 : k < 1000) {t : Int32} (ht : ¬ t = 2) : f_X5_lookAt_b215 F a1 L bytes at0 (nI k) t 0 = some (at0, nI k, t, 0) := by
  obtain ⟨m, rfl⟩ : ∃ q, F = q + 1 := ⟨F - 1, by omega⟩
  unfold f_X5_lookAt_b215
  rw [f_X5_lookAt_b218, if_neg (show ¬ nI k ≤ (0 : Int32) from nI_ge (a := 0) hk (by omega)), if_neg (by decide), if_neg ht]
  unfold f_X5_lookAt_b274
  rw [if_neg ht]
theorem end_num {F L a k : Nat} {T : Nat → Nat} {text bytes : Nat → Int32} (hF : 300 < F) (hT : TxR T L text bytes) (hk : 0 < k) (hk2 : a + k ≤ L) (hfi : ∀ t, a ≤ t → t < a + k → 48 ≤ T t ∧ T t ≤ 57) (a1 : Int32) :
    f_X5_lookAt_b215 F a1 (nI L) bytes (nI a) (nI k) 2 0 = some (nI a, nI k, if 2 < k then 4 else 2, nI (nvT T a k)) := by
  obtain ⟨hL, hT⟩ := hT
  obtain ⟨m, rfl⟩ : ∃ q, F = q + 3 := ⟨F - 3, by omega⟩
  have f0 := hfi a (Nat.le_refl a) (by omega)
  have end274 : ∀ v, f_X5_lookAt_b274 (m + 3) a1 (nI L) bytes (nI a) (nI k) 2 v = some (nI a, nI k, if 2 < k then 4 else 2, v) := by
    intro v
    unfold f_X5_lookAt_b274
    rw [if_pos rfl]
    by_cases c : 2 < k
    · rw [if_neg (show ¬ nI k ≤ (2 : Int32) from nI_ge (a := 2) c (by omega)), if_pos c]
    · rw [if_pos (show nI k ≤ (2 : Int32) from nI_le (b := 2) (by omega) (by omega)), if_neg c]
  have n1 : nvT T a 1 = T a - 48 := by
    rw [nvT, if_neg (by omega), nvT]
    show 10 * 0 + T (a + 0) - 48 = _
    rw [Nat.add_zero, Nat.mul_zero, Nat.zero_add]
  unfold f_X5_lookAt_b215
  rw [f_X5_lookAt_b218, if_neg (show ¬ nI k ≤ (0 : Int32) from nI_ge (a := 0) hk (by omega)), if_neg (by decide), if_pos rfl, show nI a + (0 : Int32) = nI a from Int32.add_zero _, chk_t (ix_n (by omega) (by omega)), cl_n (show a < 2 ^ 31 by omega), (hT a (by omega)).2.1, show (10 : Int32) * 0 + nI (T a) - 48 = nI (T a - 48) from (congrArg (fun x => x - (48 : Int32)) (Int32.zero_add (nI (T a)))).trans (pk_sub (b := 48) f0.1), ← n1]
  by_cases c1 : k = 1
  · subst c1
    rw [f_X5_lookAt_b218, if_pos (by decide), end274]
  · have f1 := hfi (a + 1) (by omega) (by omega)
    have n2 : nvT T a 2 = 10 * nvT T a 1 + T (a + 1) - 48 := by rw [nvT, if_neg (by omega)]
    rw [f_X5_lookAt_b218, show (0 : Int32) + 1 = 1 from rfl, if_neg (show ¬ nI k ≤ (1 : Int32) from nI_ge (a := 1) (by omega) (by omega)), if_neg (by decide), if_pos rfl, show nI a + (1 : Int32) = nI (a + 1) from nI_1 a, chk_t (ix_n (by omega) (by omega)), cl_n (show a + 1 < 2 ^ 31 by omega), (hT (a + 1) (by omega)).2.1, show (10 : Int32) * nI (nvT T a 1) = nI (10 * nvT T a 1) from pk_mul 10 _, nI_add, show nI (10 * nvT T a 1 + T (a + 1)) - (48 : Int32) = nI (10 * nvT T a 1 + T (a + 1) - 48) from pk_sub (b := 48) (by omega), ← n2, f_X5_lookAt_b218, show (1 : Int32) + 1 = 2 from rfl, nvT_2 k (by omega)]
    by_cases c2 : nI k ≤ (2 : Int32)
    · rw [if_pos c2, end274]
    · rw [if_neg c2, if_pos (by decide), end274]
/-- the token at a, on both sides -/
theorem at_both {F L a : Nat} {T : Nat → Nat} {text bytes : Nat → Int32} (hF : 300 < F) (hT : TxR T L text bytes) (ha : a ≤ L) (a1 st tk vl ln tk' vl' : Int32) :
    ∃ e tok val tokM valM, a ≤ e ∧ e ≤ L ∧ TK T L a e tok val tokM valM ∧ f_X2_step_b38 F (nI L) text st (nI a) tk vl = some (nI a, nI e, tok, val) ∧ f_X5_lookAt_b43 F a1 (nI L) bytes (nI a) ln tk' vl' = some (nI a, nI (e - a), tokM, valM) := by
  have hL := hT.1
  unfold f_X2_step_b38 f_X5_lookAt_b43
  by_cases c : a = L
  · subst c
    refine ⟨a, 0, vl, 0, 0, Nat.le_refl a, Nat.le_refl a, Or.inl ⟨rfl, rfl, rfl, rfl⟩, ?_, ?_⟩
    · rw [if_neg (nI_nlt (Nat.le_refl _) (by omega))]
    · rw [if_pos rfl, Nat.sub_self]; rfl
  · have haL : a < L := by omega
    obtain ⟨t1, t2, t3⟩ := hT.2 a haL
    rw [if_pos (nI_lt haL (by omega)), chk_t (ix_n (by omega) (by omega)), cl_n (by omega), t1, le_x F t3, Option.bind_some, if_neg (fun z => c ((nI_eq (by omega) (by omega)).mp z)), chk_t (ix_n (by omega) (by omega)), t2, le_m F t3, Option.bind_some]
    unfold f_X5_lookAt_b114 f_X5_lookAt_b135
    cases hl : leT T a with
    | true =>
      obtain ⟨t, e, e1, e2, e3, e4, e5⟩ := word_x hF hT haL hl tk
      refine ⟨e, nI t, vl, 1, 0, by omega, e3, Or.inr (Or.inr (Or.inr (Or.inr ⟨t, rfl, rfl, e1, e4⟩))), ?_, ?_⟩
      · rw [if_neg (show ¬ fl true = 0 by decide), e5, Option.bind_some]
      · rw [chk_t (ix_n (by omega) (by omega)), if_neg (show ¬ fl true = 0 by decide), if_neg (by decide), run_m hF hT haL a1 (leT T) 1 (Or.inl ⟨rfl, rfl⟩) hl, ← e2, end_no hF a1 (nI L) bytes (nI a) (by omega) (by omega) (by decide)]
    | false =>
      rw [if_pos (show fl false = 0 by decide), if_pos (show fl false = 0 by decide), chk_t (ix_n (by omega) (by omega)), fi_x F t3, fi_m F t3, Option.bind_some, Option.bind_some]
      cases hf : fiT T a with
      | true =>
        obtain ⟨e, e1, e2, e3, e4, e5⟩ := num_x hF hT haL hf tk vl
        have hfi : ∀ t, a ≤ t → t < a + (e - a) → 48 ≤ T t ∧ T t ≤ 57 := fun t h1 h2 => fiT_iff.mp (scan_in (fiT T) (L - a) a t h1 (by omega))
        have r1 : f_X5_lookAt_b136 F a1 (nI L) bytes F 1 (nI a) 1 2 0 = some (nI a, nI (e - a), if 2 < e - a then 4 else 2, nI (nvT T a (e - a))) := by
          rw [run_m hF hT haL a1 (fiT T) 2 (Or.inr ⟨rfl, rfl⟩) hf, ← e2, end_num hF hT (by omega) (by omega) hfi a1]
        by_cases c2 : 2 < e - a
        · refine ⟨e, 7, nI (nvT T a (e - a)), 4, nI (nvT T a (e - a)), by omega, e3, Or.inr (Or.inr (Or.inr (Or.inl ⟨rfl, rfl, e1⟩))), ?_, ?_⟩
          · rw [if_neg (show ¬ fl true = 0 by decide), e5, Option.bind_some, if_pos c2]
          · rw [if_neg (show ¬ fl true = 0 by decide), if_neg (by decide), r1, if_pos c2]
        · refine ⟨e, 2, nI (nvT T a (e - a)), 2, nI (nvT T a (e - a)), by omega, e3, Or.inr (Or.inr (Or.inl ⟨_, e4, rfl, rfl, rfl, rfl, e1⟩)), ?_, ?_⟩
          · rw [if_neg (show ¬ fl true = 0 by decide), e5, Option.bind_some, if_neg c2]
          · rw [if_neg (show ¬ fl true = 0 by decide), if_neg (by decide), r1, if_neg c2]
      | false =>
        rw [if_pos (show fl false = 0 by decide), if_pos (show fl false = 0 by decide)]
        unfold f_X2_takeSign f_X2_takeSign_b21
        obtain ⟨m, hm⟩ : ∃ q, F = q + 1 := ⟨F - 1, by omega⟩
        have r0 : ∀ G t, ¬ t = (2 : Int32) → f_X5_lookAt_b136 G a1 (nI L) bytes F 0 (nI a) 1 t 0 = f_X5_lookAt_b215 G a1 (nI L) bytes (nI a) 1 t 0 := by
          intro G t ht
          rw [hm, f_X5_lookAt_b136, if_pos rfl]
        by_cases c3 : T a = 59
        · refine ⟨a + 1, 1, vl, 3, 0, by omega, by omega, Or.inr (Or.inl ⟨rfl, rfl, rfl⟩), ?_, ?_⟩
          · rw [chk_t (ix_n (by omega) (by omega)), cl_n (by omega), t1, if_pos (show nI (T a) = (59 : Int32) from congrArg nI c3), Option.bind_some, nI_1]
          · rw [if_pos (show nI (T a) = (59 : Int32) from congrArg nI c3), if_pos (by decide), r0 F 3 (by decide), show a + 1 - a = 1 by omega]
            exact end_no hF a1 (nI L) bytes (nI a) (k := 1) (by omega) (by omega) (by decide)
        · have c3' : ¬ nI (T a) = (59 : Int32) := fun z => c3 ((nI_eq (b := 59) (by omega) (by omega)).mp z)
          refine ⟨a + 1, 7, vl, 4, 0, by omega, by omega, Or.inr (Or.inr (Or.inr (Or.inl ⟨rfl, rfl, by omega⟩))), ?_, ?_⟩
          · rw [chk_t (ix_n (by omega) (by omega)), cl_n (by omega), t1, if_neg c3', Option.bind_some, nI_1]
          · rw [if_neg c3', if_pos (by decide), r0 F 4 (by decide), show a + 1 - a = 1 by omega]
            exact end_no hF a1 (nI L) bytes (nI a) (k := 1) (by omega) (by omega) (by decide)
/-- where both are -/
def Cur (T : Nat → Nat) (L a e : Nat) (x z : Int32 × Int32 × Int32 × Int32) : Prop :=
  x.1 = nI a ∧ x.2.1 = nI e ∧ z.1 = nI a ∧ z.2.1 = nI (e - a) ∧ a ≤ e ∧ e ≤ L ∧ TK T L a e x.2.2.1 x.2.2.2 z.2.2.1 z.2.2.2
theorem step_both {F L s : Nat} {T : Nat → Nat} {text bytes : Nat → Int32} (hF : 300 < F) (hT : TxR T L text bytes) (hs : s ≤ L) (st tk vl at0 ln tk' vl' : Int32) :
    ∃ a e x z, s ≤ a ∧ Cur T L a e x z ∧ f_X2_step F (nI L) text st (nI s) tk vl = some x ∧ f_X5_lookAt F (nI s) (nI L) bytes at0 ln tk' vl' = some z := by
  have sb := scan_b (spT T) (L - s) s
  obtain ⟨e, tok, val, tokM, valM, h1, h2, h3, h4, h5⟩ := at_both hF hT (a := scan (spT T) (L - s) s) (by omega) (nI s) st tk vl ln tk' vl'
  refine ⟨_, e, _, _, sb.1, ⟨rfl, rfl, rfl, rfl, h1, h2, h3⟩, (skip_x hF hT hs st tk vl).trans h4, (skip_m hF hT hs at0 ln tk' vl').trans h5⟩
/-- a step behind the token -/
theorem stepB {F L a e : Nat} {T : Nat → Nat} {text bytes : Nat → Int32} {x z : Int32 × Int32 × Int32 × Int32} (hF : 300 < F) (hT : TxR T L text bytes) (h : Cur T L a e x z) :
    ∃ a' e' x' z', e ≤ a' ∧ Cur T L a' e' x' z' ∧ f_X2_step F (nI L) text x.1 x.2.1 x.2.2.1 x.2.2.2 = some x' ∧ f_X5_goBehind F (nI L) bytes z.1 z.2.1 z.2.2.1 z.2.2.2 = some z' := by
  obtain ⟨h1, h2, h3, h4, h5, h6, h7⟩ := h
  obtain ⟨a', e', x', z', i1, i2, i3, i4⟩ := step_both hF hT h6 x.1 x.2.2.1 x.2.2.2 z.1 z.2.1 z.2.2.1 z.2.2.2
  refine ⟨a', e', x', z', i1, i2, by rw [h2]; exact i3, ?_⟩
  unfold f_X5_goBehind
  rw [h3, h4, nI_add, show a + (e - a) = e by omega]
  rw [h3, h4] at i4
  rw [i4]
  rfl

/-! PURE: tokens of a text, as both read them -/
def scan (P : Nat → Bool) : Nat → Nat → Nat
  | 0, s => s
  | d + 1, s => if P s = true then scan P d (s + 1) else s
theorem scan_b (P : Nat → Bool) : ∀ d s, s ≤ scan P d s ∧ scan P d s ≤ s + d
  | 0, s => ⟨Nat.le_refl _, Nat.le_refl _⟩
  | d + 1, s => by
    unfold scan
    have := scan_b P d (s + 1)
    split <;> omega
theorem scan_in (P : Nat → Bool) : ∀ d s t, s ≤ t → t < scan P d s → P t = true
  | 0, s, t, h1, h2 => by unfold scan at h2; omega
  | d + 1, s, t, h1, h2 => by
    unfold scan at h2
    by_cases hP : P s = true
    · rw [if_pos hP] at h2
      by_cases e : t = s
      · subst e; exact hP
      · exact scan_in P d (s + 1) t (by omega) h2
    · rw [if_neg hP] at h2
      omega
theorem scan_loop {α : Type} (X : Nat → Nat → Option α) (P : Nat → Bool) (ex : Nat → Option α) (a L : Nat) (hstop : ∀ m, X (m + 2) L = ex L) (hno : ∀ m s, a ≤ s → s < L → P s = false → X (m + 2) s = ex s) (hyes : ∀ m s, a ≤ s → s < L → P s = true → X (m + 2) s = X (m + 1) (s + 1)) : ∀ d s F, a ≤ s → s + d = L → d + 1 < F → X F s = ex (scan P d s) := by
  intro d
  induction d with
  | zero =>
    intro s F ha e hF
    obtain ⟨m, rfl⟩ : ∃ q, F = q + 2 := ⟨F - 2, by omega⟩
    obtain rfl : s = L := by omega
    exact hstop m
  | succ d ih =>
    intro s F ha e hF
    obtain ⟨m, rfl⟩ : ∃ q, F = q + 2 := ⟨F - 2, by omega⟩
    unfold scan
    cases hP : P s with
    | true =>
      rw [hyes m s ha (by omega) hP, if_pos rfl]
      exact ih (s + 1) (m + 1) (by omega) (by omega) (by omega)
    | false =>
      rw [hno m s ha (by omega) hP, if_neg (by decide)]
def spT (T : Nat → Nat) (s : Nat) : Bool := decide (T s = 32)
def leT (T : Nat → Nat) (s : Nat) : Bool := decide (97 ≤ T s) && decide (T s ≤ 122)
def fiT (T : Nat → Nat) (s : Nat) : Bool := decide (48 ≤ T s) && decide (T s ≤ 57)
theorem leT_iff {T : Nat → Nat} {s : Nat} : leT T s = true ↔ 97 ≤ T s ∧ T s ≤ 122 := by unfold leT; rw [Bool.and_eq_true, decide_eq_true_iff, decide_eq_true_iff]
theorem fiT_iff {T : Nat → Nat} {s : Nat} : fiT T s = true ↔ 48 ≤ T s ∧ T s ≤ 57 := by unfold fiT; rw [Bool.and_eq_true, decide_eq_true_iff, decide_eq_true_iff]
theorem le_x (F : Nat) {T : Nat → Nat} {s : Nat} (h : T s ≤ 127) : f_X2_isLetter F (nI (T s)) = some (fl (leT T s)) := by
  unfold f_X2_isLetter
  by_cases h1 : T s < 97
  · rw [if_pos (show nI (T s) < (97 : Int32) from nI_lt (b := 97) h1 (by omega)), show leT T s = false from Bool.eq_false_iff.mpr (fun z => by have := leT_iff.mp z; omega)]; rfl
  · rw [if_neg (show ¬ nI (T s) < (97 : Int32) from nI_nlt (b := 97) (by omega) (by omega))]
    by_cases h2 : 122 < T s
    · rw [if_pos (show (122 : Int32) < nI (T s) from nI_lt (a := 122) h2 (by omega)), show leT T s = false from Bool.eq_false_iff.mpr (fun z => by have := leT_iff.mp z; omega)]; rfl
    · rw [if_neg (show ¬ (122 : Int32) < nI (T s) from nI_nlt (a := 122) (by omega) (by omega)), leT_iff.mpr ⟨by omega, by omega⟩]; rfl
theorem fi_x (F : Nat) {T : Nat → Nat} {s : Nat} (h : T s ≤ 127) : f_X2_isFigure F (nI (T s)) = some (fl (fiT T s)) := by
  unfold f_X2_isFigure
  by_cases h1 : T s < 48
  · rw [if_pos (show nI (T s) < (48 : Int32) from nI_lt (b := 48) h1 (by omega)), show fiT T s = false from Bool.eq_false_iff.mpr (fun z => by have := fiT_iff.mp z; omega)]; rfl
  · rw [if_neg (show ¬ nI (T s) < (48 : Int32) from nI_nlt (b := 48) (by omega) (by omega))]
    by_cases h2 : 57 < T s
    · rw [if_pos (show (57 : Int32) < nI (T s) from nI_lt (a := 57) h2 (by omega)), show fiT T s = false from Bool.eq_false_iff.mpr (fun z => by have := fiT_iff.mp z; omega)]; rfl
    · rw [if_neg (show ¬ (57 : Int32) < nI (T s) from nI_nlt (a := 57) (by omega) (by omega)), fiT_iff.mpr ⟨by omega, by omega⟩]; rfl
theorem rgb_N {a b c : Nat} (h : c < 2 ^ 31) : rgb a b (nI c) = (decide (a ≤ c) && decide (c ≤ b)) := by
  unfold rgb
  rw [nI_toInt h]
  have e1 : decide ((a : Int) ≤ (c : Int)) = decide (a ≤ c) := by rw [decide_eq_decide]; omega
  have e2 : decide ((c : Int) ≤ (b : Int)) = decide (c ≤ b) := by rw [decide_eq_decide]; omega
  rw [e1, e2]
theorem le_m (F : Nat) {T : Nat → Nat} {s : Nat} (h : T s ≤ 127) : f_X5_isSmall F (nI (T s)) = some (fl (leT T s)) := by
  unfold f_X5_isSmall
  have e : f_X5_in F (nI (T s)).toInt64 97 122 = some (fl (leT T s)) := by
    refine (in_m F (nI (T s)) (a := 97) (b := 122) (by omega) (by omega)).trans ?_
    rw [rgb_N (by omega)]
    rfl
  rw [e, Option.bind_some, chk_t (by cases leT T s <;> rfl)]
theorem fi_m (F : Nat) {T : Nat → Nat} {s : Nat} (h : T s ≤ 127) : f_X5_isFigure F (nI (T s)) = some (fl (fiT T s)) := by
  unfold f_X5_isFigure
  have e : f_X5_in F (nI (T s)).toInt64 48 57 = some (fl (fiT T s)) := by
    refine (in_m F (nI (T s)) (a := 48) (b := 57) (by omega) (by omega)).trans ?_
    rw [rgb_N (by omega)]
    rfl
  rw [e, Option.bind_some, chk_t (by cases fiT T s <;> rfl)]
/-- a word's bytes, packed -/
def pkT (T : Nat → Nat) (a : Nat) : Nat → Nat
  | 0 => 0
  | k + 1 => 256 * pkT T a k + T (a + k)
theorem shl_or {v c : Nat} (hc : c < 256) : ((nI v <<< ((8 : Int32) &&& 31)) ||| nI c) = nI (256 * v + c) := by
  refine b_ext fun j hj => ?_
  rw [b_or, show (8 : Int32) = nI 8 from rfl, b_shl 8 (by omega) (nI v) hj, bt_nI c hj, bt_nI _ hj, show 256 * v + c = 2 ^ 8 * v + c from rfl, Nat.testBit_two_pow_mul_add v (show c < 2 ^ 8 from hc)]
  by_cases h : j < 8
  · rw [if_pos h, decide_eq_false (by omega), Bool.false_and, Bool.false_or]
  · rw [if_neg h, decide_eq_true (show 8 ≤ j by omega), Bool.true_and, bt_nI v (by omega), Nat.testBit_lt_two_pow (Nat.lt_of_lt_of_le hc (show 2 ^ 8 ≤ 2 ^ j from Nat.pow_le_pow_right (by omega) (by omega))), Bool.or_false]
def tokW (v : Nat) : Nat := if v = 6578553 then 6 else if v = 1835100526 then 3 else if v = 1953854062 then 5 else if v = 2003135596 then 4 else 7
theorem word71_x (F : Nat) (a L nx tk : Int32) (text : Nat → Int32) {v : Nat} (hv : v < 2 ^ 31) : f_X2_takeWord_b71 F a L text (nI v) nx tk = some (nx, nI (tokW v)) := by
  unfold f_X2_takeWord_b71 tokW
  simp only [show (6578553 : Int32) = nI 6578553 from rfl, show (1835100526 : Int32) = nI 1835100526 from rfl, show (1953854062 : Int32) = nI 1953854062 from rfl, show (2003135596 : Int32) = nI 2003135596 from rfl, nI_eq hv (show 6578553 < 2 ^ 31 by omega), nI_eq hv (show 1835100526 < 2 ^ 31 by omega), nI_eq hv (show 1953854062 < 2 ^ 31 by omega), nI_eq hv (show 2003135596 < 2 ^ 31 by omega)]
  split
  · rfl
  split
  · rfl
  split
  · rfl
  split <;> rfl
def wd4 (T : Nat → Nat) (a e c0 c1 c2 c3 : Nat) : Prop := e = a + 4 ∧ T a = c0 ∧ T (a + 1) = c1 ∧ T (a + 2) = c2 ∧ T (a + 3) = c3
def wd3 (T : Nat → Nat) (a e c0 c1 c2 : Nat) : Prop := e = a + 3 ∧ T a = c0 ∧ T (a + 1) = c1 ∧ T (a + 2) = c2
/-- which word it is -/
def wdR (T : Nat → Nat) (a e t : Nat) : Prop := 3 ≤ t ∧ t ≤ 7 ∧ (t = 3 ↔ wd4 T a e 109 97 105 110) ∧ (t = 4 ↔ wd4 T a e 119 101 108 108) ∧ (t = 5 ↔ wd4 T a e 116 117 114 110) ∧ (t = 6 ↔ wd3 T a e 100 97 121)
theorem wdR_of {T : Nat → Nat} {a e : Nat} (hae : a < e) (hl : ∀ t, a ≤ t → t < e → 97 ≤ T t ∧ T t ≤ 122) : wdR T a e (if e - a ≤ 4 then tokW (pkT T a (e - a)) else 7) ∧ (e - a ≤ 4 → pkT T a (e - a) < 2 ^ 31) := by
  unfold wdR wd4 wd3
  have l0 := hl a (Nat.le_refl a) hae
  rcases (show e - a = 1 ∨ e - a = 2 ∨ e - a = 3 ∨ e - a = 4 ∨ 5 ≤ e - a by omega) with h | h | h | h | h
  · rw [h, if_pos (by omega)]
    simp only [pkT, Nat.add_zero]
    unfold tokW
    refine ⟨?_, fun _ => by omega⟩
    rw [if_neg (by omega), if_neg (by omega), if_neg (by omega), if_neg (by omega)]
    omega
  · have l1 := hl (a + 1) (by omega) (by omega)
    rw [h, if_pos (by omega)]
    simp only [pkT, Nat.add_zero]
    unfold tokW
    refine ⟨?_, fun _ => by omega⟩
    rw [if_neg (by omega), if_neg (by omega), if_neg (by omega), if_neg (by omega)]
    omega
  · have l1 := hl (a + 1) (by omega) (by omega)
    have l2 := hl (a + 2) (by omega) (by omega)
    rw [h, if_pos (by omega)]
    simp only [pkT, Nat.add_zero]
    unfold tokW
    refine ⟨?_, fun _ => by omega⟩
    rw [if_neg (show ¬ _ = 1835100526 by omega), if_neg (show ¬ _ = 1953854062 by omega), if_neg (show ¬ _ = 2003135596 by omega)]
    split <;> omega
  · have l1 := hl (a + 1) (by omega) (by omega)
    have l2 := hl (a + 2) (by omega) (by omega)
    have l3 := hl (a + 3) (by omega) (by omega)
    rw [h, if_pos (by omega)]
    simp only [pkT, Nat.add_zero]
    unfold tokW
    refine ⟨?_, fun _ => by omega⟩
    rw [if_neg (show ¬ _ = 6578553 by omega)]
    split
    · omega
    split
    · omega
    split <;> omega
  · rw [if_neg (by omega)]
    exact ⟨by omega, fun z => by omega⟩
/-- a number's worth: its first two figures -/
def nvT (T : Nat → Nat) (a : Nat) : Nat → Nat
  | 0 => 0
  | k + 1 => if 2 ≤ k then nvT T a k else 10 * nvT T a k + T (a + k) - 48
theorem nvT_99 {T : Nat → Nat} {a : Nat} : ∀ k, (∀ t, a ≤ t → t < a + k → 48 ≤ T t ∧ T t ≤ 57) → nvT T a k ≤ 99 ∧ (k ≤ 1 → nvT T a k ≤ 9)
  | 0, _ => ⟨by unfold nvT; omega, fun _ => by unfold nvT; omega⟩
  | k + 1, h => by
    obtain ⟨i1, i2⟩ := nvT_99 k (fun t h1 h2 => h t h1 (by omega))
    have := h (a + k) (by omega) (by omega)
    unfold nvT
    by_cases c : 2 ≤ k
    · rw [if_pos c]; exact ⟨i1, fun _ => by omega⟩
    · rw [if_neg c]
      rcases (show k = 0 ∨ k = 1 by omega) with rfl | rfl
      · have : nvT T a 0 = 0 := rfl
        omega
      · have := i2 (Nat.le_refl 1)
        omega
theorem nvT_2 {T : Nat → Nat} {a : Nat} : ∀ k, 2 ≤ k → nvT T a k = nvT T a 2
  | 0, h => by omega
  | k + 1, h => by
    by_cases c : 2 ≤ k
    · rw [nvT, if_pos c, nvT_2 k c]
    · obtain rfl : k = 1 := by omega
      rfl
/-- the same token on both sides, from a to e -/
def TK (T : Nat → Nat) (L a e : Nat) (tok val tokM valM : Int32) : Prop :=
  (tok = 0 ∧ tokM = 0 ∧ a = L ∧ e = L) ∨ (tok = 1 ∧ tokM = 3 ∧ e = a + 1) ∨ (∃ v, v ≤ 99 ∧ tok = 2 ∧ tokM = 2 ∧ val = nI v ∧ valM = nI v ∧ a < e) ∨ (tok = 7 ∧ tokM = 4 ∧ a < e) ∨ (∃ t, tok = nI t ∧ tokM = 1 ∧ a < e ∧ wdR T a e t)
/-- the text's bytes on both sides -/
def TxR (T : Nat → Nat) (L : Nat) (text bytes : Nat → Int32) : Prop := L ≤ 150 ∧ ∀ k, k < L → text k = nI (T k) ∧ bytes k = nI (T k) ∧ T k ≤ 127
theorem word_x {F L a : Nat} {T : Nat → Nat} {text bytes : Nat → Int32} (hF : 300 < F) (hT : TxR T L text bytes) (ha : a < L) (hl : leT T a = true) (tk : Int32) :
    ∃ t e, a < e ∧ e = scan (leT T) (L - a) a ∧ e ≤ L ∧ wdR T a e t ∧ f_X2_takeWord F (nI a) (nI L) text (nI a) tk = some (nI e, nI t) := by
  obtain ⟨hL, hT⟩ := hT
  have sb := scan_b (leT T) (L - a) a
  have hae : a < scan (leT T) (L - a) a := by
    obtain ⟨d, hd⟩ : ∃ d, L - a = d + 1 := ⟨L - a - 1, by omega⟩
    rw [hd]
    unfold scan
    rw [if_pos hl]
    have := scan_b (leT T) d (a + 1)
    omega
  obtain ⟨w1, w2⟩ := wdR_of (T := T) hae (fun t h1 h2 => leT_iff.mp (scan_in (leT T) (L - a) a t h1 h2))
  refine ⟨_, _, hae, rfl, by omega, w1, ?_⟩
  unfold f_X2_takeWord
  have key := scan_loop (fun m s => f_X2_takeWord_b2 F (nI a) (nI L) text m (nI (pkT T a (s - a))) (nI s) tk) (leT T) (fun s => f_X2_takeWord_b56 F (nI a) (nI L) text (nI (pkT T a (s - a))) (nI s) tk) a L ?_ ?_ ?_ (L - a) a F (Nat.le_refl a) (by omega) (by omega)
  · try dsimp only at key
    rw [Nat.sub_self] at key
    refine Eq.trans key ?_
    generalize scan (leT T) (L - a) a = e at *
    unfold f_X2_takeWord_b56
    rw [pk_sub (show a ≤ e by omega)]
    by_cases c : e - a ≤ 4
    · rw [if_pos (show nI (e - a) ≤ (4 : Int32) from nI_le (b := 4) c (by omega)), if_pos c, word71_x F _ _ _ _ _ (w2 c)]
    · rw [if_neg (show ¬ nI (e - a) ≤ (4 : Int32) from nI_ge (a := 4) (by omega) (by omega)), if_neg c]
      exact word71_x F _ _ _ _ _ (v := 0) (by omega)
  · intro m
    try dsimp only
    rw [f_X2_takeWord_b2, if_pos (nI_le (Nat.le_refl _) (by omega))]
  · intro m s h1 h2 h3
    try dsimp only
    rw [f_X2_takeWord_b2, if_neg (nI_ge h2 (by omega)), chk_t (ix_n (by omega) (by omega)), cl_n (by omega), (hT s h2).1, le_x F (hT s h2).2.2, Option.bind_some, h3, if_pos (show fl false = 0 by decide)]
  · intro m s h1 h2 h3
    try dsimp only
    rw [f_X2_takeWord_b2, if_neg (nI_ge h2 (by omega)), chk_t (ix_n (by omega) (by omega)), cl_n (by omega), (hT s h2).1, le_x F (hT s h2).2.2, Option.bind_some, h3, if_neg (show ¬ fl true = 0 by decide), chk_t (ix_n (by omega) (by omega)), shl_or (by have := (hT s h2).2.2; omega), nI_1, show s + 1 - a = (s - a) + 1 by omega, pkT, show a + (s - a) = s by omega]
theorem num_x {F L a : Nat} {T : Nat → Nat} {text bytes : Nat → Int32} (hF : 300 < F) (hT : TxR T L text bytes) (ha : a < L) (hl : fiT T a = true) (tk vl : Int32) :
    ∃ e, a < e ∧ e = scan (fiT T) (L - a) a ∧ e ≤ L ∧ nvT T a (e - a) ≤ 99 ∧ f_X2_takeNumber F (nI a) (nI L) text (nI a) tk vl = some (nI e, if 2 < e - a then 7 else 2, nI (nvT T a (e - a))) := by
  obtain ⟨hL, hT⟩ := hT
  have sb := scan_b (fiT T) (L - a) a
  have hae : a < scan (fiT T) (L - a) a := by
    obtain ⟨d, hd⟩ : ∃ d, L - a = d + 1 := ⟨L - a - 1, by omega⟩
    rw [hd]
    unfold scan
    rw [if_pos hl]
    have := scan_b (fiT T) d (a + 1)
    omega
  have hin := fun t h1 h2 => fiT_iff.mp (scan_in (fiT T) (L - a) a t h1 h2)
  refine ⟨_, hae, rfl, by omega, (nvT_99 _ (fun t h1 h2 => hin t h1 (by omega))).1, ?_⟩
  unfold f_X2_takeNumber
  have key := scan_loop (fun m s => f_X2_takeNumber_b5 F (nI a) (nI L) text m (nI s) tk (nI (nvT T a (s - a)))) (fiT T) (fun s => f_X2_takeNumber_b81 F (nI a) (nI L) text (nI s) tk (nI (nvT T a (s - a)))) a L ?_ ?_ ?_ (L - a) a F (Nat.le_refl a) (by omega) (by omega)
  · try dsimp only at key
    rw [Nat.sub_self] at key
    refine Eq.trans key ?_
    generalize scan (fiT T) (L - a) a = e at *
    unfold f_X2_takeNumber_b81
    rw [pk_sub (show a ≤ e by omega)]
    by_cases c : 2 < e - a
    · rw [if_pos (show (2 : Int32) < nI (e - a) from nI_lt (a := 2) c (by omega)), if_pos c]
    · rw [if_neg (show ¬ (2 : Int32) < nI (e - a) from nI_nlt (a := 2) (by omega) (by omega)), if_neg c]
  · intro m
    try dsimp only
    rw [f_X2_takeNumber_b5, if_pos (nI_le (Nat.le_refl _) (by omega))]
  · intro m s h1 h2 h3
    try dsimp only
    rw [f_X2_takeNumber_b5, if_neg (nI_ge h2 (by omega)), chk_t (ix_n (by omega) (by omega)), cl_n (by omega), (hT s h2).1, fi_x F (hT s h2).2.2, Option.bind_some, h3, if_pos (show fl false = 0 by decide)]
  · intro m s h1 h2 h3
    try dsimp only
    have h4 := fiT_iff.mp h3
    rw [f_X2_takeNumber_b5, if_neg (nI_ge h2 (by omega)), chk_t (ix_n (by omega) (by omega)), cl_n (by omega), (hT s h2).1, fi_x F (hT s h2).2.2, Option.bind_some, h3, if_neg (show ¬ fl true = 0 by decide), pk_sub h1, show s + 1 - a = (s - a) + 1 by omega, nvT, show a + (s - a) = s by omega]
    unfold f_X2_takeNumber_b68
    rw [nI_1]
    by_cases c : 2 ≤ s - a
    · rw [if_pos (show (2 : Int32) ≤ nI (s - a) from nI_le (a := 2) c (by omega)), if_pos c]
    · rw [if_neg (show ¬ (2 : Int32) ≤ nI (s - a) from nI_ge (b := 2) (by omega) (by omega)), if_neg c, chk_t (ix_n (by omega) (by omega)), show (10 : Int32) * nI (nvT T a (s - a)) = nI (10 * nvT T a (s - a)) from pk_mul 10 _, nI_add, show nI (10 * nvT T a (s - a) + T s) - (48 : Int32) = nI (10 * nvT T a (s - a) + T s - 48) from pk_sub (b := 48) (by omega)]

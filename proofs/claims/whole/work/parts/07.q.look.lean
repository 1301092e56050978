/-! PURE: look -/
theorem and1 (x : Int32) : ((x &&& 1) = 1) ↔ bt x 0 = true := by
  constructor
  · intro h
    have h0 : bt (x &&& 1) 0 = true := by rw [h]; rfl
    rw [b_and, Bool.and_eq_true] at h0
    exact h0.1
  · intro h
    refine b_ext fun j hj => ?_
    rw [b_and, bt_1 j hj]
    by_cases e : j = 0
    · subst e
      rw [h]; rfl
    · rw [decide_eq_false e, Bool.and_false]
theorem bit2 (x : Int32) {i j : Nat} (hi : i < 31) (hj : j < 31) : ((((x >>> (nI i &&& 31)) &&& (x >>> (nI j &&& 31))) &&& 1) = 1) ↔ (bt x i && bt x j) = true := by
  rw [and1, b_and, b_sshr i (by omega) x (by omega), b_sshr j (by omega) x (by omega), if_pos (by omega), if_pos (by omega)]
  rfl
/-- kinds i, j get and have due alike -/
def aB (q h p i j : Int32) : Bool := decide (kg i q h p = kg j q h p) && decide (kd i (kg i q h p) = kd j (kg j q h p))
theorem alike_x (F : Nat) (i j q h p : Int32) : f_X4_areAlike F i j q h p = some (fl (aB q h p i j)) := by
  unfold f_X4_areAlike aB
  rw [kg_x, kg_x, Option.bind_some, Option.bind_some]
  by_cases h1 : kg i q h p = kg j q h p
  · rw [if_pos h1, kd_x, kd_x, Option.bind_some, Option.bind_some, decide_eq_true h1, Bool.true_and]
    by_cases h2 : kd i (kg i q h p) = kd j (kg j q h p)
    · rw [if_pos h2, decide_eq_true h2]; rfl
    · rw [if_neg h2, decide_eq_false h2]; rfl
  · rw [if_neg h1, decide_eq_false h1]; rfl
theorem alike_m (F : Nat) (i j q p : Int32) {h : Nat} (hh : h < 8) : f_X5_areAlike F i j (nI h) q p = some (fl (aB q (nI h) p i j)) := by
  unfold f_X5_areAlike aB
  rw [kg_m F _ _ _ hh, kg_m F _ _ _ hh, Option.bind_some, Option.bind_some]
  by_cases h1 : kg i q (nI h) p = kg j q (nI h) p
  · rw [if_pos h1, kd_m, kd_m, Option.bind_some, Option.bind_some, decide_eq_true h1, Bool.true_and]
    by_cases h2 : kd i (kg i q (nI h) p) = kd j (kg j q (nI h) p)
    · rw [if_pos h2, decide_eq_true h2]; rfl
    · rw [if_neg h2, decide_eq_false h2]; rfl
  · rw [if_neg h1, decide_eq_false h1]; rfl
/-- how many of the first j kinds of the set are like kind i -/
def cnN (S q h p : Int32) (i : Nat) : Nat → Nat
  | 0 => 0
  | j + 1 => if (bt S i && bt S j && aB q h p (nI i) (nI j)) = true then cnN S q h p i j + 1 else cnN S q h p i j
theorem cnN_le (S q h p : Int32) (i : Nat) : ∀ j, cnN S q h p i j ≤ j
  | 0 => Nat.le_refl 0
  | j + 1 => by
    have := cnN_le S q h p i j
    unfold cnN
    split <;> omega
theorem cnN_0 {S q h p : Int32} {i : Nat} (hb : bt S i = false) : ∀ j, cnN S q h p i j = 0
  | 0 => rfl
  | j + 1 => by
    unfold cnN
    rw [hb, Bool.false_and, Bool.false_and, if_neg (by decide)]
    exact cnN_0 hb j
def mxN (S q h p : Int32) : Nat → Nat
  | 0 => 0
  | i + 1 => if mxN S q h p i < cnN S q h p i 6 then cnN S q h p i 6 else mxN S q h p i
theorem mxN_le (S q h p : Int32) : ∀ i, mxN S q h p i ≤ 6
  | 0 => Nat.zero_le 6
  | i + 1 => by
    have := mxN_le S q h p i
    have := cnN_le S q h p i 6
    unfold mxN
    split <;> omega
theorem most19_x {F i : Nat} (hF : 200 < F) (hi : i < 6) (S q h p : Int32) (K6 : Int32 → Int32 → Option Int32) (v4 : Int32) :
    f_X4_mostAlike_b19 F S q h p K6 F v4 (nI i) 0 0 = K6 (if v4 < nI (cnN S q h p i 6) then nI (cnN S q h p i 6) else v4) (nI i + 1) := by
  refine loopN (fun m k => f_X4_mostAlike_b19 F S q h p K6 m v4 (nI i) (nI (cnN S q h p i k)) (nI k)) _ 6 ?_ ?_ F (by omega)
  · intro k m hk
    show f_X4_mostAlike_b19 F S q h p K6 (m + 1) v4 (nI i) (nI (cnN S q h p i k)) (nI k) = f_X4_mostAlike_b19 F S q h p K6 m v4 (nI i) (nI (if (bt S i && bt S k && aB q h p (nI i) (nI k)) = true then cnN S q h p i k + 1 else cnN S q h p i k)) (nI (k + 1))
    rw [f_X4_mostAlike_b19, if_neg (show ¬ (6 : Int32) ≤ nI k from nI_ge (b := 6) hk (by omega))]
    unfold f_X4_mostAlike_b57
    rw [nI_1, nI_1]
    by_cases hb : (bt S i && bt S k) = true
    · rw [if_pos ((bit2 S (by omega) (by omega)).mpr hb), alike_x, Option.bind_some, hb, Bool.true_and]
      cases aB q h p (nI i) (nI k) with
      | false => rw [if_pos (show fl false = 0 by decide), if_neg (by decide)]
      | true => rw [if_neg (show ¬ fl true = 0 by decide), if_pos rfl]
    · rw [if_neg (fun z => hb ((bit2 S (by omega) (by omega)).mp z)), Bool.eq_false_iff.mpr hb, Bool.false_and, if_neg (by decide)]
  · intro m
    show f_X4_mostAlike_b19 F S q h p K6 (m + 1) v4 (nI i) (nI (cnN S q h p i 6)) (nI 6) = _
    rw [f_X4_mostAlike_b19, if_pos (show (6 : Int32) ≤ nI 6 by decide)]
theorem most_x {F : Nat} (hF : 200 < F) (S q h p : Int32) : f_X4_mostAlike F S q h p = some (nI (mxN S q h p 6)) := by
  unfold f_X4_mostAlike
  refine loopN (fun m k => f_X4_mostAlike_b6 F S q h p m (nI (mxN S q h p k)) (nI k)) _ 6 ?_ ?_ F (by omega)
  · intro k m hk
    show f_X4_mostAlike_b6 F S q h p (m + 1) (nI (mxN S q h p k)) (nI k) = f_X4_mostAlike_b6 F S q h p m (nI (if mxN S q h p k < cnN S q h p k 6 then cnN S q h p k 6 else mxN S q h p k)) (nI (k + 1))
    have a := mxN_le S q h p k
    have b := cnN_le S q h p k 6
    rw [f_X4_mostAlike_b6, if_neg (show ¬ (6 : Int32) ≤ nI k from nI_ge (b := 6) hk (by omega)), most19_x hF hk, nI_1]
    by_cases c : mxN S q h p k < cnN S q h p k 6
    · rw [if_pos c, if_pos (nI_lt c (by omega))]
    · rw [if_neg c, if_neg (nI_nlt (by omega) (by omega))]
  · intro m
    show f_X4_mostAlike_b6 F S q h p (m + 1) _ (nI 6) = _
    rw [f_X4_mostAlike_b6, if_pos (show (6 : Int32) ≤ nI 6 by decide)]
/-- a step of the search, a row of it -/
def lkS (S q : Int32) (h p : Nat) (s : Nat × Int32) : Nat × Int32 := if s.1 ≤ mxN S q (nI h) (nI p) 6 then s else (mxN S q (nI h) (nI p) 6, nI (100 * h + p))
def lkR (S q : Int32) (h : Nat) (s : Nat × Int32) : Nat → Nat × Int32
  | 0 => s
  | p + 1 => lkS S q h p (lkR S q h s p)
theorem lkS_le {S q : Int32} {h p : Nat} {s : Nat × Int32} : (lkS S q h p s).1 ≤ s.1 := by
  unfold lkS
  split
  · exact Nat.le_refl _
  · omega
theorem lkR_le {S q : Int32} {h : Nat} {s : Nat × Int32} : ∀ p, (lkR S q h s p).1 ≤ s.1
  | 0 => Nat.le_refl _
  | p + 1 => Nat.le_trans lkS_le (lkR_le p)
theorem lkR_big {S q : Int32} {r : Int32} : ∀ p, lkR S q 0 (7, r) (p + 1) = lkR S q 0 (1000000, r) (p + 1)
  | 0 => by
    show lkS S q 0 0 (7, r) = lkS S q 0 0 (1000000, r)
    have := mxN_le S q (nI 0) (nI 0) 6
    unfold lkS
    dsimp only
    rw [if_neg (by omega), if_neg (by omega)]
  | p + 1 => congrArg (lkS S q 0 (p + 1)) (lkR_big p)
theorem look46_x {F n a : Nat} (hF : 200 < F) (ha : a < 5) (nn : Int32) (note wanted : Nat → Int32) (K37 : Int32 → Int32 → Int32 → Int32 → Int32 → Option (Int32 × Int32)) (S : Int32) {h : Nat} (hh : h < 2) (s : Nat × Int32) (hs : s.1 ≤ 1000) (bads : Int32) :
    f_X4_look_b46 F (nI a) (nI n) nn note wanted K37 F S (nI s.1) s.2 (nI h) 0 bads = K37 S (nI (lkR S (wanted a) h s 31).1) (lkR S (wanted a) h s 31).2 (nI (h + 1)) bads := by
  refine loopN (fun m k => f_X4_look_b46 F (nI a) (nI n) nn note wanted K37 m S (nI (lkR S (wanted a) h s k).1) (lkR S (wanted a) h s k).2 (nI h) (nI k) bads) _ 31 ?_ ?_ F (by omega)
  · intro k m hk
    show f_X4_look_b46 F (nI a) (nI n) nn note wanted K37 (m + 1) S (nI (lkR S (wanted a) h s k).1) (lkR S (wanted a) h s k).2 (nI h) (nI k) bads = f_X4_look_b46 F (nI a) (nI n) nn note wanted K37 m S (nI (lkS S (wanted a) h k (lkR S (wanted a) h s k)).1) (lkS S (wanted a) h k (lkR S (wanted a) h s k)).2 (nI h) (nI (k + 1)) bads
    have l1 := lkR_le (S := S) (q := wanted a) (h := h) (s := s) k
    have l2 := mxN_le S (wanted a) (nI h) (nI k) 6
    rw [f_X4_look_b46, if_neg (show ¬ (30 : Int32) < nI k from nI_nlt (a := 30) (by omega) (by omega)), chk_t (ix_n ha (by omega)), cl_n (by omega), most_x hF, Option.bind_some, show (100 : Int32) * nI h = nI (100 * h) from pk_mul 100 h, nI_add]
    unfold f_X4_look_b91 lkS
    rw [nI_1]
    by_cases c : (lkR S (wanted a) h s k).1 ≤ mxN S (wanted a) (nI h) (nI k) 6
    · rw [if_pos c, if_pos (nI_le c (by omega))]
    · rw [if_neg c, if_neg (nI_ge (by omega) (by omega))]
  · intro m
    show f_X4_look_b46 F (nI a) (nI n) nn note wanted K37 (m + 1) S (nI (lkR S (wanted a) h s 31).1) (lkR S (wanted a) h s 31).2 (nI h) (nI 31) bads = _
    rw [f_X4_look_b46, if_pos (show (30 : Int32) < nI 31 by decide), nI_1]
theorem look37_x {F n a : Nat} (hF : 200 < F) (ha : a < 5) (nn : Int32) (note wanted : Nat → Int32) (S : Int32) (bads : Int32) :
    f_X4_look_b37 F (nI a) (nI n) nn note wanted F S 7 (-1) 0 bads = some ((lkR S (wanted a) 1 (lkR S (wanted a) 0 (7, -1) 31) 31).2, bads) := by
  obtain ⟨m, rfl⟩ : ∃ q, F = q + 3 := ⟨F - 3, by omega⟩
  have l1 := lkR_le (S := S) (q := wanted a) (h := 0) (s := (7, -1)) 31
  dsimp only at l1
  rw [show f_X4_look_b37 (m + 3) (nI a) (nI n) nn note wanted (m + 3) S 7 (-1) 0 bads = _ from rfl]
  show f_X4_look_b37 (m + 3) (nI a) (nI n) nn note wanted (m + 2 + 1) S (nI 7) (-1) (nI 0) bads = _
  rw [f_X4_look_b37, if_neg (by decide)]
  refine (look46_x (F := m + 3) (h := 0) hF ha nn note wanted (f_X4_look_b37 (m + 3) (nI a) (nI n) nn note wanted (m + 2)) S (by omega) (7, -1) (by decide) bads).trans ?_
  show f_X4_look_b37 (m + 3) (nI a) (nI n) nn note wanted (m + 1 + 1) S _ _ (nI 1) bads = _
  rw [f_X4_look_b37, if_neg (by decide), look46_x (F := m + 3) (h := 1) hF ha nn note wanted (f_X4_look_b37 (m + 3) (nI a) (nI n) nn note wanted (m + 1)) S (by omega) _ (by omega) bads]
  rw [f_X4_look_b37, if_pos (by decide)]
theorem look83_m {F a i h p : Nat} (hF : 200 < F) (ha : a < 5) (hi : i < 6) (hh : h < 2) (hp : p < 31) {told : Nat → Int32} {q : Int32} (hq : told (19 + a) = q) (K63 : Int32 → Int32 → Int32 → Int32 → Int32 → Int32 → (Nat → Int32) → Option (Int32 × (Nat → Int32))) (S v3 v4 v6 : Int32) (rf : Nat → Int32) :
    f_X5_look_b83 F (nI a) told K63 F S v3 v4 (nI (100 * h + p)) v6 (nI i) 0 0 rf = f_X5_look_b153 F (nI a) told K63 S v3 v4 (nI (100 * h + p)) v6 (nI i) (nI (cnN S q (nI h) (nI p) i 6)) rf := by
  cases hb : bt S i with
  | false =>
    obtain ⟨m, rfl⟩ : ∃ q, F = q + 1 := ⟨F - 1, by omega⟩
    have hbf : ¬ ((S >>> (nI i &&& 31)) &&& 1) = 1 := fun z => by rw [(bit_bt S (by omega)).mp z] at hb; exact absurd hb (by decide)
    rw [f_X5_look_b83, if_neg (by decide), has_m, Option.bind_some, if_neg hbf, if_pos rfl, cnN_0 hb]
    rfl
  | true =>
    refine loopN (fun m k => f_X5_look_b83 F (nI a) told K63 m S v3 v4 (nI (100 * h + p)) v6 (nI i) (nI (cnN S q (nI h) (nI p) i k)) (nI k) rf) _ 6 ?_ ?_ F (by omega)
    · intro k m hk
      show f_X5_look_b83 F (nI a) told K63 (m + 1) S v3 v4 (nI (100 * h + p)) v6 (nI i) (nI (cnN S q (nI h) (nI p) i k)) (nI k) rf = f_X5_look_b83 F (nI a) told K63 m S v3 v4 (nI (100 * h + p)) v6 (nI i) (nI (if (bt S i && bt S k && aB q (nI h) (nI p) (nI i) (nI k)) = true then cnN S q (nI h) (nI p) i k + 1 else cnN S q (nI h) (nI p) i k)) (nI (k + 1)) rf
      rw [f_X5_look_b83, if_neg (show ¬ (6 : Int32) ≤ nI k from nI_ge (b := 6) hk (by omega)), has_m, Option.bind_some, if_pos ((bit_bt S (by omega)).mpr hb), if_neg ne10, has_m, Option.bind_some, hb, Bool.true_and]
      unfold f_X5_look_b143 f_X5_look_b144
      rw [nI_1, nI_1, Int32.add_zero]
      by_cases hc : bt S k = true
      · rw [if_pos ((bit_bt S (by omega)).mpr hc), if_neg ne10, show (19 : Int32) + nI a = nI (19 + a) from nI_add 19 a, chk_t (ix_n (by omega) (by omega)), cl_n (show 19 + a < 2 ^ 31 by omega), hq,
          show nI (100 * h + p) / (100 : Int32) = nI h from (pk_div (a := 100 * h + p) (d := 100) (by omega) (by omega) (by omega)).trans (congrArg nI (by omega)), show nI (100 * h + p) - nI h * (100 : Int32) = nI p from ((congrArg (fun x => nI (100 * h + p) - x) (pk_mul h 100)).trans (pk_sub (by omega))).trans (congrArg nI (by omega)), alike_m F _ _ _ _ (by omega), Option.bind_some, hc, Bool.true_and]
        cases aB q (nI h) (nI p) (nI i) (nI k) with
        | false => rw [if_pos (show fl false = 0 by decide), if_neg (by decide)]
        | true => rw [if_neg (show ¬ fl true = 0 by decide), if_pos rfl]
      · rw [if_neg (fun z => hc ((bit_bt S (by omega)).mp z)), if_pos rfl, Bool.eq_false_iff.mpr hc, Bool.false_and, if_neg (by decide)]
    · intro m
      show f_X5_look_b83 F (nI a) told K63 (m + 1) S v3 v4 (nI (100 * h + p)) v6 (nI i) (nI (cnN S q (nI h) (nI p) i 6)) (nI 6) rf = _
      rw [f_X5_look_b83, if_pos (show (6 : Int32) ≤ nI 6 by decide)]
theorem look63_m {F a h p : Nat} (hF : 200 < F) (ha : a < 5) (hh : h < 2) (hp : p < 31) {told : Nat → Int32} {q : Int32} (hq : told (19 + a) = q) (K30 : Int32 → Int32 → Int32 → Int32 → (Nat → Int32) → Option (Int32 × (Nat → Int32))) (S v3 v4 : Int32) (rf : Nat → Int32) :
    f_X5_look_b63 F (nI a) told K30 F S v3 v4 (nI (100 * h + p)) 0 0 rf = f_X5_look_b175 F (nI a) told K30 S v3 v4 (nI (100 * h + p)) (nI (mxN S q (nI h) (nI p) 6)) rf := by
  refine loopN (fun m k => f_X5_look_b63 F (nI a) told K30 m S v3 v4 (nI (100 * h + p)) (nI (mxN S q (nI h) (nI p) k)) (nI k) rf) _ 6 ?_ ?_ F (by omega)
  · intro k m hk
    show f_X5_look_b63 F (nI a) told K30 (m + 1) S v3 v4 (nI (100 * h + p)) (nI (mxN S q (nI h) (nI p) k)) (nI k) rf = f_X5_look_b63 F (nI a) told K30 m S v3 v4 (nI (100 * h + p)) (nI (if mxN S q (nI h) (nI p) k < cnN S q (nI h) (nI p) k 6 then cnN S q (nI h) (nI p) k 6 else mxN S q (nI h) (nI p) k)) (nI (k + 1)) rf
    have l1 := mxN_le S q (nI h) (nI p) k
    have l2 := cnN_le S q (nI h) (nI p) k 6
    rw [f_X5_look_b63, if_neg (show ¬ (6 : Int32) ≤ nI k from nI_ge (b := 6) hk (by omega)), if_neg (show ¬ (1000000 : Int32) ≤ nI (mxN S q (nI h) (nI p) k) from nI_ge (b := 1000000) (by omega) (by omega)), look83_m hF ha hk hh hp hq]
    unfold f_X5_look_b153 f_X5_look_b167
    rw [nI_1]
    by_cases c : mxN S q (nI h) (nI p) k < cnN S q (nI h) (nI p) k 6
    · rw [if_pos c, if_neg (nI_ge c (by omega))]
    · rw [if_neg c, if_pos (nI_le (by omega) (by omega))]
  · intro m
    show f_X5_look_b63 F (nI a) told K30 (m + 1) S v3 v4 (nI (100 * h + p)) _ (nI 6) rf = _
    rw [f_X5_look_b63, if_pos (show (6 : Int32) ≤ nI 6 by decide)]
theorem lookN_m {F a h p : Nat} (hF : 200 < F) (ha : a < 5) (hh : h < 2) (hp : p < 31) {told : Nat → Int32} {q : Int32} (hq : told (19 + a) = q) {x : Nat} (hx : x < 64) (hx0 : ¬ x = 0) (m : Nat) (s : Nat × Int32) (hs : s.1 ≤ 1000000) (rf : Nat → Int32) :
    f_X5_look_b30 F (nI a) told (m + 1) (nI x) s.2 (nI s.1) (nI (100 * h + p)) rf = f_X5_look_b30 F (nI a) told m (nI x) (lkS (nI x) q h p s).2 (nI (lkS (nI x) q h p s).1) (nI (100 * h + (p + 1))) rf := by
  have l1 := mxN_le (nI x) q (nI h) (nI p) 6
  rw [f_X5_look_b30, if_neg (show ¬ (131 : Int32) ≤ nI (100 * h + p) from nI_ge (b := 131) (by omega) (by omega)), if_neg (show ¬ nI x ≤ (0 : Int32) from nI_ge (a := 0) (by omega) (by omega)),
    show nI (100 * h + p) / (100 : Int32) = nI h from (pk_div (a := 100 * h + p) (d := 100) (by omega) (by omega) (by omega)).trans (congrArg nI (by omega)), show nI (100 * h + p) - nI h * (100 : Int32) = nI p from ((congrArg (fun x => nI (100 * h + p) - x) (pk_mul h 100)).trans (pk_sub (by omega))).trans (congrArg nI (by omega)), if_neg (show ¬ (31 : Int32) ≤ nI p from nI_ge (b := 31) (by omega) (by omega))]
  unfold f_X5_look_b58
  rw [look63_m hF ha hh hp hq]
  unfold f_X5_look_b175 f_X5_look_b188 f_X5_look_b203 lkS
  rw [nI_1, show 100 * h + p + 1 = 100 * h + (p + 1) by omega]
  by_cases c : s.1 ≤ mxN (nI x) q (nI h) (nI p) 6
  · rw [if_pos c, if_pos (nI_le c (by omega)), if_pos (nI_le c (by omega))]
  · rw [if_neg c, if_neg (nI_ge (by omega) (by omega)), if_neg (nI_ge (by omega) (by omega))]
theorem lookRow_m {F a h : Nat} (hF : 200 < F) (ha : a < 5) (hh : h < 2) {told : Nat → Int32} {q : Int32} (hq : told (19 + a) = q) {x : Nat} (hx : x < 64) (hx0 : ¬ x = 0) (m : Nat) (s : Nat × Int32) (hs : s.1 ≤ 1000000) (rf : Nat → Int32) : ∀ p, p ≤ 31 →
    f_X5_look_b30 F (nI a) told (m + p) (nI x) s.2 (nI s.1) (nI (100 * h)) rf = f_X5_look_b30 F (nI a) told m (nI x) (lkR (nI x) q h s p).2 (nI (lkR (nI x) q h s p).1) (nI (100 * h + p)) rf := by
  intro p
  induction p generalizing m with
  | zero => intro _; rfl
  | succ p ih =>
    intro hp
    have l := lkR_le (S := nI x) (q := q) (h := h) (s := s) p
    rw [show m + (p + 1) = m + 1 + p by omega, ih (m + 1) (by omega), lookN_m hF ha hh (by omega) hq hx hx0 m _ (by omega)]
    rfl
theorem lookSkip_m {F a : Nat} (hF : 200 < F) {told : Nat → Int32} {x : Nat} (hx : x < 64) (hx0 : ¬ x = 0) (m : Nat) (s : Nat × Int32) (hs : s.1 ≤ 1000000) (rf : Nat → Int32) : ∀ p, p ≤ 69 →
    f_X5_look_b30 F (nI a) told (m + p) (nI x) s.2 (nI s.1) (nI 31) rf = f_X5_look_b30 F (nI a) told m (nI x) s.2 (nI s.1) (nI (31 + p)) rf := by
  intro p
  induction p generalizing m with
  | zero => intro _; rfl
  | succ p ih =>
    intro hp
    obtain ⟨F', rfl⟩ : ∃ q, F = q + 1 := ⟨F - 1, by omega⟩
    rw [show m + (p + 1) = m + 1 + p by omega, ih (m + 1) (by omega), f_X5_look_b30, if_neg (show ¬ (131 : Int32) ≤ nI (31 + p) from nI_ge (b := 131) (by omega) (by omega)), if_neg (show ¬ nI x ≤ (0 : Int32) from nI_ge (a := 0) (by omega) (by omega)),
      show nI (31 + p) / (100 : Int32) = nI 0 from (pk_div (a := 31 + p) (d := 100) (by omega) (by omega) (by omega)).trans (congrArg nI (by omega)), show nI (31 + p) - nI 0 * (100 : Int32) = nI (31 + p) from ((congrArg (fun x => nI (31 + p) - x) (pk_mul 0 100)).trans (pk_sub (by omega))).trans (congrArg nI (by omega)), if_pos (show (31 : Int32) ≤ nI (31 + p) from nI_le (a := 31) (by omega) (by omega))]
    unfold f_X5_look_b58
    rw [f_X5_look_b63, if_neg (by decide), if_pos (by decide)]
    unfold f_X5_look_b175 f_X5_look_b188 f_X5_look_b203
    rw [if_pos (show nI s.1 ≤ (1000000 : Int32) from nI_le (b := 1000000) (by omega) (by omega)), if_pos (show nI s.1 ≤ (1000000 : Int32) from nI_le (b := 1000000) (by omega) (by omega)), nI_1]
    rfl
theorem look30_m {F a : Nat} (hF : 200 < F) (ha : a < 5) {told : Nat → Int32} {q : Int32} (hq : told (19 + a) = q) {x : Nat} (hx : x < 64) (hx0 : ¬ x = 0) (rf : Nat → Int32) :
    f_X5_look_b30 F (nI a) told F (nI x) (-1) 1000000 0 rf = some ((lkR (nI x) q 1 (lkR (nI x) q 0 (7, -1) 31) 31).2, rf) := by
  have l1 := lkR_le (S := nI x) (q := q) (h := 0) (s := (7, -1)) 31
  have l2 := lkR_le (S := nI x) (q := q) (h := 1) (s := lkR (nI x) q 0 (7, -1) 31) 31
  dsimp only at l1
  have hm : ∃ m, F = m + 1 + 31 + 69 + 31 := ⟨F - 132, by omega⟩
  obtain ⟨m, hm⟩ := hm
  have e1 := lookRow_m (F := F) (a := a) (h := 0) hF ha (by omega) hq hx hx0 (m + 1 + 31 + 69) (1000000, -1) (by decide) rf 31 (by omega)
  rw [← hm, ← lkR_big 30] at e1
  have e2 := lookSkip_m (F := F) (a := a) hF (told := told) hx hx0 (m + 1 + 31) (lkR (nI x) q 0 (7, -1) 31) (by omega) rf 69 (by omega)
  have e3 := lookRow_m (F := F) (a := a) (h := 1) hF ha (by omega) hq hx hx0 (m + 1) (lkR (nI x) q 0 (7, -1) 31) (by omega) rf 31 (by omega)
  refine (e1.trans (e2.trans e3)).trans ?_
  rw [f_X5_look_b30, if_pos (by decide)]
theorem rs_look : Rs_look := by
  unfold Rs_look
  intro x_above x_below x_bads x_nos x_fulls pressure day wells lefts notes undos kind wanted hours had due leftHour leftPressure note past len text m_above m_below m_bytesLong m_told m_refused m_bytes a1 hR
  obtain ⟨hP, hr, hf, hx⟩ := id hR
  obtain ⟨n, nl, nn, nu, d, p, ⟨rfl, hn, -, -, rfl, hnn, -⟩, ht, hw, hl, hno, -⟩ := id hP
  unfold f_X4_look f_X5_look f_X4_bad
  rw [has_x FU a1 (by omega), isWell_m FU a1 ht.1 (by omega)]
  simp only [Option.bind_some]
  cases h1 : hsb n a1 with
  | false =>
    rw [if_neg (show ¬ false = true by decide), if_pos (show nI 0 = (0 : Int32) from rfl), if_pos (show nI 0 = (0 : Int32) from rfl), bad_m, Option.bind_some]
    exact ⟨_, _, rfl, rfl, rfl, Rel_bad hR⟩
  | true =>
    obtain ⟨a, ha, rfl⟩ := hs_of h1 (by omega)
    rw [if_pos rfl, if_neg ne1, if_neg ne1, kindsOf_x (ltF (by omega)) hnn, kindsOf_m (ltF (by omega)) hnn _ ht.2.2.1 hno, Option.bind_some, Option.bind_some]
    obtain ⟨x, hx64, ex⟩ := kB_6 (fun c => al (nfB (nI c) (nI a) note) nn)
    rw [ex]
    by_cases h0 : x = 0
    · subst h0
      have e : f_X5_look_b30 FU (nI a) m_told FU (nI 0) (-1) 1000000 0 m_refused = some (-1, m_refused) := by
        have : ∃ q, FU = q + 1 := ⟨99999, rfl⟩
        obtain ⟨q, hq⟩ := this
        generalize FU = F at *
        subst hq
        rw [f_X5_look_b30, if_neg (by decide), if_pos (by decide)]
      rw [if_pos (show nI 0 = (0 : Int32) from rfl), e]
      exact ⟨_, _, rfl, rfl, rfl, hR⟩
    · rw [if_neg (show ¬ nI x = (0 : Int32) from fun z => h0 ((nI_eq (b := 0) (by omega) (by omega)).mp z)), look37_x (ltF (by omega)) (by omega), look30_m (ltF (by omega)) (by omega) (hw a ha).2.2.2.1 hx64 h0]
      exact ⟨_, _, rfl, rfl, rfl, hR⟩

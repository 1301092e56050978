/-! PURE: swaps -/
/-- with each other's hours -/
def swH (H : Nat → Int32) (i j : Nat) : Nat → Int32 := upd (upd H i (H j)) j (H i)
theorem swH_sw (H : Nat → Int32) {i j : Nat} (hij : ¬ i = j) : swH (swH H i j) i j = H := by
  funext k
  unfold swH upd
  by_cases h1 : k = j
  · subst h1
    rw [if_pos rfl, if_neg hij, if_pos rfl]
  · rw [if_neg h1]
    by_cases h2 : k = i
    · subst h2
      rw [if_pos rfl, if_pos rfl]
    · rw [if_neg h2, if_neg h1, if_neg h2]
/-- in a day -/
def dy (K Q H : Nat → Int32) (n : Nat) (p : Int32) (i : Nat) : Int32 := dG K Q (fun h => op H (nI h) n) p i 8
def swB (K Q H : Nat → Int32) (n : Nat) (p : Int32) (i j : Nat) : Bool := !decide (dy K Q (swH H i j) n p i ≤ dy K Q H n p i) && !decide (dy K Q (swH H i j) n p j ≤ dy K Q H n p j)
theorem swap_x {F i j : Nat} (hi : i < 5) (hj : j < 5) (H : Nat → Int32) : f_X1_swapHours F (nI i) (nI j) H = some (swH H i j) := by
  unfold f_X1_swapHours
  rw [chk_t (ix_n hi (by omega)), chk_t (ix_n hj (by omega)), chk_t (ix_n hi (by omega)), chk_t (ix_n hj (by omega)), cl_n (show i < 2 ^ 31 by omega), cl_n (show j < 2 ^ 31 by omega)]
  rfl
theorem both_x {F n i j : Nat} (hF : 200 < F) (hn : n ≤ 5) (hi : i < j) (hj : j < n) (p : Int32) (K Q H : Nat → Int32) (s : Int32 × (Nat → Int32) × (Nat → Int32)) :
    ∃ s' : Int32 × (Nat → Int32) × (Nat → Int32), f_X4_bothWouldSwap F (nI i) (nI j) p (nI n) K Q s.1 H s.2.1 s.2.2 = some (fl (swB K Q H n p i j), s'.1, H, s'.2.1, s'.2.2) := by
  unfold f_X4_bothWouldSwap f_X4_bothWouldSwap_b71 f_X4_bothWouldSwap_b72
  obtain ⟨r1, a1, b1⟩ := dailyEvery_x (F := F) (n := n) (i := i) (by omega) hn (by omega) p H K Q s.2.1 s.2.2 s.1
  obtain ⟨r2, a2, b2⟩ := dailyEvery_x (F := F) (n := n) (i := j) (by omega) hn (by omega) p H K Q r1.2.2.1 r1.2.2.2 r1.2.1
  obtain ⟨r3, a3, b3⟩ := dailyEvery_x (F := F) (n := n) (i := i) (by omega) hn (by omega) p (swH H i j) K Q r2.2.2.1 r2.2.2.2 r2.2.1
  obtain ⟨r4, a4, b4⟩ := dailyEvery_x (F := F) (n := n) (i := j) (by omega) hn (by omega) p (swH H i j) K Q r3.2.2.1 r3.2.2.2 r3.2.1
  rw [everyWell_x, Option.bind_some, a1, Option.bind_some, a2, Option.bind_some, swap_x (by omega) (by omega), Option.bind_some, a3, Option.bind_some, swap_x (by omega) (by omega), swH_sw H (by omega), b1, b2, b3]
  unfold swB dy
  by_cases h1 : dG K Q (fun h => op (swH H i j) (nI h) n) p i 8 ≤ dG K Q (fun h => op H (nI h) n) p i 8
  · rw [if_pos h1, decide_eq_true h1, Option.bind_some, chk_t (by decide)]
    exact ⟨r3.2, rfl⟩
  · rw [if_neg h1, decide_eq_false h1, a4, Option.bind_some, b4]
    by_cases h2 : dG K Q (fun h => op (swH H i j) (nI h) n) p j 8 ≤ dG K Q (fun h => op H (nI h) n) p j 8
    · rw [if_pos h2, decide_eq_true h2, Option.bind_some, chk_t (by decide)]
      exact ⟨r4.2, rfl⟩
    · rw [if_neg h2, decide_eq_false h2, Option.bind_some, chk_t (by decide)]
      exact ⟨r4.2, rfl⟩
theorem both_m {F n i j : Nat} (hF : 200 < F) (hn : n ≤ 5) (hi : i < j) (hj : j < n) {p : Int32} {K Q H told : Nat → Int32} (h0 : told 0 = nI n) (h24 : told 24 = p) (hw : ∀ j, j < n → told (26 + j) = K j ∧ told (19 + j) = Q j ∧ told (14 + j) = H j) (lb : Int32) (dg dd ah ge hand : Nat → Int32) :
    ∃ r, f_X5_wouldBoth F (nI i) (nI j) told lb dg dd ah ge hand = some r ∧ r.1 = fl (swB K Q H n p i j) := by
  unfold f_X5_wouldBoth
  obtain ⟨r, e1, e2⟩ := layDay0_m (F := F) (N := 251) (by omega) hn (by omega) (by omega) p h0 hw lb dg dd ah ge
  rw [chk_t (by decide), show told (24 : Int32).toNatClampNeg = p from h24, e1, Option.bind_some, chk_t (ix_n (by omega) (by omega)), chk_t (ix_n (by omega) (by omega)), cl_n (show i < 2 ^ 31 by omega), cl_n (show j < 2 ^ 31 by omega), (e2 i (by omega)).1, (e2 j (by omega)).1]
  have key : ∀ v3 v4, f_X5_wouldBoth_b34 F (nI i) (nI j) told F v3 v4 0 r.1 r.2.1 r.2.2.1 r.2.2.2.1 r.2.2.2.2 hand = f_X5_wouldBoth_b34 F (nI i) (nI j) told 1 v3 v4 (nI 31) r.1 r.2.1 r.2.2.1 r.2.2.2.1 r.2.2.2.2 (pre told hand 31) := by
    intro v3 v4
    have key := loopN (fun m k => f_X5_wouldBoth_b34 F (nI i) (nI j) told m v3 v4 (nI k) r.1 r.2.1 r.2.2.1 r.2.2.2.1 r.2.2.2.2 (pre told hand k)) (f_X5_wouldBoth_b34 F (nI i) (nI j) told 1 v3 v4 (nI 31) r.1 r.2.1 r.2.2.1 r.2.2.2.1 r.2.2.2.2 (pre told hand 31)) 31 ?_ ?_ F (by omega)
    · simpa only [pre_0, z0n] using key
    · intro k m hk
      show f_X5_wouldBoth_b34 F (nI i) (nI j) told (m + 1) v3 v4 (nI k) r.1 r.2.1 r.2.2.1 r.2.2.2.1 r.2.2.2.2 (pre told hand k) = f_X5_wouldBoth_b34 F (nI i) (nI j) told m v3 v4 (nI (k + 1)) r.1 r.2.1 r.2.2.1 r.2.2.2.1 r.2.2.2.2 (pre told hand (k + 1))
      rw [f_X5_wouldBoth_b34, if_neg (show ¬ (31 : Int32) ≤ nI k from nI_ge (b := 31) hk (by omega)), chk_t (ix_n (by omega) (by omega)), chk_t (ix_n hk (by omega)), cl_n (by omega), nI_1, ← pre_s told hand k]
    · intro m
      show f_X5_wouldBoth_b34 F (nI i) (nI j) told (m + 1) v3 v4 (nI 31) r.1 r.2.1 r.2.2.1 r.2.2.2.1 r.2.2.2.2 (pre told hand 31) = _
      rw [f_X5_wouldBoth_b34, if_pos (show (31 : Int32) ≤ nI 31 by decide), f_X5_wouldBoth_b34, if_pos (show (31 : Int32) ≤ nI 31 by decide)]
  have ht : ∀ k, k < 31 → ¬ k = 14 + i → ¬ k = 14 + j → upd (upd (pre told hand 31) (14 + i) (told (14 + j))) (14 + j) (told (14 + i)) k = told k := fun k hk h1 h2 => by
    rw [pk_un h2, pk_un h1, pre_in hk]
  have hsw : ∀ k, k < n → upd (upd (pre told hand 31) (14 + i) (told (14 + j))) (14 + j) (told (14 + i)) (14 + k) = swH H i j k := fun k hk => by
    unfold swH
    by_cases c1 : k = j
    · subst c1; rw [pk_us, pk_us, (hw i (by omega)).2.2]
    · rw [pk_un (by omega), pk_un c1]
      by_cases c2 : k = i
      · subst c2; rw [pk_us, pk_us, (hw j (by omega)).2.2]
      · rw [pk_un (by omega), pk_un c2, pre_in (by omega), (hw k hk).2.2]
  rw [key, f_X5_wouldBoth_b34, if_pos (show (31 : Int32) ≤ nI 31 by decide), show (14 : Int32) + nI i = nI (14 + i) from nI_add 14 i, show (14 : Int32) + nI j = nI (14 + j) from nI_add 14 j,
    chk_t (ix_n (by omega) (by omega)), chk_t (ix_n (by omega) (by omega)), chk_t (ix_n (by omega) (by omega)), chk_t (ix_n (by omega) (by omega)), chk_t (by decide), cl_n (show 14 + i < 2 ^ 31 by omega), cl_n (show 14 + j < 2 ^ 31 by omega)]
  generalize upd (upd (pre told hand 31) (14 + i) (told (14 + j))) (14 + j) (told (14 + i)) = t at ht hsw ⊢
  obtain ⟨z, y1, y2⟩ := layDay0_m (F := F) (N := 31) (n := n) (t := t) (K := K) (Q := Q) (H := swH H i j) (by omega) hn (by omega) (by omega) p ((ht 0 (by omega) (by omega) (by omega)).trans h0) (fun k hk => ⟨(ht (26 + k) (by omega) (by omega) (by omega)).trans (hw k hk).1, (ht (19 + k) (by omega) (by omega) (by omega)).trans (hw k hk).2.1, hsw k hk⟩) r.1 r.2.1 r.2.2.1 r.2.2.2.1 r.2.2.2.2
  rw [show t (24 : Int32).toNatClampNeg = p from (ht 24 (by omega) (by omega) (by omega)).trans h24, y1, Option.bind_some, chk_t (ix_n (by omega) (by omega)), cl_n (show i < 2 ^ 31 by omega), (y2 i (by omega)).1]
  unfold swB dy
  by_cases h1 : dG K Q (fun h => op (swH H i j) (nI h) n) p i 8 ≤ dG K Q (fun h => op H (nI h) n) p i 8
  · rw [if_pos h1, decide_eq_true h1]
    exact ⟨_, rfl, rfl⟩
  · rw [if_neg h1, decide_eq_false h1, chk_t (ix_n (by omega) (by omega)), cl_n (show j < 2 ^ 31 by omega), (y2 j (by omega)).1]
    by_cases h2 : dG K Q (fun h => op (swH H i j) (nI h) n) p j 8 ≤ dG K Q (fun h => op H (nI h) n) p j 8
    · rw [if_pos h2, decide_eq_true h2]
      exact ⟨_, rfl, rfl⟩
    · rw [if_neg h2, decide_eq_false h2]
      exact ⟨_, rfl, rfl⟩
/-- the pairs in order: how many so far, what is told of the a-th -/
def stS (a : Int32) (P : Nat → Nat → Bool) (i j : Nat) (s : Nat × Int32) : Nat × Int32 := if P i j = true then (s.1 + 1, if nI s.1 = a then nI (10 * i + j) else s.2) else s
def roS (a : Int32) (P : Nat → Nat → Bool) (i : Nat) : Nat → Nat → Nat × Int32 → Nat × Int32
  | 0, _, s => s
  | d + 1, j, s => roS a P i d (j + 1) (stS a P i j s)
def alS (a : Int32) (P : Nat → Nat → Bool) (n : Nat) : Nat → Nat → Nat × Int32 → Nat × Int32
  | 0, _, s => s
  | d + 1, i, s => alS a P n d (i + 1) (roS a P i (n - (i + 1)) (i + 1) s)
theorem roS_b {a : Int32} {P : Nat → Nat → Bool} {i : Nat} : ∀ d j s, s.1 ≤ (roS a P i d j s).1 ∧ (roS a P i d j s).1 ≤ s.1 + d
  | 0, j, s => ⟨Nat.le_refl _, Nat.le_refl _⟩
  | d + 1, j, s => by
    obtain ⟨h1, h2⟩ := roS_b (a := a) (P := P) (i := i) d (j + 1) (stS a P i j s)
    have h3 : s.1 ≤ (stS a P i j s).1 ∧ (stS a P i j s).1 ≤ s.1 + 1 := by unfold stS; split <;> exact ⟨by (try dsimp only) <;> omega, by (try dsimp only) <;> omega⟩
    unfold roS
    omega
theorem roS_st {a : Int32} {P : Nat → Nat → Bool} {i c0 : Nat} (hc : nI c0 = a) : ∀ d j s, c0 < s.1 → s.1 + d < 100000 → (roS a P i d j s).2 = s.2
  | 0, j, s, _, _ => rfl
  | d + 1, j, s, h1, h2 => by
    unfold roS
    have h3 : s.1 ≤ (stS a P i j s).1 ∧ (stS a P i j s).1 ≤ s.1 + 1 := by unfold stS; split <;> exact ⟨by (try dsimp only) <;> omega, by (try dsimp only) <;> omega⟩
    rw [roS_st hc d (j + 1) (stS a P i j s) (by omega) (by omega)]
    unfold stS
    split
    · dsimp only
      rw [if_neg (fun z => by have := (nI_eq (a := s.1) (b := c0) (by omega) (by omega)).mp (z.trans hc.symm); omega)]
    · rfl
theorem alS_st {a : Int32} {P : Nat → Nat → Bool} {n c0 : Nat} (hc : nI c0 = a) (hn : n ≤ 5) : ∀ d i s, c0 < s.1 → s.1 + 5 * d < 100000 → (alS a P n d i s).2 = s.2
  | 0, i, s, _, _ => rfl
  | d + 1, i, s, h1, h2 => by
    unfold alS
    obtain ⟨h3, h4⟩ := roS_b (a := a) (P := P) (i := i) (n - (i + 1)) (i + 1) s
    rw [alS_st hc hn d (i + 1) _ (by omega) (by omega), roS_st hc _ _ _ h1 (by omega)]
/-- what comes of it -/
def rvS (a : Int32) (s : Nat × Int32) : Int32 := if a = -1 then nI s.1 else s.2
theorem ten_5 {i j : Nat} (h : 10 * i + j < 1000) : ¬ nI (10 * i + j) = (-5 : Int32) := by
  intro z
  have := (i_eq _ _).mp z
  rw [nI_toInt (by omega)] at this
  rw [show (-5 : Int32).toInt = -5 from rfl] at this
  omega
theorem sw30_x {F n i : Nat} (hF : 200 < F) (hn : n ≤ 5) (hi : i < n) (a p : Int32) (K Q H : Nat → Int32) (K14 : Int32 → Int32 → Int32 → Int32 → (Nat → Int32) → (Nat → Int32) → (Nat → Int32) → Option (Int32 × Int32 × Int32 × (Nat → Int32) × (Nat → Int32) × (Nat → Int32))) (bads : Int32) :
    ∀ d j m c (s : Int32 × (Nat → Int32) × (Nat → Int32)), i < j → j + d = n → d < m → c + d < 1000 → ∃ s' : Int32 × (Nat → Int32) × (Nat → Int32),
      ((roS a (swB K Q H n p) i d j (c, -5)).2 = -5 ∧ f_X4_swaps_b30 F a p (nI n) K Q K14 m (nI c) (nI i) (nI j) bads s.1 H s.2.1 s.2.2 = K14 (nI (roS a (swB K Q H n p) i d j (c, -5)).1) (nI (i + 1)) bads s'.1 H s'.2.1 s'.2.2) ∨
      ((∃ c0, nI c0 = a ∧ c0 < 1000 ∧ c0 < (roS a (swB K Q H n p) i d j (c, -5)).1) ∧ f_X4_swaps_b30 F a p (nI n) K Q K14 m (nI c) (nI i) (nI j) bads s.1 H s.2.1 s.2.2 = some ((roS a (swB K Q H n p) i d j (c, -5)).2, bads, s'.1, H, s'.2.1, s'.2.2)) := by
  intro d
  induction d with
  | zero =>
    intro j m c s hij e hm hc
    obtain ⟨m, rfl⟩ : ∃ q, m = q + 1 := ⟨m - 1, by omega⟩
    obtain rfl : j = n := by omega
    refine ⟨s, Or.inl ⟨rfl, ?_⟩⟩
    rw [f_X4_swaps_b30, if_pos (nI_le (Nat.le_refl _) (by omega)), nI_1]
    rfl
  | succ d ih =>
    intro j m c s hij e hm hc
    obtain ⟨m, rfl⟩ : ∃ q, m = q + 1 := ⟨m - 1, by omega⟩
    obtain ⟨s1, e1⟩ := both_x (F := F) hF hn hij (show j < n by omega) p K Q H s
    rw [f_X4_swaps_b30, if_neg (nI_ge (by omega) (by omega)), e1, Option.bind_some]
    unfold f_X4_swaps_b71 roS stS
    rw [nI_1 c, nI_1 j]
    cases hP : swB K Q H n p i j with
    | false =>
      rw [if_pos (show fl false = 0 by decide), if_neg (by decide)]
      exact ih (j + 1) m c s1 (by omega) (by omega) (by omega) (by omega)
    | true =>
      rw [if_neg (show ¬ fl true = 0 by decide), if_pos rfl]
      by_cases hca : nI c = a
      · rw [if_pos hca]
        dsimp only
        rw [if_pos hca, show (10 : Int32) * nI i = nI (10 * i) from pk_mul 10 i, nI_add]
        have b := roS_b (a := a) (P := swB K Q H n p) (i := i) d (j + 1) (c + 1, nI (10 * i + j))
        rw [roS_st hca d (j + 1) _ (Nat.lt_succ_self c) (by show c + 1 + d < 100000; omega)]
        exact ⟨s1, Or.inr ⟨⟨c, hca, by omega, by dsimp only at b; omega⟩, rfl⟩⟩
      · rw [if_neg hca]
        dsimp only
        rw [if_neg hca]
        exact ih (j + 1) m (c + 1) s1 (by omega) (by omega) (by omega) (by omega)
theorem sw14_x {F n : Nat} (hF : 200 < F) (hn : n ≤ 5) (a p : Int32) (K Q H : Nat → Int32) (bads : Int32) :
    ∀ d i m c (s : Int32 × (Nat → Int32) × (Nat → Int32)), i + d = n → d < m → c + 5 * d < 1000 → ∃ s' : Int32 × (Nat → Int32) × (Nat → Int32),
      f_X4_swaps_b14 F a p (nI n) K Q m (nI c) (nI i) bads s.1 H s.2.1 s.2.2 = some (rvS a (alS a (swB K Q H n p) n d i (c, -5)), bads, s'.1, H, s'.2.1, s'.2.2) := by
  intro d
  induction d with
  | zero =>
    intro i m c s e hm hc
    obtain ⟨m, rfl⟩ : ∃ q, m = q + 1 := ⟨m - 1, by omega⟩
    obtain rfl : i = n := by omega
    refine ⟨s, ?_⟩
    rw [f_X4_swaps_b14, if_pos (nI_le (Nat.le_refl _) (by omega))]
    unfold rvS alS
    by_cases ha : a = -1
    · rw [if_pos ha, if_pos ha]
    · rw [if_neg ha, if_neg ha]
  | succ d ih =>
    intro i m c s e hm hc
    obtain ⟨m, rfl⟩ : ∃ q, m = q + 1 := ⟨m - 1, by omega⟩
    have b := roS_b (a := a) (P := swB K Q H n p) (i := i) (n - (i + 1)) (i + 1) (c, -5)
    dsimp only at b
    rw [f_X4_swaps_b14, if_neg (nI_ge (by omega) (by omega)), nI_1]
    unfold alS
    obtain ⟨s1, ⟨h1, h2⟩ | ⟨⟨c0, h1, h2, h3⟩, h4⟩⟩ := sw30_x (F := F) hF hn (show i < n by omega) a p K Q H (f_X4_swaps_b14 F a p (nI n) K Q m) bads (n - (i + 1)) (i + 1) F c s (by omega) (by omega) (by omega) (by omega)
    · rw [h2]
      generalize hz : roS a (swB K Q H n p) i (n - (i + 1)) (i + 1) (c, -5) = z at h1 h2 b
      obtain ⟨z1, z2⟩ := z
      dsimp only at h1 b
      subst h1
      exact ih (i + 1) m z1 s1 (by omega) (by omega) (by omega)
    · rw [h4]
      refine ⟨s1, ?_⟩
      unfold rvS
      rw [if_neg (fun z => nI_nm1 (k := c0) (by omega) (h1.trans z)), alS_st h1 hn d (i + 1) _ h3 (by omega)]
theorem sw35_m {F n i : Nat} (hF : 200 < F) (hn : n ≤ 5) (hi : i < n) (a : Int32) {p : Int32} {K Q H told : Nat → Int32} (h0 : told 0 = nI n) (h24 : told 24 = p) (hw : ∀ j, j < n → told (26 + j) = K j ∧ told (19 + j) = Q j ∧ told (14 + j) = H j) (K20 : Int32 → Int32 → Int32 → Int32 → (Nat → Int32) → (Nat → Int32) → (Nat → Int32) → (Nat → Int32) → (Nat → Int32) → (Nat → Int32) → Option (Int32 × Int32 × (Nat → Int32) × (Nat → Int32) × (Nat → Int32) × (Nat → Int32) × (Nat → Int32) × (Nat → Int32))) (rf : Nat → Int32) :
    ∀ d j m (c : Nat × Int32) (s : Int32 × (Nat → Int32) × (Nat → Int32) × (Nat → Int32) × (Nat → Int32) × (Nat → Int32)), i < j → j + d = n → d < m → ∃ s' : Int32 × (Nat → Int32) × (Nat → Int32) × (Nat → Int32) × (Nat → Int32) × (Nat → Int32),
      f_X5_swaps_b35 F a told K20 m (nI c.1) c.2 (nI i) (nI j) s.1 rf s.2.1 s.2.2.1 s.2.2.2.1 s.2.2.2.2.1 s.2.2.2.2.2 = K20 (nI (roS a (swB K Q H n p) i d j c).1) (roS a (swB K Q H n p) i d j c).2 (nI (i + 1)) s'.1 rf s'.2.1 s'.2.2.1 s'.2.2.2.1 s'.2.2.2.2.1 s'.2.2.2.2.2 := by
  intro d
  induction d with
  | zero =>
    intro j m c s hij e hm
    obtain ⟨m, rfl⟩ : ∃ q, m = q + 1 := ⟨m - 1, by omega⟩
    obtain rfl : j = n := by omega
    refine ⟨s, ?_⟩
    rw [f_X5_swaps_b35, many_m, Option.bind_some, h0, if_pos (nI_le (Nat.le_refl _) (by omega)), nI_1]
    rfl
  | succ d ih =>
    intro j m c s hij e hm
    obtain ⟨m, rfl⟩ : ∃ q, m = q + 1 := ⟨m - 1, by omega⟩
    obtain ⟨r, e1, e2⟩ := both_m (F := F) hF hn hij (show j < n by omega) h0 h24 hw s.1 s.2.1 s.2.2.1 s.2.2.2.1 s.2.2.2.2.1 s.2.2.2.2.2
    rw [f_X5_swaps_b35, many_m, Option.bind_some, h0, if_neg (nI_ge (by omega) (by omega)), e1, Option.bind_some, e2]
    unfold f_X5_swaps_b72 f_X5_swaps_b76 roS stS
    rw [nI_1 c.1, nI_1 j]
    cases hP : swB K Q H n p i j with
    | false =>
      rw [if_pos (show fl false = 0 by decide), if_neg (by decide)]
      exact ih (j + 1) m c r.2 (by omega) (by omega) (by omega)
    | true =>
      rw [if_neg (show ¬ fl true = 0 by decide), if_pos rfl]
      by_cases hca : nI c.1 = a
      · rw [if_pos hca, if_pos hca, show (10 : Int32) * nI i = nI (10 * i) from pk_mul 10 i, nI_add]
        exact ih (j + 1) m (c.1 + 1, nI (10 * i + j)) r.2 (by omega) (by omega) (by omega)
      · rw [if_neg hca, if_neg hca]
        exact ih (j + 1) m (c.1 + 1, c.2) r.2 (by omega) (by omega) (by omega)
theorem sw20_m {F n : Nat} (hF : 200 < F) (hn : n ≤ 5) (a : Int32) {p : Int32} {K Q H told : Nat → Int32} (h0 : told 0 = nI n) (h24 : told 24 = p) (hw : ∀ j, j < n → told (26 + j) = K j ∧ told (19 + j) = Q j ∧ told (14 + j) = H j) (rf : Nat → Int32) :
    ∀ d i m (c : Nat × Int32) (s : Int32 × (Nat → Int32) × (Nat → Int32) × (Nat → Int32) × (Nat → Int32) × (Nat → Int32)), i + d = n → d < m → ∃ s' : Int32 × (Nat → Int32) × (Nat → Int32) × (Nat → Int32) × (Nat → Int32) × (Nat → Int32),
      f_X5_swaps_b20 F a told m (nI c.1) c.2 (nI i) s.1 rf s.2.1 s.2.2.1 s.2.2.2.1 s.2.2.2.2.1 s.2.2.2.2.2 = some (rvS a (alS a (swB K Q H n p) n d i c), s'.1, rf, s'.2.1, s'.2.2.1, s'.2.2.2.1, s'.2.2.2.2.1, s'.2.2.2.2.2) := by
  intro d
  induction d with
  | zero =>
    intro i m c s e hm
    obtain ⟨m, rfl⟩ : ∃ q, m = q + 1 := ⟨m - 1, by omega⟩
    obtain rfl : i = n := by omega
    refine ⟨s, ?_⟩
    rw [f_X5_swaps_b20, many_m, Option.bind_some, h0, if_pos (nI_le (Nat.le_refl _) (by omega))]
    unfold rvS alS
    by_cases ha : a = -1
    · rw [if_pos ha, if_pos ha]
    · rw [if_neg ha, if_neg ha]
  | succ d ih =>
    intro i m c s e hm
    obtain ⟨m, rfl⟩ : ∃ q, m = q + 1 := ⟨m - 1, by omega⟩
    rw [f_X5_swaps_b20, many_m, Option.bind_some, h0, if_neg (nI_ge (by omega) (by omega)), nI_1]
    unfold alS
    obtain ⟨s1, e1⟩ := sw35_m (F := F) hF hn (show i < n by omega) a h0 h24 hw (f_X5_swaps_b20 F a told m) rf (n - (i + 1)) (i + 1) F c s (by omega) (by omega) (by omega)
    rw [e1]
    exact ih (i + 1) m _ s1 (by omega) (by omega)
theorem rs_swaps : Rs_swaps := by
  unfold Rs_swaps
  intro x_above x_below x_bads x_nos x_fulls pressure day wells lefts notes undos leftOver kind wanted hours had due leftHour leftPressure note past ahead gets len text m_above m_below m_leftBehind m_bytesLong m_told m_refused m_gets m_ahead m_dayGets m_dayDue m_hand m_bytes a1 hR
  obtain ⟨hP, hr, hf, hx⟩ := id hR
  obtain ⟨n, nl, nn, nu, d, p, ⟨rfl, hn, -⟩, ht, hw, -⟩ := id hP
  have hw' : ∀ j, j < n → m_told (26 + j) = kind j ∧ m_told (19 + j) = wanted j ∧ m_told (14 + j) = hours j := fun j hj => ⟨(hw j hj).2.2.1, (hw j hj).2.2.2.1, (hw j hj).2.2.2.2.1⟩
  unfold f_X4_swaps f_X5_swaps f_X4_badHere
  by_cases h : (-1 : Int32) ≤ a1
  · obtain ⟨s1, e1⟩ := sw14_x (F := FU) (ltF (by omega)) hn a1 pressure kind wanted hours x_bads n 0 FU 0 (leftOver, ahead, gets) (by omega) (ltF (by omega)) (by omega)
    obtain ⟨s2, e2⟩ := sw20_m (F := FU) (ltF (by omega)) hn a1 ht.1 ht.2.2.2.2.1 hw' m_refused n 0 FU (0, -5) (m_leftBehind, m_dayGets, m_dayDue, m_ahead, m_gets, m_hand) (by omega) (ltF (by omega))
    rw [z0n] at e1 e2
    rw [if_pos h, if_pos h, e1, e2]
    exact ⟨_, _, rfl, rfl, rfl, hR⟩
  · rw [if_neg h, if_neg h, Option.bind_some, bad_m, Option.bind_some]
    exact ⟨_, _, rfl, rfl, rfl, Rel_bad hR⟩

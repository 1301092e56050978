/-! PURE: ways by codes, as the reference goes through them -/
theorem bt_nI (c : Nat) {j : Nat} (hj : j < 32) : bt (nI c) j = c.testBit j := by
  show (BitVec.ofNat 32 c).getLsbD j = _
  rw [BitVec.getLsbD_ofNat, decide_eq_true hj, Bool.true_and]
theorem bt_7 : ∀ j, j < 32 → bt 7 j = decide (j < 3) := by decide +kernel
theorem shr_and7 {c s : Nat} (hc : c < 2 ^ 31) (hs : s < 29) : ((nI c >>> (nI s &&& 31)) &&& 7) = nI (c / 2 ^ s % 8) := by
  refine b_ext fun j hj => ?_
  rw [b_and, b_sshr s (by omega) (nI c) hj, bt_7 j hj, bt_nI _ hj, show (8 : Nat) = 2 ^ 3 from rfl, Nat.testBit_mod_two_pow, Nat.testBit_div_two_pow]
  by_cases h3 : j < 3
  · rw [decide_eq_true h3, if_pos (by omega), bt_nI _ (by omega), Bool.and_true, Bool.true_and, Nat.add_comm]
  · rw [decide_eq_false h3, Bool.and_false, Bool.false_and]
theorem bt_one (n : Nat) (hn : n < 31) {j : Nat} (hj : j < 32) : bt ((1 : Int32) <<< (nI n &&& 31)) j = decide (j = n) := by
  rw [b_shl n (by omega) 1 hj]
  by_cases h : n ≤ j
  · rw [decide_eq_true h, bt_1 _ (by omega), Bool.true_and]
    by_cases e : j = n
    · rw [decide_eq_true e, decide_eq_true (by omega)]
    · rw [decide_eq_false e, decide_eq_false (by omega)]
  · rw [decide_eq_false h, Bool.false_and, decide_eq_false (by omega)]
theorem bt_kB (b : Nat → Bool) : ∀ n, n < 31 → ∀ j, j < 32 → bt (kB b n) j = (decide (j < n) && b j)
  | 0, _, j, _ => by rw [decide_eq_false (Nat.not_lt_zero j), Bool.false_and]; exact b_0 j
  | n + 1, hn, j, hj => by
    unfold kB
    by_cases hb : b n = true
    · rw [if_pos hb, b_or, bt_kB b n (by omega) j hj, bt_one n (by omega) hj]
      by_cases e : j = n
      · subst e
        rw [decide_eq_true (rfl : j = j), decide_eq_true (Nat.lt_succ_self j), hb, Bool.or_true, Bool.true_and]
      · rw [decide_eq_false e, Bool.or_false]
        by_cases e2 : j < n
        · rw [decide_eq_true e2, decide_eq_true (show j < n + 1 by omega)]
        · rw [decide_eq_false e2, decide_eq_false (show ¬ j < n + 1 by omega)]
    · rw [if_neg hb, bt_kB b n (by omega) j hj]
      by_cases e : j = n
      · subst e
        rw [Bool.eq_false_iff.mpr hb, Bool.and_false, Bool.and_false]
      · by_cases e2 : j < n
        · rw [decide_eq_true e2, decide_eq_true (show j < n + 1 by omega)]
        · rw [decide_eq_false e2, decide_eq_false (show ¬ j < n + 1 by omega)]
theorem lo_rs {K Q : Nat → Int32} {p : Int32} {w : Nat → Nat} {n h : Nat} (hn : n ≤ 5) : ∀ i, i ≤ n → lo K Q (nI h) (kB (fun j => decide (w j = h)) n) p i = rsW K Q p w i h
  | 0, _ => rfl
  | i + 1, hi => by
    unfold lo rsW
    rw [lo_rs hn i (by omega)]
    have hb := bit_bt (kB (fun j => decide (w j = h)) n) (i := i) (by omega)
    rw [bt_kB _ n (by omega) i (by omega), decide_eq_true (show i < n by omega), Bool.true_and, decide_eq_true_iff] at hb
    by_cases e : w i = h
    · rw [if_pos (hb.mpr e), if_pos e]
    · rw [if_neg (fun z => e (hb.mp z)), if_neg e, Int32.sub_zero]
theorem ga_gW {K Q : Nat → Int32} {p : Int32} {w : Nat → Nat} {n h i : Nat} (hn : n ≤ 5) (hi : i < n) (hw : w i = h) : ga K Q (nI h) (kB (fun j => decide (w j = h)) n) p i = gW K Q p w i := by
  have hb := bit_bt (kB (fun j => decide (w j = h)) n) (i := i) (by omega)
  rw [bt_kB _ n (by omega) i (by omega), decide_eq_true (show i < n by omega), Bool.true_and, decide_eq_true_iff] at hb
  unfold ga gW
  rw [if_pos (hb.mpr hw), lo_rs hn i (by omega), hw]
/-- way of code c -/
def wcN (n c : Nat) : Nat → Nat := fun j => if j < n then c / 8 ^ (n - 1 - j) % 8 else 0
theorem wcN_8 (n c j : Nat) : wcN n c j < 8 := by
  unfold wcN
  split
  · exact Nat.mod_lt _ (by omega)
  · omega
def extW (w : Nat → Nat) (i d m : Nat) : Nat → Nat := fun j => if i ≤ j ∧ j < i + d then m / 8 ^ (i + d - 1 - j) % 8 else w j
theorem extW_0 (n c : Nat) : extW (fun _ => 0) 0 n c = wcN n c := by
  funext j
  unfold extW wcN
  rw [Nat.zero_add]
  by_cases h : j < n
  · rw [if_pos ⟨Nat.zero_le j, h⟩, if_pos h]
  · rw [if_neg (fun z => h z.2), if_neg h]
theorem extW_upd (w : Nat → Nat) (i d : Nat) {h k : Nat} (hh : h < 8) (hk : k < 8 ^ d) : extW (updN w i h) (i + 1) d k = extW w i (d + 1) (h * 8 ^ d + k) := by
  have h8 : 0 < 8 ^ d := Nat.pow_pos (by omega)
  funext j
  unfold extW updN
  by_cases e : j = i
  · subst e
    rw [if_neg (by omega), if_pos rfl, if_pos (by omega), show j + (d + 1) - 1 - j = d by omega, Nat.add_comm, Nat.add_mul_div_right _ _ h8, Nat.div_eq_of_lt hk, Nat.zero_add, Nat.mod_eq_of_lt hh]
  · by_cases e2 : i ≤ j ∧ j < i + (d + 1)
    · rw [if_pos (by omega), if_pos e2, show i + 1 + d - 1 - j = i + (d + 1) - 1 - j by omega]
      generalize hE : i + (d + 1) - 1 - j = x
      have hx : x + 1 ≤ d := by omega
      have hd : 8 ^ d = 8 ^ (d - x - 1) * 8 * 8 ^ x := by rw [← Nat.pow_succ, ← Nat.pow_add]; congr 1; omega
      rw [hd, ← Nat.mul_assoc, Nat.add_comm, Nat.add_mul_div_right _ _ (Nat.pow_pos (by omega)), ← Nat.mul_assoc, Nat.add_mul_mod_self_right]
    · rw [if_neg (by omega), if_neg e2, if_neg e]
def cndW (val : Nat → Int32 → Int32) (mg K Q : Nat → Int32) (p : Int32) (n : Nat) (w : Nat → Nat) : Option (Int32 × (Nat → Nat)) := if al (fun i => okB mg i (gW K Q p w i)) n = true then some (svW val K Q p w n, w) else none
theorem bp_codes (val : Nat → Int32 → Int32) (mg K Q : Nat → Int32) (p : Int32) (n : Nat) : ∀ d i w, i + d = n → al (fun i => okB mg i (gW K Q p w i)) i = true → bpW val mg K Q p d i w = foldH (fun m => cndW val mg K Q p n (extW w i d m)) (8 ^ d) := by
  intro d
  induction d with
  | zero =>
    intro i w hi ha
    obtain rfl : i = n := by omega
    have e : extW w i 0 0 = w := by
      funext j
      unfold extW
      rw [if_neg (by omega)]
    show some (svW val K Q p w i, w) = cmb none (cndW val mg K Q p i (extW w i 0 0))
    rw [e]
    unfold cndW
    rw [if_pos ha]
    rfl
  | succ d ih =>
    intro i w hi ha
    rw [Nat.pow_succ, Nat.mul_comm, foldH_mul]
    refine foldH_cong (fun h hh => ?_)
    by_cases ho : okB mg i (gW K Q p (updN w i h) i) = true
    · rw [if_pos ho, ih (i + 1) (updN w i h) (by omega) (al_iff.mpr (fun j hj => by
        by_cases e : j = i
        · subst e; exact ho
        · rw [gW_cong (w' := w) (fun x hx => updN_n (by omega))]
          exact al_iff.mp ha j (by omega)))]
      refine foldH_cong (fun k hk => ?_)
      try dsimp only
      rw [extW_upd w i d hh hk]
    · rw [if_neg ho]
      symm
      refine foldH_none (fun k hk => ?_)
      rw [← extW_upd w i d hh hk]
      unfold cndW
      rw [if_neg]
      intro z
      have := al_iff.mp z i (by omega)
      try dsimp only at this
      rw [gW_cong (w' := updN w i h) (fun x hx => by
        unfold extW
        rw [if_neg (by omega)])] at this
      exact ho this
theorem bp_codes0 (val : Nat → Int32 → Int32) (mg K Q : Nat → Int32) (p : Int32) (n : Nat) : bpW val mg K Q p n 0 (fun _ => 0) = foldH (fun c => cndW val mg K Q p n (wcN n c)) (8 ^ n) := by
  rw [bp_codes val mg K Q p n n 0 (fun _ => 0) (by omega) rfl]
  exact foldH_cong (fun c _ => by rw [extW_0])
theorem pow8 {n : Nat} (hn : n ≤ 5) : 8 ^ n ≤ 32768 ∧ 1 ≤ 8 ^ n := ⟨Nat.pow_le_pow_right (n := 8) (by omega) hn, Nat.pow_pos (by omega)⟩
theorem ev_8 : ∀ n : Fin 6, ((1 : Int32) <<< (((3 : Int32) * nI n.val) &&& 31)) = nI (8 ^ n.val) := by decide +kernel
theorem own2_m {F n c : Nat} (hF : 200 < F) (hn : n ≤ 5) (hc : c < 32768) {told : Nat → Int32} (h0 : told 0 = nI n) (lb : Int32) (own ah ge og : Nat → Int32) :
    f_X5_layOwn F (nI c) told lb own ah ge og = f_X5_layOwn_b39 F (nI c) told F 0 lb (pre (fun i => nI (wcN n c i)) own n) ah ge og := by
  unfold f_X5_layOwn
  have key := loopN (fun m k => f_X5_layOwn_b2 F (nI c) told m (nI k) lb (pre (fun i => nI (wcN n c i)) own k) ah ge og) (f_X5_layOwn_b39 F (nI c) told F 0 lb (pre (fun i => nI (wcN n c i)) own n) ah ge og) n ?_ ?_ F (by omega)
  · simpa only [pre_0, z0n] using key
  · intro k m hk
    show f_X5_layOwn_b2 F (nI c) told (m + 1) (nI k) lb (pre (fun i => nI (wcN n c i)) own k) ah ge og = f_X5_layOwn_b2 F (nI c) told m (nI (k + 1)) lb (pre (fun i => nI (wcN n c i)) own (k + 1)) ah ge og
    have e : nI n - (1 : Int32) - nI k = nI (n - 1 - k) := (congrArg (fun x => x - nI k) (pk_sub (a := n) (b := 1) (by omega))).trans (pk_sub (by omega))
    have e2 : c / 2 ^ (3 * (n - 1 - k)) % 8 = wcN n c k := by
      unfold wcN
      rw [if_pos hk, Nat.pow_mul]
    rw [f_X5_layOwn_b2, many_m, Option.bind_some, Option.bind_some, h0, if_neg (nI_ge hk (by omega)), e, show (3 : Int32) * nI (n - 1 - k) = nI (3 * (n - 1 - k)) from pk_mul 3 _, shr_and7 (by omega) (by omega), e2, chk_t (ix_n (by omega) (by omega)), cl_n (by omega), nI_1, ← pre_s (fun i => nI (wcN n c i)) own k]
  · intro m
    show f_X5_layOwn_b2 F (nI c) told (m + 1) (nI n) lb _ ah ge og = _
    rw [f_X5_layOwn_b2, many_m, Option.bind_some, h0, if_pos (nI_le (Nat.le_refl _) (by omega))]
theorem own50_m {F n h : Nat} (hF : 200 < F) (hn : n ≤ 5) (hh : h < 8) (a1 : Int32) {told own : Nat → Int32} {w : Nat → Nat} (h0 : told 0 = nI n) (how : ∀ i, i < n → own i = nI (w i)) (hw8 : ∀ i, w i < 8) (K39 : Int32 → Int32 → (Nat → Int32) → (Nat → Int32) → (Nat → Int32) → (Nat → Int32) → Option (Int32 × (Nat → Int32) × (Nat → Int32) × (Nat → Int32) × (Nat → Int32))) (lb : Int32) (ah ge og : Nat → Int32) :
    f_X5_layOwn_b50 F a1 told K39 F (nI h) 0 0 lb own ah ge og = chk (ix 24 251) ((f_X5_goHour F 251 (nI h) (told (24 : Int32).toNatClampNeg) (kB (fun j => decide (w j = h)) n) told lb ah ge).bind fun o9 => f_X5_layOwn_b107 F a1 told K39 F (nI h) 0 o9.1 own o9.2.1 o9.2.2 og) := by
  have key := loopN (fun m k => f_X5_layOwn_b50 F a1 told K39 m (nI h) (kB (fun j => decide (w j = h)) k) (nI k) lb own ah ge og) (chk (ix 24 251) ((f_X5_goHour F 251 (nI h) (told (24 : Int32).toNatClampNeg) (kB (fun j => decide (w j = h)) n) told lb ah ge).bind fun o9 => f_X5_layOwn_b107 F a1 told K39 F (nI h) 0 o9.1 own o9.2.1 o9.2.2 og)) n ?_ ?_ F (by omega)
  · exact key
  · intro k m hk
    show f_X5_layOwn_b50 F a1 told K39 (m + 1) (nI h) (kB (fun j => decide (w j = h)) k) (nI k) lb own ah ge og = f_X5_layOwn_b50 F a1 told K39 m (nI h) (if decide (w k = h) = true then kB (fun j => decide (w j = h)) k ||| ((1 : Int32) <<< (nI k &&& 31)) else kB (fun j => decide (w j = h)) k) (nI (k + 1)) lb own ah ge og
    have := hw8 k
    rw [f_X5_layOwn_b50, many_m, Option.bind_some, h0, if_neg (nI_ge hk (by omega)), chk_t (ix_n (by omega) (by omega)), cl_n (by omega), how k hk]
    unfold f_X5_layOwn_b79
    rw [nI_1]
    by_cases e : w k = h
    · rw [if_pos ((nI_eq (by omega) (by omega)).mpr e), if_pos (decide_eq_true e)]
    · rw [if_neg (fun z => e ((nI_eq (by omega) (by omega)).mp z)), if_neg (by rw [decide_eq_false e]; decide), Int32.or_zero]
  · intro m
    show f_X5_layOwn_b50 F a1 told K39 (m + 1) (nI h) (kB (fun j => decide (w j = h)) n) (nI n) lb own ah ge og = _
    rw [f_X5_layOwn_b50, many_m, Option.bind_some, h0, if_pos (nI_le (Nat.le_refl _) (by omega))]
theorem own107_m {F n h : Nat} (hF : 200 < F) (hn : n ≤ 5) (hh : h < 8) (a1 : Int32) {told own : Nat → Int32} {w : Nat → Nat} (h0 : told 0 = nI n) (how : ∀ i, i < n → own i = nI (w i)) (hw8 : ∀ i, w i < 8) (K39 : Int32 → Int32 → (Nat → Int32) → (Nat → Int32) → (Nat → Int32) → (Nat → Int32) → Option (Int32 × (Nat → Int32) × (Nat → Int32) × (Nat → Int32) × (Nat → Int32))) (lb : Int32) (ah ge og : Nat → Int32) :
    f_X5_layOwn_b107 F a1 told K39 F (nI h) 0 lb own ah ge og = K39 (nI (h + 1)) lb own ah ge (pre (fun i => if w i = h then ge i else og i) og n) := by
  have key := loopN (fun m k => f_X5_layOwn_b107 F a1 told K39 m (nI h) (nI k) lb own ah ge (pre (fun i => if w i = h then ge i else og i) og k)) (K39 (nI (h + 1)) lb own ah ge (pre (fun i => if w i = h then ge i else og i) og n)) n ?_ ?_ F (by omega)
  · simpa only [pre_0, z0n] using key
  · intro k m hk
    show f_X5_layOwn_b107 F a1 told K39 (m + 1) (nI h) (nI k) lb own ah ge (pre (fun i => if w i = h then ge i else og i) og k) = f_X5_layOwn_b107 F a1 told K39 m (nI h) (nI (k + 1)) lb own ah ge (pre (fun i => if w i = h then ge i else og i) og (k + 1))
    have := hw8 k
    rw [f_X5_layOwn_b107, many_m, Option.bind_some, h0, if_neg (nI_ge hk (by omega)), chk_t (ix_n (by omega) (by omega)), chk_t (ix_n (by omega) (by omega)), chk_t (ix_n (by omega) (by omega)), cl_n (by omega), how k hk, ← pre_s (fun i => if w i = h then ge i else og i) og k]
    unfold f_X5_layOwn_b150
    rw [chk_t (ix_n (by omega) (by omega)), chk_t (ix_n (by omega) (by omega)), cl_n (by omega), nI_1]
    by_cases e : w k = h
    · rw [if_pos ((nI_eq (by omega) (by omega)).mpr e), if_pos e]
    · rw [if_neg (fun z => e ((nI_eq (by omega) (by omega)).mp z)), if_neg e, pre_out (Nat.le_refl k)]
  · intro m
    show f_X5_layOwn_b107 F a1 told K39 (m + 1) (nI h) (nI n) lb own ah ge _ = _
    rw [f_X5_layOwn_b107, many_m, Option.bind_some, h0, if_pos (nI_le (Nat.le_refl _) (by omega)), nI_1]
/-- what each gets in the way of code c -/
theorem layOwn_m {F n c : Nat} (hF : 200 < F) (hn : n ≤ 5) (hc : c < 32768) {told K Q : Nat → Int32} {p : Int32} (h0 : told 0 = nI n) (h24 : told 24 = p) (hw : ∀ j, j < n → told (26 + j) = K j ∧ told (19 + j) = Q j) (lb : Int32) (own ah ge og : Nat → Int32) :
    ∃ r, f_X5_layOwn F (nI c) told lb own ah ge og = some r ∧ ∀ i, i < n → r.2.1 i = nI (wcN n c i) ∧ r.2.2.2.2 i = gW K Q p (wcN n c) i := by
  rw [own2_m hF hn hc h0]
  refine loopI (σ := Int32 × (Nat → Int32) × (Nat → Int32) × (Nat → Int32)) (fun m k s => f_X5_layOwn_b39 F (nI c) told m (nI k) s.1 (pre (fun i => nI (wcN n c i)) own n) s.2.1 s.2.2.1 s.2.2.2) (fun k s => ∀ i, i < n → wcN n c i < k → s.2.2.2 i = gW K Q p (wcN n c) i) (fun r => ∀ i, i < n → r.2.1 i = nI (wcN n c i) ∧ r.2.2.2.2 i = gW K Q p (wcN n c) i) 8 ?_ ?_ F (lb, ah, ge, og) (by omega) (fun i _ hi => absurd hi (Nat.not_lt_zero _))
  · intro k m s hk hI
    refine ⟨(lo (fun i => told (26 + i)) (fun i => told (19 + i)) (nI k) (kB (fun j => decide (wcN n c j = k)) n) p n, pre (lo (fun i => told (26 + i)) (fun i => told (19 + i)) (nI k) (kB (fun j => decide (wcN n c j = k)) n) p) s.2.1 n, pre (ga (fun i => told (26 + i)) (fun i => told (19 + i)) (nI k) (kB (fun j => decide (wcN n c j = k)) n) p) s.2.2.1 n,
      pre (fun i => if wcN n c i = k then pre (ga (fun i => told (26 + i)) (fun i => told (19 + i)) (nI k) (kB (fun j => decide (wcN n c j = k)) n) p) s.2.2.1 n i else s.2.2.2 i) s.2.2.2 n), fun i hi hik => ?_, ?_⟩
    · dsimp only
      rw [pre_in hi]
      by_cases e : wcN n c i = k
      · rw [if_pos e, pre_in hi, ← ga_gW hn hi e]
        exact ga_cong (n := n) (fun j hj => ⟨(hw j hj).1, (hw j hj).2, Iff.rfl⟩) hi
      · rw [if_neg e]
        exact hI i hi (by omega)
    · show f_X5_layOwn_b39 F (nI c) told (m + 1) (nI k) s.1 (pre (fun i => nI (wcN n c i)) own n) s.2.1 s.2.2.1 s.2.2.2 = _
      rw [f_X5_layOwn_b39, if_neg (show ¬ (8 : Int32) ≤ nI k from nI_ge (b := 8) hk (by omega)), own50_m (w := wcN n c) hF hn hk (nI c) h0 (fun i hi => pre_in (f := fun i => nI (wcN n c i)) (g := own) hi) (wcN_8 n c), chk_t (by decide), show told (24 : Int32).toNatClampNeg = p from h24, goHour_m (by omega) hn (by omega) (by omega) hk _ _ h0, Option.bind_some]
      dsimp only
      rw [own107_m (w := wcN n c) hF hn hk (nI c) h0 (fun i hi => pre_in (f := fun i => nI (wcN n c i)) (g := own) hi) (wcN_8 n c)]
  · intro m s hI
    refine ⟨(s.1, pre (fun i => nI (wcN n c i)) own n, s.2.1, s.2.2.1, s.2.2.2), ?_, fun i hi => ⟨pre_in (f := fun i => nI (wcN n c i)) (g := own) hi, hI i hi (wcN_8 n c i)⟩⟩
    show f_X5_layOwn_b39 F (nI c) told (m + 1) (nI 8) s.1 (pre (fun i => nI (wcN n c i)) own n) s.2.1 s.2.2.1 s.2.2.2 = _
    rw [f_X5_layOwn_b39, if_pos (show (8 : Int32) ≤ nI 8 by decide)]

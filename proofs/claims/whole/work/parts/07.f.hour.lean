/-! PURE: bits (rows of the kit, pasted), who is open, an hour of the reference, a day -/
def bt (x : Int32) (i : Nat) : Bool := x.toBitVec.getLsbD i
theorem b_ext {x y : Int32} (h : ∀ i, i < 32 → bt x i = bt y i) : x = y := Int32.toBitVec_inj.mp (BitVec.eq_of_getLsbD_eq (fun i hi => h i hi))
theorem b_or (x y : Int32) (i : Nat) : bt (x ||| y) i = (bt x i || bt y i) := by unfold bt; rw [Int32.toBitVec_or, BitVec.getLsbD_or]
theorem b_and (x y : Int32) (i : Nat) : bt (x &&& y) i = (bt x i && bt y i) := by unfold bt; rw [Int32.toBitVec_and, BitVec.getLsbD_and]
theorem b_xor (x y : Int32) (i : Nat) : bt (x ^^^ y) i = (bt x i ^^ bt y i) := by unfold bt; rw [Int32.toBitVec_xor, BitVec.getLsbD_xor]
theorem b_big {x : Int32} {i : Nat} (h : 32 ≤ i) : bt x i = false := BitVec.getLsbD_of_ge _ _ h
theorem b_m1 : ∀ i, i < 32 → bt (-1) i = true := by decide +kernel
theorem b_0 (i : Nat) : bt 0 i = false := BitVec.getLsbD_zero
theorem s_l : ∀ n, n < 32 → ((nI n &&& 31).toBitVec.smod 32).toNat = n := by decide +kernel
theorem s_u : ∀ n, n < 32 → (((nI n).toUInt32 &&& Int32.toUInt32 31).toBitVec % 32).toNat = n := by decide +kernel
theorem b_shl (n : Nat) (hn : n < 32) (x : Int32) {i : Nat} (hi : i < 32) : bt (x <<< (nI n &&& 31)) i = (decide (n ≤ i) && bt x (i - n)) := by
  unfold bt
  rw [Int32.toBitVec_shiftLeft]
  show (x.toBitVec <<< ((nI n &&& 31).toBitVec.smod 32).toNat).getLsbD i = _
  rw [s_l n hn, BitVec.getLsbD_shiftLeft]
  rcases Nat.lt_or_ge i n with h | h
  · simp [h, Nat.not_le.mpr h]
  · simp [hi, h, Nat.not_lt.mpr h]
theorem b_sshr (n : Nat) (hn : n < 32) (x : Int32) {i : Nat} (hi : i < 32) : bt (x >>> (nI n &&& 31)) i = if n + i < 32 then bt x (n + i) else bt x 31 := by
  unfold bt
  rw [Int32.toBitVec_shiftRight]
  show (x.toBitVec.sshiftRight ((nI n &&& 31).toBitVec.smod 32).toNat).getLsbD i = _
  rw [s_l n hn, BitVec.getLsbD_sshiftRight, BitVec.msb_eq_getLsbD_last]
  simp [hi]
theorem bt_1 : ∀ i, i < 32 → bt 1 i = decide (i = 0) := by decide +kernel
/-- a bit, as both classes ask for it -/
theorem bit_bt (x : Int32) {i : Nat} (hi : i < 31) : (((x >>> (nI i &&& 31)) &&& 1) = 1) ↔ bt x i = true := by
  constructor
  · intro h
    have h0 : bt ((x >>> (nI i &&& 31)) &&& 1) 0 = true := by rw [h]; rfl
    rw [b_and, b_sshr i (by omega) x (by omega), if_pos (by omega), Nat.add_zero, Bool.and_eq_true] at h0
    exact h0.1
  · intro h
    refine b_ext fun j hj => ?_
    rw [b_and, bt_1 j hj]
    by_cases e : j = 0
    · subst e
      rw [b_sshr i (by omega) x (by omega), if_pos (by omega), Nat.add_zero, h]; rfl
    · rw [decide_eq_false e, Bool.and_false]
theorem has_m (F : Nat) (x h : Int32) : f_X5_has F x h = some (if ((x >>> (h &&& 31)) &&& 1) = 1 then 1 else 0) := by
  unfold f_X5_has
  by_cases hb : ((x >>> (h &&& 31)) &&& 1) = 1
  · rw [if_pos hb, if_pos hb]
  · rw [if_neg hb, if_neg hb]
theorem isOpen_x (F : Nat) {i : Nat} (hi : i < 5) (h : Int32) (H : Nat → Int32) : f_X1_isOpen F (nI i) h H = some (if ((H i >>> (h &&& 31)) &&& 1) = 1 then 1 else 0) := by
  unfold f_X1_isOpen
  rw [chk_t (ix_n hi (by omega)), cl_n (by omega)]
  by_cases hb : ((H i >>> (h &&& 31)) &&& 1) = 1
  · rw [if_pos hb, if_pos hb]
  · rw [if_neg hb, if_neg hb]
/-- those open in hour h, of the first n -/
def op (H : Nat → Int32) (h : Int32) : Nat → Int32
  | 0 => 0
  | k + 1 => if ((H k >>> (h &&& 31)) &&& 1) = 1 then op H h k ||| ((1 : Int32) <<< (nI k &&& 31)) else op H h k
theorem op_cong {H H' : Nat → Int32} {h : Int32} : ∀ {n : Nat}, (∀ i, i < n → H i = H' i) → op H h n = op H' h n
  | 0, _ => rfl
  | n + 1, hh => by
    unfold op
    rw [op_cong (n := n) (fun i hi => hh i (by omega)), hh n (by omega)]
theorem ne10 : ¬ (1 : Int32) = 0 := by decide
theorem openIn_x {F n : Nat} (hF : n < F) (hn : n ≤ 5) (h : Int32) (H : Nat → Int32) : f_X1_openIn F h (nI n) H = some (op H h n) := by
  unfold f_X1_openIn
  refine loopN (fun m k => f_X1_openIn_b4 F h (nI n) H m (op H h k) (nI k)) _ n ?_ ?_ F hF
  · intro k m hk
    show f_X1_openIn_b4 F h (nI n) H (m + 1) (op H h k) (nI k) = f_X1_openIn_b4 F h (nI n) H m (op H h (k + 1)) (nI (k + 1))
    rw [f_X1_openIn_b4, if_neg (nI_ge hk (by omega)), isOpen_x F (by omega), Option.bind_some]
    by_cases hb : ((H k >>> (h &&& 31)) &&& 1) = 1
    · rw [if_pos hb, if_neg ne10]
      unfold f_X1_openIn_b27
      rw [nI_1, op, if_pos hb]
    · rw [if_neg hb, if_pos rfl]
      unfold f_X1_openIn_b27
      rw [nI_1, op, if_neg hb]
  · intro m
    show f_X1_openIn_b4 F h (nI n) H (m + 1) _ (nI n) = _
    rw [f_X1_openIn_b4, if_pos (nI_le (Nat.le_refl n) (by omega))]
theorem openIn_m {F n N : Nat} (hF : n < F) (hn : n ≤ 5) (hN : 31 ≤ N) (hN2 : N < 2 ^ 31) (h : Int32) {t : Nat → Int32} (h0 : t 0 = nI n) : f_X5_openIn F N h t = some (op (fun i => t (14 + i)) h n) := by
  unfold f_X5_openIn
  refine loopN (fun m k => f_X5_openIn_b4 F N h t m (op (fun i => t (14 + i)) h k) (nI k)) _ n ?_ ?_ F hF
  · intro k m hk
    show f_X5_openIn_b4 F N h t (m + 1) (op _ h k) (nI k) = f_X5_openIn_b4 F N h t m (op _ h (k + 1)) (nI (k + 1))
    rw [f_X5_openIn_b4, chk_t (ix_e (x := 0) (k := 0) rfl (by omega) hN2), show t (0 : Int32).toNatClampNeg = nI n from h0, if_neg (nI_ge hk (by omega)),
      show (14 : Int32) + nI k = nI (14 + k) from nI_add 14 k, chk_t (ix_n (by omega) hN2), cl_n (by omega), has_m, Option.bind_some]
    by_cases hb : ((t (14 + k) >>> (h &&& 31)) &&& 1) = 1
    · rw [if_pos hb, if_neg ne10]
      unfold f_X5_openIn_b32
      rw [nI_1, op, if_pos hb]
    · rw [if_neg hb, if_pos rfl]
      unfold f_X5_openIn_b32
      rw [nI_1, op, if_neg hb, Int32.or_zero]
  · intro m
    show f_X5_openIn_b4 F N h t (m + 1) _ (nI n) = _
    rw [f_X5_openIn_b4, chk_t (ix_e (x := 0) (k := 0) rfl (by omega) hN2), show t (0 : Int32).toNatClampNeg = nI n from h0, if_pos (nI_le (Nat.le_refl n) (by omega))]
theorem goHour_m {F n N hh : Nat} (hF : n < F) (hn : n ≤ 5) (hN : 31 ≤ N) (hN2 : N < 2 ^ 31) (hh8 : hh < 8) (p o : Int32) {t : Nat → Int32} (h0 : t 0 = nI n) (l0 : Int32) (ah ge : Nat → Int32) :
    f_X5_goHour F N (nI hh) p o t l0 ah ge = some (lo (fun i => t (26 + i)) (fun i => t (19 + i)) (nI hh) o p n, pre (lo (fun i => t (26 + i)) (fun i => t (19 + i)) (nI hh) o p) ah n, pre (ga (fun i => t (26 + i)) (fun i => t (19 + i)) (nI hh) o p) ge n) := by
  unfold f_X5_goHour
  generalize hK : (fun i => t (26 + i)) = K
  generalize hQ : (fun i => t (19 + i)) = Q
  have key := loopN (fun m k => f_X5_goHour_b8 F N (nI hh) p o t m (nI k) (lo K Q (nI hh) o p k) (pre (lo K Q (nI hh) o p) ah k) (pre (ga K Q (nI hh) o p) ge k)) (some (lo K Q (nI hh) o p n, pre (lo K Q (nI hh) o p) ah n, pre (ga K Q (nI hh) o p) ge n)) n ?_ ?_ F hF
  · simpa only [pre_0, lo, z0n] using key
  · intro k m hk
    show f_X5_goHour_b8 F N (nI hh) p o t (m + 1) (nI k) _ _ _ = f_X5_goHour_b8 F N (nI hh) p o t m (nI (k + 1)) _ _ _
    rw [f_X5_goHour_b8, chk_t (ix_e (x := 0) (k := 0) rfl (by omega) hN2), show t (0 : Int32).toNatClampNeg = nI n from h0, if_neg (nI_ge hk (by omega)), chk_t (ix_n (by omega) (by omega)), has_m, Option.bind_some, cl_n (by omega), pre_s]
    by_cases hb : ((o >>> (nI k &&& 31)) &&& 1) = 1
    · rw [if_pos hb, if_neg ne10, show (26 : Int32) + nI k = nI (26 + k) from nI_add 26 k, show (19 : Int32) + nI k = nI (19 + k) from nI_add 19 k, chk_t (ix_n (by omega) hN2), chk_t (ix_n (by omega) hN2), cl_n (by omega), cl_n (by omega), kg_m F _ _ _ hh8, Option.bind_some]
      have e1 : t (26 + k) = K k := by rw [← hK]
      have e2 : t (19 + k) = Q k := by rw [← hQ]
      rw [e1, e2, show kg (K k) (Q k) (nI hh) (lo K Q (nI hh) o p k) = ga K Q (nI hh) o p k from (if_pos hb).symm]
      unfold f_X5_goHour_b69
      rw [chk_t (ix_n (by omega) (by omega)), chk_t (ix_n (by omega) (by omega)), cl_n (by omega), pre_s, pre_in (Nat.lt_succ_self k), nI_1]
      rfl
    · rw [if_neg hb, if_pos rfl]
      rw [show (0 : Int32) = ga K Q (nI hh) o p k from (if_neg hb).symm]
      unfold f_X5_goHour_b69
      rw [chk_t (ix_n (by omega) (by omega)), chk_t (ix_n (by omega) (by omega)), cl_n (by omega), pre_s, pre_in (Nat.lt_succ_self k), nI_1]
      rfl
  · intro m
    show f_X5_goHour_b8 F N (nI hh) p o t (m + 1) (nI n) _ _ _ = _
    rw [f_X5_goHour_b8, chk_t (ix_e (x := 0) (k := 0) rfl (by omega) hN2), show t (0 : Int32).toNatClampNeg = nI n from h0, if_pos (nI_le (Nat.le_refl n) (by omega))]
/-- a loop over a state that is known but in part -/
theorem loopI {σ α : Type} (X : Nat → Nat → σ → Option α) (I : Nat → σ → Prop) (P : α → Prop) (n : Nat) (hstep : ∀ k m s, k < n → I k s → ∃ s', I (k + 1) s' ∧ X (m + 1) k s = X m (k + 1) s') (hexit : ∀ m s, I n s → ∃ r, X (m + 1) n s = some r ∧ P r) : ∀ F s, n < F → I 0 s → ∃ r, X F 0 s = some r ∧ P r := by
  have key : ∀ d k F s, k + d = n → d < F → I k s → ∃ r, X F k s = some r ∧ P r := by
    intro d
    induction d with
    | zero =>
      intro k F s e hF hI
      obtain ⟨m, rfl⟩ : ∃ m, F = m + 1 := ⟨F - 1, by omega⟩
      obtain rfl : k = n := by omega
      exact hexit m s hI
    | succ d ih =>
      intro k F s e hF hI
      obtain ⟨m, rfl⟩ : ∃ m, F = m + 1 := ⟨F - 1, by omega⟩
      obtain ⟨s', h1, h2⟩ := hstep k m s (by omega) hI
      rw [h2]
      exact ih (k + 1) m s' (by omega) (by omega) h1
  intro F s hF hI
  exact key n 0 F s (by omega) hF hI
/-- what well i gets in the first hours, what is due; O: who may draw in each -/
def dG (K Q : Nat → Int32) (O : Nat → Int32) (p : Int32) (i : Nat) : Nat → Int32
  | 0 => 0
  | h + 1 => dG K Q O p i h + ga K Q (nI h) (O h) p i
def dD (K Q : Nat → Int32) (O : Nat → Int32) (p : Int32) (i : Nat) : Nat → Int32
  | 0 => 0
  | h + 1 => dD K Q O p i h + kd (K i) (ga K Q (nI h) (O h) p i)
theorem dG_cong {K Q K' Q' O O' : Nat → Int32} {p : Int32} {n i : Nat} (hi : i < n) (hK : ∀ j, j < n → K j = K' j ∧ Q j = Q' j) (hn : n ≤ 31) : ∀ {m : Nat}, (∀ h, h < m → ∀ j, j < n → bt (O h) j = bt (O' h) j) → dG K Q O p i m = dG K' Q' O' p i m
  | 0, _ => rfl
  | m + 1, hO => by
    unfold dG
    rw [dG_cong hi hK hn (m := m) (fun h hh => hO h (by omega)), ga_cong (K' := K') (Q' := Q') (o := O m) (o' := O' m) (n := n) (fun j hj => ⟨(hK j hj).1, (hK j hj).2, by rw [bit_bt _ (by omega), bit_bt _ (by omega), hO m (by omega) j hj]⟩) hi]
theorem dD_cong {K Q K' Q' O O' : Nat → Int32} {p : Int32} {n i : Nat} (hi : i < n) (hK : ∀ j, j < n → K j = K' j ∧ Q j = Q' j) (hn : n ≤ 31) : ∀ {m : Nat}, (∀ h, h < m → ∀ j, j < n → bt (O h) j = bt (O' h) j) → dD K Q O p i m = dD K' Q' O' p i m
  | 0, _ => rfl
  | m + 1, hO => by
    unfold dD
    rw [dD_cong hi hK hn (m := m) (fun h hh => hO h (by omega)), ga_cong (K' := K') (Q' := Q') (o := O m) (o' := O' m) (n := n) (fun j hj => ⟨(hK j hj).1, (hK j hj).2, by rw [bit_bt _ (by omega), bit_bt _ (by omega), hO m (by omega) j hj]⟩) hi, (hK i hi).1]
theorem getsAt_x {F n i : Nat} (hF : n < F) (hn : n ≤ 5) (hi : i < n) (h p : Int32) (H K Q ah ge : Nat → Int32) (l0 : Int32) :
    f_X1_getsAt F (nI i) h p (nI n) H K Q l0 ah ge = some (ga K Q h (op H h n) p i, lo K Q h (op H h n) p n, pre (lo K Q h (op H h n) p) ah n, pre (ga K Q h (op H h n) p) ge n) := by
  unfold f_X1_getsAt
  rw [openIn_x hF hn, Option.bind_some, runHour_x hF hn, Option.bind_some, chk_t (ix_n (by omega) (by omega)), cl_n (by omega)]
  dsimp only
  rw [pre_in hi]
theorem dailyGets_x {F n i : Nat} (hF : 8 < F) (hn : n ≤ 5) (hi : i < n) (among p : Int32) (H K Q ah ge : Nat → Int32) (l0 : Int32) :
    ∃ r, f_X1_dailyGets F (nI i) among p (nI n) H K Q l0 ah ge = some r ∧ r.1 = dG K Q (fun h => op H (nI h) n &&& among) p i 8 := by
  unfold f_X1_dailyGets
  refine loopI (σ := Int32 × Int32 × (Nat → Int32) × (Nat → Int32)) (fun m k s => f_X1_dailyGets_b5 F (nI i) among p (nI n) H K Q m s.1 (nI k) s.2.1 s.2.2.1 s.2.2.2) (fun k s => s.1 = dG K Q (fun h => op H (nI h) n &&& among) p i k) (fun r => r.1 = dG K Q (fun h => op H (nI h) n &&& among) p i 8) 8 ?_ ?_ F (0, l0, ah, ge) hF rfl
  · intro k m s hk hI
    refine ⟨(s.1 + ga K Q (nI k) (op H (nI k) n &&& among) p i, lo K Q (nI k) (op H (nI k) n &&& among) p n, pre (lo K Q (nI k) (op H (nI k) n &&& among) p) s.2.2.1 n, pre (ga K Q (nI k) (op H (nI k) n &&& among) p) s.2.2.2 n), ?_, ?_⟩
    · show s.1 + _ = _
      rw [hI]; rfl
    · show f_X1_dailyGets_b5 F (nI i) among p (nI n) H K Q (m + 1) s.1 (nI k) s.2.1 s.2.2.1 s.2.2.2 = _
      rw [f_X1_dailyGets_b5, if_neg (show ¬ (8 : Int32) ≤ nI k from nI_ge (b := 8) hk (by omega)), openIn_x (by omega) hn, Option.bind_some, runHour_x (by omega) hn, Option.bind_some, chk_t (ix_n (by omega) (by omega)), cl_n (by omega), nI_1]
      dsimp only
      rw [pre_in hi]
  · intro m s hI
    refine ⟨(s.1, s.2.1, s.2.2.1, s.2.2.2), ?_, hI⟩
    show f_X1_dailyGets_b5 F (nI i) among p (nI n) H K Q (m + 1) s.1 (nI 8) s.2.1 s.2.2.1 s.2.2.2 = _
    rw [f_X1_dailyGets_b5, if_pos (show (8 : Int32) ≤ nI 8 from by decide)]
theorem dailyDue_x {F n i : Nat} (hF : 8 < F) (hn : n ≤ 5) (hi : i < n) (p : Int32) (H K Q ah ge : Nat → Int32) (l0 : Int32) :
    ∃ r, f_X1_dailyDue F (nI i) p (nI n) K H Q l0 ah ge = some r ∧ r.1 = dD K Q (fun h => op H (nI h) n) p i 8 := by
  unfold f_X1_dailyDue
  refine loopI (σ := Int32 × Int32 × (Nat → Int32) × (Nat → Int32)) (fun m k s => f_X1_dailyDue_b4 F (nI i) p (nI n) K H Q m s.1 (nI k) s.2.1 s.2.2.1 s.2.2.2) (fun k s => s.1 = dD K Q (fun h => op H (nI h) n) p i k) (fun r => r.1 = dD K Q (fun h => op H (nI h) n) p i 8) 8 ?_ ?_ F (0, l0, ah, ge) hF rfl
  · intro k m s hk hI
    refine ⟨(s.1 + kd (K i) (ga K Q (nI k) (op H (nI k) n) p i), lo K Q (nI k) (op H (nI k) n) p n, pre (lo K Q (nI k) (op H (nI k) n) p) s.2.2.1 n, pre (ga K Q (nI k) (op H (nI k) n) p) s.2.2.2 n), ?_, ?_⟩
    · show s.1 + _ = _
      rw [hI]; rfl
    · show f_X1_dailyDue_b4 F (nI i) p (nI n) K H Q (m + 1) s.1 (nI k) s.2.1 s.2.2.1 s.2.2.2 = _
      rw [f_X1_dailyDue_b4, if_neg (show ¬ (8 : Int32) ≤ nI k from nI_ge (b := 8) hk (by omega)), chk_t (ix_n (by omega) (by omega)), getsAt_x (by omega) hn hi, Option.bind_some, kd_x, Option.bind_some, cl_n (by omega), nI_1]
  · intro m s hI
    refine ⟨(s.1, s.2.1, s.2.2.1, s.2.2.2), ?_, hI⟩
    show f_X1_dailyDue_b4 F (nI i) p (nI n) K H Q (m + 1) s.1 (nI 8) s.2.1 s.2.2.1 s.2.2.2 = _
    rw [f_X1_dailyDue_b4, if_pos (show (8 : Int32) ≤ nI 8 from by decide)]
theorem dailyOfAll_x {F n : Nat} (hF : 8 < F) (hn : n ≤ 5) (p : Int32) (H K Q ah ge : Nat → Int32) (l0 : Int32) :
    ∃ r, f_X1_dailyOfAll F p (nI n) H K Q l0 ah ge = some r ∧ r.1 = (fun z : Nat → Int32 => z 8) (fun m => Nat.rec (motive := fun _ => Int32) 0 (fun h x => x + (p - lo K Q (nI h) (op H (nI h) n) p n)) m) := by
  unfold f_X1_dailyOfAll
  refine loopI (σ := Int32 × Int32 × (Nat → Int32) × (Nat → Int32)) (fun m k s => f_X1_dailyOfAll_b4 F p (nI n) H K Q m s.1 (nI k) s.2.1 s.2.2.1 s.2.2.2) (fun k s => s.1 = Nat.rec (motive := fun _ => Int32) 0 (fun h x => x + (p - lo K Q (nI h) (op H (nI h) n) p n)) k) _ 8 ?_ ?_ F (0, l0, ah, ge) hF rfl
  · intro k m s hk hI
    refine ⟨(s.1 + (p - lo K Q (nI k) (op H (nI k) n) p n), lo K Q (nI k) (op H (nI k) n) p n, pre (lo K Q (nI k) (op H (nI k) n) p) s.2.2.1 n, pre (ga K Q (nI k) (op H (nI k) n) p) s.2.2.2 n), ?_, ?_⟩
    · show s.1 + _ = _
      rw [hI]
    · show f_X1_dailyOfAll_b4 F p (nI n) H K Q (m + 1) s.1 (nI k) s.2.1 s.2.2.1 s.2.2.2 = _
      rw [f_X1_dailyOfAll_b4, if_neg (show ¬ (8 : Int32) ≤ nI k from nI_ge (b := 8) hk (by omega)), openIn_x (by omega) hn, Option.bind_some, runHour_x (by omega) hn, Option.bind_some, nI_1]
  · intro m s hI
    refine ⟨(s.1, s.2.1, s.2.2.1, s.2.2.2), ?_, hI⟩
    show f_X1_dailyOfAll_b4 F p (nI n) H K Q (m + 1) s.1 (nI 8) s.2.1 s.2.2.1 s.2.2.2 = _
    rw [f_X1_dailyOfAll_b4, if_pos (show (8 : Int32) ≤ nI 8 from by decide)]
/-- a day of the reference -/
theorem layDay62_m {F n N : Nat} (hF : n < F) (hn : n ≤ 5) (hN : 31 ≤ N) (hN2 : N < 2 ^ 31) (a2 a3 : Int32) {t : Nat → Int32} (h0 : t 0 = nI n) (K34 : Int32 → Int32 → (Nat → Int32) → (Nat → Int32) → (Nat → Int32) → (Nat → Int32) → Option (Int32 × (Nat → Int32) × (Nat → Int32) × (Nat → Int32) × (Nat → Int32))) (v4 lb : Int32) (dg dd ah ge : Nat → Int32) :
    f_X5_layDay_b62 F N a2 a3 t K34 F v4 0 lb dg dd ah ge = K34 (v4 + 1) lb (pre (fun i => dg i + ge i) dg n) (pre (fun i => dd i + kd (t (26 + i)) (ge i)) dd n) ah ge := by
  have key := loopN (fun m k => f_X5_layDay_b62 F N a2 a3 t K34 m v4 (nI k) lb (pre (fun i => dg i + ge i) dg k) (pre (fun i => dd i + kd (t (26 + i)) (ge i)) dd k) ah ge) (K34 (v4 + 1) lb (pre (fun i => dg i + ge i) dg n) (pre (fun i => dd i + kd (t (26 + i)) (ge i)) dd n) ah ge) n ?_ ?_ F hF
  · simpa only [pre_0, z0n] using key
  · intro k m hk
    show f_X5_layDay_b62 F N a2 a3 t K34 (m + 1) v4 (nI k) lb _ _ ah ge = f_X5_layDay_b62 F N a2 a3 t K34 m v4 (nI (k + 1)) lb _ _ ah ge
    rw [f_X5_layDay_b62, chk_t (ix_e (x := 0) (k := 0) rfl (by omega) hN2), show t (0 : Int32).toNatClampNeg = nI n from h0, if_neg (nI_ge hk (by omega)), show (26 : Int32) + nI k = nI (26 + k) from nI_add 26 k]
    simp only [chk_t (ix_n (show k < 5 by omega) (by omega)), chk_t (ix_n (show 26 + k < N by omega) hN2), kd_m, Option.bind_some, cl_n (show k < 2 ^ 31 by omega), cl_n (show 26 + k < 2 ^ 31 by omega), nI_1]
    rw [pre_out (Nat.le_refl k), pre_out (Nat.le_refl k), ← pre_s (fun i => dg i + ge i) dg k, ← pre_s (fun i => dd i + kd (t (26 + i)) (ge i)) dd k]
  · intro m
    show f_X5_layDay_b62 F N a2 a3 t K34 (m + 1) v4 (nI n) lb _ _ ah ge = _
    rw [f_X5_layDay_b62, chk_t (ix_e (x := 0) (k := 0) rfl (by omega) hN2), show t (0 : Int32).toNatClampNeg = nI n from h0, if_pos (nI_le (Nat.le_refl n) (by omega))]
theorem layDay_m {F n N : Nat} (hF : 8 < F) (hn : n ≤ 5) (hN : 31 ≤ N) (hN2 : N < 2 ^ 31) (p shut : Int32) {t : Nat → Int32} (h0 : t 0 = nI n) (lb : Int32) (dg dd ah ge : Nat → Int32) :
    ∃ r, f_X5_layDay F N p shut t lb dg dd ah ge = some r ∧ ∀ i, i < n →
      r.2.1 i = dG (fun i => t (26 + i)) (fun i => t (19 + i)) (fun h => op (fun i => t (14 + i)) (nI h) n &&& (shut ^^^ (-1))) p i 8 ∧
      r.2.2.1 i = dD (fun i => t (26 + i)) (fun i => t (19 + i)) (fun h => op (fun i => t (14 + i)) (nI h) n &&& (shut ^^^ (-1))) p i 8 := by
  generalize hKe : (fun i => t (26 + i)) = K
  generalize hQe : (fun i => t (19 + i)) = Q
  generalize hOe : (fun h => op (fun i => t (14 + i)) (nI h) n &&& (shut ^^^ (-1))) = O
  have hK : ∀ i, t (26 + i) = K i := fun i => by rw [← hKe]
  unfold f_X5_layDay
  have key := loopN (fun m k => f_X5_layDay_b3 F N p shut t m (nI k) lb (pre (fun _ => 0) dg k) (pre (fun _ => 0) dd k) ah ge) ((f_X5_layDay_b34 F N p shut t F) 0 lb (pre (fun _ => 0) dg 5) (pre (fun _ => 0) dd 5) ah ge) 5 ?_ ?_ F (by omega)
  · simp only [pre_0, z0n] at key
    rw [key]
    refine loopI (σ := Int32 × (Nat → Int32) × (Nat → Int32) × (Nat → Int32) × (Nat → Int32)) (fun m k s => f_X5_layDay_b34 F N p shut t m (nI k) s.1 s.2.1 s.2.2.1 s.2.2.2.1 s.2.2.2.2) (fun k s => ∀ i, i < n → s.2.1 i = dG K Q O p i k ∧ s.2.2.1 i = dD K Q O p i k) _ 8 ?_ ?_ F (lb, pre (fun _ => 0) dg 5, pre (fun _ => 0) dd 5, ah, ge) hF (fun i hi => ⟨pre_in (f := fun _ => (0 : Int32)) (g := dg) (k := 5) (Nat.lt_of_lt_of_le hi hn), pre_in (f := fun _ => (0 : Int32)) (g := dd) (k := 5) (Nat.lt_of_lt_of_le hi hn)⟩)
    · intro k m s hk hI
      have hO : op (fun i => t (14 + i)) (nI k) n &&& (shut ^^^ (-1)) = O k := by rw [← hOe]
      refine ⟨(lo K Q (nI k) (O k) p n, pre (fun i => s.2.1 i + pre (ga K Q (nI k) (O k) p) s.2.2.2.2 n i) s.2.1 n, pre (fun i => s.2.2.1 i + kd (t (26 + i)) (pre (ga K Q (nI k) (O k) p) s.2.2.2.2 n i)) s.2.2.1 n, pre (lo K Q (nI k) (O k) p) s.2.2.2.1 n, pre (ga K Q (nI k) (O k) p) s.2.2.2.2 n), ?_, ?_⟩
      · intro i hi
        dsimp only
        simp only [pre_in hi]
        rw [(hI i hi).1, (hI i hi).2, hK]
        exact ⟨rfl, rfl⟩
      · show f_X5_layDay_b34 F N p shut t (m + 1) (nI k) s.1 s.2.1 s.2.2.1 s.2.2.2.1 s.2.2.2.2 = _
        rw [f_X5_layDay_b34, if_neg (show ¬ (8 : Int32) ≤ nI k from nI_ge (b := 8) hk (by omega)), openIn_m (by omega) hn hN hN2 _ h0, Option.bind_some, hO, goHour_m (by omega) hn hN hN2 hk p (O k) h0, Option.bind_some, hKe, hQe]
        dsimp only
        rw [layDay62_m (by omega) hn hN hN2 _ _ h0, nI_1]
    · intro m s hI
      refine ⟨(s.1, s.2.1, s.2.2.1, s.2.2.2.1, s.2.2.2.2), ?_, hI⟩
      show f_X5_layDay_b34 F N p shut t (m + 1) (nI 8) s.1 s.2.1 s.2.2.1 s.2.2.2.1 s.2.2.2.2 = _
      rw [f_X5_layDay_b34, if_pos (show (8 : Int32) ≤ nI 8 from by decide)]
  · intro k m hk
    show f_X5_layDay_b3 F N p shut t (m + 1) (nI k) lb _ _ ah ge = f_X5_layDay_b3 F N p shut t m (nI (k + 1)) lb _ _ ah ge
    rw [f_X5_layDay_b3, if_neg (show ¬ (5 : Int32) ≤ nI k from nI_ge (b := 5) hk (by omega)), chk_t (ix_n hk (by omega)), chk_t (ix_n hk (by omega)), cl_n (by omega), nI_1, ← pre_s (fun _ => (0 : Int32)) dg k, ← pre_s (fun _ => (0 : Int32)) dd k]
  · intro m
    show f_X5_layDay_b3 F N p shut t (m + 1) (nI 5) lb _ _ ah ge = _
    rw [f_X5_layDay_b3, if_pos (show (5 : Int32) ≤ nI 5 from by decide)]

/-! PURE: least -/
/-- what well i gets in hour h at pressure p -/
def gE (K Q H : Nat → Int32) (n : Nat) (p : Int32) (h i : Nat) : Int32 := ga K Q (nI h) (op H (nI h) n) p i
def eB (K Q H : Nat → Int32) (n : Nat) (p : Int32) (h i : Nat) : Bool := decide (gE K Q H n p h i = gE K Q H n 300 h i)
theorem gE_le {K Q H : Nat → Int32} {n p h i : Nat} (hi : i < n) (hn : n ≤ 5) (hp : p < 100) (hw : ∀ i, i < n → (∃ a : Nat, K i = nI a ∧ a ≤ 5) ∧ (∃ a : Nat, Q i = nI a ∧ 1 ≤ a ∧ a ≤ 20)) :
    (gE K Q H n 300 h i ≤ gE K Q H n (nI p) h i) ↔ eB K Q H n (nI p) h i = true := by
  obtain ⟨k, q, hkq⟩ := pick2 hw
  unfold eB gE
  have H1 : ∀ j, j < n → K j = nI (k j) ∧ k j ≤ 5 ∧ Q j = nI (q j) ∧ q j ≤ 20 ∧ ((fun i => decide (((op H (nI h) n >>> (nI i &&& 31)) &&& 1) = 1)) j = true ↔ ((op H (nI h) n >>> (nI j &&& 31)) &&& 1) = 1) := fun j hj => by
    obtain ⟨a, b, c, _, e⟩ := hkq j hj
    exact ⟨a, b, c, e, decide_eq_true_iff⟩
  rw [show (300 : Int32) = nI 300 from rfl, ga_N (by omega) hi H1, ga_N (by omega) hi H1, decide_eq_true_iff]
  generalize (fun i => decide (((op H (nI h) n >>> (nI i &&& 31)) &&& 1) = 1)) = o
  generalize decide ((nI h &&& 1) = 1) = od
  have b1 : ∀ j, j ≤ i → 300 - 40 * j ≤ loN k q o od 300 j := by
    intro j
    induction j with
    | zero => intro _; exact Nat.le_refl _
    | succ j ih =>
      intro hj
      have := ih (by omega)
      obtain ⟨_, _, _, _, e⟩ := hkq j (by omega)
      have c := kN_max (k j) (q j) od (loN k q o od 300 j)
      have d := kM_le (k j) (q j) od
      rw [loN_s]
      unfold gaN
      split <;> omega
  have b2 : gaN k q o od p i ≤ gaN k q o od 300 i := by
    have := b1 i (Nat.le_refl i)
    obtain ⟨_, _, _, _, e⟩ := hkq i hi
    unfold gaN
    split
    · rw [kN_big (p := loN k q o od 300 i) od (by omega) (by omega)]
      exact kN_max _ _ _ _
    · exact Nat.le_refl _
  have b3 := gaN_le k q o od p i
  have b4 := gaN_le k q o od 300 i
  have b5 := loN_le k q o od p i
  have b6 := loN_le k q o od 300 i
  rw [nI_leI (by omega) (by omega), nI_eq (by omega) (by omega)]
  omega
theorem getsAt_e {F n i : Nat} (hF : n < F) (hn : n ≤ 5) (hi : i < n) (h : Nat) (p : Int32) (H K Q ah ge : Nat → Int32) (l0 : Int32) :
    ∃ r, f_X1_getsAt F (nI i) (nI h) p (nI n) H K Q l0 ah ge = some r ∧ r.1 = gE K Q H n p h i := ⟨_, getsAt_x hF hn hi _ _ _ _ _ _ _ _, rfl⟩
theorem ample10_s {F n p : Nat} {K Q H : Nat → Int32} (hF : 200 < F) (hn : n ≤ 5) (hp : p < 100) (hw : ∀ i, i < n → (∃ a : Nat, K i = nI a ∧ a ≤ 5) ∧ (∃ a : Nat, Q i = nI a ∧ 1 ≤ a ∧ a ≤ 20)) (K2 : Int32 → Int32 → (Nat → Int32) → (Nat → Int32) → Option (Int32 × Int32 × (Nat → Int32) × (Nat → Int32))) (h : Nat) {k m : Nat} (s : Int32 × (Nat → Int32) × (Nat → Int32)) (hk : k < n) :
    ∃ s', f_X4_isAmple_b10 F (nI p) (nI n) H K Q K2 (m + 1) (nI h) (nI k) s.1 s.2.1 s.2.2 = if eB K Q H n (nI p) h k = true then f_X4_isAmple_b10 F (nI p) (nI n) H K Q K2 m (nI h) (nI (k + 1)) s'.1 s'.2.1 s'.2.2 else some (0, s') := by
  obtain ⟨r1, a1, a2⟩ := getsAt_e (F := F) (by omega) hn hk h (nI p) H K Q s.2.1 s.2.2 s.1
  obtain ⟨r2, b1, b2⟩ := getsAt_e (F := F) (by omega) hn hk h 300 H K Q r1.2.2.1 r1.2.2.2 r1.2.1
  refine ⟨r2.2, ?_⟩
  rw [f_X4_isAmple_b10, if_neg (nI_ge hk (by omega)), a1, Option.bind_some, b1, Option.bind_some, a2, b2]
  by_cases hc : eB K Q H n (nI p) h k = true
  · rw [if_pos hc, if_pos ((gE_le hk hn hp hw).mpr hc), nI_1]
  · rw [if_neg hc, if_neg (fun z => hc ((gE_le hk hn hp hw).mp z))]
theorem ample10_T {F n p : Nat} {K Q H : Nat → Int32} (hF : 200 < F) (hn : n ≤ 5) (hp : p < 100) (hw : ∀ i, i < n → (∃ a : Nat, K i = nI a ∧ a ≤ 5) ∧ (∃ a : Nat, Q i = nI a ∧ 1 ≤ a ∧ a ≤ 20)) (K2 : Int32 → Int32 → (Nat → Int32) → (Nat → Int32) → Option (Int32 × Int32 × (Nat → Int32) × (Nat → Int32))) (h : Nat) (s : Int32 × (Nat → Int32) × (Nat → Int32)) (hf : al (eB K Q H n (nI p) h) n = true) :
    ∃ s' : Int32 × (Nat → Int32) × (Nat → Int32), f_X4_isAmple_b10 F (nI p) (nI n) H K Q K2 F (nI h) 0 s.1 s.2.1 s.2.2 = K2 (nI (h + 1)) s'.1 s'.2.1 s'.2.2 := by
  refine loopT (fun m k s => f_X4_isAmple_b10 F (nI p) (nI n) H K Q K2 m (nI h) (nI k) s.1 s.2.1 s.2.2) (eB K Q H n (nI p) h) (fun o => ∃ s' : Int32 × (Nat → Int32) × (Nat → Int32), o = K2 (nI (h + 1)) s'.1 s'.2.1 s'.2.2) n hf ?_ ?_ F s (by omega)
  · intro k m s hk hb
    obtain ⟨s', e⟩ := ample10_s hF hn hp hw K2 h (m := m) s hk
    rw [if_pos hb] at e
    exact ⟨s', e⟩
  · intro m s
    refine ⟨s, ?_⟩
    show f_X4_isAmple_b10 F (nI p) (nI n) H K Q K2 (m + 1) (nI h) (nI n) s.1 s.2.1 s.2.2 = _
    rw [f_X4_isAmple_b10, if_pos (nI_le (Nat.le_refl _) (by omega)), nI_1]
theorem ample10_F {F n p : Nat} {K Q H : Nat → Int32} (hF : 200 < F) (hn : n ≤ 5) (hp : p < 100) (hw : ∀ i, i < n → (∃ a : Nat, K i = nI a ∧ a ≤ 5) ∧ (∃ a : Nat, Q i = nI a ∧ 1 ≤ a ∧ a ≤ 20)) (K2 : Int32 → Int32 → (Nat → Int32) → (Nat → Int32) → Option (Int32 × Int32 × (Nat → Int32) × (Nat → Int32))) (h : Nat) (s : Int32 × (Nat → Int32) × (Nat → Int32)) (hf : al (eB K Q H n (nI p) h) n = false) :
    ∃ s' : Int32 × (Nat → Int32) × (Nat → Int32), f_X4_isAmple_b10 F (nI p) (nI n) H K Q K2 F (nI h) 0 s.1 s.2.1 s.2.2 = some (0, s') := by
  refine loopF (fun m k s => f_X4_isAmple_b10 F (nI p) (nI n) H K Q K2 m (nI h) (nI k) s.1 s.2.1 s.2.2) (eB K Q H n (nI p) h) (fun o => ∃ s' : Int32 × (Nat → Int32) × (Nat → Int32), o = some (0, s')) n hf ?_ ?_ F s (by omega)
  · intro k m s hk hb
    obtain ⟨s', e⟩ := ample10_s hF hn hp hw K2 h (m := m) s hk
    rw [if_pos hb] at e
    exact ⟨s', e⟩
  · intro k m s hk hb
    obtain ⟨s', e⟩ := ample10_s hF hn hp hw K2 h (m := m) s hk
    rw [if_neg (by rw [hb]; decide)] at e
    exact ⟨s', e⟩
/-- all get as much as they may -/
theorem isAmple_x {F n p : Nat} {K Q H : Nat → Int32} (hF : 200 < F) (hn : n ≤ 5) (hp : p < 100) (hw : ∀ i, i < n → (∃ a : Nat, K i = nI a ∧ a ≤ 5) ∧ (∃ a : Nat, Q i = nI a ∧ 1 ≤ a ∧ a ≤ 20)) (s : Int32 × (Nat → Int32) × (Nat → Int32)) : ∃ r, f_X4_isAmple F (nI p) (nI n) H K Q s.1 s.2.1 s.2.2 = some r ∧ r.1 = if al (fun h => al (eB K Q H n (nI p) h) n) 8 = true then 1 else 0 := by
  unfold f_X4_isAmple
  cases hf : al (fun h => al (eB K Q H n (nI p) h) n) 8 with
  | true =>
    refine loopT (fun m k s => f_X4_isAmple_b2 F (nI p) (nI n) H K Q m (nI k) s.1 s.2.1 s.2.2) (fun h => al (eB K Q H n (nI p) h) n) (fun o => ∃ r, o = some r ∧ r.1 = if true = true then 1 else 0) 8 hf ?_ ?_ F s (by omega)
    · intro k m s hk hb
      obtain ⟨s', e⟩ := ample10_T hF hn hp hw (f_X4_isAmple_b2 F (nI p) (nI n) H K Q m) k s hb
      refine ⟨s', ?_⟩
      show f_X4_isAmple_b2 F (nI p) (nI n) H K Q (m + 1) (nI k) s.1 s.2.1 s.2.2 = _
      rw [f_X4_isAmple_b2, if_neg (show ¬ (8 : Int32) ≤ nI k from nI_ge (b := 8) hk (by omega)), e]
    · intro m s
      refine ⟨(1, s), ?_, rfl⟩
      show f_X4_isAmple_b2 F (nI p) (nI n) H K Q (m + 1) (nI 8) s.1 s.2.1 s.2.2 = _
      rw [f_X4_isAmple_b2, if_pos (show (8 : Int32) ≤ nI 8 by decide)]
  | false =>
    refine loopF (fun m k s => f_X4_isAmple_b2 F (nI p) (nI n) H K Q m (nI k) s.1 s.2.1 s.2.2) (fun h => al (eB K Q H n (nI p) h) n) (fun o => ∃ r, o = some r ∧ r.1 = if false = true then 1 else 0) 8 hf ?_ ?_ F s (by omega)
    · intro k m s hk hb
      obtain ⟨s', e⟩ := ample10_T hF hn hp hw (f_X4_isAmple_b2 F (nI p) (nI n) H K Q m) k s hb
      refine ⟨s', ?_⟩
      show f_X4_isAmple_b2 F (nI p) (nI n) H K Q (m + 1) (nI k) s.1 s.2.1 s.2.2 = _
      rw [f_X4_isAmple_b2, if_neg (show ¬ (8 : Int32) ≤ nI k from nI_ge (b := 8) hk (by omega)), e]
    · intro k m s hk hb
      obtain ⟨s', e⟩ := ample10_F hF hn hp hw (f_X4_isAmple_b2 F (nI p) (nI n) H K Q m) k s hb
      refine ⟨(0, s'), ?_, rfl⟩
      show f_X4_isAmple_b2 F (nI p) (nI n) H K Q (m + 1) (nI k) s.1 s.2.1 s.2.2 = _
      rw [f_X4_isAmple_b2, if_neg (show ¬ (8 : Int32) ≤ nI k from nI_ge (b := 8) hk (by omega)), e]
/-- a yes or no, as the reference keeps it -/
def fl (b : Bool) : Int32 := if b = true then 1 else 0
theorem fl_0 {b : Bool} : fl b = 0 ↔ b = false := by cases b <;> decide
theorem gE_m {F n : Nat} {K Q H told : Nat → Int32} (hF : 200 < F) (hn : n ≤ 5) (h0 : told 0 = nI n) (hw : ∀ j, j < n → told (26 + j) = K j ∧ told (19 + j) = Q j ∧ told (14 + j) = H j) (h i : Nat) (hi : i < n) (p : Int32) : ga (fun i => told (26 + i)) (fun i => told (19 + i)) (nI h) (op (fun i => told (14 + i)) (nI h) n) p i = gE K Q H n p h i :=
  ga_same hn hi (fun j hj => hw j hj) (nI h) p
theorem least105_m {F n : Nat} {K Q H told M : Nat → Int32} (hF : 200 < F) (hn : n ≤ 5) (h0 : told 0 = nI n) (hw : ∀ j, j < n → told (26 + j) = K j ∧ told (19 + j) = Q j ∧ told (14 + j) = H j) (hM : ∀ h i, h < 8 → i < n → M (5 * h + i) = gE K Q H n 300 h i) (K78 : Int32 → Int32 → Int32 → Int32 → (Nat → Int32) → (Nat → Int32) → (Nat → Int32) → Option (Int32 × Int32 × (Nat → Int32) × (Nat → Int32) × (Nat → Int32))) (p : Int32) (b : Bool) {h : Nat} (hh : h < 8) (lb : Int32) (ah ge : Nat → Int32) (hge : ∀ i, i < n → ge i = gE K Q H n p h i) :
    f_X5_least_b105 F told K78 F p (fl b) (nI h) 0 lb ah ge M = K78 p (fl (b && al (eB K Q H n p h) n)) (nI (h + 1)) lb ah ge M := by
  have key := loopN (fun m k => f_X5_least_b105 F told K78 m p (fl (b && al (eB K Q H n p h) k)) (nI h) (nI k) lb ah ge M) (K78 p (fl (b && al (eB K Q H n p h) n)) (nI (h + 1)) lb ah ge M) n ?_ ?_ F (by omega)
  · simpa only [al, Bool.and_true, z0n] using key
  · intro k m hk
    show f_X5_least_b105 F told K78 (m + 1) p (fl (b && al (eB K Q H n p h) k)) (nI h) (nI k) lb ah ge M = f_X5_least_b105 F told K78 m p (fl (b && (al (eB K Q H n p h) k && eB K Q H n p h k))) (nI h) (nI (k + 1)) lb ah ge M
    rw [f_X5_least_b105, many_m, Option.bind_some, h0, if_neg (nI_ge hk (by omega)), ← Bool.and_assoc]
    generalize (b && al (eB K Q H n p h) k) = c
    unfold f_X5_least_b143 f_X5_least_b144
    cases c with
    | false =>
      rw [if_pos (show fl false = 0 by decide), Bool.false_and, nI_1]
      rfl
    | true =>
      rw [if_neg (show ¬ fl true = 0 by decide), chk_t (ix_n (by omega) (by omega)), show (5 : Int32) * nI h = nI (5 * h) from pk_mul 5 h, nI_add, chk_t (ix_n (by omega) (by omega)), cl_n (by omega), cl_n (by omega), hge k hk, hM h k hh hk, Bool.true_and, nI_1]
      cases hc : eB K Q H n p h k with
      | true => rw [if_pos (decide_eq_true_iff.mp hc)]; rfl
      | false => rw [if_neg (decide_eq_false_iff_not.mp hc)]; rfl
  · intro m
    show f_X5_least_b105 F told K78 (m + 1) p (fl (b && al (eB K Q H n p h) n)) (nI h) (nI n) lb ah ge M = _
    rw [f_X5_least_b105, many_m, Option.bind_some, h0, if_pos (nI_le (Nat.le_refl _) (by omega)), nI_1]
theorem least78_m {F n : Nat} {K Q H told M : Nat → Int32} (hF : 200 < F) (hn : n ≤ 5) (h0 : told 0 = nI n) (hw : ∀ j, j < n → told (26 + j) = K j ∧ told (19 + j) = Q j ∧ told (14 + j) = H j) (hM : ∀ h i, h < 8 → i < n → M (5 * h + i) = gE K Q H n 300 h i) (K68 : Int32 → Int32 → (Nat → Int32) → (Nat → Int32) → (Nat → Int32) → Option (Int32 × Int32 × (Nat → Int32) × (Nat → Int32) × (Nat → Int32))) (p : Int32) (s : Int32 × (Nat → Int32) × (Nat → Int32)) :
    ∃ s' : Int32 × (Nat → Int32) × (Nat → Int32), f_X5_least_b78 F told K68 F p 1 0 s.1 s.2.1 s.2.2 M = if al (fun h => al (eB K Q H n p h) n) 8 = true then some (p, s'.1, s'.2.1, s'.2.2, M) else K68 (p + 1) s'.1 s'.2.1 s'.2.2 M := by
  have key : ∀ r k m (s : Int32 × (Nat → Int32) × (Nat → Int32)), k + r = 8 → r < m → ∃ s' : Int32 × (Nat → Int32) × (Nat → Int32), f_X5_least_b78 F told K68 m p (fl (al (fun h => al (eB K Q H n p h) n) k)) (nI k) s.1 s.2.1 s.2.2 M = if al (fun h => al (eB K Q H n p h) n) 8 = true then some (p, s'.1, s'.2.1, s'.2.2, M) else K68 (p + 1) s'.1 s'.2.1 s'.2.2 M := by
    intro r
    induction r with
    | zero =>
      intro k m s e hm
      obtain ⟨m, rfl⟩ : ∃ q, m = q + 1 := ⟨m - 1, by omega⟩
      obtain rfl : k = 8 := by omega
      refine ⟨s, ?_⟩
      rw [f_X5_least_b78, if_pos (show (8 : Int32) ≤ nI 8 by decide)]
      cases al (fun h => al (eB K Q H n p h) n) 8 with
      | true => rw [if_neg (show ¬ fl true = 0 by decide), if_pos rfl]
      | false => rw [if_pos (show fl false = 0 by decide), if_neg (by decide)]
    | succ r ih =>
      intro k m s e hm
      obtain ⟨m, rfl⟩ : ∃ q, m = q + 1 := ⟨m - 1, by omega⟩
      rw [f_X5_least_b78, if_neg (show ¬ (8 : Int32) ≤ nI k from nI_ge (b := 8) (by omega) (by omega)), openIn_m (n := n) (by omega) hn (by omega) (by omega) _ h0, Option.bind_some, goHour_m (by omega) hn (by omega) (by omega) (by omega) _ _ h0, Option.bind_some]
      dsimp only
      rw [least105_m hF hn h0 hw hM _ p _ (by omega) _ _ _ (fun i hi => (pre_in hi).trans (gE_m hF hn h0 hw k i hi p))]
      exact ih (k + 1) m (_, _, _) (by omega) (by omega)
  exact key 8 0 F s (by omega) (by omega)
theorem least30_m {F n : Nat} {K Q H told : Nat → Int32} (hF : 200 < F) (hn : n ≤ 5) (h0 : told 0 = nI n) (hw : ∀ j, j < n → told (26 + j) = K j ∧ told (19 + j) = Q j ∧ told (14 + j) = H j) (K2 : Int32 → Int32 → (Nat → Int32) → (Nat → Int32) → (Nat → Int32) → Option (Int32 × Int32 × (Nat → Int32) × (Nat → Int32) × (Nat → Int32))) {h : Nat} (hh : h < 8) (lb : Int32) (ah ge M : Nat → Int32) :
    ∃ M', f_X5_least_b30 F told K2 F (nI h) 0 lb ah ge M = K2 (nI (h + 1)) lb ah ge M' ∧ (∀ i, i < n → M' (5 * h + i) = ge i) ∧ ∀ j, j < 5 * h → M' j = M j := by
  have key : ∀ r k m M, k + r = n → r < m → ∃ M', f_X5_least_b30 F told K2 m (nI h) (nI k) lb ah ge M = K2 (nI (h + 1)) lb ah ge M' ∧ (∀ i, k ≤ i → i < n → M' (5 * h + i) = ge i) ∧ ∀ j, j < 5 * h + k → M' j = M j := by
    intro r
    induction r with
    | zero =>
      intro k m M e hm
      obtain ⟨m, rfl⟩ : ∃ q, m = q + 1 := ⟨m - 1, by omega⟩
      obtain rfl : k = n := by omega
      refine ⟨M, ?_, fun i h1 h2 => by omega, fun j _ => rfl⟩
      rw [f_X5_least_b30, many_m, Option.bind_some, h0, if_pos (nI_le (Nat.le_refl _) (by omega)), nI_1]
    | succ r ih =>
      intro k m M e hm
      obtain ⟨m, rfl⟩ : ∃ q, m = q + 1 := ⟨m - 1, by omega⟩
      rw [f_X5_least_b30, many_m, Option.bind_some, h0, if_neg (nI_ge (by omega) (by omega)), chk_t (ix_n (by omega) (by omega)), show (5 : Int32) * nI h = nI (5 * h) from pk_mul 5 h, nI_add, chk_t (ix_n (by omega) (by omega)), cl_n (by omega), cl_n (by omega), nI_1]
      obtain ⟨M', a, b, c⟩ := ih (k + 1) m (upd M (5 * h + k) (ge k)) (by omega) (by omega)
      refine ⟨M', a, fun i h1 h2 => ?_, fun j hj => ?_⟩
      · by_cases e : i = k
        · subst e
          rw [c (5 * h + i) (by omega), pk_us]
        · exact b i (by omega) h2
      · rw [c j (by omega), pk_un (by omega)]
  obtain ⟨M', a, b, c⟩ := key n 0 F M (by omega) (by omega)
  exact ⟨M', a, fun i hi => b i (by omega) hi, fun j hj => c j hj⟩
theorem least2_m {F n : Nat} {K Q H told : Nat → Int32} (hF : 200 < F) (hn : n ≤ 5) (h0 : told 0 = nI n) (hw : ∀ j, j < n → told (26 + j) = K j ∧ told (19 + j) = Q j ∧ told (14 + j) = H j) (s : Int32 × (Nat → Int32) × (Nat → Int32)) (M : Nat → Int32) :
    ∃ (s' : Int32 × (Nat → Int32) × (Nat → Int32)) (M' : Nat → Int32), f_X5_least F told s.1 s.2.1 s.2.2 M = f_X5_least_b68 F told F 0 s'.1 s'.2.1 s'.2.2 M' ∧ ∀ h i, h < 8 → i < n → M' (5 * h + i) = gE K Q H n 300 h i := by
  unfold f_X5_least
  have key : ∀ r k m (s : Int32 × (Nat → Int32) × (Nat → Int32)) (M : Nat → Int32), k + r = 8 → r < m → (∀ h i, h < k → i < n → M (5 * h + i) = gE K Q H n 300 h i) → ∃ (s' : Int32 × (Nat → Int32) × (Nat → Int32)) (M' : Nat → Int32), f_X5_least_b2 F told m (nI k) s.1 s.2.1 s.2.2 M = f_X5_least_b68 F told F 0 s'.1 s'.2.1 s'.2.2 M' ∧ ∀ h i, h < 8 → i < n → M' (5 * h + i) = gE K Q H n 300 h i := by
    intro r
    induction r with
    | zero =>
      intro k m s M e hm hI
      obtain ⟨m, rfl⟩ : ∃ q, m = q + 1 := ⟨m - 1, by omega⟩
      obtain rfl : k = 8 := by omega
      refine ⟨s, M, ?_, hI⟩
      rw [f_X5_least_b2, if_pos (show (8 : Int32) ≤ nI 8 by decide)]
    | succ r ih =>
      intro k m s M e hm hI
      obtain ⟨m, rfl⟩ : ∃ q, m = q + 1 := ⟨m - 1, by omega⟩
      rw [f_X5_least_b2, if_neg (show ¬ (8 : Int32) ≤ nI k from nI_ge (b := 8) (by omega) (by omega)), openIn_m (n := n) (by omega) hn (by omega) (by omega) _ h0, Option.bind_some, goHour_m (by omega) hn (by omega) (by omega) (by omega) _ _ h0, Option.bind_some]
      dsimp only
      obtain ⟨M', a, b, c⟩ := least30_m hF hn h0 hw (f_X5_least_b2 F told m) (h := k) (by omega) (lo (fun i => told (26 + i)) (fun i => told (19 + i)) (nI k) (op (fun i => told (14 + i)) (nI k) n) 300 n) (pre (lo (fun i => told (26 + i)) (fun i => told (19 + i)) (nI k) (op (fun i => told (14 + i)) (nI k) n) 300) s.2.1 n) (pre (ga (fun i => told (26 + i)) (fun i => told (19 + i)) (nI k) (op (fun i => told (14 + i)) (nI k) n) 300) s.2.2 n) M
      rw [a]
      refine ih (k + 1) m (_, _, _) M' (by omega) (by omega) (fun h i hh hi => ?_)
      by_cases e : h = k
      · subst e
        rw [b i hi, pre_in hi]
        exact gE_m hF hn h0 hw h i hi 300
      · rw [c _ (by omega)]
        exact hI h i (by omega) hi
  exact key 8 0 F s M (by omega) (by omega) (fun h i hh => absurd hh (Nat.not_lt_zero h))
theorem least_eq {F n : Nat} {K Q H told M : Nat → Int32} (hF : 200 < F) (hn : n ≤ 5) (h0 : told 0 = nI n) (hw : ∀ j, j < n → told (26 + j) = K j ∧ told (19 + j) = Q j ∧ told (14 + j) = H j) (hM : ∀ h i, h < 8 → i < n → M (5 * h + i) = gE K Q H n 300 h i) (hK : ∀ i, i < n → (∃ a : Nat, K i = nI a ∧ a ≤ 5) ∧ (∃ a : Nat, Q i = nI a ∧ 1 ≤ a ∧ a ≤ 20)) : ∀ r k m1 m2 (s z : Int32 × (Nat → Int32) × (Nat → Int32)), k + r = 100 → r < m1 → r < m2 →
    ∃ (ox : Int32 × Int32 × (Nat → Int32) × (Nat → Int32)) (om : Int32 × Int32 × (Nat → Int32) × (Nat → Int32) × (Nat → Int32)), f_X4_least_b2 F (nI n) H K Q m1 (nI k) s.1 s.2.1 s.2.2 = some ox ∧ f_X5_least_b68 F told m2 (nI k) z.1 z.2.1 z.2.2 M = some om ∧ ox.1 = om.1 := by
  intro r
  induction r with
  | zero =>
    intro k m1 m2 s z e h1 h2
    obtain ⟨m1, rfl⟩ : ∃ q, m1 = q + 1 := ⟨m1 - 1, by omega⟩
    obtain ⟨m2, rfl⟩ : ∃ q, m2 = q + 1 := ⟨m2 - 1, by omega⟩
    obtain rfl : k = 100 := by omega
    rw [f_X4_least_b2, if_pos (show (99 : Int32) < nI 100 by decide), f_X5_least_b68, if_pos (show (100 : Int32) ≤ nI 100 by decide)]
    exact ⟨_, _, rfl, rfl, rfl⟩
  | succ r ih =>
    intro k m1 m2 s z e h1 h2
    obtain ⟨m1, rfl⟩ : ∃ q, m1 = q + 1 := ⟨m1 - 1, by omega⟩
    obtain ⟨m2, rfl⟩ : ∃ q, m2 = q + 1 := ⟨m2 - 1, by omega⟩
    obtain ⟨rx, x1, x2⟩ := isAmple_x (F := F) (n := n) (p := k) (K := K) (Q := Q) (H := H) hF hn (by omega) hK s
    obtain ⟨z', y⟩ := least78_m hF hn h0 hw hM (f_X5_least_b68 F told m2) (nI k) z
    rw [f_X4_least_b2, if_neg (show ¬ (99 : Int32) < nI k from nI_nlt (a := 99) (by omega) (by omega)), x1, Option.bind_some, x2, f_X5_least_b68, if_neg (show ¬ (100 : Int32) ≤ nI k from nI_ge (b := 100) (by omega) (by omega)), y]
    cases al (fun h => al (eB K Q H n (nI k) h) n) 8 with
    | true =>
      rw [if_pos rfl, if_pos rfl, if_neg (by decide)]
      exact ⟨_, _, rfl, rfl, rfl⟩
    | false =>
      simp only [Bool.false_eq_true, reduceIte, eq_self, nI_1]
      exact ih (k + 1) m1 m2 rx.2 z' (by omega) (by omega) (by omega)
theorem rs_least : Rs_least := by
  unfold Rs_least
  intro x_above x_below x_bads x_nos x_fulls pressure day wells lefts notes undos leftOver kind wanted hours had due leftHour leftPressure note past ahead gets len text m_above m_below m_leftBehind m_bytesLong m_told m_refused m_gets m_ahead m_atMuch m_bytes hR
  obtain ⟨n, nl, nn, nu, d, p, ⟨rfl, hn, -⟩, ht, hw, -⟩ := id hR.1
  have hw' : ∀ j, j < n → m_told (26 + j) = kind j ∧ m_told (19 + j) = wanted j ∧ m_told (14 + j) = hours j := fun j hj => ⟨(hw j hj).2.2.1, (hw j hj).2.2.2.1, (hw j hj).2.2.2.2.1⟩
  obtain ⟨z, M, y1, y2⟩ := least2_m (F := FU) (ltF (by omega)) hn ht.1 hw' (m_leftBehind, m_ahead, m_gets) m_atMuch
  obtain ⟨ox, om, e1, e2, e3⟩ := least_eq (F := FU) (ltF (by omega)) hn ht.1 hw' y2 (fun i hi => ⟨(hw i hi).1, (hw i hi).2.1.1⟩) 100 0 FU FU (leftOver, ahead, gets) z (by omega) (ltF (by omega)) (ltF (by omega))
  rw [z0n] at e1 e2
  rw [y1]
  exact ⟨ox, om, e1, e2, e3, hR⟩

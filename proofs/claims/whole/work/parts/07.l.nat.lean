/-! PURE: what a kind gets, by natural numbers; loops that may end early -/
def kU (k p : Nat) (o : Bool) (pl up : Nat) : Nat := if k = 2 then up else if k = 3 then pl else if k = 4 then (if o then pl else 0) else if k = 5 then (if p < 2 * up then p else 2 * up) else pl
def kN (k q : Nat) (o : Bool) (p : Nat) : Nat := kU k p o (if p < q then p else q) (if 10 ≤ p then (if p < q then p else q) else (if p < q then p else q) / 2)
theorem kgU_N {k p pl up : Nat} (h : Int32) (hk : k < 100) (hp : p < 10000) (hl : pl < 10000) (hu : up < 10000) : kgU (nI k) h (nI p) (nI pl) (nI up) = nI (kU k p (decide ((h &&& 1) = 1)) pl up) := by
  unfold kgU kU
  rw [show (2 : Int32) = nI 2 from rfl, show (3 : Int32) = nI 3 from rfl, show (4 : Int32) = nI 4 from rfl, show (5 : Int32) = nI 5 from rfl, pk_mul]
  simp only [nI_eq (show k < 2 ^ 31 by omega) (show 2 < 2 ^ 31 by omega), nI_eq (show k < 2 ^ 31 by omega) (show 3 < 2 ^ 31 by omega), nI_eq (show k < 2 ^ 31 by omega) (show 4 < 2 ^ 31 by omega), nI_eq (show k < 2 ^ 31 by omega) (show 5 < 2 ^ 31 by omega), nI_ltI (show p < 2 ^ 31 by omega) (show 2 * up < 2 ^ 31 by omega), decide_eq_true_eq]
  split
  · rfl
  split
  · rfl
  split
  · split <;> rfl
  split
  · split <;> rfl
  · rfl
theorem kg_N {k q p : Nat} (h : Int32) (hk : k < 100) (hq : q < 10000) (hp : p < 10000) : kg (nI k) (nI q) h (nI p) = nI (kN k q (decide ((h &&& 1) = 1)) p) := by
  unfold kg kN
  rw [show (10 : Int32) = nI 10 from rfl, show (2 : Int32) = nI 2 from rfl]
  simp only [nI_ltI (show p < 2 ^ 31 by omega) (show q < 2 ^ 31 by omega), nI_leI (show 10 < 2 ^ 31 by omega) (show p < 2 ^ 31 by omega)]
  by_cases h1 : p < q
  · simp only [if_pos h1]
    rw [pk_div (by omega) (by omega) (by omega)]
    by_cases h2 : 10 ≤ p
    · simp only [if_pos h2]
      exact kgU_N h hk hp hp hp
    · simp only [if_neg h2]
      exact kgU_N h hk hp hp (by omega)
  · simp only [if_neg h1]
    rw [pk_div (by omega) (by omega) (by omega)]
    by_cases h2 : 10 ≤ p
    · simp only [if_pos h2]
      exact kgU_N h hk hp hq hq
    · simp only [if_neg h2]
      exact kgU_N h hk hp hq (by omega)
theorem kN_le (k q : Nat) (o : Bool) (p : Nat) : kN k q o p ≤ p := by
  unfold kN kU
  cases o <;> simp only [Bool.false_eq_true, if_true, if_false] <;> (repeat' split) <;> omega
/-- the most a kind gets -/
def kM (k q : Nat) (o : Bool) : Nat := if k = 4 then (if o then q else 0) else if k = 5 then 2 * q else q
theorem kN_max (k q : Nat) (o : Bool) (p : Nat) : kN k q o p ≤ kM k q o := by
  unfold kN kU kM
  cases o <;> simp only [Bool.false_eq_true, if_true, if_false] <;> (repeat' split) <;> omega
theorem kN_big {k q p : Nat} (o : Bool) (h : 2 * q ≤ p) (h10 : 10 ≤ p) : kN k q o p = kM k q o := by
  unfold kN kU kM
  cases o <;> simp only [Bool.false_eq_true, if_true, if_false] <;> (repeat' split) <;> omega
theorem kM_le (k q : Nat) (o : Bool) : kM k q o ≤ 2 * q := by
  unfold kM
  cases o <;> simp only [Bool.false_eq_true, if_true, if_false] <;> (repeat' split) <;> omega
/-- by natural numbers: what is left, what well i gets -/
def loN (k q : Nat → Nat) (op : Nat → Bool) (o : Bool) (p : Nat) : Nat → Nat
  | 0 => p
  | i + 1 => loN k q op o p i - (if op i then kN (k i) (q i) o (loN k q op o p i) else 0)
def gaN (k q : Nat → Nat) (op : Nat → Bool) (o : Bool) (p i : Nat) : Nat := if op i then kN (k i) (q i) o (loN k q op o p i) else 0
theorem loN_s (k q : Nat → Nat) (op : Nat → Bool) (o : Bool) (p i : Nat) : loN k q op o p (i + 1) = loN k q op o p i - gaN k q op o p i := rfl
theorem gaN_le (k q : Nat → Nat) (op : Nat → Bool) (o : Bool) (p i : Nat) : gaN k q op o p i ≤ loN k q op o p i := by
  unfold gaN
  split
  · exact kN_le _ _ _ _
  · omega
theorem loN_le (k q : Nat → Nat) (op : Nat → Bool) (o : Bool) (p : Nat) : ∀ i, loN k q op o p i ≤ p
  | 0 => Nat.le_refl p
  | i + 1 => by
    rw [loN_s]
    have := loN_le k q op o p i
    omega
theorem lo_N {K Q : Nat → Int32} {h o : Int32} {p : Nat} {k q : Nat → Nat} {op : Nat → Bool} (hp : p < 10000) : ∀ {n : Nat}, (∀ i, i < n → K i = nI (k i) ∧ k i ≤ 5 ∧ Q i = nI (q i) ∧ q i ≤ 20 ∧ (op i = true ↔ ((o >>> (nI i &&& 31)) &&& 1) = 1)) → lo K Q h o (nI p) n = nI (loN k q op (decide ((h &&& 1) = 1)) p n)
  | 0, _ => rfl
  | n + 1, H => by
    obtain ⟨h1, h2, h3, h4, h5⟩ := H n (by omega)
    have hl := loN_le k q op (decide ((h &&& 1) = 1)) p n
    have hg := kN_le (k n) (q n) (decide ((h &&& 1) = 1)) (loN k q op (decide ((h &&& 1) = 1)) p n)
    unfold lo loN
    rw [lo_N hp (n := n) (fun i hi => H i (by omega)), h1, h3]
    by_cases hb : ((o >>> (nI n &&& 31)) &&& 1) = 1
    · rw [if_pos hb, if_pos (h5.mpr hb), kg_N h (by omega) (by omega) (by omega), pk_sub hg]
    · rw [if_neg hb, if_neg (fun z => hb (h5.mp z))]
      exact Int32.sub_zero _
theorem ga_N {K Q : Nat → Int32} {h o : Int32} {p : Nat} {k q : Nat → Nat} {op : Nat → Bool} (hp : p < 10000) {n i : Nat} (hi : i < n) (H : ∀ i, i < n → K i = nI (k i) ∧ k i ≤ 5 ∧ Q i = nI (q i) ∧ q i ≤ 20 ∧ (op i = true ↔ ((o >>> (nI i &&& 31)) &&& 1) = 1)) : ga K Q h o (nI p) i = nI (gaN k q op (decide ((h &&& 1) = 1)) p i) := by
  obtain ⟨h1, h2, h3, h4, h5⟩ := H i hi
  have hl := loN_le k q op (decide ((h &&& 1) = 1)) p i
  unfold ga gaN
  rw [lo_N hp (n := i) (fun j hj => H j (by omega)), h1, h3]
  by_cases hb : ((o >>> (nI i &&& 31)) &&& 1) = 1
  · rw [if_pos hb, if_pos (h5.mpr hb), kg_N h (by omega) (by omega) (by omega)]
  · rw [if_neg hb, if_neg (fun z => hb (h5.mp z))]
    rfl
/-- kinds and what is wanted, by natural numbers -/
theorem pick2 {n : Nat} {K Q : Nat → Int32} (hw : ∀ i, i < n → (∃ a : Nat, K i = nI a ∧ a ≤ 5) ∧ (∃ a : Nat, Q i = nI a ∧ 1 ≤ a ∧ a ≤ 20)) : ∃ k q : Nat → Nat, ∀ i, i < n → K i = nI (k i) ∧ k i ≤ 5 ∧ Q i = nI (q i) ∧ 1 ≤ q i ∧ q i ≤ 20 := by
  refine ⟨fun i => (K i).toNatClampNeg, fun i => (Q i).toNatClampNeg, fun i hi => ?_⟩
  obtain ⟨⟨a, ha, ha5⟩, b, hb, hb1, hb2⟩ := hw i hi
  dsimp only
  rw [ha, hb, cl_n (by omega), cl_n (by omega)]
  exact ⟨rfl, ha5, rfl, hb1, hb2⟩
/-- all of the first n -/
def al (f : Nat → Bool) : Nat → Bool
  | 0 => true
  | n + 1 => al f n && f n
theorem al_iff {f : Nat → Bool} : ∀ {n : Nat}, al f n = true ↔ ∀ i, i < n → f i = true
  | 0 => ⟨fun _ i hi => absurd hi (Nat.not_lt_zero i), fun _ => rfl⟩
  | n + 1 => by
    unfold al
    rw [Bool.and_eq_true, al_iff (n := n)]
    constructor
    · intro h i hi
      by_cases e : i = n
      · subst e; exact h.2
      · exact h.1 i (by omega)
    · intro h
      exact ⟨fun i hi => h i (by omega), h n (by omega)⟩
theorem loopT {σ α : Type} (X : Nat → Nat → σ → Option α) (f : Nat → Bool) (R : Option α → Prop) (n : Nat) (hf : al f n = true) (hstep : ∀ k m s, k < n → f k = true → ∃ s', X (m + 1) k s = X m (k + 1) s') (hexit : ∀ m s, R (X (m + 1) n s)) : ∀ F s, n < F → R (X F 0 s) := by
  have key : ∀ d k F s, k + d = n → d < F → R (X F k s) := by
    intro d
    induction d with
    | zero =>
      intro k F s e hF
      obtain ⟨m, rfl⟩ : ∃ m, F = m + 1 := ⟨F - 1, by omega⟩
      obtain rfl : k = n := by omega
      exact hexit m s
    | succ d ih =>
      intro k F s e hF
      obtain ⟨m, rfl⟩ : ∃ m, F = m + 1 := ⟨F - 1, by omega⟩
      obtain ⟨s', h1⟩ := hstep k m s (by omega) (al_iff.mp hf k (by omega))
      rw [h1]
      exact ih (k + 1) m s' (by omega) (by omega)
  intro F s hF
  exact key n 0 F s (by omega) hF
theorem loopF {σ α : Type} (X : Nat → Nat → σ → Option α) (f : Nat → Bool) (R : Option α → Prop) (n : Nat) (hf : al f n = false) (hstep : ∀ k m s, k < n → f k = true → ∃ s', X (m + 1) k s = X m (k + 1) s') (hstop : ∀ k m s, k < n → f k = false → R (X (m + 1) k s)) : ∀ F s, n < F → R (X F 0 s) := by
  have key : ∀ d k F s, k + d = n → d < F → (∀ i, i < k → f i = true) → R (X F k s) := by
    intro d
    induction d with
    | zero =>
      intro k F s e hF hk
      obtain rfl : k = n := by omega
      rw [al_iff.mpr hk] at hf
      exact absurd hf (by decide)
    | succ d ih =>
      intro k F s e hF hk
      obtain ⟨m, rfl⟩ : ∃ m, F = m + 1 := ⟨F - 1, by omega⟩
      cases hfk : f k with
      | false => exact hstop k m s (by omega) hfk
      | true =>
        obtain ⟨s', h1⟩ := hstep k m s (by omega) hfk
        rw [h1]
        refine ih (k + 1) m s' (by omega) (by omega) (fun i hi => ?_)
        by_cases e2 : i = k
        · subst e2; exact hfk
        · exact hk i (by omega)
  intro F s hF
  exact key n 0 F s (by omega) hF (fun i hi => absurd hi (Nat.not_lt_zero i))

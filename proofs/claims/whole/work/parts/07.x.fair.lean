/-! PURE: fair -/
theorem kN_mono {k q r p : Nat} (o : Bool) (h : r ≤ p) : kN k q o r ≤ kN k q o p := by
  unfold kN kU
  cases o <;> simp only [Bool.false_eq_true, if_true, if_false] <;> (repeat' split) <;> omega
/-- the most well i gets alone, in the first k hours -/
def mA (K Q : Nat → Int32) (p : Int32) (i : Nat) : Nat → Int32
  | 0 => 0
  | k + 1 => if mA K Q p i k < kg (K i) (Q i) (nI k) p then kg (K i) (Q i) (nI k) p else mA K Q p i k
theorem mA_ge {K Q : Nat → Int32} {p : Int32} {i h : Nat} : ∀ {k : Nat}, h < k → kg (K i) (Q i) (nI h) p ≤ mA K Q p i k
  | 0, hk => absurd hk (Nat.not_lt_zero h)
  | k + 1, hk => by
    unfold mA
    by_cases e : h = k
    · subst e
      by_cases c : mA K Q p i h < kg (K i) (Q i) (nI h) p
      · rw [if_pos c, i_le]; omega
      · rw [if_neg c]; rw [i_le]; rw [i_lt] at c; omega
    · have ih := mA_ge (K := K) (Q := Q) (p := p) (i := i) (h := h) (k := k) (by omega)
      by_cases c : mA K Q p i k < kg (K i) (Q i) (nI k) p
      · rw [if_pos c]; rw [i_le] at *; rw [i_lt] at c; omega
      · rw [if_neg c]; exact ih
theorem best_x {F i : Nat} (hF : 200 < F) (hi : i < 5) (p : Int32) (K Q : Nat → Int32) : f_X3_bestAlone F (nI i) p K Q = some (mA K Q p i 8) := by
  unfold f_X3_bestAlone
  refine loopN (fun m k => f_X3_bestAlone_b4 F (nI i) p K Q m (mA K Q p i k) (nI k)) _ 8 ?_ ?_ F (by omega)
  · intro k m hk
    show f_X3_bestAlone_b4 F (nI i) p K Q (m + 1) (mA K Q p i k) (nI k) = f_X3_bestAlone_b4 F (nI i) p K Q m (if mA K Q p i k < kg (K i) (Q i) (nI k) p then kg (K i) (Q i) (nI k) p else mA K Q p i k) (nI (k + 1))
    rw [f_X3_bestAlone_b4, if_neg (show ¬ (8 : Int32) ≤ nI k from nI_ge (b := 8) hk (by omega)), chk_t (ix_n hi (by omega)), chk_t (ix_n hi (by omega)), cl_n (by omega), kg_x, Option.bind_some, nI_1]
  · intro m
    show f_X3_bestAlone_b4 F (nI i) p K Q (m + 1) _ (nI 8) = _
    rw [f_X3_bestAlone_b4, if_pos (show (8 : Int32) ≤ nI 8 by decide)]
theorem best_m {F i : Nat} (hF : 200 < F) (hi : i < 5) {p : Int32} {K Q told : Nat → Int32} (h24 : told 24 = p) (h1 : told (26 + i) = K i) (h2 : told (19 + i) = Q i) : f_X5_bestAlone F (nI i) told = some (mA K Q p i 8) := by
  unfold f_X5_bestAlone
  refine loopN (fun m k => f_X5_bestAlone_b4 F (nI i) told m (mA K Q p i k) (nI k)) _ 8 ?_ ?_ F (by omega)
  · intro k m hk
    show f_X5_bestAlone_b4 F (nI i) told (m + 1) (mA K Q p i k) (nI k) = f_X5_bestAlone_b4 F (nI i) told m (if mA K Q p i k < kg (K i) (Q i) (nI k) p then kg (K i) (Q i) (nI k) p else mA K Q p i k) (nI (k + 1))
    rw [f_X5_bestAlone_b4, if_neg (show ¬ (8 : Int32) ≤ nI k from nI_ge (b := 8) hk (by omega)), show (26 : Int32) + nI i = nI (26 + i) from nI_add 26 i, show (19 : Int32) + nI i = nI (19 + i) from nI_add 19 i, chk_t (ix_n (by omega) (by omega)), chk_t (ix_n (by omega) (by omega)), chk_t (by decide), cl_n (show 26 + i < 2 ^ 31 by omega), cl_n (show 19 + i < 2 ^ 31 by omega), show told (24 : Int32).toNatClampNeg = p from h24, h1, h2, kg_m F _ _ _ hk, Option.bind_some]
    unfold f_X5_bestAlone_b53
    rw [nI_1]
    by_cases c : kg (K i) (Q i) (nI k) p ≤ mA K Q p i k
    · rw [if_pos c, if_neg (fun z => (lt_nle _ _).mpr z c)]
    · rw [if_neg c, if_pos ((lt_nle _ _).mp c)]
  · intro m
    show f_X5_bestAlone_b4 F (nI i) told (m + 1) _ (nI 8) = _
    rw [f_X5_bestAlone_b4, if_pos (show (8 : Int32) ≤ nI 8 by decide)]
theorem gW_mA {n p i : Nat} {K Q : Nat → Int32} (hp : p < 10000) (hw : ∀ i, i < n → (∃ a : Nat, K i = nI a ∧ a ≤ 5) ∧ (∃ a : Nat, Q i = nI a ∧ 1 ≤ a ∧ a ≤ 20)) (w : Nat → Nat) (hi : i < n) (hw8 : w i < 8) : gW K Q (nI p) w i ≤ mA K Q (nI p) i 8 := by
  have h1 := mA_ge (K := K) (Q := Q) (p := nI p) (i := i) hw8
  obtain ⟨r, r1, r2⟩ := rsW_N hp hw w (w i) i (by omega)
  obtain ⟨⟨k, ek, hk⟩, q, eq, -, hq⟩ := hw i hi
  unfold gW
  rw [r2]
  rw [ek, eq] at h1 ⊢
  rw [kg_N _ (by omega) (by omega) hp] at h1
  rw [kg_N _ (by omega) (by omega) (by omega)]
  have m := kN_mono (k := k) (q := q) (decide ((nI (w i) &&& 1) = 1)) r1
  have l := kN_le k q (decide ((nI (w i) &&& 1) = 1)) p
  have h2 : nI (kN k q (decide ((nI (w i) &&& 1) = 1)) r) ≤ nI (kN k q (decide ((nI (w i) &&& 1) = 1)) p) := nI_le m (by omega)
  rw [i_le] at *
  omega
def kdN (k g : Nat) : Nat := if k = 1 then 2 * g else if k = 2 then g else if k = 3 then 0 else if k = 4 then 2 * g else if k = 5 then (if g < 1 then g else g + 1) else g
theorem kd_N : ∀ (k : Fin 6) (g : Fin 41), kd (nI k.val) (nI g.val) = nI (kdN k.val g.val) ∧ kdN k.val g.val ≤ 80 := by decide +kernel
theorem kd_80 {n p i : Nat} {K Q : Nat → Int32} (hp : p < 10000) (hw : ∀ i, i < n → (∃ a : Nat, K i = nI a ∧ a ≤ 5) ∧ (∃ a : Nat, Q i = nI a ∧ 1 ≤ a ∧ a ≤ 20)) (w : Nat → Nat) (hi : i < n) : ∃ D, D ≤ 80 ∧ kd (K i) (gW K Q (nI p) w i) = nI D := by
  obtain ⟨g, g1, g2⟩ := gW_40 hp hw w hi
  obtain ⟨⟨k, ek, hk⟩, -⟩ := hw i hi
  obtain ⟨a, b⟩ := kd_N ⟨k, by omega⟩ ⟨g, by omega⟩
  exact ⟨_, b, by rw [g2, ek]; exact a⟩
theorem leastDue_x {F n : Nat} (hF : 200 < F) (hn : n ≤ 5) (p : Int32) (K Q mg : Nat → Int32) (f bw bd : Int32) (rest way bway : Nat → Int32) :
    ∃ r, f_X3_leastDue F p (nI n) K Q f bw bd rest mg way bway = some r ∧ StR n (bpW (valF 1 K) (pre (fun i => mA K Q p i 8) mg n) K Q p n 0 (fun _ => 0)) r.1 r.2.1 r.2.2.2.2.2.2 := by
  unfold f_X3_leastDue
  obtain ⟨r, e1, e2⟩ := start_x (F := F) hF hn 1 p K Q (pre (fun i => mA K Q p i 8) mg n) f bw rest way bway
  have key := loopN (fun m k => f_X3_leastDue_b7 F p (nI n) K Q m (nI k) f bw 1 rest (pre (fun i => mA K Q p i 8) mg k) way bway) (some (r.1, r.2.1, 1, r.2.2.1, pre (fun i => mA K Q p i 8) mg n, r.2.2.2.1, r.2.2.2.2)) n ?_ ?_ F (by omega)
  · simp only [pre_0] at key
    exact ⟨_, key, e2⟩
  · intro k m hk
    show f_X3_leastDue_b7 F p (nI n) K Q (m + 1) (nI k) f bw 1 rest (pre (fun i => mA K Q p i 8) mg k) way bway = f_X3_leastDue_b7 F p (nI n) K Q m (nI (k + 1)) f bw 1 rest (pre (fun i => mA K Q p i 8) mg (k + 1)) way bway
    rw [f_X3_leastDue_b7, if_neg (nI_ge hk (by omega)), best_x hF (by omega), Option.bind_some, chk_t (ix_n (by omega) (by omega)), cl_n (by omega), nI_1, ← pre_s (fun i => mA K Q p i 8) mg k]
  · intro m
    show f_X3_leastDue_b7 F p (nI n) K Q (m + 1) (nI n) f bw 1 rest (pre (fun i => mA K Q p i 8) mg n) way bway = _
    rw [f_X3_leastDue_b7, if_pos (nI_le (Nat.le_refl _) (by omega)), e1, Option.bind_some]
theorem okB_iff {mg : Nat → Int32} {i : Nat} {g : Int32} (h : g ≤ mg i) : okB mg i g = true ↔ g = mg i := by
  unfold okB
  rw [Bool.not_eq_true', decide_eq_false_iff_not]
  rw [i_le] at h
  rw [i_lt, i_eq]
  omega
theorem dueIf_m {F n : Nat} (hF : 200 < F) (hn : n ≤ 5) {told K G mg og alone : Nat → Int32} (h0 : told 0 = nI n) (hK : ∀ j, j < n → told (26 + j) = K j) (hog : ∀ i, i < n → og i = G i) (hal : ∀ i, i < n → alone i = mg i) (hle : ∀ i, i < n → G i ≤ mg i) (hkd : ∀ i, i < n → ∃ D, D ≤ 80 ∧ kd (K i) (G i) = nI D) :
    ∃ D, D ≤ 400 ∧ sm (fun i => kd (K i) (G i)) n = nI D ∧ f_X5_dueIfFair F told og alone = some (if al (fun i => okB mg i (G i)) n = true then nI D else 1000000) := by
  obtain ⟨D, d1, d2⟩ := sm_N (f := fun i => kd (K i) (G i)) (b := 80) (n := n) hkd
  refine ⟨D, by omega, d2, ?_⟩
  unfold f_X5_dueIfFair
  have key : ∀ r k m x, k + r = n → r < m → x ≤ 1000080 * k → (al (fun i => okB mg i (G i)) k = true → nI x = sm (fun i => kd (K i) (G i)) k ∧ x ≤ 80 * k) → (al (fun i => okB mg i (G i)) k = false → 1000000 ≤ x) →
      f_X5_dueIfFair_b4 F told og alone m (nI x) (nI k) = some (if al (fun i => okB mg i (G i)) n = true then nI D else 1000000) := by
    intro r
    induction r with
    | zero =>
      intro k m x e hm hx h1 h2
      obtain ⟨m, rfl⟩ : ∃ q, m = q + 1 := ⟨m - 1, by omega⟩
      obtain rfl : k = n := by omega
      rw [f_X5_dueIfFair_b4, many_m, Option.bind_some, h0, if_pos (nI_le (Nat.le_refl _) (by omega))]
      cases hb : al (fun i => okB mg i (G i)) k with
      | true =>
        obtain ⟨a, b⟩ := h1 hb
        rw [if_neg (show ¬ (1000000 : Int32) ≤ nI x from nI_ge (b := 1000000) (by omega) (by omega)), if_pos rfl, a, d2]
      | false =>
        rw [if_pos (show (1000000 : Int32) ≤ nI x from nI_le (a := 1000000) (h2 hb) (by omega)), if_neg (by decide)]
    | succ r ih =>
      intro k m x e hm hx h1 h2
      obtain ⟨m, rfl⟩ : ∃ q, m = q + 1 := ⟨m - 1, by omega⟩
      obtain ⟨y, y1, y2⟩ := hkd k (by omega)
      have ho := okB_iff (mg := mg) (i := k) (g := G k) (hle k (by omega))
      rw [f_X5_dueIfFair_b4, many_m, Option.bind_some, h0, if_neg (nI_ge (by omega) (by omega)), chk_t (ix_n (by omega) (by omega)), chk_t (ix_n (by omega) (by omega)), cl_n (by omega), hog k (by omega), hal k (by omega)]
      unfold f_X5_dueIfFair_b51
      by_cases c : G k = mg k
      · rw [if_pos c, show (26 : Int32) + nI k = nI (26 + k) from nI_add 26 k, chk_t (ix_n (by omega) (by omega)), chk_t (ix_n (by omega) (by omega)), cl_n (show 26 + k < 2 ^ 31 by omega), hK k (by omega), kd_m, Option.bind_some, y2, nI_add, nI_1]
        refine ih (k + 1) m (x + y) (by omega) (by omega) (by omega) (fun ha => ?_) (fun ha => ?_)
        · rw [al, Bool.and_eq_true] at ha
          obtain ⟨a, b⟩ := h1 ha.1
          refine ⟨?_, by omega⟩
          show _ = sm (fun i => kd (K i) (G i)) k + kd (K k) (G k)
          rw [← a, y2, nI_add]
        · rw [al, ho.mpr c, Bool.and_true] at ha
          have := h2 ha
          omega
      · rw [if_neg c, show nI x + (1000000 : Int32) = nI (x + 1000000) from nI_add x 1000000, nI_1]
        refine ih (k + 1) m (x + 1000000) (by omega) (by omega) (by omega) (fun ha => ?_) (fun ha => by omega)
        rw [al, Bool.and_eq_true] at ha
        exact absurd (ho.mp ha.2) c
  exact key n 0 F 0 (by omega) (by omega) (by omega) (fun _ => ⟨rfl, by omega⟩) (fun z => absurd (show true = false from z) (by decide))
theorem neg_N {a : Nat} (h : a < 2 ^ 20) : (-(nI a)).toInt = -(a : Int) := by
  rw [← Int32.zero_sub]
  have := pk_sub_toInt (a := 0) (b := a) (by omega) (by omega)
  rw [show (0 : Int32) = nI 0 from rfl, this]
  omega
theorem sv_neg (K Q : Nat → Int32) (p : Int32) (w : Nat → Nat) : ∀ n, svW (valF 1 K) K Q p w n = -(sm (fun i => kd (K i) (gW K Q p w i)) n)
  | 0 => (by decide : (0 : Int32) = -0)
  | n + 1 => by
    show svW (valF 1 K) K Q p w n + valF 1 K n (gW K Q p w n) = -(sm (fun i => kd (K i) (gW K Q p w i)) n + kd (K n) (gW K Q p w n))
    rw [sv_neg K Q p w n, valF, if_neg (by decide)]
    generalize sm (fun i => kd (K i) (gW K Q p w i)) n = x
    generalize kd (K n) (gW K Q p w n) = y
    grind
def StF (n : Nat) (st : Option (Int32 × (Nat → Nat))) (v2 : Int32) (bo : Nat → Int32) : Prop :=
  match st with
  | none => v2 = 1000000
  | some x => (∃ D, D ≤ 400 ∧ v2 = nI D ∧ x.1 = -(nI D)) ∧ ∀ j, j < n → bo j = nI (x.2 j)
theorem fair83_m {F n : Nat} (hF : 200 < F) (hn : n ≤ 5) (a1 : Int32) {told : Nat → Int32} (h0 : told 0 = nI n) (K57 : Int32 → Int32 → Int32 → (Nat → Int32) → (Nat → Int32) → (Nat → Int32) → (Nat → Int32) → (Nat → Int32) → (Nat → Int32) → (Nat → Int32) → Option (Int32 × Int32 × (Nat → Int32) × (Nat → Int32) × (Nat → Int32) × (Nat → Int32) × (Nat → Int32) × (Nat → Int32) × (Nat → Int32))) (v2 v3 v4 lb : Int32) (rf alone bo own ah ge og : Nat → Int32) :
    f_X5_fair_b83 F a1 told K57 F v2 v3 v4 0 lb rf alone bo own ah ge og = if v2 ≤ v4 then K57 v2 (v3 + 1) lb rf alone bo own ah ge og else K57 v4 (v3 + 1) lb rf alone (pre own bo n) own ah ge og := by
  by_cases c : v2 ≤ v4
  · obtain ⟨m, rfl⟩ : ∃ q, F = q + 1 := ⟨F - 1, by omega⟩
    rw [if_pos c, f_X5_fair_b83, many_m, Option.bind_some]
    unfold f_X5_fair_b118 f_X5_fair_b130
    rw [if_pos c, if_pos c]
    split <;> rfl
  · rw [if_neg c]
    have key := loopN (fun m k => f_X5_fair_b83 F a1 told K57 m v2 v3 v4 (nI k) lb rf alone (pre own bo k) own ah ge og) (K57 v4 (v3 + 1) lb rf alone (pre own bo n) own ah ge og) n ?_ ?_ F (by omega)
    · simpa only [pre_0, z0n] using key
    · intro k m hk
      show f_X5_fair_b83 F a1 told K57 (m + 1) v2 v3 v4 (nI k) lb rf alone (pre own bo k) own ah ge og = f_X5_fair_b83 F a1 told K57 m v2 v3 v4 (nI (k + 1)) lb rf alone (pre own bo (k + 1)) own ah ge og
      rw [f_X5_fair_b83, many_m, Option.bind_some, h0, if_neg (nI_ge hk (by omega)), if_neg c, chk_t (ix_n (by omega) (by omega)), chk_t (ix_n (by omega) (by omega)), cl_n (by omega), nI_1, ← pre_s own bo k]
    · intro m
      show f_X5_fair_b83 F a1 told K57 (m + 1) v2 v3 v4 (nI n) lb rf alone (pre own bo n) own ah ge og = _
      rw [f_X5_fair_b83, many_m, Option.bind_some, h0, if_pos (nI_le (Nat.le_refl _) (by omega))]
      unfold f_X5_fair_b118 f_X5_fair_b130
      rw [if_neg c]
theorem StF_step {n : Nat} {st : Option (Int32 × (Nat → Nat))} {v2 : Int32} {bo : Nat → Int32} (h : StF n st v2 bo) {D : Nat} (hD : D ≤ 400) (ok : Bool) {w : Nat → Nat} {own : Nat → Int32} (how : ∀ j, j < n → own j = nI (w j)) :
    StF n (cmb st (if ok = true then some (-(nI D), w) else none)) (if v2 ≤ (if ok = true then nI D else 1000000) then v2 else (if ok = true then nI D else 1000000)) (if v2 ≤ (if ok = true then nI D else 1000000) then bo else pre own bo n) := by
  have hnew : StF n (some (-(nI D), w)) (nI D) (pre own bo n) := ⟨⟨D, hD, rfl, rfl⟩, fun j hj => (pre_in hj).trans (how j hj)⟩
  cases st with
  | none =>
    have h' : v2 = 1000000 := h
    cases ok with
    | true =>
      have c : ¬ v2 ≤ nI D := by rw [h']; exact nI_ge (b := 1000000) (by omega) (by omega)
      simp only [if_true]
      rw [if_neg c, if_neg c]
      exact hnew
    | false =>
      simp only [Bool.false_eq_true, if_false]
      rw [if_pos (by rw [h']; decide), if_pos (by rw [h']; decide)]
      exact h
  | some x =>
    obtain ⟨⟨E, hE, h1, h2⟩, h3⟩ := h
    cases ok with
    | true =>
      simp only [if_true]
      show StF n (if x.1 < -(nI D) then some (-(nI D), w) else some x) _ _
      rw [h1, h2]
      by_cases c : E ≤ D
      · rw [if_pos (nI_le c (by omega)), if_pos (nI_le c (by omega)), if_neg (by rw [i_lt, neg_N (by omega), neg_N (by omega)]; omega)]
        exact ⟨⟨E, hE, rfl, h2⟩, h3⟩
      · rw [if_neg (nI_ge (by omega) (by omega)), if_neg (nI_ge (by omega) (by omega)), if_pos (by rw [i_lt, neg_N (by omega), neg_N (by omega)]; omega)]
        exact hnew
    | false =>
      simp only [Bool.false_eq_true, if_false]
      have c : v2 ≤ (1000000 : Int32) := by rw [h1]; exact nI_le (b := 1000000) (by omega) (by omega)
      rw [if_pos c, if_pos c, cmb_none]
      exact ⟨⟨E, hE, h1, h2⟩, h3⟩
theorem fair57_m {F n p : Nat} (hF : 40000 < F) (hn : n ≤ 5) (hp : p < 10000) (a1 : Int32) {told K Q mg : Nat → Int32} (h0 : told 0 = nI n) (h24 : told 24 = nI p) (hw : ∀ j, j < n → told (26 + j) = K j ∧ told (19 + j) = Q j) (hK : ∀ i, i < n → (∃ a : Nat, K i = nI a ∧ a ≤ 5) ∧ (∃ a : Nat, Q i = nI a ∧ 1 ≤ a ∧ a ≤ 20)) (hmg : ∀ i, i < n → mg i = mA K Q (nI p) i 8) (rf : Nat → Int32) {alone : Nat → Int32} (hal : ∀ i, i < n → alone i = mA K Q (nI p) i 8) (s : Int32 × (Nat → Int32) × (Nat → Int32) × (Nat → Int32) × (Nat → Int32)) (bo : Nat → Int32) :
    ∃ (z : Int32 × (Nat → Int32) × (Nat → Int32) × (Nat → Int32) × (Nat → Int32)) (v2 : Int32) (bo' : Nat → Int32), StF n (bpW (valF 1 K) mg K Q (nI p) n 0 (fun _ => 0)) v2 bo' ∧
      f_X5_fair_b57 F a1 told F 1000000 0 s.1 rf alone bo s.2.1 s.2.2.1 s.2.2.2.1 s.2.2.2.2 = if v2 = 1000000 then some (-1, z.1, rf, alone, bo', z.2.1, z.2.2.1, z.2.2.2.1, z.2.2.2.2) else if a1 = -1 then some (v2, z.1, rf, alone, bo', z.2.1, z.2.2.1, z.2.2.2.1, z.2.2.2.2) else chk (ix a1 5) (some (bo' a1.toNatClampNeg, z.1, rf, alone, bo', z.2.1, z.2.2.1, z.2.2.2.1, z.2.2.2.2)) := by
  obtain ⟨p1, p2⟩ := pow8 hn
  have ev := ev_8 ⟨n, by omega⟩
  dsimp only at ev
  rw [bp_codes0]
  have key : ∀ r k m v2 bo (s : Int32 × (Nat → Int32) × (Nat → Int32) × (Nat → Int32) × (Nat → Int32)), k + r = 8 ^ n → r < m → StF n (foldH (fun c => cndW (valF 1 K) mg K Q (nI p) n (wcN n c)) k) v2 bo →
      ∃ (z : Int32 × (Nat → Int32) × (Nat → Int32) × (Nat → Int32) × (Nat → Int32)) (v2' : Int32) (bo' : Nat → Int32), StF n (foldH (fun c => cndW (valF 1 K) mg K Q (nI p) n (wcN n c)) (8 ^ n)) v2' bo' ∧
      f_X5_fair_b57 F a1 told m v2 (nI k) s.1 rf alone bo s.2.1 s.2.2.1 s.2.2.2.1 s.2.2.2.2 = if v2' = 1000000 then some (-1, z.1, rf, alone, bo', z.2.1, z.2.2.1, z.2.2.2.1, z.2.2.2.2) else if a1 = -1 then some (v2', z.1, rf, alone, bo', z.2.1, z.2.2.1, z.2.2.2.1, z.2.2.2.2) else chk (ix a1 5) (some (bo' a1.toNatClampNeg, z.1, rf, alone, bo', z.2.1, z.2.2.1, z.2.2.2.1, z.2.2.2.2)) := by
    intro r
    induction r with
    | zero =>
      intro k m v2 bo s e hm hS
      obtain ⟨m, rfl⟩ : ∃ q, m = q + 1 := ⟨m - 1, by omega⟩
      obtain rfl : k = 8 ^ n := by omega
      refine ⟨s, v2, bo, hS, ?_⟩
      rw [f_X5_fair_b57, many_m, Option.bind_some, h0, ev, if_pos (nI_le (Nat.le_refl _) (by omega))]
    | succ r ih =>
      intro k m v2 bo s e hm hS
      obtain ⟨m, rfl⟩ : ∃ q, m = q + 1 := ⟨m - 1, by omega⟩
      obtain ⟨rl, e1, e2⟩ := layOwn_m (F := F) (n := n) (c := k) (by omega) hn (by omega) h0 h24 hw s.1 s.2.1 s.2.2.1 s.2.2.2.1 s.2.2.2.2
      obtain ⟨D, d1, d2, d3⟩ := dueIf_m (F := F) (n := n) (told := told) (K := K) (G := gW K Q (nI p) (wcN n k)) (mg := mg) (og := rl.2.2.2.2) (alone := alone) (by omega) hn h0 (fun j hj => (hw j hj).1) (fun i hi => (e2 i hi).2) (fun i hi => (hal i hi).trans (hmg i hi).symm) (fun i hi => by rw [hmg i hi]; exact gW_mA hp hK _ hi (wcN_8 n k i)) (fun i hi => kd_80 hp hK _ hi)
      have hst := StF_step hS d1 (al (fun i => okB mg i (gW K Q (nI p) (wcN n k) i)) n) (w := wcN n k) (own := rl.2.1) (fun j hj => (e2 j hj).1)
      have hc : cndW (valF 1 K) mg K Q (nI p) n (wcN n k) = if al (fun i => okB mg i (gW K Q (nI p) (wcN n k) i)) n = true then some (-(nI D), wcN n k) else none := by
        unfold cndW
        rw [sv_neg, d2]
      rw [← hc] at hst
      rw [f_X5_fair_b57, many_m, Option.bind_some, h0, ev, if_neg (nI_ge (by omega) (by omega)), e1, Option.bind_some, d3, Option.bind_some, fair83_m (by omega) hn a1 h0, nI_1]
      generalize (if al (fun i => okB mg i (gW K Q (nI p) (wcN n k) i)) n = true then nI D else (1000000 : Int32)) = v4 at hst ⊢
      by_cases c : v2 ≤ v4
      · rw [if_pos c]
        rw [if_pos c, if_pos c] at hst
        exact ih (k + 1) m v2 bo rl (by omega) (by omega) hst
      · rw [if_neg c]
        rw [if_neg c, if_neg c] at hst
        exact ih (k + 1) m v4 (pre rl.2.1 bo n) rl (by omega) (by omega) hst
  exact key (8 ^ n) 0 F 1000000 bo s (by omega) (by omega) rfl
theorem fair30_m {F n : Nat} (hF : 200 < F) (hn : n ≤ 5) (a1 : Int32) {p : Int32} {told K Q : Nat → Int32} (h0 : told 0 = nI n) (h24 : told 24 = p) (hw : ∀ j, j < n → told (26 + j) = K j ∧ told (19 + j) = Q j) (v2 lb : Int32) (rf alone bo own ah ge og : Nat → Int32) :
    f_X5_fair_b30 F a1 told F v2 0 lb rf alone bo own ah ge og = f_X5_fair_b57 F a1 told F v2 0 lb rf (pre (fun i => mA K Q p i 8) alone n) bo own ah ge og := by
  have key := loopN (fun m k => f_X5_fair_b30 F a1 told m v2 (nI k) lb rf (pre (fun i => mA K Q p i 8) alone k) bo own ah ge og) (f_X5_fair_b57 F a1 told F v2 0 lb rf (pre (fun i => mA K Q p i 8) alone n) bo own ah ge og) n ?_ ?_ F (by omega)
  · simpa only [pre_0, z0n] using key
  · intro k m hk
    show f_X5_fair_b30 F a1 told (m + 1) v2 (nI k) lb rf (pre (fun i => mA K Q p i 8) alone k) bo own ah ge og = f_X5_fair_b30 F a1 told m v2 (nI (k + 1)) lb rf (pre (fun i => mA K Q p i 8) alone (k + 1)) bo own ah ge og
    rw [f_X5_fair_b30, many_m, Option.bind_some, h0, if_neg (nI_ge hk (by omega)), best_m hF (by omega) h24 (hw k hk).1 (hw k hk).2, Option.bind_some, chk_t (ix_n (by omega) (by omega)), cl_n (by omega), nI_1, ← pre_s (fun i => mA K Q p i 8) alone k]
  · intro m
    show f_X5_fair_b30 F a1 told (m + 1) v2 (nI n) lb rf _ bo own ah ge og = _
    rw [f_X5_fair_b30, many_m, Option.bind_some, h0, if_pos (nI_le (Nat.le_refl _) (by omega))]
theorem rs_fair : Rs_fair := by
  unfold Rs_fair
  intro x_above x_below x_bads x_nos x_fulls pressure day wells lefts notes undos kind wanted hours had due leftHour leftPressure note past x_search_found x_search_bestWorth x_search_byDue x_search_bestWay x_search_way x_search_rest x_search_mustGet len text m_above m_below m_leftBehind m_bytesLong m_told m_refused m_gets m_ahead m_own m_ownGets m_bestOwn m_alone m_bytes a1 hR
  obtain ⟨hP, hr, hf, hx⟩ := id hR
  obtain ⟨n, nl, nn, nu, d, p, ⟨rfl, hn, -, -, -, -, -, -, -, -, rfl, hp⟩, ht, hw, -⟩ := id hP
  unfold f_X4_fair f_X4_fair_b21 f_X4_badHere f_X5_fair
  obtain ⟨r, x1, x2⟩ := leastDue_x (F := FU) (ltF (by omega)) hn (nI p) kind wanted x_search_mustGet x_search_found x_search_bestWorth x_search_byDue x_search_rest x_search_way x_search_bestWay
  have hwt : ∀ j, j < n → m_told (26 + j) = kind j ∧ m_told (19 + j) = wanted j := fun j hj => ⟨(hw j hj).2.2.1, (hw j hj).2.2.2.1⟩
  obtain ⟨z, v2, bo, y1, y2⟩ := fair57_m (F := FU) (p := p) (ltF (by omega)) hn (by omega) a1 (mg := pre (fun i => mA kind wanted (nI p) i 8) x_search_mustGet n) ht.1 ht.2.2.2.2.1 hwt (fun i hi => ⟨(hw i hi).1, (hw i hi).2.1.1⟩) (fun i hi => pre_in hi) m_refused (alone := pre (fun i => mA kind wanted (nI p) i 8) m_alone n) (fun i hi => pre_in hi) (m_leftBehind, m_own, m_ahead, m_gets, m_ownGets) m_bestOwn
  have y3 := fair30_m (F := FU) (n := n) (ltF (by omega)) hn a1 ht.1 ht.2.2.2.2.1 hwt 1000000 m_leftBehind m_refused m_alone m_bestOwn m_own m_ahead m_gets m_ownGets
  obtain ⟨b, q1, q2, q3, q4, q5⟩ := cases_1n (n := n) (by omega) a1 FU
  rw [many_m, ht.1]
  simp only [Option.bind_some]
  generalize bpW (valF 1 kind) (pre (fun i => mA kind wanted (nI p) i 8) x_search_mustGet n) kind wanted (nI p) n 0 (fun _ => 0) = B at x2 y1
  cases B with
  | none =>
    have hf0 : r.1 = 0 := x2
    have hv : v2 = 1000000 := y1
    rw [if_pos hv] at y2
    by_cases hm : a1 = -1
    · rw [if_pos hm, x1, Option.bind_some, if_pos hf0, q5 hm, Option.bind_some, if_neg ne1, y3, y2]
      exact ⟨_, _, rfl, rfl, rfl, hR⟩
    · rw [if_neg hm, q1, Option.bind_some, q4 hm, Option.bind_some]
      rcases q2 with rfl | rfl
      · rw [if_pos (show nI 0 = (0 : Int32) from rfl), if_pos (show nI 0 = (0 : Int32) from rfl), bad_m, Option.bind_some]
        exact ⟨_, _, rfl, rfl, rfl, Rel_bad hR⟩
      · rw [if_neg ne1, if_neg ne1, x1, Option.bind_some, if_pos hf0, y3, y2]
        exact ⟨_, _, rfl, rfl, rfl, hR⟩
  | some x =>
    obtain ⟨f1, f2, f3⟩ := x2
    obtain ⟨⟨D, d1, d2, d3⟩, d4⟩ := y1
    have hv : ¬ v2 = 1000000 := by
      rw [d2]
      exact fun z => absurd ((nI_eq (b := 1000000) (by omega) (by omega)).mp z) (by omega)
    have hf1 : ¬ r.1 = 0 := by rw [f1]; decide
    rw [if_neg hv] at y2
    by_cases hm : a1 = -1
    · rw [if_pos hm] at y2
      rw [if_pos hm, x1, Option.bind_some, if_neg hf1, if_pos hm, q5 hm, Option.bind_some, if_neg ne1, y3, y2]
      refine ⟨_, _, rfl, rfl, ?_, hR⟩
      dsimp only
      rw [f2, d3, d2, Int32.neg_neg]
    · rw [if_neg hm] at y2
      rw [if_neg hm, q1, Option.bind_some, q4 hm, Option.bind_some]
      rcases q2 with rfl | rfl
      · rw [if_pos (show nI 0 = (0 : Int32) from rfl), if_pos (show nI 0 = (0 : Int32) from rfl), bad_m, Option.bind_some]
        exact ⟨_, _, rfl, rfl, rfl, Rel_bad hR⟩
      · obtain ⟨i, hi, ei⟩ := q3 rfl
        rw [if_neg ne1, if_neg ne1, x1, Option.bind_some, if_neg hf1, if_neg hm, y3, y2, ei, chk_t (ix_n (by omega) (by omega)), chk_t (ix_n (by omega) (by omega)), cl_n (by omega)]
        exact ⟨_, _, rfl, rfl, (f3 i hi).trans (d4 i hi).symm, hR⟩

/-! PURE: ways of turns, their best one; like hours need no second look -/
def cmb (a b : Option (Int32 × (Nat → Nat))) : Option (Int32 × (Nat → Nat)) :=
  match a with
  | none => b
  | some x => match b with
    | none => some x
    | some y => if x.1 < y.1 then some y else some x
theorem cmb_none (a : Option (Int32 × (Nat → Nat))) : cmb a none = a := by cases a <;> rfl
theorem cmb_assoc (a b c : Option (Int32 × (Nat → Nat))) : cmb (cmb a b) c = cmb a (cmb b c) := by
  cases a with
  | none => rfl
  | some x =>
    cases b with
    | none => rfl
    | some y =>
      cases c with
      | none => rw [cmb_none, cmb_none]
      | some z =>
        show cmb (if x.1 < y.1 then some y else some x) (some z) = cmb (some x) (if y.1 < z.1 then some z else some y)
        by_cases h1 : x.1 < y.1
        · rw [if_pos h1]
          by_cases h2 : y.1 < z.1
          · rw [if_pos h2]
            show (if y.1 < z.1 then some z else some y) = if x.1 < z.1 then some z else some x
            rw [if_pos h2, if_pos (by rw [i_lt] at *; omega)]
          · rw [if_neg h2]
            show (if y.1 < z.1 then some z else some y) = if x.1 < y.1 then some y else some x
            rw [if_neg h2, if_pos h1]
        · rw [if_neg h1]
          by_cases h2 : y.1 < z.1
          · rw [if_pos h2]
          · rw [if_neg h2]
            show (if x.1 < z.1 then some z else some x) = if x.1 < y.1 then some y else some x
            rw [if_neg h1, if_neg (by rw [i_lt] at *; omega)]
def leV (a b : Option (Int32 × (Nat → Nat))) : Prop :=
  match a with
  | none => True
  | some x => match b with
    | none => False
    | some y => x.1 ≤ y.1
theorem leV_refl (a : Option (Int32 × (Nat → Nat))) : leV a a := by
  cases a with
  | none => trivial
  | some x => show x.1 ≤ x.1; rw [i_le]; omega
theorem leV_trans {a b c : Option (Int32 × (Nat → Nat))} (h1 : leV a b) (h2 : leV b c) : leV a c := by
  cases a with
  | none => trivial
  | some x =>
    cases b with
    | none => exact absurd h1 id
    | some y =>
      cases c with
      | none => exact absurd h2 id
      | some z =>
        have h1' : x.1 ≤ y.1 := h1
        have h2' : y.1 ≤ z.1 := h2
        show x.1 ≤ z.1
        rw [i_le] at *
        omega
theorem cmb_le {a b : Option (Int32 × (Nat → Nat))} (h : leV b a) : cmb a b = a := by
  cases b with
  | none => exact cmb_none a
  | some y =>
    cases a with
    | none => exact absurd h id
    | some x =>
      have h' : y.1 ≤ x.1 := h
      show (if x.1 < y.1 then some y else some x) = some x
      rw [if_neg (by rw [i_lt]; rw [i_le] at h'; omega)]
theorem leV_l (a b : Option (Int32 × (Nat → Nat))) : leV a (cmb a b) := by
  cases a with
  | none => trivial
  | some x =>
    cases b with
    | none => exact leV_refl _
    | some y =>
      show leV (some x) (if x.1 < y.1 then some y else some x)
      by_cases h : x.1 < y.1
      · rw [if_pos h]
        show x.1 ≤ y.1
        rw [i_le]; rw [i_lt] at h; omega
      · rw [if_neg h]; exact leV_refl _
theorem leV_r (a b : Option (Int32 × (Nat → Nat))) : leV b (cmb a b) := by
  cases b with
  | none => trivial
  | some y =>
    cases a with
    | none => exact leV_refl _
    | some x =>
      show leV (some y) (if x.1 < y.1 then some y else some x)
      by_cases h : x.1 < y.1
      · rw [if_pos h]; exact leV_refl _
      · rw [if_neg h]
        show y.1 ≤ x.1
        rw [i_le]; rw [i_lt] at h; omega
theorem cmb_lub {a b c : Option (Int32 × (Nat → Nat))} (h1 : leV a c) (h2 : leV b c) : leV (cmb a b) c := by
  cases a with
  | none => exact h2
  | some x =>
    cases b with
    | none => exact h1
    | some y =>
      show leV (if x.1 < y.1 then some y else some x) c
      by_cases h : x.1 < y.1
      · rw [if_pos h]; exact h2
      · rw [if_neg h]; exact h1
/-- the first best of f 0 .. f (h - 1) -/
def foldH (f : Nat → Option (Int32 × (Nat → Nat))) : Nat → Option (Int32 × (Nat → Nat))
  | 0 => none
  | h + 1 => cmb (foldH f h) (f h)
theorem foldH_ge {f : Nat → Option (Int32 × (Nat → Nat))} {k : Nat} : ∀ {h : Nat}, k < h → leV (f k) (foldH f h)
  | 0, hk => absurd hk (Nat.not_lt_zero k)
  | h + 1, hk => by
    by_cases e : k = h
    · subst e; exact leV_r _ _
    · exact leV_trans (foldH_ge (h := h) (by omega)) (leV_l _ _)
theorem foldH_le {f : Nat → Option (Int32 × (Nat → Nat))} {y : Option (Int32 × (Nat → Nat))} : ∀ {h : Nat}, (∀ x, x < h → leV (f x) y) → leV (foldH f h) y
  | 0, _ => trivial
  | h + 1, H => cmb_lub (foldH_le (h := h) (fun x hx => H x (by omega))) (H h (by omega))
theorem foldH_cong {f g : Nat → Option (Int32 × (Nat → Nat))} : ∀ {h : Nat}, (∀ x, x < h → f x = g x) → foldH f h = foldH g h
  | 0, _ => rfl
  | h + 1, H => by
    unfold foldH
    rw [foldH_cong (h := h) (fun x hx => H x (by omega)), H h (by omega)]
theorem foldH_none {f : Nat → Option (Int32 × (Nat → Nat))} : ∀ {h : Nat}, (∀ x, x < h → f x = none) → foldH f h = none
  | 0, _ => rfl
  | h + 1, H => by
    unfold foldH
    rw [foldH_none (h := h) (fun x hx => H x (by omega)), H h (by omega)]
    rfl
theorem foldH_add (f : Nat → Option (Int32 × (Nat → Nat))) (x : Nat) : ∀ y, foldH f (x + y) = cmb (foldH f x) (foldH (fun k => f (x + k)) y)
  | 0 => (cmb_none _).symm
  | y + 1 => by
    show cmb (foldH f (x + y)) (f (x + y)) = cmb (foldH f x) (cmb (foldH (fun k => f (x + k)) y) (f (x + y)))
    rw [foldH_add f x y, cmb_assoc]
theorem foldH_mul (f : Nat → Option (Int32 × (Nat → Nat))) (b : Nat) : ∀ a, foldH f (a * b) = foldH (fun h => foldH (fun k => f (h * b + k)) b) a
  | 0 => by rw [Nat.zero_mul]; rfl
  | a + 1 => by
    rw [Nat.succ_mul, foldH_add, foldH_mul f b a]
    rfl
def updN (w : Nat → Nat) (i h : Nat) : Nat → Nat := fun j => if j = i then h else w j
theorem updN_s {w : Nat → Nat} {i h : Nat} : updN w i h i = h := if_pos rfl
theorem updN_n {w : Nat → Nat} {i h j : Nat} (hj : ¬ j = i) : updN w i h j = w j := if_neg hj
/-- what is left in hour h ahead of well i, in way w -/
def rsW (K Q : Nat → Int32) (p : Int32) (w : Nat → Nat) : Nat → Nat → Int32
  | 0, _ => p
  | i + 1, h => if w i = h then rsW K Q p w i h - kg (K i) (Q i) (nI h) (rsW K Q p w i h) else rsW K Q p w i h
def gW (K Q : Nat → Int32) (p : Int32) (w : Nat → Nat) (i : Nat) : Int32 := kg (K i) (Q i) (nI (w i)) (rsW K Q p w i (w i))
def svW (val : Nat → Int32 → Int32) (K Q : Nat → Int32) (p : Int32) (w : Nat → Nat) : Nat → Int32
  | 0 => 0
  | i + 1 => svW val K Q p w i + val i (gW K Q p w i)
theorem rsW_cong {K Q : Nat → Int32} {p : Int32} {w w' : Nat → Nat} : ∀ {i : Nat}, (∀ j, j < i → w j = w' j) → ∀ h, rsW K Q p w i h = rsW K Q p w' i h
  | 0, _, _ => rfl
  | i + 1, H, h => by
    unfold rsW
    rw [rsW_cong (i := i) (fun j hj => H j (by omega)) h, H i (by omega)]
theorem gW_cong {K Q : Nat → Int32} {p : Int32} {w w' : Nat → Nat} {i : Nat} (H : ∀ j, j ≤ i → w j = w' j) : gW K Q p w i = gW K Q p w' i := by
  unfold gW
  rw [H i (Nat.le_refl i), rsW_cong (fun j hj => H j (by omega))]
theorem svW_cong {val : Nat → Int32 → Int32} {K Q : Nat → Int32} {p : Int32} {w w' : Nat → Nat} : ∀ {i : Nat}, (∀ j, j < i → w j = w' j) → svW val K Q p w i = svW val K Q p w' i
  | 0, _ => rfl
  | i + 1, H => by
    unfold svW
    rw [svW_cong (i := i) (fun j hj => H j (by omega)), gW_cong (fun j hj => H j (by omega))]
theorem gW_upd (K Q : Nat → Int32) (p : Int32) (w : Nat → Nat) (i h : Nat) : gW K Q p (updN w i h) i = kg (K i) (Q i) (nI h) (rsW K Q p w i h) := by
  unfold gW
  rw [updN_s, rsW_cong (fun j hj => updN_n (by omega))]
theorem rsW_upd (K Q : Nat → Int32) (p : Int32) (w : Nat → Nat) (i h x : Nat) : rsW K Q p (updN w i h) (i + 1) x = if h = x then rsW K Q p w i x - kg (K i) (Q i) (nI x) (rsW K Q p w i x) else rsW K Q p w i x := by
  rw [rsW, updN_s, rsW_cong (fun j hj => updN_n (by omega))]
theorem svW_upd (val : Nat → Int32 → Int32) (K Q : Nat → Int32) (p : Int32) (w : Nat → Nat) (i h : Nat) : svW val K Q p (updN w i h) (i + 1) = svW val K Q p w i + val i (kg (K i) (Q i) (nI h) (rsW K Q p w i h)) := by
  rw [svW, svW_cong (fun j hj => updN_n (by omega)), gW_upd]
def okB (mg : Nat → Int32) (i : Nat) (g : Int32) : Bool := !decide (g < mg i)
/-- the first best way from well i on -/
def bpW (val : Nat → Int32 → Int32) (mg K Q : Nat → Int32) (p : Int32) : Nat → Nat → (Nat → Nat) → Option (Int32 × (Nat → Nat))
  | 0, i, w => some (svW val K Q p w i, w)
  | d + 1, i, w => foldH (fun h => if okB mg i (gW K Q p (updN w i h) i) = true then bpW val mg K Q p d (i + 1) (updN w i h) else none) 8
theorem and_par : ∀ h : Fin 8, (nI h.val &&& 1) = nI (h.val % 2) := by decide +kernel
theorem kg_par (k q p : Int32) {h h' : Nat} (hh : h < 8) (hh' : h' < 8) (e : h % 2 = h' % 2) : kg k q (nI h) p = kg k q (nI h') p := by
  have h1 := and_par ⟨h, hh⟩
  have h2 := and_par ⟨h', hh'⟩
  dsimp only at h1 h2
  unfold kg kgU
  rw [h1, h2, e]
theorem bp_sim {val : Nat → Int32 → Int32} {mg K Q : Nat → Int32} {p : Int32} {σ : Nat → Nat} (h8 : ∀ x, x < 8 → σ x < 8 ∧ σ x % 2 = x % 2) (hi : ∀ x y, x < 8 → y < 8 → σ x = σ y → x = y) : ∀ d i w1 w2, (∀ x, x < 8 → rsW K Q p w2 i (σ x) = rsW K Q p w1 i x) → svW val K Q p w2 i = svW val K Q p w1 i → leV (bpW val mg K Q p d i w1) (bpW val mg K Q p d i w2) := by
  intro d
  induction d with
  | zero =>
    intro i w1 w2 _ hs
    show svW val K Q p w1 i ≤ svW val K Q p w2 i
    rw [hs, i_le]
    omega
  | succ d ih =>
    intro i w1 w2 hr hs
    refine foldH_le (fun x hx => ?_)
    have hg : kg (K i) (Q i) (nI (σ x)) (rsW K Q p w2 i (σ x)) = kg (K i) (Q i) (nI x) (rsW K Q p w1 i x) := by rw [hr x hx, kg_par _ _ _ (h8 x hx).1 hx (h8 x hx).2]
    by_cases ho : okB mg i (gW K Q p (updN w1 i x) i) = true
    · rw [if_pos ho]
      refine leV_trans ?_ (foldH_ge (f := fun h => if okB mg i (gW K Q p (updN w2 i h) i) = true then bpW val mg K Q p d (i + 1) (updN w2 i h) else none) (h8 x hx).1)
      try dsimp only
      rw [gW_upd] at ho
      rw [gW_upd, hg, if_pos ho]
      refine ih (i + 1) _ _ (fun y hy => ?_) ?_
      · rw [rsW_upd, rsW_upd, hr y hy]
        by_cases e : x = y
        · subst e
          rw [if_pos rfl, if_pos rfl, kg_par _ _ _ (h8 x hx).1 hx (h8 x hx).2]
        · rw [if_neg e, if_neg (fun z => e (hi x y hx hy z))]
      · rw [svW_upd, svW_upd, hs, hg]
    · rw [if_neg ho]
      trivial
/-- an hour like an earlier one is no better -/
theorem bp_like {val : Nat → Int32 → Int32} {mg K Q : Nat → Int32} {p : Int32} {d i h k : Nat} {w : Nat → Nat} (hh : h < 8) (hk : k < h) (e2 : k % 2 = h % 2) (hr : rsW K Q p w i k = rsW K Q p w i h) :
    leV (if okB mg i (gW K Q p (updN w i h) i) = true then bpW val mg K Q p d (i + 1) (updN w i h) else none) (if okB mg i (gW K Q p (updN w i k) i) = true then bpW val mg K Q p d (i + 1) (updN w i k) else none) := by
  have hg : gW K Q p (updN w i k) i = gW K Q p (updN w i h) i := by
    rw [gW_upd, gW_upd, hr, kg_par _ _ _ (by omega) hh e2]
  rw [hg]
  by_cases ho : okB mg i (gW K Q p (updN w i h) i) = true
  · rw [if_pos ho, if_pos ho]
    refine bp_sim (σ := fun x => if x = h then k else if x = k then h else x) (fun x hx => ?_) (fun x y hx hy => ?_) d (i + 1) _ _ (fun x hx => ?_) ?_
    · try dsimp only
      by_cases a : x = h
      · rw [if_pos a]; omega
      · rw [if_neg a]
        by_cases b : x = k
        · rw [if_pos b]; omega
        · rw [if_neg b]; omega
    · intro z
      try dsimp only at z
      (repeat' (split at z)) <;> omega
    · try dsimp only
      rw [rsW_upd, rsW_upd]
      by_cases a : x = h
      · subst a
        rw [if_pos rfl, if_pos rfl, if_pos rfl, hr, kg_par _ _ _ (by omega) hx e2]
      · rw [if_neg a]
        by_cases b : x = k
        · subst b
          rw [if_pos rfl, if_neg (by omega), if_neg (by omega), hr]
        · rw [if_neg b, if_neg (by omega), if_neg (by omega)]
    · rw [svW_upd, svW_upd, hr, kg_par _ _ _ (by omega) hh e2]
  · rw [if_neg ho]
    trivial

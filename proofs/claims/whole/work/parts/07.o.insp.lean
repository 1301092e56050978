/-! PURE: inspector -/
theorem win0 {F : Nat} {x : Int32} {a b : Nat} (ha : a < 2 ^ 31) (hb : b < 2 ^ 31) (h : rgb a b x = false) : f_X4_within F x (nI a) (nI b) = some (nI 0) := (within_x F x ha hb).trans (by rw [h]; rfl)
theorem win1 {F : Nat} {x : Int32} {a b : Nat} (ha : a < 2 ^ 31) (hb : b < 2 ^ 31) (h : rgb a b x = true) : f_X4_within F x (nI a) (nI b) = some (nI 1) := (within_x F x ha hb).trans (by rw [h]; rfl)
theorem ne1 : ¬ nI 1 = (0 : Int32) := by decide
/-- what is his, and the well's, at k: bit 0 he looks, bit 1 it draws -/
def hisV (w : Int32) (k : Nat) : Int32 := if nI (k % 2) = 0 then 0 else if w = 0 then -1 else if nI (k / 2) = 0 then -1 else 5
def itsV (w g : Int32) (k : Nat) : Int32 := if nI (k / 2) = 0 then 0 else if w = 0 then g else if nI (k % 2) = 0 then g else g - 20
def rB (w g : Int32) (k : Nat) : Bool := !decide (hisV w k < hisV w (k ^^^ 1)) && !decide (itsV w g k < itsV w g (k ^^^ 2))
theorem rests_x : ∀ (g : Fin 41) (w : Fin 2) (k : Fin 4), f_X4_rests 0 (nI (k.val % 2)) (nI (k.val / 2)) (nI g.val) (nI w.val) = some (fl (rB (nI w.val) (nI g.val) k.val)) := by decide +kernel
theorem b_1 : ∀ k : Fin 4, (if (nI k.val &&& 1) = 1 then (1 : Int32) else 0) = nI (k.val % 2) := by decide +kernel
theorem b_2 : ∀ k : Fin 4, (if (nI k.val &&& 2) = 2 then (1 : Int32) else 0) = nI (k.val / 2) := by decide +kernel
theorem b_3 : ∀ k : Fin 4, (if ((nI k.val >>> ((0 : Int32) &&& 31)) &&& 1) = 1 then (1 : Int32) else 0) = nI (k.val % 2) := by decide +kernel
theorem b_4 : ∀ k : Fin 4, (if ((nI k.val >>> ((1 : Int32) &&& 31)) &&& 1) = 1 then (1 : Int32) else 0) = nI (k.val / 2) := by decide +kernel
theorem b_5 : ∀ k : Fin 4, (nI k.val ^^^ 1) = nI (k.val ^^^ 1) ∧ (nI k.val ^^^ 2) = nI (k.val ^^^ 2) ∧ k.val ^^^ 1 < 4 ∧ k.val ^^^ 2 < 4 := by decide +kernel
theorem or_step (x y : Int32) (b : Bool) : (if b = true then x ||| y else x) = x ||| (if b = true then y else 0) := by
  cases b
  · exact (Int32.or_zero).symm
  · rfl
/-- the pairs that rest, of the first k -/
def rsN (w g : Int32) : Nat → Int32
  | 0 => 0
  | k + 1 => if rB w g k = true then rsN w g k ||| ((1 : Int32) <<< (nI k &&& 31)) else rsN w g k
theorem insp_x {F n g w : Nat} (hF : 200 < F) (hg : g ≤ 40) (hw : w < 2) (a1 a2 p : Int32) (K Q H : Nat → Int32) (bads nos l0 : Int32) (ah ge : Nat → Int32) :
    f_X4_inspector_b83 F a1 a2 p (nI n) H K Q F (nI g) (nI w) 0 0 bads nos l0 ah ge = some (rsN (nI w) (nI g) 4, bads, nos, l0, ah, ge) := by
  refine loopN (fun m k => f_X4_inspector_b83 F a1 a2 p (nI n) H K Q m (nI g) (nI w) (rsN (nI w) (nI g) k) (nI k) bads nos l0 ah ge) _ 4 ?_ ?_ F (by omega)
  · intro k m hk
    show f_X4_inspector_b83 F a1 a2 p (nI n) H K Q (m + 1) (nI g) (nI w) (rsN (nI w) (nI g) k) (nI k) bads nos l0 ah ge = f_X4_inspector_b83 F a1 a2 p (nI n) H K Q m (nI g) (nI w) (if rB (nI w) (nI g) k = true then rsN (nI w) (nI g) k ||| ((1 : Int32) <<< (nI k &&& 31)) else rsN (nI w) (nI g) k) (nI (k + 1)) bads nos l0 ah ge
    have hr : f_X4_rests F (nI (k % 2)) (nI (k / 2)) (nI g) (nI w) = some (fl (rB (nI w) (nI g) k)) := rests_x ⟨g, by omega⟩ ⟨w, hw⟩ ⟨k, hk⟩
    have h1 := b_1 ⟨k, hk⟩
    have h2 := b_2 ⟨k, hk⟩
    dsimp only at h1 h2
    rw [f_X4_inspector_b83, if_neg (show ¬ (4 : Int32) ≤ nI k from nI_ge (b := 4) hk (by omega))]
    have e1 : ∀ (A B : Option (Int32 × Int32 × Int32 × Int32 × (Nat → Int32) × (Nat → Int32))) (f : Int32 → Option (Int32 × Int32 × Int32 × Int32 × (Nat → Int32) × (Nat → Int32))) (c : Prop) [Decidable c] (x : Int32), A = f 1 → B = f 0 → (if c then (1 : Int32) else 0) = x → (if c then A else B) = f x := by
      intro A B f c _ x hA hB hx
      by_cases hc : c
      · rw [if_pos hc] at hx ⊢; rw [hA, hx]
      · rw [if_neg hc] at hx ⊢; rw [hB, hx]
    rw [e1 _ _ (fun x => f_X4_inspector_b102 F a1 a2 p (nI n) H K Q (f_X4_inspector_b83 F a1 a2 p (nI n) H K Q m) (nI g) (nI w) (rsN (nI w) (nI g) k) (nI k) x bads nos l0 ah ge) _ _ rfl rfl h1]
    unfold f_X4_inspector_b102
    rw [e1 _ _ (fun x => f_X4_inspector_b115 F a1 a2 p (nI n) H K Q (f_X4_inspector_b83 F a1 a2 p (nI n) H K Q m) (nI g) (nI w) (rsN (nI w) (nI g) k) (nI k) (nI (k % 2)) x bads nos l0 ah ge) _ _ rfl rfl h2]
    unfold f_X4_inspector_b115 f_X4_inspector_b133
    rw [hr, Option.bind_some, nI_1]
    cases rB (nI w) (nI g) k with
    | false => rw [if_pos (show fl false = 0 by decide), if_neg (by decide)]
    | true => rw [if_neg (show ¬ fl true = 0 by decide), if_pos rfl]
  · intro m
    show f_X4_inspector_b83 F a1 a2 p (nI n) H K Q (m + 1) (nI g) (nI w) _ (nI 4) bads nos l0 ah ge = _
    rw [f_X4_inspector_b83, if_pos (show (4 : Int32) ≤ nI 4 by decide)]
theorem insp89_m {F a w : Nat} (hF : 200 < F) (ha : a < 5) (a2 : Int32) {g : Int32} (told : Nat → Int32) (lb : Int32) (ah ge : Nat → Int32) (hg : ge a = g) (rf : Nat → Int32) (his its : Nat → Int32) :
    ∃ his' its' : Nat → Int32, f_X5_inspector_b89 F (nI a) a2 told F (nI w) 0 lb ah ge rf his its = f_X5_inspector_b196 F (nI a) a2 told F 0 0 lb ah ge rf his' its' ∧ ∀ k, k < 4 → his' k = hisV (nI w) k ∧ its' k = itsV (nI w) g k := by
  have key : ∀ r k m his its, k + r = 4 → r < m → (∀ j, j < k → his j = hisV (nI w) j ∧ its j = itsV (nI w) g j) → ∃ his' its' : Nat → Int32, f_X5_inspector_b89 F (nI a) a2 told m (nI w) (nI k) lb ah ge rf his its = f_X5_inspector_b196 F (nI a) a2 told F 0 0 lb ah ge rf his' its' ∧ ∀ k, k < 4 → his' k = hisV (nI w) k ∧ its' k = itsV (nI w) g k := by
    intro r
    induction r with
    | zero =>
      intro k m his its e hm hI
      obtain ⟨m, rfl⟩ : ∃ q, m = q + 1 := ⟨m - 1, by omega⟩
      obtain rfl : k = 4 := by omega
      refine ⟨his, its, ?_, hI⟩
      rw [f_X5_inspector_b89, if_pos (show (4 : Int32) ≤ nI 4 by decide)]
    | succ r ih =>
      intro k m his its e hm hI
      obtain ⟨m, rfl⟩ : ∃ q, m = q + 1 := ⟨m - 1, by omega⟩
      have h1 := b_3 ⟨k, by omega⟩
      have h2 := b_4 ⟨k, by omega⟩
      dsimp only at h1 h2
      have nx := ih (k + 1) m (upd his k (hisV (nI w) k)) (upd its k (itsV (nI w) g k)) (by omega) (by omega) (fun j hj => by
        by_cases e2 : j = k
        · subst e2; rw [pk_us, pk_us]; exact ⟨rfl, rfl⟩
        · rw [pk_un e2, pk_un e2]; exact hI j (by omega))
      rw [f_X5_inspector_b89, if_neg (show ¬ (4 : Int32) ≤ nI k from nI_ge (b := 4) (by omega) (by omega)), has_m, has_m, Option.bind_some, Option.bind_some, h1, h2]
      have b140 : f_X5_inspector_b140 F (nI a) a2 told (f_X5_inspector_b89 F (nI a) a2 told m) (nI w) (nI k) (nI (k % 2)) (nI (k / 2)) (nI k) (hisV (nI w) k) lb ah ge rf his its = f_X5_inspector_b89 F (nI a) a2 told m (nI w) (nI (k + 1)) lb ah ge rf (upd his k (hisV (nI w) k)) (upd its k (itsV (nI w) g k)) := by
        unfold f_X5_inspector_b140 f_X5_inspector_b177 f_X5_inspector_b183 itsV
        simp only [chk_t (ix_n (show k < 4 by omega) (by omega)), chk_t (ix_n ha (by omega)), cl_n (show k < 2 ^ 31 by omega), cl_n (show a < 2 ^ 31 by omega), hg, nI_1]
        by_cases c1 : nI (k / 2) = 0
        · rw [if_pos c1, if_pos c1]
        · rw [if_neg c1, if_neg c1]
          by_cases c2 : nI w = 0
          · rw [if_pos c2, if_pos c2]
          · rw [if_neg c2, if_neg c2]
            by_cases c3 : nI (k % 2) = 0
            · rw [if_pos c3, if_pos c3]
            · rw [if_neg c3, if_neg c3]
      have hh : (if nI (k % 2) = 0 then f_X5_inspector_b140 F (nI a) a2 told (f_X5_inspector_b89 F (nI a) a2 told m) (nI w) (nI k) (nI (k % 2)) (nI (k / 2)) (nI k) 0 lb ah ge rf his its
        else if nI w = 0 then f_X5_inspector_b139 F (nI a) a2 told (f_X5_inspector_b140 F (nI a) a2 told (f_X5_inspector_b89 F (nI a) a2 told m)) (nI w) (nI k) (nI (k % 2)) (nI (k / 2)) (nI k) lb ah ge rf his its
        else if nI (k / 2) = 0 then f_X5_inspector_b139 F (nI a) a2 told (f_X5_inspector_b140 F (nI a) a2 told (f_X5_inspector_b89 F (nI a) a2 told m)) (nI w) (nI k) (nI (k % 2)) (nI (k / 2)) (nI k) lb ah ge rf his its
        else f_X5_inspector_b140 F (nI a) a2 told (f_X5_inspector_b89 F (nI a) a2 told m) (nI w) (nI k) (nI (k % 2)) (nI (k / 2)) (nI k) 5 lb ah ge rf his its) = f_X5_inspector_b140 F (nI a) a2 told (f_X5_inspector_b89 F (nI a) a2 told m) (nI w) (nI k) (nI (k % 2)) (nI (k / 2)) (nI k) (hisV (nI w) k) lb ah ge rf his its := by
        unfold hisV f_X5_inspector_b139
        by_cases c1 : nI (k % 2) = 0
        · rw [if_pos c1, if_pos c1]
        · rw [if_neg c1, if_neg c1]
          by_cases c2 : nI w = 0
          · rw [if_pos c2, if_pos c2]
          · rw [if_neg c2, if_neg c2]
            by_cases c3 : nI (k / 2) = 0
            · rw [if_pos c3, if_pos c3]
            · rw [if_neg c3, if_neg c3]
      rw [hh, b140]
      exact nx
  exact key 4 0 F his its (by omega) (by omega) (fun j hj => absurd hj (Nat.not_lt_zero j))
theorem insp196_m {F : Nat} (hF : 200 < F) (a1 a2 : Int32) {g w : Int32} (told : Nat → Int32) (lb : Int32) (ah ge : Nat → Int32) (rf : Nat → Int32) {his its : Nat → Int32} (hI : ∀ k, k < 4 → his k = hisV w k ∧ its k = itsV w g k) :
    f_X5_inspector_b196 F a1 a2 told F 0 0 lb ah ge rf his its = some (rsN w g 4, lb, ah, ge, rf, his, its) := by
  refine loopN (fun m k => f_X5_inspector_b196 F a1 a2 told m (rsN w g k) (nI k) lb ah ge rf his its) _ 4 ?_ ?_ F (by omega)
  · intro k m hk
    show f_X5_inspector_b196 F a1 a2 told (m + 1) (rsN w g k) (nI k) lb ah ge rf his its = f_X5_inspector_b196 F a1 a2 told m (if rB w g k = true then rsN w g k ||| ((1 : Int32) <<< (nI k &&& 31)) else rsN w g k) (nI (k + 1)) lb ah ge rf his its
    obtain ⟨x1, x2, x3, x4⟩ := b_5 ⟨k, hk⟩
    dsimp only at x1 x2 x3 x4
    rw [f_X5_inspector_b196, if_neg (show ¬ (4 : Int32) ≤ nI k from nI_ge (b := 4) hk (by omega)), x1, x2, chk_t (ix_n hk (by omega)), chk_t (ix_n x3 (by omega)), chk_t (ix_n hk (by omega)), chk_t (ix_n x4 (by omega)), cl_n (by omega), cl_n (by omega), cl_n (by omega), (hI k hk).1, (hI k hk).2, (hI _ x3).1, (hI _ x4).2, or_step]
    unfold f_X5_inspector_b244 f_X5_inspector_b245 f_X5_inspector_b262 rB
    rw [nI_1]
    by_cases c1 : hisV w k < hisV w (k ^^^ 1)
    · rw [if_pos c1, decide_eq_true c1, if_pos rfl]
      rfl
    · rw [if_neg c1, decide_eq_false c1]
      by_cases c2 : itsV w g k < itsV w g (k ^^^ 2)
      · rw [if_pos c2, decide_eq_true c2, if_pos rfl]
        rfl
      · rw [if_neg c2, decide_eq_false c2, if_neg (by decide)]
        rfl
  · intro m
    show f_X5_inspector_b196 F a1 a2 told (m + 1) _ (nI 4) lb ah ge rf his its = _
    rw [f_X5_inspector_b196, if_pos (show (4 : Int32) ≤ nI 4 by decide)]
/-- what a well gets is 0 to 40 -/
theorem ga_40 {n i p : Nat} {K Q : Nat → Int32} (hi : i < n) (hp : p < 10000) (h o : Int32) (hw : ∀ i, i < n → (∃ a : Nat, K i = nI a ∧ a ≤ 5) ∧ (∃ a : Nat, Q i = nI a ∧ 1 ≤ a ∧ a ≤ 20)) : ∃ g, g ≤ 40 ∧ ga K Q h o (nI p) i = nI g := by
  obtain ⟨k, q, hkq⟩ := pick2 hw
  have H1 : ∀ j, j < n → K j = nI (k j) ∧ k j ≤ 5 ∧ Q j = nI (q j) ∧ q j ≤ 20 ∧ ((fun i => decide (((o >>> (nI i &&& 31)) &&& 1) = 1)) j = true ↔ ((o >>> (nI j &&& 31)) &&& 1) = 1) := fun j hj => by
    obtain ⟨a, b, c, _, e⟩ := hkq j hj
    exact ⟨a, b, c, e, decide_eq_true_iff⟩
  refine ⟨_, ?_, ga_N hp hi H1⟩
  obtain ⟨_, _, _, _, e⟩ := hkq i hi
  unfold gaN
  split
  · have a := kN_max (k i) (q i) (decide ((h &&& 1) = 1)) (loN k q (fun i => decide (((o >>> (nI i &&& 31)) &&& 1) = 1)) (decide ((h &&& 1) = 1)) p i)
    have b := kM_le (k i) (q i) (decide ((h &&& 1) = 1))
    omega
  · omega
theorem rs_inspector : Rs_inspector := by
  unfold Rs_inspector
  intro x_above x_below x_bads x_nos x_fulls pressure day wells lefts notes undos leftOver kind wanted hours had due leftHour leftPressure note past ahead gets len text m_above m_below m_leftBehind m_bytesLong m_told m_refused m_gets m_ahead m_his m_its m_bytes a1 a2 hR
  obtain ⟨hP, hr, hf, hx⟩ := id hR
  obtain ⟨n, nl, nn, nu, d, p, ⟨rfl, hn, -, -, -, -, -, -, -, -, rfl, hp⟩, ht, hw, -⟩ := id hP
  have hw' : ∀ j, j < n → m_told (26 + j) = kind j ∧ m_told (19 + j) = wanted j ∧ m_told (14 + j) = hours j := fun j hj => ⟨(hw j hj).2.2.1, (hw j hj).2.2.2.1, (hw j hj).2.2.2.2.1⟩
  unfold f_X4_inspector f_X4_inspector_b18 f_X5_inspector f_X5_inspector_b15 f_X4_bad f_X4_no
  rw [has_x FU a1 (by omega), isWell_m FU a1 ht.1 (by omega), isHour_x, isHour_m]
  simp only [Option.bind_some]
  cases h1 : hsb n a1 with
  | false =>
    rw [if_neg (show ¬ false = true by decide), if_pos (show nI 0 = (0 : Int32) from rfl), if_pos (show nI 0 = (0 : Int32) from rfl), bad_m, Option.bind_some]
    exact ⟨_, _, rfl, rfl, rfl, Rel_bad hR⟩
  | true =>
    obtain ⟨a, ha, rfl⟩ := hs_of h1 (by omega)
    rw [if_pos rfl, if_neg ne1, if_neg ne1]
    cases h2 : rgb 0 7 a2 with
    | false =>
      rw [if_neg (show ¬ false = true by decide), if_pos (show nI 0 = (0 : Int32) from rfl), if_pos (show nI 0 = (0 : Int32) from rfl), bad_m, Option.bind_some]
      exact ⟨_, _, rfl, rfl, rfl, Rel_bad hR⟩
    | true =>
      obtain ⟨h, -, hh, rfl⟩ := rg_of h2 (by omega)
      rw [if_pos rfl, if_neg ne1, if_neg ne1, isOpen_x FU (by omega), Option.bind_some, show (14 : Int32) + nI a = nI (14 + a) from nI_add 14 a, chk_t (ix_n (by omega) (by omega)), cl_n (show 14 + a < 2 ^ 31 by omega), has_m, Option.bind_some, (hw' a ha).2.2]
      by_cases ho : ((hours a >>> (nI h &&& 31)) &&& 1) = 1
      · obtain ⟨g, hg, eg⟩ := ga_40 (n := n) (p := p) (K := kind) (Q := wanted) ha (by omega) (nI h) (op hours (nI h) n) (fun i hi => ⟨(hw i hi).1, (hw i hi).2.1.1⟩)
        rw [if_pos ho, if_neg ne10, if_neg ne10, getsAt_x (ltF (by omega)) hn ha, Option.bind_some, chk_t (ix_n (by omega) (by omega)), cl_n (show a < 2 ^ 31 by omega), chk_t (by decide), show m_told (24 : Int32).toNatClampNeg = nI p from ht.2.2.2.2.1, openIn_m (n := n) (ltF (by omega)) hn (by omega) (by omega) _ ht.1, Option.bind_some, goHour_m (ltF (by omega)) hn (by omega) (by omega) (by omega) _ _ ht.1, Option.bind_some, show (26 : Int32) + nI a = nI (26 + a) from nI_add 26 a, chk_t (ix_n (by omega) (by omega)), cl_n (show 26 + a < 2 ^ 31 by omega), (hw' a ha).1]
        unfold f_X4_inspector_b75 f_X5_inspector_b85
        dsimp only
        rw [eg]
        have hge : pre (ga (fun i => m_told (26 + i)) (fun i => m_told (19 + i)) (nI h) (op (fun i => m_told (14 + i)) (nI h) n) (nI p)) m_gets n a = nI g := (pre_in ha).trans ((ga_same hn ha hw' _ _).trans eg)
        have fin : ∀ w, w < 2 → ∀ l0 ah ge lb ah' (ge' : Nat → Int32), ge' a = nI g → ∃ (ox : Int32 × Int32 × Int32 × Int32 × (Nat → Int32) × (Nat → Int32)) (om : Int32 × Int32 × (Nat → Int32) × (Nat → Int32) × (Nat → Int32) × (Nat → Int32) × (Nat → Int32)), f_X4_inspector_b83 FU (nI a) (nI h) (nI p) (nI n) hours kind wanted FU (nI g) (nI w) 0 0 x_bads x_nos l0 ah ge = some ox ∧ f_X5_inspector_b89 FU (nI a) (nI h) m_told FU (nI w) 0 lb ah' ge' m_refused m_his m_its = some om ∧ ox.1 = om.1 ∧ Rel x_above x_below ox.2.1 ox.2.2.1 x_fulls (nI p) day (nI n) lefts notes undos kind wanted hours had due leftHour leftPressure note past len text m_told om.2.2.2.2.1 m_bytes m_above m_below m_bytesLong := by
          intro w hw2 l0 ah ge lb ah' ge' hge'
          obtain ⟨his', its', e1, e2⟩ := insp89_m (F := FU) (a := a) (w := w) (ltF (by omega)) (by omega) (nI h) m_told lb ah' ge' hge' m_refused m_his m_its
          rw [insp_x (ltF (by omega)) hg hw2, e1, insp196_m (ltF (by omega)) _ _ _ _ _ _ _ e2]
          exact ⟨_, _, rfl, rfl, rfl, hR⟩
        by_cases hk : kind a = 3
        · rw [if_pos hk, if_pos hk]
          exact fin 1 (by omega) _ _ _ _ _ _ hge
        · rw [if_neg hk, if_neg hk]
          exact fin 0 (by omega) _ _ _ _ _ _ hge
      · rw [if_neg ho, if_pos rfl, if_pos rfl, no_m, Option.bind_some]
        exact ⟨_, _, rfl, rfl, rfl, Rel_no hR⟩

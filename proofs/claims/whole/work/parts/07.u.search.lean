/-! PURE: the search of the class -/
def valF (bd : Int32) (K : Nat → Int32) (i : Nat) (g : Int32) : Int32 := if bd = 0 then g else -(kd (K i) g)
def StR (n : Nat) (st : Option (Int32 × (Nat → Nat))) (f bw : Int32) (bway : Nat → Int32) : Prop :=
  match st with
  | none => f = 0
  | some x => f = 1 ∧ bw = x.1 ∧ ∀ j, j < n → bway j = nI (x.2 j)
theorem like4_x {F : Nat} (rest : Nat → Int32) {h : Nat} (hh : h < 8) : ∀ k m, k < 8 → k + 1 < m → ∃ b, f_X3_isLikeAnEarlierOne_b4 F (nI h) rest m (nI k) = some (fl b) ∧ (b = true → ∃ j, j ≤ k ∧ j % 2 = k % 2 ∧ rest j = rest h) := by
  intro k
  induction k using Nat.strongRecOn with
  | ind k ih =>
    intro m hk hm
    obtain ⟨m, rfl⟩ : ∃ q, m = q + 1 := ⟨m - 1, by omega⟩
    rw [f_X3_isLikeAnEarlierOne_b4, if_neg (show ¬ nI k < (0 : Int32) from nI_nlt (b := 0) (by omega) (by omega)), chk_t (ix_n hk (by omega)), chk_t (ix_n hh (by omega)), cl_n (show k < 2 ^ 31 by omega), cl_n (show h < 2 ^ 31 by omega)]
    by_cases c : rest k = rest h
    · rw [if_pos c]
      exact ⟨true, rfl, fun _ => ⟨k, Nat.le_refl k, rfl, c⟩⟩
    · rw [if_neg c]
      by_cases h2 : 2 ≤ k
      · rw [show nI k + (-2 : Int32) = nI (k - 2) from (Int32.sub_eq_add_neg (nI k) 2).symm.trans (pk_sub (b := 2) h2)]
        obtain ⟨b, e1, e2⟩ := ih (k - 2) (by omega) m (by omega) (by omega)
        refine ⟨b, e1, fun hb => ?_⟩
        obtain ⟨j, j1, j2, j3⟩ := e2 hb
        exact ⟨j, by omega, by omega, j3⟩
      · obtain ⟨m, rfl⟩ : ∃ q, m = q + 1 := ⟨m - 1, by omega⟩
        refine ⟨false, ?_, fun z => absurd z (by decide)⟩
        rcases (show k = 0 ∨ k = 1 by omega) with rfl | rfl
        · rw [f_X3_isLikeAnEarlierOne_b4, if_pos (by decide)]; rfl
        · rw [f_X3_isLikeAnEarlierOne_b4, if_pos (by decide)]; rfl
theorem like_x {F : Nat} (hF : 200 < F) (rest : Nat → Int32) {h : Nat} (hh : h < 8) : ∃ b, f_X3_isLikeAnEarlierOne F (nI h) rest = some (fl b) ∧ (b = true → ∃ k, k < h ∧ k % 2 = h % 2 ∧ rest k = rest h) := by
  unfold f_X3_isLikeAnEarlierOne
  by_cases h2 : 2 ≤ h
  · rw [show nI h - (2 : Int32) = nI (h - 2) from pk_sub (b := 2) h2]
    obtain ⟨b, e1, e2⟩ := like4_x (F := F) rest hh (h - 2) F (by omega) (by omega)
    refine ⟨b, e1, fun hb => ?_⟩
    obtain ⟨j, j1, j2, j3⟩ := e2 hb
    exact ⟨j, by omega, by omega, j3⟩
  · obtain ⟨m, hm⟩ : ∃ q, F = q + 1 := ⟨F - 1, by omega⟩
    refine ⟨false, ?_, fun z => absurd z (by decide)⟩
    have : ∀ G, f_X3_isLikeAnEarlierOne_b4 G (nI h) rest F (nI h - 2) = some (fl false) := by
      intro G
      rw [hm]
      rcases (show h = 0 ∨ h = 1 by omega) with rfl | rfl
      · rw [f_X3_isLikeAnEarlierOne_b4, if_pos (by decide)]; rfl
      · rw [f_X3_isLikeAnEarlierOne_b4, if_pos (by decide)]; rfl
    exact this F
theorem leaf_x {F n : Nat} (hn : n ≤ 5) {st : Option (Int32 × (Nat → Nat))} {f bw v : Int32} {way bway : Nat → Int32} {w : Nat → Nat} (hS : StR n st f bw bway) (hw : ∀ j, j < n → way j = nI (w j)) :
    ∃ r, f_X3_keepIfBetter F v way f bw bway = some r ∧ StR n (cmb st (some (v, w))) r.1 r.2.1 r.2.2 := by
  have hk : f_X3_keepIfBetter_b16 F v way f bw bway = some (1, v, va_cpy way bway 0 0 5) := by
    unfold f_X3_keepIfBetter_b16
    rw [chk_t (by decide)]
    rfl
  have hnew : StR n (some (v, w)) 1 v (va_cpy way bway 0 0 5) := ⟨rfl, rfl, fun j hj => (cpy_at (i := j) (by omega) (by omega) (by omega)).trans (hw j hj)⟩
  unfold f_X3_keepIfBetter
  cases st with
  | none =>
    rw [if_pos (show f = 0 from hS), hk]
    exact ⟨_, rfl, hnew⟩
  | some x =>
    obtain ⟨h1, h2, h3⟩ := hS
    rw [if_neg (by rw [h1]; decide), hk]
    show ∃ r, (if bw < v then some (1, v, va_cpy way bway 0 0 5) else some (f, bw, bway)) = some r ∧ StR n (if x.1 < v then some (v, w) else some x) r.1 r.2.1 r.2.2
    rw [h2]
    by_cases c : x.1 < v
    · rw [if_pos c, if_pos c]
      exact ⟨_, rfl, hnew⟩
    · rw [if_neg c, if_neg c]
      exact ⟨_, rfl, h1, rfl, h3⟩
theorem choose_x {F n : Nat} (hF : 200 < F) (hn : n ≤ 5) (bd p : Int32) (K Q mg : Nat → Int32) : ∀ d e i w st f bw (rest way bway : Nat → Int32), d < e → i + d = n →
    (∀ h, h < 8 → rest h = rsW K Q p w i h) → (∀ j, j < i → way j = nI (w j)) → StR n st f bw bway →
    ∃ r, f_X3_choose F e (nI i) (svW (valF bd K) K Q p w i) (nI n) K Q bd mg f bw rest way bway = some r ∧ (∀ h, h < 8 → r.2.2.1 h = rest h) ∧ (∀ j, j < i → r.2.2.2.1 j = way j) ∧ StR n (cmb st (bpW (valF bd K) mg K Q p d i w)) r.1 r.2.1 r.2.2.2.2 := by
  intro d
  induction d with
  | zero =>
    intro e i w st f bw rest way bway he hi hr hw hS
    obtain ⟨e, rfl⟩ : ∃ q, e = q + 1 := ⟨e - 1, by omega⟩
    obtain rfl : i = n := by omega
    obtain ⟨r, e1, e2⟩ := leaf_x (F := F) (v := svW (valF bd K) K Q p w i) hn hS hw
    rw [f_X3_choose, if_pos (nI_le (Nat.le_refl _) (by omega))]
    unfold f_X3_choose_b13
    rw [e1]
    exact ⟨_, rfl, fun h _ => rfl, fun j _ => rfl, e2⟩
  | succ d ih =>
    intro e i w st f bw rest way bway he hi hr hw hS
    obtain ⟨e, rfl⟩ : ∃ q, e = q + 1 := ⟨e - 1, by omega⟩
    rw [f_X3_choose, if_neg (nI_ge (by omega) (by omega)), if_pos (show nI i < (5 : Int32) from nI_lt (b := 5) (by omega) (by omega))]
    have hL := loopI (σ := Int32 × Int32 × (Nat → Int32) × (Nat → Int32) × (Nat → Int32))
      (fun m k s => f_X3_choose_b22 F (nI i) (svW (valF bd K) K Q p w i) (nI n) K Q bd mg (f_X3_choose F e) m (nI k) s.1 s.2.1 s.2.2.1 s.2.2.2.1 s.2.2.2.2)
      (fun k s => (∀ h, h < 8 → s.2.2.1 h = rest h) ∧ (∀ j, j < i → s.2.2.2.1 j = way j) ∧ StR n (cmb st (foldH (fun h => if okB mg i (gW K Q p (updN w i h) i) = true then bpW (valF bd K) mg K Q p d (i + 1) (updN w i h) else none) k)) s.1 s.2.1 s.2.2.2.2)
      (fun r => (∀ h, h < 8 → r.2.2.1 h = rest h) ∧ (∀ j, j < i → r.2.2.2.1 j = way j) ∧ StR n (cmb st (bpW (valF bd K) mg K Q p (d + 1) i w)) r.1 r.2.1 r.2.2.2.2)
      8 ?_ ?_ F (f, bw, rest, way, bway) (by omega) ⟨fun h _ => rfl, fun j _ => rfl, by rw [foldH, cmb_none]; exact hS⟩
    · exact hL
    · intro k m s hk hI
      obtain ⟨s1, s2, s3, s4, s5⟩ := s
      obtain ⟨i1, i2, i3⟩ := hI
      dsimp only at i1 i2 i3 ⊢
      have hg : kg (K i) (Q i) (nI k) (s3 k) = gW K Q p (updN w i k) i := by rw [gW_upd, i1 k hk, hr k hk]
      rw [f_X3_choose_b22, if_neg (show ¬ (8 : Int32) ≤ nI k from nI_ge (b := 8) hk (by omega)), chk_t (ix_n (by omega) (by omega)), chk_t (ix_n (by omega) (by omega)), chk_t (ix_n hk (by omega)), cl_n (show i < 2 ^ 31 by omega), cl_n (show k < 2 ^ 31 by omega), kg_x, Option.bind_some, chk_t (ix_n (by omega) (by omega)), hg]
      unfold f_X3_choose_b145
      rw [nI_1 k]
      by_cases c1 : gW K Q p (updN w i k) i < mg i
      · rw [if_pos c1]
        refine ⟨(s1, s2, s3, s4, s5), ⟨i1, i2, ?_⟩, rfl⟩
        rw [foldH, if_neg (by unfold okB; rw [decide_eq_true c1]; decide), cmb_none]
        exact i3
      · have hok : okB mg i (gW K Q p (updN w i k) i) = true := by unfold okB; rw [decide_eq_false c1]; rfl
        rw [if_neg c1]
        obtain ⟨b, e1, e2⟩ := like_x (F := F) hF s3 hk
        rw [e1, Option.bind_some]
        cases b with
        | true =>
          rw [if_neg (show ¬ fl true = 0 by decide)]
          refine ⟨(s1, s2, s3, s4, s5), ⟨i1, i2, ?_⟩, rfl⟩
          obtain ⟨k', j1, j2, j3⟩ := e2 rfl
          rw [i1 k' (by omega), i1 k hk, hr k' (by omega), hr k hk] at j3
          have hl := bp_like (val := valF bd K) (mg := mg) (K := K) (Q := Q) (p := p) (d := d) (i := i) (w := w) hk j1 j2 j3
          rw [foldH, cmb_le (leV_trans hl (foldH_ge (f := fun h => if okB mg i (gW K Q p (updN w i h) i) = true then bpW (valF bd K) mg K Q p d (i + 1) (updN w i h) else none) j1))]
          exact i3
        | false =>
          rw [if_pos (show fl false = 0 by decide), chk_t (ix_n (by omega) (by omega)), chk_t (ix_n hk (by omega)), chk_t (ix_n hk (by omega))]
          have hv : svW (valF bd K) K Q p (updN w i k) (i + 1) = svW (valF bd K) K Q p w i + valF bd K i (gW K Q p (updN w i k) i) := by rw [svW_upd, gW_upd]
          obtain ⟨r, r1, r2, r3, r4⟩ := ih e (i + 1) (updN w i k) (cmb st (foldH (fun h => if okB mg i (gW K Q p (updN w i h) i) = true then bpW (valF bd K) mg K Q p d (i + 1) (updN w i h) else none) k)) s1 s2 (upd s3 k (s3 k - gW K Q p (updN w i k) i)) (upd s4 i (nI k)) s5 (by omega) (by omega)
            (fun h hh => by
              rw [rsW_upd]
              by_cases c : k = h
              · subst c; rw [pk_us, if_pos rfl, gW_upd, i1 k hk, hr k hk]
              · rw [pk_un (fun z => c z.symm), if_neg c, i1 h hh, hr h hh])
            (fun j hj => by
              by_cases c : j = i
              · subst c; rw [pk_us, updN_s]
              · rw [pk_un c, updN_n c, i2 j (by omega), hw j (by omega)]) i3
          have hK : f_X3_choose_b130 F (nI i) (svW (valF bd K) K Q p w i) (nI n) K Q bd mg (f_X3_choose F e) (fun v4 a b c d e' => (f_X3_choose_b22 F (nI i) (svW (valF bd K) K Q p w i) (nI n) K Q bd mg (f_X3_choose F e) m) (v4 + 1) a b c d e') (nI k) (gW K Q p (updN w i k) i) (nI i + 1) (svW (valF bd K) K Q p (updN w i k) (i + 1)) s1 s2 (upd s3 k (s3 k - gW K Q p (updN w i k) i)) (upd s4 i (nI k)) s5
              = f_X3_choose_b22 F (nI i) (svW (valF bd K) K Q p w i) (nI n) K Q bd mg (f_X3_choose F e) m (nI (k + 1)) r.1 r.2.1 (upd r.2.2.1 k (r.2.2.1 k + gW K Q p (updN w i k) i)) r.2.2.2.1 r.2.2.2.2 := by
            unfold f_X3_choose_b130
            rw [nI_1, r1, Option.bind_some, chk_t (ix_n hk (by omega)), chk_t (ix_n hk (by omega)), cl_n (show k < 2 ^ 31 by omega)]
            dsimp only
            rw [nI_1]
          refine ⟨(r.1, r.2.1, upd r.2.2.1 k (r.2.2.1 k + gW K Q p (updN w i k) i), r.2.2.2.1, r.2.2.2.2), ⟨fun h hh => ?_, fun j hj => ?_, ?_⟩, ?_⟩
          · dsimp only
            by_cases c : h = k
            · subst c
              rw [pk_us, r2 h hh, pk_us, Int32.sub_add_cancel, i1 h hh]
            · rw [pk_un c, r2 h hh, pk_un c, i1 h hh]
          · dsimp only
            rw [r3 j (by omega), pk_un (by omega), i2 j hj]
          · dsimp only
            rw [foldH, if_pos hok, ← cmb_assoc]
            exact r4
          · refine Eq.trans ?_ hK
            rw [hv]
            unfold valF
            by_cases cb : bd = 0
            · rw [if_pos cb, if_pos cb]
            · rw [if_neg cb, if_neg cb, chk_t (ix_n (by omega) (by omega)), kd_x, Option.bind_some, ← Int32.sub_eq_add_neg]
    · intro m s hI
      obtain ⟨s1, s2, s3, s4, s5⟩ := s
      refine ⟨(s1, s2, s3, s4, s5), ?_, hI⟩
      show f_X3_choose_b22 F (nI i) (svW (valF bd K) K Q p w i) (nI n) K Q bd mg (f_X3_choose F e) (m + 1) (nI 8) s1 s2 s3 s4 s5 = _
      rw [f_X3_choose_b22, if_pos (show (8 : Int32) ≤ nI 8 by decide)]
theorem start_x {F n : Nat} (hF : 200 < F) (hn : n ≤ 5) (bd p : Int32) (K Q mg : Nat → Int32) (f bw : Int32) (rest way bway : Nat → Int32) :
    ∃ r, f_X3_start F bd p (nI n) K Q mg f bw rest way bway = some r ∧ StR n (bpW (valF bd K) mg K Q p n 0 (fun _ => 0)) r.1 r.2.1 r.2.2.2.2 := by
  unfold f_X3_start
  have key : ∀ f bw, f_X3_start_b12 F bd p (nI n) K Q mg F 0 f bw rest way bway = f_X3_start_b12 F bd p (nI n) K Q mg 1 (nI 8) f bw (pre (fun _ => p) rest 8) way bway := by
    intro f bw
    have key := loopN (fun m k => f_X3_start_b12 F bd p (nI n) K Q mg m (nI k) f bw (pre (fun _ => p) rest k) way bway) (f_X3_start_b12 F bd p (nI n) K Q mg 1 (nI 8) f bw (pre (fun _ => p) rest 8) way bway) 8 ?_ ?_ F (by omega)
    · simpa only [pre_0, z0n] using key
    · intro k m hk
      show f_X3_start_b12 F bd p (nI n) K Q mg (m + 1) (nI k) f bw (pre (fun _ => p) rest k) way bway = f_X3_start_b12 F bd p (nI n) K Q mg m (nI (k + 1)) f bw (pre (fun _ => p) rest (k + 1)) way bway
      rw [f_X3_start_b12, if_neg (show ¬ (8 : Int32) ≤ nI k from nI_ge (b := 8) hk (by omega)), chk_t (ix_n hk (by omega)), cl_n (by omega), nI_1, ← pre_s (fun _ => p) rest k]
    · intro m
      show f_X3_start_b12 F bd p (nI n) K Q mg (m + 1) (nI 8) f bw (pre (fun _ => p) rest 8) way bway = _
      rw [f_X3_start_b12, if_pos (show (8 : Int32) ≤ nI 8 by decide), f_X3_start_b12, if_pos (show (8 : Int32) ≤ nI 8 by decide)]
  rw [key, f_X3_start_b12, if_pos (show (8 : Int32) ≤ nI 8 by decide)]
  obtain ⟨r, r1, -, -, r4⟩ := choose_x (F := F) hF hn bd p K Q mg n 6 0 (fun _ => 0) none 0 0 (pre (fun _ => p) rest 8) way bway (by omega) (by omega) (fun h hh => pre_in hh) (fun j hj => absurd hj (Nat.not_lt_zero j)) rfl
  rw [show f_X3_choose F 6 0 0 (nI n) K Q bd mg 0 0 (pre (fun _ => p) rest 8) way bway = some r from r1]
  exact ⟨_, rfl, r4⟩

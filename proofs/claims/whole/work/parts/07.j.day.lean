/-! PURE: days go by -/
theorem sm_add (f g : Nat → Int32) : ∀ n, sm f n + sm g n = sm (fun i => f i + g i) n
  | 0 => rfl
  | n + 1 => by
    show (sm f n + f n) + (sm g n + g n) = sm (fun i => f i + g i) n + (f n + g n)
    rw [← sm_add f g n, Int32.add_assoc, Int32.add_assoc, ← Int32.add_assoc (f n), Int32.add_comm (f n) (sm g n), Int32.add_assoc]
theorem passDay38_x {F n : Nat} (hF : n < F) (hn : n ≤ 5) (p : Int32) (H K Q : Nat → Int32) (K16 : Int32 → Int32 → Int32 → Int32 → (Nat → Int32) → (Nat → Int32) → (Nat → Int32) → (Nat → Int32) → Option (Int32 × Int32 × Int32 × (Nat → Int32) × (Nat → Int32) × (Nat → Int32) × (Nat → Int32))) (v1 v2 day l0 : Int32) (ah ge had due : Nat → Int32) :
    f_X1_passDay_b38 F p (nI n) H K Q K16 F v1 v2 0 day l0 ah ge had due = K16 (v1 + sm ge n) (v2 + 1) day l0 ah ge (pre (fun i => had i + ge i) had n) (pre (fun i => due i + kd (K i) (ge i)) due n) := by
  have key := loopN (fun m k => f_X1_passDay_b38 F p (nI n) H K Q K16 m (v1 + sm ge k) v2 (nI k) day l0 ah ge (pre (fun i => had i + ge i) had k) (pre (fun i => due i + kd (K i) (ge i)) due k)) (K16 (v1 + sm ge n) (v2 + 1) day l0 ah ge (pre (fun i => had i + ge i) had n) (pre (fun i => due i + kd (K i) (ge i)) due n)) n ?_ ?_ F hF
  · simpa only [pre_0, z0n, sm, Int32.add_zero] using key
  · intro k m hk
    show f_X1_passDay_b38 F p (nI n) H K Q K16 (m + 1) (v1 + sm ge k) v2 (nI k) day l0 ah ge (pre (fun i => had i + ge i) had k) (pre (fun i => due i + kd (K i) (ge i)) due k) = f_X1_passDay_b38 F p (nI n) H K Q K16 m (v1 + (sm ge k + ge k)) v2 (nI (k + 1)) day l0 ah ge (pre (fun i => had i + ge i) had (k + 1)) (pre (fun i => due i + kd (K i) (ge i)) due (k + 1))
    rw [f_X1_passDay_b38, if_neg (nI_ge hk (by omega))]
    simp only [chk_t (ix_n (show k < 5 by omega) (by omega)), kd_x, Option.bind_some, cl_n (show k < 2 ^ 31 by omega), nI_1]
    rw [pre_out (Nat.le_refl k), pre_out (Nat.le_refl k), ← pre_s (fun i => had i + ge i) had k, ← pre_s (fun i => due i + kd (K i) (ge i)) due k, Int32.add_assoc]
  · intro m
    show f_X1_passDay_b38 F p (nI n) H K Q K16 (m + 1) _ v2 (nI n) day l0 ah ge _ _ = _
    rw [f_X1_passDay_b38, if_pos (nI_le (Nat.le_refl n) (by omega))]
theorem passDay_x {F n d : Nat} (hF : 8 < F) (hn : n ≤ 5) (hd : d < 999) (p : Int32) (H K Q : Nat → Int32) (l0 : Int32) (ah ge had due : Nat → Int32) :
    ∃ r, f_X1_passDay F p (nI n) H K Q (nI d) l0 ah ge had due = some r ∧ (r.1 = sm (fun i => dG K Q (fun h => op H (nI h) n) p i 8) n ∧ r.2.1 = nI (d + 1) ∧
      ∀ i, i < n → r.2.2.2.2.2.1 i = had i + dG K Q (fun h => op H (nI h) n) p i 8 ∧ r.2.2.2.2.2.2 i = due i + dD K Q (fun h => op H (nI h) n) p i 8) := by
  unfold f_X1_passDay
  rw [if_pos (show nI d < (999 : Int32) from nI_lt (b := 999) (by omega) (by omega))]
  refine loopI (σ := Int32 × Int32 × (Nat → Int32) × (Nat → Int32) × (Nat → Int32) × (Nat → Int32)) (fun m k s => f_X1_passDay_b16 F p (nI n) H K Q m s.1 (nI k) (nI d) s.2.1 s.2.2.1 s.2.2.2.1 s.2.2.2.2.1 s.2.2.2.2.2) (fun k s => s.1 = sm (fun i => dG K Q (fun h => op H (nI h) n) p i k) n ∧ ∀ i, i < n → s.2.2.2.2.1 i = had i + dG K Q (fun h => op H (nI h) n) p i k ∧ s.2.2.2.2.2 i = due i + dD K Q (fun h => op H (nI h) n) p i k) _ 8 ?_ ?_ F (0, l0, ah, ge, had, due) hF ?_
  · intro k m s hk hI
    refine ⟨(s.1 + sm (pre (ga K Q (nI k) (op H (nI k) n) p) s.2.2.2.1 n) n, lo K Q (nI k) (op H (nI k) n) p n, pre (lo K Q (nI k) (op H (nI k) n) p) s.2.2.1 n, pre (ga K Q (nI k) (op H (nI k) n) p) s.2.2.2.1 n, pre (fun i => s.2.2.2.2.1 i + pre (ga K Q (nI k) (op H (nI k) n) p) s.2.2.2.1 n i) s.2.2.2.2.1 n, pre (fun i => s.2.2.2.2.2 i + kd (K i) (pre (ga K Q (nI k) (op H (nI k) n) p) s.2.2.2.1 n i)) s.2.2.2.2.2 n), ⟨?_, ?_⟩, ?_⟩
    · show s.1 + _ = sm (fun i => dG K Q (fun h => op H (nI h) n) p i k + ga K Q (nI k) (op H (nI k) n) p i) n
      rw [hI.1, ← sm_add, sm_cong (f := pre _ _ n) (g := ga K Q (nI k) (op H (nI k) n) p) (fun i hi => pre_in hi)]
    · intro i hi
      dsimp only
      simp only [pre_in hi]
      rw [(hI.2 i hi).1, (hI.2 i hi).2, Int32.add_assoc, Int32.add_assoc]
      exact ⟨rfl, rfl⟩
    · show f_X1_passDay_b16 F p (nI n) H K Q (m + 1) s.1 (nI k) (nI d) s.2.1 s.2.2.1 s.2.2.2.1 s.2.2.2.2.1 s.2.2.2.2.2 = _
      rw [f_X1_passDay_b16, if_neg (show ¬ (8 : Int32) ≤ nI k from nI_ge (b := 8) hk (by omega)), openIn_x (by omega) hn, Option.bind_some, runHour_x (by omega) hn, Option.bind_some]
      dsimp only
      rw [passDay38_x (by omega) hn, nI_1]
  · intro m s hI
    refine ⟨(s.1, nI d + 1, s.2.1, s.2.2.1, s.2.2.2.1, s.2.2.2.2.1, s.2.2.2.2.2), ?_, hI.1, nI_1 d, hI.2⟩
    show f_X1_passDay_b16 F p (nI n) H K Q (m + 1) s.1 (nI 8) (nI d) s.2.1 s.2.2.1 s.2.2.2.1 s.2.2.2.2.1 s.2.2.2.2.2 = _
    rw [f_X1_passDay_b16, if_pos (show (8 : Int32) ≤ nI 8 from by decide)]
  · refine ⟨?_, fun i _ => ⟨(Int32.add_zero _).symm, (Int32.add_zero _).symm⟩⟩
    have z : ∀ m, sm (fun i => dG K Q (fun h => op H (nI h) n) p i 0) m = 0 := fun m => by
      induction m with
      | zero => rfl
      | succ m ih => show sm _ m + 0 = 0; rw [ih]; rfl
    exact (z n).symm
/-- the cells told, k wells on in a day -/
def pdT (t G D : Nat → Int32) (k : Nat) : Nat → Int32 := fun j => if 4 ≤ j ∧ j < 4 + k then t j + G (j - 4) else if 9 ≤ j ∧ j < 9 + k then t j + D (j - 9) else t j
theorem pdT_0 (t G D : Nat → Int32) : pdT t G D 0 = t := by
  funext j; unfold pdT; rw [if_neg (by omega), if_neg (by omega)]
theorem pdT_s (t G D : Nat → Int32) {k : Nat} (hk : k < 5) : upd (upd (pdT t G D k) (4 + k) (pdT t G D k (4 + k) + G k)) (9 + k) (upd (pdT t G D k) (4 + k) (pdT t G D k (4 + k) + G k) (9 + k) + D k) = pdT t G D (k + 1) := by
  funext j
  unfold upd
  by_cases h9 : j = 9 + k
  · rw [if_pos h9, if_neg (by omega)]
    unfold pdT
    rw [if_neg (by omega), if_neg (by omega), if_neg (by omega), if_pos (by omega), h9, show 9 + k - 9 = k by omega]
  · rw [if_neg h9]
    by_cases h4 : j = 4 + k
    · rw [if_pos h4]
      unfold pdT
      rw [if_neg (by omega), if_neg (by omega), if_pos (by omega), h4, show 4 + k - 4 = k by omega]
    · rw [if_neg h4]
      unfold pdT
      by_cases a : 4 ≤ j ∧ j < 4 + k
      · rw [if_pos a, if_pos (show 4 ≤ j ∧ j < 4 + (k + 1) by omega)]
      · rw [if_neg a, if_neg (show ¬ (4 ≤ j ∧ j < 4 + (k + 1)) by omega)]
        by_cases b : 9 ≤ j ∧ j < 9 + k
        · rw [if_pos b, if_pos (show 9 ≤ j ∧ j < 9 + (k + 1) by omega)]
        · rw [if_neg b, if_neg (show ¬ (9 ≤ j ∧ j < 9 + (k + 1)) by omega)]
theorem pdT_no {t G D : Nat → Int32} {k j : Nat} (hk : k ≤ 5) (h : j < 4 ∨ 14 ≤ j) : pdT t G D k j = t j := by
  unfold pdT; rw [if_neg (by omega), if_neg (by omega)]
theorem passDay_mN {F n d N : Nat} (hN : 31 ≤ N) (hN2 : N < 2 ^ 31) (hF : 8 < F) (hn : n ≤ 5) {t K Q H : Nat → Int32} {p : Int32} (h0 : t 0 = nI n) (h24 : t 24 = p) (h25 : t 25 = nI d) (hw : ∀ j, j < n → t (26 + j) = K j ∧ t (19 + j) = Q j ∧ t (14 + j) = H j) (lb : Int32) (dg dd ah ge : Nat → Int32) :
    ∃ r, f_X5_passDay F N lb t dg dd ah ge = some r ∧ (r.1 = sm (fun i => dG K Q (fun h => op H (nI h) n) p i 8) n ∧ 
      (∀ i, i < n → r.2.2.1 (4 + i) = t (4 + i) + dG K Q (fun h => op H (nI h) n) p i 8 ∧ r.2.2.1 (9 + i) = t (9 + i) + dD K Q (fun h => op H (nI h) n) p i 8) ∧ r.2.2.1 25 = nI (d + 1) ∧ ∀ j, j < 4 ∨ 14 ≤ j → ¬ j = 25 → r.2.2.1 j = t j) := by
  unfold f_X5_passDay
  obtain ⟨r, e1, e2⟩ := layDay0_m (F := F) (N := N) hF hn hN hN2 (t 24) h0 hw lb dg dd ah ge
  rw [chk_t (ix_e (x := 24) (k := 24) rfl (by omega) hN2), show t (24 : Int32).toNatClampNeg = t 24 from rfl, e1, Option.bind_some]
  have key := loopN (fun m k => f_X5_passDay_b14 F N m (sm r.2.1 k) (nI k) r.1 (pdT t r.2.1 r.2.2.1 k) r.2.1 r.2.2.1 r.2.2.2.1 r.2.2.2.2) (some (sm r.2.1 n, r.1, upd (pdT t r.2.1 r.2.2.1 n) 25 (nI (d + 1)), r.2.1, r.2.2.1, r.2.2.2.1, r.2.2.2.2)) n ?_ ?_ F (by omega)
  · rw [pdT_0] at key
    refine ⟨_, key, ?_, fun i hi => ?_, ?_, fun j hj h => ?_⟩
    · exact sm_cong (fun i hi => by rw [(e2 i hi).1, h24])
    · dsimp only
      rw [pk_un (by omega), pk_un (by omega), ← h24, ← (e2 i hi).1, ← (e2 i hi).2]
      unfold pdT
      rw [if_pos (by omega), if_neg (by omega), if_pos (by omega), show 4 + i - 4 = i by omega, show 9 + i - 9 = i by omega]
      exact ⟨rfl, rfl⟩
    · dsimp only
      exact pk_us
    · dsimp only
      rw [pk_un (by omega), pdT_no hn hj]
  · intro k m hk
    show f_X5_passDay_b14 F N (m + 1) (sm r.2.1 k) (nI k) r.1 (pdT t r.2.1 r.2.2.1 k) r.2.1 r.2.2.1 r.2.2.2.1 r.2.2.2.2 = f_X5_passDay_b14 F N m (sm r.2.1 k + r.2.1 k) (nI (k + 1)) r.1 (pdT t r.2.1 r.2.2.1 (k + 1)) r.2.1 r.2.2.1 r.2.2.2.1 r.2.2.2.2
    rw [f_X5_passDay_b14, chk_t (ix_e (x := 0) (k := 0) rfl (by omega) hN2), show pdT t r.2.1 r.2.2.1 k (0 : Int32).toNatClampNeg = nI n from (pdT_no (by omega) (Or.inl (by decide))).trans h0, if_neg (nI_ge hk (by omega)), show (4 : Int32) + nI k = nI (4 + k) from nI_add 4 k, show (9 : Int32) + nI k = nI (9 + k) from nI_add 9 k]
    simp only [chk_t (ix_n (show k < 5 by omega) (by omega)), chk_t (ix_n (show 4 + k < N by omega) hN2), chk_t (ix_n (show 9 + k < N by omega) hN2), cl_n (show k < 2 ^ 31 by omega), cl_n (show 4 + k < 2 ^ 31 by omega), cl_n (show 9 + k < 2 ^ 31 by omega), nI_1]
    rw [pdT_s t r.2.1 r.2.2.1 (by omega)]
  · intro m
    show f_X5_passDay_b14 F N (m + 1) _ (nI n) r.1 _ _ _ _ _ = _
    rw [f_X5_passDay_b14, chk_t (ix_e (x := 0) (k := 0) rfl (by omega) hN2), show pdT t r.2.1 r.2.2.1 n (0 : Int32).toNatClampNeg = nI n from (pdT_no (by omega) (Or.inl (by decide))).trans h0, if_pos (nI_le (Nat.le_refl n) (by omega)), chk_t (ix_e (x := 25) (k := 25) rfl (by omega) hN2), chk_t (ix_e (x := 25) (k := 25) rfl (by omega) hN2),
      show pdT t r.2.1 r.2.2.1 n (25 : Int32).toNatClampNeg = nI d from (pdT_no (by omega) (Or.inr (by decide))).trans h25, nI_1]
    rfl
theorem passDay_m {F n d : Nat} (hF : 8 < F) (hn : n ≤ 5) {t K Q H : Nat → Int32} {p : Int32} (h0 : t 0 = nI n) (h24 : t 24 = p) (h25 : t 25 = nI d) (hw : ∀ j, j < n → t (26 + j) = K j ∧ t (19 + j) = Q j ∧ t (14 + j) = H j) (lb : Int32) (dg dd ah ge : Nat → Int32) :
    ∃ r, f_X5_passDay F 251 lb t dg dd ah ge = some r ∧ (r.1 = sm (fun i => dG K Q (fun h => op H (nI h) n) p i 8) n ∧ 
      (∀ i, i < n → r.2.2.1 (4 + i) = t (4 + i) + dG K Q (fun h => op H (nI h) n) p i 8 ∧ r.2.2.1 (9 + i) = t (9 + i) + dD K Q (fun h => op H (nI h) n) p i 8) ∧ r.2.2.1 25 = nI (d + 1) ∧ ∀ j, j < 4 ∨ 14 ≤ j → ¬ j = 25 → r.2.2.1 j = t j) :=
  passDay_mN (by omega) (by omega) hF hn h0 h24 h25 hw lb dg dd ah ge
/-- a day on -/
theorem PR_day {pr lefts notes undos : Int32} {n d : Nat} {kind wanted hours had due had' due' leftHour leftPressure note past told t' : Nat → Int32} (hd : d < 999) (hn : n ≤ 5) {G D : Nat → Int32} (h : PR pr (nI d) (nI n) lefts notes undos kind wanted hours had due leftHour leftPressure note past told)
    (hh : ∀ i, i < n → had' i = had i + G i ∧ due' i = due i + D i) (ht' : ∀ i, i < n → t' (4 + i) = told (4 + i) + G i ∧ t' (9 + i) = told (9 + i) + D i) (h25 : t' 25 = nI (d + 1)) (hk : ∀ j, j < 4 ∨ 14 ≤ j → ¬ j = 25 → t' j = told j) :
    PR pr (nI (d + 1)) (nI n) lefts notes undos kind wanted hours had' due' leftHour leftPressure note past t' := by
  obtain ⟨n', nl, nn, nu, d', p, ⟨h1, h2, h3, h4, h5, h6, h7, h8, h9, h10, h11, h12⟩, ht, hw, hl, hno, hp⟩ := h
  obtain rfl : n = n' := (nI_eq (by omega) (by omega)).mp h1
  refine ⟨n, nl, nn, nu, d + 1, p, ⟨h1, h2, h3, h4, h5, h6, h7, h8, rfl, by omega, h11, h12⟩, ?_, fun i hi => ?_, fun k hk2 => ?_, fun k hk2 => ?_, fun k hk2 => ?_⟩
  · rw [hk 0 (by omega) (by omega), hk 1 (by omega) (by omega), hk 2 (by omega) (by omega), hk 3 (by omega) (by omega), hk 24 (by omega) (by omega)]
    exact ⟨ht.1, ht.2.1, ht.2.2.1, ht.2.2.2.1, ht.2.2.2.2.1, h25⟩
  · obtain ⟨b0, b1, b2, b3, b4, b5, b6⟩ := hw i hi
    rw [hk (26 + i) (by omega) (by omega), hk (19 + i) (by omega) (by omega), hk (14 + i) (by omega) (by omega), (ht' i hi).1, (ht' i hi).2, (hh i hi).1, (hh i hi).2, b5, b6]
    exact ⟨b0, b1, b2, b3, b4, rfl, rfl⟩
  · rw [hk (31 + 2 * k) (by omega) (by omega), hk (32 + 2 * k) (by omega) (by omega)]
    exact hl k hk2
  · refine ⟨(hno k hk2).1, fun j hj => ?_⟩
    rw [hk (39 + 6 * k + j) (by omega) (by omega)]
    exact (hno k hk2).2 j hj
  · obtain ⟨a1, a2, a3, a4, a5⟩ := hp k hk2
    rw [hk (95 + 22 * k) (by omega) (by omega), hk (96 + 22 * k) (by omega) (by omega)]
    refine ⟨a1, a2, a3, a4, fun i hi => ?_⟩
    rw [hk (90 + 22 * k + i) (by omega) (by omega), hk (85 + 22 * k + i) (by omega) (by omega), hk (75 + 22 * k + i) (by omega) (by omega), hk (80 + 22 * k + i) (by omega) (by omega)]
    exact a5 i hi
/-- no day goes by any more -/
theorem day26_end {F a : Nat} (pr wells : Int32) (wanted hours kind : Nat → Int32) (v2 bads undos l0 : Int32) (past had due ahead gets : Nat → Int32) : ∀ r k m, k + r = a → r < m → a ≤ 30 → f_X4_day_b26 F (nI a) pr wells wanted hours kind m v2 (nI k) bads 999 undos l0 past had due ahead gets = some (v2, bads, 999, undos, l0, past, had, due, ahead, gets) := by
  intro r
  induction r with
  | zero =>
    intro k m e hm ha
    obtain ⟨m, rfl⟩ : ∃ q, m = q + 1 := ⟨m - 1, by omega⟩
    obtain rfl : k = a := by omega
    rw [f_X4_day_b26, if_pos (nI_le (Nat.le_refl _) (by omega))]
  | succ r ih =>
    intro k m e hm ha
    obtain ⟨m, rfl⟩ : ∃ q, m = q + 1 := ⟨m - 1, by omega⟩
    rw [f_X4_day_b26, if_neg (nI_ge (by omega) (by omega)), f_X1_passDay, if_neg (by decide), Option.bind_some, nI_1]
    dsimp only
    rw [Int32.add_zero]
    exact ih (k + 1) m (by omega) (by omega) ha
/-- the days, on both sides -/
theorem days_eq {F n a : Nat} (hF : 200 < F) (hn : n ≤ 5) (ha : a ≤ 30) {pr lefts notes undos : Int32} {kind wanted hours leftHour leftPressure note past : Nat → Int32} (bads : Int32) (m_refused : Nat → Int32) :
    ∀ r k m1 m2 v day l0 had due ahead gets lb told dg dd ah ge, k + r = a → r < m1 → r < m2 → PR pr day (nI n) lefts notes undos kind wanted hours had due leftHour leftPressure note past told →
    ∃ (ox : Int32 × Int32 × Int32 × Int32 × Int32 × (Nat → Int32) × (Nat → Int32) × (Nat → Int32) × (Nat → Int32) × (Nat → Int32)) (om : Int32 × Int32 × (Nat → Int32) × (Nat → Int32) × (Nat → Int32) × (Nat → Int32) × (Nat → Int32) × (Nat → Int32)),
      f_X4_day_b26 F (nI a) pr (nI n) wanted hours kind m1 v (nI k) bads day undos l0 past had due ahead gets = some ox ∧ f_X5_day_b27 F (nI a) m2 v (nI k) lb told m_refused dg dd ah ge = some om ∧ ox.1 = om.1 ∧ ox.2.1 = bads ∧ ox.2.2.2.1 = undos ∧ ox.2.2.2.2.2.1 = past ∧ om.2.2.2.1 = m_refused ∧
      PR pr ox.2.2.1 (nI n) lefts notes undos kind wanted hours ox.2.2.2.2.2.2.1 ox.2.2.2.2.2.2.2.1 leftHour leftPressure note past om.2.2.1 := by
  intro r
  induction r with
  | zero =>
    intro k m1 m2 v day l0 had due ahead gets lb told dg dd ah ge e h1 h2 hP
    obtain ⟨m1, rfl⟩ : ∃ q, m1 = q + 1 := ⟨m1 - 1, by omega⟩
    obtain ⟨m2, rfl⟩ : ∃ q, m2 = q + 1 := ⟨m2 - 1, by omega⟩
    obtain rfl : k = a := by omega
    rw [f_X4_day_b26, if_pos (nI_le (Nat.le_refl _) (by omega)), f_X5_day_b27, if_pos (nI_le (Nat.le_refl _) (by omega))]
    exact ⟨_, _, rfl, rfl, rfl, rfl, rfl, rfl, rfl, hP⟩
  | succ r ih =>
    intro k m1 m2 v day l0 had due ahead gets lb told dg dd ah ge e h1 h2 hP
    obtain ⟨m1, rfl⟩ : ∃ q, m1 = q + 1 := ⟨m1 - 1, by omega⟩
    obtain ⟨m2, rfl⟩ : ∃ q, m2 = q + 1 := ⟨m2 - 1, by omega⟩
    obtain ⟨n', nl, nn, nu, d, p, ⟨e1, hn', -, -, -, -, -, -, rfl, hd, -⟩, ht, hw, -⟩ := id hP
    obtain rfl : n = n' := (nI_eq (by omega) (by omega)).mp e1
    have hw' : ∀ j, j < n → told (26 + j) = kind j ∧ told (19 + j) = wanted j ∧ told (14 + j) = hours j := fun j hj => ⟨(hw j hj).2.2.1, (hw j hj).2.2.2.1, (hw j hj).2.2.2.2.1⟩
    rcases Nat.lt_or_ge d 999 with q | q
    · obtain ⟨rx, x1, x2, x3, x4⟩ := passDay_x (F := F) (by omega) hn q pr hours kind wanted l0 ahead gets had due
      obtain ⟨rm, y1, y2, y3, y4, y5⟩ := passDay_m (F := F) (by omega) hn ht.1 ht.2.2.2.2.1 ht.2.2.2.2.2 hw' lb dg dd ah ge
      rw [f_X4_day_b26, if_neg (nI_ge (by omega) (by omega)), x1, Option.bind_some, f_X5_day_b27, if_neg (nI_ge (by omega) (by omega)), chk_t (by decide), show told (25 : Int32).toNatClampNeg = nI d from ht.2.2.2.2.2, if_neg (show ¬ (999 : Int32) ≤ nI d from nI_ge (b := 999) q (by omega)), y1, Option.bind_some, nI_1, x3, x2, y2]
      exact ih (k + 1) m1 m2 _ _ _ _ _ _ _ _ _ _ _ _ _ (by omega) (by omega) (by omega) (PR_day q hn hP x4 y3 y4 y5)
    · obtain rfl : d = 999 := by omega
      rw [show nI 999 = (999 : Int32) from rfl, day26_end pr (nI n) wanted hours kind v bads undos l0 past had due ahead gets (r + 1) k (m1 + 1) (by omega) (by omega) ha, f_X5_day_b27, if_neg (nI_ge (by omega) (by omega)), chk_t (by decide), show told (25 : Int32).toNatClampNeg = nI 999 from ht.2.2.2.2.2, if_pos (by decide)]
      exact ⟨_, _, rfl, rfl, rfl, rfl, rfl, rfl, rfl, hP⟩
theorem rs_day : Rs_day := by
  unfold Rs_day
  intro x_above x_below x_bads x_nos x_fulls pressure day wells lefts notes undos leftOver kind wanted hours had due leftHour leftPressure note past ahead gets len text m_above m_below m_leftBehind m_bytesLong m_told m_refused m_gets m_ahead m_dayGets m_dayDue m_bytes a1 hR
  obtain ⟨hP, hr, hf, hx⟩ := id hR
  obtain ⟨n, nl, nn, nu, d, p, ⟨rfl, hn, -⟩, -⟩ := id hP
  unfold f_X4_day f_X5_day f_X4_bad
  cases h1 : rgb 1 30 a1 with
  | false =>
    simp (disch := omega) only [chk_ix, chk_bo, cl_n, nI_add, pk_mul, pk_sub, nI_leI, nI_ltI, nI_eq, if_pos, if_neg, upd_e, pk_un, Option.bind_some, zlit, zlitL, within_x, in_m, has_x, reduceIte, Bool.false_eq_true, h1, bad_m]
    exact ⟨_, _, rfl, rfl, rfl, Rel_bad hR⟩
  | true =>
    obtain ⟨a, -, ha, rfl⟩ := rg_of h1 (by omega)
    obtain ⟨u', past', told', e1, e2, hP'⟩ := PR_keep (F := FU) (ltF (by omega)) hP
    obtain ⟨ox, om, e3, e4, e5, e6, e7, e8, e9, e10⟩ := days_eq (F := FU) (ltF (by omega)) hn ha x_bads m_refused a 0 FU FU 0 day leftOver had due ahead gets m_leftBehind told' m_dayGets m_dayDue m_ahead m_gets (by omega) (ltF (by omega)) (ltF (by omega)) hP'
    have q1 : f_X4_within FU (nI a) 1 30 = some (nI 1) := (within_x FU (nI a) (a := 1) (b := 30) (by omega) (by omega)).trans (by rw [h1, if_pos rfl])
    have q2 : f_X5_in FU (nI a).toInt64 1 30 = some (nI 1) := (in_m FU (nI a) (a := 1) (b := 30) (by omega) (by omega)).trans (by rw [h1, if_pos rfl])
    rw [q1, Option.bind_some, if_neg (show ¬ nI 1 = (0 : Int32) by decide), e1, Option.bind_some, q2, Option.bind_some, if_neg (show ¬ nI 1 = (0 : Int32) by decide), e2, Option.bind_some]
    dsimp only
    rw [z0n] at e3 e4
    rw [e3, e4]
    refine ⟨_, _, rfl, rfl, e5, ?_⟩
    rw [e6, e7, e8, e9]
    exact ⟨e10, hr, hf, hx⟩

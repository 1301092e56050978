/-! PURE: turns -/
theorem sv_sm (val : Nat → Int32 → Int32) (K Q : Nat → Int32) (p : Int32) (w : Nat → Nat) : ∀ n, svW val K Q p w n = sm (fun i => val i (gW K Q p w i)) n
  | 0 => rfl
  | n + 1 => by
    show svW val K Q p w n + _ = sm _ n + _
    rw [sv_sm val K Q p w n]
theorem sm_N {f : Nat → Int32} {b : Nat} : ∀ {n : Nat}, (∀ i, i < n → ∃ g, g ≤ b ∧ f i = nI g) → ∃ G, G ≤ b * n ∧ sm f n = nI G
  | 0, _ => ⟨0, Nat.zero_le _, rfl⟩
  | n + 1, H => by
    obtain ⟨G, h1, h2⟩ := sm_N (n := n) (fun i hi => H i (by omega))
    obtain ⟨g, h3, h4⟩ := H n (by omega)
    refine ⟨G + g, by rw [Nat.mul_succ]; omega, ?_⟩
    show sm f n + f n = _
    rw [h2, h4, nI_add]
theorem kg_40 {k q p : Nat} (hk : k ≤ 5) (hq : q ≤ 20) (hp : p < 10000) (h : Int32) : ∃ g, g ≤ 40 ∧ g ≤ p ∧ kg (nI k) (nI q) h (nI p) = nI g := by
  refine ⟨_, ?_, kN_le k q (decide ((h &&& 1) = 1)) p, kg_N h (by omega) (by omega) hp⟩
  have a := kN_max k q (decide ((h &&& 1) = 1)) p
  have b := kM_le k q (decide ((h &&& 1) = 1))
  omega
/-- what is left is 0 to p -/
theorem rsW_N {n p : Nat} {K Q : Nat → Int32} (hp : p < 10000) (hw : ∀ i, i < n → (∃ a : Nat, K i = nI a ∧ a ≤ 5) ∧ (∃ a : Nat, Q i = nI a ∧ 1 ≤ a ∧ a ≤ 20)) (w : Nat → Nat) (h : Nat) : ∀ i, i ≤ n → ∃ r, r ≤ p ∧ rsW K Q (nI p) w i h = nI r
  | 0, _ => ⟨p, Nat.le_refl p, rfl⟩
  | i + 1, hi => by
    obtain ⟨r, h1, h2⟩ := rsW_N hp hw w h i (by omega)
    obtain ⟨⟨k, ek, hk⟩, q, eq, -, hq⟩ := hw i (by omega)
    unfold rsW
    rw [h2]
    by_cases e : w i = h
    · obtain ⟨g, g1, g2, g3⟩ := kg_40 hk hq (show r < 10000 by omega) (nI h)
      rw [if_pos e, ek, eq, g3, pk_sub g2]
      exact ⟨r - g, by omega, rfl⟩
    · rw [if_neg e]
      exact ⟨r, h1, rfl⟩
theorem gW_40 {n p i : Nat} {K Q : Nat → Int32} (hp : p < 10000) (hw : ∀ i, i < n → (∃ a : Nat, K i = nI a ∧ a ≤ 5) ∧ (∃ a : Nat, Q i = nI a ∧ 1 ≤ a ∧ a ≤ 20)) (w : Nat → Nat) (hi : i < n) : ∃ g, g ≤ 40 ∧ gW K Q (nI p) w i = nI g := by
  obtain ⟨r, h1, h2⟩ := rsW_N hp hw w (w i) i (by omega)
  obtain ⟨⟨k, ek, hk⟩, q, eq, -, hq⟩ := hw i hi
  obtain ⟨g, g1, -, g3⟩ := kg_40 hk hq (show r < 10000 by omega) (nI (w i))
  exact ⟨g, g1, by unfold gW; rw [h2, ek, eq, g3]⟩
theorem mostHad_x {F n : Nat} (hF : 200 < F) (hn : n ≤ 5) (p : Int32) (K Q mg : Nat → Int32) (f bw bd : Int32) (rest way bway : Nat → Int32) :
    ∃ r, f_X3_mostHad F p (nI n) K Q f bw bd rest mg way bway = some r ∧ StR n (bpW (valF 0 K) (pre (fun _ => 0) mg n) K Q p n 0 (fun _ => 0)) r.1 r.2.1 r.2.2.2.2.2.2 := by
  unfold f_X3_mostHad
  obtain ⟨r, e1, e2⟩ := start_x (F := F) hF hn 0 p K Q (pre (fun _ => 0) mg n) f bw rest way bway
  have key := loopN (fun m k => f_X3_mostHad_b7 F p (nI n) K Q m (nI k) f bw 0 rest (pre (fun _ => 0) mg k) way bway) (some (r.1, r.2.1, 0, r.2.2.1, pre (fun _ => 0) mg n, r.2.2.2.1, r.2.2.2.2)) n ?_ ?_ F (by omega)
  · simp only [pre_0] at key
    exact ⟨_, key, e2⟩
  · intro k m hk
    show f_X3_mostHad_b7 F p (nI n) K Q (m + 1) (nI k) f bw 0 rest (pre (fun _ => 0) mg k) way bway = f_X3_mostHad_b7 F p (nI n) K Q m (nI (k + 1)) f bw 0 rest (pre (fun _ => 0) mg (k + 1)) way bway
    rw [f_X3_mostHad_b7, if_neg (nI_ge hk (by omega)), chk_t (ix_n (by omega) (by omega)), cl_n (by omega), nI_1, ← pre_s (fun _ => 0) mg k]
  · intro m
    show f_X3_mostHad_b7 F p (nI n) K Q (m + 1) (nI n) f bw 0 rest (pre (fun _ => 0) mg n) way bway = _
    rw [f_X3_mostHad_b7, if_pos (nI_le (Nat.le_refl _) (by omega)), e1, Option.bind_some]
/-- what the reference has of the best way so far -/
def StM (n : Nat) (st : Option (Int32 × (Nat → Nat))) (v2 : Int32) (bo : Nat → Int32) : Prop :=
  match st with
  | none => v2 = -1
  | some x => v2 = x.1 ∧ ∀ j, j < n → bo j = nI (x.2 j)
theorem turns59_m {F n : Nat} (hF : 200 < F) (hn : n ≤ 5) (a1 : Int32) {told : Nat → Int32} (h0 : told 0 = nI n) (K29 : Int32 → Int32 → Int32 → (Nat → Int32) → (Nat → Int32) → (Nat → Int32) → (Nat → Int32) → (Nat → Int32) → (Nat → Int32) → Option (Int32 × Int32 × (Nat → Int32) × (Nat → Int32) × (Nat → Int32) × (Nat → Int32) × (Nat → Int32) × (Nat → Int32))) (v2 v3 v4 lb : Int32) (rf bo own ah ge og : Nat → Int32) :
    f_X5_turns_b59 F a1 told K29 F v2 v3 v4 0 lb rf bo own ah ge og = if v4 ≤ v2 then K29 v2 (v3 + 1) lb rf bo own ah ge og else K29 v4 (v3 + 1) lb rf (pre own bo n) own ah ge og := by
  by_cases c : v4 ≤ v2
  · obtain ⟨m, rfl⟩ : ∃ q, F = q + 1 := ⟨F - 1, by omega⟩
    rw [if_pos c, f_X5_turns_b59, many_m, Option.bind_some]
    unfold f_X5_turns_b94 f_X5_turns_b106
    rw [if_pos c, if_pos c]
    split <;> rfl
  · rw [if_neg c]
    have key := loopN (fun m k => f_X5_turns_b59 F a1 told K29 m v2 v3 v4 (nI k) lb rf (pre own bo k) own ah ge og) (K29 v4 (v3 + 1) lb rf (pre own bo n) own ah ge og) n ?_ ?_ F (by omega)
    · simpa only [pre_0, z0n] using key
    · intro k m hk
      show f_X5_turns_b59 F a1 told K29 (m + 1) v2 v3 v4 (nI k) lb rf (pre own bo k) own ah ge og = f_X5_turns_b59 F a1 told K29 m v2 v3 v4 (nI (k + 1)) lb rf (pre own bo (k + 1)) own ah ge og
      rw [f_X5_turns_b59, many_m, Option.bind_some, h0, if_neg (nI_ge hk (by omega)), if_neg c, chk_t (ix_n (by omega) (by omega)), chk_t (ix_n (by omega) (by omega)), cl_n (by omega), nI_1, ← pre_s own bo k]
    · intro m
      show f_X5_turns_b59 F a1 told K29 (m + 1) v2 v3 v4 (nI n) lb rf (pre own bo n) own ah ge og = _
      rw [f_X5_turns_b59, many_m, Option.bind_some, h0, if_pos (nI_le (Nat.le_refl _) (by omega))]
      unfold f_X5_turns_b94 f_X5_turns_b106
      rw [if_neg c]
theorem lt_nle (a b : Int32) : ¬ a ≤ b ↔ b < a := by rw [i_le, i_lt]; omega
theorem StM_step {n : Nat} {st : Option (Int32 × (Nat → Nat))} {v2 : Int32} {bo : Nat → Int32} (h : StM n st v2 bo) {G : Nat} (hG : G < 1000) {w : Nat → Nat} {own : Nat → Int32} (how : ∀ j, j < n → own j = nI (w j)) :
    StM n (cmb st (some (nI G, w))) (if nI G ≤ v2 then v2 else nI G) (if nI G ≤ v2 then bo else pre own bo n) := by
  have hnew : StM n (some (nI G, w)) (nI G) (pre own bo n) := ⟨rfl, fun j hj => (pre_in hj).trans (how j hj)⟩
  cases st with
  | none =>
    have h' : v2 = -1 := h
    have c : ¬ nI G ≤ v2 := by
      rw [h', i_le, nI_toInt (by omega), show (-1 : Int32).toInt = -1 from rfl]; omega
    rw [if_neg c, if_neg c]
    exact hnew
  | some x =>
    obtain ⟨h1, h2⟩ := h
    show StM n (if x.1 < nI G then some (nI G, w) else some x) _ _
    rw [h1]
    by_cases c : nI G ≤ x.1
    · rw [if_pos c, if_pos c, if_neg (fun z => (lt_nle _ _).mpr z c)]
      exact ⟨rfl, h2⟩
    · rw [if_neg c, if_neg c, if_pos ((lt_nle _ _).mp c)]
      exact hnew
theorem turns29_m {F n p : Nat} (hF : 40000 < F) (hn : n ≤ 5) (hp : p < 10000) (a1 : Int32) {told K Q mg : Nat → Int32} (h0 : told 0 = nI n) (h24 : told 24 = nI p) (hw : ∀ j, j < n → told (26 + j) = K j ∧ told (19 + j) = Q j) (hK : ∀ i, i < n → (∃ a : Nat, K i = nI a ∧ a ≤ 5) ∧ (∃ a : Nat, Q i = nI a ∧ 1 ≤ a ∧ a ≤ 20)) (hmg : ∀ i, i < n → mg i = 0) (rf : Nat → Int32) (s : Int32 × (Nat → Int32) × (Nat → Int32) × (Nat → Int32) × (Nat → Int32)) (bo : Nat → Int32) :
    ∃ (z : Int32 × (Nat → Int32) × (Nat → Int32) × (Nat → Int32) × (Nat → Int32)) (v2 : Int32) (bo' : Nat → Int32), StM n (bpW (valF 0 K) mg K Q (nI p) n 0 (fun _ => 0)) v2 bo' ∧
      f_X5_turns_b29 F a1 told F (-1) 0 s.1 rf bo s.2.1 s.2.2.1 s.2.2.2.1 s.2.2.2.2 = if a1 = -1 then some (v2, z.1, rf, bo', z.2.1, z.2.2.1, z.2.2.2.1, z.2.2.2.2) else chk (ix a1 5) (some (bo' a1.toNatClampNeg, z.1, rf, bo', z.2.1, z.2.2.1, z.2.2.2.1, z.2.2.2.2)) := by
  obtain ⟨p1, p2⟩ := pow8 hn
  have ev := ev_8 ⟨n, by omega⟩
  dsimp only at ev
  rw [bp_codes0]
  have key : ∀ r k m v2 bo (s : Int32 × (Nat → Int32) × (Nat → Int32) × (Nat → Int32) × (Nat → Int32)), k + r = 8 ^ n → r < m → StM n (foldH (fun c => cndW (valF 0 K) mg K Q (nI p) n (wcN n c)) k) v2 bo →
      ∃ (z : Int32 × (Nat → Int32) × (Nat → Int32) × (Nat → Int32) × (Nat → Int32)) (v2' : Int32) (bo' : Nat → Int32), StM n (foldH (fun c => cndW (valF 0 K) mg K Q (nI p) n (wcN n c)) (8 ^ n)) v2' bo' ∧
      f_X5_turns_b29 F a1 told m v2 (nI k) s.1 rf bo s.2.1 s.2.2.1 s.2.2.2.1 s.2.2.2.2 = if a1 = -1 then some (v2', z.1, rf, bo', z.2.1, z.2.2.1, z.2.2.2.1, z.2.2.2.2) else chk (ix a1 5) (some (bo' a1.toNatClampNeg, z.1, rf, bo', z.2.1, z.2.2.1, z.2.2.2.1, z.2.2.2.2)) := by
    intro r
    induction r with
    | zero =>
      intro k m v2 bo s e hm hS
      obtain ⟨m, rfl⟩ : ∃ q, m = q + 1 := ⟨m - 1, by omega⟩
      obtain rfl : k = 8 ^ n := by omega
      refine ⟨s, v2, bo, hS, ?_⟩
      rw [f_X5_turns_b29, many_m, Option.bind_some, h0, ev, if_pos (nI_le (Nat.le_refl _) (by omega))]
    | succ r ih =>
      intro k m v2 bo s e hm hS
      obtain ⟨m, rfl⟩ : ∃ q, m = q + 1 := ⟨m - 1, by omega⟩
      obtain ⟨rl, e1, e2⟩ := layOwn_m (F := F) (n := n) (c := k) (by omega) hn (by omega) h0 h24 hw s.1 s.2.1 s.2.2.1 s.2.2.2.1 s.2.2.2.2
      have e3 := sumOf_m (F := F) (n := n) (N := 5) (by omega) hn (by omega) (by omega) h0 rl.2.2.2.2
      obtain ⟨G, g1, g2⟩ := sm_N (f := rl.2.2.2.2) (b := 40) (n := n) (fun i hi => by rw [(e2 i hi).2]; exact gW_40 hp hK _ hi)
      have hG : G < 1000 := by omega
      have hc : cndW (valF 0 K) mg K Q (nI p) n (wcN n k) = some (nI G, wcN n k) := by
        unfold cndW
        rw [if_pos (al_iff.mpr (fun i hi => by
          obtain ⟨g, a, b⟩ := gW_40 (p := p) hp hK (wcN n k) hi
          unfold okB
          rw [hmg i hi, b, decide_eq_false (show ¬ nI g < (0 : Int32) from nI_nlt (b := 0) (by omega) (by omega))]
          rfl)), sv_sm, ← g2]
        exact congrArg (fun x => some (x, wcN n k)) (sm_cong (fun i hi => (e2 i hi).2.symm))
      have hst := StM_step hS hG (w := wcN n k) (own := rl.2.1) (fun j hj => (e2 j hj).1)
      rw [← hc] at hst
      rw [f_X5_turns_b29, many_m, Option.bind_some, h0, ev, if_neg (nI_ge (by omega) (by omega)), e1, Option.bind_some, e3, Option.bind_some, g2, turns59_m (by omega) hn a1 h0, nI_1]
      by_cases c : nI G ≤ v2
      · rw [if_pos c]
        rw [if_pos c, if_pos c] at hst
        exact ih (k + 1) m v2 bo rl (by omega) (by omega) hst
      · rw [if_neg c]
        rw [if_neg c, if_neg c] at hst
        exact ih (k + 1) m (nI G) (pre rl.2.1 bo n) rl (by omega) (by omega) hst
  exact key (8 ^ n) 0 F (-1) bo s (by omega) (by omega) rfl
theorem cases_1n {n : Nat} (hn : n < 2 ^ 20) (x : Int32) (F : Nat) : (∃ b, f_X1_has F x (nI n) = some (nI b) ∧ (b = 0 ∨ b = 1) ∧ (b = 1 → ∃ i, i < n ∧ x = nI i) ∧ (¬ x = -1 → f_X5_in F x.toInt64 (-1 : Int64) ((nI n - 1).toInt64) = some (nI b)) ∧ (x = -1 → f_X5_in F x.toInt64 (-1 : Int64) ((nI n - 1).toInt64) = some (nI 1))) := by
  have h1 := has_x F x (n := n) (by omega)
  have h2 := inN_m F x hn
  cases h : hsb n x with
  | false =>
    rw [h] at h1
    refine ⟨0, h1, Or.inl rfl, fun z => absurd z (by decide), fun hx => ?_, fun hx => ?_⟩
    · rw [h2, onb_no hx, h]; rfl
    · rw [h2, hx]; rfl
  | true =>
    rw [h] at h1
    refine ⟨1, h1, Or.inr rfl, fun _ => hs_of h (by omega), fun hx => ?_, fun hx => ?_⟩
    · rw [h2, onb_no hx, h]; rfl
    · rw [h2, hx]; rfl
theorem rs_turns : Rs_turns := by
  unfold Rs_turns
  intro x_above x_below x_bads x_nos x_fulls pressure day wells lefts notes undos kind wanted hours had due leftHour leftPressure note past x_search_found x_search_bestWorth x_search_byDue x_search_bestWay x_search_way x_search_rest x_search_mustGet len text m_above m_below m_leftBehind m_bytesLong m_told m_refused m_gets m_ahead m_own m_ownGets m_bestOwn m_bytes a1 hR
  obtain ⟨hP, hr, hf, hx⟩ := id hR
  obtain ⟨n, nl, nn, nu, d, p, ⟨rfl, hn, -, -, -, -, -, -, -, -, rfl, hp⟩, ht, hw, -⟩ := id hP
  unfold f_X4_turns f_X4_turns_b21 f_X4_badHere f_X5_turns
  obtain ⟨r, x1, x2⟩ := mostHad_x (F := FU) (ltF (by omega)) hn (nI p) kind wanted x_search_mustGet x_search_found x_search_bestWorth x_search_byDue x_search_rest x_search_way x_search_bestWay
  obtain ⟨z, v2, bo, y1, y2⟩ := turns29_m (F := FU) (p := p) (ltF (by omega)) hn (by omega) a1 (mg := pre (fun _ => 0) x_search_mustGet n) ht.1 ht.2.2.2.2.1 (fun j hj => ⟨(hw j hj).2.2.1, (hw j hj).2.2.2.1⟩) (fun i hi => ⟨(hw i hi).1, (hw i hi).2.1.1⟩) (fun i hi => pre_in hi) m_refused (m_leftBehind, m_own, m_ahead, m_gets, m_ownGets) m_bestOwn
  have hb : v2 = r.2.1 ∧ ∀ j, j < n → bo j = r.2.2.2.2.2.2 j := by
    generalize hbp : bpW (valF 0 kind) (pre (fun _ => 0) x_search_mustGet n) kind wanted (nI p) n 0 (fun _ => 0) = B at x2 y1
    cases B with
    | none =>
      exfalso
      rw [bp_codes0] at hbp
      have c0 := foldH_ge (f := fun c => cndW (valF 0 kind) (pre (fun _ => 0) x_search_mustGet n) kind wanted (nI p) n (wcN n c)) (pow8 hn).2
      rw [hbp] at c0
      try dsimp only at c0
      unfold cndW at c0
      rw [if_pos (al_iff.mpr (fun i hi => by
          obtain ⟨g, a, b⟩ := gW_40 (p := p) (n := n) (K := kind) (Q := wanted) (by omega) (fun i hi => ⟨(hw i hi).1, (hw i hi).2.1.1⟩) (wcN n 0) hi
          unfold okB
          rw [pre_in hi, b, decide_eq_false (show ¬ nI g < (0 : Int32) from nI_nlt (b := 0) (by omega) (by omega))]
          rfl))] at c0
      exact c0
    | some x =>
      obtain ⟨a, b, c⟩ := x2
      obtain ⟨a', c'⟩ := y1
      exact ⟨a'.trans b.symm, fun j hj => (c' j hj).trans (c j hj).symm⟩
  obtain ⟨b, q1, q2, q3, q4, q5⟩ := cases_1n (n := n) (by omega) a1 FU
  rw [many_m, ht.1]
  simp only [Option.bind_some]
  by_cases hm : a1 = -1
  · rw [if_pos hm, x1, Option.bind_some, if_pos hm, q5 hm, Option.bind_some, if_neg ne1, y2, if_pos hm]
    exact ⟨_, _, rfl, rfl, hb.1.symm, hR⟩
  · rw [if_neg hm, q1, Option.bind_some, q4 hm, Option.bind_some]
    rcases q2 with rfl | rfl
    · rw [if_pos (show nI 0 = (0 : Int32) from rfl), if_pos (show nI 0 = (0 : Int32) from rfl), bad_m, Option.bind_some]
      exact ⟨_, _, rfl, rfl, rfl, Rel_bad hR⟩
    · obtain ⟨i, hi, ei⟩ := q3 rfl
      rw [if_neg ne1, if_neg ne1, x1, Option.bind_some, if_neg hm, y2, if_neg hm, ei, chk_t (ix_n (by omega) (by omega)), chk_t (ix_n (by omega) (by omega)), cl_n (by omega)]
      exact ⟨_, _, rfl, rfl, (hb.2 i hi).symm, hR⟩

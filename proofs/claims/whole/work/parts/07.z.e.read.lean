/-! PURE: read -/
/-- what comes of the items -/
def RdO (ox : Int32 × Int32 × Int32 × Int32 × Int32 × Int32 × Int32 × Int32 × Int32 × Int32 × Int32 × Int32 × (Nat → Int32) × (Nat → Int32) × (Nat → Int32) × (Nat → Int32) × (Nat → Int32) × (Nat → Int32) × (Nat → Int32)) (om : Int32 × Int32 × Int32 × Int32 × Int32 × Int32 × Int32 × (Nat → Int32) × (Nat → Int32) × (Nat → Int32) × (Nat → Int32) × (Nat → Int32) × (Nat → Int32) × (Nat → Int32)) (told : Nat → Int32) : Prop :=
  (ox.1 = -1 ∧ om.1 = -10 - ox.2.1 ∧ om.2.2.2.2.2.2.2.2.2.2.2.2.2 = told) ∨
  ∃ (c n d p : Nat) (anew : Nat → Int32), c ≤ 1000 ∧ d ≤ 999 ∧ ox.1 = nI c ∧ om.1 = nI c ∧ ox.2.2.2.2.2.1 = nI p ∧ ox.2.2.2.2.2.2.1 = nI d ∧ ox.2.2.2.2.2.2.2.1 = nI n ∧ ox.2.2.2.2.2.2.2.2.1 = 0 ∧ ox.2.2.2.2.2.2.2.2.2.1 = 0 ∧ ox.2.2.2.2.2.2.2.2.2.2.1 = 0 ∧
    DR n d p ox.2.2.2.2.2.2.2.2.2.2.2.2.2.2.1 ox.2.2.2.2.2.2.2.2.2.2.2.2.2.2.2.1 ox.2.2.2.2.2.2.2.2.2.2.2.2.1 ox.2.2.2.2.2.2.2.2.2.2.2.2.2.2.2.2.2.1 ox.2.2.2.2.2.2.2.2.2.2.2.2.2.2.2.2.2.2 anew ∧ om.2.2.2.2.2.2.2.2.2.2.2.2.2 = pre anew told 75
theorem read68_m {F : Nat} (hF : 300 < F) (L : Int32) (bytes : Nat → Int32) (v1 lb at0 ln tk vl th : Int32) (vals anew dg dd ah ge told : Nat → Int32) :
    f_X5_read_b68 F L bytes F v1 0 lb at0 ln tk vl th vals anew dg dd ah ge told = some (v1, lb, at0, ln, tk, vl, th, vals, anew, dg, dd, ah, ge, pre anew told 75) := by
  have key := loopN (fun m k => f_X5_read_b68 F L bytes m v1 (nI k) lb at0 ln tk vl th vals anew dg dd ah ge (pre anew told k)) (some (v1, lb, at0, ln, tk, vl, th, vals, anew, dg, dd, ah, ge, pre anew told 75)) 75 ?_ ?_ F (by omega)
  · simpa only [pre_0, z0n] using key
  · intro k m hk
    show f_X5_read_b68 F L bytes (m + 1) v1 (nI k) lb at0 ln tk vl th vals anew dg dd ah ge (pre anew told k) = f_X5_read_b68 F L bytes m v1 (nI (k + 1)) lb at0 ln tk vl th vals anew dg dd ah ge (pre anew told (k + 1))
    rw [f_X5_read_b68, if_neg (show ¬ (75 : Int32) ≤ nI k from nI_ge (b := 75) hk (by omega)), chk_t (ix_n hk (by omega)), chk_t (ix_n (by omega) (by omega)), cl_n (by omega), nI_1, ← pre_s anew told k]
  · intro m
    show f_X5_read_b68 F L bytes (m + 1) v1 (nI 75) lb at0 ln tk vl th vals anew dg dd ah ge (pre anew told 75) = _
    rw [f_X5_read_b68, if_pos (show (75 : Int32) ≤ nI 75 by decide)]
theorem TK_0 {T : Nat → Nat} {L a e : Nat} {tok val tokM valM : Int32} (h : TK T L a e tok val tokM valM) (h0 : ¬ tok = 0) : a < e := by
  rcases h with ⟨q, -⟩ | ⟨-, -, q⟩ | ⟨v, -, -, -, -, -, q⟩ | ⟨-, -, q⟩ | ⟨t, -, -, q, -⟩
  · exact absurd q h0
  · omega
  · exact q
  · exact q
  · exact q
theorem readLoop {F L : Nat} {T : Nat → Nat} {text bytes : Nat → Int32} (hF : 300 < F) (hT : TxR T L text bytes) (told : Nat → Int32) : ∀ r a e x z c n d p m1 m2 lo0 kind wanted hours had due ahead gets lb th vals anew dg dd ah ge, L - a = r → r + 1 < m1 → r + 1 < m2 → c ≤ a → d ≤ a → Cur T L a e x z → DR n d p kind wanted hours had due anew →
    ∃ ox om, f_X2_parse_b29 F (nI L) text m1 (nI c) x.1 x.2.1 x.2.2.1 x.2.2.2 (nI p) (nI d) (nI n) 0 0 0 lo0 hours ahead kind wanted gets had due = some ox ∧ f_X5_read_b26 F (nI L) bytes m2 (nI c) lb z.1 z.2.1 z.2.2.1 z.2.2.2 th vals anew dg dd ah ge told = some om ∧ RdO ox om told := by
  have hL := hT.1
  intro r
  induction r using Nat.strongRecOn with
  | ind r ih =>
    intro a e x z c n d p m1 m2 lo0 kind wanted hours had due ahead gets lb th vals anew dg dd ah ge hr hm1 hm2 hc hd h hD
    obtain ⟨m1, rfl⟩ : ∃ q, m1 = q + 1 := ⟨m1 - 1, by omega⟩
    obtain ⟨m2, rfl⟩ : ∃ q, m2 = q + 1 := ⟨m2 - 1, by omega⟩
    have hTK := h.2.2.2.2.2.2
    have hae := h.2.2.2.2.1
    have heL := h.2.2.2.2.2.1
    have hs := TK_s hTK
    have hw := TK_w hTK
    rw [f_X2_parse_b29, f_X5_read_b26]
    by_cases c0 : x.2.2.1 = 0
    · have hcl : (if nI L < nI c then some (nI c, x.1, x.2.1, x.2.2.1, x.2.2.2, nI p, nI d, nI n, (0 : Int32), (0 : Int32), (0 : Int32), lo0, hours, ahead, kind, wanted, gets, had, due) else some (nI c, x.1, x.2.1, x.2.2.1, x.2.2.2, nI p, nI d, nI n, (0 : Int32), (0 : Int32), (0 : Int32), lo0, hours, ahead, kind, wanted, gets, had, due)) = some (nI c, x.1, x.2.1, x.2.2.1, x.2.2.2, nI p, nI d, nI n, (0 : Int32), (0 : Int32), (0 : Int32), lo0, hours, ahead, kind, wanted, gets, had, due) := by split <;> rfl
      rw [if_pos c0, hcl, if_pos (hs.2.2.mp c0), read68_m hF]
      exact ⟨_, _, rfl, rfl, Or.inr ⟨c, n, d, p, anew, by omega, by omega, rfl, rfl, rfl, rfl, rfl, rfl, rfl, rfl, hD, rfl⟩⟩
    · have hlt := TK_0 hTK c0
      have w4 : f_X5_spells F 4 119 101 108 108 0 0 z.1 z.2.1 z.2.2.1 bytes = some (fl (decide (x.2.2.1 = 4))) := wd4_of hF hT h 119 101 108 108 (by omega) (by omega) (by omega) (by omega) 4 hw.2.1
      have w5 : f_X5_spells F 4 116 117 114 110 0 0 z.1 z.2.1 z.2.2.1 bytes = some (fl (decide (x.2.2.1 = 5))) := wd4_of hF hT h 116 117 114 110 (by omega) (by omega) (by omega) (by omega) 5 hw.2.2.1
      have w6 : f_X5_spells F 3 100 97 121 0 0 0 z.1 z.2.1 z.2.2.1 bytes = some (fl (decide (x.2.2.1 = 6))) := wd3_of hF hT h 100 97 121 (by omega) (by omega) (by omega) 6 hw.2.2.2
      rw [if_neg (nI_nlt (by omega) (by omega)), if_neg c0, if_neg (fun q => c0 (hs.2.2.mpr q))]
      unfold f_X5_takesItem
      rw [w4, Option.bind_some]
      by_cases c4 : x.2.2.1 = 4
      · rw [if_pos c4, decide_eq_true c4, if_neg (show ¬ fl true = 0 by decide)]
        rcases itemW hF hT h c4 hD th vals with ⟨x', z', th', vals', i1, i2, i3⟩ | ⟨a', e', x', z', z'', th', vals', kind', wanted', hours', had', due', anew', l1, h', i2, i3, i4, i5, hD'⟩
        · rw [i2, Option.bind_some, i3, Option.bind_some, chk_t (by rfl), Option.bind_some, if_pos rfl]
          unfold f_X2_parse_b78 f_X5_read_b48
          rw [if_pos rfl]
          exact ⟨_, _, rfl, rfl, Or.inl ⟨rfl, congrArg (fun y => (-10 : Int32) - y) i1.symm, rfl⟩⟩
        · rw [i2, Option.bind_some, i3, Option.bind_some, chk_t (by rfl), Option.bind_some, if_neg (show ¬ (1 : Int32) = 0 by decide), if_pos i4, i5, Option.bind_some]
          unfold f_X2_parse_b78
          rw [if_neg (show ¬ (1 : Int32) = 0 by decide), nI_1]
          have hL' := h'.2.2.2.2.1
          have hL'' := h'.2.2.2.2.2.1
          exact ih (L - a') (by omega) a' e' x' z'' (c + 1) (n + 1) d p m1 m2 _ _ _ _ _ _ _ _ _ _ _ _ _ _ _ _ rfl (by omega) (by omega) (by omega) (by omega) h' hD'
      · rw [if_neg c4, decide_eq_false c4, if_pos (show fl false = 0 by decide), w5, Option.bind_some]
        by_cases c5 : x.2.2.1 = 5
        · rw [if_pos c5, decide_eq_true c5, if_neg (show ¬ fl true = 0 by decide)]
          rcases itemT hF hT h c5 hD th vals with ⟨x', z', th', vals', i1, i2, i3⟩ | ⟨a', e', x', z', z'', th', vals', hours', anew', l1, h', i2, i3, i4, i5, hD'⟩
          · rw [i2, Option.bind_some, i3, Option.bind_some, chk_t (by rfl), Option.bind_some, if_pos rfl]
            unfold f_X2_parse_b78 f_X5_read_b48
            rw [if_pos rfl]
            exact ⟨_, _, rfl, rfl, Or.inl ⟨rfl, congrArg (fun y => (-10 : Int32) - y) i1.symm, rfl⟩⟩
          · rw [i2, Option.bind_some, i3, Option.bind_some, chk_t (by rfl), Option.bind_some, if_neg (show ¬ (1 : Int32) = 0 by decide), if_pos i4, i5, Option.bind_some]
            unfold f_X2_parse_b78
            rw [if_neg (show ¬ (1 : Int32) = 0 by decide), nI_1]
            have hL' := h'.2.2.2.2.1
            have hL'' := h'.2.2.2.2.2.1
            exact ih (L - a') (by omega) a' e' x' z'' (c + 1) n d p m1 m2 _ _ _ _ _ _ _ _ _ _ _ _ _ _ _ _ rfl (by omega) (by omega) (by omega) (by omega) h' hD'
        · rw [if_neg c5, decide_eq_false c5, if_pos (show fl false = 0 by decide), w6, Option.bind_some]
          by_cases c6 : x.2.2.1 = 6
          · rw [decide_eq_true c6, if_neg (show ¬ fl true = 0 by decide)]
            obtain ⟨z', lb', anew', dg', dd', ah', ge', i1, ⟨x', j1, j2, j3⟩ | ⟨a', e', x', z'', lo', ahead', gets', had', due', l1, h', j3, j4, j5, hD'⟩⟩ := itemD hF hT h c6 hD (by omega) lo0 lb ahead gets dg dd ah ge
            · rw [i1, Option.bind_some, j3, Option.bind_some, if_neg (show ¬ (1 : Int32) = 0 by decide), Option.bind_some, if_neg (show ¬ (1 : Int32) = 0 by decide), if_neg j2]
              unfold f_X2_parse_b78 f_X5_read_b48
              rw [if_pos rfl]
              exact ⟨_, _, rfl, rfl, Or.inl ⟨rfl, congrArg (fun y => (-10 : Int32) - y) j1.symm, rfl⟩⟩
            · rw [i1, Option.bind_some, j3, Option.bind_some, if_neg (show ¬ (1 : Int32) = 0 by decide), Option.bind_some, if_neg (show ¬ (1 : Int32) = 0 by decide), if_pos j4, j5, Option.bind_some]
              unfold f_X2_parse_b78
              rw [if_neg (show ¬ (1 : Int32) = 0 by decide), nI_1]
              have hL' := h'.2.2.2.2.1
              have hL'' := h'.2.2.2.2.2.1
              exact ih (L - a') (by omega) a' e' x' z'' (c + 1) n (d + 1) p m1 m2 _ _ _ _ _ _ _ _ _ _ _ _ _ _ _ _ rfl (by omega) (by omega) (by omega) (by omega) h' hD'
          · unfold f_X2_dayItem f_X2_parse_b78 f_X5_read_b48
            rw [if_neg c6, Option.bind_some, if_pos rfl, decide_eq_false c6, if_pos (show fl false = 0 by decide), Option.bind_some, if_pos rfl]
            exact ⟨_, _, rfl, rfl, Or.inl ⟨rfl, congrArg (fun y => (-10 : Int32) - y) (h.1.trans h.2.2.1.symm).symm, rfl⟩⟩
theorem DR_begin {v : Nat} (hv : v ≤ 60) (kind wanted hours had due anew : Nat → Int32) : DR 0 0 v kind wanted hours had due (upd (pre (fun _ => 0) anew 75) 24 (nI v)) :=
  ⟨by omega, hv, ⟨rfl, rfl, rfl, rfl, rfl, rfl⟩, fun i hi => absurd hi (Nat.not_lt_zero i)⟩
theorem parse_both {F L : Nat} {T : Nat → Nat} {text bytes : Nat → Int32} (hF : 300 < F) (hT : TxR T L text bytes) (told : Nat → Int32) (st nx tk vl pr day wells lefts notes undos lo0 : Int32) (hours ahead kind wanted gets had due : Nat → Int32) (lb at0 ln tk' vl' th : Int32) (vals anew dg dd ah ge : Nat → Int32) :
    ∃ ox om, f_X2_parse F (nI L) text st nx tk vl pr day wells lefts notes undos lo0 hours ahead kind wanted gets had due = some ox ∧ f_X5_read F (nI L) bytes lb at0 ln tk' vl' th vals anew dg dd ah ge told = some om ∧ RdO ox om told := by
  have hL := hT.1
  unfold f_X2_parse f_X1_restart f_X5_read f_X2_mainItem f_X5_takesMain
  obtain ⟨a, e, x, z, l0, h, s1, s2⟩ := step_both (s := 0) hF hT (Nat.zero_le L) st tk vl at0 ln tk' vl'
  rw [z0n] at s1 s2
  have hw := TK_w h.2.2.2.2.2.2
  have w3 : f_X5_spells F 4 109 97 105 110 0 0 z.1 z.2.1 z.2.2.1 bytes = some (fl (decide (x.2.2.1 = 3))) := wd4_of hF hT h 109 97 105 110 (by omega) (by omega) (by omega) (by omega) 3 hw.1
  rw [Option.bind_some, s1, Option.bind_some, s2, Option.bind_some, w3, Option.bind_some]
  by_cases c3 : x.2.2.1 = 3
  · rw [if_pos c3, decide_eq_true c3, if_neg (show ¬ fl true = 0 by decide)]
    obtain ⟨a1, e1, x1, z1, l1, h1, s3, s4⟩ := stepB hF hT h
    have hae := h.2.2.2.2.1
    have hlt := TK_0 h.2.2.2.2.2.2 (by rw [c3]; decide)
    rw [s3, Option.bind_some, s4, Option.bind_some]
    rcases numB hF hT h1 (i := 0) (by omega) (ai := 0) rfl 0 60 vals with ⟨n1, n2⟩ | ⟨v, v1, v2, v3, n1, a2, e2, x2, z2, l2, l3, h2, n2, n3⟩
    · rw [n1, Option.bind_some, if_pos rfl, n2, Option.bind_some, if_pos rfl, Option.bind_some, if_pos rfl, Option.bind_some, if_pos rfl]
      exact ⟨_, _, rfl, rfl, Or.inl ⟨rfl, congrArg (fun y => (-10 : Int32) - y) (h1.2.2.1.trans h1.1.symm), rfl⟩⟩
    · have hv := (nb_N (lo := 0) (hi := 60) (by omega) (by omega) (by omega)).mp v3
      rw [n1, Option.bind_some, if_neg (show ¬ (1 : Int32) = 0 by decide), n2, Option.bind_some, n3, Option.bind_some, if_neg (show ¬ (1 : Int32) = 0 by decide)]
      dsimp only
      rw [chk_t (show ix 0 2 = true by decide), show upd vals 0 (nI v) (0 : Int32).toNatClampNeg = nI v from rfl, begin_m (N := 75) (by omega) (by omega) (by omega), Option.bind_some]
      rcases semB hF hT h2 with ⟨q1, q2⟩ | ⟨q1, q2, a5, e5, x5, z5, l6, c5, q3, q4⟩
      · rw [q2, Option.bind_some, chk_t (by rfl), Option.bind_some, if_pos rfl, if_neg (fun q => q1 ((TK_s h2.2.2.2.2.2.2).1.mpr q)), Option.bind_some, if_pos rfl]
        exact ⟨_, _, rfl, rfl, Or.inl ⟨rfl, congrArg (fun y => (-10 : Int32) - y) (h2.2.2.1.trans h2.1.symm), rfl⟩⟩
      · rw [q3, Option.bind_some, chk_t (by rfl), Option.bind_some, if_neg (show ¬ (1 : Int32) = 0 by decide), if_pos q2, Option.bind_some, if_neg (show ¬ (1 : Int32) = 0 by decide), q4, Option.bind_some, v2]
        exact readLoop hF hT told (L - a5) a5 e5 x5 z5 1 0 0 v F F lo0 kind wanted hours had due ahead gets lb th (upd vals 0 (nI v)) (upd (pre (fun _ => 0) anew 75) 24 (nI v)) dg dd ah ge rfl (by omega) (by omega) (by omega) (by omega) c5 (DR_begin hv.2 kind wanted hours had due anew)
  · rw [if_neg c3, Option.bind_some, if_pos rfl, decide_eq_false c3, if_pos (show fl false = 0 by decide), Option.bind_some, if_pos rfl]
    exact ⟨_, _, rfl, rfl, Or.inl ⟨rfl, congrArg (fun y => (-10 : Int32) - y) (h.2.2.1.trans h.1.symm), rfl⟩⟩
theorem DR_PR {n d p : Nat} {kind wanted hours had due anew : Nat → Int32} (h : DR n d p kind wanted hours had due anew) (hd : d ≤ 999) (lh lp note past told : Nat → Int32) : PR (nI p) (nI d) (nI n) 0 0 0 kind wanted hours had due lh lp note past (pre anew told 75) := by
  obtain ⟨h1, h2, ⟨t0, t1, t2, t3, t4, t5⟩, hw⟩ := h
  refine ⟨n, 0, 0, 0, d, p, ⟨rfl, h1, rfl, by omega, rfl, by omega, rfl, by omega, rfl, hd, rfl, h2⟩, ⟨?_, ?_, ?_, ?_, ?_, ?_⟩, fun i hi => ?_, fun k hk => absurd hk (Nat.not_lt_zero k), fun k hk => absurd hk (Nat.not_lt_zero k), fun k hk => absurd hk (Nat.not_lt_zero k)⟩
  · rw [pre_in (by omega)]; exact t0
  · rw [pre_in (by omega)]; exact t1
  · rw [pre_in (by omega)]; exact t2
  · rw [pre_in (by omega)]; exact t3
  · rw [pre_in (by omega)]; exact t4
  · rw [pre_in (by omega)]; exact t5
  · rw [pre_in (by omega), pre_in (by omega), pre_in (by omega), pre_in (by omega), pre_in (by omega)]
    exact hw i hi
theorem rs_read : Rs_read := by
  unfold Rs_read
  intro x_above x_below x_bads x_nos x_fulls pressure day wells lefts notes undos kind wanted hours had due leftHour leftPressure note past x_reader_start len x_reader_next x_reader_token x_reader_value x_reader_draft_pressure x_reader_draft_day x_reader_draft_wells x_reader_draft_lefts x_reader_draft_notes x_reader_draft_undos x_reader_draft_leftOver x_reader_draft_kind x_reader_draft_wanted x_reader_draft_hours x_reader_draft_had x_reader_draft_due x_reader_draft_leftHour x_reader_draft_leftPressure x_reader_draft_note x_reader_draft_past x_reader_draft_ahead x_reader_draft_gets text m_above m_below m_leftBehind m_bytesLong m_tokenAt m_tokenLong m_token m_value m_takenHours m_told m_refused m_gets m_ahead m_dayGets m_dayDue m_bytes m_anew m_values hR
  obtain ⟨hP, hr, hf, L, rfl, hL, rfl, hx⟩ := id hR
  have hT : TxR (fun k => (text k).toNatClampNeg) L text m_bytes := by
    refine ⟨hL, fun k hk => ?_⟩
    obtain ⟨⟨b, b1, b2⟩, b3⟩ := hx k hk
    dsimp only
    rw [b3, b1, cl_n (by omega)]
    exact ⟨rfl, rfl, b2⟩
  obtain ⟨ox, om, e1, e2, e3⟩ := parse_both (F := FU) (ltF (by omega)) hT m_told x_reader_start x_reader_next x_reader_token x_reader_value x_reader_draft_pressure x_reader_draft_day x_reader_draft_wells x_reader_draft_lefts x_reader_draft_notes x_reader_draft_undos x_reader_draft_leftOver x_reader_draft_hours x_reader_draft_ahead x_reader_draft_kind x_reader_draft_wanted x_reader_draft_gets x_reader_draft_had x_reader_draft_due m_leftBehind m_tokenAt m_tokenLong m_token m_value m_takenHours m_values m_anew m_dayGets m_dayDue m_ahead m_gets
  unfold f_X4_read
  rw [e1, Option.bind_some, e2]
  rcases e3 with ⟨f1, f2, f3⟩ | ⟨c, n, d, p, anew, hc, hd, g1, g2, g3, g4, g5, g6, g7, g8, hD, g9⟩
  · rw [if_pos f1]
    refine ⟨_, _, rfl, rfl, f2.symm, ?_⟩
    rw [f3]
    exact hR
  · have hP' := DR_PR hD hd x_reader_draft_leftHour x_reader_draft_leftPressure x_reader_draft_note x_reader_draft_past m_told
    rw [← g3, ← g4, ← g5] at hP'
    rw [show PR ox.2.2.2.2.2.1 ox.2.2.2.2.2.2.1 ox.2.2.2.2.2.2.2.1 0 0 0 _ _ _ _ _ _ _ _ _ _ = PR ox.2.2.2.2.2.1 ox.2.2.2.2.2.2.1 ox.2.2.2.2.2.2.2.1 ox.2.2.2.2.2.2.2.2.1 ox.2.2.2.2.2.2.2.2.2.1 ox.2.2.2.2.2.2.2.2.2.2.1 _ _ _ _ _ _ _ _ _ _ from by rw [g6, g7, g8]] at hP'
    obtain ⟨oc, e4, e5⟩ := copy_x FU hP' pressure day wells lefts notes undos kind wanted hours had due leftHour leftPressure note past
    rw [if_neg (by rw [g1]; exact nI_nm1 (by omega)), e4, Option.bind_some]
    refine ⟨_, _, rfl, rfl, g1.trans g2.symm, ?_⟩
    rw [g9]
    exact ⟨e5, hr, hf, L, rfl, hL, rfl, hx⟩

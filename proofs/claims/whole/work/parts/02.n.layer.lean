section ZLT
variable {p : Program} {l : Launch} {e : Env} {R : Room} {s : State} {m : MethodId} {args : Array Value} {below : List Frame} {meth : Method} {c : Code} {nL : Nat} {E : zE} {A : Nat → Prop} {cells slots : Nat} {Q : State → Prop} {cc : ByteArray} {own : String} {Ts : List Cond} {ws T : va_W} {pc : Nat} {L : List (Nat × Value)} {st : List Value}
theorem va_P.left {D : va_G} {cl : List vw_C} {w1 w2 : va_W} {H : Heap} (h : va_P D cl (w1 ++ w2) H) : va_P D cl w1 H := fun k q hk => h k q (by rw [List.getElem?_append_left (List.getElem?_eq_some_iff.mp hk).1]; exact hk)
theorem va_P.right {D : va_G} {cl : List vw_C} {w1 w2 : va_W} {H : Heap} (h : va_P D cl (w1 ++ w2) H) : va_P D cl w2 H := fun k q hk => h (w1.length + k) q (by rw [List.getElem?_append_right (Nat.le_add_right _ _), Nat.add_sub_cancel_left]; exact hk)
theorem va_D.left {A : Nat → Prop} {w1 w2 : va_W} (h : va_D A (w1 ++ w2)) : va_D A w1 := ⟨fun i j p q hi hj hpq => h.1 i j p q (by rw [List.getElem?_append_left (List.getElem?_eq_some_iff.mp hi).1]; exact hi) (by rw [List.getElem?_append_left (List.getElem?_eq_some_iff.mp hj).1]; exact hj) hpq, fun k q hk => h.2 k q (by rw [List.getElem?_append_left (List.getElem?_eq_some_iff.mp hk).1]; exact hk)⟩
theorem va_D.right {A : Nat → Prop} {w1 w2 : va_W} (h : va_D A (w1 ++ w2)) : va_D A w2 := ⟨fun i j p q hi hj hpq => by
    have := h.1 (w1.length + i) (w1.length + j) p q (by rw [List.getElem?_append_right (Nat.le_add_right _ _), Nat.add_sub_cancel_left]; exact hi) (by rw [List.getElem?_append_right (Nat.le_add_right _ _), Nat.add_sub_cancel_left]; exact hj) hpq
    omega, fun k q hk => h.2 (w1.length + k) q (by rw [List.getElem?_append_right (Nat.le_add_right _ _), Nat.add_sub_cancel_left]; exact hk)⟩
theorem va_D.cross {A : Nat → Prop} {w1 w2 : va_W} (h : va_D A (w1 ++ w2)) {i j : Nat} {p q : Nat × va_E} (hi : w1[i]? = some p) (hj : w2[j]? = some q) : p.1 ≠ q.1 := by
  intro e
  have hl := (List.getElem?_eq_some_iff.mp hi).1
  have := h.1 i (w1.length + j) p q (by rw [List.getElem?_append_left hl]; exact hi) (by rw [List.getElem?_append_right (Nat.le_add_right _ _), Nat.add_sub_cancel_left]; exact hj) e
  omega
theorem z_picked {ws wc : va_W} {is : List Nat} (hC : is.map (fun i => ws[i]?) = wc.map some) {k : Nat} {q : Nat × va_E} (hk : wc[k]? = some q) : ∃ i, is[k]? = some i ∧ ws[i]? = some q := by
  have h1 : (is.map (fun i => ws[i]?))[k]? = some (some q) := by rw [hC, List.getElem?_map, hk]; rfl
  rw [List.getElem?_map] at h1
  cases hi : is[k]? with
  | none => rw [hi] at h1; cases h1
  | some i => rw [hi] at h1; exact ⟨i, rfl, Option.some.inj h1⟩
theorem z_swapT {T1 T2 : va_W} (k : zG p l e R s m args below meth c nL E A cells slots Q (ws ++ (T2 ++ T1)) (pc) (L) (st)) : zG p l e R s m args below meth c nL E A cells slots Q (ws ++ (T1 ++ T2)) (pc) (L) (st) := by
  intro H locs ls hP hD hS hl
  have hx : ∀ (i j : Nat) (p q : Nat × va_E), ws[i]? = some p → (T2 ++ T1)[j]? = some q → p.1 ≠ q.1 := by
    intro i j p q hi hj
    by_cases hl2 : j < T2.length
    · rw [List.getElem?_append_left hl2] at hj
      exact hD.cross hi (j := T1.length + j) (by rw [List.getElem?_append_right (Nat.le_add_right _ _), Nat.add_sub_cancel_left]; exact hj)
    · rw [List.getElem?_append_right (by omega)] at hj
      exact hD.cross hi (j := j - T2.length) (by rw [List.getElem?_append_left (List.getElem?_eq_some_iff.mp hj).1]; exact hj)
  refine k H locs ls (va_P.app hP.left (va_P.app hP.right.right hP.right.left)) (va_D.app hD.left (va_D.app hD.right.right hD.right.left (fun i j p q hi hj => (hD.right.cross hj hi).symm)) hx) hS hl
theorem z_afterT (C : zC p s m args c meth cc nL own Ts E A) {wc wr wc' ws2 : va_W} (isC isR perm : List Nat) {r : Option Value} {a : Array Value} {rest st0 : List Value} (hC : isC.map (fun i => ws[i]?) = wc.map some) (hnC : va_nd isC = true) (hR : isR.map (fun i => ws[i]?) = wr.map some) (hnR : va_nd isR = true) (hdis : ∀ i ∈ isR, i ∉ isC) (hp : perm.map (fun i => (wr ++ wc')[i]?) = ws2.map some) (hnp : va_nd perm = true)
    (hr : ∀ (H : Heap) (locs : List Loc) (ls : Array Slot), va_P E.1 vwCl wc H → va_D A wc → lv_has ls nL L → va_Run p l e R s m args below meth c H locs cells slots 0 0 (F0 m pc ls st0) rest (zQ E (va_A wc H.size) r wc' a) (va_A wc H.size))
    (k : zG p l e R s m args below meth c nL E A cells slots Q (ws2 ++ T) (pc + 3) (L) (r.toList ++ rest)) : zG p l e R s m args below meth c nL E A cells slots Q (ws ++ T) (pc) (L) (st0) := by
  intro H locs ls hP hD hS hl Tt hT X
  have hA := C.2.2.2.2.2.2.1
  have hPx := hP.left
  have hDx := hD.left
  have hPc : va_P E.1 vwCl wc H := fun k q hk => by
    obtain ⟨i, -, h2⟩ := z_picked hC hk
    exact hPx i q h2
  have hF := va_free (wc := wc) hDx hS hA isC hC
  have hDc : va_D A wc := hDx.sub isC hnC hC
  obtain ⟨v, st₀, t, T', Lx, h0, X', hL, e1, e2, ⟨⟨hv, hP1, hD1⟩, hz, hk⟩, stp⟩ := hr H locs ls hPc hDc hl Tt hT X
  cases hv
  rw [h0] at hz hk
  have hk' : ∀ q : Nat, q < H.size → ¬ va_A wc H.size q → T'.heap[q]? = H[q]? := fun q h1 h2 => by rw [e1]; exact hk q h1 h2
  obtain ⟨hP2, hD2⟩ := va_join hPx hDx isC isR hC hR hnR hdis hk' hF (by rw [e1]; exact hP1) hD1
  have hS2 : va_S A s.heap T'.heap (locs ++ Lx) := ⟨Nat.le_trans hS.1 (by rw [e1]; exact hz), fun q h1 h2 => by rw [hk' q (Nat.lt_of_lt_of_le h1 hS.1) (fun z => h2 (hF q z))]; exact hS.2.1 q h1 h2, fun q hq => by
      rcases List.mem_append.mp hq with h | h
      · exact hS.2.2 q h
      · exact hF _ (hL q h)⟩
  have apart : ∀ (k : Nat) (q : Nat × va_E), T[k]? = some q → q.1 < H.size ∧ ¬ va_A wc H.size q.1 := by
    intro k q hq
    have hlt := (hP.right k q hq).lt
    refine ⟨hlt, fun h => ?_⟩
    rcases h with ⟨k2, e9, h⟩ | h
    · obtain ⟨j, -, h4⟩ := z_picked hC h
      exact hD.cross h4 hq rfl
    · omega
  have hPT : va_P E.1 vwCl T T'.heap := hP.right.kept (fun k q hq => hk' q.1 (apart k q hq).1 (apart k q hq).2)
  have hP3 : va_P E.1 vwCl ws2 T'.heap := fun k q hk => by
    obtain ⟨i, -, h2⟩ := z_picked hp hk
    exact hP2 i q h2
  have hD3 : va_D A (ws2 ++ T) := by
    refine va_D.app (hD2.sub perm hnp hp) hD.right (fun i j x y hx hy hxy => ?_)
    obtain ⟨i2, -, h2⟩ := z_picked hp hx
    by_cases hlr : i2 < wr.length
    · rw [List.getElem?_append_left hlr] at h2
      obtain ⟨i3, -, h3⟩ := z_picked hR h2
      exact hD.cross h3 hy hxy
    · rw [List.getElem?_append_right (by omega)] at h2
      exact (apart j y hy).2 (by rw [← hxy]; exact hD1.2 _ x h2)
  obtain ⟨t2, a1, b1⟩ := k T'.heap (locs ++ Lx) ls (va_P.app hP3 hPT) hD3 hS2 hl T' rfl X'
  exact ⟨t2, stp t2 a1, b1⟩
theorem z_afterAT (C : zC p s m args c meth cc nL own Ts E A) {wc wr : va_W} {wq ws2 : (Nat → Nat) → va_W} {mc ms : Nat} (isC isR perm : List Nat) {r : Option Value} {a : Array Value} {rest st0 : List Value} (hC : isC.map (fun i => ws[i]?) = wc.map some) (hnC : va_nd isC = true) (hR : isR.map (fun i => ws[i]?) = wr.map some) (hnR : va_nd isR = true) (hdis : ∀ i ∈ isR, i ∉ isC) (hp : ∀ qs, perm.map (fun i => (wr ++ wq qs)[i]?) = (ws2 qs).map some) (hnp : va_nd perm = true)
    (hr : ∀ (H : Heap) (locs : List Loc) (ls : Array Slot), va_P E.1 vwCl wc H → va_D A wc → lv_has ls nL L → va_Run p l e R s m args below meth c H locs cells slots mc ms (F0 m pc ls st0) rest (zQa E (va_A wc H.size) r wq a) (va_A wc H.size))
    (k : ∀ qs, zG p l e R s m args below meth c nL E A (cells + mc) (slots + ms) Q (ws2 qs ++ T) (pc + 3) (L) (r.toList ++ rest)) : zG p l e R s m args below meth c nL E A cells slots Q (ws ++ T) (pc) (L) (st0) := by
  intro H locs ls hP hD hS hl Tt hT X
  have hA := C.2.2.2.2.2.2.1
  have hPx := hP.left
  have hDx := hD.left
  have hPc : va_P E.1 vwCl wc H := fun k q hk => by
    obtain ⟨i, -, h2⟩ := z_picked hC hk
    exact hPx i q h2
  have hF := va_free (wc := wc) hDx hS hA isC hC
  have hDc : va_D A wc := hDx.sub isC hnC hC
  obtain ⟨v, st₀, t, T', Lx, h0, X', hL, e1, e2, ⟨⟨qs, hv, hP1, hD1⟩, hz, hk⟩, stp⟩ := hr H locs ls hPc hDc hl Tt hT X
  cases hv
  rw [h0] at hz hk
  have hk' : ∀ q : Nat, q < H.size → ¬ va_A wc H.size q → T'.heap[q]? = H[q]? := fun q h1 h2 => by rw [e1]; exact hk q h1 h2
  obtain ⟨hP2, hD2⟩ := va_join hPx hDx isC isR hC hR hnR hdis hk' hF (by rw [e1]; exact hP1) hD1
  have hS2 : va_S A s.heap T'.heap (locs ++ Lx) := ⟨Nat.le_trans hS.1 (by rw [e1]; exact hz), fun q h1 h2 => by rw [hk' q (Nat.lt_of_lt_of_le h1 hS.1) (fun z => h2 (hF q z))]; exact hS.2.1 q h1 h2, fun q hq => by
      rcases List.mem_append.mp hq with h | h
      · exact hS.2.2 q h
      · exact hF _ (hL q h)⟩
  have apart : ∀ (k : Nat) (q : Nat × va_E), T[k]? = some q → q.1 < H.size ∧ ¬ va_A wc H.size q.1 := by
    intro k q hq
    have hlt := (hP.right k q hq).lt
    refine ⟨hlt, fun h => ?_⟩
    rcases h with ⟨k2, e9, h⟩ | h
    · obtain ⟨j, -, h4⟩ := z_picked hC h
      exact hD.cross h4 hq rfl
    · omega
  have hPT : va_P E.1 vwCl T T'.heap := hP.right.kept (fun k q hq => hk' q.1 (apart k q hq).1 (apart k q hq).2)
  have hP3 : va_P E.1 vwCl (ws2 qs) T'.heap := fun k q hk => by
    obtain ⟨i, -, h2⟩ := z_picked (hp qs) hk
    exact hP2 i q h2
  have hD3 : va_D A ((ws2 qs) ++ T) := by
    refine va_D.app (hD2.sub perm hnp (hp qs)) hD.right (fun i j x y hx hy hxy => ?_)
    obtain ⟨i2, -, h2⟩ := z_picked (hp qs) hx
    by_cases hlr : i2 < wr.length
    · rw [List.getElem?_append_left hlr] at h2
      obtain ⟨i3, -, h3⟩ := z_picked hR h2
      exact hD.cross h3 hy hxy
    · rw [List.getElem?_append_right (by omega)] at h2
      exact (apart j y hy).2 (by rw [← hxy]; exact hD1.2 _ x h2)
  obtain ⟨t2, a1, b1⟩ := k qs T'.heap (locs ++ Lx) ls (va_P.app hP3 hPT) hD3 hS2 hl T' rfl X'
  exact ⟨t2, stp t2 a1, b1⟩
theorem z_callVT (C : zC p s m args c meth cc nL own Ts E A) {y : MethodName} {bytes : ByteArray} {maxL index n : Nat} {ret : Option FieldType} {wy wy' : List Cond} {rm : Room} {As st' st2 : List Value} {r : Option Value} {b ci j : Nat} {fs : List Value} {q : vw_C} (isC isR perm : List Nat) {wc wr wc' ws2 : va_W} (hC : isC.map (fun i => ws[i]?) = wc.map some) (hnC : va_nd isC = true) (hR : isR.map (fun i => ws[i]?) = wr.map some) (hnR : va_nd isR = true) (hdis : ∀ i ∈ isR, i ∉ isC) (hp : perm.map (fun i => (wr ++ wc')[i]?) = ws2.map some) (hnp : va_nd perm = true) (hM : zM l y wy rm E (.ref b :: As) wc r wc') (hG : GoodIn Ts (wsV own index y.cls y wy)) (hw : wy = .code y bytes maxL ret :: wy') (hrc : rm.cells = 0) (hrs : rm.slots = 0) (hd : y.cls = y.cls ∧ y.cls ≠ "java/lang/invoke/MethodHandle" ∧ y.cls ≠ "java/lang/invoke/VarHandle" ∧ (parseMethodDescriptor y.desc).map (fun d => d.parameters.length) = some n) (hR2 : rm.frames + 1 ≤ R.frames ∧ 8 + (maxL + 11) + rm.locals ≤ R.locals) (hn : As.length = n) (hrev : As.reverse ++ .ref b :: st = st') (hst : r.toList ++ st = st2) (hj : wc[j]? = some (b, .inr (ci, fs))) (hcl : vwCl[ci]? = some q) (hq : q.1 = y.cls) (hroom : (st.map fun v => v.category).sum ≤ 8) (hdg : decode cc pc = .ok (.invokevirtual index, 3)) (hf : cells ≤ R.cells ∧ slots ≤ R.slots)
    (k : zG p l e R s m args below meth c nL E A cells slots Q (ws2 ++ T) (pc + 3) (L) (st2)) : zG p l e R s m args below meth c nL E A cells slots Q (ws ++ T) (pc) (L) (st') := by
  subst hrev
  subst hst
  refine z_afterT C (wc := wc) (wr := wr) (wc' := wc') (ws2 := ws2) isC isR perm (r := r) (a := (Value.ref b :: As).toArray) (rest := st) hC hnC hR hnR hdis hp hnp (fun H locs ls hP hD hl => ?_) k
  refine va_runV (As := As) (rest := st) (n := n) ⟨C.1, C.2.1, C.2.2.1, C.2.2.2.1, C.2.2.2.2.1⟩ (hM H.size) (cwV n C.2.2.2.2.1 hG hw hrc hrs hd hR2) ⟨zP.blind, ?_, zP.start hP C.2.2.2.2.2.1 hD⟩ rfl hn hl.1 rfl (lv_room hroom) hdg ⟨by simpa using hf.1, by simpa using hf.2⟩
  obtain ⟨cell, h1, h2, h3⟩ := va_recv C.2.2.2.2.2.1 hP hcl hj
  exact ⟨cell, h1, h2, by rw [← hq]; exact h3⟩
theorem z_callVAT (C : zC p s m args c meth cc nL own Ts E A) (hN : zNw s) {y : MethodName} {bytes : ByteArray} {maxL index n : Nat} {ret : Option FieldType} {wy wy' : List Cond} {rm : Room} {As st' st2 : List Value} {r : Option Value} {mc ms : Nat} {b ci j : Nat} {fs : List Value} {q : vw_C} (isC isR perm : List Nat) {wc wr : va_W} {wq ws2 : (Nat → Nat) → va_W} (hC : isC.map (fun i => ws[i]?) = wc.map some) (hnC : va_nd isC = true) (hR : isR.map (fun i => ws[i]?) = wr.map some) (hnR : va_nd isR = true) (hdis : ∀ i ∈ isR, i ∉ isC) (hp : ∀ qs, perm.map (fun i => (wr ++ wq qs)[i]?) = (ws2 qs).map some) (hnp : va_nd perm = true) (hM : zMa l y wy rm E mc ms (.ref b :: As) wc r wq) (hG : GoodIn Ts (wsV own index y.cls y wy)) (hw : wy = .code y bytes maxL ret :: wy') (hrc : rm.cells = mc) (hrs : rm.slots = ms) (hd : y.cls = y.cls ∧ y.cls ≠ "java/lang/invoke/MethodHandle" ∧ y.cls ≠ "java/lang/invoke/VarHandle" ∧ (parseMethodDescriptor y.desc).map (fun d => d.parameters.length) = some n) (hR2 : rm.frames + 1 ≤ R.frames ∧ 8 + (maxL + 11) + rm.locals ≤ R.locals) (hn : As.length = n) (hrev : As.reverse ++ .ref b :: st = st') (hst : r.toList ++ st = st2) (hj : wc[j]? = some (b, .inr (ci, fs))) (hcl : vwCl[ci]? = some q) (hq : q.1 = y.cls) (hroom : (st.map fun v => v.category).sum ≤ 8) (hdg : decode cc pc = .ok (.invokevirtual index, 3)) (hf : cells + mc ≤ R.cells ∧ slots + ms ≤ R.slots)
    (k : ∀ qs, zG p l e R s m args below meth c nL E A (cells + mc) (slots + ms) Q (ws2 qs ++ T) (pc + 3) (L) (st2)) : zG p l e R s m args below meth c nL E A cells slots Q (ws ++ T) (pc) (L) (st') := by
  subst hrev
  subst hst
  refine z_afterAT C (wc := wc) (wr := wr) (wq := wq) (ws2 := ws2) (mc := mc) (ms := ms) isC isR perm (r := r) (a := (Value.ref b :: As).toArray) (rest := st) hC hnC hR hnR hdis hp hnp (fun H locs ls hP hD hl => ?_) k
  refine va_runV (As := As) (rest := st) (n := n) ⟨C.1, C.2.1, C.2.2.1, C.2.2.2.1, C.2.2.2.2.1⟩ (hM H.size) (cwV n C.2.2.2.2.1 hG hw hrc hrs hd hR2) ⟨zPa.blind, ?_, zPa.start hN hP C.2.2.2.2.2.1 hD⟩ rfl hn hl.1 rfl (lv_room hroom) hdg hf
  obtain ⟨cell, h1, h2, h3⟩ := va_recv C.2.2.2.2.2.1 hP hcl hj
  exact ⟨cell, h1, h2, by rw [← hq]; exact h3⟩
theorem z_sld (C : zC p s m args c meth cc nL own Ts E A) {b N : Nat} {xs : Nat → Int32} (hX : va_X b N xs s s.heap) (hbl : b < s.heap.size) (hbA : ¬ A b) {i : Int32} (hin : vp_in i N) (hdg : decode cc pc = .ok (.iaload, 1)) (k : zG p l e R s m args below meth c nL E A cells slots Q (ws) (pc + 1) (L) (.int (xs i.toNatClampNeg) :: st)) : zG p l e R s m args below meth c nL E A cells slots Q (ws) (pc) (L) (.int i :: .ref b :: st) := fun H locs ls hP hD hS hl => va_sld C.1 C.2.1 hX hbl hbA hS hin hdg (k H locs ls hP hD hS hl)
theorem z_slen (C : zC p s m args c meth cc nL own Ts E A) {b N : Nat} {xs : Nat → Int32} (hX : va_X b N xs s s.heap) (hbl : b < s.heap.size) (hbA : ¬ A b) (hdg : decode cc pc = .ok (.arraylength, 1)) (k : zG p l e R s m args below meth c nL E A cells slots Q (ws) (pc + 1) (L) (.int (Int32.ofNat N) :: st)) : zG p l e R s m args below meth c nL E A cells slots Q (ws) (pc) (L) (.ref b :: st) := fun H locs ls hP hD hS hl => va_slen C.1 C.2.1 hX hbl hbA hS hdg (k H locs ls hP hD hS hl)
end ZLT

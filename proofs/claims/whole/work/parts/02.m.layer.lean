section ZLA
variable {p : Program} {l : Launch} {e : Env} {R : Room} {s : State} {m : MethodId} {args : Array Value} {below : List Frame} {meth : Method} {c : Code} {nL : Nat} {E : zE} {A : Nat → Prop} {cells slots : Nat} {Q : State → Prop} {cc : ByteArray} {own : String} {Ts : List Cond} {ws : va_W} {pc : Nat} {L : List (Nat × Value)} {st : List Value}
theorem zNw.warm {s U : State} (hW : s.WarmedH U.vm) (h : zNw s) : zNw U := ⟨va_Nw.warmM hW h.1, va_Nw.warmM hW h.2.1, va_Nw.warmM hW h.2.2.1, va_Nw.warmM hW h.2.2.2.1, va_AO.moved hW.alike h.2.2.2.2⟩
theorem zNw.call {U : State} {g : JFrame} {mk : MethodId} {a : Array Value} (h : zNw U) : zNw (U.calling g mk a) := h
theorem z_widen {k n : Nat} (h1 : cells ≤ k) (h2 : slots ≤ n) (kk : zG p l e R s m args below meth c nL E A k n Q (ws) (pc) (L) (st)) : zG p l e R s m args below meth c nL E A cells slots Q (ws) (pc) (L) (st) := fun H locs ls hP hD hS hl => W.widen h1 h2 (kk H locs ls hP hD hS hl)
theorem z_objInit (C : zC p s m args c meth cc nL own Ts E A) {a idx : Nat} (w1 : Cond.methodLink own idx objectInit ∈ Ts) (w2 : Cond.instanceMethod objectInit ∈ Ts) (w3 : Cond.code objectInit ⟨#[0xb1]⟩ 1 none ∈ Ts) (hdg : decode cc pc = .ok (.invokespecial idx, 3)) (hfr : 1 ≤ R.frames) (hlo : (st.map fun v => v.category).sum + 12 ≤ R.locals) (k : zG p l e R s m args below meth c nL E A cells slots Q (ws) (pc + 3) (L) (st)) : zG p l e R s m args below meth c nL E A cells slots Q (ws) (pc) (L) (.ref a :: st) := by
  intro H locs ls hP hD hS hl
  refine W.objInit C.1 C.2.1 C.2.2.2.1 (C.2.2.2.2.1 _ w1) (C.2.2.2.2.1 _ w2) (C.2.2.2.2.1 _ w3) rfl (by rw [C.2.2.1]; exact hl.1) rfl hdg hfr (by simpa [JFrame.monitorRoom] using hlo) ?_
  exact k H locs ls hP hD hS hl
theorem z_newI (C : zC p s m args c meth cc nL own Ts E A) {n : Int32} {N : Nat} (w1 : Cond.arrayClass .int ∈ Ts) (hn : ¬ n < 0) (hN : n.toNatClampNeg = N) (hbytes : N * componentBytes .int ≤ 536870912) (hcells : cells + 1 ≤ R.cells) (hslots : slots + N ≤ R.slots) (hdg : decode cc pc = .ok (.newarray .int, 2)) (k : ∀ q : Nat, zG p l e R s m args below meth c nL E A (cells + 1) (slots + N) Q (ws ++ [(q, zI E N (fun _ => 0))]) (pc + 2) (L) (.ref q :: st)) : zG p l e R s m args below meth c nL E A cells slots Q (ws) (pc) (L) (.int n :: st) := by
  intro H locs ls hP hD hS hl
  refine va_newa (atype := .int) C.1 C.2.1 (C.2.2.2.2.1 _ w1) (ty := .int) rfl C.2.2.2.2.2.1 hP hD hS C.2.2.2.2.2.2.1 (a0 := (N, .inl (fun _ => 0))) (fun cA => rfl) hn hN hbytes hcells hslots hdg (fun q cA H1 hK1 hP1 hD1 hS1 => ?_)
  have h1 := (C.2.2.2.2.2.1.2 0 _ rfl).2
  have h2 := (hK1.2 4 _ rfl).2
  have h3 : some cA = some _ := h2.symm.trans h1
  cases h3
  exact k q H1 locs ls hP1 hD1 hS1 hl
theorem z_newB (C : zC p s m args c meth cc nL own Ts E A) {n : Int32} {N : Nat} (w1 : Cond.arrayClass .byte ∈ Ts) (hn : ¬ n < 0) (hN : n.toNatClampNeg = N) (hbytes : N * componentBytes .byte ≤ 536870912) (hcells : cells + 1 ≤ R.cells) (hslots : slots + N ≤ R.slots) (hdg : decode cc pc = .ok (.newarray .byte, 2)) (k : ∀ q : Nat, zG p l e R s m args below meth c nL E A (cells + 1) (slots + N) Q (ws ++ [(q, zB E N (fun _ => 0))]) (pc + 2) (L) (.ref q :: st)) : zG p l e R s m args below meth c nL E A cells slots Q (ws) (pc) (L) (.int n :: st) := by
  intro H locs ls hP hD hS hl
  refine va_newa (atype := .byte) C.1 C.2.1 (C.2.2.2.2.1 _ w1) (ty := .byte) rfl C.2.2.2.2.2.1 hP hD hS C.2.2.2.2.2.2.1 (a0 := (N, .inl (fun _ => 0))) (fun cA => rfl) hn hN hbytes hcells hslots hdg (fun q cA H1 hK1 hP1 hD1 hS1 => ?_)
  have h1 := (C.2.2.2.2.2.1.2 1 _ rfl).2
  have h2 := (hK1.2 4 _ rfl).2
  have h3 : some cA = some _ := h2.symm.trans h1
  cases h3
  exact k q H1 locs ls hP1 hD1 hS1 hl
theorem z_newZ (C : zC p s m args c meth cc nL own Ts E A) {n : Int32} {N : Nat} (w1 : Cond.arrayClass .boolean ∈ Ts) (hn : ¬ n < 0) (hN : n.toNatClampNeg = N) (hbytes : N * componentBytes .boolean ≤ 536870912) (hcells : cells + 1 ≤ R.cells) (hslots : slots + N ≤ R.slots) (hdg : decode cc pc = .ok (.newarray .boolean, 2)) (k : ∀ q : Nat, zG p l e R s m args below meth c nL E A (cells + 1) (slots + N) Q (ws ++ [(q, zZ E N (fun _ => 0))]) (pc + 2) (L) (.ref q :: st)) : zG p l e R s m args below meth c nL E A cells slots Q (ws) (pc) (L) (.int n :: st) := by
  intro H locs ls hP hD hS hl
  refine va_newa (atype := .boolean) C.1 C.2.1 (C.2.2.2.2.1 _ w1) (ty := .boolean) rfl C.2.2.2.2.2.1 hP hD hS C.2.2.2.2.2.2.1 (a0 := (N, .inl (fun _ => 0))) (fun cA => rfl) hn hN hbytes hcells hslots hdg (fun q cA H1 hK1 hP1 hD1 hS1 => ?_)
  have h1 := (C.2.2.2.2.2.1.2 2 _ rfl).2
  have h2 := (hK1.2 4 _ rfl).2
  have h3 : some cA = some _ := h2.symm.trans h1
  cases h3
  exact k q H1 locs ls hP1 hD1 hS1 hl
theorem z_newO (C : zC p s m args c meth cc nL own Ts E A) (hN0 : zNw s) {n : Int32} {N index : Nat} (w1 : Cond.classLink own index "WishMeter$Pipe" ∈ Ts) (hn : ¬ n < 0) (hN : n.toNatClampNeg = N) (hbytes : N * 4 ≤ 536870912) (hcells : cells + 1 ≤ R.cells) (hslots : slots + N ≤ R.slots) (hdg : decode cc pc = .ok (.anewarray index, 3)) (k : ∀ q : Nat, zG p l e R s m args below meth c nL E A (cells + 1) (slots + N) Q (ws ++ [(q, zO E N (fun _ => none))]) (pc + 3) (L) (.ref q :: st)) : zG p l e R s m args below meth c nL E A cells slots Q (ws) (pc) (L) (.int n :: st) := by
  intro H locs ls hP hD hS hl
  refine va_newq C.1 C.2.1 C.2.2.2.1 (C.2.2.2.2.1 _ w1) hN0.2.2.2.2 C.2.2.2.2.2.1 hP hD hS C.2.2.2.2.2.2.1 hn hN hbytes hcells hslots hdg (fun q cA H1 hK1 hP1 hD1 hS1 => ?_)
  have h1 := (C.2.2.2.2.2.1.2 3 _ rfl).2
  have h2 := (hK1.2 4 _ rfl).2
  obtain ⟨_, _, _, _, _, h1⟩ := h1
  obtain ⟨_, _, _, _, _, h2⟩ := h2
  have h3 : some cA = some _ := h2.symm.trans h1
  cases h3
  exact k q H1 locs ls hP1 hD1 hS1 hl
theorem z_new (C : zC p s m args c meth cc nL own Ts E A) {Cn : String} {T : u_T} {N ci index : Nat} (hin : ∀ w ∈ u_ws Cn T N, w ∈ Ts) (ty : Nat → FieldType) (hty : ∀ k, k < N → parseFieldDescriptor (T k).2.2.1 = some (ty k)) (w1 : Cond.classLink own index Cn ∈ Ts) (w2 : Cond.instantiable Cn N ∈ Ts) (w3 : Cond.initialized Cn ∈ Ts) (hc : vwCl[ci]? = some (Cn, T, N)) {fs : List Value} (hfs : ∀ j, j < N → defaultValue (ty j) = vp_V fs j) (hcells : cells + 1 ≤ R.cells) (hslots : slots + N ≤ R.slots) (hdg : decode cc pc = .ok (.new index, 3)) (k : ∀ q : Nat, zG p l e R s m args below meth c nL E A (cells + 1) (slots + N) Q (ws ++ [(q, .inr (ci, fs))]) (pc + 3) (L) (.ref q :: st)) : zG p l e R s m args below meth c nL E A cells slots Q (ws) (pc) (L) (st) := by
  intro H locs ls hP hD hS hl
  exact va_new C.1 C.2.1 C.2.2.2.2.1 hin ty hty C.2.2.2.1 (C.2.2.2.2.1 _ w1) (C.2.2.2.2.1 _ w2) (C.2.2.2.2.1 _ w3) C.2.2.2.2.2.1 hP hD hS C.2.2.2.2.2.2.1 hc hfs hcells hslots hdg (fun q H1 hP1 hD1 hS1 => k q H1 locs ls hP1 hD1 hS1 hl)
theorem z_eqw {ws0 : va_W} (h : ws0 = ws) (k : zG p l e R s m args below meth c nL E A cells slots Q (ws) (pc) (L) (st)) : zG p l e R s m args below meth c nL E A cells slots Q (ws0) (pc) (L) (st) := by
  subst h
  exact k
theorem z_vreta (C : zC p s m args c meth cc nL own Ts E A) (hr : meth.sig.returnType = none) (hdg : decode cc pc = .ok (.return_, 1)) (qs : Nat → Nat) {wq : (Nat → Nat) → va_W} (hw : wq qs = ws) : zG p l e R s m args below meth c nL E A cells slots (MQ below (zQa E A none wq) args s cells slots A) (ws) (pc) (L) ([]) := by
  intro H locs ls hP hD hS hl
  have hlocks := C.2.2.2.2.2.2.2
  exact W.vret C.1 C.2.1 hr (fun t ht hW => ⟨⟨qs, rfl, by rw [ht, hw]; exact hP, by rw [hw]; exact hD⟩, hS.F ht⟩) hS.2.2 hdg
theorem z_ireta (C : zC p s m args c meth cc nL own Ts E A) {v : Int32} (hr : meth.sig.returnType = some .int) (hdg : decode cc pc = .ok (.ireturn, 1)) (qs : Nat → Nat) {wq : (Nat → Nat) → va_W} (hw : wq qs = ws) : zG p l e R s m args below meth c nL E A cells slots (MQ below (zQa E A (some (.int v)) wq) args s cells slots A) (ws) (pc) (L) ([.int v]) := by
  intro H locs ls hP hD hS hl
  have hlocks := C.2.2.2.2.2.2.2
  exact W.iret C.1 C.2.1 hr (fun t ht hW => ⟨⟨qs, rfl, by rw [ht, hw]; exact hP, by rw [hw]; exact hD⟩, hS.F ht⟩) hS.2.2 hdg
theorem zMa.of {y : MethodName} {maxL mc ms : Nat} {ret : Option FieldType} {wy wy' : List Cond} {rm : Room} {av : List Value} {r : Option Value} {wq : (Nat → Nat) → va_W} (hy : plainName y.cls = true) (hw : wy = .code y cc maxL ret :: wy') (hlen : (lg_sl av).length ≤ maxL)
    (body : ∀ (p : Program) (e : Env) (s : State) (m : MethodId) (args : Array Value) (below : List Frame) (meth : Method) (c : Code) (A : Nat → Prop), zC p s m args c meth cc maxL y.cls wy E A → zNw s → meth.sig.returnType = ret → meth.name = y.name →
      zG p l e rm s m args below meth c maxL E A 0 0 (MQ below (zQa E A r wq) args s mc ms A) ws 0 (lv_args 0 av) []) : zMa l y wy rm E mc ms av ws r wq := by
  intro sz
  refine Met.ofW (cc := cc) (maxL := maxL) (ret := ret) hy hw ?_
  intro p e s m args below meth c s₁ B hml hv
  obtain ⟨rfl, hsz, hP, hK, hD0, hN⟩ := hv
  have hts := atoms_spec (ws := wy) B.pre
  have hown : s.vm.findClass y.cls = some m.cls := findClass_of_methodNamed B.named
  have hnm := (name_of_methodNamed B.named B.method).1
  subst hsz
  have hl := lv_entry av (n := maxL) hlen
  rw [lg_entry_eq]
  exact body p e s m _ below meth c (va_A ws s.heap.size) ⟨B.exec, B.bytes, hml, hown, hts, hK, fun q h => Or.inr h, B.notSynchronized⟩ hN B.returns hnm s.heap [] _ hP hD0.self va_S.rf hl
abbrev zPa (E : zE) (av : List Value) (sz : Nat) (ws : va_W) : Array Value → State → Prop := va_Pc av (fun U => U.heap.size = sz ∧ va_P E.1 vwCl ws U.heap ∧ zK E U ∧ va_D (fun _ => True) ws ∧ zNw U)
theorem zPa.blind {av : List Value} {sz : Nat} : FrameBlind (zPa E av sz ws) := fun a U g mk q => ⟨q.1, q.2.1, q.2.2.1, va_K.moved (u := U) (U := U.calling g mk a) (Vm.Alike.refl U.vm) q.2.2.2.1, q.2.2.2.2.1, q.2.2.2.2.2⟩
theorem zPa.start {av : List Value} {H : Heap} (hN : zNw s) (hP : va_P E.1 vwCl ws H) (hK : zK E s) (hD : va_D A ws) : ∀ U : State, U.heap = H → s.WarmedH U.vm → zPa E av H.size ws av.toArray U := fun U hU hW => ⟨rfl, by rw [hU], by rw [hU]; exact hP, va_K.moved hW.alike hK, hD.weaken (fun _ _ _ _ => trivial), hN.warm hW⟩
theorem z_afterA (C : zC p s m args c meth cc nL own Ts E A) {wc wr : va_W} {wq ws2 : (Nat → Nat) → va_W} {mc ms : Nat} (isC isR : List Nat) {perm : List Nat} {r : Option Value} {a : Array Value} {rest st0 : List Value} (hC : isC.map (fun i => ws[i]?) = wc.map some) (hnC : va_nd isC = true) (hR : isR.map (fun i => ws[i]?) = wr.map some) (hnR : va_nd isR = true) (hdis : ∀ i ∈ isR, i ∉ isC) (hp : ∀ qs, perm.map (fun i => (wr ++ wq qs)[i]?) = (ws2 qs).map some) (hnp : va_nd perm = true)
    (hr : ∀ (H : Heap) (locs : List Loc) (ls : Array Slot), va_P E.1 vwCl wc H → va_D A wc → lv_has ls nL L → va_Run p l e R s m args below meth c H locs cells slots mc ms (F0 m pc ls st0) rest (zQa E (va_A wc H.size) r wq a) (va_A wc H.size))
    (k : ∀ qs, zG p l e R s m args below meth c nL E A (cells + mc) (slots + ms) Q (ws2 qs) (pc + 3) (L) (r.toList ++ rest)) : zG p l e R s m args below meth c nL E A cells slots Q (ws) (pc) (L) (st0) := by
  intro H locs ls hP hD hS hl T hT X
  have hA := C.2.2.2.2.2.2.1
  have hPc : va_P E.1 vwCl wc H := fun k q hk => by
    have h1 : (isC.map (fun i => ws[i]?))[k]? = some (some q) := by rw [hC, List.getElem?_map, hk]; rfl
    rw [List.getElem?_map] at h1
    cases hi : isC[k]? with
    | none => rw [hi] at h1; cases h1
    | some i => rw [hi] at h1; exact hP i q (Option.some.inj h1)
  have hF := va_free (wc := wc) hD hS hA isC hC
  have hDc : va_D A wc := hD.sub isC hnC hC
  obtain ⟨v, st₀, t, T', Lx, h0, X', hL, e1, e2, ⟨⟨qs, hv, hP1, hD1⟩, hz, hk⟩, stp⟩ := hr H locs ls hPc hDc hl T hT X
  cases hv
  rw [h0] at hz hk
  have hk' : ∀ q : Nat, q < H.size → ¬ va_A wc H.size q → T'.heap[q]? = H[q]? := fun q h1 h2 => by rw [e1]; exact hk q h1 h2
  obtain ⟨hP2, hD2⟩ := va_join hP hD isC isR hC hR hnR hdis hk' hF (by rw [e1]; exact hP1) hD1
  have hS2 : va_S A s.heap T'.heap (locs ++ Lx) := ⟨Nat.le_trans hS.1 (by rw [e1]; exact hz), fun q h1 h2 => by rw [hk' q (Nat.lt_of_lt_of_le h1 hS.1) (fun z => h2 (hF q z))]; exact hS.2.1 q h1 h2, fun q hq => by
      rcases List.mem_append.mp hq with h | h
      · exact hS.2.2 q h
      · exact hF _ (hL q h)⟩
  have hP3 : va_P E.1 vwCl (ws2 qs) T'.heap := fun k q hk => by
    have h1 : (perm.map (fun i => (wr ++ wq qs)[i]?))[k]? = some (some q) := by rw [hp, List.getElem?_map, hk]; rfl
    rw [List.getElem?_map] at h1
    cases hi : perm[k]? with
    | none => rw [hi] at h1; cases h1
    | some i => rw [hi] at h1; exact hP2 i q (Option.some.inj h1)
  obtain ⟨t2, a1, b1⟩ := k qs T'.heap (locs ++ Lx) ls hP3 (hD2.sub perm hnp (hp qs)) hS2 hl T' rfl X'
  exact ⟨t2, stp t2 a1, b1⟩
theorem z_callIN (C : zC p s m args c meth cc nL own Ts E A) (hN : zNw s) {y : MethodName} {bytes : ByteArray} {maxL index mc ms : Nat} {wy wy' : List Cond} {rm : Room} {b : Nat} {host : String} (isC isR perm : List Nat) {wc wr : va_W} {wq ws2 : (Nat → Nat) → va_W} (hC : isC.map (fun i => ws[i]?) = wc.map some) (hnC : va_nd isC = true) (hR : isR.map (fun i => ws[i]?) = wr.map some) (hnR : va_nd isR = true) (hdis : ∀ i ∈ isR, i ∉ isC) (hp : ∀ qs, perm.map (fun i => (wr ++ wq qs)[i]?) = (ws2 qs).map some) (hnp : va_nd perm = true) (hM : zMa l y wy rm E mc ms [.ref b] wc none wq) (hG : GoodIn Ts wy) (hw : wy = .code y bytes maxL none :: wy') (hrc : rm.cells = mc) (hrs : rm.slots = ms) (hl : va_Nw (.methodLinkNest own index y host) s) (w3 : Cond.initialized y.cls ∈ Ts) (w4 : Cond.instanceMethod y ∈ Ts) (hy : y.name = "<init>") (hd : y.cls ≠ "java/lang/invoke/MethodHandle" ∧ y.cls ≠ "java/lang/invoke/VarHandle" ∧ (parseMethodDescriptor y.desc).map (fun d => d.parameters.length) = some 0) (hR2 : rm.frames + 1 ≤ R.frames ∧ 8 + (maxL + 11) + rm.locals ≤ R.locals) (hroom : (st.map fun v => v.category).sum ≤ 8) (hdg : decode cc pc = .ok (.invokespecial index, 3)) (hf : cells + mc ≤ R.cells ∧ slots + ms ≤ R.slots)
    (k : ∀ qs, zG p l e R s m args below meth c nL E A (cells + mc) (slots + ms) Q (ws2 qs) (pc + 3) (L) (st)) : zG p l e R s m args below meth c nL E A cells slots Q (ws) (pc) (L) (.ref b :: st) := by
  refine z_afterA C (wc := wc) (wr := wr) (wq := wq) (ws2 := ws2) (mc := mc) (ms := ms) isC isR (perm := perm) (r := none) (a := (Value.ref b :: []).toArray) (rest := st) hC hnC hR hnR hdis hp hnp (fun H locs ls hP hD hl2 => ?_) k
  exact va_runIN (As := []) (rest := st) (n := 0) ⟨C.1, C.2.1, C.2.2.1, C.2.2.2.1, C.2.2.2.2.1⟩ (hM H.size) ⟨va_cnB 0 C.2.2.2.2.1 hG hw hrc hrs hl (C.2.2.2.2.1 _ w3) hd hR2, hy, C.2.2.2.2.1 _ w4⟩ ⟨zPa.blind, zPa.start hN hP C.2.2.2.2.2.1 hD⟩ rfl rfl hl2.1 rfl (lv_room hroom) hdg hf
theorem z_callI (C : zC p s m args c meth cc nL own Ts E A) (hN : zNw s) {y : MethodName} {bytes : ByteArray} {maxL index mc ms : Nat} {wy wy' : List Cond} {rm : Room} {b : Nat} (isC isR perm : List Nat) {wc wr : va_W} {wq ws2 : (Nat → Nat) → va_W} (hC : isC.map (fun i => ws[i]?) = wc.map some) (hnC : va_nd isC = true) (hR : isR.map (fun i => ws[i]?) = wr.map some) (hnR : va_nd isR = true) (hdis : ∀ i ∈ isR, i ∉ isC) (hp : ∀ qs, perm.map (fun i => (wr ++ wq qs)[i]?) = (ws2 qs).map some) (hnp : va_nd perm = true) (hM : zMa l y wy rm E mc ms [.ref b] wc none wq) (hG : GoodIn Ts wy) (hw : wy = .code y bytes maxL none :: wy') (hrc : rm.cells = mc) (hrs : rm.slots = ms) (w5 : Cond.methodLink own index y ∈ Ts) (w3 : Cond.initialized y.cls ∈ Ts) (w4 : Cond.instanceMethod y ∈ Ts) (hy : y.name = "<init>") (hd : y.cls ≠ "java/lang/invoke/MethodHandle" ∧ y.cls ≠ "java/lang/invoke/VarHandle" ∧ (parseMethodDescriptor y.desc).map (fun d => d.parameters.length) = some 0) (hR2 : rm.frames + 1 ≤ R.frames ∧ 8 + (maxL + 11) + rm.locals ≤ R.locals) (hroom : (st.map fun v => v.category).sum ≤ 8) (hdg : decode cc pc = .ok (.invokespecial index, 3)) (hf : cells + mc ≤ R.cells ∧ slots + ms ≤ R.slots)
    (k : ∀ qs, zG p l e R s m args below meth c nL E A (cells + mc) (slots + ms) Q (ws2 qs) (pc + 3) (L) (st)) : zG p l e R s m args below meth c nL E A cells slots Q (ws) (pc) (L) (.ref b :: st) := by
  refine z_afterA C (wc := wc) (wr := wr) (wq := wq) (ws2 := ws2) (mc := mc) (ms := ms) isC isR (perm := perm) (r := none) (a := (Value.ref b :: []).toArray) (rest := st) hC hnC hR hnR hdis hp hnp (fun H locs ls hP hD hl2 => ?_) k
  exact va_runI (As := []) (rest := st) (n := 0) ⟨C.1, C.2.1, C.2.2.1, C.2.2.2.1, C.2.2.2.2.1⟩ (hM H.size) (cwI 0 C.2.2.2.2.1 hG hw hrc hrs (C.2.2.2.2.1 _ w3) (C.2.2.2.2.1 _ w5) (C.2.2.2.2.1 _ w4) hy hd hR2) ⟨zPa.blind, zPa.start hN hP C.2.2.2.2.2.1 hD⟩ rfl rfl hl2.1 rfl (lv_room hroom) hdg hf
theorem z_aaloadN (C : zC p s m args c meth cc nL own Ts E A) {a n : Nat} {f : Nat → Option Nat} (q0 : Nat) (ha : ws[q0]? = some (a, zO E n f)) {i : Int32} (hin : ix i n = true) (hv : f i.toNatClampNeg = none) (hdg : decode cc pc = .ok (.aaload, 1)) (k : zG p l e R s m args below meth c nL E A cells slots Q (ws) (pc + 1) (L) (.null :: st)) : zG p l e R s m args below meth c nL E A cells slots Q (ws) (pc) (L) (.int i :: .ref a :: st) := by
  intro H locs ls hP hD hS hl
  exact va_aldq C.1 C.2.1 C.2.2.2.2.2.1 hP q0 3 ha rfl (ix_in hin) hdg (by rw [hv]; exact k H locs ls hP hD hS hl)
theorem z_aaloadS (C : zC p s m args c meth cc nL own Ts E A) {a n b : Nat} {f : Nat → Option Nat} (q0 : Nat) (ha : ws[q0]? = some (a, zO E n f)) {i : Int32} (hin : ix i n = true) (hv : f i.toNatClampNeg = some b) (hdg : decode cc pc = .ok (.aaload, 1)) (k : zG p l e R s m args below meth c nL E A cells slots Q (ws) (pc + 1) (L) (.ref b :: st)) : zG p l e R s m args below meth c nL E A cells slots Q (ws) (pc) (L) (.int i :: .ref a :: st) := by
  intro H locs ls hP hD hS hl
  exact va_aldq C.1 C.2.1 C.2.2.2.2.2.1 hP q0 3 ha rfl (ix_in hin) hdg (by rw [hv]; exact k H locs ls hP hD hS hl)
theorem z_aastore (C : zC p s m args c meth cc nL own Ts E A) {a n v : Nat} {vs : List Value} {f : Nat → Option Nat} (q0 qk : Nat) (ha : ws[q0]? = some (a, zO E n f)) (hv : ws[qk]? = some (v, .inr (0, vs))) {i : Int32} (hin : ix i n = true) {ws' : va_W} (hw : ws.set q0 (a, zO E n (va_up f i.toNatClampNeg (some v))) = ws') (hdg : decode cc pc = .ok (.aastore, 1)) (k : zG p l e R s m args below meth c nL E A cells slots Q (ws') (pc + 1) (L) (st)) : zG p l e R s m args below meth c nL E A cells slots Q (ws) (pc) (L) (.ref v :: .int i :: .ref a :: st) := by
  intro H locs ls hP hD hS hl
  subst hw
  exact va_astq C.1 C.2.1 C.2.2.2.2.2.1 hP hD hS q0 3 qk 0 (r := (RX1, TX1, 18)) ha rfl hv rfl (ix_in hin) hdg (fun H1 l1 a1 a2 a3 => k H1 l1 ls a1 a2 a3 hl)
end ZLA

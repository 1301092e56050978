/-- the class tables of this claim: numbers of classes, slots, and the classes of the arrays of int, byte, boolean, Pipe -/
abbrev zE : Type := va_G × (ClassId × ClassId × ClassId × ClassId)
abbrev zT (E : zE) : List (ClassId × FieldType) := [(E.2.1, .int), (E.2.2.1, .byte), (E.2.2.2.1, .boolean), (E.2.2.2.2, .object "WishMeter$Pipe")]
/-- words of nest mates -/
def zNw (U : State) : Prop := va_Nw (.methodLinkNest "WishMeter" 11 yX1_init "WishMeter") U ∧ va_Nw (.methodLinkNest "WishMeter" 22 yX3_init "WishMeter") U ∧ va_Nw (.methodLinkNest "WishMeter" 29 yX2_init "WishMeter") U ∧ va_Nw (.methodLinkNest "WishMeter$Reader" 11 yX1_init "WishMeter") U ∧ va_AO "WishMeter$Pipe" U
def zK (E : zE) (U : State) : Prop := va_K E.1 vwCl (zT E) U
abbrev zI (E : zE) (n : Nat) (f : Nat → Int32) : va_E := .inl (E.2.1, n, .inl f)
abbrev zB (E : zE) (n : Nat) (f : Nat → Int32) : va_E := .inl (E.2.2.1, n, .inl f)
abbrev zZ (E : zE) (n : Nat) (f : Nat → Int32) : va_E := .inl (E.2.2.2.1, n, .inl f)
abbrev zO (E : zE) (n : Nat) (f : Nat → Option Nat) : va_E := .inl (E.2.2.2.2, n, .inr (.inr (.inr (.inr f))))
def zC (p : Program) (s : State) (m : MethodId) (args : Array Value) (c : Code) (meth : Method) (cc : ByteArray) (nL : Nat) (own : String) (Ts : List Cond) (E : zE) (A : Nat → Prop) : Prop :=
  p.tables.exec = Jvm.exec ∧ c.code = cc ∧ c.maxLocals = nL ∧ s.vm.findClass own = some m.cls ∧ (∀ w ∈ Ts, w.before args s = true) ∧ zK E s ∧ (∀ q, s.heap.size ≤ q → A q) ∧ meth.locks = false
def zG (p : Program) (l : Launch) (e : Env) (R : Room) (s : State) (m : MethodId) (args : Array Value) (below : List Frame) (meth : Method) (c : Code) (nL : Nat) (E : zE) (A : Nat → Prop) (cells slots : Nat) (Q : State → Prop) (ws : va_W) (pc : Nat) (L : List (Nat × Value)) (st : List Value) : Prop :=
  ∀ (H : Heap) (locs : List Loc) (ls : Array Slot), va_P E.1 vwCl ws H → va_D A ws → va_S A s.heap H locs → lv_has ls nL L → W p l e R s m args below meth c H locs cells slots Q (F0 m pc ls st)
/-- a method's end: it answers r, the world is ws', else nothing changed -/
def zQ (E : zE) (A : Nat → Prop) (r : Option Value) (ws' : va_W) : Array Value → State → Outcome → State → Prop := fun _ st oc t => (oc = .returned r ∧ va_P E.1 vwCl ws' t.heap ∧ va_D A ws') ∧ va_F A st t
/-- the same, where cells were made: at addresses qs -/
def zQa (E : zE) (A : Nat → Prop) (r : Option Value) (ws' : (Nat → Nat) → va_W) : Array Value → State → Outcome → State → Prop := fun _ st oc t => (∃ qs : Nat → Nat, oc = .returned r ∧ va_P E.1 vwCl (ws' qs) t.heap ∧ va_D A (ws' qs)) ∧ va_F A st t
def zP (E : zE) (av : List Value) (sz : Nat) (ws : va_W) : Array Value → State → Prop := va_Pc av (fun U => U.heap.size = sz ∧ va_P E.1 vwCl ws U.heap ∧ zK E U ∧ va_D (fun _ => True) ws)
/-- a method's contract: from world ws, with arguments av, it answers r and leaves world ws' -/
def zM (l : Launch) (y : MethodName) (wy : List Cond) (rm : Room) (E : zE) (av : List Value) (ws : va_W) (r : Option Value) (ws' : va_W) : Prop := ∀ sz, Met l y wy rm (zP E av sz ws) (zQ E (va_A ws sz) r ws') 0 0 (va_A ws sz)
def zMa (l : Launch) (y : MethodName) (wy : List Cond) (rm : Room) (E : zE) (mc ms : Nat) (av : List Value) (ws : va_W) (r : Option Value) (ws' : (Nat → Nat) → va_W) : Prop := ∀ sz, Met l y wy rm (va_Pc av (fun U => U.heap.size = sz ∧ va_P E.1 vwCl ws U.heap ∧ zK E U ∧ va_D (fun _ => True) ws ∧ zNw U)) (zQa E (va_A ws sz) r ws') mc ms (va_A ws sz)
def ix (i : Int32) (n : Nat) : Bool := decide (¬ (i < 0 ∨ n ≤ i.toNatClampNeg))
theorem ix_in {i : Int32} {n : Nat} (h : ix i n = true) : vp_in i n := of_decide_eq_true (p := ¬ (i < 0 ∨ n ≤ i.toNatClampNeg)) h
/-- a check that a run must pass -/
def chk {α : Type} (b : Bool) (x : Option α) : Option α := if b = true then x else none
theorem chk_some {α : Type} {b : Bool} {x : Option α} {o : α} (h : chk b x = some o) : b = true ∧ x = some o := by
  unfold chk at h
  split at h
  · exact ⟨by assumption, h⟩
  · cases h
theorem bnd_some {α β : Type} {x : Option α} {f : α → Option β} {o : β} (h : x.bind f = some o) : ∃ a, x = some a ∧ f a = some o := by
  cases x with
  | none => cases h
  | some a => exact ⟨a, rfl, h⟩
def bo (v : Int32) : Bool := decide (v = 0 ∨ v = 1)
theorem bo_n {v : Int32} (h : bo v = true) : narrow .boolean (.int v) = .int v := by
  rcases of_decide_eq_true h with h | h <;> subst h <;> rfl
def cpo (sp dp n : Int32) (n0 n1 : Nat) : Bool := decide (¬ sp < 0 ∧ ¬ dp < 0 ∧ ¬ n < 0 ∧ sp.toNatClampNeg + n.toNatClampNeg ≤ n0 ∧ dp.toNatClampNeg + n.toNatClampNeg ≤ n1)
section ZL
variable {p : Program} {l : Launch} {e : Env} {R : Room} {s : State} {m : MethodId} {args : Array Value} {below : List Frame} {meth : Method} {c : Code} {nL : Nat} {E : zE} {A : Nat → Prop} {cells slots : Nat} {Q : State → Prop} {cc : ByteArray} {own : String} {Ts : List Cond} {ws : va_W} {pc : Nat} {L : List (Nat × Value)} {st : List Value}
theorem z_iconst (C : zC p s m args c meth cc nL own Ts E A) {n : Int} {v : Int32} (hdg : decode cc pc = .ok (.iconst n, 1)) (hv : Int32.ofInt n = v) (k : zG p l e R s m args below meth c nL E A cells slots Q (ws) (pc + 1) (L) (.int v :: st)) : zG p l e R s m args below meth c nL E A cells slots Q (ws) (pc) (L) (st) := by
  intro H locs ls hP hD hS hl
  exact lv_iconst C.1 C.2.1 hdg hv (k H locs ls hP hD hS hl)
theorem z_bipush (C : zC p s m args c meth cc nL own Ts E A) {n : Int} {v : Int32} (hdg : decode cc pc = .ok (.bipush n, 2)) (hv : (Int8.ofInt n).toInt32 = v) (k : zG p l e R s m args below meth c nL E A cells slots Q (ws) (pc + 2) (L) (.int v :: st)) : zG p l e R s m args below meth c nL E A cells slots Q (ws) (pc) (L) (st) := by
  intro H locs ls hP hD hS hl
  exact lv_bipush C.1 C.2.1 hdg hv (k H locs ls hP hD hS hl)
theorem z_sipush (C : zC p s m args c meth cc nL own Ts E A) {n : Int} {v : Int32} (hdg : decode cc pc = .ok (.sipush n, 3)) (hv : (Int16.ofInt n).toInt32 = v) (k : zG p l e R s m args below meth c nL E A cells slots Q (ws) (pc + 3) (L) (.int v :: st)) : zG p l e R s m args below meth c nL E A cells slots Q (ws) (pc) (L) (st) := by
  intro H locs ls hP hD hS hl
  exact lv_sipush C.1 C.2.1 hdg hv (k H locs ls hP hD hS hl)
theorem z_lconst (C : zC p s m args c meth cc nL own Ts E A) {n : Fin 2} {v : Int64} (hdg : decode cc pc = .ok (.lconst n, 1)) (hv : Int64.ofNat (n : Nat) = v) (k : zG p l e R s m args below meth c nL E A cells slots Q (ws) (pc + 1) (L) (.long v :: st)) : zG p l e R s m args below meth c nL E A cells slots Q (ws) (pc) (L) (st) := by
  intro H locs ls hP hD hS hl
  exact lv_lconst C.1 C.2.1 hdg hv (k H locs ls hP hD hS hl)
theorem z_ldc (C : zC p s m args c meth cc nL own Ts E A) {index : Nat} {v : Int32} (hdg : decode cc pc = .ok (.ldc index, 2)) (hw : Cond.constant own index v ∈ Ts) (k : zG p l e R s m args below meth c nL E A cells slots Q (ws) (pc + 2) (L) (.int v :: st)) : zG p l e R s m args below meth c nL E A cells slots Q (ws) (pc) (L) (st) := by
  intro H locs ls hP hD hS hl
  exact lv_ldc C.1 C.2.1 C.2.2.2.1 (C.2.2.2.2.1 _ hw) hdg (k H locs ls hP hD hS hl)
theorem z_ldc2 (C : zC p s m args c meth cc nL own Ts E A) {index : Nat} {v : Int64} (hdg : decode cc pc = .ok (.ldc2_w index, 3)) (hw : Cond.constantLong own index v ∈ Ts) (k : zG p l e R s m args below meth c nL E A cells slots Q (ws) (pc + 3) (L) (.long v :: st)) : zG p l e R s m args below meth c nL E A cells slots Q (ws) (pc) (L) (st) := by
  intro H locs ls hP hD hS hl
  exact lv_ldc2 C.1 C.2.1 C.2.2.2.1 (C.2.2.2.2.1 _ hw) hdg (k H locs ls hP hD hS hl)
theorem z_null (C : zC p s m args c meth cc nL own Ts E A) (hdg : decode cc pc = .ok (.aconst_null, 1)) (k : zG p l e R s m args below meth c nL E A cells slots Q (ws) (pc + 1) (L) (.null :: st)) : zG p l e R s m args below meth c nL E A cells slots Q (ws) (pc) (L) (st) := by
  intro H locs ls hP hD hS hl
  exact lv_null C.1 C.2.1 hdg (k H locs ls hP hD hS hl)
theorem z_iload_n (C : zC p s m args c meth cc nL own Ts E A) {j : Fin 4} {i : Nat} {x : Int32} (hdg : decode cc pc = .ok (.iload_n j, 1)) (hi : (j : Nat) = i) (k0 : Nat) (hk : L[k0]? = some (i, .int x)) (k : zG p l e R s m args below meth c nL E A cells slots Q (ws) (pc + 1) (L) (.int x :: st)) : zG p l e R s m args below meth c nL E A cells slots Q (ws) (pc) (L) (st) := by
  intro H locs ls hP hD hS hl
  exact lv_iload_n C.1 C.2.1 hdg hi (lv_at hl k0 hk) (k H locs ls hP hD hS hl)
theorem z_iload (C : zC p s m args c meth cc nL own Ts E A) {i : Nat} {x : Int32} (hdg : decode cc pc = .ok (.iload i, 2)) (k0 : Nat) (hk : L[k0]? = some (i, .int x)) (k : zG p l e R s m args below meth c nL E A cells slots Q (ws) (pc + 2) (L) (.int x :: st)) : zG p l e R s m args below meth c nL E A cells slots Q (ws) (pc) (L) (st) := by
  intro H locs ls hP hD hS hl
  exact lv_iload C.1 C.2.1 hdg (lv_at hl k0 hk) (k H locs ls hP hD hS hl)
theorem z_lload_n (C : zC p s m args c meth cc nL own Ts E A) {j : Fin 4} {i : Nat} {x : Int64} (hdg : decode cc pc = .ok (.lload_n j, 1)) (hi : (j : Nat) = i) (k0 : Nat) (hk : L[k0]? = some (i, .long x)) (k : zG p l e R s m args below meth c nL E A cells slots Q (ws) (pc + 1) (L) (.long x :: st)) : zG p l e R s m args below meth c nL E A cells slots Q (ws) (pc) (L) (st) := by
  intro H locs ls hP hD hS hl
  exact lv_lload_n C.1 C.2.1 hdg hi (lv_at hl k0 hk) (k H locs ls hP hD hS hl)
theorem z_lload (C : zC p s m args c meth cc nL own Ts E A) {i : Nat} {x : Int64} (hdg : decode cc pc = .ok (.lload i, 2)) (k0 : Nat) (hk : L[k0]? = some (i, .long x)) (k : zG p l e R s m args below meth c nL E A cells slots Q (ws) (pc + 2) (L) (.long x :: st)) : zG p l e R s m args below meth c nL E A cells slots Q (ws) (pc) (L) (st) := by
  intro H locs ls hP hD hS hl
  exact lv_lload C.1 C.2.1 hdg (lv_at hl k0 hk) (k H locs ls hP hD hS hl)
theorem z_aload_n (C : zC p s m args c meth cc nL own Ts E A) {j : Fin 4} {i : Nat} {x : Nat} (hdg : decode cc pc = .ok (.aload_n j, 1)) (hi : (j : Nat) = i) (k0 : Nat) (hk : L[k0]? = some (i, .ref x)) (k : zG p l e R s m args below meth c nL E A cells slots Q (ws) (pc + 1) (L) (.ref x :: st)) : zG p l e R s m args below meth c nL E A cells slots Q (ws) (pc) (L) (st) := by
  intro H locs ls hP hD hS hl
  exact lv_aload_n C.1 C.2.1 hdg hi (lv_at hl k0 hk) (k H locs ls hP hD hS hl)
theorem z_aload (C : zC p s m args c meth cc nL own Ts E A) {i : Nat} {x : Nat} (hdg : decode cc pc = .ok (.aload i, 2)) (k0 : Nat) (hk : L[k0]? = some (i, .ref x)) (k : zG p l e R s m args below meth c nL E A cells slots Q (ws) (pc + 2) (L) (.ref x :: st)) : zG p l e R s m args below meth c nL E A cells slots Q (ws) (pc) (L) (st) := by
  intro H locs ls hP hD hS hl
  exact lv_aload C.1 C.2.1 hdg (lv_at hl k0 hk) (k H locs ls hP hD hS hl)
theorem z_istore_n (C : zC p s m args c meth cc nL own Ts E A) {j : Fin 4} {i : Nat} {x : Int32} {L' : List (Nat × Value)} (hdg : decode cc pc = .ok (.istore_n j, 1)) (hi : (j : Nat) = i) (hn : i < nL) (hL : (i, Value.int x) :: L.filter (fun q => !(q.1 == i) && !(q.1 + 1 == i && q.2.category == 2)) = L') (k : zG p l e R s m args below meth c nL E A cells slots Q (ws) (pc + 1) (L') (st)) : zG p l e R s m args below meth c nL E A cells slots Q (ws) (pc) (L) (.int x :: st) := by
  intro H locs ls hP hD hS hl
  exact lv_istore_n C.1 C.2.1 hdg hi hl hn hL (fun ls1 h1 => k H locs ls1 hP hD hS h1)
theorem z_istore (C : zC p s m args c meth cc nL own Ts E A) {i : Nat} {x : Int32} {L' : List (Nat × Value)} (hdg : decode cc pc = .ok (.istore i, 2)) (hn : i < nL) (hL : (i, Value.int x) :: L.filter (fun q => !(q.1 == i) && !(q.1 + 1 == i && q.2.category == 2)) = L') (k : zG p l e R s m args below meth c nL E A cells slots Q (ws) (pc + 2) (L') (st)) : zG p l e R s m args below meth c nL E A cells slots Q (ws) (pc) (L) (.int x :: st) := by
  intro H locs ls hP hD hS hl
  exact lv_istore C.1 C.2.1 hdg hl hn hL (fun ls1 h1 => k H locs ls1 hP hD hS h1)
theorem z_astore_n (C : zC p s m args c meth cc nL own Ts E A) {j : Fin 4} {i : Nat} {x : Nat} {L' : List (Nat × Value)} (hdg : decode cc pc = .ok (.astore_n j, 1)) (hi : (j : Nat) = i) (hn : i < nL) (hL : (i, Value.ref x) :: L.filter (fun q => !(q.1 == i) && !(q.1 + 1 == i && q.2.category == 2)) = L') (k : zG p l e R s m args below meth c nL E A cells slots Q (ws) (pc + 1) (L') (st)) : zG p l e R s m args below meth c nL E A cells slots Q (ws) (pc) (L) (.ref x :: st) := by
  intro H locs ls hP hD hS hl
  exact lv_astore_n C.1 C.2.1 hdg hi hl hn hL (fun ls1 h1 => k H locs ls1 hP hD hS h1)
theorem z_astore (C : zC p s m args c meth cc nL own Ts E A) {i : Nat} {x : Nat} {L' : List (Nat × Value)} (hdg : decode cc pc = .ok (.astore i, 2)) (hn : i < nL) (hL : (i, Value.ref x) :: L.filter (fun q => !(q.1 == i) && !(q.1 + 1 == i && q.2.category == 2)) = L') (k : zG p l e R s m args below meth c nL E A cells slots Q (ws) (pc + 2) (L') (st)) : zG p l e R s m args below meth c nL E A cells slots Q (ws) (pc) (L) (.ref x :: st) := by
  intro H locs ls hP hD hS hl
  exact lv_astore C.1 C.2.1 hdg hl hn hL (fun ls1 h1 => k H locs ls1 hP hD hS h1)
theorem z_lstore_n (C : zC p s m args c meth cc nL own Ts E A) {j : Fin 4} {i : Nat} {x : Int64} {L' : List (Nat × Value)} (hdg : decode cc pc = .ok (.lstore_n j, 1)) (hi : (j : Nat) = i) (hn : i + 1 < nL) (hL : (i, Value.long x) :: L.filter (fun q => !(q.1 == i) && (!(q.1 == i + 1) && !(q.1 + 1 == i && q.2.category == 2))) = L') (k : zG p l e R s m args below meth c nL E A cells slots Q (ws) (pc + 1) (L') (st)) : zG p l e R s m args below meth c nL E A cells slots Q (ws) (pc) (L) (.long x :: st) := by
  intro H locs ls hP hD hS hl
  exact lv_lstore_n C.1 C.2.1 hdg hi hl hn hL (fun ls1 h1 => k H locs ls1 hP hD hS h1)
theorem z_lstore (C : zC p s m args c meth cc nL own Ts E A) {i : Nat} {x : Int64} {L' : List (Nat × Value)} (hdg : decode cc pc = .ok (.lstore i, 2)) (hn : i + 1 < nL) (hL : (i, Value.long x) :: L.filter (fun q => !(q.1 == i) && (!(q.1 == i + 1) && !(q.1 + 1 == i && q.2.category == 2))) = L') (k : zG p l e R s m args below meth c nL E A cells slots Q (ws) (pc + 2) (L') (st)) : zG p l e R s m args below meth c nL E A cells slots Q (ws) (pc) (L) (.long x :: st) := by
  intro H locs ls hP hD hS hl
  exact lv_lstore C.1 C.2.1 hdg hl hn hL (fun ls1 h1 => k H locs ls1 hP hD hS h1)
theorem z_iinc (C : zC p s m args c meth cc nL own Ts E A) {i : Nat} {n : Int} {x v : Int32} {L' : List (Nat × Value)} (hdg : decode cc pc = .ok (.iinc i n, 3)) (k0 : Nat) (hk : L[k0]? = some (i, .int x)) (hv : x + Int32.ofInt n = v) (hn : i < nL) (hL : (i, Value.int v) :: L.filter (fun q => !(q.1 == i) && !(q.1 + 1 == i && q.2.category == 2)) = L') (k : zG p l e R s m args below meth c nL E A cells slots Q (ws) (pc + 3) (L') (st)) : zG p l e R s m args below meth c nL E A cells slots Q (ws) (pc) (L) (st) := by
  intro H locs ls hP hD hS hl
  exact lv_iinc C.1 C.2.1 hdg hl hk hv hn hL (fun ls1 h1 => k H locs ls1 hP hD hS h1)
theorem z_sub (ks : List Nat) {L' : List (Nat × Value)} (hL : lv_pick L ks = L') (k : zG p l e R s m args below meth c nL E A cells slots Q (ws) (pc) (L') (st)) : zG p l e R s m args below meth c nL E A cells slots Q (ws) (pc) (L) (st) := fun H locs ls hP hD hS hl => k H locs ls hP hD hS (lv_sub hl ks hL)
theorem z_topi {x : Int32} (k : ∀ y : Int32, y = x → zG p l e R s m args below meth c nL E A cells slots Q (ws) (pc) (L) (.int y :: st)) : zG p l e R s m args below meth c nL E A cells slots Q (ws) (pc) (L) (.int x :: st) := k x rfl
theorem z_iadd (C : zC p s m args c meth cc nL own Ts E A) {x y : Int32} (hdg : decode cc pc = .ok (.iadd, 1)) (k : zG p l e R s m args below meth c nL E A cells slots Q (ws) (pc + 1) (L) (.int (x + y) :: st)) : zG p l e R s m args below meth c nL E A cells slots Q (ws) (pc) (L) (.int y :: .int x :: st) := by
  intro H locs ls hP hD hS hl
  exact lv_iadd C.1 C.2.1 hdg (k H locs ls hP hD hS hl)
theorem z_isub (C : zC p s m args c meth cc nL own Ts E A) {x y : Int32} (hdg : decode cc pc = .ok (.isub, 1)) (k : zG p l e R s m args below meth c nL E A cells slots Q (ws) (pc + 1) (L) (.int (x - y) :: st)) : zG p l e R s m args below meth c nL E A cells slots Q (ws) (pc) (L) (.int y :: .int x :: st) := by
  intro H locs ls hP hD hS hl
  exact lv_isub C.1 C.2.1 hdg (k H locs ls hP hD hS hl)
theorem z_imul (C : zC p s m args c meth cc nL own Ts E A) {x y : Int32} (hdg : decode cc pc = .ok (.imul, 1)) (k : zG p l e R s m args below meth c nL E A cells slots Q (ws) (pc + 1) (L) (.int (x * y) :: st)) : zG p l e R s m args below meth c nL E A cells slots Q (ws) (pc) (L) (.int y :: .int x :: st) := by
  intro H locs ls hP hD hS hl
  exact lv_imul C.1 C.2.1 hdg (k H locs ls hP hD hS hl)
theorem z_iand (C : zC p s m args c meth cc nL own Ts E A) {x y : Int32} (hdg : decode cc pc = .ok (.iand, 1)) (k : zG p l e R s m args below meth c nL E A cells slots Q (ws) (pc + 1) (L) (.int (x &&& y) :: st)) : zG p l e R s m args below meth c nL E A cells slots Q (ws) (pc) (L) (.int y :: .int x :: st) := by
  intro H locs ls hP hD hS hl
  exact lv_iand C.1 C.2.1 hdg (k H locs ls hP hD hS hl)
theorem z_ior (C : zC p s m args c meth cc nL own Ts E A) {x y : Int32} (hdg : decode cc pc = .ok (.ior, 1)) (k : zG p l e R s m args below meth c nL E A cells slots Q (ws) (pc + 1) (L) (.int (x ||| y) :: st)) : zG p l e R s m args below meth c nL E A cells slots Q (ws) (pc) (L) (.int y :: .int x :: st) := by
  intro H locs ls hP hD hS hl
  exact lv_ior C.1 C.2.1 hdg (k H locs ls hP hD hS hl)
theorem z_ixor (C : zC p s m args c meth cc nL own Ts E A) {x y : Int32} (hdg : decode cc pc = .ok (.ixor, 1)) (k : zG p l e R s m args below meth c nL E A cells slots Q (ws) (pc + 1) (L) (.int (x ^^^ y) :: st)) : zG p l e R s m args below meth c nL E A cells slots Q (ws) (pc) (L) (.int y :: .int x :: st) := by
  intro H locs ls hP hD hS hl
  exact lv_ixor C.1 C.2.1 hdg (k H locs ls hP hD hS hl)
theorem z_ishl (C : zC p s m args c meth cc nL own Ts E A) {x y : Int32} (hdg : decode cc pc = .ok (.ishl, 1)) (k : zG p l e R s m args below meth c nL E A cells slots Q (ws) (pc + 1) (L) (.int (x <<< (y &&& 31)) :: st)) : zG p l e R s m args below meth c nL E A cells slots Q (ws) (pc) (L) (.int y :: .int x :: st) := by
  intro H locs ls hP hD hS hl
  exact lv_ishl C.1 C.2.1 hdg (k H locs ls hP hD hS hl)
theorem z_ishr (C : zC p s m args c meth cc nL own Ts E A) {x y : Int32} (hdg : decode cc pc = .ok (.ishr, 1)) (k : zG p l e R s m args below meth c nL E A cells slots Q (ws) (pc + 1) (L) (.int (x >>> (y &&& 31)) :: st)) : zG p l e R s m args below meth c nL E A cells slots Q (ws) (pc) (L) (.int y :: .int x :: st) := by
  intro H locs ls hP hD hS hl
  exact lv_ishr C.1 C.2.1 hdg (k H locs ls hP hD hS hl)
theorem z_idiv (C : zC p s m args c meth cc nL own Ts E A) {x y : Int32} (hdg : decode cc pc = .ok (.idiv, 1)) (hne : ¬ y = 0) (k : zG p l e R s m args below meth c nL E A cells slots Q (ws) (pc + 1) (L) (.int (x / y) :: st)) : zG p l e R s m args below meth c nL E A cells slots Q (ws) (pc) (L) (.int y :: .int x :: st) := by
  intro H locs ls hP hD hS hl
  exact lv_idiv C.1 C.2.1 hdg hne (k H locs ls hP hD hS hl)
theorem z_irem (C : zC p s m args c meth cc nL own Ts E A) {x y : Int32} (hdg : decode cc pc = .ok (.irem, 1)) (hne : ¬ y = 0) (k : zG p l e R s m args below meth c nL E A cells slots Q (ws) (pc + 1) (L) (.int (x - x / y * y) :: st)) : zG p l e R s m args below meth c nL E A cells slots Q (ws) (pc) (L) (.int y :: .int x :: st) := by
  intro H locs ls hP hD hS hl
  exact lv_irem C.1 C.2.1 hdg hne (k H locs ls hP hD hS hl)
theorem z_ladd (C : zC p s m args c meth cc nL own Ts E A) {x y : Int64} (hdg : decode cc pc = .ok (.ladd, 1)) (k : zG p l e R s m args below meth c nL E A cells slots Q (ws) (pc + 1) (L) (.long (x + y) :: st)) : zG p l e R s m args below meth c nL E A cells slots Q (ws) (pc) (L) (.long y :: .long x :: st) := by
  intro H locs ls hP hD hS hl
  exact lv_ladd C.1 C.2.1 hdg (k H locs ls hP hD hS hl)
theorem z_lsub (C : zC p s m args c meth cc nL own Ts E A) {x y : Int64} (hdg : decode cc pc = .ok (.lsub, 1)) (k : zG p l e R s m args below meth c nL E A cells slots Q (ws) (pc + 1) (L) (.long (x - y) :: st)) : zG p l e R s m args below meth c nL E A cells slots Q (ws) (pc) (L) (.long y :: .long x :: st) := by
  intro H locs ls hP hD hS hl
  exact lv_lsub C.1 C.2.1 hdg (k H locs ls hP hD hS hl)
theorem z_lmul (C : zC p s m args c meth cc nL own Ts E A) {x y : Int64} (hdg : decode cc pc = .ok (.lmul, 1)) (k : zG p l e R s m args below meth c nL E A cells slots Q (ws) (pc + 1) (L) (.long (x * y) :: st)) : zG p l e R s m args below meth c nL E A cells slots Q (ws) (pc) (L) (.long y :: .long x :: st) := by
  intro H locs ls hP hD hS hl
  exact lv_lmul C.1 C.2.1 hdg (k H locs ls hP hD hS hl)
theorem z_ldiv (C : zC p s m args c meth cc nL own Ts E A) {x y : Int64} (hdg : decode cc pc = .ok (.ldiv, 1)) (hne : ¬ y = 0) (k : zG p l e R s m args below meth c nL E A cells slots Q (ws) (pc + 1) (L) (.long (x / y) :: st)) : zG p l e R s m args below meth c nL E A cells slots Q (ws) (pc) (L) (.long y :: .long x :: st) := by
  intro H locs ls hP hD hS hl
  exact lv_ldiv C.1 C.2.1 hdg hne (k H locs ls hP hD hS hl)
theorem z_lrem (C : zC p s m args c meth cc nL own Ts E A) {x y : Int64} (hdg : decode cc pc = .ok (.lrem, 1)) (hne : ¬ y = 0) (k : zG p l e R s m args below meth c nL E A cells slots Q (ws) (pc + 1) (L) (.long (x - x / y * y) :: st)) : zG p l e R s m args below meth c nL E A cells slots Q (ws) (pc) (L) (.long y :: .long x :: st) := by
  intro H locs ls hP hD hS hl
  exact lv_lrem C.1 C.2.1 hdg hne (k H locs ls hP hD hS hl)
theorem z_ineg (C : zC p s m args c meth cc nL own Ts E A) {x : Int32} (hdg : decode cc pc = .ok (.ineg, 1)) (k : zG p l e R s m args below meth c nL E A cells slots Q (ws) (pc + 1) (L) (.int (-x) :: st)) : zG p l e R s m args below meth c nL E A cells slots Q (ws) (pc) (L) (.int x :: st) := by
  intro H locs ls hP hD hS hl
  exact lv_ineg C.1 C.2.1 hdg (k H locs ls hP hD hS hl)
theorem z_i2l (C : zC p s m args c meth cc nL own Ts E A) {x : Int32} (hdg : decode cc pc = .ok (.i2l, 1)) (k : zG p l e R s m args below meth c nL E A cells slots Q (ws) (pc + 1) (L) (.long x.toInt64 :: st)) : zG p l e R s m args below meth c nL E A cells slots Q (ws) (pc) (L) (.int x :: st) := by
  intro H locs ls hP hD hS hl
  exact lv_i2l C.1 C.2.1 hdg rfl (k H locs ls hP hD hS hl)
theorem z_l2i (C : zC p s m args c meth cc nL own Ts E A) {x : Int64} (hdg : decode cc pc = .ok (.l2i, 1)) (k : zG p l e R s m args below meth c nL E A cells slots Q (ws) (pc + 1) (L) (.int x.toInt32 :: st)) : zG p l e R s m args below meth c nL E A cells slots Q (ws) (pc) (L) (.long x :: st) := by
  intro H locs ls hP hD hS hl
  exact lv_l2i C.1 C.2.1 hdg rfl (k H locs ls hP hD hS hl)
theorem z_i2b (C : zC p s m args c meth cc nL own Ts E A) {x : Int32} (hdg : decode cc pc = .ok (.i2b, 1)) (k : zG p l e R s m args below meth c nL E A cells slots Q (ws) (pc + 1) (L) (.int x.toInt8.toInt32 :: st)) : zG p l e R s m args below meth c nL E A cells slots Q (ws) (pc) (L) (.int x :: st) := by
  intro H locs ls hP hD hS hl
  exact lv_i2b C.1 C.2.1 hdg rfl (k H locs ls hP hD hS hl)
theorem z_lcmp (C : zC p s m args c meth cc nL own Ts E A) {x y : Int64} (hdg : decode cc pc = .ok (.lcmp, 1)) (k : zG p l e R s m args below meth c nL E A cells slots Q (ws) (pc + 1) (L) (.int (lg_cmp x y) :: st)) : zG p l e R s m args below meth c nL E A cells slots Q (ws) (pc) (L) (.long y :: .long x :: st) := by
  intro H locs ls hP hD hS hl
  exact W.lcmp C.1 C.2.1 hdg (k H locs ls hP hD hS hl)
theorem z_dup (C : zC p s m args c meth cc nL own Ts E A) {va : Value} (hdg : decode cc pc = .ok (.dup, 1)) (hva : va.category = 1) (k : zG p l e R s m args below meth c nL E A cells slots Q (ws) (pc + 1) (L) (va :: va :: st)) : zG p l e R s m args below meth c nL E A cells slots Q (ws) (pc) (L) (va :: st) := by
  intro H locs ls hP hD hS hl
  exact lv_dup C.1 C.2.1 hdg hva (k H locs ls hP hD hS hl)
theorem z_pop (C : zC p s m args c meth cc nL own Ts E A) {va : Value} (hdg : decode cc pc = .ok (.pop, 1)) (hva : va.category = 1) (k : zG p l e R s m args below meth c nL E A cells slots Q (ws) (pc + 1) (L) (st)) : zG p l e R s m args below meth c nL E A cells slots Q (ws) (pc) (L) (va :: st) := by
  intro H locs ls hP hD hS hl
  exact lv_pop C.1 C.2.1 hdg hva (k H locs ls hP hD hS hl)
theorem z_dup_x1 (C : zC p s m args c meth cc nL own Ts E A) {va vb : Value} (hdg : decode cc pc = .ok (.dup_x1, 1)) (hva : va.category = 1) (hvb : vb.category = 1) (k : zG p l e R s m args below meth c nL E A cells slots Q (ws) (pc + 1) (L) (va :: vb :: va :: st)) : zG p l e R s m args below meth c nL E A cells slots Q (ws) (pc) (L) (va :: vb :: st) := by
  intro H locs ls hP hD hS hl
  exact lv_dup_x1 C.1 C.2.1 hdg hva hvb (k H locs ls hP hD hS hl)
theorem z_dup2 (C : zC p s m args c meth cc nL own Ts E A) {va vb : Value} (hdg : decode cc pc = .ok (.dup2, 1)) (hva : va.category = 1) (hvb : vb.category = 1) (k : zG p l e R s m args below meth c nL E A cells slots Q (ws) (pc + 1) (L) (va :: vb :: va :: vb :: st)) : zG p l e R s m args below meth c nL E A cells slots Q (ws) (pc) (L) (va :: vb :: st) := by
  intro H locs ls hP hD hS hl
  exact lv_dup2_11 C.1 C.2.1 hdg hva hvb (k H locs ls hP hD hS hl)
theorem z_if_eq (C : zC p s m args c meth cc nL own Ts E A) {x : Int32} {off : Int} {tgt : Nat} (hdg : decode cc pc = .ok (.ifCond .eq off, 3)) (ht : (pc : Int) + off = (tgt : Int)) (kt : x = 0 → zG p l e R s m args below meth c nL E A cells slots Q (ws) (tgt) (L) (st)) (kf : ¬ x = 0 → zG p l e R s m args below meth c nL E A cells slots Q (ws) (pc + 3) (L) (st)) : zG p l e R s m args below meth c nL E A cells slots Q (ws) (pc) (L) (.int x :: st) := by
  intro H locs ls hP hD hS hl
  exact lv_if_eq C.1 C.2.1 hdg ht (fun h => kt h H locs ls hP hD hS hl) (fun h => kf h H locs ls hP hD hS hl)
theorem z_if_ne (C : zC p s m args c meth cc nL own Ts E A) {x : Int32} {off : Int} {tgt : Nat} (hdg : decode cc pc = .ok (.ifCond .ne off, 3)) (ht : (pc : Int) + off = (tgt : Int)) (kt : ¬ x = 0 → zG p l e R s m args below meth c nL E A cells slots Q (ws) (tgt) (L) (st)) (kf : x = 0 → zG p l e R s m args below meth c nL E A cells slots Q (ws) (pc + 3) (L) (st)) : zG p l e R s m args below meth c nL E A cells slots Q (ws) (pc) (L) (.int x :: st) := by
  intro H locs ls hP hD hS hl
  exact lv_if_ne C.1 C.2.1 hdg ht (fun h => kt h H locs ls hP hD hS hl) (fun h => kf h H locs ls hP hD hS hl)
theorem z_if_lt (C : zC p s m args c meth cc nL own Ts E A) {x : Int32} {off : Int} {tgt : Nat} (hdg : decode cc pc = .ok (.ifCond .lt off, 3)) (ht : (pc : Int) + off = (tgt : Int)) (kt : x < 0 → zG p l e R s m args below meth c nL E A cells slots Q (ws) (tgt) (L) (st)) (kf : ¬ x < 0 → zG p l e R s m args below meth c nL E A cells slots Q (ws) (pc + 3) (L) (st)) : zG p l e R s m args below meth c nL E A cells slots Q (ws) (pc) (L) (.int x :: st) := by
  intro H locs ls hP hD hS hl
  exact lv_if_lt C.1 C.2.1 hdg ht (fun h => kt h H locs ls hP hD hS hl) (fun h => kf h H locs ls hP hD hS hl)
theorem z_if_ge (C : zC p s m args c meth cc nL own Ts E A) {x : Int32} {off : Int} {tgt : Nat} (hdg : decode cc pc = .ok (.ifCond .ge off, 3)) (ht : (pc : Int) + off = (tgt : Int)) (kt : 0 ≤ x → zG p l e R s m args below meth c nL E A cells slots Q (ws) (tgt) (L) (st)) (kf : ¬ 0 ≤ x → zG p l e R s m args below meth c nL E A cells slots Q (ws) (pc + 3) (L) (st)) : zG p l e R s m args below meth c nL E A cells slots Q (ws) (pc) (L) (.int x :: st) := by
  intro H locs ls hP hD hS hl
  exact lv_if_ge C.1 C.2.1 hdg ht (fun h => kt h H locs ls hP hD hS hl) (fun h => kf h H locs ls hP hD hS hl)
theorem z_if_gt (C : zC p s m args c meth cc nL own Ts E A) {x : Int32} {off : Int} {tgt : Nat} (hdg : decode cc pc = .ok (.ifCond .gt off, 3)) (ht : (pc : Int) + off = (tgt : Int)) (kt : 0 < x → zG p l e R s m args below meth c nL E A cells slots Q (ws) (tgt) (L) (st)) (kf : ¬ 0 < x → zG p l e R s m args below meth c nL E A cells slots Q (ws) (pc + 3) (L) (st)) : zG p l e R s m args below meth c nL E A cells slots Q (ws) (pc) (L) (.int x :: st) := by
  intro H locs ls hP hD hS hl
  exact lv_if_gt C.1 C.2.1 hdg ht (fun h => kt h H locs ls hP hD hS hl) (fun h => kf h H locs ls hP hD hS hl)
theorem z_if_le (C : zC p s m args c meth cc nL own Ts E A) {x : Int32} {off : Int} {tgt : Nat} (hdg : decode cc pc = .ok (.ifCond .le off, 3)) (ht : (pc : Int) + off = (tgt : Int)) (kt : x ≤ 0 → zG p l e R s m args below meth c nL E A cells slots Q (ws) (tgt) (L) (st)) (kf : ¬ x ≤ 0 → zG p l e R s m args below meth c nL E A cells slots Q (ws) (pc + 3) (L) (st)) : zG p l e R s m args below meth c nL E A cells slots Q (ws) (pc) (L) (.int x :: st) := by
  intro H locs ls hP hD hS hl
  exact lv_if_le C.1 C.2.1 hdg ht (fun h => kt h H locs ls hP hD hS hl) (fun h => kf h H locs ls hP hD hS hl)
theorem z_icmp_eq (C : zC p s m args c meth cc nL own Ts E A) {x y : Int32} {off : Int} {tgt : Nat} (hdg : decode cc pc = .ok (.if_icmp .eq off, 3)) (ht : (pc : Int) + off = (tgt : Int)) (kt : x = y → zG p l e R s m args below meth c nL E A cells slots Q (ws) (tgt) (L) (st)) (kf : ¬ x = y → zG p l e R s m args below meth c nL E A cells slots Q (ws) (pc + 3) (L) (st)) : zG p l e R s m args below meth c nL E A cells slots Q (ws) (pc) (L) (.int y :: .int x :: st) := by
  intro H locs ls hP hD hS hl
  exact lv_icmp_eq C.1 C.2.1 hdg ht (fun h => kt h H locs ls hP hD hS hl) (fun h => kf h H locs ls hP hD hS hl)
theorem z_icmp_ne (C : zC p s m args c meth cc nL own Ts E A) {x y : Int32} {off : Int} {tgt : Nat} (hdg : decode cc pc = .ok (.if_icmp .ne off, 3)) (ht : (pc : Int) + off = (tgt : Int)) (kt : ¬ x = y → zG p l e R s m args below meth c nL E A cells slots Q (ws) (tgt) (L) (st)) (kf : x = y → zG p l e R s m args below meth c nL E A cells slots Q (ws) (pc + 3) (L) (st)) : zG p l e R s m args below meth c nL E A cells slots Q (ws) (pc) (L) (.int y :: .int x :: st) := by
  intro H locs ls hP hD hS hl
  exact lv_icmp_ne C.1 C.2.1 hdg ht (fun h => kt h H locs ls hP hD hS hl) (fun h => kf h H locs ls hP hD hS hl)
theorem z_icmp_lt (C : zC p s m args c meth cc nL own Ts E A) {x y : Int32} {off : Int} {tgt : Nat} (hdg : decode cc pc = .ok (.if_icmp .lt off, 3)) (ht : (pc : Int) + off = (tgt : Int)) (kt : x < y → zG p l e R s m args below meth c nL E A cells slots Q (ws) (tgt) (L) (st)) (kf : ¬ x < y → zG p l e R s m args below meth c nL E A cells slots Q (ws) (pc + 3) (L) (st)) : zG p l e R s m args below meth c nL E A cells slots Q (ws) (pc) (L) (.int y :: .int x :: st) := by
  intro H locs ls hP hD hS hl
  exact lv_icmp_lt C.1 C.2.1 hdg ht (fun h => kt h H locs ls hP hD hS hl) (fun h => kf h H locs ls hP hD hS hl)
theorem z_icmp_ge (C : zC p s m args c meth cc nL own Ts E A) {x y : Int32} {off : Int} {tgt : Nat} (hdg : decode cc pc = .ok (.if_icmp .ge off, 3)) (ht : (pc : Int) + off = (tgt : Int)) (kt : y ≤ x → zG p l e R s m args below meth c nL E A cells slots Q (ws) (tgt) (L) (st)) (kf : ¬ y ≤ x → zG p l e R s m args below meth c nL E A cells slots Q (ws) (pc + 3) (L) (st)) : zG p l e R s m args below meth c nL E A cells slots Q (ws) (pc) (L) (.int y :: .int x :: st) := by
  intro H locs ls hP hD hS hl
  exact lv_icmp_ge C.1 C.2.1 hdg ht (fun h => kt h H locs ls hP hD hS hl) (fun h => kf h H locs ls hP hD hS hl)
theorem z_icmp_gt (C : zC p s m args c meth cc nL own Ts E A) {x y : Int32} {off : Int} {tgt : Nat} (hdg : decode cc pc = .ok (.if_icmp .gt off, 3)) (ht : (pc : Int) + off = (tgt : Int)) (kt : y < x → zG p l e R s m args below meth c nL E A cells slots Q (ws) (tgt) (L) (st)) (kf : ¬ y < x → zG p l e R s m args below meth c nL E A cells slots Q (ws) (pc + 3) (L) (st)) : zG p l e R s m args below meth c nL E A cells slots Q (ws) (pc) (L) (.int y :: .int x :: st) := by
  intro H locs ls hP hD hS hl
  exact lv_icmp_gt C.1 C.2.1 hdg ht (fun h => kt h H locs ls hP hD hS hl) (fun h => kf h H locs ls hP hD hS hl)
theorem z_icmp_le (C : zC p s m args c meth cc nL own Ts E A) {x y : Int32} {off : Int} {tgt : Nat} (hdg : decode cc pc = .ok (.if_icmp .le off, 3)) (ht : (pc : Int) + off = (tgt : Int)) (kt : x ≤ y → zG p l e R s m args below meth c nL E A cells slots Q (ws) (tgt) (L) (st)) (kf : ¬ x ≤ y → zG p l e R s m args below meth c nL E A cells slots Q (ws) (pc + 3) (L) (st)) : zG p l e R s m args below meth c nL E A cells slots Q (ws) (pc) (L) (.int y :: .int x :: st) := by
  intro H locs ls hP hD hS hl
  exact lv_icmp_le C.1 C.2.1 hdg ht (fun h => kt h H locs ls hP hD hS hl) (fun h => kf h H locs ls hP hD hS hl)
theorem z_goto (C : zC p s m args c meth cc nL own Ts E A) {off : Int} {tgt : Nat} (hdg : decode cc pc = .ok (.goto off, 3)) (ht : (pc : Int) + off = (tgt : Int)) (k : zG p l e R s m args below meth c nL E A cells slots Q (ws) (tgt) (L) (st)) : zG p l e R s m args below meth c nL E A cells slots Q (ws) (pc) (L) (st) := by
  intro H locs ls hP hD hS hl
  exact lv_goto C.1 C.2.1 hdg ht (k H locs ls hP hD hS hl)
theorem z_tabIn (C : zC p s m args c meth cc nL own Ts E A) {dflt lo hi : Int} {offs : Array Int} {len : Nat} {x : Int32} {off : Int} {tgt : Nat} (hdg : decode cc pc = .ok (.tableswitch dflt lo hi offs, len)) (h1 : ¬ x.toInt < lo) (h2 : ¬ hi < x.toInt) (ho : offs[(x.toInt - lo).toNat]? = some off) (ht : (pc : Int) + off = (tgt : Int)) (k : zG p l e R s m args below meth c nL E A cells slots Q (ws) (tgt) (L) (st)) : zG p l e R s m args below meth c nL E A cells slots Q (ws) (pc) (L) (.int x :: st) := by
  intro H locs ls hP hD hS hl
  exact lv_tableIn C.1 C.2.1 hdg h1 h2 ho ht (k H locs ls hP hD hS hl)
theorem z_tabOut (C : zC p s m args c meth cc nL own Ts E A) {dflt lo hi : Int} {offs : Array Int} {len : Nat} {x : Int32} {tgt : Nat} (hdg : decode cc pc = .ok (.tableswitch dflt lo hi offs, len)) (h : x.toInt < lo ∨ hi < x.toInt) (ht : (pc : Int) + dflt = (tgt : Int)) (k : zG p l e R s m args below meth c nL E A cells slots Q (ws) (tgt) (L) (st)) : zG p l e R s m args below meth c nL E A cells slots Q (ws) (pc) (L) (.int x :: st) := by
  intro H locs ls hP hD hS hl
  exact lv_tableOut C.1 C.2.1 hdg h ht (k H locs ls hP hD hS hl)
theorem z_look (C : zC p s m args c meth cc nL own Ts E A) {dflt : Int} {ps : Array (Int × Int)} {len : Nat} {x : Int32} {off : Int} {tgt : Nat} (hdg : decode cc pc = .ok (.lookupswitch dflt ps, len)) (hp : (ps.toList.zip (ps.toList.drop 1)).all (fun (a, next) => a.1 < next.1) = true) (ho : Op.lookupswitch.offset ps.toList dflt x.toInt = off) (ht : (pc : Int) + off = (tgt : Int)) (k : zG p l e R s m args below meth c nL E A cells slots Q (ws) (tgt) (L) (st)) : zG p l e R s m args below meth c nL E A cells slots Q (ws) (pc) (L) (.int x :: st) := by
  intro H locs ls hP hD hS hl
  exact lv_lookup C.1 C.2.1 hdg hp ho ht (k H locs ls hP hD hS hl)
theorem z_ifnonnull (C : zC p s m args c meth cc nL own Ts E A) {x : Nat} {off : Int} {tgt : Nat} (hdg : decode cc pc = .ok (.ifnonnull off, 3)) (ht : (pc : Int) + off = (tgt : Int)) (k : zG p l e R s m args below meth c nL E A cells slots Q (ws) (tgt) (L) (st)) : zG p l e R s m args below meth c nL E A cells slots Q (ws) (pc) (L) (.ref x :: st) := by
  intro H locs ls hP hD hS hl
  exact lv_ifnonnull C.1 C.2.1 hdg ht (k H locs ls hP hD hS hl)
theorem z_ifnonnullN (C : zC p s m args c meth cc nL own Ts E A) {off : Int} (hdg : decode cc pc = .ok (.ifnonnull off, 3)) (k : zG p l e R s m args below meth c nL E A cells slots Q (ws) (pc + 3) (L) (st)) : zG p l e R s m args below meth c nL E A cells slots Q (ws) (pc) (L) (.null :: st) := by
  intro H locs ls hP hD hS hl
  exact lv_ifnonnullN C.1 C.2.1 hdg (k H locs ls hP hD hS hl)
theorem z_get (C : zC p s m args c meth cc nL own Ts E A) {a : Nat} {ref Cn : String} {T : u_T} {N ci index : Nat} (hin : ∀ w ∈ u_ws Cn T N, w ∈ Ts) (q0 : Nat) {fs : List Value} (he : ws[q0]? = some (a, .inr (ci, fs))) (hc : vwCl[ci]? = some (Cn, T, N)) (k0 : Nat) (hk : k0 < N) (href : (T k0).1 = ref) (hlink : Cond.fieldLink own index ref (T k0).2.1 (T k0).2.2.1 ∈ Ts) {v : Value} (hv : fs[k0]? = some v) (hdg : decode cc pc = .ok (.getfield index, 3)) (k : zG p l e R s m args below meth c nL E A cells slots Q (ws) (pc + 3) (L) (v :: st)) : zG p l e R s m args below meth c nL E A cells slots Q (ws) (pc) (L) (.ref a :: st) := by
  intro H locs ls hP hD hS hl
  subst href
  exact va_get C.1 C.2.1 C.2.2.2.2.1 hin C.2.2.2.1 C.2.2.2.2.2.1 hP q0 he hc k0 hk (C.2.2.2.2.1 _ hlink) (fun _ h9 => h9) hv hdg (k H locs ls hP hD hS hl)
theorem z_put (C : zC p s m args c meth cc nL own Ts E A) {a : Nat} {ref Cn : String} {T : u_T} {N ci index : Nat} (hin : ∀ w ∈ u_ws Cn T N, w ∈ Ts) (ty0 : Nat → FieldType) (hty : ∀ k, k < N → parseFieldDescriptor (T k).2.2.1 = some (ty0 k)) (hnm : ∀ a, a < N → ∀ b, b < N → a ≠ b → (T a).2.1 ≠ (T b).2.1) (q0 : Nat) {fs : List Value} (he : ws[q0]? = some (a, .inr (ci, fs))) (hc : vwCl[ci]? = some (Cn, T, N)) (k0 : Nat) (hk : k0 < N) (href : (T k0).1 = ref) (hlink : Cond.fieldLink own index ref (T k0).2.1 (T k0).2.2.1 ∈ Ts) (hfin : (T k0).2.2.2 = false) {v : Value} (hn : narrow (ty0 k0) v = v) (hfit : fits (ty0 k0) v = true) (hl0 : k0 < fs.length) {ws' : va_W} (hw : ws.set q0 (a, .inr (ci, fs.set k0 v)) = ws') (hdg : decode cc pc = .ok (.putfield index, 3)) (k : zG p l e R s m args below meth c nL E A cells slots Q (ws') (pc + 3) (L) (st)) : zG p l e R s m args below meth c nL E A cells slots Q (ws) (pc) (L) (v :: .ref a :: st) := by
  intro H locs ls hP hD hS hl
  subst href
  subst hw
  exact va_put C.1 C.2.1 C.2.2.2.2.1 hin ty0 hty hnm C.2.2.2.1 C.2.2.2.2.2.1 hP hD hS q0 he hc k0 hk (C.2.2.2.2.1 _ hlink) (fun _ h9 => h9) hfin (hty k0 hk) hn hfit hl0 hdg (fun H1 l1 a1 a2 a3 => k H1 l1 ls a1 a2 a3 hl)
theorem z_putF (C : zC p s m args c meth cc nL own Ts E A) {a : Nat} {ref Cn : String} {T : u_T} {N ci index : Nat} (hin : ∀ w ∈ u_ws Cn T N, w ∈ Ts) (ty0 : Nat → FieldType) (hty : ∀ k, k < N → parseFieldDescriptor (T k).2.2.1 = some (ty0 k)) (hnm : ∀ a, a < N → ∀ b, b < N → a ≠ b → (T a).2.1 ≠ (T b).2.1) (q0 : Nat) {fs : List Value} (he : ws[q0]? = some (a, .inr (ci, fs))) (hc : vwCl[ci]? = some (Cn, T, N)) (k0 : Nat) (hk : k0 < N) (href : (T k0).1 = ref) (hlink : Cond.fieldLink own index ref (T k0).2.1 (T k0).2.2.1 ∈ Ts) (hfin : (T k0).2.2.2 = true) (hini : meth.name = "<init>") (hdecl : (T k0).1 = own) {v : Value} (hn : narrow (ty0 k0) v = v) (hfit : fits (ty0 k0) v = true) (hl0 : k0 < fs.length) {ws' : va_W} (hw : ws.set q0 (a, .inr (ci, fs.set k0 v)) = ws') (hdg : decode cc pc = .ok (.putfield index, 3)) (k : zG p l e R s m args below meth c nL E A cells slots Q (ws') (pc + 3) (L) (st)) : zG p l e R s m args below meth c nL E A cells slots Q (ws) (pc) (L) (v :: .ref a :: st) := by
  intro H locs ls hP hD hS hl
  subst href
  subst hw
  exact va_putF C.1 C.2.1 C.2.2.2.2.1 hin ty0 hty hnm C.2.2.2.1 C.2.2.2.2.2.1 hP hD hS q0 he hc k0 hk (C.2.2.2.2.1 _ hlink) (fun _ h9 => h9) hfin hini hdecl (hty k0 hk) hn hfit hl0 hdg (fun H1 l1 a1 a2 a3 => k H1 l1 ls a1 a2 a3 hl)
theorem z_iald (C : zC p s m args c meth cc nL own Ts E A) {a n : Nat} {f : Nat → Int32} (q0 : Nat) (ha : ws[q0]? = some (a, zI E n f)) {i : Int32} (hin : ix i n = true) (hdg : decode cc pc = .ok (.iaload, 1)) (k : zG p l e R s m args below meth c nL E A cells slots Q (ws) (pc + 1) (L) (.int (f i.toNatClampNeg) :: st)) : zG p l e R s m args below meth c nL E A cells slots Q (ws) (pc) (L) (.int i :: .ref a :: st) := by
  intro H locs ls hP hD hS hl
  exact va_iald C.1 C.2.1 C.2.2.2.2.2.1 hP q0 0 ha rfl (ix_in hin) hdg (k H locs ls hP hD hS hl)
theorem z_bald (C : zC p s m args c meth cc nL own Ts E A) {a n : Nat} {f : Nat → Int32} (q0 : Nat) (ha : ws[q0]? = some (a, zB E n f)) {i : Int32} (hin : ix i n = true) (hdg : decode cc pc = .ok (.baload, 1)) (k : zG p l e R s m args below meth c nL E A cells slots Q (ws) (pc + 1) (L) (.int (f i.toNatClampNeg) :: st)) : zG p l e R s m args below meth c nL E A cells slots Q (ws) (pc) (L) (.int i :: .ref a :: st) := by
  intro H locs ls hP hD hS hl
  exact va_bald C.1 C.2.1 C.2.2.2.2.2.1 hP q0 1 ha rfl (ix_in hin) hdg (k H locs ls hP hD hS hl)
theorem z_zald (C : zC p s m args c meth cc nL own Ts E A) {a n : Nat} {f : Nat → Int32} (q0 : Nat) (ha : ws[q0]? = some (a, zZ E n f)) {i : Int32} (hin : ix i n = true) (hdg : decode cc pc = .ok (.baload, 1)) (k : zG p l e R s m args below meth c nL E A cells slots Q (ws) (pc + 1) (L) (.int (f i.toNatClampNeg) :: st)) : zG p l e R s m args below meth c nL E A cells slots Q (ws) (pc) (L) (.int i :: .ref a :: st) := by
  intro H locs ls hP hD hS hl
  exact va_zald C.1 C.2.1 C.2.2.2.2.2.1 hP q0 2 ha rfl (ix_in hin) hdg (k H locs ls hP hD hS hl)
theorem z_iast (C : zC p s m args c meth cc nL own Ts E A) {a n : Nat} {f : Nat → Int32} (q0 : Nat) (ha : ws[q0]? = some (a, zI E n f)) {i x : Int32} (hin : ix i n = true) {ws' : va_W} (hw : ws.set q0 (a, zI E n (upd f i.toNatClampNeg x)) = ws') (hdg : decode cc pc = .ok (.iastore, 1)) (k : zG p l e R s m args below meth c nL E A cells slots Q (ws') (pc + 1) (L) (st)) : zG p l e R s m args below meth c nL E A cells slots Q (ws) (pc) (L) (.int x :: .int i :: .ref a :: st) := by
  intro H locs ls hP hD hS hl
  subst hw
  exact va_iast C.1 C.2.1 C.2.2.2.2.2.1 hP hD hS q0 0 ha rfl (ix_in hin) hdg (fun H1 l1 a1 a2 a3 => k H1 l1 ls a1 a2 a3 hl)
theorem z_bast (C : zC p s m args c meth cc nL own Ts E A) {a n : Nat} {f : Nat → Int32} (q0 : Nat) (ha : ws[q0]? = some (a, zB E n f)) {i x : Int32} (hin : ix i n = true) {ws' : va_W} (hw : ws.set q0 (a, zB E n (upd f i.toNatClampNeg (vp_nar .byte x))) = ws') (hdg : decode cc pc = .ok (.bastore, 1)) (k : zG p l e R s m args below meth c nL E A cells slots Q (ws') (pc + 1) (L) (st)) : zG p l e R s m args below meth c nL E A cells slots Q (ws) (pc) (L) (.int x :: .int i :: .ref a :: st) := by
  intro H locs ls hP hD hS hl
  subst hw
  exact va_bast C.1 C.2.1 C.2.2.2.2.2.1 hP hD hS q0 1 ha rfl (ix_in hin) hdg (fun H1 l1 a1 a2 a3 => k H1 l1 ls a1 a2 a3 hl)
theorem z_zast (C : zC p s m args c meth cc nL own Ts E A) {a n : Nat} {f : Nat → Int32} (q0 : Nat) (ha : ws[q0]? = some (a, zZ E n f)) {i x : Int32} (hin : ix i n = true) {ws' : va_W} (hw : ws.set q0 (a, zZ E n (upd f i.toNatClampNeg (vp_nar .boolean x))) = ws') (hdg : decode cc pc = .ok (.bastore, 1)) (k : zG p l e R s m args below meth c nL E A cells slots Q (ws') (pc + 1) (L) (st)) : zG p l e R s m args below meth c nL E A cells slots Q (ws) (pc) (L) (.int x :: .int i :: .ref a :: st) := by
  intro H locs ls hP hD hS hl
  subst hw
  exact va_zast C.1 C.2.1 C.2.2.2.2.2.1 hP hD hS q0 2 ha rfl (ix_in hin) hdg (fun H1 l1 a1 a2 a3 => k H1 l1 ls a1 a2 a3 hl)
theorem z_alen (C : zC p s m args c meth cc nL own Ts E A) {a n : Nat} {f : Nat → Int32} (q0 : Nat) (ha : ws[q0]? = some (a, zI E n f)) {v : Int32} (hv : Int32.ofNat n = v) (hdg : decode cc pc = .ok (.arraylength, 1)) (k : zG p l e R s m args below meth c nL E A cells slots Q (ws) (pc + 1) (L) (.int v :: st)) : zG p l e R s m args below meth c nL E A cells slots Q (ws) (pc) (L) (.ref a :: st) := by
  intro H locs ls hP hD hS hl
  exact va_alen C.1 C.2.1 C.2.2.2.2.2.1 hP q0 0 ha rfl hv hdg (k H locs ls hP hD hS hl)
theorem z_copy (C : zC p s m args c meth cc nL own Ts E A) {a a0 n0 n1 index : Nat} {f g : Nat → Int32} (q0 q1 : Nat) (ha0 : ws[q0]? = some (a0, zI E n0 f)) (ha1 : ws[q1]? = some (a, zI E n1 g)) {sp dp n : Int32} (ho : cpo sp dp n n0 n1 = true) {ws' : va_W} (hw : ws.set q1 (a, zI E n1 (va_cpy f g sp.toNatClampNeg dp.toNatClampNeg n.toNatClampNeg)) = ws') (w1 : Cond.methodLink own index arraycopyName ∈ Ts) (w2 : Cond.native arraycopyName ∈ Ts) (w3 : Cond.static arraycopyName ∈ Ts) (w4 : Cond.initialized "java/lang/System" ∈ Ts) (hfr : 1 ≤ R.frames) (hlo : (st.map fun v => v.category).sum + (nativeFrameWords "java/lang/System" "arraycopy" 5 + 11) ≤ R.locals) (hdg : decode cc pc = .ok (.invokestatic index, 3)) (k : zG p l e R s m args below meth c nL E A cells slots Q (ws') (pc + 3) (L) (st)) : zG p l e R s m args below meth c nL E A cells slots Q (ws) (pc) (L) (.int n :: .int dp :: .ref a :: .int sp :: .ref a0 :: st) := by
  intro H locs ls hP hD hS hl
  subst hw
  have h := of_decide_eq_true ho
  exact va_copyi C.1 C.2.1 (C.2.2.1.trans hl.1.symm) C.2.2.2.1 (C.2.2.2.2.1 _ w1) (C.2.2.2.2.1 _ w2) (C.2.2.2.2.1 _ w3) (C.2.2.2.2.1 _ w4) C.2.2.2.2.2.1 hP hD hS q0 q1 0 0 ha0 ha1 rfl rfl rfl h.1 h.2.1 h.2.2.1 h.2.2.2.1 h.2.2.2.2 (fun i hi => rfl) hfr hlo hdg (fun H1 l1 a1 a2 a3 => k H1 l1 ls a1 a2 a3 hl)
theorem z_mmin (C : zC p s m args c meth cc nL own Ts E A) {index : Nat} {x y : Int32} (w1 : Cond.methodLink own index Lib.Math.min.name ∈ Ts) (w2 : Cond.static Lib.Math.min.name ∈ Ts) (w3 : Cond.initialized "java/lang/Math" ∈ Ts) (w4 : Cond.code Lib.Math.min.name Lib.Math.min.code 2 (some .int) ∈ Ts) (hfr : 1 ≤ R.frames) (hlo : (st.map fun v => v.category).sum + 13 ≤ R.locals) (hcs : cells ≤ R.cells) (hss : slots ≤ R.slots) (hdg : decode cc pc = .ok (.invokestatic index, 3)) (k : zG p l e R s m args below meth c nL E A cells slots Q (ws) (pc + 3) (L) (.int (if y < x then y else x) :: st)) : zG p l e R s m args below meth c nL E A cells slots Q (ws) (pc) (L) (.int y :: .int x :: st) := by
  intro H locs ls hP hD hS hl
  exact va_mmin C.1 C.2.1 (C.2.2.1.trans hl.1.symm) C.2.2.2.1 (C.2.2.2.2.1 _ w1) (C.2.2.2.2.1 _ w2) (C.2.2.2.2.1 _ w3) (C.2.2.2.2.1 _ w4) hfr hlo hcs hss hdg (k H locs ls hP hD hS hl)
theorem z_mmax (C : zC p s m args c meth cc nL own Ts E A) {index : Nat} {x y : Int32} (w1 : Cond.methodLink own index Lib.Math.max.name ∈ Ts) (w2 : Cond.static Lib.Math.max.name ∈ Ts) (w3 : Cond.initialized "java/lang/Math" ∈ Ts) (w4 : Cond.code Lib.Math.max.name Lib.Math.max.code 2 (some .int) ∈ Ts) (hfr : 1 ≤ R.frames) (hlo : (st.map fun v => v.category).sum + 13 ≤ R.locals) (hcs : cells ≤ R.cells) (hss : slots ≤ R.slots) (hdg : decode cc pc = .ok (.invokestatic index, 3)) (k : zG p l e R s m args below meth c nL E A cells slots Q (ws) (pc + 3) (L) (.int (if x < y then y else x) :: st)) : zG p l e R s m args below meth c nL E A cells slots Q (ws) (pc) (L) (.int y :: .int x :: st) := by
  intro H locs ls hP hD hS hl
  exact va_mmax C.1 C.2.1 (C.2.2.1.trans hl.1.symm) C.2.2.2.1 (C.2.2.2.2.1 _ w1) (C.2.2.2.2.1 _ w2) (C.2.2.2.2.1 _ w3) (C.2.2.2.2.1 _ w4) hfr hlo hcs hss hdg (k H locs ls hP hD hS hl)
theorem z_iret (C : zC p s m args c meth cc nL own Ts E A) {v : Int32} (hr : meth.sig.returnType = some .int) (hdg : decode cc pc = .ok (.ireturn, 1)) : zG p l e R s m args below meth c nL E A cells slots (MQ below (zQ E A (some (.int v)) ws) args s cells slots A) (ws) (pc) (L) ([.int v]) := by
  intro H locs ls hP hD hS hl
  have hlocks := C.2.2.2.2.2.2.2
  exact W.iret C.1 C.2.1 hr (fun t ht hW => ⟨⟨rfl, by rw [ht]; exact hP, hD⟩, hS.F ht⟩) hS.2.2 hdg
theorem z_lret (C : zC p s m args c meth cc nL own Ts E A) {v : Int64} (hr : meth.sig.returnType = some .long) (hdg : decode cc pc = .ok (.lreturn, 1)) : zG p l e R s m args below meth c nL E A cells slots (MQ below (zQ E A (some (.long v)) ws) args s cells slots A) (ws) (pc) (L) ([.long v]) := by
  intro H locs ls hP hD hS hl
  have hlocks := C.2.2.2.2.2.2.2
  exact W.lret C.1 C.2.1 hr (fun t ht hW => ⟨⟨rfl, by rw [ht]; exact hP, hD⟩, hS.F ht⟩) hS.2.2 hdg
theorem z_zret (C : zC p s m args c meth cc nL own Ts E A) {v : Int32} {ty : FieldType} (hr : meth.sig.returnType = some ty) (hn : narrow ty (.int v) = .int v) (hdg : decode cc pc = .ok (.ireturn, 1)) : zG p l e R s m args below meth c nL E A cells slots (MQ below (zQ E A (some (.int v)) ws) args s cells slots A) (ws) (pc) (L) ([.int v]) := by
  intro H locs ls hP hD hS hl
  have hlocks := C.2.2.2.2.2.2.2
  exact W.zret C.1 C.2.1 hr hn (fun t ht hW => ⟨⟨rfl, by rw [ht]; exact hP, hD⟩, hS.F ht⟩) hS.2.2 hdg
theorem z_vret (C : zC p s m args c meth cc nL own Ts E A) (hr : meth.sig.returnType = none) (hdg : decode cc pc = .ok (.return_, 1)) : zG p l e R s m args below meth c nL E A cells slots (MQ below (zQ E A none ws) args s cells slots A) (ws) (pc) (L) ([]) := by
  intro H locs ls hP hD hS hl
  have hlocks := C.2.2.2.2.2.2.2
  exact W.vret C.1 C.2.1 hr (fun t ht hW => ⟨⟨rfl, by rw [ht]; exact hP, hD⟩, hS.F ht⟩) hS.2.2 hdg
theorem zM.of {y : MethodName} {maxL : Nat} {ret : Option FieldType} {wy wy' : List Cond} {rm : Room} {av : List Value} {r : Option Value} {ws' : va_W} (hy : plainName y.cls = true) (hw : wy = .code y cc maxL ret :: wy') (hlen : (lg_sl av).length ≤ maxL)
    (body : ∀ (p : Program) (e : Env) (s : State) (m : MethodId) (args : Array Value) (below : List Frame) (meth : Method) (c : Code) (A : Nat → Prop), zC p s m args c meth cc maxL y.cls wy E A → meth.sig.returnType = ret →
      zG p l e rm s m args below meth c maxL E A 0 0 (MQ below (zQ E A r ws') args s 0 0 A) ws 0 (lv_args 0 av) []) : zM l y wy rm E av ws r ws' := by
  intro sz
  refine Met.ofW (cc := cc) (maxL := maxL) (ret := ret) hy hw ?_
  intro p e s m args below meth c s₁ B hml hv
  obtain ⟨rfl, hsz, hP, hK, hD0⟩ := hv
  have hts := atoms_spec (ws := wy) B.pre
  have hown : s.vm.findClass y.cls = some m.cls := findClass_of_methodNamed B.named
  subst hsz
  have hl := lv_entry av (n := maxL) hlen
  rw [lg_entry_eq]
  exact body p e s m _ below meth c (va_A ws s.heap.size) ⟨B.exec, B.bytes, hml, hown, hts, hK, fun q h => Or.inr h, B.notSynchronized⟩ B.returns s.heap [] _ hP hD0.self va_S.rf hl
theorem zP.blind {av : List Value} {sz : Nat} : FrameBlind (zP E av sz ws) := fun a U g mk q => ⟨q.1, q.2.1, q.2.2.1, va_K.moved (u := U) (U := U.calling g mk a) (Vm.Alike.refl U.vm) q.2.2.2.1, q.2.2.2.2⟩
theorem zP.start {av : List Value} {H : Heap} (hP : va_P E.1 vwCl ws H) (hK : zK E s) (hD : va_D A ws) : ∀ U : State, U.heap = H → s.WarmedH U.vm → zP E av H.size ws av.toArray U := fun U hU hW => ⟨rfl, by rw [hU], by rw [hU]; exact hP, va_K.moved hW.alike hK, hD.weaken (fun _ _ _ _ => trivial)⟩
/-- behind a call: the callee's cells are as it left them, the others as they were -/
theorem z_after (C : zC p s m args c meth cc nL own Ts E A) {wc wr wc' ws2 : va_W} (isC isR perm : List Nat) {r : Option Value} {a : Array Value} {rest st0 : List Value} (hC : isC.map (fun i => ws[i]?) = wc.map some) (hnC : va_nd isC = true) (hR : isR.map (fun i => ws[i]?) = wr.map some) (hnR : va_nd isR = true) (hdis : ∀ i ∈ isR, i ∉ isC) (hp : perm.map (fun i => (wr ++ wc')[i]?) = ws2.map some) (hnp : va_nd perm = true)
    (hr : ∀ (H : Heap) (locs : List Loc) (ls : Array Slot), va_P E.1 vwCl wc H → va_D A wc → lv_has ls nL L → va_Run p l e R s m args below meth c H locs cells slots 0 0 (F0 m pc ls st0) rest (zQ E (va_A wc H.size) r wc' a) (va_A wc H.size))
    (k : zG p l e R s m args below meth c nL E A cells slots Q (ws2) (pc + 3) (L) (r.toList ++ rest)) : zG p l e R s m args below meth c nL E A cells slots Q (ws) (pc) (L) (st0) := by
  intro H locs ls hP hD hS hl T hT X
  have hA := C.2.2.2.2.2.2.1
  have hPc : va_P E.1 vwCl wc H := fun k q hk => by
    have h1 : (isC.map (fun i => ws[i]?))[k]? = some (some q) := by rw [hC, List.getElem?_map, hk]; rfl
    rw [List.getElem?_map] at h1
    cases hi : isC[k]? with
    | none => rw [hi] at h1; cases h1
    | some i => rw [hi] at h1; exact hP i q (Option.some.inj h1)
  have hF := va_free (wc := wc) hD hS hA isC hC
  have hDc : va_D A wc := hD.sub isC hnC hC
  obtain ⟨v, st₀, t, T', Lx, h0, X', hL, e1, e2, ⟨⟨hv, hP1, hD1⟩, hz, hk⟩, stp⟩ := hr H locs ls hPc hDc hl T hT X
  cases hv
  rw [h0] at hz hk
  have hk' : ∀ q : Nat, q < H.size → ¬ va_A wc H.size q → T'.heap[q]? = H[q]? := fun q h1 h2 => by rw [e1]; exact hk q h1 h2
  obtain ⟨hP2, hD2⟩ := va_join hP hD isC isR hC hR hnR hdis hk' hF (by rw [e1]; exact hP1) hD1
  have hS2 : va_S A s.heap T'.heap (locs ++ Lx) := ⟨Nat.le_trans hS.1 (by rw [e1]; exact hz), fun q h1 h2 => by rw [hk' q (Nat.lt_of_lt_of_le h1 hS.1) (fun z => h2 (hF q z))]; exact hS.2.1 q h1 h2, fun q hq => by
      rcases List.mem_append.mp hq with h | h
      · exact hS.2.2 q h
      · exact hF _ (hL q h)⟩
  have hP3 : va_P E.1 vwCl ws2 T'.heap := fun k q hk => by
    have h1 : (perm.map (fun i => (wr ++ wc')[i]?))[k]? = some (some q) := by rw [hp, List.getElem?_map, hk]; rfl
    rw [List.getElem?_map] at h1
    cases hi : perm[k]? with
    | none => rw [hi] at h1; cases h1
    | some i => rw [hi] at h1; exact hP2 i q (Option.some.inj h1)
  obtain ⟨t2, a1, b1⟩ := k T'.heap (locs ++ Lx) ls hP3 (hD2.sub perm hnp hp) hS2 hl T' rfl X'
  exact ⟨t2, stp t2 a1, b1⟩
theorem z_callV (C : zC p s m args c meth cc nL own Ts E A) {y : MethodName} {bytes : ByteArray} {maxL index n : Nat} {ret : Option FieldType} {wy wy' : List Cond} {rm : Room} {As st' st2 : List Value} {r : Option Value} {b ci j : Nat} {fs : List Value} {q : vw_C} (isC isR perm : List Nat) {wc wr wc' ws2 : va_W} (hC : isC.map (fun i => ws[i]?) = wc.map some) (hnC : va_nd isC = true) (hR : isR.map (fun i => ws[i]?) = wr.map some) (hnR : va_nd isR = true) (hdis : ∀ i ∈ isR, i ∉ isC) (hp : perm.map (fun i => (wr ++ wc')[i]?) = ws2.map some) (hnp : va_nd perm = true) (hM : zM l y wy rm E (.ref b :: As) wc r wc') (hG : GoodIn Ts (wsV own index y.cls y wy)) (hw : wy = .code y bytes maxL ret :: wy') (hrc : rm.cells = 0) (hrs : rm.slots = 0) (hd : y.cls = y.cls ∧ y.cls ≠ "java/lang/invoke/MethodHandle" ∧ y.cls ≠ "java/lang/invoke/VarHandle" ∧ (parseMethodDescriptor y.desc).map (fun d => d.parameters.length) = some n) (hR2 : rm.frames + 1 ≤ R.frames ∧ 8 + (maxL + 11) + rm.locals ≤ R.locals) (hn : As.length = n) (hrev : As.reverse ++ .ref b :: st = st') (hst : r.toList ++ st = st2) (hj : wc[j]? = some (b, .inr (ci, fs))) (hcl : vwCl[ci]? = some q) (hq : q.1 = y.cls) (hroom : (st.map fun v => v.category).sum ≤ 8) (hdg : decode cc pc = .ok (.invokevirtual index, 3)) (hf : cells ≤ R.cells ∧ slots ≤ R.slots)
    (k : zG p l e R s m args below meth c nL E A cells slots Q (ws2) (pc + 3) (L) (r.toList ++ st)) : zG p l e R s m args below meth c nL E A cells slots Q (ws) (pc) (L) (st') := by
  subst hrev
  refine z_after C (wc := wc) (wr := wr) (wc' := wc') (ws2 := ws2) isC isR perm (r := r) (a := (Value.ref b :: As).toArray) (rest := st) hC hnC hR hnR hdis hp hnp (fun H locs ls hP hD hl => ?_) k
  exact va_runV (As := As) (rest := st) (n := n) ⟨C.1, C.2.1, C.2.2.1, C.2.2.2.1, C.2.2.2.2.1⟩ (hM H.size) (cwV n C.2.2.2.2.1 hG hw hrc hrs hd hR2) ⟨zP.blind, by obtain ⟨cell, h1, h2, h3⟩ := va_recv C.2.2.2.2.2.1 hP hcl hj; exact ⟨cell, h1, h2, by rw [← hq]; exact h3⟩, zP.start hP C.2.2.2.2.2.1 hD⟩ rfl hn hl.1 rfl (lv_room hroom) hdg ⟨by simpa using hf.1, by simpa using hf.2⟩
theorem z_callS (C : zC p s m args c meth cc nL own Ts E A) {y : MethodName} {bytes : ByteArray} {maxL index n : Nat} {ret : Option FieldType} {wy wy' : List Cond} {rm : Room} {As st' st2 : List Value} {r : Option Value} (isC isR perm : List Nat) {wc wr wc' ws2 : va_W} (hC : isC.map (fun i => ws[i]?) = wc.map some) (hnC : va_nd isC = true) (hR : isR.map (fun i => ws[i]?) = wr.map some) (hnR : va_nd isR = true) (hdis : ∀ i ∈ isR, i ∉ isC) (hp : perm.map (fun i => (wr ++ wc')[i]?) = ws2.map some) (hnp : va_nd perm = true) (hM : zM l y wy rm E As wc r wc') (hG : GoodIn Ts (va_wsS own index y wy)) (hw : wy = .code y bytes maxL ret :: wy') (hrc : rm.cells = 0) (hrs : rm.slots = 0) (hd : y.cls ≠ "java/lang/invoke/MethodHandle" ∧ y.cls ≠ "java/lang/invoke/VarHandle" ∧ (parseMethodDescriptor y.desc).map (fun d => d.parameters.length) = some n) (hR2 : rm.frames + 1 ≤ R.frames ∧ 8 + (maxL + 11) + rm.locals ≤ R.locals) (hn : As.length = n) (hrev : As.reverse ++ st = st') (hst : r.toList ++ st = st2) (hroom : (st.map fun v => v.category).sum ≤ 8) (hdg : decode cc pc = .ok (.invokestatic index, 3)) (hf : cells ≤ R.cells ∧ slots ≤ R.slots)
    (k : zG p l e R s m args below meth c nL E A cells slots Q (ws2) (pc + 3) (L) (r.toList ++ st)) : zG p l e R s m args below meth c nL E A cells slots Q (ws) (pc) (L) (st') := by
  subst hrev
  refine z_after C (wc := wc) (wr := wr) (wc' := wc') (ws2 := ws2) isC isR perm (r := r) (a := As.toArray) (rest := st) hC hnC hR hnR hdis hp hnp (fun H locs ls hP hD hl => ?_) k
  exact va_runS (As := As) (rest := st) (n := n) ⟨C.1, C.2.1, C.2.2.1, C.2.2.2.1, C.2.2.2.2.1⟩ (hM H.size) (va_cwS n C.2.2.2.2.1 hG hw hrc hrs hd hR2) ⟨zP.blind, zP.start hP C.2.2.2.2.2.1 hD⟩ rfl hn hl.1 rfl (lv_room hroom) hdg ⟨by simpa using hf.1, by simpa using hf.2⟩
end ZL

/-! java.util.NoSuchElementException, made with a text and thrown, stack traces off. The constructor of that class names its superclass's at place 13 of its constant pool. The words of such a throw are those of Bundle.ownAtoms, by name, with the two words changed that tell place and code; the proof speaks of this one class, of a frame that has changed nothing yet, and says of the object what a catcher asks: its class, and that the machine keeps nothing in it. -/
def hn_new (X : String) (ix : Nat) (rx : ByteArray) (Y : String) (w : Cond) : Cond :=
  if w = .code (Bundle.initS X) Bundle.six 2 none then .code (Bundle.initS X) rx 2 none else if w = .methodLink X 7 (Bundle.initS Y) then .methodLink X ix (Bundle.initS Y) else w
def hn_atoms (own : String) (ic : Nat) (X : String) (ix : Nat) (rx : ByteArray) (names : List String) : List Cond := (Bundle.ownAtoms own ic X names).map (hn_new X ix rx (names.headD Bundle.tN))
def hn_at (own : String) (ic : Nat) (X : String) (ix : Nat) (rx : ByteArray) (names : List String) : List Cond := (hn_atoms own ic X ix rx names).filter vx_no
abbrev hn_E : String := "java/util/NoSuchElementException"
abbrev hn_F : String := "java/lang/RuntimeException"
abbrev hn_G : String := "java/lang/Exception"
/-- none of the two -/
def hn_same (w : Cond) : Bool := decide (w ≠ .code (Bundle.initS hn_E) Bundle.six 2 none) && decide (w ≠ .methodLink hn_E 7 (Bundle.initS hn_F))
section HNA
variable {s : State} {args : Array Value} {own : String} {ic ix : Nat} {rx : ByteArray}
theorem hn_keep {w : Cond} (h : hn_same w = true) : hn_new hn_E ix rx hn_F w = w := by
  rw [hn_same, Bool.and_eq_true, decide_eq_true_iff, decide_eq_true_iff] at h
  rw [hn_new, if_neg h.1, if_neg h.2]
theorem hn_old (h : ∀ w ∈ hn_atoms own ic hn_E ix rx [hn_F, hn_G], w.before args s = true) {w : Cond} (hw : w ∈ Bundle.ownAtoms own ic hn_E [hn_F, hn_G]) (hk : hn_same w = true) : w.before args s = true :=
  h w (List.mem_map.mpr ⟨w, hw, hn_keep hk⟩)
/-- a group of the library's words, by name -/
theorem hn_group (h : ∀ w ∈ hn_atoms own ic hn_E ix rx [hn_F, hn_G], w.before args s = true) {L : List Cond} (hL : ∀ w ∈ L, w ∈ Bundle.ownAtoms own ic hn_E [hn_F, hn_G]) (hk : L.all hn_same = true) : ∀ w ∈ L, w.before args s = true :=
  fun w hw => hn_old h (hL w hw) (List.all_eq_true.mp hk w hw)
theorem hn_code (h : ∀ w ∈ hn_atoms own ic hn_E ix rx [hn_F, hn_G], w.before args s = true) : (Cond.code (Bundle.initS hn_E) rx 2 none).before args s = true :=
  h _ (List.mem_map.mpr ⟨.code (Bundle.initS hn_E) Bundle.six 2 none, by simp [Bundle.ownAtoms, Bundle.chainSAtoms, Bundle.passSAtoms], if_pos rfl⟩)
theorem hn_up (h : ∀ w ∈ hn_atoms own ic hn_E ix rx [hn_F, hn_G], w.before args s = true) : (Cond.methodLink hn_E ix (Bundle.initS hn_F)).before args s = true :=
  h _ (List.mem_map.mpr ⟨.methodLink hn_E 7 (Bundle.initS hn_F), by simp [Bundle.ownAtoms, Bundle.chainSAtoms, Bundle.passSAtoms], (if_neg (by decide)).trans (if_pos rfl)⟩)
/-- the class's own constructor passes its text on -/
theorem hn_first {pl : Platform} (hpl : pl.magicAccessors = ({} : Platform).magicAccessors) (x0 : decode rx 0 = .ok (.aload_n 0, 1)) (x1 : decode rx 1 = .ok (.aload_n 1, 1)) (x2 : decode rx 2 = .ok (.invokespecial ix, 3)) (x5 : decode rx 5 = .ok (.return_, 1))
    (h : ∀ w ∈ hn_atoms own ic hn_E ix rx [hn_F, hn_G], w.before args s = true) : ∃ P : PassC, P.LinksS pl s ∧ s.methodNamed? (Bundle.initS hn_E) = some P.m ∧ s.methodNamed? (Bundle.initS hn_F) = some P.sup := by
  refine PassC.ofS_atoms (args := args) hpl (by decide) (by decide) x0 x1 x2 x5 fun w hw => ?_
  simp only [Bundle.passSAtoms, List.mem_cons, List.not_mem_nil, or_false] at hw
  rcases hw with rfl | rfl | rfl | rfl | rfl
  · exact hn_old h (by simp [Bundle.ownAtoms, Bundle.chainSAtoms, Bundle.passSAtoms]) (by decide +kernel)
  · exact hn_code h
  · exact hn_up h
  · exact hn_old h (by simp [Bundle.ownAtoms, Bundle.chainSAtoms, Bundle.passSAtoms]) (by decide +kernel)
  · exact hn_old h (by simp [Bundle.ownAtoms, Bundle.chainSAtoms, Bundle.passSAtoms]) (by decide +kernel)
/-- .. and so do those above it, up to Throwable's -/
theorem hn_chain {pl : Platform} (hpl : pl.magicAccessors = ({} : Platform).magicAccessors) (x0 : decode rx 0 = .ok (.aload_n 0, 1)) (x1 : decode rx 1 = .ok (.aload_n 1, 1)) (x2 : decode rx 2 = .ok (.invokespecial ix, 3)) (x5 : decode rx 5 = .ok (.return_, 1))
    {top : MethodId} (htop : s.methodNamed? (Bundle.initS Bundle.tN) = some top) (h : ∀ w ∈ hn_atoms own ic hn_E ix rx [hn_F, hn_G], w.before args s = true) :
    ∃ Ps : List PassC, Ps.length = 3 ∧ (∀ P ∈ Ps, P.LinksS pl s) ∧ s.methodNamed? (Bundle.initS hn_E) = some (firstOf top (Ps.map (·.toPassT))) ∧ PassesOn top (Ps.map (·.toPassT)) := by
  rcases hn_first hpl x0 x1 x2 x5 h with ⟨A, hA, nA, sA⟩
  rcases Bundle.chainS (args := args) hpl htop [hn_G] hn_F (by decide) (by decide) (hn_group h (fun w hw => by simp only [Bundle.ownAtoms, Bundle.chainSAtoms, List.mem_append]; exact Or.inl (Or.inr (Or.inr (by simpa only [Bundle.chainSAtoms, List.mem_append] using hw)))) (by decide +kernel)) with ⟨B, Qs, hQ, hB, hQs, nB, uB, pB⟩
  refine ⟨A :: B :: Qs, by rw [List.length_cons, List.length_cons, hQ]; rfl, fun P hP => ?_, nA, ⟨?_, uB, pB⟩⟩
  · cases hP with
    | head => exact hA
    | tail _ hP =>
      cases hP with
      | head => exact hB
      | tail _ hP => exact hQs P hP
  · rw [sA] at nB
    exact Option.some.inj nB
/-- a method of Throwable that is asked of an object of class C is Throwable's own -/
theorem hn_sel {l : Launch} {e : Env} (hl : l.admits e) {C : String} {cX : ClassId} {y : MethodName} {m : MethodId} (hX : s.vm.findClass C = some cX) (hy : s.methodNamed? y = some m) (hp : y.cls ≠ "java/lang/invoke/MethodHandle" ∧ y.cls ≠ "java/lang/invoke/VarHandle") (h : (Cond.selects C y y).before args s = true) : selectMethod e.platform s.vm cX m = .method m := by
  rcases Cond.selects_spec h with ⟨c, r, n, hc, hr, hn, hs, -⟩
  rw [hX] at hc
  rw [State.methodFound?_of_named hy hp] at hr
  rw [hy] at hn
  cases hc; cases hr; cases hn
  rw [Launch.admits_selectMethod hl, hs]
/-- two fields of other names lie at other places of the object -/
theorem hn_apart {C O O' n n' d d' : String} {cX c c' i i' : Nat} {kX k k' : Class} {f g : Field} (hX : s.vm.findClass C = some cX) (hk : s.vm.classes[cX]? = some kX) (hf : s.fieldFound? O n d = some (c, k, i, f)) (hg : s.fieldFound? O' n' d' = some (c', k', i', g))
    (wf : (Cond.lays C O n d).before args s = true) (wg : (Cond.lays C O' n' d').before args s = true) (hne : f.name ≠ g.name) : f.slot ≠ g.slot :=
  let ⟨_, _, a1, a2⟩ := Cond.laysAt hX hk hf wf
  let ⟨_, _, b1, b2⟩ := Cond.laysAt hX hk hg wg
  Cond.laysApart a1 b1 a2 b2 hne
/-- a new object has room for a field that its class lays, and takes what fits -/
theorem hn_takes {C O n d : String} {cX c i : Nat} {kX k : Class} {f : Field} {v : Value} (hX : s.vm.findClass C = some cX) (hk : s.vm.classes[cX]? = some kX) (ho : kX.kind = .ordinary) (hf : s.fieldFound? O n d = some (c, k, i, f)) (wf : (Cond.lays C O n d).before args s = true) (hv : fits f.type v = true) : Takes s (freshCell cX kX) f v :=
  Takes.of_laid hk ho (Cond.laysAt hX hk hf wf).1 hv
end HNA
section HNC
variable {p : Program} {l : Launch} {e : Env} {R : Room} {s : State} {m₀ : MethodId} {args : Array Value} {below : List Frame} {meth : Method} {c : Code} {W : State} {cells slots : Nat}
set_option maxHeartbeats 4000000 in
theorem hn_ctor (X : Stand p l e R s m₀ args below meth c W [] cells slots) (hexec : p.tables.exec = Jvm.exec) (htr : e.platform.stackTraces = false) {own : String} {ic ix : Nat} {rx : ByteArray}
    (x0 : decode rx 0 = .ok (.aload_n 0, 1)) (x1 : decode rx 1 = .ok (.aload_n 1, 1)) (x2 : decode rx 2 = .ok (.invokespecial ix, 3)) (x5 : decode rx 5 = .ok (.return_, 1))
    (hown : s.vm.findClass own = some m₀.cls) (h : ∀ w ∈ hn_atoms own ic hn_E ix rx [hn_F, hn_G], w.before args s = true)
    {a : Addr} {cX : ClassId} {kX : Class} (hX : s.vm.findClass hn_E = some cX) (hk : s.vm.classes[cX]? = some kX) (hcell : W.heap[a]? = some (freshCell cX kX)) (hnew : s.heap.size ≤ a) {msg : Value} (hmsg : msg.isRef = true)
    {g : JFrame} (hg : g.method = m₀) (hsize : g.locals.size = c.maxLocals) (hlocked : g.locked = none) (hentered : g.entered = []) {rest : List Value} (hstack : g.stack = msg :: .ref a :: .ref a :: rest)
    (di : decode c.code g.pc = .ok (.invokespecial ic, 3)) (dt : decode c.code (g.pc + 3) = .ok (.athrow, 1)) (hout : ∀ x ∈ c.exceptionTable.toList, covers x (g.pc + 3) = false)
    (hRf : 5 < R.frames) (hRl : 2 * g.monitorRoom + ((Value.ref a :: rest).map fun v => v.category).sum + 81 ≤ R.locals) (hlocks : meth.locks = false) :
    ∃ U : State, Steps p.tables e below (W.setTop g) U ∧ U.status = .running ∧ Ended U below (.threw a) ∧ s.WarmedH U.vm ∧ s.sameButNew ({ U with vm := s.vm } : State) [] cells slots ∧
      ∃ ce, U.heap[a]? = some ce ∧ s.vm.findClass hn_E = some ce.cls ∧ ce.vm = .none := by
  have hpf := X.admits.platform
  have hpl : e.platform.magicAccessors = ({} : Platform).magicAccessors := by rw [hpf]
  have word : ∀ w, w ∈ Bundle.ownAtoms own ic hn_E [hn_F, hn_G] → hn_same w = true → w.before args s = true := fun w h1 h2 => hn_old h h1 h2
  -- Throwable as the tables have it
  rcases ThrowableC.of_atoms (args := args) (s := s) (pl := e.platform) (by rw [hpf]) (by rw [hpf]) hpl (hn_group h (fun w hw => by simp [Bundle.ownAtoms, hw]) (by decide +kernel)) with ⟨T, Z0, hT, -, tie⟩
  rcases Init0T.ofS_atoms (args := args) hpl hT tie (hn_group h (fun w hw => by simp [Bundle.ownAtoms, hw]) (by decide +kernel)) with ⟨Z, M, hZ, hM, nZ⟩
  rcases hn_chain hpl x0 x1 x2 x5 nZ h with ⟨Ps, hlen, hPs, nE, pE⟩
  rcases tie.msg with ⟨jM, fM⟩
  have ho : kX.kind = .ordinary := by
    rcases Cond.instantiable_spec (word (.instantiable hn_E 6) (by simp [Bundle.ownAtoms]) (by decide +kernel)) with ⟨c1, k1, q1, q2, q3, -⟩
    rw [hX] at q1; cases q1
    rw [hk] at q2; cases q2
    exact q3
  -- where the object's fields lie
  have lC := word (.lays hn_E Bundle.tN "cause" "Ljava/lang/Throwable;") (by simp [Bundle.ownAtoms]) (by decide +kernel)
  have lS := word (.lays hn_E Bundle.tN "stackTrace" Bundle.steD) (by simp [Bundle.ownAtoms]) (by decide +kernel)
  have lP := word (.lays hn_E Bundle.tN "suppressedExceptions" Bundle.listD) (by simp [Bundle.ownAtoms]) (by decide +kernel)
  have lM := word (.lays hn_E Bundle.tN "detailMessage" "Ljava/lang/String;") (by simp [Bundle.ownAtoms]) (by decide +kernel)
  have lB := word (.lays hn_E Bundle.tN "backtrace" "Ljava/lang/Object;") (by simp [Bundle.ownAtoms]) (by decide +kernel)
  rcases Cond.ownField (t := .object "java/lang/Object") tie.found hT.cls (by decide +kernel) (word (.fieldLink Bundle.tN 198 Bundle.tN "backtrace" "Ljava/lang/Object;") (by simp [Bundle.ownAtoms]) (by decide +kernel)) (word (.lays Bundle.tN Bundle.tN "backtrace" "Ljava/lang/Object;") (by simp [Bundle.ownAtoms]) (by decide +kernel)) e.platform hpl with ⟨jc, jf, fB, b1, b2, b3, b4, -, bn, bt, fB'⟩
  have pC := hn_apart hX hk tie.cause fB' lC lB (by rw [tie.causeName, bn]; decide)
  have pS := hn_apart hX hk tie.stack fB' lS lB (by rw [tie.stackName, bn]; decide)
  have pP := hn_apart hX hk tie.supp fB' lP lB (by rw [tie.suppName, bn]; decide)
  -- Throwable's statics: this frame has changed nothing
  rcases tie.statics with ⟨z, hz, iz⟩
  have hzW : W.heap[T.aS]? = some z := by rw [(vx_frame X.same).2 _ (Array.getElem?_eq_some_iff.mp hz).1 (fun _ hq => nomatch hq)]; exact hz
  have hzu : z.vm ≠ .unknown := fun hu => by rw [hu] at iz; exact Bool.noConfusion iz
  rcases Cond.staticRefV tie.unassigned hT.unassignedStatic hT.statics hz iz (word (.isRef (.static Bundle.tN "UNASSIGNED_STACK" Bundle.steD)) (by simp [Bundle.ownAtoms]) (by decide +kernel)) with ⟨u0, hu0⟩
  rcases Cond.staticRefV tie.sentinel hT.sentinelStatic hT.statics hz iz (word (.isRef (.static Bundle.tN "SUPPRESSED_SENTINEL" Bundle.listD)) (by simp [Bundle.ownAtoms]) (by decide +kernel)) with ⟨sen, hsen⟩
  have hback : ((preparedCellV T.toThrowableT (freshCell cX kX) a u0 sen).withEntry W.cur).slots[fB.slot]? = some .null := by
    have h0 := fresh_default (c := cX) (Cond.laysAt hX hk fB' lB).1
    rw [bt, show defaultValue (.object "java/lang/Object") = Value.null from rfl] at h0
    simpa only [Cell.withEntry, Cell.setSlot, Array.getElem?_setIfInBounds_ne pC, Array.getElem?_setIfInBounds_ne pS, Array.getElem?_setIfInBounds_ne pP] using h0
  -- the constructor is called ..
  rcases Steps.initColdS (tb := p.tables) (e := e) (below := below) (s := s) (U := W) X.here hexec X.warmed hpl hown (t := Bundle.initS hn_E) rfl rfl (by decide) (word (.methodLink own ic (Bundle.initS hn_E)) (by simp [Bundle.ownAtoms]) (by rw [hn_same, Bool.and_eq_true, decide_eq_true_iff, decide_eq_true_iff]; exact ⟨(fun hq => nomatch hq), (fun hq => absurd (congrArg MethodName.cls (Cond.methodLink.inj hq).2.2) (by decide))⟩))
    (word (.instanceMethod (Bundle.initS hn_E)) (by simp [Bundle.ownAtoms, Bundle.chainSAtoms, Bundle.passSAtoms]) (by decide +kernel)) (hn_code h) (f := g) hg (a := a) (msg := msg) (rest := .ref a :: rest) hstack di with ⟨tm, _, _, _, v1, n1, -, -, -, -, -, -, -, w1, go1⟩
  have ht : tm = firstOf (Z.m T.toThrowableT) (Ps.map (·.toPassT)) := Option.some.inj (n1.symm.trans nE)
  -- .. and comes back
  rcases (X.noted w1).ctorMessageOffV hexec (g := { g with stack := .ref a :: rest }) hg hsize T hT Z hZ M hM Ps (fun P hP => hPs P hP) pE (u0 := u0) (sen := sen) (self := a) hmsg (cell := freshCell cX kX) (cellS := z) hcell (fun _ hq => nomatch hq) (fun hq => nomatch hq) rfl rfl
    (hn_sel X.admits hX tie.fill0 (by decide) (word (.selects hn_E Bundle.tFill0 Bundle.tFill0) (by simp [Bundle.ownAtoms]) (by decide +kernel))) (hn_sel X.admits hX tie.fill (by decide) (word (.selects hn_E Bundle.tFill Bundle.tFill) (by simp [Bundle.ownAtoms]) (by decide +kernel)))
    hzW (fun hq => Nat.not_lt.mpr hnew (hq ▸ (Array.getElem?_eq_some_iff.mp hz).1)) hzu hu0 hsen
    (hn_takes hX hk ho tie.cause lC (by rw [tie.causeType]; rfl)) (hn_takes hX hk ho tie.stack lS (by rw [tie.stackType]; exact fits_refV_array _ u0)) (hn_takes hX hk ho tie.supp lP (by rw [tie.suppType]; exact fits_refV_object _ sen)) (hn_takes hX hk ho fM lM (by rw [tie.msgType]; exact fits_refV_object _ ⟨msg, hmsg⟩))
    tie.objLocals ⟨{ ci198 := jc, i198 := jf, fBack := fB }, ⟨b1, b2, b3, b4⟩, hback, fun _ _ => rfl⟩ htr [] di (by rw [hlen]; exact hRf) (by rw [hlen]; exact hRl) with ⟨v2, X2, go2⟩
  -- the throw leaves the method
  rcases X2.athrowLeaves hexec (g := { g with stack := .ref a :: rest, pc := g.pc + 3 }) hg hlocked hentered hout (a := a) (rest := rest) rfl dt hlocks with ⟨leave, run, done, warm, same⟩
  refine ⟨_, go1 _ fun acts => ?_, run, done, warm, same.weaken (fun y hy hlt => ?_) (Nat.le_refl _) (Nat.le_refl _), _, heapAt_setCell_self _ (Array.getElem?_eq_some_iff.mp hcell).1, hX, rfl⟩
  · rw [ht, doInvoke_state]
    exact go2 _ leave
  · have hy' : y.base = a := by
      simp only [List.nil_append, List.mem_cons, List.not_mem_nil, or_false] at hy
      rcases hy with rfl | rfl | rfl | rfl | rfl <;> rfl
    exact absurd (hy' ▸ hlt) (Nat.not_lt.mpr hnew)
end HNC
section HNT
variable {p : Program} {l : Launch} {e : Env} {R : Room} {s : State} {m : MethodId} {args : Array Value} {below : List Frame} {meth : Method} {c : Code} {H : Heap} {locs : List Loc} {cells slots : Nat} {Q : State → Prop}
variable {mc ms : Nat} {free : Addr → Prop} {A0 A1 : Nat → Prop} {H0 : Heap} {a : Array Value} {ls : Array Slot} {st0 rest : List Value}
variable {Qc : Array Value → State → Outcome → State → Prop} {XC : String → State → State → Prop}

set_option maxHeartbeats 4000000 in
theorem hn_throwS {cc : ByteArray} {pc : Nat} (hexec : p.tables.exec = Jvm.exec) (hb : c.code = cc) (hl : l.stackTraces = false) {own text : String} {ik is ic mc ms sa : Nat} {A : Nat → Prop} {ix : Nat} {rx : ByteArray} (x0 : decode rx 0 = .ok (.aload_n 0, 1)) (x1 : decode rx 1 = .ok (.aload_n 1, 1)) (x2 : decode rx 2 = .ok (.invokespecial ix, 3)) (x5 : decode rx 5 = .ok (.return_, 1))
    (hown : s.vm.findClass own = some m.cls)
    (hk : (Cond.classLink own ik hn_E).before args s = true) (hini : (Cond.initialized hn_E).before args s = true) (hstr : vk_R own is text sa s) (hat : ∀ w ∈ hn_at own ic hn_E ix rx [hn_F, hn_G], w.before args s = true)
    (hgood : ∀ w ∈ Cond.classLink own ik hn_E :: Cond.initialized hn_E :: hn_at own ic hn_E ix rx [hn_F, hn_G], vx_ot w = true)
    (hU : vx_Zq Bundle.tN "UNASSIGNED_STACK" Bundle.steD A s s.heap) (hN : vx_Zq Bundle.tN "SUPPRESSED_SENTINEL" Bundle.listD A s s.heap) (hS : va_S A s.heap H locs) (hsize : ls.size = c.maxLocals)
    (d0 : decode cc pc = .ok (.new ik, 3)) (d3 : decode cc (pc + 3) = .ok (.dup, 1)) (d4 : decode cc (pc + 4) = .ok (.ldc is, 2)) (d6 : decode cc (pc + 6) = .ok (.invokespecial ic, 3)) (d9 : decode cc (pc + 9) = .ok (.athrow, 1))
    (hout : ∀ x ∈ c.exceptionTable.toList, covers x (pc + 9) = false)
    (hRframes : 5 < R.frames) (hRlocals : (rest.map fun v => v.category).sum + (82) ≤ R.locals) (hRcells : cells + 1 ≤ R.cells) (hRslots : slots + 6 ≤ R.slots) (hlocks : meth.locks = false)
    (hx : ∀ t : State, s.vm.Alike t.vm → H.size ≤ t.heap.size → (∀ q : Nat, q < H.size → t.heap[q]? = H[q]?) → XC hn_E s t)
    (hf : ∀ z ∈ locs, free z.base) (hc : cells + 1 ≤ mc) (hs : slots + 6 ≤ ms) :
    W p l e R s m args below meth c H locs cells slots (vx_MQ below Qc XC args s mc ms free) (F0 m pc ls rest) := by
  intro T hT X
  have htr : e.platform.stackTraces = false := (show e.platform.stackTraces = l.stackTraces by rw [X.admits.platform]).trans hl
  have Y := vx_rebase X (R' := { frames := R.frames, locals := R.locals, cells := 1, slots := 6 }) (Nat.le_refl _) (Nat.le_refl _) hRcells hRslots
  obtain ⟨s', hA⟩ : ∃ z, z = (T.setVm s.vm).setFrames (.invoking m args :: below) := ⟨_, rfl⟩
  rw [← hA] at Y
  have hvm : s'.vm = s.vm := by rw [hA]; rfl
  have hhp : s'.heap = H := by rw [hA]; exact hT
  have hW0 : s.WarmedH s'.vm := by rw [hvm]; exact State.WarmedH.refl s
  have hat' : ∀ w ∈ hn_at own ic hn_E ix rx [hn_F, hn_G], w.before args s' = true := fun w hw => vx_ot_at hW0 hvm.symm (hgood w (List.mem_cons_of_mem _ (List.mem_cons_of_mem _ hw))) (hat w hw)
  have hk' : (Cond.classLink own ik hn_E).before args s' = true := vx_ot_at hW0 hvm.symm (hgood _ List.mem_cons_self) hk
  have hini' : (Cond.initialized hn_E).before args s' = true := vx_ot_at hW0 hvm.symm (hgood _ (List.mem_cons_of_mem _ List.mem_cons_self)) hini
  have hU' : vx_Zq Bundle.tN "UNASSIGNED_STACK" Bundle.steD A s' s'.heap := by rw [hhp]; exact vx_Zq.moved hW0.alike (hU.kept hS.2.1)
  have hN' : vx_Zq Bundle.tN "SUPPRESSED_SENTINEL" Bundle.listD A s' s'.heap := by rw [hhp]; exact vx_Zq.moved hW0.alike (hN.kept hS.2.1)
  have h : ∀ w ∈ hn_atoms own ic hn_E ix rx [hn_F, hn_G], w.before args s' = true := vx_own hat' (vx_isRefq hU'.1) (vx_isRefq hN'.1) hU'.2.word hN'.2.word
  have hown' : s'.vm.findClass own = some m.cls := by rw [hvm]; exact hown
  have hins : (Cond.instantiable hn_E 6).before args s' = true := hn_old h (by simp [Bundle.ownAtoms]) (by decide +kernel)
  obtain ⟨vm₁, cX, kX, hfX, hkX, -, -, X₁, st1⟩ := Y.newCold hexec (own := own) (C := hn_E) (index := ik) (n := 6) hown' hk' hins hini'
    (g := F0 m pc ls rest) rfl (by rw [hb]; exact d0) (Nat.le_refl _) (Nat.le_refl _)
  generalize hT1 : (T.setVm vm₁).pushCell { cls := cX, slots := kX.instanceTypes.map defaultValue, vm := .none } = T1 at X₁ st1
  have hcat : (Value.ref T.heap.size).category = 1 := rfl
  have hcellA : T1.heap[T.heap.size]? = some (freshCell cX kX) := by rw [← hT1]; exact State.heap_pushCell_size _ _
  have d3' : decode c.code (pc + 3) = .ok (.dup, 1) := by rw [hb]; exact d3
  have d4' : decode c.code (pc + 4) = .ok (.ldc is, 2) := by rw [hb]; exact d4
  have hstr' : vk_R own is text sa s' := vk_R.warm hW0 hstr
  obtain ⟨U, hsteps, hrun, hend, hW, hsame, ce, hce, hOc, hOv⟩ := hn_ctor X₁ hexec htr (own := own) (ic := ic) x0 x1 x2 x5 hown' h hfX hkX hcellA (by rw [hhp, hT]; exact Nat.le_refl _) (msg := .ref sa) rfl
    (g := { method := m, pc := pc + 6, locals := ls, stack := .ref sa :: .ref T.heap.size :: .ref T.heap.size :: rest, locked := none }) rfl hsize rfl rfl (rest := rest) rfl
    (by rw [hb]; exact d6) (by rw [hb]; exact d9) hout hRframes (by simp only [List.map_cons, List.sum_cons, hcat]; omega) hlocks
  obtain ⟨f1, f2⟩ := vx_frame hsame
  rw [hhp] at f1 f2
  have hWs : s.WarmedH U.vm := State.WarmedH.trans hW0 hW
  have hcl : s.vm.findClass hn_E = some ce.cls := by
    have h9 := hOc
    rw [hvm] at h9
    exact h9
  have hall : s.sameButNew ({ U with vm := s.vm } : State) locs mc ms := by
    subst hA
    obtain ⟨e1, e2⟩ := hsame
    rw [State.setFrames_setFrames] at e1
    have h2 : (T.setVm s.vm).sameButNew ({ U with vm := s.vm } : State) [] (0 + 1) (0 + 6) := ⟨e1, e2⟩
    have h3 := X.same.trans h2
    rw [List.append_nil] at h3
    exact h3.mono hc hs
  refine ⟨U, ?_, .threw T.heap.size, hrun, hend, Or.inr ⟨T.heap.size, rfl, hn_E, ce, locs, hx U hWs.alike f1 (fun q hq => f2 q hq (fun z hz => nomatch hz)), hce, hOv, hcl, hWs, hall, hf⟩⟩
  refine st1 _ ?_
  show Steps p.tables e below (T1.setTop { method := m, pc := pc + 3, locals := ls, stack := .ref T.heap.size :: rest, locked := none }) _
  jvm_step X₁.here [X₁.here.top, hexec, d3', Value.category]
  exact X₁.ldcString hexec (own := own) (text := text) (index := is) (a := sa) hown' hstr'.1 hstr'.2
    (g := { method := m, pc := pc + 4, locals := ls, stack := .ref T.heap.size :: .ref T.heap.size :: rest, locked := none }) rfl d4' _ hsteps
set_option maxHeartbeats 4000000 in
theorem hn_throwSW {cc : ByteArray} {pc : Nat} (hexec : p.tables.exec = Jvm.exec) (hb : c.code = cc) (hl : l.stackTraces = false) {own text : String} {ik is ic mc ms sa : Nat} {A : Nat → Prop} {ix : Nat} {rx : ByteArray} (x0 : decode rx 0 = .ok (.aload_n 0, 1)) (x1 : decode rx 1 = .ok (.aload_n 1, 1)) (x2 : decode rx 2 = .ok (.invokespecial ix, 3)) (x5 : decode rx 5 = .ok (.return_, 1))
    (hown : s.vm.findClass own = some m.cls)
    (hk : (Cond.classLink own ik hn_E).before args s = true) (hini : (Cond.initialized hn_E).before args s = true) (hstr : vk_R own is text sa s) (hat : ∀ w ∈ hn_at own ic hn_E ix rx [hn_F, hn_G], w.before args s = true)
    (hgood : ∀ w ∈ Cond.classLink own ik hn_E :: Cond.initialized hn_E :: hn_at own ic hn_E ix rx [hn_F, hn_G], vx_ot w = true)
    (hU : vx_Zq Bundle.tN "UNASSIGNED_STACK" Bundle.steD A s s.heap) (hN : vx_Zq Bundle.tN "SUPPRESSED_SENTINEL" Bundle.listD A s s.heap) (hS : va_S A s.heap H locs) (hsize : ls.size = c.maxLocals)
    (d0 : decode cc pc = .ok (.new ik, 3)) (d3 : decode cc (pc + 3) = .ok (.dup, 1)) (d4 : decode cc (pc + 4) = .ok (.ldc_w is, 3)) (d7 : decode cc (pc + 7) = .ok (.invokespecial ic, 3)) (d10 : decode cc (pc + 10) = .ok (.athrow, 1))
    (hout : ∀ x ∈ c.exceptionTable.toList, covers x (pc + 10) = false)
    (hRframes : 5 < R.frames) (hRlocals : (rest.map fun v => v.category).sum + (82) ≤ R.locals) (hRcells : cells + 1 ≤ R.cells) (hRslots : slots + 6 ≤ R.slots) (hlocks : meth.locks = false)
    (hx : ∀ t : State, s.vm.Alike t.vm → H.size ≤ t.heap.size → (∀ q : Nat, q < H.size → t.heap[q]? = H[q]?) → XC hn_E s t)
    (hf : ∀ z ∈ locs, free z.base) (hc : cells + 1 ≤ mc) (hs : slots + 6 ≤ ms) :
    W p l e R s m args below meth c H locs cells slots (vx_MQ below Qc XC args s mc ms free) (F0 m pc ls rest) := by
  intro T hT X
  have htr : e.platform.stackTraces = false := (show e.platform.stackTraces = l.stackTraces by rw [X.admits.platform]).trans hl
  have Y := vx_rebase X (R' := { frames := R.frames, locals := R.locals, cells := 1, slots := 6 }) (Nat.le_refl _) (Nat.le_refl _) hRcells hRslots
  obtain ⟨s', hA⟩ : ∃ z, z = (T.setVm s.vm).setFrames (.invoking m args :: below) := ⟨_, rfl⟩
  rw [← hA] at Y
  have hvm : s'.vm = s.vm := by rw [hA]; rfl
  have hhp : s'.heap = H := by rw [hA]; exact hT
  have hW0 : s.WarmedH s'.vm := by rw [hvm]; exact State.WarmedH.refl s
  have hat' : ∀ w ∈ hn_at own ic hn_E ix rx [hn_F, hn_G], w.before args s' = true := fun w hw => vx_ot_at hW0 hvm.symm (hgood w (List.mem_cons_of_mem _ (List.mem_cons_of_mem _ hw))) (hat w hw)
  have hk' : (Cond.classLink own ik hn_E).before args s' = true := vx_ot_at hW0 hvm.symm (hgood _ List.mem_cons_self) hk
  have hini' : (Cond.initialized hn_E).before args s' = true := vx_ot_at hW0 hvm.symm (hgood _ (List.mem_cons_of_mem _ List.mem_cons_self)) hini
  have hU' : vx_Zq Bundle.tN "UNASSIGNED_STACK" Bundle.steD A s' s'.heap := by rw [hhp]; exact vx_Zq.moved hW0.alike (hU.kept hS.2.1)
  have hN' : vx_Zq Bundle.tN "SUPPRESSED_SENTINEL" Bundle.listD A s' s'.heap := by rw [hhp]; exact vx_Zq.moved hW0.alike (hN.kept hS.2.1)
  have h : ∀ w ∈ hn_atoms own ic hn_E ix rx [hn_F, hn_G], w.before args s' = true := vx_own hat' (vx_isRefq hU'.1) (vx_isRefq hN'.1) hU'.2.word hN'.2.word
  have hown' : s'.vm.findClass own = some m.cls := by rw [hvm]; exact hown
  have hins : (Cond.instantiable hn_E 6).before args s' = true := hn_old h (by simp [Bundle.ownAtoms]) (by decide +kernel)
  obtain ⟨vm₁, cX, kX, hfX, hkX, -, -, X₁, st1⟩ := Y.newCold hexec (own := own) (C := hn_E) (index := ik) (n := 6) hown' hk' hins hini'
    (g := F0 m pc ls rest) rfl (by rw [hb]; exact d0) (Nat.le_refl _) (Nat.le_refl _)
  generalize hT1 : (T.setVm vm₁).pushCell { cls := cX, slots := kX.instanceTypes.map defaultValue, vm := .none } = T1 at X₁ st1
  have hcat : (Value.ref T.heap.size).category = 1 := rfl
  have hcellA : T1.heap[T.heap.size]? = some (freshCell cX kX) := by rw [← hT1]; exact State.heap_pushCell_size _ _
  have d3' : decode c.code (pc + 3) = .ok (.dup, 1) := by rw [hb]; exact d3
  have d4' : decode c.code (pc + 4) = .ok (.ldc_w is, 3) := by rw [hb]; exact d4
  have hstr' : vk_R own is text sa s' := vk_R.warm hW0 hstr
  obtain ⟨U, hsteps, hrun, hend, hW, hsame, ce, hce, hOc, hOv⟩ := hn_ctor X₁ hexec htr (own := own) (ic := ic) x0 x1 x2 x5 hown' h hfX hkX hcellA (by rw [hhp, hT]; exact Nat.le_refl _) (msg := .ref sa) rfl
    (g := { method := m, pc := pc + 7, locals := ls, stack := .ref sa :: .ref T.heap.size :: .ref T.heap.size :: rest, locked := none }) rfl hsize rfl rfl (rest := rest) rfl
    (by rw [hb]; exact d7) (by rw [hb]; exact d10) hout hRframes (by simp only [List.map_cons, List.sum_cons, hcat]; omega) hlocks
  obtain ⟨f1, f2⟩ := vx_frame hsame
  rw [hhp] at f1 f2
  have hWs : s.WarmedH U.vm := State.WarmedH.trans hW0 hW
  have hcl : s.vm.findClass hn_E = some ce.cls := by
    have h9 := hOc
    rw [hvm] at h9
    exact h9
  have hall : s.sameButNew ({ U with vm := s.vm } : State) locs mc ms := by
    subst hA
    obtain ⟨e1, e2⟩ := hsame
    rw [State.setFrames_setFrames] at e1
    have h2 : (T.setVm s.vm).sameButNew ({ U with vm := s.vm } : State) [] (0 + 1) (0 + 6) := ⟨e1, e2⟩
    have h3 := X.same.trans h2
    rw [List.append_nil] at h3
    exact h3.mono hc hs
  refine ⟨U, ?_, .threw T.heap.size, hrun, hend, Or.inr ⟨T.heap.size, rfl, hn_E, ce, locs, hx U hWs.alike f1 (fun q hq => f2 q hq (fun z hz => nomatch hz)), hce, hOv, hcl, hWs, hall, hf⟩⟩
  refine st1 _ ?_
  show Steps p.tables e below (T1.setTop { method := m, pc := pc + 3, locals := ls, stack := .ref T.heap.size :: rest, locked := none }) _
  jvm_step X₁.here [X₁.here.top, hexec, d3', Value.category]
  exact X₁.ldcStringW hexec (own := own) (text := text) (index := is) (a := sa) hown' hstr'.1 hstr'.2
    (g := { method := m, pc := pc + 4, locals := ls, stack := .ref T.heap.size :: .ref T.heap.size :: rest, locked := none }) rfl d4' _ hsteps
end HNT

/-! The world of numbered cells: cell k lies at the address ad k and holds b k (σ k); the references between the cells never change, so a state is σ alone. -/
abbrev hSt : Type := Nat → Nat → Int32
def hup (σ : hSt) (k j : Nat) (v : Int32) : hSt := fun a => if a = k then upd (σ k) j v else σ a
theorem hup_s (σ : hSt) (k j : Nat) (v : Int32) : hup σ k j v k = upd (σ k) j v := by simp [hup]
theorem hup_n (σ : hSt) {k i : Nat} (j : Nat) (v : Int32) (h : i ≠ k) : hup σ k j v i = σ i := by simp [hup, h]
abbrev hCell : Type := Nat → (Nat → Int32) → va_E
def hC (N : Nat) (ad : Nat → Nat) (b : hCell) (σ : hSt) : va_W := (List.range N).map (fun k => (ad k, b k (σ k)))
theorem hC_get {N k : Nat} {ad : Nat → Nat} {b : hCell} {σ : hSt} (hk : k < N) : (hC N ad b σ)[k]? = some (ad k, b k (σ k)) := by simp [hC, hk]
theorem hC_inv {N k : Nat} {ad : Nat → Nat} {b : hCell} {σ : hSt} {q : Nat × va_E} (h : (hC N ad b σ)[k]? = some q) : k < N ∧ q = (ad k, b k (σ k)) := by
  by_cases hk : k < N
  · rw [hC_get hk] at h
    exact ⟨hk, (Option.some.inj h).symm⟩
  · simp [hC, hk] at h
theorem hC_len {N : Nat} {ad : Nat → Nat} {b : hCell} {σ : hSt} : (hC N ad b σ).length = N := by simp [hC]
theorem hC_set {N k : Nat} {ad : Nat → Nat} {b : hCell} {σ : hSt} {j : Nat} {v : Int32} {e : va_E} (hk : k < N) (he : b k (upd (σ k) j v) = e) : (hC N ad b σ).set k (ad k, e) = hC N ad b (hup σ k j v) := by
  apply List.ext_getElem?
  intro i
  by_cases hi : i = k
  · subst hi
    rw [hC_get hk, hup_s, he, List.getElem?_set_self (by rw [hC_len]; exact hk)]
  · rw [List.getElem?_set_ne (fun h => hi h.symm)]
    by_cases hN : i < N
    · rw [hC_get hN, hC_get hN, hup_n _ _ _ hi]
    · simp [hC, hN]
/-- the addresses are apart -/
def hJ (N : Nat) (ad : Nat → Nat) : Prop := ∀ i j : Nat, i < N → j < N → ad i = ad j → i = j
def hA (N : Nat) (ad : Nat → Nat) (sz : Nat) : Nat → Prop := fun q => (∃ k, k < N ∧ q = ad k) ∨ sz ≤ q
theorem hA_le {N : Nat} {ad : Nat → Nat} {a b q : Nat} (h : a ≤ b) (hq : hA N ad b q) : hA N ad a q := hq.elim Or.inl (fun z => Or.inr (Nat.le_trans h z))
theorem hD_of {N : Nat} {ad : Nat → Nat} {b : hCell} {σ : hSt} {sz : Nat} (h : hJ N ad) : va_D (hA N ad sz) (hC N ad b σ) := by
  refine ⟨fun i j p q hp hq e => ?_, fun k q hq => ?_⟩
  · obtain ⟨h1, rfl⟩ := hC_inv hp
    obtain ⟨h2, rfl⟩ := hC_inv hq
    exact h i j h1 h2 e
  · obtain ⟨h1, rfl⟩ := hC_inv hq
    exact Or.inl ⟨k, h1, rfl⟩
/-- the kinds of arrays: int, byte, Method, long, boolean -/
def hty (cy : Nat → ClassId) : List (ClassId × FieldType) := [(cy 0, .int), (cy 1, .byte), (cy 2, .object "BellTower$Method"), (cy 3, .long), (cy 4, .boolean)]
/-- calls of nest mates, and abstract methods: what the tables say -/
def hnl : List (String × Nat × MethodName × String) := [("BellTower$Book", 34, yX11_oneIf, "BellTower"), ("BellTower$CompositionText", 57, yX11_cell, "BellTower"), ("BellTower$CompositionText", 89, yX11_setCell, "BellTower"), ("BellTower$Method", 37, yX11_cell, "BellTower"), ("BellTower$Method", 41, yX11_setCell, "BellTower"), ("BellTower$Plan", 58, yX11_setCell, "BellTower"), ("BellTower$Plan", 80, yX11_cell, "BellTower"), ("BellTower$Plan", 87, yX11_oneIf, "BellTower"), ("BellTower$Search", 29, yX11_cell, "BellTower"), ("BellTower$Search", 58, yX11_setCell, "BellTower"), ("BellTower$Seen", 32, yX11_cell, "BellTower"), ("BellTower$Seen", 36, yX11_setCell, "BellTower"), ("BellTower", 232, yX4_init, "BellTower"), ("BellTower", 21, yX8_init, "BellTower"), ("BellTower", 24, yX9_init, "BellTower"), ("BellTower", 39, yX3_init, "BellTower"), ("BellTower$Book", 17, yX2_init, "BellTower"), ("BellTower$CompositionText", 3, yX10_init, "BellTower"), ("BellTower$MethodText", 11, yX2_init, "BellTower"), ("BellTower$MethodText", 3, yX10_init, "BellTower")]
def hdl : List MethodName := [⟨"BellTower$Text", "isDigit", "(I)Z"⟩, ⟨"BellTower$Text", "kind", "()I"⟩, ⟨"BellTower$Text", "place", "()I"⟩, ⟨"BellTower$Text", "readThrough", "(LBellTower$Tape;)Z"⟩, ⟨"BellTower$Text", "refuse", "(II)V"⟩, ⟨"BellTower$Text", "takeDigit", "(IZI)V"⟩, ⟨"BellTower$Text", "takeDigitsEnd", "(I)V"⟩, ⟨"BellTower$Text", "takeSign", "(II)V"⟩]
def hN_ (U : State) : Prop := (∀ q ∈ hnl, va_Nw (.methodLinkNest q.1 q.2.1 q.2.2.1 q.2.2.2) U) ∧ ∀ x ∈ hdl, va_Nw (.declares x) U
theorem hN_.at {U : State} (h : hN_ U) (i : Nat) {o : String} {n : Nat} {y : MethodName} {t : String} (hi : hnl[i]? = some (o, n, y, t)) : va_Nw (.methodLinkNest o n y t) U := h.1 _ (List.mem_of_getElem? hi)
theorem hN_.dc {U : State} (h : hN_ U) (i : Nat) {x : MethodName} (hi : hdl[i]? = some x) : va_Nw (.declares x) U := h.2 _ (List.mem_of_getElem? hi)
theorem hN_.warm {s U : State} (hW : s.WarmedH U.vm) (h : hN_ s) : hN_ U := ⟨fun q hq => va_Nw.warmM hW (h.1 q hq), fun x hx => va_Nw.warmD hW (h.2 x hx)⟩
theorem hN_.calling {U : State} {g : JFrame} {mk : MethodId} {a : Array Value} (h : hN_ U) : hN_ (U.calling g mk a) :=
  ⟨fun q hq => va_tabs (A := #[]) (by first | rfl | simp [Cond.onTables, Cond.keeps, Cond.steady]) rfl (h.1 q hq), fun x hx => va_tabs (A := #[]) (by first | rfl | simp [Cond.onTables, Cond.keeps, Cond.steady]) rfl (h.2 x hx)⟩
/-- a method's start, and its end -/
def hB (D : va_G) (cy : Nat → ClassId) (ws : va_W) (sz : Nat) : State → Prop := fun U => U.heap.size = sz ∧ va_P D vwCl ws U.heap ∧ va_K D vwCl (hty cy) U ∧ hN_ U
def hE {S : Type} (D : va_G) (ws : S → va_W) : S → State → Prop := fun u t => va_P D vwCl (ws u) t.heap
theorem hB_blind {D : va_G} {cy : Nat → ClassId} {ws : va_W} {sz : Nat} {av : List Value} : FrameBlind (va_Pc av (hB D cy ws sz)) := fun a U g mk q => by
  obtain ⟨q0, q1, qP, qK, qN⟩ := q
  exact ⟨q0, q1, qP, va_K.moved (u := U) (U := U.calling g mk a) (Vm.Alike.refl U.vm) qK, qN.calling⟩
section HROW
variable {p : Program} {l : Launch} {e : Env} {R : Room} {s : State} {m : MethodId} {args : Array Value} {below : List Frame} {meth : Method} {c : Code} {H : Heap} {locs : List Loc} {cells slots : Nat} {Q : State → Prop}
variable {cc : ByteArray} {pc : Nat} {ls : Array Slot} {rest : List Value} {D : va_G} {cy : Nat → ClassId} {N : Nat} {ad : Nat → Nat} {b : hCell} {σ : hSt} {H0 : Heap}
theorem hw_get (hexec : p.tables.exec = Jvm.exec) (hb : c.code = cc) {own ref C : String} {T : u_T} {n ci index : Nat} {Ts : List Cond} (hts : ∀ w ∈ Ts, w.before args s = true) (hin : ∀ w ∈ u_ws C T n, w ∈ Ts) (hown : s.vm.findClass own = some m.cls) (hK : va_K D vwCl (hty cy) s) (hP : va_P D vwCl (hC N ad b σ) H) {k : Nat} (hk : k < N) {fs : List Value} (he : b k (σ k) = .inr (ci, fs)) (hc : vwCl[ci]? = some (C, T, n)) (j : Nat) (hj : j < n) (hlink : Cond.fieldLink own index ref (T j).2.1 (T j).2.2.1 ∈ Ts) (href : (T j).1 = ref) {v : Value} (hv : fs[j]? = some v) (hdg : decode cc pc = .ok (.getfield index, 3))
    (kk : W p l e R s m args below meth c H locs cells slots Q (F0 m (pc + 3) ls (v :: rest))) : W p l e R s m args below meth c H locs cells slots Q (F0 m pc ls (.ref (ad k) :: rest)) :=
  va_get hexec hb hts hin hown hK hP k (by rw [hC_get hk, he]) hc j hj (hts _ hlink) (fun x h => by rw [← href]; exact h) hv hdg kk
theorem hw_put (hexec : p.tables.exec = Jvm.exec) (hb : c.code = cc) {own ref C : String} {T : u_T} {n ci index : Nat} {Ts : List Cond} (hts : ∀ w ∈ Ts, w.before args s = true) (hin : ∀ w ∈ u_ws C T n, w ∈ Ts) (ty0 : Nat → FieldType) (hty0 : ∀ k, k < n → parseFieldDescriptor (T k).2.2.1 = some (ty0 k)) (hnm : ∀ a, a < n → ∀ b, b < n → a ≠ b → (T a).2.1 ≠ (T b).2.1) (hown : s.vm.findClass own = some m.cls) (hK : va_K D vwCl (hty cy) s) (hJ0 : hJ N ad) (hP : va_P D vwCl (hC N ad b σ) H) (hS : va_S (hA N ad H0.size) H0 H locs) {k : Nat} (hk : k < N) {fs : List Value} (he : b k (σ k) = .inr (ci, fs)) (hc : vwCl[ci]? = some (C, T, n)) (j : Nat) (hj : j < n) (hlink : Cond.fieldLink own index ref (T j).2.1 (T j).2.2.1 ∈ Ts) (href : (T j).1 = ref) (hfin : (T j).2.2.2 = false) {x : Int32} (hn : narrow (ty0 j) (.int x) = .int x) (hfit : fits (ty0 j) (.int x) = true) (hl : j < fs.length) (hnew : b k (upd (σ k) j x) = .inr (ci, fs.set j (.int x))) (hdg : decode cc pc = .ok (.putfield index, 3))
    (kk : ∀ (H1 : Heap) (locs1 : List Loc), va_P D vwCl (hC N ad b (hup σ k j x)) H1 → va_S (hA N ad H0.size) H0 H1 locs1 → W p l e R s m args below meth c H1 locs1 cells slots Q (F0 m (pc + 3) ls rest)) : W p l e R s m args below meth c H locs cells slots Q (F0 m pc ls (.int x :: .ref (ad k) :: rest)) :=
  va_put (v := .int x) hexec hb hts hin ty0 hty0 hnm hown hK hP (hD_of hJ0) hS k (by rw [hC_get hk, he]) hc j hj (hts _ hlink) (fun x h => by rw [← href]; exact h) hfin (hty0 j hj) hn hfit hl hdg (fun H1 locs1 h1 _ h3 => kk H1 locs1 (by rw [hC_set hk hnew] at h1; exact h1) h3)
theorem hw_iald (hexec : p.tables.exec = Jvm.exec) (hb : c.code = cc) (hK : va_K D vwCl (hty cy) s) (hP : va_P D vwCl (hC N ad b σ) H) {k : Nat} (hk : k < N) {n : Nat} {f : Nat → Int32} (he : b k (σ k) = .inl (cy 0, n, .inl f)) {i : Int32} (hin : vp_in i n) (hdg : decode cc pc = .ok (.iaload, 1))
    (kk : W p l e R s m args below meth c H locs cells slots Q (F0 m (pc + 1) ls (.int (f i.toNatClampNeg) :: rest))) : W p l e R s m args below meth c H locs cells slots Q (F0 m pc ls (.int i :: .ref (ad k) :: rest)) :=
  va_iald hexec hb hK hP k 0 (by rw [hC_get hk, he]) rfl hin hdg kk
theorem hw_bald (hexec : p.tables.exec = Jvm.exec) (hb : c.code = cc) (hK : va_K D vwCl (hty cy) s) (hP : va_P D vwCl (hC N ad b σ) H) {k : Nat} (hk : k < N) {n : Nat} {f : Nat → Int32} (he : b k (σ k) = .inl (cy 1, n, .inl f)) {i : Int32} (hin : vp_in i n) (hdg : decode cc pc = .ok (.baload, 1))
    (kk : W p l e R s m args below meth c H locs cells slots Q (F0 m (pc + 1) ls (.int (f i.toNatClampNeg) :: rest))) : W p l e R s m args below meth c H locs cells slots Q (F0 m pc ls (.int i :: .ref (ad k) :: rest)) :=
  va_bald hexec hb hK hP k 1 (by rw [hC_get hk, he]) rfl hin hdg kk
theorem hw_zald (hexec : p.tables.exec = Jvm.exec) (hb : c.code = cc) (hK : va_K D vwCl (hty cy) s) (hP : va_P D vwCl (hC N ad b σ) H) {k : Nat} (hk : k < N) {n : Nat} {f : Nat → Int32} (he : b k (σ k) = .inl (cy 4, n, .inl f)) {i : Int32} (hin : vp_in i n) (hdg : decode cc pc = .ok (.baload, 1))
    (kk : W p l e R s m args below meth c H locs cells slots Q (F0 m (pc + 1) ls (.int (f i.toNatClampNeg) :: rest))) : W p l e R s m args below meth c H locs cells slots Q (F0 m pc ls (.int i :: .ref (ad k) :: rest)) :=
  va_zald hexec hb hK hP k 4 (by rw [hC_get hk, he]) rfl hin hdg kk
theorem hw_aald (hexec : p.tables.exec = Jvm.exec) (hb : c.code = cc) (hK : va_K D vwCl (hty cy) s) (hP : va_P D vwCl (hC N ad b σ) H) {k : Nat} (hk : k < N) {n : Nat} {f : Nat → Option Nat} (he : b k (σ k) = .inl (cy 2, n, .inr (.inr (.inr (.inr f))))) {i : Int32} (hin : vp_in i n) (hdg : decode cc pc = .ok (.aaload, 1))
    (kk : W p l e R s m args below meth c H locs cells slots Q (F0 m (pc + 1) ls (va_rf (f i.toNatClampNeg) :: rest))) : W p l e R s m args below meth c H locs cells slots Q (F0 m pc ls (.int i :: .ref (ad k) :: rest)) :=
  va_aldq hexec hb hK hP k 2 (by rw [hC_get hk, he]) rfl hin hdg kk
theorem hw_iast (hexec : p.tables.exec = Jvm.exec) (hb : c.code = cc) (hK : va_K D vwCl (hty cy) s) (hJ0 : hJ N ad) (hP : va_P D vwCl (hC N ad b σ) H) (hS : va_S (hA N ad H0.size) H0 H locs) {k : Nat} (hk : k < N) {n : Nat} (he : ∀ ρ, b k ρ = .inl (cy 0, n, .inl ρ)) {i x : Int32} (hin : vp_in i n) (hdg : decode cc pc = .ok (.iastore, 1))
    (kk : ∀ (H1 : Heap) (locs1 : List Loc), va_P D vwCl (hC N ad b (hup σ k i.toNatClampNeg x)) H1 → va_S (hA N ad H0.size) H0 H1 locs1 → W p l e R s m args below meth c H1 locs1 cells slots Q (F0 m (pc + 1) ls rest)) : W p l e R s m args below meth c H locs cells slots Q (F0 m pc ls (.int x :: .int i :: .ref (ad k) :: rest)) :=
  va_iast hexec hb hK hP (hD_of hJ0) hS k 0 (by rw [hC_get hk, he]) rfl hin hdg (fun H1 locs1 h1 _ h3 => kk H1 locs1 (by rw [hC_set hk (he _)] at h1; exact h1) h3)
theorem hw_bast (hexec : p.tables.exec = Jvm.exec) (hb : c.code = cc) (hK : va_K D vwCl (hty cy) s) (hJ0 : hJ N ad) (hP : va_P D vwCl (hC N ad b σ) H) (hS : va_S (hA N ad H0.size) H0 H locs) {k : Nat} (hk : k < N) {n : Nat} (he : ∀ ρ, b k ρ = .inl (cy 1, n, .inl ρ)) {i x : Int32} (hin : vp_in i n) (hdg : decode cc pc = .ok (.bastore, 1))
    (kk : ∀ (H1 : Heap) (locs1 : List Loc), va_P D vwCl (hC N ad b (hup σ k i.toNatClampNeg (vp_nar .byte x))) H1 → va_S (hA N ad H0.size) H0 H1 locs1 → W p l e R s m args below meth c H1 locs1 cells slots Q (F0 m (pc + 1) ls rest)) : W p l e R s m args below meth c H locs cells slots Q (F0 m pc ls (.int x :: .int i :: .ref (ad k) :: rest)) :=
  va_bast hexec hb hK hP (hD_of hJ0) hS k 1 (by rw [hC_get hk, he]) rfl hin hdg (fun H1 locs1 h1 _ h3 => kk H1 locs1 (by rw [hC_set hk (he _)] at h1; exact h1) h3)
theorem hw_zast (hexec : p.tables.exec = Jvm.exec) (hb : c.code = cc) (hK : va_K D vwCl (hty cy) s) (hJ0 : hJ N ad) (hP : va_P D vwCl (hC N ad b σ) H) (hS : va_S (hA N ad H0.size) H0 H locs) {k : Nat} (hk : k < N) {n : Nat} (he : ∀ ρ, b k ρ = .inl (cy 4, n, .inl ρ)) {i x : Int32} (hin : vp_in i n) (hdg : decode cc pc = .ok (.bastore, 1))
    (kk : ∀ (H1 : Heap) (locs1 : List Loc), va_P D vwCl (hC N ad b (hup σ k i.toNatClampNeg (vp_nar .boolean x))) H1 → va_S (hA N ad H0.size) H0 H1 locs1 → W p l e R s m args below meth c H1 locs1 cells slots Q (F0 m (pc + 1) ls rest)) : W p l e R s m args below meth c H locs cells slots Q (F0 m pc ls (.int x :: .int i :: .ref (ad k) :: rest)) :=
  va_zast hexec hb hK hP (hD_of hJ0) hS k 4 (by rw [hC_get hk, he]) rfl hin hdg (fun H1 locs1 h1 _ h3 => kk H1 locs1 (by rw [hC_set hk (he _)] at h1; exact h1) h3)
theorem hw_alen (hexec : p.tables.exec = Jvm.exec) (hb : c.code = cc) (hK : va_K D vwCl (hty cy) s) (hP : va_P D vwCl (hC N ad b σ) H) {k : Nat} (hk : k < N) (t0 : Nat) {cA : ClassId} {n : Nat} {f : (Nat → Int32) ⊕ (Nat → Int64) ⊕ (Nat → UInt32) ⊕ (Nat → UInt64) ⊕ (Nat → Option Nat)} (he : b k (σ k) = .inl (cA, n, f)) {ty : FieldType} (ht : (hty cy)[t0]? = some (cA, ty)) (hdg : decode cc pc = .ok (.arraylength, 1))
    (kk : W p l e R s m args below meth c H locs cells slots Q (F0 m (pc + 1) ls (.int (Int32.ofNat n) :: rest))) : W p l e R s m args below meth c H locs cells slots Q (F0 m pc ls (.ref (ad k) :: rest)) :=
  va_alen hexec hb hK hP k t0 (by rw [hC_get hk, he]) ht rfl hdg kk
/-- ends -/
theorem hw_iret {S : Type} {ws : S → va_W} {post : Int32 → S → Prop} {A : Nat → Prop} {v : Int32} (hexec : p.tables.exec = Jvm.exec) (hb : c.code = cc) (hr : meth.sig.returnType = some .int) (hlocks : meth.locks = false) (u : S) (hq : post v u) (hP : va_P D vwCl (ws u) H) (hS : va_S A s.heap H locs) (hdg : decode cc pc = .ok (.ireturn, 1)) :
    W p l e R s m args below meth c H locs cells slots (MQ below (va_Qi post (hE D ws) A) args s cells slots A) (F0 m pc ls [.int v]) :=
  W.iret hexec hb hr (fun t ht _ => ⟨⟨v, u, rfl, hq, by show va_P _ _ _ t.heap; rw [ht]; exact hP⟩, hS.F ht⟩) hS.2.2 hdg hlocks
theorem hw_lret {S : Type} {ws : S → va_W} {post : Int64 → S → Prop} {A : Nat → Prop} {v : Int64} (hexec : p.tables.exec = Jvm.exec) (hb : c.code = cc) (hr : meth.sig.returnType = some .long) (hlocks : meth.locks = false) (u : S) (hq : post v u) (hP : va_P D vwCl (ws u) H) (hS : va_S A s.heap H locs) (hdg : decode cc pc = .ok (.lreturn, 1)) :
    W p l e R s m args below meth c H locs cells slots (MQ below (va_Ql post (hE D ws) A) args s cells slots A) (F0 m pc ls [.long v]) :=
  W.lret hexec hb hr (fun t ht _ => ⟨⟨v, u, rfl, hq, by show va_P _ _ _ t.heap; rw [ht]; exact hP⟩, hS.F ht⟩) hS.2.2 hdg hlocks
def hbo (x : Int32) : Prop := x = 0 ∨ x = 1
theorem hbo_n {x : Int32} (h : hbo x) : narrow .boolean (.int x) = .int x := by rcases h with rfl | rfl <;> rfl
theorem hbo_f {x : Int32} (h : hbo x) : fits .boolean (.int x) = true := by rcases h with rfl | rfl <;> rfl
theorem hbo_0 : hbo 0 := Or.inl rfl
theorem hbo_1 : hbo 1 := Or.inr rfl
theorem hw_zret {S : Type} {ws : S → va_W} {post : Int32 → S → Prop} {A : Nat → Prop} {v : Int32} (hexec : p.tables.exec = Jvm.exec) (hb : c.code = cc) (hr : meth.sig.returnType = some .boolean) (hlocks : meth.locks = false) (hn : hbo v) (u : S) (hq : post v u) (hP : va_P D vwCl (ws u) H) (hS : va_S A s.heap H locs) (hdg : decode cc pc = .ok (.ireturn, 1)) :
    W p l e R s m args below meth c H locs cells slots (MQ below (va_Qi post (hE D ws) A) args s cells slots A) (F0 m pc ls [.int v]) :=
  W.zret hexec hb hr (hbo_n hn) (fun t ht _ => ⟨⟨v, u, rfl, hq, by show va_P _ _ _ t.heap; rw [ht]; exact hP⟩, hS.F ht⟩) hS.2.2 hdg hlocks
theorem hw_vret {S : Type} {ws : S → va_W} {post : S → Prop} {A : Nat → Prop} (hexec : p.tables.exec = Jvm.exec) (hb : c.code = cc) (hr : meth.sig.returnType = none) (hlocks : meth.locks = false) (u : S) (hq : post u) (hP : va_P D vwCl (ws u) H) (hS : va_S A s.heap H locs) (hdg : decode cc pc = .ok (.return_, 1)) :
    W p l e R s m args below meth c H locs cells slots (MQ below (va_Qv post (hE D ws) A) args s cells slots A) (F0 m pc ls []) :=
  W.vret hexec hb hr (fun t ht _ => ⟨⟨u, rfl, hq, by show va_P _ _ _ t.heap; rw [ht]; exact hP⟩, hS.F ht⟩) hS.2.2 hdg hlocks
/-- an answer that is a cell: its number -/
def hR_ {S : Type} (D : va_G) (ad : Nat → Nat) (ws : S → va_W) : (Nat × S) → Nat → State → Prop := fun u a t => a = ad u.1 ∧ va_P D vwCl (ws u.2) t.heap
theorem hw_aret {S : Type} {ws : S → va_W} {post : Nat × S → Prop} {A : Nat → Prop} {rt : String} (hexec : p.tables.exec = Jvm.exec) (hb : c.code = cc) (hr : meth.sig.returnType = some (.object rt)) (hlocks : meth.locks = false) (k : Nat) (u : S) (hq : post (k, u)) (hP : va_P D vwCl (ws u) H) (hS : va_S A s.heap H locs) (hdg : decode cc pc = .ok (.areturn, 1)) :
    W p l e R s m args below meth c H locs cells slots (MQ below (va_Qr post (hR_ D ad ws) A) args s cells slots A) (F0 m pc ls [.ref (ad k)]) :=
  W.aret hexec hb hr (Or.inl ⟨_, rfl⟩) (Or.inr ⟨_, rfl⟩) (fun t ht _ => ⟨⟨(k, u), ad k, rfl, hq, rfl, by rw [ht]; exact hP⟩, hS.F ht⟩) hS.2.2 hdg hlocks
/-- a call's start, by the world -/
theorem hw_pre {ws : va_W} {As : List Value} (hK : va_K D vwCl (hty cy) s) (hN1 : hN_ s) (hP : va_P D vwCl ws H) : PreS s H (va_Pc As (hB D cy ws H.size)) As :=
  ⟨hB_blind, fun U hU hW => ⟨rfl, by rw [hU], by rw [hU]; exact hP, va_K.moved hW.alike hK, hN1.warm hW⟩⟩
theorem hw_preV {k ci n : Nat} {C : String} {T : u_T} {fs : List Value} {As : List Value} (hK : va_K D vwCl (hty cy) s) (hN1 : hN_ s) (hP : va_P D vwCl (hC N ad b σ) H) (hk : k < N) (he : b k (σ k) = .inr (ci, fs)) (hc : vwCl[ci]? = some (C, T, n)) : PreV s H C (ad k) (va_Pc (.ref (ad k) :: As) (hB D cy (hC N ad b σ) H.size)) As :=
  ⟨hB_blind, va_recv (q := (C, T, n)) hK hP hc (q0 := k) (fs := fs) (by rw [hC_get hk, he]), fun U hU hW => ⟨rfl, by rw [hU], by rw [hU]; exact hP, va_K.moved hW.alike hK, hN1.warm hW⟩⟩
variable {S : Type} {ws : S → va_W} {st0 : List Value} {a : Array Value}
theorem hw_ki {post : Int32 → S → Prop} (hr : va_Run p l e R s m args below meth c H locs cells slots 0 0 (F0 m pc ls st0) rest (va_Qi post (hE D ws) (hA N ad H.size) a) (hA N ad H.size)) (hS : va_S (hA N ad H0.size) H0 H locs)
    (kk : ∀ (r : Int32) (u : S) (H1 : Heap) (locs1 : List Loc), post r u → va_P D vwCl (ws u) H1 → va_S (hA N ad H0.size) H0 H1 locs1 → W p l e R s m args below meth c H1 locs1 cells slots Q (F0 m (pc + 3) ls (.int r :: rest))) : W p l e R s m args below meth c H locs cells slots Q (F0 m pc ls st0) :=
  va_calli hr hS (fun _ _ h => hA_le hS.1 h) (fun _ h => hA_le hS.1 h) (fun r u t H1 locs1 ht _ hp hB _ _ hS1 => kk r u H1 locs1 hp (by rw [← ht]; exact hB) hS1)
theorem hw_kl {post : Int64 → S → Prop} (hr : va_Run p l e R s m args below meth c H locs cells slots 0 0 (F0 m pc ls st0) rest (va_Ql post (hE D ws) (hA N ad H.size) a) (hA N ad H.size)) (hS : va_S (hA N ad H0.size) H0 H locs)
    (kk : ∀ (r : Int64) (u : S) (H1 : Heap) (locs1 : List Loc), post r u → va_P D vwCl (ws u) H1 → va_S (hA N ad H0.size) H0 H1 locs1 → W p l e R s m args below meth c H1 locs1 cells slots Q (F0 m (pc + 3) ls (.long r :: rest))) : W p l e R s m args below meth c H locs cells slots Q (F0 m pc ls st0) :=
  va_calll hr hS (fun _ _ h => hA_le hS.1 h) (fun _ h => hA_le hS.1 h) (fun r u t H1 locs1 ht _ hp hB _ _ hS1 => kk r u H1 locs1 hp (by rw [← ht]; exact hB) hS1)
theorem hw_kv {post : S → Prop} (hr : va_Run p l e R s m args below meth c H locs cells slots 0 0 (F0 m pc ls st0) rest (va_Qv post (hE D ws) (hA N ad H.size) a) (hA N ad H.size)) (hS : va_S (hA N ad H0.size) H0 H locs)
    (kk : ∀ (u : S) (H1 : Heap) (locs1 : List Loc), post u → va_P D vwCl (ws u) H1 → va_S (hA N ad H0.size) H0 H1 locs1 → W p l e R s m args below meth c H1 locs1 cells slots Q (F0 m (pc + 3) ls rest)) : W p l e R s m args below meth c H locs cells slots Q (F0 m pc ls st0) :=
  va_callv hr hS (fun _ _ h => hA_le hS.1 h) (fun _ h => hA_le hS.1 h) (fun u t H1 locs1 ht _ hp hB _ _ hS1 => kk u H1 locs1 hp (by rw [← ht]; exact hB) hS1)
theorem hw_kr {post : Nat × S → Prop} (hr : va_Run p l e R s m args below meth c H locs cells slots 0 0 (F0 m pc ls st0) rest (va_Qr post (hR_ D ad ws) (hA N ad H.size) a) (hA N ad H.size)) (hS : va_S (hA N ad H0.size) H0 H locs)
    (kk : ∀ (k : Nat) (u : S) (H1 : Heap) (locs1 : List Loc), post (k, u) → va_P D vwCl (ws u) H1 → va_S (hA N ad H0.size) H0 H1 locs1 → W p l e R s m args below meth c H1 locs1 cells slots Q (F0 m (pc + 3) ls (.ref (ad k) :: rest))) : W p l e R s m args below meth c H locs cells slots Q (F0 m pc ls st0) :=
  va_callr hr hS (fun _ _ h => hA_le hS.1 h) (fun _ h => hA_le hS.1 h) (fun u ra t H1 locs1 ht _ hp hB _ _ hS1 => by
    obtain ⟨rfl, hB2⟩ := hB
    exact kk u.1 u.2 H1 locs1 hp (by rw [← ht]; exact hB2) hS1)
end HROW
/-! loops: the least predicate that the loop's body keeps -/
def hL1 {A : Type} (B : (A → Prop) → A → Prop) (a : A) : Prop := ∀ P : A → Prop, (∀ a, B P a → P a) → P a
def hL2 {A A2 : Type} (B : (A → A2 → Prop) → A → A2 → Prop) (a : A) (a2 : A2) : Prop := ∀ P : A → A2 → Prop, (∀ a a2, B P a a2 → P a a2) → P a a2
def hL3 {A A2 A3 : Type} (B : (A → A2 → A3 → Prop) → A → A2 → A3 → Prop) (a : A) (a2 : A2) (a3 : A3) : Prop := ∀ P : A → A2 → A3 → Prop, (∀ a a2 a3, B P a a2 a3 → P a a2 a3) → P a a2 a3
def hL4 {A A2 A3 A4 : Type} (B : (A → A2 → A3 → A4 → Prop) → A → A2 → A3 → A4 → Prop) (a : A) (a2 : A2) (a3 : A3) (a4 : A4) : Prop := ∀ P : A → A2 → A3 → A4 → Prop, (∀ a a2 a3 a4, B P a a2 a3 a4 → P a a2 a3 a4) → P a a2 a3 a4
def hL5 {A A2 A3 A4 A5 : Type} (B : (A → A2 → A3 → A4 → A5 → Prop) → A → A2 → A3 → A4 → A5 → Prop) (a : A) (a2 : A2) (a3 : A3) (a4 : A4) (a5 : A5) : Prop := ∀ P : A → A2 → A3 → A4 → A5 → Prop, (∀ a a2 a3 a4 a5, B P a a2 a3 a4 a5 → P a a2 a3 a4 a5) → P a a2 a3 a4 a5
def hL6 {A A2 A3 A4 A5 A6 : Type} (B : (A → A2 → A3 → A4 → A5 → A6 → Prop) → A → A2 → A3 → A4 → A5 → A6 → Prop) (a : A) (a2 : A2) (a3 : A3) (a4 : A4) (a5 : A5) (a6 : A6) : Prop := ∀ P : A → A2 → A3 → A4 → A5 → A6 → Prop, (∀ a a2 a3 a4 a5 a6, B P a a2 a3 a4 a5 a6 → P a a2 a3 a4 a5 a6) → P a a2 a3 a4 a5 a6
def hL7 {A A2 A3 A4 A5 A6 A7 : Type} (B : (A → A2 → A3 → A4 → A5 → A6 → A7 → Prop) → A → A2 → A3 → A4 → A5 → A6 → A7 → Prop) (a : A) (a2 : A2) (a3 : A3) (a4 : A4) (a5 : A5) (a6 : A6) (a7 : A7) : Prop := ∀ P : A → A2 → A3 → A4 → A5 → A6 → A7 → Prop, (∀ a a2 a3 a4 a5 a6 a7, B P a a2 a3 a4 a5 a6 a7 → P a a2 a3 a4 a5 a6 a7) → P a a2 a3 a4 a5 a6 a7
/-- where ways meet again: what follows is said once -/
def hM_ {α : Sort _} (b : α) (f : α → Prop) : Prop := f b

/-! Methods that throw, over the world of numbered cells. -/
def hstr : List (Nat × String) := [(149, "no such row of the lead"), (164, "no such call"), (172, "no such bell or row"), (213, "no such lead"), (223, "no such thing of a lead"), (225, "no such row of the touch"), (246, "not so many leads or looks"), (261, "the method was not told"), (89, "no such method")]
def hxE : List String := ["java/util/NoSuchElementException", "java/lang/IllegalArgumentException", "java/lang/IndexOutOfBoundsException"]
def hxD : List MethodName := [Bundle.initS "java/lang/RuntimeException", Bundle.initS "java/lang/Exception", Bundle.initS Bundle.tN]
/-- what a throw asks of the start: its texts, the statics of Throwable, words that aren't of the tables' steady ones -/
def hTh (A : Nat → Prop) (U : State) : Prop := ((∀ q ∈ hstr, ∃ sa : Nat, vk_R RX11 q.1 q.2 sa U) ∧ (∀ E ∈ hxE, va_Nw (.castable E E) U) ∧ ∀ x ∈ hxD, va_Nw (.declares x) U) ∧ vx_Zq Bundle.tN "UNASSIGNED_STACK" Bundle.steD A U U.heap ∧ vx_Zq Bundle.tN "SUPPRESSED_SENTINEL" Bundle.listD A U U.heap
theorem hTh.str {A : Nat → Prop} {U : State} (h : hTh A U) (i : Nat) {n : Nat} {t : String} (hi : hstr[i]? = some (n, t)) : ∃ sa : Nat, vk_R RX11 n t sa U := h.1.1 _ (List.mem_of_getElem? hi)
theorem hTh.warm {A B : Nat → Prop} {s U : State} (hW : s.WarmedH U.vm) (h : hTh A s) (hB : ∀ q, B q → A q) (hk : ∀ a : Nat, a < s.heap.size → ¬ A a → U.heap[a]? = s.heap[a]?) : hTh B U :=
  ⟨⟨fun q hq => by obtain ⟨sa, z⟩ := h.1.1 q hq; exact ⟨sa, vk_R.warm hW z⟩, fun E hE => va_Nw.warmC hW (h.1.2.1 E hE), fun x hx => va_Nw.warmD hW (h.1.2.2 x hx)⟩, vx_Zq.moved hW.alike ((h.2.1.kept hk).narrow hB), vx_Zq.moved hW.alike ((h.2.2.kept hk).narrow hB)⟩
theorem hTh.calling {A : Nat → Prop} {U : State} {g : JFrame} {mk : MethodId} {a : Array Value} (h : hTh A U) : hTh A (U.calling g mk a) :=
  ⟨⟨fun q hq => by obtain ⟨sa, z⟩ := h.1.1 q hq; exact ⟨sa, vk_R.same rfl z⟩, fun E hE => va_tabs (A := #[]) (by first | rfl | simp [Cond.onTables, Cond.keeps, Cond.steady]) rfl (h.1.2.1 E hE), fun x hx => va_tabs (A := #[]) (by first | rfl | simp [Cond.onTables, Cond.keeps, Cond.steady]) rfl (h.1.2.2 x hx)⟩, vx_Zq.moved (Vm.Alike.refl U.vm) h.2.1, vx_Zq.moved (Vm.Alike.refl U.vm) h.2.2⟩
def hBT (D : va_G) (cy : Nat → ClassId) (ws : va_W) (A : Nat → Prop) (sz : Nat) : State → Prop := fun U => hB D cy ws sz U ∧ hTh A U
theorem hBT_blind {D : va_G} {cy : Nat → ClassId} {ws : va_W} {A : Nat → Prop} {sz : Nat} {av : List Value} : FrameBlind (va_Pc av (hBT D cy ws A sz)) := fun a U g mk q => by
  obtain ⟨q0, ⟨q1, qP, qK, qN⟩, qT⟩ := q
  exact ⟨q0, ⟨q1, qP, va_K.moved (u := U) (U := U.calling g mk a) (Vm.Alike.refl U.vm) qK, qN.calling⟩, qT.calling⟩
/-- how a method of the class throws: E, at the state u -/
def hXC {S : Type} (D : va_G) (ws : S → va_W) (X : String → S → Prop) (A : Nat → Prop) : String → State → State → Prop := vx_X (fun _ : S => True) (fun E u t => X E u ∧ va_P D vwCl (ws u) t.heap) A
section HTHROW
variable {p : Program} {l : Launch} {e : Env} {R : Room} {s : State} {m : MethodId} {args : Array Value} {below : List Frame} {meth : Method} {c : Code} {H : Heap} {locs : List Loc} {cells slots : Nat} {Q : State → Prop}
variable {cc : ByteArray} {pc : Nat} {ls : Array Slot} {rest : List Value} {D : va_G} {cy : Nat → ClassId} {N : Nat} {ad : Nat → Nat} {b : hCell} {σ : hSt} {H0 : Heap}
variable {S : Type} {ws : S → va_W} {X : String → S → Prop} {A : Nat → Prop}
/-- the law behind a throw's end -/
theorem hx_of {E : String} (u : S) (hX : X E u) (hP : va_P D vwCl (ws u) H) (hS : va_S A s.heap H locs) : ∀ t : State, s.vm.Alike t.vm → H.size ≤ t.heap.size → (∀ q : Nat, q < H.size → t.heap[q]? = H[q]?) → hXC D ws X A E s t := fun t _ h1 h2 =>
  ⟨u, trivial, ⟨hX, hP.kept (fun k x hx => h2 x.1 ((hP k x hx).lt))⟩, Nat.le_trans hS.1 h1, fun q hq hA => by rw [h2 q (Nat.lt_of_lt_of_le hq hS.1)]; exact hS.2.1 q hq hA⟩
theorem hx_pre {ws1 : va_W} {As : List Value} (hK : va_K D vwCl (hty cy) s) (hN1 : hN_ s) (hT : hTh (hA N ad s.heap.size) s) (hP : va_P D vwCl ws1 H) (hS : va_S (hA N ad s.heap.size) s.heap H locs) : ∀ U : State, U.heap = H → s.WarmedH U.vm → hBT D cy ws1 (hA N ad H.size) H.size U := fun U hU hW =>
  ⟨⟨by rw [hU], by rw [hU]; exact hP, va_K.moved hW.alike hK, hN1.warm hW⟩, hT.warm hW (fun _ h => hA_le hS.1 h) (fun a h1 h2 => by rw [hU]; exact hS.2.1 a h1 h2)⟩
theorem hx_preV {k ci n : Nat} {C : String} {T : u_T} {fs : List Value} {As : List Value} (hK : va_K D vwCl (hty cy) s) (hN1 : hN_ s) (hT : hTh (hA N ad s.heap.size) s) (hP : va_P D vwCl (hC N ad b σ) H) (hS : va_S (hA N ad s.heap.size) s.heap H locs) (hk : k < N) (he : b k (σ k) = .inr (ci, fs)) (hc : vwCl[ci]? = some (C, T, n)) : PreV s H C (ad k) (va_Pc (.ref (ad k) :: As) (hBT D cy (hC N ad b σ) (hA N ad H.size) H.size)) As :=
  ⟨hBT_blind, va_recv (q := (C, T, n)) hK hP hc (q0 := k) (fs := fs) (by rw [hC_get hk, he]), fun U hU hW => ⟨rfl, hx_pre (As := As) hK hN1 hT hP hS U hU hW⟩⟩
/-- an answer that is a cell, of a method that may throw -/
theorem hx_kr {Qc : Array Value → State → Outcome → State → Prop} {post : Nat × S → Prop} {mc ms MC MS : Nat} {st0 : List Value} {a : Array Value} (hlocks : meth.locks = false) (hno : ∀ x ∈ c.exceptionTable.toList, False) (hr : vx_Run p l e R s m args below meth c H locs cells slots mc ms (F0 m pc ls st0) rest (va_Qr post (hR_ D ad ws) (hA N ad H.size) a) (hXC D ws X (hA N ad H.size)) (hA N ad H.size)) (hS : va_S (hA N ad s.heap.size) s.heap H locs) (hc : cells + mc ≤ MC) (hs : slots + ms ≤ MS)
    (kk : ∀ (k : Nat) (u : S) (H1 : Heap) (locs1 : List Loc), post (k, u) → va_P D vwCl (ws u) H1 → va_S (hA N ad s.heap.size) s.heap H1 locs1 → W p l e R s m args below meth c H1 locs1 (cells + mc) (slots + ms) (vx_MQ below Qc (hXC D ws X (hA N ad s.heap.size)) args s MC MS (hA N ad s.heap.size)) (F0 m (pc + 3) ls (.ref (ad k) :: rest))) : W p l e R s m args below meth c H locs cells slots (vx_MQ below Qc (hXC D ws X (hA N ad s.heap.size)) args s MC MS (hA N ad s.heap.size)) (F0 m pc ls st0) := by
  intro T hT X9
  have hA1 : ∀ q, q < H.size → hA N ad H.size q → hA N ad s.heap.size q := fun q _ h => hA_le hS.1 h
  have hf : ∀ q, hA N ad H.size q → hA N ad s.heap.size q := fun q h => hA_le hS.1 h
  rcases hr T hT X9 with ⟨v, st₀, t, T', L, h0, X', hL, e1, e2, ⟨⟨u, ra, hv, hp, hb⟩, hF⟩, st⟩ | ⟨q, st₀, t, T', L, E, ce, h0, X', hL, e1, e2, ⟨u, hp, hb, hF⟩, hce, hcv, hcl, st⟩
  · cases hv
    obtain ⟨k1, k2, k3⟩ := vx_keep h0 e1 hS hA1 hf hL hF
    obtain ⟨rfl, hb2⟩ := hb
    obtain ⟨t2, a1, b1⟩ := kk u.1 u.2 T'.heap (locs ++ L) hp (by rw [e1]; exact hb2) k3 T' rfl X'
    exact ⟨t2, st t2 a1, b1⟩
  · obtain ⟨k1, k2, k3⟩ := vx_keep h0 e1 hS hA1 hf hL hF
    have hW9 : vx_W p l e R s m args below meth c T'.heap (locs ++ L) (cells + mc) (slots + ms) (vx_MQ below Qc (hXC D ws X (hA N ad s.heap.size)) args s MC MS (hA N ad s.heap.size)) (F0 m pc ls rest) q :=
      vx_out (fun x hx => absurd hx (hno x)) hlocks (by rw [e1]; exact hce) hcv hcl (fun t9 h9 _ => ⟨u, trivial, ⟨hb.1, by rw [h9, e1]; exact hb.2⟩, by rw [h9]; exact k3.1, fun z h1 h2 => by rw [h9]; exact k3.2.1 z h1 h2⟩) k3.2.2 hc hs
    obtain ⟨t2, a1, b1⟩ := hW9 T' rfl X'
    exact ⟨t2, st.trans a1, b1⟩
end HTHROW

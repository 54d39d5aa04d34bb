/-! The law's helpers: the class's world, and the law's cell of one long beside it. -/
def hAo (ad : Nat → Nat) (o sz : Nat) : Nat → Prop := fun q => hA 38 ad sz q ∨ q = o
def hEH (D : va_G) (cy : Nat → ClassId) (ad : Nat → Nat) (o : Nat) : hSt × (Nat → Int64) → State → Prop := fun u t => va_P D vwCl (hC 38 ad (bX cy ad) u.1) t.heap ∧ va_at D vwCl (o, .inl (cy 3, 1, .inr (.inl u.2))) t.heap
def hBH (D : va_G) (cy : Nat → ClassId) (ws : va_W) (A : Nat → Prop) (o : Nat) (f : Nat → Int64) (sz : Nat) : State → Prop := fun U => hBT D cy ws A sz U ∧ va_at D vwCl (o, .inl (cy 3, 1, .inr (.inl f))) U.heap ∧ va_Nc "java/util/NoSuchElementException" "java/lang/IllegalArgumentException" U
theorem hBH_blind {D : va_G} {cy : Nat → ClassId} {ws : va_W} {A : Nat → Prop} {o : Nat} {f : Nat → Int64} {sz : Nat} {av : List Value} : FrameBlind (va_Pc av (hBH D cy ws A o f sz)) := fun a U g mk q => by
  obtain ⟨q0, ⟨⟨q1, qP, qK, qN⟩, qT⟩, qO, qC⟩ := q
  exact ⟨q0, ⟨⟨q1, qP, va_K.moved (u := U) (U := U.calling g mk a) (Vm.Alike.refl U.vm) qK, qN.calling⟩, qT.calling⟩, qO, va_Nc.moved (u := U) (Vm.Alike.refl U.vm) qC⟩
section HHELP
variable {p : Program} {l : Launch} {e : Env} {R : Room} {s : State} {m : MethodId} {args : Array Value} {below : List Frame} {meth : Method} {c : Code} {H : Heap} {locs : List Loc} {cells slots : Nat} {Q : State → Prop}
variable {cc : ByteArray} {pc : Nat} {ls : Array Slot} {rest : List Value} {D : va_G} {cy : Nat → ClassId} {ad : Nat → Nat} {σ : hSt} {f : Nat → Int64} {o : Nat}
theorem hh_last (hexec : p.tables.exec = Jvm.exec) (hb : c.code = cc) (hK : va_K D vwCl (hty cy) s) (hJ0 : hJ 38 ad) (ho : ∀ k, k < 38 → o ≠ ad k) (hP : va_P D vwCl (hC 38 ad (bX cy ad) σ) H) (hO : va_at D vwCl (o, .inl (cy 3, 1, .inr (.inl f))) H) (hS : va_S (hAo ad o s.heap.size) s.heap H locs) {x : Int64} (hdg : decode cc pc = .ok (.lastore, 1))
    (kk : ∀ (H1 : Heap) (locs1 : List Loc), va_P D vwCl (hC 38 ad (bX cy ad) σ) H1 → va_at D vwCl (o, .inl (cy 3, 1, .inr (.inl (vp_updL f 0 x)))) H1 → va_S (hAo ad o s.heap.size) s.heap H1 locs1 → W p l e R s m args below meth c H1 locs1 cells slots Q (F0 m (pc + 1) ls rest)) : W p l e R s m args below meth c H locs cells slots Q (F0 m pc ls (.long x :: .int 0 :: .ref o :: rest)) := by
  have hP1 : va_P D vwCl [(o, .inl (cy 3, 1, .inr (.inl f)))] H := fun k q h => by
    have hz : k < 1 := (List.getElem?_eq_some_iff.mp h).1
    rw [show k = 0 by omega] at h
    cases h
    exact hO
  have hP2 := hP.app hP1
  have hD2 : va_D (hAo ad o s.heap.size) (hC 38 ad (bX cy ad) σ ++ [(o, .inl (cy 3, 1, .inr (.inl f)))]) := by
    refine va_D.app ((hD_of hJ0).weaken (fun _ _ _ h => Or.inl h)) ⟨fun i j a b h1 h2 _ => ?_, fun k q h => ?_⟩ (fun i j a b h1 h2 => ?_)
    · have hz := (List.getElem?_eq_some_iff.mp h1).1
      have hz2 := (List.getElem?_eq_some_iff.mp h2).1
      simp at hz hz2; omega
    · have hz : k < 1 := (List.getElem?_eq_some_iff.mp h).1
      rw [show k = 0 by omega] at h
      cases h
      exact Or.inr rfl
    · obtain ⟨h3, rfl⟩ := hC_inv h1
      have hz : j < 1 := (List.getElem?_eq_some_iff.mp h2).1
      rw [show j = 0 by omega] at h2
      cases h2
      exact fun z => ho i h3 z.symm
  refine va_last hexec hb hK hP2 hD2 hS 38 3 (by rw [List.getElem?_append_right (by rw [hC_len]; exact Nat.le_refl _), hC_len]; rfl) rfl (vp_in_iff.mpr (by decide)) hdg (fun H1 locs1 h1 _ h3 => ?_)
  rw [List.set_append_right 38 _ (by rw [hC_len]; exact Nat.le_refl _), hC_len] at h1
  refine kk H1 locs1 (fun k q h => h1 k q (by rw [List.getElem?_append_left (List.getElem?_eq_some_iff.mp h).1]; exact h)) ?_ h3
  exact h1 38 _ (by rw [List.getElem?_append_right (by rw [hC_len]; exact Nat.le_refl _), hC_len]; rfl)
end HHELP
theorem hAo_out {ad : Nat → Nat} {o sz : Nat} (ho : ∀ k, k < 38 → o ≠ ad k) (hlt : o < sz) : ¬ hA 38 ad sz o := fun h => by
  rcases h with ⟨k, hk, e⟩ | h
  · exact ho k hk e
  · omega
def wp_L_method (a1 : Int32) (σ : hSt) (f : Nat → Int64) (Q : Int32 → hSt → (Nat → Int64) → Prop) : Prop :=
  wp_X11_method a1 σ (fun r u => Q 0 u (vp_updL f 0 r.toInt64)) (fun E u => (E = "java/lang/IndexOutOfBoundsException" ∧ Q 1 u f))
def wp_L_lead (a1 : Int32) (a2 : Int32) (σ : hSt) (f : Nat → Int64) (Q : Int32 → hSt → (Nat → Int64) → Prop) : Prop :=
  wp_X11_lead a1 a2 σ (fun r u => Q 0 u (vp_updL f 0 r.toInt64)) (fun E u => (E = "java/util/NoSuchElementException" ∧ Q 1 u f))
def wp_L_head (a1 : Int32) (a2 : Int32) (σ : hSt) (f : Nat → Int64) (Q : Int32 → hSt → (Nat → Int64) → Prop) : Prop :=
  wp_X11_head a1 a2 σ (fun r u => Q 0 u (vp_updL f 0 r.toInt64)) (fun E u => (E = "java/util/NoSuchElementException" ∧ Q 1 u f))
def wp_L_course (a1 : Int32) (σ : hSt) (f : Nat → Int64) (Q : Int32 → hSt → (Nat → Int64) → Prop) : Prop :=
  wp_X11_course a1 σ (fun r u => Q 0 u (vp_updL f 0 r.toInt64)) (fun E u => (E = "java/util/NoSuchElementException" ∧ Q 1 u f))
def wp_L_line (a1 : Int32) (a2 : Int32) (a3 : Int32) (σ : hSt) (f : Nat → Int64) (Q : Int32 → hSt → (Nat → Int64) → Prop) : Prop :=
  wp_X11_line a1 a2 a3 σ (fun r u => Q 0 u (vp_updL f 0 r.toInt64)) (fun E u => (E = "java/util/NoSuchElementException" ∧ Q 1 u f))
def wp_L_falseHeads (a1 : Int32) (a2 : Int32) (σ : hSt) (f : Nat → Int64) (Q : Int32 → hSt → (Nat → Int64) → Prop) : Prop :=
  wp_X11_falseHeads a1 a2 σ (fun r u => Q 0 u (vp_updL f 0 r.toInt64)) (fun E u => (E = "java/util/NoSuchElementException" ∧ Q 1 u f))
def wp_L_falseHead (a1 : Int32) (a2 : Int32) (a3 : Int32) (σ : hSt) (f : Nat → Int64) (Q : Int32 → hSt → (Nat → Int64) → Prop) : Prop :=
  wp_X11_falseHead a1 a2 a3 σ (fun r u => Q 0 u (vp_updL f 0 r.toInt64)) (fun E u => (E = "java/util/NoSuchElementException" ∧ Q 1 u f))
def wp_L_called (a1 : Int32) (a2 : Int32) (σ : hSt) (f : Nat → Int64) (Q : Int32 → hSt → (Nat → Int64) → Prop) : Prop :=
  wp_X11_called a1 a2 σ (fun r u => Q 0 u (vp_updL f 0 r.toInt64)) (fun E u => (E = "java/util/NoSuchElementException" ∧ Q 1 u f))
def wp_L_row (a1 : Int32) (σ : hSt) (f : Nat → Int64) (Q : Int32 → hSt → (Nat → Int64) → Prop) : Prop :=
  wp_X11_row a1 σ (fun r u => Q 0 u (vp_updL f 0 r.toInt64)) (fun E u => (E = "java/util/NoSuchElementException" ∧ Q 1 u f))
def wp_L_find (a1 : Int32) (a2 : Int32) (a3 : Int32) (σ : hSt) (f : Nat → Int64) (Q : Int32 → hSt → (Nat → Int64) → Prop) : Prop :=
  wp_X11_find a1 a2 a3 σ (fun r u => Q 0 u (vp_updL f 0 r.toInt64)) (fun E u => (E = "java/lang/IllegalArgumentException" ∧ Q 1 u f) ∨ (E = "java/util/NoSuchElementException" ∧ Q 2 u f))
set_option maxHeartbeats 4000000 in
set_option maxRecDepth 100000 in
theorem kc_L_method (l : Launch) (hfl : l.stackTraces = false) (D : va_G) (cy : Nat → ClassId) (ad : Nat → Nat) (hJ0 : hJ 38 ad) (o : Nat) (ho : ∀ k, k < 38 → o ≠ ad k) (σ : hSt) (f : Nat → Int64) (sz : Nat) (a1 : Int32) (Q : Int32 → hSt → (Nat → Int64) → Prop) (hw : wp_L_method a1 σ f Q) : Met l yL_method wsL_method ({ frames := 8, cells := 1, slots := 6, locals := 179 } : Room) (va_Pc [.ref (ad 0), .int a1, .ref o] (hBH D cy (hC 38 ad (bX cy ad) σ) (hAo ad o sz) o f sz)) (va_Qi (fun (r : Int32) (u : hSt × (Nat → Int64)) => Q r u.1 u.2) (hEH D cy ad o) (hAo ad o sz)) 1 6 (hAo ad o sz) := by
  refine va_MetW (hh := [(0, 9, 12, 13)]) (cc := cL_method) (maxL := 4) (ret := some .int) (by decide) rfl ?_
  intro p e s m args below meth c s₁ B hml hv
  obtain ⟨rfl, ⟨⟨hsz, hP, hK, hN1⟩, hT⟩, hO, hNc⟩ := hv
  have hx := B.exec
  have hb := B.bytes
  have hr := B.returns
  have hts := atoms_spec (ws := wsL_method) B.pre
  have hown : s.vm.findClass RL = some m.cls := findClass_of_methodNamed B.named
  have hlocks := B.notSynchronized
  subst hsz
  have htab := vx_table (x := yL_method) B (hts _ (show Cond.codeWith yL_method cL_method 4 (some .int) [(0, 9, 12, 13)] ∈ wsL_method from List.mem_cons_self))
  have hS : va_S (hAo ad o s.heap.size) s.heap s.heap [] := va_S.rf
  have hTx : hTh (hA 38 ad s.heap.size) s := ⟨hT.1, hT.2.1.narrow (fun _ h => Or.inl h), hT.2.2.narrow (fun _ h => Or.inl h)⟩
  have hol : o < s.heap.size := hO.lt
  have hoA := hAo_out (sz := s.heap.size) ho hol
  have hl := lv_entry ([.ref (ad 0), .int a1, .ref o]) (n := 4) (Nat.le_of_ble_eq_true rfl)
  rw [lg_entry_eq]
  generalize (lg_sl ([.ref (ad 0), .int a1, .ref o]) ++ List.replicate (4 - (lg_sl ([.ref (ad 0), .int a1, .ref o])).length) Slot.unset).toArray = ls at hl ⊢
  have hl : lv_has ls 4 [(0, .ref (ad 0)), (1, .int a1), (2, .ref o)] := hl
  unfold wp_L_method at hw
  refine lv_aload_n hx hb dL_method_0 rfl (lv_at hl 2 rfl) ?_
  refine lv_iconst (v := 0) hx hb dL_method_1 (by decide) ?_
  refine lv_aload_n hx hb dL_method_2 rfl (lv_at hl 0 rfl) ?_
  refine lv_iload_n hx hb dL_method_3 rfl (lv_at hl 1 rfl) ?_
  refine vx_calli (vx_runV (As := [.int a1]) (rest := [.int 0, .ref o]) ⟨hx, hb, hml, hown, hts⟩ (kc_X11_method l hfl D cy 38 (Nat.le_refl 38) ad hJ0 σ _ a1 _ _ hw) (cwV 1 hts gL_method_X11_method rfl rfl rfl (by decide +kernel) ⟨Nat.le_of_ble_eq_true rfl, Nat.le_of_ble_eq_true rfl⟩) (hx_preV hK hN1 hTx hP va_S.rf (by decide) (bX_0 _) rfl) rfl rfl hl.1 rfl (lv_room (Nat.le_of_ble_eq_true rfl)) dL_method_4 ⟨Nat.le_of_ble_eq_true rfl, Nat.le_of_ble_eq_true rfl⟩) hS (fun _ _ h => Or.inl h) (fun _ h => Or.inl h) (fun _ _ h => Or.inl h) (fun E ce q9 u t H1 locs1 ht hvm hpx hBX hz1 hk1 hS hce hcv hcl => ?_) (fun r u t H1 locs1 ht hvm hw hB hz1 hk1 hS => ?_)
  · obtain ⟨hX9, hP1⟩ := hBX
    rw [ht] at hP1
    have hO1 := hO.kept (hk1 o hol hoA)
    obtain ⟨rfl, hw⟩ := hX9
    refine vx_catch (own := RL) (name := "java/lang/IndexOutOfBoundsException") hown [] ⟨0, 9, 12, 13⟩ [] htab (fun _ h => nomatch h) (by decide) (by decide) (hts (.classLink RL 13 "java/lang/IndexOutOfBoundsException") (List.mem_of_getElem? (i := 1) rfl)) (va_Nw.use rfl (hT.1.2.1 _ (List.mem_of_getElem? (i := 2) rfl))) hce hcv hcl ?_
    refine lv_astore_n (lv' := [(3, .ref q9), (0, .ref (ad 0)), (1, .int a1), (2, .ref o)]) hx hb dL_method_12 rfl hl (by decide) rfl (fun ls hl => ?_)
    refine lv_iconst (v := 1) hx hb dL_method_13 (by decide) ?_
    exact W.iret (v := 1) hx hb hr (fun t9 ht9 _ => ⟨⟨1, (u, f), rfl, hw, by rw [ht9]; exact hP1, by rw [ht9]; exact hO1⟩, hS.F ht9⟩) hS.2.2 dL_method_14 hlocks
  · have hP1 : va_P D vwCl (hC 38 ad (bX cy ad) u) t.heap := hB
    rw [ht] at hP1
    have hO1 := hO.kept (hk1 o hol hoA)
    refine lv_i2l hx hb dL_method_7 rfl ?_
    refine hh_last hx hb hK hJ0 ho hP1 hO1 hS dL_method_8 (fun H locs hP hO hS => ?_)
    refine lv_goto (tgt := 15) hx hb dL_method_9 (by decide) ?_
    refine lv_iconst (v := 0) hx hb dL_method_15 (by decide) ?_
    exact W.iret (v := 0) hx hb hr (fun t9 ht9 _ => ⟨⟨0, (u, vp_updL f 0 r.toInt64), rfl, hw, by rw [ht9]; exact hP, by rw [ht9]; exact hO⟩, hS.F ht9⟩) hS.2.2 dL_method_16 hlocks
set_option maxHeartbeats 4000000 in
set_option maxRecDepth 100000 in
theorem kc_L_lead (l : Launch) (hfl : l.stackTraces = false) (D : va_G) (cy : Nat → ClassId) (ad : Nat → Nat) (hJ0 : hJ 38 ad) (o : Nat) (ho : ∀ k, k < 38 → o ≠ ad k) (σ : hSt) (f : Nat → Int64) (sz : Nat) (a1 : Int32) (a2 : Int32) (Q : Int32 → hSt → (Nat → Int64) → Prop) (hw : wp_L_lead a1 a2 σ f Q) : Met l yL_lead wzL_lead ({ frames := 8, cells := 2, slots := 12, locals := 130 } : Room) (va_Pc [.ref (ad 0), .int a1, .int a2, .ref o] (hBH D cy (hC 38 ad (bX cy ad) σ) (hAo ad o sz) o f sz)) (va_Qi (fun (r : Int32) (u : hSt × (Nat → Int64)) => Q r u.1 u.2) (hEH D cy ad o) (hAo ad o sz)) 2 12 (hAo ad o sz) := by
  refine va_MetW (hh := [(0, 10, 13, 19)]) (cc := cL_lead) (maxL := 5) (ret := some .int) (by decide) rfl ?_
  intro p e s m args below meth c s₁ B hml hv
  obtain ⟨rfl, ⟨⟨hsz, hP, hK, hN1⟩, hT⟩, hO, hNc⟩ := hv
  have hx := B.exec
  have hb := B.bytes
  have hr := B.returns
  have hts := atoms_spec (ws := wzL_lead) B.pre
  have hown : s.vm.findClass RL = some m.cls := findClass_of_methodNamed B.named
  have hlocks := B.notSynchronized
  subst hsz
  have htab := vx_table (x := yL_lead) B (hts _ (show Cond.codeWith yL_lead cL_lead 5 (some .int) [(0, 10, 13, 19)] ∈ wzL_lead from List.mem_cons_self))
  have hS : va_S (hAo ad o s.heap.size) s.heap s.heap [] := va_S.rf
  have hTx : hTh (hA 38 ad s.heap.size) s := ⟨hT.1, hT.2.1.narrow (fun _ h => Or.inl h), hT.2.2.narrow (fun _ h => Or.inl h)⟩
  have hol : o < s.heap.size := hO.lt
  have hoA := hAo_out (sz := s.heap.size) ho hol
  have hl := lv_entry ([.ref (ad 0), .int a1, .int a2, .ref o]) (n := 5) (Nat.le_of_ble_eq_true rfl)
  rw [lg_entry_eq]
  generalize (lg_sl ([.ref (ad 0), .int a1, .int a2, .ref o]) ++ List.replicate (5 - (lg_sl ([.ref (ad 0), .int a1, .int a2, .ref o])).length) Slot.unset).toArray = ls at hl ⊢
  have hl : lv_has ls 5 [(0, .ref (ad 0)), (1, .int a1), (2, .int a2), (3, .ref o)] := hl
  unfold wp_L_lead at hw
  refine lv_aload_n hx hb dL_lead_0 rfl (lv_at hl 3 rfl) ?_
  refine lv_iconst (v := 0) hx hb dL_lead_1 (by decide) ?_
  refine lv_aload_n hx hb dL_lead_2 rfl (lv_at hl 0 rfl) ?_
  refine lv_iload_n hx hb dL_lead_3 rfl (lv_at hl 1 rfl) ?_
  refine lv_iload_n hx hb dL_lead_4 rfl (lv_at hl 2 rfl) ?_
  refine vx_calli (vx_runV (As := [.int a1, .int a2]) (rest := [.int 0, .ref o]) ⟨hx, hb, hml, hown, hts⟩ (kc_X11_lead l hfl D cy 38 (Nat.le_refl 38) ad hJ0 σ _ a1 a2 _ _ hw) (cwV 2 hts gzL_lead_X11_lead rfl rfl rfl (by decide +kernel) ⟨Nat.le_of_ble_eq_true rfl, Nat.le_of_ble_eq_true rfl⟩) (hx_preV hK hN1 hTx hP va_S.rf (by decide) (bX_0 _) rfl) rfl rfl hl.1 rfl (lv_room (Nat.le_of_ble_eq_true rfl)) dL_lead_5 ⟨Nat.le_of_ble_eq_true rfl, Nat.le_of_ble_eq_true rfl⟩) hS (fun _ _ h => Or.inl h) (fun _ h => Or.inl h) (fun _ _ h => Or.inl h) (fun E ce q9 u t H1 locs1 ht hvm hpx hBX hz1 hk1 hS hce hcv hcl => ?_) (fun r u t H1 locs1 ht hvm hw hB hz1 hk1 hS => ?_)
  · obtain ⟨hX9, hP1⟩ := hBX
    rw [ht] at hP1
    have hO1 := hO.kept (hk1 o hol hoA)
    obtain ⟨rfl, hw⟩ := hX9
    refine vx_catch (own := RL) (name := "java/util/NoSuchElementException") hown [] ⟨0, 10, 13, 19⟩ [] htab (fun _ h => nomatch h) (by decide) (by decide) (hts (.classLink RL 19 "java/util/NoSuchElementException") (List.mem_of_getElem? (i := 1) rfl)) (va_Nw.use rfl (hT.1.2.1 _ (List.mem_of_getElem? (i := 0) rfl))) hce hcv hcl ?_
    refine lv_astore (lv' := [(4, .ref q9), (0, .ref (ad 0)), (1, .int a1), (2, .int a2), (3, .ref o)]) hx hb dL_lead_13 hl (by decide) rfl (fun ls hl => ?_)
    refine lv_iconst (v := 1) hx hb dL_lead_15 (by decide) ?_
    exact W.iret (v := 1) hx hb hr (fun t9 ht9 _ => ⟨⟨1, (u, f), rfl, hw, by rw [ht9]; exact hP1, by rw [ht9]; exact hO1⟩, hS.F ht9⟩) hS.2.2 dL_lead_16 hlocks
  · have hP1 : va_P D vwCl (hC 38 ad (bX cy ad) u) t.heap := hB
    rw [ht] at hP1
    have hO1 := hO.kept (hk1 o hol hoA)
    refine lv_i2l hx hb dL_lead_8 rfl ?_
    refine hh_last hx hb hK hJ0 ho hP1 hO1 hS dL_lead_9 (fun H locs hP hO hS => ?_)
    refine lv_goto (tgt := 17) hx hb dL_lead_10 (by decide) ?_
    refine lv_iconst (v := 0) hx hb dL_lead_17 (by decide) ?_
    exact W.iret (v := 0) hx hb hr (fun t9 ht9 _ => ⟨⟨0, (u, vp_updL f 0 r.toInt64), rfl, hw, by rw [ht9]; exact hP, by rw [ht9]; exact hO⟩, hS.F ht9⟩) hS.2.2 dL_lead_18 hlocks
set_option maxHeartbeats 4000000 in
set_option maxRecDepth 100000 in
theorem kc_L_head (l : Launch) (hfl : l.stackTraces = false) (D : va_G) (cy : Nat → ClassId) (ad : Nat → Nat) (hJ0 : hJ 38 ad) (o : Nat) (ho : ∀ k, k < 38 → o ≠ ad k) (σ : hSt) (f : Nat → Int64) (sz : Nat) (a1 : Int32) (a2 : Int32) (Q : Int32 → hSt → (Nat → Int64) → Prop) (hw : wp_L_head a1 a2 σ f Q) : Met l yL_head wzL_head ({ frames := 8, cells := 2, slots := 12, locals := 130 } : Room) (va_Pc [.ref (ad 0), .int a1, .int a2, .ref o] (hBH D cy (hC 38 ad (bX cy ad) σ) (hAo ad o sz) o f sz)) (va_Qi (fun (r : Int32) (u : hSt × (Nat → Int64)) => Q r u.1 u.2) (hEH D cy ad o) (hAo ad o sz)) 2 12 (hAo ad o sz) := by
  refine va_MetW (hh := [(0, 10, 13, 19)]) (cc := cL_head) (maxL := 5) (ret := some .int) (by decide) rfl ?_
  intro p e s m args below meth c s₁ B hml hv
  obtain ⟨rfl, ⟨⟨hsz, hP, hK, hN1⟩, hT⟩, hO, hNc⟩ := hv
  have hx := B.exec
  have hb := B.bytes
  have hr := B.returns
  have hts := atoms_spec (ws := wzL_head) B.pre
  have hown : s.vm.findClass RL = some m.cls := findClass_of_methodNamed B.named
  have hlocks := B.notSynchronized
  subst hsz
  have htab := vx_table (x := yL_head) B (hts _ (show Cond.codeWith yL_head cL_head 5 (some .int) [(0, 10, 13, 19)] ∈ wzL_head from List.mem_cons_self))
  have hS : va_S (hAo ad o s.heap.size) s.heap s.heap [] := va_S.rf
  have hTx : hTh (hA 38 ad s.heap.size) s := ⟨hT.1, hT.2.1.narrow (fun _ h => Or.inl h), hT.2.2.narrow (fun _ h => Or.inl h)⟩
  have hol : o < s.heap.size := hO.lt
  have hoA := hAo_out (sz := s.heap.size) ho hol
  have hl := lv_entry ([.ref (ad 0), .int a1, .int a2, .ref o]) (n := 5) (Nat.le_of_ble_eq_true rfl)
  rw [lg_entry_eq]
  generalize (lg_sl ([.ref (ad 0), .int a1, .int a2, .ref o]) ++ List.replicate (5 - (lg_sl ([.ref (ad 0), .int a1, .int a2, .ref o])).length) Slot.unset).toArray = ls at hl ⊢
  have hl : lv_has ls 5 [(0, .ref (ad 0)), (1, .int a1), (2, .int a2), (3, .ref o)] := hl
  unfold wp_L_head at hw
  refine lv_aload_n hx hb dL_head_0 rfl (lv_at hl 3 rfl) ?_
  refine lv_iconst (v := 0) hx hb dL_head_1 (by decide) ?_
  refine lv_aload_n hx hb dL_head_2 rfl (lv_at hl 0 rfl) ?_
  refine lv_iload_n hx hb dL_head_3 rfl (lv_at hl 1 rfl) ?_
  refine lv_iload_n hx hb dL_head_4 rfl (lv_at hl 2 rfl) ?_
  refine vx_calli (vx_runV (As := [.int a1, .int a2]) (rest := [.int 0, .ref o]) ⟨hx, hb, hml, hown, hts⟩ (kc_X11_head l hfl D cy 38 (Nat.le_refl 38) ad hJ0 σ _ a1 a2 _ _ hw) (cwV 2 hts gzL_head_X11_head rfl rfl rfl (by decide +kernel) ⟨Nat.le_of_ble_eq_true rfl, Nat.le_of_ble_eq_true rfl⟩) (hx_preV hK hN1 hTx hP va_S.rf (by decide) (bX_0 _) rfl) rfl rfl hl.1 rfl (lv_room (Nat.le_of_ble_eq_true rfl)) dL_head_5 ⟨Nat.le_of_ble_eq_true rfl, Nat.le_of_ble_eq_true rfl⟩) hS (fun _ _ h => Or.inl h) (fun _ h => Or.inl h) (fun _ _ h => Or.inl h) (fun E ce q9 u t H1 locs1 ht hvm hpx hBX hz1 hk1 hS hce hcv hcl => ?_) (fun r u t H1 locs1 ht hvm hw hB hz1 hk1 hS => ?_)
  · obtain ⟨hX9, hP1⟩ := hBX
    rw [ht] at hP1
    have hO1 := hO.kept (hk1 o hol hoA)
    obtain ⟨rfl, hw⟩ := hX9
    refine vx_catch (own := RL) (name := "java/util/NoSuchElementException") hown [] ⟨0, 10, 13, 19⟩ [] htab (fun _ h => nomatch h) (by decide) (by decide) (hts (.classLink RL 19 "java/util/NoSuchElementException") (List.mem_of_getElem? (i := 1) rfl)) (va_Nw.use rfl (hT.1.2.1 _ (List.mem_of_getElem? (i := 0) rfl))) hce hcv hcl ?_
    refine lv_astore (lv' := [(4, .ref q9), (0, .ref (ad 0)), (1, .int a1), (2, .int a2), (3, .ref o)]) hx hb dL_head_13 hl (by decide) rfl (fun ls hl => ?_)
    refine lv_iconst (v := 1) hx hb dL_head_15 (by decide) ?_
    exact W.iret (v := 1) hx hb hr (fun t9 ht9 _ => ⟨⟨1, (u, f), rfl, hw, by rw [ht9]; exact hP1, by rw [ht9]; exact hO1⟩, hS.F ht9⟩) hS.2.2 dL_head_16 hlocks
  · have hP1 : va_P D vwCl (hC 38 ad (bX cy ad) u) t.heap := hB
    rw [ht] at hP1
    have hO1 := hO.kept (hk1 o hol hoA)
    refine lv_i2l hx hb dL_head_8 rfl ?_
    refine hh_last hx hb hK hJ0 ho hP1 hO1 hS dL_head_9 (fun H locs hP hO hS => ?_)
    refine lv_goto (tgt := 17) hx hb dL_head_10 (by decide) ?_
    refine lv_iconst (v := 0) hx hb dL_head_17 (by decide) ?_
    exact W.iret (v := 0) hx hb hr (fun t9 ht9 _ => ⟨⟨0, (u, vp_updL f 0 r.toInt64), rfl, hw, by rw [ht9]; exact hP, by rw [ht9]; exact hO⟩, hS.F ht9⟩) hS.2.2 dL_head_18 hlocks
set_option maxHeartbeats 4000000 in
set_option maxRecDepth 100000 in
theorem kc_L_course (l : Launch) (hfl : l.stackTraces = false) (D : va_G) (cy : Nat → ClassId) (ad : Nat → Nat) (hJ0 : hJ 38 ad) (o : Nat) (ho : ∀ k, k < 38 → o ≠ ad k) (σ : hSt) (f : Nat → Int64) (sz : Nat) (a1 : Int32) (Q : Int32 → hSt → (Nat → Int64) → Prop) (hw : wp_L_course a1 σ f Q) : Met l yL_course wzL_course ({ frames := 8, cells := 1, slots := 6, locals := 128 } : Room) (va_Pc [.ref (ad 0), .int a1, .ref o] (hBH D cy (hC 38 ad (bX cy ad) σ) (hAo ad o sz) o f sz)) (va_Qi (fun (r : Int32) (u : hSt × (Nat → Int64)) => Q r u.1 u.2) (hEH D cy ad o) (hAo ad o sz)) 1 6 (hAo ad o sz) := by
  refine va_MetW (hh := [(0, 9, 12, 19)]) (cc := cL_course) (maxL := 4) (ret := some .int) (by decide) rfl ?_
  intro p e s m args below meth c s₁ B hml hv
  obtain ⟨rfl, ⟨⟨hsz, hP, hK, hN1⟩, hT⟩, hO, hNc⟩ := hv
  have hx := B.exec
  have hb := B.bytes
  have hr := B.returns
  have hts := atoms_spec (ws := wzL_course) B.pre
  have hown : s.vm.findClass RL = some m.cls := findClass_of_methodNamed B.named
  have hlocks := B.notSynchronized
  subst hsz
  have htab := vx_table (x := yL_course) B (hts _ (show Cond.codeWith yL_course cL_course 4 (some .int) [(0, 9, 12, 19)] ∈ wzL_course from List.mem_cons_self))
  have hS : va_S (hAo ad o s.heap.size) s.heap s.heap [] := va_S.rf
  have hTx : hTh (hA 38 ad s.heap.size) s := ⟨hT.1, hT.2.1.narrow (fun _ h => Or.inl h), hT.2.2.narrow (fun _ h => Or.inl h)⟩
  have hol : o < s.heap.size := hO.lt
  have hoA := hAo_out (sz := s.heap.size) ho hol
  have hl := lv_entry ([.ref (ad 0), .int a1, .ref o]) (n := 4) (Nat.le_of_ble_eq_true rfl)
  rw [lg_entry_eq]
  generalize (lg_sl ([.ref (ad 0), .int a1, .ref o]) ++ List.replicate (4 - (lg_sl ([.ref (ad 0), .int a1, .ref o])).length) Slot.unset).toArray = ls at hl ⊢
  have hl : lv_has ls 4 [(0, .ref (ad 0)), (1, .int a1), (2, .ref o)] := hl
  unfold wp_L_course at hw
  refine lv_aload_n hx hb dL_course_0 rfl (lv_at hl 2 rfl) ?_
  refine lv_iconst (v := 0) hx hb dL_course_1 (by decide) ?_
  refine lv_aload_n hx hb dL_course_2 rfl (lv_at hl 0 rfl) ?_
  refine lv_iload_n hx hb dL_course_3 rfl (lv_at hl 1 rfl) ?_
  refine vx_calli (vx_runV (As := [.int a1]) (rest := [.int 0, .ref o]) ⟨hx, hb, hml, hown, hts⟩ (kc_X11_course l hfl D cy 38 (Nat.le_refl 38) ad hJ0 σ _ a1 _ _ hw) (cwV 1 hts gzL_course_X11_course rfl rfl rfl (by decide +kernel) ⟨Nat.le_of_ble_eq_true rfl, Nat.le_of_ble_eq_true rfl⟩) (hx_preV hK hN1 hTx hP va_S.rf (by decide) (bX_0 _) rfl) rfl rfl hl.1 rfl (lv_room (Nat.le_of_ble_eq_true rfl)) dL_course_4 ⟨Nat.le_of_ble_eq_true rfl, Nat.le_of_ble_eq_true rfl⟩) hS (fun _ _ h => Or.inl h) (fun _ h => Or.inl h) (fun _ _ h => Or.inl h) (fun E ce q9 u t H1 locs1 ht hvm hpx hBX hz1 hk1 hS hce hcv hcl => ?_) (fun r u t H1 locs1 ht hvm hw hB hz1 hk1 hS => ?_)
  · obtain ⟨hX9, hP1⟩ := hBX
    rw [ht] at hP1
    have hO1 := hO.kept (hk1 o hol hoA)
    obtain ⟨rfl, hw⟩ := hX9
    refine vx_catch (own := RL) (name := "java/util/NoSuchElementException") hown [] ⟨0, 9, 12, 19⟩ [] htab (fun _ h => nomatch h) (by decide) (by decide) (hts (.classLink RL 19 "java/util/NoSuchElementException") (List.mem_of_getElem? (i := 1) rfl)) (va_Nw.use rfl (hT.1.2.1 _ (List.mem_of_getElem? (i := 0) rfl))) hce hcv hcl ?_
    refine lv_astore_n (lv' := [(3, .ref q9), (0, .ref (ad 0)), (1, .int a1), (2, .ref o)]) hx hb dL_course_12 rfl hl (by decide) rfl (fun ls hl => ?_)
    refine lv_iconst (v := 1) hx hb dL_course_13 (by decide) ?_
    exact W.iret (v := 1) hx hb hr (fun t9 ht9 _ => ⟨⟨1, (u, f), rfl, hw, by rw [ht9]; exact hP1, by rw [ht9]; exact hO1⟩, hS.F ht9⟩) hS.2.2 dL_course_14 hlocks
  · have hP1 : va_P D vwCl (hC 38 ad (bX cy ad) u) t.heap := hB
    rw [ht] at hP1
    have hO1 := hO.kept (hk1 o hol hoA)
    refine lv_i2l hx hb dL_course_7 rfl ?_
    refine hh_last hx hb hK hJ0 ho hP1 hO1 hS dL_course_8 (fun H locs hP hO hS => ?_)
    refine lv_goto (tgt := 15) hx hb dL_course_9 (by decide) ?_
    refine lv_iconst (v := 0) hx hb dL_course_15 (by decide) ?_
    exact W.iret (v := 0) hx hb hr (fun t9 ht9 _ => ⟨⟨0, (u, vp_updL f 0 r.toInt64), rfl, hw, by rw [ht9]; exact hP, by rw [ht9]; exact hO⟩, hS.F ht9⟩) hS.2.2 dL_course_16 hlocks
set_option maxHeartbeats 4000000 in
set_option maxRecDepth 100000 in
theorem kc_L_line (l : Launch) (hfl : l.stackTraces = false) (D : va_G) (cy : Nat → ClassId) (ad : Nat → Nat) (hJ0 : hJ 38 ad) (o : Nat) (ho : ∀ k, k < 38 → o ≠ ad k) (σ : hSt) (f : Nat → Int64) (sz : Nat) (a1 : Int32) (a2 : Int32) (a3 : Int32) (Q : Int32 → hSt → (Nat → Int64) → Prop) (hw : wp_L_line a1 a2 a3 σ f Q) : Met l yL_line wzL_line ({ frames := 8, cells := 2, slots := 12, locals := 137 } : Room) (va_Pc [.ref (ad 0), .int a1, .int a2, .int a3, .ref o] (hBH D cy (hC 38 ad (bX cy ad) σ) (hAo ad o sz) o f sz)) (va_Qi (fun (r : Int32) (u : hSt × (Nat → Int64)) => Q r u.1 u.2) (hEH D cy ad o) (hAo ad o sz)) 2 12 (hAo ad o sz) := by
  refine va_MetW (hh := [(0, 12, 15, 19)]) (cc := cL_line) (maxL := 6) (ret := some .int) (by decide) rfl ?_
  intro p e s m args below meth c s₁ B hml hv
  obtain ⟨rfl, ⟨⟨hsz, hP, hK, hN1⟩, hT⟩, hO, hNc⟩ := hv
  have hx := B.exec
  have hb := B.bytes
  have hr := B.returns
  have hts := atoms_spec (ws := wzL_line) B.pre
  have hown : s.vm.findClass RL = some m.cls := findClass_of_methodNamed B.named
  have hlocks := B.notSynchronized
  subst hsz
  have htab := vx_table (x := yL_line) B (hts _ (show Cond.codeWith yL_line cL_line 6 (some .int) [(0, 12, 15, 19)] ∈ wzL_line from List.mem_cons_self))
  have hS : va_S (hAo ad o s.heap.size) s.heap s.heap [] := va_S.rf
  have hTx : hTh (hA 38 ad s.heap.size) s := ⟨hT.1, hT.2.1.narrow (fun _ h => Or.inl h), hT.2.2.narrow (fun _ h => Or.inl h)⟩
  have hol : o < s.heap.size := hO.lt
  have hoA := hAo_out (sz := s.heap.size) ho hol
  have hl := lv_entry ([.ref (ad 0), .int a1, .int a2, .int a3, .ref o]) (n := 6) (Nat.le_of_ble_eq_true rfl)
  rw [lg_entry_eq]
  generalize (lg_sl ([.ref (ad 0), .int a1, .int a2, .int a3, .ref o]) ++ List.replicate (6 - (lg_sl ([.ref (ad 0), .int a1, .int a2, .int a3, .ref o])).length) Slot.unset).toArray = ls at hl ⊢
  have hl : lv_has ls 6 [(0, .ref (ad 0)), (1, .int a1), (2, .int a2), (3, .int a3), (4, .ref o)] := hl
  unfold wp_L_line at hw
  refine lv_aload hx hb dL_line_0 (lv_at hl 4 rfl) ?_
  refine lv_iconst (v := 0) hx hb dL_line_2 (by decide) ?_
  refine lv_aload_n hx hb dL_line_3 rfl (lv_at hl 0 rfl) ?_
  refine lv_iload_n hx hb dL_line_4 rfl (lv_at hl 1 rfl) ?_
  refine lv_iload_n hx hb dL_line_5 rfl (lv_at hl 2 rfl) ?_
  refine lv_iload_n hx hb dL_line_6 rfl (lv_at hl 3 rfl) ?_
  refine vx_calli (vx_runV (As := [.int a1, .int a2, .int a3]) (rest := [.int 0, .ref o]) ⟨hx, hb, hml, hown, hts⟩ (kc_X11_line l hfl D cy 38 (Nat.le_refl 38) ad hJ0 σ _ a1 a2 a3 _ _ hw) (cwV 3 hts gzL_line_X11_line rfl rfl rfl (by decide +kernel) ⟨Nat.le_of_ble_eq_true rfl, Nat.le_of_ble_eq_true rfl⟩) (hx_preV hK hN1 hTx hP va_S.rf (by decide) (bX_0 _) rfl) rfl rfl hl.1 rfl (lv_room (Nat.le_of_ble_eq_true rfl)) dL_line_7 ⟨Nat.le_of_ble_eq_true rfl, Nat.le_of_ble_eq_true rfl⟩) hS (fun _ _ h => Or.inl h) (fun _ h => Or.inl h) (fun _ _ h => Or.inl h) (fun E ce q9 u t H1 locs1 ht hvm hpx hBX hz1 hk1 hS hce hcv hcl => ?_) (fun r u t H1 locs1 ht hvm hw hB hz1 hk1 hS => ?_)
  · obtain ⟨hX9, hP1⟩ := hBX
    rw [ht] at hP1
    have hO1 := hO.kept (hk1 o hol hoA)
    obtain ⟨rfl, hw⟩ := hX9
    refine vx_catch (own := RL) (name := "java/util/NoSuchElementException") hown [] ⟨0, 12, 15, 19⟩ [] htab (fun _ h => nomatch h) (by decide) (by decide) (hts (.classLink RL 19 "java/util/NoSuchElementException") (List.mem_of_getElem? (i := 1) rfl)) (va_Nw.use rfl (hT.1.2.1 _ (List.mem_of_getElem? (i := 0) rfl))) hce hcv hcl ?_
    refine lv_astore (lv' := [(5, .ref q9), (0, .ref (ad 0)), (1, .int a1), (2, .int a2), (3, .int a3), (4, .ref o)]) hx hb dL_line_15 hl (by decide) rfl (fun ls hl => ?_)
    refine lv_iconst (v := 1) hx hb dL_line_17 (by decide) ?_
    exact W.iret (v := 1) hx hb hr (fun t9 ht9 _ => ⟨⟨1, (u, f), rfl, hw, by rw [ht9]; exact hP1, by rw [ht9]; exact hO1⟩, hS.F ht9⟩) hS.2.2 dL_line_18 hlocks
  · have hP1 : va_P D vwCl (hC 38 ad (bX cy ad) u) t.heap := hB
    rw [ht] at hP1
    have hO1 := hO.kept (hk1 o hol hoA)
    refine lv_i2l hx hb dL_line_10 rfl ?_
    refine hh_last hx hb hK hJ0 ho hP1 hO1 hS dL_line_11 (fun H locs hP hO hS => ?_)
    refine lv_goto (tgt := 19) hx hb dL_line_12 (by decide) ?_
    refine lv_iconst (v := 0) hx hb dL_line_19 (by decide) ?_
    exact W.iret (v := 0) hx hb hr (fun t9 ht9 _ => ⟨⟨0, (u, vp_updL f 0 r.toInt64), rfl, hw, by rw [ht9]; exact hP, by rw [ht9]; exact hO⟩, hS.F ht9⟩) hS.2.2 dL_line_20 hlocks
set_option maxHeartbeats 4000000 in
set_option maxRecDepth 100000 in
theorem kc_L_falseHeads (l : Launch) (hfl : l.stackTraces = false) (D : va_G) (cy : Nat → ClassId) (ad : Nat → Nat) (hJ0 : hJ 38 ad) (o : Nat) (ho : ∀ k, k < 38 → o ≠ ad k) (σ : hSt) (f : Nat → Int64) (sz : Nat) (a1 : Int32) (a2 : Int32) (Q : Int32 → hSt → (Nat → Int64) → Prop) (hw : wp_L_falseHeads a1 a2 σ f Q) : Met l yL_falseHeads wzL_falseHeads ({ frames := 8, cells := 2, slots := 12, locals := 129 } : Room) (va_Pc [.ref (ad 0), .int a1, .int a2, .ref o] (hBH D cy (hC 38 ad (bX cy ad) σ) (hAo ad o sz) o f sz)) (va_Qi (fun (r : Int32) (u : hSt × (Nat → Int64)) => Q r u.1 u.2) (hEH D cy ad o) (hAo ad o sz)) 2 12 (hAo ad o sz) := by
  refine va_MetW (hh := [(0, 10, 13, 19)]) (cc := cL_falseHeads) (maxL := 5) (ret := some .int) (by decide) rfl ?_
  intro p e s m args below meth c s₁ B hml hv
  obtain ⟨rfl, ⟨⟨hsz, hP, hK, hN1⟩, hT⟩, hO, hNc⟩ := hv
  have hx := B.exec
  have hb := B.bytes
  have hr := B.returns
  have hts := atoms_spec (ws := wzL_falseHeads) B.pre
  have hown : s.vm.findClass RL = some m.cls := findClass_of_methodNamed B.named
  have hlocks := B.notSynchronized
  subst hsz
  have htab := vx_table (x := yL_falseHeads) B (hts _ (show Cond.codeWith yL_falseHeads cL_falseHeads 5 (some .int) [(0, 10, 13, 19)] ∈ wzL_falseHeads from List.mem_cons_self))
  have hS : va_S (hAo ad o s.heap.size) s.heap s.heap [] := va_S.rf
  have hTx : hTh (hA 38 ad s.heap.size) s := ⟨hT.1, hT.2.1.narrow (fun _ h => Or.inl h), hT.2.2.narrow (fun _ h => Or.inl h)⟩
  have hol : o < s.heap.size := hO.lt
  have hoA := hAo_out (sz := s.heap.size) ho hol
  have hl := lv_entry ([.ref (ad 0), .int a1, .int a2, .ref o]) (n := 5) (Nat.le_of_ble_eq_true rfl)
  rw [lg_entry_eq]
  generalize (lg_sl ([.ref (ad 0), .int a1, .int a2, .ref o]) ++ List.replicate (5 - (lg_sl ([.ref (ad 0), .int a1, .int a2, .ref o])).length) Slot.unset).toArray = ls at hl ⊢
  have hl : lv_has ls 5 [(0, .ref (ad 0)), (1, .int a1), (2, .int a2), (3, .ref o)] := hl
  unfold wp_L_falseHeads at hw
  refine lv_aload_n hx hb dL_falseHeads_0 rfl (lv_at hl 3 rfl) ?_
  refine lv_iconst (v := 0) hx hb dL_falseHeads_1 (by decide) ?_
  refine lv_aload_n hx hb dL_falseHeads_2 rfl (lv_at hl 0 rfl) ?_
  refine lv_iload_n hx hb dL_falseHeads_3 rfl (lv_at hl 1 rfl) ?_
  refine lv_iload_n hx hb dL_falseHeads_4 rfl (lv_at hl 2 rfl) ?_
  refine vx_calli (vx_runV (As := [.int a1, .int a2]) (rest := [.int 0, .ref o]) ⟨hx, hb, hml, hown, hts⟩ (kc_X11_falseHeads l hfl D cy 38 (Nat.le_refl 38) ad hJ0 σ _ a1 a2 _ _ hw) (cwV 2 hts gzL_falseHeads_X11_falseHeads rfl rfl rfl (by decide +kernel) ⟨Nat.le_of_ble_eq_true rfl, Nat.le_of_ble_eq_true rfl⟩) (hx_preV hK hN1 hTx hP va_S.rf (by decide) (bX_0 _) rfl) rfl rfl hl.1 rfl (lv_room (Nat.le_of_ble_eq_true rfl)) dL_falseHeads_5 ⟨Nat.le_of_ble_eq_true rfl, Nat.le_of_ble_eq_true rfl⟩) hS (fun _ _ h => Or.inl h) (fun _ h => Or.inl h) (fun _ _ h => Or.inl h) (fun E ce q9 u t H1 locs1 ht hvm hpx hBX hz1 hk1 hS hce hcv hcl => ?_) (fun r u t H1 locs1 ht hvm hw hB hz1 hk1 hS => ?_)
  · obtain ⟨hX9, hP1⟩ := hBX
    rw [ht] at hP1
    have hO1 := hO.kept (hk1 o hol hoA)
    obtain ⟨rfl, hw⟩ := hX9
    refine vx_catch (own := RL) (name := "java/util/NoSuchElementException") hown [] ⟨0, 10, 13, 19⟩ [] htab (fun _ h => nomatch h) (by decide) (by decide) (hts (.classLink RL 19 "java/util/NoSuchElementException") (List.mem_of_getElem? (i := 1) rfl)) (va_Nw.use rfl (hT.1.2.1 _ (List.mem_of_getElem? (i := 0) rfl))) hce hcv hcl ?_
    refine lv_astore (lv' := [(4, .ref q9), (0, .ref (ad 0)), (1, .int a1), (2, .int a2), (3, .ref o)]) hx hb dL_falseHeads_13 hl (by decide) rfl (fun ls hl => ?_)
    refine lv_iconst (v := 1) hx hb dL_falseHeads_15 (by decide) ?_
    exact W.iret (v := 1) hx hb hr (fun t9 ht9 _ => ⟨⟨1, (u, f), rfl, hw, by rw [ht9]; exact hP1, by rw [ht9]; exact hO1⟩, hS.F ht9⟩) hS.2.2 dL_falseHeads_16 hlocks
  · have hP1 : va_P D vwCl (hC 38 ad (bX cy ad) u) t.heap := hB
    rw [ht] at hP1
    have hO1 := hO.kept (hk1 o hol hoA)
    refine lv_i2l hx hb dL_falseHeads_8 rfl ?_
    refine hh_last hx hb hK hJ0 ho hP1 hO1 hS dL_falseHeads_9 (fun H locs hP hO hS => ?_)
    refine lv_goto (tgt := 17) hx hb dL_falseHeads_10 (by decide) ?_
    refine lv_iconst (v := 0) hx hb dL_falseHeads_17 (by decide) ?_
    exact W.iret (v := 0) hx hb hr (fun t9 ht9 _ => ⟨⟨0, (u, vp_updL f 0 r.toInt64), rfl, hw, by rw [ht9]; exact hP, by rw [ht9]; exact hO⟩, hS.F ht9⟩) hS.2.2 dL_falseHeads_18 hlocks
set_option maxHeartbeats 4000000 in
set_option maxRecDepth 100000 in
theorem kc_L_falseHead (l : Launch) (hfl : l.stackTraces = false) (D : va_G) (cy : Nat → ClassId) (ad : Nat → Nat) (hJ0 : hJ 38 ad) (o : Nat) (ho : ∀ k, k < 38 → o ≠ ad k) (σ : hSt) (f : Nat → Int64) (sz : Nat) (a1 : Int32) (a2 : Int32) (a3 : Int32) (Q : Int32 → hSt → (Nat → Int64) → Prop) (hw : wp_L_falseHead a1 a2 a3 σ f Q) : Met l yL_falseHead wzL_falseHead ({ frames := 8, cells := 2, slots := 12, locals := 131 } : Room) (va_Pc [.ref (ad 0), .int a1, .int a2, .int a3, .ref o] (hBH D cy (hC 38 ad (bX cy ad) σ) (hAo ad o sz) o f sz)) (va_Qi (fun (r : Int32) (u : hSt × (Nat → Int64)) => Q r u.1 u.2) (hEH D cy ad o) (hAo ad o sz)) 2 12 (hAo ad o sz) := by
  refine va_MetW (hh := [(0, 12, 15, 19)]) (cc := cL_falseHead) (maxL := 6) (ret := some .int) (by decide) rfl ?_
  intro p e s m args below meth c s₁ B hml hv
  obtain ⟨rfl, ⟨⟨hsz, hP, hK, hN1⟩, hT⟩, hO, hNc⟩ := hv
  have hx := B.exec
  have hb := B.bytes
  have hr := B.returns
  have hts := atoms_spec (ws := wzL_falseHead) B.pre
  have hown : s.vm.findClass RL = some m.cls := findClass_of_methodNamed B.named
  have hlocks := B.notSynchronized
  subst hsz
  have htab := vx_table (x := yL_falseHead) B (hts _ (show Cond.codeWith yL_falseHead cL_falseHead 6 (some .int) [(0, 12, 15, 19)] ∈ wzL_falseHead from List.mem_cons_self))
  have hS : va_S (hAo ad o s.heap.size) s.heap s.heap [] := va_S.rf
  have hTx : hTh (hA 38 ad s.heap.size) s := ⟨hT.1, hT.2.1.narrow (fun _ h => Or.inl h), hT.2.2.narrow (fun _ h => Or.inl h)⟩
  have hol : o < s.heap.size := hO.lt
  have hoA := hAo_out (sz := s.heap.size) ho hol
  have hl := lv_entry ([.ref (ad 0), .int a1, .int a2, .int a3, .ref o]) (n := 6) (Nat.le_of_ble_eq_true rfl)
  rw [lg_entry_eq]
  generalize (lg_sl ([.ref (ad 0), .int a1, .int a2, .int a3, .ref o]) ++ List.replicate (6 - (lg_sl ([.ref (ad 0), .int a1, .int a2, .int a3, .ref o])).length) Slot.unset).toArray = ls at hl ⊢
  have hl : lv_has ls 6 [(0, .ref (ad 0)), (1, .int a1), (2, .int a2), (3, .int a3), (4, .ref o)] := hl
  unfold wp_L_falseHead at hw
  refine lv_aload hx hb dL_falseHead_0 (lv_at hl 4 rfl) ?_
  refine lv_iconst (v := 0) hx hb dL_falseHead_2 (by decide) ?_
  refine lv_aload_n hx hb dL_falseHead_3 rfl (lv_at hl 0 rfl) ?_
  refine lv_iload_n hx hb dL_falseHead_4 rfl (lv_at hl 1 rfl) ?_
  refine lv_iload_n hx hb dL_falseHead_5 rfl (lv_at hl 2 rfl) ?_
  refine lv_iload_n hx hb dL_falseHead_6 rfl (lv_at hl 3 rfl) ?_
  refine vx_calli (vx_runV (As := [.int a1, .int a2, .int a3]) (rest := [.int 0, .ref o]) ⟨hx, hb, hml, hown, hts⟩ (kc_X11_falseHead l hfl D cy 38 (Nat.le_refl 38) ad hJ0 σ _ a1 a2 a3 _ _ hw) (cwV 3 hts gzL_falseHead_X11_falseHead rfl rfl rfl (by decide +kernel) ⟨Nat.le_of_ble_eq_true rfl, Nat.le_of_ble_eq_true rfl⟩) (hx_preV hK hN1 hTx hP va_S.rf (by decide) (bX_0 _) rfl) rfl rfl hl.1 rfl (lv_room (Nat.le_of_ble_eq_true rfl)) dL_falseHead_7 ⟨Nat.le_of_ble_eq_true rfl, Nat.le_of_ble_eq_true rfl⟩) hS (fun _ _ h => Or.inl h) (fun _ h => Or.inl h) (fun _ _ h => Or.inl h) (fun E ce q9 u t H1 locs1 ht hvm hpx hBX hz1 hk1 hS hce hcv hcl => ?_) (fun r u t H1 locs1 ht hvm hw hB hz1 hk1 hS => ?_)
  · obtain ⟨hX9, hP1⟩ := hBX
    rw [ht] at hP1
    have hO1 := hO.kept (hk1 o hol hoA)
    obtain ⟨rfl, hw⟩ := hX9
    refine vx_catch (own := RL) (name := "java/util/NoSuchElementException") hown [] ⟨0, 12, 15, 19⟩ [] htab (fun _ h => nomatch h) (by decide) (by decide) (hts (.classLink RL 19 "java/util/NoSuchElementException") (List.mem_of_getElem? (i := 1) rfl)) (va_Nw.use rfl (hT.1.2.1 _ (List.mem_of_getElem? (i := 0) rfl))) hce hcv hcl ?_
    refine lv_astore (lv' := [(5, .ref q9), (0, .ref (ad 0)), (1, .int a1), (2, .int a2), (3, .int a3), (4, .ref o)]) hx hb dL_falseHead_15 hl (by decide) rfl (fun ls hl => ?_)
    refine lv_iconst (v := 1) hx hb dL_falseHead_17 (by decide) ?_
    exact W.iret (v := 1) hx hb hr (fun t9 ht9 _ => ⟨⟨1, (u, f), rfl, hw, by rw [ht9]; exact hP1, by rw [ht9]; exact hO1⟩, hS.F ht9⟩) hS.2.2 dL_falseHead_18 hlocks
  · have hP1 : va_P D vwCl (hC 38 ad (bX cy ad) u) t.heap := hB
    rw [ht] at hP1
    have hO1 := hO.kept (hk1 o hol hoA)
    refine lv_i2l hx hb dL_falseHead_10 rfl ?_
    refine hh_last hx hb hK hJ0 ho hP1 hO1 hS dL_falseHead_11 (fun H locs hP hO hS => ?_)
    refine lv_goto (tgt := 19) hx hb dL_falseHead_12 (by decide) ?_
    refine lv_iconst (v := 0) hx hb dL_falseHead_19 (by decide) ?_
    exact W.iret (v := 0) hx hb hr (fun t9 ht9 _ => ⟨⟨0, (u, vp_updL f 0 r.toInt64), rfl, hw, by rw [ht9]; exact hP, by rw [ht9]; exact hO⟩, hS.F ht9⟩) hS.2.2 dL_falseHead_20 hlocks
set_option maxHeartbeats 4000000 in
set_option maxRecDepth 100000 in
theorem kc_L_called (l : Launch) (hfl : l.stackTraces = false) (D : va_G) (cy : Nat → ClassId) (ad : Nat → Nat) (hJ0 : hJ 38 ad) (o : Nat) (ho : ∀ k, k < 38 → o ≠ ad k) (σ : hSt) (f : Nat → Int64) (sz : Nat) (a1 : Int32) (a2 : Int32) (Q : Int32 → hSt → (Nat → Int64) → Prop) (hw : wp_L_called a1 a2 σ f Q) : Met l yL_called wzL_called ({ frames := 7, cells := 1, slots := 6, locals := 108 } : Room) (va_Pc [.ref (ad 0), .int a1, .int a2, .ref o] (hBH D cy (hC 38 ad (bX cy ad) σ) (hAo ad o sz) o f sz)) (va_Qi (fun (r : Int32) (u : hSt × (Nat → Int64)) => Q r u.1 u.2) (hEH D cy ad o) (hAo ad o sz)) 1 6 (hAo ad o sz) := by
  refine va_MetW (hh := [(0, 10, 13, 19)]) (cc := cL_called) (maxL := 5) (ret := some .int) (by decide) rfl ?_
  intro p e s m args below meth c s₁ B hml hv
  obtain ⟨rfl, ⟨⟨hsz, hP, hK, hN1⟩, hT⟩, hO, hNc⟩ := hv
  have hx := B.exec
  have hb := B.bytes
  have hr := B.returns
  have hts := atoms_spec (ws := wzL_called) B.pre
  have hown : s.vm.findClass RL = some m.cls := findClass_of_methodNamed B.named
  have hlocks := B.notSynchronized
  subst hsz
  have htab := vx_table (x := yL_called) B (hts _ (show Cond.codeWith yL_called cL_called 5 (some .int) [(0, 10, 13, 19)] ∈ wzL_called from List.mem_cons_self))
  have hS : va_S (hAo ad o s.heap.size) s.heap s.heap [] := va_S.rf
  have hTx : hTh (hA 38 ad s.heap.size) s := ⟨hT.1, hT.2.1.narrow (fun _ h => Or.inl h), hT.2.2.narrow (fun _ h => Or.inl h)⟩
  have hol : o < s.heap.size := hO.lt
  have hoA := hAo_out (sz := s.heap.size) ho hol
  have hl := lv_entry ([.ref (ad 0), .int a1, .int a2, .ref o]) (n := 5) (Nat.le_of_ble_eq_true rfl)
  rw [lg_entry_eq]
  generalize (lg_sl ([.ref (ad 0), .int a1, .int a2, .ref o]) ++ List.replicate (5 - (lg_sl ([.ref (ad 0), .int a1, .int a2, .ref o])).length) Slot.unset).toArray = ls at hl ⊢
  have hl : lv_has ls 5 [(0, .ref (ad 0)), (1, .int a1), (2, .int a2), (3, .ref o)] := hl
  unfold wp_L_called at hw
  refine lv_aload_n hx hb dL_called_0 rfl (lv_at hl 3 rfl) ?_
  refine lv_iconst (v := 0) hx hb dL_called_1 (by decide) ?_
  refine lv_aload_n hx hb dL_called_2 rfl (lv_at hl 0 rfl) ?_
  refine lv_iload_n hx hb dL_called_3 rfl (lv_at hl 1 rfl) ?_
  refine lv_iload_n hx hb dL_called_4 rfl (lv_at hl 2 rfl) ?_
  refine vx_calli (vx_runV (As := [.int a1, .int a2]) (rest := [.int 0, .ref o]) ⟨hx, hb, hml, hown, hts⟩ (kc_X11_called l hfl D cy 38 (Nat.le_refl 38) ad hJ0 σ _ a1 a2 _ _ hw) (cwV 2 hts gzL_called_X11_called rfl rfl rfl (by decide +kernel) ⟨Nat.le_of_ble_eq_true rfl, Nat.le_of_ble_eq_true rfl⟩) (hx_preV hK hN1 hTx hP va_S.rf (by decide) (bX_0 _) rfl) rfl rfl hl.1 rfl (lv_room (Nat.le_of_ble_eq_true rfl)) dL_called_5 ⟨Nat.le_of_ble_eq_true rfl, Nat.le_of_ble_eq_true rfl⟩) hS (fun _ _ h => Or.inl h) (fun _ h => Or.inl h) (fun _ _ h => Or.inl h) (fun E ce q9 u t H1 locs1 ht hvm hpx hBX hz1 hk1 hS hce hcv hcl => ?_) (fun r u t H1 locs1 ht hvm hw hB hz1 hk1 hS => ?_)
  · obtain ⟨hX9, hP1⟩ := hBX
    rw [ht] at hP1
    have hO1 := hO.kept (hk1 o hol hoA)
    obtain ⟨rfl, hw⟩ := hX9
    refine vx_catch (own := RL) (name := "java/util/NoSuchElementException") hown [] ⟨0, 10, 13, 19⟩ [] htab (fun _ h => nomatch h) (by decide) (by decide) (hts (.classLink RL 19 "java/util/NoSuchElementException") (List.mem_of_getElem? (i := 1) rfl)) (va_Nw.use rfl (hT.1.2.1 _ (List.mem_of_getElem? (i := 0) rfl))) hce hcv hcl ?_
    refine lv_astore (lv' := [(4, .ref q9), (0, .ref (ad 0)), (1, .int a1), (2, .int a2), (3, .ref o)]) hx hb dL_called_13 hl (by decide) rfl (fun ls hl => ?_)
    refine lv_iconst (v := 1) hx hb dL_called_15 (by decide) ?_
    exact W.iret (v := 1) hx hb hr (fun t9 ht9 _ => ⟨⟨1, (u, f), rfl, hw, by rw [ht9]; exact hP1, by rw [ht9]; exact hO1⟩, hS.F ht9⟩) hS.2.2 dL_called_16 hlocks
  · have hP1 : va_P D vwCl (hC 38 ad (bX cy ad) u) t.heap := hB
    rw [ht] at hP1
    have hO1 := hO.kept (hk1 o hol hoA)
    refine lv_i2l hx hb dL_called_8 rfl ?_
    refine hh_last hx hb hK hJ0 ho hP1 hO1 hS dL_called_9 (fun H locs hP hO hS => ?_)
    refine lv_goto (tgt := 17) hx hb dL_called_10 (by decide) ?_
    refine lv_iconst (v := 0) hx hb dL_called_17 (by decide) ?_
    exact W.iret (v := 0) hx hb hr (fun t9 ht9 _ => ⟨⟨0, (u, vp_updL f 0 r.toInt64), rfl, hw, by rw [ht9]; exact hP, by rw [ht9]; exact hO⟩, hS.F ht9⟩) hS.2.2 dL_called_18 hlocks
set_option maxHeartbeats 4000000 in
set_option maxRecDepth 100000 in
theorem kc_L_row (l : Launch) (hfl : l.stackTraces = false) (D : va_G) (cy : Nat → ClassId) (ad : Nat → Nat) (hJ0 : hJ 38 ad) (o : Nat) (ho : ∀ k, k < 38 → o ≠ ad k) (σ : hSt) (f : Nat → Int64) (sz : Nat) (a1 : Int32) (Q : Int32 → hSt → (Nat → Int64) → Prop) (hw : wp_L_row a1 σ f Q) : Met l yL_row wzL_row ({ frames := 7, cells := 1, slots := 6, locals := 107 } : Room) (va_Pc [.ref (ad 0), .int a1, .ref o] (hBH D cy (hC 38 ad (bX cy ad) σ) (hAo ad o sz) o f sz)) (va_Qi (fun (r : Int32) (u : hSt × (Nat → Int64)) => Q r u.1 u.2) (hEH D cy ad o) (hAo ad o sz)) 1 6 (hAo ad o sz) := by
  refine va_MetW (hh := [(0, 9, 12, 19)]) (cc := cL_row) (maxL := 4) (ret := some .int) (by decide) rfl ?_
  intro p e s m args below meth c s₁ B hml hv
  obtain ⟨rfl, ⟨⟨hsz, hP, hK, hN1⟩, hT⟩, hO, hNc⟩ := hv
  have hx := B.exec
  have hb := B.bytes
  have hr := B.returns
  have hts := atoms_spec (ws := wzL_row) B.pre
  have hown : s.vm.findClass RL = some m.cls := findClass_of_methodNamed B.named
  have hlocks := B.notSynchronized
  subst hsz
  have htab := vx_table (x := yL_row) B (hts _ (show Cond.codeWith yL_row cL_row 4 (some .int) [(0, 9, 12, 19)] ∈ wzL_row from List.mem_cons_self))
  have hS : va_S (hAo ad o s.heap.size) s.heap s.heap [] := va_S.rf
  have hTx : hTh (hA 38 ad s.heap.size) s := ⟨hT.1, hT.2.1.narrow (fun _ h => Or.inl h), hT.2.2.narrow (fun _ h => Or.inl h)⟩
  have hol : o < s.heap.size := hO.lt
  have hoA := hAo_out (sz := s.heap.size) ho hol
  have hl := lv_entry ([.ref (ad 0), .int a1, .ref o]) (n := 4) (Nat.le_of_ble_eq_true rfl)
  rw [lg_entry_eq]
  generalize (lg_sl ([.ref (ad 0), .int a1, .ref o]) ++ List.replicate (4 - (lg_sl ([.ref (ad 0), .int a1, .ref o])).length) Slot.unset).toArray = ls at hl ⊢
  have hl : lv_has ls 4 [(0, .ref (ad 0)), (1, .int a1), (2, .ref o)] := hl
  unfold wp_L_row at hw
  refine lv_aload_n hx hb dL_row_0 rfl (lv_at hl 2 rfl) ?_
  refine lv_iconst (v := 0) hx hb dL_row_1 (by decide) ?_
  refine lv_aload_n hx hb dL_row_2 rfl (lv_at hl 0 rfl) ?_
  refine lv_iload_n hx hb dL_row_3 rfl (lv_at hl 1 rfl) ?_
  refine vx_calli (vx_runV (As := [.int a1]) (rest := [.int 0, .ref o]) ⟨hx, hb, hml, hown, hts⟩ (kc_X11_row l hfl D cy 38 (Nat.le_refl 38) ad hJ0 σ _ a1 _ _ hw) (cwV 1 hts gzL_row_X11_row rfl rfl rfl (by decide +kernel) ⟨Nat.le_of_ble_eq_true rfl, Nat.le_of_ble_eq_true rfl⟩) (hx_preV hK hN1 hTx hP va_S.rf (by decide) (bX_0 _) rfl) rfl rfl hl.1 rfl (lv_room (Nat.le_of_ble_eq_true rfl)) dL_row_4 ⟨Nat.le_of_ble_eq_true rfl, Nat.le_of_ble_eq_true rfl⟩) hS (fun _ _ h => Or.inl h) (fun _ h => Or.inl h) (fun _ _ h => Or.inl h) (fun E ce q9 u t H1 locs1 ht hvm hpx hBX hz1 hk1 hS hce hcv hcl => ?_) (fun r u t H1 locs1 ht hvm hw hB hz1 hk1 hS => ?_)
  · obtain ⟨hX9, hP1⟩ := hBX
    rw [ht] at hP1
    have hO1 := hO.kept (hk1 o hol hoA)
    obtain ⟨rfl, hw⟩ := hX9
    refine vx_catch (own := RL) (name := "java/util/NoSuchElementException") hown [] ⟨0, 9, 12, 19⟩ [] htab (fun _ h => nomatch h) (by decide) (by decide) (hts (.classLink RL 19 "java/util/NoSuchElementException") (List.mem_of_getElem? (i := 1) rfl)) (va_Nw.use rfl (hT.1.2.1 _ (List.mem_of_getElem? (i := 0) rfl))) hce hcv hcl ?_
    refine lv_astore_n (lv' := [(3, .ref q9), (0, .ref (ad 0)), (1, .int a1), (2, .ref o)]) hx hb dL_row_12 rfl hl (by decide) rfl (fun ls hl => ?_)
    refine lv_iconst (v := 1) hx hb dL_row_13 (by decide) ?_
    exact W.iret (v := 1) hx hb hr (fun t9 ht9 _ => ⟨⟨1, (u, f), rfl, hw, by rw [ht9]; exact hP1, by rw [ht9]; exact hO1⟩, hS.F ht9⟩) hS.2.2 dL_row_14 hlocks
  · have hP1 : va_P D vwCl (hC 38 ad (bX cy ad) u) t.heap := hB
    rw [ht] at hP1
    have hO1 := hO.kept (hk1 o hol hoA)
    refine lv_i2l hx hb dL_row_7 rfl ?_
    refine hh_last hx hb hK hJ0 ho hP1 hO1 hS dL_row_8 (fun H locs hP hO hS => ?_)
    refine lv_goto (tgt := 15) hx hb dL_row_9 (by decide) ?_
    refine lv_iconst (v := 0) hx hb dL_row_15 (by decide) ?_
    exact W.iret (v := 0) hx hb hr (fun t9 ht9 _ => ⟨⟨0, (u, vp_updL f 0 r.toInt64), rfl, hw, by rw [ht9]; exact hP, by rw [ht9]; exact hO⟩, hS.F ht9⟩) hS.2.2 dL_row_16 hlocks
set_option maxHeartbeats 4000000 in
set_option maxRecDepth 100000 in
theorem kc_L_find (l : Launch) (hfl : l.stackTraces = false) (D : va_G) (cy : Nat → ClassId) (ad : Nat → Nat) (hJ0 : hJ 38 ad) (o : Nat) (ho : ∀ k, k < 38 → o ≠ ad k) (σ : hSt) (f : Nat → Int64) (sz : Nat) (a1 : Int32) (a2 : Int32) (a3 : Int32) (Q : Int32 → hSt → (Nat → Int64) → Prop) (hw : wp_L_find a1 a2 a3 σ f Q) : Met l yL_find wzL_find ({ frames := 8, cells := 2, slots := 12, locals := 167 } : Room) (va_Pc [.ref (ad 0), .int a1, .int a2, .int a3, .ref o] (hBH D cy (hC 38 ad (bX cy ad) σ) (hAo ad o sz) o f sz)) (va_Qi (fun (r : Int32) (u : hSt × (Nat → Int64)) => Q r u.1 u.2) (hEH D cy ad o) (hAo ad o sz)) 2 12 (hAo ad o sz) := by
  refine va_MetW (hh := [(0, 12, 15, 46), (0, 12, 19, 19)]) (cc := cL_find) (maxL := 6) (ret := some .int) (by decide) rfl ?_
  intro p e s m args below meth c s₁ B hml hv
  obtain ⟨rfl, ⟨⟨hsz, hP, hK, hN1⟩, hT⟩, hO, hNc⟩ := hv
  have hx := B.exec
  have hb := B.bytes
  have hr := B.returns
  have hts := atoms_spec (ws := wzL_find) B.pre
  have hown : s.vm.findClass RL = some m.cls := findClass_of_methodNamed B.named
  have hlocks := B.notSynchronized
  subst hsz
  have htab := vx_table (x := yL_find) B (hts _ (show Cond.codeWith yL_find cL_find 6 (some .int) [(0, 12, 15, 46), (0, 12, 19, 19)] ∈ wzL_find from List.mem_cons_self))
  have hS : va_S (hAo ad o s.heap.size) s.heap s.heap [] := va_S.rf
  have hTx : hTh (hA 38 ad s.heap.size) s := ⟨hT.1, hT.2.1.narrow (fun _ h => Or.inl h), hT.2.2.narrow (fun _ h => Or.inl h)⟩
  have hol : o < s.heap.size := hO.lt
  have hoA := hAo_out (sz := s.heap.size) ho hol
  have hl := lv_entry ([.ref (ad 0), .int a1, .int a2, .int a3, .ref o]) (n := 6) (Nat.le_of_ble_eq_true rfl)
  rw [lg_entry_eq]
  generalize (lg_sl ([.ref (ad 0), .int a1, .int a2, .int a3, .ref o]) ++ List.replicate (6 - (lg_sl ([.ref (ad 0), .int a1, .int a2, .int a3, .ref o])).length) Slot.unset).toArray = ls at hl ⊢
  have hl : lv_has ls 6 [(0, .ref (ad 0)), (1, .int a1), (2, .int a2), (3, .int a3), (4, .ref o)] := hl
  unfold wp_L_find at hw
  refine lv_aload hx hb dL_find_0 (lv_at hl 4 rfl) ?_
  refine lv_iconst (v := 0) hx hb dL_find_2 (by decide) ?_
  refine lv_aload_n hx hb dL_find_3 rfl (lv_at hl 0 rfl) ?_
  refine lv_iload_n hx hb dL_find_4 rfl (lv_at hl 1 rfl) ?_
  refine lv_iload_n hx hb dL_find_5 rfl (lv_at hl 2 rfl) ?_
  refine lv_iload_n hx hb dL_find_6 rfl (lv_at hl 3 rfl) ?_
  refine vx_calli (vx_runV (As := [.int a1, .int a2, .int a3]) (rest := [.int 0, .ref o]) ⟨hx, hb, hml, hown, hts⟩ (kc_X11_find l hfl D cy 38 (Nat.le_refl 38) ad hJ0 σ _ a1 a2 a3 _ _ hw) (cwV 3 hts gzL_find_X11_find rfl rfl rfl (by decide +kernel) ⟨Nat.le_of_ble_eq_true rfl, Nat.le_of_ble_eq_true rfl⟩) (hx_preV hK hN1 hTx hP va_S.rf (by decide) (bX_0 _) rfl) rfl rfl hl.1 rfl (lv_room (Nat.le_of_ble_eq_true rfl)) dL_find_7 ⟨Nat.le_of_ble_eq_true rfl, Nat.le_of_ble_eq_true rfl⟩) hS (fun _ _ h => Or.inl h) (fun _ h => Or.inl h) (fun _ _ h => Or.inl h) (fun E ce q9 u t H1 locs1 ht hvm hpx hBX hz1 hk1 hS hce hcv hcl => ?_) (fun r u t H1 locs1 ht hvm hw hB hz1 hk1 hS => ?_)
  · obtain ⟨hX9, hP1⟩ := hBX
    rw [ht] at hP1
    have hO1 := hO.kept (hk1 o hol hoA)
    rcases hX9 with ⟨rfl, hw⟩ | ⟨rfl, hw⟩
    · refine vx_catch (own := RL) (name := "java/lang/IllegalArgumentException") hown [] ⟨0, 12, 15, 46⟩ [⟨0, 12, 19, 19⟩] htab (fun _ h => nomatch h) (by decide) (by decide) (hts (.classLink RL 46 "java/lang/IllegalArgumentException") (List.mem_of_getElem? (i := 1) rfl)) (va_Nw.use rfl (hT.1.2.1 _ (List.mem_of_getElem? (i := 1) rfl))) hce hcv hcl ?_
      refine lv_astore (lv' := [(5, .ref q9), (0, .ref (ad 0)), (1, .int a1), (2, .int a2), (3, .int a3), (4, .ref o)]) hx hb dL_find_15 hl (by decide) rfl (fun ls hl => ?_)
      refine lv_iconst (v := 1) hx hb dL_find_17 (by decide) ?_
      exact W.iret (v := 1) hx hb hr (fun t9 ht9 _ => ⟨⟨1, (u, f), rfl, hw, by rw [ht9]; exact hP1, by rw [ht9]; exact hO1⟩, hS.F ht9⟩) hS.2.2 dL_find_18 hlocks
    · refine vx_catch (own := RL) (name := "java/util/NoSuchElementException") hown [⟨0, 12, 15, 46⟩] ⟨0, 12, 19, 19⟩ [] htab (fun z hz => by rcases List.mem_singleton.mp hz with rfl; exact Or.inr ⟨by decide, _, hts (.classLink RL 46 "java/lang/IllegalArgumentException") (List.mem_of_getElem? (i := 1) rfl), hNc⟩) (by decide) (by decide) (hts (.classLink RL 19 "java/util/NoSuchElementException") (List.mem_of_getElem? (i := 2) rfl)) (va_Nw.use rfl (hT.1.2.1 _ (List.mem_of_getElem? (i := 0) rfl))) hce hcv hcl ?_
      refine lv_astore (lv' := [(5, .ref q9), (0, .ref (ad 0)), (1, .int a1), (2, .int a2), (3, .int a3), (4, .ref o)]) hx hb dL_find_19 hl (by decide) rfl (fun ls hl => ?_)
      refine lv_iconst (v := 2) hx hb dL_find_21 (by decide) ?_
      exact W.iret (v := 2) hx hb hr (fun t9 ht9 _ => ⟨⟨2, (u, f), rfl, hw, by rw [ht9]; exact hP1, by rw [ht9]; exact hO1⟩, hS.F ht9⟩) hS.2.2 dL_find_22 hlocks
  · have hP1 : va_P D vwCl (hC 38 ad (bX cy ad) u) t.heap := hB
    rw [ht] at hP1
    have hO1 := hO.kept (hk1 o hol hoA)
    refine lv_i2l hx hb dL_find_10 rfl ?_
    refine hh_last hx hb hK hJ0 ho hP1 hO1 hS dL_find_11 (fun H locs hP hO hS => ?_)
    refine lv_goto (tgt := 23) hx hb dL_find_12 (by decide) ?_
    refine lv_iconst (v := 0) hx hb dL_find_23 (by decide) ?_
    exact W.iret (v := 0) hx hb hr (fun t9 ht9 _ => ⟨⟨0, (u, vp_updL f 0 r.toInt64), rfl, hw, by rw [ht9]; exact hP, by rw [ht9]; exact hO⟩, hS.F ht9⟩) hS.2.2 dL_find_24 hlocks

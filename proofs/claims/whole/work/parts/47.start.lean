set_option maxHeartbeats 4000000 in
set_option maxRecDepth 20000 in
/-- the law from its entry, given what its loop keeps -/
theorem law_start {p : Program} {e : Env} {s : State} {m : MethodId} {below : List Frame} {meth : Method} {c : Code} (l : Launch) (hflags : l.flags = flags0) {b L : Nat} {xs : Nat → Int32} (hL : L ≤ 3072) (C0 : lw_At p s m meth c b L xs) (rv : Int32) (hrv : wp_X6_rounds (6 : Int32) (fun r => r = rv))
    (I : Nat → hSt → hSt → (Nat → Int64) → Prop) (hI0 : I 0 (σX0 rv) σY0 (fun _ => 0)) (hstep : ∀ (j : Nat) (σ τ : hSt) (w f : Nat → Int64) (a : Nat → Int32), j < 512 → I j σ τ w → wp_law a σ τ w f (I (j + 1))) :
    W p l e room_1 s m #[Value.ref b] below meth c s.heap [] 0 0 (lw_Z below #[Value.ref b] s) (entryFrame m ([Value.ref b] : List Value).toArray 7) := by
  obtain ⟨hx, hb, hr, hml, hown, hts0, hX, hbl, hlocks, hgv⟩ := C0
  have hts := wzL_law_hts hts0
  have hfl : l.stackTraces = false := by unfold Launch.stackTraces; rw [hflags]; decide
  obtain ⟨D, cy, hK⟩ := st_K hts0
  have hN1 := st_N hts0
  have hO := st_AO hts0
  have hT := st_T hts0 hgv
  have hNc := st_Nc hgv
  have hl := lv_entry ([.ref b]) (n := 7) (Nat.le_of_ble_eq_true rfl)
  rw [lg_entry_eq]
  generalize (lg_sl ([.ref b]) ++ List.replicate (7 - (lg_sl ([.ref b])).length) Slot.unset).toArray = ls at hl ⊢
  have hl : lv_has ls 7 [(0, .ref b)] := hl
  generalize hAe : (fun q => s.heap.size ≤ q) = A
  have hA : ∀ q : Nat, s.heap.size ≤ q → A q := fun q h => by rw [← hAe]; exact h
  have hS : va_S A s.heap s.heap [] := va_S.rf
  have hP : va_P D vwCl [] s.heap := fun k q h => (by cases h)
  have hD : va_D A [] := ⟨fun i j p q h => (by cases h), fun k q h => (by cases h)⟩
  refine va_new (ci := 9) (fs := [.int 0, .int 0, .null, .null, .null, .null, .null, .null, .null]) (C := RX11) (T := TX11) (N := 9) hx hb hts st_iX11 tyX11 tyX11_ok hown (hts (.classLink RL 8 RX11) (List.mem_of_getElem? (i := 0) rfl)) (hts (.instantiable RX11 9) (List.mem_of_getElem? (i := 1) rfl)) (hts (.initialized RX11) (List.mem_of_getElem? (i := 2) rfl)) hK hP hD hS hA rfl (fun j hj => by rcases (show j = 0 ∨ j = 1 ∨ j = 2 ∨ j = 3 ∨ j = 4 ∨ j = 5 ∨ j = 6 ∨ j = 7 ∨ j = 8 by omega) with rfl | rfl | rfl | rfl | rfl | rfl | rfl | rfl | rfl <;> rfl) (Nat.le_of_ble_eq_true rfl) (Nat.le_of_ble_eq_true rfl) dL_law_0 (fun h0 H hP hD hS => ?_)
  refine lv_dup hx hb dL_law_3 rfl ?_
  refine hc_call (wc := [(h0, .inr (9, [.int 0, .int 0, .null, .null, .null, .null, .null, .null, .null]))]) (wr := []) hP hD hA [0] [] rfl rfl (by decide) (by decide) (va_runI (As := []) (rest := [.ref h0]) ⟨hx, hb, hml, hown, hts⟩ (kc_X11_init l D cy h0 _ rv hrv) (cwI 0 hts gzL_law_X11_init rfl rfl rfl (hts (.initialized RX11) (List.mem_of_getElem? (i := 2) rfl)) (hts (.methodLink RL 48 yX11_init) (List.mem_of_getElem? (i := 7) rfl)) (hts (.instanceMethod yX11_init) (List.mem_of_getElem? (i := 8) rfl)) rfl (by decide +kernel) ⟨Nat.le_of_ble_eq_true rfl, Nat.le_of_ble_eq_true rfl⟩) (hc_pre hK hN1 hO hP hD) rfl rfl hl.1 rfl (lv_room (Nat.le_of_ble_eq_true rfl)) dL_law_4 ⟨Nat.le_of_ble_eq_true rfl, Nat.le_of_ble_eq_true rfl⟩) hS (fun w1 H locs hw hP hD hS => ?_)
  obtain ⟨qx, hq0, rfl⟩ := stX_w hw
  have hP : va_P D vwCl (wX0 cy qx rv) H := hP
  have hD : va_D A (wX0 cy qx rv) := hD
  refine lv_astore_n (lv' := [(1, .ref h0), (0, .ref b)]) hx hb dL_law_7 rfl hl (by decide) rfl (fun ls hl => ?_)
  refine va_new (ci := 10) (fs := [.int 0, .int 0, .null, .null, .null, .null, .int 0, .null, .int 0, .int 0, .int 0, .int 0, .int 0, .int 0, .null, .null, .int 0, .null, .null, .null, .int 0, .null, .null, .null, .null, .null, .null, .int 0, .null, .int 0, .int 0, .int 0, .null, .int 0, .null, .null, .null, .int 0]) (C := RX12) (T := TX12) (N := 38) hx hb hts st_iX12 tyX12 tyX12_ok hown (hts (.classLink RL 49 RX12) (List.mem_of_getElem? (i := 3) rfl)) (hts (.instantiable RX12 38) (List.mem_of_getElem? (i := 4) rfl)) (hts (.initialized RX12) (List.mem_of_getElem? (i := 5) rfl)) hK hP hD hS hA rfl (fun j hj => by rcases (show j = 0 ∨ j = 1 ∨ j = 2 ∨ j = 3 ∨ j = 4 ∨ j = 5 ∨ j = 6 ∨ j = 7 ∨ j = 8 ∨ j = 9 ∨ j = 10 ∨ j = 11 ∨ j = 12 ∨ j = 13 ∨ j = 14 ∨ j = 15 ∨ j = 16 ∨ j = 17 ∨ j = 18 ∨ j = 19 ∨ j = 20 ∨ j = 21 ∨ j = 22 ∨ j = 23 ∨ j = 24 ∨ j = 25 ∨ j = 26 ∨ j = 27 ∨ j = 28 ∨ j = 29 ∨ j = 30 ∨ j = 31 ∨ j = 32 ∨ j = 33 ∨ j = 34 ∨ j = 35 ∨ j = 36 ∨ j = 37 by omega) with rfl | rfl | rfl | rfl | rfl | rfl | rfl | rfl | rfl | rfl | rfl | rfl | rfl | rfl | rfl | rfl | rfl | rfl | rfl | rfl | rfl | rfl | rfl | rfl | rfl | rfl | rfl | rfl | rfl | rfl | rfl | rfl | rfl | rfl | rfl | rfl | rfl | rfl <;> rfl) (Nat.le_of_ble_eq_true rfl) (Nat.le_of_ble_eq_true rfl) dL_law_8 (fun h1 H hP hD hS => ?_)
  refine lv_dup hx hb dL_law_11 rfl ?_
  have hPc := hP.sub (ws' := [(h1, .inr (10, [.int 0, .int 0, .null, .null, .null, .null, .int 0, .null, .int 0, .int 0, .int 0, .int 0, .int 0, .int 0, .null, .null, .int 0, .null, .null, .null, .int 0, .null, .null, .null, .null, .null, .null, .int 0, .null, .int 0, .int 0, .int 0, .null, .int 0, .null, .null, .null, .int 0]))]) [38] rfl
  have hDc := hD.sub (ws' := [(h1, .inr (10, [.int 0, .int 0, .null, .null, .null, .null, .int 0, .null, .int 0, .int 0, .int 0, .int 0, .int 0, .int 0, .null, .null, .int 0, .null, .null, .null, .int 0, .null, .null, .null, .null, .null, .null, .int 0, .null, .int 0, .int 0, .int 0, .null, .int 0, .null, .null, .null, .int 0]))]) [38] (by decide) rfl
  refine hc_call (wc := [(h1, .inr (10, [.int 0, .int 0, .null, .null, .null, .null, .int 0, .null, .int 0, .int 0, .int 0, .int 0, .int 0, .int 0, .null, .null, .int 0, .null, .null, .null, .int 0, .null, .null, .null, .null, .null, .null, .int 0, .null, .int 0, .int 0, .int 0, .null, .int 0, .null, .null, .null, .int 0]))]) (wr := wX0 cy qx rv) hP hD hA [38] [0, 1, 2, 3, 4, 5, 6, 7, 8, 9, 10, 11, 12, 13, 14, 15, 16, 17, 18, 19, 20, 21, 22, 23, 24, 25, 26, 27, 28, 29, 30, 31, 32, 33, 34, 35, 36, 37] rfl rfl (by decide) (by decide) (va_runI (As := []) (rest := [.ref h1]) ⟨hx, hb, hml, hown, hts⟩ (kc_X12_init l D cy h1 _) (cwI 0 hts gzL_law_X12_init rfl rfl rfl (hts (.initialized RX12) (List.mem_of_getElem? (i := 5) rfl)) (hts (.methodLink RL 51 yX12_init) (List.mem_of_getElem? (i := 145) rfl)) (hts (.instanceMethod yX12_init) (List.mem_of_getElem? (i := 146) rfl)) rfl (by decide +kernel) ⟨Nat.le_of_ble_eq_true rfl, Nat.le_of_ble_eq_true rfl⟩) (hc_pre hK hN1 hO hPc hDc) rfl rfl hl.1 rfl (lv_room (Nat.le_of_ble_eq_true rfl)) dL_law_12 ⟨Nat.le_of_ble_eq_true rfl, Nat.le_of_ble_eq_true rfl⟩) hS (fun w1 H locs hw hP hD hS => ?_)
  obtain ⟨qy, hq1, rfl⟩ := stY_w hw
  refine lv_astore_n (lv' := [(2, .ref h1), (1, .ref h0), (0, .ref b)]) hx hb dL_law_15 rfl hl (by decide) rfl (fun ls hl => ?_)
  refine lv_iconst (v := 1) hx hb dL_law_16 (by decide) ?_
  refine hc_newa (atype := .long) (ty := .long) (t0 := 3) (n := 1) (N' := 1) (a0 := (1, .inr (.inl (fun _ => 0)))) hx hb (hts (.arrayClass .long) (List.mem_of_getElem? (i := 6) rfl)) rfl rfl (fun _ h => h) hK hP hD hS hA (fun _ => rfl) (by decide) (by decide) (Nat.le_of_ble_eq_true rfl) (Nat.le_of_ble_eq_true rfl) (Nat.le_of_ble_eq_true rfl) dL_law_17 (fun o H hP hD hS => ?_)
  refine lv_astore_n (lv' := [(3, .ref o), (2, .ref h1), (1, .ref h0), (0, .ref b)]) hx hb dL_law_19 rfl hl (by decide) rfl (fun ls hl => ?_)
  refine lv_iconst (v := 0) hx hb dL_law_20 (by decide) ?_
  refine lv_istore (lv' := [(4, .int 0), (3, .ref o), (2, .ref h1), (1, .ref h0), (0, .ref b)]) hx hb dL_law_21 hl (by decide) rfl (fun ls hl => ?_)
  subst hAe
  have hap := st_ap hD
  refine W.widen (k := 100 + 3 * 0) (n := 140000 + 18 * 0) (Nat.le_of_ble_eq_true rfl) (Nat.le_of_ble_eq_true rfl) ?_
  have hW : hLW D cy qx qy o (σX0 rv) σY0 (fun _ => 0) (fun _ => 0) H := ⟨stX_P (fun k q hk => hP k q (by rw [List.getElem?_append_left (by rw [List.length_append, stX_len]; have := (List.getElem?_eq_some_iff.mp hk).1; rw [stX_len] at this; omega), List.getElem?_append_left (List.getElem?_eq_some_iff.mp hk).1]; exact hk)), stY_P (fun k q hk => hP (38 + k) q (by
    have hlt : k < 22 := (List.getElem?_eq_some_iff.mp hk).1
    rw [List.getElem?_append_left (by rw [List.length_append, stX_len, stY_len]; omega), List.getElem?_append_right (by rw [stX_len]; omega), stX_len, show 38 + k - 38 = k by omega]; exact hk)), hP 60 _ rfl⟩
  have e0 : h0 = qx 0 := hq0.symm
  have e1 : h1 = qy 0 := hq1.symm
  subst e0 e1
  exact law_loop hfl hL hx hb hr hml hown hts hX hbl hlocks hK hN1 hO hT hNc hap I hstep 513 0 (by omega) (by omega) 0 (σX0 rv) σY0 (fun _ => 0) (fun _ => 0) H _ ls rfl hI0 hW hS.1 hS (lv_sub hl [4, 3, 2, 1, 0] rfl)

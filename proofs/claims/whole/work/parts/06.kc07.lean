set_option maxHeartbeats 4000000 in
set_option maxRecDepth 100000 in
theorem kc_X8_forget (l : Launch) (D : va_G) (cy : Nat → ClassId) (N : Nat) (hN : 38 ≤ N) (ad : Nat → Nat) (hJ0 : hJ N ad) (σ : hSt) (sz : Nat) (a1 : Int32) (Q : hSt → Prop) (hw : wp_X8_forget a1 σ Q) : Met l yX8_forget wsX8_forget ({ frames := 2, cells := 0, slots := 0, locals := 47 } : Room) (va_Pc [.ref (ad 17), .int a1] (hB D cy (hC N ad (bX cy ad) σ) sz)) (va_Qv (fun u : hSt => Q u) (hE D (fun u : hSt => hC N ad (bX cy ad) u)) (hA N ad sz)) 0 0 (hA N ad sz) := by
  refine Met.ofW (cc := cX8_forget) (maxL := 2) (ret := none) (by decide) rfl ?_
  intro p e s m args below meth c s₁ B hml hv
  obtain ⟨rfl, hsz, hP, hK, hN1⟩ := hv
  have hx := B.exec
  have hb := B.bytes
  have hr := B.returns
  have hts := atoms_spec (ws := wsX8_forget) B.pre
  have hown : s.vm.findClass RX8 = some m.cls := findClass_of_methodNamed B.named
  have hlocks := B.notSynchronized
  subst hsz
  have hS : va_S (hA N ad s.heap.size) s.heap s.heap [] := va_S.rf
  have hiX8 : ∀ w ∈ wsX80, w ∈ wsX8_forget := fun _ h => List.mem_cons_of_mem _ (List.mem_append_right _ h)
  have hl := lv_entry ([.ref (ad 17), .int a1]) (n := 2) (Nat.le_of_ble_eq_true rfl)
  rw [lg_entry_eq]
  generalize (lg_sl ([.ref (ad 17), .int a1]) ++ List.replicate (2 - (lg_sl ([.ref (ad 17), .int a1])).length) Slot.unset).toArray = ls at hl ⊢
  have hl : lv_has ls 2 [(0, .ref (ad 17)), (1, .int a1)] := hl
  unfold wp_X8_forget at hw
  refine lv_aload_n hx hb dX8_forget_0 rfl (lv_at hl 0 rfl) ?_
  refine hw_get (v := .ref (ad 18)) hx hb hts hiX8 hown hK hP (Nat.lt_of_lt_of_le (by decide) hN) (bX_17 _) rfl 0 (by decide) (List.mem_of_getElem? (i := 1) rfl) rfl rfl dX8_forget_1 ?_
  refine lv_iload_n hx hb dX8_forget_4 rfl (lv_at hl 1 rfl) ?_
  refine lv_aload_n hx hb dX8_forget_5 rfl (lv_at hl 0 rfl) ?_
  refine hw_get (v := .int (σ 17 1)) hx hb hts hiX8 hown hK hP (Nat.lt_of_lt_of_le (by decide) hN) (bX_17 _) rfl 1 (by decide) (List.mem_of_getElem? (i := 2) rfl) rfl rfl dX8_forget_6 ?_
  refine hw_ki (va_runS (As := [.int a1, .int (σ 17 1)]) (rest := [.ref (ad 18)]) ⟨hx, hb, hml, hown, hts⟩ (kc_X6_rank l D cy N ad (bX cy ad) σ _ a1 (σ 17 1) _ hw) (va_cwS 2 hts gX8_forget_X6_rank rfl rfl rfl (by decide +kernel) ⟨Nat.le_of_ble_eq_true rfl, Nat.le_of_ble_eq_true rfl⟩) (hw_pre hK hN1 hP) rfl rfl hl.1 rfl (lv_room (Nat.le_of_ble_eq_true rfl)) dX8_forget_9 ⟨Nat.zero_le _, Nat.zero_le _⟩) hS (fun r2 σ1 H locs hw hP hS => ?_)
  obtain ⟨hu_, hw⟩ := hw
  rw [hu_] at hP
  refine lv_iconst (v := 0) hx hb dX8_forget_12 (by decide) ?_
  refine hw_kv (va_runSN (As := [.ref (ad 18), .int r2, .int (0 : Int32)]) (rest := []) ⟨hx, hb, hml, hown, hts⟩ (kc_X11_setCell l D cy N hN ad hJ0 σ _ 18 hAi_18 r2 (0 : Int32) _ hw) ⟨va_cnB 3 hts gX8_forget_X11_setCell_n36 rfl rfl rfl (hN1.at 11 rfl) (hts (.initialized RX11) (List.mem_of_getElem? (i := 18) rfl)) (by decide +kernel) ⟨Nat.le_of_ble_eq_true rfl, Nat.le_of_ble_eq_true rfl⟩, hts (.static yX11_setCell) (List.mem_of_getElem? (i := 17) rfl), trivial⟩ (hw_pre hK hN1 hP) rfl rfl hl.1 rfl (lv_room (Nat.le_of_ble_eq_true rfl)) dX8_forget_13 ⟨Nat.zero_le _, Nat.zero_le _⟩) hS (fun σ3 H locs hw hP hS => ?_)
  exact hw_vret hx hb hr hlocks (σ3) hw hP hS dX8_forget_16
set_option maxHeartbeats 4000000 in
set_option maxRecDepth 100000 in
theorem kc_X7_unring (l : Launch) (D : va_G) (cy : Nat → ClassId) (N : Nat) (hN : 38 ≤ N) (ad : Nat → Nat) (hJ0 : hJ N ad) (σ : hSt) (sz : Nat) (k1 : Nat) (hk1 : hMe k1) (a2 : Int32) (a3 : Int32) (Q : hSt → Prop) (hw : wp_X7_unring k1 a2 a3 σ Q) : Met l yX7_unring wsX7_unring ({ frames := 3, cells := 0, slots := 0, locals := 68 } : Room) (va_Pc [.ref (ad 35), .ref (ad k1), .int a2, .int a3] (hB D cy (hC N ad (bX cy ad) σ) sz)) (va_Qv (fun u : hSt => Q u) (hE D (fun u : hSt => hC N ad (bX cy ad) u)) (hA N ad sz)) 0 0 (hA N ad sz) := by
  refine Met.ofW (cc := cX7_unring) (maxL := 6) (ret := none) (by decide) rfl ?_
  intro p e s m args below meth c s₁ B hml hv
  obtain ⟨rfl, hsz, hP, hK, hN1⟩ := hv
  have hx := B.exec
  have hb := B.bytes
  have hr := B.returns
  have hts := atoms_spec (ws := wsX7_unring) B.pre
  have hown : s.vm.findClass RX7 = some m.cls := findClass_of_methodNamed B.named
  have hlocks := B.notSynchronized
  subst hsz
  have hS : va_S (hA N ad s.heap.size) s.heap s.heap [] := va_S.rf
  have hiX7 : ∀ w ∈ wsX70, w ∈ wsX7_unring := fun _ h => List.mem_cons_of_mem _ (List.mem_append_left _ (List.mem_append_left _ (List.mem_append_right _ h)))
  have hl := lv_entry ([.ref (ad 35), .ref (ad k1), .int a2, .int a3]) (n := 6) (Nat.le_of_ble_eq_true rfl)
  rw [lg_entry_eq]
  generalize (lg_sl ([.ref (ad 35), .ref (ad k1), .int a2, .int a3]) ++ List.replicate (6 - (lg_sl ([.ref (ad 35), .ref (ad k1), .int a2, .int a3])).length) Slot.unset).toArray = ls at hl ⊢
  have hl : lv_has ls 6 [(0, .ref (ad 35)), (1, .ref (ad k1)), (2, .int a2), (3, .int a3)] := hl
  unfold wp_X7_unring at hw
  refine lv_iload_n hx hb dX7_unring_0 rfl (lv_at hl 2 rfl) ?_
  refine lv_istore (lv' := [(4, .int a2), (0, .ref (ad 35)), (1, .ref (ad k1)), (2, .int a2), (3, .int a3)]) hx hb dX7_unring_1 hl (by decide) rfl (fun ls hl => ?_)
  refine lv_iconst (v := 0) hx hb dX7_unring_3 (by decide) ?_
  refine lv_istore (lv' := [(5, .int (0 : Int32)), (4, .int a2), (0, .ref (ad 35)), (1, .ref (ad k1)), (2, .int a2), (3, .int a3)]) hx hb dX7_unring_4 hl (by decide) rfl (fun ls hl => ?_)
  refine hw (fun (v4_1 : Int32) (v5_2 : Int32) (σ3 : hSt) => ∀ (H : Heap) (locs : List Loc) (ls : Array Slot), va_P D vwCl (hC N ad (bX cy ad) σ3) H → va_S (hA N ad s.heap.size) s.heap H locs → lv_has ls 6 [(0, .ref (ad 35)), (1, .ref (ad k1)), (3, .int a3), (4, .int v4_1), (5, .int v5_2)] → W p l e (headSpec wsX7_unring ({ frames := 3, cells := 0, slots := 0, locals := 68 } : Room)).room s m ([Value.ref (ad 35), Value.ref (ad k1), Value.int a2, Value.int a3] : List Value).toArray below meth c H locs 0 0 (MQ below (va_Qv (fun u : hSt => Q u) (hE D (fun u : hSt => hC N ad (bX cy ad) u)) (hA N ad s.heap.size)) ([Value.ref (ad 35), Value.ref (ad k1), Value.int a2, Value.int a3] : List Value).toArray s 0 0 (hA N ad s.heap.size)) (F0 m 6 ls [])) (fun v4_1 v5_2 σ3 hw H locs ls hP hS hl => ?_) _ _ _ hP hS (lv_sub hl [2, 3, 5, 1, 0] rfl)
  refine lv_iload hx hb dX7_unring_6 (lv_at hl 4 rfl) ?_
  refine lv_iload_n hx hb dX7_unring_8 rfl (lv_at hl 2 rfl) ?_
  refine lv_icmp_ge (tgt := 40) hx hb dX7_unring_9 (by decide) (fun c4 => ?_) (fun c4 => ?_)
  · have hw := hw.1 c4
    exact hw_vret hx hb hr hlocks (σ3) hw hP hS dX7_unring_40
  have hw := hw.2 c4
  refine lv_aload_n hx hb dX7_unring_12 rfl (lv_at hl 0 rfl) ?_
  refine hw_get (v := .ref (ad 17)) hx hb hts hiX7 hown hK hP (Nat.lt_of_lt_of_le (by decide) hN) (bX_35 _) rfl 0 (by decide) (List.mem_of_getElem? (i := 1) rfl) rfl rfl dX7_unring_13 ?_
  refine lv_iload hx hb dX7_unring_16 (lv_at hl 3 rfl) ?_
  refine hw_kv (va_runV (As := [.int v4_1]) (rest := []) ⟨hx, hb, hml, hown, hts⟩ (kc_X8_forget l D cy N hN ad hJ0 σ3 _ v4_1 _ hw) (cwV 1 hts gX7_unring_X8_forget rfl rfl rfl (by decide +kernel) ⟨Nat.le_of_ble_eq_true rfl, Nat.le_of_ble_eq_true rfl⟩) (hw_preV hK hN1 hP (Nat.lt_of_lt_of_le (by decide) hN) (bX_17 _) rfl) rfl rfl hl.1 rfl (lv_room (Nat.le_of_ble_eq_true rfl)) dX7_unring_18 ⟨Nat.zero_le _, Nat.zero_le _⟩) hS (fun σ5 H locs hw hP hS => ?_)
  refine lv_iload hx hb dX7_unring_21 (lv_at hl 3 rfl) ?_
  refine lv_aload_n hx hb dX7_unring_23 rfl (lv_at hl 1 rfl) ?_
  refine lv_iload hx hb dX7_unring_24 (lv_at hl 4 rfl) ?_
  refine hw_ki (va_runV (As := [.int v5_2]) (rest := [.int v4_1]) ⟨hx, hb, hml, hown, hts⟩ (kc_X2_changeAt l D cy N hN ad hJ0 σ5 _ k1 hk1 v5_2 _ hw) (cwV 1 hts gX7_unring_X2_changeAt rfl rfl rfl (by decide +kernel) ⟨Nat.le_of_ble_eq_true rfl, Nat.le_of_ble_eq_true rfl⟩) (hw_preV hK hN1 hP (hMe_lt hk1 hN) (bX_me hk1 _) rfl) rfl rfl hl.1 rfl (lv_room (Nat.le_of_ble_eq_true rfl)) dX7_unring_26 ⟨Nat.zero_le _, Nat.zero_le _⟩) hS (fun r7 σ6 H locs hw hP hS => ?_)
  obtain ⟨hu_, hw⟩ := hw
  rw [hu_] at hP
  refine hw_ki (va_runS (As := [.int v4_1, .int r7]) (rest := []) ⟨hx, hb, hml, hown, hts⟩ (kc_X6_changed l D cy N ad (bX cy ad) σ5 _ v4_1 r7 _ hw) (va_cwS 2 hts gX7_unring_X6_changed rfl rfl rfl (by decide +kernel) ⟨Nat.le_of_ble_eq_true rfl, Nat.le_of_ble_eq_true rfl⟩) (hw_pre hK hN1 hP) rfl rfl hl.1 rfl (lv_room (Nat.le_of_ble_eq_true rfl)) dX7_unring_29 ⟨Nat.zero_le _, Nat.zero_le _⟩) hS (fun r9 σ8 H locs hw hP hS => ?_)
  obtain ⟨hu_, hw⟩ := hw
  rw [hu_] at hP
  refine lv_istore (lv' := [(4, .int r9), (0, .ref (ad 35)), (1, .ref (ad k1)), (3, .int a3), (5, .int v5_2)]) hx hb dX7_unring_32 hl (by decide) rfl (fun ls hl => ?_)
  obtain ⟨x5_10, ex5_10⟩ : ∃ z : Int32, z = v5_2 + (1 : Int32) := ⟨_, rfl⟩
  have hw := hw x5_10 ex5_10
  refine lv_iinc (v := x5_10) (lv' := [(5, .int x5_10), (4, .int r9), (0, .ref (ad 35)), (1, .ref (ad k1)), (3, .int a3)]) hx hb dX7_unring_34 hl (k := 4) rfl (by rw [ex5_10]; rfl) (by decide) rfl (fun ls hl => ?_)
  refine lv_goto (tgt := 6) hx hb dX7_unring_37 (by decide) ?_
  exact hw _ _ _ hP hS (lv_sub hl [2, 3, 4, 1, 0] rfl)
set_option maxHeartbeats 4000000 in
set_option maxRecDepth 100000 in
theorem kc_X7_ring (l : Launch) (D : va_G) (cy : Nat → ClassId) (N : Nat) (hN : 38 ≤ N) (ad : Nat → Nat) (hJ0 : hJ N ad) (σ : hSt) (sz : Nat) (k1 : Nat) (hk1 : hMe k1) (a2 : Int32) (Q : Int32 → hSt → Prop) (hw : wp_X7_ring k1 a2 σ Q) : Met l yX7_ring wsX7_ring ({ frames := 4, cells := 0, slots := 0, locals := 93 } : Room) (va_Pc [.ref (ad 35), .ref (ad k1), .int a2] (hB D cy (hC N ad (bX cy ad) σ) sz)) (va_Qi (fun (r : Int32) (u : hSt) => Q r u) (hE D (fun u : hSt => hC N ad (bX cy ad) u)) (hA N ad sz)) 0 0 (hA N ad sz) := by
  refine Met.ofW (cc := cX7_ring) (maxL := 5) (ret := (some .boolean)) (by decide) rfl ?_
  intro p e s m args below meth c s₁ B hml hv
  obtain ⟨rfl, hsz, hP, hK, hN1⟩ := hv
  have hx := B.exec
  have hb := B.bytes
  have hr := B.returns
  have hts := atoms_spec (ws := wsX7_ring) B.pre
  have hown : s.vm.findClass RX7 = some m.cls := findClass_of_methodNamed B.named
  have hlocks := B.notSynchronized
  subst hsz
  have hS : va_S (hA N ad s.heap.size) s.heap s.heap [] := va_S.rf
  have hiX7 : ∀ w ∈ wsX70, w ∈ wsX7_ring := fun _ h => List.mem_cons_of_mem _ (List.mem_append_left _ (List.mem_append_left _ (List.mem_append_right _ h)))
  have hl := lv_entry ([.ref (ad 35), .ref (ad k1), .int a2]) (n := 5) (Nat.le_of_ble_eq_true rfl)
  rw [lg_entry_eq]
  generalize (lg_sl ([.ref (ad 35), .ref (ad k1), .int a2]) ++ List.replicate (5 - (lg_sl ([.ref (ad 35), .ref (ad k1), .int a2])).length) Slot.unset).toArray = ls at hl ⊢
  have hl : lv_has ls 5 [(0, .ref (ad 35)), (1, .ref (ad k1)), (2, .int a2)] := hl
  unfold wp_X7_ring at hw
  refine lv_iload_n hx hb dX7_ring_0 rfl (lv_at hl 2 rfl) ?_
  refine lv_istore_n (lv' := [(3, .int a2), (0, .ref (ad 35)), (1, .ref (ad k1)), (2, .int a2)]) hx hb dX7_ring_1 rfl hl (by decide) rfl (fun ls hl => ?_)
  refine lv_iconst (v := 0) hx hb dX7_ring_2 (by decide) ?_
  refine lv_istore (lv' := [(4, .int (0 : Int32)), (3, .int a2), (0, .ref (ad 35)), (1, .ref (ad k1)), (2, .int a2)]) hx hb dX7_ring_3 hl (by decide) rfl (fun ls hl => ?_)
  refine hw (fun (v3_1 : Int32) (v4_2 : Int32) (σ3 : hSt) => ∀ (H : Heap) (locs : List Loc) (ls : Array Slot), va_P D vwCl (hC N ad (bX cy ad) σ3) H → va_S (hA N ad s.heap.size) s.heap H locs → lv_has ls 5 [(0, .ref (ad 35)), (1, .ref (ad k1)), (2, .int a2), (3, .int v3_1), (4, .int v4_2)] → W p l e (headSpec wsX7_ring ({ frames := 4, cells := 0, slots := 0, locals := 93 } : Room)).room s m ([Value.ref (ad 35), Value.ref (ad k1), Value.int a2] : List Value).toArray below meth c H locs 0 0 (MQ below (va_Qi (fun (r : Int32) (u : hSt) => Q r u) (hE D (fun u : hSt => hC N ad (bX cy ad) u)) (hA N ad s.heap.size)) ([Value.ref (ad 35), Value.ref (ad k1), Value.int a2] : List Value).toArray s 0 0 (hA N ad s.heap.size)) (F0 m 5 ls [])) (fun v3_1 v4_2 σ3 hw H locs ls hP hS hl => ?_) _ _ _ hP hS (lv_sub hl [2, 3, 4, 1, 0] rfl)
  refine lv_iload hx hb dX7_ring_5 (lv_at hl 4 rfl) ?_
  refine lv_aload_n hx hb dX7_ring_7 rfl (lv_at hl 1 rfl) ?_
  refine hw_ki (va_runV (As := []) (rest := [.int v4_2]) ⟨hx, hb, hml, hown, hts⟩ (kc_X2_size l D cy N hN ad hJ0 σ3 _ k1 hk1 _ hw) (cwV 0 hts gX7_ring_X2_size rfl rfl rfl (by decide +kernel) ⟨Nat.le_of_ble_eq_true rfl, Nat.le_of_ble_eq_true rfl⟩) (hw_preV hK hN1 hP (hMe_lt hk1 hN) (bX_me hk1 _) rfl) rfl rfl hl.1 rfl (lv_room (Nat.le_of_ble_eq_true rfl)) dX7_ring_8 ⟨Nat.zero_le _, Nat.zero_le _⟩) hS (fun r5 σ4 H locs hw hP hS => ?_)
  obtain ⟨hu_, hw⟩ := hw
  rw [hu_] at hP
  refine lv_icmp_ge (tgt := 54) hx hb dX7_ring_11 (by decide) (fun c6 => ?_) (fun c6 => ?_)
  · have hw := hw.1 c6
    refine lv_iconst (v := 1) hx hb dX7_ring_54 (by decide) ?_
    exact hw_zret hx hb hr hlocks hbo_1 (σ3) hw hP hS dX7_ring_55
  have hw := hw.2 c6
  refine lv_aload_n hx hb dX7_ring_14 rfl (lv_at hl 0 rfl) ?_
  refine hw_get (v := .ref (ad 17)) hx hb hts hiX7 hown hK hP (Nat.lt_of_lt_of_le (by decide) hN) (bX_35 _) rfl 0 (by decide) (List.mem_of_getElem? (i := 1) rfl) rfl rfl dX7_ring_15 ?_
  refine lv_iload_n hx hb dX7_ring_18 rfl (lv_at hl 3 rfl) ?_
  refine lv_iconst (v := 0) hx hb dX7_ring_19 (by decide) ?_
  refine hw_ki (va_runV (As := [.int v3_1, .int (0 : Int32)]) (rest := []) ⟨hx, hb, hml, hown, hts⟩ (kc_X8_note l D cy N hN ad hJ0 σ3 _ v3_1 (0 : Int32) _ hw) (cwV 2 hts gX7_ring_X8_note rfl rfl rfl (by decide +kernel) ⟨Nat.le_of_ble_eq_true rfl, Nat.le_of_ble_eq_true rfl⟩) (hw_preV hK hN1 hP (Nat.lt_of_lt_of_le (by decide) hN) (bX_17 _) rfl) rfl rfl hl.1 rfl (lv_room (Nat.le_of_ble_eq_true rfl)) dX7_ring_20 ⟨Nat.zero_le _, Nat.zero_le _⟩) hS (fun r8 σ7 H locs hw hP hS => ?_)
  refine lv_iconst (v := -1) hx hb dX7_ring_23 (by decide) ?_
  refine lv_icmp_eq (tgt := 37) hx hb dX7_ring_24 (by decide) (fun c9 => ?_) (fun c9 => ?_)
  · have hw := hw.1 c9
    refine lv_iload_n hx hb dX7_ring_37 rfl (lv_at hl 3 rfl) ?_
    refine lv_aload_n hx hb dX7_ring_38 rfl (lv_at hl 1 rfl) ?_
    refine lv_iload hx hb dX7_ring_39 (lv_at hl 4 rfl) ?_
    refine hw_ki (va_runV (As := [.int v4_2]) (rest := [.int v3_1]) ⟨hx, hb, hml, hown, hts⟩ (kc_X2_changeAt l D cy N hN ad hJ0 σ7 _ k1 hk1 v4_2 _ hw) (cwV 1 hts gX7_ring_X2_changeAt rfl rfl rfl (by decide +kernel) ⟨Nat.le_of_ble_eq_true rfl, Nat.le_of_ble_eq_true rfl⟩) (hw_preV hK hN1 hP (hMe_lt hk1 hN) (bX_me hk1 _) rfl) rfl rfl hl.1 rfl (lv_room (Nat.le_of_ble_eq_true rfl)) dX7_ring_41 ⟨Nat.zero_le _, Nat.zero_le _⟩) hS (fun r11 σ10 H locs hw hP hS => ?_)
    obtain ⟨hu_, hw⟩ := hw
    rw [hu_] at hP
    refine hw_ki (va_runS (As := [.int v3_1, .int r11]) (rest := []) ⟨hx, hb, hml, hown, hts⟩ (kc_X6_changed l D cy N ad (bX cy ad) σ7 _ v3_1 r11 _ hw) (va_cwS 2 hts gX7_ring_X6_changed rfl rfl rfl (by decide +kernel) ⟨Nat.le_of_ble_eq_true rfl, Nat.le_of_ble_eq_true rfl⟩) (hw_pre hK hN1 hP) rfl rfl hl.1 rfl (lv_room (Nat.le_of_ble_eq_true rfl)) dX7_ring_44 ⟨Nat.zero_le _, Nat.zero_le _⟩) hS (fun r13 σ12 H locs hw hP hS => ?_)
    obtain ⟨hu_, hw⟩ := hw
    rw [hu_] at hP
    refine lv_istore_n (lv' := [(3, .int r13), (0, .ref (ad 35)), (1, .ref (ad k1)), (2, .int a2), (4, .int v4_2)]) hx hb dX7_ring_47 rfl hl (by decide) rfl (fun ls hl => ?_)
    obtain ⟨x4_14, ex4_14⟩ : ∃ z : Int32, z = v4_2 + (1 : Int32) := ⟨_, rfl⟩
    have hw := hw x4_14 ex4_14
    refine lv_iinc (v := x4_14) (lv' := [(4, .int x4_14), (3, .int r13), (0, .ref (ad 35)), (1, .ref (ad k1)), (2, .int a2)]) hx hb dX7_ring_48 hl (k := 4) rfl (by rw [ex4_14]; rfl) (by decide) rfl (fun ls hl => ?_)
    refine lv_goto (tgt := 5) hx hb dX7_ring_51 (by decide) ?_
    exact hw _ _ _ hP hS (lv_sub hl [2, 3, 4, 1, 0] rfl)
  have hw := hw.2 c9
  refine lv_aload_n hx hb dX7_ring_27 rfl (lv_at hl 0 rfl) ?_
  refine lv_aload_n hx hb dX7_ring_28 rfl (lv_at hl 1 rfl) ?_
  refine lv_iload_n hx hb dX7_ring_29 rfl (lv_at hl 2 rfl) ?_
  refine lv_iload hx hb dX7_ring_30 (lv_at hl 4 rfl) ?_
  refine hw_kv (va_runV (As := [.ref (ad k1), .int a2, .int v4_2]) (rest := []) ⟨hx, hb, hml, hown, hts⟩ (kc_X7_unring l D cy N hN ad hJ0 σ7 _ k1 hk1 a2 v4_2 _ hw) (cwV 3 hts gX7_ring_X7_unring rfl rfl rfl (by decide +kernel) ⟨Nat.le_of_ble_eq_true rfl, Nat.le_of_ble_eq_true rfl⟩) (hw_preV hK hN1 hP (Nat.lt_of_lt_of_le (by decide) hN) (bX_35 _) rfl) rfl rfl hl.1 rfl (lv_room (Nat.le_of_ble_eq_true rfl)) dX7_ring_32 ⟨Nat.zero_le _, Nat.zero_le _⟩) hS (fun σ15 H locs hw hP hS => ?_)
  refine lv_iconst (v := 0) hx hb dX7_ring_35 (by decide) ?_
  exact hw_zret hx hb hr hlocks hbo_0 (σ15) hw hP hS dX7_ring_36
set_option maxHeartbeats 4000000 in
set_option maxRecDepth 100000 in
theorem kc_X7_endsHome (l : Launch) (D : va_G) (cy : Nat → ClassId) (N : Nat) (hN : 38 ≤ N) (ad : Nat → Nat) (hJ0 : hJ N ad) (σ : hSt) (sz : Nat) (k1 : Nat) (hk1 : hMe k1) (a2 : Int32) (Q : Int32 → hSt → Prop) (hw : wp_X7_endsHome k1 a2 σ Q) : Met l yX7_endsHome wsX7_endsHome ({ frames := 3, cells := 0, slots := 0, locals := 67 } : Room) (va_Pc [.ref (ad 35), .ref (ad k1), .int a2] (hB D cy (hC N ad (bX cy ad) σ) sz)) (va_Qi (fun (r : Int32) (u : hSt) => Q r u) (hE D (fun u : hSt => hC N ad (bX cy ad) u)) (hA N ad sz)) 0 0 (hA N ad sz) := by
  refine Met.ofW (cc := cX7_endsHome) (maxL := 4) (ret := (some .boolean)) (by decide) rfl ?_
  intro p e s m args below meth c s₁ B hml hv
  obtain ⟨rfl, hsz, hP, hK, hN1⟩ := hv
  have hx := B.exec
  have hb := B.bytes
  have hr := B.returns
  have hts := atoms_spec (ws := wsX7_endsHome) B.pre
  have hown : s.vm.findClass RX7 = some m.cls := findClass_of_methodNamed B.named
  have hlocks := B.notSynchronized
  subst hsz
  have hS : va_S (hA N ad s.heap.size) s.heap s.heap [] := va_S.rf
  have hiX7 : ∀ w ∈ wsX70, w ∈ wsX7_endsHome := fun _ h => List.mem_cons_of_mem _ (List.mem_append_left _ (List.mem_append_right _ h))
  have hl := lv_entry ([.ref (ad 35), .ref (ad k1), .int a2]) (n := 4) (Nat.le_of_ble_eq_true rfl)
  rw [lg_entry_eq]
  generalize (lg_sl ([.ref (ad 35), .ref (ad k1), .int a2]) ++ List.replicate (4 - (lg_sl ([.ref (ad 35), .ref (ad k1), .int a2])).length) Slot.unset).toArray = ls at hl ⊢
  have hl : lv_has ls 4 [(0, .ref (ad 35)), (1, .ref (ad k1)), (2, .int a2)] := hl
  unfold wp_X7_endsHome at hw
  refine lv_iconst (v := 0) hx hb dX7_endsHome_0 (by decide) ?_
  refine lv_istore_n (lv' := [(3, .int (0 : Int32)), (0, .ref (ad 35)), (1, .ref (ad k1)), (2, .int a2)]) hx hb dX7_endsHome_1 rfl hl (by decide) rfl (fun ls hl => ?_)
  refine hw (fun (v3_1 : Int32) => ∀ (H : Heap) (locs : List Loc) (ls : Array Slot), va_P D vwCl (hC N ad (bX cy ad) σ) H → va_S (hA N ad s.heap.size) s.heap H locs → lv_has ls 4 [(0, .ref (ad 35)), (1, .ref (ad k1)), (2, .int a2), (3, .int v3_1)] → W p l e (headSpec wsX7_endsHome ({ frames := 3, cells := 0, slots := 0, locals := 67 } : Room)).room s m ([Value.ref (ad 35), Value.ref (ad k1), Value.int a2] : List Value).toArray below meth c H locs 0 0 (MQ below (va_Qi (fun (r : Int32) (u : hSt) => Q r u) (hE D (fun u : hSt => hC N ad (bX cy ad) u)) (hA N ad s.heap.size)) ([Value.ref (ad 35), Value.ref (ad k1), Value.int a2] : List Value).toArray s 0 0 (hA N ad s.heap.size)) (F0 m 2 ls [])) (fun v3_1 hw H locs ls hP hS hl => ?_) _ _ _ hP hS (lv_sub hl [1, 2, 3, 0] rfl)
  refine lv_iload_n hx hb dX7_endsHome_2 rfl (lv_at hl 3 rfl) ?_
  refine lv_iconst (v := 3) hx hb dX7_endsHome_3 (by decide) ?_
  refine lv_icmp_ge (tgt := 43) hx hb dX7_endsHome_4 (by decide) (fun c2 => ?_) (fun c2 => ?_)
  · have hw := hw.1 c2
    refine lv_iconst (v := 0) hx hb dX7_endsHome_43 (by decide) ?_
    exact hw_zret hx hb hr hlocks hbo_0 (σ) hw hP hS dX7_endsHome_44
  have hw := hw.2 c2
  refine lv_aload_n hx hb dX7_endsHome_7 rfl (lv_at hl 1 rfl) ?_
  refine lv_iload_n hx hb dX7_endsHome_8 rfl (lv_at hl 2 rfl) ?_
  refine lv_iload_n hx hb dX7_endsHome_9 rfl (lv_at hl 3 rfl) ?_
  refine hw_ki (va_runV (As := [.int a2, .int v3_1]) (rest := []) ⟨hx, hb, hml, hown, hts⟩ (kc_X2_following l D cy N hN ad hJ0 σ _ k1 hk1 a2 v3_1 _ hw) (cwV 2 hts gX7_endsHome_X2_following rfl rfl rfl (by decide +kernel) ⟨Nat.le_of_ble_eq_true rfl, Nat.le_of_ble_eq_true rfl⟩) (hw_preV hK hN1 hP (hMe_lt hk1 hN) (bX_me hk1 _) rfl) rfl rfl hl.1 rfl (lv_room (Nat.le_of_ble_eq_true rfl)) dX7_endsHome_10 ⟨Nat.zero_le _, Nat.zero_le _⟩) hS (fun r4 σ3 H locs hw hP hS => ?_)
  obtain ⟨hu_, hw⟩ := hw
  rw [hu_] at hP
  refine lv_aload_n hx hb dX7_endsHome_13 rfl (lv_at hl 1 rfl) ?_
  refine hw_ki (va_runV (As := []) (rest := [.int r4]) ⟨hx, hb, hml, hown, hts⟩ (kc_X2_bells l D cy N hN ad hJ0 σ _ k1 hk1 _ hw) (cwV 0 hts gX7_endsHome_X2_bells rfl rfl rfl (by decide +kernel) ⟨Nat.le_of_ble_eq_true rfl, Nat.le_of_ble_eq_true rfl⟩) (hw_preV hK hN1 hP (hMe_lt hk1 hN) (bX_me hk1 _) rfl) rfl rfl hl.1 rfl (lv_room (Nat.le_of_ble_eq_true rfl)) dX7_endsHome_14 ⟨Nat.zero_le _, Nat.zero_le _⟩) hS (fun r6 σ5 H locs hw hP hS => ?_)
  obtain ⟨hu_, hw⟩ := hw
  rw [hu_] at hP
  refine hw_ki (va_runS (As := [.int r6]) (rest := [.int r4]) ⟨hx, hb, hml, hown, hts⟩ (kc_X6_rounds l D cy N ad (bX cy ad) σ _ r6 _ hw) (va_cwS 1 hts gX7_endsHome_X6_rounds rfl rfl rfl (by decide +kernel) ⟨Nat.le_of_ble_eq_true rfl, Nat.le_of_ble_eq_true rfl⟩) (hw_pre hK hN1 hP) rfl rfl hl.1 rfl (lv_room (Nat.le_of_ble_eq_true rfl)) dX7_endsHome_17 ⟨Nat.zero_le _, Nat.zero_le _⟩) hS (fun r8 σ7 H locs hw hP hS => ?_)
  obtain ⟨hu_, hw⟩ := hw
  rw [hu_] at hP
  refine lv_icmp_ne (tgt := 37) hx hb dX7_endsHome_20 (by decide) (fun c9 => ?_) (fun c9 => ?_)
  · have hw := hw.1 c9
    obtain ⟨x3_10, ex3_10⟩ : ∃ z : Int32, z = v3_1 + (1 : Int32) := ⟨_, rfl⟩
    have hw := hw x3_10 ex3_10
    refine lv_iinc (v := x3_10) (lv' := [(3, .int x3_10), (0, .ref (ad 35)), (1, .ref (ad k1)), (2, .int a2)]) hx hb dX7_endsHome_37 hl (k := 3) rfl (by rw [ex3_10]; rfl) (by decide) rfl (fun ls hl => ?_)
    refine lv_goto (tgt := 2) hx hb dX7_endsHome_40 (by decide) ?_
    exact hw _ _ _ hP hS (lv_sub hl [1, 2, 3, 0] rfl)
  have hw := hw.2 c9
  refine lv_aload_n hx hb dX7_endsHome_23 rfl (lv_at hl 0 rfl) ?_
  refine hw_get (v := .ref (ad 37)) hx hb hts hiX7 hown hK hP (Nat.lt_of_lt_of_le (by decide) hN) (bX_35 _) rfl 2 (by decide) (List.mem_of_getElem? (i := 1) rfl) rfl rfl dX7_endsHome_24 ?_
  refine lv_aload_n hx hb dX7_endsHome_27 rfl (lv_at hl 0 rfl) ?_
  refine hw_get (v := .int (σ 35 3)) hx hb hts hiX7 hown hK hP (Nat.lt_of_lt_of_le (by decide) hN) (bX_35 _) rfl 3 (by decide) (List.mem_of_getElem? (i := 2) rfl) rfl rfl dX7_endsHome_28 ?_
  refine lv_iload_n hx hb dX7_endsHome_31 rfl (lv_at hl 3 rfl) ?_
  refine hw_kv (va_runSN (As := [.ref (ad 37), .int (σ 35 3), .int v3_1]) (rest := []) ⟨hx, hb, hml, hown, hts⟩ (kc_X11_setCell l D cy N hN ad hJ0 σ _ 37 hAi_37 (σ 35 3) v3_1 _ hw) ⟨va_cnB 3 hts gX7_endsHome_X11_setCell_n58 rfl rfl rfl (hN1.at 9 rfl) (hts (.initialized RX11) (List.mem_of_getElem? (i := 27) rfl)) (by decide +kernel) ⟨Nat.le_of_ble_eq_true rfl, Nat.le_of_ble_eq_true rfl⟩, hts (.static yX11_setCell) (List.mem_of_getElem? (i := 26) rfl), trivial⟩ (hw_pre hK hN1 hP) rfl rfl hl.1 rfl (lv_room (Nat.le_of_ble_eq_true rfl)) dX7_endsHome_32 ⟨Nat.zero_le _, Nat.zero_le _⟩) hS (fun σ11 H locs hw hP hS => ?_)
  refine lv_iconst (v := 1) hx hb dX7_endsHome_35 (by decide) ?_
  exact hw_zret hx hb hr hlocks hbo_1 (σ11) hw hP hS dX7_endsHome_36
set_option maxHeartbeats 4000000 in
set_option maxRecDepth 100000 in
theorem kc_X7_callOf (l : Launch) (D : va_G) (cy : Nat → ClassId) (N : Nat) (hN : 38 ≤ N) (ad : Nat → Nat) (hJ0 : hJ N ad) (σ : hSt) (sz : Nat) (a1 : Int32) (Q : Int32 → Prop) (hw : wp_X7_callOf a1 σ Q) : Met l yX7_callOf wsX7_callOf ({ frames := 1, cells := 0, slots := 0, locals := 21 } : Room) (va_Pc [.ref (ad 35), .int a1] (hB D cy (hC N ad (bX cy ad) σ) sz)) (va_Qi (fun (r : Int32) (u : hSt) => u = σ ∧ Q r) (hE D (fun u : hSt => hC N ad (bX cy ad) u)) (hA N ad sz)) 0 0 (hA N ad sz) := by
  refine Met.ofW (cc := cX7_callOf) (maxL := 2) (ret := (some .int)) (by decide) rfl ?_
  intro p e s m args below meth c s₁ B hml hv
  obtain ⟨rfl, hsz, hP, hK, hN1⟩ := hv
  have hx := B.exec
  have hb := B.bytes
  have hr := B.returns
  have hts := atoms_spec (ws := wsX7_callOf) B.pre
  have hown : s.vm.findClass RX7 = some m.cls := findClass_of_methodNamed B.named
  have hlocks := B.notSynchronized
  subst hsz
  have hS : va_S (hA N ad s.heap.size) s.heap s.heap [] := va_S.rf
  have hiX7 : ∀ w ∈ wsX70, w ∈ wsX7_callOf := fun _ h => List.mem_cons_of_mem _ (List.mem_append_right _ h)
  have hl := lv_entry ([.ref (ad 35), .int a1]) (n := 2) (Nat.le_of_ble_eq_true rfl)
  rw [lg_entry_eq]
  generalize (lg_sl ([.ref (ad 35), .int a1]) ++ List.replicate (2 - (lg_sl ([.ref (ad 35), .int a1])).length) Slot.unset).toArray = ls at hl ⊢
  have hl : lv_has ls 2 [(0, .ref (ad 35)), (1, .int a1)] := hl
  unfold wp_X7_callOf at hw
  refine lv_aload_n hx hb dX7_callOf_0 rfl (lv_at hl 0 rfl) ?_
  refine hw_get (v := .ref (ad 37)) hx hb hts hiX7 hown hK hP (Nat.lt_of_lt_of_le (by decide) hN) (bX_35 _) rfl 2 (by decide) (List.mem_of_getElem? (i := 1) rfl) rfl rfl dX7_callOf_1 ?_
  refine lv_iload_n hx hb dX7_callOf_4 rfl (lv_at hl 1 rfl) ?_
  refine hw_ki (va_runSN (As := [.ref (ad 37), .int a1]) (rest := []) ⟨hx, hb, hml, hown, hts⟩ (kc_X11_cell l D cy N hN ad hJ0 σ _ 37 hAi_37 a1 _ hw) ⟨va_cnB 2 hts gX7_callOf_X11_cell_n29 rfl rfl rfl (hN1.at 8 rfl) (hts (.initialized RX11) (List.mem_of_getElem? (i := 3) rfl)) (by decide +kernel) ⟨Nat.le_of_ble_eq_true rfl, Nat.le_of_ble_eq_true rfl⟩, hts (.static yX11_cell) (List.mem_of_getElem? (i := 2) rfl), trivial⟩ (hw_pre hK hN1 hP) rfl rfl hl.1 rfl (lv_room (Nat.le_of_ble_eq_true rfl)) dX7_callOf_5 ⟨Nat.zero_le _, Nat.zero_le _⟩) hS (fun r2 σ1 H locs hw hP hS => ?_)
  obtain ⟨hu_, hw⟩ := hw
  rw [hu_] at hP
  exact hw_iret hx hb hr hlocks (σ) ⟨rfl, hw⟩ hP hS dX7_callOf_8
set_option maxHeartbeats 4000000 in
set_option maxRecDepth 100000 in
theorem kc_X7_turnBack (l : Launch) (D : va_G) (cy : Nat → ClassId) (N : Nat) (hN : 38 ≤ N) (ad : Nat → Nat) (hJ0 : hJ N ad) (σ : hSt) (sz : Nat) (k1 : Nat) (hk1 : hMe k1) (Q : Int32 → hSt → Prop) (hw : wp_X7_turnBack k1 σ Q) : Met l yX7_turnBack wsX7_turnBack ({ frames := 4, cells := 0, slots := 0, locals := 93 } : Room) (va_Pc [.ref (ad 35), .ref (ad k1)] (hB D cy (hC N ad (bX cy ad) σ) sz)) (va_Qi (fun (r : Int32) (u : hSt) => Q r u) (hE D (fun u : hSt => hC N ad (bX cy ad) u)) (hA N ad sz)) 0 0 (hA N ad sz) := by
  refine Met.ofW (cc := cX7_turnBack) (maxL := 3) (ret := (some .boolean)) (by decide) rfl ?_
  intro p e s m args below meth c s₁ B hml hv
  obtain ⟨rfl, hsz, hP, hK, hN1⟩ := hv
  have hx := B.exec
  have hb := B.bytes
  have hr := B.returns
  have hts := atoms_spec (ws := wsX7_turnBack) B.pre
  have hown : s.vm.findClass RX7 = some m.cls := findClass_of_methodNamed B.named
  have hlocks := B.notSynchronized
  subst hsz
  have hS : va_S (hA N ad s.heap.size) s.heap s.heap [] := va_S.rf
  have hiX7 : ∀ w ∈ wsX70, w ∈ wsX7_turnBack := fun _ h => List.mem_cons_of_mem _ (List.mem_append_left _ (List.mem_append_left _ (List.mem_append_right _ h)))
  have hl := lv_entry ([.ref (ad 35), .ref (ad k1)]) (n := 3) (Nat.le_of_ble_eq_true rfl)
  rw [lg_entry_eq]
  generalize (lg_sl ([.ref (ad 35), .ref (ad k1)]) ++ List.replicate (3 - (lg_sl ([.ref (ad 35), .ref (ad k1)])).length) Slot.unset).toArray = ls at hl ⊢
  have hl : lv_has ls 3 [(0, .ref (ad 35)), (1, .ref (ad k1))] := hl
  unfold wp_X7_turnBack at hw
  refine hw (fun (σ1 : hSt) => ∀ (H : Heap) (locs : List Loc) (ls : Array Slot), va_P D vwCl (hC N ad (bX cy ad) σ1) H → va_S (hA N ad s.heap.size) s.heap H locs → lv_has ls 3 [(0, .ref (ad 35)), (1, .ref (ad k1))] → W p l e (headSpec wsX7_turnBack ({ frames := 4, cells := 0, slots := 0, locals := 93 } : Room)).room s m ([Value.ref (ad 35), Value.ref (ad k1)] : List Value).toArray below meth c H locs 0 0 (MQ below (va_Qi (fun (r : Int32) (u : hSt) => Q r u) (hE D (fun u : hSt => hC N ad (bX cy ad) u)) (hA N ad s.heap.size)) ([Value.ref (ad 35), Value.ref (ad k1)] : List Value).toArray s 0 0 (hA N ad s.heap.size)) (F0 m 0 ls [])) (fun σ1 hw H locs ls hP hS hl => ?_) _ _ _ hP hS (lv_sub hl [0, 1] rfl)
  refine lv_aload_n hx hb dX7_turnBack_0 rfl (lv_at hl 0 rfl) ?_
  refine hw_get (v := .int (σ1 35 3)) hx hb hts hiX7 hown hK hP (Nat.lt_of_lt_of_le (by decide) hN) (bX_35 _) rfl 3 (by decide) (List.mem_of_getElem? (i := 1) rfl) rfl rfl dX7_turnBack_1 ?_
  refine lv_if_le (tgt := 65) hx hb dX7_turnBack_4 (by decide) (fun c2 => ?_) (fun c2 => ?_)
  · have hw := hw.1 c2
    refine lv_iconst (v := 0) hx hb dX7_turnBack_65 (by decide) ?_
    exact hw_zret hx hb hr hlocks hbo_0 (σ1) hw hP hS dX7_turnBack_66
  have hw := hw.2 c2
  refine lv_aload_n hx hb dX7_turnBack_7 rfl (lv_at hl 0 rfl) ?_
  refine hw_get (v := .int (σ1 35 3)) hx hb hts hiX7 hown hK hP (Nat.lt_of_lt_of_le (by decide) hN) (bX_35 _) rfl 3 (by decide) (List.mem_of_getElem? (i := 1) rfl) rfl rfl dX7_turnBack_8 ?_
  refine lv_iconst (v := 1) hx hb dX7_turnBack_11 (by decide) ?_
  refine lv_isub hx hb dX7_turnBack_12 ?_
  refine lv_topi (fun x2_3 ex2_3 => ?_)
  have hw := hw x2_3 ex2_3
  refine lv_istore_n (lv' := [(2, .int x2_3), (0, .ref (ad 35)), (1, .ref (ad k1))]) hx hb dX7_turnBack_13 rfl hl (by decide) rfl (fun ls hl => ?_)
  refine lv_aload_n hx hb dX7_turnBack_14 rfl (lv_at hl 1 rfl) ?_
  refine lv_iload_n hx hb dX7_turnBack_15 rfl (lv_at hl 0 rfl) ?_
  refine hw_ki (va_runV (As := [.int x2_3]) (rest := []) ⟨hx, hb, hml, hown, hts⟩ (kc_X7_callOf l D cy N hN ad hJ0 σ1 _ x2_3 _ hw) (cwV 1 hts gX7_turnBack_X7_callOf rfl rfl rfl (by decide +kernel) ⟨Nat.le_of_ble_eq_true rfl, Nat.le_of_ble_eq_true rfl⟩) (hw_preV hK hN1 hP (Nat.lt_of_lt_of_le (by decide) hN) (bX_35 _) rfl) rfl rfl hl.1 rfl (lv_room (Nat.le_of_ble_eq_true rfl)) dX7_turnBack_16 ⟨Nat.zero_le _, Nat.zero_le _⟩) hS (fun r5 σ4 H locs hw hP hS => ?_)
  obtain ⟨hu_, hw⟩ := hw
  rw [hu_] at hP
  refine lv_iconst (v := 2) hx hb dX7_turnBack_19 (by decide) ?_
  refine lv_icmp_ge (tgt := 40) hx hb dX7_turnBack_20 (by decide) (fun c6 => ?_) (fun c6 => ?_)
  · have hw := hw.1 c6
    refine lv_aload_n hx hb dX7_turnBack_40 rfl (lv_at hl 1 rfl) ?_
    refine lv_aload_n hx hb dX7_turnBack_41 rfl (lv_at hl 2 rfl) ?_
    refine lv_aload_n hx hb dX7_turnBack_42 rfl (lv_at hl 1 rfl) ?_
    refine hw_get (v := .ref (ad 36)) hx hb hts hiX7 hown hK hP (Nat.lt_of_lt_of_le (by decide) hN) (bX_35 _) rfl 1 (by decide) (List.mem_of_getElem? (i := 3) rfl) rfl rfl dX7_turnBack_43 ?_
    refine lv_iload_n hx hb dX7_turnBack_46 rfl (lv_at hl 0 rfl) ?_
    refine hw_ki (va_runSN (As := [.ref (ad 36), .int x2_3]) (rest := [.ref (ad k1), .ref (ad 35)]) ⟨hx, hb, hml, hown, hts⟩ (kc_X11_cell l D cy N hN ad hJ0 σ1 _ 36 hAi_36 x2_3 _ hw) ⟨va_cnB 2 hts gX7_turnBack_X11_cell_n29 rfl rfl rfl (hN1.at 8 rfl) (hts (.initialized RX11) (List.mem_of_getElem? (i := 10) rfl)) (by decide +kernel) ⟨Nat.le_of_ble_eq_true rfl, Nat.le_of_ble_eq_true rfl⟩, hts (.static yX11_cell) (List.mem_of_getElem? (i := 9) rfl), trivial⟩ (hw_pre hK hN1 hP) rfl rfl hl.1 rfl (lv_room (Nat.le_of_ble_eq_true rfl)) dX7_turnBack_47 ⟨Nat.zero_le _, Nat.zero_le _⟩) hS (fun r8 σ7 H locs hw hP hS => ?_)
    obtain ⟨hu_, hw⟩ := hw
    rw [hu_] at hP
    refine lv_aload_n hx hb dX7_turnBack_50 rfl (lv_at hl 2 rfl) ?_
    refine hw_ki (va_runV (As := []) (rest := [.int r8, .ref (ad k1), .ref (ad 35)]) ⟨hx, hb, hml, hown, hts⟩ (kc_X2_size l D cy N hN ad hJ0 σ1 _ k1 hk1 _ hw) (cwV 0 hts gX7_turnBack_X2_size rfl rfl rfl (by decide +kernel) ⟨Nat.le_of_ble_eq_true rfl, Nat.le_of_ble_eq_true rfl⟩) (hw_preV hK hN1 hP (hMe_lt hk1 hN) (bX_me hk1 _) rfl) rfl rfl hl.1 rfl (lv_room (Nat.le_of_ble_eq_true rfl)) dX7_turnBack_51 ⟨Nat.zero_le _, Nat.zero_le _⟩) hS (fun r10 σ9 H locs hw hP hS => ?_)
    obtain ⟨hu_, hw⟩ := hw
    rw [hu_] at hP
    refine hw_kv (va_runV (As := [.ref (ad k1), .int r8, .int r10]) (rest := []) ⟨hx, hb, hml, hown, hts⟩ (kc_X7_unring l D cy N hN ad hJ0 σ1 _ k1 hk1 r8 r10 _ hw) (cwV 3 hts gX7_turnBack_X7_unring rfl rfl rfl (by decide +kernel) ⟨Nat.le_of_ble_eq_true rfl, Nat.le_of_ble_eq_true rfl⟩) (hw_preV hK hN1 hP (Nat.lt_of_lt_of_le (by decide) hN) (bX_35 _) rfl) rfl rfl hl.1 rfl (lv_room (Nat.le_of_ble_eq_true rfl)) dX7_turnBack_54 ⟨Nat.zero_le _, Nat.zero_le _⟩) hS (fun σ11 H locs hw hP hS => ?_)
    refine lv_aload_n hx hb dX7_turnBack_57 rfl (lv_at hl 1 rfl) ?_
    refine lv_iload_n hx hb dX7_turnBack_58 rfl (lv_at hl 0 rfl) ?_
    refine hw_put (x := x2_3) (j := 3) hx hb hts hiX7 tyX7 tyX7_ok nmX7 hown hK hJ0 hP hS (Nat.lt_of_lt_of_le (by decide) hN) (bX_35 _) rfl (by decide) (List.mem_of_getElem? (i := 1) rfl) rfl rfl rfl rfl (Nat.le_of_ble_eq_true rfl) (by rw [bX_35]; rfl) dX7_turnBack_59 (fun H locs hP hS => ?_)
    refine lv_goto (tgt := 0) hx hb dX7_turnBack_62 (by decide) ?_
    exact hw _ _ _ hP hS (lv_sub hl [1, 2] rfl)
  have hw := hw.2 c6
  refine lv_aload_n hx hb dX7_turnBack_23 rfl (lv_at hl 1 rfl) ?_
  refine hw_get (v := .ref (ad 37)) hx hb hts hiX7 hown hK hP (Nat.lt_of_lt_of_le (by decide) hN) (bX_35 _) rfl 2 (by decide) (List.mem_of_getElem? (i := 2) rfl) rfl rfl dX7_turnBack_24 ?_
  refine lv_iload_n hx hb dX7_turnBack_27 rfl (lv_at hl 0 rfl) ?_
  refine lv_aload_n hx hb dX7_turnBack_28 rfl (lv_at hl 1 rfl) ?_
  refine lv_iload_n hx hb dX7_turnBack_29 rfl (lv_at hl 0 rfl) ?_
  refine hw_ki (va_runV (As := [.int x2_3]) (rest := [.int x2_3, .ref (ad 37)]) ⟨hx, hb, hml, hown, hts⟩ (kc_X7_callOf l D cy N hN ad hJ0 σ1 _ x2_3 _ hw) (cwV 1 hts gX7_turnBack_X7_callOf rfl rfl rfl (by decide +kernel) ⟨Nat.le_of_ble_eq_true rfl, Nat.le_of_ble_eq_true rfl⟩) (hw_preV hK hN1 hP (Nat.lt_of_lt_of_le (by decide) hN) (bX_35 _) rfl) rfl rfl hl.1 rfl (lv_room (Nat.le_of_ble_eq_true rfl)) dX7_turnBack_30 ⟨Nat.zero_le _, Nat.zero_le _⟩) hS (fun r13 σ12 H locs hw hP hS => ?_)
  obtain ⟨hu_, hw⟩ := hw
  rw [hu_] at hP
  refine lv_iconst (v := 1) hx hb dX7_turnBack_33 (by decide) ?_
  refine lv_iadd hx hb dX7_turnBack_34 ?_
  refine hw_kv (va_runSN (As := [.ref (ad 37), .int x2_3, .int (r13 + (1 : Int32))]) (rest := []) ⟨hx, hb, hml, hown, hts⟩ (kc_X11_setCell l D cy N hN ad hJ0 σ1 _ 37 hAi_37 x2_3 (r13 + (1 : Int32)) _ hw) ⟨va_cnB 3 hts gX7_turnBack_X11_setCell_n58 rfl rfl rfl (hN1.at 9 rfl) (hts (.initialized RX11) (List.mem_of_getElem? (i := 10) rfl)) (by decide +kernel) ⟨Nat.le_of_ble_eq_true rfl, Nat.le_of_ble_eq_true rfl⟩, hts (.static yX11_setCell) (List.mem_of_getElem? (i := 12) rfl), trivial⟩ (hw_pre hK hN1 hP) rfl rfl hl.1 rfl (lv_room (Nat.le_of_ble_eq_true rfl)) dX7_turnBack_35 ⟨Nat.zero_le _, Nat.zero_le _⟩) hS (fun σ14 H locs hw hP hS => ?_)
  refine lv_iconst (v := 1) hx hb dX7_turnBack_38 (by decide) ?_
  exact hw_zret hx hb hr hlocks hbo_1 (σ14) hw hP hS dX7_turnBack_39
set_option maxHeartbeats 4000000 in
set_option maxRecDepth 100000 in
theorem kc_X7_seek (l : Launch) (D : va_G) (cy : Nat → ClassId) (N : Nat) (hN : 38 ≤ N) (ad : Nat → Nat) (hJ0 : hJ N ad) (σ : hSt) (sz : Nat) (k1 : Nat) (hk1 : hMe k1) (a2 : Int32) (a3 : Int32) (Q : Int32 → hSt → Prop) (hw : wp_X7_seek k1 a2 a3 σ Q) : Met l yX7_seek wsX7_seek ({ frames := 5, cells := 0, slots := 0, locals := 117 } : Room) (va_Pc [.ref (ad 35), .ref (ad k1), .int a2, .int a3] (hB D cy (hC N ad (bX cy ad) σ) sz)) (va_Qi (fun (r : Int32) (u : hSt) => Q r u) (hE D (fun u : hSt => hC N ad (bX cy ad) u)) (hA N ad sz)) 0 0 (hA N ad sz) := by
  refine Met.ofW (cc := cX7_seek) (maxL := 6) (ret := (some .int)) (by decide) rfl ?_
  intro p e s m args below meth c s₁ B hml hv
  obtain ⟨rfl, hsz, hP, hK, hN1⟩ := hv
  have hx := B.exec
  have hb := B.bytes
  have hr := B.returns
  have hts := atoms_spec (ws := wsX7_seek) B.pre
  have hown : s.vm.findClass RX7 = some m.cls := findClass_of_methodNamed B.named
  have hlocks := B.notSynchronized
  subst hsz
  have hS : va_S (hA N ad s.heap.size) s.heap s.heap [] := va_S.rf
  have hiX7 : ∀ w ∈ wsX70, w ∈ wsX7_seek := fun _ h => List.mem_cons_of_mem _ (List.mem_append_left _ (List.mem_append_left _ (List.mem_append_right _ h)))
  have hl := lv_entry ([.ref (ad 35), .ref (ad k1), .int a2, .int a3]) (n := 6) (Nat.le_of_ble_eq_true rfl)
  rw [lg_entry_eq]
  generalize (lg_sl ([.ref (ad 35), .ref (ad k1), .int a2, .int a3]) ++ List.replicate (6 - (lg_sl ([.ref (ad 35), .ref (ad k1), .int a2, .int a3])).length) Slot.unset).toArray = ls at hl ⊢
  have hl : lv_has ls 6 [(0, .ref (ad 35)), (1, .ref (ad k1)), (2, .int a2), (3, .int a3)] := hl
  unfold wp_X7_seek at hw
  refine lv_aload_n hx hb dX7_seek_0 rfl (lv_at hl 0 rfl) ?_
  refine hw_get (v := .ref (ad 17)) hx hb hts hiX7 hown hK hP (Nat.lt_of_lt_of_le (by decide) hN) (bX_35 _) rfl 0 (by decide) (List.mem_of_getElem? (i := 1) rfl) rfl rfl dX7_seek_1 ?_
  refine lv_aload_n hx hb dX7_seek_4 rfl (lv_at hl 1 rfl) ?_
  refine hw_ki (va_runV (As := []) (rest := [.ref (ad 17)]) ⟨hx, hb, hml, hown, hts⟩ (kc_X2_bells l D cy N hN ad hJ0 σ _ k1 hk1 _ hw) (cwV 0 hts gX7_seek_X2_bells rfl rfl rfl (by decide +kernel) ⟨Nat.le_of_ble_eq_true rfl, Nat.le_of_ble_eq_true rfl⟩) (hw_preV hK hN1 hP (hMe_lt hk1 hN) (bX_me hk1 _) rfl) rfl rfl hl.1 rfl (lv_room (Nat.le_of_ble_eq_true rfl)) dX7_seek_5 ⟨Nat.zero_le _, Nat.zero_le _⟩) hS (fun r2 σ1 H locs hw hP hS => ?_)
  obtain ⟨hu_, hw⟩ := hw
  rw [hu_] at hP
  refine hw_kv (va_runV (As := [.int r2]) (rest := []) ⟨hx, hb, hml, hown, hts⟩ (kc_X8_begin l D cy N hN ad hJ0 σ _ r2 _ hw) (cwV 1 hts gX7_seek_X8_begin rfl rfl rfl (by decide +kernel) ⟨Nat.le_of_ble_eq_true rfl, Nat.le_of_ble_eq_true rfl⟩) (hw_preV hK hN1 hP (Nat.lt_of_lt_of_le (by decide) hN) (bX_17 _) rfl) rfl rfl hl.1 rfl (lv_room (Nat.le_of_ble_eq_true rfl)) dX7_seek_8 ⟨Nat.zero_le _, Nat.zero_le _⟩) hS (fun σ3 H locs hw hP hS => ?_)
  refine lv_aload_n hx hb dX7_seek_11 rfl (lv_at hl 0 rfl) ?_
  refine lv_iconst (v := 0) hx hb dX7_seek_12 (by decide) ?_
  refine hw_put (x := (0 : Int32)) (j := 3) hx hb hts hiX7 tyX7 tyX7_ok nmX7 hown hK hJ0 hP hS (Nat.lt_of_lt_of_le (by decide) hN) (bX_35 _) rfl (by decide) (List.mem_of_getElem? (i := 2) rfl) rfl rfl rfl rfl (Nat.le_of_ble_eq_true rfl) (by rw [bX_35]; rfl) dX7_seek_13 (fun H locs hP hS => ?_)
  refine lv_aload_n hx hb dX7_seek_16 rfl (lv_at hl 1 rfl) ?_
  refine hw_ki (va_runV (As := []) (rest := []) ⟨hx, hb, hml, hown, hts⟩ (kc_X2_bells l D cy N hN ad hJ0 (hup σ3 35 3 (0 : Int32)) _ k1 hk1 _ hw) (cwV 0 hts gX7_seek_X2_bells rfl rfl rfl (by decide +kernel) ⟨Nat.le_of_ble_eq_true rfl, Nat.le_of_ble_eq_true rfl⟩) (hw_preV hK hN1 hP (hMe_lt hk1 hN) (bX_me hk1 _) rfl) rfl rfl hl.1 rfl (lv_room (Nat.le_of_ble_eq_true rfl)) dX7_seek_17 ⟨Nat.zero_le _, Nat.zero_le _⟩) hS (fun r5 σ4 H locs hw hP hS => ?_)
  obtain ⟨hu_, hw⟩ := hw
  rw [hu_] at hP
  refine hw_ki (va_runS (As := [.int r5]) (rest := []) ⟨hx, hb, hml, hown, hts⟩ (kc_X6_rounds l D cy N ad (bX cy ad) (hup σ3 35 3 (0 : Int32)) _ r5 _ hw) (va_cwS 1 hts gX7_seek_X6_rounds rfl rfl rfl (by decide +kernel) ⟨Nat.le_of_ble_eq_true rfl, Nat.le_of_ble_eq_true rfl⟩) (hw_pre hK hN1 hP) rfl rfl hl.1 rfl (lv_room (Nat.le_of_ble_eq_true rfl)) dX7_seek_20 ⟨Nat.zero_le _, Nat.zero_le _⟩) hS (fun r7 σ6 H locs hw hP hS => ?_)
  obtain ⟨hu_, hw⟩ := hw
  rw [hu_] at hP
  refine lv_istore (lv' := [(4, .int r7), (0, .ref (ad 35)), (1, .ref (ad k1)), (2, .int a2), (3, .int a3)]) hx hb dX7_seek_23 hl (by decide) rfl (fun ls hl => ?_)
  refine lv_aload_n hx hb dX7_seek_25 rfl (lv_at hl 1 rfl) ?_
  refine lv_iconst (v := 1) hx hb dX7_seek_26 (by decide) ?_
  refine hw_put (x := (1 : Int32)) (j := 4) hx hb hts hiX7 tyX7 tyX7_ok nmX7 hown hK hJ0 hP hS (Nat.lt_of_lt_of_le (by decide) hN) (bX_35 _) rfl (by decide) (List.mem_of_getElem? (i := 3) rfl) rfl rfl rfl rfl (Nat.le_of_ble_eq_true rfl) (by rw [bX_35]; rfl) dX7_seek_27 (fun H locs hP hS => ?_)
  refine hw (fun (v4_8 : Int32) (σ9 : hSt) => ∀ (H : Heap) (locs : List Loc) (ls : Array Slot), va_P D vwCl (hC N ad (bX cy ad) σ9) H → va_S (hA N ad s.heap.size) s.heap H locs → lv_has ls 6 [(0, .ref (ad 35)), (1, .ref (ad k1)), (2, .int a2), (3, .int a3), (4, .int v4_8)] → W p l e (headSpec wsX7_seek ({ frames := 5, cells := 0, slots := 0, locals := 117 } : Room)).room s m ([Value.ref (ad 35), Value.ref (ad k1), Value.int a2, Value.int a3] : List Value).toArray below meth c H locs 0 0 (MQ below (va_Qi (fun (r : Int32) (u : hSt) => Q r u) (hE D (fun u : hSt => hC N ad (bX cy ad) u)) (hA N ad s.heap.size)) ([Value.ref (ad 35), Value.ref (ad k1), Value.int a2, Value.int a3] : List Value).toArray s 0 0 (hA N ad s.heap.size)) (F0 m 30 ls [])) (fun v4_8 σ9 hw H locs ls hP hS hl => ?_) _ _ _ hP hS (lv_sub hl [1, 2, 3, 4, 0] rfl)
  refine lv_aload_n hx hb dX7_seek_30 rfl (lv_at hl 0 rfl) ?_
  refine hw_get (v := .int (σ9 35 4)) hx hb hts hiX7 hown hK hP (Nat.lt_of_lt_of_le (by decide) hN) (bX_35 _) rfl 4 (by decide) (List.mem_of_getElem? (i := 3) rfl) rfl rfl dX7_seek_31 ?_
  refine lv_iload_n hx hb dX7_seek_34 rfl (lv_at hl 3 rfl) ?_
  refine lv_icmp_gt (tgt := 186) hx hb dX7_seek_35 (by decide) (fun c10 => ?_) (fun c10 => ?_)
  · have hw := hw.1 c10
    refine lv_aload_n hx hb dX7_seek_186 rfl (lv_at hl 0 rfl) ?_
    refine lv_iload_n hx hb dX7_seek_187 rfl (lv_at hl 3 rfl) ?_
    refine hw_put (x := a3) (j := 4) hx hb hts hiX7 tyX7 tyX7_ok nmX7 hown hK hJ0 hP hS (Nat.lt_of_lt_of_le (by decide) hN) (bX_35 _) rfl (by decide) (List.mem_of_getElem? (i := 3) rfl) rfl rfl rfl rfl (Nat.le_of_ble_eq_true rfl) (by rw [bX_35]; rfl) dX7_seek_188 (fun H locs hP hS => ?_)
    refine lv_iconst (v := 2) hx hb dX7_seek_191 (by decide) ?_
    exact hw_iret hx hb hr hlocks ((hup σ9 35 4 a3)) hw hP hS dX7_seek_192
  have hw := hw.2 c10
  refine lv_iconst (v := 0) hx hb dX7_seek_38 (by decide) ?_
  refine lv_istore (lv' := [(5, .int (0 : Int32)), (0, .ref (ad 35)), (1, .ref (ad k1)), (2, .int a2), (3, .int a3), (4, .int v4_8)]) hx hb dX7_seek_39 hl (by decide) rfl (fun ls hl => ?_)
  refine lv_aload_n hx hb dX7_seek_41 rfl (lv_at hl 1 rfl) ?_
  refine lv_aload_n hx hb dX7_seek_42 rfl (lv_at hl 2 rfl) ?_
  refine lv_iload hx hb dX7_seek_43 (lv_at hl 5 rfl) ?_
  refine hw_ki (va_runV (As := [.ref (ad k1), .int v4_8]) (rest := []) ⟨hx, hb, hml, hown, hts⟩ (kc_X7_ring l D cy N hN ad hJ0 σ9 _ k1 hk1 v4_8 _ hw) (cwV 2 hts gX7_seek_X7_ring rfl rfl rfl (by decide +kernel) ⟨Nat.le_of_ble_eq_true rfl, Nat.le_of_ble_eq_true rfl⟩) (hw_preV hK hN1 hP (Nat.lt_of_lt_of_le (by decide) hN) (bX_35 _) rfl) rfl rfl hl.1 rfl (lv_room (Nat.le_of_ble_eq_true rfl)) dX7_seek_45 ⟨Nat.zero_le _, Nat.zero_le _⟩) hS (fun r12 σ11 H locs hw hP hS => ?_)
  obtain ⟨J129, ehJ129, hw⟩ := hM_x hw
  have hJ129 : ∀ (v5_13 : Int32) (σ14 : hSt) (H : Heap) (locs : List Loc) (ls : Array Slot), J129 v5_13 σ14 → va_P D vwCl (hC N ad (bX cy ad) σ14) H → va_S (hA N ad s.heap.size) s.heap H locs → lv_has ls 6 [(0, .ref (ad 35)), (1, .ref (ad k1)), (2, .int a2), (3, .int a3), (5, .int v5_13)] → W p l e (headSpec wsX7_seek ({ frames := 5, cells := 0, slots := 0, locals := 117 } : Room)).room s m ([Value.ref (ad 35), Value.ref (ad k1), Value.int a2, Value.int a3] : List Value).toArray below meth c H locs 0 0 (MQ below (va_Qi (fun (r : Int32) (u : hSt) => Q r u) (hE D (fun u : hSt => hC N ad (bX cy ad) u)) (hA N ad s.heap.size)) ([Value.ref (ad 35), Value.ref (ad k1), Value.int a2, Value.int a3] : List Value).toArray s 0 0 (hA N ad s.heap.size)) (F0 m 129 ls []) := by
    intro v5_13 σ14 H locs ls hw hP hS hl
    rw [ehJ129] at hw
    refine lv_iload hx hb dX7_seek_129 (lv_at hl 4 rfl) ?_
    obtain ⟨J144, ehJ144, hw⟩ := hM_x hw
    have hJ144 : ∀ (σ15 : hSt) (H : Heap) (locs : List Loc) (ls : Array Slot), J144 σ15 → va_P D vwCl (hC N ad (bX cy ad) σ15) H → va_S (hA N ad s.heap.size) s.heap H locs → lv_has ls 6 [(0, .ref (ad 35)), (1, .ref (ad k1)), (2, .int a2), (3, .int a3)] → W p l e (headSpec wsX7_seek ({ frames := 5, cells := 0, slots := 0, locals := 117 } : Room)).room s m ([Value.ref (ad 35), Value.ref (ad k1), Value.int a2, Value.int a3] : List Value).toArray below meth c H locs 0 0 (MQ below (va_Qi (fun (r : Int32) (u : hSt) => Q r u) (hE D (fun u : hSt => hC N ad (bX cy ad) u)) (hA N ad s.heap.size)) ([Value.ref (ad 35), Value.ref (ad k1), Value.int a2, Value.int a3] : List Value).toArray s 0 0 (hA N ad s.heap.size)) (F0 m 144 ls []) := by
      intro σ15 H locs ls hw hP hS hl
      rw [ehJ144] at hw
      refine lv_aload_n hx hb dX7_seek_144 rfl (lv_at hl 1 rfl) ?_
      refine lv_aload_n hx hb dX7_seek_145 rfl (lv_at hl 0 rfl) ?_
      refine hw_get (v := .ref (ad 36)) hx hb hts hiX7 hown hK hP (Nat.lt_of_lt_of_le (by decide) hN) (bX_35 _) rfl 1 (by decide) (List.mem_of_getElem? (i := 4) rfl) rfl rfl dX7_seek_146 ?_
      refine lv_aload_n hx hb dX7_seek_149 rfl (lv_at hl 0 rfl) ?_
      refine hw_get (v := .int (σ15 35 3)) hx hb hts hiX7 hown hK hP (Nat.lt_of_lt_of_le (by decide) hN) (bX_35 _) rfl 3 (by decide) (List.mem_of_getElem? (i := 2) rfl) rfl rfl dX7_seek_150 ?_
      refine lv_iconst (v := 1) hx hb dX7_seek_153 (by decide) ?_
      refine lv_isub hx hb dX7_seek_154 ?_
      refine hw_ki (va_runSN (As := [.ref (ad 36), .int ((σ15 35 3) - (1 : Int32))]) (rest := [.ref (ad k1)]) ⟨hx, hb, hml, hown, hts⟩ (kc_X11_cell l D cy N hN ad hJ0 σ15 _ 36 hAi_36 ((σ15 35 3) - (1 : Int32)) _ hw) ⟨va_cnB 2 hts gX7_seek_X11_cell_n29 rfl rfl rfl (hN1.at 8 rfl) (hts (.initialized RX11) (List.mem_of_getElem? (i := 57) rfl)) (by decide +kernel) ⟨Nat.le_of_ble_eq_true rfl, Nat.le_of_ble_eq_true rfl⟩, hts (.static yX11_cell) (List.mem_of_getElem? (i := 56) rfl), trivial⟩ (hw_pre hK hN1 hP) rfl rfl hl.1 rfl (lv_room (Nat.le_of_ble_eq_true rfl)) dX7_seek_155 ⟨Nat.zero_le _, Nat.zero_le _⟩) hS (fun r17 σ16 H locs hw hP hS => ?_)
      obtain ⟨hu_, hw⟩ := hw
      rw [hu_] at hP
      refine lv_aload_n hx hb dX7_seek_158 rfl (lv_at hl 0 rfl) ?_
      refine lv_aload_n hx hb dX7_seek_159 rfl (lv_at hl 0 rfl) ?_
      refine hw_get (v := .int (σ15 35 3)) hx hb hts hiX7 hown hK hP (Nat.lt_of_lt_of_le (by decide) hN) (bX_35 _) rfl 3 (by decide) (List.mem_of_getElem? (i := 2) rfl) rfl rfl dX7_seek_160 ?_
      refine lv_iconst (v := 1) hx hb dX7_seek_163 (by decide) ?_
      refine lv_isub hx hb dX7_seek_164 ?_
      refine hw_ki (va_runV (As := [.int ((σ15 35 3) - (1 : Int32))]) (rest := [.int r17, .ref (ad k1)]) ⟨hx, hb, hml, hown, hts⟩ (kc_X7_callOf l D cy N hN ad hJ0 σ15 _ ((σ15 35 3) - (1 : Int32)) _ hw) (cwV 1 hts gX7_seek_X7_callOf rfl rfl rfl (by decide +kernel) ⟨Nat.le_of_ble_eq_true rfl, Nat.le_of_ble_eq_true rfl⟩) (hw_preV hK hN1 hP (Nat.lt_of_lt_of_le (by decide) hN) (bX_35 _) rfl) rfl rfl hl.1 rfl (lv_room (Nat.le_of_ble_eq_true rfl)) dX7_seek_165 ⟨Nat.zero_le _, Nat.zero_le _⟩) hS (fun r19 σ18 H locs hw hP hS => ?_)
      obtain ⟨hu_, hw⟩ := hw
      rw [hu_] at hP
      refine hw_ki (va_runV (As := [.int r17, .int r19]) (rest := []) ⟨hx, hb, hml, hown, hts⟩ (kc_X2_following l D cy N hN ad hJ0 σ15 _ k1 hk1 r17 r19 _ hw) (cwV 2 hts gX7_seek_X2_following rfl rfl rfl (by decide +kernel) ⟨Nat.le_of_ble_eq_true rfl, Nat.le_of_ble_eq_true rfl⟩) (hw_preV hK hN1 hP (hMe_lt hk1 hN) (bX_me hk1 _) rfl) rfl rfl hl.1 rfl (lv_room (Nat.le_of_ble_eq_true rfl)) dX7_seek_168 ⟨Nat.zero_le _, Nat.zero_le _⟩) hS (fun r21 σ20 H locs hw hP hS => ?_)
      obtain ⟨hu_, hw⟩ := hw
      rw [hu_] at hP
      refine lv_istore (lv' := [(4, .int r21), (0, .ref (ad 35)), (1, .ref (ad k1)), (2, .int a2), (3, .int a3)]) hx hb dX7_seek_171 hl (by decide) rfl (fun ls hl => ?_)
      refine lv_aload_n hx hb dX7_seek_173 rfl (lv_at hl 1 rfl) ?_
      refine lv_dup hx hb dX7_seek_174 rfl ?_
      refine hw_get (v := .int (σ15 35 4)) hx hb hts hiX7 hown hK hP (Nat.lt_of_lt_of_le (by decide) hN) (bX_35 _) rfl 4 (by decide) (List.mem_of_getElem? (i := 3) rfl) rfl rfl dX7_seek_175 ?_
      refine lv_iconst (v := 1) hx hb dX7_seek_178 (by decide) ?_
      refine lv_iadd hx hb dX7_seek_179 ?_
      refine hw_put (x := ((σ15 35 4) + (1 : Int32))) (j := 4) hx hb hts hiX7 tyX7 tyX7_ok nmX7 hown hK hJ0 hP hS (Nat.lt_of_lt_of_le (by decide) hN) (bX_35 _) rfl (by decide) (List.mem_of_getElem? (i := 3) rfl) rfl rfl rfl rfl (Nat.le_of_ble_eq_true rfl) (by rw [bX_35]; rfl) dX7_seek_180 (fun H locs hP hS => ?_)
      refine lv_goto (tgt := 30) hx hb dX7_seek_183 (by decide) ?_
      exact hw _ _ _ hP hS (lv_sub hl [1, 2, 3, 4, 0] rfl)
    refine lv_if_ne (tgt := 144) hx hb dX7_seek_131 (by decide) (fun c22 => ?_) (fun c22 => ?_)
    · have hw := hw.1 c22
      exact hJ144 _ _ _ _ hw hP hS (lv_sub hl [0, 1, 2, 3] rfl)
    have hw := hw.2 c22
    refine lv_aload_n hx hb dX7_seek_134 rfl (lv_at hl 0 rfl) ?_
    refine lv_aload_n hx hb dX7_seek_135 rfl (lv_at hl 1 rfl) ?_
    refine hw_ki (va_runV (As := [.ref (ad k1)]) (rest := []) ⟨hx, hb, hml, hown, hts⟩ (kc_X7_turnBack l D cy N hN ad hJ0 σ14 _ k1 hk1 _ hw) (cwV 1 hts gX7_seek_X7_turnBack rfl rfl rfl (by decide +kernel) ⟨Nat.le_of_ble_eq_true rfl, Nat.le_of_ble_eq_true rfl⟩) (hw_preV hK hN1 hP (Nat.lt_of_lt_of_le (by decide) hN) (bX_35 _) rfl) rfl rfl hl.1 rfl (lv_room (Nat.le_of_ble_eq_true rfl)) dX7_seek_136 ⟨Nat.zero_le _, Nat.zero_le _⟩) hS (fun r24 σ23 H locs hw hP hS => ?_)
    refine lv_if_ne (tgt := 144) hx hb dX7_seek_139 (by decide) (fun c25 => ?_) (fun c25 => ?_)
    · have hw := hw.1 c25
      exact hJ144 _ _ _ _ hw hP hS (lv_sub hl [0, 1, 2, 3] rfl)
    have hw := hw.2 c25
    refine lv_iconst (v := 1) hx hb dX7_seek_142 (by decide) ?_
    exact hw_iret hx hb hr hlocks (σ23) hw hP hS dX7_seek_143
  refine lv_if_eq (tgt := 129) hx hb dX7_seek_48 (by decide) (fun c26 => ?_) (fun c26 => ?_)
  · have hw := hw.1 c26
    exact hJ129 _ _ _ _ _ hw hP hS (lv_sub hl [1, 2, 3, 4, 0] rfl)
  have hw := hw.2 c26
  refine lv_aload_n hx hb dX7_seek_51 rfl (lv_at hl 1 rfl) ?_
  refine hw_get (v := .int (σ11 35 3)) hx hb hts hiX7 hown hK hP (Nat.lt_of_lt_of_le (by decide) hN) (bX_35 _) rfl 3 (by decide) (List.mem_of_getElem? (i := 2) rfl) rfl rfl dX7_seek_52 ?_
  refine lv_iconst (v := 1) hx hb dX7_seek_55 (by decide) ?_
  refine lv_iadd hx hb dX7_seek_56 ?_
  refine lv_iload_n hx hb dX7_seek_57 rfl (lv_at hl 3 rfl) ?_
  obtain ⟨J66, ehJ66, hw⟩ := hM_x hw
  have hJ66 : ∀ (z27 : Int32) (H : Heap) (locs : List Loc) (ls : Array Slot), J66 z27 → va_P D vwCl (hC N ad (bX cy ad) σ11) H → va_S (hA N ad s.heap.size) s.heap H locs → lv_has ls 6 [(0, .ref (ad 35)), (1, .ref (ad k1)), (2, .int a2), (3, .int a3), (4, .int v4_8)] → W p l e (headSpec wsX7_seek ({ frames := 5, cells := 0, slots := 0, locals := 117 } : Room)).room s m ([Value.ref (ad 35), Value.ref (ad k1), Value.int a2, Value.int a3] : List Value).toArray below meth c H locs 0 0 (MQ below (va_Qi (fun (r : Int32) (u : hSt) => Q r u) (hE D (fun u : hSt => hC N ad (bX cy ad) u)) (hA N ad s.heap.size)) ([Value.ref (ad 35), Value.ref (ad k1), Value.int a2, Value.int a3] : List Value).toArray s 0 0 (hA N ad s.heap.size)) (F0 m 66 ls [.int z27]) := by
    intro z27 H locs ls hw hP hS hl
    rw [ehJ66] at hw
    refine lv_istore (lv' := [(5, .int z27), (0, .ref (ad 35)), (1, .ref (ad k1)), (2, .int a2), (3, .int a3), (4, .int v4_8)]) hx hb dX7_seek_66 hl (by decide) rfl (fun ls hl => ?_)
    refine lv_iload hx hb dX7_seek_68 (lv_at hl 0 rfl) ?_
    obtain ⟨J85, ehJ85, hw⟩ := hM_x hw
    have hJ85 : ∀ (σ28 : hSt) (H : Heap) (locs : List Loc) (ls : Array Slot), J85 σ28 → va_P D vwCl (hC N ad (bX cy ad) σ28) H → va_S (hA N ad s.heap.size) s.heap H locs → lv_has ls 6 [(0, .ref (ad 35)), (1, .ref (ad k1)), (2, .int a2), (3, .int a3), (4, .int v4_8), (5, .int z27)] → W p l e (headSpec wsX7_seek ({ frames := 5, cells := 0, slots := 0, locals := 117 } : Room)).room s m ([Value.ref (ad 35), Value.ref (ad k1), Value.int a2, Value.int a3] : List Value).toArray below meth c H locs 0 0 (MQ below (va_Qi (fun (r : Int32) (u : hSt) => Q r u) (hE D (fun u : hSt => hC N ad (bX cy ad) u)) (hA N ad s.heap.size)) ([Value.ref (ad 35), Value.ref (ad k1), Value.int a2, Value.int a3] : List Value).toArray s 0 0 (hA N ad s.heap.size)) (F0 m 85 ls []) := by
      intro σ28 H locs ls hw hP hS hl
      rw [ehJ85] at hw
      refine lv_aload_n hx hb dX7_seek_85 rfl (lv_at hl 0 rfl) ?_
      refine hw_get (v := .ref (ad 36)) hx hb hts hiX7 hown hK hP (Nat.lt_of_lt_of_le (by decide) hN) (bX_35 _) rfl 1 (by decide) (List.mem_of_getElem? (i := 4) rfl) rfl rfl dX7_seek_86 ?_
      refine lv_aload_n hx hb dX7_seek_89 rfl (lv_at hl 0 rfl) ?_
      refine hw_get (v := .int (σ28 35 3)) hx hb hts hiX7 hown hK hP (Nat.lt_of_lt_of_le (by decide) hN) (bX_35 _) rfl 3 (by decide) (List.mem_of_getElem? (i := 2) rfl) rfl rfl dX7_seek_90 ?_
      refine lv_iload hx hb dX7_seek_93 (lv_at hl 4 rfl) ?_
      refine hw_kv (va_runSN (As := [.ref (ad 36), .int (σ28 35 3), .int v4_8]) (rest := []) ⟨hx, hb, hml, hown, hts⟩ (kc_X11_setCell l D cy N hN ad hJ0 σ28 _ 36 hAi_36 (σ28 35 3) v4_8 _ hw) ⟨va_cnB 3 hts gX7_seek_X11_setCell_n58 rfl rfl rfl (hN1.at 9 rfl) (hts (.initialized RX11) (List.mem_of_getElem? (i := 57) rfl)) (by decide +kernel) ⟨Nat.le_of_ble_eq_true rfl, Nat.le_of_ble_eq_true rfl⟩, hts (.static yX11_setCell) (List.mem_of_getElem? (i := 59) rfl), trivial⟩ (hw_pre hK hN1 hP) rfl rfl hl.1 rfl (lv_room (Nat.le_of_ble_eq_true rfl)) dX7_seek_95 ⟨Nat.zero_le _, Nat.zero_le _⟩) hS (fun σ29 H locs hw hP hS => ?_)
      refine lv_aload_n hx hb dX7_seek_98 rfl (lv_at hl 0 rfl) ?_
      refine hw_get (v := .ref (ad 37)) hx hb hts hiX7 hown hK hP (Nat.lt_of_lt_of_le (by decide) hN) (bX_35 _) rfl 2 (by decide) (List.mem_of_getElem? (i := 5) rfl) rfl rfl dX7_seek_99 ?_
      refine lv_aload_n hx hb dX7_seek_102 rfl (lv_at hl 0 rfl) ?_
      refine hw_get (v := .int (σ29 35 3)) hx hb hts hiX7 hown hK hP (Nat.lt_of_lt_of_le (by decide) hN) (bX_35 _) rfl 3 (by decide) (List.mem_of_getElem? (i := 2) rfl) rfl rfl dX7_seek_103 ?_
      refine lv_iload hx hb dX7_seek_106 (lv_at hl 5 rfl) ?_
      obtain ⟨J116, ehJ116, hw⟩ := hM_x hw
      have hJ116 : ∀ (z30 : Int32) (H : Heap) (locs : List Loc) (ls : Array Slot), J116 z30 → va_P D vwCl (hC N ad (bX cy ad) σ29) H → va_S (hA N ad s.heap.size) s.heap H locs → lv_has ls 6 [(0, .ref (ad 35)), (1, .ref (ad k1)), (2, .int a2), (3, .int a3), (5, .int z27)] → W p l e (headSpec wsX7_seek ({ frames := 5, cells := 0, slots := 0, locals := 117 } : Room)).room s m ([Value.ref (ad 35), Value.ref (ad k1), Value.int a2, Value.int a3] : List Value).toArray below meth c H locs 0 0 (MQ below (va_Qi (fun (r : Int32) (u : hSt) => Q r u) (hE D (fun u : hSt => hC N ad (bX cy ad) u)) (hA N ad s.heap.size)) ([Value.ref (ad 35), Value.ref (ad k1), Value.int a2, Value.int a3] : List Value).toArray s 0 0 (hA N ad s.heap.size)) (F0 m 116 ls [.int z30, .int (σ29 35 3), .ref (ad 37)]) := by
        intro z30 H locs ls hw hP hS hl
        rw [ehJ116] at hw
        refine hw_kv (va_runSN (As := [.ref (ad 37), .int (σ29 35 3), .int z30]) (rest := []) ⟨hx, hb, hml, hown, hts⟩ (kc_X11_setCell l D cy N hN ad hJ0 σ29 _ 37 hAi_37 (σ29 35 3) z30 _ hw) ⟨va_cnB 3 hts gX7_seek_X11_setCell_n58 rfl rfl rfl (hN1.at 9 rfl) (hts (.initialized RX11) (List.mem_of_getElem? (i := 57) rfl)) (by decide +kernel) ⟨Nat.le_of_ble_eq_true rfl, Nat.le_of_ble_eq_true rfl⟩, hts (.static yX11_setCell) (List.mem_of_getElem? (i := 59) rfl), trivial⟩ (hw_pre hK hN1 hP) rfl rfl hl.1 rfl (lv_room (Nat.le_of_ble_eq_true rfl)) dX7_seek_116 ⟨Nat.zero_le _, Nat.zero_le _⟩) hS (fun σ31 H locs hw hP hS => ?_)
        refine lv_aload_n hx hb dX7_seek_119 rfl (lv_at hl 0 rfl) ?_
        refine lv_dup hx hb dX7_seek_120 rfl ?_
        refine hw_get (v := .int (σ31 35 3)) hx hb hts hiX7 hown hK hP (Nat.lt_of_lt_of_le (by decide) hN) (bX_35 _) rfl 3 (by decide) (List.mem_of_getElem? (i := 2) rfl) rfl rfl dX7_seek_121 ?_
        refine lv_iconst (v := 1) hx hb dX7_seek_124 (by decide) ?_
        refine lv_iadd hx hb dX7_seek_125 ?_
        refine hw_put (x := ((σ31 35 3) + (1 : Int32))) (j := 3) hx hb hts hiX7 tyX7 tyX7_ok nmX7 hown hK hJ0 hP hS (Nat.lt_of_lt_of_le (by decide) hN) (bX_35 _) rfl (by decide) (List.mem_of_getElem? (i := 2) rfl) rfl rfl rfl rfl (Nat.le_of_ble_eq_true rfl) (by rw [bX_35]; rfl) dX7_seek_126 (fun H locs hP hS => ?_)
        exact hJ129 _ _ _ _ _ hw hP hS (lv_sub hl [0, 1, 2, 3, 4] rfl)
      refine lv_if_eq (tgt := 115) hx hb dX7_seek_108 (by decide) (fun c32 => ?_) (fun c32 => ?_)
      · have hw := hw.1 c32
        refine lv_iconst (v := 2) hx hb dX7_seek_115 (by decide) ?_
        exact hJ116 _ _ _ _ hw hP hS (lv_sub hl [0, 1, 2, 3, 5] rfl)
      have hw := hw.2 c32
      refine lv_iconst (v := 0) hx hb dX7_seek_111 (by decide) ?_
      refine lv_goto (tgt := 116) hx hb dX7_seek_112 (by decide) ?_
      exact hJ116 _ _ _ _ hw hP hS (lv_sub hl [0, 1, 2, 3, 5] rfl)
    refine lv_if_ne (tgt := 85) hx hb dX7_seek_70 (by decide) (fun c33 => ?_) (fun c33 => ?_)
    · have hw := hw.1 c33
      exact hJ85 _ _ _ _ hw hP hS (lv_sub hl [1, 2, 3, 4, 5, 0] rfl)
    have hw := hw.2 c33
    refine lv_aload_n hx hb dX7_seek_73 rfl (lv_at hl 1 rfl) ?_
    refine lv_aload_n hx hb dX7_seek_74 rfl (lv_at hl 2 rfl) ?_
    refine lv_iload hx hb dX7_seek_75 (lv_at hl 5 rfl) ?_
    refine hw_ki (va_runV (As := [.ref (ad k1), .int v4_8]) (rest := []) ⟨hx, hb, hml, hown, hts⟩ (kc_X7_endsHome l D cy N hN ad hJ0 σ11 _ k1 hk1 v4_8 _ hw) (cwV 2 hts gX7_seek_X7_endsHome rfl rfl rfl (by decide +kernel) ⟨Nat.le_of_ble_eq_true rfl, Nat.le_of_ble_eq_true rfl⟩) (hw_preV hK hN1 hP (Nat.lt_of_lt_of_le (by decide) hN) (bX_35 _) rfl) rfl rfl hl.1 rfl (lv_room (Nat.le_of_ble_eq_true rfl)) dX7_seek_77 ⟨Nat.zero_le _, Nat.zero_le _⟩) hS (fun r35 σ34 H locs hw hP hS => ?_)
    refine lv_if_eq (tgt := 85) hx hb dX7_seek_80 (by decide) (fun c36 => ?_) (fun c36 => ?_)
    · have hw := hw.1 c36
      exact hJ85 _ _ _ _ hw hP hS (lv_sub hl [1, 2, 3, 4, 5, 0] rfl)
    have hw := hw.2 c36
    refine lv_iconst (v := 0) hx hb dX7_seek_83 (by decide) ?_
    exact hw_iret hx hb hr hlocks (σ34) hw hP hS dX7_seek_84
  refine lv_icmp_ge (tgt := 65) hx hb dX7_seek_58 (by decide) (fun c37 => ?_) (fun c37 => ?_)
  · have hw := hw.1 c37
    refine lv_iconst (v := 0) hx hb dX7_seek_65 (by decide) ?_
    exact hJ66 _ _ _ _ hw hP hS (lv_sub hl [1, 2, 3, 4, 5] rfl)
  have hw := hw.2 c37
  refine lv_iconst (v := 1) hx hb dX7_seek_61 (by decide) ?_
  refine lv_goto (tgt := 66) hx hb dX7_seek_62 (by decide) ?_
  exact hJ66 _ _ _ _ hw hP hS (lv_sub hl [1, 2, 3, 4, 5] rfl)
set_option maxHeartbeats 4000000 in
set_option maxRecDepth 100000 in
theorem kc_X0_size (l : Launch) (D : va_G) (cy : Nat → ClassId) (N : Nat) (hN : 38 ≤ N) (ad : Nat → Nat) (hJ0 : hJ N ad) (σ : hSt) (sz : Nat)  (Q : Int32 → Prop) (hw : wp_X0_size  σ Q) : Met l yX0_size wsX0_size ({ frames := 2, cells := 0, slots := 0, locals := 43 } : Room) (va_Pc [.ref (ad 1)] (hB D cy (hC N ad (bX cy ad) σ) sz)) (va_Qi (fun (r : Int32) (u : hSt) => u = σ ∧ Q r) (hE D (fun u : hSt => hC N ad (bX cy ad) u)) (hA N ad sz)) 0 0 (hA N ad sz) := by
  refine Met.ofW (cc := cX0_size) (maxL := 3) (ret := (some .int)) (by decide) rfl ?_
  intro p e s m args below meth c s₁ B hml hv
  obtain ⟨rfl, hsz, hP, hK, hN1⟩ := hv
  have hx := B.exec
  have hb := B.bytes
  have hr := B.returns
  have hts := atoms_spec (ws := wsX0_size) B.pre
  have hown : s.vm.findClass RX0 = some m.cls := findClass_of_methodNamed B.named
  have hlocks := B.notSynchronized
  subst hsz
  have hS : va_S (hA N ad s.heap.size) s.heap s.heap [] := va_S.rf
  have hl := lv_entry ([.ref (ad 1)]) (n := 3) (Nat.le_of_ble_eq_true rfl)
  rw [lg_entry_eq]
  generalize (lg_sl ([.ref (ad 1)]) ++ List.replicate (3 - (lg_sl ([.ref (ad 1)])).length) Slot.unset).toArray = ls at hl ⊢
  have hl : lv_has ls 3 [(0, .ref (ad 1))] := hl
  unfold wp_X0_size at hw
  refine lv_iconst (v := 0) hx hb dX0_size_0 (by decide) ?_
  refine lv_istore_n (lv' := [(1, .int (0 : Int32)), (0, .ref (ad 1))]) hx hb dX0_size_1 rfl hl (by decide) rfl (fun ls hl => ?_)
  refine lv_iconst (v := 0) hx hb dX0_size_2 (by decide) ?_
  refine lv_istore_n (lv' := [(2, .int (0 : Int32)), (1, .int (0 : Int32)), (0, .ref (ad 1))]) hx hb dX0_size_3 rfl hl (by decide) rfl (fun ls hl => ?_)
  refine hw (fun (v1_1 : Int32) (v2_2 : Int32) => ∀ (H : Heap) (locs : List Loc) (ls : Array Slot), va_P D vwCl (hC N ad (bX cy ad) σ) H → va_S (hA N ad s.heap.size) s.heap H locs → lv_has ls 3 [(0, .ref (ad 1)), (1, .int v1_1), (2, .int v2_2)] → W p l e (headSpec wsX0_size ({ frames := 2, cells := 0, slots := 0, locals := 43 } : Room)).room s m ([Value.ref (ad 1)] : List Value).toArray below meth c H locs 0 0 (MQ below (va_Qi (fun (r : Int32) (u : hSt) => u = σ ∧ Q r) (hE D (fun u : hSt => hC N ad (bX cy ad) u)) (hA N ad s.heap.size)) ([Value.ref (ad 1)] : List Value).toArray s 0 0 (hA N ad s.heap.size)) (F0 m 4 ls [])) (fun v1_1 v2_2 hw H locs ls hP hS hl => ?_) _ _ _ hP hS (lv_sub hl [2, 1, 0] rfl)
  refine lv_iload_n hx hb dX0_size_4 rfl (lv_at hl 2 rfl) ?_
  refine lv_bipush (v := 6) hx hb dX0_size_5 (by decide) ?_
  refine lv_icmp_ge (tgt := 27) hx hb dX0_size_7 (by decide) (fun c3 => ?_) (fun c3 => ?_)
  · have hw := hw.1 c3
    refine lv_iload_n hx hb dX0_size_27 rfl (lv_at hl 1 rfl) ?_
    exact hw_iret hx hb hr hlocks (σ) ⟨rfl, hw⟩ hP hS dX0_size_28
  have hw := hw.2 c3
  refine lv_iload_n hx hb dX0_size_10 rfl (lv_at hl 1 rfl) ?_
  refine lv_aload_n hx hb dX0_size_11 rfl (lv_at hl 0 rfl) ?_
  refine lv_iload_n hx hb dX0_size_12 rfl (lv_at hl 2 rfl) ?_
  refine hw_ki (va_runV (As := [.int v2_2]) (rest := [.int v1_1]) ⟨hx, hb, hml, hown, hts⟩ (kc_X0_has l D cy N hN ad hJ0 σ _ v2_2 _ hw) (cwV 1 hts gX0_size_X0_has rfl rfl rfl (by decide +kernel) ⟨Nat.le_of_ble_eq_true rfl, Nat.le_of_ble_eq_true rfl⟩) (hw_preV hK hN1 hP (Nat.lt_of_lt_of_le (by decide) hN) (bX_1 _) rfl) rfl rfl hl.1 rfl (lv_room (Nat.le_of_ble_eq_true rfl)) dX0_size_13 ⟨Nat.zero_le _, Nat.zero_le _⟩) hS (fun r5 σ4 H locs hw hP hS => ?_)
  obtain ⟨hu_, hw⟩ := hw
  rw [hu_] at hP
  refine hw_ki (va_runSN (As := [.int r5]) (rest := [.int v1_1]) ⟨hx, hb, hml, hown, hts⟩ (kc_X11_oneIf l D cy N ad (bX cy ad) σ _ r5 _ hw) ⟨va_cnB 1 hts gX0_size_X11_oneIf_n34 rfl rfl rfl (hN1.at 0 rfl) (hts (.initialized RX11) (List.mem_of_getElem? (i := 19) rfl)) (by decide +kernel) ⟨Nat.le_of_ble_eq_true rfl, Nat.le_of_ble_eq_true rfl⟩, hts (.static yX11_oneIf) (List.mem_of_getElem? (i := 18) rfl), trivial⟩ (hw_pre hK hN1 hP) rfl rfl hl.1 rfl (lv_room (Nat.le_of_ble_eq_true rfl)) dX0_size_16 ⟨Nat.zero_le _, Nat.zero_le _⟩) hS (fun r7 σ6 H locs hw hP hS => ?_)
  obtain ⟨hu_, hw⟩ := hw
  rw [hu_] at hP
  refine lv_iadd hx hb dX0_size_19 ?_
  refine lv_topi (fun x1_8 ex1_8 => ?_)
  have hw := hw x1_8 ex1_8
  refine lv_istore_n (lv' := [(1, .int x1_8), (0, .ref (ad 1)), (2, .int v2_2)]) hx hb dX0_size_20 rfl hl (by decide) rfl (fun ls hl => ?_)
  obtain ⟨x2_9, ex2_9⟩ : ∃ z : Int32, z = v2_2 + (1 : Int32) := ⟨_, rfl⟩
  have hw := hw x2_9 ex2_9
  refine lv_iinc (v := x2_9) (lv' := [(2, .int x2_9), (1, .int x1_8), (0, .ref (ad 1))]) hx hb dX0_size_21 hl (k := 2) rfl (by rw [ex2_9]; rfl) (by decide) rfl (fun ls hl => ?_)
  refine lv_goto (tgt := 4) hx hb dX0_size_24 (by decide) ?_
  exact hw _ _ _ hP hS (lv_sub hl [2, 1, 0] rfl)
set_option maxHeartbeats 4000000 in
set_option maxRecDepth 100000 in
theorem kc_X7_looked (l : Launch) (D : va_G) (cy : Nat → ClassId) (N : Nat) (hN : 38 ≤ N) (ad : Nat → Nat) (hJ0 : hJ N ad) (σ : hSt) (sz : Nat)  (Q : Int32 → Prop) (hw : wp_X7_looked  σ Q) : Met l yX7_looked wsX7_looked ({ frames := 0, cells := 0, slots := 0, locals := 0 } : Room) (va_Pc [.ref (ad 35)] (hB D cy (hC N ad (bX cy ad) σ) sz)) (va_Qi (fun (r : Int32) (u : hSt) => u = σ ∧ Q r) (hE D (fun u : hSt => hC N ad (bX cy ad) u)) (hA N ad sz)) 0 0 (hA N ad sz) := by
  refine Met.ofW (cc := cX7_looked) (maxL := 1) (ret := (some .int)) (by decide) rfl ?_
  intro p e s m args below meth c s₁ B hml hv
  obtain ⟨rfl, hsz, hP, hK, hN1⟩ := hv
  have hx := B.exec
  have hb := B.bytes
  have hr := B.returns
  have hts := atoms_spec (ws := wsX7_looked) B.pre
  have hown : s.vm.findClass RX7 = some m.cls := findClass_of_methodNamed B.named
  have hlocks := B.notSynchronized
  subst hsz
  have hS : va_S (hA N ad s.heap.size) s.heap s.heap [] := va_S.rf
  have hiX7 : ∀ w ∈ wsX70, w ∈ wsX7_looked := fun _ h => List.mem_cons_of_mem _ (List.mem_append_right _ h)
  have hl := lv_entry ([.ref (ad 35)]) (n := 1) (Nat.le_of_ble_eq_true rfl)
  rw [lg_entry_eq]
  generalize (lg_sl ([.ref (ad 35)]) ++ List.replicate (1 - (lg_sl ([.ref (ad 35)])).length) Slot.unset).toArray = ls at hl ⊢
  have hl : lv_has ls 1 [(0, .ref (ad 35))] := hl
  unfold wp_X7_looked at hw
  refine lv_aload_n hx hb dX7_looked_0 rfl (lv_at hl 0 rfl) ?_
  refine hw_get (v := .int (σ 35 4)) hx hb hts hiX7 hown hK hP (Nat.lt_of_lt_of_le (by decide) hN) (bX_35 _) rfl 4 (by decide) (List.mem_of_getElem? (i := 1) rfl) rfl rfl dX7_looked_1 ?_
  exact hw_iret hx hb hr hlocks (σ) ⟨rfl, hw⟩ hP hS dX7_looked_4
set_option maxHeartbeats 4000000 in
set_option maxRecDepth 100000 in
theorem kc_X11_count (l : Launch) (D : va_G) (cy : Nat → ClassId) (N : Nat) (hN : 38 ≤ N) (ad : Nat → Nat) (hJ0 : hJ N ad) (σ : hSt) (sz : Nat) (a1 : Int32) (Q : Int32 → Prop) (hw : wp_X11_count a1 σ Q) : Met l yX11_count wsX11_count ({ frames := 3, cells := 0, slots := 0, locals := 65 } : Room) (va_Pc [.ref (ad 0), .int a1] (hB D cy (hC N ad (bX cy ad) σ) sz)) (va_Qi (fun (r : Int32) (u : hSt) => u = σ ∧ Q r) (hE D (fun u : hSt => hC N ad (bX cy ad) u)) (hA N ad sz)) 0 0 (hA N ad sz) := by
  refine Met.ofW (cc := cX11_count) (maxL := 2) (ret := (some .int)) (by decide) rfl ?_
  intro p e s m args below meth c s₁ B hml hv
  obtain ⟨rfl, hsz, hP, hK, hN1⟩ := hv
  have hx := B.exec
  have hb := B.bytes
  have hr := B.returns
  have hts := atoms_spec (ws := wsX11_count) B.pre
  have hown : s.vm.findClass RX11 = some m.cls := findClass_of_methodNamed B.named
  have hlocks := B.notSynchronized
  subst hsz
  have hS : va_S (hA N ad s.heap.size) s.heap s.heap [] := va_S.rf
  have hiX11 : ∀ w ∈ wsX110, w ∈ wsX11_count := fun _ h => List.mem_cons_of_mem _ (List.mem_append_left _ (List.mem_append_left _ (List.mem_append_left _ (List.mem_append_left _ (List.mem_append_right _ h)))))
  have hl := lv_entry ([.ref (ad 0), .int a1]) (n := 2) (Nat.le_of_ble_eq_true rfl)
  rw [lg_entry_eq]
  generalize (lg_sl ([.ref (ad 0), .int a1]) ++ List.replicate (2 - (lg_sl ([.ref (ad 0), .int a1])).length) Slot.unset).toArray = ls at hl ⊢
  have hl : lv_has ls 2 [(0, .ref (ad 0)), (1, .int a1)] := hl
  unfold wp_X11_count at hw
  refine lv_iload_n hx hb dX11_count_0 rfl (lv_at hl 1 rfl) ?_
  refine lv_topi (fun x1 ex1 => ?_)
  have hw := hw x1 ex1
  by_cases c2 : x1 = (0 : Int32)
  · have hw := hw.1 c2
    refine lv_tableIn (tgt := 32) hx hb dX11_count_1 (by rw [c2]; decide) (by rw [c2]; decide) (by rw [c2]; rfl) (by decide) ?_
    refine lv_aload_n hx hb dX11_count_32 rfl (lv_at hl 0 rfl) ?_
    refine hw_get (v := .int (σ 0 0)) hx hb hts hiX11 hown hK hP (Nat.lt_of_lt_of_le (by decide) hN) (bX_0 _) rfl 0 (by decide) (List.mem_of_getElem? (i := 1) rfl) rfl rfl dX11_count_33 ?_
    exact hw_iret hx hb hr hlocks (σ) ⟨rfl, hw⟩ hP hS dX11_count_36
  have hw := hw.2 c2
  by_cases c3 : x1 = (1 : Int32)
  · have hw := hw.1 c3
    refine lv_tableIn (tgt := 37) hx hb dX11_count_1 (by rw [c3]; decide) (by rw [c3]; decide) (by rw [c3]; rfl) (by decide) ?_
    refine lv_aload_n hx hb dX11_count_37 rfl (lv_at hl 0 rfl) ?_
    refine hw_get (v := .ref (ad 1)) hx hb hts hiX11 hown hK hP (Nat.lt_of_lt_of_le (by decide) hN) (bX_0 _) rfl 3 (by decide) (List.mem_of_getElem? (i := 2) rfl) rfl rfl dX11_count_38 ?_
    refine hw_ki (va_runV (As := []) (rest := []) ⟨hx, hb, hml, hown, hts⟩ (kc_X0_size l D cy N hN ad hJ0 σ _  _ hw) (cwV 0 hts gX11_count_X0_size rfl rfl rfl (by decide +kernel) ⟨Nat.le_of_ble_eq_true rfl, Nat.le_of_ble_eq_true rfl⟩) (hw_preV hK hN1 hP (Nat.lt_of_lt_of_le (by decide) hN) (bX_1 _) rfl) rfl rfl hl.1 rfl (lv_room (Nat.le_of_ble_eq_true rfl)) dX11_count_41 ⟨Nat.zero_le _, Nat.zero_le _⟩) hS (fun r5 σ4 H locs hw hP hS => ?_)
    obtain ⟨hu_, hw⟩ := hw
    rw [hu_] at hP
    exact hw_iret hx hb hr hlocks (σ) ⟨rfl, hw⟩ hP hS dX11_count_44
  have hw := hw.2 c3
  by_cases c6 : x1 = (2 : Int32)
  · have hw := hw.1 c6
    refine lv_tableIn (tgt := 45) hx hb dX11_count_1 (by rw [c6]; decide) (by rw [c6]; decide) (by rw [c6]; rfl) (by decide) ?_
    refine lv_aload_n hx hb dX11_count_45 rfl (lv_at hl 0 rfl) ?_
    refine hw_get (v := .ref (ad 19)) hx hb hts hiX11 hown hK hP (Nat.lt_of_lt_of_le (by decide) hN) (bX_0 _) rfl 2 (by decide) (List.mem_of_getElem? (i := 3) rfl) rfl rfl dX11_count_46 ?_
    refine hw_ki (va_runV (As := []) (rest := []) ⟨hx, hb, hml, hown, hts⟩ (kc_X9_size l D cy N hN ad hJ0 σ _  _ hw) (cwV 0 hts gX11_count_X9_size rfl rfl rfl (by decide +kernel) ⟨Nat.le_of_ble_eq_true rfl, Nat.le_of_ble_eq_true rfl⟩) (hw_preV hK hN1 hP (Nat.lt_of_lt_of_le (by decide) hN) (bX_19 _) rfl) rfl rfl hl.1 rfl (lv_room (Nat.le_of_ble_eq_true rfl)) dX11_count_49 ⟨Nat.zero_le _, Nat.zero_le _⟩) hS (fun r8 σ7 H locs hw hP hS => ?_)
    obtain ⟨hu_, hw⟩ := hw
    rw [hu_] at hP
    exact hw_iret hx hb hr hlocks (σ) ⟨rfl, hw⟩ hP hS dX11_count_52
  have hw := hw.2 c6
  by_cases c9 : x1 = (3 : Int32)
  · have hw := hw.1 c9
    refine lv_tableIn (tgt := 53) hx hb dX11_count_1 (by rw [c9]; decide) (by rw [c9]; decide) (by rw [c9]; rfl) (by decide) ?_
    refine lv_aload_n hx hb dX11_count_53 rfl (lv_at hl 0 rfl) ?_
    refine hw_get (v := .ref (ad 35)) hx hb hts hiX11 hown hK hP (Nat.lt_of_lt_of_le (by decide) hN) (bX_0 _) rfl 8 (by decide) (List.mem_of_getElem? (i := 4) rfl) rfl rfl dX11_count_54 ?_
    refine hw_ki (va_runV (As := []) (rest := []) ⟨hx, hb, hml, hown, hts⟩ (kc_X7_looked l D cy N hN ad hJ0 σ _  _ hw) (cwV 0 hts gX11_count_X7_looked rfl rfl rfl (by decide +kernel) ⟨Nat.le_of_ble_eq_true rfl, Nat.le_of_ble_eq_true rfl⟩) (hw_preV hK hN1 hP (Nat.lt_of_lt_of_le (by decide) hN) (bX_35 _) rfl) rfl rfl hl.1 rfl (lv_room (Nat.le_of_ble_eq_true rfl)) dX11_count_57 ⟨Nat.zero_le _, Nat.zero_le _⟩) hS (fun r11 σ10 H locs hw hP hS => ?_)
    obtain ⟨hu_, hw⟩ := hw
    rw [hu_] at hP
    exact hw_iret hx hb hr hlocks (σ) ⟨rfl, hw⟩ hP hS dX11_count_60
  have hw := hw.2 c9
  refine lv_tableOut (tgt := 61) hx hb dX11_count_1 (hsw_out (by decide) (by intro z h1 h2; rcases (show z = 0 ∨ z = 1 ∨ z = 2 ∨ z = 3 by omega) with rfl | rfl | rfl | rfl <;> first | exact c2 | exact c3 | exact c6 | exact c9) ) (by decide) ?_
  refine lv_iconst (v := -1) hx hb dX11_count_61 (by decide) ?_
  exact hw_iret hx hb hr hlocks (σ) ⟨rfl, hw⟩ hP hS dX11_count_62
set_option maxHeartbeats 4000000 in
set_option maxRecDepth 100000 in
theorem kc_X12_thrown (l : Launch) (D : va_G) (cy : Nat → ClassId) (N : Nat) (hN : 22 ≤ N) (ad : Nat → Nat) (hJ0 : hJ N ad) (w : Nat → Int64) (σ : hSt) (sz : Nat)  (Q : Int32 → Prop) (hw : wp_X12_thrown  σ w Q) : Met l yX12_thrown wsX12_thrown ({ frames := 0, cells := 0, slots := 0, locals := 0 } : Room) (va_Pc [.ref (ad 0)] (hB D cy (hC N ad (bY cy ad w) σ) sz)) (va_Qi (fun (r : Int32) (u : hSt) => u = σ ∧ Q r) (hE D (fun u : hSt => hC N ad (bY cy ad w) u)) (hA N ad sz)) 0 0 (hA N ad sz) := by
  refine Met.ofW (cc := cX12_thrown) (maxL := 1) (ret := (some .int)) (by decide) rfl ?_
  intro p e s m args below meth c s₁ B hml hv
  obtain ⟨rfl, hsz, hP, hK, hN1⟩ := hv
  have hx := B.exec
  have hb := B.bytes
  have hr := B.returns
  have hts := atoms_spec (ws := wsX12_thrown) B.pre
  have hown : s.vm.findClass RX12 = some m.cls := findClass_of_methodNamed B.named
  have hlocks := B.notSynchronized
  subst hsz
  have hS : va_S (hA N ad s.heap.size) s.heap s.heap [] := va_S.rf
  have hiX12 : ∀ w ∈ wsX120, w ∈ wsX12_thrown := fun _ h => List.mem_cons_of_mem _ (List.mem_append_right _ h)
  have hl := lv_entry ([.ref (ad 0)]) (n := 1) (Nat.le_of_ble_eq_true rfl)
  rw [lg_entry_eq]
  generalize (lg_sl ([.ref (ad 0)]) ++ List.replicate (1 - (lg_sl ([.ref (ad 0)])).length) Slot.unset).toArray = ls at hl ⊢
  have hl : lv_has ls 1 [(0, .ref (ad 0))] := hl
  unfold wp_X12_thrown at hw
  refine lv_aload_n hx hb dX12_thrown_0 rfl (lv_at hl 0 rfl) ?_
  refine hw_get (v := .int (σ 0 0)) hx hb hts hiX12 hown hK hP (Nat.lt_of_lt_of_le (by decide) hN) (bY_0 _) rfl 0 (by decide) (List.mem_of_getElem? (i := 1) rfl) rfl rfl dX12_thrown_1 ?_
  exact hw_iret hx hb hr hlocks (σ) ⟨rfl, hw⟩ hP hS dX12_thrown_4
set_option maxHeartbeats 4000000 in
set_option maxRecDepth 100000 in
theorem kc_X12_throwsIf (l : Launch) (D : va_G) (cy : Nat → ClassId) (N : Nat) (hN : 22 ≤ N) (ad : Nat → Nat) (hJ0 : hJ N ad) (w : Nat → Int64) (σ : hSt) (sz : Nat) (a1 : Int32) (a2 : Int32) (Q : Int32 → hSt → Prop) (hw : wp_X12_throwsIf a1 a2 σ w Q) : Met l yX12_throwsIf wsX12_throwsIf ({ frames := 0, cells := 0, slots := 0, locals := 0 } : Room) (va_Pc [.ref (ad 0), .int a1, .int a2] (hB D cy (hC N ad (bY cy ad w) σ) sz)) (va_Qi (fun (r : Int32) (u : hSt) => Q r u) (hE D (fun u : hSt => hC N ad (bY cy ad w) u)) (hA N ad sz)) 0 0 (hA N ad sz) := by
  refine Met.ofW (cc := cX12_throwsIf) (maxL := 3) (ret := (some .boolean)) (by decide) rfl ?_
  intro p e s m args below meth c s₁ B hml hv
  obtain ⟨rfl, hsz, hP, hK, hN1⟩ := hv
  have hx := B.exec
  have hb := B.bytes
  have hr := B.returns
  have hts := atoms_spec (ws := wsX12_throwsIf) B.pre
  have hown : s.vm.findClass RX12 = some m.cls := findClass_of_methodNamed B.named
  have hlocks := B.notSynchronized
  subst hsz
  have hS : va_S (hA N ad s.heap.size) s.heap s.heap [] := va_S.rf
  have hiX12 : ∀ w ∈ wsX120, w ∈ wsX12_throwsIf := fun _ h => List.mem_cons_of_mem _ (List.mem_append_right _ h)
  have hl := lv_entry ([.ref (ad 0), .int a1, .int a2]) (n := 3) (Nat.le_of_ble_eq_true rfl)
  rw [lg_entry_eq]
  generalize (lg_sl ([.ref (ad 0), .int a1, .int a2]) ++ List.replicate (3 - (lg_sl ([.ref (ad 0), .int a1, .int a2])).length) Slot.unset).toArray = ls at hl ⊢
  have hl : lv_has ls 3 [(0, .ref (ad 0)), (1, .int a1), (2, .int a2)] := hl
  unfold wp_X12_throwsIf at hw
  refine lv_aload_n hx hb dX12_throwsIf_0 rfl (lv_at hl 0 rfl) ?_
  refine lv_iload_n hx hb dX12_throwsIf_1 rfl (lv_at hl 1 rfl) ?_
  refine lv_if_eq (tgt := 9) hx hb dX12_throwsIf_2 (by decide) (fun c1 => ?_) (fun c1 => ?_)
  · have hw := hw.1 c1
    refine lv_iconst (v := 0) hx hb dX12_throwsIf_9 (by decide) ?_
    refine hw_put (x := (0 : Int32)) (j := 0) hx hb hts hiX12 tyX12 tyX12_ok nmX12 hown hK hJ0 hP hS (Nat.lt_of_lt_of_le (by decide) hN) (bY_0 _) rfl (by decide) (List.mem_of_getElem? (i := 1) rfl) rfl rfl rfl rfl (Nat.le_of_ble_eq_true rfl) (by rw [bY_0]; rfl) dX12_throwsIf_10 (fun H locs hP hS => ?_)
    refine lv_iload_n hx hb dX12_throwsIf_13 rfl (lv_at hl 1 rfl) ?_
    obtain ⟨hb2, hw⟩ := hw
    exact hw_zret hx hb hr hlocks hb2 ((hup σ 0 0 (0 : Int32))) hw hP hS dX12_throwsIf_14
  have hw := hw.2 c1
  refine lv_iload_n hx hb dX12_throwsIf_5 rfl (lv_at hl 2 rfl) ?_
  refine lv_goto (tgt := 10) hx hb dX12_throwsIf_6 (by decide) ?_
  refine hw_put (x := a2) (j := 0) hx hb hts hiX12 tyX12 tyX12_ok nmX12 hown hK hJ0 hP hS (Nat.lt_of_lt_of_le (by decide) hN) (bY_0 _) rfl (by decide) (List.mem_of_getElem? (i := 1) rfl) rfl rfl rfl rfl (Nat.le_of_ble_eq_true rfl) (by rw [bY_0]; rfl) dX12_throwsIf_10 (fun H locs hP hS => ?_)
  refine lv_iload_n hx hb dX12_throwsIf_13 rfl (lv_at hl 1 rfl) ?_
  obtain ⟨hb3, hw⟩ := hw
  exact hw_zret hx hb hr hlocks hb3 ((hup σ 0 0 a2)) hw hP hS dX12_throwsIf_14
set_option maxHeartbeats 4000000 in
set_option maxRecDepth 100000 in
theorem kc_X12_four (l : Launch) (D : va_G) (cy : Nat → ClassId) (N : Nat) (hN : 22 ≤ N) (ad : Nat → Nat) (hJ0 : hJ N ad) (w : Nat → Int64) (σ : hSt) (sz : Nat) (a1 : Int32) (Q : hSt → Prop) (hw : wp_X12_four a1 σ w Q) : Met l yX12_four wsX12_four ({ frames := 0, cells := 0, slots := 0, locals := 0 } : Room) (va_Pc [.ref (ad 0), .int a1] (hB D cy (hC N ad (bY cy ad w) σ) sz)) (va_Qv (fun u : hSt => Q u) (hE D (fun u : hSt => hC N ad (bY cy ad w) u)) (hA N ad sz)) 0 0 (hA N ad sz) := by
  refine Met.ofW (cc := cX12_four) (maxL := 3) (ret := none) (by decide) rfl ?_
  intro p e s m args below meth c s₁ B hml hv
  obtain ⟨rfl, hsz, hP, hK, hN1⟩ := hv
  have hx := B.exec
  have hb := B.bytes
  have hr := B.returns
  have hts := atoms_spec (ws := wsX12_four) B.pre
  have hown : s.vm.findClass RX12 = some m.cls := findClass_of_methodNamed B.named
  have hlocks := B.notSynchronized
  subst hsz
  have hS : va_S (hA N ad s.heap.size) s.heap s.heap [] := va_S.rf
  have hiX12 : ∀ w ∈ wsX120, w ∈ wsX12_four := fun _ h => List.mem_cons_of_mem _ (List.mem_append_right _ h)
  have hl := lv_entry ([.ref (ad 0), .int a1]) (n := 3) (Nat.le_of_ble_eq_true rfl)
  rw [lg_entry_eq]
  generalize (lg_sl ([.ref (ad 0), .int a1]) ++ List.replicate (3 - (lg_sl ([.ref (ad 0), .int a1])).length) Slot.unset).toArray = ls at hl ⊢
  have hl : lv_has ls 3 [(0, .ref (ad 0)), (1, .int a1)] := hl
  unfold wp_X12_four at hw
  refine lv_bipush (v := 24) hx hb dX12_four_0 (by decide) ?_
  refine lv_istore_n (lv' := [(2, .int (24 : Int32)), (0, .ref (ad 0)), (1, .int a1)]) hx hb dX12_four_2 rfl hl (by decide) rfl (fun ls hl => ?_)
  refine hw (fun (v2_1 : Int32) (σ2 : hSt) => ∀ (H : Heap) (locs : List Loc) (ls : Array Slot), va_P D vwCl (hC N ad (bY cy ad w) σ2) H → va_S (hA N ad s.heap.size) s.heap H locs → lv_has ls 3 [(0, .ref (ad 0)), (1, .int a1), (2, .int v2_1)] → W p l e (headSpec wsX12_four ({ frames := 0, cells := 0, slots := 0, locals := 0 } : Room)).room s m ([Value.ref (ad 0), Value.int a1] : List Value).toArray below meth c H locs 0 0 (MQ below (va_Qv (fun u : hSt => Q u) (hE D (fun u : hSt => hC N ad (bY cy ad w) u)) (hA N ad s.heap.size)) ([Value.ref (ad 0), Value.int a1] : List Value).toArray s 0 0 (hA N ad s.heap.size)) (F0 m 3 ls [])) (fun v2_1 σ2 hw H locs ls hP hS hl => ?_) _ _ _ hP hS (lv_sub hl [1, 2, 0] rfl)
  refine lv_iload_n hx hb dX12_four_3 rfl (lv_at hl 2 rfl) ?_
  refine lv_if_lt (tgt := 36) hx hb dX12_four_4 (by decide) (fun c3 => ?_) (fun c3 => ?_)
  · have hw := hw.1 c3
    exact hw_vret hx hb hr hlocks (σ2) hw hP hS dX12_four_36
  have hw := hw.2 c3
  refine lv_aload_n hx hb dX12_four_7 rfl (lv_at hl 0 rfl) ?_
  refine hw_get (v := .ref (ad 5)) hx hb hts hiX12 hown hK hP (Nat.lt_of_lt_of_le (by decide) hN) (bY_0 _) rfl 7 (by decide) (List.mem_of_getElem? (i := 1) rfl) rfl rfl dX12_four_8 ?_
  refine lv_aload_n hx hb dX12_four_11 rfl (lv_at hl 0 rfl) ?_
  refine hw_get (v := .int (σ2 0 8)) hx hb hts hiX12 hown hK hP (Nat.lt_of_lt_of_le (by decide) hN) (bY_0 _) rfl 8 (by decide) (List.mem_of_getElem? (i := 2) rfl) rfl rfl dX12_four_12 ?_
  refine lv_iload_n hx hb dX12_four_15 rfl (lv_at hl 1 rfl) ?_
  refine lv_iload_n hx hb dX12_four_16 rfl (lv_at hl 2 rfl) ?_
  refine lv_ishr hx hb dX12_four_17 ?_
  refine lv_i2b hx hb dX12_four_18 rfl ?_
  obtain ⟨hi4, hw⟩ := hw
  refine hw_bast hx hb hK hJ0 hP hS (Nat.lt_of_lt_of_le (by decide) hN) (fun ρ => bY_5 ρ) hi4 dX12_four_19 (fun H locs hP hS => ?_)
  refine lv_aload_n hx hb dX12_four_20 rfl (lv_at hl 0 rfl) ?_
  refine lv_dup hx hb dX12_four_21 rfl ?_
  refine hw_get (v := .int ((hup σ2 5 ((σ2 0 8)).toNatClampNeg (vp_nar .byte (((a1 >>> (v2_1 &&& 31))).toInt8.toInt32))) 0 8)) hx hb hts hiX12 hown hK hP (Nat.lt_of_lt_of_le (by decide) hN) (bY_0 _) rfl 8 (by decide) (List.mem_of_getElem? (i := 2) rfl) rfl rfl dX12_four_22 ?_
  refine lv_iconst (v := 1) hx hb dX12_four_25 (by decide) ?_
  refine lv_iadd hx hb dX12_four_26 ?_
  refine hw_put (x := (((hup σ2 5 ((σ2 0 8)).toNatClampNeg (vp_nar .byte (((a1 >>> (v2_1 &&& 31))).toInt8.toInt32))) 0 8) + (1 : Int32))) (j := 8) hx hb hts hiX12 tyX12 tyX12_ok nmX12 hown hK hJ0 hP hS (Nat.lt_of_lt_of_le (by decide) hN) (bY_0 _) rfl (by decide) (List.mem_of_getElem? (i := 2) rfl) rfl rfl rfl rfl (Nat.le_of_ble_eq_true rfl) (by rw [bY_0]; rfl) dX12_four_27 (fun H locs hP hS => ?_)
  obtain ⟨x2_5, ex2_5⟩ : ∃ z : Int32, z = v2_1 + (-8 : Int32) := ⟨_, rfl⟩
  have hw := hw x2_5 ex2_5
  refine lv_iinc (v := x2_5) (lv' := [(2, .int x2_5), (0, .ref (ad 0)), (1, .int a1)]) hx hb dX12_four_30 hl (k := 2) rfl (by rw [ex2_5]; rfl) (by decide) rfl (fun ls hl => ?_)
  refine lv_goto (tgt := 3) hx hb dX12_four_33 (by decide) ?_
  exact hw _ _ _ hP hS (lv_sub hl [1, 2, 0] rfl)
set_option maxHeartbeats 4000000 in
set_option maxRecDepth 100000 in
theorem kc_X12_feed (l : Launch) (D : va_G) (cy : Nat → ClassId) (N : Nat) (hN : 22 ≤ N) (ad : Nat → Nat) (hJ0 : hJ N ad) (w : Nat → Int64) (σ : hSt) (sz : Nat) (a1 : Int32) (a2 : Int32) (a3 : Int32) (a4 : Int32) (a5 : Int32) (Q : Int32 → hSt → Prop) (hw : wp_X12_feed a1 a2 a3 a4 a5 σ w Q) : Met l yX12_feed wsX12_feed ({ frames := 1, cells := 0, slots := 0, locals := 22 } : Room) (va_Pc [.ref (ad 0), .int a1, .int a2, .int a3, .int a4, .int a5] (hB D cy (hC N ad (bY cy ad w) σ) sz)) (va_Qi (fun (r : Int32) (u : hSt) => Q r u) (hE D (fun u : hSt => hC N ad (bY cy ad w) u)) (hA N ad sz)) 0 0 (hA N ad sz) := by
  refine Met.ofW (cc := cX12_feed) (maxL := 6) (ret := (some .int)) (by decide) rfl ?_
  intro p e s m args below meth c s₁ B hml hv
  obtain ⟨rfl, hsz, hP, hK, hN1⟩ := hv
  have hx := B.exec
  have hb := B.bytes
  have hr := B.returns
  have hts := atoms_spec (ws := wsX12_feed) B.pre
  have hown : s.vm.findClass RX12 = some m.cls := findClass_of_methodNamed B.named
  have hlocks := B.notSynchronized
  subst hsz
  have hS : va_S (hA N ad s.heap.size) s.heap s.heap [] := va_S.rf
  have hiX12 : ∀ w ∈ wsX120, w ∈ wsX12_feed := fun _ h => List.mem_cons_of_mem _ (List.mem_append_right _ h)
  have hl := lv_entry ([.ref (ad 0), .int a1, .int a2, .int a3, .int a4, .int a5]) (n := 6) (Nat.le_of_ble_eq_true rfl)
  rw [lg_entry_eq]
  generalize (lg_sl ([.ref (ad 0), .int a1, .int a2, .int a3, .int a4, .int a5]) ++ List.replicate (6 - (lg_sl ([.ref (ad 0), .int a1, .int a2, .int a3, .int a4, .int a5])).length) Slot.unset).toArray = ls at hl ⊢
  have hl : lv_has ls 6 [(0, .ref (ad 0)), (1, .int a1), (2, .int a2), (3, .int a3), (4, .int a4), (5, .int a5)] := hl
  unfold wp_X12_feed at hw
  refine lv_aload_n hx hb dX12_feed_0 rfl (lv_at hl 0 rfl) ?_
  refine lv_iconst (v := 0) hx hb dX12_feed_1 (by decide) ?_
  refine hw_put (x := (0 : Int32)) (j := 0) hx hb hts hiX12 tyX12 tyX12_ok nmX12 hown hK hJ0 hP hS (Nat.lt_of_lt_of_le (by decide) hN) (bY_0 _) rfl (by decide) (List.mem_of_getElem? (i := 1) rfl) rfl rfl rfl rfl (Nat.le_of_ble_eq_true rfl) (by rw [bY_0]; rfl) dX12_feed_2 (fun H locs hP hS => ?_)
  refine lv_aload_n hx hb dX12_feed_5 rfl (lv_at hl 0 rfl) ?_
  refine hw_get (v := .int ((hup σ 0 0 (0 : Int32)) 0 8)) hx hb hts hiX12 hown hK hP (Nat.lt_of_lt_of_le (by decide) hN) (bY_0 _) rfl 8 (by decide) (List.mem_of_getElem? (i := 2) rfl) rfl rfl dX12_feed_6 ?_
  refine lv_bipush (v := 20) hx hb dX12_feed_9 (by decide) ?_
  refine lv_iadd hx hb dX12_feed_11 ?_
  refine lv_sipush (v := 500) hx hb dX12_feed_12 (by decide) ?_
  refine lv_icmp_le (tgt := 20) hx hb dX12_feed_15 (by decide) (fun c1 => ?_) (fun c1 => ?_)
  · have hw := hw.1 c1
    refine lv_aload_n hx hb dX12_feed_20 rfl (lv_at hl 0 rfl) ?_
    refine lv_iload_n hx hb dX12_feed_21 rfl (lv_at hl 1 rfl) ?_
    refine hw_kv (va_runV (As := [.int a1]) (rest := []) ⟨hx, hb, hml, hown, hts⟩ (kc_X12_four l D cy N hN ad hJ0 w (hup σ 0 0 (0 : Int32)) _ a1 _ hw) (cwV 1 hts gX12_feed_X12_four rfl rfl rfl (by decide +kernel) ⟨Nat.le_of_ble_eq_true rfl, Nat.le_of_ble_eq_true rfl⟩) (hw_preV hK hN1 hP (Nat.lt_of_lt_of_le (by decide) hN) (bY_0 _) rfl) rfl rfl hl.1 rfl (lv_room (Nat.le_of_ble_eq_true rfl)) dX12_feed_22 ⟨Nat.zero_le _, Nat.zero_le _⟩) hS (fun σ2 H locs hw hP hS => ?_)
    refine lv_aload_n hx hb dX12_feed_25 rfl (lv_at hl 0 rfl) ?_
    refine lv_iload_n hx hb dX12_feed_26 rfl (lv_at hl 2 rfl) ?_
    refine hw_kv (va_runV (As := [.int a2]) (rest := []) ⟨hx, hb, hml, hown, hts⟩ (kc_X12_four l D cy N hN ad hJ0 w σ2 _ a2 _ hw) (cwV 1 hts gX12_feed_X12_four rfl rfl rfl (by decide +kernel) ⟨Nat.le_of_ble_eq_true rfl, Nat.le_of_ble_eq_true rfl⟩) (hw_preV hK hN1 hP (Nat.lt_of_lt_of_le (by decide) hN) (bY_0 _) rfl) rfl rfl hl.1 rfl (lv_room (Nat.le_of_ble_eq_true rfl)) dX12_feed_27 ⟨Nat.zero_le _, Nat.zero_le _⟩) hS (fun σ3 H locs hw hP hS => ?_)
    refine lv_aload_n hx hb dX12_feed_30 rfl (lv_at hl 0 rfl) ?_
    refine lv_iload_n hx hb dX12_feed_31 rfl (lv_at hl 3 rfl) ?_
    refine hw_kv (va_runV (As := [.int a3]) (rest := []) ⟨hx, hb, hml, hown, hts⟩ (kc_X12_four l D cy N hN ad hJ0 w σ3 _ a3 _ hw) (cwV 1 hts gX12_feed_X12_four rfl rfl rfl (by decide +kernel) ⟨Nat.le_of_ble_eq_true rfl, Nat.le_of_ble_eq_true rfl⟩) (hw_preV hK hN1 hP (Nat.lt_of_lt_of_le (by decide) hN) (bY_0 _) rfl) rfl rfl hl.1 rfl (lv_room (Nat.le_of_ble_eq_true rfl)) dX12_feed_32 ⟨Nat.zero_le _, Nat.zero_le _⟩) hS (fun σ4 H locs hw hP hS => ?_)
    refine lv_aload_n hx hb dX12_feed_35 rfl (lv_at hl 0 rfl) ?_
    refine lv_iload hx hb dX12_feed_36 (lv_at hl 4 rfl) ?_
    refine hw_kv (va_runV (As := [.int a4]) (rest := []) ⟨hx, hb, hml, hown, hts⟩ (kc_X12_four l D cy N hN ad hJ0 w σ4 _ a4 _ hw) (cwV 1 hts gX12_feed_X12_four rfl rfl rfl (by decide +kernel) ⟨Nat.le_of_ble_eq_true rfl, Nat.le_of_ble_eq_true rfl⟩) (hw_preV hK hN1 hP (Nat.lt_of_lt_of_le (by decide) hN) (bY_0 _) rfl) rfl rfl hl.1 rfl (lv_room (Nat.le_of_ble_eq_true rfl)) dX12_feed_38 ⟨Nat.zero_le _, Nat.zero_le _⟩) hS (fun σ5 H locs hw hP hS => ?_)
    refine lv_aload_n hx hb dX12_feed_41 rfl (lv_at hl 0 rfl) ?_
    refine lv_iload hx hb dX12_feed_42 (lv_at hl 5 rfl) ?_
    refine hw_kv (va_runV (As := [.int a5]) (rest := []) ⟨hx, hb, hml, hown, hts⟩ (kc_X12_four l D cy N hN ad hJ0 w σ5 _ a5 _ hw) (cwV 1 hts gX12_feed_X12_four rfl rfl rfl (by decide +kernel) ⟨Nat.le_of_ble_eq_true rfl, Nat.le_of_ble_eq_true rfl⟩) (hw_preV hK hN1 hP (Nat.lt_of_lt_of_le (by decide) hN) (bY_0 _) rfl) rfl rfl hl.1 rfl (lv_room (Nat.le_of_ble_eq_true rfl)) dX12_feed_44 ⟨Nat.zero_le _, Nat.zero_le _⟩) hS (fun σ6 H locs hw hP hS => ?_)
    refine lv_aload_n hx hb dX12_feed_47 rfl (lv_at hl 0 rfl) ?_
    refine hw_get (v := .int (σ6 0 8)) hx hb hts hiX12 hown hK hP (Nat.lt_of_lt_of_le (by decide) hN) (bY_0 _) rfl 8 (by decide) (List.mem_of_getElem? (i := 2) rfl) rfl rfl dX12_feed_48 ?_
    exact hw_iret hx hb hr hlocks (σ6) hw hP hS dX12_feed_51
  have hw := hw.2 c1
  refine lv_iconst (v := -1) hx hb dX12_feed_18 (by decide) ?_
  exact hw_iret hx hb hr hlocks ((hup σ 0 0 (0 : Int32))) hw hP hS dX12_feed_19
set_option maxHeartbeats 4000000 in
set_option maxRecDepth 100000 in
theorem kc_X12_end (l : Launch) (D : va_G) (cy : Nat → ClassId) (N : Nat) (hN : 22 ≤ N) (ad : Nat → Nat) (hJ0 : hJ N ad) (w : Nat → Int64) (σ : hSt) (sz : Nat) (a1 : Int32) (Q : Int32 → hSt → Prop) (hw : wp_X12_end a1 σ w Q) : Met l yX12_end wsX12_end ({ frames := 0, cells := 0, slots := 0, locals := 0 } : Room) (va_Pc [.ref (ad 0), .int a1] (hB D cy (hC N ad (bY cy ad w) σ) sz)) (va_Qi (fun (r : Int32) (u : hSt) => Q r u) (hE D (fun u : hSt => hC N ad (bY cy ad w) u)) (hA N ad sz)) 0 0 (hA N ad sz) := by
  refine Met.ofW (cc := cX12_end) (maxL := 2) (ret := (some .boolean)) (by decide) rfl ?_
  intro p e s m args below meth c s₁ B hml hv
  obtain ⟨rfl, hsz, hP, hK, hN1⟩ := hv
  have hx := B.exec
  have hb := B.bytes
  have hr := B.returns
  have hts := atoms_spec (ws := wsX12_end) B.pre
  have hown : s.vm.findClass RX12 = some m.cls := findClass_of_methodNamed B.named
  have hlocks := B.notSynchronized
  subst hsz
  have hS : va_S (hA N ad s.heap.size) s.heap s.heap [] := va_S.rf
  have hiX12 : ∀ w ∈ wsX120, w ∈ wsX12_end := fun _ h => List.mem_cons_of_mem _ (List.mem_append_right _ h)
  have hl := lv_entry ([.ref (ad 0), .int a1]) (n := 2) (Nat.le_of_ble_eq_true rfl)
  rw [lg_entry_eq]
  generalize (lg_sl ([.ref (ad 0), .int a1]) ++ List.replicate (2 - (lg_sl ([.ref (ad 0), .int a1])).length) Slot.unset).toArray = ls at hl ⊢
  have hl : lv_has ls 2 [(0, .ref (ad 0)), (1, .int a1)] := hl
  unfold wp_X12_end at hw
  refine lv_aload_n hx hb dX12_end_0 rfl (lv_at hl 0 rfl) ?_
  refine lv_iconst (v := 0) hx hb dX12_end_1 (by decide) ?_
  refine hw_put (x := (0 : Int32)) (j := 0) hx hb hts hiX12 tyX12 tyX12_ok nmX12 hown hK hJ0 hP hS (Nat.lt_of_lt_of_le (by decide) hN) (bY_0 _) rfl (by decide) (List.mem_of_getElem? (i := 1) rfl) rfl rfl rfl rfl (Nat.le_of_ble_eq_true rfl) (by rw [bY_0]; rfl) dX12_end_2 (fun H locs hP hS => ?_)
  refine lv_iload_n hx hb dX12_end_5 rfl (lv_at hl 1 rfl) ?_
  refine lv_if_lt (tgt := 17) hx hb dX12_end_6 (by decide) (fun c1 => ?_) (fun c1 => ?_)
  · have hw := hw.1 c1
    refine lv_iconst (v := 0) hx hb dX12_end_17 (by decide) ?_
    exact hw_zret hx hb hr hlocks hbo_0 ((hup σ 0 0 (0 : Int32))) hw hP hS dX12_end_18
  have hw := hw.2 c1
  refine lv_iload_n hx hb dX12_end_9 rfl (lv_at hl 1 rfl) ?_
  refine lv_aload_n hx hb dX12_end_10 rfl (lv_at hl 0 rfl) ?_
  refine hw_get (v := .int ((hup σ 0 0 (0 : Int32)) 0 8)) hx hb hts hiX12 hown hK hP (Nat.lt_of_lt_of_le (by decide) hN) (bY_0 _) rfl 8 (by decide) (List.mem_of_getElem? (i := 2) rfl) rfl rfl dX12_end_11 ?_
  refine lv_icmp_le (tgt := 19) hx hb dX12_end_14 (by decide) (fun c2 => ?_) (fun c2 => ?_)
  · have hw := hw.1 c2
    refine lv_aload_n hx hb dX12_end_19 rfl (lv_at hl 0 rfl) ?_
    refine lv_iload_n hx hb dX12_end_20 rfl (lv_at hl 1 rfl) ?_
    refine hw_put (x := a1) (j := 8) hx hb hts hiX12 tyX12 tyX12_ok nmX12 hown hK hJ0 hP hS (Nat.lt_of_lt_of_le (by decide) hN) (bY_0 _) rfl (by decide) (List.mem_of_getElem? (i := 2) rfl) rfl rfl rfl rfl (Nat.le_of_ble_eq_true rfl) (by rw [bY_0]; rfl) dX12_end_21 (fun H locs hP hS => ?_)
    refine lv_iconst (v := 1) hx hb dX12_end_24 (by decide) ?_
    exact hw_zret hx hb hr hlocks hbo_1 ((hup (hup σ 0 0 (0 : Int32)) 0 8 a1)) hw hP hS dX12_end_25
  have hw := hw.2 c2
  refine lv_iconst (v := 0) hx hb dX12_end_17 (by decide) ?_
  exact hw_zret hx hb hr hlocks hbo_0 ((hup σ 0 0 (0 : Int32))) hw hP hS dX12_end_18
set_option maxHeartbeats 4000000 in
set_option maxRecDepth 100000 in
theorem kc_X12_open (l : Launch) (D : va_G) (cy : Nat → ClassId) (N : Nat) (hN : 22 ≤ N) (ad : Nat → Nat) (hJ0 : hJ N ad) (w : Nat → Int64) (σ : hSt) (sz : Nat)  (Q : hSt → Prop) (hw : wp_X12_open  σ w Q) : Met l yX12_open wsX12_open ({ frames := 0, cells := 0, slots := 0, locals := 0 } : Room) (va_Pc [.ref (ad 0)] (hB D cy (hC N ad (bY cy ad w) σ) sz)) (va_Qv (fun u : hSt => Q u) (hE D (fun u : hSt => hC N ad (bY cy ad w) u)) (hA N ad sz)) 0 0 (hA N ad sz) := by
  refine Met.ofW (cc := cX12_open) (maxL := 1) (ret := none) (by decide) rfl ?_
  intro p e s m args below meth c s₁ B hml hv
  obtain ⟨rfl, hsz, hP, hK, hN1⟩ := hv
  have hx := B.exec
  have hb := B.bytes
  have hr := B.returns
  have hts := atoms_spec (ws := wsX12_open) B.pre
  have hown : s.vm.findClass RX12 = some m.cls := findClass_of_methodNamed B.named
  have hlocks := B.notSynchronized
  subst hsz
  have hS : va_S (hA N ad s.heap.size) s.heap s.heap [] := va_S.rf
  have hiX12 : ∀ w ∈ wsX120, w ∈ wsX12_open := fun _ h => List.mem_cons_of_mem _ (List.mem_append_right _ h)
  have hl := lv_entry ([.ref (ad 0)]) (n := 1) (Nat.le_of_ble_eq_true rfl)
  rw [lg_entry_eq]
  generalize (lg_sl ([.ref (ad 0)]) ++ List.replicate (1 - (lg_sl ([.ref (ad 0)])).length) Slot.unset).toArray = ls at hl ⊢
  have hl : lv_has ls 1 [(0, .ref (ad 0))] := hl
  unfold wp_X12_open at hw
  refine lv_aload_n hx hb dX12_open_0 rfl (lv_at hl 0 rfl) ?_
  refine lv_aload_n hx hb dX12_open_1 rfl (lv_at hl 0 rfl) ?_
  refine hw_get (v := .int (σ 0 8)) hx hb hts hiX12 hown hK hP (Nat.lt_of_lt_of_le (by decide) hN) (bY_0 _) rfl 8 (by decide) (List.mem_of_getElem? (i := 1) rfl) rfl rfl dX12_open_2 ?_
  refine hw_put (x := (σ 0 8)) (j := 9) hx hb hts hiX12 tyX12 tyX12_ok nmX12 hown hK hJ0 hP hS (Nat.lt_of_lt_of_le (by decide) hN) (bY_0 _) rfl (by decide) (List.mem_of_getElem? (i := 2) rfl) rfl rfl rfl rfl (Nat.le_of_ble_eq_true rfl) (by rw [bY_0]; rfl) dX12_open_5 (fun H locs hP hS => ?_)
  refine lv_aload_n hx hb dX12_open_8 rfl (lv_at hl 0 rfl) ?_
  refine lv_iconst (v := 0) hx hb dX12_open_9 (by decide) ?_
  refine hw_put (x := (0 : Int32)) (j := 8) hx hb hts hiX12 tyX12 tyX12_ok nmX12 hown hK hJ0 hP hS (Nat.lt_of_lt_of_le (by decide) hN) (bY_0 _) rfl (by decide) (List.mem_of_getElem? (i := 1) rfl) rfl rfl rfl rfl (Nat.le_of_ble_eq_true rfl) (by rw [bY_0]; rfl) dX12_open_10 (fun H locs hP hS => ?_)
  refine lv_aload_n hx hb dX12_open_13 rfl (lv_at hl 0 rfl) ?_
  refine lv_iconst (v := 0) hx hb dX12_open_14 (by decide) ?_
  refine hw_put (x := (0 : Int32)) (j := 10) hx hb hts hiX12 tyX12 tyX12_ok nmX12 hown hK hJ0 hP hS (Nat.lt_of_lt_of_le (by decide) hN) (bY_0 _) rfl (by decide) (List.mem_of_getElem? (i := 3) rfl) rfl rfl rfl rfl (Nat.le_of_ble_eq_true rfl) (by rw [bY_0]; rfl) dX12_open_15 (fun H locs hP hS => ?_)
  refine lv_aload_n hx hb dX12_open_18 rfl (lv_at hl 0 rfl) ?_
  refine lv_iconst (v := 0) hx hb dX12_open_19 (by decide) ?_
  refine hw_put (x := (0 : Int32)) (j := 11) hx hb hts hiX12 tyX12 tyX12_ok nmX12 hown hK hJ0 hP hS (Nat.lt_of_lt_of_le (by decide) hN) (bY_0 _) rfl (by decide) (List.mem_of_getElem? (i := 4) rfl) rfl rfl rfl rfl (Nat.le_of_ble_eq_true rfl) (by rw [bY_0]; rfl) dX12_open_20 (fun H locs hP hS => ?_)
  exact hw_vret hx hb hr hlocks ((hup (hup (hup (hup σ 0 9 (σ 0 8)) 0 8 (0 : Int32)) 0 10 (0 : Int32)) 0 11 (0 : Int32))) hw hP hS dX12_open_23
set_option maxHeartbeats 4000000 in
set_option maxRecDepth 100000 in
theorem kc_X12_peek (l : Launch) (D : va_G) (cy : Nat → ClassId) (N : Nat) (hN : 22 ≤ N) (ad : Nat → Nat) (hJ0 : hJ N ad) (w : Nat → Int64) (σ : hSt) (sz : Nat)  (Q : Int32 → Prop) (hw : wp_X12_peek  σ w Q) : Met l yX12_peek wsX12_peek ({ frames := 0, cells := 0, slots := 0, locals := 0 } : Room) (va_Pc [.ref (ad 0)] (hB D cy (hC N ad (bY cy ad w) σ) sz)) (va_Qi (fun (r : Int32) (u : hSt) => u = σ ∧ Q r) (hE D (fun u : hSt => hC N ad (bY cy ad w) u)) (hA N ad sz)) 0 0 (hA N ad sz) := by
  refine Met.ofW (cc := cX12_peek) (maxL := 1) (ret := (some .int)) (by decide) rfl ?_
  intro p e s m args below meth c s₁ B hml hv
  obtain ⟨rfl, hsz, hP, hK, hN1⟩ := hv
  have hx := B.exec
  have hb := B.bytes
  have hr := B.returns
  have hts := atoms_spec (ws := wsX12_peek) B.pre
  have hown : s.vm.findClass RX12 = some m.cls := findClass_of_methodNamed B.named
  have hlocks := B.notSynchronized
  subst hsz
  have hS : va_S (hA N ad s.heap.size) s.heap s.heap [] := va_S.rf
  have hiX12 : ∀ w ∈ wsX120, w ∈ wsX12_peek := fun _ h => List.mem_cons_of_mem _ (List.mem_append_right _ h)
  have hl := lv_entry ([.ref (ad 0)]) (n := 1) (Nat.le_of_ble_eq_true rfl)
  rw [lg_entry_eq]
  generalize (lg_sl ([.ref (ad 0)]) ++ List.replicate (1 - (lg_sl ([.ref (ad 0)])).length) Slot.unset).toArray = ls at hl ⊢
  have hl : lv_has ls 1 [(0, .ref (ad 0))] := hl
  unfold wp_X12_peek at hw
  refine lv_aload_n hx hb dX12_peek_0 rfl (lv_at hl 0 rfl) ?_
  refine hw_get (v := .int (σ 0 10)) hx hb hts hiX12 hown hK hP (Nat.lt_of_lt_of_le (by decide) hN) (bY_0 _) rfl 10 (by decide) (List.mem_of_getElem? (i := 1) rfl) rfl rfl dX12_peek_1 ?_
  refine lv_aload_n hx hb dX12_peek_4 rfl (lv_at hl 0 rfl) ?_
  refine hw_get (v := .int (σ 0 9)) hx hb hts hiX12 hown hK hP (Nat.lt_of_lt_of_le (by decide) hN) (bY_0 _) rfl 9 (by decide) (List.mem_of_getElem? (i := 2) rfl) rfl rfl dX12_peek_5 ?_
  refine lv_icmp_ge (tgt := 27) hx hb dX12_peek_8 (by decide) (fun c1 => ?_) (fun c1 => ?_)
  · have hw := hw.1 c1
    refine lv_iconst (v := -1) hx hb dX12_peek_27 (by decide) ?_
    exact hw_iret hx hb hr hlocks (σ) ⟨rfl, hw⟩ hP hS dX12_peek_28
  have hw := hw.2 c1
  refine lv_aload_n hx hb dX12_peek_11 rfl (lv_at hl 0 rfl) ?_
  refine hw_get (v := .ref (ad 5)) hx hb hts hiX12 hown hK hP (Nat.lt_of_lt_of_le (by decide) hN) (bY_0 _) rfl 7 (by decide) (List.mem_of_getElem? (i := 3) rfl) rfl rfl dX12_peek_12 ?_
  refine lv_aload_n hx hb dX12_peek_15 rfl (lv_at hl 0 rfl) ?_
  refine hw_get (v := .int (σ 0 10)) hx hb hts hiX12 hown hK hP (Nat.lt_of_lt_of_le (by decide) hN) (bY_0 _) rfl 10 (by decide) (List.mem_of_getElem? (i := 1) rfl) rfl rfl dX12_peek_16 ?_
  obtain ⟨hi2, hw⟩ := hw
  refine hw_bald hx hb hK hP (Nat.lt_of_lt_of_le (by decide) hN) (bY_5 _) hi2 dX12_peek_19 ?_
  refine lv_sipush (v := 255) hx hb dX12_peek_20 (by decide) ?_
  refine lv_iand hx hb dX12_peek_23 ?_
  refine lv_goto (tgt := 28) hx hb dX12_peek_24 (by decide) ?_
  exact hw_iret hx hb hr hlocks (σ) ⟨rfl, hw⟩ hP hS dX12_peek_28

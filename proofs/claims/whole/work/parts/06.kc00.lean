set_option maxHeartbeats 4000000 in
set_option maxRecDepth 100000 in
theorem kc_X9_size (l : Launch) (D : va_G) (cy : Nat → ClassId) (N : Nat) (hN : 38 ≤ N) (ad : Nat → Nat) (hJ0 : hJ N ad) (σ : hSt) (sz : Nat)  (Q : Int32 → Prop) (hw : wp_X9_size  σ Q) : Met l yX9_size wsX9_size ({ frames := 0, cells := 0, slots := 0, locals := 0 } : Room) (va_Pc [.ref (ad 19)] (hB D cy (hC N ad (bX cy ad) σ) sz)) (va_Qi (fun (r : Int32) (u : hSt) => u = σ ∧ Q r) (hE D (fun u : hSt => hC N ad (bX cy ad) u)) (hA N ad sz)) 0 0 (hA N ad sz) := by
  refine Met.ofW (cc := cX9_size) (maxL := 1) (ret := (some .int)) (by decide) rfl ?_
  intro p e s m args below meth c s₁ B hml hv
  obtain ⟨rfl, hsz, hP, hK, hN1⟩ := hv
  have hx := B.exec
  have hb := B.bytes
  have hr := B.returns
  have hts := atoms_spec (ws := wsX9_size) B.pre
  have hown : s.vm.findClass RX9 = some m.cls := findClass_of_methodNamed B.named
  have hlocks := B.notSynchronized
  subst hsz
  have hS : va_S (hA N ad s.heap.size) s.heap s.heap [] := va_S.rf
  have hiX9 : ∀ w ∈ wsX90, w ∈ wsX9_size := fun _ h => List.mem_cons_of_mem _ (List.mem_append_right _ h)
  have hl := lv_entry ([.ref (ad 19)]) (n := 1) (Nat.le_of_ble_eq_true rfl)
  rw [lg_entry_eq]
  generalize (lg_sl ([.ref (ad 19)]) ++ List.replicate (1 - (lg_sl ([.ref (ad 19)])).length) Slot.unset).toArray = ls at hl ⊢
  have hl : lv_has ls 1 [(0, .ref (ad 19))] := hl
  unfold wp_X9_size at hw
  refine lv_aload_n hx hb dX9_size_0 rfl (lv_at hl 0 rfl) ?_
  refine hw_get (v := .int (σ 19 1)) hx hb hts hiX9 hown hK hP (Nat.lt_of_lt_of_le (by decide) hN) (bX_19 _) rfl 1 (by decide) (List.mem_of_getElem? (i := 1) rfl) rfl rfl dX9_size_1 ?_
  exact hw_iret hx hb hr hlocks (σ) ⟨rfl, hw⟩ hP hS dX9_size_4
set_option maxHeartbeats 4000000 in
set_option maxRecDepth 100000 in
theorem kc_X9_addNumber (l : Launch) (D : va_G) (cy : Nat → ClassId) (N : Nat) (hN : 38 ≤ N) (ad : Nat → Nat) (hJ0 : hJ N ad) (σ : hSt) (sz : Nat) (a1 : Int32) (Q : hSt → Prop) (hw : wp_X9_addNumber a1 σ Q) : Met l yX9_addNumber wsX9_addNumber ({ frames := 0, cells := 0, slots := 0, locals := 0 } : Room) (va_Pc [.ref (ad 19), .int a1] (hB D cy (hC N ad (bX cy ad) σ) sz)) (va_Qv (fun u : hSt => Q u) (hE D (fun u : hSt => hC N ad (bX cy ad) u)) (hA N ad sz)) 0 0 (hA N ad sz) := by
  refine Met.ofW (cc := cX9_addNumber) (maxL := 3) (ret := none) (by decide) rfl ?_
  intro p e s m args below meth c s₁ B hml hv
  obtain ⟨rfl, hsz, hP, hK, hN1⟩ := hv
  have hx := B.exec
  have hb := B.bytes
  have hr := B.returns
  have hts := atoms_spec (ws := wsX9_addNumber) B.pre
  have hown : s.vm.findClass RX9 = some m.cls := findClass_of_methodNamed B.named
  have hlocks := B.notSynchronized
  subst hsz
  have hS : va_S (hA N ad s.heap.size) s.heap s.heap [] := va_S.rf
  have hiX9 : ∀ w ∈ wsX90, w ∈ wsX9_addNumber := fun _ h => List.mem_cons_of_mem _ (List.mem_append_right _ h)
  have hl := lv_entry ([.ref (ad 19), .int a1]) (n := 3) (Nat.le_of_ble_eq_true rfl)
  rw [lg_entry_eq]
  generalize (lg_sl ([.ref (ad 19), .int a1]) ++ List.replicate (3 - (lg_sl ([.ref (ad 19), .int a1])).length) Slot.unset).toArray = ls at hl ⊢
  have hl : lv_has ls 3 [(0, .ref (ad 19)), (1, .int a1)] := hl
  unfold wp_X9_addNumber at hw
  refine lv_bipush (v := 24) hx hb dX9_addNumber_0 (by decide) ?_
  refine lv_istore_n (lv' := [(2, .int (24 : Int32)), (0, .ref (ad 19)), (1, .int a1)]) hx hb dX9_addNumber_2 rfl hl (by decide) rfl (fun ls hl => ?_)
  refine hw (fun (v2_1 : Int32) (σ2 : hSt) => ∀ (H : Heap) (locs : List Loc) (ls : Array Slot), va_P D vwCl (hC N ad (bX cy ad) σ2) H → va_S (hA N ad s.heap.size) s.heap H locs → lv_has ls 3 [(0, .ref (ad 19)), (1, .int a1), (2, .int v2_1)] → W p l e (headSpec wsX9_addNumber ({ frames := 0, cells := 0, slots := 0, locals := 0 } : Room)).room s m ([Value.ref (ad 19), Value.int a1] : List Value).toArray below meth c H locs 0 0 (MQ below (va_Qv (fun u : hSt => Q u) (hE D (fun u : hSt => hC N ad (bX cy ad) u)) (hA N ad s.heap.size)) ([Value.ref (ad 19), Value.int a1] : List Value).toArray s 0 0 (hA N ad s.heap.size)) (F0 m 3 ls [])) (fun v2_1 σ2 hw H locs ls hP hS hl => ?_) _ _ _ hP hS (lv_sub hl [1, 2, 0] rfl)
  refine lv_iload_n hx hb dX9_addNumber_3 rfl (lv_at hl 2 rfl) ?_
  refine lv_if_lt (tgt := 55) hx hb dX9_addNumber_4 (by decide) (fun c3 => ?_) (fun c3 => ?_)
  · have hw := hw.1 c3
    exact hw_vret hx hb hr hlocks (σ2) hw hP hS dX9_addNumber_55
  have hw := hw.2 c3
  refine lv_aload_n hx hb dX9_addNumber_7 rfl (lv_at hl 0 rfl) ?_
  refine hw_get (v := .int (σ2 19 1)) hx hb hts hiX9 hown hK hP (Nat.lt_of_lt_of_le (by decide) hN) (bX_19 _) rfl 1 (by decide) (List.mem_of_getElem? (i := 1) rfl) rfl rfl dX9_addNumber_8 ?_
  refine lv_if_lt (tgt := 49) hx hb dX9_addNumber_11 (by decide) (fun c4 => ?_) (fun c4 => ?_)
  · have hw := hw.1 c4
    obtain ⟨x2_5, ex2_5⟩ : ∃ z : Int32, z = v2_1 + (-8 : Int32) := ⟨_, rfl⟩
    have hw := hw x2_5 ex2_5
    refine lv_iinc (v := x2_5) (lv' := [(2, .int x2_5), (0, .ref (ad 19)), (1, .int a1)]) hx hb dX9_addNumber_49 hl (k := 2) rfl (by rw [ex2_5]; rfl) (by decide) rfl (fun ls hl => ?_)
    refine lv_goto (tgt := 3) hx hb dX9_addNumber_52 (by decide) ?_
    exact hw _ _ _ hP hS (lv_sub hl [1, 2, 0] rfl)
  have hw := hw.2 c4
  refine lv_aload_n hx hb dX9_addNumber_14 rfl (lv_at hl 0 rfl) ?_
  refine hw_get (v := .int (σ2 19 1)) hx hb hts hiX9 hown hK hP (Nat.lt_of_lt_of_le (by decide) hN) (bX_19 _) rfl 1 (by decide) (List.mem_of_getElem? (i := 1) rfl) rfl rfl dX9_addNumber_15 ?_
  refine lv_aload_n hx hb dX9_addNumber_18 rfl (lv_at hl 0 rfl) ?_
  refine hw_get (v := .ref (ad 20)) hx hb hts hiX9 hown hK hP (Nat.lt_of_lt_of_le (by decide) hN) (bX_19 _) rfl 0 (by decide) (List.mem_of_getElem? (i := 2) rfl) rfl rfl dX9_addNumber_19 ?_
  refine hw_alen hx hb hK hP (Nat.lt_of_lt_of_le (by decide) hN) 1 (bX_20 _) rfl dX9_addNumber_22 ?_
  refine lv_icmp_ge (tgt := 49) hx hb dX9_addNumber_23 (by decide) (fun c6 => ?_) (fun c6 => ?_)
  · have hw := hw.1 c6
    obtain ⟨x2_7, ex2_7⟩ : ∃ z : Int32, z = v2_1 + (-8 : Int32) := ⟨_, rfl⟩
    have hw := hw x2_7 ex2_7
    refine lv_iinc (v := x2_7) (lv' := [(2, .int x2_7), (0, .ref (ad 19)), (1, .int a1)]) hx hb dX9_addNumber_49 hl (k := 2) rfl (by rw [ex2_7]; rfl) (by decide) rfl (fun ls hl => ?_)
    refine lv_goto (tgt := 3) hx hb dX9_addNumber_52 (by decide) ?_
    exact hw _ _ _ hP hS (lv_sub hl [1, 2, 0] rfl)
  have hw := hw.2 c6
  refine lv_aload_n hx hb dX9_addNumber_26 rfl (lv_at hl 0 rfl) ?_
  refine hw_get (v := .ref (ad 20)) hx hb hts hiX9 hown hK hP (Nat.lt_of_lt_of_le (by decide) hN) (bX_19 _) rfl 0 (by decide) (List.mem_of_getElem? (i := 2) rfl) rfl rfl dX9_addNumber_27 ?_
  refine lv_aload_n hx hb dX9_addNumber_30 rfl (lv_at hl 0 rfl) ?_
  refine hw_get (v := .int (σ2 19 1)) hx hb hts hiX9 hown hK hP (Nat.lt_of_lt_of_le (by decide) hN) (bX_19 _) rfl 1 (by decide) (List.mem_of_getElem? (i := 1) rfl) rfl rfl dX9_addNumber_31 ?_
  refine lv_iload_n hx hb dX9_addNumber_34 rfl (lv_at hl 1 rfl) ?_
  refine lv_iload_n hx hb dX9_addNumber_35 rfl (lv_at hl 2 rfl) ?_
  refine lv_iushr hx hb dX9_addNumber_36 rfl ?_
  refine lv_i2b hx hb dX9_addNumber_37 rfl ?_
  obtain ⟨hi8, hw⟩ := hw
  refine hw_bast hx hb hK hJ0 hP hS (Nat.lt_of_lt_of_le (by decide) hN) (fun ρ => bX_20 ρ) hi8 dX9_addNumber_38 (fun H locs hP hS => ?_)
  refine lv_aload_n hx hb dX9_addNumber_39 rfl (lv_at hl 0 rfl) ?_
  refine lv_dup hx hb dX9_addNumber_40 rfl ?_
  refine hw_get (v := .int ((hup σ2 20 ((σ2 19 1)).toNatClampNeg (vp_nar .byte ((((a1).toUInt32 >>> ((v2_1).toUInt32 &&& Int32.toUInt32 31)).toInt32).toInt8.toInt32))) 19 1)) hx hb hts hiX9 hown hK hP (Nat.lt_of_lt_of_le (by decide) hN) (bX_19 _) rfl 1 (by decide) (List.mem_of_getElem? (i := 1) rfl) rfl rfl dX9_addNumber_41 ?_
  refine lv_iconst (v := 1) hx hb dX9_addNumber_44 (by decide) ?_
  refine lv_iadd hx hb dX9_addNumber_45 ?_
  refine hw_put (x := (((hup σ2 20 ((σ2 19 1)).toNatClampNeg (vp_nar .byte ((((a1).toUInt32 >>> ((v2_1).toUInt32 &&& Int32.toUInt32 31)).toInt32).toInt8.toInt32))) 19 1) + (1 : Int32))) (j := 1) hx hb hts hiX9 tyX9 tyX9_ok nmX9 hown hK hJ0 hP hS (Nat.lt_of_lt_of_le (by decide) hN) (bX_19 _) rfl (by decide) (List.mem_of_getElem? (i := 1) rfl) rfl rfl rfl rfl (Nat.le_of_ble_eq_true rfl) (by rw [bX_19]; rfl) dX9_addNumber_46 (fun H locs hP hS => ?_)
  obtain ⟨x2_9, ex2_9⟩ : ∃ z : Int32, z = v2_1 + (-8 : Int32) := ⟨_, rfl⟩
  have hw := hw x2_9 ex2_9
  refine lv_iinc (v := x2_9) (lv' := [(2, .int x2_9), (0, .ref (ad 19)), (1, .int a1)]) hx hb dX9_addNumber_49 hl (k := 2) rfl (by rw [ex2_9]; rfl) (by decide) rfl (fun ls hl => ?_)
  refine lv_goto (tgt := 3) hx hb dX9_addNumber_52 (by decide) ?_
  exact hw _ _ _ hP hS (lv_sub hl [1, 2, 0] rfl)
set_option maxHeartbeats 4000000 in
set_option maxRecDepth 100000 in
theorem kc_X11_feed (l : Launch) (D : va_G) (cy : Nat → ClassId) (N : Nat) (hN : 38 ≤ N) (ad : Nat → Nat) (hJ0 : hJ N ad) (σ : hSt) (sz : Nat) (a1 : Int32) (a2 : Int32) (a3 : Int32) (a4 : Int32) (a5 : Int32) (Q : Int32 → hSt → Prop) (hw : wp_X11_feed a1 a2 a3 a4 a5 σ Q) : Met l yX11_feed wsX11_feed ({ frames := 1, cells := 0, slots := 0, locals := 22 } : Room) (va_Pc [.ref (ad 0), .int a1, .int a2, .int a3, .int a4, .int a5] (hB D cy (hC N ad (bX cy ad) σ) sz)) (va_Qi (fun (r : Int32) (u : hSt) => Q r u) (hE D (fun u : hSt => hC N ad (bX cy ad) u)) (hA N ad sz)) 0 0 (hA N ad sz) := by
  refine Met.ofW (cc := cX11_feed) (maxL := 6) (ret := (some .int)) (by decide) rfl ?_
  intro p e s m args below meth c s₁ B hml hv
  obtain ⟨rfl, hsz, hP, hK, hN1⟩ := hv
  have hx := B.exec
  have hb := B.bytes
  have hr := B.returns
  have hts := atoms_spec (ws := wsX11_feed) B.pre
  have hown : s.vm.findClass RX11 = some m.cls := findClass_of_methodNamed B.named
  have hlocks := B.notSynchronized
  subst hsz
  have hS : va_S (hA N ad s.heap.size) s.heap s.heap [] := va_S.rf
  have hiX11 : ∀ w ∈ wsX110, w ∈ wsX11_feed := fun _ h => List.mem_cons_of_mem _ (List.mem_append_left _ (List.mem_append_right _ h))
  have hl := lv_entry ([.ref (ad 0), .int a1, .int a2, .int a3, .int a4, .int a5]) (n := 6) (Nat.le_of_ble_eq_true rfl)
  rw [lg_entry_eq]
  generalize (lg_sl ([.ref (ad 0), .int a1, .int a2, .int a3, .int a4, .int a5]) ++ List.replicate (6 - (lg_sl ([.ref (ad 0), .int a1, .int a2, .int a3, .int a4, .int a5])).length) Slot.unset).toArray = ls at hl ⊢
  have hl : lv_has ls 6 [(0, .ref (ad 0)), (1, .int a1), (2, .int a2), (3, .int a3), (4, .int a4), (5, .int a5)] := hl
  unfold wp_X11_feed at hw
  refine lv_aload_n hx hb dX11_feed_0 rfl (lv_at hl 0 rfl) ?_
  refine hw_get (v := .ref (ad 19)) hx hb hts hiX11 hown hK hP (Nat.lt_of_lt_of_le (by decide) hN) (bX_0 _) rfl 2 (by decide) (List.mem_of_getElem? (i := 1) rfl) rfl rfl dX11_feed_1 ?_
  refine hw_ki (va_runV (As := []) (rest := []) ⟨hx, hb, hml, hown, hts⟩ (kc_X9_size l D cy N hN ad hJ0 σ _  _ hw) (cwV 0 hts gX11_feed_X9_size rfl rfl rfl (by decide +kernel) ⟨Nat.le_of_ble_eq_true rfl, Nat.le_of_ble_eq_true rfl⟩) (hw_preV hK hN1 hP (Nat.lt_of_lt_of_le (by decide) hN) (bX_19 _) rfl) rfl rfl hl.1 rfl (lv_room (Nat.le_of_ble_eq_true rfl)) dX11_feed_4 ⟨Nat.zero_le _, Nat.zero_le _⟩) hS (fun r2 σ1 H locs hw hP hS => ?_)
  obtain ⟨hu_, hw⟩ := hw
  rw [hu_] at hP
  refine lv_bipush (v := 20) hx hb dX11_feed_7 (by decide) ?_
  refine lv_iadd hx hb dX11_feed_9 ?_
  refine lv_sipush (v := 500) hx hb dX11_feed_10 (by decide) ?_
  refine lv_icmp_le (tgt := 18) hx hb dX11_feed_13 (by decide) (fun c3 => ?_) (fun c3 => ?_)
  · have hw := hw.1 c3
    refine lv_aload_n hx hb dX11_feed_18 rfl (lv_at hl 0 rfl) ?_
    refine hw_get (v := .ref (ad 19)) hx hb hts hiX11 hown hK hP (Nat.lt_of_lt_of_le (by decide) hN) (bX_0 _) rfl 2 (by decide) (List.mem_of_getElem? (i := 1) rfl) rfl rfl dX11_feed_19 ?_
    refine lv_iload_n hx hb dX11_feed_22 rfl (lv_at hl 1 rfl) ?_
    refine hw_kv (va_runV (As := [.int a1]) (rest := []) ⟨hx, hb, hml, hown, hts⟩ (kc_X9_addNumber l D cy N hN ad hJ0 σ _ a1 _ hw) (cwV 1 hts gX11_feed_X9_addNumber rfl rfl rfl (by decide +kernel) ⟨Nat.le_of_ble_eq_true rfl, Nat.le_of_ble_eq_true rfl⟩) (hw_preV hK hN1 hP (Nat.lt_of_lt_of_le (by decide) hN) (bX_19 _) rfl) rfl rfl hl.1 rfl (lv_room (Nat.le_of_ble_eq_true rfl)) dX11_feed_23 ⟨Nat.zero_le _, Nat.zero_le _⟩) hS (fun σ4 H locs hw hP hS => ?_)
    refine lv_aload_n hx hb dX11_feed_26 rfl (lv_at hl 0 rfl) ?_
    refine hw_get (v := .ref (ad 19)) hx hb hts hiX11 hown hK hP (Nat.lt_of_lt_of_le (by decide) hN) (bX_0 _) rfl 2 (by decide) (List.mem_of_getElem? (i := 1) rfl) rfl rfl dX11_feed_27 ?_
    refine lv_iload_n hx hb dX11_feed_30 rfl (lv_at hl 2 rfl) ?_
    refine hw_kv (va_runV (As := [.int a2]) (rest := []) ⟨hx, hb, hml, hown, hts⟩ (kc_X9_addNumber l D cy N hN ad hJ0 σ4 _ a2 _ hw) (cwV 1 hts gX11_feed_X9_addNumber rfl rfl rfl (by decide +kernel) ⟨Nat.le_of_ble_eq_true rfl, Nat.le_of_ble_eq_true rfl⟩) (hw_preV hK hN1 hP (Nat.lt_of_lt_of_le (by decide) hN) (bX_19 _) rfl) rfl rfl hl.1 rfl (lv_room (Nat.le_of_ble_eq_true rfl)) dX11_feed_31 ⟨Nat.zero_le _, Nat.zero_le _⟩) hS (fun σ5 H locs hw hP hS => ?_)
    refine lv_aload_n hx hb dX11_feed_34 rfl (lv_at hl 0 rfl) ?_
    refine hw_get (v := .ref (ad 19)) hx hb hts hiX11 hown hK hP (Nat.lt_of_lt_of_le (by decide) hN) (bX_0 _) rfl 2 (by decide) (List.mem_of_getElem? (i := 1) rfl) rfl rfl dX11_feed_35 ?_
    refine lv_iload_n hx hb dX11_feed_38 rfl (lv_at hl 3 rfl) ?_
    refine hw_kv (va_runV (As := [.int a3]) (rest := []) ⟨hx, hb, hml, hown, hts⟩ (kc_X9_addNumber l D cy N hN ad hJ0 σ5 _ a3 _ hw) (cwV 1 hts gX11_feed_X9_addNumber rfl rfl rfl (by decide +kernel) ⟨Nat.le_of_ble_eq_true rfl, Nat.le_of_ble_eq_true rfl⟩) (hw_preV hK hN1 hP (Nat.lt_of_lt_of_le (by decide) hN) (bX_19 _) rfl) rfl rfl hl.1 rfl (lv_room (Nat.le_of_ble_eq_true rfl)) dX11_feed_39 ⟨Nat.zero_le _, Nat.zero_le _⟩) hS (fun σ6 H locs hw hP hS => ?_)
    refine lv_aload_n hx hb dX11_feed_42 rfl (lv_at hl 0 rfl) ?_
    refine hw_get (v := .ref (ad 19)) hx hb hts hiX11 hown hK hP (Nat.lt_of_lt_of_le (by decide) hN) (bX_0 _) rfl 2 (by decide) (List.mem_of_getElem? (i := 1) rfl) rfl rfl dX11_feed_43 ?_
    refine lv_iload hx hb dX11_feed_46 (lv_at hl 4 rfl) ?_
    refine hw_kv (va_runV (As := [.int a4]) (rest := []) ⟨hx, hb, hml, hown, hts⟩ (kc_X9_addNumber l D cy N hN ad hJ0 σ6 _ a4 _ hw) (cwV 1 hts gX11_feed_X9_addNumber rfl rfl rfl (by decide +kernel) ⟨Nat.le_of_ble_eq_true rfl, Nat.le_of_ble_eq_true rfl⟩) (hw_preV hK hN1 hP (Nat.lt_of_lt_of_le (by decide) hN) (bX_19 _) rfl) rfl rfl hl.1 rfl (lv_room (Nat.le_of_ble_eq_true rfl)) dX11_feed_48 ⟨Nat.zero_le _, Nat.zero_le _⟩) hS (fun σ7 H locs hw hP hS => ?_)
    refine lv_aload_n hx hb dX11_feed_51 rfl (lv_at hl 0 rfl) ?_
    refine hw_get (v := .ref (ad 19)) hx hb hts hiX11 hown hK hP (Nat.lt_of_lt_of_le (by decide) hN) (bX_0 _) rfl 2 (by decide) (List.mem_of_getElem? (i := 1) rfl) rfl rfl dX11_feed_52 ?_
    refine lv_iload hx hb dX11_feed_55 (lv_at hl 5 rfl) ?_
    refine hw_kv (va_runV (As := [.int a5]) (rest := []) ⟨hx, hb, hml, hown, hts⟩ (kc_X9_addNumber l D cy N hN ad hJ0 σ7 _ a5 _ hw) (cwV 1 hts gX11_feed_X9_addNumber rfl rfl rfl (by decide +kernel) ⟨Nat.le_of_ble_eq_true rfl, Nat.le_of_ble_eq_true rfl⟩) (hw_preV hK hN1 hP (Nat.lt_of_lt_of_le (by decide) hN) (bX_19 _) rfl) rfl rfl hl.1 rfl (lv_room (Nat.le_of_ble_eq_true rfl)) dX11_feed_57 ⟨Nat.zero_le _, Nat.zero_le _⟩) hS (fun σ8 H locs hw hP hS => ?_)
    refine lv_aload_n hx hb dX11_feed_60 rfl (lv_at hl 0 rfl) ?_
    refine hw_get (v := .ref (ad 19)) hx hb hts hiX11 hown hK hP (Nat.lt_of_lt_of_le (by decide) hN) (bX_0 _) rfl 2 (by decide) (List.mem_of_getElem? (i := 1) rfl) rfl rfl dX11_feed_61 ?_
    refine hw_ki (va_runV (As := []) (rest := []) ⟨hx, hb, hml, hown, hts⟩ (kc_X9_size l D cy N hN ad hJ0 σ8 _  _ hw) (cwV 0 hts gX11_feed_X9_size rfl rfl rfl (by decide +kernel) ⟨Nat.le_of_ble_eq_true rfl, Nat.le_of_ble_eq_true rfl⟩) (hw_preV hK hN1 hP (Nat.lt_of_lt_of_le (by decide) hN) (bX_19 _) rfl) rfl rfl hl.1 rfl (lv_room (Nat.le_of_ble_eq_true rfl)) dX11_feed_64 ⟨Nat.zero_le _, Nat.zero_le _⟩) hS (fun r10 σ9 H locs hw hP hS => ?_)
    obtain ⟨hu_, hw⟩ := hw
    rw [hu_] at hP
    exact hw_iret hx hb hr hlocks (σ8) hw hP hS dX11_feed_67
  have hw := hw.2 c3
  refine lv_iconst (v := -1) hx hb dX11_feed_16 (by decide) ?_
  exact hw_iret hx hb hr hlocks (σ) hw hP hS dX11_feed_17
set_option maxHeartbeats 4000000 in
set_option maxRecDepth 100000 in
theorem kc_X9_cut (l : Launch) (D : va_G) (cy : Nat → ClassId) (N : Nat) (hN : 38 ≤ N) (ad : Nat → Nat) (hJ0 : hJ N ad) (σ : hSt) (sz : Nat) (a1 : Int32) (Q : hSt → Prop) (hw : wp_X9_cut a1 σ Q) : Met l yX9_cut wsX9_cut ({ frames := 0, cells := 0, slots := 0, locals := 0 } : Room) (va_Pc [.ref (ad 19), .int a1] (hB D cy (hC N ad (bX cy ad) σ) sz)) (va_Qv (fun u : hSt => Q u) (hE D (fun u : hSt => hC N ad (bX cy ad) u)) (hA N ad sz)) 0 0 (hA N ad sz) := by
  refine Met.ofW (cc := cX9_cut) (maxL := 2) (ret := none) (by decide) rfl ?_
  intro p e s m args below meth c s₁ B hml hv
  obtain ⟨rfl, hsz, hP, hK, hN1⟩ := hv
  have hx := B.exec
  have hb := B.bytes
  have hr := B.returns
  have hts := atoms_spec (ws := wsX9_cut) B.pre
  have hown : s.vm.findClass RX9 = some m.cls := findClass_of_methodNamed B.named
  have hlocks := B.notSynchronized
  subst hsz
  have hS : va_S (hA N ad s.heap.size) s.heap s.heap [] := va_S.rf
  have hiX9 : ∀ w ∈ wsX90, w ∈ wsX9_cut := fun _ h => List.mem_cons_of_mem _ (List.mem_append_right _ h)
  have hl := lv_entry ([.ref (ad 19), .int a1]) (n := 2) (Nat.le_of_ble_eq_true rfl)
  rw [lg_entry_eq]
  generalize (lg_sl ([.ref (ad 19), .int a1]) ++ List.replicate (2 - (lg_sl ([.ref (ad 19), .int a1])).length) Slot.unset).toArray = ls at hl ⊢
  have hl : lv_has ls 2 [(0, .ref (ad 19)), (1, .int a1)] := hl
  unfold wp_X9_cut at hw
  refine lv_aload_n hx hb dX9_cut_0 rfl (lv_at hl 0 rfl) ?_
  refine lv_iload_n hx hb dX9_cut_1 rfl (lv_at hl 1 rfl) ?_
  refine hw_put (x := a1) (j := 1) hx hb hts hiX9 tyX9 tyX9_ok nmX9 hown hK hJ0 hP hS (Nat.lt_of_lt_of_le (by decide) hN) (bX_19 _) rfl (by decide) (List.mem_of_getElem? (i := 1) rfl) rfl rfl rfl rfl (Nat.le_of_ble_eq_true rfl) (by rw [bX_19]; rfl) dX9_cut_2 (fun H locs hP hS => ?_)
  exact hw_vret hx hb hr hlocks ((hup σ 19 1 a1)) hw hP hS dX9_cut_5
set_option maxHeartbeats 4000000 in
set_option maxRecDepth 100000 in
theorem kc_X11_end (l : Launch) (D : va_G) (cy : Nat → ClassId) (N : Nat) (hN : 38 ≤ N) (ad : Nat → Nat) (hJ0 : hJ N ad) (σ : hSt) (sz : Nat) (a1 : Int32) (Q : Int32 → hSt → Prop) (hw : wp_X11_end a1 σ Q) : Met l yX11_end wsX11_end ({ frames := 1, cells := 0, slots := 0, locals := 21 } : Room) (va_Pc [.ref (ad 0), .int a1] (hB D cy (hC N ad (bX cy ad) σ) sz)) (va_Qi (fun (r : Int32) (u : hSt) => Q r u) (hE D (fun u : hSt => hC N ad (bX cy ad) u)) (hA N ad sz)) 0 0 (hA N ad sz) := by
  refine Met.ofW (cc := cX11_end) (maxL := 2) (ret := (some .boolean)) (by decide) rfl ?_
  intro p e s m args below meth c s₁ B hml hv
  obtain ⟨rfl, hsz, hP, hK, hN1⟩ := hv
  have hx := B.exec
  have hb := B.bytes
  have hr := B.returns
  have hts := atoms_spec (ws := wsX11_end) B.pre
  have hown : s.vm.findClass RX11 = some m.cls := findClass_of_methodNamed B.named
  have hlocks := B.notSynchronized
  subst hsz
  have hS : va_S (hA N ad s.heap.size) s.heap s.heap [] := va_S.rf
  have hiX11 : ∀ w ∈ wsX110, w ∈ wsX11_end := fun _ h => List.mem_cons_of_mem _ (List.mem_append_left _ (List.mem_append_right _ h))
  have hl := lv_entry ([.ref (ad 0), .int a1]) (n := 2) (Nat.le_of_ble_eq_true rfl)
  rw [lg_entry_eq]
  generalize (lg_sl ([.ref (ad 0), .int a1]) ++ List.replicate (2 - (lg_sl ([.ref (ad 0), .int a1])).length) Slot.unset).toArray = ls at hl ⊢
  have hl : lv_has ls 2 [(0, .ref (ad 0)), (1, .int a1)] := hl
  unfold wp_X11_end at hw
  refine lv_iload_n hx hb dX11_end_0 rfl (lv_at hl 1 rfl) ?_
  refine lv_if_lt (tgt := 15) hx hb dX11_end_1 (by decide) (fun c1 => ?_) (fun c1 => ?_)
  · have hw := hw.1 c1
    refine lv_iconst (v := 0) hx hb dX11_end_15 (by decide) ?_
    exact hw_zret hx hb hr hlocks hbo_0 (σ) hw hP hS dX11_end_16
  have hw := hw.2 c1
  refine lv_iload_n hx hb dX11_end_4 rfl (lv_at hl 1 rfl) ?_
  refine lv_aload_n hx hb dX11_end_5 rfl (lv_at hl 0 rfl) ?_
  refine hw_get (v := .ref (ad 19)) hx hb hts hiX11 hown hK hP (Nat.lt_of_lt_of_le (by decide) hN) (bX_0 _) rfl 2 (by decide) (List.mem_of_getElem? (i := 1) rfl) rfl rfl dX11_end_6 ?_
  refine hw_ki (va_runV (As := []) (rest := [.int a1]) ⟨hx, hb, hml, hown, hts⟩ (kc_X9_size l D cy N hN ad hJ0 σ _  _ hw) (cwV 0 hts gX11_end_X9_size rfl rfl rfl (by decide +kernel) ⟨Nat.le_of_ble_eq_true rfl, Nat.le_of_ble_eq_true rfl⟩) (hw_preV hK hN1 hP (Nat.lt_of_lt_of_le (by decide) hN) (bX_19 _) rfl) rfl rfl hl.1 rfl (lv_room (Nat.le_of_ble_eq_true rfl)) dX11_end_9 ⟨Nat.zero_le _, Nat.zero_le _⟩) hS (fun r3 σ2 H locs hw hP hS => ?_)
  obtain ⟨hu_, hw⟩ := hw
  rw [hu_] at hP
  refine lv_icmp_le (tgt := 17) hx hb dX11_end_12 (by decide) (fun c4 => ?_) (fun c4 => ?_)
  · have hw := hw.1 c4
    refine lv_aload_n hx hb dX11_end_17 rfl (lv_at hl 0 rfl) ?_
    refine hw_get (v := .ref (ad 19)) hx hb hts hiX11 hown hK hP (Nat.lt_of_lt_of_le (by decide) hN) (bX_0 _) rfl 2 (by decide) (List.mem_of_getElem? (i := 1) rfl) rfl rfl dX11_end_18 ?_
    refine lv_iload_n hx hb dX11_end_21 rfl (lv_at hl 1 rfl) ?_
    refine hw_kv (va_runV (As := [.int a1]) (rest := []) ⟨hx, hb, hml, hown, hts⟩ (kc_X9_cut l D cy N hN ad hJ0 σ _ a1 _ hw) (cwV 1 hts gX11_end_X9_cut rfl rfl rfl (by decide +kernel) ⟨Nat.le_of_ble_eq_true rfl, Nat.le_of_ble_eq_true rfl⟩) (hw_preV hK hN1 hP (Nat.lt_of_lt_of_le (by decide) hN) (bX_19 _) rfl) rfl rfl hl.1 rfl (lv_room (Nat.le_of_ble_eq_true rfl)) dX11_end_22 ⟨Nat.zero_le _, Nat.zero_le _⟩) hS (fun σ5 H locs hw hP hS => ?_)
    refine lv_iconst (v := 1) hx hb dX11_end_25 (by decide) ?_
    exact hw_zret hx hb hr hlocks hbo_1 (σ5) hw hP hS dX11_end_26
  have hw := hw.2 c4
  refine lv_iconst (v := 0) hx hb dX11_end_15 (by decide) ?_
  exact hw_zret hx hb hr hlocks hbo_0 (σ) hw hP hS dX11_end_16
set_option maxHeartbeats 4000000 in
set_option maxRecDepth 100000 in
theorem kc_X0_at (l : Launch) (D : va_G) (cy : Nat → ClassId) (N : Nat) (hN : 38 ≤ N) (ad : Nat → Nat) (hJ0 : hJ N ad) (σ : hSt) (sz : Nat) (a1 : Int32) (Q : Nat → Prop) (hw : wp_X0_at a1 σ Q) : Met l yX0_at wsX0_at ({ frames := 0, cells := 0, slots := 0, locals := 0 } : Room) (va_Pc [.ref (ad 1), .int a1] (hB D cy (hC N ad (bX cy ad) σ) sz)) (va_Qr (fun u : Nat × hSt => u.2 = σ ∧ hMe u.1 ∧ Q u.1) (hR_ D ad (fun u : hSt => hC N ad (bX cy ad) u)) (hA N ad sz)) 0 0 (hA N ad sz) := by
  refine Met.ofW (cc := cX0_at) (maxL := 3) (ret := (some (.object "BellTower$Method"))) (by decide) rfl ?_
  intro p e s m args below meth c s₁ B hml hv
  obtain ⟨rfl, hsz, hP, hK, hN1⟩ := hv
  have hx := B.exec
  have hb := B.bytes
  have hr := B.returns
  have hts := atoms_spec (ws := wsX0_at) B.pre
  have hown : s.vm.findClass RX0 = some m.cls := findClass_of_methodNamed B.named
  have hlocks := B.notSynchronized
  subst hsz
  have hS : va_S (hA N ad s.heap.size) s.heap s.heap [] := va_S.rf
  have hiX0 : ∀ w ∈ wsX00, w ∈ wsX0_at := fun _ h => List.mem_cons_of_mem _ (List.mem_append_right _ h)
  have hl := lv_entry ([.ref (ad 1), .int a1]) (n := 3) (Nat.le_of_ble_eq_true rfl)
  rw [lg_entry_eq]
  generalize (lg_sl ([.ref (ad 1), .int a1]) ++ List.replicate (3 - (lg_sl ([.ref (ad 1), .int a1])).length) Slot.unset).toArray = ls at hl ⊢
  have hl : lv_has ls 3 [(0, .ref (ad 1)), (1, .int a1)] := hl
  unfold wp_X0_at at hw
  refine lv_iload_n hx hb dX0_at_0 rfl (lv_at hl 1 rfl) ?_
  refine lv_if_lt (tgt := 13) hx hb dX0_at_1 (by decide) (fun c1 => ?_) (fun c1 => ?_)
  · have hw := hw.1 c1
    refine lv_aload_n hx hb dX0_at_13 rfl (lv_at hl 0 rfl) ?_
    refine hw_get (v := .ref (ad 3)) hx hb hts hiX0 hown hK hP (Nat.lt_of_lt_of_le (by decide) hN) (bX_1 _) rfl 1 (by decide) (List.mem_of_getElem? (i := 2) rfl) rfl rfl dX0_at_14 ?_
    exact hw_aret hx hb hr hlocks 3 (σ) ⟨rfl, hMe_3, hw⟩ hP hS dX0_at_17
  have hw := hw.2 c1
  refine lv_iload_n hx hb dX0_at_4 rfl (lv_at hl 1 rfl) ?_
  refine lv_aload_n hx hb dX0_at_5 rfl (lv_at hl 0 rfl) ?_
  refine hw_get (v := .ref (ad 2)) hx hb hts hiX0 hown hK hP (Nat.lt_of_lt_of_le (by decide) hN) (bX_1 _) rfl 0 (by decide) (List.mem_of_getElem? (i := 1) rfl) rfl rfl dX0_at_6 ?_
  refine hw_alen hx hb hK hP (Nat.lt_of_lt_of_le (by decide) hN) 2 (bX_2 _) rfl dX0_at_9 ?_
  refine lv_icmp_lt (tgt := 18) hx hb dX0_at_10 (by decide) (fun c2 => ?_) (fun c2 => ?_)
  · have hw := hw.1 c2
    refine lv_aload_n hx hb dX0_at_18 rfl (lv_at hl 0 rfl) ?_
    refine hw_get (v := .ref (ad 2)) hx hb hts hiX0 hown hK hP (Nat.lt_of_lt_of_le (by decide) hN) (bX_1 _) rfl 0 (by decide) (List.mem_of_getElem? (i := 1) rfl) rfl rfl dX0_at_19 ?_
    refine lv_iload_n hx hb dX0_at_22 rfl (lv_at hl 1 rfl) ?_
    obtain ⟨hi3, hw⟩ := hw
    refine hw_aald hx hb hK hP (Nat.lt_of_lt_of_le (by decide) hN) (bX_2 _) hi3 dX0_at_23 ?_
    refine lv_astore_n (lv' := [(2, .ref (ad (5 + 2 * a1.toNatClampNeg))), (0, .ref (ad 1)), (1, .int a1)]) hx hb dX0_at_24 rfl hl (by decide) rfl (fun ls hl => ?_)
    refine lv_aload_n hx hb dX0_at_25 rfl (lv_at hl 0 rfl) ?_
    refine lv_ifnonnull (tgt := 36) hx hb dX0_at_26 (by decide) ?_
    refine lv_aload_n hx hb dX0_at_36 rfl (lv_at hl 0 rfl) ?_
    exact hw_aret hx hb hr hlocks (5 + 2 * a1.toNatClampNeg) (σ) ⟨rfl, (hMe_of hi3), hw⟩ hP hS dX0_at_37
  have hw := hw.2 c2
  refine lv_aload_n hx hb dX0_at_13 rfl (lv_at hl 0 rfl) ?_
  refine hw_get (v := .ref (ad 3)) hx hb hts hiX0 hown hK hP (Nat.lt_of_lt_of_le (by decide) hN) (bX_1 _) rfl 1 (by decide) (List.mem_of_getElem? (i := 2) rfl) rfl rfl dX0_at_14 ?_
  exact hw_aret hx hb hr hlocks 3 (σ) ⟨rfl, hMe_3, hw⟩ hP hS dX0_at_17
set_option maxHeartbeats 4000000 in
set_option maxRecDepth 100000 in
theorem kc_X2_clear (l : Launch) (D : va_G) (cy : Nat → ClassId) (N : Nat) (hN : 38 ≤ N) (ad : Nat → Nat) (hJ0 : hJ N ad) (σ : hSt) (sz : Nat) (k0 : Nat) (hk0 : hMe k0) (Q : hSt → Prop) (hw : wp_X2_clear k0 σ Q) : Met l yX2_clear wsX2_clear ({ frames := 0, cells := 0, slots := 0, locals := 0 } : Room) (va_Pc [.ref (ad k0)] (hB D cy (hC N ad (bX cy ad) σ) sz)) (va_Qv (fun u : hSt => Q u) (hE D (fun u : hSt => hC N ad (bX cy ad) u)) (hA N ad sz)) 0 0 (hA N ad sz) := by
  refine Met.ofW (cc := cX2_clear) (maxL := 1) (ret := none) (by decide) rfl ?_
  intro p e s m args below meth c s₁ B hml hv
  obtain ⟨rfl, hsz, hP, hK, hN1⟩ := hv
  have hx := B.exec
  have hb := B.bytes
  have hr := B.returns
  have hts := atoms_spec (ws := wsX2_clear) B.pre
  have hown : s.vm.findClass RX2 = some m.cls := findClass_of_methodNamed B.named
  have hlocks := B.notSynchronized
  subst hsz
  have hS : va_S (hA N ad s.heap.size) s.heap s.heap [] := va_S.rf
  have hiX2 : ∀ w ∈ wsX20, w ∈ wsX2_clear := fun _ h => List.mem_cons_of_mem _ (List.mem_append_right _ h)
  have hl := lv_entry ([.ref (ad k0)]) (n := 1) (Nat.le_of_ble_eq_true rfl)
  rw [lg_entry_eq]
  generalize (lg_sl ([.ref (ad k0)]) ++ List.replicate (1 - (lg_sl ([.ref (ad k0)])).length) Slot.unset).toArray = ls at hl ⊢
  have hl : lv_has ls 1 [(0, .ref (ad k0))] := hl
  unfold wp_X2_clear at hw
  refine lv_aload_n hx hb dX2_clear_0 rfl (lv_at hl 0 rfl) ?_
  refine lv_iconst (v := 0) hx hb dX2_clear_1 (by decide) ?_
  refine hw_put (x := (0 : Int32)) (j := 1) hx hb hts hiX2 tyX2 tyX2_ok nmX2 hown hK hJ0 hP hS (hMe_lt hk0 hN) (bX_me hk0 _) rfl (by decide) (List.mem_of_getElem? (i := 1) rfl) rfl rfl rfl rfl (Nat.le_of_ble_eq_true rfl) (by rw [bX_me hk0]; rfl) dX2_clear_2 (fun H locs hP hS => ?_)
  exact hw_vret hx hb hr hlocks ((hup σ k0 1 (0 : Int32))) hw hP hS dX2_clear_5
set_option maxHeartbeats 4000000 in
set_option maxRecDepth 100000 in
theorem kc_X0_clear (l : Launch) (D : va_G) (cy : Nat → ClassId) (N : Nat) (hN : 38 ≤ N) (ad : Nat → Nat) (hJ0 : hJ N ad) (σ : hSt) (sz : Nat)  (Q : hSt → Prop) (hw : wp_X0_clear  σ Q) : Met l yX0_clear wsX0_clear ({ frames := 1, cells := 0, slots := 0, locals := 22 } : Room) (va_Pc [.ref (ad 1)] (hB D cy (hC N ad (bX cy ad) σ) sz)) (va_Qv (fun u : hSt => Q u) (hE D (fun u : hSt => hC N ad (bX cy ad) u)) (hA N ad sz)) 0 0 (hA N ad sz) := by
  refine Met.ofW (cc := cX0_clear) (maxL := 2) (ret := none) (by decide) rfl ?_
  intro p e s m args below meth c s₁ B hml hv
  obtain ⟨rfl, hsz, hP, hK, hN1⟩ := hv
  have hx := B.exec
  have hb := B.bytes
  have hr := B.returns
  have hts := atoms_spec (ws := wsX0_clear) B.pre
  have hown : s.vm.findClass RX0 = some m.cls := findClass_of_methodNamed B.named
  have hlocks := B.notSynchronized
  subst hsz
  have hS : va_S (hA N ad s.heap.size) s.heap s.heap [] := va_S.rf
  have hl := lv_entry ([.ref (ad 1)]) (n := 2) (Nat.le_of_ble_eq_true rfl)
  rw [lg_entry_eq]
  generalize (lg_sl ([.ref (ad 1)]) ++ List.replicate (2 - (lg_sl ([.ref (ad 1)])).length) Slot.unset).toArray = ls at hl ⊢
  have hl : lv_has ls 2 [(0, .ref (ad 1))] := hl
  unfold wp_X0_clear at hw
  refine lv_iconst (v := 0) hx hb dX0_clear_0 (by decide) ?_
  refine lv_istore_n (lv' := [(1, .int (0 : Int32)), (0, .ref (ad 1))]) hx hb dX0_clear_1 rfl hl (by decide) rfl (fun ls hl => ?_)
  refine hw (fun (v1_1 : Int32) (σ2 : hSt) => ∀ (H : Heap) (locs : List Loc) (ls : Array Slot), va_P D vwCl (hC N ad (bX cy ad) σ2) H → va_S (hA N ad s.heap.size) s.heap H locs → lv_has ls 2 [(0, .ref (ad 1)), (1, .int v1_1)] → W p l e (headSpec wsX0_clear ({ frames := 1, cells := 0, slots := 0, locals := 22 } : Room)).room s m ([Value.ref (ad 1)] : List Value).toArray below meth c H locs 0 0 (MQ below (va_Qv (fun u : hSt => Q u) (hE D (fun u : hSt => hC N ad (bX cy ad) u)) (hA N ad s.heap.size)) ([Value.ref (ad 1)] : List Value).toArray s 0 0 (hA N ad s.heap.size)) (F0 m 2 ls [])) (fun v1_1 σ2 hw H locs ls hP hS hl => ?_) _ _ _ hP hS (lv_sub hl [1, 0] rfl)
  refine lv_iload_n hx hb dX0_clear_2 rfl (lv_at hl 1 rfl) ?_
  refine lv_bipush (v := 6) hx hb dX0_clear_3 (by decide) ?_
  refine lv_icmp_ge (tgt := 22) hx hb dX0_clear_5 (by decide) (fun c3 => ?_) (fun c3 => ?_)
  · have hw := hw.1 c3
    exact hw_vret hx hb hr hlocks (σ2) hw hP hS dX0_clear_22
  have hw := hw.2 c3
  refine lv_aload_n hx hb dX0_clear_8 rfl (lv_at hl 0 rfl) ?_
  refine lv_iload_n hx hb dX0_clear_9 rfl (lv_at hl 1 rfl) ?_
  refine hw_kr (va_runV (As := [.int v1_1]) (rest := []) ⟨hx, hb, hml, hown, hts⟩ (kc_X0_at l D cy N hN ad hJ0 σ2 _ v1_1 _ hw) (cwV 1 hts gX0_clear_X0_at rfl rfl rfl (by decide +kernel) ⟨Nat.le_of_ble_eq_true rfl, Nat.le_of_ble_eq_true rfl⟩) (hw_preV hK hN1 hP (Nat.lt_of_lt_of_le (by decide) hN) (bX_1 _) rfl) rfl rfl hl.1 rfl (lv_room (Nat.le_of_ble_eq_true rfl)) dX0_clear_10 ⟨Nat.zero_le _, Nat.zero_le _⟩) hS (fun k5 σ4 H locs hw hP hS => ?_)
  obtain ⟨hu_, hk6, hw⟩ := hw
  dsimp only at hu_ hk6 hw
  rw [hu_] at hP
  refine hw_kv (va_runV (As := []) (rest := []) ⟨hx, hb, hml, hown, hts⟩ (kc_X2_clear l D cy N hN ad hJ0 σ2 _ k5 hk6 _ hw) (cwV 0 hts gX0_clear_X2_clear rfl rfl rfl (by decide +kernel) ⟨Nat.le_of_ble_eq_true rfl, Nat.le_of_ble_eq_true rfl⟩) (hw_preV hK hN1 hP (hMe_lt hk6 hN) (bX_me hk6 _) rfl) rfl rfl hl.1 rfl (lv_room (Nat.le_of_ble_eq_true rfl)) dX0_clear_13 ⟨Nat.zero_le _, Nat.zero_le _⟩) hS (fun σ7 H locs hw hP hS => ?_)
  obtain ⟨x1_8, ex1_8⟩ : ∃ z : Int32, z = v1_1 + (1 : Int32) := ⟨_, rfl⟩
  have hw := hw x1_8 ex1_8
  refine lv_iinc (v := x1_8) (lv' := [(1, .int x1_8), (0, .ref (ad 1))]) hx hb dX0_clear_16 hl (k := 1) rfl (by rw [ex1_8]; rfl) (by decide) rfl (fun ls hl => ?_)
  refine lv_goto (tgt := 2) hx hb dX0_clear_19 (by decide) ?_
  exact hw _ _ _ hP hS (lv_sub hl [1, 0] rfl)
set_option maxHeartbeats 4000000 in
set_option maxRecDepth 100000 in
theorem kc_X6_rounds (l : Launch) (D : va_G) (cy : Nat → ClassId) (N : Nat) (ad : Nat → Nat) (b : hCell) (σ : hSt) (sz : Nat) (a0 : Int32) (Q : Int32 → Prop) (hw : wp_X6_rounds a0 Q) : Met l yX6_rounds wsX6_rounds ({ frames := 0, cells := 0, slots := 0, locals := 0 } : Room) (va_Pc [.int a0] (hB D cy (hC N ad b σ) sz)) (va_Qi (fun (r : Int32) (u : hSt) => u = σ ∧ Q r) (hE D (fun u : hSt => hC N ad b u)) (hA N ad sz)) 0 0 (hA N ad sz) := by
  refine Met.ofW (cc := cX6_rounds) (maxL := 3) (ret := (some .int)) (by decide) rfl ?_
  intro p e s m args below meth c s₁ B hml hv
  obtain ⟨rfl, hsz, hP, hK, hN1⟩ := hv
  have hx := B.exec
  have hb := B.bytes
  have hr := B.returns
  have hts := atoms_spec (ws := wsX6_rounds) B.pre
  have hown : s.vm.findClass RX6 = some m.cls := findClass_of_methodNamed B.named
  have hlocks := B.notSynchronized
  subst hsz
  have hS : va_S (hA N ad s.heap.size) s.heap s.heap [] := va_S.rf
  have hl := lv_entry ([.int a0]) (n := 3) (Nat.le_of_ble_eq_true rfl)
  rw [lg_entry_eq]
  generalize (lg_sl ([.int a0]) ++ List.replicate (3 - (lg_sl ([.int a0])).length) Slot.unset).toArray = ls at hl ⊢
  have hl : lv_has ls 3 [(0, .int a0)] := hl
  unfold wp_X6_rounds at hw
  refine lv_iconst (v := 0) hx hb dX6_rounds_0 (by decide) ?_
  refine lv_istore_n (lv' := [(1, .int (0 : Int32)), (0, .int a0)]) hx hb dX6_rounds_1 rfl hl (by decide) rfl (fun ls hl => ?_)
  refine lv_iconst (v := 0) hx hb dX6_rounds_2 (by decide) ?_
  refine lv_istore_n (lv' := [(2, .int (0 : Int32)), (1, .int (0 : Int32)), (0, .int a0)]) hx hb dX6_rounds_3 rfl hl (by decide) rfl (fun ls hl => ?_)
  refine hw (fun (v1_1 : Int32) (v2_2 : Int32) => ∀ (H : Heap) (locs : List Loc) (ls : Array Slot), va_P D vwCl (hC N ad b σ) H → va_S (hA N ad s.heap.size) s.heap H locs → lv_has ls 3 [(0, .int a0), (1, .int v1_1), (2, .int v2_2)] → W p l e (headSpec wsX6_rounds ({ frames := 0, cells := 0, slots := 0, locals := 0 } : Room)).room s m ([Value.int a0] : List Value).toArray below meth c H locs 0 0 (MQ below (va_Qi (fun (r : Int32) (u : hSt) => u = σ ∧ Q r) (hE D (fun u : hSt => hC N ad b u)) (hA N ad s.heap.size)) ([Value.int a0] : List Value).toArray s 0 0 (hA N ad s.heap.size)) (F0 m 4 ls [])) (fun v1_1 v2_2 hw H locs ls hP hS hl => ?_) _ _ _ hP hS (lv_sub hl [2, 1, 0] rfl)
  refine lv_iload_n hx hb dX6_rounds_4 rfl (lv_at hl 2 rfl) ?_
  refine lv_iload_n hx hb dX6_rounds_5 rfl (lv_at hl 0 rfl) ?_
  refine lv_icmp_ge (tgt := 23) hx hb dX6_rounds_6 (by decide) (fun c3 => ?_) (fun c3 => ?_)
  · have hw := hw.1 c3
    refine lv_iload_n hx hb dX6_rounds_23 rfl (lv_at hl 1 rfl) ?_
    exact hw_iret hx hb hr hlocks (σ) ⟨rfl, hw⟩ hP hS dX6_rounds_24
  have hw := hw.2 c3
  refine lv_iload_n hx hb dX6_rounds_9 rfl (lv_at hl 1 rfl) ?_
  refine lv_iload_n hx hb dX6_rounds_10 rfl (lv_at hl 2 rfl) ?_
  refine lv_iconst (v := 3) hx hb dX6_rounds_11 (by decide) ?_
  refine lv_iload_n hx hb dX6_rounds_12 rfl (lv_at hl 2 rfl) ?_
  refine lv_imul hx hb dX6_rounds_13 ?_
  refine lv_ishl hx hb dX6_rounds_14 ?_
  refine lv_ior hx hb dX6_rounds_15 ?_
  refine lv_topi (fun x1_4 ex1_4 => ?_)
  have hw := hw x1_4 ex1_4
  refine lv_istore_n (lv' := [(1, .int x1_4), (0, .int a0), (2, .int v2_2)]) hx hb dX6_rounds_16 rfl hl (by decide) rfl (fun ls hl => ?_)
  obtain ⟨x2_5, ex2_5⟩ : ∃ z : Int32, z = v2_2 + (1 : Int32) := ⟨_, rfl⟩
  have hw := hw x2_5 ex2_5
  refine lv_iinc (v := x2_5) (lv' := [(2, .int x2_5), (1, .int x1_4), (0, .int a0)]) hx hb dX6_rounds_17 hl (k := 2) rfl (by rw [ex2_5]; rfl) (by decide) rfl (fun ls hl => ?_)
  refine lv_goto (tgt := 4) hx hb dX6_rounds_20 (by decide) ?_
  exact hw _ _ _ hP hS (lv_sub hl [2, 1, 0] rfl)
set_option maxHeartbeats 4000000 in
set_option maxRecDepth 100000 in
theorem kc_X5_clear (l : Launch) (D : va_G) (cy : Nat → ClassId) (N : Nat) (hN : 38 ≤ N) (ad : Nat → Nat) (hJ0 : hJ N ad) (σ : hSt) (sz : Nat) (a1 : Int32) (Q : hSt → Prop) (hw : wp_X5_clear a1 σ Q) : Met l yX5_clear wsX5_clear ({ frames := 1, cells := 0, slots := 0, locals := 22 } : Room) (va_Pc [.ref (ad 31), .int a1] (hB D cy (hC N ad (bX cy ad) σ) sz)) (va_Qv (fun u : hSt => Q u) (hE D (fun u : hSt => hC N ad (bX cy ad) u)) (hA N ad sz)) 0 0 (hA N ad sz) := by
  refine Met.ofW (cc := cX5_clear) (maxL := 2) (ret := none) (by decide) rfl ?_
  intro p e s m args below meth c s₁ B hml hv
  obtain ⟨rfl, hsz, hP, hK, hN1⟩ := hv
  have hx := B.exec
  have hb := B.bytes
  have hr := B.returns
  have hts := atoms_spec (ws := wsX5_clear) B.pre
  have hown : s.vm.findClass RX5 = some m.cls := findClass_of_methodNamed B.named
  have hlocks := B.notSynchronized
  subst hsz
  have hS : va_S (hA N ad s.heap.size) s.heap s.heap [] := va_S.rf
  have hiX5 : ∀ w ∈ wsX50, w ∈ wsX5_clear := fun _ h => List.mem_cons_of_mem _ (List.mem_append_right _ h)
  have hl := lv_entry ([.ref (ad 31), .int a1]) (n := 2) (Nat.le_of_ble_eq_true rfl)
  rw [lg_entry_eq]
  generalize (lg_sl ([.ref (ad 31), .int a1]) ++ List.replicate (2 - (lg_sl ([.ref (ad 31), .int a1])).length) Slot.unset).toArray = ls at hl ⊢
  have hl : lv_has ls 2 [(0, .ref (ad 31)), (1, .int a1)] := hl
  unfold wp_X5_clear at hw
  refine lv_aload_n hx hb dX5_clear_0 rfl (lv_at hl 0 rfl) ?_
  refine lv_iload_n hx hb dX5_clear_1 rfl (lv_at hl 1 rfl) ?_
  refine hw_put (x := a1) (j := 5) hx hb hts hiX5 tyX5 tyX5_ok nmX5 hown hK hJ0 hP hS (Nat.lt_of_lt_of_le (by decide) hN) (bX_31 _) rfl (by decide) (List.mem_of_getElem? (i := 1) rfl) rfl rfl rfl rfl (Nat.le_of_ble_eq_true rfl) (by rw [bX_31]; rfl) dX5_clear_2 (fun H locs hP hS => ?_)
  refine lv_aload_n hx hb dX5_clear_5 rfl (lv_at hl 0 rfl) ?_
  refine lv_iconst (v := 0) hx hb dX5_clear_6 (by decide) ?_
  refine hw_put (x := (0 : Int32)) (j := 6) hx hb hts hiX5 tyX5 tyX5_ok nmX5 hown hK hJ0 hP hS (Nat.lt_of_lt_of_le (by decide) hN) (bX_31 _) rfl (by decide) (List.mem_of_getElem? (i := 2) rfl) rfl rfl rfl rfl (Nat.le_of_ble_eq_true rfl) (by rw [bX_31]; rfl) dX5_clear_7 (fun H locs hP hS => ?_)
  refine lv_aload_n hx hb dX5_clear_10 rfl (lv_at hl 0 rfl) ?_
  refine lv_iconst (v := 0) hx hb dX5_clear_11 (by decide) ?_
  refine hw_put (x := (0 : Int32)) (j := 7) hx hb hts hiX5 tyX5 tyX5_ok nmX5 hown hK hJ0 hP hS (Nat.lt_of_lt_of_le (by decide) hN) (bX_31 _) rfl (by decide) (List.mem_of_getElem? (i := 3) rfl) rfl rfl rfl rfl (Nat.le_of_ble_eq_true rfl) (by rw [bX_31]; rfl) dX5_clear_12 (fun H locs hP hS => ?_)
  refine lv_aload_n hx hb dX5_clear_15 rfl (lv_at hl 0 rfl) ?_
  refine lv_iload_n hx hb dX5_clear_16 rfl (lv_at hl 1 rfl) ?_
  refine hw_ki (va_runS (As := [.int a1]) (rest := [.ref (ad 31)]) ⟨hx, hb, hml, hown, hts⟩ (kc_X6_rounds l D cy N ad (bX cy ad) (hup (hup (hup σ 31 5 a1) 31 6 (0 : Int32)) 31 7 (0 : Int32)) _ a1 _ hw) (va_cwS 1 hts gX5_clear_X6_rounds rfl rfl rfl (by decide +kernel) ⟨Nat.le_of_ble_eq_true rfl, Nat.le_of_ble_eq_true rfl⟩) (hw_pre hK hN1 hP) rfl rfl hl.1 rfl (lv_room (Nat.le_of_ble_eq_true rfl)) dX5_clear_17 ⟨Nat.zero_le _, Nat.zero_le _⟩) hS (fun r2 σ1 H locs hw hP hS => ?_)
  obtain ⟨hu_, hw⟩ := hw
  rw [hu_] at hP
  refine hw_put (x := r2) (j := 8) hx hb hts hiX5 tyX5 tyX5_ok nmX5 hown hK hJ0 hP hS (Nat.lt_of_lt_of_le (by decide) hN) (bX_31 _) rfl (by decide) (List.mem_of_getElem? (i := 4) rfl) rfl rfl rfl rfl (Nat.le_of_ble_eq_true rfl) (by rw [bX_31]; rfl) dX5_clear_20 (fun H locs hP hS => ?_)
  refine lv_aload_n hx hb dX5_clear_23 rfl (lv_at hl 0 rfl) ?_
  refine lv_iconst (v := 0) hx hb dX5_clear_24 (by decide) ?_
  refine hw_put (x := (0 : Int32)) (j := 9) hx hb hts hiX5 tyX5 tyX5_ok nmX5 hown hK hJ0 hP hS (Nat.lt_of_lt_of_le (by decide) hN) (bX_31 _) rfl (by decide) (List.mem_of_getElem? (i := 5) rfl) rfl rfl rfl rfl (Nat.le_of_ble_eq_true rfl) (by rw [bX_31]; rfl) dX5_clear_25 (fun H locs hP hS => ?_)
  exact hw_vret hx hb hr hlocks ((hup (hup (hup (hup (hup σ 31 5 a1) 31 6 (0 : Int32)) 31 7 (0 : Int32)) 31 8 r2) 31 9 (0 : Int32))) hw hP hS dX5_clear_28
set_option maxHeartbeats 4000000 in
set_option maxRecDepth 100000 in
theorem kc_X11_stage (l : Launch) (D : va_G) (cy : Nat → ClassId) (N : Nat) (hN : 38 ≤ N) (ad : Nat → Nat) (hJ0 : hJ N ad) (σ : hSt) (sz : Nat) (a1 : Int32) (Q : Int32 → hSt → Prop) (hw : wp_X11_stage a1 σ Q) : Met l yX11_stage wsX11_stage ({ frames := 2, cells := 0, slots := 0, locals := 43 } : Room) (va_Pc [.ref (ad 0), .int a1] (hB D cy (hC N ad (bX cy ad) σ) sz)) (va_Qi (fun (r : Int32) (u : hSt) => Q r u) (hE D (fun u : hSt => hC N ad (bX cy ad) u)) (hA N ad sz)) 0 0 (hA N ad sz) := by
  refine Met.ofW (cc := cX11_stage) (maxL := 2) (ret := (some .boolean)) (by decide) rfl ?_
  intro p e s m args below meth c s₁ B hml hv
  obtain ⟨rfl, hsz, hP, hK, hN1⟩ := hv
  have hx := B.exec
  have hb := B.bytes
  have hr := B.returns
  have hts := atoms_spec (ws := wsX11_stage) B.pre
  have hown : s.vm.findClass RX11 = some m.cls := findClass_of_methodNamed B.named
  have hlocks := B.notSynchronized
  subst hsz
  have hS : va_S (hA N ad s.heap.size) s.heap s.heap [] := va_S.rf
  have hiX11 : ∀ w ∈ wsX110, w ∈ wsX11_stage := fun _ h => List.mem_cons_of_mem _ (List.mem_append_left _ (List.mem_append_left _ (List.mem_append_left _ (List.mem_append_right _ h))))
  have hl := lv_entry ([.ref (ad 0), .int a1]) (n := 2) (Nat.le_of_ble_eq_true rfl)
  rw [lg_entry_eq]
  generalize (lg_sl ([.ref (ad 0), .int a1]) ++ List.replicate (2 - (lg_sl ([.ref (ad 0), .int a1])).length) Slot.unset).toArray = ls at hl ⊢
  have hl : lv_has ls 2 [(0, .ref (ad 0)), (1, .int a1)] := hl
  unfold wp_X11_stage at hw
  refine lv_iload_n hx hb dX11_stage_0 rfl (lv_at hl 1 rfl) ?_
  refine lv_iconst (v := 4) hx hb dX11_stage_1 (by decide) ?_
  refine lv_icmp_lt (tgt := 11) hx hb dX11_stage_2 (by decide) (fun c1 => ?_) (fun c1 => ?_)
  · have hw := hw.1 c1
    refine lv_iconst (v := 0) hx hb dX11_stage_11 (by decide) ?_
    exact hw_zret hx hb hr hlocks hbo_0 (σ) hw hP hS dX11_stage_12
  have hw := hw.2 c1
  refine lv_iload_n hx hb dX11_stage_5 rfl (lv_at hl 1 rfl) ?_
  refine lv_bipush (v := 8) hx hb dX11_stage_6 (by decide) ?_
  refine lv_icmp_le (tgt := 13) hx hb dX11_stage_8 (by decide) (fun c2 => ?_) (fun c2 => ?_)
  · have hw := hw.1 c2
    refine lv_aload_n hx hb dX11_stage_13 rfl (lv_at hl 0 rfl) ?_
    refine lv_iload_n hx hb dX11_stage_14 rfl (lv_at hl 1 rfl) ?_
    refine hw_put (x := a1) (j := 0) hx hb hts hiX11 tyX11 tyX11_ok nmX11 hown hK hJ0 hP hS (Nat.lt_of_lt_of_le (by decide) hN) (bX_0 _) rfl (by decide) (List.mem_of_getElem? (i := 1) rfl) rfl rfl rfl rfl (Nat.le_of_ble_eq_true rfl) (by rw [bX_0]; rfl) dX11_stage_15 (fun H locs hP hS => ?_)
    refine lv_aload_n hx hb dX11_stage_18 rfl (lv_at hl 0 rfl) ?_
    refine hw_get (v := .ref (ad 1)) hx hb hts hiX11 hown hK hP (Nat.lt_of_lt_of_le (by decide) hN) (bX_0 _) rfl 3 (by decide) (List.mem_of_getElem? (i := 2) rfl) rfl rfl dX11_stage_19 ?_
    refine hw_kv (va_runV (As := []) (rest := []) ⟨hx, hb, hml, hown, hts⟩ (kc_X0_clear l D cy N hN ad hJ0 (hup σ 0 0 a1) _  _ hw) (cwV 0 hts gX11_stage_X0_clear rfl rfl rfl (by decide +kernel) ⟨Nat.le_of_ble_eq_true rfl, Nat.le_of_ble_eq_true rfl⟩) (hw_preV hK hN1 hP (Nat.lt_of_lt_of_le (by decide) hN) (bX_1 _) rfl) rfl rfl hl.1 rfl (lv_room (Nat.le_of_ble_eq_true rfl)) dX11_stage_22 ⟨Nat.zero_le _, Nat.zero_le _⟩) hS (fun σ3 H locs hw hP hS => ?_)
    refine lv_aload_n hx hb dX11_stage_25 rfl (lv_at hl 0 rfl) ?_
    refine hw_get (v := .ref (ad 31)) hx hb hts hiX11 hown hK hP (Nat.lt_of_lt_of_le (by decide) hN) (bX_0 _) rfl 7 (by decide) (List.mem_of_getElem? (i := 3) rfl) rfl rfl dX11_stage_26 ?_
    refine lv_iload_n hx hb dX11_stage_29 rfl (lv_at hl 1 rfl) ?_
    refine hw_kv (va_runV (As := [.int a1]) (rest := []) ⟨hx, hb, hml, hown, hts⟩ (kc_X5_clear l D cy N hN ad hJ0 σ3 _ a1 _ hw) (cwV 1 hts gX11_stage_X5_clear rfl rfl rfl (by decide +kernel) ⟨Nat.le_of_ble_eq_true rfl, Nat.le_of_ble_eq_true rfl⟩) (hw_preV hK hN1 hP (Nat.lt_of_lt_of_le (by decide) hN) (bX_31 _) rfl) rfl rfl hl.1 rfl (lv_room (Nat.le_of_ble_eq_true rfl)) dX11_stage_30 ⟨Nat.zero_le _, Nat.zero_le _⟩) hS (fun σ4 H locs hw hP hS => ?_)
    refine lv_iconst (v := 1) hx hb dX11_stage_33 (by decide) ?_
    exact hw_zret hx hb hr hlocks hbo_1 (σ4) hw hP hS dX11_stage_34
  have hw := hw.2 c2
  refine lv_iconst (v := 0) hx hb dX11_stage_11 (by decide) ?_
  exact hw_zret hx hb hr hlocks hbo_0 (σ) hw hP hS dX11_stage_12
set_option maxHeartbeats 4000000 in
set_option maxRecDepth 100000 in
theorem kc_X3_beginBlock (l : Launch) (D : va_G) (cy : Nat → ClassId) (N : Nat) (hN : 38 ≤ N) (ad : Nat → Nat) (hJ0 : hJ N ad) (σ : hSt) (sz : Nat)  (Q : hSt → Prop) (hw : wp_X3_beginBlock  σ Q) : Met l yX3_beginBlock wsX3_beginBlock ({ frames := 0, cells := 0, slots := 0, locals := 0 } : Room) (va_Pc [.ref (ad 21)] (hB D cy (hC N ad (bX cy ad) σ) sz)) (va_Qv (fun u : hSt => Q u) (hE D (fun u : hSt => hC N ad (bX cy ad) u)) (hA N ad sz)) 0 0 (hA N ad sz) := by
  refine Met.ofW (cc := cX3_beginBlock) (maxL := 1) (ret := none) (by decide) rfl ?_
  intro p e s m args below meth c s₁ B hml hv
  obtain ⟨rfl, hsz, hP, hK, hN1⟩ := hv
  have hx := B.exec
  have hb := B.bytes
  have hr := B.returns
  have hts := atoms_spec (ws := wsX3_beginBlock) B.pre
  have hown : s.vm.findClass RX3 = some m.cls := findClass_of_methodNamed B.named
  have hlocks := B.notSynchronized
  subst hsz
  have hS : va_S (hA N ad s.heap.size) s.heap s.heap [] := va_S.rf
  have hiX3 : ∀ w ∈ wsX30, w ∈ wsX3_beginBlock := fun _ h => List.mem_cons_of_mem _ (List.mem_append_right _ h)
  have hl := lv_entry ([.ref (ad 21)]) (n := 1) (Nat.le_of_ble_eq_true rfl)
  rw [lg_entry_eq]
  generalize (lg_sl ([.ref (ad 21)]) ++ List.replicate (1 - (lg_sl ([.ref (ad 21)])).length) Slot.unset).toArray = ls at hl ⊢
  have hl : lv_has ls 1 [(0, .ref (ad 21))] := hl
  unfold wp_X3_beginBlock at hw
  refine lv_aload_n hx hb dX3_beginBlock_0 rfl (lv_at hl 0 rfl) ?_
  refine lv_iconst (v := 0) hx hb dX3_beginBlock_1 (by decide) ?_
  refine hw_put (x := (0 : Int32)) (j := 6) hx hb hts hiX3 tyX3 tyX3_ok nmX3 hown hK hJ0 hP hS (Nat.lt_of_lt_of_le (by decide) hN) (bX_21 _) rfl (by decide) (List.mem_of_getElem? (i := 1) rfl) rfl rfl rfl rfl (Nat.le_of_ble_eq_true rfl) (by rw [bX_21]; rfl) dX3_beginBlock_2 (fun H locs hP hS => ?_)
  refine lv_aload_n hx hb dX3_beginBlock_5 rfl (lv_at hl 0 rfl) ?_
  refine lv_aload_n hx hb dX3_beginBlock_6 rfl (lv_at hl 0 rfl) ?_
  refine hw_get (v := .int ((hup σ 21 6 (0 : Int32)) 21 7)) hx hb hts hiX3 hown hK hP (Nat.lt_of_lt_of_le (by decide) hN) (bX_21 _) rfl 7 (by decide) (List.mem_of_getElem? (i := 2) rfl) rfl rfl dX3_beginBlock_7 ?_
  refine hw_put (x := ((hup σ 21 6 (0 : Int32)) 21 7)) (j := 8) hx hb hts hiX3 tyX3 tyX3_ok nmX3 hown hK hJ0 hP hS (Nat.lt_of_lt_of_le (by decide) hN) (bX_21 _) rfl (by decide) (List.mem_of_getElem? (i := 3) rfl) rfl rfl rfl rfl (Nat.le_of_ble_eq_true rfl) (by rw [bX_21]; rfl) dX3_beginBlock_10 (fun H locs hP hS => ?_)
  refine lv_aload_n hx hb dX3_beginBlock_13 rfl (lv_at hl 0 rfl) ?_
  refine lv_iconst (v := 0) hx hb dX3_beginBlock_14 (by decide) ?_
  refine hw_put (x := (0 : Int32)) (j := 9) hx hb hts hiX3 tyX3 tyX3_ok nmX3 hown hK hJ0 hP hS (Nat.lt_of_lt_of_le (by decide) hN) (bX_21 _) rfl (by decide) (List.mem_of_getElem? (i := 4) rfl) rfl rfl rfl rfl (Nat.le_of_ble_eq_true rfl) (by rw [bX_21]; rfl) dX3_beginBlock_15 (fun H locs hP hS => ?_)
  exact hw_vret hx hb hr hlocks ((hup (hup (hup σ 21 6 (0 : Int32)) 21 8 ((hup σ 21 6 (0 : Int32)) 21 7)) 21 9 (0 : Int32))) hw hP hS dX3_beginBlock_18
set_option maxHeartbeats 4000000 in
set_option maxRecDepth 100000 in
theorem kc_X3_begin (l : Launch) (D : va_G) (cy : Nat → ClassId) (N : Nat) (hN : 38 ≤ N) (ad : Nat → Nat) (hJ0 : hJ N ad) (σ : hSt) (sz : Nat) (a1 : Int32) (Q : hSt → Prop) (hw : wp_X3_begin a1 σ Q) : Met l yX3_begin wsX3_begin ({ frames := 1, cells := 0, slots := 0, locals := 20 } : Room) (va_Pc [.ref (ad 21), .int a1] (hB D cy (hC N ad (bX cy ad) σ) sz)) (va_Qv (fun u : hSt => Q u) (hE D (fun u : hSt => hC N ad (bX cy ad) u)) (hA N ad sz)) 0 0 (hA N ad sz) := by
  refine Met.ofW (cc := cX3_begin) (maxL := 2) (ret := none) (by decide) rfl ?_
  intro p e s m args below meth c s₁ B hml hv
  obtain ⟨rfl, hsz, hP, hK, hN1⟩ := hv
  have hx := B.exec
  have hb := B.bytes
  have hr := B.returns
  have hts := atoms_spec (ws := wsX3_begin) B.pre
  have hown : s.vm.findClass RX3 = some m.cls := findClass_of_methodNamed B.named
  have hlocks := B.notSynchronized
  subst hsz
  have hS : va_S (hA N ad s.heap.size) s.heap s.heap [] := va_S.rf
  have hiX3 : ∀ w ∈ wsX30, w ∈ wsX3_begin := fun _ h => List.mem_cons_of_mem _ (List.mem_append_right _ h)
  have hl := lv_entry ([.ref (ad 21), .int a1]) (n := 2) (Nat.le_of_ble_eq_true rfl)
  rw [lg_entry_eq]
  generalize (lg_sl ([.ref (ad 21), .int a1]) ++ List.replicate (2 - (lg_sl ([.ref (ad 21), .int a1])).length) Slot.unset).toArray = ls at hl ⊢
  have hl : lv_has ls 2 [(0, .ref (ad 21)), (1, .int a1)] := hl
  unfold wp_X3_begin at hw
  refine lv_aload_n hx hb dX3_begin_0 rfl (lv_at hl 0 rfl) ?_
  refine lv_iload_n hx hb dX3_begin_1 rfl (lv_at hl 1 rfl) ?_
  refine hw_put (x := a1) (j := 4) hx hb hts hiX3 tyX3 tyX3_ok nmX3 hown hK hJ0 hP hS (Nat.lt_of_lt_of_le (by decide) hN) (bX_21 _) rfl (by decide) (List.mem_of_getElem? (i := 1) rfl) rfl rfl rfl rfl (Nat.le_of_ble_eq_true rfl) (by rw [bX_21]; rfl) dX3_begin_2 (fun H locs hP hS => ?_)
  refine lv_aload_n hx hb dX3_begin_5 rfl (lv_at hl 0 rfl) ?_
  refine lv_iconst (v := 0) hx hb dX3_begin_6 (by decide) ?_
  refine hw_put (x := (0 : Int32)) (j := 5) hx hb hts hiX3 tyX3 tyX3_ok nmX3 hown hK hJ0 hP hS (Nat.lt_of_lt_of_le (by decide) hN) (bX_21 _) rfl (by decide) (List.mem_of_getElem? (i := 2) rfl) rfl rfl rfl rfl (Nat.le_of_ble_eq_true rfl) (by rw [bX_21]; rfl) dX3_begin_7 (fun H locs hP hS => ?_)
  refine lv_aload_n hx hb dX3_begin_10 rfl (lv_at hl 0 rfl) ?_
  refine lv_iconst (v := 0) hx hb dX3_begin_11 (by decide) ?_
  refine hw_put (x := (0 : Int32)) (j := 7) hx hb hts hiX3 tyX3 tyX3_ok nmX3 hown hK hJ0 hP hS (Nat.lt_of_lt_of_le (by decide) hN) (bX_21 _) rfl (by decide) (List.mem_of_getElem? (i := 3) rfl) rfl rfl rfl rfl (Nat.le_of_ble_eq_true rfl) (by rw [bX_21]; rfl) dX3_begin_12 (fun H locs hP hS => ?_)
  refine lv_aload_n hx hb dX3_begin_15 rfl (lv_at hl 0 rfl) ?_
  refine hw_kv (va_runV (As := []) (rest := []) ⟨hx, hb, hml, hown, hts⟩ (kc_X3_beginBlock l D cy N hN ad hJ0 (hup (hup (hup σ 21 4 a1) 21 5 (0 : Int32)) 21 7 (0 : Int32)) _  _ hw) (cwV 0 hts gX3_begin_X3_beginBlock rfl rfl rfl (by decide +kernel) ⟨Nat.le_of_ble_eq_true rfl, Nat.le_of_ble_eq_true rfl⟩) (hw_preV hK hN1 hP (Nat.lt_of_lt_of_le (by decide) hN) (bX_21 _) rfl) rfl rfl hl.1 rfl (lv_room (Nat.le_of_ble_eq_true rfl)) dX3_begin_16 ⟨Nat.zero_le _, Nat.zero_le _⟩) hS (fun σ1 H locs hw hP hS => ?_)
  exact hw_vret hx hb hr hlocks (σ1) hw hP hS dX3_begin_19
set_option maxHeartbeats 4000000 in
set_option maxRecDepth 100000 in
theorem kc_X9_signAt (l : Launch) (D : va_G) (cy : Nat → ClassId) (N : Nat) (hN : 38 ≤ N) (ad : Nat → Nat) (hJ0 : hJ N ad) (σ : hSt) (sz : Nat) (a1 : Int32) (Q : Int32 → Prop) (hw : wp_X9_signAt a1 σ Q) : Met l yX9_signAt wsX9_signAt ({ frames := 0, cells := 0, slots := 0, locals := 0 } : Room) (va_Pc [.ref (ad 19), .int a1] (hB D cy (hC N ad (bX cy ad) σ) sz)) (va_Qi (fun (r : Int32) (u : hSt) => u = σ ∧ Q r) (hE D (fun u : hSt => hC N ad (bX cy ad) u)) (hA N ad sz)) 0 0 (hA N ad sz) := by
  refine Met.ofW (cc := cX9_signAt) (maxL := 2) (ret := (some .int)) (by decide) rfl ?_
  intro p e s m args below meth c s₁ B hml hv
  obtain ⟨rfl, hsz, hP, hK, hN1⟩ := hv
  have hx := B.exec
  have hb := B.bytes
  have hr := B.returns
  have hts := atoms_spec (ws := wsX9_signAt) B.pre
  have hown : s.vm.findClass RX9 = some m.cls := findClass_of_methodNamed B.named
  have hlocks := B.notSynchronized
  subst hsz
  have hS : va_S (hA N ad s.heap.size) s.heap s.heap [] := va_S.rf
  have hiX9 : ∀ w ∈ wsX90, w ∈ wsX9_signAt := fun _ h => List.mem_cons_of_mem _ (List.mem_append_right _ h)
  have hl := lv_entry ([.ref (ad 19), .int a1]) (n := 2) (Nat.le_of_ble_eq_true rfl)
  rw [lg_entry_eq]
  generalize (lg_sl ([.ref (ad 19), .int a1]) ++ List.replicate (2 - (lg_sl ([.ref (ad 19), .int a1])).length) Slot.unset).toArray = ls at hl ⊢
  have hl : lv_has ls 2 [(0, .ref (ad 19)), (1, .int a1)] := hl
  unfold wp_X9_signAt at hw
  refine lv_iload_n hx hb dX9_signAt_0 rfl (lv_at hl 1 rfl) ?_
  refine lv_if_lt (tgt := 34) hx hb dX9_signAt_1 (by decide) (fun c1 => ?_) (fun c1 => ?_)
  · have hw := hw.1 c1
    refine lv_iconst (v := -1) hx hb dX9_signAt_34 (by decide) ?_
    exact hw_iret hx hb hr hlocks (σ) ⟨rfl, hw⟩ hP hS dX9_signAt_35
  have hw := hw.2 c1
  refine lv_iload_n hx hb dX9_signAt_4 rfl (lv_at hl 1 rfl) ?_
  refine lv_aload_n hx hb dX9_signAt_5 rfl (lv_at hl 0 rfl) ?_
  refine hw_get (v := .int (σ 19 1)) hx hb hts hiX9 hown hK hP (Nat.lt_of_lt_of_le (by decide) hN) (bX_19 _) rfl 1 (by decide) (List.mem_of_getElem? (i := 1) rfl) rfl rfl dX9_signAt_6 ?_
  refine lv_icmp_ge (tgt := 34) hx hb dX9_signAt_9 (by decide) (fun c2 => ?_) (fun c2 => ?_)
  · have hw := hw.1 c2
    refine lv_iconst (v := -1) hx hb dX9_signAt_34 (by decide) ?_
    exact hw_iret hx hb hr hlocks (σ) ⟨rfl, hw⟩ hP hS dX9_signAt_35
  have hw := hw.2 c2
  refine lv_iload_n hx hb dX9_signAt_12 rfl (lv_at hl 1 rfl) ?_
  refine lv_aload_n hx hb dX9_signAt_13 rfl (lv_at hl 0 rfl) ?_
  refine hw_get (v := .ref (ad 20)) hx hb hts hiX9 hown hK hP (Nat.lt_of_lt_of_le (by decide) hN) (bX_19 _) rfl 0 (by decide) (List.mem_of_getElem? (i := 2) rfl) rfl rfl dX9_signAt_14 ?_
  refine hw_alen hx hb hK hP (Nat.lt_of_lt_of_le (by decide) hN) 1 (bX_20 _) rfl dX9_signAt_17 ?_
  refine lv_icmp_ge (tgt := 34) hx hb dX9_signAt_18 (by decide) (fun c3 => ?_) (fun c3 => ?_)
  · have hw := hw.1 c3
    refine lv_iconst (v := -1) hx hb dX9_signAt_34 (by decide) ?_
    exact hw_iret hx hb hr hlocks (σ) ⟨rfl, hw⟩ hP hS dX9_signAt_35
  have hw := hw.2 c3
  refine lv_aload_n hx hb dX9_signAt_21 rfl (lv_at hl 0 rfl) ?_
  refine hw_get (v := .ref (ad 20)) hx hb hts hiX9 hown hK hP (Nat.lt_of_lt_of_le (by decide) hN) (bX_19 _) rfl 0 (by decide) (List.mem_of_getElem? (i := 2) rfl) rfl rfl dX9_signAt_22 ?_
  refine lv_iload_n hx hb dX9_signAt_25 rfl (lv_at hl 1 rfl) ?_
  obtain ⟨hi4, hw⟩ := hw
  refine hw_bald hx hb hK hP (Nat.lt_of_lt_of_le (by decide) hN) (bX_20 _) hi4 dX9_signAt_26 ?_
  refine lv_sipush (v := 255) hx hb dX9_signAt_27 (by decide) ?_
  refine lv_iand hx hb dX9_signAt_30 ?_
  refine lv_goto (tgt := 35) hx hb dX9_signAt_31 (by decide) ?_
  exact hw_iret hx hb hr hlocks (σ) ⟨rfl, hw⟩ hP hS dX9_signAt_35
set_option maxHeartbeats 4000000 in
set_option maxRecDepth 100000 in
theorem kc_X3_isDigit (l : Launch) (D : va_G) (cy : Nat → ClassId) (N : Nat) (ad : Nat → Nat) (b : hCell) (σ : hSt) (sz : Nat) (a1 : Int32) (Q : Int32 → Prop) (hw : wp_X3_isDigit a1 Q) : Met l yX3_isDigit wsX3_isDigit ({ frames := 0, cells := 0, slots := 0, locals := 0 } : Room) (va_Pc [.ref (ad 21), .int a1] (hB D cy (hC N ad b σ) sz)) (va_Qi (fun (r : Int32) (u : hSt) => u = σ ∧ Q r) (hE D (fun u : hSt => hC N ad b u)) (hA N ad sz)) 0 0 (hA N ad sz) := by
  refine Met.ofW (cc := cX3_isDigit) (maxL := 2) (ret := (some .boolean)) (by decide) rfl ?_
  intro p e s m args below meth c s₁ B hml hv
  obtain ⟨rfl, hsz, hP, hK, hN1⟩ := hv
  have hx := B.exec
  have hb := B.bytes
  have hr := B.returns
  have hts := atoms_spec (ws := wsX3_isDigit) B.pre
  have hown : s.vm.findClass RX3 = some m.cls := findClass_of_methodNamed B.named
  have hlocks := B.notSynchronized
  subst hsz
  have hS : va_S (hA N ad s.heap.size) s.heap s.heap [] := va_S.rf
  have hl := lv_entry ([.ref (ad 21), .int a1]) (n := 2) (Nat.le_of_ble_eq_true rfl)
  rw [lg_entry_eq]
  generalize (lg_sl ([.ref (ad 21), .int a1]) ++ List.replicate (2 - (lg_sl ([.ref (ad 21), .int a1])).length) Slot.unset).toArray = ls at hl ⊢
  have hl : lv_has ls 2 [(0, .ref (ad 21)), (1, .int a1)] := hl
  unfold wp_X3_isDigit at hw
  refine lv_iload_n hx hb dX3_isDigit_0 rfl (lv_at hl 1 rfl) ?_
  refine lv_bipush (v := 49) hx hb dX3_isDigit_1 (by decide) ?_
  refine lv_icmp_lt (tgt := 16) hx hb dX3_isDigit_3 (by decide) (fun c1 => ?_) (fun c1 => ?_)
  · have hw := hw.1 c1
    refine lv_iconst (v := 0) hx hb dX3_isDigit_16 (by decide) ?_
    exact hw_zret hx hb hr hlocks hbo_0 (σ) ⟨rfl, hw⟩ hP hS dX3_isDigit_17
  have hw := hw.2 c1
  refine lv_iload_n hx hb dX3_isDigit_6 rfl (lv_at hl 1 rfl) ?_
  refine lv_bipush (v := 56) hx hb dX3_isDigit_7 (by decide) ?_
  refine lv_icmp_gt (tgt := 16) hx hb dX3_isDigit_9 (by decide) (fun c2 => ?_) (fun c2 => ?_)
  · have hw := hw.1 c2
    refine lv_iconst (v := 0) hx hb dX3_isDigit_16 (by decide) ?_
    exact hw_zret hx hb hr hlocks hbo_0 (σ) ⟨rfl, hw⟩ hP hS dX3_isDigit_17
  have hw := hw.2 c2
  refine lv_iconst (v := 1) hx hb dX3_isDigit_12 (by decide) ?_
  refine lv_goto (tgt := 17) hx hb dX3_isDigit_13 (by decide) ?_
  exact hw_zret hx hb hr hlocks hbo_1 (σ) ⟨rfl, hw⟩ hP hS dX3_isDigit_17
set_option maxHeartbeats 4000000 in
set_option maxRecDepth 100000 in
theorem kc_X3_changeEnded (l : Launch) (D : va_G) (cy : Nat → ClassId) (N : Nat) (hN : 38 ≤ N) (ad : Nat → Nat) (hJ0 : hJ N ad) (σ : hSt) (sz : Nat)  (Q : Int32 → Prop) (hw : wp_X3_changeEnded  σ Q) : Met l yX3_changeEnded wsX3_changeEnded ({ frames := 0, cells := 0, slots := 0, locals := 0 } : Room) (va_Pc [.ref (ad 21)] (hB D cy (hC N ad (bX cy ad) σ) sz)) (va_Qi (fun (r : Int32) (u : hSt) => u = σ ∧ Q r) (hE D (fun u : hSt => hC N ad (bX cy ad) u)) (hA N ad sz)) 0 0 (hA N ad sz) := by
  refine Met.ofW (cc := cX3_changeEnded) (maxL := 1) (ret := (some .boolean)) (by decide) rfl ?_
  intro p e s m args below meth c s₁ B hml hv
  obtain ⟨rfl, hsz, hP, hK, hN1⟩ := hv
  have hx := B.exec
  have hb := B.bytes
  have hr := B.returns
  have hts := atoms_spec (ws := wsX3_changeEnded) B.pre
  have hown : s.vm.findClass RX3 = some m.cls := findClass_of_methodNamed B.named
  have hlocks := B.notSynchronized
  subst hsz
  have hS : va_S (hA N ad s.heap.size) s.heap s.heap [] := va_S.rf
  have hiX3 : ∀ w ∈ wsX30, w ∈ wsX3_changeEnded := fun _ h => List.mem_cons_of_mem _ (List.mem_append_right _ h)
  have hl := lv_entry ([.ref (ad 21)]) (n := 1) (Nat.le_of_ble_eq_true rfl)
  rw [lg_entry_eq]
  generalize (lg_sl ([.ref (ad 21)]) ++ List.replicate (1 - (lg_sl ([.ref (ad 21)])).length) Slot.unset).toArray = ls at hl ⊢
  have hl : lv_has ls 1 [(0, .ref (ad 21))] := hl
  unfold wp_X3_changeEnded at hw
  refine lv_aload_n hx hb dX3_changeEnded_0 rfl (lv_at hl 0 rfl) ?_
  refine hw_get (v := .int (σ 21 6)) hx hb hts hiX3 hown hK hP (Nat.lt_of_lt_of_le (by decide) hN) (bX_21 _) rfl 6 (by decide) (List.mem_of_getElem? (i := 1) rfl) rfl rfl dX3_changeEnded_1 ?_
  refine lv_iconst (v := 2) hx hb dX3_changeEnded_4 (by decide) ?_
  refine lv_icmp_eq (tgt := 16) hx hb dX3_changeEnded_5 (by decide) (fun c1 => ?_) (fun c1 => ?_)
  · have hw := hw.1 c1
    refine lv_iconst (v := 1) hx hb dX3_changeEnded_16 (by decide) ?_
    refine lv_goto (tgt := 21) hx hb dX3_changeEnded_17 (by decide) ?_
    exact hw_zret hx hb hr hlocks hbo_1 (σ) ⟨rfl, hw⟩ hP hS dX3_changeEnded_21
  have hw := hw.2 c1
  refine lv_aload_n hx hb dX3_changeEnded_8 rfl (lv_at hl 0 rfl) ?_
  refine hw_get (v := .int (σ 21 6)) hx hb hts hiX3 hown hK hP (Nat.lt_of_lt_of_le (by decide) hN) (bX_21 _) rfl 6 (by decide) (List.mem_of_getElem? (i := 1) rfl) rfl rfl dX3_changeEnded_9 ?_
  refine lv_iconst (v := 3) hx hb dX3_changeEnded_12 (by decide) ?_
  refine lv_icmp_ne (tgt := 20) hx hb dX3_changeEnded_13 (by decide) (fun c2 => ?_) (fun c2 => ?_)
  · have hw := hw.1 c2
    refine lv_iconst (v := 0) hx hb dX3_changeEnded_20 (by decide) ?_
    exact hw_zret hx hb hr hlocks hbo_0 (σ) ⟨rfl, hw⟩ hP hS dX3_changeEnded_21
  have hw := hw.2 c2
  refine lv_iconst (v := 1) hx hb dX3_changeEnded_16 (by decide) ?_
  refine lv_goto (tgt := 21) hx hb dX3_changeEnded_17 (by decide) ?_
  exact hw_zret hx hb hr hlocks hbo_1 (σ) ⟨rfl, hw⟩ hP hS dX3_changeEnded_21
set_option maxHeartbeats 4000000 in
set_option maxRecDepth 100000 in
theorem kc_X10_refuse_r21 (l : Launch) (D : va_G) (cy : Nat → ClassId) (N : Nat) (hN : 38 ≤ N) (ad : Nat → Nat) (hJ0 : hJ N ad) (σ : hSt) (sz : Nat) (a1 : Int32) (a2 : Int32) (Q : hSt → Prop) (hw : wp_X10_refuse_r21 a1 a2 σ Q) : Met l yX10_refuse wsX10_refuse ({ frames := 0, cells := 0, slots := 0, locals := 0 } : Room) (va_Pc [.ref (ad 21), .int a1, .int a2] (hB D cy (hC N ad (bX cy ad) σ) sz)) (va_Qv (fun u : hSt => Q u) (hE D (fun u : hSt => hC N ad (bX cy ad) u)) (hA N ad sz)) 0 0 (hA N ad sz) := by
  refine Met.ofW (cc := cX10_refuse) (maxL := 3) (ret := none) (by decide) rfl ?_
  intro p e s m args below meth c s₁ B hml hv
  obtain ⟨rfl, hsz, hP, hK, hN1⟩ := hv
  have hx := B.exec
  have hb := B.bytes
  have hr := B.returns
  have hts := atoms_spec (ws := wsX10_refuse) B.pre
  have hown : s.vm.findClass RX10 = some m.cls := findClass_of_methodNamed B.named
  have hlocks := B.notSynchronized
  subst hsz
  have hS : va_S (hA N ad s.heap.size) s.heap s.heap [] := va_S.rf
  have hiX3 : ∀ w ∈ wsX30, w ∈ wsX10_refuse := fun _ h => List.mem_cons_of_mem _ (List.mem_append_right _ h)
  have hl := lv_entry ([.ref (ad 21), .int a1, .int a2]) (n := 3) (Nat.le_of_ble_eq_true rfl)
  rw [lg_entry_eq]
  generalize (lg_sl ([.ref (ad 21), .int a1, .int a2]) ++ List.replicate (3 - (lg_sl ([.ref (ad 21), .int a1, .int a2])).length) Slot.unset).toArray = ls at hl ⊢
  have hl : lv_has ls 3 [(0, .ref (ad 21)), (1, .int a1), (2, .int a2)] := hl
  unfold wp_X10_refuse_r21 at hw
  refine lv_aload_n hx hb dX10_refuse_0 rfl (lv_at hl 0 rfl) ?_
  refine lv_iload_n hx hb dX10_refuse_1 rfl (lv_at hl 1 rfl) ?_
  refine hw_put (x := a1) (j := 0) hx hb hts hiX3 tyX3 tyX3_ok nmX3 hown hK hJ0 hP hS (Nat.lt_of_lt_of_le (by decide) hN) (bX_21 _) rfl (by decide) (List.mem_of_getElem? (i := 1) rfl) rfl rfl rfl rfl (Nat.le_of_ble_eq_true rfl) (by rw [bX_21]; rfl) dX10_refuse_2 (fun H locs hP hS => ?_)
  refine lv_aload_n hx hb dX10_refuse_5 rfl (lv_at hl 0 rfl) ?_
  refine lv_iload_n hx hb dX10_refuse_6 rfl (lv_at hl 2 rfl) ?_
  refine hw_put (x := a2) (j := 1) hx hb hts hiX3 tyX3 tyX3_ok nmX3 hown hK hJ0 hP hS (Nat.lt_of_lt_of_le (by decide) hN) (bX_21 _) rfl (by decide) (List.mem_of_getElem? (i := 2) rfl) rfl rfl rfl rfl (Nat.le_of_ble_eq_true rfl) (by rw [bX_21]; rfl) dX10_refuse_7 (fun H locs hP hS => ?_)
  exact hw_vret hx hb hr hlocks ((hup (hup σ 21 0 a1) 21 1 a2)) hw hP hS dX10_refuse_10
set_option maxHeartbeats 4000000 in
set_option maxRecDepth 100000 in
theorem kc_X3_takeDigit (l : Launch) (D : va_G) (cy : Nat → ClassId) (N : Nat) (hN : 38 ≤ N) (ad : Nat → Nat) (hJ0 : hJ N ad) (σ : hSt) (sz : Nat) (a1 : Int32) (a2 : Int32) (a3 : Int32) (Q : hSt → Prop) (hw : wp_X3_takeDigit a1 a2 a3 σ Q) : Met l yX3_takeDigit wsX3_takeDigit ({ frames := 1, cells := 0, slots := 0, locals := 22 } : Room) (va_Pc [.ref (ad 21), .int a1, .int a2, .int a3] (hB D cy (hC N ad (bX cy ad) σ) sz)) (va_Qv (fun u : hSt => Q u) (hE D (fun u : hSt => hC N ad (bX cy ad) u)) (hA N ad sz)) 0 0 (hA N ad sz) := by
  refine Met.ofW (cc := cX3_takeDigit) (maxL := 5) (ret := none) (by decide) rfl ?_
  intro p e s m args below meth c s₁ B hml hv
  obtain ⟨rfl, hsz, hP, hK, hN1⟩ := hv
  have hx := B.exec
  have hb := B.bytes
  have hr := B.returns
  have hts := atoms_spec (ws := wsX3_takeDigit) B.pre
  have hown : s.vm.findClass RX3 = some m.cls := findClass_of_methodNamed B.named
  have hlocks := B.notSynchronized
  subst hsz
  have hS : va_S (hA N ad s.heap.size) s.heap s.heap [] := va_S.rf
  have hiX3 : ∀ w ∈ wsX30, w ∈ wsX3_takeDigit := fun _ h => List.mem_cons_of_mem _ (List.mem_append_left _ (List.mem_append_right _ h))
  have hl := lv_entry ([.ref (ad 21), .int a1, .int a2, .int a3]) (n := 5) (Nat.le_of_ble_eq_true rfl)
  rw [lg_entry_eq]
  generalize (lg_sl ([.ref (ad 21), .int a1, .int a2, .int a3]) ++ List.replicate (5 - (lg_sl ([.ref (ad 21), .int a1, .int a2, .int a3])).length) Slot.unset).toArray = ls at hl ⊢
  have hl : lv_has ls 5 [(0, .ref (ad 21)), (1, .int a1), (2, .int a2), (3, .int a3)] := hl
  unfold wp_X3_takeDigit at hw
  refine lv_iload_n hx hb dX3_takeDigit_0 rfl (lv_at hl 2 rfl) ?_
  obtain ⟨J107, ehJ107, hw⟩ := hM_x hw
  have hJ107 : ∀ (σ1 : hSt) (H : Heap) (locs : List Loc) (ls : Array Slot), J107 σ1 → va_P D vwCl (hC N ad (bX cy ad) σ1) H → va_S (hA N ad s.heap.size) s.heap H locs → lv_has ls 5 [(0, .ref (ad 21)), (1, .int a1)] → W p l e (headSpec wsX3_takeDigit ({ frames := 1, cells := 0, slots := 0, locals := 22 } : Room)).room s m ([Value.ref (ad 21), Value.int a1, Value.int a2, Value.int a3] : List Value).toArray below meth c H locs 0 0 (MQ below (va_Qv (fun u : hSt => Q u) (hE D (fun u : hSt => hC N ad (bX cy ad) u)) (hA N ad s.heap.size)) ([Value.ref (ad 21), Value.int a1, Value.int a2, Value.int a3] : List Value).toArray s 0 0 (hA N ad s.heap.size)) (F0 m 107 ls []) := by
    intro σ1 H locs ls hw hP hS hl
    rw [ehJ107] at hw
    refine lv_aload_n hx hb dX3_takeDigit_107 rfl (lv_at hl 0 rfl) ?_
    refine lv_iload_n hx hb dX3_takeDigit_108 rfl (lv_at hl 1 rfl) ?_
    refine hw_put (x := a1) (j := 12) hx hb hts hiX3 tyX3 tyX3_ok nmX3 hown hK hJ0 hP hS (Nat.lt_of_lt_of_le (by decide) hN) (bX_21 _) rfl (by decide) (List.mem_of_getElem? (i := 7) rfl) rfl rfl rfl rfl (Nat.le_of_ble_eq_true rfl) (by rw [bX_21]; rfl) dX3_takeDigit_109 (fun H locs hP hS => ?_)
    refine lv_aload_n hx hb dX3_takeDigit_112 rfl (lv_at hl 0 rfl) ?_
    refine lv_dup hx hb dX3_takeDigit_113 rfl ?_
    refine hw_get (v := .int ((hup σ1 21 12 a1) 21 13)) hx hb hts hiX3 hown hK hP (Nat.lt_of_lt_of_le (by decide) hN) (bX_21 _) rfl 13 (by decide) (List.mem_of_getElem? (i := 6) rfl) rfl rfl dX3_takeDigit_114 ?_
    refine lv_iconst (v := 1) hx hb dX3_takeDigit_117 (by decide) ?_
    refine lv_iload_n hx hb dX3_takeDigit_118 rfl (lv_at hl 1 rfl) ?_
    refine lv_iconst (v := 1) hx hb dX3_takeDigit_119 (by decide) ?_
    refine lv_isub hx hb dX3_takeDigit_120 ?_
    refine lv_ishl hx hb dX3_takeDigit_121 ?_
    refine lv_ior hx hb dX3_takeDigit_122 ?_
    refine hw_put (x := (((hup σ1 21 12 a1) 21 13) ||| ((1 : Int32) <<< ((a1 - (1 : Int32)) &&& 31)))) (j := 13) hx hb hts hiX3 tyX3 tyX3_ok nmX3 hown hK hJ0 hP hS (Nat.lt_of_lt_of_le (by decide) hN) (bX_21 _) rfl (by decide) (List.mem_of_getElem? (i := 6) rfl) rfl rfl rfl rfl (Nat.le_of_ble_eq_true rfl) (by rw [bX_21]; rfl) dX3_takeDigit_123 (fun H locs hP hS => ?_)
    exact hw_vret hx hb hr hlocks ((hup (hup σ1 21 12 a1) 21 13 (((hup σ1 21 12 a1) 21 13) ||| ((1 : Int32) <<< ((a1 - (1 : Int32)) &&& 31))))) hw hP hS dX3_takeDigit_126
  refine lv_if_eq (tgt := 75) hx hb dX3_takeDigit_1 (by decide) (fun c2 => ?_) (fun c2 => ?_)
  · have hw := hw.1 c2
    refine lv_iload_n hx hb dX3_takeDigit_75 rfl (lv_at hl 1 rfl) ?_
    refine lv_aload_n hx hb dX3_takeDigit_76 rfl (lv_at hl 0 rfl) ?_
    refine hw_get (v := .int (σ 21 12)) hx hb hts hiX3 hown hK hP (Nat.lt_of_lt_of_le (by decide) hN) (bX_21 _) rfl 12 (by decide) (List.mem_of_getElem? (i := 7) rfl) rfl rfl dX3_takeDigit_77 ?_
    obtain ⟨J102, ehJ102, hw⟩ := hM_x hw
    have hJ102 : ∀ (H : Heap) (locs : List Loc) (ls : Array Slot), J102 → va_P D vwCl (hC N ad (bX cy ad) σ) H → va_S (hA N ad s.heap.size) s.heap H locs → lv_has ls 5 [(0, .ref (ad 21)), (1, .int a1)] → W p l e (headSpec wsX3_takeDigit ({ frames := 1, cells := 0, slots := 0, locals := 22 } : Room)).room s m ([Value.ref (ad 21), Value.int a1, Value.int a2, Value.int a3] : List Value).toArray below meth c H locs 0 0 (MQ below (va_Qv (fun u : hSt => Q u) (hE D (fun u : hSt => hC N ad (bX cy ad) u)) (hA N ad s.heap.size)) ([Value.ref (ad 21), Value.int a1, Value.int a2, Value.int a3] : List Value).toArray s 0 0 (hA N ad s.heap.size)) (F0 m 102 ls []) := by
      intro H locs ls hw hP hS hl
      rw [ehJ102] at hw
      refine lv_aload_n hx hb dX3_takeDigit_102 rfl (lv_at hl 0 rfl) ?_
      refine lv_iconst (v := 1) hx hb dX3_takeDigit_103 (by decide) ?_
      refine hw_put (x := (1 : Int32)) (j := 10) hx hb hts hiX3 tyX3 tyX3_ok nmX3 hown hK hJ0 hP hS (Nat.lt_of_lt_of_le (by decide) hN) (bX_21 _) rfl (by decide) (List.mem_of_getElem? (i := 4) rfl) rfl rfl rfl rfl (Nat.le_of_ble_eq_true rfl) (by rw [bX_21]; rfl) dX3_takeDigit_104 (fun H locs hP hS => ?_)
      exact hJ107 _ _ _ _ hw hP hS (lv_sub hl [0, 1] rfl)
    refine lv_icmp_le (tgt := 102) hx hb dX3_takeDigit_80 (by decide) (fun c3 => ?_) (fun c3 => ?_)
    · have hw := hw.1 c3
      exact hJ102  _ _ _ hw hP hS (lv_sub hl [0, 1] rfl)
    have hw := hw.2 c3
    refine lv_iload_n hx hb dX3_takeDigit_83 rfl (lv_at hl 1 rfl) ?_
    refine lv_aload_n hx hb dX3_takeDigit_84 rfl (lv_at hl 0 rfl) ?_
    refine hw_get (v := .int (σ 21 4)) hx hb hts hiX3 hown hK hP (Nat.lt_of_lt_of_le (by decide) hN) (bX_21 _) rfl 4 (by decide) (List.mem_of_getElem? (i := 3) rfl) rfl rfl dX3_takeDigit_85 ?_
    refine lv_icmp_gt (tgt := 102) hx hb dX3_takeDigit_88 (by decide) (fun c4 => ?_) (fun c4 => ?_)
    · have hw := hw.1 c4
      exact hJ102  _ _ _ hw hP hS (lv_sub hl [0, 1] rfl)
    have hw := hw.2 c4
    refine lv_iload_n hx hb dX3_takeDigit_91 rfl (lv_at hl 1 rfl) ?_
    refine lv_aload_n hx hb dX3_takeDigit_92 rfl (lv_at hl 0 rfl) ?_
    refine hw_get (v := .int (σ 21 12)) hx hb hts hiX3 hown hK hP (Nat.lt_of_lt_of_le (by decide) hN) (bX_21 _) rfl 12 (by decide) (List.mem_of_getElem? (i := 7) rfl) rfl rfl dX3_takeDigit_93 ?_
    refine lv_isub hx hb dX3_takeDigit_96 ?_
    refine lv_iconst (v := 2) hx hb dX3_takeDigit_97 (by decide) ?_
    refine lv_irem hx hb dX3_takeDigit_98 (by decide) ?_
    refine lv_if_ne (tgt := 107) hx hb dX3_takeDigit_99 (by decide) (fun c5 => ?_) (fun c5 => ?_)
    · have hw := hw.1 c5
      exact hJ107 _ _ _ _ hw hP hS (lv_sub hl [0, 1] rfl)
    have hw := hw.2 c5
    exact hJ102  _ _ _ hw hP hS (lv_sub hl [0, 1] rfl)
  have hw := hw.2 c2
  refine lv_aload_n hx hb dX3_takeDigit_4 rfl (lv_at hl 0 rfl) ?_
  refine hw_get (v := .int (σ 21 5)) hx hb hts hiX3 hown hK hP (Nat.lt_of_lt_of_le (by decide) hN) (bX_21 _) rfl 5 (by decide) (List.mem_of_getElem? (i := 1) rfl) rfl rfl dX3_takeDigit_5 ?_
  obtain ⟨J24, ehJ24, hw⟩ := hM_x hw
  have hJ24 : ∀ (z6 : Int32) (H : Heap) (locs : List Loc) (ls : Array Slot), J24 z6 → va_P D vwCl (hC N ad (bX cy ad) σ) H → va_S (hA N ad s.heap.size) s.heap H locs → lv_has ls 5 [(0, .ref (ad 21)), (1, .int a1), (3, .int a3)] → W p l e (headSpec wsX3_takeDigit ({ frames := 1, cells := 0, slots := 0, locals := 22 } : Room)).room s m ([Value.ref (ad 21), Value.int a1, Value.int a2, Value.int a3] : List Value).toArray below meth c H locs 0 0 (MQ below (va_Qv (fun u : hSt => Q u) (hE D (fun u : hSt => hC N ad (bX cy ad) u)) (hA N ad s.heap.size)) ([Value.ref (ad 21), Value.int a1, Value.int a2, Value.int a3] : List Value).toArray s 0 0 (hA N ad s.heap.size)) (F0 m 24 ls [.int z6]) := by
    intro z6 H locs ls hw hP hS hl
    rw [ehJ24] at hw
    refine lv_istore (lv' := [(4, .int z6), (0, .ref (ad 21)), (1, .int a1), (3, .int a3)]) hx hb dX3_takeDigit_24 hl (by decide) rfl (fun ls hl => ?_)
    refine lv_aload_n hx hb dX3_takeDigit_26 rfl (lv_at hl 1 rfl) ?_
    refine hw_ki (va_runV (As := []) (rest := []) ⟨hx, hb, hml, hown, hts⟩ (kc_X3_changeEnded l D cy N hN ad hJ0 σ _  _ hw) (cwV 0 hts gX3_takeDigit_X3_changeEnded rfl rfl rfl (by decide +kernel) ⟨Nat.le_of_ble_eq_true rfl, Nat.le_of_ble_eq_true rfl⟩) (hw_preV hK hN1 hP (Nat.lt_of_lt_of_le (by decide) hN) (bX_21 _) rfl) rfl rfl hl.1 rfl (lv_room (Nat.le_of_ble_eq_true rfl)) dX3_takeDigit_27 ⟨Nat.zero_le _, Nat.zero_le _⟩) hS (fun r8 σ7 H locs hw hP hS => ?_)
    obtain ⟨hu_, hw⟩ := hw
    rw [hu_] at hP
    obtain ⟨J45, ehJ45, hw⟩ := hM_x hw
    have hJ45 : ∀ (H : Heap) (locs : List Loc) (ls : Array Slot), J45 → va_P D vwCl (hC N ad (bX cy ad) σ) H → va_S (hA N ad s.heap.size) s.heap H locs → lv_has ls 5 [(0, .ref (ad 21)), (1, .int a1)] → W p l e (headSpec wsX3_takeDigit ({ frames := 1, cells := 0, slots := 0, locals := 22 } : Room)).room s m ([Value.ref (ad 21), Value.int a1, Value.int a2, Value.int a3] : List Value).toArray below meth c H locs 0 0 (MQ below (va_Qv (fun u : hSt => Q u) (hE D (fun u : hSt => hC N ad (bX cy ad) u)) (hA N ad s.heap.size)) ([Value.ref (ad 21), Value.int a1, Value.int a2, Value.int a3] : List Value).toArray s 0 0 (hA N ad s.heap.size)) (F0 m 45 ls []) := by
      intro H locs ls hw hP hS hl
      rw [ehJ45] at hw
      refine lv_aload_n hx hb dX3_takeDigit_45 rfl (lv_at hl 0 rfl) ?_
      refine lv_iload_n hx hb dX3_takeDigit_46 rfl (lv_at hl 1 rfl) ?_
      refine lv_aload_n hx hb dX3_takeDigit_47 rfl (lv_at hl 0 rfl) ?_
      refine hw_get (v := .int (σ 21 4)) hx hb hts hiX3 hown hK hP (Nat.lt_of_lt_of_le (by decide) hN) (bX_21 _) rfl 4 (by decide) (List.mem_of_getElem? (i := 3) rfl) rfl rfl dX3_takeDigit_48 ?_
      obtain ⟨J59, ehJ59, hw⟩ := hM_x hw
      have hJ59 : ∀ (z9 : Int32) (H : Heap) (locs : List Loc) (ls : Array Slot), J59 z9 → va_P D vwCl (hC N ad (bX cy ad) σ) H → va_S (hA N ad s.heap.size) s.heap H locs → lv_has ls 5 [(0, .ref (ad 21)), (1, .int a1)] → W p l e (headSpec wsX3_takeDigit ({ frames := 1, cells := 0, slots := 0, locals := 22 } : Room)).room s m ([Value.ref (ad 21), Value.int a1, Value.int a2, Value.int a3] : List Value).toArray below meth c H locs 0 0 (MQ below (va_Qv (fun u : hSt => Q u) (hE D (fun u : hSt => hC N ad (bX cy ad) u)) (hA N ad s.heap.size)) ([Value.ref (ad 21), Value.int a1, Value.int a2, Value.int a3] : List Value).toArray s 0 0 (hA N ad s.heap.size)) (F0 m 59 ls [.int z9, .ref (ad 21)]) := by
        intro z9 H locs ls hw hP hS hl
        rw [ehJ59] at hw
        obtain ⟨hb10, hw⟩ := hw
        refine hw_put (x := z9) (j := 10) hx hb hts hiX3 tyX3 tyX3_ok nmX3 hown hK hJ0 hP hS (Nat.lt_of_lt_of_le (by decide) hN) (bX_21 _) rfl (by decide) (List.mem_of_getElem? (i := 4) rfl) rfl rfl (hbo_n hb10) (hbo_f hb10) (Nat.le_of_ble_eq_true rfl) (by rw [bX_21]; rfl) dX3_takeDigit_59 (fun H locs hP hS => ?_)
        refine lv_aload_n hx hb dX3_takeDigit_62 rfl (lv_at hl 0 rfl) ?_
        refine lv_iload_n hx hb dX3_takeDigit_63 rfl (lv_at hl 1 rfl) ?_
        refine hw_put (x := a1) (j := 11) hx hb hts hiX3 tyX3 tyX3_ok nmX3 hown hK hJ0 hP hS (Nat.lt_of_lt_of_le (by decide) hN) (bX_21 _) rfl (by decide) (List.mem_of_getElem? (i := 5) rfl) rfl rfl rfl rfl (Nat.le_of_ble_eq_true rfl) (by rw [bX_21]; rfl) dX3_takeDigit_64 (fun H locs hP hS => ?_)
        refine lv_aload_n hx hb dX3_takeDigit_67 rfl (lv_at hl 0 rfl) ?_
        refine lv_iconst (v := 0) hx hb dX3_takeDigit_68 (by decide) ?_
        refine hw_put (x := (0 : Int32)) (j := 13) hx hb hts hiX3 tyX3 tyX3_ok nmX3 hown hK hJ0 hP hS (Nat.lt_of_lt_of_le (by decide) hN) (bX_21 _) rfl (by decide) (List.mem_of_getElem? (i := 6) rfl) rfl rfl rfl rfl (Nat.le_of_ble_eq_true rfl) (by rw [bX_21]; rfl) dX3_takeDigit_69 (fun H locs hP hS => ?_)
        refine lv_goto (tgt := 107) hx hb dX3_takeDigit_72 (by decide) ?_
        exact hJ107 _ _ _ _ hw hP hS (lv_sub hl [0, 1] rfl)
      refine lv_icmp_le (tgt := 58) hx hb dX3_takeDigit_51 (by decide) (fun c11 => ?_) (fun c11 => ?_)
      · have hw := hw.1 c11
        refine lv_iconst (v := 0) hx hb dX3_takeDigit_58 (by decide) ?_
        exact hJ59 _ _ _ _ hw hP hS (lv_sub hl [0, 1] rfl)
      have hw := hw.2 c11
      refine lv_iconst (v := 1) hx hb dX3_takeDigit_54 (by decide) ?_
      refine lv_goto (tgt := 59) hx hb dX3_takeDigit_55 (by decide) ?_
      exact hJ59 _ _ _ _ hw hP hS (lv_sub hl [0, 1] rfl)
    refine lv_if_eq (tgt := 45) hx hb dX3_takeDigit_30 (by decide) (fun c12 => ?_) (fun c12 => ?_)
    · have hw := hw.1 c12
      exact hJ45  _ _ _ hw hP hS (lv_sub hl [1, 2] rfl)
    have hw := hw.2 c12
    refine lv_iload hx hb dX3_takeDigit_33 (lv_at hl 0 rfl) ?_
    refine lv_if_ne (tgt := 45) hx hb dX3_takeDigit_35 (by decide) (fun c13 => ?_) (fun c13 => ?_)
    · have hw := hw.1 c13
      exact hJ45  _ _ _ hw hP hS (lv_sub hl [1, 2] rfl)
    have hw := hw.2 c13
    refine lv_aload_n hx hb dX3_takeDigit_38 rfl (lv_at hl 1 rfl) ?_
    refine lv_iconst (v := 1) hx hb dX3_takeDigit_39 (by decide) ?_
    refine lv_iload_n hx hb dX3_takeDigit_40 rfl (lv_at hl 3 rfl) ?_
    refine hw_kv (va_runU (As := [.int (1 : Int32), .int a3]) (rest := []) ⟨hx, hb, hml, hown, hts⟩ (kc_X10_refuse_r21 l D cy N hN ad hJ0 σ _ (1 : Int32) a3 _ hw) (va_cwU 2 hts gX3_takeDigit_X10_refuse_u73X3 rfl rfl rfl rfl (by decide +kernel) ⟨Nat.le_of_ble_eq_true rfl, Nat.le_of_ble_eq_true rfl⟩) (hw_preV hK hN1 hP (Nat.lt_of_lt_of_le (by decide) hN) (bX_21 _) rfl) rfl rfl hl.1 rfl (lv_room (Nat.le_of_ble_eq_true rfl)) dX3_takeDigit_41 ⟨Nat.zero_le _, Nat.zero_le _⟩) hS (fun σ14 H locs hw hP hS => ?_)
    exact hw_vret hx hb hr hlocks (σ14) hw hP hS dX3_takeDigit_44
  obtain ⟨J23, ehJ23, hw⟩ := hM_x hw
  have hJ23 : ∀ (H : Heap) (locs : List Loc) (ls : Array Slot), J23 → va_P D vwCl (hC N ad (bX cy ad) σ) H → va_S (hA N ad s.heap.size) s.heap H locs → lv_has ls 5 [(0, .ref (ad 21)), (1, .int a1), (3, .int a3)] → W p l e (headSpec wsX3_takeDigit ({ frames := 1, cells := 0, slots := 0, locals := 22 } : Room)).room s m ([Value.ref (ad 21), Value.int a1, Value.int a2, Value.int a3] : List Value).toArray below meth c H locs 0 0 (MQ below (va_Qv (fun u : hSt => Q u) (hE D (fun u : hSt => hC N ad (bX cy ad) u)) (hA N ad s.heap.size)) ([Value.ref (ad 21), Value.int a1, Value.int a2, Value.int a3] : List Value).toArray s 0 0 (hA N ad s.heap.size)) (F0 m 23 ls []) := by
    intro H locs ls hw hP hS hl
    rw [ehJ23] at hw
    refine lv_iconst (v := 0) hx hb dX3_takeDigit_23 (by decide) ?_
    exact hJ24 _ _ _ _ hw hP hS (lv_sub hl [0, 1, 2] rfl)
  refine lv_if_ne (tgt := 23) hx hb dX3_takeDigit_8 (by decide) (fun c15 => ?_) (fun c15 => ?_)
  · have hw := hw.1 c15
    exact hJ23  _ _ _ hw hP hS (lv_sub hl [0, 1, 3] rfl)
  have hw := hw.2 c15
  refine lv_aload_n hx hb dX3_takeDigit_11 rfl (lv_at hl 0 rfl) ?_
  refine hw_get (v := .int (σ 21 6)) hx hb hts hiX3 hown hK hP (Nat.lt_of_lt_of_le (by decide) hN) (bX_21 _) rfl 6 (by decide) (List.mem_of_getElem? (i := 2) rfl) rfl rfl dX3_takeDigit_12 ?_
  refine lv_iconst (v := 2) hx hb dX3_takeDigit_15 (by decide) ?_
  refine lv_icmp_ne (tgt := 23) hx hb dX3_takeDigit_16 (by decide) (fun c16 => ?_) (fun c16 => ?_)
  · have hw := hw.1 c16
    exact hJ23  _ _ _ hw hP hS (lv_sub hl [0, 1, 3] rfl)
  have hw := hw.2 c16
  refine lv_iconst (v := 1) hx hb dX3_takeDigit_19 (by decide) ?_
  refine lv_goto (tgt := 24) hx hb dX3_takeDigit_20 (by decide) ?_
  exact hJ24 _ _ _ _ hw hP hS (lv_sub hl [0, 1, 3] rfl)
set_option maxHeartbeats 4000000 in
set_option maxRecDepth 100000 in
theorem kc_X6_changeMaking (l : Launch) (D : va_G) (cy : Nat → ClassId) (N : Nat) (ad : Nat → Nat) (b : hCell) (σ : hSt) (sz : Nat) (a0 : Int32) (a1 : Int32) (Q : Int32 → Prop) (hw : wp_X6_changeMaking a0 a1 Q) : Met l yX6_changeMaking wsX6_changeMaking ({ frames := 0, cells := 0, slots := 0, locals := 0 } : Room) (va_Pc [.int a0, .int a1] (hB D cy (hC N ad b σ) sz)) (va_Qi (fun (r : Int32) (u : hSt) => u = σ ∧ Q r) (hE D (fun u : hSt => hC N ad b u)) (hA N ad sz)) 0 0 (hA N ad sz) := by
  refine Met.ofW (cc := cX6_changeMaking) (maxL := 4) (ret := (some .int)) (by decide) rfl ?_
  intro p e s m args below meth c s₁ B hml hv
  obtain ⟨rfl, hsz, hP, hK, hN1⟩ := hv
  have hx := B.exec
  have hb := B.bytes
  have hr := B.returns
  have hts := atoms_spec (ws := wsX6_changeMaking) B.pre
  have hown : s.vm.findClass RX6 = some m.cls := findClass_of_methodNamed B.named
  have hlocks := B.notSynchronized
  subst hsz
  have hS : va_S (hA N ad s.heap.size) s.heap s.heap [] := va_S.rf
  have hl := lv_entry ([.int a0, .int a1]) (n := 4) (Nat.le_of_ble_eq_true rfl)
  rw [lg_entry_eq]
  generalize (lg_sl ([.int a0, .int a1]) ++ List.replicate (4 - (lg_sl ([.int a0, .int a1])).length) Slot.unset).toArray = ls at hl ⊢
  have hl : lv_has ls 4 [(0, .int a0), (1, .int a1)] := hl
  unfold wp_X6_changeMaking at hw
  refine lv_iconst (v := 0) hx hb dX6_changeMaking_0 (by decide) ?_
  refine lv_istore_n (lv' := [(2, .int (0 : Int32)), (0, .int a0), (1, .int a1)]) hx hb dX6_changeMaking_1 rfl hl (by decide) rfl (fun ls hl => ?_)
  refine lv_iconst (v := 0) hx hb dX6_changeMaking_2 (by decide) ?_
  refine lv_istore_n (lv' := [(3, .int (0 : Int32)), (2, .int (0 : Int32)), (0, .int a0), (1, .int a1)]) hx hb dX6_changeMaking_3 rfl hl (by decide) rfl (fun ls hl => ?_)
  refine hw (fun (v2_1 : Int32) (v3_2 : Int32) => ∀ (H : Heap) (locs : List Loc) (ls : Array Slot), va_P D vwCl (hC N ad b σ) H → va_S (hA N ad s.heap.size) s.heap H locs → lv_has ls 4 [(0, .int a0), (1, .int a1), (2, .int v2_1), (3, .int v3_2)] → W p l e (headSpec wsX6_changeMaking ({ frames := 0, cells := 0, slots := 0, locals := 0 } : Room)).room s m ([Value.int a0, Value.int a1] : List Value).toArray below meth c H locs 0 0 (MQ below (va_Qi (fun (r : Int32) (u : hSt) => u = σ ∧ Q r) (hE D (fun u : hSt => hC N ad b u)) (hA N ad s.heap.size)) ([Value.int a0, Value.int a1] : List Value).toArray s 0 0 (hA N ad s.heap.size)) (F0 m 4 ls [])) (fun v2_1 v3_2 hw H locs ls hP hS hl => ?_) _ _ _ hP hS (lv_sub hl [2, 3, 1, 0] rfl)
  refine lv_iload_n hx hb dX6_changeMaking_4 rfl (lv_at hl 3 rfl) ?_
  refine lv_iconst (v := 1) hx hb dX6_changeMaking_5 (by decide) ?_
  refine lv_iadd hx hb dX6_changeMaking_6 ?_
  refine lv_iload_n hx hb dX6_changeMaking_7 rfl (lv_at hl 1 rfl) ?_
  refine lv_icmp_ge (tgt := 40) hx hb dX6_changeMaking_8 (by decide) (fun c3 => ?_) (fun c3 => ?_)
  · have hw := hw.1 c3
    refine lv_iload_n hx hb dX6_changeMaking_40 rfl (lv_at hl 2 rfl) ?_
    exact hw_iret hx hb hr hlocks (σ) ⟨rfl, hw⟩ hP hS dX6_changeMaking_41
  have hw := hw.2 c3
  refine lv_iload_n hx hb dX6_changeMaking_11 rfl (lv_at hl 0 rfl) ?_
  refine lv_iload_n hx hb dX6_changeMaking_12 rfl (lv_at hl 3 rfl) ?_
  refine lv_iushr hx hb dX6_changeMaking_13 rfl ?_
  refine lv_iconst (v := 1) hx hb dX6_changeMaking_14 (by decide) ?_
  refine lv_iand hx hb dX6_changeMaking_15 ?_
  refine lv_if_eq (tgt := 25) hx hb dX6_changeMaking_16 (by decide) (fun c4 => ?_) (fun c4 => ?_)
  · have hw := hw.1 c4
    refine lv_iload_n hx hb dX6_changeMaking_25 rfl (lv_at hl 2 rfl) ?_
    refine lv_bipush (v := 7) hx hb dX6_changeMaking_26 (by decide) ?_
    refine lv_iconst (v := 3) hx hb dX6_changeMaking_28 (by decide) ?_
    refine lv_iload_n hx hb dX6_changeMaking_29 rfl (lv_at hl 3 rfl) ?_
    refine lv_imul hx hb dX6_changeMaking_30 ?_
    refine lv_ishl hx hb dX6_changeMaking_31 ?_
    refine lv_ior hx hb dX6_changeMaking_32 ?_
    refine lv_topi (fun x2_5 ex2_5 => ?_)
    have hw := hw x2_5 ex2_5
    refine lv_istore_n (lv' := [(2, .int x2_5), (0, .int a0), (1, .int a1), (3, .int v3_2)]) hx hb dX6_changeMaking_33 rfl hl (by decide) rfl (fun ls hl => ?_)
    obtain ⟨x3_6, ex3_6⟩ : ∃ z : Int32, z = v3_2 + (2 : Int32) := ⟨_, rfl⟩
    have hw := hw x3_6 ex3_6
    refine lv_iinc (v := x3_6) (lv' := [(3, .int x3_6), (2, .int x2_5), (0, .int a0), (1, .int a1)]) hx hb dX6_changeMaking_34 hl (k := 3) rfl (by rw [ex3_6]; rfl) (by decide) rfl (fun ls hl => ?_)
    refine lv_goto (tgt := 4) hx hb dX6_changeMaking_37 (by decide) ?_
    exact hw _ _ _ hP hS (lv_sub hl [2, 3, 1, 0] rfl)
  have hw := hw.2 c4
  obtain ⟨x3_7, ex3_7⟩ : ∃ z : Int32, z = v3_2 + (1 : Int32) := ⟨_, rfl⟩
  have hw := hw x3_7 ex3_7
  refine lv_iinc (v := x3_7) (lv' := [(3, .int x3_7), (0, .int a0), (1, .int a1), (2, .int v2_1)]) hx hb dX6_changeMaking_19 hl (k := 3) rfl (by rw [ex3_7]; rfl) (by decide) rfl (fun ls hl => ?_)
  refine lv_goto (tgt := 4) hx hb dX6_changeMaking_22 (by decide) ?_
  exact hw _ _ _ hP hS (lv_sub hl [1, 2, 3, 0] rfl)
set_option maxHeartbeats 4000000 in
set_option maxRecDepth 100000 in
theorem kc_X2_setBob (l : Launch) (D : va_G) (cy : Nat → ClassId) (N : Nat) (hN : 38 ≤ N) (ad : Nat → Nat) (hJ0 : hJ N ad) (σ : hSt) (sz : Nat) (k0 : Nat) (hk0 : hMe k0) (a1 : Int32) (Q : hSt → Prop) (hw : wp_X2_setBob k0 a1 σ Q) : Met l yX2_setBob wsX2_setBob ({ frames := 0, cells := 0, slots := 0, locals := 0 } : Room) (va_Pc [.ref (ad k0), .int a1] (hB D cy (hC N ad (bX cy ad) σ) sz)) (va_Qv (fun u : hSt => Q u) (hE D (fun u : hSt => hC N ad (bX cy ad) u)) (hA N ad sz)) 0 0 (hA N ad sz) := by
  refine Met.ofW (cc := cX2_setBob) (maxL := 2) (ret := none) (by decide) rfl ?_
  intro p e s m args below meth c s₁ B hml hv
  obtain ⟨rfl, hsz, hP, hK, hN1⟩ := hv
  have hx := B.exec
  have hb := B.bytes
  have hr := B.returns
  have hts := atoms_spec (ws := wsX2_setBob) B.pre
  have hown : s.vm.findClass RX2 = some m.cls := findClass_of_methodNamed B.named
  have hlocks := B.notSynchronized
  subst hsz
  have hS : va_S (hA N ad s.heap.size) s.heap s.heap [] := va_S.rf
  have hiX2 : ∀ w ∈ wsX20, w ∈ wsX2_setBob := fun _ h => List.mem_cons_of_mem _ (List.mem_append_right _ h)
  have hl := lv_entry ([.ref (ad k0), .int a1]) (n := 2) (Nat.le_of_ble_eq_true rfl)
  rw [lg_entry_eq]
  generalize (lg_sl ([.ref (ad k0), .int a1]) ++ List.replicate (2 - (lg_sl ([.ref (ad k0), .int a1])).length) Slot.unset).toArray = ls at hl ⊢
  have hl : lv_has ls 2 [(0, .ref (ad k0)), (1, .int a1)] := hl
  unfold wp_X2_setBob at hw
  refine lv_aload_n hx hb dX2_setBob_0 rfl (lv_at hl 0 rfl) ?_
  refine lv_iload_n hx hb dX2_setBob_1 rfl (lv_at hl 1 rfl) ?_
  refine hw_put (x := a1) (j := 3) hx hb hts hiX2 tyX2 tyX2_ok nmX2 hown hK hJ0 hP hS (hMe_lt hk0 hN) (bX_me hk0 _) rfl (by decide) (List.mem_of_getElem? (i := 1) rfl) rfl rfl rfl rfl (Nat.le_of_ble_eq_true rfl) (by rw [bX_me hk0]; rfl) dX2_setBob_2 (fun H locs hP hS => ?_)
  exact hw_vret hx hb hr hlocks ((hup σ k0 3 a1)) hw hP hS dX2_setBob_5

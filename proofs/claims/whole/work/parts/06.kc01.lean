set_option maxHeartbeats 4000000 in
set_option maxRecDepth 100000 in
theorem kc_X2_setSingle (l : Launch) (D : va_G) (cy : Nat → ClassId) (N : Nat) (hN : 38 ≤ N) (ad : Nat → Nat) (hJ0 : hJ N ad) (σ : hSt) (sz : Nat) (k0 : Nat) (hk0 : hMe k0) (a1 : Int32) (Q : hSt → Prop) (hw : wp_X2_setSingle k0 a1 σ Q) : Met l yX2_setSingle wsX2_setSingle ({ frames := 0, cells := 0, slots := 0, locals := 0 } : Room) (va_Pc [.ref (ad k0), .int a1] (hB D cy (hC N ad (bX cy ad) σ) sz)) (va_Qv (fun u : hSt => Q u) (hE D (fun u : hSt => hC N ad (bX cy ad) u)) (hA N ad sz)) 0 0 (hA N ad sz) := by
  refine Met.ofW (cc := cX2_setSingle) (maxL := 2) (ret := none) (by decide) rfl ?_
  intro p e s m args below meth c s₁ B hml hv
  obtain ⟨rfl, hsz, hP, hK, hN1⟩ := hv
  have hx := B.exec
  have hb := B.bytes
  have hr := B.returns
  have hts := atoms_spec (ws := wsX2_setSingle) B.pre
  have hown : s.vm.findClass RX2 = some m.cls := findClass_of_methodNamed B.named
  have hlocks := B.notSynchronized
  subst hsz
  have hS : va_S (hA N ad s.heap.size) s.heap s.heap [] := va_S.rf
  have hiX2 : ∀ w ∈ wsX20, w ∈ wsX2_setSingle := fun _ h => List.mem_cons_of_mem _ (List.mem_append_right _ h)
  have hl := lv_entry ([.ref (ad k0), .int a1]) (n := 2) (Nat.le_of_ble_eq_true rfl)
  rw [lg_entry_eq]
  generalize (lg_sl ([.ref (ad k0), .int a1]) ++ List.replicate (2 - (lg_sl ([.ref (ad k0), .int a1])).length) Slot.unset).toArray = ls at hl ⊢
  have hl : lv_has ls 2 [(0, .ref (ad k0)), (1, .int a1)] := hl
  unfold wp_X2_setSingle at hw
  refine lv_aload_n hx hb dX2_setSingle_0 rfl (lv_at hl 0 rfl) ?_
  refine lv_iload_n hx hb dX2_setSingle_1 rfl (lv_at hl 1 rfl) ?_
  refine hw_put (x := a1) (j := 4) hx hb hts hiX2 tyX2 tyX2_ok nmX2 hown hK hJ0 hP hS (hMe_lt hk0 hN) (bX_me hk0 _) rfl (by decide) (List.mem_of_getElem? (i := 1) rfl) rfl rfl rfl rfl (Nat.le_of_ble_eq_true rfl) (by rw [bX_me hk0]; rfl) dX2_setSingle_2 (fun H locs hP hS => ?_)
  exact hw_vret hx hb hr hlocks ((hup σ k0 4 a1)) hw hP hS dX2_setSingle_5
set_option maxHeartbeats 4000000 in
set_option maxRecDepth 100000 in
theorem kc_X11_setCell (l : Launch) (D : va_G) (cy : Nat → ClassId) (N : Nat) (hN : 38 ≤ N) (ad : Nat → Nat) (hJ0 : hJ N ad) (σ : hSt) (sz : Nat) (k0 : Nat) (hk0 : hAi k0) (a1 : Int32) (a2 : Int32) (Q : hSt → Prop) (hw : wp_X11_setCell k0 a1 a2 σ Q) : Met l yX11_setCell wsX11_setCell ({ frames := 0, cells := 0, slots := 0, locals := 0 } : Room) (va_Pc [.ref (ad k0), .int a1, .int a2] (hB D cy (hC N ad (bX cy ad) σ) sz)) (va_Qv (fun u : hSt => Q u) (hE D (fun u : hSt => hC N ad (bX cy ad) u)) (hA N ad sz)) 0 0 (hA N ad sz) := by
  refine Met.ofW (cc := cX11_setCell) (maxL := 3) (ret := none) (by decide) rfl ?_
  intro p e s m args below meth c s₁ B hml hv
  obtain ⟨rfl, hsz, hP, hK, hN1⟩ := hv
  have hx := B.exec
  have hb := B.bytes
  have hr := B.returns
  have hts := atoms_spec (ws := wsX11_setCell) B.pre
  have hown : s.vm.findClass RX11 = some m.cls := findClass_of_methodNamed B.named
  have hlocks := B.notSynchronized
  subst hsz
  have hS : va_S (hA N ad s.heap.size) s.heap s.heap [] := va_S.rf
  have hl := lv_entry ([.ref (ad k0), .int a1, .int a2]) (n := 3) (Nat.le_of_ble_eq_true rfl)
  rw [lg_entry_eq]
  generalize (lg_sl ([.ref (ad k0), .int a1, .int a2]) ++ List.replicate (3 - (lg_sl ([.ref (ad k0), .int a1, .int a2])).length) Slot.unset).toArray = ls at hl ⊢
  have hl : lv_has ls 3 [(0, .ref (ad k0)), (1, .int a1), (2, .int a2)] := hl
  unfold wp_X11_setCell at hw
  refine lv_iload_n hx hb dX11_setCell_0 rfl (lv_at hl 1 rfl) ?_
  refine lv_if_lt (tgt := 14) hx hb dX11_setCell_1 (by decide) (fun c1 => ?_) (fun c1 => ?_)
  · have hw := hw.1 c1
    exact hw_vret hx hb hr hlocks (σ) hw hP hS dX11_setCell_14
  have hw := hw.2 c1
  refine lv_iload_n hx hb dX11_setCell_4 rfl (lv_at hl 1 rfl) ?_
  refine lv_aload_n hx hb dX11_setCell_5 rfl (lv_at hl 0 rfl) ?_
  refine hw_alen hx hb hK hP (hAi_lt hk0 hN) 0 (bX_ai hk0 _) rfl dX11_setCell_6 ?_
  refine lv_icmp_ge (tgt := 14) hx hb dX11_setCell_7 (by decide) (fun c2 => ?_) (fun c2 => ?_)
  · have hw := hw.1 c2
    exact hw_vret hx hb hr hlocks (σ) hw hP hS dX11_setCell_14
  have hw := hw.2 c2
  refine lv_aload_n hx hb dX11_setCell_10 rfl (lv_at hl 0 rfl) ?_
  refine lv_iload_n hx hb dX11_setCell_11 rfl (lv_at hl 1 rfl) ?_
  refine lv_iload_n hx hb dX11_setCell_12 rfl (lv_at hl 2 rfl) ?_
  obtain ⟨hi3, hw⟩ := hw
  refine hw_iast hx hb hK hJ0 hP hS (hAi_lt hk0 hN) (fun ρ => bX_ai hk0 ρ) hi3 dX11_setCell_13 (fun H locs hP hS => ?_)
  exact hw_vret hx hb hr hlocks ((hup σ k0 (a1).toNatClampNeg a2)) hw hP hS dX11_setCell_14
set_option maxHeartbeats 4000000 in
set_option maxRecDepth 100000 in
theorem kc_X2_setChange (l : Launch) (D : va_G) (cy : Nat → ClassId) (N : Nat) (hN : 38 ≤ N) (ad : Nat → Nat) (hJ0 : hJ N ad) (σ : hSt) (sz : Nat) (k0 : Nat) (hk0 : hMe k0) (a1 : Int32) (a2 : Int32) (Q : hSt → Prop) (hw : wp_X2_setChange k0 a1 a2 σ Q) : Met l yX2_setChange wsX2_setChange ({ frames := 1, cells := 0, slots := 0, locals := 22 } : Room) (va_Pc [.ref (ad k0), .int a1, .int a2] (hB D cy (hC N ad (bX cy ad) σ) sz)) (va_Qv (fun u : hSt => Q u) (hE D (fun u : hSt => hC N ad (bX cy ad) u)) (hA N ad sz)) 0 0 (hA N ad sz) := by
  refine Met.ofW (cc := cX2_setChange) (maxL := 3) (ret := none) (by decide) rfl ?_
  intro p e s m args below meth c s₁ B hml hv
  obtain ⟨rfl, hsz, hP, hK, hN1⟩ := hv
  have hx := B.exec
  have hb := B.bytes
  have hr := B.returns
  have hts := atoms_spec (ws := wsX2_setChange) B.pre
  have hown : s.vm.findClass RX2 = some m.cls := findClass_of_methodNamed B.named
  have hlocks := B.notSynchronized
  subst hsz
  have hS : va_S (hA N ad s.heap.size) s.heap s.heap [] := va_S.rf
  have hiX2 : ∀ w ∈ wsX20, w ∈ wsX2_setChange := fun _ h => List.mem_cons_of_mem _ (List.mem_append_right _ h)
  have hl := lv_entry ([.ref (ad k0), .int a1, .int a2]) (n := 3) (Nat.le_of_ble_eq_true rfl)
  rw [lg_entry_eq]
  generalize (lg_sl ([.ref (ad k0), .int a1, .int a2]) ++ List.replicate (3 - (lg_sl ([.ref (ad k0), .int a1, .int a2])).length) Slot.unset).toArray = ls at hl ⊢
  have hl : lv_has ls 3 [(0, .ref (ad k0)), (1, .int a1), (2, .int a2)] := hl
  unfold wp_X2_setChange at hw
  refine lv_aload_n hx hb dX2_setChange_0 rfl (lv_at hl 0 rfl) ?_
  refine hw_get (v := .ref (ad (k0 + 1))) hx hb hts hiX2 hown hK hP (hMe_lt hk0 hN) (bX_me hk0 _) rfl 0 (by decide) (List.mem_of_getElem? (i := 1) rfl) rfl rfl dX2_setChange_1 ?_
  refine lv_iload_n hx hb dX2_setChange_4 rfl (lv_at hl 1 rfl) ?_
  refine lv_iload_n hx hb dX2_setChange_5 rfl (lv_at hl 2 rfl) ?_
  refine hw_kv (va_runSN (As := [.ref (ad (k0 + 1)), .int a1, .int a2]) (rest := []) ⟨hx, hb, hml, hown, hts⟩ (kc_X11_setCell l D cy N hN ad hJ0 σ _ (k0 + 1) (hAi_me hk0) a1 a2 _ hw) ⟨va_cnB 3 hts gX2_setChange_X11_setCell_n41 rfl rfl rfl (hN1.at 4 rfl) (hts (.initialized RX11) (List.mem_of_getElem? (i := 3) rfl)) (by decide +kernel) ⟨Nat.le_of_ble_eq_true rfl, Nat.le_of_ble_eq_true rfl⟩, hts (.static yX11_setCell) (List.mem_of_getElem? (i := 2) rfl), trivial⟩ (hw_pre hK hN1 hP) rfl rfl hl.1 rfl (lv_room (Nat.le_of_ble_eq_true rfl)) dX2_setChange_6 ⟨Nat.zero_le _, Nat.zero_le _⟩) hS (fun σ1 H locs hw hP hS => ?_)
  exact hw_vret hx hb hr hlocks (σ1) hw hP hS dX2_setChange_9
set_option maxHeartbeats 4000000 in
set_option maxRecDepth 100000 in
theorem kc_X3_addChange (l : Launch) (D : va_G) (cy : Nat → ClassId) (N : Nat) (hN : 38 ≤ N) (ad : Nat → Nat) (hJ0 : hJ N ad) (σ : hSt) (sz : Nat) (a1 : Int32) (Q : hSt → Prop) (hw : wp_X3_addChange a1 σ Q) : Met l yX3_addChange wsX3_addChange ({ frames := 2, cells := 0, slots := 0, locals := 44 } : Room) (va_Pc [.ref (ad 21), .int a1] (hB D cy (hC N ad (bX cy ad) σ) sz)) (va_Qv (fun u : hSt => Q u) (hE D (fun u : hSt => hC N ad (bX cy ad) u)) (hA N ad sz)) 0 0 (hA N ad sz) := by
  refine Met.ofW (cc := cX3_addChange) (maxL := 2) (ret := none) (by decide) rfl ?_
  intro p e s m args below meth c s₁ B hml hv
  obtain ⟨rfl, hsz, hP, hK, hN1⟩ := hv
  have hx := B.exec
  have hb := B.bytes
  have hr := B.returns
  have hts := atoms_spec (ws := wsX3_addChange) B.pre
  have hown : s.vm.findClass RX3 = some m.cls := findClass_of_methodNamed B.named
  have hlocks := B.notSynchronized
  subst hsz
  have hS : va_S (hA N ad s.heap.size) s.heap s.heap [] := va_S.rf
  have hiX3 : ∀ w ∈ wsX30, w ∈ wsX3_addChange := fun _ h => List.mem_cons_of_mem _ (List.mem_append_left _ (List.mem_append_right _ h))
  have hl := lv_entry ([.ref (ad 21), .int a1]) (n := 2) (Nat.le_of_ble_eq_true rfl)
  rw [lg_entry_eq]
  generalize (lg_sl ([.ref (ad 21), .int a1]) ++ List.replicate (2 - (lg_sl ([.ref (ad 21), .int a1])).length) Slot.unset).toArray = ls at hl ⊢
  have hl : lv_has ls 2 [(0, .ref (ad 21)), (1, .int a1)] := hl
  unfold wp_X3_addChange at hw
  refine lv_aload_n hx hb dX3_addChange_0 rfl (lv_at hl 0 rfl) ?_
  refine hw_get (v := .int (σ 21 5)) hx hb hts hiX3 hown hK hP (Nat.lt_of_lt_of_le (by decide) hN) (bX_21 _) rfl 5 (by decide) (List.mem_of_getElem? (i := 1) rfl) rfl rfl dX3_addChange_1 ?_
  refine lv_iconst (v := 1) hx hb dX3_addChange_4 (by decide) ?_
  refine lv_icmp_ne (tgt := 19) hx hb dX3_addChange_5 (by decide) (fun c1 => ?_) (fun c1 => ?_)
  · have hw := hw.1 c1
    refine lv_aload_n hx hb dX3_addChange_19 rfl (lv_at hl 0 rfl) ?_
    refine hw_get (v := .int (σ 21 5)) hx hb hts hiX3 hown hK hP (Nat.lt_of_lt_of_le (by decide) hN) (bX_21 _) rfl 5 (by decide) (List.mem_of_getElem? (i := 1) rfl) rfl rfl dX3_addChange_20 ?_
    refine lv_iconst (v := 2) hx hb dX3_addChange_23 (by decide) ?_
    refine lv_icmp_ne (tgt := 38) hx hb dX3_addChange_24 (by decide) (fun c2 => ?_) (fun c2 => ?_)
    · have hw := hw.1 c2
      refine lv_aload_n hx hb dX3_addChange_38 rfl (lv_at hl 0 rfl) ?_
      refine hw_get (v := .ref (ad 22)) hx hb hts hiX3 hown hK hP (Nat.lt_of_lt_of_le (by decide) hN) (bX_21 _) rfl 3 (by decide) (List.mem_of_getElem? (i := 2) rfl) rfl rfl dX3_addChange_39 ?_
      refine lv_aload_n hx hb dX3_addChange_42 rfl (lv_at hl 0 rfl) ?_
      refine hw_get (v := .int (σ 21 7)) hx hb hts hiX3 hown hK hP (Nat.lt_of_lt_of_le (by decide) hN) (bX_21 _) rfl 7 (by decide) (List.mem_of_getElem? (i := 3) rfl) rfl rfl dX3_addChange_43 ?_
      refine lv_iload_n hx hb dX3_addChange_46 rfl (lv_at hl 1 rfl) ?_
      refine hw_kv (va_runV (As := [.int (σ 21 7), .int a1]) (rest := []) ⟨hx, hb, hml, hown, hts⟩ (kc_X2_setChange l D cy N hN ad hJ0 σ _ 22 hMe_22 (σ 21 7) a1 _ hw) (cwV 2 hts gX3_addChange_X2_setChange rfl rfl rfl (by decide +kernel) ⟨Nat.le_of_ble_eq_true rfl, Nat.le_of_ble_eq_true rfl⟩) (hw_preV hK hN1 hP (Nat.lt_of_lt_of_le (by decide) hN) (bX_22 _) rfl) rfl rfl hl.1 rfl (lv_room (Nat.le_of_ble_eq_true rfl)) dX3_addChange_47 ⟨Nat.zero_le _, Nat.zero_le _⟩) hS (fun σ3 H locs hw hP hS => ?_)
      refine lv_aload_n hx hb dX3_addChange_50 rfl (lv_at hl 0 rfl) ?_
      refine lv_dup hx hb dX3_addChange_51 rfl ?_
      refine hw_get (v := .int (σ3 21 7)) hx hb hts hiX3 hown hK hP (Nat.lt_of_lt_of_le (by decide) hN) (bX_21 _) rfl 7 (by decide) (List.mem_of_getElem? (i := 3) rfl) rfl rfl dX3_addChange_52 ?_
      refine lv_iconst (v := 1) hx hb dX3_addChange_55 (by decide) ?_
      refine lv_iadd hx hb dX3_addChange_56 ?_
      refine hw_put (x := ((σ3 21 7) + (1 : Int32))) (j := 7) hx hb hts hiX3 tyX3 tyX3_ok nmX3 hown hK hJ0 hP hS (Nat.lt_of_lt_of_le (by decide) hN) (bX_21 _) rfl (by decide) (List.mem_of_getElem? (i := 3) rfl) rfl rfl rfl rfl (Nat.le_of_ble_eq_true rfl) (by rw [bX_21]; rfl) dX3_addChange_57 (fun H locs hP hS => ?_)
      exact hw_vret hx hb hr hlocks ((hup σ3 21 7 ((σ3 21 7) + (1 : Int32)))) hw hP hS dX3_addChange_60
    have hw := hw.2 c2
    refine lv_aload_n hx hb dX3_addChange_27 rfl (lv_at hl 0 rfl) ?_
    refine hw_get (v := .ref (ad 22)) hx hb hts hiX3 hown hK hP (Nat.lt_of_lt_of_le (by decide) hN) (bX_21 _) rfl 3 (by decide) (List.mem_of_getElem? (i := 2) rfl) rfl rfl dX3_addChange_28 ?_
    refine lv_iload_n hx hb dX3_addChange_31 rfl (lv_at hl 1 rfl) ?_
    refine hw_kv (va_runV (As := [.int a1]) (rest := []) ⟨hx, hb, hml, hown, hts⟩ (kc_X2_setSingle l D cy N hN ad hJ0 σ _ 22 hMe_22 a1 _ hw) (cwV 1 hts gX3_addChange_X2_setSingle rfl rfl rfl (by decide +kernel) ⟨Nat.le_of_ble_eq_true rfl, Nat.le_of_ble_eq_true rfl⟩) (hw_preV hK hN1 hP (Nat.lt_of_lt_of_le (by decide) hN) (bX_22 _) rfl) rfl rfl hl.1 rfl (lv_room (Nat.le_of_ble_eq_true rfl)) dX3_addChange_32 ⟨Nat.zero_le _, Nat.zero_le _⟩) hS (fun σ4 H locs hw hP hS => ?_)
    refine lv_goto (tgt := 60) hx hb dX3_addChange_35 (by decide) ?_
    exact hw_vret hx hb hr hlocks (σ4) hw hP hS dX3_addChange_60
  have hw := hw.2 c1
  refine lv_aload_n hx hb dX3_addChange_8 rfl (lv_at hl 0 rfl) ?_
  refine hw_get (v := .ref (ad 22)) hx hb hts hiX3 hown hK hP (Nat.lt_of_lt_of_le (by decide) hN) (bX_21 _) rfl 3 (by decide) (List.mem_of_getElem? (i := 2) rfl) rfl rfl dX3_addChange_9 ?_
  refine lv_iload_n hx hb dX3_addChange_12 rfl (lv_at hl 1 rfl) ?_
  refine hw_kv (va_runV (As := [.int a1]) (rest := []) ⟨hx, hb, hml, hown, hts⟩ (kc_X2_setBob l D cy N hN ad hJ0 σ _ 22 hMe_22 a1 _ hw) (cwV 1 hts gX3_addChange_X2_setBob rfl rfl rfl (by decide +kernel) ⟨Nat.le_of_ble_eq_true rfl, Nat.le_of_ble_eq_true rfl⟩) (hw_preV hK hN1 hP (Nat.lt_of_lt_of_le (by decide) hN) (bX_22 _) rfl) rfl rfl hl.1 rfl (lv_room (Nat.le_of_ble_eq_true rfl)) dX3_addChange_13 ⟨Nat.zero_le _, Nat.zero_le _⟩) hS (fun σ5 H locs hw hP hS => ?_)
  refine lv_goto (tgt := 60) hx hb dX3_addChange_16 (by decide) ?_
  exact hw_vret hx hb hr hlocks (σ5) hw hP hS dX3_addChange_60
set_option maxHeartbeats 4000000 in
set_option maxRecDepth 100000 in
theorem kc_X3_takeDigitsEnd (l : Launch) (D : va_G) (cy : Nat → ClassId) (N : Nat) (hN : 38 ≤ N) (ad : Nat → Nat) (hJ0 : hJ N ad) (σ : hSt) (sz : Nat) (a1 : Int32) (Q : hSt → Prop) (hw : wp_X3_takeDigitsEnd a1 σ Q) : Met l yX3_takeDigitsEnd wsX3_takeDigitsEnd ({ frames := 3, cells := 0, slots := 0, locals := 65 } : Room) (va_Pc [.ref (ad 21), .int a1] (hB D cy (hC N ad (bX cy ad) σ) sz)) (va_Qv (fun u : hSt => Q u) (hE D (fun u : hSt => hC N ad (bX cy ad) u)) (hA N ad sz)) 0 0 (hA N ad sz) := by
  refine Met.ofW (cc := cX3_takeDigitsEnd) (maxL := 2) (ret := none) (by decide) rfl ?_
  intro p e s m args below meth c s₁ B hml hv
  obtain ⟨rfl, hsz, hP, hK, hN1⟩ := hv
  have hx := B.exec
  have hb := B.bytes
  have hr := B.returns
  have hts := atoms_spec (ws := wsX3_takeDigitsEnd) B.pre
  have hown : s.vm.findClass RX3 = some m.cls := findClass_of_methodNamed B.named
  have hlocks := B.notSynchronized
  subst hsz
  have hS : va_S (hA N ad s.heap.size) s.heap s.heap [] := va_S.rf
  have hiX3 : ∀ w ∈ wsX30, w ∈ wsX3_takeDigitsEnd := fun _ h => List.mem_cons_of_mem _ (List.mem_append_left _ (List.mem_append_left _ (List.mem_append_right _ h)))
  have hl := lv_entry ([.ref (ad 21), .int a1]) (n := 2) (Nat.le_of_ble_eq_true rfl)
  rw [lg_entry_eq]
  generalize (lg_sl ([.ref (ad 21), .int a1]) ++ List.replicate (2 - (lg_sl ([.ref (ad 21), .int a1])).length) Slot.unset).toArray = ls at hl ⊢
  have hl : lv_has ls 2 [(0, .ref (ad 21)), (1, .int a1)] := hl
  unfold wp_X3_takeDigitsEnd at hw
  refine lv_aload_n hx hb dX3_takeDigitsEnd_0 rfl (lv_at hl 0 rfl) ?_
  refine hw_get (v := .int (σ 21 10)) hx hb hts hiX3 hown hK hP (Nat.lt_of_lt_of_le (by decide) hN) (bX_21 _) rfl 10 (by decide) (List.mem_of_getElem? (i := 1) rfl) rfl rfl dX3_takeDigitsEnd_1 ?_
  refine lv_if_eq (tgt := 14) hx hb dX3_takeDigitsEnd_4 (by decide) (fun c1 => ?_) (fun c1 => ?_)
  · have hw := hw.1 c1
    refine lv_aload_n hx hb dX3_takeDigitsEnd_14 rfl (lv_at hl 0 rfl) ?_
    refine hw_get (v := .int (σ 21 11)) hx hb hts hiX3 hown hK hP (Nat.lt_of_lt_of_le (by decide) hN) (bX_21 _) rfl 11 (by decide) (List.mem_of_getElem? (i := 2) rfl) rfl rfl dX3_takeDigitsEnd_15 ?_
    refine lv_iconst (v := 2) hx hb dX3_takeDigitsEnd_18 (by decide) ?_
    refine lv_irem hx hb dX3_takeDigitsEnd_19 (by decide) ?_
    obtain ⟨J33, ehJ33, hw⟩ := hM_x hw
    have hJ33 : ∀ (σ2 : hSt) (H : Heap) (locs : List Loc) (ls : Array Slot), J33 σ2 → va_P D vwCl (hC N ad (bX cy ad) σ2) H → va_S (hA N ad s.heap.size) s.heap H locs → lv_has ls 2 [(0, .ref (ad 21))] → W p l e (headSpec wsX3_takeDigitsEnd ({ frames := 3, cells := 0, slots := 0, locals := 65 } : Room)).room s m ([Value.ref (ad 21), Value.int a1] : List Value).toArray below meth c H locs 0 0 (MQ below (va_Qv (fun u : hSt => Q u) (hE D (fun u : hSt => hC N ad (bX cy ad) u)) (hA N ad s.heap.size)) ([Value.ref (ad 21), Value.int a1] : List Value).toArray s 0 0 (hA N ad s.heap.size)) (F0 m 33 ls []) := by
      intro σ2 H locs ls hw hP hS hl
      rw [ehJ33] at hw
      refine lv_aload_n hx hb dX3_takeDigitsEnd_33 rfl (lv_at hl 0 rfl) ?_
      refine lv_aload_n hx hb dX3_takeDigitsEnd_34 rfl (lv_at hl 0 rfl) ?_
      refine hw_get (v := .int (σ2 21 13)) hx hb hts hiX3 hown hK hP (Nat.lt_of_lt_of_le (by decide) hN) (bX_21 _) rfl 13 (by decide) (List.mem_of_getElem? (i := 3) rfl) rfl rfl dX3_takeDigitsEnd_35 ?_
      refine lv_aload_n hx hb dX3_takeDigitsEnd_38 rfl (lv_at hl 0 rfl) ?_
      refine hw_get (v := .int (σ2 21 4)) hx hb hts hiX3 hown hK hP (Nat.lt_of_lt_of_le (by decide) hN) (bX_21 _) rfl 4 (by decide) (List.mem_of_getElem? (i := 4) rfl) rfl rfl dX3_takeDigitsEnd_39 ?_
      refine hw_ki (va_runS (As := [.int (σ2 21 13), .int (σ2 21 4)]) (rest := [.ref (ad 21)]) ⟨hx, hb, hml, hown, hts⟩ (kc_X6_changeMaking l D cy N ad (bX cy ad) σ2 _ (σ2 21 13) (σ2 21 4) _ hw) (va_cwS 2 hts gX3_takeDigitsEnd_X6_changeMaking rfl rfl rfl (by decide +kernel) ⟨Nat.le_of_ble_eq_true rfl, Nat.le_of_ble_eq_true rfl⟩) (hw_pre hK hN1 hP) rfl rfl hl.1 rfl (lv_room (Nat.le_of_ble_eq_true rfl)) dX3_takeDigitsEnd_42 ⟨Nat.zero_le _, Nat.zero_le _⟩) hS (fun r4 σ3 H locs hw hP hS => ?_)
      obtain ⟨hu_, hw⟩ := hw
      rw [hu_] at hP
      refine hw_kv (va_runV (As := [.int r4]) (rest := []) ⟨hx, hb, hml, hown, hts⟩ (kc_X3_addChange l D cy N hN ad hJ0 σ2 _ r4 _ hw) (cwV 1 hts gX3_takeDigitsEnd_X3_addChange rfl rfl rfl (by decide +kernel) ⟨Nat.le_of_ble_eq_true rfl, Nat.le_of_ble_eq_true rfl⟩) (hw_preV hK hN1 hP (Nat.lt_of_lt_of_le (by decide) hN) (bX_21 _) rfl) rfl rfl hl.1 rfl (lv_room (Nat.le_of_ble_eq_true rfl)) dX3_takeDigitsEnd_45 ⟨Nat.zero_le _, Nat.zero_le _⟩) hS (fun σ5 H locs hw hP hS => ?_)
      refine lv_aload_n hx hb dX3_takeDigitsEnd_48 rfl (lv_at hl 0 rfl) ?_
      refine lv_iconst (v := 3) hx hb dX3_takeDigitsEnd_49 (by decide) ?_
      refine hw_put (x := (3 : Int32)) (j := 6) hx hb hts hiX3 tyX3 tyX3_ok nmX3 hown hK hJ0 hP hS (Nat.lt_of_lt_of_le (by decide) hN) (bX_21 _) rfl (by decide) (List.mem_of_getElem? (i := 5) rfl) rfl rfl rfl rfl (Nat.le_of_ble_eq_true rfl) (by rw [bX_21]; rfl) dX3_takeDigitsEnd_50 (fun H locs hP hS => ?_)
      exact hw_vret hx hb hr hlocks ((hup σ5 21 6 (3 : Int32))) hw hP hS dX3_takeDigitsEnd_53
    refine lv_if_ne (tgt := 33) hx hb dX3_takeDigitsEnd_20 (by decide) (fun c6 => ?_) (fun c6 => ?_)
    · have hw := hw.1 c6
      exact hJ33 _ _ _ _ hw hP hS (lv_sub hl [0] rfl)
    have hw := hw.2 c6
    refine lv_aload_n hx hb dX3_takeDigitsEnd_23 rfl (lv_at hl 0 rfl) ?_
    refine lv_dup hx hb dX3_takeDigitsEnd_24 rfl ?_
    refine hw_get (v := .int (σ 21 13)) hx hb hts hiX3 hown hK hP (Nat.lt_of_lt_of_le (by decide) hN) (bX_21 _) rfl 13 (by decide) (List.mem_of_getElem? (i := 3) rfl) rfl rfl dX3_takeDigitsEnd_25 ?_
    refine lv_iconst (v := 1) hx hb dX3_takeDigitsEnd_28 (by decide) ?_
    refine lv_ior hx hb dX3_takeDigitsEnd_29 ?_
    refine hw_put (x := ((σ 21 13) ||| (1 : Int32))) (j := 13) hx hb hts hiX3 tyX3 tyX3_ok nmX3 hown hK hJ0 hP hS (Nat.lt_of_lt_of_le (by decide) hN) (bX_21 _) rfl (by decide) (List.mem_of_getElem? (i := 3) rfl) rfl rfl rfl rfl (Nat.le_of_ble_eq_true rfl) (by rw [bX_21]; rfl) dX3_takeDigitsEnd_30 (fun H locs hP hS => ?_)
    exact hJ33 _ _ _ _ hw hP hS (lv_sub hl [0] rfl)
  have hw := hw.2 c1
  refine lv_aload_n hx hb dX3_takeDigitsEnd_7 rfl (lv_at hl 0 rfl) ?_
  refine lv_iconst (v := 2) hx hb dX3_takeDigitsEnd_8 (by decide) ?_
  refine lv_iload_n hx hb dX3_takeDigitsEnd_9 rfl (lv_at hl 1 rfl) ?_
  refine hw_kv (va_runU (As := [.int (2 : Int32), .int a1]) (rest := []) ⟨hx, hb, hml, hown, hts⟩ (kc_X10_refuse_r21 l D cy N hN ad hJ0 σ _ (2 : Int32) a1 _ hw) (va_cwU 2 hts gX3_takeDigitsEnd_X10_refuse_u73X3 rfl rfl rfl rfl (by decide +kernel) ⟨Nat.le_of_ble_eq_true rfl, Nat.le_of_ble_eq_true rfl⟩) (hw_preV hK hN1 hP (Nat.lt_of_lt_of_le (by decide) hN) (bX_21 _) rfl) rfl rfl hl.1 rfl (lv_room (Nat.le_of_ble_eq_true rfl)) dX3_takeDigitsEnd_10 ⟨Nat.zero_le _, Nat.zero_le _⟩) hS (fun σ7 H locs hw hP hS => ?_)
  exact hw_vret hx hb hr hlocks (σ7) hw hP hS dX3_takeDigitsEnd_13
set_option maxHeartbeats 4000000 in
set_option maxRecDepth 100000 in
theorem kc_X3_takeCross (l : Launch) (D : va_G) (cy : Nat → ClassId) (N : Nat) (hN : 38 ≤ N) (ad : Nat → Nat) (hJ0 : hJ N ad) (σ : hSt) (sz : Nat) (a1 : Int32) (Q : hSt → Prop) (hw : wp_X3_takeCross a1 σ Q) : Met l yX3_takeCross wsX3_takeCross ({ frames := 3, cells := 0, slots := 0, locals := 65 } : Room) (va_Pc [.ref (ad 21), .int a1] (hB D cy (hC N ad (bX cy ad) σ) sz)) (va_Qv (fun u : hSt => Q u) (hE D (fun u : hSt => hC N ad (bX cy ad) u)) (hA N ad sz)) 0 0 (hA N ad sz) := by
  refine Met.ofW (cc := cX3_takeCross) (maxL := 2) (ret := none) (by decide) rfl ?_
  intro p e s m args below meth c s₁ B hml hv
  obtain ⟨rfl, hsz, hP, hK, hN1⟩ := hv
  have hx := B.exec
  have hb := B.bytes
  have hr := B.returns
  have hts := atoms_spec (ws := wsX3_takeCross) B.pre
  have hown : s.vm.findClass RX3 = some m.cls := findClass_of_methodNamed B.named
  have hlocks := B.notSynchronized
  subst hsz
  have hS : va_S (hA N ad s.heap.size) s.heap s.heap [] := va_S.rf
  have hiX3 : ∀ w ∈ wsX30, w ∈ wsX3_takeCross := fun _ h => List.mem_cons_of_mem _ (List.mem_append_left _ (List.mem_append_left _ (List.mem_append_right _ h)))
  have hl := lv_entry ([.ref (ad 21), .int a1]) (n := 2) (Nat.le_of_ble_eq_true rfl)
  rw [lg_entry_eq]
  generalize (lg_sl ([.ref (ad 21), .int a1]) ++ List.replicate (2 - (lg_sl ([.ref (ad 21), .int a1])).length) Slot.unset).toArray = ls at hl ⊢
  have hl : lv_has ls 2 [(0, .ref (ad 21)), (1, .int a1)] := hl
  unfold wp_X3_takeCross at hw
  refine lv_aload_n hx hb dX3_takeCross_0 rfl (lv_at hl 0 rfl) ?_
  refine hw_ki (va_runV (As := []) (rest := []) ⟨hx, hb, hml, hown, hts⟩ (kc_X3_changeEnded l D cy N hN ad hJ0 σ _  _ hw) (cwV 0 hts gX3_takeCross_X3_changeEnded rfl rfl rfl (by decide +kernel) ⟨Nat.le_of_ble_eq_true rfl, Nat.le_of_ble_eq_true rfl⟩) (hw_preV hK hN1 hP (Nat.lt_of_lt_of_le (by decide) hN) (bX_21 _) rfl) rfl rfl hl.1 rfl (lv_room (Nat.le_of_ble_eq_true rfl)) dX3_takeCross_1 ⟨Nat.zero_le _, Nat.zero_le _⟩) hS (fun r2 σ1 H locs hw hP hS => ?_)
  obtain ⟨hu_, hw⟩ := hw
  rw [hu_] at hP
  obtain ⟨J23, ehJ23, hw⟩ := hM_x hw
  have hJ23 : ∀ (H : Heap) (locs : List Loc) (ls : Array Slot), J23 → va_P D vwCl (hC N ad (bX cy ad) σ) H → va_S (hA N ad s.heap.size) s.heap H locs → lv_has ls 2 [(0, .ref (ad 21)), (1, .int a1)] → W p l e (headSpec wsX3_takeCross ({ frames := 3, cells := 0, slots := 0, locals := 65 } : Room)).room s m ([Value.ref (ad 21), Value.int a1] : List Value).toArray below meth c H locs 0 0 (MQ below (va_Qv (fun u : hSt => Q u) (hE D (fun u : hSt => hC N ad (bX cy ad) u)) (hA N ad s.heap.size)) ([Value.ref (ad 21), Value.int a1] : List Value).toArray s 0 0 (hA N ad s.heap.size)) (F0 m 23 ls []) := by
    intro H locs ls hw hP hS hl
    rw [ehJ23] at hw
    refine lv_aload_n hx hb dX3_takeCross_23 rfl (lv_at hl 0 rfl) ?_
    refine hw_get (v := .int (σ 21 4)) hx hb hts hiX3 hown hK hP (Nat.lt_of_lt_of_le (by decide) hN) (bX_21 _) rfl 4 (by decide) (List.mem_of_getElem? (i := 2) rfl) rfl rfl dX3_takeCross_24 ?_
    refine lv_iconst (v := 2) hx hb dX3_takeCross_27 (by decide) ?_
    refine lv_irem hx hb dX3_takeCross_28 (by decide) ?_
    refine lv_if_eq (tgt := 41) hx hb dX3_takeCross_29 (by decide) (fun c3 => ?_) (fun c3 => ?_)
    · have hw := hw.1 c3
      refine lv_aload_n hx hb dX3_takeCross_41 rfl (lv_at hl 0 rfl) ?_
      refine lv_iconst (v := 0) hx hb dX3_takeCross_42 (by decide) ?_
      refine lv_aload_n hx hb dX3_takeCross_43 rfl (lv_at hl 0 rfl) ?_
      refine hw_get (v := .int (σ 21 4)) hx hb hts hiX3 hown hK hP (Nat.lt_of_lt_of_le (by decide) hN) (bX_21 _) rfl 4 (by decide) (List.mem_of_getElem? (i := 2) rfl) rfl rfl dX3_takeCross_44 ?_
      refine hw_ki (va_runS (As := [.int (0 : Int32), .int (σ 21 4)]) (rest := [.ref (ad 21)]) ⟨hx, hb, hml, hown, hts⟩ (kc_X6_changeMaking l D cy N ad (bX cy ad) σ _ (0 : Int32) (σ 21 4) _ hw) (va_cwS 2 hts gX3_takeCross_X6_changeMaking rfl rfl rfl (by decide +kernel) ⟨Nat.le_of_ble_eq_true rfl, Nat.le_of_ble_eq_true rfl⟩) (hw_pre hK hN1 hP) rfl rfl hl.1 rfl (lv_room (Nat.le_of_ble_eq_true rfl)) dX3_takeCross_47 ⟨Nat.zero_le _, Nat.zero_le _⟩) hS (fun r5 σ4 H locs hw hP hS => ?_)
      obtain ⟨hu_, hw⟩ := hw
      rw [hu_] at hP
      refine hw_kv (va_runV (As := [.int r5]) (rest := []) ⟨hx, hb, hml, hown, hts⟩ (kc_X3_addChange l D cy N hN ad hJ0 σ _ r5 _ hw) (cwV 1 hts gX3_takeCross_X3_addChange rfl rfl rfl (by decide +kernel) ⟨Nat.le_of_ble_eq_true rfl, Nat.le_of_ble_eq_true rfl⟩) (hw_preV hK hN1 hP (Nat.lt_of_lt_of_le (by decide) hN) (bX_21 _) rfl) rfl rfl hl.1 rfl (lv_room (Nat.le_of_ble_eq_true rfl)) dX3_takeCross_50 ⟨Nat.zero_le _, Nat.zero_le _⟩) hS (fun σ6 H locs hw hP hS => ?_)
      refine lv_aload_n hx hb dX3_takeCross_53 rfl (lv_at hl 0 rfl) ?_
      refine lv_iconst (v := 2) hx hb dX3_takeCross_54 (by decide) ?_
      refine hw_put (x := (2 : Int32)) (j := 6) hx hb hts hiX3 tyX3 tyX3_ok nmX3 hown hK hJ0 hP hS (Nat.lt_of_lt_of_le (by decide) hN) (bX_21 _) rfl (by decide) (List.mem_of_getElem? (i := 3) rfl) rfl rfl rfl rfl (Nat.le_of_ble_eq_true rfl) (by rw [bX_21]; rfl) dX3_takeCross_55 (fun H locs hP hS => ?_)
      exact hw_vret hx hb hr hlocks ((hup σ6 21 6 (2 : Int32))) hw hP hS dX3_takeCross_58
    have hw := hw.2 c3
    refine lv_aload_n hx hb dX3_takeCross_32 rfl (lv_at hl 0 rfl) ?_
    refine lv_iconst (v := 2) hx hb dX3_takeCross_33 (by decide) ?_
    refine lv_iload_n hx hb dX3_takeCross_34 rfl (lv_at hl 1 rfl) ?_
    refine hw_kv (va_runU (As := [.int (2 : Int32), .int a1]) (rest := []) ⟨hx, hb, hml, hown, hts⟩ (kc_X10_refuse_r21 l D cy N hN ad hJ0 σ _ (2 : Int32) a1 _ hw) (va_cwU 2 hts gX3_takeCross_X10_refuse_u73X3 rfl rfl rfl rfl (by decide +kernel) ⟨Nat.le_of_ble_eq_true rfl, Nat.le_of_ble_eq_true rfl⟩) (hw_preV hK hN1 hP (Nat.lt_of_lt_of_le (by decide) hN) (bX_21 _) rfl) rfl rfl hl.1 rfl (lv_room (Nat.le_of_ble_eq_true rfl)) dX3_takeCross_35 ⟨Nat.zero_le _, Nat.zero_le _⟩) hS (fun σ7 H locs hw hP hS => ?_)
    refine lv_goto (tgt := 58) hx hb dX3_takeCross_38 (by decide) ?_
    exact hw_vret hx hb hr hlocks (σ7) hw hP hS dX3_takeCross_58
  refine lv_if_eq (tgt := 23) hx hb dX3_takeCross_4 (by decide) (fun c8 => ?_) (fun c8 => ?_)
  · have hw := hw.1 c8
    exact hJ23  _ _ _ hw hP hS (lv_sub hl [0, 1] rfl)
  have hw := hw.2 c8
  refine lv_aload_n hx hb dX3_takeCross_7 rfl (lv_at hl 0 rfl) ?_
  refine hw_get (v := .int (σ 21 5)) hx hb hts hiX3 hown hK hP (Nat.lt_of_lt_of_le (by decide) hN) (bX_21 _) rfl 5 (by decide) (List.mem_of_getElem? (i := 1) rfl) rfl rfl dX3_takeCross_8 ?_
  refine lv_if_eq (tgt := 23) hx hb dX3_takeCross_11 (by decide) (fun c9 => ?_) (fun c9 => ?_)
  · have hw := hw.1 c9
    exact hJ23  _ _ _ hw hP hS (lv_sub hl [0, 1] rfl)
  have hw := hw.2 c9
  refine lv_aload_n hx hb dX3_takeCross_14 rfl (lv_at hl 0 rfl) ?_
  refine lv_iconst (v := 1) hx hb dX3_takeCross_15 (by decide) ?_
  refine lv_iload_n hx hb dX3_takeCross_16 rfl (lv_at hl 1 rfl) ?_
  refine hw_kv (va_runU (As := [.int (1 : Int32), .int a1]) (rest := []) ⟨hx, hb, hml, hown, hts⟩ (kc_X10_refuse_r21 l D cy N hN ad hJ0 σ _ (1 : Int32) a1 _ hw) (va_cwU 2 hts gX3_takeCross_X10_refuse_u73X3 rfl rfl rfl rfl (by decide +kernel) ⟨Nat.le_of_ble_eq_true rfl, Nat.le_of_ble_eq_true rfl⟩) (hw_preV hK hN1 hP (Nat.lt_of_lt_of_le (by decide) hN) (bX_21 _) rfl) rfl rfl hl.1 rfl (lv_room (Nat.le_of_ble_eq_true rfl)) dX3_takeCross_17 ⟨Nat.zero_le _, Nat.zero_le _⟩) hS (fun σ10 H locs hw hP hS => ?_)
  refine lv_goto (tgt := 58) hx hb dX3_takeCross_20 (by decide) ?_
  exact hw_vret hx hb hr hlocks (σ10) hw hP hS dX3_takeCross_58
set_option maxHeartbeats 4000000 in
set_option maxRecDepth 100000 in
theorem kc_X3_takeMark (l : Launch) (D : va_G) (cy : Nat → ClassId) (N : Nat) (hN : 38 ≤ N) (ad : Nat → Nat) (hJ0 : hJ N ad) (σ : hSt) (sz : Nat) (a1 : Int32) (a2 : Int32) (Q : hSt → Prop) (hw : wp_X3_takeMark a1 a2 σ Q) : Met l yX3_takeMark wsX3_takeMark ({ frames := 1, cells := 0, slots := 0, locals := 22 } : Room) (va_Pc [.ref (ad 21), .int a1, .int a2] (hB D cy (hC N ad (bX cy ad) σ) sz)) (va_Qv (fun u : hSt => Q u) (hE D (fun u : hSt => hC N ad (bX cy ad) u)) (hA N ad sz)) 0 0 (hA N ad sz) := by
  refine Met.ofW (cc := cX3_takeMark) (maxL := 3) (ret := none) (by decide) rfl ?_
  intro p e s m args below meth c s₁ B hml hv
  obtain ⟨rfl, hsz, hP, hK, hN1⟩ := hv
  have hx := B.exec
  have hb := B.bytes
  have hr := B.returns
  have hts := atoms_spec (ws := wsX3_takeMark) B.pre
  have hown : s.vm.findClass RX3 = some m.cls := findClass_of_methodNamed B.named
  have hlocks := B.notSynchronized
  subst hsz
  have hS : va_S (hA N ad s.heap.size) s.heap s.heap [] := va_S.rf
  have hiX3 : ∀ w ∈ wsX30, w ∈ wsX3_takeMark := fun _ h => List.mem_cons_of_mem _ (List.mem_append_left _ (List.mem_append_right _ h))
  have hl := lv_entry ([.ref (ad 21), .int a1, .int a2]) (n := 3) (Nat.le_of_ble_eq_true rfl)
  rw [lg_entry_eq]
  generalize (lg_sl ([.ref (ad 21), .int a1, .int a2]) ++ List.replicate (3 - (lg_sl ([.ref (ad 21), .int a1, .int a2])).length) Slot.unset).toArray = ls at hl ⊢
  have hl : lv_has ls 3 [(0, .ref (ad 21)), (1, .int a1), (2, .int a2)] := hl
  unfold wp_X3_takeMark at hw
  refine lv_aload_n hx hb dX3_takeMark_0 rfl (lv_at hl 0 rfl) ?_
  refine hw_get (v := .int (σ 21 6)) hx hb hts hiX3 hown hK hP (Nat.lt_of_lt_of_le (by decide) hN) (bX_21 _) rfl 6 (by decide) (List.mem_of_getElem? (i := 1) rfl) rfl rfl dX3_takeMark_1 ?_
  refine lv_if_eq (tgt := 14) hx hb dX3_takeMark_4 (by decide) (fun c1 => ?_) (fun c1 => ?_)
  · have hw := hw.1 c1
    refine lv_aload_n hx hb dX3_takeMark_14 rfl (lv_at hl 0 rfl) ?_
    refine lv_iload_n hx hb dX3_takeMark_15 rfl (lv_at hl 1 rfl) ?_
    obtain ⟨hb2, hw⟩ := hw
    refine hw_put (x := a1) (j := 9) hx hb hts hiX3 tyX3 tyX3_ok nmX3 hown hK hJ0 hP hS (Nat.lt_of_lt_of_le (by decide) hN) (bX_21 _) rfl (by decide) (List.mem_of_getElem? (i := 2) rfl) rfl rfl (hbo_n hb2) (hbo_f hb2) (Nat.le_of_ble_eq_true rfl) (by rw [bX_21]; rfl) dX3_takeMark_16 (fun H locs hP hS => ?_)
    refine lv_aload_n hx hb dX3_takeMark_19 rfl (lv_at hl 0 rfl) ?_
    refine lv_iconst (v := 1) hx hb dX3_takeMark_20 (by decide) ?_
    refine hw_put (x := (1 : Int32)) (j := 6) hx hb hts hiX3 tyX3 tyX3_ok nmX3 hown hK hJ0 hP hS (Nat.lt_of_lt_of_le (by decide) hN) (bX_21 _) rfl (by decide) (List.mem_of_getElem? (i := 1) rfl) rfl rfl rfl rfl (Nat.le_of_ble_eq_true rfl) (by rw [bX_21]; rfl) dX3_takeMark_21 (fun H locs hP hS => ?_)
    exact hw_vret hx hb hr hlocks ((hup (hup σ 21 9 a1) 21 6 (1 : Int32))) hw hP hS dX3_takeMark_24
  have hw := hw.2 c1
  refine lv_aload_n hx hb dX3_takeMark_7 rfl (lv_at hl 0 rfl) ?_
  refine lv_iconst (v := 1) hx hb dX3_takeMark_8 (by decide) ?_
  refine lv_iload_n hx hb dX3_takeMark_9 rfl (lv_at hl 2 rfl) ?_
  refine hw_kv (va_runU (As := [.int (1 : Int32), .int a2]) (rest := []) ⟨hx, hb, hml, hown, hts⟩ (kc_X10_refuse_r21 l D cy N hN ad hJ0 σ _ (1 : Int32) a2 _ hw) (va_cwU 2 hts gX3_takeMark_X10_refuse_u73X3 rfl rfl rfl rfl (by decide +kernel) ⟨Nat.le_of_ble_eq_true rfl, Nat.le_of_ble_eq_true rfl⟩) (hw_preV hK hN1 hP (Nat.lt_of_lt_of_le (by decide) hN) (bX_21 _) rfl) rfl rfl hl.1 rfl (lv_room (Nat.le_of_ble_eq_true rfl)) dX3_takeMark_10 ⟨Nat.zero_le _, Nat.zero_le _⟩) hS (fun σ3 H locs hw hP hS => ?_)
  exact hw_vret hx hb hr hlocks (σ3) hw hP hS dX3_takeMark_13
set_option maxHeartbeats 4000000 in
set_option maxRecDepth 100000 in
theorem kc_X3_takeDot (l : Launch) (D : va_G) (cy : Nat → ClassId) (N : Nat) (hN : 38 ≤ N) (ad : Nat → Nat) (hJ0 : hJ N ad) (σ : hSt) (sz : Nat) (a1 : Int32) (Q : hSt → Prop) (hw : wp_X3_takeDot a1 σ Q) : Met l yX3_takeDot wsX3_takeDot ({ frames := 1, cells := 0, slots := 0, locals := 22 } : Room) (va_Pc [.ref (ad 21), .int a1] (hB D cy (hC N ad (bX cy ad) σ) sz)) (va_Qv (fun u : hSt => Q u) (hE D (fun u : hSt => hC N ad (bX cy ad) u)) (hA N ad sz)) 0 0 (hA N ad sz) := by
  refine Met.ofW (cc := cX3_takeDot) (maxL := 2) (ret := none) (by decide) rfl ?_
  intro p e s m args below meth c s₁ B hml hv
  obtain ⟨rfl, hsz, hP, hK, hN1⟩ := hv
  have hx := B.exec
  have hb := B.bytes
  have hr := B.returns
  have hts := atoms_spec (ws := wsX3_takeDot) B.pre
  have hown : s.vm.findClass RX3 = some m.cls := findClass_of_methodNamed B.named
  have hlocks := B.notSynchronized
  subst hsz
  have hS : va_S (hA N ad s.heap.size) s.heap s.heap [] := va_S.rf
  have hiX3 : ∀ w ∈ wsX30, w ∈ wsX3_takeDot := fun _ h => List.mem_cons_of_mem _ (List.mem_append_left _ (List.mem_append_right _ h))
  have hl := lv_entry ([.ref (ad 21), .int a1]) (n := 2) (Nat.le_of_ble_eq_true rfl)
  rw [lg_entry_eq]
  generalize (lg_sl ([.ref (ad 21), .int a1]) ++ List.replicate (2 - (lg_sl ([.ref (ad 21), .int a1])).length) Slot.unset).toArray = ls at hl ⊢
  have hl : lv_has ls 2 [(0, .ref (ad 21)), (1, .int a1)] := hl
  unfold wp_X3_takeDot at hw
  refine lv_aload_n hx hb dX3_takeDot_0 rfl (lv_at hl 0 rfl) ?_
  refine hw_get (v := .int (σ 21 5)) hx hb hts hiX3 hown hK hP (Nat.lt_of_lt_of_le (by decide) hN) (bX_21 _) rfl 5 (by decide) (List.mem_of_getElem? (i := 1) rfl) rfl rfl dX3_takeDot_1 ?_
  refine lv_if_ne (tgt := 14) hx hb dX3_takeDot_4 (by decide) (fun c1 => ?_) (fun c1 => ?_)
  · have hw := hw.1 c1
    refine lv_aload_n hx hb dX3_takeDot_14 rfl (lv_at hl 0 rfl) ?_
    refine lv_iconst (v := 1) hx hb dX3_takeDot_15 (by decide) ?_
    refine lv_iload_n hx hb dX3_takeDot_16 rfl (lv_at hl 1 rfl) ?_
    refine hw_kv (va_runU (As := [.int (1 : Int32), .int a1]) (rest := []) ⟨hx, hb, hml, hown, hts⟩ (kc_X10_refuse_r21 l D cy N hN ad hJ0 σ _ (1 : Int32) a1 _ hw) (va_cwU 2 hts gX3_takeDot_X10_refuse_u73X3 rfl rfl rfl rfl (by decide +kernel) ⟨Nat.le_of_ble_eq_true rfl, Nat.le_of_ble_eq_true rfl⟩) (hw_preV hK hN1 hP (Nat.lt_of_lt_of_le (by decide) hN) (bX_21 _) rfl) rfl rfl hl.1 rfl (lv_room (Nat.le_of_ble_eq_true rfl)) dX3_takeDot_17 ⟨Nat.zero_le _, Nat.zero_le _⟩) hS (fun σ2 H locs hw hP hS => ?_)
    exact hw_vret hx hb hr hlocks (σ2) hw hP hS dX3_takeDot_20
  have hw := hw.2 c1
  refine lv_aload_n hx hb dX3_takeDot_7 rfl (lv_at hl 0 rfl) ?_
  refine hw_ki (va_runV (As := []) (rest := []) ⟨hx, hb, hml, hown, hts⟩ (kc_X3_changeEnded l D cy N hN ad hJ0 σ _  _ hw) (cwV 0 hts gX3_takeDot_X3_changeEnded rfl rfl rfl (by decide +kernel) ⟨Nat.le_of_ble_eq_true rfl, Nat.le_of_ble_eq_true rfl⟩) (hw_preV hK hN1 hP (Nat.lt_of_lt_of_le (by decide) hN) (bX_21 _) rfl) rfl rfl hl.1 rfl (lv_room (Nat.le_of_ble_eq_true rfl)) dX3_takeDot_8 ⟨Nat.zero_le _, Nat.zero_le _⟩) hS (fun r4 σ3 H locs hw hP hS => ?_)
  obtain ⟨hu_, hw⟩ := hw
  rw [hu_] at hP
  refine lv_if_ne (tgt := 21) hx hb dX3_takeDot_11 (by decide) (fun c5 => ?_) (fun c5 => ?_)
  · have hw := hw.1 c5
    refine lv_aload_n hx hb dX3_takeDot_21 rfl (lv_at hl 0 rfl) ?_
    refine lv_iconst (v := 1) hx hb dX3_takeDot_22 (by decide) ?_
    refine hw_put (x := (1 : Int32)) (j := 6) hx hb hts hiX3 tyX3 tyX3_ok nmX3 hown hK hJ0 hP hS (Nat.lt_of_lt_of_le (by decide) hN) (bX_21 _) rfl (by decide) (List.mem_of_getElem? (i := 2) rfl) rfl rfl rfl rfl (Nat.le_of_ble_eq_true rfl) (by rw [bX_21]; rfl) dX3_takeDot_23 (fun H locs hP hS => ?_)
    exact hw_vret hx hb hr hlocks ((hup σ 21 6 (1 : Int32))) hw hP hS dX3_takeDot_26
  have hw := hw.2 c5
  refine lv_aload_n hx hb dX3_takeDot_14 rfl (lv_at hl 0 rfl) ?_
  refine lv_iconst (v := 1) hx hb dX3_takeDot_15 (by decide) ?_
  refine lv_iload_n hx hb dX3_takeDot_16 rfl (lv_at hl 1 rfl) ?_
  refine hw_kv (va_runU (As := [.int (1 : Int32), .int a1]) (rest := []) ⟨hx, hb, hml, hown, hts⟩ (kc_X10_refuse_r21 l D cy N hN ad hJ0 σ _ (1 : Int32) a1 _ hw) (va_cwU 2 hts gX3_takeDot_X10_refuse_u73X3 rfl rfl rfl rfl (by decide +kernel) ⟨Nat.le_of_ble_eq_true rfl, Nat.le_of_ble_eq_true rfl⟩) (hw_preV hK hN1 hP (Nat.lt_of_lt_of_le (by decide) hN) (bX_21 _) rfl) rfl rfl hl.1 rfl (lv_room (Nat.le_of_ble_eq_true rfl)) dX3_takeDot_17 ⟨Nat.zero_le _, Nat.zero_le _⟩) hS (fun σ6 H locs hw hP hS => ?_)
  exact hw_vret hx hb hr hlocks (σ6) hw hP hS dX3_takeDot_20
set_option maxHeartbeats 4000000 in
set_option maxRecDepth 100000 in
theorem kc_X11_cell (l : Launch) (D : va_G) (cy : Nat → ClassId) (N : Nat) (hN : 38 ≤ N) (ad : Nat → Nat) (hJ0 : hJ N ad) (σ : hSt) (sz : Nat) (k0 : Nat) (hk0 : hAi k0) (a1 : Int32) (Q : Int32 → Prop) (hw : wp_X11_cell k0 a1 σ Q) : Met l yX11_cell wsX11_cell ({ frames := 0, cells := 0, slots := 0, locals := 0 } : Room) (va_Pc [.ref (ad k0), .int a1] (hB D cy (hC N ad (bX cy ad) σ) sz)) (va_Qi (fun (r : Int32) (u : hSt) => u = σ ∧ Q r) (hE D (fun u : hSt => hC N ad (bX cy ad) u)) (hA N ad sz)) 0 0 (hA N ad sz) := by
  refine Met.ofW (cc := cX11_cell) (maxL := 2) (ret := (some .int)) (by decide) rfl ?_
  intro p e s m args below meth c s₁ B hml hv
  obtain ⟨rfl, hsz, hP, hK, hN1⟩ := hv
  have hx := B.exec
  have hb := B.bytes
  have hr := B.returns
  have hts := atoms_spec (ws := wsX11_cell) B.pre
  have hown : s.vm.findClass RX11 = some m.cls := findClass_of_methodNamed B.named
  have hlocks := B.notSynchronized
  subst hsz
  have hS : va_S (hA N ad s.heap.size) s.heap s.heap [] := va_S.rf
  have hl := lv_entry ([.ref (ad k0), .int a1]) (n := 2) (Nat.le_of_ble_eq_true rfl)
  rw [lg_entry_eq]
  generalize (lg_sl ([.ref (ad k0), .int a1]) ++ List.replicate (2 - (lg_sl ([.ref (ad k0), .int a1])).length) Slot.unset).toArray = ls at hl ⊢
  have hl : lv_has ls 2 [(0, .ref (ad k0)), (1, .int a1)] := hl
  unfold wp_X11_cell at hw
  refine lv_iload_n hx hb dX11_cell_0 rfl (lv_at hl 1 rfl) ?_
  refine lv_if_lt (tgt := 16) hx hb dX11_cell_1 (by decide) (fun c1 => ?_) (fun c1 => ?_)
  · have hw := hw.1 c1
    refine lv_iconst (v := 0) hx hb dX11_cell_16 (by decide) ?_
    exact hw_iret hx hb hr hlocks (σ) ⟨rfl, hw⟩ hP hS dX11_cell_17
  have hw := hw.2 c1
  refine lv_iload_n hx hb dX11_cell_4 rfl (lv_at hl 1 rfl) ?_
  refine lv_aload_n hx hb dX11_cell_5 rfl (lv_at hl 0 rfl) ?_
  refine hw_alen hx hb hK hP (hAi_lt hk0 hN) 0 (bX_ai hk0 _) rfl dX11_cell_6 ?_
  refine lv_icmp_ge (tgt := 16) hx hb dX11_cell_7 (by decide) (fun c2 => ?_) (fun c2 => ?_)
  · have hw := hw.1 c2
    refine lv_iconst (v := 0) hx hb dX11_cell_16 (by decide) ?_
    exact hw_iret hx hb hr hlocks (σ) ⟨rfl, hw⟩ hP hS dX11_cell_17
  have hw := hw.2 c2
  refine lv_aload_n hx hb dX11_cell_10 rfl (lv_at hl 0 rfl) ?_
  refine lv_iload_n hx hb dX11_cell_11 rfl (lv_at hl 1 rfl) ?_
  obtain ⟨hi3, hw⟩ := hw
  refine hw_iald hx hb hK hP (hAi_lt hk0 hN) (bX_ai hk0 _) hi3 dX11_cell_12 ?_
  refine lv_goto (tgt := 17) hx hb dX11_cell_13 (by decide) ?_
  exact hw_iret hx hb hr hlocks (σ) ⟨rfl, hw⟩ hP hS dX11_cell_17
set_option maxHeartbeats 4000000 in
set_option maxRecDepth 100000 in
theorem kc_X2_changeAt (l : Launch) (D : va_G) (cy : Nat → ClassId) (N : Nat) (hN : 38 ≤ N) (ad : Nat → Nat) (hJ0 : hJ N ad) (σ : hSt) (sz : Nat) (k0 : Nat) (hk0 : hMe k0) (a1 : Int32) (Q : Int32 → Prop) (hw : wp_X2_changeAt k0 a1 σ Q) : Met l yX2_changeAt wsX2_changeAt ({ frames := 1, cells := 0, slots := 0, locals := 21 } : Room) (va_Pc [.ref (ad k0), .int a1] (hB D cy (hC N ad (bX cy ad) σ) sz)) (va_Qi (fun (r : Int32) (u : hSt) => u = σ ∧ Q r) (hE D (fun u : hSt => hC N ad (bX cy ad) u)) (hA N ad sz)) 0 0 (hA N ad sz) := by
  refine Met.ofW (cc := cX2_changeAt) (maxL := 2) (ret := (some .int)) (by decide) rfl ?_
  intro p e s m args below meth c s₁ B hml hv
  obtain ⟨rfl, hsz, hP, hK, hN1⟩ := hv
  have hx := B.exec
  have hb := B.bytes
  have hr := B.returns
  have hts := atoms_spec (ws := wsX2_changeAt) B.pre
  have hown : s.vm.findClass RX2 = some m.cls := findClass_of_methodNamed B.named
  have hlocks := B.notSynchronized
  subst hsz
  have hS : va_S (hA N ad s.heap.size) s.heap s.heap [] := va_S.rf
  have hiX2 : ∀ w ∈ wsX20, w ∈ wsX2_changeAt := fun _ h => List.mem_cons_of_mem _ (List.mem_append_right _ h)
  have hl := lv_entry ([.ref (ad k0), .int a1]) (n := 2) (Nat.le_of_ble_eq_true rfl)
  rw [lg_entry_eq]
  generalize (lg_sl ([.ref (ad k0), .int a1]) ++ List.replicate (2 - (lg_sl ([.ref (ad k0), .int a1])).length) Slot.unset).toArray = ls at hl ⊢
  have hl : lv_has ls 2 [(0, .ref (ad k0)), (1, .int a1)] := hl
  unfold wp_X2_changeAt at hw
  refine lv_aload_n hx hb dX2_changeAt_0 rfl (lv_at hl 0 rfl) ?_
  refine hw_get (v := .ref (ad (k0 + 1))) hx hb hts hiX2 hown hK hP (hMe_lt hk0 hN) (bX_me hk0 _) rfl 0 (by decide) (List.mem_of_getElem? (i := 1) rfl) rfl rfl dX2_changeAt_1 ?_
  refine lv_iload_n hx hb dX2_changeAt_4 rfl (lv_at hl 1 rfl) ?_
  refine hw_ki (va_runSN (As := [.ref (ad (k0 + 1)), .int a1]) (rest := []) ⟨hx, hb, hml, hown, hts⟩ (kc_X11_cell l D cy N hN ad hJ0 σ _ (k0 + 1) (hAi_me hk0) a1 _ hw) ⟨va_cnB 2 hts gX2_changeAt_X11_cell_n37 rfl rfl rfl (hN1.at 3 rfl) (hts (.initialized RX11) (List.mem_of_getElem? (i := 3) rfl)) (by decide +kernel) ⟨Nat.le_of_ble_eq_true rfl, Nat.le_of_ble_eq_true rfl⟩, hts (.static yX11_cell) (List.mem_of_getElem? (i := 2) rfl), trivial⟩ (hw_pre hK hN1 hP) rfl rfl hl.1 rfl (lv_room (Nat.le_of_ble_eq_true rfl)) dX2_changeAt_5 ⟨Nat.zero_le _, Nat.zero_le _⟩) hS (fun r2 σ1 H locs hw hP hS => ?_)
  obtain ⟨hu_, hw⟩ := hw
  rw [hu_] at hP
  exact hw_iret hx hb hr hlocks (σ) ⟨rfl, hw⟩ hP hS dX2_changeAt_8
set_option maxHeartbeats 4000000 in
set_option maxRecDepth 100000 in
theorem kc_X3_closeBlock (l : Launch) (D : va_G) (cy : Nat → ClassId) (N : Nat) (hN : 38 ≤ N) (ad : Nat → Nat) (hJ0 : hJ N ad) (σ : hSt) (sz : Nat) (a1 : Int32) (Q : hSt → Prop) (hw : wp_X3_closeBlock a1 σ Q) : Met l yX3_closeBlock wsX3_closeBlock ({ frames := 2, cells := 0, slots := 0, locals := 44 } : Room) (va_Pc [.ref (ad 21), .int a1] (hB D cy (hC N ad (bX cy ad) σ) sz)) (va_Qv (fun u : hSt => Q u) (hE D (fun u : hSt => hC N ad (bX cy ad) u)) (hA N ad sz)) 0 0 (hA N ad sz) := by
  refine Met.ofW (cc := cX3_closeBlock) (maxL := 4) (ret := none) (by decide) rfl ?_
  intro p e s m args below meth c s₁ B hml hv
  obtain ⟨rfl, hsz, hP, hK, hN1⟩ := hv
  have hx := B.exec
  have hb := B.bytes
  have hr := B.returns
  have hts := atoms_spec (ws := wsX3_closeBlock) B.pre
  have hown : s.vm.findClass RX3 = some m.cls := findClass_of_methodNamed B.named
  have hlocks := B.notSynchronized
  subst hsz
  have hS : va_S (hA N ad s.heap.size) s.heap s.heap [] := va_S.rf
  have hiX3 : ∀ w ∈ wsX30, w ∈ wsX3_closeBlock := fun _ h => List.mem_cons_of_mem _ (List.mem_append_left _ (List.mem_append_left _ (List.mem_append_right _ h)))
  have hl := lv_entry ([.ref (ad 21), .int a1]) (n := 4) (Nat.le_of_ble_eq_true rfl)
  rw [lg_entry_eq]
  generalize (lg_sl ([.ref (ad 21), .int a1]) ++ List.replicate (4 - (lg_sl ([.ref (ad 21), .int a1])).length) Slot.unset).toArray = ls at hl ⊢
  have hl : lv_has ls 4 [(0, .ref (ad 21)), (1, .int a1)] := hl
  unfold wp_X3_closeBlock at hw
  refine lv_aload_n hx hb dX3_closeBlock_0 rfl (lv_at hl 0 rfl) ?_
  refine hw_get (v := .int (σ 21 9)) hx hb hts hiX3 hown hK hP (Nat.lt_of_lt_of_le (by decide) hN) (bX_21 _) rfl 9 (by decide) (List.mem_of_getElem? (i := 1) rfl) rfl rfl dX3_closeBlock_1 ?_
  obtain ⟨J22, ehJ22, hw⟩ := hM_x hw
  have hJ22 : ∀ (z1 : Int32) (H : Heap) (locs : List Loc) (ls : Array Slot), J22 z1 → va_P D vwCl (hC N ad (bX cy ad) σ) H → va_S (hA N ad s.heap.size) s.heap H locs → lv_has ls 4 [(0, .ref (ad 21)), (1, .int a1)] → W p l e (headSpec wsX3_closeBlock ({ frames := 2, cells := 0, slots := 0, locals := 44 } : Room)).room s m ([Value.ref (ad 21), Value.int a1] : List Value).toArray below meth c H locs 0 0 (MQ below (va_Qv (fun u : hSt => Q u) (hE D (fun u : hSt => hC N ad (bX cy ad) u)) (hA N ad s.heap.size)) ([Value.ref (ad 21), Value.int a1] : List Value).toArray s 0 0 (hA N ad s.heap.size)) (F0 m 22 ls [.int z1]) := by
    intro z1 H locs ls hw hP hS hl
    rw [ehJ22] at hw
    refine lv_istore_n (lv' := [(2, .int z1), (0, .ref (ad 21)), (1, .int a1)]) hx hb dX3_closeBlock_22 rfl hl (by decide) rfl (fun ls hl => ?_)
    refine lv_aload_n hx hb dX3_closeBlock_23 rfl (lv_at hl 1 rfl) ?_
    refine hw_get (v := .int (σ 21 7)) hx hb hts hiX3 hown hK hP (Nat.lt_of_lt_of_le (by decide) hN) (bX_21 _) rfl 7 (by decide) (List.mem_of_getElem? (i := 2) rfl) rfl rfl dX3_closeBlock_24 ?_
    refine lv_iload_n hx hb dX3_closeBlock_27 rfl (lv_at hl 0 rfl) ?_
    refine lv_iadd hx hb dX3_closeBlock_28 ?_
    refine lv_bipush (v := 64) hx hb dX3_closeBlock_29 (by decide) ?_
    refine lv_icmp_le (tgt := 41) hx hb dX3_closeBlock_31 (by decide) (fun c2 => ?_) (fun c2 => ?_)
    · have hw := hw.1 c2
      refine lv_iconst (v := 0) hx hb dX3_closeBlock_41 (by decide) ?_
      refine lv_istore_n (lv' := [(3, .int (0 : Int32)), (2, .int z1), (0, .ref (ad 21)), (1, .int a1)]) hx hb dX3_closeBlock_42 rfl hl (by decide) rfl (fun ls hl => ?_)
      refine hw (fun (v3_3 : Int32) (σ4 : hSt) => ∀ (H : Heap) (locs : List Loc) (ls : Array Slot), va_P D vwCl (hC N ad (bX cy ad) σ4) H → va_S (hA N ad s.heap.size) s.heap H locs → lv_has ls 4 [(0, .ref (ad 21)), (2, .int z1), (3, .int v3_3)] → W p l e (headSpec wsX3_closeBlock ({ frames := 2, cells := 0, slots := 0, locals := 44 } : Room)).room s m ([Value.ref (ad 21), Value.int a1] : List Value).toArray below meth c H locs 0 0 (MQ below (va_Qv (fun u : hSt => Q u) (hE D (fun u : hSt => hC N ad (bX cy ad) u)) (hA N ad s.heap.size)) ([Value.ref (ad 21), Value.int a1] : List Value).toArray s 0 0 (hA N ad s.heap.size)) (F0 m 43 ls [])) (fun v3_3 σ4 hw H locs ls hP hS hl => ?_) _ _ _ hP hS (lv_sub hl [2, 1, 0] rfl)
      refine lv_iload_n hx hb dX3_closeBlock_43 rfl (lv_at hl 2 rfl) ?_
      refine lv_iload_n hx hb dX3_closeBlock_44 rfl (lv_at hl 1 rfl) ?_
      refine lv_icmp_ge (tgt := 82) hx hb dX3_closeBlock_45 (by decide) (fun c5 => ?_) (fun c5 => ?_)
      · have hw := hw.1 c5
        refine lv_aload_n hx hb dX3_closeBlock_82 rfl (lv_at hl 0 rfl) ?_
        refine lv_dup hx hb dX3_closeBlock_83 rfl ?_
        refine hw_get (v := .int (σ4 21 7)) hx hb hts hiX3 hown hK hP (Nat.lt_of_lt_of_le (by decide) hN) (bX_21 _) rfl 7 (by decide) (List.mem_of_getElem? (i := 2) rfl) rfl rfl dX3_closeBlock_84 ?_
        refine lv_iload_n hx hb dX3_closeBlock_87 rfl (lv_at hl 1 rfl) ?_
        refine lv_iadd hx hb dX3_closeBlock_88 ?_
        refine hw_put (x := ((σ4 21 7) + z1)) (j := 7) hx hb hts hiX3 tyX3 tyX3_ok nmX3 hown hK hJ0 hP hS (Nat.lt_of_lt_of_le (by decide) hN) (bX_21 _) rfl (by decide) (List.mem_of_getElem? (i := 2) rfl) rfl rfl rfl rfl (Nat.le_of_ble_eq_true rfl) (by rw [bX_21]; rfl) dX3_closeBlock_89 (fun H locs hP hS => ?_)
        exact hw_vret hx hb hr hlocks ((hup σ4 21 7 ((σ4 21 7) + z1))) hw hP hS dX3_closeBlock_92
      have hw := hw.2 c5
      refine lv_aload_n hx hb dX3_closeBlock_48 rfl (lv_at hl 0 rfl) ?_
      refine hw_get (v := .ref (ad 22)) hx hb hts hiX3 hown hK hP (Nat.lt_of_lt_of_le (by decide) hN) (bX_21 _) rfl 3 (by decide) (List.mem_of_getElem? (i := 4) rfl) rfl rfl dX3_closeBlock_49 ?_
      refine lv_aload_n hx hb dX3_closeBlock_52 rfl (lv_at hl 0 rfl) ?_
      refine hw_get (v := .int (σ4 21 7)) hx hb hts hiX3 hown hK hP (Nat.lt_of_lt_of_le (by decide) hN) (bX_21 _) rfl 7 (by decide) (List.mem_of_getElem? (i := 2) rfl) rfl rfl dX3_closeBlock_53 ?_
      refine lv_iload_n hx hb dX3_closeBlock_56 rfl (lv_at hl 2 rfl) ?_
      refine lv_iadd hx hb dX3_closeBlock_57 ?_
      refine lv_aload_n hx hb dX3_closeBlock_58 rfl (lv_at hl 0 rfl) ?_
      refine hw_get (v := .ref (ad 22)) hx hb hts hiX3 hown hK hP (Nat.lt_of_lt_of_le (by decide) hN) (bX_21 _) rfl 3 (by decide) (List.mem_of_getElem? (i := 4) rfl) rfl rfl dX3_closeBlock_59 ?_
      refine lv_aload_n hx hb dX3_closeBlock_62 rfl (lv_at hl 0 rfl) ?_
      refine hw_get (v := .int (σ4 21 7)) hx hb hts hiX3 hown hK hP (Nat.lt_of_lt_of_le (by decide) hN) (bX_21 _) rfl 7 (by decide) (List.mem_of_getElem? (i := 2) rfl) rfl rfl dX3_closeBlock_63 ?_
      refine lv_iconst (v := 2) hx hb dX3_closeBlock_66 (by decide) ?_
      refine lv_isub hx hb dX3_closeBlock_67 ?_
      refine lv_iload_n hx hb dX3_closeBlock_68 rfl (lv_at hl 2 rfl) ?_
      refine lv_isub hx hb dX3_closeBlock_69 ?_
      refine hw_ki (va_runV (As := [.int (((σ4 21 7) - (2 : Int32)) - v3_3)]) (rest := [.int ((σ4 21 7) + v3_3), .ref (ad 22)]) ⟨hx, hb, hml, hown, hts⟩ (kc_X2_changeAt l D cy N hN ad hJ0 σ4 _ 22 hMe_22 (((σ4 21 7) - (2 : Int32)) - v3_3) _ hw) (cwV 1 hts gX3_closeBlock_X2_changeAt rfl rfl rfl (by decide +kernel) ⟨Nat.le_of_ble_eq_true rfl, Nat.le_of_ble_eq_true rfl⟩) (hw_preV hK hN1 hP (Nat.lt_of_lt_of_le (by decide) hN) (bX_22 _) rfl) rfl rfl hl.1 rfl (lv_room (Nat.le_of_ble_eq_true rfl)) dX3_closeBlock_70 ⟨Nat.zero_le _, Nat.zero_le _⟩) hS (fun r7 σ6 H locs hw hP hS => ?_)
      obtain ⟨hu_, hw⟩ := hw
      rw [hu_] at hP
      refine hw_kv (va_runV (As := [.int ((σ4 21 7) + v3_3), .int r7]) (rest := []) ⟨hx, hb, hml, hown, hts⟩ (kc_X2_setChange l D cy N hN ad hJ0 σ4 _ 22 hMe_22 ((σ4 21 7) + v3_3) r7 _ hw) (cwV 2 hts gX3_closeBlock_X2_setChange rfl rfl rfl (by decide +kernel) ⟨Nat.le_of_ble_eq_true rfl, Nat.le_of_ble_eq_true rfl⟩) (hw_preV hK hN1 hP (Nat.lt_of_lt_of_le (by decide) hN) (bX_22 _) rfl) rfl rfl hl.1 rfl (lv_room (Nat.le_of_ble_eq_true rfl)) dX3_closeBlock_73 ⟨Nat.zero_le _, Nat.zero_le _⟩) hS (fun σ8 H locs hw hP hS => ?_)
      obtain ⟨x3_9, ex3_9⟩ : ∃ z : Int32, z = v3_3 + (1 : Int32) := ⟨_, rfl⟩
      have hw := hw x3_9 ex3_9
      refine lv_iinc (v := x3_9) (lv' := [(3, .int x3_9), (0, .ref (ad 21)), (2, .int z1)]) hx hb dX3_closeBlock_76 hl (k := 2) rfl (by rw [ex3_9]; rfl) (by decide) rfl (fun ls hl => ?_)
      refine lv_goto (tgt := 43) hx hb dX3_closeBlock_79 (by decide) ?_
      exact hw _ _ _ hP hS (lv_sub hl [1, 2, 0] rfl)
    have hw := hw.2 c2
    refine lv_aload_n hx hb dX3_closeBlock_34 rfl (lv_at hl 1 rfl) ?_
    refine lv_iconst (v := 3) hx hb dX3_closeBlock_35 (by decide) ?_
    refine lv_iload_n hx hb dX3_closeBlock_36 rfl (lv_at hl 2 rfl) ?_
    refine hw_kv (va_runU (As := [.int (3 : Int32), .int a1]) (rest := []) ⟨hx, hb, hml, hown, hts⟩ (kc_X10_refuse_r21 l D cy N hN ad hJ0 σ _ (3 : Int32) a1 _ hw) (va_cwU 2 hts gX3_closeBlock_X10_refuse_u73X3 rfl rfl rfl rfl (by decide +kernel) ⟨Nat.le_of_ble_eq_true rfl, Nat.le_of_ble_eq_true rfl⟩) (hw_preV hK hN1 hP (Nat.lt_of_lt_of_le (by decide) hN) (bX_21 _) rfl) rfl rfl hl.1 rfl (lv_room (Nat.le_of_ble_eq_true rfl)) dX3_closeBlock_37 ⟨Nat.zero_le _, Nat.zero_le _⟩) hS (fun σ10 H locs hw hP hS => ?_)
    exact hw_vret hx hb hr hlocks (σ10) hw hP hS dX3_closeBlock_40
  refine lv_if_eq (tgt := 21) hx hb dX3_closeBlock_4 (by decide) (fun c11 => ?_) (fun c11 => ?_)
  · have hw := hw.1 c11
    refine lv_iconst (v := 0) hx hb dX3_closeBlock_21 (by decide) ?_
    exact hJ22 _ _ _ _ hw hP hS (lv_sub hl [0, 1] rfl)
  have hw := hw.2 c11
  refine lv_aload_n hx hb dX3_closeBlock_7 rfl (lv_at hl 0 rfl) ?_
  refine hw_get (v := .int (σ 21 7)) hx hb hts hiX3 hown hK hP (Nat.lt_of_lt_of_le (by decide) hN) (bX_21 _) rfl 7 (by decide) (List.mem_of_getElem? (i := 2) rfl) rfl rfl dX3_closeBlock_8 ?_
  refine lv_aload_n hx hb dX3_closeBlock_11 rfl (lv_at hl 0 rfl) ?_
  refine hw_get (v := .int (σ 21 8)) hx hb hts hiX3 hown hK hP (Nat.lt_of_lt_of_le (by decide) hN) (bX_21 _) rfl 8 (by decide) (List.mem_of_getElem? (i := 3) rfl) rfl rfl dX3_closeBlock_12 ?_
  refine lv_isub hx hb dX3_closeBlock_15 ?_
  refine lv_iconst (v := 1) hx hb dX3_closeBlock_16 (by decide) ?_
  refine lv_isub hx hb dX3_closeBlock_17 ?_
  refine lv_goto (tgt := 22) hx hb dX3_closeBlock_18 (by decide) ?_
  exact hJ22 _ _ _ _ hw hP hS (lv_sub hl [0, 1] rfl)
set_option maxHeartbeats 4000000 in
set_option maxRecDepth 100000 in
theorem kc_X3_takeComma (l : Launch) (D : va_G) (cy : Nat → ClassId) (N : Nat) (hN : 38 ≤ N) (ad : Nat → Nat) (hJ0 : hJ N ad) (σ : hSt) (sz : Nat) (a1 : Int32) (Q : hSt → Prop) (hw : wp_X3_takeComma a1 σ Q) : Met l yX3_takeComma wsX3_takeComma ({ frames := 3, cells := 0, slots := 0, locals := 67 } : Room) (va_Pc [.ref (ad 21), .int a1] (hB D cy (hC N ad (bX cy ad) σ) sz)) (va_Qv (fun u : hSt => Q u) (hE D (fun u : hSt => hC N ad (bX cy ad) u)) (hA N ad sz)) 0 0 (hA N ad sz) := by
  refine Met.ofW (cc := cX3_takeComma) (maxL := 2) (ret := none) (by decide) rfl ?_
  intro p e s m args below meth c s₁ B hml hv
  obtain ⟨rfl, hsz, hP, hK, hN1⟩ := hv
  have hx := B.exec
  have hb := B.bytes
  have hr := B.returns
  have hts := atoms_spec (ws := wsX3_takeComma) B.pre
  have hown : s.vm.findClass RX3 = some m.cls := findClass_of_methodNamed B.named
  have hlocks := B.notSynchronized
  subst hsz
  have hS : va_S (hA N ad s.heap.size) s.heap s.heap [] := va_S.rf
  have hiX3 : ∀ w ∈ wsX30, w ∈ wsX3_takeComma := fun _ h => List.mem_cons_of_mem _ (List.mem_append_left _ (List.mem_append_left _ (List.mem_append_right _ h)))
  have hl := lv_entry ([.ref (ad 21), .int a1]) (n := 2) (Nat.le_of_ble_eq_true rfl)
  rw [lg_entry_eq]
  generalize (lg_sl ([.ref (ad 21), .int a1]) ++ List.replicate (2 - (lg_sl ([.ref (ad 21), .int a1])).length) Slot.unset).toArray = ls at hl ⊢
  have hl : lv_has ls 2 [(0, .ref (ad 21)), (1, .int a1)] := hl
  unfold wp_X3_takeComma at hw
  refine lv_aload_n hx hb dX3_takeComma_0 rfl (lv_at hl 0 rfl) ?_
  refine hw_get (v := .int (σ 21 5)) hx hb hts hiX3 hown hK hP (Nat.lt_of_lt_of_le (by decide) hN) (bX_21 _) rfl 5 (by decide) (List.mem_of_getElem? (i := 1) rfl) rfl rfl dX3_takeComma_1 ?_
  refine lv_if_ne (tgt := 14) hx hb dX3_takeComma_4 (by decide) (fun c1 => ?_) (fun c1 => ?_)
  · have hw := hw.1 c1
    refine lv_aload_n hx hb dX3_takeComma_14 rfl (lv_at hl 0 rfl) ?_
    refine lv_iconst (v := 1) hx hb dX3_takeComma_15 (by decide) ?_
    refine lv_iload_n hx hb dX3_takeComma_16 rfl (lv_at hl 1 rfl) ?_
    refine hw_kv (va_runU (As := [.int (1 : Int32), .int a1]) (rest := []) ⟨hx, hb, hml, hown, hts⟩ (kc_X10_refuse_r21 l D cy N hN ad hJ0 σ _ (1 : Int32) a1 _ hw) (va_cwU 2 hts gX3_takeComma_X10_refuse_u73X3 rfl rfl rfl rfl (by decide +kernel) ⟨Nat.le_of_ble_eq_true rfl, Nat.le_of_ble_eq_true rfl⟩) (hw_preV hK hN1 hP (Nat.lt_of_lt_of_le (by decide) hN) (bX_21 _) rfl) rfl rfl hl.1 rfl (lv_room (Nat.le_of_ble_eq_true rfl)) dX3_takeComma_17 ⟨Nat.zero_le _, Nat.zero_le _⟩) hS (fun σ2 H locs hw hP hS => ?_)
    exact hw_vret hx hb hr hlocks (σ2) hw hP hS dX3_takeComma_20
  have hw := hw.2 c1
  refine lv_aload_n hx hb dX3_takeComma_7 rfl (lv_at hl 0 rfl) ?_
  refine hw_ki (va_runV (As := []) (rest := []) ⟨hx, hb, hml, hown, hts⟩ (kc_X3_changeEnded l D cy N hN ad hJ0 σ _  _ hw) (cwV 0 hts gX3_takeComma_X3_changeEnded rfl rfl rfl (by decide +kernel) ⟨Nat.le_of_ble_eq_true rfl, Nat.le_of_ble_eq_true rfl⟩) (hw_preV hK hN1 hP (Nat.lt_of_lt_of_le (by decide) hN) (bX_21 _) rfl) rfl rfl hl.1 rfl (lv_room (Nat.le_of_ble_eq_true rfl)) dX3_takeComma_8 ⟨Nat.zero_le _, Nat.zero_le _⟩) hS (fun r4 σ3 H locs hw hP hS => ?_)
  obtain ⟨hu_, hw⟩ := hw
  rw [hu_] at hP
  refine lv_if_ne (tgt := 21) hx hb dX3_takeComma_11 (by decide) (fun c5 => ?_) (fun c5 => ?_)
  · have hw := hw.1 c5
    refine lv_aload_n hx hb dX3_takeComma_21 rfl (lv_at hl 0 rfl) ?_
    refine lv_iload_n hx hb dX3_takeComma_22 rfl (lv_at hl 1 rfl) ?_
    refine hw_kv (va_runV (As := [.int a1]) (rest := []) ⟨hx, hb, hml, hown, hts⟩ (kc_X3_closeBlock l D cy N hN ad hJ0 σ _ a1 _ hw) (cwV 1 hts gX3_takeComma_X3_closeBlock rfl rfl rfl (by decide +kernel) ⟨Nat.le_of_ble_eq_true rfl, Nat.le_of_ble_eq_true rfl⟩) (hw_preV hK hN1 hP (Nat.lt_of_lt_of_le (by decide) hN) (bX_21 _) rfl) rfl rfl hl.1 rfl (lv_room (Nat.le_of_ble_eq_true rfl)) dX3_takeComma_23 ⟨Nat.zero_le _, Nat.zero_le _⟩) hS (fun σ6 H locs hw hP hS => ?_)
    refine lv_aload_n hx hb dX3_takeComma_26 rfl (lv_at hl 0 rfl) ?_
    refine hw_kv (va_runV (As := []) (rest := []) ⟨hx, hb, hml, hown, hts⟩ (kc_X3_beginBlock l D cy N hN ad hJ0 σ6 _  _ hw) (cwV 0 hts gX3_takeComma_X3_beginBlock rfl rfl rfl (by decide +kernel) ⟨Nat.le_of_ble_eq_true rfl, Nat.le_of_ble_eq_true rfl⟩) (hw_preV hK hN1 hP (Nat.lt_of_lt_of_le (by decide) hN) (bX_21 _) rfl) rfl rfl hl.1 rfl (lv_room (Nat.le_of_ble_eq_true rfl)) dX3_takeComma_27 ⟨Nat.zero_le _, Nat.zero_le _⟩) hS (fun σ7 H locs hw hP hS => ?_)
    exact hw_vret hx hb hr hlocks (σ7) hw hP hS dX3_takeComma_30
  have hw := hw.2 c5
  refine lv_aload_n hx hb dX3_takeComma_14 rfl (lv_at hl 0 rfl) ?_
  refine lv_iconst (v := 1) hx hb dX3_takeComma_15 (by decide) ?_
  refine lv_iload_n hx hb dX3_takeComma_16 rfl (lv_at hl 1 rfl) ?_
  refine hw_kv (va_runU (As := [.int (1 : Int32), .int a1]) (rest := []) ⟨hx, hb, hml, hown, hts⟩ (kc_X10_refuse_r21 l D cy N hN ad hJ0 σ _ (1 : Int32) a1 _ hw) (va_cwU 2 hts gX3_takeComma_X10_refuse_u73X3 rfl rfl rfl rfl (by decide +kernel) ⟨Nat.le_of_ble_eq_true rfl, Nat.le_of_ble_eq_true rfl⟩) (hw_preV hK hN1 hP (Nat.lt_of_lt_of_le (by decide) hN) (bX_21 _) rfl) rfl rfl hl.1 rfl (lv_room (Nat.le_of_ble_eq_true rfl)) dX3_takeComma_17 ⟨Nat.zero_le _, Nat.zero_le _⟩) hS (fun σ8 H locs hw hP hS => ?_)
  exact hw_vret hx hb hr hlocks (σ8) hw hP hS dX3_takeComma_20
set_option maxHeartbeats 4000000 in
set_option maxRecDepth 100000 in
theorem kc_X3_takeSemicolon (l : Launch) (D : va_G) (cy : Nat → ClassId) (N : Nat) (hN : 38 ≤ N) (ad : Nat → Nat) (hJ0 : hJ N ad) (σ : hSt) (sz : Nat) (a1 : Int32) (Q : hSt → Prop) (hw : wp_X3_takeSemicolon a1 σ Q) : Met l yX3_takeSemicolon wsX3_takeSemicolon ({ frames := 3, cells := 0, slots := 0, locals := 67 } : Room) (va_Pc [.ref (ad 21), .int a1] (hB D cy (hC N ad (bX cy ad) σ) sz)) (va_Qv (fun u : hSt => Q u) (hE D (fun u : hSt => hC N ad (bX cy ad) u)) (hA N ad sz)) 0 0 (hA N ad sz) := by
  refine Met.ofW (cc := cX3_takeSemicolon) (maxL := 2) (ret := none) (by decide) rfl ?_
  intro p e s m args below meth c s₁ B hml hv
  obtain ⟨rfl, hsz, hP, hK, hN1⟩ := hv
  have hx := B.exec
  have hb := B.bytes
  have hr := B.returns
  have hts := atoms_spec (ws := wsX3_takeSemicolon) B.pre
  have hown : s.vm.findClass RX3 = some m.cls := findClass_of_methodNamed B.named
  have hlocks := B.notSynchronized
  subst hsz
  have hS : va_S (hA N ad s.heap.size) s.heap s.heap [] := va_S.rf
  have hiX3 : ∀ w ∈ wsX30, w ∈ wsX3_takeSemicolon := fun _ h => List.mem_cons_of_mem _ (List.mem_append_left _ (List.mem_append_left _ (List.mem_append_right _ h)))
  have hl := lv_entry ([.ref (ad 21), .int a1]) (n := 2) (Nat.le_of_ble_eq_true rfl)
  rw [lg_entry_eq]
  generalize (lg_sl ([.ref (ad 21), .int a1]) ++ List.replicate (2 - (lg_sl ([.ref (ad 21), .int a1])).length) Slot.unset).toArray = ls at hl ⊢
  have hl : lv_has ls 2 [(0, .ref (ad 21)), (1, .int a1)] := hl
  unfold wp_X3_takeSemicolon at hw
  refine lv_aload_n hx hb dX3_takeSemicolon_0 rfl (lv_at hl 0 rfl) ?_
  refine hw_get (v := .int (σ 21 5)) hx hb hts hiX3 hown hK hP (Nat.lt_of_lt_of_le (by decide) hN) (bX_21 _) rfl 5 (by decide) (List.mem_of_getElem? (i := 1) rfl) rfl rfl dX3_takeSemicolon_1 ?_
  refine lv_iconst (v := 2) hx hb dX3_takeSemicolon_4 (by decide) ?_
  refine lv_icmp_eq (tgt := 15) hx hb dX3_takeSemicolon_5 (by decide) (fun c1 => ?_) (fun c1 => ?_)
  · have hw := hw.1 c1
    refine lv_aload_n hx hb dX3_takeSemicolon_15 rfl (lv_at hl 0 rfl) ?_
    refine lv_iconst (v := 1) hx hb dX3_takeSemicolon_16 (by decide) ?_
    refine lv_iload_n hx hb dX3_takeSemicolon_17 rfl (lv_at hl 1 rfl) ?_
    refine hw_kv (va_runU (As := [.int (1 : Int32), .int a1]) (rest := []) ⟨hx, hb, hml, hown, hts⟩ (kc_X10_refuse_r21 l D cy N hN ad hJ0 σ _ (1 : Int32) a1 _ hw) (va_cwU 2 hts gX3_takeSemicolon_X10_refuse_u73X3 rfl rfl rfl rfl (by decide +kernel) ⟨Nat.le_of_ble_eq_true rfl, Nat.le_of_ble_eq_true rfl⟩) (hw_preV hK hN1 hP (Nat.lt_of_lt_of_le (by decide) hN) (bX_21 _) rfl) rfl rfl hl.1 rfl (lv_room (Nat.le_of_ble_eq_true rfl)) dX3_takeSemicolon_18 ⟨Nat.zero_le _, Nat.zero_le _⟩) hS (fun σ2 H locs hw hP hS => ?_)
    exact hw_vret hx hb hr hlocks (σ2) hw hP hS dX3_takeSemicolon_21
  have hw := hw.2 c1
  refine lv_aload_n hx hb dX3_takeSemicolon_8 rfl (lv_at hl 0 rfl) ?_
  refine hw_ki (va_runV (As := []) (rest := []) ⟨hx, hb, hml, hown, hts⟩ (kc_X3_changeEnded l D cy N hN ad hJ0 σ _  _ hw) (cwV 0 hts gX3_takeSemicolon_X3_changeEnded rfl rfl rfl (by decide +kernel) ⟨Nat.le_of_ble_eq_true rfl, Nat.le_of_ble_eq_true rfl⟩) (hw_preV hK hN1 hP (Nat.lt_of_lt_of_le (by decide) hN) (bX_21 _) rfl) rfl rfl hl.1 rfl (lv_room (Nat.le_of_ble_eq_true rfl)) dX3_takeSemicolon_9 ⟨Nat.zero_le _, Nat.zero_le _⟩) hS (fun r4 σ3 H locs hw hP hS => ?_)
  obtain ⟨hu_, hw⟩ := hw
  rw [hu_] at hP
  refine lv_if_ne (tgt := 22) hx hb dX3_takeSemicolon_12 (by decide) (fun c5 => ?_) (fun c5 => ?_)
  · have hw := hw.1 c5
    refine lv_aload_n hx hb dX3_takeSemicolon_22 rfl (lv_at hl 0 rfl) ?_
    refine hw_get (v := .int (σ 21 5)) hx hb hts hiX3 hown hK hP (Nat.lt_of_lt_of_le (by decide) hN) (bX_21 _) rfl 5 (by decide) (List.mem_of_getElem? (i := 1) rfl) rfl rfl dX3_takeSemicolon_23 ?_
    obtain ⟨J34, ehJ34, hw⟩ := hM_x hw
    have hJ34 : ∀ (σ6 : hSt) (H : Heap) (locs : List Loc) (ls : Array Slot), J34 σ6 → va_P D vwCl (hC N ad (bX cy ad) σ6) H → va_S (hA N ad s.heap.size) s.heap H locs → lv_has ls 2 [(0, .ref (ad 21))] → W p l e (headSpec wsX3_takeSemicolon ({ frames := 3, cells := 0, slots := 0, locals := 67 } : Room)).room s m ([Value.ref (ad 21), Value.int a1] : List Value).toArray below meth c H locs 0 0 (MQ below (va_Qv (fun u : hSt => Q u) (hE D (fun u : hSt => hC N ad (bX cy ad) u)) (hA N ad s.heap.size)) ([Value.ref (ad 21), Value.int a1] : List Value).toArray s 0 0 (hA N ad s.heap.size)) (F0 m 34 ls []) := by
      intro σ6 H locs ls hw hP hS hl
      rw [ehJ34] at hw
      refine lv_aload_n hx hb dX3_takeSemicolon_34 rfl (lv_at hl 0 rfl) ?_
      refine lv_dup hx hb dX3_takeSemicolon_35 rfl ?_
      refine hw_get (v := .int (σ6 21 5)) hx hb hts hiX3 hown hK hP (Nat.lt_of_lt_of_le (by decide) hN) (bX_21 _) rfl 5 (by decide) (List.mem_of_getElem? (i := 1) rfl) rfl rfl dX3_takeSemicolon_36 ?_
      refine lv_iconst (v := 1) hx hb dX3_takeSemicolon_39 (by decide) ?_
      refine lv_iadd hx hb dX3_takeSemicolon_40 ?_
      refine hw_put (x := ((σ6 21 5) + (1 : Int32))) (j := 5) hx hb hts hiX3 tyX3 tyX3_ok nmX3 hown hK hJ0 hP hS (Nat.lt_of_lt_of_le (by decide) hN) (bX_21 _) rfl (by decide) (List.mem_of_getElem? (i := 1) rfl) rfl rfl rfl rfl (Nat.le_of_ble_eq_true rfl) (by rw [bX_21]; rfl) dX3_takeSemicolon_41 (fun H locs hP hS => ?_)
      refine lv_aload_n hx hb dX3_takeSemicolon_44 rfl (lv_at hl 0 rfl) ?_
      refine lv_iconst (v := 1) hx hb dX3_takeSemicolon_45 (by decide) ?_
      refine hw_put (x := (1 : Int32)) (j := 6) hx hb hts hiX3 tyX3 tyX3_ok nmX3 hown hK hJ0 hP hS (Nat.lt_of_lt_of_le (by decide) hN) (bX_21 _) rfl (by decide) (List.mem_of_getElem? (i := 2) rfl) rfl rfl rfl rfl (Nat.le_of_ble_eq_true rfl) (by rw [bX_21]; rfl) dX3_takeSemicolon_46 (fun H locs hP hS => ?_)
      exact hw_vret hx hb hr hlocks ((hup (hup σ6 21 5 ((σ6 21 5) + (1 : Int32))) 21 6 (1 : Int32))) hw hP hS dX3_takeSemicolon_49
    refine lv_if_ne (tgt := 34) hx hb dX3_takeSemicolon_26 (by decide) (fun c7 => ?_) (fun c7 => ?_)
    · have hw := hw.1 c7
      exact hJ34 _ _ _ _ hw hP hS (lv_sub hl [0] rfl)
    have hw := hw.2 c7
    refine lv_aload_n hx hb dX3_takeSemicolon_29 rfl (lv_at hl 0 rfl) ?_
    refine lv_iload_n hx hb dX3_takeSemicolon_30 rfl (lv_at hl 1 rfl) ?_
    refine hw_kv (va_runV (As := [.int a1]) (rest := []) ⟨hx, hb, hml, hown, hts⟩ (kc_X3_closeBlock l D cy N hN ad hJ0 σ _ a1 _ hw) (cwV 1 hts gX3_takeSemicolon_X3_closeBlock rfl rfl rfl (by decide +kernel) ⟨Nat.le_of_ble_eq_true rfl, Nat.le_of_ble_eq_true rfl⟩) (hw_preV hK hN1 hP (Nat.lt_of_lt_of_le (by decide) hN) (bX_21 _) rfl) rfl rfl hl.1 rfl (lv_room (Nat.le_of_ble_eq_true rfl)) dX3_takeSemicolon_31 ⟨Nat.zero_le _, Nat.zero_le _⟩) hS (fun σ8 H locs hw hP hS => ?_)
    exact hJ34 _ _ _ _ hw hP hS (lv_sub hl [0] rfl)
  have hw := hw.2 c5
  refine lv_aload_n hx hb dX3_takeSemicolon_15 rfl (lv_at hl 0 rfl) ?_
  refine lv_iconst (v := 1) hx hb dX3_takeSemicolon_16 (by decide) ?_
  refine lv_iload_n hx hb dX3_takeSemicolon_17 rfl (lv_at hl 1 rfl) ?_
  refine hw_kv (va_runU (As := [.int (1 : Int32), .int a1]) (rest := []) ⟨hx, hb, hml, hown, hts⟩ (kc_X10_refuse_r21 l D cy N hN ad hJ0 σ _ (1 : Int32) a1 _ hw) (va_cwU 2 hts gX3_takeSemicolon_X10_refuse_u73X3 rfl rfl rfl rfl (by decide +kernel) ⟨Nat.le_of_ble_eq_true rfl, Nat.le_of_ble_eq_true rfl⟩) (hw_preV hK hN1 hP (Nat.lt_of_lt_of_le (by decide) hN) (bX_21 _) rfl) rfl rfl hl.1 rfl (lv_room (Nat.le_of_ble_eq_true rfl)) dX3_takeSemicolon_18 ⟨Nat.zero_le _, Nat.zero_le _⟩) hS (fun σ9 H locs hw hP hS => ?_)
  exact hw_vret hx hb hr hlocks (σ9) hw hP hS dX3_takeSemicolon_21
set_option maxHeartbeats 4000000 in
set_option maxRecDepth 100000 in
theorem kc_X6_changed (l : Launch) (D : va_G) (cy : Nat → ClassId) (N : Nat) (ad : Nat → Nat) (b : hCell) (σ : hSt) (sz : Nat) (a0 : Int32) (a1 : Int32) (Q : Int32 → Prop) (hw : wp_X6_changed a0 a1 Q) : Met l yX6_changed wsX6_changed ({ frames := 0, cells := 0, slots := 0, locals := 0 } : Room) (va_Pc [.int a0, .int a1] (hB D cy (hC N ad b σ) sz)) (va_Qi (fun (r : Int32) (u : hSt) => u = σ ∧ Q r) (hE D (fun u : hSt => hC N ad b u)) (hA N ad sz)) 0 0 (hA N ad sz) := by
  refine Met.ofW (cc := cX6_changed) (maxL := 3) (ret := (some .int)) (by decide) rfl ?_
  intro p e s m args below meth c s₁ B hml hv
  obtain ⟨rfl, hsz, hP, hK, hN1⟩ := hv
  have hx := B.exec
  have hb := B.bytes
  have hr := B.returns
  have hts := atoms_spec (ws := wsX6_changed) B.pre
  have hown : s.vm.findClass RX6 = some m.cls := findClass_of_methodNamed B.named
  have hlocks := B.notSynchronized
  subst hsz
  have hS : va_S (hA N ad s.heap.size) s.heap s.heap [] := va_S.rf
  have hl := lv_entry ([.int a0, .int a1]) (n := 3) (Nat.le_of_ble_eq_true rfl)
  rw [lg_entry_eq]
  generalize (lg_sl ([.int a0, .int a1]) ++ List.replicate (3 - (lg_sl ([.int a0, .int a1])).length) Slot.unset).toArray = ls at hl ⊢
  have hl : lv_has ls 3 [(0, .int a0), (1, .int a1)] := hl
  unfold wp_X6_changed at hw
  refine lv_iload_n hx hb dX6_changed_0 rfl (lv_at hl 0 rfl) ?_
  refine lv_iload_n hx hb dX6_changed_1 rfl (lv_at hl 1 rfl) ?_
  refine lv_iload_n hx hb dX6_changed_2 rfl (lv_at hl 1 rfl) ?_
  refine lv_iconst (v := 3) hx hb dX6_changed_3 (by decide) ?_
  refine lv_ishl hx hb dX6_changed_4 ?_
  refine lv_ior hx hb dX6_changed_5 ?_
  refine lv_iconst (v := -1) hx hb dX6_changed_6 (by decide) ?_
  refine lv_ixor hx hb dX6_changed_7 ?_
  refine lv_iand hx hb dX6_changed_8 ?_
  refine lv_topi (fun x2_1 ex2_1 => ?_)
  have hw := hw x2_1 ex2_1
  refine lv_istore_n (lv' := [(2, .int x2_1), (0, .int a0), (1, .int a1)]) hx hb dX6_changed_9 rfl hl (by decide) rfl (fun ls hl => ?_)
  refine lv_iload_n hx hb dX6_changed_10 rfl (lv_at hl 0 rfl) ?_
  refine lv_iload_n hx hb dX6_changed_11 rfl (lv_at hl 1 rfl) ?_
  refine lv_iload_n hx hb dX6_changed_12 rfl (lv_at hl 2 rfl) ?_
  refine lv_iand hx hb dX6_changed_13 ?_
  refine lv_iconst (v := 3) hx hb dX6_changed_14 (by decide) ?_
  refine lv_ishl hx hb dX6_changed_15 ?_
  refine lv_ior hx hb dX6_changed_16 ?_
  refine lv_iload_n hx hb dX6_changed_17 rfl (lv_at hl 1 rfl) ?_
  refine lv_iconst (v := 3) hx hb dX6_changed_18 (by decide) ?_
  refine lv_iushr hx hb dX6_changed_19 rfl ?_
  refine lv_iload_n hx hb dX6_changed_20 rfl (lv_at hl 2 rfl) ?_
  refine lv_iand hx hb dX6_changed_21 ?_
  refine lv_ior hx hb dX6_changed_22 ?_
  exact hw_iret hx hb hr hlocks (σ) ⟨rfl, hw⟩ hP hS dX6_changed_23
set_option maxHeartbeats 4000000 in
set_option maxRecDepth 100000 in
theorem kc_X2_rowFrom (l : Launch) (D : va_G) (cy : Nat → ClassId) (N : Nat) (hN : 38 ≤ N) (ad : Nat → Nat) (hJ0 : hJ N ad) (σ : hSt) (sz : Nat) (k0 : Nat) (hk0 : hMe k0) (a1 : Int32) (a2 : Int32) (Q : Int32 → Prop) (hw : wp_X2_rowFrom k0 a1 a2 σ Q) : Met l yX2_rowFrom wsX2_rowFrom ({ frames := 1, cells := 0, slots := 0, locals := 22 } : Room) (va_Pc [.ref (ad k0), .int a1, .int a2] (hB D cy (hC N ad (bX cy ad) σ) sz)) (va_Qi (fun (r : Int32) (u : hSt) => u = σ ∧ Q r) (hE D (fun u : hSt => hC N ad (bX cy ad) u)) (hA N ad sz)) 0 0 (hA N ad sz) := by
  refine Met.ofW (cc := cX2_rowFrom) (maxL := 5) (ret := (some .int)) (by decide) rfl ?_
  intro p e s m args below meth c s₁ B hml hv
  obtain ⟨rfl, hsz, hP, hK, hN1⟩ := hv
  have hx := B.exec
  have hb := B.bytes
  have hr := B.returns
  have hts := atoms_spec (ws := wsX2_rowFrom) B.pre
  have hown : s.vm.findClass RX2 = some m.cls := findClass_of_methodNamed B.named
  have hlocks := B.notSynchronized
  subst hsz
  have hS : va_S (hA N ad s.heap.size) s.heap s.heap [] := va_S.rf
  have hiX2 : ∀ w ∈ wsX20, w ∈ wsX2_rowFrom := fun _ h => List.mem_cons_of_mem _ (List.mem_append_right _ h)
  have hl := lv_entry ([.ref (ad k0), .int a1, .int a2]) (n := 5) (Nat.le_of_ble_eq_true rfl)
  rw [lg_entry_eq]
  generalize (lg_sl ([.ref (ad k0), .int a1, .int a2]) ++ List.replicate (5 - (lg_sl ([.ref (ad k0), .int a1, .int a2])).length) Slot.unset).toArray = ls at hl ⊢
  have hl : lv_has ls 5 [(0, .ref (ad k0)), (1, .int a1), (2, .int a2)] := hl
  unfold wp_X2_rowFrom at hw
  refine lv_iload_n hx hb dX2_rowFrom_0 rfl (lv_at hl 1 rfl) ?_
  refine lv_istore_n (lv' := [(3, .int a1), (0, .ref (ad k0)), (1, .int a1), (2, .int a2)]) hx hb dX2_rowFrom_1 rfl hl (by decide) rfl (fun ls hl => ?_)
  refine lv_iconst (v := 0) hx hb dX2_rowFrom_2 (by decide) ?_
  refine lv_istore (lv' := [(4, .int (0 : Int32)), (3, .int a1), (0, .ref (ad k0)), (1, .int a1), (2, .int a2)]) hx hb dX2_rowFrom_3 hl (by decide) rfl (fun ls hl => ?_)
  refine hw (fun (v3_1 : Int32) (v4_2 : Int32) => ∀ (H : Heap) (locs : List Loc) (ls : Array Slot), va_P D vwCl (hC N ad (bX cy ad) σ) H → va_S (hA N ad s.heap.size) s.heap H locs → lv_has ls 5 [(0, .ref (ad k0)), (2, .int a2), (3, .int v3_1), (4, .int v4_2)] → W p l e (headSpec wsX2_rowFrom ({ frames := 1, cells := 0, slots := 0, locals := 22 } : Room)).room s m ([Value.ref (ad k0), Value.int a1, Value.int a2] : List Value).toArray below meth c H locs 0 0 (MQ below (va_Qi (fun (r : Int32) (u : hSt) => u = σ ∧ Q r) (hE D (fun u : hSt => hC N ad (bX cy ad) u)) (hA N ad s.heap.size)) ([Value.ref (ad k0), Value.int a1, Value.int a2] : List Value).toArray s 0 0 (hA N ad s.heap.size)) (F0 m 5 ls [])) (fun v3_1 v4_2 hw H locs ls hP hS hl => ?_) _ _ _ hP hS (lv_sub hl [2, 4, 1, 0] rfl)
  refine lv_iload hx hb dX2_rowFrom_5 (lv_at hl 3 rfl) ?_
  refine lv_iload_n hx hb dX2_rowFrom_7 rfl (lv_at hl 1 rfl) ?_
  refine lv_icmp_ge (tgt := 40) hx hb dX2_rowFrom_8 (by decide) (fun c3 => ?_) (fun c3 => ?_)
  · have hw := hw.1 c3
    refine lv_iload_n hx hb dX2_rowFrom_40 rfl (lv_at hl 2 rfl) ?_
    exact hw_iret hx hb hr hlocks (σ) ⟨rfl, hw⟩ hP hS dX2_rowFrom_41
  have hw := hw.2 c3
  refine lv_iload hx hb dX2_rowFrom_11 (lv_at hl 3 rfl) ?_
  refine lv_aload_n hx hb dX2_rowFrom_13 rfl (lv_at hl 0 rfl) ?_
  refine hw_get (v := .int (σ k0 1)) hx hb hts hiX2 hown hK hP (hMe_lt hk0 hN) (bX_me hk0 _) rfl 1 (by decide) (List.mem_of_getElem? (i := 1) rfl) rfl rfl dX2_rowFrom_14 ?_
  refine lv_icmp_ge (tgt := 40) hx hb dX2_rowFrom_17 (by decide) (fun c4 => ?_) (fun c4 => ?_)
  · have hw := hw.1 c4
    refine lv_iload_n hx hb dX2_rowFrom_40 rfl (lv_at hl 2 rfl) ?_
    exact hw_iret hx hb hr hlocks (σ) ⟨rfl, hw⟩ hP hS dX2_rowFrom_41
  have hw := hw.2 c4
  refine lv_iload_n hx hb dX2_rowFrom_20 rfl (lv_at hl 2 rfl) ?_
  refine lv_aload_n hx hb dX2_rowFrom_21 rfl (lv_at hl 0 rfl) ?_
  refine hw_get (v := .ref (ad (k0 + 1))) hx hb hts hiX2 hown hK hP (hMe_lt hk0 hN) (bX_me hk0 _) rfl 0 (by decide) (List.mem_of_getElem? (i := 2) rfl) rfl rfl dX2_rowFrom_22 ?_
  refine lv_iload hx hb dX2_rowFrom_25 (lv_at hl 3 rfl) ?_
  refine hw_ki (va_runSN (As := [.ref (ad (k0 + 1)), .int v4_2]) (rest := [.int v3_1]) ⟨hx, hb, hml, hown, hts⟩ (kc_X11_cell l D cy N hN ad hJ0 σ _ (k0 + 1) (hAi_me hk0) v4_2 _ hw) ⟨va_cnB 2 hts gX2_rowFrom_X11_cell_n37 rfl rfl rfl (hN1.at 3 rfl) (hts (.initialized RX11) (List.mem_of_getElem? (i := 4) rfl)) (by decide +kernel) ⟨Nat.le_of_ble_eq_true rfl, Nat.le_of_ble_eq_true rfl⟩, hts (.static yX11_cell) (List.mem_of_getElem? (i := 3) rfl), trivial⟩ (hw_pre hK hN1 hP) rfl rfl hl.1 rfl (lv_room (Nat.le_of_ble_eq_true rfl)) dX2_rowFrom_27 ⟨Nat.zero_le _, Nat.zero_le _⟩) hS (fun r6 σ5 H locs hw hP hS => ?_)
  obtain ⟨hu_, hw⟩ := hw
  rw [hu_] at hP
  refine hw_ki (va_runS (As := [.int v3_1, .int r6]) (rest := []) ⟨hx, hb, hml, hown, hts⟩ (kc_X6_changed l D cy N ad (bX cy ad) σ _ v3_1 r6 _ hw) (va_cwS 2 hts gX2_rowFrom_X6_changed rfl rfl rfl (by decide +kernel) ⟨Nat.le_of_ble_eq_true rfl, Nat.le_of_ble_eq_true rfl⟩) (hw_pre hK hN1 hP) rfl rfl hl.1 rfl (lv_room (Nat.le_of_ble_eq_true rfl)) dX2_rowFrom_30 ⟨Nat.zero_le _, Nat.zero_le _⟩) hS (fun r8 σ7 H locs hw hP hS => ?_)
  obtain ⟨hu_, hw⟩ := hw
  rw [hu_] at hP
  refine lv_istore_n (lv' := [(3, .int r8), (0, .ref (ad k0)), (2, .int a2), (4, .int v4_2)]) hx hb dX2_rowFrom_33 rfl hl (by decide) rfl (fun ls hl => ?_)
  obtain ⟨x4_9, ex4_9⟩ : ∃ z : Int32, z = v4_2 + (1 : Int32) := ⟨_, rfl⟩
  have hw := hw x4_9 ex4_9
  refine lv_iinc (v := x4_9) (lv' := [(4, .int x4_9), (3, .int r8), (0, .ref (ad k0)), (2, .int a2)]) hx hb dX2_rowFrom_34 hl (k := 3) rfl (by rw [ex4_9]; rfl) (by decide) rfl (fun ls hl => ?_)
  refine lv_goto (tgt := 5) hx hb dX2_rowFrom_37 (by decide) ?_
  exact hw _ _ _ hP hS (lv_sub hl [2, 3, 1, 0] rfl)
set_option maxHeartbeats 4000000 in
set_option maxRecDepth 100000 in
theorem kc_X2_changeCalled (l : Launch) (D : va_G) (cy : Nat → ClassId) (N : Nat) (hN : 38 ≤ N) (ad : Nat → Nat) (hJ0 : hJ N ad) (σ : hSt) (sz : Nat) (k0 : Nat) (hk0 : hMe k0) (a1 : Int32) (a2 : Int32) (Q : Int32 → Prop) (hw : wp_X2_changeCalled k0 a1 a2 σ Q) : Met l yX2_changeCalled wsX2_changeCalled ({ frames := 1, cells := 0, slots := 0, locals := 21 } : Room) (va_Pc [.ref (ad k0), .int a1, .int a2] (hB D cy (hC N ad (bX cy ad) σ) sz)) (va_Qi (fun (r : Int32) (u : hSt) => u = σ ∧ Q r) (hE D (fun u : hSt => hC N ad (bX cy ad) u)) (hA N ad sz)) 0 0 (hA N ad sz) := by
  refine Met.ofW (cc := cX2_changeCalled) (maxL := 3) (ret := (some .int)) (by decide) rfl ?_
  intro p e s m args below meth c s₁ B hml hv
  obtain ⟨rfl, hsz, hP, hK, hN1⟩ := hv
  have hx := B.exec
  have hb := B.bytes
  have hr := B.returns
  have hts := atoms_spec (ws := wsX2_changeCalled) B.pre
  have hown : s.vm.findClass RX2 = some m.cls := findClass_of_methodNamed B.named
  have hlocks := B.notSynchronized
  subst hsz
  have hS : va_S (hA N ad s.heap.size) s.heap s.heap [] := va_S.rf
  have hiX2 : ∀ w ∈ wsX20, w ∈ wsX2_changeCalled := fun _ h => List.mem_cons_of_mem _ (List.mem_append_right _ h)
  have hl := lv_entry ([.ref (ad k0), .int a1, .int a2]) (n := 3) (Nat.le_of_ble_eq_true rfl)
  rw [lg_entry_eq]
  generalize (lg_sl ([.ref (ad k0), .int a1, .int a2]) ++ List.replicate (3 - (lg_sl ([.ref (ad k0), .int a1, .int a2])).length) Slot.unset).toArray = ls at hl ⊢
  have hl : lv_has ls 3 [(0, .ref (ad k0)), (1, .int a1), (2, .int a2)] := hl
  unfold wp_X2_changeCalled at hw
  refine lv_iload_n hx hb dX2_changeCalled_0 rfl (lv_at hl 1 rfl) ?_
  refine lv_aload_n hx hb dX2_changeCalled_1 rfl (lv_at hl 0 rfl) ?_
  refine hw_get (v := .int (σ k0 1)) hx hb hts hiX2 hown hK hP (hMe_lt hk0 hN) (bX_me hk0 _) rfl 1 (by decide) (List.mem_of_getElem? (i := 1) rfl) rfl rfl dX2_changeCalled_2 ?_
  refine lv_iconst (v := 1) hx hb dX2_changeCalled_5 (by decide) ?_
  refine lv_isub hx hb dX2_changeCalled_6 ?_
  refine lv_icmp_ne (tgt := 14) hx hb dX2_changeCalled_7 (by decide) (fun c1 => ?_) (fun c1 => ?_)
  · have hw := hw.1 c1
    refine lv_aload_n hx hb dX2_changeCalled_14 rfl (lv_at hl 0 rfl) ?_
    refine hw_get (v := .ref (ad (k0 + 1))) hx hb hts hiX2 hown hK hP (hMe_lt hk0 hN) (bX_me hk0 _) rfl 0 (by decide) (List.mem_of_getElem? (i := 2) rfl) rfl rfl dX2_changeCalled_15 ?_
    refine lv_iload_n hx hb dX2_changeCalled_18 rfl (lv_at hl 1 rfl) ?_
    refine hw_ki (va_runSN (As := [.ref (ad (k0 + 1)), .int a1]) (rest := []) ⟨hx, hb, hml, hown, hts⟩ (kc_X11_cell l D cy N hN ad hJ0 σ _ (k0 + 1) (hAi_me hk0) a1 _ hw) ⟨va_cnB 2 hts gX2_changeCalled_X11_cell_n37 rfl rfl rfl (hN1.at 3 rfl) (hts (.initialized RX11) (List.mem_of_getElem? (i := 6) rfl)) (by decide +kernel) ⟨Nat.le_of_ble_eq_true rfl, Nat.le_of_ble_eq_true rfl⟩, hts (.static yX11_cell) (List.mem_of_getElem? (i := 5) rfl), trivial⟩ (hw_pre hK hN1 hP) rfl rfl hl.1 rfl (lv_room (Nat.le_of_ble_eq_true rfl)) dX2_changeCalled_19 ⟨Nat.zero_le _, Nat.zero_le _⟩) hS (fun r3 σ2 H locs hw hP hS => ?_)
    obtain ⟨hu_, hw⟩ := hw
    rw [hu_] at hP
    exact hw_iret hx hb hr hlocks (σ) ⟨rfl, hw⟩ hP hS dX2_changeCalled_22
  have hw := hw.2 c1
  refine lv_iload_n hx hb dX2_changeCalled_10 rfl (lv_at hl 2 rfl) ?_
  refine lv_if_ne (tgt := 23) hx hb dX2_changeCalled_11 (by decide) (fun c4 => ?_) (fun c4 => ?_)
  · have hw := hw.1 c4
    refine lv_iload_n hx hb dX2_changeCalled_23 rfl (lv_at hl 2 rfl) ?_
    refine lv_iconst (v := 1) hx hb dX2_changeCalled_24 (by decide) ?_
    refine lv_icmp_ne (tgt := 35) hx hb dX2_changeCalled_25 (by decide) (fun c5 => ?_) (fun c5 => ?_)
    · have hw := hw.1 c5
      refine lv_aload_n hx hb dX2_changeCalled_35 rfl (lv_at hl 0 rfl) ?_
      refine hw_get (v := .int (σ k0 4)) hx hb hts hiX2 hown hK hP (hMe_lt hk0 hN) (bX_me hk0 _) rfl 4 (by decide) (List.mem_of_getElem? (i := 4) rfl) rfl rfl dX2_changeCalled_36 ?_
      exact hw_iret hx hb hr hlocks (σ) ⟨rfl, hw⟩ hP hS dX2_changeCalled_39
    have hw := hw.2 c5
    refine lv_aload_n hx hb dX2_changeCalled_28 rfl (lv_at hl 0 rfl) ?_
    refine hw_get (v := .int (σ k0 3)) hx hb hts hiX2 hown hK hP (hMe_lt hk0 hN) (bX_me hk0 _) rfl 3 (by decide) (List.mem_of_getElem? (i := 3) rfl) rfl rfl dX2_changeCalled_29 ?_
    refine lv_goto (tgt := 39) hx hb dX2_changeCalled_32 (by decide) ?_
    exact hw_iret hx hb hr hlocks (σ) ⟨rfl, hw⟩ hP hS dX2_changeCalled_39
  have hw := hw.2 c4
  refine lv_aload_n hx hb dX2_changeCalled_14 rfl (lv_at hl 0 rfl) ?_
  refine hw_get (v := .ref (ad (k0 + 1))) hx hb hts hiX2 hown hK hP (hMe_lt hk0 hN) (bX_me hk0 _) rfl 0 (by decide) (List.mem_of_getElem? (i := 2) rfl) rfl rfl dX2_changeCalled_15 ?_
  refine lv_iload_n hx hb dX2_changeCalled_18 rfl (lv_at hl 1 rfl) ?_
  refine hw_ki (va_runSN (As := [.ref (ad (k0 + 1)), .int a1]) (rest := []) ⟨hx, hb, hml, hown, hts⟩ (kc_X11_cell l D cy N hN ad hJ0 σ _ (k0 + 1) (hAi_me hk0) a1 _ hw) ⟨va_cnB 2 hts gX2_changeCalled_X11_cell_n37 rfl rfl rfl (hN1.at 3 rfl) (hts (.initialized RX11) (List.mem_of_getElem? (i := 6) rfl)) (by decide +kernel) ⟨Nat.le_of_ble_eq_true rfl, Nat.le_of_ble_eq_true rfl⟩, hts (.static yX11_cell) (List.mem_of_getElem? (i := 5) rfl), trivial⟩ (hw_pre hK hN1 hP) rfl rfl hl.1 rfl (lv_room (Nat.le_of_ble_eq_true rfl)) dX2_changeCalled_19 ⟨Nat.zero_le _, Nat.zero_le _⟩) hS (fun r7 σ6 H locs hw hP hS => ?_)
  obtain ⟨hu_, hw⟩ := hw
  rw [hu_] at hP
  exact hw_iret hx hb hr hlocks (σ) ⟨rfl, hw⟩ hP hS dX2_changeCalled_22
set_option maxHeartbeats 4000000 in
set_option maxRecDepth 100000 in
theorem kc_X2_complete (l : Launch) (D : va_G) (cy : Nat → ClassId) (N : Nat) (hN : 38 ≤ N) (ad : Nat → Nat) (hJ0 : hJ N ad) (σ : hSt) (sz : Nat) (k0 : Nat) (hk0 : hMe k0) (a1 : Int32) (a2 : Int32) (Q : hSt → Prop) (hw : wp_X2_complete k0 a1 a2 σ Q) : Met l yX2_complete wsX2_complete ({ frames := 2, cells := 0, slots := 0, locals := 46 } : Room) (va_Pc [.ref (ad k0), .int a1, .int a2] (hB D cy (hC N ad (bX cy ad) σ) sz)) (va_Qv (fun u : hSt => Q u) (hE D (fun u : hSt => hC N ad (bX cy ad) u)) (hA N ad sz)) 0 0 (hA N ad sz) := by
  refine Met.ofW (cc := cX2_complete) (maxL := 4) (ret := none) (by decide) rfl ?_
  intro p e s m args below meth c s₁ B hml hv
  obtain ⟨rfl, hsz, hP, hK, hN1⟩ := hv
  have hx := B.exec
  have hb := B.bytes
  have hr := B.returns
  have hts := atoms_spec (ws := wsX2_complete) B.pre
  have hown : s.vm.findClass RX2 = some m.cls := findClass_of_methodNamed B.named
  have hlocks := B.notSynchronized
  subst hsz
  have hS : va_S (hA N ad s.heap.size) s.heap s.heap [] := va_S.rf
  have hiX2 : ∀ w ∈ wsX20, w ∈ wsX2_complete := fun _ h => List.mem_cons_of_mem _ (List.mem_append_right _ h)
  have hl := lv_entry ([.ref (ad k0), .int a1, .int a2]) (n := 4) (Nat.le_of_ble_eq_true rfl)
  rw [lg_entry_eq]
  generalize (lg_sl ([.ref (ad k0), .int a1, .int a2]) ++ List.replicate (4 - (lg_sl ([.ref (ad k0), .int a1, .int a2])).length) Slot.unset).toArray = ls at hl ⊢
  have hl : lv_has ls 4 [(0, .ref (ad k0)), (1, .int a1), (2, .int a2)] := hl
  unfold wp_X2_complete at hw
  refine lv_aload_n hx hb dX2_complete_0 rfl (lv_at hl 0 rfl) ?_
  refine lv_iload_n hx hb dX2_complete_1 rfl (lv_at hl 1 rfl) ?_
  refine hw_put (x := a1) (j := 1) hx hb hts hiX2 tyX2 tyX2_ok nmX2 hown hK hJ0 hP hS (hMe_lt hk0 hN) (bX_me hk0 _) rfl (by decide) (List.mem_of_getElem? (i := 1) rfl) rfl rfl rfl rfl (Nat.le_of_ble_eq_true rfl) (by rw [bX_me hk0]; rfl) dX2_complete_2 (fun H locs hP hS => ?_)
  refine lv_aload_n hx hb dX2_complete_5 rfl (lv_at hl 0 rfl) ?_
  refine lv_iload_n hx hb dX2_complete_6 rfl (lv_at hl 2 rfl) ?_
  refine hw_put (x := a2) (j := 2) hx hb hts hiX2 tyX2 tyX2_ok nmX2 hown hK hJ0 hP hS (hMe_lt hk0 hN) (bX_me hk0 _) rfl (by decide) (List.mem_of_getElem? (i := 2) rfl) rfl rfl rfl rfl (Nat.le_of_ble_eq_true rfl) (by rw [bX_me hk0]; rfl) dX2_complete_7 (fun H locs hP hS => ?_)
  refine lv_aload_n hx hb dX2_complete_10 rfl (lv_at hl 0 rfl) ?_
  refine lv_iload_n hx hb dX2_complete_11 rfl (lv_at hl 2 rfl) ?_
  refine hw_ki (va_runS (As := [.int a2]) (rest := [.ref (ad k0)]) ⟨hx, hb, hml, hown, hts⟩ (kc_X6_rounds l D cy N ad (bX cy ad) (hup (hup σ k0 1 a1) k0 2 a2) _ a2 _ hw) (va_cwS 1 hts gX2_complete_X6_rounds rfl rfl rfl (by decide +kernel) ⟨Nat.le_of_ble_eq_true rfl, Nat.le_of_ble_eq_true rfl⟩) (hw_pre hK hN1 hP) rfl rfl hl.1 rfl (lv_room (Nat.le_of_ble_eq_true rfl)) dX2_complete_12 ⟨Nat.zero_le _, Nat.zero_le _⟩) hS (fun r2 σ1 H locs hw hP hS => ?_)
  obtain ⟨hu_, hw⟩ := hw
  rw [hu_] at hP
  refine lv_iload_n hx hb dX2_complete_15 rfl (lv_at hl 1 rfl) ?_
  refine lv_iconst (v := 1) hx hb dX2_complete_16 (by decide) ?_
  refine lv_isub hx hb dX2_complete_17 ?_
  refine hw_ki (va_runV (As := [.int r2, .int (a1 - (1 : Int32))]) (rest := []) ⟨hx, hb, hml, hown, hts⟩ (kc_X2_rowFrom l D cy N hN ad hJ0 (hup (hup σ k0 1 a1) k0 2 a2) _ k0 hk0 r2 (a1 - (1 : Int32)) _ hw) (cwV 2 hts gX2_complete_X2_rowFrom rfl rfl rfl (by decide +kernel) ⟨Nat.le_of_ble_eq_true rfl, Nat.le_of_ble_eq_true rfl⟩) (hw_preV hK hN1 hP (hMe_lt hk0 hN) (bX_me hk0 _) rfl) rfl rfl hl.1 rfl (lv_room (Nat.le_of_ble_eq_true rfl)) dX2_complete_18 ⟨Nat.zero_le _, Nat.zero_le _⟩) hS (fun r4 σ3 H locs hw hP hS => ?_)
  obtain ⟨hu_, hw⟩ := hw
  rw [hu_] at hP
  refine lv_istore_n (lv' := [(3, .int r4), (0, .ref (ad k0)), (1, .int a1), (2, .int a2)]) hx hb dX2_complete_21 rfl hl (by decide) rfl (fun ls hl => ?_)
  refine lv_aload_n hx hb dX2_complete_22 rfl (lv_at hl 1 rfl) ?_
  refine lv_iload_n hx hb dX2_complete_23 rfl (lv_at hl 0 rfl) ?_
  refine lv_aload_n hx hb dX2_complete_24 rfl (lv_at hl 1 rfl) ?_
  refine lv_iload_n hx hb dX2_complete_25 rfl (lv_at hl 2 rfl) ?_
  refine lv_iconst (v := 1) hx hb dX2_complete_26 (by decide) ?_
  refine lv_isub hx hb dX2_complete_27 ?_
  refine lv_iconst (v := 0) hx hb dX2_complete_28 (by decide) ?_
  refine hw_ki (va_runV (As := [.int (a1 - (1 : Int32)), .int (0 : Int32)]) (rest := [.int r4, .ref (ad k0)]) ⟨hx, hb, hml, hown, hts⟩ (kc_X2_changeCalled l D cy N hN ad hJ0 (hup (hup σ k0 1 a1) k0 2 a2) _ k0 hk0 (a1 - (1 : Int32)) (0 : Int32) _ hw) (cwV 2 hts gX2_complete_X2_changeCalled rfl rfl rfl (by decide +kernel) ⟨Nat.le_of_ble_eq_true rfl, Nat.le_of_ble_eq_true rfl⟩) (hw_preV hK hN1 hP (hMe_lt hk0 hN) (bX_me hk0 _) rfl) rfl rfl hl.1 rfl (lv_room (Nat.le_of_ble_eq_true rfl)) dX2_complete_29 ⟨Nat.zero_le _, Nat.zero_le _⟩) hS (fun r6 σ5 H locs hw hP hS => ?_)
  obtain ⟨hu_, hw⟩ := hw
  rw [hu_] at hP
  refine hw_ki (va_runS (As := [.int r4, .int r6]) (rest := [.ref (ad k0)]) ⟨hx, hb, hml, hown, hts⟩ (kc_X6_changed l D cy N ad (bX cy ad) (hup (hup σ k0 1 a1) k0 2 a2) _ r4 r6 _ hw) (va_cwS 2 hts gX2_complete_X6_changed rfl rfl rfl (by decide +kernel) ⟨Nat.le_of_ble_eq_true rfl, Nat.le_of_ble_eq_true rfl⟩) (hw_pre hK hN1 hP) rfl rfl hl.1 rfl (lv_room (Nat.le_of_ble_eq_true rfl)) dX2_complete_32 ⟨Nat.zero_le _, Nat.zero_le _⟩) hS (fun r8 σ7 H locs hw hP hS => ?_)
  obtain ⟨hu_, hw⟩ := hw
  rw [hu_] at hP
  refine hw_put (x := r8) (j := 5) hx hb hts hiX2 tyX2 tyX2_ok nmX2 hown hK hJ0 hP hS (hMe_lt hk0 hN) (bX_me hk0 _) rfl (by decide) (List.mem_of_getElem? (i := 3) rfl) rfl rfl rfl rfl (Nat.le_of_ble_eq_true rfl) (by rw [bX_me hk0]; rfl) dX2_complete_35 (fun H locs hP hS => ?_)
  refine lv_aload_n hx hb dX2_complete_38 rfl (lv_at hl 1 rfl) ?_
  refine lv_iload_n hx hb dX2_complete_39 rfl (lv_at hl 0 rfl) ?_
  refine lv_aload_n hx hb dX2_complete_40 rfl (lv_at hl 1 rfl) ?_
  refine hw_get (v := .int ((hup (hup (hup σ k0 1 a1) k0 2 a2) k0 5 r8) k0 3)) hx hb hts hiX2 hown hK hP (hMe_lt hk0 hN) (bX_me hk0 _) rfl 3 (by decide) (List.mem_of_getElem? (i := 4) rfl) rfl rfl dX2_complete_41 ?_
  refine hw_ki (va_runS (As := [.int r4, .int ((hup (hup (hup σ k0 1 a1) k0 2 a2) k0 5 r8) k0 3)]) (rest := [.ref (ad k0)]) ⟨hx, hb, hml, hown, hts⟩ (kc_X6_changed l D cy N ad (bX cy ad) (hup (hup (hup σ k0 1 a1) k0 2 a2) k0 5 r8) _ r4 ((hup (hup (hup σ k0 1 a1) k0 2 a2) k0 5 r8) k0 3) _ hw) (va_cwS 2 hts gX2_complete_X6_changed rfl rfl rfl (by decide +kernel) ⟨Nat.le_of_ble_eq_true rfl, Nat.le_of_ble_eq_true rfl⟩) (hw_pre hK hN1 hP) rfl rfl hl.1 rfl (lv_room (Nat.le_of_ble_eq_true rfl)) dX2_complete_44 ⟨Nat.zero_le _, Nat.zero_le _⟩) hS (fun r10 σ9 H locs hw hP hS => ?_)
  obtain ⟨hu_, hw⟩ := hw
  rw [hu_] at hP
  refine hw_put (x := r10) (j := 6) hx hb hts hiX2 tyX2 tyX2_ok nmX2 hown hK hJ0 hP hS (hMe_lt hk0 hN) (bX_me hk0 _) rfl (by decide) (List.mem_of_getElem? (i := 5) rfl) rfl rfl rfl rfl (Nat.le_of_ble_eq_true rfl) (by rw [bX_me hk0]; rfl) dX2_complete_47 (fun H locs hP hS => ?_)
  refine lv_aload_n hx hb dX2_complete_50 rfl (lv_at hl 1 rfl) ?_
  refine lv_iload_n hx hb dX2_complete_51 rfl (lv_at hl 0 rfl) ?_
  refine lv_aload_n hx hb dX2_complete_52 rfl (lv_at hl 1 rfl) ?_
  refine hw_get (v := .int ((hup (hup (hup (hup σ k0 1 a1) k0 2 a2) k0 5 r8) k0 6 r10) k0 4)) hx hb hts hiX2 hown hK hP (hMe_lt hk0 hN) (bX_me hk0 _) rfl 4 (by decide) (List.mem_of_getElem? (i := 6) rfl) rfl rfl dX2_complete_53 ?_
  refine hw_ki (va_runS (As := [.int r4, .int ((hup (hup (hup (hup σ k0 1 a1) k0 2 a2) k0 5 r8) k0 6 r10) k0 4)]) (rest := [.ref (ad k0)]) ⟨hx, hb, hml, hown, hts⟩ (kc_X6_changed l D cy N ad (bX cy ad) (hup (hup (hup (hup σ k0 1 a1) k0 2 a2) k0 5 r8) k0 6 r10) _ r4 ((hup (hup (hup (hup σ k0 1 a1) k0 2 a2) k0 5 r8) k0 6 r10) k0 4) _ hw) (va_cwS 2 hts gX2_complete_X6_changed rfl rfl rfl (by decide +kernel) ⟨Nat.le_of_ble_eq_true rfl, Nat.le_of_ble_eq_true rfl⟩) (hw_pre hK hN1 hP) rfl rfl hl.1 rfl (lv_room (Nat.le_of_ble_eq_true rfl)) dX2_complete_56 ⟨Nat.zero_le _, Nat.zero_le _⟩) hS (fun r12 σ11 H locs hw hP hS => ?_)
  obtain ⟨hu_, hw⟩ := hw
  rw [hu_] at hP
  refine hw_put (x := r12) (j := 7) hx hb hts hiX2 tyX2 tyX2_ok nmX2 hown hK hJ0 hP hS (hMe_lt hk0 hN) (bX_me hk0 _) rfl (by decide) (List.mem_of_getElem? (i := 7) rfl) rfl rfl rfl rfl (Nat.le_of_ble_eq_true rfl) (by rw [bX_me hk0]; rfl) dX2_complete_59 (fun H locs hP hS => ?_)
  exact hw_vret hx hb hr hlocks ((hup (hup (hup (hup (hup σ k0 1 a1) k0 2 a2) k0 5 r8) k0 6 r10) k0 7 r12)) hw hP hS dX2_complete_62
set_option maxHeartbeats 4000000 in
set_option maxRecDepth 100000 in
theorem kc_X3_takeEnd (l : Launch) (D : va_G) (cy : Nat → ClassId) (N : Nat) (hN : 38 ≤ N) (ad : Nat → Nat) (hJ0 : hJ N ad) (σ : hSt) (sz : Nat) (a1 : Int32) (Q : hSt → Prop) (hw : wp_X3_takeEnd a1 σ Q) : Met l yX3_takeEnd wsX3_takeEnd ({ frames := 3, cells := 0, slots := 0, locals := 69 } : Room) (va_Pc [.ref (ad 21), .int a1] (hB D cy (hC N ad (bX cy ad) σ) sz)) (va_Qv (fun u : hSt => Q u) (hE D (fun u : hSt => hC N ad (bX cy ad) u)) (hA N ad sz)) 0 0 (hA N ad sz) := by
  refine Met.ofW (cc := cX3_takeEnd) (maxL := 2) (ret := none) (by decide) rfl ?_
  intro p e s m args below meth c s₁ B hml hv
  obtain ⟨rfl, hsz, hP, hK, hN1⟩ := hv
  have hx := B.exec
  have hb := B.bytes
  have hr := B.returns
  have hts := atoms_spec (ws := wsX3_takeEnd) B.pre
  have hown : s.vm.findClass RX3 = some m.cls := findClass_of_methodNamed B.named
  have hlocks := B.notSynchronized
  subst hsz
  have hS : va_S (hA N ad s.heap.size) s.heap s.heap [] := va_S.rf
  have hiX3 : ∀ w ∈ wsX30, w ∈ wsX3_takeEnd := fun _ h => List.mem_cons_of_mem _ (List.mem_append_left _ (List.mem_append_left _ (List.mem_append_right _ h)))
  have hl := lv_entry ([.ref (ad 21), .int a1]) (n := 2) (Nat.le_of_ble_eq_true rfl)
  rw [lg_entry_eq]
  generalize (lg_sl ([.ref (ad 21), .int a1]) ++ List.replicate (2 - (lg_sl ([.ref (ad 21), .int a1])).length) Slot.unset).toArray = ls at hl ⊢
  have hl : lv_has ls 2 [(0, .ref (ad 21)), (1, .int a1)] := hl
  unfold wp_X3_takeEnd at hw
  refine lv_aload_n hx hb dX3_takeEnd_0 rfl (lv_at hl 0 rfl) ?_
  refine hw_get (v := .int (σ 21 5)) hx hb hts hiX3 hown hK hP (Nat.lt_of_lt_of_le (by decide) hN) (bX_21 _) rfl 5 (by decide) (List.mem_of_getElem? (i := 1) rfl) rfl rfl dX3_takeEnd_1 ?_
  refine lv_iconst (v := 2) hx hb dX3_takeEnd_4 (by decide) ?_
  refine lv_icmp_ne (tgt := 15) hx hb dX3_takeEnd_5 (by decide) (fun c1 => ?_) (fun c1 => ?_)
  · have hw := hw.1 c1
    refine lv_aload_n hx hb dX3_takeEnd_15 rfl (lv_at hl 0 rfl) ?_
    refine lv_iconst (v := 1) hx hb dX3_takeEnd_16 (by decide) ?_
    refine lv_iload_n hx hb dX3_takeEnd_17 rfl (lv_at hl 1 rfl) ?_
    refine hw_kv (va_runU (As := [.int (1 : Int32), .int a1]) (rest := []) ⟨hx, hb, hml, hown, hts⟩ (kc_X10_refuse_r21 l D cy N hN ad hJ0 σ _ (1 : Int32) a1 _ hw) (va_cwU 2 hts gX3_takeEnd_X10_refuse_u73X3 rfl rfl rfl rfl (by decide +kernel) ⟨Nat.le_of_ble_eq_true rfl, Nat.le_of_ble_eq_true rfl⟩) (hw_preV hK hN1 hP (Nat.lt_of_lt_of_le (by decide) hN) (bX_21 _) rfl) rfl rfl hl.1 rfl (lv_room (Nat.le_of_ble_eq_true rfl)) dX3_takeEnd_18 ⟨Nat.zero_le _, Nat.zero_le _⟩) hS (fun σ2 H locs hw hP hS => ?_)
    exact hw_vret hx hb hr hlocks (σ2) hw hP hS dX3_takeEnd_21
  have hw := hw.2 c1
  refine lv_aload_n hx hb dX3_takeEnd_8 rfl (lv_at hl 0 rfl) ?_
  refine hw_ki (va_runV (As := []) (rest := []) ⟨hx, hb, hml, hown, hts⟩ (kc_X3_changeEnded l D cy N hN ad hJ0 σ _  _ hw) (cwV 0 hts gX3_takeEnd_X3_changeEnded rfl rfl rfl (by decide +kernel) ⟨Nat.le_of_ble_eq_true rfl, Nat.le_of_ble_eq_true rfl⟩) (hw_preV hK hN1 hP (Nat.lt_of_lt_of_le (by decide) hN) (bX_21 _) rfl) rfl rfl hl.1 rfl (lv_room (Nat.le_of_ble_eq_true rfl)) dX3_takeEnd_9 ⟨Nat.zero_le _, Nat.zero_le _⟩) hS (fun r4 σ3 H locs hw hP hS => ?_)
  obtain ⟨hu_, hw⟩ := hw
  rw [hu_] at hP
  refine lv_if_ne (tgt := 22) hx hb dX3_takeEnd_12 (by decide) (fun c5 => ?_) (fun c5 => ?_)
  · have hw := hw.1 c5
    refine lv_aload_n hx hb dX3_takeEnd_22 rfl (lv_at hl 0 rfl) ?_
    refine hw_get (v := .ref (ad 22)) hx hb hts hiX3 hown hK hP (Nat.lt_of_lt_of_le (by decide) hN) (bX_21 _) rfl 3 (by decide) (List.mem_of_getElem? (i := 2) rfl) rfl rfl dX3_takeEnd_23 ?_
    refine lv_aload_n hx hb dX3_takeEnd_26 rfl (lv_at hl 0 rfl) ?_
    refine hw_get (v := .int (σ 21 7)) hx hb hts hiX3 hown hK hP (Nat.lt_of_lt_of_le (by decide) hN) (bX_21 _) rfl 7 (by decide) (List.mem_of_getElem? (i := 3) rfl) rfl rfl dX3_takeEnd_27 ?_
    refine lv_aload_n hx hb dX3_takeEnd_30 rfl (lv_at hl 0 rfl) ?_
    refine hw_get (v := .int (σ 21 4)) hx hb hts hiX3 hown hK hP (Nat.lt_of_lt_of_le (by decide) hN) (bX_21 _) rfl 4 (by decide) (List.mem_of_getElem? (i := 4) rfl) rfl rfl dX3_takeEnd_31 ?_
    refine hw_kv (va_runV (As := [.int (σ 21 7), .int (σ 21 4)]) (rest := []) ⟨hx, hb, hml, hown, hts⟩ (kc_X2_complete l D cy N hN ad hJ0 σ _ 22 hMe_22 (σ 21 7) (σ 21 4) _ hw) (cwV 2 hts gX3_takeEnd_X2_complete rfl rfl rfl (by decide +kernel) ⟨Nat.le_of_ble_eq_true rfl, Nat.le_of_ble_eq_true rfl⟩) (hw_preV hK hN1 hP (Nat.lt_of_lt_of_le (by decide) hN) (bX_22 _) rfl) rfl rfl hl.1 rfl (lv_room (Nat.le_of_ble_eq_true rfl)) dX3_takeEnd_34 ⟨Nat.zero_le _, Nat.zero_le _⟩) hS (fun σ6 H locs hw hP hS => ?_)
    exact hw_vret hx hb hr hlocks (σ6) hw hP hS dX3_takeEnd_37
  have hw := hw.2 c5
  refine lv_aload_n hx hb dX3_takeEnd_15 rfl (lv_at hl 0 rfl) ?_
  refine lv_iconst (v := 1) hx hb dX3_takeEnd_16 (by decide) ?_
  refine lv_iload_n hx hb dX3_takeEnd_17 rfl (lv_at hl 1 rfl) ?_
  refine hw_kv (va_runU (As := [.int (1 : Int32), .int a1]) (rest := []) ⟨hx, hb, hml, hown, hts⟩ (kc_X10_refuse_r21 l D cy N hN ad hJ0 σ _ (1 : Int32) a1 _ hw) (va_cwU 2 hts gX3_takeEnd_X10_refuse_u73X3 rfl rfl rfl rfl (by decide +kernel) ⟨Nat.le_of_ble_eq_true rfl, Nat.le_of_ble_eq_true rfl⟩) (hw_preV hK hN1 hP (Nat.lt_of_lt_of_le (by decide) hN) (bX_21 _) rfl) rfl rfl hl.1 rfl (lv_room (Nat.le_of_ble_eq_true rfl)) dX3_takeEnd_18 ⟨Nat.zero_le _, Nat.zero_le _⟩) hS (fun σ7 H locs hw hP hS => ?_)
  exact hw_vret hx hb hr hlocks (σ7) hw hP hS dX3_takeEnd_21

set_option maxHeartbeats 4000000 in
set_option maxRecDepth 100000 in
theorem kc_X6_fromHead (l : Launch) (D : va_G) (cy : Nat → ClassId) (N : Nat) (ad : Nat → Nat) (b : hCell) (σ : hSt) (sz : Nat) (a0 : Int32) (a1 : Int32) (a2 : Int32) (Q : Int32 → Prop) (hw : wp_X6_fromHead a0 a1 a2 Q) : Met l yX6_fromHead wsX6_fromHead ({ frames := 1, cells := 0, slots := 0, locals := 21 } : Room) (va_Pc [.int a0, .int a1, .int a2] (hB D cy (hC N ad b σ) sz)) (va_Qi (fun (r : Int32) (u : hSt) => u = σ ∧ Q r) (hE D (fun u : hSt => hC N ad b u)) (hA N ad sz)) 0 0 (hA N ad sz) := by
  refine Met.ofW (cc := cX6_fromHead) (maxL := 5) (ret := (some .int)) (by decide) rfl ?_
  intro p e s m args below meth c s₁ B hml hv
  obtain ⟨rfl, hsz, hP, hK, hN1⟩ := hv
  have hx := B.exec
  have hb := B.bytes
  have hr := B.returns
  have hts := atoms_spec (ws := wsX6_fromHead) B.pre
  have hown : s.vm.findClass RX6 = some m.cls := findClass_of_methodNamed B.named
  have hlocks := B.notSynchronized
  subst hsz
  have hS : va_S (hA N ad s.heap.size) s.heap s.heap [] := va_S.rf
  have hl := lv_entry ([.int a0, .int a1, .int a2]) (n := 5) (Nat.le_of_ble_eq_true rfl)
  rw [lg_entry_eq]
  generalize (lg_sl ([.int a0, .int a1, .int a2]) ++ List.replicate (5 - (lg_sl ([.int a0, .int a1, .int a2])).length) Slot.unset).toArray = ls at hl ⊢
  have hl : lv_has ls 5 [(0, .int a0), (1, .int a1), (2, .int a2)] := hl
  unfold wp_X6_fromHead at hw
  refine lv_iconst (v := 0) hx hb dX6_fromHead_0 (by decide) ?_
  refine lv_istore_n (lv' := [(3, .int (0 : Int32)), (0, .int a0), (1, .int a1), (2, .int a2)]) hx hb dX6_fromHead_1 rfl hl (by decide) rfl (fun ls hl => ?_)
  refine lv_iconst (v := 0) hx hb dX6_fromHead_2 (by decide) ?_
  refine lv_istore (lv' := [(4, .int (0 : Int32)), (3, .int (0 : Int32)), (0, .int a0), (1, .int a1), (2, .int a2)]) hx hb dX6_fromHead_3 hl (by decide) rfl (fun ls hl => ?_)
  refine hw (fun (v3_1 : Int32) (v4_2 : Int32) => ∀ (H : Heap) (locs : List Loc) (ls : Array Slot), va_P D vwCl (hC N ad b σ) H → va_S (hA N ad s.heap.size) s.heap H locs → lv_has ls 5 [(0, .int a0), (1, .int a1), (2, .int a2), (3, .int v3_1), (4, .int v4_2)] → W p l e (headSpec wsX6_fromHead ({ frames := 1, cells := 0, slots := 0, locals := 21 } : Room)).room s m ([Value.int a0, Value.int a1, Value.int a2] : List Value).toArray below meth c H locs 0 0 (MQ below (va_Qi (fun (r : Int32) (u : hSt) => u = σ ∧ Q r) (hE D (fun u : hSt => hC N ad b u)) (hA N ad s.heap.size)) ([Value.int a0, Value.int a1, Value.int a2] : List Value).toArray s 0 0 (hA N ad s.heap.size)) (F0 m 5 ls [])) (fun v3_1 v4_2 hw H locs ls hP hS hl => ?_) _ _ _ hP hS (lv_sub hl [2, 3, 4, 1, 0] rfl)
  refine lv_iload hx hb dX6_fromHead_5 (lv_at hl 4 rfl) ?_
  refine lv_iload_n hx hb dX6_fromHead_7 rfl (lv_at hl 2 rfl) ?_
  refine lv_icmp_ge (tgt := 35) hx hb dX6_fromHead_8 (by decide) (fun c3 => ?_) (fun c3 => ?_)
  · have hw := hw.1 c3
    refine lv_iload_n hx hb dX6_fromHead_35 rfl (lv_at hl 3 rfl) ?_
    exact hw_iret hx hb hr hlocks (σ) ⟨rfl, hw⟩ hP hS dX6_fromHead_36
  have hw := hw.2 c3
  refine lv_iload_n hx hb dX6_fromHead_11 rfl (lv_at hl 3 rfl) ?_
  refine lv_iload_n hx hb dX6_fromHead_12 rfl (lv_at hl 0 rfl) ?_
  refine lv_iload_n hx hb dX6_fromHead_13 rfl (lv_at hl 1 rfl) ?_
  refine lv_iload hx hb dX6_fromHead_14 (lv_at hl 4 rfl) ?_
  refine hw_ki (va_runS (As := [.int a1, .int v4_2]) (rest := [.int a0, .int v3_1]) ⟨hx, hb, hml, hown, hts⟩ (kc_X6_bellAt l D cy N ad b σ _ a1 v4_2 _ hw) (va_cwS 2 hts gX6_fromHead_X6_bellAt rfl rfl rfl (by decide +kernel) ⟨Nat.le_of_ble_eq_true rfl, Nat.le_of_ble_eq_true rfl⟩) (hw_pre hK hN1 hP) rfl rfl hl.1 rfl (lv_room (Nat.le_of_ble_eq_true rfl)) dX6_fromHead_16 ⟨Nat.zero_le _, Nat.zero_le _⟩) hS (fun r5 σ4 H locs hw hP hS => ?_)
  obtain ⟨hu_, hw⟩ := hw
  rw [hu_] at hP
  refine hw_ki (va_runS (As := [.int a0, .int r5]) (rest := [.int v3_1]) ⟨hx, hb, hml, hown, hts⟩ (kc_X6_bellAt l D cy N ad b σ _ a0 r5 _ hw) (va_cwS 2 hts gX6_fromHead_X6_bellAt rfl rfl rfl (by decide +kernel) ⟨Nat.le_of_ble_eq_true rfl, Nat.le_of_ble_eq_true rfl⟩) (hw_pre hK hN1 hP) rfl rfl hl.1 rfl (lv_room (Nat.le_of_ble_eq_true rfl)) dX6_fromHead_19 ⟨Nat.zero_le _, Nat.zero_le _⟩) hS (fun r7 σ6 H locs hw hP hS => ?_)
  obtain ⟨hu_, hw⟩ := hw
  rw [hu_] at hP
  refine lv_iconst (v := 3) hx hb dX6_fromHead_22 (by decide) ?_
  refine lv_iload hx hb dX6_fromHead_23 (lv_at hl 4 rfl) ?_
  refine lv_imul hx hb dX6_fromHead_25 ?_
  refine lv_ishl hx hb dX6_fromHead_26 ?_
  refine lv_ior hx hb dX6_fromHead_27 ?_
  refine lv_topi (fun x3_8 ex3_8 => ?_)
  have hw := hw x3_8 ex3_8
  refine lv_istore_n (lv' := [(3, .int x3_8), (0, .int a0), (1, .int a1), (2, .int a2), (4, .int v4_2)]) hx hb dX6_fromHead_28 rfl hl (by decide) rfl (fun ls hl => ?_)
  obtain ⟨x4_9, ex4_9⟩ : ∃ z : Int32, z = v4_2 + (1 : Int32) := ⟨_, rfl⟩
  have hw := hw x4_9 ex4_9
  refine lv_iinc (v := x4_9) (lv' := [(4, .int x4_9), (3, .int x3_8), (0, .int a0), (1, .int a1), (2, .int a2)]) hx hb dX6_fromHead_29 hl (k := 4) rfl (by rw [ex4_9]; rfl) (by decide) rfl (fun ls hl => ?_)
  refine lv_goto (tgt := 5) hx hb dX6_fromHead_32 (by decide) ?_
  exact hw _ _ _ hP hS (lv_sub hl [2, 3, 4, 1, 0] rfl)
set_option maxHeartbeats 4000000 in
set_option maxRecDepth 100000 in
theorem kc_X2_following (l : Launch) (D : va_G) (cy : Nat → ClassId) (N : Nat) (hN : 38 ≤ N) (ad : Nat → Nat) (hJ0 : hJ N ad) (σ : hSt) (sz : Nat) (k0 : Nat) (hk0 : hMe k0) (a1 : Int32) (a2 : Int32) (Q : Int32 → Prop) (hw : wp_X2_following k0 a1 a2 σ Q) : Met l yX2_following wsX2_following ({ frames := 2, cells := 0, slots := 0, locals := 45 } : Room) (va_Pc [.ref (ad k0), .int a1, .int a2] (hB D cy (hC N ad (bX cy ad) σ) sz)) (va_Qi (fun (r : Int32) (u : hSt) => u = σ ∧ Q r) (hE D (fun u : hSt => hC N ad (bX cy ad) u)) (hA N ad sz)) 0 0 (hA N ad sz) := by
  refine Met.ofW (cc := cX2_following) (maxL := 3) (ret := (some .int)) (by decide) rfl ?_
  intro p e s m args below meth c s₁ B hml hv
  obtain ⟨rfl, hsz, hP, hK, hN1⟩ := hv
  have hx := B.exec
  have hb := B.bytes
  have hr := B.returns
  have hts := atoms_spec (ws := wsX2_following) B.pre
  have hown : s.vm.findClass RX2 = some m.cls := findClass_of_methodNamed B.named
  have hlocks := B.notSynchronized
  subst hsz
  have hS : va_S (hA N ad s.heap.size) s.heap s.heap [] := va_S.rf
  have hiX2 : ∀ w ∈ wsX20, w ∈ wsX2_following := fun _ h => List.mem_cons_of_mem _ (List.mem_append_right _ h)
  have hl := lv_entry ([.ref (ad k0), .int a1, .int a2]) (n := 3) (Nat.le_of_ble_eq_true rfl)
  rw [lg_entry_eq]
  generalize (lg_sl ([.ref (ad k0), .int a1, .int a2]) ++ List.replicate (3 - (lg_sl ([.ref (ad k0), .int a1, .int a2])).length) Slot.unset).toArray = ls at hl ⊢
  have hl : lv_has ls 3 [(0, .ref (ad k0)), (1, .int a1), (2, .int a2)] := hl
  unfold wp_X2_following at hw
  refine lv_iload_n hx hb dX2_following_0 rfl (lv_at hl 2 rfl) ?_
  refine lv_if_ne (tgt := 17) hx hb dX2_following_1 (by decide) (fun c1 => ?_) (fun c1 => ?_)
  · have hw := hw.1 c1
    refine lv_iload_n hx hb dX2_following_17 rfl (lv_at hl 1 rfl) ?_
    refine lv_iload_n hx hb dX2_following_18 rfl (lv_at hl 2 rfl) ?_
    refine lv_iconst (v := 1) hx hb dX2_following_19 (by decide) ?_
    refine lv_icmp_ne (tgt := 30) hx hb dX2_following_20 (by decide) (fun c2 => ?_) (fun c2 => ?_)
    · have hw := hw.1 c2
      refine lv_aload_n hx hb dX2_following_30 rfl (lv_at hl 0 rfl) ?_
      refine hw_get (v := .int (σ k0 7)) hx hb hts hiX2 hown hK hP (hMe_lt hk0 hN) (bX_me hk0 _) rfl 7 (by decide) (List.mem_of_getElem? (i := 4) rfl) rfl rfl dX2_following_31 ?_
      refine lv_aload_n hx hb dX2_following_34 rfl (lv_at hl 0 rfl) ?_
      refine hw_get (v := .int (σ k0 2)) hx hb hts hiX2 hown hK hP (hMe_lt hk0 hN) (bX_me hk0 _) rfl 2 (by decide) (List.mem_of_getElem? (i := 2) rfl) rfl rfl dX2_following_35 ?_
      refine hw_ki (va_runS (As := [.int a1, .int (σ k0 7), .int (σ k0 2)]) (rest := []) ⟨hx, hb, hml, hown, hts⟩ (kc_X6_fromHead l D cy N ad (bX cy ad) σ _ a1 (σ k0 7) (σ k0 2) _ hw) (va_cwS 3 hts gX2_following_X6_fromHead rfl rfl rfl (by decide +kernel) ⟨Nat.le_of_ble_eq_true rfl, Nat.le_of_ble_eq_true rfl⟩) (hw_pre hK hN1 hP) rfl rfl hl.1 rfl (lv_room (Nat.le_of_ble_eq_true rfl)) dX2_following_38 ⟨Nat.zero_le _, Nat.zero_le _⟩) hS (fun r4 σ3 H locs hw hP hS => ?_)
      obtain ⟨hu_, hw⟩ := hw
      rw [hu_] at hP
      exact hw_iret hx hb hr hlocks (σ) ⟨rfl, hw⟩ hP hS dX2_following_41
    have hw := hw.2 c2
    refine lv_aload_n hx hb dX2_following_23 rfl (lv_at hl 0 rfl) ?_
    refine hw_get (v := .int (σ k0 6)) hx hb hts hiX2 hown hK hP (hMe_lt hk0 hN) (bX_me hk0 _) rfl 6 (by decide) (List.mem_of_getElem? (i := 3) rfl) rfl rfl dX2_following_24 ?_
    refine lv_goto (tgt := 34) hx hb dX2_following_27 (by decide) ?_
    refine lv_aload_n hx hb dX2_following_34 rfl (lv_at hl 0 rfl) ?_
    refine hw_get (v := .int (σ k0 2)) hx hb hts hiX2 hown hK hP (hMe_lt hk0 hN) (bX_me hk0 _) rfl 2 (by decide) (List.mem_of_getElem? (i := 2) rfl) rfl rfl dX2_following_35 ?_
    refine hw_ki (va_runS (As := [.int a1, .int (σ k0 6), .int (σ k0 2)]) (rest := []) ⟨hx, hb, hml, hown, hts⟩ (kc_X6_fromHead l D cy N ad (bX cy ad) σ _ a1 (σ k0 6) (σ k0 2) _ hw) (va_cwS 3 hts gX2_following_X6_fromHead rfl rfl rfl (by decide +kernel) ⟨Nat.le_of_ble_eq_true rfl, Nat.le_of_ble_eq_true rfl⟩) (hw_pre hK hN1 hP) rfl rfl hl.1 rfl (lv_room (Nat.le_of_ble_eq_true rfl)) dX2_following_38 ⟨Nat.zero_le _, Nat.zero_le _⟩) hS (fun r6 σ5 H locs hw hP hS => ?_)
    obtain ⟨hu_, hw⟩ := hw
    rw [hu_] at hP
    exact hw_iret hx hb hr hlocks (σ) ⟨rfl, hw⟩ hP hS dX2_following_41
  have hw := hw.2 c1
  refine lv_iload_n hx hb dX2_following_4 rfl (lv_at hl 1 rfl) ?_
  refine lv_aload_n hx hb dX2_following_5 rfl (lv_at hl 0 rfl) ?_
  refine hw_get (v := .int (σ k0 5)) hx hb hts hiX2 hown hK hP (hMe_lt hk0 hN) (bX_me hk0 _) rfl 5 (by decide) (List.mem_of_getElem? (i := 1) rfl) rfl rfl dX2_following_6 ?_
  refine lv_aload_n hx hb dX2_following_9 rfl (lv_at hl 0 rfl) ?_
  refine hw_get (v := .int (σ k0 2)) hx hb hts hiX2 hown hK hP (hMe_lt hk0 hN) (bX_me hk0 _) rfl 2 (by decide) (List.mem_of_getElem? (i := 2) rfl) rfl rfl dX2_following_10 ?_
  refine hw_ki (va_runS (As := [.int a1, .int (σ k0 5), .int (σ k0 2)]) (rest := []) ⟨hx, hb, hml, hown, hts⟩ (kc_X6_fromHead l D cy N ad (bX cy ad) σ _ a1 (σ k0 5) (σ k0 2) _ hw) (va_cwS 3 hts gX2_following_X6_fromHead rfl rfl rfl (by decide +kernel) ⟨Nat.le_of_ble_eq_true rfl, Nat.le_of_ble_eq_true rfl⟩) (hw_pre hK hN1 hP) rfl rfl hl.1 rfl (lv_room (Nat.le_of_ble_eq_true rfl)) dX2_following_13 ⟨Nat.zero_le _, Nat.zero_le _⟩) hS (fun r8 σ7 H locs hw hP hS => ?_)
  obtain ⟨hu_, hw⟩ := hw
  rw [hu_] at hP
  exact hw_iret hx hb hr hlocks (σ) ⟨rfl, hw⟩ hP hS dX2_following_16
set_option maxHeartbeats 4000000 in
set_option maxRecDepth 100000 in
theorem kc_X5_add (l : Launch) (D : va_G) (cy : Nat → ClassId) (N : Nat) (hN : 38 ≤ N) (ad : Nat → Nat) (hJ0 : hJ N ad) (σ : hSt) (sz : Nat) (a1 : Int32) (a2 : Int32) (Q : hSt → Prop) (hw : wp_X5_add a1 a2 σ Q) : Met l yX5_add wsX5_add ({ frames := 3, cells := 0, slots := 0, locals := 67 } : Room) (va_Pc [.ref (ad 31), .int a1, .int a2] (hB D cy (hC N ad (bX cy ad) σ) sz)) (va_Qv (fun u : hSt => Q u) (hE D (fun u : hSt => hC N ad (bX cy ad) u)) (hA N ad sz)) 0 0 (hA N ad sz) := by
  refine Met.ofW (cc := cX5_add) (maxL := 3) (ret := none) (by decide) rfl ?_
  intro p e s m args below meth c s₁ B hml hv
  obtain ⟨rfl, hsz, hP, hK, hN1⟩ := hv
  have hx := B.exec
  have hb := B.bytes
  have hr := B.returns
  have hts := atoms_spec (ws := wsX5_add) B.pre
  have hown : s.vm.findClass RX5 = some m.cls := findClass_of_methodNamed B.named
  have hlocks := B.notSynchronized
  subst hsz
  have hS : va_S (hA N ad s.heap.size) s.heap s.heap [] := va_S.rf
  have hiX5 : ∀ w ∈ wsX50, w ∈ wsX5_add := fun _ h => List.mem_cons_of_mem _ (List.mem_append_left _ (List.mem_append_left _ (List.mem_append_right _ h)))
  have hl := lv_entry ([.ref (ad 31), .int a1, .int a2]) (n := 3) (Nat.le_of_ble_eq_true rfl)
  rw [lg_entry_eq]
  generalize (lg_sl ([.ref (ad 31), .int a1, .int a2]) ++ List.replicate (3 - (lg_sl ([.ref (ad 31), .int a1, .int a2])).length) Slot.unset).toArray = ls at hl ⊢
  have hl : lv_has ls 3 [(0, .ref (ad 31)), (1, .int a1), (2, .int a2)] := hl
  unfold wp_X5_add at hw
  refine lv_aload_n hx hb dX5_add_0 rfl (lv_at hl 0 rfl) ?_
  refine hw_get (v := .int (σ 31 6)) hx hb hts hiX5 hown hK hP (Nat.lt_of_lt_of_le (by decide) hN) (bX_31 _) rfl 6 (by decide) (List.mem_of_getElem? (i := 1) rfl) rfl rfl dX5_add_1 ?_
  refine lv_sipush (v := 1000) hx hb dX5_add_4 (by decide) ?_
  refine lv_icmp_lt (tgt := 11) hx hb dX5_add_7 (by decide) (fun c1 => ?_) (fun c1 => ?_)
  · have hw := hw.1 c1
    refine lv_aload_n hx hb dX5_add_11 rfl (lv_at hl 0 rfl) ?_
    refine hw_get (v := .ref (ad 32)) hx hb hts hiX5 hown hK hP (Nat.lt_of_lt_of_le (by decide) hN) (bX_31 _) rfl 2 (by decide) (List.mem_of_getElem? (i := 2) rfl) rfl rfl dX5_add_12 ?_
    refine lv_aload_n hx hb dX5_add_15 rfl (lv_at hl 0 rfl) ?_
    refine hw_get (v := .int (σ 31 6)) hx hb hts hiX5 hown hK hP (Nat.lt_of_lt_of_le (by decide) hN) (bX_31 _) rfl 6 (by decide) (List.mem_of_getElem? (i := 1) rfl) rfl rfl dX5_add_16 ?_
    refine lv_iload_n hx hb dX5_add_19 rfl (lv_at hl 1 rfl) ?_
    refine lv_iconst (v := 3) hx hb dX5_add_20 (by decide) ?_
    refine lv_imul hx hb dX5_add_21 ?_
    refine lv_iload_n hx hb dX5_add_22 rfl (lv_at hl 2 rfl) ?_
    refine lv_iadd hx hb dX5_add_23 ?_
    refine hw_kv (va_runSN (As := [.ref (ad 32), .int (σ 31 6), .int ((a1 * (3 : Int32)) + a2)]) (rest := []) ⟨hx, hb, hml, hown, hts⟩ (kc_X11_setCell l D cy N hN ad hJ0 σ _ 32 hAi_32 (σ 31 6) ((a1 * (3 : Int32)) + a2) _ hw) ⟨va_cnB 3 hts gX5_add_X11_setCell_n58 rfl rfl rfl (hN1.at 5 rfl) (hts (.initialized RX11) (List.mem_of_getElem? (i := 9) rfl)) (by decide +kernel) ⟨Nat.le_of_ble_eq_true rfl, Nat.le_of_ble_eq_true rfl⟩, hts (.static yX11_setCell) (List.mem_of_getElem? (i := 8) rfl), trivial⟩ (hw_pre hK hN1 hP) rfl rfl hl.1 rfl (lv_room (Nat.le_of_ble_eq_true rfl)) dX5_add_24 ⟨Nat.zero_le _, Nat.zero_le _⟩) hS (fun σ2 H locs hw hP hS => ?_)
    refine lv_aload_n hx hb dX5_add_27 rfl (lv_at hl 0 rfl) ?_
    refine hw_get (v := .ref (ad 33)) hx hb hts hiX5 hown hK hP (Nat.lt_of_lt_of_le (by decide) hN) (bX_31 _) rfl 3 (by decide) (List.mem_of_getElem? (i := 3) rfl) rfl rfl dX5_add_28 ?_
    refine lv_aload_n hx hb dX5_add_31 rfl (lv_at hl 0 rfl) ?_
    refine hw_get (v := .int (σ2 31 6)) hx hb hts hiX5 hown hK hP (Nat.lt_of_lt_of_le (by decide) hN) (bX_31 _) rfl 6 (by decide) (List.mem_of_getElem? (i := 1) rfl) rfl rfl dX5_add_32 ?_
    refine lv_aload_n hx hb dX5_add_35 rfl (lv_at hl 0 rfl) ?_
    refine hw_get (v := .int (σ2 31 8)) hx hb hts hiX5 hown hK hP (Nat.lt_of_lt_of_le (by decide) hN) (bX_31 _) rfl 8 (by decide) (List.mem_of_getElem? (i := 4) rfl) rfl rfl dX5_add_36 ?_
    refine hw_kv (va_runSN (As := [.ref (ad 33), .int (σ2 31 6), .int (σ2 31 8)]) (rest := []) ⟨hx, hb, hml, hown, hts⟩ (kc_X11_setCell l D cy N hN ad hJ0 σ2 _ 33 hAi_33 (σ2 31 6) (σ2 31 8) _ hw) ⟨va_cnB 3 hts gX5_add_X11_setCell_n58 rfl rfl rfl (hN1.at 5 rfl) (hts (.initialized RX11) (List.mem_of_getElem? (i := 9) rfl)) (by decide +kernel) ⟨Nat.le_of_ble_eq_true rfl, Nat.le_of_ble_eq_true rfl⟩, hts (.static yX11_setCell) (List.mem_of_getElem? (i := 8) rfl), trivial⟩ (hw_pre hK hN1 hP) rfl rfl hl.1 rfl (lv_room (Nat.le_of_ble_eq_true rfl)) dX5_add_39 ⟨Nat.zero_le _, Nat.zero_le _⟩) hS (fun σ3 H locs hw hP hS => ?_)
    refine lv_aload_n hx hb dX5_add_42 rfl (lv_at hl 0 rfl) ?_
    refine hw_get (v := .ref (ad 34)) hx hb hts hiX5 hown hK hP (Nat.lt_of_lt_of_le (by decide) hN) (bX_31 _) rfl 4 (by decide) (List.mem_of_getElem? (i := 5) rfl) rfl rfl dX5_add_43 ?_
    refine lv_aload_n hx hb dX5_add_46 rfl (lv_at hl 0 rfl) ?_
    refine hw_get (v := .int (σ3 31 6)) hx hb hts hiX5 hown hK hP (Nat.lt_of_lt_of_le (by decide) hN) (bX_31 _) rfl 6 (by decide) (List.mem_of_getElem? (i := 1) rfl) rfl rfl dX5_add_47 ?_
    refine lv_aload_n hx hb dX5_add_50 rfl (lv_at hl 0 rfl) ?_
    refine hw_get (v := .int (σ3 31 7)) hx hb hts hiX5 hown hK hP (Nat.lt_of_lt_of_le (by decide) hN) (bX_31 _) rfl 7 (by decide) (List.mem_of_getElem? (i := 6) rfl) rfl rfl dX5_add_51 ?_
    refine hw_kv (va_runSN (As := [.ref (ad 34), .int (σ3 31 6), .int (σ3 31 7)]) (rest := []) ⟨hx, hb, hml, hown, hts⟩ (kc_X11_setCell l D cy N hN ad hJ0 σ3 _ 34 hAi_34 (σ3 31 6) (σ3 31 7) _ hw) ⟨va_cnB 3 hts gX5_add_X11_setCell_n58 rfl rfl rfl (hN1.at 5 rfl) (hts (.initialized RX11) (List.mem_of_getElem? (i := 9) rfl)) (by decide +kernel) ⟨Nat.le_of_ble_eq_true rfl, Nat.le_of_ble_eq_true rfl⟩, hts (.static yX11_setCell) (List.mem_of_getElem? (i := 8) rfl), trivial⟩ (hw_pre hK hN1 hP) rfl rfl hl.1 rfl (lv_room (Nat.le_of_ble_eq_true rfl)) dX5_add_54 ⟨Nat.zero_le _, Nat.zero_le _⟩) hS (fun σ4 H locs hw hP hS => ?_)
    refine lv_aload_n hx hb dX5_add_57 rfl (lv_at hl 0 rfl) ?_
    refine lv_dup hx hb dX5_add_58 rfl ?_
    refine hw_get (v := .int (σ4 31 6)) hx hb hts hiX5 hown hK hP (Nat.lt_of_lt_of_le (by decide) hN) (bX_31 _) rfl 6 (by decide) (List.mem_of_getElem? (i := 1) rfl) rfl rfl dX5_add_59 ?_
    refine lv_iconst (v := 1) hx hb dX5_add_62 (by decide) ?_
    refine lv_iadd hx hb dX5_add_63 ?_
    refine hw_put (x := ((σ4 31 6) + (1 : Int32))) (j := 6) hx hb hts hiX5 tyX5 tyX5_ok nmX5 hown hK hJ0 hP hS (Nat.lt_of_lt_of_le (by decide) hN) (bX_31 _) rfl (by decide) (List.mem_of_getElem? (i := 1) rfl) rfl rfl rfl rfl (Nat.le_of_ble_eq_true rfl) (by rw [bX_31]; rfl) dX5_add_64 (fun H locs hP hS => ?_)
    refine lv_aload_n hx hb dX5_add_67 rfl (lv_at hl 0 rfl) ?_
    refine lv_dup hx hb dX5_add_68 rfl ?_
    refine hw_get (v := .int ((hup σ4 31 6 ((σ4 31 6) + (1 : Int32))) 31 7)) hx hb hts hiX5 hown hK hP (Nat.lt_of_lt_of_le (by decide) hN) (bX_31 _) rfl 7 (by decide) (List.mem_of_getElem? (i := 6) rfl) rfl rfl dX5_add_69 ?_
    refine lv_aload_n hx hb dX5_add_72 rfl (lv_at hl 0 rfl) ?_
    refine hw_get (v := .ref (ad 1)) hx hb hts hiX5 hown hK hP (Nat.lt_of_lt_of_le (by decide) hN) (bX_31 _) rfl 0 (by decide) (List.mem_of_getElem? (i := 7) rfl) rfl rfl dX5_add_73 ?_
    refine lv_iload_n hx hb dX5_add_76 rfl (lv_at hl 1 rfl) ?_
    refine hw_kr (va_runV (As := [.int a1]) (rest := [.int ((hup σ4 31 6 ((σ4 31 6) + (1 : Int32))) 31 7), .ref (ad 31)]) ⟨hx, hb, hml, hown, hts⟩ (kc_X0_at l D cy N hN ad hJ0 (hup σ4 31 6 ((σ4 31 6) + (1 : Int32))) _ a1 _ hw) (cwV 1 hts gX5_add_X0_at rfl rfl rfl (by decide +kernel) ⟨Nat.le_of_ble_eq_true rfl, Nat.le_of_ble_eq_true rfl⟩) (hw_preV hK hN1 hP (Nat.lt_of_lt_of_le (by decide) hN) (bX_1 _) rfl) rfl rfl hl.1 rfl (lv_room (Nat.le_of_ble_eq_true rfl)) dX5_add_77 ⟨Nat.zero_le _, Nat.zero_le _⟩) hS (fun k6 σ5 H locs hw hP hS => ?_)
    obtain ⟨hu_, hk7, hw⟩ := hw
    dsimp only at hu_ hk7 hw
    rw [hu_] at hP
    refine hw_ki (va_runV (As := []) (rest := [.int ((hup σ4 31 6 ((σ4 31 6) + (1 : Int32))) 31 7), .ref (ad 31)]) ⟨hx, hb, hml, hown, hts⟩ (kc_X2_size l D cy N hN ad hJ0 (hup σ4 31 6 ((σ4 31 6) + (1 : Int32))) _ k6 hk7 _ hw) (cwV 0 hts gX5_add_X2_size rfl rfl rfl (by decide +kernel) ⟨Nat.le_of_ble_eq_true rfl, Nat.le_of_ble_eq_true rfl⟩) (hw_preV hK hN1 hP (hMe_lt hk7 hN) (bX_me hk7 _) rfl) rfl rfl hl.1 rfl (lv_room (Nat.le_of_ble_eq_true rfl)) dX5_add_80 ⟨Nat.zero_le _, Nat.zero_le _⟩) hS (fun r9 σ8 H locs hw hP hS => ?_)
    obtain ⟨hu_, hw⟩ := hw
    rw [hu_] at hP
    refine lv_iadd hx hb dX5_add_83 ?_
    refine hw_put (x := (((hup σ4 31 6 ((σ4 31 6) + (1 : Int32))) 31 7) + r9)) (j := 7) hx hb hts hiX5 tyX5 tyX5_ok nmX5 hown hK hJ0 hP hS (Nat.lt_of_lt_of_le (by decide) hN) (bX_31 _) rfl (by decide) (List.mem_of_getElem? (i := 6) rfl) rfl rfl rfl rfl (Nat.le_of_ble_eq_true rfl) (by rw [bX_31]; rfl) dX5_add_84 (fun H locs hP hS => ?_)
    refine lv_aload_n hx hb dX5_add_87 rfl (lv_at hl 0 rfl) ?_
    refine lv_aload_n hx hb dX5_add_88 rfl (lv_at hl 0 rfl) ?_
    refine hw_get (v := .ref (ad 1)) hx hb hts hiX5 hown hK hP (Nat.lt_of_lt_of_le (by decide) hN) (bX_31 _) rfl 0 (by decide) (List.mem_of_getElem? (i := 7) rfl) rfl rfl dX5_add_89 ?_
    refine lv_iload_n hx hb dX5_add_92 rfl (lv_at hl 1 rfl) ?_
    refine hw_kr (va_runV (As := [.int a1]) (rest := [.ref (ad 31)]) ⟨hx, hb, hml, hown, hts⟩ (kc_X0_at l D cy N hN ad hJ0 (hup (hup σ4 31 6 ((σ4 31 6) + (1 : Int32))) 31 7 (((hup σ4 31 6 ((σ4 31 6) + (1 : Int32))) 31 7) + r9)) _ a1 _ hw) (cwV 1 hts gX5_add_X0_at rfl rfl rfl (by decide +kernel) ⟨Nat.le_of_ble_eq_true rfl, Nat.le_of_ble_eq_true rfl⟩) (hw_preV hK hN1 hP (Nat.lt_of_lt_of_le (by decide) hN) (bX_1 _) rfl) rfl rfl hl.1 rfl (lv_room (Nat.le_of_ble_eq_true rfl)) dX5_add_93 ⟨Nat.zero_le _, Nat.zero_le _⟩) hS (fun k11 σ10 H locs hw hP hS => ?_)
    obtain ⟨hu_, hk12, hw⟩ := hw
    dsimp only at hu_ hk12 hw
    rw [hu_] at hP
    refine lv_aload_n hx hb dX5_add_96 rfl (lv_at hl 0 rfl) ?_
    refine hw_get (v := .int ((hup (hup σ4 31 6 ((σ4 31 6) + (1 : Int32))) 31 7 (((hup σ4 31 6 ((σ4 31 6) + (1 : Int32))) 31 7) + r9)) 31 8)) hx hb hts hiX5 hown hK hP (Nat.lt_of_lt_of_le (by decide) hN) (bX_31 _) rfl 8 (by decide) (List.mem_of_getElem? (i := 4) rfl) rfl rfl dX5_add_97 ?_
    refine lv_iload_n hx hb dX5_add_100 rfl (lv_at hl 2 rfl) ?_
    refine hw_ki (va_runV (As := [.int ((hup (hup σ4 31 6 ((σ4 31 6) + (1 : Int32))) 31 7 (((hup σ4 31 6 ((σ4 31 6) + (1 : Int32))) 31 7) + r9)) 31 8), .int a2]) (rest := [.ref (ad 31)]) ⟨hx, hb, hml, hown, hts⟩ (kc_X2_following l D cy N hN ad hJ0 (hup (hup σ4 31 6 ((σ4 31 6) + (1 : Int32))) 31 7 (((hup σ4 31 6 ((σ4 31 6) + (1 : Int32))) 31 7) + r9)) _ k11 hk12 ((hup (hup σ4 31 6 ((σ4 31 6) + (1 : Int32))) 31 7 (((hup σ4 31 6 ((σ4 31 6) + (1 : Int32))) 31 7) + r9)) 31 8) a2 _ hw) (cwV 2 hts gX5_add_X2_following rfl rfl rfl (by decide +kernel) ⟨Nat.le_of_ble_eq_true rfl, Nat.le_of_ble_eq_true rfl⟩) (hw_preV hK hN1 hP (hMe_lt hk12 hN) (bX_me hk12 _) rfl) rfl rfl hl.1 rfl (lv_room (Nat.le_of_ble_eq_true rfl)) dX5_add_101 ⟨Nat.zero_le _, Nat.zero_le _⟩) hS (fun r14 σ13 H locs hw hP hS => ?_)
    obtain ⟨hu_, hw⟩ := hw
    rw [hu_] at hP
    refine hw_put (x := r14) (j := 8) hx hb hts hiX5 tyX5 tyX5_ok nmX5 hown hK hJ0 hP hS (Nat.lt_of_lt_of_le (by decide) hN) (bX_31 _) rfl (by decide) (List.mem_of_getElem? (i := 4) rfl) rfl rfl rfl rfl (Nat.le_of_ble_eq_true rfl) (by rw [bX_31]; rfl) dX5_add_104 (fun H locs hP hS => ?_)
    exact hw_vret hx hb hr hlocks ((hup (hup (hup σ4 31 6 ((σ4 31 6) + (1 : Int32))) 31 7 (((hup σ4 31 6 ((σ4 31 6) + (1 : Int32))) 31 7) + r9)) 31 8 r14)) hw hP hS dX5_add_107
  have hw := hw.2 c1
  exact hw_vret hx hb hr hlocks (σ) hw hP hS dX5_add_10
set_option maxHeartbeats 4000000 in
set_option maxRecDepth 100000 in
theorem kc_X5_size (l : Launch) (D : va_G) (cy : Nat → ClassId) (N : Nat) (hN : 38 ≤ N) (ad : Nat → Nat) (hJ0 : hJ N ad) (σ : hSt) (sz : Nat)  (Q : Int32 → Prop) (hw : wp_X5_size  σ Q) : Met l yX5_size wsX5_size ({ frames := 0, cells := 0, slots := 0, locals := 0 } : Room) (va_Pc [.ref (ad 31)] (hB D cy (hC N ad (bX cy ad) σ) sz)) (va_Qi (fun (r : Int32) (u : hSt) => u = σ ∧ Q r) (hE D (fun u : hSt => hC N ad (bX cy ad) u)) (hA N ad sz)) 0 0 (hA N ad sz) := by
  refine Met.ofW (cc := cX5_size) (maxL := 1) (ret := (some .int)) (by decide) rfl ?_
  intro p e s m args below meth c s₁ B hml hv
  obtain ⟨rfl, hsz, hP, hK, hN1⟩ := hv
  have hx := B.exec
  have hb := B.bytes
  have hr := B.returns
  have hts := atoms_spec (ws := wsX5_size) B.pre
  have hown : s.vm.findClass RX5 = some m.cls := findClass_of_methodNamed B.named
  have hlocks := B.notSynchronized
  subst hsz
  have hS : va_S (hA N ad s.heap.size) s.heap s.heap [] := va_S.rf
  have hiX5 : ∀ w ∈ wsX50, w ∈ wsX5_size := fun _ h => List.mem_cons_of_mem _ (List.mem_append_right _ h)
  have hl := lv_entry ([.ref (ad 31)]) (n := 1) (Nat.le_of_ble_eq_true rfl)
  rw [lg_entry_eq]
  generalize (lg_sl ([.ref (ad 31)]) ++ List.replicate (1 - (lg_sl ([.ref (ad 31)])).length) Slot.unset).toArray = ls at hl ⊢
  have hl : lv_has ls 1 [(0, .ref (ad 31))] := hl
  unfold wp_X5_size at hw
  refine lv_aload_n hx hb dX5_size_0 rfl (lv_at hl 0 rfl) ?_
  refine hw_get (v := .int (σ 31 6)) hx hb hts hiX5 hown hK hP (Nat.lt_of_lt_of_le (by decide) hN) (bX_31 _) rfl 6 (by decide) (List.mem_of_getElem? (i := 1) rfl) rfl rfl dX5_size_1 ?_
  exact hw_iret hx hb hr hlocks (σ) ⟨rfl, hw⟩ hP hS dX5_size_4
set_option maxHeartbeats 4000000 in
set_option maxRecDepth 100000 in
theorem kc_X11_compose (l : Launch) (D : va_G) (cy : Nat → ClassId) (N : Nat) (hN : 38 ≤ N) (ad : Nat → Nat) (hJ0 : hJ N ad) (σ : hSt) (sz : Nat)  (Q : Int32 → hSt → Prop) (hw : wp_X11_compose  σ Q) : Met l yX11_compose wsX11_compose ({ frames := 6, cells := 0, slots := 0, locals := 133 } : Room) (va_Pc [.ref (ad 0)] (hB D cy (hC N ad (bX cy ad) σ) sz)) (va_Qi (fun (r : Int32) (u : hSt) => Q r u) (hE D (fun u : hSt => hC N ad (bX cy ad) u)) (hA N ad sz)) 0 0 (hA N ad sz) := by
  refine Met.ofW (cc := cX11_compose) (maxL := 3) (ret := (some .int)) (by decide) rfl ?_
  intro p e s m args below meth c s₁ B hml hv
  obtain ⟨rfl, hsz, hP, hK, hN1⟩ := hv
  have hx := B.exec
  have hb := B.bytes
  have hr := B.returns
  have hts := atoms_spec (ws := wsX11_compose) B.pre
  have hown : s.vm.findClass RX11 = some m.cls := findClass_of_methodNamed B.named
  have hlocks := B.notSynchronized
  subst hsz
  have hS : va_S (hA N ad s.heap.size) s.heap s.heap [] := va_S.rf
  have hiX11 : ∀ w ∈ wsX110, w ∈ wsX11_compose := fun _ h => List.mem_cons_of_mem _ (List.mem_append_left _ (List.mem_append_left _ (List.mem_append_left _ (List.mem_append_left _ (List.mem_append_left _ (List.mem_append_left _ (List.mem_append_right _ h)))))))
  have hl := lv_entry ([.ref (ad 0)]) (n := 3) (Nat.le_of_ble_eq_true rfl)
  rw [lg_entry_eq]
  generalize (lg_sl ([.ref (ad 0)]) ++ List.replicate (3 - (lg_sl ([.ref (ad 0)])).length) Slot.unset).toArray = ls at hl ⊢
  have hl : lv_has ls 3 [(0, .ref (ad 0))] := hl
  unfold wp_X11_compose at hw
  refine lv_aload_n hx hb dX11_compose_0 rfl (lv_at hl 0 rfl) ?_
  refine hw_get (v := .ref (ad 24)) hx hb hts hiX11 hown hK hP (Nat.lt_of_lt_of_le (by decide) hN) (bX_0 _) rfl 6 (by decide) (List.mem_of_getElem? (i := 1) rfl) rfl rfl dX11_compose_1 ?_
  refine hw_kv (va_runV (As := []) (rest := []) ⟨hx, hb, hml, hown, hts⟩ (kc_X1_begin l D cy N hN ad hJ0 σ _  _ hw) (cwV 0 hts gX11_compose_X1_begin rfl rfl rfl (by decide +kernel) ⟨Nat.le_of_ble_eq_true rfl, Nat.le_of_ble_eq_true rfl⟩) (hw_preV hK hN1 hP (Nat.lt_of_lt_of_le (by decide) hN) (bX_24 _) rfl) rfl rfl hl.1 rfl (lv_room (Nat.le_of_ble_eq_true rfl)) dX11_compose_4 ⟨Nat.zero_le _, Nat.zero_le _⟩) hS (fun σ1 H locs hw hP hS => ?_)
  refine lv_aload_n hx hb dX11_compose_7 rfl (lv_at hl 0 rfl) ?_
  refine hw_get (v := .ref (ad 24)) hx hb hts hiX11 hown hK hP (Nat.lt_of_lt_of_le (by decide) hN) (bX_0 _) rfl 6 (by decide) (List.mem_of_getElem? (i := 1) rfl) rfl rfl dX11_compose_8 ?_
  refine lv_aload_n hx hb dX11_compose_11 rfl (lv_at hl 0 rfl) ?_
  refine hw_get (v := .ref (ad 19)) hx hb hts hiX11 hown hK hP (Nat.lt_of_lt_of_le (by decide) hN) (bX_0 _) rfl 2 (by decide) (List.mem_of_getElem? (i := 2) rfl) rfl rfl dX11_compose_12 ?_
  refine hw_ki (va_runU (As := [.ref (ad 19)]) (rest := []) ⟨hx, hb, hml, hown, hts⟩ (kc_X10_readThrough_r24 l D cy N hN ad hJ0 σ1 _  _ hw) (va_cwU 1 hts gX11_compose_X10_readThrough_u124X1 rfl rfl rfl rfl (by decide +kernel) ⟨Nat.le_of_ble_eq_true rfl, Nat.le_of_ble_eq_true rfl⟩) (hw_preV hK hN1 hP (Nat.lt_of_lt_of_le (by decide) hN) (bX_24 _) rfl) rfl rfl hl.1 rfl (lv_room (Nat.le_of_ble_eq_true rfl)) dX11_compose_15 ⟨Nat.zero_le _, Nat.zero_le _⟩) hS (fun r3 σ2 H locs hw hP hS => ?_)
  refine lv_istore_n (lv' := [(1, .int r3), (0, .ref (ad 0))]) hx hb dX11_compose_18 rfl hl (by decide) rfl (fun ls hl => ?_)
  refine lv_iload_n hx hb dX11_compose_19 rfl (lv_at hl 0 rfl) ?_
  obtain ⟨J38, ehJ38, hw⟩ := hM_x hw
  have hJ38 : ∀ (v1_4 : Int32) (σ5 : hSt) (H : Heap) (locs : List Loc) (ls : Array Slot), J38 v1_4 σ5 → va_P D vwCl (hC N ad (bX cy ad) σ5) H → va_S (hA N ad s.heap.size) s.heap H locs → lv_has ls 3 [(0, .ref (ad 0)), (1, .int v1_4)] → W p l e (headSpec wsX11_compose ({ frames := 6, cells := 0, slots := 0, locals := 133 } : Room)).room s m ([Value.ref (ad 0)] : List Value).toArray below meth c H locs 0 0 (MQ below (va_Qi (fun (r : Int32) (u : hSt) => Q r u) (hE D (fun u : hSt => hC N ad (bX cy ad) u)) (hA N ad s.heap.size)) ([Value.ref (ad 0)] : List Value).toArray s 0 0 (hA N ad s.heap.size)) (F0 m 38 ls []) := by
    intro v1_4 σ5 H locs ls hw hP hS hl
    rw [ehJ38] at hw
    refine lv_aload_n hx hb dX11_compose_38 rfl (lv_at hl 0 rfl) ?_
    refine hw_get (v := .ref (ad 19)) hx hb hts hiX11 hown hK hP (Nat.lt_of_lt_of_le (by decide) hN) (bX_0 _) rfl 2 (by decide) (List.mem_of_getElem? (i := 2) rfl) rfl rfl dX11_compose_39 ?_
    refine lv_iconst (v := 0) hx hb dX11_compose_42 (by decide) ?_
    refine hw_kv (va_runV (As := [.int (0 : Int32)]) (rest := []) ⟨hx, hb, hml, hown, hts⟩ (kc_X9_cut l D cy N hN ad hJ0 σ5 _ (0 : Int32) _ hw) (cwV 1 hts gX11_compose_X9_cut rfl rfl rfl (by decide +kernel) ⟨Nat.le_of_ble_eq_true rfl, Nat.le_of_ble_eq_true rfl⟩) (hw_preV hK hN1 hP (Nat.lt_of_lt_of_le (by decide) hN) (bX_19 _) rfl) rfl rfl hl.1 rfl (lv_room (Nat.le_of_ble_eq_true rfl)) dX11_compose_43 ⟨Nat.zero_le _, Nat.zero_le _⟩) hS (fun σ6 H locs hw hP hS => ?_)
    refine lv_aload_n hx hb dX11_compose_46 rfl (lv_at hl 0 rfl) ?_
    refine lv_aload_n hx hb dX11_compose_47 rfl (lv_at hl 0 rfl) ?_
    refine hw_get (v := .ref (ad 24)) hx hb hts hiX11 hown hK hP (Nat.lt_of_lt_of_le (by decide) hN) (bX_0 _) rfl 6 (by decide) (List.mem_of_getElem? (i := 1) rfl) rfl rfl dX11_compose_48 ?_
    refine hw_ki (va_runU (As := []) (rest := [.ref (ad 0)]) ⟨hx, hb, hml, hown, hts⟩ (kc_X10_kind_r24 l D cy N hN ad hJ0 σ6 _  _ hw) (va_cwU 0 hts gX11_compose_X10_kind_u129X1 rfl rfl rfl rfl (by decide +kernel) ⟨Nat.le_of_ble_eq_true rfl, Nat.le_of_ble_eq_true rfl⟩) (hw_preV hK hN1 hP (Nat.lt_of_lt_of_le (by decide) hN) (bX_24 _) rfl) rfl rfl hl.1 rfl (lv_room (Nat.le_of_ble_eq_true rfl)) dX11_compose_51 ⟨Nat.zero_le _, Nat.zero_le _⟩) hS (fun r8 σ7 H locs hw hP hS => ?_)
    obtain ⟨hu_, hw⟩ := hw
    rw [hu_] at hP
    refine hw_put (x := r8) (j := 1) hx hb hts hiX11 tyX11 tyX11_ok nmX11 hown hK hJ0 hP hS (Nat.lt_of_lt_of_le (by decide) hN) (bX_0 _) rfl (by decide) (List.mem_of_getElem? (i := 3) rfl) rfl rfl rfl rfl (Nat.le_of_ble_eq_true rfl) (by rw [bX_0]; rfl) dX11_compose_54 (fun H locs hP hS => ?_)
    refine lv_iload_n hx hb dX11_compose_57 rfl (lv_at hl 1 rfl) ?_
    refine lv_if_ne (tgt := 71) hx hb dX11_compose_58 (by decide) (fun c9 => ?_) (fun c9 => ?_)
    · have hw := hw.1 c9
      refine lv_aload_n hx hb dX11_compose_71 rfl (lv_at hl 0 rfl) ?_
      refine hw_get (v := .ref (ad 31)) hx hb hts hiX11 hown hK hP (Nat.lt_of_lt_of_le (by decide) hN) (bX_0 _) rfl 7 (by decide) (List.mem_of_getElem? (i := 4) rfl) rfl rfl dX11_compose_72 ?_
      refine lv_aload_n hx hb dX11_compose_75 rfl (lv_at hl 0 rfl) ?_
      refine hw_get (v := .int ((hup σ6 0 1 r8) 0 0)) hx hb hts hiX11 hown hK hP (Nat.lt_of_lt_of_le (by decide) hN) (bX_0 _) rfl 0 (by decide) (List.mem_of_getElem? (i := 5) rfl) rfl rfl dX11_compose_76 ?_
      refine hw_kv (va_runV (As := [.int ((hup σ6 0 1 r8) 0 0)]) (rest := []) ⟨hx, hb, hml, hown, hts⟩ (kc_X5_clear l D cy N hN ad hJ0 (hup σ6 0 1 r8) _ ((hup σ6 0 1 r8) 0 0) _ hw) (cwV 1 hts gX11_compose_X5_clear rfl rfl rfl (by decide +kernel) ⟨Nat.le_of_ble_eq_true rfl, Nat.le_of_ble_eq_true rfl⟩) (hw_preV hK hN1 hP (Nat.lt_of_lt_of_le (by decide) hN) (bX_31 _) rfl) rfl rfl hl.1 rfl (lv_room (Nat.le_of_ble_eq_true rfl)) dX11_compose_79 ⟨Nat.zero_le _, Nat.zero_le _⟩) hS (fun σ10 H locs hw hP hS => ?_)
      refine lv_iconst (v := 0) hx hb dX11_compose_82 (by decide) ?_
      refine lv_istore_n (lv' := [(2, .int (0 : Int32)), (0, .ref (ad 0)), (1, .int v1_4)]) hx hb dX11_compose_83 rfl hl (by decide) rfl (fun ls hl => ?_)
      refine hw (fun (v2_11 : Int32) (σ12 : hSt) => ∀ (H : Heap) (locs : List Loc) (ls : Array Slot), va_P D vwCl (hC N ad (bX cy ad) σ12) H → va_S (hA N ad s.heap.size) s.heap H locs → lv_has ls 3 [(0, .ref (ad 0)), (2, .int v2_11)] → W p l e (headSpec wsX11_compose ({ frames := 6, cells := 0, slots := 0, locals := 133 } : Room)).room s m ([Value.ref (ad 0)] : List Value).toArray below meth c H locs 0 0 (MQ below (va_Qi (fun (r : Int32) (u : hSt) => Q r u) (hE D (fun u : hSt => hC N ad (bX cy ad) u)) (hA N ad s.heap.size)) ([Value.ref (ad 0)] : List Value).toArray s 0 0 (hA N ad s.heap.size)) (F0 m 84 ls [])) (fun v2_11 σ12 hw H locs ls hP hS hl => ?_) _ _ _ hP hS (lv_sub hl [1, 0] rfl)
      refine lv_iload_n hx hb dX11_compose_84 rfl (lv_at hl 1 rfl) ?_
      refine lv_aload_n hx hb dX11_compose_85 rfl (lv_at hl 0 rfl) ?_
      refine hw_get (v := .ref (ad 24)) hx hb hts hiX11 hown hK hP (Nat.lt_of_lt_of_le (by decide) hN) (bX_0 _) rfl 6 (by decide) (List.mem_of_getElem? (i := 1) rfl) rfl rfl dX11_compose_86 ?_
      refine hw_ki (va_runV (As := []) (rest := [.int v2_11]) ⟨hx, hb, hml, hown, hts⟩ (kc_X1_size l D cy N hN ad hJ0 σ12 _  _ hw) (cwV 0 hts gX11_compose_X1_size rfl rfl rfl (by decide +kernel) ⟨Nat.le_of_ble_eq_true rfl, Nat.le_of_ble_eq_true rfl⟩) (hw_preV hK hN1 hP (Nat.lt_of_lt_of_le (by decide) hN) (bX_24 _) rfl) rfl rfl hl.1 rfl (lv_room (Nat.le_of_ble_eq_true rfl)) dX11_compose_89 ⟨Nat.zero_le _, Nat.zero_le _⟩) hS (fun r14 σ13 H locs hw hP hS => ?_)
      obtain ⟨hu_, hw⟩ := hw
      rw [hu_] at hP
      refine lv_icmp_ge (tgt := 124) hx hb dX11_compose_92 (by decide) (fun c15 => ?_) (fun c15 => ?_)
      · have hw := hw.1 c15
        refine lv_aload_n hx hb dX11_compose_124 rfl (lv_at hl 0 rfl) ?_
        refine hw_get (v := .ref (ad 31)) hx hb hts hiX11 hown hK hP (Nat.lt_of_lt_of_le (by decide) hN) (bX_0 _) rfl 7 (by decide) (List.mem_of_getElem? (i := 4) rfl) rfl rfl dX11_compose_125 ?_
        refine hw_ki (va_runV (As := []) (rest := []) ⟨hx, hb, hml, hown, hts⟩ (kc_X5_size l D cy N hN ad hJ0 σ12 _  _ hw) (cwV 0 hts gX11_compose_X5_size rfl rfl rfl (by decide +kernel) ⟨Nat.le_of_ble_eq_true rfl, Nat.le_of_ble_eq_true rfl⟩) (hw_preV hK hN1 hP (Nat.lt_of_lt_of_le (by decide) hN) (bX_31 _) rfl) rfl rfl hl.1 rfl (lv_room (Nat.le_of_ble_eq_true rfl)) dX11_compose_128 ⟨Nat.zero_le _, Nat.zero_le _⟩) hS (fun r17 σ16 H locs hw hP hS => ?_)
        obtain ⟨hu_, hw⟩ := hw
        rw [hu_] at hP
        exact hw_iret hx hb hr hlocks (σ12) hw hP hS dX11_compose_131
      have hw := hw.2 c15
      refine lv_aload_n hx hb dX11_compose_95 rfl (lv_at hl 0 rfl) ?_
      refine hw_get (v := .ref (ad 31)) hx hb hts hiX11 hown hK hP (Nat.lt_of_lt_of_le (by decide) hN) (bX_0 _) rfl 7 (by decide) (List.mem_of_getElem? (i := 4) rfl) rfl rfl dX11_compose_96 ?_
      refine lv_aload_n hx hb dX11_compose_99 rfl (lv_at hl 0 rfl) ?_
      refine hw_get (v := .ref (ad 24)) hx hb hts hiX11 hown hK hP (Nat.lt_of_lt_of_le (by decide) hN) (bX_0 _) rfl 6 (by decide) (List.mem_of_getElem? (i := 1) rfl) rfl rfl dX11_compose_100 ?_
      refine lv_iload_n hx hb dX11_compose_103 rfl (lv_at hl 1 rfl) ?_
      refine hw_ki (va_runV (As := [.int v2_11]) (rest := [.ref (ad 31)]) ⟨hx, hb, hml, hown, hts⟩ (kc_X1_letterOf l D cy N hN ad hJ0 σ12 _ v2_11 _ hw) (cwV 1 hts gX11_compose_X1_letterOf rfl rfl rfl (by decide +kernel) ⟨Nat.le_of_ble_eq_true rfl, Nat.le_of_ble_eq_true rfl⟩) (hw_preV hK hN1 hP (Nat.lt_of_lt_of_le (by decide) hN) (bX_24 _) rfl) rfl rfl hl.1 rfl (lv_room (Nat.le_of_ble_eq_true rfl)) dX11_compose_104 ⟨Nat.zero_le _, Nat.zero_le _⟩) hS (fun r19 σ18 H locs hw hP hS => ?_)
      obtain ⟨hu_, hw⟩ := hw
      rw [hu_] at hP
      refine lv_aload_n hx hb dX11_compose_107 rfl (lv_at hl 0 rfl) ?_
      refine hw_get (v := .ref (ad 24)) hx hb hts hiX11 hown hK hP (Nat.lt_of_lt_of_le (by decide) hN) (bX_0 _) rfl 6 (by decide) (List.mem_of_getElem? (i := 1) rfl) rfl rfl dX11_compose_108 ?_
      refine lv_iload_n hx hb dX11_compose_111 rfl (lv_at hl 1 rfl) ?_
      refine hw_ki (va_runV (As := [.int v2_11]) (rest := [.int r19, .ref (ad 31)]) ⟨hx, hb, hml, hown, hts⟩ (kc_X1_callOf l D cy N hN ad hJ0 σ12 _ v2_11 _ hw) (cwV 1 hts gX11_compose_X1_callOf rfl rfl rfl (by decide +kernel) ⟨Nat.le_of_ble_eq_true rfl, Nat.le_of_ble_eq_true rfl⟩) (hw_preV hK hN1 hP (Nat.lt_of_lt_of_le (by decide) hN) (bX_24 _) rfl) rfl rfl hl.1 rfl (lv_room (Nat.le_of_ble_eq_true rfl)) dX11_compose_112 ⟨Nat.zero_le _, Nat.zero_le _⟩) hS (fun r21 σ20 H locs hw hP hS => ?_)
      obtain ⟨hu_, hw⟩ := hw
      rw [hu_] at hP
      refine hw_kv (va_runV (As := [.int r19, .int r21]) (rest := []) ⟨hx, hb, hml, hown, hts⟩ (kc_X5_add l D cy N hN ad hJ0 σ12 _ r19 r21 _ hw) (cwV 2 hts gX11_compose_X5_add rfl rfl rfl (by decide +kernel) ⟨Nat.le_of_ble_eq_true rfl, Nat.le_of_ble_eq_true rfl⟩) (hw_preV hK hN1 hP (Nat.lt_of_lt_of_le (by decide) hN) (bX_31 _) rfl) rfl rfl hl.1 rfl (lv_room (Nat.le_of_ble_eq_true rfl)) dX11_compose_115 ⟨Nat.zero_le _, Nat.zero_le _⟩) hS (fun σ22 H locs hw hP hS => ?_)
      obtain ⟨x2_23, ex2_23⟩ : ∃ z : Int32, z = v2_11 + (1 : Int32) := ⟨_, rfl⟩
      have hw := hw x2_23 ex2_23
      refine lv_iinc (v := x2_23) (lv' := [(2, .int x2_23), (0, .ref (ad 0))]) hx hb dX11_compose_118 hl (k := 1) rfl (by rw [ex2_23]; rfl) (by decide) rfl (fun ls hl => ?_)
      refine lv_goto (tgt := 84) hx hb dX11_compose_121 (by decide) ?_
      exact hw _ _ _ hP hS (lv_sub hl [1, 0] rfl)
    have hw := hw.2 c9
    refine lv_iconst (v := -1) hx hb dX11_compose_61 (by decide) ?_
    refine lv_aload_n hx hb dX11_compose_62 rfl (lv_at hl 0 rfl) ?_
    refine hw_get (v := .ref (ad 24)) hx hb hts hiX11 hown hK hP (Nat.lt_of_lt_of_le (by decide) hN) (bX_0 _) rfl 6 (by decide) (List.mem_of_getElem? (i := 1) rfl) rfl rfl dX11_compose_63 ?_
    refine hw_ki (va_runU (As := []) (rest := [.int (-1 : Int32)]) ⟨hx, hb, hml, hown, hts⟩ (kc_X10_place_r24 l D cy N hN ad hJ0 (hup σ6 0 1 r8) _  _ hw) (va_cwU 0 hts gX11_compose_X10_place_u130X1 rfl rfl rfl rfl (by decide +kernel) ⟨Nat.le_of_ble_eq_true rfl, Nat.le_of_ble_eq_true rfl⟩) (hw_preV hK hN1 hP (Nat.lt_of_lt_of_le (by decide) hN) (bX_24 _) rfl) rfl rfl hl.1 rfl (lv_room (Nat.le_of_ble_eq_true rfl)) dX11_compose_66 ⟨Nat.zero_le _, Nat.zero_le _⟩) hS (fun r25 σ24 H locs hw hP hS => ?_)
    obtain ⟨hu_, hw⟩ := hw
    rw [hu_] at hP
    refine lv_isub hx hb dX11_compose_69 ?_
    exact hw_iret hx hb hr hlocks ((hup σ6 0 1 r8)) hw hP hS dX11_compose_70
  refine lv_if_eq (tgt := 38) hx hb dX11_compose_20 (by decide) (fun c26 => ?_) (fun c26 => ?_)
  · have hw := hw.1 c26
    exact hJ38 _ _ _ _ _ hw hP hS (lv_sub hl [1, 0] rfl)
  have hw := hw.2 c26
  refine lv_aload_n hx hb dX11_compose_23 rfl (lv_at hl 1 rfl) ?_
  refine hw_get (v := .ref (ad 24)) hx hb hts hiX11 hown hK hP (Nat.lt_of_lt_of_le (by decide) hN) (bX_0 _) rfl 6 (by decide) (List.mem_of_getElem? (i := 1) rfl) rfl rfl dX11_compose_24 ?_
  refine lv_aload_n hx hb dX11_compose_27 rfl (lv_at hl 1 rfl) ?_
  refine hw_get (v := .ref (ad 19)) hx hb hts hiX11 hown hK hP (Nat.lt_of_lt_of_le (by decide) hN) (bX_0 _) rfl 2 (by decide) (List.mem_of_getElem? (i := 2) rfl) rfl rfl dX11_compose_28 ?_
  refine hw_ki (va_runV (As := []) (rest := [.ref (ad 24)]) ⟨hx, hb, hml, hown, hts⟩ (kc_X9_size l D cy N hN ad hJ0 σ2 _  _ hw) (cwV 0 hts gX11_compose_X9_size rfl rfl rfl (by decide +kernel) ⟨Nat.le_of_ble_eq_true rfl, Nat.le_of_ble_eq_true rfl⟩) (hw_preV hK hN1 hP (Nat.lt_of_lt_of_le (by decide) hN) (bX_19 _) rfl) rfl rfl hl.1 rfl (lv_room (Nat.le_of_ble_eq_true rfl)) dX11_compose_31 ⟨Nat.zero_le _, Nat.zero_le _⟩) hS (fun r28 σ27 H locs hw hP hS => ?_)
  obtain ⟨hu_, hw⟩ := hw
  rw [hu_] at hP
  refine hw_ki (va_runV (As := [.int r28]) (rest := []) ⟨hx, hb, hml, hown, hts⟩ (kc_X1_spread l D cy N hN ad hJ0 σ2 _ r28 _ hw) (cwV 1 hts gX11_compose_X1_spread rfl rfl rfl (by decide +kernel) ⟨Nat.le_of_ble_eq_true rfl, Nat.le_of_ble_eq_true rfl⟩) (hw_preV hK hN1 hP (Nat.lt_of_lt_of_le (by decide) hN) (bX_24 _) rfl) rfl rfl hl.1 rfl (lv_room (Nat.le_of_ble_eq_true rfl)) dX11_compose_34 ⟨Nat.zero_le _, Nat.zero_le _⟩) hS (fun r30 σ29 H locs hw hP hS => ?_)
  refine lv_istore_n (lv' := [(1, .int r30), (0, .ref (ad 0))]) hx hb dX11_compose_37 rfl hl (by decide) rfl (fun ls hl => ?_)
  exact hJ38 _ _ _ _ _ hw hP hS (lv_sub hl [1, 0] rfl)
set_option maxHeartbeats 4000000 in
set_option maxRecDepth 100000 in
theorem kc_X11_fault (l : Launch) (D : va_G) (cy : Nat → ClassId) (N : Nat) (hN : 38 ≤ N) (ad : Nat → Nat) (hJ0 : hJ N ad) (σ : hSt) (sz : Nat)  (Q : Int32 → Prop) (hw : wp_X11_fault  σ Q) : Met l yX11_fault wsX11_fault ({ frames := 0, cells := 0, slots := 0, locals := 0 } : Room) (va_Pc [.ref (ad 0)] (hB D cy (hC N ad (bX cy ad) σ) sz)) (va_Qi (fun (r : Int32) (u : hSt) => u = σ ∧ Q r) (hE D (fun u : hSt => hC N ad (bX cy ad) u)) (hA N ad sz)) 0 0 (hA N ad sz) := by
  refine Met.ofW (cc := cX11_fault) (maxL := 1) (ret := (some .int)) (by decide) rfl ?_
  intro p e s m args below meth c s₁ B hml hv
  obtain ⟨rfl, hsz, hP, hK, hN1⟩ := hv
  have hx := B.exec
  have hb := B.bytes
  have hr := B.returns
  have hts := atoms_spec (ws := wsX11_fault) B.pre
  have hown : s.vm.findClass RX11 = some m.cls := findClass_of_methodNamed B.named
  have hlocks := B.notSynchronized
  subst hsz
  have hS : va_S (hA N ad s.heap.size) s.heap s.heap [] := va_S.rf
  have hiX11 : ∀ w ∈ wsX110, w ∈ wsX11_fault := fun _ h => List.mem_cons_of_mem _ (List.mem_append_right _ h)
  have hl := lv_entry ([.ref (ad 0)]) (n := 1) (Nat.le_of_ble_eq_true rfl)
  rw [lg_entry_eq]
  generalize (lg_sl ([.ref (ad 0)]) ++ List.replicate (1 - (lg_sl ([.ref (ad 0)])).length) Slot.unset).toArray = ls at hl ⊢
  have hl : lv_has ls 1 [(0, .ref (ad 0))] := hl
  unfold wp_X11_fault at hw
  refine lv_aload_n hx hb dX11_fault_0 rfl (lv_at hl 0 rfl) ?_
  refine hw_get (v := .int (σ 0 1)) hx hb hts hiX11 hown hK hP (Nat.lt_of_lt_of_le (by decide) hN) (bX_0 _) rfl 1 (by decide) (List.mem_of_getElem? (i := 1) rfl) rfl rfl dX11_fault_1 ?_
  exact hw_iret hx hb hr hlocks (σ) ⟨rfl, hw⟩ hP hS dX11_fault_4
set_option maxHeartbeats 4000000 in
set_option maxRecDepth 100000 in
theorem kc_X6_told (l : Launch) (D : va_G) (cy : Nat → ClassId) (N : Nat) (ad : Nat → Nat) (b : hCell) (σ : hSt) (sz : Nat) (a0 : Int32) (a1 : Int32) (Q : Int32 → Prop) (hw : wp_X6_told a0 a1 Q) : Met l yX6_told wsX6_told ({ frames := 1, cells := 0, slots := 0, locals := 21 } : Room) (va_Pc [.int a0, .int a1] (hB D cy (hC N ad b σ) sz)) (va_Qi (fun (r : Int32) (u : hSt) => u = σ ∧ Q r) (hE D (fun u : hSt => hC N ad b u)) (hA N ad sz)) 0 0 (hA N ad sz) := by
  refine Met.ofW (cc := cX6_told) (maxL := 4) (ret := (some .int)) (by decide) rfl ?_
  intro p e s m args below meth c s₁ B hml hv
  obtain ⟨rfl, hsz, hP, hK, hN1⟩ := hv
  have hx := B.exec
  have hb := B.bytes
  have hr := B.returns
  have hts := atoms_spec (ws := wsX6_told) B.pre
  have hown : s.vm.findClass RX6 = some m.cls := findClass_of_methodNamed B.named
  have hlocks := B.notSynchronized
  subst hsz
  have hS : va_S (hA N ad s.heap.size) s.heap s.heap [] := va_S.rf
  have hl := lv_entry ([.int a0, .int a1]) (n := 4) (Nat.le_of_ble_eq_true rfl)
  rw [lg_entry_eq]
  generalize (lg_sl ([.int a0, .int a1]) ++ List.replicate (4 - (lg_sl ([.int a0, .int a1])).length) Slot.unset).toArray = ls at hl ⊢
  have hl : lv_has ls 4 [(0, .int a0), (1, .int a1)] := hl
  unfold wp_X6_told at hw
  refine lv_iconst (v := 0) hx hb dX6_told_0 (by decide) ?_
  refine lv_istore_n (lv' := [(2, .int (0 : Int32)), (0, .int a0), (1, .int a1)]) hx hb dX6_told_1 rfl hl (by decide) rfl (fun ls hl => ?_)
  refine lv_iconst (v := 0) hx hb dX6_told_2 (by decide) ?_
  refine lv_istore_n (lv' := [(3, .int (0 : Int32)), (2, .int (0 : Int32)), (0, .int a0), (1, .int a1)]) hx hb dX6_told_3 rfl hl (by decide) rfl (fun ls hl => ?_)
  refine hw (fun (v2_1 : Int32) (v3_2 : Int32) => ∀ (H : Heap) (locs : List Loc) (ls : Array Slot), va_P D vwCl (hC N ad b σ) H → va_S (hA N ad s.heap.size) s.heap H locs → lv_has ls 4 [(0, .int a0), (1, .int a1), (2, .int v2_1), (3, .int v3_2)] → W p l e (headSpec wsX6_told ({ frames := 1, cells := 0, slots := 0, locals := 21 } : Room)).room s m ([Value.int a0, Value.int a1] : List Value).toArray below meth c H locs 0 0 (MQ below (va_Qi (fun (r : Int32) (u : hSt) => u = σ ∧ Q r) (hE D (fun u : hSt => hC N ad b u)) (hA N ad s.heap.size)) ([Value.int a0, Value.int a1] : List Value).toArray s 0 0 (hA N ad s.heap.size)) (F0 m 4 ls [])) (fun v2_1 v3_2 hw H locs ls hP hS hl => ?_) _ _ _ hP hS (lv_sub hl [2, 3, 1, 0] rfl)
  refine lv_iload_n hx hb dX6_told_4 rfl (lv_at hl 3 rfl) ?_
  refine lv_iload_n hx hb dX6_told_5 rfl (lv_at hl 1 rfl) ?_
  refine lv_icmp_ge (tgt := 28) hx hb dX6_told_6 (by decide) (fun c3 => ?_) (fun c3 => ?_)
  · have hw := hw.1 c3
    refine lv_iload_n hx hb dX6_told_28 rfl (lv_at hl 2 rfl) ?_
    exact hw_iret hx hb hr hlocks (σ) ⟨rfl, hw⟩ hP hS dX6_told_29
  have hw := hw.2 c3
  refine lv_iload_n hx hb dX6_told_9 rfl (lv_at hl 2 rfl) ?_
  refine lv_bipush (v := 10) hx hb dX6_told_10 (by decide) ?_
  refine lv_imul hx hb dX6_told_12 ?_
  refine lv_iload_n hx hb dX6_told_13 rfl (lv_at hl 0 rfl) ?_
  refine lv_iload_n hx hb dX6_told_14 rfl (lv_at hl 3 rfl) ?_
  refine hw_ki (va_runS (As := [.int a0, .int v3_2]) (rest := [.int (v2_1 * (10 : Int32))]) ⟨hx, hb, hml, hown, hts⟩ (kc_X6_bellAt l D cy N ad b σ _ a0 v3_2 _ hw) (va_cwS 2 hts gX6_told_X6_bellAt rfl rfl rfl (by decide +kernel) ⟨Nat.le_of_ble_eq_true rfl, Nat.le_of_ble_eq_true rfl⟩) (hw_pre hK hN1 hP) rfl rfl hl.1 rfl (lv_room (Nat.le_of_ble_eq_true rfl)) dX6_told_15 ⟨Nat.zero_le _, Nat.zero_le _⟩) hS (fun r5 σ4 H locs hw hP hS => ?_)
  obtain ⟨hu_, hw⟩ := hw
  rw [hu_] at hP
  refine lv_iadd hx hb dX6_told_18 ?_
  refine lv_iconst (v := 1) hx hb dX6_told_19 (by decide) ?_
  refine lv_iadd hx hb dX6_told_20 ?_
  refine lv_topi (fun x2_6 ex2_6 => ?_)
  have hw := hw x2_6 ex2_6
  refine lv_istore_n (lv' := [(2, .int x2_6), (0, .int a0), (1, .int a1), (3, .int v3_2)]) hx hb dX6_told_21 rfl hl (by decide) rfl (fun ls hl => ?_)
  obtain ⟨x3_7, ex3_7⟩ : ∃ z : Int32, z = v3_2 + (1 : Int32) := ⟨_, rfl⟩
  have hw := hw x3_7 ex3_7
  refine lv_iinc (v := x3_7) (lv' := [(3, .int x3_7), (2, .int x2_6), (0, .int a0), (1, .int a1)]) hx hb dX6_told_22 hl (k := 3) rfl (by rw [ex3_7]; rfl) (by decide) rfl (fun ls hl => ?_)
  refine lv_goto (tgt := 4) hx hb dX6_told_25 (by decide) ?_
  exact hw _ _ _ hP hS (lv_sub hl [2, 3, 1, 0] rfl)
set_option maxHeartbeats 4000000 in
set_option maxRecDepth 100000 in
theorem kc_X6_order (l : Launch) (D : va_G) (cy : Nat → ClassId) (N : Nat) (ad : Nat → Nat) (b : hCell) (σ : hSt) (sz : Nat) (a0 : Int32) (a1 : Int32) (Q : Int32 → Prop) (hw : wp_X6_order a0 a1 Q) : Met l yX6_order wsX6_order ({ frames := 2, cells := 0, slots := 0, locals := 45 } : Room) (va_Pc [.int a0, .int a1] (hB D cy (hC N ad b σ) sz)) (va_Qi (fun (r : Int32) (u : hSt) => u = σ ∧ Q r) (hE D (fun u : hSt => hC N ad b u)) (hA N ad sz)) 0 0 (hA N ad sz) := by
  refine Met.ofW (cc := cX6_order) (maxL := 4) (ret := (some .int)) (by decide) rfl ?_
  intro p e s m args below meth c s₁ B hml hv
  obtain ⟨rfl, hsz, hP, hK, hN1⟩ := hv
  have hx := B.exec
  have hb := B.bytes
  have hr := B.returns
  have hts := atoms_spec (ws := wsX6_order) B.pre
  have hown : s.vm.findClass RX6 = some m.cls := findClass_of_methodNamed B.named
  have hlocks := B.notSynchronized
  subst hsz
  have hS : va_S (hA N ad s.heap.size) s.heap s.heap [] := va_S.rf
  have hl := lv_entry ([.int a0, .int a1]) (n := 4) (Nat.le_of_ble_eq_true rfl)
  rw [lg_entry_eq]
  generalize (lg_sl ([.int a0, .int a1]) ++ List.replicate (4 - (lg_sl ([.int a0, .int a1])).length) Slot.unset).toArray = ls at hl ⊢
  have hl : lv_has ls 4 [(0, .int a0), (1, .int a1)] := hl
  unfold wp_X6_order at hw
  refine lv_iconst (v := 1) hx hb dX6_order_0 (by decide) ?_
  refine lv_istore_n (lv' := [(2, .int (1 : Int32)), (0, .int a0), (1, .int a1)]) hx hb dX6_order_1 rfl hl (by decide) rfl (fun ls hl => ?_)
  refine lv_iload_n hx hb dX6_order_2 rfl (lv_at hl 1 rfl) ?_
  refine lv_istore_n (lv' := [(3, .int a0), (2, .int (1 : Int32)), (0, .int a0), (1, .int a1)]) hx hb dX6_order_3 rfl hl (by decide) rfl (fun ls hl => ?_)
  refine hw (fun (v2_1 : Int32) (v3_2 : Int32) => ∀ (H : Heap) (locs : List Loc) (ls : Array Slot), va_P D vwCl (hC N ad b σ) H → va_S (hA N ad s.heap.size) s.heap H locs → lv_has ls 4 [(0, .int a0), (1, .int a1), (2, .int v2_1), (3, .int v3_2)] → W p l e (headSpec wsX6_order ({ frames := 2, cells := 0, slots := 0, locals := 45 } : Room)).room s m ([Value.int a0, Value.int a1] : List Value).toArray below meth c H locs 0 0 (MQ below (va_Qi (fun (r : Int32) (u : hSt) => u = σ ∧ Q r) (hE D (fun u : hSt => hC N ad b u)) (hA N ad s.heap.size)) ([Value.int a0, Value.int a1] : List Value).toArray s 0 0 (hA N ad s.heap.size)) (F0 m 4 ls [])) (fun v2_1 v3_2 hw H locs ls hP hS hl => ?_) _ _ _ hP hS (lv_sub hl [2, 3, 1, 0] rfl)
  refine lv_iload_n hx hb dX6_order_4 rfl (lv_at hl 3 rfl) ?_
  refine lv_iload_n hx hb dX6_order_5 rfl (lv_at hl 1 rfl) ?_
  refine hw_ki (va_runS (As := [.int a1]) (rest := [.int v3_2]) ⟨hx, hb, hml, hown, hts⟩ (kc_X6_rounds l D cy N ad b σ _ a1 _ hw) (va_cwS 1 hts gX6_order_X6_rounds rfl rfl rfl (by decide +kernel) ⟨Nat.le_of_ble_eq_true rfl, Nat.le_of_ble_eq_true rfl⟩) (hw_pre hK hN1 hP) rfl rfl hl.1 rfl (lv_room (Nat.le_of_ble_eq_true rfl)) dX6_order_6 ⟨Nat.zero_le _, Nat.zero_le _⟩) hS (fun r4 σ3 H locs hw hP hS => ?_)
  obtain ⟨hu_, hw⟩ := hw
  rw [hu_] at hP
  refine lv_icmp_eq (tgt := 31) hx hb dX6_order_9 (by decide) (fun c5 => ?_) (fun c5 => ?_)
  · have hw := hw.1 c5
    refine lv_iload_n hx hb dX6_order_31 rfl (lv_at hl 2 rfl) ?_
    exact hw_iret hx hb hr hlocks (σ) ⟨rfl, hw⟩ hP hS dX6_order_32
  have hw := hw.2 c5
  refine lv_iload_n hx hb dX6_order_12 rfl (lv_at hl 2 rfl) ?_
  refine lv_ldc (v := 40320) hx hb hown (hts (.constant RX6 19 40320) (List.mem_of_getElem? (i := 1) rfl)) dX6_order_13 ?_
  refine lv_icmp_ge (tgt := 31) hx hb dX6_order_15 (by decide) (fun c6 => ?_) (fun c6 => ?_)
  · have hw := hw.1 c6
    refine lv_iload_n hx hb dX6_order_31 rfl (lv_at hl 2 rfl) ?_
    exact hw_iret hx hb hr hlocks (σ) ⟨rfl, hw⟩ hP hS dX6_order_32
  have hw := hw.2 c6
  refine lv_iload_n hx hb dX6_order_18 rfl (lv_at hl 3 rfl) ?_
  refine lv_iload_n hx hb dX6_order_19 rfl (lv_at hl 0 rfl) ?_
  refine lv_iload_n hx hb dX6_order_20 rfl (lv_at hl 1 rfl) ?_
  refine hw_ki (va_runS (As := [.int v3_2, .int a0, .int a1]) (rest := []) ⟨hx, hb, hml, hown, hts⟩ (kc_X6_fromHead l D cy N ad b σ _ v3_2 a0 a1 _ hw) (va_cwS 3 hts gX6_order_X6_fromHead rfl rfl rfl (by decide +kernel) ⟨Nat.le_of_ble_eq_true rfl, Nat.le_of_ble_eq_true rfl⟩) (hw_pre hK hN1 hP) rfl rfl hl.1 rfl (lv_room (Nat.le_of_ble_eq_true rfl)) dX6_order_21 ⟨Nat.zero_le _, Nat.zero_le _⟩) hS (fun r8 σ7 H locs hw hP hS => ?_)
  obtain ⟨hu_, hw⟩ := hw
  rw [hu_] at hP
  refine lv_istore_n (lv' := [(3, .int r8), (0, .int a0), (1, .int a1), (2, .int v2_1)]) hx hb dX6_order_24 rfl hl (by decide) rfl (fun ls hl => ?_)
  obtain ⟨x2_9, ex2_9⟩ : ∃ z : Int32, z = v2_1 + (1 : Int32) := ⟨_, rfl⟩
  have hw := hw x2_9 ex2_9
  refine lv_iinc (v := x2_9) (lv' := [(2, .int x2_9), (3, .int r8), (0, .int a0), (1, .int a1)]) hx hb dX6_order_25 hl (k := 3) rfl (by rw [ex2_9]; rfl) (by decide) rfl (fun ls hl => ?_)
  refine lv_goto (tgt := 4) hx hb dX6_order_28 (by decide) ?_
  exact hw _ _ _ hP hS (lv_sub hl [2, 3, 0, 1] rfl)
set_option maxHeartbeats 4000000 in
set_option maxRecDepth 100000 in
theorem kc_X2_courseLeads (l : Launch) (D : va_G) (cy : Nat → ClassId) (N : Nat) (hN : 38 ≤ N) (ad : Nat → Nat) (hJ0 : hJ N ad) (σ : hSt) (sz : Nat) (k0 : Nat) (hk0 : hMe k0) (Q : Int32 → Prop) (hw : wp_X2_courseLeads k0 σ Q) : Met l yX2_courseLeads wsX2_courseLeads ({ frames := 3, cells := 0, slots := 0, locals := 68 } : Room) (va_Pc [.ref (ad k0)] (hB D cy (hC N ad (bX cy ad) σ) sz)) (va_Qi (fun (r : Int32) (u : hSt) => u = σ ∧ Q r) (hE D (fun u : hSt => hC N ad (bX cy ad) u)) (hA N ad sz)) 0 0 (hA N ad sz) := by
  refine Met.ofW (cc := cX2_courseLeads) (maxL := 1) (ret := (some .int)) (by decide) rfl ?_
  intro p e s m args below meth c s₁ B hml hv
  obtain ⟨rfl, hsz, hP, hK, hN1⟩ := hv
  have hx := B.exec
  have hb := B.bytes
  have hr := B.returns
  have hts := atoms_spec (ws := wsX2_courseLeads) B.pre
  have hown : s.vm.findClass RX2 = some m.cls := findClass_of_methodNamed B.named
  have hlocks := B.notSynchronized
  subst hsz
  have hS : va_S (hA N ad s.heap.size) s.heap s.heap [] := va_S.rf
  have hiX2 : ∀ w ∈ wsX20, w ∈ wsX2_courseLeads := fun _ h => List.mem_cons_of_mem _ (List.mem_append_right _ h)
  have hl := lv_entry ([.ref (ad k0)]) (n := 1) (Nat.le_of_ble_eq_true rfl)
  rw [lg_entry_eq]
  generalize (lg_sl ([.ref (ad k0)]) ++ List.replicate (1 - (lg_sl ([.ref (ad k0)])).length) Slot.unset).toArray = ls at hl ⊢
  have hl : lv_has ls 1 [(0, .ref (ad k0))] := hl
  unfold wp_X2_courseLeads at hw
  refine lv_aload_n hx hb dX2_courseLeads_0 rfl (lv_at hl 0 rfl) ?_
  refine hw_get (v := .int (σ k0 5)) hx hb hts hiX2 hown hK hP (hMe_lt hk0 hN) (bX_me hk0 _) rfl 5 (by decide) (List.mem_of_getElem? (i := 1) rfl) rfl rfl dX2_courseLeads_1 ?_
  refine lv_aload_n hx hb dX2_courseLeads_4 rfl (lv_at hl 0 rfl) ?_
  refine hw_get (v := .int (σ k0 2)) hx hb hts hiX2 hown hK hP (hMe_lt hk0 hN) (bX_me hk0 _) rfl 2 (by decide) (List.mem_of_getElem? (i := 2) rfl) rfl rfl dX2_courseLeads_5 ?_
  refine hw_ki (va_runS (As := [.int (σ k0 5), .int (σ k0 2)]) (rest := []) ⟨hx, hb, hml, hown, hts⟩ (kc_X6_order l D cy N ad (bX cy ad) σ _ (σ k0 5) (σ k0 2) _ hw) (va_cwS 2 hts gX2_courseLeads_X6_order rfl rfl rfl (by decide +kernel) ⟨Nat.le_of_ble_eq_true rfl, Nat.le_of_ble_eq_true rfl⟩) (hw_pre hK hN1 hP) rfl rfl hl.1 rfl (lv_room (Nat.le_of_ble_eq_true rfl)) dX2_courseLeads_8 ⟨Nat.zero_le _, Nat.zero_le _⟩) hS (fun r2 σ1 H locs hw hP hS => ?_)
  obtain ⟨hu_, hw⟩ := hw
  rw [hu_] at hP
  exact hw_iret hx hb hr hlocks (σ) ⟨rfl, hw⟩ hP hS dX2_courseLeads_11
set_option maxHeartbeats 4000000 in
set_option maxRecDepth 100000 in
theorem kc_X2_courseRow (l : Launch) (D : va_G) (cy : Nat → ClassId) (N : Nat) (hN : 38 ≤ N) (ad : Nat → Nat) (hJ0 : hJ N ad) (σ : hSt) (sz : Nat) (k0 : Nat) (hk0 : hMe k0) (a1 : Int32) (Q : Int32 → Prop) (hw : wp_X2_courseRow k0 a1 σ Q) : Met l yX2_courseRow wsX2_courseRow ({ frames := 4, cells := 0, slots := 0, locals := 88 } : Room) (va_Pc [.ref (ad k0), .int a1] (hB D cy (hC N ad (bX cy ad) σ) sz)) (va_Qi (fun (r : Int32) (u : hSt) => u = σ ∧ Q r) (hE D (fun u : hSt => hC N ad (bX cy ad) u)) (hA N ad sz)) 0 0 (hA N ad sz) := by
  refine Met.ofW (cc := cX2_courseRow) (maxL := 6) (ret := (some .int)) (by decide) rfl ?_
  intro p e s m args below meth c s₁ B hml hv
  obtain ⟨rfl, hsz, hP, hK, hN1⟩ := hv
  have hx := B.exec
  have hb := B.bytes
  have hr := B.returns
  have hts := atoms_spec (ws := wsX2_courseRow) B.pre
  have hown : s.vm.findClass RX2 = some m.cls := findClass_of_methodNamed B.named
  have hlocks := B.notSynchronized
  subst hsz
  have hS : va_S (hA N ad s.heap.size) s.heap s.heap [] := va_S.rf
  have hiX2 : ∀ w ∈ wsX20, w ∈ wsX2_courseRow := fun _ h => List.mem_cons_of_mem _ (List.mem_append_right _ h)
  have hl := lv_entry ([.ref (ad k0), .int a1]) (n := 6) (Nat.le_of_ble_eq_true rfl)
  rw [lg_entry_eq]
  generalize (lg_sl ([.ref (ad k0), .int a1]) ++ List.replicate (6 - (lg_sl ([.ref (ad k0), .int a1])).length) Slot.unset).toArray = ls at hl ⊢
  have hl : lv_has ls 6 [(0, .ref (ad k0)), (1, .int a1)] := hl
  unfold wp_X2_courseRow at hw
  refine lv_aload_n hx hb dX2_courseRow_0 rfl (lv_at hl 0 rfl) ?_
  refine hw_ki (va_runV (As := []) (rest := []) ⟨hx, hb, hml, hown, hts⟩ (kc_X2_courseLeads l D cy N hN ad hJ0 σ _ k0 hk0 _ hw) (cwV 0 hts gX2_courseRow_X2_courseLeads rfl rfl rfl (by decide +kernel) ⟨Nat.le_of_ble_eq_true rfl, Nat.le_of_ble_eq_true rfl⟩) (hw_preV hK hN1 hP (hMe_lt hk0 hN) (bX_me hk0 _) rfl) rfl rfl hl.1 rfl (lv_room (Nat.le_of_ble_eq_true rfl)) dX2_courseRow_1 ⟨Nat.zero_le _, Nat.zero_le _⟩) hS (fun r2 σ1 H locs hw hP hS => ?_)
  obtain ⟨hu_, hw⟩ := hw
  rw [hu_] at hP
  refine lv_istore_n (lv' := [(2, .int r2), (0, .ref (ad k0)), (1, .int a1)]) hx hb dX2_courseRow_4 rfl hl (by decide) rfl (fun ls hl => ?_)
  refine lv_aload_n hx hb dX2_courseRow_5 rfl (lv_at hl 1 rfl) ?_
  refine hw_get (v := .int (σ k0 2)) hx hb hts hiX2 hown hK hP (hMe_lt hk0 hN) (bX_me hk0 _) rfl 2 (by decide) (List.mem_of_getElem? (i := 1) rfl) rfl rfl dX2_courseRow_6 ?_
  refine hw_ki (va_runS (As := [.int (σ k0 2)]) (rest := []) ⟨hx, hb, hml, hown, hts⟩ (kc_X6_rounds l D cy N ad (bX cy ad) σ _ (σ k0 2) _ hw) (va_cwS 1 hts gX2_courseRow_X6_rounds rfl rfl rfl (by decide +kernel) ⟨Nat.le_of_ble_eq_true rfl, Nat.le_of_ble_eq_true rfl⟩) (hw_pre hK hN1 hP) rfl rfl hl.1 rfl (lv_room (Nat.le_of_ble_eq_true rfl)) dX2_courseRow_9 ⟨Nat.zero_le _, Nat.zero_le _⟩) hS (fun r4 σ3 H locs hw hP hS => ?_)
  obtain ⟨hu_, hw⟩ := hw
  rw [hu_] at hP
  refine lv_istore_n (lv' := [(3, .int r4), (2, .int r2), (0, .ref (ad k0)), (1, .int a1)]) hx hb dX2_courseRow_12 rfl hl (by decide) rfl (fun ls hl => ?_)
  refine lv_aload_n hx hb dX2_courseRow_13 rfl (lv_at hl 2 rfl) ?_
  refine hw_get (v := .int (σ k0 1)) hx hb hts hiX2 hown hK hP (hMe_lt hk0 hN) (bX_me hk0 _) rfl 1 (by decide) (List.mem_of_getElem? (i := 2) rfl) rfl rfl dX2_courseRow_14 ?_
  refine lv_iconst (v := 1) hx hb dX2_courseRow_17 (by decide) ?_
  refine lv_icmp_lt (tgt := 26) hx hb dX2_courseRow_18 (by decide) (fun c5 => ?_) (fun c5 => ?_)
  · have hw := hw.1 c5
    refine lv_iload_n hx hb dX2_courseRow_26 rfl (lv_at hl 0 rfl) ?_
    exact hw_iret hx hb hr hlocks (σ) ⟨rfl, hw⟩ hP hS dX2_courseRow_27
  have hw := hw.2 c5
  refine lv_iload_n hx hb dX2_courseRow_21 rfl (lv_at hl 1 rfl) ?_
  refine lv_iconst (v := 1) hx hb dX2_courseRow_22 (by decide) ?_
  refine lv_icmp_ge (tgt := 28) hx hb dX2_courseRow_23 (by decide) (fun c6 => ?_) (fun c6 => ?_)
  · have hw := hw.1 c6
    refine lv_iload_n hx hb dX2_courseRow_28 rfl (lv_at hl 3 rfl) ?_
    refine lv_aload_n hx hb dX2_courseRow_29 rfl (lv_at hl 2 rfl) ?_
    refine hw_get (v := .int (σ k0 1)) hx hb hts hiX2 hown hK hP (hMe_lt hk0 hN) (bX_me hk0 _) rfl 1 (by decide) (List.mem_of_getElem? (i := 2) rfl) rfl rfl dX2_courseRow_30 ?_
    obtain ⟨hz7, hw⟩ := hw
    refine lv_idiv hx hb dX2_courseRow_33 hz7 ?_
    refine lv_iload_n hx hb dX2_courseRow_34 rfl (lv_at hl 1 rfl) ?_
    obtain ⟨hz8, hw⟩ := hw
    refine lv_irem hx hb dX2_courseRow_35 hz8 ?_
    refine lv_topi (fun x4_9 ex4_9 => ?_)
    have hw := hw x4_9 ex4_9
    refine lv_istore (lv' := [(4, .int x4_9), (3, .int r4), (2, .int r2), (0, .ref (ad k0)), (1, .int a1)]) hx hb dX2_courseRow_36 hl (by decide) rfl (fun ls hl => ?_)
    refine lv_iconst (v := 0) hx hb dX2_courseRow_38 (by decide) ?_
    refine lv_istore (lv' := [(5, .int (0 : Int32)), (4, .int x4_9), (3, .int r4), (2, .int r2), (0, .ref (ad k0)), (1, .int a1)]) hx hb dX2_courseRow_39 hl (by decide) rfl (fun ls hl => ?_)
    refine hw (fun (v3_10 : Int32) (v5_11 : Int32) => ∀ (H : Heap) (locs : List Loc) (ls : Array Slot), va_P D vwCl (hC N ad (bX cy ad) σ) H → va_S (hA N ad s.heap.size) s.heap H locs → lv_has ls 6 [(0, .ref (ad k0)), (1, .int a1), (3, .int v3_10), (4, .int x4_9), (5, .int v5_11)] → W p l e (headSpec wsX2_courseRow ({ frames := 4, cells := 0, slots := 0, locals := 88 } : Room)).room s m ([Value.ref (ad k0), Value.int a1] : List Value).toArray below meth c H locs 0 0 (MQ below (va_Qi (fun (r : Int32) (u : hSt) => u = σ ∧ Q r) (hE D (fun u : hSt => hC N ad (bX cy ad) u)) (hA N ad s.heap.size)) ([Value.ref (ad k0), Value.int a1] : List Value).toArray s 0 0 (hA N ad s.heap.size)) (F0 m 41 ls [])) (fun v3_10 v5_11 hw H locs ls hP hS hl => ?_) _ _ _ hP hS (lv_sub hl [4, 5, 2, 1, 0] rfl)
    refine lv_iload hx hb dX2_courseRow_41 (lv_at hl 4 rfl) ?_
    refine lv_iload hx hb dX2_courseRow_43 (lv_at hl 3 rfl) ?_
    refine lv_icmp_ge (tgt := 61) hx hb dX2_courseRow_45 (by decide) (fun c12 => ?_) (fun c12 => ?_)
    · have hw := hw.1 c12
      refine lv_aload_n hx hb dX2_courseRow_61 rfl (lv_at hl 0 rfl) ?_
      refine lv_iload_n hx hb dX2_courseRow_62 rfl (lv_at hl 2 rfl) ?_
      refine lv_iload_n hx hb dX2_courseRow_63 rfl (lv_at hl 1 rfl) ?_
      refine lv_aload_n hx hb dX2_courseRow_64 rfl (lv_at hl 0 rfl) ?_
      refine hw_get (v := .int (σ k0 1)) hx hb hts hiX2 hown hK hP (hMe_lt hk0 hN) (bX_me hk0 _) rfl 1 (by decide) (List.mem_of_getElem? (i := 2) rfl) rfl rfl dX2_courseRow_65 ?_
      obtain ⟨hz13, hw⟩ := hw
      refine lv_irem hx hb dX2_courseRow_68 hz13 ?_
      refine hw_ki (va_runV (As := [.int v3_10, .int (a1 - a1 / (σ k0 1) * (σ k0 1))]) (rest := []) ⟨hx, hb, hml, hown, hts⟩ (kc_X2_rowFrom l D cy N hN ad hJ0 σ _ k0 hk0 v3_10 (a1 - a1 / (σ k0 1) * (σ k0 1)) _ hw) (cwV 2 hts gX2_courseRow_X2_rowFrom rfl rfl rfl (by decide +kernel) ⟨Nat.le_of_ble_eq_true rfl, Nat.le_of_ble_eq_true rfl⟩) (hw_preV hK hN1 hP (hMe_lt hk0 hN) (bX_me hk0 _) rfl) rfl rfl hl.1 rfl (lv_room (Nat.le_of_ble_eq_true rfl)) dX2_courseRow_69 ⟨Nat.zero_le _, Nat.zero_le _⟩) hS (fun r15 σ14 H locs hw hP hS => ?_)
      obtain ⟨hu_, hw⟩ := hw
      rw [hu_] at hP
      exact hw_iret hx hb hr hlocks (σ) ⟨rfl, hw⟩ hP hS dX2_courseRow_72
    have hw := hw.2 c12
    refine lv_aload_n hx hb dX2_courseRow_48 rfl (lv_at hl 0 rfl) ?_
    refine lv_iload_n hx hb dX2_courseRow_49 rfl (lv_at hl 2 rfl) ?_
    refine lv_iconst (v := 0) hx hb dX2_courseRow_50 (by decide) ?_
    refine hw_ki (va_runV (As := [.int v3_10, .int (0 : Int32)]) (rest := []) ⟨hx, hb, hml, hown, hts⟩ (kc_X2_following l D cy N hN ad hJ0 σ _ k0 hk0 v3_10 (0 : Int32) _ hw) (cwV 2 hts gX2_courseRow_X2_following rfl rfl rfl (by decide +kernel) ⟨Nat.le_of_ble_eq_true rfl, Nat.le_of_ble_eq_true rfl⟩) (hw_preV hK hN1 hP (hMe_lt hk0 hN) (bX_me hk0 _) rfl) rfl rfl hl.1 rfl (lv_room (Nat.le_of_ble_eq_true rfl)) dX2_courseRow_51 ⟨Nat.zero_le _, Nat.zero_le _⟩) hS (fun r17 σ16 H locs hw hP hS => ?_)
    obtain ⟨hu_, hw⟩ := hw
    rw [hu_] at hP
    refine lv_istore_n (lv' := [(3, .int r17), (0, .ref (ad k0)), (1, .int a1), (4, .int x4_9), (5, .int v5_11)]) hx hb dX2_courseRow_54 rfl hl (by decide) rfl (fun ls hl => ?_)
    obtain ⟨x5_18, ex5_18⟩ : ∃ z : Int32, z = v5_11 + (1 : Int32) := ⟨_, rfl⟩
    have hw := hw x5_18 ex5_18
    refine lv_iinc (v := x5_18) (lv' := [(5, .int x5_18), (3, .int r17), (0, .ref (ad k0)), (1, .int a1), (4, .int x4_9)]) hx hb dX2_courseRow_55 hl (k := 4) rfl (by rw [ex5_18]; rfl) (by decide) rfl (fun ls hl => ?_)
    refine lv_goto (tgt := 41) hx hb dX2_courseRow_58 (by decide) ?_
    exact hw _ _ _ hP hS (lv_sub hl [2, 3, 1, 4, 0] rfl)
  have hw := hw.2 c6
  refine lv_iload_n hx hb dX2_courseRow_26 rfl (lv_at hl 0 rfl) ?_
  exact hw_iret hx hb hr hlocks (σ) ⟨rfl, hw⟩ hP hS dX2_courseRow_27
set_option maxHeartbeats 4000000 in
set_option maxRecDepth 100000 in
theorem kc_X6_placeOf (l : Launch) (D : va_G) (cy : Nat → ClassId) (N : Nat) (ad : Nat → Nat) (b : hCell) (σ : hSt) (sz : Nat) (a0 : Int32) (a1 : Int32) (a2 : Int32) (Q : Int32 → Prop) (hw : wp_X6_placeOf a0 a1 a2 Q) : Met l yX6_placeOf wsX6_placeOf ({ frames := 1, cells := 0, slots := 0, locals := 21 } : Room) (va_Pc [.int a0, .int a1, .int a2] (hB D cy (hC N ad b σ) sz)) (va_Qi (fun (r : Int32) (u : hSt) => u = σ ∧ Q r) (hE D (fun u : hSt => hC N ad b u)) (hA N ad sz)) 0 0 (hA N ad sz) := by
  refine Met.ofW (cc := cX6_placeOf) (maxL := 4) (ret := (some .int)) (by decide) rfl ?_
  intro p e s m args below meth c s₁ B hml hv
  obtain ⟨rfl, hsz, hP, hK, hN1⟩ := hv
  have hx := B.exec
  have hb := B.bytes
  have hr := B.returns
  have hts := atoms_spec (ws := wsX6_placeOf) B.pre
  have hown : s.vm.findClass RX6 = some m.cls := findClass_of_methodNamed B.named
  have hlocks := B.notSynchronized
  subst hsz
  have hS : va_S (hA N ad s.heap.size) s.heap s.heap [] := va_S.rf
  have hl := lv_entry ([.int a0, .int a1, .int a2]) (n := 4) (Nat.le_of_ble_eq_true rfl)
  rw [lg_entry_eq]
  generalize (lg_sl ([.int a0, .int a1, .int a2]) ++ List.replicate (4 - (lg_sl ([.int a0, .int a1, .int a2])).length) Slot.unset).toArray = ls at hl ⊢
  have hl : lv_has ls 4 [(0, .int a0), (1, .int a1), (2, .int a2)] := hl
  unfold wp_X6_placeOf at hw
  refine lv_iconst (v := 0) hx hb dX6_placeOf_0 (by decide) ?_
  refine lv_istore_n (lv' := [(3, .int (0 : Int32)), (0, .int a0), (1, .int a1), (2, .int a2)]) hx hb dX6_placeOf_1 rfl hl (by decide) rfl (fun ls hl => ?_)
  refine hw (fun (v3_1 : Int32) => ∀ (H : Heap) (locs : List Loc) (ls : Array Slot), va_P D vwCl (hC N ad b σ) H → va_S (hA N ad s.heap.size) s.heap H locs → lv_has ls 4 [(0, .int a0), (1, .int a1), (2, .int a2), (3, .int v3_1)] → W p l e (headSpec wsX6_placeOf ({ frames := 1, cells := 0, slots := 0, locals := 21 } : Room)).room s m ([Value.int a0, Value.int a1, Value.int a2] : List Value).toArray below meth c H locs 0 0 (MQ below (va_Qi (fun (r : Int32) (u : hSt) => u = σ ∧ Q r) (hE D (fun u : hSt => hC N ad b u)) (hA N ad s.heap.size)) ([Value.int a0, Value.int a1, Value.int a2] : List Value).toArray s 0 0 (hA N ad s.heap.size)) (F0 m 2 ls [])) (fun v3_1 hw H locs ls hP hS hl => ?_) _ _ _ hP hS (lv_sub hl [1, 2, 3, 0] rfl)
  refine lv_iload_n hx hb dX6_placeOf_2 rfl (lv_at hl 3 rfl) ?_
  refine lv_iload_n hx hb dX6_placeOf_3 rfl (lv_at hl 2 rfl) ?_
  refine lv_icmp_ge (tgt := 24) hx hb dX6_placeOf_4 (by decide) (fun c2 => ?_) (fun c2 => ?_)
  · have hw := hw.1 c2
    refine lv_iconst (v := -1) hx hb dX6_placeOf_24 (by decide) ?_
    exact hw_iret hx hb hr hlocks (σ) ⟨rfl, hw⟩ hP hS dX6_placeOf_25
  have hw := hw.2 c2
  refine lv_iload_n hx hb dX6_placeOf_7 rfl (lv_at hl 0 rfl) ?_
  refine lv_iload_n hx hb dX6_placeOf_8 rfl (lv_at hl 3 rfl) ?_
  refine hw_ki (va_runS (As := [.int a0, .int v3_1]) (rest := []) ⟨hx, hb, hml, hown, hts⟩ (kc_X6_bellAt l D cy N ad b σ _ a0 v3_1 _ hw) (va_cwS 2 hts gX6_placeOf_X6_bellAt rfl rfl rfl (by decide +kernel) ⟨Nat.le_of_ble_eq_true rfl, Nat.le_of_ble_eq_true rfl⟩) (hw_pre hK hN1 hP) rfl rfl hl.1 rfl (lv_room (Nat.le_of_ble_eq_true rfl)) dX6_placeOf_9 ⟨Nat.zero_le _, Nat.zero_le _⟩) hS (fun r4 σ3 H locs hw hP hS => ?_)
  obtain ⟨hu_, hw⟩ := hw
  rw [hu_] at hP
  refine lv_iload_n hx hb dX6_placeOf_12 rfl (lv_at hl 1 rfl) ?_
  refine lv_icmp_ne (tgt := 18) hx hb dX6_placeOf_13 (by decide) (fun c5 => ?_) (fun c5 => ?_)
  · have hw := hw.1 c5
    obtain ⟨x3_6, ex3_6⟩ : ∃ z : Int32, z = v3_1 + (1 : Int32) := ⟨_, rfl⟩
    have hw := hw x3_6 ex3_6
    refine lv_iinc (v := x3_6) (lv' := [(3, .int x3_6), (0, .int a0), (1, .int a1), (2, .int a2)]) hx hb dX6_placeOf_18 hl (k := 3) rfl (by rw [ex3_6]; rfl) (by decide) rfl (fun ls hl => ?_)
    refine lv_goto (tgt := 2) hx hb dX6_placeOf_21 (by decide) ?_
    exact hw _ _ _ hP hS (lv_sub hl [1, 2, 3, 0] rfl)
  have hw := hw.2 c5
  refine lv_iload_n hx hb dX6_placeOf_16 rfl (lv_at hl 3 rfl) ?_
  exact hw_iret hx hb hr hlocks (σ) ⟨rfl, hw⟩ hP hS dX6_placeOf_17
set_option maxHeartbeats 4000000 in
set_option maxRecDepth 100000 in
theorem kc_X8_begin (l : Launch) (D : va_G) (cy : Nat → ClassId) (N : Nat) (hN : 38 ≤ N) (ad : Nat → Nat) (hJ0 : hJ N ad) (σ : hSt) (sz : Nat) (a1 : Int32) (Q : hSt → Prop) (hw : wp_X8_begin a1 σ Q) : Met l yX8_begin wsX8_begin ({ frames := 0, cells := 0, slots := 0, locals := 0 } : Room) (va_Pc [.ref (ad 17), .int a1] (hB D cy (hC N ad (bX cy ad) σ) sz)) (va_Qv (fun u : hSt => Q u) (hE D (fun u : hSt => hC N ad (bX cy ad) u)) (hA N ad sz)) 0 0 (hA N ad sz) := by
  refine Met.ofW (cc := cX8_begin) (maxL := 2) (ret := none) (by decide) rfl ?_
  intro p e s m args below meth c s₁ B hml hv
  obtain ⟨rfl, hsz, hP, hK, hN1⟩ := hv
  have hx := B.exec
  have hb := B.bytes
  have hr := B.returns
  have hts := atoms_spec (ws := wsX8_begin) B.pre
  have hown : s.vm.findClass RX8 = some m.cls := findClass_of_methodNamed B.named
  have hlocks := B.notSynchronized
  subst hsz
  have hS : va_S (hA N ad s.heap.size) s.heap s.heap [] := va_S.rf
  have hiX8 : ∀ w ∈ wsX80, w ∈ wsX8_begin := fun _ h => List.mem_cons_of_mem _ (List.mem_append_right _ h)
  have hl := lv_entry ([.ref (ad 17), .int a1]) (n := 2) (Nat.le_of_ble_eq_true rfl)
  rw [lg_entry_eq]
  generalize (lg_sl ([.ref (ad 17), .int a1]) ++ List.replicate (2 - (lg_sl ([.ref (ad 17), .int a1])).length) Slot.unset).toArray = ls at hl ⊢
  have hl : lv_has ls 2 [(0, .ref (ad 17)), (1, .int a1)] := hl
  unfold wp_X8_begin at hw
  refine lv_aload_n hx hb dX8_begin_0 rfl (lv_at hl 0 rfl) ?_
  refine lv_iload_n hx hb dX8_begin_1 rfl (lv_at hl 1 rfl) ?_
  refine hw_put (x := a1) (j := 1) hx hb hts hiX8 tyX8 tyX8_ok nmX8 hown hK hJ0 hP hS (Nat.lt_of_lt_of_le (by decide) hN) (bX_17 _) rfl (by decide) (List.mem_of_getElem? (i := 1) rfl) rfl rfl rfl rfl (Nat.le_of_ble_eq_true rfl) (by rw [bX_17]; rfl) dX8_begin_2 (fun H locs hP hS => ?_)
  refine lv_aload_n hx hb dX8_begin_5 rfl (lv_at hl 0 rfl) ?_
  refine lv_aload_n hx hb dX8_begin_6 rfl (lv_at hl 0 rfl) ?_
  refine hw_get (v := .int ((hup σ 17 1 a1) 17 3)) hx hb hts hiX8 hown hK hP (Nat.lt_of_lt_of_le (by decide) hN) (bX_17 _) rfl 3 (by decide) (List.mem_of_getElem? (i := 2) rfl) rfl rfl dX8_begin_7 ?_
  refine hw_put (x := ((hup σ 17 1 a1) 17 3)) (j := 2) hx hb hts hiX8 tyX8 tyX8_ok nmX8 hown hK hJ0 hP hS (Nat.lt_of_lt_of_le (by decide) hN) (bX_17 _) rfl (by decide) (List.mem_of_getElem? (i := 3) rfl) rfl rfl rfl rfl (Nat.le_of_ble_eq_true rfl) (by rw [bX_17]; rfl) dX8_begin_10 (fun H locs hP hS => ?_)
  exact hw_vret hx hb hr hlocks ((hup (hup σ 17 1 a1) 17 2 ((hup σ 17 1 a1) 17 3))) hw hP hS dX8_begin_13
set_option maxHeartbeats 4000000 in
set_option maxRecDepth 100000 in
theorem kc_X6_headBringing (l : Launch) (D : va_G) (cy : Nat → ClassId) (N : Nat) (ad : Nat → Nat) (b : hCell) (σ : hSt) (sz : Nat) (a0 : Int32) (a1 : Int32) (a2 : Int32) (Q : Int32 → Prop) (hw : wp_X6_headBringing a0 a1 a2 Q) : Met l yX6_headBringing wsX6_headBringing ({ frames := 1, cells := 0, slots := 0, locals := 21 } : Room) (va_Pc [.int a0, .int a1, .int a2] (hB D cy (hC N ad b σ) sz)) (va_Qi (fun (r : Int32) (u : hSt) => u = σ ∧ Q r) (hE D (fun u : hSt => hC N ad b u)) (hA N ad sz)) 0 0 (hA N ad sz) := by
  refine Met.ofW (cc := cX6_headBringing) (maxL := 5) (ret := (some .int)) (by decide) rfl ?_
  intro p e s m args below meth c s₁ B hml hv
  obtain ⟨rfl, hsz, hP, hK, hN1⟩ := hv
  have hx := B.exec
  have hb := B.bytes
  have hr := B.returns
  have hts := atoms_spec (ws := wsX6_headBringing) B.pre
  have hown : s.vm.findClass RX6 = some m.cls := findClass_of_methodNamed B.named
  have hlocks := B.notSynchronized
  subst hsz
  have hS : va_S (hA N ad s.heap.size) s.heap s.heap [] := va_S.rf
  have hl := lv_entry ([.int a0, .int a1, .int a2]) (n := 5) (Nat.le_of_ble_eq_true rfl)
  rw [lg_entry_eq]
  generalize (lg_sl ([.int a0, .int a1, .int a2]) ++ List.replicate (5 - (lg_sl ([.int a0, .int a1, .int a2])).length) Slot.unset).toArray = ls at hl ⊢
  have hl : lv_has ls 5 [(0, .int a0), (1, .int a1), (2, .int a2)] := hl
  unfold wp_X6_headBringing at hw
  refine lv_iconst (v := 0) hx hb dX6_headBringing_0 (by decide) ?_
  refine lv_istore_n (lv' := [(3, .int (0 : Int32)), (0, .int a0), (1, .int a1), (2, .int a2)]) hx hb dX6_headBringing_1 rfl hl (by decide) rfl (fun ls hl => ?_)
  refine lv_iconst (v := 0) hx hb dX6_headBringing_2 (by decide) ?_
  refine lv_istore (lv' := [(4, .int (0 : Int32)), (3, .int (0 : Int32)), (0, .int a0), (1, .int a1), (2, .int a2)]) hx hb dX6_headBringing_3 hl (by decide) rfl (fun ls hl => ?_)
  refine hw (fun (v3_1 : Int32) (v4_2 : Int32) => ∀ (H : Heap) (locs : List Loc) (ls : Array Slot), va_P D vwCl (hC N ad b σ) H → va_S (hA N ad s.heap.size) s.heap H locs → lv_has ls 5 [(0, .int a0), (1, .int a1), (2, .int a2), (3, .int v3_1), (4, .int v4_2)] → W p l e (headSpec wsX6_headBringing ({ frames := 1, cells := 0, slots := 0, locals := 21 } : Room)).room s m ([Value.int a0, Value.int a1, Value.int a2] : List Value).toArray below meth c H locs 0 0 (MQ below (va_Qi (fun (r : Int32) (u : hSt) => u = σ ∧ Q r) (hE D (fun u : hSt => hC N ad b u)) (hA N ad s.heap.size)) ([Value.int a0, Value.int a1, Value.int a2] : List Value).toArray s 0 0 (hA N ad s.heap.size)) (F0 m 5 ls [])) (fun v3_1 v4_2 hw H locs ls hP hS hl => ?_) _ _ _ hP hS (lv_sub hl [2, 3, 4, 1, 0] rfl)
  refine lv_iload hx hb dX6_headBringing_5 (lv_at hl 4 rfl) ?_
  refine lv_iload_n hx hb dX6_headBringing_7 rfl (lv_at hl 2 rfl) ?_
  refine lv_icmp_ge (tgt := 35) hx hb dX6_headBringing_8 (by decide) (fun c3 => ?_) (fun c3 => ?_)
  · have hw := hw.1 c3
    refine lv_iload_n hx hb dX6_headBringing_35 rfl (lv_at hl 3 rfl) ?_
    exact hw_iret hx hb hr hlocks (σ) ⟨rfl, hw⟩ hP hS dX6_headBringing_36
  have hw := hw.2 c3
  refine lv_iload_n hx hb dX6_headBringing_11 rfl (lv_at hl 3 rfl) ?_
  refine lv_iload_n hx hb dX6_headBringing_12 rfl (lv_at hl 0 rfl) ?_
  refine lv_iload hx hb dX6_headBringing_13 (lv_at hl 4 rfl) ?_
  refine hw_ki (va_runS (As := [.int a0, .int v4_2]) (rest := [.int v3_1]) ⟨hx, hb, hml, hown, hts⟩ (kc_X6_bellAt l D cy N ad b σ _ a0 v4_2 _ hw) (va_cwS 2 hts gX6_headBringing_X6_bellAt rfl rfl rfl (by decide +kernel) ⟨Nat.le_of_ble_eq_true rfl, Nat.le_of_ble_eq_true rfl⟩) (hw_pre hK hN1 hP) rfl rfl hl.1 rfl (lv_room (Nat.le_of_ble_eq_true rfl)) dX6_headBringing_15 ⟨Nat.zero_le _, Nat.zero_le _⟩) hS (fun r5 σ4 H locs hw hP hS => ?_)
  obtain ⟨hu_, hw⟩ := hw
  rw [hu_] at hP
  refine lv_iconst (v := 3) hx hb dX6_headBringing_18 (by decide) ?_
  refine lv_iload_n hx hb dX6_headBringing_19 rfl (lv_at hl 1 rfl) ?_
  refine lv_iload hx hb dX6_headBringing_20 (lv_at hl 4 rfl) ?_
  refine hw_ki (va_runS (As := [.int a1, .int v4_2]) (rest := [.int (3 : Int32), .int r5, .int v3_1]) ⟨hx, hb, hml, hown, hts⟩ (kc_X6_bellAt l D cy N ad b σ _ a1 v4_2 _ hw) (va_cwS 2 hts gX6_headBringing_X6_bellAt rfl rfl rfl (by decide +kernel) ⟨Nat.le_of_ble_eq_true rfl, Nat.le_of_ble_eq_true rfl⟩) (hw_pre hK hN1 hP) rfl rfl hl.1 rfl (lv_room (Nat.le_of_ble_eq_true rfl)) dX6_headBringing_22 ⟨Nat.zero_le _, Nat.zero_le _⟩) hS (fun r7 σ6 H locs hw hP hS => ?_)
  obtain ⟨hu_, hw⟩ := hw
  rw [hu_] at hP
  refine lv_imul hx hb dX6_headBringing_25 ?_
  refine lv_ishl hx hb dX6_headBringing_26 ?_
  refine lv_ior hx hb dX6_headBringing_27 ?_
  refine lv_topi (fun x3_8 ex3_8 => ?_)
  have hw := hw x3_8 ex3_8
  refine lv_istore_n (lv' := [(3, .int x3_8), (0, .int a0), (1, .int a1), (2, .int a2), (4, .int v4_2)]) hx hb dX6_headBringing_28 rfl hl (by decide) rfl (fun ls hl => ?_)
  obtain ⟨x4_9, ex4_9⟩ : ∃ z : Int32, z = v4_2 + (1 : Int32) := ⟨_, rfl⟩
  have hw := hw x4_9 ex4_9
  refine lv_iinc (v := x4_9) (lv' := [(4, .int x4_9), (3, .int x3_8), (0, .int a0), (1, .int a1), (2, .int a2)]) hx hb dX6_headBringing_29 hl (k := 4) rfl (by rw [ex4_9]; rfl) (by decide) rfl (fun ls hl => ?_)
  refine lv_goto (tgt := 5) hx hb dX6_headBringing_32 (by decide) ?_
  exact hw _ _ _ hP hS (lv_sub hl [2, 3, 4, 1, 0] rfl)
set_option maxHeartbeats 4000000 in
set_option maxRecDepth 100000 in
theorem kc_J6_bitCount_0f7a4 (l : Launch) (D : va_G) (cy : Nat → ClassId) (N : Nat) (ad : Nat → Nat) (b : hCell) (σ : hSt) (sz : Nat) (a0 : Int32) (Q : Int32 → Prop) (hw : wp_J6_bitCount_0f7a4 a0 Q) : Met l yJ6_bitCount_0f7a4 wsJ6_bitCount_0f7a4 ({ frames := 0, cells := 0, slots := 0, locals := 0 } : Room) (va_Pc [.int a0] (hB D cy (hC N ad b σ) sz)) (va_Qi (fun (r : Int32) (u : hSt) => u = σ ∧ Q r) (hE D (fun u : hSt => hC N ad b u)) (hA N ad sz)) 0 0 (hA N ad sz) := by
  refine Met.ofW (cc := cJ6_bitCount_0f7a4) (maxL := 1) (ret := (some .int)) (by decide) rfl ?_
  intro p e s m args below meth c s₁ B hml hv
  obtain ⟨rfl, hsz, hP, hK, hN1⟩ := hv
  have hx := B.exec
  have hb := B.bytes
  have hr := B.returns
  have hts := atoms_spec (ws := wsJ6_bitCount_0f7a4) B.pre
  have hown : s.vm.findClass RJ6 = some m.cls := findClass_of_methodNamed B.named
  have hlocks := B.notSynchronized
  subst hsz
  have hS : va_S (hA N ad s.heap.size) s.heap s.heap [] := va_S.rf
  have hl := lv_entry ([.int a0]) (n := 1) (Nat.le_of_ble_eq_true rfl)
  rw [lg_entry_eq]
  generalize (lg_sl ([.int a0]) ++ List.replicate (1 - (lg_sl ([.int a0])).length) Slot.unset).toArray = ls at hl ⊢
  have hl : lv_has ls 1 [(0, .int a0)] := hl
  unfold wp_J6_bitCount_0f7a4 at hw
  refine lv_iload_n hx hb dJ6_bitCount_0f7a4_0 rfl (lv_at hl 0 rfl) ?_
  refine lv_iload_n hx hb dJ6_bitCount_0f7a4_1 rfl (lv_at hl 0 rfl) ?_
  refine lv_iconst (v := 1) hx hb dJ6_bitCount_0f7a4_2 (by decide) ?_
  refine lv_iushr hx hb dJ6_bitCount_0f7a4_3 rfl ?_
  refine lv_ldcw (v := 1431655765) hx hb hown (hts (.constant RJ6 265 1431655765) (List.mem_of_getElem? (i := 1) rfl)) dJ6_bitCount_0f7a4_4 ?_
  refine lv_iand hx hb dJ6_bitCount_0f7a4_7 ?_
  refine lv_isub hx hb dJ6_bitCount_0f7a4_8 ?_
  refine lv_topi (fun x0_1 ex0_1 => ?_)
  have hw := hw x0_1 ex0_1
  refine lv_istore_n (lv' := [(0, .int x0_1)]) hx hb dJ6_bitCount_0f7a4_9 rfl hl (by decide) rfl (fun ls hl => ?_)
  refine lv_iload_n hx hb dJ6_bitCount_0f7a4_10 rfl (lv_at hl 0 rfl) ?_
  refine lv_ldcw (v := 858993459) hx hb hown (hts (.constant RJ6 266 858993459) (List.mem_of_getElem? (i := 2) rfl)) dJ6_bitCount_0f7a4_11 ?_
  refine lv_iand hx hb dJ6_bitCount_0f7a4_14 ?_
  refine lv_iload_n hx hb dJ6_bitCount_0f7a4_15 rfl (lv_at hl 0 rfl) ?_
  refine lv_iconst (v := 2) hx hb dJ6_bitCount_0f7a4_16 (by decide) ?_
  refine lv_iushr hx hb dJ6_bitCount_0f7a4_17 rfl ?_
  refine lv_ldcw (v := 858993459) hx hb hown (hts (.constant RJ6 266 858993459) (List.mem_of_getElem? (i := 2) rfl)) dJ6_bitCount_0f7a4_18 ?_
  refine lv_iand hx hb dJ6_bitCount_0f7a4_21 ?_
  refine lv_iadd hx hb dJ6_bitCount_0f7a4_22 ?_
  refine lv_topi (fun x0_2 ex0_2 => ?_)
  have hw := hw x0_2 ex0_2
  refine lv_istore_n (lv' := [(0, .int x0_2)]) hx hb dJ6_bitCount_0f7a4_23 rfl hl (by decide) rfl (fun ls hl => ?_)
  refine lv_iload_n hx hb dJ6_bitCount_0f7a4_24 rfl (lv_at hl 0 rfl) ?_
  refine lv_iload_n hx hb dJ6_bitCount_0f7a4_25 rfl (lv_at hl 0 rfl) ?_
  refine lv_iconst (v := 4) hx hb dJ6_bitCount_0f7a4_26 (by decide) ?_
  refine lv_iushr hx hb dJ6_bitCount_0f7a4_27 rfl ?_
  refine lv_iadd hx hb dJ6_bitCount_0f7a4_28 ?_
  refine lv_ldcw (v := 252645135) hx hb hown (hts (.constant RJ6 267 252645135) (List.mem_of_getElem? (i := 3) rfl)) dJ6_bitCount_0f7a4_29 ?_
  refine lv_iand hx hb dJ6_bitCount_0f7a4_32 ?_
  refine lv_topi (fun x0_3 ex0_3 => ?_)
  have hw := hw x0_3 ex0_3
  refine lv_istore_n (lv' := [(0, .int x0_3)]) hx hb dJ6_bitCount_0f7a4_33 rfl hl (by decide) rfl (fun ls hl => ?_)
  refine lv_iload_n hx hb dJ6_bitCount_0f7a4_34 rfl (lv_at hl 0 rfl) ?_
  refine lv_iload_n hx hb dJ6_bitCount_0f7a4_35 rfl (lv_at hl 0 rfl) ?_
  refine lv_bipush (v := 8) hx hb dJ6_bitCount_0f7a4_36 (by decide) ?_
  refine lv_iushr hx hb dJ6_bitCount_0f7a4_38 rfl ?_
  refine lv_iadd hx hb dJ6_bitCount_0f7a4_39 ?_
  refine lv_topi (fun x0_4 ex0_4 => ?_)
  have hw := hw x0_4 ex0_4
  refine lv_istore_n (lv' := [(0, .int x0_4)]) hx hb dJ6_bitCount_0f7a4_40 rfl hl (by decide) rfl (fun ls hl => ?_)
  refine lv_iload_n hx hb dJ6_bitCount_0f7a4_41 rfl (lv_at hl 0 rfl) ?_
  refine lv_iload_n hx hb dJ6_bitCount_0f7a4_42 rfl (lv_at hl 0 rfl) ?_
  refine lv_bipush (v := 16) hx hb dJ6_bitCount_0f7a4_43 (by decide) ?_
  refine lv_iushr hx hb dJ6_bitCount_0f7a4_45 rfl ?_
  refine lv_iadd hx hb dJ6_bitCount_0f7a4_46 ?_
  refine lv_topi (fun x0_5 ex0_5 => ?_)
  have hw := hw x0_5 ex0_5
  refine lv_istore_n (lv' := [(0, .int x0_5)]) hx hb dJ6_bitCount_0f7a4_47 rfl hl (by decide) rfl (fun ls hl => ?_)
  refine lv_iload_n hx hb dJ6_bitCount_0f7a4_48 rfl (lv_at hl 0 rfl) ?_
  refine lv_bipush (v := 63) hx hb dJ6_bitCount_0f7a4_49 (by decide) ?_
  refine lv_iand hx hb dJ6_bitCount_0f7a4_51 ?_
  exact hw_iret hx hb hr hlocks (σ) ⟨rfl, hw⟩ hP hS dJ6_bitCount_0f7a4_52
set_option maxHeartbeats 4000000 in
set_option maxRecDepth 100000 in
theorem kc_X6_rank (l : Launch) (D : va_G) (cy : Nat → ClassId) (N : Nat) (ad : Nat → Nat) (b : hCell) (σ : hSt) (sz : Nat) (a0 : Int32) (a1 : Int32) (Q : Int32 → Prop) (hw : wp_X6_rank a0 a1 Q) : Met l yX6_rank wsX6_rank ({ frames := 1, cells := 0, slots := 0, locals := 21 } : Room) (va_Pc [.int a0, .int a1] (hB D cy (hC N ad b σ) sz)) (va_Qi (fun (r : Int32) (u : hSt) => u = σ ∧ Q r) (hE D (fun u : hSt => hC N ad b u)) (hA N ad sz)) 0 0 (hA N ad sz) := by
  refine Met.ofW (cc := cX6_rank) (maxL := 7) (ret := (some .int)) (by decide) rfl ?_
  intro p e s m args below meth c s₁ B hml hv
  obtain ⟨rfl, hsz, hP, hK, hN1⟩ := hv
  have hx := B.exec
  have hb := B.bytes
  have hr := B.returns
  have hts := atoms_spec (ws := wsX6_rank) B.pre
  have hown : s.vm.findClass RX6 = some m.cls := findClass_of_methodNamed B.named
  have hlocks := B.notSynchronized
  subst hsz
  have hS : va_S (hA N ad s.heap.size) s.heap s.heap [] := va_S.rf
  have hl := lv_entry ([.int a0, .int a1]) (n := 7) (Nat.le_of_ble_eq_true rfl)
  rw [lg_entry_eq]
  generalize (lg_sl ([.int a0, .int a1]) ++ List.replicate (7 - (lg_sl ([.int a0, .int a1])).length) Slot.unset).toArray = ls at hl ⊢
  have hl : lv_has ls 7 [(0, .int a0), (1, .int a1)] := hl
  unfold wp_X6_rank at hw
  refine lv_iconst (v := 0) hx hb dX6_rank_0 (by decide) ?_
  refine lv_istore_n (lv' := [(2, .int (0 : Int32)), (0, .int a0), (1, .int a1)]) hx hb dX6_rank_1 rfl hl (by decide) rfl (fun ls hl => ?_)
  refine lv_iconst (v := 0) hx hb dX6_rank_2 (by decide) ?_
  refine lv_istore_n (lv' := [(3, .int (0 : Int32)), (2, .int (0 : Int32)), (0, .int a0), (1, .int a1)]) hx hb dX6_rank_3 rfl hl (by decide) rfl (fun ls hl => ?_)
  refine lv_iconst (v := 0) hx hb dX6_rank_4 (by decide) ?_
  refine lv_istore (lv' := [(4, .int (0 : Int32)), (3, .int (0 : Int32)), (2, .int (0 : Int32)), (0, .int a0), (1, .int a1)]) hx hb dX6_rank_5 hl (by decide) rfl (fun ls hl => ?_)
  refine hw (fun (v2_1 : Int32) (v3_2 : Int32) (v4_3 : Int32) => ∀ (H : Heap) (locs : List Loc) (ls : Array Slot), va_P D vwCl (hC N ad b σ) H → va_S (hA N ad s.heap.size) s.heap H locs → lv_has ls 7 [(0, .int a0), (1, .int a1), (2, .int v2_1), (3, .int v3_2), (4, .int v4_3)] → W p l e (headSpec wsX6_rank ({ frames := 1, cells := 0, slots := 0, locals := 21 } : Room)).room s m ([Value.int a0, Value.int a1] : List Value).toArray below meth c H locs 0 0 (MQ below (va_Qi (fun (r : Int32) (u : hSt) => u = σ ∧ Q r) (hE D (fun u : hSt => hC N ad b u)) (hA N ad s.heap.size)) ([Value.int a0, Value.int a1] : List Value).toArray s 0 0 (hA N ad s.heap.size)) (F0 m 7 ls [])) (fun v2_1 v3_2 v4_3 hw H locs ls hP hS hl => ?_) _ _ _ hP hS (lv_sub hl [3, 4, 2, 1, 0] rfl)
  refine lv_iload hx hb dX6_rank_7 (lv_at hl 4 rfl) ?_
  refine lv_iload_n hx hb dX6_rank_9 rfl (lv_at hl 1 rfl) ?_
  refine lv_icmp_ge (tgt := 60) hx hb dX6_rank_10 (by decide) (fun c4 => ?_) (fun c4 => ?_)
  · have hw := hw.1 c4
    refine lv_iload_n hx hb dX6_rank_60 rfl (lv_at hl 2 rfl) ?_
    exact hw_iret hx hb hr hlocks (σ) ⟨rfl, hw⟩ hP hS dX6_rank_61
  have hw := hw.2 c4
  refine lv_iload_n hx hb dX6_rank_13 rfl (lv_at hl 0 rfl) ?_
  refine lv_iload hx hb dX6_rank_14 (lv_at hl 4 rfl) ?_
  refine hw_ki (va_runS (As := [.int a0, .int v4_3]) (rest := []) ⟨hx, hb, hml, hown, hts⟩ (kc_X6_bellAt l D cy N ad b σ _ a0 v4_3 _ hw) (va_cwS 2 hts gX6_rank_X6_bellAt rfl rfl rfl (by decide +kernel) ⟨Nat.le_of_ble_eq_true rfl, Nat.le_of_ble_eq_true rfl⟩) (hw_pre hK hN1 hP) rfl rfl hl.1 rfl (lv_room (Nat.le_of_ble_eq_true rfl)) dX6_rank_16 ⟨Nat.zero_le _, Nat.zero_le _⟩) hS (fun r6 σ5 H locs hw hP hS => ?_)
  obtain ⟨hu_, hw⟩ := hw
  rw [hu_] at hP
  refine lv_istore (lv' := [(5, .int r6), (0, .int a0), (1, .int a1), (2, .int v2_1), (3, .int v3_2), (4, .int v4_3)]) hx hb dX6_rank_19 hl (by decide) rfl (fun ls hl => ?_)
  refine lv_iload_n hx hb dX6_rank_21 rfl (lv_at hl 4 rfl) ?_
  refine lv_iconst (v := 1) hx hb dX6_rank_22 (by decide) ?_
  refine lv_iload hx hb dX6_rank_23 (lv_at hl 0 rfl) ?_
  refine lv_ishl hx hb dX6_rank_25 ?_
  refine lv_iconst (v := 1) hx hb dX6_rank_26 (by decide) ?_
  refine lv_isub hx hb dX6_rank_27 ?_
  refine lv_iand hx hb dX6_rank_28 ?_
  refine hw_ki (va_runS (As := [.int (v3_2 &&& (((1 : Int32) <<< (r6 &&& 31)) - (1 : Int32)))]) (rest := []) ⟨hx, hb, hml, hown, hts⟩ (kc_J6_bitCount_0f7a4 l D cy N ad b σ _ (v3_2 &&& (((1 : Int32) <<< (r6 &&& 31)) - (1 : Int32))) _ hw) (va_cwS 1 hts gX6_rank_J6_bitCount_0f7a4 rfl rfl rfl (by decide +kernel) ⟨Nat.le_of_ble_eq_true rfl, Nat.le_of_ble_eq_true rfl⟩) (hw_pre hK hN1 hP) rfl rfl hl.1 rfl (lv_room (Nat.le_of_ble_eq_true rfl)) dX6_rank_29 ⟨Nat.zero_le _, Nat.zero_le _⟩) hS (fun r8 σ7 H locs hw hP hS => ?_)
  obtain ⟨hu_, hw⟩ := hw
  rw [hu_] at hP
  refine lv_istore (lv' := [(6, .int r8), (5, .int r6), (0, .int a0), (1, .int a1), (2, .int v2_1), (3, .int v3_2), (4, .int v4_3)]) hx hb dX6_rank_32 hl (by decide) rfl (fun ls hl => ?_)
  refine lv_iload_n hx hb dX6_rank_34 rfl (lv_at hl 4 rfl) ?_
  refine lv_iload_n hx hb dX6_rank_35 rfl (lv_at hl 3 rfl) ?_
  refine lv_iload hx hb dX6_rank_36 (lv_at hl 6 rfl) ?_
  refine lv_isub hx hb dX6_rank_38 ?_
  refine lv_imul hx hb dX6_rank_39 ?_
  refine lv_iload hx hb dX6_rank_40 (lv_at hl 1 rfl) ?_
  refine lv_iadd hx hb dX6_rank_42 ?_
  refine lv_iload hx hb dX6_rank_43 (lv_at hl 0 rfl) ?_
  refine lv_isub hx hb dX6_rank_45 ?_
  refine lv_topi (fun x2_9 ex2_9 => ?_)
  have hw := hw x2_9 ex2_9
  refine lv_istore_n (lv' := [(2, .int x2_9), (6, .int r8), (5, .int r6), (0, .int a0), (1, .int a1), (3, .int v3_2), (4, .int v4_3)]) hx hb dX6_rank_46 rfl hl (by decide) rfl (fun ls hl => ?_)
  refine lv_iload_n hx hb dX6_rank_47 rfl (lv_at hl 5 rfl) ?_
  refine lv_iconst (v := 1) hx hb dX6_rank_48 (by decide) ?_
  refine lv_iload hx hb dX6_rank_49 (lv_at hl 2 rfl) ?_
  refine lv_ishl hx hb dX6_rank_51 ?_
  refine lv_ior hx hb dX6_rank_52 ?_
  refine lv_topi (fun x3_10 ex3_10 => ?_)
  have hw := hw x3_10 ex3_10
  refine lv_istore_n (lv' := [(3, .int x3_10), (2, .int x2_9), (6, .int r8), (5, .int r6), (0, .int a0), (1, .int a1), (4, .int v4_3)]) hx hb dX6_rank_53 rfl hl (by decide) rfl (fun ls hl => ?_)
  obtain ⟨x4_11, ex4_11⟩ : ∃ z : Int32, z = v4_3 + (1 : Int32) := ⟨_, rfl⟩
  have hw := hw x4_11 ex4_11
  refine lv_iinc (v := x4_11) (lv' := [(4, .int x4_11), (3, .int x3_10), (2, .int x2_9), (6, .int r8), (5, .int r6), (0, .int a0), (1, .int a1)]) hx hb dX6_rank_54 hl (k := 6) rfl (by rw [ex4_11]; rfl) (by decide) rfl (fun ls hl => ?_)
  refine lv_goto (tgt := 7) hx hb dX6_rank_57 (by decide) ?_
  exact hw _ _ _ hP hS (lv_sub hl [5, 6, 2, 1, 0] rfl)

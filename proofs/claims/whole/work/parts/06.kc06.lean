set_option maxHeartbeats 4000000 in
set_option maxRecDepth 100000 in
theorem kc_X5_repeatedFrom (l : Launch) (D : va_G) (cy : Nat → ClassId) (N : Nat) (hN : 38 ≤ N) (ad : Nat → Nat) (hJ0 : hJ N ad) (σ : hSt) (sz : Nat)  (Q : Int32 → hSt → Prop) (hw : wp_X5_repeatedFrom  σ Q) : Met l yX5_repeatedFrom wsX5_repeatedFrom ({ frames := 5, cells := 0, slots := 0, locals := 118 } : Room) (va_Pc [.ref (ad 31)] (hB D cy (hC N ad (bX cy ad) σ) sz)) (va_Qi (fun (r : Int32) (u : hSt) => Q r u) (hE D (fun u : hSt => hC N ad (bX cy ad) u)) (hA N ad sz)) 0 0 (hA N ad sz) := by
  refine Met.ofW (cc := cX5_repeatedFrom) (maxL := 1) (ret := (some .int)) (by decide) rfl ?_
  intro p e s m args below meth c s₁ B hml hv
  obtain ⟨rfl, hsz, hP, hK, hN1⟩ := hv
  have hx := B.exec
  have hb := B.bytes
  have hr := B.returns
  have hts := atoms_spec (ws := wsX5_repeatedFrom) B.pre
  have hown : s.vm.findClass RX5 = some m.cls := findClass_of_methodNamed B.named
  have hlocks := B.notSynchronized
  subst hsz
  have hS : va_S (hA N ad s.heap.size) s.heap s.heap [] := va_S.rf
  have hiX5 : ∀ w ∈ wsX50, w ∈ wsX5_repeatedFrom := fun _ h => List.mem_cons_of_mem _ (List.mem_append_left _ (List.mem_append_left _ (List.mem_append_left _ (List.mem_append_right _ h))))
  have hl := lv_entry ([.ref (ad 31)]) (n := 1) (Nat.le_of_ble_eq_true rfl)
  rw [lg_entry_eq]
  generalize (lg_sl ([.ref (ad 31)]) ++ List.replicate (1 - (lg_sl ([.ref (ad 31)])).length) Slot.unset).toArray = ls at hl ⊢
  have hl : lv_has ls 1 [(0, .ref (ad 31))] := hl
  unfold wp_X5_repeatedFrom at hw
  refine lv_aload_n hx hb dX5_repeatedFrom_0 rfl (lv_at hl 0 rfl) ?_
  refine hw_kv (va_runV (As := []) (rest := []) ⟨hx, hb, hml, hown, hts⟩ (kc_X5_prove l D cy N hN ad hJ0 σ _  _ hw) (cwV 0 hts gX5_repeatedFrom_X5_prove rfl rfl rfl (by decide +kernel) ⟨Nat.le_of_ble_eq_true rfl, Nat.le_of_ble_eq_true rfl⟩) (hw_preV hK hN1 hP (Nat.lt_of_lt_of_le (by decide) hN) (bX_31 _) rfl) rfl rfl hl.1 rfl (lv_room (Nat.le_of_ble_eq_true rfl)) dX5_repeatedFrom_1 ⟨Nat.zero_le _, Nat.zero_le _⟩) hS (fun σ1 H locs hw hP hS => ?_)
  refine lv_aload_n hx hb dX5_repeatedFrom_4 rfl (lv_at hl 0 rfl) ?_
  refine hw_get (v := .int (σ1 31 11)) hx hb hts hiX5 hown hK hP (Nat.lt_of_lt_of_le (by decide) hN) (bX_31 _) rfl 11 (by decide) (List.mem_of_getElem? (i := 1) rfl) rfl rfl dX5_repeatedFrom_5 ?_
  exact hw_iret hx hb hr hlocks (σ1) hw hP hS dX5_repeatedFrom_8
set_option maxHeartbeats 4000000 in
set_option maxRecDepth 100000 in
theorem kc_X5_ending (l : Launch) (D : va_G) (cy : Nat → ClassId) (N : Nat) (hN : 38 ≤ N) (ad : Nat → Nat) (hJ0 : hJ N ad) (σ : hSt) (sz : Nat)  (Q : Int32 → Prop) (hw : wp_X5_ending  σ Q) : Met l yX5_ending wsX5_ending ({ frames := 0, cells := 0, slots := 0, locals := 0 } : Room) (va_Pc [.ref (ad 31)] (hB D cy (hC N ad (bX cy ad) σ) sz)) (va_Qi (fun (r : Int32) (u : hSt) => u = σ ∧ Q r) (hE D (fun u : hSt => hC N ad (bX cy ad) u)) (hA N ad sz)) 0 0 (hA N ad sz) := by
  refine Met.ofW (cc := cX5_ending) (maxL := 1) (ret := (some .int)) (by decide) rfl ?_
  intro p e s m args below meth c s₁ B hml hv
  obtain ⟨rfl, hsz, hP, hK, hN1⟩ := hv
  have hx := B.exec
  have hb := B.bytes
  have hr := B.returns
  have hts := atoms_spec (ws := wsX5_ending) B.pre
  have hown : s.vm.findClass RX5 = some m.cls := findClass_of_methodNamed B.named
  have hlocks := B.notSynchronized
  subst hsz
  have hS : va_S (hA N ad s.heap.size) s.heap s.heap [] := va_S.rf
  have hiX5 : ∀ w ∈ wsX50, w ∈ wsX5_ending := fun _ h => List.mem_cons_of_mem _ (List.mem_append_right _ h)
  have hl := lv_entry ([.ref (ad 31)]) (n := 1) (Nat.le_of_ble_eq_true rfl)
  rw [lg_entry_eq]
  generalize (lg_sl ([.ref (ad 31)]) ++ List.replicate (1 - (lg_sl ([.ref (ad 31)])).length) Slot.unset).toArray = ls at hl ⊢
  have hl : lv_has ls 1 [(0, .ref (ad 31))] := hl
  unfold wp_X5_ending at hw
  refine lv_aload_n hx hb dX5_ending_0 rfl (lv_at hl 0 rfl) ?_
  refine hw_get (v := .int (σ 31 8)) hx hb hts hiX5 hown hK hP (Nat.lt_of_lt_of_le (by decide) hN) (bX_31 _) rfl 8 (by decide) (List.mem_of_getElem? (i := 1) rfl) rfl rfl dX5_ending_1 ?_
  exact hw_iret hx hb hr hlocks (σ) ⟨rfl, hw⟩ hP hS dX5_ending_4
set_option maxHeartbeats 4000000 in
set_option maxRecDepth 100000 in
theorem kc_X5_order (l : Launch) (D : va_G) (cy : Nat → ClassId) (N : Nat) (hN : 38 ≤ N) (ad : Nat → Nat) (hJ0 : hJ N ad) (σ : hSt) (sz : Nat)  (Q : Int32 → Prop) (hw : wp_X5_order  σ Q) : Met l yX5_order wsX5_order ({ frames := 3, cells := 0, slots := 0, locals := 68 } : Room) (va_Pc [.ref (ad 31)] (hB D cy (hC N ad (bX cy ad) σ) sz)) (va_Qi (fun (r : Int32) (u : hSt) => u = σ ∧ Q r) (hE D (fun u : hSt => hC N ad (bX cy ad) u)) (hA N ad sz)) 0 0 (hA N ad sz) := by
  refine Met.ofW (cc := cX5_order) (maxL := 1) (ret := (some .int)) (by decide) rfl ?_
  intro p e s m args below meth c s₁ B hml hv
  obtain ⟨rfl, hsz, hP, hK, hN1⟩ := hv
  have hx := B.exec
  have hb := B.bytes
  have hr := B.returns
  have hts := atoms_spec (ws := wsX5_order) B.pre
  have hown : s.vm.findClass RX5 = some m.cls := findClass_of_methodNamed B.named
  have hlocks := B.notSynchronized
  subst hsz
  have hS : va_S (hA N ad s.heap.size) s.heap s.heap [] := va_S.rf
  have hiX5 : ∀ w ∈ wsX50, w ∈ wsX5_order := fun _ h => List.mem_cons_of_mem _ (List.mem_append_right _ h)
  have hl := lv_entry ([.ref (ad 31)]) (n := 1) (Nat.le_of_ble_eq_true rfl)
  rw [lg_entry_eq]
  generalize (lg_sl ([.ref (ad 31)]) ++ List.replicate (1 - (lg_sl ([.ref (ad 31)])).length) Slot.unset).toArray = ls at hl ⊢
  have hl : lv_has ls 1 [(0, .ref (ad 31))] := hl
  unfold wp_X5_order at hw
  refine lv_aload_n hx hb dX5_order_0 rfl (lv_at hl 0 rfl) ?_
  refine hw_get (v := .int (σ 31 8)) hx hb hts hiX5 hown hK hP (Nat.lt_of_lt_of_le (by decide) hN) (bX_31 _) rfl 8 (by decide) (List.mem_of_getElem? (i := 1) rfl) rfl rfl dX5_order_1 ?_
  refine lv_aload_n hx hb dX5_order_4 rfl (lv_at hl 0 rfl) ?_
  refine hw_get (v := .int (σ 31 5)) hx hb hts hiX5 hown hK hP (Nat.lt_of_lt_of_le (by decide) hN) (bX_31 _) rfl 5 (by decide) (List.mem_of_getElem? (i := 2) rfl) rfl rfl dX5_order_5 ?_
  refine hw_ki (va_runS (As := [.int (σ 31 8), .int (σ 31 5)]) (rest := []) ⟨hx, hb, hml, hown, hts⟩ (kc_X6_order l D cy N ad (bX cy ad) σ _ (σ 31 8) (σ 31 5) _ hw) (va_cwS 2 hts gX5_order_X6_order rfl rfl rfl (by decide +kernel) ⟨Nat.le_of_ble_eq_true rfl, Nat.le_of_ble_eq_true rfl⟩) (hw_pre hK hN1 hP) rfl rfl hl.1 rfl (lv_room (Nat.le_of_ble_eq_true rfl)) dX5_order_8 ⟨Nat.zero_le _, Nat.zero_le _⟩) hS (fun r2 σ1 H locs hw hP hS => ?_)
  obtain ⟨hu_, hw⟩ := hw
  rw [hu_] at hP
  exact hw_iret hx hb hr hlocks (σ) ⟨rfl, hw⟩ hP hS dX5_order_11
set_option maxHeartbeats 4000000 in
set_option maxRecDepth 100000 in
theorem kc_X5_calls (l : Launch) (D : va_G) (cy : Nat → ClassId) (N : Nat) (hN : 38 ≤ N) (ad : Nat → Nat) (hJ0 : hJ N ad) (σ : hSt) (sz : Nat) (a1 : Int32) (Q : Int32 → Prop) (hw : wp_X5_calls a1 σ Q) : Met l yX5_calls wsX5_calls ({ frames := 2, cells := 0, slots := 0, locals := 42 } : Room) (va_Pc [.ref (ad 31), .int a1] (hB D cy (hC N ad (bX cy ad) σ) sz)) (va_Qi (fun (r : Int32) (u : hSt) => u = σ ∧ Q r) (hE D (fun u : hSt => hC N ad (bX cy ad) u)) (hA N ad sz)) 0 0 (hA N ad sz) := by
  refine Met.ofW (cc := cX5_calls) (maxL := 4) (ret := (some .int)) (by decide) rfl ?_
  intro p e s m args below meth c s₁ B hml hv
  obtain ⟨rfl, hsz, hP, hK, hN1⟩ := hv
  have hx := B.exec
  have hb := B.bytes
  have hr := B.returns
  have hts := atoms_spec (ws := wsX5_calls) B.pre
  have hown : s.vm.findClass RX5 = some m.cls := findClass_of_methodNamed B.named
  have hlocks := B.notSynchronized
  subst hsz
  have hS : va_S (hA N ad s.heap.size) s.heap s.heap [] := va_S.rf
  have hiX5 : ∀ w ∈ wsX50, w ∈ wsX5_calls := fun _ h => List.mem_cons_of_mem _ (List.mem_append_right _ h)
  have hl := lv_entry ([.ref (ad 31), .int a1]) (n := 4) (Nat.le_of_ble_eq_true rfl)
  rw [lg_entry_eq]
  generalize (lg_sl ([.ref (ad 31), .int a1]) ++ List.replicate (4 - (lg_sl ([.ref (ad 31), .int a1])).length) Slot.unset).toArray = ls at hl ⊢
  have hl : lv_has ls 4 [(0, .ref (ad 31)), (1, .int a1)] := hl
  unfold wp_X5_calls at hw
  refine lv_iconst (v := 0) hx hb dX5_calls_0 (by decide) ?_
  refine lv_istore_n (lv' := [(2, .int (0 : Int32)), (0, .ref (ad 31)), (1, .int a1)]) hx hb dX5_calls_1 rfl hl (by decide) rfl (fun ls hl => ?_)
  refine lv_iconst (v := 0) hx hb dX5_calls_2 (by decide) ?_
  refine lv_istore_n (lv' := [(3, .int (0 : Int32)), (2, .int (0 : Int32)), (0, .ref (ad 31)), (1, .int a1)]) hx hb dX5_calls_3 rfl hl (by decide) rfl (fun ls hl => ?_)
  refine hw (fun (v2_1 : Int32) (v3_2 : Int32) => ∀ (H : Heap) (locs : List Loc) (ls : Array Slot), va_P D vwCl (hC N ad (bX cy ad) σ) H → va_S (hA N ad s.heap.size) s.heap H locs → lv_has ls 4 [(0, .ref (ad 31)), (1, .int a1), (2, .int v2_1), (3, .int v3_2)] → W p l e (headSpec wsX5_calls ({ frames := 2, cells := 0, slots := 0, locals := 42 } : Room)).room s m ([Value.ref (ad 31), Value.int a1] : List Value).toArray below meth c H locs 0 0 (MQ below (va_Qi (fun (r : Int32) (u : hSt) => u = σ ∧ Q r) (hE D (fun u : hSt => hC N ad (bX cy ad) u)) (hA N ad s.heap.size)) ([Value.ref (ad 31), Value.int a1] : List Value).toArray s 0 0 (hA N ad s.heap.size)) (F0 m 4 ls [])) (fun v2_1 v3_2 hw H locs ls hP hS hl => ?_) _ _ _ hP hS (lv_sub hl [2, 3, 1, 0] rfl)
  refine lv_iload_n hx hb dX5_calls_4 rfl (lv_at hl 3 rfl) ?_
  refine lv_aload_n hx hb dX5_calls_5 rfl (lv_at hl 0 rfl) ?_
  refine hw_get (v := .int (σ 31 6)) hx hb hts hiX5 hown hK hP (Nat.lt_of_lt_of_le (by decide) hN) (bX_31 _) rfl 6 (by decide) (List.mem_of_getElem? (i := 1) rfl) rfl rfl dX5_calls_6 ?_
  refine lv_icmp_ge (tgt := 38) hx hb dX5_calls_9 (by decide) (fun c3 => ?_) (fun c3 => ?_)
  · have hw := hw.1 c3
    refine lv_iload_n hx hb dX5_calls_38 rfl (lv_at hl 2 rfl) ?_
    exact hw_iret hx hb hr hlocks (σ) ⟨rfl, hw⟩ hP hS dX5_calls_39
  have hw := hw.2 c3
  refine lv_iload_n hx hb dX5_calls_12 rfl (lv_at hl 2 rfl) ?_
  refine lv_aload_n hx hb dX5_calls_13 rfl (lv_at hl 0 rfl) ?_
  refine lv_iload_n hx hb dX5_calls_14 rfl (lv_at hl 3 rfl) ?_
  refine hw_ki (va_runV (As := [.int v3_2]) (rest := [.int v2_1]) ⟨hx, hb, hml, hown, hts⟩ (kc_X5_callOf l D cy N hN ad hJ0 σ _ v3_2 _ hw) (cwV 1 hts gX5_calls_X5_callOf rfl rfl rfl (by decide +kernel) ⟨Nat.le_of_ble_eq_true rfl, Nat.le_of_ble_eq_true rfl⟩) (hw_preV hK hN1 hP (Nat.lt_of_lt_of_le (by decide) hN) (bX_31 _) rfl) rfl rfl hl.1 rfl (lv_room (Nat.le_of_ble_eq_true rfl)) dX5_calls_15 ⟨Nat.zero_le _, Nat.zero_le _⟩) hS (fun r5 σ4 H locs hw hP hS => ?_)
  obtain ⟨hu_, hw⟩ := hw
  rw [hu_] at hP
  refine lv_iload_n hx hb dX5_calls_18 rfl (lv_at hl 1 rfl) ?_
  refine lv_icmp_ne (tgt := 26) hx hb dX5_calls_19 (by decide) (fun c6 => ?_) (fun c6 => ?_)
  · have hw := hw.1 c6
    refine lv_iconst (v := 0) hx hb dX5_calls_26 (by decide) ?_
    refine hw_ki (va_runSN (As := [.int (0 : Int32)]) (rest := [.int v2_1]) ⟨hx, hb, hml, hown, hts⟩ (kc_X11_oneIf l D cy N ad (bX cy ad) σ _ (0 : Int32) _ hw) ⟨va_cnB 1 hts gX5_calls_X11_oneIf_n87 rfl rfl rfl (hN1.at 7 rfl) (hts (.initialized RX11) (List.mem_of_getElem? (i := 9) rfl)) (by decide +kernel) ⟨Nat.le_of_ble_eq_true rfl, Nat.le_of_ble_eq_true rfl⟩, hts (.static yX11_oneIf) (List.mem_of_getElem? (i := 11) rfl), trivial⟩ (hw_pre hK hN1 hP) rfl rfl hl.1 rfl (lv_room (Nat.le_of_ble_eq_true rfl)) dX5_calls_27 ⟨Nat.zero_le _, Nat.zero_le _⟩) hS (fun r8 σ7 H locs hw hP hS => ?_)
    obtain ⟨hu_, hw⟩ := hw
    rw [hu_] at hP
    refine lv_iadd hx hb dX5_calls_30 ?_
    refine lv_topi (fun x2_9 ex2_9 => ?_)
    have hw := hw x2_9 ex2_9
    refine lv_istore_n (lv' := [(2, .int x2_9), (0, .ref (ad 31)), (1, .int a1), (3, .int v3_2)]) hx hb dX5_calls_31 rfl hl (by decide) rfl (fun ls hl => ?_)
    obtain ⟨x3_10, ex3_10⟩ : ∃ z : Int32, z = v3_2 + (1 : Int32) := ⟨_, rfl⟩
    have hw := hw x3_10 ex3_10
    refine lv_iinc (v := x3_10) (lv' := [(3, .int x3_10), (2, .int x2_9), (0, .ref (ad 31)), (1, .int a1)]) hx hb dX5_calls_32 hl (k := 3) rfl (by rw [ex3_10]; rfl) (by decide) rfl (fun ls hl => ?_)
    refine lv_goto (tgt := 4) hx hb dX5_calls_35 (by decide) ?_
    exact hw _ _ _ hP hS (lv_sub hl [2, 3, 1, 0] rfl)
  have hw := hw.2 c6
  refine lv_iconst (v := 1) hx hb dX5_calls_22 (by decide) ?_
  refine lv_goto (tgt := 27) hx hb dX5_calls_23 (by decide) ?_
  refine hw_ki (va_runSN (As := [.int (1 : Int32)]) (rest := [.int v2_1]) ⟨hx, hb, hml, hown, hts⟩ (kc_X11_oneIf l D cy N ad (bX cy ad) σ _ (1 : Int32) _ hw) ⟨va_cnB 1 hts gX5_calls_X11_oneIf_n87 rfl rfl rfl (hN1.at 7 rfl) (hts (.initialized RX11) (List.mem_of_getElem? (i := 9) rfl)) (by decide +kernel) ⟨Nat.le_of_ble_eq_true rfl, Nat.le_of_ble_eq_true rfl⟩, hts (.static yX11_oneIf) (List.mem_of_getElem? (i := 11) rfl), trivial⟩ (hw_pre hK hN1 hP) rfl rfl hl.1 rfl (lv_room (Nat.le_of_ble_eq_true rfl)) dX5_calls_27 ⟨Nat.zero_le _, Nat.zero_le _⟩) hS (fun r12 σ11 H locs hw hP hS => ?_)
  obtain ⟨hu_, hw⟩ := hw
  rw [hu_] at hP
  refine lv_iadd hx hb dX5_calls_30 ?_
  refine lv_topi (fun x2_13 ex2_13 => ?_)
  have hw := hw x2_13 ex2_13
  refine lv_istore_n (lv' := [(2, .int x2_13), (0, .ref (ad 31)), (1, .int a1), (3, .int v3_2)]) hx hb dX5_calls_31 rfl hl (by decide) rfl (fun ls hl => ?_)
  obtain ⟨x3_14, ex3_14⟩ : ∃ z : Int32, z = v3_2 + (1 : Int32) := ⟨_, rfl⟩
  have hw := hw x3_14 ex3_14
  refine lv_iinc (v := x3_14) (lv' := [(3, .int x3_14), (2, .int x2_13), (0, .ref (ad 31)), (1, .int a1)]) hx hb dX5_calls_32 hl (k := 3) rfl (by rw [ex3_14]; rfl) (by decide) rfl (fun ls hl => ?_)
  refine lv_goto (tgt := 4) hx hb dX5_calls_35 (by decide) ?_
  exact hw _ _ _ hP hS (lv_sub hl [2, 3, 1, 0] rfl)
set_option maxHeartbeats 4000000 in
set_option maxRecDepth 100000 in
theorem kc_X5_methodChanges (l : Launch) (D : va_G) (cy : Nat → ClassId) (N : Nat) (hN : 38 ≤ N) (ad : Nat → Nat) (hJ0 : hJ N ad) (σ : hSt) (sz : Nat)  (Q : Int32 → Prop) (hw : wp_X5_methodChanges  σ Q) : Met l yX5_methodChanges wsX5_methodChanges ({ frames := 2, cells := 0, slots := 0, locals := 42 } : Room) (va_Pc [.ref (ad 31)] (hB D cy (hC N ad (bX cy ad) σ) sz)) (va_Qi (fun (r : Int32) (u : hSt) => u = σ ∧ Q r) (hE D (fun u : hSt => hC N ad (bX cy ad) u)) (hA N ad sz)) 0 0 (hA N ad sz) := by
  refine Met.ofW (cc := cX5_methodChanges) (maxL := 3) (ret := (some .int)) (by decide) rfl ?_
  intro p e s m args below meth c s₁ B hml hv
  obtain ⟨rfl, hsz, hP, hK, hN1⟩ := hv
  have hx := B.exec
  have hb := B.bytes
  have hr := B.returns
  have hts := atoms_spec (ws := wsX5_methodChanges) B.pre
  have hown : s.vm.findClass RX5 = some m.cls := findClass_of_methodNamed B.named
  have hlocks := B.notSynchronized
  subst hsz
  have hS : va_S (hA N ad s.heap.size) s.heap s.heap [] := va_S.rf
  have hiX5 : ∀ w ∈ wsX50, w ∈ wsX5_methodChanges := fun _ h => List.mem_cons_of_mem _ (List.mem_append_right _ h)
  have hl := lv_entry ([.ref (ad 31)]) (n := 3) (Nat.le_of_ble_eq_true rfl)
  rw [lg_entry_eq]
  generalize (lg_sl ([.ref (ad 31)]) ++ List.replicate (3 - (lg_sl ([.ref (ad 31)])).length) Slot.unset).toArray = ls at hl ⊢
  have hl : lv_has ls 3 [(0, .ref (ad 31))] := hl
  unfold wp_X5_methodChanges at hw
  refine lv_iconst (v := 0) hx hb dX5_methodChanges_0 (by decide) ?_
  refine lv_istore_n (lv' := [(1, .int (0 : Int32)), (0, .ref (ad 31))]) hx hb dX5_methodChanges_1 rfl hl (by decide) rfl (fun ls hl => ?_)
  refine lv_iconst (v := 1) hx hb dX5_methodChanges_2 (by decide) ?_
  refine lv_istore_n (lv' := [(2, .int (1 : Int32)), (1, .int (0 : Int32)), (0, .ref (ad 31))]) hx hb dX5_methodChanges_3 rfl hl (by decide) rfl (fun ls hl => ?_)
  refine hw (fun (v1_1 : Int32) (v2_2 : Int32) => ∀ (H : Heap) (locs : List Loc) (ls : Array Slot), va_P D vwCl (hC N ad (bX cy ad) σ) H → va_S (hA N ad s.heap.size) s.heap H locs → lv_has ls 3 [(0, .ref (ad 31)), (1, .int v1_1), (2, .int v2_2)] → W p l e (headSpec wsX5_methodChanges ({ frames := 2, cells := 0, slots := 0, locals := 42 } : Room)).room s m ([Value.ref (ad 31)] : List Value).toArray below meth c H locs 0 0 (MQ below (va_Qi (fun (r : Int32) (u : hSt) => u = σ ∧ Q r) (hE D (fun u : hSt => hC N ad (bX cy ad) u)) (hA N ad s.heap.size)) ([Value.ref (ad 31)] : List Value).toArray s 0 0 (hA N ad s.heap.size)) (F0 m 4 ls [])) (fun v1_1 v2_2 hw H locs ls hP hS hl => ?_) _ _ _ hP hS (lv_sub hl [2, 1, 0] rfl)
  refine lv_iload_n hx hb dX5_methodChanges_4 rfl (lv_at hl 2 rfl) ?_
  refine lv_aload_n hx hb dX5_methodChanges_5 rfl (lv_at hl 0 rfl) ?_
  refine hw_get (v := .int (σ 31 6)) hx hb hts hiX5 hown hK hP (Nat.lt_of_lt_of_le (by decide) hN) (bX_31 _) rfl 6 (by decide) (List.mem_of_getElem? (i := 1) rfl) rfl rfl dX5_methodChanges_6 ?_
  refine lv_icmp_ge (tgt := 44) hx hb dX5_methodChanges_9 (by decide) (fun c3 => ?_) (fun c3 => ?_)
  · have hw := hw.1 c3
    refine lv_iload_n hx hb dX5_methodChanges_44 rfl (lv_at hl 1 rfl) ?_
    exact hw_iret hx hb hr hlocks (σ) ⟨rfl, hw⟩ hP hS dX5_methodChanges_45
  have hw := hw.2 c3
  refine lv_iload_n hx hb dX5_methodChanges_12 rfl (lv_at hl 1 rfl) ?_
  refine lv_aload_n hx hb dX5_methodChanges_13 rfl (lv_at hl 0 rfl) ?_
  refine lv_iload_n hx hb dX5_methodChanges_14 rfl (lv_at hl 2 rfl) ?_
  refine hw_ki (va_runV (As := [.int v2_2]) (rest := [.int v1_1]) ⟨hx, hb, hml, hown, hts⟩ (kc_X5_letterOf l D cy N hN ad hJ0 σ _ v2_2 _ hw) (cwV 1 hts gX5_methodChanges_X5_letterOf rfl rfl rfl (by decide +kernel) ⟨Nat.le_of_ble_eq_true rfl, Nat.le_of_ble_eq_true rfl⟩) (hw_preV hK hN1 hP (Nat.lt_of_lt_of_le (by decide) hN) (bX_31 _) rfl) rfl rfl hl.1 rfl (lv_room (Nat.le_of_ble_eq_true rfl)) dX5_methodChanges_15 ⟨Nat.zero_le _, Nat.zero_le _⟩) hS (fun r5 σ4 H locs hw hP hS => ?_)
  obtain ⟨hu_, hw⟩ := hw
  rw [hu_] at hP
  refine lv_aload_n hx hb dX5_methodChanges_18 rfl (lv_at hl 0 rfl) ?_
  refine lv_iload_n hx hb dX5_methodChanges_19 rfl (lv_at hl 2 rfl) ?_
  refine lv_iconst (v := 1) hx hb dX5_methodChanges_20 (by decide) ?_
  refine lv_isub hx hb dX5_methodChanges_21 ?_
  refine hw_ki (va_runV (As := [.int (v2_2 - (1 : Int32))]) (rest := [.int r5, .int v1_1]) ⟨hx, hb, hml, hown, hts⟩ (kc_X5_letterOf l D cy N hN ad hJ0 σ _ (v2_2 - (1 : Int32)) _ hw) (cwV 1 hts gX5_methodChanges_X5_letterOf rfl rfl rfl (by decide +kernel) ⟨Nat.le_of_ble_eq_true rfl, Nat.le_of_ble_eq_true rfl⟩) (hw_preV hK hN1 hP (Nat.lt_of_lt_of_le (by decide) hN) (bX_31 _) rfl) rfl rfl hl.1 rfl (lv_room (Nat.le_of_ble_eq_true rfl)) dX5_methodChanges_22 ⟨Nat.zero_le _, Nat.zero_le _⟩) hS (fun r7 σ6 H locs hw hP hS => ?_)
  obtain ⟨hu_, hw⟩ := hw
  rw [hu_] at hP
  refine lv_icmp_eq (tgt := 32) hx hb dX5_methodChanges_25 (by decide) (fun c8 => ?_) (fun c8 => ?_)
  · have hw := hw.1 c8
    refine lv_iconst (v := 0) hx hb dX5_methodChanges_32 (by decide) ?_
    refine hw_ki (va_runSN (As := [.int (0 : Int32)]) (rest := [.int v1_1]) ⟨hx, hb, hml, hown, hts⟩ (kc_X11_oneIf l D cy N ad (bX cy ad) σ _ (0 : Int32) _ hw) ⟨va_cnB 1 hts gX5_methodChanges_X11_oneIf_n87 rfl rfl rfl (hN1.at 7 rfl) (hts (.initialized RX11) (List.mem_of_getElem? (i := 9) rfl)) (by decide +kernel) ⟨Nat.le_of_ble_eq_true rfl, Nat.le_of_ble_eq_true rfl⟩, hts (.static yX11_oneIf) (List.mem_of_getElem? (i := 11) rfl), trivial⟩ (hw_pre hK hN1 hP) rfl rfl hl.1 rfl (lv_room (Nat.le_of_ble_eq_true rfl)) dX5_methodChanges_33 ⟨Nat.zero_le _, Nat.zero_le _⟩) hS (fun r10 σ9 H locs hw hP hS => ?_)
    obtain ⟨hu_, hw⟩ := hw
    rw [hu_] at hP
    refine lv_iadd hx hb dX5_methodChanges_36 ?_
    refine lv_topi (fun x1_11 ex1_11 => ?_)
    have hw := hw x1_11 ex1_11
    refine lv_istore_n (lv' := [(1, .int x1_11), (0, .ref (ad 31)), (2, .int v2_2)]) hx hb dX5_methodChanges_37 rfl hl (by decide) rfl (fun ls hl => ?_)
    obtain ⟨x2_12, ex2_12⟩ : ∃ z : Int32, z = v2_2 + (1 : Int32) := ⟨_, rfl⟩
    have hw := hw x2_12 ex2_12
    refine lv_iinc (v := x2_12) (lv' := [(2, .int x2_12), (1, .int x1_11), (0, .ref (ad 31))]) hx hb dX5_methodChanges_38 hl (k := 2) rfl (by rw [ex2_12]; rfl) (by decide) rfl (fun ls hl => ?_)
    refine lv_goto (tgt := 4) hx hb dX5_methodChanges_41 (by decide) ?_
    exact hw _ _ _ hP hS (lv_sub hl [2, 1, 0] rfl)
  have hw := hw.2 c8
  refine lv_iconst (v := 1) hx hb dX5_methodChanges_28 (by decide) ?_
  refine lv_goto (tgt := 33) hx hb dX5_methodChanges_29 (by decide) ?_
  refine hw_ki (va_runSN (As := [.int (1 : Int32)]) (rest := [.int v1_1]) ⟨hx, hb, hml, hown, hts⟩ (kc_X11_oneIf l D cy N ad (bX cy ad) σ _ (1 : Int32) _ hw) ⟨va_cnB 1 hts gX5_methodChanges_X11_oneIf_n87 rfl rfl rfl (hN1.at 7 rfl) (hts (.initialized RX11) (List.mem_of_getElem? (i := 9) rfl)) (by decide +kernel) ⟨Nat.le_of_ble_eq_true rfl, Nat.le_of_ble_eq_true rfl⟩, hts (.static yX11_oneIf) (List.mem_of_getElem? (i := 11) rfl), trivial⟩ (hw_pre hK hN1 hP) rfl rfl hl.1 rfl (lv_room (Nat.le_of_ble_eq_true rfl)) dX5_methodChanges_33 ⟨Nat.zero_le _, Nat.zero_le _⟩) hS (fun r14 σ13 H locs hw hP hS => ?_)
  obtain ⟨hu_, hw⟩ := hw
  rw [hu_] at hP
  refine lv_iadd hx hb dX5_methodChanges_36 ?_
  refine lv_topi (fun x1_15 ex1_15 => ?_)
  have hw := hw x1_15 ex1_15
  refine lv_istore_n (lv' := [(1, .int x1_15), (0, .ref (ad 31)), (2, .int v2_2)]) hx hb dX5_methodChanges_37 rfl hl (by decide) rfl (fun ls hl => ?_)
  obtain ⟨x2_16, ex2_16⟩ : ∃ z : Int32, z = v2_2 + (1 : Int32) := ⟨_, rfl⟩
  have hw := hw x2_16 ex2_16
  refine lv_iinc (v := x2_16) (lv' := [(2, .int x2_16), (1, .int x1_15), (0, .ref (ad 31))]) hx hb dX5_methodChanges_38 hl (k := 2) rfl (by rw [ex2_16]; rfl) (by decide) rfl (fun ls hl => ?_)
  refine lv_goto (tgt := 4) hx hb dX5_methodChanges_41 (by decide) ?_
  exact hw _ _ _ hP hS (lv_sub hl [2, 1, 0] rfl)
set_option maxHeartbeats 4000000 in
set_option maxRecDepth 100000 in
theorem kc_X11_touch (l : Launch) (D : va_G) (cy : Nat → ClassId) (N : Nat) (hN : 38 ≤ N) (ad : Nat → Nat) (hJ0 : hJ N ad) (σ : hSt) (sz : Nat) (a1 : Int32) (Q : Int32 → hSt → Prop) (hw : wp_X11_touch a1 σ Q) : Met l yX11_touch wsX11_touch ({ frames := 6, cells := 0, slots := 0, locals := 138 } : Room) (va_Pc [.ref (ad 0), .int a1] (hB D cy (hC N ad (bX cy ad) σ) sz)) (va_Qi (fun (r : Int32) (u : hSt) => Q r u) (hE D (fun u : hSt => hC N ad (bX cy ad) u)) (hA N ad sz)) 0 0 (hA N ad sz) := by
  refine Met.ofW (cc := cX11_touch) (maxL := 2) (ret := (some .int)) (by decide) rfl ?_
  intro p e s m args below meth c s₁ B hml hv
  obtain ⟨rfl, hsz, hP, hK, hN1⟩ := hv
  have hx := B.exec
  have hb := B.bytes
  have hr := B.returns
  have hts := atoms_spec (ws := wsX11_touch) B.pre
  have hown : s.vm.findClass RX11 = some m.cls := findClass_of_methodNamed B.named
  have hlocks := B.notSynchronized
  subst hsz
  have hS : va_S (hA N ad s.heap.size) s.heap s.heap [] := va_S.rf
  have hiX11 : ∀ w ∈ wsX110, w ∈ wsX11_touch := fun _ h => List.mem_cons_of_mem _ (List.mem_append_left _ (List.mem_append_left _ (List.mem_append_left _ (List.mem_append_left _ (List.mem_append_right _ h)))))
  have hl := lv_entry ([.ref (ad 0), .int a1]) (n := 2) (Nat.le_of_ble_eq_true rfl)
  rw [lg_entry_eq]
  generalize (lg_sl ([.ref (ad 0), .int a1]) ++ List.replicate (2 - (lg_sl ([.ref (ad 0), .int a1])).length) Slot.unset).toArray = ls at hl ⊢
  have hl : lv_has ls 2 [(0, .ref (ad 0)), (1, .int a1)] := hl
  unfold wp_X11_touch at hw
  refine lv_iload_n hx hb dX11_touch_0 rfl (lv_at hl 1 rfl) ?_
  refine lv_topi (fun x1 ex1 => ?_)
  have hw := hw x1 ex1
  by_cases c2 : x1 = (0 : Int32)
  · have hw := hw.1 c2
    refine lv_tableIn (tgt := 60) hx hb dX11_touch_1 (by rw [c2]; decide) (by rw [c2]; decide) (by rw [c2]; rfl) (by decide) ?_
    refine lv_aload_n hx hb dX11_touch_60 rfl (lv_at hl 0 rfl) ?_
    refine hw_get (v := .ref (ad 31)) hx hb hts hiX11 hown hK hP (Nat.lt_of_lt_of_le (by decide) hN) (bX_0 _) rfl 7 (by decide) (List.mem_of_getElem? (i := 1) rfl) rfl rfl dX11_touch_61 ?_
    refine hw_ki (va_runV (As := []) (rest := []) ⟨hx, hb, hml, hown, hts⟩ (kc_X5_size l D cy N hN ad hJ0 σ _  _ hw) (cwV 0 hts gX11_touch_X5_size rfl rfl rfl (by decide +kernel) ⟨Nat.le_of_ble_eq_true rfl, Nat.le_of_ble_eq_true rfl⟩) (hw_preV hK hN1 hP (Nat.lt_of_lt_of_le (by decide) hN) (bX_31 _) rfl) rfl rfl hl.1 rfl (lv_room (Nat.le_of_ble_eq_true rfl)) dX11_touch_64 ⟨Nat.zero_le _, Nat.zero_le _⟩) hS (fun r4 σ3 H locs hw hP hS => ?_)
    obtain ⟨hu_, hw⟩ := hw
    rw [hu_] at hP
    exact hw_iret hx hb hr hlocks (σ) hw hP hS dX11_touch_67
  have hw := hw.2 c2
  by_cases c5 : x1 = (1 : Int32)
  · have hw := hw.1 c5
    refine lv_tableIn (tgt := 68) hx hb dX11_touch_1 (by rw [c5]; decide) (by rw [c5]; decide) (by rw [c5]; rfl) (by decide) ?_
    refine lv_aload_n hx hb dX11_touch_68 rfl (lv_at hl 0 rfl) ?_
    refine hw_get (v := .ref (ad 31)) hx hb hts hiX11 hown hK hP (Nat.lt_of_lt_of_le (by decide) hN) (bX_0 _) rfl 7 (by decide) (List.mem_of_getElem? (i := 1) rfl) rfl rfl dX11_touch_69 ?_
    refine hw_ki (va_runV (As := []) (rest := []) ⟨hx, hb, hml, hown, hts⟩ (kc_X5_rows l D cy N hN ad hJ0 σ _  _ hw) (cwV 0 hts gX11_touch_X5_rows rfl rfl rfl (by decide +kernel) ⟨Nat.le_of_ble_eq_true rfl, Nat.le_of_ble_eq_true rfl⟩) (hw_preV hK hN1 hP (Nat.lt_of_lt_of_le (by decide) hN) (bX_31 _) rfl) rfl rfl hl.1 rfl (lv_room (Nat.le_of_ble_eq_true rfl)) dX11_touch_72 ⟨Nat.zero_le _, Nat.zero_le _⟩) hS (fun r7 σ6 H locs hw hP hS => ?_)
    obtain ⟨hu_, hw⟩ := hw
    rw [hu_] at hP
    exact hw_iret hx hb hr hlocks (σ) hw hP hS dX11_touch_75
  have hw := hw.2 c5
  by_cases c8 : x1 = (2 : Int32)
  · have hw := hw.1 c8
    refine lv_tableIn (tgt := 76) hx hb dX11_touch_1 (by rw [c8]; decide) (by rw [c8]; decide) (by rw [c8]; rfl) (by decide) ?_
    refine lv_aload_n hx hb dX11_touch_76 rfl (lv_at hl 0 rfl) ?_
    refine hw_get (v := .ref (ad 31)) hx hb hts hiX11 hown hK hP (Nat.lt_of_lt_of_le (by decide) hN) (bX_0 _) rfl 7 (by decide) (List.mem_of_getElem? (i := 1) rfl) rfl rfl dX11_touch_77 ?_
    refine hw_ki (va_runV (As := []) (rest := []) ⟨hx, hb, hml, hown, hts⟩ (kc_X5_repeated l D cy N hN ad hJ0 σ _  _ hw) (cwV 0 hts gX11_touch_X5_repeated rfl rfl rfl (by decide +kernel) ⟨Nat.le_of_ble_eq_true rfl, Nat.le_of_ble_eq_true rfl⟩) (hw_preV hK hN1 hP (Nat.lt_of_lt_of_le (by decide) hN) (bX_31 _) rfl) rfl rfl hl.1 rfl (lv_room (Nat.le_of_ble_eq_true rfl)) dX11_touch_80 ⟨Nat.zero_le _, Nat.zero_le _⟩) hS (fun r10 σ9 H locs hw hP hS => ?_)
    refine lv_iconst (v := -1) hx hb dX11_touch_83 (by decide) ?_
    refine lv_icmp_ne (tgt := 91) hx hb dX11_touch_84 (by decide) (fun c11 => ?_) (fun c11 => ?_)
    · have hw := hw.1 c11
      refine lv_iconst (v := 0) hx hb dX11_touch_91 (by decide) ?_
      refine hw_ki (va_runS (As := [.int (0 : Int32)]) (rest := []) ⟨hx, hb, hml, hown, hts⟩ (kc_X11_oneIf l D cy N ad (bX cy ad) σ9 _ (0 : Int32) _ hw) (va_cwS 1 hts gX11_touch_X11_oneIf rfl rfl rfl (by decide +kernel) ⟨Nat.le_of_ble_eq_true rfl, Nat.le_of_ble_eq_true rfl⟩) (hw_pre hK hN1 hP) rfl rfl hl.1 rfl (lv_room (Nat.le_of_ble_eq_true rfl)) dX11_touch_92 ⟨Nat.zero_le _, Nat.zero_le _⟩) hS (fun r13 σ12 H locs hw hP hS => ?_)
      obtain ⟨hu_, hw⟩ := hw
      rw [hu_] at hP
      exact hw_iret hx hb hr hlocks (σ9) hw hP hS dX11_touch_95
    have hw := hw.2 c11
    refine lv_iconst (v := 1) hx hb dX11_touch_87 (by decide) ?_
    refine lv_goto (tgt := 92) hx hb dX11_touch_88 (by decide) ?_
    refine hw_ki (va_runS (As := [.int (1 : Int32)]) (rest := []) ⟨hx, hb, hml, hown, hts⟩ (kc_X11_oneIf l D cy N ad (bX cy ad) σ9 _ (1 : Int32) _ hw) (va_cwS 1 hts gX11_touch_X11_oneIf rfl rfl rfl (by decide +kernel) ⟨Nat.le_of_ble_eq_true rfl, Nat.le_of_ble_eq_true rfl⟩) (hw_pre hK hN1 hP) rfl rfl hl.1 rfl (lv_room (Nat.le_of_ble_eq_true rfl)) dX11_touch_92 ⟨Nat.zero_le _, Nat.zero_le _⟩) hS (fun r15 σ14 H locs hw hP hS => ?_)
    obtain ⟨hu_, hw⟩ := hw
    rw [hu_] at hP
    exact hw_iret hx hb hr hlocks (σ9) hw hP hS dX11_touch_95
  have hw := hw.2 c8
  by_cases c16 : x1 = (3 : Int32)
  · have hw := hw.1 c16
    refine lv_tableIn (tgt := 96) hx hb dX11_touch_1 (by rw [c16]; decide) (by rw [c16]; decide) (by rw [c16]; rfl) (by decide) ?_
    refine lv_aload_n hx hb dX11_touch_96 rfl (lv_at hl 0 rfl) ?_
    refine hw_get (v := .ref (ad 31)) hx hb hts hiX11 hown hK hP (Nat.lt_of_lt_of_le (by decide) hN) (bX_0 _) rfl 7 (by decide) (List.mem_of_getElem? (i := 1) rfl) rfl rfl dX11_touch_97 ?_
    refine hw_ki (va_runV (As := []) (rest := []) ⟨hx, hb, hml, hown, hts⟩ (kc_X5_repeated l D cy N hN ad hJ0 σ _  _ hw) (cwV 0 hts gX11_touch_X5_repeated rfl rfl rfl (by decide +kernel) ⟨Nat.le_of_ble_eq_true rfl, Nat.le_of_ble_eq_true rfl⟩) (hw_preV hK hN1 hP (Nat.lt_of_lt_of_le (by decide) hN) (bX_31 _) rfl) rfl rfl hl.1 rfl (lv_room (Nat.le_of_ble_eq_true rfl)) dX11_touch_100 ⟨Nat.zero_le _, Nat.zero_le _⟩) hS (fun r18 σ17 H locs hw hP hS => ?_)
    exact hw_iret hx hb hr hlocks (σ17) hw hP hS dX11_touch_103
  have hw := hw.2 c16
  by_cases c19 : x1 = (4 : Int32)
  · have hw := hw.1 c19
    refine lv_tableIn (tgt := 104) hx hb dX11_touch_1 (by rw [c19]; decide) (by rw [c19]; decide) (by rw [c19]; rfl) (by decide) ?_
    refine lv_aload_n hx hb dX11_touch_104 rfl (lv_at hl 0 rfl) ?_
    refine hw_get (v := .ref (ad 31)) hx hb hts hiX11 hown hK hP (Nat.lt_of_lt_of_le (by decide) hN) (bX_0 _) rfl 7 (by decide) (List.mem_of_getElem? (i := 1) rfl) rfl rfl dX11_touch_105 ?_
    refine hw_ki (va_runV (As := []) (rest := []) ⟨hx, hb, hml, hown, hts⟩ (kc_X5_repeatedFrom l D cy N hN ad hJ0 σ _  _ hw) (cwV 0 hts gX11_touch_X5_repeatedFrom rfl rfl rfl (by decide +kernel) ⟨Nat.le_of_ble_eq_true rfl, Nat.le_of_ble_eq_true rfl⟩) (hw_preV hK hN1 hP (Nat.lt_of_lt_of_le (by decide) hN) (bX_31 _) rfl) rfl rfl hl.1 rfl (lv_room (Nat.le_of_ble_eq_true rfl)) dX11_touch_108 ⟨Nat.zero_le _, Nat.zero_le _⟩) hS (fun r21 σ20 H locs hw hP hS => ?_)
    exact hw_iret hx hb hr hlocks (σ20) hw hP hS dX11_touch_111
  have hw := hw.2 c19
  by_cases c22 : x1 = (5 : Int32)
  · have hw := hw.1 c22
    refine lv_tableIn (tgt := 112) hx hb dX11_touch_1 (by rw [c22]; decide) (by rw [c22]; decide) (by rw [c22]; rfl) (by decide) ?_
    refine lv_aload_n hx hb dX11_touch_112 rfl (lv_at hl 0 rfl) ?_
    refine hw_get (v := .ref (ad 31)) hx hb hts hiX11 hown hK hP (Nat.lt_of_lt_of_le (by decide) hN) (bX_0 _) rfl 7 (by decide) (List.mem_of_getElem? (i := 1) rfl) rfl rfl dX11_touch_113 ?_
    refine hw_ki (va_runV (As := []) (rest := []) ⟨hx, hb, hml, hown, hts⟩ (kc_X5_ending l D cy N hN ad hJ0 σ _  _ hw) (cwV 0 hts gX11_touch_X5_ending rfl rfl rfl (by decide +kernel) ⟨Nat.le_of_ble_eq_true rfl, Nat.le_of_ble_eq_true rfl⟩) (hw_preV hK hN1 hP (Nat.lt_of_lt_of_le (by decide) hN) (bX_31 _) rfl) rfl rfl hl.1 rfl (lv_room (Nat.le_of_ble_eq_true rfl)) dX11_touch_116 ⟨Nat.zero_le _, Nat.zero_le _⟩) hS (fun r24 σ23 H locs hw hP hS => ?_)
    obtain ⟨hu_, hw⟩ := hw
    rw [hu_] at hP
    refine lv_aload_n hx hb dX11_touch_119 rfl (lv_at hl 0 rfl) ?_
    refine hw_get (v := .int (σ 0 0)) hx hb hts hiX11 hown hK hP (Nat.lt_of_lt_of_le (by decide) hN) (bX_0 _) rfl 0 (by decide) (List.mem_of_getElem? (i := 2) rfl) rfl rfl dX11_touch_120 ?_
    refine hw_ki (va_runS (As := [.int r24, .int (σ 0 0)]) (rest := []) ⟨hx, hb, hml, hown, hts⟩ (kc_X6_told l D cy N ad (bX cy ad) σ _ r24 (σ 0 0) _ hw) (va_cwS 2 hts gX11_touch_X6_told rfl rfl rfl (by decide +kernel) ⟨Nat.le_of_ble_eq_true rfl, Nat.le_of_ble_eq_true rfl⟩) (hw_pre hK hN1 hP) rfl rfl hl.1 rfl (lv_room (Nat.le_of_ble_eq_true rfl)) dX11_touch_123 ⟨Nat.zero_le _, Nat.zero_le _⟩) hS (fun r26 σ25 H locs hw hP hS => ?_)
    obtain ⟨hu_, hw⟩ := hw
    rw [hu_] at hP
    exact hw_iret hx hb hr hlocks (σ) hw hP hS dX11_touch_126
  have hw := hw.2 c22
  by_cases c27 : x1 = (6 : Int32)
  · have hw := hw.1 c27
    refine lv_tableIn (tgt := 127) hx hb dX11_touch_1 (by rw [c27]; decide) (by rw [c27]; decide) (by rw [c27]; rfl) (by decide) ?_
    refine lv_aload_n hx hb dX11_touch_127 rfl (lv_at hl 0 rfl) ?_
    refine hw_get (v := .ref (ad 31)) hx hb hts hiX11 hown hK hP (Nat.lt_of_lt_of_le (by decide) hN) (bX_0 _) rfl 7 (by decide) (List.mem_of_getElem? (i := 1) rfl) rfl rfl dX11_touch_128 ?_
    refine hw_ki (va_runV (As := []) (rest := []) ⟨hx, hb, hml, hown, hts⟩ (kc_X5_ending l D cy N hN ad hJ0 σ _  _ hw) (cwV 0 hts gX11_touch_X5_ending rfl rfl rfl (by decide +kernel) ⟨Nat.le_of_ble_eq_true rfl, Nat.le_of_ble_eq_true rfl⟩) (hw_preV hK hN1 hP (Nat.lt_of_lt_of_le (by decide) hN) (bX_31 _) rfl) rfl rfl hl.1 rfl (lv_room (Nat.le_of_ble_eq_true rfl)) dX11_touch_131 ⟨Nat.zero_le _, Nat.zero_le _⟩) hS (fun r29 σ28 H locs hw hP hS => ?_)
    obtain ⟨hu_, hw⟩ := hw
    rw [hu_] at hP
    refine lv_aload_n hx hb dX11_touch_134 rfl (lv_at hl 0 rfl) ?_
    refine hw_get (v := .int (σ 0 0)) hx hb hts hiX11 hown hK hP (Nat.lt_of_lt_of_le (by decide) hN) (bX_0 _) rfl 0 (by decide) (List.mem_of_getElem? (i := 2) rfl) rfl rfl dX11_touch_135 ?_
    refine hw_ki (va_runS (As := [.int (σ 0 0)]) (rest := [.int r29]) ⟨hx, hb, hml, hown, hts⟩ (kc_X6_rounds l D cy N ad (bX cy ad) σ _ (σ 0 0) _ hw) (va_cwS 1 hts gX11_touch_X6_rounds rfl rfl rfl (by decide +kernel) ⟨Nat.le_of_ble_eq_true rfl, Nat.le_of_ble_eq_true rfl⟩) (hw_pre hK hN1 hP) rfl rfl hl.1 rfl (lv_room (Nat.le_of_ble_eq_true rfl)) dX11_touch_138 ⟨Nat.zero_le _, Nat.zero_le _⟩) hS (fun r31 σ30 H locs hw hP hS => ?_)
    obtain ⟨hu_, hw⟩ := hw
    rw [hu_] at hP
    refine lv_icmp_ne (tgt := 148) hx hb dX11_touch_141 (by decide) (fun c32 => ?_) (fun c32 => ?_)
    · have hw := hw.1 c32
      refine lv_iconst (v := 0) hx hb dX11_touch_148 (by decide) ?_
      refine hw_ki (va_runS (As := [.int (0 : Int32)]) (rest := []) ⟨hx, hb, hml, hown, hts⟩ (kc_X11_oneIf l D cy N ad (bX cy ad) σ _ (0 : Int32) _ hw) (va_cwS 1 hts gX11_touch_X11_oneIf rfl rfl rfl (by decide +kernel) ⟨Nat.le_of_ble_eq_true rfl, Nat.le_of_ble_eq_true rfl⟩) (hw_pre hK hN1 hP) rfl rfl hl.1 rfl (lv_room (Nat.le_of_ble_eq_true rfl)) dX11_touch_149 ⟨Nat.zero_le _, Nat.zero_le _⟩) hS (fun r34 σ33 H locs hw hP hS => ?_)
      obtain ⟨hu_, hw⟩ := hw
      rw [hu_] at hP
      exact hw_iret hx hb hr hlocks (σ) hw hP hS dX11_touch_152
    have hw := hw.2 c32
    refine lv_iconst (v := 1) hx hb dX11_touch_144 (by decide) ?_
    refine lv_goto (tgt := 149) hx hb dX11_touch_145 (by decide) ?_
    refine hw_ki (va_runS (As := [.int (1 : Int32)]) (rest := []) ⟨hx, hb, hml, hown, hts⟩ (kc_X11_oneIf l D cy N ad (bX cy ad) σ _ (1 : Int32) _ hw) (va_cwS 1 hts gX11_touch_X11_oneIf rfl rfl rfl (by decide +kernel) ⟨Nat.le_of_ble_eq_true rfl, Nat.le_of_ble_eq_true rfl⟩) (hw_pre hK hN1 hP) rfl rfl hl.1 rfl (lv_room (Nat.le_of_ble_eq_true rfl)) dX11_touch_149 ⟨Nat.zero_le _, Nat.zero_le _⟩) hS (fun r36 σ35 H locs hw hP hS => ?_)
    obtain ⟨hu_, hw⟩ := hw
    rw [hu_] at hP
    exact hw_iret hx hb hr hlocks (σ) hw hP hS dX11_touch_152
  have hw := hw.2 c27
  by_cases c37 : x1 = (7 : Int32)
  · have hw := hw.1 c37
    refine lv_tableIn (tgt := 153) hx hb dX11_touch_1 (by rw [c37]; decide) (by rw [c37]; decide) (by rw [c37]; rfl) (by decide) ?_
    refine lv_aload_n hx hb dX11_touch_153 rfl (lv_at hl 0 rfl) ?_
    refine hw_get (v := .ref (ad 31)) hx hb hts hiX11 hown hK hP (Nat.lt_of_lt_of_le (by decide) hN) (bX_0 _) rfl 7 (by decide) (List.mem_of_getElem? (i := 1) rfl) rfl rfl dX11_touch_154 ?_
    refine hw_ki (va_runV (As := []) (rest := []) ⟨hx, hb, hml, hown, hts⟩ (kc_X5_order l D cy N hN ad hJ0 σ _  _ hw) (cwV 0 hts gX11_touch_X5_order rfl rfl rfl (by decide +kernel) ⟨Nat.le_of_ble_eq_true rfl, Nat.le_of_ble_eq_true rfl⟩) (hw_preV hK hN1 hP (Nat.lt_of_lt_of_le (by decide) hN) (bX_31 _) rfl) rfl rfl hl.1 rfl (lv_room (Nat.le_of_ble_eq_true rfl)) dX11_touch_157 ⟨Nat.zero_le _, Nat.zero_le _⟩) hS (fun r39 σ38 H locs hw hP hS => ?_)
    obtain ⟨hu_, hw⟩ := hw
    rw [hu_] at hP
    exact hw_iret hx hb hr hlocks (σ) hw hP hS dX11_touch_160
  have hw := hw.2 c37
  by_cases c40 : x1 = (8 : Int32)
  · have hw := hw.1 c40
    refine lv_tableIn (tgt := 161) hx hb dX11_touch_1 (by rw [c40]; decide) (by rw [c40]; decide) (by rw [c40]; rfl) (by decide) ?_
    refine lv_aload_n hx hb dX11_touch_161 rfl (lv_at hl 0 rfl) ?_
    refine hw_get (v := .ref (ad 31)) hx hb hts hiX11 hown hK hP (Nat.lt_of_lt_of_le (by decide) hN) (bX_0 _) rfl 7 (by decide) (List.mem_of_getElem? (i := 1) rfl) rfl rfl dX11_touch_162 ?_
    refine lv_iconst (v := 1) hx hb dX11_touch_165 (by decide) ?_
    refine hw_ki (va_runV (As := [.int (1 : Int32)]) (rest := []) ⟨hx, hb, hml, hown, hts⟩ (kc_X5_calls l D cy N hN ad hJ0 σ _ (1 : Int32) _ hw) (cwV 1 hts gX11_touch_X5_calls rfl rfl rfl (by decide +kernel) ⟨Nat.le_of_ble_eq_true rfl, Nat.le_of_ble_eq_true rfl⟩) (hw_preV hK hN1 hP (Nat.lt_of_lt_of_le (by decide) hN) (bX_31 _) rfl) rfl rfl hl.1 rfl (lv_room (Nat.le_of_ble_eq_true rfl)) dX11_touch_166 ⟨Nat.zero_le _, Nat.zero_le _⟩) hS (fun r42 σ41 H locs hw hP hS => ?_)
    obtain ⟨hu_, hw⟩ := hw
    rw [hu_] at hP
    exact hw_iret hx hb hr hlocks (σ) hw hP hS dX11_touch_169
  have hw := hw.2 c40
  by_cases c43 : x1 = (9 : Int32)
  · have hw := hw.1 c43
    refine lv_tableIn (tgt := 170) hx hb dX11_touch_1 (by rw [c43]; decide) (by rw [c43]; decide) (by rw [c43]; rfl) (by decide) ?_
    refine lv_aload_n hx hb dX11_touch_170 rfl (lv_at hl 0 rfl) ?_
    refine hw_get (v := .ref (ad 31)) hx hb hts hiX11 hown hK hP (Nat.lt_of_lt_of_le (by decide) hN) (bX_0 _) rfl 7 (by decide) (List.mem_of_getElem? (i := 1) rfl) rfl rfl dX11_touch_171 ?_
    refine lv_iconst (v := 2) hx hb dX11_touch_174 (by decide) ?_
    refine hw_ki (va_runV (As := [.int (2 : Int32)]) (rest := []) ⟨hx, hb, hml, hown, hts⟩ (kc_X5_calls l D cy N hN ad hJ0 σ _ (2 : Int32) _ hw) (cwV 1 hts gX11_touch_X5_calls rfl rfl rfl (by decide +kernel) ⟨Nat.le_of_ble_eq_true rfl, Nat.le_of_ble_eq_true rfl⟩) (hw_preV hK hN1 hP (Nat.lt_of_lt_of_le (by decide) hN) (bX_31 _) rfl) rfl rfl hl.1 rfl (lv_room (Nat.le_of_ble_eq_true rfl)) dX11_touch_175 ⟨Nat.zero_le _, Nat.zero_le _⟩) hS (fun r45 σ44 H locs hw hP hS => ?_)
    obtain ⟨hu_, hw⟩ := hw
    rw [hu_] at hP
    exact hw_iret hx hb hr hlocks (σ) hw hP hS dX11_touch_178
  have hw := hw.2 c43
  by_cases c46 : x1 = (10 : Int32)
  · have hw := hw.1 c46
    refine lv_tableIn (tgt := 179) hx hb dX11_touch_1 (by rw [c46]; decide) (by rw [c46]; decide) (by rw [c46]; rfl) (by decide) ?_
    refine lv_aload_n hx hb dX11_touch_179 rfl (lv_at hl 0 rfl) ?_
    refine hw_get (v := .ref (ad 31)) hx hb hts hiX11 hown hK hP (Nat.lt_of_lt_of_le (by decide) hN) (bX_0 _) rfl 7 (by decide) (List.mem_of_getElem? (i := 1) rfl) rfl rfl dX11_touch_180 ?_
    refine hw_ki (va_runV (As := []) (rest := []) ⟨hx, hb, hml, hown, hts⟩ (kc_X5_methodChanges l D cy N hN ad hJ0 σ _  _ hw) (cwV 0 hts gX11_touch_X5_methodChanges rfl rfl rfl (by decide +kernel) ⟨Nat.le_of_ble_eq_true rfl, Nat.le_of_ble_eq_true rfl⟩) (hw_preV hK hN1 hP (Nat.lt_of_lt_of_le (by decide) hN) (bX_31 _) rfl) rfl rfl hl.1 rfl (lv_room (Nat.le_of_ble_eq_true rfl)) dX11_touch_183 ⟨Nat.zero_le _, Nat.zero_le _⟩) hS (fun r48 σ47 H locs hw hP hS => ?_)
    obtain ⟨hu_, hw⟩ := hw
    rw [hu_] at hP
    exact hw_iret hx hb hr hlocks (σ) hw hP hS dX11_touch_186
  have hw := hw.2 c46
  refine lv_tableOut (tgt := 187) hx hb dX11_touch_1 (hsw_out (by decide) (by intro z h1 h2; rcases (show z = 0 ∨ z = 1 ∨ z = 2 ∨ z = 3 ∨ z = 4 ∨ z = 5 ∨ z = 6 ∨ z = 7 ∨ z = 8 ∨ z = 9 ∨ z = 10 by omega) with rfl | rfl | rfl | rfl | rfl | rfl | rfl | rfl | rfl | rfl | rfl <;> first | exact c2 | exact c5 | exact c8 | exact c16 | exact c19 | exact c22 | exact c27 | exact c37 | exact c40 | exact c43 | exact c46) ) (by decide) ?_
  refine lv_iconst (v := -1) hx hb dX11_touch_187 (by decide) ?_
  exact hw_iret hx hb hr hlocks (σ) hw hP hS dX11_touch_188
set_option maxHeartbeats 4000000 in
set_option maxRecDepth 100000 in
theorem kc_X4_bitOf (l : Launch) (D : va_G) (cy : Nat → ClassId) (N : Nat) (ad : Nat → Nat) (b : hCell) (σ : hSt) (sz : Nat) (a0 : Int32) (a1 : Int32) (Q : Int32 → Prop) (hw : wp_X4_bitOf a0 a1 Q) : Met l yX4_bitOf wsX4_bitOf ({ frames := 0, cells := 0, slots := 0, locals := 0 } : Room) (va_Pc [.int a0, .int a1] (hB D cy (hC N ad b σ) sz)) (va_Qi (fun (r : Int32) (u : hSt) => u = σ ∧ Q r) (hE D (fun u : hSt => hC N ad b u)) (hA N ad sz)) 0 0 (hA N ad sz) := by
  refine Met.ofW (cc := cX4_bitOf) (maxL := 2) (ret := (some .int)) (by decide) rfl ?_
  intro p e s m args below meth c s₁ B hml hv
  obtain ⟨rfl, hsz, hP, hK, hN1⟩ := hv
  have hx := B.exec
  have hb := B.bytes
  have hr := B.returns
  have hts := atoms_spec (ws := wsX4_bitOf) B.pre
  have hown : s.vm.findClass RX4 = some m.cls := findClass_of_methodNamed B.named
  have hlocks := B.notSynchronized
  subst hsz
  have hS : va_S (hA N ad s.heap.size) s.heap s.heap [] := va_S.rf
  have hl := lv_entry ([.int a0, .int a1]) (n := 2) (Nat.le_of_ble_eq_true rfl)
  rw [lg_entry_eq]
  generalize (lg_sl ([.int a0, .int a1]) ++ List.replicate (2 - (lg_sl ([.int a0, .int a1])).length) Slot.unset).toArray = ls at hl ⊢
  have hl : lv_has ls 2 [(0, .int a0), (1, .int a1)] := hl
  unfold wp_X4_bitOf at hw
  refine lv_iload_n hx hb dX4_bitOf_0 rfl (lv_at hl 0 rfl) ?_
  refine lv_bipush (v := 49) hx hb dX4_bitOf_1 (by decide) ?_
  refine lv_icmp_lt (tgt := 23) hx hb dX4_bitOf_3 (by decide) (fun c1 => ?_) (fun c1 => ?_)
  · have hw := hw.1 c1
    refine lv_iconst (v := -1) hx hb dX4_bitOf_23 (by decide) ?_
    exact hw_iret hx hb hr hlocks (σ) ⟨rfl, hw⟩ hP hS dX4_bitOf_24
  have hw := hw.2 c1
  refine lv_iload_n hx hb dX4_bitOf_6 rfl (lv_at hl 0 rfl) ?_
  refine lv_bipush (v := 48) hx hb dX4_bitOf_7 (by decide) ?_
  refine lv_iload_n hx hb dX4_bitOf_9 rfl (lv_at hl 1 rfl) ?_
  refine lv_iadd hx hb dX4_bitOf_10 ?_
  refine lv_icmp_gt (tgt := 23) hx hb dX4_bitOf_11 (by decide) (fun c2 => ?_) (fun c2 => ?_)
  · have hw := hw.1 c2
    refine lv_iconst (v := -1) hx hb dX4_bitOf_23 (by decide) ?_
    exact hw_iret hx hb hr hlocks (σ) ⟨rfl, hw⟩ hP hS dX4_bitOf_24
  have hw := hw.2 c2
  refine lv_iconst (v := 1) hx hb dX4_bitOf_14 (by decide) ?_
  refine lv_iload_n hx hb dX4_bitOf_15 rfl (lv_at hl 0 rfl) ?_
  refine lv_bipush (v := 49) hx hb dX4_bitOf_16 (by decide) ?_
  refine lv_isub hx hb dX4_bitOf_18 ?_
  refine lv_ishl hx hb dX4_bitOf_19 ?_
  refine lv_goto (tgt := 24) hx hb dX4_bitOf_20 (by decide) ?_
  exact hw_iret hx hb hr hlocks (σ) ⟨rfl, hw⟩ hP hS dX4_bitOf_24
set_option maxHeartbeats 4000000 in
set_option maxRecDepth 100000 in
theorem kc_X4_setPlaces (l : Launch) (D : va_G) (cy : Nat → ClassId) (N : Nat) (hN : 39 ≤ N) (ad : Nat → Nat) (hJ0 : hJ N ad) (σ : hSt) (sz : Nat) (a2 : Int32) (Q : hSt → Prop) (hw : wp_X4_setPlaces a2 σ Q) : Met l yX4_setPlaces wsX4_setPlaces ({ frames := 1, cells := 0, slots := 0, locals := 21 } : Room) (va_Pc [.ref (ad 38), .ref (ad 19), .int a2] (hB D cy (hC N ad (bX cy ad) σ) sz)) (va_Qv (fun u : hSt => Q u) (hE D (fun u : hSt => hC N ad (bX cy ad) u)) (hA N ad sz)) 0 0 (hA N ad sz) := by
  refine Met.ofW (cc := cX4_setPlaces) (maxL := 6) (ret := none) (by decide) rfl ?_
  intro p e s m args below meth c s₁ B hml hv
  obtain ⟨rfl, hsz, hP, hK, hN1⟩ := hv
  have hx := B.exec
  have hb := B.bytes
  have hr := B.returns
  have hts := atoms_spec (ws := wsX4_setPlaces) B.pre
  have hown : s.vm.findClass RX4 = some m.cls := findClass_of_methodNamed B.named
  have hlocks := B.notSynchronized
  subst hsz
  have hS : va_S (hA N ad s.heap.size) s.heap s.heap [] := va_S.rf
  have hiX4 : ∀ w ∈ wsX40, w ∈ wsX4_setPlaces := fun _ h => List.mem_cons_of_mem _ (List.mem_append_left _ (List.mem_append_right _ h))
  have hl := lv_entry ([.ref (ad 38), .ref (ad 19), .int a2]) (n := 6) (Nat.le_of_ble_eq_true rfl)
  rw [lg_entry_eq]
  generalize (lg_sl ([.ref (ad 38), .ref (ad 19), .int a2]) ++ List.replicate (6 - (lg_sl ([.ref (ad 38), .ref (ad 19), .int a2])).length) Slot.unset).toArray = ls at hl ⊢
  have hl : lv_has ls 6 [(0, .ref (ad 38)), (1, .ref (ad 19)), (2, .int a2)] := hl
  unfold wp_X4_setPlaces at hw
  refine lv_iconst (v := 0) hx hb dX4_setPlaces_0 (by decide) ?_
  refine lv_istore_n (lv' := [(3, .int (0 : Int32)), (0, .ref (ad 38)), (1, .ref (ad 19)), (2, .int a2)]) hx hb dX4_setPlaces_1 rfl hl (by decide) rfl (fun ls hl => ?_)
  refine lv_iconst (v := 0) hx hb dX4_setPlaces_2 (by decide) ?_
  refine lv_istore (lv' := [(4, .int (0 : Int32)), (3, .int (0 : Int32)), (0, .ref (ad 38)), (1, .ref (ad 19)), (2, .int a2)]) hx hb dX4_setPlaces_3 hl (by decide) rfl (fun ls hl => ?_)
  refine hw (fun (v3_1 : Int32) (v4_2 : Int32) (σ3 : hSt) => ∀ (H : Heap) (locs : List Loc) (ls : Array Slot), va_P D vwCl (hC N ad (bX cy ad) σ3) H → va_S (hA N ad s.heap.size) s.heap H locs → lv_has ls 6 [(0, .ref (ad 38)), (1, .ref (ad 19)), (2, .int a2), (3, .int v3_1), (4, .int v4_2)] → W p l e (headSpec wsX4_setPlaces ({ frames := 1, cells := 0, slots := 0, locals := 21 } : Room)).room s m ([Value.ref (ad 38), Value.ref (ad 19), Value.int a2] : List Value).toArray below meth c H locs 0 0 (MQ below (va_Qv (fun u : hSt => Q u) (hE D (fun u : hSt => hC N ad (bX cy ad) u)) (hA N ad s.heap.size)) ([Value.ref (ad 38), Value.ref (ad 19), Value.int a2] : List Value).toArray s 0 0 (hA N ad s.heap.size)) (F0 m 5 ls [])) (fun v3_1 v4_2 σ3 hw H locs ls hP hS hl => ?_) _ _ _ hP hS (lv_sub hl [2, 3, 4, 1, 0] rfl)
  refine lv_iload hx hb dX4_setPlaces_5 (lv_at hl 4 rfl) ?_
  refine lv_aload_n hx hb dX4_setPlaces_7 rfl (lv_at hl 1 rfl) ?_
  refine hw_ki (va_runV (As := []) (rest := [.int v4_2]) ⟨hx, hb, hml, hown, hts⟩ (kc_X9_size l D cy N (Nat.le_trans (by decide) hN) ad hJ0 σ3 _  _ hw) (cwV 0 hts gX4_setPlaces_X9_size rfl rfl rfl (by decide +kernel) ⟨Nat.le_of_ble_eq_true rfl, Nat.le_of_ble_eq_true rfl⟩) (hw_preV hK hN1 hP (Nat.lt_of_lt_of_le (by decide) hN) (bX_19 _) rfl) rfl rfl hl.1 rfl (lv_room (Nat.le_of_ble_eq_true rfl)) dX4_setPlaces_8 ⟨Nat.zero_le _, Nat.zero_le _⟩) hS (fun r5 σ4 H locs hw hP hS => ?_)
  obtain ⟨hu_, hw⟩ := hw
  rw [hu_] at hP
  refine lv_icmp_ge (tgt := 85) hx hb dX4_setPlaces_11 (by decide) (fun c6 => ?_) (fun c6 => ?_)
  · have hw := hw.1 c6
    exact hw_vret hx hb hr hlocks (σ3) hw hP hS dX4_setPlaces_85
  have hw := hw.2 c6
  refine lv_aload_n hx hb dX4_setPlaces_14 rfl (lv_at hl 1 rfl) ?_
  refine lv_iload hx hb dX4_setPlaces_15 (lv_at hl 4 rfl) ?_
  refine hw_ki (va_runV (As := [.int v4_2]) (rest := []) ⟨hx, hb, hml, hown, hts⟩ (kc_X9_signAt l D cy N (Nat.le_trans (by decide) hN) ad hJ0 σ3 _ v4_2 _ hw) (cwV 1 hts gX4_setPlaces_X9_signAt rfl rfl rfl (by decide +kernel) ⟨Nat.le_of_ble_eq_true rfl, Nat.le_of_ble_eq_true rfl⟩) (hw_preV hK hN1 hP (Nat.lt_of_lt_of_le (by decide) hN) (bX_19 _) rfl) rfl rfl hl.1 rfl (lv_room (Nat.le_of_ble_eq_true rfl)) dX4_setPlaces_17 ⟨Nat.zero_le _, Nat.zero_le _⟩) hS (fun r8 σ7 H locs hw hP hS => ?_)
  obtain ⟨hu_, hw⟩ := hw
  rw [hu_] at hP
  refine lv_istore (lv' := [(5, .int r8), (0, .ref (ad 38)), (1, .ref (ad 19)), (2, .int a2), (3, .int v3_1), (4, .int v4_2)]) hx hb dX4_setPlaces_20 hl (by decide) rfl (fun ls hl => ?_)
  refine lv_iload hx hb dX4_setPlaces_22 (lv_at hl 0 rfl) ?_
  refine lv_bipush (v := 42) hx hb dX4_setPlaces_24 (by decide) ?_
  refine lv_icmp_ne (tgt := 36) hx hb dX4_setPlaces_26 (by decide) (fun c9 => ?_) (fun c9 => ?_)
  · have hw := hw.1 c9
    refine lv_iload hx hb dX4_setPlaces_36 (lv_at hl 0 rfl) ?_
    refine lv_bipush (v := 63) hx hb dX4_setPlaces_38 (by decide) ?_
    refine lv_icmp_eq (tgt := 76) hx hb dX4_setPlaces_40 (by decide) (fun c10 => ?_) (fun c10 => ?_)
    · have hw := hw.1 c10
      obtain ⟨x3_11, ex3_11⟩ : ∃ z : Int32, z = v3_1 + (1 : Int32) := ⟨_, rfl⟩
      have hw := hw x3_11 ex3_11
      refine lv_iinc (v := x3_11) (lv' := [(3, .int x3_11), (5, .int r8), (0, .ref (ad 38)), (1, .ref (ad 19)), (2, .int a2), (4, .int v4_2)]) hx hb dX4_setPlaces_76 hl (k := 4) rfl (by rw [ex3_11]; rfl) (by decide) rfl (fun ls hl => ?_)
      obtain ⟨x4_12, ex4_12⟩ : ∃ z : Int32, z = v4_2 + (1 : Int32) := ⟨_, rfl⟩
      have hw := hw x4_12 ex4_12
      refine lv_iinc (v := x4_12) (lv' := [(4, .int x4_12), (3, .int x3_11), (5, .int r8), (0, .ref (ad 38)), (1, .ref (ad 19)), (2, .int a2)]) hx hb dX4_setPlaces_79 hl (k := 5) rfl (by rw [ex4_12]; rfl) (by decide) rfl (fun ls hl => ?_)
      refine lv_goto (tgt := 5) hx hb dX4_setPlaces_82 (by decide) ?_
      exact hw _ _ _ hP hS (lv_sub hl [3, 4, 5, 1, 0] rfl)
    have hw := hw.2 c10
    refine lv_aload_n hx hb dX4_setPlaces_43 rfl (lv_at hl 1 rfl) ?_
    refine lv_dup hx hb dX4_setPlaces_44 rfl ?_
    refine hw_get (v := .int (σ3 38 0)) hx hb hts hiX4 hown hK hP (Nat.lt_of_lt_of_le (by decide) hN) (bX_38 _) rfl 0 (by decide) (List.mem_of_getElem? (i := 1) rfl) rfl rfl dX4_setPlaces_45 ?_
    refine lv_bipush (v := 7) hx hb dX4_setPlaces_48 (by decide) ?_
    refine lv_iconst (v := 3) hx hb dX4_setPlaces_50 (by decide) ?_
    refine lv_iload_n hx hb dX4_setPlaces_51 rfl (lv_at hl 4 rfl) ?_
    refine lv_imul hx hb dX4_setPlaces_52 ?_
    refine lv_ishl hx hb dX4_setPlaces_53 ?_
    refine lv_ior hx hb dX4_setPlaces_54 ?_
    refine hw_put (x := ((σ3 38 0) ||| ((7 : Int32) <<< (((3 : Int32) * v3_1) &&& 31)))) (j := 0) hx hb hts hiX4 tyX4 tyX4_ok nmX4 hown hK hJ0 hP hS (Nat.lt_of_lt_of_le (by decide) hN) (bX_38 _) rfl (by decide) (List.mem_of_getElem? (i := 1) rfl) rfl rfl rfl rfl (Nat.le_of_ble_eq_true rfl) (by rw [bX_38]; rfl) dX4_setPlaces_55 (fun H locs hP hS => ?_)
    refine lv_aload_n hx hb dX4_setPlaces_58 rfl (lv_at hl 1 rfl) ?_
    refine lv_dup hx hb dX4_setPlaces_59 rfl ?_
    refine hw_get (v := .int ((hup σ3 38 0 ((σ3 38 0) ||| ((7 : Int32) <<< (((3 : Int32) * v3_1) &&& 31)))) 38 1)) hx hb hts hiX4 hown hK hP (Nat.lt_of_lt_of_le (by decide) hN) (bX_38 _) rfl 1 (by decide) (List.mem_of_getElem? (i := 2) rfl) rfl rfl dX4_setPlaces_60 ?_
    refine lv_iload hx hb dX4_setPlaces_63 (lv_at hl 0 rfl) ?_
    refine lv_bipush (v := 49) hx hb dX4_setPlaces_65 (by decide) ?_
    refine lv_isub hx hb dX4_setPlaces_67 ?_
    refine lv_iconst (v := 3) hx hb dX4_setPlaces_68 (by decide) ?_
    refine lv_iload_n hx hb dX4_setPlaces_69 rfl (lv_at hl 4 rfl) ?_
    refine lv_imul hx hb dX4_setPlaces_70 ?_
    refine lv_ishl hx hb dX4_setPlaces_71 ?_
    refine lv_ior hx hb dX4_setPlaces_72 ?_
    refine hw_put (x := (((hup σ3 38 0 ((σ3 38 0) ||| ((7 : Int32) <<< (((3 : Int32) * v3_1) &&& 31)))) 38 1) ||| ((r8 - (49 : Int32)) <<< (((3 : Int32) * v3_1) &&& 31)))) (j := 1) hx hb hts hiX4 tyX4 tyX4_ok nmX4 hown hK hJ0 hP hS (Nat.lt_of_lt_of_le (by decide) hN) (bX_38 _) rfl (by decide) (List.mem_of_getElem? (i := 2) rfl) rfl rfl rfl rfl (Nat.le_of_ble_eq_true rfl) (by rw [bX_38]; rfl) dX4_setPlaces_73 (fun H locs hP hS => ?_)
    obtain ⟨x3_13, ex3_13⟩ : ∃ z : Int32, z = v3_1 + (1 : Int32) := ⟨_, rfl⟩
    have hw := hw x3_13 ex3_13
    refine lv_iinc (v := x3_13) (lv' := [(3, .int x3_13), (5, .int r8), (0, .ref (ad 38)), (1, .ref (ad 19)), (2, .int a2), (4, .int v4_2)]) hx hb dX4_setPlaces_76 hl (k := 4) rfl (by rw [ex3_13]; rfl) (by decide) rfl (fun ls hl => ?_)
    obtain ⟨x4_14, ex4_14⟩ : ∃ z : Int32, z = v4_2 + (1 : Int32) := ⟨_, rfl⟩
    have hw := hw x4_14 ex4_14
    refine lv_iinc (v := x4_14) (lv' := [(4, .int x4_14), (3, .int x3_13), (5, .int r8), (0, .ref (ad 38)), (1, .ref (ad 19)), (2, .int a2)]) hx hb dX4_setPlaces_79 hl (k := 5) rfl (by rw [ex4_14]; rfl) (by decide) rfl (fun ls hl => ?_)
    refine lv_goto (tgt := 5) hx hb dX4_setPlaces_82 (by decide) ?_
    exact hw _ _ _ hP hS (lv_sub hl [3, 4, 5, 1, 0] rfl)
  have hw := hw.2 c9
  refine lv_iload_n hx hb dX4_setPlaces_29 rfl (lv_at hl 4 rfl) ?_
  refine lv_iload_n hx hb dX4_setPlaces_30 rfl (lv_at hl 3 rfl) ?_
  refine lv_iadd hx hb dX4_setPlaces_31 ?_
  refine lv_topi (fun x3_15 ex3_15 => ?_)
  have hw := hw x3_15 ex3_15
  refine lv_istore_n (lv' := [(3, .int x3_15), (5, .int r8), (0, .ref (ad 38)), (1, .ref (ad 19)), (2, .int a2), (4, .int v4_2)]) hx hb dX4_setPlaces_32 rfl hl (by decide) rfl (fun ls hl => ?_)
  refine lv_goto (tgt := 79) hx hb dX4_setPlaces_33 (by decide) ?_
  obtain ⟨x4_16, ex4_16⟩ : ∃ z : Int32, z = v4_2 + (1 : Int32) := ⟨_, rfl⟩
  have hw := hw x4_16 ex4_16
  refine lv_iinc (v := x4_16) (lv' := [(4, .int x4_16), (3, .int x3_15), (5, .int r8), (0, .ref (ad 38)), (1, .ref (ad 19)), (2, .int a2)]) hx hb dX4_setPlaces_79 hl (k := 5) rfl (by rw [ex4_16]; rfl) (by decide) rfl (fun ls hl => ?_)
  refine lv_goto (tgt := 5) hx hb dX4_setPlaces_82 (by decide) ?_
  exact hw _ _ _ hP hS (lv_sub hl [3, 4, 5, 1, 0] rfl)
set_option maxHeartbeats 4000000 in
set_option maxRecDepth 100000 in
theorem kc_X4_read (l : Launch) (D : va_G) (cy : Nat → ClassId) (N : Nat) (hN : 39 ≤ N) (ad : Nat → Nat) (hJ0 : hJ N ad) (σ : hSt) (sz : Nat) (a2 : Int32) (Q : Int32 → hSt → Prop) (hw : wp_X4_read a2 σ Q) : Met l yX4_read wsX4_read ({ frames := 2, cells := 0, slots := 0, locals := 46 } : Room) (va_Pc [.ref (ad 38), .ref (ad 19), .int a2] (hB D cy (hC N ad (bX cy ad) σ) sz)) (va_Qi (fun (r : Int32) (u : hSt) => Q r u) (hE D (fun u : hSt => hC N ad (bX cy ad) u)) (hA N ad sz)) 0 0 (hA N ad sz) := by
  refine Met.ofW (cc := cX4_read) (maxL := 9) (ret := (some .boolean)) (by decide) rfl ?_
  intro p e s m args below meth c s₁ B hml hv
  obtain ⟨rfl, hsz, hP, hK, hN1⟩ := hv
  have hx := B.exec
  have hb := B.bytes
  have hr := B.returns
  have hts := atoms_spec (ws := wsX4_read) B.pre
  have hown : s.vm.findClass RX4 = some m.cls := findClass_of_methodNamed B.named
  have hlocks := B.notSynchronized
  subst hsz
  have hS : va_S (hA N ad s.heap.size) s.heap s.heap [] := va_S.rf
  have hl := lv_entry ([.ref (ad 38), .ref (ad 19), .int a2]) (n := 9) (Nat.le_of_ble_eq_true rfl)
  rw [lg_entry_eq]
  generalize (lg_sl ([.ref (ad 38), .ref (ad 19), .int a2]) ++ List.replicate (9 - (lg_sl ([.ref (ad 38), .ref (ad 19), .int a2])).length) Slot.unset).toArray = ls at hl ⊢
  have hl : lv_has ls 9 [(0, .ref (ad 38)), (1, .ref (ad 19)), (2, .int a2)] := hl
  unfold wp_X4_read at hw
  refine lv_iconst (v := 0) hx hb dX4_read_0 (by decide) ?_
  refine lv_istore_n (lv' := [(3, .int (0 : Int32)), (0, .ref (ad 38)), (1, .ref (ad 19)), (2, .int a2)]) hx hb dX4_read_1 rfl hl (by decide) rfl (fun ls hl => ?_)
  refine lv_iconst (v := 0) hx hb dX4_read_2 (by decide) ?_
  refine lv_istore (lv' := [(4, .int (0 : Int32)), (3, .int (0 : Int32)), (0, .ref (ad 38)), (1, .ref (ad 19)), (2, .int a2)]) hx hb dX4_read_3 hl (by decide) rfl (fun ls hl => ?_)
  refine lv_iconst (v := 0) hx hb dX4_read_5 (by decide) ?_
  refine lv_istore (lv' := [(5, .int (0 : Int32)), (4, .int (0 : Int32)), (3, .int (0 : Int32)), (0, .ref (ad 38)), (1, .ref (ad 19)), (2, .int a2)]) hx hb dX4_read_6 hl (by decide) rfl (fun ls hl => ?_)
  refine lv_iconst (v := 0) hx hb dX4_read_8 (by decide) ?_
  refine lv_istore (lv' := [(6, .int (0 : Int32)), (5, .int (0 : Int32)), (4, .int (0 : Int32)), (3, .int (0 : Int32)), (0, .ref (ad 38)), (1, .ref (ad 19)), (2, .int a2)]) hx hb dX4_read_9 hl (by decide) rfl (fun ls hl => ?_)
  refine hw (fun (v3_1 : Int32) (v4_2 : Int32) (v5_3 : Int32) (v6_4 : Int32) => ∀ (H : Heap) (locs : List Loc) (ls : Array Slot), va_P D vwCl (hC N ad (bX cy ad) σ) H → va_S (hA N ad s.heap.size) s.heap H locs → lv_has ls 9 [(0, .ref (ad 38)), (1, .ref (ad 19)), (2, .int a2), (3, .int v3_1), (4, .int v4_2), (5, .int v5_3), (6, .int v6_4)] → W p l e (headSpec wsX4_read ({ frames := 2, cells := 0, slots := 0, locals := 46 } : Room)).room s m ([Value.ref (ad 38), Value.ref (ad 19), Value.int a2] : List Value).toArray below meth c H locs 0 0 (MQ below (va_Qi (fun (r : Int32) (u : hSt) => Q r u) (hE D (fun u : hSt => hC N ad (bX cy ad) u)) (hA N ad s.heap.size)) ([Value.ref (ad 38), Value.ref (ad 19), Value.int a2] : List Value).toArray s 0 0 (hA N ad s.heap.size)) (F0 m 11 ls [])) (fun v3_1 v4_2 v5_3 v6_4 hw H locs ls hP hS hl => ?_) _ _ _ hP hS (lv_sub hl [4, 5, 6, 3, 2, 1, 0] rfl)
  refine lv_iload hx hb dX4_read_11 (lv_at hl 6 rfl) ?_
  refine lv_aload_n hx hb dX4_read_13 rfl (lv_at hl 1 rfl) ?_
  refine hw_ki (va_runV (As := []) (rest := [.int v6_4]) ⟨hx, hb, hml, hown, hts⟩ (kc_X9_size l D cy N (Nat.le_trans (by decide) hN) ad hJ0 σ _  _ hw) (cwV 0 hts gX4_read_X9_size rfl rfl rfl (by decide +kernel) ⟨Nat.le_of_ble_eq_true rfl, Nat.le_of_ble_eq_true rfl⟩) (hw_preV hK hN1 hP (Nat.lt_of_lt_of_le (by decide) hN) (bX_19 _) rfl) rfl rfl hl.1 rfl (lv_room (Nat.le_of_ble_eq_true rfl)) dX4_read_14 ⟨Nat.zero_le _, Nat.zero_le _⟩) hS (fun r6 σ5 H locs hw hP hS => ?_)
  obtain ⟨hu_, hw⟩ := hw
  rw [hu_] at hP
  refine lv_icmp_ge (tgt := 92) hx hb dX4_read_17 (by decide) (fun c7 => ?_) (fun c7 => ?_)
  · have hw := hw.1 c7
    refine lv_iload hx hb dX4_read_92 (lv_at hl 4 rfl) ?_
    refine lv_iconst (v := 1) hx hb dX4_read_94 (by decide) ?_
    refine lv_icmp_gt (tgt := 113) hx hb dX4_read_95 (by decide) (fun c8 => ?_) (fun c8 => ?_)
    · have hw := hw.1 c8
      refine lv_iconst (v := 0) hx hb dX4_read_113 (by decide) ?_
      exact hw_zret hx hb hr hlocks hbo_0 (σ) hw hP hS dX4_read_114
    have hw := hw.2 c8
    refine lv_iload_n hx hb dX4_read_98 rfl (lv_at hl 3 rfl) ?_
    refine lv_iload_n hx hb dX4_read_99 rfl (lv_at hl 2 rfl) ?_
    refine lv_icmp_gt (tgt := 113) hx hb dX4_read_100 (by decide) (fun c9 => ?_) (fun c9 => ?_)
    · have hw := hw.1 c9
      refine lv_iconst (v := 0) hx hb dX4_read_113 (by decide) ?_
      exact hw_zret hx hb hr hlocks hbo_0 (σ) hw hP hS dX4_read_114
    have hw := hw.2 c9
    refine lv_iload hx hb dX4_read_103 (lv_at hl 4 rfl) ?_
    refine lv_if_ne (tgt := 115) hx hb dX4_read_105 (by decide) (fun c10 => ?_) (fun c10 => ?_)
    · have hw := hw.1 c10
      refine lv_aload_n hx hb dX4_read_115 rfl (lv_at hl 0 rfl) ?_
      refine lv_aload_n hx hb dX4_read_116 rfl (lv_at hl 1 rfl) ?_
      refine lv_iload_n hx hb dX4_read_117 rfl (lv_at hl 2 rfl) ?_
      refine lv_iload_n hx hb dX4_read_118 rfl (lv_at hl 3 rfl) ?_
      refine lv_isub hx hb dX4_read_119 ?_
      refine hw_kv (va_runV (As := [.ref (ad 19), .int (a2 - v3_1)]) (rest := []) ⟨hx, hb, hml, hown, hts⟩ (kc_X4_setPlaces l D cy N hN ad hJ0 σ _ (a2 - v3_1) _ hw) (cwV 2 hts gX4_read_X4_setPlaces rfl rfl rfl (by decide +kernel) ⟨Nat.le_of_ble_eq_true rfl, Nat.le_of_ble_eq_true rfl⟩) (hw_preV hK hN1 hP (Nat.lt_of_lt_of_le (by decide) hN) (bX_38 _) rfl) rfl rfl hl.1 rfl (lv_room (Nat.le_of_ble_eq_true rfl)) dX4_read_120 ⟨Nat.zero_le _, Nat.zero_le _⟩) hS (fun σ11 H locs hw hP hS => ?_)
      refine lv_iconst (v := 1) hx hb dX4_read_123 (by decide) ?_
      exact hw_zret hx hb hr hlocks hbo_1 (σ11) hw hP hS dX4_read_124
    have hw := hw.2 c10
    refine lv_iload_n hx hb dX4_read_108 rfl (lv_at hl 3 rfl) ?_
    refine lv_iload_n hx hb dX4_read_109 rfl (lv_at hl 2 rfl) ?_
    refine lv_icmp_ge (tgt := 115) hx hb dX4_read_110 (by decide) (fun c12 => ?_) (fun c12 => ?_)
    · have hw := hw.1 c12
      refine lv_aload_n hx hb dX4_read_115 rfl (lv_at hl 0 rfl) ?_
      refine lv_aload_n hx hb dX4_read_116 rfl (lv_at hl 1 rfl) ?_
      refine lv_iload_n hx hb dX4_read_117 rfl (lv_at hl 2 rfl) ?_
      refine lv_iload_n hx hb dX4_read_118 rfl (lv_at hl 3 rfl) ?_
      refine lv_isub hx hb dX4_read_119 ?_
      refine hw_kv (va_runV (As := [.ref (ad 19), .int (a2 - v3_1)]) (rest := []) ⟨hx, hb, hml, hown, hts⟩ (kc_X4_setPlaces l D cy N hN ad hJ0 σ _ (a2 - v3_1) _ hw) (cwV 2 hts gX4_read_X4_setPlaces rfl rfl rfl (by decide +kernel) ⟨Nat.le_of_ble_eq_true rfl, Nat.le_of_ble_eq_true rfl⟩) (hw_preV hK hN1 hP (Nat.lt_of_lt_of_le (by decide) hN) (bX_38 _) rfl) rfl rfl hl.1 rfl (lv_room (Nat.le_of_ble_eq_true rfl)) dX4_read_120 ⟨Nat.zero_le _, Nat.zero_le _⟩) hS (fun σ13 H locs hw hP hS => ?_)
      refine lv_iconst (v := 1) hx hb dX4_read_123 (by decide) ?_
      exact hw_zret hx hb hr hlocks hbo_1 (σ13) hw hP hS dX4_read_124
    have hw := hw.2 c12
    refine lv_iconst (v := 0) hx hb dX4_read_113 (by decide) ?_
    exact hw_zret hx hb hr hlocks hbo_0 (σ) hw hP hS dX4_read_114
  have hw := hw.2 c7
  refine lv_aload_n hx hb dX4_read_20 rfl (lv_at hl 1 rfl) ?_
  refine lv_iload hx hb dX4_read_21 (lv_at hl 6 rfl) ?_
  refine hw_ki (va_runV (As := [.int v6_4]) (rest := []) ⟨hx, hb, hml, hown, hts⟩ (kc_X9_signAt l D cy N (Nat.le_trans (by decide) hN) ad hJ0 σ _ v6_4 _ hw) (cwV 1 hts gX4_read_X9_signAt rfl rfl rfl (by decide +kernel) ⟨Nat.le_of_ble_eq_true rfl, Nat.le_of_ble_eq_true rfl⟩) (hw_preV hK hN1 hP (Nat.lt_of_lt_of_le (by decide) hN) (bX_19 _) rfl) rfl rfl hl.1 rfl (lv_room (Nat.le_of_ble_eq_true rfl)) dX4_read_23 ⟨Nat.zero_le _, Nat.zero_le _⟩) hS (fun r15 σ14 H locs hw hP hS => ?_)
  obtain ⟨hu_, hw⟩ := hw
  rw [hu_] at hP
  refine lv_istore (lv' := [(7, .int r15), (0, .ref (ad 38)), (1, .ref (ad 19)), (2, .int a2), (3, .int v3_1), (4, .int v4_2), (5, .int v5_3), (6, .int v6_4)]) hx hb dX4_read_26 hl (by decide) rfl (fun ls hl => ?_)
  refine lv_iload hx hb dX4_read_28 (lv_at hl 0 rfl) ?_
  refine lv_bipush (v := 42) hx hb dX4_read_30 (by decide) ?_
  refine lv_icmp_ne (tgt := 41) hx hb dX4_read_32 (by decide) (fun c16 => ?_) (fun c16 => ?_)
  · have hw := hw.1 c16
    obtain ⟨x3_17, ex3_17⟩ : ∃ z : Int32, z = v3_1 + (1 : Int32) := ⟨_, rfl⟩
    have hw := hw x3_17 ex3_17
    refine lv_iinc (v := x3_17) (lv' := [(3, .int x3_17), (7, .int r15), (0, .ref (ad 38)), (1, .ref (ad 19)), (2, .int a2), (4, .int v4_2), (5, .int v5_3), (6, .int v6_4)]) hx hb dX4_read_41 hl (k := 4) rfl (by rw [ex3_17]; rfl) (by decide) rfl (fun ls hl => ?_)
    refine lv_iload hx hb dX4_read_44 (lv_at hl 1 rfl) ?_
    refine lv_bipush (v := 63) hx hb dX4_read_46 (by decide) ?_
    obtain ⟨J61, ehJ61, hw⟩ := hM_x hw
    have hJ61 : ∀ (z18 : Int32) (H : Heap) (locs : List Loc) (ls : Array Slot), J61 z18 → va_P D vwCl (hC N ad (bX cy ad) σ) H → va_S (hA N ad s.heap.size) s.heap H locs → lv_has ls 9 [(0, .ref (ad 38)), (1, .ref (ad 19)), (2, .int a2), (3, .int x3_17), (4, .int v4_2), (5, .int v5_3), (6, .int v6_4)] → W p l e (headSpec wsX4_read ({ frames := 2, cells := 0, slots := 0, locals := 46 } : Room)).room s m ([Value.ref (ad 38), Value.ref (ad 19), Value.int a2] : List Value).toArray below meth c H locs 0 0 (MQ below (va_Qi (fun (r : Int32) (u : hSt) => Q r u) (hE D (fun u : hSt => hC N ad (bX cy ad) u)) (hA N ad s.heap.size)) ([Value.ref (ad 38), Value.ref (ad 19), Value.int a2] : List Value).toArray s 0 0 (hA N ad s.heap.size)) (F0 m 61 ls [.int z18]) := by
      intro z18 H locs ls hw hP hS hl
      rw [ehJ61] at hw
      refine lv_istore (lv' := [(8, .int z18), (0, .ref (ad 38)), (1, .ref (ad 19)), (2, .int a2), (3, .int x3_17), (4, .int v4_2), (5, .int v5_3), (6, .int v6_4)]) hx hb dX4_read_61 hl (by decide) rfl (fun ls hl => ?_)
      refine lv_iload hx hb dX4_read_63 (lv_at hl 0 rfl) ?_
      refine lv_iconst (v := -1) hx hb dX4_read_65 (by decide) ?_
      refine lv_icmp_eq (tgt := 77) hx hb dX4_read_66 (by decide) (fun c19 => ?_) (fun c19 => ?_)
      · have hw := hw.1 c19
        refine lv_iconst (v := 0) hx hb dX4_read_77 (by decide) ?_
        exact hw_zret hx hb hr hlocks hbo_0 (σ) hw hP hS dX4_read_78
      have hw := hw.2 c19
      refine lv_iload hx hb dX4_read_69 (lv_at hl 6 rfl) ?_
      refine lv_iload hx hb dX4_read_71 (lv_at hl 0 rfl) ?_
      refine lv_iand hx hb dX4_read_73 ?_
      refine lv_if_eq (tgt := 79) hx hb dX4_read_74 (by decide) (fun c20 => ?_) (fun c20 => ?_)
      · have hw := hw.1 c20
        refine lv_iload hx hb dX4_read_79 (lv_at hl 6 rfl) ?_
        refine lv_iload hx hb dX4_read_81 (lv_at hl 0 rfl) ?_
        refine lv_ior hx hb dX4_read_83 ?_
        refine lv_topi (fun x5_21 ex5_21 => ?_)
        have hw := hw x5_21 ex5_21
        refine lv_istore (lv' := [(5, .int x5_21), (8, .int z18), (0, .ref (ad 38)), (1, .ref (ad 19)), (2, .int a2), (3, .int x3_17), (4, .int v4_2), (6, .int v6_4)]) hx hb dX4_read_84 hl (by decide) rfl (fun ls hl => ?_)
        obtain ⟨x6_22, ex6_22⟩ : ∃ z : Int32, z = v6_4 + (1 : Int32) := ⟨_, rfl⟩
        have hw := hw x6_22 ex6_22
        refine lv_iinc (v := x6_22) (lv' := [(6, .int x6_22), (5, .int x5_21), (8, .int z18), (0, .ref (ad 38)), (1, .ref (ad 19)), (2, .int a2), (3, .int x3_17), (4, .int v4_2)]) hx hb dX4_read_86 hl (k := 7) rfl (by rw [ex6_22]; rfl) (by decide) rfl (fun ls hl => ?_)
        refine lv_goto (tgt := 11) hx hb dX4_read_89 (by decide) ?_
        exact hw _ _ _ hP hS (lv_sub hl [3, 4, 5, 6, 7, 1, 0] rfl)
      have hw := hw.2 c20
      refine lv_iconst (v := 0) hx hb dX4_read_77 (by decide) ?_
      exact hw_zret hx hb hr hlocks hbo_0 (σ) hw hP hS dX4_read_78
    refine lv_icmp_ne (tgt := 55) hx hb dX4_read_48 (by decide) (fun c23 => ?_) (fun c23 => ?_)
    · have hw := hw.1 c23
      refine lv_iload hx hb dX4_read_55 (lv_at hl 1 rfl) ?_
      refine lv_iload_n hx hb dX4_read_57 rfl (lv_at hl 4 rfl) ?_
      refine hw_ki (va_runS (As := [.int r15, .int a2]) (rest := []) ⟨hx, hb, hml, hown, hts⟩ (kc_X4_bitOf l D cy N ad (bX cy ad) σ _ r15 a2 _ hw) (va_cwS 2 hts gX4_read_X4_bitOf rfl rfl rfl (by decide +kernel) ⟨Nat.le_of_ble_eq_true rfl, Nat.le_of_ble_eq_true rfl⟩) (hw_pre hK hN1 hP) rfl rfl hl.1 rfl (lv_room (Nat.le_of_ble_eq_true rfl)) dX4_read_58 ⟨Nat.zero_le _, Nat.zero_le _⟩) hS (fun r25 σ24 H locs hw hP hS => ?_)
      obtain ⟨hu_, hw⟩ := hw
      rw [hu_] at hP
      exact hJ61 _ _ _ _ hw hP hS (lv_sub hl [2, 3, 4, 0, 5, 6, 7] rfl)
    have hw := hw.2 c23
    refine lv_iconst (v := 0) hx hb dX4_read_51 (by decide) ?_
    refine lv_goto (tgt := 61) hx hb dX4_read_52 (by decide) ?_
    exact hJ61 _ _ _ _ hw hP hS (lv_sub hl [2, 3, 4, 0, 5, 6, 7] rfl)
  have hw := hw.2 c16
  obtain ⟨x4_26, ex4_26⟩ : ∃ z : Int32, z = v4_2 + (1 : Int32) := ⟨_, rfl⟩
  have hw := hw x4_26 ex4_26
  refine lv_iinc (v := x4_26) (lv' := [(4, .int x4_26), (7, .int r15), (0, .ref (ad 38)), (1, .ref (ad 19)), (2, .int a2), (3, .int v3_1), (5, .int v5_3), (6, .int v6_4)]) hx hb dX4_read_35 hl (k := 5) rfl (by rw [ex4_26]; rfl) (by decide) rfl (fun ls hl => ?_)
  refine lv_goto (tgt := 86) hx hb dX4_read_38 (by decide) ?_
  obtain ⟨x6_27, ex6_27⟩ : ∃ z : Int32, z = v6_4 + (1 : Int32) := ⟨_, rfl⟩
  have hw := hw x6_27 ex6_27
  refine lv_iinc (v := x6_27) (lv' := [(6, .int x6_27), (4, .int x4_26), (7, .int r15), (0, .ref (ad 38)), (1, .ref (ad 19)), (2, .int a2), (3, .int v3_1), (5, .int v5_3)]) hx hb dX4_read_86 hl (k := 7) rfl (by rw [ex6_27]; rfl) (by decide) rfl (fun ls hl => ?_)
  refine lv_goto (tgt := 11) hx hb dX4_read_89 (by decide) ?_
  exact hw _ _ _ hP hS (lv_sub hl [3, 4, 5, 6, 1, 7, 0] rfl)
set_option maxHeartbeats 4000000 in
set_option maxRecDepth 100000 in
theorem kc_X4_fits (l : Launch) (D : va_G) (cy : Nat → ClassId) (N : Nat) (hN : 39 ≤ N) (ad : Nat → Nat) (hJ0 : hJ N ad) (σ : hSt) (sz : Nat) (a1 : Int32) (Q : Int32 → Prop) (hw : wp_X4_fits a1 σ Q) : Met l yX4_fits wsX4_fits ({ frames := 0, cells := 0, slots := 0, locals := 0 } : Room) (va_Pc [.ref (ad 38), .int a1] (hB D cy (hC N ad (bX cy ad) σ) sz)) (va_Qi (fun (r : Int32) (u : hSt) => u = σ ∧ Q r) (hE D (fun u : hSt => hC N ad (bX cy ad) u)) (hA N ad sz)) 0 0 (hA N ad sz) := by
  refine Met.ofW (cc := cX4_fits) (maxL := 2) (ret := (some .boolean)) (by decide) rfl ?_
  intro p e s m args below meth c s₁ B hml hv
  obtain ⟨rfl, hsz, hP, hK, hN1⟩ := hv
  have hx := B.exec
  have hb := B.bytes
  have hr := B.returns
  have hts := atoms_spec (ws := wsX4_fits) B.pre
  have hown : s.vm.findClass RX4 = some m.cls := findClass_of_methodNamed B.named
  have hlocks := B.notSynchronized
  subst hsz
  have hS : va_S (hA N ad s.heap.size) s.heap s.heap [] := va_S.rf
  have hiX4 : ∀ w ∈ wsX40, w ∈ wsX4_fits := fun _ h => List.mem_cons_of_mem _ (List.mem_append_right _ h)
  have hl := lv_entry ([.ref (ad 38), .int a1]) (n := 2) (Nat.le_of_ble_eq_true rfl)
  rw [lg_entry_eq]
  generalize (lg_sl ([.ref (ad 38), .int a1]) ++ List.replicate (2 - (lg_sl ([.ref (ad 38), .int a1])).length) Slot.unset).toArray = ls at hl ⊢
  have hl : lv_has ls 2 [(0, .ref (ad 38)), (1, .int a1)] := hl
  unfold wp_X4_fits at hw
  refine lv_iload_n hx hb dX4_fits_0 rfl (lv_at hl 1 rfl) ?_
  refine lv_aload_n hx hb dX4_fits_1 rfl (lv_at hl 0 rfl) ?_
  refine hw_get (v := .int (σ 38 0)) hx hb hts hiX4 hown hK hP (Nat.lt_of_lt_of_le (by decide) hN) (bX_38 _) rfl 0 (by decide) (List.mem_of_getElem? (i := 1) rfl) rfl rfl dX4_fits_2 ?_
  refine lv_iand hx hb dX4_fits_5 ?_
  refine lv_aload_n hx hb dX4_fits_6 rfl (lv_at hl 0 rfl) ?_
  refine hw_get (v := .int (σ 38 1)) hx hb hts hiX4 hown hK hP (Nat.lt_of_lt_of_le (by decide) hN) (bX_38 _) rfl 1 (by decide) (List.mem_of_getElem? (i := 2) rfl) rfl rfl dX4_fits_7 ?_
  refine lv_icmp_ne (tgt := 17) hx hb dX4_fits_10 (by decide) (fun c1 => ?_) (fun c1 => ?_)
  · have hw := hw.1 c1
    refine lv_iconst (v := 0) hx hb dX4_fits_17 (by decide) ?_
    exact hw_zret hx hb hr hlocks hbo_0 (σ) ⟨rfl, hw⟩ hP hS dX4_fits_18
  have hw := hw.2 c1
  refine lv_iconst (v := 1) hx hb dX4_fits_13 (by decide) ?_
  refine lv_goto (tgt := 18) hx hb dX4_fits_14 (by decide) ?_
  exact hw_zret hx hb hr hlocks hbo_1 (σ) ⟨rfl, hw⟩ hP hS dX4_fits_18
set_option maxHeartbeats 4000000 in
set_option maxRecDepth 100000 in
theorem kc_X5_fitting (l : Launch) (D : va_G) (cy : Nat → ClassId) (N : Nat) (hN : 39 ≤ N) (ad : Nat → Nat) (hJ0 : hJ N ad) (σ : hSt) (sz : Nat)  (Q : Int32 → Prop) (hw : wp_X5_fitting  σ Q) : Met l yX5_fitting wsX5_fitting ({ frames := 2, cells := 0, slots := 0, locals := 42 } : Room) (va_Pc [.ref (ad 31), .ref (ad 38)] (hB D cy (hC N ad (bX cy ad) σ) sz)) (va_Qi (fun (r : Int32) (u : hSt) => u = σ ∧ Q r) (hE D (fun u : hSt => hC N ad (bX cy ad) u)) (hA N ad sz)) 0 0 (hA N ad sz) := by
  refine Met.ofW (cc := cX5_fitting) (maxL := 7) (ret := (some .int)) (by decide) rfl ?_
  intro p e s m args below meth c s₁ B hml hv
  obtain ⟨rfl, hsz, hP, hK, hN1⟩ := hv
  have hx := B.exec
  have hb := B.bytes
  have hr := B.returns
  have hts := atoms_spec (ws := wsX5_fitting) B.pre
  have hown : s.vm.findClass RX5 = some m.cls := findClass_of_methodNamed B.named
  have hlocks := B.notSynchronized
  subst hsz
  have hS : va_S (hA N ad s.heap.size) s.heap s.heap [] := va_S.rf
  have hiX5 : ∀ w ∈ wsX50, w ∈ wsX5_fitting := fun _ h => List.mem_cons_of_mem _ (List.mem_append_left _ (List.mem_append_left _ (List.mem_append_left _ (List.mem_append_right _ h))))
  have hl := lv_entry ([.ref (ad 31), .ref (ad 38)]) (n := 7) (Nat.le_of_ble_eq_true rfl)
  rw [lg_entry_eq]
  generalize (lg_sl ([.ref (ad 31), .ref (ad 38)]) ++ List.replicate (7 - (lg_sl ([.ref (ad 31), .ref (ad 38)])).length) Slot.unset).toArray = ls at hl ⊢
  have hl : lv_has ls 7 [(0, .ref (ad 31)), (1, .ref (ad 38))] := hl
  unfold wp_X5_fitting at hw
  refine lv_iconst (v := 0) hx hb dX5_fitting_0 (by decide) ?_
  refine lv_istore_n (lv' := [(2, .int (0 : Int32)), (0, .ref (ad 31)), (1, .ref (ad 38))]) hx hb dX5_fitting_1 rfl hl (by decide) rfl (fun ls hl => ?_)
  refine lv_iconst (v := 0) hx hb dX5_fitting_2 (by decide) ?_
  refine lv_istore_n (lv' := [(3, .int (0 : Int32)), (2, .int (0 : Int32)), (0, .ref (ad 31)), (1, .ref (ad 38))]) hx hb dX5_fitting_3 rfl hl (by decide) rfl (fun ls hl => ?_)
  refine hw (fun (v2_1 : Int32) (v3_2 : Int32) => ∀ (H : Heap) (locs : List Loc) (ls : Array Slot), va_P D vwCl (hC N ad (bX cy ad) σ) H → va_S (hA N ad s.heap.size) s.heap H locs → lv_has ls 7 [(0, .ref (ad 31)), (1, .ref (ad 38)), (2, .int v2_1), (3, .int v3_2)] → W p l e (headSpec wsX5_fitting ({ frames := 2, cells := 0, slots := 0, locals := 42 } : Room)).room s m ([Value.ref (ad 31), Value.ref (ad 38)] : List Value).toArray below meth c H locs 0 0 (MQ below (va_Qi (fun (r : Int32) (u : hSt) => u = σ ∧ Q r) (hE D (fun u : hSt => hC N ad (bX cy ad) u)) (hA N ad s.heap.size)) ([Value.ref (ad 31), Value.ref (ad 38)] : List Value).toArray s 0 0 (hA N ad s.heap.size)) (F0 m 4 ls [])) (fun v2_1 v3_2 hw H locs ls hP hS hl => ?_) _ _ _ hP hS (lv_sub hl [2, 3, 1, 0] rfl)
  refine lv_iload_n hx hb dX5_fitting_4 rfl (lv_at hl 3 rfl) ?_
  refine lv_aload_n hx hb dX5_fitting_5 rfl (lv_at hl 0 rfl) ?_
  refine hw_get (v := .int (σ 31 6)) hx hb hts hiX5 hown hK hP (Nat.lt_of_lt_of_le (by decide) hN) (bX_31 _) rfl 6 (by decide) (List.mem_of_getElem? (i := 1) rfl) rfl rfl dX5_fitting_6 ?_
  refine lv_icmp_ge (tgt := 84) hx hb dX5_fitting_9 (by decide) (fun c3 => ?_) (fun c3 => ?_)
  · have hw := hw.1 c3
    refine lv_iload_n hx hb dX5_fitting_84 rfl (lv_at hl 2 rfl) ?_
    exact hw_iret hx hb hr hlocks (σ) ⟨rfl, hw⟩ hP hS dX5_fitting_85
  have hw := hw.2 c3
  refine lv_aload_n hx hb dX5_fitting_12 rfl (lv_at hl 0 rfl) ?_
  refine hw_get (v := .ref (ad 1)) hx hb hts hiX5 hown hK hP (Nat.lt_of_lt_of_le (by decide) hN) (bX_31 _) rfl 0 (by decide) (List.mem_of_getElem? (i := 2) rfl) rfl rfl dX5_fitting_13 ?_
  refine lv_aload_n hx hb dX5_fitting_16 rfl (lv_at hl 0 rfl) ?_
  refine lv_iload_n hx hb dX5_fitting_17 rfl (lv_at hl 3 rfl) ?_
  refine hw_ki (va_runV (As := [.int v3_2]) (rest := [.ref (ad 1)]) ⟨hx, hb, hml, hown, hts⟩ (kc_X5_letterOf l D cy N (Nat.le_trans (by decide) hN) ad hJ0 σ _ v3_2 _ hw) (cwV 1 hts gX5_fitting_X5_letterOf rfl rfl rfl (by decide +kernel) ⟨Nat.le_of_ble_eq_true rfl, Nat.le_of_ble_eq_true rfl⟩) (hw_preV hK hN1 hP (Nat.lt_of_lt_of_le (by decide) hN) (bX_31 _) rfl) rfl rfl hl.1 rfl (lv_room (Nat.le_of_ble_eq_true rfl)) dX5_fitting_18 ⟨Nat.zero_le _, Nat.zero_le _⟩) hS (fun r5 σ4 H locs hw hP hS => ?_)
  obtain ⟨hu_, hw⟩ := hw
  rw [hu_] at hP
  refine hw_kr (va_runV (As := [.int r5]) (rest := []) ⟨hx, hb, hml, hown, hts⟩ (kc_X0_at l D cy N (Nat.le_trans (by decide) hN) ad hJ0 σ _ r5 _ hw) (cwV 1 hts gX5_fitting_X0_at rfl rfl rfl (by decide +kernel) ⟨Nat.le_of_ble_eq_true rfl, Nat.le_of_ble_eq_true rfl⟩) (hw_preV hK hN1 hP (Nat.lt_of_lt_of_le (by decide) hN) (bX_1 _) rfl) rfl rfl hl.1 rfl (lv_room (Nat.le_of_ble_eq_true rfl)) dX5_fitting_21 ⟨Nat.zero_le _, Nat.zero_le _⟩) hS (fun k7 σ6 H locs hw hP hS => ?_)
  obtain ⟨hu_, hk8, hw⟩ := hw
  dsimp only at hu_ hk8 hw
  rw [hu_] at hP
  refine lv_astore (lv' := [(4, .ref (ad k7)), (0, .ref (ad 31)), (1, .ref (ad 38)), (2, .int v2_1), (3, .int v3_2)]) hx hb dX5_fitting_24 hl (by decide) rfl (fun ls hl => ?_)
  refine lv_aload_n hx hb dX5_fitting_26 rfl (lv_at hl 1 rfl) ?_
  refine lv_iload_n hx hb dX5_fitting_27 rfl (lv_at hl 4 rfl) ?_
  refine hw_ki (va_runV (As := [.int v3_2]) (rest := []) ⟨hx, hb, hml, hown, hts⟩ (kc_X5_headOf l D cy N (Nat.le_trans (by decide) hN) ad hJ0 σ _ v3_2 _ hw) (cwV 1 hts gX5_fitting_X5_headOf rfl rfl rfl (by decide +kernel) ⟨Nat.le_of_ble_eq_true rfl, Nat.le_of_ble_eq_true rfl⟩) (hw_preV hK hN1 hP (Nat.lt_of_lt_of_le (by decide) hN) (bX_31 _) rfl) rfl rfl hl.1 rfl (lv_room (Nat.le_of_ble_eq_true rfl)) dX5_fitting_28 ⟨Nat.zero_le _, Nat.zero_le _⟩) hS (fun r10 σ9 H locs hw hP hS => ?_)
  obtain ⟨hu_, hw⟩ := hw
  rw [hu_] at hP
  refine lv_istore (lv' := [(5, .int r10), (4, .ref (ad k7)), (0, .ref (ad 31)), (1, .ref (ad 38)), (2, .int v2_1), (3, .int v3_2)]) hx hb dX5_fitting_31 hl (by decide) rfl (fun ls hl => ?_)
  refine lv_iconst (v := 0) hx hb dX5_fitting_33 (by decide) ?_
  refine lv_istore (lv' := [(6, .int (0 : Int32)), (5, .int r10), (4, .ref (ad k7)), (0, .ref (ad 31)), (1, .ref (ad 38)), (2, .int v2_1), (3, .int v3_2)]) hx hb dX5_fitting_34 hl (by decide) rfl (fun ls hl => ?_)
  refine hw (fun (v2_11 : Int32) (v5_12 : Int32) (v6_13 : Int32) => ∀ (H : Heap) (locs : List Loc) (ls : Array Slot), va_P D vwCl (hC N ad (bX cy ad) σ) H → va_S (hA N ad s.heap.size) s.heap H locs → lv_has ls 7 [(0, .ref (ad 31)), (1, .ref (ad 38)), (2, .int v2_11), (3, .int v3_2), (4, .ref (ad k7)), (5, .int v5_12), (6, .int v6_13)] → W p l e (headSpec wsX5_fitting ({ frames := 2, cells := 0, slots := 0, locals := 42 } : Room)).room s m ([Value.ref (ad 31), Value.ref (ad 38)] : List Value).toArray below meth c H locs 0 0 (MQ below (va_Qi (fun (r : Int32) (u : hSt) => u = σ ∧ Q r) (hE D (fun u : hSt => hC N ad (bX cy ad) u)) (hA N ad s.heap.size)) ([Value.ref (ad 31), Value.ref (ad 38)] : List Value).toArray s 0 0 (hA N ad s.heap.size)) (F0 m 36 ls [])) (fun v2_11 v5_12 v6_13 hw H locs ls hP hS hl => ?_) _ _ _ hP hS (lv_sub hl [3, 4, 5, 6, 2, 1, 0] rfl)
  refine lv_iload hx hb dX5_fitting_36 (lv_at hl 6 rfl) ?_
  refine lv_aload hx hb dX5_fitting_38 (lv_at hl 4 rfl) ?_
  refine hw_ki (va_runV (As := []) (rest := [.int v6_13]) ⟨hx, hb, hml, hown, hts⟩ (kc_X2_size l D cy N (Nat.le_trans (by decide) hN) ad hJ0 σ _ k7 hk8 _ hw) (cwV 0 hts gX5_fitting_X2_size rfl rfl rfl (by decide +kernel) ⟨Nat.le_of_ble_eq_true rfl, Nat.le_of_ble_eq_true rfl⟩) (hw_preV hK hN1 hP (hMe_lt hk8 (Nat.le_trans (by decide : 38 ≤ 39) hN)) (bX_me hk8 _) rfl) rfl rfl hl.1 rfl (lv_room (Nat.le_of_ble_eq_true rfl)) dX5_fitting_40 ⟨Nat.zero_le _, Nat.zero_le _⟩) hS (fun r15 σ14 H locs hw hP hS => ?_)
  obtain ⟨hu_, hw⟩ := hw
  rw [hu_] at hP
  refine lv_icmp_ge (tgt := 78) hx hb dX5_fitting_43 (by decide) (fun c16 => ?_) (fun c16 => ?_)
  · have hw := hw.1 c16
    obtain ⟨x3_17, ex3_17⟩ : ∃ z : Int32, z = v3_2 + (1 : Int32) := ⟨_, rfl⟩
    have hw := hw x3_17 ex3_17
    refine lv_iinc (v := x3_17) (lv' := [(3, .int x3_17), (0, .ref (ad 31)), (1, .ref (ad 38)), (2, .int v2_11), (4, .ref (ad k7)), (5, .int v5_12), (6, .int v6_13)]) hx hb dX5_fitting_78 hl (k := 3) rfl (by rw [ex3_17]; rfl) (by decide) rfl (fun ls hl => ?_)
    refine lv_goto (tgt := 4) hx hb dX5_fitting_81 (by decide) ?_
    exact hw _ _ _ hP hS (lv_sub hl [1, 2, 3, 0] rfl)
  have hw := hw.2 c16
  refine lv_iload_n hx hb dX5_fitting_46 rfl (lv_at hl 2 rfl) ?_
  refine lv_aload_n hx hb dX5_fitting_47 rfl (lv_at hl 1 rfl) ?_
  refine lv_iload hx hb dX5_fitting_48 (lv_at hl 5 rfl) ?_
  refine hw_ki (va_runV (As := [.int v5_12]) (rest := [.int v2_11]) ⟨hx, hb, hml, hown, hts⟩ (kc_X4_fits l D cy N hN ad hJ0 σ _ v5_12 _ hw) (cwV 1 hts gX5_fitting_X4_fits rfl rfl rfl (by decide +kernel) ⟨Nat.le_of_ble_eq_true rfl, Nat.le_of_ble_eq_true rfl⟩) (hw_preV hK hN1 hP (Nat.lt_of_lt_of_le (by decide) hN) (bX_38 _) rfl) rfl rfl hl.1 rfl (lv_room (Nat.le_of_ble_eq_true rfl)) dX5_fitting_50 ⟨Nat.zero_le _, Nat.zero_le _⟩) hS (fun r19 σ18 H locs hw hP hS => ?_)
  obtain ⟨hu_, hw⟩ := hw
  rw [hu_] at hP
  refine hw_ki (va_runSN (As := [.int r19]) (rest := [.int v2_11]) ⟨hx, hb, hml, hown, hts⟩ (kc_X11_oneIf l D cy N ad (bX cy ad) σ _ r19 _ hw) ⟨va_cnB 1 hts gX5_fitting_X11_oneIf_n87 rfl rfl rfl (hN1.at 7 rfl) (hts (.initialized RX11) (List.mem_of_getElem? (i := 10) rfl)) (by decide +kernel) ⟨Nat.le_of_ble_eq_true rfl, Nat.le_of_ble_eq_true rfl⟩, hts (.static yX11_oneIf) (List.mem_of_getElem? (i := 37) rfl), trivial⟩ (hw_pre hK hN1 hP) rfl rfl hl.1 rfl (lv_room (Nat.le_of_ble_eq_true rfl)) dX5_fitting_53 ⟨Nat.zero_le _, Nat.zero_le _⟩) hS (fun r21 σ20 H locs hw hP hS => ?_)
  obtain ⟨hu_, hw⟩ := hw
  rw [hu_] at hP
  refine lv_iadd hx hb dX5_fitting_56 ?_
  refine lv_topi (fun x2_22 ex2_22 => ?_)
  have hw := hw x2_22 ex2_22
  refine lv_istore_n (lv' := [(2, .int x2_22), (0, .ref (ad 31)), (1, .ref (ad 38)), (3, .int v3_2), (4, .ref (ad k7)), (5, .int v5_12), (6, .int v6_13)]) hx hb dX5_fitting_57 rfl hl (by decide) rfl (fun ls hl => ?_)
  refine lv_iload hx hb dX5_fitting_58 (lv_at hl 5 rfl) ?_
  refine lv_aload hx hb dX5_fitting_60 (lv_at hl 4 rfl) ?_
  refine lv_iload hx hb dX5_fitting_62 (lv_at hl 6 rfl) ?_
  refine hw_ki (va_runV (As := [.int v6_13]) (rest := [.int v5_12]) ⟨hx, hb, hml, hown, hts⟩ (kc_X2_changeAt l D cy N (Nat.le_trans (by decide) hN) ad hJ0 σ _ k7 hk8 v6_13 _ hw) (cwV 1 hts gX5_fitting_X2_changeAt rfl rfl rfl (by decide +kernel) ⟨Nat.le_of_ble_eq_true rfl, Nat.le_of_ble_eq_true rfl⟩) (hw_preV hK hN1 hP (hMe_lt hk8 (Nat.le_trans (by decide : 38 ≤ 39) hN)) (bX_me hk8 _) rfl) rfl rfl hl.1 rfl (lv_room (Nat.le_of_ble_eq_true rfl)) dX5_fitting_64 ⟨Nat.zero_le _, Nat.zero_le _⟩) hS (fun r24 σ23 H locs hw hP hS => ?_)
  obtain ⟨hu_, hw⟩ := hw
  rw [hu_] at hP
  refine hw_ki (va_runS (As := [.int v5_12, .int r24]) (rest := []) ⟨hx, hb, hml, hown, hts⟩ (kc_X6_changed l D cy N ad (bX cy ad) σ _ v5_12 r24 _ hw) (va_cwS 2 hts gX5_fitting_X6_changed rfl rfl rfl (by decide +kernel) ⟨Nat.le_of_ble_eq_true rfl, Nat.le_of_ble_eq_true rfl⟩) (hw_pre hK hN1 hP) rfl rfl hl.1 rfl (lv_room (Nat.le_of_ble_eq_true rfl)) dX5_fitting_67 ⟨Nat.zero_le _, Nat.zero_le _⟩) hS (fun r26 σ25 H locs hw hP hS => ?_)
  obtain ⟨hu_, hw⟩ := hw
  rw [hu_] at hP
  refine lv_istore (lv' := [(5, .int r26), (2, .int x2_22), (0, .ref (ad 31)), (1, .ref (ad 38)), (3, .int v3_2), (4, .ref (ad k7)), (6, .int v6_13)]) hx hb dX5_fitting_70 hl (by decide) rfl (fun ls hl => ?_)
  obtain ⟨x6_27, ex6_27⟩ : ∃ z : Int32, z = v6_13 + (1 : Int32) := ⟨_, rfl⟩
  have hw := hw x6_27 ex6_27
  refine lv_iinc (v := x6_27) (lv' := [(6, .int x6_27), (5, .int r26), (2, .int x2_22), (0, .ref (ad 31)), (1, .ref (ad 38)), (3, .int v3_2), (4, .ref (ad k7))]) hx hb dX5_fitting_72 hl (k := 6) rfl (by rw [ex6_27]; rfl) (by decide) rfl (fun ls hl => ?_)
  refine lv_goto (tgt := 36) hx hb dX5_fitting_75 (by decide) ?_
  exact hw _ _ _ hP hS (lv_sub hl [3, 4, 2, 5, 6, 1, 0] rfl)
set_option maxHeartbeats 4000000 in
set_option maxRecDepth 100000 in
theorem kc_X11_whole (l : Launch) (D : va_G) (cy : Nat → ClassId) (N : Nat) (hN : 38 ≤ N) (ad : Nat → Nat) (hJ0 : hJ N ad) (σ : hSt) (sz : Nat)  (Q : Int32 → hSt → Prop) (hw : wp_X11_whole  σ Q) : Met l yX11_whole wsX11_whole ({ frames := 4, cells := 0, slots := 0, locals := 98 } : Room) (va_Pc [.ref (ad 0)] (hB D cy (hC N ad (bX cy ad) σ) sz)) (va_Qi (fun (r : Int32) (u : hSt) => Q r u) (hE D (fun u : hSt => hC N ad (bX cy ad) u)) (hA N ad sz)) 0 0 (hA N ad sz) := by
  refine Met.ofW (cc := cX11_whole) (maxL := 2) (ret := (some .int)) (by decide) rfl ?_
  intro p e s m args below meth c s₁ B hml hv
  obtain ⟨rfl, hsz, hP, hK, hN1⟩ := hv
  have hx := B.exec
  have hb := B.bytes
  have hr := B.returns
  have hts := atoms_spec (ws := wsX11_whole) B.pre
  have hown : s.vm.findClass RX11 = some m.cls := findClass_of_methodNamed B.named
  have hlocks := B.notSynchronized
  subst hsz
  have hS : va_S (hA N ad s.heap.size) s.heap s.heap [] := va_S.rf
  have hiX11 : ∀ w ∈ wsX110, w ∈ wsX11_whole := fun _ h => List.mem_cons_of_mem _ (List.mem_append_left _ (List.mem_append_left _ (List.mem_append_left _ (List.mem_append_left _ (List.mem_append_right _ h)))))
  have hl := lv_entry ([.ref (ad 0)]) (n := 2) (Nat.le_of_ble_eq_true rfl)
  rw [lg_entry_eq]
  generalize (lg_sl ([.ref (ad 0)]) ++ List.replicate (2 - (lg_sl ([.ref (ad 0)])).length) Slot.unset).toArray = ls at hl ⊢
  have hl : lv_has ls 2 [(0, .ref (ad 0))] := hl
  unfold wp_X11_whole at hw
  refine lv_aload_n hx hb dX11_whole_0 rfl (lv_at hl 0 rfl) ?_
  refine hw_get (v := .ref (ad 31)) hx hb hts hiX11 hown hK hP (Nat.lt_of_lt_of_le (by decide) hN) (bX_0 _) rfl 7 (by decide) (List.mem_of_getElem? (i := 1) rfl) rfl rfl dX11_whole_1 ?_
  refine hw_ki (va_runV (As := []) (rest := []) ⟨hx, hb, hml, hown, hts⟩ (kc_X5_order l D cy N hN ad hJ0 σ _  _ hw) (cwV 0 hts gX11_whole_X5_order rfl rfl rfl (by decide +kernel) ⟨Nat.le_of_ble_eq_true rfl, Nat.le_of_ble_eq_true rfl⟩) (hw_preV hK hN1 hP (Nat.lt_of_lt_of_le (by decide) hN) (bX_31 _) rfl) rfl rfl hl.1 rfl (lv_room (Nat.le_of_ble_eq_true rfl)) dX11_whole_4 ⟨Nat.zero_le _, Nat.zero_le _⟩) hS (fun r2 σ1 H locs hw hP hS => ?_)
  obtain ⟨hu_, hw⟩ := hw
  rw [hu_] at hP
  refine lv_istore_n (lv' := [(1, .int r2), (0, .ref (ad 0))]) hx hb dX11_whole_7 rfl hl (by decide) rfl (fun ls hl => ?_)
  refine lv_iload_n hx hb dX11_whole_8 rfl (lv_at hl 0 rfl) ?_
  refine lv_aload_n hx hb dX11_whole_9 rfl (lv_at hl 1 rfl) ?_
  refine hw_get (v := .ref (ad 31)) hx hb hts hiX11 hown hK hP (Nat.lt_of_lt_of_le (by decide) hN) (bX_0 _) rfl 7 (by decide) (List.mem_of_getElem? (i := 1) rfl) rfl rfl dX11_whole_10 ?_
  refine hw_ki (va_runV (As := []) (rest := [.int r2]) ⟨hx, hb, hml, hown, hts⟩ (kc_X5_size l D cy N hN ad hJ0 σ _  _ hw) (cwV 0 hts gX11_whole_X5_size rfl rfl rfl (by decide +kernel) ⟨Nat.le_of_ble_eq_true rfl, Nat.le_of_ble_eq_true rfl⟩) (hw_preV hK hN1 hP (Nat.lt_of_lt_of_le (by decide) hN) (bX_31 _) rfl) rfl rfl hl.1 rfl (lv_room (Nat.le_of_ble_eq_true rfl)) dX11_whole_13 ⟨Nat.zero_le _, Nat.zero_le _⟩) hS (fun r4 σ3 H locs hw hP hS => ?_)
  obtain ⟨hu_, hw⟩ := hw
  rw [hu_] at hP
  refine lv_imul hx hb dX11_whole_16 ?_
  refine lv_sipush (v := 1000) hx hb dX11_whole_17 (by decide) ?_
  refine lv_icmp_le (tgt := 25) hx hb dX11_whole_20 (by decide) (fun c5 => ?_) (fun c5 => ?_)
  · have hw := hw.1 c5
    refine lv_aload_n hx hb dX11_whole_25 rfl (lv_at hl 1 rfl) ?_
    refine hw_get (v := .ref (ad 31)) hx hb hts hiX11 hown hK hP (Nat.lt_of_lt_of_le (by decide) hN) (bX_0 _) rfl 7 (by decide) (List.mem_of_getElem? (i := 1) rfl) rfl rfl dX11_whole_26 ?_
    refine lv_iload_n hx hb dX11_whole_29 rfl (lv_at hl 0 rfl) ?_
    refine hw_ki (va_runV (As := [.int r2]) (rest := []) ⟨hx, hb, hml, hown, hts⟩ (kc_X5_firstRepeat l D cy N hN ad hJ0 σ _ r2 _ hw) (cwV 1 hts gX11_whole_X5_firstRepeat rfl rfl rfl (by decide +kernel) ⟨Nat.le_of_ble_eq_true rfl, Nat.le_of_ble_eq_true rfl⟩) (hw_preV hK hN1 hP (Nat.lt_of_lt_of_le (by decide) hN) (bX_31 _) rfl) rfl rfl hl.1 rfl (lv_room (Nat.le_of_ble_eq_true rfl)) dX11_whole_30 ⟨Nat.zero_le _, Nat.zero_le _⟩) hS (fun r7 σ6 H locs hw hP hS => ?_)
    refine lv_iconst (v := -1) hx hb dX11_whole_33 (by decide) ?_
    refine lv_icmp_ne (tgt := 41) hx hb dX11_whole_34 (by decide) (fun c8 => ?_) (fun c8 => ?_)
    · have hw := hw.1 c8
      refine lv_iconst (v := 0) hx hb dX11_whole_41 (by decide) ?_
      refine hw_ki (va_runS (As := [.int (0 : Int32)]) (rest := []) ⟨hx, hb, hml, hown, hts⟩ (kc_X11_oneIf l D cy N ad (bX cy ad) σ6 _ (0 : Int32) _ hw) (va_cwS 1 hts gX11_whole_X11_oneIf rfl rfl rfl (by decide +kernel) ⟨Nat.le_of_ble_eq_true rfl, Nat.le_of_ble_eq_true rfl⟩) (hw_pre hK hN1 hP) rfl rfl hl.1 rfl (lv_room (Nat.le_of_ble_eq_true rfl)) dX11_whole_42 ⟨Nat.zero_le _, Nat.zero_le _⟩) hS (fun r10 σ9 H locs hw hP hS => ?_)
      obtain ⟨hu_, hw⟩ := hw
      rw [hu_] at hP
      exact hw_iret hx hb hr hlocks (σ6) hw hP hS dX11_whole_45
    have hw := hw.2 c8
    refine lv_iconst (v := 1) hx hb dX11_whole_37 (by decide) ?_
    refine lv_goto (tgt := 42) hx hb dX11_whole_38 (by decide) ?_
    refine hw_ki (va_runS (As := [.int (1 : Int32)]) (rest := []) ⟨hx, hb, hml, hown, hts⟩ (kc_X11_oneIf l D cy N ad (bX cy ad) σ6 _ (1 : Int32) _ hw) (va_cwS 1 hts gX11_whole_X11_oneIf rfl rfl rfl (by decide +kernel) ⟨Nat.le_of_ble_eq_true rfl, Nat.le_of_ble_eq_true rfl⟩) (hw_pre hK hN1 hP) rfl rfl hl.1 rfl (lv_room (Nat.le_of_ble_eq_true rfl)) dX11_whole_42 ⟨Nat.zero_le _, Nat.zero_le _⟩) hS (fun r12 σ11 H locs hw hP hS => ?_)
    obtain ⟨hu_, hw⟩ := hw
    rw [hu_] at hP
    exact hw_iret hx hb hr hlocks (σ6) hw hP hS dX11_whole_45
  have hw := hw.2 c5
  refine lv_iconst (v := -1) hx hb dX11_whole_23 (by decide) ?_
  exact hw_iret hx hb hr hlocks (σ) hw hP hS dX11_whole_24
set_option maxHeartbeats 4000000 in
set_option maxRecDepth 100000 in
theorem kc_X2_bells (l : Launch) (D : va_G) (cy : Nat → ClassId) (N : Nat) (hN : 38 ≤ N) (ad : Nat → Nat) (hJ0 : hJ N ad) (σ : hSt) (sz : Nat) (k0 : Nat) (hk0 : hMe k0) (Q : Int32 → Prop) (hw : wp_X2_bells k0 σ Q) : Met l yX2_bells wsX2_bells ({ frames := 0, cells := 0, slots := 0, locals := 0 } : Room) (va_Pc [.ref (ad k0)] (hB D cy (hC N ad (bX cy ad) σ) sz)) (va_Qi (fun (r : Int32) (u : hSt) => u = σ ∧ Q r) (hE D (fun u : hSt => hC N ad (bX cy ad) u)) (hA N ad sz)) 0 0 (hA N ad sz) := by
  refine Met.ofW (cc := cX2_bells) (maxL := 1) (ret := (some .int)) (by decide) rfl ?_
  intro p e s m args below meth c s₁ B hml hv
  obtain ⟨rfl, hsz, hP, hK, hN1⟩ := hv
  have hx := B.exec
  have hb := B.bytes
  have hr := B.returns
  have hts := atoms_spec (ws := wsX2_bells) B.pre
  have hown : s.vm.findClass RX2 = some m.cls := findClass_of_methodNamed B.named
  have hlocks := B.notSynchronized
  subst hsz
  have hS : va_S (hA N ad s.heap.size) s.heap s.heap [] := va_S.rf
  have hiX2 : ∀ w ∈ wsX20, w ∈ wsX2_bells := fun _ h => List.mem_cons_of_mem _ (List.mem_append_right _ h)
  have hl := lv_entry ([.ref (ad k0)]) (n := 1) (Nat.le_of_ble_eq_true rfl)
  rw [lg_entry_eq]
  generalize (lg_sl ([.ref (ad k0)]) ++ List.replicate (1 - (lg_sl ([.ref (ad k0)])).length) Slot.unset).toArray = ls at hl ⊢
  have hl : lv_has ls 1 [(0, .ref (ad k0))] := hl
  unfold wp_X2_bells at hw
  refine lv_aload_n hx hb dX2_bells_0 rfl (lv_at hl 0 rfl) ?_
  refine hw_get (v := .int (σ k0 2)) hx hb hts hiX2 hown hK hP (hMe_lt hk0 hN) (bX_me hk0 _) rfl 2 (by decide) (List.mem_of_getElem? (i := 1) rfl) rfl rfl dX2_bells_1 ?_
  exact hw_iret hx hb hr hlocks (σ) ⟨rfl, hw⟩ hP hS dX2_bells_4

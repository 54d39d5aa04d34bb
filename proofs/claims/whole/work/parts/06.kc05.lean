set_option maxHeartbeats 4000000 in
set_option maxRecDepth 100000 in
theorem kc_X8_note (l : Launch) (D : va_G) (cy : Nat → ClassId) (N : Nat) (hN : 38 ≤ N) (ad : Nat → Nat) (hJ0 : hJ N ad) (σ : hSt) (sz : Nat) (a1 : Int32) (a2 : Int32) (Q : Int32 → hSt → Prop) (hw : wp_X8_note a1 a2 σ Q) : Met l yX8_note wsX8_note ({ frames := 2, cells := 0, slots := 0, locals := 47 } : Room) (va_Pc [.ref (ad 17), .int a1, .int a2] (hB D cy (hC N ad (bX cy ad) σ) sz)) (va_Qi (fun (r : Int32) (u : hSt) => Q r u) (hE D (fun u : hSt => hC N ad (bX cy ad) u)) (hA N ad sz)) 0 0 (hA N ad sz) := by
  refine Met.ofW (cc := cX8_note) (maxL := 5) (ret := (some .int)) (by decide) rfl ?_
  intro p e s m args below meth c s₁ B hml hv
  obtain ⟨rfl, hsz, hP, hK, hN1⟩ := hv
  have hx := B.exec
  have hb := B.bytes
  have hr := B.returns
  have hts := atoms_spec (ws := wsX8_note) B.pre
  have hown : s.vm.findClass RX8 = some m.cls := findClass_of_methodNamed B.named
  have hlocks := B.notSynchronized
  subst hsz
  have hS : va_S (hA N ad s.heap.size) s.heap s.heap [] := va_S.rf
  have hiX8 : ∀ w ∈ wsX80, w ∈ wsX8_note := fun _ h => List.mem_cons_of_mem _ (List.mem_append_right _ h)
  have hl := lv_entry ([.ref (ad 17), .int a1, .int a2]) (n := 5) (Nat.le_of_ble_eq_true rfl)
  rw [lg_entry_eq]
  generalize (lg_sl ([.ref (ad 17), .int a1, .int a2]) ++ List.replicate (5 - (lg_sl ([.ref (ad 17), .int a1, .int a2])).length) Slot.unset).toArray = ls at hl ⊢
  have hl : lv_has ls 5 [(0, .ref (ad 17)), (1, .int a1), (2, .int a2)] := hl
  unfold wp_X8_note at hw
  refine lv_iload_n hx hb dX8_note_0 rfl (lv_at hl 1 rfl) ?_
  refine lv_aload_n hx hb dX8_note_1 rfl (lv_at hl 0 rfl) ?_
  refine hw_get (v := .int (σ 17 1)) hx hb hts hiX8 hown hK hP (Nat.lt_of_lt_of_le (by decide) hN) (bX_17 _) rfl 1 (by decide) (List.mem_of_getElem? (i := 1) rfl) rfl rfl dX8_note_2 ?_
  refine hw_ki (va_runS (As := [.int a1, .int (σ 17 1)]) (rest := []) ⟨hx, hb, hml, hown, hts⟩ (kc_X6_rank l D cy N ad (bX cy ad) σ _ a1 (σ 17 1) _ hw) (va_cwS 2 hts gX8_note_X6_rank rfl rfl rfl (by decide +kernel) ⟨Nat.le_of_ble_eq_true rfl, Nat.le_of_ble_eq_true rfl⟩) (hw_pre hK hN1 hP) rfl rfl hl.1 rfl (lv_room (Nat.le_of_ble_eq_true rfl)) dX8_note_5 ⟨Nat.zero_le _, Nat.zero_le _⟩) hS (fun r2 σ1 H locs hw hP hS => ?_)
  obtain ⟨hu_, hw⟩ := hw
  rw [hu_] at hP
  refine lv_istore_n (lv' := [(3, .int r2), (0, .ref (ad 17)), (1, .int a1), (2, .int a2)]) hx hb dX8_note_8 rfl hl (by decide) rfl (fun ls hl => ?_)
  refine lv_aload_n hx hb dX8_note_9 rfl (lv_at hl 1 rfl) ?_
  refine hw_get (v := .ref (ad 18)) hx hb hts hiX8 hown hK hP (Nat.lt_of_lt_of_le (by decide) hN) (bX_17 _) rfl 0 (by decide) (List.mem_of_getElem? (i := 2) rfl) rfl rfl dX8_note_10 ?_
  refine lv_iload_n hx hb dX8_note_13 rfl (lv_at hl 0 rfl) ?_
  refine hw_ki (va_runSN (As := [.ref (ad 18), .int r2]) (rest := []) ⟨hx, hb, hml, hown, hts⟩ (kc_X11_cell l D cy N hN ad hJ0 σ _ 18 hAi_18 r2 _ hw) ⟨va_cnB 2 hts gX8_note_X11_cell_n32 rfl rfl rfl (hN1.at 10 rfl) (hts (.initialized RX11) (List.mem_of_getElem? (i := 24) rfl)) (by decide +kernel) ⟨Nat.le_of_ble_eq_true rfl, Nat.le_of_ble_eq_true rfl⟩, hts (.static yX11_cell) (List.mem_of_getElem? (i := 23) rfl), trivial⟩ (hw_pre hK hN1 hP) rfl rfl hl.1 rfl (lv_room (Nat.le_of_ble_eq_true rfl)) dX8_note_14 ⟨Nat.zero_le _, Nat.zero_le _⟩) hS (fun r4 σ3 H locs hw hP hS => ?_)
  obtain ⟨hu_, hw⟩ := hw
  rw [hu_] at hP
  refine lv_istore (lv' := [(4, .int r4), (3, .int r2), (0, .ref (ad 17)), (1, .int a1), (2, .int a2)]) hx hb dX8_note_17 hl (by decide) rfl (fun ls hl => ?_)
  refine lv_iload hx hb dX8_note_19 (lv_at hl 0 rfl) ?_
  refine lv_aload_n hx hb dX8_note_21 rfl (lv_at hl 2 rfl) ?_
  refine hw_get (v := .int (σ 17 2)) hx hb hts hiX8 hown hK hP (Nat.lt_of_lt_of_le (by decide) hN) (bX_17 _) rfl 2 (by decide) (List.mem_of_getElem? (i := 3) rfl) rfl rfl dX8_note_22 ?_
  refine lv_icmp_le (tgt := 38) hx hb dX8_note_25 (by decide) (fun c5 => ?_) (fun c5 => ?_)
  · have hw := hw.1 c5
    refine lv_aload_n hx hb dX8_note_38 rfl (lv_at hl 2 rfl) ?_
    refine hw_get (v := .int (σ 17 2)) hx hb hts hiX8 hown hK hP (Nat.lt_of_lt_of_le (by decide) hN) (bX_17 _) rfl 2 (by decide) (List.mem_of_getElem? (i := 3) rfl) rfl rfl dX8_note_39 ?_
    refine lv_iload_n hx hb dX8_note_42 rfl (lv_at hl 4 rfl) ?_
    refine lv_iadd hx hb dX8_note_43 ?_
    refine lv_iconst (v := 1) hx hb dX8_note_44 (by decide) ?_
    refine lv_iadd hx hb dX8_note_45 ?_
    refine lv_topi (fun x4_6 ex4_6 => ?_)
    have hw := hw x4_6 ex4_6
    refine lv_istore (lv' := [(4, .int x4_6), (3, .int r2), (0, .ref (ad 17)), (1, .int a1), (2, .int a2)]) hx hb dX8_note_46 hl (by decide) rfl (fun ls hl => ?_)
    refine lv_aload_n hx hb dX8_note_48 rfl (lv_at hl 2 rfl) ?_
    refine hw_get (v := .ref (ad 18)) hx hb hts hiX8 hown hK hP (Nat.lt_of_lt_of_le (by decide) hN) (bX_17 _) rfl 0 (by decide) (List.mem_of_getElem? (i := 2) rfl) rfl rfl dX8_note_49 ?_
    refine lv_iload_n hx hb dX8_note_52 rfl (lv_at hl 1 rfl) ?_
    refine lv_iload hx hb dX8_note_53 (lv_at hl 0 rfl) ?_
    refine hw_kv (va_runSN (As := [.ref (ad 18), .int r2, .int x4_6]) (rest := []) ⟨hx, hb, hml, hown, hts⟩ (kc_X11_setCell l D cy N hN ad hJ0 σ _ 18 hAi_18 r2 x4_6 _ hw) ⟨va_cnB 3 hts gX8_note_X11_setCell_n36 rfl rfl rfl (hN1.at 11 rfl) (hts (.initialized RX11) (List.mem_of_getElem? (i := 24) rfl)) (by decide +kernel) ⟨Nat.le_of_ble_eq_true rfl, Nat.le_of_ble_eq_true rfl⟩, hts (.static yX11_setCell) (List.mem_of_getElem? (i := 26) rfl), trivial⟩ (hw_pre hK hN1 hP) rfl rfl hl.1 rfl (lv_room (Nat.le_of_ble_eq_true rfl)) dX8_note_55 ⟨Nat.zero_le _, Nat.zero_le _⟩) hS (fun σ7 H locs hw hP hS => ?_)
    refine lv_aload_n hx hb dX8_note_58 rfl (lv_at hl 2 rfl) ?_
    refine lv_aload_n hx hb dX8_note_59 rfl (lv_at hl 2 rfl) ?_
    refine hw_get (v := .int (σ7 17 3)) hx hb hts hiX8 hown hK hP (Nat.lt_of_lt_of_le (by decide) hN) (bX_17 _) rfl 3 (by decide) (List.mem_of_getElem? (i := 4) rfl) rfl rfl dX8_note_60 ?_
    refine lv_iload hx hb dX8_note_63 (lv_at hl 0 rfl) ?_
    refine va_mmax hx hb (by rw [hml]; exact hl.1.symm) hown (hts (.methodLink RX8 40 Lib.Math.max.name) (List.mem_of_getElem? (i := 5) rfl)) (hts (.static Lib.Math.max.name) (List.mem_of_getElem? (i := 6) rfl)) (hts (.initialized "java/lang/Math") (List.mem_of_getElem? (i := 7) rfl)) (hts (.code Lib.Math.max.name Lib.Math.max.code 2 (some .int)) (List.mem_of_getElem? (i := 8) rfl)) (Nat.le_of_ble_eq_true rfl) (Nat.le_of_ble_eq_true rfl) (Nat.zero_le _) (Nat.zero_le _) dX8_note_65 ?_
    refine hw_put (x := (if (σ7 17 3) < x4_6 then x4_6 else (σ7 17 3))) (j := 3) hx hb hts hiX8 tyX8 tyX8_ok nmX8 hown hK hJ0 hP hS (Nat.lt_of_lt_of_le (by decide) hN) (bX_17 _) rfl (by decide) (List.mem_of_getElem? (i := 4) rfl) rfl rfl rfl rfl (Nat.le_of_ble_eq_true rfl) (by rw [bX_17]; rfl) dX8_note_68 (fun H locs hP hS => ?_)
    refine lv_iconst (v := -1) hx hb dX8_note_71 (by decide) ?_
    exact hw_iret hx hb hr hlocks ((hup σ7 17 3 (if (σ7 17 3) < x4_6 then x4_6 else (σ7 17 3)))) hw hP hS dX8_note_72
  have hw := hw.2 c5
  refine lv_iload hx hb dX8_note_28 (lv_at hl 0 rfl) ?_
  refine lv_aload_n hx hb dX8_note_30 rfl (lv_at hl 2 rfl) ?_
  refine hw_get (v := .int (σ 17 2)) hx hb hts hiX8 hown hK hP (Nat.lt_of_lt_of_le (by decide) hN) (bX_17 _) rfl 2 (by decide) (List.mem_of_getElem? (i := 3) rfl) rfl rfl dX8_note_31 ?_
  refine lv_isub hx hb dX8_note_34 ?_
  refine lv_iconst (v := 1) hx hb dX8_note_35 (by decide) ?_
  refine lv_isub hx hb dX8_note_36 ?_
  exact hw_iret hx hb hr hlocks (σ) hw hP hS dX8_note_37
set_option maxHeartbeats 4000000 in
set_option maxRecDepth 100000 in
theorem kc_X11_noteFalseHeads (l : Launch) (D : va_G) (cy : Nat → ClassId) (N : Nat) (hN : 38 ≤ N) (ad : Nat → Nat) (hJ0 : hJ N ad) (σ : hSt) (sz : Nat) (k1 : Nat) (hk1 : hMe k1) (k2 : Nat) (hk2 : hMe k2) (Q : Int32 → hSt → Prop) (hw : wp_X11_noteFalseHeads k1 k2 σ Q) : Met l yX11_noteFalseHeads wsX11_noteFalseHeads ({ frames := 3, cells := 0, slots := 0, locals := 71 } : Room) (va_Pc [.ref (ad 0), .ref (ad k1), .ref (ad k2)] (hB D cy (hC N ad (bX cy ad) σ) sz)) (va_Qi (fun (r : Int32) (u : hSt) => Q r u) (hE D (fun u : hSt => hC N ad (bX cy ad) u)) (hA N ad sz)) 0 0 (hA N ad sz) := by
  refine Met.ofW (cc := cX11_noteFalseHeads) (maxL := 8) (ret := (some .int)) (by decide) rfl ?_
  intro p e s m args below meth c s₁ B hml hv
  obtain ⟨rfl, hsz, hP, hK, hN1⟩ := hv
  have hx := B.exec
  have hb := B.bytes
  have hr := B.returns
  have hts := atoms_spec (ws := wsX11_noteFalseHeads) B.pre
  have hown : s.vm.findClass RX11 = some m.cls := findClass_of_methodNamed B.named
  have hlocks := B.notSynchronized
  subst hsz
  have hS : va_S (hA N ad s.heap.size) s.heap s.heap [] := va_S.rf
  have hiX11 : ∀ w ∈ wsX110, w ∈ wsX11_noteFalseHeads := fun _ h => List.mem_cons_of_mem _ (List.mem_append_left _ (List.mem_append_left _ (List.mem_append_right _ h)))
  have hl := lv_entry ([.ref (ad 0), .ref (ad k1), .ref (ad k2)]) (n := 8) (Nat.le_of_ble_eq_true rfl)
  rw [lg_entry_eq]
  generalize (lg_sl ([.ref (ad 0), .ref (ad k1), .ref (ad k2)]) ++ List.replicate (8 - (lg_sl ([.ref (ad 0), .ref (ad k1), .ref (ad k2)])).length) Slot.unset).toArray = ls at hl ⊢
  have hl : lv_has ls 8 [(0, .ref (ad 0)), (1, .ref (ad k1)), (2, .ref (ad k2))] := hl
  unfold wp_X11_noteFalseHeads at hw
  refine lv_aload_n hx hb dX11_noteFalseHeads_0 rfl (lv_at hl 0 rfl) ?_
  refine hw_get (v := .ref (ad 17)) hx hb hts hiX11 hown hK hP (Nat.lt_of_lt_of_le (by decide) hN) (bX_0 _) rfl 4 (by decide) (List.mem_of_getElem? (i := 1) rfl) rfl rfl dX11_noteFalseHeads_1 ?_
  refine lv_aload_n hx hb dX11_noteFalseHeads_4 rfl (lv_at hl 0 rfl) ?_
  refine hw_get (v := .int (σ 0 0)) hx hb hts hiX11 hown hK hP (Nat.lt_of_lt_of_le (by decide) hN) (bX_0 _) rfl 0 (by decide) (List.mem_of_getElem? (i := 2) rfl) rfl rfl dX11_noteFalseHeads_5 ?_
  refine hw_kv (va_runV (As := [.int (σ 0 0)]) (rest := []) ⟨hx, hb, hml, hown, hts⟩ (kc_X8_begin l D cy N hN ad hJ0 σ _ (σ 0 0) _ hw) (cwV 1 hts gX11_noteFalseHeads_X8_begin rfl rfl rfl (by decide +kernel) ⟨Nat.le_of_ble_eq_true rfl, Nat.le_of_ble_eq_true rfl⟩) (hw_preV hK hN1 hP (Nat.lt_of_lt_of_le (by decide) hN) (bX_17 _) rfl) rfl rfl hl.1 rfl (lv_room (Nat.le_of_ble_eq_true rfl)) dX11_noteFalseHeads_8 ⟨Nat.zero_le _, Nat.zero_le _⟩) hS (fun σ1 H locs hw hP hS => ?_)
  refine lv_iconst (v := 0) hx hb dX11_noteFalseHeads_11 (by decide) ?_
  refine lv_istore_n (lv' := [(3, .int (0 : Int32)), (0, .ref (ad 0)), (1, .ref (ad k1)), (2, .ref (ad k2))]) hx hb dX11_noteFalseHeads_12 rfl hl (by decide) rfl (fun ls hl => ?_)
  refine lv_aload_n hx hb dX11_noteFalseHeads_13 rfl (lv_at hl 1 rfl) ?_
  refine hw_get (v := .int (σ1 0 0)) hx hb hts hiX11 hown hK hP (Nat.lt_of_lt_of_le (by decide) hN) (bX_0 _) rfl 0 (by decide) (List.mem_of_getElem? (i := 2) rfl) rfl rfl dX11_noteFalseHeads_14 ?_
  refine hw_ki (va_runS (As := [.int (σ1 0 0)]) (rest := []) ⟨hx, hb, hml, hown, hts⟩ (kc_X6_rounds l D cy N ad (bX cy ad) σ1 _ (σ1 0 0) _ hw) (va_cwS 1 hts gX11_noteFalseHeads_X6_rounds rfl rfl rfl (by decide +kernel) ⟨Nat.le_of_ble_eq_true rfl, Nat.le_of_ble_eq_true rfl⟩) (hw_pre hK hN1 hP) rfl rfl hl.1 rfl (lv_room (Nat.le_of_ble_eq_true rfl)) dX11_noteFalseHeads_17 ⟨Nat.zero_le _, Nat.zero_le _⟩) hS (fun r3 σ2 H locs hw hP hS => ?_)
  obtain ⟨hu_, hw⟩ := hw
  rw [hu_] at hP
  refine lv_istore (lv' := [(4, .int r3), (3, .int (0 : Int32)), (0, .ref (ad 0)), (1, .ref (ad k1)), (2, .ref (ad k2))]) hx hb dX11_noteFalseHeads_20 hl (by decide) rfl (fun ls hl => ?_)
  refine lv_iconst (v := 0) hx hb dX11_noteFalseHeads_22 (by decide) ?_
  refine lv_istore (lv' := [(5, .int (0 : Int32)), (4, .int r3), (3, .int (0 : Int32)), (0, .ref (ad 0)), (1, .ref (ad k1)), (2, .ref (ad k2))]) hx hb dX11_noteFalseHeads_23 hl (by decide) rfl (fun ls hl => ?_)
  refine hw (fun (v3_4 : Int32) (v4_5 : Int32) (v5_6 : Int32) (σ7 : hSt) => ∀ (H : Heap) (locs : List Loc) (ls : Array Slot), va_P D vwCl (hC N ad (bX cy ad) σ7) H → va_S (hA N ad s.heap.size) s.heap H locs → lv_has ls 8 [(0, .ref (ad 0)), (1, .ref (ad k1)), (2, .ref (ad k2)), (3, .int v3_4), (4, .int v4_5), (5, .int v5_6)] → W p l e (headSpec wsX11_noteFalseHeads ({ frames := 3, cells := 0, slots := 0, locals := 71 } : Room)).room s m ([Value.ref (ad 0), Value.ref (ad k1), Value.ref (ad k2)] : List Value).toArray below meth c H locs 0 0 (MQ below (va_Qi (fun (r : Int32) (u : hSt) => Q r u) (hE D (fun u : hSt => hC N ad (bX cy ad) u)) (hA N ad s.heap.size)) ([Value.ref (ad 0), Value.ref (ad k1), Value.ref (ad k2)] : List Value).toArray s 0 0 (hA N ad s.heap.size)) (F0 m 25 ls [])) (fun v3_4 v4_5 v5_6 σ7 hw H locs ls hP hS hl => ?_) _ _ _ hP hS (lv_sub hl [3, 4, 5, 2, 1, 0] rfl)
  refine lv_iload hx hb dX11_noteFalseHeads_25 (lv_at hl 5 rfl) ?_
  refine lv_aload_n hx hb dX11_noteFalseHeads_27 rfl (lv_at hl 1 rfl) ?_
  refine hw_ki (va_runV (As := []) (rest := [.int v5_6]) ⟨hx, hb, hml, hown, hts⟩ (kc_X2_size l D cy N hN ad hJ0 σ7 _ k1 hk1 _ hw) (cwV 0 hts gX11_noteFalseHeads_X2_size rfl rfl rfl (by decide +kernel) ⟨Nat.le_of_ble_eq_true rfl, Nat.le_of_ble_eq_true rfl⟩) (hw_preV hK hN1 hP (hMe_lt hk1 hN) (bX_me hk1 _) rfl) rfl rfl hl.1 rfl (lv_room (Nat.le_of_ble_eq_true rfl)) dX11_noteFalseHeads_28 ⟨Nat.zero_le _, Nat.zero_le _⟩) hS (fun r9 σ8 H locs hw hP hS => ?_)
  obtain ⟨hu_, hw⟩ := hw
  rw [hu_] at hP
  refine lv_icmp_ge (tgt := 119) hx hb dX11_noteFalseHeads_31 (by decide) (fun c10 => ?_) (fun c10 => ?_)
  · have hw := hw.1 c10
    refine lv_iload_n hx hb dX11_noteFalseHeads_119 rfl (lv_at hl 3 rfl) ?_
    exact hw_iret hx hb hr hlocks (σ7) hw hP hS dX11_noteFalseHeads_120
  have hw := hw.2 c10
  refine lv_aload_n hx hb dX11_noteFalseHeads_34 rfl (lv_at hl 0 rfl) ?_
  refine hw_get (v := .int (σ7 0 0)) hx hb hts hiX11 hown hK hP (Nat.lt_of_lt_of_le (by decide) hN) (bX_0 _) rfl 0 (by decide) (List.mem_of_getElem? (i := 2) rfl) rfl rfl dX11_noteFalseHeads_35 ?_
  refine hw_ki (va_runS (As := [.int (σ7 0 0)]) (rest := []) ⟨hx, hb, hml, hown, hts⟩ (kc_X6_rounds l D cy N ad (bX cy ad) σ7 _ (σ7 0 0) _ hw) (va_cwS 1 hts gX11_noteFalseHeads_X6_rounds rfl rfl rfl (by decide +kernel) ⟨Nat.le_of_ble_eq_true rfl, Nat.le_of_ble_eq_true rfl⟩) (hw_pre hK hN1 hP) rfl rfl hl.1 rfl (lv_room (Nat.le_of_ble_eq_true rfl)) dX11_noteFalseHeads_38 ⟨Nat.zero_le _, Nat.zero_le _⟩) hS (fun r12 σ11 H locs hw hP hS => ?_)
  obtain ⟨hu_, hw⟩ := hw
  rw [hu_] at hP
  refine lv_istore (lv' := [(6, .int r12), (0, .ref (ad 0)), (1, .ref (ad k1)), (2, .ref (ad k2)), (3, .int v3_4), (4, .int v4_5), (5, .int v5_6)]) hx hb dX11_noteFalseHeads_41 hl (by decide) rfl (fun ls hl => ?_)
  refine lv_iconst (v := 0) hx hb dX11_noteFalseHeads_43 (by decide) ?_
  refine lv_istore (lv' := [(7, .int (0 : Int32)), (6, .int r12), (0, .ref (ad 0)), (1, .ref (ad k1)), (2, .ref (ad k2)), (3, .int v3_4), (4, .int v4_5), (5, .int v5_6)]) hx hb dX11_noteFalseHeads_44 hl (by decide) rfl (fun ls hl => ?_)
  refine hw (fun (v3_13 : Int32) (v6_14 : Int32) (v7_15 : Int32) (σ16 : hSt) => ∀ (H : Heap) (locs : List Loc) (ls : Array Slot), va_P D vwCl (hC N ad (bX cy ad) σ16) H → va_S (hA N ad s.heap.size) s.heap H locs → lv_has ls 8 [(0, .ref (ad 0)), (1, .ref (ad k1)), (2, .ref (ad k2)), (3, .int v3_13), (4, .int v4_5), (5, .int v5_6), (6, .int v6_14), (7, .int v7_15)] → W p l e (headSpec wsX11_noteFalseHeads ({ frames := 3, cells := 0, slots := 0, locals := 71 } : Room)).room s m ([Value.ref (ad 0), Value.ref (ad k1), Value.ref (ad k2)] : List Value).toArray below meth c H locs 0 0 (MQ below (va_Qi (fun (r : Int32) (u : hSt) => Q r u) (hE D (fun u : hSt => hC N ad (bX cy ad) u)) (hA N ad s.heap.size)) ([Value.ref (ad 0), Value.ref (ad k1), Value.ref (ad k2)] : List Value).toArray s 0 0 (hA N ad s.heap.size)) (F0 m 46 ls [])) (fun v3_13 v6_14 v7_15 σ16 hw H locs ls hP hS hl => ?_) _ _ _ hP hS (lv_sub hl [2, 3, 4, 5, 6, 7, 1, 0] rfl)
  refine lv_iload hx hb dX11_noteFalseHeads_46 (lv_at hl 7 rfl) ?_
  refine lv_aload_n hx hb dX11_noteFalseHeads_48 rfl (lv_at hl 2 rfl) ?_
  refine hw_ki (va_runV (As := []) (rest := [.int v7_15]) ⟨hx, hb, hml, hown, hts⟩ (kc_X2_size l D cy N hN ad hJ0 σ16 _ k2 hk2 _ hw) (cwV 0 hts gX11_noteFalseHeads_X2_size rfl rfl rfl (by decide +kernel) ⟨Nat.le_of_ble_eq_true rfl, Nat.le_of_ble_eq_true rfl⟩) (hw_preV hK hN1 hP (hMe_lt hk2 hN) (bX_me hk2 _) rfl) rfl rfl hl.1 rfl (lv_room (Nat.le_of_ble_eq_true rfl)) dX11_noteFalseHeads_49 ⟨Nat.zero_le _, Nat.zero_le _⟩) hS (fun r18 σ17 H locs hw hP hS => ?_)
  obtain ⟨hu_, hw⟩ := hw
  rw [hu_] at hP
  refine lv_icmp_ge (tgt := 100) hx hb dX11_noteFalseHeads_52 (by decide) (fun c19 => ?_) (fun c19 => ?_)
  · have hw := hw.1 c19
    refine lv_iload hx hb dX11_noteFalseHeads_100 (lv_at hl 4 rfl) ?_
    refine lv_aload_n hx hb dX11_noteFalseHeads_102 rfl (lv_at hl 1 rfl) ?_
    refine lv_iload hx hb dX11_noteFalseHeads_103 (lv_at hl 5 rfl) ?_
    refine hw_ki (va_runV (As := [.int v5_6]) (rest := [.int v4_5]) ⟨hx, hb, hml, hown, hts⟩ (kc_X2_changeAt l D cy N hN ad hJ0 σ16 _ k1 hk1 v5_6 _ hw) (cwV 1 hts gX11_noteFalseHeads_X2_changeAt rfl rfl rfl (by decide +kernel) ⟨Nat.le_of_ble_eq_true rfl, Nat.le_of_ble_eq_true rfl⟩) (hw_preV hK hN1 hP (hMe_lt hk1 hN) (bX_me hk1 _) rfl) rfl rfl hl.1 rfl (lv_room (Nat.le_of_ble_eq_true rfl)) dX11_noteFalseHeads_105 ⟨Nat.zero_le _, Nat.zero_le _⟩) hS (fun r21 σ20 H locs hw hP hS => ?_)
    obtain ⟨hu_, hw⟩ := hw
    rw [hu_] at hP
    refine hw_ki (va_runS (As := [.int v4_5, .int r21]) (rest := []) ⟨hx, hb, hml, hown, hts⟩ (kc_X6_changed l D cy N ad (bX cy ad) σ16 _ v4_5 r21 _ hw) (va_cwS 2 hts gX11_noteFalseHeads_X6_changed rfl rfl rfl (by decide +kernel) ⟨Nat.le_of_ble_eq_true rfl, Nat.le_of_ble_eq_true rfl⟩) (hw_pre hK hN1 hP) rfl rfl hl.1 rfl (lv_room (Nat.le_of_ble_eq_true rfl)) dX11_noteFalseHeads_108 ⟨Nat.zero_le _, Nat.zero_le _⟩) hS (fun r23 σ22 H locs hw hP hS => ?_)
    obtain ⟨hu_, hw⟩ := hw
    rw [hu_] at hP
    refine lv_istore (lv' := [(4, .int r23), (0, .ref (ad 0)), (1, .ref (ad k1)), (2, .ref (ad k2)), (3, .int v3_13), (5, .int v5_6), (6, .int v6_14), (7, .int v7_15)]) hx hb dX11_noteFalseHeads_111 hl (by decide) rfl (fun ls hl => ?_)
    obtain ⟨x5_24, ex5_24⟩ : ∃ z : Int32, z = v5_6 + (1 : Int32) := ⟨_, rfl⟩
    have hw := hw x5_24 ex5_24
    refine lv_iinc (v := x5_24) (lv' := [(5, .int x5_24), (4, .int r23), (0, .ref (ad 0)), (1, .ref (ad k1)), (2, .ref (ad k2)), (3, .int v3_13), (6, .int v6_14), (7, .int v7_15)]) hx hb dX11_noteFalseHeads_113 hl (k := 5) rfl (by rw [ex5_24]; rfl) (by decide) rfl (fun ls hl => ?_)
    refine lv_goto (tgt := 25) hx hb dX11_noteFalseHeads_116 (by decide) ?_
    exact hw _ _ _ hP hS (lv_sub hl [2, 3, 4, 5, 1, 0] rfl)
  have hw := hw.2 c19
  refine lv_aload_n hx hb dX11_noteFalseHeads_55 rfl (lv_at hl 0 rfl) ?_
  refine hw_get (v := .ref (ad 17)) hx hb hts hiX11 hown hK hP (Nat.lt_of_lt_of_le (by decide) hN) (bX_0 _) rfl 4 (by decide) (List.mem_of_getElem? (i := 1) rfl) rfl rfl dX11_noteFalseHeads_56 ?_
  refine lv_iload hx hb dX11_noteFalseHeads_59 (lv_at hl 4 rfl) ?_
  refine lv_iload hx hb dX11_noteFalseHeads_61 (lv_at hl 6 rfl) ?_
  refine lv_aload_n hx hb dX11_noteFalseHeads_63 rfl (lv_at hl 0 rfl) ?_
  refine hw_get (v := .int (σ16 0 0)) hx hb hts hiX11 hown hK hP (Nat.lt_of_lt_of_le (by decide) hN) (bX_0 _) rfl 0 (by decide) (List.mem_of_getElem? (i := 2) rfl) rfl rfl dX11_noteFalseHeads_64 ?_
  refine hw_ki (va_runS (As := [.int v4_5, .int v6_14, .int (σ16 0 0)]) (rest := [.ref (ad 17)]) ⟨hx, hb, hml, hown, hts⟩ (kc_X6_headBringing l D cy N ad (bX cy ad) σ16 _ v4_5 v6_14 (σ16 0 0) _ hw) (va_cwS 3 hts gX11_noteFalseHeads_X6_headBringing rfl rfl rfl (by decide +kernel) ⟨Nat.le_of_ble_eq_true rfl, Nat.le_of_ble_eq_true rfl⟩) (hw_pre hK hN1 hP) rfl rfl hl.1 rfl (lv_room (Nat.le_of_ble_eq_true rfl)) dX11_noteFalseHeads_67 ⟨Nat.zero_le _, Nat.zero_le _⟩) hS (fun r26 σ25 H locs hw hP hS => ?_)
  obtain ⟨hu_, hw⟩ := hw
  rw [hu_] at hP
  refine lv_iconst (v := 0) hx hb dX11_noteFalseHeads_70 (by decide) ?_
  refine hw_ki (va_runV (As := [.int r26, .int (0 : Int32)]) (rest := []) ⟨hx, hb, hml, hown, hts⟩ (kc_X8_note l D cy N hN ad hJ0 σ16 _ r26 (0 : Int32) _ hw) (cwV 2 hts gX11_noteFalseHeads_X8_note rfl rfl rfl (by decide +kernel) ⟨Nat.le_of_ble_eq_true rfl, Nat.le_of_ble_eq_true rfl⟩) (hw_preV hK hN1 hP (Nat.lt_of_lt_of_le (by decide) hN) (bX_17 _) rfl) rfl rfl hl.1 rfl (lv_room (Nat.le_of_ble_eq_true rfl)) dX11_noteFalseHeads_71 ⟨Nat.zero_le _, Nat.zero_le _⟩) hS (fun r28 σ27 H locs hw hP hS => ?_)
  refine lv_iconst (v := -1) hx hb dX11_noteFalseHeads_74 (by decide) ?_
  obtain ⟨J81, ehJ81, hw⟩ := hM_x hw
  have hJ81 : ∀ (v3_29 : Int32) (H : Heap) (locs : List Loc) (ls : Array Slot), J81 v3_29 → va_P D vwCl (hC N ad (bX cy ad) σ27) H → va_S (hA N ad s.heap.size) s.heap H locs → lv_has ls 8 [(0, .ref (ad 0)), (1, .ref (ad k1)), (2, .ref (ad k2)), (3, .int v3_29), (4, .int v4_5), (5, .int v5_6), (6, .int v6_14), (7, .int v7_15)] → W p l e (headSpec wsX11_noteFalseHeads ({ frames := 3, cells := 0, slots := 0, locals := 71 } : Room)).room s m ([Value.ref (ad 0), Value.ref (ad k1), Value.ref (ad k2)] : List Value).toArray below meth c H locs 0 0 (MQ below (va_Qi (fun (r : Int32) (u : hSt) => Q r u) (hE D (fun u : hSt => hC N ad (bX cy ad) u)) (hA N ad s.heap.size)) ([Value.ref (ad 0), Value.ref (ad k1), Value.ref (ad k2)] : List Value).toArray s 0 0 (hA N ad s.heap.size)) (F0 m 81 ls []) := by
    intro v3_29 H locs ls hw hP hS hl
    rw [ehJ81] at hw
    refine lv_iload hx hb dX11_noteFalseHeads_81 (lv_at hl 6 rfl) ?_
    refine lv_aload_n hx hb dX11_noteFalseHeads_83 rfl (lv_at hl 2 rfl) ?_
    refine lv_iload hx hb dX11_noteFalseHeads_84 (lv_at hl 7 rfl) ?_
    refine hw_ki (va_runV (As := [.int v7_15]) (rest := [.int v6_14]) ⟨hx, hb, hml, hown, hts⟩ (kc_X2_changeAt l D cy N hN ad hJ0 σ27 _ k2 hk2 v7_15 _ hw) (cwV 1 hts gX11_noteFalseHeads_X2_changeAt rfl rfl rfl (by decide +kernel) ⟨Nat.le_of_ble_eq_true rfl, Nat.le_of_ble_eq_true rfl⟩) (hw_preV hK hN1 hP (hMe_lt hk2 hN) (bX_me hk2 _) rfl) rfl rfl hl.1 rfl (lv_room (Nat.le_of_ble_eq_true rfl)) dX11_noteFalseHeads_86 ⟨Nat.zero_le _, Nat.zero_le _⟩) hS (fun r31 σ30 H locs hw hP hS => ?_)
    obtain ⟨hu_, hw⟩ := hw
    rw [hu_] at hP
    refine hw_ki (va_runS (As := [.int v6_14, .int r31]) (rest := []) ⟨hx, hb, hml, hown, hts⟩ (kc_X6_changed l D cy N ad (bX cy ad) σ27 _ v6_14 r31 _ hw) (va_cwS 2 hts gX11_noteFalseHeads_X6_changed rfl rfl rfl (by decide +kernel) ⟨Nat.le_of_ble_eq_true rfl, Nat.le_of_ble_eq_true rfl⟩) (hw_pre hK hN1 hP) rfl rfl hl.1 rfl (lv_room (Nat.le_of_ble_eq_true rfl)) dX11_noteFalseHeads_89 ⟨Nat.zero_le _, Nat.zero_le _⟩) hS (fun r33 σ32 H locs hw hP hS => ?_)
    obtain ⟨hu_, hw⟩ := hw
    rw [hu_] at hP
    refine lv_istore (lv' := [(6, .int r33), (0, .ref (ad 0)), (1, .ref (ad k1)), (2, .ref (ad k2)), (3, .int v3_29), (4, .int v4_5), (5, .int v5_6), (7, .int v7_15)]) hx hb dX11_noteFalseHeads_92 hl (by decide) rfl (fun ls hl => ?_)
    obtain ⟨x7_34, ex7_34⟩ : ∃ z : Int32, z = v7_15 + (1 : Int32) := ⟨_, rfl⟩
    have hw := hw x7_34 ex7_34
    refine lv_iinc (v := x7_34) (lv' := [(7, .int x7_34), (6, .int r33), (0, .ref (ad 0)), (1, .ref (ad k1)), (2, .ref (ad k2)), (3, .int v3_29), (4, .int v4_5), (5, .int v5_6)]) hx hb dX11_noteFalseHeads_94 hl (k := 7) rfl (by rw [ex7_34]; rfl) (by decide) rfl (fun ls hl => ?_)
    refine lv_goto (tgt := 46) hx hb dX11_noteFalseHeads_97 (by decide) ?_
    exact hw _ _ _ hP hS (lv_sub hl [2, 3, 4, 5, 6, 7, 1, 0] rfl)
  refine lv_icmp_ne (tgt := 81) hx hb dX11_noteFalseHeads_75 (by decide) (fun c35 => ?_) (fun c35 => ?_)
  · have hw := hw.1 c35
    exact hJ81 _ _ _ _ hw hP hS (lv_sub hl [0, 1, 2, 3, 4, 5, 6, 7] rfl)
  have hw := hw.2 c35
  obtain ⟨x3_36, ex3_36⟩ : ∃ z : Int32, z = v3_13 + (1 : Int32) := ⟨_, rfl⟩
  have hw := hw x3_36 ex3_36
  refine lv_iinc (v := x3_36) (lv' := [(3, .int x3_36), (0, .ref (ad 0)), (1, .ref (ad k1)), (2, .ref (ad k2)), (4, .int v4_5), (5, .int v5_6), (6, .int v6_14), (7, .int v7_15)]) hx hb dX11_noteFalseHeads_78 hl (k := 3) rfl (by rw [ex3_36]; rfl) (by decide) rfl (fun ls hl => ?_)
  exact hJ81 _ _ _ _ hw hP hS (lv_sub hl [1, 2, 3, 0, 4, 5, 6, 7] rfl)
set_option maxHeartbeats 4000000 in
set_option maxRecDepth 100000 in
theorem kc_X6_many (l : Launch) (D : va_G) (cy : Nat → ClassId) (N : Nat) (ad : Nat → Nat) (b : hCell) (σ : hSt) (sz : Nat) (a0 : Int32) (Q : Int32 → Prop) (hw : wp_X6_many a0 Q) : Met l yX6_many wsX6_many ({ frames := 0, cells := 0, slots := 0, locals := 0 } : Room) (va_Pc [.int a0] (hB D cy (hC N ad b σ) sz)) (va_Qi (fun (r : Int32) (u : hSt) => u = σ ∧ Q r) (hE D (fun u : hSt => hC N ad b u)) (hA N ad sz)) 0 0 (hA N ad sz) := by
  refine Met.ofW (cc := cX6_many) (maxL := 3) (ret := (some .int)) (by decide) rfl ?_
  intro p e s m args below meth c s₁ B hml hv
  obtain ⟨rfl, hsz, hP, hK, hN1⟩ := hv
  have hx := B.exec
  have hb := B.bytes
  have hr := B.returns
  have hts := atoms_spec (ws := wsX6_many) B.pre
  have hown : s.vm.findClass RX6 = some m.cls := findClass_of_methodNamed B.named
  have hlocks := B.notSynchronized
  subst hsz
  have hS : va_S (hA N ad s.heap.size) s.heap s.heap [] := va_S.rf
  have hl := lv_entry ([.int a0]) (n := 3) (Nat.le_of_ble_eq_true rfl)
  rw [lg_entry_eq]
  generalize (lg_sl ([.int a0]) ++ List.replicate (3 - (lg_sl ([.int a0])).length) Slot.unset).toArray = ls at hl ⊢
  have hl : lv_has ls 3 [(0, .int a0)] := hl
  unfold wp_X6_many at hw
  refine lv_iconst (v := 1) hx hb dX6_many_0 (by decide) ?_
  refine lv_istore_n (lv' := [(1, .int (1 : Int32)), (0, .int a0)]) hx hb dX6_many_1 rfl hl (by decide) rfl (fun ls hl => ?_)
  refine lv_iconst (v := 2) hx hb dX6_many_2 (by decide) ?_
  refine lv_istore_n (lv' := [(2, .int (2 : Int32)), (1, .int (1 : Int32)), (0, .int a0)]) hx hb dX6_many_3 rfl hl (by decide) rfl (fun ls hl => ?_)
  refine hw (fun (v1_1 : Int32) (v2_2 : Int32) => ∀ (H : Heap) (locs : List Loc) (ls : Array Slot), va_P D vwCl (hC N ad b σ) H → va_S (hA N ad s.heap.size) s.heap H locs → lv_has ls 3 [(0, .int a0), (1, .int v1_1), (2, .int v2_2)] → W p l e (headSpec wsX6_many ({ frames := 0, cells := 0, slots := 0, locals := 0 } : Room)).room s m ([Value.int a0] : List Value).toArray below meth c H locs 0 0 (MQ below (va_Qi (fun (r : Int32) (u : hSt) => u = σ ∧ Q r) (hE D (fun u : hSt => hC N ad b u)) (hA N ad s.heap.size)) ([Value.int a0] : List Value).toArray s 0 0 (hA N ad s.heap.size)) (F0 m 4 ls [])) (fun v1_1 v2_2 hw H locs ls hP hS hl => ?_) _ _ _ hP hS (lv_sub hl [2, 1, 0] rfl)
  refine lv_iload_n hx hb dX6_many_4 rfl (lv_at hl 2 rfl) ?_
  refine lv_iload_n hx hb dX6_many_5 rfl (lv_at hl 0 rfl) ?_
  refine lv_icmp_gt (tgt := 19) hx hb dX6_many_6 (by decide) (fun c3 => ?_) (fun c3 => ?_)
  · have hw := hw.1 c3
    refine lv_iload_n hx hb dX6_many_19 rfl (lv_at hl 1 rfl) ?_
    exact hw_iret hx hb hr hlocks (σ) ⟨rfl, hw⟩ hP hS dX6_many_20
  have hw := hw.2 c3
  refine lv_iload_n hx hb dX6_many_9 rfl (lv_at hl 1 rfl) ?_
  refine lv_iload_n hx hb dX6_many_10 rfl (lv_at hl 2 rfl) ?_
  refine lv_imul hx hb dX6_many_11 ?_
  refine lv_topi (fun x1_4 ex1_4 => ?_)
  have hw := hw x1_4 ex1_4
  refine lv_istore_n (lv' := [(1, .int x1_4), (0, .int a0), (2, .int v2_2)]) hx hb dX6_many_12 rfl hl (by decide) rfl (fun ls hl => ?_)
  obtain ⟨x2_5, ex2_5⟩ : ∃ z : Int32, z = v2_2 + (1 : Int32) := ⟨_, rfl⟩
  have hw := hw x2_5 ex2_5
  refine lv_iinc (v := x2_5) (lv' := [(2, .int x2_5), (1, .int x1_4), (0, .int a0)]) hx hb dX6_many_13 hl (k := 2) rfl (by rw [ex2_5]; rfl) (by decide) rfl (fun ls hl => ?_)
  refine lv_goto (tgt := 4) hx hb dX6_many_16 (by decide) ?_
  exact hw _ _ _ hP hS (lv_sub hl [2, 1, 0] rfl)
set_option maxHeartbeats 4000000 in
set_option maxRecDepth 100000 in
theorem kc_X6_unused (l : Launch) (D : va_G) (cy : Nat → ClassId) (N : Nat) (ad : Nat → Nat) (b : hCell) (σ : hSt) (sz : Nat) (a0 : Int32) (a1 : Int32) (a2 : Int32) (Q : Int32 → Prop) (hw : wp_X6_unused a0 a1 a2 Q) : Met l yX6_unused wsX6_unused ({ frames := 0, cells := 0, slots := 0, locals := 0 } : Room) (va_Pc [.int a0, .int a1, .int a2] (hB D cy (hC N ad b σ) sz)) (va_Qi (fun (r : Int32) (u : hSt) => u = σ ∧ Q r) (hE D (fun u : hSt => hC N ad b u)) (hA N ad sz)) 0 0 (hA N ad sz) := by
  refine Met.ofW (cc := cX6_unused) (maxL := 5) (ret := (some .int)) (by decide) rfl ?_
  intro p e s m args below meth c s₁ B hml hv
  obtain ⟨rfl, hsz, hP, hK, hN1⟩ := hv
  have hx := B.exec
  have hb := B.bytes
  have hr := B.returns
  have hts := atoms_spec (ws := wsX6_unused) B.pre
  have hown : s.vm.findClass RX6 = some m.cls := findClass_of_methodNamed B.named
  have hlocks := B.notSynchronized
  subst hsz
  have hS : va_S (hA N ad s.heap.size) s.heap s.heap [] := va_S.rf
  have hl := lv_entry ([.int a0, .int a1, .int a2]) (n := 5) (Nat.le_of_ble_eq_true rfl)
  rw [lg_entry_eq]
  generalize (lg_sl ([.int a0, .int a1, .int a2]) ++ List.replicate (5 - (lg_sl ([.int a0, .int a1, .int a2])).length) Slot.unset).toArray = ls at hl ⊢
  have hl : lv_has ls 5 [(0, .int a0), (1, .int a1), (2, .int a2)] := hl
  unfold wp_X6_unused at hw
  refine lv_iload_n hx hb dX6_unused_0 rfl (lv_at hl 1 rfl) ?_
  refine lv_istore_n (lv' := [(3, .int a1), (0, .int a0), (1, .int a1), (2, .int a2)]) hx hb dX6_unused_1 rfl hl (by decide) rfl (fun ls hl => ?_)
  refine lv_iconst (v := 0) hx hb dX6_unused_2 (by decide) ?_
  refine lv_istore (lv' := [(4, .int (0 : Int32)), (3, .int a1), (0, .int a0), (1, .int a1), (2, .int a2)]) hx hb dX6_unused_3 hl (by decide) rfl (fun ls hl => ?_)
  refine hw (fun (v3_1 : Int32) (v4_2 : Int32) => ∀ (H : Heap) (locs : List Loc) (ls : Array Slot), va_P D vwCl (hC N ad b σ) H → va_S (hA N ad s.heap.size) s.heap H locs → lv_has ls 5 [(0, .int a0), (2, .int a2), (3, .int v3_1), (4, .int v4_2)] → W p l e (headSpec wsX6_unused ({ frames := 0, cells := 0, slots := 0, locals := 0 } : Room)).room s m ([Value.int a0, Value.int a1, Value.int a2] : List Value).toArray below meth c H locs 0 0 (MQ below (va_Qi (fun (r : Int32) (u : hSt) => u = σ ∧ Q r) (hE D (fun u : hSt => hC N ad b u)) (hA N ad s.heap.size)) ([Value.int a0, Value.int a1, Value.int a2] : List Value).toArray s 0 0 (hA N ad s.heap.size)) (F0 m 5 ls [])) (fun v3_1 v4_2 hw H locs ls hP hS hl => ?_) _ _ _ hP hS (lv_sub hl [2, 4, 1, 0] rfl)
  refine lv_iload hx hb dX6_unused_5 (lv_at hl 3 rfl) ?_
  refine lv_iload_n hx hb dX6_unused_7 rfl (lv_at hl 1 rfl) ?_
  refine lv_icmp_ge (tgt := 36) hx hb dX6_unused_8 (by decide) (fun c3 => ?_) (fun c3 => ?_)
  · have hw := hw.1 c3
    refine lv_iconst (v := 0) hx hb dX6_unused_36 (by decide) ?_
    exact hw_iret hx hb hr hlocks (σ) ⟨rfl, hw⟩ hP hS dX6_unused_37
  have hw := hw.2 c3
  refine lv_iload_n hx hb dX6_unused_11 rfl (lv_at hl 0 rfl) ?_
  refine lv_iload hx hb dX6_unused_12 (lv_at hl 3 rfl) ?_
  refine lv_iushr hx hb dX6_unused_14 rfl ?_
  refine lv_iconst (v := 1) hx hb dX6_unused_15 (by decide) ?_
  refine lv_iand hx hb dX6_unused_16 ?_
  refine lv_if_ne (tgt := 30) hx hb dX6_unused_17 (by decide) (fun c4 => ?_) (fun c4 => ?_)
  · have hw := hw.1 c4
    obtain ⟨x4_5, ex4_5⟩ : ∃ z : Int32, z = v4_2 + (1 : Int32) := ⟨_, rfl⟩
    have hw := hw x4_5 ex4_5
    refine lv_iinc (v := x4_5) (lv' := [(4, .int x4_5), (0, .int a0), (2, .int a2), (3, .int v3_1)]) hx hb dX6_unused_30 hl (k := 3) rfl (by rw [ex4_5]; rfl) (by decide) rfl (fun ls hl => ?_)
    refine lv_goto (tgt := 5) hx hb dX6_unused_33 (by decide) ?_
    exact hw _ _ _ hP hS (lv_sub hl [1, 2, 3, 0] rfl)
  have hw := hw.2 c4
  refine lv_iload_n hx hb dX6_unused_20 rfl (lv_at hl 2 rfl) ?_
  refine lv_if_ne (tgt := 27) hx hb dX6_unused_21 (by decide) (fun c6 => ?_) (fun c6 => ?_)
  · have hw := hw.1 c6
    obtain ⟨x3_7, ex3_7⟩ : ∃ z : Int32, z = v3_1 + (-1 : Int32) := ⟨_, rfl⟩
    have hw := hw x3_7 ex3_7
    refine lv_iinc (v := x3_7) (lv' := [(3, .int x3_7), (0, .int a0), (2, .int a2), (4, .int v4_2)]) hx hb dX6_unused_27 hl (k := 2) rfl (by rw [ex3_7]; rfl) (by decide) rfl (fun ls hl => ?_)
    obtain ⟨x4_8, ex4_8⟩ : ∃ z : Int32, z = v4_2 + (1 : Int32) := ⟨_, rfl⟩
    have hw := hw x4_8 ex4_8
    refine lv_iinc (v := x4_8) (lv' := [(4, .int x4_8), (3, .int x3_7), (0, .int a0), (2, .int a2)]) hx hb dX6_unused_30 hl (k := 3) rfl (by rw [ex4_8]; rfl) (by decide) rfl (fun ls hl => ?_)
    refine lv_goto (tgt := 5) hx hb dX6_unused_33 (by decide) ?_
    exact hw _ _ _ hP hS (lv_sub hl [2, 3, 1, 0] rfl)
  have hw := hw.2 c6
  refine lv_iload hx hb dX6_unused_24 (lv_at hl 3 rfl) ?_
  exact hw_iret hx hb hr hlocks (σ) ⟨rfl, hw⟩ hP hS dX6_unused_26
set_option maxHeartbeats 4000000 in
set_option maxRecDepth 100000 in
theorem kc_X6_ofRank (l : Launch) (D : va_G) (cy : Nat → ClassId) (N : Nat) (ad : Nat → Nat) (b : hCell) (σ : hSt) (sz : Nat) (a0 : Int32) (a1 : Int32) (Q : Int32 → Prop) (hw : wp_X6_ofRank a0 a1 Q) : Met l yX6_ofRank wsX6_ofRank ({ frames := 1, cells := 0, slots := 0, locals := 24 } : Room) (va_Pc [.int a0, .int a1] (hB D cy (hC N ad b σ) sz)) (va_Qi (fun (r : Int32) (u : hSt) => u = σ ∧ Q r) (hE D (fun u : hSt => hC N ad b u)) (hA N ad sz)) 0 0 (hA N ad sz) := by
  refine Met.ofW (cc := cX6_ofRank) (maxL := 9) (ret := (some .int)) (by decide) rfl ?_
  intro p e s m args below meth c s₁ B hml hv
  obtain ⟨rfl, hsz, hP, hK, hN1⟩ := hv
  have hx := B.exec
  have hb := B.bytes
  have hr := B.returns
  have hts := atoms_spec (ws := wsX6_ofRank) B.pre
  have hown : s.vm.findClass RX6 = some m.cls := findClass_of_methodNamed B.named
  have hlocks := B.notSynchronized
  subst hsz
  have hS : va_S (hA N ad s.heap.size) s.heap s.heap [] := va_S.rf
  have hl := lv_entry ([.int a0, .int a1]) (n := 9) (Nat.le_of_ble_eq_true rfl)
  rw [lg_entry_eq]
  generalize (lg_sl ([.int a0, .int a1]) ++ List.replicate (9 - (lg_sl ([.int a0, .int a1])).length) Slot.unset).toArray = ls at hl ⊢
  have hl : lv_has ls 9 [(0, .int a0), (1, .int a1)] := hl
  unfold wp_X6_ofRank at hw
  refine lv_iconst (v := 0) hx hb dX6_ofRank_0 (by decide) ?_
  refine lv_istore_n (lv' := [(2, .int (0 : Int32)), (0, .int a0), (1, .int a1)]) hx hb dX6_ofRank_1 rfl hl (by decide) rfl (fun ls hl => ?_)
  refine lv_iconst (v := 0) hx hb dX6_ofRank_2 (by decide) ?_
  refine lv_istore_n (lv' := [(3, .int (0 : Int32)), (2, .int (0 : Int32)), (0, .int a0), (1, .int a1)]) hx hb dX6_ofRank_3 rfl hl (by decide) rfl (fun ls hl => ?_)
  refine lv_iload_n hx hb dX6_ofRank_4 rfl (lv_at hl 2 rfl) ?_
  refine lv_istore (lv' := [(4, .int a0), (3, .int (0 : Int32)), (2, .int (0 : Int32)), (0, .int a0), (1, .int a1)]) hx hb dX6_ofRank_5 hl (by decide) rfl (fun ls hl => ?_)
  refine lv_iconst (v := 0) hx hb dX6_ofRank_7 (by decide) ?_
  refine lv_istore (lv' := [(5, .int (0 : Int32)), (4, .int a0), (3, .int (0 : Int32)), (2, .int (0 : Int32)), (0, .int a0), (1, .int a1)]) hx hb dX6_ofRank_8 hl (by decide) rfl (fun ls hl => ?_)
  refine hw (fun (v2_1 : Int32) (v3_2 : Int32) (v4_3 : Int32) (v5_4 : Int32) => ∀ (H : Heap) (locs : List Loc) (ls : Array Slot), va_P D vwCl (hC N ad b σ) H → va_S (hA N ad s.heap.size) s.heap H locs → lv_has ls 9 [(1, .int a1), (2, .int v2_1), (3, .int v3_2), (4, .int v4_3), (5, .int v5_4)] → W p l e (headSpec wsX6_ofRank ({ frames := 1, cells := 0, slots := 0, locals := 24 } : Room)).room s m ([Value.int a0, Value.int a1] : List Value).toArray below meth c H locs 0 0 (MQ below (va_Qi (fun (r : Int32) (u : hSt) => u = σ ∧ Q r) (hE D (fun u : hSt => hC N ad b u)) (hA N ad s.heap.size)) ([Value.int a0, Value.int a1] : List Value).toArray s 0 0 (hA N ad s.heap.size)) (F0 m 10 ls [])) (fun v2_1 v3_2 v4_3 v5_4 hw H locs ls hP hS hl => ?_) _ _ _ hP hS (lv_sub hl [5, 3, 2, 1, 0] rfl)
  refine lv_iload hx hb dX6_ofRank_10 (lv_at hl 4 rfl) ?_
  refine lv_iload_n hx hb dX6_ofRank_12 rfl (lv_at hl 0 rfl) ?_
  refine lv_icmp_ge (tgt := 85) hx hb dX6_ofRank_13 (by decide) (fun c5 => ?_) (fun c5 => ?_)
  · have hw := hw.1 c5
    refine lv_iload_n hx hb dX6_ofRank_85 rfl (lv_at hl 1 rfl) ?_
    exact hw_iret hx hb hr hlocks (σ) ⟨rfl, hw⟩ hP hS dX6_ofRank_86
  have hw := hw.2 c5
  refine lv_iload_n hx hb dX6_ofRank_16 rfl (lv_at hl 0 rfl) ?_
  refine lv_iconst (v := 1) hx hb dX6_ofRank_17 (by decide) ?_
  refine lv_isub hx hb dX6_ofRank_18 ?_
  refine lv_iload hx hb dX6_ofRank_19 (lv_at hl 4 rfl) ?_
  refine lv_isub hx hb dX6_ofRank_21 ?_
  refine hw_ki (va_runS (As := [.int ((a1 - (1 : Int32)) - v5_4)]) (rest := []) ⟨hx, hb, hml, hown, hts⟩ (kc_X6_many l D cy N ad b σ _ ((a1 - (1 : Int32)) - v5_4) _ hw) (va_cwS 1 hts gX6_ofRank_X6_many rfl rfl rfl (by decide +kernel) ⟨Nat.le_of_ble_eq_true rfl, Nat.le_of_ble_eq_true rfl⟩) (hw_pre hK hN1 hP) rfl rfl hl.1 rfl (lv_room (Nat.le_of_ble_eq_true rfl)) dX6_ofRank_22 ⟨Nat.zero_le _, Nat.zero_le _⟩) hS (fun r7 σ6 H locs hw hP hS => ?_)
  obtain ⟨hu_, hw⟩ := hw
  rw [hu_] at hP
  refine lv_istore (lv' := [(6, .int r7), (1, .int a1), (2, .int v2_1), (3, .int v3_2), (4, .int v4_3), (5, .int v5_4)]) hx hb dX6_ofRank_25 hl (by decide) rfl (fun ls hl => ?_)
  refine lv_iload hx hb dX6_ofRank_27 (lv_at hl 0 rfl) ?_
  obtain ⟨J41, ehJ41, hw⟩ := hM_x hw
  have hJ41 : ∀ (z8 : Int32) (H : Heap) (locs : List Loc) (ls : Array Slot), J41 z8 → va_P D vwCl (hC N ad b σ) H → va_S (hA N ad s.heap.size) s.heap H locs → lv_has ls 9 [(1, .int a1), (2, .int v2_1), (3, .int v3_2), (4, .int v4_3), (5, .int v5_4), (6, .int r7)] → W p l e (headSpec wsX6_ofRank ({ frames := 1, cells := 0, slots := 0, locals := 24 } : Room)).room s m ([Value.int a0, Value.int a1] : List Value).toArray below meth c H locs 0 0 (MQ below (va_Qi (fun (r : Int32) (u : hSt) => u = σ ∧ Q r) (hE D (fun u : hSt => hC N ad b u)) (hA N ad s.heap.size)) ([Value.int a0, Value.int a1] : List Value).toArray s 0 0 (hA N ad s.heap.size)) (F0 m 41 ls [.int z8]) := by
    intro z8 H locs ls hw hP hS hl
    rw [ehJ41] at hw
    refine lv_istore (lv' := [(7, .int z8), (1, .int a1), (2, .int v2_1), (3, .int v3_2), (4, .int v4_3), (5, .int v5_4), (6, .int r7)]) hx hb dX6_ofRank_41 hl (by decide) rfl (fun ls hl => ?_)
    refine lv_iload hx hb dX6_ofRank_43 (lv_at hl 4 rfl) ?_
    refine lv_iload hx hb dX6_ofRank_45 (lv_at hl 0 rfl) ?_
    refine lv_iload hx hb dX6_ofRank_47 (lv_at hl 6 rfl) ?_
    refine lv_imul hx hb dX6_ofRank_49 ?_
    refine lv_isub hx hb dX6_ofRank_50 ?_
    refine lv_topi (fun x4_9 ex4_9 => ?_)
    have hw := hw x4_9 ex4_9
    refine lv_istore (lv' := [(4, .int x4_9), (7, .int z8), (1, .int a1), (2, .int v2_1), (3, .int v3_2), (5, .int v5_4), (6, .int r7)]) hx hb dX6_ofRank_51 hl (by decide) rfl (fun ls hl => ?_)
    refine lv_iload_n hx hb dX6_ofRank_53 rfl (lv_at hl 4 rfl) ?_
    refine lv_iload hx hb dX6_ofRank_54 (lv_at hl 1 rfl) ?_
    refine lv_iload_n hx hb dX6_ofRank_56 rfl (lv_at hl 2 rfl) ?_
    refine hw_ki (va_runS (As := [.int v3_2, .int z8, .int a1]) (rest := []) ⟨hx, hb, hml, hown, hts⟩ (kc_X6_unused l D cy N ad b σ _ v3_2 z8 a1 _ hw) (va_cwS 3 hts gX6_ofRank_X6_unused rfl rfl rfl (by decide +kernel) ⟨Nat.le_of_ble_eq_true rfl, Nat.le_of_ble_eq_true rfl⟩) (hw_pre hK hN1 hP) rfl rfl hl.1 rfl (lv_room (Nat.le_of_ble_eq_true rfl)) dX6_ofRank_57 ⟨Nat.zero_le _, Nat.zero_le _⟩) hS (fun r11 σ10 H locs hw hP hS => ?_)
    obtain ⟨hu_, hw⟩ := hw
    rw [hu_] at hP
    refine lv_istore (lv' := [(8, .int r11), (4, .int x4_9), (7, .int z8), (1, .int a1), (2, .int v2_1), (3, .int v3_2), (5, .int v5_4), (6, .int r7)]) hx hb dX6_ofRank_60 hl (by decide) rfl (fun ls hl => ?_)
    refine lv_iload_n hx hb dX6_ofRank_62 rfl (lv_at hl 4 rfl) ?_
    refine lv_iload hx hb dX6_ofRank_63 (lv_at hl 0 rfl) ?_
    refine lv_iconst (v := 3) hx hb dX6_ofRank_65 (by decide) ?_
    refine lv_iload hx hb dX6_ofRank_66 (lv_at hl 6 rfl) ?_
    refine lv_imul hx hb dX6_ofRank_68 ?_
    refine lv_ishl hx hb dX6_ofRank_69 ?_
    refine lv_ior hx hb dX6_ofRank_70 ?_
    refine lv_topi (fun x2_12 ex2_12 => ?_)
    have hw := hw x2_12 ex2_12
    refine lv_istore_n (lv' := [(2, .int x2_12), (8, .int r11), (4, .int x4_9), (7, .int z8), (1, .int a1), (3, .int v3_2), (5, .int v5_4), (6, .int r7)]) hx hb dX6_ofRank_71 rfl hl (by decide) rfl (fun ls hl => ?_)
    refine lv_iload_n hx hb dX6_ofRank_72 rfl (lv_at hl 5 rfl) ?_
    refine lv_iconst (v := 1) hx hb dX6_ofRank_73 (by decide) ?_
    refine lv_iload hx hb dX6_ofRank_74 (lv_at hl 1 rfl) ?_
    refine lv_ishl hx hb dX6_ofRank_76 ?_
    refine lv_ior hx hb dX6_ofRank_77 ?_
    refine lv_topi (fun x3_13 ex3_13 => ?_)
    have hw := hw x3_13 ex3_13
    refine lv_istore_n (lv' := [(3, .int x3_13), (2, .int x2_12), (8, .int r11), (4, .int x4_9), (7, .int z8), (1, .int a1), (5, .int v5_4), (6, .int r7)]) hx hb dX6_ofRank_78 rfl hl (by decide) rfl (fun ls hl => ?_)
    obtain ⟨x5_14, ex5_14⟩ : ∃ z : Int32, z = v5_4 + (1 : Int32) := ⟨_, rfl⟩
    have hw := hw x5_14 ex5_14
    refine lv_iinc (v := x5_14) (lv' := [(5, .int x5_14), (3, .int x3_13), (2, .int x2_12), (8, .int r11), (4, .int x4_9), (7, .int z8), (1, .int a1), (6, .int r7)]) hx hb dX6_ofRank_79 hl (k := 6) rfl (by rw [ex5_14]; rfl) (by decide) rfl (fun ls hl => ?_)
    refine lv_goto (tgt := 10) hx hb dX6_ofRank_82 (by decide) ?_
    exact hw _ _ _ hP hS (lv_sub hl [6, 2, 1, 4, 0] rfl)
  refine lv_if_le (tgt := 40) hx hb dX6_ofRank_29 (by decide) (fun c15 => ?_) (fun c15 => ?_)
  · have hw := hw.1 c15
    refine lv_iconst (v := 0) hx hb dX6_ofRank_40 (by decide) ?_
    exact hJ41 _ _ _ _ hw hP hS (lv_sub hl [1, 2, 3, 4, 5, 0] rfl)
  have hw := hw.2 c15
  refine lv_iload hx hb dX6_ofRank_32 (lv_at hl 4 rfl) ?_
  refine lv_iload hx hb dX6_ofRank_34 (lv_at hl 0 rfl) ?_
  obtain ⟨hz16, hw⟩ := hw
  refine lv_idiv hx hb dX6_ofRank_36 hz16 ?_
  refine lv_goto (tgt := 41) hx hb dX6_ofRank_37 (by decide) ?_
  exact hJ41 _ _ _ _ hw hP hS (lv_sub hl [1, 2, 3, 4, 5, 0] rfl)
set_option maxHeartbeats 4000000 in
set_option maxRecDepth 100000 in
theorem kc_X8_risingRow (l : Launch) (D : va_G) (cy : Nat → ClassId) (N : Nat) (hN : 38 ≤ N) (ad : Nat → Nat) (hJ0 : hJ N ad) (σ : hSt) (sz : Nat) (a1 : Int32) (Q : Int32 → Prop) (hw : wp_X8_risingRow a1 σ Q) : Met l yX8_risingRow wsX8_risingRow ({ frames := 2, cells := 0, slots := 0, locals := 52 } : Room) (va_Pc [.ref (ad 17), .int a1] (hB D cy (hC N ad (bX cy ad) σ) sz)) (va_Qi (fun (r : Int32) (u : hSt) => u = σ ∧ Q r) (hE D (fun u : hSt => hC N ad (bX cy ad) u)) (hA N ad sz)) 0 0 (hA N ad sz) := by
  refine Met.ofW (cc := cX8_risingRow) (maxL := 5) (ret := (some .int)) (by decide) rfl ?_
  intro p e s m args below meth c s₁ B hml hv
  obtain ⟨rfl, hsz, hP, hK, hN1⟩ := hv
  have hx := B.exec
  have hb := B.bytes
  have hr := B.returns
  have hts := atoms_spec (ws := wsX8_risingRow) B.pre
  have hown : s.vm.findClass RX8 = some m.cls := findClass_of_methodNamed B.named
  have hlocks := B.notSynchronized
  subst hsz
  have hS : va_S (hA N ad s.heap.size) s.heap s.heap [] := va_S.rf
  have hiX8 : ∀ w ∈ wsX80, w ∈ wsX8_risingRow := fun _ h => List.mem_cons_of_mem _ (List.mem_append_right _ h)
  have hl := lv_entry ([.ref (ad 17), .int a1]) (n := 5) (Nat.le_of_ble_eq_true rfl)
  rw [lg_entry_eq]
  generalize (lg_sl ([.ref (ad 17), .int a1]) ++ List.replicate (5 - (lg_sl ([.ref (ad 17), .int a1])).length) Slot.unset).toArray = ls at hl ⊢
  have hl : lv_has ls 5 [(0, .ref (ad 17)), (1, .int a1)] := hl
  unfold wp_X8_risingRow at hw
  refine lv_iload_n hx hb dX8_risingRow_0 rfl (lv_at hl 1 rfl) ?_
  refine lv_istore_n (lv' := [(2, .int a1), (0, .ref (ad 17)), (1, .int a1)]) hx hb dX8_risingRow_1 rfl hl (by decide) rfl (fun ls hl => ?_)
  refine lv_aload_n hx hb dX8_risingRow_2 rfl (lv_at hl 1 rfl) ?_
  refine hw_get (v := .int (σ 17 1)) hx hb hts hiX8 hown hK hP (Nat.lt_of_lt_of_le (by decide) hN) (bX_17 _) rfl 1 (by decide) (List.mem_of_getElem? (i := 1) rfl) rfl rfl dX8_risingRow_3 ?_
  refine hw_ki (va_runS (As := [.int (σ 17 1)]) (rest := []) ⟨hx, hb, hml, hown, hts⟩ (kc_X6_many l D cy N ad (bX cy ad) σ _ (σ 17 1) _ hw) (va_cwS 1 hts gX8_risingRow_X6_many rfl rfl rfl (by decide +kernel) ⟨Nat.le_of_ble_eq_true rfl, Nat.le_of_ble_eq_true rfl⟩) (hw_pre hK hN1 hP) rfl rfl hl.1 rfl (lv_room (Nat.le_of_ble_eq_true rfl)) dX8_risingRow_6 ⟨Nat.zero_le _, Nat.zero_le _⟩) hS (fun r2 σ1 H locs hw hP hS => ?_)
  obtain ⟨hu_, hw⟩ := hw
  rw [hu_] at hP
  refine lv_istore_n (lv' := [(3, .int r2), (2, .int a1), (0, .ref (ad 17)), (1, .int a1)]) hx hb dX8_risingRow_9 rfl hl (by decide) rfl (fun ls hl => ?_)
  refine lv_iconst (v := 0) hx hb dX8_risingRow_10 (by decide) ?_
  refine lv_istore (lv' := [(4, .int (0 : Int32)), (3, .int r2), (2, .int a1), (0, .ref (ad 17)), (1, .int a1)]) hx hb dX8_risingRow_11 hl (by decide) rfl (fun ls hl => ?_)
  refine hw (fun (v2_3 : Int32) (v4_4 : Int32) => ∀ (H : Heap) (locs : List Loc) (ls : Array Slot), va_P D vwCl (hC N ad (bX cy ad) σ) H → va_S (hA N ad s.heap.size) s.heap H locs → lv_has ls 5 [(0, .ref (ad 17)), (2, .int v2_3), (3, .int r2), (4, .int v4_4)] → W p l e (headSpec wsX8_risingRow ({ frames := 2, cells := 0, slots := 0, locals := 52 } : Room)).room s m ([Value.ref (ad 17), Value.int a1] : List Value).toArray below meth c H locs 0 0 (MQ below (va_Qi (fun (r : Int32) (u : hSt) => u = σ ∧ Q r) (hE D (fun u : hSt => hC N ad (bX cy ad) u)) (hA N ad s.heap.size)) ([Value.ref (ad 17), Value.int a1] : List Value).toArray s 0 0 (hA N ad s.heap.size)) (F0 m 13 ls [])) (fun v2_3 v4_4 hw H locs ls hP hS hl => ?_) _ _ _ hP hS (lv_sub hl [3, 2, 1, 0] rfl)
  refine lv_iload hx hb dX8_risingRow_13 (lv_at hl 3 rfl) ?_
  refine lv_iload_n hx hb dX8_risingRow_15 rfl (lv_at hl 2 rfl) ?_
  refine lv_icmp_ge (tgt := 62) hx hb dX8_risingRow_16 (by decide) (fun c5 => ?_) (fun c5 => ?_)
  · have hw := hw.1 c5
    refine lv_iconst (v := -1) hx hb dX8_risingRow_62 (by decide) ?_
    exact hw_iret hx hb hr hlocks (σ) ⟨rfl, hw⟩ hP hS dX8_risingRow_63
  have hw := hw.2 c5
  refine lv_iload_n hx hb dX8_risingRow_19 rfl (lv_at hl 1 rfl) ?_
  refine lv_if_lt (tgt := 62) hx hb dX8_risingRow_20 (by decide) (fun c6 => ?_) (fun c6 => ?_)
  · have hw := hw.1 c6
    refine lv_iconst (v := -1) hx hb dX8_risingRow_62 (by decide) ?_
    exact hw_iret hx hb hr hlocks (σ) ⟨rfl, hw⟩ hP hS dX8_risingRow_63
  have hw := hw.2 c6
  refine lv_aload_n hx hb dX8_risingRow_23 rfl (lv_at hl 0 rfl) ?_
  refine hw_get (v := .ref (ad 18)) hx hb hts hiX8 hown hK hP (Nat.lt_of_lt_of_le (by decide) hN) (bX_17 _) rfl 0 (by decide) (List.mem_of_getElem? (i := 2) rfl) rfl rfl dX8_risingRow_24 ?_
  refine lv_iload hx hb dX8_risingRow_27 (lv_at hl 3 rfl) ?_
  refine hw_ki (va_runSN (As := [.ref (ad 18), .int v4_4]) (rest := []) ⟨hx, hb, hml, hown, hts⟩ (kc_X11_cell l D cy N hN ad hJ0 σ _ 18 hAi_18 v4_4 _ hw) ⟨va_cnB 2 hts gX8_risingRow_X11_cell_n32 rfl rfl rfl (hN1.at 10 rfl) (hts (.initialized RX11) (List.mem_of_getElem? (i := 9) rfl)) (by decide +kernel) ⟨Nat.le_of_ble_eq_true rfl, Nat.le_of_ble_eq_true rfl⟩, hts (.static yX11_cell) (List.mem_of_getElem? (i := 8) rfl), trivial⟩ (hw_pre hK hN1 hP) rfl rfl hl.1 rfl (lv_room (Nat.le_of_ble_eq_true rfl)) dX8_risingRow_29 ⟨Nat.zero_le _, Nat.zero_le _⟩) hS (fun r8 σ7 H locs hw hP hS => ?_)
  obtain ⟨hu_, hw⟩ := hw
  rw [hu_] at hP
  refine lv_aload_n hx hb dX8_risingRow_32 rfl (lv_at hl 0 rfl) ?_
  refine hw_get (v := .int (σ 17 2)) hx hb hts hiX8 hown hK hP (Nat.lt_of_lt_of_le (by decide) hN) (bX_17 _) rfl 2 (by decide) (List.mem_of_getElem? (i := 3) rfl) rfl rfl dX8_risingRow_33 ?_
  refine lv_icmp_le (tgt := 56) hx hb dX8_risingRow_36 (by decide) (fun c9 => ?_) (fun c9 => ?_)
  · have hw := hw.1 c9
    obtain ⟨x4_10, ex4_10⟩ : ∃ z : Int32, z = v4_4 + (1 : Int32) := ⟨_, rfl⟩
    have hw := hw x4_10 ex4_10
    refine lv_iinc (v := x4_10) (lv' := [(4, .int x4_10), (0, .ref (ad 17)), (2, .int v2_3), (3, .int r2)]) hx hb dX8_risingRow_56 hl (k := 3) rfl (by rw [ex4_10]; rfl) (by decide) rfl (fun ls hl => ?_)
    refine lv_goto (tgt := 13) hx hb dX8_risingRow_59 (by decide) ?_
    exact hw _ _ _ hP hS (lv_sub hl [1, 2, 3, 0] rfl)
  have hw := hw.2 c9
  refine lv_iload_n hx hb dX8_risingRow_39 rfl (lv_at hl 1 rfl) ?_
  refine lv_if_ne (tgt := 53) hx hb dX8_risingRow_40 (by decide) (fun c11 => ?_) (fun c11 => ?_)
  · have hw := hw.1 c11
    obtain ⟨x2_12, ex2_12⟩ : ∃ z : Int32, z = v2_3 + (-1 : Int32) := ⟨_, rfl⟩
    have hw := hw x2_12 ex2_12
    refine lv_iinc (v := x2_12) (lv' := [(2, .int x2_12), (0, .ref (ad 17)), (3, .int r2), (4, .int v4_4)]) hx hb dX8_risingRow_53 hl (k := 1) rfl (by rw [ex2_12]; rfl) (by decide) rfl (fun ls hl => ?_)
    obtain ⟨x4_13, ex4_13⟩ : ∃ z : Int32, z = v4_4 + (1 : Int32) := ⟨_, rfl⟩
    have hw := hw x4_13 ex4_13
    refine lv_iinc (v := x4_13) (lv' := [(4, .int x4_13), (2, .int x2_12), (0, .ref (ad 17)), (3, .int r2)]) hx hb dX8_risingRow_56 hl (k := 3) rfl (by rw [ex4_13]; rfl) (by decide) rfl (fun ls hl => ?_)
    refine lv_goto (tgt := 13) hx hb dX8_risingRow_59 (by decide) ?_
    exact hw _ _ _ hP hS (lv_sub hl [2, 1, 3, 0] rfl)
  have hw := hw.2 c11
  refine lv_iload hx hb dX8_risingRow_43 (lv_at hl 3 rfl) ?_
  refine lv_aload_n hx hb dX8_risingRow_45 rfl (lv_at hl 0 rfl) ?_
  refine hw_get (v := .int (σ 17 1)) hx hb hts hiX8 hown hK hP (Nat.lt_of_lt_of_le (by decide) hN) (bX_17 _) rfl 1 (by decide) (List.mem_of_getElem? (i := 1) rfl) rfl rfl dX8_risingRow_46 ?_
  refine hw_ki (va_runS (As := [.int v4_4, .int (σ 17 1)]) (rest := []) ⟨hx, hb, hml, hown, hts⟩ (kc_X6_ofRank l D cy N ad (bX cy ad) σ _ v4_4 (σ 17 1) _ hw) (va_cwS 2 hts gX8_risingRow_X6_ofRank rfl rfl rfl (by decide +kernel) ⟨Nat.le_of_ble_eq_true rfl, Nat.le_of_ble_eq_true rfl⟩) (hw_pre hK hN1 hP) rfl rfl hl.1 rfl (lv_room (Nat.le_of_ble_eq_true rfl)) dX8_risingRow_49 ⟨Nat.zero_le _, Nat.zero_le _⟩) hS (fun r15 σ14 H locs hw hP hS => ?_)
  obtain ⟨hu_, hw⟩ := hw
  rw [hu_] at hP
  exact hw_iret hx hb hr hlocks (σ) ⟨rfl, hw⟩ hP hS dX8_risingRow_52
set_option maxHeartbeats 4000000 in
set_option maxRecDepth 100000 in
theorem kc_X5_rows (l : Launch) (D : va_G) (cy : Nat → ClassId) (N : Nat) (hN : 38 ≤ N) (ad : Nat → Nat) (hJ0 : hJ N ad) (σ : hSt) (sz : Nat)  (Q : Int32 → Prop) (hw : wp_X5_rows  σ Q) : Met l yX5_rows wsX5_rows ({ frames := 0, cells := 0, slots := 0, locals := 0 } : Room) (va_Pc [.ref (ad 31)] (hB D cy (hC N ad (bX cy ad) σ) sz)) (va_Qi (fun (r : Int32) (u : hSt) => u = σ ∧ Q r) (hE D (fun u : hSt => hC N ad (bX cy ad) u)) (hA N ad sz)) 0 0 (hA N ad sz) := by
  refine Met.ofW (cc := cX5_rows) (maxL := 1) (ret := (some .int)) (by decide) rfl ?_
  intro p e s m args below meth c s₁ B hml hv
  obtain ⟨rfl, hsz, hP, hK, hN1⟩ := hv
  have hx := B.exec
  have hb := B.bytes
  have hr := B.returns
  have hts := atoms_spec (ws := wsX5_rows) B.pre
  have hown : s.vm.findClass RX5 = some m.cls := findClass_of_methodNamed B.named
  have hlocks := B.notSynchronized
  subst hsz
  have hS : va_S (hA N ad s.heap.size) s.heap s.heap [] := va_S.rf
  have hiX5 : ∀ w ∈ wsX50, w ∈ wsX5_rows := fun _ h => List.mem_cons_of_mem _ (List.mem_append_right _ h)
  have hl := lv_entry ([.ref (ad 31)]) (n := 1) (Nat.le_of_ble_eq_true rfl)
  rw [lg_entry_eq]
  generalize (lg_sl ([.ref (ad 31)]) ++ List.replicate (1 - (lg_sl ([.ref (ad 31)])).length) Slot.unset).toArray = ls at hl ⊢
  have hl : lv_has ls 1 [(0, .ref (ad 31))] := hl
  unfold wp_X5_rows at hw
  refine lv_aload_n hx hb dX5_rows_0 rfl (lv_at hl 0 rfl) ?_
  refine hw_get (v := .int (σ 31 7)) hx hb hts hiX5 hown hK hP (Nat.lt_of_lt_of_le (by decide) hN) (bX_31 _) rfl 7 (by decide) (List.mem_of_getElem? (i := 1) rfl) rfl rfl dX5_rows_1 ?_
  exact hw_iret hx hb hr hlocks (σ) ⟨rfl, hw⟩ hP hS dX5_rows_4
set_option maxHeartbeats 4000000 in
set_option maxRecDepth 100000 in
theorem kc_X5_letterOf (l : Launch) (D : va_G) (cy : Nat → ClassId) (N : Nat) (hN : 38 ≤ N) (ad : Nat → Nat) (hJ0 : hJ N ad) (σ : hSt) (sz : Nat) (a1 : Int32) (Q : Int32 → Prop) (hw : wp_X5_letterOf a1 σ Q) : Met l yX5_letterOf wsX5_letterOf ({ frames := 1, cells := 0, slots := 0, locals := 21 } : Room) (va_Pc [.ref (ad 31), .int a1] (hB D cy (hC N ad (bX cy ad) σ) sz)) (va_Qi (fun (r : Int32) (u : hSt) => u = σ ∧ Q r) (hE D (fun u : hSt => hC N ad (bX cy ad) u)) (hA N ad sz)) 0 0 (hA N ad sz) := by
  refine Met.ofW (cc := cX5_letterOf) (maxL := 2) (ret := (some .int)) (by decide) rfl ?_
  intro p e s m args below meth c s₁ B hml hv
  obtain ⟨rfl, hsz, hP, hK, hN1⟩ := hv
  have hx := B.exec
  have hb := B.bytes
  have hr := B.returns
  have hts := atoms_spec (ws := wsX5_letterOf) B.pre
  have hown : s.vm.findClass RX5 = some m.cls := findClass_of_methodNamed B.named
  have hlocks := B.notSynchronized
  subst hsz
  have hS : va_S (hA N ad s.heap.size) s.heap s.heap [] := va_S.rf
  have hiX5 : ∀ w ∈ wsX50, w ∈ wsX5_letterOf := fun _ h => List.mem_cons_of_mem _ (List.mem_append_right _ h)
  have hl := lv_entry ([.ref (ad 31), .int a1]) (n := 2) (Nat.le_of_ble_eq_true rfl)
  rw [lg_entry_eq]
  generalize (lg_sl ([.ref (ad 31), .int a1]) ++ List.replicate (2 - (lg_sl ([.ref (ad 31), .int a1])).length) Slot.unset).toArray = ls at hl ⊢
  have hl : lv_has ls 2 [(0, .ref (ad 31)), (1, .int a1)] := hl
  unfold wp_X5_letterOf at hw
  refine lv_aload_n hx hb dX5_letterOf_0 rfl (lv_at hl 0 rfl) ?_
  refine hw_get (v := .ref (ad 32)) hx hb hts hiX5 hown hK hP (Nat.lt_of_lt_of_le (by decide) hN) (bX_31 _) rfl 2 (by decide) (List.mem_of_getElem? (i := 1) rfl) rfl rfl dX5_letterOf_1 ?_
  refine lv_iload_n hx hb dX5_letterOf_4 rfl (lv_at hl 1 rfl) ?_
  refine hw_ki (va_runSN (As := [.ref (ad 32), .int a1]) (rest := []) ⟨hx, hb, hml, hown, hts⟩ (kc_X11_cell l D cy N hN ad hJ0 σ _ 32 hAi_32 a1 _ hw) ⟨va_cnB 2 hts gX5_letterOf_X11_cell_n80 rfl rfl rfl (hN1.at 6 rfl) (hts (.initialized RX11) (List.mem_of_getElem? (i := 3) rfl)) (by decide +kernel) ⟨Nat.le_of_ble_eq_true rfl, Nat.le_of_ble_eq_true rfl⟩, hts (.static yX11_cell) (List.mem_of_getElem? (i := 2) rfl), trivial⟩ (hw_pre hK hN1 hP) rfl rfl hl.1 rfl (lv_room (Nat.le_of_ble_eq_true rfl)) dX5_letterOf_5 ⟨Nat.zero_le _, Nat.zero_le _⟩) hS (fun r2 σ1 H locs hw hP hS => ?_)
  obtain ⟨hu_, hw⟩ := hw
  rw [hu_] at hP
  refine lv_iconst (v := 3) hx hb dX5_letterOf_8 (by decide) ?_
  refine lv_idiv hx hb dX5_letterOf_9 (by decide) ?_
  exact hw_iret hx hb hr hlocks (σ) ⟨rfl, hw⟩ hP hS dX5_letterOf_10
set_option maxHeartbeats 4000000 in
set_option maxRecDepth 100000 in
theorem kc_X5_callOf (l : Launch) (D : va_G) (cy : Nat → ClassId) (N : Nat) (hN : 38 ≤ N) (ad : Nat → Nat) (hJ0 : hJ N ad) (σ : hSt) (sz : Nat) (a1 : Int32) (Q : Int32 → Prop) (hw : wp_X5_callOf a1 σ Q) : Met l yX5_callOf wsX5_callOf ({ frames := 1, cells := 0, slots := 0, locals := 21 } : Room) (va_Pc [.ref (ad 31), .int a1] (hB D cy (hC N ad (bX cy ad) σ) sz)) (va_Qi (fun (r : Int32) (u : hSt) => u = σ ∧ Q r) (hE D (fun u : hSt => hC N ad (bX cy ad) u)) (hA N ad sz)) 0 0 (hA N ad sz) := by
  refine Met.ofW (cc := cX5_callOf) (maxL := 2) (ret := (some .int)) (by decide) rfl ?_
  intro p e s m args below meth c s₁ B hml hv
  obtain ⟨rfl, hsz, hP, hK, hN1⟩ := hv
  have hx := B.exec
  have hb := B.bytes
  have hr := B.returns
  have hts := atoms_spec (ws := wsX5_callOf) B.pre
  have hown : s.vm.findClass RX5 = some m.cls := findClass_of_methodNamed B.named
  have hlocks := B.notSynchronized
  subst hsz
  have hS : va_S (hA N ad s.heap.size) s.heap s.heap [] := va_S.rf
  have hiX5 : ∀ w ∈ wsX50, w ∈ wsX5_callOf := fun _ h => List.mem_cons_of_mem _ (List.mem_append_right _ h)
  have hl := lv_entry ([.ref (ad 31), .int a1]) (n := 2) (Nat.le_of_ble_eq_true rfl)
  rw [lg_entry_eq]
  generalize (lg_sl ([.ref (ad 31), .int a1]) ++ List.replicate (2 - (lg_sl ([.ref (ad 31), .int a1])).length) Slot.unset).toArray = ls at hl ⊢
  have hl : lv_has ls 2 [(0, .ref (ad 31)), (1, .int a1)] := hl
  unfold wp_X5_callOf at hw
  refine lv_aload_n hx hb dX5_callOf_0 rfl (lv_at hl 0 rfl) ?_
  refine hw_get (v := .ref (ad 32)) hx hb hts hiX5 hown hK hP (Nat.lt_of_lt_of_le (by decide) hN) (bX_31 _) rfl 2 (by decide) (List.mem_of_getElem? (i := 1) rfl) rfl rfl dX5_callOf_1 ?_
  refine lv_iload_n hx hb dX5_callOf_4 rfl (lv_at hl 1 rfl) ?_
  refine hw_ki (va_runSN (As := [.ref (ad 32), .int a1]) (rest := []) ⟨hx, hb, hml, hown, hts⟩ (kc_X11_cell l D cy N hN ad hJ0 σ _ 32 hAi_32 a1 _ hw) ⟨va_cnB 2 hts gX5_callOf_X11_cell_n80 rfl rfl rfl (hN1.at 6 rfl) (hts (.initialized RX11) (List.mem_of_getElem? (i := 3) rfl)) (by decide +kernel) ⟨Nat.le_of_ble_eq_true rfl, Nat.le_of_ble_eq_true rfl⟩, hts (.static yX11_cell) (List.mem_of_getElem? (i := 2) rfl), trivial⟩ (hw_pre hK hN1 hP) rfl rfl hl.1 rfl (lv_room (Nat.le_of_ble_eq_true rfl)) dX5_callOf_5 ⟨Nat.zero_le _, Nat.zero_le _⟩) hS (fun r2 σ1 H locs hw hP hS => ?_)
  obtain ⟨hu_, hw⟩ := hw
  rw [hu_] at hP
  refine lv_iconst (v := 3) hx hb dX5_callOf_8 (by decide) ?_
  refine lv_irem hx hb dX5_callOf_9 (by decide) ?_
  exact hw_iret hx hb hr hlocks (σ) ⟨rfl, hw⟩ hP hS dX5_callOf_10
set_option maxHeartbeats 4000000 in
set_option maxRecDepth 100000 in
theorem kc_X5_firstRepeat (l : Launch) (D : va_G) (cy : Nat → ClassId) (N : Nat) (hN : 38 ≤ N) (ad : Nat → Nat) (hJ0 : hJ N ad) (σ : hSt) (sz : Nat) (a1 : Int32) (Q : Int32 → hSt → Prop) (hw : wp_X5_firstRepeat a1 σ Q) : Met l yX5_firstRepeat wsX5_firstRepeat ({ frames := 3, cells := 0, slots := 0, locals := 71 } : Room) (va_Pc [.ref (ad 31), .int a1] (hB D cy (hC N ad (bX cy ad) σ) sz)) (va_Qi (fun (r : Int32) (u : hSt) => Q r u) (hE D (fun u : hSt => hC N ad (bX cy ad) u)) (hA N ad sz)) 0 0 (hA N ad sz) := by
  refine Met.ofW (cc := cX5_firstRepeat) (maxL := 8) (ret := (some .int)) (by decide) rfl ?_
  intro p e s m args below meth c s₁ B hml hv
  obtain ⟨rfl, hsz, hP, hK, hN1⟩ := hv
  have hx := B.exec
  have hb := B.bytes
  have hr := B.returns
  have hts := atoms_spec (ws := wsX5_firstRepeat) B.pre
  have hown : s.vm.findClass RX5 = some m.cls := findClass_of_methodNamed B.named
  have hlocks := B.notSynchronized
  subst hsz
  have hS : va_S (hA N ad s.heap.size) s.heap s.heap [] := va_S.rf
  have hiX5 : ∀ w ∈ wsX50, w ∈ wsX5_firstRepeat := fun _ h => List.mem_cons_of_mem _ (List.mem_append_left _ (List.mem_append_left _ (List.mem_append_left _ (List.mem_append_right _ h))))
  have hl := lv_entry ([.ref (ad 31), .int a1]) (n := 8) (Nat.le_of_ble_eq_true rfl)
  rw [lg_entry_eq]
  generalize (lg_sl ([.ref (ad 31), .int a1]) ++ List.replicate (8 - (lg_sl ([.ref (ad 31), .int a1])).length) Slot.unset).toArray = ls at hl ⊢
  have hl : lv_has ls 8 [(0, .ref (ad 31)), (1, .int a1)] := hl
  unfold wp_X5_firstRepeat at hw
  refine lv_aload_n hx hb dX5_firstRepeat_0 rfl (lv_at hl 0 rfl) ?_
  refine hw_get (v := .ref (ad 17)) hx hb hts hiX5 hown hK hP (Nat.lt_of_lt_of_le (by decide) hN) (bX_31 _) rfl 1 (by decide) (List.mem_of_getElem? (i := 1) rfl) rfl rfl dX5_firstRepeat_1 ?_
  refine lv_aload_n hx hb dX5_firstRepeat_4 rfl (lv_at hl 0 rfl) ?_
  refine hw_get (v := .int (σ 31 5)) hx hb hts hiX5 hown hK hP (Nat.lt_of_lt_of_le (by decide) hN) (bX_31 _) rfl 5 (by decide) (List.mem_of_getElem? (i := 2) rfl) rfl rfl dX5_firstRepeat_5 ?_
  refine hw_kv (va_runV (As := [.int (σ 31 5)]) (rest := []) ⟨hx, hb, hml, hown, hts⟩ (kc_X8_begin l D cy N hN ad hJ0 σ _ (σ 31 5) _ hw) (cwV 1 hts gX5_firstRepeat_X8_begin rfl rfl rfl (by decide +kernel) ⟨Nat.le_of_ble_eq_true rfl, Nat.le_of_ble_eq_true rfl⟩) (hw_preV hK hN1 hP (Nat.lt_of_lt_of_le (by decide) hN) (bX_17 _) rfl) rfl rfl hl.1 rfl (lv_room (Nat.le_of_ble_eq_true rfl)) dX5_firstRepeat_8 ⟨Nat.zero_le _, Nat.zero_le _⟩) hS (fun σ1 H locs hw hP hS => ?_)
  refine lv_aload_n hx hb dX5_firstRepeat_11 rfl (lv_at hl 0 rfl) ?_
  refine hw_get (v := .int (σ1 31 5)) hx hb hts hiX5 hown hK hP (Nat.lt_of_lt_of_le (by decide) hN) (bX_31 _) rfl 5 (by decide) (List.mem_of_getElem? (i := 2) rfl) rfl rfl dX5_firstRepeat_12 ?_
  refine hw_ki (va_runS (As := [.int (σ1 31 5)]) (rest := []) ⟨hx, hb, hml, hown, hts⟩ (kc_X6_rounds l D cy N ad (bX cy ad) σ1 _ (σ1 31 5) _ hw) (va_cwS 1 hts gX5_firstRepeat_X6_rounds rfl rfl rfl (by decide +kernel) ⟨Nat.le_of_ble_eq_true rfl, Nat.le_of_ble_eq_true rfl⟩) (hw_pre hK hN1 hP) rfl rfl hl.1 rfl (lv_room (Nat.le_of_ble_eq_true rfl)) dX5_firstRepeat_15 ⟨Nat.zero_le _, Nat.zero_le _⟩) hS (fun r3 σ2 H locs hw hP hS => ?_)
  obtain ⟨hu_, hw⟩ := hw
  rw [hu_] at hP
  refine lv_istore_n (lv' := [(2, .int r3), (0, .ref (ad 31)), (1, .int a1)]) hx hb dX5_firstRepeat_18 rfl hl (by decide) rfl (fun ls hl => ?_)
  refine lv_iconst (v := 0) hx hb dX5_firstRepeat_19 (by decide) ?_
  refine lv_istore_n (lv' := [(3, .int (0 : Int32)), (2, .int r3), (0, .ref (ad 31)), (1, .int a1)]) hx hb dX5_firstRepeat_20 rfl hl (by decide) rfl (fun ls hl => ?_)
  refine lv_iconst (v := 0) hx hb dX5_firstRepeat_21 (by decide) ?_
  refine lv_istore (lv' := [(4, .int (0 : Int32)), (3, .int (0 : Int32)), (2, .int r3), (0, .ref (ad 31)), (1, .int a1)]) hx hb dX5_firstRepeat_22 hl (by decide) rfl (fun ls hl => ?_)
  refine hw (fun (v2_4 : Int32) (v3_5 : Int32) (v4_6 : Int32) (σ7 : hSt) => ∀ (H : Heap) (locs : List Loc) (ls : Array Slot), va_P D vwCl (hC N ad (bX cy ad) σ7) H → va_S (hA N ad s.heap.size) s.heap H locs → lv_has ls 8 [(0, .ref (ad 31)), (1, .int a1), (2, .int v2_4), (3, .int v3_5), (4, .int v4_6)] → W p l e (headSpec wsX5_firstRepeat ({ frames := 3, cells := 0, slots := 0, locals := 71 } : Room)).room s m ([Value.ref (ad 31), Value.int a1] : List Value).toArray below meth c H locs 0 0 (MQ below (va_Qi (fun (r : Int32) (u : hSt) => Q r u) (hE D (fun u : hSt => hC N ad (bX cy ad) u)) (hA N ad s.heap.size)) ([Value.ref (ad 31), Value.int a1] : List Value).toArray s 0 0 (hA N ad s.heap.size)) (F0 m 24 ls [])) (fun v2_4 v3_5 v4_6 σ7 hw H locs ls hP hS hl => ?_) _ _ _ hP hS (lv_sub hl [3, 4, 2, 1, 0] rfl)
  refine lv_iload hx hb dX5_firstRepeat_24 (lv_at hl 4 rfl) ?_
  refine lv_iload_n hx hb dX5_firstRepeat_26 rfl (lv_at hl 1 rfl) ?_
  refine lv_icmp_ge (tgt := 124) hx hb dX5_firstRepeat_27 (by decide) (fun c8 => ?_) (fun c8 => ?_)
  · have hw := hw.1 c8
    refine lv_iconst (v := -1) hx hb dX5_firstRepeat_124 (by decide) ?_
    exact hw_iret hx hb hr hlocks (σ7) hw hP hS dX5_firstRepeat_125
  have hw := hw.2 c8
  refine lv_iconst (v := 0) hx hb dX5_firstRepeat_30 (by decide) ?_
  refine lv_istore (lv' := [(5, .int (0 : Int32)), (0, .ref (ad 31)), (1, .int a1), (2, .int v2_4), (3, .int v3_5), (4, .int v4_6)]) hx hb dX5_firstRepeat_31 hl (by decide) rfl (fun ls hl => ?_)
  refine hw (fun (v2_9 : Int32) (v3_10 : Int32) (v5_11 : Int32) (σ12 : hSt) => ∀ (H : Heap) (locs : List Loc) (ls : Array Slot), va_P D vwCl (hC N ad (bX cy ad) σ12) H → va_S (hA N ad s.heap.size) s.heap H locs → lv_has ls 8 [(0, .ref (ad 31)), (1, .int a1), (2, .int v2_9), (3, .int v3_10), (4, .int v4_6), (5, .int v5_11)] → W p l e (headSpec wsX5_firstRepeat ({ frames := 3, cells := 0, slots := 0, locals := 71 } : Room)).room s m ([Value.ref (ad 31), Value.int a1] : List Value).toArray below meth c H locs 0 0 (MQ below (va_Qi (fun (r : Int32) (u : hSt) => Q r u) (hE D (fun u : hSt => hC N ad (bX cy ad) u)) (hA N ad s.heap.size)) ([Value.ref (ad 31), Value.int a1] : List Value).toArray s 0 0 (hA N ad s.heap.size)) (F0 m 33 ls [])) (fun v2_9 v3_10 v5_11 σ12 hw H locs ls hP hS hl => ?_) _ _ _ hP hS (lv_sub hl [1, 2, 3, 4, 5, 0] rfl)
  refine lv_iload hx hb dX5_firstRepeat_33 (lv_at hl 5 rfl) ?_
  refine lv_aload_n hx hb dX5_firstRepeat_35 rfl (lv_at hl 0 rfl) ?_
  refine hw_get (v := .int (σ12 31 6)) hx hb hts hiX5 hown hK hP (Nat.lt_of_lt_of_le (by decide) hN) (bX_31 _) rfl 6 (by decide) (List.mem_of_getElem? (i := 3) rfl) rfl rfl dX5_firstRepeat_36 ?_
  refine lv_icmp_ge (tgt := 118) hx hb dX5_firstRepeat_39 (by decide) (fun c13 => ?_) (fun c13 => ?_)
  · have hw := hw.1 c13
    obtain ⟨x4_14, ex4_14⟩ : ∃ z : Int32, z = v4_6 + (1 : Int32) := ⟨_, rfl⟩
    have hw := hw x4_14 ex4_14
    refine lv_iinc (v := x4_14) (lv' := [(4, .int x4_14), (0, .ref (ad 31)), (1, .int a1), (2, .int v2_9), (3, .int v3_10), (5, .int v5_11)]) hx hb dX5_firstRepeat_118 hl (k := 4) rfl (by rw [ex4_14]; rfl) (by decide) rfl (fun ls hl => ?_)
    refine lv_goto (tgt := 24) hx hb dX5_firstRepeat_121 (by decide) ?_
    exact hw _ _ _ hP hS (lv_sub hl [1, 2, 3, 4, 0] rfl)
  have hw := hw.2 c13
  refine lv_aload_n hx hb dX5_firstRepeat_42 rfl (lv_at hl 0 rfl) ?_
  refine hw_get (v := .ref (ad 1)) hx hb hts hiX5 hown hK hP (Nat.lt_of_lt_of_le (by decide) hN) (bX_31 _) rfl 0 (by decide) (List.mem_of_getElem? (i := 4) rfl) rfl rfl dX5_firstRepeat_43 ?_
  refine lv_aload_n hx hb dX5_firstRepeat_46 rfl (lv_at hl 0 rfl) ?_
  refine lv_iload hx hb dX5_firstRepeat_47 (lv_at hl 5 rfl) ?_
  refine hw_ki (va_runV (As := [.int v5_11]) (rest := [.ref (ad 1)]) ⟨hx, hb, hml, hown, hts⟩ (kc_X5_letterOf l D cy N hN ad hJ0 σ12 _ v5_11 _ hw) (cwV 1 hts gX5_firstRepeat_X5_letterOf rfl rfl rfl (by decide +kernel) ⟨Nat.le_of_ble_eq_true rfl, Nat.le_of_ble_eq_true rfl⟩) (hw_preV hK hN1 hP (Nat.lt_of_lt_of_le (by decide) hN) (bX_31 _) rfl) rfl rfl hl.1 rfl (lv_room (Nat.le_of_ble_eq_true rfl)) dX5_firstRepeat_49 ⟨Nat.zero_le _, Nat.zero_le _⟩) hS (fun r16 σ15 H locs hw hP hS => ?_)
  obtain ⟨hu_, hw⟩ := hw
  rw [hu_] at hP
  refine hw_kr (va_runV (As := [.int r16]) (rest := []) ⟨hx, hb, hml, hown, hts⟩ (kc_X0_at l D cy N hN ad hJ0 σ12 _ r16 _ hw) (cwV 1 hts gX5_firstRepeat_X0_at rfl rfl rfl (by decide +kernel) ⟨Nat.le_of_ble_eq_true rfl, Nat.le_of_ble_eq_true rfl⟩) (hw_preV hK hN1 hP (Nat.lt_of_lt_of_le (by decide) hN) (bX_1 _) rfl) rfl rfl hl.1 rfl (lv_room (Nat.le_of_ble_eq_true rfl)) dX5_firstRepeat_52 ⟨Nat.zero_le _, Nat.zero_le _⟩) hS (fun k18 σ17 H locs hw hP hS => ?_)
  obtain ⟨hu_, hk19, hw⟩ := hw
  dsimp only at hu_ hk19 hw
  rw [hu_] at hP
  refine lv_astore (lv' := [(6, .ref (ad k18)), (0, .ref (ad 31)), (1, .int a1), (2, .int v2_9), (3, .int v3_10), (4, .int v4_6), (5, .int v5_11)]) hx hb dX5_firstRepeat_55 hl (by decide) rfl (fun ls hl => ?_)
  refine lv_iconst (v := 0) hx hb dX5_firstRepeat_57 (by decide) ?_
  refine lv_istore (lv' := [(7, .int (0 : Int32)), (6, .ref (ad k18)), (0, .ref (ad 31)), (1, .int a1), (2, .int v2_9), (3, .int v3_10), (4, .int v4_6), (5, .int v5_11)]) hx hb dX5_firstRepeat_58 hl (by decide) rfl (fun ls hl => ?_)
  refine hw (fun (v2_20 : Int32) (v3_21 : Int32) (v7_22 : Int32) (σ23 : hSt) => ∀ (H : Heap) (locs : List Loc) (ls : Array Slot), va_P D vwCl (hC N ad (bX cy ad) σ23) H → va_S (hA N ad s.heap.size) s.heap H locs → lv_has ls 8 [(0, .ref (ad 31)), (1, .int a1), (2, .int v2_20), (3, .int v3_21), (4, .int v4_6), (5, .int v5_11), (6, .ref (ad k18)), (7, .int v7_22)] → W p l e (headSpec wsX5_firstRepeat ({ frames := 3, cells := 0, slots := 0, locals := 71 } : Room)).room s m ([Value.ref (ad 31), Value.int a1] : List Value).toArray below meth c H locs 0 0 (MQ below (va_Qi (fun (r : Int32) (u : hSt) => Q r u) (hE D (fun u : hSt => hC N ad (bX cy ad) u)) (hA N ad s.heap.size)) ([Value.ref (ad 31), Value.int a1] : List Value).toArray s 0 0 (hA N ad s.heap.size)) (F0 m 60 ls [])) (fun v2_20 v3_21 v7_22 σ23 hw H locs ls hP hS hl => ?_) _ _ _ hP hS (lv_sub hl [2, 3, 4, 5, 6, 7, 1, 0] rfl)
  refine lv_iload hx hb dX5_firstRepeat_60 (lv_at hl 7 rfl) ?_
  refine lv_aload hx hb dX5_firstRepeat_62 (lv_at hl 6 rfl) ?_
  refine hw_ki (va_runV (As := []) (rest := [.int v7_22]) ⟨hx, hb, hml, hown, hts⟩ (kc_X2_size l D cy N hN ad hJ0 σ23 _ k18 hk19 _ hw) (cwV 0 hts gX5_firstRepeat_X2_size rfl rfl rfl (by decide +kernel) ⟨Nat.le_of_ble_eq_true rfl, Nat.le_of_ble_eq_true rfl⟩) (hw_preV hK hN1 hP (hMe_lt hk19 hN) (bX_me hk19 _) rfl) rfl rfl hl.1 rfl (lv_room (Nat.le_of_ble_eq_true rfl)) dX5_firstRepeat_64 ⟨Nat.zero_le _, Nat.zero_le _⟩) hS (fun r25 σ24 H locs hw hP hS => ?_)
  obtain ⟨hu_, hw⟩ := hw
  rw [hu_] at hP
  refine lv_icmp_ge (tgt := 112) hx hb dX5_firstRepeat_67 (by decide) (fun c26 => ?_) (fun c26 => ?_)
  · have hw := hw.1 c26
    obtain ⟨x5_27, ex5_27⟩ : ∃ z : Int32, z = v5_11 + (1 : Int32) := ⟨_, rfl⟩
    have hw := hw x5_27 ex5_27
    refine lv_iinc (v := x5_27) (lv' := [(5, .int x5_27), (0, .ref (ad 31)), (1, .int a1), (2, .int v2_20), (3, .int v3_21), (4, .int v4_6), (6, .ref (ad k18)), (7, .int v7_22)]) hx hb dX5_firstRepeat_112 hl (k := 5) rfl (by rw [ex5_27]; rfl) (by decide) rfl (fun ls hl => ?_)
    refine lv_goto (tgt := 33) hx hb dX5_firstRepeat_115 (by decide) ?_
    exact hw _ _ _ hP hS (lv_sub hl [1, 2, 3, 4, 5, 0] rfl)
  have hw := hw.2 c26
  refine lv_aload_n hx hb dX5_firstRepeat_70 rfl (lv_at hl 0 rfl) ?_
  refine hw_get (v := .ref (ad 17)) hx hb hts hiX5 hown hK hP (Nat.lt_of_lt_of_le (by decide) hN) (bX_31 _) rfl 1 (by decide) (List.mem_of_getElem? (i := 1) rfl) rfl rfl dX5_firstRepeat_71 ?_
  refine lv_iload_n hx hb dX5_firstRepeat_74 rfl (lv_at hl 2 rfl) ?_
  refine lv_iload_n hx hb dX5_firstRepeat_75 rfl (lv_at hl 3 rfl) ?_
  refine hw_ki (va_runV (As := [.int v2_20, .int v3_21]) (rest := []) ⟨hx, hb, hml, hown, hts⟩ (kc_X8_note l D cy N hN ad hJ0 σ23 _ v2_20 v3_21 _ hw) (cwV 2 hts gX5_firstRepeat_X8_note rfl rfl rfl (by decide +kernel) ⟨Nat.le_of_ble_eq_true rfl, Nat.le_of_ble_eq_true rfl⟩) (hw_preV hK hN1 hP (Nat.lt_of_lt_of_le (by decide) hN) (bX_17 _) rfl) rfl rfl hl.1 rfl (lv_room (Nat.le_of_ble_eq_true rfl)) dX5_firstRepeat_76 ⟨Nat.zero_le _, Nat.zero_le _⟩) hS (fun r29 σ28 H locs hw hP hS => ?_)
  refine lv_iconst (v := -1) hx hb dX5_firstRepeat_79 (by decide) ?_
  refine lv_icmp_eq (tgt := 85) hx hb dX5_firstRepeat_80 (by decide) (fun c30 => ?_) (fun c30 => ?_)
  · have hw := hw.1 c30
    obtain ⟨x3_31, ex3_31⟩ : ∃ z : Int32, z = v3_21 + (1 : Int32) := ⟨_, rfl⟩
    have hw := hw x3_31 ex3_31
    refine lv_iinc (v := x3_31) (lv' := [(3, .int x3_31), (0, .ref (ad 31)), (1, .int a1), (2, .int v2_20), (4, .int v4_6), (5, .int v5_11), (6, .ref (ad k18)), (7, .int v7_22)]) hx hb dX5_firstRepeat_85 hl (k := 3) rfl (by rw [ex3_31]; rfl) (by decide) rfl (fun ls hl => ?_)
    refine lv_iload_n hx hb dX5_firstRepeat_88 rfl (lv_at hl 3 rfl) ?_
    refine lv_aload hx hb dX5_firstRepeat_89 (lv_at hl 6 rfl) ?_
    refine lv_iload hx hb dX5_firstRepeat_91 (lv_at hl 7 rfl) ?_
    refine lv_aload_n hx hb dX5_firstRepeat_93 rfl (lv_at hl 1 rfl) ?_
    refine lv_iload hx hb dX5_firstRepeat_94 (lv_at hl 5 rfl) ?_
    refine hw_ki (va_runV (As := [.int v5_11]) (rest := [.int v7_22, .ref (ad k18), .int v2_20]) ⟨hx, hb, hml, hown, hts⟩ (kc_X5_callOf l D cy N hN ad hJ0 σ28 _ v5_11 _ hw) (cwV 1 hts gX5_firstRepeat_X5_callOf rfl rfl rfl (by decide +kernel) ⟨Nat.le_of_ble_eq_true rfl, Nat.le_of_ble_eq_true rfl⟩) (hw_preV hK hN1 hP (Nat.lt_of_lt_of_le (by decide) hN) (bX_31 _) rfl) rfl rfl hl.1 rfl (lv_room (Nat.le_of_ble_eq_true rfl)) dX5_firstRepeat_96 ⟨Nat.zero_le _, Nat.zero_le _⟩) hS (fun r33 σ32 H locs hw hP hS => ?_)
    obtain ⟨hu_, hw⟩ := hw
    rw [hu_] at hP
    refine hw_ki (va_runV (As := [.int v7_22, .int r33]) (rest := [.int v2_20]) ⟨hx, hb, hml, hown, hts⟩ (kc_X2_changeCalled l D cy N hN ad hJ0 σ28 _ k18 hk19 v7_22 r33 _ hw) (cwV 2 hts gX5_firstRepeat_X2_changeCalled rfl rfl rfl (by decide +kernel) ⟨Nat.le_of_ble_eq_true rfl, Nat.le_of_ble_eq_true rfl⟩) (hw_preV hK hN1 hP (hMe_lt hk19 hN) (bX_me hk19 _) rfl) rfl rfl hl.1 rfl (lv_room (Nat.le_of_ble_eq_true rfl)) dX5_firstRepeat_99 ⟨Nat.zero_le _, Nat.zero_le _⟩) hS (fun r35 σ34 H locs hw hP hS => ?_)
    obtain ⟨hu_, hw⟩ := hw
    rw [hu_] at hP
    refine hw_ki (va_runS (As := [.int v2_20, .int r35]) (rest := []) ⟨hx, hb, hml, hown, hts⟩ (kc_X6_changed l D cy N ad (bX cy ad) σ28 _ v2_20 r35 _ hw) (va_cwS 2 hts gX5_firstRepeat_X6_changed rfl rfl rfl (by decide +kernel) ⟨Nat.le_of_ble_eq_true rfl, Nat.le_of_ble_eq_true rfl⟩) (hw_pre hK hN1 hP) rfl rfl hl.1 rfl (lv_room (Nat.le_of_ble_eq_true rfl)) dX5_firstRepeat_102 ⟨Nat.zero_le _, Nat.zero_le _⟩) hS (fun r37 σ36 H locs hw hP hS => ?_)
    obtain ⟨hu_, hw⟩ := hw
    rw [hu_] at hP
    refine lv_istore_n (lv' := [(2, .int r37), (3, .int x3_31), (0, .ref (ad 31)), (1, .int a1), (4, .int v4_6), (5, .int v5_11), (6, .ref (ad k18)), (7, .int v7_22)]) hx hb dX5_firstRepeat_105 rfl hl (by decide) rfl (fun ls hl => ?_)
    obtain ⟨x7_38, ex7_38⟩ : ∃ z : Int32, z = v7_22 + (1 : Int32) := ⟨_, rfl⟩
    have hw := hw x7_38 ex7_38
    refine lv_iinc (v := x7_38) (lv' := [(7, .int x7_38), (2, .int r37), (3, .int x3_31), (0, .ref (ad 31)), (1, .int a1), (4, .int v4_6), (5, .int v5_11), (6, .ref (ad k18))]) hx hb dX5_firstRepeat_106 hl (k := 7) rfl (by rw [ex7_38]; rfl) (by decide) rfl (fun ls hl => ?_)
    refine lv_goto (tgt := 60) hx hb dX5_firstRepeat_109 (by decide) ?_
    exact hw _ _ _ hP hS (lv_sub hl [3, 4, 1, 2, 5, 6, 7, 0] rfl)
  have hw := hw.2 c30
  refine lv_iload_n hx hb dX5_firstRepeat_83 rfl (lv_at hl 3 rfl) ?_
  exact hw_iret hx hb hr hlocks (σ28) hw hP hS dX5_firstRepeat_84
set_option maxHeartbeats 4000000 in
set_option maxRecDepth 100000 in
theorem kc_X5_firstOf (l : Launch) (D : va_G) (cy : Nat → ClassId) (N : Nat) (hN : 38 ≤ N) (ad : Nat → Nat) (hJ0 : hJ N ad) (σ : hSt) (sz : Nat) (a1 : Int32) (Q : Int32 → Prop) (hw : wp_X5_firstOf a1 σ Q) : Met l yX5_firstOf wsX5_firstOf ({ frames := 1, cells := 0, slots := 0, locals := 21 } : Room) (va_Pc [.ref (ad 31), .int a1] (hB D cy (hC N ad (bX cy ad) σ) sz)) (va_Qi (fun (r : Int32) (u : hSt) => u = σ ∧ Q r) (hE D (fun u : hSt => hC N ad (bX cy ad) u)) (hA N ad sz)) 0 0 (hA N ad sz) := by
  refine Met.ofW (cc := cX5_firstOf) (maxL := 2) (ret := (some .int)) (by decide) rfl ?_
  intro p e s m args below meth c s₁ B hml hv
  obtain ⟨rfl, hsz, hP, hK, hN1⟩ := hv
  have hx := B.exec
  have hb := B.bytes
  have hr := B.returns
  have hts := atoms_spec (ws := wsX5_firstOf) B.pre
  have hown : s.vm.findClass RX5 = some m.cls := findClass_of_methodNamed B.named
  have hlocks := B.notSynchronized
  subst hsz
  have hS : va_S (hA N ad s.heap.size) s.heap s.heap [] := va_S.rf
  have hiX5 : ∀ w ∈ wsX50, w ∈ wsX5_firstOf := fun _ h => List.mem_cons_of_mem _ (List.mem_append_right _ h)
  have hl := lv_entry ([.ref (ad 31), .int a1]) (n := 2) (Nat.le_of_ble_eq_true rfl)
  rw [lg_entry_eq]
  generalize (lg_sl ([.ref (ad 31), .int a1]) ++ List.replicate (2 - (lg_sl ([.ref (ad 31), .int a1])).length) Slot.unset).toArray = ls at hl ⊢
  have hl : lv_has ls 2 [(0, .ref (ad 31)), (1, .int a1)] := hl
  unfold wp_X5_firstOf at hw
  refine lv_aload_n hx hb dX5_firstOf_0 rfl (lv_at hl 0 rfl) ?_
  refine hw_get (v := .ref (ad 34)) hx hb hts hiX5 hown hK hP (Nat.lt_of_lt_of_le (by decide) hN) (bX_31 _) rfl 4 (by decide) (List.mem_of_getElem? (i := 1) rfl) rfl rfl dX5_firstOf_1 ?_
  refine lv_iload_n hx hb dX5_firstOf_4 rfl (lv_at hl 1 rfl) ?_
  refine hw_ki (va_runSN (As := [.ref (ad 34), .int a1]) (rest := []) ⟨hx, hb, hml, hown, hts⟩ (kc_X11_cell l D cy N hN ad hJ0 σ _ 34 hAi_34 a1 _ hw) ⟨va_cnB 2 hts gX5_firstOf_X11_cell_n80 rfl rfl rfl (hN1.at 6 rfl) (hts (.initialized RX11) (List.mem_of_getElem? (i := 3) rfl)) (by decide +kernel) ⟨Nat.le_of_ble_eq_true rfl, Nat.le_of_ble_eq_true rfl⟩, hts (.static yX11_cell) (List.mem_of_getElem? (i := 2) rfl), trivial⟩ (hw_pre hK hN1 hP) rfl rfl hl.1 rfl (lv_room (Nat.le_of_ble_eq_true rfl)) dX5_firstOf_5 ⟨Nat.zero_le _, Nat.zero_le _⟩) hS (fun r2 σ1 H locs hw hP hS => ?_)
  obtain ⟨hu_, hw⟩ := hw
  rw [hu_] at hP
  exact hw_iret hx hb hr hlocks (σ) ⟨rfl, hw⟩ hP hS dX5_firstOf_8
set_option maxHeartbeats 4000000 in
set_option maxRecDepth 100000 in
theorem kc_X5_headOf (l : Launch) (D : va_G) (cy : Nat → ClassId) (N : Nat) (hN : 38 ≤ N) (ad : Nat → Nat) (hJ0 : hJ N ad) (σ : hSt) (sz : Nat) (a1 : Int32) (Q : Int32 → Prop) (hw : wp_X5_headOf a1 σ Q) : Met l yX5_headOf wsX5_headOf ({ frames := 1, cells := 0, slots := 0, locals := 21 } : Room) (va_Pc [.ref (ad 31), .int a1] (hB D cy (hC N ad (bX cy ad) σ) sz)) (va_Qi (fun (r : Int32) (u : hSt) => u = σ ∧ Q r) (hE D (fun u : hSt => hC N ad (bX cy ad) u)) (hA N ad sz)) 0 0 (hA N ad sz) := by
  refine Met.ofW (cc := cX5_headOf) (maxL := 2) (ret := (some .int)) (by decide) rfl ?_
  intro p e s m args below meth c s₁ B hml hv
  obtain ⟨rfl, hsz, hP, hK, hN1⟩ := hv
  have hx := B.exec
  have hb := B.bytes
  have hr := B.returns
  have hts := atoms_spec (ws := wsX5_headOf) B.pre
  have hown : s.vm.findClass RX5 = some m.cls := findClass_of_methodNamed B.named
  have hlocks := B.notSynchronized
  subst hsz
  have hS : va_S (hA N ad s.heap.size) s.heap s.heap [] := va_S.rf
  have hiX5 : ∀ w ∈ wsX50, w ∈ wsX5_headOf := fun _ h => List.mem_cons_of_mem _ (List.mem_append_right _ h)
  have hl := lv_entry ([.ref (ad 31), .int a1]) (n := 2) (Nat.le_of_ble_eq_true rfl)
  rw [lg_entry_eq]
  generalize (lg_sl ([.ref (ad 31), .int a1]) ++ List.replicate (2 - (lg_sl ([.ref (ad 31), .int a1])).length) Slot.unset).toArray = ls at hl ⊢
  have hl : lv_has ls 2 [(0, .ref (ad 31)), (1, .int a1)] := hl
  unfold wp_X5_headOf at hw
  refine lv_aload_n hx hb dX5_headOf_0 rfl (lv_at hl 0 rfl) ?_
  refine hw_get (v := .ref (ad 33)) hx hb hts hiX5 hown hK hP (Nat.lt_of_lt_of_le (by decide) hN) (bX_31 _) rfl 3 (by decide) (List.mem_of_getElem? (i := 1) rfl) rfl rfl dX5_headOf_1 ?_
  refine lv_iload_n hx hb dX5_headOf_4 rfl (lv_at hl 1 rfl) ?_
  refine hw_ki (va_runSN (As := [.ref (ad 33), .int a1]) (rest := []) ⟨hx, hb, hml, hown, hts⟩ (kc_X11_cell l D cy N hN ad hJ0 σ _ 33 hAi_33 a1 _ hw) ⟨va_cnB 2 hts gX5_headOf_X11_cell_n80 rfl rfl rfl (hN1.at 6 rfl) (hts (.initialized RX11) (List.mem_of_getElem? (i := 3) rfl)) (by decide +kernel) ⟨Nat.le_of_ble_eq_true rfl, Nat.le_of_ble_eq_true rfl⟩, hts (.static yX11_cell) (List.mem_of_getElem? (i := 2) rfl), trivial⟩ (hw_pre hK hN1 hP) rfl rfl hl.1 rfl (lv_room (Nat.le_of_ble_eq_true rfl)) dX5_headOf_5 ⟨Nat.zero_le _, Nat.zero_le _⟩) hS (fun r2 σ1 H locs hw hP hS => ?_)
  obtain ⟨hu_, hw⟩ := hw
  rw [hu_] at hP
  exact hw_iret hx hb hr hlocks (σ) ⟨rfl, hw⟩ hP hS dX5_headOf_8
set_option maxHeartbeats 4000000 in
set_option maxRecDepth 100000 in
theorem kc_X5_rowNumbered (l : Launch) (D : va_G) (cy : Nat → ClassId) (N : Nat) (hN : 38 ≤ N) (ad : Nat → Nat) (hJ0 : hJ N ad) (σ : hSt) (sz : Nat) (a1 : Int32) (Q : Int32 → Prop) (hw : wp_X5_rowNumbered a1 σ Q) : Met l yX5_rowNumbered wsX5_rowNumbered ({ frames := 2, cells := 0, slots := 0, locals := 46 } : Room) (va_Pc [.ref (ad 31), .int a1] (hB D cy (hC N ad (bX cy ad) σ) sz)) (va_Qi (fun (r : Int32) (u : hSt) => u = σ ∧ Q r) (hE D (fun u : hSt => hC N ad (bX cy ad) u)) (hA N ad sz)) 0 0 (hA N ad sz) := by
  refine Met.ofW (cc := cX5_rowNumbered) (maxL := 3) (ret := (some .int)) (by decide) rfl ?_
  intro p e s m args below meth c s₁ B hml hv
  obtain ⟨rfl, hsz, hP, hK, hN1⟩ := hv
  have hx := B.exec
  have hb := B.bytes
  have hr := B.returns
  have hts := atoms_spec (ws := wsX5_rowNumbered) B.pre
  have hown : s.vm.findClass RX5 = some m.cls := findClass_of_methodNamed B.named
  have hlocks := B.notSynchronized
  subst hsz
  have hS : va_S (hA N ad s.heap.size) s.heap s.heap [] := va_S.rf
  have hiX5 : ∀ w ∈ wsX50, w ∈ wsX5_rowNumbered := fun _ h => List.mem_cons_of_mem _ (List.mem_append_left _ (List.mem_append_left _ (List.mem_append_right _ h)))
  have hl := lv_entry ([.ref (ad 31), .int a1]) (n := 3) (Nat.le_of_ble_eq_true rfl)
  rw [lg_entry_eq]
  generalize (lg_sl ([.ref (ad 31), .int a1]) ++ List.replicate (3 - (lg_sl ([.ref (ad 31), .int a1])).length) Slot.unset).toArray = ls at hl ⊢
  have hl : lv_has ls 3 [(0, .ref (ad 31)), (1, .int a1)] := hl
  unfold wp_X5_rowNumbered at hw
  refine lv_aload_n hx hb dX5_rowNumbered_0 rfl (lv_at hl 0 rfl) ?_
  refine hw_get (v := .int (σ 31 6)) hx hb hts hiX5 hown hK hP (Nat.lt_of_lt_of_le (by decide) hN) (bX_31 _) rfl 6 (by decide) (List.mem_of_getElem? (i := 1) rfl) rfl rfl dX5_rowNumbered_1 ?_
  refine lv_iconst (v := 1) hx hb dX5_rowNumbered_4 (by decide) ?_
  refine lv_isub hx hb dX5_rowNumbered_5 ?_
  refine lv_topi (fun x2_1 ex2_1 => ?_)
  have hw := hw x2_1 ex2_1
  refine lv_istore_n (lv' := [(2, .int x2_1), (0, .ref (ad 31)), (1, .int a1)]) hx hb dX5_rowNumbered_6 rfl hl (by decide) rfl (fun ls hl => ?_)
  refine hw (fun (v2_2 : Int32) => ∀ (H : Heap) (locs : List Loc) (ls : Array Slot), va_P D vwCl (hC N ad (bX cy ad) σ) H → va_S (hA N ad s.heap.size) s.heap H locs → lv_has ls 3 [(0, .ref (ad 31)), (1, .int a1), (2, .int v2_2)] → W p l e (headSpec wsX5_rowNumbered ({ frames := 2, cells := 0, slots := 0, locals := 46 } : Room)).room s m ([Value.ref (ad 31), Value.int a1] : List Value).toArray below meth c H locs 0 0 (MQ below (va_Qi (fun (r : Int32) (u : hSt) => u = σ ∧ Q r) (hE D (fun u : hSt => hC N ad (bX cy ad) u)) (hA N ad s.heap.size)) ([Value.ref (ad 31), Value.int a1] : List Value).toArray s 0 0 (hA N ad s.heap.size)) (F0 m 7 ls [])) (fun v2_2 hw H locs ls hP hS hl => ?_) _ _ _ hP hS (lv_sub hl [1, 2, 0] rfl)
  refine lv_iload_n hx hb dX5_rowNumbered_7 rfl (lv_at hl 2 rfl) ?_
  refine lv_if_lt (tgt := 54) hx hb dX5_rowNumbered_8 (by decide) (fun c3 => ?_) (fun c3 => ?_)
  · have hw := hw.1 c3
    refine lv_aload_n hx hb dX5_rowNumbered_54 rfl (lv_at hl 0 rfl) ?_
    refine hw_get (v := .int (σ 31 8)) hx hb hts hiX5 hown hK hP (Nat.lt_of_lt_of_le (by decide) hN) (bX_31 _) rfl 8 (by decide) (List.mem_of_getElem? (i := 3) rfl) rfl rfl dX5_rowNumbered_55 ?_
    exact hw_iret hx hb hr hlocks (σ) ⟨rfl, hw⟩ hP hS dX5_rowNumbered_58
  have hw := hw.2 c3
  refine lv_aload_n hx hb dX5_rowNumbered_11 rfl (lv_at hl 0 rfl) ?_
  refine lv_iload_n hx hb dX5_rowNumbered_12 rfl (lv_at hl 2 rfl) ?_
  refine hw_ki (va_runV (As := [.int v2_2]) (rest := []) ⟨hx, hb, hml, hown, hts⟩ (kc_X5_firstOf l D cy N hN ad hJ0 σ _ v2_2 _ hw) (cwV 1 hts gX5_rowNumbered_X5_firstOf rfl rfl rfl (by decide +kernel) ⟨Nat.le_of_ble_eq_true rfl, Nat.le_of_ble_eq_true rfl⟩) (hw_preV hK hN1 hP (Nat.lt_of_lt_of_le (by decide) hN) (bX_31 _) rfl) rfl rfl hl.1 rfl (lv_room (Nat.le_of_ble_eq_true rfl)) dX5_rowNumbered_13 ⟨Nat.zero_le _, Nat.zero_le _⟩) hS (fun r5 σ4 H locs hw hP hS => ?_)
  obtain ⟨hu_, hw⟩ := hw
  rw [hu_] at hP
  refine lv_iload_n hx hb dX5_rowNumbered_16 rfl (lv_at hl 1 rfl) ?_
  refine lv_icmp_gt (tgt := 48) hx hb dX5_rowNumbered_17 (by decide) (fun c6 => ?_) (fun c6 => ?_)
  · have hw := hw.1 c6
    obtain ⟨x2_7, ex2_7⟩ : ∃ z : Int32, z = v2_2 + (-1 : Int32) := ⟨_, rfl⟩
    have hw := hw x2_7 ex2_7
    refine lv_iinc (v := x2_7) (lv' := [(2, .int x2_7), (0, .ref (ad 31)), (1, .int a1)]) hx hb dX5_rowNumbered_48 hl (k := 2) rfl (by rw [ex2_7]; rfl) (by decide) rfl (fun ls hl => ?_)
    refine lv_goto (tgt := 7) hx hb dX5_rowNumbered_51 (by decide) ?_
    exact hw _ _ _ hP hS (lv_sub hl [1, 2, 0] rfl)
  have hw := hw.2 c6
  refine lv_aload_n hx hb dX5_rowNumbered_20 rfl (lv_at hl 0 rfl) ?_
  refine hw_get (v := .ref (ad 1)) hx hb hts hiX5 hown hK hP (Nat.lt_of_lt_of_le (by decide) hN) (bX_31 _) rfl 0 (by decide) (List.mem_of_getElem? (i := 2) rfl) rfl rfl dX5_rowNumbered_21 ?_
  refine lv_aload_n hx hb dX5_rowNumbered_24 rfl (lv_at hl 0 rfl) ?_
  refine lv_iload_n hx hb dX5_rowNumbered_25 rfl (lv_at hl 2 rfl) ?_
  refine hw_ki (va_runV (As := [.int v2_2]) (rest := [.ref (ad 1)]) ⟨hx, hb, hml, hown, hts⟩ (kc_X5_letterOf l D cy N hN ad hJ0 σ _ v2_2 _ hw) (cwV 1 hts gX5_rowNumbered_X5_letterOf rfl rfl rfl (by decide +kernel) ⟨Nat.le_of_ble_eq_true rfl, Nat.le_of_ble_eq_true rfl⟩) (hw_preV hK hN1 hP (Nat.lt_of_lt_of_le (by decide) hN) (bX_31 _) rfl) rfl rfl hl.1 rfl (lv_room (Nat.le_of_ble_eq_true rfl)) dX5_rowNumbered_26 ⟨Nat.zero_le _, Nat.zero_le _⟩) hS (fun r9 σ8 H locs hw hP hS => ?_)
  obtain ⟨hu_, hw⟩ := hw
  rw [hu_] at hP
  refine hw_kr (va_runV (As := [.int r9]) (rest := []) ⟨hx, hb, hml, hown, hts⟩ (kc_X0_at l D cy N hN ad hJ0 σ _ r9 _ hw) (cwV 1 hts gX5_rowNumbered_X0_at rfl rfl rfl (by decide +kernel) ⟨Nat.le_of_ble_eq_true rfl, Nat.le_of_ble_eq_true rfl⟩) (hw_preV hK hN1 hP (Nat.lt_of_lt_of_le (by decide) hN) (bX_1 _) rfl) rfl rfl hl.1 rfl (lv_room (Nat.le_of_ble_eq_true rfl)) dX5_rowNumbered_29 ⟨Nat.zero_le _, Nat.zero_le _⟩) hS (fun k11 σ10 H locs hw hP hS => ?_)
  obtain ⟨hu_, hk12, hw⟩ := hw
  dsimp only at hu_ hk12 hw
  rw [hu_] at hP
  refine lv_aload_n hx hb dX5_rowNumbered_32 rfl (lv_at hl 0 rfl) ?_
  refine lv_iload_n hx hb dX5_rowNumbered_33 rfl (lv_at hl 2 rfl) ?_
  refine hw_ki (va_runV (As := [.int v2_2]) (rest := [.ref (ad k11)]) ⟨hx, hb, hml, hown, hts⟩ (kc_X5_headOf l D cy N hN ad hJ0 σ _ v2_2 _ hw) (cwV 1 hts gX5_rowNumbered_X5_headOf rfl rfl rfl (by decide +kernel) ⟨Nat.le_of_ble_eq_true rfl, Nat.le_of_ble_eq_true rfl⟩) (hw_preV hK hN1 hP (Nat.lt_of_lt_of_le (by decide) hN) (bX_31 _) rfl) rfl rfl hl.1 rfl (lv_room (Nat.le_of_ble_eq_true rfl)) dX5_rowNumbered_34 ⟨Nat.zero_le _, Nat.zero_le _⟩) hS (fun r14 σ13 H locs hw hP hS => ?_)
  obtain ⟨hu_, hw⟩ := hw
  rw [hu_] at hP
  refine lv_iload_n hx hb dX5_rowNumbered_37 rfl (lv_at hl 1 rfl) ?_
  refine lv_aload_n hx hb dX5_rowNumbered_38 rfl (lv_at hl 0 rfl) ?_
  refine lv_iload_n hx hb dX5_rowNumbered_39 rfl (lv_at hl 2 rfl) ?_
  refine hw_ki (va_runV (As := [.int v2_2]) (rest := [.int a1, .int r14, .ref (ad k11)]) ⟨hx, hb, hml, hown, hts⟩ (kc_X5_firstOf l D cy N hN ad hJ0 σ _ v2_2 _ hw) (cwV 1 hts gX5_rowNumbered_X5_firstOf rfl rfl rfl (by decide +kernel) ⟨Nat.le_of_ble_eq_true rfl, Nat.le_of_ble_eq_true rfl⟩) (hw_preV hK hN1 hP (Nat.lt_of_lt_of_le (by decide) hN) (bX_31 _) rfl) rfl rfl hl.1 rfl (lv_room (Nat.le_of_ble_eq_true rfl)) dX5_rowNumbered_40 ⟨Nat.zero_le _, Nat.zero_le _⟩) hS (fun r16 σ15 H locs hw hP hS => ?_)
  obtain ⟨hu_, hw⟩ := hw
  rw [hu_] at hP
  refine lv_isub hx hb dX5_rowNumbered_43 ?_
  refine hw_ki (va_runV (As := [.int r14, .int (a1 - r16)]) (rest := []) ⟨hx, hb, hml, hown, hts⟩ (kc_X2_rowFrom l D cy N hN ad hJ0 σ _ k11 hk12 r14 (a1 - r16) _ hw) (cwV 2 hts gX5_rowNumbered_X2_rowFrom rfl rfl rfl (by decide +kernel) ⟨Nat.le_of_ble_eq_true rfl, Nat.le_of_ble_eq_true rfl⟩) (hw_preV hK hN1 hP (hMe_lt hk12 hN) (bX_me hk12 _) rfl) rfl rfl hl.1 rfl (lv_room (Nat.le_of_ble_eq_true rfl)) dX5_rowNumbered_44 ⟨Nat.zero_le _, Nat.zero_le _⟩) hS (fun r18 σ17 H locs hw hP hS => ?_)
  obtain ⟨hu_, hw⟩ := hw
  rw [hu_] at hP
  exact hw_iret hx hb hr hlocks (σ) ⟨rfl, hw⟩ hP hS dX5_rowNumbered_47
set_option maxHeartbeats 4000000 in
set_option maxRecDepth 100000 in
theorem kc_X5_prove (l : Launch) (D : va_G) (cy : Nat → ClassId) (N : Nat) (hN : 38 ≤ N) (ad : Nat → Nat) (hJ0 : hJ N ad) (σ : hSt) (sz : Nat)  (Q : hSt → Prop) (hw : wp_X5_prove  σ Q) : Met l yX5_prove wsX5_prove ({ frames := 4, cells := 0, slots := 0, locals := 98 } : Room) (va_Pc [.ref (ad 31)] (hB D cy (hC N ad (bX cy ad) σ) sz)) (va_Qv (fun u : hSt => Q u) (hE D (fun u : hSt => hC N ad (bX cy ad) u)) (hA N ad sz)) 0 0 (hA N ad sz) := by
  refine Met.ofW (cc := cX5_prove) (maxL := 1) (ret := none) (by decide) rfl ?_
  intro p e s m args below meth c s₁ B hml hv
  obtain ⟨rfl, hsz, hP, hK, hN1⟩ := hv
  have hx := B.exec
  have hb := B.bytes
  have hr := B.returns
  have hts := atoms_spec (ws := wsX5_prove) B.pre
  have hown : s.vm.findClass RX5 = some m.cls := findClass_of_methodNamed B.named
  have hlocks := B.notSynchronized
  subst hsz
  have hS : va_S (hA N ad s.heap.size) s.heap s.heap [] := va_S.rf
  have hiX5 : ∀ w ∈ wsX50, w ∈ wsX5_prove := fun _ h => List.mem_cons_of_mem _ (List.mem_append_left _ (List.mem_append_left _ (List.mem_append_left _ (List.mem_append_right _ h))))
  have hl := lv_entry ([.ref (ad 31)]) (n := 1) (Nat.le_of_ble_eq_true rfl)
  rw [lg_entry_eq]
  generalize (lg_sl ([.ref (ad 31)]) ++ List.replicate (1 - (lg_sl ([.ref (ad 31)])).length) Slot.unset).toArray = ls at hl ⊢
  have hl : lv_has ls 1 [(0, .ref (ad 31))] := hl
  unfold wp_X5_prove at hw
  refine lv_aload_n hx hb dX5_prove_0 rfl (lv_at hl 0 rfl) ?_
  refine hw_get (v := .int (σ 31 9)) hx hb hts hiX5 hown hK hP (Nat.lt_of_lt_of_le (by decide) hN) (bX_31 _) rfl 9 (by decide) (List.mem_of_getElem? (i := 1) rfl) rfl rfl dX5_prove_1 ?_
  refine lv_if_eq (tgt := 8) hx hb dX5_prove_4 (by decide) (fun c1 => ?_) (fun c1 => ?_)
  · have hw := hw.1 c1
    refine lv_aload_n hx hb dX5_prove_8 rfl (lv_at hl 0 rfl) ?_
    refine lv_aload_n hx hb dX5_prove_9 rfl (lv_at hl 0 rfl) ?_
    refine lv_iconst (v := 1) hx hb dX5_prove_10 (by decide) ?_
    refine hw_ki (va_runV (As := [.int (1 : Int32)]) (rest := [.ref (ad 31)]) ⟨hx, hb, hml, hown, hts⟩ (kc_X5_firstRepeat l D cy N hN ad hJ0 σ _ (1 : Int32) _ hw) (cwV 1 hts gX5_prove_X5_firstRepeat rfl rfl rfl (by decide +kernel) ⟨Nat.le_of_ble_eq_true rfl, Nat.le_of_ble_eq_true rfl⟩) (hw_preV hK hN1 hP (Nat.lt_of_lt_of_le (by decide) hN) (bX_31 _) rfl) rfl rfl hl.1 rfl (lv_room (Nat.le_of_ble_eq_true rfl)) dX5_prove_11 ⟨Nat.zero_le _, Nat.zero_le _⟩) hS (fun r3 σ2 H locs hw hP hS => ?_)
    refine hw_put (x := r3) (j := 10) hx hb hts hiX5 tyX5 tyX5_ok nmX5 hown hK hJ0 hP hS (Nat.lt_of_lt_of_le (by decide) hN) (bX_31 _) rfl (by decide) (List.mem_of_getElem? (i := 2) rfl) rfl rfl rfl rfl (Nat.le_of_ble_eq_true rfl) (by rw [bX_31]; rfl) dX5_prove_14 (fun H locs hP hS => ?_)
    refine lv_aload_n hx hb dX5_prove_17 rfl (lv_at hl 0 rfl) ?_
    refine lv_aload_n hx hb dX5_prove_18 rfl (lv_at hl 0 rfl) ?_
    refine hw_get (v := .int ((hup σ2 31 10 r3) 31 10)) hx hb hts hiX5 hown hK hP (Nat.lt_of_lt_of_le (by decide) hN) (bX_31 _) rfl 10 (by decide) (List.mem_of_getElem? (i := 2) rfl) rfl rfl dX5_prove_19 ?_
    refine lv_iconst (v := -1) hx hb dX5_prove_22 (by decide) ?_
    refine lv_icmp_ne (tgt := 30) hx hb dX5_prove_23 (by decide) (fun c4 => ?_) (fun c4 => ?_)
    · have hw := hw.1 c4
      refine lv_aload_n hx hb dX5_prove_30 rfl (lv_at hl 0 rfl) ?_
      refine hw_get (v := .ref (ad 17)) hx hb hts hiX5 hown hK hP (Nat.lt_of_lt_of_le (by decide) hN) (bX_31 _) rfl 1 (by decide) (List.mem_of_getElem? (i := 3) rfl) rfl rfl dX5_prove_31 ?_
      refine lv_aload_n hx hb dX5_prove_34 rfl (lv_at hl 0 rfl) ?_
      refine lv_aload_n hx hb dX5_prove_35 rfl (lv_at hl 0 rfl) ?_
      refine hw_get (v := .int ((hup σ2 31 10 r3) 31 10)) hx hb hts hiX5 hown hK hP (Nat.lt_of_lt_of_le (by decide) hN) (bX_31 _) rfl 10 (by decide) (List.mem_of_getElem? (i := 2) rfl) rfl rfl dX5_prove_36 ?_
      refine hw_ki (va_runV (As := [.int ((hup σ2 31 10 r3) 31 10)]) (rest := [.ref (ad 17), .ref (ad 31)]) ⟨hx, hb, hml, hown, hts⟩ (kc_X5_rowNumbered l D cy N hN ad hJ0 (hup σ2 31 10 r3) _ ((hup σ2 31 10 r3) 31 10) _ hw) (cwV 1 hts gX5_prove_X5_rowNumbered rfl rfl rfl (by decide +kernel) ⟨Nat.le_of_ble_eq_true rfl, Nat.le_of_ble_eq_true rfl⟩) (hw_preV hK hN1 hP (Nat.lt_of_lt_of_le (by decide) hN) (bX_31 _) rfl) rfl rfl hl.1 rfl (lv_room (Nat.le_of_ble_eq_true rfl)) dX5_prove_39 ⟨Nat.zero_le _, Nat.zero_le _⟩) hS (fun r6 σ5 H locs hw hP hS => ?_)
      obtain ⟨hu_, hw⟩ := hw
      rw [hu_] at hP
      refine lv_aload_n hx hb dX5_prove_42 rfl (lv_at hl 0 rfl) ?_
      refine hw_get (v := .int ((hup σ2 31 10 r3) 31 10)) hx hb hts hiX5 hown hK hP (Nat.lt_of_lt_of_le (by decide) hN) (bX_31 _) rfl 10 (by decide) (List.mem_of_getElem? (i := 2) rfl) rfl rfl dX5_prove_43 ?_
      refine hw_ki (va_runV (As := [.int r6, .int ((hup σ2 31 10 r3) 31 10)]) (rest := [.ref (ad 31)]) ⟨hx, hb, hml, hown, hts⟩ (kc_X8_note l D cy N hN ad hJ0 (hup σ2 31 10 r3) _ r6 ((hup σ2 31 10 r3) 31 10) _ hw) (cwV 2 hts gX5_prove_X8_note rfl rfl rfl (by decide +kernel) ⟨Nat.le_of_ble_eq_true rfl, Nat.le_of_ble_eq_true rfl⟩) (hw_preV hK hN1 hP (Nat.lt_of_lt_of_le (by decide) hN) (bX_17 _) rfl) rfl rfl hl.1 rfl (lv_room (Nat.le_of_ble_eq_true rfl)) dX5_prove_46 ⟨Nat.zero_le _, Nat.zero_le _⟩) hS (fun r8 σ7 H locs hw hP hS => ?_)
      refine hw_put (x := r8) (j := 11) hx hb hts hiX5 tyX5 tyX5_ok nmX5 hown hK hJ0 hP hS (Nat.lt_of_lt_of_le (by decide) hN) (bX_31 _) rfl (by decide) (List.mem_of_getElem? (i := 4) rfl) rfl rfl rfl rfl (Nat.le_of_ble_eq_true rfl) (by rw [bX_31]; rfl) dX5_prove_49 (fun H locs hP hS => ?_)
      refine lv_aload_n hx hb dX5_prove_52 rfl (lv_at hl 0 rfl) ?_
      refine lv_iconst (v := 1) hx hb dX5_prove_53 (by decide) ?_
      refine hw_put (x := (1 : Int32)) (j := 9) hx hb hts hiX5 tyX5 tyX5_ok nmX5 hown hK hJ0 hP hS (Nat.lt_of_lt_of_le (by decide) hN) (bX_31 _) rfl (by decide) (List.mem_of_getElem? (i := 1) rfl) rfl rfl rfl rfl (Nat.le_of_ble_eq_true rfl) (by rw [bX_31]; rfl) dX5_prove_54 (fun H locs hP hS => ?_)
      exact hw_vret hx hb hr hlocks ((hup (hup σ7 31 11 r8) 31 9 (1 : Int32))) hw hP hS dX5_prove_57
    have hw := hw.2 c4
    refine lv_iconst (v := -1) hx hb dX5_prove_26 (by decide) ?_
    refine lv_goto (tgt := 49) hx hb dX5_prove_27 (by decide) ?_
    refine hw_put (x := (-1 : Int32)) (j := 11) hx hb hts hiX5 tyX5 tyX5_ok nmX5 hown hK hJ0 hP hS (Nat.lt_of_lt_of_le (by decide) hN) (bX_31 _) rfl (by decide) (List.mem_of_getElem? (i := 4) rfl) rfl rfl rfl rfl (Nat.le_of_ble_eq_true rfl) (by rw [bX_31]; rfl) dX5_prove_49 (fun H locs hP hS => ?_)
    refine lv_aload_n hx hb dX5_prove_52 rfl (lv_at hl 0 rfl) ?_
    refine lv_iconst (v := 1) hx hb dX5_prove_53 (by decide) ?_
    refine hw_put (x := (1 : Int32)) (j := 9) hx hb hts hiX5 tyX5 tyX5_ok nmX5 hown hK hJ0 hP hS (Nat.lt_of_lt_of_le (by decide) hN) (bX_31 _) rfl (by decide) (List.mem_of_getElem? (i := 1) rfl) rfl rfl rfl rfl (Nat.le_of_ble_eq_true rfl) (by rw [bX_31]; rfl) dX5_prove_54 (fun H locs hP hS => ?_)
    exact hw_vret hx hb hr hlocks ((hup (hup (hup σ2 31 10 r3) 31 11 (-1 : Int32)) 31 9 (1 : Int32))) hw hP hS dX5_prove_57
  have hw := hw.2 c1
  exact hw_vret hx hb hr hlocks (σ) hw hP hS dX5_prove_7
set_option maxHeartbeats 4000000 in
set_option maxRecDepth 100000 in
theorem kc_X5_repeated (l : Launch) (D : va_G) (cy : Nat → ClassId) (N : Nat) (hN : 38 ≤ N) (ad : Nat → Nat) (hJ0 : hJ N ad) (σ : hSt) (sz : Nat)  (Q : Int32 → hSt → Prop) (hw : wp_X5_repeated  σ Q) : Met l yX5_repeated wsX5_repeated ({ frames := 5, cells := 0, slots := 0, locals := 118 } : Room) (va_Pc [.ref (ad 31)] (hB D cy (hC N ad (bX cy ad) σ) sz)) (va_Qi (fun (r : Int32) (u : hSt) => Q r u) (hE D (fun u : hSt => hC N ad (bX cy ad) u)) (hA N ad sz)) 0 0 (hA N ad sz) := by
  refine Met.ofW (cc := cX5_repeated) (maxL := 1) (ret := (some .int)) (by decide) rfl ?_
  intro p e s m args below meth c s₁ B hml hv
  obtain ⟨rfl, hsz, hP, hK, hN1⟩ := hv
  have hx := B.exec
  have hb := B.bytes
  have hr := B.returns
  have hts := atoms_spec (ws := wsX5_repeated) B.pre
  have hown : s.vm.findClass RX5 = some m.cls := findClass_of_methodNamed B.named
  have hlocks := B.notSynchronized
  subst hsz
  have hS : va_S (hA N ad s.heap.size) s.heap s.heap [] := va_S.rf
  have hiX5 : ∀ w ∈ wsX50, w ∈ wsX5_repeated := fun _ h => List.mem_cons_of_mem _ (List.mem_append_left _ (List.mem_append_left _ (List.mem_append_left _ (List.mem_append_right _ h))))
  have hl := lv_entry ([.ref (ad 31)]) (n := 1) (Nat.le_of_ble_eq_true rfl)
  rw [lg_entry_eq]
  generalize (lg_sl ([.ref (ad 31)]) ++ List.replicate (1 - (lg_sl ([.ref (ad 31)])).length) Slot.unset).toArray = ls at hl ⊢
  have hl : lv_has ls 1 [(0, .ref (ad 31))] := hl
  unfold wp_X5_repeated at hw
  refine lv_aload_n hx hb dX5_repeated_0 rfl (lv_at hl 0 rfl) ?_
  refine hw_kv (va_runV (As := []) (rest := []) ⟨hx, hb, hml, hown, hts⟩ (kc_X5_prove l D cy N hN ad hJ0 σ _  _ hw) (cwV 0 hts gX5_repeated_X5_prove rfl rfl rfl (by decide +kernel) ⟨Nat.le_of_ble_eq_true rfl, Nat.le_of_ble_eq_true rfl⟩) (hw_preV hK hN1 hP (Nat.lt_of_lt_of_le (by decide) hN) (bX_31 _) rfl) rfl rfl hl.1 rfl (lv_room (Nat.le_of_ble_eq_true rfl)) dX5_repeated_1 ⟨Nat.zero_le _, Nat.zero_le _⟩) hS (fun σ1 H locs hw hP hS => ?_)
  refine lv_aload_n hx hb dX5_repeated_4 rfl (lv_at hl 0 rfl) ?_
  refine hw_get (v := .int (σ1 31 10)) hx hb hts hiX5 hown hK hP (Nat.lt_of_lt_of_le (by decide) hN) (bX_31 _) rfl 10 (by decide) (List.mem_of_getElem? (i := 1) rfl) rfl rfl dX5_repeated_5 ?_
  exact hw_iret hx hb hr hlocks (σ1) hw hP hS dX5_repeated_8
set_option maxHeartbeats 4000000 in
set_option maxRecDepth 100000 in
theorem kc_X11_oneIf (l : Launch) (D : va_G) (cy : Nat → ClassId) (N : Nat) (ad : Nat → Nat) (b : hCell) (σ : hSt) (sz : Nat) (a0 : Int32) (Q : Int32 → Prop) (hw : wp_X11_oneIf a0 Q) : Met l yX11_oneIf wsX11_oneIf ({ frames := 0, cells := 0, slots := 0, locals := 0 } : Room) (va_Pc [.int a0] (hB D cy (hC N ad b σ) sz)) (va_Qi (fun (r : Int32) (u : hSt) => u = σ ∧ Q r) (hE D (fun u : hSt => hC N ad b u)) (hA N ad sz)) 0 0 (hA N ad sz) := by
  refine Met.ofW (cc := cX11_oneIf) (maxL := 1) (ret := (some .int)) (by decide) rfl ?_
  intro p e s m args below meth c s₁ B hml hv
  obtain ⟨rfl, hsz, hP, hK, hN1⟩ := hv
  have hx := B.exec
  have hb := B.bytes
  have hr := B.returns
  have hts := atoms_spec (ws := wsX11_oneIf) B.pre
  have hown : s.vm.findClass RX11 = some m.cls := findClass_of_methodNamed B.named
  have hlocks := B.notSynchronized
  subst hsz
  have hS : va_S (hA N ad s.heap.size) s.heap s.heap [] := va_S.rf
  have hl := lv_entry ([.int a0]) (n := 1) (Nat.le_of_ble_eq_true rfl)
  rw [lg_entry_eq]
  generalize (lg_sl ([.int a0]) ++ List.replicate (1 - (lg_sl ([.int a0])).length) Slot.unset).toArray = ls at hl ⊢
  have hl : lv_has ls 1 [(0, .int a0)] := hl
  unfold wp_X11_oneIf at hw
  refine lv_iload_n hx hb dX11_oneIf_0 rfl (lv_at hl 0 rfl) ?_
  refine lv_if_eq (tgt := 8) hx hb dX11_oneIf_1 (by decide) (fun c1 => ?_) (fun c1 => ?_)
  · have hw := hw.1 c1
    refine lv_iconst (v := 0) hx hb dX11_oneIf_8 (by decide) ?_
    exact hw_iret hx hb hr hlocks (σ) ⟨rfl, hw⟩ hP hS dX11_oneIf_9
  have hw := hw.2 c1
  refine lv_iconst (v := 1) hx hb dX11_oneIf_4 (by decide) ?_
  refine lv_goto (tgt := 9) hx hb dX11_oneIf_5 (by decide) ?_
  exact hw_iret hx hb hr hlocks (σ) ⟨rfl, hw⟩ hP hS dX11_oneIf_9

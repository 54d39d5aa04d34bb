set_option maxHeartbeats 4000000 in
set_option maxRecDepth 100000 in
theorem kc_X12_readUnits (l : Launch) (D : va_G) (cy : Nat → ClassId) (N : Nat) (hN : 22 ≤ N) (ad : Nat → Nat) (hJ0 : hJ N ad) (w : Nat → Int64) (σ : hSt) (sz : Nat)  (Q : Int32 → hSt → Prop) (hw : wp_X12_readUnits  σ w Q) : Met l yX12_readUnits wsX12_readUnits ({ frames := 2, cells := 0, slots := 0, locals := 40 } : Room) (va_Pc [.ref (ad 0)] (hB D cy (hC N ad (bY cy ad w) σ) sz)) (va_Qi (fun (r : Int32) (u : hSt) => Q r u) (hE D (fun u : hSt => hC N ad (bY cy ad w) u)) (hA N ad sz)) 0 0 (hA N ad sz) := by
  refine Met.ofW (cc := cX12_readUnits) (maxL := 9) (ret := (some .boolean)) (by decide) rfl ?_
  intro p e s m args below meth c s₁ B hml hv
  obtain ⟨rfl, hsz, hP, hK, hN1⟩ := hv
  have hx := B.exec
  have hb := B.bytes
  have hr := B.returns
  have hts := atoms_spec (ws := wsX12_readUnits) B.pre
  have hown : s.vm.findClass RX12 = some m.cls := findClass_of_methodNamed B.named
  have hlocks := B.notSynchronized
  subst hsz
  have hS : va_S (hA N ad s.heap.size) s.heap s.heap [] := va_S.rf
  have hiX12 : ∀ w ∈ wsX120, w ∈ wsX12_readUnits := fun _ h => List.mem_cons_of_mem _ (List.mem_append_right _ h)
  have hl := lv_entry ([.ref (ad 0)]) (n := 9) (Nat.le_of_ble_eq_true rfl)
  rw [lg_entry_eq]
  generalize (lg_sl ([.ref (ad 0)]) ++ List.replicate (9 - (lg_sl ([.ref (ad 0)])).length) Slot.unset).toArray = ls at hl ⊢
  have hl : lv_has ls 9 [(0, .ref (ad 0))] := hl
  unfold wp_X12_readUnits at hw
  refine lv_iconst (v := 0) hx hb dX12_readUnits_0 (by decide) ?_
  refine lv_istore_n (lv' := [(1, .int (0 : Int32)), (0, .ref (ad 0))]) hx hb dX12_readUnits_1 rfl hl (by decide) rfl (fun ls hl => ?_)
  refine lv_iconst (v := 0) hx hb dX12_readUnits_2 (by decide) ?_
  refine lv_istore_n (lv' := [(2, .int (0 : Int32)), (1, .int (0 : Int32)), (0, .ref (ad 0))]) hx hb dX12_readUnits_3 rfl hl (by decide) rfl (fun ls hl => ?_)
  refine lv_iconst (v := 1) hx hb dX12_readUnits_4 (by decide) ?_
  refine lv_istore_n (lv' := [(3, .int (1 : Int32)), (2, .int (0 : Int32)), (1, .int (0 : Int32)), (0, .ref (ad 0))]) hx hb dX12_readUnits_5 rfl hl (by decide) rfl (fun ls hl => ?_)
  refine lv_aload_n hx hb dX12_readUnits_6 rfl (lv_at hl 3 rfl) ?_
  refine lv_iconst (v := 0) hx hb dX12_readUnits_7 (by decide) ?_
  refine hw_put (x := (0 : Int32)) (j := 20) hx hb hts hiX12 tyX12 tyX12_ok nmX12 hown hK hJ0 hP hS (Nat.lt_of_lt_of_le (by decide) hN) (bY_0 _) rfl (by decide) (List.mem_of_getElem? (i := 1) rfl) rfl rfl rfl rfl (Nat.le_of_ble_eq_true rfl) (by rw [bY_0]; rfl) dX12_readUnits_8 (fun H locs hP hS => ?_)
  refine lv_aload_n hx hb dX12_readUnits_11 rfl (lv_at hl 3 rfl) ?_
  refine hw_kv (va_runV (As := []) (rest := []) ⟨hx, hb, hml, hown, hts⟩ (kc_X12_blanks l D cy N hN ad hJ0 w (hup σ 0 20 (0 : Int32)) _  _ hw) (cwV 0 hts gX12_readUnits_X12_blanks rfl rfl rfl (by decide +kernel) ⟨Nat.le_of_ble_eq_true rfl, Nat.le_of_ble_eq_true rfl⟩) (hw_preV hK hN1 hP (Nat.lt_of_lt_of_le (by decide) hN) (bY_0 _) rfl) rfl rfl hl.1 rfl (lv_room (Nat.le_of_ble_eq_true rfl)) dX12_readUnits_12 ⟨Nat.zero_le _, Nat.zero_le _⟩) hS (fun σ1 H locs hw hP hS => ?_)
  refine hw (fun (v1_2 : Int32) (v2_3 : Int32) (v3_4 : Int32) (σ5 : hSt) => ∀ (H : Heap) (locs : List Loc) (ls : Array Slot), va_P D vwCl (hC N ad (bY cy ad w) σ5) H → va_S (hA N ad s.heap.size) s.heap H locs → lv_has ls 9 [(0, .ref (ad 0)), (1, .int v1_2), (2, .int v2_3), (3, .int v3_4)] → W p l e (headSpec wsX12_readUnits ({ frames := 2, cells := 0, slots := 0, locals := 40 } : Room)).room s m ([Value.ref (ad 0)] : List Value).toArray below meth c H locs 0 0 (MQ below (va_Qi (fun (r : Int32) (u : hSt) => Q r u) (hE D (fun u : hSt => hC N ad (bY cy ad w) u)) (hA N ad s.heap.size)) ([Value.ref (ad 0)] : List Value).toArray s 0 0 (hA N ad s.heap.size)) (F0 m 15 ls [])) (fun v1_2 v2_3 v3_4 σ5 hw H locs ls hP hS hl => ?_) _ _ _ hP hS (lv_sub hl [3, 2, 1, 0] rfl)
  refine lv_aload_n hx hb dX12_readUnits_15 rfl (lv_at hl 0 rfl) ?_
  refine hw_get (v := .int (σ5 0 10)) hx hb hts hiX12 hown hK hP (Nat.lt_of_lt_of_le (by decide) hN) (bY_0 _) rfl 10 (by decide) (List.mem_of_getElem? (i := 2) rfl) rfl rfl dX12_readUnits_16 ?_
  refine lv_aload_n hx hb dX12_readUnits_19 rfl (lv_at hl 0 rfl) ?_
  refine hw_get (v := .int (σ5 0 9)) hx hb hts hiX12 hown hK hP (Nat.lt_of_lt_of_le (by decide) hN) (bY_0 _) rfl 9 (by decide) (List.mem_of_getElem? (i := 3) rfl) rfl rfl dX12_readUnits_20 ?_
  obtain ⟨J34, ehJ34, hw⟩ := hM_x hw
  have hJ34 : ∀ (H : Heap) (locs : List Loc) (ls : Array Slot), J34 → va_P D vwCl (hC N ad (bY cy ad w) σ5) H → va_S (hA N ad s.heap.size) s.heap H locs → lv_has ls 9 [(0, .ref (ad 0)), (1, .int v1_2), (2, .int v2_3), (3, .int v3_4)] → W p l e (headSpec wsX12_readUnits ({ frames := 2, cells := 0, slots := 0, locals := 40 } : Room)).room s m ([Value.ref (ad 0)] : List Value).toArray below meth c H locs 0 0 (MQ below (va_Qi (fun (r : Int32) (u : hSt) => Q r u) (hE D (fun u : hSt => hC N ad (bY cy ad w) u)) (hA N ad s.heap.size)) ([Value.ref (ad 0)] : List Value).toArray s 0 0 (hA N ad s.heap.size)) (F0 m 34 ls []) := by
    intro H locs ls hw hP hS hl
    rw [ehJ34] at hw
    refine lv_aload_n hx hb dX12_readUnits_34 rfl (lv_at hl 0 rfl) ?_
    refine hw_get (v := .int (σ5 0 10)) hx hb hts hiX12 hown hK hP (Nat.lt_of_lt_of_le (by decide) hN) (bY_0 _) rfl 10 (by decide) (List.mem_of_getElem? (i := 2) rfl) rfl rfl dX12_readUnits_35 ?_
    refine lv_topi (fun x4_6 ex4_6 => ?_)
    have hw := hw x4_6 ex4_6
    refine lv_istore (lv' := [(4, .int x4_6), (0, .ref (ad 0)), (1, .int v1_2), (2, .int v2_3), (3, .int v3_4)]) hx hb dX12_readUnits_38 hl (by decide) rfl (fun ls hl => ?_)
    refine lv_iconst (v := 1) hx hb dX12_readUnits_40 (by decide) ?_
    refine lv_istore (lv' := [(5, .int (1 : Int32)), (4, .int x4_6), (0, .ref (ad 0)), (1, .int v1_2), (2, .int v2_3), (3, .int v3_4)]) hx hb dX12_readUnits_41 hl (by decide) rfl (fun ls hl => ?_)
    refine lv_aload_n hx hb dX12_readUnits_43 rfl (lv_at hl 2 rfl) ?_
    refine hw_ki (va_runV (As := []) (rest := []) ⟨hx, hb, hml, hown, hts⟩ (kc_X12_peek l D cy N hN ad hJ0 w σ5 _  _ hw) (cwV 0 hts gX12_readUnits_X12_peek rfl rfl rfl (by decide +kernel) ⟨Nat.le_of_ble_eq_true rfl, Nat.le_of_ble_eq_true rfl⟩) (hw_preV hK hN1 hP (Nat.lt_of_lt_of_le (by decide) hN) (bY_0 _) rfl) rfl rfl hl.1 rfl (lv_room (Nat.le_of_ble_eq_true rfl)) dX12_readUnits_44 ⟨Nat.zero_le _, Nat.zero_le _⟩) hS (fun r8 σ7 H locs hw hP hS => ?_)
    obtain ⟨hu_, hw⟩ := hw
    rw [hu_] at hP
    refine hw_ki (va_runS (As := [.int r8]) (rest := []) ⟨hx, hb, hml, hown, hts⟩ (kc_X12_isDigit l D cy N ad (bY cy ad w) σ5 _ r8 _ hw) (va_cwS 1 hts gX12_readUnits_X12_isDigit rfl rfl rfl (by decide +kernel) ⟨Nat.le_of_ble_eq_true rfl, Nat.le_of_ble_eq_true rfl⟩) (hw_pre hK hN1 hP) rfl rfl hl.1 rfl (lv_room (Nat.le_of_ble_eq_true rfl)) dX12_readUnits_47 ⟨Nat.zero_le _, Nat.zero_le _⟩) hS (fun r10 σ9 H locs hw hP hS => ?_)
    obtain ⟨hu_, hw⟩ := hw
    rw [hu_] at hP
    obtain ⟨J136, ehJ136, hw⟩ := hM_x hw
    have hJ136 : ∀ (v5_11 : Int32) (σ12 : hSt) (H : Heap) (locs : List Loc) (ls : Array Slot), J136 v5_11 σ12 → va_P D vwCl (hC N ad (bY cy ad w) σ12) H → va_S (hA N ad s.heap.size) s.heap H locs → lv_has ls 9 [(0, .ref (ad 0)), (1, .int v1_2), (2, .int v2_3), (3, .int v3_4), (5, .int v5_11)] → W p l e (headSpec wsX12_readUnits ({ frames := 2, cells := 0, slots := 0, locals := 40 } : Room)).room s m ([Value.ref (ad 0)] : List Value).toArray below meth c H locs 0 0 (MQ below (va_Qi (fun (r : Int32) (u : hSt) => Q r u) (hE D (fun u : hSt => hC N ad (bY cy ad w) u)) (hA N ad s.heap.size)) ([Value.ref (ad 0)] : List Value).toArray s 0 0 (hA N ad s.heap.size)) (F0 m 136 ls []) := by
      intro v5_11 σ12 H locs ls hw hP hS hl
      rw [ehJ136] at hw
      refine lv_aload_n hx hb dX12_readUnits_136 rfl (lv_at hl 0 rfl) ?_
      refine hw_ki (va_runV (As := []) (rest := []) ⟨hx, hb, hml, hown, hts⟩ (kc_X12_peek l D cy N hN ad hJ0 w σ12 _  _ hw) (cwV 0 hts gX12_readUnits_X12_peek rfl rfl rfl (by decide +kernel) ⟨Nat.le_of_ble_eq_true rfl, Nat.le_of_ble_eq_true rfl⟩) (hw_preV hK hN1 hP (Nat.lt_of_lt_of_le (by decide) hN) (bY_0 _) rfl) rfl rfl hl.1 rfl (lv_room (Nat.le_of_ble_eq_true rfl)) dX12_readUnits_137 ⟨Nat.zero_le _, Nat.zero_le _⟩) hS (fun r14 σ13 H locs hw hP hS => ?_)
      obtain ⟨hu_, hw⟩ := hw
      rw [hu_] at hP
      refine lv_istore (lv' := [(6, .int r14), (0, .ref (ad 0)), (1, .int v1_2), (2, .int v2_3), (3, .int v3_4), (5, .int v5_11)]) hx hb dX12_readUnits_140 hl (by decide) rfl (fun ls hl => ?_)
      refine lv_iload hx hb dX12_readUnits_142 (lv_at hl 5 rfl) ?_
      refine lv_iconst (v := 1) hx hb dX12_readUnits_144 (by decide) ?_
      obtain ⟨J153, ehJ153, hw⟩ := hM_x hw
      have hJ153 : ∀ (z15 : Int32) (H : Heap) (locs : List Loc) (ls : Array Slot), J153 z15 → va_P D vwCl (hC N ad (bY cy ad w) σ12) H → va_S (hA N ad s.heap.size) s.heap H locs → lv_has ls 9 [(0, .ref (ad 0)), (1, .int v1_2), (2, .int v2_3), (3, .int v3_4), (5, .int v5_11), (6, .int r14)] → W p l e (headSpec wsX12_readUnits ({ frames := 2, cells := 0, slots := 0, locals := 40 } : Room)).room s m ([Value.ref (ad 0)] : List Value).toArray below meth c H locs 0 0 (MQ below (va_Qi (fun (r : Int32) (u : hSt) => Q r u) (hE D (fun u : hSt => hC N ad (bY cy ad w) u)) (hA N ad s.heap.size)) ([Value.ref (ad 0)] : List Value).toArray s 0 0 (hA N ad s.heap.size)) (F0 m 153 ls [.int z15]) := by
        intro z15 H locs ls hw hP hS hl
        rw [ehJ153] at hw
        refine lv_istore (lv' := [(7, .int z15), (0, .ref (ad 0)), (1, .int v1_2), (2, .int v2_3), (3, .int v3_4), (5, .int v5_11), (6, .int r14)]) hx hb dX12_readUnits_153 hl (by decide) rfl (fun ls hl => ?_)
        refine lv_iload hx hb dX12_readUnits_155 (lv_at hl 6 rfl) ?_
        refine lv_bipush (v := 41) hx hb dX12_readUnits_157 (by decide) ?_
        obtain ⟨J343, ehJ343, hw⟩ := hM_x hw
        have hJ343 : ∀ (v1_16 : Int32) (v2_17 : Int32) (σ18 : hSt) (H : Heap) (locs : List Loc) (ls : Array Slot), J343 v1_16 v2_17 σ18 → va_P D vwCl (hC N ad (bY cy ad w) σ18) H → va_S (hA N ad s.heap.size) s.heap H locs → lv_has ls 9 [(0, .ref (ad 0)), (1, .int v1_16), (2, .int v2_17), (5, .int v5_11), (6, .int r14)] → W p l e (headSpec wsX12_readUnits ({ frames := 2, cells := 0, slots := 0, locals := 40 } : Room)).room s m ([Value.ref (ad 0)] : List Value).toArray below meth c H locs 0 0 (MQ below (va_Qi (fun (r : Int32) (u : hSt) => Q r u) (hE D (fun u : hSt => hC N ad (bY cy ad w) u)) (hA N ad s.heap.size)) ([Value.ref (ad 0)] : List Value).toArray s 0 0 (hA N ad s.heap.size)) (F0 m 343 ls []) := by
          intro v1_16 v2_17 σ18 H locs ls hw hP hS hl
          rw [ehJ343] at hw
          refine lv_aload_n hx hb dX12_readUnits_343 rfl (lv_at hl 0 rfl) ?_
          refine hw_get (v := .ref (ad 8)) hx hb hts hiX12 hown hK hP (Nat.lt_of_lt_of_le (by decide) hN) (bY_0 _) rfl 17 (by decide) (List.mem_of_getElem? (i := 6) rfl) rfl rfl dX12_readUnits_344 ?_
          refine lv_aload_n hx hb dX12_readUnits_347 rfl (lv_at hl 0 rfl) ?_
          refine hw_get (v := .int (σ18 0 20)) hx hb hts hiX12 hown hK hP (Nat.lt_of_lt_of_le (by decide) hN) (bY_0 _) rfl 20 (by decide) (List.mem_of_getElem? (i := 1) rfl) rfl rfl dX12_readUnits_348 ?_
          refine lv_iload hx hb dX12_readUnits_351 (lv_at hl 4 rfl) ?_
          obtain ⟨hi19, hw⟩ := hw
          refine hw_iast hx hb hK hJ0 hP hS (Nat.lt_of_lt_of_le (by decide) hN) (fun ρ => bY_k8 ρ) hi19 dX12_readUnits_353 (fun H locs hP hS => ?_)
          refine lv_aload_n hx hb dX12_readUnits_354 rfl (lv_at hl 0 rfl) ?_
          refine hw_get (v := .ref (ad 9)) hx hb hts hiX12 hown hK hP (Nat.lt_of_lt_of_le (by decide) hN) (bY_0 _) rfl 18 (by decide) (List.mem_of_getElem? (i := 7) rfl) rfl rfl dX12_readUnits_355 ?_
          refine lv_aload_n hx hb dX12_readUnits_358 rfl (lv_at hl 0 rfl) ?_
          refine hw_get (v := .int ((hup σ18 8 ((σ18 0 20)).toNatClampNeg r14) 0 20)) hx hb hts hiX12 hown hK hP (Nat.lt_of_lt_of_le (by decide) hN) (bY_0 _) rfl 20 (by decide) (List.mem_of_getElem? (i := 1) rfl) rfl rfl dX12_readUnits_359 ?_
          refine lv_iload hx hb dX12_readUnits_362 (lv_at hl 3 rfl) ?_
          obtain ⟨hi20, hw⟩ := hw
          refine hw_iast hx hb hK hJ0 hP hS (Nat.lt_of_lt_of_le (by decide) hN) (fun ρ => bY_9 ρ) hi20 dX12_readUnits_364 (fun H locs hP hS => ?_)
          refine lv_aload_n hx hb dX12_readUnits_365 rfl (lv_at hl 0 rfl) ?_
          refine lv_dup hx hb dX12_readUnits_366 rfl ?_
          refine hw_get (v := .int ((hup (hup σ18 8 ((σ18 0 20)).toNatClampNeg r14) 9 (((hup σ18 8 ((σ18 0 20)).toNatClampNeg r14) 0 20)).toNatClampNeg v5_11) 0 20)) hx hb hts hiX12 hown hK hP (Nat.lt_of_lt_of_le (by decide) hN) (bY_0 _) rfl 20 (by decide) (List.mem_of_getElem? (i := 1) rfl) rfl rfl dX12_readUnits_367 ?_
          refine lv_iconst (v := 1) hx hb dX12_readUnits_370 (by decide) ?_
          refine lv_iadd hx hb dX12_readUnits_371 ?_
          refine hw_put (x := (((hup (hup σ18 8 ((σ18 0 20)).toNatClampNeg r14) 9 (((hup σ18 8 ((σ18 0 20)).toNatClampNeg r14) 0 20)).toNatClampNeg v5_11) 0 20) + (1 : Int32))) (j := 20) hx hb hts hiX12 tyX12 tyX12_ok nmX12 hown hK hJ0 hP hS (Nat.lt_of_lt_of_le (by decide) hN) (bY_0 _) rfl (by decide) (List.mem_of_getElem? (i := 1) rfl) rfl rfl rfl rfl (Nat.le_of_ble_eq_true rfl) (by rw [bY_0]; rfl) dX12_readUnits_372 (fun H locs hP hS => ?_)
          refine lv_iload hx hb dX12_readUnits_375 (lv_at hl 4 rfl) ?_
          refine lv_bipush (v := 40) hx hb dX12_readUnits_377 (by decide) ?_
          obtain ⟨J387, ehJ387, hw⟩ := hM_x hw
          have hJ387 : ∀ (z21 : Int32) (H : Heap) (locs : List Loc) (ls : Array Slot), J387 z21 → va_P D vwCl (hC N ad (bY cy ad w) (hup (hup (hup σ18 8 ((σ18 0 20)).toNatClampNeg r14) 9 (((hup σ18 8 ((σ18 0 20)).toNatClampNeg r14) 0 20)).toNatClampNeg v5_11) 0 20 (((hup (hup σ18 8 ((σ18 0 20)).toNatClampNeg r14) 9 (((hup σ18 8 ((σ18 0 20)).toNatClampNeg r14) 0 20)).toNatClampNeg v5_11) 0 20) + (1 : Int32)))) H → va_S (hA N ad s.heap.size) s.heap H locs → lv_has ls 9 [(0, .ref (ad 0)), (1, .int v1_16), (2, .int v2_17)] → W p l e (headSpec wsX12_readUnits ({ frames := 2, cells := 0, slots := 0, locals := 40 } : Room)).room s m ([Value.ref (ad 0)] : List Value).toArray below meth c H locs 0 0 (MQ below (va_Qi (fun (r : Int32) (u : hSt) => Q r u) (hE D (fun u : hSt => hC N ad (bY cy ad w) u)) (hA N ad s.heap.size)) ([Value.ref (ad 0)] : List Value).toArray s 0 0 (hA N ad s.heap.size)) (F0 m 387 ls [.int z21]) := by
            intro z21 H locs ls hw hP hS hl
            rw [ehJ387] at hw
            refine lv_istore_n (lv' := [(3, .int z21), (0, .ref (ad 0)), (1, .int v1_16), (2, .int v2_17)]) hx hb dX12_readUnits_387 rfl hl (by decide) rfl (fun ls hl => ?_)
            refine lv_aload_n hx hb dX12_readUnits_388 rfl (lv_at hl 1 rfl) ?_
            refine lv_dup hx hb dX12_readUnits_389 rfl ?_
            refine hw_get (v := .int ((hup (hup (hup σ18 8 ((σ18 0 20)).toNatClampNeg r14) 9 (((hup σ18 8 ((σ18 0 20)).toNatClampNeg r14) 0 20)).toNatClampNeg v5_11) 0 20 (((hup (hup σ18 8 ((σ18 0 20)).toNatClampNeg r14) 9 (((hup σ18 8 ((σ18 0 20)).toNatClampNeg r14) 0 20)).toNatClampNeg v5_11) 0 20) + (1 : Int32))) 0 10)) hx hb hts hiX12 hown hK hP (Nat.lt_of_lt_of_le (by decide) hN) (bY_0 _) rfl 10 (by decide) (List.mem_of_getElem? (i := 2) rfl) rfl rfl dX12_readUnits_390 ?_
            refine lv_iconst (v := 1) hx hb dX12_readUnits_393 (by decide) ?_
            refine lv_iadd hx hb dX12_readUnits_394 ?_
            refine hw_put (x := (((hup (hup (hup σ18 8 ((σ18 0 20)).toNatClampNeg r14) 9 (((hup σ18 8 ((σ18 0 20)).toNatClampNeg r14) 0 20)).toNatClampNeg v5_11) 0 20 (((hup (hup σ18 8 ((σ18 0 20)).toNatClampNeg r14) 9 (((hup σ18 8 ((σ18 0 20)).toNatClampNeg r14) 0 20)).toNatClampNeg v5_11) 0 20) + (1 : Int32))) 0 10) + (1 : Int32))) (j := 10) hx hb hts hiX12 tyX12 tyX12_ok nmX12 hown hK hJ0 hP hS (Nat.lt_of_lt_of_le (by decide) hN) (bY_0 _) rfl (by decide) (List.mem_of_getElem? (i := 2) rfl) rfl rfl rfl rfl (Nat.le_of_ble_eq_true rfl) (by rw [bY_0]; rfl) dX12_readUnits_395 (fun H locs hP hS => ?_)
            refine lv_aload_n hx hb dX12_readUnits_398 rfl (lv_at hl 1 rfl) ?_
            refine hw_kv (va_runV (As := []) (rest := []) ⟨hx, hb, hml, hown, hts⟩ (kc_X12_blanks l D cy N hN ad hJ0 w (hup (hup (hup (hup σ18 8 ((σ18 0 20)).toNatClampNeg r14) 9 (((hup σ18 8 ((σ18 0 20)).toNatClampNeg r14) 0 20)).toNatClampNeg v5_11) 0 20 (((hup (hup σ18 8 ((σ18 0 20)).toNatClampNeg r14) 9 (((hup σ18 8 ((σ18 0 20)).toNatClampNeg r14) 0 20)).toNatClampNeg v5_11) 0 20) + (1 : Int32))) 0 10 (((hup (hup (hup σ18 8 ((σ18 0 20)).toNatClampNeg r14) 9 (((hup σ18 8 ((σ18 0 20)).toNatClampNeg r14) 0 20)).toNatClampNeg v5_11) 0 20 (((hup (hup σ18 8 ((σ18 0 20)).toNatClampNeg r14) 9 (((hup σ18 8 ((σ18 0 20)).toNatClampNeg r14) 0 20)).toNatClampNeg v5_11) 0 20) + (1 : Int32))) 0 10) + (1 : Int32))) _  _ hw) (cwV 0 hts gX12_readUnits_X12_blanks rfl rfl rfl (by decide +kernel) ⟨Nat.le_of_ble_eq_true rfl, Nat.le_of_ble_eq_true rfl⟩) (hw_preV hK hN1 hP (Nat.lt_of_lt_of_le (by decide) hN) (bY_0 _) rfl) rfl rfl hl.1 rfl (lv_room (Nat.le_of_ble_eq_true rfl)) dX12_readUnits_399 ⟨Nat.zero_le _, Nat.zero_le _⟩) hS (fun σ22 H locs hw hP hS => ?_)
            refine lv_goto (tgt := 15) hx hb dX12_readUnits_402 (by decide) ?_
            exact hw _ _ _ hP hS (lv_sub hl [1, 2, 3, 0] rfl)
          refine lv_icmp_ne (tgt := 386) hx hb dX12_readUnits_379 (by decide) (fun c23 => ?_) (fun c23 => ?_)
          · have hw := hw.1 c23
            refine lv_iconst (v := 0) hx hb dX12_readUnits_386 (by decide) ?_
            exact hJ387 _ _ _ _ hw hP hS (lv_sub hl [0, 1, 2] rfl)
          have hw := hw.2 c23
          refine lv_iconst (v := 1) hx hb dX12_readUnits_382 (by decide) ?_
          refine lv_goto (tgt := 387) hx hb dX12_readUnits_383 (by decide) ?_
          exact hJ387 _ _ _ _ hw hP hS (lv_sub hl [0, 1, 2] rfl)
        obtain ⟨J211, ehJ211, hw⟩ := hM_x hw
        have hJ211 : ∀ (H : Heap) (locs : List Loc) (ls : Array Slot), J211 → va_P D vwCl (hC N ad (bY cy ad w) σ12) H → va_S (hA N ad s.heap.size) s.heap H locs → lv_has ls 9 [(0, .ref (ad 0)), (1, .int v1_2), (2, .int v2_3), (5, .int v5_11), (6, .int r14)] → W p l e (headSpec wsX12_readUnits ({ frames := 2, cells := 0, slots := 0, locals := 40 } : Room)).room s m ([Value.ref (ad 0)] : List Value).toArray below meth c H locs 0 0 (MQ below (va_Qi (fun (r : Int32) (u : hSt) => Q r u) (hE D (fun u : hSt => hC N ad (bY cy ad w) u)) (hA N ad s.heap.size)) ([Value.ref (ad 0)] : List Value).toArray s 0 0 (hA N ad s.heap.size)) (F0 m 211 ls []) := by
          intro H locs ls hw hP hS hl
          rw [ehJ211] at hw
          refine lv_iload hx hb dX12_readUnits_211 (lv_at hl 4 rfl) ?_
          refine lv_bipush (v := 40) hx hb dX12_readUnits_213 (by decide) ?_
          refine lv_icmp_ne (tgt := 249) hx hb dX12_readUnits_215 (by decide) (fun c24 => ?_) (fun c24 => ?_)
          · have hw := hw.1 c24
            refine lv_iload hx hb dX12_readUnits_249 (lv_at hl 4 rfl) ?_
            refine lv_bipush (v := 65) hx hb dX12_readUnits_251 (by decide) ?_
            obtain ⟨J294, ehJ294, hw⟩ := hM_x hw
            have hJ294 : ∀ (H : Heap) (locs : List Loc) (ls : Array Slot), J294 → va_P D vwCl (hC N ad (bY cy ad w) σ12) H → va_S (hA N ad s.heap.size) s.heap H locs → lv_has ls 9 [(0, .ref (ad 0)), (1, .int v1_2), (2, .int v2_3), (5, .int v5_11), (6, .int r14)] → W p l e (headSpec wsX12_readUnits ({ frames := 2, cells := 0, slots := 0, locals := 40 } : Room)).room s m ([Value.ref (ad 0)] : List Value).toArray below meth c H locs 0 0 (MQ below (va_Qi (fun (r : Int32) (u : hSt) => Q r u) (hE D (fun u : hSt => hC N ad (bY cy ad w) u)) (hA N ad s.heap.size)) ([Value.ref (ad 0)] : List Value).toArray s 0 0 (hA N ad s.heap.size)) (F0 m 294 ls []) := by
              intro H locs ls hw hP hS hl
              rw [ehJ294] at hw
              refine lv_iload hx hb dX12_readUnits_294 (lv_at hl 4 rfl) ?_
              refine lv_bipush (v := 112) hx hb dX12_readUnits_296 (by decide) ?_
              obtain ⟨J315, ehJ315, hw⟩ := hM_x hw
              have hJ315 : ∀ (H : Heap) (locs : List Loc) (ls : Array Slot), J315 → va_P D vwCl (hC N ad (bY cy ad w) σ12) H → va_S (hA N ad s.heap.size) s.heap H locs → lv_has ls 9 [(0, .ref (ad 0)), (1, .int v1_2), (2, .int v2_3), (5, .int v5_11), (6, .int r14)] → W p l e (headSpec wsX12_readUnits ({ frames := 2, cells := 0, slots := 0, locals := 40 } : Room)).room s m ([Value.ref (ad 0)] : List Value).toArray below meth c H locs 0 0 (MQ below (va_Qi (fun (r : Int32) (u : hSt) => Q r u) (hE D (fun u : hSt => hC N ad (bY cy ad w) u)) (hA N ad s.heap.size)) ([Value.ref (ad 0)] : List Value).toArray s 0 0 (hA N ad s.heap.size)) (F0 m 315 ls []) := by
                intro H locs ls hw hP hS hl
                rw [ehJ315] at hw
                refine lv_aload_n hx hb dX12_readUnits_315 rfl (lv_at hl 0 rfl) ?_
                refine lv_iload_n hx hb dX12_readUnits_316 rfl (lv_at hl 2 rfl) ?_
                refine hw_ki (va_runV (As := [.int v2_3]) (rest := []) ⟨hx, hb, hml, hown, hts⟩ (kc_X12_isTold l D cy N hN ad hJ0 w σ12 _ v2_3 _ hw) (cwV 1 hts gX12_readUnits_X12_isTold rfl rfl rfl (by decide +kernel) ⟨Nat.le_of_ble_eq_true rfl, Nat.le_of_ble_eq_true rfl⟩) (hw_preV hK hN1 hP (Nat.lt_of_lt_of_le (by decide) hN) (bY_0 _) rfl) rfl rfl hl.1 rfl (lv_room (Nat.le_of_ble_eq_true rfl)) dX12_readUnits_317 ⟨Nat.zero_le _, Nat.zero_le _⟩) hS (fun r26 σ25 H locs hw hP hS => ?_)
                obtain ⟨hu_, hw⟩ := hw
                rw [hu_] at hP
                refine lv_if_ne (tgt := 343) hx hb dX12_readUnits_320 (by decide) (fun c27 => ?_) (fun c27 => ?_)
                · have hw := hw.1 c27
                  exact hJ343 _ _ _ _ _ _ hw hP hS (lv_sub hl [0, 1, 2, 3, 4] rfl)
                have hw := hw.2 c27
                refine lv_aload_n hx hb dX12_readUnits_323 rfl (lv_at hl 0 rfl) ?_
                refine lv_iconst (v := 3) hx hb dX12_readUnits_324 (by decide) ?_
                refine lv_aload_n hx hb dX12_readUnits_325 rfl (lv_at hl 0 rfl) ?_
                refine hw_get (v := .int (σ12 0 10)) hx hb hts hiX12 hown hK hP (Nat.lt_of_lt_of_le (by decide) hN) (bY_0 _) rfl 10 (by decide) (List.mem_of_getElem? (i := 2) rfl) rfl rfl dX12_readUnits_326 ?_
                refine hw_ki (va_runV (As := [.int (3 : Int32), .int (σ12 0 10)]) (rest := []) ⟨hx, hb, hml, hown, hts⟩ (kc_X12_wrong l D cy N hN ad hJ0 w σ12 _ (3 : Int32) (σ12 0 10) _ hw) (cwV 2 hts gX12_readUnits_X12_wrong rfl rfl rfl (by decide +kernel) ⟨Nat.le_of_ble_eq_true rfl, Nat.le_of_ble_eq_true rfl⟩) (hw_preV hK hN1 hP (Nat.lt_of_lt_of_le (by decide) hN) (bY_0 _) rfl) rfl rfl hl.1 rfl (lv_room (Nat.le_of_ble_eq_true rfl)) dX12_readUnits_329 ⟨Nat.zero_le _, Nat.zero_le _⟩) hS (fun r29 σ28 H locs hw hP hS => ?_)
                obtain ⟨hb30, hw⟩ := hw
                exact hw_zret hx hb hr hlocks hb30 (σ28) hw hP hS dX12_readUnits_332
              refine lv_icmp_eq (tgt := 315) hx hb dX12_readUnits_298 (by decide) (fun c31 => ?_) (fun c31 => ?_)
              · have hw := hw.1 c31
                exact hJ315  _ _ _ hw hP hS (lv_sub hl [0, 1, 2, 3, 4] rfl)
              have hw := hw.2 c31
              refine lv_iload hx hb dX12_readUnits_301 (lv_at hl 4 rfl) ?_
              refine lv_bipush (v := 98) hx hb dX12_readUnits_303 (by decide) ?_
              refine lv_icmp_eq (tgt := 315) hx hb dX12_readUnits_305 (by decide) (fun c32 => ?_) (fun c32 => ?_)
              · have hw := hw.1 c32
                exact hJ315  _ _ _ hw hP hS (lv_sub hl [0, 1, 2, 3, 4] rfl)
              have hw := hw.2 c32
              refine lv_iload hx hb dX12_readUnits_308 (lv_at hl 4 rfl) ?_
              refine lv_bipush (v := 115) hx hb dX12_readUnits_310 (by decide) ?_
              refine lv_icmp_ne (tgt := 333) hx hb dX12_readUnits_312 (by decide) (fun c33 => ?_) (fun c33 => ?_)
              · have hw := hw.1 c33
                refine lv_aload_n hx hb dX12_readUnits_333 rfl (lv_at hl 0 rfl) ?_
                refine lv_iconst (v := 1) hx hb dX12_readUnits_334 (by decide) ?_
                refine lv_aload_n hx hb dX12_readUnits_335 rfl (lv_at hl 0 rfl) ?_
                refine hw_get (v := .int (σ12 0 10)) hx hb hts hiX12 hown hK hP (Nat.lt_of_lt_of_le (by decide) hN) (bY_0 _) rfl 10 (by decide) (List.mem_of_getElem? (i := 2) rfl) rfl rfl dX12_readUnits_336 ?_
                refine hw_ki (va_runV (As := [.int (1 : Int32), .int (σ12 0 10)]) (rest := []) ⟨hx, hb, hml, hown, hts⟩ (kc_X12_wrong l D cy N hN ad hJ0 w σ12 _ (1 : Int32) (σ12 0 10) _ hw) (cwV 2 hts gX12_readUnits_X12_wrong rfl rfl rfl (by decide +kernel) ⟨Nat.le_of_ble_eq_true rfl, Nat.le_of_ble_eq_true rfl⟩) (hw_preV hK hN1 hP (Nat.lt_of_lt_of_le (by decide) hN) (bY_0 _) rfl) rfl rfl hl.1 rfl (lv_room (Nat.le_of_ble_eq_true rfl)) dX12_readUnits_339 ⟨Nat.zero_le _, Nat.zero_le _⟩) hS (fun r35 σ34 H locs hw hP hS => ?_)
                obtain ⟨hb36, hw⟩ := hw
                exact hw_zret hx hb hr hlocks hb36 (σ34) hw hP hS dX12_readUnits_342
              have hw := hw.2 c33
              exact hJ315  _ _ _ hw hP hS (lv_sub hl [0, 1, 2, 3, 4] rfl)
            refine lv_icmp_lt (tgt := 294) hx hb dX12_readUnits_253 (by decide) (fun c37 => ?_) (fun c37 => ?_)
            · have hw := hw.1 c37
              exact hJ294  _ _ _ hw hP hS (lv_sub hl [0, 1, 2, 3, 4] rfl)
            have hw := hw.2 c37
            refine lv_iload hx hb dX12_readUnits_256 (lv_at hl 4 rfl) ?_
            refine lv_bipush (v := 70) hx hb dX12_readUnits_258 (by decide) ?_
            refine lv_icmp_gt (tgt := 294) hx hb dX12_readUnits_260 (by decide) (fun c38 => ?_) (fun c38 => ?_)
            · have hw := hw.1 c38
              exact hJ294  _ _ _ hw hP hS (lv_sub hl [0, 1, 2, 3, 4] rfl)
            have hw := hw.2 c38
            refine lv_aload_n hx hb dX12_readUnits_263 rfl (lv_at hl 0 rfl) ?_
            refine lv_iload hx hb dX12_readUnits_264 (lv_at hl 4 rfl) ?_
            refine lv_bipush (v := 65) hx hb dX12_readUnits_266 (by decide) ?_
            refine lv_isub hx hb dX12_readUnits_268 ?_
            refine hw_ki (va_runV (As := [.int (r14 - (65 : Int32))]) (rest := []) ⟨hx, hb, hml, hown, hts⟩ (kc_X12_isTold l D cy N hN ad hJ0 w σ12 _ (r14 - (65 : Int32)) _ hw) (cwV 1 hts gX12_readUnits_X12_isTold rfl rfl rfl (by decide +kernel) ⟨Nat.le_of_ble_eq_true rfl, Nat.le_of_ble_eq_true rfl⟩) (hw_preV hK hN1 hP (Nat.lt_of_lt_of_le (by decide) hN) (bY_0 _) rfl) rfl rfl hl.1 rfl (lv_room (Nat.le_of_ble_eq_true rfl)) dX12_readUnits_269 ⟨Nat.zero_le _, Nat.zero_le _⟩) hS (fun r40 σ39 H locs hw hP hS => ?_)
            obtain ⟨hu_, hw⟩ := hw
            rw [hu_] at hP
            refine lv_if_ne (tgt := 285) hx hb dX12_readUnits_272 (by decide) (fun c41 => ?_) (fun c41 => ?_)
            · have hw := hw.1 c41
              refine lv_iload hx hb dX12_readUnits_285 (lv_at hl 4 rfl) ?_
              refine lv_bipush (v := 65) hx hb dX12_readUnits_287 (by decide) ?_
              refine lv_isub hx hb dX12_readUnits_289 ?_
              refine lv_topi (fun x2_42 ex2_42 => ?_)
              have hw := hw x2_42 ex2_42
              refine lv_istore_n (lv' := [(2, .int x2_42), (0, .ref (ad 0)), (1, .int v1_2), (5, .int v5_11), (6, .int r14)]) hx hb dX12_readUnits_290 rfl hl (by decide) rfl (fun ls hl => ?_)
              refine lv_goto (tgt := 343) hx hb dX12_readUnits_291 (by decide) ?_
              exact hJ343 _ _ _ _ _ _ hw hP hS (lv_sub hl [1, 2, 0, 3, 4] rfl)
            have hw := hw.2 c41
            refine lv_aload_n hx hb dX12_readUnits_275 rfl (lv_at hl 0 rfl) ?_
            refine lv_iconst (v := 3) hx hb dX12_readUnits_276 (by decide) ?_
            refine lv_aload_n hx hb dX12_readUnits_277 rfl (lv_at hl 0 rfl) ?_
            refine hw_get (v := .int (σ12 0 10)) hx hb hts hiX12 hown hK hP (Nat.lt_of_lt_of_le (by decide) hN) (bY_0 _) rfl 10 (by decide) (List.mem_of_getElem? (i := 2) rfl) rfl rfl dX12_readUnits_278 ?_
            refine hw_ki (va_runV (As := [.int (3 : Int32), .int (σ12 0 10)]) (rest := []) ⟨hx, hb, hml, hown, hts⟩ (kc_X12_wrong l D cy N hN ad hJ0 w σ12 _ (3 : Int32) (σ12 0 10) _ hw) (cwV 2 hts gX12_readUnits_X12_wrong rfl rfl rfl (by decide +kernel) ⟨Nat.le_of_ble_eq_true rfl, Nat.le_of_ble_eq_true rfl⟩) (hw_preV hK hN1 hP (Nat.lt_of_lt_of_le (by decide) hN) (bY_0 _) rfl) rfl rfl hl.1 rfl (lv_room (Nat.le_of_ble_eq_true rfl)) dX12_readUnits_281 ⟨Nat.zero_le _, Nat.zero_le _⟩) hS (fun r44 σ43 H locs hw hP hS => ?_)
            obtain ⟨hb45, hw⟩ := hw
            exact hw_zret hx hb hr hlocks hb45 (σ43) hw hP hS dX12_readUnits_284
          have hw := hw.2 c24
          refine lv_iload_n hx hb dX12_readUnits_218 rfl (lv_at hl 1 rfl) ?_
          refine lv_iconst (v := 5) hx hb dX12_readUnits_219 (by decide) ?_
          refine lv_icmp_ne (tgt := 233) hx hb dX12_readUnits_220 (by decide) (fun c46 => ?_) (fun c46 => ?_)
          · have hw := hw.1 c46
            refine lv_aload_n hx hb dX12_readUnits_233 rfl (lv_at hl 0 rfl) ?_
            refine hw_get (v := .ref (ad 11)) hx hb hts hiX12 hown hK hP (Nat.lt_of_lt_of_le (by decide) hN) (bY_0 _) rfl 21 (by decide) (List.mem_of_getElem? (i := 4) rfl) rfl rfl dX12_readUnits_234 ?_
            refine lv_iload_n hx hb dX12_readUnits_237 rfl (lv_at hl 1 rfl) ?_
            refine lv_aload_n hx hb dX12_readUnits_238 rfl (lv_at hl 0 rfl) ?_
            refine hw_get (v := .int (σ12 0 20)) hx hb hts hiX12 hown hK hP (Nat.lt_of_lt_of_le (by decide) hN) (bY_0 _) rfl 20 (by decide) (List.mem_of_getElem? (i := 1) rfl) rfl rfl dX12_readUnits_239 ?_
            obtain ⟨hi47, hw⟩ := hw
            refine hw_iast hx hb hK hJ0 hP hS (Nat.lt_of_lt_of_le (by decide) hN) (fun ρ => bY_11 ρ) hi47 dX12_readUnits_242 (fun H locs hP hS => ?_)
            obtain ⟨x1_48, ex1_48⟩ : ∃ z : Int32, z = v1_2 + (1 : Int32) := ⟨_, rfl⟩
            have hw := hw x1_48 ex1_48
            refine lv_iinc (v := x1_48) (lv' := [(1, .int x1_48), (0, .ref (ad 0)), (2, .int v2_3), (5, .int v5_11), (6, .int r14)]) hx hb dX12_readUnits_243 hl (k := 1) rfl (by rw [ex1_48]; rfl) (by decide) rfl (fun ls hl => ?_)
            refine lv_goto (tgt := 343) hx hb dX12_readUnits_246 (by decide) ?_
            exact hJ343 _ _ _ _ _ _ hw hP hS (lv_sub hl [1, 0, 2, 3, 4] rfl)
          have hw := hw.2 c46
          refine lv_aload_n hx hb dX12_readUnits_223 rfl (lv_at hl 0 rfl) ?_
          refine lv_iconst (v := 4) hx hb dX12_readUnits_224 (by decide) ?_
          refine lv_aload_n hx hb dX12_readUnits_225 rfl (lv_at hl 0 rfl) ?_
          refine hw_get (v := .int (σ12 0 10)) hx hb hts hiX12 hown hK hP (Nat.lt_of_lt_of_le (by decide) hN) (bY_0 _) rfl 10 (by decide) (List.mem_of_getElem? (i := 2) rfl) rfl rfl dX12_readUnits_226 ?_
          refine hw_ki (va_runV (As := [.int (4 : Int32), .int (σ12 0 10)]) (rest := []) ⟨hx, hb, hml, hown, hts⟩ (kc_X12_wrong l D cy N hN ad hJ0 w σ12 _ (4 : Int32) (σ12 0 10) _ hw) (cwV 2 hts gX12_readUnits_X12_wrong rfl rfl rfl (by decide +kernel) ⟨Nat.le_of_ble_eq_true rfl, Nat.le_of_ble_eq_true rfl⟩) (hw_preV hK hN1 hP (Nat.lt_of_lt_of_le (by decide) hN) (bY_0 _) rfl) rfl rfl hl.1 rfl (lv_room (Nat.le_of_ble_eq_true rfl)) dX12_readUnits_229 ⟨Nat.zero_le _, Nat.zero_le _⟩) hS (fun r50 σ49 H locs hw hP hS => ?_)
          obtain ⟨hb51, hw⟩ := hw
          exact hw_zret hx hb hr hlocks hb51 (σ49) hw hP hS dX12_readUnits_232
        refine lv_icmp_ne (tgt := 211) hx hb dX12_readUnits_159 (by decide) (fun c52 => ?_) (fun c52 => ?_)
        · have hw := hw.1 c52
          exact hJ211  _ _ _ hw hP hS (lv_sub hl [1, 2, 3, 5, 6] rfl)
        have hw := hw.2 c52
        refine lv_iload_n hx hb dX12_readUnits_162 rfl (lv_at hl 4 rfl) ?_
        refine lv_if_ne (tgt := 211) hx hb dX12_readUnits_163 (by decide) (fun c53 => ?_) (fun c53 => ?_)
        · have hw := hw.1 c53
          exact hJ211  _ _ _ hw hP hS (lv_sub hl [1, 2, 3, 5, 6] rfl)
        have hw := hw.2 c53
        refine lv_iload hx hb dX12_readUnits_166 (lv_at hl 0 rfl) ?_
        refine lv_if_ne (tgt := 211) hx hb dX12_readUnits_168 (by decide) (fun c54 => ?_) (fun c54 => ?_)
        · have hw := hw.1 c54
          exact hJ211  _ _ _ hw hP hS (lv_sub hl [1, 2, 3, 5, 6] rfl)
        have hw := hw.2 c54
        refine lv_iload_n hx hb dX12_readUnits_171 rfl (lv_at hl 2 rfl) ?_
        refine lv_if_le (tgt := 211) hx hb dX12_readUnits_172 (by decide) (fun c55 => ?_) (fun c55 => ?_)
        · have hw := hw.1 c55
          exact hJ211  _ _ _ hw hP hS (lv_sub hl [1, 2, 3, 5, 6] rfl)
        have hw := hw.2 c55
        obtain ⟨x1_56, ex1_56⟩ : ∃ z : Int32, z = v1_2 + (-1 : Int32) := ⟨_, rfl⟩
        have hw := hw x1_56 ex1_56
        refine lv_iinc (v := x1_56) (lv' := [(1, .int x1_56), (7, .int z15), (0, .ref (ad 0)), (2, .int v2_3), (3, .int v3_4), (5, .int v5_11), (6, .int r14)]) hx hb dX12_readUnits_175 hl (k := 2) rfl (by rw [ex1_56]; rfl) (by decide) rfl (fun ls hl => ?_)
        refine lv_aload_n hx hb dX12_readUnits_178 rfl (lv_at hl 2 rfl) ?_
        refine hw_get (v := .ref (ad 11)) hx hb hts hiX12 hown hK hP (Nat.lt_of_lt_of_le (by decide) hN) (bY_0 _) rfl 21 (by decide) (List.mem_of_getElem? (i := 4) rfl) rfl rfl dX12_readUnits_179 ?_
        refine lv_iload_n hx hb dX12_readUnits_182 rfl (lv_at hl 0 rfl) ?_
        obtain ⟨hi57, hw⟩ := hw
        refine hw_iald hx hb hK hP (Nat.lt_of_lt_of_le (by decide) hN) (bY_11 _) hi57 dX12_readUnits_183 ?_
        refine lv_topi (fun x8_58 ex8_58 => ?_)
        have hw := hw x8_58 ex8_58
        refine lv_istore (lv' := [(8, .int x8_58), (1, .int x1_56), (7, .int z15), (0, .ref (ad 0)), (2, .int v2_3), (3, .int v3_4), (5, .int v5_11), (6, .int r14)]) hx hb dX12_readUnits_184 hl (by decide) rfl (fun ls hl => ?_)
        refine lv_aload_n hx hb dX12_readUnits_186 rfl (lv_at hl 3 rfl) ?_
        refine hw_get (v := .ref (ad 10)) hx hb hts hiX12 hown hK hP (Nat.lt_of_lt_of_le (by decide) hN) (bY_0 _) rfl 19 (by decide) (List.mem_of_getElem? (i := 5) rfl) rfl rfl dX12_readUnits_187 ?_
        refine lv_iload hx hb dX12_readUnits_190 (lv_at hl 0 rfl) ?_
        refine lv_aload_n hx hb dX12_readUnits_192 rfl (lv_at hl 3 rfl) ?_
        refine hw_get (v := .int (σ12 0 20)) hx hb hts hiX12 hown hK hP (Nat.lt_of_lt_of_le (by decide) hN) (bY_0 _) rfl 20 (by decide) (List.mem_of_getElem? (i := 1) rfl) rfl rfl dX12_readUnits_193 ?_
        obtain ⟨hi59, hw⟩ := hw
        refine hw_iast hx hb hK hJ0 hP hS (Nat.lt_of_lt_of_le (by decide) hN) (fun ρ => bY_10 ρ) hi59 dX12_readUnits_196 (fun H locs hP hS => ?_)
        refine lv_aload_n hx hb dX12_readUnits_197 rfl (lv_at hl 3 rfl) ?_
        refine hw_get (v := .ref (ad 10)) hx hb hts hiX12 hown hK hP (Nat.lt_of_lt_of_le (by decide) hN) (bY_0 _) rfl 19 (by decide) (List.mem_of_getElem? (i := 5) rfl) rfl rfl dX12_readUnits_198 ?_
        refine lv_aload_n hx hb dX12_readUnits_201 rfl (lv_at hl 3 rfl) ?_
        refine hw_get (v := .int ((hup σ12 10 (x8_58).toNatClampNeg (σ12 0 20)) 0 20)) hx hb hts hiX12 hown hK hP (Nat.lt_of_lt_of_le (by decide) hN) (bY_0 _) rfl 20 (by decide) (List.mem_of_getElem? (i := 1) rfl) rfl rfl dX12_readUnits_202 ?_
        refine lv_iload hx hb dX12_readUnits_205 (lv_at hl 0 rfl) ?_
        obtain ⟨hi60, hw⟩ := hw
        refine hw_iast hx hb hK hJ0 hP hS (Nat.lt_of_lt_of_le (by decide) hN) (fun ρ => bY_10 ρ) hi60 dX12_readUnits_207 (fun H locs hP hS => ?_)
        refine lv_goto (tgt := 343) hx hb dX12_readUnits_208 (by decide) ?_
        exact hJ343 _ _ _ _ _ _ hw hP hS (lv_sub hl [3, 1, 4, 6, 7] rfl)
      refine lv_icmp_le (tgt := 152) hx hb dX12_readUnits_145 (by decide) (fun c61 => ?_) (fun c61 => ?_)
      · have hw := hw.1 c61
        refine lv_iconst (v := 0) hx hb dX12_readUnits_152 (by decide) ?_
        exact hJ153 _ _ _ _ hw hP hS (lv_sub hl [1, 2, 3, 4, 5, 0] rfl)
      have hw := hw.2 c61
      refine lv_iconst (v := 1) hx hb dX12_readUnits_148 (by decide) ?_
      refine lv_goto (tgt := 153) hx hb dX12_readUnits_149 (by decide) ?_
      exact hJ153 _ _ _ _ hw hP hS (lv_sub hl [1, 2, 3, 4, 5, 0] rfl)
    refine lv_if_eq (tgt := 136) hx hb dX12_readUnits_50 (by decide) (fun c62 => ?_) (fun c62 => ?_)
    · have hw := hw.1 c62
      exact hJ136 _ _ _ _ _ hw hP hS (lv_sub hl [2, 3, 4, 5, 0] rfl)
    have hw := hw.2 c62
    refine lv_iconst (v := 0) hx hb dX12_readUnits_53 (by decide) ?_
    refine lv_istore (lv' := [(5, .int (0 : Int32)), (4, .int x4_6), (0, .ref (ad 0)), (1, .int v1_2), (2, .int v2_3), (3, .int v3_4)]) hx hb dX12_readUnits_54 hl (by decide) rfl (fun ls hl => ?_)
    refine hw (fun (v5_63 : Int32) (σ64 : hSt) => ∀ (H : Heap) (locs : List Loc) (ls : Array Slot), va_P D vwCl (hC N ad (bY cy ad w) σ64) H → va_S (hA N ad s.heap.size) s.heap H locs → lv_has ls 9 [(0, .ref (ad 0)), (1, .int v1_2), (2, .int v2_3), (3, .int v3_4), (4, .int x4_6), (5, .int v5_63)] → W p l e (headSpec wsX12_readUnits ({ frames := 2, cells := 0, slots := 0, locals := 40 } : Room)).room s m ([Value.ref (ad 0)] : List Value).toArray below meth c H locs 0 0 (MQ below (va_Qi (fun (r : Int32) (u : hSt) => Q r u) (hE D (fun u : hSt => hC N ad (bY cy ad w) u)) (hA N ad s.heap.size)) ([Value.ref (ad 0)] : List Value).toArray s 0 0 (hA N ad s.heap.size)) (F0 m 56 ls [])) (fun v5_63 σ64 hw H locs ls hP hS hl => ?_) _ _ _ hP hS (lv_sub hl [2, 3, 4, 5, 1, 0] rfl)
    refine lv_aload_n hx hb dX12_readUnits_56 rfl (lv_at hl 0 rfl) ?_
    refine hw_ki (va_runV (As := []) (rest := []) ⟨hx, hb, hml, hown, hts⟩ (kc_X12_peek l D cy N hN ad hJ0 w σ64 _  _ hw) (cwV 0 hts gX12_readUnits_X12_peek rfl rfl rfl (by decide +kernel) ⟨Nat.le_of_ble_eq_true rfl, Nat.le_of_ble_eq_true rfl⟩) (hw_preV hK hN1 hP (Nat.lt_of_lt_of_le (by decide) hN) (bY_0 _) rfl) rfl rfl hl.1 rfl (lv_room (Nat.le_of_ble_eq_true rfl)) dX12_readUnits_57 ⟨Nat.zero_le _, Nat.zero_le _⟩) hS (fun r66 σ65 H locs hw hP hS => ?_)
    obtain ⟨hu_, hw⟩ := hw
    rw [hu_] at hP
    refine hw_ki (va_runS (As := [.int r66]) (rest := []) ⟨hx, hb, hml, hown, hts⟩ (kc_X12_isDigit l D cy N ad (bY cy ad w) σ64 _ r66 _ hw) (va_cwS 1 hts gX12_readUnits_X12_isDigit rfl rfl rfl (by decide +kernel) ⟨Nat.le_of_ble_eq_true rfl, Nat.le_of_ble_eq_true rfl⟩) (hw_pre hK hN1 hP) rfl rfl hl.1 rfl (lv_room (Nat.le_of_ble_eq_true rfl)) dX12_readUnits_60 ⟨Nat.zero_le _, Nat.zero_le _⟩) hS (fun r68 σ67 H locs hw hP hS => ?_)
    obtain ⟨hu_, hw⟩ := hw
    rw [hu_] at hP
    refine lv_if_eq (tgt := 107) hx hb dX12_readUnits_63 (by decide) (fun c69 => ?_) (fun c69 => ?_)
    · have hw := hw.1 c69
      refine lv_aload_n hx hb dX12_readUnits_107 rfl (lv_at hl 0 rfl) ?_
      refine hw_get (v := .int (σ64 0 10)) hx hb hts hiX12 hown hK hP (Nat.lt_of_lt_of_le (by decide) hN) (bY_0 _) rfl 10 (by decide) (List.mem_of_getElem? (i := 2) rfl) rfl rfl dX12_readUnits_108 ?_
      refine lv_iload hx hb dX12_readUnits_111 (lv_at hl 4 rfl) ?_
      refine lv_isub hx hb dX12_readUnits_113 ?_
      refine lv_iconst (v := 2) hx hb dX12_readUnits_114 (by decide) ?_
      refine lv_icmp_gt (tgt := 124) hx hb dX12_readUnits_115 (by decide) (fun c70 => ?_) (fun c70 => ?_)
      · have hw := hw.1 c70
        refine lv_aload_n hx hb dX12_readUnits_124 rfl (lv_at hl 0 rfl) ?_
        refine lv_iconst (v := 2) hx hb dX12_readUnits_125 (by decide) ?_
        refine lv_iload hx hb dX12_readUnits_126 (lv_at hl 4 rfl) ?_
        refine hw_ki (va_runV (As := [.int (2 : Int32), .int x4_6]) (rest := []) ⟨hx, hb, hml, hown, hts⟩ (kc_X12_wrong l D cy N hN ad hJ0 w σ64 _ (2 : Int32) x4_6 _ hw) (cwV 2 hts gX12_readUnits_X12_wrong rfl rfl rfl (by decide +kernel) ⟨Nat.le_of_ble_eq_true rfl, Nat.le_of_ble_eq_true rfl⟩) (hw_preV hK hN1 hP (Nat.lt_of_lt_of_le (by decide) hN) (bY_0 _) rfl) rfl rfl hl.1 rfl (lv_room (Nat.le_of_ble_eq_true rfl)) dX12_readUnits_128 ⟨Nat.zero_le _, Nat.zero_le _⟩) hS (fun r72 σ71 H locs hw hP hS => ?_)
        obtain ⟨hb73, hw⟩ := hw
        exact hw_zret hx hb hr hlocks hb73 (σ71) hw hP hS dX12_readUnits_131
      have hw := hw.2 c70
      refine lv_iload hx hb dX12_readUnits_118 (lv_at hl 5 rfl) ?_
      refine lv_iconst (v := 2) hx hb dX12_readUnits_120 (by decide) ?_
      refine lv_icmp_ge (tgt := 132) hx hb dX12_readUnits_121 (by decide) (fun c74 => ?_) (fun c74 => ?_)
      · have hw := hw.1 c74
        refine lv_aload_n hx hb dX12_readUnits_132 rfl (lv_at hl 0 rfl) ?_
        refine hw_kv (va_runV (As := []) (rest := []) ⟨hx, hb, hml, hown, hts⟩ (kc_X12_blanks l D cy N hN ad hJ0 w σ64 _  _ hw) (cwV 0 hts gX12_readUnits_X12_blanks rfl rfl rfl (by decide +kernel) ⟨Nat.le_of_ble_eq_true rfl, Nat.le_of_ble_eq_true rfl⟩) (hw_preV hK hN1 hP (Nat.lt_of_lt_of_le (by decide) hN) (bY_0 _) rfl) rfl rfl hl.1 rfl (lv_room (Nat.le_of_ble_eq_true rfl)) dX12_readUnits_133 ⟨Nat.zero_le _, Nat.zero_le _⟩) hS (fun σ75 H locs hw hP hS => ?_)
        exact hJ136 _ _ _ _ _ hw hP hS (lv_sub hl [0, 1, 2, 3, 5] rfl)
      have hw := hw.2 c74
      refine lv_aload_n hx hb dX12_readUnits_124 rfl (lv_at hl 0 rfl) ?_
      refine lv_iconst (v := 2) hx hb dX12_readUnits_125 (by decide) ?_
      refine lv_iload hx hb dX12_readUnits_126 (lv_at hl 4 rfl) ?_
      refine hw_ki (va_runV (As := [.int (2 : Int32), .int x4_6]) (rest := []) ⟨hx, hb, hml, hown, hts⟩ (kc_X12_wrong l D cy N hN ad hJ0 w σ64 _ (2 : Int32) x4_6 _ hw) (cwV 2 hts gX12_readUnits_X12_wrong rfl rfl rfl (by decide +kernel) ⟨Nat.le_of_ble_eq_true rfl, Nat.le_of_ble_eq_true rfl⟩) (hw_preV hK hN1 hP (Nat.lt_of_lt_of_le (by decide) hN) (bY_0 _) rfl) rfl rfl hl.1 rfl (lv_room (Nat.le_of_ble_eq_true rfl)) dX12_readUnits_128 ⟨Nat.zero_le _, Nat.zero_le _⟩) hS (fun r77 σ76 H locs hw hP hS => ?_)
      obtain ⟨hb78, hw⟩ := hw
      exact hw_zret hx hb hr hlocks hb78 (σ76) hw hP hS dX12_readUnits_131
    have hw := hw.2 c69
    refine lv_iload hx hb dX12_readUnits_66 (lv_at hl 5 rfl) ?_
    refine lv_sipush (v := 1000) hx hb dX12_readUnits_68 (by decide) ?_
    obtain ⟨J92, ehJ92, hw⟩ := hM_x hw
    have hJ92 : ∀ (z79 : Int32) (H : Heap) (locs : List Loc) (ls : Array Slot), J92 z79 → va_P D vwCl (hC N ad (bY cy ad w) σ64) H → va_S (hA N ad s.heap.size) s.heap H locs → lv_has ls 9 [(0, .ref (ad 0)), (1, .int v1_2), (2, .int v2_3), (3, .int v3_4), (4, .int x4_6)] → W p l e (headSpec wsX12_readUnits ({ frames := 2, cells := 0, slots := 0, locals := 40 } : Room)).room s m ([Value.ref (ad 0)] : List Value).toArray below meth c H locs 0 0 (MQ below (va_Qi (fun (r : Int32) (u : hSt) => Q r u) (hE D (fun u : hSt => hC N ad (bY cy ad w) u)) (hA N ad s.heap.size)) ([Value.ref (ad 0)] : List Value).toArray s 0 0 (hA N ad s.heap.size)) (F0 m 92 ls [.int z79]) := by
      intro z79 H locs ls hw hP hS hl
      rw [ehJ92] at hw
      refine lv_istore (lv' := [(5, .int z79), (0, .ref (ad 0)), (1, .int v1_2), (2, .int v2_3), (3, .int v3_4), (4, .int x4_6)]) hx hb dX12_readUnits_92 hl (by decide) rfl (fun ls hl => ?_)
      refine lv_aload_n hx hb dX12_readUnits_94 rfl (lv_at hl 1 rfl) ?_
      refine lv_dup hx hb dX12_readUnits_95 rfl ?_
      refine hw_get (v := .int (σ64 0 10)) hx hb hts hiX12 hown hK hP (Nat.lt_of_lt_of_le (by decide) hN) (bY_0 _) rfl 10 (by decide) (List.mem_of_getElem? (i := 2) rfl) rfl rfl dX12_readUnits_96 ?_
      refine lv_iconst (v := 1) hx hb dX12_readUnits_99 (by decide) ?_
      refine lv_iadd hx hb dX12_readUnits_100 ?_
      refine hw_put (x := ((σ64 0 10) + (1 : Int32))) (j := 10) hx hb hts hiX12 tyX12 tyX12_ok nmX12 hown hK hJ0 hP hS (Nat.lt_of_lt_of_le (by decide) hN) (bY_0 _) rfl (by decide) (List.mem_of_getElem? (i := 2) rfl) rfl rfl rfl rfl (Nat.le_of_ble_eq_true rfl) (by rw [bY_0]; rfl) dX12_readUnits_101 (fun H locs hP hS => ?_)
      refine lv_goto (tgt := 56) hx hb dX12_readUnits_104 (by decide) ?_
      exact hw _ _ _ hP hS (lv_sub hl [1, 2, 3, 4, 5, 0] rfl)
    refine lv_icmp_ge (tgt := 90) hx hb dX12_readUnits_71 (by decide) (fun c80 => ?_) (fun c80 => ?_)
    · have hw := hw.1 c80
      refine lv_iload hx hb dX12_readUnits_90 (lv_at hl 5 rfl) ?_
      exact hJ92 _ _ _ _ hw hP hS (lv_sub hl [0, 1, 2, 3, 4] rfl)
    have hw := hw.2 c80
    refine lv_bipush (v := 10) hx hb dX12_readUnits_74 (by decide) ?_
    refine lv_iload hx hb dX12_readUnits_76 (lv_at hl 5 rfl) ?_
    refine lv_imul hx hb dX12_readUnits_78 ?_
    refine lv_aload_n hx hb dX12_readUnits_79 rfl (lv_at hl 0 rfl) ?_
    refine hw_ki (va_runV (As := []) (rest := [.int ((10 : Int32) * v5_63)]) ⟨hx, hb, hml, hown, hts⟩ (kc_X12_peek l D cy N hN ad hJ0 w σ64 _  _ hw) (cwV 0 hts gX12_readUnits_X12_peek rfl rfl rfl (by decide +kernel) ⟨Nat.le_of_ble_eq_true rfl, Nat.le_of_ble_eq_true rfl⟩) (hw_preV hK hN1 hP (Nat.lt_of_lt_of_le (by decide) hN) (bY_0 _) rfl) rfl rfl hl.1 rfl (lv_room (Nat.le_of_ble_eq_true rfl)) dX12_readUnits_80 ⟨Nat.zero_le _, Nat.zero_le _⟩) hS (fun r82 σ81 H locs hw hP hS => ?_)
    obtain ⟨hu_, hw⟩ := hw
    rw [hu_] at hP
    refine lv_iadd hx hb dX12_readUnits_83 ?_
    refine lv_bipush (v := 48) hx hb dX12_readUnits_84 (by decide) ?_
    refine lv_isub hx hb dX12_readUnits_86 ?_
    refine lv_goto (tgt := 92) hx hb dX12_readUnits_87 (by decide) ?_
    exact hJ92 _ _ _ _ hw hP hS (lv_sub hl [0, 1, 2, 3, 4] rfl)
  refine lv_icmp_lt (tgt := 34) hx hb dX12_readUnits_23 (by decide) (fun c83 => ?_) (fun c83 => ?_)
  · have hw := hw.1 c83
    exact hJ34  _ _ _ hw hP hS (lv_sub hl [0, 1, 2, 3] rfl)
  have hw := hw.2 c83
  refine lv_iload_n hx hb dX12_readUnits_26 rfl (lv_at hl 3 rfl) ?_
  refine lv_if_ne (tgt := 34) hx hb dX12_readUnits_27 (by decide) (fun c84 => ?_) (fun c84 => ?_)
  · have hw := hw.1 c84
    exact hJ34  _ _ _ hw hP hS (lv_sub hl [0, 1, 2, 3] rfl)
  have hw := hw.2 c84
  refine lv_iload_n hx hb dX12_readUnits_30 rfl (lv_at hl 1 rfl) ?_
  refine lv_if_le (tgt := 405) hx hb dX12_readUnits_31 (by decide) (fun c85 => ?_) (fun c85 => ?_)
  · have hw := hw.1 c85
    refine lv_iconst (v := 1) hx hb dX12_readUnits_405 (by decide) ?_
    exact hw_zret hx hb hr hlocks hbo_1 (σ5) hw hP hS dX12_readUnits_406
  have hw := hw.2 c85
  exact hJ34  _ _ _ hw hP hS (lv_sub hl [0, 1, 2, 3] rfl)
set_option maxHeartbeats 4000000 in
set_option maxRecDepth 100000 in
theorem kc_X12_counted (l : Launch) (D : va_G) (cy : Nat → ClassId) (N : Nat) (hN : 22 ≤ N) (ad : Nat → Nat) (hJ0 : hJ N ad) (w : Nat → Int64) (σ : hSt) (sz : Nat)  (Q : Int64 → hSt → (Nat → Int64) → Prop) (hw : wp_X12_counted  σ w Q) : Met l yX12_counted wsX12_counted ({ frames := 0, cells := 0, slots := 0, locals := 0 } : Room) (va_Pc [.ref (ad 0)] (hB D cy (hC N ad (bY cy ad w) σ) sz)) (va_Ql (fun (r : Int64) (u : hSt × (Nat → Int64)) => Q r u.1 u.2) (hE D (fun u : hSt × (Nat → Int64) => hC N ad (bY cy ad u.2) u.1)) (hA N ad sz)) 0 0 (hA N ad sz) := by
  refine Met.ofW (cc := cX12_counted) (maxL := 8) (ret := (some .long)) (by decide) rfl ?_
  intro p e s m args below meth c s₁ B hml hv
  obtain ⟨rfl, hsz, hP, hK, hN1⟩ := hv
  have hx := B.exec
  have hb := B.bytes
  have hr := B.returns
  have hts := atoms_spec (ws := wsX12_counted) B.pre
  have hown : s.vm.findClass RX12 = some m.cls := findClass_of_methodNamed B.named
  have hlocks := B.notSynchronized
  subst hsz
  have hS : va_S (hA N ad s.heap.size) s.heap s.heap [] := va_S.rf
  have hiX12 : ∀ w ∈ wsX120, w ∈ wsX12_counted := fun _ h => List.mem_cons_of_mem _ (List.mem_append_right _ h)
  have hl := lv_entry ([.ref (ad 0)]) (n := 8) (Nat.le_of_ble_eq_true rfl)
  rw [lg_entry_eq]
  generalize (lg_sl ([.ref (ad 0)]) ++ List.replicate (8 - (lg_sl ([.ref (ad 0)])).length) Slot.unset).toArray = ls at hl ⊢
  have hl : lv_has ls 8 [(0, .ref (ad 0))] := hl
  unfold wp_X12_counted at hw
  refine lv_lconst (v := 0) hx hb dX12_counted_0 (by decide) ?_
  refine lv_lstore_n (lv' := [(1, .long (0 : Int64)), (0, .ref (ad 0))]) hx hb dX12_counted_1 rfl hl (by decide) rfl (fun ls hl => ?_)
  refine lv_iconst (v := 0) hx hb dX12_counted_2 (by decide) ?_
  refine lv_istore_n (lv' := [(3, .int (0 : Int32)), (1, .long (0 : Int64)), (0, .ref (ad 0))]) hx hb dX12_counted_3 rfl hl (by decide) rfl (fun ls hl => ?_)
  refine lv_iconst (v := 0) hx hb dX12_counted_4 (by decide) ?_
  refine lv_istore (lv' := [(4, .int (0 : Int32)), (3, .int (0 : Int32)), (1, .long (0 : Int64)), (0, .ref (ad 0))]) hx hb dX12_counted_5 hl (by decide) rfl (fun ls hl => ?_)
  refine hw (fun (v1_1 : Int64) (v3_2 : Int32) (v4_3 : Int32) (σ4 : hSt) (w5 : (Nat → Int64)) => ∀ (H : Heap) (locs : List Loc) (ls : Array Slot), va_P D vwCl (hC N ad (bY cy ad w5) σ4) H → va_S (hA N ad s.heap.size) s.heap H locs → lv_has ls 8 [(0, .ref (ad 0)), (1, .long v1_1), (3, .int v3_2), (4, .int v4_3)] → W p l e (headSpec wsX12_counted ({ frames := 0, cells := 0, slots := 0, locals := 0 } : Room)).room s m ([Value.ref (ad 0)] : List Value).toArray below meth c H locs 0 0 (MQ below (va_Ql (fun (r : Int64) (u : hSt × (Nat → Int64)) => Q r u.1 u.2) (hE D (fun u : hSt × (Nat → Int64) => hC N ad (bY cy ad u.2) u.1)) (hA N ad s.heap.size)) ([Value.ref (ad 0)] : List Value).toArray s 0 0 (hA N ad s.heap.size)) (F0 m 7 ls [])) (fun v1_1 v3_2 v4_3 σ4 w5 hw H locs ls hP hS hl => ?_) _ _ _ hP hS (lv_sub hl [3, 2, 1, 0] rfl)
  refine lv_iload hx hb dX12_counted_7 (lv_at hl 3 rfl) ?_
  refine lv_aload_n hx hb dX12_counted_9 rfl (lv_at hl 0 rfl) ?_
  refine hw_get (v := .int (σ4 0 20)) hx hb hts hiX12 hown hK hP (Nat.lt_of_lt_of_le (by decide) hN) (bY_0 _) rfl 20 (by decide) (List.mem_of_getElem? (i := 1) rfl) rfl rfl dX12_counted_10 ?_
  refine lv_icmp_ge (tgt := 145) hx hb dX12_counted_13 (by decide) (fun c6 => ?_) (fun c6 => ?_)
  · have hw := hw.1 c6
    refine lv_lload_n hx hb dX12_counted_145 rfl (lv_at hl 1 rfl) ?_
    exact hw_lret hx hb hr hlocks (σ4, w5) hw hP hS dX12_counted_146
  have hw := hw.2 c6
  refine lv_aload_n hx hb dX12_counted_16 rfl (lv_at hl 0 rfl) ?_
  refine hw_get (v := .ref (ad 8)) hx hb hts hiX12 hown hK hP (Nat.lt_of_lt_of_le (by decide) hN) (bY_0 _) rfl 17 (by decide) (List.mem_of_getElem? (i := 2) rfl) rfl rfl dX12_counted_17 ?_
  refine lv_iload hx hb dX12_counted_20 (lv_at hl 3 rfl) ?_
  obtain ⟨hi7, hw⟩ := hw
  refine hw_iald hx hb hK hP (Nat.lt_of_lt_of_le (by decide) hN) (bY_k8 _) hi7 dX12_counted_22 ?_
  refine lv_bipush (v := 40) hx hb dX12_counted_23 (by decide) ?_
  obtain ⟨J123, ehJ123, hw⟩ := hM_x hw
  have hJ123 : ∀ (v1_8 : Int64) (v3_9 : Int32) (σ10 : hSt) (w11 : (Nat → Int64)) (H : Heap) (locs : List Loc) (ls : Array Slot), J123 v1_8 v3_9 σ10 w11 → va_P D vwCl (hC N ad (bY cy ad w11) σ10) H → va_S (hA N ad s.heap.size) s.heap H locs → lv_has ls 8 [(0, .ref (ad 0)), (1, .long v1_8), (3, .int v3_9), (4, .int v4_3)] → W p l e (headSpec wsX12_counted ({ frames := 0, cells := 0, slots := 0, locals := 0 } : Room)).room s m ([Value.ref (ad 0)] : List Value).toArray below meth c H locs 0 0 (MQ below (va_Ql (fun (r : Int64) (u : hSt × (Nat → Int64)) => Q r u.1 u.2) (hE D (fun u : hSt × (Nat → Int64) => hC N ad (bY cy ad u.2) u.1)) (hA N ad s.heap.size)) ([Value.ref (ad 0)] : List Value).toArray s 0 0 (hA N ad s.heap.size)) (F0 m 123 ls []) := by
    intro v1_8 v3_9 σ10 w11 H locs ls hw hP hS hl
    rw [ehJ123] at hw
    refine lv_lload_n hx hb dX12_counted_123 rfl (lv_at hl 1 rfl) ?_
    refine lv_ldc2 (v := 1001) hx hb hown (hts (.constantLong RX12 153 1001) (List.mem_of_getElem? (i := 6) rfl)) dX12_counted_124 ?_
    refine W.lcmp hx hb dX12_counted_127 ?_
    refine lv_if_le (tgt := 137) hx hb dX12_counted_128 (by decide) (fun c12 => ?_) (fun c12 => ?_)
    · have hw := hw.1 c12
      refine lv_lload_n hx hb dX12_counted_137 rfl (lv_at hl 1 rfl) ?_
      refine lv_lstore_n (lv' := [(1, .long v1_8), (0, .ref (ad 0)), (3, .int v3_9), (4, .int v4_3)]) hx hb dX12_counted_138 rfl hl (by decide) rfl (fun ls hl => ?_)
      obtain ⟨x4_13, ex4_13⟩ : ∃ z : Int32, z = v4_3 + (1 : Int32) := ⟨_, rfl⟩
      have hw := hw x4_13 ex4_13
      refine lv_iinc (v := x4_13) (lv' := [(4, .int x4_13), (1, .long v1_8), (0, .ref (ad 0)), (3, .int v3_9)]) hx hb dX12_counted_139 hl (k := 3) rfl (by rw [ex4_13]; rfl) (by decide) rfl (fun ls hl => ?_)
      refine lv_goto (tgt := 7) hx hb dX12_counted_142 (by decide) ?_
      exact hw _ _ _ hP hS (lv_sub hl [2, 1, 3, 0] rfl)
    have hw := hw.2 c12
    refine lv_ldc2 (v := 1001) hx hb hown (hts (.constantLong RX12 153 1001) (List.mem_of_getElem? (i := 6) rfl)) dX12_counted_131 ?_
    refine lv_goto (tgt := 138) hx hb dX12_counted_134 (by decide) ?_
    refine lv_lstore_n (lv' := [(1, .long (1001 : Int64)), (0, .ref (ad 0)), (3, .int v3_9), (4, .int v4_3)]) hx hb dX12_counted_138 rfl hl (by decide) rfl (fun ls hl => ?_)
    obtain ⟨x4_14, ex4_14⟩ : ∃ z : Int32, z = v4_3 + (1 : Int32) := ⟨_, rfl⟩
    have hw := hw x4_14 ex4_14
    refine lv_iinc (v := x4_14) (lv' := [(4, .int x4_14), (1, .long (1001 : Int64)), (0, .ref (ad 0)), (3, .int v3_9)]) hx hb dX12_counted_139 hl (k := 3) rfl (by rw [ex4_14]; rfl) (by decide) rfl (fun ls hl => ?_)
    refine lv_goto (tgt := 7) hx hb dX12_counted_142 (by decide) ?_
    exact hw _ _ _ hP hS (lv_sub hl [2, 1, 3, 0] rfl)
  refine lv_icmp_ne (tgt := 44) hx hb dX12_counted_25 (by decide) (fun c15 => ?_) (fun c15 => ?_)
  · have hw := hw.1 c15
    refine lv_aload_n hx hb dX12_counted_44 rfl (lv_at hl 0 rfl) ?_
    refine hw_get (v := .ref (ad 8)) hx hb hts hiX12 hown hK hP (Nat.lt_of_lt_of_le (by decide) hN) (bY_0 _) rfl 17 (by decide) (List.mem_of_getElem? (i := 2) rfl) rfl rfl dX12_counted_45 ?_
    refine lv_iload hx hb dX12_counted_48 (lv_at hl 3 rfl) ?_
    obtain ⟨hi16, hw⟩ := hw
    refine hw_iald hx hb hK hP (Nat.lt_of_lt_of_le (by decide) hN) (bY_k8 _) hi16 dX12_counted_50 ?_
    refine lv_bipush (v := 41) hx hb dX12_counted_51 (by decide) ?_
    refine lv_icmp_ne (tgt := 100) hx hb dX12_counted_53 (by decide) (fun c17 => ?_) (fun c17 => ?_)
    · have hw := hw.1 c17
      refine lv_aload_n hx hb dX12_counted_100 rfl (lv_at hl 0 rfl) ?_
      refine hw_get (v := .ref (ad 8)) hx hb hts hiX12 hown hK hP (Nat.lt_of_lt_of_le (by decide) hN) (bY_0 _) rfl 17 (by decide) (List.mem_of_getElem? (i := 2) rfl) rfl rfl dX12_counted_101 ?_
      refine lv_iload hx hb dX12_counted_104 (lv_at hl 3 rfl) ?_
      obtain ⟨hi18, hw⟩ := hw
      refine hw_iald hx hb hK hP (Nat.lt_of_lt_of_le (by decide) hN) (bY_k8 _) hi18 dX12_counted_106 ?_
      refine lv_bipush (v := 97) hx hb dX12_counted_107 (by decide) ?_
      refine lv_icmp_lt (tgt := 123) hx hb dX12_counted_109 (by decide) (fun c19 => ?_) (fun c19 => ?_)
      · have hw := hw.1 c19
        exact hJ123 _ _ _ _ _ _ _ hw hP hS (lv_sub hl [0, 1, 2, 3] rfl)
      have hw := hw.2 c19
      refine lv_lload_n hx hb dX12_counted_112 rfl (lv_at hl 1 rfl) ?_
      refine lv_aload_n hx hb dX12_counted_113 rfl (lv_at hl 0 rfl) ?_
      refine hw_get (v := .ref (ad 9)) hx hb hts hiX12 hown hK hP (Nat.lt_of_lt_of_le (by decide) hN) (bY_0 _) rfl 18 (by decide) (List.mem_of_getElem? (i := 5) rfl) rfl rfl dX12_counted_114 ?_
      refine lv_iload hx hb dX12_counted_117 (lv_at hl 3 rfl) ?_
      obtain ⟨hi20, hw⟩ := hw
      refine hw_iald hx hb hK hP (Nat.lt_of_lt_of_le (by decide) hN) (bY_9 _) hi20 dX12_counted_119 ?_
      refine lv_i2l hx hb dX12_counted_120 rfl ?_
      refine lv_ladd hx hb dX12_counted_121 ?_
      refine lv_topl (fun y1_21 ey1_21 => ?_)
      have hw := hw y1_21 ey1_21
      refine lv_lstore_n (lv' := [(1, .long y1_21), (0, .ref (ad 0)), (3, .int v3_2), (4, .int v4_3)]) hx hb dX12_counted_122 rfl hl (by decide) rfl (fun ls hl => ?_)
      exact hJ123 _ _ _ _ _ _ _ hw hP hS (lv_sub hl [1, 0, 2, 3] rfl)
    have hw := hw.2 c17
    refine lv_aload_n hx hb dX12_counted_56 rfl (lv_at hl 0 rfl) ?_
    refine hw_get (v := .ref (ad 10)) hx hb hts hiX12 hown hK hP (Nat.lt_of_lt_of_le (by decide) hN) (bY_0 _) rfl 19 (by decide) (List.mem_of_getElem? (i := 4) rfl) rfl rfl dX12_counted_57 ?_
    refine lv_iload hx hb dX12_counted_60 (lv_at hl 3 rfl) ?_
    obtain ⟨hi22, hw⟩ := hw
    refine hw_iald hx hb hK hP (Nat.lt_of_lt_of_le (by decide) hN) (bY_10 _) hi22 dX12_counted_62 ?_
    refine lv_topi (fun x5_23 ex5_23 => ?_)
    have hw := hw x5_23 ex5_23
    refine lv_istore (lv' := [(5, .int x5_23), (0, .ref (ad 0)), (1, .long v1_1), (3, .int v3_2), (4, .int v4_3)]) hx hb dX12_counted_63 hl (by decide) rfl (fun ls hl => ?_)
    refine lv_lload_n hx hb dX12_counted_65 rfl (lv_at hl 2 rfl) ?_
    refine lv_lstore (lv' := [(6, .long v1_1), (5, .int x5_23), (0, .ref (ad 0)), (1, .long v1_1), (3, .int v3_2), (4, .int v4_3)]) hx hb dX12_counted_66 hl (by decide) rfl (fun ls hl => ?_)
    refine lv_aload_n hx hb dX12_counted_68 rfl (lv_at hl 2 rfl) ?_
    refine hw_get (v := .ref (ad 12)) hx hb hts hiX12 hown hK hP (Nat.lt_of_lt_of_le (by decide) hN) (bY_0 _) rfl 22 (by decide) (List.mem_of_getElem? (i := 3) rfl) rfl rfl dX12_counted_69 ?_
    refine lv_iload hx hb dX12_counted_72 (lv_at hl 1 rfl) ?_
    obtain ⟨hi24, hw⟩ := hw
    refine hw_lald hx hb hK hP hN hi24 dX12_counted_74 ?_
    refine lv_lload hx hb dX12_counted_75 (lv_at hl 0 rfl) ?_
    refine lv_aload_n hx hb dX12_counted_77 rfl (lv_at hl 2 rfl) ?_
    refine hw_get (v := .ref (ad 9)) hx hb hts hiX12 hown hK hP (Nat.lt_of_lt_of_le (by decide) hN) (bY_0 _) rfl 18 (by decide) (List.mem_of_getElem? (i := 5) rfl) rfl rfl dX12_counted_78 ?_
    refine lv_iload hx hb dX12_counted_81 (lv_at hl 1 rfl) ?_
    obtain ⟨hi25, hw⟩ := hw
    refine hw_iald hx hb hK hP (Nat.lt_of_lt_of_le (by decide) hN) (bY_9 _) hi25 dX12_counted_83 ?_
    refine lv_i2l hx hb dX12_counted_84 rfl ?_
    refine lv_lmul hx hb dX12_counted_85 ?_
    refine lv_ladd hx hb dX12_counted_86 ?_
    refine lv_topl (fun y1_26 ey1_26 => ?_)
    have hw := hw y1_26 ey1_26
    refine lv_lstore_n (lv' := [(1, .long y1_26), (6, .long v1_1), (5, .int x5_23), (0, .ref (ad 0)), (3, .int v3_2), (4, .int v4_3)]) hx hb dX12_counted_87 rfl hl (by decide) rfl (fun ls hl => ?_)
    refine lv_aload_n hx hb dX12_counted_88 rfl (lv_at hl 3 rfl) ?_
    refine hw_get (v := .ref (ad 12)) hx hb hts hiX12 hown hK hP (Nat.lt_of_lt_of_le (by decide) hN) (bY_0 _) rfl 22 (by decide) (List.mem_of_getElem? (i := 3) rfl) rfl rfl dX12_counted_89 ?_
    refine lv_iload hx hb dX12_counted_92 (lv_at hl 2 rfl) ?_
    refine lv_lload hx hb dX12_counted_94 (lv_at hl 1 rfl) ?_
    obtain ⟨hi27, hw⟩ := hw
    refine hw_last hx hb hK hJ0 hP hS hN hi27 dX12_counted_96 (fun H locs hP hS => ?_)
    refine lv_goto (tgt := 123) hx hb dX12_counted_97 (by decide) ?_
    exact hJ123 _ _ _ _ _ _ _ hw hP hS (lv_sub hl [3, 0, 4, 5] rfl)
  have hw := hw.2 c15
  refine lv_aload_n hx hb dX12_counted_28 rfl (lv_at hl 0 rfl) ?_
  refine hw_get (v := .ref (ad 12)) hx hb hts hiX12 hown hK hP (Nat.lt_of_lt_of_le (by decide) hN) (bY_0 _) rfl 22 (by decide) (List.mem_of_getElem? (i := 3) rfl) rfl rfl dX12_counted_29 ?_
  refine lv_iload hx hb dX12_counted_32 (lv_at hl 3 rfl) ?_
  refine lv_lload_n hx hb dX12_counted_34 rfl (lv_at hl 1 rfl) ?_
  obtain ⟨hi28, hw⟩ := hw
  refine hw_last hx hb hK hJ0 hP hS hN hi28 dX12_counted_35 (fun H locs hP hS => ?_)
  refine lv_lconst (v := 0) hx hb dX12_counted_36 (by decide) ?_
  refine lv_lstore_n (lv' := [(1, .long (0 : Int64)), (0, .ref (ad 0)), (3, .int v3_2), (4, .int v4_3)]) hx hb dX12_counted_37 rfl hl (by decide) rfl (fun ls hl => ?_)
  obtain ⟨x3_29, ex3_29⟩ : ∃ z : Int32, z = v3_2 + (1 : Int32) := ⟨_, rfl⟩
  have hw := hw x3_29 ex3_29
  refine lv_iinc (v := x3_29) (lv' := [(3, .int x3_29), (1, .long (0 : Int64)), (0, .ref (ad 0)), (4, .int v4_3)]) hx hb dX12_counted_38 hl (k := 2) rfl (by rw [ex3_29]; rfl) (by decide) rfl (fun ls hl => ?_)
  refine lv_goto (tgt := 123) hx hb dX12_counted_41 (by decide) ?_
  exact hJ123 _ _ _ _ _ _ _ hw hP hS (lv_sub hl [2, 1, 0, 3] rfl)
set_option maxHeartbeats 4000000 in
set_option maxRecDepth 100000 in
theorem kc_X12_unroll (l : Launch) (D : va_G) (cy : Nat → ClassId) (N : Nat) (hN : 22 ≤ N) (ad : Nat → Nat) (hJ0 : hJ N ad) (w : Nat → Int64) (σ : hSt) (sz : Nat)  (Q : hSt → Prop) (hw : wp_X12_unroll  σ w Q) : Met l yX12_unroll wsX12_unroll ({ frames := 0, cells := 0, slots := 0, locals := 0 } : Room) (va_Pc [.ref (ad 0)] (hB D cy (hC N ad (bY cy ad w) σ) sz)) (va_Qv (fun u : hSt => Q u) (hE D (fun u : hSt => hC N ad (bY cy ad w) u)) (hA N ad sz)) 0 0 (hA N ad sz) := by
  refine Met.ofW (cc := cX12_unroll) (maxL := 5) (ret := none) (by decide) rfl ?_
  intro p e s m args below meth c s₁ B hml hv
  obtain ⟨rfl, hsz, hP, hK, hN1⟩ := hv
  have hx := B.exec
  have hb := B.bytes
  have hr := B.returns
  have hts := atoms_spec (ws := wsX12_unroll) B.pre
  have hown : s.vm.findClass RX12 = some m.cls := findClass_of_methodNamed B.named
  have hlocks := B.notSynchronized
  subst hsz
  have hS : va_S (hA N ad s.heap.size) s.heap s.heap [] := va_S.rf
  have hiX12 : ∀ w ∈ wsX120, w ∈ wsX12_unroll := fun _ h => List.mem_cons_of_mem _ (List.mem_append_right _ h)
  have hl := lv_entry ([.ref (ad 0)]) (n := 5) (Nat.le_of_ble_eq_true rfl)
  rw [lg_entry_eq]
  generalize (lg_sl ([.ref (ad 0)]) ++ List.replicate (5 - (lg_sl ([.ref (ad 0)])).length) Slot.unset).toArray = ls at hl ⊢
  have hl : lv_has ls 5 [(0, .ref (ad 0))] := hl
  unfold wp_X12_unroll at hw
  refine lv_iconst (v := 0) hx hb dX12_unroll_0 (by decide) ?_
  refine lv_istore_n (lv' := [(1, .int (0 : Int32)), (0, .ref (ad 0))]) hx hb dX12_unroll_1 rfl hl (by decide) rfl (fun ls hl => ?_)
  refine lv_iconst (v := 0) hx hb dX12_unroll_2 (by decide) ?_
  refine lv_istore_n (lv' := [(2, .int (0 : Int32)), (1, .int (0 : Int32)), (0, .ref (ad 0))]) hx hb dX12_unroll_3 rfl hl (by decide) rfl (fun ls hl => ?_)
  refine lv_aload_n hx hb dX12_unroll_4 rfl (lv_at hl 2 rfl) ?_
  refine lv_iconst (v := 0) hx hb dX12_unroll_5 (by decide) ?_
  refine hw_put (x := (0 : Int32)) (j := 6) hx hb hts hiX12 tyX12 tyX12_ok nmX12 hown hK hJ0 hP hS (Nat.lt_of_lt_of_le (by decide) hN) (bY_0 _) rfl (by decide) (List.mem_of_getElem? (i := 1) rfl) rfl rfl rfl rfl (Nat.le_of_ble_eq_true rfl) (by rw [bY_0]; rfl) dX12_unroll_6 (fun H locs hP hS => ?_)
  refine hw (fun (v1_1 : Int32) (v2_2 : Int32) (σ3 : hSt) => ∀ (H : Heap) (locs : List Loc) (ls : Array Slot), va_P D vwCl (hC N ad (bY cy ad w) σ3) H → va_S (hA N ad s.heap.size) s.heap H locs → lv_has ls 5 [(0, .ref (ad 0)), (1, .int v1_1), (2, .int v2_2)] → W p l e (headSpec wsX12_unroll ({ frames := 0, cells := 0, slots := 0, locals := 0 } : Room)).room s m ([Value.ref (ad 0)] : List Value).toArray below meth c H locs 0 0 (MQ below (va_Qv (fun u : hSt => Q u) (hE D (fun u : hSt => hC N ad (bY cy ad w) u)) (hA N ad s.heap.size)) ([Value.ref (ad 0)] : List Value).toArray s 0 0 (hA N ad s.heap.size)) (F0 m 9 ls [])) (fun v1_1 v2_2 σ3 hw H locs ls hP hS hl => ?_) _ _ _ hP hS (lv_sub hl [2, 1, 0] rfl)
  refine lv_iload_n hx hb dX12_unroll_9 rfl (lv_at hl 2 rfl) ?_
  refine lv_aload_n hx hb dX12_unroll_10 rfl (lv_at hl 0 rfl) ?_
  refine hw_get (v := .int (σ3 0 20)) hx hb hts hiX12 hown hK hP (Nat.lt_of_lt_of_le (by decide) hN) (bY_0 _) rfl 20 (by decide) (List.mem_of_getElem? (i := 2) rfl) rfl rfl dX12_unroll_11 ?_
  refine lv_icmp_ge (tgt := 191) hx hb dX12_unroll_14 (by decide) (fun c4 => ?_) (fun c4 => ?_)
  · have hw := hw.1 c4
    exact hw_vret hx hb hr hlocks (σ3) hw hP hS dX12_unroll_191
  have hw := hw.2 c4
  refine lv_aload_n hx hb dX12_unroll_17 rfl (lv_at hl 0 rfl) ?_
  refine hw_get (v := .ref (ad 8)) hx hb hts hiX12 hown hK hP (Nat.lt_of_lt_of_le (by decide) hN) (bY_0 _) rfl 17 (by decide) (List.mem_of_getElem? (i := 3) rfl) rfl rfl dX12_unroll_18 ?_
  refine lv_iload_n hx hb dX12_unroll_21 rfl (lv_at hl 2 rfl) ?_
  obtain ⟨hi5, hw⟩ := hw
  refine hw_iald hx hb hK hP (Nat.lt_of_lt_of_le (by decide) hN) (bY_k8 _) hi5 dX12_unroll_22 ?_
  refine lv_topi (fun x3_6 ex3_6 => ?_)
  have hw := hw x3_6 ex3_6
  refine lv_istore_n (lv' := [(3, .int x3_6), (0, .ref (ad 0)), (1, .int v1_1), (2, .int v2_2)]) hx hb dX12_unroll_23 rfl hl (by decide) rfl (fun ls hl => ?_)
  refine lv_iload_n hx hb dX12_unroll_24 rfl (lv_at hl 0 rfl) ?_
  refine lv_bipush (v := 40) hx hb dX12_unroll_25 (by decide) ?_
  refine lv_icmp_ne (tgt := 60) hx hb dX12_unroll_27 (by decide) (fun c7 => ?_) (fun c7 => ?_)
  · have hw := hw.1 c7
    refine lv_iload_n hx hb dX12_unroll_60 rfl (lv_at hl 0 rfl) ?_
    refine lv_bipush (v := 41) hx hb dX12_unroll_61 (by decide) ?_
    refine lv_icmp_ne (tgt := 101) hx hb dX12_unroll_63 (by decide) (fun c8 => ?_) (fun c8 => ?_)
    · have hw := hw.1 c8
      refine lv_iload_n hx hb dX12_unroll_101 rfl (lv_at hl 0 rfl) ?_
      refine lv_bipush (v := 97) hx hb dX12_unroll_102 (by decide) ?_
      refine lv_icmp_lt (tgt := 180) hx hb dX12_unroll_104 (by decide) (fun c9 => ?_) (fun c9 => ?_)
      · have hw := hw.1 c9
        refine lv_iload_n hx hb dX12_unroll_180 rfl (lv_at hl 0 rfl) ?_
        refine lv_bipush (v := 65) hx hb dX12_unroll_181 (by decide) ?_
        refine lv_isub hx hb dX12_unroll_183 ?_
        refine lv_topi (fun x1_10 ex1_10 => ?_)
        have hw := hw x1_10 ex1_10
        refine lv_istore_n (lv' := [(1, .int x1_10), (3, .int x3_6), (0, .ref (ad 0)), (2, .int v2_2)]) hx hb dX12_unroll_184 rfl hl (by decide) rfl (fun ls hl => ?_)
        obtain ⟨x2_11, ex2_11⟩ : ∃ z : Int32, z = v2_2 + (1 : Int32) := ⟨_, rfl⟩
        have hw := hw x2_11 ex2_11
        refine lv_iinc (v := x2_11) (lv' := [(2, .int x2_11), (1, .int x1_10), (3, .int x3_6), (0, .ref (ad 0))]) hx hb dX12_unroll_185 hl (k := 3) rfl (by rw [ex2_11]; rfl) (by decide) rfl (fun ls hl => ?_)
        refine lv_goto (tgt := 9) hx hb dX12_unroll_188 (by decide) ?_
        exact hw _ _ _ hP hS (lv_sub hl [3, 1, 0] rfl)
      have hw := hw.2 c9
      refine lv_iconst (v := 0) hx hb dX12_unroll_107 (by decide) ?_
      refine lv_istore (lv' := [(4, .int (0 : Int32)), (3, .int x3_6), (0, .ref (ad 0)), (1, .int v1_1), (2, .int v2_2)]) hx hb dX12_unroll_108 hl (by decide) rfl (fun ls hl => ?_)
      refine hw (fun (v4_12 : Int32) (σ13 : hSt) => ∀ (H : Heap) (locs : List Loc) (ls : Array Slot), va_P D vwCl (hC N ad (bY cy ad w) σ13) H → va_S (hA N ad s.heap.size) s.heap H locs → lv_has ls 5 [(0, .ref (ad 0)), (1, .int v1_1), (2, .int v2_2), (3, .int x3_6), (4, .int v4_12)] → W p l e (headSpec wsX12_unroll ({ frames := 0, cells := 0, slots := 0, locals := 0 } : Room)).room s m ([Value.ref (ad 0)] : List Value).toArray below meth c H locs 0 0 (MQ below (va_Qv (fun u : hSt => Q u) (hE D (fun u : hSt => hC N ad (bY cy ad w) u)) (hA N ad s.heap.size)) ([Value.ref (ad 0)] : List Value).toArray s 0 0 (hA N ad s.heap.size)) (F0 m 110 ls [])) (fun v4_12 σ13 hw H locs ls hP hS hl => ?_) _ _ _ hP hS (lv_sub hl [2, 3, 4, 1, 0] rfl)
      refine lv_iload hx hb dX12_unroll_110 (lv_at hl 4 rfl) ?_
      refine lv_aload_n hx hb dX12_unroll_112 rfl (lv_at hl 0 rfl) ?_
      refine hw_get (v := .ref (ad 9)) hx hb hts hiX12 hown hK hP (Nat.lt_of_lt_of_le (by decide) hN) (bY_0 _) rfl 18 (by decide) (List.mem_of_getElem? (i := 6) rfl) rfl rfl dX12_unroll_113 ?_
      refine lv_iload_n hx hb dX12_unroll_116 rfl (lv_at hl 2 rfl) ?_
      obtain ⟨hi14, hw⟩ := hw
      refine hw_iald hx hb hK hP (Nat.lt_of_lt_of_le (by decide) hN) (bY_9 _) hi14 dX12_unroll_117 ?_
      refine lv_icmp_ge (tgt := 177) hx hb dX12_unroll_118 (by decide) (fun c15 => ?_) (fun c15 => ?_)
      · have hw := hw.1 c15
        refine lv_goto (tgt := 185) hx hb dX12_unroll_177 (by decide) ?_
        obtain ⟨x2_16, ex2_16⟩ : ∃ z : Int32, z = v2_2 + (1 : Int32) := ⟨_, rfl⟩
        have hw := hw x2_16 ex2_16
        refine lv_iinc (v := x2_16) (lv' := [(2, .int x2_16), (0, .ref (ad 0)), (1, .int v1_1), (3, .int x3_6), (4, .int v4_12)]) hx hb dX12_unroll_185 hl (k := 2) rfl (by rw [ex2_16]; rfl) (by decide) rfl (fun ls hl => ?_)
        refine lv_goto (tgt := 9) hx hb dX12_unroll_188 (by decide) ?_
        exact hw _ _ _ hP hS (lv_sub hl [1, 2, 0] rfl)
      have hw := hw.2 c15
      refine lv_aload_n hx hb dX12_unroll_121 rfl (lv_at hl 0 rfl) ?_
      refine hw_get (v := .ref (ad 3)) hx hb hts hiX12 hown hK hP (Nat.lt_of_lt_of_le (by decide) hN) (bY_0 _) rfl 4 (by decide) (List.mem_of_getElem? (i := 8) rfl) rfl rfl dX12_unroll_122 ?_
      refine lv_aload_n hx hb dX12_unroll_125 rfl (lv_at hl 0 rfl) ?_
      refine hw_get (v := .int (σ13 0 6)) hx hb hts hiX12 hown hK hP (Nat.lt_of_lt_of_le (by decide) hN) (bY_0 _) rfl 6 (by decide) (List.mem_of_getElem? (i := 1) rfl) rfl rfl dX12_unroll_126 ?_
      refine lv_iload_n hx hb dX12_unroll_129 rfl (lv_at hl 1 rfl) ?_
      obtain ⟨hi17, hw⟩ := hw
      refine hw_iast hx hb hK hJ0 hP hS (Nat.lt_of_lt_of_le (by decide) hN) (fun ρ => bY_3 ρ) hi17 dX12_unroll_130 (fun H locs hP hS => ?_)
      refine lv_aload_n hx hb dX12_unroll_131 rfl (lv_at hl 0 rfl) ?_
      refine hw_get (v := .ref (ad 4)) hx hb hts hiX12 hown hK hP (Nat.lt_of_lt_of_le (by decide) hN) (bY_0 _) rfl 5 (by decide) (List.mem_of_getElem? (i := 9) rfl) rfl rfl dX12_unroll_132 ?_
      refine lv_aload_n hx hb dX12_unroll_135 rfl (lv_at hl 0 rfl) ?_
      refine hw_get (v := .int ((hup σ13 3 ((σ13 0 6)).toNatClampNeg v1_1) 0 6)) hx hb hts hiX12 hown hK hP (Nat.lt_of_lt_of_le (by decide) hN) (bY_0 _) rfl 6 (by decide) (List.mem_of_getElem? (i := 1) rfl) rfl rfl dX12_unroll_136 ?_
      refine lv_iload_n hx hb dX12_unroll_139 rfl (lv_at hl 3 rfl) ?_
      refine lv_bipush (v := 112) hx hb dX12_unroll_140 (by decide) ?_
      obtain ⟨J160, ehJ160, hw⟩ := hM_x hw
      have hJ160 : ∀ (z18 : Int32) (H : Heap) (locs : List Loc) (ls : Array Slot), J160 z18 → va_P D vwCl (hC N ad (bY cy ad w) (hup σ13 3 ((σ13 0 6)).toNatClampNeg v1_1)) H → va_S (hA N ad s.heap.size) s.heap H locs → lv_has ls 5 [(0, .ref (ad 0)), (1, .int v1_1), (2, .int v2_2), (3, .int x3_6), (4, .int v4_12)] → W p l e (headSpec wsX12_unroll ({ frames := 0, cells := 0, slots := 0, locals := 0 } : Room)).room s m ([Value.ref (ad 0)] : List Value).toArray below meth c H locs 0 0 (MQ below (va_Qv (fun u : hSt => Q u) (hE D (fun u : hSt => hC N ad (bY cy ad w) u)) (hA N ad s.heap.size)) ([Value.ref (ad 0)] : List Value).toArray s 0 0 (hA N ad s.heap.size)) (F0 m 160 ls [.int z18, .int ((hup σ13 3 ((σ13 0 6)).toNatClampNeg v1_1) 0 6), .ref (ad 4)]) := by
        intro z18 H locs ls hw hP hS hl
        rw [ehJ160] at hw
        obtain ⟨hi19, hw⟩ := hw
        refine hw_iast hx hb hK hJ0 hP hS (Nat.lt_of_lt_of_le (by decide) hN) (fun ρ => bY_4 ρ) hi19 dX12_unroll_160 (fun H locs hP hS => ?_)
        refine lv_aload_n hx hb dX12_unroll_161 rfl (lv_at hl 0 rfl) ?_
        refine lv_dup hx hb dX12_unroll_162 rfl ?_
        refine hw_get (v := .int ((hup (hup σ13 3 ((σ13 0 6)).toNatClampNeg v1_1) 4 (((hup σ13 3 ((σ13 0 6)).toNatClampNeg v1_1) 0 6)).toNatClampNeg z18) 0 6)) hx hb hts hiX12 hown hK hP (Nat.lt_of_lt_of_le (by decide) hN) (bY_0 _) rfl 6 (by decide) (List.mem_of_getElem? (i := 1) rfl) rfl rfl dX12_unroll_163 ?_
        refine lv_iconst (v := 1) hx hb dX12_unroll_166 (by decide) ?_
        refine lv_iadd hx hb dX12_unroll_167 ?_
        refine hw_put (x := (((hup (hup σ13 3 ((σ13 0 6)).toNatClampNeg v1_1) 4 (((hup σ13 3 ((σ13 0 6)).toNatClampNeg v1_1) 0 6)).toNatClampNeg z18) 0 6) + (1 : Int32))) (j := 6) hx hb hts hiX12 tyX12 tyX12_ok nmX12 hown hK hJ0 hP hS (Nat.lt_of_lt_of_le (by decide) hN) (bY_0 _) rfl (by decide) (List.mem_of_getElem? (i := 1) rfl) rfl rfl rfl rfl (Nat.le_of_ble_eq_true rfl) (by rw [bY_0]; rfl) dX12_unroll_168 (fun H locs hP hS => ?_)
        obtain ⟨x4_20, ex4_20⟩ : ∃ z : Int32, z = v4_12 + (1 : Int32) := ⟨_, rfl⟩
        have hw := hw x4_20 ex4_20
        refine lv_iinc (v := x4_20) (lv' := [(4, .int x4_20), (0, .ref (ad 0)), (1, .int v1_1), (2, .int v2_2), (3, .int x3_6)]) hx hb dX12_unroll_171 hl (k := 4) rfl (by rw [ex4_20]; rfl) (by decide) rfl (fun ls hl => ?_)
        refine lv_goto (tgt := 110) hx hb dX12_unroll_174 (by decide) ?_
        exact hw _ _ _ hP hS (lv_sub hl [1, 2, 3, 4, 0] rfl)
      refine lv_icmp_ne (tgt := 149) hx hb dX12_unroll_142 (by decide) (fun c21 => ?_) (fun c21 => ?_)
      · have hw := hw.1 c21
        refine lv_iload_n hx hb dX12_unroll_149 rfl (lv_at hl 3 rfl) ?_
        refine lv_bipush (v := 98) hx hb dX12_unroll_150 (by decide) ?_
        refine lv_icmp_ne (tgt := 159) hx hb dX12_unroll_152 (by decide) (fun c22 => ?_) (fun c22 => ?_)
        · have hw := hw.1 c22
          refine lv_iconst (v := 2) hx hb dX12_unroll_159 (by decide) ?_
          exact hJ160 _ _ _ _ hw hP hS (lv_sub hl [0, 1, 2, 3, 4] rfl)
        have hw := hw.2 c22
        refine lv_iconst (v := 1) hx hb dX12_unroll_155 (by decide) ?_
        refine lv_goto (tgt := 160) hx hb dX12_unroll_156 (by decide) ?_
        exact hJ160 _ _ _ _ hw hP hS (lv_sub hl [0, 1, 2, 3, 4] rfl)
      have hw := hw.2 c21
      refine lv_iconst (v := 0) hx hb dX12_unroll_145 (by decide) ?_
      refine lv_goto (tgt := 160) hx hb dX12_unroll_146 (by decide) ?_
      exact hJ160 _ _ _ _ hw hP hS (lv_sub hl [0, 1, 2, 3, 4] rfl)
    have hw := hw.2 c8
    refine lv_aload_n hx hb dX12_unroll_66 rfl (lv_at hl 1 rfl) ?_
    refine hw_get (v := .ref (ad 10)) hx hb hts hiX12 hown hK hP (Nat.lt_of_lt_of_le (by decide) hN) (bY_0 _) rfl 19 (by decide) (List.mem_of_getElem? (i := 7) rfl) rfl rfl dX12_unroll_67 ?_
    refine lv_iload_n hx hb dX12_unroll_70 rfl (lv_at hl 3 rfl) ?_
    obtain ⟨hi23, hw⟩ := hw
    refine hw_iald hx hb hK hP (Nat.lt_of_lt_of_le (by decide) hN) (bY_10 _) hi23 dX12_unroll_71 ?_
    refine lv_topi (fun x4_24 ex4_24 => ?_)
    have hw := hw x4_24 ex4_24
    refine lv_istore (lv' := [(4, .int x4_24), (3, .int x3_6), (0, .ref (ad 0)), (1, .int v1_1), (2, .int v2_2)]) hx hb dX12_unroll_72 hl (by decide) rfl (fun ls hl => ?_)
    refine lv_aload_n hx hb dX12_unroll_74 rfl (lv_at hl 2 rfl) ?_
    refine hw_get (v := .ref (ad 13)) hx hb hts hiX12 hown hK hP (Nat.lt_of_lt_of_le (by decide) hN) (bY_0 _) rfl 23 (by decide) (List.mem_of_getElem? (i := 4) rfl) rfl rfl dX12_unroll_75 ?_
    refine lv_iload hx hb dX12_unroll_78 (lv_at hl 0 rfl) ?_
    refine lv_dup2_11 hx hb dX12_unroll_80 rfl rfl ?_
    obtain ⟨hi25, hw⟩ := hw
    refine hw_iald hx hb hK hP (Nat.lt_of_lt_of_le (by decide) hN) (bY_13 _) hi25 dX12_unroll_81 ?_
    refine lv_iconst (v := 1) hx hb dX12_unroll_82 (by decide) ?_
    refine lv_isub hx hb dX12_unroll_83 ?_
    obtain ⟨hi26, hw⟩ := hw
    refine hw_iast hx hb hK hJ0 hP hS (Nat.lt_of_lt_of_le (by decide) hN) (fun ρ => bY_13 ρ) hi26 dX12_unroll_84 (fun H locs hP hS => ?_)
    refine lv_aload_n hx hb dX12_unroll_85 rfl (lv_at hl 2 rfl) ?_
    refine hw_get (v := .ref (ad 13)) hx hb hts hiX12 hown hK hP (Nat.lt_of_lt_of_le (by decide) hN) (bY_0 _) rfl 23 (by decide) (List.mem_of_getElem? (i := 4) rfl) rfl rfl dX12_unroll_86 ?_
    refine lv_iload hx hb dX12_unroll_89 (lv_at hl 0 rfl) ?_
    obtain ⟨hi27, hw⟩ := hw
    refine hw_iald hx hb hK hP (Nat.lt_of_lt_of_le (by decide) hN) (bY_13 _) hi27 dX12_unroll_91 ?_
    refine lv_if_le (tgt := 98) hx hb dX12_unroll_92 (by decide) (fun c28 => ?_) (fun c28 => ?_)
    · have hw := hw.1 c28
      refine lv_goto (tgt := 185) hx hb dX12_unroll_98 (by decide) ?_
      obtain ⟨x2_29, ex2_29⟩ : ∃ z : Int32, z = v2_2 + (1 : Int32) := ⟨_, rfl⟩
      have hw := hw x2_29 ex2_29
      refine lv_iinc (v := x2_29) (lv' := [(2, .int x2_29), (4, .int x4_24), (3, .int x3_6), (0, .ref (ad 0)), (1, .int v1_1)]) hx hb dX12_unroll_185 hl (k := 4) rfl (by rw [ex2_29]; rfl) (by decide) rfl (fun ls hl => ?_)
      refine lv_goto (tgt := 9) hx hb dX12_unroll_188 (by decide) ?_
      exact hw _ _ _ hP hS (lv_sub hl [3, 4, 0] rfl)
    have hw := hw.2 c28
    refine lv_iload hx hb dX12_unroll_95 (lv_at hl 0 rfl) ?_
    refine lv_istore_n (lv' := [(2, .int x4_24), (4, .int x4_24), (3, .int x3_6), (0, .ref (ad 0)), (1, .int v1_1)]) hx hb dX12_unroll_97 rfl hl (by decide) rfl (fun ls hl => ?_)
    refine lv_goto (tgt := 185) hx hb dX12_unroll_98 (by decide) ?_
    obtain ⟨x2_30, ex2_30⟩ : ∃ z : Int32, z = x4_24 + (1 : Int32) := ⟨_, rfl⟩
    have hw := hw x2_30 ex2_30
    refine lv_iinc (v := x2_30) (lv' := [(2, .int x2_30), (4, .int x4_24), (3, .int x3_6), (0, .ref (ad 0)), (1, .int v1_1)]) hx hb dX12_unroll_185 hl (k := 0) rfl (by rw [ex2_30]; rfl) (by decide) rfl (fun ls hl => ?_)
    refine lv_goto (tgt := 9) hx hb dX12_unroll_188 (by decide) ?_
    exact hw _ _ _ hP hS (lv_sub hl [3, 4, 0] rfl)
  have hw := hw.2 c7
  refine lv_aload_n hx hb dX12_unroll_30 rfl (lv_at hl 1 rfl) ?_
  refine hw_get (v := .ref (ad 13)) hx hb hts hiX12 hown hK hP (Nat.lt_of_lt_of_le (by decide) hN) (bY_0 _) rfl 23 (by decide) (List.mem_of_getElem? (i := 4) rfl) rfl rfl dX12_unroll_31 ?_
  refine lv_iload_n hx hb dX12_unroll_34 rfl (lv_at hl 3 rfl) ?_
  refine lv_aload_n hx hb dX12_unroll_35 rfl (lv_at hl 1 rfl) ?_
  refine hw_get (v := .ref (ad 12)) hx hb hts hiX12 hown hK hP (Nat.lt_of_lt_of_le (by decide) hN) (bY_0 _) rfl 22 (by decide) (List.mem_of_getElem? (i := 5) rfl) rfl rfl dX12_unroll_36 ?_
  refine lv_iload_n hx hb dX12_unroll_39 rfl (lv_at hl 3 rfl) ?_
  obtain ⟨hi31, hw⟩ := hw
  refine hw_lald hx hb hK hP hN hi31 dX12_unroll_40 ?_
  refine lv_lconst (v := 0) hx hb dX12_unroll_41 (by decide) ?_
  refine W.lcmp hx hb dX12_unroll_42 ?_
  refine lv_if_ne (tgt := 50) hx hb dX12_unroll_43 (by decide) (fun c32 => ?_) (fun c32 => ?_)
  · have hw := hw.1 c32
    refine lv_aload_n hx hb dX12_unroll_50 rfl (lv_at hl 1 rfl) ?_
    refine hw_get (v := .ref (ad 9)) hx hb hts hiX12 hown hK hP (Nat.lt_of_lt_of_le (by decide) hN) (bY_0 _) rfl 18 (by decide) (List.mem_of_getElem? (i := 6) rfl) rfl rfl dX12_unroll_51 ?_
    refine lv_iload_n hx hb dX12_unroll_54 rfl (lv_at hl 3 rfl) ?_
    obtain ⟨hi33, hw⟩ := hw
    refine hw_iald hx hb hK hP (Nat.lt_of_lt_of_le (by decide) hN) (bY_9 _) hi33 dX12_unroll_55 ?_
    obtain ⟨hi34, hw⟩ := hw
    refine hw_iast hx hb hK hJ0 hP hS (Nat.lt_of_lt_of_le (by decide) hN) (fun ρ => bY_13 ρ) hi34 dX12_unroll_56 (fun H locs hP hS => ?_)
    refine lv_goto (tgt := 185) hx hb dX12_unroll_57 (by decide) ?_
    obtain ⟨x2_35, ex2_35⟩ : ∃ z : Int32, z = v2_2 + (1 : Int32) := ⟨_, rfl⟩
    have hw := hw x2_35 ex2_35
    refine lv_iinc (v := x2_35) (lv' := [(2, .int x2_35), (3, .int x3_6), (0, .ref (ad 0)), (1, .int v1_1)]) hx hb dX12_unroll_185 hl (k := 3) rfl (by rw [ex2_35]; rfl) (by decide) rfl (fun ls hl => ?_)
    refine lv_goto (tgt := 9) hx hb dX12_unroll_188 (by decide) ?_
    exact hw _ _ _ hP hS (lv_sub hl [2, 3, 0] rfl)
  have hw := hw.2 c32
  refine lv_iconst (v := 1) hx hb dX12_unroll_46 (by decide) ?_
  refine lv_goto (tgt := 56) hx hb dX12_unroll_47 (by decide) ?_
  obtain ⟨hi36, hw⟩ := hw
  refine hw_iast hx hb hK hJ0 hP hS (Nat.lt_of_lt_of_le (by decide) hN) (fun ρ => bY_13 ρ) hi36 dX12_unroll_56 (fun H locs hP hS => ?_)
  refine lv_goto (tgt := 185) hx hb dX12_unroll_57 (by decide) ?_
  obtain ⟨x2_37, ex2_37⟩ : ∃ z : Int32, z = v2_2 + (1 : Int32) := ⟨_, rfl⟩
  have hw := hw x2_37 ex2_37
  refine lv_iinc (v := x2_37) (lv' := [(2, .int x2_37), (3, .int x3_6), (0, .ref (ad 0)), (1, .int v1_1)]) hx hb dX12_unroll_185 hl (k := 3) rfl (by rw [ex2_37]; rfl) (by decide) rfl (fun ls hl => ?_)
  refine lv_goto (tgt := 9) hx hb dX12_unroll_188 (by decide) ?_
  exact hw _ _ _ hP hS (lv_sub hl [2, 3, 0] rfl)
set_option maxHeartbeats 4000000 in
set_option maxRecDepth 100000 in
theorem kc_X12_compose (l : Launch) (D : va_G) (cy : Nat → ClassId) (N : Nat) (hN : 22 ≤ N) (ad : Nat → Nat) (hJ0 : hJ N ad) (w : Nat → Int64) (σ : hSt) (sz : Nat)  (Q : Int32 → hSt → (Nat → Int64) → Prop) (hw : wp_X12_compose  σ w Q) : Met l yX12_compose wsX12_compose ({ frames := 3, cells := 0, slots := 0, locals := 68 } : Room) (va_Pc [.ref (ad 0)] (hB D cy (hC N ad (bY cy ad w) σ) sz)) (va_Qi (fun (r : Int32) (u : hSt × (Nat → Int64)) => Q r u.1 u.2) (hE D (fun u : hSt × (Nat → Int64) => hC N ad (bY cy ad u.2) u.1)) (hA N ad sz)) 0 0 (hA N ad sz) := by
  refine Met.ofW (cc := cX12_compose) (maxL := 1) (ret := (some .int)) (by decide) rfl ?_
  intro p e s m args below meth c s₁ B hml hv
  obtain ⟨rfl, hsz, hP, hK, hN1⟩ := hv
  have hx := B.exec
  have hb := B.bytes
  have hr := B.returns
  have hts := atoms_spec (ws := wsX12_compose) B.pre
  have hown : s.vm.findClass RX12 = some m.cls := findClass_of_methodNamed B.named
  have hlocks := B.notSynchronized
  subst hsz
  have hS : va_S (hA N ad s.heap.size) s.heap s.heap [] := va_S.rf
  have hiX12 : ∀ w ∈ wsX120, w ∈ wsX12_compose := fun _ h => List.mem_cons_of_mem _ (List.mem_append_right _ h)
  have hl := lv_entry ([.ref (ad 0)]) (n := 1) (Nat.le_of_ble_eq_true rfl)
  rw [lg_entry_eq]
  generalize (lg_sl ([.ref (ad 0)]) ++ List.replicate (1 - (lg_sl ([.ref (ad 0)])).length) Slot.unset).toArray = ls at hl ⊢
  have hl : lv_has ls 1 [(0, .ref (ad 0))] := hl
  unfold wp_X12_compose at hw
  refine lv_aload_n hx hb dX12_compose_0 rfl (lv_at hl 0 rfl) ?_
  refine lv_iconst (v := 0) hx hb dX12_compose_1 (by decide) ?_
  refine hw_put (x := (0 : Int32)) (j := 0) hx hb hts hiX12 tyX12 tyX12_ok nmX12 hown hK hJ0 hP hS (Nat.lt_of_lt_of_le (by decide) hN) (bY_0 _) rfl (by decide) (List.mem_of_getElem? (i := 1) rfl) rfl rfl rfl rfl (Nat.le_of_ble_eq_true rfl) (by rw [bY_0]; rfl) dX12_compose_2 (fun H locs hP hS => ?_)
  refine lv_aload_n hx hb dX12_compose_5 rfl (lv_at hl 0 rfl) ?_
  refine hw_kv (va_runV (As := []) (rest := []) ⟨hx, hb, hml, hown, hts⟩ (kc_X12_open l D cy N hN ad hJ0 w (hup σ 0 0 (0 : Int32)) _  _ hw) (cwV 0 hts gX12_compose_X12_open rfl rfl rfl (by decide +kernel) ⟨Nat.le_of_ble_eq_true rfl, Nat.le_of_ble_eq_true rfl⟩) (hw_preV hK hN1 hP (Nat.lt_of_lt_of_le (by decide) hN) (bY_0 _) rfl) rfl rfl hl.1 rfl (lv_room (Nat.le_of_ble_eq_true rfl)) dX12_compose_6 ⟨Nat.zero_le _, Nat.zero_le _⟩) hS (fun σ1 H locs hw hP hS => ?_)
  refine lv_aload_n hx hb dX12_compose_9 rfl (lv_at hl 0 rfl) ?_
  refine hw_ki (va_runV (As := []) (rest := []) ⟨hx, hb, hml, hown, hts⟩ (kc_X12_readUnits l D cy N hN ad hJ0 w σ1 _  _ hw) (cwV 0 hts gX12_compose_X12_readUnits rfl rfl rfl (by decide +kernel) ⟨Nat.le_of_ble_eq_true rfl, Nat.le_of_ble_eq_true rfl⟩) (hw_preV hK hN1 hP (Nat.lt_of_lt_of_le (by decide) hN) (bY_0 _) rfl) rfl rfl hl.1 rfl (lv_room (Nat.le_of_ble_eq_true rfl)) dX12_compose_10 ⟨Nat.zero_le _, Nat.zero_le _⟩) hS (fun r3 σ2 H locs hw hP hS => ?_)
  refine lv_if_ne (tgt := 23) hx hb dX12_compose_13 (by decide) (fun c4 => ?_) (fun c4 => ?_)
  · have hw := hw.1 c4
    refine lv_aload_n hx hb dX12_compose_23 rfl (lv_at hl 0 rfl) ?_
    refine hw_kl (va_runV (As := []) (rest := []) ⟨hx, hb, hml, hown, hts⟩ (kc_X12_counted l D cy N hN ad hJ0 w σ2 _  _ hw) (cwV 0 hts gX12_compose_X12_counted rfl rfl rfl (by decide +kernel) ⟨Nat.le_of_ble_eq_true rfl, Nat.le_of_ble_eq_true rfl⟩) (hw_preV hK hN1 hP (Nat.lt_of_lt_of_le (by decide) hN) (bY_0 _) rfl) rfl rfl hl.1 rfl (lv_room (Nat.le_of_ble_eq_true rfl)) dX12_compose_24 ⟨Nat.zero_le _, Nat.zero_le _⟩) hS (fun r6 u_ H locs hw hP hS => ?_)
    obtain ⟨σ5, w7⟩ := u_
    refine lv_ldc2 (v := 1000) hx hb hown (hts (.constantLong RX12 162 1000) (List.mem_of_getElem? (i := 3) rfl)) dX12_compose_27 ?_
    refine W.lcmp hx hb dX12_compose_30 ?_
    refine lv_if_le (tgt := 51) hx hb dX12_compose_31 (by decide) (fun c8 => ?_) (fun c8 => ?_)
    · have hw := hw.1 c8
      refine lv_aload_n hx hb dX12_compose_51 rfl (lv_at hl 0 rfl) ?_
      refine hw_kv (va_runV (As := []) (rest := []) ⟨hx, hb, hml, hown, hts⟩ (kc_X12_unroll l D cy N hN ad hJ0 w7 σ5 _  _ hw) (cwV 0 hts gX12_compose_X12_unroll rfl rfl rfl (by decide +kernel) ⟨Nat.le_of_ble_eq_true rfl, Nat.le_of_ble_eq_true rfl⟩) (hw_preV hK hN1 hP (Nat.lt_of_lt_of_le (by decide) hN) (bY_0 _) rfl) rfl rfl hl.1 rfl (lv_room (Nat.le_of_ble_eq_true rfl)) dX12_compose_52 ⟨Nat.zero_le _, Nat.zero_le _⟩) hS (fun σ9 H locs hw hP hS => ?_)
      refine lv_aload_n hx hb dX12_compose_55 rfl (lv_at hl 0 rfl) ?_
      refine hw_get (v := .int (σ9 0 6)) hx hb hts hiX12 hown hK hP (Nat.lt_of_lt_of_le (by decide) hN) (bY_0 _) rfl 6 (by decide) (List.mem_of_getElem? (i := 5) rfl) rfl rfl dX12_compose_56 ?_
      exact hw_iret hx hb hr hlocks (σ9, w7) hw hP hS dX12_compose_59
    have hw := hw.2 c8
    refine lv_aload_n hx hb dX12_compose_34 rfl (lv_at hl 0 rfl) ?_
    refine lv_iconst (v := 5) hx hb dX12_compose_35 (by decide) ?_
    refine lv_aload_n hx hb dX12_compose_36 rfl (lv_at hl 0 rfl) ?_
    refine hw_get (v := .int (σ5 0 9)) hx hb hts hiX12 hown hK hP (Nat.lt_of_lt_of_le (by decide) hN) (bY_0 _) rfl 9 (by decide) (List.mem_of_getElem? (i := 4) rfl) rfl rfl dX12_compose_37 ?_
    refine hw_ki (va_runV (As := [.int (5 : Int32), .int (σ5 0 9)]) (rest := []) ⟨hx, hb, hml, hown, hts⟩ (kc_X12_wrong l D cy N hN ad hJ0 w7 σ5 _ (5 : Int32) (σ5 0 9) _ hw) (cwV 2 hts gX12_compose_X12_wrong rfl rfl rfl (by decide +kernel) ⟨Nat.le_of_ble_eq_true rfl, Nat.le_of_ble_eq_true rfl⟩) (hw_preV hK hN1 hP (Nat.lt_of_lt_of_le (by decide) hN) (bY_0 _) rfl) rfl rfl hl.1 rfl (lv_room (Nat.le_of_ble_eq_true rfl)) dX12_compose_40 ⟨Nat.zero_le _, Nat.zero_le _⟩) hS (fun r11 σ10 H locs hw hP hS => ?_)
    refine lv_pop hx hb dX12_compose_43 rfl ?_
    refine lv_iconst (v := -1) hx hb dX12_compose_44 (by decide) ?_
    refine lv_aload_n hx hb dX12_compose_45 rfl (lv_at hl 0 rfl) ?_
    refine hw_get (v := .int (σ10 0 9)) hx hb hts hiX12 hown hK hP (Nat.lt_of_lt_of_le (by decide) hN) (bY_0 _) rfl 9 (by decide) (List.mem_of_getElem? (i := 4) rfl) rfl rfl dX12_compose_46 ?_
    refine lv_isub hx hb dX12_compose_49 ?_
    exact hw_iret hx hb hr hlocks (σ10, w7) hw hP hS dX12_compose_50
  have hw := hw.2 c4
  refine lv_iconst (v := -1) hx hb dX12_compose_16 (by decide) ?_
  refine lv_aload_n hx hb dX12_compose_17 rfl (lv_at hl 0 rfl) ?_
  refine hw_get (v := .int (σ2 0 12)) hx hb hts hiX12 hown hK hP (Nat.lt_of_lt_of_le (by decide) hN) (bY_0 _) rfl 12 (by decide) (List.mem_of_getElem? (i := 2) rfl) rfl rfl dX12_compose_18 ?_
  refine lv_isub hx hb dX12_compose_21 ?_
  exact hw_iret hx hb hr hlocks (σ2, w) hw hP hS dX12_compose_22
set_option maxHeartbeats 4000000 in
set_option maxRecDepth 100000 in
theorem kc_X12_rounds (l : Launch) (D : va_G) (cy : Nat → ClassId) (N : Nat) (hN : 22 ≤ N) (ad : Nat → Nat) (hJ0 : hJ N ad) (w : Nat → Int64) (σ : hSt) (sz : Nat) (k1 : Nat) (hk1 : h8_ k1) (Q : hSt → Prop) (hw : wp_X12_rounds k1 σ w Q) : Met l yX12_rounds wsX12_rounds ({ frames := 0, cells := 0, slots := 0, locals := 0 } : Room) (va_Pc [.ref (ad 0), .ref (ad k1)] (hB D cy (hC N ad (bY cy ad w) σ) sz)) (va_Qv (fun u : hSt => Q u) (hE D (fun u : hSt => hC N ad (bY cy ad w) u)) (hA N ad sz)) 0 0 (hA N ad sz) := by
  refine Met.ofW (cc := cX12_rounds) (maxL := 3) (ret := none) (by decide) rfl ?_
  intro p e s m args below meth c s₁ B hml hv
  obtain ⟨rfl, hsz, hP, hK, hN1⟩ := hv
  have hx := B.exec
  have hb := B.bytes
  have hr := B.returns
  have hts := atoms_spec (ws := wsX12_rounds) B.pre
  have hown : s.vm.findClass RX12 = some m.cls := findClass_of_methodNamed B.named
  have hlocks := B.notSynchronized
  subst hsz
  have hS : va_S (hA N ad s.heap.size) s.heap s.heap [] := va_S.rf
  have hiX12 : ∀ w ∈ wsX120, w ∈ wsX12_rounds := fun _ h => List.mem_cons_of_mem _ (List.mem_append_right _ h)
  have hl := lv_entry ([.ref (ad 0), .ref (ad k1)]) (n := 3) (Nat.le_of_ble_eq_true rfl)
  rw [lg_entry_eq]
  generalize (lg_sl ([.ref (ad 0), .ref (ad k1)]) ++ List.replicate (3 - (lg_sl ([.ref (ad 0), .ref (ad k1)])).length) Slot.unset).toArray = ls at hl ⊢
  have hl : lv_has ls 3 [(0, .ref (ad 0)), (1, .ref (ad k1))] := hl
  unfold wp_X12_rounds at hw
  refine lv_iconst (v := 0) hx hb dX12_rounds_0 (by decide) ?_
  refine lv_istore_n (lv' := [(2, .int (0 : Int32)), (0, .ref (ad 0)), (1, .ref (ad k1))]) hx hb dX12_rounds_1 rfl hl (by decide) rfl (fun ls hl => ?_)
  refine hw (fun (v2_1 : Int32) (σ2 : hSt) => ∀ (H : Heap) (locs : List Loc) (ls : Array Slot), va_P D vwCl (hC N ad (bY cy ad w) σ2) H → va_S (hA N ad s.heap.size) s.heap H locs → lv_has ls 3 [(0, .ref (ad 0)), (1, .ref (ad k1)), (2, .int v2_1)] → W p l e (headSpec wsX12_rounds ({ frames := 0, cells := 0, slots := 0, locals := 0 } : Room)).room s m ([Value.ref (ad 0), Value.ref (ad k1)] : List Value).toArray below meth c H locs 0 0 (MQ below (va_Qv (fun u : hSt => Q u) (hE D (fun u : hSt => hC N ad (bY cy ad w) u)) (hA N ad s.heap.size)) ([Value.ref (ad 0), Value.ref (ad k1)] : List Value).toArray s 0 0 (hA N ad s.heap.size)) (F0 m 2 ls [])) (fun v2_1 σ2 hw H locs ls hP hS hl => ?_) _ _ _ hP hS (lv_sub hl [1, 2, 0] rfl)
  refine lv_iload_n hx hb dX12_rounds_2 rfl (lv_at hl 2 rfl) ?_
  refine lv_aload_n hx hb dX12_rounds_3 rfl (lv_at hl 0 rfl) ?_
  refine hw_get (v := .int (σ2 0 1)) hx hb hts hiX12 hown hK hP (Nat.lt_of_lt_of_le (by decide) hN) (bY_0 _) rfl 1 (by decide) (List.mem_of_getElem? (i := 1) rfl) rfl rfl dX12_rounds_4 ?_
  refine lv_icmp_ge (tgt := 22) hx hb dX12_rounds_7 (by decide) (fun c3 => ?_) (fun c3 => ?_)
  · have hw := hw.1 c3
    exact hw_vret hx hb hr hlocks (σ2) hw hP hS dX12_rounds_22
  have hw := hw.2 c3
  refine lv_aload_n hx hb dX12_rounds_10 rfl (lv_at hl 1 rfl) ?_
  refine lv_iload_n hx hb dX12_rounds_11 rfl (lv_at hl 2 rfl) ?_
  refine lv_iload_n hx hb dX12_rounds_12 rfl (lv_at hl 2 rfl) ?_
  refine lv_iconst (v := 1) hx hb dX12_rounds_13 (by decide) ?_
  refine lv_iadd hx hb dX12_rounds_14 ?_
  obtain ⟨hi4, hw⟩ := hw
  refine hw_iast hx hb hK hJ0 hP hS (h8_lt hk1 hN) (fun ρ => bY_8 hk1 ρ) hi4 dX12_rounds_15 (fun H locs hP hS => ?_)
  obtain ⟨x2_5, ex2_5⟩ : ∃ z : Int32, z = v2_1 + (1 : Int32) := ⟨_, rfl⟩
  have hw := hw x2_5 ex2_5
  refine lv_iinc (v := x2_5) (lv' := [(2, .int x2_5), (0, .ref (ad 0)), (1, .ref (ad k1))]) hx hb dX12_rounds_16 hl (k := 2) rfl (by rw [ex2_5]; rfl) (by decide) rfl (fun ls hl => ?_)
  refine lv_goto (tgt := 2) hx hb dX12_rounds_19 (by decide) ?_
  exact hw _ _ _ hP hS (lv_sub hl [1, 2, 0] rfl)
set_option maxHeartbeats 4000000 in
set_option maxRecDepth 100000 in
theorem kc_X12_isRounds (l : Launch) (D : va_G) (cy : Nat → ClassId) (N : Nat) (hN : 22 ≤ N) (ad : Nat → Nat) (hJ0 : hJ N ad) (w : Nat → Int64) (σ : hSt) (sz : Nat) (k1 : Nat) (hk1 : h8_ k1) (Q : Int32 → Prop) (hw : wp_X12_isRounds k1 σ w Q) : Met l yX12_isRounds wsX12_isRounds ({ frames := 0, cells := 0, slots := 0, locals := 0 } : Room) (va_Pc [.ref (ad 0), .ref (ad k1)] (hB D cy (hC N ad (bY cy ad w) σ) sz)) (va_Qi (fun (r : Int32) (u : hSt) => u = σ ∧ Q r) (hE D (fun u : hSt => hC N ad (bY cy ad w) u)) (hA N ad sz)) 0 0 (hA N ad sz) := by
  refine Met.ofW (cc := cX12_isRounds) (maxL := 3) (ret := (some .boolean)) (by decide) rfl ?_
  intro p e s m args below meth c s₁ B hml hv
  obtain ⟨rfl, hsz, hP, hK, hN1⟩ := hv
  have hx := B.exec
  have hb := B.bytes
  have hr := B.returns
  have hts := atoms_spec (ws := wsX12_isRounds) B.pre
  have hown : s.vm.findClass RX12 = some m.cls := findClass_of_methodNamed B.named
  have hlocks := B.notSynchronized
  subst hsz
  have hS : va_S (hA N ad s.heap.size) s.heap s.heap [] := va_S.rf
  have hiX12 : ∀ w ∈ wsX120, w ∈ wsX12_isRounds := fun _ h => List.mem_cons_of_mem _ (List.mem_append_right _ h)
  have hl := lv_entry ([.ref (ad 0), .ref (ad k1)]) (n := 3) (Nat.le_of_ble_eq_true rfl)
  rw [lg_entry_eq]
  generalize (lg_sl ([.ref (ad 0), .ref (ad k1)]) ++ List.replicate (3 - (lg_sl ([.ref (ad 0), .ref (ad k1)])).length) Slot.unset).toArray = ls at hl ⊢
  have hl : lv_has ls 3 [(0, .ref (ad 0)), (1, .ref (ad k1))] := hl
  unfold wp_X12_isRounds at hw
  refine lv_iconst (v := 0) hx hb dX12_isRounds_0 (by decide) ?_
  refine lv_istore_n (lv' := [(2, .int (0 : Int32)), (0, .ref (ad 0)), (1, .ref (ad k1))]) hx hb dX12_isRounds_1 rfl hl (by decide) rfl (fun ls hl => ?_)
  refine hw (fun (v2_1 : Int32) => ∀ (H : Heap) (locs : List Loc) (ls : Array Slot), va_P D vwCl (hC N ad (bY cy ad w) σ) H → va_S (hA N ad s.heap.size) s.heap H locs → lv_has ls 3 [(0, .ref (ad 0)), (1, .ref (ad k1)), (2, .int v2_1)] → W p l e (headSpec wsX12_isRounds ({ frames := 0, cells := 0, slots := 0, locals := 0 } : Room)).room s m ([Value.ref (ad 0), Value.ref (ad k1)] : List Value).toArray below meth c H locs 0 0 (MQ below (va_Qi (fun (r : Int32) (u : hSt) => u = σ ∧ Q r) (hE D (fun u : hSt => hC N ad (bY cy ad w) u)) (hA N ad s.heap.size)) ([Value.ref (ad 0), Value.ref (ad k1)] : List Value).toArray s 0 0 (hA N ad s.heap.size)) (F0 m 2 ls [])) (fun v2_1 hw H locs ls hP hS hl => ?_) _ _ _ hP hS (lv_sub hl [1, 2, 0] rfl)
  refine lv_iload_n hx hb dX12_isRounds_2 rfl (lv_at hl 2 rfl) ?_
  refine lv_aload_n hx hb dX12_isRounds_3 rfl (lv_at hl 0 rfl) ?_
  refine hw_get (v := .int (σ 0 1)) hx hb hts hiX12 hown hK hP (Nat.lt_of_lt_of_le (by decide) hN) (bY_0 _) rfl 1 (by decide) (List.mem_of_getElem? (i := 1) rfl) rfl rfl dX12_isRounds_4 ?_
  refine lv_icmp_ge (tgt := 27) hx hb dX12_isRounds_7 (by decide) (fun c2 => ?_) (fun c2 => ?_)
  · have hw := hw.1 c2
    refine lv_iconst (v := 1) hx hb dX12_isRounds_27 (by decide) ?_
    exact hw_zret hx hb hr hlocks hbo_1 (σ) ⟨rfl, hw⟩ hP hS dX12_isRounds_28
  have hw := hw.2 c2
  refine lv_aload_n hx hb dX12_isRounds_10 rfl (lv_at hl 1 rfl) ?_
  refine lv_iload_n hx hb dX12_isRounds_11 rfl (lv_at hl 2 rfl) ?_
  obtain ⟨hi3, hw⟩ := hw
  refine hw_iald hx hb hK hP (h8_lt hk1 hN) (bY_8 hk1 _) hi3 dX12_isRounds_12 ?_
  refine lv_iload_n hx hb dX12_isRounds_13 rfl (lv_at hl 2 rfl) ?_
  refine lv_iconst (v := 1) hx hb dX12_isRounds_14 (by decide) ?_
  refine lv_iadd hx hb dX12_isRounds_15 ?_
  refine lv_icmp_eq (tgt := 21) hx hb dX12_isRounds_16 (by decide) (fun c4 => ?_) (fun c4 => ?_)
  · have hw := hw.1 c4
    obtain ⟨x2_5, ex2_5⟩ : ∃ z : Int32, z = v2_1 + (1 : Int32) := ⟨_, rfl⟩
    have hw := hw x2_5 ex2_5
    refine lv_iinc (v := x2_5) (lv' := [(2, .int x2_5), (0, .ref (ad 0)), (1, .ref (ad k1))]) hx hb dX12_isRounds_21 hl (k := 2) rfl (by rw [ex2_5]; rfl) (by decide) rfl (fun ls hl => ?_)
    refine lv_goto (tgt := 2) hx hb dX12_isRounds_24 (by decide) ?_
    exact hw _ _ _ hP hS (lv_sub hl [1, 2, 0] rfl)
  have hw := hw.2 c4
  refine lv_iconst (v := 0) hx hb dX12_isRounds_19 (by decide) ?_
  exact hw_zret hx hb hr hlocks hbo_0 (σ) ⟨rfl, hw⟩ hP hS dX12_isRounds_20

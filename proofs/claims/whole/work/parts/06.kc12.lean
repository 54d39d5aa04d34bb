set_option maxHeartbeats 4000000 in
set_option maxRecDepth 100000 in
theorem kc_X12_findHeads (l : Launch) (D : va_G) (cy : Nat → ClassId) (N : Nat) (hN : 22 ≤ N) (ad : Nat → Nat) (hJ0 : hJ N ad) (w : Nat → Int64) (σ : hSt) (sz : Nat) (a1 : Int32) (a2 : Int32) (Q : hSt → Prop) (hw : wp_X12_findHeads a1 a2 σ w Q) : Met l yX12_findHeads wsX12_findHeads ({ frames := 1, cells := 0, slots := 0, locals := 24 } : Room) (va_Pc [.ref (ad 0), .int a1, .int a2] (hB D cy (hC N ad (bY cy ad w) σ) sz)) (va_Qv (fun u : hSt => Q u) (hE D (fun u : hSt => hC N ad (bY cy ad w) u)) (hA N ad sz)) 0 0 (hA N ad sz) := by
  refine Met.ofW (cc := cX12_findHeads) (maxL := 8) (ret := none) (by decide) rfl ?_
  intro p e s m args below meth c s₁ B hml hv
  obtain ⟨rfl, hsz, hP, hK, hN1⟩ := hv
  have hx := B.exec
  have hb := B.bytes
  have hr := B.returns
  have hts := atoms_spec (ws := wsX12_findHeads) B.pre
  have hown : s.vm.findClass RX12 = some m.cls := findClass_of_methodNamed B.named
  have hlocks := B.notSynchronized
  subst hsz
  have hS : va_S (hA N ad s.heap.size) s.heap s.heap [] := va_S.rf
  have hiX12 : ∀ w ∈ wsX120, w ∈ wsX12_findHeads := fun _ h => List.mem_cons_of_mem _ (List.mem_append_right _ h)
  have hl := lv_entry ([.ref (ad 0), .int a1, .int a2]) (n := 8) (Nat.le_of_ble_eq_true rfl)
  rw [lg_entry_eq]
  generalize (lg_sl ([.ref (ad 0), .int a1, .int a2]) ++ List.replicate (8 - (lg_sl ([.ref (ad 0), .int a1, .int a2])).length) Slot.unset).toArray = ls at hl ⊢
  have hl : lv_has ls 8 [(0, .ref (ad 0)), (1, .int a1), (2, .int a2)] := hl
  unfold wp_X12_findHeads at hw
  refine lv_aload_n hx hb dX12_findHeads_0 rfl (lv_at hl 0 rfl) ?_
  refine lv_iconst (v := 0) hx hb dX12_findHeads_1 (by decide) ?_
  refine hw_put (x := (0 : Int32)) (j := 27) hx hb hts hiX12 tyX12 tyX12_ok nmX12 hown hK hJ0 hP hS (Nat.lt_of_lt_of_le (by decide) hN) (bY_0 _) rfl (by decide) (List.mem_of_getElem? (i := 1) rfl) rfl rfl rfl rfl (Nat.le_of_ble_eq_true rfl) (by rw [bY_0]; rfl) dX12_findHeads_2 (fun H locs hP hS => ?_)
  refine lv_iconst (v := 0) hx hb dX12_findHeads_5 (by decide) ?_
  refine lv_istore_n (lv' := [(3, .int (0 : Int32)), (0, .ref (ad 0)), (1, .int a1), (2, .int a2)]) hx hb dX12_findHeads_6 rfl hl (by decide) rfl (fun ls hl => ?_)
  refine hw (fun (v3_1 : Int32) (σ2 : hSt) => ∀ (H : Heap) (locs : List Loc) (ls : Array Slot), va_P D vwCl (hC N ad (bY cy ad w) σ2) H → va_S (hA N ad s.heap.size) s.heap H locs → lv_has ls 8 [(0, .ref (ad 0)), (1, .int a1), (2, .int a2), (3, .int v3_1)] → W p l e (headSpec wsX12_findHeads ({ frames := 1, cells := 0, slots := 0, locals := 24 } : Room)).room s m ([Value.ref (ad 0), Value.int a1, Value.int a2] : List Value).toArray below meth c H locs 0 0 (MQ below (va_Qv (fun u : hSt => Q u) (hE D (fun u : hSt => hC N ad (bY cy ad w) u)) (hA N ad s.heap.size)) ([Value.ref (ad 0), Value.int a1, Value.int a2] : List Value).toArray s 0 0 (hA N ad s.heap.size)) (F0 m 7 ls [])) (fun v3_1 σ2 hw H locs ls hP hS hl => ?_) _ _ _ hP hS (lv_sub hl [1, 2, 3, 0] rfl)
  refine lv_iload_n hx hb dX12_findHeads_7 rfl (lv_at hl 3 rfl) ?_
  refine lv_aload_n hx hb dX12_findHeads_8 rfl (lv_at hl 0 rfl) ?_
  refine hw_get (v := .ref (ad 1)) hx hb hts hiX12 hown hK hP (Nat.lt_of_lt_of_le (by decide) hN) (bY_0 _) rfl 2 (by decide) (List.mem_of_getElem? (i := 2) rfl) rfl rfl dX12_findHeads_9 ?_
  refine lv_iload_n hx hb dX12_findHeads_12 rfl (lv_at hl 1 rfl) ?_
  obtain ⟨hi3, hw⟩ := hw
  refine hw_iald hx hb hK hP (Nat.lt_of_lt_of_le (by decide) hN) (bY_1 _) hi3 dX12_findHeads_13 ?_
  refine lv_icmp_ge (tgt := 240) hx hb dX12_findHeads_14 (by decide) (fun c4 => ?_) (fun c4 => ?_)
  · have hw := hw.1 c4
    exact hw_vret hx hb hr hlocks (σ2) hw hP hS dX12_findHeads_240
  have hw := hw.2 c4
  refine lv_iconst (v := 0) hx hb dX12_findHeads_17 (by decide) ?_
  refine lv_istore (lv' := [(4, .int (0 : Int32)), (0, .ref (ad 0)), (1, .int a1), (2, .int a2), (3, .int v3_1)]) hx hb dX12_findHeads_18 hl (by decide) rfl (fun ls hl => ?_)
  refine hw (fun (v4_5 : Int32) (σ6 : hSt) => ∀ (H : Heap) (locs : List Loc) (ls : Array Slot), va_P D vwCl (hC N ad (bY cy ad w) σ6) H → va_S (hA N ad s.heap.size) s.heap H locs → lv_has ls 8 [(0, .ref (ad 0)), (1, .int a1), (2, .int a2), (3, .int v3_1), (4, .int v4_5)] → W p l e (headSpec wsX12_findHeads ({ frames := 1, cells := 0, slots := 0, locals := 24 } : Room)).room s m ([Value.ref (ad 0), Value.int a1, Value.int a2] : List Value).toArray below meth c H locs 0 0 (MQ below (va_Qv (fun u : hSt => Q u) (hE D (fun u : hSt => hC N ad (bY cy ad w) u)) (hA N ad s.heap.size)) ([Value.ref (ad 0), Value.int a1, Value.int a2] : List Value).toArray s 0 0 (hA N ad s.heap.size)) (F0 m 20 ls [])) (fun v4_5 σ6 hw H locs ls hP hS hl => ?_) _ _ _ hP hS (lv_sub hl [1, 2, 3, 4, 0] rfl)
  refine lv_iload hx hb dX12_findHeads_20 (lv_at hl 4 rfl) ?_
  refine lv_aload_n hx hb dX12_findHeads_22 rfl (lv_at hl 0 rfl) ?_
  refine hw_get (v := .ref (ad 1)) hx hb hts hiX12 hown hK hP (Nat.lt_of_lt_of_le (by decide) hN) (bY_0 _) rfl 2 (by decide) (List.mem_of_getElem? (i := 2) rfl) rfl rfl dX12_findHeads_23 ?_
  refine lv_iload_n hx hb dX12_findHeads_26 rfl (lv_at hl 2 rfl) ?_
  obtain ⟨hi7, hw⟩ := hw
  refine hw_iald hx hb hK hP (Nat.lt_of_lt_of_le (by decide) hN) (bY_1 _) hi7 dX12_findHeads_27 ?_
  refine lv_icmp_ge (tgt := 234) hx hb dX12_findHeads_28 (by decide) (fun c8 => ?_) (fun c8 => ?_)
  · have hw := hw.1 c8
    obtain ⟨x3_9, ex3_9⟩ : ∃ z : Int32, z = v3_1 + (1 : Int32) := ⟨_, rfl⟩
    have hw := hw x3_9 ex3_9
    refine lv_iinc (v := x3_9) (lv' := [(3, .int x3_9), (0, .ref (ad 0)), (1, .int a1), (2, .int a2), (4, .int v4_5)]) hx hb dX12_findHeads_234 hl (k := 3) rfl (by rw [ex3_9]; rfl) (by decide) rfl (fun ls hl => ?_)
    refine lv_goto (tgt := 7) hx hb dX12_findHeads_237 (by decide) ?_
    exact hw _ _ _ hP hS (lv_sub hl [1, 2, 3, 0] rfl)
  have hw := hw.2 c8
  refine lv_aload_n hx hb dX12_findHeads_31 rfl (lv_at hl 0 rfl) ?_
  refine lv_aload_n hx hb dX12_findHeads_32 rfl (lv_at hl 0 rfl) ?_
  refine hw_get (v := .ref (ad 14)) hx hb hts hiX12 hown hK hP (Nat.lt_of_lt_of_le (by decide) hN) (bY_0 _) rfl 24 (by decide) (List.mem_of_getElem? (i := 3) rfl) rfl rfl dX12_findHeads_33 ?_
  refine hw_kv (va_runV (As := [.ref (ad 14)]) (rest := []) ⟨hx, hb, hml, hown, hts⟩ (kc_X12_rounds l D cy N hN ad hJ0 w σ6 _ 14 h8_14 _ hw) (cwV 1 hts gX12_findHeads_X12_rounds rfl rfl rfl (by decide +kernel) ⟨Nat.le_of_ble_eq_true rfl, Nat.le_of_ble_eq_true rfl⟩) (hw_preV hK hN1 hP (Nat.lt_of_lt_of_le (by decide) hN) (bY_0 _) rfl) rfl rfl hl.1 rfl (lv_room (Nat.le_of_ble_eq_true rfl)) dX12_findHeads_36 ⟨Nat.zero_le _, Nat.zero_le _⟩) hS (fun σ10 H locs hw hP hS => ?_)
  refine lv_iconst (v := 0) hx hb dX12_findHeads_39 (by decide) ?_
  refine lv_istore (lv' := [(5, .int (0 : Int32)), (0, .ref (ad 0)), (1, .int a1), (2, .int a2), (3, .int v3_1), (4, .int v4_5)]) hx hb dX12_findHeads_40 hl (by decide) rfl (fun ls hl => ?_)
  refine hw (fun (v5_11 : Int32) (σ12 : hSt) => ∀ (H : Heap) (locs : List Loc) (ls : Array Slot), va_P D vwCl (hC N ad (bY cy ad w) σ12) H → va_S (hA N ad s.heap.size) s.heap H locs → lv_has ls 8 [(0, .ref (ad 0)), (1, .int a1), (2, .int a2), (3, .int v3_1), (4, .int v4_5), (5, .int v5_11)] → W p l e (headSpec wsX12_findHeads ({ frames := 1, cells := 0, slots := 0, locals := 24 } : Room)).room s m ([Value.ref (ad 0), Value.int a1, Value.int a2] : List Value).toArray below meth c H locs 0 0 (MQ below (va_Qv (fun u : hSt => Q u) (hE D (fun u : hSt => hC N ad (bY cy ad w) u)) (hA N ad s.heap.size)) ([Value.ref (ad 0), Value.int a1, Value.int a2] : List Value).toArray s 0 0 (hA N ad s.heap.size)) (F0 m 42 ls [])) (fun v5_11 σ12 hw H locs ls hP hS hl => ?_) _ _ _ hP hS (lv_sub hl [1, 2, 3, 4, 5, 0] rfl)
  refine lv_iload hx hb dX12_findHeads_42 (lv_at hl 5 rfl) ?_
  refine lv_iload_n hx hb dX12_findHeads_44 rfl (lv_at hl 3 rfl) ?_
  refine lv_icmp_ge (tgt := 74) hx hb dX12_findHeads_45 (by decide) (fun c13 => ?_) (fun c13 => ?_)
  · have hw := hw.1 c13
    refine lv_iload hx hb dX12_findHeads_74 (lv_at hl 4 rfl) ?_
    refine lv_iconst (v := 1) hx hb dX12_findHeads_76 (by decide) ?_
    refine lv_isub hx hb dX12_findHeads_77 ?_
    refine lv_topi (fun x5_14 ex5_14 => ?_)
    have hw := hw x5_14 ex5_14
    refine lv_istore (lv' := [(5, .int x5_14), (0, .ref (ad 0)), (1, .int a1), (2, .int a2), (3, .int v3_1), (4, .int v4_5)]) hx hb dX12_findHeads_78 hl (by decide) rfl (fun ls hl => ?_)
    refine hw (fun (v5_15 : Int32) (σ16 : hSt) => ∀ (H : Heap) (locs : List Loc) (ls : Array Slot), va_P D vwCl (hC N ad (bY cy ad w) σ16) H → va_S (hA N ad s.heap.size) s.heap H locs → lv_has ls 8 [(0, .ref (ad 0)), (1, .int a1), (2, .int a2), (3, .int v3_1), (4, .int v4_5), (5, .int v5_15)] → W p l e (headSpec wsX12_findHeads ({ frames := 1, cells := 0, slots := 0, locals := 24 } : Room)).room s m ([Value.ref (ad 0), Value.int a1, Value.int a2] : List Value).toArray below meth c H locs 0 0 (MQ below (va_Qv (fun u : hSt => Q u) (hE D (fun u : hSt => hC N ad (bY cy ad w) u)) (hA N ad s.heap.size)) ([Value.ref (ad 0), Value.int a1, Value.int a2] : List Value).toArray s 0 0 (hA N ad s.heap.size)) (F0 m 80 ls [])) (fun v5_15 σ16 hw H locs ls hP hS hl => ?_) _ _ _ hP hS (lv_sub hl [1, 2, 3, 4, 5, 0] rfl)
    refine lv_iload hx hb dX12_findHeads_80 (lv_at hl 5 rfl) ?_
    refine lv_if_lt (tgt := 111) hx hb dX12_findHeads_82 (by decide) (fun c17 => ?_) (fun c17 => ?_)
    · have hw := hw.1 c17
      refine lv_aload_n hx hb dX12_findHeads_111 rfl (lv_at hl 0 rfl) ?_
      refine lv_aload_n hx hb dX12_findHeads_112 rfl (lv_at hl 0 rfl) ?_
      refine hw_get (v := .ref (ad 14)) hx hb hts hiX12 hown hK hP (Nat.lt_of_lt_of_le (by decide) hN) (bY_0 _) rfl 24 (by decide) (List.mem_of_getElem? (i := 3) rfl) rfl rfl dX12_findHeads_113 ?_
      refine hw_ki (va_runV (As := [.ref (ad 14)]) (rest := []) ⟨hx, hb, hml, hown, hts⟩ (kc_X12_number l D cy N hN ad hJ0 w σ16 _ 14 h8_14 _ hw) (cwV 1 hts gX12_findHeads_X12_number rfl rfl rfl (by decide +kernel) ⟨Nat.le_of_ble_eq_true rfl, Nat.le_of_ble_eq_true rfl⟩) (hw_preV hK hN1 hP (Nat.lt_of_lt_of_le (by decide) hN) (bY_0 _) rfl) rfl rfl hl.1 rfl (lv_room (Nat.le_of_ble_eq_true rfl)) dX12_findHeads_116 ⟨Nat.zero_le _, Nat.zero_le _⟩) hS (fun r19 σ18 H locs hw hP hS => ?_)
      obtain ⟨hu_, hw⟩ := hw
      rw [hu_] at hP
      refine lv_istore (lv' := [(5, .int r19), (0, .ref (ad 0)), (1, .int a1), (2, .int a2), (3, .int v3_1), (4, .int v4_5)]) hx hb dX12_findHeads_119 hl (by decide) rfl (fun ls hl => ?_)
      refine lv_aload_n hx hb dX12_findHeads_121 rfl (lv_at hl 1 rfl) ?_
      refine hw_get (v := .int (σ16 0 27)) hx hb hts hiX12 hown hK hP (Nat.lt_of_lt_of_le (by decide) hN) (bY_0 _) rfl 27 (by decide) (List.mem_of_getElem? (i := 1) rfl) rfl rfl dX12_findHeads_122 ?_
      refine lv_topi (fun x6_20 ex6_20 => ?_)
      have hw := hw x6_20 ex6_20
      refine lv_istore (lv' := [(6, .int x6_20), (5, .int r19), (0, .ref (ad 0)), (1, .int a1), (2, .int a2), (3, .int v3_1), (4, .int v4_5)]) hx hb dX12_findHeads_125 hl (by decide) rfl (fun ls hl => ?_)
      refine hw (fun (v6_21 : Int32) => ∀ (H : Heap) (locs : List Loc) (ls : Array Slot), va_P D vwCl (hC N ad (bY cy ad w) σ16) H → va_S (hA N ad s.heap.size) s.heap H locs → lv_has ls 8 [(0, .ref (ad 0)), (1, .int a1), (2, .int a2), (3, .int v3_1), (4, .int v4_5), (5, .int r19), (6, .int v6_21)] → W p l e (headSpec wsX12_findHeads ({ frames := 1, cells := 0, slots := 0, locals := 24 } : Room)).room s m ([Value.ref (ad 0), Value.int a1, Value.int a2] : List Value).toArray below meth c H locs 0 0 (MQ below (va_Qv (fun u : hSt => Q u) (hE D (fun u : hSt => hC N ad (bY cy ad w) u)) (hA N ad s.heap.size)) ([Value.ref (ad 0), Value.int a1, Value.int a2] : List Value).toArray s 0 0 (hA N ad s.heap.size)) (F0 m 127 ls [])) (fun v6_21 hw H locs ls hP hS hl => ?_) _ _ _ hP hS (lv_sub hl [2, 3, 4, 5, 6, 1, 0] rfl)
      refine lv_iload hx hb dX12_findHeads_127 (lv_at hl 6 rfl) ?_
      obtain ⟨J152, ehJ152, hw⟩ := hM_x hw
      have hJ152 : ∀ (H : Heap) (locs : List Loc) (ls : Array Slot), J152 → va_P D vwCl (hC N ad (bY cy ad w) σ16) H → va_S (hA N ad s.heap.size) s.heap H locs → lv_has ls 8 [(0, .ref (ad 0)), (1, .int a1), (2, .int a2), (3, .int v3_1), (4, .int v4_5), (5, .int r19), (6, .int v6_21)] → W p l e (headSpec wsX12_findHeads ({ frames := 1, cells := 0, slots := 0, locals := 24 } : Room)).room s m ([Value.ref (ad 0), Value.int a1, Value.int a2] : List Value).toArray below meth c H locs 0 0 (MQ below (va_Qv (fun u : hSt => Q u) (hE D (fun u : hSt => hC N ad (bY cy ad w) u)) (hA N ad s.heap.size)) ([Value.ref (ad 0), Value.int a1, Value.int a2] : List Value).toArray s 0 0 (hA N ad s.heap.size)) (F0 m 152 ls []) := by
        intro H locs ls hw hP hS hl
        rw [ehJ152] at hw
        refine lv_iload hx hb dX12_findHeads_152 (lv_at hl 6 rfl) ?_
        refine lv_if_le (tgt := 174) hx hb dX12_findHeads_154 (by decide) (fun c22 => ?_) (fun c22 => ?_)
        · have hw := hw.1 c22
          refine lv_aload_n hx hb dX12_findHeads_174 rfl (lv_at hl 0 rfl) ?_
          refine hw_get (v := .int (σ16 0 27)) hx hb hts hiX12 hown hK hP (Nat.lt_of_lt_of_le (by decide) hN) (bY_0 _) rfl 27 (by decide) (List.mem_of_getElem? (i := 1) rfl) rfl rfl dX12_findHeads_175 ?_
          refine lv_topi (fun x7_23 ex7_23 => ?_)
          have hw := hw x7_23 ex7_23
          refine lv_istore (lv' := [(7, .int x7_23), (0, .ref (ad 0)), (1, .int a1), (2, .int a2), (3, .int v3_1), (4, .int v4_5), (5, .int r19), (6, .int v6_21)]) hx hb dX12_findHeads_178 hl (by decide) rfl (fun ls hl => ?_)
          refine hw (fun (v7_24 : Int32) (σ25 : hSt) => ∀ (H : Heap) (locs : List Loc) (ls : Array Slot), va_P D vwCl (hC N ad (bY cy ad w) σ25) H → va_S (hA N ad s.heap.size) s.heap H locs → lv_has ls 8 [(0, .ref (ad 0)), (1, .int a1), (2, .int a2), (3, .int v3_1), (4, .int v4_5), (5, .int r19), (6, .int v6_21), (7, .int v7_24)] → W p l e (headSpec wsX12_findHeads ({ frames := 1, cells := 0, slots := 0, locals := 24 } : Room)).room s m ([Value.ref (ad 0), Value.int a1, Value.int a2] : List Value).toArray below meth c H locs 0 0 (MQ below (va_Qv (fun u : hSt => Q u) (hE D (fun u : hSt => hC N ad (bY cy ad w) u)) (hA N ad s.heap.size)) ([Value.ref (ad 0), Value.int a1, Value.int a2] : List Value).toArray s 0 0 (hA N ad s.heap.size)) (F0 m 180 ls [])) (fun v7_24 σ25 hw H locs ls hP hS hl => ?_) _ _ _ hP hS (lv_sub hl [1, 2, 3, 4, 5, 6, 7, 0] rfl)
          refine lv_iload hx hb dX12_findHeads_180 (lv_at hl 7 rfl) ?_
          refine lv_iload hx hb dX12_findHeads_182 (lv_at hl 6 rfl) ?_
          refine lv_icmp_le (tgt := 209) hx hb dX12_findHeads_184 (by decide) (fun c26 => ?_) (fun c26 => ?_)
          · have hw := hw.1 c26
            refine lv_aload_n hx hb dX12_findHeads_209 rfl (lv_at hl 0 rfl) ?_
            refine hw_get (v := .ref (ad 16)) hx hb hts hiX12 hown hK hP (Nat.lt_of_lt_of_le (by decide) hN) (bY_0 _) rfl 26 (by decide) (List.mem_of_getElem? (i := 5) rfl) rfl rfl dX12_findHeads_210 ?_
            refine lv_iload hx hb dX12_findHeads_213 (lv_at hl 6 rfl) ?_
            refine lv_iload hx hb dX12_findHeads_215 (lv_at hl 5 rfl) ?_
            obtain ⟨hi27, hw⟩ := hw
            refine hw_iast hx hb hK hJ0 hP hS (Nat.lt_of_lt_of_le (by decide) hN) (fun ρ => bY_16 ρ) hi27 dX12_findHeads_217 (fun H locs hP hS => ?_)
            refine lv_aload_n hx hb dX12_findHeads_218 rfl (lv_at hl 0 rfl) ?_
            refine lv_dup hx hb dX12_findHeads_219 rfl ?_
            refine hw_get (v := .int ((hup σ25 16 (v6_21).toNatClampNeg r19) 0 27)) hx hb hts hiX12 hown hK hP (Nat.lt_of_lt_of_le (by decide) hN) (bY_0 _) rfl 27 (by decide) (List.mem_of_getElem? (i := 1) rfl) rfl rfl dX12_findHeads_220 ?_
            refine lv_iconst (v := 1) hx hb dX12_findHeads_223 (by decide) ?_
            refine lv_iadd hx hb dX12_findHeads_224 ?_
            refine hw_put (x := (((hup σ25 16 (v6_21).toNatClampNeg r19) 0 27) + (1 : Int32))) (j := 27) hx hb hts hiX12 tyX12 tyX12_ok nmX12 hown hK hJ0 hP hS (Nat.lt_of_lt_of_le (by decide) hN) (bY_0 _) rfl (by decide) (List.mem_of_getElem? (i := 1) rfl) rfl rfl rfl rfl (Nat.le_of_ble_eq_true rfl) (by rw [bY_0]; rfl) dX12_findHeads_225 (fun H locs hP hS => ?_)
            obtain ⟨x4_28, ex4_28⟩ : ∃ z : Int32, z = v4_5 + (1 : Int32) := ⟨_, rfl⟩
            have hw := hw x4_28 ex4_28
            refine lv_iinc (v := x4_28) (lv' := [(4, .int x4_28), (0, .ref (ad 0)), (1, .int a1), (2, .int a2), (3, .int v3_1), (5, .int r19), (6, .int v6_21), (7, .int v7_24)]) hx hb dX12_findHeads_228 hl (k := 4) rfl (by rw [ex4_28]; rfl) (by decide) rfl (fun ls hl => ?_)
            refine lv_goto (tgt := 20) hx hb dX12_findHeads_231 (by decide) ?_
            exact hw _ _ _ hP hS (lv_sub hl [1, 2, 3, 4, 0] rfl)
          have hw := hw.2 c26
          refine lv_aload_n hx hb dX12_findHeads_187 rfl (lv_at hl 0 rfl) ?_
          refine hw_get (v := .ref (ad 16)) hx hb hts hiX12 hown hK hP (Nat.lt_of_lt_of_le (by decide) hN) (bY_0 _) rfl 26 (by decide) (List.mem_of_getElem? (i := 5) rfl) rfl rfl dX12_findHeads_188 ?_
          refine lv_iload hx hb dX12_findHeads_191 (lv_at hl 7 rfl) ?_
          refine lv_aload_n hx hb dX12_findHeads_193 rfl (lv_at hl 0 rfl) ?_
          refine hw_get (v := .ref (ad 16)) hx hb hts hiX12 hown hK hP (Nat.lt_of_lt_of_le (by decide) hN) (bY_0 _) rfl 26 (by decide) (List.mem_of_getElem? (i := 5) rfl) rfl rfl dX12_findHeads_194 ?_
          refine lv_iload hx hb dX12_findHeads_197 (lv_at hl 7 rfl) ?_
          refine lv_iconst (v := 1) hx hb dX12_findHeads_199 (by decide) ?_
          refine lv_isub hx hb dX12_findHeads_200 ?_
          obtain ⟨hi29, hw⟩ := hw
          refine hw_iald hx hb hK hP (Nat.lt_of_lt_of_le (by decide) hN) (bY_16 _) hi29 dX12_findHeads_201 ?_
          obtain ⟨hi30, hw⟩ := hw
          refine hw_iast hx hb hK hJ0 hP hS (Nat.lt_of_lt_of_le (by decide) hN) (fun ρ => bY_16 ρ) hi30 dX12_findHeads_202 (fun H locs hP hS => ?_)
          obtain ⟨x7_31, ex7_31⟩ : ∃ z : Int32, z = v7_24 + (-1 : Int32) := ⟨_, rfl⟩
          have hw := hw x7_31 ex7_31
          refine lv_iinc (v := x7_31) (lv' := [(7, .int x7_31), (0, .ref (ad 0)), (1, .int a1), (2, .int a2), (3, .int v3_1), (4, .int v4_5), (5, .int r19), (6, .int v6_21)]) hx hb dX12_findHeads_203 hl (k := 7) rfl (by rw [ex7_31]; rfl) (by decide) rfl (fun ls hl => ?_)
          refine lv_goto (tgt := 180) hx hb dX12_findHeads_206 (by decide) ?_
          exact hw _ _ _ hP hS (lv_sub hl [1, 2, 3, 4, 5, 6, 7, 0] rfl)
        have hw := hw.2 c22
        refine lv_aload_n hx hb dX12_findHeads_157 rfl (lv_at hl 0 rfl) ?_
        refine hw_get (v := .ref (ad 16)) hx hb hts hiX12 hown hK hP (Nat.lt_of_lt_of_le (by decide) hN) (bY_0 _) rfl 26 (by decide) (List.mem_of_getElem? (i := 5) rfl) rfl rfl dX12_findHeads_158 ?_
        refine lv_iload hx hb dX12_findHeads_161 (lv_at hl 6 rfl) ?_
        refine lv_iconst (v := 1) hx hb dX12_findHeads_163 (by decide) ?_
        refine lv_isub hx hb dX12_findHeads_164 ?_
        obtain ⟨hi32, hw⟩ := hw
        refine hw_iald hx hb hK hP (Nat.lt_of_lt_of_le (by decide) hN) (bY_16 _) hi32 dX12_findHeads_165 ?_
        refine lv_iload hx hb dX12_findHeads_166 (lv_at hl 5 rfl) ?_
        refine lv_icmp_ne (tgt := 174) hx hb dX12_findHeads_168 (by decide) (fun c33 => ?_) (fun c33 => ?_)
        · have hw := hw.1 c33
          refine lv_aload_n hx hb dX12_findHeads_174 rfl (lv_at hl 0 rfl) ?_
          refine hw_get (v := .int (σ16 0 27)) hx hb hts hiX12 hown hK hP (Nat.lt_of_lt_of_le (by decide) hN) (bY_0 _) rfl 27 (by decide) (List.mem_of_getElem? (i := 1) rfl) rfl rfl dX12_findHeads_175 ?_
          refine lv_topi (fun x7_34 ex7_34 => ?_)
          have hw := hw x7_34 ex7_34
          refine lv_istore (lv' := [(7, .int x7_34), (0, .ref (ad 0)), (1, .int a1), (2, .int a2), (3, .int v3_1), (4, .int v4_5), (5, .int r19), (6, .int v6_21)]) hx hb dX12_findHeads_178 hl (by decide) rfl (fun ls hl => ?_)
          refine hw (fun (v7_35 : Int32) (σ36 : hSt) => ∀ (H : Heap) (locs : List Loc) (ls : Array Slot), va_P D vwCl (hC N ad (bY cy ad w) σ36) H → va_S (hA N ad s.heap.size) s.heap H locs → lv_has ls 8 [(0, .ref (ad 0)), (1, .int a1), (2, .int a2), (3, .int v3_1), (4, .int v4_5), (5, .int r19), (6, .int v6_21), (7, .int v7_35)] → W p l e (headSpec wsX12_findHeads ({ frames := 1, cells := 0, slots := 0, locals := 24 } : Room)).room s m ([Value.ref (ad 0), Value.int a1, Value.int a2] : List Value).toArray below meth c H locs 0 0 (MQ below (va_Qv (fun u : hSt => Q u) (hE D (fun u : hSt => hC N ad (bY cy ad w) u)) (hA N ad s.heap.size)) ([Value.ref (ad 0), Value.int a1, Value.int a2] : List Value).toArray s 0 0 (hA N ad s.heap.size)) (F0 m 180 ls [])) (fun v7_35 σ36 hw H locs ls hP hS hl => ?_) _ _ _ hP hS (lv_sub hl [1, 2, 3, 4, 5, 6, 7, 0] rfl)
          refine lv_iload hx hb dX12_findHeads_180 (lv_at hl 7 rfl) ?_
          refine lv_iload hx hb dX12_findHeads_182 (lv_at hl 6 rfl) ?_
          refine lv_icmp_le (tgt := 209) hx hb dX12_findHeads_184 (by decide) (fun c37 => ?_) (fun c37 => ?_)
          · have hw := hw.1 c37
            refine lv_aload_n hx hb dX12_findHeads_209 rfl (lv_at hl 0 rfl) ?_
            refine hw_get (v := .ref (ad 16)) hx hb hts hiX12 hown hK hP (Nat.lt_of_lt_of_le (by decide) hN) (bY_0 _) rfl 26 (by decide) (List.mem_of_getElem? (i := 5) rfl) rfl rfl dX12_findHeads_210 ?_
            refine lv_iload hx hb dX12_findHeads_213 (lv_at hl 6 rfl) ?_
            refine lv_iload hx hb dX12_findHeads_215 (lv_at hl 5 rfl) ?_
            obtain ⟨hi38, hw⟩ := hw
            refine hw_iast hx hb hK hJ0 hP hS (Nat.lt_of_lt_of_le (by decide) hN) (fun ρ => bY_16 ρ) hi38 dX12_findHeads_217 (fun H locs hP hS => ?_)
            refine lv_aload_n hx hb dX12_findHeads_218 rfl (lv_at hl 0 rfl) ?_
            refine lv_dup hx hb dX12_findHeads_219 rfl ?_
            refine hw_get (v := .int ((hup σ36 16 (v6_21).toNatClampNeg r19) 0 27)) hx hb hts hiX12 hown hK hP (Nat.lt_of_lt_of_le (by decide) hN) (bY_0 _) rfl 27 (by decide) (List.mem_of_getElem? (i := 1) rfl) rfl rfl dX12_findHeads_220 ?_
            refine lv_iconst (v := 1) hx hb dX12_findHeads_223 (by decide) ?_
            refine lv_iadd hx hb dX12_findHeads_224 ?_
            refine hw_put (x := (((hup σ36 16 (v6_21).toNatClampNeg r19) 0 27) + (1 : Int32))) (j := 27) hx hb hts hiX12 tyX12 tyX12_ok nmX12 hown hK hJ0 hP hS (Nat.lt_of_lt_of_le (by decide) hN) (bY_0 _) rfl (by decide) (List.mem_of_getElem? (i := 1) rfl) rfl rfl rfl rfl (Nat.le_of_ble_eq_true rfl) (by rw [bY_0]; rfl) dX12_findHeads_225 (fun H locs hP hS => ?_)
            obtain ⟨x4_39, ex4_39⟩ : ∃ z : Int32, z = v4_5 + (1 : Int32) := ⟨_, rfl⟩
            have hw := hw x4_39 ex4_39
            refine lv_iinc (v := x4_39) (lv' := [(4, .int x4_39), (0, .ref (ad 0)), (1, .int a1), (2, .int a2), (3, .int v3_1), (5, .int r19), (6, .int v6_21), (7, .int v7_35)]) hx hb dX12_findHeads_228 hl (k := 4) rfl (by rw [ex4_39]; rfl) (by decide) rfl (fun ls hl => ?_)
            refine lv_goto (tgt := 20) hx hb dX12_findHeads_231 (by decide) ?_
            exact hw _ _ _ hP hS (lv_sub hl [1, 2, 3, 4, 0] rfl)
          have hw := hw.2 c37
          refine lv_aload_n hx hb dX12_findHeads_187 rfl (lv_at hl 0 rfl) ?_
          refine hw_get (v := .ref (ad 16)) hx hb hts hiX12 hown hK hP (Nat.lt_of_lt_of_le (by decide) hN) (bY_0 _) rfl 26 (by decide) (List.mem_of_getElem? (i := 5) rfl) rfl rfl dX12_findHeads_188 ?_
          refine lv_iload hx hb dX12_findHeads_191 (lv_at hl 7 rfl) ?_
          refine lv_aload_n hx hb dX12_findHeads_193 rfl (lv_at hl 0 rfl) ?_
          refine hw_get (v := .ref (ad 16)) hx hb hts hiX12 hown hK hP (Nat.lt_of_lt_of_le (by decide) hN) (bY_0 _) rfl 26 (by decide) (List.mem_of_getElem? (i := 5) rfl) rfl rfl dX12_findHeads_194 ?_
          refine lv_iload hx hb dX12_findHeads_197 (lv_at hl 7 rfl) ?_
          refine lv_iconst (v := 1) hx hb dX12_findHeads_199 (by decide) ?_
          refine lv_isub hx hb dX12_findHeads_200 ?_
          obtain ⟨hi40, hw⟩ := hw
          refine hw_iald hx hb hK hP (Nat.lt_of_lt_of_le (by decide) hN) (bY_16 _) hi40 dX12_findHeads_201 ?_
          obtain ⟨hi41, hw⟩ := hw
          refine hw_iast hx hb hK hJ0 hP hS (Nat.lt_of_lt_of_le (by decide) hN) (fun ρ => bY_16 ρ) hi41 dX12_findHeads_202 (fun H locs hP hS => ?_)
          obtain ⟨x7_42, ex7_42⟩ : ∃ z : Int32, z = v7_35 + (-1 : Int32) := ⟨_, rfl⟩
          have hw := hw x7_42 ex7_42
          refine lv_iinc (v := x7_42) (lv' := [(7, .int x7_42), (0, .ref (ad 0)), (1, .int a1), (2, .int a2), (3, .int v3_1), (4, .int v4_5), (5, .int r19), (6, .int v6_21)]) hx hb dX12_findHeads_203 hl (k := 7) rfl (by rw [ex7_42]; rfl) (by decide) rfl (fun ls hl => ?_)
          refine lv_goto (tgt := 180) hx hb dX12_findHeads_206 (by decide) ?_
          exact hw _ _ _ hP hS (lv_sub hl [1, 2, 3, 4, 5, 6, 7, 0] rfl)
        have hw := hw.2 c33
        refine lv_goto (tgt := 228) hx hb dX12_findHeads_171 (by decide) ?_
        obtain ⟨x4_43, ex4_43⟩ : ∃ z : Int32, z = v4_5 + (1 : Int32) := ⟨_, rfl⟩
        have hw := hw x4_43 ex4_43
        refine lv_iinc (v := x4_43) (lv' := [(4, .int x4_43), (0, .ref (ad 0)), (1, .int a1), (2, .int a2), (3, .int v3_1), (5, .int r19), (6, .int v6_21)]) hx hb dX12_findHeads_228 hl (k := 4) rfl (by rw [ex4_43]; rfl) (by decide) rfl (fun ls hl => ?_)
        refine lv_goto (tgt := 20) hx hb dX12_findHeads_231 (by decide) ?_
        exact hw _ _ _ hP hS (lv_sub hl [1, 2, 3, 4, 0] rfl)
      refine lv_if_le (tgt := 152) hx hb dX12_findHeads_129 (by decide) (fun c44 => ?_) (fun c44 => ?_)
      · have hw := hw.1 c44
        exact hJ152  _ _ _ hw hP hS (lv_sub hl [0, 1, 2, 3, 4, 5, 6] rfl)
      have hw := hw.2 c44
      refine lv_aload_n hx hb dX12_findHeads_132 rfl (lv_at hl 0 rfl) ?_
      refine hw_get (v := .ref (ad 16)) hx hb hts hiX12 hown hK hP (Nat.lt_of_lt_of_le (by decide) hN) (bY_0 _) rfl 26 (by decide) (List.mem_of_getElem? (i := 5) rfl) rfl rfl dX12_findHeads_133 ?_
      refine lv_iload hx hb dX12_findHeads_136 (lv_at hl 6 rfl) ?_
      refine lv_iconst (v := 1) hx hb dX12_findHeads_138 (by decide) ?_
      refine lv_isub hx hb dX12_findHeads_139 ?_
      obtain ⟨hi45, hw⟩ := hw
      refine hw_iald hx hb hK hP (Nat.lt_of_lt_of_le (by decide) hN) (bY_16 _) hi45 dX12_findHeads_140 ?_
      refine lv_iload hx hb dX12_findHeads_141 (lv_at hl 5 rfl) ?_
      refine lv_icmp_le (tgt := 152) hx hb dX12_findHeads_143 (by decide) (fun c46 => ?_) (fun c46 => ?_)
      · have hw := hw.1 c46
        exact hJ152  _ _ _ hw hP hS (lv_sub hl [0, 1, 2, 3, 4, 5, 6] rfl)
      have hw := hw.2 c46
      obtain ⟨x6_47, ex6_47⟩ : ∃ z : Int32, z = v6_21 + (-1 : Int32) := ⟨_, rfl⟩
      have hw := hw x6_47 ex6_47
      refine lv_iinc (v := x6_47) (lv' := [(6, .int x6_47), (0, .ref (ad 0)), (1, .int a1), (2, .int a2), (3, .int v3_1), (4, .int v4_5), (5, .int r19)]) hx hb dX12_findHeads_146 hl (k := 6) rfl (by rw [ex6_47]; rfl) (by decide) rfl (fun ls hl => ?_)
      refine lv_goto (tgt := 127) hx hb dX12_findHeads_149 (by decide) ?_
      exact hw _ _ _ hP hS (lv_sub hl [1, 2, 3, 4, 5, 6, 0] rfl)
    have hw := hw.2 c17
    refine lv_aload_n hx hb dX12_findHeads_85 rfl (lv_at hl 0 rfl) ?_
    refine lv_aload_n hx hb dX12_findHeads_86 rfl (lv_at hl 0 rfl) ?_
    refine hw_get (v := .ref (ad 14)) hx hb hts hiX12 hown hK hP (Nat.lt_of_lt_of_le (by decide) hN) (bY_0 _) rfl 24 (by decide) (List.mem_of_getElem? (i := 3) rfl) rfl rfl dX12_findHeads_87 ?_
    refine lv_aload_n hx hb dX12_findHeads_90 rfl (lv_at hl 0 rfl) ?_
    refine hw_get (v := .ref (ad 2)) hx hb hts hiX12 hown hK hP (Nat.lt_of_lt_of_le (by decide) hN) (bY_0 _) rfl 3 (by decide) (List.mem_of_getElem? (i := 4) rfl) rfl rfl dX12_findHeads_91 ?_
    refine lv_bipush (v := 66) hx hb dX12_findHeads_94 (by decide) ?_
    refine lv_iload_n hx hb dX12_findHeads_96 rfl (lv_at hl 2 rfl) ?_
    refine lv_imul hx hb dX12_findHeads_97 ?_
    refine lv_iload hx hb dX12_findHeads_98 (lv_at hl 5 rfl) ?_
    refine lv_iadd hx hb dX12_findHeads_100 ?_
    obtain ⟨hi48, hw⟩ := hw
    refine hw_iald hx hb hK hP (Nat.lt_of_lt_of_le (by decide) hN) (bY_2 _) hi48 dX12_findHeads_101 ?_
    refine hw_kv (va_runV (As := [.ref (ad 14), .int (σ16 2 ((((66 : Int32) * a2) + v5_15)).toNatClampNeg)]) (rest := []) ⟨hx, hb, hml, hown, hts⟩ (kc_X12_ring l D cy N hN ad hJ0 w σ16 _ 14 h8_14 (σ16 2 ((((66 : Int32) * a2) + v5_15)).toNatClampNeg) _ hw) (cwV 2 hts gX12_findHeads_X12_ring rfl rfl rfl (by decide +kernel) ⟨Nat.le_of_ble_eq_true rfl, Nat.le_of_ble_eq_true rfl⟩) (hw_preV hK hN1 hP (Nat.lt_of_lt_of_le (by decide) hN) (bY_0 _) rfl) rfl rfl hl.1 rfl (lv_room (Nat.le_of_ble_eq_true rfl)) dX12_findHeads_102 ⟨Nat.zero_le _, Nat.zero_le _⟩) hS (fun σ49 H locs hw hP hS => ?_)
    obtain ⟨x5_50, ex5_50⟩ : ∃ z : Int32, z = v5_15 + (-1 : Int32) := ⟨_, rfl⟩
    have hw := hw x5_50 ex5_50
    refine lv_iinc (v := x5_50) (lv' := [(5, .int x5_50), (0, .ref (ad 0)), (1, .int a1), (2, .int a2), (3, .int v3_1), (4, .int v4_5)]) hx hb dX12_findHeads_105 hl (k := 5) rfl (by rw [ex5_50]; rfl) (by decide) rfl (fun ls hl => ?_)
    refine lv_goto (tgt := 80) hx hb dX12_findHeads_108 (by decide) ?_
    exact hw _ _ _ hP hS (lv_sub hl [1, 2, 3, 4, 5, 0] rfl)
  have hw := hw.2 c13
  refine lv_aload_n hx hb dX12_findHeads_48 rfl (lv_at hl 0 rfl) ?_
  refine lv_aload_n hx hb dX12_findHeads_49 rfl (lv_at hl 0 rfl) ?_
  refine hw_get (v := .ref (ad 14)) hx hb hts hiX12 hown hK hP (Nat.lt_of_lt_of_le (by decide) hN) (bY_0 _) rfl 24 (by decide) (List.mem_of_getElem? (i := 3) rfl) rfl rfl dX12_findHeads_50 ?_
  refine lv_aload_n hx hb dX12_findHeads_53 rfl (lv_at hl 0 rfl) ?_
  refine hw_get (v := .ref (ad 2)) hx hb hts hiX12 hown hK hP (Nat.lt_of_lt_of_le (by decide) hN) (bY_0 _) rfl 3 (by decide) (List.mem_of_getElem? (i := 4) rfl) rfl rfl dX12_findHeads_54 ?_
  refine lv_bipush (v := 66) hx hb dX12_findHeads_57 (by decide) ?_
  refine lv_iload_n hx hb dX12_findHeads_59 rfl (lv_at hl 1 rfl) ?_
  refine lv_imul hx hb dX12_findHeads_60 ?_
  refine lv_iload hx hb dX12_findHeads_61 (lv_at hl 5 rfl) ?_
  refine lv_iadd hx hb dX12_findHeads_63 ?_
  obtain ⟨hi51, hw⟩ := hw
  refine hw_iald hx hb hK hP (Nat.lt_of_lt_of_le (by decide) hN) (bY_2 _) hi51 dX12_findHeads_64 ?_
  refine hw_kv (va_runV (As := [.ref (ad 14), .int (σ12 2 ((((66 : Int32) * a1) + v5_11)).toNatClampNeg)]) (rest := []) ⟨hx, hb, hml, hown, hts⟩ (kc_X12_ring l D cy N hN ad hJ0 w σ12 _ 14 h8_14 (σ12 2 ((((66 : Int32) * a1) + v5_11)).toNatClampNeg) _ hw) (cwV 2 hts gX12_findHeads_X12_ring rfl rfl rfl (by decide +kernel) ⟨Nat.le_of_ble_eq_true rfl, Nat.le_of_ble_eq_true rfl⟩) (hw_preV hK hN1 hP (Nat.lt_of_lt_of_le (by decide) hN) (bY_0 _) rfl) rfl rfl hl.1 rfl (lv_room (Nat.le_of_ble_eq_true rfl)) dX12_findHeads_65 ⟨Nat.zero_le _, Nat.zero_le _⟩) hS (fun σ52 H locs hw hP hS => ?_)
  obtain ⟨x5_53, ex5_53⟩ : ∃ z : Int32, z = v5_11 + (1 : Int32) := ⟨_, rfl⟩
  have hw := hw x5_53 ex5_53
  refine lv_iinc (v := x5_53) (lv' := [(5, .int x5_53), (0, .ref (ad 0)), (1, .int a1), (2, .int a2), (3, .int v3_1), (4, .int v4_5)]) hx hb dX12_findHeads_68 hl (k := 5) rfl (by rw [ex5_53]; rfl) (by decide) rfl (fun ls hl => ?_)
  refine lv_goto (tgt := 42) hx hb dX12_findHeads_71 (by decide) ?_
  exact hw _ _ _ hP hS (lv_sub hl [1, 2, 3, 4, 5, 0] rfl)
set_option maxHeartbeats 4000000 in
set_option maxRecDepth 100000 in
theorem kc_X12_falseHeads (l : Launch) (D : va_G) (cy : Nat → ClassId) (N : Nat) (hN : 22 ≤ N) (ad : Nat → Nat) (hJ0 : hJ N ad) (w : Nat → Int64) (σ : hSt) (sz : Nat) (a1 : Int32) (a2 : Int32) (Q : Int32 → hSt → Prop) (hw : wp_X12_falseHeads a1 a2 σ w Q) : Met l yX12_falseHeads wsX12_falseHeads ({ frames := 2, cells := 0, slots := 0, locals := 51 } : Room) (va_Pc [.ref (ad 0), .int a1, .int a2] (hB D cy (hC N ad (bY cy ad w) σ) sz)) (va_Qi (fun (r : Int32) (u : hSt) => Q r u) (hE D (fun u : hSt => hC N ad (bY cy ad w) u)) (hA N ad sz)) 0 0 (hA N ad sz) := by
  refine Met.ofW (cc := cX12_falseHeads) (maxL := 3) (ret := (some .int)) (by decide) rfl ?_
  intro p e s m args below meth c s₁ B hml hv
  obtain ⟨rfl, hsz, hP, hK, hN1⟩ := hv
  have hx := B.exec
  have hb := B.bytes
  have hr := B.returns
  have hts := atoms_spec (ws := wsX12_falseHeads) B.pre
  have hown : s.vm.findClass RX12 = some m.cls := findClass_of_methodNamed B.named
  have hlocks := B.notSynchronized
  subst hsz
  have hS : va_S (hA N ad s.heap.size) s.heap s.heap [] := va_S.rf
  have hiX12 : ∀ w ∈ wsX120, w ∈ wsX12_falseHeads := fun _ h => List.mem_cons_of_mem _ (List.mem_append_right _ h)
  have hl := lv_entry ([.ref (ad 0), .int a1, .int a2]) (n := 3) (Nat.le_of_ble_eq_true rfl)
  rw [lg_entry_eq]
  generalize (lg_sl ([.ref (ad 0), .int a1, .int a2]) ++ List.replicate (3 - (lg_sl ([.ref (ad 0), .int a1, .int a2])).length) Slot.unset).toArray = ls at hl ⊢
  have hl : lv_has ls 3 [(0, .ref (ad 0)), (1, .int a1), (2, .int a2)] := hl
  unfold wp_X12_falseHeads at hw
  refine lv_aload_n hx hb dX12_falseHeads_0 rfl (lv_at hl 0 rfl) ?_
  refine lv_aload_n hx hb dX12_falseHeads_1 rfl (lv_at hl 0 rfl) ?_
  refine lv_iload_n hx hb dX12_falseHeads_2 rfl (lv_at hl 1 rfl) ?_
  refine hw_ki (va_runV (As := [.int a1]) (rest := [.ref (ad 0)]) ⟨hx, hb, hml, hown, hts⟩ (kc_X12_isTold l D cy N hN ad hJ0 w σ _ a1 _ hw) (cwV 1 hts gX12_falseHeads_X12_isTold rfl rfl rfl (by decide +kernel) ⟨Nat.le_of_ble_eq_true rfl, Nat.le_of_ble_eq_true rfl⟩) (hw_preV hK hN1 hP (Nat.lt_of_lt_of_le (by decide) hN) (bY_0 _) rfl) rfl rfl hl.1 rfl (lv_room (Nat.le_of_ble_eq_true rfl)) dX12_falseHeads_3 ⟨Nat.zero_le _, Nat.zero_le _⟩) hS (fun r2 σ1 H locs hw hP hS => ?_)
  obtain ⟨hu_, hw⟩ := hw
  rw [hu_] at hP
  obtain ⟨J22, ehJ22, hw⟩ := hM_x hw
  have hJ22 : ∀ (z3 : Int32) (H : Heap) (locs : List Loc) (ls : Array Slot), J22 z3 → va_P D vwCl (hC N ad (bY cy ad w) σ) H → va_S (hA N ad s.heap.size) s.heap H locs → lv_has ls 3 [(0, .ref (ad 0)), (1, .int a1), (2, .int a2)] → W p l e (headSpec wsX12_falseHeads ({ frames := 2, cells := 0, slots := 0, locals := 51 } : Room)).room s m ([Value.ref (ad 0), Value.int a1, Value.int a2] : List Value).toArray below meth c H locs 0 0 (MQ below (va_Qi (fun (r : Int32) (u : hSt) => Q r u) (hE D (fun u : hSt => hC N ad (bY cy ad w) u)) (hA N ad s.heap.size)) ([Value.ref (ad 0), Value.int a1, Value.int a2] : List Value).toArray s 0 0 (hA N ad s.heap.size)) (F0 m 22 ls [.int z3, .ref (ad 0)]) := by
    intro z3 H locs ls hw hP hS hl
    rw [ehJ22] at hw
    refine lv_iconst (v := 1) hx hb dX12_falseHeads_22 (by decide) ?_
    refine hw_ki (va_runV (As := [.int z3, .int (1 : Int32)]) (rest := []) ⟨hx, hb, hml, hown, hts⟩ (kc_X12_throwsIf l D cy N hN ad hJ0 w σ _ z3 (1 : Int32) _ hw) (cwV 2 hts gX12_falseHeads_X12_throwsIf rfl rfl rfl (by decide +kernel) ⟨Nat.le_of_ble_eq_true rfl, Nat.le_of_ble_eq_true rfl⟩) (hw_preV hK hN1 hP (Nat.lt_of_lt_of_le (by decide) hN) (bY_0 _) rfl) rfl rfl hl.1 rfl (lv_room (Nat.le_of_ble_eq_true rfl)) dX12_falseHeads_23 ⟨Nat.zero_le _, Nat.zero_le _⟩) hS (fun r5 σ4 H locs hw hP hS => ?_)
    refine lv_if_eq (tgt := 31) hx hb dX12_falseHeads_26 (by decide) (fun c6 => ?_) (fun c6 => ?_)
    · have hw := hw.1 c6
      refine lv_aload_n hx hb dX12_falseHeads_31 rfl (lv_at hl 0 rfl) ?_
      refine lv_iload_n hx hb dX12_falseHeads_32 rfl (lv_at hl 1 rfl) ?_
      refine lv_iload_n hx hb dX12_falseHeads_33 rfl (lv_at hl 2 rfl) ?_
      refine hw_kv (va_runV (As := [.int a1, .int a2]) (rest := []) ⟨hx, hb, hml, hown, hts⟩ (kc_X12_findHeads l D cy N hN ad hJ0 w σ4 _ a1 a2 _ hw) (cwV 2 hts gX12_falseHeads_X12_findHeads rfl rfl rfl (by decide +kernel) ⟨Nat.le_of_ble_eq_true rfl, Nat.le_of_ble_eq_true rfl⟩) (hw_preV hK hN1 hP (Nat.lt_of_lt_of_le (by decide) hN) (bY_0 _) rfl) rfl rfl hl.1 rfl (lv_room (Nat.le_of_ble_eq_true rfl)) dX12_falseHeads_34 ⟨Nat.zero_le _, Nat.zero_le _⟩) hS (fun σ7 H locs hw hP hS => ?_)
      refine lv_aload_n hx hb dX12_falseHeads_37 rfl (lv_at hl 0 rfl) ?_
      refine hw_get (v := .int (σ7 0 27)) hx hb hts hiX12 hown hK hP (Nat.lt_of_lt_of_le (by decide) hN) (bY_0 _) rfl 27 (by decide) (List.mem_of_getElem? (i := 1) rfl) rfl rfl dX12_falseHeads_38 ?_
      exact hw_iret hx hb hr hlocks (σ7) hw hP hS dX12_falseHeads_41
    have hw := hw.2 c6
    refine lv_iconst (v := 0) hx hb dX12_falseHeads_29 (by decide) ?_
    exact hw_iret hx hb hr hlocks (σ4) hw hP hS dX12_falseHeads_30
  obtain ⟨J17, ehJ17, hw⟩ := hM_x hw
  have hJ17 : ∀ (H : Heap) (locs : List Loc) (ls : Array Slot), J17 → va_P D vwCl (hC N ad (bY cy ad w) σ) H → va_S (hA N ad s.heap.size) s.heap H locs → lv_has ls 3 [(0, .ref (ad 0)), (1, .int a1), (2, .int a2)] → W p l e (headSpec wsX12_falseHeads ({ frames := 2, cells := 0, slots := 0, locals := 51 } : Room)).room s m ([Value.ref (ad 0), Value.int a1, Value.int a2] : List Value).toArray below meth c H locs 0 0 (MQ below (va_Qi (fun (r : Int32) (u : hSt) => Q r u) (hE D (fun u : hSt => hC N ad (bY cy ad w) u)) (hA N ad s.heap.size)) ([Value.ref (ad 0), Value.int a1, Value.int a2] : List Value).toArray s 0 0 (hA N ad s.heap.size)) (F0 m 17 ls [.ref (ad 0)]) := by
    intro H locs ls hw hP hS hl
    rw [ehJ17] at hw
    refine lv_iconst (v := 1) hx hb dX12_falseHeads_17 (by decide) ?_
    refine lv_goto (tgt := 22) hx hb dX12_falseHeads_18 (by decide) ?_
    exact hJ22 _ _ _ _ hw hP hS (lv_sub hl [0, 1, 2] rfl)
  refine lv_if_eq (tgt := 17) hx hb dX12_falseHeads_6 (by decide) (fun c8 => ?_) (fun c8 => ?_)
  · have hw := hw.1 c8
    exact hJ17  _ _ _ hw hP hS (lv_sub hl [0, 1, 2] rfl)
  have hw := hw.2 c8
  refine lv_aload_n hx hb dX12_falseHeads_9 rfl (lv_at hl 0 rfl) ?_
  refine lv_iload_n hx hb dX12_falseHeads_10 rfl (lv_at hl 2 rfl) ?_
  refine hw_ki (va_runV (As := [.int a2]) (rest := [.ref (ad 0)]) ⟨hx, hb, hml, hown, hts⟩ (kc_X12_isTold l D cy N hN ad hJ0 w σ _ a2 _ hw) (cwV 1 hts gX12_falseHeads_X12_isTold rfl rfl rfl (by decide +kernel) ⟨Nat.le_of_ble_eq_true rfl, Nat.le_of_ble_eq_true rfl⟩) (hw_preV hK hN1 hP (Nat.lt_of_lt_of_le (by decide) hN) (bY_0 _) rfl) rfl rfl hl.1 rfl (lv_room (Nat.le_of_ble_eq_true rfl)) dX12_falseHeads_11 ⟨Nat.zero_le _, Nat.zero_le _⟩) hS (fun r10 σ9 H locs hw hP hS => ?_)
  obtain ⟨hu_, hw⟩ := hw
  rw [hu_] at hP
  refine lv_if_ne (tgt := 21) hx hb dX12_falseHeads_14 (by decide) (fun c11 => ?_) (fun c11 => ?_)
  · have hw := hw.1 c11
    refine lv_iconst (v := 0) hx hb dX12_falseHeads_21 (by decide) ?_
    exact hJ22 _ _ _ _ hw hP hS (lv_sub hl [0, 1, 2] rfl)
  have hw := hw.2 c11
  exact hJ17  _ _ _ hw hP hS (lv_sub hl [0, 1, 2] rfl)
set_option maxHeartbeats 4000000 in
set_option maxRecDepth 100000 in
theorem kc_X12_falseHead (l : Launch) (D : va_G) (cy : Nat → ClassId) (N : Nat) (hN : 22 ≤ N) (ad : Nat → Nat) (hJ0 : hJ N ad) (w : Nat → Int64) (σ : hSt) (sz : Nat) (a1 : Int32) (a2 : Int32) (a3 : Int32) (Q : Int32 → hSt → Prop) (hw : wp_X12_falseHead a1 a2 a3 σ w Q) : Met l yX12_falseHead wsX12_falseHead ({ frames := 2, cells := 0, slots := 0, locals := 51 } : Room) (va_Pc [.ref (ad 0), .int a1, .int a2, .int a3] (hB D cy (hC N ad (bY cy ad w) σ) sz)) (va_Qi (fun (r : Int32) (u : hSt) => Q r u) (hE D (fun u : hSt => hC N ad (bY cy ad w) u)) (hA N ad sz)) 0 0 (hA N ad sz) := by
  refine Met.ofW (cc := cX12_falseHead) (maxL := 4) (ret := (some .int)) (by decide) rfl ?_
  intro p e s m args below meth c s₁ B hml hv
  obtain ⟨rfl, hsz, hP, hK, hN1⟩ := hv
  have hx := B.exec
  have hb := B.bytes
  have hr := B.returns
  have hts := atoms_spec (ws := wsX12_falseHead) B.pre
  have hown : s.vm.findClass RX12 = some m.cls := findClass_of_methodNamed B.named
  have hlocks := B.notSynchronized
  subst hsz
  have hS : va_S (hA N ad s.heap.size) s.heap s.heap [] := va_S.rf
  have hiX12 : ∀ w ∈ wsX120, w ∈ wsX12_falseHead := fun _ h => List.mem_cons_of_mem _ (List.mem_append_right _ h)
  have hl := lv_entry ([.ref (ad 0), .int a1, .int a2, .int a3]) (n := 4) (Nat.le_of_ble_eq_true rfl)
  rw [lg_entry_eq]
  generalize (lg_sl ([.ref (ad 0), .int a1, .int a2, .int a3]) ++ List.replicate (4 - (lg_sl ([.ref (ad 0), .int a1, .int a2, .int a3])).length) Slot.unset).toArray = ls at hl ⊢
  have hl : lv_has ls 4 [(0, .ref (ad 0)), (1, .int a1), (2, .int a2), (3, .int a3)] := hl
  unfold wp_X12_falseHead at hw
  refine lv_aload_n hx hb dX12_falseHead_0 rfl (lv_at hl 0 rfl) ?_
  refine lv_aload_n hx hb dX12_falseHead_1 rfl (lv_at hl 0 rfl) ?_
  refine lv_iload_n hx hb dX12_falseHead_2 rfl (lv_at hl 1 rfl) ?_
  refine hw_ki (va_runV (As := [.int a1]) (rest := [.ref (ad 0)]) ⟨hx, hb, hml, hown, hts⟩ (kc_X12_isTold l D cy N hN ad hJ0 w σ _ a1 _ hw) (cwV 1 hts gX12_falseHead_X12_isTold rfl rfl rfl (by decide +kernel) ⟨Nat.le_of_ble_eq_true rfl, Nat.le_of_ble_eq_true rfl⟩) (hw_preV hK hN1 hP (Nat.lt_of_lt_of_le (by decide) hN) (bY_0 _) rfl) rfl rfl hl.1 rfl (lv_room (Nat.le_of_ble_eq_true rfl)) dX12_falseHead_3 ⟨Nat.zero_le _, Nat.zero_le _⟩) hS (fun r2 σ1 H locs hw hP hS => ?_)
  obtain ⟨hu_, hw⟩ := hw
  rw [hu_] at hP
  obtain ⟨J22, ehJ22, hw⟩ := hM_x hw
  have hJ22 : ∀ (z3 : Int32) (H : Heap) (locs : List Loc) (ls : Array Slot), J22 z3 → va_P D vwCl (hC N ad (bY cy ad w) σ) H → va_S (hA N ad s.heap.size) s.heap H locs → lv_has ls 4 [(0, .ref (ad 0)), (1, .int a1), (2, .int a2), (3, .int a3)] → W p l e (headSpec wsX12_falseHead ({ frames := 2, cells := 0, slots := 0, locals := 51 } : Room)).room s m ([Value.ref (ad 0), Value.int a1, Value.int a2, Value.int a3] : List Value).toArray below meth c H locs 0 0 (MQ below (va_Qi (fun (r : Int32) (u : hSt) => Q r u) (hE D (fun u : hSt => hC N ad (bY cy ad w) u)) (hA N ad s.heap.size)) ([Value.ref (ad 0), Value.int a1, Value.int a2, Value.int a3] : List Value).toArray s 0 0 (hA N ad s.heap.size)) (F0 m 22 ls [.int z3, .ref (ad 0)]) := by
    intro z3 H locs ls hw hP hS hl
    rw [ehJ22] at hw
    refine lv_iconst (v := 1) hx hb dX12_falseHead_22 (by decide) ?_
    refine hw_ki (va_runV (As := [.int z3, .int (1 : Int32)]) (rest := []) ⟨hx, hb, hml, hown, hts⟩ (kc_X12_throwsIf l D cy N hN ad hJ0 w σ _ z3 (1 : Int32) _ hw) (cwV 2 hts gX12_falseHead_X12_throwsIf rfl rfl rfl (by decide +kernel) ⟨Nat.le_of_ble_eq_true rfl, Nat.le_of_ble_eq_true rfl⟩) (hw_preV hK hN1 hP (Nat.lt_of_lt_of_le (by decide) hN) (bY_0 _) rfl) rfl rfl hl.1 rfl (lv_room (Nat.le_of_ble_eq_true rfl)) dX12_falseHead_23 ⟨Nat.zero_le _, Nat.zero_le _⟩) hS (fun r5 σ4 H locs hw hP hS => ?_)
    refine lv_if_eq (tgt := 31) hx hb dX12_falseHead_26 (by decide) (fun c6 => ?_) (fun c6 => ?_)
    · have hw := hw.1 c6
      refine lv_aload_n hx hb dX12_falseHead_31 rfl (lv_at hl 0 rfl) ?_
      refine lv_iload_n hx hb dX12_falseHead_32 rfl (lv_at hl 1 rfl) ?_
      refine lv_iload_n hx hb dX12_falseHead_33 rfl (lv_at hl 2 rfl) ?_
      refine hw_kv (va_runV (As := [.int a1, .int a2]) (rest := []) ⟨hx, hb, hml, hown, hts⟩ (kc_X12_findHeads l D cy N hN ad hJ0 w σ4 _ a1 a2 _ hw) (cwV 2 hts gX12_falseHead_X12_findHeads rfl rfl rfl (by decide +kernel) ⟨Nat.le_of_ble_eq_true rfl, Nat.le_of_ble_eq_true rfl⟩) (hw_preV hK hN1 hP (Nat.lt_of_lt_of_le (by decide) hN) (bY_0 _) rfl) rfl rfl hl.1 rfl (lv_room (Nat.le_of_ble_eq_true rfl)) dX12_falseHead_34 ⟨Nat.zero_le _, Nat.zero_le _⟩) hS (fun σ7 H locs hw hP hS => ?_)
      refine lv_iload_n hx hb dX12_falseHead_37 rfl (lv_at hl 3 rfl) ?_
      refine lv_if_lt (tgt := 49) hx hb dX12_falseHead_38 (by decide) (fun c8 => ?_) (fun c8 => ?_)
      · have hw := hw.1 c8
        refine lv_iconst (v := -1) hx hb dX12_falseHead_49 (by decide) ?_
        refine lv_goto (tgt := 59) hx hb dX12_falseHead_50 (by decide) ?_
        exact hw_iret hx hb hr hlocks (σ7) hw hP hS dX12_falseHead_59
      have hw := hw.2 c8
      refine lv_iload_n hx hb dX12_falseHead_41 rfl (lv_at hl 3 rfl) ?_
      refine lv_aload_n hx hb dX12_falseHead_42 rfl (lv_at hl 0 rfl) ?_
      refine hw_get (v := .int (σ7 0 27)) hx hb hts hiX12 hown hK hP (Nat.lt_of_lt_of_le (by decide) hN) (bY_0 _) rfl 27 (by decide) (List.mem_of_getElem? (i := 1) rfl) rfl rfl dX12_falseHead_43 ?_
      refine lv_icmp_lt (tgt := 53) hx hb dX12_falseHead_46 (by decide) (fun c9 => ?_) (fun c9 => ?_)
      · have hw := hw.1 c9
        refine lv_aload_n hx hb dX12_falseHead_53 rfl (lv_at hl 0 rfl) ?_
        refine hw_get (v := .ref (ad 16)) hx hb hts hiX12 hown hK hP (Nat.lt_of_lt_of_le (by decide) hN) (bY_0 _) rfl 26 (by decide) (List.mem_of_getElem? (i := 2) rfl) rfl rfl dX12_falseHead_54 ?_
        refine lv_iload_n hx hb dX12_falseHead_57 rfl (lv_at hl 3 rfl) ?_
        obtain ⟨hi10, hw⟩ := hw
        refine hw_iald hx hb hK hP (Nat.lt_of_lt_of_le (by decide) hN) (bY_16 _) hi10 dX12_falseHead_58 ?_
        exact hw_iret hx hb hr hlocks (σ7) hw hP hS dX12_falseHead_59
      have hw := hw.2 c9
      refine lv_iconst (v := -1) hx hb dX12_falseHead_49 (by decide) ?_
      refine lv_goto (tgt := 59) hx hb dX12_falseHead_50 (by decide) ?_
      exact hw_iret hx hb hr hlocks (σ7) hw hP hS dX12_falseHead_59
    have hw := hw.2 c6
    refine lv_iconst (v := 0) hx hb dX12_falseHead_29 (by decide) ?_
    exact hw_iret hx hb hr hlocks (σ4) hw hP hS dX12_falseHead_30
  obtain ⟨J17, ehJ17, hw⟩ := hM_x hw
  have hJ17 : ∀ (H : Heap) (locs : List Loc) (ls : Array Slot), J17 → va_P D vwCl (hC N ad (bY cy ad w) σ) H → va_S (hA N ad s.heap.size) s.heap H locs → lv_has ls 4 [(0, .ref (ad 0)), (1, .int a1), (2, .int a2), (3, .int a3)] → W p l e (headSpec wsX12_falseHead ({ frames := 2, cells := 0, slots := 0, locals := 51 } : Room)).room s m ([Value.ref (ad 0), Value.int a1, Value.int a2, Value.int a3] : List Value).toArray below meth c H locs 0 0 (MQ below (va_Qi (fun (r : Int32) (u : hSt) => Q r u) (hE D (fun u : hSt => hC N ad (bY cy ad w) u)) (hA N ad s.heap.size)) ([Value.ref (ad 0), Value.int a1, Value.int a2, Value.int a3] : List Value).toArray s 0 0 (hA N ad s.heap.size)) (F0 m 17 ls [.ref (ad 0)]) := by
    intro H locs ls hw hP hS hl
    rw [ehJ17] at hw
    refine lv_iconst (v := 1) hx hb dX12_falseHead_17 (by decide) ?_
    refine lv_goto (tgt := 22) hx hb dX12_falseHead_18 (by decide) ?_
    exact hJ22 _ _ _ _ hw hP hS (lv_sub hl [0, 1, 2, 3] rfl)
  refine lv_if_eq (tgt := 17) hx hb dX12_falseHead_6 (by decide) (fun c11 => ?_) (fun c11 => ?_)
  · have hw := hw.1 c11
    exact hJ17  _ _ _ hw hP hS (lv_sub hl [0, 1, 2, 3] rfl)
  have hw := hw.2 c11
  refine lv_aload_n hx hb dX12_falseHead_9 rfl (lv_at hl 0 rfl) ?_
  refine lv_iload_n hx hb dX12_falseHead_10 rfl (lv_at hl 2 rfl) ?_
  refine hw_ki (va_runV (As := [.int a2]) (rest := [.ref (ad 0)]) ⟨hx, hb, hml, hown, hts⟩ (kc_X12_isTold l D cy N hN ad hJ0 w σ _ a2 _ hw) (cwV 1 hts gX12_falseHead_X12_isTold rfl rfl rfl (by decide +kernel) ⟨Nat.le_of_ble_eq_true rfl, Nat.le_of_ble_eq_true rfl⟩) (hw_preV hK hN1 hP (Nat.lt_of_lt_of_le (by decide) hN) (bY_0 _) rfl) rfl rfl hl.1 rfl (lv_room (Nat.le_of_ble_eq_true rfl)) dX12_falseHead_11 ⟨Nat.zero_le _, Nat.zero_le _⟩) hS (fun r13 σ12 H locs hw hP hS => ?_)
  obtain ⟨hu_, hw⟩ := hw
  rw [hu_] at hP
  refine lv_if_ne (tgt := 21) hx hb dX12_falseHead_14 (by decide) (fun c14 => ?_) (fun c14 => ?_)
  · have hw := hw.1 c14
    refine lv_iconst (v := 0) hx hb dX12_falseHead_21 (by decide) ?_
    exact hJ22 _ _ _ _ hw hP hS (lv_sub hl [0, 1, 2, 3] rfl)
  have hw := hw.2 c14
  exact hJ17  _ _ _ hw hP hS (lv_sub hl [0, 1, 2, 3] rfl)
set_option maxHeartbeats 4000000 in
set_option maxRecDepth 100000 in
theorem kc_X12_ringAll (l : Launch) (D : va_G) (cy : Nat → ClassId) (N : Nat) (hN : 22 ≤ N) (ad : Nat → Nat) (hJ0 : hJ N ad) (w : Nat → Int64) (σ : hSt) (sz : Nat) (a1 : Int32) (a2 : Int32) (Q : hSt → Prop) (hw : wp_X12_ringAll a1 a2 σ w Q) : Met l yX12_ringAll wsX12_ringAll ({ frames := 1, cells := 0, slots := 0, locals := 25 } : Room) (va_Pc [.ref (ad 0), .int a1, .int a2] (hB D cy (hC N ad (bY cy ad w) σ) sz)) (va_Qv (fun u : hSt => Q u) (hE D (fun u : hSt => hC N ad (bY cy ad w) u)) (hA N ad sz)) 0 0 (hA N ad sz) := by
  refine Met.ofW (cc := cX12_ringAll) (maxL := 8) (ret := none) (by decide) rfl ?_
  intro p e s m args below meth c s₁ B hml hv
  obtain ⟨rfl, hsz, hP, hK, hN1⟩ := hv
  have hx := B.exec
  have hb := B.bytes
  have hr := B.returns
  have hts := atoms_spec (ws := wsX12_ringAll) B.pre
  have hown : s.vm.findClass RX12 = some m.cls := findClass_of_methodNamed B.named
  have hlocks := B.notSynchronized
  subst hsz
  have hS : va_S (hA N ad s.heap.size) s.heap s.heap [] := va_S.rf
  have hiX12 : ∀ w ∈ wsX120, w ∈ wsX12_ringAll := fun _ h => List.mem_cons_of_mem _ (List.mem_append_right _ h)
  have hl := lv_entry ([.ref (ad 0), .int a1, .int a2]) (n := 8) (Nat.le_of_ble_eq_true rfl)
  rw [lg_entry_eq]
  generalize (lg_sl ([.ref (ad 0), .int a1, .int a2]) ++ List.replicate (8 - (lg_sl ([.ref (ad 0), .int a1, .int a2])).length) Slot.unset).toArray = ls at hl ⊢
  have hl : lv_has ls 8 [(0, .ref (ad 0)), (1, .int a1), (2, .int a2)] := hl
  unfold wp_X12_ringAll at hw
  refine lv_iconst (v := 0) hx hb dX12_ringAll_0 (by decide) ?_
  refine lv_istore_n (lv' := [(3, .int (0 : Int32)), (0, .ref (ad 0)), (1, .int a1), (2, .int a2)]) hx hb dX12_ringAll_1 rfl hl (by decide) rfl (fun ls hl => ?_)
  refine hw (fun (v3_1 : Int32) (σ2 : hSt) => ∀ (H : Heap) (locs : List Loc) (ls : Array Slot), va_P D vwCl (hC N ad (bY cy ad w) σ2) H → va_S (hA N ad s.heap.size) s.heap H locs → lv_has ls 8 [(0, .ref (ad 0)), (1, .int a1), (2, .int a2), (3, .int v3_1)] → W p l e (headSpec wsX12_ringAll ({ frames := 1, cells := 0, slots := 0, locals := 25 } : Room)).room s m ([Value.ref (ad 0), Value.int a1, Value.int a2] : List Value).toArray below meth c H locs 0 0 (MQ below (va_Qv (fun u : hSt => Q u) (hE D (fun u : hSt => hC N ad (bY cy ad w) u)) (hA N ad s.heap.size)) ([Value.ref (ad 0), Value.int a1, Value.int a2] : List Value).toArray s 0 0 (hA N ad s.heap.size)) (F0 m 2 ls [])) (fun v3_1 σ2 hw H locs ls hP hS hl => ?_) _ _ _ hP hS (lv_sub hl [1, 2, 3, 0] rfl)
  refine lv_iload_n hx hb dX12_ringAll_2 rfl (lv_at hl 3 rfl) ?_
  refine lv_ldc (v := 40320) hx hb hown (hts (.constant RX12 64 40320) (List.mem_of_getElem? (i := 1) rfl)) dX12_ringAll_3 ?_
  refine lv_icmp_ge (tgt := 21) hx hb dX12_ringAll_5 (by decide) (fun c3 => ?_) (fun c3 => ?_)
  · have hw := hw.1 c3
    refine lv_aload_n hx hb dX12_ringAll_21 rfl (lv_at hl 0 rfl) ?_
    refine lv_aload_n hx hb dX12_ringAll_22 rfl (lv_at hl 0 rfl) ?_
    refine hw_get (v := .ref (ad 14)) hx hb hts hiX12 hown hK hP (Nat.lt_of_lt_of_le (by decide) hN) (bY_0 _) rfl 24 (by decide) (List.mem_of_getElem? (i := 3) rfl) rfl rfl dX12_ringAll_23 ?_
    refine hw_kv (va_runV (As := [.ref (ad 14)]) (rest := []) ⟨hx, hb, hml, hown, hts⟩ (kc_X12_rounds l D cy N hN ad hJ0 w σ2 _ 14 h8_14 _ hw) (cwV 1 hts gX12_ringAll_X12_rounds rfl rfl rfl (by decide +kernel) ⟨Nat.le_of_ble_eq_true rfl, Nat.le_of_ble_eq_true rfl⟩) (hw_preV hK hN1 hP (Nat.lt_of_lt_of_le (by decide) hN) (bY_0 _) rfl) rfl rfl hl.1 rfl (lv_room (Nat.le_of_ble_eq_true rfl)) dX12_ringAll_26 ⟨Nat.zero_le _, Nat.zero_le _⟩) hS (fun σ4 H locs hw hP hS => ?_)
    refine lv_aload_n hx hb dX12_ringAll_29 rfl (lv_at hl 0 rfl) ?_
    refine lv_iconst (v := 0) hx hb dX12_ringAll_30 (by decide) ?_
    refine hw_put (x := (0 : Int32)) (j := 29) hx hb hts hiX12 tyX12 tyX12_ok nmX12 hown hK hJ0 hP hS (Nat.lt_of_lt_of_le (by decide) hN) (bY_0 _) rfl (by decide) (List.mem_of_getElem? (i := 4) rfl) rfl rfl rfl rfl (Nat.le_of_ble_eq_true rfl) (by rw [bY_0]; rfl) dX12_ringAll_31 (fun H locs hP hS => ?_)
    refine lv_aload_n hx hb dX12_ringAll_34 rfl (lv_at hl 0 rfl) ?_
    refine lv_iconst (v := -1) hx hb dX12_ringAll_35 (by decide) ?_
    refine hw_put (x := (-1 : Int32)) (j := 30) hx hb hts hiX12 tyX12 tyX12_ok nmX12 hown hK hJ0 hP hS (Nat.lt_of_lt_of_le (by decide) hN) (bY_0 _) rfl (by decide) (List.mem_of_getElem? (i := 5) rfl) rfl rfl rfl rfl (Nat.le_of_ble_eq_true rfl) (by rw [bY_0]; rfl) dX12_ringAll_36 (fun H locs hP hS => ?_)
    refine lv_aload_n hx hb dX12_ringAll_39 rfl (lv_at hl 0 rfl) ?_
    refine lv_iconst (v := -1) hx hb dX12_ringAll_40 (by decide) ?_
    refine hw_put (x := (-1 : Int32)) (j := 31) hx hb hts hiX12 tyX12 tyX12_ok nmX12 hown hK hJ0 hP hS (Nat.lt_of_lt_of_le (by decide) hN) (bY_0 _) rfl (by decide) (List.mem_of_getElem? (i := 6) rfl) rfl rfl rfl rfl (Nat.le_of_ble_eq_true rfl) (by rw [bY_0]; rfl) dX12_ringAll_41 (fun H locs hP hS => ?_)
    refine lv_iconst (v := 0) hx hb dX12_ringAll_44 (by decide) ?_
    refine lv_istore_n (lv' := [(3, .int (0 : Int32)), (0, .ref (ad 0)), (1, .int a1), (2, .int a2)]) hx hb dX12_ringAll_45 rfl hl (by decide) rfl (fun ls hl => ?_)
    refine hw (fun (v3_5 : Int32) (σ6 : hSt) => ∀ (H : Heap) (locs : List Loc) (ls : Array Slot), va_P D vwCl (hC N ad (bY cy ad w) σ6) H → va_S (hA N ad s.heap.size) s.heap H locs → lv_has ls 8 [(0, .ref (ad 0)), (1, .int a1), (2, .int a2), (3, .int v3_5)] → W p l e (headSpec wsX12_ringAll ({ frames := 1, cells := 0, slots := 0, locals := 25 } : Room)).room s m ([Value.ref (ad 0), Value.int a1, Value.int a2] : List Value).toArray below meth c H locs 0 0 (MQ below (va_Qv (fun u : hSt => Q u) (hE D (fun u : hSt => hC N ad (bY cy ad w) u)) (hA N ad s.heap.size)) ([Value.ref (ad 0), Value.int a1, Value.int a2] : List Value).toArray s 0 0 (hA N ad s.heap.size)) (F0 m 46 ls [])) (fun v3_5 σ6 hw H locs ls hP hS hl => ?_) _ _ _ hP hS (lv_sub hl [1, 2, 3, 0] rfl)
    refine lv_iload_n hx hb dX12_ringAll_46 rfl (lv_at hl 3 rfl) ?_
    refine lv_iload_n hx hb dX12_ringAll_47 rfl (lv_at hl 1 rfl) ?_
    refine lv_icmp_ge (tgt := 242) hx hb dX12_ringAll_48 (by decide) (fun c7 => ?_) (fun c7 => ?_)
    · have hw := hw.1 c7
      exact hw_vret hx hb hr hlocks (σ6) hw hP hS dX12_ringAll_242
    have hw := hw.2 c7
    refine lv_iconst (v := 0) hx hb dX12_ringAll_51 (by decide) ?_
    refine lv_istore (lv' := [(4, .int (0 : Int32)), (0, .ref (ad 0)), (1, .int a1), (2, .int a2), (3, .int v3_5)]) hx hb dX12_ringAll_52 hl (by decide) rfl (fun ls hl => ?_)
    refine hw (fun (v4_8 : Int32) (σ9 : hSt) => ∀ (H : Heap) (locs : List Loc) (ls : Array Slot), va_P D vwCl (hC N ad (bY cy ad w) σ9) H → va_S (hA N ad s.heap.size) s.heap H locs → lv_has ls 8 [(0, .ref (ad 0)), (1, .int a1), (2, .int a2), (3, .int v3_5), (4, .int v4_8)] → W p l e (headSpec wsX12_ringAll ({ frames := 1, cells := 0, slots := 0, locals := 25 } : Room)).room s m ([Value.ref (ad 0), Value.int a1, Value.int a2] : List Value).toArray below meth c H locs 0 0 (MQ below (va_Qv (fun u : hSt => Q u) (hE D (fun u : hSt => hC N ad (bY cy ad w) u)) (hA N ad s.heap.size)) ([Value.ref (ad 0), Value.int a1, Value.int a2] : List Value).toArray s 0 0 (hA N ad s.heap.size)) (F0 m 54 ls [])) (fun v4_8 σ9 hw H locs ls hP hS hl => ?_) _ _ _ hP hS (lv_sub hl [1, 2, 3, 4, 0] rfl)
    refine lv_iload hx hb dX12_ringAll_54 (lv_at hl 4 rfl) ?_
    refine lv_aload_n hx hb dX12_ringAll_56 rfl (lv_at hl 0 rfl) ?_
    refine hw_get (v := .int (σ9 0 6)) hx hb hts hiX12 hown hK hP (Nat.lt_of_lt_of_le (by decide) hN) (bY_0 _) rfl 6 (by decide) (List.mem_of_getElem? (i := 7) rfl) rfl rfl dX12_ringAll_57 ?_
    refine lv_icmp_ge (tgt := 236) hx hb dX12_ringAll_60 (by decide) (fun c10 => ?_) (fun c10 => ?_)
    · have hw := hw.1 c10
      obtain ⟨x3_11, ex3_11⟩ : ∃ z : Int32, z = v3_5 + (1 : Int32) := ⟨_, rfl⟩
      have hw := hw x3_11 ex3_11
      refine lv_iinc (v := x3_11) (lv' := [(3, .int x3_11), (0, .ref (ad 0)), (1, .int a1), (2, .int a2), (4, .int v4_8)]) hx hb dX12_ringAll_236 hl (k := 3) rfl (by rw [ex3_11]; rfl) (by decide) rfl (fun ls hl => ?_)
      refine lv_goto (tgt := 46) hx hb dX12_ringAll_239 (by decide) ?_
      exact hw _ _ _ hP hS (lv_sub hl [1, 2, 3, 0] rfl)
    have hw := hw.2 c10
    refine lv_aload_n hx hb dX12_ringAll_63 rfl (lv_at hl 0 rfl) ?_
    refine hw_get (v := .ref (ad 3)) hx hb hts hiX12 hown hK hP (Nat.lt_of_lt_of_le (by decide) hN) (bY_0 _) rfl 4 (by decide) (List.mem_of_getElem? (i := 8) rfl) rfl rfl dX12_ringAll_64 ?_
    refine lv_iload hx hb dX12_ringAll_67 (lv_at hl 4 rfl) ?_
    obtain ⟨hi12, hw⟩ := hw
    refine hw_iald hx hb hK hP (Nat.lt_of_lt_of_le (by decide) hN) (bY_3 _) hi12 dX12_ringAll_69 ?_
    refine lv_topi (fun x5_13 ex5_13 => ?_)
    have hw := hw x5_13 ex5_13
    refine lv_istore (lv' := [(5, .int x5_13), (0, .ref (ad 0)), (1, .int a1), (2, .int a2), (3, .int v3_5), (4, .int v4_8)]) hx hb dX12_ringAll_70 hl (by decide) rfl (fun ls hl => ?_)
    refine lv_iconst (v := 0) hx hb dX12_ringAll_72 (by decide) ?_
    refine lv_istore (lv' := [(6, .int (0 : Int32)), (5, .int x5_13), (0, .ref (ad 0)), (1, .int a1), (2, .int a2), (3, .int v3_5), (4, .int v4_8)]) hx hb dX12_ringAll_73 hl (by decide) rfl (fun ls hl => ?_)
    refine hw (fun (v6_14 : Int32) (σ15 : hSt) => ∀ (H : Heap) (locs : List Loc) (ls : Array Slot), va_P D vwCl (hC N ad (bY cy ad w) σ15) H → va_S (hA N ad s.heap.size) s.heap H locs → lv_has ls 8 [(0, .ref (ad 0)), (1, .int a1), (2, .int a2), (3, .int v3_5), (4, .int v4_8), (5, .int x5_13), (6, .int v6_14)] → W p l e (headSpec wsX12_ringAll ({ frames := 1, cells := 0, slots := 0, locals := 25 } : Room)).room s m ([Value.ref (ad 0), Value.int a1, Value.int a2] : List Value).toArray below meth c H locs 0 0 (MQ below (va_Qv (fun u : hSt => Q u) (hE D (fun u : hSt => hC N ad (bY cy ad w) u)) (hA N ad s.heap.size)) ([Value.ref (ad 0), Value.int a1, Value.int a2] : List Value).toArray s 0 0 (hA N ad s.heap.size)) (F0 m 75 ls [])) (fun v6_14 σ15 hw H locs ls hP hS hl => ?_) _ _ _ hP hS (lv_sub hl [2, 3, 4, 5, 6, 1, 0] rfl)
    refine lv_iload hx hb dX12_ringAll_75 (lv_at hl 6 rfl) ?_
    refine lv_aload_n hx hb dX12_ringAll_77 rfl (lv_at hl 0 rfl) ?_
    refine hw_get (v := .ref (ad 1)) hx hb hts hiX12 hown hK hP (Nat.lt_of_lt_of_le (by decide) hN) (bY_0 _) rfl 2 (by decide) (List.mem_of_getElem? (i := 9) rfl) rfl rfl dX12_ringAll_78 ?_
    refine lv_iload hx hb dX12_ringAll_81 (lv_at hl 5 rfl) ?_
    obtain ⟨hi16, hw⟩ := hw
    refine hw_iald hx hb hK hP (Nat.lt_of_lt_of_le (by decide) hN) (bY_1 _) hi16 dX12_ringAll_83 ?_
    refine lv_icmp_ge (tgt := 230) hx hb dX12_ringAll_84 (by decide) (fun c17 => ?_) (fun c17 => ?_)
    · have hw := hw.1 c17
      obtain ⟨x4_18, ex4_18⟩ : ∃ z : Int32, z = v4_8 + (1 : Int32) := ⟨_, rfl⟩
      have hw := hw x4_18 ex4_18
      refine lv_iinc (v := x4_18) (lv' := [(4, .int x4_18), (0, .ref (ad 0)), (1, .int a1), (2, .int a2), (3, .int v3_5), (5, .int x5_13), (6, .int v6_14)]) hx hb dX12_ringAll_230 hl (k := 4) rfl (by rw [ex4_18]; rfl) (by decide) rfl (fun ls hl => ?_)
      refine lv_goto (tgt := 54) hx hb dX12_ringAll_233 (by decide) ?_
      exact hw _ _ _ hP hS (lv_sub hl [1, 2, 3, 4, 0] rfl)
    have hw := hw.2 c17
    refine lv_aload_n hx hb dX12_ringAll_87 rfl (lv_at hl 0 rfl) ?_
    refine lv_aload_n hx hb dX12_ringAll_88 rfl (lv_at hl 0 rfl) ?_
    refine hw_get (v := .ref (ad 14)) hx hb hts hiX12 hown hK hP (Nat.lt_of_lt_of_le (by decide) hN) (bY_0 _) rfl 24 (by decide) (List.mem_of_getElem? (i := 3) rfl) rfl rfl dX12_ringAll_89 ?_
    refine hw_ki (va_runV (As := [.ref (ad 14)]) (rest := []) ⟨hx, hb, hml, hown, hts⟩ (kc_X12_rank l D cy N hN ad hJ0 w σ15 _ 14 h8_14 _ hw) (cwV 1 hts gX12_ringAll_X12_rank rfl rfl rfl (by decide +kernel) ⟨Nat.le_of_ble_eq_true rfl, Nat.le_of_ble_eq_true rfl⟩) (hw_preV hK hN1 hP (Nat.lt_of_lt_of_le (by decide) hN) (bY_0 _) rfl) rfl rfl hl.1 rfl (lv_room (Nat.le_of_ble_eq_true rfl)) dX12_ringAll_92 ⟨Nat.zero_le _, Nat.zero_le _⟩) hS (fun r20 σ19 H locs hw hP hS => ?_)
    obtain ⟨hu_, hw⟩ := hw
    rw [hu_] at hP
    refine lv_istore (lv' := [(7, .int r20), (0, .ref (ad 0)), (1, .int a1), (2, .int a2), (3, .int v3_5), (4, .int v4_8), (5, .int x5_13), (6, .int v6_14)]) hx hb dX12_ringAll_95 hl (by decide) rfl (fun ls hl => ?_)
    refine lv_aload_n hx hb dX12_ringAll_97 rfl (lv_at hl 1 rfl) ?_
    refine hw_get (v := .int (σ15 0 30)) hx hb hts hiX12 hown hK hP (Nat.lt_of_lt_of_le (by decide) hN) (bY_0 _) rfl 30 (by decide) (List.mem_of_getElem? (i := 5) rfl) rfl rfl dX12_ringAll_98 ?_
    obtain ⟨J133, ehJ133, hw⟩ := hM_x hw
    have hJ133 : ∀ (σ21 : hSt) (H : Heap) (locs : List Loc) (ls : Array Slot), J133 σ21 → va_P D vwCl (hC N ad (bY cy ad w) σ21) H → va_S (hA N ad s.heap.size) s.heap H locs → lv_has ls 8 [(0, .ref (ad 0)), (1, .int a1), (2, .int a2), (3, .int v3_5), (4, .int v4_8), (5, .int x5_13), (6, .int v6_14), (7, .int r20)] → W p l e (headSpec wsX12_ringAll ({ frames := 1, cells := 0, slots := 0, locals := 25 } : Room)).room s m ([Value.ref (ad 0), Value.int a1, Value.int a2] : List Value).toArray below meth c H locs 0 0 (MQ below (va_Qv (fun u : hSt => Q u) (hE D (fun u : hSt => hC N ad (bY cy ad w) u)) (hA N ad s.heap.size)) ([Value.ref (ad 0), Value.int a1, Value.int a2] : List Value).toArray s 0 0 (hA N ad s.heap.size)) (F0 m 133 ls []) := by
      intro σ21 H locs ls hw hP hS hl
      rw [ehJ133] at hw
      refine lv_aload_n hx hb dX12_ringAll_133 rfl (lv_at hl 0 rfl) ?_
      refine hw_get (v := .ref (ad 17)) hx hb hts hiX12 hown hK hP (Nat.lt_of_lt_of_le (by decide) hN) (bY_0 _) rfl 28 (by decide) (List.mem_of_getElem? (i := 2) rfl) rfl rfl dX12_ringAll_134 ?_
      refine lv_iload hx hb dX12_ringAll_137 (lv_at hl 7 rfl) ?_
      obtain ⟨hi22, hw⟩ := hw
      refine hw_iald hx hb hK hP (Nat.lt_of_lt_of_le (by decide) hN) (bY_17 _) hi22 dX12_ringAll_139 ?_
      obtain ⟨J154, ehJ154, hw⟩ := hM_x hw
      have hJ154 : ∀ (σ23 : hSt) (H : Heap) (locs : List Loc) (ls : Array Slot), J154 σ23 → va_P D vwCl (hC N ad (bY cy ad w) σ23) H → va_S (hA N ad s.heap.size) s.heap H locs → lv_has ls 8 [(0, .ref (ad 0)), (1, .int a1), (2, .int a2), (3, .int v3_5), (4, .int v4_8), (5, .int x5_13), (6, .int v6_14)] → W p l e (headSpec wsX12_ringAll ({ frames := 1, cells := 0, slots := 0, locals := 25 } : Room)).room s m ([Value.ref (ad 0), Value.int a1, Value.int a2] : List Value).toArray below meth c H locs 0 0 (MQ below (va_Qv (fun u : hSt => Q u) (hE D (fun u : hSt => hC N ad (bY cy ad w) u)) (hA N ad s.heap.size)) ([Value.ref (ad 0), Value.int a1, Value.int a2] : List Value).toArray s 0 0 (hA N ad s.heap.size)) (F0 m 154 ls []) := by
        intro σ23 H locs ls hw hP hS hl
        rw [ehJ154] at hw
        refine lv_aload_n hx hb dX12_ringAll_154 rfl (lv_at hl 0 rfl) ?_
        refine hw_get (v := .int (σ23 0 29)) hx hb hts hiX12 hown hK hP (Nat.lt_of_lt_of_le (by decide) hN) (bY_0 _) rfl 29 (by decide) (List.mem_of_getElem? (i := 4) rfl) rfl rfl dX12_ringAll_155 ?_
        refine lv_iload_n hx hb dX12_ringAll_158 rfl (lv_at hl 2 rfl) ?_
        refine lv_icmp_ne (tgt := 163) hx hb dX12_ringAll_159 (by decide) (fun c24 => ?_) (fun c24 => ?_)
        · have hw := hw.1 c24
          refine lv_aload_n hx hb dX12_ringAll_163 rfl (lv_at hl 0 rfl) ?_
          refine lv_dup hx hb dX12_ringAll_164 rfl ?_
          refine hw_get (v := .int (σ23 0 29)) hx hb hts hiX12 hown hK hP (Nat.lt_of_lt_of_le (by decide) hN) (bY_0 _) rfl 29 (by decide) (List.mem_of_getElem? (i := 4) rfl) rfl rfl dX12_ringAll_165 ?_
          refine lv_iconst (v := 1) hx hb dX12_ringAll_168 (by decide) ?_
          refine lv_iadd hx hb dX12_ringAll_169 ?_
          refine hw_put (x := ((σ23 0 29) + (1 : Int32))) (j := 29) hx hb hts hiX12 tyX12 tyX12_ok nmX12 hown hK hJ0 hP hS (Nat.lt_of_lt_of_le (by decide) hN) (bY_0 _) rfl (by decide) (List.mem_of_getElem? (i := 4) rfl) rfl rfl rfl rfl (Nat.le_of_ble_eq_true rfl) (by rw [bY_0]; rfl) dX12_ringAll_170 (fun H locs hP hS => ?_)
          refine lv_aload_n hx hb dX12_ringAll_173 rfl (lv_at hl 0 rfl) ?_
          refine lv_aload_n hx hb dX12_ringAll_174 rfl (lv_at hl 0 rfl) ?_
          refine hw_get (v := .ref (ad 14)) hx hb hts hiX12 hown hK hP (Nat.lt_of_lt_of_le (by decide) hN) (bY_0 _) rfl 24 (by decide) (List.mem_of_getElem? (i := 3) rfl) rfl rfl dX12_ringAll_175 ?_
          refine lv_iload hx hb dX12_ringAll_178 (lv_at hl 6 rfl) ?_
          refine lv_iconst (v := 1) hx hb dX12_ringAll_180 (by decide) ?_
          refine lv_iadd hx hb dX12_ringAll_181 ?_
          refine lv_aload_n hx hb dX12_ringAll_182 rfl (lv_at hl 0 rfl) ?_
          refine hw_get (v := .ref (ad 1)) hx hb hts hiX12 hown hK hP (Nat.lt_of_lt_of_le (by decide) hN) (bY_0 _) rfl 2 (by decide) (List.mem_of_getElem? (i := 9) rfl) rfl rfl dX12_ringAll_183 ?_
          refine lv_iload hx hb dX12_ringAll_186 (lv_at hl 5 rfl) ?_
          obtain ⟨hi25, hw⟩ := hw
          refine hw_iald hx hb hK hP (Nat.lt_of_lt_of_le (by decide) hN) (bY_1 _) hi25 dX12_ringAll_188 ?_
          refine lv_icmp_ge (tgt := 208) hx hb dX12_ringAll_189 (by decide) (fun c26 => ?_) (fun c26 => ?_)
          · have hw := hw.1 c26
            refine lv_aload_n hx hb dX12_ringAll_208 rfl (lv_at hl 0 rfl) ?_
            refine lv_iload hx hb dX12_ringAll_209 (lv_at hl 5 rfl) ?_
            refine lv_aload_n hx hb dX12_ringAll_211 rfl (lv_at hl 0 rfl) ?_
            refine hw_get (v := .ref (ad 4)) hx hb hts hiX12 hown hK hP (Nat.lt_of_lt_of_le (by decide) hN) (bY_0 _) rfl 5 (by decide) (List.mem_of_getElem? (i := 11) rfl) rfl rfl dX12_ringAll_212 ?_
            refine lv_iload hx hb dX12_ringAll_215 (lv_at hl 4 rfl) ?_
            obtain ⟨hi27, hw⟩ := hw
            refine hw_iald hx hb hK hP (Nat.lt_of_lt_of_le (by decide) hN) (bY_4 _) hi27 dX12_ringAll_217 ?_
            refine hw_ki (va_runV (As := [.int x5_13, .int ((hup σ23 0 29 ((σ23 0 29) + (1 : Int32))) 4 (v4_8).toNatClampNeg)]) (rest := [.ref (ad 14), .ref (ad 0)]) ⟨hx, hb, hml, hown, hts⟩ (kc_X12_last l D cy N hN ad hJ0 w (hup σ23 0 29 ((σ23 0 29) + (1 : Int32))) _ x5_13 ((hup σ23 0 29 ((σ23 0 29) + (1 : Int32))) 4 (v4_8).toNatClampNeg) _ hw) (cwV 2 hts gX12_ringAll_X12_last rfl rfl rfl (by decide +kernel) ⟨Nat.le_of_ble_eq_true rfl, Nat.le_of_ble_eq_true rfl⟩) (hw_preV hK hN1 hP (Nat.lt_of_lt_of_le (by decide) hN) (bY_0 _) rfl) rfl rfl hl.1 rfl (lv_room (Nat.le_of_ble_eq_true rfl)) dX12_ringAll_218 ⟨Nat.zero_le _, Nat.zero_le _⟩) hS (fun r29 σ28 H locs hw hP hS => ?_)
            obtain ⟨hu_, hw⟩ := hw
            rw [hu_] at hP
            refine hw_kv (va_runV (As := [.ref (ad 14), .int r29]) (rest := []) ⟨hx, hb, hml, hown, hts⟩ (kc_X12_ring l D cy N hN ad hJ0 w (hup σ23 0 29 ((σ23 0 29) + (1 : Int32))) _ 14 h8_14 r29 _ hw) (cwV 2 hts gX12_ringAll_X12_ring rfl rfl rfl (by decide +kernel) ⟨Nat.le_of_ble_eq_true rfl, Nat.le_of_ble_eq_true rfl⟩) (hw_preV hK hN1 hP (Nat.lt_of_lt_of_le (by decide) hN) (bY_0 _) rfl) rfl rfl hl.1 rfl (lv_room (Nat.le_of_ble_eq_true rfl)) dX12_ringAll_221 ⟨Nat.zero_le _, Nat.zero_le _⟩) hS (fun σ30 H locs hw hP hS => ?_)
            obtain ⟨x6_31, ex6_31⟩ : ∃ z : Int32, z = v6_14 + (1 : Int32) := ⟨_, rfl⟩
            have hw := hw x6_31 ex6_31
            refine lv_iinc (v := x6_31) (lv' := [(6, .int x6_31), (0, .ref (ad 0)), (1, .int a1), (2, .int a2), (3, .int v3_5), (4, .int v4_8), (5, .int x5_13)]) hx hb dX12_ringAll_224 hl (k := 6) rfl (by rw [ex6_31]; rfl) (by decide) rfl (fun ls hl => ?_)
            refine lv_goto (tgt := 75) hx hb dX12_ringAll_227 (by decide) ?_
            exact hw _ _ _ hP hS (lv_sub hl [1, 2, 3, 4, 5, 6, 0] rfl)
          have hw := hw.2 c26
          refine lv_aload_n hx hb dX12_ringAll_192 rfl (lv_at hl 0 rfl) ?_
          refine hw_get (v := .ref (ad 2)) hx hb hts hiX12 hown hK hP (Nat.lt_of_lt_of_le (by decide) hN) (bY_0 _) rfl 3 (by decide) (List.mem_of_getElem? (i := 10) rfl) rfl rfl dX12_ringAll_193 ?_
          refine lv_bipush (v := 66) hx hb dX12_ringAll_196 (by decide) ?_
          refine lv_iload hx hb dX12_ringAll_198 (lv_at hl 5 rfl) ?_
          refine lv_imul hx hb dX12_ringAll_200 ?_
          refine lv_iload hx hb dX12_ringAll_201 (lv_at hl 6 rfl) ?_
          refine lv_iadd hx hb dX12_ringAll_203 ?_
          obtain ⟨hi32, hw⟩ := hw
          refine hw_iald hx hb hK hP (Nat.lt_of_lt_of_le (by decide) hN) (bY_2 _) hi32 dX12_ringAll_204 ?_
          refine lv_goto (tgt := 221) hx hb dX12_ringAll_205 (by decide) ?_
          refine hw_kv (va_runV (As := [.ref (ad 14), .int ((hup σ23 0 29 ((σ23 0 29) + (1 : Int32))) 2 ((((66 : Int32) * x5_13) + v6_14)).toNatClampNeg)]) (rest := []) ⟨hx, hb, hml, hown, hts⟩ (kc_X12_ring l D cy N hN ad hJ0 w (hup σ23 0 29 ((σ23 0 29) + (1 : Int32))) _ 14 h8_14 ((hup σ23 0 29 ((σ23 0 29) + (1 : Int32))) 2 ((((66 : Int32) * x5_13) + v6_14)).toNatClampNeg) _ hw) (cwV 2 hts gX12_ringAll_X12_ring rfl rfl rfl (by decide +kernel) ⟨Nat.le_of_ble_eq_true rfl, Nat.le_of_ble_eq_true rfl⟩) (hw_preV hK hN1 hP (Nat.lt_of_lt_of_le (by decide) hN) (bY_0 _) rfl) rfl rfl hl.1 rfl (lv_room (Nat.le_of_ble_eq_true rfl)) dX12_ringAll_221 ⟨Nat.zero_le _, Nat.zero_le _⟩) hS (fun σ33 H locs hw hP hS => ?_)
          obtain ⟨x6_34, ex6_34⟩ : ∃ z : Int32, z = v6_14 + (1 : Int32) := ⟨_, rfl⟩
          have hw := hw x6_34 ex6_34
          refine lv_iinc (v := x6_34) (lv' := [(6, .int x6_34), (0, .ref (ad 0)), (1, .int a1), (2, .int a2), (3, .int v3_5), (4, .int v4_8), (5, .int x5_13)]) hx hb dX12_ringAll_224 hl (k := 6) rfl (by rw [ex6_34]; rfl) (by decide) rfl (fun ls hl => ?_)
          refine lv_goto (tgt := 75) hx hb dX12_ringAll_227 (by decide) ?_
          exact hw _ _ _ hP hS (lv_sub hl [1, 2, 3, 4, 5, 6, 0] rfl)
        have hw := hw.2 c24
        exact hw_vret hx hb hr hlocks (σ23) hw hP hS dX12_ringAll_162
      refine lv_if_ge (tgt := 154) hx hb dX12_ringAll_140 (by decide) (fun c35 => ?_) (fun c35 => ?_)
      · have hw := hw.1 c35
        exact hJ154 _ _ _ _ hw hP hS (lv_sub hl [0, 1, 2, 3, 4, 5, 6] rfl)
      have hw := hw.2 c35
      refine lv_aload_n hx hb dX12_ringAll_143 rfl (lv_at hl 0 rfl) ?_
      refine hw_get (v := .ref (ad 17)) hx hb hts hiX12 hown hK hP (Nat.lt_of_lt_of_le (by decide) hN) (bY_0 _) rfl 28 (by decide) (List.mem_of_getElem? (i := 2) rfl) rfl rfl dX12_ringAll_144 ?_
      refine lv_iload hx hb dX12_ringAll_147 (lv_at hl 7 rfl) ?_
      refine lv_aload_n hx hb dX12_ringAll_149 rfl (lv_at hl 0 rfl) ?_
      refine hw_get (v := .int (σ21 0 29)) hx hb hts hiX12 hown hK hP (Nat.lt_of_lt_of_le (by decide) hN) (bY_0 _) rfl 29 (by decide) (List.mem_of_getElem? (i := 4) rfl) rfl rfl dX12_ringAll_150 ?_
      obtain ⟨hi36, hw⟩ := hw
      refine hw_iast hx hb hK hJ0 hP hS (Nat.lt_of_lt_of_le (by decide) hN) (fun ρ => bY_17 ρ) hi36 dX12_ringAll_153 (fun H locs hP hS => ?_)
      exact hJ154 _ _ _ _ hw hP hS (lv_sub hl [0, 1, 2, 3, 4, 5, 6] rfl)
    refine lv_if_ge (tgt := 133) hx hb dX12_ringAll_101 (by decide) (fun c37 => ?_) (fun c37 => ?_)
    · have hw := hw.1 c37
      exact hJ133 _ _ _ _ hw hP hS (lv_sub hl [1, 2, 3, 4, 5, 6, 7, 0] rfl)
    have hw := hw.2 c37
    refine lv_aload_n hx hb dX12_ringAll_104 rfl (lv_at hl 1 rfl) ?_
    refine hw_get (v := .ref (ad 17)) hx hb hts hiX12 hown hK hP (Nat.lt_of_lt_of_le (by decide) hN) (bY_0 _) rfl 28 (by decide) (List.mem_of_getElem? (i := 2) rfl) rfl rfl dX12_ringAll_105 ?_
    refine lv_iload hx hb dX12_ringAll_108 (lv_at hl 0 rfl) ?_
    obtain ⟨hi38, hw⟩ := hw
    refine hw_iald hx hb hK hP (Nat.lt_of_lt_of_le (by decide) hN) (bY_17 _) hi38 dX12_ringAll_110 ?_
    refine lv_if_lt (tgt := 133) hx hb dX12_ringAll_111 (by decide) (fun c39 => ?_) (fun c39 => ?_)
    · have hw := hw.1 c39
      exact hJ133 _ _ _ _ hw hP hS (lv_sub hl [1, 2, 3, 4, 5, 6, 7, 0] rfl)
    have hw := hw.2 c39
    refine lv_aload_n hx hb dX12_ringAll_114 rfl (lv_at hl 1 rfl) ?_
    refine lv_aload_n hx hb dX12_ringAll_115 rfl (lv_at hl 1 rfl) ?_
    refine hw_get (v := .int (σ15 0 29)) hx hb hts hiX12 hown hK hP (Nat.lt_of_lt_of_le (by decide) hN) (bY_0 _) rfl 29 (by decide) (List.mem_of_getElem? (i := 4) rfl) rfl rfl dX12_ringAll_116 ?_
    refine hw_put (x := (σ15 0 29)) (j := 30) hx hb hts hiX12 tyX12 tyX12_ok nmX12 hown hK hJ0 hP hS (Nat.lt_of_lt_of_le (by decide) hN) (bY_0 _) rfl (by decide) (List.mem_of_getElem? (i := 5) rfl) rfl rfl rfl rfl (Nat.le_of_ble_eq_true rfl) (by rw [bY_0]; rfl) dX12_ringAll_119 (fun H locs hP hS => ?_)
    refine lv_aload_n hx hb dX12_ringAll_122 rfl (lv_at hl 1 rfl) ?_
    refine lv_aload_n hx hb dX12_ringAll_123 rfl (lv_at hl 1 rfl) ?_
    refine hw_get (v := .ref (ad 17)) hx hb hts hiX12 hown hK hP (Nat.lt_of_lt_of_le (by decide) hN) (bY_0 _) rfl 28 (by decide) (List.mem_of_getElem? (i := 2) rfl) rfl rfl dX12_ringAll_124 ?_
    refine lv_iload hx hb dX12_ringAll_127 (lv_at hl 0 rfl) ?_
    obtain ⟨hi40, hw⟩ := hw
    refine hw_iald hx hb hK hP (Nat.lt_of_lt_of_le (by decide) hN) (bY_17 _) hi40 dX12_ringAll_129 ?_
    refine hw_put (x := ((hup σ15 0 30 (σ15 0 29)) 17 (r20).toNatClampNeg)) (j := 31) hx hb hts hiX12 tyX12 tyX12_ok nmX12 hown hK hJ0 hP hS (Nat.lt_of_lt_of_le (by decide) hN) (bY_0 _) rfl (by decide) (List.mem_of_getElem? (i := 6) rfl) rfl rfl rfl rfl (Nat.le_of_ble_eq_true rfl) (by rw [bY_0]; rfl) dX12_ringAll_130 (fun H locs hP hS => ?_)
    exact hJ133 _ _ _ _ hw hP hS (lv_sub hl [1, 2, 3, 4, 5, 6, 7, 0] rfl)
  have hw := hw.2 c3
  refine lv_aload_n hx hb dX12_ringAll_8 rfl (lv_at hl 0 rfl) ?_
  refine hw_get (v := .ref (ad 17)) hx hb hts hiX12 hown hK hP (Nat.lt_of_lt_of_le (by decide) hN) (bY_0 _) rfl 28 (by decide) (List.mem_of_getElem? (i := 2) rfl) rfl rfl dX12_ringAll_9 ?_
  refine lv_iload_n hx hb dX12_ringAll_12 rfl (lv_at hl 3 rfl) ?_
  refine lv_iconst (v := -1) hx hb dX12_ringAll_13 (by decide) ?_
  obtain ⟨hi41, hw⟩ := hw
  refine hw_iast hx hb hK hJ0 hP hS (Nat.lt_of_lt_of_le (by decide) hN) (fun ρ => bY_17 ρ) hi41 dX12_ringAll_14 (fun H locs hP hS => ?_)
  obtain ⟨x3_42, ex3_42⟩ : ∃ z : Int32, z = v3_1 + (1 : Int32) := ⟨_, rfl⟩
  have hw := hw x3_42 ex3_42
  refine lv_iinc (v := x3_42) (lv' := [(3, .int x3_42), (0, .ref (ad 0)), (1, .int a1), (2, .int a2)]) hx hb dX12_ringAll_15 hl (k := 3) rfl (by rw [ex3_42]; rfl) (by decide) rfl (fun ls hl => ?_)
  refine lv_goto (tgt := 2) hx hb dX12_ringAll_18 (by decide) ?_
  exact hw _ _ _ hP hS (lv_sub hl [1, 2, 3, 0] rfl)
set_option maxHeartbeats 4000000 in
set_option maxRecDepth 100000 in
theorem kc_X12_order (l : Launch) (D : va_G) (cy : Nat → ClassId) (N : Nat) (hN : 22 ≤ N) (ad : Nat → Nat) (hJ0 : hJ N ad) (w : Nat → Int64) (σ : hSt) (sz : Nat)  (Q : Int32 → hSt → (Nat → Int64) → Prop) (hw : wp_X12_order  σ w Q) : Met l yX12_order wsX12_order ({ frames := 1, cells := 0, slots := 0, locals := 22 } : Room) (va_Pc [.ref (ad 0)] (hB D cy (hC N ad (bY cy ad w) σ) sz)) (va_Qi (fun (r : Int32) (u : hSt × (Nat → Int64)) => Q r u.1 u.2) (hE D (fun u : hSt × (Nat → Int64) => hC N ad (bY cy ad u.2) u.1)) (hA N ad sz)) 0 0 (hA N ad sz) := by
  refine Met.ofW (cc := cX12_order) (maxL := 4) (ret := (some .int)) (by decide) rfl ?_
  intro p e s m args below meth c s₁ B hml hv
  obtain ⟨rfl, hsz, hP, hK, hN1⟩ := hv
  have hx := B.exec
  have hb := B.bytes
  have hr := B.returns
  have hts := atoms_spec (ws := wsX12_order) B.pre
  have hown : s.vm.findClass RX12 = some m.cls := findClass_of_methodNamed B.named
  have hlocks := B.notSynchronized
  subst hsz
  have hS : va_S (hA N ad s.heap.size) s.heap s.heap [] := va_S.rf
  have hiX12 : ∀ w ∈ wsX120, w ∈ wsX12_order := fun _ h => List.mem_cons_of_mem _ (List.mem_append_right _ h)
  have hl := lv_entry ([.ref (ad 0)]) (n := 4) (Nat.le_of_ble_eq_true rfl)
  rw [lg_entry_eq]
  generalize (lg_sl ([.ref (ad 0)]) ++ List.replicate (4 - (lg_sl ([.ref (ad 0)])).length) Slot.unset).toArray = ls at hl ⊢
  have hl : lv_has ls 4 [(0, .ref (ad 0))] := hl
  unfold wp_X12_order at hw
  refine lv_iconst (v := 0) hx hb dX12_order_0 (by decide) ?_
  refine lv_istore_n (lv' := [(1, .int (0 : Int32)), (0, .ref (ad 0))]) hx hb dX12_order_1 rfl hl (by decide) rfl (fun ls hl => ?_)
  refine lv_aload_n hx hb dX12_order_2 rfl (lv_at hl 1 rfl) ?_
  refine lv_aload_n hx hb dX12_order_3 rfl (lv_at hl 1 rfl) ?_
  refine hw_get (v := .ref (ad 15)) hx hb hts hiX12 hown hK hP (Nat.lt_of_lt_of_le (by decide) hN) (bY_0 _) rfl 25 (by decide) (List.mem_of_getElem? (i := 1) rfl) rfl rfl dX12_order_4 ?_
  refine hw_kv (va_runV (As := [.ref (ad 15)]) (rest := []) ⟨hx, hb, hml, hown, hts⟩ (kc_X12_rounds l D cy N hN ad hJ0 w σ _ 15 h8_15 _ hw) (cwV 1 hts gX12_order_X12_rounds rfl rfl rfl (by decide +kernel) ⟨Nat.le_of_ble_eq_true rfl, Nat.le_of_ble_eq_true rfl⟩) (hw_preV hK hN1 hP (Nat.lt_of_lt_of_le (by decide) hN) (bY_0 _) rfl) rfl rfl hl.1 rfl (lv_room (Nat.le_of_ble_eq_true rfl)) dX12_order_7 ⟨Nat.zero_le _, Nat.zero_le _⟩) hS (fun σ1 H locs hw hP hS => ?_)
  refine hw (fun (v1_2 : Int32) (σ3 : hSt) (w4 : (Nat → Int64)) => ∀ (H : Heap) (locs : List Loc) (ls : Array Slot), va_P D vwCl (hC N ad (bY cy ad w4) σ3) H → va_S (hA N ad s.heap.size) s.heap H locs → lv_has ls 4 [(0, .ref (ad 0)), (1, .int v1_2)] → W p l e (headSpec wsX12_order ({ frames := 1, cells := 0, slots := 0, locals := 22 } : Room)).room s m ([Value.ref (ad 0)] : List Value).toArray below meth c H locs 0 0 (MQ below (va_Qi (fun (r : Int32) (u : hSt × (Nat → Int64)) => Q r u.1 u.2) (hE D (fun u : hSt × (Nat → Int64) => hC N ad (bY cy ad u.2) u.1)) (hA N ad s.heap.size)) ([Value.ref (ad 0)] : List Value).toArray s 0 0 (hA N ad s.heap.size)) (F0 m 10 ls [])) (fun v1_2 σ3 w4 hw H locs ls hP hS hl => ?_) _ _ _ hP hS (lv_sub hl [1, 0] rfl)
  refine lv_aload_n hx hb dX12_order_10 rfl (lv_at hl 0 rfl) ?_
  refine hw_get (v := .ref (ad 14)) hx hb hts hiX12 hown hK hP (Nat.lt_of_lt_of_le (by decide) hN) (bY_0 _) rfl 24 (by decide) (List.mem_of_getElem? (i := 2) rfl) rfl rfl dX12_order_11 ?_
  refine lv_astore_n (lv' := [(2, .ref (ad 14)), (0, .ref (ad 0)), (1, .int v1_2)]) hx hb dX12_order_14 rfl hl (by decide) rfl (fun ls hl => ?_)
  refine lv_iconst (v := 0) hx hb dX12_order_15 (by decide) ?_
  refine lv_istore_n (lv' := [(3, .int (0 : Int32)), (2, .ref (ad 14)), (0, .ref (ad 0)), (1, .int v1_2)]) hx hb dX12_order_16 rfl hl (by decide) rfl (fun ls hl => ?_)
  refine hw (fun (v3_5 : Int32) (σ6 : hSt) (w7 : (Nat → Int64)) => ∀ (H : Heap) (locs : List Loc) (ls : Array Slot), va_P D vwCl (hC N ad (bY cy ad w7) σ6) H → va_S (hA N ad s.heap.size) s.heap H locs → lv_has ls 4 [(0, .ref (ad 0)), (1, .int v1_2), (2, .ref (ad 14)), (3, .int v3_5)] → W p l e (headSpec wsX12_order ({ frames := 1, cells := 0, slots := 0, locals := 22 } : Room)).room s m ([Value.ref (ad 0)] : List Value).toArray below meth c H locs 0 0 (MQ below (va_Qi (fun (r : Int32) (u : hSt × (Nat → Int64)) => Q r u.1 u.2) (hE D (fun u : hSt × (Nat → Int64) => hC N ad (bY cy ad u.2) u.1)) (hA N ad s.heap.size)) ([Value.ref (ad 0)] : List Value).toArray s 0 0 (hA N ad s.heap.size)) (F0 m 17 ls [])) (fun v3_5 σ6 w7 hw H locs ls hP hS hl => ?_) _ _ _ hP hS (lv_sub hl [2, 3, 1, 0] rfl)
  refine lv_iload_n hx hb dX12_order_17 rfl (lv_at hl 3 rfl) ?_
  refine lv_aload_n hx hb dX12_order_18 rfl (lv_at hl 0 rfl) ?_
  refine hw_get (v := .int (σ6 0 1)) hx hb hts hiX12 hown hK hP (Nat.lt_of_lt_of_le (by decide) hN) (bY_0 _) rfl 1 (by decide) (List.mem_of_getElem? (i := 3) rfl) rfl rfl dX12_order_19 ?_
  refine lv_icmp_ge (tgt := 48) hx hb dX12_order_22 (by decide) (fun c8 => ?_) (fun c8 => ?_)
  · have hw := hw.1 c8
    refine lv_iconst (v := 0) hx hb dX12_order_48 (by decide) ?_
    refine lv_istore_n (lv' := [(3, .int (0 : Int32)), (0, .ref (ad 0)), (1, .int v1_2), (2, .ref (ad 14))]) hx hb dX12_order_49 rfl hl (by decide) rfl (fun ls hl => ?_)
    refine hw (fun (v3_9 : Int32) (σ10 : hSt) => ∀ (H : Heap) (locs : List Loc) (ls : Array Slot), va_P D vwCl (hC N ad (bY cy ad w7) σ10) H → va_S (hA N ad s.heap.size) s.heap H locs → lv_has ls 4 [(0, .ref (ad 0)), (1, .int v1_2), (3, .int v3_9)] → W p l e (headSpec wsX12_order ({ frames := 1, cells := 0, slots := 0, locals := 22 } : Room)).room s m ([Value.ref (ad 0)] : List Value).toArray below meth c H locs 0 0 (MQ below (va_Qi (fun (r : Int32) (u : hSt × (Nat → Int64)) => Q r u.1 u.2) (hE D (fun u : hSt × (Nat → Int64) => hC N ad (bY cy ad u.2) u.1)) (hA N ad s.heap.size)) ([Value.ref (ad 0)] : List Value).toArray s 0 0 (hA N ad s.heap.size)) (F0 m 50 ls [])) (fun v3_9 σ10 hw H locs ls hP hS hl => ?_) _ _ _ hP hS (lv_sub hl [1, 2, 0] rfl)
    refine lv_iload_n hx hb dX12_order_50 rfl (lv_at hl 2 rfl) ?_
    refine lv_aload_n hx hb dX12_order_51 rfl (lv_at hl 0 rfl) ?_
    refine hw_get (v := .int (σ10 0 1)) hx hb hts hiX12 hown hK hP (Nat.lt_of_lt_of_le (by decide) hN) (bY_0 _) rfl 1 (by decide) (List.mem_of_getElem? (i := 3) rfl) rfl rfl dX12_order_52 ?_
    refine lv_icmp_ge (tgt := 77) hx hb dX12_order_55 (by decide) (fun c11 => ?_) (fun c11 => ?_)
    · have hw := hw.1 c11
      obtain ⟨x1_12, ex1_12⟩ : ∃ z : Int32, z = v1_2 + (1 : Int32) := ⟨_, rfl⟩
      have hw := hw x1_12 ex1_12
      refine lv_iinc (v := x1_12) (lv' := [(1, .int x1_12), (0, .ref (ad 0)), (3, .int v3_9)]) hx hb dX12_order_77 hl (k := 1) rfl (by rw [ex1_12]; rfl) (by decide) rfl (fun ls hl => ?_)
      refine lv_aload_n hx hb dX12_order_80 rfl (lv_at hl 1 rfl) ?_
      refine lv_aload_n hx hb dX12_order_81 rfl (lv_at hl 1 rfl) ?_
      refine hw_get (v := .ref (ad 15)) hx hb hts hiX12 hown hK hP (Nat.lt_of_lt_of_le (by decide) hN) (bY_0 _) rfl 25 (by decide) (List.mem_of_getElem? (i := 1) rfl) rfl rfl dX12_order_82 ?_
      refine hw_ki (va_runV (As := [.ref (ad 15)]) (rest := []) ⟨hx, hb, hml, hown, hts⟩ (kc_X12_isRounds l D cy N hN ad hJ0 w7 σ10 _ 15 h8_15 _ hw) (cwV 1 hts gX12_order_X12_isRounds rfl rfl rfl (by decide +kernel) ⟨Nat.le_of_ble_eq_true rfl, Nat.le_of_ble_eq_true rfl⟩) (hw_preV hK hN1 hP (Nat.lt_of_lt_of_le (by decide) hN) (bY_0 _) rfl) rfl rfl hl.1 rfl (lv_room (Nat.le_of_ble_eq_true rfl)) dX12_order_85 ⟨Nat.zero_le _, Nat.zero_le _⟩) hS (fun r14 σ13 H locs hw hP hS => ?_)
      obtain ⟨hu_, hw⟩ := hw
      rw [hu_] at hP
      refine lv_if_eq (tgt := 10) hx hb dX12_order_88 (by decide) (fun c15 => ?_) (fun c15 => ?_)
      · have hw := hw.1 c15
        exact hw _ _ _ hP hS (lv_sub hl [1, 0] rfl)
      have hw := hw.2 c15
      refine lv_iload_n hx hb dX12_order_91 rfl (lv_at hl 0 rfl) ?_
      exact hw_iret hx hb hr hlocks (σ10, w7) hw hP hS dX12_order_92
    have hw := hw.2 c11
    refine lv_aload_n hx hb dX12_order_58 rfl (lv_at hl 0 rfl) ?_
    refine hw_get (v := .ref (ad 15)) hx hb hts hiX12 hown hK hP (Nat.lt_of_lt_of_le (by decide) hN) (bY_0 _) rfl 25 (by decide) (List.mem_of_getElem? (i := 1) rfl) rfl rfl dX12_order_59 ?_
    refine lv_iload_n hx hb dX12_order_62 rfl (lv_at hl 2 rfl) ?_
    refine lv_aload_n hx hb dX12_order_63 rfl (lv_at hl 0 rfl) ?_
    refine hw_get (v := .ref (ad 12)) hx hb hts hiX12 hown hK hP (Nat.lt_of_lt_of_le (by decide) hN) (bY_0 _) rfl 22 (by decide) (List.mem_of_getElem? (i := 4) rfl) rfl rfl dX12_order_64 ?_
    refine lv_iload_n hx hb dX12_order_67 rfl (lv_at hl 2 rfl) ?_
    obtain ⟨hi16, hw⟩ := hw
    refine hw_lald hx hb hK hP hN hi16 dX12_order_68 ?_
    refine lv_l2i hx hb dX12_order_69 rfl ?_
    obtain ⟨hi17, hw⟩ := hw
    refine hw_iast hx hb hK hJ0 hP hS (Nat.lt_of_lt_of_le (by decide) hN) (fun ρ => bY_15 ρ) hi17 dX12_order_70 (fun H locs hP hS => ?_)
    obtain ⟨x3_18, ex3_18⟩ : ∃ z : Int32, z = v3_9 + (1 : Int32) := ⟨_, rfl⟩
    have hw := hw x3_18 ex3_18
    refine lv_iinc (v := x3_18) (lv' := [(3, .int x3_18), (0, .ref (ad 0)), (1, .int v1_2)]) hx hb dX12_order_71 hl (k := 2) rfl (by rw [ex3_18]; rfl) (by decide) rfl (fun ls hl => ?_)
    refine lv_goto (tgt := 50) hx hb dX12_order_74 (by decide) ?_
    exact hw _ _ _ hP hS (lv_sub hl [1, 2, 0] rfl)
  have hw := hw.2 c8
  refine lv_aload_n hx hb dX12_order_25 rfl (lv_at hl 0 rfl) ?_
  refine hw_get (v := .ref (ad 12)) hx hb hts hiX12 hown hK hP (Nat.lt_of_lt_of_le (by decide) hN) (bY_0 _) rfl 22 (by decide) (List.mem_of_getElem? (i := 4) rfl) rfl rfl dX12_order_26 ?_
  refine lv_iload_n hx hb dX12_order_29 rfl (lv_at hl 3 rfl) ?_
  refine lv_aload_n hx hb dX12_order_30 rfl (lv_at hl 0 rfl) ?_
  refine hw_get (v := .ref (ad 15)) hx hb hts hiX12 hown hK hP (Nat.lt_of_lt_of_le (by decide) hN) (bY_0 _) rfl 25 (by decide) (List.mem_of_getElem? (i := 1) rfl) rfl rfl dX12_order_31 ?_
  refine lv_aload_n hx hb dX12_order_34 rfl (lv_at hl 2 rfl) ?_
  refine lv_iload_n hx hb dX12_order_35 rfl (lv_at hl 3 rfl) ?_
  obtain ⟨hi19, hw⟩ := hw
  refine hw_iald hx hb hK hP (Nat.lt_of_lt_of_le (by decide) hN) (bY_14 _) hi19 dX12_order_36 ?_
  refine lv_iconst (v := 1) hx hb dX12_order_37 (by decide) ?_
  refine lv_isub hx hb dX12_order_38 ?_
  obtain ⟨hi20, hw⟩ := hw
  refine hw_iald hx hb hK hP (Nat.lt_of_lt_of_le (by decide) hN) (bY_15 _) hi20 dX12_order_39 ?_
  refine lv_i2l hx hb dX12_order_40 rfl ?_
  obtain ⟨hi21, hw⟩ := hw
  refine hw_last hx hb hK hJ0 hP hS hN hi21 dX12_order_41 (fun H locs hP hS => ?_)
  obtain ⟨x3_22, ex3_22⟩ : ∃ z : Int32, z = v3_5 + (1 : Int32) := ⟨_, rfl⟩
  have hw := hw x3_22 ex3_22
  refine lv_iinc (v := x3_22) (lv' := [(3, .int x3_22), (0, .ref (ad 0)), (1, .int v1_2), (2, .ref (ad 14))]) hx hb dX12_order_42 hl (k := 3) rfl (by rw [ex3_22]; rfl) (by decide) rfl (fun ls hl => ?_)
  refine lv_goto (tgt := 17) hx hb dX12_order_45 (by decide) ?_
  exact hw _ _ _ hP hS (lv_sub hl [1, 2, 3, 0] rfl)

set_option maxHeartbeats 4000000 in
set_option maxRecDepth 100000 in
theorem kc_X12_readLead (l : Launch) (D : va_G) (cy : Nat → ClassId) (N : Nat) (hN : 22 ≤ N) (ad : Nat → Nat) (hJ0 : hJ N ad) (w : Nat → Int64) (σ : hSt) (sz : Nat)  (Q : Int32 → hSt → Prop) (hw : wp_X12_readLead  σ w Q) : Met l yX12_readLead wsX12_readLead ({ frames := 2, cells := 0, slots := 0, locals := 47 } : Room) (va_Pc [.ref (ad 0)] (hB D cy (hC N ad (bY cy ad w) σ) sz)) (va_Qi (fun (r : Int32) (u : hSt) => Q r u) (hE D (fun u : hSt => hC N ad (bY cy ad w) u)) (hA N ad sz)) 0 0 (hA N ad sz) := by
  refine Met.ofW (cc := cX12_readLead) (maxL := 9) (ret := (some .boolean)) (by decide) rfl ?_
  intro p e s m args below meth c s₁ B hml hv
  obtain ⟨rfl, hsz, hP, hK, hN1⟩ := hv
  have hx := B.exec
  have hb := B.bytes
  have hr := B.returns
  have hts := atoms_spec (ws := wsX12_readLead) B.pre
  have hown : s.vm.findClass RX12 = some m.cls := findClass_of_methodNamed B.named
  have hlocks := B.notSynchronized
  subst hsz
  have hS : va_S (hA N ad s.heap.size) s.heap s.heap [] := va_S.rf
  have hiX12 : ∀ w ∈ wsX120, w ∈ wsX12_readLead := fun _ h => List.mem_cons_of_mem _ (List.mem_append_right _ h)
  have hl := lv_entry ([.ref (ad 0)]) (n := 9) (Nat.le_of_ble_eq_true rfl)
  rw [lg_entry_eq]
  generalize (lg_sl ([.ref (ad 0)]) ++ List.replicate (9 - (lg_sl ([.ref (ad 0)])).length) Slot.unset).toArray = ls at hl ⊢
  have hl : lv_has ls 9 [(0, .ref (ad 0))] := hl
  unfold wp_X12_readLead at hw
  refine lv_iconst (v := 0) hx hb dX12_readLead_0 (by decide) ?_
  refine lv_istore_n (lv' := [(1, .int (0 : Int32)), (0, .ref (ad 0))]) hx hb dX12_readLead_1 rfl hl (by decide) rfl (fun ls hl => ?_)
  refine lv_iconst (v := 1) hx hb dX12_readLead_2 (by decide) ?_
  refine lv_istore_n (lv' := [(2, .int (1 : Int32)), (1, .int (0 : Int32)), (0, .ref (ad 0))]) hx hb dX12_readLead_3 rfl hl (by decide) rfl (fun ls hl => ?_)
  refine hw (fun (v1_1 : Int32) (v2_2 : Int32) (σ3 : hSt) => ∀ (H : Heap) (locs : List Loc) (ls : Array Slot), va_P D vwCl (hC N ad (bY cy ad w) σ3) H → va_S (hA N ad s.heap.size) s.heap H locs → lv_has ls 9 [(0, .ref (ad 0)), (1, .int v1_1), (2, .int v2_2)] → W p l e (headSpec wsX12_readLead ({ frames := 2, cells := 0, slots := 0, locals := 47 } : Room)).room s m ([Value.ref (ad 0)] : List Value).toArray below meth c H locs 0 0 (MQ below (va_Qi (fun (r : Int32) (u : hSt) => Q r u) (hE D (fun u : hSt => hC N ad (bY cy ad w) u)) (hA N ad s.heap.size)) ([Value.ref (ad 0)] : List Value).toArray s 0 0 (hA N ad s.heap.size)) (F0 m 4 ls [])) (fun v1_1 v2_2 σ3 hw H locs ls hP hS hl => ?_) _ _ _ hP hS (lv_sub hl [2, 1, 0] rfl)
  refine lv_iload_n hx hb dX12_readLead_4 rfl (lv_at hl 2 rfl) ?_
  refine lv_if_eq (tgt := 343) hx hb dX12_readLead_5 (by decide) (fun c4 => ?_) (fun c4 => ?_)
  · have hw := hw.1 c4
    refine lv_aload_n hx hb dX12_readLead_343 rfl (lv_at hl 0 rfl) ?_
    refine lv_iload_n hx hb dX12_readLead_344 rfl (lv_at hl 1 rfl) ?_
    refine hw_put (x := v1_1) (j := 16) hx hb hts hiX12 tyX12 tyX12_ok nmX12 hown hK hJ0 hP hS (Nat.lt_of_lt_of_le (by decide) hN) (bY_0 _) rfl (by decide) (List.mem_of_getElem? (i := 5) rfl) rfl rfl rfl rfl (Nat.le_of_ble_eq_true rfl) (by rw [bY_0]; rfl) dX12_readLead_345 (fun H locs hP hS => ?_)
    refine lv_iconst (v := 1) hx hb dX12_readLead_348 (by decide) ?_
    exact hw_zret hx hb hr hlocks hbo_1 ((hup σ3 0 16 v1_1)) hw hP hS dX12_readLead_349
  have hw := hw.2 c4
  refine lv_aload_n hx hb dX12_readLead_8 rfl (lv_at hl 0 rfl) ?_
  refine hw_kv (va_runV (As := []) (rest := []) ⟨hx, hb, hml, hown, hts⟩ (kc_X12_blanks l D cy N hN ad hJ0 w σ3 _  _ hw) (cwV 0 hts gX12_readLead_X12_blanks rfl rfl rfl (by decide +kernel) ⟨Nat.le_of_ble_eq_true rfl, Nat.le_of_ble_eq_true rfl⟩) (hw_preV hK hN1 hP (Nat.lt_of_lt_of_le (by decide) hN) (bY_0 _) rfl) rfl rfl hl.1 rfl (lv_room (Nat.le_of_ble_eq_true rfl)) dX12_readLead_9 ⟨Nat.zero_le _, Nat.zero_le _⟩) hS (fun σ5 H locs hw hP hS => ?_)
  refine lv_aload_n hx hb dX12_readLead_12 rfl (lv_at hl 0 rfl) ?_
  refine hw_ki (va_runV (As := []) (rest := []) ⟨hx, hb, hml, hown, hts⟩ (kc_X12_peek l D cy N hN ad hJ0 w σ5 _  _ hw) (cwV 0 hts gX12_readLead_X12_peek rfl rfl rfl (by decide +kernel) ⟨Nat.le_of_ble_eq_true rfl, Nat.le_of_ble_eq_true rfl⟩) (hw_preV hK hN1 hP (Nat.lt_of_lt_of_le (by decide) hN) (bY_0 _) rfl) rfl rfl hl.1 rfl (lv_room (Nat.le_of_ble_eq_true rfl)) dX12_readLead_13 ⟨Nat.zero_le _, Nat.zero_le _⟩) hS (fun r7 σ6 H locs hw hP hS => ?_)
  obtain ⟨hu_, hw⟩ := hw
  rw [hu_] at hP
  refine lv_bipush (v := 38) hx hb dX12_readLead_16 (by decide) ?_
  obtain ⟨J26, ehJ26, hw⟩ := hM_x hw
  have hJ26 : ∀ (z8 : Int32) (H : Heap) (locs : List Loc) (ls : Array Slot), J26 z8 → va_P D vwCl (hC N ad (bY cy ad w) σ5) H → va_S (hA N ad s.heap.size) s.heap H locs → lv_has ls 9 [(0, .ref (ad 0)), (1, .int v1_1)] → W p l e (headSpec wsX12_readLead ({ frames := 2, cells := 0, slots := 0, locals := 47 } : Room)).room s m ([Value.ref (ad 0)] : List Value).toArray below meth c H locs 0 0 (MQ below (va_Qi (fun (r : Int32) (u : hSt) => Q r u) (hE D (fun u : hSt => hC N ad (bY cy ad w) u)) (hA N ad s.heap.size)) ([Value.ref (ad 0)] : List Value).toArray s 0 0 (hA N ad s.heap.size)) (F0 m 26 ls [.int z8]) := by
    intro z8 H locs ls hw hP hS hl
    rw [ehJ26] at hw
    refine lv_istore_n (lv' := [(3, .int z8), (0, .ref (ad 0)), (1, .int v1_1)]) hx hb dX12_readLead_26 rfl hl (by decide) rfl (fun ls hl => ?_)
    refine lv_iload_n hx hb dX12_readLead_27 rfl (lv_at hl 0 rfl) ?_
    obtain ⟨J40, ehJ40, hw⟩ := hM_x hw
    have hJ40 : ∀ (H : Heap) (locs : List Loc) (ls : Array Slot), J40 → va_P D vwCl (hC N ad (bY cy ad w) σ5) H → va_S (hA N ad s.heap.size) s.heap H locs → lv_has ls 9 [(0, .ref (ad 0)), (1, .int v1_1), (3, .int z8)] → W p l e (headSpec wsX12_readLead ({ frames := 2, cells := 0, slots := 0, locals := 47 } : Room)).room s m ([Value.ref (ad 0)] : List Value).toArray below meth c H locs 0 0 (MQ below (va_Qi (fun (r : Int32) (u : hSt) => Q r u) (hE D (fun u : hSt => hC N ad (bY cy ad w) u)) (hA N ad s.heap.size)) ([Value.ref (ad 0)] : List Value).toArray s 0 0 (hA N ad s.heap.size)) (F0 m 40 ls []) := by
      intro H locs ls hw hP hS hl
      rw [ehJ40] at hw
      refine lv_aload_n hx hb dX12_readLead_40 rfl (lv_at hl 0 rfl) ?_
      refine lv_dup hx hb dX12_readLead_41 rfl ?_
      refine hw_get (v := .int (σ5 0 10)) hx hb hts hiX12 hown hK hP (Nat.lt_of_lt_of_le (by decide) hN) (bY_0 _) rfl 10 (by decide) (List.mem_of_getElem? (i := 1) rfl) rfl rfl dX12_readLead_42 ?_
      refine lv_iconst (v := 1) hx hb dX12_readLead_45 (by decide) ?_
      refine lv_iadd hx hb dX12_readLead_46 ?_
      refine hw_put (x := ((σ5 0 10) + (1 : Int32))) (j := 10) hx hb hts hiX12 tyX12 tyX12_ok nmX12 hown hK hJ0 hP hS (Nat.lt_of_lt_of_le (by decide) hN) (bY_0 _) rfl (by decide) (List.mem_of_getElem? (i := 1) rfl) rfl rfl rfl rfl (Nat.le_of_ble_eq_true rfl) (by rw [bY_0]; rfl) dX12_readLead_47 (fun H locs hP hS => ?_)
      refine lv_aload_n hx hb dX12_readLead_50 rfl (lv_at hl 0 rfl) ?_
      refine hw_kv (va_runV (As := []) (rest := []) ⟨hx, hb, hml, hown, hts⟩ (kc_X12_blanks l D cy N hN ad hJ0 w (hup σ5 0 10 ((σ5 0 10) + (1 : Int32))) _  _ hw) (cwV 0 hts gX12_readLead_X12_blanks rfl rfl rfl (by decide +kernel) ⟨Nat.le_of_ble_eq_true rfl, Nat.le_of_ble_eq_true rfl⟩) (hw_preV hK hN1 hP (Nat.lt_of_lt_of_le (by decide) hN) (bY_0 _) rfl) rfl rfl hl.1 rfl (lv_room (Nat.le_of_ble_eq_true rfl)) dX12_readLead_51 ⟨Nat.zero_le _, Nat.zero_le _⟩) hS (fun σ9 H locs hw hP hS => ?_)
      refine lv_iconst (v := 0) hx hb dX12_readLead_54 (by decide) ?_
      refine lv_istore (lv' := [(4, .int (0 : Int32)), (0, .ref (ad 0)), (1, .int v1_1), (3, .int z8)]) hx hb dX12_readLead_55 hl (by decide) rfl (fun ls hl => ?_)
      refine lv_iconst (v := 0) hx hb dX12_readLead_57 (by decide) ?_
      refine lv_istore (lv' := [(5, .int (0 : Int32)), (4, .int (0 : Int32)), (0, .ref (ad 0)), (1, .int v1_1), (3, .int z8)]) hx hb dX12_readLead_58 hl (by decide) rfl (fun ls hl => ?_)
      refine lv_iconst (v := 1) hx hb dX12_readLead_60 (by decide) ?_
      refine lv_istore (lv' := [(6, .int (1 : Int32)), (5, .int (0 : Int32)), (4, .int (0 : Int32)), (0, .ref (ad 0)), (1, .int v1_1), (3, .int z8)]) hx hb dX12_readLead_61 hl (by decide) rfl (fun ls hl => ?_)
      refine hw (fun (v4_10 : Int32) (v5_11 : Int32) (v6_12 : Int32) (σ13 : hSt) => ∀ (H : Heap) (locs : List Loc) (ls : Array Slot), va_P D vwCl (hC N ad (bY cy ad w) σ13) H → va_S (hA N ad s.heap.size) s.heap H locs → lv_has ls 9 [(0, .ref (ad 0)), (1, .int v1_1), (3, .int z8), (4, .int v4_10), (5, .int v5_11), (6, .int v6_12)] → W p l e (headSpec wsX12_readLead ({ frames := 2, cells := 0, slots := 0, locals := 47 } : Room)).room s m ([Value.ref (ad 0)] : List Value).toArray below meth c H locs 0 0 (MQ below (va_Qi (fun (r : Int32) (u : hSt) => Q r u) (hE D (fun u : hSt => hC N ad (bY cy ad w) u)) (hA N ad s.heap.size)) ([Value.ref (ad 0)] : List Value).toArray s 0 0 (hA N ad s.heap.size)) (F0 m 63 ls [])) (fun v4_10 v5_11 v6_12 σ13 hw H locs ls hP hS hl => ?_) _ _ _ hP hS (lv_sub hl [3, 4, 5, 2, 1, 0] rfl)
      refine lv_iload hx hb dX12_readLead_63 (lv_at hl 5 rfl) ?_
      refine lv_if_eq (tgt := 195) hx hb dX12_readLead_65 (by decide) (fun c14 => ?_) (fun c14 => ?_)
      · have hw := hw.1 c14
        refine lv_aload_n hx hb dX12_readLead_195 rfl (lv_at hl 0 rfl) ?_
        refine hw_ki (va_runV (As := []) (rest := []) ⟨hx, hb, hml, hown, hts⟩ (kc_X12_peek l D cy N hN ad hJ0 w σ13 _  _ hw) (cwV 0 hts gX12_readLead_X12_peek rfl rfl rfl (by decide +kernel) ⟨Nat.le_of_ble_eq_true rfl, Nat.le_of_ble_eq_true rfl⟩) (hw_preV hK hN1 hP (Nat.lt_of_lt_of_le (by decide) hN) (bY_0 _) rfl) rfl rfl hl.1 rfl (lv_room (Nat.le_of_ble_eq_true rfl)) dX12_readLead_196 ⟨Nat.zero_le _, Nat.zero_le _⟩) hS (fun r16 σ15 H locs hw hP hS => ?_)
        obtain ⟨hu_, hw⟩ := hw
        rw [hu_] at hP
        refine lv_bipush (v := 44) hx hb dX12_readLead_199 (by decide) ?_
        obtain ⟨J223, ehJ223, hw⟩ := hM_x hw
        have hJ223 : ∀ (H : Heap) (locs : List Loc) (ls : Array Slot), J223 → va_P D vwCl (hC N ad (bY cy ad w) σ13) H → va_S (hA N ad s.heap.size) s.heap H locs → lv_has ls 9 [(0, .ref (ad 0)), (1, .int v1_1), (3, .int z8), (4, .int v4_10)] → W p l e (headSpec wsX12_readLead ({ frames := 2, cells := 0, slots := 0, locals := 47 } : Room)).room s m ([Value.ref (ad 0)] : List Value).toArray below meth c H locs 0 0 (MQ below (va_Qi (fun (r : Int32) (u : hSt) => Q r u) (hE D (fun u : hSt => hC N ad (bY cy ad w) u)) (hA N ad s.heap.size)) ([Value.ref (ad 0)] : List Value).toArray s 0 0 (hA N ad s.heap.size)) (F0 m 223 ls []) := by
          intro H locs ls hw hP hS hl
          rw [ehJ223] at hw
          refine lv_iload_n hx hb dX12_readLead_223 rfl (lv_at hl 2 rfl) ?_
          obtain ⟨J238, ehJ238, hw⟩ := hM_x hw
          have hJ238 : ∀ (z17 : Int32) (H : Heap) (locs : List Loc) (ls : Array Slot), J238 z17 → va_P D vwCl (hC N ad (bY cy ad w) σ13) H → va_S (hA N ad s.heap.size) s.heap H locs → lv_has ls 9 [(0, .ref (ad 0)), (1, .int v1_1), (4, .int v4_10)] → W p l e (headSpec wsX12_readLead ({ frames := 2, cells := 0, slots := 0, locals := 47 } : Room)).room s m ([Value.ref (ad 0)] : List Value).toArray below meth c H locs 0 0 (MQ below (va_Qi (fun (r : Int32) (u : hSt) => Q r u) (hE D (fun u : hSt => hC N ad (bY cy ad w) u)) (hA N ad s.heap.size)) ([Value.ref (ad 0)] : List Value).toArray s 0 0 (hA N ad s.heap.size)) (F0 m 238 ls [.int z17]) := by
            intro z17 H locs ls hw hP hS hl
            rw [ehJ238] at hw
            refine lv_istore (lv' := [(7, .int z17), (0, .ref (ad 0)), (1, .int v1_1), (4, .int v4_10)]) hx hb dX12_readLead_238 hl (by decide) rfl (fun ls hl => ?_)
            refine lv_iload_n hx hb dX12_readLead_240 rfl (lv_at hl 2 rfl) ?_
            refine lv_iload hx hb dX12_readLead_241 (lv_at hl 0 rfl) ?_
            refine lv_iadd hx hb dX12_readLead_243 ?_
            refine lv_bipush (v := 64) hx hb dX12_readLead_244 (by decide) ?_
            refine lv_icmp_le (tgt := 259) hx hb dX12_readLead_246 (by decide) (fun c18 => ?_) (fun c18 => ?_)
            · have hw := hw.1 c18
              refine lv_iconst (v := 0) hx hb dX12_readLead_259 (by decide) ?_
              refine lv_istore (lv' := [(8, .int (0 : Int32)), (7, .int z17), (0, .ref (ad 0)), (1, .int v1_1), (4, .int v4_10)]) hx hb dX12_readLead_260 hl (by decide) rfl (fun ls hl => ?_)
              refine hw (fun (v8_19 : Int32) (σ20 : hSt) => ∀ (H : Heap) (locs : List Loc) (ls : Array Slot), va_P D vwCl (hC N ad (bY cy ad w) σ20) H → va_S (hA N ad s.heap.size) s.heap H locs → lv_has ls 9 [(0, .ref (ad 0)), (1, .int v1_1), (4, .int v4_10), (7, .int z17), (8, .int v8_19)] → W p l e (headSpec wsX12_readLead ({ frames := 2, cells := 0, slots := 0, locals := 47 } : Room)).room s m ([Value.ref (ad 0)] : List Value).toArray below meth c H locs 0 0 (MQ below (va_Qi (fun (r : Int32) (u : hSt) => Q r u) (hE D (fun u : hSt => hC N ad (bY cy ad w) u)) (hA N ad s.heap.size)) ([Value.ref (ad 0)] : List Value).toArray s 0 0 (hA N ad s.heap.size)) (F0 m 262 ls [])) (fun v8_19 σ20 hw H locs ls hP hS hl => ?_) _ _ _ hP hS (lv_sub hl [2, 3, 4, 1, 0] rfl)
              refine lv_iload hx hb dX12_readLead_262 (lv_at hl 4 rfl) ?_
              refine lv_iload hx hb dX12_readLead_264 (lv_at hl 3 rfl) ?_
              refine lv_icmp_ge (tgt := 310) hx hb dX12_readLead_266 (by decide) (fun c21 => ?_) (fun c21 => ?_)
              · have hw := hw.1 c21
                refine lv_iload_n hx hb dX12_readLead_310 rfl (lv_at hl 1 rfl) ?_
                refine lv_iload hx hb dX12_readLead_311 (lv_at hl 3 rfl) ?_
                refine lv_iadd hx hb dX12_readLead_313 ?_
                refine lv_topi (fun x1_22 ex1_22 => ?_)
                have hw := hw x1_22 ex1_22
                refine lv_istore_n (lv' := [(1, .int x1_22), (0, .ref (ad 0)), (4, .int v4_10), (7, .int z17), (8, .int v8_19)]) hx hb dX12_readLead_314 rfl hl (by decide) rfl (fun ls hl => ?_)
                refine lv_aload_n hx hb dX12_readLead_315 rfl (lv_at hl 1 rfl) ?_
                refine hw_ki (va_runV (As := []) (rest := []) ⟨hx, hb, hml, hown, hts⟩ (kc_X12_peek l D cy N hN ad hJ0 w σ20 _  _ hw) (cwV 0 hts gX12_readLead_X12_peek rfl rfl rfl (by decide +kernel) ⟨Nat.le_of_ble_eq_true rfl, Nat.le_of_ble_eq_true rfl⟩) (hw_preV hK hN1 hP (Nat.lt_of_lt_of_le (by decide) hN) (bY_0 _) rfl) rfl rfl hl.1 rfl (lv_room (Nat.le_of_ble_eq_true rfl)) dX12_readLead_316 ⟨Nat.zero_le _, Nat.zero_le _⟩) hS (fun r24 σ23 H locs hw hP hS => ?_)
                obtain ⟨hu_, hw⟩ := hw
                rw [hu_] at hP
                refine lv_bipush (v := 44) hx hb dX12_readLead_319 (by decide) ?_
                obtain ⟨J329, ehJ329, hw⟩ := hM_x hw
                have hJ329 : ∀ (z25 : Int32) (H : Heap) (locs : List Loc) (ls : Array Slot), J329 z25 → va_P D vwCl (hC N ad (bY cy ad w) σ20) H → va_S (hA N ad s.heap.size) s.heap H locs → lv_has ls 9 [(0, .ref (ad 0)), (1, .int x1_22)] → W p l e (headSpec wsX12_readLead ({ frames := 2, cells := 0, slots := 0, locals := 47 } : Room)).room s m ([Value.ref (ad 0)] : List Value).toArray below meth c H locs 0 0 (MQ below (va_Qi (fun (r : Int32) (u : hSt) => Q r u) (hE D (fun u : hSt => hC N ad (bY cy ad w) u)) (hA N ad s.heap.size)) ([Value.ref (ad 0)] : List Value).toArray s 0 0 (hA N ad s.heap.size)) (F0 m 329 ls [.int z25]) := by
                  intro z25 H locs ls hw hP hS hl
                  rw [ehJ329] at hw
                  refine lv_istore_n (lv' := [(2, .int z25), (0, .ref (ad 0)), (1, .int x1_22)]) hx hb dX12_readLead_329 rfl hl (by decide) rfl (fun ls hl => ?_)
                  refine lv_aload_n hx hb dX12_readLead_330 rfl (lv_at hl 1 rfl) ?_
                  refine lv_dup hx hb dX12_readLead_331 rfl ?_
                  refine hw_get (v := .int (σ20 0 10)) hx hb hts hiX12 hown hK hP (Nat.lt_of_lt_of_le (by decide) hN) (bY_0 _) rfl 10 (by decide) (List.mem_of_getElem? (i := 1) rfl) rfl rfl dX12_readLead_332 ?_
                  refine lv_iconst (v := 1) hx hb dX12_readLead_335 (by decide) ?_
                  refine lv_iadd hx hb dX12_readLead_336 ?_
                  refine hw_put (x := ((σ20 0 10) + (1 : Int32))) (j := 10) hx hb hts hiX12 tyX12 tyX12_ok nmX12 hown hK hJ0 hP hS (Nat.lt_of_lt_of_le (by decide) hN) (bY_0 _) rfl (by decide) (List.mem_of_getElem? (i := 1) rfl) rfl rfl rfl rfl (Nat.le_of_ble_eq_true rfl) (by rw [bY_0]; rfl) dX12_readLead_337 (fun H locs hP hS => ?_)
                  refine lv_goto (tgt := 4) hx hb dX12_readLead_340 (by decide) ?_
                  exact hw _ _ _ hP hS (lv_sub hl [1, 2, 0] rfl)
                refine lv_icmp_ne (tgt := 328) hx hb dX12_readLead_321 (by decide) (fun c26 => ?_) (fun c26 => ?_)
                · have hw := hw.1 c26
                  refine lv_iconst (v := 0) hx hb dX12_readLead_328 (by decide) ?_
                  exact hJ329 _ _ _ _ hw hP hS (lv_sub hl [1, 0] rfl)
                have hw := hw.2 c26
                refine lv_iconst (v := 1) hx hb dX12_readLead_324 (by decide) ?_
                refine lv_goto (tgt := 329) hx hb dX12_readLead_325 (by decide) ?_
                exact hJ329 _ _ _ _ hw hP hS (lv_sub hl [1, 0] rfl)
              have hw := hw.2 c21
              refine lv_aload_n hx hb dX12_readLead_269 rfl (lv_at hl 0 rfl) ?_
              refine hw_get (v := .ref (ad 6)) hx hb hts hiX12 hown hK hP (Nat.lt_of_lt_of_le (by decide) hN) (bY_0 _) rfl 14 (by decide) (List.mem_of_getElem? (i := 4) rfl) rfl rfl dX12_readLead_270 ?_
              refine lv_iload_n hx hb dX12_readLead_273 rfl (lv_at hl 1 rfl) ?_
              refine lv_iload hx hb dX12_readLead_274 (lv_at hl 4 rfl) ?_
              refine lv_iadd hx hb dX12_readLead_276 ?_
              refine lv_aload_n hx hb dX12_readLead_277 rfl (lv_at hl 0 rfl) ?_
              refine hw_get (v := .ref (ad 7)) hx hb hts hiX12 hown hK hP (Nat.lt_of_lt_of_le (by decide) hN) (bY_0 _) rfl 15 (by decide) (List.mem_of_getElem? (i := 2) rfl) rfl rfl dX12_readLead_278 ?_
              refine lv_iload hx hb dX12_readLead_281 (lv_at hl 4 rfl) ?_
              refine lv_iload hx hb dX12_readLead_283 (lv_at hl 2 rfl) ?_
              refine lv_icmp_ge (tgt := 293) hx hb dX12_readLead_285 (by decide) (fun c27 => ?_) (fun c27 => ?_)
              · have hw := hw.1 c27
                refine lv_iconst (v := 2) hx hb dX12_readLead_293 (by decide) ?_
                refine lv_iload hx hb dX12_readLead_294 (lv_at hl 2 rfl) ?_
                refine lv_imul hx hb dX12_readLead_296 ?_
                refine lv_iconst (v := 2) hx hb dX12_readLead_297 (by decide) ?_
                refine lv_isub hx hb dX12_readLead_298 ?_
                refine lv_iload hx hb dX12_readLead_299 (lv_at hl 4 rfl) ?_
                refine lv_isub hx hb dX12_readLead_301 ?_
                obtain ⟨hi28, hw⟩ := hw
                refine hw_iald hx hb hK hP (Nat.lt_of_lt_of_le (by decide) hN) (bY_7 _) hi28 dX12_readLead_302 ?_
                obtain ⟨hi29, hw⟩ := hw
                refine hw_iast hx hb hK hJ0 hP hS (Nat.lt_of_lt_of_le (by decide) hN) (fun ρ => bY_6 ρ) hi29 dX12_readLead_303 (fun H locs hP hS => ?_)
                obtain ⟨x8_30, ex8_30⟩ : ∃ z : Int32, z = v8_19 + (1 : Int32) := ⟨_, rfl⟩
                have hw := hw x8_30 ex8_30
                refine lv_iinc (v := x8_30) (lv' := [(8, .int x8_30), (0, .ref (ad 0)), (1, .int v1_1), (4, .int v4_10), (7, .int z17)]) hx hb dX12_readLead_304 hl (k := 4) rfl (by rw [ex8_30]; rfl) (by decide) rfl (fun ls hl => ?_)
                refine lv_goto (tgt := 262) hx hb dX12_readLead_307 (by decide) ?_
                exact hw _ _ _ hP hS (lv_sub hl [1, 2, 3, 4, 0] rfl)
              have hw := hw.2 c27
              refine lv_iload hx hb dX12_readLead_288 (lv_at hl 4 rfl) ?_
              refine lv_goto (tgt := 302) hx hb dX12_readLead_290 (by decide) ?_
              obtain ⟨hi31, hw⟩ := hw
              refine hw_iald hx hb hK hP (Nat.lt_of_lt_of_le (by decide) hN) (bY_7 _) hi31 dX12_readLead_302 ?_
              obtain ⟨hi32, hw⟩ := hw
              refine hw_iast hx hb hK hJ0 hP hS (Nat.lt_of_lt_of_le (by decide) hN) (fun ρ => bY_6 ρ) hi32 dX12_readLead_303 (fun H locs hP hS => ?_)
              obtain ⟨x8_33, ex8_33⟩ : ∃ z : Int32, z = v8_19 + (1 : Int32) := ⟨_, rfl⟩
              have hw := hw x8_33 ex8_33
              refine lv_iinc (v := x8_33) (lv' := [(8, .int x8_33), (0, .ref (ad 0)), (1, .int v1_1), (4, .int v4_10), (7, .int z17)]) hx hb dX12_readLead_304 hl (k := 4) rfl (by rw [ex8_33]; rfl) (by decide) rfl (fun ls hl => ?_)
              refine lv_goto (tgt := 262) hx hb dX12_readLead_307 (by decide) ?_
              exact hw _ _ _ hP hS (lv_sub hl [1, 2, 3, 4, 0] rfl)
            have hw := hw.2 c18
            refine lv_aload_n hx hb dX12_readLead_249 rfl (lv_at hl 1 rfl) ?_
            refine lv_iconst (v := 3) hx hb dX12_readLead_250 (by decide) ?_
            refine lv_aload_n hx hb dX12_readLead_251 rfl (lv_at hl 1 rfl) ?_
            refine hw_get (v := .int (σ13 0 10)) hx hb hts hiX12 hown hK hP (Nat.lt_of_lt_of_le (by decide) hN) (bY_0 _) rfl 10 (by decide) (List.mem_of_getElem? (i := 1) rfl) rfl rfl dX12_readLead_252 ?_
            refine hw_ki (va_runV (As := [.int (3 : Int32), .int (σ13 0 10)]) (rest := []) ⟨hx, hb, hml, hown, hts⟩ (kc_X12_wrong l D cy N hN ad hJ0 w σ13 _ (3 : Int32) (σ13 0 10) _ hw) (cwV 2 hts gX12_readLead_X12_wrong rfl rfl rfl (by decide +kernel) ⟨Nat.le_of_ble_eq_true rfl, Nat.le_of_ble_eq_true rfl⟩) (hw_preV hK hN1 hP (Nat.lt_of_lt_of_le (by decide) hN) (bY_0 _) rfl) rfl rfl hl.1 rfl (lv_room (Nat.le_of_ble_eq_true rfl)) dX12_readLead_255 ⟨Nat.zero_le _, Nat.zero_le _⟩) hS (fun r35 σ34 H locs hw hP hS => ?_)
            obtain ⟨hb36, hw⟩ := hw
            exact hw_zret hx hb hr hlocks hb36 (σ34) hw hP hS dX12_readLead_258
          refine lv_if_eq (tgt := 236) hx hb dX12_readLead_224 (by decide) (fun c37 => ?_) (fun c37 => ?_)
          · have hw := hw.1 c37
            refine lv_iload hx hb dX12_readLead_236 (lv_at hl 3 rfl) ?_
            exact hJ238 _ _ _ _ hw hP hS (lv_sub hl [0, 1, 3] rfl)
          have hw := hw.2 c37
          refine lv_iconst (v := 2) hx hb dX12_readLead_227 (by decide) ?_
          refine lv_iload hx hb dX12_readLead_228 (lv_at hl 3 rfl) ?_
          refine lv_imul hx hb dX12_readLead_230 ?_
          refine lv_iconst (v := 1) hx hb dX12_readLead_231 (by decide) ?_
          refine lv_isub hx hb dX12_readLead_232 ?_
          refine lv_goto (tgt := 238) hx hb dX12_readLead_233 (by decide) ?_
          exact hJ238 _ _ _ _ hw hP hS (lv_sub hl [0, 1, 3] rfl)
        refine lv_icmp_eq (tgt := 223) hx hb dX12_readLead_201 (by decide) (fun c38 => ?_) (fun c38 => ?_)
        · have hw := hw.1 c38
          exact hJ223  _ _ _ hw hP hS (lv_sub hl [0, 1, 2, 3] rfl)
        have hw := hw.2 c38
        refine lv_aload_n hx hb dX12_readLead_204 rfl (lv_at hl 0 rfl) ?_
        refine hw_ki (va_runV (As := []) (rest := []) ⟨hx, hb, hml, hown, hts⟩ (kc_X12_peek l D cy N hN ad hJ0 w σ13 _  _ hw) (cwV 0 hts gX12_readLead_X12_peek rfl rfl rfl (by decide +kernel) ⟨Nat.le_of_ble_eq_true rfl, Nat.le_of_ble_eq_true rfl⟩) (hw_preV hK hN1 hP (Nat.lt_of_lt_of_le (by decide) hN) (bY_0 _) rfl) rfl rfl hl.1 rfl (lv_room (Nat.le_of_ble_eq_true rfl)) dX12_readLead_205 ⟨Nat.zero_le _, Nat.zero_le _⟩) hS (fun r40 σ39 H locs hw hP hS => ?_)
        obtain ⟨hu_, hw⟩ := hw
        rw [hu_] at hP
        refine lv_bipush (v := 59) hx hb dX12_readLead_208 (by decide) ?_
        refine lv_icmp_eq (tgt := 223) hx hb dX12_readLead_210 (by decide) (fun c41 => ?_) (fun c41 => ?_)
        · have hw := hw.1 c41
          exact hJ223  _ _ _ hw hP hS (lv_sub hl [0, 1, 2, 3] rfl)
        have hw := hw.2 c41
        refine lv_aload_n hx hb dX12_readLead_213 rfl (lv_at hl 0 rfl) ?_
        refine lv_iconst (v := 1) hx hb dX12_readLead_214 (by decide) ?_
        refine lv_aload_n hx hb dX12_readLead_215 rfl (lv_at hl 0 rfl) ?_
        refine hw_get (v := .int (σ13 0 10)) hx hb hts hiX12 hown hK hP (Nat.lt_of_lt_of_le (by decide) hN) (bY_0 _) rfl 10 (by decide) (List.mem_of_getElem? (i := 1) rfl) rfl rfl dX12_readLead_216 ?_
        refine hw_ki (va_runV (As := [.int (1 : Int32), .int (σ13 0 10)]) (rest := []) ⟨hx, hb, hml, hown, hts⟩ (kc_X12_wrong l D cy N hN ad hJ0 w σ13 _ (1 : Int32) (σ13 0 10) _ hw) (cwV 2 hts gX12_readLead_X12_wrong rfl rfl rfl (by decide +kernel) ⟨Nat.le_of_ble_eq_true rfl, Nat.le_of_ble_eq_true rfl⟩) (hw_preV hK hN1 hP (Nat.lt_of_lt_of_le (by decide) hN) (bY_0 _) rfl) rfl rfl hl.1 rfl (lv_room (Nat.le_of_ble_eq_true rfl)) dX12_readLead_219 ⟨Nat.zero_le _, Nat.zero_le _⟩) hS (fun r43 σ42 H locs hw hP hS => ?_)
        obtain ⟨hb44, hw⟩ := hw
        exact hw_zret hx hb hr hlocks hb44 (σ42) hw hP hS dX12_readLead_222
      have hw := hw.2 c14
      refine lv_aload_n hx hb dX12_readLead_68 rfl (lv_at hl 0 rfl) ?_
      refine hw_ki (va_runV (As := []) (rest := []) ⟨hx, hb, hml, hown, hts⟩ (kc_X12_peek l D cy N hN ad hJ0 w σ13 _  _ hw) (cwV 0 hts gX12_readLead_X12_peek rfl rfl rfl (by decide +kernel) ⟨Nat.le_of_ble_eq_true rfl, Nat.le_of_ble_eq_true rfl⟩) (hw_preV hK hN1 hP (Nat.lt_of_lt_of_le (by decide) hN) (bY_0 _) rfl) rfl rfl hl.1 rfl (lv_room (Nat.le_of_ble_eq_true rfl)) dX12_readLead_69 ⟨Nat.zero_le _, Nat.zero_le _⟩) hS (fun r46 σ45 H locs hw hP hS => ?_)
      obtain ⟨hu_, hw⟩ := hw
      rw [hu_] at hP
      refine hw_ki (va_runS (As := [.int r46]) (rest := []) ⟨hx, hb, hml, hown, hts⟩ (kc_X12_isBell l D cy N ad (bY cy ad w) σ13 _ r46 _ hw) (va_cwS 1 hts gX12_readLead_X12_isBell rfl rfl rfl (by decide +kernel) ⟨Nat.le_of_ble_eq_true rfl, Nat.le_of_ble_eq_true rfl⟩) (hw_pre hK hN1 hP) rfl rfl hl.1 rfl (lv_room (Nat.le_of_ble_eq_true rfl)) dX12_readLead_72 ⟨Nat.zero_le _, Nat.zero_le _⟩) hS (fun r48 σ47 H locs hw hP hS => ?_)
      obtain ⟨hu_, hw⟩ := hw
      rw [hu_] at hP
      refine lv_istore (lv' := [(7, .int r48), (0, .ref (ad 0)), (1, .int v1_1), (3, .int z8), (4, .int v4_10), (5, .int v5_11), (6, .int v6_12)]) hx hb dX12_readLead_75 hl (by decide) rfl (fun ls hl => ?_)
      refine lv_iload hx hb dX12_readLead_77 (lv_at hl 0 rfl) ?_
      obtain ⟨J97, ehJ97, hw⟩ := hM_x hw
      have hJ97 : ∀ (H : Heap) (locs : List Loc) (ls : Array Slot), J97 → va_P D vwCl (hC N ad (bY cy ad w) σ13) H → va_S (hA N ad s.heap.size) s.heap H locs → lv_has ls 9 [(0, .ref (ad 0)), (1, .int v1_1), (3, .int z8), (4, .int v4_10), (6, .int v6_12), (7, .int r48)] → W p l e (headSpec wsX12_readLead ({ frames := 2, cells := 0, slots := 0, locals := 47 } : Room)).room s m ([Value.ref (ad 0)] : List Value).toArray below meth c H locs 0 0 (MQ below (va_Qi (fun (r : Int32) (u : hSt) => Q r u) (hE D (fun u : hSt => hC N ad (bY cy ad w) u)) (hA N ad s.heap.size)) ([Value.ref (ad 0)] : List Value).toArray s 0 0 (hA N ad s.heap.size)) (F0 m 97 ls []) := by
        intro H locs ls hw hP hS hl
        rw [ehJ97] at hw
        refine lv_aload_n hx hb dX12_readLead_97 rfl (lv_at hl 0 rfl) ?_
        refine hw_ki (va_runV (As := []) (rest := []) ⟨hx, hb, hml, hown, hts⟩ (kc_X12_readChange l D cy N hN ad hJ0 w σ13 _  _ hw) (cwV 0 hts gX12_readLead_X12_readChange rfl rfl rfl (by decide +kernel) ⟨Nat.le_of_ble_eq_true rfl, Nat.le_of_ble_eq_true rfl⟩) (hw_preV hK hN1 hP (Nat.lt_of_lt_of_le (by decide) hN) (bY_0 _) rfl) rfl rfl hl.1 rfl (lv_room (Nat.le_of_ble_eq_true rfl)) dX12_readLead_98 ⟨Nat.zero_le _, Nat.zero_le _⟩) hS (fun r50 σ49 H locs hw hP hS => ?_)
        refine lv_if_ne (tgt := 106) hx hb dX12_readLead_101 (by decide) (fun c51 => ?_) (fun c51 => ?_)
        · have hw := hw.1 c51
          refine lv_iload hx hb dX12_readLead_106 (lv_at hl 5 rfl) ?_
          refine lv_istore (lv' := [(5, .int r48), (0, .ref (ad 0)), (1, .int v1_1), (3, .int z8), (4, .int v4_10), (6, .int v6_12), (7, .int r48)]) hx hb dX12_readLead_108 hl (by decide) rfl (fun ls hl => ?_)
          refine lv_aload_n hx hb dX12_readLead_110 rfl (lv_at hl 1 rfl) ?_
          refine hw_get (v := .ref (ad 7)) hx hb hts hiX12 hown hK hP (Nat.lt_of_lt_of_le (by decide) hN) (bY_0 _) rfl 15 (by decide) (List.mem_of_getElem? (i := 2) rfl) rfl rfl dX12_readLead_111 ?_
          refine lv_iload hx hb dX12_readLead_114 (lv_at hl 4 rfl) ?_
          refine lv_aload_n hx hb dX12_readLead_116 rfl (lv_at hl 1 rfl) ?_
          refine hw_get (v := .int (σ49 0 13)) hx hb hts hiX12 hown hK hP (Nat.lt_of_lt_of_le (by decide) hN) (bY_0 _) rfl 13 (by decide) (List.mem_of_getElem? (i := 3) rfl) rfl rfl dX12_readLead_117 ?_
          obtain ⟨hi52, hw⟩ := hw
          refine hw_iast hx hb hK hJ0 hP hS (Nat.lt_of_lt_of_le (by decide) hN) (fun ρ => bY_7 ρ) hi52 dX12_readLead_120 (fun H locs hP hS => ?_)
          obtain ⟨x4_53, ex4_53⟩ : ∃ z : Int32, z = v4_10 + (1 : Int32) := ⟨_, rfl⟩
          have hw := hw x4_53 ex4_53
          refine lv_iinc (v := x4_53) (lv' := [(4, .int x4_53), (5, .int r48), (0, .ref (ad 0)), (1, .int v1_1), (3, .int z8), (6, .int v6_12), (7, .int r48)]) hx hb dX12_readLead_121 hl (k := 4) rfl (by rw [ex4_53]; rfl) (by decide) rfl (fun ls hl => ?_)
          refine lv_aload_n hx hb dX12_readLead_124 rfl (lv_at hl 2 rfl) ?_
          refine hw_kv (va_runV (As := []) (rest := []) ⟨hx, hb, hml, hown, hts⟩ (kc_X12_blanks l D cy N hN ad hJ0 w (hup σ49 7 (v4_10).toNatClampNeg (σ49 0 13)) _  _ hw) (cwV 0 hts gX12_readLead_X12_blanks rfl rfl rfl (by decide +kernel) ⟨Nat.le_of_ble_eq_true rfl, Nat.le_of_ble_eq_true rfl⟩) (hw_preV hK hN1 hP (Nat.lt_of_lt_of_le (by decide) hN) (bY_0 _) rfl) rfl rfl hl.1 rfl (lv_room (Nat.le_of_ble_eq_true rfl)) dX12_readLead_125 ⟨Nat.zero_le _, Nat.zero_le _⟩) hS (fun σ54 H locs hw hP hS => ?_)
          refine lv_aload_n hx hb dX12_readLead_128 rfl (lv_at hl 2 rfl) ?_
          refine hw_ki (va_runV (As := []) (rest := []) ⟨hx, hb, hml, hown, hts⟩ (kc_X12_peek l D cy N hN ad hJ0 w σ54 _  _ hw) (cwV 0 hts gX12_readLead_X12_peek rfl rfl rfl (by decide +kernel) ⟨Nat.le_of_ble_eq_true rfl, Nat.le_of_ble_eq_true rfl⟩) (hw_preV hK hN1 hP (Nat.lt_of_lt_of_le (by decide) hN) (bY_0 _) rfl) rfl rfl hl.1 rfl (lv_room (Nat.le_of_ble_eq_true rfl)) dX12_readLead_129 ⟨Nat.zero_le _, Nat.zero_le _⟩) hS (fun r56 σ55 H locs hw hP hS => ?_)
          obtain ⟨hu_, hw⟩ := hw
          rw [hu_] at hP
          refine lv_bipush (v := 46) hx hb dX12_readLead_132 (by decide) ?_
          refine lv_icmp_ne (tgt := 157) hx hb dX12_readLead_134 (by decide) (fun c57 => ?_) (fun c57 => ?_)
          · have hw := hw.1 c57
            refine lv_aload_n hx hb dX12_readLead_157 rfl (lv_at hl 2 rfl) ?_
            refine hw_ki (va_runV (As := []) (rest := []) ⟨hx, hb, hml, hown, hts⟩ (kc_X12_peek l D cy N hN ad hJ0 w σ54 _  _ hw) (cwV 0 hts gX12_readLead_X12_peek rfl rfl rfl (by decide +kernel) ⟨Nat.le_of_ble_eq_true rfl, Nat.le_of_ble_eq_true rfl⟩) (hw_preV hK hN1 hP (Nat.lt_of_lt_of_le (by decide) hN) (bY_0 _) rfl) rfl rfl hl.1 rfl (lv_room (Nat.le_of_ble_eq_true rfl)) dX12_readLead_158 ⟨Nat.zero_le _, Nat.zero_le _⟩) hS (fun r59 σ58 H locs hw hP hS => ?_)
            obtain ⟨hu_, hw⟩ := hw
            rw [hu_] at hP
            refine lv_bipush (v := 120) hx hb dX12_readLead_161 (by decide) ?_
            refine lv_icmp_eq (tgt := 185) hx hb dX12_readLead_163 (by decide) (fun c60 => ?_) (fun c60 => ?_)
            · have hw := hw.1 c60
              refine lv_iconst (v := 1) hx hb dX12_readLead_185 (by decide) ?_
              refine lv_goto (tgt := 190) hx hb dX12_readLead_186 (by decide) ?_
              refine lv_istore (lv' := [(6, .int (1 : Int32)), (4, .int x4_53), (5, .int r48), (0, .ref (ad 0)), (1, .int v1_1), (3, .int z8), (7, .int r48)]) hx hb dX12_readLead_190 hl (by decide) rfl (fun ls hl => ?_)
              refine lv_goto (tgt := 63) hx hb dX12_readLead_192 (by decide) ?_
              exact hw _ _ _ hP hS (lv_sub hl [3, 4, 5, 1, 2, 0] rfl)
            have hw := hw.2 c60
            refine lv_aload_n hx hb dX12_readLead_166 rfl (lv_at hl 2 rfl) ?_
            refine hw_ki (va_runV (As := []) (rest := []) ⟨hx, hb, hml, hown, hts⟩ (kc_X12_peek l D cy N hN ad hJ0 w σ54 _  _ hw) (cwV 0 hts gX12_readLead_X12_peek rfl rfl rfl (by decide +kernel) ⟨Nat.le_of_ble_eq_true rfl, Nat.le_of_ble_eq_true rfl⟩) (hw_preV hK hN1 hP (Nat.lt_of_lt_of_le (by decide) hN) (bY_0 _) rfl) rfl rfl hl.1 rfl (lv_room (Nat.le_of_ble_eq_true rfl)) dX12_readLead_167 ⟨Nat.zero_le _, Nat.zero_le _⟩) hS (fun r62 σ61 H locs hw hP hS => ?_)
            obtain ⟨hu_, hw⟩ := hw
            rw [hu_] at hP
            refine lv_bipush (v := 45) hx hb dX12_readLead_170 (by decide) ?_
            refine lv_icmp_eq (tgt := 185) hx hb dX12_readLead_172 (by decide) (fun c63 => ?_) (fun c63 => ?_)
            · have hw := hw.1 c63
              refine lv_iconst (v := 1) hx hb dX12_readLead_185 (by decide) ?_
              refine lv_goto (tgt := 190) hx hb dX12_readLead_186 (by decide) ?_
              refine lv_istore (lv' := [(6, .int (1 : Int32)), (4, .int x4_53), (5, .int r48), (0, .ref (ad 0)), (1, .int v1_1), (3, .int z8), (7, .int r48)]) hx hb dX12_readLead_190 hl (by decide) rfl (fun ls hl => ?_)
              refine lv_goto (tgt := 63) hx hb dX12_readLead_192 (by decide) ?_
              exact hw _ _ _ hP hS (lv_sub hl [3, 4, 5, 1, 2, 0] rfl)
            have hw := hw.2 c63
            refine lv_aload_n hx hb dX12_readLead_175 rfl (lv_at hl 2 rfl) ?_
            refine hw_ki (va_runV (As := []) (rest := []) ⟨hx, hb, hml, hown, hts⟩ (kc_X12_peek l D cy N hN ad hJ0 w σ54 _  _ hw) (cwV 0 hts gX12_readLead_X12_peek rfl rfl rfl (by decide +kernel) ⟨Nat.le_of_ble_eq_true rfl, Nat.le_of_ble_eq_true rfl⟩) (hw_preV hK hN1 hP (Nat.lt_of_lt_of_le (by decide) hN) (bY_0 _) rfl) rfl rfl hl.1 rfl (lv_room (Nat.le_of_ble_eq_true rfl)) dX12_readLead_176 ⟨Nat.zero_le _, Nat.zero_le _⟩) hS (fun r65 σ64 H locs hw hP hS => ?_)
            obtain ⟨hu_, hw⟩ := hw
            rw [hu_] at hP
            refine hw_ki (va_runS (As := [.int r65]) (rest := []) ⟨hx, hb, hml, hown, hts⟩ (kc_X12_isBell l D cy N ad (bY cy ad w) σ54 _ r65 _ hw) (va_cwS 1 hts gX12_readLead_X12_isBell rfl rfl rfl (by decide +kernel) ⟨Nat.le_of_ble_eq_true rfl, Nat.le_of_ble_eq_true rfl⟩) (hw_pre hK hN1 hP) rfl rfl hl.1 rfl (lv_room (Nat.le_of_ble_eq_true rfl)) dX12_readLead_179 ⟨Nat.zero_le _, Nat.zero_le _⟩) hS (fun r67 σ66 H locs hw hP hS => ?_)
            obtain ⟨hu_, hw⟩ := hw
            rw [hu_] at hP
            refine lv_if_eq (tgt := 189) hx hb dX12_readLead_182 (by decide) (fun c68 => ?_) (fun c68 => ?_)
            · have hw := hw.1 c68
              refine lv_iconst (v := 0) hx hb dX12_readLead_189 (by decide) ?_
              refine lv_istore (lv' := [(6, .int (0 : Int32)), (4, .int x4_53), (5, .int r48), (0, .ref (ad 0)), (1, .int v1_1), (3, .int z8), (7, .int r48)]) hx hb dX12_readLead_190 hl (by decide) rfl (fun ls hl => ?_)
              refine lv_goto (tgt := 63) hx hb dX12_readLead_192 (by decide) ?_
              exact hw _ _ _ hP hS (lv_sub hl [3, 4, 5, 1, 2, 0] rfl)
            have hw := hw.2 c68
            refine lv_iconst (v := 1) hx hb dX12_readLead_185 (by decide) ?_
            refine lv_goto (tgt := 190) hx hb dX12_readLead_186 (by decide) ?_
            refine lv_istore (lv' := [(6, .int (1 : Int32)), (4, .int x4_53), (5, .int r48), (0, .ref (ad 0)), (1, .int v1_1), (3, .int z8), (7, .int r48)]) hx hb dX12_readLead_190 hl (by decide) rfl (fun ls hl => ?_)
            refine lv_goto (tgt := 63) hx hb dX12_readLead_192 (by decide) ?_
            exact hw _ _ _ hP hS (lv_sub hl [3, 4, 5, 1, 2, 0] rfl)
          have hw := hw.2 c57
          refine lv_aload_n hx hb dX12_readLead_137 rfl (lv_at hl 2 rfl) ?_
          refine lv_dup hx hb dX12_readLead_138 rfl ?_
          refine hw_get (v := .int (σ54 0 10)) hx hb hts hiX12 hown hK hP (Nat.lt_of_lt_of_le (by decide) hN) (bY_0 _) rfl 10 (by decide) (List.mem_of_getElem? (i := 1) rfl) rfl rfl dX12_readLead_139 ?_
          refine lv_iconst (v := 1) hx hb dX12_readLead_142 (by decide) ?_
          refine lv_iadd hx hb dX12_readLead_143 ?_
          refine hw_put (x := ((σ54 0 10) + (1 : Int32))) (j := 10) hx hb hts hiX12 tyX12 tyX12_ok nmX12 hown hK hJ0 hP hS (Nat.lt_of_lt_of_le (by decide) hN) (bY_0 _) rfl (by decide) (List.mem_of_getElem? (i := 1) rfl) rfl rfl rfl rfl (Nat.le_of_ble_eq_true rfl) (by rw [bY_0]; rfl) dX12_readLead_144 (fun H locs hP hS => ?_)
          refine lv_aload_n hx hb dX12_readLead_147 rfl (lv_at hl 2 rfl) ?_
          refine hw_kv (va_runV (As := []) (rest := []) ⟨hx, hb, hml, hown, hts⟩ (kc_X12_blanks l D cy N hN ad hJ0 w (hup σ54 0 10 ((σ54 0 10) + (1 : Int32))) _  _ hw) (cwV 0 hts gX12_readLead_X12_blanks rfl rfl rfl (by decide +kernel) ⟨Nat.le_of_ble_eq_true rfl, Nat.le_of_ble_eq_true rfl⟩) (hw_preV hK hN1 hP (Nat.lt_of_lt_of_le (by decide) hN) (bY_0 _) rfl) rfl rfl hl.1 rfl (lv_room (Nat.le_of_ble_eq_true rfl)) dX12_readLead_148 ⟨Nat.zero_le _, Nat.zero_le _⟩) hS (fun σ69 H locs hw hP hS => ?_)
          refine lv_iconst (v := 0) hx hb dX12_readLead_151 (by decide) ?_
          refine lv_istore (lv' := [(5, .int (0 : Int32)), (4, .int x4_53), (0, .ref (ad 0)), (1, .int v1_1), (3, .int z8), (6, .int v6_12), (7, .int r48)]) hx hb dX12_readLead_152 hl (by decide) rfl (fun ls hl => ?_)
          refine lv_goto (tgt := 63) hx hb dX12_readLead_154 (by decide) ?_
          exact hw _ _ _ hP hS (lv_sub hl [2, 3, 4, 1, 0, 5] rfl)
        have hw := hw.2 c51
        refine lv_iconst (v := 0) hx hb dX12_readLead_104 (by decide) ?_
        exact hw_zret hx hb hr hlocks hbo_0 (σ49) hw hP hS dX12_readLead_105
      refine lv_if_eq (tgt := 97) hx hb dX12_readLead_79 (by decide) (fun c70 => ?_) (fun c70 => ?_)
      · have hw := hw.1 c70
        exact hJ97  _ _ _ hw hP hS (lv_sub hl [1, 2, 3, 4, 6, 0] rfl)
      have hw := hw.2 c70
      refine lv_iload hx hb dX12_readLead_82 (lv_at hl 5 rfl) ?_
      refine lv_if_eq (tgt := 97) hx hb dX12_readLead_84 (by decide) (fun c71 => ?_) (fun c71 => ?_)
      · have hw := hw.1 c71
        exact hJ97  _ _ _ hw hP hS (lv_sub hl [1, 2, 3, 4, 6, 0] rfl)
      have hw := hw.2 c71
      refine lv_aload_n hx hb dX12_readLead_87 rfl (lv_at hl 1 rfl) ?_
      refine lv_iconst (v := 1) hx hb dX12_readLead_88 (by decide) ?_
      refine lv_aload_n hx hb dX12_readLead_89 rfl (lv_at hl 1 rfl) ?_
      refine hw_get (v := .int (σ13 0 10)) hx hb hts hiX12 hown hK hP (Nat.lt_of_lt_of_le (by decide) hN) (bY_0 _) rfl 10 (by decide) (List.mem_of_getElem? (i := 1) rfl) rfl rfl dX12_readLead_90 ?_
      refine hw_ki (va_runV (As := [.int (1 : Int32), .int (σ13 0 10)]) (rest := []) ⟨hx, hb, hml, hown, hts⟩ (kc_X12_wrong l D cy N hN ad hJ0 w σ13 _ (1 : Int32) (σ13 0 10) _ hw) (cwV 2 hts gX12_readLead_X12_wrong rfl rfl rfl (by decide +kernel) ⟨Nat.le_of_ble_eq_true rfl, Nat.le_of_ble_eq_true rfl⟩) (hw_preV hK hN1 hP (Nat.lt_of_lt_of_le (by decide) hN) (bY_0 _) rfl) rfl rfl hl.1 rfl (lv_room (Nat.le_of_ble_eq_true rfl)) dX12_readLead_93 ⟨Nat.zero_le _, Nat.zero_le _⟩) hS (fun r73 σ72 H locs hw hP hS => ?_)
      obtain ⟨hb74, hw⟩ := hw
      exact hw_zret hx hb hr hlocks hb74 (σ72) hw hP hS dX12_readLead_96
    refine lv_if_ne (tgt := 40) hx hb dX12_readLead_28 (by decide) (fun c75 => ?_) (fun c75 => ?_)
    · have hw := hw.1 c75
      exact hJ40  _ _ _ hw hP hS (lv_sub hl [1, 2, 0] rfl)
    have hw := hw.2 c75
    refine lv_aload_n hx hb dX12_readLead_31 rfl (lv_at hl 1 rfl) ?_
    refine hw_ki (va_runV (As := []) (rest := []) ⟨hx, hb, hml, hown, hts⟩ (kc_X12_peek l D cy N hN ad hJ0 w σ5 _  _ hw) (cwV 0 hts gX12_readLead_X12_peek rfl rfl rfl (by decide +kernel) ⟨Nat.le_of_ble_eq_true rfl, Nat.le_of_ble_eq_true rfl⟩) (hw_preV hK hN1 hP (Nat.lt_of_lt_of_le (by decide) hN) (bY_0 _) rfl) rfl rfl hl.1 rfl (lv_room (Nat.le_of_ble_eq_true rfl)) dX12_readLead_32 ⟨Nat.zero_le _, Nat.zero_le _⟩) hS (fun r77 σ76 H locs hw hP hS => ?_)
    obtain ⟨hu_, hw⟩ := hw
    rw [hu_] at hP
    refine lv_bipush (v := 43) hx hb dX12_readLead_35 (by decide) ?_
    refine lv_icmp_ne (tgt := 54) hx hb dX12_readLead_37 (by decide) (fun c78 => ?_) (fun c78 => ?_)
    · have hw := hw.1 c78
      refine lv_iconst (v := 0) hx hb dX12_readLead_54 (by decide) ?_
      refine lv_istore (lv' := [(4, .int (0 : Int32)), (3, .int z8), (0, .ref (ad 0)), (1, .int v1_1)]) hx hb dX12_readLead_55 hl (by decide) rfl (fun ls hl => ?_)
      refine lv_iconst (v := 0) hx hb dX12_readLead_57 (by decide) ?_
      refine lv_istore (lv' := [(5, .int (0 : Int32)), (4, .int (0 : Int32)), (3, .int z8), (0, .ref (ad 0)), (1, .int v1_1)]) hx hb dX12_readLead_58 hl (by decide) rfl (fun ls hl => ?_)
      refine lv_iconst (v := 1) hx hb dX12_readLead_60 (by decide) ?_
      refine lv_istore (lv' := [(6, .int (1 : Int32)), (5, .int (0 : Int32)), (4, .int (0 : Int32)), (3, .int z8), (0, .ref (ad 0)), (1, .int v1_1)]) hx hb dX12_readLead_61 hl (by decide) rfl (fun ls hl => ?_)
      refine hw (fun (v4_79 : Int32) (v5_80 : Int32) (v6_81 : Int32) (σ82 : hSt) => ∀ (H : Heap) (locs : List Loc) (ls : Array Slot), va_P D vwCl (hC N ad (bY cy ad w) σ82) H → va_S (hA N ad s.heap.size) s.heap H locs → lv_has ls 9 [(0, .ref (ad 0)), (1, .int v1_1), (3, .int z8), (4, .int v4_79), (5, .int v5_80), (6, .int v6_81)] → W p l e (headSpec wsX12_readLead ({ frames := 2, cells := 0, slots := 0, locals := 47 } : Room)).room s m ([Value.ref (ad 0)] : List Value).toArray below meth c H locs 0 0 (MQ below (va_Qi (fun (r : Int32) (u : hSt) => Q r u) (hE D (fun u : hSt => hC N ad (bY cy ad w) u)) (hA N ad s.heap.size)) ([Value.ref (ad 0)] : List Value).toArray s 0 0 (hA N ad s.heap.size)) (F0 m 63 ls [])) (fun v4_79 v5_80 v6_81 σ82 hw H locs ls hP hS hl => ?_) _ _ _ hP hS (lv_sub hl [4, 5, 3, 2, 1, 0] rfl)
      refine lv_iload hx hb dX12_readLead_63 (lv_at hl 5 rfl) ?_
      refine lv_if_eq (tgt := 195) hx hb dX12_readLead_65 (by decide) (fun c83 => ?_) (fun c83 => ?_)
      · have hw := hw.1 c83
        refine lv_aload_n hx hb dX12_readLead_195 rfl (lv_at hl 0 rfl) ?_
        refine hw_ki (va_runV (As := []) (rest := []) ⟨hx, hb, hml, hown, hts⟩ (kc_X12_peek l D cy N hN ad hJ0 w σ82 _  _ hw) (cwV 0 hts gX12_readLead_X12_peek rfl rfl rfl (by decide +kernel) ⟨Nat.le_of_ble_eq_true rfl, Nat.le_of_ble_eq_true rfl⟩) (hw_preV hK hN1 hP (Nat.lt_of_lt_of_le (by decide) hN) (bY_0 _) rfl) rfl rfl hl.1 rfl (lv_room (Nat.le_of_ble_eq_true rfl)) dX12_readLead_196 ⟨Nat.zero_le _, Nat.zero_le _⟩) hS (fun r85 σ84 H locs hw hP hS => ?_)
        obtain ⟨hu_, hw⟩ := hw
        rw [hu_] at hP
        refine lv_bipush (v := 44) hx hb dX12_readLead_199 (by decide) ?_
        obtain ⟨J223, ehJ223, hw⟩ := hM_x hw
        have hJ223 : ∀ (H : Heap) (locs : List Loc) (ls : Array Slot), J223 → va_P D vwCl (hC N ad (bY cy ad w) σ82) H → va_S (hA N ad s.heap.size) s.heap H locs → lv_has ls 9 [(0, .ref (ad 0)), (1, .int v1_1), (3, .int z8), (4, .int v4_79)] → W p l e (headSpec wsX12_readLead ({ frames := 2, cells := 0, slots := 0, locals := 47 } : Room)).room s m ([Value.ref (ad 0)] : List Value).toArray below meth c H locs 0 0 (MQ below (va_Qi (fun (r : Int32) (u : hSt) => Q r u) (hE D (fun u : hSt => hC N ad (bY cy ad w) u)) (hA N ad s.heap.size)) ([Value.ref (ad 0)] : List Value).toArray s 0 0 (hA N ad s.heap.size)) (F0 m 223 ls []) := by
          intro H locs ls hw hP hS hl
          rw [ehJ223] at hw
          refine lv_iload_n hx hb dX12_readLead_223 rfl (lv_at hl 2 rfl) ?_
          obtain ⟨J238, ehJ238, hw⟩ := hM_x hw
          have hJ238 : ∀ (z86 : Int32) (H : Heap) (locs : List Loc) (ls : Array Slot), J238 z86 → va_P D vwCl (hC N ad (bY cy ad w) σ82) H → va_S (hA N ad s.heap.size) s.heap H locs → lv_has ls 9 [(0, .ref (ad 0)), (1, .int v1_1), (4, .int v4_79)] → W p l e (headSpec wsX12_readLead ({ frames := 2, cells := 0, slots := 0, locals := 47 } : Room)).room s m ([Value.ref (ad 0)] : List Value).toArray below meth c H locs 0 0 (MQ below (va_Qi (fun (r : Int32) (u : hSt) => Q r u) (hE D (fun u : hSt => hC N ad (bY cy ad w) u)) (hA N ad s.heap.size)) ([Value.ref (ad 0)] : List Value).toArray s 0 0 (hA N ad s.heap.size)) (F0 m 238 ls [.int z86]) := by
            intro z86 H locs ls hw hP hS hl
            rw [ehJ238] at hw
            refine lv_istore (lv' := [(7, .int z86), (0, .ref (ad 0)), (1, .int v1_1), (4, .int v4_79)]) hx hb dX12_readLead_238 hl (by decide) rfl (fun ls hl => ?_)
            refine lv_iload_n hx hb dX12_readLead_240 rfl (lv_at hl 2 rfl) ?_
            refine lv_iload hx hb dX12_readLead_241 (lv_at hl 0 rfl) ?_
            refine lv_iadd hx hb dX12_readLead_243 ?_
            refine lv_bipush (v := 64) hx hb dX12_readLead_244 (by decide) ?_
            refine lv_icmp_le (tgt := 259) hx hb dX12_readLead_246 (by decide) (fun c87 => ?_) (fun c87 => ?_)
            · have hw := hw.1 c87
              refine lv_iconst (v := 0) hx hb dX12_readLead_259 (by decide) ?_
              refine lv_istore (lv' := [(8, .int (0 : Int32)), (7, .int z86), (0, .ref (ad 0)), (1, .int v1_1), (4, .int v4_79)]) hx hb dX12_readLead_260 hl (by decide) rfl (fun ls hl => ?_)
              refine hw (fun (v8_88 : Int32) (σ89 : hSt) => ∀ (H : Heap) (locs : List Loc) (ls : Array Slot), va_P D vwCl (hC N ad (bY cy ad w) σ89) H → va_S (hA N ad s.heap.size) s.heap H locs → lv_has ls 9 [(0, .ref (ad 0)), (1, .int v1_1), (4, .int v4_79), (7, .int z86), (8, .int v8_88)] → W p l e (headSpec wsX12_readLead ({ frames := 2, cells := 0, slots := 0, locals := 47 } : Room)).room s m ([Value.ref (ad 0)] : List Value).toArray below meth c H locs 0 0 (MQ below (va_Qi (fun (r : Int32) (u : hSt) => Q r u) (hE D (fun u : hSt => hC N ad (bY cy ad w) u)) (hA N ad s.heap.size)) ([Value.ref (ad 0)] : List Value).toArray s 0 0 (hA N ad s.heap.size)) (F0 m 262 ls [])) (fun v8_88 σ89 hw H locs ls hP hS hl => ?_) _ _ _ hP hS (lv_sub hl [2, 3, 4, 1, 0] rfl)
              refine lv_iload hx hb dX12_readLead_262 (lv_at hl 4 rfl) ?_
              refine lv_iload hx hb dX12_readLead_264 (lv_at hl 3 rfl) ?_
              refine lv_icmp_ge (tgt := 310) hx hb dX12_readLead_266 (by decide) (fun c90 => ?_) (fun c90 => ?_)
              · have hw := hw.1 c90
                refine lv_iload_n hx hb dX12_readLead_310 rfl (lv_at hl 1 rfl) ?_
                refine lv_iload hx hb dX12_readLead_311 (lv_at hl 3 rfl) ?_
                refine lv_iadd hx hb dX12_readLead_313 ?_
                refine lv_topi (fun x1_91 ex1_91 => ?_)
                have hw := hw x1_91 ex1_91
                refine lv_istore_n (lv' := [(1, .int x1_91), (0, .ref (ad 0)), (4, .int v4_79), (7, .int z86), (8, .int v8_88)]) hx hb dX12_readLead_314 rfl hl (by decide) rfl (fun ls hl => ?_)
                refine lv_aload_n hx hb dX12_readLead_315 rfl (lv_at hl 1 rfl) ?_
                refine hw_ki (va_runV (As := []) (rest := []) ⟨hx, hb, hml, hown, hts⟩ (kc_X12_peek l D cy N hN ad hJ0 w σ89 _  _ hw) (cwV 0 hts gX12_readLead_X12_peek rfl rfl rfl (by decide +kernel) ⟨Nat.le_of_ble_eq_true rfl, Nat.le_of_ble_eq_true rfl⟩) (hw_preV hK hN1 hP (Nat.lt_of_lt_of_le (by decide) hN) (bY_0 _) rfl) rfl rfl hl.1 rfl (lv_room (Nat.le_of_ble_eq_true rfl)) dX12_readLead_316 ⟨Nat.zero_le _, Nat.zero_le _⟩) hS (fun r93 σ92 H locs hw hP hS => ?_)
                obtain ⟨hu_, hw⟩ := hw
                rw [hu_] at hP
                refine lv_bipush (v := 44) hx hb dX12_readLead_319 (by decide) ?_
                obtain ⟨J329, ehJ329, hw⟩ := hM_x hw
                have hJ329 : ∀ (z94 : Int32) (H : Heap) (locs : List Loc) (ls : Array Slot), J329 z94 → va_P D vwCl (hC N ad (bY cy ad w) σ89) H → va_S (hA N ad s.heap.size) s.heap H locs → lv_has ls 9 [(0, .ref (ad 0)), (1, .int x1_91)] → W p l e (headSpec wsX12_readLead ({ frames := 2, cells := 0, slots := 0, locals := 47 } : Room)).room s m ([Value.ref (ad 0)] : List Value).toArray below meth c H locs 0 0 (MQ below (va_Qi (fun (r : Int32) (u : hSt) => Q r u) (hE D (fun u : hSt => hC N ad (bY cy ad w) u)) (hA N ad s.heap.size)) ([Value.ref (ad 0)] : List Value).toArray s 0 0 (hA N ad s.heap.size)) (F0 m 329 ls [.int z94]) := by
                  intro z94 H locs ls hw hP hS hl
                  rw [ehJ329] at hw
                  refine lv_istore_n (lv' := [(2, .int z94), (0, .ref (ad 0)), (1, .int x1_91)]) hx hb dX12_readLead_329 rfl hl (by decide) rfl (fun ls hl => ?_)
                  refine lv_aload_n hx hb dX12_readLead_330 rfl (lv_at hl 1 rfl) ?_
                  refine lv_dup hx hb dX12_readLead_331 rfl ?_
                  refine hw_get (v := .int (σ89 0 10)) hx hb hts hiX12 hown hK hP (Nat.lt_of_lt_of_le (by decide) hN) (bY_0 _) rfl 10 (by decide) (List.mem_of_getElem? (i := 1) rfl) rfl rfl dX12_readLead_332 ?_
                  refine lv_iconst (v := 1) hx hb dX12_readLead_335 (by decide) ?_
                  refine lv_iadd hx hb dX12_readLead_336 ?_
                  refine hw_put (x := ((σ89 0 10) + (1 : Int32))) (j := 10) hx hb hts hiX12 tyX12 tyX12_ok nmX12 hown hK hJ0 hP hS (Nat.lt_of_lt_of_le (by decide) hN) (bY_0 _) rfl (by decide) (List.mem_of_getElem? (i := 1) rfl) rfl rfl rfl rfl (Nat.le_of_ble_eq_true rfl) (by rw [bY_0]; rfl) dX12_readLead_337 (fun H locs hP hS => ?_)
                  refine lv_goto (tgt := 4) hx hb dX12_readLead_340 (by decide) ?_
                  exact hw _ _ _ hP hS (lv_sub hl [1, 2, 0] rfl)
                refine lv_icmp_ne (tgt := 328) hx hb dX12_readLead_321 (by decide) (fun c95 => ?_) (fun c95 => ?_)
                · have hw := hw.1 c95
                  refine lv_iconst (v := 0) hx hb dX12_readLead_328 (by decide) ?_
                  exact hJ329 _ _ _ _ hw hP hS (lv_sub hl [1, 0] rfl)
                have hw := hw.2 c95
                refine lv_iconst (v := 1) hx hb dX12_readLead_324 (by decide) ?_
                refine lv_goto (tgt := 329) hx hb dX12_readLead_325 (by decide) ?_
                exact hJ329 _ _ _ _ hw hP hS (lv_sub hl [1, 0] rfl)
              have hw := hw.2 c90
              refine lv_aload_n hx hb dX12_readLead_269 rfl (lv_at hl 0 rfl) ?_
              refine hw_get (v := .ref (ad 6)) hx hb hts hiX12 hown hK hP (Nat.lt_of_lt_of_le (by decide) hN) (bY_0 _) rfl 14 (by decide) (List.mem_of_getElem? (i := 4) rfl) rfl rfl dX12_readLead_270 ?_
              refine lv_iload_n hx hb dX12_readLead_273 rfl (lv_at hl 1 rfl) ?_
              refine lv_iload hx hb dX12_readLead_274 (lv_at hl 4 rfl) ?_
              refine lv_iadd hx hb dX12_readLead_276 ?_
              refine lv_aload_n hx hb dX12_readLead_277 rfl (lv_at hl 0 rfl) ?_
              refine hw_get (v := .ref (ad 7)) hx hb hts hiX12 hown hK hP (Nat.lt_of_lt_of_le (by decide) hN) (bY_0 _) rfl 15 (by decide) (List.mem_of_getElem? (i := 2) rfl) rfl rfl dX12_readLead_278 ?_
              refine lv_iload hx hb dX12_readLead_281 (lv_at hl 4 rfl) ?_
              refine lv_iload hx hb dX12_readLead_283 (lv_at hl 2 rfl) ?_
              refine lv_icmp_ge (tgt := 293) hx hb dX12_readLead_285 (by decide) (fun c96 => ?_) (fun c96 => ?_)
              · have hw := hw.1 c96
                refine lv_iconst (v := 2) hx hb dX12_readLead_293 (by decide) ?_
                refine lv_iload hx hb dX12_readLead_294 (lv_at hl 2 rfl) ?_
                refine lv_imul hx hb dX12_readLead_296 ?_
                refine lv_iconst (v := 2) hx hb dX12_readLead_297 (by decide) ?_
                refine lv_isub hx hb dX12_readLead_298 ?_
                refine lv_iload hx hb dX12_readLead_299 (lv_at hl 4 rfl) ?_
                refine lv_isub hx hb dX12_readLead_301 ?_
                obtain ⟨hi97, hw⟩ := hw
                refine hw_iald hx hb hK hP (Nat.lt_of_lt_of_le (by decide) hN) (bY_7 _) hi97 dX12_readLead_302 ?_
                obtain ⟨hi98, hw⟩ := hw
                refine hw_iast hx hb hK hJ0 hP hS (Nat.lt_of_lt_of_le (by decide) hN) (fun ρ => bY_6 ρ) hi98 dX12_readLead_303 (fun H locs hP hS => ?_)
                obtain ⟨x8_99, ex8_99⟩ : ∃ z : Int32, z = v8_88 + (1 : Int32) := ⟨_, rfl⟩
                have hw := hw x8_99 ex8_99
                refine lv_iinc (v := x8_99) (lv' := [(8, .int x8_99), (0, .ref (ad 0)), (1, .int v1_1), (4, .int v4_79), (7, .int z86)]) hx hb dX12_readLead_304 hl (k := 4) rfl (by rw [ex8_99]; rfl) (by decide) rfl (fun ls hl => ?_)
                refine lv_goto (tgt := 262) hx hb dX12_readLead_307 (by decide) ?_
                exact hw _ _ _ hP hS (lv_sub hl [1, 2, 3, 4, 0] rfl)
              have hw := hw.2 c96
              refine lv_iload hx hb dX12_readLead_288 (lv_at hl 4 rfl) ?_
              refine lv_goto (tgt := 302) hx hb dX12_readLead_290 (by decide) ?_
              obtain ⟨hi100, hw⟩ := hw
              refine hw_iald hx hb hK hP (Nat.lt_of_lt_of_le (by decide) hN) (bY_7 _) hi100 dX12_readLead_302 ?_
              obtain ⟨hi101, hw⟩ := hw
              refine hw_iast hx hb hK hJ0 hP hS (Nat.lt_of_lt_of_le (by decide) hN) (fun ρ => bY_6 ρ) hi101 dX12_readLead_303 (fun H locs hP hS => ?_)
              obtain ⟨x8_102, ex8_102⟩ : ∃ z : Int32, z = v8_88 + (1 : Int32) := ⟨_, rfl⟩
              have hw := hw x8_102 ex8_102
              refine lv_iinc (v := x8_102) (lv' := [(8, .int x8_102), (0, .ref (ad 0)), (1, .int v1_1), (4, .int v4_79), (7, .int z86)]) hx hb dX12_readLead_304 hl (k := 4) rfl (by rw [ex8_102]; rfl) (by decide) rfl (fun ls hl => ?_)
              refine lv_goto (tgt := 262) hx hb dX12_readLead_307 (by decide) ?_
              exact hw _ _ _ hP hS (lv_sub hl [1, 2, 3, 4, 0] rfl)
            have hw := hw.2 c87
            refine lv_aload_n hx hb dX12_readLead_249 rfl (lv_at hl 1 rfl) ?_
            refine lv_iconst (v := 3) hx hb dX12_readLead_250 (by decide) ?_
            refine lv_aload_n hx hb dX12_readLead_251 rfl (lv_at hl 1 rfl) ?_
            refine hw_get (v := .int (σ82 0 10)) hx hb hts hiX12 hown hK hP (Nat.lt_of_lt_of_le (by decide) hN) (bY_0 _) rfl 10 (by decide) (List.mem_of_getElem? (i := 1) rfl) rfl rfl dX12_readLead_252 ?_
            refine hw_ki (va_runV (As := [.int (3 : Int32), .int (σ82 0 10)]) (rest := []) ⟨hx, hb, hml, hown, hts⟩ (kc_X12_wrong l D cy N hN ad hJ0 w σ82 _ (3 : Int32) (σ82 0 10) _ hw) (cwV 2 hts gX12_readLead_X12_wrong rfl rfl rfl (by decide +kernel) ⟨Nat.le_of_ble_eq_true rfl, Nat.le_of_ble_eq_true rfl⟩) (hw_preV hK hN1 hP (Nat.lt_of_lt_of_le (by decide) hN) (bY_0 _) rfl) rfl rfl hl.1 rfl (lv_room (Nat.le_of_ble_eq_true rfl)) dX12_readLead_255 ⟨Nat.zero_le _, Nat.zero_le _⟩) hS (fun r104 σ103 H locs hw hP hS => ?_)
            obtain ⟨hb105, hw⟩ := hw
            exact hw_zret hx hb hr hlocks hb105 (σ103) hw hP hS dX12_readLead_258
          refine lv_if_eq (tgt := 236) hx hb dX12_readLead_224 (by decide) (fun c106 => ?_) (fun c106 => ?_)
          · have hw := hw.1 c106
            refine lv_iload hx hb dX12_readLead_236 (lv_at hl 3 rfl) ?_
            exact hJ238 _ _ _ _ hw hP hS (lv_sub hl [0, 1, 3] rfl)
          have hw := hw.2 c106
          refine lv_iconst (v := 2) hx hb dX12_readLead_227 (by decide) ?_
          refine lv_iload hx hb dX12_readLead_228 (lv_at hl 3 rfl) ?_
          refine lv_imul hx hb dX12_readLead_230 ?_
          refine lv_iconst (v := 1) hx hb dX12_readLead_231 (by decide) ?_
          refine lv_isub hx hb dX12_readLead_232 ?_
          refine lv_goto (tgt := 238) hx hb dX12_readLead_233 (by decide) ?_
          exact hJ238 _ _ _ _ hw hP hS (lv_sub hl [0, 1, 3] rfl)
        refine lv_icmp_eq (tgt := 223) hx hb dX12_readLead_201 (by decide) (fun c107 => ?_) (fun c107 => ?_)
        · have hw := hw.1 c107
          exact hJ223  _ _ _ hw hP hS (lv_sub hl [0, 1, 2, 3] rfl)
        have hw := hw.2 c107
        refine lv_aload_n hx hb dX12_readLead_204 rfl (lv_at hl 0 rfl) ?_
        refine hw_ki (va_runV (As := []) (rest := []) ⟨hx, hb, hml, hown, hts⟩ (kc_X12_peek l D cy N hN ad hJ0 w σ82 _  _ hw) (cwV 0 hts gX12_readLead_X12_peek rfl rfl rfl (by decide +kernel) ⟨Nat.le_of_ble_eq_true rfl, Nat.le_of_ble_eq_true rfl⟩) (hw_preV hK hN1 hP (Nat.lt_of_lt_of_le (by decide) hN) (bY_0 _) rfl) rfl rfl hl.1 rfl (lv_room (Nat.le_of_ble_eq_true rfl)) dX12_readLead_205 ⟨Nat.zero_le _, Nat.zero_le _⟩) hS (fun r109 σ108 H locs hw hP hS => ?_)
        obtain ⟨hu_, hw⟩ := hw
        rw [hu_] at hP
        refine lv_bipush (v := 59) hx hb dX12_readLead_208 (by decide) ?_
        refine lv_icmp_eq (tgt := 223) hx hb dX12_readLead_210 (by decide) (fun c110 => ?_) (fun c110 => ?_)
        · have hw := hw.1 c110
          exact hJ223  _ _ _ hw hP hS (lv_sub hl [0, 1, 2, 3] rfl)
        have hw := hw.2 c110
        refine lv_aload_n hx hb dX12_readLead_213 rfl (lv_at hl 0 rfl) ?_
        refine lv_iconst (v := 1) hx hb dX12_readLead_214 (by decide) ?_
        refine lv_aload_n hx hb dX12_readLead_215 rfl (lv_at hl 0 rfl) ?_
        refine hw_get (v := .int (σ82 0 10)) hx hb hts hiX12 hown hK hP (Nat.lt_of_lt_of_le (by decide) hN) (bY_0 _) rfl 10 (by decide) (List.mem_of_getElem? (i := 1) rfl) rfl rfl dX12_readLead_216 ?_
        refine hw_ki (va_runV (As := [.int (1 : Int32), .int (σ82 0 10)]) (rest := []) ⟨hx, hb, hml, hown, hts⟩ (kc_X12_wrong l D cy N hN ad hJ0 w σ82 _ (1 : Int32) (σ82 0 10) _ hw) (cwV 2 hts gX12_readLead_X12_wrong rfl rfl rfl (by decide +kernel) ⟨Nat.le_of_ble_eq_true rfl, Nat.le_of_ble_eq_true rfl⟩) (hw_preV hK hN1 hP (Nat.lt_of_lt_of_le (by decide) hN) (bY_0 _) rfl) rfl rfl hl.1 rfl (lv_room (Nat.le_of_ble_eq_true rfl)) dX12_readLead_219 ⟨Nat.zero_le _, Nat.zero_le _⟩) hS (fun r112 σ111 H locs hw hP hS => ?_)
        obtain ⟨hb113, hw⟩ := hw
        exact hw_zret hx hb hr hlocks hb113 (σ111) hw hP hS dX12_readLead_222
      have hw := hw.2 c83
      refine lv_aload_n hx hb dX12_readLead_68 rfl (lv_at hl 0 rfl) ?_
      refine hw_ki (va_runV (As := []) (rest := []) ⟨hx, hb, hml, hown, hts⟩ (kc_X12_peek l D cy N hN ad hJ0 w σ82 _  _ hw) (cwV 0 hts gX12_readLead_X12_peek rfl rfl rfl (by decide +kernel) ⟨Nat.le_of_ble_eq_true rfl, Nat.le_of_ble_eq_true rfl⟩) (hw_preV hK hN1 hP (Nat.lt_of_lt_of_le (by decide) hN) (bY_0 _) rfl) rfl rfl hl.1 rfl (lv_room (Nat.le_of_ble_eq_true rfl)) dX12_readLead_69 ⟨Nat.zero_le _, Nat.zero_le _⟩) hS (fun r115 σ114 H locs hw hP hS => ?_)
      obtain ⟨hu_, hw⟩ := hw
      rw [hu_] at hP
      refine hw_ki (va_runS (As := [.int r115]) (rest := []) ⟨hx, hb, hml, hown, hts⟩ (kc_X12_isBell l D cy N ad (bY cy ad w) σ82 _ r115 _ hw) (va_cwS 1 hts gX12_readLead_X12_isBell rfl rfl rfl (by decide +kernel) ⟨Nat.le_of_ble_eq_true rfl, Nat.le_of_ble_eq_true rfl⟩) (hw_pre hK hN1 hP) rfl rfl hl.1 rfl (lv_room (Nat.le_of_ble_eq_true rfl)) dX12_readLead_72 ⟨Nat.zero_le _, Nat.zero_le _⟩) hS (fun r117 σ116 H locs hw hP hS => ?_)
      obtain ⟨hu_, hw⟩ := hw
      rw [hu_] at hP
      refine lv_istore (lv' := [(7, .int r117), (0, .ref (ad 0)), (1, .int v1_1), (3, .int z8), (4, .int v4_79), (5, .int v5_80), (6, .int v6_81)]) hx hb dX12_readLead_75 hl (by decide) rfl (fun ls hl => ?_)
      refine lv_iload hx hb dX12_readLead_77 (lv_at hl 0 rfl) ?_
      obtain ⟨J97, ehJ97, hw⟩ := hM_x hw
      have hJ97 : ∀ (H : Heap) (locs : List Loc) (ls : Array Slot), J97 → va_P D vwCl (hC N ad (bY cy ad w) σ82) H → va_S (hA N ad s.heap.size) s.heap H locs → lv_has ls 9 [(0, .ref (ad 0)), (1, .int v1_1), (3, .int z8), (4, .int v4_79), (6, .int v6_81), (7, .int r117)] → W p l e (headSpec wsX12_readLead ({ frames := 2, cells := 0, slots := 0, locals := 47 } : Room)).room s m ([Value.ref (ad 0)] : List Value).toArray below meth c H locs 0 0 (MQ below (va_Qi (fun (r : Int32) (u : hSt) => Q r u) (hE D (fun u : hSt => hC N ad (bY cy ad w) u)) (hA N ad s.heap.size)) ([Value.ref (ad 0)] : List Value).toArray s 0 0 (hA N ad s.heap.size)) (F0 m 97 ls []) := by
        intro H locs ls hw hP hS hl
        rw [ehJ97] at hw
        refine lv_aload_n hx hb dX12_readLead_97 rfl (lv_at hl 0 rfl) ?_
        refine hw_ki (va_runV (As := []) (rest := []) ⟨hx, hb, hml, hown, hts⟩ (kc_X12_readChange l D cy N hN ad hJ0 w σ82 _  _ hw) (cwV 0 hts gX12_readLead_X12_readChange rfl rfl rfl (by decide +kernel) ⟨Nat.le_of_ble_eq_true rfl, Nat.le_of_ble_eq_true rfl⟩) (hw_preV hK hN1 hP (Nat.lt_of_lt_of_le (by decide) hN) (bY_0 _) rfl) rfl rfl hl.1 rfl (lv_room (Nat.le_of_ble_eq_true rfl)) dX12_readLead_98 ⟨Nat.zero_le _, Nat.zero_le _⟩) hS (fun r119 σ118 H locs hw hP hS => ?_)
        refine lv_if_ne (tgt := 106) hx hb dX12_readLead_101 (by decide) (fun c120 => ?_) (fun c120 => ?_)
        · have hw := hw.1 c120
          refine lv_iload hx hb dX12_readLead_106 (lv_at hl 5 rfl) ?_
          refine lv_istore (lv' := [(5, .int r117), (0, .ref (ad 0)), (1, .int v1_1), (3, .int z8), (4, .int v4_79), (6, .int v6_81), (7, .int r117)]) hx hb dX12_readLead_108 hl (by decide) rfl (fun ls hl => ?_)
          refine lv_aload_n hx hb dX12_readLead_110 rfl (lv_at hl 1 rfl) ?_
          refine hw_get (v := .ref (ad 7)) hx hb hts hiX12 hown hK hP (Nat.lt_of_lt_of_le (by decide) hN) (bY_0 _) rfl 15 (by decide) (List.mem_of_getElem? (i := 2) rfl) rfl rfl dX12_readLead_111 ?_
          refine lv_iload hx hb dX12_readLead_114 (lv_at hl 4 rfl) ?_
          refine lv_aload_n hx hb dX12_readLead_116 rfl (lv_at hl 1 rfl) ?_
          refine hw_get (v := .int (σ118 0 13)) hx hb hts hiX12 hown hK hP (Nat.lt_of_lt_of_le (by decide) hN) (bY_0 _) rfl 13 (by decide) (List.mem_of_getElem? (i := 3) rfl) rfl rfl dX12_readLead_117 ?_
          obtain ⟨hi121, hw⟩ := hw
          refine hw_iast hx hb hK hJ0 hP hS (Nat.lt_of_lt_of_le (by decide) hN) (fun ρ => bY_7 ρ) hi121 dX12_readLead_120 (fun H locs hP hS => ?_)
          obtain ⟨x4_122, ex4_122⟩ : ∃ z : Int32, z = v4_79 + (1 : Int32) := ⟨_, rfl⟩
          have hw := hw x4_122 ex4_122
          refine lv_iinc (v := x4_122) (lv' := [(4, .int x4_122), (5, .int r117), (0, .ref (ad 0)), (1, .int v1_1), (3, .int z8), (6, .int v6_81), (7, .int r117)]) hx hb dX12_readLead_121 hl (k := 4) rfl (by rw [ex4_122]; rfl) (by decide) rfl (fun ls hl => ?_)
          refine lv_aload_n hx hb dX12_readLead_124 rfl (lv_at hl 2 rfl) ?_
          refine hw_kv (va_runV (As := []) (rest := []) ⟨hx, hb, hml, hown, hts⟩ (kc_X12_blanks l D cy N hN ad hJ0 w (hup σ118 7 (v4_79).toNatClampNeg (σ118 0 13)) _  _ hw) (cwV 0 hts gX12_readLead_X12_blanks rfl rfl rfl (by decide +kernel) ⟨Nat.le_of_ble_eq_true rfl, Nat.le_of_ble_eq_true rfl⟩) (hw_preV hK hN1 hP (Nat.lt_of_lt_of_le (by decide) hN) (bY_0 _) rfl) rfl rfl hl.1 rfl (lv_room (Nat.le_of_ble_eq_true rfl)) dX12_readLead_125 ⟨Nat.zero_le _, Nat.zero_le _⟩) hS (fun σ123 H locs hw hP hS => ?_)
          refine lv_aload_n hx hb dX12_readLead_128 rfl (lv_at hl 2 rfl) ?_
          refine hw_ki (va_runV (As := []) (rest := []) ⟨hx, hb, hml, hown, hts⟩ (kc_X12_peek l D cy N hN ad hJ0 w σ123 _  _ hw) (cwV 0 hts gX12_readLead_X12_peek rfl rfl rfl (by decide +kernel) ⟨Nat.le_of_ble_eq_true rfl, Nat.le_of_ble_eq_true rfl⟩) (hw_preV hK hN1 hP (Nat.lt_of_lt_of_le (by decide) hN) (bY_0 _) rfl) rfl rfl hl.1 rfl (lv_room (Nat.le_of_ble_eq_true rfl)) dX12_readLead_129 ⟨Nat.zero_le _, Nat.zero_le _⟩) hS (fun r125 σ124 H locs hw hP hS => ?_)
          obtain ⟨hu_, hw⟩ := hw
          rw [hu_] at hP
          refine lv_bipush (v := 46) hx hb dX12_readLead_132 (by decide) ?_
          refine lv_icmp_ne (tgt := 157) hx hb dX12_readLead_134 (by decide) (fun c126 => ?_) (fun c126 => ?_)
          · have hw := hw.1 c126
            refine lv_aload_n hx hb dX12_readLead_157 rfl (lv_at hl 2 rfl) ?_
            refine hw_ki (va_runV (As := []) (rest := []) ⟨hx, hb, hml, hown, hts⟩ (kc_X12_peek l D cy N hN ad hJ0 w σ123 _  _ hw) (cwV 0 hts gX12_readLead_X12_peek rfl rfl rfl (by decide +kernel) ⟨Nat.le_of_ble_eq_true rfl, Nat.le_of_ble_eq_true rfl⟩) (hw_preV hK hN1 hP (Nat.lt_of_lt_of_le (by decide) hN) (bY_0 _) rfl) rfl rfl hl.1 rfl (lv_room (Nat.le_of_ble_eq_true rfl)) dX12_readLead_158 ⟨Nat.zero_le _, Nat.zero_le _⟩) hS (fun r128 σ127 H locs hw hP hS => ?_)
            obtain ⟨hu_, hw⟩ := hw
            rw [hu_] at hP
            refine lv_bipush (v := 120) hx hb dX12_readLead_161 (by decide) ?_
            refine lv_icmp_eq (tgt := 185) hx hb dX12_readLead_163 (by decide) (fun c129 => ?_) (fun c129 => ?_)
            · have hw := hw.1 c129
              refine lv_iconst (v := 1) hx hb dX12_readLead_185 (by decide) ?_
              refine lv_goto (tgt := 190) hx hb dX12_readLead_186 (by decide) ?_
              refine lv_istore (lv' := [(6, .int (1 : Int32)), (4, .int x4_122), (5, .int r117), (0, .ref (ad 0)), (1, .int v1_1), (3, .int z8), (7, .int r117)]) hx hb dX12_readLead_190 hl (by decide) rfl (fun ls hl => ?_)
              refine lv_goto (tgt := 63) hx hb dX12_readLead_192 (by decide) ?_
              exact hw _ _ _ hP hS (lv_sub hl [3, 4, 5, 1, 2, 0] rfl)
            have hw := hw.2 c129
            refine lv_aload_n hx hb dX12_readLead_166 rfl (lv_at hl 2 rfl) ?_
            refine hw_ki (va_runV (As := []) (rest := []) ⟨hx, hb, hml, hown, hts⟩ (kc_X12_peek l D cy N hN ad hJ0 w σ123 _  _ hw) (cwV 0 hts gX12_readLead_X12_peek rfl rfl rfl (by decide +kernel) ⟨Nat.le_of_ble_eq_true rfl, Nat.le_of_ble_eq_true rfl⟩) (hw_preV hK hN1 hP (Nat.lt_of_lt_of_le (by decide) hN) (bY_0 _) rfl) rfl rfl hl.1 rfl (lv_room (Nat.le_of_ble_eq_true rfl)) dX12_readLead_167 ⟨Nat.zero_le _, Nat.zero_le _⟩) hS (fun r131 σ130 H locs hw hP hS => ?_)
            obtain ⟨hu_, hw⟩ := hw
            rw [hu_] at hP
            refine lv_bipush (v := 45) hx hb dX12_readLead_170 (by decide) ?_
            refine lv_icmp_eq (tgt := 185) hx hb dX12_readLead_172 (by decide) (fun c132 => ?_) (fun c132 => ?_)
            · have hw := hw.1 c132
              refine lv_iconst (v := 1) hx hb dX12_readLead_185 (by decide) ?_
              refine lv_goto (tgt := 190) hx hb dX12_readLead_186 (by decide) ?_
              refine lv_istore (lv' := [(6, .int (1 : Int32)), (4, .int x4_122), (5, .int r117), (0, .ref (ad 0)), (1, .int v1_1), (3, .int z8), (7, .int r117)]) hx hb dX12_readLead_190 hl (by decide) rfl (fun ls hl => ?_)
              refine lv_goto (tgt := 63) hx hb dX12_readLead_192 (by decide) ?_
              exact hw _ _ _ hP hS (lv_sub hl [3, 4, 5, 1, 2, 0] rfl)
            have hw := hw.2 c132
            refine lv_aload_n hx hb dX12_readLead_175 rfl (lv_at hl 2 rfl) ?_
            refine hw_ki (va_runV (As := []) (rest := []) ⟨hx, hb, hml, hown, hts⟩ (kc_X12_peek l D cy N hN ad hJ0 w σ123 _  _ hw) (cwV 0 hts gX12_readLead_X12_peek rfl rfl rfl (by decide +kernel) ⟨Nat.le_of_ble_eq_true rfl, Nat.le_of_ble_eq_true rfl⟩) (hw_preV hK hN1 hP (Nat.lt_of_lt_of_le (by decide) hN) (bY_0 _) rfl) rfl rfl hl.1 rfl (lv_room (Nat.le_of_ble_eq_true rfl)) dX12_readLead_176 ⟨Nat.zero_le _, Nat.zero_le _⟩) hS (fun r134 σ133 H locs hw hP hS => ?_)
            obtain ⟨hu_, hw⟩ := hw
            rw [hu_] at hP
            refine hw_ki (va_runS (As := [.int r134]) (rest := []) ⟨hx, hb, hml, hown, hts⟩ (kc_X12_isBell l D cy N ad (bY cy ad w) σ123 _ r134 _ hw) (va_cwS 1 hts gX12_readLead_X12_isBell rfl rfl rfl (by decide +kernel) ⟨Nat.le_of_ble_eq_true rfl, Nat.le_of_ble_eq_true rfl⟩) (hw_pre hK hN1 hP) rfl rfl hl.1 rfl (lv_room (Nat.le_of_ble_eq_true rfl)) dX12_readLead_179 ⟨Nat.zero_le _, Nat.zero_le _⟩) hS (fun r136 σ135 H locs hw hP hS => ?_)
            obtain ⟨hu_, hw⟩ := hw
            rw [hu_] at hP
            refine lv_if_eq (tgt := 189) hx hb dX12_readLead_182 (by decide) (fun c137 => ?_) (fun c137 => ?_)
            · have hw := hw.1 c137
              refine lv_iconst (v := 0) hx hb dX12_readLead_189 (by decide) ?_
              refine lv_istore (lv' := [(6, .int (0 : Int32)), (4, .int x4_122), (5, .int r117), (0, .ref (ad 0)), (1, .int v1_1), (3, .int z8), (7, .int r117)]) hx hb dX12_readLead_190 hl (by decide) rfl (fun ls hl => ?_)
              refine lv_goto (tgt := 63) hx hb dX12_readLead_192 (by decide) ?_
              exact hw _ _ _ hP hS (lv_sub hl [3, 4, 5, 1, 2, 0] rfl)
            have hw := hw.2 c137
            refine lv_iconst (v := 1) hx hb dX12_readLead_185 (by decide) ?_
            refine lv_goto (tgt := 190) hx hb dX12_readLead_186 (by decide) ?_
            refine lv_istore (lv' := [(6, .int (1 : Int32)), (4, .int x4_122), (5, .int r117), (0, .ref (ad 0)), (1, .int v1_1), (3, .int z8), (7, .int r117)]) hx hb dX12_readLead_190 hl (by decide) rfl (fun ls hl => ?_)
            refine lv_goto (tgt := 63) hx hb dX12_readLead_192 (by decide) ?_
            exact hw _ _ _ hP hS (lv_sub hl [3, 4, 5, 1, 2, 0] rfl)
          have hw := hw.2 c126
          refine lv_aload_n hx hb dX12_readLead_137 rfl (lv_at hl 2 rfl) ?_
          refine lv_dup hx hb dX12_readLead_138 rfl ?_
          refine hw_get (v := .int (σ123 0 10)) hx hb hts hiX12 hown hK hP (Nat.lt_of_lt_of_le (by decide) hN) (bY_0 _) rfl 10 (by decide) (List.mem_of_getElem? (i := 1) rfl) rfl rfl dX12_readLead_139 ?_
          refine lv_iconst (v := 1) hx hb dX12_readLead_142 (by decide) ?_
          refine lv_iadd hx hb dX12_readLead_143 ?_
          refine hw_put (x := ((σ123 0 10) + (1 : Int32))) (j := 10) hx hb hts hiX12 tyX12 tyX12_ok nmX12 hown hK hJ0 hP hS (Nat.lt_of_lt_of_le (by decide) hN) (bY_0 _) rfl (by decide) (List.mem_of_getElem? (i := 1) rfl) rfl rfl rfl rfl (Nat.le_of_ble_eq_true rfl) (by rw [bY_0]; rfl) dX12_readLead_144 (fun H locs hP hS => ?_)
          refine lv_aload_n hx hb dX12_readLead_147 rfl (lv_at hl 2 rfl) ?_
          refine hw_kv (va_runV (As := []) (rest := []) ⟨hx, hb, hml, hown, hts⟩ (kc_X12_blanks l D cy N hN ad hJ0 w (hup σ123 0 10 ((σ123 0 10) + (1 : Int32))) _  _ hw) (cwV 0 hts gX12_readLead_X12_blanks rfl rfl rfl (by decide +kernel) ⟨Nat.le_of_ble_eq_true rfl, Nat.le_of_ble_eq_true rfl⟩) (hw_preV hK hN1 hP (Nat.lt_of_lt_of_le (by decide) hN) (bY_0 _) rfl) rfl rfl hl.1 rfl (lv_room (Nat.le_of_ble_eq_true rfl)) dX12_readLead_148 ⟨Nat.zero_le _, Nat.zero_le _⟩) hS (fun σ138 H locs hw hP hS => ?_)
          refine lv_iconst (v := 0) hx hb dX12_readLead_151 (by decide) ?_
          refine lv_istore (lv' := [(5, .int (0 : Int32)), (4, .int x4_122), (0, .ref (ad 0)), (1, .int v1_1), (3, .int z8), (6, .int v6_81), (7, .int r117)]) hx hb dX12_readLead_152 hl (by decide) rfl (fun ls hl => ?_)
          refine lv_goto (tgt := 63) hx hb dX12_readLead_154 (by decide) ?_
          exact hw _ _ _ hP hS (lv_sub hl [2, 3, 4, 1, 0, 5] rfl)
        have hw := hw.2 c120
        refine lv_iconst (v := 0) hx hb dX12_readLead_104 (by decide) ?_
        exact hw_zret hx hb hr hlocks hbo_0 (σ118) hw hP hS dX12_readLead_105
      refine lv_if_eq (tgt := 97) hx hb dX12_readLead_79 (by decide) (fun c139 => ?_) (fun c139 => ?_)
      · have hw := hw.1 c139
        exact hJ97  _ _ _ hw hP hS (lv_sub hl [1, 2, 3, 4, 6, 0] rfl)
      have hw := hw.2 c139
      refine lv_iload hx hb dX12_readLead_82 (lv_at hl 5 rfl) ?_
      refine lv_if_eq (tgt := 97) hx hb dX12_readLead_84 (by decide) (fun c140 => ?_) (fun c140 => ?_)
      · have hw := hw.1 c140
        exact hJ97  _ _ _ hw hP hS (lv_sub hl [1, 2, 3, 4, 6, 0] rfl)
      have hw := hw.2 c140
      refine lv_aload_n hx hb dX12_readLead_87 rfl (lv_at hl 1 rfl) ?_
      refine lv_iconst (v := 1) hx hb dX12_readLead_88 (by decide) ?_
      refine lv_aload_n hx hb dX12_readLead_89 rfl (lv_at hl 1 rfl) ?_
      refine hw_get (v := .int (σ82 0 10)) hx hb hts hiX12 hown hK hP (Nat.lt_of_lt_of_le (by decide) hN) (bY_0 _) rfl 10 (by decide) (List.mem_of_getElem? (i := 1) rfl) rfl rfl dX12_readLead_90 ?_
      refine hw_ki (va_runV (As := [.int (1 : Int32), .int (σ82 0 10)]) (rest := []) ⟨hx, hb, hml, hown, hts⟩ (kc_X12_wrong l D cy N hN ad hJ0 w σ82 _ (1 : Int32) (σ82 0 10) _ hw) (cwV 2 hts gX12_readLead_X12_wrong rfl rfl rfl (by decide +kernel) ⟨Nat.le_of_ble_eq_true rfl, Nat.le_of_ble_eq_true rfl⟩) (hw_preV hK hN1 hP (Nat.lt_of_lt_of_le (by decide) hN) (bY_0 _) rfl) rfl rfl hl.1 rfl (lv_room (Nat.le_of_ble_eq_true rfl)) dX12_readLead_93 ⟨Nat.zero_le _, Nat.zero_le _⟩) hS (fun r142 σ141 H locs hw hP hS => ?_)
      obtain ⟨hb143, hw⟩ := hw
      exact hw_zret hx hb hr hlocks hb143 (σ141) hw hP hS dX12_readLead_96
    have hw := hw.2 c78
    exact hJ40  _ _ _ hw hP hS (lv_sub hl [1, 2, 0] rfl)
  refine lv_icmp_ne (tgt := 25) hx hb dX12_readLead_18 (by decide) (fun c144 => ?_) (fun c144 => ?_)
  · have hw := hw.1 c144
    refine lv_iconst (v := 0) hx hb dX12_readLead_25 (by decide) ?_
    exact hJ26 _ _ _ _ hw hP hS (lv_sub hl [0, 1] rfl)
  have hw := hw.2 c144
  refine lv_iconst (v := 1) hx hb dX12_readLead_21 (by decide) ?_
  refine lv_goto (tgt := 26) hx hb dX12_readLead_22 (by decide) ?_
  exact hJ26 _ _ _ _ hw hP hS (lv_sub hl [0, 1] rfl)
set_option maxHeartbeats 4000000 in
set_option maxRecDepth 100000 in
theorem kc_X12_readMethod (l : Launch) (D : va_G) (cy : Nat → ClassId) (N : Nat) (hN : 22 ≤ N) (ad : Nat → Nat) (hJ0 : hJ N ad) (w : Nat → Int64) (σ : hSt) (sz : Nat)  (Q : Int32 → hSt → Prop) (hw : wp_X12_readMethod  σ w Q) : Met l yX12_readMethod wsX12_readMethod ({ frames := 3, cells := 0, slots := 0, locals := 75 } : Room) (va_Pc [.ref (ad 0)] (hB D cy (hC N ad (bY cy ad w) σ) sz)) (va_Qi (fun (r : Int32) (u : hSt) => Q r u) (hE D (fun u : hSt => hC N ad (bY cy ad w) u)) (hA N ad sz)) 0 0 (hA N ad sz) := by
  refine Met.ofW (cc := cX12_readMethod) (maxL := 1) (ret := (some .boolean)) (by decide) rfl ?_
  intro p e s m args below meth c s₁ B hml hv
  obtain ⟨rfl, hsz, hP, hK, hN1⟩ := hv
  have hx := B.exec
  have hb := B.bytes
  have hr := B.returns
  have hts := atoms_spec (ws := wsX12_readMethod) B.pre
  have hown : s.vm.findClass RX12 = some m.cls := findClass_of_methodNamed B.named
  have hlocks := B.notSynchronized
  subst hsz
  have hS : va_S (hA N ad s.heap.size) s.heap s.heap [] := va_S.rf
  have hiX12 : ∀ w ∈ wsX120, w ∈ wsX12_readMethod := fun _ h => List.mem_cons_of_mem _ (List.mem_append_right _ h)
  have hl := lv_entry ([.ref (ad 0)]) (n := 1) (Nat.le_of_ble_eq_true rfl)
  rw [lg_entry_eq]
  generalize (lg_sl ([.ref (ad 0)]) ++ List.replicate (1 - (lg_sl ([.ref (ad 0)])).length) Slot.unset).toArray = ls at hl ⊢
  have hl : lv_has ls 1 [(0, .ref (ad 0))] := hl
  unfold wp_X12_readMethod at hw
  refine lv_aload_n hx hb dX12_readMethod_0 rfl (lv_at hl 0 rfl) ?_
  refine hw_ki (va_runV (As := []) (rest := []) ⟨hx, hb, hml, hown, hts⟩ (kc_X12_readLead l D cy N hN ad hJ0 w σ _  _ hw) (cwV 0 hts gX12_readMethod_X12_readLead rfl rfl rfl (by decide +kernel) ⟨Nat.le_of_ble_eq_true rfl, Nat.le_of_ble_eq_true rfl⟩) (hw_preV hK hN1 hP (Nat.lt_of_lt_of_le (by decide) hN) (bY_0 _) rfl) rfl rfl hl.1 rfl (lv_room (Nat.le_of_ble_eq_true rfl)) dX12_readMethod_1 ⟨Nat.zero_le _, Nat.zero_le _⟩) hS (fun r2 σ1 H locs hw hP hS => ?_)
  refine lv_if_ne (tgt := 9) hx hb dX12_readMethod_4 (by decide) (fun c3 => ?_) (fun c3 => ?_)
  · have hw := hw.1 c3
    refine lv_aload_n hx hb dX12_readMethod_9 rfl (lv_at hl 0 rfl) ?_
    refine hw_kv (va_runV (As := []) (rest := []) ⟨hx, hb, hml, hown, hts⟩ (kc_X12_blanks l D cy N hN ad hJ0 w σ1 _  _ hw) (cwV 0 hts gX12_readMethod_X12_blanks rfl rfl rfl (by decide +kernel) ⟨Nat.le_of_ble_eq_true rfl, Nat.le_of_ble_eq_true rfl⟩) (hw_preV hK hN1 hP (Nat.lt_of_lt_of_le (by decide) hN) (bY_0 _) rfl) rfl rfl hl.1 rfl (lv_room (Nat.le_of_ble_eq_true rfl)) dX12_readMethod_10 ⟨Nat.zero_le _, Nat.zero_le _⟩) hS (fun σ4 H locs hw hP hS => ?_)
    refine lv_aload_n hx hb dX12_readMethod_13 rfl (lv_at hl 0 rfl) ?_
    refine hw_ki (va_runV (As := []) (rest := []) ⟨hx, hb, hml, hown, hts⟩ (kc_X12_readChange l D cy N hN ad hJ0 w σ4 _  _ hw) (cwV 0 hts gX12_readMethod_X12_readChange rfl rfl rfl (by decide +kernel) ⟨Nat.le_of_ble_eq_true rfl, Nat.le_of_ble_eq_true rfl⟩) (hw_preV hK hN1 hP (Nat.lt_of_lt_of_le (by decide) hN) (bY_0 _) rfl) rfl rfl hl.1 rfl (lv_room (Nat.le_of_ble_eq_true rfl)) dX12_readMethod_14 ⟨Nat.zero_le _, Nat.zero_le _⟩) hS (fun r6 σ5 H locs hw hP hS => ?_)
    refine lv_if_ne (tgt := 22) hx hb dX12_readMethod_17 (by decide) (fun c7 => ?_) (fun c7 => ?_)
    · have hw := hw.1 c7
      refine lv_aload_n hx hb dX12_readMethod_22 rfl (lv_at hl 0 rfl) ?_
      refine hw_get (v := .ref (ad 6)) hx hb hts hiX12 hown hK hP (Nat.lt_of_lt_of_le (by decide) hN) (bY_0 _) rfl 14 (by decide) (List.mem_of_getElem? (i := 1) rfl) rfl rfl dX12_readMethod_23 ?_
      refine lv_bipush (v := 64) hx hb dX12_readMethod_26 (by decide) ?_
      refine lv_aload_n hx hb dX12_readMethod_28 rfl (lv_at hl 0 rfl) ?_
      refine hw_get (v := .int (σ5 0 13)) hx hb hts hiX12 hown hK hP (Nat.lt_of_lt_of_le (by decide) hN) (bY_0 _) rfl 13 (by decide) (List.mem_of_getElem? (i := 2) rfl) rfl rfl dX12_readMethod_29 ?_
      obtain ⟨hi8, hw⟩ := hw
      refine hw_iast hx hb hK hJ0 hP hS (Nat.lt_of_lt_of_le (by decide) hN) (fun ρ => bY_6 ρ) hi8 dX12_readMethod_32 (fun H locs hP hS => ?_)
      refine lv_aload_n hx hb dX12_readMethod_33 rfl (lv_at hl 0 rfl) ?_
      refine hw_kv (va_runV (As := []) (rest := []) ⟨hx, hb, hml, hown, hts⟩ (kc_X12_blanks l D cy N hN ad hJ0 w (hup σ5 6 ((64 : Int32)).toNatClampNeg (σ5 0 13)) _  _ hw) (cwV 0 hts gX12_readMethod_X12_blanks rfl rfl rfl (by decide +kernel) ⟨Nat.le_of_ble_eq_true rfl, Nat.le_of_ble_eq_true rfl⟩) (hw_preV hK hN1 hP (Nat.lt_of_lt_of_le (by decide) hN) (bY_0 _) rfl) rfl rfl hl.1 rfl (lv_room (Nat.le_of_ble_eq_true rfl)) dX12_readMethod_34 ⟨Nat.zero_le _, Nat.zero_le _⟩) hS (fun σ9 H locs hw hP hS => ?_)
      refine lv_aload_n hx hb dX12_readMethod_37 rfl (lv_at hl 0 rfl) ?_
      refine hw_ki (va_runV (As := []) (rest := []) ⟨hx, hb, hml, hown, hts⟩ (kc_X12_peek l D cy N hN ad hJ0 w σ9 _  _ hw) (cwV 0 hts gX12_readMethod_X12_peek rfl rfl rfl (by decide +kernel) ⟨Nat.le_of_ble_eq_true rfl, Nat.le_of_ble_eq_true rfl⟩) (hw_preV hK hN1 hP (Nat.lt_of_lt_of_le (by decide) hN) (bY_0 _) rfl) rfl rfl hl.1 rfl (lv_room (Nat.le_of_ble_eq_true rfl)) dX12_readMethod_38 ⟨Nat.zero_le _, Nat.zero_le _⟩) hS (fun r11 σ10 H locs hw hP hS => ?_)
      obtain ⟨hu_, hw⟩ := hw
      rw [hu_] at hP
      refine lv_bipush (v := 59) hx hb dX12_readMethod_41 (by decide) ?_
      refine lv_icmp_eq (tgt := 56) hx hb dX12_readMethod_43 (by decide) (fun c12 => ?_) (fun c12 => ?_)
      · have hw := hw.1 c12
        refine lv_aload_n hx hb dX12_readMethod_56 rfl (lv_at hl 0 rfl) ?_
        refine lv_dup hx hb dX12_readMethod_57 rfl ?_
        refine hw_get (v := .int (σ9 0 10)) hx hb hts hiX12 hown hK hP (Nat.lt_of_lt_of_le (by decide) hN) (bY_0 _) rfl 10 (by decide) (List.mem_of_getElem? (i := 3) rfl) rfl rfl dX12_readMethod_58 ?_
        refine lv_iconst (v := 1) hx hb dX12_readMethod_61 (by decide) ?_
        refine lv_iadd hx hb dX12_readMethod_62 ?_
        refine hw_put (x := ((σ9 0 10) + (1 : Int32))) (j := 10) hx hb hts hiX12 tyX12 tyX12_ok nmX12 hown hK hJ0 hP hS (Nat.lt_of_lt_of_le (by decide) hN) (bY_0 _) rfl (by decide) (List.mem_of_getElem? (i := 3) rfl) rfl rfl rfl rfl (Nat.le_of_ble_eq_true rfl) (by rw [bY_0]; rfl) dX12_readMethod_63 (fun H locs hP hS => ?_)
        refine lv_aload_n hx hb dX12_readMethod_66 rfl (lv_at hl 0 rfl) ?_
        refine hw_kv (va_runV (As := []) (rest := []) ⟨hx, hb, hml, hown, hts⟩ (kc_X12_blanks l D cy N hN ad hJ0 w (hup σ9 0 10 ((σ9 0 10) + (1 : Int32))) _  _ hw) (cwV 0 hts gX12_readMethod_X12_blanks rfl rfl rfl (by decide +kernel) ⟨Nat.le_of_ble_eq_true rfl, Nat.le_of_ble_eq_true rfl⟩) (hw_preV hK hN1 hP (Nat.lt_of_lt_of_le (by decide) hN) (bY_0 _) rfl) rfl rfl hl.1 rfl (lv_room (Nat.le_of_ble_eq_true rfl)) dX12_readMethod_67 ⟨Nat.zero_le _, Nat.zero_le _⟩) hS (fun σ13 H locs hw hP hS => ?_)
        refine lv_aload_n hx hb dX12_readMethod_70 rfl (lv_at hl 0 rfl) ?_
        refine hw_ki (va_runV (As := []) (rest := []) ⟨hx, hb, hml, hown, hts⟩ (kc_X12_readChange l D cy N hN ad hJ0 w σ13 _  _ hw) (cwV 0 hts gX12_readMethod_X12_readChange rfl rfl rfl (by decide +kernel) ⟨Nat.le_of_ble_eq_true rfl, Nat.le_of_ble_eq_true rfl⟩) (hw_preV hK hN1 hP (Nat.lt_of_lt_of_le (by decide) hN) (bY_0 _) rfl) rfl rfl hl.1 rfl (lv_room (Nat.le_of_ble_eq_true rfl)) dX12_readMethod_71 ⟨Nat.zero_le _, Nat.zero_le _⟩) hS (fun r15 σ14 H locs hw hP hS => ?_)
        refine lv_if_ne (tgt := 79) hx hb dX12_readMethod_74 (by decide) (fun c16 => ?_) (fun c16 => ?_)
        · have hw := hw.1 c16
          refine lv_aload_n hx hb dX12_readMethod_79 rfl (lv_at hl 0 rfl) ?_
          refine hw_get (v := .ref (ad 6)) hx hb hts hiX12 hown hK hP (Nat.lt_of_lt_of_le (by decide) hN) (bY_0 _) rfl 14 (by decide) (List.mem_of_getElem? (i := 1) rfl) rfl rfl dX12_readMethod_80 ?_
          refine lv_bipush (v := 65) hx hb dX12_readMethod_83 (by decide) ?_
          refine lv_aload_n hx hb dX12_readMethod_85 rfl (lv_at hl 0 rfl) ?_
          refine hw_get (v := .int (σ14 0 13)) hx hb hts hiX12 hown hK hP (Nat.lt_of_lt_of_le (by decide) hN) (bY_0 _) rfl 13 (by decide) (List.mem_of_getElem? (i := 2) rfl) rfl rfl dX12_readMethod_86 ?_
          obtain ⟨hi17, hw⟩ := hw
          refine hw_iast hx hb hK hJ0 hP hS (Nat.lt_of_lt_of_le (by decide) hN) (fun ρ => bY_6 ρ) hi17 dX12_readMethod_89 (fun H locs hP hS => ?_)
          refine lv_aload_n hx hb dX12_readMethod_90 rfl (lv_at hl 0 rfl) ?_
          refine hw_kv (va_runV (As := []) (rest := []) ⟨hx, hb, hml, hown, hts⟩ (kc_X12_blanks l D cy N hN ad hJ0 w (hup σ14 6 ((65 : Int32)).toNatClampNeg (σ14 0 13)) _  _ hw) (cwV 0 hts gX12_readMethod_X12_blanks rfl rfl rfl (by decide +kernel) ⟨Nat.le_of_ble_eq_true rfl, Nat.le_of_ble_eq_true rfl⟩) (hw_preV hK hN1 hP (Nat.lt_of_lt_of_le (by decide) hN) (bY_0 _) rfl) rfl rfl hl.1 rfl (lv_room (Nat.le_of_ble_eq_true rfl)) dX12_readMethod_91 ⟨Nat.zero_le _, Nat.zero_le _⟩) hS (fun σ18 H locs hw hP hS => ?_)
          refine lv_aload_n hx hb dX12_readMethod_94 rfl (lv_at hl 0 rfl) ?_
          refine hw_get (v := .int (σ18 0 10)) hx hb hts hiX12 hown hK hP (Nat.lt_of_lt_of_le (by decide) hN) (bY_0 _) rfl 10 (by decide) (List.mem_of_getElem? (i := 3) rfl) rfl rfl dX12_readMethod_95 ?_
          refine lv_aload_n hx hb dX12_readMethod_98 rfl (lv_at hl 0 rfl) ?_
          refine hw_get (v := .int (σ18 0 9)) hx hb hts hiX12 hown hK hP (Nat.lt_of_lt_of_le (by decide) hN) (bY_0 _) rfl 9 (by decide) (List.mem_of_getElem? (i := 4) rfl) rfl rfl dX12_readMethod_99 ?_
          refine lv_icmp_eq (tgt := 117) hx hb dX12_readMethod_102 (by decide) (fun c19 => ?_) (fun c19 => ?_)
          · have hw := hw.1 c19
            refine lv_iconst (v := 1) hx hb dX12_readMethod_117 (by decide) ?_
            refine lv_goto (tgt := 122) hx hb dX12_readMethod_118 (by decide) ?_
            exact hw_zret hx hb hr hlocks hbo_1 (σ18) hw hP hS dX12_readMethod_122
          have hw := hw.2 c19
          refine lv_aload_n hx hb dX12_readMethod_105 rfl (lv_at hl 0 rfl) ?_
          refine lv_iconst (v := 1) hx hb dX12_readMethod_106 (by decide) ?_
          refine lv_aload_n hx hb dX12_readMethod_107 rfl (lv_at hl 0 rfl) ?_
          refine hw_get (v := .int (σ18 0 10)) hx hb hts hiX12 hown hK hP (Nat.lt_of_lt_of_le (by decide) hN) (bY_0 _) rfl 10 (by decide) (List.mem_of_getElem? (i := 3) rfl) rfl rfl dX12_readMethod_108 ?_
          refine hw_ki (va_runV (As := [.int (1 : Int32), .int (σ18 0 10)]) (rest := []) ⟨hx, hb, hml, hown, hts⟩ (kc_X12_wrong l D cy N hN ad hJ0 w σ18 _ (1 : Int32) (σ18 0 10) _ hw) (cwV 2 hts gX12_readMethod_X12_wrong rfl rfl rfl (by decide +kernel) ⟨Nat.le_of_ble_eq_true rfl, Nat.le_of_ble_eq_true rfl⟩) (hw_preV hK hN1 hP (Nat.lt_of_lt_of_le (by decide) hN) (bY_0 _) rfl) rfl rfl hl.1 rfl (lv_room (Nat.le_of_ble_eq_true rfl)) dX12_readMethod_111 ⟨Nat.zero_le _, Nat.zero_le _⟩) hS (fun r21 σ20 H locs hw hP hS => ?_)
          refine lv_if_eq (tgt := 121) hx hb dX12_readMethod_114 (by decide) (fun c22 => ?_) (fun c22 => ?_)
          · have hw := hw.1 c22
            refine lv_iconst (v := 0) hx hb dX12_readMethod_121 (by decide) ?_
            exact hw_zret hx hb hr hlocks hbo_0 (σ20) hw hP hS dX12_readMethod_122
          have hw := hw.2 c22
          refine lv_iconst (v := 1) hx hb dX12_readMethod_117 (by decide) ?_
          refine lv_goto (tgt := 122) hx hb dX12_readMethod_118 (by decide) ?_
          exact hw_zret hx hb hr hlocks hbo_1 (σ20) hw hP hS dX12_readMethod_122
        have hw := hw.2 c16
        refine lv_iconst (v := 0) hx hb dX12_readMethod_77 (by decide) ?_
        exact hw_zret hx hb hr hlocks hbo_0 (σ14) hw hP hS dX12_readMethod_78
      have hw := hw.2 c12
      refine lv_aload_n hx hb dX12_readMethod_46 rfl (lv_at hl 0 rfl) ?_
      refine lv_iconst (v := 1) hx hb dX12_readMethod_47 (by decide) ?_
      refine lv_aload_n hx hb dX12_readMethod_48 rfl (lv_at hl 0 rfl) ?_
      refine hw_get (v := .int (σ9 0 10)) hx hb hts hiX12 hown hK hP (Nat.lt_of_lt_of_le (by decide) hN) (bY_0 _) rfl 10 (by decide) (List.mem_of_getElem? (i := 3) rfl) rfl rfl dX12_readMethod_49 ?_
      refine hw_ki (va_runV (As := [.int (1 : Int32), .int (σ9 0 10)]) (rest := []) ⟨hx, hb, hml, hown, hts⟩ (kc_X12_wrong l D cy N hN ad hJ0 w σ9 _ (1 : Int32) (σ9 0 10) _ hw) (cwV 2 hts gX12_readMethod_X12_wrong rfl rfl rfl (by decide +kernel) ⟨Nat.le_of_ble_eq_true rfl, Nat.le_of_ble_eq_true rfl⟩) (hw_preV hK hN1 hP (Nat.lt_of_lt_of_le (by decide) hN) (bY_0 _) rfl) rfl rfl hl.1 rfl (lv_room (Nat.le_of_ble_eq_true rfl)) dX12_readMethod_52 ⟨Nat.zero_le _, Nat.zero_le _⟩) hS (fun r24 σ23 H locs hw hP hS => ?_)
      obtain ⟨hb25, hw⟩ := hw
      exact hw_zret hx hb hr hlocks hb25 (σ23) hw hP hS dX12_readMethod_55
    have hw := hw.2 c7
    refine lv_iconst (v := 0) hx hb dX12_readMethod_20 (by decide) ?_
    exact hw_zret hx hb hr hlocks hbo_0 (σ5) hw hP hS dX12_readMethod_21
  have hw := hw.2 c3
  refine lv_iconst (v := 0) hx hb dX12_readMethod_7 (by decide) ?_
  exact hw_zret hx hb hr hlocks hbo_0 (σ1) hw hP hS dX12_readMethod_8
set_option maxHeartbeats 4000000 in
set_option maxRecDepth 100000 in
theorem kc_X12_method (l : Launch) (D : va_G) (cy : Nat → ClassId) (N : Nat) (hN : 22 ≤ N) (ad : Nat → Nat) (hJ0 : hJ N ad) (w : Nat → Int64) (σ : hSt) (sz : Nat) (a1 : Int32) (Q : Int32 → hSt → Prop) (hw : wp_X12_method a1 σ w Q) : Met l yX12_method wsX12_method ({ frames := 4, cells := 0, slots := 0, locals := 95 } : Room) (va_Pc [.ref (ad 0), .int a1] (hB D cy (hC N ad (bY cy ad w) σ) sz)) (va_Qi (fun (r : Int32) (u : hSt) => Q r u) (hE D (fun u : hSt => hC N ad (bY cy ad w) u)) (hA N ad sz)) 0 0 (hA N ad sz) := by
  refine Met.ofW (cc := cX12_method) (maxL := 3) (ret := (some .int)) (by decide) rfl ?_
  intro p e s m args below meth c s₁ B hml hv
  obtain ⟨rfl, hsz, hP, hK, hN1⟩ := hv
  have hx := B.exec
  have hb := B.bytes
  have hr := B.returns
  have hts := atoms_spec (ws := wsX12_method) B.pre
  have hown : s.vm.findClass RX12 = some m.cls := findClass_of_methodNamed B.named
  have hlocks := B.notSynchronized
  subst hsz
  have hS : va_S (hA N ad s.heap.size) s.heap s.heap [] := va_S.rf
  have hiX12 : ∀ w ∈ wsX120, w ∈ wsX12_method := fun _ h => List.mem_cons_of_mem _ (List.mem_append_right _ h)
  have hl := lv_entry ([.ref (ad 0), .int a1]) (n := 3) (Nat.le_of_ble_eq_true rfl)
  rw [lg_entry_eq]
  generalize (lg_sl ([.ref (ad 0), .int a1]) ++ List.replicate (3 - (lg_sl ([.ref (ad 0), .int a1])).length) Slot.unset).toArray = ls at hl ⊢
  have hl : lv_has ls 3 [(0, .ref (ad 0)), (1, .int a1)] := hl
  unfold wp_X12_method at hw
  refine lv_aload_n hx hb dX12_method_0 rfl (lv_at hl 0 rfl) ?_
  refine lv_iload_n hx hb dX12_method_1 rfl (lv_at hl 1 rfl) ?_
  obtain ⟨J16, ehJ16, hw⟩ := hM_x hw
  have hJ16 : ∀ (z1 : Int32) (H : Heap) (locs : List Loc) (ls : Array Slot), J16 z1 → va_P D vwCl (hC N ad (bY cy ad w) σ) H → va_S (hA N ad s.heap.size) s.heap H locs → lv_has ls 3 [(0, .ref (ad 0)), (1, .int a1)] → W p l e (headSpec wsX12_method ({ frames := 4, cells := 0, slots := 0, locals := 95 } : Room)).room s m ([Value.ref (ad 0), Value.int a1] : List Value).toArray below meth c H locs 0 0 (MQ below (va_Qi (fun (r : Int32) (u : hSt) => Q r u) (hE D (fun u : hSt => hC N ad (bY cy ad w) u)) (hA N ad s.heap.size)) ([Value.ref (ad 0), Value.int a1] : List Value).toArray s 0 0 (hA N ad s.heap.size)) (F0 m 16 ls [.int z1, .ref (ad 0)]) := by
    intro z1 H locs ls hw hP hS hl
    rw [ehJ16] at hw
    refine lv_iconst (v := 1) hx hb dX12_method_16 (by decide) ?_
    refine hw_ki (va_runV (As := [.int z1, .int (1 : Int32)]) (rest := []) ⟨hx, hb, hml, hown, hts⟩ (kc_X12_throwsIf l D cy N hN ad hJ0 w σ _ z1 (1 : Int32) _ hw) (cwV 2 hts gX12_method_X12_throwsIf rfl rfl rfl (by decide +kernel) ⟨Nat.le_of_ble_eq_true rfl, Nat.le_of_ble_eq_true rfl⟩) (hw_preV hK hN1 hP (Nat.lt_of_lt_of_le (by decide) hN) (bY_0 _) rfl) rfl rfl hl.1 rfl (lv_room (Nat.le_of_ble_eq_true rfl)) dX12_method_17 ⟨Nat.zero_le _, Nat.zero_le _⟩) hS (fun r3 σ2 H locs hw hP hS => ?_)
    refine lv_if_eq (tgt := 25) hx hb dX12_method_20 (by decide) (fun c4 => ?_) (fun c4 => ?_)
    · have hw := hw.1 c4
      refine lv_aload_n hx hb dX12_method_25 rfl (lv_at hl 0 rfl) ?_
      refine hw_kv (va_runV (As := []) (rest := []) ⟨hx, hb, hml, hown, hts⟩ (kc_X12_open l D cy N hN ad hJ0 w σ2 _  _ hw) (cwV 0 hts gX12_method_X12_open rfl rfl rfl (by decide +kernel) ⟨Nat.le_of_ble_eq_true rfl, Nat.le_of_ble_eq_true rfl⟩) (hw_preV hK hN1 hP (Nat.lt_of_lt_of_le (by decide) hN) (bY_0 _) rfl) rfl rfl hl.1 rfl (lv_room (Nat.le_of_ble_eq_true rfl)) dX12_method_26 ⟨Nat.zero_le _, Nat.zero_le _⟩) hS (fun σ5 H locs hw hP hS => ?_)
      refine lv_aload_n hx hb dX12_method_29 rfl (lv_at hl 0 rfl) ?_
      refine hw_ki (va_runV (As := []) (rest := []) ⟨hx, hb, hml, hown, hts⟩ (kc_X12_readMethod l D cy N hN ad hJ0 w σ5 _  _ hw) (cwV 0 hts gX12_method_X12_readMethod rfl rfl rfl (by decide +kernel) ⟨Nat.le_of_ble_eq_true rfl, Nat.le_of_ble_eq_true rfl⟩) (hw_preV hK hN1 hP (Nat.lt_of_lt_of_le (by decide) hN) (bY_0 _) rfl) rfl rfl hl.1 rfl (lv_room (Nat.le_of_ble_eq_true rfl)) dX12_method_30 ⟨Nat.zero_le _, Nat.zero_le _⟩) hS (fun r7 σ6 H locs hw hP hS => ?_)
      refine lv_if_ne (tgt := 43) hx hb dX12_method_33 (by decide) (fun c8 => ?_) (fun c8 => ?_)
      · have hw := hw.1 c8
        refine lv_aload_n hx hb dX12_method_43 rfl (lv_at hl 0 rfl) ?_
        refine hw_get (v := .ref (ad 1)) hx hb hts hiX12 hown hK hP (Nat.lt_of_lt_of_le (by decide) hN) (bY_0 _) rfl 2 (by decide) (List.mem_of_getElem? (i := 2) rfl) rfl rfl dX12_method_44 ?_
        refine lv_iload_n hx hb dX12_method_47 rfl (lv_at hl 1 rfl) ?_
        refine lv_aload_n hx hb dX12_method_48 rfl (lv_at hl 0 rfl) ?_
        refine hw_get (v := .int (σ6 0 16)) hx hb hts hiX12 hown hK hP (Nat.lt_of_lt_of_le (by decide) hN) (bY_0 _) rfl 16 (by decide) (List.mem_of_getElem? (i := 3) rfl) rfl rfl dX12_method_49 ?_
        obtain ⟨hi9, hw⟩ := hw
        refine hw_iast hx hb hK hJ0 hP hS (Nat.lt_of_lt_of_le (by decide) hN) (fun ρ => bY_1 ρ) hi9 dX12_method_52 (fun H locs hP hS => ?_)
        refine lv_iconst (v := 0) hx hb dX12_method_53 (by decide) ?_
        refine lv_istore_n (lv' := [(2, .int (0 : Int32)), (0, .ref (ad 0)), (1, .int a1)]) hx hb dX12_method_54 rfl hl (by decide) rfl (fun ls hl => ?_)
        refine hw (fun (v2_10 : Int32) (σ11 : hSt) => ∀ (H : Heap) (locs : List Loc) (ls : Array Slot), va_P D vwCl (hC N ad (bY cy ad w) σ11) H → va_S (hA N ad s.heap.size) s.heap H locs → lv_has ls 3 [(0, .ref (ad 0)), (1, .int a1), (2, .int v2_10)] → W p l e (headSpec wsX12_method ({ frames := 4, cells := 0, slots := 0, locals := 95 } : Room)).room s m ([Value.ref (ad 0), Value.int a1] : List Value).toArray below meth c H locs 0 0 (MQ below (va_Qi (fun (r : Int32) (u : hSt) => Q r u) (hE D (fun u : hSt => hC N ad (bY cy ad w) u)) (hA N ad s.heap.size)) ([Value.ref (ad 0), Value.int a1] : List Value).toArray s 0 0 (hA N ad s.heap.size)) (F0 m 55 ls [])) (fun v2_10 σ11 hw H locs ls hP hS hl => ?_) _ _ _ hP hS (lv_sub hl [1, 2, 0] rfl)
        refine lv_iload_n hx hb dX12_method_55 rfl (lv_at hl 2 rfl) ?_
        refine lv_bipush (v := 66) hx hb dX12_method_56 (by decide) ?_
        refine lv_icmp_ge (tgt := 84) hx hb dX12_method_58 (by decide) (fun c12 => ?_) (fun c12 => ?_)
        · have hw := hw.1 c12
          refine lv_aload_n hx hb dX12_method_84 rfl (lv_at hl 0 rfl) ?_
          refine lv_iconst (v := 0) hx hb dX12_method_85 (by decide) ?_
          refine hw_put (x := (0 : Int32)) (j := 6) hx hb hts hiX12 tyX12 tyX12_ok nmX12 hown hK hJ0 hP hS (Nat.lt_of_lt_of_le (by decide) hN) (bY_0 _) rfl (by decide) (List.mem_of_getElem? (i := 6) rfl) rfl rfl rfl rfl (Nat.le_of_ble_eq_true rfl) (by rw [bY_0]; rfl) dX12_method_86 (fun H locs hP hS => ?_)
          refine lv_aload_n hx hb dX12_method_89 rfl (lv_at hl 0 rfl) ?_
          refine hw_get (v := .int ((hup σ11 0 6 (0 : Int32)) 0 16)) hx hb hts hiX12 hown hK hP (Nat.lt_of_lt_of_le (by decide) hN) (bY_0 _) rfl 16 (by decide) (List.mem_of_getElem? (i := 3) rfl) rfl rfl dX12_method_90 ?_
          exact hw_iret hx hb hr hlocks ((hup σ11 0 6 (0 : Int32))) hw hP hS dX12_method_93
        have hw := hw.2 c12
        refine lv_aload_n hx hb dX12_method_61 rfl (lv_at hl 0 rfl) ?_
        refine hw_get (v := .ref (ad 2)) hx hb hts hiX12 hown hK hP (Nat.lt_of_lt_of_le (by decide) hN) (bY_0 _) rfl 3 (by decide) (List.mem_of_getElem? (i := 4) rfl) rfl rfl dX12_method_62 ?_
        refine lv_bipush (v := 66) hx hb dX12_method_65 (by decide) ?_
        refine lv_iload_n hx hb dX12_method_67 rfl (lv_at hl 1 rfl) ?_
        refine lv_imul hx hb dX12_method_68 ?_
        refine lv_iload_n hx hb dX12_method_69 rfl (lv_at hl 2 rfl) ?_
        refine lv_iadd hx hb dX12_method_70 ?_
        refine lv_aload_n hx hb dX12_method_71 rfl (lv_at hl 0 rfl) ?_
        refine hw_get (v := .ref (ad 6)) hx hb hts hiX12 hown hK hP (Nat.lt_of_lt_of_le (by decide) hN) (bY_0 _) rfl 14 (by decide) (List.mem_of_getElem? (i := 5) rfl) rfl rfl dX12_method_72 ?_
        refine lv_iload_n hx hb dX12_method_75 rfl (lv_at hl 2 rfl) ?_
        obtain ⟨hi13, hw⟩ := hw
        refine hw_iald hx hb hK hP (Nat.lt_of_lt_of_le (by decide) hN) (bY_6 _) hi13 dX12_method_76 ?_
        obtain ⟨hi14, hw⟩ := hw
        refine hw_iast hx hb hK hJ0 hP hS (Nat.lt_of_lt_of_le (by decide) hN) (fun ρ => bY_2 ρ) hi14 dX12_method_77 (fun H locs hP hS => ?_)
        obtain ⟨x2_15, ex2_15⟩ : ∃ z : Int32, z = v2_10 + (1 : Int32) := ⟨_, rfl⟩
        have hw := hw x2_15 ex2_15
        refine lv_iinc (v := x2_15) (lv' := [(2, .int x2_15), (0, .ref (ad 0)), (1, .int a1)]) hx hb dX12_method_78 hl (k := 2) rfl (by rw [ex2_15]; rfl) (by decide) rfl (fun ls hl => ?_)
        refine lv_goto (tgt := 55) hx hb dX12_method_81 (by decide) ?_
        exact hw _ _ _ hP hS (lv_sub hl [1, 2, 0] rfl)
      have hw := hw.2 c8
      refine lv_iconst (v := -1) hx hb dX12_method_36 (by decide) ?_
      refine lv_aload_n hx hb dX12_method_37 rfl (lv_at hl 0 rfl) ?_
      refine hw_get (v := .int (σ6 0 12)) hx hb hts hiX12 hown hK hP (Nat.lt_of_lt_of_le (by decide) hN) (bY_0 _) rfl 12 (by decide) (List.mem_of_getElem? (i := 1) rfl) rfl rfl dX12_method_38 ?_
      refine lv_isub hx hb dX12_method_41 ?_
      exact hw_iret hx hb hr hlocks (σ6) hw hP hS dX12_method_42
    have hw := hw.2 c4
    refine lv_iconst (v := 0) hx hb dX12_method_23 (by decide) ?_
    exact hw_iret hx hb hr hlocks (σ2) hw hP hS dX12_method_24
  obtain ⟨J11, ehJ11, hw⟩ := hM_x hw
  have hJ11 : ∀ (H : Heap) (locs : List Loc) (ls : Array Slot), J11 → va_P D vwCl (hC N ad (bY cy ad w) σ) H → va_S (hA N ad s.heap.size) s.heap H locs → lv_has ls 3 [(0, .ref (ad 0)), (1, .int a1)] → W p l e (headSpec wsX12_method ({ frames := 4, cells := 0, slots := 0, locals := 95 } : Room)).room s m ([Value.ref (ad 0), Value.int a1] : List Value).toArray below meth c H locs 0 0 (MQ below (va_Qi (fun (r : Int32) (u : hSt) => Q r u) (hE D (fun u : hSt => hC N ad (bY cy ad w) u)) (hA N ad s.heap.size)) ([Value.ref (ad 0), Value.int a1] : List Value).toArray s 0 0 (hA N ad s.heap.size)) (F0 m 11 ls [.ref (ad 0)]) := by
    intro H locs ls hw hP hS hl
    rw [ehJ11] at hw
    refine lv_iconst (v := 1) hx hb dX12_method_11 (by decide) ?_
    refine lv_goto (tgt := 16) hx hb dX12_method_12 (by decide) ?_
    exact hJ16 _ _ _ _ hw hP hS (lv_sub hl [0, 1] rfl)
  refine lv_if_lt (tgt := 11) hx hb dX12_method_2 (by decide) (fun c16 => ?_) (fun c16 => ?_)
  · have hw := hw.1 c16
    exact hJ11  _ _ _ hw hP hS (lv_sub hl [0, 1] rfl)
  have hw := hw.2 c16
  refine lv_iload_n hx hb dX12_method_5 rfl (lv_at hl 1 rfl) ?_
  refine lv_bipush (v := 6) hx hb dX12_method_6 (by decide) ?_
  refine lv_icmp_lt (tgt := 15) hx hb dX12_method_8 (by decide) (fun c17 => ?_) (fun c17 => ?_)
  · have hw := hw.1 c17
    refine lv_iconst (v := 0) hx hb dX12_method_15 (by decide) ?_
    exact hJ16 _ _ _ _ hw hP hS (lv_sub hl [0, 1] rfl)
  have hw := hw.2 c17
  exact hJ11  _ _ _ hw hP hS (lv_sub hl [0, 1] rfl)
set_option maxHeartbeats 4000000 in
set_option maxRecDepth 100000 in
theorem kc_X12_fault (l : Launch) (D : va_G) (cy : Nat → ClassId) (N : Nat) (hN : 22 ≤ N) (ad : Nat → Nat) (hJ0 : hJ N ad) (w : Nat → Int64) (σ : hSt) (sz : Nat)  (Q : Int32 → hSt → Prop) (hw : wp_X12_fault  σ w Q) : Met l yX12_fault wsX12_fault ({ frames := 0, cells := 0, slots := 0, locals := 0 } : Room) (va_Pc [.ref (ad 0)] (hB D cy (hC N ad (bY cy ad w) σ) sz)) (va_Qi (fun (r : Int32) (u : hSt) => Q r u) (hE D (fun u : hSt => hC N ad (bY cy ad w) u)) (hA N ad sz)) 0 0 (hA N ad sz) := by
  refine Met.ofW (cc := cX12_fault) (maxL := 1) (ret := (some .int)) (by decide) rfl ?_
  intro p e s m args below meth c s₁ B hml hv
  obtain ⟨rfl, hsz, hP, hK, hN1⟩ := hv
  have hx := B.exec
  have hb := B.bytes
  have hr := B.returns
  have hts := atoms_spec (ws := wsX12_fault) B.pre
  have hown : s.vm.findClass RX12 = some m.cls := findClass_of_methodNamed B.named
  have hlocks := B.notSynchronized
  subst hsz
  have hS : va_S (hA N ad s.heap.size) s.heap s.heap [] := va_S.rf
  have hiX12 : ∀ w ∈ wsX120, w ∈ wsX12_fault := fun _ h => List.mem_cons_of_mem _ (List.mem_append_right _ h)
  have hl := lv_entry ([.ref (ad 0)]) (n := 1) (Nat.le_of_ble_eq_true rfl)
  rw [lg_entry_eq]
  generalize (lg_sl ([.ref (ad 0)]) ++ List.replicate (1 - (lg_sl ([.ref (ad 0)])).length) Slot.unset).toArray = ls at hl ⊢
  have hl : lv_has ls 1 [(0, .ref (ad 0))] := hl
  unfold wp_X12_fault at hw
  refine lv_aload_n hx hb dX12_fault_0 rfl (lv_at hl 0 rfl) ?_
  refine lv_iconst (v := 0) hx hb dX12_fault_1 (by decide) ?_
  refine hw_put (x := (0 : Int32)) (j := 0) hx hb hts hiX12 tyX12 tyX12_ok nmX12 hown hK hJ0 hP hS (Nat.lt_of_lt_of_le (by decide) hN) (bY_0 _) rfl (by decide) (List.mem_of_getElem? (i := 1) rfl) rfl rfl rfl rfl (Nat.le_of_ble_eq_true rfl) (by rw [bY_0]; rfl) dX12_fault_2 (fun H locs hP hS => ?_)
  refine lv_aload_n hx hb dX12_fault_5 rfl (lv_at hl 0 rfl) ?_
  refine hw_get (v := .int ((hup σ 0 0 (0 : Int32)) 0 11)) hx hb hts hiX12 hown hK hP (Nat.lt_of_lt_of_le (by decide) hN) (bY_0 _) rfl 11 (by decide) (List.mem_of_getElem? (i := 2) rfl) rfl rfl dX12_fault_6 ?_
  exact hw_iret hx hb hr hlocks ((hup σ 0 0 (0 : Int32))) hw hP hS dX12_fault_9
set_option maxHeartbeats 4000000 in
set_option maxRecDepth 100000 in
theorem kc_X12_isTold (l : Launch) (D : va_G) (cy : Nat → ClassId) (N : Nat) (hN : 22 ≤ N) (ad : Nat → Nat) (hJ0 : hJ N ad) (w : Nat → Int64) (σ : hSt) (sz : Nat) (a1 : Int32) (Q : Int32 → Prop) (hw : wp_X12_isTold a1 σ w Q) : Met l yX12_isTold wsX12_isTold ({ frames := 0, cells := 0, slots := 0, locals := 0 } : Room) (va_Pc [.ref (ad 0), .int a1] (hB D cy (hC N ad (bY cy ad w) σ) sz)) (va_Qi (fun (r : Int32) (u : hSt) => u = σ ∧ Q r) (hE D (fun u : hSt => hC N ad (bY cy ad w) u)) (hA N ad sz)) 0 0 (hA N ad sz) := by
  refine Met.ofW (cc := cX12_isTold) (maxL := 2) (ret := (some .boolean)) (by decide) rfl ?_
  intro p e s m args below meth c s₁ B hml hv
  obtain ⟨rfl, hsz, hP, hK, hN1⟩ := hv
  have hx := B.exec
  have hb := B.bytes
  have hr := B.returns
  have hts := atoms_spec (ws := wsX12_isTold) B.pre
  have hown : s.vm.findClass RX12 = some m.cls := findClass_of_methodNamed B.named
  have hlocks := B.notSynchronized
  subst hsz
  have hS : va_S (hA N ad s.heap.size) s.heap s.heap [] := va_S.rf
  have hiX12 : ∀ w ∈ wsX120, w ∈ wsX12_isTold := fun _ h => List.mem_cons_of_mem _ (List.mem_append_right _ h)
  have hl := lv_entry ([.ref (ad 0), .int a1]) (n := 2) (Nat.le_of_ble_eq_true rfl)
  rw [lg_entry_eq]
  generalize (lg_sl ([.ref (ad 0), .int a1]) ++ List.replicate (2 - (lg_sl ([.ref (ad 0), .int a1])).length) Slot.unset).toArray = ls at hl ⊢
  have hl : lv_has ls 2 [(0, .ref (ad 0)), (1, .int a1)] := hl
  unfold wp_X12_isTold at hw
  refine lv_iload_n hx hb dX12_isTold_0 rfl (lv_at hl 1 rfl) ?_
  refine lv_if_lt (tgt := 23) hx hb dX12_isTold_1 (by decide) (fun c1 => ?_) (fun c1 => ?_)
  · have hw := hw.1 c1
    refine lv_iconst (v := 0) hx hb dX12_isTold_23 (by decide) ?_
    exact hw_zret hx hb hr hlocks hbo_0 (σ) ⟨rfl, hw⟩ hP hS dX12_isTold_24
  have hw := hw.2 c1
  refine lv_iload_n hx hb dX12_isTold_4 rfl (lv_at hl 1 rfl) ?_
  refine lv_bipush (v := 6) hx hb dX12_isTold_5 (by decide) ?_
  refine lv_icmp_ge (tgt := 23) hx hb dX12_isTold_7 (by decide) (fun c2 => ?_) (fun c2 => ?_)
  · have hw := hw.1 c2
    refine lv_iconst (v := 0) hx hb dX12_isTold_23 (by decide) ?_
    exact hw_zret hx hb hr hlocks hbo_0 (σ) ⟨rfl, hw⟩ hP hS dX12_isTold_24
  have hw := hw.2 c2
  refine lv_aload_n hx hb dX12_isTold_10 rfl (lv_at hl 0 rfl) ?_
  refine hw_get (v := .ref (ad 1)) hx hb hts hiX12 hown hK hP (Nat.lt_of_lt_of_le (by decide) hN) (bY_0 _) rfl 2 (by decide) (List.mem_of_getElem? (i := 1) rfl) rfl rfl dX12_isTold_11 ?_
  refine lv_iload_n hx hb dX12_isTold_14 rfl (lv_at hl 1 rfl) ?_
  obtain ⟨hi3, hw⟩ := hw
  refine hw_iald hx hb hK hP (Nat.lt_of_lt_of_le (by decide) hN) (bY_1 _) hi3 dX12_isTold_15 ?_
  refine lv_if_le (tgt := 23) hx hb dX12_isTold_16 (by decide) (fun c4 => ?_) (fun c4 => ?_)
  · have hw := hw.1 c4
    refine lv_iconst (v := 0) hx hb dX12_isTold_23 (by decide) ?_
    exact hw_zret hx hb hr hlocks hbo_0 (σ) ⟨rfl, hw⟩ hP hS dX12_isTold_24
  have hw := hw.2 c4
  refine lv_iconst (v := 1) hx hb dX12_isTold_19 (by decide) ?_
  refine lv_goto (tgt := 24) hx hb dX12_isTold_20 (by decide) ?_
  exact hw_zret hx hb hr hlocks hbo_1 (σ) ⟨rfl, hw⟩ hP hS dX12_isTold_24

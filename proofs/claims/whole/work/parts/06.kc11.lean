set_option maxHeartbeats 4000000 in
set_option maxRecDepth 100000 in
theorem kc_X12_ring (l : Launch) (D : va_G) (cy : Nat → ClassId) (N : Nat) (hN : 22 ≤ N) (ad : Nat → Nat) (hJ0 : hJ N ad) (w : Nat → Int64) (σ : hSt) (sz : Nat) (k1 : Nat) (hk1 : h8_ k1) (a2 : Int32) (Q : hSt → Prop) (hw : wp_X12_ring k1 a2 σ w Q) : Met l yX12_ring wsX12_ring ({ frames := 0, cells := 0, slots := 0, locals := 0 } : Room) (va_Pc [.ref (ad 0), .ref (ad k1), .int a2] (hB D cy (hC N ad (bY cy ad w) σ) sz)) (va_Qv (fun u : hSt => Q u) (hE D (fun u : hSt => hC N ad (bY cy ad w) u)) (hA N ad sz)) 0 0 (hA N ad sz) := by
  refine Met.ofW (cc := cX12_ring) (maxL := 5) (ret := none) (by decide) rfl ?_
  intro p e s m args below meth c s₁ B hml hv
  obtain ⟨rfl, hsz, hP, hK, hN1⟩ := hv
  have hx := B.exec
  have hb := B.bytes
  have hr := B.returns
  have hts := atoms_spec (ws := wsX12_ring) B.pre
  have hown : s.vm.findClass RX12 = some m.cls := findClass_of_methodNamed B.named
  have hlocks := B.notSynchronized
  subst hsz
  have hS : va_S (hA N ad s.heap.size) s.heap s.heap [] := va_S.rf
  have hiX12 : ∀ w ∈ wsX120, w ∈ wsX12_ring := fun _ h => List.mem_cons_of_mem _ (List.mem_append_right _ h)
  have hl := lv_entry ([.ref (ad 0), .ref (ad k1), .int a2]) (n := 5) (Nat.le_of_ble_eq_true rfl)
  rw [lg_entry_eq]
  generalize (lg_sl ([.ref (ad 0), .ref (ad k1), .int a2]) ++ List.replicate (5 - (lg_sl ([.ref (ad 0), .ref (ad k1), .int a2])).length) Slot.unset).toArray = ls at hl ⊢
  have hl : lv_has ls 5 [(0, .ref (ad 0)), (1, .ref (ad k1)), (2, .int a2)] := hl
  unfold wp_X12_ring at hw
  refine lv_iconst (v := 0) hx hb dX12_ring_0 (by decide) ?_
  refine lv_istore_n (lv' := [(3, .int (0 : Int32)), (0, .ref (ad 0)), (1, .ref (ad k1)), (2, .int a2)]) hx hb dX12_ring_1 rfl hl (by decide) rfl (fun ls hl => ?_)
  refine hw (fun (v3_1 : Int32) (σ2 : hSt) => ∀ (H : Heap) (locs : List Loc) (ls : Array Slot), va_P D vwCl (hC N ad (bY cy ad w) σ2) H → va_S (hA N ad s.heap.size) s.heap H locs → lv_has ls 5 [(0, .ref (ad 0)), (1, .ref (ad k1)), (2, .int a2), (3, .int v3_1)] → W p l e (headSpec wsX12_ring ({ frames := 0, cells := 0, slots := 0, locals := 0 } : Room)).room s m ([Value.ref (ad 0), Value.ref (ad k1), Value.int a2] : List Value).toArray below meth c H locs 0 0 (MQ below (va_Qv (fun u : hSt => Q u) (hE D (fun u : hSt => hC N ad (bY cy ad w) u)) (hA N ad s.heap.size)) ([Value.ref (ad 0), Value.ref (ad k1), Value.int a2] : List Value).toArray s 0 0 (hA N ad s.heap.size)) (F0 m 2 ls [])) (fun v3_1 σ2 hw H locs ls hP hS hl => ?_) _ _ _ hP hS (lv_sub hl [1, 2, 3, 0] rfl)
  refine lv_iload_n hx hb dX12_ring_2 rfl (lv_at hl 3 rfl) ?_
  refine lv_aload_n hx hb dX12_ring_3 rfl (lv_at hl 0 rfl) ?_
  refine hw_get (v := .int (σ2 0 1)) hx hb hts hiX12 hown hK hP (Nat.lt_of_lt_of_le (by decide) hN) (bY_0 _) rfl 1 (by decide) (List.mem_of_getElem? (i := 1) rfl) rfl rfl dX12_ring_4 ?_
  refine lv_icmp_ge (tgt := 51) hx hb dX12_ring_7 (by decide) (fun c3 => ?_) (fun c3 => ?_)
  · have hw := hw.1 c3
    exact hw_vret hx hb hr hlocks (σ2) hw hP hS dX12_ring_51
  have hw := hw.2 c3
  refine lv_iload_n hx hb dX12_ring_10 rfl (lv_at hl 2 rfl) ?_
  refine lv_iload_n hx hb dX12_ring_11 rfl (lv_at hl 3 rfl) ?_
  refine lv_ishr hx hb dX12_ring_12 ?_
  refine lv_iconst (v := 1) hx hb dX12_ring_13 (by decide) ?_
  refine lv_iand hx hb dX12_ring_14 ?_
  refine lv_iconst (v := 1) hx hb dX12_ring_15 (by decide) ?_
  refine lv_icmp_ne (tgt := 25) hx hb dX12_ring_16 (by decide) (fun c4 => ?_) (fun c4 => ?_)
  · have hw := hw.1 c4
    refine lv_aload_n hx hb dX12_ring_25 rfl (lv_at hl 1 rfl) ?_
    refine lv_iload_n hx hb dX12_ring_26 rfl (lv_at hl 3 rfl) ?_
    obtain ⟨hi5, hw⟩ := hw
    refine hw_iald hx hb hK hP (h8_lt hk1 hN) (bY_8 hk1 _) hi5 dX12_ring_27 ?_
    refine lv_topi (fun x4_6 ex4_6 => ?_)
    have hw := hw x4_6 ex4_6
    refine lv_istore (lv' := [(4, .int x4_6), (0, .ref (ad 0)), (1, .ref (ad k1)), (2, .int a2), (3, .int v3_1)]) hx hb dX12_ring_28 hl (by decide) rfl (fun ls hl => ?_)
    refine lv_aload_n hx hb dX12_ring_30 rfl (lv_at hl 2 rfl) ?_
    refine lv_iload_n hx hb dX12_ring_31 rfl (lv_at hl 4 rfl) ?_
    refine lv_aload_n hx hb dX12_ring_32 rfl (lv_at hl 2 rfl) ?_
    refine lv_iload_n hx hb dX12_ring_33 rfl (lv_at hl 4 rfl) ?_
    refine lv_iconst (v := 1) hx hb dX12_ring_34 (by decide) ?_
    refine lv_iadd hx hb dX12_ring_35 ?_
    obtain ⟨hi7, hw⟩ := hw
    refine hw_iald hx hb hK hP (h8_lt hk1 hN) (bY_8 hk1 _) hi7 dX12_ring_36 ?_
    obtain ⟨hi8, hw⟩ := hw
    refine hw_iast hx hb hK hJ0 hP hS (h8_lt hk1 hN) (fun ρ => bY_8 hk1 ρ) hi8 dX12_ring_37 (fun H locs hP hS => ?_)
    refine lv_aload_n hx hb dX12_ring_38 rfl (lv_at hl 2 rfl) ?_
    refine lv_iload_n hx hb dX12_ring_39 rfl (lv_at hl 4 rfl) ?_
    refine lv_iconst (v := 1) hx hb dX12_ring_40 (by decide) ?_
    refine lv_iadd hx hb dX12_ring_41 ?_
    refine lv_iload hx hb dX12_ring_42 (lv_at hl 0 rfl) ?_
    obtain ⟨hi9, hw⟩ := hw
    refine hw_iast hx hb hK hJ0 hP hS (h8_lt hk1 hN) (fun ρ => bY_8 hk1 ρ) hi9 dX12_ring_44 (fun H locs hP hS => ?_)
    obtain ⟨x3_10, ex3_10⟩ : ∃ z : Int32, z = v3_1 + (2 : Int32) := ⟨_, rfl⟩
    have hw := hw x3_10 ex3_10
    refine lv_iinc (v := x3_10) (lv' := [(3, .int x3_10), (4, .int x4_6), (0, .ref (ad 0)), (1, .ref (ad k1)), (2, .int a2)]) hx hb dX12_ring_45 hl (k := 4) rfl (by rw [ex3_10]; rfl) (by decide) rfl (fun ls hl => ?_)
    refine lv_goto (tgt := 2) hx hb dX12_ring_48 (by decide) ?_
    exact hw _ _ _ hP hS (lv_sub hl [2, 3, 4, 0] rfl)
  have hw := hw.2 c4
  obtain ⟨x3_11, ex3_11⟩ : ∃ z : Int32, z = v3_1 + (1 : Int32) := ⟨_, rfl⟩
  have hw := hw x3_11 ex3_11
  refine lv_iinc (v := x3_11) (lv' := [(3, .int x3_11), (0, .ref (ad 0)), (1, .ref (ad k1)), (2, .int a2)]) hx hb dX12_ring_19 hl (k := 3) rfl (by rw [ex3_11]; rfl) (by decide) rfl (fun ls hl => ?_)
  refine lv_goto (tgt := 2) hx hb dX12_ring_22 (by decide) ?_
  exact hw _ _ _ hP hS (lv_sub hl [1, 2, 3, 0] rfl)
set_option maxHeartbeats 4000000 in
set_option maxRecDepth 100000 in
theorem kc_X12_number (l : Launch) (D : va_G) (cy : Nat → ClassId) (N : Nat) (hN : 22 ≤ N) (ad : Nat → Nat) (hJ0 : hJ N ad) (w : Nat → Int64) (σ : hSt) (sz : Nat) (k1 : Nat) (hk1 : h8_ k1) (Q : Int32 → Prop) (hw : wp_X12_number k1 σ w Q) : Met l yX12_number wsX12_number ({ frames := 0, cells := 0, slots := 0, locals := 0 } : Room) (va_Pc [.ref (ad 0), .ref (ad k1)] (hB D cy (hC N ad (bY cy ad w) σ) sz)) (va_Qi (fun (r : Int32) (u : hSt) => u = σ ∧ Q r) (hE D (fun u : hSt => hC N ad (bY cy ad w) u)) (hA N ad sz)) 0 0 (hA N ad sz) := by
  refine Met.ofW (cc := cX12_number) (maxL := 4) (ret := (some .int)) (by decide) rfl ?_
  intro p e s m args below meth c s₁ B hml hv
  obtain ⟨rfl, hsz, hP, hK, hN1⟩ := hv
  have hx := B.exec
  have hb := B.bytes
  have hr := B.returns
  have hts := atoms_spec (ws := wsX12_number) B.pre
  have hown : s.vm.findClass RX12 = some m.cls := findClass_of_methodNamed B.named
  have hlocks := B.notSynchronized
  subst hsz
  have hS : va_S (hA N ad s.heap.size) s.heap s.heap [] := va_S.rf
  have hiX12 : ∀ w ∈ wsX120, w ∈ wsX12_number := fun _ h => List.mem_cons_of_mem _ (List.mem_append_right _ h)
  have hl := lv_entry ([.ref (ad 0), .ref (ad k1)]) (n := 4) (Nat.le_of_ble_eq_true rfl)
  rw [lg_entry_eq]
  generalize (lg_sl ([.ref (ad 0), .ref (ad k1)]) ++ List.replicate (4 - (lg_sl ([.ref (ad 0), .ref (ad k1)])).length) Slot.unset).toArray = ls at hl ⊢
  have hl : lv_has ls 4 [(0, .ref (ad 0)), (1, .ref (ad k1))] := hl
  unfold wp_X12_number at hw
  refine lv_iconst (v := 0) hx hb dX12_number_0 (by decide) ?_
  refine lv_istore_n (lv' := [(2, .int (0 : Int32)), (0, .ref (ad 0)), (1, .ref (ad k1))]) hx hb dX12_number_1 rfl hl (by decide) rfl (fun ls hl => ?_)
  refine lv_iconst (v := 0) hx hb dX12_number_2 (by decide) ?_
  refine lv_istore_n (lv' := [(3, .int (0 : Int32)), (2, .int (0 : Int32)), (0, .ref (ad 0)), (1, .ref (ad k1))]) hx hb dX12_number_3 rfl hl (by decide) rfl (fun ls hl => ?_)
  refine hw (fun (v2_1 : Int32) (v3_2 : Int32) => ∀ (H : Heap) (locs : List Loc) (ls : Array Slot), va_P D vwCl (hC N ad (bY cy ad w) σ) H → va_S (hA N ad s.heap.size) s.heap H locs → lv_has ls 4 [(0, .ref (ad 0)), (1, .ref (ad k1)), (2, .int v2_1), (3, .int v3_2)] → W p l e (headSpec wsX12_number ({ frames := 0, cells := 0, slots := 0, locals := 0 } : Room)).room s m ([Value.ref (ad 0), Value.ref (ad k1)] : List Value).toArray below meth c H locs 0 0 (MQ below (va_Qi (fun (r : Int32) (u : hSt) => u = σ ∧ Q r) (hE D (fun u : hSt => hC N ad (bY cy ad w) u)) (hA N ad s.heap.size)) ([Value.ref (ad 0), Value.ref (ad k1)] : List Value).toArray s 0 0 (hA N ad s.heap.size)) (F0 m 4 ls [])) (fun v2_1 v3_2 hw H locs ls hP hS hl => ?_) _ _ _ hP hS (lv_sub hl [2, 3, 1, 0] rfl)
  refine lv_iload_n hx hb dX12_number_4 rfl (lv_at hl 3 rfl) ?_
  refine lv_aload_n hx hb dX12_number_5 rfl (lv_at hl 0 rfl) ?_
  refine hw_get (v := .int (σ 0 1)) hx hb hts hiX12 hown hK hP (Nat.lt_of_lt_of_le (by decide) hN) (bY_0 _) rfl 1 (by decide) (List.mem_of_getElem? (i := 1) rfl) rfl rfl dX12_number_6 ?_
  refine lv_icmp_ge (tgt := 27) hx hb dX12_number_9 (by decide) (fun c3 => ?_) (fun c3 => ?_)
  · have hw := hw.1 c3
    refine lv_iload_n hx hb dX12_number_27 rfl (lv_at hl 2 rfl) ?_
    exact hw_iret hx hb hr hlocks (σ) ⟨rfl, hw⟩ hP hS dX12_number_28
  have hw := hw.2 c3
  refine lv_bipush (v := 10) hx hb dX12_number_12 (by decide) ?_
  refine lv_iload_n hx hb dX12_number_14 rfl (lv_at hl 2 rfl) ?_
  refine lv_imul hx hb dX12_number_15 ?_
  refine lv_aload_n hx hb dX12_number_16 rfl (lv_at hl 1 rfl) ?_
  refine lv_iload_n hx hb dX12_number_17 rfl (lv_at hl 3 rfl) ?_
  obtain ⟨hi4, hw⟩ := hw
  refine hw_iald hx hb hK hP (h8_lt hk1 hN) (bY_8 hk1 _) hi4 dX12_number_18 ?_
  refine lv_iadd hx hb dX12_number_19 ?_
  refine lv_topi (fun x2_5 ex2_5 => ?_)
  have hw := hw x2_5 ex2_5
  refine lv_istore_n (lv' := [(2, .int x2_5), (0, .ref (ad 0)), (1, .ref (ad k1)), (3, .int v3_2)]) hx hb dX12_number_20 rfl hl (by decide) rfl (fun ls hl => ?_)
  obtain ⟨x3_6, ex3_6⟩ : ∃ z : Int32, z = v3_2 + (1 : Int32) := ⟨_, rfl⟩
  have hw := hw x3_6 ex3_6
  refine lv_iinc (v := x3_6) (lv' := [(3, .int x3_6), (2, .int x2_5), (0, .ref (ad 0)), (1, .ref (ad k1))]) hx hb dX12_number_21 hl (k := 3) rfl (by rw [ex3_6]; rfl) (by decide) rfl (fun ls hl => ?_)
  refine lv_goto (tgt := 4) hx hb dX12_number_24 (by decide) ?_
  exact hw _ _ _ hP hS (lv_sub hl [2, 3, 1, 0] rfl)
set_option maxHeartbeats 4000000 in
set_option maxRecDepth 100000 in
theorem kc_X12_rank (l : Launch) (D : va_G) (cy : Nat → ClassId) (N : Nat) (hN : 22 ≤ N) (ad : Nat → Nat) (hJ0 : hJ N ad) (w : Nat → Int64) (σ : hSt) (sz : Nat) (k1 : Nat) (hk1 : h8_ k1) (Q : Int32 → Prop) (hw : wp_X12_rank k1 σ w Q) : Met l yX12_rank wsX12_rank ({ frames := 0, cells := 0, slots := 0, locals := 0 } : Room) (va_Pc [.ref (ad 0), .ref (ad k1)] (hB D cy (hC N ad (bY cy ad w) σ) sz)) (va_Qi (fun (r : Int32) (u : hSt) => u = σ ∧ Q r) (hE D (fun u : hSt => hC N ad (bY cy ad w) u)) (hA N ad sz)) 0 0 (hA N ad sz) := by
  refine Met.ofW (cc := cX12_rank) (maxL := 6) (ret := (some .int)) (by decide) rfl ?_
  intro p e s m args below meth c s₁ B hml hv
  obtain ⟨rfl, hsz, hP, hK, hN1⟩ := hv
  have hx := B.exec
  have hb := B.bytes
  have hr := B.returns
  have hts := atoms_spec (ws := wsX12_rank) B.pre
  have hown : s.vm.findClass RX12 = some m.cls := findClass_of_methodNamed B.named
  have hlocks := B.notSynchronized
  subst hsz
  have hS : va_S (hA N ad s.heap.size) s.heap s.heap [] := va_S.rf
  have hiX12 : ∀ w ∈ wsX120, w ∈ wsX12_rank := fun _ h => List.mem_cons_of_mem _ (List.mem_append_right _ h)
  have hl := lv_entry ([.ref (ad 0), .ref (ad k1)]) (n := 6) (Nat.le_of_ble_eq_true rfl)
  rw [lg_entry_eq]
  generalize (lg_sl ([.ref (ad 0), .ref (ad k1)]) ++ List.replicate (6 - (lg_sl ([.ref (ad 0), .ref (ad k1)])).length) Slot.unset).toArray = ls at hl ⊢
  have hl : lv_has ls 6 [(0, .ref (ad 0)), (1, .ref (ad k1))] := hl
  unfold wp_X12_rank at hw
  refine lv_iconst (v := 0) hx hb dX12_rank_0 (by decide) ?_
  refine lv_istore_n (lv' := [(2, .int (0 : Int32)), (0, .ref (ad 0)), (1, .ref (ad k1))]) hx hb dX12_rank_1 rfl hl (by decide) rfl (fun ls hl => ?_)
  refine lv_iconst (v := 0) hx hb dX12_rank_2 (by decide) ?_
  refine lv_istore_n (lv' := [(3, .int (0 : Int32)), (2, .int (0 : Int32)), (0, .ref (ad 0)), (1, .ref (ad k1))]) hx hb dX12_rank_3 rfl hl (by decide) rfl (fun ls hl => ?_)
  refine hw (fun (v2_1 : Int32) (v3_2 : Int32) => ∀ (H : Heap) (locs : List Loc) (ls : Array Slot), va_P D vwCl (hC N ad (bY cy ad w) σ) H → va_S (hA N ad s.heap.size) s.heap H locs → lv_has ls 6 [(0, .ref (ad 0)), (1, .ref (ad k1)), (2, .int v2_1), (3, .int v3_2)] → W p l e (headSpec wsX12_rank ({ frames := 0, cells := 0, slots := 0, locals := 0 } : Room)).room s m ([Value.ref (ad 0), Value.ref (ad k1)] : List Value).toArray below meth c H locs 0 0 (MQ below (va_Qi (fun (r : Int32) (u : hSt) => u = σ ∧ Q r) (hE D (fun u : hSt => hC N ad (bY cy ad w) u)) (hA N ad s.heap.size)) ([Value.ref (ad 0), Value.ref (ad k1)] : List Value).toArray s 0 0 (hA N ad s.heap.size)) (F0 m 4 ls [])) (fun v2_1 v3_2 hw H locs ls hP hS hl => ?_) _ _ _ hP hS (lv_sub hl [2, 3, 1, 0] rfl)
  refine lv_iload_n hx hb dX12_rank_4 rfl (lv_at hl 3 rfl) ?_
  refine lv_aload_n hx hb dX12_rank_5 rfl (lv_at hl 0 rfl) ?_
  refine hw_get (v := .int (σ 0 1)) hx hb hts hiX12 hown hK hP (Nat.lt_of_lt_of_le (by decide) hN) (bY_0 _) rfl 1 (by decide) (List.mem_of_getElem? (i := 1) rfl) rfl rfl dX12_rank_6 ?_
  refine lv_icmp_ge (tgt := 73) hx hb dX12_rank_9 (by decide) (fun c3 => ?_) (fun c3 => ?_)
  · have hw := hw.1 c3
    refine lv_iload_n hx hb dX12_rank_73 rfl (lv_at hl 2 rfl) ?_
    exact hw_iret hx hb hr hlocks (σ) ⟨rfl, hw⟩ hP hS dX12_rank_74
  have hw := hw.2 c3
  refine lv_iconst (v := 0) hx hb dX12_rank_12 (by decide) ?_
  refine lv_istore (lv' := [(4, .int (0 : Int32)), (0, .ref (ad 0)), (1, .ref (ad k1)), (2, .int v2_1), (3, .int v3_2)]) hx hb dX12_rank_13 hl (by decide) rfl (fun ls hl => ?_)
  refine lv_iload_n hx hb dX12_rank_15 rfl (lv_at hl 4 rfl) ?_
  refine lv_iconst (v := 1) hx hb dX12_rank_16 (by decide) ?_
  refine lv_iadd hx hb dX12_rank_17 ?_
  refine lv_topi (fun x5_4 ex5_4 => ?_)
  have hw := hw x5_4 ex5_4
  refine lv_istore (lv' := [(5, .int x5_4), (4, .int (0 : Int32)), (0, .ref (ad 0)), (1, .ref (ad k1)), (2, .int v2_1), (3, .int v3_2)]) hx hb dX12_rank_18 hl (by decide) rfl (fun ls hl => ?_)
  refine hw (fun (v4_5 : Int32) (v5_6 : Int32) => ∀ (H : Heap) (locs : List Loc) (ls : Array Slot), va_P D vwCl (hC N ad (bY cy ad w) σ) H → va_S (hA N ad s.heap.size) s.heap H locs → lv_has ls 6 [(0, .ref (ad 0)), (1, .ref (ad k1)), (2, .int v2_1), (3, .int v3_2), (4, .int v4_5), (5, .int v5_6)] → W p l e (headSpec wsX12_rank ({ frames := 0, cells := 0, slots := 0, locals := 0 } : Room)).room s m ([Value.ref (ad 0), Value.ref (ad k1)] : List Value).toArray below meth c H locs 0 0 (MQ below (va_Qi (fun (r : Int32) (u : hSt) => u = σ ∧ Q r) (hE D (fun u : hSt => hC N ad (bY cy ad w) u)) (hA N ad s.heap.size)) ([Value.ref (ad 0), Value.ref (ad k1)] : List Value).toArray s 0 0 (hA N ad s.heap.size)) (F0 m 20 ls [])) (fun v4_5 v5_6 hw H locs ls hP hS hl => ?_) _ _ _ hP hS (lv_sub hl [2, 3, 4, 5, 1, 0] rfl)
  refine lv_iload hx hb dX12_rank_20 (lv_at hl 5 rfl) ?_
  refine lv_aload_n hx hb dX12_rank_22 rfl (lv_at hl 0 rfl) ?_
  refine hw_get (v := .int (σ 0 1)) hx hb hts hiX12 hown hK hP (Nat.lt_of_lt_of_le (by decide) hN) (bY_0 _) rfl 1 (by decide) (List.mem_of_getElem? (i := 1) rfl) rfl rfl dX12_rank_23 ?_
  refine lv_icmp_ge (tgt := 55) hx hb dX12_rank_26 (by decide) (fun c7 => ?_) (fun c7 => ?_)
  · have hw := hw.1 c7
    refine lv_iload_n hx hb dX12_rank_55 rfl (lv_at hl 2 rfl) ?_
    refine lv_aload_n hx hb dX12_rank_56 rfl (lv_at hl 0 rfl) ?_
    refine hw_get (v := .int (σ 0 1)) hx hb hts hiX12 hown hK hP (Nat.lt_of_lt_of_le (by decide) hN) (bY_0 _) rfl 1 (by decide) (List.mem_of_getElem? (i := 1) rfl) rfl rfl dX12_rank_57 ?_
    refine lv_iload_n hx hb dX12_rank_60 rfl (lv_at hl 3 rfl) ?_
    refine lv_isub hx hb dX12_rank_61 ?_
    refine lv_imul hx hb dX12_rank_62 ?_
    refine lv_iload hx hb dX12_rank_63 (lv_at hl 4 rfl) ?_
    refine lv_iadd hx hb dX12_rank_65 ?_
    refine lv_topi (fun x2_8 ex2_8 => ?_)
    have hw := hw x2_8 ex2_8
    refine lv_istore_n (lv' := [(2, .int x2_8), (0, .ref (ad 0)), (1, .ref (ad k1)), (3, .int v3_2), (4, .int v4_5), (5, .int v5_6)]) hx hb dX12_rank_66 rfl hl (by decide) rfl (fun ls hl => ?_)
    obtain ⟨x3_9, ex3_9⟩ : ∃ z : Int32, z = v3_2 + (1 : Int32) := ⟨_, rfl⟩
    have hw := hw x3_9 ex3_9
    refine lv_iinc (v := x3_9) (lv' := [(3, .int x3_9), (2, .int x2_8), (0, .ref (ad 0)), (1, .ref (ad k1)), (4, .int v4_5), (5, .int v5_6)]) hx hb dX12_rank_67 hl (k := 3) rfl (by rw [ex3_9]; rfl) (by decide) rfl (fun ls hl => ?_)
    refine lv_goto (tgt := 4) hx hb dX12_rank_70 (by decide) ?_
    exact hw _ _ _ hP hS (lv_sub hl [2, 3, 1, 0] rfl)
  have hw := hw.2 c7
  refine lv_iload hx hb dX12_rank_29 (lv_at hl 4 rfl) ?_
  refine lv_aload_n hx hb dX12_rank_31 rfl (lv_at hl 1 rfl) ?_
  refine lv_iload hx hb dX12_rank_32 (lv_at hl 5 rfl) ?_
  obtain ⟨hi10, hw⟩ := hw
  refine hw_iald hx hb hK hP (h8_lt hk1 hN) (bY_8 hk1 _) hi10 dX12_rank_34 ?_
  refine lv_aload_n hx hb dX12_rank_35 rfl (lv_at hl 1 rfl) ?_
  refine lv_iload_n hx hb dX12_rank_36 rfl (lv_at hl 3 rfl) ?_
  obtain ⟨hi11, hw⟩ := hw
  refine hw_iald hx hb hK hP (h8_lt hk1 hN) (bY_8 hk1 _) hi11 dX12_rank_37 ?_
  refine lv_icmp_ge (tgt := 45) hx hb dX12_rank_38 (by decide) (fun c12 => ?_) (fun c12 => ?_)
  · have hw := hw.1 c12
    refine lv_iconst (v := 0) hx hb dX12_rank_45 (by decide) ?_
    refine lv_iadd hx hb dX12_rank_46 ?_
    refine lv_topi (fun x4_13 ex4_13 => ?_)
    have hw := hw x4_13 ex4_13
    refine lv_istore (lv' := [(4, .int x4_13), (0, .ref (ad 0)), (1, .ref (ad k1)), (2, .int v2_1), (3, .int v3_2), (5, .int v5_6)]) hx hb dX12_rank_47 hl (by decide) rfl (fun ls hl => ?_)
    obtain ⟨x5_14, ex5_14⟩ : ∃ z : Int32, z = v5_6 + (1 : Int32) := ⟨_, rfl⟩
    have hw := hw x5_14 ex5_14
    refine lv_iinc (v := x5_14) (lv' := [(5, .int x5_14), (4, .int x4_13), (0, .ref (ad 0)), (1, .ref (ad k1)), (2, .int v2_1), (3, .int v3_2)]) hx hb dX12_rank_49 hl (k := 5) rfl (by rw [ex5_14]; rfl) (by decide) rfl (fun ls hl => ?_)
    refine lv_goto (tgt := 20) hx hb dX12_rank_52 (by decide) ?_
    exact hw _ _ _ hP hS (lv_sub hl [2, 3, 4, 5, 1, 0] rfl)
  have hw := hw.2 c12
  refine lv_iconst (v := 1) hx hb dX12_rank_41 (by decide) ?_
  refine lv_goto (tgt := 46) hx hb dX12_rank_42 (by decide) ?_
  refine lv_iadd hx hb dX12_rank_46 ?_
  refine lv_topi (fun x4_15 ex4_15 => ?_)
  have hw := hw x4_15 ex4_15
  refine lv_istore (lv' := [(4, .int x4_15), (0, .ref (ad 0)), (1, .ref (ad k1)), (2, .int v2_1), (3, .int v3_2), (5, .int v5_6)]) hx hb dX12_rank_47 hl (by decide) rfl (fun ls hl => ?_)
  obtain ⟨x5_16, ex5_16⟩ : ∃ z : Int32, z = v5_6 + (1 : Int32) := ⟨_, rfl⟩
  have hw := hw x5_16 ex5_16
  refine lv_iinc (v := x5_16) (lv' := [(5, .int x5_16), (4, .int x4_15), (0, .ref (ad 0)), (1, .ref (ad k1)), (2, .int v2_1), (3, .int v3_2)]) hx hb dX12_rank_49 hl (k := 5) rfl (by rw [ex5_16]; rfl) (by decide) rfl (fun ls hl => ?_)
  refine lv_goto (tgt := 20) hx hb dX12_rank_52 (by decide) ?_
  exact hw _ _ _ hP hS (lv_sub hl [2, 3, 4, 5, 1, 0] rfl)
set_option maxHeartbeats 4000000 in
set_option maxRecDepth 100000 in
theorem kc_X12_last (l : Launch) (D : va_G) (cy : Nat → ClassId) (N : Nat) (hN : 22 ≤ N) (ad : Nat → Nat) (hJ0 : hJ N ad) (w : Nat → Int64) (σ : hSt) (sz : Nat) (a1 : Int32) (a2 : Int32) (Q : Int32 → Prop) (hw : wp_X12_last a1 a2 σ w Q) : Met l yX12_last wsX12_last ({ frames := 0, cells := 0, slots := 0, locals := 0 } : Room) (va_Pc [.ref (ad 0), .int a1, .int a2] (hB D cy (hC N ad (bY cy ad w) σ) sz)) (va_Qi (fun (r : Int32) (u : hSt) => u = σ ∧ Q r) (hE D (fun u : hSt => hC N ad (bY cy ad w) u)) (hA N ad sz)) 0 0 (hA N ad sz) := by
  refine Met.ofW (cc := cX12_last) (maxL := 3) (ret := (some .int)) (by decide) rfl ?_
  intro p e s m args below meth c s₁ B hml hv
  obtain ⟨rfl, hsz, hP, hK, hN1⟩ := hv
  have hx := B.exec
  have hb := B.bytes
  have hr := B.returns
  have hts := atoms_spec (ws := wsX12_last) B.pre
  have hown : s.vm.findClass RX12 = some m.cls := findClass_of_methodNamed B.named
  have hlocks := B.notSynchronized
  subst hsz
  have hS : va_S (hA N ad s.heap.size) s.heap s.heap [] := va_S.rf
  have hiX12 : ∀ w ∈ wsX120, w ∈ wsX12_last := fun _ h => List.mem_cons_of_mem _ (List.mem_append_right _ h)
  have hl := lv_entry ([.ref (ad 0), .int a1, .int a2]) (n := 3) (Nat.le_of_ble_eq_true rfl)
  rw [lg_entry_eq]
  generalize (lg_sl ([.ref (ad 0), .int a1, .int a2]) ++ List.replicate (3 - (lg_sl ([.ref (ad 0), .int a1, .int a2])).length) Slot.unset).toArray = ls at hl ⊢
  have hl : lv_has ls 3 [(0, .ref (ad 0)), (1, .int a1), (2, .int a2)] := hl
  unfold wp_X12_last at hw
  refine lv_aload_n hx hb dX12_last_0 rfl (lv_at hl 0 rfl) ?_
  refine hw_get (v := .ref (ad 2)) hx hb hts hiX12 hown hK hP (Nat.lt_of_lt_of_le (by decide) hN) (bY_0 _) rfl 3 (by decide) (List.mem_of_getElem? (i := 1) rfl) rfl rfl dX12_last_1 ?_
  refine lv_bipush (v := 66) hx hb dX12_last_4 (by decide) ?_
  refine lv_iload_n hx hb dX12_last_6 rfl (lv_at hl 1 rfl) ?_
  refine lv_imul hx hb dX12_last_7 ?_
  refine lv_iload_n hx hb dX12_last_8 rfl (lv_at hl 2 rfl) ?_
  refine lv_if_ne (tgt := 23) hx hb dX12_last_9 (by decide) (fun c1 => ?_) (fun c1 => ?_)
  · have hw := hw.1 c1
    refine lv_bipush (v := 63) hx hb dX12_last_23 (by decide) ?_
    refine lv_iload_n hx hb dX12_last_25 rfl (lv_at hl 2 rfl) ?_
    refine lv_iadd hx hb dX12_last_26 ?_
    refine lv_iadd hx hb dX12_last_27 ?_
    obtain ⟨hi2, hw⟩ := hw
    refine hw_iald hx hb hK hP (Nat.lt_of_lt_of_le (by decide) hN) (bY_2 _) hi2 dX12_last_28 ?_
    exact hw_iret hx hb hr hlocks (σ) ⟨rfl, hw⟩ hP hS dX12_last_29
  have hw := hw.2 c1
  refine lv_aload_n hx hb dX12_last_12 rfl (lv_at hl 0 rfl) ?_
  refine hw_get (v := .ref (ad 1)) hx hb hts hiX12 hown hK hP (Nat.lt_of_lt_of_le (by decide) hN) (bY_0 _) rfl 2 (by decide) (List.mem_of_getElem? (i := 2) rfl) rfl rfl dX12_last_13 ?_
  refine lv_iload_n hx hb dX12_last_16 rfl (lv_at hl 1 rfl) ?_
  obtain ⟨hi3, hw⟩ := hw
  refine hw_iald hx hb hK hP (Nat.lt_of_lt_of_le (by decide) hN) (bY_1 _) hi3 dX12_last_17 ?_
  refine lv_iconst (v := 1) hx hb dX12_last_18 (by decide) ?_
  refine lv_isub hx hb dX12_last_19 ?_
  refine lv_goto (tgt := 27) hx hb dX12_last_20 (by decide) ?_
  refine lv_iadd hx hb dX12_last_27 ?_
  obtain ⟨hi4, hw⟩ := hw
  refine hw_iald hx hb hK hP (Nat.lt_of_lt_of_le (by decide) hN) (bY_2 _) hi4 dX12_last_28 ?_
  exact hw_iret hx hb hr hlocks (σ) ⟨rfl, hw⟩ hP hS dX12_last_29
set_option maxHeartbeats 4000000 in
set_option maxRecDepth 100000 in
theorem kc_X12_ringLead (l : Launch) (D : va_G) (cy : Nat → ClassId) (N : Nat) (hN : 22 ≤ N) (ad : Nat → Nat) (hJ0 : hJ N ad) (w : Nat → Int64) (σ : hSt) (sz : Nat) (k1 : Nat) (hk1 : h8_ k1) (a2 : Int32) (a3 : Int32) (Q : hSt → Prop) (hw : wp_X12_ringLead k1 a2 a3 σ w Q) : Met l yX12_ringLead wsX12_ringLead ({ frames := 1, cells := 0, slots := 0, locals := 24 } : Room) (va_Pc [.ref (ad 0), .ref (ad k1), .int a2, .int a3] (hB D cy (hC N ad (bY cy ad w) σ) sz)) (va_Qv (fun u : hSt => Q u) (hE D (fun u : hSt => hC N ad (bY cy ad w) u)) (hA N ad sz)) 0 0 (hA N ad sz) := by
  refine Met.ofW (cc := cX12_ringLead) (maxL := 5) (ret := none) (by decide) rfl ?_
  intro p e s m args below meth c s₁ B hml hv
  obtain ⟨rfl, hsz, hP, hK, hN1⟩ := hv
  have hx := B.exec
  have hb := B.bytes
  have hr := B.returns
  have hts := atoms_spec (ws := wsX12_ringLead) B.pre
  have hown : s.vm.findClass RX12 = some m.cls := findClass_of_methodNamed B.named
  have hlocks := B.notSynchronized
  subst hsz
  have hS : va_S (hA N ad s.heap.size) s.heap s.heap [] := va_S.rf
  have hiX12 : ∀ w ∈ wsX120, w ∈ wsX12_ringLead := fun _ h => List.mem_cons_of_mem _ (List.mem_append_right _ h)
  have hl := lv_entry ([.ref (ad 0), .ref (ad k1), .int a2, .int a3]) (n := 5) (Nat.le_of_ble_eq_true rfl)
  rw [lg_entry_eq]
  generalize (lg_sl ([.ref (ad 0), .ref (ad k1), .int a2, .int a3]) ++ List.replicate (5 - (lg_sl ([.ref (ad 0), .ref (ad k1), .int a2, .int a3])).length) Slot.unset).toArray = ls at hl ⊢
  have hl : lv_has ls 5 [(0, .ref (ad 0)), (1, .ref (ad k1)), (2, .int a2), (3, .int a3)] := hl
  unfold wp_X12_ringLead at hw
  refine lv_iconst (v := 0) hx hb dX12_ringLead_0 (by decide) ?_
  refine lv_istore (lv' := [(4, .int (0 : Int32)), (0, .ref (ad 0)), (1, .ref (ad k1)), (2, .int a2), (3, .int a3)]) hx hb dX12_ringLead_1 hl (by decide) rfl (fun ls hl => ?_)
  refine hw (fun (v4_1 : Int32) (σ2 : hSt) => ∀ (H : Heap) (locs : List Loc) (ls : Array Slot), va_P D vwCl (hC N ad (bY cy ad w) σ2) H → va_S (hA N ad s.heap.size) s.heap H locs → lv_has ls 5 [(0, .ref (ad 0)), (1, .ref (ad k1)), (2, .int a2), (3, .int a3), (4, .int v4_1)] → W p l e (headSpec wsX12_ringLead ({ frames := 1, cells := 0, slots := 0, locals := 24 } : Room)).room s m ([Value.ref (ad 0), Value.ref (ad k1), Value.int a2, Value.int a3] : List Value).toArray below meth c H locs 0 0 (MQ below (va_Qv (fun u : hSt => Q u) (hE D (fun u : hSt => hC N ad (bY cy ad w) u)) (hA N ad s.heap.size)) ([Value.ref (ad 0), Value.ref (ad k1), Value.int a2, Value.int a3] : List Value).toArray s 0 0 (hA N ad s.heap.size)) (F0 m 3 ls [])) (fun v4_1 σ2 hw H locs ls hP hS hl => ?_) _ _ _ hP hS (lv_sub hl [1, 2, 3, 4, 0] rfl)
  refine lv_iload hx hb dX12_ringLead_3 (lv_at hl 4 rfl) ?_
  refine lv_iconst (v := 1) hx hb dX12_ringLead_5 (by decide) ?_
  refine lv_iadd hx hb dX12_ringLead_6 ?_
  refine lv_aload_n hx hb dX12_ringLead_7 rfl (lv_at hl 0 rfl) ?_
  refine hw_get (v := .ref (ad 1)) hx hb hts hiX12 hown hK hP (Nat.lt_of_lt_of_le (by decide) hN) (bY_0 _) rfl 2 (by decide) (List.mem_of_getElem? (i := 1) rfl) rfl rfl dX12_ringLead_8 ?_
  refine lv_iload_n hx hb dX12_ringLead_11 rfl (lv_at hl 2 rfl) ?_
  obtain ⟨hi3, hw⟩ := hw
  refine hw_iald hx hb hK hP (Nat.lt_of_lt_of_le (by decide) hN) (bY_1 _) hi3 dX12_ringLead_12 ?_
  refine lv_icmp_ge (tgt := 39) hx hb dX12_ringLead_13 (by decide) (fun c4 => ?_) (fun c4 => ?_)
  · have hw := hw.1 c4
    refine lv_aload_n hx hb dX12_ringLead_39 rfl (lv_at hl 0 rfl) ?_
    refine lv_aload_n hx hb dX12_ringLead_40 rfl (lv_at hl 1 rfl) ?_
    refine lv_aload_n hx hb dX12_ringLead_41 rfl (lv_at hl 0 rfl) ?_
    refine lv_iload_n hx hb dX12_ringLead_42 rfl (lv_at hl 2 rfl) ?_
    refine lv_iload_n hx hb dX12_ringLead_43 rfl (lv_at hl 3 rfl) ?_
    refine hw_ki (va_runV (As := [.int a2, .int a3]) (rest := [.ref (ad k1), .ref (ad 0)]) ⟨hx, hb, hml, hown, hts⟩ (kc_X12_last l D cy N hN ad hJ0 w σ2 _ a2 a3 _ hw) (cwV 2 hts gX12_ringLead_X12_last rfl rfl rfl (by decide +kernel) ⟨Nat.le_of_ble_eq_true rfl, Nat.le_of_ble_eq_true rfl⟩) (hw_preV hK hN1 hP (Nat.lt_of_lt_of_le (by decide) hN) (bY_0 _) rfl) rfl rfl hl.1 rfl (lv_room (Nat.le_of_ble_eq_true rfl)) dX12_ringLead_44 ⟨Nat.zero_le _, Nat.zero_le _⟩) hS (fun r6 σ5 H locs hw hP hS => ?_)
    obtain ⟨hu_, hw⟩ := hw
    rw [hu_] at hP
    refine hw_kv (va_runV (As := [.ref (ad k1), .int r6]) (rest := []) ⟨hx, hb, hml, hown, hts⟩ (kc_X12_ring l D cy N hN ad hJ0 w σ2 _ k1 hk1 r6 _ hw) (cwV 2 hts gX12_ringLead_X12_ring rfl rfl rfl (by decide +kernel) ⟨Nat.le_of_ble_eq_true rfl, Nat.le_of_ble_eq_true rfl⟩) (hw_preV hK hN1 hP (Nat.lt_of_lt_of_le (by decide) hN) (bY_0 _) rfl) rfl rfl hl.1 rfl (lv_room (Nat.le_of_ble_eq_true rfl)) dX12_ringLead_47 ⟨Nat.zero_le _, Nat.zero_le _⟩) hS (fun σ7 H locs hw hP hS => ?_)
    exact hw_vret hx hb hr hlocks (σ7) hw hP hS dX12_ringLead_50
  have hw := hw.2 c4
  refine lv_aload_n hx hb dX12_ringLead_16 rfl (lv_at hl 0 rfl) ?_
  refine lv_aload_n hx hb dX12_ringLead_17 rfl (lv_at hl 1 rfl) ?_
  refine lv_aload_n hx hb dX12_ringLead_18 rfl (lv_at hl 0 rfl) ?_
  refine hw_get (v := .ref (ad 2)) hx hb hts hiX12 hown hK hP (Nat.lt_of_lt_of_le (by decide) hN) (bY_0 _) rfl 3 (by decide) (List.mem_of_getElem? (i := 2) rfl) rfl rfl dX12_ringLead_19 ?_
  refine lv_bipush (v := 66) hx hb dX12_ringLead_22 (by decide) ?_
  refine lv_iload_n hx hb dX12_ringLead_24 rfl (lv_at hl 2 rfl) ?_
  refine lv_imul hx hb dX12_ringLead_25 ?_
  refine lv_iload hx hb dX12_ringLead_26 (lv_at hl 4 rfl) ?_
  refine lv_iadd hx hb dX12_ringLead_28 ?_
  obtain ⟨hi8, hw⟩ := hw
  refine hw_iald hx hb hK hP (Nat.lt_of_lt_of_le (by decide) hN) (bY_2 _) hi8 dX12_ringLead_29 ?_
  refine hw_kv (va_runV (As := [.ref (ad k1), .int (σ2 2 ((((66 : Int32) * a2) + v4_1)).toNatClampNeg)]) (rest := []) ⟨hx, hb, hml, hown, hts⟩ (kc_X12_ring l D cy N hN ad hJ0 w σ2 _ k1 hk1 (σ2 2 ((((66 : Int32) * a2) + v4_1)).toNatClampNeg) _ hw) (cwV 2 hts gX12_ringLead_X12_ring rfl rfl rfl (by decide +kernel) ⟨Nat.le_of_ble_eq_true rfl, Nat.le_of_ble_eq_true rfl⟩) (hw_preV hK hN1 hP (Nat.lt_of_lt_of_le (by decide) hN) (bY_0 _) rfl) rfl rfl hl.1 rfl (lv_room (Nat.le_of_ble_eq_true rfl)) dX12_ringLead_30 ⟨Nat.zero_le _, Nat.zero_le _⟩) hS (fun σ9 H locs hw hP hS => ?_)
  obtain ⟨x4_10, ex4_10⟩ : ∃ z : Int32, z = v4_1 + (1 : Int32) := ⟨_, rfl⟩
  have hw := hw x4_10 ex4_10
  refine lv_iinc (v := x4_10) (lv' := [(4, .int x4_10), (0, .ref (ad 0)), (1, .ref (ad k1)), (2, .int a2), (3, .int a3)]) hx hb dX12_ringLead_33 hl (k := 4) rfl (by rw [ex4_10]; rfl) (by decide) rfl (fun ls hl => ?_)
  refine lv_goto (tgt := 3) hx hb dX12_ringLead_36 (by decide) ?_
  exact hw _ _ _ hP hS (lv_sub hl [1, 2, 3, 4, 0] rfl)
set_option maxHeartbeats 4000000 in
set_option maxRecDepth 100000 in
theorem kc_X12_lead (l : Launch) (D : va_G) (cy : Nat → ClassId) (N : Nat) (hN : 22 ≤ N) (ad : Nat → Nat) (hJ0 : hJ N ad) (w : Nat → Int64) (σ : hSt) (sz : Nat) (a1 : Int32) (a2 : Int32) (Q : Int32 → hSt → Prop) (hw : wp_X12_lead a1 a2 σ w Q) : Met l yX12_lead wsX12_lead ({ frames := 1, cells := 0, slots := 0, locals := 24 } : Room) (va_Pc [.ref (ad 0), .int a1, .int a2] (hB D cy (hC N ad (bY cy ad w) σ) sz)) (va_Qi (fun (r : Int32) (u : hSt) => Q r u) (hE D (fun u : hSt => hC N ad (bY cy ad w) u)) (hA N ad sz)) 0 0 (hA N ad sz) := by
  refine Met.ofW (cc := cX12_lead) (maxL := 4) (ret := (some .int)) (by decide) rfl ?_
  intro p e s m args below meth c s₁ B hml hv
  obtain ⟨rfl, hsz, hP, hK, hN1⟩ := hv
  have hx := B.exec
  have hb := B.bytes
  have hr := B.returns
  have hts := atoms_spec (ws := wsX12_lead) B.pre
  have hown : s.vm.findClass RX12 = some m.cls := findClass_of_methodNamed B.named
  have hlocks := B.notSynchronized
  subst hsz
  have hS : va_S (hA N ad s.heap.size) s.heap s.heap [] := va_S.rf
  have hiX12 : ∀ w ∈ wsX120, w ∈ wsX12_lead := fun _ h => List.mem_cons_of_mem _ (List.mem_append_right _ h)
  have hl := lv_entry ([.ref (ad 0), .int a1, .int a2]) (n := 4) (Nat.le_of_ble_eq_true rfl)
  rw [lg_entry_eq]
  generalize (lg_sl ([.ref (ad 0), .int a1, .int a2]) ++ List.replicate (4 - (lg_sl ([.ref (ad 0), .int a1, .int a2])).length) Slot.unset).toArray = ls at hl ⊢
  have hl : lv_has ls 4 [(0, .ref (ad 0)), (1, .int a1), (2, .int a2)] := hl
  unfold wp_X12_lead at hw
  refine lv_aload_n hx hb dX12_lead_0 rfl (lv_at hl 0 rfl) ?_
  refine lv_aload_n hx hb dX12_lead_1 rfl (lv_at hl 0 rfl) ?_
  refine lv_iload_n hx hb dX12_lead_2 rfl (lv_at hl 1 rfl) ?_
  refine hw_ki (va_runV (As := [.int a1]) (rest := [.ref (ad 0)]) ⟨hx, hb, hml, hown, hts⟩ (kc_X12_isTold l D cy N hN ad hJ0 w σ _ a1 _ hw) (cwV 1 hts gX12_lead_X12_isTold rfl rfl rfl (by decide +kernel) ⟨Nat.le_of_ble_eq_true rfl, Nat.le_of_ble_eq_true rfl⟩) (hw_preV hK hN1 hP (Nat.lt_of_lt_of_le (by decide) hN) (bY_0 _) rfl) rfl rfl hl.1 rfl (lv_room (Nat.le_of_ble_eq_true rfl)) dX12_lead_3 ⟨Nat.zero_le _, Nat.zero_le _⟩) hS (fun r2 σ1 H locs hw hP hS => ?_)
  obtain ⟨hu_, hw⟩ := hw
  rw [hu_] at hP
  obtain ⟨J40, ehJ40, hw⟩ := hM_x hw
  have hJ40 : ∀ (z3 : Int32) (H : Heap) (locs : List Loc) (ls : Array Slot), J40 z3 → va_P D vwCl (hC N ad (bY cy ad w) σ) H → va_S (hA N ad s.heap.size) s.heap H locs → lv_has ls 4 [(0, .ref (ad 0)), (1, .int a1), (2, .int a2)] → W p l e (headSpec wsX12_lead ({ frames := 1, cells := 0, slots := 0, locals := 24 } : Room)).room s m ([Value.ref (ad 0), Value.int a1, Value.int a2] : List Value).toArray below meth c H locs 0 0 (MQ below (va_Qi (fun (r : Int32) (u : hSt) => Q r u) (hE D (fun u : hSt => hC N ad (bY cy ad w) u)) (hA N ad s.heap.size)) ([Value.ref (ad 0), Value.int a1, Value.int a2] : List Value).toArray s 0 0 (hA N ad s.heap.size)) (F0 m 40 ls [.int z3, .ref (ad 0)]) := by
    intro z3 H locs ls hw hP hS hl
    rw [ehJ40] at hw
    refine lv_iconst (v := 1) hx hb dX12_lead_40 (by decide) ?_
    refine hw_ki (va_runV (As := [.int z3, .int (1 : Int32)]) (rest := []) ⟨hx, hb, hml, hown, hts⟩ (kc_X12_throwsIf l D cy N hN ad hJ0 w σ _ z3 (1 : Int32) _ hw) (cwV 2 hts gX12_lead_X12_throwsIf rfl rfl rfl (by decide +kernel) ⟨Nat.le_of_ble_eq_true rfl, Nat.le_of_ble_eq_true rfl⟩) (hw_preV hK hN1 hP (Nat.lt_of_lt_of_le (by decide) hN) (bY_0 _) rfl) rfl rfl hl.1 rfl (lv_room (Nat.le_of_ble_eq_true rfl)) dX12_lead_41 ⟨Nat.zero_le _, Nat.zero_le _⟩) hS (fun r5 σ4 H locs hw hP hS => ?_)
    refine lv_if_eq (tgt := 49) hx hb dX12_lead_44 (by decide) (fun c6 => ?_) (fun c6 => ?_)
    · have hw := hw.1 c6
      refine lv_aload_n hx hb dX12_lead_49 rfl (lv_at hl 0 rfl) ?_
      refine lv_aload_n hx hb dX12_lead_50 rfl (lv_at hl 0 rfl) ?_
      refine hw_get (v := .ref (ad 14)) hx hb hts hiX12 hown hK hP (Nat.lt_of_lt_of_le (by decide) hN) (bY_0 _) rfl 24 (by decide) (List.mem_of_getElem? (i := 2) rfl) rfl rfl dX12_lead_51 ?_
      refine hw_kv (va_runV (As := [.ref (ad 14)]) (rest := []) ⟨hx, hb, hml, hown, hts⟩ (kc_X12_rounds l D cy N hN ad hJ0 w σ4 _ 14 h8_14 _ hw) (cwV 1 hts gX12_lead_X12_rounds rfl rfl rfl (by decide +kernel) ⟨Nat.le_of_ble_eq_true rfl, Nat.le_of_ble_eq_true rfl⟩) (hw_preV hK hN1 hP (Nat.lt_of_lt_of_le (by decide) hN) (bY_0 _) rfl) rfl rfl hl.1 rfl (lv_room (Nat.le_of_ble_eq_true rfl)) dX12_lead_54 ⟨Nat.zero_le _, Nat.zero_le _⟩) hS (fun σ7 H locs hw hP hS => ?_)
      refine lv_iconst (v := 0) hx hb dX12_lead_57 (by decide) ?_
      refine lv_istore_n (lv' := [(3, .int (0 : Int32)), (0, .ref (ad 0)), (1, .int a1), (2, .int a2)]) hx hb dX12_lead_58 rfl hl (by decide) rfl (fun ls hl => ?_)
      refine hw (fun (v3_8 : Int32) (σ9 : hSt) => ∀ (H : Heap) (locs : List Loc) (ls : Array Slot), va_P D vwCl (hC N ad (bY cy ad w) σ9) H → va_S (hA N ad s.heap.size) s.heap H locs → lv_has ls 4 [(0, .ref (ad 0)), (1, .int a1), (2, .int a2), (3, .int v3_8)] → W p l e (headSpec wsX12_lead ({ frames := 1, cells := 0, slots := 0, locals := 24 } : Room)).room s m ([Value.ref (ad 0), Value.int a1, Value.int a2] : List Value).toArray below meth c H locs 0 0 (MQ below (va_Qi (fun (r : Int32) (u : hSt) => Q r u) (hE D (fun u : hSt => hC N ad (bY cy ad w) u)) (hA N ad s.heap.size)) ([Value.ref (ad 0), Value.int a1, Value.int a2] : List Value).toArray s 0 0 (hA N ad s.heap.size)) (F0 m 59 ls [])) (fun v3_8 σ9 hw H locs ls hP hS hl => ?_) _ _ _ hP hS (lv_sub hl [1, 2, 3, 0] rfl)
      refine lv_iload_n hx hb dX12_lead_59 rfl (lv_at hl 3 rfl) ?_
      refine lv_iload_n hx hb dX12_lead_60 rfl (lv_at hl 2 rfl) ?_
      refine lv_icmp_ge (tgt := 89) hx hb dX12_lead_61 (by decide) (fun c10 => ?_) (fun c10 => ?_)
      · have hw := hw.1 c10
        refine lv_aload_n hx hb dX12_lead_89 rfl (lv_at hl 0 rfl) ?_
        refine lv_aload_n hx hb dX12_lead_90 rfl (lv_at hl 0 rfl) ?_
        refine hw_get (v := .ref (ad 14)) hx hb hts hiX12 hown hK hP (Nat.lt_of_lt_of_le (by decide) hN) (bY_0 _) rfl 24 (by decide) (List.mem_of_getElem? (i := 2) rfl) rfl rfl dX12_lead_91 ?_
        refine hw_ki (va_runV (As := [.ref (ad 14)]) (rest := []) ⟨hx, hb, hml, hown, hts⟩ (kc_X12_number l D cy N hN ad hJ0 w σ9 _ 14 h8_14 _ hw) (cwV 1 hts gX12_lead_X12_number rfl rfl rfl (by decide +kernel) ⟨Nat.le_of_ble_eq_true rfl, Nat.le_of_ble_eq_true rfl⟩) (hw_preV hK hN1 hP (Nat.lt_of_lt_of_le (by decide) hN) (bY_0 _) rfl) rfl rfl hl.1 rfl (lv_room (Nat.le_of_ble_eq_true rfl)) dX12_lead_94 ⟨Nat.zero_le _, Nat.zero_le _⟩) hS (fun r12 σ11 H locs hw hP hS => ?_)
        obtain ⟨hu_, hw⟩ := hw
        rw [hu_] at hP
        exact hw_iret hx hb hr hlocks (σ9) hw hP hS dX12_lead_97
      have hw := hw.2 c10
      refine lv_aload_n hx hb dX12_lead_64 rfl (lv_at hl 0 rfl) ?_
      refine lv_aload_n hx hb dX12_lead_65 rfl (lv_at hl 0 rfl) ?_
      refine hw_get (v := .ref (ad 14)) hx hb hts hiX12 hown hK hP (Nat.lt_of_lt_of_le (by decide) hN) (bY_0 _) rfl 24 (by decide) (List.mem_of_getElem? (i := 2) rfl) rfl rfl dX12_lead_66 ?_
      refine lv_aload_n hx hb dX12_lead_69 rfl (lv_at hl 0 rfl) ?_
      refine hw_get (v := .ref (ad 2)) hx hb hts hiX12 hown hK hP (Nat.lt_of_lt_of_le (by decide) hN) (bY_0 _) rfl 3 (by decide) (List.mem_of_getElem? (i := 3) rfl) rfl rfl dX12_lead_70 ?_
      refine lv_bipush (v := 66) hx hb dX12_lead_73 (by decide) ?_
      refine lv_iload_n hx hb dX12_lead_75 rfl (lv_at hl 1 rfl) ?_
      refine lv_imul hx hb dX12_lead_76 ?_
      refine lv_iload_n hx hb dX12_lead_77 rfl (lv_at hl 3 rfl) ?_
      refine lv_iadd hx hb dX12_lead_78 ?_
      obtain ⟨hi13, hw⟩ := hw
      refine hw_iald hx hb hK hP (Nat.lt_of_lt_of_le (by decide) hN) (bY_2 _) hi13 dX12_lead_79 ?_
      refine hw_kv (va_runV (As := [.ref (ad 14), .int (σ9 2 ((((66 : Int32) * a1) + v3_8)).toNatClampNeg)]) (rest := []) ⟨hx, hb, hml, hown, hts⟩ (kc_X12_ring l D cy N hN ad hJ0 w σ9 _ 14 h8_14 (σ9 2 ((((66 : Int32) * a1) + v3_8)).toNatClampNeg) _ hw) (cwV 2 hts gX12_lead_X12_ring rfl rfl rfl (by decide +kernel) ⟨Nat.le_of_ble_eq_true rfl, Nat.le_of_ble_eq_true rfl⟩) (hw_preV hK hN1 hP (Nat.lt_of_lt_of_le (by decide) hN) (bY_0 _) rfl) rfl rfl hl.1 rfl (lv_room (Nat.le_of_ble_eq_true rfl)) dX12_lead_80 ⟨Nat.zero_le _, Nat.zero_le _⟩) hS (fun σ14 H locs hw hP hS => ?_)
      obtain ⟨x3_15, ex3_15⟩ : ∃ z : Int32, z = v3_8 + (1 : Int32) := ⟨_, rfl⟩
      have hw := hw x3_15 ex3_15
      refine lv_iinc (v := x3_15) (lv' := [(3, .int x3_15), (0, .ref (ad 0)), (1, .int a1), (2, .int a2)]) hx hb dX12_lead_83 hl (k := 3) rfl (by rw [ex3_15]; rfl) (by decide) rfl (fun ls hl => ?_)
      refine lv_goto (tgt := 59) hx hb dX12_lead_86 (by decide) ?_
      exact hw _ _ _ hP hS (lv_sub hl [1, 2, 3, 0] rfl)
    have hw := hw.2 c6
    refine lv_iconst (v := 0) hx hb dX12_lead_47 (by decide) ?_
    exact hw_iret hx hb hr hlocks (σ4) hw hP hS dX12_lead_48
  obtain ⟨J35, ehJ35, hw⟩ := hM_x hw
  have hJ35 : ∀ (H : Heap) (locs : List Loc) (ls : Array Slot), J35 → va_P D vwCl (hC N ad (bY cy ad w) σ) H → va_S (hA N ad s.heap.size) s.heap H locs → lv_has ls 4 [(0, .ref (ad 0)), (1, .int a1), (2, .int a2)] → W p l e (headSpec wsX12_lead ({ frames := 1, cells := 0, slots := 0, locals := 24 } : Room)).room s m ([Value.ref (ad 0), Value.int a1, Value.int a2] : List Value).toArray below meth c H locs 0 0 (MQ below (va_Qi (fun (r : Int32) (u : hSt) => Q r u) (hE D (fun u : hSt => hC N ad (bY cy ad w) u)) (hA N ad s.heap.size)) ([Value.ref (ad 0), Value.int a1, Value.int a2] : List Value).toArray s 0 0 (hA N ad s.heap.size)) (F0 m 35 ls [.ref (ad 0)]) := by
    intro H locs ls hw hP hS hl
    rw [ehJ35] at hw
    refine lv_iconst (v := 1) hx hb dX12_lead_35 (by decide) ?_
    refine lv_goto (tgt := 40) hx hb dX12_lead_36 (by decide) ?_
    exact hJ40 _ _ _ _ hw hP hS (lv_sub hl [0, 1, 2] rfl)
  refine lv_if_eq (tgt := 35) hx hb dX12_lead_6 (by decide) (fun c16 => ?_) (fun c16 => ?_)
  · have hw := hw.1 c16
    exact hJ35  _ _ _ hw hP hS (lv_sub hl [0, 1, 2] rfl)
  have hw := hw.2 c16
  refine lv_iload_n hx hb dX12_lead_9 rfl (lv_at hl 2 rfl) ?_
  refine lv_if_lt (tgt := 35) hx hb dX12_lead_10 (by decide) (fun c17 => ?_) (fun c17 => ?_)
  · have hw := hw.1 c17
    exact hJ35  _ _ _ hw hP hS (lv_sub hl [0, 1, 2] rfl)
  have hw := hw.2 c17
  refine lv_iload_n hx hb dX12_lead_13 rfl (lv_at hl 2 rfl) ?_
  refine lv_aload_n hx hb dX12_lead_14 rfl (lv_at hl 0 rfl) ?_
  refine lv_iload_n hx hb dX12_lead_15 rfl (lv_at hl 1 rfl) ?_
  refine hw_ki (va_runV (As := [.int a1]) (rest := [.int a2, .ref (ad 0)]) ⟨hx, hb, hml, hown, hts⟩ (kc_X12_isTold l D cy N hN ad hJ0 w σ _ a1 _ hw) (cwV 1 hts gX12_lead_X12_isTold rfl rfl rfl (by decide +kernel) ⟨Nat.le_of_ble_eq_true rfl, Nat.le_of_ble_eq_true rfl⟩) (hw_preV hK hN1 hP (Nat.lt_of_lt_of_le (by decide) hN) (bY_0 _) rfl) rfl rfl hl.1 rfl (lv_room (Nat.le_of_ble_eq_true rfl)) dX12_lead_16 ⟨Nat.zero_le _, Nat.zero_le _⟩) hS (fun r19 σ18 H locs hw hP hS => ?_)
  obtain ⟨hu_, hw⟩ := hw
  rw [hu_] at hP
  obtain ⟨J32, ehJ32, hw⟩ := hM_x hw
  have hJ32 : ∀ (z20 : Int32) (H : Heap) (locs : List Loc) (ls : Array Slot), J32 z20 → va_P D vwCl (hC N ad (bY cy ad w) σ) H → va_S (hA N ad s.heap.size) s.heap H locs → lv_has ls 4 [(0, .ref (ad 0)), (1, .int a1), (2, .int a2)] → W p l e (headSpec wsX12_lead ({ frames := 1, cells := 0, slots := 0, locals := 24 } : Room)).room s m ([Value.ref (ad 0), Value.int a1, Value.int a2] : List Value).toArray below meth c H locs 0 0 (MQ below (va_Qi (fun (r : Int32) (u : hSt) => Q r u) (hE D (fun u : hSt => hC N ad (bY cy ad w) u)) (hA N ad s.heap.size)) ([Value.ref (ad 0), Value.int a1, Value.int a2] : List Value).toArray s 0 0 (hA N ad s.heap.size)) (F0 m 32 ls [.int z20, .int a2, .ref (ad 0)]) := by
    intro z20 H locs ls hw hP hS hl
    rw [ehJ32] at hw
    refine lv_icmp_le (tgt := 39) hx hb dX12_lead_32 (by decide) (fun c21 => ?_) (fun c21 => ?_)
    · have hw := hw.1 c21
      refine lv_iconst (v := 0) hx hb dX12_lead_39 (by decide) ?_
      exact hJ40 _ _ _ _ hw hP hS (lv_sub hl [0, 1, 2] rfl)
    have hw := hw.2 c21
    exact hJ35  _ _ _ hw hP hS (lv_sub hl [0, 1, 2] rfl)
  refine lv_if_eq (tgt := 31) hx hb dX12_lead_19 (by decide) (fun c22 => ?_) (fun c22 => ?_)
  · have hw := hw.1 c22
    refine lv_iconst (v := 0) hx hb dX12_lead_31 (by decide) ?_
    exact hJ32 _ _ _ _ hw hP hS (lv_sub hl [0, 1, 2] rfl)
  have hw := hw.2 c22
  refine lv_aload_n hx hb dX12_lead_22 rfl (lv_at hl 0 rfl) ?_
  refine hw_get (v := .ref (ad 1)) hx hb hts hiX12 hown hK hP (Nat.lt_of_lt_of_le (by decide) hN) (bY_0 _) rfl 2 (by decide) (List.mem_of_getElem? (i := 1) rfl) rfl rfl dX12_lead_23 ?_
  refine lv_iload_n hx hb dX12_lead_26 rfl (lv_at hl 1 rfl) ?_
  obtain ⟨hi23, hw⟩ := hw
  refine hw_iald hx hb hK hP (Nat.lt_of_lt_of_le (by decide) hN) (bY_1 _) hi23 dX12_lead_27 ?_
  refine lv_goto (tgt := 32) hx hb dX12_lead_28 (by decide) ?_
  exact hJ32 _ _ _ _ hw hP hS (lv_sub hl [0, 1, 2] rfl)
set_option maxHeartbeats 4000000 in
set_option maxRecDepth 100000 in
theorem kc_X12_head (l : Launch) (D : va_G) (cy : Nat → ClassId) (N : Nat) (hN : 22 ≤ N) (ad : Nat → Nat) (hJ0 : hJ N ad) (w : Nat → Int64) (σ : hSt) (sz : Nat) (a1 : Int32) (a2 : Int32) (Q : Int32 → hSt → Prop) (hw : wp_X12_head a1 a2 σ w Q) : Met l yX12_head wsX12_head ({ frames := 2, cells := 0, slots := 0, locals := 48 } : Room) (va_Pc [.ref (ad 0), .int a1, .int a2] (hB D cy (hC N ad (bY cy ad w) σ) sz)) (va_Qi (fun (r : Int32) (u : hSt) => Q r u) (hE D (fun u : hSt => hC N ad (bY cy ad w) u)) (hA N ad sz)) 0 0 (hA N ad sz) := by
  refine Met.ofW (cc := cX12_head) (maxL := 3) (ret := (some .int)) (by decide) rfl ?_
  intro p e s m args below meth c s₁ B hml hv
  obtain ⟨rfl, hsz, hP, hK, hN1⟩ := hv
  have hx := B.exec
  have hb := B.bytes
  have hr := B.returns
  have hts := atoms_spec (ws := wsX12_head) B.pre
  have hown : s.vm.findClass RX12 = some m.cls := findClass_of_methodNamed B.named
  have hlocks := B.notSynchronized
  subst hsz
  have hS : va_S (hA N ad s.heap.size) s.heap s.heap [] := va_S.rf
  have hiX12 : ∀ w ∈ wsX120, w ∈ wsX12_head := fun _ h => List.mem_cons_of_mem _ (List.mem_append_right _ h)
  have hl := lv_entry ([.ref (ad 0), .int a1, .int a2]) (n := 3) (Nat.le_of_ble_eq_true rfl)
  rw [lg_entry_eq]
  generalize (lg_sl ([.ref (ad 0), .int a1, .int a2]) ++ List.replicate (3 - (lg_sl ([.ref (ad 0), .int a1, .int a2])).length) Slot.unset).toArray = ls at hl ⊢
  have hl : lv_has ls 3 [(0, .ref (ad 0)), (1, .int a1), (2, .int a2)] := hl
  unfold wp_X12_head at hw
  refine lv_aload_n hx hb dX12_head_0 rfl (lv_at hl 0 rfl) ?_
  refine lv_aload_n hx hb dX12_head_1 rfl (lv_at hl 0 rfl) ?_
  refine lv_iload_n hx hb dX12_head_2 rfl (lv_at hl 1 rfl) ?_
  refine hw_ki (va_runV (As := [.int a1]) (rest := [.ref (ad 0)]) ⟨hx, hb, hml, hown, hts⟩ (kc_X12_isTold l D cy N hN ad hJ0 w σ _ a1 _ hw) (cwV 1 hts gX12_head_X12_isTold rfl rfl rfl (by decide +kernel) ⟨Nat.le_of_ble_eq_true rfl, Nat.le_of_ble_eq_true rfl⟩) (hw_preV hK hN1 hP (Nat.lt_of_lt_of_le (by decide) hN) (bY_0 _) rfl) rfl rfl hl.1 rfl (lv_room (Nat.le_of_ble_eq_true rfl)) dX12_head_3 ⟨Nat.zero_le _, Nat.zero_le _⟩) hS (fun r2 σ1 H locs hw hP hS => ?_)
  obtain ⟨hu_, hw⟩ := hw
  rw [hu_] at hP
  obtain ⟨J23, ehJ23, hw⟩ := hM_x hw
  have hJ23 : ∀ (z3 : Int32) (H : Heap) (locs : List Loc) (ls : Array Slot), J23 z3 → va_P D vwCl (hC N ad (bY cy ad w) σ) H → va_S (hA N ad s.heap.size) s.heap H locs → lv_has ls 3 [(0, .ref (ad 0)), (1, .int a1), (2, .int a2)] → W p l e (headSpec wsX12_head ({ frames := 2, cells := 0, slots := 0, locals := 48 } : Room)).room s m ([Value.ref (ad 0), Value.int a1, Value.int a2] : List Value).toArray below meth c H locs 0 0 (MQ below (va_Qi (fun (r : Int32) (u : hSt) => Q r u) (hE D (fun u : hSt => hC N ad (bY cy ad w) u)) (hA N ad s.heap.size)) ([Value.ref (ad 0), Value.int a1, Value.int a2] : List Value).toArray s 0 0 (hA N ad s.heap.size)) (F0 m 23 ls [.int z3, .ref (ad 0)]) := by
    intro z3 H locs ls hw hP hS hl
    rw [ehJ23] at hw
    refine lv_iconst (v := 1) hx hb dX12_head_23 (by decide) ?_
    refine hw_ki (va_runV (As := [.int z3, .int (1 : Int32)]) (rest := []) ⟨hx, hb, hml, hown, hts⟩ (kc_X12_throwsIf l D cy N hN ad hJ0 w σ _ z3 (1 : Int32) _ hw) (cwV 2 hts gX12_head_X12_throwsIf rfl rfl rfl (by decide +kernel) ⟨Nat.le_of_ble_eq_true rfl, Nat.le_of_ble_eq_true rfl⟩) (hw_preV hK hN1 hP (Nat.lt_of_lt_of_le (by decide) hN) (bY_0 _) rfl) rfl rfl hl.1 rfl (lv_room (Nat.le_of_ble_eq_true rfl)) dX12_head_24 ⟨Nat.zero_le _, Nat.zero_le _⟩) hS (fun r5 σ4 H locs hw hP hS => ?_)
    refine lv_if_eq (tgt := 32) hx hb dX12_head_27 (by decide) (fun c6 => ?_) (fun c6 => ?_)
    · have hw := hw.1 c6
      refine lv_aload_n hx hb dX12_head_32 rfl (lv_at hl 0 rfl) ?_
      refine lv_aload_n hx hb dX12_head_33 rfl (lv_at hl 0 rfl) ?_
      refine hw_get (v := .ref (ad 14)) hx hb hts hiX12 hown hK hP (Nat.lt_of_lt_of_le (by decide) hN) (bY_0 _) rfl 24 (by decide) (List.mem_of_getElem? (i := 1) rfl) rfl rfl dX12_head_34 ?_
      refine hw_kv (va_runV (As := [.ref (ad 14)]) (rest := []) ⟨hx, hb, hml, hown, hts⟩ (kc_X12_rounds l D cy N hN ad hJ0 w σ4 _ 14 h8_14 _ hw) (cwV 1 hts gX12_head_X12_rounds rfl rfl rfl (by decide +kernel) ⟨Nat.le_of_ble_eq_true rfl, Nat.le_of_ble_eq_true rfl⟩) (hw_preV hK hN1 hP (Nat.lt_of_lt_of_le (by decide) hN) (bY_0 _) rfl) rfl rfl hl.1 rfl (lv_room (Nat.le_of_ble_eq_true rfl)) dX12_head_37 ⟨Nat.zero_le _, Nat.zero_le _⟩) hS (fun σ7 H locs hw hP hS => ?_)
      refine lv_aload_n hx hb dX12_head_40 rfl (lv_at hl 0 rfl) ?_
      refine lv_aload_n hx hb dX12_head_41 rfl (lv_at hl 0 rfl) ?_
      refine hw_get (v := .ref (ad 14)) hx hb hts hiX12 hown hK hP (Nat.lt_of_lt_of_le (by decide) hN) (bY_0 _) rfl 24 (by decide) (List.mem_of_getElem? (i := 1) rfl) rfl rfl dX12_head_42 ?_
      refine lv_iload_n hx hb dX12_head_45 rfl (lv_at hl 1 rfl) ?_
      refine lv_iload_n hx hb dX12_head_46 rfl (lv_at hl 2 rfl) ?_
      refine hw_kv (va_runV (As := [.ref (ad 14), .int a1, .int a2]) (rest := []) ⟨hx, hb, hml, hown, hts⟩ (kc_X12_ringLead l D cy N hN ad hJ0 w σ7 _ 14 h8_14 a1 a2 _ hw) (cwV 3 hts gX12_head_X12_ringLead rfl rfl rfl (by decide +kernel) ⟨Nat.le_of_ble_eq_true rfl, Nat.le_of_ble_eq_true rfl⟩) (hw_preV hK hN1 hP (Nat.lt_of_lt_of_le (by decide) hN) (bY_0 _) rfl) rfl rfl hl.1 rfl (lv_room (Nat.le_of_ble_eq_true rfl)) dX12_head_47 ⟨Nat.zero_le _, Nat.zero_le _⟩) hS (fun σ8 H locs hw hP hS => ?_)
      refine lv_aload_n hx hb dX12_head_50 rfl (lv_at hl 0 rfl) ?_
      refine lv_aload_n hx hb dX12_head_51 rfl (lv_at hl 0 rfl) ?_
      refine hw_get (v := .ref (ad 14)) hx hb hts hiX12 hown hK hP (Nat.lt_of_lt_of_le (by decide) hN) (bY_0 _) rfl 24 (by decide) (List.mem_of_getElem? (i := 1) rfl) rfl rfl dX12_head_52 ?_
      refine hw_ki (va_runV (As := [.ref (ad 14)]) (rest := []) ⟨hx, hb, hml, hown, hts⟩ (kc_X12_number l D cy N hN ad hJ0 w σ8 _ 14 h8_14 _ hw) (cwV 1 hts gX12_head_X12_number rfl rfl rfl (by decide +kernel) ⟨Nat.le_of_ble_eq_true rfl, Nat.le_of_ble_eq_true rfl⟩) (hw_preV hK hN1 hP (Nat.lt_of_lt_of_le (by decide) hN) (bY_0 _) rfl) rfl rfl hl.1 rfl (lv_room (Nat.le_of_ble_eq_true rfl)) dX12_head_55 ⟨Nat.zero_le _, Nat.zero_le _⟩) hS (fun r10 σ9 H locs hw hP hS => ?_)
      obtain ⟨hu_, hw⟩ := hw
      rw [hu_] at hP
      exact hw_iret hx hb hr hlocks (σ8) hw hP hS dX12_head_58
    have hw := hw.2 c6
    refine lv_iconst (v := 0) hx hb dX12_head_30 (by decide) ?_
    exact hw_iret hx hb hr hlocks (σ4) hw hP hS dX12_head_31
  obtain ⟨J18, ehJ18, hw⟩ := hM_x hw
  have hJ18 : ∀ (H : Heap) (locs : List Loc) (ls : Array Slot), J18 → va_P D vwCl (hC N ad (bY cy ad w) σ) H → va_S (hA N ad s.heap.size) s.heap H locs → lv_has ls 3 [(0, .ref (ad 0)), (1, .int a1), (2, .int a2)] → W p l e (headSpec wsX12_head ({ frames := 2, cells := 0, slots := 0, locals := 48 } : Room)).room s m ([Value.ref (ad 0), Value.int a1, Value.int a2] : List Value).toArray below meth c H locs 0 0 (MQ below (va_Qi (fun (r : Int32) (u : hSt) => Q r u) (hE D (fun u : hSt => hC N ad (bY cy ad w) u)) (hA N ad s.heap.size)) ([Value.ref (ad 0), Value.int a1, Value.int a2] : List Value).toArray s 0 0 (hA N ad s.heap.size)) (F0 m 18 ls [.ref (ad 0)]) := by
    intro H locs ls hw hP hS hl
    rw [ehJ18] at hw
    refine lv_iconst (v := 1) hx hb dX12_head_18 (by decide) ?_
    refine lv_goto (tgt := 23) hx hb dX12_head_19 (by decide) ?_
    exact hJ23 _ _ _ _ hw hP hS (lv_sub hl [0, 1, 2] rfl)
  refine lv_if_eq (tgt := 18) hx hb dX12_head_6 (by decide) (fun c11 => ?_) (fun c11 => ?_)
  · have hw := hw.1 c11
    exact hJ18  _ _ _ hw hP hS (lv_sub hl [0, 1, 2] rfl)
  have hw := hw.2 c11
  refine lv_iload_n hx hb dX12_head_9 rfl (lv_at hl 2 rfl) ?_
  refine lv_if_lt (tgt := 18) hx hb dX12_head_10 (by decide) (fun c12 => ?_) (fun c12 => ?_)
  · have hw := hw.1 c12
    exact hJ18  _ _ _ hw hP hS (lv_sub hl [0, 1, 2] rfl)
  have hw := hw.2 c12
  refine lv_iload_n hx hb dX12_head_13 rfl (lv_at hl 2 rfl) ?_
  refine lv_iconst (v := 2) hx hb dX12_head_14 (by decide) ?_
  refine lv_icmp_le (tgt := 22) hx hb dX12_head_15 (by decide) (fun c13 => ?_) (fun c13 => ?_)
  · have hw := hw.1 c13
    refine lv_iconst (v := 0) hx hb dX12_head_22 (by decide) ?_
    exact hJ23 _ _ _ _ hw hP hS (lv_sub hl [0, 1, 2] rfl)
  have hw := hw.2 c13
  exact hJ18  _ _ _ hw hP hS (lv_sub hl [0, 1, 2] rfl)
set_option maxHeartbeats 4000000 in
set_option maxRecDepth 100000 in
theorem kc_X12_courseOf (l : Launch) (D : va_G) (cy : Nat → ClassId) (N : Nat) (hN : 22 ≤ N) (ad : Nat → Nat) (hJ0 : hJ N ad) (w : Nat → Int64) (σ : hSt) (sz : Nat) (a1 : Int32) (Q : Int32 → hSt → Prop) (hw : wp_X12_courseOf a1 σ w Q) : Met l yX12_courseOf wsX12_courseOf ({ frames := 2, cells := 0, slots := 0, locals := 48 } : Room) (va_Pc [.ref (ad 0), .int a1] (hB D cy (hC N ad (bY cy ad w) σ) sz)) (va_Qi (fun (r : Int32) (u : hSt) => Q r u) (hE D (fun u : hSt => hC N ad (bY cy ad w) u)) (hA N ad sz)) 0 0 (hA N ad sz) := by
  refine Met.ofW (cc := cX12_courseOf) (maxL := 3) (ret := (some .int)) (by decide) rfl ?_
  intro p e s m args below meth c s₁ B hml hv
  obtain ⟨rfl, hsz, hP, hK, hN1⟩ := hv
  have hx := B.exec
  have hb := B.bytes
  have hr := B.returns
  have hts := atoms_spec (ws := wsX12_courseOf) B.pre
  have hown : s.vm.findClass RX12 = some m.cls := findClass_of_methodNamed B.named
  have hlocks := B.notSynchronized
  subst hsz
  have hS : va_S (hA N ad s.heap.size) s.heap s.heap [] := va_S.rf
  have hiX12 : ∀ w ∈ wsX120, w ∈ wsX12_courseOf := fun _ h => List.mem_cons_of_mem _ (List.mem_append_right _ h)
  have hl := lv_entry ([.ref (ad 0), .int a1]) (n := 3) (Nat.le_of_ble_eq_true rfl)
  rw [lg_entry_eq]
  generalize (lg_sl ([.ref (ad 0), .int a1]) ++ List.replicate (3 - (lg_sl ([.ref (ad 0), .int a1])).length) Slot.unset).toArray = ls at hl ⊢
  have hl : lv_has ls 3 [(0, .ref (ad 0)), (1, .int a1)] := hl
  unfold wp_X12_courseOf at hw
  refine lv_aload_n hx hb dX12_courseOf_0 rfl (lv_at hl 0 rfl) ?_
  refine lv_aload_n hx hb dX12_courseOf_1 rfl (lv_at hl 0 rfl) ?_
  refine hw_get (v := .ref (ad 14)) hx hb hts hiX12 hown hK hP (Nat.lt_of_lt_of_le (by decide) hN) (bY_0 _) rfl 24 (by decide) (List.mem_of_getElem? (i := 1) rfl) rfl rfl dX12_courseOf_2 ?_
  refine hw_kv (va_runV (As := [.ref (ad 14)]) (rest := []) ⟨hx, hb, hml, hown, hts⟩ (kc_X12_rounds l D cy N hN ad hJ0 w σ _ 14 h8_14 _ hw) (cwV 1 hts gX12_courseOf_X12_rounds rfl rfl rfl (by decide +kernel) ⟨Nat.le_of_ble_eq_true rfl, Nat.le_of_ble_eq_true rfl⟩) (hw_preV hK hN1 hP (Nat.lt_of_lt_of_le (by decide) hN) (bY_0 _) rfl) rfl rfl hl.1 rfl (lv_room (Nat.le_of_ble_eq_true rfl)) dX12_courseOf_5 ⟨Nat.zero_le _, Nat.zero_le _⟩) hS (fun σ1 H locs hw hP hS => ?_)
  refine lv_iconst (v := 0) hx hb dX12_courseOf_8 (by decide) ?_
  refine lv_istore_n (lv' := [(2, .int (0 : Int32)), (0, .ref (ad 0)), (1, .int a1)]) hx hb dX12_courseOf_9 rfl hl (by decide) rfl (fun ls hl => ?_)
  refine hw (fun (v2_2 : Int32) (σ3 : hSt) => ∀ (H : Heap) (locs : List Loc) (ls : Array Slot), va_P D vwCl (hC N ad (bY cy ad w) σ3) H → va_S (hA N ad s.heap.size) s.heap H locs → lv_has ls 3 [(0, .ref (ad 0)), (1, .int a1), (2, .int v2_2)] → W p l e (headSpec wsX12_courseOf ({ frames := 2, cells := 0, slots := 0, locals := 48 } : Room)).room s m ([Value.ref (ad 0), Value.int a1] : List Value).toArray below meth c H locs 0 0 (MQ below (va_Qi (fun (r : Int32) (u : hSt) => Q r u) (hE D (fun u : hSt => hC N ad (bY cy ad w) u)) (hA N ad s.heap.size)) ([Value.ref (ad 0), Value.int a1] : List Value).toArray s 0 0 (hA N ad s.heap.size)) (F0 m 10 ls [])) (fun v2_2 σ3 hw H locs ls hP hS hl => ?_) _ _ _ hP hS (lv_sub hl [1, 2, 0] rfl)
  refine lv_aload_n hx hb dX12_courseOf_10 rfl (lv_at hl 0 rfl) ?_
  refine lv_aload_n hx hb dX12_courseOf_11 rfl (lv_at hl 0 rfl) ?_
  refine hw_get (v := .ref (ad 14)) hx hb hts hiX12 hown hK hP (Nat.lt_of_lt_of_le (by decide) hN) (bY_0 _) rfl 24 (by decide) (List.mem_of_getElem? (i := 1) rfl) rfl rfl dX12_courseOf_12 ?_
  refine lv_iload_n hx hb dX12_courseOf_15 rfl (lv_at hl 1 rfl) ?_
  refine lv_iconst (v := 0) hx hb dX12_courseOf_16 (by decide) ?_
  refine hw_kv (va_runV (As := [.ref (ad 14), .int a1, .int (0 : Int32)]) (rest := []) ⟨hx, hb, hml, hown, hts⟩ (kc_X12_ringLead l D cy N hN ad hJ0 w σ3 _ 14 h8_14 a1 (0 : Int32) _ hw) (cwV 3 hts gX12_courseOf_X12_ringLead rfl rfl rfl (by decide +kernel) ⟨Nat.le_of_ble_eq_true rfl, Nat.le_of_ble_eq_true rfl⟩) (hw_preV hK hN1 hP (Nat.lt_of_lt_of_le (by decide) hN) (bY_0 _) rfl) rfl rfl hl.1 rfl (lv_room (Nat.le_of_ble_eq_true rfl)) dX12_courseOf_17 ⟨Nat.zero_le _, Nat.zero_le _⟩) hS (fun σ4 H locs hw hP hS => ?_)
  obtain ⟨x2_5, ex2_5⟩ : ∃ z : Int32, z = v2_2 + (1 : Int32) := ⟨_, rfl⟩
  have hw := hw x2_5 ex2_5
  refine lv_iinc (v := x2_5) (lv' := [(2, .int x2_5), (0, .ref (ad 0)), (1, .int a1)]) hx hb dX12_courseOf_20 hl (k := 2) rfl (by rw [ex2_5]; rfl) (by decide) rfl (fun ls hl => ?_)
  refine lv_aload_n hx hb dX12_courseOf_23 rfl (lv_at hl 1 rfl) ?_
  refine lv_aload_n hx hb dX12_courseOf_24 rfl (lv_at hl 1 rfl) ?_
  refine hw_get (v := .ref (ad 14)) hx hb hts hiX12 hown hK hP (Nat.lt_of_lt_of_le (by decide) hN) (bY_0 _) rfl 24 (by decide) (List.mem_of_getElem? (i := 1) rfl) rfl rfl dX12_courseOf_25 ?_
  refine hw_ki (va_runV (As := [.ref (ad 14)]) (rest := []) ⟨hx, hb, hml, hown, hts⟩ (kc_X12_isRounds l D cy N hN ad hJ0 w σ4 _ 14 h8_14 _ hw) (cwV 1 hts gX12_courseOf_X12_isRounds rfl rfl rfl (by decide +kernel) ⟨Nat.le_of_ble_eq_true rfl, Nat.le_of_ble_eq_true rfl⟩) (hw_preV hK hN1 hP (Nat.lt_of_lt_of_le (by decide) hN) (bY_0 _) rfl) rfl rfl hl.1 rfl (lv_room (Nat.le_of_ble_eq_true rfl)) dX12_courseOf_28 ⟨Nat.zero_le _, Nat.zero_le _⟩) hS (fun r7 σ6 H locs hw hP hS => ?_)
  obtain ⟨hu_, hw⟩ := hw
  rw [hu_] at hP
  refine lv_if_eq (tgt := 10) hx hb dX12_courseOf_31 (by decide) (fun c8 => ?_) (fun c8 => ?_)
  · have hw := hw.1 c8
    exact hw _ _ _ hP hS (lv_sub hl [1, 2, 0] rfl)
  have hw := hw.2 c8
  refine lv_iload_n hx hb dX12_courseOf_34 rfl (lv_at hl 0 rfl) ?_
  exact hw_iret hx hb hr hlocks (σ4) hw hP hS dX12_courseOf_35
set_option maxHeartbeats 4000000 in
set_option maxRecDepth 100000 in
theorem kc_X12_course (l : Launch) (D : va_G) (cy : Nat → ClassId) (N : Nat) (hN : 22 ≤ N) (ad : Nat → Nat) (hJ0 : hJ N ad) (w : Nat → Int64) (σ : hSt) (sz : Nat) (a1 : Int32) (Q : Int32 → hSt → Prop) (hw : wp_X12_course a1 σ w Q) : Met l yX12_course wsX12_course ({ frames := 3, cells := 0, slots := 0, locals := 70 } : Room) (va_Pc [.ref (ad 0), .int a1] (hB D cy (hC N ad (bY cy ad w) σ) sz)) (va_Qi (fun (r : Int32) (u : hSt) => Q r u) (hE D (fun u : hSt => hC N ad (bY cy ad w) u)) (hA N ad sz)) 0 0 (hA N ad sz) := by
  refine Met.ofW (cc := cX12_course) (maxL := 2) (ret := (some .int)) (by decide) rfl ?_
  intro p e s m args below meth c s₁ B hml hv
  obtain ⟨rfl, hsz, hP, hK, hN1⟩ := hv
  have hx := B.exec
  have hb := B.bytes
  have hr := B.returns
  have hts := atoms_spec (ws := wsX12_course) B.pre
  have hown : s.vm.findClass RX12 = some m.cls := findClass_of_methodNamed B.named
  have hlocks := B.notSynchronized
  subst hsz
  have hS : va_S (hA N ad s.heap.size) s.heap s.heap [] := va_S.rf
  have hl := lv_entry ([.ref (ad 0), .int a1]) (n := 2) (Nat.le_of_ble_eq_true rfl)
  rw [lg_entry_eq]
  generalize (lg_sl ([.ref (ad 0), .int a1]) ++ List.replicate (2 - (lg_sl ([.ref (ad 0), .int a1])).length) Slot.unset).toArray = ls at hl ⊢
  have hl : lv_has ls 2 [(0, .ref (ad 0)), (1, .int a1)] := hl
  unfold wp_X12_course at hw
  refine lv_aload_n hx hb dX12_course_0 rfl (lv_at hl 0 rfl) ?_
  refine lv_aload_n hx hb dX12_course_1 rfl (lv_at hl 0 rfl) ?_
  refine lv_iload_n hx hb dX12_course_2 rfl (lv_at hl 1 rfl) ?_
  refine hw_ki (va_runV (As := [.int a1]) (rest := [.ref (ad 0)]) ⟨hx, hb, hml, hown, hts⟩ (kc_X12_isTold l D cy N hN ad hJ0 w σ _ a1 _ hw) (cwV 1 hts gX12_course_X12_isTold rfl rfl rfl (by decide +kernel) ⟨Nat.le_of_ble_eq_true rfl, Nat.le_of_ble_eq_true rfl⟩) (hw_preV hK hN1 hP (Nat.lt_of_lt_of_le (by decide) hN) (bY_0 _) rfl) rfl rfl hl.1 rfl (lv_room (Nat.le_of_ble_eq_true rfl)) dX12_course_3 ⟨Nat.zero_le _, Nat.zero_le _⟩) hS (fun r2 σ1 H locs hw hP hS => ?_)
  obtain ⟨hu_, hw⟩ := hw
  rw [hu_] at hP
  obtain ⟨J14, ehJ14, hw⟩ := hM_x hw
  have hJ14 : ∀ (z3 : Int32) (H : Heap) (locs : List Loc) (ls : Array Slot), J14 z3 → va_P D vwCl (hC N ad (bY cy ad w) σ) H → va_S (hA N ad s.heap.size) s.heap H locs → lv_has ls 2 [(0, .ref (ad 0)), (1, .int a1)] → W p l e (headSpec wsX12_course ({ frames := 3, cells := 0, slots := 0, locals := 70 } : Room)).room s m ([Value.ref (ad 0), Value.int a1] : List Value).toArray below meth c H locs 0 0 (MQ below (va_Qi (fun (r : Int32) (u : hSt) => Q r u) (hE D (fun u : hSt => hC N ad (bY cy ad w) u)) (hA N ad s.heap.size)) ([Value.ref (ad 0), Value.int a1] : List Value).toArray s 0 0 (hA N ad s.heap.size)) (F0 m 14 ls [.int z3, .ref (ad 0)]) := by
    intro z3 H locs ls hw hP hS hl
    rw [ehJ14] at hw
    refine lv_iconst (v := 1) hx hb dX12_course_14 (by decide) ?_
    refine hw_ki (va_runV (As := [.int z3, .int (1 : Int32)]) (rest := []) ⟨hx, hb, hml, hown, hts⟩ (kc_X12_throwsIf l D cy N hN ad hJ0 w σ _ z3 (1 : Int32) _ hw) (cwV 2 hts gX12_course_X12_throwsIf rfl rfl rfl (by decide +kernel) ⟨Nat.le_of_ble_eq_true rfl, Nat.le_of_ble_eq_true rfl⟩) (hw_preV hK hN1 hP (Nat.lt_of_lt_of_le (by decide) hN) (bY_0 _) rfl) rfl rfl hl.1 rfl (lv_room (Nat.le_of_ble_eq_true rfl)) dX12_course_15 ⟨Nat.zero_le _, Nat.zero_le _⟩) hS (fun r5 σ4 H locs hw hP hS => ?_)
    refine lv_if_eq (tgt := 25) hx hb dX12_course_18 (by decide) (fun c6 => ?_) (fun c6 => ?_)
    · have hw := hw.1 c6
      refine lv_aload_n hx hb dX12_course_25 rfl (lv_at hl 0 rfl) ?_
      refine lv_iload_n hx hb dX12_course_26 rfl (lv_at hl 1 rfl) ?_
      refine hw_ki (va_runV (As := [.int a1]) (rest := []) ⟨hx, hb, hml, hown, hts⟩ (kc_X12_courseOf l D cy N hN ad hJ0 w σ4 _ a1 _ hw) (cwV 1 hts gX12_course_X12_courseOf rfl rfl rfl (by decide +kernel) ⟨Nat.le_of_ble_eq_true rfl, Nat.le_of_ble_eq_true rfl⟩) (hw_preV hK hN1 hP (Nat.lt_of_lt_of_le (by decide) hN) (bY_0 _) rfl) rfl rfl hl.1 rfl (lv_room (Nat.le_of_ble_eq_true rfl)) dX12_course_27 ⟨Nat.zero_le _, Nat.zero_le _⟩) hS (fun r8 σ7 H locs hw hP hS => ?_)
      exact hw_iret hx hb hr hlocks (σ7) hw hP hS dX12_course_30
    have hw := hw.2 c6
    refine lv_iconst (v := 0) hx hb dX12_course_21 (by decide) ?_
    refine lv_goto (tgt := 30) hx hb dX12_course_22 (by decide) ?_
    exact hw_iret hx hb hr hlocks (σ4) hw hP hS dX12_course_30
  refine lv_if_ne (tgt := 13) hx hb dX12_course_6 (by decide) (fun c9 => ?_) (fun c9 => ?_)
  · have hw := hw.1 c9
    refine lv_iconst (v := 0) hx hb dX12_course_13 (by decide) ?_
    exact hJ14 _ _ _ _ hw hP hS (lv_sub hl [0, 1] rfl)
  have hw := hw.2 c9
  refine lv_iconst (v := 1) hx hb dX12_course_9 (by decide) ?_
  refine lv_goto (tgt := 14) hx hb dX12_course_10 (by decide) ?_
  exact hJ14 _ _ _ _ hw hP hS (lv_sub hl [0, 1] rfl)
set_option maxHeartbeats 4000000 in
set_option maxRecDepth 100000 in
theorem kc_X12_line (l : Launch) (D : va_G) (cy : Nat → ClassId) (N : Nat) (hN : 22 ≤ N) (ad : Nat → Nat) (hJ0 : hJ N ad) (w : Nat → Int64) (σ : hSt) (sz : Nat) (a1 : Int32) (a2 : Int32) (a3 : Int32) (Q : Int32 → hSt → Prop) (hw : wp_X12_line a1 a2 a3 σ w Q) : Met l yX12_line wsX12_line ({ frames := 3, cells := 0, slots := 0, locals := 70 } : Room) (va_Pc [.ref (ad 0), .int a1, .int a2, .int a3] (hB D cy (hC N ad (bY cy ad w) σ) sz)) (va_Qi (fun (r : Int32) (u : hSt) => Q r u) (hE D (fun u : hSt => hC N ad (bY cy ad w) u)) (hA N ad sz)) 0 0 (hA N ad sz) := by
  refine Met.ofW (cc := cX12_line) (maxL := 6) (ret := (some .int)) (by decide) rfl ?_
  intro p e s m args below meth c s₁ B hml hv
  obtain ⟨rfl, hsz, hP, hK, hN1⟩ := hv
  have hx := B.exec
  have hb := B.bytes
  have hr := B.returns
  have hts := atoms_spec (ws := wsX12_line) B.pre
  have hown : s.vm.findClass RX12 = some m.cls := findClass_of_methodNamed B.named
  have hlocks := B.notSynchronized
  subst hsz
  have hS : va_S (hA N ad s.heap.size) s.heap s.heap [] := va_S.rf
  have hiX12 : ∀ w ∈ wsX120, w ∈ wsX12_line := fun _ h => List.mem_cons_of_mem _ (List.mem_append_right _ h)
  have hl := lv_entry ([.ref (ad 0), .int a1, .int a2, .int a3]) (n := 6) (Nat.le_of_ble_eq_true rfl)
  rw [lg_entry_eq]
  generalize (lg_sl ([.ref (ad 0), .int a1, .int a2, .int a3]) ++ List.replicate (6 - (lg_sl ([.ref (ad 0), .int a1, .int a2, .int a3])).length) Slot.unset).toArray = ls at hl ⊢
  have hl : lv_has ls 6 [(0, .ref (ad 0)), (1, .int a1), (2, .int a2), (3, .int a3)] := hl
  unfold wp_X12_line at hw
  refine lv_aload_n hx hb dX12_line_0 rfl (lv_at hl 0 rfl) ?_
  refine lv_aload_n hx hb dX12_line_1 rfl (lv_at hl 0 rfl) ?_
  refine lv_iload_n hx hb dX12_line_2 rfl (lv_at hl 1 rfl) ?_
  refine hw_ki (va_runV (As := [.int a1]) (rest := [.ref (ad 0)]) ⟨hx, hb, hml, hown, hts⟩ (kc_X12_isTold l D cy N hN ad hJ0 w σ _ a1 _ hw) (cwV 1 hts gX12_line_X12_isTold rfl rfl rfl (by decide +kernel) ⟨Nat.le_of_ble_eq_true rfl, Nat.le_of_ble_eq_true rfl⟩) (hw_preV hK hN1 hP (Nat.lt_of_lt_of_le (by decide) hN) (bY_0 _) rfl) rfl rfl hl.1 rfl (lv_room (Nat.le_of_ble_eq_true rfl)) dX12_line_3 ⟨Nat.zero_le _, Nat.zero_le _⟩) hS (fun r2 σ1 H locs hw hP hS => ?_)
  obtain ⟨hu_, hw⟩ := hw
  rw [hu_] at hP
  obtain ⟨J31, ehJ31, hw⟩ := hM_x hw
  have hJ31 : ∀ (z3 : Int32) (H : Heap) (locs : List Loc) (ls : Array Slot), J31 z3 → va_P D vwCl (hC N ad (bY cy ad w) σ) H → va_S (hA N ad s.heap.size) s.heap H locs → lv_has ls 6 [(0, .ref (ad 0)), (1, .int a1), (2, .int a2), (3, .int a3)] → W p l e (headSpec wsX12_line ({ frames := 3, cells := 0, slots := 0, locals := 70 } : Room)).room s m ([Value.ref (ad 0), Value.int a1, Value.int a2, Value.int a3] : List Value).toArray below meth c H locs 0 0 (MQ below (va_Qi (fun (r : Int32) (u : hSt) => Q r u) (hE D (fun u : hSt => hC N ad (bY cy ad w) u)) (hA N ad s.heap.size)) ([Value.ref (ad 0), Value.int a1, Value.int a2, Value.int a3] : List Value).toArray s 0 0 (hA N ad s.heap.size)) (F0 m 31 ls [.int z3, .ref (ad 0)]) := by
    intro z3 H locs ls hw hP hS hl
    rw [ehJ31] at hw
    refine lv_iconst (v := 1) hx hb dX12_line_31 (by decide) ?_
    refine hw_ki (va_runV (As := [.int z3, .int (1 : Int32)]) (rest := []) ⟨hx, hb, hml, hown, hts⟩ (kc_X12_throwsIf l D cy N hN ad hJ0 w σ _ z3 (1 : Int32) _ hw) (cwV 2 hts gX12_line_X12_throwsIf rfl rfl rfl (by decide +kernel) ⟨Nat.le_of_ble_eq_true rfl, Nat.le_of_ble_eq_true rfl⟩) (hw_preV hK hN1 hP (Nat.lt_of_lt_of_le (by decide) hN) (bY_0 _) rfl) rfl rfl hl.1 rfl (lv_room (Nat.le_of_ble_eq_true rfl)) dX12_line_32 ⟨Nat.zero_le _, Nat.zero_le _⟩) hS (fun r5 σ4 H locs hw hP hS => ?_)
    refine lv_if_eq (tgt := 40) hx hb dX12_line_35 (by decide) (fun c6 => ?_) (fun c6 => ?_)
    · have hw := hw.1 c6
      refine lv_iload_n hx hb dX12_line_40 rfl (lv_at hl 3 rfl) ?_
      refine lv_aload_n hx hb dX12_line_41 rfl (lv_at hl 0 rfl) ?_
      refine lv_iload_n hx hb dX12_line_42 rfl (lv_at hl 1 rfl) ?_
      refine hw_ki (va_runV (As := [.int a1]) (rest := [.int a3]) ⟨hx, hb, hml, hown, hts⟩ (kc_X12_courseOf l D cy N hN ad hJ0 w σ4 _ a1 _ hw) (cwV 1 hts gX12_line_X12_courseOf rfl rfl rfl (by decide +kernel) ⟨Nat.le_of_ble_eq_true rfl, Nat.le_of_ble_eq_true rfl⟩) (hw_preV hK hN1 hP (Nat.lt_of_lt_of_le (by decide) hN) (bY_0 _) rfl) rfl rfl hl.1 rfl (lv_room (Nat.le_of_ble_eq_true rfl)) dX12_line_43 ⟨Nat.zero_le _, Nat.zero_le _⟩) hS (fun r8 σ7 H locs hw hP hS => ?_)
      refine lv_aload_n hx hb dX12_line_46 rfl (lv_at hl 0 rfl) ?_
      refine hw_get (v := .ref (ad 1)) hx hb hts hiX12 hown hK hP (Nat.lt_of_lt_of_le (by decide) hN) (bY_0 _) rfl 2 (by decide) (List.mem_of_getElem? (i := 2) rfl) rfl rfl dX12_line_47 ?_
      refine lv_iload_n hx hb dX12_line_50 rfl (lv_at hl 1 rfl) ?_
      obtain ⟨hi9, hw⟩ := hw
      refine hw_iald hx hb hK hP (Nat.lt_of_lt_of_le (by decide) hN) (bY_1 _) hi9 dX12_line_51 ?_
      refine lv_imul hx hb dX12_line_52 ?_
      obtain ⟨hz10, hw⟩ := hw
      refine lv_irem hx hb dX12_line_53 hz10 ?_
      refine lv_topi (fun x4_11 ex4_11 => ?_)
      have hw := hw x4_11 ex4_11
      refine lv_istore (lv' := [(4, .int x4_11), (0, .ref (ad 0)), (1, .int a1), (2, .int a2), (3, .int a3)]) hx hb dX12_line_54 hl (by decide) rfl (fun ls hl => ?_)
      refine lv_aload_n hx hb dX12_line_56 rfl (lv_at hl 1 rfl) ?_
      refine lv_aload_n hx hb dX12_line_57 rfl (lv_at hl 1 rfl) ?_
      refine hw_get (v := .ref (ad 14)) hx hb hts hiX12 hown hK hP (Nat.lt_of_lt_of_le (by decide) hN) (bY_0 _) rfl 24 (by decide) (List.mem_of_getElem? (i := 3) rfl) rfl rfl dX12_line_58 ?_
      refine hw_kv (va_runV (As := [.ref (ad 14)]) (rest := []) ⟨hx, hb, hml, hown, hts⟩ (kc_X12_rounds l D cy N hN ad hJ0 w σ7 _ 14 h8_14 _ hw) (cwV 1 hts gX12_line_X12_rounds rfl rfl rfl (by decide +kernel) ⟨Nat.le_of_ble_eq_true rfl, Nat.le_of_ble_eq_true rfl⟩) (hw_preV hK hN1 hP (Nat.lt_of_lt_of_le (by decide) hN) (bY_0 _) rfl) rfl rfl hl.1 rfl (lv_room (Nat.le_of_ble_eq_true rfl)) dX12_line_61 ⟨Nat.zero_le _, Nat.zero_le _⟩) hS (fun σ12 H locs hw hP hS => ?_)
      refine lv_iconst (v := 0) hx hb dX12_line_64 (by decide) ?_
      refine lv_istore (lv' := [(5, .int (0 : Int32)), (4, .int x4_11), (0, .ref (ad 0)), (1, .int a1), (2, .int a2), (3, .int a3)]) hx hb dX12_line_65 hl (by decide) rfl (fun ls hl => ?_)
      refine hw (fun (v5_13 : Int32) (σ14 : hSt) => ∀ (H : Heap) (locs : List Loc) (ls : Array Slot), va_P D vwCl (hC N ad (bY cy ad w) σ14) H → va_S (hA N ad s.heap.size) s.heap H locs → lv_has ls 6 [(0, .ref (ad 0)), (1, .int a1), (2, .int a2), (4, .int x4_11), (5, .int v5_13)] → W p l e (headSpec wsX12_line ({ frames := 3, cells := 0, slots := 0, locals := 70 } : Room)).room s m ([Value.ref (ad 0), Value.int a1, Value.int a2, Value.int a3] : List Value).toArray below meth c H locs 0 0 (MQ below (va_Qi (fun (r : Int32) (u : hSt) => Q r u) (hE D (fun u : hSt => hC N ad (bY cy ad w) u)) (hA N ad s.heap.size)) ([Value.ref (ad 0), Value.int a1, Value.int a2, Value.int a3] : List Value).toArray s 0 0 (hA N ad s.heap.size)) (F0 m 67 ls [])) (fun v5_13 σ14 hw H locs ls hP hS hl => ?_) _ _ _ hP hS (lv_sub hl [2, 3, 4, 1, 0] rfl)
      refine lv_iload hx hb dX12_line_67 (lv_at hl 4 rfl) ?_
      refine lv_iload hx hb dX12_line_69 (lv_at hl 3 rfl) ?_
      refine lv_icmp_ge (tgt := 107) hx hb dX12_line_71 (by decide) (fun c15 => ?_) (fun c15 => ?_)
      · have hw := hw.1 c15
        refine lv_iconst (v := 0) hx hb dX12_line_107 (by decide) ?_
        refine lv_istore (lv' := [(5, .int (0 : Int32)), (0, .ref (ad 0)), (1, .int a1), (2, .int a2), (4, .int x4_11)]) hx hb dX12_line_108 hl (by decide) rfl (fun ls hl => ?_)
        refine hw (fun (v5_16 : Int32) => ∀ (H : Heap) (locs : List Loc) (ls : Array Slot), va_P D vwCl (hC N ad (bY cy ad w) σ14) H → va_S (hA N ad s.heap.size) s.heap H locs → lv_has ls 6 [(0, .ref (ad 0)), (2, .int a2), (5, .int v5_16)] → W p l e (headSpec wsX12_line ({ frames := 3, cells := 0, slots := 0, locals := 70 } : Room)).room s m ([Value.ref (ad 0), Value.int a1, Value.int a2, Value.int a3] : List Value).toArray below meth c H locs 0 0 (MQ below (va_Qi (fun (r : Int32) (u : hSt) => Q r u) (hE D (fun u : hSt => hC N ad (bY cy ad w) u)) (hA N ad s.heap.size)) ([Value.ref (ad 0), Value.int a1, Value.int a2, Value.int a3] : List Value).toArray s 0 0 (hA N ad s.heap.size)) (F0 m 110 ls [])) (fun v5_16 hw H locs ls hP hS hl => ?_) _ _ _ hP hS (lv_sub hl [1, 3, 0] rfl)
        refine lv_iload hx hb dX12_line_110 (lv_at hl 2 rfl) ?_
        refine lv_aload_n hx hb dX12_line_112 rfl (lv_at hl 0 rfl) ?_
        refine hw_get (v := .int (σ14 0 1)) hx hb hts hiX12 hown hK hP (Nat.lt_of_lt_of_le (by decide) hN) (bY_0 _) rfl 1 (by decide) (List.mem_of_getElem? (i := 1) rfl) rfl rfl dX12_line_113 ?_
        refine lv_icmp_ge (tgt := 141) hx hb dX12_line_116 (by decide) (fun c17 => ?_) (fun c17 => ?_)
        · have hw := hw.1 c17
          refine lv_iconst (v := -1) hx hb dX12_line_141 (by decide) ?_
          exact hw_iret hx hb hr hlocks (σ14) hw hP hS dX12_line_142
        have hw := hw.2 c17
        refine lv_aload_n hx hb dX12_line_119 rfl (lv_at hl 0 rfl) ?_
        refine hw_get (v := .ref (ad 14)) hx hb hts hiX12 hown hK hP (Nat.lt_of_lt_of_le (by decide) hN) (bY_0 _) rfl 24 (by decide) (List.mem_of_getElem? (i := 3) rfl) rfl rfl dX12_line_120 ?_
        refine lv_iload hx hb dX12_line_123 (lv_at hl 2 rfl) ?_
        obtain ⟨hi18, hw⟩ := hw
        refine hw_iald hx hb hK hP (Nat.lt_of_lt_of_le (by decide) hN) (bY_14 _) hi18 dX12_line_125 ?_
        refine lv_iload_n hx hb dX12_line_126 rfl (lv_at hl 1 rfl) ?_
        refine lv_icmp_ne (tgt := 135) hx hb dX12_line_127 (by decide) (fun c19 => ?_) (fun c19 => ?_)
        · have hw := hw.1 c19
          obtain ⟨x5_20, ex5_20⟩ : ∃ z : Int32, z = v5_16 + (1 : Int32) := ⟨_, rfl⟩
          have hw := hw x5_20 ex5_20
          refine lv_iinc (v := x5_20) (lv' := [(5, .int x5_20), (0, .ref (ad 0)), (2, .int a2)]) hx hb dX12_line_135 hl (k := 2) rfl (by rw [ex5_20]; rfl) (by decide) rfl (fun ls hl => ?_)
          refine lv_goto (tgt := 110) hx hb dX12_line_138 (by decide) ?_
          exact hw _ _ _ hP hS (lv_sub hl [1, 2, 0] rfl)
        have hw := hw.2 c19
        refine lv_iload hx hb dX12_line_130 (lv_at hl 2 rfl) ?_
        refine lv_iconst (v := 1) hx hb dX12_line_132 (by decide) ?_
        refine lv_iadd hx hb dX12_line_133 ?_
        exact hw_iret hx hb hr hlocks (σ14) hw hP hS dX12_line_134
      have hw := hw.2 c15
      refine lv_aload_n hx hb dX12_line_74 rfl (lv_at hl 0 rfl) ?_
      refine lv_aload_n hx hb dX12_line_75 rfl (lv_at hl 0 rfl) ?_
      refine hw_get (v := .ref (ad 14)) hx hb hts hiX12 hown hK hP (Nat.lt_of_lt_of_le (by decide) hN) (bY_0 _) rfl 24 (by decide) (List.mem_of_getElem? (i := 3) rfl) rfl rfl dX12_line_76 ?_
      refine lv_aload_n hx hb dX12_line_79 rfl (lv_at hl 0 rfl) ?_
      refine hw_get (v := .ref (ad 2)) hx hb hts hiX12 hown hK hP (Nat.lt_of_lt_of_le (by decide) hN) (bY_0 _) rfl 3 (by decide) (List.mem_of_getElem? (i := 4) rfl) rfl rfl dX12_line_80 ?_
      refine lv_bipush (v := 66) hx hb dX12_line_83 (by decide) ?_
      refine lv_iload_n hx hb dX12_line_85 rfl (lv_at hl 1 rfl) ?_
      refine lv_imul hx hb dX12_line_86 ?_
      refine lv_iload hx hb dX12_line_87 (lv_at hl 4 rfl) ?_
      refine lv_aload_n hx hb dX12_line_89 rfl (lv_at hl 0 rfl) ?_
      refine hw_get (v := .ref (ad 1)) hx hb hts hiX12 hown hK hP (Nat.lt_of_lt_of_le (by decide) hN) (bY_0 _) rfl 2 (by decide) (List.mem_of_getElem? (i := 2) rfl) rfl rfl dX12_line_90 ?_
      refine lv_iload_n hx hb dX12_line_93 rfl (lv_at hl 1 rfl) ?_
      obtain ⟨hi21, hw⟩ := hw
      refine hw_iald hx hb hK hP (Nat.lt_of_lt_of_le (by decide) hN) (bY_1 _) hi21 dX12_line_94 ?_
      obtain ⟨hz22, hw⟩ := hw
      refine lv_irem hx hb dX12_line_95 hz22 ?_
      refine lv_iadd hx hb dX12_line_96 ?_
      obtain ⟨hi23, hw⟩ := hw
      refine hw_iald hx hb hK hP (Nat.lt_of_lt_of_le (by decide) hN) (bY_2 _) hi23 dX12_line_97 ?_
      refine hw_kv (va_runV (As := [.ref (ad 14), .int (σ14 2 ((((66 : Int32) * a1) + (v5_13 - v5_13 / (σ14 1 (a1).toNatClampNeg) * (σ14 1 (a1).toNatClampNeg)))).toNatClampNeg)]) (rest := []) ⟨hx, hb, hml, hown, hts⟩ (kc_X12_ring l D cy N hN ad hJ0 w σ14 _ 14 h8_14 (σ14 2 ((((66 : Int32) * a1) + (v5_13 - v5_13 / (σ14 1 (a1).toNatClampNeg) * (σ14 1 (a1).toNatClampNeg)))).toNatClampNeg) _ hw) (cwV 2 hts gX12_line_X12_ring rfl rfl rfl (by decide +kernel) ⟨Nat.le_of_ble_eq_true rfl, Nat.le_of_ble_eq_true rfl⟩) (hw_preV hK hN1 hP (Nat.lt_of_lt_of_le (by decide) hN) (bY_0 _) rfl) rfl rfl hl.1 rfl (lv_room (Nat.le_of_ble_eq_true rfl)) dX12_line_98 ⟨Nat.zero_le _, Nat.zero_le _⟩) hS (fun σ24 H locs hw hP hS => ?_)
      obtain ⟨x5_25, ex5_25⟩ : ∃ z : Int32, z = v5_13 + (1 : Int32) := ⟨_, rfl⟩
      have hw := hw x5_25 ex5_25
      refine lv_iinc (v := x5_25) (lv' := [(5, .int x5_25), (0, .ref (ad 0)), (1, .int a1), (2, .int a2), (4, .int x4_11)]) hx hb dX12_line_101 hl (k := 4) rfl (by rw [ex5_25]; rfl) (by decide) rfl (fun ls hl => ?_)
      refine lv_goto (tgt := 67) hx hb dX12_line_104 (by decide) ?_
      exact hw _ _ _ hP hS (lv_sub hl [1, 2, 3, 4, 0] rfl)
    have hw := hw.2 c6
    refine lv_iconst (v := 0) hx hb dX12_line_38 (by decide) ?_
    exact hw_iret hx hb hr hlocks (σ4) hw hP hS dX12_line_39
  obtain ⟨J26, ehJ26, hw⟩ := hM_x hw
  have hJ26 : ∀ (H : Heap) (locs : List Loc) (ls : Array Slot), J26 → va_P D vwCl (hC N ad (bY cy ad w) σ) H → va_S (hA N ad s.heap.size) s.heap H locs → lv_has ls 6 [(0, .ref (ad 0)), (1, .int a1), (2, .int a2), (3, .int a3)] → W p l e (headSpec wsX12_line ({ frames := 3, cells := 0, slots := 0, locals := 70 } : Room)).room s m ([Value.ref (ad 0), Value.int a1, Value.int a2, Value.int a3] : List Value).toArray below meth c H locs 0 0 (MQ below (va_Qi (fun (r : Int32) (u : hSt) => Q r u) (hE D (fun u : hSt => hC N ad (bY cy ad w) u)) (hA N ad s.heap.size)) ([Value.ref (ad 0), Value.int a1, Value.int a2, Value.int a3] : List Value).toArray s 0 0 (hA N ad s.heap.size)) (F0 m 26 ls [.ref (ad 0)]) := by
    intro H locs ls hw hP hS hl
    rw [ehJ26] at hw
    refine lv_iconst (v := 1) hx hb dX12_line_26 (by decide) ?_
    refine lv_goto (tgt := 31) hx hb dX12_line_27 (by decide) ?_
    exact hJ31 _ _ _ _ hw hP hS (lv_sub hl [0, 1, 2, 3] rfl)
  refine lv_if_eq (tgt := 26) hx hb dX12_line_6 (by decide) (fun c26 => ?_) (fun c26 => ?_)
  · have hw := hw.1 c26
    exact hJ26  _ _ _ hw hP hS (lv_sub hl [0, 1, 2, 3] rfl)
  have hw := hw.2 c26
  refine lv_iload_n hx hb dX12_line_9 rfl (lv_at hl 2 rfl) ?_
  refine lv_iconst (v := 1) hx hb dX12_line_10 (by decide) ?_
  refine lv_icmp_lt (tgt := 26) hx hb dX12_line_11 (by decide) (fun c27 => ?_) (fun c27 => ?_)
  · have hw := hw.1 c27
    exact hJ26  _ _ _ hw hP hS (lv_sub hl [0, 1, 2, 3] rfl)
  have hw := hw.2 c27
  refine lv_iload_n hx hb dX12_line_14 rfl (lv_at hl 2 rfl) ?_
  refine lv_aload_n hx hb dX12_line_15 rfl (lv_at hl 0 rfl) ?_
  refine hw_get (v := .int (σ 0 1)) hx hb hts hiX12 hown hK hP (Nat.lt_of_lt_of_le (by decide) hN) (bY_0 _) rfl 1 (by decide) (List.mem_of_getElem? (i := 1) rfl) rfl rfl dX12_line_16 ?_
  refine lv_icmp_gt (tgt := 26) hx hb dX12_line_19 (by decide) (fun c28 => ?_) (fun c28 => ?_)
  · have hw := hw.1 c28
    exact hJ26  _ _ _ hw hP hS (lv_sub hl [0, 1, 2, 3] rfl)
  have hw := hw.2 c28
  refine lv_iload_n hx hb dX12_line_22 rfl (lv_at hl 3 rfl) ?_
  refine lv_if_ge (tgt := 30) hx hb dX12_line_23 (by decide) (fun c29 => ?_) (fun c29 => ?_)
  · have hw := hw.1 c29
    refine lv_iconst (v := 0) hx hb dX12_line_30 (by decide) ?_
    exact hJ31 _ _ _ _ hw hP hS (lv_sub hl [0, 1, 2, 3] rfl)
  have hw := hw.2 c29
  exact hJ26  _ _ _ hw hP hS (lv_sub hl [0, 1, 2, 3] rfl)

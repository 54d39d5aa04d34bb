set_option maxHeartbeats 4000000 in
set_option maxRecDepth 100000 in
theorem kc_X12_fits (l : Launch) (D : va_G) (cy : Nat → ClassId) (N : Nat) (hN : 22 ≤ N) (ad : Nat → Nat) (hJ0 : hJ N ad) (w : Nat → Int64) (σ : hSt) (sz : Nat) (a1 : Int32) (Q : Int32 → Prop) (hw : wp_X12_fits a1 σ w Q) : Met l yX12_fits wsX12_fits ({ frames := 0, cells := 0, slots := 0, locals := 0 } : Room) (va_Pc [.ref (ad 0), .int a1] (hB D cy (hC N ad (bY cy ad w) σ) sz)) (va_Qi (fun (r : Int32) (u : hSt) => u = σ ∧ Q r) (hE D (fun u : hSt => hC N ad (bY cy ad w) u)) (hA N ad sz)) 0 0 (hA N ad sz) := by
  refine Met.ofW (cc := cX12_fits) (maxL := 5) (ret := (some .boolean)) (by decide) rfl ?_
  intro p e s m args below meth c s₁ B hml hv
  obtain ⟨rfl, hsz, hP, hK, hN1⟩ := hv
  have hx := B.exec
  have hb := B.bytes
  have hr := B.returns
  have hts := atoms_spec (ws := wsX12_fits) B.pre
  have hown : s.vm.findClass RX12 = some m.cls := findClass_of_methodNamed B.named
  have hlocks := B.notSynchronized
  subst hsz
  have hS : va_S (hA N ad s.heap.size) s.heap s.heap [] := va_S.rf
  have hiX12 : ∀ w ∈ wsX120, w ∈ wsX12_fits := fun _ h => List.mem_cons_of_mem _ (List.mem_append_right _ h)
  have hl := lv_entry ([.ref (ad 0), .int a1]) (n := 5) (Nat.le_of_ble_eq_true rfl)
  rw [lg_entry_eq]
  generalize (lg_sl ([.ref (ad 0), .int a1]) ++ List.replicate (5 - (lg_sl ([.ref (ad 0), .int a1])).length) Slot.unset).toArray = ls at hl ⊢
  have hl : lv_has ls 5 [(0, .ref (ad 0)), (1, .int a1)] := hl
  unfold wp_X12_fits at hw
  refine lv_aload_n hx hb dX12_fits_0 rfl (lv_at hl 0 rfl) ?_
  refine hw_get (v := .int (σ 0 33)) hx hb hts hiX12 hown hK hP (Nat.lt_of_lt_of_le (by decide) hN) (bY_0 _) rfl 33 (by decide) (List.mem_of_getElem? (i := 1) rfl) rfl rfl dX12_fits_1 ?_
  refine lv_if_ge (tgt := 11) hx hb dX12_fits_4 (by decide) (fun c1 => ?_) (fun c1 => ?_)
  · have hw := hw.1 c1
    refine lv_aload_n hx hb dX12_fits_11 rfl (lv_at hl 0 rfl) ?_
    refine hw_get (v := .int (σ 0 33)) hx hb hts hiX12 hown hK hP (Nat.lt_of_lt_of_le (by decide) hN) (bY_0 _) rfl 33 (by decide) (List.mem_of_getElem? (i := 1) rfl) rfl rfl dX12_fits_12 ?_
    refine lv_topi (fun x2_2 ex2_2 => ?_)
    have hw := hw x2_2 ex2_2
    refine lv_istore_n (lv' := [(2, .int x2_2), (0, .ref (ad 0)), (1, .int a1)]) hx hb dX12_fits_15 rfl hl (by decide) rfl (fun ls hl => ?_)
    refine lv_iconst (v := 0) hx hb dX12_fits_16 (by decide) ?_
    refine lv_istore_n (lv' := [(3, .int (0 : Int32)), (2, .int x2_2), (0, .ref (ad 0)), (1, .int a1)]) hx hb dX12_fits_17 rfl hl (by decide) rfl (fun ls hl => ?_)
    refine hw (fun (v3_3 : Int32) => ∀ (H : Heap) (locs : List Loc) (ls : Array Slot), va_P D vwCl (hC N ad (bY cy ad w) σ) H → va_S (hA N ad s.heap.size) s.heap H locs → lv_has ls 5 [(0, .ref (ad 0)), (1, .int a1), (2, .int x2_2), (3, .int v3_3)] → W p l e (headSpec wsX12_fits ({ frames := 0, cells := 0, slots := 0, locals := 0 } : Room)).room s m ([Value.ref (ad 0), Value.int a1] : List Value).toArray below meth c H locs 0 0 (MQ below (va_Qi (fun (r : Int32) (u : hSt) => u = σ ∧ Q r) (hE D (fun u : hSt => hC N ad (bY cy ad w) u)) (hA N ad s.heap.size)) ([Value.ref (ad 0), Value.int a1] : List Value).toArray s 0 0 (hA N ad s.heap.size)) (F0 m 18 ls [])) (fun v3_3 hw H locs ls hP hS hl => ?_) _ _ _ hP hS (lv_sub hl [2, 3, 1, 0] rfl)
    refine lv_iload_n hx hb dX12_fits_18 rfl (lv_at hl 3 rfl) ?_
    refine lv_iload_n hx hb dX12_fits_19 rfl (lv_at hl 2 rfl) ?_
    refine lv_icmp_ge (tgt := 60) hx hb dX12_fits_20 (by decide) (fun c4 => ?_) (fun c4 => ?_)
    · have hw := hw.1 c4
      refine lv_iload_n hx hb dX12_fits_60 rfl (lv_at hl 1 rfl) ?_
      refine lv_iconst (v := 1) hx hb dX12_fits_61 (by decide) ?_
      refine lv_isub hx hb dX12_fits_62 ?_
      refine lv_topi (fun x3_5 ex3_5 => ?_)
      have hw := hw x3_5 ex3_5
      refine lv_istore_n (lv' := [(3, .int x3_5), (0, .ref (ad 0)), (1, .int a1), (2, .int x2_2)]) hx hb dX12_fits_63 rfl hl (by decide) rfl (fun ls hl => ?_)
      refine lv_aload_n hx hb dX12_fits_64 rfl (lv_at hl 1 rfl) ?_
      refine hw_get (v := .int (σ 0 1)) hx hb hts hiX12 hown hK hP (Nat.lt_of_lt_of_le (by decide) hN) (bY_0 _) rfl 1 (by decide) (List.mem_of_getElem? (i := 4) rfl) rfl rfl dX12_fits_65 ?_
      refine lv_iconst (v := 1) hx hb dX12_fits_68 (by decide) ?_
      refine lv_isub hx hb dX12_fits_69 ?_
      refine lv_topi (fun x4_6 ex4_6 => ?_)
      have hw := hw x4_6 ex4_6
      refine lv_istore (lv' := [(4, .int x4_6), (3, .int x3_5), (0, .ref (ad 0)), (1, .int a1), (2, .int x2_2)]) hx hb dX12_fits_70 hl (by decide) rfl (fun ls hl => ?_)
      refine hw (fun (v3_7 : Int32) (v4_8 : Int32) => ∀ (H : Heap) (locs : List Loc) (ls : Array Slot), va_P D vwCl (hC N ad (bY cy ad w) σ) H → va_S (hA N ad s.heap.size) s.heap H locs → lv_has ls 5 [(0, .ref (ad 0)), (2, .int x2_2), (3, .int v3_7), (4, .int v4_8)] → W p l e (headSpec wsX12_fits ({ frames := 0, cells := 0, slots := 0, locals := 0 } : Room)).room s m ([Value.ref (ad 0), Value.int a1] : List Value).toArray below meth c H locs 0 0 (MQ below (va_Qi (fun (r : Int32) (u : hSt) => u = σ ∧ Q r) (hE D (fun u : hSt => hC N ad (bY cy ad w) u)) (hA N ad s.heap.size)) ([Value.ref (ad 0), Value.int a1] : List Value).toArray s 0 0 (hA N ad s.heap.size)) (F0 m 72 ls [])) (fun v3_7 v4_8 hw H locs ls hP hS hl => ?_) _ _ _ hP hS (lv_sub hl [2, 4, 1, 0] rfl)
      refine lv_iload_n hx hb dX12_fits_72 rfl (lv_at hl 2 rfl) ?_
      refine lv_iload_n hx hb dX12_fits_73 rfl (lv_at hl 1 rfl) ?_
      refine lv_icmp_le (tgt := 118) hx hb dX12_fits_74 (by decide) (fun c9 => ?_) (fun c9 => ?_)
      · have hw := hw.1 c9
        refine lv_iconst (v := 1) hx hb dX12_fits_118 (by decide) ?_
        exact hw_zret hx hb hr hlocks hbo_1 (σ) ⟨rfl, hw⟩ hP hS dX12_fits_119
      have hw := hw.2 c9
      refine lv_aload_n hx hb dX12_fits_77 rfl (lv_at hl 0 rfl) ?_
      refine hw_get (v := .ref (ad 5)) hx hb hts hiX12 hown hK hP (Nat.lt_of_lt_of_le (by decide) hN) (bY_0 _) rfl 7 (by decide) (List.mem_of_getElem? (i := 2) rfl) rfl rfl dX12_fits_78 ?_
      refine lv_iload_n hx hb dX12_fits_81 rfl (lv_at hl 2 rfl) ?_
      obtain ⟨hi10, hw⟩ := hw
      refine hw_bald hx hb hK hP (Nat.lt_of_lt_of_le (by decide) hN) (bY_5 _) hi10 dX12_fits_82 ?_
      refine lv_bipush (v := 63) hx hb dX12_fits_83 (by decide) ?_
      refine lv_icmp_eq (tgt := 109) hx hb dX12_fits_85 (by decide) (fun c11 => ?_) (fun c11 => ?_)
      · have hw := hw.1 c11
        obtain ⟨x3_12, ex3_12⟩ : ∃ z : Int32, z = v3_7 + (-1 : Int32) := ⟨_, rfl⟩
        have hw := hw x3_12 ex3_12
        refine lv_iinc (v := x3_12) (lv' := [(3, .int x3_12), (0, .ref (ad 0)), (2, .int x2_2), (4, .int v4_8)]) hx hb dX12_fits_109 hl (k := 2) rfl (by rw [ex3_12]; rfl) (by decide) rfl (fun ls hl => ?_)
        obtain ⟨x4_13, ex4_13⟩ : ∃ z : Int32, z = v4_8 + (-1 : Int32) := ⟨_, rfl⟩
        have hw := hw x4_13 ex4_13
        refine lv_iinc (v := x4_13) (lv' := [(4, .int x4_13), (3, .int x3_12), (0, .ref (ad 0)), (2, .int x2_2)]) hx hb dX12_fits_112 hl (k := 3) rfl (by rw [ex4_13]; rfl) (by decide) rfl (fun ls hl => ?_)
        refine lv_goto (tgt := 72) hx hb dX12_fits_115 (by decide) ?_
        exact hw _ _ _ hP hS (lv_sub hl [2, 3, 1, 0] rfl)
      have hw := hw.2 c11
      refine lv_aload_n hx hb dX12_fits_88 rfl (lv_at hl 0 rfl) ?_
      refine hw_get (v := .ref (ad 5)) hx hb hts hiX12 hown hK hP (Nat.lt_of_lt_of_le (by decide) hN) (bY_0 _) rfl 7 (by decide) (List.mem_of_getElem? (i := 2) rfl) rfl rfl dX12_fits_89 ?_
      refine lv_iload_n hx hb dX12_fits_92 rfl (lv_at hl 2 rfl) ?_
      obtain ⟨hi14, hw⟩ := hw
      refine hw_bald hx hb hK hP (Nat.lt_of_lt_of_le (by decide) hN) (bY_5 _) hi14 dX12_fits_93 ?_
      refine lv_bipush (v := 48) hx hb dX12_fits_94 (by decide) ?_
      refine lv_isub hx hb dX12_fits_96 ?_
      refine lv_aload_n hx hb dX12_fits_97 rfl (lv_at hl 0 rfl) ?_
      refine hw_get (v := .ref (ad 14)) hx hb hts hiX12 hown hK hP (Nat.lt_of_lt_of_le (by decide) hN) (bY_0 _) rfl 24 (by decide) (List.mem_of_getElem? (i := 3) rfl) rfl rfl dX12_fits_98 ?_
      refine lv_iload hx hb dX12_fits_101 (lv_at hl 3 rfl) ?_
      obtain ⟨hi15, hw⟩ := hw
      refine hw_iald hx hb hK hP (Nat.lt_of_lt_of_le (by decide) hN) (bY_14 _) hi15 dX12_fits_103 ?_
      refine lv_icmp_eq (tgt := 109) hx hb dX12_fits_104 (by decide) (fun c16 => ?_) (fun c16 => ?_)
      · have hw := hw.1 c16
        obtain ⟨x3_17, ex3_17⟩ : ∃ z : Int32, z = v3_7 + (-1 : Int32) := ⟨_, rfl⟩
        have hw := hw x3_17 ex3_17
        refine lv_iinc (v := x3_17) (lv' := [(3, .int x3_17), (0, .ref (ad 0)), (2, .int x2_2), (4, .int v4_8)]) hx hb dX12_fits_109 hl (k := 2) rfl (by rw [ex3_17]; rfl) (by decide) rfl (fun ls hl => ?_)
        obtain ⟨x4_18, ex4_18⟩ : ∃ z : Int32, z = v4_8 + (-1 : Int32) := ⟨_, rfl⟩
        have hw := hw x4_18 ex4_18
        refine lv_iinc (v := x4_18) (lv' := [(4, .int x4_18), (3, .int x3_17), (0, .ref (ad 0)), (2, .int x2_2)]) hx hb dX12_fits_112 hl (k := 3) rfl (by rw [ex4_18]; rfl) (by decide) rfl (fun ls hl => ?_)
        refine lv_goto (tgt := 72) hx hb dX12_fits_115 (by decide) ?_
        exact hw _ _ _ hP hS (lv_sub hl [2, 3, 1, 0] rfl)
      have hw := hw.2 c16
      refine lv_iconst (v := 0) hx hb dX12_fits_107 (by decide) ?_
      exact hw_zret hx hb hr hlocks hbo_0 (σ) ⟨rfl, hw⟩ hP hS dX12_fits_108
    have hw := hw.2 c4
    refine lv_aload_n hx hb dX12_fits_23 rfl (lv_at hl 0 rfl) ?_
    refine hw_get (v := .ref (ad 5)) hx hb hts hiX12 hown hK hP (Nat.lt_of_lt_of_le (by decide) hN) (bY_0 _) rfl 7 (by decide) (List.mem_of_getElem? (i := 2) rfl) rfl rfl dX12_fits_24 ?_
    refine lv_iload_n hx hb dX12_fits_27 rfl (lv_at hl 3 rfl) ?_
    obtain ⟨hi19, hw⟩ := hw
    refine hw_bald hx hb hK hP (Nat.lt_of_lt_of_le (by decide) hN) (bY_5 _) hi19 dX12_fits_28 ?_
    refine lv_bipush (v := 63) hx hb dX12_fits_29 (by decide) ?_
    refine lv_icmp_eq (tgt := 54) hx hb dX12_fits_31 (by decide) (fun c20 => ?_) (fun c20 => ?_)
    · have hw := hw.1 c20
      obtain ⟨x3_21, ex3_21⟩ : ∃ z : Int32, z = v3_3 + (1 : Int32) := ⟨_, rfl⟩
      have hw := hw x3_21 ex3_21
      refine lv_iinc (v := x3_21) (lv' := [(3, .int x3_21), (0, .ref (ad 0)), (1, .int a1), (2, .int x2_2)]) hx hb dX12_fits_54 hl (k := 3) rfl (by rw [ex3_21]; rfl) (by decide) rfl (fun ls hl => ?_)
      refine lv_goto (tgt := 18) hx hb dX12_fits_57 (by decide) ?_
      exact hw _ _ _ hP hS (lv_sub hl [1, 2, 3, 0] rfl)
    have hw := hw.2 c20
    refine lv_aload_n hx hb dX12_fits_34 rfl (lv_at hl 0 rfl) ?_
    refine hw_get (v := .ref (ad 5)) hx hb hts hiX12 hown hK hP (Nat.lt_of_lt_of_le (by decide) hN) (bY_0 _) rfl 7 (by decide) (List.mem_of_getElem? (i := 2) rfl) rfl rfl dX12_fits_35 ?_
    refine lv_iload_n hx hb dX12_fits_38 rfl (lv_at hl 3 rfl) ?_
    obtain ⟨hi22, hw⟩ := hw
    refine hw_bald hx hb hK hP (Nat.lt_of_lt_of_le (by decide) hN) (bY_5 _) hi22 dX12_fits_39 ?_
    refine lv_bipush (v := 48) hx hb dX12_fits_40 (by decide) ?_
    refine lv_isub hx hb dX12_fits_42 ?_
    refine lv_aload_n hx hb dX12_fits_43 rfl (lv_at hl 0 rfl) ?_
    refine hw_get (v := .ref (ad 14)) hx hb hts hiX12 hown hK hP (Nat.lt_of_lt_of_le (by decide) hN) (bY_0 _) rfl 24 (by decide) (List.mem_of_getElem? (i := 3) rfl) rfl rfl dX12_fits_44 ?_
    refine lv_iload_n hx hb dX12_fits_47 rfl (lv_at hl 3 rfl) ?_
    obtain ⟨hi23, hw⟩ := hw
    refine hw_iald hx hb hK hP (Nat.lt_of_lt_of_le (by decide) hN) (bY_14 _) hi23 dX12_fits_48 ?_
    refine lv_icmp_eq (tgt := 54) hx hb dX12_fits_49 (by decide) (fun c24 => ?_) (fun c24 => ?_)
    · have hw := hw.1 c24
      obtain ⟨x3_25, ex3_25⟩ : ∃ z : Int32, z = v3_3 + (1 : Int32) := ⟨_, rfl⟩
      have hw := hw x3_25 ex3_25
      refine lv_iinc (v := x3_25) (lv' := [(3, .int x3_25), (0, .ref (ad 0)), (1, .int a1), (2, .int x2_2)]) hx hb dX12_fits_54 hl (k := 3) rfl (by rw [ex3_25]; rfl) (by decide) rfl (fun ls hl => ?_)
      refine lv_goto (tgt := 18) hx hb dX12_fits_57 (by decide) ?_
      exact hw _ _ _ hP hS (lv_sub hl [1, 2, 3, 0] rfl)
    have hw := hw.2 c24
    refine lv_iconst (v := 0) hx hb dX12_fits_52 (by decide) ?_
    exact hw_zret hx hb hr hlocks hbo_0 (σ) ⟨rfl, hw⟩ hP hS dX12_fits_53
  have hw := hw.2 c1
  refine lv_iload_n hx hb dX12_fits_7 rfl (lv_at hl 1 rfl) ?_
  refine lv_goto (tgt := 15) hx hb dX12_fits_8 (by decide) ?_
  refine lv_istore_n (lv' := [(2, .int a1), (0, .ref (ad 0)), (1, .int a1)]) hx hb dX12_fits_15 rfl hl (by decide) rfl (fun ls hl => ?_)
  refine lv_iconst (v := 0) hx hb dX12_fits_16 (by decide) ?_
  refine lv_istore_n (lv' := [(3, .int (0 : Int32)), (2, .int a1), (0, .ref (ad 0)), (1, .int a1)]) hx hb dX12_fits_17 rfl hl (by decide) rfl (fun ls hl => ?_)
  refine hw (fun (v3_26 : Int32) => ∀ (H : Heap) (locs : List Loc) (ls : Array Slot), va_P D vwCl (hC N ad (bY cy ad w) σ) H → va_S (hA N ad s.heap.size) s.heap H locs → lv_has ls 5 [(0, .ref (ad 0)), (1, .int a1), (2, .int a1), (3, .int v3_26)] → W p l e (headSpec wsX12_fits ({ frames := 0, cells := 0, slots := 0, locals := 0 } : Room)).room s m ([Value.ref (ad 0), Value.int a1] : List Value).toArray below meth c H locs 0 0 (MQ below (va_Qi (fun (r : Int32) (u : hSt) => u = σ ∧ Q r) (hE D (fun u : hSt => hC N ad (bY cy ad w) u)) (hA N ad s.heap.size)) ([Value.ref (ad 0), Value.int a1] : List Value).toArray s 0 0 (hA N ad s.heap.size)) (F0 m 18 ls [])) (fun v3_26 hw H locs ls hP hS hl => ?_) _ _ _ hP hS (lv_sub hl [2, 3, 1, 0] rfl)
  refine lv_iload_n hx hb dX12_fits_18 rfl (lv_at hl 3 rfl) ?_
  refine lv_iload_n hx hb dX12_fits_19 rfl (lv_at hl 2 rfl) ?_
  refine lv_icmp_ge (tgt := 60) hx hb dX12_fits_20 (by decide) (fun c27 => ?_) (fun c27 => ?_)
  · have hw := hw.1 c27
    refine lv_iload_n hx hb dX12_fits_60 rfl (lv_at hl 1 rfl) ?_
    refine lv_iconst (v := 1) hx hb dX12_fits_61 (by decide) ?_
    refine lv_isub hx hb dX12_fits_62 ?_
    refine lv_topi (fun x3_28 ex3_28 => ?_)
    have hw := hw x3_28 ex3_28
    refine lv_istore_n (lv' := [(3, .int x3_28), (0, .ref (ad 0)), (1, .int a1), (2, .int a1)]) hx hb dX12_fits_63 rfl hl (by decide) rfl (fun ls hl => ?_)
    refine lv_aload_n hx hb dX12_fits_64 rfl (lv_at hl 1 rfl) ?_
    refine hw_get (v := .int (σ 0 1)) hx hb hts hiX12 hown hK hP (Nat.lt_of_lt_of_le (by decide) hN) (bY_0 _) rfl 1 (by decide) (List.mem_of_getElem? (i := 4) rfl) rfl rfl dX12_fits_65 ?_
    refine lv_iconst (v := 1) hx hb dX12_fits_68 (by decide) ?_
    refine lv_isub hx hb dX12_fits_69 ?_
    refine lv_topi (fun x4_29 ex4_29 => ?_)
    have hw := hw x4_29 ex4_29
    refine lv_istore (lv' := [(4, .int x4_29), (3, .int x3_28), (0, .ref (ad 0)), (1, .int a1), (2, .int a1)]) hx hb dX12_fits_70 hl (by decide) rfl (fun ls hl => ?_)
    refine hw (fun (v3_30 : Int32) (v4_31 : Int32) => ∀ (H : Heap) (locs : List Loc) (ls : Array Slot), va_P D vwCl (hC N ad (bY cy ad w) σ) H → va_S (hA N ad s.heap.size) s.heap H locs → lv_has ls 5 [(0, .ref (ad 0)), (2, .int a1), (3, .int v3_30), (4, .int v4_31)] → W p l e (headSpec wsX12_fits ({ frames := 0, cells := 0, slots := 0, locals := 0 } : Room)).room s m ([Value.ref (ad 0), Value.int a1] : List Value).toArray below meth c H locs 0 0 (MQ below (va_Qi (fun (r : Int32) (u : hSt) => u = σ ∧ Q r) (hE D (fun u : hSt => hC N ad (bY cy ad w) u)) (hA N ad s.heap.size)) ([Value.ref (ad 0), Value.int a1] : List Value).toArray s 0 0 (hA N ad s.heap.size)) (F0 m 72 ls [])) (fun v3_30 v4_31 hw H locs ls hP hS hl => ?_) _ _ _ hP hS (lv_sub hl [2, 4, 1, 0] rfl)
    refine lv_iload_n hx hb dX12_fits_72 rfl (lv_at hl 2 rfl) ?_
    refine lv_iload_n hx hb dX12_fits_73 rfl (lv_at hl 1 rfl) ?_
    refine lv_icmp_le (tgt := 118) hx hb dX12_fits_74 (by decide) (fun c32 => ?_) (fun c32 => ?_)
    · have hw := hw.1 c32
      refine lv_iconst (v := 1) hx hb dX12_fits_118 (by decide) ?_
      exact hw_zret hx hb hr hlocks hbo_1 (σ) ⟨rfl, hw⟩ hP hS dX12_fits_119
    have hw := hw.2 c32
    refine lv_aload_n hx hb dX12_fits_77 rfl (lv_at hl 0 rfl) ?_
    refine hw_get (v := .ref (ad 5)) hx hb hts hiX12 hown hK hP (Nat.lt_of_lt_of_le (by decide) hN) (bY_0 _) rfl 7 (by decide) (List.mem_of_getElem? (i := 2) rfl) rfl rfl dX12_fits_78 ?_
    refine lv_iload_n hx hb dX12_fits_81 rfl (lv_at hl 2 rfl) ?_
    obtain ⟨hi33, hw⟩ := hw
    refine hw_bald hx hb hK hP (Nat.lt_of_lt_of_le (by decide) hN) (bY_5 _) hi33 dX12_fits_82 ?_
    refine lv_bipush (v := 63) hx hb dX12_fits_83 (by decide) ?_
    refine lv_icmp_eq (tgt := 109) hx hb dX12_fits_85 (by decide) (fun c34 => ?_) (fun c34 => ?_)
    · have hw := hw.1 c34
      obtain ⟨x3_35, ex3_35⟩ : ∃ z : Int32, z = v3_30 + (-1 : Int32) := ⟨_, rfl⟩
      have hw := hw x3_35 ex3_35
      refine lv_iinc (v := x3_35) (lv' := [(3, .int x3_35), (0, .ref (ad 0)), (2, .int a1), (4, .int v4_31)]) hx hb dX12_fits_109 hl (k := 2) rfl (by rw [ex3_35]; rfl) (by decide) rfl (fun ls hl => ?_)
      obtain ⟨x4_36, ex4_36⟩ : ∃ z : Int32, z = v4_31 + (-1 : Int32) := ⟨_, rfl⟩
      have hw := hw x4_36 ex4_36
      refine lv_iinc (v := x4_36) (lv' := [(4, .int x4_36), (3, .int x3_35), (0, .ref (ad 0)), (2, .int a1)]) hx hb dX12_fits_112 hl (k := 3) rfl (by rw [ex4_36]; rfl) (by decide) rfl (fun ls hl => ?_)
      refine lv_goto (tgt := 72) hx hb dX12_fits_115 (by decide) ?_
      exact hw _ _ _ hP hS (lv_sub hl [2, 3, 1, 0] rfl)
    have hw := hw.2 c34
    refine lv_aload_n hx hb dX12_fits_88 rfl (lv_at hl 0 rfl) ?_
    refine hw_get (v := .ref (ad 5)) hx hb hts hiX12 hown hK hP (Nat.lt_of_lt_of_le (by decide) hN) (bY_0 _) rfl 7 (by decide) (List.mem_of_getElem? (i := 2) rfl) rfl rfl dX12_fits_89 ?_
    refine lv_iload_n hx hb dX12_fits_92 rfl (lv_at hl 2 rfl) ?_
    obtain ⟨hi37, hw⟩ := hw
    refine hw_bald hx hb hK hP (Nat.lt_of_lt_of_le (by decide) hN) (bY_5 _) hi37 dX12_fits_93 ?_
    refine lv_bipush (v := 48) hx hb dX12_fits_94 (by decide) ?_
    refine lv_isub hx hb dX12_fits_96 ?_
    refine lv_aload_n hx hb dX12_fits_97 rfl (lv_at hl 0 rfl) ?_
    refine hw_get (v := .ref (ad 14)) hx hb hts hiX12 hown hK hP (Nat.lt_of_lt_of_le (by decide) hN) (bY_0 _) rfl 24 (by decide) (List.mem_of_getElem? (i := 3) rfl) rfl rfl dX12_fits_98 ?_
    refine lv_iload hx hb dX12_fits_101 (lv_at hl 3 rfl) ?_
    obtain ⟨hi38, hw⟩ := hw
    refine hw_iald hx hb hK hP (Nat.lt_of_lt_of_le (by decide) hN) (bY_14 _) hi38 dX12_fits_103 ?_
    refine lv_icmp_eq (tgt := 109) hx hb dX12_fits_104 (by decide) (fun c39 => ?_) (fun c39 => ?_)
    · have hw := hw.1 c39
      obtain ⟨x3_40, ex3_40⟩ : ∃ z : Int32, z = v3_30 + (-1 : Int32) := ⟨_, rfl⟩
      have hw := hw x3_40 ex3_40
      refine lv_iinc (v := x3_40) (lv' := [(3, .int x3_40), (0, .ref (ad 0)), (2, .int a1), (4, .int v4_31)]) hx hb dX12_fits_109 hl (k := 2) rfl (by rw [ex3_40]; rfl) (by decide) rfl (fun ls hl => ?_)
      obtain ⟨x4_41, ex4_41⟩ : ∃ z : Int32, z = v4_31 + (-1 : Int32) := ⟨_, rfl⟩
      have hw := hw x4_41 ex4_41
      refine lv_iinc (v := x4_41) (lv' := [(4, .int x4_41), (3, .int x3_40), (0, .ref (ad 0)), (2, .int a1)]) hx hb dX12_fits_112 hl (k := 3) rfl (by rw [ex4_41]; rfl) (by decide) rfl (fun ls hl => ?_)
      refine lv_goto (tgt := 72) hx hb dX12_fits_115 (by decide) ?_
      exact hw _ _ _ hP hS (lv_sub hl [2, 3, 1, 0] rfl)
    have hw := hw.2 c39
    refine lv_iconst (v := 0) hx hb dX12_fits_107 (by decide) ?_
    exact hw_zret hx hb hr hlocks hbo_0 (σ) ⟨rfl, hw⟩ hP hS dX12_fits_108
  have hw := hw.2 c27
  refine lv_aload_n hx hb dX12_fits_23 rfl (lv_at hl 0 rfl) ?_
  refine hw_get (v := .ref (ad 5)) hx hb hts hiX12 hown hK hP (Nat.lt_of_lt_of_le (by decide) hN) (bY_0 _) rfl 7 (by decide) (List.mem_of_getElem? (i := 2) rfl) rfl rfl dX12_fits_24 ?_
  refine lv_iload_n hx hb dX12_fits_27 rfl (lv_at hl 3 rfl) ?_
  obtain ⟨hi42, hw⟩ := hw
  refine hw_bald hx hb hK hP (Nat.lt_of_lt_of_le (by decide) hN) (bY_5 _) hi42 dX12_fits_28 ?_
  refine lv_bipush (v := 63) hx hb dX12_fits_29 (by decide) ?_
  refine lv_icmp_eq (tgt := 54) hx hb dX12_fits_31 (by decide) (fun c43 => ?_) (fun c43 => ?_)
  · have hw := hw.1 c43
    obtain ⟨x3_44, ex3_44⟩ : ∃ z : Int32, z = v3_26 + (1 : Int32) := ⟨_, rfl⟩
    have hw := hw x3_44 ex3_44
    refine lv_iinc (v := x3_44) (lv' := [(3, .int x3_44), (0, .ref (ad 0)), (1, .int a1), (2, .int a1)]) hx hb dX12_fits_54 hl (k := 3) rfl (by rw [ex3_44]; rfl) (by decide) rfl (fun ls hl => ?_)
    refine lv_goto (tgt := 18) hx hb dX12_fits_57 (by decide) ?_
    exact hw _ _ _ hP hS (lv_sub hl [1, 2, 3, 0] rfl)
  have hw := hw.2 c43
  refine lv_aload_n hx hb dX12_fits_34 rfl (lv_at hl 0 rfl) ?_
  refine hw_get (v := .ref (ad 5)) hx hb hts hiX12 hown hK hP (Nat.lt_of_lt_of_le (by decide) hN) (bY_0 _) rfl 7 (by decide) (List.mem_of_getElem? (i := 2) rfl) rfl rfl dX12_fits_35 ?_
  refine lv_iload_n hx hb dX12_fits_38 rfl (lv_at hl 3 rfl) ?_
  obtain ⟨hi45, hw⟩ := hw
  refine hw_bald hx hb hK hP (Nat.lt_of_lt_of_le (by decide) hN) (bY_5 _) hi45 dX12_fits_39 ?_
  refine lv_bipush (v := 48) hx hb dX12_fits_40 (by decide) ?_
  refine lv_isub hx hb dX12_fits_42 ?_
  refine lv_aload_n hx hb dX12_fits_43 rfl (lv_at hl 0 rfl) ?_
  refine hw_get (v := .ref (ad 14)) hx hb hts hiX12 hown hK hP (Nat.lt_of_lt_of_le (by decide) hN) (bY_0 _) rfl 24 (by decide) (List.mem_of_getElem? (i := 3) rfl) rfl rfl dX12_fits_44 ?_
  refine lv_iload_n hx hb dX12_fits_47 rfl (lv_at hl 3 rfl) ?_
  obtain ⟨hi46, hw⟩ := hw
  refine hw_iald hx hb hK hP (Nat.lt_of_lt_of_le (by decide) hN) (bY_14 _) hi46 dX12_fits_48 ?_
  refine lv_icmp_eq (tgt := 54) hx hb dX12_fits_49 (by decide) (fun c47 => ?_) (fun c47 => ?_)
  · have hw := hw.1 c47
    obtain ⟨x3_48, ex3_48⟩ : ∃ z : Int32, z = v3_26 + (1 : Int32) := ⟨_, rfl⟩
    have hw := hw x3_48 ex3_48
    refine lv_iinc (v := x3_48) (lv' := [(3, .int x3_48), (0, .ref (ad 0)), (1, .int a1), (2, .int a1)]) hx hb dX12_fits_54 hl (k := 3) rfl (by rw [ex3_48]; rfl) (by decide) rfl (fun ls hl => ?_)
    refine lv_goto (tgt := 18) hx hb dX12_fits_57 (by decide) ?_
    exact hw _ _ _ hP hS (lv_sub hl [1, 2, 3, 0] rfl)
  have hw := hw.2 c47
  refine lv_iconst (v := 0) hx hb dX12_fits_52 (by decide) ?_
  exact hw_zret hx hb hr hlocks hbo_0 (σ) ⟨rfl, hw⟩ hP hS dX12_fits_53
set_option maxHeartbeats 4000000 in
set_option maxRecDepth 100000 in
theorem kc_X12_music (l : Launch) (D : va_G) (cy : Nat → ClassId) (N : Nat) (hN : 22 ≤ N) (ad : Nat → Nat) (hJ0 : hJ N ad) (w : Nat → Int64) (σ : hSt) (sz : Nat)  (Q : Int32 → hSt → Prop) (hw : wp_X12_music  σ w Q) : Met l yX12_music wsX12_music ({ frames := 1, cells := 0, slots := 0, locals := 24 } : Room) (va_Pc [.ref (ad 0)] (hB D cy (hC N ad (bY cy ad w) σ) sz)) (va_Qi (fun (r : Int32) (u : hSt) => Q r u) (hE D (fun u : hSt => hC N ad (bY cy ad w) u)) (hA N ad sz)) 0 0 (hA N ad sz) := by
  refine Met.ofW (cc := cX12_music) (maxL := 6) (ret := (some .int)) (by decide) rfl ?_
  intro p e s m args below meth c s₁ B hml hv
  obtain ⟨rfl, hsz, hP, hK, hN1⟩ := hv
  have hx := B.exec
  have hb := B.bytes
  have hr := B.returns
  have hts := atoms_spec (ws := wsX12_music) B.pre
  have hown : s.vm.findClass RX12 = some m.cls := findClass_of_methodNamed B.named
  have hlocks := B.notSynchronized
  subst hsz
  have hS : va_S (hA N ad s.heap.size) s.heap s.heap [] := va_S.rf
  have hiX12 : ∀ w ∈ wsX120, w ∈ wsX12_music := fun _ h => List.mem_cons_of_mem _ (List.mem_append_right _ h)
  have hl := lv_entry ([.ref (ad 0)]) (n := 6) (Nat.le_of_ble_eq_true rfl)
  rw [lg_entry_eq]
  generalize (lg_sl ([.ref (ad 0)]) ++ List.replicate (6 - (lg_sl ([.ref (ad 0)])).length) Slot.unset).toArray = ls at hl ⊢
  have hl : lv_has ls 6 [(0, .ref (ad 0))] := hl
  unfold wp_X12_music at hw
  refine lv_aload_n hx hb dX12_music_0 rfl (lv_at hl 0 rfl) ?_
  refine lv_iconst (v := 0) hx hb dX12_music_1 (by decide) ?_
  refine hw_put (x := (0 : Int32)) (j := 0) hx hb hts hiX12 tyX12 tyX12_ok nmX12 hown hK hJ0 hP hS (Nat.lt_of_lt_of_le (by decide) hN) (bY_0 _) rfl (by decide) (List.mem_of_getElem? (i := 1) rfl) rfl rfl rfl rfl (Nat.le_of_ble_eq_true rfl) (by rw [bY_0]; rfl) dX12_music_2 (fun H locs hP hS => ?_)
  refine lv_aload_n hx hb dX12_music_5 rfl (lv_at hl 0 rfl) ?_
  refine hw_get (v := .int ((hup σ 0 0 (0 : Int32)) 0 8)) hx hb hts hiX12 hown hK hP (Nat.lt_of_lt_of_le (by decide) hN) (bY_0 _) rfl 8 (by decide) (List.mem_of_getElem? (i := 2) rfl) rfl rfl dX12_music_6 ?_
  refine lv_topi (fun x1_1 ex1_1 => ?_)
  have hw := hw x1_1 ex1_1
  refine lv_istore_n (lv' := [(1, .int x1_1), (0, .ref (ad 0))]) hx hb dX12_music_9 rfl hl (by decide) rfl (fun ls hl => ?_)
  refine lv_aload_n hx hb dX12_music_10 rfl (lv_at hl 1 rfl) ?_
  refine lv_iconst (v := 0) hx hb dX12_music_11 (by decide) ?_
  refine hw_put (x := (0 : Int32)) (j := 8) hx hb hts hiX12 tyX12 tyX12_ok nmX12 hown hK hJ0 hP hS (Nat.lt_of_lt_of_le (by decide) hN) (bY_0 _) rfl (by decide) (List.mem_of_getElem? (i := 2) rfl) rfl rfl rfl rfl (Nat.le_of_ble_eq_true rfl) (by rw [bY_0]; rfl) dX12_music_12 (fun H locs hP hS => ?_)
  refine lv_aload_n hx hb dX12_music_15 rfl (lv_at hl 1 rfl) ?_
  refine lv_iload_n hx hb dX12_music_16 rfl (lv_at hl 0 rfl) ?_
  refine hw_ki (va_runV (As := [.int x1_1]) (rest := []) ⟨hx, hb, hml, hown, hts⟩ (kc_X12_isPattern l D cy N hN ad hJ0 w (hup (hup σ 0 0 (0 : Int32)) 0 8 (0 : Int32)) _ x1_1 _ hw) (cwV 1 hts gX12_music_X12_isPattern rfl rfl rfl (by decide +kernel) ⟨Nat.le_of_ble_eq_true rfl, Nat.le_of_ble_eq_true rfl⟩) (hw_preV hK hN1 hP (Nat.lt_of_lt_of_le (by decide) hN) (bY_0 _) rfl) rfl rfl hl.1 rfl (lv_room (Nat.le_of_ble_eq_true rfl)) dX12_music_17 ⟨Nat.zero_le _, Nat.zero_le _⟩) hS (fun r3 σ2 H locs hw hP hS => ?_)
  refine lv_if_ne (tgt := 25) hx hb dX12_music_20 (by decide) (fun c4 => ?_) (fun c4 => ?_)
  · have hw := hw.1 c4
    refine lv_iconst (v := 0) hx hb dX12_music_25 (by decide) ?_
    refine lv_istore_n (lv' := [(2, .int (0 : Int32)), (1, .int x1_1), (0, .ref (ad 0))]) hx hb dX12_music_26 rfl hl (by decide) rfl (fun ls hl => ?_)
    refine lv_aload_n hx hb dX12_music_27 rfl (lv_at hl 2 rfl) ?_
    refine lv_aload_n hx hb dX12_music_28 rfl (lv_at hl 2 rfl) ?_
    refine hw_get (v := .ref (ad 14)) hx hb hts hiX12 hown hK hP (Nat.lt_of_lt_of_le (by decide) hN) (bY_0 _) rfl 24 (by decide) (List.mem_of_getElem? (i := 3) rfl) rfl rfl dX12_music_29 ?_
    refine hw_kv (va_runV (As := [.ref (ad 14)]) (rest := []) ⟨hx, hb, hml, hown, hts⟩ (kc_X12_rounds l D cy N hN ad hJ0 w σ2 _ 14 h8_14 _ hw) (cwV 1 hts gX12_music_X12_rounds rfl rfl rfl (by decide +kernel) ⟨Nat.le_of_ble_eq_true rfl, Nat.le_of_ble_eq_true rfl⟩) (hw_preV hK hN1 hP (Nat.lt_of_lt_of_le (by decide) hN) (bY_0 _) rfl) rfl rfl hl.1 rfl (lv_room (Nat.le_of_ble_eq_true rfl)) dX12_music_32 ⟨Nat.zero_le _, Nat.zero_le _⟩) hS (fun σ5 H locs hw hP hS => ?_)
    refine lv_iconst (v := 0) hx hb dX12_music_35 (by decide) ?_
    refine lv_istore_n (lv' := [(3, .int (0 : Int32)), (2, .int (0 : Int32)), (1, .int x1_1), (0, .ref (ad 0))]) hx hb dX12_music_36 rfl hl (by decide) rfl (fun ls hl => ?_)
    refine hw (fun (v2_6 : Int32) (v3_7 : Int32) (σ8 : hSt) => ∀ (H : Heap) (locs : List Loc) (ls : Array Slot), va_P D vwCl (hC N ad (bY cy ad w) σ8) H → va_S (hA N ad s.heap.size) s.heap H locs → lv_has ls 6 [(0, .ref (ad 0)), (1, .int x1_1), (2, .int v2_6), (3, .int v3_7)] → W p l e (headSpec wsX12_music ({ frames := 1, cells := 0, slots := 0, locals := 24 } : Room)).room s m ([Value.ref (ad 0)] : List Value).toArray below meth c H locs 0 0 (MQ below (va_Qi (fun (r : Int32) (u : hSt) => Q r u) (hE D (fun u : hSt => hC N ad (bY cy ad w) u)) (hA N ad s.heap.size)) ([Value.ref (ad 0)] : List Value).toArray s 0 0 (hA N ad s.heap.size)) (F0 m 37 ls [])) (fun v2_6 v3_7 σ8 hw H locs ls hP hS hl => ?_) _ _ _ hP hS (lv_sub hl [3, 2, 1, 0] rfl)
    refine lv_iload_n hx hb dX12_music_37 rfl (lv_at hl 3 rfl) ?_
    refine lv_aload_n hx hb dX12_music_38 rfl (lv_at hl 0 rfl) ?_
    refine hw_get (v := .int (σ8 0 6)) hx hb hts hiX12 hown hK hP (Nat.lt_of_lt_of_le (by decide) hN) (bY_0 _) rfl 6 (by decide) (List.mem_of_getElem? (i := 4) rfl) rfl rfl dX12_music_39 ?_
    refine lv_icmp_ge (tgt := 146) hx hb dX12_music_42 (by decide) (fun c9 => ?_) (fun c9 => ?_)
    · have hw := hw.1 c9
      refine lv_iload_n hx hb dX12_music_146 rfl (lv_at hl 2 rfl) ?_
      exact hw_iret hx hb hr hlocks (σ8) hw hP hS dX12_music_147
    have hw := hw.2 c9
    refine lv_aload_n hx hb dX12_music_45 rfl (lv_at hl 0 rfl) ?_
    refine hw_get (v := .ref (ad 3)) hx hb hts hiX12 hown hK hP (Nat.lt_of_lt_of_le (by decide) hN) (bY_0 _) rfl 4 (by decide) (List.mem_of_getElem? (i := 5) rfl) rfl rfl dX12_music_46 ?_
    refine lv_iload_n hx hb dX12_music_49 rfl (lv_at hl 3 rfl) ?_
    obtain ⟨hi10, hw⟩ := hw
    refine hw_iald hx hb hK hP (Nat.lt_of_lt_of_le (by decide) hN) (bY_3 _) hi10 dX12_music_50 ?_
    refine lv_topi (fun x4_11 ex4_11 => ?_)
    have hw := hw x4_11 ex4_11
    refine lv_istore (lv' := [(4, .int x4_11), (0, .ref (ad 0)), (1, .int x1_1), (2, .int v2_6), (3, .int v3_7)]) hx hb dX12_music_51 hl (by decide) rfl (fun ls hl => ?_)
    refine lv_iconst (v := 0) hx hb dX12_music_53 (by decide) ?_
    refine lv_istore (lv' := [(5, .int (0 : Int32)), (4, .int x4_11), (0, .ref (ad 0)), (1, .int x1_1), (2, .int v2_6), (3, .int v3_7)]) hx hb dX12_music_54 hl (by decide) rfl (fun ls hl => ?_)
    refine hw (fun (v2_12 : Int32) (v5_13 : Int32) (σ14 : hSt) => ∀ (H : Heap) (locs : List Loc) (ls : Array Slot), va_P D vwCl (hC N ad (bY cy ad w) σ14) H → va_S (hA N ad s.heap.size) s.heap H locs → lv_has ls 6 [(0, .ref (ad 0)), (1, .int x1_1), (2, .int v2_12), (3, .int v3_7), (4, .int x4_11), (5, .int v5_13)] → W p l e (headSpec wsX12_music ({ frames := 1, cells := 0, slots := 0, locals := 24 } : Room)).room s m ([Value.ref (ad 0)] : List Value).toArray below meth c H locs 0 0 (MQ below (va_Qi (fun (r : Int32) (u : hSt) => Q r u) (hE D (fun u : hSt => hC N ad (bY cy ad w) u)) (hA N ad s.heap.size)) ([Value.ref (ad 0)] : List Value).toArray s 0 0 (hA N ad s.heap.size)) (F0 m 56 ls [])) (fun v2_12 v5_13 σ14 hw H locs ls hP hS hl => ?_) _ _ _ hP hS (lv_sub hl [2, 3, 4, 5, 1, 0] rfl)
    refine lv_iload hx hb dX12_music_56 (lv_at hl 5 rfl) ?_
    refine lv_aload_n hx hb dX12_music_58 rfl (lv_at hl 0 rfl) ?_
    refine hw_get (v := .ref (ad 1)) hx hb hts hiX12 hown hK hP (Nat.lt_of_lt_of_le (by decide) hN) (bY_0 _) rfl 2 (by decide) (List.mem_of_getElem? (i := 6) rfl) rfl rfl dX12_music_59 ?_
    refine lv_iload hx hb dX12_music_62 (lv_at hl 4 rfl) ?_
    obtain ⟨hi15, hw⟩ := hw
    refine hw_iald hx hb hK hP (Nat.lt_of_lt_of_le (by decide) hN) (bY_1 _) hi15 dX12_music_64 ?_
    refine lv_icmp_ge (tgt := 140) hx hb dX12_music_65 (by decide) (fun c16 => ?_) (fun c16 => ?_)
    · have hw := hw.1 c16
      obtain ⟨x3_17, ex3_17⟩ : ∃ z : Int32, z = v3_7 + (1 : Int32) := ⟨_, rfl⟩
      have hw := hw x3_17 ex3_17
      refine lv_iinc (v := x3_17) (lv' := [(3, .int x3_17), (0, .ref (ad 0)), (1, .int x1_1), (2, .int v2_12), (4, .int x4_11), (5, .int v5_13)]) hx hb dX12_music_140 hl (k := 3) rfl (by rw [ex3_17]; rfl) (by decide) rfl (fun ls hl => ?_)
      refine lv_goto (tgt := 37) hx hb dX12_music_143 (by decide) ?_
      exact hw _ _ _ hP hS (lv_sub hl [1, 2, 3, 0] rfl)
    have hw := hw.2 c16
    refine lv_iload_n hx hb dX12_music_68 rfl (lv_at hl 2 rfl) ?_
    refine lv_aload_n hx hb dX12_music_69 rfl (lv_at hl 0 rfl) ?_
    refine lv_iload_n hx hb dX12_music_70 rfl (lv_at hl 1 rfl) ?_
    refine hw_ki (va_runV (As := [.int x1_1]) (rest := [.int v2_12]) ⟨hx, hb, hml, hown, hts⟩ (kc_X12_fits l D cy N hN ad hJ0 w σ14 _ x1_1 _ hw) (cwV 1 hts gX12_music_X12_fits rfl rfl rfl (by decide +kernel) ⟨Nat.le_of_ble_eq_true rfl, Nat.le_of_ble_eq_true rfl⟩) (hw_preV hK hN1 hP (Nat.lt_of_lt_of_le (by decide) hN) (bY_0 _) rfl) rfl rfl hl.1 rfl (lv_room (Nat.le_of_ble_eq_true rfl)) dX12_music_71 ⟨Nat.zero_le _, Nat.zero_le _⟩) hS (fun r19 σ18 H locs hw hP hS => ?_)
    obtain ⟨hu_, hw⟩ := hw
    rw [hu_] at hP
    obtain ⟨J82, ehJ82, hw⟩ := hM_x hw
    have hJ82 : ∀ (z20 : Int32) (H : Heap) (locs : List Loc) (ls : Array Slot), J82 z20 → va_P D vwCl (hC N ad (bY cy ad w) σ14) H → va_S (hA N ad s.heap.size) s.heap H locs → lv_has ls 6 [(0, .ref (ad 0)), (1, .int x1_1), (3, .int v3_7), (4, .int x4_11), (5, .int v5_13)] → W p l e (headSpec wsX12_music ({ frames := 1, cells := 0, slots := 0, locals := 24 } : Room)).room s m ([Value.ref (ad 0)] : List Value).toArray below meth c H locs 0 0 (MQ below (va_Qi (fun (r : Int32) (u : hSt) => Q r u) (hE D (fun u : hSt => hC N ad (bY cy ad w) u)) (hA N ad s.heap.size)) ([Value.ref (ad 0)] : List Value).toArray s 0 0 (hA N ad s.heap.size)) (F0 m 82 ls [.int z20, .int v2_12]) := by
      intro z20 H locs ls hw hP hS hl
      rw [ehJ82] at hw
      refine lv_iadd hx hb dX12_music_82 ?_
      refine lv_topi (fun x2_21 ex2_21 => ?_)
      have hw := hw x2_21 ex2_21
      refine lv_istore_n (lv' := [(2, .int x2_21), (0, .ref (ad 0)), (1, .int x1_1), (3, .int v3_7), (4, .int x4_11), (5, .int v5_13)]) hx hb dX12_music_83 rfl hl (by decide) rfl (fun ls hl => ?_)
      refine lv_aload_n hx hb dX12_music_84 rfl (lv_at hl 1 rfl) ?_
      refine lv_aload_n hx hb dX12_music_85 rfl (lv_at hl 1 rfl) ?_
      refine hw_get (v := .ref (ad 14)) hx hb hts hiX12 hown hK hP (Nat.lt_of_lt_of_le (by decide) hN) (bY_0 _) rfl 24 (by decide) (List.mem_of_getElem? (i := 3) rfl) rfl rfl dX12_music_86 ?_
      refine lv_iload hx hb dX12_music_89 (lv_at hl 5 rfl) ?_
      refine lv_iconst (v := 1) hx hb dX12_music_91 (by decide) ?_
      refine lv_iadd hx hb dX12_music_92 ?_
      refine lv_aload_n hx hb dX12_music_93 rfl (lv_at hl 1 rfl) ?_
      refine hw_get (v := .ref (ad 1)) hx hb hts hiX12 hown hK hP (Nat.lt_of_lt_of_le (by decide) hN) (bY_0 _) rfl 2 (by decide) (List.mem_of_getElem? (i := 6) rfl) rfl rfl dX12_music_94 ?_
      refine lv_iload hx hb dX12_music_97 (lv_at hl 4 rfl) ?_
      obtain ⟨hi22, hw⟩ := hw
      refine hw_iald hx hb hK hP (Nat.lt_of_lt_of_le (by decide) hN) (bY_1 _) hi22 dX12_music_99 ?_
      refine lv_icmp_ge (tgt := 119) hx hb dX12_music_100 (by decide) (fun c23 => ?_) (fun c23 => ?_)
      · have hw := hw.1 c23
        refine lv_aload_n hx hb dX12_music_119 rfl (lv_at hl 1 rfl) ?_
        refine lv_iload hx hb dX12_music_120 (lv_at hl 4 rfl) ?_
        refine lv_aload_n hx hb dX12_music_122 rfl (lv_at hl 1 rfl) ?_
        refine hw_get (v := .ref (ad 4)) hx hb hts hiX12 hown hK hP (Nat.lt_of_lt_of_le (by decide) hN) (bY_0 _) rfl 5 (by decide) (List.mem_of_getElem? (i := 8) rfl) rfl rfl dX12_music_123 ?_
        refine lv_iload_n hx hb dX12_music_126 rfl (lv_at hl 3 rfl) ?_
        obtain ⟨hi24, hw⟩ := hw
        refine hw_iald hx hb hK hP (Nat.lt_of_lt_of_le (by decide) hN) (bY_4 _) hi24 dX12_music_127 ?_
        refine hw_ki (va_runV (As := [.int x4_11, .int (σ14 4 (v3_7).toNatClampNeg)]) (rest := [.ref (ad 14), .ref (ad 0)]) ⟨hx, hb, hml, hown, hts⟩ (kc_X12_last l D cy N hN ad hJ0 w σ14 _ x4_11 (σ14 4 (v3_7).toNatClampNeg) _ hw) (cwV 2 hts gX12_music_X12_last rfl rfl rfl (by decide +kernel) ⟨Nat.le_of_ble_eq_true rfl, Nat.le_of_ble_eq_true rfl⟩) (hw_preV hK hN1 hP (Nat.lt_of_lt_of_le (by decide) hN) (bY_0 _) rfl) rfl rfl hl.1 rfl (lv_room (Nat.le_of_ble_eq_true rfl)) dX12_music_128 ⟨Nat.zero_le _, Nat.zero_le _⟩) hS (fun r26 σ25 H locs hw hP hS => ?_)
        obtain ⟨hu_, hw⟩ := hw
        rw [hu_] at hP
        refine hw_kv (va_runV (As := [.ref (ad 14), .int r26]) (rest := []) ⟨hx, hb, hml, hown, hts⟩ (kc_X12_ring l D cy N hN ad hJ0 w σ14 _ 14 h8_14 r26 _ hw) (cwV 2 hts gX12_music_X12_ring rfl rfl rfl (by decide +kernel) ⟨Nat.le_of_ble_eq_true rfl, Nat.le_of_ble_eq_true rfl⟩) (hw_preV hK hN1 hP (Nat.lt_of_lt_of_le (by decide) hN) (bY_0 _) rfl) rfl rfl hl.1 rfl (lv_room (Nat.le_of_ble_eq_true rfl)) dX12_music_131 ⟨Nat.zero_le _, Nat.zero_le _⟩) hS (fun σ27 H locs hw hP hS => ?_)
        obtain ⟨x5_28, ex5_28⟩ : ∃ z : Int32, z = v5_13 + (1 : Int32) := ⟨_, rfl⟩
        have hw := hw x5_28 ex5_28
        refine lv_iinc (v := x5_28) (lv' := [(5, .int x5_28), (2, .int x2_21), (0, .ref (ad 0)), (1, .int x1_1), (3, .int v3_7), (4, .int x4_11)]) hx hb dX12_music_134 hl (k := 5) rfl (by rw [ex5_28]; rfl) (by decide) rfl (fun ls hl => ?_)
        refine lv_goto (tgt := 56) hx hb dX12_music_137 (by decide) ?_
        exact hw _ _ _ hP hS (lv_sub hl [2, 3, 1, 4, 5, 0] rfl)
      have hw := hw.2 c23
      refine lv_aload_n hx hb dX12_music_103 rfl (lv_at hl 1 rfl) ?_
      refine hw_get (v := .ref (ad 2)) hx hb hts hiX12 hown hK hP (Nat.lt_of_lt_of_le (by decide) hN) (bY_0 _) rfl 3 (by decide) (List.mem_of_getElem? (i := 7) rfl) rfl rfl dX12_music_104 ?_
      refine lv_bipush (v := 66) hx hb dX12_music_107 (by decide) ?_
      refine lv_iload hx hb dX12_music_109 (lv_at hl 4 rfl) ?_
      refine lv_imul hx hb dX12_music_111 ?_
      refine lv_iload hx hb dX12_music_112 (lv_at hl 5 rfl) ?_
      refine lv_iadd hx hb dX12_music_114 ?_
      obtain ⟨hi29, hw⟩ := hw
      refine hw_iald hx hb hK hP (Nat.lt_of_lt_of_le (by decide) hN) (bY_2 _) hi29 dX12_music_115 ?_
      refine lv_goto (tgt := 131) hx hb dX12_music_116 (by decide) ?_
      refine hw_kv (va_runV (As := [.ref (ad 14), .int (σ14 2 ((((66 : Int32) * x4_11) + v5_13)).toNatClampNeg)]) (rest := []) ⟨hx, hb, hml, hown, hts⟩ (kc_X12_ring l D cy N hN ad hJ0 w σ14 _ 14 h8_14 (σ14 2 ((((66 : Int32) * x4_11) + v5_13)).toNatClampNeg) _ hw) (cwV 2 hts gX12_music_X12_ring rfl rfl rfl (by decide +kernel) ⟨Nat.le_of_ble_eq_true rfl, Nat.le_of_ble_eq_true rfl⟩) (hw_preV hK hN1 hP (Nat.lt_of_lt_of_le (by decide) hN) (bY_0 _) rfl) rfl rfl hl.1 rfl (lv_room (Nat.le_of_ble_eq_true rfl)) dX12_music_131 ⟨Nat.zero_le _, Nat.zero_le _⟩) hS (fun σ30 H locs hw hP hS => ?_)
      obtain ⟨x5_31, ex5_31⟩ : ∃ z : Int32, z = v5_13 + (1 : Int32) := ⟨_, rfl⟩
      have hw := hw x5_31 ex5_31
      refine lv_iinc (v := x5_31) (lv' := [(5, .int x5_31), (2, .int x2_21), (0, .ref (ad 0)), (1, .int x1_1), (3, .int v3_7), (4, .int x4_11)]) hx hb dX12_music_134 hl (k := 5) rfl (by rw [ex5_31]; rfl) (by decide) rfl (fun ls hl => ?_)
      refine lv_goto (tgt := 56) hx hb dX12_music_137 (by decide) ?_
      exact hw _ _ _ hP hS (lv_sub hl [2, 3, 1, 4, 5, 0] rfl)
    refine lv_if_eq (tgt := 81) hx hb dX12_music_74 (by decide) (fun c32 => ?_) (fun c32 => ?_)
    · have hw := hw.1 c32
      refine lv_iconst (v := 0) hx hb dX12_music_81 (by decide) ?_
      exact hJ82 _ _ _ _ hw hP hS (lv_sub hl [0, 1, 3, 4, 5] rfl)
    have hw := hw.2 c32
    refine lv_iconst (v := 1) hx hb dX12_music_77 (by decide) ?_
    refine lv_goto (tgt := 82) hx hb dX12_music_78 (by decide) ?_
    exact hJ82 _ _ _ _ hw hP hS (lv_sub hl [0, 1, 3, 4, 5] rfl)
  have hw := hw.2 c4
  refine lv_iconst (v := -1) hx hb dX12_music_23 (by decide) ?_
  exact hw_iret hx hb hr hlocks (σ2) hw hP hS dX12_music_24
set_option maxHeartbeats 4000000 in
set_option maxRecDepth 100000 in
theorem kc_X12_whole (l : Launch) (D : va_G) (cy : Nat → ClassId) (N : Nat) (hN : 22 ≤ N) (ad : Nat → Nat) (hJ0 : hJ N ad) (w : Nat → Int64) (σ : hSt) (sz : Nat)  (Q : Int32 → hSt → (Nat → Int64) → Prop) (hw : wp_X12_whole  σ w Q) : Met l yX12_whole wsX12_whole ({ frames := 2, cells := 0, slots := 0, locals := 52 } : Room) (va_Pc [.ref (ad 0)] (hB D cy (hC N ad (bY cy ad w) σ) sz)) (va_Qi (fun (r : Int32) (u : hSt × (Nat → Int64)) => Q r u.1 u.2) (hE D (fun u : hSt × (Nat → Int64) => hC N ad (bY cy ad u.2) u.1)) (hA N ad sz)) 0 0 (hA N ad sz) := by
  refine Met.ofW (cc := cX12_whole) (maxL := 2) (ret := (some .int)) (by decide) rfl ?_
  intro p e s m args below meth c s₁ B hml hv
  obtain ⟨rfl, hsz, hP, hK, hN1⟩ := hv
  have hx := B.exec
  have hb := B.bytes
  have hr := B.returns
  have hts := atoms_spec (ws := wsX12_whole) B.pre
  have hown : s.vm.findClass RX12 = some m.cls := findClass_of_methodNamed B.named
  have hlocks := B.notSynchronized
  subst hsz
  have hS : va_S (hA N ad s.heap.size) s.heap s.heap [] := va_S.rf
  have hiX12 : ∀ w ∈ wsX120, w ∈ wsX12_whole := fun _ h => List.mem_cons_of_mem _ (List.mem_append_right _ h)
  have hl := lv_entry ([.ref (ad 0)]) (n := 2) (Nat.le_of_ble_eq_true rfl)
  rw [lg_entry_eq]
  generalize (lg_sl ([.ref (ad 0)]) ++ List.replicate (2 - (lg_sl ([.ref (ad 0)])).length) Slot.unset).toArray = ls at hl ⊢
  have hl : lv_has ls 2 [(0, .ref (ad 0))] := hl
  unfold wp_X12_whole at hw
  refine lv_aload_n hx hb dX12_whole_0 rfl (lv_at hl 0 rfl) ?_
  refine lv_iconst (v := 0) hx hb dX12_whole_1 (by decide) ?_
  refine hw_put (x := (0 : Int32)) (j := 0) hx hb hts hiX12 tyX12 tyX12_ok nmX12 hown hK hJ0 hP hS (Nat.lt_of_lt_of_le (by decide) hN) (bY_0 _) rfl (by decide) (List.mem_of_getElem? (i := 1) rfl) rfl rfl rfl rfl (Nat.le_of_ble_eq_true rfl) (by rw [bY_0]; rfl) dX12_whole_2 (fun H locs hP hS => ?_)
  refine lv_aload_n hx hb dX12_whole_5 rfl (lv_at hl 0 rfl) ?_
  refine lv_iconst (v := 1) hx hb dX12_whole_6 (by decide) ?_
  refine lv_iconst (v := -1) hx hb dX12_whole_7 (by decide) ?_
  refine hw_kv (va_runV (As := [.int (1 : Int32), .int (-1 : Int32)]) (rest := []) ⟨hx, hb, hml, hown, hts⟩ (kc_X12_ringAll l D cy N hN ad hJ0 w (hup σ 0 0 (0 : Int32)) _ (1 : Int32) (-1 : Int32) _ hw) (cwV 2 hts gX12_whole_X12_ringAll rfl rfl rfl (by decide +kernel) ⟨Nat.le_of_ble_eq_true rfl, Nat.le_of_ble_eq_true rfl⟩) (hw_preV hK hN1 hP (Nat.lt_of_lt_of_le (by decide) hN) (bY_0 _) rfl) rfl rfl hl.1 rfl (lv_room (Nat.le_of_ble_eq_true rfl)) dX12_whole_8 ⟨Nat.zero_le _, Nat.zero_le _⟩) hS (fun σ1 H locs hw hP hS => ?_)
  refine lv_aload_n hx hb dX12_whole_11 rfl (lv_at hl 0 rfl) ?_
  refine hw_ki (va_runV (As := []) (rest := []) ⟨hx, hb, hml, hown, hts⟩ (kc_X12_order l D cy N hN ad hJ0 w σ1 _  _ hw) (cwV 0 hts gX12_whole_X12_order rfl rfl rfl (by decide +kernel) ⟨Nat.le_of_ble_eq_true rfl, Nat.le_of_ble_eq_true rfl⟩) (hw_preV hK hN1 hP (Nat.lt_of_lt_of_le (by decide) hN) (bY_0 _) rfl) rfl rfl hl.1 rfl (lv_room (Nat.le_of_ble_eq_true rfl)) dX12_whole_12 ⟨Nat.zero_le _, Nat.zero_le _⟩) hS (fun r3 u_ H locs hw hP hS => ?_)
  obtain ⟨σ2, w4⟩ := u_
  refine lv_istore_n (lv' := [(1, .int r3), (0, .ref (ad 0))]) hx hb dX12_whole_15 rfl hl (by decide) rfl (fun ls hl => ?_)
  refine lv_iload_n hx hb dX12_whole_16 rfl (lv_at hl 0 rfl) ?_
  refine lv_aload_n hx hb dX12_whole_17 rfl (lv_at hl 1 rfl) ?_
  refine hw_get (v := .int (σ2 0 6)) hx hb hts hiX12 hown hK hP (Nat.lt_of_lt_of_le (by decide) hN) (bY_0 _) rfl 6 (by decide) (List.mem_of_getElem? (i := 2) rfl) rfl rfl dX12_whole_18 ?_
  refine lv_imul hx hb dX12_whole_21 ?_
  refine lv_sipush (v := 1000) hx hb dX12_whole_22 (by decide) ?_
  refine lv_icmp_le (tgt := 30) hx hb dX12_whole_25 (by decide) (fun c5 => ?_) (fun c5 => ?_)
  · have hw := hw.1 c5
    refine lv_aload_n hx hb dX12_whole_30 rfl (lv_at hl 1 rfl) ?_
    refine lv_iload_n hx hb dX12_whole_31 rfl (lv_at hl 0 rfl) ?_
    refine lv_iconst (v := -1) hx hb dX12_whole_32 (by decide) ?_
    refine hw_kv (va_runV (As := [.int r3, .int (-1 : Int32)]) (rest := []) ⟨hx, hb, hml, hown, hts⟩ (kc_X12_ringAll l D cy N hN ad hJ0 w4 σ2 _ r3 (-1 : Int32) _ hw) (cwV 2 hts gX12_whole_X12_ringAll rfl rfl rfl (by decide +kernel) ⟨Nat.le_of_ble_eq_true rfl, Nat.le_of_ble_eq_true rfl⟩) (hw_preV hK hN1 hP (Nat.lt_of_lt_of_le (by decide) hN) (bY_0 _) rfl) rfl rfl hl.1 rfl (lv_room (Nat.le_of_ble_eq_true rfl)) dX12_whole_33 ⟨Nat.zero_le _, Nat.zero_le _⟩) hS (fun σ6 H locs hw hP hS => ?_)
    refine lv_aload_n hx hb dX12_whole_36 rfl (lv_at hl 1 rfl) ?_
    refine hw_get (v := .int (σ6 0 30)) hx hb hts hiX12 hown hK hP (Nat.lt_of_lt_of_le (by decide) hN) (bY_0 _) rfl 30 (by decide) (List.mem_of_getElem? (i := 3) rfl) rfl rfl dX12_whole_37 ?_
    refine lv_if_ge (tgt := 47) hx hb dX12_whole_40 (by decide) (fun c7 => ?_) (fun c7 => ?_)
    · have hw := hw.1 c7
      refine lv_iconst (v := 0) hx hb dX12_whole_47 (by decide) ?_
      exact hw_iret hx hb hr hlocks (σ6, w4) hw hP hS dX12_whole_48
    have hw := hw.2 c7
    refine lv_iconst (v := 1) hx hb dX12_whole_43 (by decide) ?_
    refine lv_goto (tgt := 48) hx hb dX12_whole_44 (by decide) ?_
    exact hw_iret hx hb hr hlocks (σ6, w4) hw hP hS dX12_whole_48
  have hw := hw.2 c5
  refine lv_iconst (v := -1) hx hb dX12_whole_28 (by decide) ?_
  exact hw_iret hx hb hr hlocks (σ2, w4) hw hP hS dX12_whole_29
set_option maxHeartbeats 4000000 in
set_option maxRecDepth 100000 in
theorem kc_X12_put (l : Launch) (D : va_G) (cy : Nat → ClassId) (N : Nat) (hN : 22 ≤ N) (ad : Nat → Nat) (hJ0 : hJ N ad) (w : Nat → Int64) (σ : hSt) (sz : Nat) (a1 : Int32) (a2 : Int32) (a3 : Int32) (a4 : Int32) (Q : Int32 → hSt → Prop) (hw : wp_X12_put a1 a2 a3 a4 σ w Q) : Met l yX12_put wsX12_put ({ frames := 1, cells := 0, slots := 0, locals := 25 } : Room) (va_Pc [.ref (ad 0), .int a1, .int a2, .int a3, .int a4] (hB D cy (hC N ad (bY cy ad w) σ) sz)) (va_Qi (fun (r : Int32) (u : hSt) => Q r u) (hE D (fun u : hSt => hC N ad (bY cy ad w) u)) (hA N ad sz)) 0 0 (hA N ad sz) := by
  refine Met.ofW (cc := cX12_put) (maxL := 7) (ret := (some .int)) (by decide) rfl ?_
  intro p e s m args below meth c s₁ B hml hv
  obtain ⟨rfl, hsz, hP, hK, hN1⟩ := hv
  have hx := B.exec
  have hb := B.bytes
  have hr := B.returns
  have hts := atoms_spec (ws := wsX12_put) B.pre
  have hown : s.vm.findClass RX12 = some m.cls := findClass_of_methodNamed B.named
  have hlocks := B.notSynchronized
  subst hsz
  have hS : va_S (hA N ad s.heap.size) s.heap s.heap [] := va_S.rf
  have hiX12 : ∀ w ∈ wsX120, w ∈ wsX12_put := fun _ h => List.mem_cons_of_mem _ (List.mem_append_right _ h)
  have hl := lv_entry ([.ref (ad 0), .int a1, .int a2, .int a3, .int a4]) (n := 7) (Nat.le_of_ble_eq_true rfl)
  rw [lg_entry_eq]
  generalize (lg_sl ([.ref (ad 0), .int a1, .int a2, .int a3, .int a4]) ++ List.replicate (7 - (lg_sl ([.ref (ad 0), .int a1, .int a2, .int a3, .int a4])).length) Slot.unset).toArray = ls at hl ⊢
  have hl : lv_has ls 7 [(0, .ref (ad 0)), (1, .int a1), (2, .int a2), (3, .int a3), (4, .int a4)] := hl
  unfold wp_X12_put at hw
  refine lv_iconst (v := 0) hx hb dX12_put_0 (by decide) ?_
  refine lv_istore (lv' := [(5, .int (0 : Int32)), (0, .ref (ad 0)), (1, .int a1), (2, .int a2), (3, .int a3), (4, .int a4)]) hx hb dX12_put_1 hl (by decide) rfl (fun ls hl => ?_)
  refine hw (fun (v5_1 : Int32) (σ2 : hSt) => ∀ (H : Heap) (locs : List Loc) (ls : Array Slot), va_P D vwCl (hC N ad (bY cy ad w) σ2) H → va_S (hA N ad s.heap.size) s.heap H locs → lv_has ls 7 [(0, .ref (ad 0)), (1, .int a1), (2, .int a2), (3, .int a3), (4, .int a4), (5, .int v5_1)] → W p l e (headSpec wsX12_put ({ frames := 1, cells := 0, slots := 0, locals := 25 } : Room)).room s m ([Value.ref (ad 0), Value.int a1, Value.int a2, Value.int a3, Value.int a4] : List Value).toArray below meth c H locs 0 0 (MQ below (va_Qi (fun (r : Int32) (u : hSt) => Q r u) (hE D (fun u : hSt => hC N ad (bY cy ad w) u)) (hA N ad s.heap.size)) ([Value.ref (ad 0), Value.int a1, Value.int a2, Value.int a3, Value.int a4] : List Value).toArray s 0 0 (hA N ad s.heap.size)) (F0 m 3 ls [])) (fun v5_1 σ2 hw H locs ls hP hS hl => ?_) _ _ _ hP hS (lv_sub hl [1, 2, 3, 4, 5, 0] rfl)
  refine lv_iload hx hb dX12_put_3 (lv_at hl 5 rfl) ?_
  refine lv_aload_n hx hb dX12_put_5 rfl (lv_at hl 0 rfl) ?_
  refine hw_get (v := .int (σ2 0 1)) hx hb hts hiX12 hown hK hP (Nat.lt_of_lt_of_le (by decide) hN) (bY_0 _) rfl 1 (by decide) (List.mem_of_getElem? (i := 1) rfl) rfl rfl dX12_put_6 ?_
  refine lv_icmp_ge (tgt := 37) hx hb dX12_put_9 (by decide) (fun c3 => ?_) (fun c3 => ?_)
  · have hw := hw.1 c3
    refine lv_iconst (v := 0) hx hb dX12_put_37 (by decide) ?_
    refine lv_istore (lv' := [(5, .int (0 : Int32)), (0, .ref (ad 0)), (1, .int a1), (2, .int a2), (3, .int a3), (4, .int a4)]) hx hb dX12_put_38 hl (by decide) rfl (fun ls hl => ?_)
    refine hw (fun (v5_4 : Int32) (σ5 : hSt) => ∀ (H : Heap) (locs : List Loc) (ls : Array Slot), va_P D vwCl (hC N ad (bY cy ad w) σ5) H → va_S (hA N ad s.heap.size) s.heap H locs → lv_has ls 7 [(0, .ref (ad 0)), (1, .int a1), (3, .int a3), (4, .int a4), (5, .int v5_4)] → W p l e (headSpec wsX12_put ({ frames := 1, cells := 0, slots := 0, locals := 25 } : Room)).room s m ([Value.ref (ad 0), Value.int a1, Value.int a2, Value.int a3, Value.int a4] : List Value).toArray below meth c H locs 0 0 (MQ below (va_Qi (fun (r : Int32) (u : hSt) => Q r u) (hE D (fun u : hSt => hC N ad (bY cy ad w) u)) (hA N ad s.heap.size)) ([Value.ref (ad 0), Value.int a1, Value.int a2, Value.int a3, Value.int a4] : List Value).toArray s 0 0 (hA N ad s.heap.size)) (F0 m 40 ls [])) (fun v5_4 σ5 hw H locs ls hP hS hl => ?_) _ _ _ hP hS (lv_sub hl [1, 2, 4, 5, 0] rfl)
    refine lv_iload hx hb dX12_put_40 (lv_at hl 4 rfl) ?_
    refine lv_iload_n hx hb dX12_put_42 rfl (lv_at hl 2 rfl) ?_
    refine lv_icmp_ge (tgt := 109) hx hb dX12_put_43 (by decide) (fun c6 => ?_) (fun c6 => ?_)
    · have hw := hw.1 c6
      refine lv_iload_n hx hb dX12_put_109 rfl (lv_at hl 2 rfl) ?_
      exact hw_iret hx hb hr hlocks (σ5) hw hP hS dX12_put_110
    have hw := hw.2 c6
    refine lv_aload_n hx hb dX12_put_46 rfl (lv_at hl 0 rfl) ?_
    refine lv_aload_n hx hb dX12_put_47 rfl (lv_at hl 0 rfl) ?_
    refine hw_get (v := .ref (ad 14)) hx hb hts hiX12 hown hK hP (Nat.lt_of_lt_of_le (by decide) hN) (bY_0 _) rfl 24 (by decide) (List.mem_of_getElem? (i := 2) rfl) rfl rfl dX12_put_48 ?_
    refine hw_ki (va_runV (As := [.ref (ad 14)]) (rest := []) ⟨hx, hb, hml, hown, hts⟩ (kc_X12_rank l D cy N hN ad hJ0 w σ5 _ 14 h8_14 _ hw) (cwV 1 hts gX12_put_X12_rank rfl rfl rfl (by decide +kernel) ⟨Nat.le_of_ble_eq_true rfl, Nat.le_of_ble_eq_true rfl⟩) (hw_preV hK hN1 hP (Nat.lt_of_lt_of_le (by decide) hN) (bY_0 _) rfl) rfl rfl hl.1 rfl (lv_room (Nat.le_of_ble_eq_true rfl)) dX12_put_51 ⟨Nat.zero_le _, Nat.zero_le _⟩) hS (fun r8 σ7 H locs hw hP hS => ?_)
    obtain ⟨hu_, hw⟩ := hw
    rw [hu_] at hP
    refine lv_istore (lv' := [(6, .int r8), (0, .ref (ad 0)), (1, .int a1), (3, .int a3), (4, .int a4), (5, .int v5_4)]) hx hb dX12_put_54 hl (by decide) rfl (fun ls hl => ?_)
    refine lv_iload hx hb dX12_put_56 (lv_at hl 4 rfl) ?_
    obtain ⟨J74, ehJ74, hw⟩ := hM_x hw
    have hJ74 : ∀ (H : Heap) (locs : List Loc) (ls : Array Slot), J74 → va_P D vwCl (hC N ad (bY cy ad w) σ5) H → va_S (hA N ad s.heap.size) s.heap H locs → lv_has ls 7 [(0, .ref (ad 0)), (1, .int a1), (3, .int a3), (4, .int a4), (5, .int v5_4), (6, .int r8)] → W p l e (headSpec wsX12_put ({ frames := 1, cells := 0, slots := 0, locals := 25 } : Room)).room s m ([Value.ref (ad 0), Value.int a1, Value.int a2, Value.int a3, Value.int a4] : List Value).toArray below meth c H locs 0 0 (MQ below (va_Qi (fun (r : Int32) (u : hSt) => Q r u) (hE D (fun u : hSt => hC N ad (bY cy ad w) u)) (hA N ad s.heap.size)) ([Value.ref (ad 0), Value.int a1, Value.int a2, Value.int a3, Value.int a4] : List Value).toArray s 0 0 (hA N ad s.heap.size)) (F0 m 74 ls []) := by
      intro H locs ls hw hP hS hl
      rw [ehJ74] at hw
      refine lv_aload_n hx hb dX12_put_74 rfl (lv_at hl 0 rfl) ?_
      refine hw_get (v := .ref (ad 21)) hx hb hts hiX12 hown hK hP (Nat.lt_of_lt_of_le (by decide) hN) (bY_0 _) rfl 36 (by decide) (List.mem_of_getElem? (i := 4) rfl) rfl rfl dX12_put_75 ?_
      refine lv_iload hx hb dX12_put_78 (lv_at hl 5 rfl) ?_
      refine lv_iload hx hb dX12_put_80 (lv_at hl 3 rfl) ?_
      obtain ⟨hi9, hw⟩ := hw
      refine hw_zast hx hb hK hJ0 hP hS (Nat.lt_of_lt_of_le (by decide) hN) (fun ρ => bY_21 ρ) hi9 dX12_put_82 (fun H locs hP hS => ?_)
      refine lv_aload_n hx hb dX12_put_83 rfl (lv_at hl 0 rfl) ?_
      refine lv_aload_n hx hb dX12_put_84 rfl (lv_at hl 0 rfl) ?_
      refine hw_get (v := .ref (ad 14)) hx hb hts hiX12 hown hK hP (Nat.lt_of_lt_of_le (by decide) hN) (bY_0 _) rfl 24 (by decide) (List.mem_of_getElem? (i := 2) rfl) rfl rfl dX12_put_85 ?_
      refine lv_aload_n hx hb dX12_put_88 rfl (lv_at hl 0 rfl) ?_
      refine hw_get (v := .ref (ad 2)) hx hb hts hiX12 hown hK hP (Nat.lt_of_lt_of_le (by decide) hN) (bY_0 _) rfl 3 (by decide) (List.mem_of_getElem? (i := 5) rfl) rfl rfl dX12_put_89 ?_
      refine lv_bipush (v := 66) hx hb dX12_put_92 (by decide) ?_
      refine lv_iload_n hx hb dX12_put_94 rfl (lv_at hl 1 rfl) ?_
      refine lv_imul hx hb dX12_put_95 ?_
      refine lv_iload hx hb dX12_put_96 (lv_at hl 4 rfl) ?_
      refine lv_iadd hx hb dX12_put_98 ?_
      obtain ⟨hi10, hw⟩ := hw
      refine hw_iald hx hb hK hP (Nat.lt_of_lt_of_le (by decide) hN) (bY_2 _) hi10 dX12_put_99 ?_
      refine hw_kv (va_runV (As := [.ref (ad 14), .int ((hup σ5 21 (r8).toNatClampNeg (vp_nar .boolean a4)) 2 ((((66 : Int32) * a1) + v5_4)).toNatClampNeg)]) (rest := []) ⟨hx, hb, hml, hown, hts⟩ (kc_X12_ring l D cy N hN ad hJ0 w (hup σ5 21 (r8).toNatClampNeg (vp_nar .boolean a4)) _ 14 h8_14 ((hup σ5 21 (r8).toNatClampNeg (vp_nar .boolean a4)) 2 ((((66 : Int32) * a1) + v5_4)).toNatClampNeg) _ hw) (cwV 2 hts gX12_put_X12_ring rfl rfl rfl (by decide +kernel) ⟨Nat.le_of_ble_eq_true rfl, Nat.le_of_ble_eq_true rfl⟩) (hw_preV hK hN1 hP (Nat.lt_of_lt_of_le (by decide) hN) (bY_0 _) rfl) rfl rfl hl.1 rfl (lv_room (Nat.le_of_ble_eq_true rfl)) dX12_put_100 ⟨Nat.zero_le _, Nat.zero_le _⟩) hS (fun σ11 H locs hw hP hS => ?_)
      obtain ⟨x5_12, ex5_12⟩ : ∃ z : Int32, z = v5_4 + (1 : Int32) := ⟨_, rfl⟩
      have hw := hw x5_12 ex5_12
      refine lv_iinc (v := x5_12) (lv' := [(5, .int x5_12), (0, .ref (ad 0)), (1, .int a1), (3, .int a3), (4, .int a4), (6, .int r8)]) hx hb dX12_put_103 hl (k := 4) rfl (by rw [ex5_12]; rfl) (by decide) rfl (fun ls hl => ?_)
      refine lv_goto (tgt := 40) hx hb dX12_put_106 (by decide) ?_
      exact hw _ _ _ hP hS (lv_sub hl [1, 2, 3, 4, 0] rfl)
    refine lv_if_eq (tgt := 74) hx hb dX12_put_58 (by decide) (fun c13 => ?_) (fun c13 => ?_)
    · have hw := hw.1 c13
      exact hJ74  _ _ _ hw hP hS (lv_sub hl [1, 2, 3, 4, 5, 0] rfl)
    have hw := hw.2 c13
    refine lv_aload_n hx hb dX12_put_61 rfl (lv_at hl 1 rfl) ?_
    refine hw_get (v := .ref (ad 21)) hx hb hts hiX12 hown hK hP (Nat.lt_of_lt_of_le (by decide) hN) (bY_0 _) rfl 36 (by decide) (List.mem_of_getElem? (i := 4) rfl) rfl rfl dX12_put_62 ?_
    refine lv_iload hx hb dX12_put_65 (lv_at hl 0 rfl) ?_
    obtain ⟨hi14, hw⟩ := hw
    refine hw_zald hx hb hK hP (Nat.lt_of_lt_of_le (by decide) hN) (bY_21 _) hi14 dX12_put_67 ?_
    refine lv_if_eq (tgt := 74) hx hb dX12_put_68 (by decide) (fun c15 => ?_) (fun c15 => ?_)
    · have hw := hw.1 c15
      exact hJ74  _ _ _ hw hP hS (lv_sub hl [1, 2, 3, 4, 5, 0] rfl)
    have hw := hw.2 c15
    refine lv_iload hx hb dX12_put_71 (lv_at hl 5 rfl) ?_
    exact hw_iret hx hb hr hlocks (σ5) hw hP hS dX12_put_73
  have hw := hw.2 c3
  refine lv_aload_n hx hb dX12_put_12 rfl (lv_at hl 0 rfl) ?_
  refine hw_get (v := .ref (ad 14)) hx hb hts hiX12 hown hK hP (Nat.lt_of_lt_of_le (by decide) hN) (bY_0 _) rfl 24 (by decide) (List.mem_of_getElem? (i := 2) rfl) rfl rfl dX12_put_13 ?_
  refine lv_iload hx hb dX12_put_16 (lv_at hl 5 rfl) ?_
  refine lv_aload_n hx hb dX12_put_18 rfl (lv_at hl 0 rfl) ?_
  refine hw_get (v := .ref (ad 19)) hx hb hts hiX12 hown hK hP (Nat.lt_of_lt_of_le (by decide) hN) (bY_0 _) rfl 34 (by decide) (List.mem_of_getElem? (i := 3) rfl) rfl rfl dX12_put_19 ?_
  refine lv_bipush (v := 8) hx hb dX12_put_22 (by decide) ?_
  refine lv_iload_n hx hb dX12_put_24 rfl (lv_at hl 2 rfl) ?_
  refine lv_imul hx hb dX12_put_25 ?_
  refine lv_iload hx hb dX12_put_26 (lv_at hl 5 rfl) ?_
  refine lv_iadd hx hb dX12_put_28 ?_
  obtain ⟨hi16, hw⟩ := hw
  refine hw_iald hx hb hK hP (Nat.lt_of_lt_of_le (by decide) hN) (bY_19 _) hi16 dX12_put_29 ?_
  obtain ⟨hi17, hw⟩ := hw
  refine hw_iast hx hb hK hJ0 hP hS (Nat.lt_of_lt_of_le (by decide) hN) (fun ρ => bY_14 ρ) hi17 dX12_put_30 (fun H locs hP hS => ?_)
  obtain ⟨x5_18, ex5_18⟩ : ∃ z : Int32, z = v5_1 + (1 : Int32) := ⟨_, rfl⟩
  have hw := hw x5_18 ex5_18
  refine lv_iinc (v := x5_18) (lv' := [(5, .int x5_18), (0, .ref (ad 0)), (1, .int a1), (2, .int a2), (3, .int a3), (4, .int a4)]) hx hb dX12_put_31 hl (k := 5) rfl (by rw [ex5_18]; rfl) (by decide) rfl (fun ls hl => ?_)
  refine lv_goto (tgt := 3) hx hb dX12_put_34 (by decide) ?_
  exact hw _ _ _ hP hS (lv_sub hl [1, 2, 3, 4, 5, 0] rfl)

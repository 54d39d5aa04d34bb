set_option maxHeartbeats 4000000 in
set_option maxRecDepth 100000 in
theorem kc_X1_closeGroup (l : Launch) (D : va_G) (cy : Nat → ClassId) (N : Nat) (hN : 38 ≤ N) (ad : Nat → Nat) (hJ0 : hJ N ad) (σ : hSt) (sz : Nat) (a1 : Int32) (Q : hSt → Prop) (hw : wp_X1_closeGroup a1 σ Q) : Met l yX1_closeGroup wsX1_closeGroup ({ frames := 2, cells := 0, slots := 0, locals := 43 } : Room) (va_Pc [.ref (ad 24), .int a1] (hB D cy (hC N ad (bX cy ad) σ) sz)) (va_Qv (fun u : hSt => Q u) (hE D (fun u : hSt => hC N ad (bX cy ad) u)) (hA N ad sz)) 0 0 (hA N ad sz) := by
  refine Met.ofW (cc := cX1_closeGroup) (maxL := 2) (ret := none) (by decide) rfl ?_
  intro p e s m args below meth c s₁ B hml hv
  obtain ⟨rfl, hsz, hP, hK, hN1⟩ := hv
  have hx := B.exec
  have hb := B.bytes
  have hr := B.returns
  have hts := atoms_spec (ws := wsX1_closeGroup) B.pre
  have hown : s.vm.findClass RX1 = some m.cls := findClass_of_methodNamed B.named
  have hlocks := B.notSynchronized
  subst hsz
  have hS : va_S (hA N ad s.heap.size) s.heap s.heap [] := va_S.rf
  have hiX1 : ∀ w ∈ wsX10, w ∈ wsX1_closeGroup := fun _ h => List.mem_cons_of_mem _ (List.mem_append_left _ (List.mem_append_right _ h))
  have hl := lv_entry ([.ref (ad 24), .int a1]) (n := 2) (Nat.le_of_ble_eq_true rfl)
  rw [lg_entry_eq]
  generalize (lg_sl ([.ref (ad 24), .int a1]) ++ List.replicate (2 - (lg_sl ([.ref (ad 24), .int a1])).length) Slot.unset).toArray = ls at hl ⊢
  have hl : lv_has ls 2 [(0, .ref (ad 24)), (1, .int a1)] := hl
  unfold wp_X1_closeGroup at hw
  refine lv_aload_n hx hb dX1_closeGroup_0 rfl (lv_at hl 0 rfl) ?_
  refine hw_get (v := .int (σ 24 8)) hx hb hts hiX1 hown hK hP (Nat.lt_of_lt_of_le (by decide) hN) (bX_24 _) rfl 8 (by decide) (List.mem_of_getElem? (i := 1) rfl) rfl rfl dX1_closeGroup_1 ?_
  refine lv_if_eq (tgt := 22) hx hb dX1_closeGroup_4 (by decide) (fun c1 => ?_) (fun c1 => ?_)
  · have hw := hw.1 c1
    refine lv_aload_n hx hb dX1_closeGroup_22 rfl (lv_at hl 0 rfl) ?_
    refine lv_iconst (v := 1) hx hb dX1_closeGroup_23 (by decide) ?_
    refine lv_iload_n hx hb dX1_closeGroup_24 rfl (lv_at hl 1 rfl) ?_
    refine hw_kv (va_runU (As := [.int (1 : Int32), .int a1]) (rest := []) ⟨hx, hb, hml, hown, hts⟩ (kc_X10_refuse_r24 l D cy N hN ad hJ0 σ _ (1 : Int32) a1 _ hw) (va_cwU 2 hts gX1_closeGroup_X10_refuse_u76X1 rfl rfl rfl rfl (by decide +kernel) ⟨Nat.le_of_ble_eq_true rfl, Nat.le_of_ble_eq_true rfl⟩) (hw_preV hK hN1 hP (Nat.lt_of_lt_of_le (by decide) hN) (bX_24 _) rfl) rfl rfl hl.1 rfl (lv_room (Nat.le_of_ble_eq_true rfl)) dX1_closeGroup_25 ⟨Nat.zero_le _, Nat.zero_le _⟩) hS (fun σ2 H locs hw hP hS => ?_)
    exact hw_vret hx hb hr hlocks (σ2) hw hP hS dX1_closeGroup_28
  have hw := hw.2 c1
  refine lv_aload_n hx hb dX1_closeGroup_7 rfl (lv_at hl 0 rfl) ?_
  refine hw_get (v := .int (σ 24 9)) hx hb hts hiX1 hown hK hP (Nat.lt_of_lt_of_le (by decide) hN) (bX_24 _) rfl 9 (by decide) (List.mem_of_getElem? (i := 2) rfl) rfl rfl dX1_closeGroup_8 ?_
  refine lv_if_ne (tgt := 22) hx hb dX1_closeGroup_11 (by decide) (fun c3 => ?_) (fun c3 => ?_)
  · have hw := hw.1 c3
    refine lv_aload_n hx hb dX1_closeGroup_22 rfl (lv_at hl 0 rfl) ?_
    refine lv_iconst (v := 1) hx hb dX1_closeGroup_23 (by decide) ?_
    refine lv_iload_n hx hb dX1_closeGroup_24 rfl (lv_at hl 1 rfl) ?_
    refine hw_kv (va_runU (As := [.int (1 : Int32), .int a1]) (rest := []) ⟨hx, hb, hml, hown, hts⟩ (kc_X10_refuse_r24 l D cy N hN ad hJ0 σ _ (1 : Int32) a1 _ hw) (va_cwU 2 hts gX1_closeGroup_X10_refuse_u76X1 rfl rfl rfl rfl (by decide +kernel) ⟨Nat.le_of_ble_eq_true rfl, Nat.le_of_ble_eq_true rfl⟩) (hw_preV hK hN1 hP (Nat.lt_of_lt_of_le (by decide) hN) (bX_24 _) rfl) rfl rfl hl.1 rfl (lv_room (Nat.le_of_ble_eq_true rfl)) dX1_closeGroup_25 ⟨Nat.zero_le _, Nat.zero_le _⟩) hS (fun σ4 H locs hw hP hS => ?_)
    exact hw_vret hx hb hr hlocks (σ4) hw hP hS dX1_closeGroup_28
  have hw := hw.2 c3
  refine lv_aload_n hx hb dX1_closeGroup_14 rfl (lv_at hl 0 rfl) ?_
  refine hw_get (v := .int (σ 24 10)) hx hb hts hiX1 hown hK hP (Nat.lt_of_lt_of_le (by decide) hN) (bX_24 _) rfl 10 (by decide) (List.mem_of_getElem? (i := 3) rfl) rfl rfl dX1_closeGroup_15 ?_
  refine lv_iconst (v := -1) hx hb dX1_closeGroup_18 (by decide) ?_
  refine lv_icmp_eq (tgt := 29) hx hb dX1_closeGroup_19 (by decide) (fun c5 => ?_) (fun c5 => ?_)
  · have hw := hw.1 c5
    refine lv_aload_n hx hb dX1_closeGroup_29 rfl (lv_at hl 0 rfl) ?_
    refine lv_dup hx hb dX1_closeGroup_30 rfl ?_
    refine hw_get (v := .int (σ 24 8)) hx hb hts hiX1 hown hK hP (Nat.lt_of_lt_of_le (by decide) hN) (bX_24 _) rfl 8 (by decide) (List.mem_of_getElem? (i := 1) rfl) rfl rfl dX1_closeGroup_31 ?_
    refine lv_iconst (v := 1) hx hb dX1_closeGroup_34 (by decide) ?_
    refine lv_isub hx hb dX1_closeGroup_35 ?_
    refine hw_put (x := ((σ 24 8) - (1 : Int32))) (j := 8) hx hb hts hiX1 tyX1 tyX1_ok nmX1 hown hK hJ0 hP hS (Nat.lt_of_lt_of_le (by decide) hN) (bX_24 _) rfl (by decide) (List.mem_of_getElem? (i := 1) rfl) rfl rfl rfl rfl (Nat.le_of_ble_eq_true rfl) (by rw [bX_24]; rfl) dX1_closeGroup_36 (fun H locs hP hS => ?_)
    refine lv_aload_n hx hb dX1_closeGroup_39 rfl (lv_at hl 0 rfl) ?_
    refine lv_bipush (v := 41) hx hb dX1_closeGroup_40 (by decide) ?_
    refine hw_kv (va_runV (As := [.int (41 : Int32)]) (rest := []) ⟨hx, hb, hml, hown, hts⟩ (kc_X1_addItem l D cy N hN ad hJ0 (hup σ 24 8 ((σ 24 8) - (1 : Int32))) _ (41 : Int32) _ hw) (cwV 1 hts gX1_closeGroup_X1_addItem rfl rfl rfl (by decide +kernel) ⟨Nat.le_of_ble_eq_true rfl, Nat.le_of_ble_eq_true rfl⟩) (hw_preV hK hN1 hP (Nat.lt_of_lt_of_le (by decide) hN) (bX_24 _) rfl) rfl rfl hl.1 rfl (lv_room (Nat.le_of_ble_eq_true rfl)) dX1_closeGroup_42 ⟨Nat.zero_le _, Nat.zero_le _⟩) hS (fun σ6 H locs hw hP hS => ?_)
    exact hw_vret hx hb hr hlocks (σ6) hw hP hS dX1_closeGroup_45
  have hw := hw.2 c5
  refine lv_aload_n hx hb dX1_closeGroup_22 rfl (lv_at hl 0 rfl) ?_
  refine lv_iconst (v := 1) hx hb dX1_closeGroup_23 (by decide) ?_
  refine lv_iload_n hx hb dX1_closeGroup_24 rfl (lv_at hl 1 rfl) ?_
  refine hw_kv (va_runU (As := [.int (1 : Int32), .int a1]) (rest := []) ⟨hx, hb, hml, hown, hts⟩ (kc_X10_refuse_r24 l D cy N hN ad hJ0 σ _ (1 : Int32) a1 _ hw) (va_cwU 2 hts gX1_closeGroup_X10_refuse_u76X1 rfl rfl rfl rfl (by decide +kernel) ⟨Nat.le_of_ble_eq_true rfl, Nat.le_of_ble_eq_true rfl⟩) (hw_preV hK hN1 hP (Nat.lt_of_lt_of_le (by decide) hN) (bX_24 _) rfl) rfl rfl hl.1 rfl (lv_room (Nat.le_of_ble_eq_true rfl)) dX1_closeGroup_25 ⟨Nat.zero_le _, Nat.zero_le _⟩) hS (fun σ7 H locs hw hP hS => ?_)
  exact hw_vret hx hb hr hlocks (σ7) hw hP hS dX1_closeGroup_28
set_option maxHeartbeats 4000000 in
set_option maxRecDepth 100000 in
theorem kc_X1_takeSign (l : Launch) (D : va_G) (cy : Nat → ClassId) (N : Nat) (hN : 38 ≤ N) (ad : Nat → Nat) (hJ0 : hJ N ad) (σ : hSt) (sz : Nat) (a1 : Int32) (a2 : Int32) (Q : hSt → Prop) (hw : wp_X1_takeSign a1 a2 σ Q) : Met l yX1_takeSign wsX1_takeSign ({ frames := 3, cells := 0, slots := 0, locals := 66 } : Room) (va_Pc [.ref (ad 24), .int a1, .int a2] (hB D cy (hC N ad (bX cy ad) σ) sz)) (va_Qv (fun u : hSt => Q u) (hE D (fun u : hSt => hC N ad (bX cy ad) u)) (hA N ad sz)) 0 0 (hA N ad sz) := by
  refine Met.ofW (cc := cX1_takeSign) (maxL := 3) (ret := none) (by decide) rfl ?_
  intro p e s m args below meth c s₁ B hml hv
  obtain ⟨rfl, hsz, hP, hK, hN1⟩ := hv
  have hx := B.exec
  have hb := B.bytes
  have hr := B.returns
  have hts := atoms_spec (ws := wsX1_takeSign) B.pre
  have hown : s.vm.findClass RX1 = some m.cls := findClass_of_methodNamed B.named
  have hlocks := B.notSynchronized
  subst hsz
  have hS : va_S (hA N ad s.heap.size) s.heap s.heap [] := va_S.rf
  have hiX1 : ∀ w ∈ wsX10, w ∈ wsX1_takeSign := fun _ h => List.mem_cons_of_mem _ (List.mem_append_left _ (List.mem_append_left _ (List.mem_append_left _ (List.mem_append_right _ h))))
  have hl := lv_entry ([.ref (ad 24), .int a1, .int a2]) (n := 3) (Nat.le_of_ble_eq_true rfl)
  rw [lg_entry_eq]
  generalize (lg_sl ([.ref (ad 24), .int a1, .int a2]) ++ List.replicate (3 - (lg_sl ([.ref (ad 24), .int a1, .int a2])).length) Slot.unset).toArray = ls at hl ⊢
  have hl : lv_has ls 3 [(0, .ref (ad 24)), (1, .int a1), (2, .int a2)] := hl
  unfold wp_X1_takeSign at hw
  refine lv_iload_n hx hb dX1_takeSign_0 rfl (lv_at hl 1 rfl) ?_
  refine lv_bipush (v := 32) hx hb dX1_takeSign_1 (by decide) ?_
  refine lv_icmp_eq (tgt := 12) hx hb dX1_takeSign_3 (by decide) (fun c1 => ?_) (fun c1 => ?_)
  · have hw := hw.1 c1
    exact hw_vret hx hb hr hlocks (σ) hw hP hS dX1_takeSign_12
  have hw := hw.2 c1
  refine lv_iload_n hx hb dX1_takeSign_6 rfl (lv_at hl 1 rfl) ?_
  refine lv_bipush (v := 10) hx hb dX1_takeSign_7 (by decide) ?_
  refine lv_icmp_ne (tgt := 13) hx hb dX1_takeSign_9 (by decide) (fun c2 => ?_) (fun c2 => ?_)
  · have hw := hw.1 c2
    refine lv_iload_n hx hb dX1_takeSign_13 rfl (lv_at hl 1 rfl) ?_
    refine hw_ki (va_runS (As := [.int a1]) (rest := []) ⟨hx, hb, hml, hown, hts⟩ (kc_X1_callFor l D cy N ad (bX cy ad) σ _ a1 _ hw) (va_cwS 1 hts gX1_takeSign_X1_callFor rfl rfl rfl (by decide +kernel) ⟨Nat.le_of_ble_eq_true rfl, Nat.le_of_ble_eq_true rfl⟩) (hw_pre hK hN1 hP) rfl rfl hl.1 rfl (lv_room (Nat.le_of_ble_eq_true rfl)) dX1_takeSign_14 ⟨Nat.zero_le _, Nat.zero_le _⟩) hS (fun r4 σ3 H locs hw hP hS => ?_)
    obtain ⟨hu_, hw⟩ := hw
    rw [hu_] at hP
    refine lv_iconst (v := -1) hx hb dX1_takeSign_17 (by decide) ?_
    refine lv_icmp_eq (tgt := 34) hx hb dX1_takeSign_18 (by decide) (fun c5 => ?_) (fun c5 => ?_)
    · have hw := hw.1 c5
      refine lv_iload_n hx hb dX1_takeSign_34 rfl (lv_at hl 1 rfl) ?_
      refine lv_bipush (v := 65) hx hb dX1_takeSign_35 (by decide) ?_
      obtain ⟨J67, ehJ67, hw⟩ := hM_x hw
      have hJ67 : ∀ (H : Heap) (locs : List Loc) (ls : Array Slot), J67 → va_P D vwCl (hC N ad (bX cy ad) σ) H → va_S (hA N ad s.heap.size) s.heap H locs → lv_has ls 3 [(0, .ref (ad 24)), (1, .int a1), (2, .int a2)] → W p l e (headSpec wsX1_takeSign ({ frames := 3, cells := 0, slots := 0, locals := 66 } : Room)).room s m ([Value.ref (ad 24), Value.int a1, Value.int a2] : List Value).toArray below meth c H locs 0 0 (MQ below (va_Qv (fun u : hSt => Q u) (hE D (fun u : hSt => hC N ad (bX cy ad) u)) (hA N ad s.heap.size)) ([Value.ref (ad 24), Value.int a1, Value.int a2] : List Value).toArray s 0 0 (hA N ad s.heap.size)) (F0 m 67 ls []) := by
        intro H locs ls hw hP hS hl
        rw [ehJ67] at hw
        refine lv_iload_n hx hb dX1_takeSign_67 rfl (lv_at hl 1 rfl) ?_
        refine lv_bipush (v := 40) hx hb dX1_takeSign_68 (by decide) ?_
        refine lv_icmp_ne (tgt := 81) hx hb dX1_takeSign_70 (by decide) (fun c6 => ?_) (fun c6 => ?_)
        · have hw := hw.1 c6
          refine lv_iload_n hx hb dX1_takeSign_81 rfl (lv_at hl 1 rfl) ?_
          refine lv_bipush (v := 41) hx hb dX1_takeSign_82 (by decide) ?_
          refine lv_icmp_ne (tgt := 95) hx hb dX1_takeSign_84 (by decide) (fun c7 => ?_) (fun c7 => ?_)
          · have hw := hw.1 c7
            refine lv_iload_n hx hb dX1_takeSign_95 rfl (lv_at hl 1 rfl) ?_
            refine lv_iconst (v := -1) hx hb dX1_takeSign_96 (by decide) ?_
            refine lv_icmp_ne (tgt := 122) hx hb dX1_takeSign_97 (by decide) (fun c8 => ?_) (fun c8 => ?_)
            · have hw := hw.1 c8
              refine lv_aload_n hx hb dX1_takeSign_122 rfl (lv_at hl 0 rfl) ?_
              refine lv_iconst (v := 1) hx hb dX1_takeSign_123 (by decide) ?_
              refine lv_iload_n hx hb dX1_takeSign_124 rfl (lv_at hl 2 rfl) ?_
              refine hw_kv (va_runU (As := [.int (1 : Int32), .int a2]) (rest := []) ⟨hx, hb, hml, hown, hts⟩ (kc_X10_refuse_r24 l D cy N hN ad hJ0 σ _ (1 : Int32) a2 _ hw) (va_cwU 2 hts gX1_takeSign_X10_refuse_u76X1 rfl rfl rfl rfl (by decide +kernel) ⟨Nat.le_of_ble_eq_true rfl, Nat.le_of_ble_eq_true rfl⟩) (hw_preV hK hN1 hP (Nat.lt_of_lt_of_le (by decide) hN) (bX_24 _) rfl) rfl rfl hl.1 rfl (lv_room (Nat.le_of_ble_eq_true rfl)) dX1_takeSign_125 ⟨Nat.zero_le _, Nat.zero_le _⟩) hS (fun σ9 H locs hw hP hS => ?_)
              exact hw_vret hx hb hr hlocks (σ9) hw hP hS dX1_takeSign_128
            have hw := hw.2 c8
            refine lv_aload_n hx hb dX1_takeSign_100 rfl (lv_at hl 0 rfl) ?_
            refine hw_get (v := .int (σ 24 8)) hx hb hts hiX1 hown hK hP (Nat.lt_of_lt_of_le (by decide) hN) (bX_24 _) rfl 8 (by decide) (List.mem_of_getElem? (i := 2) rfl) rfl rfl dX1_takeSign_101 ?_
            refine lv_if_gt (tgt := 122) hx hb dX1_takeSign_104 (by decide) (fun c10 => ?_) (fun c10 => ?_)
            · have hw := hw.1 c10
              refine lv_aload_n hx hb dX1_takeSign_122 rfl (lv_at hl 0 rfl) ?_
              refine lv_iconst (v := 1) hx hb dX1_takeSign_123 (by decide) ?_
              refine lv_iload_n hx hb dX1_takeSign_124 rfl (lv_at hl 2 rfl) ?_
              refine hw_kv (va_runU (As := [.int (1 : Int32), .int a2]) (rest := []) ⟨hx, hb, hml, hown, hts⟩ (kc_X10_refuse_r24 l D cy N hN ad hJ0 σ _ (1 : Int32) a2 _ hw) (va_cwU 2 hts gX1_takeSign_X10_refuse_u76X1 rfl rfl rfl rfl (by decide +kernel) ⟨Nat.le_of_ble_eq_true rfl, Nat.le_of_ble_eq_true rfl⟩) (hw_preV hK hN1 hP (Nat.lt_of_lt_of_le (by decide) hN) (bX_24 _) rfl) rfl rfl hl.1 rfl (lv_room (Nat.le_of_ble_eq_true rfl)) dX1_takeSign_125 ⟨Nat.zero_le _, Nat.zero_le _⟩) hS (fun σ11 H locs hw hP hS => ?_)
              exact hw_vret hx hb hr hlocks (σ11) hw hP hS dX1_takeSign_128
            have hw := hw.2 c10
            refine lv_aload_n hx hb dX1_takeSign_107 rfl (lv_at hl 0 rfl) ?_
            refine hw_get (v := .int (σ 24 9)) hx hb hts hiX1 hown hK hP (Nat.lt_of_lt_of_le (by decide) hN) (bX_24 _) rfl 9 (by decide) (List.mem_of_getElem? (i := 3) rfl) rfl rfl dX1_takeSign_108 ?_
            refine lv_if_ne (tgt := 122) hx hb dX1_takeSign_111 (by decide) (fun c12 => ?_) (fun c12 => ?_)
            · have hw := hw.1 c12
              refine lv_aload_n hx hb dX1_takeSign_122 rfl (lv_at hl 0 rfl) ?_
              refine lv_iconst (v := 1) hx hb dX1_takeSign_123 (by decide) ?_
              refine lv_iload_n hx hb dX1_takeSign_124 rfl (lv_at hl 2 rfl) ?_
              refine hw_kv (va_runU (As := [.int (1 : Int32), .int a2]) (rest := []) ⟨hx, hb, hml, hown, hts⟩ (kc_X10_refuse_r24 l D cy N hN ad hJ0 σ _ (1 : Int32) a2 _ hw) (va_cwU 2 hts gX1_takeSign_X10_refuse_u76X1 rfl rfl rfl rfl (by decide +kernel) ⟨Nat.le_of_ble_eq_true rfl, Nat.le_of_ble_eq_true rfl⟩) (hw_preV hK hN1 hP (Nat.lt_of_lt_of_le (by decide) hN) (bX_24 _) rfl) rfl rfl hl.1 rfl (lv_room (Nat.le_of_ble_eq_true rfl)) dX1_takeSign_125 ⟨Nat.zero_le _, Nat.zero_le _⟩) hS (fun σ13 H locs hw hP hS => ?_)
              exact hw_vret hx hb hr hlocks (σ13) hw hP hS dX1_takeSign_128
            have hw := hw.2 c12
            refine lv_aload_n hx hb dX1_takeSign_114 rfl (lv_at hl 0 rfl) ?_
            refine hw_get (v := .int (σ 24 10)) hx hb hts hiX1 hown hK hP (Nat.lt_of_lt_of_le (by decide) hN) (bX_24 _) rfl 10 (by decide) (List.mem_of_getElem? (i := 4) rfl) rfl rfl dX1_takeSign_115 ?_
            refine lv_iconst (v := -1) hx hb dX1_takeSign_118 (by decide) ?_
            refine lv_icmp_eq (tgt := 128) hx hb dX1_takeSign_119 (by decide) (fun c14 => ?_) (fun c14 => ?_)
            · have hw := hw.1 c14
              exact hw_vret hx hb hr hlocks (σ) hw hP hS dX1_takeSign_128
            have hw := hw.2 c14
            refine lv_aload_n hx hb dX1_takeSign_122 rfl (lv_at hl 0 rfl) ?_
            refine lv_iconst (v := 1) hx hb dX1_takeSign_123 (by decide) ?_
            refine lv_iload_n hx hb dX1_takeSign_124 rfl (lv_at hl 2 rfl) ?_
            refine hw_kv (va_runU (As := [.int (1 : Int32), .int a2]) (rest := []) ⟨hx, hb, hml, hown, hts⟩ (kc_X10_refuse_r24 l D cy N hN ad hJ0 σ _ (1 : Int32) a2 _ hw) (va_cwU 2 hts gX1_takeSign_X10_refuse_u76X1 rfl rfl rfl rfl (by decide +kernel) ⟨Nat.le_of_ble_eq_true rfl, Nat.le_of_ble_eq_true rfl⟩) (hw_preV hK hN1 hP (Nat.lt_of_lt_of_le (by decide) hN) (bX_24 _) rfl) rfl rfl hl.1 rfl (lv_room (Nat.le_of_ble_eq_true rfl)) dX1_takeSign_125 ⟨Nat.zero_le _, Nat.zero_le _⟩) hS (fun σ15 H locs hw hP hS => ?_)
            exact hw_vret hx hb hr hlocks (σ15) hw hP hS dX1_takeSign_128
          have hw := hw.2 c7
          refine lv_aload_n hx hb dX1_takeSign_87 rfl (lv_at hl 0 rfl) ?_
          refine lv_iload_n hx hb dX1_takeSign_88 rfl (lv_at hl 2 rfl) ?_
          refine hw_kv (va_runV (As := [.int a2]) (rest := []) ⟨hx, hb, hml, hown, hts⟩ (kc_X1_closeGroup l D cy N hN ad hJ0 σ _ a2 _ hw) (cwV 1 hts gX1_takeSign_X1_closeGroup rfl rfl rfl (by decide +kernel) ⟨Nat.le_of_ble_eq_true rfl, Nat.le_of_ble_eq_true rfl⟩) (hw_preV hK hN1 hP (Nat.lt_of_lt_of_le (by decide) hN) (bX_24 _) rfl) rfl rfl hl.1 rfl (lv_room (Nat.le_of_ble_eq_true rfl)) dX1_takeSign_89 ⟨Nat.zero_le _, Nat.zero_le _⟩) hS (fun σ16 H locs hw hP hS => ?_)
          refine lv_goto (tgt := 128) hx hb dX1_takeSign_92 (by decide) ?_
          exact hw_vret hx hb hr hlocks (σ16) hw hP hS dX1_takeSign_128
        have hw := hw.2 c6
        refine lv_aload_n hx hb dX1_takeSign_73 rfl (lv_at hl 0 rfl) ?_
        refine lv_iload_n hx hb dX1_takeSign_74 rfl (lv_at hl 2 rfl) ?_
        refine hw_kv (va_runV (As := [.int a2]) (rest := []) ⟨hx, hb, hml, hown, hts⟩ (kc_X1_openGroup l D cy N hN ad hJ0 σ _ a2 _ hw) (cwV 1 hts gX1_takeSign_X1_openGroup rfl rfl rfl (by decide +kernel) ⟨Nat.le_of_ble_eq_true rfl, Nat.le_of_ble_eq_true rfl⟩) (hw_preV hK hN1 hP (Nat.lt_of_lt_of_le (by decide) hN) (bX_24 _) rfl) rfl rfl hl.1 rfl (lv_room (Nat.le_of_ble_eq_true rfl)) dX1_takeSign_75 ⟨Nat.zero_le _, Nat.zero_le _⟩) hS (fun σ17 H locs hw hP hS => ?_)
        refine lv_goto (tgt := 128) hx hb dX1_takeSign_78 (by decide) ?_
        exact hw_vret hx hb hr hlocks (σ17) hw hP hS dX1_takeSign_128
      refine lv_icmp_lt (tgt := 67) hx hb dX1_takeSign_37 (by decide) (fun c18 => ?_) (fun c18 => ?_)
      · have hw := hw.1 c18
        exact hJ67  _ _ _ hw hP hS (lv_sub hl [0, 1, 2] rfl)
      have hw := hw.2 c18
      refine lv_iload_n hx hb dX1_takeSign_40 rfl (lv_at hl 1 rfl) ?_
      refine lv_bipush (v := 70) hx hb dX1_takeSign_41 (by decide) ?_
      refine lv_icmp_gt (tgt := 67) hx hb dX1_takeSign_43 (by decide) (fun c19 => ?_) (fun c19 => ?_)
      · have hw := hw.1 c19
        exact hJ67  _ _ _ hw hP hS (lv_sub hl [0, 1, 2] rfl)
      have hw := hw.2 c19
      refine lv_aload_n hx hb dX1_takeSign_46 rfl (lv_at hl 0 rfl) ?_
      refine lv_iload_n hx hb dX1_takeSign_47 rfl (lv_at hl 1 rfl) ?_
      refine lv_bipush (v := 65) hx hb dX1_takeSign_48 (by decide) ?_
      refine lv_isub hx hb dX1_takeSign_50 ?_
      refine hw_put (x := (a1 - (65 : Int32))) (j := 7) hx hb hts hiX1 tyX1 tyX1_ok nmX1 hown hK hJ0 hP hS (Nat.lt_of_lt_of_le (by decide) hN) (bX_24 _) rfl (by decide) (List.mem_of_getElem? (i := 1) rfl) rfl rfl rfl rfl (Nat.le_of_ble_eq_true rfl) (by rw [bX_24]; rfl) dX1_takeSign_51 (fun H locs hP hS => ?_)
      refine lv_aload_n hx hb dX1_takeSign_54 rfl (lv_at hl 0 rfl) ?_
      refine lv_iload_n hx hb dX1_takeSign_55 rfl (lv_at hl 1 rfl) ?_
      refine lv_aload_n hx hb dX1_takeSign_56 rfl (lv_at hl 0 rfl) ?_
      refine hw_get (v := .int ((hup σ 24 7 (a1 - (65 : Int32))) 24 7)) hx hb hts hiX1 hown hK hP (Nat.lt_of_lt_of_le (by decide) hN) (bX_24 _) rfl 7 (by decide) (List.mem_of_getElem? (i := 1) rfl) rfl rfl dX1_takeSign_57 ?_
      refine lv_iload_n hx hb dX1_takeSign_60 rfl (lv_at hl 2 rfl) ?_
      refine hw_kv (va_runV (As := [.int a1, .int ((hup σ 24 7 (a1 - (65 : Int32))) 24 7), .int a2]) (rest := []) ⟨hx, hb, hml, hown, hts⟩ (kc_X1_takeUnit l D cy N hN ad hJ0 (hup σ 24 7 (a1 - (65 : Int32))) _ a1 ((hup σ 24 7 (a1 - (65 : Int32))) 24 7) a2 _ hw) (cwV 3 hts gX1_takeSign_X1_takeUnit rfl rfl rfl (by decide +kernel) ⟨Nat.le_of_ble_eq_true rfl, Nat.le_of_ble_eq_true rfl⟩) (hw_preV hK hN1 hP (Nat.lt_of_lt_of_le (by decide) hN) (bX_24 _) rfl) rfl rfl hl.1 rfl (lv_room (Nat.le_of_ble_eq_true rfl)) dX1_takeSign_61 ⟨Nat.zero_le _, Nat.zero_le _⟩) hS (fun σ20 H locs hw hP hS => ?_)
      refine lv_goto (tgt := 128) hx hb dX1_takeSign_64 (by decide) ?_
      exact hw_vret hx hb hr hlocks (σ20) hw hP hS dX1_takeSign_128
    have hw := hw.2 c5
    refine lv_aload_n hx hb dX1_takeSign_21 rfl (lv_at hl 0 rfl) ?_
    refine lv_iload_n hx hb dX1_takeSign_22 rfl (lv_at hl 1 rfl) ?_
    refine lv_aload_n hx hb dX1_takeSign_23 rfl (lv_at hl 0 rfl) ?_
    refine hw_get (v := .int (σ 24 7)) hx hb hts hiX1 hown hK hP (Nat.lt_of_lt_of_le (by decide) hN) (bX_24 _) rfl 7 (by decide) (List.mem_of_getElem? (i := 1) rfl) rfl rfl dX1_takeSign_24 ?_
    refine lv_iload_n hx hb dX1_takeSign_27 rfl (lv_at hl 2 rfl) ?_
    refine hw_kv (va_runV (As := [.int a1, .int (σ 24 7), .int a2]) (rest := []) ⟨hx, hb, hml, hown, hts⟩ (kc_X1_takeUnit l D cy N hN ad hJ0 σ _ a1 (σ 24 7) a2 _ hw) (cwV 3 hts gX1_takeSign_X1_takeUnit rfl rfl rfl (by decide +kernel) ⟨Nat.le_of_ble_eq_true rfl, Nat.le_of_ble_eq_true rfl⟩) (hw_preV hK hN1 hP (Nat.lt_of_lt_of_le (by decide) hN) (bX_24 _) rfl) rfl rfl hl.1 rfl (lv_room (Nat.le_of_ble_eq_true rfl)) dX1_takeSign_28 ⟨Nat.zero_le _, Nat.zero_le _⟩) hS (fun σ21 H locs hw hP hS => ?_)
    refine lv_goto (tgt := 128) hx hb dX1_takeSign_31 (by decide) ?_
    exact hw_vret hx hb hr hlocks (σ21) hw hP hS dX1_takeSign_128
  have hw := hw.2 c2
  exact hw_vret hx hb hr hlocks (σ) hw hP hS dX1_takeSign_12
set_option maxHeartbeats 4000000 in
set_option maxRecDepth 100000 in
theorem kc_X10_take_r24 (l : Launch) (D : va_G) (cy : Nat → ClassId) (N : Nat) (hN : 38 ≤ N) (ad : Nat → Nat) (hJ0 : hJ N ad) (σ : hSt) (sz : Nat) (a1 : Int32) (a2 : Int32) (Q : hSt → Prop) (hw : wp_X10_take_r24 a1 a2 σ Q) : Met l yX10_take wsX10_take ({ frames := 4, cells := 0, slots := 0, locals := 88 } : Room) (va_Pc [.ref (ad 24), .int a1, .int a2] (hB D cy (hC N ad (bX cy ad) σ) sz)) (va_Qv (fun u : hSt => Q u) (hE D (fun u : hSt => hC N ad (bX cy ad) u)) (hA N ad sz)) 0 0 (hA N ad sz) := by
  refine Met.ofW (cc := cX10_take) (maxL := 4) (ret := none) (by decide) rfl ?_
  intro p e s m args below meth c s₁ B hml hv
  obtain ⟨rfl, hsz, hP, hK, hN1⟩ := hv
  have hx := B.exec
  have hb := B.bytes
  have hr := B.returns
  have hts := atoms_spec (ws := wsX10_take) B.pre
  have hown : s.vm.findClass RX10 = some m.cls := findClass_of_methodNamed B.named
  have hlocks := B.notSynchronized
  subst hsz
  have hS : va_S (hA N ad s.heap.size) s.heap s.heap [] := va_S.rf
  have hiX1 : ∀ w ∈ wsX10, w ∈ wsX10_take := fun _ h => List.mem_cons_of_mem _ (List.mem_append_left _ (List.mem_append_left _ (List.mem_append_left _ (List.mem_append_right _ h))))
  have hl := lv_entry ([.ref (ad 24), .int a1, .int a2]) (n := 4) (Nat.le_of_ble_eq_true rfl)
  rw [lg_entry_eq]
  generalize (lg_sl ([.ref (ad 24), .int a1, .int a2]) ++ List.replicate (4 - (lg_sl ([.ref (ad 24), .int a1, .int a2])).length) Slot.unset).toArray = ls at hl ⊢
  have hl : lv_has ls 4 [(0, .ref (ad 24)), (1, .int a1), (2, .int a2)] := hl
  unfold wp_X10_take_r24 at hw
  refine lv_aload_n hx hb dX10_take_0 rfl (lv_at hl 0 rfl) ?_
  refine lv_iload_n hx hb dX10_take_1 rfl (lv_at hl 1 rfl) ?_
  refine hw_ki (va_runU (As := [.int a1]) (rest := []) ⟨hx, hb, hml, hown, hts⟩ (kc_X1_isDigit l D cy N ad (bX cy ad) σ _ a1 _ hw) (va_cwA 1 hts gX10_take_X1_isDigit_u35X1 rfl rfl rfl (hN1.dc 0 rfl) (by decide +kernel) ⟨Nat.le_of_ble_eq_true rfl, Nat.le_of_ble_eq_true rfl⟩) (hw_preV hK hN1 hP (Nat.lt_of_lt_of_le (by decide) hN) (bX_24 _) rfl) rfl rfl hl.1 rfl (lv_room (Nat.le_of_ble_eq_true rfl)) dX10_take_2 ⟨Nat.zero_le _, Nat.zero_le _⟩) hS (fun r2 σ1 H locs hw hP hS => ?_)
  obtain ⟨hu_, hw⟩ := hw
  rw [hu_] at hP
  refine lv_if_eq (tgt := 49) hx hb dX10_take_5 (by decide) (fun c3 => ?_) (fun c3 => ?_)
  · have hw := hw.1 c3
    refine lv_aload_n hx hb dX10_take_49 rfl (lv_at hl 0 rfl) ?_
    refine hw_get (v := .int (σ 24 2)) hx hb hts hiX1 hown hK hP (Nat.lt_of_lt_of_le (by decide) hN) (bX_24 _) rfl 2 (by decide) (List.mem_of_getElem? (i := 1) rfl) rfl rfl dX10_take_50 ?_
    refine lv_iconst (v := -1) hx hb dX10_take_53 (by decide) ?_
    obtain ⟨J70, ehJ70, hw⟩ := hM_x hw
    have hJ70 : ∀ (σ4 : hSt) (H : Heap) (locs : List Loc) (ls : Array Slot), J70 σ4 → va_P D vwCl (hC N ad (bX cy ad) σ4) H → va_S (hA N ad s.heap.size) s.heap H locs → lv_has ls 4 [(0, .ref (ad 24)), (1, .int a1), (2, .int a2)] → W p l e (headSpec wsX10_take ({ frames := 4, cells := 0, slots := 0, locals := 88 } : Room)).room s m ([Value.ref (ad 24), Value.int a1, Value.int a2] : List Value).toArray below meth c H locs 0 0 (MQ below (va_Qv (fun u : hSt => Q u) (hE D (fun u : hSt => hC N ad (bX cy ad) u)) (hA N ad s.heap.size)) ([Value.ref (ad 24), Value.int a1, Value.int a2] : List Value).toArray s 0 0 (hA N ad s.heap.size)) (F0 m 70 ls []) := by
      intro σ4 H locs ls hw hP hS hl
      rw [ehJ70] at hw
      refine lv_aload_n hx hb dX10_take_70 rfl (lv_at hl 0 rfl) ?_
      refine hw_get (v := .int (σ4 24 0)) hx hb hts hiX1 hown hK hP (Nat.lt_of_lt_of_le (by decide) hN) (bX_24 _) rfl 0 (by decide) (List.mem_of_getElem? (i := 2) rfl) rfl rfl dX10_take_71 ?_
      refine lv_if_ne (tgt := 83) hx hb dX10_take_74 (by decide) (fun c5 => ?_) (fun c5 => ?_)
      · have hw := hw.1 c5
        exact hw_vret hx hb hr hlocks (σ4) hw hP hS dX10_take_83
      have hw := hw.2 c5
      refine lv_aload_n hx hb dX10_take_77 rfl (lv_at hl 0 rfl) ?_
      refine lv_iload_n hx hb dX10_take_78 rfl (lv_at hl 1 rfl) ?_
      refine lv_iload_n hx hb dX10_take_79 rfl (lv_at hl 2 rfl) ?_
      refine hw_kv (va_runU (As := [.int a1, .int a2]) (rest := []) ⟨hx, hb, hml, hown, hts⟩ (kc_X1_takeSign l D cy N hN ad hJ0 σ4 _ a1 a2 _ hw) (va_cwA 2 hts gX10_take_X1_takeSign_u47X1 rfl rfl rfl (hN1.dc 7 rfl) (by decide +kernel) ⟨Nat.le_of_ble_eq_true rfl, Nat.le_of_ble_eq_true rfl⟩) (hw_preV hK hN1 hP (Nat.lt_of_lt_of_le (by decide) hN) (bX_24 _) rfl) rfl rfl hl.1 rfl (lv_room (Nat.le_of_ble_eq_true rfl)) dX10_take_80 ⟨Nat.zero_le _, Nat.zero_le _⟩) hS (fun σ6 H locs hw hP hS => ?_)
      exact hw_vret hx hb hr hlocks (σ6) hw hP hS dX10_take_83
    refine lv_icmp_eq (tgt := 70) hx hb dX10_take_54 (by decide) (fun c7 => ?_) (fun c7 => ?_)
    · have hw := hw.1 c7
      exact hJ70 _ _ _ _ hw hP hS (lv_sub hl [0, 1, 2] rfl)
    have hw := hw.2 c7
    refine lv_aload_n hx hb dX10_take_57 rfl (lv_at hl 0 rfl) ?_
    refine lv_aload_n hx hb dX10_take_58 rfl (lv_at hl 0 rfl) ?_
    refine hw_get (v := .int (σ 24 2)) hx hb hts hiX1 hown hK hP (Nat.lt_of_lt_of_le (by decide) hN) (bX_24 _) rfl 2 (by decide) (List.mem_of_getElem? (i := 1) rfl) rfl rfl dX10_take_59 ?_
    refine hw_kv (va_runU (As := [.int (σ 24 2)]) (rest := []) ⟨hx, hb, hml, hown, hts⟩ (kc_X1_takeDigitsEnd l D cy N hN ad hJ0 σ _ (σ 24 2) _ hw) (va_cwA 1 hts gX10_take_X1_takeDigitsEnd_u43X1 rfl rfl rfl (hN1.dc 6 rfl) (by decide +kernel) ⟨Nat.le_of_ble_eq_true rfl, Nat.le_of_ble_eq_true rfl⟩) (hw_preV hK hN1 hP (Nat.lt_of_lt_of_le (by decide) hN) (bX_24 _) rfl) rfl rfl hl.1 rfl (lv_room (Nat.le_of_ble_eq_true rfl)) dX10_take_62 ⟨Nat.zero_le _, Nat.zero_le _⟩) hS (fun σ8 H locs hw hP hS => ?_)
    refine lv_aload_n hx hb dX10_take_65 rfl (lv_at hl 0 rfl) ?_
    refine lv_iconst (v := -1) hx hb dX10_take_66 (by decide) ?_
    refine hw_put (x := (-1 : Int32)) (j := 2) hx hb hts hiX1 tyX1 tyX1_ok nmX1 hown hK hJ0 hP hS (Nat.lt_of_lt_of_le (by decide) hN) (bX_24 _) rfl (by decide) (List.mem_of_getElem? (i := 1) rfl) rfl rfl rfl rfl (Nat.le_of_ble_eq_true rfl) (by rw [bX_24]; rfl) dX10_take_67 (fun H locs hP hS => ?_)
    exact hJ70 _ _ _ _ hw hP hS (lv_sub hl [0, 1, 2] rfl)
  have hw := hw.2 c3
  refine lv_aload_n hx hb dX10_take_8 rfl (lv_at hl 0 rfl) ?_
  refine hw_get (v := .int (σ 24 2)) hx hb hts hiX1 hown hK hP (Nat.lt_of_lt_of_le (by decide) hN) (bX_24 _) rfl 2 (by decide) (List.mem_of_getElem? (i := 1) rfl) rfl rfl dX10_take_9 ?_
  refine lv_iconst (v := -1) hx hb dX10_take_12 (by decide) ?_
  obtain ⟨J21, ehJ21, hw⟩ := hM_x hw
  have hJ21 : ∀ (z9 : Int32) (H : Heap) (locs : List Loc) (ls : Array Slot), J21 z9 → va_P D vwCl (hC N ad (bX cy ad) σ) H → va_S (hA N ad s.heap.size) s.heap H locs → lv_has ls 4 [(0, .ref (ad 24)), (1, .int a1), (2, .int a2)] → W p l e (headSpec wsX10_take ({ frames := 4, cells := 0, slots := 0, locals := 88 } : Room)).room s m ([Value.ref (ad 24), Value.int a1, Value.int a2] : List Value).toArray below meth c H locs 0 0 (MQ below (va_Qv (fun u : hSt => Q u) (hE D (fun u : hSt => hC N ad (bX cy ad) u)) (hA N ad s.heap.size)) ([Value.ref (ad 24), Value.int a1, Value.int a2] : List Value).toArray s 0 0 (hA N ad s.heap.size)) (F0 m 21 ls [.int z9]) := by
    intro z9 H locs ls hw hP hS hl
    rw [ehJ21] at hw
    refine lv_istore_n (lv' := [(3, .int z9), (0, .ref (ad 24)), (1, .int a1), (2, .int a2)]) hx hb dX10_take_21 rfl hl (by decide) rfl (fun ls hl => ?_)
    refine lv_aload_n hx hb dX10_take_22 rfl (lv_at hl 1 rfl) ?_
    refine lv_iload_n hx hb dX10_take_23 rfl (lv_at hl 0 rfl) ?_
    obtain ⟨J35, ehJ35, hw⟩ := hM_x hw
    have hJ35 : ∀ (z10 : Int32) (H : Heap) (locs : List Loc) (ls : Array Slot), J35 z10 → va_P D vwCl (hC N ad (bX cy ad) σ) H → va_S (hA N ad s.heap.size) s.heap H locs → lv_has ls 4 [(0, .ref (ad 24)), (1, .int a1), (2, .int a2), (3, .int z9)] → W p l e (headSpec wsX10_take ({ frames := 4, cells := 0, slots := 0, locals := 88 } : Room)).room s m ([Value.ref (ad 24), Value.int a1, Value.int a2] : List Value).toArray below meth c H locs 0 0 (MQ below (va_Qv (fun u : hSt => Q u) (hE D (fun u : hSt => hC N ad (bX cy ad) u)) (hA N ad s.heap.size)) ([Value.ref (ad 24), Value.int a1, Value.int a2] : List Value).toArray s 0 0 (hA N ad s.heap.size)) (F0 m 35 ls [.int z10, .ref (ad 24)]) := by
      intro z10 H locs ls hw hP hS hl
      rw [ehJ35] at hw
      refine hw_put (x := z10) (j := 2) hx hb hts hiX1 tyX1 tyX1_ok nmX1 hown hK hJ0 hP hS (Nat.lt_of_lt_of_le (by decide) hN) (bX_24 _) rfl (by decide) (List.mem_of_getElem? (i := 1) rfl) rfl rfl rfl rfl (Nat.le_of_ble_eq_true rfl) (by rw [bX_24]; rfl) dX10_take_35 (fun H locs hP hS => ?_)
      refine lv_aload_n hx hb dX10_take_38 rfl (lv_at hl 0 rfl) ?_
      refine lv_iload_n hx hb dX10_take_39 rfl (lv_at hl 1 rfl) ?_
      refine lv_bipush (v := 48) hx hb dX10_take_40 (by decide) ?_
      refine lv_isub hx hb dX10_take_42 ?_
      refine lv_iload_n hx hb dX10_take_43 rfl (lv_at hl 3 rfl) ?_
      refine lv_iload_n hx hb dX10_take_44 rfl (lv_at hl 2 rfl) ?_
      refine hw_kv (va_runU (As := [.int (a1 - (48 : Int32)), .int z9, .int a2]) (rest := []) ⟨hx, hb, hml, hown, hts⟩ (kc_X1_takeDigit l D cy N hN ad hJ0 (hup σ 24 2 z10) _ (a1 - (48 : Int32)) z9 a2 _ hw) (va_cwA 3 hts gX10_take_X1_takeDigit_u39X1 rfl rfl rfl (hN1.dc 5 rfl) (by decide +kernel) ⟨Nat.le_of_ble_eq_true rfl, Nat.le_of_ble_eq_true rfl⟩) (hw_preV hK hN1 hP (Nat.lt_of_lt_of_le (by decide) hN) (bX_24 _) rfl) rfl rfl hl.1 rfl (lv_room (Nat.le_of_ble_eq_true rfl)) dX10_take_45 ⟨Nat.zero_le _, Nat.zero_le _⟩) hS (fun σ11 H locs hw hP hS => ?_)
      exact hw_vret hx hb hr hlocks (σ11) hw hP hS dX10_take_48
    refine lv_if_eq (tgt := 31) hx hb dX10_take_24 (by decide) (fun c12 => ?_) (fun c12 => ?_)
    · have hw := hw.1 c12
      refine lv_aload_n hx hb dX10_take_31 rfl (lv_at hl 1 rfl) ?_
      refine hw_get (v := .int (σ 24 2)) hx hb hts hiX1 hown hK hP (Nat.lt_of_lt_of_le (by decide) hN) (bX_24 _) rfl 2 (by decide) (List.mem_of_getElem? (i := 1) rfl) rfl rfl dX10_take_32 ?_
      exact hJ35 _ _ _ _ hw hP hS (lv_sub hl [1, 2, 3, 0] rfl)
    have hw := hw.2 c12
    refine lv_iload_n hx hb dX10_take_27 rfl (lv_at hl 3 rfl) ?_
    refine lv_goto (tgt := 35) hx hb dX10_take_28 (by decide) ?_
    exact hJ35 _ _ _ _ hw hP hS (lv_sub hl [1, 2, 3, 0] rfl)
  refine lv_icmp_ne (tgt := 20) hx hb dX10_take_13 (by decide) (fun c13 => ?_) (fun c13 => ?_)
  · have hw := hw.1 c13
    refine lv_iconst (v := 0) hx hb dX10_take_20 (by decide) ?_
    exact hJ21 _ _ _ _ hw hP hS (lv_sub hl [0, 1, 2] rfl)
  have hw := hw.2 c13
  refine lv_iconst (v := 1) hx hb dX10_take_16 (by decide) ?_
  refine lv_goto (tgt := 21) hx hb dX10_take_17 (by decide) ?_
  exact hJ21 _ _ _ _ hw hP hS (lv_sub hl [0, 1, 2] rfl)
set_option maxHeartbeats 4000000 in
set_option maxRecDepth 100000 in
theorem kc_X10_readThrough_r24 (l : Launch) (D : va_G) (cy : Nat → ClassId) (N : Nat) (hN : 38 ≤ N) (ad : Nat → Nat) (hJ0 : hJ N ad) (σ : hSt) (sz : Nat)  (Q : Int32 → hSt → Prop) (hw : wp_X10_readThrough_r24  σ Q) : Met l yX10_readThrough wsX10_readThrough ({ frames := 5, cells := 0, slots := 0, locals := 111 } : Room) (va_Pc [.ref (ad 24), .ref (ad 19)] (hB D cy (hC N ad (bX cy ad) σ) sz)) (va_Qi (fun (r : Int32) (u : hSt) => Q r u) (hE D (fun u : hSt => hC N ad (bX cy ad) u)) (hA N ad sz)) 0 0 (hA N ad sz) := by
  refine Met.ofW (cc := cX10_readThrough) (maxL := 3) (ret := (some .boolean)) (by decide) rfl ?_
  intro p e s m args below meth c s₁ B hml hv
  obtain ⟨rfl, hsz, hP, hK, hN1⟩ := hv
  have hx := B.exec
  have hb := B.bytes
  have hr := B.returns
  have hts := atoms_spec (ws := wsX10_readThrough) B.pre
  have hown : s.vm.findClass RX10 = some m.cls := findClass_of_methodNamed B.named
  have hlocks := B.notSynchronized
  subst hsz
  have hS : va_S (hA N ad s.heap.size) s.heap s.heap [] := va_S.rf
  have hiX1 : ∀ w ∈ wsX10, w ∈ wsX10_readThrough := fun _ h => List.mem_cons_of_mem _ (List.mem_append_left _ (List.mem_append_left _ (List.mem_append_left _ (List.mem_append_left _ (List.mem_append_right _ h)))))
  have hl := lv_entry ([.ref (ad 24), .ref (ad 19)]) (n := 3) (Nat.le_of_ble_eq_true rfl)
  rw [lg_entry_eq]
  generalize (lg_sl ([.ref (ad 24), .ref (ad 19)]) ++ List.replicate (3 - (lg_sl ([.ref (ad 24), .ref (ad 19)])).length) Slot.unset).toArray = ls at hl ⊢
  have hl : lv_has ls 3 [(0, .ref (ad 24)), (1, .ref (ad 19))] := hl
  unfold wp_X10_readThrough_r24 at hw
  refine lv_aload_n hx hb dX10_readThrough_0 rfl (lv_at hl 0 rfl) ?_
  refine lv_iconst (v := 0) hx hb dX10_readThrough_1 (by decide) ?_
  refine hw_put (x := (0 : Int32)) (j := 0) hx hb hts hiX1 tyX1 tyX1_ok nmX1 hown hK hJ0 hP hS (Nat.lt_of_lt_of_le (by decide) hN) (bX_24 _) rfl (by decide) (List.mem_of_getElem? (i := 1) rfl) rfl rfl rfl rfl (Nat.le_of_ble_eq_true rfl) (by rw [bX_24]; rfl) dX10_readThrough_2 (fun H locs hP hS => ?_)
  refine lv_aload_n hx hb dX10_readThrough_5 rfl (lv_at hl 0 rfl) ?_
  refine lv_iconst (v := 0) hx hb dX10_readThrough_6 (by decide) ?_
  refine hw_put (x := (0 : Int32)) (j := 1) hx hb hts hiX1 tyX1 tyX1_ok nmX1 hown hK hJ0 hP hS (Nat.lt_of_lt_of_le (by decide) hN) (bX_24 _) rfl (by decide) (List.mem_of_getElem? (i := 2) rfl) rfl rfl rfl rfl (Nat.le_of_ble_eq_true rfl) (by rw [bX_24]; rfl) dX10_readThrough_7 (fun H locs hP hS => ?_)
  refine lv_aload_n hx hb dX10_readThrough_10 rfl (lv_at hl 0 rfl) ?_
  refine lv_iconst (v := -1) hx hb dX10_readThrough_11 (by decide) ?_
  refine hw_put (x := (-1 : Int32)) (j := 2) hx hb hts hiX1 tyX1 tyX1_ok nmX1 hown hK hJ0 hP hS (Nat.lt_of_lt_of_le (by decide) hN) (bX_24 _) rfl (by decide) (List.mem_of_getElem? (i := 3) rfl) rfl rfl rfl rfl (Nat.le_of_ble_eq_true rfl) (by rw [bX_24]; rfl) dX10_readThrough_12 (fun H locs hP hS => ?_)
  refine lv_iconst (v := 0) hx hb dX10_readThrough_15 (by decide) ?_
  refine lv_istore_n (lv' := [(2, .int (0 : Int32)), (0, .ref (ad 24)), (1, .ref (ad 19))]) hx hb dX10_readThrough_16 rfl hl (by decide) rfl (fun ls hl => ?_)
  refine hw (fun (v2_1 : Int32) (σ2 : hSt) => ∀ (H : Heap) (locs : List Loc) (ls : Array Slot), va_P D vwCl (hC N ad (bX cy ad) σ2) H → va_S (hA N ad s.heap.size) s.heap H locs → lv_has ls 3 [(0, .ref (ad 24)), (1, .ref (ad 19)), (2, .int v2_1)] → W p l e (headSpec wsX10_readThrough ({ frames := 5, cells := 0, slots := 0, locals := 111 } : Room)).room s m ([Value.ref (ad 24), Value.ref (ad 19)] : List Value).toArray below meth c H locs 0 0 (MQ below (va_Qi (fun (r : Int32) (u : hSt) => Q r u) (hE D (fun u : hSt => hC N ad (bX cy ad) u)) (hA N ad s.heap.size)) ([Value.ref (ad 24), Value.ref (ad 19)] : List Value).toArray s 0 0 (hA N ad s.heap.size)) (F0 m 17 ls [])) (fun v2_1 σ2 hw H locs ls hP hS hl => ?_) _ _ _ hP hS (lv_sub hl [1, 2, 0] rfl)
  refine lv_iload_n hx hb dX10_readThrough_17 rfl (lv_at hl 2 rfl) ?_
  refine lv_aload_n hx hb dX10_readThrough_18 rfl (lv_at hl 1 rfl) ?_
  refine hw_ki (va_runV (As := []) (rest := [.int v2_1]) ⟨hx, hb, hml, hown, hts⟩ (kc_X9_size l D cy N hN ad hJ0 σ2 _  _ hw) (cwV 0 hts gX10_readThrough_X9_size rfl rfl rfl (by decide +kernel) ⟨Nat.le_of_ble_eq_true rfl, Nat.le_of_ble_eq_true rfl⟩) (hw_preV hK hN1 hP (Nat.lt_of_lt_of_le (by decide) hN) (bX_19 _) rfl) rfl rfl hl.1 rfl (lv_room (Nat.le_of_ble_eq_true rfl)) dX10_readThrough_19 ⟨Nat.zero_le _, Nat.zero_le _⟩) hS (fun r4 σ3 H locs hw hP hS => ?_)
  obtain ⟨hu_, hw⟩ := hw
  rw [hu_] at hP
  refine lv_icmp_gt (tgt := 48) hx hb dX10_readThrough_22 (by decide) (fun c5 => ?_) (fun c5 => ?_)
  · have hw := hw.1 c5
    refine lv_aload_n hx hb dX10_readThrough_48 rfl (lv_at hl 0 rfl) ?_
    refine hw_get (v := .int (σ2 24 0)) hx hb hts hiX1 hown hK hP (Nat.lt_of_lt_of_le (by decide) hN) (bX_24 _) rfl 0 (by decide) (List.mem_of_getElem? (i := 1) rfl) rfl rfl dX10_readThrough_49 ?_
    refine lv_if_ne (tgt := 59) hx hb dX10_readThrough_52 (by decide) (fun c6 => ?_) (fun c6 => ?_)
    · have hw := hw.1 c6
      refine lv_iconst (v := 0) hx hb dX10_readThrough_59 (by decide) ?_
      exact hw_zret hx hb hr hlocks hbo_0 (σ2) hw hP hS dX10_readThrough_60
    have hw := hw.2 c6
    refine lv_iconst (v := 1) hx hb dX10_readThrough_55 (by decide) ?_
    refine lv_goto (tgt := 60) hx hb dX10_readThrough_56 (by decide) ?_
    exact hw_zret hx hb hr hlocks hbo_1 (σ2) hw hP hS dX10_readThrough_60
  have hw := hw.2 c5
  refine lv_aload_n hx hb dX10_readThrough_25 rfl (lv_at hl 0 rfl) ?_
  refine hw_get (v := .int (σ2 24 0)) hx hb hts hiX1 hown hK hP (Nat.lt_of_lt_of_le (by decide) hN) (bX_24 _) rfl 0 (by decide) (List.mem_of_getElem? (i := 1) rfl) rfl rfl dX10_readThrough_26 ?_
  refine lv_if_ne (tgt := 48) hx hb dX10_readThrough_29 (by decide) (fun c7 => ?_) (fun c7 => ?_)
  · have hw := hw.1 c7
    refine lv_aload_n hx hb dX10_readThrough_48 rfl (lv_at hl 0 rfl) ?_
    refine hw_get (v := .int (σ2 24 0)) hx hb hts hiX1 hown hK hP (Nat.lt_of_lt_of_le (by decide) hN) (bX_24 _) rfl 0 (by decide) (List.mem_of_getElem? (i := 1) rfl) rfl rfl dX10_readThrough_49 ?_
    refine lv_if_ne (tgt := 59) hx hb dX10_readThrough_52 (by decide) (fun c8 => ?_) (fun c8 => ?_)
    · have hw := hw.1 c8
      refine lv_iconst (v := 0) hx hb dX10_readThrough_59 (by decide) ?_
      exact hw_zret hx hb hr hlocks hbo_0 (σ2) hw hP hS dX10_readThrough_60
    have hw := hw.2 c8
    refine lv_iconst (v := 1) hx hb dX10_readThrough_55 (by decide) ?_
    refine lv_goto (tgt := 60) hx hb dX10_readThrough_56 (by decide) ?_
    exact hw_zret hx hb hr hlocks hbo_1 (σ2) hw hP hS dX10_readThrough_60
  have hw := hw.2 c7
  refine lv_aload_n hx hb dX10_readThrough_32 rfl (lv_at hl 0 rfl) ?_
  refine lv_aload_n hx hb dX10_readThrough_33 rfl (lv_at hl 1 rfl) ?_
  refine lv_iload_n hx hb dX10_readThrough_34 rfl (lv_at hl 2 rfl) ?_
  refine hw_ki (va_runV (As := [.int v2_1]) (rest := [.ref (ad 24)]) ⟨hx, hb, hml, hown, hts⟩ (kc_X9_signAt l D cy N hN ad hJ0 σ2 _ v2_1 _ hw) (cwV 1 hts gX10_readThrough_X9_signAt rfl rfl rfl (by decide +kernel) ⟨Nat.le_of_ble_eq_true rfl, Nat.le_of_ble_eq_true rfl⟩) (hw_preV hK hN1 hP (Nat.lt_of_lt_of_le (by decide) hN) (bX_19 _) rfl) rfl rfl hl.1 rfl (lv_room (Nat.le_of_ble_eq_true rfl)) dX10_readThrough_35 ⟨Nat.zero_le _, Nat.zero_le _⟩) hS (fun r10 σ9 H locs hw hP hS => ?_)
  obtain ⟨hu_, hw⟩ := hw
  rw [hu_] at hP
  refine lv_iload_n hx hb dX10_readThrough_38 rfl (lv_at hl 2 rfl) ?_
  refine hw_kv (va_runU (As := [.int r10, .int v2_1]) (rest := []) ⟨hx, hb, hml, hown, hts⟩ (kc_X10_take_r24 l D cy N hN ad hJ0 σ2 _ r10 v2_1 _ hw) (va_cwU 2 hts gX10_readThrough_X10_take_u31X1 rfl rfl rfl rfl (by decide +kernel) ⟨Nat.le_of_ble_eq_true rfl, Nat.le_of_ble_eq_true rfl⟩) (hw_preV hK hN1 hP (Nat.lt_of_lt_of_le (by decide) hN) (bX_24 _) rfl) rfl rfl hl.1 rfl (lv_room (Nat.le_of_ble_eq_true rfl)) dX10_readThrough_39 ⟨Nat.zero_le _, Nat.zero_le _⟩) hS (fun σ11 H locs hw hP hS => ?_)
  obtain ⟨x2_12, ex2_12⟩ : ∃ z : Int32, z = v2_1 + (1 : Int32) := ⟨_, rfl⟩
  have hw := hw x2_12 ex2_12
  refine lv_iinc (v := x2_12) (lv' := [(2, .int x2_12), (0, .ref (ad 24)), (1, .ref (ad 19))]) hx hb dX10_readThrough_42 hl (k := 2) rfl (by rw [ex2_12]; rfl) (by decide) rfl (fun ls hl => ?_)
  refine lv_goto (tgt := 17) hx hb dX10_readThrough_45 (by decide) ?_
  exact hw _ _ _ hP hS (lv_sub hl [1, 2, 0] rfl)
set_option maxHeartbeats 4000000 in
set_option maxRecDepth 100000 in
theorem kc_X1_leaveGroup (l : Launch) (D : va_G) (cy : Nat → ClassId) (N : Nat) (hN : 38 ≤ N) (ad : Nat → Nat) (hJ0 : hJ N ad) (σ : hSt) (sz : Nat) (a1 : Int32) (Q : Int32 → hSt → Prop) (hw : wp_X1_leaveGroup a1 σ Q) : Met l yX1_leaveGroup wsX1_leaveGroup ({ frames := 1, cells := 0, slots := 0, locals := 22 } : Room) (va_Pc [.ref (ad 24), .int a1] (hB D cy (hC N ad (bX cy ad) σ) sz)) (va_Qi (fun (r : Int32) (u : hSt) => Q r u) (hE D (fun u : hSt => hC N ad (bX cy ad) u)) (hA N ad sz)) 0 0 (hA N ad sz) := by
  refine Met.ofW (cc := cX1_leaveGroup) (maxL := 4) (ret := (some .int)) (by decide) rfl ?_
  intro p e s m args below meth c s₁ B hml hv
  obtain ⟨rfl, hsz, hP, hK, hN1⟩ := hv
  have hx := B.exec
  have hb := B.bytes
  have hr := B.returns
  have hts := atoms_spec (ws := wsX1_leaveGroup) B.pre
  have hown : s.vm.findClass RX1 = some m.cls := findClass_of_methodNamed B.named
  have hlocks := B.notSynchronized
  subst hsz
  have hS : va_S (hA N ad s.heap.size) s.heap s.heap [] := va_S.rf
  have hiX1 : ∀ w ∈ wsX10, w ∈ wsX1_leaveGroup := fun _ h => List.mem_cons_of_mem _ (List.mem_append_right _ h)
  have hl := lv_entry ([.ref (ad 24), .int a1]) (n := 4) (Nat.le_of_ble_eq_true rfl)
  rw [lg_entry_eq]
  generalize (lg_sl ([.ref (ad 24), .int a1]) ++ List.replicate (4 - (lg_sl ([.ref (ad 24), .int a1])).length) Slot.unset).toArray = ls at hl ⊢
  have hl : lv_has ls 4 [(0, .ref (ad 24)), (1, .int a1)] := hl
  unfold wp_X1_leaveGroup at hw
  refine lv_aload_n hx hb dX1_leaveGroup_0 rfl (lv_at hl 0 rfl) ?_
  refine hw_get (v := .int (σ 24 8)) hx hb hts hiX1 hown hK hP (Nat.lt_of_lt_of_le (by decide) hN) (bX_24 _) rfl 8 (by decide) (List.mem_of_getElem? (i := 1) rfl) rfl rfl dX1_leaveGroup_1 ?_
  refine lv_iconst (v := 1) hx hb dX1_leaveGroup_4 (by decide) ?_
  refine lv_isub hx hb dX1_leaveGroup_5 ?_
  refine lv_topi (fun x2_1 ex2_1 => ?_)
  have hw := hw x2_1 ex2_1
  refine lv_istore_n (lv' := [(2, .int x2_1), (0, .ref (ad 24)), (1, .int a1)]) hx hb dX1_leaveGroup_6 rfl hl (by decide) rfl (fun ls hl => ?_)
  refine lv_aload_n hx hb dX1_leaveGroup_7 rfl (lv_at hl 1 rfl) ?_
  refine hw_get (v := .ref (ad 28)) hx hb hts hiX1 hown hK hP (Nat.lt_of_lt_of_le (by decide) hN) (bX_24 _) rfl 13 (by decide) (List.mem_of_getElem? (i := 2) rfl) rfl rfl dX1_leaveGroup_8 ?_
  refine lv_iload_n hx hb dX1_leaveGroup_11 rfl (lv_at hl 0 rfl) ?_
  refine hw_ki (va_runSN (As := [.ref (ad 28), .int x2_1]) (rest := []) ⟨hx, hb, hml, hown, hts⟩ (kc_X11_cell l D cy N hN ad hJ0 σ _ 28 hAi_28 x2_1 _ hw) ⟨va_cnB 2 hts gX1_leaveGroup_X11_cell_n57 rfl rfl rfl (hN1.at 1 rfl) (hts (.initialized RX11) (List.mem_of_getElem? (i := 7) rfl)) (by decide +kernel) ⟨Nat.le_of_ble_eq_true rfl, Nat.le_of_ble_eq_true rfl⟩, hts (.static yX11_cell) (List.mem_of_getElem? (i := 6) rfl), trivial⟩ (hw_pre hK hN1 hP) rfl rfl hl.1 rfl (lv_room (Nat.le_of_ble_eq_true rfl)) dX1_leaveGroup_12 ⟨Nat.zero_le _, Nat.zero_le _⟩) hS (fun r3 σ2 H locs hw hP hS => ?_)
  obtain ⟨hu_, hw⟩ := hw
  rw [hu_] at hP
  refine lv_iconst (v := 1) hx hb dX1_leaveGroup_15 (by decide) ?_
  refine lv_isub hx hb dX1_leaveGroup_16 ?_
  refine lv_topi (fun x3_4 ex3_4 => ?_)
  have hw := hw x3_4 ex3_4
  refine lv_istore_n (lv' := [(3, .int x3_4), (2, .int x2_1), (0, .ref (ad 24)), (1, .int a1)]) hx hb dX1_leaveGroup_17 rfl hl (by decide) rfl (fun ls hl => ?_)
  refine lv_iload_n hx hb dX1_leaveGroup_18 rfl (lv_at hl 0 rfl) ?_
  refine lv_if_le (tgt := 55) hx hb dX1_leaveGroup_19 (by decide) (fun c5 => ?_) (fun c5 => ?_)
  · have hw := hw.1 c5
    refine lv_aload_n hx hb dX1_leaveGroup_55 rfl (lv_at hl 2 rfl) ?_
    refine lv_iload_n hx hb dX1_leaveGroup_56 rfl (lv_at hl 1 rfl) ?_
    refine hw_put (x := x2_1) (j := 8) hx hb hts hiX1 tyX1 tyX1_ok nmX1 hown hK hJ0 hP hS (Nat.lt_of_lt_of_le (by decide) hN) (bX_24 _) rfl (by decide) (List.mem_of_getElem? (i := 1) rfl) rfl rfl rfl rfl (Nat.le_of_ble_eq_true rfl) (by rw [bX_24]; rfl) dX1_leaveGroup_57 (fun H locs hP hS => ?_)
    refine lv_iload_n hx hb dX1_leaveGroup_60 rfl (lv_at hl 3 rfl) ?_
    refine lv_iconst (v := 1) hx hb dX1_leaveGroup_61 (by decide) ?_
    refine lv_iadd hx hb dX1_leaveGroup_62 ?_
    exact hw_iret hx hb hr hlocks ((hup σ 24 8 x2_1)) hw hP hS dX1_leaveGroup_63
  have hw := hw.2 c5
  refine lv_aload_n hx hb dX1_leaveGroup_22 rfl (lv_at hl 2 rfl) ?_
  refine hw_get (v := .int (σ 24 16)) hx hb hts hiX1 hown hK hP (Nat.lt_of_lt_of_le (by decide) hN) (bX_24 _) rfl 16 (by decide) (List.mem_of_getElem? (i := 3) rfl) rfl rfl dX1_leaveGroup_23 ?_
  refine lv_aload_n hx hb dX1_leaveGroup_26 rfl (lv_at hl 2 rfl) ?_
  refine hw_get (v := .ref (ad 29)) hx hb hts hiX1 hown hK hP (Nat.lt_of_lt_of_le (by decide) hN) (bX_24 _) rfl 14 (by decide) (List.mem_of_getElem? (i := 4) rfl) rfl rfl dX1_leaveGroup_27 ?_
  refine lv_iload_n hx hb dX1_leaveGroup_30 rfl (lv_at hl 1 rfl) ?_
  refine hw_ki (va_runSN (As := [.ref (ad 29), .int x2_1]) (rest := [.int (σ 24 16)]) ⟨hx, hb, hml, hown, hts⟩ (kc_X11_cell l D cy N hN ad hJ0 σ _ 29 hAi_29 x2_1 _ hw) ⟨va_cnB 2 hts gX1_leaveGroup_X11_cell_n57 rfl rfl rfl (hN1.at 1 rfl) (hts (.initialized RX11) (List.mem_of_getElem? (i := 7) rfl)) (by decide +kernel) ⟨Nat.le_of_ble_eq_true rfl, Nat.le_of_ble_eq_true rfl⟩, hts (.static yX11_cell) (List.mem_of_getElem? (i := 6) rfl), trivial⟩ (hw_pre hK hN1 hP) rfl rfl hl.1 rfl (lv_room (Nat.le_of_ble_eq_true rfl)) dX1_leaveGroup_31 ⟨Nat.zero_le _, Nat.zero_le _⟩) hS (fun r7 σ6 H locs hw hP hS => ?_)
  obtain ⟨hu_, hw⟩ := hw
  rw [hu_] at hP
  refine lv_icmp_le (tgt := 55) hx hb dX1_leaveGroup_34 (by decide) (fun c8 => ?_) (fun c8 => ?_)
  · have hw := hw.1 c8
    refine lv_aload_n hx hb dX1_leaveGroup_55 rfl (lv_at hl 2 rfl) ?_
    refine lv_iload_n hx hb dX1_leaveGroup_56 rfl (lv_at hl 1 rfl) ?_
    refine hw_put (x := x2_1) (j := 8) hx hb hts hiX1 tyX1 tyX1_ok nmX1 hown hK hJ0 hP hS (Nat.lt_of_lt_of_le (by decide) hN) (bX_24 _) rfl (by decide) (List.mem_of_getElem? (i := 1) rfl) rfl rfl rfl rfl (Nat.le_of_ble_eq_true rfl) (by rw [bX_24]; rfl) dX1_leaveGroup_57 (fun H locs hP hS => ?_)
    refine lv_iload_n hx hb dX1_leaveGroup_60 rfl (lv_at hl 3 rfl) ?_
    refine lv_iconst (v := 1) hx hb dX1_leaveGroup_61 (by decide) ?_
    refine lv_iadd hx hb dX1_leaveGroup_62 ?_
    exact hw_iret hx hb hr hlocks ((hup σ 24 8 x2_1)) hw hP hS dX1_leaveGroup_63
  have hw := hw.2 c8
  refine lv_aload_n hx hb dX1_leaveGroup_37 rfl (lv_at hl 2 rfl) ?_
  refine hw_get (v := .ref (ad 28)) hx hb hts hiX1 hown hK hP (Nat.lt_of_lt_of_le (by decide) hN) (bX_24 _) rfl 13 (by decide) (List.mem_of_getElem? (i := 2) rfl) rfl rfl dX1_leaveGroup_38 ?_
  refine lv_iload_n hx hb dX1_leaveGroup_41 rfl (lv_at hl 1 rfl) ?_
  refine lv_iload_n hx hb dX1_leaveGroup_42 rfl (lv_at hl 0 rfl) ?_
  refine hw_kv (va_runSN (As := [.ref (ad 28), .int x2_1, .int x3_4]) (rest := []) ⟨hx, hb, hml, hown, hts⟩ (kc_X11_setCell l D cy N hN ad hJ0 σ _ 28 hAi_28 x2_1 x3_4 _ hw) ⟨va_cnB 3 hts gX1_leaveGroup_X11_setCell_n89 rfl rfl rfl (hN1.at 2 rfl) (hts (.initialized RX11) (List.mem_of_getElem? (i := 7) rfl)) (by decide +kernel) ⟨Nat.le_of_ble_eq_true rfl, Nat.le_of_ble_eq_true rfl⟩, hts (.static yX11_setCell) (List.mem_of_getElem? (i := 9) rfl), trivial⟩ (hw_pre hK hN1 hP) rfl rfl hl.1 rfl (lv_room (Nat.le_of_ble_eq_true rfl)) dX1_leaveGroup_43 ⟨Nat.zero_le _, Nat.zero_le _⟩) hS (fun σ9 H locs hw hP hS => ?_)
  refine lv_aload_n hx hb dX1_leaveGroup_46 rfl (lv_at hl 2 rfl) ?_
  refine hw_get (v := .ref (ad 27)) hx hb hts hiX1 hown hK hP (Nat.lt_of_lt_of_le (by decide) hN) (bX_24 _) rfl 12 (by decide) (List.mem_of_getElem? (i := 5) rfl) rfl rfl dX1_leaveGroup_47 ?_
  refine lv_iload_n hx hb dX1_leaveGroup_50 rfl (lv_at hl 1 rfl) ?_
  refine hw_ki (va_runSN (As := [.ref (ad 27), .int x2_1]) (rest := []) ⟨hx, hb, hml, hown, hts⟩ (kc_X11_cell l D cy N hN ad hJ0 σ9 _ 27 hAi_27 x2_1 _ hw) ⟨va_cnB 2 hts gX1_leaveGroup_X11_cell_n57 rfl rfl rfl (hN1.at 1 rfl) (hts (.initialized RX11) (List.mem_of_getElem? (i := 7) rfl)) (by decide +kernel) ⟨Nat.le_of_ble_eq_true rfl, Nat.le_of_ble_eq_true rfl⟩, hts (.static yX11_cell) (List.mem_of_getElem? (i := 6) rfl), trivial⟩ (hw_pre hK hN1 hP) rfl rfl hl.1 rfl (lv_room (Nat.le_of_ble_eq_true rfl)) dX1_leaveGroup_51 ⟨Nat.zero_le _, Nat.zero_le _⟩) hS (fun r11 σ10 H locs hw hP hS => ?_)
  obtain ⟨hu_, hw⟩ := hw
  rw [hu_] at hP
  exact hw_iret hx hb hr hlocks (σ9) hw hP hS dX1_leaveGroup_54
set_option maxHeartbeats 4000000 in
set_option maxRecDepth 100000 in
theorem kc_X1_enterGroup (l : Launch) (D : va_G) (cy : Nat → ClassId) (N : Nat) (hN : 38 ≤ N) (ad : Nat → Nat) (hJ0 : hJ N ad) (σ : hSt) (sz : Nat) (a1 : Int32) (Q : hSt → Prop) (hw : wp_X1_enterGroup a1 σ Q) : Met l yX1_enterGroup wsX1_enterGroup ({ frames := 1, cells := 0, slots := 0, locals := 22 } : Room) (va_Pc [.ref (ad 24), .int a1] (hB D cy (hC N ad (bX cy ad) σ) sz)) (va_Qv (fun u : hSt => Q u) (hE D (fun u : hSt => hC N ad (bX cy ad) u)) (hA N ad sz)) 0 0 (hA N ad sz) := by
  refine Met.ofW (cc := cX1_enterGroup) (maxL := 2) (ret := none) (by decide) rfl ?_
  intro p e s m args below meth c s₁ B hml hv
  obtain ⟨rfl, hsz, hP, hK, hN1⟩ := hv
  have hx := B.exec
  have hb := B.bytes
  have hr := B.returns
  have hts := atoms_spec (ws := wsX1_enterGroup) B.pre
  have hown : s.vm.findClass RX1 = some m.cls := findClass_of_methodNamed B.named
  have hlocks := B.notSynchronized
  subst hsz
  have hS : va_S (hA N ad s.heap.size) s.heap s.heap [] := va_S.rf
  have hiX1 : ∀ w ∈ wsX10, w ∈ wsX1_enterGroup := fun _ h => List.mem_cons_of_mem _ (List.mem_append_right _ h)
  have hl := lv_entry ([.ref (ad 24), .int a1]) (n := 2) (Nat.le_of_ble_eq_true rfl)
  rw [lg_entry_eq]
  generalize (lg_sl ([.ref (ad 24), .int a1]) ++ List.replicate (2 - (lg_sl ([.ref (ad 24), .int a1])).length) Slot.unset).toArray = ls at hl ⊢
  have hl : lv_has ls 2 [(0, .ref (ad 24)), (1, .int a1)] := hl
  unfold wp_X1_enterGroup at hw
  refine lv_aload_n hx hb dX1_enterGroup_0 rfl (lv_at hl 0 rfl) ?_
  refine hw_get (v := .ref (ad 27)) hx hb hts hiX1 hown hK hP (Nat.lt_of_lt_of_le (by decide) hN) (bX_24 _) rfl 12 (by decide) (List.mem_of_getElem? (i := 1) rfl) rfl rfl dX1_enterGroup_1 ?_
  refine lv_aload_n hx hb dX1_enterGroup_4 rfl (lv_at hl 0 rfl) ?_
  refine hw_get (v := .int (σ 24 8)) hx hb hts hiX1 hown hK hP (Nat.lt_of_lt_of_le (by decide) hN) (bX_24 _) rfl 8 (by decide) (List.mem_of_getElem? (i := 2) rfl) rfl rfl dX1_enterGroup_5 ?_
  refine lv_iload_n hx hb dX1_enterGroup_8 rfl (lv_at hl 1 rfl) ?_
  refine lv_iconst (v := 1) hx hb dX1_enterGroup_9 (by decide) ?_
  refine lv_iadd hx hb dX1_enterGroup_10 ?_
  refine hw_kv (va_runSN (As := [.ref (ad 27), .int (σ 24 8), .int (a1 + (1 : Int32))]) (rest := []) ⟨hx, hb, hml, hown, hts⟩ (kc_X11_setCell l D cy N hN ad hJ0 σ _ 27 hAi_27 (σ 24 8) (a1 + (1 : Int32)) _ hw) ⟨va_cnB 3 hts gX1_enterGroup_X11_setCell_n89 rfl rfl rfl (hN1.at 2 rfl) (hts (.initialized RX11) (List.mem_of_getElem? (i := 8) rfl)) (by decide +kernel) ⟨Nat.le_of_ble_eq_true rfl, Nat.le_of_ble_eq_true rfl⟩, hts (.static yX11_setCell) (List.mem_of_getElem? (i := 7) rfl), trivial⟩ (hw_pre hK hN1 hP) rfl rfl hl.1 rfl (lv_room (Nat.le_of_ble_eq_true rfl)) dX1_enterGroup_11 ⟨Nat.zero_le _, Nat.zero_le _⟩) hS (fun σ1 H locs hw hP hS => ?_)
  refine lv_aload_n hx hb dX1_enterGroup_14 rfl (lv_at hl 0 rfl) ?_
  refine hw_get (v := .ref (ad 28)) hx hb hts hiX1 hown hK hP (Nat.lt_of_lt_of_le (by decide) hN) (bX_24 _) rfl 13 (by decide) (List.mem_of_getElem? (i := 3) rfl) rfl rfl dX1_enterGroup_15 ?_
  refine lv_aload_n hx hb dX1_enterGroup_18 rfl (lv_at hl 0 rfl) ?_
  refine hw_get (v := .int (σ1 24 8)) hx hb hts hiX1 hown hK hP (Nat.lt_of_lt_of_le (by decide) hN) (bX_24 _) rfl 8 (by decide) (List.mem_of_getElem? (i := 2) rfl) rfl rfl dX1_enterGroup_19 ?_
  refine lv_aload_n hx hb dX1_enterGroup_22 rfl (lv_at hl 0 rfl) ?_
  refine hw_get (v := .ref (ad 26)) hx hb hts hiX1 hown hK hP (Nat.lt_of_lt_of_le (by decide) hN) (bX_24 _) rfl 5 (by decide) (List.mem_of_getElem? (i := 4) rfl) rfl rfl dX1_enterGroup_23 ?_
  refine lv_iload_n hx hb dX1_enterGroup_26 rfl (lv_at hl 1 rfl) ?_
  refine hw_ki (va_runSN (As := [.ref (ad 26), .int a1]) (rest := [.int (σ1 24 8), .ref (ad 28)]) ⟨hx, hb, hml, hown, hts⟩ (kc_X11_cell l D cy N hN ad hJ0 σ1 _ 26 hAi_26 a1 _ hw) ⟨va_cnB 2 hts gX1_enterGroup_X11_cell_n57 rfl rfl rfl (hN1.at 1 rfl) (hts (.initialized RX11) (List.mem_of_getElem? (i := 8) rfl)) (by decide +kernel) ⟨Nat.le_of_ble_eq_true rfl, Nat.le_of_ble_eq_true rfl⟩, hts (.static yX11_cell) (List.mem_of_getElem? (i := 10) rfl), trivial⟩ (hw_pre hK hN1 hP) rfl rfl hl.1 rfl (lv_room (Nat.le_of_ble_eq_true rfl)) dX1_enterGroup_27 ⟨Nat.zero_le _, Nat.zero_le _⟩) hS (fun r3 σ2 H locs hw hP hS => ?_)
  obtain ⟨hu_, hw⟩ := hw
  rw [hu_] at hP
  refine hw_kv (va_runSN (As := [.ref (ad 28), .int (σ1 24 8), .int r3]) (rest := []) ⟨hx, hb, hml, hown, hts⟩ (kc_X11_setCell l D cy N hN ad hJ0 σ1 _ 28 hAi_28 (σ1 24 8) r3 _ hw) ⟨va_cnB 3 hts gX1_enterGroup_X11_setCell_n89 rfl rfl rfl (hN1.at 2 rfl) (hts (.initialized RX11) (List.mem_of_getElem? (i := 8) rfl)) (by decide +kernel) ⟨Nat.le_of_ble_eq_true rfl, Nat.le_of_ble_eq_true rfl⟩, hts (.static yX11_setCell) (List.mem_of_getElem? (i := 7) rfl), trivial⟩ (hw_pre hK hN1 hP) rfl rfl hl.1 rfl (lv_room (Nat.le_of_ble_eq_true rfl)) dX1_enterGroup_30 ⟨Nat.zero_le _, Nat.zero_le _⟩) hS (fun σ4 H locs hw hP hS => ?_)
  refine lv_aload_n hx hb dX1_enterGroup_33 rfl (lv_at hl 0 rfl) ?_
  refine hw_get (v := .ref (ad 29)) hx hb hts hiX1 hown hK hP (Nat.lt_of_lt_of_le (by decide) hN) (bX_24 _) rfl 14 (by decide) (List.mem_of_getElem? (i := 5) rfl) rfl rfl dX1_enterGroup_34 ?_
  refine lv_aload_n hx hb dX1_enterGroup_37 rfl (lv_at hl 0 rfl) ?_
  refine hw_get (v := .int (σ4 24 8)) hx hb hts hiX1 hown hK hP (Nat.lt_of_lt_of_le (by decide) hN) (bX_24 _) rfl 8 (by decide) (List.mem_of_getElem? (i := 2) rfl) rfl rfl dX1_enterGroup_38 ?_
  refine lv_aload_n hx hb dX1_enterGroup_41 rfl (lv_at hl 0 rfl) ?_
  refine hw_get (v := .int (σ4 24 16)) hx hb hts hiX1 hown hK hP (Nat.lt_of_lt_of_le (by decide) hN) (bX_24 _) rfl 16 (by decide) (List.mem_of_getElem? (i := 6) rfl) rfl rfl dX1_enterGroup_42 ?_
  refine hw_kv (va_runSN (As := [.ref (ad 29), .int (σ4 24 8), .int (σ4 24 16)]) (rest := []) ⟨hx, hb, hml, hown, hts⟩ (kc_X11_setCell l D cy N hN ad hJ0 σ4 _ 29 hAi_29 (σ4 24 8) (σ4 24 16) _ hw) ⟨va_cnB 3 hts gX1_enterGroup_X11_setCell_n89 rfl rfl rfl (hN1.at 2 rfl) (hts (.initialized RX11) (List.mem_of_getElem? (i := 8) rfl)) (by decide +kernel) ⟨Nat.le_of_ble_eq_true rfl, Nat.le_of_ble_eq_true rfl⟩, hts (.static yX11_setCell) (List.mem_of_getElem? (i := 7) rfl), trivial⟩ (hw_pre hK hN1 hP) rfl rfl hl.1 rfl (lv_room (Nat.le_of_ble_eq_true rfl)) dX1_enterGroup_45 ⟨Nat.zero_le _, Nat.zero_le _⟩) hS (fun σ5 H locs hw hP hS => ?_)
  refine lv_aload_n hx hb dX1_enterGroup_48 rfl (lv_at hl 0 rfl) ?_
  refine lv_dup hx hb dX1_enterGroup_49 rfl ?_
  refine hw_get (v := .int (σ5 24 8)) hx hb hts hiX1 hown hK hP (Nat.lt_of_lt_of_le (by decide) hN) (bX_24 _) rfl 8 (by decide) (List.mem_of_getElem? (i := 2) rfl) rfl rfl dX1_enterGroup_50 ?_
  refine lv_iconst (v := 1) hx hb dX1_enterGroup_53 (by decide) ?_
  refine lv_iadd hx hb dX1_enterGroup_54 ?_
  refine hw_put (x := ((σ5 24 8) + (1 : Int32))) (j := 8) hx hb hts hiX1 tyX1 tyX1_ok nmX1 hown hK hJ0 hP hS (Nat.lt_of_lt_of_le (by decide) hN) (bX_24 _) rfl (by decide) (List.mem_of_getElem? (i := 2) rfl) rfl rfl rfl rfl (Nat.le_of_ble_eq_true rfl) (by rw [bX_24]; rfl) dX1_enterGroup_55 (fun H locs hP hS => ?_)
  exact hw_vret hx hb hr hlocks ((hup σ5 24 8 ((σ5 24 8) + (1 : Int32)))) hw hP hS dX1_enterGroup_58
set_option maxHeartbeats 4000000 in
set_option maxRecDepth 100000 in
theorem kc_X1_addLeads (l : Launch) (D : va_G) (cy : Nat → ClassId) (N : Nat) (hN : 38 ≤ N) (ad : Nat → Nat) (hJ0 : hJ N ad) (σ : hSt) (sz : Nat) (a1 : Int32) (a2 : Int32) (Q : hSt → Prop) (hw : wp_X1_addLeads a1 a2 σ Q) : Met l yX1_addLeads wsX1_addLeads ({ frames := 1, cells := 0, slots := 0, locals := 22 } : Room) (va_Pc [.ref (ad 24), .int a1, .int a2] (hB D cy (hC N ad (bX cy ad) σ) sz)) (va_Qv (fun u : hSt => Q u) (hE D (fun u : hSt => hC N ad (bX cy ad) u)) (hA N ad sz)) 0 0 (hA N ad sz) := by
  refine Met.ofW (cc := cX1_addLeads) (maxL := 4) (ret := none) (by decide) rfl ?_
  intro p e s m args below meth c s₁ B hml hv
  obtain ⟨rfl, hsz, hP, hK, hN1⟩ := hv
  have hx := B.exec
  have hb := B.bytes
  have hr := B.returns
  have hts := atoms_spec (ws := wsX1_addLeads) B.pre
  have hown : s.vm.findClass RX1 = some m.cls := findClass_of_methodNamed B.named
  have hlocks := B.notSynchronized
  subst hsz
  have hS : va_S (hA N ad s.heap.size) s.heap s.heap [] := va_S.rf
  have hiX1 : ∀ w ∈ wsX10, w ∈ wsX1_addLeads := fun _ h => List.mem_cons_of_mem _ (List.mem_append_right _ h)
  have hl := lv_entry ([.ref (ad 24), .int a1, .int a2]) (n := 4) (Nat.le_of_ble_eq_true rfl)
  rw [lg_entry_eq]
  generalize (lg_sl ([.ref (ad 24), .int a1, .int a2]) ++ List.replicate (4 - (lg_sl ([.ref (ad 24), .int a1, .int a2])).length) Slot.unset).toArray = ls at hl ⊢
  have hl : lv_has ls 4 [(0, .ref (ad 24)), (1, .int a1), (2, .int a2)] := hl
  unfold wp_X1_addLeads at hw
  refine lv_iconst (v := 0) hx hb dX1_addLeads_0 (by decide) ?_
  refine lv_istore_n (lv' := [(3, .int (0 : Int32)), (0, .ref (ad 24)), (1, .int a1), (2, .int a2)]) hx hb dX1_addLeads_1 rfl hl (by decide) rfl (fun ls hl => ?_)
  refine hw (fun (v3_1 : Int32) (σ2 : hSt) => ∀ (H : Heap) (locs : List Loc) (ls : Array Slot), va_P D vwCl (hC N ad (bX cy ad) σ2) H → va_S (hA N ad s.heap.size) s.heap H locs → lv_has ls 4 [(0, .ref (ad 24)), (1, .int a1), (2, .int a2), (3, .int v3_1)] → W p l e (headSpec wsX1_addLeads ({ frames := 1, cells := 0, slots := 0, locals := 22 } : Room)).room s m ([Value.ref (ad 24), Value.int a1, Value.int a2] : List Value).toArray below meth c H locs 0 0 (MQ below (va_Qv (fun u : hSt => Q u) (hE D (fun u : hSt => hC N ad (bX cy ad) u)) (hA N ad s.heap.size)) ([Value.ref (ad 24), Value.int a1, Value.int a2] : List Value).toArray s 0 0 (hA N ad s.heap.size)) (F0 m 2 ls [])) (fun v3_1 σ2 hw H locs ls hP hS hl => ?_) _ _ _ hP hS (lv_sub hl [1, 2, 3, 0] rfl)
  refine lv_iload_n hx hb dX1_addLeads_2 rfl (lv_at hl 3 rfl) ?_
  refine lv_iload_n hx hb dX1_addLeads_3 rfl (lv_at hl 2 rfl) ?_
  refine lv_icmp_ge (tgt := 52) hx hb dX1_addLeads_4 (by decide) (fun c3 => ?_) (fun c3 => ?_)
  · have hw := hw.1 c3
    exact hw_vret hx hb hr hlocks (σ2) hw hP hS dX1_addLeads_52
  have hw := hw.2 c3
  refine lv_aload_n hx hb dX1_addLeads_7 rfl (lv_at hl 0 rfl) ?_
  refine hw_get (v := .int (σ2 24 16)) hx hb hts hiX1 hown hK hP (Nat.lt_of_lt_of_le (by decide) hN) (bX_24 _) rfl 16 (by decide) (List.mem_of_getElem? (i := 1) rfl) rfl rfl dX1_addLeads_8 ?_
  refine lv_sipush (v := 1000) hx hb dX1_addLeads_11 (by decide) ?_
  refine lv_icmp_gt (tgt := 52) hx hb dX1_addLeads_14 (by decide) (fun c4 => ?_) (fun c4 => ?_)
  · have hw := hw.1 c4
    exact hw_vret hx hb hr hlocks (σ2) hw hP hS dX1_addLeads_52
  have hw := hw.2 c4
  refine lv_aload_n hx hb dX1_addLeads_17 rfl (lv_at hl 0 rfl) ?_
  refine hw_get (v := .ref (ad 30)) hx hb hts hiX1 hown hK hP (Nat.lt_of_lt_of_le (by decide) hN) (bX_24 _) rfl 15 (by decide) (List.mem_of_getElem? (i := 2) rfl) rfl rfl dX1_addLeads_18 ?_
  refine lv_aload_n hx hb dX1_addLeads_21 rfl (lv_at hl 0 rfl) ?_
  refine hw_get (v := .int (σ2 24 16)) hx hb hts hiX1 hown hK hP (Nat.lt_of_lt_of_le (by decide) hN) (bX_24 _) rfl 16 (by decide) (List.mem_of_getElem? (i := 1) rfl) rfl rfl dX1_addLeads_22 ?_
  refine lv_aload_n hx hb dX1_addLeads_25 rfl (lv_at hl 0 rfl) ?_
  refine hw_get (v := .int (σ2 24 7)) hx hb hts hiX1 hown hK hP (Nat.lt_of_lt_of_le (by decide) hN) (bX_24 _) rfl 7 (by decide) (List.mem_of_getElem? (i := 3) rfl) rfl rfl dX1_addLeads_26 ?_
  refine lv_iconst (v := 3) hx hb dX1_addLeads_29 (by decide) ?_
  refine lv_imul hx hb dX1_addLeads_30 ?_
  refine lv_iload_n hx hb dX1_addLeads_31 rfl (lv_at hl 1 rfl) ?_
  refine lv_iadd hx hb dX1_addLeads_32 ?_
  refine hw_kv (va_runSN (As := [.ref (ad 30), .int (σ2 24 16), .int (((σ2 24 7) * (3 : Int32)) + a1)]) (rest := []) ⟨hx, hb, hml, hown, hts⟩ (kc_X11_setCell l D cy N hN ad hJ0 σ2 _ 30 hAi_30 (σ2 24 16) (((σ2 24 7) * (3 : Int32)) + a1) _ hw) ⟨va_cnB 3 hts gX1_addLeads_X11_setCell_n89 rfl rfl rfl (hN1.at 2 rfl) (hts (.initialized RX11) (List.mem_of_getElem? (i := 5) rfl)) (by decide +kernel) ⟨Nat.le_of_ble_eq_true rfl, Nat.le_of_ble_eq_true rfl⟩, hts (.static yX11_setCell) (List.mem_of_getElem? (i := 4) rfl), trivial⟩ (hw_pre hK hN1 hP) rfl rfl hl.1 rfl (lv_room (Nat.le_of_ble_eq_true rfl)) dX1_addLeads_33 ⟨Nat.zero_le _, Nat.zero_le _⟩) hS (fun σ5 H locs hw hP hS => ?_)
  refine lv_aload_n hx hb dX1_addLeads_36 rfl (lv_at hl 0 rfl) ?_
  refine lv_dup hx hb dX1_addLeads_37 rfl ?_
  refine hw_get (v := .int (σ5 24 16)) hx hb hts hiX1 hown hK hP (Nat.lt_of_lt_of_le (by decide) hN) (bX_24 _) rfl 16 (by decide) (List.mem_of_getElem? (i := 1) rfl) rfl rfl dX1_addLeads_38 ?_
  refine lv_iconst (v := 1) hx hb dX1_addLeads_41 (by decide) ?_
  refine lv_iadd hx hb dX1_addLeads_42 ?_
  refine hw_put (x := ((σ5 24 16) + (1 : Int32))) (j := 16) hx hb hts hiX1 tyX1 tyX1_ok nmX1 hown hK hJ0 hP hS (Nat.lt_of_lt_of_le (by decide) hN) (bX_24 _) rfl (by decide) (List.mem_of_getElem? (i := 1) rfl) rfl rfl rfl rfl (Nat.le_of_ble_eq_true rfl) (by rw [bX_24]; rfl) dX1_addLeads_43 (fun H locs hP hS => ?_)
  obtain ⟨x3_6, ex3_6⟩ : ∃ z : Int32, z = v3_1 + (1 : Int32) := ⟨_, rfl⟩
  have hw := hw x3_6 ex3_6
  refine lv_iinc (v := x3_6) (lv' := [(3, .int x3_6), (0, .ref (ad 24)), (1, .int a1), (2, .int a2)]) hx hb dX1_addLeads_46 hl (k := 3) rfl (by rw [ex3_6]; rfl) (by decide) rfl (fun ls hl => ?_)
  refine lv_goto (tgt := 2) hx hb dX1_addLeads_49 (by decide) ?_
  exact hw _ _ _ hP hS (lv_sub hl [1, 2, 3, 0] rfl)
set_option maxHeartbeats 4000000 in
set_option maxRecDepth 100000 in
theorem kc_X1_follow (l : Launch) (D : va_G) (cy : Nat → ClassId) (N : Nat) (hN : 38 ≤ N) (ad : Nat → Nat) (hJ0 : hJ N ad) (σ : hSt) (sz : Nat) (a1 : Int32) (Q : Int32 → hSt → Prop) (hw : wp_X1_follow a1 σ Q) : Met l yX1_follow wsX1_follow ({ frames := 2, cells := 0, slots := 0, locals := 45 } : Room) (va_Pc [.ref (ad 24), .int a1] (hB D cy (hC N ad (bX cy ad) σ) sz)) (va_Qi (fun (r : Int32) (u : hSt) => Q r u) (hE D (fun u : hSt => hC N ad (bX cy ad) u)) (hA N ad sz)) 0 0 (hA N ad sz) := by
  refine Met.ofW (cc := cX1_follow) (maxL := 3) (ret := (some .int)) (by decide) rfl ?_
  intro p e s m args below meth c s₁ B hml hv
  obtain ⟨rfl, hsz, hP, hK, hN1⟩ := hv
  have hx := B.exec
  have hb := B.bytes
  have hr := B.returns
  have hts := atoms_spec (ws := wsX1_follow) B.pre
  have hown : s.vm.findClass RX1 = some m.cls := findClass_of_methodNamed B.named
  have hlocks := B.notSynchronized
  subst hsz
  have hS : va_S (hA N ad s.heap.size) s.heap s.heap [] := va_S.rf
  have hiX1 : ∀ w ∈ wsX10, w ∈ wsX1_follow := fun _ h => List.mem_cons_of_mem _ (List.mem_append_right _ h)
  have hl := lv_entry ([.ref (ad 24), .int a1]) (n := 3) (Nat.le_of_ble_eq_true rfl)
  rw [lg_entry_eq]
  generalize (lg_sl ([.ref (ad 24), .int a1]) ++ List.replicate (3 - (lg_sl ([.ref (ad 24), .int a1])).length) Slot.unset).toArray = ls at hl ⊢
  have hl : lv_has ls 3 [(0, .ref (ad 24)), (1, .int a1)] := hl
  unfold wp_X1_follow at hw
  refine lv_aload_n hx hb dX1_follow_0 rfl (lv_at hl 0 rfl) ?_
  refine hw_get (v := .ref (ad 25)) hx hb hts hiX1 hown hK hP (Nat.lt_of_lt_of_le (by decide) hN) (bX_24 _) rfl 4 (by decide) (List.mem_of_getElem? (i := 1) rfl) rfl rfl dX1_follow_1 ?_
  refine lv_iload_n hx hb dX1_follow_4 rfl (lv_at hl 1 rfl) ?_
  refine hw_ki (va_runSN (As := [.ref (ad 25), .int a1]) (rest := []) ⟨hx, hb, hml, hown, hts⟩ (kc_X11_cell l D cy N hN ad hJ0 σ _ 25 hAi_25 a1 _ hw) ⟨va_cnB 2 hts gX1_follow_X11_cell_n57 rfl rfl rfl (hN1.at 1 rfl) (hts (.initialized RX11) (List.mem_of_getElem? (i := 5) rfl)) (by decide +kernel) ⟨Nat.le_of_ble_eq_true rfl, Nat.le_of_ble_eq_true rfl⟩, hts (.static yX11_cell) (List.mem_of_getElem? (i := 4) rfl), trivial⟩ (hw_pre hK hN1 hP) rfl rfl hl.1 rfl (lv_room (Nat.le_of_ble_eq_true rfl)) dX1_follow_5 ⟨Nat.zero_le _, Nat.zero_le _⟩) hS (fun r2 σ1 H locs hw hP hS => ?_)
  obtain ⟨hu_, hw⟩ := hw
  rw [hu_] at hP
  refine lv_istore_n (lv' := [(2, .int r2), (0, .ref (ad 24)), (1, .int a1)]) hx hb dX1_follow_8 rfl hl (by decide) rfl (fun ls hl => ?_)
  refine lv_iload_n hx hb dX1_follow_9 rfl (lv_at hl 0 rfl) ?_
  refine lv_bipush (v := 41) hx hb dX1_follow_10 (by decide) ?_
  refine lv_icmp_ne (tgt := 21) hx hb dX1_follow_12 (by decide) (fun c3 => ?_) (fun c3 => ?_)
  · have hw := hw.1 c3
    refine lv_iload_n hx hb dX1_follow_21 rfl (lv_at hl 0 rfl) ?_
    refine lv_bipush (v := 40) hx hb dX1_follow_22 (by decide) ?_
    refine lv_icmp_ne (tgt := 35) hx hb dX1_follow_24 (by decide) (fun c4 => ?_) (fun c4 => ?_)
    · have hw := hw.1 c4
      refine lv_iload_n hx hb dX1_follow_35 rfl (lv_at hl 0 rfl) ?_
      refine hw_ki (va_runS (As := [.int r2]) (rest := []) ⟨hx, hb, hml, hown, hts⟩ (kc_X1_callFor l D cy N ad (bX cy ad) σ _ r2 _ hw) (va_cwS 1 hts gX1_follow_X1_callFor rfl rfl rfl (by decide +kernel) ⟨Nat.le_of_ble_eq_true rfl, Nat.le_of_ble_eq_true rfl⟩) (hw_pre hK hN1 hP) rfl rfl hl.1 rfl (lv_room (Nat.le_of_ble_eq_true rfl)) dX1_follow_36 ⟨Nat.zero_le _, Nat.zero_le _⟩) hS (fun r6 σ5 H locs hw hP hS => ?_)
      obtain ⟨hu_, hw⟩ := hw
      rw [hu_] at hP
      refine lv_iconst (v := -1) hx hb dX1_follow_39 (by decide) ?_
      refine lv_icmp_ne (tgt := 54) hx hb dX1_follow_40 (by decide) (fun c7 => ?_) (fun c7 => ?_)
      · have hw := hw.1 c7
        refine lv_aload_n hx hb dX1_follow_54 rfl (lv_at hl 1 rfl) ?_
        refine lv_iload_n hx hb dX1_follow_55 rfl (lv_at hl 0 rfl) ?_
        refine hw_ki (va_runS (As := [.int r2]) (rest := [.ref (ad 24)]) ⟨hx, hb, hml, hown, hts⟩ (kc_X1_callFor l D cy N ad (bX cy ad) σ _ r2 _ hw) (va_cwS 1 hts gX1_follow_X1_callFor rfl rfl rfl (by decide +kernel) ⟨Nat.le_of_ble_eq_true rfl, Nat.le_of_ble_eq_true rfl⟩) (hw_pre hK hN1 hP) rfl rfl hl.1 rfl (lv_room (Nat.le_of_ble_eq_true rfl)) dX1_follow_56 ⟨Nat.zero_le _, Nat.zero_le _⟩) hS (fun r9 σ8 H locs hw hP hS => ?_)
        obtain ⟨hu_, hw⟩ := hw
        rw [hu_] at hP
        refine lv_aload_n hx hb dX1_follow_59 rfl (lv_at hl 1 rfl) ?_
        refine hw_get (v := .ref (ad 26)) hx hb hts hiX1 hown hK hP (Nat.lt_of_lt_of_le (by decide) hN) (bX_24 _) rfl 5 (by decide) (List.mem_of_getElem? (i := 3) rfl) rfl rfl dX1_follow_60 ?_
        refine lv_iload_n hx hb dX1_follow_63 rfl (lv_at hl 2 rfl) ?_
        refine hw_ki (va_runSN (As := [.ref (ad 26), .int a1]) (rest := [.int r9, .ref (ad 24)]) ⟨hx, hb, hml, hown, hts⟩ (kc_X11_cell l D cy N hN ad hJ0 σ _ 26 hAi_26 a1 _ hw) ⟨va_cnB 2 hts gX1_follow_X11_cell_n57 rfl rfl rfl (hN1.at 1 rfl) (hts (.initialized RX11) (List.mem_of_getElem? (i := 5) rfl)) (by decide +kernel) ⟨Nat.le_of_ble_eq_true rfl, Nat.le_of_ble_eq_true rfl⟩, hts (.static yX11_cell) (List.mem_of_getElem? (i := 4) rfl), trivial⟩ (hw_pre hK hN1 hP) rfl rfl hl.1 rfl (lv_room (Nat.le_of_ble_eq_true rfl)) dX1_follow_64 ⟨Nat.zero_le _, Nat.zero_le _⟩) hS (fun r11 σ10 H locs hw hP hS => ?_)
        obtain ⟨hu_, hw⟩ := hw
        rw [hu_] at hP
        refine hw_kv (va_runV (As := [.int r9, .int r11]) (rest := []) ⟨hx, hb, hml, hown, hts⟩ (kc_X1_addLeads l D cy N hN ad hJ0 σ _ r9 r11 _ hw) (cwV 2 hts gX1_follow_X1_addLeads rfl rfl rfl (by decide +kernel) ⟨Nat.le_of_ble_eq_true rfl, Nat.le_of_ble_eq_true rfl⟩) (hw_preV hK hN1 hP (Nat.lt_of_lt_of_le (by decide) hN) (bX_24 _) rfl) rfl rfl hl.1 rfl (lv_room (Nat.le_of_ble_eq_true rfl)) dX1_follow_67 ⟨Nat.zero_le _, Nat.zero_le _⟩) hS (fun σ12 H locs hw hP hS => ?_)
        refine lv_iload_n hx hb dX1_follow_70 rfl (lv_at hl 2 rfl) ?_
        refine lv_iconst (v := 1) hx hb dX1_follow_71 (by decide) ?_
        refine lv_iadd hx hb dX1_follow_72 ?_
        exact hw_iret hx hb hr hlocks (σ12) hw hP hS dX1_follow_73
      have hw := hw.2 c7
      refine lv_aload_n hx hb dX1_follow_43 rfl (lv_at hl 1 rfl) ?_
      refine lv_iload_n hx hb dX1_follow_44 rfl (lv_at hl 0 rfl) ?_
      refine lv_bipush (v := 65) hx hb dX1_follow_45 (by decide) ?_
      refine lv_isub hx hb dX1_follow_47 ?_
      refine hw_put (x := (r2 - (65 : Int32))) (j := 7) hx hb hts hiX1 tyX1 tyX1_ok nmX1 hown hK hJ0 hP hS (Nat.lt_of_lt_of_le (by decide) hN) (bX_24 _) rfl (by decide) (List.mem_of_getElem? (i := 2) rfl) rfl rfl rfl rfl (Nat.le_of_ble_eq_true rfl) (by rw [bX_24]; rfl) dX1_follow_48 (fun H locs hP hS => ?_)
      refine lv_goto (tgt := 70) hx hb dX1_follow_51 (by decide) ?_
      refine lv_iload_n hx hb dX1_follow_70 rfl (lv_at hl 2 rfl) ?_
      refine lv_iconst (v := 1) hx hb dX1_follow_71 (by decide) ?_
      refine lv_iadd hx hb dX1_follow_72 ?_
      exact hw_iret hx hb hr hlocks ((hup σ 24 7 (r2 - (65 : Int32)))) hw hP hS dX1_follow_73
    have hw := hw.2 c4
    refine lv_aload_n hx hb dX1_follow_27 rfl (lv_at hl 1 rfl) ?_
    refine lv_iload_n hx hb dX1_follow_28 rfl (lv_at hl 2 rfl) ?_
    refine hw_kv (va_runV (As := [.int a1]) (rest := []) ⟨hx, hb, hml, hown, hts⟩ (kc_X1_enterGroup l D cy N hN ad hJ0 σ _ a1 _ hw) (cwV 1 hts gX1_follow_X1_enterGroup rfl rfl rfl (by decide +kernel) ⟨Nat.le_of_ble_eq_true rfl, Nat.le_of_ble_eq_true rfl⟩) (hw_preV hK hN1 hP (Nat.lt_of_lt_of_le (by decide) hN) (bX_24 _) rfl) rfl rfl hl.1 rfl (lv_room (Nat.le_of_ble_eq_true rfl)) dX1_follow_29 ⟨Nat.zero_le _, Nat.zero_le _⟩) hS (fun σ13 H locs hw hP hS => ?_)
    refine lv_goto (tgt := 70) hx hb dX1_follow_32 (by decide) ?_
    refine lv_iload_n hx hb dX1_follow_70 rfl (lv_at hl 2 rfl) ?_
    refine lv_iconst (v := 1) hx hb dX1_follow_71 (by decide) ?_
    refine lv_iadd hx hb dX1_follow_72 ?_
    exact hw_iret hx hb hr hlocks (σ13) hw hP hS dX1_follow_73
  have hw := hw.2 c3
  refine lv_aload_n hx hb dX1_follow_15 rfl (lv_at hl 1 rfl) ?_
  refine lv_iload_n hx hb dX1_follow_16 rfl (lv_at hl 2 rfl) ?_
  refine hw_ki (va_runV (As := [.int a1]) (rest := []) ⟨hx, hb, hml, hown, hts⟩ (kc_X1_leaveGroup l D cy N hN ad hJ0 σ _ a1 _ hw) (cwV 1 hts gX1_follow_X1_leaveGroup rfl rfl rfl (by decide +kernel) ⟨Nat.le_of_ble_eq_true rfl, Nat.le_of_ble_eq_true rfl⟩) (hw_preV hK hN1 hP (Nat.lt_of_lt_of_le (by decide) hN) (bX_24 _) rfl) rfl rfl hl.1 rfl (lv_room (Nat.le_of_ble_eq_true rfl)) dX1_follow_17 ⟨Nat.zero_le _, Nat.zero_le _⟩) hS (fun r15 σ14 H locs hw hP hS => ?_)
  exact hw_iret hx hb hr hlocks (σ14) hw hP hS dX1_follow_20
set_option maxHeartbeats 4000000 in
set_option maxRecDepth 100000 in
theorem kc_X10_kind_r24 (l : Launch) (D : va_G) (cy : Nat → ClassId) (N : Nat) (hN : 38 ≤ N) (ad : Nat → Nat) (hJ0 : hJ N ad) (σ : hSt) (sz : Nat)  (Q : Int32 → Prop) (hw : wp_X10_kind_r24  σ Q) : Met l yX10_kind wsX10_kind ({ frames := 0, cells := 0, slots := 0, locals := 0 } : Room) (va_Pc [.ref (ad 24)] (hB D cy (hC N ad (bX cy ad) σ) sz)) (va_Qi (fun (r : Int32) (u : hSt) => u = σ ∧ Q r) (hE D (fun u : hSt => hC N ad (bX cy ad) u)) (hA N ad sz)) 0 0 (hA N ad sz) := by
  refine Met.ofW (cc := cX10_kind) (maxL := 1) (ret := (some .int)) (by decide) rfl ?_
  intro p e s m args below meth c s₁ B hml hv
  obtain ⟨rfl, hsz, hP, hK, hN1⟩ := hv
  have hx := B.exec
  have hb := B.bytes
  have hr := B.returns
  have hts := atoms_spec (ws := wsX10_kind) B.pre
  have hown : s.vm.findClass RX10 = some m.cls := findClass_of_methodNamed B.named
  have hlocks := B.notSynchronized
  subst hsz
  have hS : va_S (hA N ad s.heap.size) s.heap s.heap [] := va_S.rf
  have hiX1 : ∀ w ∈ wsX10, w ∈ wsX10_kind := fun _ h => List.mem_cons_of_mem _ (List.mem_append_left _ (List.mem_append_right _ h))
  have hl := lv_entry ([.ref (ad 24)]) (n := 1) (Nat.le_of_ble_eq_true rfl)
  rw [lg_entry_eq]
  generalize (lg_sl ([.ref (ad 24)]) ++ List.replicate (1 - (lg_sl ([.ref (ad 24)])).length) Slot.unset).toArray = ls at hl ⊢
  have hl : lv_has ls 1 [(0, .ref (ad 24))] := hl
  unfold wp_X10_kind_r24 at hw
  refine lv_aload_n hx hb dX10_kind_0 rfl (lv_at hl 0 rfl) ?_
  refine hw_get (v := .int (σ 24 0)) hx hb hts hiX1 hown hK hP (Nat.lt_of_lt_of_le (by decide) hN) (bX_24 _) rfl 0 (by decide) (List.mem_of_getElem? (i := 1) rfl) rfl rfl dX10_kind_1 ?_
  exact hw_iret hx hb hr hlocks (σ) ⟨rfl, hw⟩ hP hS dX10_kind_4
set_option maxHeartbeats 4000000 in
set_option maxRecDepth 100000 in
theorem kc_X1_spread (l : Launch) (D : va_G) (cy : Nat → ClassId) (N : Nat) (hN : 38 ≤ N) (ad : Nat → Nat) (hJ0 : hJ N ad) (σ : hSt) (sz : Nat) (a1 : Int32) (Q : Int32 → hSt → Prop) (hw : wp_X1_spread a1 σ Q) : Met l yX1_spread wsX1_spread ({ frames := 3, cells := 0, slots := 0, locals := 67 } : Room) (va_Pc [.ref (ad 24), .int a1] (hB D cy (hC N ad (bX cy ad) σ) sz)) (va_Qi (fun (r : Int32) (u : hSt) => Q r u) (hE D (fun u : hSt => hC N ad (bX cy ad) u)) (hA N ad sz)) 0 0 (hA N ad sz) := by
  refine Met.ofW (cc := cX1_spread) (maxL := 4) (ret := (some .boolean)) (by decide) rfl ?_
  intro p e s m args below meth c s₁ B hml hv
  obtain ⟨rfl, hsz, hP, hK, hN1⟩ := hv
  have hx := B.exec
  have hb := B.bytes
  have hr := B.returns
  have hts := atoms_spec (ws := wsX1_spread) B.pre
  have hown : s.vm.findClass RX1 = some m.cls := findClass_of_methodNamed B.named
  have hlocks := B.notSynchronized
  subst hsz
  have hS : va_S (hA N ad s.heap.size) s.heap s.heap [] := va_S.rf
  have hiX1 : ∀ w ∈ wsX10, w ∈ wsX1_spread := fun _ h => List.mem_cons_of_mem _ (List.mem_append_left _ (List.mem_append_right _ h))
  have hl := lv_entry ([.ref (ad 24), .int a1]) (n := 4) (Nat.le_of_ble_eq_true rfl)
  rw [lg_entry_eq]
  generalize (lg_sl ([.ref (ad 24), .int a1]) ++ List.replicate (4 - (lg_sl ([.ref (ad 24), .int a1])).length) Slot.unset).toArray = ls at hl ⊢
  have hl : lv_has ls 4 [(0, .ref (ad 24)), (1, .int a1)] := hl
  unfold wp_X1_spread at hw
  refine lv_aload_n hx hb dX1_spread_0 rfl (lv_at hl 0 rfl) ?_
  refine lv_iconst (v := 0) hx hb dX1_spread_1 (by decide) ?_
  refine hw_put (x := (0 : Int32)) (j := 16) hx hb hts hiX1 tyX1 tyX1_ok nmX1 hown hK hJ0 hP hS (Nat.lt_of_lt_of_le (by decide) hN) (bX_24 _) rfl (by decide) (List.mem_of_getElem? (i := 1) rfl) rfl rfl rfl rfl (Nat.le_of_ble_eq_true rfl) (by rw [bX_24]; rfl) dX1_spread_2 (fun H locs hP hS => ?_)
  refine lv_aload_n hx hb dX1_spread_5 rfl (lv_at hl 0 rfl) ?_
  refine lv_iconst (v := 0) hx hb dX1_spread_6 (by decide) ?_
  refine hw_put (x := (0 : Int32)) (j := 7) hx hb hts hiX1 tyX1 tyX1_ok nmX1 hown hK hJ0 hP hS (Nat.lt_of_lt_of_le (by decide) hN) (bX_24 _) rfl (by decide) (List.mem_of_getElem? (i := 2) rfl) rfl rfl rfl rfl (Nat.le_of_ble_eq_true rfl) (by rw [bX_24]; rfl) dX1_spread_7 (fun H locs hP hS => ?_)
  refine lv_aload_n hx hb dX1_spread_10 rfl (lv_at hl 0 rfl) ?_
  refine lv_iconst (v := 0) hx hb dX1_spread_11 (by decide) ?_
  refine hw_put (x := (0 : Int32)) (j := 8) hx hb hts hiX1 tyX1 tyX1_ok nmX1 hown hK hJ0 hP hS (Nat.lt_of_lt_of_le (by decide) hN) (bX_24 _) rfl (by decide) (List.mem_of_getElem? (i := 3) rfl) rfl rfl rfl rfl (Nat.le_of_ble_eq_true rfl) (by rw [bX_24]; rfl) dX1_spread_12 (fun H locs hP hS => ?_)
  refine lv_iconst (v := 0) hx hb dX1_spread_15 (by decide) ?_
  refine lv_istore_n (lv' := [(2, .int (0 : Int32)), (0, .ref (ad 24)), (1, .int a1)]) hx hb dX1_spread_16 rfl hl (by decide) rfl (fun ls hl => ?_)
  refine lv_iconst (v := 0) hx hb dX1_spread_17 (by decide) ?_
  refine lv_istore_n (lv' := [(3, .int (0 : Int32)), (2, .int (0 : Int32)), (0, .ref (ad 24)), (1, .int a1)]) hx hb dX1_spread_18 rfl hl (by decide) rfl (fun ls hl => ?_)
  refine hw (fun (v2_1 : Int32) (v3_2 : Int32) (σ3 : hSt) => ∀ (H : Heap) (locs : List Loc) (ls : Array Slot), va_P D vwCl (hC N ad (bX cy ad) σ3) H → va_S (hA N ad s.heap.size) s.heap H locs → lv_has ls 4 [(0, .ref (ad 24)), (1, .int a1), (2, .int v2_1), (3, .int v3_2)] → W p l e (headSpec wsX1_spread ({ frames := 3, cells := 0, slots := 0, locals := 67 } : Room)).room s m ([Value.ref (ad 24), Value.int a1] : List Value).toArray below meth c H locs 0 0 (MQ below (va_Qi (fun (r : Int32) (u : hSt) => Q r u) (hE D (fun u : hSt => hC N ad (bX cy ad) u)) (hA N ad s.heap.size)) ([Value.ref (ad 24), Value.int a1] : List Value).toArray s 0 0 (hA N ad s.heap.size)) (F0 m 19 ls [])) (fun v2_1 v3_2 σ3 hw H locs ls hP hS hl => ?_) _ _ _ hP hS (lv_sub hl [2, 3, 1, 0] rfl)
  refine lv_iload_n hx hb dX1_spread_19 rfl (lv_at hl 3 rfl) ?_
  refine lv_ldc (v := 10000000) hx hb hown (hts (.constant RX1 93 10000000) (List.mem_of_getElem? (i := 4) rfl)) dX1_spread_20 ?_
  obtain ⟨J55, ehJ55, hw⟩ := hM_x hw
  have hJ55 : ∀ (H : Heap) (locs : List Loc) (ls : Array Slot), J55 → va_P D vwCl (hC N ad (bX cy ad) σ3) H → va_S (hA N ad s.heap.size) s.heap H locs → lv_has ls 4 [(0, .ref (ad 24)), (1, .int a1)] → W p l e (headSpec wsX1_spread ({ frames := 3, cells := 0, slots := 0, locals := 67 } : Room)).room s m ([Value.ref (ad 24), Value.int a1] : List Value).toArray below meth c H locs 0 0 (MQ below (va_Qi (fun (r : Int32) (u : hSt) => Q r u) (hE D (fun u : hSt => hC N ad (bX cy ad) u)) (hA N ad s.heap.size)) ([Value.ref (ad 24), Value.int a1] : List Value).toArray s 0 0 (hA N ad s.heap.size)) (F0 m 55 ls []) := by
    intro H locs ls hw hP hS hl
    rw [ehJ55] at hw
    refine lv_aload_n hx hb dX1_spread_55 rfl (lv_at hl 0 rfl) ?_
    refine hw_get (v := .int (σ3 24 16)) hx hb hts hiX1 hown hK hP (Nat.lt_of_lt_of_le (by decide) hN) (bX_24 _) rfl 16 (by decide) (List.mem_of_getElem? (i := 1) rfl) rfl rfl dX1_spread_56 ?_
    refine lv_sipush (v := 1000) hx hb dX1_spread_59 (by decide) ?_
    refine lv_icmp_le (tgt := 71) hx hb dX1_spread_62 (by decide) (fun c4 => ?_) (fun c4 => ?_)
    · have hw := hw.1 c4
      refine lv_aload_n hx hb dX1_spread_71 rfl (lv_at hl 0 rfl) ?_
      refine hw_ki (va_runU (As := []) (rest := []) ⟨hx, hb, hml, hown, hts⟩ (kc_X10_kind_r24 l D cy N hN ad hJ0 σ3 _  _ hw) (va_cwU 0 hts gX1_spread_X10_kind_u97X1 rfl rfl rfl rfl (by decide +kernel) ⟨Nat.le_of_ble_eq_true rfl, Nat.le_of_ble_eq_true rfl⟩) (hw_preV hK hN1 hP (Nat.lt_of_lt_of_le (by decide) hN) (bX_24 _) rfl) rfl rfl hl.1 rfl (lv_room (Nat.le_of_ble_eq_true rfl)) dX1_spread_72 ⟨Nat.zero_le _, Nat.zero_le _⟩) hS (fun r6 σ5 H locs hw hP hS => ?_)
      obtain ⟨hu_, hw⟩ := hw
      rw [hu_] at hP
      refine lv_if_ne (tgt := 82) hx hb dX1_spread_75 (by decide) (fun c7 => ?_) (fun c7 => ?_)
      · have hw := hw.1 c7
        refine lv_iconst (v := 0) hx hb dX1_spread_82 (by decide) ?_
        exact hw_zret hx hb hr hlocks hbo_0 (σ3) hw hP hS dX1_spread_83
      have hw := hw.2 c7
      refine lv_iconst (v := 1) hx hb dX1_spread_78 (by decide) ?_
      refine lv_goto (tgt := 83) hx hb dX1_spread_79 (by decide) ?_
      exact hw_zret hx hb hr hlocks hbo_1 (σ3) hw hP hS dX1_spread_83
    have hw := hw.2 c4
    refine lv_aload_n hx hb dX1_spread_65 rfl (lv_at hl 0 rfl) ?_
    refine lv_iconst (v := 5) hx hb dX1_spread_66 (by decide) ?_
    refine lv_iload_n hx hb dX1_spread_67 rfl (lv_at hl 1 rfl) ?_
    refine hw_kv (va_runU (As := [.int (5 : Int32), .int a1]) (rest := []) ⟨hx, hb, hml, hown, hts⟩ (kc_X10_refuse_r24 l D cy N hN ad hJ0 σ3 _ (5 : Int32) a1 _ hw) (va_cwU 2 hts gX1_spread_X10_refuse_u76X1 rfl rfl rfl rfl (by decide +kernel) ⟨Nat.le_of_ble_eq_true rfl, Nat.le_of_ble_eq_true rfl⟩) (hw_preV hK hN1 hP (Nat.lt_of_lt_of_le (by decide) hN) (bX_24 _) rfl) rfl rfl hl.1 rfl (lv_room (Nat.le_of_ble_eq_true rfl)) dX1_spread_68 ⟨Nat.zero_le _, Nat.zero_le _⟩) hS (fun σ8 H locs hw hP hS => ?_)
    refine lv_aload_n hx hb dX1_spread_71 rfl (lv_at hl 0 rfl) ?_
    refine hw_ki (va_runU (As := []) (rest := []) ⟨hx, hb, hml, hown, hts⟩ (kc_X10_kind_r24 l D cy N hN ad hJ0 σ8 _  _ hw) (va_cwU 0 hts gX1_spread_X10_kind_u97X1 rfl rfl rfl rfl (by decide +kernel) ⟨Nat.le_of_ble_eq_true rfl, Nat.le_of_ble_eq_true rfl⟩) (hw_preV hK hN1 hP (Nat.lt_of_lt_of_le (by decide) hN) (bX_24 _) rfl) rfl rfl hl.1 rfl (lv_room (Nat.le_of_ble_eq_true rfl)) dX1_spread_72 ⟨Nat.zero_le _, Nat.zero_le _⟩) hS (fun r10 σ9 H locs hw hP hS => ?_)
    obtain ⟨hu_, hw⟩ := hw
    rw [hu_] at hP
    refine lv_if_ne (tgt := 82) hx hb dX1_spread_75 (by decide) (fun c11 => ?_) (fun c11 => ?_)
    · have hw := hw.1 c11
      refine lv_iconst (v := 0) hx hb dX1_spread_82 (by decide) ?_
      exact hw_zret hx hb hr hlocks hbo_0 (σ8) hw hP hS dX1_spread_83
    have hw := hw.2 c11
    refine lv_iconst (v := 1) hx hb dX1_spread_78 (by decide) ?_
    refine lv_goto (tgt := 83) hx hb dX1_spread_79 (by decide) ?_
    exact hw_zret hx hb hr hlocks hbo_1 (σ8) hw hP hS dX1_spread_83
  refine lv_icmp_ge (tgt := 55) hx hb dX1_spread_22 (by decide) (fun c12 => ?_) (fun c12 => ?_)
  · have hw := hw.1 c12
    exact hJ55  _ _ _ hw hP hS (lv_sub hl [0, 1] rfl)
  have hw := hw.2 c12
  refine lv_iload_n hx hb dX1_spread_25 rfl (lv_at hl 2 rfl) ?_
  refine lv_aload_n hx hb dX1_spread_26 rfl (lv_at hl 0 rfl) ?_
  refine hw_get (v := .int (σ3 24 6)) hx hb hts hiX1 hown hK hP (Nat.lt_of_lt_of_le (by decide) hN) (bX_24 _) rfl 6 (by decide) (List.mem_of_getElem? (i := 5) rfl) rfl rfl dX1_spread_27 ?_
  refine lv_icmp_ge (tgt := 55) hx hb dX1_spread_30 (by decide) (fun c13 => ?_) (fun c13 => ?_)
  · have hw := hw.1 c13
    exact hJ55  _ _ _ hw hP hS (lv_sub hl [0, 1] rfl)
  have hw := hw.2 c13
  refine lv_aload_n hx hb dX1_spread_33 rfl (lv_at hl 0 rfl) ?_
  refine hw_get (v := .int (σ3 24 16)) hx hb hts hiX1 hown hK hP (Nat.lt_of_lt_of_le (by decide) hN) (bX_24 _) rfl 16 (by decide) (List.mem_of_getElem? (i := 1) rfl) rfl rfl dX1_spread_34 ?_
  refine lv_sipush (v := 1000) hx hb dX1_spread_37 (by decide) ?_
  refine lv_icmp_gt (tgt := 55) hx hb dX1_spread_40 (by decide) (fun c14 => ?_) (fun c14 => ?_)
  · have hw := hw.1 c14
    exact hJ55  _ _ _ hw hP hS (lv_sub hl [0, 1] rfl)
  have hw := hw.2 c14
  refine lv_aload_n hx hb dX1_spread_43 rfl (lv_at hl 0 rfl) ?_
  refine lv_iload_n hx hb dX1_spread_44 rfl (lv_at hl 2 rfl) ?_
  refine hw_ki (va_runV (As := [.int v2_1]) (rest := []) ⟨hx, hb, hml, hown, hts⟩ (kc_X1_follow l D cy N hN ad hJ0 σ3 _ v2_1 _ hw) (cwV 1 hts gX1_spread_X1_follow rfl rfl rfl (by decide +kernel) ⟨Nat.le_of_ble_eq_true rfl, Nat.le_of_ble_eq_true rfl⟩) (hw_preV hK hN1 hP (Nat.lt_of_lt_of_le (by decide) hN) (bX_24 _) rfl) rfl rfl hl.1 rfl (lv_room (Nat.le_of_ble_eq_true rfl)) dX1_spread_45 ⟨Nat.zero_le _, Nat.zero_le _⟩) hS (fun r16 σ15 H locs hw hP hS => ?_)
  refine lv_istore_n (lv' := [(2, .int r16), (0, .ref (ad 24)), (1, .int a1), (3, .int v3_2)]) hx hb dX1_spread_48 rfl hl (by decide) rfl (fun ls hl => ?_)
  obtain ⟨x3_17, ex3_17⟩ : ∃ z : Int32, z = v3_2 + (1 : Int32) := ⟨_, rfl⟩
  have hw := hw x3_17 ex3_17
  refine lv_iinc (v := x3_17) (lv' := [(3, .int x3_17), (2, .int r16), (0, .ref (ad 24)), (1, .int a1)]) hx hb dX1_spread_49 hl (k := 3) rfl (by rw [ex3_17]; rfl) (by decide) rfl (fun ls hl => ?_)
  refine lv_goto (tgt := 19) hx hb dX1_spread_52 (by decide) ?_
  exact hw _ _ _ hP hS (lv_sub hl [2, 3, 1, 0] rfl)
set_option maxHeartbeats 4000000 in
set_option maxRecDepth 100000 in
theorem kc_X10_place_r24 (l : Launch) (D : va_G) (cy : Nat → ClassId) (N : Nat) (hN : 38 ≤ N) (ad : Nat → Nat) (hJ0 : hJ N ad) (σ : hSt) (sz : Nat)  (Q : Int32 → Prop) (hw : wp_X10_place_r24  σ Q) : Met l yX10_place wsX10_place ({ frames := 0, cells := 0, slots := 0, locals := 0 } : Room) (va_Pc [.ref (ad 24)] (hB D cy (hC N ad (bX cy ad) σ) sz)) (va_Qi (fun (r : Int32) (u : hSt) => u = σ ∧ Q r) (hE D (fun u : hSt => hC N ad (bX cy ad) u)) (hA N ad sz)) 0 0 (hA N ad sz) := by
  refine Met.ofW (cc := cX10_place) (maxL := 1) (ret := (some .int)) (by decide) rfl ?_
  intro p e s m args below meth c s₁ B hml hv
  obtain ⟨rfl, hsz, hP, hK, hN1⟩ := hv
  have hx := B.exec
  have hb := B.bytes
  have hr := B.returns
  have hts := atoms_spec (ws := wsX10_place) B.pre
  have hown : s.vm.findClass RX10 = some m.cls := findClass_of_methodNamed B.named
  have hlocks := B.notSynchronized
  subst hsz
  have hS : va_S (hA N ad s.heap.size) s.heap s.heap [] := va_S.rf
  have hiX1 : ∀ w ∈ wsX10, w ∈ wsX10_place := fun _ h => List.mem_cons_of_mem _ (List.mem_append_left _ (List.mem_append_right _ h))
  have hl := lv_entry ([.ref (ad 24)]) (n := 1) (Nat.le_of_ble_eq_true rfl)
  rw [lg_entry_eq]
  generalize (lg_sl ([.ref (ad 24)]) ++ List.replicate (1 - (lg_sl ([.ref (ad 24)])).length) Slot.unset).toArray = ls at hl ⊢
  have hl : lv_has ls 1 [(0, .ref (ad 24))] := hl
  unfold wp_X10_place_r24 at hw
  refine lv_aload_n hx hb dX10_place_0 rfl (lv_at hl 0 rfl) ?_
  refine hw_get (v := .int (σ 24 1)) hx hb hts hiX1 hown hK hP (Nat.lt_of_lt_of_le (by decide) hN) (bX_24 _) rfl 1 (by decide) (List.mem_of_getElem? (i := 1) rfl) rfl rfl dX10_place_1 ?_
  exact hw_iret hx hb hr hlocks (σ) ⟨rfl, hw⟩ hP hS dX10_place_4
set_option maxHeartbeats 4000000 in
set_option maxRecDepth 100000 in
theorem kc_X1_size (l : Launch) (D : va_G) (cy : Nat → ClassId) (N : Nat) (hN : 38 ≤ N) (ad : Nat → Nat) (hJ0 : hJ N ad) (σ : hSt) (sz : Nat)  (Q : Int32 → Prop) (hw : wp_X1_size  σ Q) : Met l yX1_size wsX1_size ({ frames := 0, cells := 0, slots := 0, locals := 0 } : Room) (va_Pc [.ref (ad 24)] (hB D cy (hC N ad (bX cy ad) σ) sz)) (va_Qi (fun (r : Int32) (u : hSt) => u = σ ∧ Q r) (hE D (fun u : hSt => hC N ad (bX cy ad) u)) (hA N ad sz)) 0 0 (hA N ad sz) := by
  refine Met.ofW (cc := cX1_size) (maxL := 1) (ret := (some .int)) (by decide) rfl ?_
  intro p e s m args below meth c s₁ B hml hv
  obtain ⟨rfl, hsz, hP, hK, hN1⟩ := hv
  have hx := B.exec
  have hb := B.bytes
  have hr := B.returns
  have hts := atoms_spec (ws := wsX1_size) B.pre
  have hown : s.vm.findClass RX1 = some m.cls := findClass_of_methodNamed B.named
  have hlocks := B.notSynchronized
  subst hsz
  have hS : va_S (hA N ad s.heap.size) s.heap s.heap [] := va_S.rf
  have hiX1 : ∀ w ∈ wsX10, w ∈ wsX1_size := fun _ h => List.mem_cons_of_mem _ (List.mem_append_right _ h)
  have hl := lv_entry ([.ref (ad 24)]) (n := 1) (Nat.le_of_ble_eq_true rfl)
  rw [lg_entry_eq]
  generalize (lg_sl ([.ref (ad 24)]) ++ List.replicate (1 - (lg_sl ([.ref (ad 24)])).length) Slot.unset).toArray = ls at hl ⊢
  have hl : lv_has ls 1 [(0, .ref (ad 24))] := hl
  unfold wp_X1_size at hw
  refine lv_aload_n hx hb dX1_size_0 rfl (lv_at hl 0 rfl) ?_
  refine hw_get (v := .int (σ 24 16)) hx hb hts hiX1 hown hK hP (Nat.lt_of_lt_of_le (by decide) hN) (bX_24 _) rfl 16 (by decide) (List.mem_of_getElem? (i := 1) rfl) rfl rfl dX1_size_1 ?_
  exact hw_iret hx hb hr hlocks (σ) ⟨rfl, hw⟩ hP hS dX1_size_4
set_option maxHeartbeats 4000000 in
set_option maxRecDepth 100000 in
theorem kc_X1_letterOf (l : Launch) (D : va_G) (cy : Nat → ClassId) (N : Nat) (hN : 38 ≤ N) (ad : Nat → Nat) (hJ0 : hJ N ad) (σ : hSt) (sz : Nat) (a1 : Int32) (Q : Int32 → Prop) (hw : wp_X1_letterOf a1 σ Q) : Met l yX1_letterOf wsX1_letterOf ({ frames := 1, cells := 0, slots := 0, locals := 21 } : Room) (va_Pc [.ref (ad 24), .int a1] (hB D cy (hC N ad (bX cy ad) σ) sz)) (va_Qi (fun (r : Int32) (u : hSt) => u = σ ∧ Q r) (hE D (fun u : hSt => hC N ad (bX cy ad) u)) (hA N ad sz)) 0 0 (hA N ad sz) := by
  refine Met.ofW (cc := cX1_letterOf) (maxL := 2) (ret := (some .int)) (by decide) rfl ?_
  intro p e s m args below meth c s₁ B hml hv
  obtain ⟨rfl, hsz, hP, hK, hN1⟩ := hv
  have hx := B.exec
  have hb := B.bytes
  have hr := B.returns
  have hts := atoms_spec (ws := wsX1_letterOf) B.pre
  have hown : s.vm.findClass RX1 = some m.cls := findClass_of_methodNamed B.named
  have hlocks := B.notSynchronized
  subst hsz
  have hS : va_S (hA N ad s.heap.size) s.heap s.heap [] := va_S.rf
  have hiX1 : ∀ w ∈ wsX10, w ∈ wsX1_letterOf := fun _ h => List.mem_cons_of_mem _ (List.mem_append_right _ h)
  have hl := lv_entry ([.ref (ad 24), .int a1]) (n := 2) (Nat.le_of_ble_eq_true rfl)
  rw [lg_entry_eq]
  generalize (lg_sl ([.ref (ad 24), .int a1]) ++ List.replicate (2 - (lg_sl ([.ref (ad 24), .int a1])).length) Slot.unset).toArray = ls at hl ⊢
  have hl : lv_has ls 2 [(0, .ref (ad 24)), (1, .int a1)] := hl
  unfold wp_X1_letterOf at hw
  refine lv_aload_n hx hb dX1_letterOf_0 rfl (lv_at hl 0 rfl) ?_
  refine hw_get (v := .ref (ad 30)) hx hb hts hiX1 hown hK hP (Nat.lt_of_lt_of_le (by decide) hN) (bX_24 _) rfl 15 (by decide) (List.mem_of_getElem? (i := 1) rfl) rfl rfl dX1_letterOf_1 ?_
  refine lv_iload_n hx hb dX1_letterOf_4 rfl (lv_at hl 1 rfl) ?_
  refine hw_ki (va_runSN (As := [.ref (ad 30), .int a1]) (rest := []) ⟨hx, hb, hml, hown, hts⟩ (kc_X11_cell l D cy N hN ad hJ0 σ _ 30 hAi_30 a1 _ hw) ⟨va_cnB 2 hts gX1_letterOf_X11_cell_n57 rfl rfl rfl (hN1.at 1 rfl) (hts (.initialized RX11) (List.mem_of_getElem? (i := 3) rfl)) (by decide +kernel) ⟨Nat.le_of_ble_eq_true rfl, Nat.le_of_ble_eq_true rfl⟩, hts (.static yX11_cell) (List.mem_of_getElem? (i := 2) rfl), trivial⟩ (hw_pre hK hN1 hP) rfl rfl hl.1 rfl (lv_room (Nat.le_of_ble_eq_true rfl)) dX1_letterOf_5 ⟨Nat.zero_le _, Nat.zero_le _⟩) hS (fun r2 σ1 H locs hw hP hS => ?_)
  obtain ⟨hu_, hw⟩ := hw
  rw [hu_] at hP
  refine lv_iconst (v := 3) hx hb dX1_letterOf_8 (by decide) ?_
  refine lv_idiv hx hb dX1_letterOf_9 (by decide) ?_
  exact hw_iret hx hb hr hlocks (σ) ⟨rfl, hw⟩ hP hS dX1_letterOf_10
set_option maxHeartbeats 4000000 in
set_option maxRecDepth 100000 in
theorem kc_X1_callOf (l : Launch) (D : va_G) (cy : Nat → ClassId) (N : Nat) (hN : 38 ≤ N) (ad : Nat → Nat) (hJ0 : hJ N ad) (σ : hSt) (sz : Nat) (a1 : Int32) (Q : Int32 → Prop) (hw : wp_X1_callOf a1 σ Q) : Met l yX1_callOf wsX1_callOf ({ frames := 1, cells := 0, slots := 0, locals := 21 } : Room) (va_Pc [.ref (ad 24), .int a1] (hB D cy (hC N ad (bX cy ad) σ) sz)) (va_Qi (fun (r : Int32) (u : hSt) => u = σ ∧ Q r) (hE D (fun u : hSt => hC N ad (bX cy ad) u)) (hA N ad sz)) 0 0 (hA N ad sz) := by
  refine Met.ofW (cc := cX1_callOf) (maxL := 2) (ret := (some .int)) (by decide) rfl ?_
  intro p e s m args below meth c s₁ B hml hv
  obtain ⟨rfl, hsz, hP, hK, hN1⟩ := hv
  have hx := B.exec
  have hb := B.bytes
  have hr := B.returns
  have hts := atoms_spec (ws := wsX1_callOf) B.pre
  have hown : s.vm.findClass RX1 = some m.cls := findClass_of_methodNamed B.named
  have hlocks := B.notSynchronized
  subst hsz
  have hS : va_S (hA N ad s.heap.size) s.heap s.heap [] := va_S.rf
  have hiX1 : ∀ w ∈ wsX10, w ∈ wsX1_callOf := fun _ h => List.mem_cons_of_mem _ (List.mem_append_right _ h)
  have hl := lv_entry ([.ref (ad 24), .int a1]) (n := 2) (Nat.le_of_ble_eq_true rfl)
  rw [lg_entry_eq]
  generalize (lg_sl ([.ref (ad 24), .int a1]) ++ List.replicate (2 - (lg_sl ([.ref (ad 24), .int a1])).length) Slot.unset).toArray = ls at hl ⊢
  have hl : lv_has ls 2 [(0, .ref (ad 24)), (1, .int a1)] := hl
  unfold wp_X1_callOf at hw
  refine lv_aload_n hx hb dX1_callOf_0 rfl (lv_at hl 0 rfl) ?_
  refine hw_get (v := .ref (ad 30)) hx hb hts hiX1 hown hK hP (Nat.lt_of_lt_of_le (by decide) hN) (bX_24 _) rfl 15 (by decide) (List.mem_of_getElem? (i := 1) rfl) rfl rfl dX1_callOf_1 ?_
  refine lv_iload_n hx hb dX1_callOf_4 rfl (lv_at hl 1 rfl) ?_
  refine hw_ki (va_runSN (As := [.ref (ad 30), .int a1]) (rest := []) ⟨hx, hb, hml, hown, hts⟩ (kc_X11_cell l D cy N hN ad hJ0 σ _ 30 hAi_30 a1 _ hw) ⟨va_cnB 2 hts gX1_callOf_X11_cell_n57 rfl rfl rfl (hN1.at 1 rfl) (hts (.initialized RX11) (List.mem_of_getElem? (i := 3) rfl)) (by decide +kernel) ⟨Nat.le_of_ble_eq_true rfl, Nat.le_of_ble_eq_true rfl⟩, hts (.static yX11_cell) (List.mem_of_getElem? (i := 2) rfl), trivial⟩ (hw_pre hK hN1 hP) rfl rfl hl.1 rfl (lv_room (Nat.le_of_ble_eq_true rfl)) dX1_callOf_5 ⟨Nat.zero_le _, Nat.zero_le _⟩) hS (fun r2 σ1 H locs hw hP hS => ?_)
  obtain ⟨hu_, hw⟩ := hw
  rw [hu_] at hP
  refine lv_iconst (v := 3) hx hb dX1_callOf_8 (by decide) ?_
  refine lv_irem hx hb dX1_callOf_9 (by decide) ?_
  exact hw_iret hx hb hr hlocks (σ) ⟨rfl, hw⟩ hP hS dX1_callOf_10
set_option maxHeartbeats 4000000 in
set_option maxRecDepth 100000 in
theorem kc_X6_bellAt (l : Launch) (D : va_G) (cy : Nat → ClassId) (N : Nat) (ad : Nat → Nat) (b : hCell) (σ : hSt) (sz : Nat) (a0 : Int32) (a1 : Int32) (Q : Int32 → Prop) (hw : wp_X6_bellAt a0 a1 Q) : Met l yX6_bellAt wsX6_bellAt ({ frames := 0, cells := 0, slots := 0, locals := 0 } : Room) (va_Pc [.int a0, .int a1] (hB D cy (hC N ad b σ) sz)) (va_Qi (fun (r : Int32) (u : hSt) => u = σ ∧ Q r) (hE D (fun u : hSt => hC N ad b u)) (hA N ad sz)) 0 0 (hA N ad sz) := by
  refine Met.ofW (cc := cX6_bellAt) (maxL := 2) (ret := (some .int)) (by decide) rfl ?_
  intro p e s m args below meth c s₁ B hml hv
  obtain ⟨rfl, hsz, hP, hK, hN1⟩ := hv
  have hx := B.exec
  have hb := B.bytes
  have hr := B.returns
  have hts := atoms_spec (ws := wsX6_bellAt) B.pre
  have hown : s.vm.findClass RX6 = some m.cls := findClass_of_methodNamed B.named
  have hlocks := B.notSynchronized
  subst hsz
  have hS : va_S (hA N ad s.heap.size) s.heap s.heap [] := va_S.rf
  have hl := lv_entry ([.int a0, .int a1]) (n := 2) (Nat.le_of_ble_eq_true rfl)
  rw [lg_entry_eq]
  generalize (lg_sl ([.int a0, .int a1]) ++ List.replicate (2 - (lg_sl ([.int a0, .int a1])).length) Slot.unset).toArray = ls at hl ⊢
  have hl : lv_has ls 2 [(0, .int a0), (1, .int a1)] := hl
  unfold wp_X6_bellAt at hw
  refine lv_iload_n hx hb dX6_bellAt_0 rfl (lv_at hl 0 rfl) ?_
  refine lv_iconst (v := 3) hx hb dX6_bellAt_1 (by decide) ?_
  refine lv_iload_n hx hb dX6_bellAt_2 rfl (lv_at hl 1 rfl) ?_
  refine lv_imul hx hb dX6_bellAt_3 ?_
  refine lv_iushr hx hb dX6_bellAt_4 rfl ?_
  refine lv_bipush (v := 7) hx hb dX6_bellAt_5 (by decide) ?_
  refine lv_iand hx hb dX6_bellAt_7 ?_
  exact hw_iret hx hb hr hlocks (σ) ⟨rfl, hw⟩ hP hS dX6_bellAt_8

set_option maxHeartbeats 4000000 in
set_option maxRecDepth 100000 in
theorem kc_X12_find (l : Launch) (D : va_G) (cy : Nat → ClassId) (N : Nat) (hN : 22 ≤ N) (ad : Nat → Nat) (hJ0 : hJ N ad) (w : Nat → Int64) (σ : hSt) (sz : Nat) (a1 : Int32) (a2 : Int32) (a3 : Int32) (Q : Int32 → hSt → Prop) (hw : wp_X12_find a1 a2 a3 σ w Q) : Met l yX12_find wsX12_find ({ frames := 2, cells := 0, slots := 0, locals := 51 } : Room) (va_Pc [.ref (ad 0), .int a1, .int a2, .int a3] (hB D cy (hC N ad (bY cy ad w) σ) sz)) (va_Qi (fun (r : Int32) (u : hSt) => Q r u) (hE D (fun u : hSt => hC N ad (bY cy ad w) u)) (hA N ad sz)) 0 0 (hA N ad sz) := by
  refine Met.ofW (cc := cX12_find) (maxL := 8) (ret := (some .int)) (by decide) rfl ?_
  intro p e s m args below meth c s₁ B hml hv
  obtain ⟨rfl, hsz, hP, hK, hN1⟩ := hv
  have hx := B.exec
  have hb := B.bytes
  have hr := B.returns
  have hts := atoms_spec (ws := wsX12_find) B.pre
  have hown : s.vm.findClass RX12 = some m.cls := findClass_of_methodNamed B.named
  have hlocks := B.notSynchronized
  subst hsz
  have hS : va_S (hA N ad s.heap.size) s.heap s.heap [] := va_S.rf
  have hiX12 : ∀ w ∈ wsX120, w ∈ wsX12_find := fun _ h => List.mem_cons_of_mem _ (List.mem_append_right _ h)
  have hl := lv_entry ([.ref (ad 0), .int a1, .int a2, .int a3]) (n := 8) (Nat.le_of_ble_eq_true rfl)
  rw [lg_entry_eq]
  generalize (lg_sl ([.ref (ad 0), .int a1, .int a2, .int a3]) ++ List.replicate (8 - (lg_sl ([.ref (ad 0), .int a1, .int a2, .int a3])).length) Slot.unset).toArray = ls at hl ⊢
  have hl : lv_has ls 8 [(0, .ref (ad 0)), (1, .int a1), (2, .int a2), (3, .int a3)] := hl
  unfold wp_X12_find at hw
  refine lv_aload_n hx hb dX12_find_0 rfl (lv_at hl 0 rfl) ?_
  refine lv_iload_n hx hb dX12_find_1 rfl (lv_at hl 2 rfl) ?_
  refine lv_iconst (v := 1) hx hb dX12_find_2 (by decide) ?_
  obtain ⟨J30, ehJ30, hw⟩ := hM_x hw
  have hJ30 : ∀ (z1 : Int32) (H : Heap) (locs : List Loc) (ls : Array Slot), J30 z1 → va_P D vwCl (hC N ad (bY cy ad w) σ) H → va_S (hA N ad s.heap.size) s.heap H locs → lv_has ls 8 [(0, .ref (ad 0)), (1, .int a1), (2, .int a2), (3, .int a3)] → W p l e (headSpec wsX12_find ({ frames := 2, cells := 0, slots := 0, locals := 51 } : Room)).room s m ([Value.ref (ad 0), Value.int a1, Value.int a2, Value.int a3] : List Value).toArray below meth c H locs 0 0 (MQ below (va_Qi (fun (r : Int32) (u : hSt) => Q r u) (hE D (fun u : hSt => hC N ad (bY cy ad w) u)) (hA N ad s.heap.size)) ([Value.ref (ad 0), Value.int a1, Value.int a2, Value.int a3] : List Value).toArray s 0 0 (hA N ad s.heap.size)) (F0 m 30 ls [.int z1, .ref (ad 0)]) := by
    intro z1 H locs ls hw hP hS hl
    rw [ehJ30] at hw
    refine lv_iconst (v := 1) hx hb dX12_find_30 (by decide) ?_
    refine hw_ki (va_runV (As := [.int z1, .int (1 : Int32)]) (rest := []) ⟨hx, hb, hml, hown, hts⟩ (kc_X12_throwsIf l D cy N hN ad hJ0 w σ _ z1 (1 : Int32) _ hw) (cwV 2 hts gX12_find_X12_throwsIf rfl rfl rfl (by decide +kernel) ⟨Nat.le_of_ble_eq_true rfl, Nat.le_of_ble_eq_true rfl⟩) (hw_preV hK hN1 hP (Nat.lt_of_lt_of_le (by decide) hN) (bY_0 _) rfl) rfl rfl hl.1 rfl (lv_room (Nat.le_of_ble_eq_true rfl)) dX12_find_31 ⟨Nat.zero_le _, Nat.zero_le _⟩) hS (fun r3 σ2 H locs hw hP hS => ?_)
    refine lv_if_ne (tgt := 58) hx hb dX12_find_34 (by decide) (fun c4 => ?_) (fun c4 => ?_)
    · have hw := hw.1 c4
      refine lv_iconst (v := 0) hx hb dX12_find_58 (by decide) ?_
      exact hw_iret hx hb hr hlocks (σ2) hw hP hS dX12_find_59
    have hw := hw.2 c4
    refine lv_aload_n hx hb dX12_find_37 rfl (lv_at hl 0 rfl) ?_
    refine lv_aload_n hx hb dX12_find_38 rfl (lv_at hl 0 rfl) ?_
    refine lv_iload_n hx hb dX12_find_39 rfl (lv_at hl 1 rfl) ?_
    refine hw_ki (va_runV (As := [.int a1]) (rest := [.ref (ad 0)]) ⟨hx, hb, hml, hown, hts⟩ (kc_X12_isTold l D cy N hN ad hJ0 w σ2 _ a1 _ hw) (cwV 1 hts gX12_find_X12_isTold rfl rfl rfl (by decide +kernel) ⟨Nat.le_of_ble_eq_true rfl, Nat.le_of_ble_eq_true rfl⟩) (hw_preV hK hN1 hP (Nat.lt_of_lt_of_le (by decide) hN) (bY_0 _) rfl) rfl rfl hl.1 rfl (lv_room (Nat.le_of_ble_eq_true rfl)) dX12_find_40 ⟨Nat.zero_le _, Nat.zero_le _⟩) hS (fun r6 σ5 H locs hw hP hS => ?_)
    obtain ⟨hu_, hw⟩ := hw
    rw [hu_] at hP
    refine lv_if_ne (tgt := 50) hx hb dX12_find_43 (by decide) (fun c7 => ?_) (fun c7 => ?_)
    · have hw := hw.1 c7
      refine lv_iconst (v := 0) hx hb dX12_find_50 (by decide) ?_
      refine lv_iconst (v := 2) hx hb dX12_find_51 (by decide) ?_
      refine hw_ki (va_runV (As := [.int (0 : Int32), .int (2 : Int32)]) (rest := []) ⟨hx, hb, hml, hown, hts⟩ (kc_X12_throwsIf l D cy N hN ad hJ0 w σ2 _ (0 : Int32) (2 : Int32) _ hw) (cwV 2 hts gX12_find_X12_throwsIf rfl rfl rfl (by decide +kernel) ⟨Nat.le_of_ble_eq_true rfl, Nat.le_of_ble_eq_true rfl⟩) (hw_preV hK hN1 hP (Nat.lt_of_lt_of_le (by decide) hN) (bY_0 _) rfl) rfl rfl hl.1 rfl (lv_room (Nat.le_of_ble_eq_true rfl)) dX12_find_52 ⟨Nat.zero_le _, Nat.zero_le _⟩) hS (fun r9 σ8 H locs hw hP hS => ?_)
      refine lv_if_eq (tgt := 60) hx hb dX12_find_55 (by decide) (fun c10 => ?_) (fun c10 => ?_)
      · have hw := hw.1 c10
        refine lv_iconst (v := 0) hx hb dX12_find_60 (by decide) ?_
        refine lv_istore (lv' := [(4, .int (0 : Int32)), (0, .ref (ad 0)), (1, .int a1), (2, .int a2), (3, .int a3)]) hx hb dX12_find_61 hl (by decide) rfl (fun ls hl => ?_)
        refine hw (fun (v4_11 : Int32) (σ12 : hSt) => ∀ (H : Heap) (locs : List Loc) (ls : Array Slot), va_P D vwCl (hC N ad (bY cy ad w) σ12) H → va_S (hA N ad s.heap.size) s.heap H locs → lv_has ls 8 [(0, .ref (ad 0)), (1, .int a1), (2, .int a2), (3, .int a3), (4, .int v4_11)] → W p l e (headSpec wsX12_find ({ frames := 2, cells := 0, slots := 0, locals := 51 } : Room)).room s m ([Value.ref (ad 0), Value.int a1, Value.int a2, Value.int a3] : List Value).toArray below meth c H locs 0 0 (MQ below (va_Qi (fun (r : Int32) (u : hSt) => Q r u) (hE D (fun u : hSt => hC N ad (bY cy ad w) u)) (hA N ad s.heap.size)) ([Value.ref (ad 0), Value.int a1, Value.int a2, Value.int a3] : List Value).toArray s 0 0 (hA N ad s.heap.size)) (F0 m 63 ls [])) (fun v4_11 σ12 hw H locs ls hP hS hl => ?_) _ _ _ hP hS (lv_sub hl [1, 2, 3, 4, 0] rfl)
        refine lv_iload hx hb dX12_find_63 (lv_at hl 4 rfl) ?_
        refine lv_ldc (v := 40320) hx hb hown (hts (.constant RX12 64 40320) (List.mem_of_getElem? (i := 1) rfl)) dX12_find_65 ?_
        refine lv_icmp_ge (tgt := 84) hx hb dX12_find_67 (by decide) (fun c13 => ?_) (fun c13 => ?_)
        · have hw := hw.1 c13
          refine lv_aload_n hx hb dX12_find_84 rfl (lv_at hl 0 rfl) ?_
          refine lv_iconst (v := 0) hx hb dX12_find_85 (by decide) ?_
          refine hw_put (x := (0 : Int32)) (j := 37) hx hb hts hiX12 tyX12 tyX12_ok nmX12 hown hK hJ0 hP hS (Nat.lt_of_lt_of_le (by decide) hN) (bY_0 _) rfl (by decide) (List.mem_of_getElem? (i := 3) rfl) rfl rfl rfl rfl (Nat.le_of_ble_eq_true rfl) (by rw [bY_0]; rfl) dX12_find_86 (fun H locs hP hS => ?_)
          refine lv_aload_n hx hb dX12_find_89 rfl (lv_at hl 0 rfl) ?_
          refine lv_aload_n hx hb dX12_find_90 rfl (lv_at hl 0 rfl) ?_
          refine hw_get (v := .ref (ad 14)) hx hb hts hiX12 hown hK hP (Nat.lt_of_lt_of_le (by decide) hN) (bY_0 _) rfl 24 (by decide) (List.mem_of_getElem? (i := 4) rfl) rfl rfl dX12_find_91 ?_
          refine hw_kv (va_runV (As := [.ref (ad 14)]) (rest := []) ⟨hx, hb, hml, hown, hts⟩ (kc_X12_rounds l D cy N hN ad hJ0 w (hup σ12 0 37 (0 : Int32)) _ 14 h8_14 _ hw) (cwV 1 hts gX12_find_X12_rounds rfl rfl rfl (by decide +kernel) ⟨Nat.le_of_ble_eq_true rfl, Nat.le_of_ble_eq_true rfl⟩) (hw_preV hK hN1 hP (Nat.lt_of_lt_of_le (by decide) hN) (bY_0 _) rfl) rfl rfl hl.1 rfl (lv_room (Nat.le_of_ble_eq_true rfl)) dX12_find_94 ⟨Nat.zero_le _, Nat.zero_le _⟩) hS (fun σ14 H locs hw hP hS => ?_)
          refine lv_iconst (v := 0) hx hb dX12_find_97 (by decide) ?_
          refine lv_istore (lv' := [(4, .int (0 : Int32)), (0, .ref (ad 0)), (1, .int a1), (2, .int a2), (3, .int a3)]) hx hb dX12_find_98 hl (by decide) rfl (fun ls hl => ?_)
          refine hw (fun (v4_15 : Int32) (σ16 : hSt) => ∀ (H : Heap) (locs : List Loc) (ls : Array Slot), va_P D vwCl (hC N ad (bY cy ad w) σ16) H → va_S (hA N ad s.heap.size) s.heap H locs → lv_has ls 8 [(0, .ref (ad 0)), (1, .int a1), (2, .int a2), (3, .int a3), (4, .int v4_15)] → W p l e (headSpec wsX12_find ({ frames := 2, cells := 0, slots := 0, locals := 51 } : Room)).room s m ([Value.ref (ad 0), Value.int a1, Value.int a2, Value.int a3] : List Value).toArray below meth c H locs 0 0 (MQ below (va_Qi (fun (r : Int32) (u : hSt) => Q r u) (hE D (fun u : hSt => hC N ad (bY cy ad w) u)) (hA N ad s.heap.size)) ([Value.ref (ad 0), Value.int a1, Value.int a2, Value.int a3] : List Value).toArray s 0 0 (hA N ad s.heap.size)) (F0 m 100 ls [])) (fun v4_15 σ16 hw H locs ls hP hS hl => ?_) _ _ _ hP hS (lv_sub hl [1, 2, 3, 4, 0] rfl)
          refine lv_iload hx hb dX12_find_100 (lv_at hl 4 rfl) ?_
          refine lv_aload_n hx hb dX12_find_102 rfl (lv_at hl 0 rfl) ?_
          refine hw_get (v := .int (σ16 0 1)) hx hb hts hiX12 hown hK hP (Nat.lt_of_lt_of_le (by decide) hN) (bY_0 _) rfl 1 (by decide) (List.mem_of_getElem? (i := 5) rfl) rfl rfl dX12_find_103 ?_
          refine lv_icmp_ge (tgt := 129) hx hb dX12_find_106 (by decide) (fun c17 => ?_) (fun c17 => ?_)
          · have hw := hw.1 c17
            refine lv_iconst (v := 0) hx hb dX12_find_129 (by decide) ?_
            refine lv_istore (lv' := [(4, .int (0 : Int32)), (0, .ref (ad 0)), (1, .int a1), (2, .int a2), (3, .int a3)]) hx hb dX12_find_130 hl (by decide) rfl (fun ls hl => ?_)
            refine lv_iconst (v := 1) hx hb dX12_find_132 (by decide) ?_
            refine lv_istore (lv' := [(5, .int (1 : Int32)), (4, .int (0 : Int32)), (0, .ref (ad 0)), (1, .int a1), (2, .int a2), (3, .int a3)]) hx hb dX12_find_133 hl (by decide) rfl (fun ls hl => ?_)
            refine hw (fun (v4_18 : Int32) (v5_19 : Int32) (σ20 : hSt) => ∀ (H : Heap) (locs : List Loc) (ls : Array Slot), va_P D vwCl (hC N ad (bY cy ad w) σ20) H → va_S (hA N ad s.heap.size) s.heap H locs → lv_has ls 8 [(0, .ref (ad 0)), (1, .int a1), (2, .int a2), (3, .int a3), (4, .int v4_18), (5, .int v5_19)] → W p l e (headSpec wsX12_find ({ frames := 2, cells := 0, slots := 0, locals := 51 } : Room)).room s m ([Value.ref (ad 0), Value.int a1, Value.int a2, Value.int a3] : List Value).toArray below meth c H locs 0 0 (MQ below (va_Qi (fun (r : Int32) (u : hSt) => Q r u) (hE D (fun u : hSt => hC N ad (bY cy ad w) u)) (hA N ad s.heap.size)) ([Value.ref (ad 0), Value.int a1, Value.int a2, Value.int a3] : List Value).toArray s 0 0 (hA N ad s.heap.size)) (F0 m 135 ls [])) (fun v4_18 v5_19 σ20 hw H locs ls hP hS hl => ?_) _ _ _ hP hS (lv_sub hl [2, 3, 4, 5, 1, 0] rfl)
            refine lv_iload hx hb dX12_find_135 (lv_at hl 4 rfl) ?_
            refine lv_if_lt (tgt := 439) hx hb dX12_find_137 (by decide) (fun c21 => ?_) (fun c21 => ?_)
            · have hw := hw.1 c21
              refine lv_iconst (v := 1) hx hb dX12_find_439 (by decide) ?_
              exact hw_iret hx hb hr hlocks (σ20) hw hP hS dX12_find_440
            have hw := hw.2 c21
            refine lv_iload hx hb dX12_find_140 (lv_at hl 5 rfl) ?_
            obtain ⟨J223, ehJ223, hw⟩ := hM_x hw
            have hJ223 : ∀ (v5_22 : Int32) (σ23 : hSt) (H : Heap) (locs : List Loc) (ls : Array Slot), J223 v5_22 σ23 → va_P D vwCl (hC N ad (bY cy ad w) σ23) H → va_S (hA N ad s.heap.size) s.heap H locs → lv_has ls 8 [(0, .ref (ad 0)), (1, .int a1), (2, .int a2), (3, .int a3), (4, .int v4_18), (5, .int v5_22)] → W p l e (headSpec wsX12_find ({ frames := 2, cells := 0, slots := 0, locals := 51 } : Room)).room s m ([Value.ref (ad 0), Value.int a1, Value.int a2, Value.int a3] : List Value).toArray below meth c H locs 0 0 (MQ below (va_Qi (fun (r : Int32) (u : hSt) => Q r u) (hE D (fun u : hSt => hC N ad (bY cy ad w) u)) (hA N ad s.heap.size)) ([Value.ref (ad 0), Value.int a1, Value.int a2, Value.int a3] : List Value).toArray s 0 0 (hA N ad s.heap.size)) (F0 m 223 ls []) := by
              intro v5_22 σ23 H locs ls hw hP hS hl
              rw [ehJ223] at hw
              refine lv_aload_n hx hb dX12_find_223 rfl (lv_at hl 0 rfl) ?_
              refine hw_get (v := .ref (ad 20)) hx hb hts hiX12 hown hK hP (Nat.lt_of_lt_of_le (by decide) hN) (bY_0 _) rfl 35 (by decide) (List.mem_of_getElem? (i := 8) rfl) rfl rfl dX12_find_224 ?_
              refine lv_iload hx hb dX12_find_227 (lv_at hl 4 rfl) ?_
              obtain ⟨hi24, hw⟩ := hw
              refine hw_iald hx hb hK hP (Nat.lt_of_lt_of_le (by decide) hN) (bY_20 _) hi24 dX12_find_229 ?_
              refine lv_iconst (v := 3) hx hb dX12_find_230 (by decide) ?_
              refine lv_icmp_ne (tgt := 255) hx hb dX12_find_231 (by decide) (fun c25 => ?_) (fun c25 => ?_)
              · have hw := hw.1 c25
                refine lv_aload_n hx hb dX12_find_255 rfl (lv_at hl 0 rfl) ?_
                refine hw_get (v := .ref (ad 20)) hx hb hts hiX12 hown hK hP (Nat.lt_of_lt_of_le (by decide) hN) (bY_0 _) rfl 35 (by decide) (List.mem_of_getElem? (i := 8) rfl) rfl rfl dX12_find_256 ?_
                refine lv_iload hx hb dX12_find_259 (lv_at hl 4 rfl) ?_
                obtain ⟨hi26, hw⟩ := hw
                refine hw_iald hx hb hK hP (Nat.lt_of_lt_of_le (by decide) hN) (bY_20 _) hi26 dX12_find_261 ?_
                refine lv_topi (fun x6_27 ex6_27 => ?_)
                have hw := hw x6_27 ex6_27
                refine lv_istore (lv' := [(6, .int x6_27), (0, .ref (ad 0)), (1, .int a1), (2, .int a2), (3, .int a3), (4, .int v4_18), (5, .int v5_22)]) hx hb dX12_find_262 hl (by decide) rfl (fun ls hl => ?_)
                refine lv_aload_n hx hb dX12_find_264 rfl (lv_at hl 1 rfl) ?_
                refine hw_get (v := .ref (ad 20)) hx hb hts hiX12 hown hK hP (Nat.lt_of_lt_of_le (by decide) hN) (bY_0 _) rfl 35 (by decide) (List.mem_of_getElem? (i := 8) rfl) rfl rfl dX12_find_265 ?_
                refine lv_iload hx hb dX12_find_268 (lv_at hl 5 rfl) ?_
                refine lv_dup2_11 hx hb dX12_find_270 rfl rfl ?_
                obtain ⟨hi28, hw⟩ := hw
                refine hw_iald hx hb hK hP (Nat.lt_of_lt_of_le (by decide) hN) (bY_20 _) hi28 dX12_find_271 ?_
                refine lv_iconst (v := 1) hx hb dX12_find_272 (by decide) ?_
                refine lv_iadd hx hb dX12_find_273 ?_
                obtain ⟨hi29, hw⟩ := hw
                refine hw_iast hx hb hK hJ0 hP hS (Nat.lt_of_lt_of_le (by decide) hN) (fun ρ => bY_20 ρ) hi29 dX12_find_274 (fun H locs hP hS => ?_)
                refine lv_iconst (v := 0) hx hb dX12_find_275 (by decide) ?_
                refine lv_istore (lv' := [(7, .int (0 : Int32)), (6, .int x6_27), (0, .ref (ad 0)), (1, .int a1), (2, .int a2), (3, .int a3), (4, .int v4_18), (5, .int v5_22)]) hx hb dX12_find_276 hl (by decide) rfl (fun ls hl => ?_)
                refine hw (fun (v7_30 : Int32) (σ31 : hSt) => ∀ (H : Heap) (locs : List Loc) (ls : Array Slot), va_P D vwCl (hC N ad (bY cy ad w) σ31) H → va_S (hA N ad s.heap.size) s.heap H locs → lv_has ls 8 [(0, .ref (ad 0)), (1, .int a1), (2, .int a2), (3, .int a3), (4, .int v4_18), (5, .int v5_22), (6, .int x6_27), (7, .int v7_30)] → W p l e (headSpec wsX12_find ({ frames := 2, cells := 0, slots := 0, locals := 51 } : Room)).room s m ([Value.ref (ad 0), Value.int a1, Value.int a2, Value.int a3] : List Value).toArray below meth c H locs 0 0 (MQ below (va_Qi (fun (r : Int32) (u : hSt) => Q r u) (hE D (fun u : hSt => hC N ad (bY cy ad w) u)) (hA N ad s.heap.size)) ([Value.ref (ad 0), Value.int a1, Value.int a2, Value.int a3] : List Value).toArray s 0 0 (hA N ad s.heap.size)) (F0 m 278 ls [])) (fun v7_30 σ31 hw H locs ls hP hS hl => ?_) _ _ _ hP hS (lv_sub hl [2, 3, 4, 5, 6, 7, 1, 0] rfl)
                refine lv_iload hx hb dX12_find_278 (lv_at hl 7 rfl) ?_
                refine lv_aload_n hx hb dX12_find_280 rfl (lv_at hl 0 rfl) ?_
                refine hw_get (v := .int (σ31 0 1)) hx hb hts hiX12 hown hK hP (Nat.lt_of_lt_of_le (by decide) hN) (bY_0 _) rfl 1 (by decide) (List.mem_of_getElem? (i := 5) rfl) rfl rfl dX12_find_281 ?_
                refine lv_icmp_ge (tgt := 313) hx hb dX12_find_284 (by decide) (fun c32 => ?_) (fun c32 => ?_)
                · have hw := hw.1 c32
                  refine lv_aload_n hx hb dX12_find_313 rfl (lv_at hl 0 rfl) ?_
                  refine lv_aload_n hx hb dX12_find_314 rfl (lv_at hl 0 rfl) ?_
                  refine hw_get (v := .ref (ad 14)) hx hb hts hiX12 hown hK hP (Nat.lt_of_lt_of_le (by decide) hN) (bY_0 _) rfl 24 (by decide) (List.mem_of_getElem? (i := 4) rfl) rfl rfl dX12_find_315 ?_
                  refine lv_iload_n hx hb dX12_find_318 rfl (lv_at hl 1 rfl) ?_
                  refine lv_iload hx hb dX12_find_319 (lv_at hl 6 rfl) ?_
                  refine hw_kv (va_runV (As := [.ref (ad 14), .int a1, .int x6_27]) (rest := []) ⟨hx, hb, hml, hown, hts⟩ (kc_X12_ringLead l D cy N hN ad hJ0 w σ31 _ 14 h8_14 a1 x6_27 _ hw) (cwV 3 hts gX12_find_X12_ringLead rfl rfl rfl (by decide +kernel) ⟨Nat.le_of_ble_eq_true rfl, Nat.le_of_ble_eq_true rfl⟩) (hw_preV hK hN1 hP (Nat.lt_of_lt_of_le (by decide) hN) (bY_0 _) rfl) rfl rfl hl.1 rfl (lv_room (Nat.le_of_ble_eq_true rfl)) dX12_find_321 ⟨Nat.zero_le _, Nat.zero_le _⟩) hS (fun σ33 H locs hw hP hS => ?_)
                  refine lv_iload hx hb dX12_find_324 (lv_at hl 4 rfl) ?_
                  refine lv_iconst (v := 1) hx hb dX12_find_326 (by decide) ?_
                  refine lv_iadd hx hb dX12_find_327 ?_
                  refine lv_iload_n hx hb dX12_find_328 rfl (lv_at hl 2 rfl) ?_
                  refine lv_icmp_ne (tgt := 392) hx hb dX12_find_329 (by decide) (fun c34 => ?_) (fun c34 => ?_)
                  · have hw := hw.1 c34
                    obtain ⟨x4_35, ex4_35⟩ : ∃ z : Int32, z = v4_18 + (1 : Int32) := ⟨_, rfl⟩
                    have hw := hw x4_35 ex4_35
                    refine lv_iinc (v := x4_35) (lv' := [(4, .int x4_35), (0, .ref (ad 0)), (1, .int a1), (2, .int a2), (3, .int a3), (5, .int v5_22), (6, .int x6_27), (7, .int v7_30)]) hx hb dX12_find_392 hl (k := 4) rfl (by rw [ex4_35]; rfl) (by decide) rfl (fun ls hl => ?_)
                    refine lv_iconst (v := 0) hx hb dX12_find_395 (by decide) ?_
                    refine lv_istore (lv' := [(7, .int (0 : Int32)), (4, .int x4_35), (0, .ref (ad 0)), (1, .int a1), (2, .int a2), (3, .int a3), (5, .int v5_22), (6, .int x6_27)]) hx hb dX12_find_396 hl (by decide) rfl (fun ls hl => ?_)
                    refine hw (fun (v7_36 : Int32) (σ37 : hSt) => ∀ (H : Heap) (locs : List Loc) (ls : Array Slot), va_P D vwCl (hC N ad (bY cy ad w) σ37) H → va_S (hA N ad s.heap.size) s.heap H locs → lv_has ls 8 [(0, .ref (ad 0)), (1, .int a1), (2, .int a2), (3, .int a3), (4, .int x4_35), (7, .int v7_36)] → W p l e (headSpec wsX12_find ({ frames := 2, cells := 0, slots := 0, locals := 51 } : Room)).room s m ([Value.ref (ad 0), Value.int a1, Value.int a2, Value.int a3] : List Value).toArray below meth c H locs 0 0 (MQ below (va_Qi (fun (r : Int32) (u : hSt) => Q r u) (hE D (fun u : hSt => hC N ad (bY cy ad w) u)) (hA N ad s.heap.size)) ([Value.ref (ad 0), Value.int a1, Value.int a2, Value.int a3] : List Value).toArray s 0 0 (hA N ad s.heap.size)) (F0 m 398 ls [])) (fun v7_36 σ37 hw H locs ls hP hS hl => ?_) _ _ _ hP hS (lv_sub hl [2, 3, 4, 5, 1, 0] rfl)
                    refine lv_iload hx hb dX12_find_398 (lv_at hl 5 rfl) ?_
                    refine lv_aload_n hx hb dX12_find_400 rfl (lv_at hl 0 rfl) ?_
                    refine hw_get (v := .int (σ37 0 1)) hx hb hts hiX12 hown hK hP (Nat.lt_of_lt_of_le (by decide) hN) (bY_0 _) rfl 1 (by decide) (List.mem_of_getElem? (i := 5) rfl) rfl rfl dX12_find_401 ?_
                    refine lv_icmp_ge (tgt := 433) hx hb dX12_find_404 (by decide) (fun c38 => ?_) (fun c38 => ?_)
                    · have hw := hw.1 c38
                      refine lv_iconst (v := 1) hx hb dX12_find_433 (by decide) ?_
                      refine lv_istore (lv' := [(5, .int (1 : Int32)), (0, .ref (ad 0)), (1, .int a1), (2, .int a2), (3, .int a3), (4, .int x4_35), (7, .int v7_36)]) hx hb dX12_find_434 hl (by decide) rfl (fun ls hl => ?_)
                      refine lv_goto (tgt := 135) hx hb dX12_find_436 (by decide) ?_
                      exact hw _ _ _ hP hS (lv_sub hl [1, 2, 3, 4, 5, 0] rfl)
                    have hw := hw.2 c38
                    refine lv_aload_n hx hb dX12_find_407 rfl (lv_at hl 0 rfl) ?_
                    refine hw_get (v := .ref (ad 19)) hx hb hts hiX12 hown hK hP (Nat.lt_of_lt_of_le (by decide) hN) (bY_0 _) rfl 34 (by decide) (List.mem_of_getElem? (i := 6) rfl) rfl rfl dX12_find_408 ?_
                    refine lv_bipush (v := 8) hx hb dX12_find_411 (by decide) ?_
                    refine lv_iload hx hb dX12_find_413 (lv_at hl 4 rfl) ?_
                    refine lv_imul hx hb dX12_find_415 ?_
                    refine lv_iload hx hb dX12_find_416 (lv_at hl 5 rfl) ?_
                    refine lv_iadd hx hb dX12_find_418 ?_
                    refine lv_aload_n hx hb dX12_find_419 rfl (lv_at hl 0 rfl) ?_
                    refine hw_get (v := .ref (ad 14)) hx hb hts hiX12 hown hK hP (Nat.lt_of_lt_of_le (by decide) hN) (bY_0 _) rfl 24 (by decide) (List.mem_of_getElem? (i := 4) rfl) rfl rfl dX12_find_420 ?_
                    refine lv_iload hx hb dX12_find_423 (lv_at hl 5 rfl) ?_
                    obtain ⟨hi39, hw⟩ := hw
                    refine hw_iald hx hb hK hP (Nat.lt_of_lt_of_le (by decide) hN) (bY_14 _) hi39 dX12_find_425 ?_
                    obtain ⟨hi40, hw⟩ := hw
                    refine hw_iast hx hb hK hJ0 hP hS (Nat.lt_of_lt_of_le (by decide) hN) (fun ρ => bY_19 ρ) hi40 dX12_find_426 (fun H locs hP hS => ?_)
                    obtain ⟨x7_41, ex7_41⟩ : ∃ z : Int32, z = v7_36 + (1 : Int32) := ⟨_, rfl⟩
                    have hw := hw x7_41 ex7_41
                    refine lv_iinc (v := x7_41) (lv' := [(7, .int x7_41), (0, .ref (ad 0)), (1, .int a1), (2, .int a2), (3, .int a3), (4, .int x4_35)]) hx hb dX12_find_427 hl (k := 5) rfl (by rw [ex7_41]; rfl) (by decide) rfl (fun ls hl => ?_)
                    refine lv_goto (tgt := 398) hx hb dX12_find_430 (by decide) ?_
                    exact hw _ _ _ hP hS (lv_sub hl [1, 2, 3, 4, 5, 0] rfl)
                  have hw := hw.2 c34
                  refine lv_aload_n hx hb dX12_find_332 rfl (lv_at hl 0 rfl) ?_
                  refine lv_aload_n hx hb dX12_find_333 rfl (lv_at hl 0 rfl) ?_
                  refine hw_get (v := .ref (ad 14)) hx hb hts hiX12 hown hK hP (Nat.lt_of_lt_of_le (by decide) hN) (bY_0 _) rfl 24 (by decide) (List.mem_of_getElem? (i := 4) rfl) rfl rfl dX12_find_334 ?_
                  refine hw_ki (va_runV (As := [.ref (ad 14)]) (rest := []) ⟨hx, hb, hml, hown, hts⟩ (kc_X12_isRounds l D cy N hN ad hJ0 w σ33 _ 14 h8_14 _ hw) (cwV 1 hts gX12_find_X12_isRounds rfl rfl rfl (by decide +kernel) ⟨Nat.le_of_ble_eq_true rfl, Nat.le_of_ble_eq_true rfl⟩) (hw_preV hK hN1 hP (Nat.lt_of_lt_of_le (by decide) hN) (bY_0 _) rfl) rfl rfl hl.1 rfl (lv_room (Nat.le_of_ble_eq_true rfl)) dX12_find_337 ⟨Nat.zero_le _, Nat.zero_le _⟩) hS (fun r43 σ42 H locs hw hP hS => ?_)
                  obtain ⟨hu_, hw⟩ := hw
                  rw [hu_] at hP
                  refine lv_if_ne (tgt := 346) hx hb dX12_find_340 (by decide) (fun c44 => ?_) (fun c44 => ?_)
                  · have hw := hw.1 c44
                    refine lv_aload_n hx hb dX12_find_346 rfl (lv_at hl 0 rfl) ?_
                    refine lv_iload_n hx hb dX12_find_347 rfl (lv_at hl 2 rfl) ?_
                    refine hw_put (x := a2) (j := 6) hx hb hts hiX12 tyX12 tyX12_ok nmX12 hown hK hJ0 hP hS (Nat.lt_of_lt_of_le (by decide) hN) (bY_0 _) rfl (by decide) (List.mem_of_getElem? (i := 9) rfl) rfl rfl rfl rfl (Nat.le_of_ble_eq_true rfl) (by rw [bY_0]; rfl) dX12_find_348 (fun H locs hP hS => ?_)
                    refine lv_iconst (v := 0) hx hb dX12_find_351 (by decide) ?_
                    refine lv_istore (lv' := [(7, .int (0 : Int32)), (0, .ref (ad 0)), (1, .int a1), (2, .int a2), (3, .int a3), (4, .int v4_18), (5, .int v5_22), (6, .int x6_27)]) hx hb dX12_find_352 hl (by decide) rfl (fun ls hl => ?_)
                    refine hw (fun (v7_45 : Int32) (σ46 : hSt) => ∀ (H : Heap) (locs : List Loc) (ls : Array Slot), va_P D vwCl (hC N ad (bY cy ad w) σ46) H → va_S (hA N ad s.heap.size) s.heap H locs → lv_has ls 8 [(0, .ref (ad 0)), (1, .int a1), (2, .int a2), (7, .int v7_45)] → W p l e (headSpec wsX12_find ({ frames := 2, cells := 0, slots := 0, locals := 51 } : Room)).room s m ([Value.ref (ad 0), Value.int a1, Value.int a2, Value.int a3] : List Value).toArray below meth c H locs 0 0 (MQ below (va_Qi (fun (r : Int32) (u : hSt) => Q r u) (hE D (fun u : hSt => hC N ad (bY cy ad w) u)) (hA N ad s.heap.size)) ([Value.ref (ad 0), Value.int a1, Value.int a2, Value.int a3] : List Value).toArray s 0 0 (hA N ad s.heap.size)) (F0 m 354 ls [])) (fun v7_45 σ46 hw H locs ls hP hS hl => ?_) _ _ _ hP hS (lv_sub hl [1, 2, 3, 0] rfl)
                    refine lv_iload hx hb dX12_find_354 (lv_at hl 3 rfl) ?_
                    refine lv_iload_n hx hb dX12_find_356 rfl (lv_at hl 2 rfl) ?_
                    refine lv_icmp_ge (tgt := 390) hx hb dX12_find_357 (by decide) (fun c47 => ?_) (fun c47 => ?_)
                    · have hw := hw.1 c47
                      refine lv_iconst (v := 0) hx hb dX12_find_390 (by decide) ?_
                      exact hw_iret hx hb hr hlocks (σ46) hw hP hS dX12_find_391
                    have hw := hw.2 c47
                    refine lv_aload_n hx hb dX12_find_360 rfl (lv_at hl 0 rfl) ?_
                    refine hw_get (v := .ref (ad 3)) hx hb hts hiX12 hown hK hP (Nat.lt_of_lt_of_le (by decide) hN) (bY_0 _) rfl 4 (by decide) (List.mem_of_getElem? (i := 10) rfl) rfl rfl dX12_find_361 ?_
                    refine lv_iload hx hb dX12_find_364 (lv_at hl 3 rfl) ?_
                    refine lv_iload_n hx hb dX12_find_366 rfl (lv_at hl 1 rfl) ?_
                    obtain ⟨hi48, hw⟩ := hw
                    refine hw_iast hx hb hK hJ0 hP hS (Nat.lt_of_lt_of_le (by decide) hN) (fun ρ => bY_3 ρ) hi48 dX12_find_367 (fun H locs hP hS => ?_)
                    refine lv_aload_n hx hb dX12_find_368 rfl (lv_at hl 0 rfl) ?_
                    refine hw_get (v := .ref (ad 4)) hx hb hts hiX12 hown hK hP (Nat.lt_of_lt_of_le (by decide) hN) (bY_0 _) rfl 5 (by decide) (List.mem_of_getElem? (i := 11) rfl) rfl rfl dX12_find_369 ?_
                    refine lv_iload hx hb dX12_find_372 (lv_at hl 3 rfl) ?_
                    refine lv_aload_n hx hb dX12_find_374 rfl (lv_at hl 0 rfl) ?_
                    refine hw_get (v := .ref (ad 20)) hx hb hts hiX12 hown hK hP (Nat.lt_of_lt_of_le (by decide) hN) (bY_0 _) rfl 35 (by decide) (List.mem_of_getElem? (i := 8) rfl) rfl rfl dX12_find_375 ?_
                    refine lv_iload hx hb dX12_find_378 (lv_at hl 3 rfl) ?_
                    obtain ⟨hi49, hw⟩ := hw
                    refine hw_iald hx hb hK hP (Nat.lt_of_lt_of_le (by decide) hN) (bY_20 _) hi49 dX12_find_380 ?_
                    refine lv_iconst (v := 1) hx hb dX12_find_381 (by decide) ?_
                    refine lv_isub hx hb dX12_find_382 ?_
                    obtain ⟨hi50, hw⟩ := hw
                    refine hw_iast hx hb hK hJ0 hP hS (Nat.lt_of_lt_of_le (by decide) hN) (fun ρ => bY_4 ρ) hi50 dX12_find_383 (fun H locs hP hS => ?_)
                    obtain ⟨x7_51, ex7_51⟩ : ∃ z : Int32, z = v7_45 + (1 : Int32) := ⟨_, rfl⟩
                    have hw := hw x7_51 ex7_51
                    refine lv_iinc (v := x7_51) (lv' := [(7, .int x7_51), (0, .ref (ad 0)), (1, .int a1), (2, .int a2)]) hx hb dX12_find_384 hl (k := 3) rfl (by rw [ex7_51]; rfl) (by decide) rfl (fun ls hl => ?_)
                    refine lv_goto (tgt := 354) hx hb dX12_find_387 (by decide) ?_
                    exact hw _ _ _ hP hS (lv_sub hl [1, 2, 3, 0] rfl)
                  have hw := hw.2 c44
                  refine lv_goto (tgt := 135) hx hb dX12_find_343 (by decide) ?_
                  exact hw _ _ _ hP hS (lv_sub hl [0, 1, 2, 3, 4, 5] rfl)
                have hw := hw.2 c32
                refine lv_aload_n hx hb dX12_find_287 rfl (lv_at hl 0 rfl) ?_
                refine hw_get (v := .ref (ad 14)) hx hb hts hiX12 hown hK hP (Nat.lt_of_lt_of_le (by decide) hN) (bY_0 _) rfl 24 (by decide) (List.mem_of_getElem? (i := 4) rfl) rfl rfl dX12_find_288 ?_
                refine lv_iload hx hb dX12_find_291 (lv_at hl 7 rfl) ?_
                refine lv_aload_n hx hb dX12_find_293 rfl (lv_at hl 0 rfl) ?_
                refine hw_get (v := .ref (ad 19)) hx hb hts hiX12 hown hK hP (Nat.lt_of_lt_of_le (by decide) hN) (bY_0 _) rfl 34 (by decide) (List.mem_of_getElem? (i := 6) rfl) rfl rfl dX12_find_294 ?_
                refine lv_bipush (v := 8) hx hb dX12_find_297 (by decide) ?_
                refine lv_iload hx hb dX12_find_299 (lv_at hl 4 rfl) ?_
                refine lv_imul hx hb dX12_find_301 ?_
                refine lv_iload hx hb dX12_find_302 (lv_at hl 7 rfl) ?_
                refine lv_iadd hx hb dX12_find_304 ?_
                obtain ⟨hi52, hw⟩ := hw
                refine hw_iald hx hb hK hP (Nat.lt_of_lt_of_le (by decide) hN) (bY_19 _) hi52 dX12_find_305 ?_
                obtain ⟨hi53, hw⟩ := hw
                refine hw_iast hx hb hK hJ0 hP hS (Nat.lt_of_lt_of_le (by decide) hN) (fun ρ => bY_14 ρ) hi53 dX12_find_306 (fun H locs hP hS => ?_)
                obtain ⟨x7_54, ex7_54⟩ : ∃ z : Int32, z = v7_30 + (1 : Int32) := ⟨_, rfl⟩
                have hw := hw x7_54 ex7_54
                refine lv_iinc (v := x7_54) (lv' := [(7, .int x7_54), (0, .ref (ad 0)), (1, .int a1), (2, .int a2), (3, .int a3), (4, .int v4_18), (5, .int v5_22), (6, .int x6_27)]) hx hb dX12_find_307 hl (k := 7) rfl (by rw [ex7_54]; rfl) (by decide) rfl (fun ls hl => ?_)
                refine lv_goto (tgt := 278) hx hb dX12_find_310 (by decide) ?_
                exact hw _ _ _ hP hS (lv_sub hl [1, 2, 3, 4, 5, 6, 7, 0] rfl)
              have hw := hw.2 c25
              refine lv_aload_n hx hb dX12_find_234 rfl (lv_at hl 0 rfl) ?_
              refine lv_iload_n hx hb dX12_find_235 rfl (lv_at hl 1 rfl) ?_
              refine lv_iload hx hb dX12_find_236 (lv_at hl 4 rfl) ?_
              refine lv_aload_n hx hb dX12_find_238 rfl (lv_at hl 0 rfl) ?_
              refine hw_get (v := .ref (ad 1)) hx hb hts hiX12 hown hK hP (Nat.lt_of_lt_of_le (by decide) hN) (bY_0 _) rfl 2 (by decide) (List.mem_of_getElem? (i := 7) rfl) rfl rfl dX12_find_239 ?_
              refine lv_iload_n hx hb dX12_find_242 rfl (lv_at hl 1 rfl) ?_
              obtain ⟨hi55, hw⟩ := hw
              refine hw_iald hx hb hK hP (Nat.lt_of_lt_of_le (by decide) hN) (bY_1 _) hi55 dX12_find_243 ?_
              refine lv_iconst (v := 0) hx hb dX12_find_244 (by decide) ?_
              refine hw_ki (va_runV (As := [.int a1, .int v4_18, .int (σ23 1 (a1).toNatClampNeg), .int (0 : Int32)]) (rest := []) ⟨hx, hb, hml, hown, hts⟩ (kc_X12_put l D cy N hN ad hJ0 w σ23 _ a1 v4_18 (σ23 1 (a1).toNatClampNeg) (0 : Int32) _ hw) (cwV 4 hts gX12_find_X12_put rfl rfl rfl (by decide +kernel) ⟨Nat.le_of_ble_eq_true rfl, Nat.le_of_ble_eq_true rfl⟩) (hw_preV hK hN1 hP (Nat.lt_of_lt_of_le (by decide) hN) (bY_0 _) rfl) rfl rfl hl.1 rfl (lv_room (Nat.le_of_ble_eq_true rfl)) dX12_find_245 ⟨Nat.zero_le _, Nat.zero_le _⟩) hS (fun r57 σ56 H locs hw hP hS => ?_)
              refine lv_pop hx hb dX12_find_248 rfl ?_
              obtain ⟨x4_58, ex4_58⟩ : ∃ z : Int32, z = v4_18 + (-1 : Int32) := ⟨_, rfl⟩
              have hw := hw x4_58 ex4_58
              refine lv_iinc (v := x4_58) (lv' := [(4, .int x4_58), (0, .ref (ad 0)), (1, .int a1), (2, .int a2), (3, .int a3), (5, .int v5_22)]) hx hb dX12_find_249 hl (k := 4) rfl (by rw [ex4_58]; rfl) (by decide) rfl (fun ls hl => ?_)
              refine lv_goto (tgt := 135) hx hb dX12_find_252 (by decide) ?_
              exact hw _ _ _ hP hS (lv_sub hl [1, 2, 3, 4, 0, 5] rfl)
            refine lv_if_eq (tgt := 223) hx hb dX12_find_142 (by decide) (fun c59 => ?_) (fun c59 => ?_)
            · have hw := hw.1 c59
              exact hJ223 _ _ _ _ _ hw hP hS (lv_sub hl [0, 1, 2, 3, 4, 5] rfl)
            have hw := hw.2 c59
            refine lv_aload_n hx hb dX12_find_145 rfl (lv_at hl 0 rfl) ?_
            refine hw_get (v := .int (σ20 0 37)) hx hb hts hiX12 hown hK hP (Nat.lt_of_lt_of_le (by decide) hN) (bY_0 _) rfl 37 (by decide) (List.mem_of_getElem? (i := 3) rfl) rfl rfl dX12_find_146 ?_
            refine lv_iload_n hx hb dX12_find_149 rfl (lv_at hl 3 rfl) ?_
            refine lv_icmp_ne (tgt := 155) hx hb dX12_find_150 (by decide) (fun c60 => ?_) (fun c60 => ?_)
            · have hw := hw.1 c60
              refine lv_aload_n hx hb dX12_find_155 rfl (lv_at hl 0 rfl) ?_
              refine lv_dup hx hb dX12_find_156 rfl ?_
              refine hw_get (v := .int (σ20 0 37)) hx hb hts hiX12 hown hK hP (Nat.lt_of_lt_of_le (by decide) hN) (bY_0 _) rfl 37 (by decide) (List.mem_of_getElem? (i := 3) rfl) rfl rfl dX12_find_157 ?_
              refine lv_iconst (v := 1) hx hb dX12_find_160 (by decide) ?_
              refine lv_iadd hx hb dX12_find_161 ?_
              refine hw_put (x := ((σ20 0 37) + (1 : Int32))) (j := 37) hx hb hts hiX12 tyX12 tyX12_ok nmX12 hown hK hJ0 hP hS (Nat.lt_of_lt_of_le (by decide) hN) (bY_0 _) rfl (by decide) (List.mem_of_getElem? (i := 3) rfl) rfl rfl rfl rfl (Nat.le_of_ble_eq_true rfl) (by rw [bY_0]; rfl) dX12_find_162 (fun H locs hP hS => ?_)
              refine lv_aload_n hx hb dX12_find_165 rfl (lv_at hl 0 rfl) ?_
              refine lv_iload_n hx hb dX12_find_166 rfl (lv_at hl 1 rfl) ?_
              refine lv_iload hx hb dX12_find_167 (lv_at hl 4 rfl) ?_
              refine lv_aload_n hx hb dX12_find_169 rfl (lv_at hl 0 rfl) ?_
              refine hw_get (v := .ref (ad 1)) hx hb hts hiX12 hown hK hP (Nat.lt_of_lt_of_le (by decide) hN) (bY_0 _) rfl 2 (by decide) (List.mem_of_getElem? (i := 7) rfl) rfl rfl dX12_find_170 ?_
              refine lv_iload_n hx hb dX12_find_173 rfl (lv_at hl 1 rfl) ?_
              obtain ⟨hi61, hw⟩ := hw
              refine hw_iald hx hb hK hP (Nat.lt_of_lt_of_le (by decide) hN) (bY_1 _) hi61 dX12_find_174 ?_
              refine lv_iconst (v := 1) hx hb dX12_find_175 (by decide) ?_
              refine hw_ki (va_runV (As := [.int a1, .int v4_18, .int ((hup σ20 0 37 ((σ20 0 37) + (1 : Int32))) 1 (a1).toNatClampNeg), .int (1 : Int32)]) (rest := []) ⟨hx, hb, hml, hown, hts⟩ (kc_X12_put l D cy N hN ad hJ0 w (hup σ20 0 37 ((σ20 0 37) + (1 : Int32))) _ a1 v4_18 ((hup σ20 0 37 ((σ20 0 37) + (1 : Int32))) 1 (a1).toNatClampNeg) (1 : Int32) _ hw) (cwV 4 hts gX12_find_X12_put rfl rfl rfl (by decide +kernel) ⟨Nat.le_of_ble_eq_true rfl, Nat.le_of_ble_eq_true rfl⟩) (hw_preV hK hN1 hP (Nat.lt_of_lt_of_le (by decide) hN) (bY_0 _) rfl) rfl rfl hl.1 rfl (lv_room (Nat.le_of_ble_eq_true rfl)) dX12_find_176 ⟨Nat.zero_le _, Nat.zero_le _⟩) hS (fun r63 σ62 H locs hw hP hS => ?_)
              refine lv_istore (lv' := [(6, .int r63), (0, .ref (ad 0)), (1, .int a1), (2, .int a2), (3, .int a3), (4, .int v4_18), (5, .int v5_19)]) hx hb dX12_find_179 hl (by decide) rfl (fun ls hl => ?_)
              refine lv_iload hx hb dX12_find_181 (lv_at hl 0 rfl) ?_
              refine lv_aload_n hx hb dX12_find_183 rfl (lv_at hl 1 rfl) ?_
              refine hw_get (v := .ref (ad 1)) hx hb hts hiX12 hown hK hP (Nat.lt_of_lt_of_le (by decide) hN) (bY_0 _) rfl 2 (by decide) (List.mem_of_getElem? (i := 7) rfl) rfl rfl dX12_find_184 ?_
              refine lv_iload_n hx hb dX12_find_187 rfl (lv_at hl 2 rfl) ?_
              obtain ⟨hi64, hw⟩ := hw
              refine hw_iald hx hb hK hP (Nat.lt_of_lt_of_le (by decide) hN) (bY_1 _) hi64 dX12_find_188 ?_
              refine lv_icmp_ge (tgt := 212) hx hb dX12_find_189 (by decide) (fun c65 => ?_) (fun c65 => ?_)
              · have hw := hw.1 c65
                refine lv_aload_n hx hb dX12_find_212 rfl (lv_at hl 1 rfl) ?_
                refine hw_get (v := .ref (ad 20)) hx hb hts hiX12 hown hK hP (Nat.lt_of_lt_of_le (by decide) hN) (bY_0 _) rfl 35 (by decide) (List.mem_of_getElem? (i := 8) rfl) rfl rfl dX12_find_213 ?_
                refine lv_iload hx hb dX12_find_216 (lv_at hl 5 rfl) ?_
                refine lv_iconst (v := 0) hx hb dX12_find_218 (by decide) ?_
                obtain ⟨hi66, hw⟩ := hw
                refine hw_iast hx hb hK hJ0 hP hS (Nat.lt_of_lt_of_le (by decide) hN) (fun ρ => bY_20 ρ) hi66 dX12_find_219 (fun H locs hP hS => ?_)
                refine lv_iconst (v := 0) hx hb dX12_find_220 (by decide) ?_
                refine lv_istore (lv' := [(5, .int (0 : Int32)), (6, .int r63), (0, .ref (ad 0)), (1, .int a1), (2, .int a2), (3, .int a3), (4, .int v4_18)]) hx hb dX12_find_221 hl (by decide) rfl (fun ls hl => ?_)
                exact hJ223 _ _ _ _ _ hw hP hS (lv_sub hl [2, 3, 4, 5, 6, 0] rfl)
              have hw := hw.2 c65
              refine lv_aload_n hx hb dX12_find_192 rfl (lv_at hl 1 rfl) ?_
              refine lv_iload_n hx hb dX12_find_193 rfl (lv_at hl 2 rfl) ?_
              refine lv_iload hx hb dX12_find_194 (lv_at hl 5 rfl) ?_
              refine lv_iload hx hb dX12_find_196 (lv_at hl 0 rfl) ?_
              refine lv_iconst (v := 0) hx hb dX12_find_198 (by decide) ?_
              refine hw_ki (va_runV (As := [.int a1, .int v4_18, .int r63, .int (0 : Int32)]) (rest := []) ⟨hx, hb, hml, hown, hts⟩ (kc_X12_put l D cy N hN ad hJ0 w σ62 _ a1 v4_18 r63 (0 : Int32) _ hw) (cwV 4 hts gX12_find_X12_put rfl rfl rfl (by decide +kernel) ⟨Nat.le_of_ble_eq_true rfl, Nat.le_of_ble_eq_true rfl⟩) (hw_preV hK hN1 hP (Nat.lt_of_lt_of_le (by decide) hN) (bY_0 _) rfl) rfl rfl hl.1 rfl (lv_room (Nat.le_of_ble_eq_true rfl)) dX12_find_199 ⟨Nat.zero_le _, Nat.zero_le _⟩) hS (fun r68 σ67 H locs hw hP hS => ?_)
              refine lv_pop hx hb dX12_find_202 rfl ?_
              obtain ⟨x4_69, ex4_69⟩ : ∃ z : Int32, z = v4_18 + (-1 : Int32) := ⟨_, rfl⟩
              have hw := hw x4_69 ex4_69
              refine lv_iinc (v := x4_69) (lv' := [(4, .int x4_69), (6, .int r63), (0, .ref (ad 0)), (1, .int a1), (2, .int a2), (3, .int a3), (5, .int v5_19)]) hx hb dX12_find_203 hl (k := 5) rfl (by rw [ex4_69]; rfl) (by decide) rfl (fun ls hl => ?_)
              refine lv_iconst (v := 0) hx hb dX12_find_206 (by decide) ?_
              refine lv_istore (lv' := [(5, .int (0 : Int32)), (4, .int x4_69), (6, .int r63), (0, .ref (ad 0)), (1, .int a1), (2, .int a2), (3, .int a3)]) hx hb dX12_find_207 hl (by decide) rfl (fun ls hl => ?_)
              refine lv_goto (tgt := 135) hx hb dX12_find_209 (by decide) ?_
              exact hw _ _ _ hP hS (lv_sub hl [3, 4, 5, 6, 1, 0] rfl)
            have hw := hw.2 c60
            refine lv_iconst (v := 2) hx hb dX12_find_153 (by decide) ?_
            exact hw_iret hx hb hr hlocks (σ20) hw hP hS dX12_find_154
          have hw := hw.2 c17
          refine lv_aload_n hx hb dX12_find_109 rfl (lv_at hl 0 rfl) ?_
          refine hw_get (v := .ref (ad 19)) hx hb hts hiX12 hown hK hP (Nat.lt_of_lt_of_le (by decide) hN) (bY_0 _) rfl 34 (by decide) (List.mem_of_getElem? (i := 6) rfl) rfl rfl dX12_find_110 ?_
          refine lv_iload hx hb dX12_find_113 (lv_at hl 4 rfl) ?_
          refine lv_aload_n hx hb dX12_find_115 rfl (lv_at hl 0 rfl) ?_
          refine hw_get (v := .ref (ad 14)) hx hb hts hiX12 hown hK hP (Nat.lt_of_lt_of_le (by decide) hN) (bY_0 _) rfl 24 (by decide) (List.mem_of_getElem? (i := 4) rfl) rfl rfl dX12_find_116 ?_
          refine lv_iload hx hb dX12_find_119 (lv_at hl 4 rfl) ?_
          obtain ⟨hi70, hw⟩ := hw
          refine hw_iald hx hb hK hP (Nat.lt_of_lt_of_le (by decide) hN) (bY_14 _) hi70 dX12_find_121 ?_
          obtain ⟨hi71, hw⟩ := hw
          refine hw_iast hx hb hK hJ0 hP hS (Nat.lt_of_lt_of_le (by decide) hN) (fun ρ => bY_19 ρ) hi71 dX12_find_122 (fun H locs hP hS => ?_)
          obtain ⟨x4_72, ex4_72⟩ : ∃ z : Int32, z = v4_15 + (1 : Int32) := ⟨_, rfl⟩
          have hw := hw x4_72 ex4_72
          refine lv_iinc (v := x4_72) (lv' := [(4, .int x4_72), (0, .ref (ad 0)), (1, .int a1), (2, .int a2), (3, .int a3)]) hx hb dX12_find_123 hl (k := 4) rfl (by rw [ex4_72]; rfl) (by decide) rfl (fun ls hl => ?_)
          refine lv_goto (tgt := 100) hx hb dX12_find_126 (by decide) ?_
          exact hw _ _ _ hP hS (lv_sub hl [1, 2, 3, 4, 0] rfl)
        have hw := hw.2 c13
        refine lv_aload_n hx hb dX12_find_70 rfl (lv_at hl 0 rfl) ?_
        refine hw_get (v := .ref (ad 21)) hx hb hts hiX12 hown hK hP (Nat.lt_of_lt_of_le (by decide) hN) (bY_0 _) rfl 36 (by decide) (List.mem_of_getElem? (i := 2) rfl) rfl rfl dX12_find_71 ?_
        refine lv_iload hx hb dX12_find_74 (lv_at hl 4 rfl) ?_
        refine lv_iconst (v := 0) hx hb dX12_find_76 (by decide) ?_
        obtain ⟨hi73, hw⟩ := hw
        refine hw_zast hx hb hK hJ0 hP hS (Nat.lt_of_lt_of_le (by decide) hN) (fun ρ => bY_21 ρ) hi73 dX12_find_77 (fun H locs hP hS => ?_)
        obtain ⟨x4_74, ex4_74⟩ : ∃ z : Int32, z = v4_11 + (1 : Int32) := ⟨_, rfl⟩
        have hw := hw x4_74 ex4_74
        refine lv_iinc (v := x4_74) (lv' := [(4, .int x4_74), (0, .ref (ad 0)), (1, .int a1), (2, .int a2), (3, .int a3)]) hx hb dX12_find_78 hl (k := 4) rfl (by rw [ex4_74]; rfl) (by decide) rfl (fun ls hl => ?_)
        refine lv_goto (tgt := 63) hx hb dX12_find_81 (by decide) ?_
        exact hw _ _ _ hP hS (lv_sub hl [1, 2, 3, 4, 0] rfl)
      have hw := hw.2 c10
      refine lv_iconst (v := 0) hx hb dX12_find_58 (by decide) ?_
      exact hw_iret hx hb hr hlocks (σ8) hw hP hS dX12_find_59
    have hw := hw.2 c7
    refine lv_iconst (v := 1) hx hb dX12_find_46 (by decide) ?_
    refine lv_goto (tgt := 51) hx hb dX12_find_47 (by decide) ?_
    refine lv_iconst (v := 2) hx hb dX12_find_51 (by decide) ?_
    refine hw_ki (va_runV (As := [.int (1 : Int32), .int (2 : Int32)]) (rest := []) ⟨hx, hb, hml, hown, hts⟩ (kc_X12_throwsIf l D cy N hN ad hJ0 w σ2 _ (1 : Int32) (2 : Int32) _ hw) (cwV 2 hts gX12_find_X12_throwsIf rfl rfl rfl (by decide +kernel) ⟨Nat.le_of_ble_eq_true rfl, Nat.le_of_ble_eq_true rfl⟩) (hw_preV hK hN1 hP (Nat.lt_of_lt_of_le (by decide) hN) (bY_0 _) rfl) rfl rfl hl.1 rfl (lv_room (Nat.le_of_ble_eq_true rfl)) dX12_find_52 ⟨Nat.zero_le _, Nat.zero_le _⟩) hS (fun r76 σ75 H locs hw hP hS => ?_)
    refine lv_if_eq (tgt := 60) hx hb dX12_find_55 (by decide) (fun c77 => ?_) (fun c77 => ?_)
    · have hw := hw.1 c77
      refine lv_iconst (v := 0) hx hb dX12_find_60 (by decide) ?_
      refine lv_istore (lv' := [(4, .int (0 : Int32)), (0, .ref (ad 0)), (1, .int a1), (2, .int a2), (3, .int a3)]) hx hb dX12_find_61 hl (by decide) rfl (fun ls hl => ?_)
      refine hw (fun (v4_78 : Int32) (σ79 : hSt) => ∀ (H : Heap) (locs : List Loc) (ls : Array Slot), va_P D vwCl (hC N ad (bY cy ad w) σ79) H → va_S (hA N ad s.heap.size) s.heap H locs → lv_has ls 8 [(0, .ref (ad 0)), (1, .int a1), (2, .int a2), (3, .int a3), (4, .int v4_78)] → W p l e (headSpec wsX12_find ({ frames := 2, cells := 0, slots := 0, locals := 51 } : Room)).room s m ([Value.ref (ad 0), Value.int a1, Value.int a2, Value.int a3] : List Value).toArray below meth c H locs 0 0 (MQ below (va_Qi (fun (r : Int32) (u : hSt) => Q r u) (hE D (fun u : hSt => hC N ad (bY cy ad w) u)) (hA N ad s.heap.size)) ([Value.ref (ad 0), Value.int a1, Value.int a2, Value.int a3] : List Value).toArray s 0 0 (hA N ad s.heap.size)) (F0 m 63 ls [])) (fun v4_78 σ79 hw H locs ls hP hS hl => ?_) _ _ _ hP hS (lv_sub hl [1, 2, 3, 4, 0] rfl)
      refine lv_iload hx hb dX12_find_63 (lv_at hl 4 rfl) ?_
      refine lv_ldc (v := 40320) hx hb hown (hts (.constant RX12 64 40320) (List.mem_of_getElem? (i := 1) rfl)) dX12_find_65 ?_
      refine lv_icmp_ge (tgt := 84) hx hb dX12_find_67 (by decide) (fun c80 => ?_) (fun c80 => ?_)
      · have hw := hw.1 c80
        refine lv_aload_n hx hb dX12_find_84 rfl (lv_at hl 0 rfl) ?_
        refine lv_iconst (v := 0) hx hb dX12_find_85 (by decide) ?_
        refine hw_put (x := (0 : Int32)) (j := 37) hx hb hts hiX12 tyX12 tyX12_ok nmX12 hown hK hJ0 hP hS (Nat.lt_of_lt_of_le (by decide) hN) (bY_0 _) rfl (by decide) (List.mem_of_getElem? (i := 3) rfl) rfl rfl rfl rfl (Nat.le_of_ble_eq_true rfl) (by rw [bY_0]; rfl) dX12_find_86 (fun H locs hP hS => ?_)
        refine lv_aload_n hx hb dX12_find_89 rfl (lv_at hl 0 rfl) ?_
        refine lv_aload_n hx hb dX12_find_90 rfl (lv_at hl 0 rfl) ?_
        refine hw_get (v := .ref (ad 14)) hx hb hts hiX12 hown hK hP (Nat.lt_of_lt_of_le (by decide) hN) (bY_0 _) rfl 24 (by decide) (List.mem_of_getElem? (i := 4) rfl) rfl rfl dX12_find_91 ?_
        refine hw_kv (va_runV (As := [.ref (ad 14)]) (rest := []) ⟨hx, hb, hml, hown, hts⟩ (kc_X12_rounds l D cy N hN ad hJ0 w (hup σ79 0 37 (0 : Int32)) _ 14 h8_14 _ hw) (cwV 1 hts gX12_find_X12_rounds rfl rfl rfl (by decide +kernel) ⟨Nat.le_of_ble_eq_true rfl, Nat.le_of_ble_eq_true rfl⟩) (hw_preV hK hN1 hP (Nat.lt_of_lt_of_le (by decide) hN) (bY_0 _) rfl) rfl rfl hl.1 rfl (lv_room (Nat.le_of_ble_eq_true rfl)) dX12_find_94 ⟨Nat.zero_le _, Nat.zero_le _⟩) hS (fun σ81 H locs hw hP hS => ?_)
        refine lv_iconst (v := 0) hx hb dX12_find_97 (by decide) ?_
        refine lv_istore (lv' := [(4, .int (0 : Int32)), (0, .ref (ad 0)), (1, .int a1), (2, .int a2), (3, .int a3)]) hx hb dX12_find_98 hl (by decide) rfl (fun ls hl => ?_)
        refine hw (fun (v4_82 : Int32) (σ83 : hSt) => ∀ (H : Heap) (locs : List Loc) (ls : Array Slot), va_P D vwCl (hC N ad (bY cy ad w) σ83) H → va_S (hA N ad s.heap.size) s.heap H locs → lv_has ls 8 [(0, .ref (ad 0)), (1, .int a1), (2, .int a2), (3, .int a3), (4, .int v4_82)] → W p l e (headSpec wsX12_find ({ frames := 2, cells := 0, slots := 0, locals := 51 } : Room)).room s m ([Value.ref (ad 0), Value.int a1, Value.int a2, Value.int a3] : List Value).toArray below meth c H locs 0 0 (MQ below (va_Qi (fun (r : Int32) (u : hSt) => Q r u) (hE D (fun u : hSt => hC N ad (bY cy ad w) u)) (hA N ad s.heap.size)) ([Value.ref (ad 0), Value.int a1, Value.int a2, Value.int a3] : List Value).toArray s 0 0 (hA N ad s.heap.size)) (F0 m 100 ls [])) (fun v4_82 σ83 hw H locs ls hP hS hl => ?_) _ _ _ hP hS (lv_sub hl [1, 2, 3, 4, 0] rfl)
        refine lv_iload hx hb dX12_find_100 (lv_at hl 4 rfl) ?_
        refine lv_aload_n hx hb dX12_find_102 rfl (lv_at hl 0 rfl) ?_
        refine hw_get (v := .int (σ83 0 1)) hx hb hts hiX12 hown hK hP (Nat.lt_of_lt_of_le (by decide) hN) (bY_0 _) rfl 1 (by decide) (List.mem_of_getElem? (i := 5) rfl) rfl rfl dX12_find_103 ?_
        refine lv_icmp_ge (tgt := 129) hx hb dX12_find_106 (by decide) (fun c84 => ?_) (fun c84 => ?_)
        · have hw := hw.1 c84
          refine lv_iconst (v := 0) hx hb dX12_find_129 (by decide) ?_
          refine lv_istore (lv' := [(4, .int (0 : Int32)), (0, .ref (ad 0)), (1, .int a1), (2, .int a2), (3, .int a3)]) hx hb dX12_find_130 hl (by decide) rfl (fun ls hl => ?_)
          refine lv_iconst (v := 1) hx hb dX12_find_132 (by decide) ?_
          refine lv_istore (lv' := [(5, .int (1 : Int32)), (4, .int (0 : Int32)), (0, .ref (ad 0)), (1, .int a1), (2, .int a2), (3, .int a3)]) hx hb dX12_find_133 hl (by decide) rfl (fun ls hl => ?_)
          refine hw (fun (v4_85 : Int32) (v5_86 : Int32) (σ87 : hSt) => ∀ (H : Heap) (locs : List Loc) (ls : Array Slot), va_P D vwCl (hC N ad (bY cy ad w) σ87) H → va_S (hA N ad s.heap.size) s.heap H locs → lv_has ls 8 [(0, .ref (ad 0)), (1, .int a1), (2, .int a2), (3, .int a3), (4, .int v4_85), (5, .int v5_86)] → W p l e (headSpec wsX12_find ({ frames := 2, cells := 0, slots := 0, locals := 51 } : Room)).room s m ([Value.ref (ad 0), Value.int a1, Value.int a2, Value.int a3] : List Value).toArray below meth c H locs 0 0 (MQ below (va_Qi (fun (r : Int32) (u : hSt) => Q r u) (hE D (fun u : hSt => hC N ad (bY cy ad w) u)) (hA N ad s.heap.size)) ([Value.ref (ad 0), Value.int a1, Value.int a2, Value.int a3] : List Value).toArray s 0 0 (hA N ad s.heap.size)) (F0 m 135 ls [])) (fun v4_85 v5_86 σ87 hw H locs ls hP hS hl => ?_) _ _ _ hP hS (lv_sub hl [2, 3, 4, 5, 1, 0] rfl)
          refine lv_iload hx hb dX12_find_135 (lv_at hl 4 rfl) ?_
          refine lv_if_lt (tgt := 439) hx hb dX12_find_137 (by decide) (fun c88 => ?_) (fun c88 => ?_)
          · have hw := hw.1 c88
            refine lv_iconst (v := 1) hx hb dX12_find_439 (by decide) ?_
            exact hw_iret hx hb hr hlocks (σ87) hw hP hS dX12_find_440
          have hw := hw.2 c88
          refine lv_iload hx hb dX12_find_140 (lv_at hl 5 rfl) ?_
          obtain ⟨J223, ehJ223, hw⟩ := hM_x hw
          have hJ223 : ∀ (v5_89 : Int32) (σ90 : hSt) (H : Heap) (locs : List Loc) (ls : Array Slot), J223 v5_89 σ90 → va_P D vwCl (hC N ad (bY cy ad w) σ90) H → va_S (hA N ad s.heap.size) s.heap H locs → lv_has ls 8 [(0, .ref (ad 0)), (1, .int a1), (2, .int a2), (3, .int a3), (4, .int v4_85), (5, .int v5_89)] → W p l e (headSpec wsX12_find ({ frames := 2, cells := 0, slots := 0, locals := 51 } : Room)).room s m ([Value.ref (ad 0), Value.int a1, Value.int a2, Value.int a3] : List Value).toArray below meth c H locs 0 0 (MQ below (va_Qi (fun (r : Int32) (u : hSt) => Q r u) (hE D (fun u : hSt => hC N ad (bY cy ad w) u)) (hA N ad s.heap.size)) ([Value.ref (ad 0), Value.int a1, Value.int a2, Value.int a3] : List Value).toArray s 0 0 (hA N ad s.heap.size)) (F0 m 223 ls []) := by
            intro v5_89 σ90 H locs ls hw hP hS hl
            rw [ehJ223] at hw
            refine lv_aload_n hx hb dX12_find_223 rfl (lv_at hl 0 rfl) ?_
            refine hw_get (v := .ref (ad 20)) hx hb hts hiX12 hown hK hP (Nat.lt_of_lt_of_le (by decide) hN) (bY_0 _) rfl 35 (by decide) (List.mem_of_getElem? (i := 8) rfl) rfl rfl dX12_find_224 ?_
            refine lv_iload hx hb dX12_find_227 (lv_at hl 4 rfl) ?_
            obtain ⟨hi91, hw⟩ := hw
            refine hw_iald hx hb hK hP (Nat.lt_of_lt_of_le (by decide) hN) (bY_20 _) hi91 dX12_find_229 ?_
            refine lv_iconst (v := 3) hx hb dX12_find_230 (by decide) ?_
            refine lv_icmp_ne (tgt := 255) hx hb dX12_find_231 (by decide) (fun c92 => ?_) (fun c92 => ?_)
            · have hw := hw.1 c92
              refine lv_aload_n hx hb dX12_find_255 rfl (lv_at hl 0 rfl) ?_
              refine hw_get (v := .ref (ad 20)) hx hb hts hiX12 hown hK hP (Nat.lt_of_lt_of_le (by decide) hN) (bY_0 _) rfl 35 (by decide) (List.mem_of_getElem? (i := 8) rfl) rfl rfl dX12_find_256 ?_
              refine lv_iload hx hb dX12_find_259 (lv_at hl 4 rfl) ?_
              obtain ⟨hi93, hw⟩ := hw
              refine hw_iald hx hb hK hP (Nat.lt_of_lt_of_le (by decide) hN) (bY_20 _) hi93 dX12_find_261 ?_
              refine lv_topi (fun x6_94 ex6_94 => ?_)
              have hw := hw x6_94 ex6_94
              refine lv_istore (lv' := [(6, .int x6_94), (0, .ref (ad 0)), (1, .int a1), (2, .int a2), (3, .int a3), (4, .int v4_85), (5, .int v5_89)]) hx hb dX12_find_262 hl (by decide) rfl (fun ls hl => ?_)
              refine lv_aload_n hx hb dX12_find_264 rfl (lv_at hl 1 rfl) ?_
              refine hw_get (v := .ref (ad 20)) hx hb hts hiX12 hown hK hP (Nat.lt_of_lt_of_le (by decide) hN) (bY_0 _) rfl 35 (by decide) (List.mem_of_getElem? (i := 8) rfl) rfl rfl dX12_find_265 ?_
              refine lv_iload hx hb dX12_find_268 (lv_at hl 5 rfl) ?_
              refine lv_dup2_11 hx hb dX12_find_270 rfl rfl ?_
              obtain ⟨hi95, hw⟩ := hw
              refine hw_iald hx hb hK hP (Nat.lt_of_lt_of_le (by decide) hN) (bY_20 _) hi95 dX12_find_271 ?_
              refine lv_iconst (v := 1) hx hb dX12_find_272 (by decide) ?_
              refine lv_iadd hx hb dX12_find_273 ?_
              obtain ⟨hi96, hw⟩ := hw
              refine hw_iast hx hb hK hJ0 hP hS (Nat.lt_of_lt_of_le (by decide) hN) (fun ρ => bY_20 ρ) hi96 dX12_find_274 (fun H locs hP hS => ?_)
              refine lv_iconst (v := 0) hx hb dX12_find_275 (by decide) ?_
              refine lv_istore (lv' := [(7, .int (0 : Int32)), (6, .int x6_94), (0, .ref (ad 0)), (1, .int a1), (2, .int a2), (3, .int a3), (4, .int v4_85), (5, .int v5_89)]) hx hb dX12_find_276 hl (by decide) rfl (fun ls hl => ?_)
              refine hw (fun (v7_97 : Int32) (σ98 : hSt) => ∀ (H : Heap) (locs : List Loc) (ls : Array Slot), va_P D vwCl (hC N ad (bY cy ad w) σ98) H → va_S (hA N ad s.heap.size) s.heap H locs → lv_has ls 8 [(0, .ref (ad 0)), (1, .int a1), (2, .int a2), (3, .int a3), (4, .int v4_85), (5, .int v5_89), (6, .int x6_94), (7, .int v7_97)] → W p l e (headSpec wsX12_find ({ frames := 2, cells := 0, slots := 0, locals := 51 } : Room)).room s m ([Value.ref (ad 0), Value.int a1, Value.int a2, Value.int a3] : List Value).toArray below meth c H locs 0 0 (MQ below (va_Qi (fun (r : Int32) (u : hSt) => Q r u) (hE D (fun u : hSt => hC N ad (bY cy ad w) u)) (hA N ad s.heap.size)) ([Value.ref (ad 0), Value.int a1, Value.int a2, Value.int a3] : List Value).toArray s 0 0 (hA N ad s.heap.size)) (F0 m 278 ls [])) (fun v7_97 σ98 hw H locs ls hP hS hl => ?_) _ _ _ hP hS (lv_sub hl [2, 3, 4, 5, 6, 7, 1, 0] rfl)
              refine lv_iload hx hb dX12_find_278 (lv_at hl 7 rfl) ?_
              refine lv_aload_n hx hb dX12_find_280 rfl (lv_at hl 0 rfl) ?_
              refine hw_get (v := .int (σ98 0 1)) hx hb hts hiX12 hown hK hP (Nat.lt_of_lt_of_le (by decide) hN) (bY_0 _) rfl 1 (by decide) (List.mem_of_getElem? (i := 5) rfl) rfl rfl dX12_find_281 ?_
              refine lv_icmp_ge (tgt := 313) hx hb dX12_find_284 (by decide) (fun c99 => ?_) (fun c99 => ?_)
              · have hw := hw.1 c99
                refine lv_aload_n hx hb dX12_find_313 rfl (lv_at hl 0 rfl) ?_
                refine lv_aload_n hx hb dX12_find_314 rfl (lv_at hl 0 rfl) ?_
                refine hw_get (v := .ref (ad 14)) hx hb hts hiX12 hown hK hP (Nat.lt_of_lt_of_le (by decide) hN) (bY_0 _) rfl 24 (by decide) (List.mem_of_getElem? (i := 4) rfl) rfl rfl dX12_find_315 ?_
                refine lv_iload_n hx hb dX12_find_318 rfl (lv_at hl 1 rfl) ?_
                refine lv_iload hx hb dX12_find_319 (lv_at hl 6 rfl) ?_
                refine hw_kv (va_runV (As := [.ref (ad 14), .int a1, .int x6_94]) (rest := []) ⟨hx, hb, hml, hown, hts⟩ (kc_X12_ringLead l D cy N hN ad hJ0 w σ98 _ 14 h8_14 a1 x6_94 _ hw) (cwV 3 hts gX12_find_X12_ringLead rfl rfl rfl (by decide +kernel) ⟨Nat.le_of_ble_eq_true rfl, Nat.le_of_ble_eq_true rfl⟩) (hw_preV hK hN1 hP (Nat.lt_of_lt_of_le (by decide) hN) (bY_0 _) rfl) rfl rfl hl.1 rfl (lv_room (Nat.le_of_ble_eq_true rfl)) dX12_find_321 ⟨Nat.zero_le _, Nat.zero_le _⟩) hS (fun σ100 H locs hw hP hS => ?_)
                refine lv_iload hx hb dX12_find_324 (lv_at hl 4 rfl) ?_
                refine lv_iconst (v := 1) hx hb dX12_find_326 (by decide) ?_
                refine lv_iadd hx hb dX12_find_327 ?_
                refine lv_iload_n hx hb dX12_find_328 rfl (lv_at hl 2 rfl) ?_
                refine lv_icmp_ne (tgt := 392) hx hb dX12_find_329 (by decide) (fun c101 => ?_) (fun c101 => ?_)
                · have hw := hw.1 c101
                  obtain ⟨x4_102, ex4_102⟩ : ∃ z : Int32, z = v4_85 + (1 : Int32) := ⟨_, rfl⟩
                  have hw := hw x4_102 ex4_102
                  refine lv_iinc (v := x4_102) (lv' := [(4, .int x4_102), (0, .ref (ad 0)), (1, .int a1), (2, .int a2), (3, .int a3), (5, .int v5_89), (6, .int x6_94), (7, .int v7_97)]) hx hb dX12_find_392 hl (k := 4) rfl (by rw [ex4_102]; rfl) (by decide) rfl (fun ls hl => ?_)
                  refine lv_iconst (v := 0) hx hb dX12_find_395 (by decide) ?_
                  refine lv_istore (lv' := [(7, .int (0 : Int32)), (4, .int x4_102), (0, .ref (ad 0)), (1, .int a1), (2, .int a2), (3, .int a3), (5, .int v5_89), (6, .int x6_94)]) hx hb dX12_find_396 hl (by decide) rfl (fun ls hl => ?_)
                  refine hw (fun (v7_103 : Int32) (σ104 : hSt) => ∀ (H : Heap) (locs : List Loc) (ls : Array Slot), va_P D vwCl (hC N ad (bY cy ad w) σ104) H → va_S (hA N ad s.heap.size) s.heap H locs → lv_has ls 8 [(0, .ref (ad 0)), (1, .int a1), (2, .int a2), (3, .int a3), (4, .int x4_102), (7, .int v7_103)] → W p l e (headSpec wsX12_find ({ frames := 2, cells := 0, slots := 0, locals := 51 } : Room)).room s m ([Value.ref (ad 0), Value.int a1, Value.int a2, Value.int a3] : List Value).toArray below meth c H locs 0 0 (MQ below (va_Qi (fun (r : Int32) (u : hSt) => Q r u) (hE D (fun u : hSt => hC N ad (bY cy ad w) u)) (hA N ad s.heap.size)) ([Value.ref (ad 0), Value.int a1, Value.int a2, Value.int a3] : List Value).toArray s 0 0 (hA N ad s.heap.size)) (F0 m 398 ls [])) (fun v7_103 σ104 hw H locs ls hP hS hl => ?_) _ _ _ hP hS (lv_sub hl [2, 3, 4, 5, 1, 0] rfl)
                  refine lv_iload hx hb dX12_find_398 (lv_at hl 5 rfl) ?_
                  refine lv_aload_n hx hb dX12_find_400 rfl (lv_at hl 0 rfl) ?_
                  refine hw_get (v := .int (σ104 0 1)) hx hb hts hiX12 hown hK hP (Nat.lt_of_lt_of_le (by decide) hN) (bY_0 _) rfl 1 (by decide) (List.mem_of_getElem? (i := 5) rfl) rfl rfl dX12_find_401 ?_
                  refine lv_icmp_ge (tgt := 433) hx hb dX12_find_404 (by decide) (fun c105 => ?_) (fun c105 => ?_)
                  · have hw := hw.1 c105
                    refine lv_iconst (v := 1) hx hb dX12_find_433 (by decide) ?_
                    refine lv_istore (lv' := [(5, .int (1 : Int32)), (0, .ref (ad 0)), (1, .int a1), (2, .int a2), (3, .int a3), (4, .int x4_102), (7, .int v7_103)]) hx hb dX12_find_434 hl (by decide) rfl (fun ls hl => ?_)
                    refine lv_goto (tgt := 135) hx hb dX12_find_436 (by decide) ?_
                    exact hw _ _ _ hP hS (lv_sub hl [1, 2, 3, 4, 5, 0] rfl)
                  have hw := hw.2 c105
                  refine lv_aload_n hx hb dX12_find_407 rfl (lv_at hl 0 rfl) ?_
                  refine hw_get (v := .ref (ad 19)) hx hb hts hiX12 hown hK hP (Nat.lt_of_lt_of_le (by decide) hN) (bY_0 _) rfl 34 (by decide) (List.mem_of_getElem? (i := 6) rfl) rfl rfl dX12_find_408 ?_
                  refine lv_bipush (v := 8) hx hb dX12_find_411 (by decide) ?_
                  refine lv_iload hx hb dX12_find_413 (lv_at hl 4 rfl) ?_
                  refine lv_imul hx hb dX12_find_415 ?_
                  refine lv_iload hx hb dX12_find_416 (lv_at hl 5 rfl) ?_
                  refine lv_iadd hx hb dX12_find_418 ?_
                  refine lv_aload_n hx hb dX12_find_419 rfl (lv_at hl 0 rfl) ?_
                  refine hw_get (v := .ref (ad 14)) hx hb hts hiX12 hown hK hP (Nat.lt_of_lt_of_le (by decide) hN) (bY_0 _) rfl 24 (by decide) (List.mem_of_getElem? (i := 4) rfl) rfl rfl dX12_find_420 ?_
                  refine lv_iload hx hb dX12_find_423 (lv_at hl 5 rfl) ?_
                  obtain ⟨hi106, hw⟩ := hw
                  refine hw_iald hx hb hK hP (Nat.lt_of_lt_of_le (by decide) hN) (bY_14 _) hi106 dX12_find_425 ?_
                  obtain ⟨hi107, hw⟩ := hw
                  refine hw_iast hx hb hK hJ0 hP hS (Nat.lt_of_lt_of_le (by decide) hN) (fun ρ => bY_19 ρ) hi107 dX12_find_426 (fun H locs hP hS => ?_)
                  obtain ⟨x7_108, ex7_108⟩ : ∃ z : Int32, z = v7_103 + (1 : Int32) := ⟨_, rfl⟩
                  have hw := hw x7_108 ex7_108
                  refine lv_iinc (v := x7_108) (lv' := [(7, .int x7_108), (0, .ref (ad 0)), (1, .int a1), (2, .int a2), (3, .int a3), (4, .int x4_102)]) hx hb dX12_find_427 hl (k := 5) rfl (by rw [ex7_108]; rfl) (by decide) rfl (fun ls hl => ?_)
                  refine lv_goto (tgt := 398) hx hb dX12_find_430 (by decide) ?_
                  exact hw _ _ _ hP hS (lv_sub hl [1, 2, 3, 4, 5, 0] rfl)
                have hw := hw.2 c101
                refine lv_aload_n hx hb dX12_find_332 rfl (lv_at hl 0 rfl) ?_
                refine lv_aload_n hx hb dX12_find_333 rfl (lv_at hl 0 rfl) ?_
                refine hw_get (v := .ref (ad 14)) hx hb hts hiX12 hown hK hP (Nat.lt_of_lt_of_le (by decide) hN) (bY_0 _) rfl 24 (by decide) (List.mem_of_getElem? (i := 4) rfl) rfl rfl dX12_find_334 ?_
                refine hw_ki (va_runV (As := [.ref (ad 14)]) (rest := []) ⟨hx, hb, hml, hown, hts⟩ (kc_X12_isRounds l D cy N hN ad hJ0 w σ100 _ 14 h8_14 _ hw) (cwV 1 hts gX12_find_X12_isRounds rfl rfl rfl (by decide +kernel) ⟨Nat.le_of_ble_eq_true rfl, Nat.le_of_ble_eq_true rfl⟩) (hw_preV hK hN1 hP (Nat.lt_of_lt_of_le (by decide) hN) (bY_0 _) rfl) rfl rfl hl.1 rfl (lv_room (Nat.le_of_ble_eq_true rfl)) dX12_find_337 ⟨Nat.zero_le _, Nat.zero_le _⟩) hS (fun r110 σ109 H locs hw hP hS => ?_)
                obtain ⟨hu_, hw⟩ := hw
                rw [hu_] at hP
                refine lv_if_ne (tgt := 346) hx hb dX12_find_340 (by decide) (fun c111 => ?_) (fun c111 => ?_)
                · have hw := hw.1 c111
                  refine lv_aload_n hx hb dX12_find_346 rfl (lv_at hl 0 rfl) ?_
                  refine lv_iload_n hx hb dX12_find_347 rfl (lv_at hl 2 rfl) ?_
                  refine hw_put (x := a2) (j := 6) hx hb hts hiX12 tyX12 tyX12_ok nmX12 hown hK hJ0 hP hS (Nat.lt_of_lt_of_le (by decide) hN) (bY_0 _) rfl (by decide) (List.mem_of_getElem? (i := 9) rfl) rfl rfl rfl rfl (Nat.le_of_ble_eq_true rfl) (by rw [bY_0]; rfl) dX12_find_348 (fun H locs hP hS => ?_)
                  refine lv_iconst (v := 0) hx hb dX12_find_351 (by decide) ?_
                  refine lv_istore (lv' := [(7, .int (0 : Int32)), (0, .ref (ad 0)), (1, .int a1), (2, .int a2), (3, .int a3), (4, .int v4_85), (5, .int v5_89), (6, .int x6_94)]) hx hb dX12_find_352 hl (by decide) rfl (fun ls hl => ?_)
                  refine hw (fun (v7_112 : Int32) (σ113 : hSt) => ∀ (H : Heap) (locs : List Loc) (ls : Array Slot), va_P D vwCl (hC N ad (bY cy ad w) σ113) H → va_S (hA N ad s.heap.size) s.heap H locs → lv_has ls 8 [(0, .ref (ad 0)), (1, .int a1), (2, .int a2), (7, .int v7_112)] → W p l e (headSpec wsX12_find ({ frames := 2, cells := 0, slots := 0, locals := 51 } : Room)).room s m ([Value.ref (ad 0), Value.int a1, Value.int a2, Value.int a3] : List Value).toArray below meth c H locs 0 0 (MQ below (va_Qi (fun (r : Int32) (u : hSt) => Q r u) (hE D (fun u : hSt => hC N ad (bY cy ad w) u)) (hA N ad s.heap.size)) ([Value.ref (ad 0), Value.int a1, Value.int a2, Value.int a3] : List Value).toArray s 0 0 (hA N ad s.heap.size)) (F0 m 354 ls [])) (fun v7_112 σ113 hw H locs ls hP hS hl => ?_) _ _ _ hP hS (lv_sub hl [1, 2, 3, 0] rfl)
                  refine lv_iload hx hb dX12_find_354 (lv_at hl 3 rfl) ?_
                  refine lv_iload_n hx hb dX12_find_356 rfl (lv_at hl 2 rfl) ?_
                  refine lv_icmp_ge (tgt := 390) hx hb dX12_find_357 (by decide) (fun c114 => ?_) (fun c114 => ?_)
                  · have hw := hw.1 c114
                    refine lv_iconst (v := 0) hx hb dX12_find_390 (by decide) ?_
                    exact hw_iret hx hb hr hlocks (σ113) hw hP hS dX12_find_391
                  have hw := hw.2 c114
                  refine lv_aload_n hx hb dX12_find_360 rfl (lv_at hl 0 rfl) ?_
                  refine hw_get (v := .ref (ad 3)) hx hb hts hiX12 hown hK hP (Nat.lt_of_lt_of_le (by decide) hN) (bY_0 _) rfl 4 (by decide) (List.mem_of_getElem? (i := 10) rfl) rfl rfl dX12_find_361 ?_
                  refine lv_iload hx hb dX12_find_364 (lv_at hl 3 rfl) ?_
                  refine lv_iload_n hx hb dX12_find_366 rfl (lv_at hl 1 rfl) ?_
                  obtain ⟨hi115, hw⟩ := hw
                  refine hw_iast hx hb hK hJ0 hP hS (Nat.lt_of_lt_of_le (by decide) hN) (fun ρ => bY_3 ρ) hi115 dX12_find_367 (fun H locs hP hS => ?_)
                  refine lv_aload_n hx hb dX12_find_368 rfl (lv_at hl 0 rfl) ?_
                  refine hw_get (v := .ref (ad 4)) hx hb hts hiX12 hown hK hP (Nat.lt_of_lt_of_le (by decide) hN) (bY_0 _) rfl 5 (by decide) (List.mem_of_getElem? (i := 11) rfl) rfl rfl dX12_find_369 ?_
                  refine lv_iload hx hb dX12_find_372 (lv_at hl 3 rfl) ?_
                  refine lv_aload_n hx hb dX12_find_374 rfl (lv_at hl 0 rfl) ?_
                  refine hw_get (v := .ref (ad 20)) hx hb hts hiX12 hown hK hP (Nat.lt_of_lt_of_le (by decide) hN) (bY_0 _) rfl 35 (by decide) (List.mem_of_getElem? (i := 8) rfl) rfl rfl dX12_find_375 ?_
                  refine lv_iload hx hb dX12_find_378 (lv_at hl 3 rfl) ?_
                  obtain ⟨hi116, hw⟩ := hw
                  refine hw_iald hx hb hK hP (Nat.lt_of_lt_of_le (by decide) hN) (bY_20 _) hi116 dX12_find_380 ?_
                  refine lv_iconst (v := 1) hx hb dX12_find_381 (by decide) ?_
                  refine lv_isub hx hb dX12_find_382 ?_
                  obtain ⟨hi117, hw⟩ := hw
                  refine hw_iast hx hb hK hJ0 hP hS (Nat.lt_of_lt_of_le (by decide) hN) (fun ρ => bY_4 ρ) hi117 dX12_find_383 (fun H locs hP hS => ?_)
                  obtain ⟨x7_118, ex7_118⟩ : ∃ z : Int32, z = v7_112 + (1 : Int32) := ⟨_, rfl⟩
                  have hw := hw x7_118 ex7_118
                  refine lv_iinc (v := x7_118) (lv' := [(7, .int x7_118), (0, .ref (ad 0)), (1, .int a1), (2, .int a2)]) hx hb dX12_find_384 hl (k := 3) rfl (by rw [ex7_118]; rfl) (by decide) rfl (fun ls hl => ?_)
                  refine lv_goto (tgt := 354) hx hb dX12_find_387 (by decide) ?_
                  exact hw _ _ _ hP hS (lv_sub hl [1, 2, 3, 0] rfl)
                have hw := hw.2 c111
                refine lv_goto (tgt := 135) hx hb dX12_find_343 (by decide) ?_
                exact hw _ _ _ hP hS (lv_sub hl [0, 1, 2, 3, 4, 5] rfl)
              have hw := hw.2 c99
              refine lv_aload_n hx hb dX12_find_287 rfl (lv_at hl 0 rfl) ?_
              refine hw_get (v := .ref (ad 14)) hx hb hts hiX12 hown hK hP (Nat.lt_of_lt_of_le (by decide) hN) (bY_0 _) rfl 24 (by decide) (List.mem_of_getElem? (i := 4) rfl) rfl rfl dX12_find_288 ?_
              refine lv_iload hx hb dX12_find_291 (lv_at hl 7 rfl) ?_
              refine lv_aload_n hx hb dX12_find_293 rfl (lv_at hl 0 rfl) ?_
              refine hw_get (v := .ref (ad 19)) hx hb hts hiX12 hown hK hP (Nat.lt_of_lt_of_le (by decide) hN) (bY_0 _) rfl 34 (by decide) (List.mem_of_getElem? (i := 6) rfl) rfl rfl dX12_find_294 ?_
              refine lv_bipush (v := 8) hx hb dX12_find_297 (by decide) ?_
              refine lv_iload hx hb dX12_find_299 (lv_at hl 4 rfl) ?_
              refine lv_imul hx hb dX12_find_301 ?_
              refine lv_iload hx hb dX12_find_302 (lv_at hl 7 rfl) ?_
              refine lv_iadd hx hb dX12_find_304 ?_
              obtain ⟨hi119, hw⟩ := hw
              refine hw_iald hx hb hK hP (Nat.lt_of_lt_of_le (by decide) hN) (bY_19 _) hi119 dX12_find_305 ?_
              obtain ⟨hi120, hw⟩ := hw
              refine hw_iast hx hb hK hJ0 hP hS (Nat.lt_of_lt_of_le (by decide) hN) (fun ρ => bY_14 ρ) hi120 dX12_find_306 (fun H locs hP hS => ?_)
              obtain ⟨x7_121, ex7_121⟩ : ∃ z : Int32, z = v7_97 + (1 : Int32) := ⟨_, rfl⟩
              have hw := hw x7_121 ex7_121
              refine lv_iinc (v := x7_121) (lv' := [(7, .int x7_121), (0, .ref (ad 0)), (1, .int a1), (2, .int a2), (3, .int a3), (4, .int v4_85), (5, .int v5_89), (6, .int x6_94)]) hx hb dX12_find_307 hl (k := 7) rfl (by rw [ex7_121]; rfl) (by decide) rfl (fun ls hl => ?_)
              refine lv_goto (tgt := 278) hx hb dX12_find_310 (by decide) ?_
              exact hw _ _ _ hP hS (lv_sub hl [1, 2, 3, 4, 5, 6, 7, 0] rfl)
            have hw := hw.2 c92
            refine lv_aload_n hx hb dX12_find_234 rfl (lv_at hl 0 rfl) ?_
            refine lv_iload_n hx hb dX12_find_235 rfl (lv_at hl 1 rfl) ?_
            refine lv_iload hx hb dX12_find_236 (lv_at hl 4 rfl) ?_
            refine lv_aload_n hx hb dX12_find_238 rfl (lv_at hl 0 rfl) ?_
            refine hw_get (v := .ref (ad 1)) hx hb hts hiX12 hown hK hP (Nat.lt_of_lt_of_le (by decide) hN) (bY_0 _) rfl 2 (by decide) (List.mem_of_getElem? (i := 7) rfl) rfl rfl dX12_find_239 ?_
            refine lv_iload_n hx hb dX12_find_242 rfl (lv_at hl 1 rfl) ?_
            obtain ⟨hi122, hw⟩ := hw
            refine hw_iald hx hb hK hP (Nat.lt_of_lt_of_le (by decide) hN) (bY_1 _) hi122 dX12_find_243 ?_
            refine lv_iconst (v := 0) hx hb dX12_find_244 (by decide) ?_
            refine hw_ki (va_runV (As := [.int a1, .int v4_85, .int (σ90 1 (a1).toNatClampNeg), .int (0 : Int32)]) (rest := []) ⟨hx, hb, hml, hown, hts⟩ (kc_X12_put l D cy N hN ad hJ0 w σ90 _ a1 v4_85 (σ90 1 (a1).toNatClampNeg) (0 : Int32) _ hw) (cwV 4 hts gX12_find_X12_put rfl rfl rfl (by decide +kernel) ⟨Nat.le_of_ble_eq_true rfl, Nat.le_of_ble_eq_true rfl⟩) (hw_preV hK hN1 hP (Nat.lt_of_lt_of_le (by decide) hN) (bY_0 _) rfl) rfl rfl hl.1 rfl (lv_room (Nat.le_of_ble_eq_true rfl)) dX12_find_245 ⟨Nat.zero_le _, Nat.zero_le _⟩) hS (fun r124 σ123 H locs hw hP hS => ?_)
            refine lv_pop hx hb dX12_find_248 rfl ?_
            obtain ⟨x4_125, ex4_125⟩ : ∃ z : Int32, z = v4_85 + (-1 : Int32) := ⟨_, rfl⟩
            have hw := hw x4_125 ex4_125
            refine lv_iinc (v := x4_125) (lv' := [(4, .int x4_125), (0, .ref (ad 0)), (1, .int a1), (2, .int a2), (3, .int a3), (5, .int v5_89)]) hx hb dX12_find_249 hl (k := 4) rfl (by rw [ex4_125]; rfl) (by decide) rfl (fun ls hl => ?_)
            refine lv_goto (tgt := 135) hx hb dX12_find_252 (by decide) ?_
            exact hw _ _ _ hP hS (lv_sub hl [1, 2, 3, 4, 0, 5] rfl)
          refine lv_if_eq (tgt := 223) hx hb dX12_find_142 (by decide) (fun c126 => ?_) (fun c126 => ?_)
          · have hw := hw.1 c126
            exact hJ223 _ _ _ _ _ hw hP hS (lv_sub hl [0, 1, 2, 3, 4, 5] rfl)
          have hw := hw.2 c126
          refine lv_aload_n hx hb dX12_find_145 rfl (lv_at hl 0 rfl) ?_
          refine hw_get (v := .int (σ87 0 37)) hx hb hts hiX12 hown hK hP (Nat.lt_of_lt_of_le (by decide) hN) (bY_0 _) rfl 37 (by decide) (List.mem_of_getElem? (i := 3) rfl) rfl rfl dX12_find_146 ?_
          refine lv_iload_n hx hb dX12_find_149 rfl (lv_at hl 3 rfl) ?_
          refine lv_icmp_ne (tgt := 155) hx hb dX12_find_150 (by decide) (fun c127 => ?_) (fun c127 => ?_)
          · have hw := hw.1 c127
            refine lv_aload_n hx hb dX12_find_155 rfl (lv_at hl 0 rfl) ?_
            refine lv_dup hx hb dX12_find_156 rfl ?_
            refine hw_get (v := .int (σ87 0 37)) hx hb hts hiX12 hown hK hP (Nat.lt_of_lt_of_le (by decide) hN) (bY_0 _) rfl 37 (by decide) (List.mem_of_getElem? (i := 3) rfl) rfl rfl dX12_find_157 ?_
            refine lv_iconst (v := 1) hx hb dX12_find_160 (by decide) ?_
            refine lv_iadd hx hb dX12_find_161 ?_
            refine hw_put (x := ((σ87 0 37) + (1 : Int32))) (j := 37) hx hb hts hiX12 tyX12 tyX12_ok nmX12 hown hK hJ0 hP hS (Nat.lt_of_lt_of_le (by decide) hN) (bY_0 _) rfl (by decide) (List.mem_of_getElem? (i := 3) rfl) rfl rfl rfl rfl (Nat.le_of_ble_eq_true rfl) (by rw [bY_0]; rfl) dX12_find_162 (fun H locs hP hS => ?_)
            refine lv_aload_n hx hb dX12_find_165 rfl (lv_at hl 0 rfl) ?_
            refine lv_iload_n hx hb dX12_find_166 rfl (lv_at hl 1 rfl) ?_
            refine lv_iload hx hb dX12_find_167 (lv_at hl 4 rfl) ?_
            refine lv_aload_n hx hb dX12_find_169 rfl (lv_at hl 0 rfl) ?_
            refine hw_get (v := .ref (ad 1)) hx hb hts hiX12 hown hK hP (Nat.lt_of_lt_of_le (by decide) hN) (bY_0 _) rfl 2 (by decide) (List.mem_of_getElem? (i := 7) rfl) rfl rfl dX12_find_170 ?_
            refine lv_iload_n hx hb dX12_find_173 rfl (lv_at hl 1 rfl) ?_
            obtain ⟨hi128, hw⟩ := hw
            refine hw_iald hx hb hK hP (Nat.lt_of_lt_of_le (by decide) hN) (bY_1 _) hi128 dX12_find_174 ?_
            refine lv_iconst (v := 1) hx hb dX12_find_175 (by decide) ?_
            refine hw_ki (va_runV (As := [.int a1, .int v4_85, .int ((hup σ87 0 37 ((σ87 0 37) + (1 : Int32))) 1 (a1).toNatClampNeg), .int (1 : Int32)]) (rest := []) ⟨hx, hb, hml, hown, hts⟩ (kc_X12_put l D cy N hN ad hJ0 w (hup σ87 0 37 ((σ87 0 37) + (1 : Int32))) _ a1 v4_85 ((hup σ87 0 37 ((σ87 0 37) + (1 : Int32))) 1 (a1).toNatClampNeg) (1 : Int32) _ hw) (cwV 4 hts gX12_find_X12_put rfl rfl rfl (by decide +kernel) ⟨Nat.le_of_ble_eq_true rfl, Nat.le_of_ble_eq_true rfl⟩) (hw_preV hK hN1 hP (Nat.lt_of_lt_of_le (by decide) hN) (bY_0 _) rfl) rfl rfl hl.1 rfl (lv_room (Nat.le_of_ble_eq_true rfl)) dX12_find_176 ⟨Nat.zero_le _, Nat.zero_le _⟩) hS (fun r130 σ129 H locs hw hP hS => ?_)
            refine lv_istore (lv' := [(6, .int r130), (0, .ref (ad 0)), (1, .int a1), (2, .int a2), (3, .int a3), (4, .int v4_85), (5, .int v5_86)]) hx hb dX12_find_179 hl (by decide) rfl (fun ls hl => ?_)
            refine lv_iload hx hb dX12_find_181 (lv_at hl 0 rfl) ?_
            refine lv_aload_n hx hb dX12_find_183 rfl (lv_at hl 1 rfl) ?_
            refine hw_get (v := .ref (ad 1)) hx hb hts hiX12 hown hK hP (Nat.lt_of_lt_of_le (by decide) hN) (bY_0 _) rfl 2 (by decide) (List.mem_of_getElem? (i := 7) rfl) rfl rfl dX12_find_184 ?_
            refine lv_iload_n hx hb dX12_find_187 rfl (lv_at hl 2 rfl) ?_
            obtain ⟨hi131, hw⟩ := hw
            refine hw_iald hx hb hK hP (Nat.lt_of_lt_of_le (by decide) hN) (bY_1 _) hi131 dX12_find_188 ?_
            refine lv_icmp_ge (tgt := 212) hx hb dX12_find_189 (by decide) (fun c132 => ?_) (fun c132 => ?_)
            · have hw := hw.1 c132
              refine lv_aload_n hx hb dX12_find_212 rfl (lv_at hl 1 rfl) ?_
              refine hw_get (v := .ref (ad 20)) hx hb hts hiX12 hown hK hP (Nat.lt_of_lt_of_le (by decide) hN) (bY_0 _) rfl 35 (by decide) (List.mem_of_getElem? (i := 8) rfl) rfl rfl dX12_find_213 ?_
              refine lv_iload hx hb dX12_find_216 (lv_at hl 5 rfl) ?_
              refine lv_iconst (v := 0) hx hb dX12_find_218 (by decide) ?_
              obtain ⟨hi133, hw⟩ := hw
              refine hw_iast hx hb hK hJ0 hP hS (Nat.lt_of_lt_of_le (by decide) hN) (fun ρ => bY_20 ρ) hi133 dX12_find_219 (fun H locs hP hS => ?_)
              refine lv_iconst (v := 0) hx hb dX12_find_220 (by decide) ?_
              refine lv_istore (lv' := [(5, .int (0 : Int32)), (6, .int r130), (0, .ref (ad 0)), (1, .int a1), (2, .int a2), (3, .int a3), (4, .int v4_85)]) hx hb dX12_find_221 hl (by decide) rfl (fun ls hl => ?_)
              exact hJ223 _ _ _ _ _ hw hP hS (lv_sub hl [2, 3, 4, 5, 6, 0] rfl)
            have hw := hw.2 c132
            refine lv_aload_n hx hb dX12_find_192 rfl (lv_at hl 1 rfl) ?_
            refine lv_iload_n hx hb dX12_find_193 rfl (lv_at hl 2 rfl) ?_
            refine lv_iload hx hb dX12_find_194 (lv_at hl 5 rfl) ?_
            refine lv_iload hx hb dX12_find_196 (lv_at hl 0 rfl) ?_
            refine lv_iconst (v := 0) hx hb dX12_find_198 (by decide) ?_
            refine hw_ki (va_runV (As := [.int a1, .int v4_85, .int r130, .int (0 : Int32)]) (rest := []) ⟨hx, hb, hml, hown, hts⟩ (kc_X12_put l D cy N hN ad hJ0 w σ129 _ a1 v4_85 r130 (0 : Int32) _ hw) (cwV 4 hts gX12_find_X12_put rfl rfl rfl (by decide +kernel) ⟨Nat.le_of_ble_eq_true rfl, Nat.le_of_ble_eq_true rfl⟩) (hw_preV hK hN1 hP (Nat.lt_of_lt_of_le (by decide) hN) (bY_0 _) rfl) rfl rfl hl.1 rfl (lv_room (Nat.le_of_ble_eq_true rfl)) dX12_find_199 ⟨Nat.zero_le _, Nat.zero_le _⟩) hS (fun r135 σ134 H locs hw hP hS => ?_)
            refine lv_pop hx hb dX12_find_202 rfl ?_
            obtain ⟨x4_136, ex4_136⟩ : ∃ z : Int32, z = v4_85 + (-1 : Int32) := ⟨_, rfl⟩
            have hw := hw x4_136 ex4_136
            refine lv_iinc (v := x4_136) (lv' := [(4, .int x4_136), (6, .int r130), (0, .ref (ad 0)), (1, .int a1), (2, .int a2), (3, .int a3), (5, .int v5_86)]) hx hb dX12_find_203 hl (k := 5) rfl (by rw [ex4_136]; rfl) (by decide) rfl (fun ls hl => ?_)
            refine lv_iconst (v := 0) hx hb dX12_find_206 (by decide) ?_
            refine lv_istore (lv' := [(5, .int (0 : Int32)), (4, .int x4_136), (6, .int r130), (0, .ref (ad 0)), (1, .int a1), (2, .int a2), (3, .int a3)]) hx hb dX12_find_207 hl (by decide) rfl (fun ls hl => ?_)
            refine lv_goto (tgt := 135) hx hb dX12_find_209 (by decide) ?_
            exact hw _ _ _ hP hS (lv_sub hl [3, 4, 5, 6, 1, 0] rfl)
          have hw := hw.2 c127
          refine lv_iconst (v := 2) hx hb dX12_find_153 (by decide) ?_
          exact hw_iret hx hb hr hlocks (σ87) hw hP hS dX12_find_154
        have hw := hw.2 c84
        refine lv_aload_n hx hb dX12_find_109 rfl (lv_at hl 0 rfl) ?_
        refine hw_get (v := .ref (ad 19)) hx hb hts hiX12 hown hK hP (Nat.lt_of_lt_of_le (by decide) hN) (bY_0 _) rfl 34 (by decide) (List.mem_of_getElem? (i := 6) rfl) rfl rfl dX12_find_110 ?_
        refine lv_iload hx hb dX12_find_113 (lv_at hl 4 rfl) ?_
        refine lv_aload_n hx hb dX12_find_115 rfl (lv_at hl 0 rfl) ?_
        refine hw_get (v := .ref (ad 14)) hx hb hts hiX12 hown hK hP (Nat.lt_of_lt_of_le (by decide) hN) (bY_0 _) rfl 24 (by decide) (List.mem_of_getElem? (i := 4) rfl) rfl rfl dX12_find_116 ?_
        refine lv_iload hx hb dX12_find_119 (lv_at hl 4 rfl) ?_
        obtain ⟨hi137, hw⟩ := hw
        refine hw_iald hx hb hK hP (Nat.lt_of_lt_of_le (by decide) hN) (bY_14 _) hi137 dX12_find_121 ?_
        obtain ⟨hi138, hw⟩ := hw
        refine hw_iast hx hb hK hJ0 hP hS (Nat.lt_of_lt_of_le (by decide) hN) (fun ρ => bY_19 ρ) hi138 dX12_find_122 (fun H locs hP hS => ?_)
        obtain ⟨x4_139, ex4_139⟩ : ∃ z : Int32, z = v4_82 + (1 : Int32) := ⟨_, rfl⟩
        have hw := hw x4_139 ex4_139
        refine lv_iinc (v := x4_139) (lv' := [(4, .int x4_139), (0, .ref (ad 0)), (1, .int a1), (2, .int a2), (3, .int a3)]) hx hb dX12_find_123 hl (k := 4) rfl (by rw [ex4_139]; rfl) (by decide) rfl (fun ls hl => ?_)
        refine lv_goto (tgt := 100) hx hb dX12_find_126 (by decide) ?_
        exact hw _ _ _ hP hS (lv_sub hl [1, 2, 3, 4, 0] rfl)
      have hw := hw.2 c80
      refine lv_aload_n hx hb dX12_find_70 rfl (lv_at hl 0 rfl) ?_
      refine hw_get (v := .ref (ad 21)) hx hb hts hiX12 hown hK hP (Nat.lt_of_lt_of_le (by decide) hN) (bY_0 _) rfl 36 (by decide) (List.mem_of_getElem? (i := 2) rfl) rfl rfl dX12_find_71 ?_
      refine lv_iload hx hb dX12_find_74 (lv_at hl 4 rfl) ?_
      refine lv_iconst (v := 0) hx hb dX12_find_76 (by decide) ?_
      obtain ⟨hi140, hw⟩ := hw
      refine hw_zast hx hb hK hJ0 hP hS (Nat.lt_of_lt_of_le (by decide) hN) (fun ρ => bY_21 ρ) hi140 dX12_find_77 (fun H locs hP hS => ?_)
      obtain ⟨x4_141, ex4_141⟩ : ∃ z : Int32, z = v4_78 + (1 : Int32) := ⟨_, rfl⟩
      have hw := hw x4_141 ex4_141
      refine lv_iinc (v := x4_141) (lv' := [(4, .int x4_141), (0, .ref (ad 0)), (1, .int a1), (2, .int a2), (3, .int a3)]) hx hb dX12_find_78 hl (k := 4) rfl (by rw [ex4_141]; rfl) (by decide) rfl (fun ls hl => ?_)
      refine lv_goto (tgt := 63) hx hb dX12_find_81 (by decide) ?_
      exact hw _ _ _ hP hS (lv_sub hl [1, 2, 3, 4, 0] rfl)
    have hw := hw.2 c77
    refine lv_iconst (v := 0) hx hb dX12_find_58 (by decide) ?_
    exact hw_iret hx hb hr hlocks (σ75) hw hP hS dX12_find_59
  obtain ⟨J25, ehJ25, hw⟩ := hM_x hw
  have hJ25 : ∀ (H : Heap) (locs : List Loc) (ls : Array Slot), J25 → va_P D vwCl (hC N ad (bY cy ad w) σ) H → va_S (hA N ad s.heap.size) s.heap H locs → lv_has ls 8 [(0, .ref (ad 0)), (1, .int a1), (2, .int a2), (3, .int a3)] → W p l e (headSpec wsX12_find ({ frames := 2, cells := 0, slots := 0, locals := 51 } : Room)).room s m ([Value.ref (ad 0), Value.int a1, Value.int a2, Value.int a3] : List Value).toArray below meth c H locs 0 0 (MQ below (va_Qi (fun (r : Int32) (u : hSt) => Q r u) (hE D (fun u : hSt => hC N ad (bY cy ad w) u)) (hA N ad s.heap.size)) ([Value.ref (ad 0), Value.int a1, Value.int a2, Value.int a3] : List Value).toArray s 0 0 (hA N ad s.heap.size)) (F0 m 25 ls [.ref (ad 0)]) := by
    intro H locs ls hw hP hS hl
    rw [ehJ25] at hw
    refine lv_iconst (v := 1) hx hb dX12_find_25 (by decide) ?_
    refine lv_goto (tgt := 30) hx hb dX12_find_26 (by decide) ?_
    exact hJ30 _ _ _ _ hw hP hS (lv_sub hl [0, 1, 2, 3] rfl)
  refine lv_icmp_lt (tgt := 25) hx hb dX12_find_3 (by decide) (fun c142 => ?_) (fun c142 => ?_)
  · have hw := hw.1 c142
    exact hJ25  _ _ _ hw hP hS (lv_sub hl [0, 1, 2, 3] rfl)
  have hw := hw.2 c142
  refine lv_iload_n hx hb dX12_find_6 rfl (lv_at hl 2 rfl) ?_
  refine lv_sipush (v := 200) hx hb dX12_find_7 (by decide) ?_
  refine lv_icmp_gt (tgt := 25) hx hb dX12_find_10 (by decide) (fun c143 => ?_) (fun c143 => ?_)
  · have hw := hw.1 c143
    exact hJ25  _ _ _ hw hP hS (lv_sub hl [0, 1, 2, 3] rfl)
  have hw := hw.2 c143
  refine lv_iload_n hx hb dX12_find_13 rfl (lv_at hl 3 rfl) ?_
  refine lv_iconst (v := 1) hx hb dX12_find_14 (by decide) ?_
  refine lv_icmp_lt (tgt := 25) hx hb dX12_find_15 (by decide) (fun c144 => ?_) (fun c144 => ?_)
  · have hw := hw.1 c144
    exact hJ25  _ _ _ hw hP hS (lv_sub hl [0, 1, 2, 3] rfl)
  have hw := hw.2 c144
  refine lv_iload_n hx hb dX12_find_18 rfl (lv_at hl 3 rfl) ?_
  refine lv_sipush (v := 3000) hx hb dX12_find_19 (by decide) ?_
  refine lv_icmp_le (tgt := 29) hx hb dX12_find_22 (by decide) (fun c145 => ?_) (fun c145 => ?_)
  · have hw := hw.1 c145
    refine lv_iconst (v := 0) hx hb dX12_find_29 (by decide) ?_
    exact hJ30 _ _ _ _ hw hP hS (lv_sub hl [0, 1, 2, 3] rfl)
  have hw := hw.2 c145
  exact hJ25  _ _ _ hw hP hS (lv_sub hl [0, 1, 2, 3] rfl)
set_option maxHeartbeats 4000000 in
set_option maxRecDepth 100000 in
theorem kc_X12_count (l : Launch) (D : va_G) (cy : Nat → ClassId) (N : Nat) (hN : 22 ≤ N) (ad : Nat → Nat) (hJ0 : hJ N ad) (w : Nat → Int64) (σ : hSt) (sz : Nat) (a1 : Int32) (Q : Int32 → hSt → Prop) (hw : wp_X12_count a1 σ w Q) : Met l yX12_count wsX12_count ({ frames := 0, cells := 0, slots := 0, locals := 0 } : Room) (va_Pc [.ref (ad 0), .int a1] (hB D cy (hC N ad (bY cy ad w) σ) sz)) (va_Qi (fun (r : Int32) (u : hSt) => Q r u) (hE D (fun u : hSt => hC N ad (bY cy ad w) u)) (hA N ad sz)) 0 0 (hA N ad sz) := by
  refine Met.ofW (cc := cX12_count) (maxL := 4) (ret := (some .int)) (by decide) rfl ?_
  intro p e s m args below meth c s₁ B hml hv
  obtain ⟨rfl, hsz, hP, hK, hN1⟩ := hv
  have hx := B.exec
  have hb := B.bytes
  have hr := B.returns
  have hts := atoms_spec (ws := wsX12_count) B.pre
  have hown : s.vm.findClass RX12 = some m.cls := findClass_of_methodNamed B.named
  have hlocks := B.notSynchronized
  subst hsz
  have hS : va_S (hA N ad s.heap.size) s.heap s.heap [] := va_S.rf
  have hiX12 : ∀ w ∈ wsX120, w ∈ wsX12_count := fun _ h => List.mem_cons_of_mem _ (List.mem_append_right _ h)
  have hl := lv_entry ([.ref (ad 0), .int a1]) (n := 4) (Nat.le_of_ble_eq_true rfl)
  rw [lg_entry_eq]
  generalize (lg_sl ([.ref (ad 0), .int a1]) ++ List.replicate (4 - (lg_sl ([.ref (ad 0), .int a1])).length) Slot.unset).toArray = ls at hl ⊢
  have hl : lv_has ls 4 [(0, .ref (ad 0)), (1, .int a1)] := hl
  unfold wp_X12_count at hw
  refine lv_aload_n hx hb dX12_count_0 rfl (lv_at hl 0 rfl) ?_
  refine lv_iconst (v := 0) hx hb dX12_count_1 (by decide) ?_
  refine hw_put (x := (0 : Int32)) (j := 0) hx hb hts hiX12 tyX12 tyX12_ok nmX12 hown hK hJ0 hP hS (Nat.lt_of_lt_of_le (by decide) hN) (bY_0 _) rfl (by decide) (List.mem_of_getElem? (i := 1) rfl) rfl rfl rfl rfl (Nat.le_of_ble_eq_true rfl) (by rw [bY_0]; rfl) dX12_count_2 (fun H locs hP hS => ?_)
  refine lv_iload_n hx hb dX12_count_5 rfl (lv_at hl 1 rfl) ?_
  refine lv_iconst (v := 1) hx hb dX12_count_6 (by decide) ?_
  refine lv_icmp_ne (tgt := 45) hx hb dX12_count_7 (by decide) (fun c1 => ?_) (fun c1 => ?_)
  · have hw := hw.1 c1
    refine lv_iload_n hx hb dX12_count_45 rfl (lv_at hl 1 rfl) ?_
    refine lv_if_ne (tgt := 56) hx hb dX12_count_46 (by decide) (fun c2 => ?_) (fun c2 => ?_)
    · have hw := hw.1 c2
      refine lv_iload_n hx hb dX12_count_56 rfl (lv_at hl 1 rfl) ?_
      refine lv_iconst (v := 2) hx hb dX12_count_57 (by decide) ?_
      refine lv_icmp_ne (tgt := 68) hx hb dX12_count_58 (by decide) (fun c3 => ?_) (fun c3 => ?_)
      · have hw := hw.1 c3
        refine lv_iload_n hx hb dX12_count_68 rfl (lv_at hl 1 rfl) ?_
        refine lv_iconst (v := 3) hx hb dX12_count_69 (by decide) ?_
        refine lv_icmp_ne (tgt := 80) hx hb dX12_count_70 (by decide) (fun c4 => ?_) (fun c4 => ?_)
        · have hw := hw.1 c4
          refine lv_iconst (v := -1) hx hb dX12_count_80 (by decide) ?_
          exact hw_iret hx hb hr hlocks ((hup σ 0 0 (0 : Int32))) hw hP hS dX12_count_81
        have hw := hw.2 c4
        refine lv_aload_n hx hb dX12_count_73 rfl (lv_at hl 0 rfl) ?_
        refine hw_get (v := .int ((hup σ 0 0 (0 : Int32)) 0 37)) hx hb hts hiX12 hown hK hP (Nat.lt_of_lt_of_le (by decide) hN) (bY_0 _) rfl 37 (by decide) (List.mem_of_getElem? (i := 5) rfl) rfl rfl dX12_count_74 ?_
        refine lv_goto (tgt := 81) hx hb dX12_count_77 (by decide) ?_
        exact hw_iret hx hb hr hlocks ((hup σ 0 0 (0 : Int32))) hw hP hS dX12_count_81
      have hw := hw.2 c3
      refine lv_aload_n hx hb dX12_count_61 rfl (lv_at hl 0 rfl) ?_
      refine hw_get (v := .int ((hup σ 0 0 (0 : Int32)) 0 8)) hx hb hts hiX12 hown hK hP (Nat.lt_of_lt_of_le (by decide) hN) (bY_0 _) rfl 8 (by decide) (List.mem_of_getElem? (i := 4) rfl) rfl rfl dX12_count_62 ?_
      refine lv_goto (tgt := 81) hx hb dX12_count_65 (by decide) ?_
      exact hw_iret hx hb hr hlocks ((hup σ 0 0 (0 : Int32))) hw hP hS dX12_count_81
    have hw := hw.2 c2
    refine lv_aload_n hx hb dX12_count_49 rfl (lv_at hl 0 rfl) ?_
    refine hw_get (v := .int ((hup σ 0 0 (0 : Int32)) 0 1)) hx hb hts hiX12 hown hK hP (Nat.lt_of_lt_of_le (by decide) hN) (bY_0 _) rfl 1 (by decide) (List.mem_of_getElem? (i := 3) rfl) rfl rfl dX12_count_50 ?_
    refine lv_goto (tgt := 81) hx hb dX12_count_53 (by decide) ?_
    exact hw_iret hx hb hr hlocks ((hup σ 0 0 (0 : Int32))) hw hP hS dX12_count_81
  have hw := hw.2 c1
  refine lv_iconst (v := 0) hx hb dX12_count_10 (by decide) ?_
  refine lv_istore_n (lv' := [(2, .int (0 : Int32)), (0, .ref (ad 0)), (1, .int a1)]) hx hb dX12_count_11 rfl hl (by decide) rfl (fun ls hl => ?_)
  refine lv_iconst (v := 0) hx hb dX12_count_12 (by decide) ?_
  refine lv_istore_n (lv' := [(3, .int (0 : Int32)), (2, .int (0 : Int32)), (0, .ref (ad 0)), (1, .int a1)]) hx hb dX12_count_13 rfl hl (by decide) rfl (fun ls hl => ?_)
  refine hw (fun (v2_5 : Int32) (v3_6 : Int32) => ∀ (H : Heap) (locs : List Loc) (ls : Array Slot), va_P D vwCl (hC N ad (bY cy ad w) (hup σ 0 0 (0 : Int32))) H → va_S (hA N ad s.heap.size) s.heap H locs → lv_has ls 4 [(0, .ref (ad 0)), (2, .int v2_5), (3, .int v3_6)] → W p l e (headSpec wsX12_count ({ frames := 0, cells := 0, slots := 0, locals := 0 } : Room)).room s m ([Value.ref (ad 0), Value.int a1] : List Value).toArray below meth c H locs 0 0 (MQ below (va_Qi (fun (r : Int32) (u : hSt) => Q r u) (hE D (fun u : hSt => hC N ad (bY cy ad w) u)) (hA N ad s.heap.size)) ([Value.ref (ad 0), Value.int a1] : List Value).toArray s 0 0 (hA N ad s.heap.size)) (F0 m 14 ls [])) (fun v2_5 v3_6 hw H locs ls hP hS hl => ?_) _ _ _ hP hS (lv_sub hl [2, 1, 0] rfl)
  refine lv_iload_n hx hb dX12_count_14 rfl (lv_at hl 2 rfl) ?_
  refine lv_bipush (v := 6) hx hb dX12_count_15 (by decide) ?_
  refine lv_icmp_ge (tgt := 43) hx hb dX12_count_17 (by decide) (fun c7 => ?_) (fun c7 => ?_)
  · have hw := hw.1 c7
    refine lv_iload_n hx hb dX12_count_43 rfl (lv_at hl 1 rfl) ?_
    exact hw_iret hx hb hr hlocks ((hup σ 0 0 (0 : Int32))) hw hP hS dX12_count_44
  have hw := hw.2 c7
  refine lv_iload_n hx hb dX12_count_20 rfl (lv_at hl 1 rfl) ?_
  refine lv_aload_n hx hb dX12_count_21 rfl (lv_at hl 0 rfl) ?_
  refine hw_get (v := .ref (ad 1)) hx hb hts hiX12 hown hK hP (Nat.lt_of_lt_of_le (by decide) hN) (bY_0 _) rfl 2 (by decide) (List.mem_of_getElem? (i := 2) rfl) rfl rfl dX12_count_22 ?_
  refine lv_iload_n hx hb dX12_count_25 rfl (lv_at hl 2 rfl) ?_
  obtain ⟨hi8, hw⟩ := hw
  refine hw_iald hx hb hK hP (Nat.lt_of_lt_of_le (by decide) hN) (bY_1 _) hi8 dX12_count_26 ?_
  refine lv_if_le (tgt := 34) hx hb dX12_count_27 (by decide) (fun c9 => ?_) (fun c9 => ?_)
  · have hw := hw.1 c9
    refine lv_iconst (v := 0) hx hb dX12_count_34 (by decide) ?_
    refine lv_iadd hx hb dX12_count_35 ?_
    refine lv_topi (fun x2_10 ex2_10 => ?_)
    have hw := hw x2_10 ex2_10
    refine lv_istore_n (lv' := [(2, .int x2_10), (0, .ref (ad 0)), (3, .int v3_6)]) hx hb dX12_count_36 rfl hl (by decide) rfl (fun ls hl => ?_)
    obtain ⟨x3_11, ex3_11⟩ : ∃ z : Int32, z = v3_6 + (1 : Int32) := ⟨_, rfl⟩
    have hw := hw x3_11 ex3_11
    refine lv_iinc (v := x3_11) (lv' := [(3, .int x3_11), (2, .int x2_10), (0, .ref (ad 0))]) hx hb dX12_count_37 hl (k := 2) rfl (by rw [ex3_11]; rfl) (by decide) rfl (fun ls hl => ?_)
    refine lv_goto (tgt := 14) hx hb dX12_count_40 (by decide) ?_
    exact hw _ _ _ hP hS (lv_sub hl [2, 1, 0] rfl)
  have hw := hw.2 c9
  refine lv_iconst (v := 1) hx hb dX12_count_30 (by decide) ?_
  refine lv_goto (tgt := 35) hx hb dX12_count_31 (by decide) ?_
  refine lv_iadd hx hb dX12_count_35 ?_
  refine lv_topi (fun x2_12 ex2_12 => ?_)
  have hw := hw x2_12 ex2_12
  refine lv_istore_n (lv' := [(2, .int x2_12), (0, .ref (ad 0)), (3, .int v3_6)]) hx hb dX12_count_36 rfl hl (by decide) rfl (fun ls hl => ?_)
  obtain ⟨x3_13, ex3_13⟩ : ∃ z : Int32, z = v3_6 + (1 : Int32) := ⟨_, rfl⟩
  have hw := hw x3_13 ex3_13
  refine lv_iinc (v := x3_13) (lv' := [(3, .int x3_13), (2, .int x2_12), (0, .ref (ad 0))]) hx hb dX12_count_37 hl (k := 2) rfl (by rw [ex3_13]; rfl) (by decide) rfl (fun ls hl => ?_)
  refine lv_goto (tgt := 14) hx hb dX12_count_40 (by decide) ?_
  exact hw _ _ _ hP hS (lv_sub hl [2, 1, 0] rfl)

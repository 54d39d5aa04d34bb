set_option maxHeartbeats 4000000 in
set_option maxRecDepth 100000 in
theorem kc_X12_touch (l : Launch) (D : va_G) (cy : Nat → ClassId) (N : Nat) (hN : 22 ≤ N) (ad : Nat → Nat) (hJ0 : hJ N ad) (w : Nat → Int64) (σ : hSt) (sz : Nat) (a1 : Int32) (Q : Int32 → hSt → (Nat → Int64) → Prop) (hw : wp_X12_touch a1 σ w Q) : Met l yX12_touch wsX12_touch ({ frames := 2, cells := 0, slots := 0, locals := 52 } : Room) (va_Pc [.ref (ad 0), .int a1] (hB D cy (hC N ad (bY cy ad w) σ) sz)) (va_Qi (fun (r : Int32) (u : hSt × (Nat → Int64)) => Q r u.1 u.2) (hE D (fun u : hSt × (Nat → Int64) => hC N ad (bY cy ad u.2) u.1)) (hA N ad sz)) 0 0 (hA N ad sz) := by
  refine Met.ofW (cc := cX12_touch) (maxL := 4) (ret := (some .int)) (by decide) rfl ?_
  intro p e s m args below meth c s₁ B hml hv
  obtain ⟨rfl, hsz, hP, hK, hN1⟩ := hv
  have hx := B.exec
  have hb := B.bytes
  have hr := B.returns
  have hts := atoms_spec (ws := wsX12_touch) B.pre
  have hown : s.vm.findClass RX12 = some m.cls := findClass_of_methodNamed B.named
  have hlocks := B.notSynchronized
  subst hsz
  have hS : va_S (hA N ad s.heap.size) s.heap s.heap [] := va_S.rf
  have hiX12 : ∀ w ∈ wsX120, w ∈ wsX12_touch := fun _ h => List.mem_cons_of_mem _ (List.mem_append_right _ h)
  have hl := lv_entry ([.ref (ad 0), .int a1]) (n := 4) (Nat.le_of_ble_eq_true rfl)
  rw [lg_entry_eq]
  generalize (lg_sl ([.ref (ad 0), .int a1]) ++ List.replicate (4 - (lg_sl ([.ref (ad 0), .int a1])).length) Slot.unset).toArray = ls at hl ⊢
  have hl : lv_has ls 4 [(0, .ref (ad 0)), (1, .int a1)] := hl
  unfold wp_X12_touch at hw
  refine lv_aload_n hx hb dX12_touch_0 rfl (lv_at hl 0 rfl) ?_
  refine lv_iconst (v := 0) hx hb dX12_touch_1 (by decide) ?_
  refine hw_put (x := (0 : Int32)) (j := 0) hx hb hts hiX12 tyX12 tyX12_ok nmX12 hown hK hJ0 hP hS (Nat.lt_of_lt_of_le (by decide) hN) (bY_0 _) rfl (by decide) (List.mem_of_getElem? (i := 1) rfl) rfl rfl rfl rfl (Nat.le_of_ble_eq_true rfl) (by rw [bY_0]; rfl) dX12_touch_2 (fun H locs hP hS => ?_)
  refine lv_iload_n hx hb dX12_touch_5 rfl (lv_at hl 1 rfl) ?_
  refine lv_if_lt (tgt := 15) hx hb dX12_touch_6 (by decide) (fun c1 => ?_) (fun c1 => ?_)
  · have hw := hw.1 c1
    refine lv_iconst (v := -1) hx hb dX12_touch_15 (by decide) ?_
    exact hw_iret hx hb hr hlocks ((hup σ 0 0 (0 : Int32)), w) hw hP hS dX12_touch_16
  have hw := hw.2 c1
  refine lv_iload_n hx hb dX12_touch_9 rfl (lv_at hl 1 rfl) ?_
  refine lv_bipush (v := 10) hx hb dX12_touch_10 (by decide) ?_
  refine lv_icmp_le (tgt := 17) hx hb dX12_touch_12 (by decide) (fun c2 => ?_) (fun c2 => ?_)
  · have hw := hw.1 c2
    refine lv_iload_n hx hb dX12_touch_17 rfl (lv_at hl 1 rfl) ?_
    refine lv_if_ne (tgt := 26) hx hb dX12_touch_18 (by decide) (fun c3 => ?_) (fun c3 => ?_)
    · have hw := hw.1 c3
      refine lv_iload_n hx hb dX12_touch_26 rfl (lv_at hl 1 rfl) ?_
      refine lv_bipush (v := 7) hx hb dX12_touch_27 (by decide) ?_
      refine lv_icmp_le (tgt := 108) hx hb dX12_touch_29 (by decide) (fun c4 => ?_) (fun c4 => ?_)
      · have hw := hw.1 c4
        refine lv_aload_n hx hb dX12_touch_108 rfl (lv_at hl 0 rfl) ?_
        refine lv_iconst (v := 1) hx hb dX12_touch_109 (by decide) ?_
        refine lv_iconst (v := -1) hx hb dX12_touch_110 (by decide) ?_
        refine hw_kv (va_runV (As := [.int (1 : Int32), .int (-1 : Int32)]) (rest := []) ⟨hx, hb, hml, hown, hts⟩ (kc_X12_ringAll l D cy N hN ad hJ0 w (hup σ 0 0 (0 : Int32)) _ (1 : Int32) (-1 : Int32) _ hw) (cwV 2 hts gX12_touch_X12_ringAll rfl rfl rfl (by decide +kernel) ⟨Nat.le_of_ble_eq_true rfl, Nat.le_of_ble_eq_true rfl⟩) (hw_preV hK hN1 hP (Nat.lt_of_lt_of_le (by decide) hN) (bY_0 _) rfl) rfl rfl hl.1 rfl (lv_room (Nat.le_of_ble_eq_true rfl)) dX12_touch_111 ⟨Nat.zero_le _, Nat.zero_le _⟩) hS (fun σ5 H locs hw hP hS => ?_)
        refine lv_iload_n hx hb dX12_touch_114 rfl (lv_at hl 1 rfl) ?_
        refine lv_topi (fun x6 ex6 => ?_)
        have hw := hw x6 ex6
        by_cases c7 : x6 = (1 : Int32)
        · have hw := hw.1 c7
          refine lv_tableIn (tgt := 152) hx hb dX12_touch_115 (by rw [c7]; decide) (by rw [c7]; decide) (by rw [c7]; rfl) (by decide) ?_
          refine lv_aload_n hx hb dX12_touch_152 rfl (lv_at hl 0 rfl) ?_
          refine hw_get (v := .int (σ5 0 29)) hx hb hts hiX12 hown hK hP (Nat.lt_of_lt_of_le (by decide) hN) (bY_0 _) rfl 29 (by decide) (List.mem_of_getElem? (i := 5) rfl) rfl rfl dX12_touch_153 ?_
          exact hw_iret hx hb hr hlocks (σ5, w) hw hP hS dX12_touch_156
        have hw := hw.2 c7
        by_cases c8 : x6 = (2 : Int32)
        · have hw := hw.1 c8
          refine lv_tableIn (tgt := 157) hx hb dX12_touch_115 (by rw [c8]; decide) (by rw [c8]; decide) (by rw [c8]; rfl) (by decide) ?_
          refine lv_aload_n hx hb dX12_touch_157 rfl (lv_at hl 0 rfl) ?_
          refine hw_get (v := .int (σ5 0 30)) hx hb hts hiX12 hown hK hP (Nat.lt_of_lt_of_le (by decide) hN) (bY_0 _) rfl 30 (by decide) (List.mem_of_getElem? (i := 6) rfl) rfl rfl dX12_touch_158 ?_
          refine lv_if_ge (tgt := 168) hx hb dX12_touch_161 (by decide) (fun c9 => ?_) (fun c9 => ?_)
          · have hw := hw.1 c9
            refine lv_iconst (v := 0) hx hb dX12_touch_168 (by decide) ?_
            exact hw_iret hx hb hr hlocks (σ5, w) hw hP hS dX12_touch_169
          have hw := hw.2 c9
          refine lv_iconst (v := 1) hx hb dX12_touch_164 (by decide) ?_
          refine lv_goto (tgt := 169) hx hb dX12_touch_165 (by decide) ?_
          exact hw_iret hx hb hr hlocks (σ5, w) hw hP hS dX12_touch_169
        have hw := hw.2 c8
        by_cases c10 : x6 = (3 : Int32)
        · have hw := hw.1 c10
          refine lv_tableIn (tgt := 170) hx hb dX12_touch_115 (by rw [c10]; decide) (by rw [c10]; decide) (by rw [c10]; rfl) (by decide) ?_
          refine lv_aload_n hx hb dX12_touch_170 rfl (lv_at hl 0 rfl) ?_
          refine hw_get (v := .int (σ5 0 30)) hx hb hts hiX12 hown hK hP (Nat.lt_of_lt_of_le (by decide) hN) (bY_0 _) rfl 30 (by decide) (List.mem_of_getElem? (i := 6) rfl) rfl rfl dX12_touch_171 ?_
          exact hw_iret hx hb hr hlocks (σ5, w) hw hP hS dX12_touch_174
        have hw := hw.2 c10
        by_cases c11 : x6 = (4 : Int32)
        · have hw := hw.1 c11
          refine lv_tableIn (tgt := 175) hx hb dX12_touch_115 (by rw [c11]; decide) (by rw [c11]; decide) (by rw [c11]; rfl) (by decide) ?_
          refine lv_aload_n hx hb dX12_touch_175 rfl (lv_at hl 0 rfl) ?_
          refine hw_get (v := .int (σ5 0 31)) hx hb hts hiX12 hown hK hP (Nat.lt_of_lt_of_le (by decide) hN) (bY_0 _) rfl 31 (by decide) (List.mem_of_getElem? (i := 7) rfl) rfl rfl dX12_touch_176 ?_
          exact hw_iret hx hb hr hlocks (σ5, w) hw hP hS dX12_touch_179
        have hw := hw.2 c11
        by_cases c12 : x6 = (5 : Int32)
        · have hw := hw.1 c12
          refine lv_tableIn (tgt := 180) hx hb dX12_touch_115 (by rw [c12]; decide) (by rw [c12]; decide) (by rw [c12]; rfl) (by decide) ?_
          refine lv_aload_n hx hb dX12_touch_180 rfl (lv_at hl 0 rfl) ?_
          refine lv_aload_n hx hb dX12_touch_181 rfl (lv_at hl 0 rfl) ?_
          refine hw_get (v := .ref (ad 14)) hx hb hts hiX12 hown hK hP (Nat.lt_of_lt_of_le (by decide) hN) (bY_0 _) rfl 24 (by decide) (List.mem_of_getElem? (i := 8) rfl) rfl rfl dX12_touch_182 ?_
          refine hw_ki (va_runV (As := [.ref (ad 14)]) (rest := []) ⟨hx, hb, hml, hown, hts⟩ (kc_X12_number l D cy N hN ad hJ0 w σ5 _ 14 h8_14 _ hw) (cwV 1 hts gX12_touch_X12_number rfl rfl rfl (by decide +kernel) ⟨Nat.le_of_ble_eq_true rfl, Nat.le_of_ble_eq_true rfl⟩) (hw_preV hK hN1 hP (Nat.lt_of_lt_of_le (by decide) hN) (bY_0 _) rfl) rfl rfl hl.1 rfl (lv_room (Nat.le_of_ble_eq_true rfl)) dX12_touch_185 ⟨Nat.zero_le _, Nat.zero_le _⟩) hS (fun r14 σ13 H locs hw hP hS => ?_)
          obtain ⟨hu_, hw⟩ := hw
          rw [hu_] at hP
          exact hw_iret hx hb hr hlocks (σ5, w) hw hP hS dX12_touch_188
        have hw := hw.2 c12
        by_cases c15 : x6 = (6 : Int32)
        · have hw := hw.1 c15
          refine lv_tableIn (tgt := 189) hx hb dX12_touch_115 (by rw [c15]; decide) (by rw [c15]; decide) (by rw [c15]; rfl) (by decide) ?_
          refine lv_aload_n hx hb dX12_touch_189 rfl (lv_at hl 0 rfl) ?_
          refine lv_aload_n hx hb dX12_touch_190 rfl (lv_at hl 0 rfl) ?_
          refine hw_get (v := .ref (ad 14)) hx hb hts hiX12 hown hK hP (Nat.lt_of_lt_of_le (by decide) hN) (bY_0 _) rfl 24 (by decide) (List.mem_of_getElem? (i := 8) rfl) rfl rfl dX12_touch_191 ?_
          refine hw_ki (va_runV (As := [.ref (ad 14)]) (rest := []) ⟨hx, hb, hml, hown, hts⟩ (kc_X12_isRounds l D cy N hN ad hJ0 w σ5 _ 14 h8_14 _ hw) (cwV 1 hts gX12_touch_X12_isRounds rfl rfl rfl (by decide +kernel) ⟨Nat.le_of_ble_eq_true rfl, Nat.le_of_ble_eq_true rfl⟩) (hw_preV hK hN1 hP (Nat.lt_of_lt_of_le (by decide) hN) (bY_0 _) rfl) rfl rfl hl.1 rfl (lv_room (Nat.le_of_ble_eq_true rfl)) dX12_touch_194 ⟨Nat.zero_le _, Nat.zero_le _⟩) hS (fun r17 σ16 H locs hw hP hS => ?_)
          obtain ⟨hu_, hw⟩ := hw
          rw [hu_] at hP
          refine lv_if_eq (tgt := 204) hx hb dX12_touch_197 (by decide) (fun c18 => ?_) (fun c18 => ?_)
          · have hw := hw.1 c18
            refine lv_iconst (v := 0) hx hb dX12_touch_204 (by decide) ?_
            exact hw_iret hx hb hr hlocks (σ5, w) hw hP hS dX12_touch_205
          have hw := hw.2 c18
          refine lv_iconst (v := 1) hx hb dX12_touch_200 (by decide) ?_
          refine lv_goto (tgt := 205) hx hb dX12_touch_201 (by decide) ?_
          exact hw_iret hx hb hr hlocks (σ5, w) hw hP hS dX12_touch_205
        have hw := hw.2 c15
        refine lv_tableOut (tgt := 206) hx hb dX12_touch_115 (hsw_out (by decide) (by intro z h1 h2; rcases (show z = 1 ∨ z = 2 ∨ z = 3 ∨ z = 4 ∨ z = 5 ∨ z = 6 by omega) with rfl | rfl | rfl | rfl | rfl | rfl <;> first | exact c7 | exact c8 | exact c10 | exact c11 | exact c12 | exact c15) ) (by decide) ?_
        refine lv_aload_n hx hb dX12_touch_206 rfl (lv_at hl 0 rfl) ?_
        refine hw_ki (va_runV (As := []) (rest := []) ⟨hx, hb, hml, hown, hts⟩ (kc_X12_order l D cy N hN ad hJ0 w σ5 _  _ hw) (cwV 0 hts gX12_touch_X12_order rfl rfl rfl (by decide +kernel) ⟨Nat.le_of_ble_eq_true rfl, Nat.le_of_ble_eq_true rfl⟩) (hw_preV hK hN1 hP (Nat.lt_of_lt_of_le (by decide) hN) (bY_0 _) rfl) rfl rfl hl.1 rfl (lv_room (Nat.le_of_ble_eq_true rfl)) dX12_touch_207 ⟨Nat.zero_le _, Nat.zero_le _⟩) hS (fun r20 u_ H locs hw hP hS => ?_)
        obtain ⟨σ19, w21⟩ := u_
        exact hw_iret hx hb hr hlocks (σ19, w21) hw hP hS dX12_touch_210
      have hw := hw.2 c4
      refine lv_iconst (v := 0) hx hb dX12_touch_32 (by decide) ?_
      refine lv_istore_n (lv' := [(2, .int (0 : Int32)), (0, .ref (ad 0)), (1, .int a1)]) hx hb dX12_touch_33 rfl hl (by decide) rfl (fun ls hl => ?_)
      refine lv_iconst (v := 0) hx hb dX12_touch_34 (by decide) ?_
      refine lv_istore_n (lv' := [(3, .int (0 : Int32)), (2, .int (0 : Int32)), (0, .ref (ad 0)), (1, .int a1)]) hx hb dX12_touch_35 rfl hl (by decide) rfl (fun ls hl => ?_)
      refine hw (fun (v2_22 : Int32) (v3_23 : Int32) => ∀ (H : Heap) (locs : List Loc) (ls : Array Slot), va_P D vwCl (hC N ad (bY cy ad w) (hup σ 0 0 (0 : Int32))) H → va_S (hA N ad s.heap.size) s.heap H locs → lv_has ls 4 [(0, .ref (ad 0)), (1, .int a1), (2, .int v2_22), (3, .int v3_23)] → W p l e (headSpec wsX12_touch ({ frames := 2, cells := 0, slots := 0, locals := 52 } : Room)).room s m ([Value.ref (ad 0), Value.int a1] : List Value).toArray below meth c H locs 0 0 (MQ below (va_Qi (fun (r : Int32) (u : hSt × (Nat → Int64)) => Q r u.1 u.2) (hE D (fun u : hSt × (Nat → Int64) => hC N ad (bY cy ad u.2) u.1)) (hA N ad s.heap.size)) ([Value.ref (ad 0), Value.int a1] : List Value).toArray s 0 0 (hA N ad s.heap.size)) (F0 m 36 ls [])) (fun v2_22 v3_23 hw H locs ls hP hS hl => ?_) _ _ _ hP hS (lv_sub hl [2, 3, 1, 0] rfl)
      refine lv_iload_n hx hb dX12_touch_36 rfl (lv_at hl 3 rfl) ?_
      refine lv_aload_n hx hb dX12_touch_37 rfl (lv_at hl 0 rfl) ?_
      refine hw_get (v := .int ((hup σ 0 0 (0 : Int32)) 0 6)) hx hb hts hiX12 hown hK hP (Nat.lt_of_lt_of_le (by decide) hN) (bY_0 _) rfl 6 (by decide) (List.mem_of_getElem? (i := 2) rfl) rfl rfl dX12_touch_38 ?_
      refine lv_icmp_ge (tgt := 106) hx hb dX12_touch_41 (by decide) (fun c24 => ?_) (fun c24 => ?_)
      · have hw := hw.1 c24
        refine lv_iload_n hx hb dX12_touch_106 rfl (lv_at hl 2 rfl) ?_
        exact hw_iret hx hb hr hlocks ((hup σ 0 0 (0 : Int32)), w) hw hP hS dX12_touch_107
      have hw := hw.2 c24
      refine lv_iload_n hx hb dX12_touch_44 rfl (lv_at hl 2 rfl) ?_
      refine lv_iload_n hx hb dX12_touch_45 rfl (lv_at hl 1 rfl) ?_
      refine lv_bipush (v := 10) hx hb dX12_touch_46 (by decide) ?_
      refine lv_icmp_ge (tgt := 72) hx hb dX12_touch_48 (by decide) (fun c25 => ?_) (fun c25 => ?_)
      · have hw := hw.1 c25
        refine lv_iload_n hx hb dX12_touch_72 rfl (lv_at hl 3 rfl) ?_
        refine lv_if_le (tgt := 97) hx hb dX12_touch_73 (by decide) (fun c26 => ?_) (fun c26 => ?_)
        · have hw := hw.1 c26
          refine lv_iconst (v := 0) hx hb dX12_touch_97 (by decide) ?_
          refine lv_iadd hx hb dX12_touch_98 ?_
          refine lv_topi (fun x2_27 ex2_27 => ?_)
          have hw := hw x2_27 ex2_27
          refine lv_istore_n (lv' := [(2, .int x2_27), (0, .ref (ad 0)), (1, .int a1), (3, .int v3_23)]) hx hb dX12_touch_99 rfl hl (by decide) rfl (fun ls hl => ?_)
          obtain ⟨x3_28, ex3_28⟩ : ∃ z : Int32, z = v3_23 + (1 : Int32) := ⟨_, rfl⟩
          have hw := hw x3_28 ex3_28
          refine lv_iinc (v := x3_28) (lv' := [(3, .int x3_28), (2, .int x2_27), (0, .ref (ad 0)), (1, .int a1)]) hx hb dX12_touch_100 hl (k := 3) rfl (by rw [ex3_28]; rfl) (by decide) rfl (fun ls hl => ?_)
          refine lv_goto (tgt := 36) hx hb dX12_touch_103 (by decide) ?_
          exact hw _ _ _ hP hS (lv_sub hl [2, 3, 1, 0] rfl)
        have hw := hw.2 c26
        refine lv_aload_n hx hb dX12_touch_76 rfl (lv_at hl 0 rfl) ?_
        refine hw_get (v := .ref (ad 3)) hx hb hts hiX12 hown hK hP (Nat.lt_of_lt_of_le (by decide) hN) (bY_0 _) rfl 4 (by decide) (List.mem_of_getElem? (i := 4) rfl) rfl rfl dX12_touch_77 ?_
        refine lv_iload_n hx hb dX12_touch_80 rfl (lv_at hl 3 rfl) ?_
        obtain ⟨hi29, hw⟩ := hw
        refine hw_iald hx hb hK hP (Nat.lt_of_lt_of_le (by decide) hN) (bY_3 _) hi29 dX12_touch_81 ?_
        refine lv_aload_n hx hb dX12_touch_82 rfl (lv_at hl 0 rfl) ?_
        refine hw_get (v := .ref (ad 3)) hx hb hts hiX12 hown hK hP (Nat.lt_of_lt_of_le (by decide) hN) (bY_0 _) rfl 4 (by decide) (List.mem_of_getElem? (i := 4) rfl) rfl rfl dX12_touch_83 ?_
        refine lv_iload_n hx hb dX12_touch_86 rfl (lv_at hl 3 rfl) ?_
        refine lv_iconst (v := 1) hx hb dX12_touch_87 (by decide) ?_
        refine lv_isub hx hb dX12_touch_88 ?_
        obtain ⟨hi30, hw⟩ := hw
        refine hw_iald hx hb hK hP (Nat.lt_of_lt_of_le (by decide) hN) (bY_3 _) hi30 dX12_touch_89 ?_
        refine lv_icmp_eq (tgt := 97) hx hb dX12_touch_90 (by decide) (fun c31 => ?_) (fun c31 => ?_)
        · have hw := hw.1 c31
          refine lv_iconst (v := 0) hx hb dX12_touch_97 (by decide) ?_
          refine lv_iadd hx hb dX12_touch_98 ?_
          refine lv_topi (fun x2_32 ex2_32 => ?_)
          have hw := hw x2_32 ex2_32
          refine lv_istore_n (lv' := [(2, .int x2_32), (0, .ref (ad 0)), (1, .int a1), (3, .int v3_23)]) hx hb dX12_touch_99 rfl hl (by decide) rfl (fun ls hl => ?_)
          obtain ⟨x3_33, ex3_33⟩ : ∃ z : Int32, z = v3_23 + (1 : Int32) := ⟨_, rfl⟩
          have hw := hw x3_33 ex3_33
          refine lv_iinc (v := x3_33) (lv' := [(3, .int x3_33), (2, .int x2_32), (0, .ref (ad 0)), (1, .int a1)]) hx hb dX12_touch_100 hl (k := 3) rfl (by rw [ex3_33]; rfl) (by decide) rfl (fun ls hl => ?_)
          refine lv_goto (tgt := 36) hx hb dX12_touch_103 (by decide) ?_
          exact hw _ _ _ hP hS (lv_sub hl [2, 3, 1, 0] rfl)
        have hw := hw.2 c31
        refine lv_iconst (v := 1) hx hb dX12_touch_93 (by decide) ?_
        refine lv_goto (tgt := 98) hx hb dX12_touch_94 (by decide) ?_
        refine lv_iadd hx hb dX12_touch_98 ?_
        refine lv_topi (fun x2_34 ex2_34 => ?_)
        have hw := hw x2_34 ex2_34
        refine lv_istore_n (lv' := [(2, .int x2_34), (0, .ref (ad 0)), (1, .int a1), (3, .int v3_23)]) hx hb dX12_touch_99 rfl hl (by decide) rfl (fun ls hl => ?_)
        obtain ⟨x3_35, ex3_35⟩ : ∃ z : Int32, z = v3_23 + (1 : Int32) := ⟨_, rfl⟩
        have hw := hw x3_35 ex3_35
        refine lv_iinc (v := x3_35) (lv' := [(3, .int x3_35), (2, .int x2_34), (0, .ref (ad 0)), (1, .int a1)]) hx hb dX12_touch_100 hl (k := 3) rfl (by rw [ex3_35]; rfl) (by decide) rfl (fun ls hl => ?_)
        refine lv_goto (tgt := 36) hx hb dX12_touch_103 (by decide) ?_
        exact hw _ _ _ hP hS (lv_sub hl [2, 3, 1, 0] rfl)
      have hw := hw.2 c25
      refine lv_aload_n hx hb dX12_touch_51 rfl (lv_at hl 0 rfl) ?_
      refine hw_get (v := .ref (ad 4)) hx hb hts hiX12 hown hK hP (Nat.lt_of_lt_of_le (by decide) hN) (bY_0 _) rfl 5 (by decide) (List.mem_of_getElem? (i := 3) rfl) rfl rfl dX12_touch_52 ?_
      refine lv_iload_n hx hb dX12_touch_55 rfl (lv_at hl 3 rfl) ?_
      obtain ⟨hi36, hw⟩ := hw
      refine hw_iald hx hb hK hP (Nat.lt_of_lt_of_le (by decide) hN) (bY_4 _) hi36 dX12_touch_56 ?_
      refine lv_iload_n hx hb dX12_touch_57 rfl (lv_at hl 1 rfl) ?_
      refine lv_bipush (v := 7) hx hb dX12_touch_58 (by decide) ?_
      refine lv_isub hx hb dX12_touch_60 ?_
      refine lv_icmp_ne (tgt := 68) hx hb dX12_touch_61 (by decide) (fun c37 => ?_) (fun c37 => ?_)
      · have hw := hw.1 c37
        refine lv_iconst (v := 0) hx hb dX12_touch_68 (by decide) ?_
        refine lv_goto (tgt := 98) hx hb dX12_touch_69 (by decide) ?_
        refine lv_iadd hx hb dX12_touch_98 ?_
        refine lv_topi (fun x2_38 ex2_38 => ?_)
        have hw := hw x2_38 ex2_38
        refine lv_istore_n (lv' := [(2, .int x2_38), (0, .ref (ad 0)), (1, .int a1), (3, .int v3_23)]) hx hb dX12_touch_99 rfl hl (by decide) rfl (fun ls hl => ?_)
        obtain ⟨x3_39, ex3_39⟩ : ∃ z : Int32, z = v3_23 + (1 : Int32) := ⟨_, rfl⟩
        have hw := hw x3_39 ex3_39
        refine lv_iinc (v := x3_39) (lv' := [(3, .int x3_39), (2, .int x2_38), (0, .ref (ad 0)), (1, .int a1)]) hx hb dX12_touch_100 hl (k := 3) rfl (by rw [ex3_39]; rfl) (by decide) rfl (fun ls hl => ?_)
        refine lv_goto (tgt := 36) hx hb dX12_touch_103 (by decide) ?_
        exact hw _ _ _ hP hS (lv_sub hl [2, 3, 1, 0] rfl)
      have hw := hw.2 c37
      refine lv_iconst (v := 1) hx hb dX12_touch_64 (by decide) ?_
      refine lv_goto (tgt := 98) hx hb dX12_touch_65 (by decide) ?_
      refine lv_iadd hx hb dX12_touch_98 ?_
      refine lv_topi (fun x2_40 ex2_40 => ?_)
      have hw := hw x2_40 ex2_40
      refine lv_istore_n (lv' := [(2, .int x2_40), (0, .ref (ad 0)), (1, .int a1), (3, .int v3_23)]) hx hb dX12_touch_99 rfl hl (by decide) rfl (fun ls hl => ?_)
      obtain ⟨x3_41, ex3_41⟩ : ∃ z : Int32, z = v3_23 + (1 : Int32) := ⟨_, rfl⟩
      have hw := hw x3_41 ex3_41
      refine lv_iinc (v := x3_41) (lv' := [(3, .int x3_41), (2, .int x2_40), (0, .ref (ad 0)), (1, .int a1)]) hx hb dX12_touch_100 hl (k := 3) rfl (by rw [ex3_41]; rfl) (by decide) rfl (fun ls hl => ?_)
      refine lv_goto (tgt := 36) hx hb dX12_touch_103 (by decide) ?_
      exact hw _ _ _ hP hS (lv_sub hl [2, 3, 1, 0] rfl)
    have hw := hw.2 c3
    refine lv_aload_n hx hb dX12_touch_21 rfl (lv_at hl 0 rfl) ?_
    refine hw_get (v := .int ((hup σ 0 0 (0 : Int32)) 0 6)) hx hb hts hiX12 hown hK hP (Nat.lt_of_lt_of_le (by decide) hN) (bY_0 _) rfl 6 (by decide) (List.mem_of_getElem? (i := 2) rfl) rfl rfl dX12_touch_22 ?_
    exact hw_iret hx hb hr hlocks ((hup σ 0 0 (0 : Int32)), w) hw hP hS dX12_touch_25
  have hw := hw.2 c2
  refine lv_iconst (v := -1) hx hb dX12_touch_15 (by decide) ?_
  exact hw_iret hx hb hr hlocks ((hup σ 0 0 (0 : Int32)), w) hw hP hS dX12_touch_16
set_option maxHeartbeats 4000000 in
set_option maxRecDepth 100000 in
theorem kc_X12_called (l : Launch) (D : va_G) (cy : Nat → ClassId) (N : Nat) (hN : 22 ≤ N) (ad : Nat → Nat) (hJ0 : hJ N ad) (w : Nat → Int64) (σ : hSt) (sz : Nat) (a1 : Int32) (a2 : Int32) (Q : Int32 → hSt → Prop) (hw : wp_X12_called a1 a2 σ w Q) : Met l yX12_called wsX12_called ({ frames := 2, cells := 0, slots := 0, locals := 48 } : Room) (va_Pc [.ref (ad 0), .int a1, .int a2] (hB D cy (hC N ad (bY cy ad w) σ) sz)) (va_Qi (fun (r : Int32) (u : hSt) => Q r u) (hE D (fun u : hSt => hC N ad (bY cy ad w) u)) (hA N ad sz)) 0 0 (hA N ad sz) := by
  refine Met.ofW (cc := cX12_called) (maxL := 5) (ret := (some .int)) (by decide) rfl ?_
  intro p e s m args below meth c s₁ B hml hv
  obtain ⟨rfl, hsz, hP, hK, hN1⟩ := hv
  have hx := B.exec
  have hb := B.bytes
  have hr := B.returns
  have hts := atoms_spec (ws := wsX12_called) B.pre
  have hown : s.vm.findClass RX12 = some m.cls := findClass_of_methodNamed B.named
  have hlocks := B.notSynchronized
  subst hsz
  have hS : va_S (hA N ad s.heap.size) s.heap s.heap [] := va_S.rf
  have hiX12 : ∀ w ∈ wsX120, w ∈ wsX12_called := fun _ h => List.mem_cons_of_mem _ (List.mem_append_right _ h)
  have hl := lv_entry ([.ref (ad 0), .int a1, .int a2]) (n := 5) (Nat.le_of_ble_eq_true rfl)
  rw [lg_entry_eq]
  generalize (lg_sl ([.ref (ad 0), .int a1, .int a2]) ++ List.replicate (5 - (lg_sl ([.ref (ad 0), .int a1, .int a2])).length) Slot.unset).toArray = ls at hl ⊢
  have hl : lv_has ls 5 [(0, .ref (ad 0)), (1, .int a1), (2, .int a2)] := hl
  unfold wp_X12_called at hw
  refine lv_aload_n hx hb dX12_called_0 rfl (lv_at hl 0 rfl) ?_
  refine lv_iload_n hx hb dX12_called_1 rfl (lv_at hl 1 rfl) ?_
  obtain ⟨J27, ehJ27, hw⟩ := hM_x hw
  have hJ27 : ∀ (z1 : Int32) (H : Heap) (locs : List Loc) (ls : Array Slot), J27 z1 → va_P D vwCl (hC N ad (bY cy ad w) σ) H → va_S (hA N ad s.heap.size) s.heap H locs → lv_has ls 5 [(0, .ref (ad 0)), (1, .int a1), (2, .int a2)] → W p l e (headSpec wsX12_called ({ frames := 2, cells := 0, slots := 0, locals := 48 } : Room)).room s m ([Value.ref (ad 0), Value.int a1, Value.int a2] : List Value).toArray below meth c H locs 0 0 (MQ below (va_Qi (fun (r : Int32) (u : hSt) => Q r u) (hE D (fun u : hSt => hC N ad (bY cy ad w) u)) (hA N ad s.heap.size)) ([Value.ref (ad 0), Value.int a1, Value.int a2] : List Value).toArray s 0 0 (hA N ad s.heap.size)) (F0 m 27 ls [.int z1, .ref (ad 0)]) := by
    intro z1 H locs ls hw hP hS hl
    rw [ehJ27] at hw
    refine lv_iconst (v := 1) hx hb dX12_called_27 (by decide) ?_
    refine hw_ki (va_runV (As := [.int z1, .int (1 : Int32)]) (rest := []) ⟨hx, hb, hml, hown, hts⟩ (kc_X12_throwsIf l D cy N hN ad hJ0 w σ _ z1 (1 : Int32) _ hw) (cwV 2 hts gX12_called_X12_throwsIf rfl rfl rfl (by decide +kernel) ⟨Nat.le_of_ble_eq_true rfl, Nat.le_of_ble_eq_true rfl⟩) (hw_preV hK hN1 hP (Nat.lt_of_lt_of_le (by decide) hN) (bY_0 _) rfl) rfl rfl hl.1 rfl (lv_room (Nat.le_of_ble_eq_true rfl)) dX12_called_28 ⟨Nat.zero_le _, Nat.zero_le _⟩) hS (fun r3 σ2 H locs hw hP hS => ?_)
    refine lv_if_eq (tgt := 36) hx hb dX12_called_31 (by decide) (fun c4 => ?_) (fun c4 => ?_)
    · have hw := hw.1 c4
      refine lv_iload_n hx hb dX12_called_36 rfl (lv_at hl 2 rfl) ?_
      refine lv_iconst (v := 1) hx hb dX12_called_37 (by decide) ?_
      refine lv_icmp_ne (tgt := 48) hx hb dX12_called_38 (by decide) (fun c5 => ?_) (fun c5 => ?_)
      · have hw := hw.1 c5
        refine lv_iload_n hx hb dX12_called_48 rfl (lv_at hl 2 rfl) ?_
        refine lv_iconst (v := 2) hx hb dX12_called_49 (by decide) ?_
        refine lv_icmp_ne (tgt := 60) hx hb dX12_called_50 (by decide) (fun c6 => ?_) (fun c6 => ?_)
        · have hw := hw.1 c6
          refine lv_iconst (v := 0) hx hb dX12_called_60 (by decide) ?_
          refine lv_istore_n (lv' := [(3, .int (0 : Int32)), (0, .ref (ad 0)), (1, .int a1), (2, .int a2)]) hx hb dX12_called_61 rfl hl (by decide) rfl (fun ls hl => ?_)
          refine lv_aload_n hx hb dX12_called_62 rfl (lv_at hl 1 rfl) ?_
          refine lv_aload_n hx hb dX12_called_63 rfl (lv_at hl 1 rfl) ?_
          refine hw_get (v := .ref (ad 14)) hx hb hts hiX12 hown hK hP (Nat.lt_of_lt_of_le (by decide) hN) (bY_0 _) rfl 24 (by decide) (List.mem_of_getElem? (i := 4) rfl) rfl rfl dX12_called_64 ?_
          refine hw_kv (va_runV (As := [.ref (ad 14)]) (rest := []) ⟨hx, hb, hml, hown, hts⟩ (kc_X12_rounds l D cy N hN ad hJ0 w σ2 _ 14 h8_14 _ hw) (cwV 1 hts gX12_called_X12_rounds rfl rfl rfl (by decide +kernel) ⟨Nat.le_of_ble_eq_true rfl, Nat.le_of_ble_eq_true rfl⟩) (hw_preV hK hN1 hP (Nat.lt_of_lt_of_le (by decide) hN) (bY_0 _) rfl) rfl rfl hl.1 rfl (lv_room (Nat.le_of_ble_eq_true rfl)) dX12_called_67 ⟨Nat.zero_le _, Nat.zero_le _⟩) hS (fun σ7 H locs hw hP hS => ?_)
          refine lv_iconst (v := 0) hx hb dX12_called_70 (by decide) ?_
          refine lv_istore (lv' := [(4, .int (0 : Int32)), (3, .int (0 : Int32)), (0, .ref (ad 0)), (1, .int a1), (2, .int a2)]) hx hb dX12_called_71 hl (by decide) rfl (fun ls hl => ?_)
          refine hw (fun (v3_8 : Int32) (v4_9 : Int32) (σ10 : hSt) => ∀ (H : Heap) (locs : List Loc) (ls : Array Slot), va_P D vwCl (hC N ad (bY cy ad w) σ10) H → va_S (hA N ad s.heap.size) s.heap H locs → lv_has ls 5 [(0, .ref (ad 0)), (1, .int a1), (2, .int a2), (3, .int v3_8), (4, .int v4_9)] → W p l e (headSpec wsX12_called ({ frames := 2, cells := 0, slots := 0, locals := 48 } : Room)).room s m ([Value.ref (ad 0), Value.int a1, Value.int a2] : List Value).toArray below meth c H locs 0 0 (MQ below (va_Qi (fun (r : Int32) (u : hSt) => Q r u) (hE D (fun u : hSt => hC N ad (bY cy ad w) u)) (hA N ad s.heap.size)) ([Value.ref (ad 0), Value.int a1, Value.int a2] : List Value).toArray s 0 0 (hA N ad s.heap.size)) (F0 m 73 ls [])) (fun v3_8 v4_9 σ10 hw H locs ls hP hS hl => ?_) _ _ _ hP hS (lv_sub hl [2, 3, 4, 1, 0] rfl)
          refine lv_iload hx hb dX12_called_73 (lv_at hl 4 rfl) ?_
          refine lv_iload_n hx hb dX12_called_75 rfl (lv_at hl 1 rfl) ?_
          refine lv_icmp_ge (tgt := 122) hx hb dX12_called_76 (by decide) (fun c11 => ?_) (fun c11 => ?_)
          · have hw := hw.1 c11
            refine lv_iload_n hx hb dX12_called_122 rfl (lv_at hl 2 rfl) ?_
            refine lv_if_ne (tgt := 137) hx hb dX12_called_123 (by decide) (fun c12 => ?_) (fun c12 => ?_)
            · have hw := hw.1 c12
              refine lv_iload_n hx hb dX12_called_137 rfl (lv_at hl 3 rfl) ?_
              exact hw_iret hx hb hr hlocks (σ10) hw hP hS dX12_called_138
            have hw := hw.2 c12
            refine lv_aload_n hx hb dX12_called_126 rfl (lv_at hl 0 rfl) ?_
            refine lv_aload_n hx hb dX12_called_127 rfl (lv_at hl 0 rfl) ?_
            refine hw_get (v := .ref (ad 14)) hx hb hts hiX12 hown hK hP (Nat.lt_of_lt_of_le (by decide) hN) (bY_0 _) rfl 24 (by decide) (List.mem_of_getElem? (i := 4) rfl) rfl rfl dX12_called_128 ?_
            refine hw_ki (va_runV (As := [.ref (ad 14)]) (rest := []) ⟨hx, hb, hml, hown, hts⟩ (kc_X12_number l D cy N hN ad hJ0 w σ10 _ 14 h8_14 _ hw) (cwV 1 hts gX12_called_X12_number rfl rfl rfl (by decide +kernel) ⟨Nat.le_of_ble_eq_true rfl, Nat.le_of_ble_eq_true rfl⟩) (hw_preV hK hN1 hP (Nat.lt_of_lt_of_le (by decide) hN) (bY_0 _) rfl) rfl rfl hl.1 rfl (lv_room (Nat.le_of_ble_eq_true rfl)) dX12_called_131 ⟨Nat.zero_le _, Nat.zero_le _⟩) hS (fun r14 σ13 H locs hw hP hS => ?_)
            obtain ⟨hu_, hw⟩ := hw
            rw [hu_] at hP
            refine lv_goto (tgt := 138) hx hb dX12_called_134 (by decide) ?_
            exact hw_iret hx hb hr hlocks (σ10) hw hP hS dX12_called_138
          have hw := hw.2 c11
          refine lv_aload_n hx hb dX12_called_79 rfl (lv_at hl 0 rfl) ?_
          refine lv_aload_n hx hb dX12_called_80 rfl (lv_at hl 0 rfl) ?_
          refine hw_get (v := .ref (ad 14)) hx hb hts hiX12 hown hK hP (Nat.lt_of_lt_of_le (by decide) hN) (bY_0 _) rfl 24 (by decide) (List.mem_of_getElem? (i := 4) rfl) rfl rfl dX12_called_81 ?_
          refine lv_aload_n hx hb dX12_called_84 rfl (lv_at hl 0 rfl) ?_
          refine hw_get (v := .ref (ad 3)) hx hb hts hiX12 hown hK hP (Nat.lt_of_lt_of_le (by decide) hN) (bY_0 _) rfl 4 (by decide) (List.mem_of_getElem? (i := 2) rfl) rfl rfl dX12_called_85 ?_
          refine lv_iload hx hb dX12_called_88 (lv_at hl 4 rfl) ?_
          obtain ⟨hi15, hw⟩ := hw
          refine hw_iald hx hb hK hP (Nat.lt_of_lt_of_le (by decide) hN) (bY_3 _) hi15 dX12_called_90 ?_
          refine lv_aload_n hx hb dX12_called_91 rfl (lv_at hl 0 rfl) ?_
          refine hw_get (v := .ref (ad 4)) hx hb hts hiX12 hown hK hP (Nat.lt_of_lt_of_le (by decide) hN) (bY_0 _) rfl 5 (by decide) (List.mem_of_getElem? (i := 3) rfl) rfl rfl dX12_called_92 ?_
          refine lv_iload hx hb dX12_called_95 (lv_at hl 4 rfl) ?_
          obtain ⟨hi16, hw⟩ := hw
          refine hw_iald hx hb hK hP (Nat.lt_of_lt_of_le (by decide) hN) (bY_4 _) hi16 dX12_called_97 ?_
          refine hw_kv (va_runV (As := [.ref (ad 14), .int (σ10 3 (v4_9).toNatClampNeg), .int (σ10 4 (v4_9).toNatClampNeg)]) (rest := []) ⟨hx, hb, hml, hown, hts⟩ (kc_X12_ringLead l D cy N hN ad hJ0 w σ10 _ 14 h8_14 (σ10 3 (v4_9).toNatClampNeg) (σ10 4 (v4_9).toNatClampNeg) _ hw) (cwV 3 hts gX12_called_X12_ringLead rfl rfl rfl (by decide +kernel) ⟨Nat.le_of_ble_eq_true rfl, Nat.le_of_ble_eq_true rfl⟩) (hw_preV hK hN1 hP (Nat.lt_of_lt_of_le (by decide) hN) (bY_0 _) rfl) rfl rfl hl.1 rfl (lv_room (Nat.le_of_ble_eq_true rfl)) dX12_called_98 ⟨Nat.zero_le _, Nat.zero_le _⟩) hS (fun σ17 H locs hw hP hS => ?_)
          refine lv_iload_n hx hb dX12_called_101 rfl (lv_at hl 3 rfl) ?_
          refine lv_aload_n hx hb dX12_called_102 rfl (lv_at hl 0 rfl) ?_
          refine hw_get (v := .ref (ad 1)) hx hb hts hiX12 hown hK hP (Nat.lt_of_lt_of_le (by decide) hN) (bY_0 _) rfl 2 (by decide) (List.mem_of_getElem? (i := 5) rfl) rfl rfl dX12_called_103 ?_
          refine lv_aload_n hx hb dX12_called_106 rfl (lv_at hl 0 rfl) ?_
          refine hw_get (v := .ref (ad 3)) hx hb hts hiX12 hown hK hP (Nat.lt_of_lt_of_le (by decide) hN) (bY_0 _) rfl 4 (by decide) (List.mem_of_getElem? (i := 2) rfl) rfl rfl dX12_called_107 ?_
          refine lv_iload hx hb dX12_called_110 (lv_at hl 4 rfl) ?_
          obtain ⟨hi18, hw⟩ := hw
          refine hw_iald hx hb hK hP (Nat.lt_of_lt_of_le (by decide) hN) (bY_3 _) hi18 dX12_called_112 ?_
          obtain ⟨hi19, hw⟩ := hw
          refine hw_iald hx hb hK hP (Nat.lt_of_lt_of_le (by decide) hN) (bY_1 _) hi19 dX12_called_113 ?_
          refine lv_iadd hx hb dX12_called_114 ?_
          refine lv_topi (fun x3_20 ex3_20 => ?_)
          have hw := hw x3_20 ex3_20
          refine lv_istore_n (lv' := [(3, .int x3_20), (0, .ref (ad 0)), (1, .int a1), (2, .int a2), (4, .int v4_9)]) hx hb dX12_called_115 rfl hl (by decide) rfl (fun ls hl => ?_)
          obtain ⟨x4_21, ex4_21⟩ : ∃ z : Int32, z = v4_9 + (1 : Int32) := ⟨_, rfl⟩
          have hw := hw x4_21 ex4_21
          refine lv_iinc (v := x4_21) (lv' := [(4, .int x4_21), (3, .int x3_20), (0, .ref (ad 0)), (1, .int a1), (2, .int a2)]) hx hb dX12_called_116 hl (k := 4) rfl (by rw [ex4_21]; rfl) (by decide) rfl (fun ls hl => ?_)
          refine lv_goto (tgt := 73) hx hb dX12_called_119 (by decide) ?_
          exact hw _ _ _ hP hS (lv_sub hl [2, 3, 4, 1, 0] rfl)
        have hw := hw.2 c6
        refine lv_aload_n hx hb dX12_called_53 rfl (lv_at hl 0 rfl) ?_
        refine hw_get (v := .ref (ad 4)) hx hb hts hiX12 hown hK hP (Nat.lt_of_lt_of_le (by decide) hN) (bY_0 _) rfl 5 (by decide) (List.mem_of_getElem? (i := 3) rfl) rfl rfl dX12_called_54 ?_
        refine lv_iload_n hx hb dX12_called_57 rfl (lv_at hl 1 rfl) ?_
        obtain ⟨hi22, hw⟩ := hw
        refine hw_iald hx hb hK hP (Nat.lt_of_lt_of_le (by decide) hN) (bY_4 _) hi22 dX12_called_58 ?_
        exact hw_iret hx hb hr hlocks (σ2) hw hP hS dX12_called_59
      have hw := hw.2 c5
      refine lv_aload_n hx hb dX12_called_41 rfl (lv_at hl 0 rfl) ?_
      refine hw_get (v := .ref (ad 3)) hx hb hts hiX12 hown hK hP (Nat.lt_of_lt_of_le (by decide) hN) (bY_0 _) rfl 4 (by decide) (List.mem_of_getElem? (i := 2) rfl) rfl rfl dX12_called_42 ?_
      refine lv_iload_n hx hb dX12_called_45 rfl (lv_at hl 1 rfl) ?_
      obtain ⟨hi23, hw⟩ := hw
      refine hw_iald hx hb hK hP (Nat.lt_of_lt_of_le (by decide) hN) (bY_3 _) hi23 dX12_called_46 ?_
      exact hw_iret hx hb hr hlocks (σ2) hw hP hS dX12_called_47
    have hw := hw.2 c4
    refine lv_iconst (v := 0) hx hb dX12_called_34 (by decide) ?_
    exact hw_iret hx hb hr hlocks (σ2) hw hP hS dX12_called_35
  obtain ⟨J22, ehJ22, hw⟩ := hM_x hw
  have hJ22 : ∀ (H : Heap) (locs : List Loc) (ls : Array Slot), J22 → va_P D vwCl (hC N ad (bY cy ad w) σ) H → va_S (hA N ad s.heap.size) s.heap H locs → lv_has ls 5 [(0, .ref (ad 0)), (1, .int a1), (2, .int a2)] → W p l e (headSpec wsX12_called ({ frames := 2, cells := 0, slots := 0, locals := 48 } : Room)).room s m ([Value.ref (ad 0), Value.int a1, Value.int a2] : List Value).toArray below meth c H locs 0 0 (MQ below (va_Qi (fun (r : Int32) (u : hSt) => Q r u) (hE D (fun u : hSt => hC N ad (bY cy ad w) u)) (hA N ad s.heap.size)) ([Value.ref (ad 0), Value.int a1, Value.int a2] : List Value).toArray s 0 0 (hA N ad s.heap.size)) (F0 m 22 ls [.ref (ad 0)]) := by
    intro H locs ls hw hP hS hl
    rw [ehJ22] at hw
    refine lv_iconst (v := 1) hx hb dX12_called_22 (by decide) ?_
    refine lv_goto (tgt := 27) hx hb dX12_called_23 (by decide) ?_
    exact hJ27 _ _ _ _ hw hP hS (lv_sub hl [0, 1, 2] rfl)
  refine lv_if_lt (tgt := 22) hx hb dX12_called_2 (by decide) (fun c24 => ?_) (fun c24 => ?_)
  · have hw := hw.1 c24
    exact hJ22  _ _ _ hw hP hS (lv_sub hl [0, 1, 2] rfl)
  have hw := hw.2 c24
  refine lv_iload_n hx hb dX12_called_5 rfl (lv_at hl 1 rfl) ?_
  refine lv_aload_n hx hb dX12_called_6 rfl (lv_at hl 0 rfl) ?_
  refine hw_get (v := .int (σ 0 6)) hx hb hts hiX12 hown hK hP (Nat.lt_of_lt_of_le (by decide) hN) (bY_0 _) rfl 6 (by decide) (List.mem_of_getElem? (i := 1) rfl) rfl rfl dX12_called_7 ?_
  refine lv_icmp_ge (tgt := 22) hx hb dX12_called_10 (by decide) (fun c25 => ?_) (fun c25 => ?_)
  · have hw := hw.1 c25
    exact hJ22  _ _ _ hw hP hS (lv_sub hl [0, 1, 2] rfl)
  have hw := hw.2 c25
  refine lv_iload_n hx hb dX12_called_13 rfl (lv_at hl 2 rfl) ?_
  refine lv_if_lt (tgt := 22) hx hb dX12_called_14 (by decide) (fun c26 => ?_) (fun c26 => ?_)
  · have hw := hw.1 c26
    exact hJ22  _ _ _ hw hP hS (lv_sub hl [0, 1, 2] rfl)
  have hw := hw.2 c26
  refine lv_iload_n hx hb dX12_called_17 rfl (lv_at hl 2 rfl) ?_
  refine lv_iconst (v := 3) hx hb dX12_called_18 (by decide) ?_
  refine lv_icmp_le (tgt := 26) hx hb dX12_called_19 (by decide) (fun c27 => ?_) (fun c27 => ?_)
  · have hw := hw.1 c27
    refine lv_iconst (v := 0) hx hb dX12_called_26 (by decide) ?_
    exact hJ27 _ _ _ _ hw hP hS (lv_sub hl [0, 1, 2] rfl)
  have hw := hw.2 c27
  exact hJ22  _ _ _ hw hP hS (lv_sub hl [0, 1, 2] rfl)
set_option maxHeartbeats 4000000 in
set_option maxRecDepth 100000 in
theorem kc_X12_all (l : Launch) (D : va_G) (cy : Nat → ClassId) (N : Nat) (hN : 22 ≤ N) (ad : Nat → Nat) (hJ0 : hJ N ad) (w : Nat → Int64) (σ : hSt) (sz : Nat)  (Q : Int32 → Prop) (hw : wp_X12_all  σ w Q) : Met l yX12_all wsX12_all ({ frames := 0, cells := 0, slots := 0, locals := 0 } : Room) (va_Pc [.ref (ad 0)] (hB D cy (hC N ad (bY cy ad w) σ) sz)) (va_Qi (fun (r : Int32) (u : hSt) => u = σ ∧ Q r) (hE D (fun u : hSt => hC N ad (bY cy ad w) u)) (hA N ad sz)) 0 0 (hA N ad sz) := by
  refine Met.ofW (cc := cX12_all) (maxL := 3) (ret := (some .int)) (by decide) rfl ?_
  intro p e s m args below meth c s₁ B hml hv
  obtain ⟨rfl, hsz, hP, hK, hN1⟩ := hv
  have hx := B.exec
  have hb := B.bytes
  have hr := B.returns
  have hts := atoms_spec (ws := wsX12_all) B.pre
  have hown : s.vm.findClass RX12 = some m.cls := findClass_of_methodNamed B.named
  have hlocks := B.notSynchronized
  subst hsz
  have hS : va_S (hA N ad s.heap.size) s.heap s.heap [] := va_S.rf
  have hiX12 : ∀ w ∈ wsX120, w ∈ wsX12_all := fun _ h => List.mem_cons_of_mem _ (List.mem_append_right _ h)
  have hl := lv_entry ([.ref (ad 0)]) (n := 3) (Nat.le_of_ble_eq_true rfl)
  rw [lg_entry_eq]
  generalize (lg_sl ([.ref (ad 0)]) ++ List.replicate (3 - (lg_sl ([.ref (ad 0)])).length) Slot.unset).toArray = ls at hl ⊢
  have hl : lv_has ls 3 [(0, .ref (ad 0))] := hl
  unfold wp_X12_all at hw
  refine lv_iconst (v := 0) hx hb dX12_all_0 (by decide) ?_
  refine lv_istore_n (lv' := [(1, .int (0 : Int32)), (0, .ref (ad 0))]) hx hb dX12_all_1 rfl hl (by decide) rfl (fun ls hl => ?_)
  refine lv_iconst (v := 0) hx hb dX12_all_2 (by decide) ?_
  refine lv_istore_n (lv' := [(2, .int (0 : Int32)), (1, .int (0 : Int32)), (0, .ref (ad 0))]) hx hb dX12_all_3 rfl hl (by decide) rfl (fun ls hl => ?_)
  refine hw (fun (v1_1 : Int32) (v2_2 : Int32) => ∀ (H : Heap) (locs : List Loc) (ls : Array Slot), va_P D vwCl (hC N ad (bY cy ad w) σ) H → va_S (hA N ad s.heap.size) s.heap H locs → lv_has ls 3 [(0, .ref (ad 0)), (1, .int v1_1), (2, .int v2_2)] → W p l e (headSpec wsX12_all ({ frames := 0, cells := 0, slots := 0, locals := 0 } : Room)).room s m ([Value.ref (ad 0)] : List Value).toArray below meth c H locs 0 0 (MQ below (va_Qi (fun (r : Int32) (u : hSt) => u = σ ∧ Q r) (hE D (fun u : hSt => hC N ad (bY cy ad w) u)) (hA N ad s.heap.size)) ([Value.ref (ad 0)] : List Value).toArray s 0 0 (hA N ad s.heap.size)) (F0 m 4 ls [])) (fun v1_1 v2_2 hw H locs ls hP hS hl => ?_) _ _ _ hP hS (lv_sub hl [2, 1, 0] rfl)
  refine lv_iload_n hx hb dX12_all_4 rfl (lv_at hl 2 rfl) ?_
  refine lv_aload_n hx hb dX12_all_5 rfl (lv_at hl 0 rfl) ?_
  refine hw_get (v := .int (σ 0 6)) hx hb hts hiX12 hown hK hP (Nat.lt_of_lt_of_le (by decide) hN) (bY_0 _) rfl 6 (by decide) (List.mem_of_getElem? (i := 1) rfl) rfl rfl dX12_all_6 ?_
  refine lv_icmp_ge (tgt := 32) hx hb dX12_all_9 (by decide) (fun c3 => ?_) (fun c3 => ?_)
  · have hw := hw.1 c3
    refine lv_iload_n hx hb dX12_all_32 rfl (lv_at hl 1 rfl) ?_
    exact hw_iret hx hb hr hlocks (σ) ⟨rfl, hw⟩ hP hS dX12_all_33
  have hw := hw.2 c3
  refine lv_iload_n hx hb dX12_all_12 rfl (lv_at hl 1 rfl) ?_
  refine lv_aload_n hx hb dX12_all_13 rfl (lv_at hl 0 rfl) ?_
  refine hw_get (v := .ref (ad 1)) hx hb hts hiX12 hown hK hP (Nat.lt_of_lt_of_le (by decide) hN) (bY_0 _) rfl 2 (by decide) (List.mem_of_getElem? (i := 2) rfl) rfl rfl dX12_all_14 ?_
  refine lv_aload_n hx hb dX12_all_17 rfl (lv_at hl 0 rfl) ?_
  refine hw_get (v := .ref (ad 3)) hx hb hts hiX12 hown hK hP (Nat.lt_of_lt_of_le (by decide) hN) (bY_0 _) rfl 4 (by decide) (List.mem_of_getElem? (i := 3) rfl) rfl rfl dX12_all_18 ?_
  refine lv_iload_n hx hb dX12_all_21 rfl (lv_at hl 2 rfl) ?_
  obtain ⟨hi4, hw⟩ := hw
  refine hw_iald hx hb hK hP (Nat.lt_of_lt_of_le (by decide) hN) (bY_3 _) hi4 dX12_all_22 ?_
  obtain ⟨hi5, hw⟩ := hw
  refine hw_iald hx hb hK hP (Nat.lt_of_lt_of_le (by decide) hN) (bY_1 _) hi5 dX12_all_23 ?_
  refine lv_iadd hx hb dX12_all_24 ?_
  refine lv_topi (fun x1_6 ex1_6 => ?_)
  have hw := hw x1_6 ex1_6
  refine lv_istore_n (lv' := [(1, .int x1_6), (0, .ref (ad 0)), (2, .int v2_2)]) hx hb dX12_all_25 rfl hl (by decide) rfl (fun ls hl => ?_)
  obtain ⟨x2_7, ex2_7⟩ : ∃ z : Int32, z = v2_2 + (1 : Int32) := ⟨_, rfl⟩
  have hw := hw x2_7 ex2_7
  refine lv_iinc (v := x2_7) (lv' := [(2, .int x2_7), (1, .int x1_6), (0, .ref (ad 0))]) hx hb dX12_all_26 hl (k := 2) rfl (by rw [ex2_7]; rfl) (by decide) rfl (fun ls hl => ?_)
  refine lv_goto (tgt := 4) hx hb dX12_all_29 (by decide) ?_
  exact hw _ _ _ hP hS (lv_sub hl [2, 1, 0] rfl)
set_option maxHeartbeats 4000000 in
set_option maxRecDepth 100000 in
theorem kc_X12_row (l : Launch) (D : va_G) (cy : Nat → ClassId) (N : Nat) (hN : 22 ≤ N) (ad : Nat → Nat) (hJ0 : hJ N ad) (w : Nat → Int64) (σ : hSt) (sz : Nat) (a1 : Int32) (Q : Int32 → hSt → Prop) (hw : wp_X12_row a1 σ w Q) : Met l yX12_row wsX12_row ({ frames := 2, cells := 0, slots := 0, locals := 52 } : Room) (va_Pc [.ref (ad 0), .int a1] (hB D cy (hC N ad (bY cy ad w) σ) sz)) (va_Qi (fun (r : Int32) (u : hSt) => Q r u) (hE D (fun u : hSt => hC N ad (bY cy ad w) u)) (hA N ad sz)) 0 0 (hA N ad sz) := by
  refine Met.ofW (cc := cX12_row) (maxL := 3) (ret := (some .int)) (by decide) rfl ?_
  intro p e s m args below meth c s₁ B hml hv
  obtain ⟨rfl, hsz, hP, hK, hN1⟩ := hv
  have hx := B.exec
  have hb := B.bytes
  have hr := B.returns
  have hts := atoms_spec (ws := wsX12_row) B.pre
  have hown : s.vm.findClass RX12 = some m.cls := findClass_of_methodNamed B.named
  have hlocks := B.notSynchronized
  subst hsz
  have hS : va_S (hA N ad s.heap.size) s.heap s.heap [] := va_S.rf
  have hiX12 : ∀ w ∈ wsX120, w ∈ wsX12_row := fun _ h => List.mem_cons_of_mem _ (List.mem_append_right _ h)
  have hl := lv_entry ([.ref (ad 0), .int a1]) (n := 3) (Nat.le_of_ble_eq_true rfl)
  rw [lg_entry_eq]
  generalize (lg_sl ([.ref (ad 0), .int a1]) ++ List.replicate (3 - (lg_sl ([.ref (ad 0), .int a1])).length) Slot.unset).toArray = ls at hl ⊢
  have hl : lv_has ls 3 [(0, .ref (ad 0)), (1, .int a1)] := hl
  unfold wp_X12_row at hw
  refine lv_iload_n hx hb dX12_row_0 rfl (lv_at hl 1 rfl) ?_
  obtain ⟨J10, ehJ10, hw⟩ := hM_x hw
  have hJ10 : ∀ (σ1 : hSt) (H : Heap) (locs : List Loc) (ls : Array Slot), J10 σ1 → va_P D vwCl (hC N ad (bY cy ad w) σ1) H → va_S (hA N ad s.heap.size) s.heap H locs → lv_has ls 3 [(0, .ref (ad 0)), (1, .int a1)] → W p l e (headSpec wsX12_row ({ frames := 2, cells := 0, slots := 0, locals := 52 } : Room)).room s m ([Value.ref (ad 0), Value.int a1] : List Value).toArray below meth c H locs 0 0 (MQ below (va_Qi (fun (r : Int32) (u : hSt) => Q r u) (hE D (fun u : hSt => hC N ad (bY cy ad w) u)) (hA N ad s.heap.size)) ([Value.ref (ad 0), Value.int a1] : List Value).toArray s 0 0 (hA N ad s.heap.size)) (F0 m 10 ls []) := by
    intro σ1 H locs ls hw hP hS hl
    rw [ehJ10] at hw
    refine lv_iload_n hx hb dX12_row_10 rfl (lv_at hl 1 rfl) ?_
    obtain ⟨J35, ehJ35, hw⟩ := hM_x hw
    have hJ35 : ∀ (z2 : Int32) (H : Heap) (locs : List Loc) (ls : Array Slot), J35 z2 → va_P D vwCl (hC N ad (bY cy ad w) σ1) H → va_S (hA N ad s.heap.size) s.heap H locs → lv_has ls 3 [(0, .ref (ad 0))] → W p l e (headSpec wsX12_row ({ frames := 2, cells := 0, slots := 0, locals := 52 } : Room)).room s m ([Value.ref (ad 0), Value.int a1] : List Value).toArray below meth c H locs 0 0 (MQ below (va_Qi (fun (r : Int32) (u : hSt) => Q r u) (hE D (fun u : hSt => hC N ad (bY cy ad w) u)) (hA N ad s.heap.size)) ([Value.ref (ad 0), Value.int a1] : List Value).toArray s 0 0 (hA N ad s.heap.size)) (F0 m 35 ls [.int z2]) := by
      intro z2 H locs ls hw hP hS hl
      rw [ehJ35] at hw
      refine lv_istore_n (lv' := [(2, .int z2), (0, .ref (ad 0))]) hx hb dX12_row_35 rfl hl (by decide) rfl (fun ls hl => ?_)
      refine lv_aload_n hx hb dX12_row_36 rfl (lv_at hl 1 rfl) ?_
      refine lv_iload_n hx hb dX12_row_37 rfl (lv_at hl 0 rfl) ?_
      obtain ⟨J46, ehJ46, hw⟩ := hM_x hw
      have hJ46 : ∀ (z3 : Int32) (H : Heap) (locs : List Loc) (ls : Array Slot), J46 z3 → va_P D vwCl (hC N ad (bY cy ad w) σ1) H → va_S (hA N ad s.heap.size) s.heap H locs → lv_has ls 3 [(0, .ref (ad 0))] → W p l e (headSpec wsX12_row ({ frames := 2, cells := 0, slots := 0, locals := 52 } : Room)).room s m ([Value.ref (ad 0), Value.int a1] : List Value).toArray below meth c H locs 0 0 (MQ below (va_Qi (fun (r : Int32) (u : hSt) => Q r u) (hE D (fun u : hSt => hC N ad (bY cy ad w) u)) (hA N ad s.heap.size)) ([Value.ref (ad 0), Value.int a1] : List Value).toArray s 0 0 (hA N ad s.heap.size)) (F0 m 46 ls [.int z3, .ref (ad 0)]) := by
        intro z3 H locs ls hw hP hS hl
        rw [ehJ46] at hw
        refine lv_iconst (v := 1) hx hb dX12_row_46 (by decide) ?_
        refine hw_ki (va_runV (As := [.int z3, .int (1 : Int32)]) (rest := []) ⟨hx, hb, hml, hown, hts⟩ (kc_X12_throwsIf l D cy N hN ad hJ0 w σ1 _ z3 (1 : Int32) _ hw) (cwV 2 hts gX12_row_X12_throwsIf rfl rfl rfl (by decide +kernel) ⟨Nat.le_of_ble_eq_true rfl, Nat.le_of_ble_eq_true rfl⟩) (hw_preV hK hN1 hP (Nat.lt_of_lt_of_le (by decide) hN) (bY_0 _) rfl) rfl rfl hl.1 rfl (lv_room (Nat.le_of_ble_eq_true rfl)) dX12_row_47 ⟨Nat.zero_le _, Nat.zero_le _⟩) hS (fun r5 σ4 H locs hw hP hS => ?_)
        refine lv_if_eq (tgt := 55) hx hb dX12_row_50 (by decide) (fun c6 => ?_) (fun c6 => ?_)
        · have hw := hw.1 c6
          refine lv_aload_n hx hb dX12_row_55 rfl (lv_at hl 0 rfl) ?_
          refine lv_aload_n hx hb dX12_row_56 rfl (lv_at hl 0 rfl) ?_
          refine hw_get (v := .ref (ad 14)) hx hb hts hiX12 hown hK hP (Nat.lt_of_lt_of_le (by decide) hN) (bY_0 _) rfl 24 (by decide) (List.mem_of_getElem? (i := 2) rfl) rfl rfl dX12_row_57 ?_
          refine hw_ki (va_runV (As := [.ref (ad 14)]) (rest := []) ⟨hx, hb, hml, hown, hts⟩ (kc_X12_number l D cy N hN ad hJ0 w σ4 _ 14 h8_14 _ hw) (cwV 1 hts gX12_row_X12_number rfl rfl rfl (by decide +kernel) ⟨Nat.le_of_ble_eq_true rfl, Nat.le_of_ble_eq_true rfl⟩) (hw_preV hK hN1 hP (Nat.lt_of_lt_of_le (by decide) hN) (bY_0 _) rfl) rfl rfl hl.1 rfl (lv_room (Nat.le_of_ble_eq_true rfl)) dX12_row_60 ⟨Nat.zero_le _, Nat.zero_le _⟩) hS (fun r8 σ7 H locs hw hP hS => ?_)
          obtain ⟨hu_, hw⟩ := hw
          rw [hu_] at hP
          exact hw_iret hx hb hr hlocks (σ4) hw hP hS dX12_row_63
        have hw := hw.2 c6
        refine lv_iconst (v := 0) hx hb dX12_row_53 (by decide) ?_
        exact hw_iret hx hb hr hlocks (σ4) hw hP hS dX12_row_54
      refine lv_if_ne (tgt := 45) hx hb dX12_row_38 (by decide) (fun c9 => ?_) (fun c9 => ?_)
      · have hw := hw.1 c9
        refine lv_iconst (v := 0) hx hb dX12_row_45 (by decide) ?_
        exact hJ46 _ _ _ _ hw hP hS (lv_sub hl [1] rfl)
      have hw := hw.2 c9
      refine lv_iconst (v := 1) hx hb dX12_row_41 (by decide) ?_
      refine lv_goto (tgt := 46) hx hb dX12_row_42 (by decide) ?_
      exact hJ46 _ _ _ _ hw hP hS (lv_sub hl [1] rfl)
    obtain ⟨J34, ehJ34, hw⟩ := hM_x hw
    have hJ34 : ∀ (H : Heap) (locs : List Loc) (ls : Array Slot), J34 → va_P D vwCl (hC N ad (bY cy ad w) σ1) H → va_S (hA N ad s.heap.size) s.heap H locs → lv_has ls 3 [(0, .ref (ad 0))] → W p l e (headSpec wsX12_row ({ frames := 2, cells := 0, slots := 0, locals := 52 } : Room)).room s m ([Value.ref (ad 0), Value.int a1] : List Value).toArray below meth c H locs 0 0 (MQ below (va_Qi (fun (r : Int32) (u : hSt) => Q r u) (hE D (fun u : hSt => hC N ad (bY cy ad w) u)) (hA N ad s.heap.size)) ([Value.ref (ad 0), Value.int a1] : List Value).toArray s 0 0 (hA N ad s.heap.size)) (F0 m 34 ls []) := by
      intro H locs ls hw hP hS hl
      rw [ehJ34] at hw
      refine lv_iconst (v := 0) hx hb dX12_row_34 (by decide) ?_
      exact hJ35 _ _ _ _ hw hP hS (lv_sub hl [0] rfl)
    refine lv_if_lt (tgt := 34) hx hb dX12_row_11 (by decide) (fun c10 => ?_) (fun c10 => ?_)
    · have hw := hw.1 c10
      exact hJ34  _ _ _ hw hP hS (lv_sub hl [0] rfl)
    have hw := hw.2 c10
    refine lv_aload_n hx hb dX12_row_14 rfl (lv_at hl 0 rfl) ?_
    refine hw_get (v := .int (σ1 0 29)) hx hb hts hiX12 hown hK hP (Nat.lt_of_lt_of_le (by decide) hN) (bY_0 _) rfl 29 (by decide) (List.mem_of_getElem? (i := 1) rfl) rfl rfl dX12_row_15 ?_
    refine lv_iload_n hx hb dX12_row_18 rfl (lv_at hl 1 rfl) ?_
    refine lv_icmp_ne (tgt := 34) hx hb dX12_row_19 (by decide) (fun c11 => ?_) (fun c11 => ?_)
    · have hw := hw.1 c11
      exact hJ34  _ _ _ hw hP hS (lv_sub hl [0] rfl)
    have hw := hw.2 c11
    refine lv_iload_n hx hb dX12_row_22 rfl (lv_at hl 1 rfl) ?_
    refine lv_aload_n hx hb dX12_row_23 rfl (lv_at hl 0 rfl) ?_
    refine hw_ki (va_runV (As := []) (rest := [.int a1]) ⟨hx, hb, hml, hown, hts⟩ (kc_X12_all l D cy N hN ad hJ0 w σ1 _  _ hw) (cwV 0 hts gX12_row_X12_all rfl rfl rfl (by decide +kernel) ⟨Nat.le_of_ble_eq_true rfl, Nat.le_of_ble_eq_true rfl⟩) (hw_preV hK hN1 hP (Nat.lt_of_lt_of_le (by decide) hN) (bY_0 _) rfl) rfl rfl hl.1 rfl (lv_room (Nat.le_of_ble_eq_true rfl)) dX12_row_24 ⟨Nat.zero_le _, Nat.zero_le _⟩) hS (fun r13 σ12 H locs hw hP hS => ?_)
    obtain ⟨hu_, hw⟩ := hw
    rw [hu_] at hP
    refine lv_icmp_ge (tgt := 34) hx hb dX12_row_27 (by decide) (fun c14 => ?_) (fun c14 => ?_)
    · have hw := hw.1 c14
      exact hJ34  _ _ _ hw hP hS (lv_sub hl [0] rfl)
    have hw := hw.2 c14
    refine lv_iconst (v := 1) hx hb dX12_row_30 (by decide) ?_
    refine lv_goto (tgt := 35) hx hb dX12_row_31 (by decide) ?_
    exact hJ35 _ _ _ _ hw hP hS (lv_sub hl [0] rfl)
  refine lv_if_lt (tgt := 10) hx hb dX12_row_1 (by decide) (fun c15 => ?_) (fun c15 => ?_)
  · have hw := hw.1 c15
    exact hJ10 _ _ _ _ hw hP hS (lv_sub hl [0, 1] rfl)
  have hw := hw.2 c15
  refine lv_aload_n hx hb dX12_row_4 rfl (lv_at hl 0 rfl) ?_
  refine lv_iconst (v := 1) hx hb dX12_row_5 (by decide) ?_
  refine lv_iload_n hx hb dX12_row_6 rfl (lv_at hl 1 rfl) ?_
  refine hw_kv (va_runV (As := [.int (1 : Int32), .int a1]) (rest := []) ⟨hx, hb, hml, hown, hts⟩ (kc_X12_ringAll l D cy N hN ad hJ0 w σ _ (1 : Int32) a1 _ hw) (cwV 2 hts gX12_row_X12_ringAll rfl rfl rfl (by decide +kernel) ⟨Nat.le_of_ble_eq_true rfl, Nat.le_of_ble_eq_true rfl⟩) (hw_preV hK hN1 hP (Nat.lt_of_lt_of_le (by decide) hN) (bY_0 _) rfl) rfl rfl hl.1 rfl (lv_room (Nat.le_of_ble_eq_true rfl)) dX12_row_7 ⟨Nat.zero_le _, Nat.zero_le _⟩) hS (fun σ16 H locs hw hP hS => ?_)
  exact hJ10 _ _ _ _ hw hP hS (lv_sub hl [0, 1] rfl)
set_option maxHeartbeats 4000000 in
set_option maxRecDepth 100000 in
theorem kc_X12_isPattern (l : Launch) (D : va_G) (cy : Nat → ClassId) (N : Nat) (hN : 22 ≤ N) (ad : Nat → Nat) (hJ0 : hJ N ad) (w : Nat → Int64) (σ : hSt) (sz : Nat) (a1 : Int32) (Q : Int32 → hSt → Prop) (hw : wp_X12_isPattern a1 σ w Q) : Met l yX12_isPattern wsX12_isPattern ({ frames := 0, cells := 0, slots := 0, locals := 0 } : Room) (va_Pc [.ref (ad 0), .int a1] (hB D cy (hC N ad (bY cy ad w) σ) sz)) (va_Qi (fun (r : Int32) (u : hSt) => Q r u) (hE D (fun u : hSt => hC N ad (bY cy ad w) u)) (hA N ad sz)) 0 0 (hA N ad sz) := by
  refine Met.ofW (cc := cX12_isPattern) (maxL := 4) (ret := (some .boolean)) (by decide) rfl ?_
  intro p e s m args below meth c s₁ B hml hv
  obtain ⟨rfl, hsz, hP, hK, hN1⟩ := hv
  have hx := B.exec
  have hb := B.bytes
  have hr := B.returns
  have hts := atoms_spec (ws := wsX12_isPattern) B.pre
  have hown : s.vm.findClass RX12 = some m.cls := findClass_of_methodNamed B.named
  have hlocks := B.notSynchronized
  subst hsz
  have hS : va_S (hA N ad s.heap.size) s.heap s.heap [] := va_S.rf
  have hiX12 : ∀ w ∈ wsX120, w ∈ wsX12_isPattern := fun _ h => List.mem_cons_of_mem _ (List.mem_append_right _ h)
  have hl := lv_entry ([.ref (ad 0), .int a1]) (n := 4) (Nat.le_of_ble_eq_true rfl)
  rw [lg_entry_eq]
  generalize (lg_sl ([.ref (ad 0), .int a1]) ++ List.replicate (4 - (lg_sl ([.ref (ad 0), .int a1])).length) Slot.unset).toArray = ls at hl ⊢
  have hl : lv_has ls 4 [(0, .ref (ad 0)), (1, .int a1)] := hl
  unfold wp_X12_isPattern at hw
  refine lv_aload_n hx hb dX12_isPattern_0 rfl (lv_at hl 0 rfl) ?_
  refine lv_iconst (v := -1) hx hb dX12_isPattern_1 (by decide) ?_
  refine hw_put (x := (-1 : Int32)) (j := 33) hx hb hts hiX12 tyX12 tyX12_ok nmX12 hown hK hJ0 hP hS (Nat.lt_of_lt_of_le (by decide) hN) (bY_0 _) rfl (by decide) (List.mem_of_getElem? (i := 1) rfl) rfl rfl rfl rfl (Nat.le_of_ble_eq_true rfl) (by rw [bY_0]; rfl) dX12_isPattern_2 (fun H locs hP hS => ?_)
  refine lv_iconst (v := 0) hx hb dX12_isPattern_5 (by decide) ?_
  refine lv_istore_n (lv' := [(2, .int (0 : Int32)), (0, .ref (ad 0)), (1, .int a1)]) hx hb dX12_isPattern_6 rfl hl (by decide) rfl (fun ls hl => ?_)
  refine hw (fun (v2_1 : Int32) (σ2 : hSt) => ∀ (H : Heap) (locs : List Loc) (ls : Array Slot), va_P D vwCl (hC N ad (bY cy ad w) σ2) H → va_S (hA N ad s.heap.size) s.heap H locs → lv_has ls 4 [(0, .ref (ad 0)), (1, .int a1), (2, .int v2_1)] → W p l e (headSpec wsX12_isPattern ({ frames := 0, cells := 0, slots := 0, locals := 0 } : Room)).room s m ([Value.ref (ad 0), Value.int a1] : List Value).toArray below meth c H locs 0 0 (MQ below (va_Qi (fun (r : Int32) (u : hSt) => Q r u) (hE D (fun u : hSt => hC N ad (bY cy ad w) u)) (hA N ad s.heap.size)) ([Value.ref (ad 0), Value.int a1] : List Value).toArray s 0 0 (hA N ad s.heap.size)) (F0 m 7 ls [])) (fun v2_1 σ2 hw H locs ls hP hS hl => ?_) _ _ _ hP hS (lv_sub hl [1, 2, 0] rfl)
  refine lv_iload_n hx hb dX12_isPattern_7 rfl (lv_at hl 2 rfl) ?_
  refine lv_bipush (v := 9) hx hb dX12_isPattern_8 (by decide) ?_
  refine lv_icmp_ge (tgt := 26) hx hb dX12_isPattern_10 (by decide) (fun c3 => ?_) (fun c3 => ?_)
  · have hw := hw.1 c3
    refine lv_iconst (v := 0) hx hb dX12_isPattern_26 (by decide) ?_
    refine lv_istore_n (lv' := [(2, .int (0 : Int32)), (0, .ref (ad 0)), (1, .int a1)]) hx hb dX12_isPattern_27 rfl hl (by decide) rfl (fun ls hl => ?_)
    refine hw (fun (v2_4 : Int32) (σ5 : hSt) => ∀ (H : Heap) (locs : List Loc) (ls : Array Slot), va_P D vwCl (hC N ad (bY cy ad w) σ5) H → va_S (hA N ad s.heap.size) s.heap H locs → lv_has ls 4 [(0, .ref (ad 0)), (1, .int a1), (2, .int v2_4)] → W p l e (headSpec wsX12_isPattern ({ frames := 0, cells := 0, slots := 0, locals := 0 } : Room)).room s m ([Value.ref (ad 0), Value.int a1] : List Value).toArray below meth c H locs 0 0 (MQ below (va_Qi (fun (r : Int32) (u : hSt) => Q r u) (hE D (fun u : hSt => hC N ad (bY cy ad w) u)) (hA N ad s.heap.size)) ([Value.ref (ad 0), Value.int a1] : List Value).toArray s 0 0 (hA N ad s.heap.size)) (F0 m 28 ls [])) (fun v2_4 σ5 hw H locs ls hP hS hl => ?_) _ _ _ hP hS (lv_sub hl [1, 2, 0] rfl)
    refine lv_iload_n hx hb dX12_isPattern_28 rfl (lv_at hl 2 rfl) ?_
    refine lv_iload_n hx hb dX12_isPattern_29 rfl (lv_at hl 1 rfl) ?_
    refine lv_icmp_ge (tgt := 116) hx hb dX12_isPattern_30 (by decide) (fun c6 => ?_) (fun c6 => ?_)
    · have hw := hw.1 c6
      refine lv_aload_n hx hb dX12_isPattern_116 rfl (lv_at hl 0 rfl) ?_
      refine hw_get (v := .int (σ5 0 33)) hx hb hts hiX12 hown hK hP (Nat.lt_of_lt_of_le (by decide) hN) (bY_0 _) rfl 33 (by decide) (List.mem_of_getElem? (i := 1) rfl) rfl rfl dX12_isPattern_117 ?_
      refine lv_if_lt (tgt := 141) hx hb dX12_isPattern_120 (by decide) (fun c7 => ?_) (fun c7 => ?_)
      · have hw := hw.1 c7
        refine lv_iload_n hx hb dX12_isPattern_141 rfl (lv_at hl 1 rfl) ?_
        refine lv_aload_n hx hb dX12_isPattern_142 rfl (lv_at hl 0 rfl) ?_
        refine hw_get (v := .int (σ5 0 1)) hx hb hts hiX12 hown hK hP (Nat.lt_of_lt_of_le (by decide) hN) (bY_0 _) rfl 1 (by decide) (List.mem_of_getElem? (i := 4) rfl) rfl rfl dX12_isPattern_143 ?_
        refine lv_icmp_ne (tgt := 153) hx hb dX12_isPattern_146 (by decide) (fun c8 => ?_) (fun c8 => ?_)
        · have hw := hw.1 c8
          refine lv_iconst (v := 0) hx hb dX12_isPattern_153 (by decide) ?_
          exact hw_zret hx hb hr hlocks hbo_0 (σ5) hw hP hS dX12_isPattern_154
        have hw := hw.2 c8
        refine lv_iconst (v := 1) hx hb dX12_isPattern_149 (by decide) ?_
        refine lv_goto (tgt := 154) hx hb dX12_isPattern_150 (by decide) ?_
        exact hw_zret hx hb hr hlocks hbo_1 (σ5) hw hP hS dX12_isPattern_154
      have hw := hw.2 c7
      refine lv_iload_n hx hb dX12_isPattern_123 rfl (lv_at hl 1 rfl) ?_
      refine lv_iconst (v := 1) hx hb dX12_isPattern_124 (by decide) ?_
      refine lv_isub hx hb dX12_isPattern_125 ?_
      refine lv_aload_n hx hb dX12_isPattern_126 rfl (lv_at hl 0 rfl) ?_
      refine hw_get (v := .int (σ5 0 1)) hx hb hts hiX12 hown hK hP (Nat.lt_of_lt_of_le (by decide) hN) (bY_0 _) rfl 1 (by decide) (List.mem_of_getElem? (i := 4) rfl) rfl rfl dX12_isPattern_127 ?_
      refine lv_icmp_gt (tgt := 137) hx hb dX12_isPattern_130 (by decide) (fun c9 => ?_) (fun c9 => ?_)
      · have hw := hw.1 c9
        refine lv_iconst (v := 0) hx hb dX12_isPattern_137 (by decide) ?_
        refine lv_goto (tgt := 154) hx hb dX12_isPattern_138 (by decide) ?_
        exact hw_zret hx hb hr hlocks hbo_0 (σ5) hw hP hS dX12_isPattern_154
      have hw := hw.2 c9
      refine lv_iconst (v := 1) hx hb dX12_isPattern_133 (by decide) ?_
      refine lv_goto (tgt := 154) hx hb dX12_isPattern_134 (by decide) ?_
      exact hw_zret hx hb hr hlocks hbo_1 (σ5) hw hP hS dX12_isPattern_154
    have hw := hw.2 c6
    refine lv_aload_n hx hb dX12_isPattern_33 rfl (lv_at hl 0 rfl) ?_
    refine hw_get (v := .ref (ad 5)) hx hb hts hiX12 hown hK hP (Nat.lt_of_lt_of_le (by decide) hN) (bY_0 _) rfl 7 (by decide) (List.mem_of_getElem? (i := 3) rfl) rfl rfl dX12_isPattern_34 ?_
    refine lv_iload_n hx hb dX12_isPattern_37 rfl (lv_at hl 2 rfl) ?_
    obtain ⟨hi10, hw⟩ := hw
    refine hw_bald hx hb hK hP (Nat.lt_of_lt_of_le (by decide) hN) (bY_5 _) hi10 dX12_isPattern_38 ?_
    refine lv_topi (fun x3_11 ex3_11 => ?_)
    have hw := hw x3_11 ex3_11
    refine lv_istore_n (lv' := [(3, .int x3_11), (0, .ref (ad 0)), (1, .int a1), (2, .int v2_4)]) hx hb dX12_isPattern_39 rfl hl (by decide) rfl (fun ls hl => ?_)
    refine lv_iload_n hx hb dX12_isPattern_40 rfl (lv_at hl 0 rfl) ?_
    refine lv_bipush (v := 42) hx hb dX12_isPattern_41 (by decide) ?_
    refine lv_icmp_ne (tgt := 63) hx hb dX12_isPattern_43 (by decide) (fun c12 => ?_) (fun c12 => ?_)
    · have hw := hw.1 c12
      refine lv_iload_n hx hb dX12_isPattern_63 rfl (lv_at hl 0 rfl) ?_
      refine lv_bipush (v := 63) hx hb dX12_isPattern_64 (by decide) ?_
      refine lv_icmp_eq (tgt := 110) hx hb dX12_isPattern_66 (by decide) (fun c13 => ?_) (fun c13 => ?_)
      · have hw := hw.1 c13
        obtain ⟨x2_14, ex2_14⟩ : ∃ z : Int32, z = v2_4 + (1 : Int32) := ⟨_, rfl⟩
        have hw := hw x2_14 ex2_14
        refine lv_iinc (v := x2_14) (lv' := [(2, .int x2_14), (3, .int x3_11), (0, .ref (ad 0)), (1, .int a1)]) hx hb dX12_isPattern_110 hl (k := 3) rfl (by rw [ex2_14]; rfl) (by decide) rfl (fun ls hl => ?_)
        refine lv_goto (tgt := 28) hx hb dX12_isPattern_113 (by decide) ?_
        exact hw _ _ _ hP hS (lv_sub hl [2, 3, 0] rfl)
      have hw := hw.2 c13
      refine lv_iload_n hx hb dX12_isPattern_69 rfl (lv_at hl 0 rfl) ?_
      refine lv_bipush (v := 49) hx hb dX12_isPattern_70 (by decide) ?_
      refine lv_icmp_lt (tgt := 98) hx hb dX12_isPattern_72 (by decide) (fun c15 => ?_) (fun c15 => ?_)
      · have hw := hw.1 c15
        refine lv_iconst (v := 0) hx hb dX12_isPattern_98 (by decide) ?_
        exact hw_zret hx hb hr hlocks hbo_0 (σ5) hw hP hS dX12_isPattern_99
      have hw := hw.2 c15
      refine lv_iload_n hx hb dX12_isPattern_75 rfl (lv_at hl 0 rfl) ?_
      refine lv_bipush (v := 48) hx hb dX12_isPattern_76 (by decide) ?_
      refine lv_aload_n hx hb dX12_isPattern_78 rfl (lv_at hl 1 rfl) ?_
      refine hw_get (v := .int (σ5 0 1)) hx hb hts hiX12 hown hK hP (Nat.lt_of_lt_of_le (by decide) hN) (bY_0 _) rfl 1 (by decide) (List.mem_of_getElem? (i := 4) rfl) rfl rfl dX12_isPattern_79 ?_
      refine lv_iadd hx hb dX12_isPattern_82 ?_
      refine lv_icmp_gt (tgt := 98) hx hb dX12_isPattern_83 (by decide) (fun c16 => ?_) (fun c16 => ?_)
      · have hw := hw.1 c16
        refine lv_iconst (v := 0) hx hb dX12_isPattern_98 (by decide) ?_
        exact hw_zret hx hb hr hlocks hbo_0 (σ5) hw hP hS dX12_isPattern_99
      have hw := hw.2 c16
      refine lv_aload_n hx hb dX12_isPattern_86 rfl (lv_at hl 1 rfl) ?_
      refine hw_get (v := .ref (ad 18)) hx hb hts hiX12 hown hK hP (Nat.lt_of_lt_of_le (by decide) hN) (bY_0 _) rfl 32 (by decide) (List.mem_of_getElem? (i := 2) rfl) rfl rfl dX12_isPattern_87 ?_
      refine lv_iload_n hx hb dX12_isPattern_90 rfl (lv_at hl 0 rfl) ?_
      refine lv_bipush (v := 48) hx hb dX12_isPattern_91 (by decide) ?_
      refine lv_isub hx hb dX12_isPattern_93 ?_
      obtain ⟨hi17, hw⟩ := hw
      refine hw_zald hx hb hK hP (Nat.lt_of_lt_of_le (by decide) hN) (bY_18 _) hi17 dX12_isPattern_94 ?_
      refine lv_if_eq (tgt := 100) hx hb dX12_isPattern_95 (by decide) (fun c18 => ?_) (fun c18 => ?_)
      · have hw := hw.1 c18
        refine lv_aload_n hx hb dX12_isPattern_100 rfl (lv_at hl 1 rfl) ?_
        refine hw_get (v := .ref (ad 18)) hx hb hts hiX12 hown hK hP (Nat.lt_of_lt_of_le (by decide) hN) (bY_0 _) rfl 32 (by decide) (List.mem_of_getElem? (i := 2) rfl) rfl rfl dX12_isPattern_101 ?_
        refine lv_iload_n hx hb dX12_isPattern_104 rfl (lv_at hl 0 rfl) ?_
        refine lv_bipush (v := 48) hx hb dX12_isPattern_105 (by decide) ?_
        refine lv_isub hx hb dX12_isPattern_107 ?_
        refine lv_iconst (v := 1) hx hb dX12_isPattern_108 (by decide) ?_
        obtain ⟨hi19, hw⟩ := hw
        refine hw_zast hx hb hK hJ0 hP hS (Nat.lt_of_lt_of_le (by decide) hN) (fun ρ => bY_18 ρ) hi19 dX12_isPattern_109 (fun H locs hP hS => ?_)
        obtain ⟨x2_20, ex2_20⟩ : ∃ z : Int32, z = v2_4 + (1 : Int32) := ⟨_, rfl⟩
        have hw := hw x2_20 ex2_20
        refine lv_iinc (v := x2_20) (lv' := [(2, .int x2_20), (3, .int x3_11), (0, .ref (ad 0)), (1, .int a1)]) hx hb dX12_isPattern_110 hl (k := 3) rfl (by rw [ex2_20]; rfl) (by decide) rfl (fun ls hl => ?_)
        refine lv_goto (tgt := 28) hx hb dX12_isPattern_113 (by decide) ?_
        exact hw _ _ _ hP hS (lv_sub hl [2, 3, 0] rfl)
      have hw := hw.2 c18
      refine lv_iconst (v := 0) hx hb dX12_isPattern_98 (by decide) ?_
      exact hw_zret hx hb hr hlocks hbo_0 (σ5) hw hP hS dX12_isPattern_99
    have hw := hw.2 c12
    refine lv_aload_n hx hb dX12_isPattern_46 rfl (lv_at hl 1 rfl) ?_
    refine hw_get (v := .int (σ5 0 33)) hx hb hts hiX12 hown hK hP (Nat.lt_of_lt_of_le (by decide) hN) (bY_0 _) rfl 33 (by decide) (List.mem_of_getElem? (i := 1) rfl) rfl rfl dX12_isPattern_47 ?_
    refine lv_if_lt (tgt := 55) hx hb dX12_isPattern_50 (by decide) (fun c21 => ?_) (fun c21 => ?_)
    · have hw := hw.1 c21
      refine lv_aload_n hx hb dX12_isPattern_55 rfl (lv_at hl 1 rfl) ?_
      refine lv_iload_n hx hb dX12_isPattern_56 rfl (lv_at hl 3 rfl) ?_
      refine hw_put (x := v2_4) (j := 33) hx hb hts hiX12 tyX12 tyX12_ok nmX12 hown hK hJ0 hP hS (Nat.lt_of_lt_of_le (by decide) hN) (bY_0 _) rfl (by decide) (List.mem_of_getElem? (i := 1) rfl) rfl rfl rfl rfl (Nat.le_of_ble_eq_true rfl) (by rw [bY_0]; rfl) dX12_isPattern_57 (fun H locs hP hS => ?_)
      refine lv_goto (tgt := 110) hx hb dX12_isPattern_60 (by decide) ?_
      obtain ⟨x2_22, ex2_22⟩ : ∃ z : Int32, z = v2_4 + (1 : Int32) := ⟨_, rfl⟩
      have hw := hw x2_22 ex2_22
      refine lv_iinc (v := x2_22) (lv' := [(2, .int x2_22), (3, .int x3_11), (0, .ref (ad 0)), (1, .int a1)]) hx hb dX12_isPattern_110 hl (k := 3) rfl (by rw [ex2_22]; rfl) (by decide) rfl (fun ls hl => ?_)
      refine lv_goto (tgt := 28) hx hb dX12_isPattern_113 (by decide) ?_
      exact hw _ _ _ hP hS (lv_sub hl [2, 3, 0] rfl)
    have hw := hw.2 c21
    refine lv_iconst (v := 0) hx hb dX12_isPattern_53 (by decide) ?_
    exact hw_zret hx hb hr hlocks hbo_0 (σ5) hw hP hS dX12_isPattern_54
  have hw := hw.2 c3
  refine lv_aload_n hx hb dX12_isPattern_13 rfl (lv_at hl 0 rfl) ?_
  refine hw_get (v := .ref (ad 18)) hx hb hts hiX12 hown hK hP (Nat.lt_of_lt_of_le (by decide) hN) (bY_0 _) rfl 32 (by decide) (List.mem_of_getElem? (i := 2) rfl) rfl rfl dX12_isPattern_14 ?_
  refine lv_iload_n hx hb dX12_isPattern_17 rfl (lv_at hl 2 rfl) ?_
  refine lv_iconst (v := 0) hx hb dX12_isPattern_18 (by decide) ?_
  obtain ⟨hi23, hw⟩ := hw
  refine hw_zast hx hb hK hJ0 hP hS (Nat.lt_of_lt_of_le (by decide) hN) (fun ρ => bY_18 ρ) hi23 dX12_isPattern_19 (fun H locs hP hS => ?_)
  obtain ⟨x2_24, ex2_24⟩ : ∃ z : Int32, z = v2_1 + (1 : Int32) := ⟨_, rfl⟩
  have hw := hw x2_24 ex2_24
  refine lv_iinc (v := x2_24) (lv' := [(2, .int x2_24), (0, .ref (ad 0)), (1, .int a1)]) hx hb dX12_isPattern_20 hl (k := 2) rfl (by rw [ex2_24]; rfl) (by decide) rfl (fun ls hl => ?_)
  refine lv_goto (tgt := 7) hx hb dX12_isPattern_23 (by decide) ?_
  exact hw _ _ _ hP hS (lv_sub hl [1, 2, 0] rfl)

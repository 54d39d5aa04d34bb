set_option maxHeartbeats 4000000 in
set_option maxRecDepth 100000 in
theorem kc_X12_blanks (l : Launch) (D : va_G) (cy : Nat → ClassId) (N : Nat) (hN : 22 ≤ N) (ad : Nat → Nat) (hJ0 : hJ N ad) (w : Nat → Int64) (σ : hSt) (sz : Nat)  (Q : hSt → Prop) (hw : wp_X12_blanks  σ w Q) : Met l yX12_blanks wsX12_blanks ({ frames := 1, cells := 0, slots := 0, locals := 20 } : Room) (va_Pc [.ref (ad 0)] (hB D cy (hC N ad (bY cy ad w) σ) sz)) (va_Qv (fun u : hSt => Q u) (hE D (fun u : hSt => hC N ad (bY cy ad w) u)) (hA N ad sz)) 0 0 (hA N ad sz) := by
  refine Met.ofW (cc := cX12_blanks) (maxL := 1) (ret := none) (by decide) rfl ?_
  intro p e s m args below meth c s₁ B hml hv
  obtain ⟨rfl, hsz, hP, hK, hN1⟩ := hv
  have hx := B.exec
  have hb := B.bytes
  have hr := B.returns
  have hts := atoms_spec (ws := wsX12_blanks) B.pre
  have hown : s.vm.findClass RX12 = some m.cls := findClass_of_methodNamed B.named
  have hlocks := B.notSynchronized
  subst hsz
  have hS : va_S (hA N ad s.heap.size) s.heap s.heap [] := va_S.rf
  have hiX12 : ∀ w ∈ wsX120, w ∈ wsX12_blanks := fun _ h => List.mem_cons_of_mem _ (List.mem_append_right _ h)
  have hl := lv_entry ([.ref (ad 0)]) (n := 1) (Nat.le_of_ble_eq_true rfl)
  rw [lg_entry_eq]
  generalize (lg_sl ([.ref (ad 0)]) ++ List.replicate (1 - (lg_sl ([.ref (ad 0)])).length) Slot.unset).toArray = ls at hl ⊢
  have hl : lv_has ls 1 [(0, .ref (ad 0))] := hl
  unfold wp_X12_blanks at hw
  refine hw (fun (σ1 : hSt) => ∀ (H : Heap) (locs : List Loc) (ls : Array Slot), va_P D vwCl (hC N ad (bY cy ad w) σ1) H → va_S (hA N ad s.heap.size) s.heap H locs → lv_has ls 1 [(0, .ref (ad 0))] → W p l e (headSpec wsX12_blanks ({ frames := 1, cells := 0, slots := 0, locals := 20 } : Room)).room s m ([Value.ref (ad 0)] : List Value).toArray below meth c H locs 0 0 (MQ below (va_Qv (fun u : hSt => Q u) (hE D (fun u : hSt => hC N ad (bY cy ad w) u)) (hA N ad s.heap.size)) ([Value.ref (ad 0)] : List Value).toArray s 0 0 (hA N ad s.heap.size)) (F0 m 0 ls [])) (fun σ1 hw H locs ls hP hS hl => ?_) _ _ _ hP hS (lv_sub hl [0] rfl)
  refine lv_aload_n hx hb dX12_blanks_0 rfl (lv_at hl 0 rfl) ?_
  refine hw_ki (va_runV (As := []) (rest := []) ⟨hx, hb, hml, hown, hts⟩ (kc_X12_peek l D cy N hN ad hJ0 w σ1 _  _ hw) (cwV 0 hts gX12_blanks_X12_peek rfl rfl rfl (by decide +kernel) ⟨Nat.le_of_ble_eq_true rfl, Nat.le_of_ble_eq_true rfl⟩) (hw_preV hK hN1 hP (Nat.lt_of_lt_of_le (by decide) hN) (bY_0 _) rfl) rfl rfl hl.1 rfl (lv_room (Nat.le_of_ble_eq_true rfl)) dX12_blanks_1 ⟨Nat.zero_le _, Nat.zero_le _⟩) hS (fun r3 σ2 H locs hw hP hS => ?_)
  obtain ⟨hu_, hw⟩ := hw
  rw [hu_] at hP
  refine lv_bipush (v := 32) hx hb dX12_blanks_4 (by decide) ?_
  refine lv_icmp_eq (tgt := 18) hx hb dX12_blanks_6 (by decide) (fun c4 => ?_) (fun c4 => ?_)
  · have hw := hw.1 c4
    refine lv_aload_n hx hb dX12_blanks_18 rfl (lv_at hl 0 rfl) ?_
    refine lv_dup hx hb dX12_blanks_19 rfl ?_
    refine hw_get (v := .int (σ1 0 10)) hx hb hts hiX12 hown hK hP (Nat.lt_of_lt_of_le (by decide) hN) (bY_0 _) rfl 10 (by decide) (List.mem_of_getElem? (i := 1) rfl) rfl rfl dX12_blanks_20 ?_
    refine lv_iconst (v := 1) hx hb dX12_blanks_23 (by decide) ?_
    refine lv_iadd hx hb dX12_blanks_24 ?_
    refine hw_put (x := ((σ1 0 10) + (1 : Int32))) (j := 10) hx hb hts hiX12 tyX12 tyX12_ok nmX12 hown hK hJ0 hP hS (Nat.lt_of_lt_of_le (by decide) hN) (bY_0 _) rfl (by decide) (List.mem_of_getElem? (i := 1) rfl) rfl rfl rfl rfl (Nat.le_of_ble_eq_true rfl) (by rw [bY_0]; rfl) dX12_blanks_25 (fun H locs hP hS => ?_)
    refine lv_goto (tgt := 0) hx hb dX12_blanks_28 (by decide) ?_
    exact hw _ _ _ hP hS (lv_sub hl [0] rfl)
  have hw := hw.2 c4
  refine lv_aload_n hx hb dX12_blanks_9 rfl (lv_at hl 0 rfl) ?_
  refine hw_ki (va_runV (As := []) (rest := []) ⟨hx, hb, hml, hown, hts⟩ (kc_X12_peek l D cy N hN ad hJ0 w σ1 _  _ hw) (cwV 0 hts gX12_blanks_X12_peek rfl rfl rfl (by decide +kernel) ⟨Nat.le_of_ble_eq_true rfl, Nat.le_of_ble_eq_true rfl⟩) (hw_preV hK hN1 hP (Nat.lt_of_lt_of_le (by decide) hN) (bY_0 _) rfl) rfl rfl hl.1 rfl (lv_room (Nat.le_of_ble_eq_true rfl)) dX12_blanks_10 ⟨Nat.zero_le _, Nat.zero_le _⟩) hS (fun r6 σ5 H locs hw hP hS => ?_)
  obtain ⟨hu_, hw⟩ := hw
  rw [hu_] at hP
  refine lv_bipush (v := 10) hx hb dX12_blanks_13 (by decide) ?_
  refine lv_icmp_ne (tgt := 31) hx hb dX12_blanks_15 (by decide) (fun c7 => ?_) (fun c7 => ?_)
  · have hw := hw.1 c7
    exact hw_vret hx hb hr hlocks (σ1) hw hP hS dX12_blanks_31
  have hw := hw.2 c7
  refine lv_aload_n hx hb dX12_blanks_18 rfl (lv_at hl 0 rfl) ?_
  refine lv_dup hx hb dX12_blanks_19 rfl ?_
  refine hw_get (v := .int (σ1 0 10)) hx hb hts hiX12 hown hK hP (Nat.lt_of_lt_of_le (by decide) hN) (bY_0 _) rfl 10 (by decide) (List.mem_of_getElem? (i := 1) rfl) rfl rfl dX12_blanks_20 ?_
  refine lv_iconst (v := 1) hx hb dX12_blanks_23 (by decide) ?_
  refine lv_iadd hx hb dX12_blanks_24 ?_
  refine hw_put (x := ((σ1 0 10) + (1 : Int32))) (j := 10) hx hb hts hiX12 tyX12 tyX12_ok nmX12 hown hK hJ0 hP hS (Nat.lt_of_lt_of_le (by decide) hN) (bY_0 _) rfl (by decide) (List.mem_of_getElem? (i := 1) rfl) rfl rfl rfl rfl (Nat.le_of_ble_eq_true rfl) (by rw [bY_0]; rfl) dX12_blanks_25 (fun H locs hP hS => ?_)
  refine lv_goto (tgt := 0) hx hb dX12_blanks_28 (by decide) ?_
  exact hw _ _ _ hP hS (lv_sub hl [0] rfl)
set_option maxHeartbeats 4000000 in
set_option maxRecDepth 100000 in
theorem kc_X12_isDigit (l : Launch) (D : va_G) (cy : Nat → ClassId) (N : Nat) (ad : Nat → Nat) (b : hCell) (σ : hSt) (sz : Nat) (a0 : Int32) (Q : Int32 → Prop) (hw : wp_X12_isDigit a0 Q) : Met l yX12_isDigit wsX12_isDigit ({ frames := 0, cells := 0, slots := 0, locals := 0 } : Room) (va_Pc [.int a0] (hB D cy (hC N ad b σ) sz)) (va_Qi (fun (r : Int32) (u : hSt) => u = σ ∧ Q r) (hE D (fun u : hSt => hC N ad b u)) (hA N ad sz)) 0 0 (hA N ad sz) := by
  refine Met.ofW (cc := cX12_isDigit) (maxL := 1) (ret := (some .boolean)) (by decide) rfl ?_
  intro p e s m args below meth c s₁ B hml hv
  obtain ⟨rfl, hsz, hP, hK, hN1⟩ := hv
  have hx := B.exec
  have hb := B.bytes
  have hr := B.returns
  have hts := atoms_spec (ws := wsX12_isDigit) B.pre
  have hown : s.vm.findClass RX12 = some m.cls := findClass_of_methodNamed B.named
  have hlocks := B.notSynchronized
  subst hsz
  have hS : va_S (hA N ad s.heap.size) s.heap s.heap [] := va_S.rf
  have hl := lv_entry ([.int a0]) (n := 1) (Nat.le_of_ble_eq_true rfl)
  rw [lg_entry_eq]
  generalize (lg_sl ([.int a0]) ++ List.replicate (1 - (lg_sl ([.int a0])).length) Slot.unset).toArray = ls at hl ⊢
  have hl : lv_has ls 1 [(0, .int a0)] := hl
  unfold wp_X12_isDigit at hw
  refine lv_iload_n hx hb dX12_isDigit_0 rfl (lv_at hl 0 rfl) ?_
  refine lv_bipush (v := 48) hx hb dX12_isDigit_1 (by decide) ?_
  refine lv_icmp_lt (tgt := 16) hx hb dX12_isDigit_3 (by decide) (fun c1 => ?_) (fun c1 => ?_)
  · have hw := hw.1 c1
    refine lv_iconst (v := 0) hx hb dX12_isDigit_16 (by decide) ?_
    exact hw_zret hx hb hr hlocks hbo_0 (σ) ⟨rfl, hw⟩ hP hS dX12_isDigit_17
  have hw := hw.2 c1
  refine lv_iload_n hx hb dX12_isDigit_6 rfl (lv_at hl 0 rfl) ?_
  refine lv_bipush (v := 57) hx hb dX12_isDigit_7 (by decide) ?_
  refine lv_icmp_gt (tgt := 16) hx hb dX12_isDigit_9 (by decide) (fun c2 => ?_) (fun c2 => ?_)
  · have hw := hw.1 c2
    refine lv_iconst (v := 0) hx hb dX12_isDigit_16 (by decide) ?_
    exact hw_zret hx hb hr hlocks hbo_0 (σ) ⟨rfl, hw⟩ hP hS dX12_isDigit_17
  have hw := hw.2 c2
  refine lv_iconst (v := 1) hx hb dX12_isDigit_12 (by decide) ?_
  refine lv_goto (tgt := 17) hx hb dX12_isDigit_13 (by decide) ?_
  exact hw_zret hx hb hr hlocks hbo_1 (σ) ⟨rfl, hw⟩ hP hS dX12_isDigit_17
set_option maxHeartbeats 4000000 in
set_option maxRecDepth 100000 in
theorem kc_X12_isBell (l : Launch) (D : va_G) (cy : Nat → ClassId) (N : Nat) (ad : Nat → Nat) (b : hCell) (σ : hSt) (sz : Nat) (a0 : Int32) (Q : Int32 → Prop) (hw : wp_X12_isBell a0 Q) : Met l yX12_isBell wsX12_isBell ({ frames := 0, cells := 0, slots := 0, locals := 0 } : Room) (va_Pc [.int a0] (hB D cy (hC N ad b σ) sz)) (va_Qi (fun (r : Int32) (u : hSt) => u = σ ∧ Q r) (hE D (fun u : hSt => hC N ad b u)) (hA N ad sz)) 0 0 (hA N ad sz) := by
  refine Met.ofW (cc := cX12_isBell) (maxL := 1) (ret := (some .boolean)) (by decide) rfl ?_
  intro p e s m args below meth c s₁ B hml hv
  obtain ⟨rfl, hsz, hP, hK, hN1⟩ := hv
  have hx := B.exec
  have hb := B.bytes
  have hr := B.returns
  have hts := atoms_spec (ws := wsX12_isBell) B.pre
  have hown : s.vm.findClass RX12 = some m.cls := findClass_of_methodNamed B.named
  have hlocks := B.notSynchronized
  subst hsz
  have hS : va_S (hA N ad s.heap.size) s.heap s.heap [] := va_S.rf
  have hl := lv_entry ([.int a0]) (n := 1) (Nat.le_of_ble_eq_true rfl)
  rw [lg_entry_eq]
  generalize (lg_sl ([.int a0]) ++ List.replicate (1 - (lg_sl ([.int a0])).length) Slot.unset).toArray = ls at hl ⊢
  have hl : lv_has ls 1 [(0, .int a0)] := hl
  unfold wp_X12_isBell at hw
  refine lv_iload_n hx hb dX12_isBell_0 rfl (lv_at hl 0 rfl) ?_
  refine lv_bipush (v := 49) hx hb dX12_isBell_1 (by decide) ?_
  refine lv_icmp_lt (tgt := 16) hx hb dX12_isBell_3 (by decide) (fun c1 => ?_) (fun c1 => ?_)
  · have hw := hw.1 c1
    refine lv_iconst (v := 0) hx hb dX12_isBell_16 (by decide) ?_
    exact hw_zret hx hb hr hlocks hbo_0 (σ) ⟨rfl, hw⟩ hP hS dX12_isBell_17
  have hw := hw.2 c1
  refine lv_iload_n hx hb dX12_isBell_6 rfl (lv_at hl 0 rfl) ?_
  refine lv_bipush (v := 56) hx hb dX12_isBell_7 (by decide) ?_
  refine lv_icmp_gt (tgt := 16) hx hb dX12_isBell_9 (by decide) (fun c2 => ?_) (fun c2 => ?_)
  · have hw := hw.1 c2
    refine lv_iconst (v := 0) hx hb dX12_isBell_16 (by decide) ?_
    exact hw_zret hx hb hr hlocks hbo_0 (σ) ⟨rfl, hw⟩ hP hS dX12_isBell_17
  have hw := hw.2 c2
  refine lv_iconst (v := 1) hx hb dX12_isBell_12 (by decide) ?_
  refine lv_goto (tgt := 17) hx hb dX12_isBell_13 (by decide) ?_
  exact hw_zret hx hb hr hlocks hbo_1 (σ) ⟨rfl, hw⟩ hP hS dX12_isBell_17
set_option maxHeartbeats 4000000 in
set_option maxRecDepth 100000 in
theorem kc_X12_wrong (l : Launch) (D : va_G) (cy : Nat → ClassId) (N : Nat) (hN : 22 ≤ N) (ad : Nat → Nat) (hJ0 : hJ N ad) (w : Nat → Int64) (σ : hSt) (sz : Nat) (a1 : Int32) (a2 : Int32) (Q : Int32 → hSt → Prop) (hw : wp_X12_wrong a1 a2 σ w Q) : Met l yX12_wrong wsX12_wrong ({ frames := 0, cells := 0, slots := 0, locals := 0 } : Room) (va_Pc [.ref (ad 0), .int a1, .int a2] (hB D cy (hC N ad (bY cy ad w) σ) sz)) (va_Qi (fun (r : Int32) (u : hSt) => Q r u) (hE D (fun u : hSt => hC N ad (bY cy ad w) u)) (hA N ad sz)) 0 0 (hA N ad sz) := by
  refine Met.ofW (cc := cX12_wrong) (maxL := 3) (ret := (some .boolean)) (by decide) rfl ?_
  intro p e s m args below meth c s₁ B hml hv
  obtain ⟨rfl, hsz, hP, hK, hN1⟩ := hv
  have hx := B.exec
  have hb := B.bytes
  have hr := B.returns
  have hts := atoms_spec (ws := wsX12_wrong) B.pre
  have hown : s.vm.findClass RX12 = some m.cls := findClass_of_methodNamed B.named
  have hlocks := B.notSynchronized
  subst hsz
  have hS : va_S (hA N ad s.heap.size) s.heap s.heap [] := va_S.rf
  have hiX12 : ∀ w ∈ wsX120, w ∈ wsX12_wrong := fun _ h => List.mem_cons_of_mem _ (List.mem_append_right _ h)
  have hl := lv_entry ([.ref (ad 0), .int a1, .int a2]) (n := 3) (Nat.le_of_ble_eq_true rfl)
  rw [lg_entry_eq]
  generalize (lg_sl ([.ref (ad 0), .int a1, .int a2]) ++ List.replicate (3 - (lg_sl ([.ref (ad 0), .int a1, .int a2])).length) Slot.unset).toArray = ls at hl ⊢
  have hl : lv_has ls 3 [(0, .ref (ad 0)), (1, .int a1), (2, .int a2)] := hl
  unfold wp_X12_wrong at hw
  refine lv_aload_n hx hb dX12_wrong_0 rfl (lv_at hl 0 rfl) ?_
  refine lv_iload_n hx hb dX12_wrong_1 rfl (lv_at hl 1 rfl) ?_
  refine hw_put (x := a1) (j := 11) hx hb hts hiX12 tyX12 tyX12_ok nmX12 hown hK hJ0 hP hS (Nat.lt_of_lt_of_le (by decide) hN) (bY_0 _) rfl (by decide) (List.mem_of_getElem? (i := 1) rfl) rfl rfl rfl rfl (Nat.le_of_ble_eq_true rfl) (by rw [bY_0]; rfl) dX12_wrong_2 (fun H locs hP hS => ?_)
  refine lv_aload_n hx hb dX12_wrong_5 rfl (lv_at hl 0 rfl) ?_
  refine lv_iload_n hx hb dX12_wrong_6 rfl (lv_at hl 2 rfl) ?_
  refine hw_put (x := a2) (j := 12) hx hb hts hiX12 tyX12 tyX12_ok nmX12 hown hK hJ0 hP hS (Nat.lt_of_lt_of_le (by decide) hN) (bY_0 _) rfl (by decide) (List.mem_of_getElem? (i := 2) rfl) rfl rfl rfl rfl (Nat.le_of_ble_eq_true rfl) (by rw [bY_0]; rfl) dX12_wrong_7 (fun H locs hP hS => ?_)
  refine lv_iconst (v := 0) hx hb dX12_wrong_10 (by decide) ?_
  exact hw_zret hx hb hr hlocks hbo_0 ((hup (hup σ 0 11 a1) 0 12 a2)) hw hP hS dX12_wrong_11
set_option maxHeartbeats 4000000 in
set_option maxRecDepth 100000 in
theorem kc_X12_stage (l : Launch) (D : va_G) (cy : Nat → ClassId) (N : Nat) (hN : 22 ≤ N) (ad : Nat → Nat) (hJ0 : hJ N ad) (w : Nat → Int64) (σ : hSt) (sz : Nat) (a1 : Int32) (Q : Int32 → hSt → Prop) (hw : wp_X12_stage a1 σ w Q) : Met l yX12_stage wsX12_stage ({ frames := 0, cells := 0, slots := 0, locals := 0 } : Room) (va_Pc [.ref (ad 0), .int a1] (hB D cy (hC N ad (bY cy ad w) σ) sz)) (va_Qi (fun (r : Int32) (u : hSt) => Q r u) (hE D (fun u : hSt => hC N ad (bY cy ad w) u)) (hA N ad sz)) 0 0 (hA N ad sz) := by
  refine Met.ofW (cc := cX12_stage) (maxL := 3) (ret := (some .boolean)) (by decide) rfl ?_
  intro p e s m args below meth c s₁ B hml hv
  obtain ⟨rfl, hsz, hP, hK, hN1⟩ := hv
  have hx := B.exec
  have hb := B.bytes
  have hr := B.returns
  have hts := atoms_spec (ws := wsX12_stage) B.pre
  have hown : s.vm.findClass RX12 = some m.cls := findClass_of_methodNamed B.named
  have hlocks := B.notSynchronized
  subst hsz
  have hS : va_S (hA N ad s.heap.size) s.heap s.heap [] := va_S.rf
  have hiX12 : ∀ w ∈ wsX120, w ∈ wsX12_stage := fun _ h => List.mem_cons_of_mem _ (List.mem_append_right _ h)
  have hl := lv_entry ([.ref (ad 0), .int a1]) (n := 3) (Nat.le_of_ble_eq_true rfl)
  rw [lg_entry_eq]
  generalize (lg_sl ([.ref (ad 0), .int a1]) ++ List.replicate (3 - (lg_sl ([.ref (ad 0), .int a1])).length) Slot.unset).toArray = ls at hl ⊢
  have hl : lv_has ls 3 [(0, .ref (ad 0)), (1, .int a1)] := hl
  unfold wp_X12_stage at hw
  refine lv_aload_n hx hb dX12_stage_0 rfl (lv_at hl 0 rfl) ?_
  refine lv_iconst (v := 0) hx hb dX12_stage_1 (by decide) ?_
  refine hw_put (x := (0 : Int32)) (j := 0) hx hb hts hiX12 tyX12 tyX12_ok nmX12 hown hK hJ0 hP hS (Nat.lt_of_lt_of_le (by decide) hN) (bY_0 _) rfl (by decide) (List.mem_of_getElem? (i := 1) rfl) rfl rfl rfl rfl (Nat.le_of_ble_eq_true rfl) (by rw [bY_0]; rfl) dX12_stage_2 (fun H locs hP hS => ?_)
  refine lv_iload_n hx hb dX12_stage_5 rfl (lv_at hl 1 rfl) ?_
  refine lv_iconst (v := 4) hx hb dX12_stage_6 (by decide) ?_
  refine lv_icmp_lt (tgt := 16) hx hb dX12_stage_7 (by decide) (fun c1 => ?_) (fun c1 => ?_)
  · have hw := hw.1 c1
    refine lv_iconst (v := 0) hx hb dX12_stage_16 (by decide) ?_
    exact hw_zret hx hb hr hlocks hbo_0 ((hup σ 0 0 (0 : Int32))) hw hP hS dX12_stage_17
  have hw := hw.2 c1
  refine lv_iload_n hx hb dX12_stage_10 rfl (lv_at hl 1 rfl) ?_
  refine lv_bipush (v := 8) hx hb dX12_stage_11 (by decide) ?_
  refine lv_icmp_le (tgt := 18) hx hb dX12_stage_13 (by decide) (fun c2 => ?_) (fun c2 => ?_)
  · have hw := hw.1 c2
    refine lv_aload_n hx hb dX12_stage_18 rfl (lv_at hl 0 rfl) ?_
    refine lv_iload_n hx hb dX12_stage_19 rfl (lv_at hl 1 rfl) ?_
    refine hw_put (x := a1) (j := 1) hx hb hts hiX12 tyX12 tyX12_ok nmX12 hown hK hJ0 hP hS (Nat.lt_of_lt_of_le (by decide) hN) (bY_0 _) rfl (by decide) (List.mem_of_getElem? (i := 2) rfl) rfl rfl rfl rfl (Nat.le_of_ble_eq_true rfl) (by rw [bY_0]; rfl) dX12_stage_20 (fun H locs hP hS => ?_)
    refine lv_iconst (v := 0) hx hb dX12_stage_23 (by decide) ?_
    refine lv_istore_n (lv' := [(2, .int (0 : Int32)), (0, .ref (ad 0)), (1, .int a1)]) hx hb dX12_stage_24 rfl hl (by decide) rfl (fun ls hl => ?_)
    refine hw (fun (v2_3 : Int32) (σ4 : hSt) => ∀ (H : Heap) (locs : List Loc) (ls : Array Slot), va_P D vwCl (hC N ad (bY cy ad w) σ4) H → va_S (hA N ad s.heap.size) s.heap H locs → lv_has ls 3 [(0, .ref (ad 0)), (2, .int v2_3)] → W p l e (headSpec wsX12_stage ({ frames := 0, cells := 0, slots := 0, locals := 0 } : Room)).room s m ([Value.ref (ad 0), Value.int a1] : List Value).toArray below meth c H locs 0 0 (MQ below (va_Qi (fun (r : Int32) (u : hSt) => Q r u) (hE D (fun u : hSt => hC N ad (bY cy ad w) u)) (hA N ad s.heap.size)) ([Value.ref (ad 0), Value.int a1] : List Value).toArray s 0 0 (hA N ad s.heap.size)) (F0 m 25 ls [])) (fun v2_3 σ4 hw H locs ls hP hS hl => ?_) _ _ _ hP hS (lv_sub hl [1, 0] rfl)
    refine lv_iload_n hx hb dX12_stage_25 rfl (lv_at hl 1 rfl) ?_
    refine lv_bipush (v := 6) hx hb dX12_stage_26 (by decide) ?_
    refine lv_icmp_ge (tgt := 44) hx hb dX12_stage_28 (by decide) (fun c5 => ?_) (fun c5 => ?_)
    · have hw := hw.1 c5
      refine lv_aload_n hx hb dX12_stage_44 rfl (lv_at hl 0 rfl) ?_
      refine lv_iconst (v := 0) hx hb dX12_stage_45 (by decide) ?_
      refine hw_put (x := (0 : Int32)) (j := 6) hx hb hts hiX12 tyX12 tyX12_ok nmX12 hown hK hJ0 hP hS (Nat.lt_of_lt_of_le (by decide) hN) (bY_0 _) rfl (by decide) (List.mem_of_getElem? (i := 4) rfl) rfl rfl rfl rfl (Nat.le_of_ble_eq_true rfl) (by rw [bY_0]; rfl) dX12_stage_46 (fun H locs hP hS => ?_)
      refine lv_iconst (v := 1) hx hb dX12_stage_49 (by decide) ?_
      exact hw_zret hx hb hr hlocks hbo_1 ((hup σ4 0 6 (0 : Int32))) hw hP hS dX12_stage_50
    have hw := hw.2 c5
    refine lv_aload_n hx hb dX12_stage_31 rfl (lv_at hl 0 rfl) ?_
    refine hw_get (v := .ref (ad 1)) hx hb hts hiX12 hown hK hP (Nat.lt_of_lt_of_le (by decide) hN) (bY_0 _) rfl 2 (by decide) (List.mem_of_getElem? (i := 3) rfl) rfl rfl dX12_stage_32 ?_
    refine lv_iload_n hx hb dX12_stage_35 rfl (lv_at hl 1 rfl) ?_
    refine lv_iconst (v := 0) hx hb dX12_stage_36 (by decide) ?_
    obtain ⟨hi6, hw⟩ := hw
    refine hw_iast hx hb hK hJ0 hP hS (Nat.lt_of_lt_of_le (by decide) hN) (fun ρ => bY_1 ρ) hi6 dX12_stage_37 (fun H locs hP hS => ?_)
    obtain ⟨x2_7, ex2_7⟩ : ∃ z : Int32, z = v2_3 + (1 : Int32) := ⟨_, rfl⟩
    have hw := hw x2_7 ex2_7
    refine lv_iinc (v := x2_7) (lv' := [(2, .int x2_7), (0, .ref (ad 0))]) hx hb dX12_stage_38 hl (k := 1) rfl (by rw [ex2_7]; rfl) (by decide) rfl (fun ls hl => ?_)
    refine lv_goto (tgt := 25) hx hb dX12_stage_41 (by decide) ?_
    exact hw _ _ _ hP hS (lv_sub hl [1, 0] rfl)
  have hw := hw.2 c2
  refine lv_iconst (v := 0) hx hb dX12_stage_16 (by decide) ?_
  exact hw_zret hx hb hr hlocks hbo_0 ((hup σ 0 0 (0 : Int32))) hw hP hS dX12_stage_17
set_option maxHeartbeats 4000000 in
set_option maxRecDepth 100000 in
theorem kc_X12_readChange (l : Launch) (D : va_G) (cy : Nat → ClassId) (N : Nat) (hN : 22 ≤ N) (ad : Nat → Nat) (hJ0 : hJ N ad) (w : Nat → Int64) (σ : hSt) (sz : Nat)  (Q : Int32 → hSt → Prop) (hw : wp_X12_readChange  σ w Q) : Met l yX12_readChange wsX12_readChange ({ frames := 1, cells := 0, slots := 0, locals := 22 } : Room) (va_Pc [.ref (ad 0)] (hB D cy (hC N ad (bY cy ad w) σ) sz)) (va_Qi (fun (r : Int32) (u : hSt) => Q r u) (hE D (fun u : hSt => hC N ad (bY cy ad w) u)) (hA N ad sz)) 0 0 (hA N ad sz) := by
  refine Met.ofW (cc := cX12_readChange) (maxL := 6) (ret := (some .boolean)) (by decide) rfl ?_
  intro p e s m args below meth c s₁ B hml hv
  obtain ⟨rfl, hsz, hP, hK, hN1⟩ := hv
  have hx := B.exec
  have hb := B.bytes
  have hr := B.returns
  have hts := atoms_spec (ws := wsX12_readChange) B.pre
  have hown : s.vm.findClass RX12 = some m.cls := findClass_of_methodNamed B.named
  have hlocks := B.notSynchronized
  subst hsz
  have hS : va_S (hA N ad s.heap.size) s.heap s.heap [] := va_S.rf
  have hiX12 : ∀ w ∈ wsX120, w ∈ wsX12_readChange := fun _ h => List.mem_cons_of_mem _ (List.mem_append_right _ h)
  have hl := lv_entry ([.ref (ad 0)]) (n := 6) (Nat.le_of_ble_eq_true rfl)
  rw [lg_entry_eq]
  generalize (lg_sl ([.ref (ad 0)]) ++ List.replicate (6 - (lg_sl ([.ref (ad 0)])).length) Slot.unset).toArray = ls at hl ⊢
  have hl : lv_has ls 6 [(0, .ref (ad 0))] := hl
  unfold wp_X12_readChange at hw
  refine lv_aload_n hx hb dX12_readChange_0 rfl (lv_at hl 0 rfl) ?_
  refine hw_ki (va_runV (As := []) (rest := []) ⟨hx, hb, hml, hown, hts⟩ (kc_X12_peek l D cy N hN ad hJ0 w σ _  _ hw) (cwV 0 hts gX12_readChange_X12_peek rfl rfl rfl (by decide +kernel) ⟨Nat.le_of_ble_eq_true rfl, Nat.le_of_ble_eq_true rfl⟩) (hw_preV hK hN1 hP (Nat.lt_of_lt_of_le (by decide) hN) (bY_0 _) rfl) rfl rfl hl.1 rfl (lv_room (Nat.le_of_ble_eq_true rfl)) dX12_readChange_1 ⟨Nat.zero_le _, Nat.zero_le _⟩) hS (fun r2 σ1 H locs hw hP hS => ?_)
  obtain ⟨hu_, hw⟩ := hw
  rw [hu_] at hP
  refine lv_istore_n (lv' := [(1, .int r2), (0, .ref (ad 0))]) hx hb dX12_readChange_4 rfl hl (by decide) rfl (fun ls hl => ?_)
  refine lv_aload_n hx hb dX12_readChange_5 rfl (lv_at hl 1 rfl) ?_
  refine hw_get (v := .int (σ 0 10)) hx hb hts hiX12 hown hK hP (Nat.lt_of_lt_of_le (by decide) hN) (bY_0 _) rfl 10 (by decide) (List.mem_of_getElem? (i := 1) rfl) rfl rfl dX12_readChange_6 ?_
  refine lv_topi (fun x2_3 ex2_3 => ?_)
  have hw := hw x2_3 ex2_3
  refine lv_istore_n (lv' := [(2, .int x2_3), (1, .int r2), (0, .ref (ad 0))]) hx hb dX12_readChange_9 rfl hl (by decide) rfl (fun ls hl => ?_)
  refine lv_iload_n hx hb dX12_readChange_10 rfl (lv_at hl 1 rfl) ?_
  refine lv_bipush (v := 120) hx hb dX12_readChange_11 (by decide) ?_
  obtain ⟨J22, ehJ22, hw⟩ := hM_x hw
  have hJ22 : ∀ (H : Heap) (locs : List Loc) (ls : Array Slot), J22 → va_P D vwCl (hC N ad (bY cy ad w) σ) H → va_S (hA N ad s.heap.size) s.heap H locs → lv_has ls 6 [(0, .ref (ad 0))] → W p l e (headSpec wsX12_readChange ({ frames := 1, cells := 0, slots := 0, locals := 22 } : Room)).room s m ([Value.ref (ad 0)] : List Value).toArray below meth c H locs 0 0 (MQ below (va_Qi (fun (r : Int32) (u : hSt) => Q r u) (hE D (fun u : hSt => hC N ad (bY cy ad w) u)) (hA N ad s.heap.size)) ([Value.ref (ad 0)] : List Value).toArray s 0 0 (hA N ad s.heap.size)) (F0 m 22 ls []) := by
    intro H locs ls hw hP hS hl
    rw [ehJ22] at hw
    refine lv_aload_n hx hb dX12_readChange_22 rfl (lv_at hl 0 rfl) ?_
    refine hw_get (v := .int (σ 0 1)) hx hb hts hiX12 hown hK hP (Nat.lt_of_lt_of_le (by decide) hN) (bY_0 _) rfl 1 (by decide) (List.mem_of_getElem? (i := 2) rfl) rfl rfl dX12_readChange_23 ?_
    refine lv_iconst (v := 2) hx hb dX12_readChange_26 (by decide) ?_
    refine lv_irem hx hb dX12_readChange_27 (by decide) ?_
    refine lv_iconst (v := 1) hx hb dX12_readChange_28 (by decide) ?_
    refine lv_icmp_ne (tgt := 42) hx hb dX12_readChange_29 (by decide) (fun c4 => ?_) (fun c4 => ?_)
    · have hw := hw.1 c4
      refine lv_aload_n hx hb dX12_readChange_42 rfl (lv_at hl 0 rfl) ?_
      refine lv_iconst (v := 0) hx hb dX12_readChange_43 (by decide) ?_
      refine hw_put (x := (0 : Int32)) (j := 13) hx hb hts hiX12 tyX12 tyX12_ok nmX12 hown hK hJ0 hP hS (Nat.lt_of_lt_of_le (by decide) hN) (bY_0 _) rfl (by decide) (List.mem_of_getElem? (i := 3) rfl) rfl rfl rfl rfl (Nat.le_of_ble_eq_true rfl) (by rw [bY_0]; rfl) dX12_readChange_44 (fun H locs hP hS => ?_)
      refine lv_aload_n hx hb dX12_readChange_47 rfl (lv_at hl 0 rfl) ?_
      refine lv_dup hx hb dX12_readChange_48 rfl ?_
      refine hw_get (v := .int ((hup σ 0 13 (0 : Int32)) 0 10)) hx hb hts hiX12 hown hK hP (Nat.lt_of_lt_of_le (by decide) hN) (bY_0 _) rfl 10 (by decide) (List.mem_of_getElem? (i := 1) rfl) rfl rfl dX12_readChange_49 ?_
      refine lv_iconst (v := 1) hx hb dX12_readChange_52 (by decide) ?_
      refine lv_iadd hx hb dX12_readChange_53 ?_
      refine hw_put (x := (((hup σ 0 13 (0 : Int32)) 0 10) + (1 : Int32))) (j := 10) hx hb hts hiX12 tyX12 tyX12_ok nmX12 hown hK hJ0 hP hS (Nat.lt_of_lt_of_le (by decide) hN) (bY_0 _) rfl (by decide) (List.mem_of_getElem? (i := 1) rfl) rfl rfl rfl rfl (Nat.le_of_ble_eq_true rfl) (by rw [bY_0]; rfl) dX12_readChange_54 (fun H locs hP hS => ?_)
      refine lv_iconst (v := 1) hx hb dX12_readChange_57 (by decide) ?_
      exact hw_zret hx hb hr hlocks hbo_1 ((hup (hup σ 0 13 (0 : Int32)) 0 10 (((hup σ 0 13 (0 : Int32)) 0 10) + (1 : Int32)))) hw hP hS dX12_readChange_58
    have hw := hw.2 c4
    refine lv_aload_n hx hb dX12_readChange_32 rfl (lv_at hl 0 rfl) ?_
    refine lv_iconst (v := 2) hx hb dX12_readChange_33 (by decide) ?_
    refine lv_aload_n hx hb dX12_readChange_34 rfl (lv_at hl 0 rfl) ?_
    refine hw_get (v := .int (σ 0 10)) hx hb hts hiX12 hown hK hP (Nat.lt_of_lt_of_le (by decide) hN) (bY_0 _) rfl 10 (by decide) (List.mem_of_getElem? (i := 1) rfl) rfl rfl dX12_readChange_35 ?_
    refine hw_ki (va_runV (As := [.int (2 : Int32), .int (σ 0 10)]) (rest := []) ⟨hx, hb, hml, hown, hts⟩ (kc_X12_wrong l D cy N hN ad hJ0 w σ _ (2 : Int32) (σ 0 10) _ hw) (cwV 2 hts gX12_readChange_X12_wrong rfl rfl rfl (by decide +kernel) ⟨Nat.le_of_ble_eq_true rfl, Nat.le_of_ble_eq_true rfl⟩) (hw_preV hK hN1 hP (Nat.lt_of_lt_of_le (by decide) hN) (bY_0 _) rfl) rfl rfl hl.1 rfl (lv_room (Nat.le_of_ble_eq_true rfl)) dX12_readChange_38 ⟨Nat.zero_le _, Nat.zero_le _⟩) hS (fun r6 σ5 H locs hw hP hS => ?_)
    obtain ⟨hb7, hw⟩ := hw
    exact hw_zret hx hb hr hlocks hb7 (σ5) hw hP hS dX12_readChange_41
  refine lv_icmp_eq (tgt := 22) hx hb dX12_readChange_13 (by decide) (fun c8 => ?_) (fun c8 => ?_)
  · have hw := hw.1 c8
    exact hJ22  _ _ _ hw hP hS (lv_sub hl [2] rfl)
  have hw := hw.2 c8
  refine lv_iload_n hx hb dX12_readChange_16 rfl (lv_at hl 1 rfl) ?_
  refine lv_bipush (v := 45) hx hb dX12_readChange_17 (by decide) ?_
  refine lv_icmp_ne (tgt := 59) hx hb dX12_readChange_19 (by decide) (fun c9 => ?_) (fun c9 => ?_)
  · have hw := hw.1 c9
    refine lv_iload_n hx hb dX12_readChange_59 rfl (lv_at hl 1 rfl) ?_
    refine hw_ki (va_runS (As := [.int r2]) (rest := []) ⟨hx, hb, hml, hown, hts⟩ (kc_X12_isBell l D cy N ad (bY cy ad w) σ _ r2 _ hw) (va_cwS 1 hts gX12_readChange_X12_isBell rfl rfl rfl (by decide +kernel) ⟨Nat.le_of_ble_eq_true rfl, Nat.le_of_ble_eq_true rfl⟩) (hw_pre hK hN1 hP) rfl rfl hl.1 rfl (lv_room (Nat.le_of_ble_eq_true rfl)) dX12_readChange_60 ⟨Nat.zero_le _, Nat.zero_le _⟩) hS (fun r11 σ10 H locs hw hP hS => ?_)
    obtain ⟨hu_, hw⟩ := hw
    rw [hu_] at hP
    refine lv_if_ne (tgt := 76) hx hb dX12_readChange_63 (by decide) (fun c12 => ?_) (fun c12 => ?_)
    · have hw := hw.1 c12
      refine lv_aload_n hx hb dX12_readChange_76 rfl (lv_at hl 2 rfl) ?_
      refine lv_iconst (v := 0) hx hb dX12_readChange_77 (by decide) ?_
      refine hw_put (x := (0 : Int32)) (j := 13) hx hb hts hiX12 tyX12 tyX12_ok nmX12 hown hK hJ0 hP hS (Nat.lt_of_lt_of_le (by decide) hN) (bY_0 _) rfl (by decide) (List.mem_of_getElem? (i := 3) rfl) rfl rfl rfl rfl (Nat.le_of_ble_eq_true rfl) (by rw [bY_0]; rfl) dX12_readChange_78 (fun H locs hP hS => ?_)
      refine lv_iconst (v := 0) hx hb dX12_readChange_81 (by decide) ?_
      refine lv_istore_n (lv' := [(3, .int (0 : Int32)), (2, .int x2_3), (1, .int r2), (0, .ref (ad 0))]) hx hb dX12_readChange_82 rfl hl (by decide) rfl (fun ls hl => ?_)
      refine lv_iconst (v := 1) hx hb dX12_readChange_83 (by decide) ?_
      refine lv_istore (lv' := [(4, .int (1 : Int32)), (3, .int (0 : Int32)), (2, .int x2_3), (1, .int r2), (0, .ref (ad 0))]) hx hb dX12_readChange_84 hl (by decide) rfl (fun ls hl => ?_)
      refine hw (fun (v3_13 : Int32) (v4_14 : Int32) (σ15 : hSt) => ∀ (H : Heap) (locs : List Loc) (ls : Array Slot), va_P D vwCl (hC N ad (bY cy ad w) σ15) H → va_S (hA N ad s.heap.size) s.heap H locs → lv_has ls 6 [(0, .ref (ad 0)), (2, .int x2_3), (3, .int v3_13), (4, .int v4_14)] → W p l e (headSpec wsX12_readChange ({ frames := 1, cells := 0, slots := 0, locals := 22 } : Room)).room s m ([Value.ref (ad 0)] : List Value).toArray below meth c H locs 0 0 (MQ below (va_Qi (fun (r : Int32) (u : hSt) => Q r u) (hE D (fun u : hSt => hC N ad (bY cy ad w) u)) (hA N ad s.heap.size)) ([Value.ref (ad 0)] : List Value).toArray s 0 0 (hA N ad s.heap.size)) (F0 m 86 ls [])) (fun v3_13 v4_14 σ15 hw H locs ls hP hS hl => ?_) _ _ _ hP hS (lv_sub hl [4, 2, 1, 0] rfl)
      refine lv_aload_n hx hb dX12_readChange_86 rfl (lv_at hl 0 rfl) ?_
      refine hw_ki (va_runV (As := []) (rest := []) ⟨hx, hb, hml, hown, hts⟩ (kc_X12_peek l D cy N hN ad hJ0 w σ15 _  _ hw) (cwV 0 hts gX12_readChange_X12_peek rfl rfl rfl (by decide +kernel) ⟨Nat.le_of_ble_eq_true rfl, Nat.le_of_ble_eq_true rfl⟩) (hw_preV hK hN1 hP (Nat.lt_of_lt_of_le (by decide) hN) (bY_0 _) rfl) rfl rfl hl.1 rfl (lv_room (Nat.le_of_ble_eq_true rfl)) dX12_readChange_87 ⟨Nat.zero_le _, Nat.zero_le _⟩) hS (fun r17 σ16 H locs hw hP hS => ?_)
      obtain ⟨hu_, hw⟩ := hw
      rw [hu_] at hP
      refine hw_ki (va_runS (As := [.int r17]) (rest := []) ⟨hx, hb, hml, hown, hts⟩ (kc_X12_isBell l D cy N ad (bY cy ad w) σ15 _ r17 _ hw) (va_cwS 1 hts gX12_readChange_X12_isBell rfl rfl rfl (by decide +kernel) ⟨Nat.le_of_ble_eq_true rfl, Nat.le_of_ble_eq_true rfl⟩) (hw_pre hK hN1 hP) rfl rfl hl.1 rfl (lv_room (Nat.le_of_ble_eq_true rfl)) dX12_readChange_90 ⟨Nat.zero_le _, Nat.zero_le _⟩) hS (fun r19 σ18 H locs hw hP hS => ?_)
      obtain ⟨hu_, hw⟩ := hw
      rw [hu_] at hP
      refine lv_if_eq (tgt := 208) hx hb dX12_readChange_93 (by decide) (fun c20 => ?_) (fun c20 => ?_)
      · have hw := hw.1 c20
        refine lv_iload hx hb dX12_readChange_208 (lv_at hl 3 rfl) ?_
        refine lv_if_ne (tgt := 220) hx hb dX12_readChange_210 (by decide) (fun c21 => ?_) (fun c21 => ?_)
        · have hw := hw.1 c21
          refine lv_aload_n hx hb dX12_readChange_220 rfl (lv_at hl 0 rfl) ?_
          refine hw_get (v := .int (σ15 0 1)) hx hb hts hiX12 hown hK hP (Nat.lt_of_lt_of_le (by decide) hN) (bY_0 _) rfl 1 (by decide) (List.mem_of_getElem? (i := 2) rfl) rfl rfl dX12_readChange_221 ?_
          refine lv_iload_n hx hb dX12_readChange_224 rfl (lv_at hl 2 rfl) ?_
          refine lv_isub hx hb dX12_readChange_225 ?_
          refine lv_iconst (v := 2) hx hb dX12_readChange_226 (by decide) ?_
          refine lv_irem hx hb dX12_readChange_227 (by decide) ?_
          refine lv_iconst (v := 1) hx hb dX12_readChange_228 (by decide) ?_
          refine lv_icmp_ne (tgt := 249) hx hb dX12_readChange_229 (by decide) (fun c22 => ?_) (fun c22 => ?_)
          · have hw := hw.1 c22
            refine lv_iconst (v := 1) hx hb dX12_readChange_249 (by decide) ?_
            exact hw_zret hx hb hr hlocks hbo_1 (σ15) hw hP hS dX12_readChange_250
          have hw := hw.2 c22
          refine lv_aload_n hx hb dX12_readChange_232 rfl (lv_at hl 0 rfl) ?_
          refine lv_dup hx hb dX12_readChange_233 rfl ?_
          refine hw_get (v := .int (σ15 0 13)) hx hb hts hiX12 hown hK hP (Nat.lt_of_lt_of_le (by decide) hN) (bY_0 _) rfl 13 (by decide) (List.mem_of_getElem? (i := 3) rfl) rfl rfl dX12_readChange_234 ?_
          refine lv_iconst (v := 1) hx hb dX12_readChange_237 (by decide) ?_
          refine lv_aload_n hx hb dX12_readChange_238 rfl (lv_at hl 0 rfl) ?_
          refine hw_get (v := .int (σ15 0 1)) hx hb hts hiX12 hown hK hP (Nat.lt_of_lt_of_le (by decide) hN) (bY_0 _) rfl 1 (by decide) (List.mem_of_getElem? (i := 2) rfl) rfl rfl dX12_readChange_239 ?_
          refine lv_iconst (v := 1) hx hb dX12_readChange_242 (by decide) ?_
          refine lv_isub hx hb dX12_readChange_243 ?_
          refine lv_ishl hx hb dX12_readChange_244 ?_
          refine lv_ior hx hb dX12_readChange_245 ?_
          refine hw_put (x := ((σ15 0 13) ||| ((1 : Int32) <<< (((σ15 0 1) - (1 : Int32)) &&& 31)))) (j := 13) hx hb hts hiX12 tyX12 tyX12_ok nmX12 hown hK hJ0 hP hS (Nat.lt_of_lt_of_le (by decide) hN) (bY_0 _) rfl (by decide) (List.mem_of_getElem? (i := 3) rfl) rfl rfl rfl rfl (Nat.le_of_ble_eq_true rfl) (by rw [bY_0]; rfl) dX12_readChange_246 (fun H locs hP hS => ?_)
          refine lv_iconst (v := 1) hx hb dX12_readChange_249 (by decide) ?_
          exact hw_zret hx hb hr hlocks hbo_1 ((hup σ15 0 13 ((σ15 0 13) ||| ((1 : Int32) <<< (((σ15 0 1) - (1 : Int32)) &&& 31))))) hw hP hS dX12_readChange_250
        have hw := hw.2 c21
        refine lv_aload_n hx hb dX12_readChange_213 rfl (lv_at hl 0 rfl) ?_
        refine lv_iconst (v := 2) hx hb dX12_readChange_214 (by decide) ?_
        refine lv_iload_n hx hb dX12_readChange_215 rfl (lv_at hl 1 rfl) ?_
        refine hw_ki (va_runV (As := [.int (2 : Int32), .int x2_3]) (rest := []) ⟨hx, hb, hml, hown, hts⟩ (kc_X12_wrong l D cy N hN ad hJ0 w σ15 _ (2 : Int32) x2_3 _ hw) (cwV 2 hts gX12_readChange_X12_wrong rfl rfl rfl (by decide +kernel) ⟨Nat.le_of_ble_eq_true rfl, Nat.le_of_ble_eq_true rfl⟩) (hw_preV hK hN1 hP (Nat.lt_of_lt_of_le (by decide) hN) (bY_0 _) rfl) rfl rfl hl.1 rfl (lv_room (Nat.le_of_ble_eq_true rfl)) dX12_readChange_216 ⟨Nat.zero_le _, Nat.zero_le _⟩) hS (fun r24 σ23 H locs hw hP hS => ?_)
        obtain ⟨hb25, hw⟩ := hw
        exact hw_zret hx hb hr hlocks hb25 (σ23) hw hP hS dX12_readChange_219
      have hw := hw.2 c20
      refine lv_aload_n hx hb dX12_readChange_96 rfl (lv_at hl 0 rfl) ?_
      refine hw_ki (va_runV (As := []) (rest := []) ⟨hx, hb, hml, hown, hts⟩ (kc_X12_peek l D cy N hN ad hJ0 w σ15 _  _ hw) (cwV 0 hts gX12_readChange_X12_peek rfl rfl rfl (by decide +kernel) ⟨Nat.le_of_ble_eq_true rfl, Nat.le_of_ble_eq_true rfl⟩) (hw_preV hK hN1 hP (Nat.lt_of_lt_of_le (by decide) hN) (bY_0 _) rfl) rfl rfl hl.1 rfl (lv_room (Nat.le_of_ble_eq_true rfl)) dX12_readChange_97 ⟨Nat.zero_le _, Nat.zero_le _⟩) hS (fun r27 σ26 H locs hw hP hS => ?_)
      obtain ⟨hu_, hw⟩ := hw
      rw [hu_] at hP
      refine lv_bipush (v := 48) hx hb dX12_readChange_100 (by decide) ?_
      refine lv_isub hx hb dX12_readChange_102 ?_
      refine lv_topi (fun x5_28 ex5_28 => ?_)
      have hw := hw x5_28 ex5_28
      refine lv_istore (lv' := [(5, .int x5_28), (0, .ref (ad 0)), (2, .int x2_3), (3, .int v3_13), (4, .int v4_14)]) hx hb dX12_readChange_103 hl (by decide) rfl (fun ls hl => ?_)
      refine lv_iload hx hb dX12_readChange_105 (lv_at hl 4 rfl) ?_
      obtain ⟨J144, ehJ144, hw⟩ := hM_x hw
      have hJ144 : ∀ (z29 : Int32) (H : Heap) (locs : List Loc) (ls : Array Slot), J144 z29 → va_P D vwCl (hC N ad (bY cy ad w) σ15) H → va_S (hA N ad s.heap.size) s.heap H locs → lv_has ls 6 [(0, .ref (ad 0)), (2, .int x2_3), (3, .int v3_13), (5, .int x5_28)] → W p l e (headSpec wsX12_readChange ({ frames := 1, cells := 0, slots := 0, locals := 22 } : Room)).room s m ([Value.ref (ad 0)] : List Value).toArray below meth c H locs 0 0 (MQ below (va_Qi (fun (r : Int32) (u : hSt) => Q r u) (hE D (fun u : hSt => hC N ad (bY cy ad w) u)) (hA N ad s.heap.size)) ([Value.ref (ad 0)] : List Value).toArray s 0 0 (hA N ad s.heap.size)) (F0 m 144 ls [.int z29]) := by
        intro z29 H locs ls hw hP hS hl
        rw [ehJ144] at hw
        refine lv_istore (lv' := [(4, .int z29), (0, .ref (ad 0)), (2, .int x2_3), (3, .int v3_13), (5, .int x5_28)]) hx hb dX12_readChange_144 hl (by decide) rfl (fun ls hl => ?_)
        refine lv_iload hx hb dX12_readChange_146 (lv_at hl 0 rfl) ?_
        obtain ⟨J172, ehJ172, hw⟩ := hM_x hw
        have hJ172 : ∀ (σ30 : hSt) (H : Heap) (locs : List Loc) (ls : Array Slot), J172 σ30 → va_P D vwCl (hC N ad (bY cy ad w) σ30) H → va_S (hA N ad s.heap.size) s.heap H locs → lv_has ls 6 [(0, .ref (ad 0)), (2, .int x2_3), (4, .int z29), (5, .int x5_28)] → W p l e (headSpec wsX12_readChange ({ frames := 1, cells := 0, slots := 0, locals := 22 } : Room)).room s m ([Value.ref (ad 0)] : List Value).toArray below meth c H locs 0 0 (MQ below (va_Qi (fun (r : Int32) (u : hSt) => Q r u) (hE D (fun u : hSt => hC N ad (bY cy ad w) u)) (hA N ad s.heap.size)) ([Value.ref (ad 0)] : List Value).toArray s 0 0 (hA N ad s.heap.size)) (F0 m 172 ls []) := by
          intro σ30 H locs ls hw hP hS hl
          rw [ehJ172] at hw
          refine lv_iload hx hb dX12_readChange_172 (lv_at hl 2 rfl) ?_
          obtain ⟨J192, ehJ192, hw⟩ := hM_x hw
          have hJ192 : ∀ (σ31 : hSt) (H : Heap) (locs : List Loc) (ls : Array Slot), J192 σ31 → va_P D vwCl (hC N ad (bY cy ad w) σ31) H → va_S (hA N ad s.heap.size) s.heap H locs → lv_has ls 6 [(0, .ref (ad 0)), (2, .int x2_3), (4, .int z29), (5, .int x5_28)] → W p l e (headSpec wsX12_readChange ({ frames := 1, cells := 0, slots := 0, locals := 22 } : Room)).room s m ([Value.ref (ad 0)] : List Value).toArray below meth c H locs 0 0 (MQ below (va_Qi (fun (r : Int32) (u : hSt) => Q r u) (hE D (fun u : hSt => hC N ad (bY cy ad w) u)) (hA N ad s.heap.size)) ([Value.ref (ad 0)] : List Value).toArray s 0 0 (hA N ad s.heap.size)) (F0 m 192 ls []) := by
            intro σ31 H locs ls hw hP hS hl
            rw [ehJ192] at hw
            refine lv_iload hx hb dX12_readChange_192 (lv_at hl 3 rfl) ?_
            refine lv_istore_n (lv' := [(3, .int x5_28), (0, .ref (ad 0)), (2, .int x2_3), (4, .int z29), (5, .int x5_28)]) hx hb dX12_readChange_194 rfl hl (by decide) rfl (fun ls hl => ?_)
            refine lv_aload_n hx hb dX12_readChange_195 rfl (lv_at hl 1 rfl) ?_
            refine lv_dup hx hb dX12_readChange_196 rfl ?_
            refine hw_get (v := .int (σ31 0 10)) hx hb hts hiX12 hown hK hP (Nat.lt_of_lt_of_le (by decide) hN) (bY_0 _) rfl 10 (by decide) (List.mem_of_getElem? (i := 1) rfl) rfl rfl dX12_readChange_197 ?_
            refine lv_iconst (v := 1) hx hb dX12_readChange_200 (by decide) ?_
            refine lv_iadd hx hb dX12_readChange_201 ?_
            refine hw_put (x := ((σ31 0 10) + (1 : Int32))) (j := 10) hx hb hts hiX12 tyX12 tyX12_ok nmX12 hown hK hJ0 hP hS (Nat.lt_of_lt_of_le (by decide) hN) (bY_0 _) rfl (by decide) (List.mem_of_getElem? (i := 1) rfl) rfl rfl rfl rfl (Nat.le_of_ble_eq_true rfl) (by rw [bY_0]; rfl) dX12_readChange_202 (fun H locs hP hS => ?_)
            refine lv_goto (tgt := 86) hx hb dX12_readChange_205 (by decide) ?_
            exact hw _ _ _ hP hS (lv_sub hl [1, 2, 0, 3] rfl)
          refine lv_if_eq (tgt := 192) hx hb dX12_readChange_174 (by decide) (fun c32 => ?_) (fun c32 => ?_)
          · have hw := hw.1 c32
            exact hJ192 _ _ _ _ hw hP hS (lv_sub hl [0, 1, 2, 3] rfl)
          have hw := hw.2 c32
          refine lv_aload_n hx hb dX12_readChange_177 rfl (lv_at hl 0 rfl) ?_
          refine lv_dup hx hb dX12_readChange_178 rfl ?_
          refine hw_get (v := .int (σ30 0 13)) hx hb hts hiX12 hown hK hP (Nat.lt_of_lt_of_le (by decide) hN) (bY_0 _) rfl 13 (by decide) (List.mem_of_getElem? (i := 3) rfl) rfl rfl dX12_readChange_179 ?_
          refine lv_iconst (v := 1) hx hb dX12_readChange_182 (by decide) ?_
          refine lv_iload hx hb dX12_readChange_183 (lv_at hl 3 rfl) ?_
          refine lv_iconst (v := 1) hx hb dX12_readChange_185 (by decide) ?_
          refine lv_isub hx hb dX12_readChange_186 ?_
          refine lv_ishl hx hb dX12_readChange_187 ?_
          refine lv_ior hx hb dX12_readChange_188 ?_
          refine hw_put (x := ((σ30 0 13) ||| ((1 : Int32) <<< ((x5_28 - (1 : Int32)) &&& 31)))) (j := 13) hx hb hts hiX12 tyX12 tyX12_ok nmX12 hown hK hJ0 hP hS (Nat.lt_of_lt_of_le (by decide) hN) (bY_0 _) rfl (by decide) (List.mem_of_getElem? (i := 3) rfl) rfl rfl rfl rfl (Nat.le_of_ble_eq_true rfl) (by rw [bY_0]; rfl) dX12_readChange_189 (fun H locs hP hS => ?_)
          exact hJ192 _ _ _ _ hw hP hS (lv_sub hl [0, 1, 2, 3] rfl)
        refine lv_if_eq (tgt := 172) hx hb dX12_readChange_148 (by decide) (fun c33 => ?_) (fun c33 => ?_)
        · have hw := hw.1 c33
          exact hJ172 _ _ _ _ hw hP hS (lv_sub hl [1, 2, 0, 4] rfl)
        have hw := hw.2 c33
        refine lv_iload_n hx hb dX12_readChange_151 rfl (lv_at hl 3 rfl) ?_
        refine lv_if_ne (tgt := 172) hx hb dX12_readChange_152 (by decide) (fun c34 => ?_) (fun c34 => ?_)
        · have hw := hw.1 c34
          exact hJ172 _ _ _ _ hw hP hS (lv_sub hl [1, 2, 0, 4] rfl)
        have hw := hw.2 c34
        refine lv_iload hx hb dX12_readChange_155 (lv_at hl 4 rfl) ?_
        refine lv_iconst (v := 2) hx hb dX12_readChange_157 (by decide) ?_
        refine lv_irem hx hb dX12_readChange_158 (by decide) ?_
        refine lv_if_ne (tgt := 172) hx hb dX12_readChange_159 (by decide) (fun c35 => ?_) (fun c35 => ?_)
        · have hw := hw.1 c35
          exact hJ172 _ _ _ _ hw hP hS (lv_sub hl [1, 2, 0, 4] rfl)
        have hw := hw.2 c35
        refine lv_aload_n hx hb dX12_readChange_162 rfl (lv_at hl 1 rfl) ?_
        refine lv_dup hx hb dX12_readChange_163 rfl ?_
        refine hw_get (v := .int (σ15 0 13)) hx hb hts hiX12 hown hK hP (Nat.lt_of_lt_of_le (by decide) hN) (bY_0 _) rfl 13 (by decide) (List.mem_of_getElem? (i := 3) rfl) rfl rfl dX12_readChange_164 ?_
        refine lv_iconst (v := 1) hx hb dX12_readChange_167 (by decide) ?_
        refine lv_ior hx hb dX12_readChange_168 ?_
        refine hw_put (x := ((σ15 0 13) ||| (1 : Int32))) (j := 13) hx hb hts hiX12 tyX12 tyX12_ok nmX12 hown hK hJ0 hP hS (Nat.lt_of_lt_of_le (by decide) hN) (bY_0 _) rfl (by decide) (List.mem_of_getElem? (i := 3) rfl) rfl rfl rfl rfl (Nat.le_of_ble_eq_true rfl) (by rw [bY_0]; rfl) dX12_readChange_169 (fun H locs hP hS => ?_)
        exact hJ172 _ _ _ _ hw hP hS (lv_sub hl [1, 2, 0, 4] rfl)
      obtain ⟨J143, ehJ143, hw⟩ := hM_x hw
      have hJ143 : ∀ (H : Heap) (locs : List Loc) (ls : Array Slot), J143 → va_P D vwCl (hC N ad (bY cy ad w) σ15) H → va_S (hA N ad s.heap.size) s.heap H locs → lv_has ls 6 [(0, .ref (ad 0)), (2, .int x2_3), (3, .int v3_13), (5, .int x5_28)] → W p l e (headSpec wsX12_readChange ({ frames := 1, cells := 0, slots := 0, locals := 22 } : Room)).room s m ([Value.ref (ad 0)] : List Value).toArray below meth c H locs 0 0 (MQ below (va_Qi (fun (r : Int32) (u : hSt) => Q r u) (hE D (fun u : hSt => hC N ad (bY cy ad w) u)) (hA N ad s.heap.size)) ([Value.ref (ad 0)] : List Value).toArray s 0 0 (hA N ad s.heap.size)) (F0 m 143 ls []) := by
        intro H locs ls hw hP hS hl
        rw [ehJ143] at hw
        refine lv_iconst (v := 0) hx hb dX12_readChange_143 (by decide) ?_
        exact hJ144 _ _ _ _ hw hP hS (lv_sub hl [0, 1, 2, 3] rfl)
      refine lv_if_eq (tgt := 143) hx hb dX12_readChange_107 (by decide) (fun c36 => ?_) (fun c36 => ?_)
      · have hw := hw.1 c36
        exact hJ143  _ _ _ hw hP hS (lv_sub hl [1, 2, 3, 0] rfl)
      have hw := hw.2 c36
      refine lv_iload hx hb dX12_readChange_110 (lv_at hl 0 rfl) ?_
      refine lv_iload_n hx hb dX12_readChange_112 rfl (lv_at hl 3 rfl) ?_
      refine lv_icmp_le (tgt := 143) hx hb dX12_readChange_113 (by decide) (fun c37 => ?_) (fun c37 => ?_)
      · have hw := hw.1 c37
        exact hJ143  _ _ _ hw hP hS (lv_sub hl [1, 2, 3, 0] rfl)
      have hw := hw.2 c37
      refine lv_iload hx hb dX12_readChange_116 (lv_at hl 0 rfl) ?_
      refine lv_aload_n hx hb dX12_readChange_118 rfl (lv_at hl 1 rfl) ?_
      refine hw_get (v := .int (σ15 0 1)) hx hb hts hiX12 hown hK hP (Nat.lt_of_lt_of_le (by decide) hN) (bY_0 _) rfl 1 (by decide) (List.mem_of_getElem? (i := 2) rfl) rfl rfl dX12_readChange_119 ?_
      refine lv_icmp_gt (tgt := 143) hx hb dX12_readChange_122 (by decide) (fun c38 => ?_) (fun c38 => ?_)
      · have hw := hw.1 c38
        exact hJ143  _ _ _ hw hP hS (lv_sub hl [1, 2, 3, 0] rfl)
      have hw := hw.2 c38
      refine lv_iload_n hx hb dX12_readChange_125 rfl (lv_at hl 3 rfl) ?_
      obtain ⟨J139, ehJ139, hw⟩ := hM_x hw
      have hJ139 : ∀ (H : Heap) (locs : List Loc) (ls : Array Slot), J139 → va_P D vwCl (hC N ad (bY cy ad w) σ15) H → va_S (hA N ad s.heap.size) s.heap H locs → lv_has ls 6 [(0, .ref (ad 0)), (2, .int x2_3), (3, .int v3_13), (5, .int x5_28)] → W p l e (headSpec wsX12_readChange ({ frames := 1, cells := 0, slots := 0, locals := 22 } : Room)).room s m ([Value.ref (ad 0)] : List Value).toArray below meth c H locs 0 0 (MQ below (va_Qi (fun (r : Int32) (u : hSt) => Q r u) (hE D (fun u : hSt => hC N ad (bY cy ad w) u)) (hA N ad s.heap.size)) ([Value.ref (ad 0)] : List Value).toArray s 0 0 (hA N ad s.heap.size)) (F0 m 139 ls []) := by
        intro H locs ls hw hP hS hl
        rw [ehJ139] at hw
        refine lv_iconst (v := 1) hx hb dX12_readChange_139 (by decide) ?_
        refine lv_goto (tgt := 144) hx hb dX12_readChange_140 (by decide) ?_
        exact hJ144 _ _ _ _ hw hP hS (lv_sub hl [0, 1, 2, 3] rfl)
      refine lv_if_eq (tgt := 139) hx hb dX12_readChange_126 (by decide) (fun c39 => ?_) (fun c39 => ?_)
      · have hw := hw.1 c39
        exact hJ139  _ _ _ hw hP hS (lv_sub hl [1, 2, 3, 0] rfl)
      have hw := hw.2 c39
      refine lv_iload hx hb dX12_readChange_129 (lv_at hl 0 rfl) ?_
      refine lv_iload_n hx hb dX12_readChange_131 rfl (lv_at hl 3 rfl) ?_
      refine lv_isub hx hb dX12_readChange_132 ?_
      refine lv_iconst (v := 2) hx hb dX12_readChange_133 (by decide) ?_
      refine lv_irem hx hb dX12_readChange_134 (by decide) ?_
      refine lv_iconst (v := 1) hx hb dX12_readChange_135 (by decide) ?_
      refine lv_icmp_ne (tgt := 143) hx hb dX12_readChange_136 (by decide) (fun c40 => ?_) (fun c40 => ?_)
      · have hw := hw.1 c40
        exact hJ143  _ _ _ hw hP hS (lv_sub hl [1, 2, 3, 0] rfl)
      have hw := hw.2 c40
      exact hJ139  _ _ _ hw hP hS (lv_sub hl [1, 2, 3, 0] rfl)
    have hw := hw.2 c12
    refine lv_aload_n hx hb dX12_readChange_66 rfl (lv_at hl 2 rfl) ?_
    refine lv_iconst (v := 1) hx hb dX12_readChange_67 (by decide) ?_
    refine lv_aload_n hx hb dX12_readChange_68 rfl (lv_at hl 2 rfl) ?_
    refine hw_get (v := .int (σ 0 10)) hx hb hts hiX12 hown hK hP (Nat.lt_of_lt_of_le (by decide) hN) (bY_0 _) rfl 10 (by decide) (List.mem_of_getElem? (i := 1) rfl) rfl rfl dX12_readChange_69 ?_
    refine hw_ki (va_runV (As := [.int (1 : Int32), .int (σ 0 10)]) (rest := []) ⟨hx, hb, hml, hown, hts⟩ (kc_X12_wrong l D cy N hN ad hJ0 w σ _ (1 : Int32) (σ 0 10) _ hw) (cwV 2 hts gX12_readChange_X12_wrong rfl rfl rfl (by decide +kernel) ⟨Nat.le_of_ble_eq_true rfl, Nat.le_of_ble_eq_true rfl⟩) (hw_preV hK hN1 hP (Nat.lt_of_lt_of_le (by decide) hN) (bY_0 _) rfl) rfl rfl hl.1 rfl (lv_room (Nat.le_of_ble_eq_true rfl)) dX12_readChange_72 ⟨Nat.zero_le _, Nat.zero_le _⟩) hS (fun r42 σ41 H locs hw hP hS => ?_)
    obtain ⟨hb43, hw⟩ := hw
    exact hw_zret hx hb hr hlocks hb43 (σ41) hw hP hS dX12_readChange_75
  have hw := hw.2 c9
  exact hJ22  _ _ _ hw hP hS (lv_sub hl [2] rfl)

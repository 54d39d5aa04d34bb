theorem hn_x0 : decode prog_24_method_4_code 0 = .ok (.aload_n 0, 1) := by decide +kernel
theorem hn_x1 : decode prog_24_method_4_code 1 = .ok (.aload_n 1, 1) := by decide +kernel
theorem hn_x2 : decode prog_24_method_4_code 2 = .ok (.invokespecial 13, 3) := by decide +kernel
theorem hn_x5 : decode prog_24_method_4_code 5 = .ok (.return_, 1) := by decide +kernel
def hxB (E : String) : List Cond := [.castable E E, .declares (Bundle.initS "java/lang/RuntimeException"), .declares (Bundle.initS "java/lang/Exception"), .declares (Bundle.initS Bundle.tN)]
theorem hxB_at {A : Nat → Prop} {s : State} {args : Array Value} (i : Nat) {E : String} (hi : hxE[i]? = some E) (hT : hTh A s) : ∀ w ∈ hxB E, w.before args s = true := by
  intro w hw
  rcases List.mem_cons.mp hw with rfl | hw
  · exact va_Nw.use rfl (hT.1.2.1 E (List.mem_of_getElem? hi))
  · rcases List.mem_cons.mp hw with rfl | hw
    · exact va_Nw.use rfl (hT.1.2.2 _ (List.mem_of_getElem? (i := 0) rfl))
    · rcases List.mem_cons.mp hw with rfl | hw
      · exact va_Nw.use rfl (hT.1.2.2 _ (List.mem_of_getElem? (i := 1) rfl))
      · rcases List.mem_cons.mp hw with rfl | hw
        · exact va_Nw.use rfl (hT.1.2.2 _ (List.mem_of_getElem? (i := 2) rfl))
        · cases hw
theorem hat_N {A : Nat → Prop} {s : State} {args : Array Value} (h1 : ∀ w ∈ (hn_at RX11 151 "java/util/NoSuchElementException" 13 prog_24_method_4_code ["java/lang/RuntimeException", "java/lang/Exception"]).filter goodWord, w.before args s = true) (hT : hTh A s) : ∀ w ∈ (hn_at RX11 151 "java/util/NoSuchElementException" 13 prog_24_method_4_code ["java/lang/RuntimeException", "java/lang/Exception"]), w.before args s = true := vx_hat (B := hxB "java/util/NoSuchElementException") h1 (by decide +kernel) (hxB_at 0 rfl hT)
theorem hgo_N : ∀ w ∈ Cond.classLink RX11 147 "java/util/NoSuchElementException" :: Cond.initialized "java/util/NoSuchElementException" :: (hn_at RX11 151 "java/util/NoSuchElementException" 13 prog_24_method_4_code ["java/lang/RuntimeException", "java/lang/Exception"]), vx_ot w = true := by decide +kernel
theorem hat_A {A : Nat → Prop} {s : State} {args : Array Value} (h1 : ∀ w ∈ (vx_atS RX11 248 "java/lang/IllegalArgumentException" ["java/lang/RuntimeException", "java/lang/Exception"]).filter goodWord, w.before args s = true) (hT : hTh A s) : ∀ w ∈ (vx_atS RX11 248 "java/lang/IllegalArgumentException" ["java/lang/RuntimeException", "java/lang/Exception"]), w.before args s = true := vx_hat (B := hxB "java/lang/IllegalArgumentException") h1 (by decide +kernel) (hxB_at 1 rfl hT)
theorem hgo_A : ∀ w ∈ Cond.classLink RX11 244 "java/lang/IllegalArgumentException" :: Cond.initialized "java/lang/IllegalArgumentException" :: (vx_atS RX11 248 "java/lang/IllegalArgumentException" ["java/lang/RuntimeException", "java/lang/Exception"]), vx_ot w = true := by decide +kernel
theorem hat_I {A : Nat → Prop} {s : State} {args : Array Value} (h1 : ∀ w ∈ (vx_atS RX11 91 "java/lang/IndexOutOfBoundsException" ["java/lang/RuntimeException", "java/lang/Exception"]).filter goodWord, w.before args s = true) (hT : hTh A s) : ∀ w ∈ (vx_atS RX11 91 "java/lang/IndexOutOfBoundsException" ["java/lang/RuntimeException", "java/lang/Exception"]), w.before args s = true := vx_hat (B := hxB "java/lang/IndexOutOfBoundsException") h1 (by decide +kernel) (hxB_at 2 rfl hT)
theorem hgo_I : ∀ w ∈ Cond.classLink RX11 87 "java/lang/IndexOutOfBoundsException" :: Cond.initialized "java/lang/IndexOutOfBoundsException" :: (vx_atS RX11 91 "java/lang/IndexOutOfBoundsException" ["java/lang/RuntimeException", "java/lang/Exception"]), vx_ot w = true := by decide +kernel
set_option maxHeartbeats 4000000 in
set_option maxRecDepth 100000 in
theorem kc_X11_toldMethod (l : Launch) (hfl : l.stackTraces = false) (D : va_G) (cy : Nat → ClassId) (N : Nat) (hN : 38 ≤ N) (ad : Nat → Nat) (hJ0 : hJ N ad) (σ : hSt) (sz : Nat) (a1 : Int32) (Q : Nat → hSt → Prop) (X : String → hSt → Prop) (hw : wp_X11_toldMethod a1 σ Q X) : vx_Met l yX11_toldMethod wzX11_toldMethod ({ frames := 6, cells := 1, slots := 6, locals := 86 } : Room) (va_Pc [.ref (ad 0), .int a1] (hBT D cy (hC N ad (bX cy ad) σ) (hA N ad sz) sz)) (va_Qr (fun u : Nat × hSt => hMe u.1 ∧ Q u.1 u.2) (hR_ D ad (fun u : hSt => hC N ad (bX cy ad) u)) (hA N ad sz)) (hXC D (fun u : hSt => hC N ad (bX cy ad) u) X (hA N ad sz)) 1 6 (hA N ad sz) := by
  refine vx_ofW (cc := cX11_toldMethod) (maxL := 2) (ret := (some (.object "BellTower$Method"))) (by decide) rfl ?_
  intro p e s m args below meth c s₁ B hml hno hv
  obtain ⟨rfl, ⟨hsz, hP, hK, hN1⟩, hT⟩ := hv
  have hx := B.exec
  have hb := B.bytes
  have hr := B.returns
  have hts := atoms_spec (ws := wzX11_toldMethod) B.pre
  have hown : s.vm.findClass RX11 = some m.cls := findClass_of_methodNamed B.named
  have hlocks := B.notSynchronized
  subst hsz
  have hS : va_S (hA N ad s.heap.size) s.heap s.heap [] := va_S.rf
  have hiX11 : ∀ w ∈ wsX110, w ∈ wzX11_toldMethod := fun _ h => List.mem_cons_of_mem _ (List.mem_append_left _ (List.mem_append_left _ (List.mem_append_left _ (List.mem_append_right _ h))))
  have hl := lv_entry ([.ref (ad 0), .int a1]) (n := 2) (Nat.le_of_ble_eq_true rfl)
  rw [lg_entry_eq]
  generalize (lg_sl ([.ref (ad 0), .int a1]) ++ List.replicate (2 - (lg_sl ([.ref (ad 0), .int a1])).length) Slot.unset).toArray = ls at hl ⊢
  have hl : lv_has ls 2 [(0, .ref (ad 0)), (1, .int a1)] := hl
  unfold wp_X11_toldMethod at hw
  refine lv_aload_n hx hb dX11_toldMethod_0 rfl (lv_at hl 0 rfl) ?_
  refine hw_get (v := .ref (ad 1)) hx hb hts hiX11 hown hK hP (Nat.lt_of_lt_of_le (by decide) hN) (bX_0 _) rfl 3 (by decide) (List.mem_of_getElem? (i := 3) rfl) rfl rfl dX11_toldMethod_1 ?_
  refine lv_iload_n hx hb dX11_toldMethod_4 rfl (lv_at hl 1 rfl) ?_
  refine hw_ki (va_runV (As := [.int a1]) (rest := []) ⟨hx, hb, hml, hown, hts⟩ (kc_X0_has l D cy N hN ad hJ0 σ _ a1 _ hw) (cwV 1 hts gzX11_toldMethod_X0_has rfl rfl rfl (by decide +kernel) ⟨Nat.le_of_ble_eq_true rfl, Nat.le_of_ble_eq_true rfl⟩) (hw_preV hK hN1 hP (Nat.lt_of_lt_of_le (by decide) hN) (bX_1 _) rfl) rfl rfl hl.1 rfl (lv_room (Nat.le_of_ble_eq_true rfl)) dX11_toldMethod_5 ⟨Nat.le_of_ble_eq_true rfl, Nat.le_of_ble_eq_true rfl⟩) hS (fun r2 σ1 H locs hw hP hS => ?_)
  obtain ⟨hu_, hw⟩ := hw
  rw [hu_] at hP
  refine lv_if_ne (tgt := 22) hx hb dX11_toldMethod_8 (by decide) (fun c3 => ?_) (fun c3 => ?_)
  · have hw := hw.1 c3
    refine lv_aload_n hx hb dX11_toldMethod_22 rfl (lv_at hl 0 rfl) ?_
    refine hw_get (v := .ref (ad 1)) hx hb hts hiX11 hown hK hP (Nat.lt_of_lt_of_le (by decide) hN) (bX_0 _) rfl 3 (by decide) (List.mem_of_getElem? (i := 3) rfl) rfl rfl dX11_toldMethod_23 ?_
    refine lv_iload_n hx hb dX11_toldMethod_26 rfl (lv_at hl 1 rfl) ?_
    refine hw_kr (va_runV (As := [.int a1]) (rest := []) ⟨hx, hb, hml, hown, hts⟩ (kc_X0_at l D cy N hN ad hJ0 σ _ a1 _ hw) (cwV 1 hts gzX11_toldMethod_X0_at rfl rfl rfl (by decide +kernel) ⟨Nat.le_of_ble_eq_true rfl, Nat.le_of_ble_eq_true rfl⟩) (hw_preV hK hN1 hP (Nat.lt_of_lt_of_le (by decide) hN) (bX_1 _) rfl) rfl rfl hl.1 rfl (lv_room (Nat.le_of_ble_eq_true rfl)) dX11_toldMethod_27 ⟨Nat.le_of_ble_eq_true rfl, Nat.le_of_ble_eq_true rfl⟩) hS (fun k5 σ4 H locs hw hP hS => ?_)
    obtain ⟨hu_, hk6, hw⟩ := hw
    dsimp only at hu_ hk6 hw
    rw [hu_] at hP
    refine W.widen (k := 1) (n := 6) (by decide) (by decide) ?_
    refine vx_ret ?_
    exact hw_aret hx hb hr hlocks k5 σ ⟨hk6, hw⟩ hP hS dX11_toldMethod_30
  have hw := hw.2 c3
  obtain ⟨sa, hsa⟩ := hT.str 7 rfl
  exact hn_throwSW hx hb hfl hn_x0 hn_x1 hn_x2 hn_x5 hown (hts (.classLink RX11 147 "java/util/NoSuchElementException") (List.mem_of_getElem? (i := 1) rfl)) (hts (.initialized "java/util/NoSuchElementException") (List.mem_of_getElem? (i := 2) rfl)) hsa (hat_N (fun w hw => hts w (List.mem_cons_of_mem _ (List.mem_append_right _ hw))) hT) hgo_N hT.2.1 hT.2.2 hS (hl.1.trans hml.symm) dX11_toldMethod_11 dX11_toldMethod_14 dX11_toldMethod_15 dX11_toldMethod_18 dX11_toldMethod_21 (fun x hx => absurd hx (hno x)) (Nat.le_of_ble_eq_true rfl) (Nat.le_of_ble_eq_true rfl) (Nat.le_of_ble_eq_true rfl) (Nat.le_of_ble_eq_true rfl) hlocks (hx_of σ hw hP hS) hS.2.2 (Nat.le_of_ble_eq_true rfl) (Nat.le_of_ble_eq_true rfl)
set_option maxHeartbeats 4000000 in
set_option maxRecDepth 100000 in
theorem kc_X11_method (l : Launch) (hfl : l.stackTraces = false) (D : va_G) (cy : Nat → ClassId) (N : Nat) (hN : 38 ≤ N) (ad : Nat → Nat) (hJ0 : hJ N ad) (σ : hSt) (sz : Nat) (a1 : Int32) (Q : Int32 → hSt → Prop) (X : String → hSt → Prop) (hw : wp_X11_method a1 σ Q X) : vx_Met l yX11_method wsX11_method ({ frames := 7, cells := 1, slots := 6, locals := 157 } : Room) (va_Pc [.ref (ad 0), .int a1] (hBT D cy (hC N ad (bX cy ad) σ) (hA N ad sz) sz)) (va_Qi (fun (r : Int32) (u : hSt) => Q r u) (hE D (fun u : hSt => hC N ad (bX cy ad) u)) (hA N ad sz)) (hXC D (fun u : hSt => hC N ad (bX cy ad) u) X (hA N ad sz)) 1 6 (hA N ad sz) := by
  refine vx_ofW (cc := cX11_method) (maxL := 3) (ret := (some .int)) (by decide) rfl ?_
  intro p e s m args below meth c s₁ B hml hno hv
  obtain ⟨rfl, ⟨hsz, hP, hK, hN1⟩, hT⟩ := hv
  have hx := B.exec
  have hb := B.bytes
  have hr := B.returns
  have hts := atoms_spec (ws := wsX11_method) B.pre
  have hown : s.vm.findClass RX11 = some m.cls := findClass_of_methodNamed B.named
  have hlocks := B.notSynchronized
  subst hsz
  have hS : va_S (hA N ad s.heap.size) s.heap s.heap [] := va_S.rf
  have hiX11 : ∀ w ∈ wsX110, w ∈ wsX11_method := fun _ h => List.mem_cons_of_mem _ (List.mem_append_left _ (List.mem_append_left _ (List.mem_append_left _ (List.mem_append_left _ (List.mem_append_left _ (List.mem_append_left _ (List.mem_append_left _ (List.mem_append_right _ h))))))))
  have hl := lv_entry ([.ref (ad 0), .int a1]) (n := 3) (Nat.le_of_ble_eq_true rfl)
  rw [lg_entry_eq]
  generalize (lg_sl ([.ref (ad 0), .int a1]) ++ List.replicate (3 - (lg_sl ([.ref (ad 0), .int a1])).length) Slot.unset).toArray = ls at hl ⊢
  have hl : lv_has ls 3 [(0, .ref (ad 0)), (1, .int a1)] := hl
  unfold wp_X11_method at hw
  refine lv_iload_n hx hb dX11_method_0 rfl (lv_at hl 1 rfl) ?_
  refine lv_if_lt (tgt := 10) hx hb dX11_method_1 (by decide) (fun c1 => ?_) (fun c1 => ?_)
  · have hw := hw.1 c1
    obtain ⟨sa, hsa⟩ := hT.str 8 rfl
    exact vx_throwS hx hb hfl hown (by decide +kernel) (by decide +kernel) (hts (.classLink RX11 87 "java/lang/IndexOutOfBoundsException") (List.mem_of_getElem? (i := 1) rfl)) (hts (.initialized "java/lang/IndexOutOfBoundsException") (List.mem_of_getElem? (i := 2) rfl)) hsa (hat_I (fun w hw => hts w (List.mem_cons_of_mem _ (List.mem_append_right _ hw))) hT) hgo_I hT.2.1 hT.2.2 hS (hl.1.trans hml.symm) dX11_method_10 dX11_method_13 dX11_method_14 dX11_method_16 dX11_method_19 (fun x hx => absurd hx (hno x)) (Nat.le_of_ble_eq_true rfl) (Nat.le_of_ble_eq_true rfl) (Nat.le_of_ble_eq_true rfl) (Nat.le_of_ble_eq_true rfl) hlocks (hx_of σ hw hP hS) hS.2.2 (Nat.le_of_ble_eq_true rfl) (Nat.le_of_ble_eq_true rfl)
  have hw := hw.2 c1
  refine lv_iload_n hx hb dX11_method_4 rfl (lv_at hl 1 rfl) ?_
  refine lv_bipush (v := 6) hx hb dX11_method_5 (by decide) ?_
  refine lv_icmp_lt (tgt := 20) hx hb dX11_method_7 (by decide) (fun c2 => ?_) (fun c2 => ?_)
  · have hw := hw.1 c2
    refine lv_aload_n hx hb dX11_method_20 rfl (lv_at hl 0 rfl) ?_
    refine hw_get (v := .ref (ad 21)) hx hb hts hiX11 hown hK hP (Nat.lt_of_lt_of_le (by decide) hN) (bX_0 _) rfl 5 (by decide) (List.mem_of_getElem? (i := 3) rfl) rfl rfl dX11_method_21 ?_
    refine lv_aload_n hx hb dX11_method_24 rfl (lv_at hl 0 rfl) ?_
    refine hw_get (v := .int (σ 0 0)) hx hb hts hiX11 hown hK hP (Nat.lt_of_lt_of_le (by decide) hN) (bX_0 _) rfl 0 (by decide) (List.mem_of_getElem? (i := 4) rfl) rfl rfl dX11_method_25 ?_
    refine hw_kv (va_runV (As := [.int (σ 0 0)]) (rest := []) ⟨hx, hb, hml, hown, hts⟩ (kc_X3_begin l D cy N hN ad hJ0 σ _ (σ 0 0) _ hw) (cwV 1 hts gX11_method_X3_begin rfl rfl rfl (by decide +kernel) ⟨Nat.le_of_ble_eq_true rfl, Nat.le_of_ble_eq_true rfl⟩) (hw_preV hK hN1 hP (Nat.lt_of_lt_of_le (by decide) hN) (bX_21 _) rfl) rfl rfl hl.1 rfl (lv_room (Nat.le_of_ble_eq_true rfl)) dX11_method_28 ⟨Nat.le_of_ble_eq_true rfl, Nat.le_of_ble_eq_true rfl⟩) hS (fun σ3 H locs hw hP hS => ?_)
    refine lv_aload_n hx hb dX11_method_31 rfl (lv_at hl 0 rfl) ?_
    refine hw_get (v := .ref (ad 21)) hx hb hts hiX11 hown hK hP (Nat.lt_of_lt_of_le (by decide) hN) (bX_0 _) rfl 5 (by decide) (List.mem_of_getElem? (i := 3) rfl) rfl rfl dX11_method_32 ?_
    refine lv_aload_n hx hb dX11_method_35 rfl (lv_at hl 0 rfl) ?_
    refine hw_get (v := .ref (ad 19)) hx hb hts hiX11 hown hK hP (Nat.lt_of_lt_of_le (by decide) hN) (bX_0 _) rfl 2 (by decide) (List.mem_of_getElem? (i := 5) rfl) rfl rfl dX11_method_36 ?_
    refine hw_ki (va_runU (As := [.ref (ad 19)]) (rest := []) ⟨hx, hb, hml, hown, hts⟩ (kc_X10_readThrough_r21 l D cy N hN ad hJ0 σ3 _  _ hw) (va_cwU 1 hts gX11_method_X10_readThrough_u97X3 rfl rfl rfl rfl (by decide +kernel) ⟨Nat.le_of_ble_eq_true rfl, Nat.le_of_ble_eq_true rfl⟩) (hw_preV hK hN1 hP (Nat.lt_of_lt_of_le (by decide) hN) (bX_21 _) rfl) rfl rfl hl.1 rfl (lv_room (Nat.le_of_ble_eq_true rfl)) dX11_method_39 ⟨Nat.le_of_ble_eq_true rfl, Nat.le_of_ble_eq_true rfl⟩) hS (fun r5 σ4 H locs hw hP hS => ?_)
    refine lv_istore_n (lv' := [(2, .int r5), (0, .ref (ad 0)), (1, .int a1)]) hx hb dX11_method_42 rfl hl (by decide) rfl (fun ls hl => ?_)
    refine lv_aload_n hx hb dX11_method_43 rfl (lv_at hl 1 rfl) ?_
    refine hw_get (v := .ref (ad 19)) hx hb hts hiX11 hown hK hP (Nat.lt_of_lt_of_le (by decide) hN) (bX_0 _) rfl 2 (by decide) (List.mem_of_getElem? (i := 5) rfl) rfl rfl dX11_method_44 ?_
    refine lv_iconst (v := 0) hx hb dX11_method_47 (by decide) ?_
    refine hw_kv (va_runV (As := [.int (0 : Int32)]) (rest := []) ⟨hx, hb, hml, hown, hts⟩ (kc_X9_cut l D cy N hN ad hJ0 σ4 _ (0 : Int32) _ hw) (cwV 1 hts gX11_method_X9_cut rfl rfl rfl (by decide +kernel) ⟨Nat.le_of_ble_eq_true rfl, Nat.le_of_ble_eq_true rfl⟩) (hw_preV hK hN1 hP (Nat.lt_of_lt_of_le (by decide) hN) (bX_19 _) rfl) rfl rfl hl.1 rfl (lv_room (Nat.le_of_ble_eq_true rfl)) dX11_method_48 ⟨Nat.le_of_ble_eq_true rfl, Nat.le_of_ble_eq_true rfl⟩) hS (fun σ6 H locs hw hP hS => ?_)
    refine lv_aload_n hx hb dX11_method_51 rfl (lv_at hl 1 rfl) ?_
    refine lv_aload_n hx hb dX11_method_52 rfl (lv_at hl 1 rfl) ?_
    refine hw_get (v := .ref (ad 21)) hx hb hts hiX11 hown hK hP (Nat.lt_of_lt_of_le (by decide) hN) (bX_0 _) rfl 5 (by decide) (List.mem_of_getElem? (i := 3) rfl) rfl rfl dX11_method_53 ?_
    refine hw_ki (va_runU (As := []) (rest := [.ref (ad 0)]) ⟨hx, hb, hml, hown, hts⟩ (kc_X10_kind_r21 l D cy N hN ad hJ0 σ6 _  _ hw) (va_cwU 0 hts gX11_method_X10_kind_u101X3 rfl rfl rfl rfl (by decide +kernel) ⟨Nat.le_of_ble_eq_true rfl, Nat.le_of_ble_eq_true rfl⟩) (hw_preV hK hN1 hP (Nat.lt_of_lt_of_le (by decide) hN) (bX_21 _) rfl) rfl rfl hl.1 rfl (lv_room (Nat.le_of_ble_eq_true rfl)) dX11_method_56 ⟨Nat.le_of_ble_eq_true rfl, Nat.le_of_ble_eq_true rfl⟩) hS (fun r8 σ7 H locs hw hP hS => ?_)
    obtain ⟨hu_, hw⟩ := hw
    rw [hu_] at hP
    refine hw_put (x := r8) (j := 1) hx hb hts hiX11 tyX11 tyX11_ok nmX11 hown hK hJ0 hP hS (Nat.lt_of_lt_of_le (by decide) hN) (bX_0 _) rfl (by decide) (List.mem_of_getElem? (i := 6) rfl) rfl rfl rfl rfl (Nat.le_of_ble_eq_true rfl) (by rw [bX_0]; rfl) dX11_method_59 (fun H locs hP hS => ?_)
    refine lv_iload_n hx hb dX11_method_62 rfl (lv_at hl 0 rfl) ?_
    refine lv_if_ne (tgt := 76) hx hb dX11_method_63 (by decide) (fun c9 => ?_) (fun c9 => ?_)
    · have hw := hw.1 c9
      refine lv_aload_n hx hb dX11_method_76 rfl (lv_at hl 1 rfl) ?_
      refine hw_get (v := .ref (ad 1)) hx hb hts hiX11 hown hK hP (Nat.lt_of_lt_of_le (by decide) hN) (bX_0 _) rfl 3 (by decide) (List.mem_of_getElem? (i := 7) rfl) rfl rfl dX11_method_77 ?_
      refine lv_iload_n hx hb dX11_method_80 rfl (lv_at hl 2 rfl) ?_
      refine hw_kr (va_runV (As := [.int a1]) (rest := []) ⟨hx, hb, hml, hown, hts⟩ (kc_X0_at l D cy N hN ad hJ0 (hup σ6 0 1 r8) _ a1 _ hw) (cwV 1 hts gX11_method_X0_at rfl rfl rfl (by decide +kernel) ⟨Nat.le_of_ble_eq_true rfl, Nat.le_of_ble_eq_true rfl⟩) (hw_preV hK hN1 hP (Nat.lt_of_lt_of_le (by decide) hN) (bX_1 _) rfl) rfl rfl hl.1 rfl (lv_room (Nat.le_of_ble_eq_true rfl)) dX11_method_81 ⟨Nat.le_of_ble_eq_true rfl, Nat.le_of_ble_eq_true rfl⟩) hS (fun k11 σ10 H locs hw hP hS => ?_)
      obtain ⟨hu_, hk12, hw⟩ := hw
      dsimp only at hu_ hk12 hw
      rw [hu_] at hP
      refine lv_aload_n hx hb dX11_method_84 rfl (lv_at hl 1 rfl) ?_
      refine hw_get (v := .ref (ad 21)) hx hb hts hiX11 hown hK hP (Nat.lt_of_lt_of_le (by decide) hN) (bX_0 _) rfl 5 (by decide) (List.mem_of_getElem? (i := 3) rfl) rfl rfl dX11_method_85 ?_
      refine hw_kr (va_runV (As := []) (rest := [.ref (ad k11)]) ⟨hx, hb, hml, hown, hts⟩ (kc_X3_draft l D cy N hN ad hJ0 (hup σ6 0 1 r8) _  _ hw) (cwV 0 hts gX11_method_X3_draft rfl rfl rfl (by decide +kernel) ⟨Nat.le_of_ble_eq_true rfl, Nat.le_of_ble_eq_true rfl⟩) (hw_preV hK hN1 hP (Nat.lt_of_lt_of_le (by decide) hN) (bX_21 _) rfl) rfl rfl hl.1 rfl (lv_room (Nat.le_of_ble_eq_true rfl)) dX11_method_88 ⟨Nat.le_of_ble_eq_true rfl, Nat.le_of_ble_eq_true rfl⟩) hS (fun k14 σ13 H locs hw hP hS => ?_)
      obtain ⟨hu_, hk15, hw⟩ := hw
      dsimp only at hu_ hk15 hw
      rw [hu_] at hP
      refine hw_kv (va_runV (As := [.ref (ad k14)]) (rest := []) ⟨hx, hb, hml, hown, hts⟩ (kc_X2_copyFrom l D cy N hN ad hJ0 (hup σ6 0 1 r8) _ k11 hk12 k14 hk15 _ hw) (cwV 1 hts gX11_method_X2_copyFrom rfl rfl rfl (by decide +kernel) ⟨Nat.le_of_ble_eq_true rfl, Nat.le_of_ble_eq_true rfl⟩) (hw_preV hK hN1 hP (hMe_lt hk12 hN) (bX_me hk12 _) rfl) rfl rfl hl.1 rfl (lv_room (Nat.le_of_ble_eq_true rfl)) dX11_method_91 ⟨Nat.le_of_ble_eq_true rfl, Nat.le_of_ble_eq_true rfl⟩) hS (fun σ16 H locs hw hP hS => ?_)
      refine lv_aload_n hx hb dX11_method_94 rfl (lv_at hl 1 rfl) ?_
      refine hw_get (v := .ref (ad 31)) hx hb hts hiX11 hown hK hP (Nat.lt_of_lt_of_le (by decide) hN) (bX_0 _) rfl 7 (by decide) (List.mem_of_getElem? (i := 8) rfl) rfl rfl dX11_method_95 ?_
      refine lv_aload_n hx hb dX11_method_98 rfl (lv_at hl 1 rfl) ?_
      refine hw_get (v := .int (σ16 0 0)) hx hb hts hiX11 hown hK hP (Nat.lt_of_lt_of_le (by decide) hN) (bX_0 _) rfl 0 (by decide) (List.mem_of_getElem? (i := 4) rfl) rfl rfl dX11_method_99 ?_
      refine hw_kv (va_runV (As := [.int (σ16 0 0)]) (rest := []) ⟨hx, hb, hml, hown, hts⟩ (kc_X5_clear l D cy N hN ad hJ0 σ16 _ (σ16 0 0) _ hw) (cwV 1 hts gX11_method_X5_clear rfl rfl rfl (by decide +kernel) ⟨Nat.le_of_ble_eq_true rfl, Nat.le_of_ble_eq_true rfl⟩) (hw_preV hK hN1 hP (Nat.lt_of_lt_of_le (by decide) hN) (bX_31 _) rfl) rfl rfl hl.1 rfl (lv_room (Nat.le_of_ble_eq_true rfl)) dX11_method_102 ⟨Nat.le_of_ble_eq_true rfl, Nat.le_of_ble_eq_true rfl⟩) hS (fun σ17 H locs hw hP hS => ?_)
      refine lv_aload_n hx hb dX11_method_105 rfl (lv_at hl 1 rfl) ?_
      refine hw_get (v := .ref (ad 1)) hx hb hts hiX11 hown hK hP (Nat.lt_of_lt_of_le (by decide) hN) (bX_0 _) rfl 3 (by decide) (List.mem_of_getElem? (i := 7) rfl) rfl rfl dX11_method_106 ?_
      refine lv_iload_n hx hb dX11_method_109 rfl (lv_at hl 2 rfl) ?_
      refine hw_kr (va_runV (As := [.int a1]) (rest := []) ⟨hx, hb, hml, hown, hts⟩ (kc_X0_at l D cy N hN ad hJ0 σ17 _ a1 _ hw) (cwV 1 hts gX11_method_X0_at rfl rfl rfl (by decide +kernel) ⟨Nat.le_of_ble_eq_true rfl, Nat.le_of_ble_eq_true rfl⟩) (hw_preV hK hN1 hP (Nat.lt_of_lt_of_le (by decide) hN) (bX_1 _) rfl) rfl rfl hl.1 rfl (lv_room (Nat.le_of_ble_eq_true rfl)) dX11_method_110 ⟨Nat.le_of_ble_eq_true rfl, Nat.le_of_ble_eq_true rfl⟩) hS (fun k19 σ18 H locs hw hP hS => ?_)
      obtain ⟨hu_, hk20, hw⟩ := hw
      dsimp only at hu_ hk20 hw
      rw [hu_] at hP
      refine hw_ki (va_runV (As := []) (rest := []) ⟨hx, hb, hml, hown, hts⟩ (kc_X2_size l D cy N hN ad hJ0 σ17 _ k19 hk20 _ hw) (cwV 0 hts gX11_method_X2_size rfl rfl rfl (by decide +kernel) ⟨Nat.le_of_ble_eq_true rfl, Nat.le_of_ble_eq_true rfl⟩) (hw_preV hK hN1 hP (hMe_lt hk20 hN) (bX_me hk20 _) rfl) rfl rfl hl.1 rfl (lv_room (Nat.le_of_ble_eq_true rfl)) dX11_method_113 ⟨Nat.le_of_ble_eq_true rfl, Nat.le_of_ble_eq_true rfl⟩) hS (fun r22 σ21 H locs hw hP hS => ?_)
      obtain ⟨hu_, hw⟩ := hw
      rw [hu_] at hP
      refine W.widen (k := 1) (n := 6) (by decide) (by decide) ?_
      refine vx_ret ?_
      exact hw_iret hx hb hr hlocks (σ17) hw hP hS dX11_method_116
    have hw := hw.2 c9
    refine lv_iconst (v := -1) hx hb dX11_method_66 (by decide) ?_
    refine lv_aload_n hx hb dX11_method_67 rfl (lv_at hl 1 rfl) ?_
    refine hw_get (v := .ref (ad 21)) hx hb hts hiX11 hown hK hP (Nat.lt_of_lt_of_le (by decide) hN) (bX_0 _) rfl 5 (by decide) (List.mem_of_getElem? (i := 3) rfl) rfl rfl dX11_method_68 ?_
    refine hw_ki (va_runU (As := []) (rest := [.int (-1 : Int32)]) ⟨hx, hb, hml, hown, hts⟩ (kc_X10_place_r21 l D cy N hN ad hJ0 (hup σ6 0 1 r8) _  _ hw) (va_cwU 0 hts gX11_method_X10_place_u104X3 rfl rfl rfl rfl (by decide +kernel) ⟨Nat.le_of_ble_eq_true rfl, Nat.le_of_ble_eq_true rfl⟩) (hw_preV hK hN1 hP (Nat.lt_of_lt_of_le (by decide) hN) (bX_21 _) rfl) rfl rfl hl.1 rfl (lv_room (Nat.le_of_ble_eq_true rfl)) dX11_method_71 ⟨Nat.le_of_ble_eq_true rfl, Nat.le_of_ble_eq_true rfl⟩) hS (fun r24 σ23 H locs hw hP hS => ?_)
    obtain ⟨hu_, hw⟩ := hw
    rw [hu_] at hP
    refine lv_isub hx hb dX11_method_74 ?_
    refine W.widen (k := 1) (n := 6) (by decide) (by decide) ?_
    refine vx_ret ?_
    exact hw_iret hx hb hr hlocks ((hup σ6 0 1 r8)) hw hP hS dX11_method_75
  have hw := hw.2 c2
  obtain ⟨sa, hsa⟩ := hT.str 8 rfl
  exact vx_throwS hx hb hfl hown (by decide +kernel) (by decide +kernel) (hts (.classLink RX11 87 "java/lang/IndexOutOfBoundsException") (List.mem_of_getElem? (i := 1) rfl)) (hts (.initialized "java/lang/IndexOutOfBoundsException") (List.mem_of_getElem? (i := 2) rfl)) hsa (hat_I (fun w hw => hts w (List.mem_cons_of_mem _ (List.mem_append_right _ hw))) hT) hgo_I hT.2.1 hT.2.2 hS (hl.1.trans hml.symm) dX11_method_10 dX11_method_13 dX11_method_14 dX11_method_16 dX11_method_19 (fun x hx => absurd hx (hno x)) (Nat.le_of_ble_eq_true rfl) (Nat.le_of_ble_eq_true rfl) (Nat.le_of_ble_eq_true rfl) (Nat.le_of_ble_eq_true rfl) hlocks (hx_of σ hw hP hS) hS.2.2 (Nat.le_of_ble_eq_true rfl) (Nat.le_of_ble_eq_true rfl)
set_option maxHeartbeats 4000000 in
set_option maxRecDepth 100000 in
theorem kc_X11_lead (l : Launch) (hfl : l.stackTraces = false) (D : va_G) (cy : Nat → ClassId) (N : Nat) (hN : 38 ≤ N) (ad : Nat → Nat) (hJ0 : hJ N ad) (σ : hSt) (sz : Nat) (a1 : Int32) (a2 : Int32) (Q : Int32 → hSt → Prop) (X : String → hSt → Prop) (hw : wp_X11_lead a1 a2 σ Q X) : vx_Met l yX11_lead wzX11_lead ({ frames := 7, cells := 2, slots := 12, locals := 107 } : Room) (va_Pc [.ref (ad 0), .int a1, .int a2] (hBT D cy (hC N ad (bX cy ad) σ) (hA N ad sz) sz)) (va_Qi (fun (r : Int32) (u : hSt) => Q r u) (hE D (fun u : hSt => hC N ad (bX cy ad) u)) (hA N ad sz)) (hXC D (fun u : hSt => hC N ad (bX cy ad) u) X (hA N ad sz)) 2 12 (hA N ad sz) := by
  refine vx_ofW (cc := cX11_lead) (maxL := 4) (ret := (some .int)) (by decide) rfl ?_
  intro p e s m args below meth c s₁ B hml hno hv
  obtain ⟨rfl, ⟨hsz, hP, hK, hN1⟩, hT⟩ := hv
  have hx := B.exec
  have hb := B.bytes
  have hr := B.returns
  have hts := atoms_spec (ws := wzX11_lead) B.pre
  have hown : s.vm.findClass RX11 = some m.cls := findClass_of_methodNamed B.named
  have hlocks := B.notSynchronized
  subst hsz
  have hS : va_S (hA N ad s.heap.size) s.heap s.heap [] := va_S.rf
  have hiX11 : ∀ w ∈ wsX110, w ∈ wzX11_lead := fun _ h => List.mem_cons_of_mem _ (List.mem_append_left _ (List.mem_append_left _ (List.mem_append_left _ (List.mem_append_right _ h))))
  have hl := lv_entry ([.ref (ad 0), .int a1, .int a2]) (n := 4) (Nat.le_of_ble_eq_true rfl)
  rw [lg_entry_eq]
  generalize (lg_sl ([.ref (ad 0), .int a1, .int a2]) ++ List.replicate (4 - (lg_sl ([.ref (ad 0), .int a1, .int a2])).length) Slot.unset).toArray = ls at hl ⊢
  have hl : lv_has ls 4 [(0, .ref (ad 0)), (1, .int a1), (2, .int a2)] := hl
  unfold wp_X11_lead at hw
  refine lv_aload_n hx hb dX11_lead_0 rfl (lv_at hl 0 rfl) ?_
  refine lv_iload_n hx hb dX11_lead_1 rfl (lv_at hl 1 rfl) ?_
  refine hx_kr hlocks hno (vx_runV (As := [.int a1]) (rest := []) ⟨hx, hb, hml, hown, hts⟩ (kc_X11_toldMethod l hfl D cy N hN ad hJ0 σ _ a1 _ X hw) (cwV 1 hts gzX11_lead_X11_toldMethod rfl rfl rfl (by decide +kernel) ⟨Nat.le_of_ble_eq_true rfl, Nat.le_of_ble_eq_true rfl⟩) (hx_preV hK hN1 hT hP hS (Nat.lt_of_lt_of_le (by decide) hN) (bX_0 _) rfl) rfl rfl hl.1 rfl (lv_room (Nat.le_of_ble_eq_true rfl)) dX11_lead_2 ⟨Nat.le_of_ble_eq_true rfl, Nat.le_of_ble_eq_true rfl⟩) hS (Nat.le_of_ble_eq_true rfl) (Nat.le_of_ble_eq_true rfl) (fun k1 σ3 H locs hw hP hS => ?_)
  obtain ⟨hk2, hw⟩ := hw
  dsimp only at hk2 hw hP
  refine lv_astore_n (lv' := [(3, .ref (ad k1)), (0, .ref (ad 0)), (1, .int a1), (2, .int a2)]) hx hb dX11_lead_5 rfl hl (by decide) rfl (fun ls hl => ?_)
  refine lv_iload_n hx hb dX11_lead_6 rfl (lv_at hl 3 rfl) ?_
  refine lv_if_lt (tgt := 18) hx hb dX11_lead_7 (by decide) (fun c4 => ?_) (fun c4 => ?_)
  · have hw := hw.1 c4
    obtain ⟨sa, hsa⟩ := hT.str 0 rfl
    exact hn_throwS hx hb hfl hn_x0 hn_x1 hn_x2 hn_x5 hown (hts (.classLink RX11 147 "java/util/NoSuchElementException") (List.mem_of_getElem? (i := 1) rfl)) (hts (.initialized "java/util/NoSuchElementException") (List.mem_of_getElem? (i := 2) rfl)) hsa (hat_N (fun w hw => hts w (List.mem_cons_of_mem _ (List.mem_append_right _ hw))) hT) hgo_N hT.2.1 hT.2.2 hS (hl.1.trans hml.symm) dX11_lead_18 dX11_lead_21 dX11_lead_22 dX11_lead_24 dX11_lead_27 (fun x hx => absurd hx (hno x)) (Nat.le_of_ble_eq_true rfl) (Nat.le_of_ble_eq_true rfl) (Nat.le_of_ble_eq_true rfl) (Nat.le_of_ble_eq_true rfl) hlocks (hx_of σ3 hw hP hS) hS.2.2 (Nat.le_of_ble_eq_true rfl) (Nat.le_of_ble_eq_true rfl)
  have hw := hw.2 c4
  refine lv_iload_n hx hb dX11_lead_10 rfl (lv_at hl 3 rfl) ?_
  refine lv_aload_n hx hb dX11_lead_11 rfl (lv_at hl 0 rfl) ?_
  refine hw_ki (va_runV (As := []) (rest := [.int a2]) ⟨hx, hb, hml, hown, hts⟩ (kc_X2_size l D cy N hN ad hJ0 σ3 _ k1 hk2 _ hw) (cwV 0 hts gzX11_lead_X2_size rfl rfl rfl (by decide +kernel) ⟨Nat.le_of_ble_eq_true rfl, Nat.le_of_ble_eq_true rfl⟩) (hw_preV hK hN1 hP (hMe_lt hk2 hN) (bX_me hk2 _) rfl) rfl rfl hl.1 rfl (lv_room (Nat.le_of_ble_eq_true rfl)) dX11_lead_12 ⟨Nat.le_of_ble_eq_true rfl, Nat.le_of_ble_eq_true rfl⟩) hS (fun r6 σ5 H locs hw hP hS => ?_)
  obtain ⟨hu_, hw⟩ := hw
  rw [hu_] at hP
  refine lv_icmp_le (tgt := 28) hx hb dX11_lead_15 (by decide) (fun c7 => ?_) (fun c7 => ?_)
  · have hw := hw.1 c7
    refine lv_aload_n hx hb dX11_lead_28 rfl (lv_at hl 0 rfl) ?_
    refine lv_aload_n hx hb dX11_lead_29 rfl (lv_at hl 1 rfl) ?_
    refine hw_get (v := .int (σ3 0 0)) hx hb hts hiX11 hown hK hP (Nat.lt_of_lt_of_le (by decide) hN) (bX_0 _) rfl 0 (by decide) (List.mem_of_getElem? (i := 3) rfl) rfl rfl dX11_lead_30 ?_
    refine hw_ki (va_runS (As := [.int (σ3 0 0)]) (rest := [.ref (ad k1)]) ⟨hx, hb, hml, hown, hts⟩ (kc_X6_rounds l D cy N ad (bX cy ad) σ3 _ (σ3 0 0) _ hw) (va_cwS 1 hts gzX11_lead_X6_rounds rfl rfl rfl (by decide +kernel) ⟨Nat.le_of_ble_eq_true rfl, Nat.le_of_ble_eq_true rfl⟩) (hw_pre hK hN1 hP) rfl rfl hl.1 rfl (lv_room (Nat.le_of_ble_eq_true rfl)) dX11_lead_33 ⟨Nat.le_of_ble_eq_true rfl, Nat.le_of_ble_eq_true rfl⟩) hS (fun r9 σ8 H locs hw hP hS => ?_)
    obtain ⟨hu_, hw⟩ := hw
    rw [hu_] at hP
    refine lv_iload_n hx hb dX11_lead_36 rfl (lv_at hl 3 rfl) ?_
    refine hw_ki (va_runV (As := [.int r9, .int a2]) (rest := []) ⟨hx, hb, hml, hown, hts⟩ (kc_X2_rowFrom l D cy N hN ad hJ0 σ3 _ k1 hk2 r9 a2 _ hw) (cwV 2 hts gzX11_lead_X2_rowFrom rfl rfl rfl (by decide +kernel) ⟨Nat.le_of_ble_eq_true rfl, Nat.le_of_ble_eq_true rfl⟩) (hw_preV hK hN1 hP (hMe_lt hk2 hN) (bX_me hk2 _) rfl) rfl rfl hl.1 rfl (lv_room (Nat.le_of_ble_eq_true rfl)) dX11_lead_37 ⟨Nat.le_of_ble_eq_true rfl, Nat.le_of_ble_eq_true rfl⟩) hS (fun r11 σ10 H locs hw hP hS => ?_)
    obtain ⟨hu_, hw⟩ := hw
    rw [hu_] at hP
    refine lv_aload_n hx hb dX11_lead_40 rfl (lv_at hl 1 rfl) ?_
    refine hw_get (v := .int (σ3 0 0)) hx hb hts hiX11 hown hK hP (Nat.lt_of_lt_of_le (by decide) hN) (bX_0 _) rfl 0 (by decide) (List.mem_of_getElem? (i := 3) rfl) rfl rfl dX11_lead_41 ?_
    refine hw_ki (va_runS (As := [.int r11, .int (σ3 0 0)]) (rest := []) ⟨hx, hb, hml, hown, hts⟩ (kc_X6_told l D cy N ad (bX cy ad) σ3 _ r11 (σ3 0 0) _ hw) (va_cwS 2 hts gzX11_lead_X6_told rfl rfl rfl (by decide +kernel) ⟨Nat.le_of_ble_eq_true rfl, Nat.le_of_ble_eq_true rfl⟩) (hw_pre hK hN1 hP) rfl rfl hl.1 rfl (lv_room (Nat.le_of_ble_eq_true rfl)) dX11_lead_44 ⟨Nat.le_of_ble_eq_true rfl, Nat.le_of_ble_eq_true rfl⟩) hS (fun r13 σ12 H locs hw hP hS => ?_)
    obtain ⟨hu_, hw⟩ := hw
    rw [hu_] at hP
    refine W.widen (k := 2) (n := 12) (by decide) (by decide) ?_
    refine vx_ret ?_
    exact hw_iret hx hb hr hlocks (σ3) hw hP hS dX11_lead_47
  have hw := hw.2 c7
  obtain ⟨sa, hsa⟩ := hT.str 0 rfl
  exact hn_throwS hx hb hfl hn_x0 hn_x1 hn_x2 hn_x5 hown (hts (.classLink RX11 147 "java/util/NoSuchElementException") (List.mem_of_getElem? (i := 1) rfl)) (hts (.initialized "java/util/NoSuchElementException") (List.mem_of_getElem? (i := 2) rfl)) hsa (hat_N (fun w hw => hts w (List.mem_cons_of_mem _ (List.mem_append_right _ hw))) hT) hgo_N hT.2.1 hT.2.2 hS (hl.1.trans hml.symm) dX11_lead_18 dX11_lead_21 dX11_lead_22 dX11_lead_24 dX11_lead_27 (fun x hx => absurd hx (hno x)) (Nat.le_of_ble_eq_true rfl) (Nat.le_of_ble_eq_true rfl) (Nat.le_of_ble_eq_true rfl) (Nat.le_of_ble_eq_true rfl) hlocks (hx_of σ3 hw hP hS) hS.2.2 (Nat.le_of_ble_eq_true rfl) (Nat.le_of_ble_eq_true rfl)
set_option maxHeartbeats 4000000 in
set_option maxRecDepth 100000 in
theorem kc_X11_head (l : Launch) (hfl : l.stackTraces = false) (D : va_G) (cy : Nat → ClassId) (N : Nat) (hN : 38 ≤ N) (ad : Nat → Nat) (hJ0 : hJ N ad) (σ : hSt) (sz : Nat) (a1 : Int32) (a2 : Int32) (Q : Int32 → hSt → Prop) (X : String → hSt → Prop) (hw : wp_X11_head a1 a2 σ Q X) : vx_Met l yX11_head wzX11_head ({ frames := 7, cells := 2, slots := 12, locals := 107 } : Room) (va_Pc [.ref (ad 0), .int a1, .int a2] (hBT D cy (hC N ad (bX cy ad) σ) (hA N ad sz) sz)) (va_Qi (fun (r : Int32) (u : hSt) => Q r u) (hE D (fun u : hSt => hC N ad (bX cy ad) u)) (hA N ad sz)) (hXC D (fun u : hSt => hC N ad (bX cy ad) u) X (hA N ad sz)) 2 12 (hA N ad sz) := by
  refine vx_ofW (cc := cX11_head) (maxL := 4) (ret := (some .int)) (by decide) rfl ?_
  intro p e s m args below meth c s₁ B hml hno hv
  obtain ⟨rfl, ⟨hsz, hP, hK, hN1⟩, hT⟩ := hv
  have hx := B.exec
  have hb := B.bytes
  have hr := B.returns
  have hts := atoms_spec (ws := wzX11_head) B.pre
  have hown : s.vm.findClass RX11 = some m.cls := findClass_of_methodNamed B.named
  have hlocks := B.notSynchronized
  subst hsz
  have hS : va_S (hA N ad s.heap.size) s.heap s.heap [] := va_S.rf
  have hiX11 : ∀ w ∈ wsX110, w ∈ wzX11_head := fun _ h => List.mem_cons_of_mem _ (List.mem_append_left _ (List.mem_append_left _ (List.mem_append_left _ (List.mem_append_right _ h))))
  have hl := lv_entry ([.ref (ad 0), .int a1, .int a2]) (n := 4) (Nat.le_of_ble_eq_true rfl)
  rw [lg_entry_eq]
  generalize (lg_sl ([.ref (ad 0), .int a1, .int a2]) ++ List.replicate (4 - (lg_sl ([.ref (ad 0), .int a1, .int a2])).length) Slot.unset).toArray = ls at hl ⊢
  have hl : lv_has ls 4 [(0, .ref (ad 0)), (1, .int a1), (2, .int a2)] := hl
  unfold wp_X11_head at hw
  refine lv_aload_n hx hb dX11_head_0 rfl (lv_at hl 0 rfl) ?_
  refine lv_iload_n hx hb dX11_head_1 rfl (lv_at hl 1 rfl) ?_
  refine hx_kr hlocks hno (vx_runV (As := [.int a1]) (rest := []) ⟨hx, hb, hml, hown, hts⟩ (kc_X11_toldMethod l hfl D cy N hN ad hJ0 σ _ a1 _ X hw) (cwV 1 hts gzX11_head_X11_toldMethod rfl rfl rfl (by decide +kernel) ⟨Nat.le_of_ble_eq_true rfl, Nat.le_of_ble_eq_true rfl⟩) (hx_preV hK hN1 hT hP hS (Nat.lt_of_lt_of_le (by decide) hN) (bX_0 _) rfl) rfl rfl hl.1 rfl (lv_room (Nat.le_of_ble_eq_true rfl)) dX11_head_2 ⟨Nat.le_of_ble_eq_true rfl, Nat.le_of_ble_eq_true rfl⟩) hS (Nat.le_of_ble_eq_true rfl) (Nat.le_of_ble_eq_true rfl) (fun k1 σ3 H locs hw hP hS => ?_)
  obtain ⟨hk2, hw⟩ := hw
  dsimp only at hk2 hw hP
  refine lv_astore_n (lv' := [(3, .ref (ad k1)), (0, .ref (ad 0)), (1, .int a1), (2, .int a2)]) hx hb dX11_head_5 rfl hl (by decide) rfl (fun ls hl => ?_)
  refine lv_iload_n hx hb dX11_head_6 rfl (lv_at hl 3 rfl) ?_
  refine lv_if_lt (tgt := 15) hx hb dX11_head_7 (by decide) (fun c4 => ?_) (fun c4 => ?_)
  · have hw := hw.1 c4
    obtain ⟨sa, hsa⟩ := hT.str 1 rfl
    exact hn_throwS hx hb hfl hn_x0 hn_x1 hn_x2 hn_x5 hown (hts (.classLink RX11 147 "java/util/NoSuchElementException") (List.mem_of_getElem? (i := 1) rfl)) (hts (.initialized "java/util/NoSuchElementException") (List.mem_of_getElem? (i := 2) rfl)) hsa (hat_N (fun w hw => hts w (List.mem_cons_of_mem _ (List.mem_append_right _ hw))) hT) hgo_N hT.2.1 hT.2.2 hS (hl.1.trans hml.symm) dX11_head_15 dX11_head_18 dX11_head_19 dX11_head_21 dX11_head_24 (fun x hx => absurd hx (hno x)) (Nat.le_of_ble_eq_true rfl) (Nat.le_of_ble_eq_true rfl) (Nat.le_of_ble_eq_true rfl) (Nat.le_of_ble_eq_true rfl) hlocks (hx_of σ3 hw hP hS) hS.2.2 (Nat.le_of_ble_eq_true rfl) (Nat.le_of_ble_eq_true rfl)
  have hw := hw.2 c4
  refine lv_iload_n hx hb dX11_head_10 rfl (lv_at hl 3 rfl) ?_
  refine lv_iconst (v := 2) hx hb dX11_head_11 (by decide) ?_
  refine lv_icmp_le (tgt := 25) hx hb dX11_head_12 (by decide) (fun c5 => ?_) (fun c5 => ?_)
  · have hw := hw.1 c5
    refine lv_aload_n hx hb dX11_head_25 rfl (lv_at hl 0 rfl) ?_
    refine lv_aload_n hx hb dX11_head_26 rfl (lv_at hl 1 rfl) ?_
    refine hw_get (v := .int (σ3 0 0)) hx hb hts hiX11 hown hK hP (Nat.lt_of_lt_of_le (by decide) hN) (bX_0 _) rfl 0 (by decide) (List.mem_of_getElem? (i := 3) rfl) rfl rfl dX11_head_27 ?_
    refine hw_ki (va_runS (As := [.int (σ3 0 0)]) (rest := [.ref (ad k1)]) ⟨hx, hb, hml, hown, hts⟩ (kc_X6_rounds l D cy N ad (bX cy ad) σ3 _ (σ3 0 0) _ hw) (va_cwS 1 hts gzX11_head_X6_rounds rfl rfl rfl (by decide +kernel) ⟨Nat.le_of_ble_eq_true rfl, Nat.le_of_ble_eq_true rfl⟩) (hw_pre hK hN1 hP) rfl rfl hl.1 rfl (lv_room (Nat.le_of_ble_eq_true rfl)) dX11_head_30 ⟨Nat.le_of_ble_eq_true rfl, Nat.le_of_ble_eq_true rfl⟩) hS (fun r7 σ6 H locs hw hP hS => ?_)
    obtain ⟨hu_, hw⟩ := hw
    rw [hu_] at hP
    refine lv_iload_n hx hb dX11_head_33 rfl (lv_at hl 3 rfl) ?_
    refine hw_ki (va_runV (As := [.int r7, .int a2]) (rest := []) ⟨hx, hb, hml, hown, hts⟩ (kc_X2_following l D cy N hN ad hJ0 σ3 _ k1 hk2 r7 a2 _ hw) (cwV 2 hts gzX11_head_X2_following rfl rfl rfl (by decide +kernel) ⟨Nat.le_of_ble_eq_true rfl, Nat.le_of_ble_eq_true rfl⟩) (hw_preV hK hN1 hP (hMe_lt hk2 hN) (bX_me hk2 _) rfl) rfl rfl hl.1 rfl (lv_room (Nat.le_of_ble_eq_true rfl)) dX11_head_34 ⟨Nat.le_of_ble_eq_true rfl, Nat.le_of_ble_eq_true rfl⟩) hS (fun r9 σ8 H locs hw hP hS => ?_)
    obtain ⟨hu_, hw⟩ := hw
    rw [hu_] at hP
    refine lv_aload_n hx hb dX11_head_37 rfl (lv_at hl 1 rfl) ?_
    refine hw_get (v := .int (σ3 0 0)) hx hb hts hiX11 hown hK hP (Nat.lt_of_lt_of_le (by decide) hN) (bX_0 _) rfl 0 (by decide) (List.mem_of_getElem? (i := 3) rfl) rfl rfl dX11_head_38 ?_
    refine hw_ki (va_runS (As := [.int r9, .int (σ3 0 0)]) (rest := []) ⟨hx, hb, hml, hown, hts⟩ (kc_X6_told l D cy N ad (bX cy ad) σ3 _ r9 (σ3 0 0) _ hw) (va_cwS 2 hts gzX11_head_X6_told rfl rfl rfl (by decide +kernel) ⟨Nat.le_of_ble_eq_true rfl, Nat.le_of_ble_eq_true rfl⟩) (hw_pre hK hN1 hP) rfl rfl hl.1 rfl (lv_room (Nat.le_of_ble_eq_true rfl)) dX11_head_41 ⟨Nat.le_of_ble_eq_true rfl, Nat.le_of_ble_eq_true rfl⟩) hS (fun r11 σ10 H locs hw hP hS => ?_)
    obtain ⟨hu_, hw⟩ := hw
    rw [hu_] at hP
    refine W.widen (k := 2) (n := 12) (by decide) (by decide) ?_
    refine vx_ret ?_
    exact hw_iret hx hb hr hlocks (σ3) hw hP hS dX11_head_44
  have hw := hw.2 c5
  obtain ⟨sa, hsa⟩ := hT.str 1 rfl
  exact hn_throwS hx hb hfl hn_x0 hn_x1 hn_x2 hn_x5 hown (hts (.classLink RX11 147 "java/util/NoSuchElementException") (List.mem_of_getElem? (i := 1) rfl)) (hts (.initialized "java/util/NoSuchElementException") (List.mem_of_getElem? (i := 2) rfl)) hsa (hat_N (fun w hw => hts w (List.mem_cons_of_mem _ (List.mem_append_right _ hw))) hT) hgo_N hT.2.1 hT.2.2 hS (hl.1.trans hml.symm) dX11_head_15 dX11_head_18 dX11_head_19 dX11_head_21 dX11_head_24 (fun x hx => absurd hx (hno x)) (Nat.le_of_ble_eq_true rfl) (Nat.le_of_ble_eq_true rfl) (Nat.le_of_ble_eq_true rfl) (Nat.le_of_ble_eq_true rfl) hlocks (hx_of σ3 hw hP hS) hS.2.2 (Nat.le_of_ble_eq_true rfl) (Nat.le_of_ble_eq_true rfl)
set_option maxHeartbeats 4000000 in
set_option maxRecDepth 100000 in
theorem kc_X11_course (l : Launch) (hfl : l.stackTraces = false) (D : va_G) (cy : Nat → ClassId) (N : Nat) (hN : 38 ≤ N) (ad : Nat → Nat) (hJ0 : hJ N ad) (σ : hSt) (sz : Nat) (a1 : Int32) (Q : Int32 → hSt → Prop) (X : String → hSt → Prop) (hw : wp_X11_course a1 σ Q X) : vx_Met l yX11_course wzX11_course ({ frames := 7, cells := 1, slots := 6, locals := 107 } : Room) (va_Pc [.ref (ad 0), .int a1] (hBT D cy (hC N ad (bX cy ad) σ) (hA N ad sz) sz)) (va_Qi (fun (r : Int32) (u : hSt) => Q r u) (hE D (fun u : hSt => hC N ad (bX cy ad) u)) (hA N ad sz)) (hXC D (fun u : hSt => hC N ad (bX cy ad) u) X (hA N ad sz)) 1 6 (hA N ad sz) := by
  refine vx_ofW (cc := cX11_course) (maxL := 2) (ret := (some .int)) (by decide) rfl ?_
  intro p e s m args below meth c s₁ B hml hno hv
  obtain ⟨rfl, ⟨hsz, hP, hK, hN1⟩, hT⟩ := hv
  have hx := B.exec
  have hb := B.bytes
  have hr := B.returns
  have hts := atoms_spec (ws := wzX11_course) B.pre
  have hown : s.vm.findClass RX11 = some m.cls := findClass_of_methodNamed B.named
  have hlocks := B.notSynchronized
  subst hsz
  have hS : va_S (hA N ad s.heap.size) s.heap s.heap [] := va_S.rf
  have hl := lv_entry ([.ref (ad 0), .int a1]) (n := 2) (Nat.le_of_ble_eq_true rfl)
  rw [lg_entry_eq]
  generalize (lg_sl ([.ref (ad 0), .int a1]) ++ List.replicate (2 - (lg_sl ([.ref (ad 0), .int a1])).length) Slot.unset).toArray = ls at hl ⊢
  have hl : lv_has ls 2 [(0, .ref (ad 0)), (1, .int a1)] := hl
  unfold wp_X11_course at hw
  refine lv_aload_n hx hb dX11_course_0 rfl (lv_at hl 0 rfl) ?_
  refine lv_iload_n hx hb dX11_course_1 rfl (lv_at hl 1 rfl) ?_
  refine hx_kr hlocks hno (vx_runV (As := [.int a1]) (rest := []) ⟨hx, hb, hml, hown, hts⟩ (kc_X11_toldMethod l hfl D cy N hN ad hJ0 σ _ a1 _ X hw) (cwV 1 hts gzX11_course_X11_toldMethod rfl rfl rfl (by decide +kernel) ⟨Nat.le_of_ble_eq_true rfl, Nat.le_of_ble_eq_true rfl⟩) (hx_preV hK hN1 hT hP hS (Nat.lt_of_lt_of_le (by decide) hN) (bX_0 _) rfl) rfl rfl hl.1 rfl (lv_room (Nat.le_of_ble_eq_true rfl)) dX11_course_2 ⟨Nat.le_of_ble_eq_true rfl, Nat.le_of_ble_eq_true rfl⟩) hS (Nat.le_of_ble_eq_true rfl) (Nat.le_of_ble_eq_true rfl) (fun k1 σ3 H locs hw hP hS => ?_)
  obtain ⟨hk2, hw⟩ := hw
  dsimp only at hk2 hw hP
  refine hw_ki (va_runV (As := []) (rest := []) ⟨hx, hb, hml, hown, hts⟩ (kc_X2_courseLeads l D cy N hN ad hJ0 σ3 _ k1 hk2 _ hw) (cwV 0 hts gzX11_course_X2_courseLeads rfl rfl rfl (by decide +kernel) ⟨Nat.le_of_ble_eq_true rfl, Nat.le_of_ble_eq_true rfl⟩) (hw_preV hK hN1 hP (hMe_lt hk2 hN) (bX_me hk2 _) rfl) rfl rfl hl.1 rfl (lv_room (Nat.le_of_ble_eq_true rfl)) dX11_course_5 ⟨Nat.le_of_ble_eq_true rfl, Nat.le_of_ble_eq_true rfl⟩) hS (fun r5 σ4 H locs hw hP hS => ?_)
  obtain ⟨hu_, hw⟩ := hw
  rw [hu_] at hP
  refine W.widen (k := 1) (n := 6) (by decide) (by decide) ?_
  refine vx_ret ?_
  exact hw_iret hx hb hr hlocks (σ3) hw hP hS dX11_course_8
set_option maxHeartbeats 4000000 in
set_option maxRecDepth 100000 in
theorem kc_X11_line (l : Launch) (hfl : l.stackTraces = false) (D : va_G) (cy : Nat → ClassId) (N : Nat) (hN : 38 ≤ N) (ad : Nat → Nat) (hJ0 : hJ N ad) (σ : hSt) (sz : Nat) (a1 : Int32) (a2 : Int32) (a3 : Int32) (Q : Int32 → hSt → Prop) (X : String → hSt → Prop) (hw : wp_X11_line a1 a2 a3 σ Q X) : vx_Met l yX11_line wzX11_line ({ frames := 7, cells := 2, slots := 12, locals := 113 } : Room) (va_Pc [.ref (ad 0), .int a1, .int a2, .int a3] (hBT D cy (hC N ad (bX cy ad) σ) (hA N ad sz) sz)) (va_Qi (fun (r : Int32) (u : hSt) => Q r u) (hE D (fun u : hSt => hC N ad (bX cy ad) u)) (hA N ad sz)) (hXC D (fun u : hSt => hC N ad (bX cy ad) u) X (hA N ad sz)) 2 12 (hA N ad sz) := by
  refine vx_ofW (cc := cX11_line) (maxL := 5) (ret := (some .int)) (by decide) rfl ?_
  intro p e s m args below meth c s₁ B hml hno hv
  obtain ⟨rfl, ⟨hsz, hP, hK, hN1⟩, hT⟩ := hv
  have hx := B.exec
  have hb := B.bytes
  have hr := B.returns
  have hts := atoms_spec (ws := wzX11_line) B.pre
  have hown : s.vm.findClass RX11 = some m.cls := findClass_of_methodNamed B.named
  have hlocks := B.notSynchronized
  subst hsz
  have hS : va_S (hA N ad s.heap.size) s.heap s.heap [] := va_S.rf
  have hiX11 : ∀ w ∈ wsX110, w ∈ wzX11_line := fun _ h => List.mem_cons_of_mem _ (List.mem_append_left _ (List.mem_append_left _ (List.mem_append_left _ (List.mem_append_right _ h))))
  have hl := lv_entry ([.ref (ad 0), .int a1, .int a2, .int a3]) (n := 5) (Nat.le_of_ble_eq_true rfl)
  rw [lg_entry_eq]
  generalize (lg_sl ([.ref (ad 0), .int a1, .int a2, .int a3]) ++ List.replicate (5 - (lg_sl ([.ref (ad 0), .int a1, .int a2, .int a3])).length) Slot.unset).toArray = ls at hl ⊢
  have hl : lv_has ls 5 [(0, .ref (ad 0)), (1, .int a1), (2, .int a2), (3, .int a3)] := hl
  unfold wp_X11_line at hw
  refine lv_aload_n hx hb dX11_line_0 rfl (lv_at hl 0 rfl) ?_
  refine lv_iload_n hx hb dX11_line_1 rfl (lv_at hl 1 rfl) ?_
  refine hx_kr hlocks hno (vx_runV (As := [.int a1]) (rest := []) ⟨hx, hb, hml, hown, hts⟩ (kc_X11_toldMethod l hfl D cy N hN ad hJ0 σ _ a1 _ X hw) (cwV 1 hts gzX11_line_X11_toldMethod rfl rfl rfl (by decide +kernel) ⟨Nat.le_of_ble_eq_true rfl, Nat.le_of_ble_eq_true rfl⟩) (hx_preV hK hN1 hT hP hS (Nat.lt_of_lt_of_le (by decide) hN) (bX_0 _) rfl) rfl rfl hl.1 rfl (lv_room (Nat.le_of_ble_eq_true rfl)) dX11_line_2 ⟨Nat.le_of_ble_eq_true rfl, Nat.le_of_ble_eq_true rfl⟩) hS (Nat.le_of_ble_eq_true rfl) (Nat.le_of_ble_eq_true rfl) (fun k1 σ3 H locs hw hP hS => ?_)
  obtain ⟨hk2, hw⟩ := hw
  dsimp only at hk2 hw hP
  refine lv_astore (lv' := [(4, .ref (ad k1)), (0, .ref (ad 0)), (1, .int a1), (2, .int a2), (3, .int a3)]) hx hb dX11_line_5 hl (by decide) rfl (fun ls hl => ?_)
  refine lv_iload_n hx hb dX11_line_7 rfl (lv_at hl 3 rfl) ?_
  refine lv_iconst (v := 1) hx hb dX11_line_8 (by decide) ?_
  refine lv_icmp_lt (tgt := 24) hx hb dX11_line_9 (by decide) (fun c4 => ?_) (fun c4 => ?_)
  · have hw := hw.1 c4
    obtain ⟨sa, hsa⟩ := hT.str 2 rfl
    exact hn_throwS hx hb hfl hn_x0 hn_x1 hn_x2 hn_x5 hown (hts (.classLink RX11 147 "java/util/NoSuchElementException") (List.mem_of_getElem? (i := 1) rfl)) (hts (.initialized "java/util/NoSuchElementException") (List.mem_of_getElem? (i := 2) rfl)) hsa (hat_N (fun w hw => hts w (List.mem_cons_of_mem _ (List.mem_append_right _ hw))) hT) hgo_N hT.2.1 hT.2.2 hS (hl.1.trans hml.symm) dX11_line_24 dX11_line_27 dX11_line_28 dX11_line_30 dX11_line_33 (fun x hx => absurd hx (hno x)) (Nat.le_of_ble_eq_true rfl) (Nat.le_of_ble_eq_true rfl) (Nat.le_of_ble_eq_true rfl) (Nat.le_of_ble_eq_true rfl) hlocks (hx_of σ3 hw hP hS) hS.2.2 (Nat.le_of_ble_eq_true rfl) (Nat.le_of_ble_eq_true rfl)
  have hw := hw.2 c4
  refine lv_iload_n hx hb dX11_line_12 rfl (lv_at hl 3 rfl) ?_
  refine lv_aload_n hx hb dX11_line_13 rfl (lv_at hl 1 rfl) ?_
  refine hw_get (v := .int (σ3 0 0)) hx hb hts hiX11 hown hK hP (Nat.lt_of_lt_of_le (by decide) hN) (bX_0 _) rfl 0 (by decide) (List.mem_of_getElem? (i := 3) rfl) rfl rfl dX11_line_14 ?_
  refine lv_icmp_gt (tgt := 24) hx hb dX11_line_17 (by decide) (fun c5 => ?_) (fun c5 => ?_)
  · have hw := hw.1 c5
    obtain ⟨sa, hsa⟩ := hT.str 2 rfl
    exact hn_throwS hx hb hfl hn_x0 hn_x1 hn_x2 hn_x5 hown (hts (.classLink RX11 147 "java/util/NoSuchElementException") (List.mem_of_getElem? (i := 1) rfl)) (hts (.initialized "java/util/NoSuchElementException") (List.mem_of_getElem? (i := 2) rfl)) hsa (hat_N (fun w hw => hts w (List.mem_cons_of_mem _ (List.mem_append_right _ hw))) hT) hgo_N hT.2.1 hT.2.2 hS (hl.1.trans hml.symm) dX11_line_24 dX11_line_27 dX11_line_28 dX11_line_30 dX11_line_33 (fun x hx => absurd hx (hno x)) (Nat.le_of_ble_eq_true rfl) (Nat.le_of_ble_eq_true rfl) (Nat.le_of_ble_eq_true rfl) (Nat.le_of_ble_eq_true rfl) hlocks (hx_of σ3 hw hP hS) hS.2.2 (Nat.le_of_ble_eq_true rfl) (Nat.le_of_ble_eq_true rfl)
  have hw := hw.2 c5
  refine lv_iload_n hx hb dX11_line_20 rfl (lv_at hl 4 rfl) ?_
  refine lv_if_ge (tgt := 34) hx hb dX11_line_21 (by decide) (fun c6 => ?_) (fun c6 => ?_)
  · have hw := hw.1 c6
    refine lv_iconst (v := 1) hx hb dX11_line_34 (by decide) ?_
    refine lv_aload hx hb dX11_line_35 (lv_at hl 0 rfl) ?_
    refine lv_iload_n hx hb dX11_line_37 rfl (lv_at hl 4 rfl) ?_
    refine hw_ki (va_runV (As := [.int a3]) (rest := [.int (1 : Int32)]) ⟨hx, hb, hml, hown, hts⟩ (kc_X2_courseRow l D cy N hN ad hJ0 σ3 _ k1 hk2 a3 _ hw) (cwV 1 hts gzX11_line_X2_courseRow rfl rfl rfl (by decide +kernel) ⟨Nat.le_of_ble_eq_true rfl, Nat.le_of_ble_eq_true rfl⟩) (hw_preV hK hN1 hP (hMe_lt hk2 hN) (bX_me hk2 _) rfl) rfl rfl hl.1 rfl (lv_room (Nat.le_of_ble_eq_true rfl)) dX11_line_38 ⟨Nat.le_of_ble_eq_true rfl, Nat.le_of_ble_eq_true rfl⟩) hS (fun r8 σ7 H locs hw hP hS => ?_)
    obtain ⟨hu_, hw⟩ := hw
    rw [hu_] at hP
    refine lv_iload_n hx hb dX11_line_41 rfl (lv_at hl 3 rfl) ?_
    refine lv_iconst (v := 1) hx hb dX11_line_42 (by decide) ?_
    refine lv_isub hx hb dX11_line_43 ?_
    refine lv_aload_n hx hb dX11_line_44 rfl (lv_at hl 1 rfl) ?_
    refine hw_get (v := .int (σ3 0 0)) hx hb hts hiX11 hown hK hP (Nat.lt_of_lt_of_le (by decide) hN) (bX_0 _) rfl 0 (by decide) (List.mem_of_getElem? (i := 3) rfl) rfl rfl dX11_line_45 ?_
    refine hw_ki (va_runS (As := [.int r8, .int (a2 - (1 : Int32)), .int (σ3 0 0)]) (rest := [.int (1 : Int32)]) ⟨hx, hb, hml, hown, hts⟩ (kc_X6_placeOf l D cy N ad (bX cy ad) σ3 _ r8 (a2 - (1 : Int32)) (σ3 0 0) _ hw) (va_cwS 3 hts gzX11_line_X6_placeOf rfl rfl rfl (by decide +kernel) ⟨Nat.le_of_ble_eq_true rfl, Nat.le_of_ble_eq_true rfl⟩) (hw_pre hK hN1 hP) rfl rfl hl.1 rfl (lv_room (Nat.le_of_ble_eq_true rfl)) dX11_line_48 ⟨Nat.le_of_ble_eq_true rfl, Nat.le_of_ble_eq_true rfl⟩) hS (fun r10 σ9 H locs hw hP hS => ?_)
    obtain ⟨hu_, hw⟩ := hw
    rw [hu_] at hP
    refine lv_iadd hx hb dX11_line_51 ?_
    refine W.widen (k := 2) (n := 12) (by decide) (by decide) ?_
    refine vx_ret ?_
    exact hw_iret hx hb hr hlocks (σ3) hw hP hS dX11_line_52
  have hw := hw.2 c6
  obtain ⟨sa, hsa⟩ := hT.str 2 rfl
  exact hn_throwS hx hb hfl hn_x0 hn_x1 hn_x2 hn_x5 hown (hts (.classLink RX11 147 "java/util/NoSuchElementException") (List.mem_of_getElem? (i := 1) rfl)) (hts (.initialized "java/util/NoSuchElementException") (List.mem_of_getElem? (i := 2) rfl)) hsa (hat_N (fun w hw => hts w (List.mem_cons_of_mem _ (List.mem_append_right _ hw))) hT) hgo_N hT.2.1 hT.2.2 hS (hl.1.trans hml.symm) dX11_line_24 dX11_line_27 dX11_line_28 dX11_line_30 dX11_line_33 (fun x hx => absurd hx (hno x)) (Nat.le_of_ble_eq_true rfl) (Nat.le_of_ble_eq_true rfl) (Nat.le_of_ble_eq_true rfl) (Nat.le_of_ble_eq_true rfl) hlocks (hx_of σ3 hw hP hS) hS.2.2 (Nat.le_of_ble_eq_true rfl) (Nat.le_of_ble_eq_true rfl)
set_option maxHeartbeats 4000000 in
set_option maxRecDepth 100000 in
theorem kc_X11_falseHeads (l : Launch) (hfl : l.stackTraces = false) (D : va_G) (cy : Nat → ClassId) (N : Nat) (hN : 38 ≤ N) (ad : Nat → Nat) (hJ0 : hJ N ad) (σ : hSt) (sz : Nat) (a1 : Int32) (a2 : Int32) (Q : Int32 → hSt → Prop) (X : String → hSt → Prop) (hw : wp_X11_falseHeads a1 a2 σ Q X) : vx_Met l yX11_falseHeads wzX11_falseHeads ({ frames := 7, cells := 2, slots := 12, locals := 107 } : Room) (va_Pc [.ref (ad 0), .int a1, .int a2] (hBT D cy (hC N ad (bX cy ad) σ) (hA N ad sz) sz)) (va_Qi (fun (r : Int32) (u : hSt) => Q r u) (hE D (fun u : hSt => hC N ad (bX cy ad) u)) (hA N ad sz)) (hXC D (fun u : hSt => hC N ad (bX cy ad) u) X (hA N ad sz)) 2 12 (hA N ad sz) := by
  refine vx_ofW (cc := cX11_falseHeads) (maxL := 3) (ret := (some .int)) (by decide) rfl ?_
  intro p e s m args below meth c s₁ B hml hno hv
  obtain ⟨rfl, ⟨hsz, hP, hK, hN1⟩, hT⟩ := hv
  have hx := B.exec
  have hb := B.bytes
  have hr := B.returns
  have hts := atoms_spec (ws := wzX11_falseHeads) B.pre
  have hown : s.vm.findClass RX11 = some m.cls := findClass_of_methodNamed B.named
  have hlocks := B.notSynchronized
  subst hsz
  have hS : va_S (hA N ad s.heap.size) s.heap s.heap [] := va_S.rf
  have hl := lv_entry ([.ref (ad 0), .int a1, .int a2]) (n := 3) (Nat.le_of_ble_eq_true rfl)
  rw [lg_entry_eq]
  generalize (lg_sl ([.ref (ad 0), .int a1, .int a2]) ++ List.replicate (3 - (lg_sl ([.ref (ad 0), .int a1, .int a2])).length) Slot.unset).toArray = ls at hl ⊢
  have hl : lv_has ls 3 [(0, .ref (ad 0)), (1, .int a1), (2, .int a2)] := hl
  unfold wp_X11_falseHeads at hw
  refine lv_aload_n hx hb dX11_falseHeads_0 rfl (lv_at hl 0 rfl) ?_
  refine lv_aload_n hx hb dX11_falseHeads_1 rfl (lv_at hl 0 rfl) ?_
  refine lv_iload_n hx hb dX11_falseHeads_2 rfl (lv_at hl 1 rfl) ?_
  refine hx_kr hlocks hno (vx_runV (As := [.int a1]) (rest := [.ref (ad 0)]) ⟨hx, hb, hml, hown, hts⟩ (kc_X11_toldMethod l hfl D cy N hN ad hJ0 σ _ a1 _ X hw) (cwV 1 hts gzX11_falseHeads_X11_toldMethod rfl rfl rfl (by decide +kernel) ⟨Nat.le_of_ble_eq_true rfl, Nat.le_of_ble_eq_true rfl⟩) (hx_preV hK hN1 hT hP hS (Nat.lt_of_lt_of_le (by decide) hN) (bX_0 _) rfl) rfl rfl hl.1 rfl (lv_room (Nat.le_of_ble_eq_true rfl)) dX11_falseHeads_3 ⟨Nat.le_of_ble_eq_true rfl, Nat.le_of_ble_eq_true rfl⟩) hS (Nat.le_of_ble_eq_true rfl) (Nat.le_of_ble_eq_true rfl) (fun k1 σ3 H locs hw hP hS => ?_)
  obtain ⟨hk2, hw⟩ := hw
  dsimp only at hk2 hw hP
  refine lv_aload_n hx hb dX11_falseHeads_6 rfl (lv_at hl 0 rfl) ?_
  refine lv_iload_n hx hb dX11_falseHeads_7 rfl (lv_at hl 2 rfl) ?_
  refine hx_kr hlocks hno (vx_runV (As := [.int a2]) (rest := [.ref (ad k1), .ref (ad 0)]) ⟨hx, hb, hml, hown, hts⟩ (kc_X11_toldMethod l hfl D cy N hN ad hJ0 σ3 _ a2 _ X hw) (cwV 1 hts gzX11_falseHeads_X11_toldMethod rfl rfl rfl (by decide +kernel) ⟨Nat.le_of_ble_eq_true rfl, Nat.le_of_ble_eq_true rfl⟩) (hx_preV hK hN1 hT hP hS (Nat.lt_of_lt_of_le (by decide) hN) (bX_0 _) rfl) rfl rfl hl.1 rfl (lv_room (Nat.le_of_ble_eq_true rfl)) dX11_falseHeads_8 ⟨Nat.le_of_ble_eq_true rfl, Nat.le_of_ble_eq_true rfl⟩) hS (Nat.le_of_ble_eq_true rfl) (Nat.le_of_ble_eq_true rfl) (fun k4 σ6 H locs hw hP hS => ?_)
  obtain ⟨hk5, hw⟩ := hw
  dsimp only at hk5 hw hP
  refine hw_ki (va_runV (As := [.ref (ad k1), .ref (ad k4)]) (rest := []) ⟨hx, hb, hml, hown, hts⟩ (kc_X11_noteFalseHeads l D cy N hN ad hJ0 σ6 _ k1 hk2 k4 hk5 _ hw) (cwV 2 hts gzX11_falseHeads_X11_noteFalseHeads rfl rfl rfl (by decide +kernel) ⟨Nat.le_of_ble_eq_true rfl, Nat.le_of_ble_eq_true rfl⟩) (hw_preV hK hN1 hP (Nat.lt_of_lt_of_le (by decide) hN) (bX_0 _) rfl) rfl rfl hl.1 rfl (lv_room (Nat.le_of_ble_eq_true rfl)) dX11_falseHeads_11 ⟨Nat.le_of_ble_eq_true rfl, Nat.le_of_ble_eq_true rfl⟩) hS (fun r8 σ7 H locs hw hP hS => ?_)
  refine W.widen (k := 2) (n := 12) (by decide) (by decide) ?_
  refine vx_ret ?_
  exact hw_iret hx hb hr hlocks (σ7) hw hP hS dX11_falseHeads_14
set_option maxHeartbeats 4000000 in
set_option maxRecDepth 100000 in
theorem kc_X11_falseHead (l : Launch) (hfl : l.stackTraces = false) (D : va_G) (cy : Nat → ClassId) (N : Nat) (hN : 38 ≤ N) (ad : Nat → Nat) (hJ0 : hJ N ad) (σ : hSt) (sz : Nat) (a1 : Int32) (a2 : Int32) (a3 : Int32) (Q : Int32 → hSt → Prop) (X : String → hSt → Prop) (hw : wp_X11_falseHead a1 a2 a3 σ Q X) : vx_Met l yX11_falseHead wzX11_falseHead ({ frames := 7, cells := 2, slots := 12, locals := 107 } : Room) (va_Pc [.ref (ad 0), .int a1, .int a2, .int a3] (hBT D cy (hC N ad (bX cy ad) σ) (hA N ad sz) sz)) (va_Qi (fun (r : Int32) (u : hSt) => Q r u) (hE D (fun u : hSt => hC N ad (bX cy ad) u)) (hA N ad sz)) (hXC D (fun u : hSt => hC N ad (bX cy ad) u) X (hA N ad sz)) 2 12 (hA N ad sz) := by
  refine vx_ofW (cc := cX11_falseHead) (maxL := 5) (ret := (some .int)) (by decide) rfl ?_
  intro p e s m args below meth c s₁ B hml hno hv
  obtain ⟨rfl, ⟨hsz, hP, hK, hN1⟩, hT⟩ := hv
  have hx := B.exec
  have hb := B.bytes
  have hr := B.returns
  have hts := atoms_spec (ws := wzX11_falseHead) B.pre
  have hown : s.vm.findClass RX11 = some m.cls := findClass_of_methodNamed B.named
  have hlocks := B.notSynchronized
  subst hsz
  have hS : va_S (hA N ad s.heap.size) s.heap s.heap [] := va_S.rf
  have hiX11 : ∀ w ∈ wsX110, w ∈ wzX11_falseHead := fun _ h => List.mem_cons_of_mem _ (List.mem_append_left _ (List.mem_append_left _ (List.mem_append_left _ (List.mem_append_left _ (List.mem_append_right _ h)))))
  have hl := lv_entry ([.ref (ad 0), .int a1, .int a2, .int a3]) (n := 5) (Nat.le_of_ble_eq_true rfl)
  rw [lg_entry_eq]
  generalize (lg_sl ([.ref (ad 0), .int a1, .int a2, .int a3]) ++ List.replicate (5 - (lg_sl ([.ref (ad 0), .int a1, .int a2, .int a3])).length) Slot.unset).toArray = ls at hl ⊢
  have hl : lv_has ls 5 [(0, .ref (ad 0)), (1, .int a1), (2, .int a2), (3, .int a3)] := hl
  unfold wp_X11_falseHead at hw
  refine lv_aload_n hx hb dX11_falseHead_0 rfl (lv_at hl 0 rfl) ?_
  refine lv_aload_n hx hb dX11_falseHead_1 rfl (lv_at hl 0 rfl) ?_
  refine lv_iload_n hx hb dX11_falseHead_2 rfl (lv_at hl 1 rfl) ?_
  refine hx_kr hlocks hno (vx_runV (As := [.int a1]) (rest := [.ref (ad 0)]) ⟨hx, hb, hml, hown, hts⟩ (kc_X11_toldMethod l hfl D cy N hN ad hJ0 σ _ a1 _ X hw) (cwV 1 hts gzX11_falseHead_X11_toldMethod rfl rfl rfl (by decide +kernel) ⟨Nat.le_of_ble_eq_true rfl, Nat.le_of_ble_eq_true rfl⟩) (hx_preV hK hN1 hT hP hS (Nat.lt_of_lt_of_le (by decide) hN) (bX_0 _) rfl) rfl rfl hl.1 rfl (lv_room (Nat.le_of_ble_eq_true rfl)) dX11_falseHead_3 ⟨Nat.le_of_ble_eq_true rfl, Nat.le_of_ble_eq_true rfl⟩) hS (Nat.le_of_ble_eq_true rfl) (Nat.le_of_ble_eq_true rfl) (fun k1 σ3 H locs hw hP hS => ?_)
  obtain ⟨hk2, hw⟩ := hw
  dsimp only at hk2 hw hP
  refine lv_aload_n hx hb dX11_falseHead_6 rfl (lv_at hl 0 rfl) ?_
  refine lv_iload_n hx hb dX11_falseHead_7 rfl (lv_at hl 2 rfl) ?_
  refine hx_kr hlocks hno (vx_runV (As := [.int a2]) (rest := [.ref (ad k1), .ref (ad 0)]) ⟨hx, hb, hml, hown, hts⟩ (kc_X11_toldMethod l hfl D cy N hN ad hJ0 σ3 _ a2 _ X hw) (cwV 1 hts gzX11_falseHead_X11_toldMethod rfl rfl rfl (by decide +kernel) ⟨Nat.le_of_ble_eq_true rfl, Nat.le_of_ble_eq_true rfl⟩) (hx_preV hK hN1 hT hP hS (Nat.lt_of_lt_of_le (by decide) hN) (bX_0 _) rfl) rfl rfl hl.1 rfl (lv_room (Nat.le_of_ble_eq_true rfl)) dX11_falseHead_8 ⟨Nat.le_of_ble_eq_true rfl, Nat.le_of_ble_eq_true rfl⟩) hS (Nat.le_of_ble_eq_true rfl) (Nat.le_of_ble_eq_true rfl) (fun k4 σ6 H locs hw hP hS => ?_)
  obtain ⟨hk5, hw⟩ := hw
  dsimp only at hk5 hw hP
  refine hw_ki (va_runV (As := [.ref (ad k1), .ref (ad k4)]) (rest := []) ⟨hx, hb, hml, hown, hts⟩ (kc_X11_noteFalseHeads l D cy N hN ad hJ0 σ6 _ k1 hk2 k4 hk5 _ hw) (cwV 2 hts gzX11_falseHead_X11_noteFalseHeads rfl rfl rfl (by decide +kernel) ⟨Nat.le_of_ble_eq_true rfl, Nat.le_of_ble_eq_true rfl⟩) (hw_preV hK hN1 hP (Nat.lt_of_lt_of_le (by decide) hN) (bX_0 _) rfl) rfl rfl hl.1 rfl (lv_room (Nat.le_of_ble_eq_true rfl)) dX11_falseHead_11 ⟨Nat.le_of_ble_eq_true rfl, Nat.le_of_ble_eq_true rfl⟩) hS (fun r8 σ7 H locs hw hP hS => ?_)
  refine lv_pop hx hb dX11_falseHead_14 rfl ?_
  refine lv_aload_n hx hb dX11_falseHead_15 rfl (lv_at hl 0 rfl) ?_
  refine hw_get (v := .ref (ad 17)) hx hb hts hiX11 hown hK hP (Nat.lt_of_lt_of_le (by decide) hN) (bX_0 _) rfl 4 (by decide) (List.mem_of_getElem? (i := 1) rfl) rfl rfl dX11_falseHead_16 ?_
  refine lv_iload_n hx hb dX11_falseHead_19 rfl (lv_at hl 3 rfl) ?_
  refine hw_ki (va_runV (As := [.int a3]) (rest := []) ⟨hx, hb, hml, hown, hts⟩ (kc_X8_risingRow l D cy N hN ad hJ0 σ7 _ a3 _ hw) (cwV 1 hts gzX11_falseHead_X8_risingRow rfl rfl rfl (by decide +kernel) ⟨Nat.le_of_ble_eq_true rfl, Nat.le_of_ble_eq_true rfl⟩) (hw_preV hK hN1 hP (Nat.lt_of_lt_of_le (by decide) hN) (bX_17 _) rfl) rfl rfl hl.1 rfl (lv_room (Nat.le_of_ble_eq_true rfl)) dX11_falseHead_20 ⟨Nat.le_of_ble_eq_true rfl, Nat.le_of_ble_eq_true rfl⟩) hS (fun r10 σ9 H locs hw hP hS => ?_)
  obtain ⟨hu_, hw⟩ := hw
  rw [hu_] at hP
  refine lv_istore (lv' := [(4, .int r10), (0, .ref (ad 0)), (1, .int a1), (2, .int a2), (3, .int a3)]) hx hb dX11_falseHead_23 hl (by decide) rfl (fun ls hl => ?_)
  refine lv_iload hx hb dX11_falseHead_25 (lv_at hl 0 rfl) ?_
  refine lv_iconst (v := -1) hx hb dX11_falseHead_27 (by decide) ?_
  refine lv_icmp_ne (tgt := 35) hx hb dX11_falseHead_28 (by decide) (fun c11 => ?_) (fun c11 => ?_)
  · have hw := hw.1 c11
    refine lv_iload hx hb dX11_falseHead_35 (lv_at hl 0 rfl) ?_
    refine lv_aload_n hx hb dX11_falseHead_37 rfl (lv_at hl 1 rfl) ?_
    refine hw_get (v := .int (σ7 0 0)) hx hb hts hiX11 hown hK hP (Nat.lt_of_lt_of_le (by decide) hN) (bX_0 _) rfl 0 (by decide) (List.mem_of_getElem? (i := 2) rfl) rfl rfl dX11_falseHead_38 ?_
    refine hw_ki (va_runS (As := [.int r10, .int (σ7 0 0)]) (rest := []) ⟨hx, hb, hml, hown, hts⟩ (kc_X6_told l D cy N ad (bX cy ad) σ7 _ r10 (σ7 0 0) _ hw) (va_cwS 2 hts gzX11_falseHead_X6_told rfl rfl rfl (by decide +kernel) ⟨Nat.le_of_ble_eq_true rfl, Nat.le_of_ble_eq_true rfl⟩) (hw_pre hK hN1 hP) rfl rfl hl.1 rfl (lv_room (Nat.le_of_ble_eq_true rfl)) dX11_falseHead_41 ⟨Nat.le_of_ble_eq_true rfl, Nat.le_of_ble_eq_true rfl⟩) hS (fun r13 σ12 H locs hw hP hS => ?_)
    obtain ⟨hu_, hw⟩ := hw
    rw [hu_] at hP
    refine W.widen (k := 2) (n := 12) (by decide) (by decide) ?_
    refine vx_ret ?_
    exact hw_iret hx hb hr hlocks (σ7) hw hP hS dX11_falseHead_44
  have hw := hw.2 c11
  refine lv_iconst (v := -1) hx hb dX11_falseHead_31 (by decide) ?_
  refine lv_goto (tgt := 44) hx hb dX11_falseHead_32 (by decide) ?_
  refine W.widen (k := 2) (n := 12) (by decide) (by decide) ?_
  refine vx_ret ?_
  exact hw_iret hx hb hr hlocks (σ7) hw hP hS dX11_falseHead_44
set_option maxHeartbeats 4000000 in
set_option maxRecDepth 100000 in
theorem kc_X11_called (l : Launch) (hfl : l.stackTraces = false) (D : va_G) (cy : Nat → ClassId) (N : Nat) (hN : 38 ≤ N) (ad : Nat → Nat) (hJ0 : hJ N ad) (σ : hSt) (sz : Nat) (a1 : Int32) (a2 : Int32) (Q : Int32 → hSt → Prop) (X : String → hSt → Prop) (hw : wp_X11_called a1 a2 σ Q X) : vx_Met l yX11_called wzX11_called ({ frames := 6, cells := 1, slots := 6, locals := 86 } : Room) (va_Pc [.ref (ad 0), .int a1, .int a2] (hBT D cy (hC N ad (bX cy ad) σ) (hA N ad sz) sz)) (va_Qi (fun (r : Int32) (u : hSt) => Q r u) (hE D (fun u : hSt => hC N ad (bX cy ad) u)) (hA N ad sz)) (hXC D (fun u : hSt => hC N ad (bX cy ad) u) X (hA N ad sz)) 1 6 (hA N ad sz) := by
  refine vx_ofW (cc := cX11_called) (maxL := 3) (ret := (some .int)) (by decide) rfl ?_
  intro p e s m args below meth c s₁ B hml hno hv
  obtain ⟨rfl, ⟨hsz, hP, hK, hN1⟩, hT⟩ := hv
  have hx := B.exec
  have hb := B.bytes
  have hr := B.returns
  have hts := atoms_spec (ws := wzX11_called) B.pre
  have hown : s.vm.findClass RX11 = some m.cls := findClass_of_methodNamed B.named
  have hlocks := B.notSynchronized
  subst hsz
  have hS : va_S (hA N ad s.heap.size) s.heap s.heap [] := va_S.rf
  have hiX11 : ∀ w ∈ wsX110, w ∈ wzX11_called := fun _ h => List.mem_cons_of_mem _ (List.mem_append_left _ (List.mem_append_left _ (List.mem_append_right _ h)))
  have hl := lv_entry ([.ref (ad 0), .int a1, .int a2]) (n := 3) (Nat.le_of_ble_eq_true rfl)
  rw [lg_entry_eq]
  generalize (lg_sl ([.ref (ad 0), .int a1, .int a2]) ++ List.replicate (3 - (lg_sl ([.ref (ad 0), .int a1, .int a2])).length) Slot.unset).toArray = ls at hl ⊢
  have hl : lv_has ls 3 [(0, .ref (ad 0)), (1, .int a1), (2, .int a2)] := hl
  unfold wp_X11_called at hw
  refine lv_iload_n hx hb dX11_called_0 rfl (lv_at hl 1 rfl) ?_
  refine lv_if_lt (tgt := 15) hx hb dX11_called_1 (by decide) (fun c1 => ?_) (fun c1 => ?_)
  · have hw := hw.1 c1
    obtain ⟨sa, hsa⟩ := hT.str 3 rfl
    exact hn_throwS hx hb hfl hn_x0 hn_x1 hn_x2 hn_x5 hown (hts (.classLink RX11 147 "java/util/NoSuchElementException") (List.mem_of_getElem? (i := 1) rfl)) (hts (.initialized "java/util/NoSuchElementException") (List.mem_of_getElem? (i := 2) rfl)) hsa (hat_N (fun w hw => hts w (List.mem_cons_of_mem _ (List.mem_append_right _ hw))) hT) hgo_N hT.2.1 hT.2.2 hS (hl.1.trans hml.symm) dX11_called_15 dX11_called_18 dX11_called_19 dX11_called_21 dX11_called_24 (fun x hx => absurd hx (hno x)) (Nat.le_of_ble_eq_true rfl) (Nat.le_of_ble_eq_true rfl) (Nat.le_of_ble_eq_true rfl) (Nat.le_of_ble_eq_true rfl) hlocks (hx_of σ hw hP hS) hS.2.2 (Nat.le_of_ble_eq_true rfl) (Nat.le_of_ble_eq_true rfl)
  have hw := hw.2 c1
  refine lv_iload_n hx hb dX11_called_4 rfl (lv_at hl 1 rfl) ?_
  refine lv_aload_n hx hb dX11_called_5 rfl (lv_at hl 0 rfl) ?_
  refine hw_get (v := .ref (ad 31)) hx hb hts hiX11 hown hK hP (Nat.lt_of_lt_of_le (by decide) hN) (bX_0 _) rfl 7 (by decide) (List.mem_of_getElem? (i := 3) rfl) rfl rfl dX11_called_6 ?_
  refine hw_ki (va_runV (As := []) (rest := [.int a1]) ⟨hx, hb, hml, hown, hts⟩ (kc_X5_size l D cy N hN ad hJ0 σ _  _ hw) (cwV 0 hts gzX11_called_X5_size rfl rfl rfl (by decide +kernel) ⟨Nat.le_of_ble_eq_true rfl, Nat.le_of_ble_eq_true rfl⟩) (hw_preV hK hN1 hP (Nat.lt_of_lt_of_le (by decide) hN) (bX_31 _) rfl) rfl rfl hl.1 rfl (lv_room (Nat.le_of_ble_eq_true rfl)) dX11_called_9 ⟨Nat.le_of_ble_eq_true rfl, Nat.le_of_ble_eq_true rfl⟩) hS (fun r3 σ2 H locs hw hP hS => ?_)
  obtain ⟨hu_, hw⟩ := hw
  rw [hu_] at hP
  refine lv_icmp_lt (tgt := 25) hx hb dX11_called_12 (by decide) (fun c4 => ?_) (fun c4 => ?_)
  · have hw := hw.1 c4
    refine lv_iload_n hx hb dX11_called_25 rfl (lv_at hl 2 rfl) ?_
    refine lv_topi (fun x5 ex5 => ?_)
    have hw := hw x5 ex5
    by_cases c6 : x5 = (0 : Int32)
    · have hw := hw.1 c6
      refine lv_tableIn (tgt := 56) hx hb dX11_called_26 (by rw [c6]; decide) (by rw [c6]; decide) (by rw [c6]; rfl) (by decide) ?_
      refine lv_aload_n hx hb dX11_called_56 rfl (lv_at hl 0 rfl) ?_
      refine hw_get (v := .ref (ad 31)) hx hb hts hiX11 hown hK hP (Nat.lt_of_lt_of_le (by decide) hN) (bX_0 _) rfl 7 (by decide) (List.mem_of_getElem? (i := 3) rfl) rfl rfl dX11_called_57 ?_
      refine lv_iload_n hx hb dX11_called_60 rfl (lv_at hl 1 rfl) ?_
      refine hw_ki (va_runV (As := [.int a1]) (rest := []) ⟨hx, hb, hml, hown, hts⟩ (kc_X5_headOf l D cy N hN ad hJ0 σ _ a1 _ hw) (cwV 1 hts gzX11_called_X5_headOf rfl rfl rfl (by decide +kernel) ⟨Nat.le_of_ble_eq_true rfl, Nat.le_of_ble_eq_true rfl⟩) (hw_preV hK hN1 hP (Nat.lt_of_lt_of_le (by decide) hN) (bX_31 _) rfl) rfl rfl hl.1 rfl (lv_room (Nat.le_of_ble_eq_true rfl)) dX11_called_61 ⟨Nat.le_of_ble_eq_true rfl, Nat.le_of_ble_eq_true rfl⟩) hS (fun r8 σ7 H locs hw hP hS => ?_)
      obtain ⟨hu_, hw⟩ := hw
      rw [hu_] at hP
      refine lv_aload_n hx hb dX11_called_64 rfl (lv_at hl 0 rfl) ?_
      refine hw_get (v := .int (σ 0 0)) hx hb hts hiX11 hown hK hP (Nat.lt_of_lt_of_le (by decide) hN) (bX_0 _) rfl 0 (by decide) (List.mem_of_getElem? (i := 4) rfl) rfl rfl dX11_called_65 ?_
      refine hw_ki (va_runS (As := [.int r8, .int (σ 0 0)]) (rest := []) ⟨hx, hb, hml, hown, hts⟩ (kc_X6_told l D cy N ad (bX cy ad) σ _ r8 (σ 0 0) _ hw) (va_cwS 2 hts gzX11_called_X6_told rfl rfl rfl (by decide +kernel) ⟨Nat.le_of_ble_eq_true rfl, Nat.le_of_ble_eq_true rfl⟩) (hw_pre hK hN1 hP) rfl rfl hl.1 rfl (lv_room (Nat.le_of_ble_eq_true rfl)) dX11_called_68 ⟨Nat.le_of_ble_eq_true rfl, Nat.le_of_ble_eq_true rfl⟩) hS (fun r10 σ9 H locs hw hP hS => ?_)
      obtain ⟨hu_, hw⟩ := hw
      rw [hu_] at hP
      refine W.widen (k := 1) (n := 6) (by decide) (by decide) ?_
      refine vx_ret ?_
      exact hw_iret hx hb hr hlocks (σ) hw hP hS dX11_called_71
    have hw := hw.2 c6
    by_cases c11 : x5 = (1 : Int32)
    · have hw := hw.1 c11
      refine lv_tableIn (tgt := 72) hx hb dX11_called_26 (by rw [c11]; decide) (by rw [c11]; decide) (by rw [c11]; rfl) (by decide) ?_
      refine lv_aload_n hx hb dX11_called_72 rfl (lv_at hl 0 rfl) ?_
      refine hw_get (v := .ref (ad 31)) hx hb hts hiX11 hown hK hP (Nat.lt_of_lt_of_le (by decide) hN) (bX_0 _) rfl 7 (by decide) (List.mem_of_getElem? (i := 3) rfl) rfl rfl dX11_called_73 ?_
      refine lv_iload_n hx hb dX11_called_76 rfl (lv_at hl 1 rfl) ?_
      refine hw_ki (va_runV (As := [.int a1]) (rest := []) ⟨hx, hb, hml, hown, hts⟩ (kc_X5_letterOf l D cy N hN ad hJ0 σ _ a1 _ hw) (cwV 1 hts gzX11_called_X5_letterOf rfl rfl rfl (by decide +kernel) ⟨Nat.le_of_ble_eq_true rfl, Nat.le_of_ble_eq_true rfl⟩) (hw_preV hK hN1 hP (Nat.lt_of_lt_of_le (by decide) hN) (bX_31 _) rfl) rfl rfl hl.1 rfl (lv_room (Nat.le_of_ble_eq_true rfl)) dX11_called_77 ⟨Nat.le_of_ble_eq_true rfl, Nat.le_of_ble_eq_true rfl⟩) hS (fun r13 σ12 H locs hw hP hS => ?_)
      obtain ⟨hu_, hw⟩ := hw
      rw [hu_] at hP
      refine W.widen (k := 1) (n := 6) (by decide) (by decide) ?_
      refine vx_ret ?_
      exact hw_iret hx hb hr hlocks (σ) hw hP hS dX11_called_80
    have hw := hw.2 c11
    by_cases c14 : x5 = (2 : Int32)
    · have hw := hw.1 c14
      refine lv_tableIn (tgt := 81) hx hb dX11_called_26 (by rw [c14]; decide) (by rw [c14]; decide) (by rw [c14]; rfl) (by decide) ?_
      refine lv_aload_n hx hb dX11_called_81 rfl (lv_at hl 0 rfl) ?_
      refine hw_get (v := .ref (ad 31)) hx hb hts hiX11 hown hK hP (Nat.lt_of_lt_of_le (by decide) hN) (bX_0 _) rfl 7 (by decide) (List.mem_of_getElem? (i := 3) rfl) rfl rfl dX11_called_82 ?_
      refine lv_iload_n hx hb dX11_called_85 rfl (lv_at hl 1 rfl) ?_
      refine hw_ki (va_runV (As := [.int a1]) (rest := []) ⟨hx, hb, hml, hown, hts⟩ (kc_X5_callOf l D cy N hN ad hJ0 σ _ a1 _ hw) (cwV 1 hts gzX11_called_X5_callOf rfl rfl rfl (by decide +kernel) ⟨Nat.le_of_ble_eq_true rfl, Nat.le_of_ble_eq_true rfl⟩) (hw_preV hK hN1 hP (Nat.lt_of_lt_of_le (by decide) hN) (bX_31 _) rfl) rfl rfl hl.1 rfl (lv_room (Nat.le_of_ble_eq_true rfl)) dX11_called_86 ⟨Nat.le_of_ble_eq_true rfl, Nat.le_of_ble_eq_true rfl⟩) hS (fun r16 σ15 H locs hw hP hS => ?_)
      obtain ⟨hu_, hw⟩ := hw
      rw [hu_] at hP
      refine W.widen (k := 1) (n := 6) (by decide) (by decide) ?_
      refine vx_ret ?_
      exact hw_iret hx hb hr hlocks (σ) hw hP hS dX11_called_89
    have hw := hw.2 c14
    by_cases c17 : x5 = (3 : Int32)
    · have hw := hw.1 c17
      refine lv_tableIn (tgt := 90) hx hb dX11_called_26 (by rw [c17]; decide) (by rw [c17]; decide) (by rw [c17]; rfl) (by decide) ?_
      refine lv_aload_n hx hb dX11_called_90 rfl (lv_at hl 0 rfl) ?_
      refine hw_get (v := .ref (ad 31)) hx hb hts hiX11 hown hK hP (Nat.lt_of_lt_of_le (by decide) hN) (bX_0 _) rfl 7 (by decide) (List.mem_of_getElem? (i := 3) rfl) rfl rfl dX11_called_91 ?_
      refine lv_iload_n hx hb dX11_called_94 rfl (lv_at hl 1 rfl) ?_
      refine hw_ki (va_runV (As := [.int a1]) (rest := []) ⟨hx, hb, hml, hown, hts⟩ (kc_X5_firstOf l D cy N hN ad hJ0 σ _ a1 _ hw) (cwV 1 hts gzX11_called_X5_firstOf rfl rfl rfl (by decide +kernel) ⟨Nat.le_of_ble_eq_true rfl, Nat.le_of_ble_eq_true rfl⟩) (hw_preV hK hN1 hP (Nat.lt_of_lt_of_le (by decide) hN) (bX_31 _) rfl) rfl rfl hl.1 rfl (lv_room (Nat.le_of_ble_eq_true rfl)) dX11_called_95 ⟨Nat.le_of_ble_eq_true rfl, Nat.le_of_ble_eq_true rfl⟩) hS (fun r19 σ18 H locs hw hP hS => ?_)
      obtain ⟨hu_, hw⟩ := hw
      rw [hu_] at hP
      refine W.widen (k := 1) (n := 6) (by decide) (by decide) ?_
      refine vx_ret ?_
      exact hw_iret hx hb hr hlocks (σ) hw hP hS dX11_called_98
    have hw := hw.2 c17
    refine lv_tableOut (tgt := 99) hx hb dX11_called_26 (hsw_out (by decide) (by intro z h1 h2; rcases (show z = 0 ∨ z = 1 ∨ z = 2 ∨ z = 3 by omega) with rfl | rfl | rfl | rfl <;> first | exact c6 | exact c11 | exact c14 | exact c17) ) (by decide) ?_
    obtain ⟨sa, hsa⟩ := hT.str 4 rfl
    exact hn_throwS hx hb hfl hn_x0 hn_x1 hn_x2 hn_x5 hown (hts (.classLink RX11 147 "java/util/NoSuchElementException") (List.mem_of_getElem? (i := 1) rfl)) (hts (.initialized "java/util/NoSuchElementException") (List.mem_of_getElem? (i := 2) rfl)) hsa (hat_N (fun w hw => hts w (List.mem_cons_of_mem _ (List.mem_append_right _ hw))) hT) hgo_N hT.2.1 hT.2.2 hS (hl.1.trans hml.symm) dX11_called_99 dX11_called_102 dX11_called_103 dX11_called_105 dX11_called_108 (fun x hx => absurd hx (hno x)) (Nat.le_of_ble_eq_true rfl) (Nat.le_of_ble_eq_true rfl) (Nat.le_of_ble_eq_true rfl) (Nat.le_of_ble_eq_true rfl) hlocks (hx_of σ hw hP hS) hS.2.2 (Nat.le_of_ble_eq_true rfl) (Nat.le_of_ble_eq_true rfl)
  have hw := hw.2 c4
  obtain ⟨sa, hsa⟩ := hT.str 3 rfl
  exact hn_throwS hx hb hfl hn_x0 hn_x1 hn_x2 hn_x5 hown (hts (.classLink RX11 147 "java/util/NoSuchElementException") (List.mem_of_getElem? (i := 1) rfl)) (hts (.initialized "java/util/NoSuchElementException") (List.mem_of_getElem? (i := 2) rfl)) hsa (hat_N (fun w hw => hts w (List.mem_cons_of_mem _ (List.mem_append_right _ hw))) hT) hgo_N hT.2.1 hT.2.2 hS (hl.1.trans hml.symm) dX11_called_15 dX11_called_18 dX11_called_19 dX11_called_21 dX11_called_24 (fun x hx => absurd hx (hno x)) (Nat.le_of_ble_eq_true rfl) (Nat.le_of_ble_eq_true rfl) (Nat.le_of_ble_eq_true rfl) (Nat.le_of_ble_eq_true rfl) hlocks (hx_of σ hw hP hS) hS.2.2 (Nat.le_of_ble_eq_true rfl) (Nat.le_of_ble_eq_true rfl)
set_option maxHeartbeats 4000000 in
set_option maxRecDepth 100000 in
theorem kc_X11_row (l : Launch) (hfl : l.stackTraces = false) (D : va_G) (cy : Nat → ClassId) (N : Nat) (hN : 38 ≤ N) (ad : Nat → Nat) (hJ0 : hJ N ad) (σ : hSt) (sz : Nat) (a1 : Int32) (Q : Int32 → hSt → Prop) (X : String → hSt → Prop) (hw : wp_X11_row a1 σ Q X) : vx_Met l yX11_row wzX11_row ({ frames := 6, cells := 1, slots := 6, locals := 86 } : Room) (va_Pc [.ref (ad 0), .int a1] (hBT D cy (hC N ad (bX cy ad) σ) (hA N ad sz) sz)) (va_Qi (fun (r : Int32) (u : hSt) => Q r u) (hE D (fun u : hSt => hC N ad (bX cy ad) u)) (hA N ad sz)) (hXC D (fun u : hSt => hC N ad (bX cy ad) u) X (hA N ad sz)) 1 6 (hA N ad sz) := by
  refine vx_ofW (cc := cX11_row) (maxL := 2) (ret := (some .int)) (by decide) rfl ?_
  intro p e s m args below meth c s₁ B hml hno hv
  obtain ⟨rfl, ⟨hsz, hP, hK, hN1⟩, hT⟩ := hv
  have hx := B.exec
  have hb := B.bytes
  have hr := B.returns
  have hts := atoms_spec (ws := wzX11_row) B.pre
  have hown : s.vm.findClass RX11 = some m.cls := findClass_of_methodNamed B.named
  have hlocks := B.notSynchronized
  subst hsz
  have hS : va_S (hA N ad s.heap.size) s.heap s.heap [] := va_S.rf
  have hiX11 : ∀ w ∈ wsX110, w ∈ wzX11_row := fun _ h => List.mem_cons_of_mem _ (List.mem_append_left _ (List.mem_append_left _ (List.mem_append_left _ (List.mem_append_left _ (List.mem_append_right _ h)))))
  have hl := lv_entry ([.ref (ad 0), .int a1]) (n := 2) (Nat.le_of_ble_eq_true rfl)
  rw [lg_entry_eq]
  generalize (lg_sl ([.ref (ad 0), .int a1]) ++ List.replicate (2 - (lg_sl ([.ref (ad 0), .int a1])).length) Slot.unset).toArray = ls at hl ⊢
  have hl : lv_has ls 2 [(0, .ref (ad 0)), (1, .int a1)] := hl
  unfold wp_X11_row at hw
  refine lv_iload_n hx hb dX11_row_0 rfl (lv_at hl 1 rfl) ?_
  refine lv_if_lt (tgt := 15) hx hb dX11_row_1 (by decide) (fun c1 => ?_) (fun c1 => ?_)
  · have hw := hw.1 c1
    obtain ⟨sa, hsa⟩ := hT.str 5 rfl
    exact hn_throwS hx hb hfl hn_x0 hn_x1 hn_x2 hn_x5 hown (hts (.classLink RX11 147 "java/util/NoSuchElementException") (List.mem_of_getElem? (i := 1) rfl)) (hts (.initialized "java/util/NoSuchElementException") (List.mem_of_getElem? (i := 2) rfl)) hsa (hat_N (fun w hw => hts w (List.mem_cons_of_mem _ (List.mem_append_right _ hw))) hT) hgo_N hT.2.1 hT.2.2 hS (hl.1.trans hml.symm) dX11_row_15 dX11_row_18 dX11_row_19 dX11_row_21 dX11_row_24 (fun x hx => absurd hx (hno x)) (Nat.le_of_ble_eq_true rfl) (Nat.le_of_ble_eq_true rfl) (Nat.le_of_ble_eq_true rfl) (Nat.le_of_ble_eq_true rfl) hlocks (hx_of σ hw hP hS) hS.2.2 (Nat.le_of_ble_eq_true rfl) (Nat.le_of_ble_eq_true rfl)
  have hw := hw.2 c1
  refine lv_iload_n hx hb dX11_row_4 rfl (lv_at hl 1 rfl) ?_
  refine lv_aload_n hx hb dX11_row_5 rfl (lv_at hl 0 rfl) ?_
  refine hw_get (v := .ref (ad 31)) hx hb hts hiX11 hown hK hP (Nat.lt_of_lt_of_le (by decide) hN) (bX_0 _) rfl 7 (by decide) (List.mem_of_getElem? (i := 3) rfl) rfl rfl dX11_row_6 ?_
  refine hw_ki (va_runV (As := []) (rest := [.int a1]) ⟨hx, hb, hml, hown, hts⟩ (kc_X5_rows l D cy N hN ad hJ0 σ _  _ hw) (cwV 0 hts gzX11_row_X5_rows rfl rfl rfl (by decide +kernel) ⟨Nat.le_of_ble_eq_true rfl, Nat.le_of_ble_eq_true rfl⟩) (hw_preV hK hN1 hP (Nat.lt_of_lt_of_le (by decide) hN) (bX_31 _) rfl) rfl rfl hl.1 rfl (lv_room (Nat.le_of_ble_eq_true rfl)) dX11_row_9 ⟨Nat.le_of_ble_eq_true rfl, Nat.le_of_ble_eq_true rfl⟩) hS (fun r3 σ2 H locs hw hP hS => ?_)
  obtain ⟨hu_, hw⟩ := hw
  rw [hu_] at hP
  refine lv_icmp_lt (tgt := 25) hx hb dX11_row_12 (by decide) (fun c4 => ?_) (fun c4 => ?_)
  · have hw := hw.1 c4
    refine lv_aload_n hx hb dX11_row_25 rfl (lv_at hl 0 rfl) ?_
    refine hw_get (v := .ref (ad 31)) hx hb hts hiX11 hown hK hP (Nat.lt_of_lt_of_le (by decide) hN) (bX_0 _) rfl 7 (by decide) (List.mem_of_getElem? (i := 3) rfl) rfl rfl dX11_row_26 ?_
    refine lv_iload_n hx hb dX11_row_29 rfl (lv_at hl 1 rfl) ?_
    refine hw_ki (va_runV (As := [.int a1]) (rest := []) ⟨hx, hb, hml, hown, hts⟩ (kc_X5_rowNumbered l D cy N hN ad hJ0 σ _ a1 _ hw) (cwV 1 hts gzX11_row_X5_rowNumbered rfl rfl rfl (by decide +kernel) ⟨Nat.le_of_ble_eq_true rfl, Nat.le_of_ble_eq_true rfl⟩) (hw_preV hK hN1 hP (Nat.lt_of_lt_of_le (by decide) hN) (bX_31 _) rfl) rfl rfl hl.1 rfl (lv_room (Nat.le_of_ble_eq_true rfl)) dX11_row_30 ⟨Nat.le_of_ble_eq_true rfl, Nat.le_of_ble_eq_true rfl⟩) hS (fun r6 σ5 H locs hw hP hS => ?_)
    obtain ⟨hu_, hw⟩ := hw
    rw [hu_] at hP
    refine lv_aload_n hx hb dX11_row_33 rfl (lv_at hl 0 rfl) ?_
    refine hw_get (v := .int (σ 0 0)) hx hb hts hiX11 hown hK hP (Nat.lt_of_lt_of_le (by decide) hN) (bX_0 _) rfl 0 (by decide) (List.mem_of_getElem? (i := 4) rfl) rfl rfl dX11_row_34 ?_
    refine hw_ki (va_runS (As := [.int r6, .int (σ 0 0)]) (rest := []) ⟨hx, hb, hml, hown, hts⟩ (kc_X6_told l D cy N ad (bX cy ad) σ _ r6 (σ 0 0) _ hw) (va_cwS 2 hts gzX11_row_X6_told rfl rfl rfl (by decide +kernel) ⟨Nat.le_of_ble_eq_true rfl, Nat.le_of_ble_eq_true rfl⟩) (hw_pre hK hN1 hP) rfl rfl hl.1 rfl (lv_room (Nat.le_of_ble_eq_true rfl)) dX11_row_37 ⟨Nat.le_of_ble_eq_true rfl, Nat.le_of_ble_eq_true rfl⟩) hS (fun r8 σ7 H locs hw hP hS => ?_)
    obtain ⟨hu_, hw⟩ := hw
    rw [hu_] at hP
    refine W.widen (k := 1) (n := 6) (by decide) (by decide) ?_
    refine vx_ret ?_
    exact hw_iret hx hb hr hlocks (σ) hw hP hS dX11_row_40
  have hw := hw.2 c4
  obtain ⟨sa, hsa⟩ := hT.str 5 rfl
  exact hn_throwS hx hb hfl hn_x0 hn_x1 hn_x2 hn_x5 hown (hts (.classLink RX11 147 "java/util/NoSuchElementException") (List.mem_of_getElem? (i := 1) rfl)) (hts (.initialized "java/util/NoSuchElementException") (List.mem_of_getElem? (i := 2) rfl)) hsa (hat_N (fun w hw => hts w (List.mem_cons_of_mem _ (List.mem_append_right _ hw))) hT) hgo_N hT.2.1 hT.2.2 hS (hl.1.trans hml.symm) dX11_row_15 dX11_row_18 dX11_row_19 dX11_row_21 dX11_row_24 (fun x hx => absurd hx (hno x)) (Nat.le_of_ble_eq_true rfl) (Nat.le_of_ble_eq_true rfl) (Nat.le_of_ble_eq_true rfl) (Nat.le_of_ble_eq_true rfl) hlocks (hx_of σ hw hP hS) hS.2.2 (Nat.le_of_ble_eq_true rfl) (Nat.le_of_ble_eq_true rfl)
set_option maxHeartbeats 4000000 in
set_option maxRecDepth 100000 in
theorem kc_X11_find (l : Launch) (hfl : l.stackTraces = false) (D : va_G) (cy : Nat → ClassId) (N : Nat) (hN : 38 ≤ N) (ad : Nat → Nat) (hJ0 : hJ N ad) (σ : hSt) (sz : Nat) (a1 : Int32) (a2 : Int32) (a3 : Int32) (Q : Int32 → hSt → Prop) (X : String → hSt → Prop) (hw : wp_X11_find a1 a2 a3 σ Q X) : vx_Met l yX11_find wzX11_find ({ frames := 7, cells := 2, slots := 12, locals := 142 } : Room) (va_Pc [.ref (ad 0), .int a1, .int a2, .int a3] (hBT D cy (hC N ad (bX cy ad) σ) (hA N ad sz) sz)) (va_Qi (fun (r : Int32) (u : hSt) => Q r u) (hE D (fun u : hSt => hC N ad (bX cy ad) u)) (hA N ad sz)) (hXC D (fun u : hSt => hC N ad (bX cy ad) u) X (hA N ad sz)) 2 12 (hA N ad sz) := by
  refine vx_ofW (cc := cX11_find) (maxL := 6) (ret := (some .int)) (by decide) rfl ?_
  intro p e s m args below meth c s₁ B hml hno hv
  obtain ⟨rfl, ⟨hsz, hP, hK, hN1⟩, hT⟩ := hv
  have hx := B.exec
  have hb := B.bytes
  have hr := B.returns
  have hts := atoms_spec (ws := wzX11_find) B.pre
  have hown : s.vm.findClass RX11 = some m.cls := findClass_of_methodNamed B.named
  have hlocks := B.notSynchronized
  subst hsz
  have hS : va_S (hA N ad s.heap.size) s.heap s.heap [] := va_S.rf
  have hiX11 : ∀ w ∈ wsX110, w ∈ wzX11_find := fun _ h => List.mem_cons_of_mem _ (List.mem_append_left _ (List.mem_append_left _ (List.mem_append_left _ (List.mem_append_left _ (List.mem_append_left _ (List.mem_append_left _ (List.mem_append_left _ (List.mem_append_right _ h))))))))
  have hl := lv_entry ([.ref (ad 0), .int a1, .int a2, .int a3]) (n := 6) (Nat.le_of_ble_eq_true rfl)
  rw [lg_entry_eq]
  generalize (lg_sl ([.ref (ad 0), .int a1, .int a2, .int a3]) ++ List.replicate (6 - (lg_sl ([.ref (ad 0), .int a1, .int a2, .int a3])).length) Slot.unset).toArray = ls at hl ⊢
  have hl : lv_has ls 6 [(0, .ref (ad 0)), (1, .int a1), (2, .int a2), (3, .int a3)] := hl
  unfold wp_X11_find at hw
  refine lv_iload_n hx hb dX11_find_0 rfl (lv_at hl 2 rfl) ?_
  refine lv_iconst (v := 1) hx hb dX11_find_1 (by decide) ?_
  refine lv_icmp_lt (tgt := 24) hx hb dX11_find_2 (by decide) (fun c1 => ?_) (fun c1 => ?_)
  · have hw := hw.1 c1
    obtain ⟨sa, hsa⟩ := hT.str 6 rfl
    exact vx_throwS hx hb hfl hown (by decide +kernel) (by decide +kernel) (hts (.classLink RX11 244 "java/lang/IllegalArgumentException") (List.mem_of_getElem? (i := 1) rfl)) (hts (.initialized "java/lang/IllegalArgumentException") (List.mem_of_getElem? (i := 2) rfl)) hsa (hat_A (fun w hw => hts w (List.mem_cons_of_mem _ (List.mem_append_left _ (List.mem_append_right _ hw)))) hT) hgo_A hT.2.1 hT.2.2 hS (hl.1.trans hml.symm) dX11_find_24 dX11_find_27 dX11_find_28 dX11_find_30 dX11_find_33 (fun x hx => absurd hx (hno x)) (Nat.le_of_ble_eq_true rfl) (Nat.le_of_ble_eq_true rfl) (Nat.le_of_ble_eq_true rfl) (Nat.le_of_ble_eq_true rfl) hlocks (hx_of σ hw hP hS) hS.2.2 (Nat.le_of_ble_eq_true rfl) (Nat.le_of_ble_eq_true rfl)
  have hw := hw.2 c1
  refine lv_iload_n hx hb dX11_find_5 rfl (lv_at hl 2 rfl) ?_
  refine lv_sipush (v := 200) hx hb dX11_find_6 (by decide) ?_
  refine lv_icmp_gt (tgt := 24) hx hb dX11_find_9 (by decide) (fun c2 => ?_) (fun c2 => ?_)
  · have hw := hw.1 c2
    obtain ⟨sa, hsa⟩ := hT.str 6 rfl
    exact vx_throwS hx hb hfl hown (by decide +kernel) (by decide +kernel) (hts (.classLink RX11 244 "java/lang/IllegalArgumentException") (List.mem_of_getElem? (i := 1) rfl)) (hts (.initialized "java/lang/IllegalArgumentException") (List.mem_of_getElem? (i := 2) rfl)) hsa (hat_A (fun w hw => hts w (List.mem_cons_of_mem _ (List.mem_append_left _ (List.mem_append_right _ hw)))) hT) hgo_A hT.2.1 hT.2.2 hS (hl.1.trans hml.symm) dX11_find_24 dX11_find_27 dX11_find_28 dX11_find_30 dX11_find_33 (fun x hx => absurd hx (hno x)) (Nat.le_of_ble_eq_true rfl) (Nat.le_of_ble_eq_true rfl) (Nat.le_of_ble_eq_true rfl) (Nat.le_of_ble_eq_true rfl) hlocks (hx_of σ hw hP hS) hS.2.2 (Nat.le_of_ble_eq_true rfl) (Nat.le_of_ble_eq_true rfl)
  have hw := hw.2 c2
  refine lv_iload_n hx hb dX11_find_12 rfl (lv_at hl 3 rfl) ?_
  refine lv_iconst (v := 1) hx hb dX11_find_13 (by decide) ?_
  refine lv_icmp_lt (tgt := 24) hx hb dX11_find_14 (by decide) (fun c3 => ?_) (fun c3 => ?_)
  · have hw := hw.1 c3
    obtain ⟨sa, hsa⟩ := hT.str 6 rfl
    exact vx_throwS hx hb hfl hown (by decide +kernel) (by decide +kernel) (hts (.classLink RX11 244 "java/lang/IllegalArgumentException") (List.mem_of_getElem? (i := 1) rfl)) (hts (.initialized "java/lang/IllegalArgumentException") (List.mem_of_getElem? (i := 2) rfl)) hsa (hat_A (fun w hw => hts w (List.mem_cons_of_mem _ (List.mem_append_left _ (List.mem_append_right _ hw)))) hT) hgo_A hT.2.1 hT.2.2 hS (hl.1.trans hml.symm) dX11_find_24 dX11_find_27 dX11_find_28 dX11_find_30 dX11_find_33 (fun x hx => absurd hx (hno x)) (Nat.le_of_ble_eq_true rfl) (Nat.le_of_ble_eq_true rfl) (Nat.le_of_ble_eq_true rfl) (Nat.le_of_ble_eq_true rfl) hlocks (hx_of σ hw hP hS) hS.2.2 (Nat.le_of_ble_eq_true rfl) (Nat.le_of_ble_eq_true rfl)
  have hw := hw.2 c3
  refine lv_iload_n hx hb dX11_find_17 rfl (lv_at hl 3 rfl) ?_
  refine lv_sipush (v := 3000) hx hb dX11_find_18 (by decide) ?_
  refine lv_icmp_le (tgt := 34) hx hb dX11_find_21 (by decide) (fun c4 => ?_) (fun c4 => ?_)
  · have hw := hw.1 c4
    refine lv_aload_n hx hb dX11_find_34 rfl (lv_at hl 0 rfl) ?_
    refine hw_get (v := .ref (ad 35)) hx hb hts hiX11 hown hK hP (Nat.lt_of_lt_of_le (by decide) hN) (bX_0 _) rfl 8 (by decide) (List.mem_of_getElem? (i := 3) rfl) rfl rfl dX11_find_35 ?_
    refine lv_aload_n hx hb dX11_find_38 rfl (lv_at hl 0 rfl) ?_
    refine lv_iload_n hx hb dX11_find_39 rfl (lv_at hl 1 rfl) ?_
    refine hx_kr hlocks hno (vx_runV (As := [.int a1]) (rest := [.ref (ad 35)]) ⟨hx, hb, hml, hown, hts⟩ (kc_X11_toldMethod l hfl D cy N hN ad hJ0 σ _ a1 _ X hw) (cwV 1 hts gzX11_find_X11_toldMethod rfl rfl rfl (by decide +kernel) ⟨Nat.le_of_ble_eq_true rfl, Nat.le_of_ble_eq_true rfl⟩) (hx_preV hK hN1 hT hP hS (Nat.lt_of_lt_of_le (by decide) hN) (bX_0 _) rfl) rfl rfl hl.1 rfl (lv_room (Nat.le_of_ble_eq_true rfl)) dX11_find_40 ⟨Nat.le_of_ble_eq_true rfl, Nat.le_of_ble_eq_true rfl⟩) hS (Nat.le_of_ble_eq_true rfl) (Nat.le_of_ble_eq_true rfl) (fun k5 σ7 H locs hw hP hS => ?_)
    obtain ⟨hk6, hw⟩ := hw
    dsimp only at hk6 hw hP
    refine lv_iload_n hx hb dX11_find_43 rfl (lv_at hl 2 rfl) ?_
    refine lv_iload_n hx hb dX11_find_44 rfl (lv_at hl 3 rfl) ?_
    refine hw_ki (va_runV (As := [.ref (ad k5), .int a2, .int a3]) (rest := []) ⟨hx, hb, hml, hown, hts⟩ (kc_X7_seek l D cy N hN ad hJ0 σ7 _ k5 hk6 a2 a3 _ hw) (cwV 3 hts gzX11_find_X7_seek rfl rfl rfl (by decide +kernel) ⟨Nat.le_of_ble_eq_true rfl, Nat.le_of_ble_eq_true rfl⟩) (hw_preV hK hN1 hP (Nat.lt_of_lt_of_le (by decide) hN) (bX_35 _) rfl) rfl rfl hl.1 rfl (lv_room (Nat.le_of_ble_eq_true rfl)) dX11_find_45 ⟨Nat.le_of_ble_eq_true rfl, Nat.le_of_ble_eq_true rfl⟩) hS (fun r9 σ8 H locs hw hP hS => ?_)
    refine lv_istore (lv' := [(4, .int r9), (0, .ref (ad 0)), (1, .int a1), (2, .int a2), (3, .int a3)]) hx hb dX11_find_48 hl (by decide) rfl (fun ls hl => ?_)
    refine lv_iload hx hb dX11_find_50 (lv_at hl 0 rfl) ?_
    refine lv_if_ne (tgt := 98) hx hb dX11_find_52 (by decide) (fun c10 => ?_) (fun c10 => ?_)
    · have hw := hw.1 c10
      refine lv_iload hx hb dX11_find_98 (lv_at hl 0 rfl) ?_
      refine W.widen (k := 2) (n := 12) (by decide) (by decide) ?_
      refine vx_ret ?_
      exact hw_iret hx hb hr hlocks (σ8) hw hP hS dX11_find_100
    have hw := hw.2 c10
    refine lv_aload_n hx hb dX11_find_55 rfl (lv_at hl 1 rfl) ?_
    refine hw_get (v := .ref (ad 31)) hx hb hts hiX11 hown hK hP (Nat.lt_of_lt_of_le (by decide) hN) (bX_0 _) rfl 7 (by decide) (List.mem_of_getElem? (i := 4) rfl) rfl rfl dX11_find_56 ?_
    refine lv_aload_n hx hb dX11_find_59 rfl (lv_at hl 1 rfl) ?_
    refine hw_get (v := .int (σ8 0 0)) hx hb hts hiX11 hown hK hP (Nat.lt_of_lt_of_le (by decide) hN) (bX_0 _) rfl 0 (by decide) (List.mem_of_getElem? (i := 5) rfl) rfl rfl dX11_find_60 ?_
    refine hw_kv (va_runV (As := [.int (σ8 0 0)]) (rest := []) ⟨hx, hb, hml, hown, hts⟩ (kc_X5_clear l D cy N hN ad hJ0 σ8 _ (σ8 0 0) _ hw) (cwV 1 hts gzX11_find_X5_clear rfl rfl rfl (by decide +kernel) ⟨Nat.le_of_ble_eq_true rfl, Nat.le_of_ble_eq_true rfl⟩) (hw_preV hK hN1 hP (Nat.lt_of_lt_of_le (by decide) hN) (bX_31 _) rfl) rfl rfl hl.1 rfl (lv_room (Nat.le_of_ble_eq_true rfl)) dX11_find_63 ⟨Nat.le_of_ble_eq_true rfl, Nat.le_of_ble_eq_true rfl⟩) hS (fun σ11 H locs hw hP hS => ?_)
    refine lv_iconst (v := 0) hx hb dX11_find_66 (by decide) ?_
    refine lv_istore (lv' := [(5, .int (0 : Int32)), (4, .int r9), (0, .ref (ad 0)), (1, .int a1), (2, .int a2), (3, .int a3)]) hx hb dX11_find_67 hl (by decide) rfl (fun ls hl => ?_)
    refine hw (fun (v5_12 : Int32) (σ13 : hSt) => ∀ (H : Heap) (locs : List Loc) (ls : Array Slot), va_P D vwCl (hC N ad (bX cy ad) σ13) H → va_S (hA N ad s.heap.size) s.heap H locs → lv_has ls 6 [(0, .ref (ad 0)), (1, .int a1), (2, .int a2), (4, .int r9), (5, .int v5_12)] → W p l e (headSpec wzX11_find ({ frames := 7, cells := 2, slots := 12, locals := 142 } : Room)).room s m ([Value.ref (ad 0), Value.int a1, Value.int a2, Value.int a3] : List Value).toArray below meth c H locs 1 6 (vx_MQ below (va_Qi (fun (r : Int32) (u : hSt) => Q r u) (hE D (fun u : hSt => hC N ad (bX cy ad) u)) (hA N ad s.heap.size)) (hXC D (fun u : hSt => hC N ad (bX cy ad) u) X (hA N ad s.heap.size)) ([Value.ref (ad 0), Value.int a1, Value.int a2, Value.int a3] : List Value).toArray s 2 12 (hA N ad s.heap.size)) (F0 m 69 ls [])) (fun v5_12 σ13 hw H locs ls hP hS hl => ?_) _ _ _ hP hS (lv_sub hl [2, 3, 4, 1, 0] rfl)
    refine lv_iload hx hb dX11_find_69 (lv_at hl 4 rfl) ?_
    refine lv_iload_n hx hb dX11_find_71 rfl (lv_at hl 2 rfl) ?_
    refine lv_icmp_ge (tgt := 98) hx hb dX11_find_72 (by decide) (fun c14 => ?_) (fun c14 => ?_)
    · have hw := hw.1 c14
      refine lv_iload hx hb dX11_find_98 (lv_at hl 3 rfl) ?_
      refine W.widen (k := 2) (n := 12) (by decide) (by decide) ?_
      refine vx_ret ?_
      exact hw_iret hx hb hr hlocks (σ13) hw hP hS dX11_find_100
    have hw := hw.2 c14
    refine lv_aload_n hx hb dX11_find_75 rfl (lv_at hl 0 rfl) ?_
    refine hw_get (v := .ref (ad 31)) hx hb hts hiX11 hown hK hP (Nat.lt_of_lt_of_le (by decide) hN) (bX_0 _) rfl 7 (by decide) (List.mem_of_getElem? (i := 4) rfl) rfl rfl dX11_find_76 ?_
    refine lv_iload_n hx hb dX11_find_79 rfl (lv_at hl 1 rfl) ?_
    refine lv_aload_n hx hb dX11_find_80 rfl (lv_at hl 0 rfl) ?_
    refine hw_get (v := .ref (ad 35)) hx hb hts hiX11 hown hK hP (Nat.lt_of_lt_of_le (by decide) hN) (bX_0 _) rfl 8 (by decide) (List.mem_of_getElem? (i := 3) rfl) rfl rfl dX11_find_81 ?_
    refine lv_iload hx hb dX11_find_84 (lv_at hl 4 rfl) ?_
    refine hw_ki (va_runV (As := [.int v5_12]) (rest := [.int a1, .ref (ad 31)]) ⟨hx, hb, hml, hown, hts⟩ (kc_X7_callOf l D cy N hN ad hJ0 σ13 _ v5_12 _ hw) (cwV 1 hts gzX11_find_X7_callOf rfl rfl rfl (by decide +kernel) ⟨Nat.le_of_ble_eq_true rfl, Nat.le_of_ble_eq_true rfl⟩) (hw_preV hK hN1 hP (Nat.lt_of_lt_of_le (by decide) hN) (bX_35 _) rfl) rfl rfl hl.1 rfl (lv_room (Nat.le_of_ble_eq_true rfl)) dX11_find_86 ⟨Nat.le_of_ble_eq_true rfl, Nat.le_of_ble_eq_true rfl⟩) hS (fun r16 σ15 H locs hw hP hS => ?_)
    obtain ⟨hu_, hw⟩ := hw
    rw [hu_] at hP
    refine hw_kv (va_runV (As := [.int a1, .int r16]) (rest := []) ⟨hx, hb, hml, hown, hts⟩ (kc_X5_add l D cy N hN ad hJ0 σ13 _ a1 r16 _ hw) (cwV 2 hts gzX11_find_X5_add rfl rfl rfl (by decide +kernel) ⟨Nat.le_of_ble_eq_true rfl, Nat.le_of_ble_eq_true rfl⟩) (hw_preV hK hN1 hP (Nat.lt_of_lt_of_le (by decide) hN) (bX_31 _) rfl) rfl rfl hl.1 rfl (lv_room (Nat.le_of_ble_eq_true rfl)) dX11_find_89 ⟨Nat.le_of_ble_eq_true rfl, Nat.le_of_ble_eq_true rfl⟩) hS (fun σ17 H locs hw hP hS => ?_)
    obtain ⟨x5_18, ex5_18⟩ : ∃ z : Int32, z = v5_12 + (1 : Int32) := ⟨_, rfl⟩
    have hw := hw x5_18 ex5_18
    refine lv_iinc (v := x5_18) (lv' := [(5, .int x5_18), (0, .ref (ad 0)), (1, .int a1), (2, .int a2), (4, .int r9)]) hx hb dX11_find_92 hl (k := 4) rfl (by rw [ex5_18]; rfl) (by decide) rfl (fun ls hl => ?_)
    refine lv_goto (tgt := 69) hx hb dX11_find_95 (by decide) ?_
    exact hw _ _ _ hP hS (lv_sub hl [1, 2, 3, 4, 0] rfl)
  have hw := hw.2 c4
  obtain ⟨sa, hsa⟩ := hT.str 6 rfl
  exact vx_throwS hx hb hfl hown (by decide +kernel) (by decide +kernel) (hts (.classLink RX11 244 "java/lang/IllegalArgumentException") (List.mem_of_getElem? (i := 1) rfl)) (hts (.initialized "java/lang/IllegalArgumentException") (List.mem_of_getElem? (i := 2) rfl)) hsa (hat_A (fun w hw => hts w (List.mem_cons_of_mem _ (List.mem_append_left _ (List.mem_append_right _ hw)))) hT) hgo_A hT.2.1 hT.2.2 hS (hl.1.trans hml.symm) dX11_find_24 dX11_find_27 dX11_find_28 dX11_find_30 dX11_find_33 (fun x hx => absurd hx (hno x)) (Nat.le_of_ble_eq_true rfl) (Nat.le_of_ble_eq_true rfl) (Nat.le_of_ble_eq_true rfl) (Nat.le_of_ble_eq_true rfl) hlocks (hx_of σ hw hP hS) hS.2.2 (Nat.le_of_ble_eq_true rfl) (Nat.le_of_ble_eq_true rfl)

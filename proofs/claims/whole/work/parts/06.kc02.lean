set_option maxHeartbeats 4000000 in
set_option maxRecDepth 100000 in
theorem kc_X3_takeSign (l : Launch) (D : va_G) (cy : Nat → ClassId) (N : Nat) (hN : 38 ≤ N) (ad : Nat → Nat) (hJ0 : hJ N ad) (σ : hSt) (sz : Nat) (a1 : Int32) (a2 : Int32) (Q : hSt → Prop) (hw : wp_X3_takeSign a1 a2 σ Q) : Met l yX3_takeSign wsX3_takeSign ({ frames := 4, cells := 0, slots := 0, locals := 90 } : Room) (va_Pc [.ref (ad 21), .int a1, .int a2] (hB D cy (hC N ad (bX cy ad) σ) sz)) (va_Qv (fun u : hSt => Q u) (hE D (fun u : hSt => hC N ad (bX cy ad) u)) (hA N ad sz)) 0 0 (hA N ad sz) := by
  refine Met.ofW (cc := cX3_takeSign) (maxL := 3) (ret := none) (by decide) rfl ?_
  intro p e s m args below meth c s₁ B hml hv
  obtain ⟨rfl, hsz, hP, hK, hN1⟩ := hv
  have hx := B.exec
  have hb := B.bytes
  have hr := B.returns
  have hts := atoms_spec (ws := wsX3_takeSign) B.pre
  have hown : s.vm.findClass RX3 = some m.cls := findClass_of_methodNamed B.named
  have hlocks := B.notSynchronized
  subst hsz
  have hS : va_S (hA N ad s.heap.size) s.heap s.heap [] := va_S.rf
  have hl := lv_entry ([.ref (ad 21), .int a1, .int a2]) (n := 3) (Nat.le_of_ble_eq_true rfl)
  rw [lg_entry_eq]
  generalize (lg_sl ([.ref (ad 21), .int a1, .int a2]) ++ List.replicate (3 - (lg_sl ([.ref (ad 21), .int a1, .int a2])).length) Slot.unset).toArray = ls at hl ⊢
  have hl : lv_has ls 3 [(0, .ref (ad 21)), (1, .int a1), (2, .int a2)] := hl
  unfold wp_X3_takeSign at hw
  refine lv_iload_n hx hb dX3_takeSign_0 rfl (lv_at hl 1 rfl) ?_
  obtain ⟨J103, ehJ103, hw⟩ := hM_x hw
  have hJ103 : ∀ (H : Heap) (locs : List Loc) (ls : Array Slot), J103 → va_P D vwCl (hC N ad (bX cy ad) σ) H → va_S (hA N ad s.heap.size) s.heap H locs → lv_has ls 3 [(0, .ref (ad 21)), (1, .int a1), (2, .int a2)] → W p l e (headSpec wsX3_takeSign ({ frames := 4, cells := 0, slots := 0, locals := 90 } : Room)).room s m ([Value.ref (ad 21), Value.int a1, Value.int a2] : List Value).toArray below meth c H locs 0 0 (MQ below (va_Qv (fun u : hSt => Q u) (hE D (fun u : hSt => hC N ad (bX cy ad) u)) (hA N ad s.heap.size)) ([Value.ref (ad 21), Value.int a1, Value.int a2] : List Value).toArray s 0 0 (hA N ad s.heap.size)) (F0 m 103 ls []) := by
    intro H locs ls hw hP hS hl
    rw [ehJ103] at hw
    refine lv_aload_n hx hb dX3_takeSign_103 rfl (lv_at hl 0 rfl) ?_
    refine lv_iload_n hx hb dX3_takeSign_104 rfl (lv_at hl 1 rfl) ?_
    refine lv_bipush (v := 38) hx hb dX3_takeSign_105 (by decide) ?_
    refine lv_icmp_ne (tgt := 114) hx hb dX3_takeSign_107 (by decide) (fun c1 => ?_) (fun c1 => ?_)
    · have hw := hw.1 c1
      refine lv_iconst (v := 0) hx hb dX3_takeSign_114 (by decide) ?_
      refine lv_iload_n hx hb dX3_takeSign_115 rfl (lv_at hl 2 rfl) ?_
      refine hw_kv (va_runV (As := [.int (0 : Int32), .int a2]) (rest := []) ⟨hx, hb, hml, hown, hts⟩ (kc_X3_takeMark l D cy N hN ad hJ0 σ _ (0 : Int32) a2 _ hw) (cwV 2 hts gX3_takeSign_X3_takeMark rfl rfl rfl (by decide +kernel) ⟨Nat.le_of_ble_eq_true rfl, Nat.le_of_ble_eq_true rfl⟩) (hw_preV hK hN1 hP (Nat.lt_of_lt_of_le (by decide) hN) (bX_21 _) rfl) rfl rfl hl.1 rfl (lv_room (Nat.le_of_ble_eq_true rfl)) dX3_takeSign_116 ⟨Nat.zero_le _, Nat.zero_le _⟩) hS (fun σ2 H locs hw hP hS => ?_)
      refine lv_goto (tgt := 160) hx hb dX3_takeSign_119 (by decide) ?_
      exact hw_vret hx hb hr hlocks (σ2) hw hP hS dX3_takeSign_160
    have hw := hw.2 c1
    refine lv_iconst (v := 1) hx hb dX3_takeSign_110 (by decide) ?_
    refine lv_goto (tgt := 115) hx hb dX3_takeSign_111 (by decide) ?_
    refine lv_iload_n hx hb dX3_takeSign_115 rfl (lv_at hl 2 rfl) ?_
    refine hw_kv (va_runV (As := [.int (1 : Int32), .int a2]) (rest := []) ⟨hx, hb, hml, hown, hts⟩ (kc_X3_takeMark l D cy N hN ad hJ0 σ _ (1 : Int32) a2 _ hw) (cwV 2 hts gX3_takeSign_X3_takeMark rfl rfl rfl (by decide +kernel) ⟨Nat.le_of_ble_eq_true rfl, Nat.le_of_ble_eq_true rfl⟩) (hw_preV hK hN1 hP (Nat.lt_of_lt_of_le (by decide) hN) (bX_21 _) rfl) rfl rfl hl.1 rfl (lv_room (Nat.le_of_ble_eq_true rfl)) dX3_takeSign_116 ⟨Nat.zero_le _, Nat.zero_le _⟩) hS (fun σ3 H locs hw hP hS => ?_)
    refine lv_goto (tgt := 160) hx hb dX3_takeSign_119 (by decide) ?_
    exact hw_vret hx hb hr hlocks (σ3) hw hP hS dX3_takeSign_160
  refine lv_topi (fun x4 ex4 => ?_)
  have hw := hw x4 ex4
  by_cases c5 : x4 = (-1 : Int32)
  · have hw := hw.1 c5
    refine lv_lookup (tgt := 146) hx hb dX3_takeSign_1 (by decide) (by rw [c5] <;> rfl) (by decide) ?_
    refine lv_aload_n hx hb dX3_takeSign_146 rfl (lv_at hl 0 rfl) ?_
    refine lv_iload_n hx hb dX3_takeSign_147 rfl (lv_at hl 2 rfl) ?_
    refine hw_kv (va_runV (As := [.int a2]) (rest := []) ⟨hx, hb, hml, hown, hts⟩ (kc_X3_takeEnd l D cy N hN ad hJ0 σ _ a2 _ hw) (cwV 1 hts gX3_takeSign_X3_takeEnd rfl rfl rfl (by decide +kernel) ⟨Nat.le_of_ble_eq_true rfl, Nat.le_of_ble_eq_true rfl⟩) (hw_preV hK hN1 hP (Nat.lt_of_lt_of_le (by decide) hN) (bX_21 _) rfl) rfl rfl hl.1 rfl (lv_room (Nat.le_of_ble_eq_true rfl)) dX3_takeSign_148 ⟨Nat.zero_le _, Nat.zero_le _⟩) hS (fun σ6 H locs hw hP hS => ?_)
    refine lv_goto (tgt := 160) hx hb dX3_takeSign_151 (by decide) ?_
    exact hw_vret hx hb hr hlocks (σ6) hw hP hS dX3_takeSign_160
  have hw := hw.2 c5
  by_cases c7 : x4 = (10 : Int32)
  · have hw := hw.1 c7
    refine lv_lookup (tgt := 92) hx hb dX3_takeSign_1 (by decide) (by rw [c7] <;> rfl) (by decide) ?_
    refine lv_goto (tgt := 160) hx hb dX3_takeSign_92 (by decide) ?_
    exact hw_vret hx hb hr hlocks (σ) hw hP hS dX3_takeSign_160
  have hw := hw.2 c7
  by_cases c8 : x4 = (32 : Int32)
  · have hw := hw.1 c8
    refine lv_lookup (tgt := 92) hx hb dX3_takeSign_1 (by decide) (by rw [c8] <;> rfl) (by decide) ?_
    refine lv_goto (tgt := 160) hx hb dX3_takeSign_92 (by decide) ?_
    exact hw_vret hx hb hr hlocks (σ) hw hP hS dX3_takeSign_160
  have hw := hw.2 c8
  by_cases c9 : x4 = (38 : Int32)
  · have hw := hw.1 c9
    refine lv_lookup (tgt := 103) hx hb dX3_takeSign_1 (by decide) (by rw [c9] <;> rfl) (by decide) ?_
    exact hJ103  _ _ _ hw hP hS (lv_sub hl [0, 1, 2] rfl)
  have hw := hw.2 c9
  by_cases c10 : x4 = (43 : Int32)
  · have hw := hw.1 c10
    refine lv_lookup (tgt := 103) hx hb dX3_takeSign_1 (by decide) (by rw [c10] <;> rfl) (by decide) ?_
    exact hJ103  _ _ _ hw hP hS (lv_sub hl [0, 1, 2] rfl)
  have hw := hw.2 c10
  by_cases c11 : x4 = (44 : Int32)
  · have hw := hw.1 c11
    refine lv_lookup (tgt := 130) hx hb dX3_takeSign_1 (by decide) (by rw [c11] <;> rfl) (by decide) ?_
    refine lv_aload_n hx hb dX3_takeSign_130 rfl (lv_at hl 0 rfl) ?_
    refine lv_iload_n hx hb dX3_takeSign_131 rfl (lv_at hl 2 rfl) ?_
    refine hw_kv (va_runV (As := [.int a2]) (rest := []) ⟨hx, hb, hml, hown, hts⟩ (kc_X3_takeComma l D cy N hN ad hJ0 σ _ a2 _ hw) (cwV 1 hts gX3_takeSign_X3_takeComma rfl rfl rfl (by decide +kernel) ⟨Nat.le_of_ble_eq_true rfl, Nat.le_of_ble_eq_true rfl⟩) (hw_preV hK hN1 hP (Nat.lt_of_lt_of_le (by decide) hN) (bX_21 _) rfl) rfl rfl hl.1 rfl (lv_room (Nat.le_of_ble_eq_true rfl)) dX3_takeSign_132 ⟨Nat.zero_le _, Nat.zero_le _⟩) hS (fun σ12 H locs hw hP hS => ?_)
    refine lv_goto (tgt := 160) hx hb dX3_takeSign_135 (by decide) ?_
    exact hw_vret hx hb hr hlocks (σ12) hw hP hS dX3_takeSign_160
  have hw := hw.2 c11
  by_cases c13 : x4 = (45 : Int32)
  · have hw := hw.1 c13
    refine lv_lookup (tgt := 95) hx hb dX3_takeSign_1 (by decide) (by rw [c13] <;> rfl) (by decide) ?_
    refine lv_aload_n hx hb dX3_takeSign_95 rfl (lv_at hl 0 rfl) ?_
    refine lv_iload_n hx hb dX3_takeSign_96 rfl (lv_at hl 2 rfl) ?_
    refine hw_kv (va_runV (As := [.int a2]) (rest := []) ⟨hx, hb, hml, hown, hts⟩ (kc_X3_takeCross l D cy N hN ad hJ0 σ _ a2 _ hw) (cwV 1 hts gX3_takeSign_X3_takeCross rfl rfl rfl (by decide +kernel) ⟨Nat.le_of_ble_eq_true rfl, Nat.le_of_ble_eq_true rfl⟩) (hw_preV hK hN1 hP (Nat.lt_of_lt_of_le (by decide) hN) (bX_21 _) rfl) rfl rfl hl.1 rfl (lv_room (Nat.le_of_ble_eq_true rfl)) dX3_takeSign_97 ⟨Nat.zero_le _, Nat.zero_le _⟩) hS (fun σ14 H locs hw hP hS => ?_)
    refine lv_goto (tgt := 160) hx hb dX3_takeSign_100 (by decide) ?_
    exact hw_vret hx hb hr hlocks (σ14) hw hP hS dX3_takeSign_160
  have hw := hw.2 c13
  by_cases c15 : x4 = (46 : Int32)
  · have hw := hw.1 c15
    refine lv_lookup (tgt := 122) hx hb dX3_takeSign_1 (by decide) (by rw [c15] <;> rfl) (by decide) ?_
    refine lv_aload_n hx hb dX3_takeSign_122 rfl (lv_at hl 0 rfl) ?_
    refine lv_iload_n hx hb dX3_takeSign_123 rfl (lv_at hl 2 rfl) ?_
    refine hw_kv (va_runV (As := [.int a2]) (rest := []) ⟨hx, hb, hml, hown, hts⟩ (kc_X3_takeDot l D cy N hN ad hJ0 σ _ a2 _ hw) (cwV 1 hts gX3_takeSign_X3_takeDot rfl rfl rfl (by decide +kernel) ⟨Nat.le_of_ble_eq_true rfl, Nat.le_of_ble_eq_true rfl⟩) (hw_preV hK hN1 hP (Nat.lt_of_lt_of_le (by decide) hN) (bX_21 _) rfl) rfl rfl hl.1 rfl (lv_room (Nat.le_of_ble_eq_true rfl)) dX3_takeSign_124 ⟨Nat.zero_le _, Nat.zero_le _⟩) hS (fun σ16 H locs hw hP hS => ?_)
    refine lv_goto (tgt := 160) hx hb dX3_takeSign_127 (by decide) ?_
    exact hw_vret hx hb hr hlocks (σ16) hw hP hS dX3_takeSign_160
  have hw := hw.2 c15
  by_cases c17 : x4 = (59 : Int32)
  · have hw := hw.1 c17
    refine lv_lookup (tgt := 138) hx hb dX3_takeSign_1 (by decide) (by rw [c17] <;> rfl) (by decide) ?_
    refine lv_aload_n hx hb dX3_takeSign_138 rfl (lv_at hl 0 rfl) ?_
    refine lv_iload_n hx hb dX3_takeSign_139 rfl (lv_at hl 2 rfl) ?_
    refine hw_kv (va_runV (As := [.int a2]) (rest := []) ⟨hx, hb, hml, hown, hts⟩ (kc_X3_takeSemicolon l D cy N hN ad hJ0 σ _ a2 _ hw) (cwV 1 hts gX3_takeSign_X3_takeSemicolon rfl rfl rfl (by decide +kernel) ⟨Nat.le_of_ble_eq_true rfl, Nat.le_of_ble_eq_true rfl⟩) (hw_preV hK hN1 hP (Nat.lt_of_lt_of_le (by decide) hN) (bX_21 _) rfl) rfl rfl hl.1 rfl (lv_room (Nat.le_of_ble_eq_true rfl)) dX3_takeSign_140 ⟨Nat.zero_le _, Nat.zero_le _⟩) hS (fun σ18 H locs hw hP hS => ?_)
    refine lv_goto (tgt := 160) hx hb dX3_takeSign_143 (by decide) ?_
    exact hw_vret hx hb hr hlocks (σ18) hw hP hS dX3_takeSign_160
  have hw := hw.2 c17
  by_cases c19 : x4 = (120 : Int32)
  · have hw := hw.1 c19
    refine lv_lookup (tgt := 95) hx hb dX3_takeSign_1 (by decide) (by rw [c19] <;> rfl) (by decide) ?_
    refine lv_aload_n hx hb dX3_takeSign_95 rfl (lv_at hl 0 rfl) ?_
    refine lv_iload_n hx hb dX3_takeSign_96 rfl (lv_at hl 2 rfl) ?_
    refine hw_kv (va_runV (As := [.int a2]) (rest := []) ⟨hx, hb, hml, hown, hts⟩ (kc_X3_takeCross l D cy N hN ad hJ0 σ _ a2 _ hw) (cwV 1 hts gX3_takeSign_X3_takeCross rfl rfl rfl (by decide +kernel) ⟨Nat.le_of_ble_eq_true rfl, Nat.le_of_ble_eq_true rfl⟩) (hw_preV hK hN1 hP (Nat.lt_of_lt_of_le (by decide) hN) (bX_21 _) rfl) rfl rfl hl.1 rfl (lv_room (Nat.le_of_ble_eq_true rfl)) dX3_takeSign_97 ⟨Nat.zero_le _, Nat.zero_le _⟩) hS (fun σ20 H locs hw hP hS => ?_)
    refine lv_goto (tgt := 160) hx hb dX3_takeSign_100 (by decide) ?_
    exact hw_vret hx hb hr hlocks (σ20) hw hP hS dX3_takeSign_160
  have hw := hw.2 c19
  refine lv_lookup (off := 153) (tgt := 154) hx hb dX3_takeSign_1 (by decide) ((lv_osw c5 rfl).trans ((lv_osw c7 rfl).trans ((lv_osw c8 rfl).trans ((lv_osw c9 rfl).trans ((lv_osw c10 rfl).trans ((lv_osw c11 rfl).trans ((lv_osw c13 rfl).trans ((lv_osw c15 rfl).trans ((lv_osw c17 rfl).trans ((lv_osw c19 rfl).trans rfl)))))))))) (by decide) ?_
  refine lv_aload_n hx hb dX3_takeSign_154 rfl (lv_at hl 0 rfl) ?_
  refine lv_iconst (v := 1) hx hb dX3_takeSign_155 (by decide) ?_
  refine lv_iload_n hx hb dX3_takeSign_156 rfl (lv_at hl 2 rfl) ?_
  refine hw_kv (va_runU (As := [.int (1 : Int32), .int a2]) (rest := []) ⟨hx, hb, hml, hown, hts⟩ (kc_X10_refuse_r21 l D cy N hN ad hJ0 σ _ (1 : Int32) a2 _ hw) (va_cwU 2 hts gX3_takeSign_X10_refuse_u73X3 rfl rfl rfl rfl (by decide +kernel) ⟨Nat.le_of_ble_eq_true rfl, Nat.le_of_ble_eq_true rfl⟩) (hw_preV hK hN1 hP (Nat.lt_of_lt_of_le (by decide) hN) (bX_21 _) rfl) rfl rfl hl.1 rfl (lv_room (Nat.le_of_ble_eq_true rfl)) dX3_takeSign_157 ⟨Nat.zero_le _, Nat.zero_le _⟩) hS (fun σ21 H locs hw hP hS => ?_)
  exact hw_vret hx hb hr hlocks (σ21) hw hP hS dX3_takeSign_160
set_option maxHeartbeats 4000000 in
set_option maxRecDepth 100000 in
theorem kc_X10_take_r21 (l : Launch) (D : va_G) (cy : Nat → ClassId) (N : Nat) (hN : 38 ≤ N) (ad : Nat → Nat) (hJ0 : hJ N ad) (σ : hSt) (sz : Nat) (a1 : Int32) (a2 : Int32) (Q : hSt → Prop) (hw : wp_X10_take_r21 a1 a2 σ Q) : Met l yX10_take wsX10_take ({ frames := 5, cells := 0, slots := 0, locals := 112 } : Room) (va_Pc [.ref (ad 21), .int a1, .int a2] (hB D cy (hC N ad (bX cy ad) σ) sz)) (va_Qv (fun u : hSt => Q u) (hE D (fun u : hSt => hC N ad (bX cy ad) u)) (hA N ad sz)) 0 0 (hA N ad sz) := by
  refine Met.ofW (cc := cX10_take) (maxL := 4) (ret := none) (by decide) rfl ?_
  intro p e s m args below meth c s₁ B hml hv
  obtain ⟨rfl, hsz, hP, hK, hN1⟩ := hv
  have hx := B.exec
  have hb := B.bytes
  have hr := B.returns
  have hts := atoms_spec (ws := wsX10_take) B.pre
  have hown : s.vm.findClass RX10 = some m.cls := findClass_of_methodNamed B.named
  have hlocks := B.notSynchronized
  subst hsz
  have hS : va_S (hA N ad s.heap.size) s.heap s.heap [] := va_S.rf
  have hiX3 : ∀ w ∈ wsX30, w ∈ wsX10_take := fun _ h => List.mem_cons_of_mem _ (List.mem_append_left _ (List.mem_append_left _ (List.mem_append_right _ h)))
  have hl := lv_entry ([.ref (ad 21), .int a1, .int a2]) (n := 4) (Nat.le_of_ble_eq_true rfl)
  rw [lg_entry_eq]
  generalize (lg_sl ([.ref (ad 21), .int a1, .int a2]) ++ List.replicate (4 - (lg_sl ([.ref (ad 21), .int a1, .int a2])).length) Slot.unset).toArray = ls at hl ⊢
  have hl : lv_has ls 4 [(0, .ref (ad 21)), (1, .int a1), (2, .int a2)] := hl
  unfold wp_X10_take_r21 at hw
  refine lv_aload_n hx hb dX10_take_0 rfl (lv_at hl 0 rfl) ?_
  refine lv_iload_n hx hb dX10_take_1 rfl (lv_at hl 1 rfl) ?_
  refine hw_ki (va_runU (As := [.int a1]) (rest := []) ⟨hx, hb, hml, hown, hts⟩ (kc_X3_isDigit l D cy N ad (bX cy ad) σ _ a1 _ hw) (va_cwA 1 hts gX10_take_X3_isDigit_u35X3 rfl rfl rfl (hN1.dc 0 rfl) (by decide +kernel) ⟨Nat.le_of_ble_eq_true rfl, Nat.le_of_ble_eq_true rfl⟩) (hw_preV hK hN1 hP (Nat.lt_of_lt_of_le (by decide) hN) (bX_21 _) rfl) rfl rfl hl.1 rfl (lv_room (Nat.le_of_ble_eq_true rfl)) dX10_take_2 ⟨Nat.zero_le _, Nat.zero_le _⟩) hS (fun r2 σ1 H locs hw hP hS => ?_)
  obtain ⟨hu_, hw⟩ := hw
  rw [hu_] at hP
  refine lv_if_eq (tgt := 49) hx hb dX10_take_5 (by decide) (fun c3 => ?_) (fun c3 => ?_)
  · have hw := hw.1 c3
    refine lv_aload_n hx hb dX10_take_49 rfl (lv_at hl 0 rfl) ?_
    refine hw_get (v := .int (σ 21 2)) hx hb hts hiX3 hown hK hP (Nat.lt_of_lt_of_le (by decide) hN) (bX_21 _) rfl 2 (by decide) (List.mem_of_getElem? (i := 1) rfl) rfl rfl dX10_take_50 ?_
    refine lv_iconst (v := -1) hx hb dX10_take_53 (by decide) ?_
    obtain ⟨J70, ehJ70, hw⟩ := hM_x hw
    have hJ70 : ∀ (σ4 : hSt) (H : Heap) (locs : List Loc) (ls : Array Slot), J70 σ4 → va_P D vwCl (hC N ad (bX cy ad) σ4) H → va_S (hA N ad s.heap.size) s.heap H locs → lv_has ls 4 [(0, .ref (ad 21)), (1, .int a1), (2, .int a2)] → W p l e (headSpec wsX10_take ({ frames := 5, cells := 0, slots := 0, locals := 112 } : Room)).room s m ([Value.ref (ad 21), Value.int a1, Value.int a2] : List Value).toArray below meth c H locs 0 0 (MQ below (va_Qv (fun u : hSt => Q u) (hE D (fun u : hSt => hC N ad (bX cy ad) u)) (hA N ad s.heap.size)) ([Value.ref (ad 21), Value.int a1, Value.int a2] : List Value).toArray s 0 0 (hA N ad s.heap.size)) (F0 m 70 ls []) := by
      intro σ4 H locs ls hw hP hS hl
      rw [ehJ70] at hw
      refine lv_aload_n hx hb dX10_take_70 rfl (lv_at hl 0 rfl) ?_
      refine hw_get (v := .int (σ4 21 0)) hx hb hts hiX3 hown hK hP (Nat.lt_of_lt_of_le (by decide) hN) (bX_21 _) rfl 0 (by decide) (List.mem_of_getElem? (i := 2) rfl) rfl rfl dX10_take_71 ?_
      refine lv_if_ne (tgt := 83) hx hb dX10_take_74 (by decide) (fun c5 => ?_) (fun c5 => ?_)
      · have hw := hw.1 c5
        exact hw_vret hx hb hr hlocks (σ4) hw hP hS dX10_take_83
      have hw := hw.2 c5
      refine lv_aload_n hx hb dX10_take_77 rfl (lv_at hl 0 rfl) ?_
      refine lv_iload_n hx hb dX10_take_78 rfl (lv_at hl 1 rfl) ?_
      refine lv_iload_n hx hb dX10_take_79 rfl (lv_at hl 2 rfl) ?_
      refine hw_kv (va_runU (As := [.int a1, .int a2]) (rest := []) ⟨hx, hb, hml, hown, hts⟩ (kc_X3_takeSign l D cy N hN ad hJ0 σ4 _ a1 a2 _ hw) (va_cwA 2 hts gX10_take_X3_takeSign_u47X3 rfl rfl rfl (hN1.dc 7 rfl) (by decide +kernel) ⟨Nat.le_of_ble_eq_true rfl, Nat.le_of_ble_eq_true rfl⟩) (hw_preV hK hN1 hP (Nat.lt_of_lt_of_le (by decide) hN) (bX_21 _) rfl) rfl rfl hl.1 rfl (lv_room (Nat.le_of_ble_eq_true rfl)) dX10_take_80 ⟨Nat.zero_le _, Nat.zero_le _⟩) hS (fun σ6 H locs hw hP hS => ?_)
      exact hw_vret hx hb hr hlocks (σ6) hw hP hS dX10_take_83
    refine lv_icmp_eq (tgt := 70) hx hb dX10_take_54 (by decide) (fun c7 => ?_) (fun c7 => ?_)
    · have hw := hw.1 c7
      exact hJ70 _ _ _ _ hw hP hS (lv_sub hl [0, 1, 2] rfl)
    have hw := hw.2 c7
    refine lv_aload_n hx hb dX10_take_57 rfl (lv_at hl 0 rfl) ?_
    refine lv_aload_n hx hb dX10_take_58 rfl (lv_at hl 0 rfl) ?_
    refine hw_get (v := .int (σ 21 2)) hx hb hts hiX3 hown hK hP (Nat.lt_of_lt_of_le (by decide) hN) (bX_21 _) rfl 2 (by decide) (List.mem_of_getElem? (i := 1) rfl) rfl rfl dX10_take_59 ?_
    refine hw_kv (va_runU (As := [.int (σ 21 2)]) (rest := []) ⟨hx, hb, hml, hown, hts⟩ (kc_X3_takeDigitsEnd l D cy N hN ad hJ0 σ _ (σ 21 2) _ hw) (va_cwA 1 hts gX10_take_X3_takeDigitsEnd_u43X3 rfl rfl rfl (hN1.dc 6 rfl) (by decide +kernel) ⟨Nat.le_of_ble_eq_true rfl, Nat.le_of_ble_eq_true rfl⟩) (hw_preV hK hN1 hP (Nat.lt_of_lt_of_le (by decide) hN) (bX_21 _) rfl) rfl rfl hl.1 rfl (lv_room (Nat.le_of_ble_eq_true rfl)) dX10_take_62 ⟨Nat.zero_le _, Nat.zero_le _⟩) hS (fun σ8 H locs hw hP hS => ?_)
    refine lv_aload_n hx hb dX10_take_65 rfl (lv_at hl 0 rfl) ?_
    refine lv_iconst (v := -1) hx hb dX10_take_66 (by decide) ?_
    refine hw_put (x := (-1 : Int32)) (j := 2) hx hb hts hiX3 tyX3 tyX3_ok nmX3 hown hK hJ0 hP hS (Nat.lt_of_lt_of_le (by decide) hN) (bX_21 _) rfl (by decide) (List.mem_of_getElem? (i := 1) rfl) rfl rfl rfl rfl (Nat.le_of_ble_eq_true rfl) (by rw [bX_21]; rfl) dX10_take_67 (fun H locs hP hS => ?_)
    exact hJ70 _ _ _ _ hw hP hS (lv_sub hl [0, 1, 2] rfl)
  have hw := hw.2 c3
  refine lv_aload_n hx hb dX10_take_8 rfl (lv_at hl 0 rfl) ?_
  refine hw_get (v := .int (σ 21 2)) hx hb hts hiX3 hown hK hP (Nat.lt_of_lt_of_le (by decide) hN) (bX_21 _) rfl 2 (by decide) (List.mem_of_getElem? (i := 1) rfl) rfl rfl dX10_take_9 ?_
  refine lv_iconst (v := -1) hx hb dX10_take_12 (by decide) ?_
  obtain ⟨J21, ehJ21, hw⟩ := hM_x hw
  have hJ21 : ∀ (z9 : Int32) (H : Heap) (locs : List Loc) (ls : Array Slot), J21 z9 → va_P D vwCl (hC N ad (bX cy ad) σ) H → va_S (hA N ad s.heap.size) s.heap H locs → lv_has ls 4 [(0, .ref (ad 21)), (1, .int a1), (2, .int a2)] → W p l e (headSpec wsX10_take ({ frames := 5, cells := 0, slots := 0, locals := 112 } : Room)).room s m ([Value.ref (ad 21), Value.int a1, Value.int a2] : List Value).toArray below meth c H locs 0 0 (MQ below (va_Qv (fun u : hSt => Q u) (hE D (fun u : hSt => hC N ad (bX cy ad) u)) (hA N ad s.heap.size)) ([Value.ref (ad 21), Value.int a1, Value.int a2] : List Value).toArray s 0 0 (hA N ad s.heap.size)) (F0 m 21 ls [.int z9]) := by
    intro z9 H locs ls hw hP hS hl
    rw [ehJ21] at hw
    refine lv_istore_n (lv' := [(3, .int z9), (0, .ref (ad 21)), (1, .int a1), (2, .int a2)]) hx hb dX10_take_21 rfl hl (by decide) rfl (fun ls hl => ?_)
    refine lv_aload_n hx hb dX10_take_22 rfl (lv_at hl 1 rfl) ?_
    refine lv_iload_n hx hb dX10_take_23 rfl (lv_at hl 0 rfl) ?_
    obtain ⟨J35, ehJ35, hw⟩ := hM_x hw
    have hJ35 : ∀ (z10 : Int32) (H : Heap) (locs : List Loc) (ls : Array Slot), J35 z10 → va_P D vwCl (hC N ad (bX cy ad) σ) H → va_S (hA N ad s.heap.size) s.heap H locs → lv_has ls 4 [(0, .ref (ad 21)), (1, .int a1), (2, .int a2), (3, .int z9)] → W p l e (headSpec wsX10_take ({ frames := 5, cells := 0, slots := 0, locals := 112 } : Room)).room s m ([Value.ref (ad 21), Value.int a1, Value.int a2] : List Value).toArray below meth c H locs 0 0 (MQ below (va_Qv (fun u : hSt => Q u) (hE D (fun u : hSt => hC N ad (bX cy ad) u)) (hA N ad s.heap.size)) ([Value.ref (ad 21), Value.int a1, Value.int a2] : List Value).toArray s 0 0 (hA N ad s.heap.size)) (F0 m 35 ls [.int z10, .ref (ad 21)]) := by
      intro z10 H locs ls hw hP hS hl
      rw [ehJ35] at hw
      refine hw_put (x := z10) (j := 2) hx hb hts hiX3 tyX3 tyX3_ok nmX3 hown hK hJ0 hP hS (Nat.lt_of_lt_of_le (by decide) hN) (bX_21 _) rfl (by decide) (List.mem_of_getElem? (i := 1) rfl) rfl rfl rfl rfl (Nat.le_of_ble_eq_true rfl) (by rw [bX_21]; rfl) dX10_take_35 (fun H locs hP hS => ?_)
      refine lv_aload_n hx hb dX10_take_38 rfl (lv_at hl 0 rfl) ?_
      refine lv_iload_n hx hb dX10_take_39 rfl (lv_at hl 1 rfl) ?_
      refine lv_bipush (v := 48) hx hb dX10_take_40 (by decide) ?_
      refine lv_isub hx hb dX10_take_42 ?_
      refine lv_iload_n hx hb dX10_take_43 rfl (lv_at hl 3 rfl) ?_
      refine lv_iload_n hx hb dX10_take_44 rfl (lv_at hl 2 rfl) ?_
      refine hw_kv (va_runU (As := [.int (a1 - (48 : Int32)), .int z9, .int a2]) (rest := []) ⟨hx, hb, hml, hown, hts⟩ (kc_X3_takeDigit l D cy N hN ad hJ0 (hup σ 21 2 z10) _ (a1 - (48 : Int32)) z9 a2 _ hw) (va_cwA 3 hts gX10_take_X3_takeDigit_u39X3 rfl rfl rfl (hN1.dc 5 rfl) (by decide +kernel) ⟨Nat.le_of_ble_eq_true rfl, Nat.le_of_ble_eq_true rfl⟩) (hw_preV hK hN1 hP (Nat.lt_of_lt_of_le (by decide) hN) (bX_21 _) rfl) rfl rfl hl.1 rfl (lv_room (Nat.le_of_ble_eq_true rfl)) dX10_take_45 ⟨Nat.zero_le _, Nat.zero_le _⟩) hS (fun σ11 H locs hw hP hS => ?_)
      exact hw_vret hx hb hr hlocks (σ11) hw hP hS dX10_take_48
    refine lv_if_eq (tgt := 31) hx hb dX10_take_24 (by decide) (fun c12 => ?_) (fun c12 => ?_)
    · have hw := hw.1 c12
      refine lv_aload_n hx hb dX10_take_31 rfl (lv_at hl 1 rfl) ?_
      refine hw_get (v := .int (σ 21 2)) hx hb hts hiX3 hown hK hP (Nat.lt_of_lt_of_le (by decide) hN) (bX_21 _) rfl 2 (by decide) (List.mem_of_getElem? (i := 1) rfl) rfl rfl dX10_take_32 ?_
      exact hJ35 _ _ _ _ hw hP hS (lv_sub hl [1, 2, 3, 0] rfl)
    have hw := hw.2 c12
    refine lv_iload_n hx hb dX10_take_27 rfl (lv_at hl 3 rfl) ?_
    refine lv_goto (tgt := 35) hx hb dX10_take_28 (by decide) ?_
    exact hJ35 _ _ _ _ hw hP hS (lv_sub hl [1, 2, 3, 0] rfl)
  refine lv_icmp_ne (tgt := 20) hx hb dX10_take_13 (by decide) (fun c13 => ?_) (fun c13 => ?_)
  · have hw := hw.1 c13
    refine lv_iconst (v := 0) hx hb dX10_take_20 (by decide) ?_
    exact hJ21 _ _ _ _ hw hP hS (lv_sub hl [0, 1, 2] rfl)
  have hw := hw.2 c13
  refine lv_iconst (v := 1) hx hb dX10_take_16 (by decide) ?_
  refine lv_goto (tgt := 21) hx hb dX10_take_17 (by decide) ?_
  exact hJ21 _ _ _ _ hw hP hS (lv_sub hl [0, 1, 2] rfl)
set_option maxHeartbeats 4000000 in
set_option maxRecDepth 100000 in
theorem kc_X10_readThrough_r21 (l : Launch) (D : va_G) (cy : Nat → ClassId) (N : Nat) (hN : 38 ≤ N) (ad : Nat → Nat) (hJ0 : hJ N ad) (σ : hSt) (sz : Nat)  (Q : Int32 → hSt → Prop) (hw : wp_X10_readThrough_r21  σ Q) : Met l yX10_readThrough wsX10_readThrough ({ frames := 6, cells := 0, slots := 0, locals := 135 } : Room) (va_Pc [.ref (ad 21), .ref (ad 19)] (hB D cy (hC N ad (bX cy ad) σ) sz)) (va_Qi (fun (r : Int32) (u : hSt) => Q r u) (hE D (fun u : hSt => hC N ad (bX cy ad) u)) (hA N ad sz)) 0 0 (hA N ad sz) := by
  refine Met.ofW (cc := cX10_readThrough) (maxL := 3) (ret := (some .boolean)) (by decide) rfl ?_
  intro p e s m args below meth c s₁ B hml hv
  obtain ⟨rfl, hsz, hP, hK, hN1⟩ := hv
  have hx := B.exec
  have hb := B.bytes
  have hr := B.returns
  have hts := atoms_spec (ws := wsX10_readThrough) B.pre
  have hown : s.vm.findClass RX10 = some m.cls := findClass_of_methodNamed B.named
  have hlocks := B.notSynchronized
  subst hsz
  have hS : va_S (hA N ad s.heap.size) s.heap s.heap [] := va_S.rf
  have hiX3 : ∀ w ∈ wsX30, w ∈ wsX10_readThrough := fun _ h => List.mem_cons_of_mem _ (List.mem_append_left _ (List.mem_append_left _ (List.mem_append_left _ (List.mem_append_right _ h))))
  have hl := lv_entry ([.ref (ad 21), .ref (ad 19)]) (n := 3) (Nat.le_of_ble_eq_true rfl)
  rw [lg_entry_eq]
  generalize (lg_sl ([.ref (ad 21), .ref (ad 19)]) ++ List.replicate (3 - (lg_sl ([.ref (ad 21), .ref (ad 19)])).length) Slot.unset).toArray = ls at hl ⊢
  have hl : lv_has ls 3 [(0, .ref (ad 21)), (1, .ref (ad 19))] := hl
  unfold wp_X10_readThrough_r21 at hw
  refine lv_aload_n hx hb dX10_readThrough_0 rfl (lv_at hl 0 rfl) ?_
  refine lv_iconst (v := 0) hx hb dX10_readThrough_1 (by decide) ?_
  refine hw_put (x := (0 : Int32)) (j := 0) hx hb hts hiX3 tyX3 tyX3_ok nmX3 hown hK hJ0 hP hS (Nat.lt_of_lt_of_le (by decide) hN) (bX_21 _) rfl (by decide) (List.mem_of_getElem? (i := 1) rfl) rfl rfl rfl rfl (Nat.le_of_ble_eq_true rfl) (by rw [bX_21]; rfl) dX10_readThrough_2 (fun H locs hP hS => ?_)
  refine lv_aload_n hx hb dX10_readThrough_5 rfl (lv_at hl 0 rfl) ?_
  refine lv_iconst (v := 0) hx hb dX10_readThrough_6 (by decide) ?_
  refine hw_put (x := (0 : Int32)) (j := 1) hx hb hts hiX3 tyX3 tyX3_ok nmX3 hown hK hJ0 hP hS (Nat.lt_of_lt_of_le (by decide) hN) (bX_21 _) rfl (by decide) (List.mem_of_getElem? (i := 2) rfl) rfl rfl rfl rfl (Nat.le_of_ble_eq_true rfl) (by rw [bX_21]; rfl) dX10_readThrough_7 (fun H locs hP hS => ?_)
  refine lv_aload_n hx hb dX10_readThrough_10 rfl (lv_at hl 0 rfl) ?_
  refine lv_iconst (v := -1) hx hb dX10_readThrough_11 (by decide) ?_
  refine hw_put (x := (-1 : Int32)) (j := 2) hx hb hts hiX3 tyX3 tyX3_ok nmX3 hown hK hJ0 hP hS (Nat.lt_of_lt_of_le (by decide) hN) (bX_21 _) rfl (by decide) (List.mem_of_getElem? (i := 3) rfl) rfl rfl rfl rfl (Nat.le_of_ble_eq_true rfl) (by rw [bX_21]; rfl) dX10_readThrough_12 (fun H locs hP hS => ?_)
  refine lv_iconst (v := 0) hx hb dX10_readThrough_15 (by decide) ?_
  refine lv_istore_n (lv' := [(2, .int (0 : Int32)), (0, .ref (ad 21)), (1, .ref (ad 19))]) hx hb dX10_readThrough_16 rfl hl (by decide) rfl (fun ls hl => ?_)
  refine hw (fun (v2_1 : Int32) (σ2 : hSt) => ∀ (H : Heap) (locs : List Loc) (ls : Array Slot), va_P D vwCl (hC N ad (bX cy ad) σ2) H → va_S (hA N ad s.heap.size) s.heap H locs → lv_has ls 3 [(0, .ref (ad 21)), (1, .ref (ad 19)), (2, .int v2_1)] → W p l e (headSpec wsX10_readThrough ({ frames := 6, cells := 0, slots := 0, locals := 135 } : Room)).room s m ([Value.ref (ad 21), Value.ref (ad 19)] : List Value).toArray below meth c H locs 0 0 (MQ below (va_Qi (fun (r : Int32) (u : hSt) => Q r u) (hE D (fun u : hSt => hC N ad (bX cy ad) u)) (hA N ad s.heap.size)) ([Value.ref (ad 21), Value.ref (ad 19)] : List Value).toArray s 0 0 (hA N ad s.heap.size)) (F0 m 17 ls [])) (fun v2_1 σ2 hw H locs ls hP hS hl => ?_) _ _ _ hP hS (lv_sub hl [1, 2, 0] rfl)
  refine lv_iload_n hx hb dX10_readThrough_17 rfl (lv_at hl 2 rfl) ?_
  refine lv_aload_n hx hb dX10_readThrough_18 rfl (lv_at hl 1 rfl) ?_
  refine hw_ki (va_runV (As := []) (rest := [.int v2_1]) ⟨hx, hb, hml, hown, hts⟩ (kc_X9_size l D cy N hN ad hJ0 σ2 _  _ hw) (cwV 0 hts gX10_readThrough_X9_size rfl rfl rfl (by decide +kernel) ⟨Nat.le_of_ble_eq_true rfl, Nat.le_of_ble_eq_true rfl⟩) (hw_preV hK hN1 hP (Nat.lt_of_lt_of_le (by decide) hN) (bX_19 _) rfl) rfl rfl hl.1 rfl (lv_room (Nat.le_of_ble_eq_true rfl)) dX10_readThrough_19 ⟨Nat.zero_le _, Nat.zero_le _⟩) hS (fun r4 σ3 H locs hw hP hS => ?_)
  obtain ⟨hu_, hw⟩ := hw
  rw [hu_] at hP
  refine lv_icmp_gt (tgt := 48) hx hb dX10_readThrough_22 (by decide) (fun c5 => ?_) (fun c5 => ?_)
  · have hw := hw.1 c5
    refine lv_aload_n hx hb dX10_readThrough_48 rfl (lv_at hl 0 rfl) ?_
    refine hw_get (v := .int (σ2 21 0)) hx hb hts hiX3 hown hK hP (Nat.lt_of_lt_of_le (by decide) hN) (bX_21 _) rfl 0 (by decide) (List.mem_of_getElem? (i := 1) rfl) rfl rfl dX10_readThrough_49 ?_
    refine lv_if_ne (tgt := 59) hx hb dX10_readThrough_52 (by decide) (fun c6 => ?_) (fun c6 => ?_)
    · have hw := hw.1 c6
      refine lv_iconst (v := 0) hx hb dX10_readThrough_59 (by decide) ?_
      exact hw_zret hx hb hr hlocks hbo_0 (σ2) hw hP hS dX10_readThrough_60
    have hw := hw.2 c6
    refine lv_iconst (v := 1) hx hb dX10_readThrough_55 (by decide) ?_
    refine lv_goto (tgt := 60) hx hb dX10_readThrough_56 (by decide) ?_
    exact hw_zret hx hb hr hlocks hbo_1 (σ2) hw hP hS dX10_readThrough_60
  have hw := hw.2 c5
  refine lv_aload_n hx hb dX10_readThrough_25 rfl (lv_at hl 0 rfl) ?_
  refine hw_get (v := .int (σ2 21 0)) hx hb hts hiX3 hown hK hP (Nat.lt_of_lt_of_le (by decide) hN) (bX_21 _) rfl 0 (by decide) (List.mem_of_getElem? (i := 1) rfl) rfl rfl dX10_readThrough_26 ?_
  refine lv_if_ne (tgt := 48) hx hb dX10_readThrough_29 (by decide) (fun c7 => ?_) (fun c7 => ?_)
  · have hw := hw.1 c7
    refine lv_aload_n hx hb dX10_readThrough_48 rfl (lv_at hl 0 rfl) ?_
    refine hw_get (v := .int (σ2 21 0)) hx hb hts hiX3 hown hK hP (Nat.lt_of_lt_of_le (by decide) hN) (bX_21 _) rfl 0 (by decide) (List.mem_of_getElem? (i := 1) rfl) rfl rfl dX10_readThrough_49 ?_
    refine lv_if_ne (tgt := 59) hx hb dX10_readThrough_52 (by decide) (fun c8 => ?_) (fun c8 => ?_)
    · have hw := hw.1 c8
      refine lv_iconst (v := 0) hx hb dX10_readThrough_59 (by decide) ?_
      exact hw_zret hx hb hr hlocks hbo_0 (σ2) hw hP hS dX10_readThrough_60
    have hw := hw.2 c8
    refine lv_iconst (v := 1) hx hb dX10_readThrough_55 (by decide) ?_
    refine lv_goto (tgt := 60) hx hb dX10_readThrough_56 (by decide) ?_
    exact hw_zret hx hb hr hlocks hbo_1 (σ2) hw hP hS dX10_readThrough_60
  have hw := hw.2 c7
  refine lv_aload_n hx hb dX10_readThrough_32 rfl (lv_at hl 0 rfl) ?_
  refine lv_aload_n hx hb dX10_readThrough_33 rfl (lv_at hl 1 rfl) ?_
  refine lv_iload_n hx hb dX10_readThrough_34 rfl (lv_at hl 2 rfl) ?_
  refine hw_ki (va_runV (As := [.int v2_1]) (rest := [.ref (ad 21)]) ⟨hx, hb, hml, hown, hts⟩ (kc_X9_signAt l D cy N hN ad hJ0 σ2 _ v2_1 _ hw) (cwV 1 hts gX10_readThrough_X9_signAt rfl rfl rfl (by decide +kernel) ⟨Nat.le_of_ble_eq_true rfl, Nat.le_of_ble_eq_true rfl⟩) (hw_preV hK hN1 hP (Nat.lt_of_lt_of_le (by decide) hN) (bX_19 _) rfl) rfl rfl hl.1 rfl (lv_room (Nat.le_of_ble_eq_true rfl)) dX10_readThrough_35 ⟨Nat.zero_le _, Nat.zero_le _⟩) hS (fun r10 σ9 H locs hw hP hS => ?_)
  obtain ⟨hu_, hw⟩ := hw
  rw [hu_] at hP
  refine lv_iload_n hx hb dX10_readThrough_38 rfl (lv_at hl 2 rfl) ?_
  refine hw_kv (va_runU (As := [.int r10, .int v2_1]) (rest := []) ⟨hx, hb, hml, hown, hts⟩ (kc_X10_take_r21 l D cy N hN ad hJ0 σ2 _ r10 v2_1 _ hw) (va_cwU 2 hts gX10_readThrough_X10_take_u31X3 rfl rfl rfl rfl (by decide +kernel) ⟨Nat.le_of_ble_eq_true rfl, Nat.le_of_ble_eq_true rfl⟩) (hw_preV hK hN1 hP (Nat.lt_of_lt_of_le (by decide) hN) (bX_21 _) rfl) rfl rfl hl.1 rfl (lv_room (Nat.le_of_ble_eq_true rfl)) dX10_readThrough_39 ⟨Nat.zero_le _, Nat.zero_le _⟩) hS (fun σ11 H locs hw hP hS => ?_)
  obtain ⟨x2_12, ex2_12⟩ : ∃ z : Int32, z = v2_1 + (1 : Int32) := ⟨_, rfl⟩
  have hw := hw x2_12 ex2_12
  refine lv_iinc (v := x2_12) (lv' := [(2, .int x2_12), (0, .ref (ad 21)), (1, .ref (ad 19))]) hx hb dX10_readThrough_42 hl (k := 2) rfl (by rw [ex2_12]; rfl) (by decide) rfl (fun ls hl => ?_)
  refine lv_goto (tgt := 17) hx hb dX10_readThrough_45 (by decide) ?_
  exact hw _ _ _ hP hS (lv_sub hl [1, 2, 0] rfl)
set_option maxHeartbeats 4000000 in
set_option maxRecDepth 100000 in
theorem kc_X10_kind_r21 (l : Launch) (D : va_G) (cy : Nat → ClassId) (N : Nat) (hN : 38 ≤ N) (ad : Nat → Nat) (hJ0 : hJ N ad) (σ : hSt) (sz : Nat)  (Q : Int32 → Prop) (hw : wp_X10_kind_r21  σ Q) : Met l yX10_kind wsX10_kind ({ frames := 0, cells := 0, slots := 0, locals := 0 } : Room) (va_Pc [.ref (ad 21)] (hB D cy (hC N ad (bX cy ad) σ) sz)) (va_Qi (fun (r : Int32) (u : hSt) => u = σ ∧ Q r) (hE D (fun u : hSt => hC N ad (bX cy ad) u)) (hA N ad sz)) 0 0 (hA N ad sz) := by
  refine Met.ofW (cc := cX10_kind) (maxL := 1) (ret := (some .int)) (by decide) rfl ?_
  intro p e s m args below meth c s₁ B hml hv
  obtain ⟨rfl, hsz, hP, hK, hN1⟩ := hv
  have hx := B.exec
  have hb := B.bytes
  have hr := B.returns
  have hts := atoms_spec (ws := wsX10_kind) B.pre
  have hown : s.vm.findClass RX10 = some m.cls := findClass_of_methodNamed B.named
  have hlocks := B.notSynchronized
  subst hsz
  have hS : va_S (hA N ad s.heap.size) s.heap s.heap [] := va_S.rf
  have hiX3 : ∀ w ∈ wsX30, w ∈ wsX10_kind := fun _ h => List.mem_cons_of_mem _ (List.mem_append_right _ h)
  have hl := lv_entry ([.ref (ad 21)]) (n := 1) (Nat.le_of_ble_eq_true rfl)
  rw [lg_entry_eq]
  generalize (lg_sl ([.ref (ad 21)]) ++ List.replicate (1 - (lg_sl ([.ref (ad 21)])).length) Slot.unset).toArray = ls at hl ⊢
  have hl : lv_has ls 1 [(0, .ref (ad 21))] := hl
  unfold wp_X10_kind_r21 at hw
  refine lv_aload_n hx hb dX10_kind_0 rfl (lv_at hl 0 rfl) ?_
  refine hw_get (v := .int (σ 21 0)) hx hb hts hiX3 hown hK hP (Nat.lt_of_lt_of_le (by decide) hN) (bX_21 _) rfl 0 (by decide) (List.mem_of_getElem? (i := 1) rfl) rfl rfl dX10_kind_1 ?_
  exact hw_iret hx hb hr hlocks (σ) ⟨rfl, hw⟩ hP hS dX10_kind_4
set_option maxHeartbeats 4000000 in
set_option maxRecDepth 100000 in
theorem kc_X10_place_r21 (l : Launch) (D : va_G) (cy : Nat → ClassId) (N : Nat) (hN : 38 ≤ N) (ad : Nat → Nat) (hJ0 : hJ N ad) (σ : hSt) (sz : Nat)  (Q : Int32 → Prop) (hw : wp_X10_place_r21  σ Q) : Met l yX10_place wsX10_place ({ frames := 0, cells := 0, slots := 0, locals := 0 } : Room) (va_Pc [.ref (ad 21)] (hB D cy (hC N ad (bX cy ad) σ) sz)) (va_Qi (fun (r : Int32) (u : hSt) => u = σ ∧ Q r) (hE D (fun u : hSt => hC N ad (bX cy ad) u)) (hA N ad sz)) 0 0 (hA N ad sz) := by
  refine Met.ofW (cc := cX10_place) (maxL := 1) (ret := (some .int)) (by decide) rfl ?_
  intro p e s m args below meth c s₁ B hml hv
  obtain ⟨rfl, hsz, hP, hK, hN1⟩ := hv
  have hx := B.exec
  have hb := B.bytes
  have hr := B.returns
  have hts := atoms_spec (ws := wsX10_place) B.pre
  have hown : s.vm.findClass RX10 = some m.cls := findClass_of_methodNamed B.named
  have hlocks := B.notSynchronized
  subst hsz
  have hS : va_S (hA N ad s.heap.size) s.heap s.heap [] := va_S.rf
  have hiX3 : ∀ w ∈ wsX30, w ∈ wsX10_place := fun _ h => List.mem_cons_of_mem _ (List.mem_append_right _ h)
  have hl := lv_entry ([.ref (ad 21)]) (n := 1) (Nat.le_of_ble_eq_true rfl)
  rw [lg_entry_eq]
  generalize (lg_sl ([.ref (ad 21)]) ++ List.replicate (1 - (lg_sl ([.ref (ad 21)])).length) Slot.unset).toArray = ls at hl ⊢
  have hl : lv_has ls 1 [(0, .ref (ad 21))] := hl
  unfold wp_X10_place_r21 at hw
  refine lv_aload_n hx hb dX10_place_0 rfl (lv_at hl 0 rfl) ?_
  refine hw_get (v := .int (σ 21 1)) hx hb hts hiX3 hown hK hP (Nat.lt_of_lt_of_le (by decide) hN) (bX_21 _) rfl 1 (by decide) (List.mem_of_getElem? (i := 1) rfl) rfl rfl dX10_place_1 ?_
  exact hw_iret hx hb hr hlocks (σ) ⟨rfl, hw⟩ hP hS dX10_place_4
set_option maxHeartbeats 4000000 in
set_option maxRecDepth 100000 in
theorem kc_X3_draft (l : Launch) (D : va_G) (cy : Nat → ClassId) (N : Nat) (hN : 38 ≤ N) (ad : Nat → Nat) (hJ0 : hJ N ad) (σ : hSt) (sz : Nat)  (Q : Nat → Prop) (hw : wp_X3_draft  σ Q) : Met l yX3_draft wsX3_draft ({ frames := 0, cells := 0, slots := 0, locals := 0 } : Room) (va_Pc [.ref (ad 21)] (hB D cy (hC N ad (bX cy ad) σ) sz)) (va_Qr (fun u : Nat × hSt => u.2 = σ ∧ hMe u.1 ∧ Q u.1) (hR_ D ad (fun u : hSt => hC N ad (bX cy ad) u)) (hA N ad sz)) 0 0 (hA N ad sz) := by
  refine Met.ofW (cc := cX3_draft) (maxL := 1) (ret := (some (.object "BellTower$Method"))) (by decide) rfl ?_
  intro p e s m args below meth c s₁ B hml hv
  obtain ⟨rfl, hsz, hP, hK, hN1⟩ := hv
  have hx := B.exec
  have hb := B.bytes
  have hr := B.returns
  have hts := atoms_spec (ws := wsX3_draft) B.pre
  have hown : s.vm.findClass RX3 = some m.cls := findClass_of_methodNamed B.named
  have hlocks := B.notSynchronized
  subst hsz
  have hS : va_S (hA N ad s.heap.size) s.heap s.heap [] := va_S.rf
  have hiX3 : ∀ w ∈ wsX30, w ∈ wsX3_draft := fun _ h => List.mem_cons_of_mem _ (List.mem_append_right _ h)
  have hl := lv_entry ([.ref (ad 21)]) (n := 1) (Nat.le_of_ble_eq_true rfl)
  rw [lg_entry_eq]
  generalize (lg_sl ([.ref (ad 21)]) ++ List.replicate (1 - (lg_sl ([.ref (ad 21)])).length) Slot.unset).toArray = ls at hl ⊢
  have hl : lv_has ls 1 [(0, .ref (ad 21))] := hl
  unfold wp_X3_draft at hw
  refine lv_aload_n hx hb dX3_draft_0 rfl (lv_at hl 0 rfl) ?_
  refine hw_get (v := .ref (ad 22)) hx hb hts hiX3 hown hK hP (Nat.lt_of_lt_of_le (by decide) hN) (bX_21 _) rfl 3 (by decide) (List.mem_of_getElem? (i := 1) rfl) rfl rfl dX3_draft_1 ?_
  exact hw_aret hx hb hr hlocks 22 (σ) ⟨rfl, hMe_22, hw⟩ hP hS dX3_draft_4
set_option maxHeartbeats 4000000 in
set_option maxRecDepth 100000 in
theorem kc_X2_copyFrom (l : Launch) (D : va_G) (cy : Nat → ClassId) (N : Nat) (hN : 38 ≤ N) (ad : Nat → Nat) (hJ0 : hJ N ad) (σ : hSt) (sz : Nat) (k0 : Nat) (hk0 : hMe k0) (k1 : Nat) (hk1 : hMe k1) (Q : hSt → Prop) (hw : wp_X2_copyFrom k0 k1 σ Q) : Met l yX2_copyFrom wsX2_copyFrom ({ frames := 3, cells := 0, slots := 0, locals := 69 } : Room) (va_Pc [.ref (ad k0), .ref (ad k1)] (hB D cy (hC N ad (bX cy ad) σ) sz)) (va_Qv (fun u : hSt => Q u) (hE D (fun u : hSt => hC N ad (bX cy ad) u)) (hA N ad sz)) 0 0 (hA N ad sz) := by
  refine Met.ofW (cc := cX2_copyFrom) (maxL := 3) (ret := none) (by decide) rfl ?_
  intro p e s m args below meth c s₁ B hml hv
  obtain ⟨rfl, hsz, hP, hK, hN1⟩ := hv
  have hx := B.exec
  have hb := B.bytes
  have hr := B.returns
  have hts := atoms_spec (ws := wsX2_copyFrom) B.pre
  have hown : s.vm.findClass RX2 = some m.cls := findClass_of_methodNamed B.named
  have hlocks := B.notSynchronized
  subst hsz
  have hS : va_S (hA N ad s.heap.size) s.heap s.heap [] := va_S.rf
  have hiX2 : ∀ w ∈ wsX20, w ∈ wsX2_copyFrom := fun _ h => List.mem_cons_of_mem _ (List.mem_append_right _ h)
  have hl := lv_entry ([.ref (ad k0), .ref (ad k1)]) (n := 3) (Nat.le_of_ble_eq_true rfl)
  rw [lg_entry_eq]
  generalize (lg_sl ([.ref (ad k0), .ref (ad k1)]) ++ List.replicate (3 - (lg_sl ([.ref (ad k0), .ref (ad k1)])).length) Slot.unset).toArray = ls at hl ⊢
  have hl : lv_has ls 3 [(0, .ref (ad k0)), (1, .ref (ad k1))] := hl
  unfold wp_X2_copyFrom at hw
  refine lv_iconst (v := 0) hx hb dX2_copyFrom_0 (by decide) ?_
  refine lv_istore_n (lv' := [(2, .int (0 : Int32)), (0, .ref (ad k0)), (1, .ref (ad k1))]) hx hb dX2_copyFrom_1 rfl hl (by decide) rfl (fun ls hl => ?_)
  refine hw (fun (v2_1 : Int32) (σ2 : hSt) => ∀ (H : Heap) (locs : List Loc) (ls : Array Slot), va_P D vwCl (hC N ad (bX cy ad) σ2) H → va_S (hA N ad s.heap.size) s.heap H locs → lv_has ls 3 [(0, .ref (ad k0)), (1, .ref (ad k1)), (2, .int v2_1)] → W p l e (headSpec wsX2_copyFrom ({ frames := 3, cells := 0, slots := 0, locals := 69 } : Room)).room s m ([Value.ref (ad k0), Value.ref (ad k1)] : List Value).toArray below meth c H locs 0 0 (MQ below (va_Qv (fun u : hSt => Q u) (hE D (fun u : hSt => hC N ad (bX cy ad) u)) (hA N ad s.heap.size)) ([Value.ref (ad k0), Value.ref (ad k1)] : List Value).toArray s 0 0 (hA N ad s.heap.size)) (F0 m 2 ls [])) (fun v2_1 σ2 hw H locs ls hP hS hl => ?_) _ _ _ hP hS (lv_sub hl [1, 2, 0] rfl)
  refine lv_iload_n hx hb dX2_copyFrom_2 rfl (lv_at hl 2 rfl) ?_
  refine lv_aload_n hx hb dX2_copyFrom_3 rfl (lv_at hl 1 rfl) ?_
  refine hw_get (v := .int (σ2 k1 1)) hx hb hts hiX2 hown hK hP (hMe_lt hk1 hN) (bX_me hk1 _) rfl 1 (by decide) (List.mem_of_getElem? (i := 1) rfl) rfl rfl dX2_copyFrom_4 ?_
  refine lv_icmp_ge (tgt := 32) hx hb dX2_copyFrom_7 (by decide) (fun c3 => ?_) (fun c3 => ?_)
  · have hw := hw.1 c3
    refine lv_aload_n hx hb dX2_copyFrom_32 rfl (lv_at hl 0 rfl) ?_
    refine lv_aload_n hx hb dX2_copyFrom_33 rfl (lv_at hl 1 rfl) ?_
    refine hw_get (v := .int (σ2 k1 3)) hx hb hts hiX2 hown hK hP (hMe_lt hk1 hN) (bX_me hk1 _) rfl 3 (by decide) (List.mem_of_getElem? (i := 3) rfl) rfl rfl dX2_copyFrom_34 ?_
    refine hw_put (x := (σ2 k1 3)) (j := 3) hx hb hts hiX2 tyX2 tyX2_ok nmX2 hown hK hJ0 hP hS (hMe_lt hk0 hN) (bX_me hk0 _) rfl (by decide) (List.mem_of_getElem? (i := 3) rfl) rfl rfl rfl rfl (Nat.le_of_ble_eq_true rfl) (by rw [bX_me hk0]; rfl) dX2_copyFrom_37 (fun H locs hP hS => ?_)
    refine lv_aload_n hx hb dX2_copyFrom_40 rfl (lv_at hl 0 rfl) ?_
    refine lv_aload_n hx hb dX2_copyFrom_41 rfl (lv_at hl 1 rfl) ?_
    refine hw_get (v := .int ((hup σ2 k0 3 (σ2 k1 3)) k1 4)) hx hb hts hiX2 hown hK hP (hMe_lt hk1 hN) (bX_me hk1 _) rfl 4 (by decide) (List.mem_of_getElem? (i := 4) rfl) rfl rfl dX2_copyFrom_42 ?_
    refine hw_put (x := ((hup σ2 k0 3 (σ2 k1 3)) k1 4)) (j := 4) hx hb hts hiX2 tyX2 tyX2_ok nmX2 hown hK hJ0 hP hS (hMe_lt hk0 hN) (bX_me hk0 _) rfl (by decide) (List.mem_of_getElem? (i := 4) rfl) rfl rfl rfl rfl (Nat.le_of_ble_eq_true rfl) (by rw [bX_me hk0]; rfl) dX2_copyFrom_45 (fun H locs hP hS => ?_)
    refine lv_aload_n hx hb dX2_copyFrom_48 rfl (lv_at hl 0 rfl) ?_
    refine lv_aload_n hx hb dX2_copyFrom_49 rfl (lv_at hl 1 rfl) ?_
    refine hw_get (v := .int ((hup (hup σ2 k0 3 (σ2 k1 3)) k0 4 ((hup σ2 k0 3 (σ2 k1 3)) k1 4)) k1 1)) hx hb hts hiX2 hown hK hP (hMe_lt hk1 hN) (bX_me hk1 _) rfl 1 (by decide) (List.mem_of_getElem? (i := 1) rfl) rfl rfl dX2_copyFrom_50 ?_
    refine lv_aload_n hx hb dX2_copyFrom_53 rfl (lv_at hl 1 rfl) ?_
    refine hw_get (v := .int ((hup (hup σ2 k0 3 (σ2 k1 3)) k0 4 ((hup σ2 k0 3 (σ2 k1 3)) k1 4)) k1 2)) hx hb hts hiX2 hown hK hP (hMe_lt hk1 hN) (bX_me hk1 _) rfl 2 (by decide) (List.mem_of_getElem? (i := 5) rfl) rfl rfl dX2_copyFrom_54 ?_
    refine hw_kv (va_runV (As := [.int ((hup (hup σ2 k0 3 (σ2 k1 3)) k0 4 ((hup σ2 k0 3 (σ2 k1 3)) k1 4)) k1 1), .int ((hup (hup σ2 k0 3 (σ2 k1 3)) k0 4 ((hup σ2 k0 3 (σ2 k1 3)) k1 4)) k1 2)]) (rest := []) ⟨hx, hb, hml, hown, hts⟩ (kc_X2_complete l D cy N hN ad hJ0 (hup (hup σ2 k0 3 (σ2 k1 3)) k0 4 ((hup σ2 k0 3 (σ2 k1 3)) k1 4)) _ k0 hk0 ((hup (hup σ2 k0 3 (σ2 k1 3)) k0 4 ((hup σ2 k0 3 (σ2 k1 3)) k1 4)) k1 1) ((hup (hup σ2 k0 3 (σ2 k1 3)) k0 4 ((hup σ2 k0 3 (σ2 k1 3)) k1 4)) k1 2) _ hw) (cwV 2 hts gX2_copyFrom_X2_complete rfl rfl rfl (by decide +kernel) ⟨Nat.le_of_ble_eq_true rfl, Nat.le_of_ble_eq_true rfl⟩) (hw_preV hK hN1 hP (hMe_lt hk0 hN) (bX_me hk0 _) rfl) rfl rfl hl.1 rfl (lv_room (Nat.le_of_ble_eq_true rfl)) dX2_copyFrom_57 ⟨Nat.zero_le _, Nat.zero_le _⟩) hS (fun σ4 H locs hw hP hS => ?_)
    exact hw_vret hx hb hr hlocks (σ4) hw hP hS dX2_copyFrom_60
  have hw := hw.2 c3
  refine lv_aload_n hx hb dX2_copyFrom_10 rfl (lv_at hl 0 rfl) ?_
  refine hw_get (v := .ref (ad (k0 + 1))) hx hb hts hiX2 hown hK hP (hMe_lt hk0 hN) (bX_me hk0 _) rfl 0 (by decide) (List.mem_of_getElem? (i := 2) rfl) rfl rfl dX2_copyFrom_11 ?_
  refine lv_iload_n hx hb dX2_copyFrom_14 rfl (lv_at hl 2 rfl) ?_
  refine lv_aload_n hx hb dX2_copyFrom_15 rfl (lv_at hl 1 rfl) ?_
  refine hw_get (v := .ref (ad (k1 + 1))) hx hb hts hiX2 hown hK hP (hMe_lt hk1 hN) (bX_me hk1 _) rfl 0 (by decide) (List.mem_of_getElem? (i := 2) rfl) rfl rfl dX2_copyFrom_16 ?_
  refine lv_iload_n hx hb dX2_copyFrom_19 rfl (lv_at hl 2 rfl) ?_
  refine hw_ki (va_runSN (As := [.ref (ad (k1 + 1)), .int v2_1]) (rest := [.int v2_1, .ref (ad (k0 + 1))]) ⟨hx, hb, hml, hown, hts⟩ (kc_X11_cell l D cy N hN ad hJ0 σ2 _ (k1 + 1) (hAi_me hk1) v2_1 _ hw) ⟨va_cnB 2 hts gX2_copyFrom_X11_cell_n37 rfl rfl rfl (hN1.at 3 rfl) (hts (.initialized RX11) (List.mem_of_getElem? (i := 7) rfl)) (by decide +kernel) ⟨Nat.le_of_ble_eq_true rfl, Nat.le_of_ble_eq_true rfl⟩, hts (.static yX11_cell) (List.mem_of_getElem? (i := 6) rfl), trivial⟩ (hw_pre hK hN1 hP) rfl rfl hl.1 rfl (lv_room (Nat.le_of_ble_eq_true rfl)) dX2_copyFrom_20 ⟨Nat.zero_le _, Nat.zero_le _⟩) hS (fun r6 σ5 H locs hw hP hS => ?_)
  obtain ⟨hu_, hw⟩ := hw
  rw [hu_] at hP
  refine hw_kv (va_runSN (As := [.ref (ad (k0 + 1)), .int v2_1, .int r6]) (rest := []) ⟨hx, hb, hml, hown, hts⟩ (kc_X11_setCell l D cy N hN ad hJ0 σ2 _ (k0 + 1) (hAi_me hk0) v2_1 r6 _ hw) ⟨va_cnB 3 hts gX2_copyFrom_X11_setCell_n41 rfl rfl rfl (hN1.at 4 rfl) (hts (.initialized RX11) (List.mem_of_getElem? (i := 7) rfl)) (by decide +kernel) ⟨Nat.le_of_ble_eq_true rfl, Nat.le_of_ble_eq_true rfl⟩, hts (.static yX11_setCell) (List.mem_of_getElem? (i := 9) rfl), trivial⟩ (hw_pre hK hN1 hP) rfl rfl hl.1 rfl (lv_room (Nat.le_of_ble_eq_true rfl)) dX2_copyFrom_23 ⟨Nat.zero_le _, Nat.zero_le _⟩) hS (fun σ7 H locs hw hP hS => ?_)
  obtain ⟨x2_8, ex2_8⟩ : ∃ z : Int32, z = v2_1 + (1 : Int32) := ⟨_, rfl⟩
  have hw := hw x2_8 ex2_8
  refine lv_iinc (v := x2_8) (lv' := [(2, .int x2_8), (0, .ref (ad k0)), (1, .ref (ad k1))]) hx hb dX2_copyFrom_26 hl (k := 2) rfl (by rw [ex2_8]; rfl) (by decide) rfl (fun ls hl => ?_)
  refine lv_goto (tgt := 2) hx hb dX2_copyFrom_29 (by decide) ?_
  exact hw _ _ _ hP hS (lv_sub hl [1, 2, 0] rfl)
set_option maxHeartbeats 4000000 in
set_option maxRecDepth 100000 in
theorem kc_X2_size (l : Launch) (D : va_G) (cy : Nat → ClassId) (N : Nat) (hN : 38 ≤ N) (ad : Nat → Nat) (hJ0 : hJ N ad) (σ : hSt) (sz : Nat) (k0 : Nat) (hk0 : hMe k0) (Q : Int32 → Prop) (hw : wp_X2_size k0 σ Q) : Met l yX2_size wsX2_size ({ frames := 0, cells := 0, slots := 0, locals := 0 } : Room) (va_Pc [.ref (ad k0)] (hB D cy (hC N ad (bX cy ad) σ) sz)) (va_Qi (fun (r : Int32) (u : hSt) => u = σ ∧ Q r) (hE D (fun u : hSt => hC N ad (bX cy ad) u)) (hA N ad sz)) 0 0 (hA N ad sz) := by
  refine Met.ofW (cc := cX2_size) (maxL := 1) (ret := (some .int)) (by decide) rfl ?_
  intro p e s m args below meth c s₁ B hml hv
  obtain ⟨rfl, hsz, hP, hK, hN1⟩ := hv
  have hx := B.exec
  have hb := B.bytes
  have hr := B.returns
  have hts := atoms_spec (ws := wsX2_size) B.pre
  have hown : s.vm.findClass RX2 = some m.cls := findClass_of_methodNamed B.named
  have hlocks := B.notSynchronized
  subst hsz
  have hS : va_S (hA N ad s.heap.size) s.heap s.heap [] := va_S.rf
  have hiX2 : ∀ w ∈ wsX20, w ∈ wsX2_size := fun _ h => List.mem_cons_of_mem _ (List.mem_append_right _ h)
  have hl := lv_entry ([.ref (ad k0)]) (n := 1) (Nat.le_of_ble_eq_true rfl)
  rw [lg_entry_eq]
  generalize (lg_sl ([.ref (ad k0)]) ++ List.replicate (1 - (lg_sl ([.ref (ad k0)])).length) Slot.unset).toArray = ls at hl ⊢
  have hl : lv_has ls 1 [(0, .ref (ad k0))] := hl
  unfold wp_X2_size at hw
  refine lv_aload_n hx hb dX2_size_0 rfl (lv_at hl 0 rfl) ?_
  refine hw_get (v := .int (σ k0 1)) hx hb hts hiX2 hown hK hP (hMe_lt hk0 hN) (bX_me hk0 _) rfl 1 (by decide) (List.mem_of_getElem? (i := 1) rfl) rfl rfl dX2_size_1 ?_
  exact hw_iret hx hb hr hlocks (σ) ⟨rfl, hw⟩ hP hS dX2_size_4
set_option maxHeartbeats 4000000 in
set_option maxRecDepth 100000 in
theorem kc_X1_begin (l : Launch) (D : va_G) (cy : Nat → ClassId) (N : Nat) (hN : 38 ≤ N) (ad : Nat → Nat) (hJ0 : hJ N ad) (σ : hSt) (sz : Nat)  (Q : hSt → Prop) (hw : wp_X1_begin  σ Q) : Met l yX1_begin wsX1_begin ({ frames := 0, cells := 0, slots := 0, locals := 0 } : Room) (va_Pc [.ref (ad 24)] (hB D cy (hC N ad (bX cy ad) σ) sz)) (va_Qv (fun u : hSt => Q u) (hE D (fun u : hSt => hC N ad (bX cy ad) u)) (hA N ad sz)) 0 0 (hA N ad sz) := by
  refine Met.ofW (cc := cX1_begin) (maxL := 1) (ret := none) (by decide) rfl ?_
  intro p e s m args below meth c s₁ B hml hv
  obtain ⟨rfl, hsz, hP, hK, hN1⟩ := hv
  have hx := B.exec
  have hb := B.bytes
  have hr := B.returns
  have hts := atoms_spec (ws := wsX1_begin) B.pre
  have hown : s.vm.findClass RX1 = some m.cls := findClass_of_methodNamed B.named
  have hlocks := B.notSynchronized
  subst hsz
  have hS : va_S (hA N ad s.heap.size) s.heap s.heap [] := va_S.rf
  have hiX1 : ∀ w ∈ wsX10, w ∈ wsX1_begin := fun _ h => List.mem_cons_of_mem _ (List.mem_append_right _ h)
  have hl := lv_entry ([.ref (ad 24)]) (n := 1) (Nat.le_of_ble_eq_true rfl)
  rw [lg_entry_eq]
  generalize (lg_sl ([.ref (ad 24)]) ++ List.replicate (1 - (lg_sl ([.ref (ad 24)])).length) Slot.unset).toArray = ls at hl ⊢
  have hl : lv_has ls 1 [(0, .ref (ad 24))] := hl
  unfold wp_X1_begin at hw
  refine lv_aload_n hx hb dX1_begin_0 rfl (lv_at hl 0 rfl) ?_
  refine lv_iconst (v := 0) hx hb dX1_begin_1 (by decide) ?_
  refine hw_put (x := (0 : Int32)) (j := 6) hx hb hts hiX1 tyX1 tyX1_ok nmX1 hown hK hJ0 hP hS (Nat.lt_of_lt_of_le (by decide) hN) (bX_24 _) rfl (by decide) (List.mem_of_getElem? (i := 1) rfl) rfl rfl rfl rfl (Nat.le_of_ble_eq_true rfl) (by rw [bX_24]; rfl) dX1_begin_2 (fun H locs hP hS => ?_)
  refine lv_aload_n hx hb dX1_begin_5 rfl (lv_at hl 0 rfl) ?_
  refine lv_iconst (v := 0) hx hb dX1_begin_6 (by decide) ?_
  refine hw_put (x := (0 : Int32)) (j := 7) hx hb hts hiX1 tyX1 tyX1_ok nmX1 hown hK hJ0 hP hS (Nat.lt_of_lt_of_le (by decide) hN) (bX_24 _) rfl (by decide) (List.mem_of_getElem? (i := 2) rfl) rfl rfl rfl rfl (Nat.le_of_ble_eq_true rfl) (by rw [bX_24]; rfl) dX1_begin_7 (fun H locs hP hS => ?_)
  refine lv_aload_n hx hb dX1_begin_10 rfl (lv_at hl 0 rfl) ?_
  refine lv_iconst (v := 0) hx hb dX1_begin_11 (by decide) ?_
  refine hw_put (x := (0 : Int32)) (j := 8) hx hb hts hiX1 tyX1 tyX1_ok nmX1 hown hK hJ0 hP hS (Nat.lt_of_lt_of_le (by decide) hN) (bX_24 _) rfl (by decide) (List.mem_of_getElem? (i := 3) rfl) rfl rfl rfl rfl (Nat.le_of_ble_eq_true rfl) (by rw [bX_24]; rfl) dX1_begin_12 (fun H locs hP hS => ?_)
  refine lv_aload_n hx hb dX1_begin_15 rfl (lv_at hl 0 rfl) ?_
  refine lv_iconst (v := 1) hx hb dX1_begin_16 (by decide) ?_
  refine hw_put (x := (1 : Int32)) (j := 9) hx hb hts hiX1 tyX1 tyX1_ok nmX1 hown hK hJ0 hP hS (Nat.lt_of_lt_of_le (by decide) hN) (bX_24 _) rfl (by decide) (List.mem_of_getElem? (i := 4) rfl) rfl rfl rfl rfl (Nat.le_of_ble_eq_true rfl) (by rw [bX_24]; rfl) dX1_begin_17 (fun H locs hP hS => ?_)
  refine lv_aload_n hx hb dX1_begin_20 rfl (lv_at hl 0 rfl) ?_
  refine lv_iconst (v := -1) hx hb dX1_begin_21 (by decide) ?_
  refine hw_put (x := (-1 : Int32)) (j := 10) hx hb hts hiX1 tyX1 tyX1_ok nmX1 hown hK hJ0 hP hS (Nat.lt_of_lt_of_le (by decide) hN) (bX_24 _) rfl (by decide) (List.mem_of_getElem? (i := 5) rfl) rfl rfl rfl rfl (Nat.le_of_ble_eq_true rfl) (by rw [bX_24]; rfl) dX1_begin_22 (fun H locs hP hS => ?_)
  exact hw_vret hx hb hr hlocks ((hup (hup (hup (hup (hup σ 24 6 (0 : Int32)) 24 7 (0 : Int32)) 24 8 (0 : Int32)) 24 9 (1 : Int32)) 24 10 (-1 : Int32))) hw hP hS dX1_begin_25
set_option maxHeartbeats 4000000 in
set_option maxRecDepth 100000 in
theorem kc_X1_isDigit (l : Launch) (D : va_G) (cy : Nat → ClassId) (N : Nat) (ad : Nat → Nat) (b : hCell) (σ : hSt) (sz : Nat) (a1 : Int32) (Q : Int32 → Prop) (hw : wp_X1_isDigit a1 Q) : Met l yX1_isDigit wsX1_isDigit ({ frames := 0, cells := 0, slots := 0, locals := 0 } : Room) (va_Pc [.ref (ad 24), .int a1] (hB D cy (hC N ad b σ) sz)) (va_Qi (fun (r : Int32) (u : hSt) => u = σ ∧ Q r) (hE D (fun u : hSt => hC N ad b u)) (hA N ad sz)) 0 0 (hA N ad sz) := by
  refine Met.ofW (cc := cX1_isDigit) (maxL := 2) (ret := (some .boolean)) (by decide) rfl ?_
  intro p e s m args below meth c s₁ B hml hv
  obtain ⟨rfl, hsz, hP, hK, hN1⟩ := hv
  have hx := B.exec
  have hb := B.bytes
  have hr := B.returns
  have hts := atoms_spec (ws := wsX1_isDigit) B.pre
  have hown : s.vm.findClass RX1 = some m.cls := findClass_of_methodNamed B.named
  have hlocks := B.notSynchronized
  subst hsz
  have hS : va_S (hA N ad s.heap.size) s.heap s.heap [] := va_S.rf
  have hl := lv_entry ([.ref (ad 24), .int a1]) (n := 2) (Nat.le_of_ble_eq_true rfl)
  rw [lg_entry_eq]
  generalize (lg_sl ([.ref (ad 24), .int a1]) ++ List.replicate (2 - (lg_sl ([.ref (ad 24), .int a1])).length) Slot.unset).toArray = ls at hl ⊢
  have hl : lv_has ls 2 [(0, .ref (ad 24)), (1, .int a1)] := hl
  unfold wp_X1_isDigit at hw
  refine lv_iload_n hx hb dX1_isDigit_0 rfl (lv_at hl 1 rfl) ?_
  refine lv_bipush (v := 48) hx hb dX1_isDigit_1 (by decide) ?_
  refine lv_icmp_lt (tgt := 16) hx hb dX1_isDigit_3 (by decide) (fun c1 => ?_) (fun c1 => ?_)
  · have hw := hw.1 c1
    refine lv_iconst (v := 0) hx hb dX1_isDigit_16 (by decide) ?_
    exact hw_zret hx hb hr hlocks hbo_0 (σ) ⟨rfl, hw⟩ hP hS dX1_isDigit_17
  have hw := hw.2 c1
  refine lv_iload_n hx hb dX1_isDigit_6 rfl (lv_at hl 1 rfl) ?_
  refine lv_bipush (v := 57) hx hb dX1_isDigit_7 (by decide) ?_
  refine lv_icmp_gt (tgt := 16) hx hb dX1_isDigit_9 (by decide) (fun c2 => ?_) (fun c2 => ?_)
  · have hw := hw.1 c2
    refine lv_iconst (v := 0) hx hb dX1_isDigit_16 (by decide) ?_
    exact hw_zret hx hb hr hlocks hbo_0 (σ) ⟨rfl, hw⟩ hP hS dX1_isDigit_17
  have hw := hw.2 c2
  refine lv_iconst (v := 1) hx hb dX1_isDigit_12 (by decide) ?_
  refine lv_goto (tgt := 17) hx hb dX1_isDigit_13 (by decide) ?_
  exact hw_zret hx hb hr hlocks hbo_1 (σ) ⟨rfl, hw⟩ hP hS dX1_isDigit_17
set_option maxHeartbeats 4000000 in
set_option maxRecDepth 100000 in
theorem kc_X10_refuse_r24 (l : Launch) (D : va_G) (cy : Nat → ClassId) (N : Nat) (hN : 38 ≤ N) (ad : Nat → Nat) (hJ0 : hJ N ad) (σ : hSt) (sz : Nat) (a1 : Int32) (a2 : Int32) (Q : hSt → Prop) (hw : wp_X10_refuse_r24 a1 a2 σ Q) : Met l yX10_refuse wsX10_refuse ({ frames := 0, cells := 0, slots := 0, locals := 0 } : Room) (va_Pc [.ref (ad 24), .int a1, .int a2] (hB D cy (hC N ad (bX cy ad) σ) sz)) (va_Qv (fun u : hSt => Q u) (hE D (fun u : hSt => hC N ad (bX cy ad) u)) (hA N ad sz)) 0 0 (hA N ad sz) := by
  refine Met.ofW (cc := cX10_refuse) (maxL := 3) (ret := none) (by decide) rfl ?_
  intro p e s m args below meth c s₁ B hml hv
  obtain ⟨rfl, hsz, hP, hK, hN1⟩ := hv
  have hx := B.exec
  have hb := B.bytes
  have hr := B.returns
  have hts := atoms_spec (ws := wsX10_refuse) B.pre
  have hown : s.vm.findClass RX10 = some m.cls := findClass_of_methodNamed B.named
  have hlocks := B.notSynchronized
  subst hsz
  have hS : va_S (hA N ad s.heap.size) s.heap s.heap [] := va_S.rf
  have hiX1 : ∀ w ∈ wsX10, w ∈ wsX10_refuse := fun _ h => List.mem_cons_of_mem _ (List.mem_append_left _ (List.mem_append_right _ h))
  have hl := lv_entry ([.ref (ad 24), .int a1, .int a2]) (n := 3) (Nat.le_of_ble_eq_true rfl)
  rw [lg_entry_eq]
  generalize (lg_sl ([.ref (ad 24), .int a1, .int a2]) ++ List.replicate (3 - (lg_sl ([.ref (ad 24), .int a1, .int a2])).length) Slot.unset).toArray = ls at hl ⊢
  have hl : lv_has ls 3 [(0, .ref (ad 24)), (1, .int a1), (2, .int a2)] := hl
  unfold wp_X10_refuse_r24 at hw
  refine lv_aload_n hx hb dX10_refuse_0 rfl (lv_at hl 0 rfl) ?_
  refine lv_iload_n hx hb dX10_refuse_1 rfl (lv_at hl 1 rfl) ?_
  refine hw_put (x := a1) (j := 0) hx hb hts hiX1 tyX1 tyX1_ok nmX1 hown hK hJ0 hP hS (Nat.lt_of_lt_of_le (by decide) hN) (bX_24 _) rfl (by decide) (List.mem_of_getElem? (i := 1) rfl) rfl rfl rfl rfl (Nat.le_of_ble_eq_true rfl) (by rw [bX_24]; rfl) dX10_refuse_2 (fun H locs hP hS => ?_)
  refine lv_aload_n hx hb dX10_refuse_5 rfl (lv_at hl 0 rfl) ?_
  refine lv_iload_n hx hb dX10_refuse_6 rfl (lv_at hl 2 rfl) ?_
  refine hw_put (x := a2) (j := 1) hx hb hts hiX1 tyX1 tyX1_ok nmX1 hown hK hJ0 hP hS (Nat.lt_of_lt_of_le (by decide) hN) (bX_24 _) rfl (by decide) (List.mem_of_getElem? (i := 2) rfl) rfl rfl rfl rfl (Nat.le_of_ble_eq_true rfl) (by rw [bX_24]; rfl) dX10_refuse_7 (fun H locs hP hS => ?_)
  exact hw_vret hx hb hr hlocks ((hup (hup σ 24 0 a1) 24 1 a2)) hw hP hS dX10_refuse_10
set_option maxHeartbeats 4000000 in
set_option maxRecDepth 100000 in
theorem kc_X1_takeDigit (l : Launch) (D : va_G) (cy : Nat → ClassId) (N : Nat) (hN : 38 ≤ N) (ad : Nat → Nat) (hJ0 : hJ N ad) (σ : hSt) (sz : Nat) (a1 : Int32) (a2 : Int32) (a3 : Int32) (Q : hSt → Prop) (hw : wp_X1_takeDigit a1 a2 a3 σ Q) : Met l yX1_takeDigit wsX1_takeDigit ({ frames := 1, cells := 0, slots := 0, locals := 22 } : Room) (va_Pc [.ref (ad 24), .int a1, .int a2, .int a3] (hB D cy (hC N ad (bX cy ad) σ) sz)) (va_Qv (fun u : hSt => Q u) (hE D (fun u : hSt => hC N ad (bX cy ad) u)) (hA N ad sz)) 0 0 (hA N ad sz) := by
  refine Met.ofW (cc := cX1_takeDigit) (maxL := 4) (ret := none) (by decide) rfl ?_
  intro p e s m args below meth c s₁ B hml hv
  obtain ⟨rfl, hsz, hP, hK, hN1⟩ := hv
  have hx := B.exec
  have hb := B.bytes
  have hr := B.returns
  have hts := atoms_spec (ws := wsX1_takeDigit) B.pre
  have hown : s.vm.findClass RX1 = some m.cls := findClass_of_methodNamed B.named
  have hlocks := B.notSynchronized
  subst hsz
  have hS : va_S (hA N ad s.heap.size) s.heap s.heap [] := va_S.rf
  have hiX1 : ∀ w ∈ wsX10, w ∈ wsX1_takeDigit := fun _ h => List.mem_cons_of_mem _ (List.mem_append_left _ (List.mem_append_right _ h))
  have hl := lv_entry ([.ref (ad 24), .int a1, .int a2, .int a3]) (n := 4) (Nat.le_of_ble_eq_true rfl)
  rw [lg_entry_eq]
  generalize (lg_sl ([.ref (ad 24), .int a1, .int a2, .int a3]) ++ List.replicate (4 - (lg_sl ([.ref (ad 24), .int a1, .int a2, .int a3])).length) Slot.unset).toArray = ls at hl ⊢
  have hl : lv_has ls 4 [(0, .ref (ad 24)), (1, .int a1), (2, .int a2), (3, .int a3)] := hl
  unfold wp_X1_takeDigit at hw
  refine lv_iload_n hx hb dX1_takeDigit_0 rfl (lv_at hl 2 rfl) ?_
  refine lv_if_ne (tgt := 43) hx hb dX1_takeDigit_1 (by decide) (fun c1 => ?_) (fun c1 => ?_)
  · have hw := hw.1 c1
    refine lv_aload_n hx hb dX1_takeDigit_43 rfl (lv_at hl 0 rfl) ?_
    refine hw_get (v := .int (σ 24 10)) hx hb hts hiX1 hown hK hP (Nat.lt_of_lt_of_le (by decide) hN) (bX_24 _) rfl 10 (by decide) (List.mem_of_getElem? (i := 2) rfl) rfl rfl dX1_takeDigit_44 ?_
    refine lv_iconst (v := -1) hx hb dX1_takeDigit_47 (by decide) ?_
    refine lv_icmp_eq (tgt := 60) hx hb dX1_takeDigit_48 (by decide) (fun c2 => ?_) (fun c2 => ?_)
    · have hw := hw.1 c2
      refine lv_aload_n hx hb dX1_takeDigit_60 rfl (lv_at hl 0 rfl) ?_
      refine lv_iconst (v := 1) hx hb dX1_takeDigit_61 (by decide) ?_
      refine hw_put (x := (1 : Int32)) (j := 11) hx hb hts hiX1 tyX1 tyX1_ok nmX1 hown hK hJ0 hP hS (Nat.lt_of_lt_of_le (by decide) hN) (bX_24 _) rfl (by decide) (List.mem_of_getElem? (i := 1) rfl) rfl rfl rfl rfl (Nat.le_of_ble_eq_true rfl) (by rw [bX_24]; rfl) dX1_takeDigit_62 (fun H locs hP hS => ?_)
      refine lv_aload_n hx hb dX1_takeDigit_65 rfl (lv_at hl 0 rfl) ?_
      refine lv_iload_n hx hb dX1_takeDigit_66 rfl (lv_at hl 1 rfl) ?_
      refine hw_put (x := a1) (j := 10) hx hb hts hiX1 tyX1 tyX1_ok nmX1 hown hK hJ0 hP hS (Nat.lt_of_lt_of_le (by decide) hN) (bX_24 _) rfl (by decide) (List.mem_of_getElem? (i := 2) rfl) rfl rfl rfl rfl (Nat.le_of_ble_eq_true rfl) (by rw [bX_24]; rfl) dX1_takeDigit_67 (fun H locs hP hS => ?_)
      exact hw_vret hx hb hr hlocks ((hup (hup σ 24 11 (1 : Int32)) 24 10 a1)) hw hP hS dX1_takeDigit_70
    have hw := hw.2 c2
    refine lv_aload_n hx hb dX1_takeDigit_51 rfl (lv_at hl 0 rfl) ?_
    refine lv_iconst (v := 1) hx hb dX1_takeDigit_52 (by decide) ?_
    refine lv_iload_n hx hb dX1_takeDigit_53 rfl (lv_at hl 3 rfl) ?_
    refine hw_kv (va_runU (As := [.int (1 : Int32), .int a3]) (rest := []) ⟨hx, hb, hml, hown, hts⟩ (kc_X10_refuse_r24 l D cy N hN ad hJ0 σ _ (1 : Int32) a3 _ hw) (va_cwU 2 hts gX1_takeDigit_X10_refuse_u76X1 rfl rfl rfl rfl (by decide +kernel) ⟨Nat.le_of_ble_eq_true rfl, Nat.le_of_ble_eq_true rfl⟩) (hw_preV hK hN1 hP (Nat.lt_of_lt_of_le (by decide) hN) (bX_24 _) rfl) rfl rfl hl.1 rfl (lv_room (Nat.le_of_ble_eq_true rfl)) dX1_takeDigit_54 ⟨Nat.zero_le _, Nat.zero_le _⟩) hS (fun σ3 H locs hw hP hS => ?_)
    refine lv_goto (tgt := 70) hx hb dX1_takeDigit_57 (by decide) ?_
    exact hw_vret hx hb hr hlocks (σ3) hw hP hS dX1_takeDigit_70
  have hw := hw.2 c1
  refine lv_aload_n hx hb dX1_takeDigit_4 rfl (lv_at hl 0 rfl) ?_
  refine lv_dup hx hb dX1_takeDigit_5 rfl ?_
  refine hw_get (v := .int (σ 24 11)) hx hb hts hiX1 hown hK hP (Nat.lt_of_lt_of_le (by decide) hN) (bX_24 _) rfl 11 (by decide) (List.mem_of_getElem? (i := 1) rfl) rfl rfl dX1_takeDigit_6 ?_
  refine lv_iconst (v := 1) hx hb dX1_takeDigit_9 (by decide) ?_
  refine lv_iadd hx hb dX1_takeDigit_10 ?_
  refine hw_put (x := ((σ 24 11) + (1 : Int32))) (j := 11) hx hb hts hiX1 tyX1 tyX1_ok nmX1 hown hK hJ0 hP hS (Nat.lt_of_lt_of_le (by decide) hN) (bX_24 _) rfl (by decide) (List.mem_of_getElem? (i := 1) rfl) rfl rfl rfl rfl (Nat.le_of_ble_eq_true rfl) (by rw [bX_24]; rfl) dX1_takeDigit_11 (fun H locs hP hS => ?_)
  refine lv_aload_n hx hb dX1_takeDigit_14 rfl (lv_at hl 0 rfl) ?_
  refine lv_aload_n hx hb dX1_takeDigit_15 rfl (lv_at hl 0 rfl) ?_
  refine hw_get (v := .int ((hup σ 24 11 ((σ 24 11) + (1 : Int32))) 24 11)) hx hb hts hiX1 hown hK hP (Nat.lt_of_lt_of_le (by decide) hN) (bX_24 _) rfl 11 (by decide) (List.mem_of_getElem? (i := 1) rfl) rfl rfl dX1_takeDigit_16 ?_
  refine lv_iconst (v := 2) hx hb dX1_takeDigit_19 (by decide) ?_
  refine lv_icmp_le (tgt := 28) hx hb dX1_takeDigit_20 (by decide) (fun c4 => ?_) (fun c4 => ?_)
  · have hw := hw.1 c4
    refine lv_aload_n hx hb dX1_takeDigit_28 rfl (lv_at hl 0 rfl) ?_
    refine hw_get (v := .int ((hup σ 24 11 ((σ 24 11) + (1 : Int32))) 24 10)) hx hb hts hiX1 hown hK hP (Nat.lt_of_lt_of_le (by decide) hN) (bX_24 _) rfl 10 (by decide) (List.mem_of_getElem? (i := 2) rfl) rfl rfl dX1_takeDigit_29 ?_
    refine lv_bipush (v := 10) hx hb dX1_takeDigit_32 (by decide) ?_
    refine lv_imul hx hb dX1_takeDigit_34 ?_
    refine lv_iload_n hx hb dX1_takeDigit_35 rfl (lv_at hl 1 rfl) ?_
    refine lv_iadd hx hb dX1_takeDigit_36 ?_
    refine hw_put (x := ((((hup σ 24 11 ((σ 24 11) + (1 : Int32))) 24 10) * (10 : Int32)) + a1)) (j := 10) hx hb hts hiX1 tyX1 tyX1_ok nmX1 hown hK hJ0 hP hS (Nat.lt_of_lt_of_le (by decide) hN) (bX_24 _) rfl (by decide) (List.mem_of_getElem? (i := 2) rfl) rfl rfl rfl rfl (Nat.le_of_ble_eq_true rfl) (by rw [bX_24]; rfl) dX1_takeDigit_37 (fun H locs hP hS => ?_)
    refine lv_goto (tgt := 70) hx hb dX1_takeDigit_40 (by decide) ?_
    exact hw_vret hx hb hr hlocks ((hup (hup σ 24 11 ((σ 24 11) + (1 : Int32))) 24 10 ((((hup σ 24 11 ((σ 24 11) + (1 : Int32))) 24 10) * (10 : Int32)) + a1))) hw hP hS dX1_takeDigit_70
  have hw := hw.2 c4
  refine lv_bipush (v := 100) hx hb dX1_takeDigit_23 (by decide) ?_
  refine lv_goto (tgt := 37) hx hb dX1_takeDigit_25 (by decide) ?_
  refine hw_put (x := (100 : Int32)) (j := 10) hx hb hts hiX1 tyX1 tyX1_ok nmX1 hown hK hJ0 hP hS (Nat.lt_of_lt_of_le (by decide) hN) (bX_24 _) rfl (by decide) (List.mem_of_getElem? (i := 2) rfl) rfl rfl rfl rfl (Nat.le_of_ble_eq_true rfl) (by rw [bX_24]; rfl) dX1_takeDigit_37 (fun H locs hP hS => ?_)
  refine lv_goto (tgt := 70) hx hb dX1_takeDigit_40 (by decide) ?_
  exact hw_vret hx hb hr hlocks ((hup (hup σ 24 11 ((σ 24 11) + (1 : Int32))) 24 10 (100 : Int32))) hw hP hS dX1_takeDigit_70
set_option maxHeartbeats 4000000 in
set_option maxRecDepth 100000 in
theorem kc_X1_takeDigitsEnd (l : Launch) (D : va_G) (cy : Nat → ClassId) (N : Nat) (hN : 38 ≤ N) (ad : Nat → Nat) (hJ0 : hJ N ad) (σ : hSt) (sz : Nat) (a1 : Int32) (Q : hSt → Prop) (hw : wp_X1_takeDigitsEnd a1 σ Q) : Met l yX1_takeDigitsEnd wsX1_takeDigitsEnd ({ frames := 1, cells := 0, slots := 0, locals := 22 } : Room) (va_Pc [.ref (ad 24), .int a1] (hB D cy (hC N ad (bX cy ad) σ) sz)) (va_Qv (fun u : hSt => Q u) (hE D (fun u : hSt => hC N ad (bX cy ad) u)) (hA N ad sz)) 0 0 (hA N ad sz) := by
  refine Met.ofW (cc := cX1_takeDigitsEnd) (maxL := 2) (ret := none) (by decide) rfl ?_
  intro p e s m args below meth c s₁ B hml hv
  obtain ⟨rfl, hsz, hP, hK, hN1⟩ := hv
  have hx := B.exec
  have hb := B.bytes
  have hr := B.returns
  have hts := atoms_spec (ws := wsX1_takeDigitsEnd) B.pre
  have hown : s.vm.findClass RX1 = some m.cls := findClass_of_methodNamed B.named
  have hlocks := B.notSynchronized
  subst hsz
  have hS : va_S (hA N ad s.heap.size) s.heap s.heap [] := va_S.rf
  have hiX1 : ∀ w ∈ wsX10, w ∈ wsX1_takeDigitsEnd := fun _ h => List.mem_cons_of_mem _ (List.mem_append_left _ (List.mem_append_right _ h))
  have hl := lv_entry ([.ref (ad 24), .int a1]) (n := 2) (Nat.le_of_ble_eq_true rfl)
  rw [lg_entry_eq]
  generalize (lg_sl ([.ref (ad 24), .int a1]) ++ List.replicate (2 - (lg_sl ([.ref (ad 24), .int a1])).length) Slot.unset).toArray = ls at hl ⊢
  have hl : lv_has ls 2 [(0, .ref (ad 24)), (1, .int a1)] := hl
  unfold wp_X1_takeDigitsEnd at hw
  refine lv_aload_n hx hb dX1_takeDigitsEnd_0 rfl (lv_at hl 0 rfl) ?_
  refine hw_get (v := .int (σ 24 10)) hx hb hts hiX1 hown hK hP (Nat.lt_of_lt_of_le (by decide) hN) (bX_24 _) rfl 10 (by decide) (List.mem_of_getElem? (i := 1) rfl) rfl rfl dX1_takeDigitsEnd_1 ?_
  refine lv_iconst (v := 2) hx hb dX1_takeDigitsEnd_4 (by decide) ?_
  refine lv_icmp_lt (tgt := 17) hx hb dX1_takeDigitsEnd_5 (by decide) (fun c1 => ?_) (fun c1 => ?_)
  · have hw := hw.1 c1
    refine lv_aload_n hx hb dX1_takeDigitsEnd_17 rfl (lv_at hl 0 rfl) ?_
    refine lv_iconst (v := 2) hx hb dX1_takeDigitsEnd_18 (by decide) ?_
    refine lv_iload_n hx hb dX1_takeDigitsEnd_19 rfl (lv_at hl 1 rfl) ?_
    refine hw_kv (va_runU (As := [.int (2 : Int32), .int a1]) (rest := []) ⟨hx, hb, hml, hown, hts⟩ (kc_X10_refuse_r24 l D cy N hN ad hJ0 σ _ (2 : Int32) a1 _ hw) (va_cwU 2 hts gX1_takeDigitsEnd_X10_refuse_u76X1 rfl rfl rfl rfl (by decide +kernel) ⟨Nat.le_of_ble_eq_true rfl, Nat.le_of_ble_eq_true rfl⟩) (hw_preV hK hN1 hP (Nat.lt_of_lt_of_le (by decide) hN) (bX_24 _) rfl) rfl rfl hl.1 rfl (lv_room (Nat.le_of_ble_eq_true rfl)) dX1_takeDigitsEnd_20 ⟨Nat.zero_le _, Nat.zero_le _⟩) hS (fun σ2 H locs hw hP hS => ?_)
    exact hw_vret hx hb hr hlocks (σ2) hw hP hS dX1_takeDigitsEnd_23
  have hw := hw.2 c1
  refine lv_aload_n hx hb dX1_takeDigitsEnd_8 rfl (lv_at hl 0 rfl) ?_
  refine hw_get (v := .int (σ 24 10)) hx hb hts hiX1 hown hK hP (Nat.lt_of_lt_of_le (by decide) hN) (bX_24 _) rfl 10 (by decide) (List.mem_of_getElem? (i := 1) rfl) rfl rfl dX1_takeDigitsEnd_9 ?_
  refine lv_bipush (v := 99) hx hb dX1_takeDigitsEnd_12 (by decide) ?_
  refine lv_icmp_le (tgt := 23) hx hb dX1_takeDigitsEnd_14 (by decide) (fun c3 => ?_) (fun c3 => ?_)
  · have hw := hw.1 c3
    exact hw_vret hx hb hr hlocks (σ) hw hP hS dX1_takeDigitsEnd_23
  have hw := hw.2 c3
  refine lv_aload_n hx hb dX1_takeDigitsEnd_17 rfl (lv_at hl 0 rfl) ?_
  refine lv_iconst (v := 2) hx hb dX1_takeDigitsEnd_18 (by decide) ?_
  refine lv_iload_n hx hb dX1_takeDigitsEnd_19 rfl (lv_at hl 1 rfl) ?_
  refine hw_kv (va_runU (As := [.int (2 : Int32), .int a1]) (rest := []) ⟨hx, hb, hml, hown, hts⟩ (kc_X10_refuse_r24 l D cy N hN ad hJ0 σ _ (2 : Int32) a1 _ hw) (va_cwU 2 hts gX1_takeDigitsEnd_X10_refuse_u76X1 rfl rfl rfl rfl (by decide +kernel) ⟨Nat.le_of_ble_eq_true rfl, Nat.le_of_ble_eq_true rfl⟩) (hw_preV hK hN1 hP (Nat.lt_of_lt_of_le (by decide) hN) (bX_24 _) rfl) rfl rfl hl.1 rfl (lv_room (Nat.le_of_ble_eq_true rfl)) dX1_takeDigitsEnd_20 ⟨Nat.zero_le _, Nat.zero_le _⟩) hS (fun σ4 H locs hw hP hS => ?_)
  exact hw_vret hx hb hr hlocks (σ4) hw hP hS dX1_takeDigitsEnd_23
set_option maxHeartbeats 4000000 in
set_option maxRecDepth 100000 in
theorem kc_X1_callFor (l : Launch) (D : va_G) (cy : Nat → ClassId) (N : Nat) (ad : Nat → Nat) (b : hCell) (σ : hSt) (sz : Nat) (a0 : Int32) (Q : Int32 → Prop) (hw : wp_X1_callFor a0 Q) : Met l yX1_callFor wsX1_callFor ({ frames := 0, cells := 0, slots := 0, locals := 0 } : Room) (va_Pc [.int a0] (hB D cy (hC N ad b σ) sz)) (va_Qi (fun (r : Int32) (u : hSt) => u = σ ∧ Q r) (hE D (fun u : hSt => hC N ad b u)) (hA N ad sz)) 0 0 (hA N ad sz) := by
  refine Met.ofW (cc := cX1_callFor) (maxL := 1) (ret := (some .int)) (by decide) rfl ?_
  intro p e s m args below meth c s₁ B hml hv
  obtain ⟨rfl, hsz, hP, hK, hN1⟩ := hv
  have hx := B.exec
  have hb := B.bytes
  have hr := B.returns
  have hts := atoms_spec (ws := wsX1_callFor) B.pre
  have hown : s.vm.findClass RX1 = some m.cls := findClass_of_methodNamed B.named
  have hlocks := B.notSynchronized
  subst hsz
  have hS : va_S (hA N ad s.heap.size) s.heap s.heap [] := va_S.rf
  have hl := lv_entry ([.int a0]) (n := 1) (Nat.le_of_ble_eq_true rfl)
  rw [lg_entry_eq]
  generalize (lg_sl ([.int a0]) ++ List.replicate (1 - (lg_sl ([.int a0])).length) Slot.unset).toArray = ls at hl ⊢
  have hl : lv_has ls 1 [(0, .int a0)] := hl
  unfold wp_X1_callFor at hw
  refine lv_iload_n hx hb dX1_callFor_0 rfl (lv_at hl 0 rfl) ?_
  refine lv_topi (fun x1 ex1 => ?_)
  have hw := hw x1 ex1
  by_cases c2 : x1 = (98 : Int32)
  · have hw := hw.1 c2
    refine lv_lookup (tgt := 38) hx hb dX1_callFor_1 (by decide) (by rw [c2] <;> rfl) (by decide) ?_
    refine lv_iconst (v := 1) hx hb dX1_callFor_38 (by decide) ?_
    exact hw_iret hx hb hr hlocks (σ) ⟨rfl, hw⟩ hP hS dX1_callFor_39
  have hw := hw.2 c2
  by_cases c3 : x1 = (112 : Int32)
  · have hw := hw.1 c3
    refine lv_lookup (tgt := 36) hx hb dX1_callFor_1 (by decide) (by rw [c3] <;> rfl) (by decide) ?_
    refine lv_iconst (v := 0) hx hb dX1_callFor_36 (by decide) ?_
    exact hw_iret hx hb hr hlocks (σ) ⟨rfl, hw⟩ hP hS dX1_callFor_37
  have hw := hw.2 c3
  by_cases c4 : x1 = (115 : Int32)
  · have hw := hw.1 c4
    refine lv_lookup (tgt := 40) hx hb dX1_callFor_1 (by decide) (by rw [c4] <;> rfl) (by decide) ?_
    refine lv_iconst (v := 2) hx hb dX1_callFor_40 (by decide) ?_
    exact hw_iret hx hb hr hlocks (σ) ⟨rfl, hw⟩ hP hS dX1_callFor_41
  have hw := hw.2 c4
  refine lv_lookup (off := 41) (tgt := 42) hx hb dX1_callFor_1 (by decide) ((lv_osw c2 rfl).trans ((lv_osw c3 rfl).trans ((lv_osw c4 rfl).trans rfl))) (by decide) ?_
  refine lv_iconst (v := -1) hx hb dX1_callFor_42 (by decide) ?_
  exact hw_iret hx hb hr hlocks (σ) ⟨rfl, hw⟩ hP hS dX1_callFor_43
set_option maxHeartbeats 4000000 in
set_option maxRecDepth 100000 in
theorem kc_X0_has (l : Launch) (D : va_G) (cy : Nat → ClassId) (N : Nat) (hN : 38 ≤ N) (ad : Nat → Nat) (hJ0 : hJ N ad) (σ : hSt) (sz : Nat) (a1 : Int32) (Q : Int32 → Prop) (hw : wp_X0_has a1 σ Q) : Met l yX0_has wsX0_has ({ frames := 1, cells := 0, slots := 0, locals := 22 } : Room) (va_Pc [.ref (ad 1), .int a1] (hB D cy (hC N ad (bX cy ad) σ) sz)) (va_Qi (fun (r : Int32) (u : hSt) => u = σ ∧ Q r) (hE D (fun u : hSt => hC N ad (bX cy ad) u)) (hA N ad sz)) 0 0 (hA N ad sz) := by
  refine Met.ofW (cc := cX0_has) (maxL := 2) (ret := (some .boolean)) (by decide) rfl ?_
  intro p e s m args below meth c s₁ B hml hv
  obtain ⟨rfl, hsz, hP, hK, hN1⟩ := hv
  have hx := B.exec
  have hb := B.bytes
  have hr := B.returns
  have hts := atoms_spec (ws := wsX0_has) B.pre
  have hown : s.vm.findClass RX0 = some m.cls := findClass_of_methodNamed B.named
  have hlocks := B.notSynchronized
  subst hsz
  have hS : va_S (hA N ad s.heap.size) s.heap s.heap [] := va_S.rf
  have hl := lv_entry ([.ref (ad 1), .int a1]) (n := 2) (Nat.le_of_ble_eq_true rfl)
  rw [lg_entry_eq]
  generalize (lg_sl ([.ref (ad 1), .int a1]) ++ List.replicate (2 - (lg_sl ([.ref (ad 1), .int a1])).length) Slot.unset).toArray = ls at hl ⊢
  have hl : lv_has ls 2 [(0, .ref (ad 1)), (1, .int a1)] := hl
  unfold wp_X0_has at hw
  refine lv_aload_n hx hb dX0_has_0 rfl (lv_at hl 0 rfl) ?_
  refine lv_iload_n hx hb dX0_has_1 rfl (lv_at hl 1 rfl) ?_
  refine hw_kr (va_runV (As := [.int a1]) (rest := []) ⟨hx, hb, hml, hown, hts⟩ (kc_X0_at l D cy N hN ad hJ0 σ _ a1 _ hw) (cwV 1 hts gX0_has_X0_at rfl rfl rfl (by decide +kernel) ⟨Nat.le_of_ble_eq_true rfl, Nat.le_of_ble_eq_true rfl⟩) (hw_preV hK hN1 hP (Nat.lt_of_lt_of_le (by decide) hN) (bX_1 _) rfl) rfl rfl hl.1 rfl (lv_room (Nat.le_of_ble_eq_true rfl)) dX0_has_2 ⟨Nat.zero_le _, Nat.zero_le _⟩) hS (fun k2 σ1 H locs hw hP hS => ?_)
  obtain ⟨hu_, hk3, hw⟩ := hw
  dsimp only at hu_ hk3 hw
  rw [hu_] at hP
  refine hw_ki (va_runV (As := []) (rest := []) ⟨hx, hb, hml, hown, hts⟩ (kc_X2_size l D cy N hN ad hJ0 σ _ k2 hk3 _ hw) (cwV 0 hts gX0_has_X2_size rfl rfl rfl (by decide +kernel) ⟨Nat.le_of_ble_eq_true rfl, Nat.le_of_ble_eq_true rfl⟩) (hw_preV hK hN1 hP (hMe_lt hk3 hN) (bX_me hk3 _) rfl) rfl rfl hl.1 rfl (lv_room (Nat.le_of_ble_eq_true rfl)) dX0_has_5 ⟨Nat.zero_le _, Nat.zero_le _⟩) hS (fun r5 σ4 H locs hw hP hS => ?_)
  obtain ⟨hu_, hw⟩ := hw
  rw [hu_] at hP
  refine lv_if_le (tgt := 15) hx hb dX0_has_8 (by decide) (fun c6 => ?_) (fun c6 => ?_)
  · have hw := hw.1 c6
    refine lv_iconst (v := 0) hx hb dX0_has_15 (by decide) ?_
    exact hw_zret hx hb hr hlocks hbo_0 (σ) ⟨rfl, hw⟩ hP hS dX0_has_16
  have hw := hw.2 c6
  refine lv_iconst (v := 1) hx hb dX0_has_11 (by decide) ?_
  refine lv_goto (tgt := 16) hx hb dX0_has_12 (by decide) ?_
  exact hw_zret hx hb hr hlocks hbo_1 (σ) ⟨rfl, hw⟩ hP hS dX0_has_16
set_option maxHeartbeats 4000000 in
set_option maxRecDepth 100000 in
theorem kc_X1_addItem (l : Launch) (D : va_G) (cy : Nat → ClassId) (N : Nat) (hN : 38 ≤ N) (ad : Nat → Nat) (hJ0 : hJ N ad) (σ : hSt) (sz : Nat) (a1 : Int32) (Q : hSt → Prop) (hw : wp_X1_addItem a1 σ Q) : Met l yX1_addItem wsX1_addItem ({ frames := 1, cells := 0, slots := 0, locals := 22 } : Room) (va_Pc [.ref (ad 24), .int a1] (hB D cy (hC N ad (bX cy ad) σ) sz)) (va_Qv (fun u : hSt => Q u) (hE D (fun u : hSt => hC N ad (bX cy ad) u)) (hA N ad sz)) 0 0 (hA N ad sz) := by
  refine Met.ofW (cc := cX1_addItem) (maxL := 2) (ret := none) (by decide) rfl ?_
  intro p e s m args below meth c s₁ B hml hv
  obtain ⟨rfl, hsz, hP, hK, hN1⟩ := hv
  have hx := B.exec
  have hb := B.bytes
  have hr := B.returns
  have hts := atoms_spec (ws := wsX1_addItem) B.pre
  have hown : s.vm.findClass RX1 = some m.cls := findClass_of_methodNamed B.named
  have hlocks := B.notSynchronized
  subst hsz
  have hS : va_S (hA N ad s.heap.size) s.heap s.heap [] := va_S.rf
  have hiX1 : ∀ w ∈ wsX10, w ∈ wsX1_addItem := fun _ h => List.mem_cons_of_mem _ (List.mem_append_right _ h)
  have hl := lv_entry ([.ref (ad 24), .int a1]) (n := 2) (Nat.le_of_ble_eq_true rfl)
  rw [lg_entry_eq]
  generalize (lg_sl ([.ref (ad 24), .int a1]) ++ List.replicate (2 - (lg_sl ([.ref (ad 24), .int a1])).length) Slot.unset).toArray = ls at hl ⊢
  have hl : lv_has ls 2 [(0, .ref (ad 24)), (1, .int a1)] := hl
  unfold wp_X1_addItem at hw
  refine lv_aload_n hx hb dX1_addItem_0 rfl (lv_at hl 0 rfl) ?_
  refine hw_get (v := .ref (ad 25)) hx hb hts hiX1 hown hK hP (Nat.lt_of_lt_of_le (by decide) hN) (bX_24 _) rfl 4 (by decide) (List.mem_of_getElem? (i := 1) rfl) rfl rfl dX1_addItem_1 ?_
  refine lv_aload_n hx hb dX1_addItem_4 rfl (lv_at hl 0 rfl) ?_
  refine hw_get (v := .int (σ 24 6)) hx hb hts hiX1 hown hK hP (Nat.lt_of_lt_of_le (by decide) hN) (bX_24 _) rfl 6 (by decide) (List.mem_of_getElem? (i := 2) rfl) rfl rfl dX1_addItem_5 ?_
  refine lv_iload_n hx hb dX1_addItem_8 rfl (lv_at hl 1 rfl) ?_
  refine hw_kv (va_runSN (As := [.ref (ad 25), .int (σ 24 6), .int a1]) (rest := []) ⟨hx, hb, hml, hown, hts⟩ (kc_X11_setCell l D cy N hN ad hJ0 σ _ 25 hAi_25 (σ 24 6) a1 _ hw) ⟨va_cnB 3 hts gX1_addItem_X11_setCell_n89 rfl rfl rfl (hN1.at 2 rfl) (hts (.initialized RX11) (List.mem_of_getElem? (i := 6) rfl)) (by decide +kernel) ⟨Nat.le_of_ble_eq_true rfl, Nat.le_of_ble_eq_true rfl⟩, hts (.static yX11_setCell) (List.mem_of_getElem? (i := 5) rfl), trivial⟩ (hw_pre hK hN1 hP) rfl rfl hl.1 rfl (lv_room (Nat.le_of_ble_eq_true rfl)) dX1_addItem_9 ⟨Nat.zero_le _, Nat.zero_le _⟩) hS (fun σ1 H locs hw hP hS => ?_)
  refine lv_aload_n hx hb dX1_addItem_12 rfl (lv_at hl 0 rfl) ?_
  refine hw_get (v := .ref (ad 26)) hx hb hts hiX1 hown hK hP (Nat.lt_of_lt_of_le (by decide) hN) (bX_24 _) rfl 5 (by decide) (List.mem_of_getElem? (i := 3) rfl) rfl rfl dX1_addItem_13 ?_
  refine lv_aload_n hx hb dX1_addItem_16 rfl (lv_at hl 0 rfl) ?_
  refine hw_get (v := .int (σ1 24 6)) hx hb hts hiX1 hown hK hP (Nat.lt_of_lt_of_le (by decide) hN) (bX_24 _) rfl 6 (by decide) (List.mem_of_getElem? (i := 2) rfl) rfl rfl dX1_addItem_17 ?_
  refine lv_aload_n hx hb dX1_addItem_20 rfl (lv_at hl 0 rfl) ?_
  refine hw_get (v := .int (σ1 24 10)) hx hb hts hiX1 hown hK hP (Nat.lt_of_lt_of_le (by decide) hN) (bX_24 _) rfl 10 (by decide) (List.mem_of_getElem? (i := 4) rfl) rfl rfl dX1_addItem_21 ?_
  refine lv_iconst (v := -1) hx hb dX1_addItem_24 (by decide) ?_
  obtain ⟨J36, ehJ36, hw⟩ := hM_x hw
  have hJ36 : ∀ (z2 : Int32) (H : Heap) (locs : List Loc) (ls : Array Slot), J36 z2 → va_P D vwCl (hC N ad (bX cy ad) σ1) H → va_S (hA N ad s.heap.size) s.heap H locs → lv_has ls 2 [(0, .ref (ad 24))] → W p l e (headSpec wsX1_addItem ({ frames := 1, cells := 0, slots := 0, locals := 22 } : Room)).room s m ([Value.ref (ad 24), Value.int a1] : List Value).toArray below meth c H locs 0 0 (MQ below (va_Qv (fun u : hSt => Q u) (hE D (fun u : hSt => hC N ad (bX cy ad) u)) (hA N ad s.heap.size)) ([Value.ref (ad 24), Value.int a1] : List Value).toArray s 0 0 (hA N ad s.heap.size)) (F0 m 36 ls [.int z2, .int (σ1 24 6), .ref (ad 26)]) := by
    intro z2 H locs ls hw hP hS hl
    rw [ehJ36] at hw
    refine hw_kv (va_runSN (As := [.ref (ad 26), .int (σ1 24 6), .int z2]) (rest := []) ⟨hx, hb, hml, hown, hts⟩ (kc_X11_setCell l D cy N hN ad hJ0 σ1 _ 26 hAi_26 (σ1 24 6) z2 _ hw) ⟨va_cnB 3 hts gX1_addItem_X11_setCell_n89 rfl rfl rfl (hN1.at 2 rfl) (hts (.initialized RX11) (List.mem_of_getElem? (i := 6) rfl)) (by decide +kernel) ⟨Nat.le_of_ble_eq_true rfl, Nat.le_of_ble_eq_true rfl⟩, hts (.static yX11_setCell) (List.mem_of_getElem? (i := 5) rfl), trivial⟩ (hw_pre hK hN1 hP) rfl rfl hl.1 rfl (lv_room (Nat.le_of_ble_eq_true rfl)) dX1_addItem_36 ⟨Nat.zero_le _, Nat.zero_le _⟩) hS (fun σ3 H locs hw hP hS => ?_)
    refine lv_aload_n hx hb dX1_addItem_39 rfl (lv_at hl 0 rfl) ?_
    refine lv_dup hx hb dX1_addItem_40 rfl ?_
    refine hw_get (v := .int (σ3 24 6)) hx hb hts hiX1 hown hK hP (Nat.lt_of_lt_of_le (by decide) hN) (bX_24 _) rfl 6 (by decide) (List.mem_of_getElem? (i := 2) rfl) rfl rfl dX1_addItem_41 ?_
    refine lv_iconst (v := 1) hx hb dX1_addItem_44 (by decide) ?_
    refine lv_iadd hx hb dX1_addItem_45 ?_
    refine hw_put (x := ((σ3 24 6) + (1 : Int32))) (j := 6) hx hb hts hiX1 tyX1 tyX1_ok nmX1 hown hK hJ0 hP hS (Nat.lt_of_lt_of_le (by decide) hN) (bX_24 _) rfl (by decide) (List.mem_of_getElem? (i := 2) rfl) rfl rfl rfl rfl (Nat.le_of_ble_eq_true rfl) (by rw [bX_24]; rfl) dX1_addItem_46 (fun H locs hP hS => ?_)
    refine lv_aload_n hx hb dX1_addItem_49 rfl (lv_at hl 0 rfl) ?_
    refine lv_iconst (v := -1) hx hb dX1_addItem_50 (by decide) ?_
    refine hw_put (x := (-1 : Int32)) (j := 10) hx hb hts hiX1 tyX1 tyX1_ok nmX1 hown hK hJ0 hP hS (Nat.lt_of_lt_of_le (by decide) hN) (bX_24 _) rfl (by decide) (List.mem_of_getElem? (i := 4) rfl) rfl rfl rfl rfl (Nat.le_of_ble_eq_true rfl) (by rw [bX_24]; rfl) dX1_addItem_51 (fun H locs hP hS => ?_)
    exact hw_vret hx hb hr hlocks ((hup (hup σ3 24 6 ((σ3 24 6) + (1 : Int32))) 24 10 (-1 : Int32))) hw hP hS dX1_addItem_54
  refine lv_icmp_ne (tgt := 32) hx hb dX1_addItem_25 (by decide) (fun c4 => ?_) (fun c4 => ?_)
  · have hw := hw.1 c4
    refine lv_aload_n hx hb dX1_addItem_32 rfl (lv_at hl 0 rfl) ?_
    refine hw_get (v := .int (σ1 24 10)) hx hb hts hiX1 hown hK hP (Nat.lt_of_lt_of_le (by decide) hN) (bX_24 _) rfl 10 (by decide) (List.mem_of_getElem? (i := 4) rfl) rfl rfl dX1_addItem_33 ?_
    exact hJ36 _ _ _ _ hw hP hS (lv_sub hl [0] rfl)
  have hw := hw.2 c4
  refine lv_iconst (v := 1) hx hb dX1_addItem_28 (by decide) ?_
  refine lv_goto (tgt := 36) hx hb dX1_addItem_29 (by decide) ?_
  exact hJ36 _ _ _ _ hw hP hS (lv_sub hl [0] rfl)
set_option maxHeartbeats 4000000 in
set_option maxRecDepth 100000 in
theorem kc_X1_takeUnit (l : Launch) (D : va_G) (cy : Nat → ClassId) (N : Nat) (hN : 38 ≤ N) (ad : Nat → Nat) (hJ0 : hJ N ad) (σ : hSt) (sz : Nat) (a1 : Int32) (a2 : Int32) (a3 : Int32) (Q : hSt → Prop) (hw : wp_X1_takeUnit a1 a2 a3 σ Q) : Met l yX1_takeUnit wsX1_takeUnit ({ frames := 2, cells := 0, slots := 0, locals := 43 } : Room) (va_Pc [.ref (ad 24), .int a1, .int a2, .int a3] (hB D cy (hC N ad (bX cy ad) σ) sz)) (va_Qv (fun u : hSt => Q u) (hE D (fun u : hSt => hC N ad (bX cy ad) u)) (hA N ad sz)) 0 0 (hA N ad sz) := by
  refine Met.ofW (cc := cX1_takeUnit) (maxL := 4) (ret := none) (by decide) rfl ?_
  intro p e s m args below meth c s₁ B hml hv
  obtain ⟨rfl, hsz, hP, hK, hN1⟩ := hv
  have hx := B.exec
  have hb := B.bytes
  have hr := B.returns
  have hts := atoms_spec (ws := wsX1_takeUnit) B.pre
  have hown : s.vm.findClass RX1 = some m.cls := findClass_of_methodNamed B.named
  have hlocks := B.notSynchronized
  subst hsz
  have hS : va_S (hA N ad s.heap.size) s.heap s.heap [] := va_S.rf
  have hiX1 : ∀ w ∈ wsX10, w ∈ wsX1_takeUnit := fun _ h => List.mem_cons_of_mem _ (List.mem_append_left _ (List.mem_append_left _ (List.mem_append_left _ (List.mem_append_right _ h))))
  have hl := lv_entry ([.ref (ad 24), .int a1, .int a2, .int a3]) (n := 4) (Nat.le_of_ble_eq_true rfl)
  rw [lg_entry_eq]
  generalize (lg_sl ([.ref (ad 24), .int a1, .int a2, .int a3]) ++ List.replicate (4 - (lg_sl ([.ref (ad 24), .int a1, .int a2, .int a3])).length) Slot.unset).toArray = ls at hl ⊢
  have hl : lv_has ls 4 [(0, .ref (ad 24)), (1, .int a1), (2, .int a2), (3, .int a3)] := hl
  unfold wp_X1_takeUnit at hw
  refine lv_aload_n hx hb dX1_takeUnit_0 rfl (lv_at hl 0 rfl) ?_
  refine hw_get (v := .ref (ad 1)) hx hb hts hiX1 hown hK hP (Nat.lt_of_lt_of_le (by decide) hN) (bX_24 _) rfl 3 (by decide) (List.mem_of_getElem? (i := 1) rfl) rfl rfl dX1_takeUnit_1 ?_
  refine lv_iload_n hx hb dX1_takeUnit_4 rfl (lv_at hl 2 rfl) ?_
  refine hw_ki (va_runV (As := [.int a2]) (rest := []) ⟨hx, hb, hml, hown, hts⟩ (kc_X0_has l D cy N hN ad hJ0 σ _ a2 _ hw) (cwV 1 hts gX1_takeUnit_X0_has rfl rfl rfl (by decide +kernel) ⟨Nat.le_of_ble_eq_true rfl, Nat.le_of_ble_eq_true rfl⟩) (hw_preV hK hN1 hP (Nat.lt_of_lt_of_le (by decide) hN) (bX_1 _) rfl) rfl rfl hl.1 rfl (lv_room (Nat.le_of_ble_eq_true rfl)) dX1_takeUnit_5 ⟨Nat.zero_le _, Nat.zero_le _⟩) hS (fun r2 σ1 H locs hw hP hS => ?_)
  obtain ⟨hu_, hw⟩ := hw
  rw [hu_] at hP
  refine lv_if_ne (tgt := 18) hx hb dX1_takeUnit_8 (by decide) (fun c3 => ?_) (fun c3 => ?_)
  · have hw := hw.1 c3
    refine lv_aload_n hx hb dX1_takeUnit_18 rfl (lv_at hl 0 rfl) ?_
    refine lv_iload_n hx hb dX1_takeUnit_19 rfl (lv_at hl 1 rfl) ?_
    refine hw_kv (va_runV (As := [.int a1]) (rest := []) ⟨hx, hb, hml, hown, hts⟩ (kc_X1_addItem l D cy N hN ad hJ0 σ _ a1 _ hw) (cwV 1 hts gX1_takeUnit_X1_addItem rfl rfl rfl (by decide +kernel) ⟨Nat.le_of_ble_eq_true rfl, Nat.le_of_ble_eq_true rfl⟩) (hw_preV hK hN1 hP (Nat.lt_of_lt_of_le (by decide) hN) (bX_24 _) rfl) rfl rfl hl.1 rfl (lv_room (Nat.le_of_ble_eq_true rfl)) dX1_takeUnit_20 ⟨Nat.zero_le _, Nat.zero_le _⟩) hS (fun σ4 H locs hw hP hS => ?_)
    refine lv_aload_n hx hb dX1_takeUnit_23 rfl (lv_at hl 0 rfl) ?_
    refine lv_iconst (v := 0) hx hb dX1_takeUnit_24 (by decide) ?_
    refine hw_put (x := (0 : Int32)) (j := 9) hx hb hts hiX1 tyX1 tyX1_ok nmX1 hown hK hJ0 hP hS (Nat.lt_of_lt_of_le (by decide) hN) (bX_24 _) rfl (by decide) (List.mem_of_getElem? (i := 2) rfl) rfl rfl rfl rfl (Nat.le_of_ble_eq_true rfl) (by rw [bX_24]; rfl) dX1_takeUnit_25 (fun H locs hP hS => ?_)
    exact hw_vret hx hb hr hlocks ((hup σ4 24 9 (0 : Int32))) hw hP hS dX1_takeUnit_28
  have hw := hw.2 c3
  refine lv_aload_n hx hb dX1_takeUnit_11 rfl (lv_at hl 0 rfl) ?_
  refine lv_iconst (v := 3) hx hb dX1_takeUnit_12 (by decide) ?_
  refine lv_iload_n hx hb dX1_takeUnit_13 rfl (lv_at hl 3 rfl) ?_
  refine hw_kv (va_runU (As := [.int (3 : Int32), .int a3]) (rest := []) ⟨hx, hb, hml, hown, hts⟩ (kc_X10_refuse_r24 l D cy N hN ad hJ0 σ _ (3 : Int32) a3 _ hw) (va_cwU 2 hts gX1_takeUnit_X10_refuse_u76X1 rfl rfl rfl rfl (by decide +kernel) ⟨Nat.le_of_ble_eq_true rfl, Nat.le_of_ble_eq_true rfl⟩) (hw_preV hK hN1 hP (Nat.lt_of_lt_of_le (by decide) hN) (bX_24 _) rfl) rfl rfl hl.1 rfl (lv_room (Nat.le_of_ble_eq_true rfl)) dX1_takeUnit_14 ⟨Nat.zero_le _, Nat.zero_le _⟩) hS (fun σ5 H locs hw hP hS => ?_)
  exact hw_vret hx hb hr hlocks (σ5) hw hP hS dX1_takeUnit_17
set_option maxHeartbeats 4000000 in
set_option maxRecDepth 100000 in
theorem kc_X1_openGroup (l : Launch) (D : va_G) (cy : Nat → ClassId) (N : Nat) (hN : 38 ≤ N) (ad : Nat → Nat) (hJ0 : hJ N ad) (σ : hSt) (sz : Nat) (a1 : Int32) (Q : hSt → Prop) (hw : wp_X1_openGroup a1 σ Q) : Met l yX1_openGroup wsX1_openGroup ({ frames := 2, cells := 0, slots := 0, locals := 43 } : Room) (va_Pc [.ref (ad 24), .int a1] (hB D cy (hC N ad (bX cy ad) σ) sz)) (va_Qv (fun u : hSt => Q u) (hE D (fun u : hSt => hC N ad (bX cy ad) u)) (hA N ad sz)) 0 0 (hA N ad sz) := by
  refine Met.ofW (cc := cX1_openGroup) (maxL := 2) (ret := none) (by decide) rfl ?_
  intro p e s m args below meth c s₁ B hml hv
  obtain ⟨rfl, hsz, hP, hK, hN1⟩ := hv
  have hx := B.exec
  have hb := B.bytes
  have hr := B.returns
  have hts := atoms_spec (ws := wsX1_openGroup) B.pre
  have hown : s.vm.findClass RX1 = some m.cls := findClass_of_methodNamed B.named
  have hlocks := B.notSynchronized
  subst hsz
  have hS : va_S (hA N ad s.heap.size) s.heap s.heap [] := va_S.rf
  have hiX1 : ∀ w ∈ wsX10, w ∈ wsX1_openGroup := fun _ h => List.mem_cons_of_mem _ (List.mem_append_left _ (List.mem_append_right _ h))
  have hl := lv_entry ([.ref (ad 24), .int a1]) (n := 2) (Nat.le_of_ble_eq_true rfl)
  rw [lg_entry_eq]
  generalize (lg_sl ([.ref (ad 24), .int a1]) ++ List.replicate (2 - (lg_sl ([.ref (ad 24), .int a1])).length) Slot.unset).toArray = ls at hl ⊢
  have hl : lv_has ls 2 [(0, .ref (ad 24)), (1, .int a1)] := hl
  unfold wp_X1_openGroup at hw
  refine lv_aload_n hx hb dX1_openGroup_0 rfl (lv_at hl 0 rfl) ?_
  refine hw_get (v := .int (σ 24 8)) hx hb hts hiX1 hown hK hP (Nat.lt_of_lt_of_le (by decide) hN) (bX_24 _) rfl 8 (by decide) (List.mem_of_getElem? (i := 1) rfl) rfl rfl dX1_openGroup_1 ?_
  refine lv_iconst (v := 5) hx hb dX1_openGroup_4 (by decide) ?_
  refine lv_icmp_lt (tgt := 15) hx hb dX1_openGroup_5 (by decide) (fun c1 => ?_) (fun c1 => ?_)
  · have hw := hw.1 c1
    refine lv_aload_n hx hb dX1_openGroup_15 rfl (lv_at hl 0 rfl) ?_
    refine lv_dup hx hb dX1_openGroup_16 rfl ?_
    refine hw_get (v := .int (σ 24 8)) hx hb hts hiX1 hown hK hP (Nat.lt_of_lt_of_le (by decide) hN) (bX_24 _) rfl 8 (by decide) (List.mem_of_getElem? (i := 1) rfl) rfl rfl dX1_openGroup_17 ?_
    refine lv_iconst (v := 1) hx hb dX1_openGroup_20 (by decide) ?_
    refine lv_iadd hx hb dX1_openGroup_21 ?_
    refine hw_put (x := ((σ 24 8) + (1 : Int32))) (j := 8) hx hb hts hiX1 tyX1 tyX1_ok nmX1 hown hK hJ0 hP hS (Nat.lt_of_lt_of_le (by decide) hN) (bX_24 _) rfl (by decide) (List.mem_of_getElem? (i := 1) rfl) rfl rfl rfl rfl (Nat.le_of_ble_eq_true rfl) (by rw [bX_24]; rfl) dX1_openGroup_22 (fun H locs hP hS => ?_)
    refine lv_aload_n hx hb dX1_openGroup_25 rfl (lv_at hl 0 rfl) ?_
    refine lv_bipush (v := 40) hx hb dX1_openGroup_26 (by decide) ?_
    refine hw_kv (va_runV (As := [.int (40 : Int32)]) (rest := []) ⟨hx, hb, hml, hown, hts⟩ (kc_X1_addItem l D cy N hN ad hJ0 (hup σ 24 8 ((σ 24 8) + (1 : Int32))) _ (40 : Int32) _ hw) (cwV 1 hts gX1_openGroup_X1_addItem rfl rfl rfl (by decide +kernel) ⟨Nat.le_of_ble_eq_true rfl, Nat.le_of_ble_eq_true rfl⟩) (hw_preV hK hN1 hP (Nat.lt_of_lt_of_le (by decide) hN) (bX_24 _) rfl) rfl rfl hl.1 rfl (lv_room (Nat.le_of_ble_eq_true rfl)) dX1_openGroup_28 ⟨Nat.zero_le _, Nat.zero_le _⟩) hS (fun σ2 H locs hw hP hS => ?_)
    refine lv_aload_n hx hb dX1_openGroup_31 rfl (lv_at hl 0 rfl) ?_
    refine lv_iconst (v := 1) hx hb dX1_openGroup_32 (by decide) ?_
    refine hw_put (x := (1 : Int32)) (j := 9) hx hb hts hiX1 tyX1 tyX1_ok nmX1 hown hK hJ0 hP hS (Nat.lt_of_lt_of_le (by decide) hN) (bX_24 _) rfl (by decide) (List.mem_of_getElem? (i := 2) rfl) rfl rfl rfl rfl (Nat.le_of_ble_eq_true rfl) (by rw [bX_24]; rfl) dX1_openGroup_33 (fun H locs hP hS => ?_)
    exact hw_vret hx hb hr hlocks ((hup σ2 24 9 (1 : Int32))) hw hP hS dX1_openGroup_36
  have hw := hw.2 c1
  refine lv_aload_n hx hb dX1_openGroup_8 rfl (lv_at hl 0 rfl) ?_
  refine lv_iconst (v := 4) hx hb dX1_openGroup_9 (by decide) ?_
  refine lv_iload_n hx hb dX1_openGroup_10 rfl (lv_at hl 1 rfl) ?_
  refine hw_kv (va_runU (As := [.int (4 : Int32), .int a1]) (rest := []) ⟨hx, hb, hml, hown, hts⟩ (kc_X10_refuse_r24 l D cy N hN ad hJ0 σ _ (4 : Int32) a1 _ hw) (va_cwU 2 hts gX1_openGroup_X10_refuse_u76X1 rfl rfl rfl rfl (by decide +kernel) ⟨Nat.le_of_ble_eq_true rfl, Nat.le_of_ble_eq_true rfl⟩) (hw_preV hK hN1 hP (Nat.lt_of_lt_of_le (by decide) hN) (bX_24 _) rfl) rfl rfl hl.1 rfl (lv_room (Nat.le_of_ble_eq_true rfl)) dX1_openGroup_11 ⟨Nat.zero_le _, Nat.zero_le _⟩) hS (fun σ3 H locs hw hP hS => ?_)
  exact hw_vret hx hb hr hlocks (σ3) hw hP hS dX1_openGroup_14

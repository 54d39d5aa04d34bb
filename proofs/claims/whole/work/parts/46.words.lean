/-! What the law's start gives: the classes, the array classes, the links, the texts. -/
theorem st_iX0 : ∀ w ∈ wsX00, w ∈ wzL_law := fun _ h => List.mem_append_left _ (List.mem_append_left _ (List.mem_append_left _ (List.mem_append_left _ (List.mem_append_left _ (List.mem_append_left _ (List.mem_append_left _ (List.mem_append_left _ (List.mem_append_left _ (List.mem_append_left _ (List.mem_append_left _ (List.mem_append_left _ (List.mem_append_right _ h))))))))))))
theorem st_iX1 : ∀ w ∈ wsX10, w ∈ wzL_law := fun _ h => List.mem_append_left _ (List.mem_append_left _ (List.mem_append_left _ (List.mem_append_left _ (List.mem_append_left _ (List.mem_append_left _ (List.mem_append_left _ (List.mem_append_left _ (List.mem_append_right _ h))))))))
theorem st_iX2 : ∀ w ∈ wsX20, w ∈ wzL_law := fun _ h => List.mem_append_left _ (List.mem_append_left _ (List.mem_append_left _ (List.mem_append_left _ (List.mem_append_left _ (List.mem_append_right _ h)))))
theorem st_iX3 : ∀ w ∈ wsX30, w ∈ wzL_law := fun _ h => List.mem_append_left _ (List.mem_append_left _ (List.mem_append_left _ (List.mem_append_left _ (List.mem_append_left _ (List.mem_append_left _ (List.mem_append_left _ (List.mem_append_left _ (List.mem_append_left _ (List.mem_append_right _ h)))))))))
theorem st_iX4 : ∀ w ∈ wsX40, w ∈ wzL_law := fun _ h => List.mem_append_left _ (List.mem_append_left _ (List.mem_append_left _ (List.mem_append_left _ (List.mem_append_right _ h))))
theorem st_iX5 : ∀ w ∈ wsX50, w ∈ wzL_law := fun _ h => List.mem_append_left _ (List.mem_append_left _ (List.mem_append_left _ (List.mem_append_left _ (List.mem_append_left _ (List.mem_append_left _ (List.mem_append_left _ (List.mem_append_right _ h)))))))
theorem st_iX7 : ∀ w ∈ wsX70, w ∈ wzL_law := fun _ h => List.mem_append_left _ (List.mem_append_left _ (List.mem_append_left _ (List.mem_append_left _ (List.mem_append_left _ (List.mem_append_left _ (List.mem_append_right _ h))))))
theorem st_iX8 : ∀ w ∈ wsX80, w ∈ wzL_law := fun _ h => List.mem_append_left _ (List.mem_append_left _ (List.mem_append_left _ (List.mem_append_left _ (List.mem_append_left _ (List.mem_append_left _ (List.mem_append_left _ (List.mem_append_left _ (List.mem_append_left _ (List.mem_append_left _ (List.mem_append_left _ (List.mem_append_right _ h)))))))))))
theorem st_iX9 : ∀ w ∈ wsX90, w ∈ wzL_law := fun _ h => List.mem_append_left _ (List.mem_append_left _ (List.mem_append_left _ (List.mem_append_left _ (List.mem_append_left _ (List.mem_append_left _ (List.mem_append_left _ (List.mem_append_left _ (List.mem_append_left _ (List.mem_append_left _ (List.mem_append_right _ h))))))))))
theorem st_iX11 : ∀ w ∈ wsX110, w ∈ wzL_law := fun _ h => List.mem_append_left _ (List.mem_append_left _ (List.mem_append_left _ (List.mem_append_left _ (List.mem_append_left _ (List.mem_append_left _ (List.mem_append_left _ (List.mem_append_left _ (List.mem_append_left _ (List.mem_append_left _ (List.mem_append_left _ (List.mem_append_left _ (List.mem_append_left _ (List.mem_append_left _ (List.mem_append_right _ h))))))))))))))
theorem st_iX12 : ∀ w ∈ wsX120, w ∈ wzL_law := fun _ h => List.mem_append_left _ (List.mem_append_left _ (List.mem_append_left _ (List.mem_append_left _ (List.mem_append_left _ (List.mem_append_left _ (List.mem_append_left _ (List.mem_append_left _ (List.mem_append_left _ (List.mem_append_left _ (List.mem_append_left _ (List.mem_append_left _ (List.mem_append_left _ (List.mem_append_right _ h)))))))))))))
theorem st_D {s : State} {b : Nat} (hts : ∀ w ∈ wzL_law, w.before #[Value.ref b] s = true) : ∃ D : va_G, ∀ (c : Nat) (q : vw_C), vwCl[c]? = some q → u_Kn s q.1 q.2.1 q.2.2 (D.1 c) (D.2 c) := by
  obtain ⟨c0, i0, h0⟩ := u_known (C := RX0) (T := TX0) (N := 2) hts st_iX0 (hts (.instantiable RX0 2) (List.mem_of_getElem? (i := 16) rfl))
  obtain ⟨c1, i1, h1⟩ := u_known (C := RX1) (T := TX1) (N := 17) hts st_iX1 (hts (.instantiable RX1 17) (List.mem_of_getElem? (i := 32) rfl))
  obtain ⟨c2, i2, h2⟩ := u_known (C := RX2) (T := TX2) (N := 8) hts st_iX2 (hts (.instantiable RX2 8) (List.mem_of_getElem? (i := 49) rfl))
  obtain ⟨c3, i3, h3⟩ := u_known (C := RX3) (T := TX3) (N := 14) hts st_iX3 (hts (.instantiable RX3 14) (List.mem_of_getElem? (i := 28) rfl))
  obtain ⟨c4, i4, h4⟩ := u_known (C := RX4) (T := TX4) (N := 2) hts st_iX4 (hts (.instantiable RX4 2) (List.mem_of_getElem? (i := 885) (by decide +kernel)))
  obtain ⟨c5, i5, h5⟩ := u_known (C := RX5) (T := TX5) (N := 12) hts st_iX5 (hts (.instantiable RX5 12) (List.mem_of_getElem? (i := 36) rfl))
  obtain ⟨c6, i6, h6⟩ := u_known (C := RX7) (T := TX7) (N := 5) hts st_iX7 (hts (.instantiable RX7 5) (List.mem_of_getElem? (i := 40) rfl))
  obtain ⟨c7, i7, h7⟩ := u_known (C := RX8) (T := TX8) (N := 4) hts st_iX8 (hts (.instantiable RX8 4) (List.mem_of_getElem? (i := 19) rfl))
  obtain ⟨c8, i8, h8⟩ := u_known (C := RX9) (T := TX9) (N := 2) hts st_iX9 (hts (.instantiable RX9 2) (List.mem_of_getElem? (i := 22) rfl))
  obtain ⟨c9, i9, h9⟩ := u_known (C := RX11) (T := TX11) (N := 9) hts st_iX11 (hts (.instantiable RX11 9) (List.mem_of_getElem? (i := 1) rfl))
  obtain ⟨c10, i10, h10⟩ := u_known (C := RX12) (T := TX12) (N := 38) hts st_iX12 (hts (.instantiable RX12 38) (List.mem_of_getElem? (i := 4) rfl))
  refine ⟨(fun k => [c0, c1, c2, c3, c4, c5, c6, c7, c8, c9, c10].getD k c0, fun k => [i0, i1, i2, i3, i4, i5, i6, i7, i8, i9, i10].getD k i0), fun c q hq => ?_⟩
  match c, hq with
  | 0, hq => cases hq; exact h0
  | 1, hq => cases hq; exact h1
  | 2, hq => cases hq; exact h2
  | 3, hq => cases hq; exact h3
  | 4, hq => cases hq; exact h4
  | 5, hq => cases hq; exact h5
  | 6, hq => cases hq; exact h6
  | 7, hq => cases hq; exact h7
  | 8, hq => cases hq; exact h8
  | 9, hq => cases hq; exact h9
  | 10, hq => cases hq; exact h10
  | k + 11, hq => simp at hq
theorem st_arr {s : State} {args : Array Value} {ty : FieldType} (h : (Cond.arrayClass ty).before args s = true) (hn : ∀ cA, s.vm.findClass ("[" ++ ty.toString) = some cA → va_RA s cA ty) : ∃ cA, ArrOfT s cA ty ∧ va_RA s cA ty := by
  obtain ⟨c, k, comp, h1, h2, h3⟩ := Cond.arrayClass_spec h
  exact ⟨c, fun n z => ⟨fun k h => (by cases h), k, h2, comp, h3⟩, hn c h1⟩
theorem st_arrq {s : State} {args : Array Value} {C : String} (h : (Cond.arrayOver (.object C)).before args s = true) : ∃ cA, ArrOfT s cA (.object C) ∧ va_RA s cA (.object C) := by
  obtain ⟨comp, c, k, h1, -, h2, h3, h4⟩ := Cond.arrayOver_spec h
  exact ⟨c, fun n z => ⟨fun k h => (by cases h), k, h2, comp, h3⟩, k, comp, h2, h3, h1, h4⟩
theorem st_K {s : State} {b : Nat} (hts0 : ∀ w ∈ lw_tbl, w.before #[Value.ref b] s = true) : ∃ (D : va_G) (cy : Nat → ClassId), va_K D vwCl (hty cy) s := by
  have hts := wzL_law_hts hts0
  obtain ⟨D, hD⟩ := st_D hts
  obtain ⟨a0, h0⟩ := st_arr (ty := .int) (hts (.arrayClass .int) (List.mem_of_getElem? (i := 55) rfl)) (fun _ h => h)
  obtain ⟨a1, h1⟩ := st_arr (ty := .byte) (hts (.arrayClass .byte) (List.mem_of_getElem? (i := 75) rfl)) (fun _ h => h)
  obtain ⟨a2, h2⟩ := st_arrq (C := "BellTower$Method") (hts0 (.arrayOver (.object "BellTower$Method")) (mem_of_ix (ws := [.arrayOver (.object "BellTower$Method")]) [92] (by decide +kernel) _ List.mem_cons_self))
  obtain ⟨a3, h3⟩ := st_arr (ty := .long) (hts (.arrayClass .long) (List.mem_of_getElem? (i := 6) rfl)) (fun _ h => h)
  obtain ⟨a4, h4⟩ := st_arr (ty := .boolean) (hts (.arrayClass .boolean) (List.mem_of_getElem? (i := 168) rfl)) (fun _ h => h)
  refine ⟨D, fun k => [a0, a1, a2, a3, a4].getD k a0, hD, fun k q hq => ?_⟩
  match k, hq with
  | 0, hq => cases hq; exact h0
  | 1, hq => cases hq; exact h1
  | 2, hq => cases hq; exact h2
  | 3, hq => cases hq; exact h3
  | 4, hq => cases hq; exact h4
  | k + 5, hq => simp [hty] at hq
theorem st_N {s : State} {b : Nat} (hts0 : ∀ w ∈ lw_tbl, w.before #[Value.ref b] s = true) : hN_ s := by
  refine ⟨fun q hq => va_Nw.of rfl (hts0 _ (mem_of_ix (ws := hnl.map (fun (q : String × Nat × MethodName × String) => Cond.methodLinkNest q.1 q.2.1 q.2.2.1 q.2.2.2)) [809, 593, 517, 553, 489, 635, 684, 751, 1107, 1098, 698, 699, 762, 133, 153, 167, 94, 224, 175, 170] (by decide +kernel) _ (List.mem_map_of_mem hq))), fun x hx => va_Nw.of rfl (hts0 _ (mem_of_ix (ws := hdl.map Cond.declares) [431, 608, 615, 417, 447, 440, 462, 493] (by decide +kernel) _ (List.mem_map_of_mem hx)))⟩
theorem st_AO {s : State} {b : Nat} (hts0 : ∀ w ∈ lw_tbl, w.before #[Value.ref b] s = true) : va_AO "BellTower$Method" s := va_AO.of (A := #[Value.ref b]) (hts0 _ (mem_of_ix (ws := [.arrayOver (.object "BellTower$Method")]) [92] (by decide +kernel) _ List.mem_cons_self))
theorem st_T {s : State} {b : Nat} (hts0 : ∀ w ∈ lw_tbl, w.before #[Value.ref b] s = true) (hgv : (Jvm.Cond.and given_1 narrow_1).before #[Value.ref b] s = true) : hTh (fun q => s.heap.size ≤ q) s := by
  have hg := flat_of_before _ hgv
  have hg2 : ∀ w ∈ ([Cond.isRef (.static Bundle.tN "UNASSIGNED_STACK" Bundle.steD), Cond.isRef (.static Bundle.tN "SUPPRESSED_SENTINEL" Bundle.listD)] : List Cond), w.before #[Value.ref b] s = true := fun w hw => hg w (mem_of_ix [4, 5] (by decide +kernel) w hw)
  have ht2 : ∀ w ∈ ([Cond.laysStatic Bundle.tN "UNASSIGNED_STACK" Bundle.steD, Cond.laysStatic Bundle.tN "SUPPRESSED_SENTINEL" Bundle.listD, Cond.initialized Bundle.tN] : List Cond), w.before #[Value.ref b] s = true := fun w hw => hts0 w (mem_of_ix [849, 851, 68] (by decide +kernel) w hw)
  refine ⟨⟨fun q hq => ?_, fun E hE => va_tabs (A := #[Value.ref b]) (by first | rfl | simp [Cond.onTables, Cond.keeps, Cond.steady]) rfl (hts0 _ (mem_of_ix (ws := hxE.map (fun E => Cond.castable E E)) [928, 1053, 824] (by decide +kernel) _ (List.mem_map_of_mem hE))), fun x hx => va_tabs (A := #[Value.ref b]) (by first | rfl | simp [Cond.onTables, Cond.keeps, Cond.steady]) rfl (hts0 _ (mem_of_ix (ws := hxD.map Cond.declares) [826, 828, 830] (by decide +kernel) _ (List.mem_map_of_mem hx)))⟩, vx_Zqof (ht2 _ (List.mem_cons_self)) (ht2 _ (List.mem_of_getElem? (i := 2) rfl)) (hg2 _ List.mem_cons_self) (fun a h1 h2 => absurd h1 (by omega)), vx_Zqof (ht2 _ (List.mem_of_getElem? (i := 1) rfl)) (ht2 _ (List.mem_of_getElem? (i := 2) rfl)) (hg2 _ (List.mem_of_getElem? (i := 1) rfl)) (fun a h1 h2 => absurd h1 (by omega))⟩
  have e1 : (Cond.exactly (.string RX11 q.1) "java/lang/String").before #[Value.ref b] s = true := hg _ (mem_of_ix (ws := hstr.map (fun (q : Nat × String) => Cond.exactly (.string RX11 q.1) "java/lang/String")) [91, 120, 139, 166, 187, 220, 255, 63, 45] (by decide +kernel) _ (List.mem_map_of_mem (f := fun (q : Nat × String) => Cond.exactly (.string RX11 q.1) "java/lang/String") hq))
  have e2 : (Cond.stringRef RX11 q.1 q.2).before #[Value.ref b] s = true := hts0 _ (mem_of_ix (ws := hstr.map (fun (q : Nat × String) => Cond.stringRef RX11 q.1 q.2)) [942, 951, 972, 1028, 1033, 1041, 1060, 935, 863] (by decide +kernel) _ (List.mem_map_of_mem (f := fun (q : Nat × String) => Cond.stringRef RX11 q.1 q.2) hq))
  obtain ⟨sa, -, -, -, ha, -⟩ := Cond.exactly_spec e1
  exact ⟨sa, vk_R.of e2 ha⟩
theorem st_Nc {s : State} {b : Nat} (hgv : (Jvm.Cond.and given_1 narrow_1).before #[Value.ref b] s = true) : va_Nc "java/util/NoSuchElementException" "java/lang/IllegalArgumentException" s := va_Nc.of (flat_of_before _ hgv _ (mem_of_ix (ws := [Cond.not (.castable "java/util/NoSuchElementException" "java/lang/IllegalArgumentException")]) [43] (by decide +kernel) _ List.mem_cons_self))

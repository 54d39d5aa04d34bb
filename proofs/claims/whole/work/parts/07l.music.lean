/-! music: one object more, the 39th cell, while it runs -/
def adq (ad : Nat → Nat) (q : Nat) : Nat → Nat := fun k => if k = 38 then q else ad k
def s38 (σ : hSt) : hSt := fun k => if k = 38 then (fun _ => 0) else σ k
theorem bX_ad {cy : Nat → ClassId} {ad ad2 : Nat → Nat} (h : ∀ j, j ≠ 38 → ad2 j = ad j) {k : Nat} (hk : k < 38) (ρ : Nat → Int32) : bX cy ad2 k ρ = bX cy ad k ρ := by
  have hm : (fun i => some (ad2 (5 + 2 * i))) = (fun i => some (ad (5 + 2 * i))) := funext fun i => by rw [h _ (by omega)]
  have h2 : ∀ k, k ≤ 36 → fsX2 ad2 k ρ = fsX2 ad k ρ := fun k hk => by simp only [fsX2]; rw [h _ (by omega)]
  unfold bX
  split
  case _ => simp only [fsX11]; rw [h 19 (by decide), h 1 (by decide), h 17 (by decide), h 21 (by decide), h 24 (by decide), h 31 (by decide), h 35 (by decide)]
  case _ => simp only [fsX0]; rw [h 2 (by decide), h 3 (by decide)]
  case _ => rw [hm]
  all_goals first
    | rfl
    | (rw [h2 _ (by decide)])
    | (simp only [fsX8]; rw [h 18 (by decide)])
    | (simp only [fsX9]; rw [h 20 (by decide)])
    | (simp only [fsX3]; rw [h 22 (by decide)])
    | (simp only [fsX1]; rw [h 1 (by decide), h 25 (by decide), h 26 (by decide), h 27 (by decide), h 28 (by decide), h 29 (by decide), h 30 (by decide)])
    | (simp only [fsX5]; rw [h 1 (by decide), h 17 (by decide), h 32 (by decide), h 33 (by decide), h 34 (by decide)])
    | (simp only [fsX7]; rw [h 17 (by decide), h 36 (by decide), h 37 (by decide)])
theorem hm_C {cy : Nat → ClassId} {ad : Nat → Nat} {q : Nat} {σ τ : hSt} (h : ∀ k, k < 38 → τ k = σ k) : hC 39 (adq ad q) (bX cy (adq ad q)) τ = hC 38 ad (bX cy ad) σ ++ [(q, bX cy (adq ad q) 38 (τ 38))] := by
  unfold hC
  rw [List.range_succ, List.map_append]
  congr 1
  apply List.map_congr_left
  intro k hk
  have hk2 : k < 38 := List.mem_range.mp hk
  have e : adq ad q k = ad k := by unfold adq; rw [if_neg (by omega)]
  rw [e, h k hk2, bX_ad (fun j hj => by unfold adq; rw [if_neg hj]) hk2]
theorem hm_in {D : va_G} {cy : Nat → ClassId} {ad : Nat → Nat} {q : Nat} {σ : hSt} {H : Heap} (h : va_P D vwCl (hC 38 ad (bX cy ad) σ ++ [(q, .inr (4, [.int 0, .int 0]))]) H) : va_P D vwCl (hC 39 (adq ad q) (bX cy (adq ad q)) (s38 σ)) H := by
  rw [hm_C (σ := σ) (τ := s38 σ) (fun k hk => by unfold s38; rw [if_neg (by omega)])]
  exact h
theorem hm_out {D : va_G} {cy : Nat → ClassId} {ad ad9 : Nat → Nat} {q : Nat} {σ : hSt} {H : Heap} (h9 : ad9 = adq ad q) (h : va_P D vwCl (hC 39 ad9 (bX cy ad9) σ) H) : va_P D vwCl (hC 38 ad (bX cy ad) σ) H := by
  subst h9
  rw [hm_C (σ := σ) (τ := σ) (fun _ _ => rfl)] at h
  intro k x hx
  exact h k x (by rw [List.getElem?_append_left (List.getElem?_eq_some_iff.mp hx).1]; exact hx)
theorem hm_J {A : Nat → Prop} {cy : Nat → ClassId} {ad : Nat → Nat} {q : Nat} {σ : hSt} (hD : va_D A (hC 38 ad (bX cy ad) σ ++ [(q, .inr (4, [.int 0, .int 0]))])) : hJ 39 (adq ad q) := by
  have e : hC 38 ad (bX cy ad) σ ++ [(q, .inr (4, [.int 0, .int 0]))] = hC 39 (adq ad q) (bX cy (adq ad q)) (s38 σ) := (hm_C (σ := σ) (τ := s38 σ) (fun k hk => by unfold s38; rw [if_neg (by omega)])).symm
  rw [e] at hD
  intro i j hi hj he
  exact hD.1 i j _ _ (hC_get hi) (hC_get hj) he
theorem hm_A {ad : Nat → Nat} {q sz : Nat} (h : sz ≤ q) : hA 39 (adq ad q) sz = hA 38 ad sz := by
  funext x
  apply propext
  constructor
  · rintro (⟨k, hk, rfl⟩ | h2)
    · by_cases e : k = 38
      · subst e; exact Or.inr (by unfold adq; rw [if_pos rfl]; exact h)
      · exact Or.inl ⟨k, by omega, by unfold adq; rw [if_neg e]⟩
    · exact Or.inr h2
  · rintro (⟨k, hk, rfl⟩ | h2)
    · exact Or.inl ⟨k, by omega, by unfold adq; rw [if_neg (by omega)]⟩
    · exact Or.inr h2
def hBO (D : va_G) (cy : Nat → ClassId) (ws : va_W) (sz : Nat) : State → Prop := fun U => hB D cy ws sz U ∧ va_AO "BellTower$Method" U
theorem hBO_blind {D : va_G} {cy : Nat → ClassId} {ws : va_W} {sz : Nat} {av : List Value} : FrameBlind (va_Pc av (hBO D cy ws sz)) := fun a U g mk q => by
  obtain ⟨q0, ⟨q1, qP, qK, qN⟩, qA⟩ := q
  exact ⟨q0, ⟨q1, qP, va_K.moved (u := U) (U := U.calling g mk a) (Vm.Alike.refl U.vm) qK, qN.calling⟩, va_AO.moved (u := U) (Vm.Alike.refl U.vm) qA⟩
def wp_X11_music (σ : hSt) (Q : Int32 → hSt → Prop) : Prop :=
  (wp_X4_read ((s38 σ) 0 0) (s38 σ) (fun r2 σ1 => (wp_X9_cut (0 : Int32) σ1 (fun σ3 => ((r2 = 0 → (Q (-1 : Int32) σ3)) ∧ (¬ r2 = 0 → (wp_X5_fitting σ3 (fun r6 => (Q r6 σ3)))))))))
set_option maxHeartbeats 4000000 in
set_option maxRecDepth 100000 in
theorem kc_X11_music (l : Launch) (D : va_G) (cy : Nat → ClassId) (ad : Nat → Nat) (hJ0 : hJ 38 ad) (σ : hSt) (sz : Nat) (Q : Int32 → hSt → Prop) (hw : wp_X11_music σ Q) : Met l yX11_music wsX11_music ({ frames := 3, cells := 1, slots := 2, locals := 74 } : Room) (va_Pc [.ref (ad 0)] (hBO D cy (hC 38 ad (bX cy ad) σ) sz)) (va_Qi (fun (r : Int32) (u : hSt) => Q r u) (hE D (fun u : hSt => hC 38 ad (bX cy ad) u)) (hA 38 ad sz)) 1 2 (hA 38 ad sz) := by
  refine Met.ofW (cc := cX11_music) (maxL := 3) (ret := (some .int)) (by decide) rfl ?_
  intro p e s m args below meth c s₁ B hml hv
  obtain ⟨rfl, ⟨hsz, hP, hK, hN1⟩, hO⟩ := hv
  have hx := B.exec
  have hb := B.bytes
  have hr := B.returns
  have hts := atoms_spec (ws := wsX11_music) B.pre
  have hown : s.vm.findClass RX11 = some m.cls := findClass_of_methodNamed B.named
  have hlocks := B.notSynchronized
  subst hsz
  have hS : va_S (hA 38 ad s.heap.size) s.heap s.heap [] := va_S.rf
  have hD : va_D (hA 38 ad s.heap.size) (hC 38 ad (bX cy ad) σ) := hD_of hJ0
  have hA9 : ∀ q, s.heap.size ≤ q → hA 38 ad s.heap.size q := fun q h => Or.inr h
  have hiX4 : ∀ w ∈ wsX40, w ∈ wsX11_music := fun _ h => List.mem_cons_of_mem _ (List.mem_append_left _ (List.mem_append_left _ (List.mem_append_left _ (List.mem_append_left _ (List.mem_append_left _ (List.mem_append_right _ h))))))
  have hiX11 : ∀ w ∈ wsX110, w ∈ wsX11_music := fun _ h => List.mem_cons_of_mem _ (List.mem_append_left _ (List.mem_append_left _ (List.mem_append_left _ (List.mem_append_left _ (List.mem_append_right _ h)))))
  have hl := lv_entry ([.ref (ad 0)]) (n := 3) (Nat.le_of_ble_eq_true rfl)
  rw [lg_entry_eq]
  generalize (lg_sl ([.ref (ad 0)]) ++ List.replicate (3 - (lg_sl ([.ref (ad 0)])).length) Slot.unset).toArray = ls at hl ⊢
  have hl : lv_has ls 3 [(0, .ref (ad 0))] := hl
  unfold wp_X11_music at hw
  refine va_new (ci := 4) (fs := [.int 0, .int 0]) (C := RX4) (T := TX4) (N := 2) hx hb hts hiX4 tyX4 tyX4_ok hown (hts (.classLink RX11 230 RX4) (List.mem_of_getElem? (i := 1) rfl)) (hts (.instantiable RX4 2) (List.mem_of_getElem? (i := 2) rfl)) (hts (.initialized RX4) (List.mem_of_getElem? (i := 3) rfl)) hK hP hD hS hA9 rfl (fun j hj => by rcases (show j = 0 ∨ j = 1 by omega) with rfl | rfl <;> rfl) (Nat.le_of_ble_eq_true rfl) (Nat.le_of_ble_eq_true rfl) dX11_music_0 (fun q H hP hD hS => ?_)
  refine W.widen (k := 1) (n := 2) (Nat.le_of_ble_eq_true rfl) (Nat.le_of_ble_eq_true rfl) ?_
  refine lv_dup hx hb dX11_music_3 rfl ?_
  have hPc := hP.sub (ws' := [(q, .inr (4, [.int 0, .int 0]))]) [38] rfl
  have hDc := hD.sub (ws' := [(q, .inr (4, [.int 0, .int 0]))]) [38] (by decide) rfl
  refine hc_call (wc := [(q, .inr (4, [.int 0, .int 0]))]) (wr := hC 38 ad (bX cy ad) σ) hP hD hA9 [38] [0, 1, 2, 3, 4, 5, 6, 7, 8, 9, 10, 11, 12, 13, 14, 15, 16, 17, 18, 19, 20, 21, 22, 23, 24, 25, 26, 27, 28, 29, 30, 31, 32, 33, 34, 35, 36, 37] rfl rfl (by decide) (by decide) (va_runIN (As := []) (rest := [.ref q]) ⟨hx, hb, hml, hown, hts⟩ (kc_X4_init l D cy q _) ⟨va_cnB 0 hts gX11_music_X4_init_n232 rfl rfl rfl (hN1.at 12 rfl) (hts (.initialized RX4) (List.mem_of_getElem? (i := 3) rfl)) (by decide +kernel) ⟨Nat.le_of_ble_eq_true rfl, Nat.le_of_ble_eq_true rfl⟩, rfl, hts (.instanceMethod yX4_init) (List.mem_of_getElem? (i := 7) rfl)⟩ (hc_pre hK hN1 hO hPc hDc) rfl rfl hl.1 rfl (lv_room (Nat.le_of_ble_eq_true rfl)) dX11_music_4 ⟨Nat.le_of_ble_eq_true rfl, Nat.le_of_ble_eq_true rfl⟩) hS (fun w1 H locs hw0 hP hD hS => ?_)
  subst hw0
  have hq : s.heap.size ≤ q := by
    have z := hD.2 38 _ rfl
    rcases z with ⟨k9, hk9, e9⟩ | z
    · have z1 := hD.1 k9 38 _ _ (by rw [List.getElem?_append_left (by rw [hC_len]; exact hk9)]; exact hC_get hk9) rfl e9.symm
      omega
    · exact z
  have hJ9 := hm_J hD
  have hP := hm_in hP
  have e39 := hm_A (ad := ad) hq
  obtain ⟨ad9, h9⟩ : ∃ z, z = adq ad q := ⟨_, rfl⟩
  rw [← h9] at hP hJ9 e39
  have hS := e39.symm ▸ hS
  have h90 : ad9 0 = ad 0 := by rw [h9]; rfl
  have h938 : ad9 38 = q := by rw [h9]; rfl
  rw [← h90] at hl
  refine W.eq (g2 := F0 m 7 ls [.ref (ad9 38)]) (by rw [h938]) ?_
  refine lv_astore_n (lv' := [(1, .ref (ad9 38)), (0, .ref (ad9 0))]) hx hb dX11_music_7 rfl hl (by decide) rfl (fun ls hl => ?_)
  refine lv_aload_n hx hb dX11_music_8 rfl (lv_at hl 0 rfl) ?_
  refine lv_aload_n hx hb dX11_music_9 rfl (lv_at hl 1 rfl) ?_
  refine hw_get (v := .ref (ad9 19)) hx hb hts hiX11 hown hK hP (Nat.lt_of_lt_of_le (by decide) (Nat.le_refl 39)) (bX_0 _) rfl 2 (by decide) (List.mem_of_getElem? (i := 4) rfl) rfl rfl dX11_music_10 ?_
  refine lv_aload_n hx hb dX11_music_13 rfl (lv_at hl 1 rfl) ?_
  refine hw_get (v := .int ((s38 σ) 0 0)) hx hb hts hiX11 hown hK hP (Nat.lt_of_lt_of_le (by decide) (Nat.le_refl 39)) (bX_0 _) rfl 0 (by decide) (List.mem_of_getElem? (i := 5) rfl) rfl rfl dX11_music_14 ?_
  refine hw_ki (va_runV (As := [.ref (ad9 19), .int ((s38 σ) 0 0)]) (rest := []) ⟨hx, hb, hml, hown, hts⟩ (kc_X4_read l D cy 39 (Nat.le_refl 39) ad9 hJ9 (s38 σ) _ ((s38 σ) 0 0) _ hw) (cwV 2 hts gX11_music_X4_read rfl rfl rfl (by decide +kernel) ⟨Nat.le_of_ble_eq_true rfl, Nat.le_of_ble_eq_true rfl⟩) (hw_preV hK hN1 hP (Nat.lt_of_lt_of_le (by decide) (Nat.le_refl 39)) (bX_38 _) rfl) rfl rfl hl.1 rfl (lv_room (Nat.le_of_ble_eq_true rfl)) dX11_music_17 ⟨Nat.le_of_ble_eq_true rfl, Nat.le_of_ble_eq_true rfl⟩) hS (fun r2 σ1 H locs hw hP hS => ?_)
  refine lv_istore_n (lv' := [(2, .int r2), (1, .ref (ad9 38)), (0, .ref (ad9 0))]) hx hb dX11_music_20 rfl hl (by decide) rfl (fun ls hl => ?_)
  refine lv_aload_n hx hb dX11_music_21 rfl (lv_at hl 2 rfl) ?_
  refine hw_get (v := .ref (ad9 19)) hx hb hts hiX11 hown hK hP (Nat.lt_of_lt_of_le (by decide) (Nat.le_refl 39)) (bX_0 _) rfl 2 (by decide) (List.mem_of_getElem? (i := 4) rfl) rfl rfl dX11_music_22 ?_
  refine lv_iconst (v := 0) hx hb dX11_music_25 (by decide) ?_
  refine hw_kv (va_runV (As := [.int (0 : Int32)]) (rest := []) ⟨hx, hb, hml, hown, hts⟩ (kc_X9_cut l D cy 39 (by decide : 38 ≤ 39) ad9 hJ9 σ1 _ (0 : Int32) _ hw) (cwV 1 hts gX11_music_X9_cut rfl rfl rfl (by decide +kernel) ⟨Nat.le_of_ble_eq_true rfl, Nat.le_of_ble_eq_true rfl⟩) (hw_preV hK hN1 hP (Nat.lt_of_lt_of_le (by decide) (Nat.le_refl 39)) (bX_19 _) rfl) rfl rfl hl.1 rfl (lv_room (Nat.le_of_ble_eq_true rfl)) dX11_music_26 ⟨Nat.le_of_ble_eq_true rfl, Nat.le_of_ble_eq_true rfl⟩) hS (fun σ3 H locs hw hP hS => ?_)
  refine lv_iload_n hx hb dX11_music_29 rfl (lv_at hl 0 rfl) ?_
  refine lv_if_eq (tgt := 44) hx hb dX11_music_30 (by decide) (fun c4 => ?_) (fun c4 => ?_)
  · have hw := hw.1 c4
    refine lv_iconst (v := -1) hx hb dX11_music_44 (by decide) ?_
    exact hw_iret hx hb hr hlocks (σ3) hw (hm_out h9 hP) (e39 ▸ hS) dX11_music_45
  have hw := hw.2 c4
  refine lv_aload_n hx hb dX11_music_33 rfl (lv_at hl 2 rfl) ?_
  refine hw_get (v := .ref (ad9 31)) hx hb hts hiX11 hown hK hP (Nat.lt_of_lt_of_le (by decide) (Nat.le_refl 39)) (bX_0 _) rfl 7 (by decide) (List.mem_of_getElem? (i := 6) rfl) rfl rfl dX11_music_34 ?_
  refine lv_aload_n hx hb dX11_music_37 rfl (lv_at hl 1 rfl) ?_
  refine hw_ki (va_runV (As := [.ref (ad9 38)]) (rest := []) ⟨hx, hb, hml, hown, hts⟩ (kc_X5_fitting l D cy 39 (Nat.le_refl 39) ad9 hJ9 σ3 _  _ hw) (cwV 1 hts gX11_music_X5_fitting rfl rfl rfl (by decide +kernel) ⟨Nat.le_of_ble_eq_true rfl, Nat.le_of_ble_eq_true rfl⟩) (hw_preV hK hN1 hP (Nat.lt_of_lt_of_le (by decide) (Nat.le_refl 39)) (bX_31 _) rfl) rfl rfl hl.1 rfl (lv_room (Nat.le_of_ble_eq_true rfl)) dX11_music_38 ⟨Nat.le_of_ble_eq_true rfl, Nat.le_of_ble_eq_true rfl⟩) hS (fun r6 σ5 H locs hw hP hS => ?_)
  obtain ⟨hu_, hw⟩ := hw
  rw [hu_] at hP
  refine lv_goto (tgt := 45) hx hb dX11_music_41 (by decide) ?_
  exact hw_iret hx hb hr hlocks (σ3) hw (hm_out h9 hP) (e39 ▸ hS) dX11_music_45

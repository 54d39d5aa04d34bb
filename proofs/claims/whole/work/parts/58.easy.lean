/-! count, stage, lead, head, course, line. -/
abbrev lawT (k b t : Int32) (v : Int64) (P : Prop) : Prop := (t = k → ((¬ k = 0 → P) ∧ (k = 0 → ((lg_cmp v b.toInt64 = 0 → P) ∧ (¬ lg_cmp v b.toInt64 = 0 → False))))) ∧ (¬ t = k → False)
theorem lg_cmp_self (x : Int64) : lg_cmp x x = 0 := by
  unfold lg_cmp
  rw [if_neg (by simp), if_pos rfl]
theorem lawT_ret {b t : Int32} {v : Int64} {P : Prop} (ht : t = 0) (hv : v = b.toInt64) (h : P) : lawT 0 b t v P := by
  subst ht hv
  exact ⟨fun _ => ⟨fun _ => h, fun _ => ⟨fun _ => h, fun z => z (lg_cmp_self _)⟩⟩, fun z => z rfl⟩
theorem lawT_thr {k b t : Int32} {v : Int64} {P : Prop} (hk : ¬ k = 0) (ht : t = k) (h : P) : lawT k b t v P :=
  ⟨fun _ => ⟨fun _ => h, fun z => absurd z hk⟩, fun z => z ht⟩
theorem updL0 {f : Nat → Int64} {x : Int64} : vp_updL f 0 x 0 = x := pk_uLs
theorem oneIf_0 {Q : Int32 → Prop} (h : Q 0) : wp_X11_oneIf 0 Q := by unfold wp_X11_oneIf; exact ⟨fun _ => h, fun z => absurd rfl z⟩
theorem oneIf_1 {Q : Int32 → Prop} (h : Q 1) : wp_X11_oneIf 1 Q := by unfold wp_X11_oneIf; exact ⟨fun z => absurd z (by decide), fun _ => h⟩
theorem c_count {B : Nat} {σ τ : hSt} {w : Nat → Int64} {a1 : Int32} (h : RI B σ τ) : wp_X11_count a1 σ (fun r => wp_X12_count a1 τ w (fun r2 τ1 => lawE r r2 (RI B σ τ1))) := by
  have h0 := h
  obtain ⟨n, Ks, μs, L, lm, lc, tz, -, -, ⟨z1, z2, z3, z4, z5⟩, ⟨t1, t2, t3, t4⟩, hM, -⟩ := h0
  have hh : RI B σ (hup τ 0 0 0) := h.th
  unfold wp_X11_count wp_X12_count wp_X9_size wp_X7_looked
  intro x hx
  subst hx
  have g : ∀ j, j ≠ 0 → (hup τ 0 0 0) 0 j = τ 0 j := fun j hj => by rw [hup_at, if_neg hj]
  rw [g 37 (by decide), g 8 (by decide), g 1 (by decide)]
  refine ⟨fun e => ?_, fun e0 => ⟨fun e => ?_, fun e1 => ⟨fun e => ?_, fun e2 => ⟨fun e => ?_, fun e3 => ?_⟩⟩⟩⟩
  · subst e; exact br_y (by decide) (br_x rfl (lawE_of (by rw [z1, z2]) hh))
  · subst e
    refine hL2_in (fun v1 v2 => ∃ i, i ≤ 6 ∧ v2 = nI i ∧ v1 = nI (nb (fun m => decide (0 < Ks m)) i)) (fun _ v2 => 6 - v2.toNatClampNeg) ?_ ⟨0, by decide, rfl, rfl⟩
    rintro P _ _ ⟨i, hi, rfl, rfl⟩ ih
    refine pk_le 6 i (fun z => ?_) (fun z => ?_) rfl rfl
    · have e6 : i = 6 := by omega
      subst e6
      refine br_x rfl ?_
      refine hL2_in (fun v1 v2 => ∃ i, i ≤ 6 ∧ v2 = nI i ∧ v1 = nI (nb (fun m => decide (0 < Ks m)) i)) (fun _ v2 => 6 - v2.toNatClampNeg) ?_ ⟨0, by decide, rfl, rfl⟩
      rintro P2 _ _ ⟨i, hi, rfl, rfl⟩ ih2
      refine pk_le 6 i (fun z => ?_) (fun z => ?_) rfl rfl
      · have e6 : i = 6 := by omega
        subst e6
        exact lawE_of rfl hh
      · refine ⟨vp_in_nI z (by decide), ?_⟩
        rw [nI_clamp (by omega), hup_ne _ _ (by decide)]
        obtain ⟨v1, -, v2⟩ := hM i z
        have h64 := v1.1
        refine pk_le (Ks i) 0 (fun q => ?_) (fun q => ?_) v2.1 rfl
        · intro x hx y hy
          rw [show (0 : Int32) = nI 0 from rfl, nI_add] at hx
          rw [nI_suc] at hy
          subst hx hy
          refine ih2 _ _ ⟨i + 1, by omega, rfl, ?_⟩ (by rw [nI_clamp (by omega), nI_clamp (by omega)]; omega)
          show _ = nI (nb _ i + (if decide (0 < Ks i) = true then 1 else 0))
          rw [if_neg (by simp; omega)]
        · intro x hx y hy
          rw [nI_suc] at hx hy
          subst hx hy
          refine ih2 _ _ ⟨i + 1, by omega, rfl, ?_⟩ (by rw [nI_clamp (by omega), nI_clamp (by omega)]; omega)
          show _ = nI (nb _ i + (if decide (0 < Ks i) = true then 1 else 0))
          rw [if_pos (by simp; omega)]
    · refine s_has z5 hM (fun m hm e hK => ?_) (fun e => ?_)
      · have em := (nI_eq (by omega) (by omega)).mp e
        subst em
        refine oneIf_1 ?_
        intro x hx y hy
        rw [nI_suc] at hx hy
        subst hx hy
        refine ih _ _ ⟨i + 1, by omega, rfl, ?_⟩ (by rw [nI_clamp (by omega), nI_clamp (by omega)]; omega)
        show _ = nI (nb _ i + (if decide (0 < Ks i) = true then 1 else 0))
        rw [if_pos (by simp; omega)]
      · have hK : ¬ 0 < Ks i := fun q => e ((tld_m z).mpr q)
        refine oneIf_0 ?_
        intro x hx y hy
        rw [show (0 : Int32) = nI 0 from rfl, nI_add] at hx
        rw [nI_suc] at hy
        subst hx hy
        refine ih _ _ ⟨i + 1, by omega, rfl, ?_⟩ (by rw [nI_clamp (by omega), nI_clamp (by omega)]; omega)
        show _ = nI (nb _ i + (if decide (0 < Ks i) = true then 1 else 0))
        rw [if_neg (by simp; omega)]
  · subst e; exact br_y (by decide) (br_y (by decide) (br_x rfl (lawE_of (by rw [t2, t3]) hh)))
  · subst e; exact br_y (by decide) (br_y (by decide) (br_y (by decide) (br_x rfl (lawE_of z4 hh))))
  · exact br_y e1 (br_y e0 (br_y e2 (br_y e3 (lawE_of rfl hh))))
theorem i6l {m : Nat} (h : m < 6) : m = 0 ∨ m = 1 ∨ m = 2 ∨ m = 3 ∨ m = 4 ∨ m = 5 := by omega
theorem c_lead {B : Nat} {σ τ : hSt} {w f : Nat → Int64} {a1 a2 : Int32} (h : RI B σ τ) : wp_L_lead a1 a2 σ f (fun k σ1 f1 => wp_X12_lead a1 a2 τ w (fun b τ1 => wp_X12_thrown τ1 w (fun t => lawT k b t (f1 0) (RI B σ1 τ1)))) := by
  have h0 := h
  obtain ⟨n, Ks, μs, L, lm, lc, tz, hn4, hn, ⟨z1, z2, z3, z4, z5⟩, hT, hM, -⟩ := h0
  have thr : ∀ (f1 : Nat → Int64), (¬ tld Ks a1 ∨ a2 < 0 ∨ ∃ m, m < 6 ∧ a1 = nI m ∧ 0 < Ks m ∧ ¬ a2 ≤ nI (Ks m)) → wp_X12_lead a1 a2 τ w (fun b τ1 => wp_X12_thrown τ1 w (fun t => lawT 1 b t (f1 0) (RI B σ τ1))) := fun f1 hc => by
    unfold wp_X12_lead
    have go : wp_X12_throwsIf 1 1 τ w (fun r5 σ4 => ((r5 = 0 → (wp_X12_rounds 14 σ4 w (fun σ7 => (hL2 (fun P59 (v3_8 : Int32) (σ9 : hSt) => ((a2 ≤ v3_8 → (wp_X12_number 14 σ9 w (fun r12 => (wp_X12_thrown σ9 w (fun t => lawT 1 r12 t (f1 0) (RI B σ σ9)))))) ∧ (¬ a2 ≤ v3_8 → (vp_in (((66 : Int32) * a1) + v3_8) 396 ∧ (wp_X12_ring 14 (σ9 2 ((((66 : Int32) * a1) + v3_8)).toNatClampNeg) σ9 w (fun σ14 => (∀ x3_15 : Int32, x3_15 = v3_8 + (1 : Int32) → (P59 x3_15 σ14)))))))) (0 : Int32) σ7)))) ∧ (¬ r5 = 0 → (wp_X12_thrown σ4 w (fun t => lawT 1 0 t (f1 0) (RI B σ σ4)))))) := by
      refine t_tI1 ?_
      refine br_f (by decide) ?_
      unfold wp_X12_thrown
      exact lawT_thr (by decide) (by rw [hup_at, if_pos rfl]) h.th
    refine t_isTold hM (fun m hm e hK => ?_) (fun hno => ?_)
    · dsimp only [hM_]
      refine br_f (by decide) ⟨fun _ => go, fun hneg => ?_⟩
      refine t_isTold hM (fun m hm e hK => ?_) (fun hno => absurd ⟨m, hm, e, hK⟩ hno)
      subst e
      refine br_f (by decide) ⟨vp_in_nI hm (by decide), ?_⟩
      rw [nI_clamp (by omega), (hM m hm).2.2.1]
      rcases hc with hc | hc | ⟨m', hm', e', -, hc⟩
      · exact absurd ⟨m, hm, rfl, hK⟩ hc
      · exact absurd hc hneg
      · have := (nI_eq (by omega) (by omega)).mp e'
        subst this
        exact br_f hc go
    · dsimp only [hM_]
      exact br_t rfl go
  unfold wp_L_lead wp_X11_lead
  refine s_toldM z5 hM (fun m hm e hK => ?_) (fun hno => ⟨rfl, thr f (Or.inl hno)⟩)
  subst e
  obtain ⟨hv, hc, hr⟩ := hM m hm
  have h64 := hv.1
  refine ⟨fun hneg => ⟨rfl, thr f (Or.inr (Or.inl hneg))⟩, fun hneg => ?_⟩
  obtain ⟨k, hk31, rfl⟩ := nI_of hneg
  unfold wp_X2_size
  rw [hc.1]
  refine ⟨fun hle => ?_, fun hgt => ⟨rfl, thr f (Or.inr (Or.inr ⟨m, hm, rfl, hK, hgt⟩))⟩⟩
  have hkK : k ≤ Ks m := (nI_leI hk31 (by omega)).mp hle
  rw [z1]
  refine s_rounds hn ?_
  refine s_rowFrom hn (by rcases i6l hm with rfl | rfl | rfl | rfl | rfl | rfl <;> rfl) hv hc.1 (hc.2 hK).2.1 hkK (fun i hi => by show i < 8; omega) ?_
  have hR := rwn_PR hv hkK
  refine s_told hn (hR.lt8 hn) ?_
  -- the reference
  unfold wp_X12_lead
  refine t_isTold hM (fun m' hm' e' hK' => ?_) (fun hno => absurd ⟨m, hm, rfl, hK⟩ hno)
  dsimp only [hM_]
  refine br_f (by decide) (br_f hneg ?_)
  refine t_isTold hM (fun m' hm' e' hK' => ?_) (fun hno => absurd ⟨m, hm, rfl, hK⟩ hno)
  refine br_f (by decide) ⟨vp_in_nI hm (by decide), ?_⟩
  rw [nI_clamp (by omega), hr.1]
  refine br_t hle (t_tI0 (br_t rfl ?_))
  have y0 : (hup τ 0 0 0) 0 1 = nI n := by rw [hup_at, if_neg (by decide)]; exact z2
  have yM : rM (hup τ 0 0 0) m (Ks m) (μs m) := hr.mv (hup_n _ _ _ (by decide)) (hup_n _ _ _ (by decide))
  refine t_rounds hn (by decide) y0 (fun τ1 o1 r1 => ?_)
  refine hL2_in (fun v3 τ2 => ∃ j, j ≤ k ∧ v3 = nI j ∧ oth 14 (hup τ 0 0 0) τ2 ∧ aR τ2 14 n (rwn n (μs m) j)) (fun v3 _ => k - v3.toNatClampNeg) ?_ ⟨0, Nat.zero_le _, rfl, o1, r1⟩
  rintro P _ τ2 ⟨j, hj, rfl, ho, hb⟩ ih
  have e0 : τ2 0 1 = nI n := by rw [ho 0 (by decide)]; exact y0
  have eM : rM τ2 m (Ks m) (μs m) := yM.mv (ho 1 (by decide)) (ho 2 (by decide))
  refine pk_le k j (fun z => ?_) (fun z => ?_) rfl rfl
  · have ej : j = k := by omega
    subst ej
    refine t_number hn e0 hb ?_
    unfold wp_X12_thrown
    refine lawT_ret (by rw [ho 0 (by decide), hup_at, if_pos rfl]) updL0 (h.th.y (ho.kp (by decide)))
  · obtain ⟨-, g2, g3⟩ := ix66 hm (k := j) (by omega)
    refine ⟨g2, ?_⟩
    rw [g3, eM.2 j (Or.inl (by omega)) hK]
    have hx := hv.2 j (Or.inl (by omega))
    refine t_ring hn (by decide) hx.1 (by omega) e0 hb (fun τ' ho' ha' => ?_)
    intro x hx
    rw [nI_suc] at hx
    subst hx
    exact ih _ _ ⟨j + 1, by omega, rfl, ho.tr ho', ha'⟩ (by rw [nI_clamp (by omega), nI_clamp (by omega)]; omega)
theorem c_head {B : Nat} {σ τ : hSt} {w f : Nat → Int64} {a1 a2 : Int32} (h : RI B σ τ) : wp_L_head a1 a2 σ f (fun k σ1 f1 => wp_X12_head a1 a2 τ w (fun b τ1 => wp_X12_thrown τ1 w (fun t => lawT k b t (f1 0) (RI B σ1 τ1)))) := by
  have h0 := h
  obtain ⟨n, Ks, μs, L, lm, lc, tz, hn4, hn, ⟨z1, z2, z3, z4, z5⟩, hT, hM, -⟩ := h0
  have thr : ∀ (f1 : Nat → Int64), (¬ tld Ks a1 ∨ a2 < 0 ∨ ¬ a2 ≤ 2) → wp_X12_head a1 a2 τ w (fun b τ1 => wp_X12_thrown τ1 w (fun t => lawT 1 b t (f1 0) (RI B σ τ1))) := fun f1 hc => by
    unfold wp_X12_head
    have go : wp_X12_throwsIf 1 1 τ w (fun r5 σ4 => ((r5 = 0 → (wp_X12_rounds 14 σ4 w (fun σ7 => (wp_X12_ringLead 14 a1 a2 σ7 w (fun σ8 => (wp_X12_number 14 σ8 w (fun r10 => (wp_X12_thrown σ8 w (fun t => lawT 1 r10 t (f1 0) (RI B σ σ8)))))))))) ∧ (¬ r5 = 0 → (wp_X12_thrown σ4 w (fun t => lawT 1 0 t (f1 0) (RI B σ σ4)))))) := by
      refine t_tI1 ?_
      refine br_f (by decide) ?_
      unfold wp_X12_thrown
      exact lawT_thr (by decide) (by rw [hup_at, if_pos rfl]) h.th
    refine t_isTold hM (fun m hm e hK => ?_) (fun hno => ?_)
    · dsimp only [hM_]
      refine br_f (by decide) ⟨fun _ => go, fun hneg => ⟨fun hle => ?_, fun _ => go⟩⟩
      rcases hc with hc | hc | hc
      · exact absurd ⟨m, hm, e, hK⟩ hc
      · exact absurd hc hneg
      · exact absurd hle hc
    · dsimp only [hM_]
      exact br_t rfl go
  unfold wp_L_head wp_X11_head
  refine s_toldM z5 hM (fun m hm e hK => ?_) (fun hno => ⟨rfl, thr f (Or.inl hno)⟩)
  subst e
  obtain ⟨hv, hc, hr⟩ := hM m hm
  have h64 := hv.1
  refine ⟨fun hneg => ⟨rfl, thr f (Or.inr (Or.inl hneg))⟩, fun hneg => ?_⟩
  refine ⟨fun hle => ?_, fun hgt => ⟨rfl, thr f (Or.inr (Or.inr hgt))⟩⟩
  obtain ⟨c, hc2, rfl⟩ := nI_of2 (M := 2) (n := 2) (by decide) hneg hle
  rw [z1]
  refine s_rounds hn ?_
  refine s_following hn hv hc hK hc2 (fun i hi => by show i < 8; omega) ?_
  have hR := hdn_PR hv hK hc2
  refine s_told hn (hR.lt8 hn) ?_
  unfold wp_X12_head
  refine t_isTold hM (fun m' hm' e' hK' => ?_) (fun hno => absurd ⟨m, hm, rfl, hK⟩ hno)
  dsimp only [hM_]
  refine br_f (by decide) (br_f hneg (br_t hle (t_tI0 (br_t rfl ?_))))
  have y0 : (hup τ 0 0 0) 0 1 = nI n := by rw [hup_at, if_neg (by decide)]; exact z2
  have yM : rM (hup τ 0 0 0) m (Ks m) (μs m) := hr.mv (hup_n _ _ _ (by decide)) (hup_n _ _ _ (by decide))
  refine t_rounds hn (by decide) y0 (fun τ1 o1 r1 => ?_)
  have e1 : τ1 0 1 = nI n := by rw [o1 0 (by decide)]; exact y0
  refine t_ringLead hn (by decide) hm hc2 hK hv e1 (yM.mv (o1 1 (by decide)) (o1 2 (by decide))) r1 (fun τ2 o2 r2 => ?_)
  have e2 : τ2 0 1 = nI n := by rw [o2 0 (by decide)]; exact e1
  refine t_number hn e2 r2 ?_
  unfold wp_X12_thrown
  exact lawT_ret (by rw [o2 0 (by decide), o1 0 (by decide), hup_at, if_pos rfl]) updL0 (h.th.y ((o1.tr o2).kp (by decide)))
theorem c_course {B : Nat} {σ τ : hSt} {w f : Nat → Int64} {a1 : Int32} (h : RI B σ τ) : wp_L_course a1 σ f (fun k σ1 f1 => wp_X12_course a1 τ w (fun b τ1 => wp_X12_thrown τ1 w (fun t => lawT k b t (f1 0) (RI B σ1 τ1)))) := by
  have h0 := h
  obtain ⟨n, Ks, μs, L, lm, lc, tz, hn4, hn, ⟨z1, z2, z3, z4, z5⟩, hT, hM, -⟩ := h0
  unfold wp_L_course wp_X11_course wp_X12_course
  refine s_toldM z5 hM (fun m hm e hK => ?_) (fun hno => ⟨rfl, ?_⟩)
  · subst e
    obtain ⟨hv, hc, hr⟩ := hM m hm
    obtain ⟨t, ht⟩ := ord_ex hn (hdn_PR hv hK (c := 0) (by decide))
    refine s_courseLeads hn hv hK hc ht ?_
    refine t_isTold hM (fun m' hm' e' hK' => ?_) (fun hno => absurd ⟨m, hm, rfl, hK⟩ hno)
    dsimp only [hM_]
    refine br_y (by decide) (t_tI0 (br_t rfl ?_))
    have y0 : (hup τ 0 0 0) 0 1 = nI n := by rw [hup_at, if_neg (by decide)]; exact z2
    have yM : rM (hup τ 0 0 0) m (Ks m) (μs m) := hr.mv (hup_n _ _ _ (by decide)) (hup_n _ _ _ (by decide))
    refine t_courseOf hn hm hK hv y0 yM ht (fun τ1 o1 => ?_)
    unfold wp_X12_thrown
    exact lawT_ret (by rw [o1 0 (by decide), hup_at, if_pos rfl]) updL0 (h.th.y (o1.kp (by decide)))
  · refine t_isTold hM (fun m' hm' e' hK' => absurd ⟨m', hm', e', hK'⟩ hno) (fun _ => ?_)
    dsimp only [hM_]
    refine br_x rfl (t_tI1 (br_f (by decide) ?_))
    unfold wp_X12_thrown
    exact lawT_thr (by decide) (by rw [hup_at, if_pos rfl]) h.th

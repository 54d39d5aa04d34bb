theorem RI.o38 {B : Nat} {σ σ' τ : hSt} (h : RI B σ τ) (o : oth 38 σ σ') : RI B σ' τ := by
  obtain ⟨n, Ks, μs, L, lm, lc, tz, h1, h2, ⟨z1, z2, z3, z4, z5⟩, ⟨t1, t2, t3, t4⟩, hM, hL, hOK, ⟨x1, x2, x3, x4, x5⟩, hY, hP, tp, s1, s2, s3⟩ := h
  refine ⟨n, Ks, μs, L, lm, lc, tz, h1, h2, ⟨?_, z2, ?_, ?_, ?_⟩, ⟨t1, ?_, t3, fun i hi => ?_⟩, fun m hm => ?_, hL, hOK, ⟨?_, ?_, ?_, ?_, fun k hk => ?_⟩, hY, ?_, tp, s1, ?_, fun r hr => ?_⟩
  · rw [o 0 (by decide)]; exact z1
  · rw [o 0 (by decide)]; exact z3
  · rw [o 35 (by decide)]; exact z4
  · rw [o 3 (by decide)]; exact z5
  · rw [o 19 (by decide)]; exact t2
  · rw [o 20 (by decide)]; exact t4 i hi
  · obtain ⟨m1, m2, m3⟩ := hM m hm
    exact ⟨m1, m2.mv (o _ (by omega)) (o _ (by omega)), m3⟩
  · rw [o 31 (by decide)]; exact x1
  · rw [o 31 (by decide)]; exact x2
  · rw [o 31 (by decide)]; exact x3
  · rw [o 31 (by decide)]; exact x4
  · rw [o 32 (by decide), o 33 (by decide), o 34 (by decide)]; exact x5 k hk
  · unfold rP; rw [o 31 (by decide)]; exact hP
  · rw [o 17 (by decide)]; exact s2
  · rw [o 18 (by decide)]; exact s3 r hr
theorem rLx.mv4 {σ σ' : hSt} {n L : Nat} {Ks : Nat → Nat} {μs : Nat → Nat → Nat} {lm lc : Nat → Nat} (h : rLx σ n Ks μs L lm lc) (hk : ∀ k, 31 ≤ k → k ≤ 34 → σ' k = σ k) : rLx σ' n Ks μs L lm lc := by
  unfold rLx
  rw [hk 31 (by decide) (by decide), hk 32 (by decide) (by decide), hk 33 (by decide) (by decide), hk 34 (by decide) (by decide)]
  exact h
theorem s_fitting {σ : hSt} {n tz free L : Nat} {bt : Nat → Nat} {Ks : Nat → Nat} {μs : Nat → Nat → Nat} {lm lc : Nat → Nat} (hn : n ≤ 8) (hM : ∀ m, m < 6 → vM n (Ks m) (μs m) ∧ cM σ (5 + 2 * m) n (Ks m) (μs m)) (hL : L ≤ 1000) (hOK : lOK Ks lm lc L) (hX : rLx σ n Ks μs L lm lc) (hok : ∀ i, i < tz → okb n bt i) (hend : cpl bt free tz ≤ n) (hm0 : σ 38 0 = nI (encR n (Mfn bt free tz))) (hm1 : σ 38 1 = nI (encR n (Vfn bt free tz))) {Q : Int32 → Prop}
    (hQ : Q (nI (nb (fun t => fitB bt free tz (TT n Ks μs L lm lc t)) (FR Ks lm L)))) : wp_X5_fitting σ Q := by
  have hV : ∀ m, m < 6 → vM n (Ks m) (μs m) := fun m hm => (hM m hm).1
  obtain ⟨x1, x2, x3, x4, x5⟩ := hX
  have hT : ∀ i k, i < L → k < Ks (lm i) → TT n Ks μs L lm lc (FR Ks lm i + k) = fun x => HL n Ks μs lm lc i (rwn n (μs (lm i)) k x) := fun i k hi hk => by
    have e := TT_is (n := n) (Ks := Ks) (lm := lm) (L := L) (μs := μs) (lc := lc) (q := 0) hi hk
    rw [Nat.zero_mul, Nat.zero_add] at e
    exact e
  unfold wp_X5_fitting
  generalize hF : (fun t => fitB bt free tz (TT n Ks μs L lm lc t)) = F at hQ
  refine hL2_in (fun v2 v3 => ∃ i, i ≤ L ∧ v3 = nI i ∧ v2 = nI (nb F (FR Ks lm i))) (fun _ v3 => L - v3.toNatClampNeg) ?_ ⟨0, Nat.zero_le _, rfl, rfl⟩
  rintro P _ _ ⟨i, hi, rfl, rfl⟩ ih
  refine pk_le L i (fun z => ?_) (fun z => ?_) x2 rfl
  · have e : i = L := by omega
    subst e; exact hQ
  · obtain ⟨l1, l2, l3⟩ := hOK i z
    obtain ⟨m1, m2, m3⟩ := x5 i z
    have hv := hV _ l1
    have h64 := hv.1
    have hH := HL_PR hV hOK (k := i) (by omega)
    unfold wp_X5_letterOf
    refine s_cell (by decide) (show i < 1000 by omega) ?_
    rw [m1, show (3 : Int32) = nI 3 from rfl, pk_div (by omega) (by decide) (by decide), (lcall l2).1]
    refine s_at l1 ?_
    unfold wp_X5_headOf
    refine s_cell (by decide) (show i < 1000 by omega) ?_
    rw [m2]
    have hcM := (hM _ l1).2
    refine hL3_in (fun v2 v5 v6 => ∃ k, k ≤ Ks (lm i) ∧ v6 = nI k ∧ v5 = nI (encR n (fun x => HL n Ks μs lm lc i (rwn n (μs (lm i)) k x))) ∧ v2 = nI (nb F (FR Ks lm i + k))) (fun _ _ v6 => Ks (lm i) - v6.toNatClampNeg) ?_ ⟨0, Nat.zero_le _, rfl, rfl, rfl⟩
    rintro P2 _ _ _ ⟨k, hk, rfl, rfl, rfl⟩ ih2
    unfold wp_X2_size
    refine pk_le (Ks (lm i)) k (fun z2 => ?_) (fun z2 => ?_) hcM.1 rfl
    · have e : k = Ks (lm i) := by omega
      subst e
      intro x hx
      rw [nI_suc] at hx
      subst hx
      exact ih _ _ ⟨i + 1, by omega, rfl, rfl⟩ (by rw [nI_clamp (by omega), nI_clamp (by omega)]; omega)
    · have hR := hH.comp (rwn_PR hv (k := k) (by omega))
      have hFt : F (FR Ks lm i + k) = fitB bt free tz (fun x => HL n Ks μs lm lc i (rwn n (μs (lm i)) k x)) := by rw [← hF]; show fitB bt free tz (TT n Ks μs L lm lc (FR Ks lm i + k)) = _; rw [hT i k z z2]
      have hns : nb F (FR Ks lm i + (k + 1)) = nb F (FR Ks lm i + k) + (if F (FR Ks lm i + k) = true then 1 else 0) := rfl
      have nx : ∀ v, v = nI (nb F (FR Ks lm i + (k + 1))) → wp_X2_changeAt (5 + 2 * lm i) (nI k) σ (fun r24 => (wp_X6_changed (nI (encR n (fun x => HL n Ks μs lm lc i (rwn n (μs (lm i)) k x)))) r24 (fun r26 => (∀ x6_27 : Int32, x6_27 = nI k + (1 : Int32) → (P2 v r26 x6_27))))) := fun v hv2 => by
        subst hv2
        refine s_changeAt (by rcases i6l l1 with e | e | e | e | e | e <;> rw [e] <;> rfl) hv hcM z2 ?_
        refine s_changed hn (hR.lt8 hn) (hv.2 k (Or.inl z2)).1 ?_
        intro x hx
        rw [nI_suc] at hx
        subst hx
        exact ih2 _ _ _ ⟨k + 1, by omega, rfl, rfl, rfl⟩ (by rw [nI_clamp (by omega), nI_clamp (by omega)]; omega)
      unfold wp_X4_fits
      rw [hm0, hm1, fa_and, enc_and (hR.lt8 hn) (fun p => Mfn_8 tz p)]
      have h24 : encR n (fun p => if Mfn bt free tz p = 7 then (fun x => HL n Ks μs lm lc i (rwn n (μs (lm i)) k x)) p else 0) < 16777216 := encR_lt24 hn (fun p hp => by
        show (if _ then _ else _) < 8
        split
        · exact hR.lt8 hn p hp
        · decide)
      have h24' : encR n (Vfn bt free tz) < 16777216 := encR_lt24 hn (fun p _ => Vfn_8 hok hn p)
      have hif : encR n (fun p => if Mfn bt free tz p = 7 then (fun x => HL n Ks μs lm lc i (rwn n (μs (lm i)) k x)) p else 0) = encR n (Vfn bt free tz) ↔ fitP bt free tz (fun x => HL n Ks μs lm lc i (rwn n (μs (lm i)) k x)) := by
        rw [← Mfn_fit hend]
        constructor
        · intro e
          refine encR_inj (fun p hp => ?_) (fun p _ => Vfn_8 hok hn p) e
          show (if _ then _ else _) < 8
          split
          · exact hR.lt8 hn p hp
          · decide
        · intro e; exact encR_congr e
      refine pk_en (encR n (fun p => if Mfn bt free tz p = 7 then (fun x => HL n Ks μs lm lc i (rwn n (μs (lm i)) k x)) p else 0)) (encR n (Vfn bt free tz)) (fun q => oneIf_0 ?_) (fun q => oneIf_1 ?_) rfl rfl (Nat.lt_trans h24 (by decide)) (Nat.lt_trans h24' (by decide))
      · have hno : F (FR Ks lm i + k) = false := by
          cases e : F (FR Ks lm i + k) with
          | false => rfl
          | true => rw [hFt] at e; exact absurd (hif.mpr (fitB_iff.mp e)) q
        rw [hno] at hns
        intro x hx
        exact nx x (by rw [hx, hns, show (0 : Int32) = nI 0 from rfl, nI_add]; rfl)
      · have hyes : F (FR Ks lm i + k) = true := by rw [hFt]; exact fitB_iff.mpr (hif.mp q)
        rw [hyes] at hns
        intro x hx
        exact nx x (by rw [hx, hns, nI_suc]; rfl)
theorem c_music {B : Nat} {σ τ : hSt} {w : Nat → Int64} (h : RI B σ τ) : wp_X11_music σ (fun r σ1 => wp_X12_music τ w (fun r2 τ1 => lawE r r2 (RI B σ1 τ1))) := by
  have h0 := h
  obtain ⟨n, Ks, μs, L, lm, lc, tz, hn4, hn, ⟨z1, z2, z3, z4, z5⟩, hT, hM, hL, hOK, hX, hY, -⟩ := h0
  have hV := hM.v
  have hFL := FR_le hV hOK (Nat.le_refl L)
  obtain ⟨bt, hbt⟩ := hT.bt
  obtain ⟨tz5, t1, t8, -⟩ := hT
  have o38 : oth 38 σ (s38 σ) := fun k hk => by unfold s38; rw [if_neg hk]
  -- both ends
  have fin : ∀ σ1 τ1, oth 38 σ σ1 → (∀ k, k ≠ 0 → k ≠ 14 → k ≠ 18 → τ1 k = τ k) → (∀ j, j ≠ 33 → j ≠ 8 → j ≠ 0 → τ1 0 j = τ 0 j) → τ1 0 8 = 0 → RI B (hup σ1 19 1 0) τ1 := fun σ1 τ1 o k j e8 => by
    have hh : RI B σ1 τ := h.o38 o
    have hk : kpT τ (hup τ 0 8 0) := ⟨fun k p _ => hup_n _ _ _ p, fun j p _ => by rw [hup_at, if_neg p]⟩
    have hh2 : RI B (hup σ1 19 1 0) (hup τ 0 8 0) := hh.tape (fun k p _ => hup_n _ _ _ p) hk (fun z hz => ⟨0, by decide, by rw [hup_at, if_pos rfl]; rfl, by rw [hup_at, if_pos rfl]; rfl, fun i hi => absurd hi (Nat.not_lt_zero i)⟩)
    refine hh2.y ⟨fun c p q => ?_, ?_, ?_, ?_, ?_, ?_⟩
    · rw [k c (by omega) (by omega) (by omega), hup_n _ _ _ (by omega)]
    · rw [j 1 (by decide) (by decide) (by decide), hup_at, if_neg (by decide)]
    · rw [j 6 (by decide) (by decide) (by decide), hup_at, if_neg (by decide)]
    · rw [e8, hup_at, if_pos rfl]
    · rw [j 11 (by decide) (by decide) (by decide), hup_at, if_neg (by decide)]
    · rw [j 37 (by decide) (by decide) (by decide), hup_at, if_neg (by decide)]
  -- the reference
  have ref : ∀ (σ1 : hSt) (r : Int32), oth 38 σ σ1 → (¬ gpat n bt tz → r = -1) → (gpat n bt tz → r = nI (nb (fun t => fitB bt (n - (tz - sts bt tz)) tz (TT n Ks μs L lm lc t)) (FR Ks lm L))) → wp_X12_music τ w (fun r2 τ1 => lawE r r2 (RI B (hup σ1 19 1 0) τ1)) := fun σ1 r o hr0 hr1 => by
    unfold wp_X12_music
    intro x hx
    rw [hup_at, if_neg (by decide), t8] at hx
    subst hx
    have y0 : (hup (hup τ 0 0 0) 0 8 0) 0 1 = nI n := by rw [hup_at, if_neg (by decide), hup_at, if_neg (by decide)]; exact z2
    have yk : ∀ k, k ≠ 0 → (hup (hup τ 0 0 0) 0 8 0) k = τ k := fun k hk => by rw [hup_n _ _ _ hk, hup_n _ _ _ hk]
    have yj : ∀ j, j ≠ 8 → j ≠ 0 → (hup (hup τ 0 0 0) 0 8 0) 0 j = τ 0 j := fun j p q => by rw [hup_at, if_neg p, hup_at, if_neg q]
    have y8 : (hup (hup τ 0 0 0) 0 8 0) 0 8 = 0 := by rw [hup_at, if_pos rfl]
    refine t_isPattern hn4 hn tz5 y0 (fun i hi => ⟨(hbt i hi).1, by rw [yk 5 (by decide)]; exact (hbt i hi).2.2⟩) (fun g τ2 k2 j2 hst => ?_) (fun g τ2 k2 j2 => ?_)
    rotate_left
    · refine br_x rfl (lawE_of (hr0 g) ?_)
      exact fin σ1 τ2 o (fun k p q r => by rw [k2 k p r, yk k p]) (fun j p q r => by rw [j2 j p, yj j q r]) (by rw [j2 8 (by decide)]; exact y8)
    · refine br_y (by decide) ?_
      have e2 : τ2 0 1 = nI n := by rw [j2 1 (by decide)]; exact y0
      refine t_rounds hn (by decide) e2 (fun τ3 o3 r3 => ?_)
      have K2 : ∀ τ4, oth 14 τ2 τ4 → (∀ k, k ≠ 0 → k ≠ 14 → k ≠ 18 → τ4 k = τ k) ∧ (∀ j, j ≠ 33 → j ≠ 8 → j ≠ 0 → τ4 0 j = τ 0 j) ∧ τ4 0 8 = 0 ∧ τ4 0 33 = τ2 0 33 := fun τ4 o4 => ⟨fun k p q r => by rw [o4 k q, k2 k p r, yk k p], fun j p q r => by rw [o4 0 (by decide), j2 j p, yj j q r], by rw [o4 0 (by decide), j2 8 (by decide)]; exact y8, by rw [o4 0 (by decide)]⟩
      generalize hF : (fun t => fitB bt (n - (tz - sts bt tz)) tz (TT n Ks μs L lm lc t)) = F at hr1
      refine hL3_in (fun v2 v3 τ4 => ∃ i, i ≤ L ∧ v3 = nI i ∧ v2 = nI (nb F (FR Ks lm i)) ∧ oth 14 τ2 τ4 ∧ aR τ4 14 n (HL n Ks μs lm lc i)) (fun _ v3 _ => L - v3.toNatClampNeg) ?_ ⟨0, Nat.zero_le _, rfl, rfl, o3, r3⟩
      rintro P _ _ τ4 ⟨i, hi, rfl, rfl, o4, r4⟩ ih
      obtain ⟨q1, q2, q3, q4⟩ := K2 τ4 o4
      refine pk_le L i (fun z => ?_) (fun z => ?_) (show τ4 0 6 = nI L by rw [q2 6 (by decide) (by decide) (by decide)]; exact hY.1) rfl
      · have e : i = L := by omega
        subst e
        exact lawE_of (hr1 g) (fin σ1 τ4 o q1 q2 q3)
      · obtain ⟨l1, l2, l3⟩ := hOK i z
        obtain ⟨n1, n2⟩ := hY.2 i z
        have hv := hV _ l1
        have h64 := hv.1
        have hH := HL_PR hV hOK (k := i) (by omega)
        refine ⟨vp_in_nI (by omega) (by decide), ?_⟩
        intro x hx
        rw [nI_clamp (by omega), q1 3 (by decide) (by decide) (by decide), n1] at hx
        subst hx
        refine hL3_in (fun v2 v5 τ5 => ∃ k, k ≤ Ks (lm i) ∧ v5 = nI k ∧ v2 = nI (nb F (FR Ks lm i + k)) ∧ oth 14 τ2 τ5 ∧ aR τ5 14 n (fun x => HL n Ks μs lm lc i (rwc n (Ks (lm i)) (μs (lm i)) (lc i) k x))) (fun _ v5 _ => Ks (lm i) - v5.toNatClampNeg) ?_ ⟨0, Nat.zero_le _, rfl, rfl, o4, r4.congr (fun x _ => by rw [rwc_lt l3]; rfl)⟩
        rintro P2 _ _ τ5 ⟨k, hk, rfl, rfl, o5, r5⟩ ih2
        obtain ⟨p1, p2, p3, p4⟩ := K2 τ5 o5
        have M5 : rM τ5 (lm i) (Ks (lm i)) (μs (lm i)) := (hM _ l1).2.2.mv (p1 1 (by decide) (by decide) (by decide)) (p1 2 (by decide) (by decide) (by decide))
        have e5 : τ5 0 1 = nI n := by rw [o5 0 (by decide)]; exact e2
        have hin6 : vp_in (nI (lm i)) 6 := vp_in_nI l1 (by decide)
        refine ⟨hin6, ?_⟩
        rw [nI_clamp (by omega)]
        refine pk_le (Ks (lm i)) k (fun z2 => ?_) (fun z2 => ?_) M5.1 rfl
        · have e : k = Ks (lm i) := by omega
          subst e
          intro x hx
          rw [nI_suc] at hx
          subst hx
          exact ih _ _ _ ⟨i + 1, by omega, rfl, rfl, o5, r5.congr (fun x _ => by rw [rwc_K]; rfl)⟩ (by rw [nI_clamp (by omega), nI_clamp (by omega)]; omega)
        · have hR := hH.comp (rwn_PR hv (k := k) (by omega))
          have r5' : aR τ5 14 n (fun x => HL n Ks μs lm lc i (rwn n (μs (lm i)) k x)) := r5.congr (fun x _ => by rw [rwc_lt z2])
          have eT : TT n Ks μs L lm lc (FR Ks lm i + k) = fun x => HL n Ks μs lm lc i (rwn n (μs (lm i)) k x) := by
            have e := TT_is (n := n) (Ks := Ks) (lm := lm) (L := L) (μs := μs) (lc := lc) (q := 0) z z2
            rw [Nat.zero_mul, Nat.zero_add] at e
            exact e
          have hFt : F (FR Ks lm i + k) = fitB bt (n - (tz - sts bt tz)) tz (fun x => HL n Ks μs lm lc i (rwn n (μs (lm i)) k x)) := by rw [← hF]; show fitB bt _ tz (TT n Ks μs L lm lc (FR Ks lm i + k)) = _; rw [eT]
          have hns : nb F (FR Ks lm i + (k + 1)) = nb F (FR Ks lm i + k) + (if F (FR Ks lm i + k) = true then 1 else 0) := rfl
          have hx := hv.2 _ (chm_rel z2 l2)
          have go : ∀ τ', oth 14 τ5 τ' → aR τ' 14 n (fun x => HL n Ks μs lm lc i (rwn n (μs (lm i)) k (b_pm n (μs (lm i) (chm (Ks (lm i)) k (lc i))) x))) → P2 (nI (nb F (FR Ks lm i + (k + 1)))) (nI (k + 1)) τ' := fun τ' o' a' => ih2 _ _ _ ⟨k + 1, by omega, rfl, rfl, o5.tr o', a'.congr (fun x _ => by rw [rwc_suc z2, rwc_lt z2])⟩ (by rw [nI_clamp (by omega), nI_clamp (by omega)]; omega)
          have rest : ∀ v : Int32, v = nI (nb F (FR Ks lm i + (k + 1))) → (vp_in (nI (lm i)) 6 ∧ (((τ5 1 (lm i)) ≤ (nI k + (1 : Int32)) → (vp_in (nI i) 1000 ∧ (wp_X12_last (nI (lm i)) (τ5 4 (nI i).toNatClampNeg) τ5 w (fun r26 => (wp_X12_ring 14 r26 τ5 w (fun σ27 => (∀ x5_28 : Int32, x5_28 = nI k + (1 : Int32) → (P2 v x5_28 σ27)))))))) ∧ (¬ (τ5 1 (lm i)) ≤ (nI k + (1 : Int32)) → (vp_in (((66 : Int32) * nI (lm i)) + nI k) 396 ∧ (wp_X12_ring 14 (τ5 2 ((((66 : Int32) * nI (lm i)) + nI k)).toNatClampNeg) τ5 w (fun σ30 => (∀ x5_31 : Int32, x5_31 = nI k + (1 : Int32) → (P2 v x5_31 σ30)))))))) := fun v hv2 => by
            subst hv2
            refine ⟨hin6, ?_⟩
            refine pk_le (Ks (lm i)) (k + 1) (fun z4 => ?_) (fun z4 => ?_) M5.1 (nI_suc k)
            · refine ⟨vp_in_nI (by omega) (by decide), ?_⟩
              rw [nI_clamp (by omega), p1 4 (by decide) (by decide) (by decide), n2]
              refine t_last l1 l2 l3 hv M5 ?_
              have ec : chm (Ks (lm i)) k (lc i) = lst (Ks (lm i)) (lc i) := by unfold chm; rw [if_pos (by omega)]
              rw [← ec]
              refine t_ring hn (by decide) hx.1 (by omega) e5 r5' (fun τ' o' a' => ?_)
              intro x hx
              rw [nI_suc] at hx
              subst hx
              exact go τ' o' a'
            · obtain ⟨-, g2, g3⟩ := ix66 l1 (k := k) (by omega)
              refine ⟨g2, ?_⟩
              have ec : chm (Ks (lm i)) k (lc i) = k := by unfold chm; rw [if_neg (by omega)]
              rw [g3, M5.2 k (Or.inl z2) l3]
              rw [ec] at hx go
              refine t_ring hn (by decide) hx.1 (by omega) e5 r5' (fun τ' o' a' => ?_)
              intro x hx
              rw [nI_suc] at hx
              subst hx
              exact go τ' o' a'
          have hst5 : stI τ5 tz bt := by unfold stI; rw [p4]; exact hst
          refine t_fits hn4 hn tz5 e5 (fun j hj => ⟨(hbt j hj).1, by rw [p1 5 (by decide) (by decide) (by decide)]; exact (hbt j hj).2.2⟩) g hst5 hR r5' (fun q => ?_) (fun q => ?_)
          · have hyes : F (FR Ks lm i + k) = true := by rw [hFt]; exact fitB_iff.mpr q
            rw [hyes] at hns
            dsimp only [hM_]
            refine br_f (by decide) ?_
            intro x hx
            exact rest x (by rw [hx, hns, nI_suc]; rfl)
          · have hno : F (FR Ks lm i + k) = false := by
              cases e : F (FR Ks lm i + k) with
              | false => rfl
              | true => rw [hFt] at e; exact absurd (fitB_iff.mp e) q
            rw [hno] at hns
            dsimp only [hM_]
            refine br_t rfl ?_
            intro x hx
            exact rest x (by rw [hx, hns, show (0 : Int32) = nI 0 from rfl, nI_add]; rfl)
  -- the class
  unfold wp_X11_music
  rw [show s38 σ 0 0 = nI n by rw [o38 0 (by decide)]; exact z1]
  have hb0 : ∀ i, i < tz → bt i < 256 ∧ (s38 σ) 20 i = bI (bt i) := fun i hi => ⟨(hbt i hi).1, by rw [o38 20 (by decide)]; exact (hbt i hi).2.1⟩
  refine s_read hn tz5 (by rw [o38 19 (by decide)]; exact t1) hb0 ⟨by unfold s38; rw [if_pos rfl], by unfold s38; rw [if_pos rfl]⟩ (fun g σ1 o1 m0 m1 => ?_) (fun g => ?_)
  · have oo := o38.tr o1
    unfold wp_X9_cut
    refine br_f (by decide) ?_
    have k3 : ∀ k, k ≠ 19 → k ≠ 38 → (hup σ1 19 1 0) k = σ k := fun k p q => by rw [hup_n _ _ _ p, oo k q]
    refine s_fitting hn (cMs.mv hM.c (fun k p q => k3 k (by omega) (by omega))) hL hOK (hX.mv4 (fun k p q => k3 k (by omega) (by omega))) g.1 (cpl_end g.2.1 g.2.2.1) ?_ ?_ ?_
    · rw [hup_ne _ _ (by decide)]; exact m0
    · rw [hup_ne _ _ (by decide)]; exact m1
    · exact ref σ1 _ oo (fun q => absurd g q) (fun _ => rfl)
  · unfold wp_X9_cut
    exact br_t rfl (ref (s38 σ) _ o38 (fun _ => rfl) (fun q => absurd q g))

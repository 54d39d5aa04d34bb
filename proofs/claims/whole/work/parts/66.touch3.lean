theorem rMs.c {σ τ : hSt} {n : Nat} {Ks : Nat → Nat} {μs : Nat → Nat → Nat} (h : rMs σ τ n Ks μs) : ∀ m, m < 6 → vM n (Ks m) (μs m) ∧ cM σ (5 + 2 * m) n (Ks m) (μs m) := fun m hm => ⟨(h m hm).1, (h m hm).2.1⟩
theorem rMs.r {σ τ : hSt} {n : Nat} {Ks : Nat → Nat} {μs : Nat → Nat → Nat} (h : rMs σ τ n Ks μs) : ∀ m, m < 6 → vM n (Ks m) (μs m) ∧ rM τ m (Ks m) (μs m) := fun m hm => ⟨(h m hm).1, (h m hm).2.2⟩
theorem isRep_m1 {T : Nat → Nat → Nat} {N : Nat} {a b : Int32} (hN : N < 2 ^ 31) (h : isRep T N a b) : (a = -1 → ¬ 0 ≤ a) ∧ (¬ a = -1 → 0 ≤ a) := by
  rcases h with ⟨t, s, ht, -, rfl, -⟩ | ⟨-, rfl, -⟩
  · exact ⟨fun e => absurd e (nI_ne_m1 t (by omega)), fun _ => nI_pos' (by omega)⟩
  · exact ⟨fun _ => by decide, fun e => absurd rfl e⟩
theorem c_touch {B : Nat} {σ τ : hSt} {w : Nat → Int64} {a1 : Int32} (hB : B ≤ 40000000) (h : RI B σ τ) : wp_X11_touch a1 σ (fun r σ1 => wp_X12_touch a1 τ w (fun r2 τ1 w1 => lawE r r2 (RI (B + 64001) σ1 τ1))) := by
  have h0 := h
  obtain ⟨n, Ks, μs, L, lm, lc, tz, hn4, hn, ⟨z1, z2, z3, z4, z5⟩, hT, hM, hL, hOK, hX, hY, hP, hS⟩ := h0
  have hV := hM.v
  have hFL := FR_le hV hOK (Nat.le_refl L)
  have hp := HL_PR hV hOK (Nat.le_refl L)
  have hmon : RI (B + 64001) σ τ := h.mono (by omega)
  have ref : ∀ (c : Nat) (σ1 : hSt) (r : Int32), c ≤ 10 → RI (B + 64001) σ1 τ → (∀ r2, tAns n Ks μs L lm lc c r2 → r = r2) → wp_X12_touch (nI c) τ w (fun r2 τ1 w1 => lawE r r2 (RI (B + 64001) σ1 τ1)) := fun c σ1 r hc hR ha =>
    t_touch hn z2 hM hL hOK hY hc (fun r2 τ' w' h1 h2 => lawE_of (ha r2 h1) (hR.y h2))
  have prv : ∀ (K : hSt → Prop), (∀ σ', RI (B + 64001) σ' τ → isRep (TT n Ks μs L lm lc) (FR Ks lm L) (σ' 31 10) (σ' 31 11) → K σ') → wp_X5_prove σ K := fun K hK =>
    s_prove hn hB hS hM.c hL hOK hX hP (fun σ' k e9 hr hs => by
      refine hK σ' ?_ hr
      obtain ⟨tp, s1, s2⟩ := hS
      refine ⟨n, Ks, μs, L, lm, lc, tz, hn4, hn, ⟨?_, z2, ?_, ?_, ?_⟩, ⟨hT.1, ?_, hT.2.2.1, fun i hi => ?_⟩, fun m hm => ?_, hL, hOK, hX.mv k, hY, Or.inr ⟨e9, hr⟩, hs⟩
      · rw [k.1 0 (by decide) (by decide) (by decide)]; exact z1
      · rw [k.1 0 (by decide) (by decide) (by decide)]; exact z3
      · rw [k.1 35 (by decide) (by decide) (by decide)]; exact z4
      · rw [k.1 3 (by decide) (by decide) (by decide)]; exact z5
      · rw [k.1 19 (by decide) (by decide) (by decide)]; exact hT.2.1
      · rw [k.1 20 (by decide) (by decide) (by decide)]; exact hT.2.2.2 i hi
      · obtain ⟨m1, m2, m3⟩ := hM m hm
        exact ⟨m1, m2.mv (k.1 _ (by omega) (by omega) (by omega)) (k.1 _ (by omega) (by omega) (by omega)), m3⟩)
  obtain ⟨x1, x2, x3, x4, x5⟩ := hX
  unfold wp_X11_touch
  intro x hx
  subst hx
  refine ⟨fun e => ?_, fun e0 => ⟨fun e => ?_, fun e1 => ⟨fun e => ?_, fun e2 => ⟨fun e => ?_, fun e3 => ⟨fun e => ?_, fun e4 => ⟨fun e => ?_, fun e5 => ⟨fun e => ?_, fun e6 => ⟨fun e => ?_, fun e7 => ⟨fun e => ?_, fun e8 => ⟨fun e => ?_, fun e9 => ⟨fun e => ?_, fun e10 => ?_⟩⟩⟩⟩⟩⟩⟩⟩⟩⟩⟩
  · subst e
    unfold wp_X5_size
    exact ref 0 σ _ (by decide) hmon (fun r2 ha => by rw [x2, ha.1 rfl])
  · subst e
    unfold wp_X5_rows
    exact ref 1 σ _ (by decide) hmon (fun r2 ha => by rw [x3, ha.2.1 rfl])
  · subst e
    unfold wp_X5_repeated
    refine prv _ (fun σ' hR hr => ?_)
    have hz := isRep_m1 (by omega) hr
    have ans : ∀ r2, tAns n Ks μs L lm lc 2 r2 → (0 ≤ σ' 31 10 → r2 = 0) ∧ (¬ 0 ≤ σ' 31 10 → r2 = 1) := fun r2 ha => by
      obtain ⟨a, b, q1, q2, -⟩ := ha.2.2.1 (by decide) (by decide)
      obtain ⟨u1, u2⟩ := isRep_un hr q1
      rw [u1]
      exact q2 rfl
    exact ⟨fun q => oneIf_0 (ref 2 σ' _ (by decide) hR (fun r2 ha => ((ans r2 ha).1 (hz.2 q)).symm)), fun q => oneIf_1 (ref 2 σ' _ (by decide) hR (fun r2 ha => ((ans r2 ha).2 (hz.1 q)).symm))⟩
  · subst e
    unfold wp_X5_repeated
    refine prv _ (fun σ' hR hr => ?_)
    refine ref 3 σ' _ (by decide) hR (fun r2 ha => ?_)
    obtain ⟨a, b, q1, -, q3, -⟩ := ha.2.2.1 (by decide) (by decide)
    rw [q3 rfl]; exact (isRep_un hr q1).1
  · subst e
    unfold wp_X5_repeatedFrom
    refine prv _ (fun σ' hR hr => ?_)
    refine ref 4 σ' _ (by decide) hR (fun r2 ha => ?_)
    obtain ⟨a, b, q1, -, -, q4⟩ := ha.2.2.1 (by decide) (by decide)
    rw [q4 rfl]; exact (isRep_un hr q1).2
  · subst e
    unfold wp_X5_ending
    rw [x4, z1]
    refine s_told hn (hp.lt8 hn) ?_
    exact ref 5 σ _ (by decide) hmon (fun r2 ha => (ha.2.2.2.1 rfl).symm)
  · subst e
    unfold wp_X5_ending
    rw [x4, z1]
    refine s_rounds hn ?_
    have he := enc_eq hn hp (PR_id n)
    refine ⟨fun q => oneIf_0 (ref 6 σ _ (by decide) hmon (fun r2 ha => ((ha.2.2.2.2.1 rfl).2 (fun e => q (he.mpr e))).symm)), fun q => oneIf_1 (ref 6 σ _ (by decide) hmon (fun r2 ha => ((ha.2.2.2.2.1 rfl).1 (he.mp q)).symm))⟩
  · subst e
    unfold wp_X5_order
    rw [x4, x1]
    obtain ⟨t, ht⟩ := ord_ex hn hp
    refine s_order hn hp ht ?_
    refine ref 7 σ _ (by decide) hmon (fun r2 ha => ?_)
    obtain ⟨t', ht', e'⟩ := ha.2.2.2.2.2.1 rfl
    rw [e', ord_un ht ht']
  · subst e
    refine s_calls (c := 1) hL hOK ⟨x1, x2, x3, x4, x5⟩ (by decide) ?_
    exact ref 8 σ _ (by decide) hmon (fun r2 ha => (ha.2.2.2.2.2.2.1 rfl).symm)
  · subst e
    refine s_calls (c := 2) hL hOK ⟨x1, x2, x3, x4, x5⟩ (by decide) ?_
    exact ref 9 σ _ (by decide) hmon (fun r2 ha => (ha.2.2.2.2.2.2.2.1 rfl).symm)
  · subst e
    refine s_methodChanges hL hOK ⟨x1, x2, x3, x4, x5⟩ ?_
    exact ref 10 σ _ (by decide) hmon (fun r2 ha => (ha.2.2.2.2.2.2.2.2 rfl).symm)
  · unfold wp_X12_touch
    rcases pk_ix x (n := 11) (by decide) with q | q | ⟨c, hc, rfl⟩
    · exact br_t q (lawE_of rfl hmon.th)
    · have q1 : ¬ x < 0 := by
        rw [Int32.lt_iff_toInt_lt, show (0 : Int32).toInt = 0 by decide]
        rw [Int32.le_iff_toInt_le, show (nI 11).toInt = 11 by decide] at q
        omega
      have q2 : ¬ x ≤ 10 := by
        rw [Int32.le_iff_toInt_le, show (10 : Int32).toInt = 10 by decide]
        rw [Int32.le_iff_toInt_le, show (nI 11).toInt = 11 by decide] at q
        omega
      exact br_f q1 (br_f q2 (lawE_of rfl hmon.th))
    · rcases (by omega : c = 0 ∨ c = 1 ∨ c = 2 ∨ c = 3 ∨ c = 4 ∨ c = 5 ∨ c = 6 ∨ c = 7 ∨ c = 8 ∨ c = 9 ∨ c = 10) with rfl | rfl | rfl | rfl | rfl | rfl | rfl | rfl | rfl | rfl | rfl
      · exact absurd rfl e0
      · exact absurd rfl e1
      · exact absurd rfl e2
      · exact absurd rfl e3
      · exact absurd rfl e4
      · exact absurd rfl e5
      · exact absurd rfl e6
      · exact absurd rfl e7
      · exact absurd rfl e8
      · exact absurd rfl e9
      · exact absurd rfl e10
theorem t_all {τ σ : hSt} {w : Nat → Int64} {n L : Nat} {Ks : Nat → Nat} {μs : Nat → Nat → Nat} {lm lc : Nat → Nat} (h1 : ∀ m, m < 6 → vM n (Ks m) (μs m) ∧ rM τ m (Ks m) (μs m)) (hL : L ≤ 1000) (hOK : lOK Ks lm lc L) (hY : rLy τ L lm lc) {Q : Int32 → Prop} (hQ : Q (nI (FR Ks lm L))) : wp_X12_all τ w Q := by
  unfold wp_X12_all
  refine hL2_in (fun v1 v2 => ∃ i, i ≤ L ∧ v2 = nI i ∧ v1 = nI (FR Ks lm i)) (fun _ v2 => L - v2.toNatClampNeg) ?_ ⟨0, Nat.zero_le _, rfl, rfl⟩
  rintro P _ _ ⟨i, hi, rfl, rfl⟩ ih
  refine pk_le L i (fun z => ?_) (fun z => ?_) hY.1 rfl
  · have e : i = L := by omega
    subst e; exact hQ
  · obtain ⟨u1, u2⟩ := hY.2 i z
    obtain ⟨l1, l2, l3⟩ := hOK i z
    refine ⟨vp_in_nI (by omega) (by decide), ?_⟩
    rw [nI_clamp (by omega), u1]
    refine ⟨vp_in_nI l1 (by decide), ?_⟩
    rw [nI_clamp (by omega), (h1 _ l1).2.1]
    intro x hx y hy
    rw [nI_add] at hx
    rw [nI_suc] at hy
    subst hx hy
    exact ih _ _ ⟨i + 1, by omega, rfl, rfl⟩ (by rw [nI_clamp (by omega), nI_clamp (by omega)]; omega)
theorem c_row {B : Nat} {σ τ : hSt} {w f : Nat → Int64} {a1 : Int32} (h : RI B σ τ) : wp_L_row a1 σ f (fun k σ1 f1 => wp_X12_row a1 τ w (fun b τ1 => wp_X12_thrown τ1 w (fun t => lawT k b t (f1 0) (RI B σ1 τ1)))) := by
  have h0 := h
  obtain ⟨n, Ks, μs, L, lm, lc, tz, hn4, hn, ⟨z1, z2, z3, z4, z5⟩, hT, hM, hL, hOK, hX, hY, -⟩ := h0
  have hV := hM.v
  have hFL := FR_le hV hOK (Nat.le_refl L)
  have thrW : ∀ (f1 : Nat → Int64) (τ1 : hSt) (Z : Int32 → hSt → Prop), kpY τ τ1 → (Z = fun (r5 : Int32) (σ4 : hSt) => ((r5 = 0 → (wp_X12_number 14 σ4 w (fun r8 => (wp_X12_thrown σ4 w (fun t => lawT 1 r8 t (f1 0) (RI B σ σ4)))))) ∧ (¬ r5 = 0 → (wp_X12_thrown σ4 w (fun t => lawT 1 0 t (f1 0) (RI B σ σ4)))))) → wp_X12_throwsIf 1 1 τ1 w Z := fun f1 τ1 Z hk hZ => by
    subst hZ
    exact t_tI1 (br_f (by decide) (lawT_thr (by decide) (by rw [hup_at, if_pos rfl]) ((h.y hk).th)))
  unfold wp_L_row wp_X11_row wp_X5_rows
  refine ⟨fun hneg => ⟨rfl, ?_⟩, fun hneg => ?_⟩
  · unfold wp_X12_row
    dsimp only [hM_]
    exact ⟨fun _ => ⟨fun _ => br_x rfl (thrW f τ _ kpY.rf rfl), fun q => absurd hneg q⟩, fun q => absurd hneg q⟩
  · obtain ⟨t, ht31, rfl⟩ := nI_of hneg
    rw [hX.2.2.1]
    refine pk_lt t (FR Ks lm L) (fun ht => ?_) (fun ht => ⟨rfl, ?_⟩) rfl rfl
    · refine s_rowNumbered hn hM.c hL hOK hX ht ?_
      have hTP := TT_PRt hV hOK (Nat.lt_of_le_of_lt (Nat.zero_le t) ht) t
      rw [z1]
      refine s_told hn (hTP.lt8 hn) ?_
      unfold wp_X12_row
      dsimp only [hM_]
      refine br_f hneg ?_
      refine t_ringAll (q := 1) hn z2 hM.r hL hOK hY (by omega) (by decide) (fun hno => absurd rfl (hno t (by omega))) (fun t' ht' e' τ5 k5 e29 a5 => ?_)
      have et : t' = t := (nI_eq (by omega) (by omega)).mp e'
      subst et
      refine br_f hneg (br_x e29 ?_)
      have k1 : ∀ k, 1 ≤ k → k ≤ 4 → τ5 k = τ k := fun k p q => k5.1 k (by omega) (by omega) (by omega)
      refine t_all (σ := σ) (fun m hm => ⟨hV m hm, (hM m hm).2.2.mv (k1 1 (by decide) (by decide)) (k1 2 (by decide) (by decide))⟩) hL hOK ⟨by rw [k5.2 6 (by decide) (by decide) (by decide)]; exact hY.1, fun k hk => by rw [k1 3 (by decide) (by decide), k1 4 (by decide) (by decide)]; exact hY.2 k hk⟩ ?_
      refine br_f (nI_ge ht (by omega)) (br_y (by decide) (t_tI0 (br_t rfl ?_)))
      have e0 : (hup τ5 0 0 0) 0 1 = nI n := by rw [hup_at, if_neg (by decide), k5.2 1 (by decide) (by decide) (by decide)]; exact z2
      have a6 : aR (hup τ5 0 0 0) 14 n (TT n Ks μs L lm lc t') := fun i hi => by rw [hup_ne _ _ (by decide)]; exact a5 i hi
      refine t_number hn e0 a6 ?_
      unfold wp_X12_thrown
      exact lawT_ret (by rw [hup_at, if_pos rfl]) updL0 ((h.y k5.Y).th)
    · unfold wp_X12_row
      dsimp only [hM_]
      refine br_f hneg ?_
      refine t_ringAll (q := 1) hn z2 hM.r hL hOK hY (by omega) (by decide) (fun _ τ5 k5 e29 R5 a5 => ?_) (fun t' ht' e' => ?_)
      · rw [Nat.one_mul] at e29
        have go := thrW f τ5 _ k5.Y rfl
        refine br_f hneg ⟨fun _ => br_x rfl go, fun e => ?_⟩
        have k1 : ∀ k, 1 ≤ k → k ≤ 4 → τ5 k = τ k := fun k p q => k5.1 k (by omega) (by omega) (by omega)
        refine t_all (σ := σ) (fun m hm => ⟨hV m hm, (hM m hm).2.2.mv (k1 1 (by decide) (by decide)) (k1 2 (by decide) (by decide))⟩) hL hOK ⟨by rw [k5.2 6 (by decide) (by decide) (by decide)]; exact hY.1, fun k hk => by rw [k1 3 (by decide) (by decide), k1 4 (by decide) (by decide)]; exact hY.2 k hk⟩ ?_
        exact br_t (nI_le ht ht31) (br_x rfl go)
      · have et : t' = t := (nI_eq (by omega) (by omega)).mp e'
        omega
theorem c_whole {B : Nat} {σ τ : hSt} {w : Nat → Int64} (hB : B ≤ 40000000) (h : RI B σ τ) : wp_X11_whole σ (fun r σ1 => wp_X12_whole τ w (fun r2 τ1 w1 => lawE r r2 (RI (B + 64001) σ1 τ1))) := by
  have h0 := h
  obtain ⟨n, Ks, μs, L, lm, lc, tz, hn4, hn, ⟨z1, z2, z3, z4, z5⟩, hT, hM, hL, hOK, hX, hY, hP, hS⟩ := h0
  have hV := hM.v
  have hFL := FR_le hV hOK (Nat.le_refl L)
  have hp := HL_PR hV hOK (Nat.le_refl L)
  obtain ⟨t, ht⟩ := ord_ex hn hp
  have ht1 := ht.1
  have ht2 := ht.2.1
  have htL : t * L ≤ 840 * 1000 := Nat.mul_le_mul ht2 hL
  have hX0 := hX
  obtain ⟨x1, x2, x3, x4, x5⟩ := hX
  -- the reference up to its order
  have ref : ∀ (Q : Int32 → hSt → (Nat → Int64) → Prop), (∀ τ1 w1, kpY τ τ1 → (¬ t * L ≤ 1000 → Q (-1) τ1 w1) ∧ (t * L ≤ 1000 → (∀ τ2, kpY τ τ2 → ∀ a b, isRep (TT n Ks μs L lm lc) (t * FR Ks lm L) a b → (0 ≤ a → Q 0 τ2 w1) ∧ (¬ 0 ≤ a → Q 1 τ2 w1)))) → wp_X12_whole τ w Q := fun Q hQ => by
    have k0 : kpY τ (hup τ 0 0 0) := kpY.hu (by decide)
    have s0 : ∀ j, j ≠ 0 → (hup τ 0 0 0) 0 j = τ 0 j := fun j hj => by rw [hup_at, if_neg hj]
    have s1 : ∀ k, k ≠ 0 → (hup τ 0 0 0) k = τ k := fun k hk => hup_n _ _ _ hk
    have hM0 : ∀ m, m < 6 → vM n (Ks m) (μs m) ∧ rM (hup τ 0 0 0) m (Ks m) (μs m) := fun m hm => ⟨(hM m hm).1, (hM m hm).2.2.mv (s1 1 (by decide)) (s1 2 (by decide))⟩
    have hY0 : rLy (hup τ 0 0 0) L lm lc := ⟨by rw [s0 6 (by decide)]; exact hY.1, fun k hk => by rw [s1 3 (by decide), s1 4 (by decide)]; exact hY.2 k hk⟩
    have n0 : (hup τ 0 0 0) 0 1 = nI n := by rw [s0 1 (by decide)]; exact z2
    unfold wp_X12_whole
    generalize hup τ 0 0 0 = τ0 at k0 hM0 hY0 n0 ⊢
    refine t_ringAll (q := 1) hn n0 hM0 hL hOK hY0 (by omega) (by decide) (fun _ τ5 k5 e29 R5 a5 => ?_) (fun t _ e => absurd e (nI_ne_m1 t (by omega)))
    have a5' : aR τ5 14 n (HL n Ks μs lm lc L) := a5
    have e0 : τ5 0 1 = nI n := by rw [k5.2 1 (by decide) (by decide) (by decide)]; exact n0
    refine t_order hn hp e0 a5' ht (fun τ6 w6 o6 => ?_)
    have k6 : kpY τ τ6 := (k0.tr k5.Y).tr (o6.kp (by decide))
    have e6 : τ6 0 6 = nI L := by rw [o6 0 (by decide), k5.2 6 (by decide) (by decide) (by decide)]; exact hY0.1
    rw [e6, pk_mul]
    obtain ⟨q1, q2⟩ := hQ τ6 w6 k6
    refine pk_le (t * L) 1000 (fun z => ?_) (fun z => q1 (by omega)) rfl rfl
    have k51 : ∀ k, 1 ≤ k → k ≤ 4 → τ6 k = τ0 k := fun k p q => by rw [o6 k (by omega)]; exact k5.1 k (by omega) (by omega) (by omega)
    have hq : t * FR Ks lm L ≤ 64000 := by
      have h1 : t * FR Ks lm L ≤ t * (64 * L) := Nat.mul_le_mul_left _ hFL
      have h2 : t * (64 * L) = 64 * (t * L) := Nat.mul_left_comm _ _ _
      omega
    refine t_ringAll hn (by rw [o6 0 (by decide)]; exact e0) (fun m hm => ⟨hV m hm, (hM0 m hm).2.mv (k51 1 (by decide) (by decide)) (k51 2 (by decide) (by decide))⟩) hL hOK ⟨e6, fun k hk => by rw [k51 3 (by decide) (by decide), k51 4 (by decide) (by decide)]; exact hY0.2 k hk⟩ hq (by omega) (fun _ τ7 k7 e29 R7 a7 => ?_) (fun t _ e => absurd e (nI_ne_m1 t (by omega)))
    exact q2 z τ7 (k6.tr k7.Y) _ _ R7
  unfold wp_X11_whole wp_X5_order wp_X5_size
  rw [x4, x1]
  refine s_order hn hp ht ?_
  rw [x2]
  dsimp only
  rw [pk_mul]
  refine pk_le (t * L) 1000 (fun z => ?_) (fun z => ?_) rfl rfl
  · have hq : t * FR Ks lm L ≤ 64000 := by
      have h1 : t * FR Ks lm L ≤ t * (64 * L) := Nat.mul_le_mul_left _ hFL
      have h2 : t * (64 * L) = 64 * (t * L) := Nat.mul_left_comm _ _ _
      omega
    have mk : ∀ σ', ot2 17 σ σ' → (∃ f, sn σ' n B f) → RI (B + 64001) σ' τ := fun σ' o hs => by
      obtain ⟨f, hf⟩ := hs
      refine h.P (kpP.o o) (fun T N hp => ?_) hf.rS
      unfold rP; rw [o 31 (by decide) (by decide)]; exact hp
    refine s_firstRepeat hn hB hS hM.c hL hOK hX0 hq (by omega) (fun t' s' σ' ht' hrep o hs => ?_) (fun σ' hno o hs => ?_)
    · refine br_y (nI_ne_m1 t' (by omega)) (oneIf_0 ?_)
      obtain ⟨-, f, hf, -⟩ := hs
      have hR := mk σ' o ⟨f, hf⟩
      refine ref _ (fun τ1 w1 _ => ⟨fun q => absurd z q, fun _ τ2 k2 a b hr => ?_⟩)
      have e := (isRep_un hr (Or.inl ⟨t', s', ht', hrep, rfl, rfl⟩)).1
      exact ⟨fun _ => lawE_of rfl (hR.y k2), fun q => absurd (by rw [e]; exact nI_pos' (by omega)) q⟩
    · refine br_x rfl (oneIf_1 ?_)
      have hR := mk σ' o hs
      refine ref _ (fun τ1 w1 _ => ⟨fun q => absurd z q, fun _ τ2 k2 a b hr => ?_⟩)
      have e := (isRep_un hr (Or.inr ⟨hno, rfl, rfl⟩)).1
      exact ⟨fun q => absurd q (by rw [e]; decide), fun _ => lawE_of rfl (hR.y k2)⟩
  · exact ref _ (fun τ1 w1 k1 => ⟨fun _ => lawE_of rfl ((h.mono (by omega)).y k1), fun q => absurd q (by omega)⟩)

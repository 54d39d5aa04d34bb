/-! stage and called. -/
theorem vis255 : ∀ n, n ≤ 8 → b_up 255 n = false := by decide
theorem vM0 {n : Nat} (hn : n ≤ 8) : vM n 0 (fun _ => 255) := ⟨by decide, fun k _ => ⟨vis255 n hn, by show 255 < 256; decide⟩⟩
theorem s_clearB {σ : hSt} {Q : hSt → Prop} (hQ : ∀ σ', (∀ k, (∀ m, m < 6 → k ≠ 5 + 2 * m) → σ' k = σ k) → (∀ m, m < 6 → σ' (5 + 2 * m) 1 = 0) → Q σ') : wp_X0_clear σ Q := by
  unfold wp_X0_clear
  refine hL2_in (fun v1 σ2 => ∃ i, i ≤ 6 ∧ v1 = nI i ∧ (∀ k, (∀ m, m < 6 → k ≠ 5 + 2 * m) → σ2 k = σ k) ∧ (∀ m, m < i → σ2 (5 + 2 * m) 1 = 0)) (fun v1 _ => 6 - v1.toNatClampNeg) ?_ ⟨0, by decide, rfl, fun _ _ => rfl, fun m hm => absurd hm (Nat.not_lt_zero m)⟩
  rintro P _ σ2 ⟨i, hi, rfl, h1, h2⟩ ih
  refine pk_le 6 i (fun z => ?_) (fun z => ?_) rfl rfl
  · have e : i = 6 := by omega
    subst e; exact hQ σ2 h1 h2
  · refine s_at z ?_
    unfold wp_X2_clear
    intro x hx
    rw [nI_suc] at hx
    subst hx
    refine ih _ _ ⟨i + 1, by omega, rfl, fun k hk => ?_, fun m hm => ?_⟩ (by rw [nI_clamp (by omega), nI_clamp (by omega)]; omega)
    · rw [hup_n _ _ _ (hk i z)]; exact h1 k hk
    · by_cases e : m = i
      · subst e; rw [hup_at, if_pos rfl]
      · rw [hup_ne _ _ (by omega)]; exact h2 m (by omega)
theorem s_clearP {σ : hSt} {n : Nat} (hn : n ≤ 8) {Q : hSt → Prop} (hQ : ∀ σ', oth 31 σ σ' → σ' 31 5 = nI n → σ' 31 6 = 0 → σ' 31 7 = 0 → σ' 31 8 = nI (encR n (fun i => i)) → σ' 31 9 = 0 → Q σ') : wp_X5_clear (nI n) σ Q := by
  unfold wp_X5_clear
  refine s_rounds hn ?_
  refine hQ _ oth.rf.up.up.up.up.up ?_ ?_ ?_ ?_ ?_ <;> simp [hup_at]
theorem c_stage {B : Nat} {σ τ : hSt} {w : Nat → Int64} {a1 : Int32} (h : RI B σ τ) : wp_X11_stage a1 σ (fun r σ1 => wp_X12_stage a1 τ w (fun r2 τ1 => lawE r r2 (RI B σ1 τ1))) := by
  have hh : RI B σ (hup τ 0 0 0) := h.th
  unfold wp_X11_stage wp_X12_stage
  refine ⟨fun z => br_t z (lawE_of rfl hh), fun z => ⟨fun z2 => ?_, fun z2 => br_f z (br_f z2 (lawE_of rfl hh))⟩⟩
  have hneg : ¬ a1 < 0 := by
    rw [Int32.lt_iff_toInt_lt] at z ⊢
    rw [show (4 : Int32).toInt = 4 by decide] at z
    rw [show (0 : Int32).toInt = 0 by decide]
    omega
  obtain ⟨n, hn, rfl⟩ := nI_of2 (M := 8) (n := 8) (by decide) hneg z2
  have hn4 : 4 ≤ n := by
    rcases Nat.lt_or_ge n 4 with q | q
    · exact absurd (nI_lt (b := 4) q (by decide)) z
    · exact q
  refine s_clearB (fun σ1 o1 g1 => ?_)
  refine s_clearP hn (fun σ2 o2 p5 p6 p7 p8 p9 => ?_)
  refine br_f z (br_t z2 ?_)
  refine hL2_in (fun v2 τ2 => ∃ i, i ≤ 6 ∧ v2 = nI i ∧ oth 1 (hup (hup τ 0 0 0) 0 1 (nI n)) τ2 ∧ (∀ m, m < i → τ2 1 m = 0)) (fun v2 _ => 6 - v2.toNatClampNeg) ?_ ⟨0, by decide, rfl, oth.rf, fun m hm => absurd hm (Nat.not_lt_zero m)⟩
  rintro P _ τ2 ⟨i, hi, rfl, ho, hz⟩ ih
  refine pk_le 6 i (fun z => ?_) (fun z => ?_) rfl rfl
  · have e : i = 6 := by omega
    subst e
    refine lawE_of rfl ?_
    obtain ⟨n0, Ks, μs, L, lm, lc, tz, h1, h2, ⟨y1, y2, y3, y4, y5⟩, ⟨t1, t2, t3, t4⟩, hM, hL, hOK, hX, hY, hP, tp, s1, s2, s3⟩ := hh
    have c0 : ∀ j, j ≠ 1 → j ≠ 6 → (hup τ2 0 6 0) 0 j = (hup τ 0 0 0) 0 j := fun j hj hj2 => by
      rw [hup_at, if_neg hj2, ho 0 (by decide), hup_at, if_neg hj]
    have cs : ∀ k, k ≠ 0 → k ≠ 31 → (∀ m, m < 6 → k ≠ 5 + 2 * m) → σ2 k = σ k := fun k k0 k31 km => by
      rw [o2 k k31, o1 k km, hup_n _ _ _ k0]
    refine ⟨n, fun _ => 0, fun _ _ => 255, 0, fun _ => 0, fun _ => 0, tz, hn4, hn, ⟨?_, ?_, ?_, ?_, ?_⟩, ⟨t1, ?_, ?_, fun j hj => ?_⟩, fun m hm => ⟨vM0 hn, ⟨?_, fun z => absurd z (Nat.lt_irrefl 0)⟩, ?_, fun k _ z => absurd z (Nat.lt_irrefl 0)⟩, by decide, fun k hk => absurd hk (Nat.not_lt_zero k), ⟨p5, p6, p7, p8, fun k hk => absurd hk (Nat.not_lt_zero k)⟩, ⟨?_, fun k hk => absurd hk (Nat.not_lt_zero k)⟩, Or.inl p9, tp, s1, ?_, fun r hr => ?_⟩
    · rw [o2 0 (by decide), o1 0 (by intro m hm; omega), hup_at, if_pos rfl]
    · rw [hup_at, if_neg (by decide), ho 0 (by decide), hup_at, if_pos rfl]
    · rw [o2 0 (by decide), o1 0 (by intro m hm; omega), hup_at, if_neg (by decide), c0 11 (by decide) (by decide)]; exact y3
    · rw [cs 35 (by decide) (by decide) (by intro m hm; omega), c0 37 (by decide) (by decide)]; exact y4
    · rw [cs 3 (by decide) (by decide) (by intro m hm; omega)]; exact y5
    · rw [cs 19 (by decide) (by decide) (by intro m hm; omega)]; exact t2
    · rw [c0 8 (by decide) (by decide)]; exact t3
    · rw [cs 20 (by decide) (by decide) (by intro m hm; omega), hup_ne _ _ (by decide), ho 5 (by decide), hup_ne _ _ (by decide)]; exact t4 j hj
    · rw [o2 _ (by omega)]; exact g1 m hm
    · rw [hup_ne _ _ (by decide)]; exact hz m hm
    · rw [hup_at, if_pos rfl]; rfl
    · rw [cs 17 (by decide) (by decide) (by intro m hm; omega)]; exact s2
    · rw [cs 18 (by decide) (by decide) (by intro m hm; omega)]; exact s3 r hr
  · refine ⟨vp_in_nI z (by decide), ?_⟩
    intro x hx
    rw [nI_suc] at hx
    subst hx
    rw [nI_clamp (by omega)]
    refine ih _ _ ⟨i + 1, by omega, rfl, ho.up, fun m hm => ?_⟩ (by rw [nI_clamp (by omega), nI_clamp (by omega)]; omega)
    rw [hup_at]
    by_cases e : m = i
    · rw [if_pos e]
    · rw [if_neg e]; exact hz m (by omega)
theorem c_called {B : Nat} {σ τ : hSt} {w f : Nat → Int64} {a1 a2 : Int32} (h : RI B σ τ) : wp_L_called a1 a2 σ f (fun k σ1 f1 => wp_X12_called a1 a2 τ w (fun b τ1 => wp_X12_thrown τ1 w (fun t => lawT k b t (f1 0) (RI B σ1 τ1)))) := by
  have h0 := h
  obtain ⟨n, Ks, μs, L, lm, lc, tz, hn4, hn, ⟨z1, z2, z3, z4, z5⟩, hT, hM, hL, hOK, ⟨x1, x2, x3, x4, x5⟩, ⟨y1, y2⟩, -⟩ := h0
  have thr : ∀ (f1 : Nat → Int64), (a1 < 0 ∨ nI L ≤ a1 ∨ a2 < 0 ∨ ¬ a2 ≤ 3) → wp_X12_called a1 a2 τ w (fun b τ1 => wp_X12_thrown τ1 w (fun t => lawT 1 b t (f1 0) (RI B σ τ1))) := fun f1 hc => by
    unfold wp_X12_called
    dsimp only [hM_]
    generalize hZ : (fun (r3 : Int32) (σ2 : hSt) => _ ∧ _) = Z
    have go : wp_X12_throwsIf 1 1 τ w Z := by
      rw [← hZ]
      exact t_tI1 (br_f (by decide) (lawT_thr (by decide) (by rw [hup_at, if_pos rfl]) h.th))
    rw [y1]
    refine ⟨fun _ => go, fun q1 => ⟨fun _ => go, fun q2 => ⟨fun _ => go, fun q3 => ⟨fun q4 => ?_, fun _ => go⟩⟩⟩⟩
    rcases hc with hc | hc | hc | hc
    · exact absurd hc q1
    · exact absurd hc q2
    · exact absurd hc q3
    · exact absurd q4 hc
  unfold wp_L_called wp_X11_called wp_X5_size
  refine ⟨fun q => ⟨rfl, thr f (Or.inl q)⟩, fun q => ?_⟩
  obtain ⟨i, hi31, rfl⟩ := nI_of q
  rw [x2]
  refine ⟨fun hlt => ?_, fun hge => ⟨rfl, thr f (Or.inr (Or.inl (nI_le (by rcases Nat.lt_or_ge i L with z | z; exact absurd (nI_lt z (by omega)) hge; exact z) hi31)))⟩⟩
  have hi : i < L := (nI_ltI hi31 (by omega)).mp hlt
  obtain ⟨m1, m2, m3⟩ := x5 i hi
  obtain ⟨n1, n2⟩ := y2 i hi
  obtain ⟨k1, k2, k3⟩ := hOK i hi
  have hV := hM.v
  have hH := HL_PR hV hOK (k := i) (by omega)
  have hF := FR_le hV hOK (k := i) (by omega)
  have hge : ¬ nI L ≤ nI i := nI_ge hi (by omega)
  have e32 : wp_X5_letterOf (nI i) σ = fun Q => wp_X11_cell 32 (nI i) σ (fun r2 => (Q (r2 / (3 : Int32)))) := rfl
  have ref : ∀ (c : Nat), c ≤ 3 → a2 = nI c → (∀ (f1 : Nat → Int64) (r : Int32), f1 0 = r.toInt64 → (c = 0 → r = nI (numR n (HL n Ks μs lm lc i))) → (c = 1 → r = nI (lm i)) → (c = 2 → r = nI (lc i)) → (c = 3 → r = nI (FR Ks lm i)) → wp_X12_called (nI i) (nI c) τ w (fun b τ1 => wp_X12_thrown τ1 w (fun t => lawT 0 b t (f1 0) (RI B σ τ1)))) := fun c hc _ f1 r hf h0 h1 h2 h3 => by
    unfold wp_X12_called
    dsimp only [hM_]
    rw [y1]
    refine br_f (nI_pos hi31) (br_f hge (br_f (nI_pos (by omega)) (br_t (nI_le (b := 3) hc (by decide)) (t_tI0 (br_t rfl ?_)))))
    have w0 : ∀ j, j ≠ 0 → (hup τ 0 0 0) 0 j = τ 0 j := fun j hj => by rw [hup_at, if_neg hj]
    have w1 : ∀ k, k ≠ 0 → (hup τ 0 0 0) k = τ k := fun k hk => hup_n _ _ _ hk
    refine pk_en c 1 (fun q1 => pk_en c 2 (fun q2 => ?_) (fun q2 => ?_) rfl rfl) (fun q1 => ?_) rfl rfl
    · have y0 : (hup τ 0 0 0) 0 1 = nI n := by rw [w0 1 (by decide)]; exact z2
      refine t_rounds hn (by decide) y0 (fun τ1 o1 r1 => ?_)
      refine hL3_in (fun v3 v4 τ2 => ∃ j, j ≤ i ∧ v4 = nI j ∧ v3 = nI (FR Ks lm j) ∧ oth 14 (hup τ 0 0 0) τ2 ∧ aR τ2 14 n (HL n Ks μs lm lc j)) (fun _ v4 _ => i - v4.toNatClampNeg) ?_ ⟨0, Nat.zero_le _, rfl, rfl, o1, r1⟩
      rintro P _ _ τ2 ⟨j, hj, rfl, rfl, ho, hb⟩ ih
      have e0 : τ2 0 1 = nI n := by rw [ho 0 (by decide)]; exact y0
      refine pk_le i j (fun q => ?_) (fun q => ?_) rfl rfl
      · have ej : j = i := by omega
        subst ej
        refine pk_en c 0 (fun q0 => ?_) (fun q0 => ?_) rfl rfl
        · unfold wp_X12_thrown
          exact lawT_ret (by rw [ho 0 (by decide), hup_at, if_pos rfl]) (by rw [hf, h3 (by omega)]) (h.th.y (ho.kp (by decide)))
        · refine t_number hn e0 hb ?_
          unfold wp_X12_thrown
          exact lawT_ret (by rw [ho 0 (by decide), hup_at, if_pos rfl]) (by rw [hf, h0 q0]) (h.th.y (ho.kp (by decide)))
      · obtain ⟨l1, l2, l3⟩ := hOK j (by omega)
        obtain ⟨u1, u2⟩ := y2 j (by omega)
        have v1 : τ2 3 j = nI (lm j) := by rw [ho 3 (by decide), w1 3 (by decide)]; exact u1
        have v2 : τ2 4 j = nI (lc j) := by rw [ho 4 (by decide), w1 4 (by decide)]; exact u2
        have hin : vp_in (nI j) 1000 := vp_in_nI (by omega) (by decide)
        refine ⟨hin, hin, ?_⟩
        rw [nI_clamp (by omega), v1, v2]
        have eM : rM τ2 (lm j) (Ks (lm j)) (μs (lm j)) := (hM _ l1).2.2.mv (by rw [ho 1 (by decide), w1 1 (by decide)]) (by rw [ho 2 (by decide), w1 2 (by decide)])
        refine t_ringLead hn (by decide) l1 l2 l3 (hV _ l1) e0 eM hb (fun τ3 o3 r3 => ?_)
        have v3 : τ3 3 j = nI (lm j) := by rw [o3 3 (by decide)]; exact v1
        have v4 : τ3 1 (lm j) = nI (Ks (lm j)) := by rw [o3 1 (by decide)]; exact eM.1
        refine ⟨hin, ?_⟩
        rw [v3]
        refine ⟨vp_in_nI l1 (by decide), ?_⟩
        rw [nI_clamp (by omega), v4, nI_add]
        intro x hx y hy
        rw [nI_suc] at hy
        subst hx hy
        exact ih _ _ _ ⟨j + 1, by omega, rfl, rfl, ho.tr o3, r3⟩ (by rw [nI_clamp (by omega), nI_clamp (by omega)]; omega)
    · refine ⟨vp_in_nI (by omega) (by decide), ?_⟩
      rw [nI_clamp hi31, w1 4 (by decide), n2]
      unfold wp_X12_thrown
      exact lawT_ret (by rw [hup_at, if_pos rfl]) (by rw [hf, h2 q2]) h.th
    · refine ⟨vp_in_nI (by omega) (by decide), ?_⟩
      rw [nI_clamp hi31, w1 3 (by decide), n1]
      unfold wp_X12_thrown
      exact lawT_ret (by rw [hup_at, if_pos rfl]) (by rw [hf, h1 q1]) h.th
  intro x hx
  subst hx
  have hlc : (3 * lm i + lc i) / 3 = lm i ∧ (3 * lm i + lc i) % 3 = lc i := by omega
  refine ⟨fun e => ?_, fun e0 => ⟨fun e => ?_, fun e1 => ⟨fun e => ?_, fun e2 => ⟨fun e => ?_, fun e3 => ?_⟩⟩⟩⟩
  · unfold wp_X5_headOf
    refine s_cell (by decide) (show i < 1000 by omega) ?_
    rw [m2, z1]
    refine s_told hn (hH.lt8 hn) ?_
    rw [e]
    exact ref 0 (by decide) e _ _ updL0 (fun _ => rfl) (fun q => absurd q (by decide)) (fun q => absurd q (by decide)) (fun q => absurd q (by decide))
  · unfold wp_X5_letterOf
    refine s_cell (by decide) (show i < 1000 by omega) ?_
    rw [m1, show (3 : Int32) = nI 3 from rfl, pk_div (by omega) (by decide) (by decide), hlc.1, e]
    exact ref 1 (by decide) e _ _ updL0 (fun q => absurd q (by decide)) (fun _ => rfl) (fun q => absurd q (by decide)) (fun q => absurd q (by decide))
  · unfold wp_X5_callOf
    refine s_cell (by decide) (show i < 1000 by omega) ?_
    rw [m1, show (3 : Int32) = nI 3 from rfl, pk_rem (by omega) (by decide) (by decide), hlc.2, e]
    exact ref 2 (by decide) e _ _ updL0 (fun q => absurd q (by decide)) (fun q => absurd q (by decide)) (fun _ => rfl) (fun q => absurd q (by decide))
  · unfold wp_X5_firstOf
    refine s_cell (by decide) (show i < 1000 by omega) ?_
    rw [m3, e]
    exact ref 3 (by decide) e _ _ updL0 (fun q => absurd q (by decide)) (fun q => absurd q (by decide)) (fun q => absurd q (by decide)) (fun _ => rfl)
  · refine ⟨rfl, thr f ?_⟩
    rcases pk_ix x (n := 4) (by decide) with q | q | ⟨c, hc, rfl⟩
    · exact Or.inr (Or.inr (Or.inl q))
    · refine Or.inr (Or.inr (Or.inr ?_))
      rw [Int32.le_iff_toInt_le, show (3 : Int32).toInt = 3 by decide]
      rw [Int32.le_iff_toInt_le, show (nI 4).toInt = 4 by decide] at q
      omega
    · rcases (by omega : c = 0 ∨ c = 1 ∨ c = 2 ∨ c = 3) with rfl | rfl | rfl | rfl
      · exact absurd rfl e0
      · exact absurd rfl e1
      · exact absurd rfl e2
      · exact absurd rfl e3

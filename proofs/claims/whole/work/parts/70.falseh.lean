theorem RI.S {B : Nat} {σ σ' τ : hSt} {n : Nat} {f : Nat → Nat} (h : RI B σ τ) (o : ot2 17 σ σ') (hf : sn σ' n B f) : RI (B + 64001) σ' τ :=
  h.P (kpP.o o) (fun T N hp => by unfold rP; rw [o 31 (by decide) (by decide)]; exact hp) hf.rS
theorem c_falseHeads {B : Nat} {σ τ : hSt} {w f : Nat → Int64} {a1 a2 : Int32} (hB : B ≤ 40000000) (h : RI B σ τ) : wp_L_falseHeads a1 a2 σ f (fun k σ1 f1 => wp_X12_falseHeads a1 a2 τ w (fun b τ1 => wp_X12_thrown τ1 w (fun t => lawT k b t (f1 0) (RI (B + 64001) σ1 τ1)))) := by
  have h0 := h
  obtain ⟨n, Ks, μs, L, lm, lc, tz, hn4, hn, ⟨z1, z2, z3, z4, z5⟩, hT, hM, -, -, -, -, -, hS⟩ := h0
  have hmon : RI (B + 64001) σ τ := h.mono (by omega)
  have thr : ∀ (f1 : Nat → Int64), (¬ tld Ks a1 ∨ ¬ tld Ks a2) → wp_X12_falseHeads a1 a2 τ w (fun b τ1 => wp_X12_thrown τ1 w (fun t => lawT 1 b t (f1 0) (RI (B + 64001) σ τ1))) := fun f1 hc => by
    unfold wp_X12_falseHeads
    dsimp only [hM_]
    refine t_isTold hM (fun m hm e hK => br_f (by decide) (t_isTold hM (fun m' hm' e' hK' => ?_) (fun hno => br_x rfl ?_))) (fun hno => br_t rfl ?_)
    · rcases hc with hc | hc
      · exact absurd ⟨m, hm, e, hK⟩ hc
      · exact absurd ⟨m', hm', e', hK'⟩ hc
    · exact t_tI1 (br_f (by decide) (lawT_thr (by decide) (by rw [hup_at, if_pos rfl]) hmon.th))
    · exact t_tI1 (br_f (by decide) (lawT_thr (by decide) (by rw [hup_at, if_pos rfl]) hmon.th))
  unfold wp_L_falseHeads wp_X11_falseHeads
  refine s_toldM z5 hM (fun m hm e hK => ?_) (fun hno => ⟨rfl, thr f (Or.inl hno)⟩)
  refine s_toldM z5 hM (fun l hl e' hK' => ?_) (fun hno => ⟨rfl, thr f (Or.inr hno)⟩)
  subst e e'
  refine s_noteHeads hn hB hS hM.c z1 hm hl hK' (fun σ1 f1 o1 hs1 hf1 => ?_)
  unfold wp_X12_falseHeads
  dsimp only [hM_]
  refine t_isTold hM (fun m' hm' e1 hK1 => ?_) (fun hno => absurd ⟨m, hm, rfl, hK⟩ hno)
  refine br_f (by decide) ?_
  refine t_isTold hM (fun m' hm' e1 hK1 => ?_) (fun hno => absurd ⟨l, hl, rfl, hK'⟩ hno)
  refine br_y (by decide) (t_tI0 (br_t rfl ?_))
  have y0 : (hup τ 0 0 0) 0 1 = nI n := by rw [hup_at, if_neg (by decide)]; exact z2
  refine t_findHeads hn y0 (fun m hm => ⟨(hM m hm).1, (hM m hm).2.2.mv (hup_n _ _ _ (by decide)) (hup_n _ _ _ (by decide))⟩) hm hl hK hK' (fun τ1 hs M k1 s1 => ?_)
  unfold wp_X12_thrown
  refine lawT_ret (by rw [k1.2 0 (by decide), hup_at, if_pos rfl]) (by rw [updL0, s1.2.1, s1.1]) ?_
  exact ((h.S o1 hs1).th).y k1.Y
theorem s_risingRow {σ : hSt} {n B M : Nat} {f : Nat → Nat} {hs : Nat → Nat → Nat} {k : Int32} (hn : n ≤ 8) (hB : B ≤ 40000000) (hs0 : sn σ n B f) (hP : ∀ i, i < M → PR n (hs i)) (hmono : ∀ i j, i < j → j < M → rk n (hs i) < rk n (hs j)) (hf : ∀ ρ, f ρ ≠ 0 ↔ ∃ i, i < M ∧ rk n (hs i) = ρ) {Q : Int32 → Prop}
    (h1 : ∀ i, i < M → k = nI i → Q (nI (encR n (hs i)))) (h0 : (∀ i, i < M → k ≠ nI i) → Q (-1)) : wp_X8_risingRow k σ Q := by
  obtain ⟨base, tp, g1, g2, g3, g4, g5, g6, g7⟩ := hs0
  unfold wp_X8_risingRow
  rw [g4]
  refine s_many hn ?_
  have hfp := fct_pos n
  have hfl := fct_le n hn
  have hM31 : M ≤ 40320 := by
    rcases Nat.lt_or_ge 40320 M with z | z
    · have key : ∀ i, i < M → i ≤ rk n (hs i) := fun i => by
        induction i with
        | zero => intro _; exact Nat.zero_le _
        | succ i ih =>
          intro hi
          have h2 := ih (by omega)
          have h3 := hmono i (i + 1) (by omega) hi
          omega
      have h4 := key (M - 1) (by omega)
      have h5 := rk_lt hn (hP (M - 1) (by omega)).isP
      omega
    · exact z
  have hrk : ∀ i, i < M → rk n (hs i) < fct n := fun i hi => by
    have h2 := rkp_lt (hP i hi).isP (Nat.le_refl n)
    have H : ∀ n, n ≤ 8 → dsc n n ≤ fct n := by decide
    exact Nat.lt_of_lt_of_le h2 (H n hn)
  rcases Classical.em (k < 0) with kneg | kneg
  · -- a negative k finds nothing
    have hno : ∀ i, i < M → k ≠ nI i := fun i hi e => by
      rw [e] at kneg; exact nI_pos (by omega) kneg
    refine hL2_in (fun v2 v4 => v2 = k ∧ v4 = nI 0) (fun _ _ => 0) ?_ ⟨rfl, rfl⟩
    rintro P _ _ ⟨rfl, rfl⟩ ih
    exact ⟨fun _ => h0 hno, fun _ => ⟨fun _ => h0 hno, fun q => absurd kneg q⟩⟩
  · obtain ⟨k', hk', rfl⟩ := nI_of kneg
    refine hL2_in (fun v2 v4 => ∃ ρ i, ρ ≤ fct n ∧ i ≤ M ∧ i ≤ k' ∧ v4 = nI ρ ∧ v2 = nI (k' - i) ∧ ∀ i', i' < M → (rk n (hs i') < ρ ↔ i' < i)) (fun _ v4 => fct n - v4.toNatClampNeg) ?_ ⟨0, 0, Nat.zero_le _, Nat.zero_le _, Nat.zero_le _, rfl, rfl, fun i' _ => by omega⟩
    rintro P _ _ ⟨ρ, i, hρ, hiM, hik, rfl, rfl, hcut⟩ ih
    refine pk_le (fct n) ρ (fun z => ?_) (fun z => ?_) rfl rfl
    · refine h0 (fun i' hi' e => ?_)
      have e2 := (nI_eq hk' (by omega)).mp e
      have := (hcut i' hi').mp (Nat.lt_of_lt_of_le (hrk i' hi') z)
      omega
    · refine br_f (nI_pos (by omega)) ?_
      refine s_cell (by decide) (show ρ < 40320 by omega) ?_
      obtain ⟨s, s1, s2, s3⟩ := g7 ρ (by omega)
      rw [s2]
      refine pk_le s base (fun q => ?_) (fun q => ?_) rfl g5
      · have hz : ¬ ∃ i, i < M ∧ rk n (hs i) = ρ := fun hh => (hf ρ).mpr hh (by omega)
        intro x hx
        rw [nI_suc] at hx
        subst hx
        refine ih _ _ ⟨ρ + 1, i, by omega, hiM, hik, rfl, rfl, fun i' hi' => ?_⟩ (by rw [nI_clamp (by omega), nI_clamp (by omega)]; omega)
        rw [← hcut i' hi']
        have : rk n (hs i') ≠ ρ := fun e => hz ⟨i', hi', e⟩
        omega
      · obtain ⟨i0, hi0, e0⟩ := (hf ρ).mp (by omega)
        have ei : i0 = i := by
          have c1 : ¬ i0 < i := fun q2 => by have := (hcut i0 hi0).mpr q2; omega
          rcases Nat.lt_or_ge i i0 with q2 | q2
          · have c2 := hmono i i0 q2 hi0
            have := (hcut i (by omega)).mp (by omega)
            omega
          · omega
        subst ei
        refine pk_en (k' - i0) 0 (fun q2 => ?_) (fun q2 => ?_) rfl rfl
        · intro x hx y hy
          rw [show nI (k' - i0) = nI (k' - (i0 + 1) + 1) by congr 1; omega, pk_m1] at hx
          rw [nI_suc] at hy
          subst hx hy
          refine ih _ _ ⟨ρ + 1, i0 + 1, by omega, by omega, by omega, rfl, rfl, fun i' hi' => ?_⟩ (by rw [nI_clamp (by omega), nI_clamp (by omega)]; omega)
          constructor
          · intro q3
            rcases Nat.lt_or_ge i0 i' with q4 | q4
            · have := hmono i0 i' q4 hi'; omega
            · omega
          · intro q3
            by_cases e : i' = i0
            · subst e; omega
            · have := (hcut i' hi').mpr (by omega); omega
        · rw [← e0]
          refine s_ofRank hn (hP i0 hi0).isP ?_
          exact h1 i0 hi0 (by congr 1; omega)
/-- such a rising row is one, and there is one -/
theorem srt_un {τ τ' : hSt} {n p M : Nat} {H hs hs' : Nat → Nat → Nat} (hn : n ≤ 8) (h : srt τ n H hs M p) (h' : srt τ' n H hs' M p) : ∀ i, i < M → hs i = hs' i := by
  obtain ⟨-, -, a3, a4, a5⟩ := h
  obtain ⟨-, -, b3, b4, b5⟩ := h'
  have sub : ∀ (x y : Nat → Nat → Nat), (∀ i j, i < j → j < M → rk n (x i) < rk n (x j)) → (∀ i j, i < j → j < M → rk n (y i) < rk n (y j)) → (∀ i, i < M → ∃ j, j < M ∧ rk n (y j) = rk n (x i)) → ∀ i, i < M → rk n (y i) ≤ rk n (x i) := fun x y hx hy hxy i => by
    induction i with
    | zero =>
      intro hi
      obtain ⟨j, hj, e⟩ := hxy 0 hi
      rcases Nat.eq_zero_or_pos j with q | q
      · subst q; omega
      · have := hy 0 j q hj; omega
    | succ i ih =>
      intro hi
      obtain ⟨j, hj, e⟩ := hxy (i + 1) hi
      have h1 := ih (by omega)
      have h2 := hx i (i + 1) (by omega) hi
      rcases Nat.lt_trichotomy j (i + 1) with q | q | q
      · have h3 : rk n (y j) ≤ rk n (y i) := by
          by_cases e2 : j = i
          · subst e2; exact Nat.le_refl _
          · have := hy j i (by omega) (by omega); omega
        omega
      · subst q; omega
      · have := hy (i + 1) j q hj; omega
  intro i hi
  have e1 := sub hs hs' a4 b4 (fun i hi => (b5 _).mp ((a5 _).mpr ⟨i, hi, rfl⟩)) i hi
  have e2 := sub hs' hs b4 a4 (fun i hi => (a5 _).mp ((b5 _).mpr ⟨i, hi, rfl⟩)) i hi
  exact rk_inj hn (a3 i hi).1 (b3 i hi).1 (by omega)
theorem srt_pos {n M : Nat} {hs : Nat → Nat → Nat} (h4 : ∀ i j, i < j → j < M → rk n (hs i) < rk n (hs j)) (ρ : Nat) : ∃ a, a ≤ M ∧ (∀ i, i < a → rk n (hs i) ≤ ρ) ∧ ∀ i, a ≤ i → i < M → ρ < rk n (hs i) := by
  have key : ∀ c, c ≤ M → (∀ i, c ≤ i → i < M → ρ < rk n (hs i)) → ∃ a, a ≤ M ∧ (∀ i, i < a → rk n (hs i) ≤ ρ) ∧ ∀ i, a ≤ i → i < M → ρ < rk n (hs i) := fun c => by
    induction c with
    | zero => intro h1 h2; exact ⟨0, Nat.zero_le _, fun i hi => absurd hi (Nat.not_lt_zero i), h2⟩
    | succ c ih =>
      intro h1 h2
      by_cases q : ρ < rk n (hs c)
      · refine ih (by omega) (fun i h3 h5 => ?_)
        by_cases e : i = c
        · subst e; exact q
        · exact h2 i (by omega) h5
      · refine ⟨c + 1, h1, fun i hi => ?_, h2⟩
        by_cases e : i = c
        · subst e; omega
        · have := h4 i c (by omega) (by omega); omega
  exact key M (Nat.le_refl M) (fun i h1 h2 => by omega)
theorem srt_ex {n N : Nat} {H : Nat → Nat → Nat} (hn : n ≤ 8) (hP : ∀ p, p < N → PR n (H p)) : ∀ p, p ≤ N → ∃ hs M τq, srt τq n H hs M p
  | 0, _ => ⟨fun _ i => i, 0, fun _ _ => 0, rfl, rfl, fun i hi => absurd hi (Nat.not_lt_zero i), fun i j _ hj => absurd hj (Nat.not_lt_zero j), fun ρ => ⟨fun h => (by cases h), fun ⟨i, hi, _⟩ => absurd hi (Nat.not_lt_zero i)⟩⟩
  | p + 1, hp => by
    obtain ⟨hs, M, τq, h⟩ := srt_ex hn hP p (by omega)
    have h' := h
    obtain ⟨h1, h2, h3, h4, h5⟩ := h
    obtain ⟨a, ha, hlo, hhi⟩ := srt_pos h4 (rk n (H p))
    by_cases q : ∃ i, i < M ∧ rk n (hs i) = rk n (H p)
    · obtain ⟨i, hi, e⟩ := q
      exact ⟨hs, M, τq, srt_old h' hi e rfl rfl⟩
    · refine ⟨ins hs a (H p), M + 1, fun k j => if k = 0 then nI (M + 1) else nI (numR n (ins hs a (H p) j)), srt_ins hn (hP p (by omega)) h' ha (fun i hi => ?_) hhi rfl (fun i hi => rfl)⟩
      have := hlo i hi
      have : rk n (hs i) ≠ rk n (H p) := fun e => q ⟨i, by omega, e⟩
      omega
theorem c_falseHead {B : Nat} {σ τ : hSt} {w f : Nat → Int64} {a1 a2 a3 : Int32} (hB : B ≤ 40000000) (h : RI B σ τ) : wp_L_falseHead a1 a2 a3 σ f (fun k σ1 f1 => wp_X12_falseHead a1 a2 a3 τ w (fun b τ1 => wp_X12_thrown τ1 w (fun t => lawT k b t (f1 0) (RI (B + 64001) σ1 τ1)))) := by
  have h0 := h
  obtain ⟨n, Ks, μs, L, lm, lc, tz, hn4, hn, ⟨z1, z2, z3, z4, z5⟩, hT, hM, -, -, -, -, -, hS⟩ := h0
  have hmon : RI (B + 64001) σ τ := h.mono (by omega)
  have thr : ∀ (f1 : Nat → Int64), (¬ tld Ks a1 ∨ ¬ tld Ks a2) → wp_X12_falseHead a1 a2 a3 τ w (fun b τ1 => wp_X12_thrown τ1 w (fun t => lawT 1 b t (f1 0) (RI (B + 64001) σ τ1))) := fun f1 hc => by
    unfold wp_X12_falseHead
    dsimp only [hM_]
    refine t_isTold hM (fun m hm e hK => br_f (by decide) (t_isTold hM (fun m' hm' e' hK' => ?_) (fun hno => br_x rfl ?_))) (fun hno => br_t rfl ?_)
    · rcases hc with hc | hc
      · exact absurd ⟨m, hm, e, hK⟩ hc
      · exact absurd ⟨m', hm', e', hK'⟩ hc
    · exact t_tI1 (br_f (by decide) (lawT_thr (by decide) (by rw [hup_at, if_pos rfl]) hmon.th))
    · exact t_tI1 (br_f (by decide) (lawT_thr (by decide) (by rw [hup_at, if_pos rfl]) hmon.th))
  unfold wp_L_falseHead wp_X11_falseHead
  refine s_toldM z5 hM (fun m hm e hK => ?_) (fun hno => ⟨rfl, thr f (Or.inl hno)⟩)
  refine s_toldM z5 hM (fun l hl e' hK' => ?_) (fun hno => ⟨rfl, thr f (Or.inr hno)⟩)
  subst e e'
  refine s_noteHeads hn hB hS hM.c z1 hm hl hK' (fun σ1 f1 o1 hs1 hf1 => ?_)
  -- the heads that the reference will find, known ahead of it
  have y0 : (hup τ 0 0 0) 0 1 = nI n := by rw [hup_at, if_neg (by decide)]; exact z2
  have yM : ∀ m, m < 6 → vM n (Ks m) (μs m) ∧ rM (hup τ 0 0 0) m (Ks m) (μs m) := fun m hm => ⟨(hM m hm).1, (hM m hm).2.2.mv (hup_n _ _ _ (by decide)) (hup_n _ _ _ (by decide))⟩
  obtain ⟨hs, M, τq, hsr⟩ : ∃ hs M τq, srt τq n (hdp n (μs m) (Ks l) (μs l)) hs M (Ks m * Ks l) := by
    exact srt_ex hn (fun p hp => hdp_PR (hM m hm).1 (hM l hl).1 hp) (Ks m * Ks l) (Nat.le_refl _)
  have hR1 : RI (B + 64001) σ1 τ := h.S o1 hs1
  have hfe : ∀ ρ, f1 ρ ≠ 0 ↔ ∃ i, i < M ∧ rk n (hs i) = ρ := fun ρ => (hf1 ρ).trans (hsr.2.2.2.2 ρ)
  have hM4 : M ≤ 4096 := by
    have e1 := dcn_le (fun a => rk n (hdp n (μs m) (Ks l) (μs l) a)) (Ks m * Ks l)
    have e2 : Ks m * Ks l ≤ 64 * 64 := Nat.mul_le_mul (hM m hm).1.1 (hM l hl).1.1
    rw [hsr.1]; omega
  have ref : ∀ (σ2 : hSt) (f2 : Nat → Int64) (r : Int32), RI (B + 64001) σ2 τ → f2 0 = r.toInt64 → (∀ i, i < M → a3 = nI i → r = nI (numR n (hs i))) → ((∀ i, i < M → a3 ≠ nI i) → r = -1) → wp_X12_falseHead (nI m) (nI l) a3 τ w (fun b τ1 => wp_X12_thrown τ1 w (fun t => lawT 0 b t (f2 0) (RI (B + 64001) σ2 τ1))) := fun σ2 f2 r hR hf2 hr1 hr0 => by
    unfold wp_X12_falseHead
    dsimp only [hM_]
    refine t_isTold hM (fun m' hm' e1 hK1 => ?_) (fun hno => absurd ⟨m, hm, rfl, hK⟩ hno)
    refine br_f (by decide) ?_
    refine t_isTold hM (fun m' hm' e1 hK1 => ?_) (fun hno => absurd ⟨l, hl, rfl, hK'⟩ hno)
    refine br_y (by decide) (t_tI0 (br_t rfl ?_))
    refine t_findHeads hn y0 yM hm hl hK hK' (fun τ1 hs' M' k1 s1 => ?_)
    have eM : M' = M := by rw [s1.1, hsr.1]
    subst eM
    have ehs : ∀ i, i < M' → hs' i = hs i := fun i hi => srt_un hn s1 hsr i hi
    have fin : ∀ b : Int32, r = b → wp_X12_thrown τ1 w (fun t => lawT 0 b t (f2 0) (RI (B + 64001) σ2 τ1)) := fun b e => by
      unfold wp_X12_thrown
      exact lawT_ret (by rw [k1.2 0 (by decide), hup_at, if_pos rfl]) (by rw [hf2, e]) ((hR.th).y k1.Y)
    refine ⟨fun q => fin _ (hr0 (fun i hi e => ?_)), fun q => ?_⟩
    · rw [e] at q; exact nI_pos (by omega) q
    · obtain ⟨i, hi31, rfl⟩ := nI_of q
      refine pk_lt i M' (fun q2 => ⟨vp_in_nI (by omega) (by decide), ?_⟩) (fun q2 => fin _ (hr0 (fun i' hi' e => ?_))) rfl s1.2.1
      · rw [nI_clamp (by omega), (s1.2.2.1 i q2).2, ehs i q2]
        exact fin _ (hr1 i q2 rfl)
      · have := (nI_eq hi31 (by omega)).mp e
        omega
  refine s_risingRow hn hB hs1 (fun i hi => (hsr.2.2.1 i hi).1) hsr.2.2.2.1 hfe (fun i hi e => ?_) (fun hno => ?_)
  · have hp := (hsr.2.2.1 i hi).1
    have h24 := encR_lt24 hn (hp.lt8 hn)
    refine br_y (nI_ne_m1 _ (by omega)) ?_
    rw [show σ1 0 0 = nI n by rw [o1 0 (by decide) (by decide)]; exact z1]
    refine s_told hn (hp.lt8 hn) ?_
    refine ref σ1 _ _ hR1 updL0 (fun i' hi' e' => ?_) (fun hno => absurd e (hno i hi))
    have := (nI_eq (a := i) (b := i') (by omega) (by omega)).mp (by rw [← e, ← e'])
    rw [this]
  · refine br_x rfl ?_
    exact ref σ1 _ _ hR1 updL0 (fun i' hi' e' => absurd e' (hno i' hi')) (fun _ => rfl)

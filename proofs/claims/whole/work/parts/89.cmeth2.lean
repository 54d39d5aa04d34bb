theorem c_method {B : Nat} {σ τ : hSt} {w f : Nat → Int64} {a1 : Int32} (h : RI B σ τ) : wp_L_method a1 σ f (fun k σ1 f1 => wp_X12_method a1 τ w (fun b τ1 => wp_X12_thrown τ1 w (fun t => lawT k b t (f1 0) (RI B σ1 τ1)))) := by
  have h0 := h
  obtain ⟨n, Ks, μs, L, lm, lc, tz, hn4, hn, ⟨z1, z2, z3, z4, z5⟩, hT, hM, hL, hOK, hX, hY, hP, hS⟩ := h0
  have hT' := hT
  obtain ⟨t1, t2, t3, t4⟩ := hT'
  obtain ⟨bt, hbt⟩ := hT.bt
  have thr : ∀ (f1 : Nat → Int64), (a1 < 0 ∨ ¬ a1 < 6) → wp_X12_method a1 τ w (fun b τ1 => wp_X12_thrown τ1 w (fun t => lawT 1 b t (f1 0) (RI B σ τ1))) := fun f1 hc => by
    unfold wp_X12_method
    refine hM_in (fun J => J 1) (fun J hJ => hM_in (fun K => K) (fun K hK => ?_) hJ) ?_
    · refine ⟨fun _ => hK, fun q => ⟨fun q2 => ?_, fun _ => hK⟩⟩
      rcases hc with hc | hc
      · exact absurd hc q
      · exact absurd q2 hc
    · refine t_tI1 (br_f (by decide) ?_)
      unfold wp_X12_thrown
      exact lawT_thr (by decide) (by rw [hup_at, if_pos rfl]) h.th
  unfold wp_L_method wp_X11_method
  refine ⟨fun q => ⟨rfl, thr f (Or.inl q)⟩, fun q0 => ⟨fun q6 => ?_, fun q6 => ⟨rfl, thr f (Or.inr q6)⟩⟩⟩
  obtain ⟨m, hm31, rfl⟩ := nI_of q0
  have hm : m < 6 := (nI_ltI hm31 (by decide)).mp q6
  unfold wp_X3_begin wp_X3_beginBlock
  generalize hσ3 : (hup (hup (hup (hup (hup (hup σ 21 4 (σ 0 0)) 21 5 (0 : Int32)) 21 7 (0 : Int32)) 21 6 (0 : Int32)) 21 8 ((hup (hup (hup (hup σ 21 4 (σ 0 0)) 21 5 (0 : Int32)) 21 7 (0 : Int32)) 21 6 (0 : Int32)) 21 7)) 21 9 (0 : Int32)) = σ3
  have o3 : ∀ k, k ≠ 21 → σ3 k = σ k := fun k hk => by
    rw [← hσ3, hup_n _ _ _ hk, hup_n _ _ _ hk, hup_n _ _ _ hk, hup_n _ _ _ hk, hup_n _ _ _ hk, hup_n _ _ _ hk]
  have hx3 : m_x n σ3 (fun _ => 0) := by
    refine ⟨?_, fun j i1 i2 => ?_, fun k hk => absurd hk (Nat.not_lt_zero k), fun q => ?_, fun q => ?_⟩
    · rw [← hσ3, hup_at, if_neg (by decide), hup_at, if_neg (by decide), hup_at, if_neg (by decide), hup_at, if_neg (by decide), hup_at, if_neg (by decide), hup_at, if_pos rfl]; exact z1
    · rw [← hσ3]
      rcases (by omega : j = 5 ∨ j = 6 ∨ j = 7 ∨ j = 8 ∨ j = 9) with rfl | rfl | rfl | rfl | rfl
      · rw [hup_at, if_neg (by decide), hup_at, if_neg (by decide), hup_at, if_neg (by decide), hup_at, if_neg (by decide), hup_at, if_pos rfl]; rfl
      · rw [hup_at, if_neg (by decide), hup_at, if_neg (by decide), hup_at, if_pos rfl]; rfl
      · rw [hup_at, if_neg (by decide), hup_at, if_neg (by decide), hup_at, if_neg (by decide), hup_at, if_pos rfl]; rfl
      · rw [hup_at, if_neg (by decide), hup_at, if_pos rfl, hup_at, if_neg (by decide), hup_at, if_pos rfl]; rfl
      · rw [hup_at, if_pos rfl]; rfl
    · exact absurd q (by decide)
    · exact absurd q (by decide)
  have ho0 : m_ok n 0 (fun _ => 0) := ⟨by decide, fun k hk => absurd hk (Nat.not_lt_zero k), fun q => absurd q (by decide), fun q => absurd q (by decide), fun _ q => absurd q (by decide), fun q => absurd q (by decide)⟩
  have ht3 : σ3 19 1 = nI tz := by rw [o3 19 (by decide)]; exact t2
  have hb3 : ∀ i, i < tz → bt i < 256 ∧ σ3 20 i = bI (bt i) := fun i hi => by rw [o3 20 (by decide)]; exact ⟨(hbt i hi).1, (hbt i hi).2.1⟩
  have hrf := fun (Q : Int32 → hSt → Prop) => t_method (w := w) (Q := Q) hn4 hn t1 hm z2 t3 (fun i hi => ⟨(hbt i hi).1, (hbt i hi).2.2⟩) (rfl : m_rr n bt tz 0 (fun _ => 0) = m_rr n bt tz 0 (fun _ => 0))
  have eF : m_rn n bt tz (tz + 1) 0 (fun _ => 0) = m_rr n bt tz 0 (fun _ => 0) := rfl
  refine x_thru (s0 := fun _ => 0) hn4 hn t1 ht3 hb3 rfl rfl rfl ho0 hx3 (fun f0 σ4 k4 hz4 => ?_) (fun f0 σ4 k4 hz4 hv hK hcm => ?_)
  · rw [eF] at f0 hz4
    generalize m_rr n bt tz 0 (fun _ => 0) = F at f0 hz4 hrf
    unfold wp_X9_cut wp_X10_kind_r21 wp_X10_place_r21
    refine ⟨fun y => absurd rfl y, fun _ => ?_⟩
    have e0 : (hup σ4 19 1 (0 : Int32)) 21 0 = nI (F 0) := by rw [hup_ne _ _ (by decide)]; exact hz4.1
    have e1 : (hup (hup σ4 19 1 (0 : Int32)) 0 1 ((hup σ4 19 1 (0 : Int32)) 21 0)) 21 1 = nI (F 1) := by rw [hup_ne _ _ (by decide), hup_ne _ _ (by decide)]; exact hz4.2.1
    rw [e1, e0]
    refine hrf _ (fun _ τ' kg a1 a2 a6 a0 a8 a11 => ?_) (fun y => absurd y f0)
    unfold wp_X12_thrown
    refine lawT_ret a0 updL0 ?_
    have kk : ∀ k, k ≠ 0 → k ≠ 19 → k ≠ 21 → k ≠ 22 → k ≠ 23 → (hup (hup σ4 19 1 (0 : Int32)) 0 1 (nI (F 0))) k = σ k := fun k i0 i1 i2 i3 i4 => by rw [hup_n _ _ _ i0, hup_n _ _ _ i1, k4 k i2 i3 i4]; exact o3 k i2
    refine ⟨n, Ks, μs, L, lm, lc, 0, hn4, hn, ⟨?_, ?_, ?_, ?_, ?_⟩, ⟨Nat.zero_le _, ?_, a8, fun i hi => absurd hi (Nat.not_lt_zero i)⟩, fun m' hm' => ?_, hL, hOK, hX.mv4 (fun k i1 i2 => kk k (by omega) (by omega) (by omega) (by omega) (by omega)), ⟨?_, fun k hk => ?_⟩, ?_, ?_⟩
    · rw [hup_at, if_neg (by decide), hup_n _ _ _ (by decide), k4 0 (by decide) (by decide) (by decide), o3 0 (by decide)]; exact z1
    · rw [kg.2 1 (Or.inl rfl)]; exact z2
    · rw [hup_at, if_pos rfl, a11]
    · rw [kk 35 (by decide) (by decide) (by decide) (by decide) (by decide), kg.2 37 (Or.inr rfl)]; exact z4
    · rw [kk 3 (by decide) (by decide) (by decide) (by decide) (by decide)]; exact z5
    · rw [hup_ne _ _ (by decide), hup_at, if_pos rfl]; rfl
    · obtain ⟨m1, m2, m3⟩ := hM m' hm'
      exact ⟨m1, m2.mv (kk _ (by omega) (by omega) (by omega) (by omega) (by omega)) (kk _ (by omega) (by omega) (by omega) (by omega) (by omega)), m3.mv a1 a2⟩
    · rw [a6]; exact hY.1
    · rw [kg.1 3 (by decide) (by decide) (by decide) (by decide) (by decide), kg.1 4 (by decide) (by decide) (by decide) (by decide) (by decide)]; exact hY.2 k hk
    · unfold rP; rw [kk 31 (by decide) (by decide) (by decide) (by decide) (by decide)]; exact hP
    · obtain ⟨tp, u1, u2, u3⟩ := hS
      exact ⟨tp, u1, by rw [kk 17 (by decide) (by decide) (by decide) (by decide) (by decide)]; exact u2, fun r hr => by rw [kk 18 (by decide) (by decide) (by decide) (by decide) (by decide)]; exact u3 r hr⟩
  · rw [eF] at f0 hz4 hv hK hcm
    generalize m_rr n bt tz 0 (fun _ => 0) = F at f0 hz4 hv hK hcm hrf
    have h64 := hv.1
    unfold wp_X9_cut wp_X10_kind_r21 wp_X3_draft
    refine ⟨fun _ => ?_, fun y => absurd y (by decide)⟩
    have e0 : (hup σ4 19 1 (0 : Int32)) 21 0 = 0 := by rw [hup_ne _ _ (by decide), hz4.1, f0]; rfl
    rw [e0]
    refine s_at hm ?_
    have hcm5 : cM (hup (hup σ4 19 1 (0 : Int32)) 0 1 0) 22 n (F 7) (m_ms F) := hcm.mv (by rw [hup_n _ _ _ (by decide), hup_n _ _ _ (by decide)]) (by rw [hup_n _ _ _ (by decide), hup_n _ _ _ (by decide)])
    have hLm : hLn (5 + 2 * m + 1) = 64 := by rcases i6l hm with e | e | e | e | e | e <;> rw [e] <;> rfl
    refine s_copyFrom hn hLm rfl ⟨by omega, by omega, by omega⟩ hv hK hcm5 (fun σ6 o6 hc6 => ?_)
    have e60 : σ6 0 0 = nI n := by rw [o6 0 (by omega) (by omega), hup_at, if_neg (by decide), hup_n _ _ _ (by decide), k4 0 (by decide) (by decide) (by decide), o3 0 (by decide)]; exact z1
    rw [e60]
    refine s_clearP hn (fun σ7 o7 p5 p6 p7 p8 p9 => ?_)
    refine s_at hm ?_
    unfold wp_X2_size
    have hc7 : cM σ7 (5 + 2 * m) n (F 7) (m_ms F) := hc6.mv (o7 _ (by omega)) (o7 _ (by omega))
    rw [hc7.1]
    refine hrf _ (fun y => absurd f0 y) (fun _ _ τ' kg a1 b1 a2 b2 a6 a0 a8 a11 => ?_)
    unfold wp_X12_thrown
    refine lawT_ret a0 updL0 ?_
    have kk : ∀ k, k ≠ 0 → k ≠ 19 → k ≠ 21 → k ≠ 22 → k ≠ 23 → k ≠ 31 → k ≠ 5 + 2 * m → k ≠ 5 + 2 * m + 1 → σ7 k = σ k := fun k i0 i1 i2 i3 i4 i5 i6 i7 => by
      rw [o7 k i5, o6 k i6 i7, hup_n _ _ _ i0, hup_n _ _ _ i1, k4 k i2 i3 i4]; exact o3 k i2
    refine ⟨n, upN Ks m (F 7), fun j => if j = m then m_ms F else μs j, 0, fun _ => 0, fun _ => 0, 0, hn4, hn, ⟨?_, ?_, ?_, ?_, ?_⟩, ⟨Nat.zero_le _, ?_, a8, fun i hi => absurd hi (Nat.not_lt_zero i)⟩, fun m' hm' => ?_, Nat.zero_le _, fun k hk => absurd hk (Nat.not_lt_zero k), ⟨p5, p6, p7, p8, fun k hk => absurd hk (Nat.not_lt_zero k)⟩, ⟨a6, fun k hk => absurd hk (Nat.not_lt_zero k)⟩, Or.inl p9, ?_⟩
    · rw [o7 0 (by decide)]; exact e60
    · rw [kg.2 1 (Or.inl rfl)]; exact z2
    · rw [o7 0 (by decide), o6 0 (by omega) (by omega), hup_at, if_pos rfl, a11]
    · rw [kk 35 (by decide) (by decide) (by decide) (by decide) (by decide) (by decide) (by omega) (by omega), kg.2 37 (Or.inr rfl)]; exact z4
    · rw [kk 3 (by decide) (by decide) (by decide) (by decide) (by decide) (by decide) (by omega) (by omega)]; exact z5
    · rw [o7 19 (by decide), o6 19 (by omega) (by omega), hup_ne _ _ (by decide), hup_at, if_pos rfl]; rfl
    · by_cases e : m' = m
      · subst e
        have eK : upN Ks m' (F 7) m' = F 7 := upN_eq
        have eμ : (fun j => if j = m' then m_ms F else μs j) m' = m_ms F := if_pos rfl
        rw [eK, eμ]
        exact ⟨hv, hc7, b1, fun k hk _ => b2 k hk⟩
      · have eK : upN Ks m (F 7) m' = Ks m' := upN_ne e
        have eμ : (fun j => if j = m then m_ms F else μs j) m' = μs m' := if_neg e
        rw [eK, eμ]
        obtain ⟨m1, m2, m3⟩ := hM m' hm'
        refine ⟨m1, m2.mv (kk _ (by omega) (by omega) (by omega) (by omega) (by omega) (by omega) (by omega) (by omega)) (kk _ (by omega) (by omega) (by omega) (by omega) (by omega) (by omega) (by omega) (by omega)), by rw [a1 m' e]; exact m3.1, fun k hk hKp => ?_⟩
        have h66 : k < 66 := by
          have := m1.1
          unfold relv at hk; omega
        rw [a2 _ (by omega)]; exact m3.2 k hk hKp
    · obtain ⟨tp, u1, u2, u3⟩ := hS
      exact ⟨tp, u1, by rw [kk 17 (by decide) (by decide) (by decide) (by decide) (by decide) (by decide) (by omega) (by omega)]; exact u2, fun r hr => by rw [kk 18 (by decide) (by decide) (by decide) (by decide) (by decide) (by decide) (by omega) (by omega)]; exact u3 r hr⟩

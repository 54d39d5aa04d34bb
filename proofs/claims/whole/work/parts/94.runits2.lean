def rbody (P15 : Int32 → Int32 → Int32 → hSt → Prop) (Q : Int32 → hSt → Prop) (v1_2 v2_3 v3_4 : Int32) (w : Nat → Int64) (v5_11 : Int32) (σ12 : hSt) : Prop :=
  (wp_X12_peek σ12 w (fun r14 => (hM_ (fun (z15 : Int32) => (hM_ (fun (v1_16 : Int32) (v2_17 : Int32) (σ18 : hSt) => (vp_in (σ18 0 20) 500 ∧ (vp_in ((hup σ18 8 ((σ18 0 20)).toNatClampNeg r14) 0 20) 500 ∧ (hM_ (fun (z21 : Int32) => (wp_X12_blanks (hup (hup (hup (hup σ18 8 ((σ18 0 20)).toNatClampNeg r14) 9 (((hup σ18 8 ((σ18 0 20)).toNatClampNeg r14) 0 20)).toNatClampNeg v5_11) 0 20 (((hup (hup σ18 8 ((σ18 0 20)).toNatClampNeg r14) 9 (((hup σ18 8 ((σ18 0 20)).toNatClampNeg r14) 0 20)).toNatClampNeg v5_11) 0 20) + (1 : Int32))) 0 10 (((hup (hup (hup σ18 8 ((σ18 0 20)).toNatClampNeg r14) 9 (((hup σ18 8 ((σ18 0 20)).toNatClampNeg r14) 0 20)).toNatClampNeg v5_11) 0 20 (((hup (hup σ18 8 ((σ18 0 20)).toNatClampNeg r14) 9 (((hup σ18 8 ((σ18 0 20)).toNatClampNeg r14) 0 20)).toNatClampNeg v5_11) 0 20) + (1 : Int32))) 0 10) + (1 : Int32))) w (fun σ22 => (P15 v1_16 v2_17 z21 σ22)))) (fun J387 : Int32 → Prop => ((¬ r14 = (40 : Int32) → (J387 (0 : Int32))) ∧ (r14 = (40 : Int32) → (J387 (1 : Int32))))))))) (fun J343 : Int32 → Int32 → hSt → Prop => (hM_ (((¬ r14 = (40 : Int32) → (hM_ ((hM_ ((wp_X12_isTold v2_3 σ12 w (fun r26 => ((¬ r26 = 0 → (J343 v1_2 v2_3 σ12)) ∧ (r26 = 0 → (wp_X12_wrong (3 : Int32) (σ12 0 10) σ12 w (fun r29 σ28 => (hbo r29 ∧ Q r29 σ28)))))))) (fun J315 : Prop => ((r14 = (112 : Int32) → J315) ∧ (¬ r14 = (112 : Int32) → ((r14 = (98 : Int32) → J315) ∧ (¬ r14 = (98 : Int32) → ((¬ r14 = (115 : Int32) → (wp_X12_wrong (1 : Int32) (σ12 0 10) σ12 w (fun r35 σ34 => (hbo r35 ∧ Q r35 σ34)))) ∧ (r14 = (115 : Int32) → J315))))))))) (fun J294 : Prop => ((r14 < (65 : Int32) → J294) ∧ (¬ r14 < (65 : Int32) → (((70 : Int32) < r14 → J294) ∧ (¬ (70 : Int32) < r14 → (wp_X12_isTold (r14 - (65 : Int32)) σ12 w (fun r40 => ((¬ r40 = 0 → (∀ x2_42 : Int32, x2_42 = (r14 - (65 : Int32)) → (J343 v1_2 x2_42 σ12))) ∧ (r40 = 0 → (wp_X12_wrong (3 : Int32) (σ12 0 10) σ12 w (fun r44 σ43 => (hbo r44 ∧ Q r44 σ43)))))))))))))) ∧ (r14 = (40 : Int32) → ((¬ v1_2 = (5 : Int32) → (vp_in v1_2 8 ∧ (∀ x1_48 : Int32, x1_48 = v1_2 + (1 : Int32) → (J343 x1_48 v2_3 (hup σ12 11 (v1_2).toNatClampNeg (σ12 0 20)))))) ∧ (v1_2 = (5 : Int32) → (wp_X12_wrong (4 : Int32) (σ12 0 10) σ12 w (fun r50 σ49 => (hbo r50 ∧ Q r50 σ49)))))))) (fun J211 : Prop => ((¬ r14 = (41 : Int32) → J211) ∧ (r14 = (41 : Int32) → ((¬ v3_4 = 0 → J211) ∧ (v3_4 = 0 → ((¬ z15 = 0 → J211) ∧ (z15 = 0 → ((v1_2 ≤ 0 → J211) ∧ (¬ v1_2 ≤ 0 → (∀ x1_56 : Int32, x1_56 = v1_2 + (-1 : Int32) → (vp_in x1_56 8 ∧ (∀ x8_58 : Int32, x8_58 = (σ12 11 (x1_56).toNatClampNeg) → (vp_in x8_58 500 ∧ (vp_in ((hup σ12 10 (x8_58).toNatClampNeg (σ12 0 20)) 0 20) 500 ∧ (J343 x1_56 v2_3 (hup (hup σ12 10 (x8_58).toNatClampNeg (σ12 0 20)) 10 (((hup σ12 10 (x8_58).toNatClampNeg (σ12 0 20)) 0 20)).toNatClampNeg x8_58)))))))))))))))))))) (fun J153 : Int32 → Prop => ((v5_11 ≤ (1 : Int32) → (J153 (0 : Int32))) ∧ (¬ v5_11 ≤ (1 : Int32) → (J153 (1 : Int32))))))))
/-- an item read, not yet laid -/
def itP (τ τ3 : hSt) (n z p2 u c d' m' : Nat) (Ks bt F s s2 s3 : Nat → Nat) : Prop :=
  kpW τ τ3 ∧ r_t τ3 n z p2 bt ∧ q_rr Ks bt z (p2 + 1) s3 = F ∧ (d' ≤ 5 ∧ m' < 6) ∧ (s3 0 = 0 ∧ s3 2 = 0 ∧ s3 10 = 0) ∧ s3 6 = u + 1 ∧ s3 7 = m' ∧ s3 8 = d' ∧ s3 9 = (if c = 40 then 1 else 0) ∧
  (∀ k, k < 1000 → s3 (1000 + k) = if k = u then c else s (1000 + k)) ∧ (∀ k, k < 1000 → s3 (2000 + k) = if k = u then nmv s2 else s (2000 + k)) ∧ τ3 0 20 = nI u ∧ τ3 8 = τ 8 ∧ τ3 9 = τ 9 ∧
  (∀ k, k < u + 1 → s3 (1000 + k) = 41 → τ3 10 k = nI (s3 (3000 + k))) ∧ (∀ i, i < d' → τ3 11 i = nI (s3 (4000 + i)) ∧ s3 (4000 + i) < u + 1 ∧ s3 (1000 + s3 (4000 + i)) = 40)
theorem t_item {τ0 τ5 τ2 : hSt} {w : Nat → Int64} {n z p p2 : Nat} {Ks bt F s s2 : Nat → Nat} {P : Int32 → Int32 → Int32 → hSt → Prop} {Q : Int32 → hSt → Prop} {v5 : Int32} (hz : z ≤ 500) (hT : ∀ τ', τ' 1 = τ0 1 → ∀ m, m < 6 → ∀ Q : Int32 → Prop, (0 < Ks m → Q 1) → (¬ 0 < Ks m → Q 0) → wp_X12_isTold (nI m) τ' w Q) (hX : flR τ0 F Q)
    (a7 : s 7 < 6) (a8 : s 8 ≤ 5) (a9 : s 9 ≤ 1) (a6 : s 6 ≤ p) (k5 : kpW τ0 τ5) (hA : arS τ5 s) (hgo : ¬ (p = z ∧ s 9 = 0 ∧ s 8 = 0)) (hP : ∀ v1 v2 v3 τ', cuS τ0 τ' n z Ks bt F v1 v2 v3 → z - (τ' 0 10).toNatClampNeg < z - p → P v1 v2 v3 τ') (hN : nuS τ5 τ2 n z p Ks bt F s v5 p2 s2) : rbody P Q (nI (s 8)) (nI (s 7)) (nI (s 9)) w v5 τ2 := by
  obtain ⟨hp2, kC, r2, ⟨b0, b2⟩, heq, rfl, b10, b10p, hdg, hF, n32, n10⟩ := hN
  have hpz := r2.2.2.2.1
  have e10 : τ2 0 10 = nI p2 := r2.2.2.1
  have hs := r2.sg p2
  have g6 : s2 6 = s 6 := heq 6 (by decide) (by decide) (by decide)
  have g7 : s2 7 = s 7 := heq 7 (by decide) (by decide) (by decide)
  have g8 : s2 8 = s 8 := heq 8 (by decide) (by decide) (by decide)
  have g9 : s2 9 = s 9 := heq 9 (by decide) (by decide) (by decide)
  obtain ⟨A1, A2, A3⟩ := hA
  have k2 : kpW τ0 τ2 := k5.tr kC.r
  have e20 : τ2 0 20 = nI (s 6) := by rw [kC.2 20 (by decide) (by decide)]; exact A1
  have t1 : τ2 1 = τ0 1 := by rw [k2.1 1 (by decide) (by decide) (by decide) (by decide) (by decide)]
  rw [qr_step b0 hpz] at hF
  obtain ⟨c, hc⟩ : ∃ c, sgn bt z p2 = c := ⟨_, rfl⟩
  rw [hc] at hs hdg hF n32 n10
  have hlt : c ≠ 999 → p2 < z := fun h9 => by
    rcases Nat.lt_or_ge p2 z with y | y
    · exact y
    · exact absurd (by rw [← hc]; unfold sgn; rw [if_neg (by omega)]) h9
  have flt : ∀ k, k ≠ 0 → q_st Ks c p2 s2 0 = k → q_st Ks c p2 s2 1 = p2 → Q 0 (hup (hup τ2 0 11 (nI k)) 0 12 (τ2 0 10)) := fun k hk f0 f1 => by
    rw [qr_stop (by rw [f0]; exact hk)] at hF
    subst hF
    exact fr_wr hX k2 f0 hk f1 e10
  unfold rbody
  refine t_peek hz r2 ?_
  rw [hc]
  refine hM_in (fun J => J (nI (if s2 10 = 0 then 0 else 1))) (fun J hJ => ?_) ?_
  · unfold nmv
    by_cases q : s2 10 = 0
    · rw [if_pos q] at hJ ⊢
      exact br_t (by decide) hJ
    · rw [if_neg q] at hJ ⊢
      exact br_f (nI_ge (a := 1) (b := s2 10 - 1) (by omega) (by omega)) hJ
  try dsimp only
  refine hM_in (fun J => ∀ d' m' τ3 s3, p2 < z → itP τ2 τ3 n z p2 (s 6) c d' m' Ks bt F s s2 s3 → J (nI d') (nI m') τ3) (fun J hJ => ?_) (fun d' m' τ3 s3 hlt2 hI => ?_)
  rotate_left
  · -- the item is laid
    obtain ⟨k3, r3, hF3, ⟨d5, m6⟩, ⟨c0, c2, c10⟩, c6, c7, c8, c9, ck, ct, f20, f8, f9, fp, fo⟩ := hI
    have f10 : τ3 0 10 = nI p2 := r3.2.2.1
    refine ⟨by rw [f20]; exact vp_in_nI (by omega) (by decide), by rw [hup_ne _ _ (by decide), f20]; exact vp_in_nI (by omega) (by decide), ?_⟩
    refine hM_in (fun J => J (nI (if c = 40 then 1 else 0))) (fun J hJ => ?_) ?_
    · refine sg_isn (k := 40) hs (by decide) (fun q => ?_) (fun q => ?_)
      · rw [if_neg q] at hJ; exact hJ
      · rw [if_pos q] at hJ; exact hJ
    try dsimp only
    have fin : ∀ τ4, (∀ k, k ≠ 0 → k ≠ 8 → k ≠ 9 → τ4 k = τ3 k) → (∀ j, j ≠ 10 → j ≠ 20 → τ4 0 j = τ3 0 j) → τ4 0 20 = nI (s 6 + 1) → τ4 0 10 = nI (p2 + 1) → (∀ j, τ4 8 j = if j = s 6 then sgI c else τ3 8 j) → (∀ j, τ4 9 j = if j = s 6 then nI (nmv s2) else τ3 9 j) → wp_X12_blanks τ4 w (fun σ22 => P (nI d') (nI m') (nI (if c = 40 then 1 else 0)) σ22) := fun τ4 o1 o2 o20 o10 o8 o9 => by
      have r4 : r_t τ4 n z (p2 + 1) bt := ⟨by rw [o2 1 (by decide) (by decide)]; exact r3.1, by rw [o2 9 (by decide) (by decide)]; exact r3.2.1, o10, by omega, fun i hi => by rw [o1 5 (by decide) (by decide) (by decide)]; exact r3.2.2.2.2 i hi⟩
      have k4 : kpW τ3 τ4 := ⟨fun k i1 i2 i3 _ _ => o1 k i1 i2 i3, fun j i1 _ i2 => o2 j i1 i2⟩
      have ec : sgI c = nI c := by unfold sgI; rw [if_neg (fun e => by rw [e] at hc; unfold sgn at hc; rw [if_pos hlt2] at hc; have := (r2.2.2.2.2 p2 hlt2).1; omega)]
      have A4 : arS τ4 s3 := by
        refine ⟨by rw [o20, c6], fun k hk => ⟨?_, ?_, fun q => ?_⟩, fun i hi => ?_⟩
        · rw [c6] at hk
          rw [o8, ck k (by omega)]
          by_cases y : k = s 6
          · rw [if_pos y, if_pos y]; exact ec
          · rw [if_neg y, if_neg y, f8, kC.1 8 (by decide)]; exact (A2 k (by omega)).1
        · rw [c6] at hk
          rw [o9, ct k (by omega)]
          by_cases y : k = s 6
          · rw [if_pos y, if_pos y]
          · rw [if_neg y, if_neg y, f9, kC.1 9 (by decide)]; exact (A2 k (by omega)).2.1
        · rw [c6] at hk
          rw [o1 10 (by decide) (by decide) (by decide)]; exact fp k hk q
        · rw [c8] at hi
          obtain ⟨y1, y2, y3⟩ := fo i hi
          rw [o1 11 (by decide) (by decide) (by decide), c6]
          exact ⟨y1, y2, y3⟩
      refine q_blanks hz r4 c0 c2 hF3 (fun p3 τ5' hp3 kC3 r5 hF5 m32 m10 => ?_)
      have hpz3 := r5.2.2.2.1
      have e103 : τ5' 0 10 = nI p3 := r5.2.2.1
      refine hP _ _ _ _ ⟨p3, s3, by rw [c8], by rw [c7], by rw [c9], ⟨by omega, by omega, by rw [c9]; split <;> decide, by omega⟩, ((k2.tr k3).tr k4).tr kC3.r, r5, ⟨c0, c2, c10⟩, hF5, A4.mv kC3 (fun _ _ _ _ => rfl), m32, m10⟩ ?_
      rw [e103, nI_clamp (by omega)]; omega
    refine fin _ (fun k i1 i2 i3 => by rw [hup_n _ _ _ i1, hup_n _ _ _ i1, hup_n _ _ _ i3, hup_n _ _ _ i2]) (fun j i1 i2 => by rw [hup_at, if_neg i1, hup_at, if_neg i2, hup_ne _ _ (by decide), hup_ne _ _ (by decide)]) ?_ ?_ (fun j => ?_) (fun j => ?_)
    · rw [hup_at, if_neg (by decide), hup_at, if_pos rfl, hup_ne _ _ (by decide), hup_ne _ _ (by decide), f20, nI_suc]
    · rw [hup_at, if_pos rfl, hup_at, if_neg (by decide), hup_ne _ _ (by decide), hup_ne _ _ (by decide), f10, nI_suc]
    · rw [hup_ne _ _ (by decide), hup_ne _ _ (by decide), hup_ne _ _ (by decide), hup_at, f20, nI_clamp (by omega)]
    · rw [hup_ne _ _ (by decide), hup_ne _ _ (by decide), hup_at, hup_ne _ _ (by decide), hup_ne _ _ (by decide), f20, nI_clamp (by omega)]
  -- a unit
  have unit : ∀ m' s2', m' < 6 → (∀ j, j ≠ 7 → s2' j = s2 j) → s2' 7 = m' → c ≠ 40 → c ≠ 41 → c ≠ 999 → q_st Ks c p2 s2 = upN (q_it c s2') 9 0 → J (nI (s 8)) (nI m') τ2 := fun m' s2' hm' he he7 h40 h41 h9 hst => by
    have l2 := hlt h9
    rw [hst] at hF
    have u6 : s2' 6 = s 6 := by rw [he 6 (by decide)]; exact g6
    have u10 : s2' 10 = s2 10 := he 10 (by decide)
    have l6 : s2' 6 < 1000 := by omega
    have g : ∀ j, j ≠ 9 → upN (q_it c s2') 9 0 j = q_it c s2' j := fun j hj => upN_ne hj
    have ck : ∀ k, k < 1000 → upN (q_it c s2') 9 0 (1000 + k) = if k = s 6 then c else s (1000 + k) := fun k hk => by rw [g _ (by omega), it_kd hk l6, u6, he _ (by omega), heq _ (by omega) (by omega) (by omega)]
    have hi : ∀ j, 3000 ≤ j → upN (q_it c s2') 9 0 j = s j := fun j hj => by rw [g _ (by omega), it_hi hj l6, he _ (by omega), heq _ (by omega) (by omega) (by omega)]
    refine hJ (s 8) m' τ2 _ l2 ⟨kpW.rf, r2, hF, ⟨a8, hm'⟩, ⟨?_, ?_, ?_⟩, ?_, ?_, ?_, ?_, ck, fun k hk => ?_, e20, rfl, rfl, fun k hk q => ?_, fun i hi2 => ?_⟩
    · rw [g 0 (by decide), it_lo (by decide) (by decide) (by decide), he 0 (by decide)]; exact b0
    · rw [g 2 (by decide), it_lo (by decide) (by decide) (by decide), he 2 (by decide)]; exact b2
    · rw [g 10 (by decide), it_10]
    · rw [g 6 (by decide), it_6, u6]
    · rw [g 7 (by decide), it_lo (by decide) (by decide) (by decide)]; exact he7
    · rw [g 8 (by decide), it_lo (by decide) (by decide) (by decide), he 8 (by decide)]; exact g8
    · rw [upN_eq, if_neg h40]
    · rw [g _ (by omega), it_tm hk l6, u6, u10, he _ (by omega), heq (2000 + k) (by omega) (by omega) (by omega)]; rfl
    · rw [ck k (by omega)] at q
      by_cases y : k = s 6
      · rw [if_pos y] at q; exact absurd q h41
      · rw [if_neg y] at q
        rw [hi _ (by omega), kC.1 10 (by decide)]; exact (A2 k (by omega)).2.2 q
    · obtain ⟨y1, y2, y3⟩ := A3 i hi2
      rw [hi _ (by omega), kC.1 11 (by decide)]
      exact ⟨y1, by omega, by rw [ck _ (by omega), if_neg (by omega)]; exact y3⟩
  -- the ways but the closing one
  refine hM_in (fun J2 => ¬ (c = 41 ∧ s 9 = 0 ∧ s2 10 = 0 ∧ 1 ≤ s 8) → J2) (fun J2 hJ2 => ?_) (fun hnc => ?_)
  · refine sg_isn (k := 41) hs (by decide) (fun q => hJ2 (fun y => q y.1)) (fun q41 => ?_)
    refine pk_en (s 9) 0 (fun q => hJ2 (fun y => q y.2.1)) (fun q9 => ?_) rfl rfl
    refine pk_en (if s2 10 = 0 then 0 else 1) 0 (fun q => hJ2 (fun y => by rw [if_pos y.2.2.1] at q; exact q rfl)) (fun q10 => ?_) rfl rfl (by split <;> decide)
    have y10 : s2 10 = 0 := by
      by_cases y : s2 10 = 0
      · exact y
      · rw [if_neg y] at q10; exact absurd q10 (by decide)
    refine pk_le (s 8) 0 (fun q => hJ2 (fun y => by omega)) (fun q8 => ?_) rfl rfl
    obtain ⟨dd, hdd⟩ : ∃ dd, s 8 = dd + 1 := ⟨s 8 - 1, by omega⟩
    intro x1 hx1
    rw [hdd, pk_m1] at hx1
    subst hx1
    obtain ⟨o1, o2, o3⟩ := A3 dd (by omega)
    have o1' : τ2 11 dd = nI (s (4000 + dd)) := by rw [kC.1 11 (by decide)]; exact o1
    have l2 := hlt (by omega)
    refine ⟨vp_in_nI (by omega) (by decide), ?_⟩
    rw [nI_clamp (by omega)]
    intro x8 hx8
    rw [o1'] at hx8
    subst hx8
    refine ⟨vp_in_nI (by omega) (by decide), by rw [hup_ne _ _ (by decide), e20]; exact vp_in_nI (by omega) (by decide), ?_⟩
    have hst : q_st Ks c p2 s2 = q_cx s2 := by
      rw [q41, qt_sg (by unfold dgt; omega) b2, qs_41]
      unfold q_cg
      rw [if_neg (by omega)]
    rw [hst] at hF
    unfold q_cx at hF
    rw [g6, g8, hdd, show dd + 1 - 1 = dd by omega, heq (4000 + dd) (by omega) (by omega) (by omega)] at hF
    generalize hS : upN (upN (upN s2 (3000 + s 6) (s (4000 + dd))) (3000 + s (4000 + dd)) (s 6)) 8 dd = s1 at hF
    have t : ∀ j, j ≠ 8 → ¬ (3000 ≤ j ∧ j < 4000) → s1 j = s2 j := fun j i1 i2 => by rw [← hS, upN_ne i1, upN_ne (by omega), upN_ne (by omega)]
    have t6 : s1 6 = s 6 := by rw [t 6 (by decide) (by omega)]; exact g6
    have t10 : s1 10 = s2 10 := t 10 (by decide) (by omega)
    have l6 : s1 6 < 1000 := by omega
    have ck : ∀ k, k < 1000 → q_it 41 s1 (1000 + k) = if k = s 6 then c else s (1000 + k) := fun k hk => by rw [it_kd hk l6, t6, t _ (by omega) (by omega), heq _ (by omega) (by omega) (by omega), q41]
    have h4 : ∀ i, i < 1000 → q_it 41 s1 (4000 + i) = s (4000 + i) := fun i hi => by rw [it_hi (by omega) l6, t _ (by omega) (by omega), heq _ (by omega) (by omega) (by omega)]
    have h3 : ∀ k, k < 1000 → k ≠ s 6 → k ≠ s (4000 + dd) → q_it 41 s1 (3000 + k) = s (3000 + k) := fun k hk i1 i2 => by rw [it_hi (by omega) l6, ← hS, upN_ne (by omega), upN_ne (by omega), upN_ne (by omega), heq _ (by omega) (by omega) (by omega)]
    have h3u : q_it 41 s1 (3000 + s 6) = s (4000 + dd) := by rw [it_hi (by omega) l6, ← hS, upN_ne (by omega), upN_ne (by omega), upN_eq]
    rw [nI_clamp (by omega), show (hup τ2 10 (s (4000 + dd)) (τ2 0 20)) 0 20 = nI (s 6) by rw [hup_ne _ _ (by decide)]; exact e20, nI_clamp (by omega)]
    refine hJ dd (s 7) _ (q_it 41 s1) l2 ⟨(kpW.h (Or.inr (Or.inr (Or.inl rfl)))).tr (kpW.h (Or.inr (Or.inr (Or.inl rfl)))), (r2.hr (Or.inr (Or.inr (Or.inl rfl)))).hr (Or.inr (Or.inr (Or.inl rfl))), hF, ⟨by omega, a7⟩, ⟨?_, ?_, it_10⟩, by rw [it_6, t6], ?_, ?_, ?_, ck, fun k hk => ?_, ?_, ?_, ?_, fun k hk q => ?_, fun i hi => ?_⟩
    · rw [it_lo (by decide) (by decide) (by decide), t 0 (by decide) (by omega)]; exact b0
    · rw [it_lo (by decide) (by decide) (by decide), t 2 (by decide) (by omega)]; exact b2
    · rw [it_lo (by decide) (by decide) (by decide), t 7 (by decide) (by omega)]; exact g7
    · rw [it_lo (by decide) (by decide) (by decide), ← hS, upN_eq]
    · rw [it_lo (by decide) (by decide) (by decide), t 9 (by decide) (by omega), g9, q9, if_neg (by omega)]
    · rw [it_tm hk l6, t6, t10, t _ (by omega) (by omega), heq (2000 + k) (by omega) (by omega) (by omega)]; rfl
    · rw [hup_ne _ _ (by decide), hup_ne _ _ (by decide)]; exact e20
    · rw [hup_n _ _ _ (by decide), hup_n _ _ _ (by decide)]
    · rw [hup_n _ _ _ (by decide), hup_n _ _ _ (by decide)]
    · rw [hup_at, hup_at]
      by_cases y : k = s 6
      · rw [if_pos y, y, h3u]
      · rw [ck k (by omega), if_neg y] at q
        have y2 : k ≠ s (4000 + dd) := fun e => by rw [e, o3] at q; exact absurd q (by decide)
        rw [if_neg y, if_neg y2, h3 k (by omega) y y2, kC.1 10 (by decide)]
        exact (A2 k (by omega)).2.2 q
    · obtain ⟨y1, y2, y3⟩ := A3 i (by omega)
      rw [hup_ne _ _ (by decide), hup_ne _ _ (by decide), h4 i (by omega), kC.1 11 (by decide)]
      exact ⟨y1, by omega, by rw [ck _ (by omega), if_neg (by omega)]; exact y3⟩
  have bad1 : (q_st Ks c p2 s2 0 = 1 ∧ q_st Ks c p2 s2 1 = p2) → hbo 0 ∧ Q 0 (hup (hup τ2 0 11 (1 : Int32)) 0 12 (τ2 0 10)) := fun hf => ⟨hbo_0, flt 1 (by decide) hf.1 hf.2⟩
  have bad3 : (q_st Ks c p2 s2 0 = 3 ∧ q_st Ks c p2 s2 1 = p2) → hbo 0 ∧ Q 0 (hup (hup τ2 0 11 (3 : Int32)) 0 12 (τ2 0 10)) := fun hf => ⟨hbo_0, flt 3 (by decide) hf.1 hf.2⟩
  unfold wp_X12_wrong
  refine sg_isn (k := 40) hs (by decide) (fun q40 => ?_) (fun q40 => ?_)
  · refine hM_in (fun J3 => ¬ ltt c → J3) (fun J3 hJ3 => ?_) (fun hnl => ?_)
    · refine sg_lt (k := 65) hs (by decide) (fun q => hJ3 (fun y => by unfold ltt at y; omega)) (fun q9 q65 => ?_)
      refine sg_gt (k := 70) hs (by decide) (fun _ q => hJ3 (fun y => by unfold ltt at y; omega)) (fun q70 => ?_)
      have hl : ltt c := ⟨q65, by omega⟩
      have ec : sgI c = nI c := by unfold sgI; rw [if_neg q9]
      have hst : q_st Ks c p2 s2 = q_un Ks c (c - 65) p2 (upN s2 7 (c - 65)) := by rw [qt_sg (by unfold dgt; omega) b2, qs_l hl]
      rw [ec, show (65 : Int32) = nI 65 from rfl, pk_sub q65]
      refine hT τ2 t1 (c - 65) (by omega) _ (fun hK => ⟨fun _ => ?_, fun y => absurd y (by decide)⟩) (fun hK => ⟨fun y => absurd rfl y, fun _ => bad3 ?_⟩)
      · intro x2 hx2
        subst hx2
        refine unit (c - 65) (upN s2 7 (c - 65)) (by omega) (fun j hj => upN_ne hj) upN_eq q40 (by omega) q9 ?_
        rw [hst]; unfold q_un; rw [if_pos hK]
      · rw [hst]; unfold q_un; rw [if_neg hK]; exact ⟨rf_0, rf_1⟩
    · have uc : cll c → wp_X12_isTold (nI (s 7)) τ2 w (fun r26 => ((¬ r26 = 0 → (J (nI (s 8)) (nI (s 7)) τ2)) ∧ (r26 = 0 → (hbo 0 ∧ Q 0 (hup (hup τ2 0 11 (3 : Int32)) 0 12 (τ2 0 10)))))) := fun hcl => by
        have hst : q_st Ks c p2 s2 = q_un Ks c (s 7) p2 s2 := by rw [qt_sg (by unfold dgt; unfold cll at hcl; omega) b2, qs_c hcl, g7]
        refine hT τ2 t1 (s 7) a7 _ (fun hK => ⟨fun _ => ?_, fun y => absurd y (by decide)⟩) (fun hK => ⟨fun y => absurd rfl y, fun _ => bad3 ?_⟩)
        · refine unit (s 7) s2 a7 (fun _ _ => rfl) g7 q40 (by unfold cll at hcl; omega) (by unfold cll at hcl; omega) ?_
          rw [hst]; unfold q_un; rw [if_pos hK]
        · rw [hst]; unfold q_un; rw [if_neg hK]; exact ⟨rf_0, rf_1⟩
      refine hM_in (fun J4 => cll c → J4) (fun J4 hJ4 => ?_) uc
      refine sg_is (k := 112) hs (by decide) (fun q => hJ4 (Or.inl q)) (fun q1 => ?_)
      refine sg_is (k := 98) hs (by decide) (fun q => hJ4 (Or.inr (Or.inl q))) (fun q2 => ?_)
      refine sg_isn (k := 115) hs (by decide) (fun q3 => bad1 ?_) (fun q => hJ4 (Or.inr (Or.inr q)))
      have hncl : ¬ cll c := fun y => by unfold cll at y; omega
      by_cases hd : dgt c
      · have := hdg hd
        rw [qt_dg hd]
        unfold q_dg
        rw [if_pos b2, if_neg this]
        exact ⟨rf_0, rf_1⟩
      have e : q_st Ks c p2 s2 = m_rf 1 p2 s2 := by
        rw [qt_sg hd b2]
        by_cases h41 : c = 41
        · rw [h41, qs_41]
          unfold q_cg
          rw [if_pos (by omega)]
        by_cases h9 : c = 999
        · rw [h9, qs_e]
          unfold q_ee
          refine if_neg (fun y => ?_)
          have hp := b10p y.2.2
          have hpz2 : ¬ p2 < z := fun y2 => by
            have := (r2.2.2.2.2 p2 y2).1
            rw [h9] at hc
            unfold sgn at hc
            rw [if_pos y2] at hc
            omega
          exact hgo ⟨by omega, by omega, by omega⟩
        exact qs_o (by omega) hncl hnl ⟨q40, h41, h9⟩
      rw [e]
      exact ⟨rf_0, rf_1⟩
  · have l2 := hlt (by omega)
    refine pk_en (s 8) 5 (fun q5 => ?_) (fun q5 => ?_) rfl rfl
    · refine ⟨vp_in_nI (by omega) (by decide), ?_⟩
      intro x1 hx1
      rw [nI_suc] at hx1
      subst hx1
      rw [nI_clamp (by omega), e20]
      have hst : q_st Ks c p2 s2 = upN (q_it 40 (upN (upN s2 (4000 + s 8) (s 6)) 8 (s 8 + 1))) 9 1 := by
        rw [q40, qt_sg (by unfold dgt; omega) b2, qs_40]
        unfold q_og
        rw [if_pos (by omega), g6, g8]
      rw [hst] at hF
      generalize hS : upN (upN s2 (4000 + s 8) (s 6)) 8 (s 8 + 1) = s1 at hF
      have t : ∀ j, j ≠ 8 → j ≠ 4000 + s 8 → s1 j = s2 j := fun j i1 i2 => by rw [← hS, upN_ne i1, upN_ne i2]
      have t6 : s1 6 = s 6 := by rw [t 6 (by decide) (by omega)]; exact g6
      have t10 : s1 10 = s2 10 := t 10 (by decide) (by omega)
      have l6 : s1 6 < 1000 := by omega
      have g : ∀ j, j ≠ 9 → upN (q_it 40 s1) 9 1 j = q_it 40 s1 j := fun j hj => upN_ne hj
      have ck : ∀ k, k < 1000 → upN (q_it 40 s1) 9 1 (1000 + k) = if k = s 6 then c else s (1000 + k) := fun k hk => by rw [g _ (by omega), it_kd hk l6, t6, t _ (by omega) (by omega), heq _ (by omega) (by omega) (by omega), q40]
      refine hJ (s 8 + 1) (s 7) _ _ l2 ⟨kpW.h (Or.inr (Or.inr (Or.inr rfl))), r2.hr (Or.inr (Or.inr (Or.inr rfl))), hF, ⟨by omega, a7⟩, ⟨?_, ?_, ?_⟩, ?_, ?_, ?_, ?_, ck, fun k hk => ?_, ?_, ?_, ?_, fun k hk q => ?_, fun i hi => ?_⟩
      · rw [g 0 (by decide), it_lo (by decide) (by decide) (by decide), t 0 (by decide) (by omega)]; exact b0
      · rw [g 2 (by decide), it_lo (by decide) (by decide) (by decide), t 2 (by decide) (by omega)]; exact b2
      · rw [g 10 (by decide), it_10]
      · rw [g 6 (by decide), it_6, t6]
      · rw [g 7 (by decide), it_lo (by decide) (by decide) (by decide), t 7 (by decide) (by omega)]; exact g7
      · rw [g 8 (by decide), it_lo (by decide) (by decide) (by decide), ← hS, upN_eq]
      · rw [upN_eq, if_pos q40]
      · rw [g _ (by omega), it_tm hk l6, t6, t10, t _ (by omega) (by omega), heq (2000 + k) (by omega) (by omega) (by omega)]; rfl
      · rw [hup_ne _ _ (by decide)]; exact e20
      · rw [hup_n _ _ _ (by decide)]
      · rw [hup_n _ _ _ (by decide)]
      · rw [ck k (by omega)] at q
        by_cases y : k = s 6
        · rw [if_pos y] at q; omega
        · rw [if_neg y] at q
          rw [g _ (by omega), it_hi (by omega) l6, t _ (by omega) (by omega), heq _ (by omega) (by omega) (by omega), hup_ne _ _ (by decide), kC.1 10 (by decide)]
          exact (A2 k (by omega)).2.2 q
      · rw [g _ (by omega), it_hi (by omega) l6, hup_at]
        by_cases y : i = s 8
        · have e4 : s1 (4000 + i) = s 6 := by rw [y, ← hS, upN_ne (by omega), upN_eq]
          rw [if_pos y, e4, ck _ (by omega), if_pos rfl]
          exact ⟨rfl, Nat.lt_succ_self _, q40⟩
        · obtain ⟨y1, y2, y3⟩ := A3 i (by omega)
          have e4 : s1 (4000 + i) = s (4000 + i) := by rw [t _ (by omega) (by omega), heq _ (by omega) (by omega) (by omega)]
          rw [if_neg y, e4, kC.1 11 (by decide)]
          exact ⟨y1, by omega, by rw [ck _ (by omega), if_neg (by omega)]; exact y3⟩
    · refine ⟨hbo_0, flt 4 (by decide) ?_ ?_⟩
      · rw [q40, qt_sg (by unfold dgt; omega) b2, qs_40]; unfold q_og; rw [if_neg (by omega), rf_0]
      · rw [q40, qt_sg (by unfold dgt; omega) b2, qs_40]; unfold q_og; rw [if_neg (by omega), rf_1]
theorem t_readUnits {τ0 τ : hSt} {w : Nat → Int64} {n z : Nat} {Ks bt F : Nat → Nat} {Q : Int32 → hSt → Prop} (hz : z ≤ 500) (hT : ∀ τ', τ' 1 = τ0 1 → ∀ m, m < 6 → ∀ Q : Int32 → Prop, (0 < Ks m → Q 1) → (¬ 0 < Ks m → Q 0) → wp_X12_isTold (nI m) τ' w Q) (hr : r_t τ n z 0 bt) (h1 : τ 1 = τ0 1) (k0 : kpW τ0 τ) (hF : q_rr Ks bt z 0 q_0 = F) (hX : flR τ0 F Q)
    (hD : F 0 = 0 → ∀ τ', kpW τ0 τ' → arS τ' F → Q 1 τ') : wp_X12_readUnits τ w Q := by
  have hw20 : kpW τ0 (hup τ 0 20 (0 : Int32)) := k0.tr ⟨fun k a _ _ _ _ => hup_n _ _ _ a, fun j _ _ a => by rw [hup_at, if_neg a]⟩
  have hr20 : r_t (hup τ 0 20 (0 : Int32)) n z 0 bt := hr.w (by rw [hup_at, if_neg (by decide)]) (by rw [hup_at, if_neg (by decide)]) (by rw [hup_at, if_neg (by decide)]) (hup_n _ _ _ (by decide))
  unfold wp_X12_readUnits
  refine q_blanks hz hr20 (s := q_0) rfl rfl hF (fun p1 τ1 hp1 kC1 r1 hF1 m32 m10 => ?_)
  refine hL4_in (fun v1 v2 v3 τ' => cuS τ0 τ' n z Ks bt F v1 v2 v3) (fun _ _ _ τ' => z - (τ' 0 10).toNatClampNeg) ?_ ⟨p1, q_0, rfl, rfl, rfl, ⟨by decide, by decide, by decide, Nat.zero_le _⟩, hw20.tr kC1.r, r1, ⟨rfl, rfl, rfl⟩, hF1, ⟨by rw [kC1.2 20 (by decide) (by decide), hup_at, if_pos rfl]; rfl, fun k hk => absurd hk (Nat.not_lt_zero k), fun i hi => absurd hi (Nat.not_lt_zero i)⟩, m32, m10⟩
  clear hF1 r1 m32 m10 kC1 hp1 hr20 hw20 hF hr h1 k0
  rintro P v1 v2 v3 τ5 ⟨p, s, rfl, rfl, rfl, ⟨a7, a8, a9, a6⟩, k5, r5, ⟨h0, h2, h10⟩, hF, hA, n32, n10⟩ ih
  have hpz := r5.2.2.2.1
  have e10 : τ5 0 10 = nI p := r5.2.2.1
  have hs := r5.sg p
  refine hM_in (fun J => ¬ (p = z ∧ s 9 = 0 ∧ s 8 = 0) → J) (fun J hJ => ?_) (fun hgo => ?_)
  · refine pk_lt p z (fun q => hJ (fun y => by omega)) (fun q => ?_) e10 r5.2.1
    refine pk_en (s 9) 0 (fun q9 => hJ (fun y => q9 y.2.1)) (fun q9 => ?_) rfl rfl
    refine pk_le (s 8) 0 (fun q8 => ?_) (fun q8 => hJ (fun y => by omega)) rfl rfl
    have ep : p = z := by omega
    subst ep
    have e9 : sgn bt p p = 999 := by unfold sgn; rw [if_neg (Nat.lt_irrefl _)]
    rw [qr_step h0 (Nat.le_refl p), e9, qt_sg (by unfold dgt; omega) h2, qs_e] at hF
    unfold q_ee at hF
    rw [if_pos ⟨by omega, q9, h10⟩, qr_done] at hF
    subst hF
    exact hD h0 τ5 k5 hA
  intro x4 hx4
  rw [e10] at hx4
  subst hx4
  refine t_peek hz r5 ?_
  have hP' : ∀ v1 v2 v3 τ', cuS τ0 τ' n z Ks bt F v1 v2 v3 → z - (τ' 0 10).toNatClampNeg < z - p → P v1 v2 v3 τ' := fun v1 v2 v3 τ' hc hm => ih v1 v2 v3 τ' hc (by rw [e10, nI_clamp (by omega)]; exact hm)
  have rest : ∀ v5 p2 s2 τ2, nuS τ5 τ2 n z p Ks bt F s v5 p2 s2 → rbody P Q (nI (s 8)) (nI (s 7)) (nI (s 9)) w v5 τ2 := fun v5 p2 s2 τ2 hN => t_item hz hT hX a7 a8 a9 a6 k5 hA hgo hP' hN
  refine t_isDigit hs (fun hb => ?_) (fun hb => ?_)
  · refine hM_in (fun J => ∀ v5 p2 s2 τ2, nuS τ5 τ2 n z p Ks bt F s v5 p2 s2 → J v5 τ2) (fun J hJ => ?_) rest
    exact br_f (by decide) (t_num hz hX k5 r5 h0 h2 h10 hF hb hJ)
  · refine hM_in (fun J => J 1 τ5) (fun J hJ => br_t rfl hJ) (rest 1 p s τ5 ⟨Nat.le_refl p, kpC.rf, r5, ⟨h0, h2⟩, fun _ _ _ _ => rfl, by unfold nmv; rw [if_pos h10]; rfl, Or.inl h10, fun _ => rfl, fun y => absurd y hb, hF, n32, n10⟩)

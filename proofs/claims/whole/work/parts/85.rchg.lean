theorem t_readChange {τ : hSt} {w : Nat → Int64} {n z p : Nat} {bt s F : Nat → Nat} (h4 : 4 ≤ n) (hn : n ≤ 8) (hz : z ≤ 500) (h : r_t τ n z p bt) (h0 : s 0 = 0) (h2 : s 2 = 0) (h5 : s 5 ≤ 2) (hF : m_rr n bt z p s = F)
    (hB : bell (sgn bt z p) → ¬ (2 ≤ s 6 ∧ ¬ (s 5 = 0 ∧ s 6 = 2))) (hC : (sgn bt z p = 120 ∨ sgn bt z p = 45) → ¬ (2 ≤ s 6 ∧ s 5 ≠ 0)) (hO : ¬ bell (sgn bt z p) → ¬ (sgn bt z p = 120 ∨ sgn bt z p = 45) → m_sg n (sgn bt z p) p s = m_rf 1 p s) {Q : Int32 → hSt → Prop}
    (h1 : ∀ p' s' τ' v, p < p' → kpC τ τ' → r_t τ' n z p' bt → τ' 0 13 = nI v → s' 0 = 0 → s' 2 = 0 → (s' 6 = 2 ∨ s' 6 = 3) → (s' 6 = 3 ↔ bell (sgn bt z p)) → eqd s' (m_ad v s) → m_rr n bt z p' s' = F → Q 1 τ')
    (hX : ∀ τ', kpC τ τ' → F 0 ≠ 0 → Q 0 (hup (hup τ' 0 11 (nI (F 0))) 0 12 (nI (F 1)))) : wp_X12_readChange τ w Q := by
  have hs := h.sg p
  have hpz := h.2.2.2.1
  have e10 : τ 0 10 = nI p := h.2.2.1
  have en : τ 0 1 = nI n := h.1
  unfold wp_X12_readChange wp_X12_wrong
  refine t_peek hz h ?_
  intro x2 hx2
  rw [e10] at hx2
  subst hx2
  have wr : ∀ (k : Nat) (τ1 : hSt) (x : Int32), kpC τ τ1 → F 0 = k → k ≠ 0 → F 1 = p → x = nI p → Q 0 (hup (hup τ1 0 11 (nI k)) 0 12 x) := fun k τ1 x k1 f0 hk f1 ex => by
    have := hX τ1 k1 (by omega)
    rw [f0, f1, ← ex] at this
    exact this
  refine hM_in (fun J => (sgn bt z p = 120 ∨ sgn bt z p = 45) → J) (fun J hJ => ?_) (fun hc => ?_)
  rotate_left
  · have hlt : p < z := hc.elim (fun e => sgn_lt e (by decide)) (fun e => sgn_lt e (by decide))
    have hst : m_st n (sgn bt z p) p s = m_cr n p s := by rw [st_sg (by unfold bell; omega) h2, sg_x hc]
    rw [rr_step h0 hpz, hst] at hF
    rw [en, show nI n - nI n / (2 : Int32) * (2 : Int32) = nI (n % 2) from pk_rem (d := 2) (by omega) (by decide) (by decide)]
    refine pk_en (n % 2) 1 (fun q => ?_) (fun q => ?_) rfl rfl
    · have e : m_cr n p s = upN (m_ad 0 s) 6 2 := by unfold m_cr; rw [if_neg (hC hc), if_neg (by omega)]
      rw [e] at hF
      have e' : (hup (hup τ 0 13 (0 : Int32)) 0 10 (((hup τ 0 13 (0 : Int32)) 0 10) + (1 : Int32))) 0 10 = nI (p + 1) := by rw [hup_at, if_pos rfl, hup_at, if_neg (by decide), e10, nI_suc]
      have kk : kpC τ (hup (hup τ 0 13 (0 : Int32)) 0 10 (((hup τ 0 13 (0 : Int32)) 0 10) + (1 : Int32))) := (kpC.h (by omega)).tr (kpC.h (by omega))
      refine h1 (p + 1) _ _ 0 (by omega) kk (h.mv kk e' (by omega)) (by rw [hup_at, if_neg (by decide), hup_at, if_pos rfl]; rfl) ?_ ?_ (Or.inl upN_eq) ⟨fun q2 => ?_, fun q2 => ?_⟩ (fun j i1 i2 i3 => upN_ne i2) hF
      · rw [upN_ne (by decide), ad_lo h5 (by decide) (by decide)]; exact h0
      · rw [upN_ne (by decide), ad_lo h5 (by decide) (by decide)]; exact h2
      · rw [upN_eq] at q2; exact absurd q2 (by decide)
      · unfold bell at q2; omega
    · have e : m_cr n p s = m_rf 2 p s := by unfold m_cr; rw [if_neg (hC hc), if_pos q]
      rw [e, rr_stop (by rw [rf_0]; decide)] at hF
      subst hF
      exact ⟨hbo_0, wr 2 τ _ kpC.rf rf_0 (by decide) rf_1 e10⟩
  refine sg_is hs (by decide) (fun q => hJ (Or.inl q)) (fun q1 => ?_)
  refine sg_isn hs (by decide) (fun q2 => ?_) (fun q => hJ (Or.inr q))
  refine t_isBell hs (fun hb => ?_) (fun hb => ?_)
  rotate_left
  · refine ⟨fun y => absurd rfl y, fun _ => ⟨hbo_0, ?_⟩⟩
    rw [rr_step h0 hpz, st_sg hb h2, hO hb (by omega), rr_stop (by rw [rf_0]; decide)] at hF
    subst hF
    exact wr 1 τ _ kpC.rf rf_0 (by decide) rf_1 e10
  refine ⟨fun _ => ?_, fun y => absurd y (by decide)⟩
  clear hJ
  refine hL3_in (fun v3 v4 τ1 => ∃ p1 s1, p ≤ p1 ∧ kpC τ τ1 ∧ r_t τ1 n z p1 bt ∧ m_rr n bt z p1 s1 = F ∧ dgS τ τ1 n p p1 s s1 v3 v4) (fun _ _ τ1 => z - (τ1 0 10).toNatClampNeg) ?_ ⟨p, s, Nat.le_refl p, kpC.h (by omega), h.mv (kpC.h (by omega)) (by rw [hup_at, if_neg (by decide)]; exact e10) hpz, hF, Or.inl ⟨rfl, rfl, rfl, rfl, by rw [hup_at, if_pos rfl]⟩⟩
  rintro P v3 v4 τ1 ⟨p1, s1, hp1, k1, g1, hr, hD⟩ ih
  have hs1 := g1.sg p1
  have hpz1 := g1.2.2.2.1
  have e101 : τ1 0 10 = nI p1 := g1.2.2.1
  have en1 : τ1 0 1 = nI n := g1.1
  have s10 : s1 0 = 0 := by
    rcases hD with ⟨-, e, -⟩ | ⟨-, e, -⟩
    · rw [e]; exact h0
    · exact e
  refine t_peek hz g1 ?_
  refine t_isBell hs1 (fun hb1 => ?_) (fun hb1 => ?_)
  rotate_left
  · -- the digits end here
    rcases hD with ⟨e, -⟩ | ⟨hlt, -, e2, rfl, rfl, d1, d8, hgood, heq⟩
    · rw [e] at hb1; exact absurd hb hb1
    have e2' : s1 2 ≠ 0 := by omega
    rw [rr_end s10 e2' hpz1 hb1] at hr
    refine br_t rfl ?_
    by_cases q : s1 10 = 0
    · obtain ⟨l1, l2⟩ := hgood q
      have e : m_nd n s1 = upN (upN (m_ad (m_mu n s1) s1) 6 3) 2 0 := by unfold m_nd m_en; rw [if_pos q]
      rw [e] at hr
      have e5 : s1 5 = s 5 := heq 5 (by decide) (by decide)
      have e7 : s1 7 = s 7 := heq 7 (by decide) (by decide)
      have done : ∀ τ2, kpC τ τ2 → r_t τ2 n z p1 bt → τ2 0 13 = nI (m_mu n s1) → Q 1 τ2 := fun τ2 k2 g2 e13 => by
        refine h1 p1 _ τ2 _ hlt k2 g2 e13 ?_ upN_eq (Or.inr (by rw [upN_ne (by decide), upN_eq])) ⟨fun _ => hb, fun _ => by rw [upN_ne (by decide), upN_eq]⟩ (fun j i1 i2 i3 => ?_) hr
        · rw [upN_ne (by decide), upN_ne (by decide), ad_lo (by omega) (by decide) (by decide)]; exact s10
        · rw [upN_ne i1, upN_ne i2]; exact ad_congr e5 e7 (heq j i1 i3)
      rw [if_pos q]
      refine ⟨fun _ => ?_, fun y => absurd y (by decide)⟩
      rw [en1, pk_sub l1, show nI (n - s1 12) - nI (n - s1 12) / (2 : Int32) * (2 : Int32) = nI ((n - s1 12) % 2) from pk_rem (d := 2) (by omega) (by decide) (by decide)]
      refine pk_en ((n - s1 12) % 2) 1 (fun q3 => ?_) (fun q3 => ?_) rfl rfl
      · exact done τ1 k1 g1 (by rw [l2]; unfold m_mu; rw [if_neg q3])
      · have kk : kpC τ1 (hup τ1 0 13 ((τ1 0 13) ||| ((1 : Int32) <<< ((nI n - (1 : Int32)) &&& 31)))) := kpC.h (by omega)
        refine done _ (k1.tr kk) (g1.mv kk (by rw [hup_at, if_neg (by decide)]; exact e101) hpz1) ?_
        rw [hup_at, if_pos rfl, l2, bit_of (by omega) hn, fa_or]
        unfold m_mu; rw [if_pos q3]
    · have e : m_nd n s1 = upN (m_rf 2 (s1 2 - 1) s1) 2 0 := by unfold m_nd m_en; rw [if_neg q]
      rw [e, rr_stop (by rw [upN_ne (by decide), rf_0]; decide)] at hr
      rw [if_neg q]
      refine ⟨fun y => absurd rfl y, fun _ => ⟨hbo_0, ?_⟩⟩
      subst hr
      exact wr 2 τ1 _ k1 (by rw [upN_ne (by decide), rf_0]) (by decide) (by rw [upN_ne (by decide), rf_1]; omega) rfl
  · -- one digit more
    refine br_f (by decide) ?_
    refine t_peek hz g1 ?_
    intro x5 hx5
    have hb1' := hb1
    unfold bell at hb1'
    have ec : sgI (sgn bt z p1) = nI (sgn bt z p1) := by unfold sgI; rw [if_neg (by omega)]
    rw [ec, show (48 : Int32) = nI 48 from rfl, pk_sub (by omega)] at hx5
    have hlt1 : p1 < z := sgn_lt (c := sgn bt z p1) rfl (by omega)
    rw [rr_step s10 hpz1, st_dg hb1] at hr
    obtain ⟨d, hd⟩ : ∃ d, sgn bt z p1 - 48 = d := ⟨_, rfl⟩
    rw [hd] at hx5 hr
    subst hx5
    have hd1 : 1 ≤ d := by omega
    have hd8 : d ≤ 8 := by omega
    -- the digit fits
    have hla : ∃ la, v3 = nI la ∧ la ≤ 8 ∧ (v4 = 0 ∨ v4 = 1) ∧ (la = 0 → v4 = 1 ∧ s1 = s ∧ p1 = p ∧ τ1 0 13 = 0) ∧ (la ≠ 0 → p < p1 ∧ s1 2 = p + 1 ∧ la = s1 12 ∧ (v4 = 1 ↔ s1 10 = 0) ∧ (s1 10 = 0 → τ1 0 13 = nI (m_mk s1)) ∧ ∀ j, j ≠ 2 → ¬ (10 ≤ j ∧ j ≤ 13) → s1 j = s j) := by
      rcases hD with ⟨a, b, c, dd, e⟩ | ⟨hlt, -, e2, e3, e4, d1, d8, hgood, heq⟩
      · exact ⟨0, c, by decide, Or.inr dd, fun _ => ⟨dd, b, a, e⟩, fun q => absurd rfl q⟩
      · refine ⟨s1 12, e3, d8, ?_, fun q => by omega, fun _ => ⟨hlt, e2, rfl, ?_, fun q => (hgood q).2, heq⟩⟩
        · rw [e4]; split
          · exact Or.inr rfl
          · exact Or.inl rfl
        · rw [e4]
          by_cases q : s1 10 = 0
          · rw [if_pos q]; exact ⟨fun _ => q, fun _ => rfl⟩
          · rw [if_neg q]; exact ⟨fun y => absurd y (by decide), fun y => absurd y q⟩
    obtain ⟨la, rfl, hla8, hv01, hfst, hnxt⟩ := hla
    clear hD
    -- what the reading holds then
    have fin : ∀ τ2 (good : Prop), (good ↔ (v4 = 1 ∧ la < d ∧ d ≤ n ∧ (la = 0 ∨ (d - la) % 2 = 1))) → kpC τ1 τ2 → τ2 0 10 = τ1 0 10 → (good → τ2 0 13 = nI (m_mk (m_dg n d p1 s1))) → ∀ v5, (good → v5 = 1) → (¬ good → v5 = 0) → P (nI d) v5 (hup τ2 0 10 ((τ2 0 10) + (1 : Int32))) := fun τ2 good hgood k2 e102 e132 v5 hv1 hv0 => by
      have e' : (hup τ2 0 10 ((τ2 0 10) + (1 : Int32))) 0 10 = nI (p1 + 1) := by rw [hup_at, if_pos rfl, e102, e101, nI_suc]
      have kk : kpC τ1 (hup τ2 0 10 ((τ2 0 10) + (1 : Int32))) := k2.tr (kpC.h (by omega))
      refine ih _ _ _ ⟨p1 + 1, m_dg n d p1 s1, by omega, k1.tr kk, g1.mv kk e' (by omega), hr, Or.inr ?_⟩ ?_
      rotate_left
      · show z - ((hup τ2 0 10 ((τ2 0 10) + (1 : Int32))) 0 10).toNatClampNeg < _
        rw [e', e101, nI_clamp (by omega), nI_clamp (by omega)]; omega
      by_cases hl : la = 0
      · obtain ⟨f1, f2, f3, f4⟩ := hfst hl
        subst f2 f3
        have e : m_dg n d p1 s1 = upN (upN (upN (upN (upN s1 2 (p1 + 1)) 10 (if d ≤ n then 0 else 1)) 11 d) 12 d) 13 (2 ^ (d - 1)) := by unfold m_dg; rw [if_pos h2, if_neg (hB hb1)]
        have gg : good ↔ d ≤ n := by rw [hgood]; exact ⟨fun q => q.2.2.1, fun q => ⟨f1, by omega, q, Or.inl hl⟩⟩
        have w10 : m_dg n d p1 s1 10 = if d ≤ n then 0 else 1 := by rw [e, upN_ne (by decide), upN_ne (by decide), upN_ne (by decide), upN_eq]
        have w12 : m_dg n d p1 s1 12 = d := by rw [e, upN_ne (by decide), upN_eq]
        refine ⟨by omega, ?_, ?_, by rw [w12], ?_, by rw [w12]; exact hd1, by rw [w12]; exact hd8, fun q => ?_, fun j i1 i2 => ?_⟩
        · rw [e, upN_ne (by decide), upN_ne (by decide), upN_ne (by decide), upN_ne (by decide), upN_ne (by decide)]; exact s10
        · rw [e, upN_ne (by decide), upN_ne (by decide), upN_ne (by decide), upN_ne (by decide), upN_eq]
        · rw [w10]
          by_cases q : d ≤ n
          · rw [if_pos q, if_pos rfl]; exact hv1 (gg.mpr q)
          · rw [if_neg q, if_neg (by decide)]; exact hv0 (fun y => q (gg.mp y))
        · rw [w10] at q
          have q' : d ≤ n := by
            by_cases y : d ≤ n
            · exact y
            · rw [if_neg y] at q; exact absurd q (by decide)
          rw [w12, hup_at, if_neg (by decide)]
          exact ⟨q', e132 (gg.mpr q')⟩
        · rw [e, upN_ne (by omega), upN_ne (by omega), upN_ne (by omega), upN_ne (by omega), upN_ne i1]
      · obtain ⟨f1, f2, f3, f4, f5, f6⟩ := hnxt hl
        have f2' : s1 2 ≠ 0 := by omega
        have e : m_dg n d p1 s1 = upN (upN (if s1 12 < d ∧ d ≤ n ∧ (d - s1 12) % 2 = 1 then s1 else upN s1 10 1) 12 d) 13 (s1 13 ||| 2 ^ (d - 1)) := by unfold m_dg; rw [if_neg f2']
        have w12 : m_dg n d p1 s1 12 = d := by rw [e, upN_ne (by decide), upN_eq]
        have wl : ∀ j, j ≠ 10 → j ≠ 12 → j ≠ 13 → m_dg n d p1 s1 j = s1 j := fun j i1 i2 i3 => by
          rw [e, upN_ne i3, upN_ne i2]; split
          · rfl
          · rw [upN_ne i1]
        have w10 : m_dg n d p1 s1 10 = if s1 12 < d ∧ d ≤ n ∧ (d - s1 12) % 2 = 1 then s1 10 else 1 := by
          rw [e, upN_ne (by decide), upN_ne (by decide)]; split
          · rfl
          · rw [upN_eq]
        have gg : good ↔ m_dg n d p1 s1 10 = 0 := by
          rw [hgood, w10]
          by_cases y : s1 12 < d ∧ d ≤ n ∧ (d - s1 12) % 2 = 1
          · rw [if_pos y]
            exact ⟨fun q => f4.mp q.1, fun q => ⟨f4.mpr q, by omega, y.2.1, Or.inr (by rw [f3]; exact y.2.2)⟩⟩
          · rw [if_neg y]
            refine ⟨fun q => absurd ⟨by omega, q.2.2.1, ?_⟩ y, fun q => absurd q (by decide)⟩
            rw [← f3]; exact q.2.2.2.resolve_left hl
        refine ⟨by omega, ?_, ?_, by rw [w12], ?_, by rw [w12]; exact hd1, by rw [w12]; exact hd8, fun q => ?_, fun j i1 i2 => ?_⟩
        · rw [wl 0 (by decide) (by decide) (by decide)]; exact s10
        · rw [wl 2 (by decide) (by decide) (by decide)]; exact f2
        · by_cases q : m_dg n d p1 s1 10 = 0
          · rw [if_pos q]; exact hv1 (gg.mpr q)
          · rw [if_neg q]; exact hv0 (fun y => q (gg.mp y))
        · have q' := gg.mpr q
          rw [w12, hup_at, if_neg (by decide)]
          exact ⟨(hgood.mp q').2.2.1, e132 q'⟩
        · rw [wl j (by omega) (by omega) (by omega)]; exact f6 j i1 i2
    -- its value
    have val : (v4 = 1 ∧ la < d ∧ d ≤ n ∧ (la = 0 ∨ (d - la) % 2 = 1)) → ∀ τ2, (la = 0 → τ2 0 13 = nI (if d % 2 = 0 then 1 else 0)) → (la ≠ 0 → τ2 0 13 = τ1 0 13) → (hup τ2 0 13 ((τ2 0 13) ||| ((1 : Int32) <<< ((nI d - (1 : Int32)) &&& 31)))) 0 13 = nI (m_mk (m_dg n d p1 s1)) := fun hg τ2 v1 v2 => by
      rw [hup_at, if_pos rfl, bit_of hd1 hd8]
      by_cases hl : la = 0
      · obtain ⟨f1, f2, f3, f4⟩ := hfst hl
        subst f2 f3
        rw [v1 hl, fa_or]
        have e : m_dg n d p1 s1 = upN (upN (upN (upN (upN s1 2 (p1 + 1)) 10 (if d ≤ n then 0 else 1)) 11 d) 12 d) 13 (2 ^ (d - 1)) := by unfold m_dg; rw [if_pos h2, if_neg (hB hb1)]
        have w11 : m_dg n d p1 s1 11 = d := by rw [e, upN_ne (by decide), upN_ne (by decide), upN_eq]
        have w13 : m_dg n d p1 s1 13 = 2 ^ (d - 1) := by rw [e, upN_eq]
        unfold m_mk
        rw [w11, w13]
        by_cases q : d % 2 = 0
        · rw [if_pos q, if_pos q, Nat.or_comm]
        · rw [if_neg q, if_neg q, Nat.zero_or]
      · obtain ⟨f1, f2, f3, f4, f5, f6⟩ := hnxt hl
        have f2' : s1 2 ≠ 0 := by omega
        rw [v2 hl, f5 (f4.mp hg.1), fa_or]
        have e : m_dg n d p1 s1 = upN (upN (if s1 12 < d ∧ d ≤ n ∧ (d - s1 12) % 2 = 1 then s1 else upN s1 10 1) 12 d) 13 (s1 13 ||| 2 ^ (d - 1)) := by unfold m_dg; rw [if_neg f2']
        have w11 : m_dg n d p1 s1 11 = s1 11 := by
          rw [e, upN_ne (by decide), upN_ne (by decide)]; split
          · rfl
          · rw [upN_ne (by decide)]
        have w13 : m_dg n d p1 s1 13 = s1 13 ||| 2 ^ (d - 1) := by rw [e, upN_eq]
        unfold m_mk
        rw [w11, w13]
        by_cases q : s1 11 % 2 = 0
        · rw [if_pos q, if_pos q, or_swap]
        · rw [if_neg q, if_neg q]
    refine hM_in (fun J => ((v4 = 1 ∧ la < d ∧ d ≤ n ∧ (la = 0 ∨ (d - la) % 2 = 1)) → J 1) ∧ (¬ (v4 = 1 ∧ la < d ∧ d ≤ n ∧ (la = 0 ∨ (d - la) % 2 = 1)) → J 0)) (fun J hJ => ?_) ⟨fun hg => ?_, fun hg => ?_⟩
    · obtain ⟨j1, j0⟩ := hJ
      refine hM_in (fun K => ¬ (v4 = 1 ∧ la < d ∧ d ≤ n ∧ (la = 0 ∨ (d - la) % 2 = 1)) → K) (fun K hK => ?_) j0
      rcases hv01 with rfl | rfl
      · exact br_t rfl (hK (fun q => absurd q.1 (by decide)))
      refine br_f (by decide) ?_
      refine pk_le d la (fun q => hK (fun y => by omega)) (fun q => ?_) rfl rfl
      refine pk_lt n d (fun q3 => hK (fun y => by omega)) (fun q3 => ?_) en1 rfl
      refine hM_in (fun L => (la = 0 ∨ (d - la) % 2 = 1) → L) (fun L hL => ?_) (fun hl => j1 ⟨rfl, q, q3, hl⟩)
      refine pk_eq la 0 (fun q4 => hL (Or.inl q4)) (fun q4 => ?_) rfl rfl
      rw [pk_sub (by omega), show nI (d - la) - nI (d - la) / (2 : Int32) * (2 : Int32) = nI ((d - la) % 2) from pk_rem (d := 2) (by omega) (by decide) (by decide)]
      exact pk_en ((d - la) % 2) 1 (fun q5 => hK (fun y => by omega)) (fun q5 => hL (Or.inr q5)) rfl rfl
    · try dsimp only
      refine hM_in (fun J => ∀ τ2, kpC τ1 τ2 → τ2 0 10 = τ1 0 10 → (la = 0 → τ2 0 13 = nI (if d % 2 = 0 then 1 else 0)) → (la ≠ 0 → τ2 0 13 = τ1 0 13) → J τ2) (fun J hJ => ?_) (fun τ2 k2 e102 v1 v2 => ?_)
      · refine br_f (by decide) ?_
        refine pk_en la 0 (fun q => hJ τ1 kpC.rf rfl (fun y => absurd y q) (fun _ => rfl)) (fun q => ?_) rfl rfl
        have f4 := (hfst q).2.2.2
        rw [show nI d - nI d / (2 : Int32) * (2 : Int32) = nI (d % 2) from pk_rem (d := 2) (by omega) (by decide) (by decide)]
        refine pk_en (d % 2) 0 (fun q5 => hJ τ1 kpC.rf rfl (fun _ => by rw [f4, if_neg q5]; rfl) (fun y => absurd q y)) (fun q5 => ?_) rfl rfl
        refine hJ _ (kpC.h (by omega)) (by rw [hup_at, if_neg (by decide)]) (fun _ => ?_) (fun y => absurd q y)
        rw [hup_at, if_pos rfl, f4, if_pos q5]; rfl
      · dsimp only [hM_]
        refine br_f (by decide) ?_
        exact fin _ True ⟨fun _ => hg, fun _ => trivial⟩ (k2.tr (kpC.h (by omega))) (by rw [hup_at, if_neg (by decide)]; exact e102) (fun _ => val hg τ2 v1 v2) 1 (fun _ => rfl) (fun y => absurd trivial y)
    · dsimp only [hM_]
      refine br_t rfl (br_t rfl ?_)
      exact fin τ1 False ⟨fun y => y.elim, fun y => absurd y hg⟩ kpC.rf rfl (fun y => y.elim) 0 (fun y => y.elim) (fun _ => rfl)

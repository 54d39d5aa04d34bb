theorem t_lead {τ0 τ : hSt} {w : Nat → Int64} {n z all bk p0 : Nat} {bt F : Nat → Nat} {P4 : Int32 → Int32 → hSt → Prop} {Q : Int32 → hSt → Prop} {v4 v5 v6 : Int32} (h4 : 4 ≤ n) (hn : n ≤ 8) (hz : z ≤ 500) (hall : all ≤ 64) (hbk : bk ≤ 1) (hP : ∀ v1 v2 τ', blS τ0 τ' n z bt F v1 v2 → z - (τ' 0 10).toNatClampNeg < z - p0 → P4 v1 v2 τ') (hX : flS τ0 F Q) (hS : ldS τ0 τ n z all bk p0 bt F v4 v5 v6) : hL4 (lbody P4 Q (nI all) (nI bk) w) v4 v5 v6 τ := by
  refine hL4_in (fun v4 v5 v6 τ1 => ldS τ0 τ1 n z all bk p0 bt F v4 v5 v6) (fun _ _ _ τ1 => z - (τ1 0 10).toNatClampNeg) ?_ hS
  rintro P v4 v5 v6 τ1 ⟨p, s, nn, rfl, hnp, hp0, k1, r1, ⟨h0, h2, h5, h7, h8, h9⟩, hF, hblk, hfr, n32, n10, hcase⟩ ih
  have hpz := r1.2.2.2.1
  have e10 : τ1 0 10 = nI p := r1.2.2.1
  have hs := r1.sg p
  have wr1 : ∀ c, sgn bt z p = c → (m_st n c p s 0 = 1 ∧ m_st n c p s 1 = p) → Q 0 (hup (hup τ1 0 11 (1 : Int32)) 0 12 (τ1 0 10)) := fun c hc hf => by
    rw [rr_step h0 hpz, hc, rr_stop (by rw [hf.1]; decide)] at hF
    subst hF
    exact fl_wr (k := 1) hX k1 hf.1 (by decide) hf.2 e10
  unfold lbody
  rcases hcase with ⟨rfl, hc⟩ | ⟨rfl, hn1, h6, n46, nxb⟩
  · refine br_f (by decide) ?_
    refine t_peek hz r1 ?_
    have hv5 : v5 = 0 ∨ (v5 = 1 ∧ s 6 = 3) := by
      rcases hc with ⟨a, -⟩ | ⟨-, a, -⟩ | ⟨b, a, -⟩
      · exact Or.inl a
      · exact Or.inl a
      · exact Or.inr ⟨a, b⟩
    have go : ∀ r48 : Int32, (r48 = 1 ∨ r48 = 0) → (r48 = 1 ↔ bell (sgn bt z p)) → ¬ (bell (sgn bt z p) ∧ s 6 = 3) → wp_X12_readChange τ1 w (lcont Q P (nI nn) 1 r48 w) := fun r48 hr01 hr48 hbd => by
      refine t_readChange h4 hn hz r1 h0 h2 (by omega) hF (fun hb => ?_) (fun _ => by omega) (fun hnb hnx => ?_) (fun p' s' τ' v hlt kC r' e13 h0' h2' h6' h6b heq hF' => ?_) (fun τ' kC f0 => ?_)
      · rcases hc with ⟨-, a⟩ | ⟨a, -⟩ | ⟨a, -⟩
        · omega
        · omega
        · exact absurd ⟨hb, a⟩ hbd
      · rcases hc with ⟨-, a⟩ | ⟨-, -, a⟩ | ⟨-, -, a⟩
        · exact sg_due (by omega) ⟨n32, n10, by omega, by omega⟩ (fun q => by
            rcases a with a | a
            · omega
            · exact a.2)
        · rcases a with a | a | a
          · exact absurd (Or.inl a) hnx
          · exact absurd (Or.inr a) hnx
          · exact absurd a hnb
        · rcases a with a | a | a
          · exact absurd (Or.inl a) hnx
          · exact absurd (Or.inr a) hnx
          · exact absurd a hnb
      · have hpz' := r'.2.2.2.1
        have e10' : τ' 0 10 = nI p' := r'.2.2.1
        unfold lcont
        refine ⟨fun _ => ⟨vp_in_nI (by omega) (by decide), ?_⟩, fun y => absurd y (by decide)⟩
        intro x4 hx4
        rw [nI_suc] at hx4
        subst hx4
        rw [nI_clamp (by omega)]
        have g5 : s' 5 = 0 := by rw [heq 5 (by decide) (by decide) (by decide), ad_lo (by omega) (by decide) (by decide)]; exact h5
        have g7 : s' 7 = all + (nn + 1) := by rw [heq 7 (by decide) (by decide) (by decide), ad_7 (by omega), if_pos h5, h7]; omega
        have g8 : s' 8 = all := by rw [heq 8 (by decide) (by decide) (by decide), ad_lo (by omega) (by decide) (by decide)]; exact h8
        have g9 : s' 9 = bk := by rw [heq 9 (by decide) (by decide) (by decide), ad_lo (by omega) (by decide) (by decide)]; exact h9
        have gh : ∀ j, 100 ≤ j → s' j = if j = 100 + s 7 then v else s j := fun j hj => by
          rw [heq j (by omega) (by omega) (by omega), ad_l h5, upN_ne (by omega), upN_at]
        have kk : kpQ τ1 (hup τ' 7 nn (τ' 0 13)) := kC.q.tr (kpQ.h (Or.inr rfl))
        have rr : r_t (hup τ' 7 nn (τ' 0 13)) n z p' bt := r'.hk (Or.inr rfl)
        have mk : ∀ p3 s3 τ3 (v5 v6 : Int32), p' ≤ p3 → kpC (hup τ' 7 nn (τ' 0 13)) τ3 → r_t τ3 n z p3 bt → (∀ j, j ≠ 6 → s3 j = s' j) → m_rr n bt z p3 s3 = F → sgn bt z p3 ≠ 32 → sgn bt z p3 ≠ 10 →
            ((v6 = 1 ∧ ((v5 = 0 ∧ (s3 6 = 1 ∨ (s3 6 = 0 ∧ sgn bt z p3 ≠ 38 ∧ sgn bt z p3 ≠ 43))) ∨ (s3 6 = 2 ∧ v5 = 0 ∧ xb (sgn bt z p3)) ∨ (s3 6 = 3 ∧ v5 = 1 ∧ xb (sgn bt z p3)))) ∨ (v6 = 0 ∧ 2 ≤ s3 6 ∧ sgn bt z p3 ≠ 46 ∧ ¬ xb (sgn bt z p3))) → P (nI (nn + 1)) v5 v6 τ3 := fun p3 s3 τ3 v5 v6 hp3 k3 r3 he hF3 m32 m10 hcs => by
          have e7 : τ3 7 = (hup τ' 7 nn (τ' 0 13)) 7 := k3.1 7 (by decide)
          have e6 : τ3 6 = τ1 6 := by rw [k3.1 6 (by decide), hup_n _ _ _ (by decide), kC.1 6 (by decide)]
          have hpz3 := r3.2.2.2.1
          have e103 : τ3 0 10 = nI p3 := r3.2.2.1
          refine ih _ _ _ _ ⟨p3, s3, nn + 1, rfl, by omega, by omega, (k1.tr kk).tr k3.q, r3, ⟨?_, ?_, ?_, ?_, ?_, ?_⟩, hF3, fun k hk => ?_, fun k hk => ?_, m32, m10, ?_⟩ ?_
          · rw [he 0 (by decide)]; exact h0'
          · rw [he 2 (by decide)]; exact h2'
          · rw [he 5 (by decide)]; exact g5
          · rw [he 7 (by decide)]; exact g7
          · rw [he 8 (by decide)]; exact g8
          · rw [he 9 (by decide)]; exact g9
          · rw [e7, hup_at, he _ (by omega), gh _ (by omega)]
            by_cases q : k = nn
            · rw [if_pos q, if_pos (by omega)]; exact e13
            · rw [if_neg q, if_neg (by omega), kC.1 7 (by decide)]; exact hblk k (by omega)
          · rw [e6, he _ (by omega), gh _ (by omega), if_neg (by omega)]; exact hfr k hk
          · rcases hcs with hcs | ⟨a, b⟩
            · exact Or.inl hcs
            · exact Or.inr ⟨a, by omega, b⟩
          · show z - (τ3 0 10).toNatClampNeg < z - (τ1 0 10).toNatClampNeg
            rw [e103, e10, nI_clamp (by omega), nI_clamp (by omega)]; omega
        refine t_blanks hz rr h0' h2' hF' (fun p2 τ2 hp2 kC2 e132 r2 hF2 m32 m10 => ?_)
        have hs2 := r2.sg p2
        have hpz2 := r2.2.2.2.1
        have e102 : τ2 0 10 = nI p2 := r2.2.2.1
        refine t_peek hz r2 ?_
        refine sg_isn (k := 46) hs2 (by decide) (fun y => ?_) (fun y => ?_)
        · have on : xb (sgn bt z p2) → P (nI (nn + 1)) r48 1 τ2 := fun hx => by
            refine mk p2 s' τ2 r48 1 hp2 kC2 r2 (fun _ _ => rfl) hF2 m32 m10 (Or.inl ⟨rfl, Or.inr ?_⟩)
            rcases h6' with a | a
            · refine Or.inl ⟨a, ?_, hx⟩
              rcases hr01 with b | b
              · have := h6b.mpr (hr48.mp b); omega
              · exact b
            · exact Or.inr ⟨a, hr48.mpr (h6b.mp a), hx⟩
          refine t_peek hz r2 ?_
          refine sg_is (k := 120) hs2 (by decide) (fun y2 => on (Or.inl y2)) (fun y2 => ?_)
          refine t_peek hz r2 ?_
          refine sg_is (k := 45) hs2 (by decide) (fun y3 => on (Or.inr (Or.inl y3))) (fun y3 => ?_)
          refine t_peek hz r2 ?_
          refine t_isBell hs2 (fun y4 => br_f (by decide) (on (Or.inr (Or.inr y4)))) (fun y4 => br_t rfl ?_)
          refine mk p2 s' τ2 r48 0 hp2 kC2 r2 (fun _ _ => rfl) hF2 m32 m10 (Or.inr ⟨rfl, by omega, y, fun hx => ?_⟩)
          rcases hx with a | a | a
          · exact y2 a
          · exact y3 a
          · exact y4 a
        · -- a dot
          have hlt2 : p2 < z := sgn_lt y (by decide)
          rw [rr_step h0' hpz2, y, st_sg (by unfold bell; omega) h2', sg_d] at hF2
          unfold m_dt at hF2
          rw [if_pos ⟨g5, by omega⟩] at hF2
          have e' : (hup τ2 0 10 ((τ2 0 10) + (1 : Int32))) 0 10 = nI (p2 + 1) := by rw [hup_at, if_pos rfl, e102, nI_suc]
          have kd : kpC τ2 (hup τ2 0 10 ((τ2 0 10) + (1 : Int32))) := kpC.h (by omega)
          refine t_blanks hz (r2.mv kd e' (by omega)) (by rw [upN_ne (by decide)]; exact h0') (by rw [upN_ne (by decide)]; exact h2') hF2 (fun p3 τ3 hp3 kC3 e133 r3 hF3 m323 m103 => ?_)
          exact mk p3 _ τ3 0 1 (by omega) ((kC2.tr kd).tr kC3) r3 (fun j hj => upN_ne hj) hF3 m323 m103 (Or.inl ⟨rfl, Or.inl ⟨rfl, Or.inl upN_eq⟩⟩)
      · unfold lcont
        exact ⟨fun y => absurd rfl y, fun _ => hX τ' (k1.tr kC.q) f0⟩
    refine t_isBell hs (fun hb => ?_) (fun hb => ?_)
    · refine hM_in (fun J => ¬ (s 6 = 3) → J) (fun J hJ => br_f (by decide) ?_) (fun hq => go 1 (Or.inl rfl) ⟨fun _ => hb, fun _ => rfl⟩ (fun y => hq y.2))
      rcases hv5 with rfl | ⟨rfl, h63⟩
      · refine br_t rfl (hJ (fun q => ?_))
        rcases hc with ⟨-, a⟩ | ⟨a, -⟩ | ⟨-, a, -⟩
        · omega
        · omega
        · exact absurd a (by decide)
      · unfold wp_X12_wrong
        refine br_f (by decide) ⟨hbo_0, wr1 _ rfl ?_⟩
        rw [st_dg hb]
        unfold m_dg
        rw [if_pos h2, if_pos ⟨by omega, by omega⟩]
        exact ⟨rf_0, rf_1⟩
    · refine hM_in (fun J => J) (fun J hJ => br_t rfl hJ) (go 0 (Or.inr rfl) ⟨fun y => absurd y (by decide), fun y => absurd y hb⟩ (fun y => hb y.1))
  · refine br_t rfl ?_
    refine t_peek hz r1 ?_
    have hbk1 := bk_le (s := s)
    have hnx : sgn bt z p ≠ 120 ∧ sgn bt z p ≠ 45 ∧ ¬ bell (sgn bt z p) := ⟨fun y => nxb (Or.inl y), fun y => nxb (Or.inr (Or.inl y)), fun y => nxb (Or.inr (Or.inr y))⟩
    refine hM_in (fun J => (sgn bt z p = 44 ∨ sgn bt z p = 59) → J) (fun J hJ => ?_) (fun hc => ?_)
    · refine sg_is (k := 44) hs (by decide) (fun y => hJ (Or.inl y)) (fun y => ?_)
      refine t_peek hz r1 ?_
      refine sg_is (k := 59) hs (by decide) (fun y2 => hJ (Or.inr y2)) (fun y2 => ?_)
      unfold wp_X12_wrong
      refine ⟨hbo_0, wr1 _ rfl ?_⟩
      rw [st_sg hnx.2.2 h2, sg_lead h5 h6 ⟨n32, n10, hnx.1, hnx.2.1⟩ ⟨n46, y, y2⟩]
      exact ⟨rf_0, rf_1⟩
    · refine hM_in (fun J => J (nI (nn + m_bk s))) (fun J hJ => ?_) ?_
      · refine pk_eq bk 0 (fun q => ?_) (fun q => ?_) rfl rfl
        · have eb : m_bk s = 0 := by unfold m_bk; rw [if_pos (by omega)]
          rw [eb] at hJ; exact hJ
        · have eb : m_bk s = nn - 1 := by unfold m_bk; rw [if_neg (by omega)]; omega
          rw [eb] at hJ
          rw [show (2 : Int32) = nI 2 from rfl, pk_mul, show (1 : Int32) = nI 1 from rfl, pk_sub (by omega), show 2 * nn - 1 = nn + (nn - 1) by omega]
          exact hJ
      · try dsimp only
        refine pk_le (all + (nn + m_bk s)) 64 (fun q => ?_) (fun q => ?_) (nI_add _ _) rfl
        · exact t_close hz hall hbk (fun v1 v2 τ' hb hm => hP v1 v2 τ' hb (by omega)) hnp k1 r1 h0 h2 h5 h7 h8 h9 hF hblk hfr hn1 h6 hc (by omega)
        · unfold wp_X12_wrong
          refine ⟨hbo_0, ?_⟩
          have ecb : m_cb p s = m_rf 3 p s := cb_no (by omega)
          have nb : ¬ bell (sgn bt z p) := hnx.2.2
          have hf : m_st n (sgn bt z p) p s 0 = 3 ∧ m_st n (sgn bt z p) p s 1 = p := by
            rw [st_sg nb h2]
            rcases hc with y | y
            · rw [y, sg_c]
              unfold m_cm
              rw [if_pos ⟨h5, h6⟩, ecb]
              unfold m_bb
              rw [upN_ne (by decide), upN_ne (by decide), upN_ne (by decide), rf_0, upN_ne (by decide), upN_ne (by decide), upN_ne (by decide), rf_1]
              exact ⟨rfl, rfl⟩
            · rw [y, sg_s]
              unfold m_sc
              rw [if_pos ⟨by omega, h6⟩, if_pos h5, ecb]
              unfold m_pt
              rw [upN_ne (by decide), upN_ne (by decide), rf_0, upN_ne (by decide), upN_ne (by decide), rf_1]
              exact ⟨rfl, rfl⟩
          rw [rr_step h0 hpz, rr_stop (by rw [hf.1]; decide)] at hF
          subst hF
          exact fl_wr (k := 3) hX k1 hf.1 (by decide) hf.2 e10
theorem t_readLead {τ0 τ : hSt} {w : Nat → Int64} {n z : Nat} {bt F : Nat → Nat} {Q : Int32 → hSt → Prop} (h4 : 4 ≤ n) (hn : n ≤ 8) (hz : z ≤ 500) (hS : blS τ0 τ n z bt F 0 1) (hX : flS τ0 F Q)
    (hD : ∀ τ' p s, kpQ τ0 τ' → r_t τ' n z p bt → s 0 = 0 → s 2 = 0 → s 5 = 1 → s 6 = 1 → s 7 ≤ 64 → τ' 0 16 = nI (s 7) → (∀ k, k < s 7 → τ' 6 k = nI (s (100 + k))) → m_rr n bt z p s = F → Q 1 τ') : wp_X12_readLead τ w Q := by
  unfold wp_X12_readLead
  refine hL3_in (fun v1 v2 τ1 => blS τ0 τ1 n z bt F v1 v2) (fun _ _ τ1 => z - (τ1 0 10).toNatClampNeg) ?_ hS
  rintro P v1 v2 τ1 ⟨p, s, rfl, h64, k1, r1, ⟨h0, h2⟩, hF, hfr, hcase⟩ ih
  have hpz := r1.2.2.2.1
  have e10 : τ1 0 10 = nI p := r1.2.2.1
  have hP : ∀ v1 v2 τ', blS τ0 τ' n z bt F v1 v2 → z - (τ' 0 10).toNatClampNeg < z - p → P v1 v2 τ' := fun v1 v2 τ' hb hm => ih v1 v2 τ' hb (by rw [e10, nI_clamp (by omega)]; exact hm)
  rcases hcase with ⟨rfl, h5, h6, h8, h9⟩ | ⟨rfl, h5, h6⟩
  · refine br_f (by decide) ?_
    refine t_blanks hz r1 h0 h2 hF (fun p2 τ2 hp2 kC2 e132 r2 hF2 m32 m10 => ?_)
    have hpz2 := r2.2.2.2.1
    have e102 : τ2 0 10 = nI p2 := r2.2.2.1
    have e62 : τ2 6 = τ1 6 := kC2.1 6 (by decide)
    have mk : ∀ b, b ≤ 1 → m_sg n (sgn bt z p2) p2 s = m_mr b p2 s → ¬ bell (sgn bt z p2) → p2 < z → wp_X12_blanks (hup τ2 0 10 ((τ2 0 10) + (1 : Int32))) w (fun σ9 => hL4 (lbody P Q (nI (s 7)) (nI b) w) 0 0 1 σ9) := fun b hb hsg hnb hlt => by
      have hF3 := hF2
      rw [rr_step h0 hpz2, st_sg hnb h2, hsg] at hF3
      unfold m_mr at hF3
      rw [if_pos h6] at hF3
      have e' : (hup τ2 0 10 ((τ2 0 10) + (1 : Int32))) 0 10 = nI (p2 + 1) := by rw [hup_at, if_pos rfl, e102, nI_suc]
      have kd : kpC τ2 (hup τ2 0 10 ((τ2 0 10) + (1 : Int32))) := kpC.h (by omega)
      refine t_blanks hz (r2.mv kd e' (by omega)) (by rw [upN_ne (by decide), upN_ne (by decide)]; exact h0) (by rw [upN_ne (by decide), upN_ne (by decide)]; exact h2) hF3 (fun p3 τ3 hp3 kC3 e133 r3 hF4 m323 m103 => ?_)
      have kc := (kC2.tr kd).tr kC3
      refine t_lead (p0 := p) (all := s 7) h4 hn hz h64 hb hP hX ⟨p3, _, 0, rfl, Nat.zero_le _, by omega, k1.tr kc.q, r3, ⟨?_, ?_, ?_, ?_, ?_, ?_⟩, hF4, fun k hk => absurd hk (Nat.not_lt_zero k), fun k hk => ?_, m323, m103, Or.inl ⟨rfl, Or.inl ⟨rfl, Or.inl upN_eq⟩⟩⟩
      · rw [upN_ne (by decide), upN_ne (by decide)]; exact h0
      · rw [upN_ne (by decide), upN_ne (by decide)]; exact h2
      · rw [upN_ne (by decide), upN_ne (by decide)]; exact h5
      · rw [upN_ne (by decide), upN_ne (by decide)]; rfl
      · rw [upN_ne (by decide), upN_ne (by decide)]; exact h8
      · rw [upN_ne (by decide), upN_eq]
      · rw [kc.1 6 (by decide), upN_ne (by omega), upN_ne (by omega)]; exact hfr k hk
    refine t_peek hz r2 ?_
    refine hM_in (fun J => (sgn bt z p2 ≠ 38 → J 0) ∧ (sgn bt z p2 = 38 → J 1)) (fun J hJ => sg_isn (k := 38) (r2.sg p2) (by decide) hJ.1 hJ.2) ⟨fun y => ?_, fun y => ?_⟩
    · try dsimp only
      refine hM_in (fun J => sgn bt z p2 = 43 → J) (fun J hJ => ?_) (fun y2 => ?_)
      · refine ⟨fun q => absurd rfl q, fun _ => ?_⟩
        refine t_peek hz r2 ?_
        refine sg_isn (k := 43) (r2.sg p2) (by decide) (fun y2 => ?_) (fun y2 => hJ y2)
        exact t_lead (p0 := p) (all := s 7) (bk := 0) h4 hn hz h64 (by decide) hP hX ⟨p2, s, 0, rfl, Nat.zero_le _, hp2, k1.tr kC2.q, r2, ⟨h0, h2, h5, rfl, h8, h9⟩, hF2, fun k hk => absurd hk (Nat.not_lt_zero k), fun k hk => by rw [e62]; exact hfr k hk, m32, m10, Or.inl ⟨rfl, Or.inl ⟨rfl, Or.inr ⟨h6, y, y2⟩⟩⟩⟩
      · exact mk 0 (by decide) (by rw [y2, sg_p]) (by rw [y2]; unfold bell; omega) (sgn_lt y2 (by decide))
    · try dsimp only
      refine hM_in (fun J => J) (fun J hJ => ⟨fun _ => hJ, fun q => absurd q (by decide)⟩) ?_
      exact mk 1 (by decide) (by rw [y, sg_m]) (by rw [y]; unfold bell; omega) (sgn_lt y (by decide))
  · refine br_t rfl ?_
    exact hD _ p s (k1.tr ⟨fun k a b c => hup_n _ _ _ a, fun j a b c => by rw [hup_at, if_neg c]⟩) (r1.w (by rw [hup_at, if_neg (by decide)]) (by rw [hup_at, if_neg (by decide)]) (by rw [hup_at, if_neg (by decide)]) (hup_n _ _ _ (by decide))) h0 h2 h5 h6 h64 (by rw [hup_at, if_pos rfl]) (fun k hk => by rw [hup_n _ _ _ (by decide)]; exact hfr k hk) hF

/-! The reference reads a composition's text. -/
def q_rr (Ks bt : Nat → Nat) (z p : Nat) (s : Nat → Nat) : Nat → Nat := q_rn Ks bt z (z + 1 - p) p s
def dgt (c : Nat) : Prop := 48 ≤ c ∧ c ≤ 57
section QRR
variable {Ks bt s : Nat → Nat} {z p c : Nat}
theorem qr_stop (h : s 0 ≠ 0) : q_rr Ks bt z p s = s := qn_stop h _
theorem qr_step (h : s 0 = 0) (hp : p ≤ z) : q_rr Ks bt z p s = q_rr Ks bt z (p + 1) (q_st Ks (sgn bt z p) p s) := by
  unfold q_rr
  rw [show z + 1 - p = (z - p) + 1 by omega, qn_step h, show z + 1 - (p + 1) = z - p by omega]
theorem qr_done : q_rr Ks bt z (z + 1) s = s := by unfold q_rr; rw [Nat.sub_self]; rfl
theorem qt_sg (hb : ¬ dgt c) (h2 : s 2 = 0) : q_st Ks c p s = q_sg Ks c p s := by unfold q_st; rw [if_neg (show ¬ (48 ≤ c ∧ c ≤ 57) from hb), if_pos h2]
theorem qt_dg (hb : dgt c) : q_st Ks c p s = q_dg (c - 48) p s := by unfold q_st; rw [if_pos (show 48 ≤ c ∧ c ≤ 57 from hb)]
theorem qr_end (h0 : s 0 = 0) (h2 : s 2 ≠ 0) (hp : p ≤ z) (hb : ¬ dgt (sgn bt z p)) : q_rr Ks bt z p s = q_rr Ks bt z p (q_nd s) := by
  have e2 : q_nd s 2 = 0 := by unfold q_nd; rw [upN_eq]
  rw [qr_step h0 hp]
  by_cases q : q_nd s 0 = 0
  · rw [qr_step q hp, qt_sg hb e2]
    congr 1
    unfold q_st; rw [if_neg (show ¬ (48 ≤ sgn bt z p ∧ sgn bt z p ≤ 57) from hb), if_neg h2, if_pos q]
  · have e : q_st Ks (sgn bt z p) p s = q_nd s := by unfold q_st; rw [if_neg (show ¬ (48 ≤ sgn bt z p ∧ sgn bt z p ≤ 57) from hb), if_neg h2, if_neg q]
    rw [e, qr_stop q, qr_stop q]
end QRR
theorem t_isDigit {c : Nat} (hc : c < 256 ∨ c = 999) {Q : Int32 → Prop} (h1 : dgt c → Q 1) (h0 : ¬ dgt c → Q 0) : wp_X12_isDigit (sgI c) Q := by
  unfold wp_X12_isDigit
  refine sg_lt (k := 48) hc (by decide) (fun q => h0 (by unfold dgt; omega)) (fun q9 q => ?_)
  exact sg_gt (k := 57) hc (by decide) (fun _ q2 => h0 (by unfold dgt; omega)) (fun q2 => h1 ⟨q, by omega⟩)
theorem q_blanks {τ : hSt} {w : Nat → Int64} {n z p : Nat} {Ks bt s F : Nat → Nat} (hz : z ≤ 500) (h : r_t τ n z p bt) (h0 : s 0 = 0) (h2 : s 2 = 0) (hF : q_rr Ks bt z p s = F) {Q : hSt → Prop}
    (hQ : ∀ p' τ', p ≤ p' → kpC τ τ' → r_t τ' n z p' bt → q_rr Ks bt z p' s = F → sgn bt z p' ≠ 32 → sgn bt z p' ≠ 10 → Q τ') : wp_X12_blanks τ w Q := by
  unfold wp_X12_blanks
  refine hL1_in (fun τ1 => ∃ p1, p ≤ p1 ∧ kpC τ τ1 ∧ r_t τ1 n z p1 bt ∧ q_rr Ks bt z p1 s = F) (fun τ1 => z - (τ1 0 10).toNatClampNeg) ?_ ⟨p, Nat.le_refl p, kpC.rf, h, hF⟩
  rintro P τ1 ⟨p1, hp1, k1, h1, hr⟩ ih
  have hs := h1.sg p1
  have e10 : τ1 0 10 = nI p1 := h1.2.2.1
  have hpz := h1.2.2.2.1
  have next : sgn bt z p1 = 32 ∨ sgn bt z p1 = 10 → P (hup τ1 0 10 ((τ1 0 10) + (1 : Int32))) := fun hb => by
    have hlt : p1 < z := hb.elim (fun e => sgn_lt e (by decide)) (fun e => sgn_lt e (by decide))
    have e' : (hup τ1 0 10 ((τ1 0 10) + (1 : Int32))) 0 10 = nI (p1 + 1) := by rw [hup_at, if_pos rfl, e10, nI_suc]
    refine ih _ ⟨p1 + 1, by omega, k1.tr (kpC.h (Or.inl rfl)), h1.mv (kpC.h (Or.inl rfl)) e' (by omega), ?_⟩ ?_
    · rw [qr_step h0 hpz, qt_sg (by unfold dgt; omega) h2, qs_b hb] at hr
      exact hr
    · show z - ((hup τ1 0 10 ((τ1 0 10) + (1 : Int32))) 0 10).toNatClampNeg < _
      rw [e', e10, nI_clamp (by omega), nI_clamp (by omega)]; omega
  refine t_peek hz h1 ?_
  refine sg_is hs (by decide) (fun q => next (Or.inl q)) (fun q => ?_)
  refine t_peek hz h1 ?_
  exact sg_isn hs (by decide) (fun q2 => hQ p1 τ1 hp1 k1 h1 hr q q2) (fun q2 => next (Or.inr q2))
def kpW (τ τ' : hSt) : Prop := (∀ k, k ≠ 0 → k ≠ 8 → k ≠ 9 → k ≠ 10 → k ≠ 11 → τ' k = τ k) ∧ ∀ j, j ≠ 10 → j ≠ 13 → j ≠ 20 → τ' 0 j = τ 0 j
theorem kpW.rf {τ : hSt} : kpW τ τ := ⟨fun _ _ _ _ _ _ => rfl, fun _ _ _ _ => rfl⟩
theorem kpW.tr {a b c : hSt} (h : kpW a b) (h2 : kpW b c) : kpW a c := ⟨fun k p q r s t => by rw [h2.1 k p q r s t, h.1 k p q r s t], fun j p q r => by rw [h2.2 j p q r, h.2 j p q r]⟩
theorem kpC.r {a b : hSt} (h : kpC a b) : kpW a b := ⟨fun k p _ _ _ _ => h.1 k p, fun j p q _ => h.2 j p q⟩
theorem kpW.h {a : hSt} {k i : Nat} {v : Int32} (hk : k = 8 ∨ k = 9 ∨ k = 10 ∨ k = 11) : kpW a (hup a k i v) := ⟨fun j p q r s t => hup_n _ _ _ (by omega), fun j _ _ _ => by rw [hup_ne _ _ (by omega)]⟩
def flR (τ0 : hSt) (F : Nat → Nat) (Q : Int32 → hSt → Prop) : Prop := ∀ τ', kpW τ0 τ' → F 0 ≠ 0 → Q 0 (hup (hup τ' 0 11 (nI (F 0))) 0 12 (nI (F 1)))
theorem fr_wr {τ0 τ1 : hSt} {F : Nat → Nat} {Q : Int32 → hSt → Prop} (hX : flR τ0 F Q) {k p : Nat} (k1 : kpW τ0 τ1) (f0 : F 0 = k) (hk : k ≠ 0) (f1 : F 1 = p) {x : Int32} (ex : x = nI p) : Q 0 (hup (hup τ1 0 11 (nI k)) 0 12 x) := by
  have := hX τ1 k1 (by omega)
  rw [f0, f1, ← ex] at this
  exact this
theorem r_t.hr {τ : hSt} {n z p k i : Nat} {v : Int32} {bt : Nat → Nat} (h : r_t τ n z p bt) (hk : k = 8 ∨ k = 9 ∨ k = 10 ∨ k = 11) : r_t (hup τ k i v) n z p bt := h.w (by rw [hup_ne _ _ (by omega)]) (by rw [hup_ne _ _ (by omega)]) (by rw [hup_ne _ _ (by omega)]) (hup_n _ _ _ (by omega))
/-- what the reference's arrays hold of the items -/
def arS (τ : hSt) (s : Nat → Nat) : Prop := τ 0 20 = nI (s 6) ∧ (∀ k, k < s 6 → τ 8 k = nI (s (1000 + k)) ∧ τ 9 k = nI (s (2000 + k)) ∧ (s (1000 + k) = 41 → τ 10 k = nI (s (3000 + k)))) ∧ ∀ i, i < s 8 → τ 11 i = nI (s (4000 + i)) ∧ s (4000 + i) < s 6 ∧ s (1000 + s (4000 + i)) = 40
def cuS (τ0 τ : hSt) (n z : Nat) (Ks bt F : Nat → Nat) (v1 v2 v3 : Int32) : Prop :=
  ∃ p s, v1 = nI (s 8) ∧ v2 = nI (s 7) ∧ v3 = nI (s 9) ∧ (s 7 < 6 ∧ s 8 ≤ 5 ∧ s 9 ≤ 1 ∧ s 6 ≤ p) ∧ kpW τ0 τ ∧ r_t τ n z p bt ∧ (s 0 = 0 ∧ s 2 = 0 ∧ s 10 = 0) ∧ q_rr Ks bt z p s = F ∧ arS τ s ∧ sgn bt z p ≠ 32 ∧ sgn bt z p ≠ 10
def nmv (s : Nat → Nat) : Nat := if s 10 = 0 then 1 else s 10 - 1
/-- behind a number -/
def nuS (τ τ2 : hSt) (n z p : Nat) (Ks bt F s : Nat → Nat) (v5 : Int32) (p2 : Nat) (s2 : Nat → Nat) : Prop :=
  p ≤ p2 ∧ kpC τ τ2 ∧ r_t τ2 n z p2 bt ∧ (s2 0 = 0 ∧ s2 2 = 0) ∧ (∀ j, j ≠ 2 → j ≠ 10 → j ≠ 11 → s2 j = s j) ∧ v5 = nI (nmv s2) ∧ (s2 10 = 0 ∨ (3 ≤ s2 10 ∧ s2 10 ≤ 100)) ∧ (s2 10 = 0 → p2 = p) ∧ (dgt (sgn bt z p2) → s2 10 ≠ 0) ∧ q_rr Ks bt z p2 s2 = F ∧ sgn bt z p2 ≠ 32 ∧ sgn bt z p2 ≠ 10
theorem arS.mv {τ τ' : hSt} {s t : Nat → Nat} (h : arS τ s) (k : kpC τ τ') (e : ∀ j, j ≠ 2 → j ≠ 10 → j ≠ 11 → t j = s j) : arS τ' t := by
  obtain ⟨a, b, c⟩ := h
  refine ⟨by rw [k.2 20 (by decide) (by decide), e 6 (by decide) (by decide) (by decide)]; exact a, fun i hi => ?_, fun i hi => ?_⟩
  · rw [e 6 (by decide) (by decide) (by decide)] at hi
    rw [k.1 8 (by decide), k.1 9 (by decide), k.1 10 (by decide), e _ (by omega) (by omega) (by omega), e _ (by omega) (by omega) (by omega), e _ (by omega) (by omega) (by omega)]
    exact b i hi
  · rw [e 8 (by decide) (by decide) (by decide)] at hi
    rw [k.1 11 (by decide), e _ (by omega) (by omega) (by omega), e 6 (by decide) (by decide) (by decide), e _ (by omega) (by omega) (by omega)]
    exact c i hi
/-- a number's digits -/
theorem t_num {τ0 τ : hSt} {w : Nat → Int64} {n z p : Nat} {Ks bt F s : Nat → Nat} {Q : Int32 → hSt → Prop} {J136 : Int32 → hSt → Prop} (hz : z ≤ 500) (hX : flR τ0 F Q) (k0 : kpW τ0 τ) (hr : r_t τ n z p bt) (h0 : s 0 = 0) (h2 : s 2 = 0) (h10 : s 10 = 0) (hF : q_rr Ks bt z p s = F) (hd : dgt (sgn bt z p)) (hJ : ∀ v5 p2 s2 τ2, nuS τ τ2 n z p Ks bt F s v5 p2 s2 → J136 v5 τ2) :
    hL2 (fun P56 (v5_63 : Int32) (σ64 : hSt) => (wp_X12_peek σ64 w (fun r66 => (wp_X12_isDigit r66 (fun r68 => ((r68 = 0 → (((2 : Int32) < ((σ64 0 10) - nI p) → (wp_X12_wrong (2 : Int32) (nI p) σ64 w (fun r72 σ71 => (hbo r72 ∧ Q r72 σ71)))) ∧ (¬ (2 : Int32) < ((σ64 0 10) - nI p) → (((2 : Int32) ≤ v5_63 → (wp_X12_blanks σ64 w (fun σ75 => (J136 v5_63 σ75)))) ∧ (¬ (2 : Int32) ≤ v5_63 → (wp_X12_wrong (2 : Int32) (nI p) σ64 w (fun r77 σ76 => (hbo r77 ∧ Q r77 σ76)))))))) ∧ (¬ r68 = 0 → (hM_ (fun (z79 : Int32) => (P56 z79 (hup σ64 0 10 ((σ64 0 10) + (1 : Int32))))) (fun J92 : Int32 → Prop => (((1000 : Int32) ≤ v5_63 → (J92 v5_63)) ∧ (¬ (1000 : Int32) ≤ v5_63 → (wp_X12_peek σ64 w (fun r82 => (J92 ((((10 : Int32) * v5_63) + r82) - (48 : Int32)))))))))))))))) (0 : Int32) τ := by
  refine hL2_in (fun v5 τ1 => ∃ p1 s1 m, v5 = nI m ∧ m ≤ 10000 ∧ p ≤ p1 ∧ kpC τ τ1 ∧ r_t τ1 n z p1 bt ∧ s1 0 = 0 ∧ q_rr Ks bt z p1 s1 = F ∧ ((p1 = p ∧ s1 = s ∧ m = 0) ∨ (p < p1 ∧ s1 2 = p + 1 ∧ s1 11 = p1 - p ∧ (s1 11 ≤ 2 → s1 10 = m + 1 ∧ m ≤ 99) ∧ (s1 11 = 1 → m ≤ 9) ∧ (2 < s1 11 → s1 10 = 101) ∧ ∀ j, j ≠ 2 → j ≠ 10 → j ≠ 11 → s1 j = s j))) (fun _ τ1 => z - (τ1 0 10).toNatClampNeg) ?_ ⟨p, s, 0, rfl, by decide, Nat.le_refl p, kpC.rf, hr, h0, hF, Or.inl ⟨rfl, rfl, rfl⟩⟩
  rintro P _ τ1 ⟨p1, s1, m, rfl, hm, hp1, k1, r1, s10, hF1, hD⟩ ih
  have hs1 := r1.sg p1
  have hpz1 := r1.2.2.2.1
  have e10 : τ1 0 10 = nI p1 := r1.2.2.1
  refine t_peek hz r1 ?_
  refine t_isDigit hs1 (fun hb => ?_) (fun hb => ?_)
  · refine br_f (by decide) ?_
    have hb' := hb
    unfold dgt at hb'
    have hlt : p1 < z := sgn_lt (c := sgn bt z p1) rfl (by omega)
    have ec : sgI (sgn bt z p1) = nI (sgn bt z p1) := by unfold sgI; rw [if_neg (by omega)]
    rw [qr_step s10 hpz1, qt_dg hb] at hF1
    obtain ⟨d, hd'⟩ : ∃ d, sgn bt z p1 - 48 = d := ⟨_, rfl⟩
    rw [hd'] at hF1
    have hd9 : d ≤ 9 := by omega
    refine hM_in (fun J => ∀ m', m' ≤ 10000 → (m < 1000 → m' = 10 * m + d) → J (nI m')) (fun J hJ2 => ?_) (fun m' hm' hmm => ?_)
    · refine pk_le 1000 m (fun q => hJ2 m hm (fun y => by omega)) (fun q => ?_) rfl rfl
      refine t_peek hz r1 ?_
      rw [ec, show (10 : Int32) = nI 10 from rfl, pk_mul, nI_add, show (48 : Int32) = nI 48 from rfl, pk_sub (by omega)]
      exact hJ2 _ (by omega) (fun _ => by omega)
    · have e' : (hup τ1 0 10 ((τ1 0 10) + (1 : Int32))) 0 10 = nI (p1 + 1) := by rw [hup_at, if_pos rfl, e10, nI_suc]
      have kk : kpC τ1 (hup τ1 0 10 ((τ1 0 10) + (1 : Int32))) := kpC.h (by omega)
      have hms : z - ((hup τ1 0 10 ((τ1 0 10) + (1 : Int32))) 0 10).toNatClampNeg < z - (τ1 0 10).toNatClampNeg := by rw [e', e10, nI_clamp (by omega), nI_clamp (by omega)]; omega
      rcases hD with ⟨q1, q2, q3⟩ | ⟨q1, q2, q3, q4, q5, q6, q7⟩
      · subst q1 q2 q3
        have e : q_dg d p1 s1 = upN (upN (upN s1 2 (p1 + 1)) 11 1) 10 (d + 1) := by unfold q_dg; rw [if_pos h2, if_pos h10]
        have g : ∀ j, j ≠ 2 → j ≠ 10 → j ≠ 11 → q_dg d p1 s1 j = s1 j := fun j i1 i2 i3 => by rw [e, upN_ne i2, upN_ne i3, upN_ne i1]
        have g2 : q_dg d p1 s1 2 = p1 + 1 := by rw [e, upN_ne (by decide), upN_ne (by decide), upN_eq]
        have g10 : q_dg d p1 s1 10 = d + 1 := by rw [e, upN_eq]
        have g11 : q_dg d p1 s1 11 = 1 := by rw [e, upN_ne (by decide), upN_eq]
        have em := hmm (by decide)
        refine ih _ _ ⟨p1 + 1, q_dg d p1 s1, m', rfl, hm', by omega, k1.tr kk, r1.mv kk e' (by omega), by rw [g 0 (by decide) (by decide) (by decide)]; exact s10, hF1, Or.inr ⟨by omega, g2, by rw [g11]; omega, fun _ => ⟨by rw [g10]; omega, by omega⟩, fun _ => by omega, fun y => by rw [g11] at y; omega, g⟩⟩ hms
      · have q2' : s1 2 ≠ 0 := by omega
        have e : q_dg d p1 s1 = upN (upN s1 11 (s1 11 + 1)) 10 (if s1 11 + 1 ≤ 2 then (s1 10 - 1) * 10 + d + 1 else 101) := by unfold q_dg; rw [if_neg q2']
        have g : ∀ j, j ≠ 10 → j ≠ 11 → q_dg d p1 s1 j = s1 j := fun j i2 i3 => by rw [e, upN_ne i2, upN_ne i3]
        have g10 : q_dg d p1 s1 10 = (if s1 11 + 1 ≤ 2 then (s1 10 - 1) * 10 + d + 1 else 101) := by rw [e, upN_eq]
        have g11 : q_dg d p1 s1 11 = s1 11 + 1 := by rw [e, upN_ne (by decide), upN_eq]
        refine ih _ _ ⟨p1 + 1, q_dg d p1 s1, m', rfl, hm', by omega, k1.tr kk, r1.mv kk e' (by omega), by rw [g 0 (by decide) (by decide)]; exact s10, hF1, Or.inr ⟨by omega, by rw [g 2 (by decide) (by decide)]; exact q2, by rw [g11]; omega, fun y => ?_, fun y => by rw [g11] at y; omega, fun y => ?_, fun j i1 i2 i3 => by rw [g j i2 i3]; exact q7 j i1 i2 i3⟩⟩ hms
        · rw [g11] at y
          have a1 := q4 (by omega)
          have a2 := q5 (by omega)
          have em := hmm (by omega)
          rw [g10, if_pos y]
          omega
        · rw [g11] at y
          rw [g10, if_neg (by omega)]
  · refine br_t rfl ?_
    rcases hD with ⟨q1, q2, q3⟩ | ⟨q1, q2, q3, q4, q5, q6, q7⟩
    · subst q1; exact absurd hd hb
    have q2' : s1 2 ≠ 0 := by omega
    rw [qr_end s10 q2' hpz1 hb] at hF1
    have bad : ¬ (3 ≤ s1 10 ∧ s1 10 ≤ 100) → Q 0 (hup (hup τ1 0 11 (2 : Int32)) 0 12 (nI p)) := fun hn => by
      have e : q_nd s1 = upN (m_rf 2 (s1 2 - 1) s1) 2 0 := by unfold q_nd; rw [if_neg hn]
      rw [e, qr_stop (by rw [upN_ne (by decide), rf_0]; decide)] at hF1
      subst hF1
      exact fr_wr (k := 2) hX (k0.tr k1.r) (by rw [upN_ne (by decide), rf_0]) (by decide) (by rw [upN_ne (by decide), rf_1]; omega) rfl
    unfold wp_X12_wrong
    rw [e10, pk_sub hp1]
    refine pk_lt 2 (p1 - p) (fun q => ⟨hbo_0, bad (fun y => by have := q6 (by omega); omega)⟩) (fun q => ?_) rfl rfl
    have a1 := q4 (by omega)
    refine pk_le 2 m (fun y => ?_) (fun y => ⟨hbo_0, bad (fun y2 => by omega)⟩) rfl rfl
    have hg : 3 ≤ s1 10 ∧ s1 10 ≤ 100 := by omega
    have e : q_nd s1 = upN s1 2 0 := by unfold q_nd; rw [if_pos hg]
    rw [e] at hF1
    refine q_blanks hz r1 (by rw [upN_ne (by decide)]; exact s10) upN_eq hF1 (fun p2 τ2 hp2 kC2 r2 hF2 m32 m10 => ?_)
    refine hJ _ p2 (upN s1 2 0) τ2 ⟨by omega, k1.tr kC2, r2, ⟨by rw [upN_ne (by decide)]; exact s10, upN_eq⟩, fun j i1 i2 i3 => by rw [upN_ne i1]; exact q7 j i1 i2 i3, ?_, Or.inr (by rw [upN_ne (by decide)]; exact hg), fun z2 => by rw [upN_ne (by decide)] at z2; omega, fun _ => by rw [upN_ne (by decide)]; omega, hF2, m32, m10⟩
    unfold nmv
    rw [upN_ne (by decide), if_neg (by omega)]
    congr 1
    omega

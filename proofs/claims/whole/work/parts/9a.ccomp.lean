/-! compose: class and reference agree. -/
theorem q_st6 {Ks : Nat → Nat} {c p : Nat} {s : Nat → Nat} : q_st Ks c p s 6 ≤ s 6 + 1 := by
  have rf : ∀ k t, m_rf k p t 6 = t 6 := fun k t => by unfold m_rf; rw [upN_ne (by decide), upN_ne (by decide)]
  have un : ∀ m t, q_un Ks c m p t 6 ≤ t 6 + 1 := fun m t => by
    unfold q_un; split
    · rw [upN_ne (by decide), it_6]; exact Nat.le_refl _
    · rw [rf]; omega
  have sg : ∀ t, q_sg Ks c p t 6 ≤ t 6 + 1 := fun t => by
    unfold q_sg
    split
    · omega
    split
    · exact un _ t
    split
    · have := un (c - 65) (upN t 7 (c - 65)); rw [upN_ne (by decide)] at this; exact this
    split
    · unfold q_og; split
      · rw [upN_ne (by decide), it_6, upN_ne (by decide), upN_ne (by omega)]; exact Nat.le_refl _
      · rw [rf]; omega
    split
    · unfold q_cg; split
      · rw [rf]; omega
      · unfold q_cx; rw [it_6, upN_ne (by decide), upN_ne (by omega), upN_ne (by omega)]; exact Nat.le_refl _
    split
    · unfold q_ee; split
      · omega
      · rw [rf]; omega
    · rw [rf]; omega
  have nd : q_nd s 6 = s 6 := by
    unfold q_nd; rw [upN_ne (by decide)]; split
    · rfl
    · unfold m_rf; rw [upN_ne (by decide), upN_ne (by decide)]
  unfold q_st
  split
  · unfold q_dg; split
    · split
      · rw [upN_ne (by decide), upN_ne (by decide), upN_ne (by decide)]; omega
      · rw [rf, upN_ne (by decide)]; omega
    · rw [upN_ne (by decide), upN_ne (by decide)]; omega
  · split
    · exact sg s
    · split
      · have := sg (q_nd s); omega
      · omega
theorem q_fin {Ks bt : Nat → Nat} {z : Nat} (hb : ∀ i, i < z → bt i < 256) : ∀ (f p : Nat) (s : Nat → Nat), p + f = z + 1 → p ≤ z → s 6 ≤ p → q_rn Ks bt z f p s 0 = 0 → q_rn Ks bt z f p s 8 = 0 ∧ q_rn Ks bt z f p s 6 ≤ z
  | 0, p, _, h1, h2, _, _ => by omega
  | f + 1, p, s, h1, h2, h6, h0 => by
    by_cases q0 : s 0 = 0
    · rw [qn_step q0] at h0 ⊢
      by_cases q : p < z
      · exact q_fin hb f (p + 1) _ (by omega) (by omega) (by have := q_st6 (Ks := Ks) (c := sgn bt z p) (p := p) (s := s); omega) h0
      · have ep : p = z := by omega
        have ef : f = 0 := by omega
        subst ep ef
        have e9 : sgn bt p p = 999 := by unfold sgn; rw [if_neg (Nat.lt_irrefl _)]
        rw [e9] at h0 ⊢
        have h0' : q_st Ks 999 p s 0 = 0 := h0
        show q_st Ks 999 p s 8 = 0 ∧ q_st Ks 999 p s 6 ≤ p
        have ee : ∀ t, t 6 = s 6 → q_ee p t 0 = 0 → q_ee p t 8 = 0 ∧ q_ee p t 6 ≤ p := fun t t6 ht => by
          unfold q_ee at ht ⊢
          by_cases y : t 8 = 0 ∧ t 9 = 0 ∧ t 10 = 0
          · rw [if_pos y]; exact ⟨y.1, by omega⟩
          · rw [if_neg y, rf_0] at ht; exact absurd ht (by decide)
        have nd : q_nd s 6 = s 6 := by
          unfold q_nd; rw [upN_ne (by decide)]; split
          · rfl
          · unfold m_rf; rw [upN_ne (by decide), upN_ne (by decide)]
        by_cases q2 : s 2 = 0
        · rw [qt_sg (by unfold dgt; omega) q2, qs_e] at h0' ⊢
          exact ee s rfl h0'
        · by_cases q3 : q_nd s 0 = 0
          · have e : q_st Ks 999 p s = q_sg Ks 999 p (q_nd s) := by unfold q_st; rw [if_neg (by decide), if_neg q2, if_pos q3]
            rw [e, qs_e] at h0' ⊢
            exact ee _ nd h0'
          · have e : q_st Ks 999 p s = q_nd s := by unfold q_st; rw [if_neg (by decide), if_neg q2, if_neg q3]
            rw [e] at h0'
            exact absurd h0' q3
    · rw [qn_stop q0] at h0
      exact absurd h0 q0
/-- a composition that is not one: all stays -/
theorem RI.ct {B n L : Nat} {σ τ σ' τ' : hSt} {Ks : Nat → Nat} {μs : Nat → Nat → Nat} {lm lc : Nat → Nat} (hn4 : 4 ≤ n) (hn : n ≤ 8) (hZ : rZ σ τ n) (hM : rMs σ τ n Ks μs) (hL : L ≤ 1000) (hOK : lOK Ks lm lc L) (hX : rLx σ n Ks μs L lm lc) (hY : rLy τ L lm lc) (hP : rP σ (TT n Ks μs L lm lc) (FR Ks lm L)) (hS : rS σ B)
    (kk : ∀ k, k ≠ 0 → k ≠ 19 → (k < 24 ∨ 30 < k) → σ' k = σ k) (s0 : σ' 0 0 = σ 0 0) (s1 : σ' 0 1 = τ' 0 11) (s19 : σ' 19 1 = 0) (tk : ∀ k, (k = 1 ∨ k = 2 ∨ k = 3 ∨ k = 4) → τ' k = τ k) (tj : ∀ j, (j = 1 ∨ j = 6 ∨ j = 37) → τ' 0 j = τ 0 j) (t8 : τ' 0 8 = 0) : RI B σ' τ' := by
  obtain ⟨z1, z2, z3, z4, z5⟩ := hZ
  refine ⟨n, Ks, μs, L, lm, lc, 0, hn4, hn, ⟨s0.trans z1, (tj 1 (Or.inl rfl)).trans z2, s1, ?_, ?_⟩, ⟨Nat.zero_le _, s19, t8, fun i hi => absurd hi (Nat.not_lt_zero i)⟩, fun m' hm' => ?_, hL, hOK, hX.mv4 (fun k i1 i2 => kk k (by omega) (by omega) (by omega)), ⟨?_, fun k hk => ?_⟩, ?_, ?_⟩
  · rw [kk 35 (by decide) (by decide) (by omega), tj 37 (Or.inr (Or.inr rfl))]; exact z4
  · rw [kk 3 (by decide) (by decide) (by omega)]; exact z5
  · obtain ⟨m1, m2, m3⟩ := hM m' hm'
    exact ⟨m1, m2.mv (kk _ (by omega) (by omega) (by omega)) (kk _ (by omega) (by omega) (by omega)), m3.mv (tk 1 (Or.inl rfl)) (tk 2 (Or.inr (Or.inl rfl)))⟩
  · rw [tj 6 (Or.inr (Or.inl rfl))]; exact hY.1
  · rw [tk 3 (Or.inr (Or.inr (Or.inl rfl))), tk 4 (Or.inr (Or.inr (Or.inr rfl)))]; exact hY.2 k hk
  · unfold rP; rw [kk 31 (by decide) (by decide) (by omega)]; exact hP
  · obtain ⟨tp, u1, u2, u3⟩ := hS
    exact ⟨tp, u1, by rw [kk 17 (by decide) (by decide) (by omega)]; exact u2, fun r hr => by rw [kk 18 (by decide) (by decide) (by omega)]; exact u3 r hr⟩
/-- the reference's answer -/
theorem t_compose {τ : hSt} {w : Nat → Int64} {n z f : Nat} {Ks bt F : Nat → Nat} {Q : Int32 → hSt → (Nat → Int64) → Prop} (hz : z ≤ 500) (hK : ∀ m, m < 6 → Ks m ≤ 64 ∧ τ 1 m = nI (Ks m)) (h1 : τ 0 1 = nI n) (h8 : τ 0 8 = nI z) (hb : ∀ i, i < z → bt i < 256 ∧ τ 5 i = bI (bt i)) (hF : q_rr Ks bt z 0 q_0 = F)
    (hu : F 0 = 0 → F 6 ≤ 500 ∧ (∀ k, k < F 6 → 1 ≤ tmf F k ∧ tmf F k ≤ 99) ∧ wb (kdf F) (ptf F) f 0 0 (F 6))
    (hX : F 0 ≠ 0 → ∀ τ', (∀ k, (k = 1 ∨ k = 2 ∨ k = 3 ∨ k = 4) → τ' k = τ k) → (∀ j, (j = 1 ∨ j = 6 ∨ j = 37) → τ' 0 j = τ 0 j) → τ' 0 0 = 0 → τ' 0 8 = 0 → τ' 0 11 = nI (F 0) → Q ((-1 : Int32) - nI (F 1)) τ' w)
    (hN : F 0 = 0 → 1000 < cnt (kdf F) (tmf F) (ptf F) f 0 (F 6) → ∀ τ' w', (∀ k, (k = 1 ∨ k = 2 ∨ k = 3 ∨ k = 4) → τ' k = τ k) → (∀ j, (j = 1 ∨ j = 6 ∨ j = 37) → τ' 0 j = τ 0 j) → τ' 0 0 = 0 → τ' 0 8 = 0 → τ' 0 11 = 5 → Q ((-1 : Int32) - nI z) τ' w')
    (hD : F 0 = 0 → cnt (kdf F) (tmf F) (ptf F) f 0 (F 6) ≤ 1000 → ∀ τ' w', (∀ k, (k = 1 ∨ k = 2) → τ' k = τ k) → (∀ j, (j = 1 ∨ j = 37) → τ' 0 j = τ 0 j) → τ' 0 0 = 0 → τ' 0 8 = 0 → τ' 0 11 = 0 → yX τ' (lds (kdf F) (tmf F) (ptf F) f 0 (F 6) (0, 0, fun _ => 0)) → Q (τ' 0 6) τ' w') : wp_X12_compose τ w Q := by
  unfold wp_X12_compose wp_X12_open
  generalize hτ1 : (hup (hup (hup (hup (hup τ 0 0 0) 0 9 ((hup τ 0 0 0) 0 8)) 0 8 (0 : Int32)) 0 10 (0 : Int32)) 0 11 (0 : Int32)) = τ1
  have o1 : ∀ k, k ≠ 0 → τ1 k = τ k := fun k hk => by
    rw [← hτ1, hup_n _ _ _ hk, hup_n _ _ _ hk, hup_n _ _ _ hk, hup_n _ _ _ hk, hup_n _ _ _ hk]
  have o2 : ∀ j, j ≠ 0 → j ≠ 8 → j ≠ 9 → j ≠ 10 → j ≠ 11 → τ1 0 j = τ 0 j := fun j a b c d e => by
    rw [← hτ1, hup_at, if_neg e, hup_at, if_neg d, hup_at, if_neg b, hup_at, if_neg c, hup_at, if_neg a]
  have p0 : τ1 0 0 = 0 := by rw [← hτ1, hup_at, if_neg (by decide), hup_at, if_neg (by decide), hup_at, if_neg (by decide), hup_at, if_neg (by decide), hup_at, if_pos rfl]
  have p8 : τ1 0 8 = 0 := by rw [← hτ1, hup_at, if_neg (by decide), hup_at, if_neg (by decide), hup_at, if_pos rfl]
  have p9 : τ1 0 9 = nI z := by rw [← hτ1, hup_at, if_neg (by decide), hup_at, if_neg (by decide), hup_at, if_neg (by decide), hup_at, if_pos rfl, hup_at, if_neg (by decide)]; exact h8
  have p10 : τ1 0 10 = 0 := by rw [← hτ1, hup_at, if_neg (by decide), hup_at, if_pos rfl]
  have p11 : τ1 0 11 = 0 := by rw [← hτ1, hup_at, if_pos rfl]
  have r1 : r_t τ1 n z 0 bt := ⟨by rw [o2 1 (by decide) (by decide) (by decide) (by decide) (by decide)]; exact h1, p9, p10, Nat.zero_le _, fun i hi => by rw [o1 5 (by decide)]; exact hb i hi⟩
  have gk : ∀ τ', kpW τ1 τ' → ∀ k, (k = 1 ∨ k = 2 ∨ k = 3 ∨ k = 4) → τ' k = τ k := fun τ' h k hk => by rw [h.1 k (by omega) (by omega) (by omega) (by omega) (by omega)]; exact o1 k (by omega)
  have gj : ∀ τ', kpW τ1 τ' → ∀ j, (j = 1 ∨ j = 6 ∨ j = 37) → τ' 0 j = τ 0 j := fun τ' h j hj => by rw [h.2 j (by omega) (by omega) (by omega)]; exact o2 j (by omega) (by omega) (by omega) (by omega) (by omega)
  have hT : ∀ τ', τ' 1 = τ1 1 → ∀ m, m < 6 → ∀ Q : Int32 → Prop, (0 < Ks m → Q 1) → (¬ 0 < Ks m → Q 0) → wp_X12_isTold (nI m) τ' w Q := fun τ' h m hm Q q1 q0 => by
    unfold wp_X12_isTold
    obtain ⟨k64, km⟩ := hK m hm
    refine br_f (nI_pos (by omega)) (br_f (nI_ge (b := 6) hm (by decide)) ⟨vp_in_nI hm (by decide), ?_⟩)
    rw [nI_clamp (by omega), h, o1 1 (by decide)]
    exact pk_le (Ks m) 0 (fun y => q0 (by omega)) (fun y => q1 y) km rfl
  refine t_readUnits (τ0 := τ1) hz hT r1 rfl kpW.rf hF (fun τ' k f0 => ⟨fun y => absurd rfl y, fun _ => ?_⟩) (fun f0 τ2 k2 hA => ⟨fun _ => ?_, fun y => absurd y (by decide)⟩)
  · have cc : ∀ j, j ≠ 11 → j ≠ 12 → (hup (hup τ' 0 11 (nI (F 0))) 0 12 (nI (F 1))) 0 j = τ' 0 j := fun j a b => by rw [hup_at, if_neg b, hup_at, if_neg a]
    have ck : ∀ k, k ≠ 0 → (hup (hup τ' 0 11 (nI (F 0))) 0 12 (nI (F 1))) k = τ' k := fun k a => by rw [hup_n _ _ _ a, hup_n _ _ _ a]
    rw [show (hup (hup τ' 0 11 (nI (F 0))) 0 12 (nI (F 1))) 0 12 = nI (F 1) by rw [hup_at, if_pos rfl]]
    refine hX f0 _ (fun j hj => by rw [ck j (by omega)]; exact gk τ' k j hj) (fun j hj => by rw [cc j (by omega) (by omega)]; exact gj τ' k j hj) ?_ ?_ ?_
    · rw [cc 0 (by decide) (by decide), k.2 0 (by decide) (by decide) (by decide)]; exact p0
    · rw [cc 8 (by decide) (by decide), k.2 8 (by decide) (by decide) (by decide)]; exact p8
    · rw [hup_at, if_neg (by decide), hup_at, if_pos rfl]
  · obtain ⟨u5, uT, uw⟩ := hu f0
    have hj : jS τ2 (kdf F) (tmf F) (ptf F) (F 6) := ⟨hA.1, fun k hk => ⟨(hA.2.1 k hk).1, (hA.2.1 k hk).2.1, (hA.2.1 k hk).2.2⟩⟩
    refine t_counted u5 uT uw hj (fun w' hwo => ?_)
    by_cases hc : cnt (kdf F) (tmf F) (ptf F) f 0 (F 6) ≤ 1000
    · refine lgc_le (a := min 1001 (cnt (kdf F) (tmf F) (ptf F) f 0 (F 6))) (b := 1000) (by omega) (by decide) (fun _ => ?_) (fun y => by omega)
      refine t_unroll u5 uT uw hj hwo hc (fun τ3 k3 hy => ?_)
      refine hD f0 hc τ3 w' (fun k hk => by rw [k3.1 k (by omega) (by omega) (by omega) (by omega)]; exact gk τ2 k2 k (by omega)) (fun j hj2 => by rw [k3.2 j (by omega)]; exact gj τ2 k2 j (by omega)) ?_ ?_ ?_ hy
      · rw [k3.2 0 (by decide), k2.2 0 (by decide) (by decide) (by decide)]; exact p0
      · rw [k3.2 8 (by decide), k2.2 8 (by decide) (by decide) (by decide)]; exact p8
      · rw [k3.2 11 (by decide), k2.2 11 (by decide) (by decide) (by decide)]; exact p11
    · refine lgc_le (a := min 1001 (cnt (kdf F) (tmf F) (ptf F) f 0 (F 6))) (b := 1000) (by omega) (by decide) (fun y => by omega) (fun _ => ?_)
      unfold wp_X12_wrong
      have cc : ∀ j, j ≠ 11 → j ≠ 12 → (hup (hup τ2 0 11 (5 : Int32)) 0 12 (τ2 0 9)) 0 j = τ2 0 j := fun j a b => by rw [hup_at, if_neg b, hup_at, if_neg a]
      have ck : ∀ k, k ≠ 0 → (hup (hup τ2 0 11 (5 : Int32)) 0 12 (τ2 0 9)) k = τ2 k := fun k a => by rw [hup_n _ _ _ a, hup_n _ _ _ a]
      have e9 : (hup (hup τ2 0 11 (5 : Int32)) 0 12 (τ2 0 9)) 0 9 = nI z := by rw [cc 9 (by decide) (by decide), k2.2 9 (by decide) (by decide) (by decide)]; exact p9
      have := hN f0 (by omega) (hup (hup τ2 0 11 (5 : Int32)) 0 12 (τ2 0 9)) w' (fun j hj => by rw [ck j (by omega)]; exact gk τ2 k2 j hj) (fun j hj => by rw [cc j (by omega) (by omega)]; exact gj τ2 k2 j hj) (by rw [cc 0 (by decide) (by decide), k2.2 0 (by decide) (by decide) (by decide)]; exact p0) (by rw [cc 8 (by decide) (by decide), k2.2 8 (by decide) (by decide) (by decide)]; exact p8) (by rw [hup_at, if_neg (by decide), hup_at, if_pos rfl])
      rw [← e9] at this
      exact this
theorem c_compose {B : Nat} {σ τ : hSt} {w : Nat → Int64} (h : RI B σ τ) : wp_X11_compose σ (fun r σ1 => wp_X12_compose τ w (fun r2 τ1 w1 => lawE r r2 (RI B σ1 τ1))) := by
  obtain ⟨n, Ks, μs, L, lm, lc, tz, hn4, hn, hZ, hT, hM, hL, hOK, hX, hY, hP, hS⟩ := h
  have hZ' := hZ
  obtain ⟨z1, z2, z3, z4, z5⟩ := hZ'
  have hT' := hT
  obtain ⟨t1, t2, t3, t4⟩ := hT'
  obtain ⟨bt, hbt⟩ := hT.bt
  have hH : ∀ σ', (∀ k, k < 24 → σ' k = σ k) → hasM σ' Ks := fun σ' hk m hm Q q1 q0 => by
    have hM' : rMs σ' τ n Ks μs := fun m' hm' => by
      obtain ⟨m1, m2, m3⟩ := hM m' hm'
      exact ⟨m1, m2.mv (hk _ (by omega)) (hk _ (by omega)), m3⟩
    refine s_has (by rw [hk 3 (by decide)]; exact z5) hM' (fun m' hm' e hK => ?_) (fun hno => ?_)
    · have em := (nI_eq (by omega) (by omega)).mp e
      subst em; exact q1 hK
    · exact q0 (fun y => hno ((tld_m hm).mpr y))
  unfold wp_X11_compose wp_X1_begin
  generalize hσ1 : (hup (hup (hup (hup (hup σ 24 6 (0 : Int32)) 24 7 (0 : Int32)) 24 8 (0 : Int32)) 24 9 (1 : Int32)) 24 10 (-1 : Int32)) = σ1
  have o1 : ∀ k, k ≠ 24 → σ1 k = σ k := fun k hk => by rw [← hσ1, hup_n _ _ _ hk, hup_n _ _ _ hk, hup_n _ _ _ hk, hup_n _ _ _ hk, hup_n _ _ _ hk]
  have hx1 : q_x σ1 q_0 := by
    refine ⟨fun j i1 i2 => ?_, ?_, fun k hk => absurd hk (Nat.not_lt_zero k)⟩
    · rw [← hσ1]
      rcases (by omega : j = 6 ∨ j = 7 ∨ j = 8 ∨ j = 9) with rfl | rfl | rfl | rfl
      · rw [hup_at, if_neg (by decide), hup_at, if_neg (by decide), hup_at, if_neg (by decide), hup_at, if_neg (by decide), hup_at, if_pos rfl]; rfl
      · rw [hup_at, if_neg (by decide), hup_at, if_neg (by decide), hup_at, if_neg (by decide), hup_at, if_pos rfl]; rfl
      · rw [hup_at, if_neg (by decide), hup_at, if_neg (by decide), hup_at, if_pos rfl]; rfl
      · rw [hup_at, if_neg (by decide), hup_at, if_pos rfl]; rfl
    · rw [← hσ1, hup_at, if_pos rfl]; rfl
  have ho0 : q_ok Ks 0 q_0 := ⟨by decide, fun _ => Or.inl rfl, fun k hk => absurd hk (Nat.not_lt_zero k), fun _ => rfl, fun i hi => absurd hi (Nat.not_lt_zero i), 0, rfl⟩
  have ht1 : σ1 19 1 = nI tz := by rw [o1 19 (by decide)]; exact t2
  have hb1 : ∀ i, i < tz → bt i < 256 ∧ σ1 20 i = bI (bt i) := fun i hi => by rw [o1 20 (by decide)]; exact ⟨(hbt i hi).1, (hbt i hi).2.1⟩
  have hKs : ∀ m, m < 6 → Ks m ≤ 64 ∧ τ 1 m = nI (Ks m) := fun m hm => ⟨(hM m hm).1.1, (hM m hm).2.2.1⟩
  have hrf := fun (f : Nat) (Q : Int32 → hSt → (Nat → Int64) → Prop) => t_compose (w := w) (f := f) (Q := Q) t1 hKs z2 t3 (fun i hi => ⟨(hbt i hi).1, (hbt i hi).2.2⟩) (rfl : q_rr Ks bt tz 0 q_0 = q_rr Ks bt tz 0 q_0)
  have eF : q_rn Ks bt tz (tz + 1) 0 q_0 = q_rr Ks bt tz 0 q_0 := rfl
  have hfin := q_fin (Ks := Ks) (fun i hi => (hbt i hi).1) (tz + 1) 0 q_0 (by omega) (Nat.zero_le _) (Nat.zero_le _)
  refine y_thru (s0 := q_0) (fun σ' hk => hH σ' (fun k hk2 => by rw [hk k hk2]; exact o1 k (by omega))) t1 ht1 hb1 rfl rfl rfl ho0 hx1 (fun f0 σ2 k2 hz2 => ?_) (fun f0 σ2 k2 hz2 hok hx2 => ?_)
  · rw [eF] at f0 hz2
    generalize q_rr Ks bt tz 0 q_0 = F at f0 hz2 hrf
    refine hM_in (fun J => J 0 σ2) (fun J hJ => br_t rfl hJ) ?_
    unfold wp_X9_cut wp_X10_kind_r24 wp_X10_place_r24
    refine ⟨fun y => absurd rfl y, fun _ => ?_⟩
    have e0 : (hup σ2 19 1 (0 : Int32)) 24 0 = nI (F 0) := by rw [hup_ne _ _ (by decide)]; exact hz2.1
    have e1 : (hup (hup σ2 19 1 (0 : Int32)) 0 1 ((hup σ2 19 1 (0 : Int32)) 24 0)) 24 1 = nI (F 1) := by rw [hup_ne _ _ (by decide), hup_ne _ _ (by decide)]; exact hz2.2.1
    rw [e1, e0]
    refine hrf 0 _ (fun y => absurd y f0) (fun _ τ' tk tj a0 a8 a11 => lawE_of rfl ?_) (fun y => absurd y f0) (fun y => absurd y f0)
    refine RI.ct hn4 hn hZ hM hL hOK hX hY hP hS (fun k i1 i2 i3 => ?_) ?_ ?_ ?_ tk tj a8
    · rw [hup_n _ _ _ i1, hup_n _ _ _ i2, k2 k (by omega) (by omega) (by omega)]; exact o1 k (by omega)
    · rw [hup_at, if_neg (by decide), hup_n _ _ _ (by decide), k2 0 (by decide) (by decide) (by decide), o1 0 (by decide)]
    · rw [hup_at, if_pos rfl, a11]
    · rw [hup_ne _ _ (by decide), hup_at, if_pos rfl]
  · rw [eF] at f0 hz2 hok hx2 hfin
    generalize q_rr Ks bt tz 0 q_0 = F at f0 hz2 hok hx2 hrf hfin
    obtain ⟨f8, f6⟩ := hfin f0
    obtain ⟨⟨b1, b2, b3, b4⟩, -, hC, -, hE⟩ := hok
    rw [f8] at hE
    obtain ⟨-, f, hw⟩ := hE
    have hw' : wb (kdf F) (ptf F) f 0 0 (F 6) := hw
    have hu5 : F 6 ≤ 500 := by omega
    have hTm : ∀ k, k < F 6 → 1 ≤ tmf F k ∧ tmf F k ≤ 99 := fun k hk => ⟨(hC k hk).2.1, (hC k hk).2.2.1⟩
    have hi2 : iS σ2 (kdf F) (tmf F) (F 6) := ⟨hx2.1 6 (by decide) (by decide), fun k hk => hx2.2.2 k hk⟩
    have e240 : σ2 24 0 = 0 := by rw [hz2.1, f0]; rfl
    have e19 : σ2 19 1 = nI tz := by rw [k2 19 (by decide) (by decide) (by decide)]; exact ht1
    have hrf' := fun (Q : Int32 → hSt → (Nat → Int64) → Prop) => hrf f Q (fun _ => ⟨hu5, hTm, hw'⟩)
    refine hM_in (fun J => (cnt (kdf F) (tmf F) (ptf F) f 0 (F 6) ≤ 1000 → ∀ σ', kpV 0 σ2 σ' → sX σ' 0 (lds (kdf F) (tmf F) (ptf F) f 0 (F 6) (0, 0, fun _ => 0)) → J 1 σ') ∧ (1000 < cnt (kdf F) (tmf F) (ptf F) f 0 (F 6) → ∀ σ', kpV 0 σ2 σ' → J 0 (hup (hup σ' 24 0 (5 : Int32)) 24 1 (nI tz)))) (fun J hJ => ?_) ⟨fun hc σ3 k3 hx3 => ?_, fun hc σ3 k3 => ?_⟩
    · unfold wp_X9_size
      refine br_f (by decide) ?_
      rw [e19]
      exact s_spread hu5 hTm hw' hi2 e240 hJ.1 hJ.2
    · -- the leads are told
      unfold wp_X9_cut wp_X10_kind_r24
      refine ⟨fun _ => ?_, fun y => absurd y (by decide)⟩
      have e0 : (hup σ3 19 1 (0 : Int32)) 24 0 = 0 := by rw [hup_ne _ _ (by decide), k3.2.1 0 (by decide) (by decide) (by decide)]; exact e240
      rw [e0]
      have kk3 : ∀ k, (k < 24 ∨ 30 < k) → σ3 k = σ k := fun k hk => by rw [k3.1 k (by omega) (by omega) (by omega) (by omega) (by omega), k2 k (by omega) (by omega) (by omega)]; exact o1 k (by omega)
      have e00 : (hup (hup σ3 19 1 (0 : Int32)) 0 1 0) 0 0 = nI n := by rw [hup_at, if_neg (by decide), hup_n _ _ _ (by decide), kk3 0 (by omega)]; exact z1
      rw [e00]
      refine s_clearP hn (fun σ4 o4 p5 p6 p7 p8 p9 => ?_)
      obtain ⟨hdy, hto⟩ := lds_dyn (Ks := Ks) (u := F 6) (x := (0, 0, fun _ => 0)) hC hw' (Nat.le_refl _) ⟨by show 0 < 6; decide, Or.inr ⟨rfl, fun i hi => absurd hi (Nat.not_lt_zero i)⟩⟩ (fun j hj => absurd hj (Nat.not_lt_zero j))
      have hsz := lds_sz (kd := kdf F) (tm := tmf F) (pt := ptf F) f 0 (F 6) (0, 0, fun _ => 0)
      generalize hXX : lds (kdf F) (tmf F) (ptf F) f 0 (F 6) (0, 0, fun _ => 0) = X at hx3 hdy hto hsz hrf'
      have hX1 : X.2.1 ≤ 1000 := by
        have : X.2.1 = 0 + cnt (kdf F) (tmf F) (ptf F) f 0 (F 6) := hsz
        omega
      obtain ⟨x0, x1, x2, x3, x4⟩ := hx3
      have kk4 : ∀ k, k ≠ 0 → k ≠ 19 → k ≠ 31 → σ4 k = σ3 k := fun k i1 i2 i3 => by rw [o4 k i3, hup_n _ _ _ i1, hup_n _ _ _ i2]
      have hOK' : lOK Ks (fun k => X.2.2 k / 3) (fun k => X.2.2 k % 3) X.2.1 := fun k hk => ⟨(hto k hk).1, (hto k hk).2.1, (hto k hk).2.2⟩
      have hcM : ∀ σ5, (∀ k, (k < 24 ∨ 30 < k) → k ≠ 0 → k ≠ 19 → (k < 31 ∨ 34 < k) → σ5 k = σ k) → ∀ m, m < 6 → vM n (Ks m) (μs m) ∧ cM σ5 (5 + 2 * m) n (Ks m) (μs m) := fun σ5 hk m hm => ⟨(hM m hm).1, (hM m hm).2.1.mv (hk _ (by omega) (by omega) (by omega) (by omega)) (hk _ (by omega) (by omega) (by omega) (by omega))⟩
      refine hL2_in (fun v2 σ5 => ∃ i, i ≤ X.2.1 ∧ v2 = nI i ∧ (∀ k, (k < 31 ∨ 34 < k) → σ5 k = σ4 k) ∧ σ5 31 9 = 0 ∧ rLx σ5 n Ks μs i (fun k => X.2.2 k / 3) (fun k => X.2.2 k % 3)) (fun v2 _ => X.2.1 - v2.toNatClampNeg) ?_ ⟨0, Nat.zero_le _, rfl, fun _ _ => rfl, p9, ⟨p5, p6, p7, p8, fun k hk => absurd hk (Nat.not_lt_zero k)⟩⟩
      rintro P _ σ5 ⟨i, hi, rfl, o5, e9, x5⟩ ih
      have e16 : σ5 24 16 = nI X.2.1 := by rw [o5 24 (by omega), kk4 24 (by decide) (by decide) (by decide)]; exact x3
      unfold wp_X1_size wp_X5_size
      refine pk_le X.2.1 i (fun q => ?_) (fun q => ?_) e16 rfl
      · have ei : i = X.2.1 := by omega
        subst ei
        rw [x5.2.1]
        refine hrf' _ (fun y => absurd f0 y) (fun _ y => by omega) (fun _ _ τ' w' tk tj a0 a8 a11 hy => ?_)
        obtain ⟨y0, y1, y2⟩ := hy
        refine lawE_of y1.symm ?_
        have kf : ∀ k, (k < 24 ∨ 34 < k) → k ≠ 0 → k ≠ 19 → σ5 k = σ k := fun k i1 i2 i3 => by rw [o5 k (by omega), kk4 k i2 i3 (by omega)]; exact kk3 k (by omega)
        refine ⟨n, Ks, μs, X.2.1, fun k => X.2.2 k / 3, fun k => X.2.2 k % 3, 0, hn4, hn, ⟨?_, ?_, ?_, ?_, ?_⟩, ⟨Nat.zero_le _, ?_, a8, fun j hj => absurd hj (Nat.not_lt_zero j)⟩, fun m' hm' => ?_, hX1, hOK', x5, ⟨y1, y2⟩, Or.inl e9, ?_⟩
        · rw [o5 0 (by omega), o4 0 (by decide)]; exact e00
        · rw [tj 1 (Or.inl rfl)]; exact z2
        · rw [o5 0 (by omega), o4 0 (by decide), hup_at, if_pos rfl, a11]
        · rw [kf 35 (by omega) (by decide) (by decide), tj 37 (Or.inr rfl)]; exact z4
        · rw [kf 3 (by omega) (by decide) (by decide)]; exact z5
        · rw [o5 19 (by omega), o4 19 (by decide), hup_ne _ _ (by decide), hup_at, if_pos rfl]; rfl
        · obtain ⟨m1, m2, m3⟩ := hM m' hm'
          exact ⟨m1, m2.mv (kf _ (by omega) (by omega) (by omega)) (kf _ (by omega) (by omega) (by omega)), m3.mv (tk 1 (Or.inl rfl)) (tk 2 (Or.inr rfl))⟩
        · obtain ⟨tp, u1, u2, u3⟩ := hS
          exact ⟨tp, u1, by rw [kf 17 (by omega) (by decide) (by decide)]; exact u2, fun r hr => by rw [kf 18 (by omega) (by decide) (by decide)]; exact u3 r hr⟩
      · obtain ⟨v1, v2, v3⟩ := hto i q
        have e30 : σ5 30 i = nI (X.2.2 i) := by rw [o5 30 (by omega), kk4 30 (by decide) (by decide) (by decide)]; exact x4 i q (by omega)
        unfold wp_X1_letterOf wp_X1_callOf
        refine s_cell (by decide) (show i < 1000 by omega) ?_
        rw [e30, show nI (X.2.2 i) / (3 : Int32) = nI (X.2.2 i / 3) from pk_div (d := 3) (by omega) (by decide) (by decide)]
        refine s_cell (by decide) (show i < 1000 by omega) ?_
        rw [e30, show nI (X.2.2 i) - nI (X.2.2 i) / (3 : Int32) * (3 : Int32) = nI (X.2.2 i % 3) from pk_rem (d := 3) (by omega) (by decide) (by decide)]
        refine s_add (lm := fun k => X.2.2 k / 3) (lc := fun k => X.2.2 k % 3) hn (hcM σ5 (fun k i1 i2 i3 i4 => by rw [o5 k i4, kk4 k i2 i3 (by omega)]; exact kk3 k i1)) (by omega) (fun k hk => hOK' k (by omega)) x5 (fun σ6 o6 e96 x6 => ?_)
        intro x hx
        rw [nI_suc] at hx
        subst hx
        exact ih _ _ ⟨i + 1, by omega, rfl, fun k hk => by rw [o6 k hk]; exact o5 k hk, by rw [e96]; exact e9, x6⟩ (by rw [nI_clamp (by omega), nI_clamp (by omega)]; omega)
    · -- they are too many
      unfold wp_X9_cut wp_X10_kind_r24 wp_X10_place_r24
      refine ⟨fun y => absurd rfl y, fun _ => ?_⟩
      generalize hσ4 : hup (hup σ3 24 0 (5 : Int32)) 24 1 (nI tz) = σ4
      have q0 : σ4 24 0 = 5 := by rw [← hσ4, hup_at, if_neg (by decide), hup_at, if_pos rfl]
      have q1 : σ4 24 1 = nI tz := by rw [← hσ4, hup_at, if_pos rfl]
      have kk4 : ∀ k, (k < 24 ∨ 30 < k) → σ4 k = σ k := fun k hk => by rw [← hσ4, hup_n _ _ _ (by omega), hup_n _ _ _ (by omega), k3.1 k (by omega) (by omega) (by omega) (by omega) (by omega), k2 k (by omega) (by omega) (by omega)]; exact o1 k (by omega)
      have e0 : (hup σ4 19 1 (0 : Int32)) 24 0 = 5 := by rw [hup_ne _ _ (by decide)]; exact q0
      have e1 : (hup (hup σ4 19 1 (0 : Int32)) 0 1 ((hup σ4 19 1 (0 : Int32)) 24 0)) 24 1 = nI tz := by rw [hup_ne _ _ (by decide), hup_ne _ _ (by decide)]; exact q1
      rw [e1, e0]
      refine hrf' _ (fun y => absurd f0 y) (fun _ _ τ' w' tk tj a0 a8 a11 => lawE_of rfl ?_) (fun _ y => by omega)
      refine RI.ct hn4 hn hZ hM hL hOK hX hY hP hS (fun k i1 i2 i3 => ?_) ?_ ?_ ?_ tk tj a8
      · rw [hup_n _ _ _ i1, hup_n _ _ _ i2]; exact kk4 k i3
      · rw [hup_at, if_neg (by decide), hup_n _ _ _ (by decide)]; rw [kk4 0 (by omega)]
      · rw [hup_at, if_pos rfl, a11]
      · rw [hup_ne _ _ (by decide), hup_at, if_pos rfl]

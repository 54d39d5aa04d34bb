/-! method: class and reference agree. -/
theorem st_full {n c p : Nat} {s : Nat → Nat} (h2 : s 2 = 0) (h5 : 1 ≤ s 5) (h6 : 2 ≤ s 6) (h32 : c ≠ 32) (h10 : c ≠ 10) (h59 : c = 59 → s 5 = 2) (h9 : c = 999 → s 5 ≠ 2) : m_st n c p s 0 = 1 ∧ m_st n c p s 1 = p := by
  by_cases hb : bell c
  · rw [st_dg hb]
    unfold m_dg
    rw [if_pos h2, if_pos ⟨h6, by omega⟩]
    exact ⟨rf_0, rf_1⟩
  rw [st_sg hb h2]
  have e : m_sg n c p s = m_rf 1 p s := by
    by_cases hx : c = 120 ∨ c = 45
    · rw [sg_x hx]; unfold m_cr; rw [if_pos ⟨h6, by omega⟩]
    by_cases h : c ≠ 38 ∧ c ≠ 43 ∧ c ≠ 46 ∧ c ≠ 44 ∧ c ≠ 59 ∧ c ≠ 999
    · exact sg_o ⟨h32, h10, by omega, by omega⟩ h
    · rcases (by omega : c = 38 ∨ c = 43 ∨ c = 46 ∨ c = 44 ∨ c = 59 ∨ c = 999) with rfl | rfl | rfl | rfl | rfl | rfl
      · rw [sg_m]; unfold m_mr; rw [if_neg (by omega)]
      · rw [sg_p]; unfold m_mr; rw [if_neg (by omega)]
      · rw [sg_d]; unfold m_dt; rw [if_neg (by omega)]
      · rw [sg_c]; unfold m_cm; rw [if_neg (by omega)]
      · have := h59 rfl
        rw [sg_s]; unfold m_sc; rw [if_neg (by omega)]
      · have := h9 rfl
        rw [sg_e]; unfold m_ee; rw [if_neg (by omega)]
  rw [e]
  exact ⟨rf_0, rf_1⟩
/-- bob and single: a change alone -/
theorem t_one {τ : hSt} {w : Nat → Int64} {n z p : Nat} {bt s F : Nat → Nat} (h4 : 4 ≤ n) (hn : n ≤ 8) (hz : z ≤ 500) (h : r_t τ n z p bt) (h0 : s 0 = 0) (h2 : s 2 = 0) (h5 : s 5 ≤ 2) (h6 : s 6 = 1) (hF : m_rr n bt z p s = F) (n32 : sgn bt z p ≠ 32) (n10 : sgn bt z p ≠ 10) {Q : Int32 → hSt → Prop}
    (h1 : ∀ p' s' τ' v, kpC τ τ' → r_t τ' n z p' bt → τ' 0 13 = nI v → s' 0 = 0 → s' 2 = 0 → 2 ≤ s' 6 → eqd s' (m_ad v s) → m_rr n bt z p' s' = F → Q 1 τ')
    (hX : ∀ τ', kpC τ τ' → F 0 ≠ 0 → Q 0 (hup (hup τ' 0 11 (nI (F 0))) 0 12 (nI (F 1)))) : wp_X12_readChange τ w Q :=
  t_readChange h4 hn hz h h0 h2 h5 hF (fun _ => by omega) (fun _ => by omega) (fun _ hnx => sg_due (by omega) ⟨n32, n10, by omega, by omega⟩ (fun q => by omega)) (fun p' s' τ' v _ kC r' e13 a0 a2 a6 _ heq hF' => h1 p' s' τ' v kC r' e13 a0 a2 (by omega) heq hF') hX
theorem t_readMethod {τ : hSt} {w : Nat → Int64} {n z : Nat} {bt F : Nat → Nat} {Q : Int32 → hSt → Prop} (h4 : 4 ≤ n) (hn : n ≤ 8) (hz : z ≤ 500) (hr : r_t τ n z 0 bt) (hF : m_rr n bt z 0 (fun _ => 0) = F) (hX : flS τ F Q)
    (hD : F 0 = 0 → ∀ τ', kpQ τ τ' → τ' 0 16 = nI (F 7) → F 7 ≤ 64 → (∀ k, relv (F 7) k → τ' 6 k = nI (m_ms F k)) → Q 1 τ') : wp_X12_readMethod τ w Q := by
  unfold wp_X12_readMethod
  refine t_readLead (τ0 := τ) h4 hn hz ⟨0, fun _ => 0, rfl, Nat.zero_le _, kpQ.rf, hr, ⟨rfl, rfl⟩, hF, fun k hk => absurd hk (Nat.not_lt_zero k), Or.inl ⟨rfl, rfl, rfl, rfl, rfl⟩⟩ (fun τ' k f0 => ⟨fun y => absurd rfl y, fun _ => hX τ' k f0⟩) (fun τ1 p s k1 r1 a0 a2 a5 a6 a7 e16 hfr hF1 => ?_)
  refine ⟨fun _ => ?_, fun y => absurd y (by decide)⟩
  refine t_blanks hz r1 a0 a2 hF1 (fun p2 τ2 hp2 kC2 e132 r2 hF2 m32 m10 => ?_)
  refine t_one h4 hn hz r2 a0 a2 (by omega) a6 hF2 m32 m10 (fun p3 s3 τ3 v3 kC3 r3 e133 b0 b2 b6 heq3 hF3 => ?_) (fun τ' kC f0 => ⟨fun y => absurd rfl y, fun _ => hX τ' ((k1.tr kC2.q).tr kC.q) f0⟩)
  have k3 : kpQ τ τ3 := (k1.tr kC2.q).tr kC3.q
  have ead : m_ad v3 s = upN s 50 v3 := ad_b a5
  rw [ead] at heq3
  have b5 : s3 5 = 1 := by rw [heq3 5 (by decide) (by decide) (by decide), upN_ne (by decide)]; exact a5
  have b7 : s3 7 = s 7 := by rw [heq3 7 (by decide) (by decide) (by decide), upN_ne (by decide)]
  have b50 : s3 50 = v3 := by rw [heq3 50 (by decide) (by decide) (by decide), upN_eq]
  have bh : ∀ j, 100 ≤ j → s3 j = s j := fun j hj => by rw [heq3 j (by omega) (by omega) (by omega), upN_ne (by omega)]
  have e63 : τ3 6 = τ1 6 := by rw [kC3.1 6 (by decide), kC2.1 6 (by decide)]
  refine ⟨fun _ => ⟨vp_in_nI (n := 64) (by decide) (by decide), ?_⟩, fun y => absurd y (by decide)⟩
  rw [show ((64 : Int32)).toNatClampNeg = 64 from rfl]
  have r3' : r_t (hup τ3 6 64 (τ3 0 13)) n z p3 bt := r3.hk (Or.inl rfl)
  have k3' : kpQ τ (hup τ3 6 64 (τ3 0 13)) := k3.tr (kpQ.h (Or.inl rfl))
  refine t_blanks hz r3' b0 b2 hF3 (fun p4 τ4 hp4 kC4 e134 r4 hF4 m324 m104 => ?_)
  have hs4 := r4.sg p4
  have hpz4 := r4.2.2.2.1
  have e104 : τ4 0 10 = nI p4 := r4.2.2.1
  refine t_peek hz r4 ?_
  refine sg_is (k := 59) hs4 (by decide) (fun y59 => ?_) (fun y59 => ?_)
  rotate_left
  · unfold wp_X12_wrong
    have hf := st_full (n := n) (p := p4) b2 (by omega) b6 m324 m104 (fun e => absurd e y59) (fun _ => by omega)
    rw [rr_step b0 hpz4, rr_stop (by rw [hf.1]; decide)] at hF4
    subst hF4
    exact ⟨hbo_0, fl_wr (k := 1) hX (k3'.tr kC4.q) hf.1 (by decide) hf.2 e104⟩
  have hlt4 : p4 < z := sgn_lt y59 (by decide)
  rw [rr_step b0 hpz4, y59, st_sg (by unfold bell; omega) b2, sg_s] at hF4
  unfold m_sc at hF4
  rw [if_pos ⟨by omega, b6⟩, if_neg (by omega)] at hF4
  have c5 : m_pt s3 5 = 2 := by unfold m_pt; rw [upN_ne (by decide), upN_eq, b5]
  have c6 : m_pt s3 6 = 1 := by unfold m_pt; rw [upN_eq]
  have ch : ∀ j, j ≠ 5 → j ≠ 6 → m_pt s3 j = s3 j := fun j i1 i2 => by unfold m_pt; rw [upN_ne i2, upN_ne i1]
  have e' : (hup τ4 0 10 ((τ4 0 10) + (1 : Int32))) 0 10 = nI (p4 + 1) := by rw [hup_at, if_pos rfl, e104, nI_suc]
  have kd : kpC τ4 (hup τ4 0 10 ((τ4 0 10) + (1 : Int32))) := kpC.h (by omega)
  refine t_blanks hz (r4.mv kd e' (by omega)) (by rw [ch 0 (by decide) (by decide)]; exact b0) (by rw [ch 2 (by decide) (by decide)]; exact b2) hF4 (fun p5 τ5 hp5 kC5 e135 r5 hF5 m325 m105 => ?_)
  have k5 : kpQ τ τ5 := ((k3'.tr kC4.q).tr kd.q).tr kC5.q
  refine t_one h4 hn hz r5 (by rw [ch 0 (by decide) (by decide)]; exact b0) (by rw [ch 2 (by decide) (by decide)]; exact b2) (by omega) c6 hF5 m325 m105 (fun p6 s6 τ6 v6 kC6 r6 e136 d0 d2 d6 heq6 hF6 => ?_) (fun τ' kC f0 => ⟨fun y => absurd rfl y, fun _ => hX τ' (k5.tr kC.q) f0⟩)
  have ead6 : m_ad v6 (m_pt s3) = upN (m_pt s3) 51 v6 := ad_s c5
  rw [ead6] at heq6
  have d5 : s6 5 = 2 := by rw [heq6 5 (by decide) (by decide) (by decide), upN_ne (by decide)]; exact c5
  have d7 : s6 7 = s 7 := by rw [heq6 7 (by decide) (by decide) (by decide), upN_ne (by decide), ch 7 (by decide) (by decide)]; exact b7
  have d50 : s6 50 = v3 := by rw [heq6 50 (by decide) (by decide) (by decide), upN_ne (by decide), ch 50 (by decide) (by decide)]; exact b50
  have d51 : s6 51 = v6 := by rw [heq6 51 (by decide) (by decide) (by decide), upN_eq]
  have dh : ∀ j, 100 ≤ j → s6 j = s j := fun j hj => by rw [heq6 j (by omega) (by omega) (by omega), upN_ne (by omega), ch j (by omega) (by omega)]; exact bh j hj
  refine ⟨fun _ => ⟨vp_in_nI (n := 65) (by decide) (by decide), ?_⟩, fun y => absurd y (by decide)⟩
  rw [show ((65 : Int32)).toNatClampNeg = 65 from rfl]
  have r6' : r_t (hup τ6 6 65 (τ6 0 13)) n z p6 bt := r6.hk (Or.inl rfl)
  have k6' : kpQ τ (hup τ6 6 65 (τ6 0 13)) := (k5.tr kC6.q).tr (kpQ.h (Or.inl rfl))
  refine t_blanks hz r6' d0 d2 hF6 (fun p7 τ7 hp7 kC7 e137 r7 hF7 m327 m107 => ?_)
  have hpz7 := r7.2.2.2.1
  have e107 : τ7 0 10 = nI p7 := r7.2.2.1
  refine pk_eq p7 z (fun q => ?_) (fun q => ?_) e107 r7.2.1
  · subst q
    have e9 : sgn bt p7 p7 = 999 := by unfold sgn; rw [if_neg (Nat.lt_irrefl _)]
    rw [rr_step d0 (Nat.le_refl p7), e9, st_sg (by unfold bell; omega) d2, sg_e] at hF7
    unfold m_ee at hF7
    rw [if_pos ⟨d5, d6⟩, rr_done] at hF7
    subst hF7
    have e67 : τ7 6 = (hup τ6 6 65 (τ6 0 13)) 6 := kC7.1 6 (by decide)
    have e66 : τ6 6 = (hup τ3 6 64 (τ3 0 13)) 6 := by rw [kC6.1 6 (by decide), kC5.1 6 (by decide), kd.1 6 (by decide), kC4.1 6 (by decide)]
    refine hD d0 τ7 (k6'.tr kC7.q) ?_ (by rw [d7]; exact a7) (fun k hk => ?_)
    · rw [kC7.2 16 (by decide) (by decide), hup_ne _ _ (by decide), kC6.2 16 (by decide) (by decide), kC5.2 16 (by decide) (by decide), kd.2 16 (by decide) (by decide), kC4.2 16 (by decide) (by decide), hup_ne _ _ (by decide), kC3.2 16 (by decide) (by decide), kC2.2 16 (by decide) (by decide), d7]
      exact e16
    · rw [e67, hup_at]
      unfold m_ms
      rcases hk with hk | hk | hk
      · rw [d7] at hk
        rw [if_neg (by omega), if_neg (by omega), if_neg (by omega), e66, hup_at, if_neg (by omega), e63, dh _ (by omega)]
        exact hfr k hk
      · subst hk
        rw [if_neg (by decide), if_pos rfl, e66, hup_at, if_pos rfl, d50]; exact e133
      · subst hk
        rw [if_pos rfl, if_neg (by decide), if_pos rfl, d51]; exact e136
  · unfold wp_X12_wrong
    have hlt7 : p7 < z := by omega
    have hs7 := r7.sg p7
    have hf := st_full (n := n) (p := p7) d2 (by omega) d6 m327 m107 (fun _ => d5) (fun e => by
      have := (r7.2.2.2.2 p7 hlt7).1
      unfold sgn at e
      rw [if_pos hlt7] at e
      omega)
    rw [rr_step d0 hpz7, rr_stop (by rw [hf.1]; decide)] at hF7
    subst hF7
    exact br_t rfl (fl_wr (k := 1) hX (k6'.tr kC7.q) hf.1 (by decide) hf.2 e107)
/-- what reading a method leaves as it is -/
def kpG (τ τ' : hSt) : Prop := (∀ k, k ≠ 0 → k ≠ 1 → k ≠ 2 → k ≠ 6 → k ≠ 7 → τ' k = τ k) ∧ ∀ j, (j = 1 ∨ j = 37) → τ' 0 j = τ 0 j
theorem t_method {τ : hSt} {w : Nat → Int64} {n z m : Nat} {bt F : Nat → Nat} {Q : Int32 → hSt → Prop} (h4 : 4 ≤ n) (hn : n ≤ 8) (hz : z ≤ 500) (hm : m < 6) (h1 : τ 0 1 = nI n) (h8 : τ 0 8 = nI z) (hb : ∀ i, i < z → bt i < 256 ∧ τ 5 i = bI (bt i)) (hF : m_rr n bt z 0 (fun _ => 0) = F)
    (hX : F 0 ≠ 0 → ∀ τ', kpG τ τ' → τ' 1 = τ 1 → τ' 2 = τ 2 → τ' 0 6 = τ 0 6 → τ' 0 0 = 0 → τ' 0 8 = 0 → τ' 0 11 = nI (F 0) → Q ((-1 : Int32) - nI (F 1)) τ')
    (hD : F 0 = 0 → F 7 ≤ 64 → ∀ τ', kpG τ τ' → (∀ j, j ≠ m → τ' 1 j = τ 1 j) → τ' 1 m = nI (F 7) → (∀ j, (j < 66 * m ∨ 66 * m + 66 ≤ j) → τ' 2 j = τ 2 j) → (∀ k, relv (F 7) k → τ' 2 (66 * m + k) = nI (m_ms F k)) → τ' 0 6 = 0 → τ' 0 0 = 0 → τ' 0 8 = 0 → τ' 0 11 = 0 → Q (nI (F 7)) τ') : wp_X12_method (nI m) τ w Q := by
  unfold wp_X12_method
  refine hM_in (fun J => J 0) (fun J hJ => hM_in (fun K => True) (fun K _ => br_f (nI_pos (by omega)) (br_t (nI_lt (b := 6) hm (by decide)) hJ)) trivial) ?_
  refine t_tI0 (br_t rfl ?_)
  unfold wp_X12_open
  generalize hτ1 : (hup (hup (hup (hup (hup τ 0 0 0) 0 9 ((hup τ 0 0 0) 0 8)) 0 8 (0 : Int32)) 0 10 (0 : Int32)) 0 11 (0 : Int32)) = τ1
  have o1 : ∀ k, k ≠ 0 → τ1 k = τ k := fun k hk => by
    rw [← hτ1, hup_n _ _ _ hk, hup_n _ _ _ hk, hup_n _ _ _ hk, hup_n _ _ _ hk, hup_n _ _ _ hk]
  have o2 : ∀ j, j ≠ 0 → j ≠ 8 → j ≠ 9 → j ≠ 10 → j ≠ 11 → τ1 0 j = τ 0 j := fun j a b c d e => by
    rw [← hτ1, hup_at, if_neg e, hup_at, if_neg d, hup_at, if_neg b, hup_at, if_neg c, hup_at, if_neg a]
  have p0 : τ1 0 0 = 0 := by rw [← hτ1, hup_at, if_neg (by decide), hup_at, if_neg (by decide), hup_at, if_neg (by decide), hup_at, if_neg (by decide), hup_at, if_pos rfl]
  have p8 : τ1 0 8 = 0 := by rw [← hτ1, hup_at, if_neg (by decide), hup_at, if_neg (by decide), hup_at, if_pos rfl]
  have p9 : τ1 0 9 = nI z := by rw [← hτ1, hup_at, if_neg (by decide), hup_at, if_neg (by decide), hup_at, if_neg (by decide), hup_at, if_pos rfl, hup_at, if_neg (by decide)]; exact h8
  have p10 : τ1 0 10 = 0 := by rw [← hτ1, hup_at, if_neg (by decide), hup_at, if_pos rfl]
  have p11 : τ1 0 11 = 0 := by rw [← hτ1, hup_at, if_pos rfl]
  have r1 : r_t τ1 n z 0 bt := ⟨by rw [o2 1 (by decide) (by decide) (by decide) (by decide) (by decide)]; exact h1, p9, p10, Nat.zero_le _, fun i hi => by rw [o1 5 (by decide)]; exact hb i hi⟩
  have g1 : ∀ τ', kpQ τ1 τ' → kpG τ τ' := fun τ' k => ⟨fun j a _ _ d e => by rw [k.1 j a d e]; exact o1 j a, fun j hj => by rw [k.2 j (by omega) (by omega) (by omega)]; exact o2 j (by omega) (by omega) (by omega) (by omega) (by omega)⟩
  refine t_readMethod h4 hn hz r1 hF (fun τ' k f0 => ⟨fun y => absurd rfl y, fun _ => ?_⟩) (fun f0 τ2 k2 e16 h64 hfr => ⟨fun _ => ⟨vp_in_nI hm (by decide), ?_⟩, fun y => absurd y (by decide)⟩)
  · have e12 : (hup (hup τ' 0 11 (nI (F 0))) 0 12 (nI (F 1))) 0 12 = nI (F 1) := by rw [hup_at, if_pos rfl]
    have cc : ∀ j, j ≠ 11 → j ≠ 12 → (hup (hup τ' 0 11 (nI (F 0))) 0 12 (nI (F 1))) 0 j = τ' 0 j := fun j a b => by rw [hup_at, if_neg b, hup_at, if_neg a]
    have ck : ∀ k, k ≠ 0 → (hup (hup τ' 0 11 (nI (F 0))) 0 12 (nI (F 1))) k = τ' k := fun k a => by rw [hup_n _ _ _ a, hup_n _ _ _ a]
    rw [e12]
    have gg := g1 τ' k
    refine hX f0 _ ⟨fun j a b c d e => by rw [ck j a]; exact gg.1 j a b c d e, fun j hj => by rw [cc j (by omega) (by omega)]; exact gg.2 j hj⟩ ?_ ?_ ?_ ?_ ?_ ?_
    · rw [ck 1 (by decide), k.1 1 (by decide) (by decide) (by decide), o1 1 (by decide)]
    · rw [ck 2 (by decide), k.1 2 (by decide) (by decide) (by decide), o1 2 (by decide)]
    · rw [cc 6 (by decide) (by decide), k.2 6 (by decide) (by decide) (by decide), o2 6 (by decide) (by decide) (by decide) (by decide) (by decide)]
    · rw [cc 0 (by decide) (by decide), k.2 0 (by decide) (by decide) (by decide)]; exact p0
    · rw [cc 8 (by decide) (by decide), k.2 8 (by decide) (by decide) (by decide)]; exact p8
    · rw [hup_at, if_neg (by decide), hup_at, if_pos rfl]
  · rw [nI_clamp (by omega)]
    have gg := g1 τ2 k2
    refine hL2_in (fun v2 τ3 => ∃ i, i ≤ 66 ∧ v2 = nI i ∧ oth 2 (hup τ2 1 m (τ2 0 16)) τ3 ∧ (∀ j, (j < 66 * m ∨ 66 * m + i ≤ j) → τ3 2 j = τ2 2 j) ∧ (∀ k, k < i → τ3 2 (66 * m + k) = τ2 6 k)) (fun v2 _ => 66 - v2.toNatClampNeg) ?_ ⟨0, Nat.zero_le _, rfl, oth.rf, fun j _ => by rw [hup_ne _ _ (by decide)], fun k hk => absurd hk (Nat.not_lt_zero k)⟩
    rintro P _ τ3 ⟨i, hi, rfl, o3, a3, b3⟩ ih
    refine pk_le 66 i (fun q => ?_) (fun q => ?_) rfl rfl
    · have ei : i = 66 := by omega
      subst ei
      have c0 : ∀ j, j ≠ 6 → (hup τ3 0 6 (0 : Int32)) 0 j = τ2 0 j := fun j a => by rw [hup_at, if_neg a, o3 0 (by decide), hup_ne _ _ (by decide)]
      have ck : ∀ k, k ≠ 0 → k ≠ 1 → k ≠ 2 → (hup τ3 0 6 (0 : Int32)) k = τ2 k := fun k a b c => by rw [hup_n _ _ _ a, o3 k c, hup_n _ _ _ b]
      rw [c0 16 (by decide), e16]
      refine hD f0 h64 _ ⟨fun j a b c d e => by rw [ck j a b c]; exact gg.1 j a b c d e, fun j hj => by rw [c0 j (by omega)]; exact gg.2 j hj⟩ (fun j hj => ?_) ?_ (fun j hj => ?_) (fun k hk => ?_) ?_ ?_ ?_ ?_
      · rw [hup_ne _ _ (by decide), o3 1 (by decide), hup_at, if_neg hj, k2.1 1 (by decide) (by decide) (by decide), o1 1 (by decide)]
      · rw [hup_ne _ _ (by decide), o3 1 (by decide), hup_at, if_pos rfl]; exact e16
      · rw [hup_ne _ _ (by decide), a3 j hj, k2.1 2 (by decide) (by decide) (by decide), o1 2 (by decide)]
      · rw [hup_ne _ _ (by decide), b3 k (by unfold relv at hk; omega)]; exact hfr k hk
      · rw [hup_at, if_pos rfl]
      · rw [c0 0 (by decide), k2.2 0 (by decide) (by decide) (by decide)]; exact p0
      · rw [c0 8 (by decide), k2.2 8 (by decide) (by decide) (by decide)]; exact p8
      · rw [c0 11 (by decide), k2.2 11 (by decide) (by decide) (by decide)]; exact p11
    · obtain ⟨-, g2, g3⟩ := ix66 hm (k := i) q
      refine ⟨vp_in_nI q (by decide), g2, ?_⟩
      intro x hx
      rw [nI_suc] at hx
      subst hx
      rw [g3, nI_clamp (by omega)]
      have e6 : τ3 6 = τ2 6 := by rw [o3 6 (by decide), hup_n _ _ _ (by decide)]
      refine ih _ _ ⟨i + 1, by omega, rfl, o3.up, fun j hj => ?_, fun k hk => ?_⟩ (by rw [nI_clamp (by omega), nI_clamp (by omega)]; omega)
      · rw [hup_at, if_neg (by omega)]; exact a3 j (by omega)
      · rw [hup_at]
        by_cases e : k = i
        · rw [if_pos (by omega), e6, e]
        · rw [if_neg (by omega)]; exact b3 k (by omega)

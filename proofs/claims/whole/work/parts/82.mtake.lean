theorem m_x.ext {n : Nat} {σ σ' : hSt} {s t : Nat → Nat} (h : m_x n σ s) (o1 : ∀ j, 4 ≤ j → j ≤ 9 → σ' 21 j = σ 21 j) (o2 : σ' 22 = σ 22) (o3 : σ' 23 = σ 23) (e1 : ∀ j, 5 ≤ j → j ≤ 9 → t j = s j) (e2 : ∀ j, 50 ≤ j → t j = s j) : m_x n σ' t := by
  obtain ⟨x1, x2, x3, x4, x5⟩ := h
  have g5 := e1 5 (by decide) (by decide)
  have g6 := e1 6 (by decide) (by decide)
  have g7 := e1 7 (by decide) (by decide)
  refine ⟨by rw [o1 4 (by decide) (by decide)]; exact x1, fun j i1 i2 => by rw [o1 j (by omega) i2, e1 j i1 i2]; exact x2 j i1 i2, fun k i1 i2 => ?_, ?_, ?_⟩
  · rw [g7] at i1; rw [o3, e2 _ (by omega)]; exact x3 k i1 i2
  · rw [g5, g6, o2, e2 50 (by decide)]; exact x4
  · rw [g5, g6, o2, e2 51 (by decide)]; exact x5
theorem bit_of {d : Nat} (h1 : 1 ≤ d) (h8 : d ≤ 8) : (1 : Int32) <<< ((nI d - (1 : Int32)) &&& 31) = nI (2 ^ (d - 1)) := by
  rw [show (1 : Int32) = nI 1 from rfl, pk_sub h1]
  exact shl1 (by omega)
/-- the first digit -/
theorem x_dg1 {n d p : Nat} {σ : hSt} {s : Nat → Nat} (hn : n ≤ 8) (hp : p ≤ 600) (hd1 : 1 ≤ d) (hd : d ≤ 8) (h0 : s 0 = 0) (h2 : s 2 = 0) (hz : m_z σ s) (ho : m_ok n p s) (hx : m_x n σ s) {Q : hSt → Prop} (hQ : ∀ σ', kpM σ σ' → m_I n (p + 1) σ' (m_dg n d p s) → Q σ') : wp_X3_takeDigit (nI d) 1 (nI p) (hup σ 21 2 (nI p)) Q := by
  have ho' := ho
  obtain ⟨⟨a1, a2, a3, a4, a5, a6⟩, -⟩ := ho'
  have hx' := hx
  obtain ⟨x1, x2, x3, x4, x5⟩ := hx'
  have c4 : (hup σ 21 2 (nI p)) 21 4 = nI n := by rw [hup_at, if_neg (by decide)]; exact x1
  have c5 : (hup σ 21 2 (nI p)) 21 5 = nI (s 5) := by rw [hup_at, if_neg (by decide)]; exact x2 5 (by decide) (by decide)
  have c6 : (hup σ 21 2 (nI p)) 21 6 = nI (s 6) := by rw [hup_at, if_neg (by decide)]; exact x2 6 (by decide) (by decide)
  have bad : (2 ≤ s 6 ∧ ¬ (s 5 = 0 ∧ s 6 = 2)) → Q (hup (hup (hup σ 21 2 (nI p)) 21 0 1) 21 1 (nI p)) := fun hc => by
    have e : m_dg n d p s = m_rf 1 p (upN s 2 (p + 1)) := by unfold m_dg; rw [if_pos h2, if_pos hc]
    rw [e] at hQ
    exact hQ _ (((kpM.h (Or.inl rfl)).tr (kpM.h (Or.inl rfl))).tr (kpM.h (Or.inl rfl))) (m_I_rf (k := 1) (by decide) (by decide))
  have fin : ¬ (2 ≤ s 6 ∧ ¬ (s 5 = 0 ∧ s 6 = 2)) → ∀ v, v = (if d ≤ n then 0 else 1) → Q (hup (hup (hup (hup (hup (hup σ 21 2 (nI p)) 21 10 (nI v)) 21 11 (nI d)) 21 13 0) 21 12 (nI d)) 21 13 (((hup (hup (hup (hup (hup σ 21 2 (nI p)) 21 10 (nI v)) 21 11 (nI d)) 21 13 0) 21 12 (nI d)) 21 13) ||| ((1 : Int32) <<< ((nI d - (1 : Int32)) &&& 31)))) := fun hc v hv => by
    have hr : m_dg n d p s 0 = 0 := by
      unfold m_dg
      rw [if_pos h2, if_neg hc, upN_ne (by decide), upN_ne (by decide), upN_ne (by decide), upN_ne (by decide), upN_ne (by decide)]; exact h0
    obtain ⟨k1, k2⟩ := pd_dig hn hd1 hd ho (pd_none h2) h0 hr
    have e : m_dg n d p s = upN (upN (upN (upN (upN s 2 (p + 1)) 10 v) 11 d) 12 d) 13 (2 ^ (d - 1)) := by unfold m_dg; rw [if_pos h2, if_neg hc, hv]
    have e13 : (hup (hup (hup (hup (hup σ 21 2 (nI p)) 21 10 (nI v)) 21 11 (nI d)) 21 13 0) 21 12 (nI d)) 21 13 = 0 := by rw [hup_at, if_neg (by decide), hup_at, if_pos rfl]
    rw [e13, bit_of hd1 hd, show (0 : Int32) = nI 0 from rfl, fa_or, Nat.zero_or]
    rw [e] at hQ k1 k2
    have kp : ∀ k, k ≠ 21 → (hup (hup (hup (hup (hup (hup σ 21 2 (nI p)) 21 10 (nI v)) 21 11 (nI d)) 21 13 (nI 0)) 21 12 (nI d)) 21 13 (nI (2 ^ (d - 1)))) k = σ k := fun k hk => by rw [hup_n _ _ _ hk, hup_n _ _ _ hk, hup_n _ _ _ hk, hup_n _ _ _ hk, hup_n _ _ _ hk, hup_n _ _ _ hk]
    have gl : ∀ j, j ≠ 2 → j ≠ 10 → j ≠ 11 → j ≠ 12 → j ≠ 13 → (hup (hup (hup (hup (hup (hup σ 21 2 (nI p)) 21 10 (nI v)) 21 11 (nI d)) 21 13 (nI 0)) 21 12 (nI d)) 21 13 (nI (2 ^ (d - 1)))) 21 j = σ 21 j := fun j i1 i2 i3 i4 i5 => by
      rw [hup_at, if_neg i5, hup_at, if_neg i4, hup_at, if_neg i5, hup_at, if_neg i3, hup_at, if_neg i2, hup_at, if_neg i1]
    have gs : ∀ j, j ≠ 2 → j ≠ 10 → j ≠ 11 → j ≠ 12 → j ≠ 13 → upN (upN (upN (upN (upN s 2 (p + 1)) 10 v) 11 d) 12 d) 13 (2 ^ (d - 1)) j = s j := fun j i1 i2 i3 i4 i5 => by
      rw [upN_ne i5, upN_ne i4, upN_ne i3, upN_ne i2, upN_ne i1]
    refine hQ _ (fun k i1 _ _ => kp k i1) ⟨⟨?_, ?_, ?_⟩, fun _ => ⟨k1, ?_, k2, ?_, fun _ j i1 i2 => ?_⟩⟩
    · rw [gl 0 (by decide) (by decide) (by decide) (by decide) (by decide), gs 0 (by decide) (by decide) (by decide) (by decide) (by decide)]; exact hz.1
    · rw [gl 1 (by decide) (by decide) (by decide) (by decide) (by decide), gs 1 (by decide) (by decide) (by decide) (by decide) (by decide)]; exact hz.2.1
    · rw [gs 0 (by decide) (by decide) (by decide) (by decide) (by decide)]; exact hz.2.2
    · exact hx.ext (fun j i1 i2 => gl j (by omega) (by omega) (by omega) (by omega) (by omega)) (kp 22 (by decide)) (kp 23 (by decide)) (fun j i1 i2 => gs j (by omega) (by omega) (by omega) (by omega) (by omega)) (fun j i1 => gs j (by omega) (by omega) (by omega) (by omega) (by omega))
    · rw [show upN (upN (upN (upN (upN s 2 (p + 1)) 10 v) 11 d) 12 d) 13 (2 ^ (d - 1)) 2 = p + 1 by rw [upN_ne (by decide), upN_ne (by decide), upN_ne (by decide), upN_ne (by decide), upN_eq], if_neg (by omega), show p + 1 - 1 = p by omega]
      rw [hup_at, if_neg (by decide), hup_at, if_neg (by decide), hup_at, if_neg (by decide), hup_at, if_neg (by decide), hup_at, if_neg (by decide), hup_at, if_pos rfl]
    · rcases (by omega : j = 10 ∨ j = 11 ∨ j = 12 ∨ j = 13) with rfl | rfl | rfl | rfl
      · rw [upN_ne (by decide), upN_ne (by decide), upN_ne (by decide), upN_eq, hup_at, if_neg (by decide), hup_at, if_neg (by decide), hup_at, if_neg (by decide), hup_at, if_neg (by decide), hup_at, if_pos rfl]
      · rw [upN_ne (by decide), upN_ne (by decide), upN_eq, hup_at, if_neg (by decide), hup_at, if_neg (by decide), hup_at, if_neg (by decide), hup_at, if_pos rfl]
      · rw [upN_ne (by decide), upN_eq, hup_at, if_neg (by decide), hup_at, if_pos rfl]
      · rw [upN_eq, hup_at, if_pos rfl]
  unfold wp_X3_takeDigit wp_X10_refuse_r21
  dsimp only [hM_]
  have ce : ∀ (z6 : Int32), (z6 = 0 → ¬ (s 5 = 0 ∧ s 6 = 2)) → (¬ z6 = 0 → s 5 = 0 ∧ s 6 = 2) → wp_X3_changeEnded (hup σ 21 2 (nI p)) (fun r8 => ((r8 = 0 → ((nI d ≤ (hup σ 21 2 (nI p)) 21 4 → (hbo 0 ∧ Q (hup (hup (hup (hup (hup (hup σ 21 2 (nI p)) 21 10 0) 21 11 (nI d)) 21 13 0) 21 12 (nI d)) 21 13 (((hup (hup (hup (hup (hup σ 21 2 (nI p)) 21 10 0) 21 11 (nI d)) 21 13 0) 21 12 (nI d)) 21 13) ||| ((1 : Int32) <<< ((nI d - (1 : Int32)) &&& 31)))))) ∧ (¬ nI d ≤ (hup σ 21 2 (nI p)) 21 4 → (hbo 1 ∧ Q (hup (hup (hup (hup (hup (hup σ 21 2 (nI p)) 21 10 1) 21 11 (nI d)) 21 13 0) 21 12 (nI d)) 21 13 (((hup (hup (hup (hup (hup σ 21 2 (nI p)) 21 10 1) 21 11 (nI d)) 21 13 0) 21 12 (nI d)) 21 13) ||| ((1 : Int32) <<< ((nI d - (1 : Int32)) &&& 31)))))))) ∧ (¬ r8 = 0 → ((¬ z6 = 0 → ((nI d ≤ (hup σ 21 2 (nI p)) 21 4 → (hbo 0 ∧ Q (hup (hup (hup (hup (hup (hup σ 21 2 (nI p)) 21 10 0) 21 11 (nI d)) 21 13 0) 21 12 (nI d)) 21 13 (((hup (hup (hup (hup (hup σ 21 2 (nI p)) 21 10 0) 21 11 (nI d)) 21 13 0) 21 12 (nI d)) 21 13) ||| ((1 : Int32) <<< ((nI d - (1 : Int32)) &&& 31)))))) ∧ (¬ nI d ≤ (hup σ 21 2 (nI p)) 21 4 → (hbo 1 ∧ Q (hup (hup (hup (hup (hup (hup σ 21 2 (nI p)) 21 10 1) 21 11 (nI d)) 21 13 0) 21 12 (nI d)) 21 13 (((hup (hup (hup (hup (hup σ 21 2 (nI p)) 21 10 1) 21 11 (nI d)) 21 13 0) 21 12 (nI d)) 21 13) ||| ((1 : Int32) <<< ((nI d - (1 : Int32)) &&& 31)))))))) ∧ (z6 = 0 → Q (hup (hup (hup σ 21 2 (nI p)) 21 0 1) 21 1 (nI p))))))) := fun z6 hz1 hz2 => by
    refine x_ce c6 a2 (fun q6 => br_f (by decide) ⟨fun y => ?_, fun y => bad ⟨q6, hz1 y⟩⟩) (fun q6 => br_t rfl ?_)
    · exact pk_le d n (fun q => ⟨hbo_0, fin (fun hc => hc.2 (hz2 y)) 0 (by rw [if_pos q])⟩) (fun q => ⟨hbo_1, fin (fun hc => hc.2 (hz2 y)) 1 (by rw [if_neg (by omega)])⟩) rfl c4
    · exact pk_le d n (fun q => ⟨hbo_0, fin (fun hc => by omega) 0 (by rw [if_pos q])⟩) (fun q => ⟨hbo_1, fin (fun hc => by omega) 1 (by rw [if_neg (by omega)])⟩) rfl c4
  refine ⟨fun q => absurd q (by decide), fun _ => ?_⟩
  refine pk_en (s 5) 0 (fun q => ?_) (fun q => ?_) c5 rfl
  · exact ce 0 (fun _ hc => q hc.1) (fun y => absurd rfl y)
  · refine pk_en (s 6) 2 (fun q2 => ?_) (fun q2 => ?_) c6 rfl
    · exact ce 0 (fun _ hc => q2 hc.2) (fun y => absurd rfl y)
    · exact ce 1 (fun y => absurd y (by decide)) (fun _ => ⟨q, q2⟩)
/-- a further digit -/
theorem x_dg2 {n d p : Nat} {σ : hSt} {s : Nat → Nat} (hn : n ≤ 8) (hp : p ≤ 600) (hd1 : 1 ≤ d) (hd : d ≤ 8) (h0 : s 0 = 0) (h2 : s 2 ≠ 0) (hz : m_z σ s) (ho : m_ok n p s) (hx : m_x n σ s) (hpd : m_pd n p s) (hdd : m_d σ s) {Q : hSt → Prop} (hQ : ∀ σ', kpM σ σ' → m_I n (p + 1) σ' (m_dg n d p s) → Q σ') : wp_X3_takeDigit (nI d) 0 (nI p) (hup σ 21 2 (σ 21 2)) Q := by
  have hx' := hx
  obtain ⟨x1, x2, x3, x4, x5⟩ := hx'
  obtain ⟨b1, b2, b3, b4, b5, b6, b7, b8, b9⟩ := hpd h2
  obtain ⟨d1, d2⟩ := hdd
  have d2 := d2 h2
  rw [if_neg h2] at d1
  have es : hup σ 21 2 (σ 21 2) = σ := by
    funext k
    by_cases hk : k = 21
    · subst hk; rw [hup_s]; funext j; unfold upd; split
      · rename_i e; rw [e]
      · rfl
    · exact hup_n _ _ _ hk
  rw [es]
  have hr : m_dg n d p s 0 = 0 := by
    unfold m_dg
    rw [if_neg h2, upN_ne (by decide), upN_ne (by decide)]
    split
    · exact h0
    · rw [upN_ne (by decide)]; exact h0
  obtain ⟨k1, k2⟩ := pd_dig hn hd1 hd ho hpd h0 hr
  have e : m_dg n d p s = upN (upN (if s 12 < d ∧ d ≤ n ∧ (d - s 12) % 2 = 1 then s else upN s 10 1) 12 d) 13 (s 13 ||| 2 ^ (d - 1)) := by unfold m_dg; rw [if_neg h2]
  have fin : ∀ σ1, (∀ k, k ≠ 21 → σ1 k = σ k) → (∀ j, j ≠ 10 → σ1 21 j = σ 21 j) → σ1 21 10 = nI ((if s 12 < d ∧ d ≤ n ∧ (d - s 12) % 2 = 1 then s else upN s 10 1) 10) → Q (hup (hup σ1 21 12 (nI d)) 21 13 (((hup σ1 21 12 (nI d)) 21 13) ||| ((1 : Int32) <<< ((nI d - (1 : Int32)) &&& 31)))) := fun σ1 o1 o2 e10 => by
    rw [hup_at σ1 21 12 13, if_neg (by decide), o2 13 (by decide), d2 13 (by decide) (by decide), bit_of hd1 hd, fa_or]
    rw [e] at hQ k1 k2 hr
    generalize hS : (if s 12 < d ∧ d ≤ n ∧ (d - s 12) % 2 = 1 then s else upN s 10 1) = s1 at e10 hQ k1 k2 hr
    have es1 : ∀ j, j ≠ 10 → s1 j = s j := fun j hj => by
      rw [← hS]; split
      · rfl
      · exact upN_ne hj
    have kp : ∀ k, k ≠ 21 → (hup (hup σ1 21 12 (nI d)) 21 13 (nI (s 13 ||| 2 ^ (d - 1)))) k = σ k := fun k hk => by rw [hup_n _ _ _ hk, hup_n _ _ _ hk]; exact o1 k hk
    have gl : ∀ j, j ≠ 10 → j ≠ 12 → j ≠ 13 → (hup (hup σ1 21 12 (nI d)) 21 13 (nI (s 13 ||| 2 ^ (d - 1)))) 21 j = σ 21 j := fun j i1 i2 i3 => by rw [hup_at, if_neg i3, hup_at, if_neg i2]; exact o2 j i1
    have gs : ∀ j, j ≠ 10 → j ≠ 12 → j ≠ 13 → upN (upN s1 12 d) 13 (s 13 ||| 2 ^ (d - 1)) j = s j := fun j i1 i2 i3 => by rw [upN_ne i3, upN_ne i2, es1 j i1]
    refine hQ _ (fun k i1 _ _ => kp k i1) ⟨⟨?_, ?_, ?_⟩, fun _ => ⟨k1, ?_, k2, ?_, fun _ j i1 i2 => ?_⟩⟩
    · rw [gl 0 (by decide) (by decide) (by decide), gs 0 (by decide) (by decide) (by decide)]; exact hz.1
    · rw [gl 1 (by decide) (by decide) (by decide), gs 1 (by decide) (by decide) (by decide)]; exact hz.2.1
    · rw [gs 0 (by decide) (by decide) (by decide)]; exact hz.2.2
    · exact hx.ext (fun j i1 i2 => gl j (by omega) (by omega) (by omega)) (kp 22 (by decide)) (kp 23 (by decide)) (fun j i1 i2 => gs j (by omega) (by omega) (by omega)) (fun j i1 => gs j (by omega) (by omega) (by omega))
    · rw [gs 2 (by decide) (by decide) (by decide), if_neg h2, gl 2 (by decide) (by decide) (by decide)]; exact d1
    · refine hu_up rfl (hu_up rfl ?_)
      by_cases q : j = 10
      · subst q; exact e10
      · rw [o2 j q, es1 j q]; exact d2 j i1 i2
  have wrong : ¬ (s 12 < d ∧ d ≤ n ∧ (d - s 12) % 2 = 1) → Q (hup (hup (hup σ 21 10 1) 21 12 (nI d)) 21 13 (((hup (hup σ 21 10 1) 21 12 (nI d)) 21 13) ||| ((1 : Int32) <<< ((nI d - (1 : Int32)) &&& 31)))) := fun hc =>
    fin _ (fun k hk => hup_n _ _ _ hk) (fun j hj => by rw [hup_at, if_neg hj]) (by rw [if_neg hc, upN_eq, hup_at, if_pos rfl]; rfl)
  have fine : (s 12 < d ∧ d ≤ n ∧ (d - s 12) % 2 = 1) → Q (hup (hup σ 21 12 (nI d)) 21 13 (((hup σ 21 12 (nI d)) 21 13) ||| ((1 : Int32) <<< ((nI d - (1 : Int32)) &&& 31)))) := fun hc =>
    fin _ (fun k hk => rfl) (fun j hj => rfl) (by rw [if_pos hc]; exact d2 10 (by decide) (by decide))
  unfold wp_X3_takeDigit
  dsimp only [hM_]
  refine ⟨fun _ => ?_, fun q => absurd rfl q⟩
  refine pk_le d (s 12) (fun q => wrong (fun hc => by omega)) (fun q => ?_) rfl (d2 12 (by decide) (by decide))
  refine pk_lt n d (fun q2 => wrong (fun hc => by omega)) (fun q2 => ?_) x1 rfl
  rw [d2 12 (by decide) (by decide), pk_sub (by omega), show (2 : Int32) = nI 2 from rfl, pk_rem (by omega) (by decide) (by decide)]
  exact pk_en ((d - s 12) % 2) 0 (fun q3 => fine ⟨q, q2, by omega⟩) (fun q3 => wrong (fun hc => by omega)) rfl rfl
/-- digits end -/
theorem x_en {n p : Nat} {σ : hSt} {s : Nat → Nat} (h4 : 4 ≤ n) (hn : n ≤ 8) (hp : p ≤ 600) (h0 : s 0 = 0) (h2 : s 2 ≠ 0) (hz : m_z σ s) (ho : m_ok n p s) (hx : m_x n σ s) (hpd : m_pd n p s) (hdd : m_d σ s) {Q : hSt → Prop} (hQ : ∀ σ', kpM σ σ' → m_I n p (hup σ' 21 2 (-1)) (m_nd n s) → Q σ') : wp_X3_takeDigitsEnd (σ 21 2) σ Q := by
  have hx' := hx
  obtain ⟨x1, x2, x3, x4, x5⟩ := hx'
  have hpd' := hpd
  obtain ⟨b1, b2, b3, b4, b5, b6, b7, b8, b9⟩ := hpd' h2
  obtain ⟨d1, d2⟩ := hdd
  have d2 := d2 h2
  rw [if_neg h2] at d1
  unfold wp_X3_takeDigitsEnd
  refine pk_eq (s 10) 0 (fun q => ?_) (fun q => ?_) (d2 10 (by decide) (by decide)) rfl
  · have e : m_nd n s = upN (upN (m_ad (m_mu n s) s) 6 3) 2 0 := by unfold m_nd m_en; rw [if_pos q]
    obtain ⟨v1, v2, v3⟩ := mu_v hn h2 hpd q
    refine hM_in (fun J => ∀ σ2, (∀ k, k ≠ 21 → σ2 k = σ k) → (∀ j, j ≠ 13 → σ2 21 j = σ 21 j) → σ2 21 13 = nI (m_mk s) → J σ2) (fun J hJ => ?_) ?_
    · rw [d2 11 (by decide) (by decide), show (2 : Int32) = nI 2 from rfl, pk_rem (by omega) (by decide) (by decide)]
      refine pk_en (s 11 % 2) 0 (fun q3 => ?_) (fun q3 => ?_) rfl rfl
      · exact hJ σ (fun k hk => rfl) (fun j hj => rfl) (by unfold m_mk; rw [if_neg q3]; exact d2 13 (by decide) (by decide))
      · refine hJ _ (fun k hk => hup_n _ _ _ hk) (fun j hj => by rw [hup_at, if_neg hj]) ?_
        rw [hup_at, if_pos rfl, d2 13 (by decide) (by decide), show (1 : Int32) = nI 1 from rfl, fa_or]
        unfold m_mk; rw [if_pos q3]
    · intro σ2 o1 o2 e13
      try dsimp only
      rw [e13, o2 4 (by decide), x1]
      refine s_changeMaking hn (by omega) (by omega) v1.1 v2 ?_
      have hx2 : m_x n σ2 s := hx.ext (fun j i1 i2 => o2 j (by omega)) (o1 22 (by decide)) (o1 23 (by decide)) (fun _ _ _ => rfl) (fun _ _ => rfl)
      refine x_add (st := 3) hp ho hx2 (by decide) (fun σ' k1 k2 k3 => ?_)
      refine hQ σ' (fun k i1 i2 i3 => by rw [k1 k i1 i2 i3]; exact o1 k i1) ?_
      have h5 : s 5 ≤ 2 := ho.1.1
      have g0 : m_nd n s 0 = 0 := by rw [e, upN_ne (by decide), upN_ne (by decide), ad_lo h5 (by decide) (by decide)]; exact h0
      have g1 : m_nd n s 1 = s 1 := by rw [e, upN_ne (by decide), upN_ne (by decide), ad_lo h5 (by decide) (by decide)]
      refine ⟨⟨?_, ?_, by rw [g0]; decide⟩, fun _ => ⟨?_, ?_, pd_none (by rw [e, upN_eq]), ?_, fun z => ?_⟩⟩
      · rw [hup_at, if_neg (by decide), k2 0 (by decide) (by decide), o2 0 (by decide), g0]; have hz0 := hz.1; rw [h0] at hz0; exact hz0
      · rw [hup_at, if_neg (by decide), k2 1 (by decide) (by decide), o2 1 (by decide), g1]; exact hz.2.1
      · rw [e]
        exact (ok_add ho v1 (Or.inr rfl) (Nat.le_refl p) b2).ext (fun j i1 i2 => upN_ne (by omega)) (fun j i1 => upN_ne (by omega))
      · rw [e]
        exact k3.ext (fun j i1 i2 => by rw [hup_at, if_neg (by omega)]) (hup_n _ _ _ (by decide)) (hup_n _ _ _ (by decide)) (fun j i1 i2 => upN_ne (by omega)) (fun j i1 => upN_ne (by omega))
      · rw [e, upN_eq, if_pos rfl, hup_at, if_pos rfl]
      · rw [e, upN_eq] at z; exact absurd rfl z
  · have e : m_nd n s = upN (m_rf 2 (s 2 - 1) s) 2 0 := by unfold m_nd m_en; rw [if_neg q]
    unfold wp_X10_refuse_r21
    rw [d1]
    refine hQ _ ((kpM.h (Or.inl rfl)).tr (kpM.h (Or.inl rfl))) ?_
    rw [e]
    refine ⟨⟨?_, ?_, ?_⟩, fun z => ?_⟩
    · rw [upN_ne (by decide), rf_0, hup_at, if_neg (by decide), hup_at, if_neg (by decide), hup_at, if_pos rfl]; rfl
    · rw [upN_ne (by decide), rf_1, hup_at, if_neg (by decide), hup_at, if_pos rfl]
    · rw [upN_ne (by decide), rf_0]; decide
    · rw [upN_ne (by decide), rf_0] at z; exact absurd z (by decide)

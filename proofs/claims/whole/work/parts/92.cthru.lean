theorem sg_lt {c k : Nat} (hc : c < 256 ∨ c = 999) (hk : k < 256) {A B : Prop} (f : (c = 999 ∨ c < k) → A) (g : c ≠ 999 → k ≤ c → B) {y : Int32} (hy : y = nI k := by rfl) : (sgI c < y → A) ∧ (¬ sgI c < y → B) := by
  subst hy
  by_cases h9 : c = 999
  · subst h9
    refine br_t ?_ (f (Or.inl rfl))
    show (-1 : Int32) < nI k
    rw [Int32.lt_iff_toInt_lt, nI_toInt (by omega), show (-1 : Int32).toInt = -1 by decide]
    omega
  have ec : sgI c = nI c := by unfold sgI; rw [if_neg h9]
  rw [ec]
  exact pk_lt c k (fun q => f (Or.inr q)) (fun q => g h9 q) rfl rfl
theorem sg_gt {c k : Nat} (hc : c < 256 ∨ c = 999) (hk : k < 256) {A B : Prop} (f : c ≠ 999 → k < c → A) (g : (c = 999 ∨ c ≤ k) → B) {y : Int32} (hy : y = nI k := by rfl) : (y < sgI c → A) ∧ (¬ y < sgI c → B) := by
  subst hy
  by_cases h9 : c = 999
  · subst h9
    refine br_f ?_ (g (Or.inl rfl))
    show ¬ nI k < (-1 : Int32)
    rw [Int32.lt_iff_toInt_lt, nI_toInt (by omega), show (-1 : Int32).toInt = -1 by decide]
    omega
  have ec : sgI c = nI c := by unfold sgI; rw [if_neg h9]
  rw [ec]
  exact pk_lt k c (fun q => f h9 q) (fun q => g (Or.inr q)) rfl rfl
def clN (c : Nat) : Nat := if c = 112 then 0 else if c = 98 then 1 else 2
theorem clN_le {c : Nat} : clN c ≤ 2 := by unfold clN; split; exact Nat.zero_le _; split <;> decide
theorem y_callFor {c : Nat} (hc : c < 256 ∨ c = 999) {Q : Int32 → Prop} (h1 : cll c → Q (nI (clN c))) (h0 : ¬ cll c → Q (-1)) : wp_X1_callFor (sgI c) Q := by
  unfold wp_X1_callFor
  intro x hx
  subst hx
  refine sg_is (k := 98) hc (by decide) (fun q => ?_) (fun q1 => ?_)
  · subst q; exact h1 (Or.inr (Or.inl rfl))
  refine sg_is (k := 112) hc (by decide) (fun q => ?_) (fun q2 => ?_)
  · subst q; exact h1 (Or.inl rfl)
  refine sg_is (k := 115) hc (by decide) (fun q => ?_) (fun q3 => ?_)
  · subst q; exact h1 (Or.inr (Or.inr rfl))
  exact h0 (fun y => by unfold cll at y; omega)
section CTH
variable {Ks : Nat → Nat} {c p : Nat} {σ : hSt} {s : Nat → Nat} {Q : hSt → Prop}
theorem qs_b (h : c = 32 ∨ c = 10) : q_sg Ks c p s = s := by unfold q_sg; rw [if_pos h]
theorem qs_c (h : cll c) : q_sg Ks c p s = q_un Ks c (s 7) p s := by unfold q_sg; rw [if_neg (by unfold cll at h; omega), if_pos (show c = 112 ∨ c = 98 ∨ c = 115 from h)]
theorem qs_l (h : ltt c) : q_sg Ks c p s = q_un Ks c (c - 65) p (upN s 7 (c - 65)) := by unfold q_sg; rw [if_neg (by unfold ltt at h; omega), if_neg (by unfold ltt at h; omega), if_pos (show 65 ≤ c ∧ c ≤ 70 from h)]
theorem qs_40 : q_sg Ks 40 p s = q_og p s := by unfold q_sg; rw [if_neg (by decide), if_neg (by decide), if_neg (by decide), if_pos rfl]
theorem qs_41 : q_sg Ks 41 p s = q_cg p s := by unfold q_sg; rw [if_neg (by decide), if_neg (by decide), if_neg (by decide), if_neg (by decide), if_pos rfl]
theorem qs_e : q_sg Ks 999 p s = q_ee p s := by unfold q_sg; rw [if_neg (by decide), if_neg (by decide), if_neg (by decide), if_neg (by decide), if_neg (by decide), if_pos rfl]
theorem qs_o (h1 : ¬ (c = 32 ∨ c = 10)) (h2 : ¬ cll c) (h3 : ¬ ltt c) (h4 : c ≠ 40 ∧ c ≠ 41 ∧ c ≠ 999) : q_sg Ks c p s = m_rf 1 p s := by
  unfold q_sg; rw [if_neg h1, if_neg (show ¬ (c = 112 ∨ c = 98 ∨ c = 115) from h2), if_neg (show ¬ (65 ≤ c ∧ c ≤ 70) from h3), if_neg h4.1, if_neg h4.2.1, if_neg h4.2.2]
theorem q_same (h2 : s 2 = 0) (hz : q_z σ s) (ho : q_ok Ks p s) (hx : q_x σ s) (hd : σ 24 2 = -1) : q_I Ks (p + 1) σ s :=
  ⟨hz, fun _ => ⟨ho.ext (Nat.le_succ p) (fun _ _ _ => rfl) (fun _ _ => rfl) ho.2.1, hx, fun z => absurd h2 z, by rw [nN_0 h2]; exact hd, fun z => absurd h2 z⟩⟩
theorem y_sg (hH : ∀ σ', (∀ k, k < 24 → σ' k = σ k) → hasM σ' Ks) (hpc : c ≠ 999 → p < 500) (hc : c < 256 ∨ c = 999) (h0 : s 0 = 0) (h2 : s 2 = 0) (hz : q_z σ s) (ho : q_ok Ks p s) (hx : q_x σ s) (hd : σ 24 2 = -1) (hQ : ∀ σ', kpN σ σ' → q_I Ks (p + 1) σ' (q_sg Ks c p s) → Q σ') : wp_X1_takeSign (sgI c) (nI p) σ Q := by
  have ho' := ho
  obtain ⟨⟨a1, a2, a3, a4⟩, b, -, dl, -⟩ := ho'
  have hx' := hx
  obtain ⟨x1, x2, x3⟩ := hx'
  unfold wp_X1_takeSign
  have blank : (c = 32 ∨ c = 10) → Q σ := fun hb => by
    rw [qs_b hb] at hQ
    exact hQ σ kpN.rf (q_same h2 hz ho hx hd)
  have hI : ∀ t, q_sg Ks c p s = t → ∀ σ', kpN σ σ' → q_I Ks (p + 1) σ' t → Q σ' := fun t e σ' k h => hQ σ' k (by rw [e]; exact h)
  refine sg_is (k := 32) hc (by decide) (fun z => blank (Or.inl z)) (fun z1 => ?_)
  refine sg_isn (k := 10) hc (by decide) (fun z2 => ?_) (fun z => blank (Or.inr z))
  refine y_callFor hc (fun hcl => ?_) (fun hncl => ?_)
  · refine br_f (nI_ne_m1 _ (by have := clN_le (c := c); omega)) ?_
    have hp := hpc (by unfold cll at hcl; omega)
    have ec : sgI c = nI c := by unfold sgI; rw [if_neg (by unfold cll at hcl; omega)]
    rw [ec, x1 7 (by decide) (by decide)]
    exact y_unit a1 (hH σ (fun _ _ => rfl)) hp (Or.inl hcl) h0 h2 hz ho hx hd (fun y => by unfold cll at hcl; unfold ltt at y; omega) (fun _ => rfl) (fun q _ => dl q) (hI _ (qs_c hcl))
  refine br_t rfl ?_
  refine hM_in (fun J => ¬ ltt c → J) (fun J hJ => ?_) (fun hnl => ?_)
  · refine sg_lt (k := 65) hc (by decide) (fun q => hJ (fun y => by unfold ltt at y; omega)) (fun q9 q65 => ?_)
    refine sg_gt (k := 70) hc (by decide) (fun _ q => hJ (fun y => by unfold ltt at y; omega)) (fun q70 => ?_)
    have hl : ltt c := ⟨q65, by omega⟩
    have hp := hpc q9
    have ec : sgI c = nI c := by unfold sgI; rw [if_neg q9]
    have e7 : (hup σ 24 7 (nI (c - 65))) 24 7 = nI (c - 65) := by rw [hup_at, if_pos rfl]
    rw [ec, show (65 : Int32) = nI 65 from rfl, pk_sub q65, e7]
    have g : ∀ j, j ≠ 7 → upN s 7 (c - 65) j = s j := fun j hj => upN_ne hj
    have gl : ∀ j, j ≠ 7 → (hup σ 24 7 (nI (c - 65))) 24 j = σ 24 j := fun j hj => by rw [hup_at, if_neg hj]
    -- the letter is told ahead of its item
    have hz' : q_z (hup σ 24 7 (nI (c - 65))) (upN s 7 (c - 65)) := by
      refine ⟨?_, ?_, ?_⟩
      · rw [gl 0 (by decide), g 0 (by decide)]; exact hz.1
      · rw [gl 1 (by decide), g 1 (by decide)]; exact hz.2.1
      · rw [g 0 (by decide)]; exact hz.2.2
    have hx' : q_x (hup σ 24 7 (nI (c - 65))) (upN s 7 (c - 65)) := by
      refine ⟨fun j i1 i2 => hu_up rfl (x1 j i1 i2), ?_, fun k hk => ?_⟩
      · rw [gl 10 (by decide), g 10 (by decide)]; exact x2
      · rw [g 6 (by decide)] at hk
        rw [hup_ne _ _ (by decide), hup_ne _ _ (by decide), g _ (by omega), g _ (by omega)]; exact x3 k hk
    have hI' := hI _ (qs_l hl)
    unfold wp_X1_takeUnit wp_X10_refuse_r24
    have hH' := hH (hup σ 24 7 (nI (c - 65))) (fun k hk => hup_n _ _ _ (by omega))
    refine hH' (c - 65) (by omega) _ (fun hK => ⟨fun _ => ?_, fun y => absurd y (by decide)⟩) (fun hK => ⟨fun y => absurd rfl y, fun _ => ?_⟩)
    · have e : q_un Ks c (c - 65) p (upN s 7 (c - 65)) = upN (q_it c (upN s 7 (c - 65))) 9 0 := by unfold q_un; rw [if_pos hK]
      rw [e] at hI'
      refine y_add hx' (by rw [g 6 (by decide)]; omega) (by rw [g 10 (by decide)]; have := b h2; omega) (fun σ' k1 k2 k3 => ?_)
      obtain ⟨y1, y2, y3⟩ := k3
      have gg : ∀ j, j ≠ 6 → j ≠ 7 → j ≠ 9 → j ≠ 10 → j < 1000 → upN (q_it c (upN s 7 (c - 65))) 9 0 j = s j := fun j i1 i2 i3 i4 i5 => by rw [upN_ne i3, it_lo i1 i4 i5, g j i2]
      have e2 : upN (q_it c (upN s 7 (c - 65))) 9 0 2 = 0 := by rw [gg 2 (by decide) (by decide) (by decide) (by decide) (by decide)]; exact h2
      have ll : ∀ j, j ≠ 6 → j ≠ 7 → j ≠ 9 → j ≠ 10 → (hup σ' 24 9 (0 : Int32)) 24 j = σ 24 j := fun j i1 i2 i3 i4 => by rw [hup_at, if_neg i3, k2 j i1 i4, gl j i2]
      refine hI' _ (((kpN.h (Or.inl rfl)).tr k1).tr (kpN.h (Or.inl rfl))) ⟨⟨?_, ?_, ?_⟩, fun _ => ⟨?_, ⟨fun j i1 i2 => hu_up rfl (y1 j i1 i2), ?_, fun k hku => ?_⟩, fun z => absurd e2 z, ?_, fun z => absurd e2 z⟩⟩
      · rw [ll 0 (by decide) (by decide) (by decide) (by decide), gg 0 (by decide) (by decide) (by decide) (by decide) (by decide)]; exact hz.1
      · rw [ll 1 (by decide) (by decide) (by decide) (by decide), gg 1 (by decide) (by decide) (by decide) (by decide) (by decide)]; exact hz.2.1
      · rw [gg 0 (by decide) (by decide) (by decide) (by decide) (by decide)]; exact hz.2.2
      · exact ok_letter hp h2 ho hl hK
      · rw [hup_at, if_neg (by decide), upN_ne (by decide)]; exact y2
      · rw [upN_ne (by decide)] at hku
        rw [hup_ne _ _ (by decide), hup_ne _ _ (by decide), upN_ne (by omega), upN_ne (by omega)]; exact y3 k hku
      · rw [e2, ll 2 (by decide) (by decide) (by decide) (by decide), hd]; rfl
    · have e : q_un Ks c (c - 65) p (upN s 7 (c - 65)) = m_rf 3 p (upN s 7 (c - 65)) := by unfold q_un; rw [if_neg hK]
      rw [e] at hI'
      exact y_rf (k := 3) (by decide) (by decide) (fun σ' k h => hI' σ' ((kpN.h (Or.inl rfl)).tr k) h)
  · have bad : q_sg Ks c p s = m_rf 1 p s → Q (hup (hup σ 24 0 (1 : Int32)) 24 1 (nI p)) := fun e => y_rf (k := 1) (by decide) (by decide) (hI _ e)
    unfold wp_X10_refuse_r24
    refine sg_isn (k := 40) hc (by decide) (fun q40 => ?_) (fun q => ?_)
    rotate_left
    · subst q
      exact y_gopen (hpc (by decide)) h0 h2 hz ho hx hd (hI _ qs_40)
    refine sg_isn (k := 41) hc (by decide) (fun q41 => ?_) (fun q => ?_)
    rotate_left
    · subst q
      exact y_gclose (hpc (by decide)) h0 h2 hz ho hx hd (hI _ qs_41)
    by_cases h9 : c = 999
    · subst h9
      refine br_x rfl ?_
      have bad' : ¬ (s 8 = 0 ∧ s 9 = 0 ∧ s 10 = 0) → Q (hup (hup σ 24 0 (1 : Int32)) 24 1 (nI p)) := fun hn => bad (by rw [qs_e]; unfold q_ee; rw [if_neg hn])
      refine pk_lt 0 (s 8) (fun q => bad' (fun y => by omega)) (fun q8 => ?_) rfl (x1 8 (by decide) (by decide))
      refine pk_en (s 9) 0 (fun q => bad' (fun y => by omega)) (fun q9 => ?_) (x1 9 (by decide) (by decide)) rfl
      refine nN_eq x2 (by have := b h2; omega) (fun q10 => ?_) (fun q => bad' (fun y => by omega))
      have e : q_sg Ks 999 p s = s := by rw [qs_e]; unfold q_ee; rw [if_pos ⟨by omega, q9, q10⟩]
      rw [e] at hQ
      exact hQ σ kpN.rf (q_same h2 hz ho hx hd)
    · have ec : sgI c = nI c := by unfold sgI; rw [if_neg h9]
      exact br_y (by rw [ec]; exact nI_ne_m1 c (by omega)) (bad (qs_o (by omega) hncl hnl ⟨q40, q41, h9⟩))
theorem q_dgp {d : Nat} (hd9 : d ≤ 9) (ho : q_ok Ks p s) (hpd : q_pd p s) (h0 : s 0 = 0) (hr : q_dg d p s 0 = 0) : q_ok Ks (p + 1) (q_dg d p s) ∧ q_pd (p + 1) (q_dg d p s) := by
  by_cases h2 : s 2 = 0
  · by_cases h10 : s 10 = 0
    · have e : q_dg d p s = upN (upN (upN s 2 (p + 1)) 11 1) 10 (d + 1) := by unfold q_dg; rw [if_pos h2, if_pos h10]
      rw [e]
      have g : ∀ j, j ≠ 2 → j ≠ 10 → j ≠ 11 → upN (upN (upN s 2 (p + 1)) 11 1) 10 (d + 1) j = s j := fun j i1 i2 i3 => by rw [upN_ne i2, upN_ne i3, upN_ne i1]
      have g2 : upN (upN (upN s 2 (p + 1)) 11 1) 10 (d + 1) 2 = p + 1 := by rw [upN_ne (by decide), upN_ne (by decide), upN_eq]
      have g10 : upN (upN (upN s 2 (p + 1)) 11 1) 10 (d + 1) 10 = d + 1 := upN_eq
      have g11 : upN (upN (upN s 2 (p + 1)) 11 1) 10 (d + 1) 11 = 1 := by rw [upN_ne (by decide), upN_eq]
      refine ⟨ho.ext (Nat.le_succ p) (fun j i1 i2 => g j (by omega) (by omega) (by omega)) (fun j i1 => g j (by omega) (by omega) (by omega)) (fun z => by rw [g2] at z; omega), fun _ => ?_⟩
      rw [g2, g10, g11]
      refine ⟨Nat.le_refl _, by omega, by omega, Nat.le_refl 1, by omega, fun _ => by omega⟩
    · unfold q_dg at hr
      rw [if_pos h2, if_neg h10, rf_0] at hr
      exact absurd hr (by decide)
  · obtain ⟨b1, b2, b3, b4, b5, b6⟩ := hpd h2
    have e : q_dg d p s = upN (upN s 11 (s 11 + 1)) 10 (if s 11 + 1 ≤ 2 then (s 10 - 1) * 10 + d + 1 else 101) := by unfold q_dg; rw [if_neg h2]
    rw [e]
    have g : ∀ j, j ≠ 10 → j ≠ 11 → upN (upN s 11 (s 11 + 1)) 10 (if s 11 + 1 ≤ 2 then (s 10 - 1) * 10 + d + 1 else 101) j = s j := fun j i2 i3 => by rw [upN_ne i2, upN_ne i3]
    have g10 : upN (upN s 11 (s 11 + 1)) 10 (if s 11 + 1 ≤ 2 then (s 10 - 1) * 10 + d + 1 else 101) 10 = (if s 11 + 1 ≤ 2 then (s 10 - 1) * 10 + d + 1 else 101) := upN_eq
    have g11 : upN (upN s 11 (s 11 + 1)) 10 (if s 11 + 1 ≤ 2 then (s 10 - 1) * 10 + d + 1 else 101) 11 = s 11 + 1 := by rw [upN_ne (by decide), upN_eq]
    refine ⟨ho.ext (Nat.le_succ p) (fun j i1 i2 => g j (by omega) (by omega)) (fun j i1 => g j (by omega) (by omega)) (fun z => by rw [g 2 (by decide) (by decide)] at z; exact absurd z h2), fun _ => ?_⟩
    rw [g 2 (by decide) (by decide), g10, g11]
    refine ⟨by omega, ?_, ?_, by omega, by omega, fun z => by omega⟩
    · split <;> omega
    · split
      · rename_i y
        have := b6 (by omega)
        omega
      · exact Nat.le_refl _
theorem y_dg1 {d : Nat} (hd9 : d ≤ 9) (hp : p ≤ 500) (h0 : s 0 = 0) (h2 : s 2 = 0) (hz : q_z σ s) (ho : q_ok Ks p s) (hx : q_x σ s) (hQ : ∀ σ', kpN σ σ' → q_I Ks (p + 1) σ' (q_dg d p s) → Q σ') : wp_X1_takeDigit (nI d) 1 (nI p) (hup σ 24 2 (nI p)) Q := by
  have ho' := ho
  obtain ⟨⟨a1, a2, a3, a4⟩, b, -⟩ := ho'
  have hx' := hx
  obtain ⟨x1, x2, x3⟩ := hx'
  unfold wp_X1_takeDigit wp_X10_refuse_r24
  refine ⟨fun _ => ?_, fun y => absurd y (by decide)⟩
  refine nN_eq (v := s 10) (by rw [hup_at, if_neg (by decide)]; exact x2) (by have := b h2; omega) (fun q => ?_) (fun q => ?_)
  · have hr : q_dg d p s 0 = 0 := by unfold q_dg; rw [if_pos h2, if_pos q, upN_ne (by decide), upN_ne (by decide), upN_ne (by decide)]; exact h0
    obtain ⟨k1, k2⟩ := q_dgp hd9 ho (fun z => absurd h2 z) h0 hr
    have e : q_dg d p s = upN (upN (upN s 2 (p + 1)) 11 1) 10 (d + 1) := by unfold q_dg; rw [if_pos h2, if_pos q]
    rw [e] at hQ k1 k2
    have g : ∀ j, j ≠ 2 → j ≠ 10 → j ≠ 11 → upN (upN (upN s 2 (p + 1)) 11 1) 10 (d + 1) j = s j := fun j i1 i2 i3 => by rw [upN_ne i2, upN_ne i3, upN_ne i1]
    have gl : ∀ j, j ≠ 2 → j ≠ 10 → j ≠ 11 → (hup (hup (hup σ 24 2 (nI p)) 24 11 (1 : Int32)) 24 10 (nI d)) 24 j = σ 24 j := fun j i1 i2 i3 => by rw [hup_at, if_neg i2, hup_at, if_neg i3, hup_at, if_neg i1]
    have gk : ∀ k, k ≠ 24 → (hup (hup (hup σ 24 2 (nI p)) 24 11 (1 : Int32)) 24 10 (nI d)) k = σ k := fun k hk => by rw [hup_n _ _ _ hk, hup_n _ _ _ hk, hup_n _ _ _ hk]
    refine hQ _ (fun k i1 _ _ => gk k i1) ⟨⟨?_, ?_, ?_⟩, fun _ => ⟨k1, ⟨fun j i1 i2 => ?_, ?_, fun k hk => ?_⟩, k2, ?_, fun _ => ?_⟩⟩
    · rw [gl 0 (by decide) (by decide) (by decide), g 0 (by decide) (by decide) (by decide)]; exact hz.1
    · rw [gl 1 (by decide) (by decide) (by decide), g 1 (by decide) (by decide) (by decide)]; exact hz.2.1
    · rw [g 0 (by decide) (by decide) (by decide)]; exact hz.2.2
    · rw [gl j (by omega) (by omega) (by omega), g j (by omega) (by omega) (by omega)]; exact x1 j i1 i2
    · rw [upN_eq, nN_s (by omega), hup_at, if_pos rfl]; rfl
    · rw [g 6 (by decide) (by decide) (by decide)] at hk
      rw [gk 25 (by decide), gk 26 (by decide), g _ (by omega) (by omega) (by omega), g _ (by omega) (by omega) (by omega)]; exact x3 k hk
    · rw [upN_ne (by decide), upN_ne (by decide), upN_eq, nN_s (by omega), hup_at, if_neg (by decide), hup_at, if_neg (by decide), hup_at, if_pos rfl]; rfl
    · rw [upN_ne (by decide), upN_eq, hup_at, if_neg (by decide), hup_at, if_pos rfl]; rfl
  · have e : q_dg d p s = m_rf 1 p (upN s 2 (p + 1)) := by unfold q_dg; rw [if_pos h2, if_neg q]
    rw [e] at hQ
    exact y_rf (k := 1) (by decide) (by decide) (fun σ' k h => hQ σ' ((kpN.h (Or.inl rfl)).tr k) h)
theorem y_dg2 {d : Nat} (hd9 : d ≤ 9) (hp : p ≤ 500) (h0 : s 0 = 0) (h2 : s 2 ≠ 0) (hz : q_z σ s) (ho : q_ok Ks p s) (hx : q_x σ s) (hpd : q_pd p s) (hdd : q_d σ s) (hQ : ∀ σ', kpN σ σ' → q_I Ks (p + 1) σ' (q_dg d p s) → Q σ') : wp_X1_takeDigit (nI d) 0 (nI p) (hup σ 24 2 (σ 24 2)) Q := by
  have hx' := hx
  obtain ⟨x1, x2, x3⟩ := hx'
  have hpd' := hpd
  obtain ⟨b1, b2, b3, b4, b5, b6⟩ := hpd' h2
  obtain ⟨d1, d2⟩ := hdd
  have d2 := d2 h2
  have es : hup σ 24 2 (σ 24 2) = σ := by
    funext k
    by_cases hk : k = 24
    · subst hk; rw [hup_s]; funext j; unfold upd; split
      · rename_i e; rw [e]
      · rfl
    · exact hup_n _ _ _ hk
  rw [es]
  have e : q_dg d p s = upN (upN s 11 (s 11 + 1)) 10 (if s 11 + 1 ≤ 2 then (s 10 - 1) * 10 + d + 1 else 101) := by unfold q_dg; rw [if_neg h2]
  have hr : q_dg d p s 0 = 0 := by rw [e, upN_ne (by decide), upN_ne (by decide)]; exact h0
  obtain ⟨k1, k2⟩ := q_dgp hd9 ho hpd h0 hr
  rw [e] at hQ k1 k2
  generalize hV : (if s 11 + 1 ≤ 2 then (s 10 - 1) * 10 + d + 1 else 101) = v at hQ k1 k2
  have hv1 : v ≠ 0 := by rw [← hV]; split <;> omega
  have e11 : (hup σ 24 11 ((σ 24 11) + (1 : Int32))) 24 11 = nI (s 11 + 1) := by rw [hup_at, if_pos rfl, d2, nI_suc]
  have e10 : (hup σ 24 11 ((σ 24 11) + (1 : Int32))) 24 10 = nI (s 10 - 1) := by rw [hup_at, if_neg (by decide), x2, nN_s (by omega)]
  have fin : ∀ x, x = nI (v - 1) → Q (hup (hup σ 24 11 ((σ 24 11) + (1 : Int32))) 24 10 x) := fun x hxv => by
    have g : ∀ j, j ≠ 10 → j ≠ 11 → upN (upN s 11 (s 11 + 1)) 10 v j = s j := fun j i2 i3 => by rw [upN_ne i2, upN_ne i3]
    have gl : ∀ j, j ≠ 10 → j ≠ 11 → (hup (hup σ 24 11 ((σ 24 11) + (1 : Int32))) 24 10 x) 24 j = σ 24 j := fun j i2 i3 => by rw [hup_at, if_neg i2, hup_at, if_neg i3]
    have gk : ∀ k, k ≠ 24 → (hup (hup σ 24 11 ((σ 24 11) + (1 : Int32))) 24 10 x) k = σ k := fun k hk => by rw [hup_n _ _ _ hk, hup_n _ _ _ hk]
    refine hQ _ (fun k i1 _ _ => gk k i1) ⟨⟨?_, ?_, ?_⟩, fun _ => ⟨k1, ⟨fun j i1 i2 => ?_, ?_, fun k hk => ?_⟩, k2, ?_, fun _ => ?_⟩⟩
    · rw [gl 0 (by decide) (by decide), g 0 (by decide) (by decide)]; exact hz.1
    · rw [gl 1 (by decide) (by decide), g 1 (by decide) (by decide)]; exact hz.2.1
    · rw [g 0 (by decide) (by decide)]; exact hz.2.2
    · rw [gl j (by omega) (by omega), g j (by omega) (by omega)]; exact x1 j i1 i2
    · rw [upN_eq, nN_s hv1, hup_at, if_pos rfl]; exact hxv
    · rw [g 6 (by decide) (by decide)] at hk
      rw [gk 25 (by decide), gk 26 (by decide), g _ (by omega) (by omega), g _ (by omega) (by omega)]; exact x3 k hk
    · rw [g 2 (by decide) (by decide), gl 2 (by decide) (by decide)]; exact d1
    · rw [upN_ne (by decide), upN_eq, hup_at, if_neg (by decide)]; exact e11
  unfold wp_X1_takeDigit
  refine ⟨fun y => absurd rfl y, fun _ => ?_⟩
  refine pk_le (s 11 + 1) 2 (fun q => fin _ ?_) (fun q => fin _ ?_) e11 rfl
  · rw [if_pos q] at hV
    rw [e10, show (10 : Int32) = nI 10 from rfl, pk_mul, nI_add, ← hV]
    congr 1
  · rw [if_neg (by omega)] at hV
    rw [← hV]; rfl
theorem y_en (hp : p ≤ 500) (h0 : s 0 = 0) (h2 : s 2 ≠ 0) (hz : q_z σ s) (ho : q_ok Ks p s) (hx : q_x σ s) (hpd : q_pd p s) (hdd : q_d σ s) (hQ : ∀ σ', kpN σ σ' → q_I Ks p (hup σ' 24 2 (-1)) (q_nd s) → Q σ') : wp_X1_takeDigitsEnd (σ 24 2) σ Q := by
  have hx' := hx
  obtain ⟨x1, x2, x3⟩ := hx'
  have hpd' := hpd
  obtain ⟨b1, b2, b3, b4, b5, b6⟩ := hpd' h2
  obtain ⟨d1, d2⟩ := hdd
  rw [nN_s h2] at d1
  have e10 : σ 24 10 = nI (s 10 - 1) := by rw [x2, nN_s (by omega)]
  have bad : ¬ (3 ≤ s 10 ∧ s 10 ≤ 100) → Q (hup (hup σ 24 0 (2 : Int32)) 24 1 (σ 24 2)) := fun hn => by
    have e : q_nd s = upN (m_rf 2 (s 2 - 1) s) 2 0 := by unfold q_nd; rw [if_neg hn]
    rw [d1]
    refine hQ _ ((kpN.h (Or.inl rfl)).tr (kpN.h (Or.inl rfl))) ?_
    rw [e]
    refine ⟨⟨?_, ?_, ?_⟩, fun z => ?_⟩
    · rw [upN_ne (by decide), rf_0, hup_at, if_neg (by decide), hup_at, if_neg (by decide), hup_at, if_pos rfl]; rfl
    · rw [upN_ne (by decide), rf_1, hup_at, if_neg (by decide), hup_at, if_pos rfl]
    · rw [upN_ne (by decide), rf_0]; decide
    · rw [upN_ne (by decide), rf_0] at z; exact absurd z (by decide)
  unfold wp_X1_takeDigitsEnd wp_X10_refuse_r24
  refine pk_lt (s 10 - 1) 2 (fun q => bad (fun y => by omega)) (fun q => ?_) e10 rfl
  refine pk_le (s 10 - 1) 99 (fun q9 => ?_) (fun q9 => bad (fun y => by omega)) e10 rfl
  have hg : 3 ≤ s 10 ∧ s 10 ≤ 100 := by omega
  have e : q_nd s = upN s 2 0 := by unfold q_nd; rw [if_pos hg]
  rw [e] at hQ
  have g : ∀ j, j ≠ 2 → upN s 2 0 j = s j := fun j hj => upN_ne hj
  have gl : ∀ j, j ≠ 2 → (hup σ 24 2 (-1 : Int32)) 24 j = σ 24 j := fun j hj => by rw [hup_at, if_neg hj]
  refine hQ σ kpN.rf ⟨⟨?_, ?_, ?_⟩, fun _ => ⟨ho.ext (Nat.le_refl p) (fun j i1 i2 => g j (by omega)) (fun j i1 => g j (by omega)) (fun _ => Or.inr (by rw [g 10 (by decide)]; exact hg)), hx.ext (fun j i1 i2 => gl j (by omega)) (hup_n _ _ _ (by decide)) (hup_n _ _ _ (by decide)) (fun j i1 i2 => g j (by omega)) (fun j i1 => g j (by omega)), fun z => absurd upN_eq z, ?_, fun z => absurd upN_eq z⟩⟩
  · rw [gl 0 (by decide), g 0 (by decide)]; exact hz.1
  · rw [gl 1 (by decide), g 1 (by decide)]; exact hz.2.1
  · rw [g 0 (by decide)]; exact hz.2.2
  · rw [upN_eq, hup_at, if_pos rfl]; rfl
theorem y_take (hH : ∀ σ', (∀ k, k < 24 → σ' k = σ k) → hasM σ' Ks) (hp5 : p ≤ 500) (hpc : c ≠ 999 → p < 500) (hc : c < 256 ∨ c = 999) (h0 : s 0 = 0) (hz : q_z σ s) (ho : q_ok Ks p s) (hx : q_x σ s) (hpd : q_pd p s) (hd : q_d σ s) (hQ : ∀ σ', kpN σ σ' → q_I Ks (p + 1) σ' (q_st Ks c p s) → Q σ') : wp_X10_take_r24 (sgI c) (nI p) σ Q := by
  have hd' := hd
  obtain ⟨d1, d2⟩ := hd'
  unfold wp_X10_take_r24 wp_X1_isDigit
  have dig : (48 ≤ c ∧ c ≤ 57) → wp_X1_takeDigit (sgI c - (48 : Int32)) (if s 2 = 0 then 1 else 0) (nI p) (hup σ 24 2 (if s 2 = 0 then nI p else σ 24 2)) (fun σ11 => Q σ11) := fun hdg => by
    have e : q_st Ks c p s = q_dg (c - 48) p s := by unfold q_st; rw [if_pos hdg]
    rw [e] at hQ
    have ec : sgI c = nI c := by unfold sgI; rw [if_neg (by omega)]
    rw [ec, show (48 : Int32) = nI 48 from rfl, pk_sub (by omega)]
    by_cases h2 : s 2 = 0
    · rw [if_pos h2, if_pos h2]
      exact y_dg1 (by omega) hp5 h0 h2 hz ho hx hQ
    · rw [if_neg h2, if_neg h2]
      exact y_dg2 (by omega) hp5 h0 h2 hz ho hx hpd hd hQ
  have oth_ : ¬ (48 ≤ c ∧ c ≤ 57) → (hM_ (fun (σ4 : hSt) => ((¬ (σ4 24 0) = 0 → (Q σ4)) ∧ ((σ4 24 0) = 0 → (wp_X1_takeSign (sgI c) (nI p) σ4 (fun σ6 => (Q σ6)))))) (fun J70 : hSt → Prop => (((σ 24 2) = (-1 : Int32) → (J70 σ)) ∧ (¬ (σ 24 2) = (-1 : Int32) → (wp_X1_takeDigitsEnd (σ 24 2) σ (fun σ8 => (J70 (hup σ8 24 2 (-1 : Int32))))))))) := fun hdg => by
    refine hM_in (fun J => ∀ σ4 t, kpN σ σ4 → q_I Ks p σ4 t → t 2 = 0 → (t 0 = 0 → q_st Ks c p s = q_sg Ks c p t) → (t 0 ≠ 0 → q_st Ks c p s = t) → J σ4) (fun J hJ => ?_) ?_
    · refine nN_eq d1 (by
        by_cases h2 : s 2 = 0
        · omega
        · have := (hpd h2).1; omega) (fun h2 => ?_) (fun h2 => ?_)
      · refine hJ σ s kpN.rf ⟨hz, fun _ => ⟨ho, hx, hpd, hd⟩⟩ h2 (fun _ => ?_) (fun z => absurd h0 z)
        unfold q_st; rw [if_neg hdg, if_pos h2]
      · refine y_en hp5 h0 h2 hz ho hx hpd hd (fun σ8 k8 h8 => ?_)
        refine hJ _ (q_nd s) (k8.tr (kpN.h (Or.inl rfl))) h8 (by unfold q_nd; rw [upN_eq]) (fun z => ?_) (fun z => ?_)
        · unfold q_st; rw [if_neg hdg, if_neg h2, if_pos z]
        · unfold q_st; rw [if_neg hdg, if_neg h2, if_neg z]
    · intro σ4 t k4 h8 t2 e1 e2
      try dsimp only
      obtain ⟨z1, z2, z3⟩ := h8.1
      refine pk_en (t 0) 0 (fun q => ?_) (fun q => ?_) z1 rfl
      · rw [e2 q] at hQ
        exact hQ σ4 k4 ⟨h8.1, fun z => absurd z q⟩
      · rw [e1 q] at hQ
        obtain ⟨w1, w2, w3, w4⟩ := h8.2 q
        have w5 := w4.1
        rw [nN_0 t2] at w5
        exact y_sg (fun σ' hk => hH σ' (fun k hk2 => by rw [hk k hk2]; exact k4 k (by omega) (by omega) (by omega))) hpc hc q t2 h8.1 w1 w2 w5 (fun σ' k h => hQ σ' (k4.tr k) h)
  refine sg_lt (k := 48) hc (by decide) (fun q => br_t rfl (oth_ (by omega))) (fun q9 q => ?_)
  refine sg_gt (k := 57) hc (by decide) (fun _ q2 => br_t rfl (oth_ (by omega))) (fun q2 => br_f (by decide) ?_)
  have dd := dig ⟨q, by omega⟩
  dsimp only [hM_]
  refine nN_ne d1 (by
    by_cases h2 : s 2 = 0
    · omega
    · have := (hpd h2).1; omega) (fun h2 => ?_) (fun h2 => ?_)
  · rw [if_neg h2, if_neg h2] at dd
    exact ⟨fun _ => dd, fun y => absurd rfl y⟩
  · rw [if_pos h2, if_pos h2] at dd
    exact ⟨fun y => absurd y (by decide), fun _ => dd⟩
end CTH
theorem qn_stop {Ks bt s : Nat → Nat} {z p : Nat} (h : s 0 ≠ 0) : ∀ f, q_rn Ks bt z f p s = s
  | 0 => rfl
  | f + 1 => by show (if s 0 = 0 then _ else s) = s; rw [if_neg h]
theorem qn_step {Ks bt s : Nat → Nat} {z f p : Nat} (h : s 0 = 0) : q_rn Ks bt z (f + 1) p s = q_rn Ks bt z f (p + 1) (q_st Ks (sgn bt z p) p s) := by show (if s 0 = 0 then _ else s) = _; rw [if_pos h]
/-- the whole text -/
theorem y_thru {Ks bt s0 : Nat → Nat} {z : Nat} {σ : hSt} (hH : ∀ σ', (∀ k, k < 24 → σ' k = σ k) → hasM σ' Ks) (hz5 : z ≤ 500) (ht : σ 19 1 = nI z) (hb : ∀ i, i < z → bt i < 256 ∧ σ 20 i = bI (bt i)) (e0 : s0 0 = 0) (e1 : s0 1 = 0) (e2 : s0 2 = 0) (ho : q_ok Ks 0 s0) (hx : q_x σ s0) {Q : Int32 → hSt → Prop}
    (hbad : q_rn Ks bt z (z + 1) 0 s0 0 ≠ 0 → ∀ σ', kpN σ σ' → q_z σ' (q_rn Ks bt z (z + 1) 0 s0) → Q 0 σ')
    (hok : q_rn Ks bt z (z + 1) 0 s0 0 = 0 → ∀ σ', kpN σ σ' → q_z σ' (q_rn Ks bt z (z + 1) 0 s0) → q_ok Ks (z + 1) (q_rn Ks bt z (z + 1) 0 s0) → q_x σ' (q_rn Ks bt z (z + 1) 0 s0) → Q 1 σ') : wp_X10_readThrough_r24 σ Q := by
  generalize hF : q_rn Ks bt z (z + 1) 0 s0 = F at hbad hok
  unfold wp_X10_readThrough_r24
  refine hL2_in (fun v2 σ2 => ∃ p s, p ≤ z + 1 ∧ v2 = nI p ∧ kpN σ σ2 ∧ q_rn Ks bt z (z + 1 - p) p s = F ∧ q_I Ks p σ2 s) (fun v2 _ => z + 1 - v2.toNatClampNeg) ?_ ⟨0, s0, Nat.zero_le _, rfl, ((kpN.h (Or.inl rfl)).tr (kpN.h (Or.inl rfl))).tr (kpN.h (Or.inl rfl)), hF, ⟨?_, ?_, by rw [e0]; decide⟩, fun _ => ⟨ho, ?_, fun q => absurd e2 q, ?_, fun q => absurd e2 q⟩⟩
  rotate_left
  · rw [e0, hup_at, if_neg (by decide), hup_at, if_neg (by decide), hup_at, if_pos rfl]; rfl
  · rw [e1, hup_at, if_neg (by decide), hup_at, if_pos rfl]; rfl
  · exact hx.ext (fun j i1 i2 => by rw [hup_at, if_neg (by omega), hup_at, if_neg (by omega), hup_at, if_neg (by omega)]) (by rw [hup_n _ _ _ (by decide), hup_n _ _ _ (by decide), hup_n _ _ _ (by decide)]) (by rw [hup_n _ _ _ (by decide), hup_n _ _ _ (by decide), hup_n _ _ _ (by decide)]) (fun _ _ _ => rfl) (fun _ _ => rfl)
  · rw [nN_0 e2, hup_at, if_pos rfl]
  rintro P _ σ2 ⟨p, s, hp, rfl, k2, hr, hz, hi1⟩ ih
  unfold wp_X9_size
  have t2 : σ2 19 1 = nI z := by rw [k2 19 (by decide) (by decide) (by decide)]; exact ht
  have b2 : ∀ i, i < z → bt i < 256 ∧ σ2 20 i = bI (bt i) := fun i hi => by rw [k2 20 (by decide) (by decide) (by decide)]; exact hb i hi
  have z3 := hz.2.2
  refine pk_lt z p (fun q => ?_) (fun q => ?_) t2 rfl
  · have ep : p = z + 1 := by omega
    subst ep
    rw [Nat.sub_self] at hr
    have er : s = F := hr
    subst er
    refine pk_en (s 0) 0 (fun y => hbad y σ2 k2 hz) (fun y => ?_) hz.1 rfl
    obtain ⟨w1, w2, w3, w4⟩ := hi1 y
    exact hok y σ2 k2 hz w1 w2
  · refine pk_en (s 0) 0 (fun y => ?_) (fun y => ?_) hz.1 rfl
    · rw [qn_stop y] at hr
      subst hr
      exact pk_en (s 0) 0 (fun _ => hbad y σ2 k2 hz) (fun y2 => absurd y2 y) hz.1 rfl
    · obtain ⟨w1, w2, w3, w4⟩ := hi1 y
      refine s_signAtE hz5 t2 b2 q ?_
      have hc := sgn_ok (z := z) (bt := bt) (fun i hi => (hb i hi).1) p
      rw [show z + 1 - p = (z - p) + 1 by omega, qn_step y] at hr
      refine y_take (fun σ' hk => hH σ' (fun k hk2 => by rw [hk k hk2]; exact k2 k (by omega) (by omega) (by omega))) (by omega) (fun h9 => ?_) hc y hz w1 w2 w3 w4 (fun σ' k' hP => ?_)
      · have : p < z := by
          rcases Nat.lt_or_ge p z with y2 | y2
          · exact y2
          · exact absurd (by unfold sgn; rw [if_neg (by omega)]) h9
        omega
      intro x hx
      rw [nI_suc] at hx
      subst hx
      exact ih _ _ ⟨p + 1, _, by omega, rfl, k2.tr k', by rw [show z + 1 - (p + 1) = z - p by omega]; exact hr, hP⟩ (by rw [nI_clamp (by omega), nI_clamp (by omega)]; omega)

/-! The class reads a composition's text. -/
def nN (v : Nat) : Int32 := if v = 0 then -1 else nI (v - 1)
theorem nN_0 {v : Nat} (h : v = 0) : nN v = -1 := by unfold nN; rw [if_pos h]
theorem nN_s {v : Nat} (h : v ≠ 0) : nN v = nI (v - 1) := by unfold nN; rw [if_neg h]
/-- is there a number? -/
theorem nN_eq {v : Nat} {x : Int32} {A B : Prop} (hx : x = nN v) (hv : v < 2 ^ 31) (f : v = 0 → A) (g : v ≠ 0 → B) : (x = -1 → A) ∧ (¬ x = -1 → B) := by
  subst hx
  by_cases h : v = 0
  · rw [nN_0 h]; exact br_t rfl (f h)
  · rw [nN_s h]; exact br_f (nI_ne_m1 _ (by omega)) (g h)
theorem nN_ne {v : Nat} {x : Int32} {A B : Prop} (hx : x = nN v) (hv : v < 2 ^ 31) (g : v ≠ 0 → B) (f : v = 0 → A) : (¬ x = -1 → B) ∧ (x = -1 → A) := ⟨(nN_eq hx hv f g).2, (nN_eq hx hv f g).1⟩
def q_x (σ : hSt) (s : Nat → Nat) : Prop := (∀ j, 6 ≤ j → j ≤ 9 → σ 24 j = nI (s j)) ∧ σ 24 10 = nN (s 10) ∧ ∀ k, k < s 6 → σ 25 k = nI (s (1000 + k)) ∧ σ 26 k = nI (s (2000 + k))
def q_d (σ : hSt) (s : Nat → Nat) : Prop := σ 24 2 = nN (s 2) ∧ (s 2 ≠ 0 → σ 24 11 = nI (s 11))
def q_z (σ : hSt) (s : Nat → Nat) : Prop := σ 24 0 = nI (s 0) ∧ σ 24 1 = nI (s 1) ∧ s 0 ≤ 5
def q_I (Ks : Nat → Nat) (p : Nat) (σ : hSt) (s : Nat → Nat) : Prop := q_z σ s ∧ (s 0 = 0 → q_ok Ks p s ∧ q_x σ s ∧ q_pd p s ∧ q_d σ s)
def kpN (σ σ' : hSt) : Prop := ∀ k, k ≠ 24 → k ≠ 25 → k ≠ 26 → σ' k = σ k
theorem kpN.rf {σ : hSt} : kpN σ σ := fun _ _ _ _ => rfl
theorem kpN.tr {a b c : hSt} (h : kpN a b) (h2 : kpN b c) : kpN a c := fun k p q r => by rw [h2 k p q r, h k p q r]
theorem kpN.h {a : hSt} {k j : Nat} {v : Int32} (hk : k = 24 ∨ k = 25 ∨ k = 26) : kpN a (hup a k j v) := fun i p q r => hup_n _ _ _ (by omega)
theorem q_x.ext {σ σ' : hSt} {s t : Nat → Nat} (h : q_x σ s) (o1 : ∀ j, 6 ≤ j → j ≤ 10 → σ' 24 j = σ 24 j) (o2 : σ' 25 = σ 25) (o3 : σ' 26 = σ 26) (e1 : ∀ j, 6 ≤ j → j ≤ 10 → t j = s j) (e2 : ∀ j, 1000 ≤ j → t j = s j) : q_x σ' t := by
  obtain ⟨x1, x2, x3⟩ := h
  refine ⟨fun j i1 i2 => by rw [o1 j i1 (by omega), e1 j i1 (by omega)]; exact x1 j i1 i2, by rw [o1 10 (by decide) (by decide), e1 10 (by decide) (by decide)]; exact x2, fun k hk => ?_⟩
  rw [e1 6 (by decide) (by decide)] at hk
  rw [o2, o3, e2 _ (by omega), e2 _ (by omega)]; exact x3 k hk
section CRD
variable {Ks : Nat → Nat} {c p : Nat} {σ : hSt} {s : Nat → Nat} {Q : hSt → Prop}
theorem q_I_rf {q k : Nat} (hk : k ≠ 0) (hk5 : k ≤ 5) : q_I Ks q (hup (hup σ 24 0 (nI k)) 24 1 (nI p)) (m_rf k p s) := ⟨⟨by rw [rf_0, hup_at, if_neg (by decide), hup_at, if_pos rfl], by rw [rf_1, hup_at, if_pos rfl], by rw [rf_0]; exact hk5⟩, fun z => by rw [rf_0] at z; exact absurd z hk⟩
theorem y_rf {q k : Nat} (hk : k ≠ 0) (hk5 : k ≤ 5) (hQ : ∀ σ', kpN σ σ' → q_I Ks q σ' (m_rf k p s) → Q σ') : Q (hup (hup σ 24 0 (nI k)) 24 1 (nI p)) :=
  hQ _ ((kpN.h (Or.inl rfl)).tr (kpN.h (Or.inl rfl))) (q_I_rf hk hk5)
theorem y_add (hx : q_x σ s) (h6 : s 6 < 500) (h10 : s 10 ≤ 101) (hQ : ∀ σ', kpN σ σ' → (∀ j, j ≠ 6 → j ≠ 10 → σ' 24 j = σ 24 j) → q_x σ' (q_it c s) → Q σ') : wp_X1_addItem (nI c) σ Q := by
  obtain ⟨x1, x2, x3⟩ := hx
  unfold wp_X1_addItem
  rw [x1 6 (by decide) (by decide)]
  refine s_setCell (by decide) (show s 6 < 500 from h6) ?_
  refine hM_in (fun J => J (nI (if s 10 = 0 then 1 else s 10 - 1))) (fun J hJ => ?_) ?_
  · refine nN_ne (v := s 10) (by rw [hup_ne _ _ (by decide)]; exact x2) (by omega) (fun q => ?_) (fun q => ?_)
    · rw [if_neg q] at hJ
      rw [hup_ne _ _ (by decide), x2, nN_s q]; exact hJ
    · rw [if_pos q] at hJ; exact hJ
  · try dsimp only
    have e6 : (hup σ 25 (s 6) (nI c)) 24 6 = nI (s 6) := by rw [hup_ne _ _ (by decide)]; exact x1 6 (by decide) (by decide)
    rw [e6]
    refine s_setCell (by decide) (show s 6 < 500 from h6) ?_
    have e6' : (hup (hup σ 25 (s 6) (nI c)) 26 (s 6) (nI (if s 10 = 0 then 1 else s 10 - 1))) 24 6 = nI (s 6) := by rw [hup_ne _ _ (by decide)]; exact e6
    rw [e6', nI_suc]
    refine hQ _ ((((kpN.h (Or.inr (Or.inl rfl))).tr (kpN.h (Or.inr (Or.inr rfl)))).tr (kpN.h (Or.inl rfl))).tr (kpN.h (Or.inl rfl))) (fun j i1 i2 => by rw [hup_at, if_neg i2, hup_at, if_neg i1, hup_ne _ _ (by decide), hup_ne _ _ (by decide)]) ⟨fun j i1 i2 => ?_, ?_, fun k hk => ?_⟩
    · rw [hup_at, if_neg (by omega), hup_at, hup_ne _ _ (by decide), hup_ne _ _ (by decide)]
      by_cases e : j = 6
      · subst e; rw [if_pos rfl, it_6]
      · rw [if_neg e, it_lo e (by omega) (by omega)]; exact x1 j i1 i2
    · rw [hup_at, if_pos rfl, it_10]; rfl
    · rw [it_6] at hk
      rw [hup_ne _ _ (by decide), hup_ne _ _ (by decide), hup_ne _ _ (by decide), hup_at, hup_ne _ _ (by decide), hup_ne _ _ (by decide), hup_at, hup_ne _ _ (by decide), it_kd (by omega) (by omega), it_tm (by omega) (by omega)]
      by_cases e : k = s 6
      · rw [if_pos e, if_pos e, if_pos e, if_pos e]; exact ⟨rfl, rfl⟩
      · rw [if_neg e, if_neg e, if_neg e, if_neg e]; exact x3 k (by omega)
/-- what of the methods the reading asks -/
def hasM (σ : hSt) (Ks : Nat → Nat) : Prop := ∀ m, m < 6 → ∀ Q : Int32 → Prop, (0 < Ks m → Q 1) → (¬ 0 < Ks m → Q 0) → wp_X0_has (nI m) σ Q
theorem y_unit {m : Nat} (hm : m < 6) (hH : hasM σ Ks) (hp : p < 500) (hc : cll c ∨ ltt c) (h0 : s 0 = 0) (h2 : s 2 = 0) (hz : q_z σ s) (ho : q_ok Ks p s) (hx : q_x σ s) (hd : σ 24 2 = -1) (hk : ltt c → s 7 = c - 65 ∧ m = c - 65) (hk2 : cll c → m = s 7) (hl : (∀ i, i < s 6 → ¬ ltt (kdf s i)) → cll c → s 7 = 0)
    (hQ : ∀ σ', kpN σ σ' → q_I Ks (p + 1) σ' (q_un Ks c m p s) → Q σ') : wp_X1_takeUnit (nI c) (nI m) (nI p) σ Q := by
  have ho' := ho
  obtain ⟨⟨a1, a2, a3, a4⟩, b, -⟩ := ho'
  unfold wp_X1_takeUnit wp_X10_refuse_r24
  refine hH m hm _ (fun hK => ⟨fun _ => ?_, fun y => absurd y (by decide)⟩) (fun hK => ⟨fun y => absurd rfl y, fun _ => ?_⟩)
  · have e : q_un Ks c m p s = upN (q_it c s) 9 0 := by unfold q_un; rw [if_pos hK]
    rw [e] at hQ
    refine y_add hx (by omega) (by have := b h2; omega) (fun σ' k1 k2 k3 => ?_)
    obtain ⟨x1, x2, x3⟩ := k3
    have g : ∀ j, j ≠ 6 → j ≠ 9 → j ≠ 10 → j < 1000 → upN (q_it c s) 9 0 j = s j := fun j i1 i2 i3 i4 => by rw [upN_ne i2, it_lo i1 i3 i4]
    have e2 : upN (q_it c s) 9 0 2 = 0 := by rw [g 2 (by decide) (by decide) (by decide) (by decide)]; exact h2
    refine hQ _ (k1.tr (kpN.h (Or.inl rfl))) ⟨⟨?_, ?_, ?_⟩, fun _ => ⟨ok_unit hp h2 ho hc (fun y => ⟨by rw [← (hk y).2]; exact hK, (hk y).1⟩) (fun y => by rw [← hk2 y]; exact hK) hl, ⟨fun j i1 i2 => ?_, ?_, fun k hku => ?_⟩, fun z => absurd e2 z, ?_, fun z => absurd e2 z⟩⟩
    · rw [hup_at, if_neg (by decide), k2 0 (by decide) (by decide), g 0 (by decide) (by decide) (by decide) (by decide)]; exact hz.1
    · rw [hup_at, if_neg (by decide), k2 1 (by decide) (by decide), g 1 (by decide) (by decide) (by decide) (by decide)]; exact hz.2.1
    · rw [g 0 (by decide) (by decide) (by decide) (by decide)]; exact hz.2.2
    · exact hu_up rfl (x1 j i1 i2)
    · rw [hup_at, if_neg (by decide), upN_ne (by decide)]; exact x2
    · rw [upN_ne (by decide)] at hku
      rw [hup_ne _ _ (by decide), hup_ne _ _ (by decide), upN_ne (by omega), upN_ne (by omega)]; exact x3 k hku
    · rw [e2, hup_at, if_neg (by decide), k2 2 (by decide) (by decide), hd]; rfl
  · have e : q_un Ks c m p s = m_rf 3 p s := by unfold q_un; rw [if_neg hK]
    rw [e] at hQ
    exact y_rf (k := 3) (by decide) (by decide) hQ
theorem y_gopen (hp : p < 500) (h0 : s 0 = 0) (h2 : s 2 = 0) (hz : q_z σ s) (ho : q_ok Ks p s) (hx : q_x σ s) (hd : σ 24 2 = -1) (hQ : ∀ σ', kpN σ σ' → q_I Ks (p + 1) σ' (q_og p s) → Q σ') : wp_X1_openGroup (nI p) σ Q := by
  have ho' := ho
  obtain ⟨⟨a1, a2, a3, a4⟩, b, -⟩ := ho'
  have hx' := hx
  obtain ⟨x1, x2, x3⟩ := hx'
  unfold wp_X1_openGroup wp_X10_refuse_r24
  refine pk_lt (s 8) 5 (fun q => ?_) (fun q => ?_) (x1 8 (by decide) (by decide)) rfl
  · have e : q_og p s = upN (q_it 40 (upN (upN s (4000 + s 8) (s 6)) 8 (s 8 + 1))) 9 1 := by unfold q_og; rw [if_pos q]
    rw [e] at hQ
    have hok := ok_gopen hp h2 ho q
    generalize hS : upN (upN s (4000 + s 8) (s 6)) 8 (s 8 + 1) = s1 at hQ hok
    have t : ∀ j, j ≠ 8 → j < 4000 → s1 j = s j := fun j i1 i2 => by rw [← hS, upN_ne i1, upN_ne (by omega)]
    have t8 : s1 8 = s 8 + 1 := by rw [← hS, upN_eq]
    rw [x1 8 (by decide) (by decide), nI_suc]
    have hx1 : q_x (hup σ 24 8 (nI (s 8 + 1))) s1 := by
      refine ⟨fun j i1 i2 => ?_, ?_, fun k hk => ?_⟩
      · rw [hup_at]
        by_cases y : j = 8
        · subst y; rw [if_pos rfl, t8]
        · rw [if_neg y, t j y (by omega)]; exact x1 j i1 i2
      · rw [hup_at, if_neg (by decide), t 10 (by decide) (by decide)]; exact x2
      · rw [t 6 (by decide) (by decide)] at hk
        rw [hup_ne _ _ (by decide), hup_ne _ _ (by decide), t _ (by omega) (by omega), t _ (by omega) (by omega)]; exact x3 k hk
    refine y_add (c := 40) hx1 (by rw [t 6 (by decide) (by decide)]; omega) (by rw [t 10 (by decide) (by decide)]; have := b h2; omega) (fun σ' k1 k2 k3 => ?_)
    obtain ⟨y1, y2, y3⟩ := k3
    have g : ∀ j, j ≠ 6 → j ≠ 8 → j ≠ 9 → j ≠ 10 → j < 1000 → upN (q_it 40 s1) 9 1 j = s j := fun j i1 i2 i3 i4 i5 => by rw [upN_ne i3, it_lo i1 i4 i5, t j i2 (by omega)]
    have e2 : upN (q_it 40 s1) 9 1 2 = 0 := by rw [g 2 (by decide) (by decide) (by decide) (by decide) (by decide)]; exact h2
    have gl : ∀ j, j ≠ 6 → j ≠ 8 → j ≠ 9 → j ≠ 10 → (hup σ' 24 9 (1 : Int32)) 24 j = σ 24 j := fun j i1 i2 i3 i4 => by rw [hup_at, if_neg i3, k2 j i1 i4, hup_at, if_neg i2]
    refine hQ _ (((kpN.h (Or.inl rfl)).tr k1).tr (kpN.h (Or.inl rfl))) ⟨⟨?_, ?_, ?_⟩, fun _ => ⟨hok, ⟨fun j i1 i2 => hu_up rfl (y1 j i1 i2), ?_, fun k hku => ?_⟩, fun z => absurd e2 z, ?_, fun z => absurd e2 z⟩⟩
    · rw [gl 0 (by decide) (by decide) (by decide) (by decide), g 0 (by decide) (by decide) (by decide) (by decide) (by decide)]; exact hz.1
    · rw [gl 1 (by decide) (by decide) (by decide) (by decide), g 1 (by decide) (by decide) (by decide) (by decide) (by decide)]; exact hz.2.1
    · rw [g 0 (by decide) (by decide) (by decide) (by decide) (by decide)]; exact hz.2.2
    · rw [hup_at, if_neg (by decide), upN_ne (by decide)]; exact y2
    · rw [upN_ne (by decide)] at hku
      rw [hup_ne _ _ (by decide), hup_ne _ _ (by decide), upN_ne (by omega), upN_ne (by omega)]; exact y3 k hku
    · rw [e2, gl 2 (by decide) (by decide) (by decide) (by decide), hd]; rfl
  · have e : q_og p s = m_rf 4 p s := by unfold q_og; rw [if_neg (by omega)]
    rw [e] at hQ
    exact y_rf (k := 4) (by decide) (by decide) hQ
theorem y_gclose (hp : p < 500) (h0 : s 0 = 0) (h2 : s 2 = 0) (hz : q_z σ s) (ho : q_ok Ks p s) (hx : q_x σ s) (hd : σ 24 2 = -1) (hQ : ∀ σ', kpN σ σ' → q_I Ks (p + 1) σ' (q_cg p s) → Q σ') : wp_X1_closeGroup (nI p) σ Q := by
  have ho' := ho
  obtain ⟨⟨a1, a2, a3, a4⟩, b, -⟩ := ho'
  have hx' := hx
  obtain ⟨x1, x2, x3⟩ := hx'
  have bad : (s 8 = 0 ∨ s 9 ≠ 0 ∨ s 10 ≠ 0) → Q (hup (hup σ 24 0 (1 : Int32)) 24 1 (nI p)) := fun hc => by
    have e : q_cg p s = m_rf 1 p s := by unfold q_cg; rw [if_pos hc]
    rw [e] at hQ
    exact y_rf (k := 1) (by decide) (by decide) hQ
  unfold wp_X1_closeGroup wp_X10_refuse_r24
  refine pk_eq (s 8) 0 (fun q => bad (Or.inl q)) (fun q8 => ?_) (x1 8 (by decide) (by decide)) rfl
  refine pk_en (s 9) 0 (fun q => bad (Or.inr (Or.inl q))) (fun q9 => ?_) (x1 9 (by decide) (by decide)) rfl
  refine nN_eq x2 (by have := b h2; omega) (fun q10 => ?_) (fun q => bad (Or.inr (Or.inr q)))
  have e : q_cg p s = q_cx s := by unfold q_cg; rw [if_neg (by omega)]
  rw [e] at hQ
  have hok := ok_gclose hp ho q8 q10 q9
  unfold q_cx at hQ hok
  generalize hS : upN (upN (upN s (3000 + s 6) (s (4000 + (s 8 - 1)))) (3000 + s (4000 + (s 8 - 1))) (s 6)) 8 (s 8 - 1) = s1 at hQ hok
  have t : ∀ j, j ≠ 8 → j < 3000 → s1 j = s j := fun j i1 i2 => by rw [← hS, upN_ne i1, upN_ne (by omega), upN_ne (by omega)]
  have t8 : s1 8 = s 8 - 1 := by rw [← hS, upN_eq]
  rw [x1 8 (by decide) (by decide), show (1 : Int32) = nI 1 from rfl, pk_sub (by omega)]
  have hx1 : q_x (hup σ 24 8 (nI (s 8 - 1))) s1 := by
    refine ⟨fun j i1 i2 => ?_, ?_, fun k hk => ?_⟩
    · rw [hup_at]
      by_cases y : j = 8
      · subst y; rw [if_pos rfl, t8]
      · rw [if_neg y, t j y (by omega)]; exact x1 j i1 i2
    · rw [hup_at, if_neg (by decide), t 10 (by decide) (by decide)]; exact x2
    · rw [t 6 (by decide) (by decide)] at hk
      rw [hup_ne _ _ (by decide), hup_ne _ _ (by decide), t _ (by omega) (by omega), t _ (by omega) (by omega)]; exact x3 k hk
  refine y_add (c := 41) hx1 (by rw [t 6 (by decide) (by decide)]; omega) (by rw [t 10 (by decide) (by decide)]; omega) (fun σ' k1 k2 k3 => ?_)
  have g : ∀ j, j ≠ 6 → j ≠ 8 → j ≠ 10 → j < 1000 → q_it 41 s1 j = s j := fun j i1 i2 i3 i4 => by rw [it_lo i1 i3 i4, t j i2 (by omega)]
  have e2 : q_it 41 s1 2 = 0 := by rw [g 2 (by decide) (by decide) (by decide) (by decide)]; exact h2
  have gl : ∀ j, j ≠ 6 → j ≠ 8 → j ≠ 10 → σ' 24 j = σ 24 j := fun j i1 i2 i3 => by rw [k2 j i1 i3, hup_at, if_neg i2]
  refine hQ σ' ((kpN.h (Or.inl rfl)).tr k1) ⟨⟨?_, ?_, ?_⟩, fun _ => ⟨hok, k3, fun z => absurd e2 z, ?_, fun z => absurd e2 z⟩⟩
  · rw [gl 0 (by decide) (by decide) (by decide), g 0 (by decide) (by decide) (by decide) (by decide)]; exact hz.1
  · rw [gl 1 (by decide) (by decide) (by decide), g 1 (by decide) (by decide) (by decide) (by decide)]; exact hz.2.1
  · rw [g 0 (by decide) (by decide) (by decide) (by decide)]; exact hz.2.2
  · rw [e2, gl 2 (by decide) (by decide) (by decide), hd]; rfl
end CRD

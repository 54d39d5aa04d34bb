/-! touch, row and whole. -/
theorem t_order {τ : hSt} {w : Nat → Int64} {n t : Nat} {r : Nat → Nat} (hn : n ≤ 8) (hr : PR n r) (h0 : τ 0 1 = nI n) (ha : aR τ 14 n r) (ht : isOrd r t) {Q : Int32 → hSt → (Nat → Int64) → Prop} (hQ : ∀ τ' w', oth 15 τ τ' → Q (nI t) τ' w') : wp_X12_order τ w Q := by
  unfold wp_X12_order
  obtain ⟨ht1, ht2, ht3, ht4⟩ := ht
  refine t_rounds hn (by decide) h0 (fun τ1 o1 r1 => ?_)
  refine hL3_in (fun v1 τ2 w2 => ∃ k, k < t ∧ v1 = nI k ∧ oth 15 τ τ2 ∧ aR τ2 15 n (itr r k)) (fun v1 _ _ => t - v1.toNatClampNeg) ?_ ⟨0, by omega, rfl, o1, r1⟩
  rintro P _ τ2 w2 ⟨k, hk, rfl, o2, r2⟩ ih
  refine hL3_in (fun v3 τ3 w3 => ∃ i, i ≤ n ∧ v3 = nI i ∧ τ2 = τ3 ∧ ∀ j, j < i → w3 j = lN (itr r (k + 1) j + 1)) (fun v3 _ _ => n - v3.toNatClampNeg) ?_ ⟨0, Nat.zero_le _, rfl, rfl, fun j hj => absurd hj (Nat.not_lt_zero j)⟩
  rintro P2 _ _ w3 ⟨i, hi, rfl, rfl, hw⟩ ih2
  have e0 : τ2 0 1 = nI n := by rw [o2 0 (by decide)]; exact h0
  refine pk_le n i (fun z => ?_) (fun z => ?_) e0 rfl
  · have e : i = n := by omega
    subst e
    refine hL2_in (fun v3 τ4 => ∃ j, j ≤ i ∧ v3 = nI j ∧ oth 15 τ τ4 ∧ aR τ4 15 j (itr r (k + 1))) (fun v3 _ => i - v3.toNatClampNeg) ?_ ⟨0, Nat.zero_le _, rfl, o2, fun j hj => absurd hj (Nat.not_lt_zero j)⟩
    rintro P3 _ τ4 ⟨j, hj, rfl, o4, r4⟩ ih3
    have e4 : τ4 0 1 = nI i := by rw [o4 0 (by decide)]; exact h0
    refine pk_le i j (fun z2 => ?_) (fun z2 => ?_) e4 rfl
    · have e : j = i := by omega
      subst e
      intro x hx
      rw [nI_suc] at hx
      subst hx
      refine t_isRounds hn (itr_PR hr (k + 1)) e4 r4 (fun e => ?_) (fun e => ?_)
      · have : k + 1 = t := by
          rcases Nat.lt_or_ge (k + 1) t with q | q
          · exact absurd e (ht4 (k + 1) (by omega) q)
          · omega
        subst this
        exact br_f (by decide) (hQ τ4 w3 o4)
      · have : k + 1 ≠ t := fun q => e (by rw [q]; exact ht3)
        exact br_t rfl (ih _ _ _ ⟨k + 1, by omega, rfl, o4, r4⟩ (by rw [nI_clamp (by omega), nI_clamp (by omega)]; omega))
    · refine ⟨vp_in_nI (by omega) (by decide), vp_in_nI (by omega) (by decide), ?_⟩
      intro x hx
      rw [nI_suc] at hx
      subst hx
      rw [nI_clamp (by omega), hw j z2, lN_i]
      refine ih3 _ _ ⟨j + 1, by omega, rfl, o4.up, fun l hl => ?_⟩ (by rw [nI_clamp (by omega), nI_clamp (by omega)]; omega)
      rw [hup_at]
      by_cases e : l = j
      · subst e; rw [if_pos rfl]
      · rw [if_neg e]; exact r4 l (by omega)
  · have h14 : τ2 14 i = nI (r i + 1) := by rw [o2 14 (by decide)]; exact ha i z
    have hri := hr.1 i z
    refine ⟨vp_in_nI (by omega) (by decide), ?_⟩
    rw [nI_clamp (by omega), h14, show (1 : Int32) = nI 1 from rfl, pk_sub (by omega), show r i + 1 - 1 = r i by omega]
    refine ⟨vp_in_nI (by omega) (by decide), vp_in_nI (by omega) (by decide), ?_⟩
    intro x hx
    rw [nI_add] at hx
    subst hx
    have hk8 := (itr_PR hr k).lt8 hn (r i) hri
    rw [nI_clamp (by omega), r2 (r i) hri, nI_l (by omega)]
    refine ih2 _ _ _ ⟨i + 1, by omega, rfl, rfl, fun j hj => ?_⟩ (by rw [nI_clamp (by omega), nI_clamp (by omega)]; omega)
    by_cases e : j = i
    · subst e; rw [pk_uLs]; rfl
    · rw [pk_uLn e]; exact hw j (by omega)
theorem s_rowNumbered {σ : hSt} {n t L : Nat} {Ks : Nat → Nat} {μs : Nat → Nat → Nat} {lm lc : Nat → Nat} (hn : n ≤ 8) (hM : ∀ m, m < 6 → vM n (Ks m) (μs m) ∧ cM σ (5 + 2 * m) n (Ks m) (μs m)) (hL : L ≤ 1000) (hOK : lOK Ks lm lc L) (hX : rLx σ n Ks μs L lm lc) (ht : t < FR Ks lm L) {Q : Int32 → Prop} (hQ : Q (nI (encR n (TT n Ks μs L lm lc t)))) : wp_X5_rowNumbered (nI t) σ Q := by
  have hV : ∀ m, m < 6 → vM n (Ks m) (μs m) := fun m hm => (hM m hm).1
  have hFL := FR_le hV hOK (Nat.le_refl L)
  obtain ⟨x1, x2, x3, x4, x5⟩ := hX
  have hL0 : 0 < L := by
    rcases Nat.eq_zero_or_pos L with e | e
    · subst e; exact absurd ht (Nat.not_lt_zero t)
    · exact e
  unfold wp_X5_rowNumbered
  intro x hx
  rw [x2, show (1 : Int32) = nI 1 from rfl, pk_sub hL0] at hx
  subst hx
  refine hL1_in (fun v2 => ∃ j, j < L ∧ v2 = nI j ∧ t < FR Ks lm (j + 1)) (fun v2 => v2.toNatClampNeg) ?_ ⟨L - 1, by omega, rfl, by rw [show L - 1 + 1 = L by omega]; exact ht⟩
  rintro P _ ⟨j, hj, rfl, htj⟩ ih
  obtain ⟨m1, m2, m3⟩ := x5 j hj
  obtain ⟨l1, l2, l3⟩ := hOK j hj
  have hFj := FR_le hV hOK (k := j) (by omega)
  have hv := hV _ l1
  refine br_f (nI_pos (by omega)) ?_
  unfold wp_X5_firstOf
  refine s_cell (by decide) (show j < 1000 by omega) ?_
  rw [m3]
  refine pk_lt t (FR Ks lm j) (fun z => ?_) (fun z => ?_) rfl rfl
  · have hj0 : 0 < j := by
      rcases Nat.eq_zero_or_pos j with e | e
      · subst e; exact absurd z (Nat.not_lt_zero t)
      · exact e
    intro x hx
    rw [show nI j = nI (j - 1 + 1) by rw [show j - 1 + 1 = j by omega], pk_m1] at hx
    subst hx
    exact ih _ ⟨j - 1, by omega, rfl, by rw [show j - 1 + 1 = j by omega]; exact z⟩ (by rw [nI_clamp (by omega), nI_clamp (by omega)]; omega)
  · unfold wp_X5_letterOf
    refine s_cell (by decide) (show j < 1000 by omega) ?_
    rw [m1, show (3 : Int32) = nI 3 from rfl, pk_div (by omega) (by decide) (by decide), (lcall l2).1]
    refine s_at l1 ?_
    unfold wp_X5_headOf
    refine s_cell (by decide) (show j < 1000 by omega) ?_
    rw [m2]
    refine s_cell (by decide) (show j < 1000 by omega) ?_
    have hFs : FR Ks lm (j + 1) = FR Ks lm j + Ks (lm j) := rfl
    rw [m3]
    dsimp only
    rw [pk_sub z]
    have hcM := (hM _ l1).2
    refine s_rowFrom (K := Ks (lm j)) (μ := μs (lm j)) hn (by rcases i6l l1 with e | e | e | e | e | e <;> rw [e] <;> rfl) hv hcM.1 (hcM.2 l3).2.1 (by omega) ((HL_PR hV hOK (by omega)).lt8 hn) ?_
    have eT := TT_is (n := n) (Ks := Ks) (lm := lm) (L := L) (μs := μs) (lc := lc) (q := 0) (i := j) (k := t - FR Ks lm j) hj (by omega)
    rw [Nat.zero_mul, Nat.zero_add, show FR Ks lm j + (t - FR Ks lm j) = t by omega] at eT
    rw [eT] at hQ
    exact hQ
/-- what prove() leaves -/
def kpP (σ σ' : hSt) : Prop := (∀ k, k ≠ 17 → k ≠ 18 → k ≠ 31 → σ' k = σ k) ∧ ∀ j, j ≠ 9 → j ≠ 10 → j ≠ 11 → σ' 31 j = σ 31 j
theorem kpP.rf {σ : hSt} : kpP σ σ := ⟨fun _ _ _ _ => rfl, fun _ _ _ _ => rfl⟩
theorem kpP.o {a b : hSt} (h : ot2 17 a b) : kpP a b := ⟨fun k p q _ => h k p q, fun j _ _ _ => by rw [h 31 (by decide) (by decide)]⟩
theorem kpP.tr {a b c : hSt} (h : kpP a b) (h2 : kpP b c) : kpP a c := ⟨fun k p q r => by rw [h2.1 k p q r, h.1 k p q r], fun j p q r => by rw [h2.2 j p q r, h.2 j p q r]⟩
theorem kpP.h31 {a : hSt} {j : Nat} {v : Int32} (hj : j = 9 ∨ j = 10 ∨ j = 11) : kpP a (hup a 31 j v) := ⟨fun k _ _ p => hup_n _ _ _ p, fun i p q r => by rw [hup_at, if_neg (by omega)]⟩
theorem rLx.mv {σ σ' : hSt} {n L : Nat} {Ks : Nat → Nat} {μs : Nat → Nat → Nat} {lm lc : Nat → Nat} (h : rLx σ n Ks μs L lm lc) (hk : kpP σ σ') : rLx σ' n Ks μs L lm lc := by
  obtain ⟨x1, x2, x3, x4, x5⟩ := h
  obtain ⟨k1, k2⟩ := hk
  refine ⟨by rw [k2 5 (by decide) (by decide) (by decide)]; exact x1, by rw [k2 6 (by decide) (by decide) (by decide)]; exact x2, by rw [k2 7 (by decide) (by decide) (by decide)]; exact x3, by rw [k2 8 (by decide) (by decide) (by decide)]; exact x4, fun k hk => ?_⟩
  rw [k1 32 (by decide) (by decide) (by decide), k1 33 (by decide) (by decide) (by decide), k1 34 (by decide) (by decide) (by decide)]; exact x5 k hk
theorem cMs.mv {σ σ' : hSt} {n : Nat} {Ks : Nat → Nat} {μs : Nat → Nat → Nat} (h : ∀ m, m < 6 → vM n (Ks m) (μs m) ∧ cM σ (5 + 2 * m) n (Ks m) (μs m)) (hk : ∀ k, 5 ≤ k → k ≤ 16 → σ' k = σ k) : ∀ m, m < 6 → vM n (Ks m) (μs m) ∧ cM σ' (5 + 2 * m) n (Ks m) (μs m) := fun m hm => ⟨(h m hm).1, (h m hm).2.mv (hk _ (by omega) (by omega)) (hk _ (by omega) (by omega))⟩
theorem s_prove {σ : hSt} {n B L : Nat} {Ks : Nat → Nat} {μs : Nat → Nat → Nat} {lm lc : Nat → Nat} (hn : n ≤ 8) (hB : B ≤ 40000000) (hS : rS σ B) (hM : ∀ m, m < 6 → vM n (Ks m) (μs m) ∧ cM σ (5 + 2 * m) n (Ks m) (μs m)) (hL : L ≤ 1000) (hOK : lOK Ks lm lc L) (hX : rLx σ n Ks μs L lm lc) (hP : rP σ (TT n Ks μs L lm lc) (FR Ks lm L)) {Q : hSt → Prop}
    (hQ : ∀ σ', kpP σ σ' → σ' 31 9 = 1 → isRep (TT n Ks μs L lm lc) (FR Ks lm L) (σ' 31 10) (σ' 31 11) → rS σ' (B + 64001) → Q σ') : wp_X5_prove σ Q := by
  have hV : ∀ m, m < 6 → vM n (Ks m) (μs m) := fun m hm => (hM m hm).1
  have hFL := FR_le hV hOK (Nat.le_refl L)
  unfold wp_X5_prove
  rcases hP with hP | ⟨hP, hP2⟩
  · refine br_t hP ?_
    refine s_firstRepeat (q := 1) hn hB hS hM hL hOK hX (by omega) (by decide) (fun t s σ2 ht hrep o2 hs2 => ?_) (fun σ2 hno o2 hs2 => ?_)
    · rw [Nat.one_mul] at ht
      have e10 : (hup σ2 31 10 (nI t)) 31 10 = nI t := by rw [hup_at, if_pos rfl]
      rw [e10]
      refine br_y (nI_ne_m1 t (by omega)) ?_
      have k3 : kpP σ (hup σ2 31 10 (nI t)) := (kpP.o o2).tr (kpP.h31 (Or.inr (Or.inl rfl)))
      refine s_rowNumbered hn (cMs.mv hM (fun k p q => k3.1 k (by omega) (by omega) (by omega))) hL hOK (hX.mv k3) ht ?_
      have hN : 0 < FR Ks lm L := by omega
      have hs3 : snT (hup σ2 31 10 (nI t)) n B (TT n Ks μs L lm lc) t := hs2.mv (hup_n _ _ _ (by decide)) (hup_n _ _ _ (by decide))
      refine s_noteT hn hB (fun a _ => TT_PRt hV hOK hN a) (by omega) hs3 (fun σ4 o4 hs4 => ?_) (fun s' hs' => ?_)
      · exfalso
        have := hs4.1 t (by omega) s hrep.1
        exact this hrep.2.1
      · have k5 : kpP σ (hup (hup (hup σ2 31 10 (nI t)) 31 11 (nI s')) 31 9 1) := (k3.tr (kpP.h31 (Or.inr (Or.inr rfl)))).tr (kpP.h31 (Or.inl rfl))
        refine hQ _ k5 (by rw [hup_at, if_pos rfl]) (Or.inl ⟨t, s', ht, hs', ?_, ?_⟩) ?_
        · rw [hup_at, if_neg (by decide), hup_at, if_neg (by decide), hup_at, if_pos rfl]
        · rw [hup_at, if_neg (by decide), hup_at, if_pos rfl]
        · obtain ⟨-, f, hf, -⟩ := hs3
          exact (hf.mv (by rw [hup_n _ _ _ (by decide), hup_n _ _ _ (by decide)]) (by rw [hup_n _ _ _ (by decide), hup_n _ _ _ (by decide)]) : sn _ n B f).rS
    · rw [Nat.one_mul] at hno
      have e10 : (hup σ2 31 10 (-1)) 31 10 = -1 := by rw [hup_at, if_pos rfl]
      rw [e10]
      refine br_x rfl ?_
      have k5 : kpP σ (hup (hup (hup σ2 31 10 (-1)) 31 11 (-1)) 31 9 1) := (((kpP.o o2).tr (kpP.h31 (Or.inr (Or.inl rfl)))).tr (kpP.h31 (Or.inr (Or.inr rfl)))).tr (kpP.h31 (Or.inl rfl))
      refine hQ _ k5 (by rw [hup_at, if_pos rfl]) (Or.inr ⟨hno, ?_, ?_⟩) ?_
      · rw [hup_at, if_neg (by decide), hup_at, if_neg (by decide), hup_at, if_pos rfl]
      · rw [hup_at, if_neg (by decide), hup_at, if_pos rfl]
      · obtain ⟨f, hf⟩ := hs2
        exact (hf.mv (by rw [hup_n _ _ _ (by decide), hup_n _ _ _ (by decide), hup_n _ _ _ (by decide)]) (by rw [hup_n _ _ _ (by decide), hup_n _ _ _ (by decide), hup_n _ _ _ (by decide)]) : sn _ n B f).rS
  · refine br_f (by rw [hP]; decide) ?_
    obtain ⟨tp, s1, s2⟩ := hS
    exact hQ σ kpP.rf hP hP2 ⟨tp, by omega, s2⟩
theorem RI.P {B : Nat} {σ σ' τ : hSt} (h : RI B σ τ) (hk : kpP σ σ') (hp : ∀ T N, rP σ T N → rP σ' T N) (hs : rS σ' (B + 64001)) : RI (B + 64001) σ' τ := by
  obtain ⟨n, Ks, μs, L, lm, lc, tz, h1, h2, ⟨z1, z2, z3, z4, z5⟩, ⟨t1, t2, t3, t4⟩, hM, hL, hOK, hX, hY, hP, hS⟩ := h
  have k1 := hk.1
  refine ⟨n, Ks, μs, L, lm, lc, tz, h1, h2, ⟨?_, z2, ?_, ?_, ?_⟩, ⟨t1, ?_, t3, fun i hi => ?_⟩, fun m hm => ?_, hL, hOK, hX.mv hk, hY, hp _ _ hP, hs⟩
  · rw [k1 0 (by decide) (by decide) (by decide)]; exact z1
  · rw [k1 0 (by decide) (by decide) (by decide)]; exact z3
  · rw [k1 35 (by decide) (by decide) (by decide)]; exact z4
  · rw [k1 3 (by decide) (by decide) (by decide)]; exact z5
  · rw [k1 19 (by decide) (by decide) (by decide)]; exact t2
  · rw [k1 20 (by decide) (by decide) (by decide)]; exact t4 i hi
  · obtain ⟨m1, m2, m3⟩ := hM m hm
    exact ⟨m1, m2.mv (k1 _ (by omega) (by omega) (by omega)) (k1 _ (by omega) (by omega) (by omega)), m3⟩
theorem isRep_un {T : Nat → Nat → Nat} {N : Nat} {a b c d : Int32} (h : isRep T N a b) (h2 : isRep T N c d) : a = c ∧ b = d := by
  rcases h with ⟨t, s, h1, ⟨r1, r2, r3⟩, rfl, rfl⟩ | ⟨h1, rfl, rfl⟩
  · rcases h2 with ⟨t', s', h1', ⟨r1', r2', r3'⟩, rfl, rfl⟩ | ⟨h1', rfl, rfl⟩
    · have et : t = t' := by
        rcases Nat.lt_trichotomy t t' with q | q | q
        · exact absurd r2 (r3' t q s r1)
        · exact q
        · exact absurd r2' (r3 t' q s' r1')
      subst et
      have es : s = s' := by
        rcases Nat.lt_trichotomy s s' with q | q | q
        · exact absurd (r2.trans r2'.symm) (r3 s' r1' s q)
        · exact q
        · exact absurd (r2'.trans r2.symm) (r3 s r1 s' q)
      subst es
      exact ⟨rfl, rfl⟩
    · exact absurd r2 (h1' t h1 s r1)
  · rcases h2 with ⟨t', s', h1', ⟨r1', r2', r3'⟩, rfl, rfl⟩ | ⟨h1', rfl, rfl⟩
    · exact absurd r2' (h1 t' h1' s' r1')
    · exact ⟨rfl, rfl⟩

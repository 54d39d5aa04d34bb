/-! The first row that comes again, in the reference. -/
def kpR (τ τ' : hSt) : Prop := (∀ k, k ≠ 0 → k ≠ 14 → k ≠ 17 → τ' k = τ k) ∧ ∀ j, j ≠ 29 → j ≠ 30 → j ≠ 31 → τ' 0 j = τ 0 j
theorem kpR.rf {τ : hSt} : kpR τ τ := ⟨fun _ _ _ _ => rfl, fun _ _ _ _ => rfl⟩
theorem kpR.tr {a b c : hSt} (h : kpR a b) (h2 : kpR b c) : kpR a c := ⟨fun k p q r => by rw [h2.1 k p q r, h.1 k p q r], fun j p q r => by rw [h2.2 j p q r, h.2 j p q r]⟩
theorem kpR.Y {a b : hSt} (h : kpR a b) : kpY a b := ⟨fun k p q => h.1 k (by omega) (by omega) (by omega), h.2 1 (by decide) (by decide) (by decide), h.2 6 (by decide) (by decide) (by decide), h.2 8 (by decide) (by decide) (by decide), h.2 11 (by decide) (by decide) (by decide), h.2 37 (by decide) (by decide) (by decide)⟩
theorem kpR.h17 {τ : hSt} {i : Nat} {v : Int32} : kpR τ (hup τ 17 i v) := ⟨fun k _ _ p => hup_n _ _ _ p, fun j _ _ _ => hup_ne _ _ (by decide)⟩
theorem kpR.h0 {τ : hSt} {i : Nat} {v : Int32} (hi : i = 29 ∨ i = 30 ∨ i = 31) : kpR τ (hup τ 0 i v) := ⟨fun k p _ _ => hup_n _ _ _ p, fun j a b c => by rw [hup_at, if_neg (by omega)]⟩
theorem kpR.o14 {a b : hSt} (h : oth 14 a b) : kpR a b := ⟨fun k _ p _ => h k p, fun j _ _ _ => by rw [h 0 (by decide)]⟩
def frA (τ : hSt) (T : Nat → Nat → Nat) (n t : Nat) : Prop := ∀ ρ, ρ < 40320 → (τ 17 ρ = -1 ∧ ∀ a, a < t → rk n (T a) ≠ ρ) ∨ ∃ a, a < t ∧ rk n (T a) = ρ ∧ τ 17 ρ = nI a
theorem noRep_suc {T : Nat → Nat → Nat} {t : Nat} (h : noRep T t) (h2 : ∀ b, b < t → T b ≠ T t) : noRep T (t + 1) := fun a ha b hb => by
  by_cases e : a = t
  · subst e; exact h2 b hb
  · exact h a (by omega) b hb
theorem isRep_neg {T : Nat → Nat → Nat} {N : Nat} {a b : Int32} (hN : N < 2 ^ 31) (h : isRep T N a b) (hz : 0 ≤ a) : ∃ t s, t < N ∧ repAt T t s ∧ a = nI t ∧ b = nI s := by
  rcases h with h | ⟨-, e, -⟩
  · exact h
  · rw [e] at hz; exact absurd hz (by decide)
theorem isRep_non {T : Nat → Nat → Nat} {N : Nat} {a b : Int32} (hN : N < 2 ^ 31) (h : isRep T N a b) (hz : ¬ 0 ≤ a) : noRep T N ∧ a = -1 ∧ b = -1 := by
  rcases h with ⟨t, s, ht, -, e, -⟩ | h
  · rw [e] at hz; exact absurd (nI_pos' (by omega)) hz
  · exact h
theorem isRep_suc {T : Nat → Nat → Nat} {N : Nat} {a b : Int32} (h : ∃ t s, t < N ∧ repAt T t s ∧ a = nI t ∧ b = nI s) : isRep T (N + 1) a b := by
  obtain ⟨t, s, h1, h2⟩ := h
  exact Or.inl ⟨t, s, by omega, h2⟩
/-- one row is marked -/
theorem t_mark {τ : hSt} {T : Nat → Nat → Nat} {n t : Nat} (hn : n ≤ 8) (ht : t ≤ 64000) (hT : ∀ a, PR n (T a)) (h29 : τ 0 29 = nI t) (hR : isRep T t (τ 0 30) (τ 0 31)) (hF : frA τ T n t) {K : hSt → Prop}
    (hK : ∀ τ', kpR τ τ' → τ' 14 = τ 14 → τ' 0 29 = nI t → isRep T (t + 1) (τ' 0 30) (τ' 0 31) → frA τ' T n (t + 1) → K τ') :
    hM_ (fun (σ21 : hSt) => (vp_in (nI (rk n (T t))) 40320 ∧ (hM_ K (fun J154 : hSt → Prop => ((0 ≤ (σ21 17 (nI (rk n (T t))).toNatClampNeg) → (J154 σ21)) ∧ (¬ 0 ≤ (σ21 17 (nI (rk n (T t))).toNatClampNeg) → (vp_in (nI (rk n (T t))) 40320 ∧ (J154 (hup σ21 17 (nI (rk n (T t))).toNatClampNeg (σ21 0 29)))))))))) (fun J133 : hSt → Prop => ((0 ≤ (τ 0 30) → (J133 τ)) ∧ (¬ 0 ≤ (τ 0 30) → (vp_in (nI (rk n (T t))) 40320 ∧ (((τ 17 (nI (rk n (T t))).toNatClampNeg) < 0 → (J133 τ)) ∧ (¬ (τ 17 (nI (rk n (T t))).toNatClampNeg) < 0 → (vp_in (nI (rk n (T t))) 40320 ∧ (J133 (hup (hup τ 0 30 (τ 0 29)) 0 31 ((hup τ 0 30 (τ 0 29)) 17 (nI (rk n (T t))).toNatClampNeg)))))))))) := by
  have hk := rk_lt hn (hT t).isP
  have hin : vp_in (nI (rk n (T t))) 40320 := vp_in_nI hk (by decide)
  dsimp only [hM_]
  rw [nI_clamp (by omega)]
  have fr_new : ∀ τ2 : hSt, (∀ ρ, ρ ≠ rk n (T t) → τ2 17 ρ = τ 17 ρ) → τ2 17 (rk n (T t)) = nI t → frA τ2 T n (t + 1) := fun τ2 g1 g2 ρ hρ => by
    by_cases e : ρ = rk n (T t)
    · exact Or.inr ⟨t, by omega, e.symm, by rw [e]; exact g2⟩
    · rcases hF ρ hρ with ⟨a1, a2⟩ | ⟨a, a1, a2, a3⟩
      · refine Or.inl ⟨by rw [g1 ρ e]; exact a1, fun a ha => ?_⟩
        by_cases e2 : a = t
        · subst e2; exact fun q => e q.symm
        · exact a2 a (by omega)
      · exact Or.inr ⟨a, by omega, a2, by rw [g1 ρ e]; exact a3⟩
  rcases hF (rk n (T t)) hk with ⟨a1, a2⟩ | ⟨a, a1, a2, a3⟩
  · -- new
    have hnew : ∀ b, b < t → T b ≠ T t := fun b hb q => a2 b hb (by rw [q])
    rw [a1]
    have fin : ∀ τ2 : hSt, τ2 = τ → K (hup τ2 17 (rk n (T t)) (τ2 0 29)) := fun τ2 e => by
      subst e
      refine hK _ kpR.h17 (hup_n _ _ _ (by decide)) (by rw [hup_ne _ _ (by decide)]; exact h29) ?_ (fr_new _ (fun ρ q => by rw [hup_at, if_neg q]) (by rw [hup_at, if_pos rfl]; exact h29))
      rw [hup_ne _ _ (by decide), hup_ne _ _ (by decide)]
      by_cases q : 0 ≤ τ2 0 30
      · exact isRep_suc (isRep_neg (by omega) hR q)
      · obtain ⟨g1, g2, g3⟩ := isRep_non (by omega) hR q
        exact Or.inr ⟨noRep_suc g1 hnew, g2, g3⟩
    refine ⟨fun q => ⟨hin, br_f (by decide) ⟨hin, fin τ rfl⟩⟩, fun q => ⟨hin, br_t (by decide) ⟨hin, br_f (by decide) ⟨hin, fin τ rfl⟩⟩⟩⟩
  · have e3 : T a = T t := rk_inj hn (hT a) (hT t) a2
    have fr_old : ∀ τ2 : hSt, τ2 17 = τ 17 → frA τ2 T n (t + 1) := fun τ2 g1 ρ hρ => by
      rw [g1]
      rcases hF ρ hρ with ⟨b1, b2⟩ | ⟨b, b1, b2, b3⟩
      · refine Or.inl ⟨b1, fun c hc => ?_⟩
        by_cases e2 : c = t
        · subst e2
          intro q
          rw [q, b1] at a3
          exact nI_ne_m1 a (by omega) a3.symm
        · exact b2 c (by omega)
      · exact Or.inr ⟨b, by omega, b2, b3⟩
    rw [a3]
    have hpos : 0 ≤ nI a := nI_pos' (by omega)
    have hnn : ¬ nI a < 0 := nI_pos (by omega)
    refine ⟨fun q => ⟨hin, br_t hpos ?_⟩, fun q => ⟨hin, br_f hnn ⟨hin, hin, ?_⟩⟩⟩
    · exact hK τ kpR.rf rfl h29 (isRep_suc (isRep_neg (by omega) hR q)) (fr_old τ rfl)
    · have g17 : (hup (hup τ 0 30 (τ 0 29)) 0 31 ((hup τ 0 30 (τ 0 29)) 17 (rk n (T t)))) 17 = τ 17 := by
        rw [hup_n _ _ _ (by decide), hup_n _ _ _ (by decide)]
      rw [g17, a3]
      refine br_t hpos ?_
      obtain ⟨g1, g2, g3⟩ := isRep_non (by omega) hR q
      refine hK _ ((kpR.h0 (Or.inr (Or.inl rfl))).tr (kpR.h0 (Or.inr (Or.inr rfl)))) (by rw [hup_n _ _ _ (by decide), hup_n _ _ _ (by decide)]) ?_ (Or.inl ⟨t, a, by omega, ⟨a1, e3, g1⟩, ?_, ?_⟩) (fr_old _ g17)
      · rw [hup_at, if_neg (by decide), hup_at, if_neg (by decide)]; exact h29
      · rw [hup_at, if_neg (by decide), hup_at, if_pos rfl]; exact h29
      · rw [hup_at, if_pos rfl, hup_ne _ _ (by decide)]; exact a3
theorem t_ringAll {τ : hSt} {w : Nat → Int64} {wt : Int32} {n q L : Nat} {Ks : Nat → Nat} {μs : Nat → Nat → Nat} {lm lc : Nat → Nat} (hn : n ≤ 8) (h0 : τ 0 1 = nI n) (hM : ∀ m, m < 6 → vM n (Ks m) (μs m) ∧ rM τ m (Ks m) (μs m)) (hL : L ≤ 1000) (hOK : lOK Ks lm lc L) (hY : rLy τ L lm lc) (hq1 : q * FR Ks lm L ≤ 64000) (hq2 : q < 1000) {Q : hSt → Prop}
    (hQ0 : (∀ t, t < q * FR Ks lm L → nI t ≠ wt) → ∀ τ', kpR τ τ' → τ' 0 29 = nI (q * FR Ks lm L) → isRep (TT n Ks μs L lm lc) (q * FR Ks lm L) (τ' 0 30) (τ' 0 31) → aR τ' 14 n (itr (HL n Ks μs lm lc L) q) → Q τ')
    (hQ1 : ∀ t, t < q * FR Ks lm L → nI t = wt → ∀ τ', kpR τ τ' → τ' 0 29 = nI t → aR τ' 14 n (TT n Ks μs L lm lc t) → Q τ') : wp_X12_ringAll (nI q) wt τ w Q := by
  have hV : ∀ m, m < 6 → vM n (Ks m) (μs m) := fun m hm => (hM m hm).1
  obtain ⟨y1, y2⟩ := hY
  unfold wp_X12_ringAll
  generalize hTT : TT n Ks μs L lm lc = T at hQ0 hQ1
  generalize hNN : FR Ks lm L = N at hQ0 hQ1 hq1
  have hTis : ∀ tm i k, i < L → k < Ks (lm i) → T (tm * N + FR Ks lm i + k) = fun x => itr (HL n Ks μs lm lc L) tm (HL n Ks μs lm lc i (rwn n (μs (lm i)) k x)) := fun tm i k hi hk => by
    rw [← hTT, ← hNN]; exact TT_is hi hk
  refine hL2_in (fun v3 τ2 => ∃ i, i ≤ 40320 ∧ v3 = nI i ∧ oth 17 τ τ2 ∧ ∀ ρ, ρ < i → τ2 17 ρ = -1) (fun v3 _ => 40320 - v3.toNatClampNeg) ?_ ⟨0, Nat.zero_le _, rfl, oth.rf, fun ρ h => absurd h (Nat.not_lt_zero ρ)⟩
  rintro P0 _ τ2 ⟨i0, hi0, rfl, ho2, hf2⟩ ih0
  refine pk_le 40320 i0 (fun z0 => ?_) (fun z0 => ?_) rfl rfl
  rotate_left
  · refine ⟨vp_in_nI z0 (by decide), ?_⟩
    intro x hx
    rw [nI_suc] at hx
    subst hx
    rw [nI_clamp (by omega)]
    refine ih0 _ _ ⟨i0 + 1, by omega, rfl, ho2.up, fun ρ hρ => ?_⟩ (by rw [nI_clamp (by omega), nI_clamp (by omega)]; omega)
    rw [hup_at]
    by_cases e : ρ = i0
    · rw [if_pos e]
    · rw [if_neg e]; exact hf2 ρ (by omega)
  have e40 : i0 = 40320 := by omega
  subst e40
  have k2 : kpR τ τ2 := ⟨fun k _ _ p => ho2 k p, fun j _ _ _ => by rw [ho2 0 (by decide)]⟩
  refine t_rounds hn (by decide) (show τ2 0 1 = nI n by rw [k2.2 1 (by decide) (by decide) (by decide)]; exact h0) (fun τ3 o3 r3 => ?_)
  have k3 : kpR τ τ3 := k2.tr (kpR.o14 o3)
  have k4 : kpR τ (hup (hup (hup τ3 0 29 0) 0 30 (-1)) 0 31 (-1)) := ((k3.tr (kpR.h0 (Or.inl rfl))).tr (kpR.h0 (Or.inr (Or.inl rfl)))).tr (kpR.h0 (Or.inr (Or.inr rfl)))
  have a4 : aR (hup (hup (hup τ3 0 29 0) 0 30 (-1)) 0 31 (-1)) 14 n (fun i => i) := fun i hi => by rw [hup_ne _ _ (by decide), hup_ne _ _ (by decide), hup_ne _ _ (by decide)]; exact r3 i hi
  have e29 : (hup (hup (hup τ3 0 29 0) 0 30 (-1)) 0 31 (-1)) 0 29 = nI 0 := by rw [hup_at, if_neg (by decide), hup_at, if_neg (by decide), hup_at, if_pos rfl]; rfl
  have e30 : (hup (hup (hup τ3 0 29 0) 0 30 (-1)) 0 31 (-1)) 0 30 = -1 := by rw [hup_at, if_neg (by decide), hup_at, if_pos rfl]
  have e31 : (hup (hup (hup τ3 0 29 0) 0 30 (-1)) 0 31 (-1)) 0 31 = -1 := by rw [hup_at, if_pos rfl]
  have f4 : frA (hup (hup (hup τ3 0 29 0) 0 30 (-1)) 0 31 (-1)) T n 0 := fun ρ hρ => Or.inl ⟨by rw [hup_ne _ _ (by decide), hup_ne _ _ (by decide), hup_ne _ _ (by decide), o3 17 (by decide)]; exact hf2 ρ hρ, fun a ha => absurd ha (Nat.not_lt_zero a)⟩
  generalize hup (hup (hup τ3 0 29 0) 0 30 (-1)) 0 31 (-1) = τ4 at k4 a4 e29 e30 e31 f4 ⊢
  have R4 : isRep T 0 (τ4 0 30) (τ4 0 31) := Or.inr ⟨fun a ha => absurd ha (Nat.not_lt_zero a), e30, e31⟩
  refine hL2_in (fun v3 τ5 => ∃ tm, tm ≤ q ∧ v3 = nI tm ∧ kpR τ τ5 ∧ aR τ5 14 n (itr (HL n Ks μs lm lc L) tm) ∧ τ5 0 29 = nI (tm * N) ∧ isRep T (tm * N) (τ5 0 30) (τ5 0 31) ∧ frA τ5 T n (tm * N) ∧ ∀ a, a < tm * N → nI a ≠ wt) (fun v3 _ => q - v3.toNatClampNeg) ?_ ⟨0, Nat.zero_le _, rfl, k4, a4, by rw [Nat.zero_mul]; exact e29, by rw [Nat.zero_mul]; exact R4, by rw [Nat.zero_mul]; exact f4, fun a ha => by rw [Nat.zero_mul] at ha; exact absurd ha (Nat.not_lt_zero a)⟩
  rintro P _ τ5 ⟨tm, htm, rfl, k5, a5, c5, R5, f5, w5⟩ ih
  refine pk_le q tm (fun z => ?_) (fun z => ?_) rfl rfl
  · have e : tm = q := by omega
    subst e
    exact hQ0 w5 τ5 k5 c5 R5 a5
  have hle : (tm + 1) * N ≤ q * N := Nat.mul_le_mul_right _ z
  rw [Nat.add_mul, Nat.one_mul] at hle
  refine hL2_in (fun v4 τ6 => ∃ i, i ≤ L ∧ v4 = nI i ∧ kpR τ τ6 ∧ aR τ6 14 n (fun x => itr (HL n Ks μs lm lc L) tm (HL n Ks μs lm lc i x)) ∧ τ6 0 29 = nI (tm * N + FR Ks lm i) ∧ isRep T (tm * N + FR Ks lm i) (τ6 0 30) (τ6 0 31) ∧ frA τ6 T n (tm * N + FR Ks lm i) ∧ ∀ a, a < tm * N + FR Ks lm i → nI a ≠ wt) (fun v4 _ => L - v4.toNatClampNeg) ?_ ⟨0, Nat.zero_le _, rfl, k5, a5, c5, R5, f5, w5⟩
  rintro P2 _ τ6 ⟨i, hi, rfl, k6, a6, c6, R6, f6, w6⟩ ih2
  refine pk_le L i (fun z2 => ?_) (fun z2 => ?_) (show τ6 0 6 = nI L by rw [k6.2 6 (by decide) (by decide) (by decide)]; exact y1) rfl
  · have e : i = L := by omega
    subst e
    rw [hNN] at c6 R6 f6 w6
    intro x hx
    rw [nI_suc] at hx
    subst hx
    have e1 : tm * N + N = (tm + 1) * N := by rw [Nat.add_mul, Nat.one_mul]
    rw [e1] at c6 R6 f6 w6
    exact ih _ _ ⟨tm + 1, by omega, rfl, k6, a6, c6, R6, f6, w6⟩ (by rw [nI_clamp (by omega), nI_clamp (by omega)]; omega)
  obtain ⟨l1, l2, l3⟩ := hOK i z2
  obtain ⟨n1, n2⟩ := y2 i z2
  have hv := hV _ l1
  have h64 := hv.1
  have hFi := FR_mono (Ks := Ks) (lm := lm) (show i + 1 ≤ L by omega)
  have hFs : FR Ks lm (i + 1) = FR Ks lm i + Ks (lm i) := rfl
  refine ⟨vp_in_nI (by omega) (by decide), ?_⟩
  rw [nI_clamp (by omega)]
  intro x hx
  rw [k6.1 3 (by decide) (by decide) (by decide), n1] at hx
  subst hx
  refine hL2_in (fun v6 τ7 => ∃ k, k ≤ Ks (lm i) ∧ v6 = nI k ∧ kpR τ τ7 ∧ aR τ7 14 n (fun x => itr (HL n Ks μs lm lc L) tm (HL n Ks μs lm lc i (rwc n (Ks (lm i)) (μs (lm i)) (lc i) k x))) ∧ τ7 0 29 = nI (tm * N + FR Ks lm i + k) ∧ isRep T (tm * N + FR Ks lm i + k) (τ7 0 30) (τ7 0 31) ∧ frA τ7 T n (tm * N + FR Ks lm i + k) ∧ ∀ a, a < tm * N + FR Ks lm i + k → nI a ≠ wt) (fun v6 _ => Ks (lm i) - v6.toNatClampNeg) ?_ ⟨0, Nat.zero_le _, rfl, k6, a6.congr (fun x _ => by rw [rwc_lt l3]; rfl), c6, R6, f6, w6⟩
  rintro P3 _ τ7 ⟨k, hk, rfl, k7, a7, c7, R7, f7, w7⟩ ih3
  have M7 : rM τ7 (lm i) (Ks (lm i)) (μs (lm i)) := (hM _ l1).2.mv (k7.1 1 (by decide) (by decide) (by decide)) (k7.1 2 (by decide) (by decide) (by decide))
  have hin6 : vp_in (nI (lm i)) 6 := vp_in_nI l1 (by decide)
  refine ⟨hin6, ?_⟩
  rw [nI_clamp (by omega)]
  refine pk_le (Ks (lm i)) k (fun z3 => ?_) (fun z3 => ?_) M7.1 rfl
  · have e : k = Ks (lm i) := by omega
    subst e
    intro x hx
    rw [nI_suc] at hx
    subst hx
    rw [Nat.add_assoc, ← hFs] at c7 R7 f7 w7
    exact ih2 _ _ ⟨i + 1, by omega, rfl, k7, a7.congr (fun x _ => by rw [rwc_K]; rfl), c7, R7, f7, w7⟩ (by rw [nI_clamp (by omega), nI_clamp (by omega)]; omega)
  have eT := hTis tm i k z2 z3
  have hTP : ∀ a, PR n (T a) := fun a => by
    rw [← hTT]; exact TT_PRt hV hOK (by rw [hNN]; omega) a
  have a7T : aR τ7 14 n (T (tm * N + FR Ks lm i + k)) := a7.congr (fun x _ => by rw [eT, rwc_lt z3])
  have s7 : τ7 0 1 = nI n := by rw [k7.2 1 (by decide) (by decide) (by decide)]; exact h0
  generalize htt : tm * N + FR Ks lm i + k = t at c7 R7 f7 w7 eT a7T
  have ht : t < q * N := by omega
  refine t_rank hn (hTP t).isP s7 a7T ?_
  refine t_mark hn (by omega) hTP c7 R7 f7 (fun τ8 k8 o8 c8 R8 f8 => ?_)
  have kk8 := k7.tr k8
  have a8 : aR τ8 14 n (T t) := fun j hj => by
    rw [o8]; exact a7T j hj
  refine ⟨fun hne => ?_, fun heq => ?_⟩
  · have hwt : nI t ≠ wt := fun e => hne (by rw [c8]; exact e)
    have k9 : kpR τ (hup τ8 0 29 (τ8 0 29 + 1)) := kk8.tr (kpR.h0 (Or.inl rfl))
    have a9 : aR (hup τ8 0 29 (τ8 0 29 + 1)) 14 n (T t) := fun j hj => by rw [hup_ne _ _ (by decide)]; exact a8 j hj
    have c9 : (hup τ8 0 29 (τ8 0 29 + 1)) 0 29 = nI (t + 1) := by rw [hup_at, if_pos rfl, c8, nI_suc]
    have R9 : isRep T (t + 1) ((hup τ8 0 29 (τ8 0 29 + 1)) 0 30) ((hup τ8 0 29 (τ8 0 29 + 1)) 0 31) := by
      rw [hup_at, if_neg (by decide), hup_at, if_neg (by decide)]; exact R8
    have f9 : frA (hup τ8 0 29 (τ8 0 29 + 1)) T n (t + 1) := fun ρ hρ => by rw [hup_ne _ _ (by decide)]; exact f8 ρ hρ
    generalize hup τ8 0 29 (τ8 0 29 + 1) = τ9 at k9 a9 c9 R9 f9
    have M9 : rM τ9 (lm i) (Ks (lm i)) (μs (lm i)) := (hM _ l1).2.mv (k9.1 1 (by decide) (by decide) (by decide)) (k9.1 2 (by decide) (by decide) (by decide))
    have s9 : τ9 0 1 = nI n := by rw [k9.2 1 (by decide) (by decide) (by decide)]; exact h0
    have hx := hv.2 _ (chm_rel z3 l2)
    have go : ∀ τ', oth 14 τ9 τ' → aR τ' 14 n (fun x => T t (b_pm n (μs (lm i) (chm (Ks (lm i)) k (lc i))) x)) → P3 (nI (k + 1)) τ' := fun τ' o' a' => by
      have k' := k9.tr (kpR.o14 o')
      refine ih3 _ _ ⟨k + 1, by omega, rfl, k', a'.congr (fun x _ => by rw [eT, rwc_suc z3, rwc_lt z3]), ?_, ?_, ?_, fun a ha => ?_⟩ (by rw [nI_clamp (by omega), nI_clamp (by omega)]; omega)
      · rw [o' 0 (by decide), ← Nat.add_assoc, htt]; exact c9
      · rw [o' 0 (by decide), ← Nat.add_assoc, htt]; exact R9
      · rw [← Nat.add_assoc, htt]
        intro ρ hρ
        rw [o' 17 (by decide)]; exact f9 ρ hρ
      · by_cases e : a = t
        · subst e; exact hwt
        · exact w7 a (by omega)
    refine ⟨hin6, ?_⟩
    refine pk_le (Ks (lm i)) (k + 1) (fun z4 => ?_) (fun z4 => ?_) M9.1 (nI_suc k)
    · refine ⟨vp_in_nI (by omega) (by decide), ?_⟩
      rw [k9.1 4 (by decide) (by decide) (by decide), n2]
      refine t_last l1 l2 l3 hv M9 ?_
      have ec : chm (Ks (lm i)) k (lc i) = lst (Ks (lm i)) (lc i) := by unfold chm; rw [if_pos (by omega)]
      rw [← ec]
      refine t_ring hn (by decide) hx.1 (by omega) s9 a9 (fun τ' o' a' => ?_)
      intro x hx
      rw [nI_suc] at hx
      subst hx
      exact go τ' o' a'
    · obtain ⟨-, g2, g3⟩ := ix66 l1 (k := k) (by omega)
      refine ⟨g2, ?_⟩
      have ec : chm (Ks (lm i)) k (lc i) = k := by unfold chm; rw [if_neg (by omega)]
      rw [g3, M9.2 k (Or.inl z3) l3]
      rw [ec] at hx go
      refine t_ring hn (by decide) hx.1 (by omega) s9 a9 (fun τ' o' a' => ?_)
      intro x hx
      rw [nI_suc] at hx
      subst hx
      exact go τ' o' a'
  · exact hQ1 t ht (by rw [← c8]; exact heq) τ8 kk8 c8 a8

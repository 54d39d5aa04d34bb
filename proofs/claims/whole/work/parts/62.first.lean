/-! The first row that comes again, in the class. -/
theorem ot2.rf {k : Nat} {σ : hSt} : ot2 k σ σ := fun _ _ _ => rfl
theorem ot2.tr {k : Nat} {a b c : hSt} (h : ot2 k a b) (h2 : ot2 k b c) : ot2 k a c := fun j p q => by rw [h2 j p q, h j p q]
theorem lcall {a c : Nat} (hc : c ≤ 2) : (3 * a + c) / 3 = a ∧ (3 * a + c) % 3 = c := by omega
theorem snT_0 {σ : hSt} {n B : Nat} {T : Nat → Nat → Nat} (h : sn σ n B (fun _ => 0)) : snT σ n B T 0 := ⟨fun a ha => absurd ha (Nat.not_lt_zero a), _, h, fun a ha => absurd ha (Nat.not_lt_zero a), fun _ h => absurd rfl h⟩
theorem nI_ne_m1 (a : Nat) (h : a < 2 ^ 31) : ¬ nI a = -1 := fun e => by
  have : nI a < 0 := by rw [e]; decide
  exact nI_pos h this
theorem s_firstRepeat {σ : hSt} {n B q L : Nat} {Ks : Nat → Nat} {μs : Nat → Nat → Nat} {lm lc : Nat → Nat} (hn : n ≤ 8) (hB : B ≤ 40000000) (hS : rS σ B) (hM : ∀ m, m < 6 → vM n (Ks m) (μs m) ∧ cM σ (5 + 2 * m) n (Ks m) (μs m)) (hL : L ≤ 1000) (hOK : lOK Ks lm lc L) (hX : rLx σ n Ks μs L lm lc) (hq1 : q * FR Ks lm L ≤ 64000) (hq2 : q < 1000) {Q : Int32 → hSt → Prop}
    (h1 : ∀ t s σ', t < q * FR Ks lm L → repAt (TT n Ks μs L lm lc) t s → ot2 17 σ σ' → snT σ' n B (TT n Ks μs L lm lc) t → Q (nI t) σ')
    (h0 : ∀ σ', noRep (TT n Ks μs L lm lc) (q * FR Ks lm L) → ot2 17 σ σ' → (∃ f, sn σ' n B f) → Q (-1) σ') : wp_X5_firstRepeat (nI q) σ Q := by
  have hV : ∀ m, m < 6 → vM n (Ks m) (μs m) := fun m hm => (hM m hm).1
  obtain ⟨x1, x2, x3, x4, x5⟩ := hX
  unfold wp_X5_firstRepeat
  rw [x1]
  refine s_begin hS (fun σ1 o1 hs1 => ?_)
  have b1 : σ1 31 5 = nI n := by rw [o1 31 (by decide)]; exact x1
  rw [b1]
  refine s_rounds hn ?_
  have hp := HL_PR hV hOK (Nat.le_refl L)
  generalize hTT : TT n Ks μs L lm lc = T at h1 h0
  generalize hNN : FR Ks lm L = N at h1 h0 hq1
  have hTis : ∀ tm i k, i < L → k < Ks (lm i) → T (tm * N + FR Ks lm i + k) = fun x => itr (HL n Ks μs lm lc L) tm (HL n Ks μs lm lc i (rwn n (μs (lm i)) k x)) := fun tm i k hi hk => by
    rw [← hTT, ← hNN]; exact TT_is hi hk
  refine hL4_in (fun v2 v3 v4 σ2 => ∃ tm, tm ≤ q ∧ v4 = nI tm ∧ v3 = nI (tm * N) ∧ v2 = nI (encR n (itr (HL n Ks μs lm lc L) tm)) ∧ ot2 17 σ σ2 ∧ snT σ2 n B T (tm * N)) (fun _ _ v4 _ => q - v4.toNatClampNeg) ?_ ⟨0, Nat.zero_le _, rfl, by rw [Nat.zero_mul]; rfl, rfl, fun j h _ => o1 j h, by rw [Nat.zero_mul]; exact snT_0 hs1⟩
  rintro P _ _ _ σ2 ⟨tm, htm, rfl, rfl, rfl, ho2, hs2⟩ ih
  refine pk_le q tm (fun z => ?_) (fun z => ?_) rfl rfl
  · have e : tm = q := by omega
    subst e
    obtain ⟨g1, f, g2, -⟩ := hs2
    exact h0 σ2 g1 ho2 ⟨f, g2⟩
  · have hle : (tm + 1) * N ≤ q * N := Nat.mul_le_mul_right _ z
    rw [Nat.add_mul, Nat.one_mul] at hle
    refine hL4_in (fun v2 v3 v5 σ3 => ∃ i, i ≤ L ∧ v5 = nI i ∧ v3 = nI (tm * N + FR Ks lm i) ∧ v2 = nI (encR n (fun x => itr (HL n Ks μs lm lc L) tm (HL n Ks μs lm lc i x))) ∧ ot2 17 σ σ3 ∧ snT σ3 n B T (tm * N + FR Ks lm i)) (fun _ _ v5 _ => L - v5.toNatClampNeg) ?_ ⟨0, Nat.zero_le _, rfl, rfl, rfl, ho2, hs2⟩
    rintro P2 _ _ _ σ3 ⟨i, hi, rfl, rfl, rfl, ho3, hs3⟩ ih2
    have c6 : σ3 31 6 = nI L := by rw [ho3 31 (by decide) (by decide)]; exact x2
    refine pk_le L i (fun z2 => ?_) (fun z2 => ?_) c6 rfl
    · have e : i = L := by omega
      subst e
      intro x hx
      rw [nI_suc] at hx
      subst hx
      refine ih _ _ _ _ ⟨tm + 1, by omega, rfl, ?_, ?_, ho3, ?_⟩ (by rw [nI_clamp (by omega), nI_clamp (by omega)]; omega)
      · rw [hNN, Nat.add_mul, Nat.one_mul]
      · rfl
      · rw [hNN] at hs3; rw [Nat.add_mul, Nat.one_mul]; exact hs3
    · obtain ⟨l1, l2, l3⟩ := hOK i z2
      obtain ⟨m1, m2, m3⟩ := x5 i z2
      have hc1 := lcall (a := lm i) l2
      have hv := hV _ l1
      have h64 := hv.1
      have hFi := FR_mono (Ks := Ks) (lm := lm) (show i + 1 ≤ L by omega)
      have hFs : FR Ks lm (i + 1) = FR Ks lm i + Ks (lm i) := rfl
      have d32 : ∀ σ4, ot2 17 σ σ4 → σ4 32 i = nI (3 * lm i + lc i) := fun σ4 h => by rw [h 32 (by decide) (by decide)]; exact m1
      unfold wp_X5_letterOf
      refine s_cell (by decide) (show i < 1000 by omega) ?_
      rw [d32 σ3 ho3, show (3 : Int32) = nI 3 from rfl, pk_div (by omega) (by decide) (by decide), hc1.1]
      refine s_at l1 ?_
      have hcMs : ∀ σ4, ot2 17 σ σ4 → cM σ4 (5 + 2 * lm i) n (Ks (lm i)) (μs (lm i)) := fun σ4 h => (hM _ l1).2.mv (h _ (by omega) (by omega)) (h _ (by omega) (by omega))
      refine hL4_in (fun v2 v3 v7 σ4 => ∃ k, k ≤ Ks (lm i) ∧ v7 = nI k ∧ v3 = nI (tm * N + FR Ks lm i + k) ∧ v2 = nI (encR n (fun x => itr (HL n Ks μs lm lc L) tm (HL n Ks μs lm lc i (rwc n (Ks (lm i)) (μs (lm i)) (lc i) k x)))) ∧ ot2 17 σ σ4 ∧ snT σ4 n B T (tm * N + FR Ks lm i + k)) (fun _ _ v7 _ => Ks (lm i) - v7.toNatClampNeg) ?_ ⟨0, Nat.zero_le _, rfl, rfl, by rw [rwc_lt l3]; rfl, ho3, hs3⟩
      rintro P3 _ _ _ σ4 ⟨k, hk, rfl, rfl, rfl, ho4, hs4⟩ ih3
      have hcM := hcMs σ4 ho4
      unfold wp_X2_size
      refine pk_le (Ks (lm i)) k (fun z3 => ?_) (fun z3 => ?_) hcM.1 rfl
      · have e : k = Ks (lm i) := by omega
        subst e
        intro x hx
        rw [nI_suc] at hx
        subst hx
        refine ih2 _ _ _ _ ⟨i + 1, by omega, rfl, ?_, ?_, ho4, by rw [hFs, ← Nat.add_assoc]; exact hs4⟩ (by rw [nI_clamp (by omega), nI_clamp (by omega)]; omega)
        · rw [hFs, Nat.add_assoc]
        · rw [rwc_K]; rfl
      · have eT := hTis tm i k z2 z3
        rw [rwc_lt z3, ← eT]
        have hT : ∀ a, PR n (T a) := fun a => by
          rw [← hTT]; exact TT_PRt hV hOK (by rw [hNN]; omega) a
        refine s_noteT hn hB (fun a _ => hT a) (by omega) hs4 (fun σ5 o5 hs5 => ?_) (fun s hs => ?_)
        · refine br_t rfl ?_
          intro x hx
          rw [nI_suc] at hx
          subst hx
          have ho5 := ho4.tr o5
          unfold wp_X5_callOf
          refine s_cell (by decide) (show i < 1000 by omega) ?_
          rw [d32 σ5 ho5, show (3 : Int32) = nI 3 from rfl, pk_rem (by omega) (by decide) (by decide), hc1.2]
          refine s_changeCalled (by rcases i6l l1 with e | e | e | e | e | e <;> rw [e] <;> rfl) hv (hcMs σ5 ho5) z3 l2 ?_
          refine s_changed hn ((hT _).lt8 hn) (hv.2 _ (chm_rel z3 l2)).1 ?_
          intro x hx
          rw [nI_suc] at hx
          subst hx
          refine ih3 _ _ _ _ ⟨k + 1, by omega, rfl, rfl, ?_, ho5, hs5⟩ (by rw [nI_clamp (by omega), nI_clamp (by omega)]; omega)
          rw [rwc_suc z3, eT, rwc_lt z3]
        · refine br_f (nI_ne_m1 _ (by have := hs.1; omega)) ?_
          exact h1 _ s σ4 (by omega) hs ho4 hs4

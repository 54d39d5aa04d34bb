def tAns (n : Nat) (Ks : Nat → Nat) (μs : Nat → Nat → Nat) (L : Nat) (lm lc : Nat → Nat) (c : Nat) (r : Int32) : Prop :=
  (c = 0 → r = nI L) ∧ (c = 1 → r = nI (FR Ks lm L)) ∧ (2 ≤ c → c ≤ 4 → ∃ a b, isRep (TT n Ks μs L lm lc) (FR Ks lm L) a b ∧ (c = 2 → (0 ≤ a → r = 0) ∧ (¬ 0 ≤ a → r = 1)) ∧ (c = 3 → r = a) ∧ (c = 4 → r = b)) ∧ (c = 5 → r = nI (numR n (HL n Ks μs lm lc L))) ∧ (c = 6 → ((HL n Ks μs lm lc L = fun i => i) → r = 1) ∧ ((HL n Ks μs lm lc L ≠ fun i => i) → r = 0)) ∧ (c = 7 → ∃ t, isOrd (HL n Ks μs lm lc L) t ∧ r = nI t) ∧ (c = 8 → r = nI (nb (fun k => decide (lc k = 1)) L)) ∧ (c = 9 → r = nI (nb (fun k => decide (lc k = 2)) L)) ∧ (c = 10 → r = nI (nb (fun k => decide (0 < k ∧ lm k ≠ lm (k - 1))) L))
theorem t_touch {τ σ : hSt} {w : Nat → Int64} {n c L : Nat} {Ks : Nat → Nat} {μs : Nat → Nat → Nat} {lm lc : Nat → Nat} (hn : n ≤ 8) (h0 : τ 0 1 = nI n) (hM : rMs σ τ n Ks μs) (hL : L ≤ 1000) (hOK : lOK Ks lm lc L) (hY : rLy τ L lm lc) (hc : c ≤ 10) {Q : Int32 → hSt → (Nat → Int64) → Prop} (hQ : ∀ r τ' w', tAns n Ks μs L lm lc c r → kpY τ τ' → Q r τ' w') : wp_X12_touch (nI c) τ w Q := by
  have hV := hM.v
  have hFL := FR_le hV hOK (Nat.le_refl L)
  have hp := HL_PR hV hOK (Nat.le_refl L)
  have k0 : kpY τ (hup τ 0 0 0) := kpY.hu (by decide)
  have s0 : ∀ j, j ≠ 0 → (hup τ 0 0 0) 0 j = τ 0 j := fun j hj => by rw [hup_at, if_neg hj]
  have s1 : ∀ k, k ≠ 0 → (hup τ 0 0 0) k = τ k := fun k hk => hup_n _ _ _ hk
  have hM0 : ∀ m, m < 6 → vM n (Ks m) (μs m) ∧ rM (hup τ 0 0 0) m (Ks m) (μs m) := fun m hm => ⟨(hM m hm).1, (hM m hm).2.2.mv (s1 1 (by decide)) (s1 2 (by decide))⟩
  have hY0 : rLy (hup τ 0 0 0) L lm lc := ⟨by rw [s0 6 (by decide)]; exact hY.1, fun k hk => by rw [s1 3 (by decide), s1 4 (by decide)]; exact hY.2 k hk⟩
  have n0 : (hup τ 0 0 0) 0 1 = nI n := by rw [s0 1 (by decide)]; exact h0
  unfold wp_X12_touch
  generalize hup τ 0 0 0 = τ0 at k0 hM0 hY0 n0 ⊢
  refine br_f (nI_pos (by omega)) (br_t (nI_le (b := 10) hc (by decide)) ?_)
  refine pk_en c 0 (fun c0 => ?_) (fun c0 => ?_) rfl rfl
  · refine pk_le c 7 (fun c7 => ?_) (fun c7 => ?_) rfl rfl
    · refine t_ringAll (q := 1) hn n0 hM0 hL hOK hY0 (by omega) (by decide) (fun _ τ5 k5 e29 R5 a5 => ?_) (fun t _ e => absurd e (nI_ne_m1 t (by omega)))
      rw [Nat.one_mul] at e29 R5
      have kk := k0.tr k5.Y
      have e1 : itr (HL n Ks μs lm lc L) 1 = HL n Ks μs lm lc L := rfl
      rw [e1] at a5
      have e0 : τ5 0 1 = nI n := by rw [k5.2 1 (by decide) (by decide) (by decide)]; exact n0
      intro x hx
      subst hx
      refine pk_eq c 1 (fun q => ?_) (fun q1 => pk_eq c 2 (fun q => ?_) (fun q2 => pk_eq c 3 (fun q => ?_) (fun q3 => pk_eq c 4 (fun q => ?_) (fun q4 => pk_eq c 5 (fun q => ?_) (fun q5 => pk_eq c 6 (fun q => ?_) (fun q6 => ?_) rfl rfl) rfl rfl) rfl rfl) rfl rfl) rfl rfl) rfl rfl
      · subst q
        exact hQ _ _ _ ⟨fun z => by omega, fun _ => e29, fun z => by omega, fun z => by omega, fun z => by omega, fun z => by omega, fun z => by omega, fun z => by omega, fun z => by omega⟩ kk
      · subst q
        refine ⟨fun z => hQ _ _ _ ⟨fun z => by omega, fun z => by omega, fun _ _ => ⟨_, _, R5, fun _ => ⟨fun _ => rfl, fun z2 => absurd z z2⟩, fun z => by omega, fun z => by omega⟩, fun z => by omega, fun z => by omega, fun z => by omega, fun z => by omega, fun z => by omega, fun z => by omega⟩ kk, fun z => hQ _ _ _ ⟨fun z => by omega, fun z => by omega, fun _ _ => ⟨_, _, R5, fun _ => ⟨fun z2 => absurd z2 z, fun _ => rfl⟩, fun z => by omega, fun z => by omega⟩, fun z => by omega, fun z => by omega, fun z => by omega, fun z => by omega, fun z => by omega, fun z => by omega⟩ kk⟩
      · subst q
        exact hQ _ _ _ ⟨fun z => by omega, fun z => by omega, fun _ _ => ⟨_, _, R5, fun z => by omega, fun _ => rfl, fun z => by omega⟩, fun z => by omega, fun z => by omega, fun z => by omega, fun z => by omega, fun z => by omega, fun z => by omega⟩ kk
      · subst q
        exact hQ _ _ _ ⟨fun z => by omega, fun z => by omega, fun _ _ => ⟨_, _, R5, fun z => by omega, fun z => by omega, fun _ => rfl⟩, fun z => by omega, fun z => by omega, fun z => by omega, fun z => by omega, fun z => by omega, fun z => by omega⟩ kk
      · subst q
        refine t_number hn e0 a5 ?_
        exact hQ _ _ _ ⟨fun z => by omega, fun z => by omega, fun z z2 => by omega, fun _ => rfl, fun z => by omega, fun z => by omega, fun z => by omega, fun z => by omega, fun z => by omega⟩ kk
      · subst q
        refine t_isRounds hn hp e0 a5 (fun e => ?_) (fun e => ?_)
        · exact br_f (by decide) (hQ _ _ _ ⟨fun z => by omega, fun z => by omega, fun z z2 => by omega, fun z => by omega, fun _ => ⟨fun _ => rfl, fun z => absurd e z⟩, fun z => by omega, fun z => by omega, fun z => by omega, fun z => by omega⟩ kk)
        · exact br_t rfl (hQ _ _ _ ⟨fun z => by omega, fun z => by omega, fun z z2 => by omega, fun z => by omega, fun _ => ⟨fun z => absurd z e, fun _ => rfl⟩, fun z => by omega, fun z => by omega, fun z => by omega, fun z => by omega⟩ kk)
      · have c7' : c = 7 := by omega
        subst c7'
        obtain ⟨t, ht⟩ := ord_ex hn hp
        refine t_order hn hp e0 a5 ht (fun τ6 w6 o6 => ?_)
        exact hQ _ _ _ ⟨fun z => by omega, fun z => by omega, fun z z2 => by omega, fun z => by omega, fun z => by omega, fun _ => ⟨t, ht, rfl⟩, fun z => by omega, fun z => by omega, fun z => by omega⟩ (kk.tr (o6.kp (by decide)))
    · have step : ∀ (F : Nat → Bool), (∀ k, k < L → F k = if c = 10 then decide (0 < k ∧ lm k ≠ lm (k - 1)) else decide (lc k = c - 7)) → Q (nI (nb F L)) τ0 w → hL2 (fun P36 (v2_22 : Int32) (v3_23 : Int32) => (((τ0 0 6) ≤ v3_23 → (Q v2_22 τ0 w)) ∧ (¬ (τ0 0 6) ≤ v3_23 → (((10 : Int32) ≤ (nI c) → ((v3_23 ≤ 0 → (∀ x2_27 : Int32, x2_27 = (v2_22 + (0 : Int32)) → (∀ x3_28 : Int32, x3_28 = v3_23 + (1 : Int32) → (P36 x2_27 x3_28)))) ∧ (¬ v3_23 ≤ 0 → (vp_in v3_23 1000 ∧ (vp_in (v3_23 - (1 : Int32)) 1000 ∧ (((τ0 3 (v3_23).toNatClampNeg) = (τ0 3 ((v3_23 - (1 : Int32))).toNatClampNeg) → (∀ x2_32 : Int32, x2_32 = (v2_22 + (0 : Int32)) → (∀ x3_33 : Int32, x3_33 = v3_23 + (1 : Int32) → (P36 x2_32 x3_33)))) ∧ (¬ (τ0 3 (v3_23).toNatClampNeg) = (τ0 3 ((v3_23 - (1 : Int32))).toNatClampNeg) → (∀ x2_34 : Int32, x2_34 = (v2_22 + (1 : Int32)) → (∀ x3_35 : Int32, x3_35 = v3_23 + (1 : Int32) → (P36 x2_34 x3_35)))))))))) ∧ (¬ (10 : Int32) ≤ (nI c) → (vp_in v3_23 1000 ∧ ((¬ (τ0 4 (v3_23).toNatClampNeg) = ((nI c) - (7 : Int32)) → (∀ x2_38 : Int32, x2_38 = (v2_22 + (0 : Int32)) → (∀ x3_39 : Int32, x3_39 = v3_23 + (1 : Int32) → (P36 x2_38 x3_39)))) ∧ ((τ0 4 (v3_23).toNatClampNeg) = ((nI c) - (7 : Int32)) → (∀ x2_40 : Int32, x2_40 = (v2_22 + (1 : Int32)) → (∀ x3_41 : Int32, x3_41 = v3_23 + (1 : Int32) → (P36 x2_40 x3_41))))))))))) (0 : Int32) (0 : Int32) := fun F hF hq => by
        refine hL2_in (fun v2 v3 => ∃ i, i ≤ L ∧ v3 = nI i ∧ v2 = nI (nb F i)) (fun _ v3 => L - v3.toNatClampNeg) ?_ ⟨0, Nat.zero_le _, rfl, rfl⟩
        rintro P _ _ ⟨i, hi, rfl, rfl⟩ ih
        refine pk_le L i (fun z => ?_) (fun z => ?_) hY0.1 rfl
        · have e : i = L := by omega
          subst e; exact hq
        · have yes : F i = true → P (nI (nb F i) + 1) (nI i + 1) := fun q => by
            rw [nI_suc, nI_suc]
            refine ih _ _ ⟨i + 1, by omega, rfl, ?_⟩ (by rw [nI_clamp (by omega), nI_clamp (by omega)]; omega)
            show _ = nI (nb F i + (if F i = true then 1 else 0))
            rw [if_pos q]
          have no : F i = false → P (nI (nb F i) + 0) (nI i + 1) := fun q => by
            rw [show (0 : Int32) = nI 0 from rfl, nI_add, nI_suc]
            refine ih _ _ ⟨i + 1, by omega, rfl, ?_⟩ (by rw [nI_clamp (by omega), nI_clamp (by omega)]; omega)
            show _ = nI (nb F i + (if F i = true then 1 else 0))
            rw [if_neg (by rw [q]; decide)]
          have hFi := hF i z
          have hin : vp_in (nI i) 1000 := vp_in_nI (by omega) (by decide)
          obtain ⟨u1, u2⟩ := hY0.2 i z
          obtain ⟨l1, l2, l3⟩ := hOK i z
          refine pk_le 10 c (fun z2 => ?_) (fun z2 => ?_) rfl rfl
          · have e10 : c = 10 := by omega
            rw [if_pos e10] at hFi
            refine pk_le i 0 (fun z3 => ?_) (fun z3 => ?_) rfl rfl
            · intro x hx y hy
              subst hx hy
              exact no (by rw [hFi]; simp; omega)
            · rw [show (1 : Int32) = nI 1 from rfl, pk_sub (by omega)]
              refine ⟨hin, vp_in_nI (by omega) (by decide), ?_⟩
              rw [nI_clamp (by omega), nI_clamp (by omega), u1]
              obtain ⟨u3, -⟩ := hY0.2 (i - 1) (by omega)
              have l4 := (hOK (i - 1) (by omega)).1
              refine pk_eq (lm i) (lm (i - 1)) (fun z4 => ?_) (fun z4 => ?_) rfl u3
              · intro x hx y hy
                subst hx hy
                exact no (by rw [hFi]; simp; omega)
              · intro x hx y hy
                subst hx hy
                exact yes (by rw [hFi]; simp; omega)
          · rw [if_neg (by omega)] at hFi
            refine ⟨hin, ?_⟩
            rw [nI_clamp (by omega), u2, show (7 : Int32) = nI 7 from rfl, pk_sub (by omega)]
            refine pk_en (lc i) (c - 7) (fun z4 => ?_) (fun z4 => ?_) rfl rfl
            · intro x hx y hy
              subst hx hy
              exact no (by rw [hFi]; simp; omega)
            · intro x hx y hy
              subst hx hy
              exact yes (by rw [hFi]; simp; omega)
      rcases (by omega : c = 8 ∨ c = 9 ∨ c = 10) with rfl | rfl | rfl
      · exact step _ (fun k _ => rfl) (hQ _ _ _ ⟨fun z => by omega, fun z => by omega, fun z z2 => by omega, fun z => by omega, fun z => by omega, fun z => by omega, fun _ => rfl, fun z => by omega, fun z => by omega⟩ k0)
      · exact step _ (fun k _ => rfl) (hQ _ _ _ ⟨fun z => by omega, fun z => by omega, fun z z2 => by omega, fun z => by omega, fun z => by omega, fun z => by omega, fun z => by omega, fun _ => rfl, fun z => by omega⟩ k0)
      · exact step _ (fun k _ => rfl) (hQ _ _ _ ⟨fun z => by omega, fun z => by omega, fun z z2 => by omega, fun z => by omega, fun z => by omega, fun z => by omega, fun z => by omega, fun z => by omega, fun _ => rfl⟩ k0)
  · subst c0
    exact hQ _ _ _ ⟨fun _ => hY0.1, fun z => by omega, fun z => by omega, fun z => by omega, fun z => by omega, fun z => by omega, fun z => by omega, fun z => by omega, fun z => by omega⟩ k0
theorem s_calls {σ : hSt} {n c L : Nat} {Ks : Nat → Nat} {μs : Nat → Nat → Nat} {lm lc : Nat → Nat} (hL : L ≤ 1000) (hOK : lOK Ks lm lc L) (hX : rLx σ n Ks μs L lm lc) (hc : c ≤ 2) {Q : Int32 → Prop} (hQ : Q (nI (nb (fun k => decide (lc k = c)) L))) : wp_X5_calls (nI c) σ Q := by
  obtain ⟨x1, x2, x3, x4, x5⟩ := hX
  unfold wp_X5_calls
  refine hL2_in (fun v2 v3 => ∃ i, i ≤ L ∧ v3 = nI i ∧ v2 = nI (nb (fun k => decide (lc k = c)) i)) (fun _ v3 => L - v3.toNatClampNeg) ?_ ⟨0, Nat.zero_le _, rfl, rfl⟩
  rintro P _ _ ⟨i, hi, rfl, rfl⟩ ih
  refine pk_le L i (fun z => ?_) (fun z => ?_) x2 rfl
  · have e : i = L := by omega
    subst e; exact hQ
  · obtain ⟨m1, -⟩ := x5 i z
    obtain ⟨l1, l2, l3⟩ := hOK i z
    unfold wp_X5_callOf
    refine s_cell (by decide) (show i < 1000 by omega) ?_
    rw [m1, show (3 : Int32) = nI 3 from rfl, pk_rem (by omega) (by decide) (by decide), (lcall l2).2]
    refine pk_en (lc i) c (fun z2 => ?_) (fun z2 => ?_) rfl rfl
    · refine oneIf_0 ?_
      intro x hx y hy
      rw [show (0 : Int32) = nI 0 from rfl, nI_add] at hx
      rw [nI_suc] at hy
      subst hx hy
      refine ih _ _ ⟨i + 1, by omega, rfl, ?_⟩ (by rw [nI_clamp (by omega), nI_clamp (by omega)]; omega)
      show _ = nI (nb _ i + (if decide (lc i = c) = true then 1 else 0))
      rw [if_neg (by simp; omega)]
    · refine oneIf_1 ?_
      intro x hx y hy
      rw [nI_suc] at hx hy
      subst hx hy
      refine ih _ _ ⟨i + 1, by omega, rfl, ?_⟩ (by rw [nI_clamp (by omega), nI_clamp (by omega)]; omega)
      show _ = nI (nb _ i + (if decide (lc i = c) = true then 1 else 0))
      rw [if_pos (by simp; omega)]
theorem s_methodChanges {σ : hSt} {n L : Nat} {Ks : Nat → Nat} {μs : Nat → Nat → Nat} {lm lc : Nat → Nat} (hL : L ≤ 1000) (hOK : lOK Ks lm lc L) (hX : rLx σ n Ks μs L lm lc) {Q : Int32 → Prop} (hQ : Q (nI (nb (fun k => decide (0 < k ∧ lm k ≠ lm (k - 1))) L))) : wp_X5_methodChanges σ Q := by
  obtain ⟨x1, x2, x3, x4, x5⟩ := hX
  unfold wp_X5_methodChanges
  have b0 : nb (fun k => decide (0 < k ∧ lm k ≠ lm (k - 1))) 1 = 0 := by simp [nb]
  refine hL2_in (fun v1 v2 => ∃ i, 1 ≤ i ∧ (i ≤ L ∨ i = 1) ∧ v2 = nI i ∧ v1 = nI (nb (fun k => decide (0 < k ∧ lm k ≠ lm (k - 1))) i)) (fun _ v2 => L - v2.toNatClampNeg) ?_ ⟨1, Nat.le_refl _, Or.inr rfl, rfl, by rw [b0]; rfl⟩
  rintro P _ _ ⟨i, hi1, hi, rfl, rfl⟩ ih
  refine pk_le L i (fun z => ?_) (fun z => ?_) x2 rfl
  · rcases (by omega : i = L ∨ (i = 1 ∧ L = 0)) with e | ⟨e1, e2⟩
    · subst e; exact hQ
    · subst e1 e2; rw [b0]; exact hQ
  · obtain ⟨m1, -⟩ := x5 i z
    obtain ⟨m2, -⟩ := x5 (i - 1) (by omega)
    obtain ⟨l1, l2, l3⟩ := hOK i z
    obtain ⟨l4, l5, l6⟩ := hOK (i - 1) (by omega)
    unfold wp_X5_letterOf
    refine s_cell (by decide) (show i < 1000 by omega) ?_
    rw [m1, show (1 : Int32) = nI 1 from rfl, pk_sub hi1]
    refine s_cell (by decide) (show i - 1 < 1000 by omega) ?_
    rw [m2, show (3 : Int32) = nI 3 from rfl, pk_div (by omega) (by decide) (by decide), (lcall l2).1, pk_div (by omega) (by decide) (by decide), (lcall l5).1]
    refine pk_eq (lm i) (lm (i - 1)) (fun z2 => ?_) (fun z2 => ?_) rfl rfl
    · refine oneIf_0 ?_
      intro x hx y hy
      rw [show (0 : Int32) = nI 0 from rfl, nI_add] at hx
      rw [nI_add] at hy
      subst hx hy
      refine ih _ _ ⟨i + 1, by omega, Or.inl (by omega), rfl, ?_⟩ (by rw [nI_clamp (by omega), nI_clamp (by omega)]; omega)
      show _ = nI (nb _ i + (if decide (0 < i ∧ lm i ≠ lm (i - 1)) = true then 1 else 0))
      rw [if_neg (by simp; omega)]
    · refine oneIf_1 ?_
      intro x hx y hy
      rw [nI_suc] at hx
      rw [nI_add] at hy
      subst hx hy
      refine ih _ _ ⟨i + 1, by omega, Or.inl (by omega), rfl, ?_⟩ (by rw [nI_clamp (by omega), nI_clamp (by omega)]; omega)
      show _ = nI (nb _ i + (if decide (0 < i ∧ lm i ≠ lm (i - 1)) = true then 1 else 0))
      rw [if_pos (by simp; omega)]

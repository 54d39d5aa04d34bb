def kpE (τ τ' : hSt) : Prop := (∀ k, k ≠ 0 → k ≠ 3 → k ≠ 4 → k ≠ 14 → k ≠ 19 → k ≠ 20 → k ≠ 21 → τ' k = τ k) ∧ ∀ j, j ≠ 37 → j ≠ 6 → τ' 0 j = τ 0 j
/-- what is asked of the end -/
def pst (τ : hSt) (m N looks : Nat) (Q : Int32 → hSt → Prop) (R : Nat × Nat × (Nat → Nat)) : Prop :=
  (R.1 ≠ 0 → ∀ τ', kpZ τ τ' → τ' 0 37 = nI (looks - R.2.1) → Q (nI R.1) τ') ∧ (R.1 = 0 → ∀ τ', kpE τ τ' → τ' 0 37 = nI (looks - R.2.1) → τ' 0 6 = nI N → (∀ k, k < N → τ' 3 k = nI m ∧ τ' 4 k = nI (R.2.2 k)) → Q 0 τ')
theorem t_fin {τ τ1 : hSt} {m N looks r : Nat} {c : Nat → Nat} {Q : Int32 → hSt → Prop} (hN : N ≤ 200) (hc : cOK c N) (hk : kpZ τ τ1) (h37 : τ1 0 37 = nI (looks - r)) (hnx : ∀ k, k < N → τ1 20 k = nI (c k + 1)) (hp : pst τ m N looks Q (0, r, c)) : hL2 (fun P354 (v7_45 : Int32) (σ46 : hSt) => ((nI N ≤ v7_45 → (Q (0 : Int32) σ46)) ∧ (¬ nI N ≤ v7_45 → (vp_in v7_45 1000 ∧ (vp_in v7_45 201 ∧ (vp_in v7_45 1000 ∧ (∀ x7_51 : Int32, x7_51 = v7_45 + (1 : Int32) → (P354 x7_51 (hup (hup σ46 3 (v7_45).toNatClampNeg (nI m)) 4 (v7_45).toNatClampNeg (((hup σ46 3 (v7_45).toNatClampNeg (nI m)) 20 (v7_45).toNatClampNeg) - (1 : Int32))))))))))) (0 : Int32) (hup τ1 0 6 (nI N)) := by
  refine hL2_in (fun v7 τ2 => ∃ i, i ≤ N ∧ v7 = nI i ∧ (∀ k, k ≠ 3 → k ≠ 4 → τ2 k = (hup τ1 0 6 (nI N)) k) ∧ ∀ k, k < i → τ2 3 k = nI m ∧ τ2 4 k = nI (c k)) (fun v7 _ => N - v7.toNatClampNeg) ?_ ⟨0, Nat.zero_le _, rfl, fun _ _ _ => rfl, fun k hk => absurd hk (Nat.not_lt_zero k)⟩
  rintro P _ τ2 ⟨i, hi, rfl, o2, g2⟩ ih
  refine pk_le N i (fun z => ?_) (fun z => ?_) rfl rfl
  · have e : i = N := by omega
    subst e
    refine hp.2 rfl τ2 ⟨fun k a b c d e f g => ?_, fun j a b => ?_⟩ ?_ ?_ g2
    · rw [o2 k b c, hup_n _ _ _ a]; exact hk.1 k a d e f g
    · rw [o2 0 (by decide) (by decide), hup_at, if_neg b]; exact hk.2 j a
    · rw [o2 0 (by decide) (by decide), hup_at, if_neg (by decide)]; exact h37
    · rw [o2 0 (by decide) (by decide), hup_at, if_pos rfl]
  · refine ⟨vp_in_nI (by omega) (by decide), vp_in_nI (by omega) (by decide), vp_in_nI (by omega) (by decide), ?_⟩
    intro x hx
    rw [nI_suc] at hx
    subst hx
    have hci := hc i z
    have e20 : (hup τ2 3 i (nI m)) 20 i = nI (c i + 1) := by rw [hup_ne _ _ (by decide), o2 20 (by decide) (by decide), hup_ne _ _ (by decide)]; exact hnx i z
    rw [nI_clamp (by omega), e20, show (1 : Int32) = nI 1 from rfl, pk_sub (by omega), show c i + 1 - 1 = c i by omega]
    refine ih _ _ ⟨i + 1, by omega, rfl, fun k a b => by rw [hup_n _ _ _ b, hup_n _ _ _ a]; exact o2 k a b, fun k hk => ?_⟩ (by rw [nI_clamp (by omega), nI_clamp (by omega)]; omega)
    by_cases e : k = i
    · subst e
      exact ⟨by rw [hup_ne _ _ (by decide), hup_at, if_pos rfl], by rw [hup_at, if_pos rfl]⟩
    · obtain ⟨a, b⟩ := g2 k (by omega)
      exact ⟨by rw [hup_ne _ _ (by decide), hup_at, if_neg e]; exact a, by rw [hup_at, if_neg e, hup_ne _ _ (by decide)]; exact b⟩
theorem t_find {τ σ : hSt} {w : Nat → Int64} {n m N looks : Nat} {Ks : Nat → Nat} {μs : Nat → Nat → Nat} (hn : n ≤ 8) (h0 : τ 0 1 = nI n) (hMs : rMs σ τ n Ks μs) (hm : m < 6) (hK : 0 < Ks m) (hN1 : 1 ≤ N) (hN : N ≤ 200) (hl1 : 1 ≤ looks) (hl : looks ≤ 3000) {Q : Int32 → hSt → Prop}
    (hQ : pst (hup (hup τ 0 0 0) 0 0 0) m N looks Q (srch n (Ks m) (μs m) N looks 0 (fun _ => 0))) : wp_X12_find (nI m) (nI N) (nI looks) τ w Q := by
  obtain ⟨hv, -, hM⟩ := hMs m hm
  have h64 := hv.1
  generalize hKK : Ks m = K at hK hv hM hQ h64
  generalize hμμ : μs m = μ at hv hM hQ
  unfold wp_X12_find
  dsimp only [hM_]
  refine br_f (nI_nlt (b := 1) (by omega) (by omega)) (br_f (nI_nlt (a := 200) (by omega) (by decide)) (br_f (nI_nlt (b := 1) (by omega) (by omega)) (br_t (nI_le (b := 3000) (by omega) (by decide)) ?_)))
  refine t_tI0 (br_x rfl ?_)
  refine t_isTold (σ := σ) (fun m' hm' => ⟨(hMs m' hm').1, (hMs m' hm').2.1, (hMs m' hm').2.2.mv (hup_n _ _ _ (by decide)) (hup_n _ _ _ (by decide))⟩) (fun m' hm' e' hK' => ?_) (fun hno => absurd ⟨m, hm, rfl, by rw [hKK]; exact hK⟩ hno)
  refine br_y (by decide) (t_tI0 (br_t rfl ?_))
  have b0 : (hup (hup τ 0 0 0) 0 0 0) 0 1 = nI n := by rw [hup_at, if_neg (by decide), hup_at, if_neg (by decide)]; exact h0
  have bM : rM (hup (hup τ 0 0 0) 0 0 0) m K μ := hM.mv (by rw [hup_n _ _ _ (by decide), hup_n _ _ _ (by decide)]) (by rw [hup_n _ _ _ (by decide), hup_n _ _ _ (by decide)])
  generalize hup (hup τ 0 0 0) 0 0 0 = τb at hQ b0 bM
  -- the rung rows are emptied
  refine hL2_in (fun v4 τ2 => ∃ i, i ≤ 40320 ∧ v4 = nI i ∧ oth 21 τb τ2 ∧ ∀ ρ, ρ < i → τ2 21 ρ = 0) (fun v4 _ => 40320 - v4.toNatClampNeg) ?_ ⟨0, Nat.zero_le _, rfl, oth.rf, fun ρ h => absurd h (Nat.not_lt_zero ρ)⟩
  rintro P0 _ τ2 ⟨i0, hi0, rfl, o2, f2⟩ ih0
  refine pk_le 40320 i0 (fun z0 => ?_) (fun z0 => ?_) rfl rfl
  rotate_left
  · refine ⟨vp_in_nI z0 (by decide), ?_⟩
    intro x hx
    rw [nI_suc] at hx
    subst hx
    rw [nI_clamp (by omega), show vp_nar .boolean (0 : Int32) = 0 from rfl]
    refine ih0 _ _ ⟨i0 + 1, by omega, rfl, o2.up, fun ρ hρ => ?_⟩ (by rw [nI_clamp (by omega), nI_clamp (by omega)]; omega)
    rw [hup_at]
    by_cases e : ρ = i0
    · rw [if_pos e]
    · rw [if_neg e]; exact f2 ρ (by omega)
  have e40 : i0 = 40320 := by omega
  subst e40
  have k2 : kpZ τb (hup τ2 0 37 0) := (kpZ.tr ⟨fun k _ _ _ _ p => o2 k p, fun j _ => by rw [o2 0 (by decide)]⟩ kpZ.h37)
  refine t_rounds hn (by decide) (by rw [k2.2 1 (by decide)]; exact b0) (fun τ3 o3 r3 => ?_)
  -- the first head
  refine hL2_in (fun v4 τ4 => ∃ i, i ≤ n ∧ v4 = nI i ∧ oth 19 τ3 τ4 ∧ ∀ l, l < i → τ4 19 l = nI (l + 1)) (fun v4 _ => n - v4.toNatClampNeg) ?_ ⟨0, Nat.zero_le _, rfl, oth.rf, fun l hl => absurd hl (Nat.not_lt_zero l)⟩
  rintro P1 _ τ4 ⟨i, hi, rfl, o4, g4⟩ ih1
  have e4 : τ4 0 1 = nI n := by rw [o4 0 (by decide), o3 0 (by decide), k2.2 1 (by decide)]; exact b0
  refine pk_le n i (fun z => ?_) (fun z => ?_) e4 rfl
  rotate_left
  · refine ⟨vp_in_nI (by omega) (by decide), vp_in_nI (by omega) (by decide), ?_⟩
    intro x hx
    rw [nI_suc] at hx
    subst hx
    rw [nI_clamp (by omega), o4 14 (by decide), r3 i z]
    refine ih1 _ _ ⟨i + 1, by omega, rfl, o4.up, fun l hl => ?_⟩ (by rw [nI_clamp (by omega), nI_clamp (by omega)]; omega)
    rw [hup_at]
    by_cases e : l = i
    · subst e; rw [if_pos rfl]
    · rw [if_neg e]; exact g4 l (by omega)
  have ei : i = n := by omega
  subst ei
  have k4 : kpZ τb τ4 := (k2.tr (kpZ.u (kpU.o14 o3))).tr ⟨fun k _ _ p _ _ => o4 k p, fun j _ => by rw [o4 0 (by decide)]⟩
  intro P hP
  have b0' : ∀ τ', kpZ τb τ' → τ' 0 1 = nI i := fun τ' h => by rw [h.2 1 (by decide)]; exact b0
  have bM' : ∀ τ', kpZ τb τ' → rM τ' m K μ := fun τ' h => bM.mv (h.1 1 (by decide) (by decide) (by decide) (by decide) (by decide)) (h.1 2 (by decide) (by decide) (by decide) (by decide) (by decide))
  have hinm : vp_in (nI m) 6 := vp_in_nI hm (by decide)
  have cm : (nI m).toNatClampNeg = m := nI_clamp (by omega)
  -- a lead whose calls are all tried
  have pop : ∀ (d : Nat) (c : Nat → Nat) (τ' : hSt) (v5 : Int32), d < N → cOK c d → kpZ τb τ' → wayS τ' i K μ c d → τ' 20 d = nI 3 → (∀ j, j < K → inR (Gk i K μ c) (d * K + j) (Gk i K μ c (d * K + j)) = false) → rgS τ' i K μ c (d * K + K) → (∀ τ'', kpU τ' τ'' → rgS τ'' i K μ c (d * K) → ∀ x : Int32, x = nI d - 1 → P x v5 τ'') → fbody P Q (nI m) (nI N) w (nI d) v5 τ' := fun d c τ' v5 hd hc k' hw h3 hnew hr hk => by
    unfold fbody
    have hind : vp_in (nI d) 201 := vp_in_nI (by omega) (by decide)
    rw [show (nI d).toNatClampNeg = d from nI_clamp (by omega), h3]
    refine ⟨hind, ⟨fun q => absurd rfl q, fun _ => ⟨hinm, ?_⟩⟩⟩
    rw [cm, (bM' τ' k').1]
    refine t_putDown hn hm hv hK (b0' τ' k') (bM' τ' k') hc (by omega) hw (Nat.le_refl K) hnew hr (fun τ'' ku hr' => ?_)
    intro x hx
    exact hk τ'' ku hr' x (by rw [hx, Int32.sub_eq_add_neg])
  have main : ∀ (M d : Nat) (c : Nat → Nat) (τ' : hSt), M ≤ looks → d < N → cOK c d → dst i K μ c d → kpZ τb τ' → τ' 0 37 = nI (looks - M) → (∀ k, k ≤ d → wayS τ' i K μ c k) → (∀ k, k < d → τ' 20 k = nI (c k + 1)) → rgS τ' i K μ c (d * K) → pst τb m N looks Q (srch i K μ N M d c) → P (nI d) 1 τ' := fun M => by
    induction M with
    | zero =>
      intro d c τ' hM0 hd hc hdst k' h37 hw hnx hr hp
      refine hP _ _ _ (br_f (nI_pos (by omega)) ?_)
      (try dsimp only [hM_])
      refine br_f (by decide) (br_x h37 ?_)
      exact hp.1 (by show ¬ (2 : Nat) = 0; decide) τ' k' h37
    | succ M ih =>
      intro d c τ' hM0 hd hc hdst k' h37 hw hnx hr hp
      -- turning back
      have back : ∀ (d : Nat) (c : Nat → Nat) (τ' : hSt), d < N → cOK c d → dst i K μ c d → kpZ τb τ' → τ' 0 37 = nI (looks - M) → (∀ k, k < d → wayS τ' i K μ c k) → (∀ k, k < d → τ' 20 k = nI (c k + 1)) → rgS τ' i K μ c (d * K) → (∀ c0, pst τb m N looks Q (aft (srch i K μ N M) M c0 (tb d c))) → ∀ x : Int32, x = nI d - 1 → P x 0 τ' := fun d => by
        induction d with
        | zero =>
          intro c τ' hd hc hdst k' h37 hw hnx hr hp x hx
          subst hx
          refine hP _ _ _ (br_t (by decide) ?_)
          exact (hp c).1 (by show ¬ (1 : Nat) = 0; decide) τ' k' h37
        | succ d ihd =>
          intro c τ' hd hc hdst k' h37 hw hnx hr hp x hx
          rw [show (1 : Int32) = nI 1 from rfl, pk_sub (by omega), show d + 1 - 1 = d by omega] at hx
          subst hx
          have hcd := hc d (by omega)
          have hcd' : cOK c d := fun k hk => hc k (by omega)
          have hsplit : (d + 1) * K = d * K + K := by rw [Nat.add_mul, Nat.one_mul]
          refine hP _ _ _ (br_f (nI_pos (by omega)) ?_)
          (try dsimp only [hM_])
          refine br_t rfl ?_
          have htb : tb (d + 1) c = if c d < 2 then some (d + 1, upN c d (c d + 1)) else tb d c := rfl
          by_cases z : c d < 2
          · rw [if_pos z] at htb
            refine t_try (a := c d + 1) (c := c) hn hm hv hK (b0' τ' k') (bM' τ' k') hcd' (by omega) hN (by omega) (fun k hk => hw k (by omega)) (fun k hk => hnx k (by omega)) (hnx d (by omega)) (fun hdN τ2 k2 l2 g2 w2 n2 => ?_) (fun h => by omega) (fun h => by omega)
            have hp' := hp c
            rw [htb] at hp'
            refine ih (d + 1) (upN c d (c d + 1)) τ2 (by omega) hdN (cOK_up hcd' (by omega)) (dst_sub hK hdst (Nat.le_refl _) (fun k hk => upN_lt (by omega))) (k'.tr k2) (by rw [l2]; exact h37) w2 n2 ?_ hp'
            have hr2 : rgS τ2 i K μ c (d * K + K) := by rw [← hsplit]; exact hr.mv g2
            exact rgS_up hK hr2
          · rw [if_neg z] at htb
            refine pop d c τ' 0 (by omega) hcd' k' (hw d (by omega)) (by rw [hnx d (by omega)]; congr 1; omega) (fun j hj => hdst _ (by rw [hsplit]; omega)) (by rw [← hsplit]; exact hr) (fun τ'' ku hr' x hx => ?_)
            refine ihd c τ'' (by omega) hcd' (fun t ht => hdst t (by rw [hsplit]; omega)) (k'.tr (kpZ.u ku)) (by rw [ku 0 (by decide) (by decide)]; exact h37) (fun k hk l hl => by rw [ku 19 (by decide) (by decide)]; exact hw k (by omega) l hl) (fun k hk => by rw [ku 20 (by decide) (by decide)]; exact hnx k (by omega)) hr' (fun c0 => by have := hp c0; rw [htb] at this; exact this) x hx
      refine hP _ _ _ (br_f (nI_pos (by omega)) ?_)
      (try dsimp only [hM_])
      refine br_f (by decide) ⟨fun _ => ⟨hinm, ?_⟩, fun q => ?_⟩
      rotate_left
      · rw [h37] at q
        have := (nI_eq (by omega) (by omega)).mp q
        omega
      have k1 : kpZ τb (hup τ' 0 37 (τ' 0 37 + 1)) := k'.tr kpZ.h37
      have l1 : (hup τ' 0 37 (τ' 0 37 + 1)) 0 37 = nI (looks - M) := by rw [hup_at, if_pos rfl, h37, nI_suc]; congr 1; omega
      have w1 : ∀ k, k ≤ d → wayS (hup τ' 0 37 (τ' 0 37 + 1)) i K μ c k := fun k hk l hl => by rw [hup_ne _ _ (by decide)]; exact hw k hk l hl
      have n1 : ∀ k, k < d → (hup τ' 0 37 (τ' 0 37 + 1)) 20 k = nI (c k + 1) := fun k hk => by rw [hup_ne _ _ (by decide)]; exact hnx k hk
      have r1 : rgS (hup τ' 0 37 (τ' 0 37 + 1)) i K μ c (d * K) := hr.mv (hup_n _ _ _ (by decide))
      generalize hup τ' 0 37 (τ' 0 37 + 1) = τ1 at k1 l1 w1 n1 r1
      have hind : vp_in (nI d) 201 := vp_in_nI (by omega) (by decide)
      rw [show τ1 1 (nI m).toNatClampNeg = nI K by rw [cm]; exact (bM' τ1 k1).1]
      refine t_putUp hn hm hv hK (b0' τ1 k1) (bM' τ1 k1) hc (by omega) (w1 d (Nat.le_refl d)) r1 (fun hg τ2 ku hr2 => ?_) (fun j τ2 hj hg ku hnew hr2 => ?_)
      · -- a lead that can be rung
        have k2 := k1.tr (kpZ.u ku)
        refine ⟨hinm, ?_⟩
        refine br_t (by rw [cm, (bM' τ2 k2).1]; exact nI_le (Nat.le_refl K) (by omega)) ⟨hind, ?_⟩
        rw [show hup τ2 20 (nI d).toNatClampNeg 0 = hup τ2 20 d 0 by rw [nI_clamp (by omega)]]
        have k3 : kpZ τb (hup τ2 20 d 0) := k2.tr (kpZ.hk (Or.inr (Or.inr (Or.inl rfl))))
        have w3 : ∀ k, k ≤ d → wayS (hup τ2 20 d 0) i K μ c k := fun k hk l hl => by rw [hup_ne _ _ (by decide), ku 19 (by decide) (by decide)]; exact w1 k hk l hl
        have n3 : ∀ k, k < d → (hup τ2 20 d 0) 20 k = nI (c k + 1) := fun k hk => by rw [hup_at, if_neg (by omega), ku 20 (by decide) (by decide)]; exact n1 k hk
        have l3 : (hup τ2 20 d 0) 0 37 = nI (looks - M) := by rw [hup_ne _ _ (by decide), ku 0 (by decide) (by decide)]; exact l1
        have r3' : rgS (hup τ2 20 d 0) i K μ c (d * K + K) := hr2.mv (hup_n _ _ _ (by decide))
        have e3 : (hup τ2 20 d 0) 20 d = nI 0 := by rw [hup_at, if_pos rfl]; rfl
        generalize hup τ2 20 d 0 = τ3 at k3 w3 n3 l3 r3' e3
        -- the calls one by one
        have tries : ∀ (t a : Nat) (τ5 : hSt), a + t = 3 → d + 1 = N → kpZ τb τ5 → τ5 0 37 = nI (looks - M) → (∀ k, k ≤ d → wayS τ5 i K μ c k) → (∀ k, k < d → τ5 20 k = nI (c k + 1)) → τ5 20 d = nI a → rgS τ5 i K μ c (d * K + K) → (∀ b, b < a → homeB i K μ c d b = false) → fbody P Q (nI m) (nI N) w (nI d) 0 τ5 := fun t => by
          induction t with
          | zero =>
            intro a τ5 hat hdN k5 l5 w5 n5 e5 r5 hb
            have ea : a = 3 := by omega
            subst ea
            refine pop d c τ5 0 hd hc k5 (w5 d (Nat.le_refl d)) e5 (goodB_iff.mp hg) r5 (fun τ6 ku6 hr6 x hx => ?_)
            refine back d (upN c d 2) τ6 hd (fun k hk => by rw [upN_lt hk]; exact hc k hk) ?_ (k5.tr (kpZ.u ku6)) (by rw [ku6 0 (by decide) (by decide)]; exact l5) (fun k hk l hl => ?_) (fun k hk => ?_) (fun ρ hρ => ?_) (fun c0 => ?_) x hx
            · intro t ht
              have g : ∀ u, u ≤ t → Gk i K μ (upN c d 2) u = Gk i K μ c u := fun u hu => Gk_congr (d := d) hK (fun k hk => upN_lt hk) (by rw [Nat.add_mul, Nat.one_mul]; omega)
              rw [g t (Nat.le_refl t), inR_congr (q := Gk i K μ c) (fun j hj => g j (by omega))]
              exact hdst t ht
            · rw [ku6 19 (by decide) (by decide), w5 k (by omega) l hl, hh_congr (e := upN c d 2) (fun q hq => (upN_lt (by omega)).symm)]
            · rw [ku6 20 (by decide) (by decide), n5 k hk, upN_lt hk]
            · rw [hr6 ρ hρ, inR_congr (q := Gk i K μ (upN c d 2)) (fun j hj => Gk_congr (d := d) hK (fun k hk => (upN_lt hk).symm) (by rw [Nat.add_mul, Nat.one_mul]; omega))]
            · have hs := srch_away (N := N) (m := M) hg (by omega) (fun a ha => hb a (by omega))
              rw [hs, tb_two'] at hp
              cases ht : tb d (upN c d 2) with
              | none => rw [ht] at hp; exact ⟨fun h => hp.1 h, fun h => absurd h (by show ¬ (1 : Nat) = 0; decide)⟩
              | some q => rw [ht] at hp; exact hp
          | succ t iht =>
            intro a τ5 hat hdN k5 l5 w5 n5 e5 r5 hb
            refine t_try (a := a) (c := c) hn hm hv hK (b0' τ5 k5) (bM' τ5 k5) hc hd hN (by omega) w5 n5 e5 (fun h => by omega) (fun _ hh1 τ6 k6 l6 n6 => ?_) (fun _ hh0 τ6 k6 l6 g6 w6 n6 e6 => ?_)
            · have hs := srch_home (N := N) (m := M) hg (by omega) (by omega) hh1 hb
              rw [hs] at hp
              exact t_fin hN (fun k hk => cOK_up (d := d) hc (show a ≤ 2 by omega) k (by omega)) (k5.tr k6) (by rw [l6]; exact l5) (fun k hk => n6 k (by omega)) hp
            · refine hP _ _ _ (br_f (nI_pos (by omega)) ?_)
              (try dsimp only [hM_])
              refine br_t rfl ?_
              exact iht (a + 1) τ6 (by omega) hdN (k5.tr k6) (by rw [l6]; exact l5) w6 n6 e6 (r5.mv g6) (fun b hb2 => by
                by_cases e : b = a
                · subst e; exact hh0
                · exact hb b (by omega))
        by_cases hdN : d + 1 = N
        · exact tries 3 0 τ3 rfl hdN k3 l3 w3 n3 e3 r3' (fun b hb => absurd hb (Nat.not_lt_zero b))
        · refine t_try (a := 0) (c := c) hn hm hv hK (b0' τ3 k3) (bM' τ3 k3) hc hd hN (by decide) w3 n3 e3 (fun hdN2 τ6 k6 l6 g6 w6 n6 => ?_) (fun h => absurd h hdN) (fun h => absurd h hdN)
          have hs := srch_on (N := N) (m := M) hg hdN2
          rw [hs] at hp
          exact ih (d + 1) (upN c d 0) τ6 (by omega) hdN2 (cOK_up hc (by decide)) (dst_suc hK hdst hg) (k3.tr k6) (by rw [l6]; exact l3) w6 n6 (rgS_up hK (r3'.mv g6)) hp
      · -- a lead with a row that has come
        have k2 := k1.tr (kpZ.u ku)
        refine ⟨hinm, ?_⟩
        refine br_f (by rw [cm, (bM' τ2 k2).1]; exact nI_ge hj (by omega)) ?_
        refine t_putDown hn hm hv hK (b0' τ2 k2) (bM' τ2 k2) hc (by omega) (fun l hl => by rw [ku 19 (by decide) (by decide)]; exact w1 d (Nat.le_refl d) l hl) (by omega) hnew hr2 (fun τ6 ku6 hr6 => ?_)
        intro x hx
        have kk : kpU τ1 τ6 := ku.tr ku6
        refine back d c τ6 hd hc hdst (k2.tr (kpZ.u ku6)) (by rw [kk 0 (by decide) (by decide)]; exact l1) (fun k hk l hl => by rw [kk 19 (by decide) (by decide)]; exact w1 k (by omega) l hl) (fun k hk => by rw [kk 20 (by decide) (by decide)]; exact n1 k hk) hr6 (fun c0 => ?_) x (by rw [hx, Int32.sub_eq_add_neg])
        rw [srch_bad hg] at hp
        cases ht : tb d c with
        | none => rw [ht] at hp; exact ⟨fun h => hp.1 h, fun h => absurd h (by show ¬ (1 : Nat) = 0; decide)⟩
        | some q => rw [ht] at hp; exact hp
  refine main looks 0 (fun _ => 0) τ4 (Nat.le_refl _) (by omega) (fun k hk => absurd hk (Nat.not_lt_zero k)) (fun t ht => by rw [Nat.zero_mul] at ht; exact absurd ht (Nat.not_lt_zero t)) k4 ?_ (fun k hk l hl => ?_) (fun k hk => absurd hk (Nat.not_lt_zero k)) (fun ρ hρ => ?_) hQ
  · rw [o4 0 (by decide), o3 0 (by decide), hup_at, if_pos rfl, Nat.sub_self]; rfl
  · have ek : k = 0 := by omega
    subst ek
    rw [Nat.mul_zero, Nat.zero_add]
    exact g4 l hl
  · rw [Nat.zero_mul, o4 21 (by decide), o3 21 (by decide), hup_ne _ _ (by decide), f2 ρ hρ]
    exact ⟨fun h => absurd rfl h, fun h => (by cases h)⟩

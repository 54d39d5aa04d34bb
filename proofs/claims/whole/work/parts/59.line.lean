/-! line, stage, called. -/
/-- row i of the plain course -/
def LR (n K : Nat) (μ : Nat → Nat) (i : Nat) : Nat → Nat := fun x => itr (hdn n K μ 0) (i / K) (rwn n μ (i % K) x)
theorem LR_suc {n K : Nat} {μ : Nat → Nat} (hK : 0 < K) (i : Nat) : LR n K μ (i + 1) = fun x => LR n K μ i (b_pm n (μ (i % K)) x) := by
  have hm : i % K < K := Nat.mod_lt _ hK
  have hd : K * (i / K) + i % K = i := Nat.div_add_mod i K
  by_cases e : i % K + 1 < K
  · have e1 : (i + 1) / K = i / K := by
      rw [show i + 1 = K * (i / K) + (i % K + 1) by omega, Nat.mul_add_div hK, Nat.div_eq_of_lt e]; omega
    have e2 : (i + 1) % K = i % K + 1 := by
      rw [show i + 1 = K * (i / K) + (i % K + 1) by omega, Nat.mul_add_mod, Nat.mod_eq_of_lt e]
    unfold LR; rw [e1, e2]; rfl
  · have e0 : i % K = K - 1 := by omega
    have e1 : (i + 1) / K = i / K + 1 := by
      rw [show i + 1 = K * (i / K + 1) by rw [Nat.mul_add]; omega, Nat.mul_div_cancel_left _ hK]
    have e2 : (i + 1) % K = 0 := by
      rw [show i + 1 = K * (i / K + 1) by rw [Nat.mul_add]; omega, Nat.mul_mod_right]
    unfold LR; rw [e1, e2, e0]; rfl
theorem LR_PR {n K : Nat} {μ : Nat → Nat} (hv : vM n K μ) (hK : 0 < K) (i : Nat) : PR n (LR n K μ i) := (itr_PR (hdn_PR hv hK (by decide)) _).comp (rwn_PR hv (Nat.le_of_lt (Nat.mod_lt _ hK)))
theorem c_line {B : Nat} {σ τ : hSt} {w f : Nat → Int64} {a1 a2 a3 : Int32} (h : RI B σ τ) : wp_L_line a1 a2 a3 σ f (fun k σ1 f1 => wp_X12_line a1 a2 a3 τ w (fun b τ1 => wp_X12_thrown τ1 w (fun t => lawT k b t (f1 0) (RI B σ1 τ1)))) := by
  have h0 := h
  obtain ⟨n, Ks, μs, L, lm, lc, tz, hn4, hn, ⟨z1, z2, z3, z4, z5⟩, hT, hM, -⟩ := h0
  have thr : ∀ (f1 : Nat → Int64), (¬ tld Ks a1 ∨ a2 < 1 ∨ nI n < a2 ∨ ¬ 0 ≤ a3) → wp_X12_line a1 a2 a3 τ w (fun b τ1 => wp_X12_thrown τ1 w (fun t => lawT 1 b t (f1 0) (RI B σ τ1))) := fun f1 hc => by
    unfold wp_X12_line
    generalize hZ : (fun (r5 : Int32) (σ4 : hSt) => ((r5 = 0 → (wp_X12_courseOf a1 σ4 w (fun r8 σ7 => (vp_in a1 6 ∧ (¬ (r8 * (σ7 1 (a1).toNatClampNeg)) = 0 ∧ (∀ x4_11 : Int32, x4_11 = (a3 - a3 / (r8 * (σ7 1 (a1).toNatClampNeg)) * (r8 * (σ7 1 (a1).toNatClampNeg))) → (wp_X12_rounds 14 σ7 w (fun σ12 => (hL2 (fun P67 (v5_13 : Int32) (σ14 : hSt) => ((x4_11 ≤ v5_13 → (hL1 (fun P110 (v5_16 : Int32) => (((σ14 0 1) ≤ v5_16 → (wp_X12_thrown σ14 w (fun t => lawT 1 (-1 : Int32) t (f1 0) (RI B σ σ14)))) ∧ (¬ (σ14 0 1) ≤ v5_16 → (vp_in v5_16 8 ∧ ((¬ (σ14 14 (v5_16).toNatClampNeg) = a2 → (∀ x5_20 : Int32, x5_20 = v5_16 + (1 : Int32) → (P110 x5_20))) ∧ ((σ14 14 (v5_16).toNatClampNeg) = a2 → (wp_X12_thrown σ14 w (fun t => lawT 1 (v5_16 + (1 : Int32)) t (f1 0) (RI B σ σ14))))))))) (0 : Int32))) ∧ (¬ x4_11 ≤ v5_13 → (vp_in a1 6 ∧ (¬ (σ14 1 (a1).toNatClampNeg) = 0 ∧ (vp_in (((66 : Int32) * a1) + (v5_13 - v5_13 / (σ14 1 (a1).toNatClampNeg) * (σ14 1 (a1).toNatClampNeg))) 396 ∧ (wp_X12_ring 14 (σ14 2 ((((66 : Int32) * a1) + (v5_13 - v5_13 / (σ14 1 (a1).toNatClampNeg) * (σ14 1 (a1).toNatClampNeg)))).toNatClampNeg) σ14 w (fun σ24 => (∀ x5_25 : Int32, x5_25 = v5_13 + (1 : Int32) → (P67 x5_25 σ24)))))))))) (0 : Int32) σ12))))))))) ∧ (¬ r5 = 0 → (wp_X12_thrown σ4 w (fun t => lawT 1 0 t (f1 0) (RI B σ σ4)))))) = Z
    have go : wp_X12_throwsIf 1 1 τ w Z := by
      rw [← hZ]
      refine t_tI1 (br_f (by decide) ?_)
      unfold wp_X12_thrown
      exact lawT_thr (by decide) (by rw [hup_at, if_pos rfl]) h.th
    refine t_isTold hM (fun m hm e hK => ?_) (fun hno => ?_)
    · dsimp only [hM_]
      rw [z2]
      refine br_f (by decide) ⟨fun _ => go, fun h1 => ⟨fun _ => go, fun h2 => ⟨fun h3 => ?_, fun _ => go⟩⟩⟩
      rcases hc with hc | hc | hc | hc
      · exact absurd ⟨m, hm, e, hK⟩ hc
      · exact absurd hc h1
      · exact absurd hc h2
      · exact absurd h3 hc
    · dsimp only [hM_]
      exact br_t rfl go
  unfold wp_L_line wp_X11_line
  refine s_toldM z5 hM (fun m hm e hK => ?_) (fun hno => ⟨rfl, thr f (Or.inl hno)⟩)
  subst e
  obtain ⟨hv, hc, hr⟩ := hM m hm
  have h64 := hv.1
  rw [z1]
  refine ⟨fun hb => ⟨rfl, thr f (Or.inr (Or.inl hb))⟩, fun hb1 => ⟨fun hb => ⟨rfl, thr f (Or.inr (Or.inr (Or.inl hb)))⟩, fun hb2 => ⟨fun hk0 => ?_, fun hk0 => ⟨rfl, thr f (Or.inr (Or.inr (Or.inr hk0)))⟩⟩⟩⟩
  have hneg2 : ¬ a2 < 0 := by
    rw [Int32.lt_iff_toInt_lt] at hb1 ⊢
    rw [show (1 : Int32).toInt = 1 by decide] at hb1
    rw [show (0 : Int32).toInt = 0 by decide]
    omega
  obtain ⟨b, hb31, rfl⟩ := nI_of hneg2
  have hneg3 : ¬ a3 < 0 := by
    rw [Int32.le_iff_toInt_le] at hk0
    rw [Int32.lt_iff_toInt_lt]; omega
  obtain ⟨k, hk31, rfl⟩ := nI_of hneg3
  have hb1' : 1 ≤ b := by
    rcases Nat.lt_or_ge b 1 with q | q
    · exact absurd (nI_lt (a := b) (b := 1) q (by decide)) hb1
    · exact q
  have hbn : b ≤ n := by
    rcases Nat.lt_or_ge n b with q | q
    · exact absurd (nI_lt q hb31) hb2
    · exact q
  obtain ⟨t, ht⟩ := ord_ex hn (hdn_PR hv hK (c := 0) (by decide))
  have ht1 := ht.1
  have ht2 := ht.2.1
  have hp := hdn_PR hv hK (c := 0) (by decide)
  refine s_courseRow hn (by rcases i6l hm with rfl | rfl | rfl | rfl | rfl | rfl <;> rfl) hv hK hc ht hk31 ?_
  have htK : 0 < t * Ks m := Nat.mul_pos ht1 hK
  have htK2 : t * Ks m ≤ 840 * 64 := Nat.mul_le_mul ht2 h64
  have hq : k % (t * Ks m) < t * Ks m := Nat.mod_lt _ htK
  have e1 : k % (t * Ks m) / Ks m = k / Ks m % t := Nat.mod_mul_left_div_self _ _ _
  have e2 : k % (t * Ks m) % Ks m = k % Ks m := Nat.mod_mul_left_mod _ _ _
  have eLR : (fun i => itr (hdn n (Ks m) (μs m) 0) (k / Ks m % t) (rwn n (μs m) (k % Ks m) i)) = LR n (Ks m) (μs m) (k % (t * Ks m)) := by
    unfold LR; rw [e1, e2]
  rw [eLR]
  have hPR := LR_PR hv hK (k % (t * Ks m))
  obtain ⟨pl, hpl, hpe⟩ := perm_sur hPR.isP (j := b - 1) (by omega)
  rw [show (1 : Int32) = nI 1 from rfl, pk_sub hb1']
  refine s_placeOf hn hPR.isP hpl hpe ?_
  rw [nI_add]
  unfold wp_X12_line
  refine t_isTold hM (fun m' hm' e' hK' => ?_) (fun hno => absurd ⟨m, hm, rfl, hK⟩ hno)
  dsimp only [hM_]
  rw [z2]
  refine br_f (by decide) (br_f hb1 (br_f hb2 (br_t hk0 (t_tI0 (br_t rfl ?_)))))
  have y0 : (hup τ 0 0 0) 0 1 = nI n := by rw [hup_at, if_neg (by decide)]; exact z2
  have yM : rM (hup τ 0 0 0) m (Ks m) (μs m) := hr.mv (hup_n _ _ _ (by decide)) (hup_n _ _ _ (by decide))
  refine t_courseOf hn hm hK hv y0 yM ht (fun τ1 o1 => ?_)
  refine ⟨vp_in_nI hm (by decide), ?_⟩
  have x1 : τ1 1 m = nI (Ks m) := by rw [o1 1 (by decide)]; exact yM.1
  rw [nI_clamp (by omega), x1, pk_mul]
  refine ⟨nI_ne0 htK (by omega), ?_⟩
  intro x hx
  rw [pk_rem hk31 htK (by omega)] at hx
  subst hx
  have s1 : τ1 0 1 = nI n := by rw [o1 0 (by decide)]; exact y0
  refine t_rounds hn (by decide) s1 (fun τ2 o2 r2 => ?_)
  refine hL2_in (fun v5 τ3 => ∃ i, i ≤ k % (t * Ks m) ∧ v5 = nI i ∧ oth 14 (hup τ 0 0 0) τ3 ∧ aR τ3 14 n (LR n (Ks m) (μs m) i)) (fun v5 _ => k % (t * Ks m) - v5.toNatClampNeg) ?_ ⟨0, Nat.zero_le _, rfl, o1.tr o2, r2.congr (fun i _ => by unfold LR; rw [Nat.zero_div, Nat.zero_mod]; rfl)⟩
  rintro P _ τ3 ⟨i, hi, rfl, ho, hb⟩ ih
  have e0 : τ3 0 1 = nI n := by rw [ho 0 (by decide)]; exact y0
  have eM : rM τ3 m (Ks m) (μs m) := yM.mv (ho 1 (by decide)) (ho 2 (by decide))
  refine pk_le (k % (t * Ks m)) i (fun z => ?_) (fun z => ?_) rfl rfl
  · have ei : i = k % (t * Ks m) := by omega
    subst ei
    refine hL1_in (fun v => ∃ j, j ≤ pl ∧ v = nI j) (fun v => n - v.toNatClampNeg) ?_ ⟨0, Nat.zero_le _, rfl⟩
    rintro P2 _ ⟨j, hj, rfl⟩ ih2
    refine pk_le n j (fun z2 => by omega) (fun z2 => ?_) e0 rfl
    refine ⟨vp_in_nI (by omega) (by decide), ?_⟩
    have h8 := hPR.lt8 hn j z2
    rw [nI_clamp (by omega)]
    refine pk_en (LR n (Ks m) (μs m) (k % (t * Ks m)) j + 1) b (fun q => ?_) (fun q => ?_) (hb j z2) rfl
    · intro x hx
      rw [nI_suc] at hx
      subst hx
      refine ih2 _ ⟨j + 1, ?_, rfl⟩ (by rw [nI_clamp (by omega), nI_clamp (by omega)]; omega)
      have : j ≠ pl := fun e => q (by rw [e, hpe]; omega)
      omega
    · have ej : j = pl := hPR.2.1 _ _ (by rw [hpe]; omega)
      subst ej
      unfold wp_X12_thrown
      exact lawT_ret (by rw [ho 0 (by decide), hup_at, if_pos rfl]) (by rw [updL0, nI_suc, Nat.add_comm]) (h.th.y (ho.kp (by decide)))
  · refine ⟨vp_in_nI hm (by decide), ?_⟩
    rw [eM.1]
    refine ⟨nI_ne0 hK (by omega), ?_⟩
    rw [pk_rem (by omega) hK (by omega)]
    have hmi : i % Ks m < Ks m := Nat.mod_lt _ hK
    obtain ⟨-, g2, g3⟩ := ix66 hm (k := i % Ks m) (by omega)
    refine ⟨g2, ?_⟩
    rw [g3, eM.2 _ (Or.inl hmi) hK]
    have hx := hv.2 _ (Or.inl hmi)
    refine t_ring hn (by decide) hx.1 (by omega) e0 hb (fun τ' ho' ha' => ?_)
    intro x hx
    rw [nI_suc] at hx
    subst hx
    refine ih _ _ ⟨i + 1, by omega, rfl, ho.tr ho', ?_⟩ (by rw [nI_clamp (by omega), nI_clamp (by omega)]; omega)
    rw [LR_suc hK]; exact ha'

theorem t_unr {kd tm pt : Nat → Nat} {u : Nat} {w : Nat → Int64} {Q : hSt → Prop} {P : Int32 → Int32 → hSt → Prop} (hu : u ≤ 500) (hT : ∀ k, k < u → 1 ≤ tm k ∧ tm k ≤ 99) (hP : ∀ v1 v2 σ, ubody w Q P v1 v2 σ → P v1 v2 σ) : ∀ (f d a b : Nat) (x : XS) (τ : hSt), wb kd pt f d a b → b ≤ u → jS τ kd tm pt u → wOK kd tm pt w f a b → yX τ x → x.2.1 + cnt kd tm pt f a b ≤ 1000 →
    (∀ τ', kpI τ τ' → (∀ i, (i < a ∨ b ≤ i) → τ' 13 i = τ 13 i) → yX τ' (lds kd tm pt f a b x) → P (nI (lds kd tm pt f a b x).1) (nI b) τ') → P (nI x.1) (nI a) τ := by
  intro f
  induction f with
  | zero =>
    intro d a b x τ h _ _ _ hx _ hk
    have h' : a = b := h
    subst h'
    exact hk τ kpI.rf (fun _ _ => rfl) hx
  | succ f ih =>
    intro d a b x τ h hb hj hwo hx hfit hk
    rcases h with h | ⟨h1, h2, h3⟩ | ⟨h1, h2, h3, h4, h5, h6, h7, h8⟩
    · subst h
      rw [lds_nil] at hk
      exact hk τ kpI.rf (fun _ _ => rfl) hx
    · obtain ⟨n4, -, -⟩ := cl_n40 h2
      rw [cnt_un (by omega) n4] at hfit
      rw [lds_un (by omega) n4] at hk
      rw [wOK_un (by omega) n4] at hwo
      refine r_unit (by omega) hu (hT a (by omega)) hj h2 hx (by omega) hP (fun τ1 k1 o1 hx1 => ?_)
      have e1 : (xo kd tm a x).2.1 = x.2.1 + (if 97 ≤ kd a then tm a else 0) := by unfold xo; split <;> rfl
      refine ih d (a + 1) b _ τ1 h3 hb (hj.mv k1) hwo hx1 (by omega) (fun τ2 k2 o2 hx2 => ?_)
      exact hk τ2 (k1.tr k2) (fun i hi => by rw [o2 i (by omega), o1]) hx2
    · rw [cnt_gr (by omega) h1] at hfit
      rw [lds_gr (by omega) h1] at hk
      rw [wOK_gr (by omega) h1] at hwo
      obtain ⟨c, hc⟩ : ∃ c, cnt kd tm pt f (a + 1) (pt a) = c := ⟨_, rfl⟩
      rw [hc] at hfit hk hwo
      obtain ⟨w1, w2, w3⟩ := hwo
      obtain ⟨t1, t9⟩ := hT a (by omega)
      obtain ⟨j1, j2, j3⟩ := hj.2 a (by omega)
      have hg1 : ∀ y : XS, (lds kd tm pt f (a + 1) (pt a) y).2.1 = y.2.1 + c := fun y => by rw [lds_sz, hc]
      have hmul : pss c (tm a) * c = tm a * c := pss_mul
      have hps9 : pss c (tm a) ≤ 99 := by unfold pss; split <;> omega
      have esz : (rpt (lds kd tm pt f (a + 1) (pt a)) (pss c (tm a)) x).2.1 = x.2.1 + tm a * c := by rw [rpt_sz (c := c) hg1, pss_mul]
      have go : ∀ τ1, kpI τ τ1 → (∀ i, i ≠ a → τ1 13 i = τ 13 i) → τ1 13 a = nI (pss c (tm a)) → yX τ1 x → P (nI x.1) (nI (a + 1)) τ1 := fun τ1 k1 o1 e13 hx1 => by
        refine t_pass (g := lds kd tm pt f (a + 1) (pt a)) (a := a + 1) (j := pt a) (c := c) hu (by omega) h5 (by omega) (by omega) hg1 hP (fun y τ' hjy hy hfy hky => ?_) (pss c (tm a)) x τ1 (pss_pos t1) hps9 (hj.mv k1) hx1 (by rw [h6]; exact e13) (by rw [hmul]; omega) (fun τ2 k2 o2 hx2 => ?_)
        · exact ih (d + 1) (a + 1) (pt a) y τ' h7 (by omega) hjy w2 hy (by rw [hc]; exact hfy) hky
        · refine ih d (pt a + 1) b _ τ2 h8 hb ((hj.mv k1).mv k2) w3 hx2 (by rw [esz]; omega) (fun τ3 k3 o3 hx3 => ?_)
          exact hk τ3 ((k1.tr k2).tr k3) (fun i hi => by rw [o3 i (by omega), o2 i (by omega), o1 i (by omega)]) hx3
      refine hP _ _ _ ?_
      unfold ubody
      rw [hj.1]
      refine br_f (nI_ge (b := u) (by omega) (by omega)) ⟨vp_in_nI (by omega) (by decide), ?_⟩
      rw [nI_clamp (by omega)]
      intro x3 hx3
      rw [j1, h1] at hx3
      subst hx3
      refine ⟨fun y => absurd rfl y, fun _ => ⟨vp_in_nI (by omega) (by decide), ?_⟩⟩
      rw [w1]
      have fin : ∀ v, v = nI (pss c (tm a)) → ∀ x2 : Int32, x2 = nI a + (1 : Int32) → P (nI x.1) x2 (hup τ 13 a v) := fun v hv x2 hx2 => by
        rw [nI_suc] at hx2
        subst hx2 hv
        exact go _ ⟨fun k _ _ _ p => hup_n _ _ _ p, fun i _ => by rw [hup_ne _ _ (by decide)]⟩ (fun i hi => by rw [hup_at, if_neg hi]) (by rw [hup_at, if_pos rfl]) ⟨hx.1, by rw [hup_ne _ _ (by decide)]; exact hx.2.1, fun i hi => by rw [hup_ne _ _ (by decide), hup_ne _ _ (by decide)]; exact hx.2.2 i hi⟩
      refine lgc_0 (by omega) (fun q => ⟨vp_in_nI (by omega) (by decide), ?_⟩) (fun q => ⟨vp_in_nI (by omega) (by decide), vp_in_nI (by omega) (by decide), ?_⟩)
      · refine fin _ ?_
        have : c = 0 := by omega
        unfold pss; rw [if_pos this]; rfl
      · refine fin _ ?_
        have : c ≠ 0 := by omega
        unfold pss; rw [if_neg this, j2]
/-- the reference counts, then unrolls -/
theorem t_counted {kd tm pt : Nat → Nat} {u f : Nat} {w : Nat → Int64} {τ : hSt} {Q : Int64 → hSt → (Nat → Int64) → Prop} (hu : u ≤ 500) (hT : ∀ k, k < u → 1 ≤ tm k ∧ tm k ≤ 99) (hw : wb kd pt f 0 0 u) (hj : jS τ kd tm pt u) (hQ : ∀ w', wOK kd tm pt w' f 0 u → Q (lN (min 1001 (cnt kd tm pt f 0 u))) τ w') : wp_X12_counted τ w Q := by
  unfold wp_X12_counted
  intro P hP
  have hP' : ∀ v1 v3 v4 w5, cbody Q P v1 v3 v4 τ w5 → P v1 v3 v4 τ w5 := fun v1 v3 v4 w5 h => hP _ _ _ _ _ h
  refine t_cnt hu hT hj hP' f 0 0 u 0 _ w hw (Nat.le_refl u) (by omega) (fun w' v3' _ hok => ?_)
  refine hP' _ _ _ _ ?_
  unfold cbody
  rw [hj.1, Nat.zero_add]
  exact br_t (nI_le (Nat.le_refl u) (by omega)) (hQ w' hok)
theorem t_unroll {kd tm pt : Nat → Nat} {u f : Nat} {w : Nat → Int64} {τ : hSt} {Q : hSt → Prop} (hu : u ≤ 500) (hT : ∀ k, k < u → 1 ≤ tm k ∧ tm k ≤ 99) (hw : wb kd pt f 0 0 u) (hj : jS τ kd tm pt u) (hwo : wOK kd tm pt w f 0 u) (hc : cnt kd tm pt f 0 u ≤ 1000) (hQ : ∀ τ', kpI τ τ' → yX τ' (lds kd tm pt f 0 u (0, 0, fun _ => 0)) → Q τ') : wp_X12_unroll τ w Q := by
  unfold wp_X12_unroll
  intro P hP
  have hP' : ∀ v1 v2 σ, ubody w Q P v1 v2 σ → P v1 v2 σ := fun v1 v2 σ h => hP _ _ _ h
  have k0 : kpI τ (hup τ 0 6 (0 : Int32)) := ⟨fun k p _ _ _ => hup_n _ _ _ p, fun j p => by rw [hup_at, if_neg p]⟩
  refine t_unr hu hT hP' f 0 0 u (0, 0, fun _ => 0) _ hw (Nat.le_refl u) (hj.mv k0) hwo ⟨by show 0 < 6; decide, by rw [hup_at, if_pos rfl]; rfl, fun j hj2 => absurd hj2 (Nat.not_lt_zero j)⟩ (by show 0 + _ ≤ 1000; omega) (fun τ1 k1 _ hx1 => ?_)
  refine hP' _ _ _ ?_
  unfold ubody
  rw [((hj.mv k0).mv k1).1]
  exact br_t (nI_le (Nat.le_refl u) (by omega)) (hQ τ1 (k0.tr k1) hx1)

/-! The reference counts its items' leads and unrolls them. -/
def cbody (Q : Int64 → hSt → (Nat → Int64) → Prop) (P7 : Int64 → Int32 → Int32 → hSt → (Nat → Int64) → Prop) (v1_1 : Int64) (v3_2 v4_3 : Int32) (σ4 : hSt) (w5 : Nat → Int64) : Prop :=
  (((σ4 0 20) ≤ v4_3 → (Q v1_1 σ4 w5)) ∧ (¬ (σ4 0 20) ≤ v4_3 → (vp_in v4_3 500 ∧ (hM_ (fun (v1_8 : Int64) (v3_9 : Int32) (σ10 : hSt) (w11 : (Nat → Int64)) => (((lg_cmp v1_8 (1001 : Int64)) ≤ 0 → (∀ x4_13 : Int32, x4_13 = v4_3 + (1 : Int32) → (P7 v1_8 v3_9 x4_13 σ10 w11))) ∧ (¬ (lg_cmp v1_8 (1001 : Int64)) ≤ 0 → (∀ x4_14 : Int32, x4_14 = v4_3 + (1 : Int32) → (P7 (1001 : Int64) v3_9 x4_14 σ10 w11))))) (fun J123 : Int64 → Int32 → hSt → (Nat → Int64) → Prop => ((¬ (σ4 8 (v4_3).toNatClampNeg) = (40 : Int32) → (vp_in v4_3 500 ∧ ((¬ (σ4 8 (v4_3).toNatClampNeg) = (41 : Int32) → (vp_in v4_3 500 ∧ (((σ4 8 (v4_3).toNatClampNeg) < (97 : Int32) → (J123 v1_1 v3_2 σ4 w5)) ∧ (¬ (σ4 8 (v4_3).toNatClampNeg) < (97 : Int32) → (vp_in v4_3 500 ∧ (∀ y1_21 : Int64, y1_21 = (v1_1 + (((σ4 9 (v4_3).toNatClampNeg)).toInt64)) → (J123 y1_21 v3_2 σ4 w5))))))) ∧ ((σ4 8 (v4_3).toNatClampNeg) = (41 : Int32) → (vp_in v4_3 500 ∧ (∀ x5_23 : Int32, x5_23 = (σ4 10 (v4_3).toNatClampNeg) → (vp_in x5_23 500 ∧ (vp_in x5_23 500 ∧ (∀ y1_26 : Int64, y1_26 = ((w5 (x5_23).toNatClampNeg) + (v1_1 * (((σ4 9 (x5_23).toNatClampNeg)).toInt64))) → (vp_in x5_23 500 ∧ (J123 y1_26 v3_2 σ4 (vp_updL w5 (x5_23).toNatClampNeg v1_1)))))))))))) ∧ ((σ4 8 (v4_3).toNatClampNeg) = (40 : Int32) → (vp_in v4_3 500 ∧ (∀ x3_29 : Int32, x3_29 = v3_2 + (1 : Int32) → (J123 (0 : Int64) x3_29 σ4 (vp_updL w5 (v4_3).toNatClampNeg v1_1)))))))))))
def ubody (w : Nat → Int64) (Q : hSt → Prop) (P9 : Int32 → Int32 → hSt → Prop) (v1_1 v2_2 : Int32) (σ3 : hSt) : Prop :=
  (((σ3 0 20) ≤ v2_2 → (Q σ3)) ∧ (¬ (σ3 0 20) ≤ v2_2 → (vp_in v2_2 500 ∧ (∀ x3_6 : Int32, x3_6 = (σ3 8 (v2_2).toNatClampNeg) → ((¬ x3_6 = (40 : Int32) → ((¬ x3_6 = (41 : Int32) → ((x3_6 < (97 : Int32) → (∀ x1_10 : Int32, x1_10 = (x3_6 - (65 : Int32)) → (∀ x2_11 : Int32, x2_11 = v2_2 + (1 : Int32) → (P9 x1_10 x2_11 σ3)))) ∧ (¬ x3_6 < (97 : Int32) → (hL2 (fun P110 (v4_12 : Int32) (σ13 : hSt) => (vp_in v2_2 500 ∧ (((σ13 9 (v2_2).toNatClampNeg) ≤ v4_12 → (∀ x2_16 : Int32, x2_16 = v2_2 + (1 : Int32) → (P9 v1_1 x2_16 σ13))) ∧ (¬ (σ13 9 (v2_2).toNatClampNeg) ≤ v4_12 → (vp_in (σ13 0 6) 1000 ∧ (hM_ (fun (z18 : Int32) => (vp_in ((hup σ13 3 ((σ13 0 6)).toNatClampNeg v1_1) 0 6) 1000 ∧ (∀ x4_20 : Int32, x4_20 = v4_12 + (1 : Int32) → (P110 x4_20 (hup (hup (hup σ13 3 ((σ13 0 6)).toNatClampNeg v1_1) 4 (((hup σ13 3 ((σ13 0 6)).toNatClampNeg v1_1) 0 6)).toNatClampNeg z18) 0 6 (((hup (hup σ13 3 ((σ13 0 6)).toNatClampNeg v1_1) 4 (((hup σ13 3 ((σ13 0 6)).toNatClampNeg v1_1) 0 6)).toNatClampNeg z18) 0 6) + (1 : Int32))))))) (fun J160 : Int32 → Prop => ((¬ x3_6 = (112 : Int32) → ((¬ x3_6 = (98 : Int32) → (J160 (2 : Int32))) ∧ (x3_6 = (98 : Int32) → (J160 (1 : Int32))))) ∧ (x3_6 = (112 : Int32) → (J160 (0 : Int32))))))))))) (0 : Int32) σ3)))) ∧ (x3_6 = (41 : Int32) → (vp_in v2_2 500 ∧ (∀ x4_24 : Int32, x4_24 = (σ3 10 (v2_2).toNatClampNeg) → (vp_in x4_24 500 ∧ (vp_in x4_24 500 ∧ (vp_in x4_24 500 ∧ ((((hup σ3 13 (x4_24).toNatClampNeg ((σ3 13 (x4_24).toNatClampNeg) - (1 : Int32))) 13 (x4_24).toNatClampNeg) ≤ 0 → (∀ x2_29 : Int32, x2_29 = v2_2 + (1 : Int32) → (P9 v1_1 x2_29 (hup σ3 13 (x4_24).toNatClampNeg ((σ3 13 (x4_24).toNatClampNeg) - (1 : Int32)))))) ∧ (¬ ((hup σ3 13 (x4_24).toNatClampNeg ((σ3 13 (x4_24).toNatClampNeg) - (1 : Int32))) 13 (x4_24).toNatClampNeg) ≤ 0 → (∀ x2_30 : Int32, x2_30 = x4_24 + (1 : Int32) → (P9 v1_1 x2_30 (hup σ3 13 (x4_24).toNatClampNeg ((σ3 13 (x4_24).toNatClampNeg) - (1 : Int32))))))))))))))) ∧ (x3_6 = (40 : Int32) → (vp_in v2_2 500 ∧ ((¬ (lg_cmp (w (v2_2).toNatClampNeg) (0 : Int64)) = 0 → (vp_in v2_2 500 ∧ (vp_in v2_2 500 ∧ (∀ x2_35 : Int32, x2_35 = v2_2 + (1 : Int32) → (P9 v1_1 x2_35 (hup σ3 13 (v2_2).toNatClampNeg (σ3 9 (v2_2).toNatClampNeg))))))) ∧ ((lg_cmp (w (v2_2).toNatClampNeg) (0 : Int64)) = 0 → (vp_in v2_2 500 ∧ (∀ x2_37 : Int32, x2_37 = v2_2 + (1 : Int32) → (P9 v1_1 x2_37 (hup σ3 13 (v2_2).toNatClampNeg (1 : Int32))))))))))))))
theorem lgc_le {a b : Nat} (ha : a < 2 ^ 31) (hb : b < 2 ^ 31) {A B : Prop} (f : a ≤ b → A) (g : b < a → B) {y : Int64} (hy : y = lN b := by rfl) : ((lg_cmp (lN a) y) ≤ 0 → A) ∧ (¬ (lg_cmp (lN a) y) ≤ 0 → B) := by
  subst hy
  have e : lg_cmp (lN a) (lN b) = if b < a then 1 else if a = b then 0 else -1 := by
    unfold lg_cmp
    have h1 : lN a > lN b ↔ b < a := lN_lt hb ha
    have h2 := lN_eq ha hb
    by_cases q : b < a
    · rw [if_pos q, if_pos (h1.mpr q)]
    · rw [if_neg q, if_neg (fun y => q (h1.mp y))]
      by_cases q2 : a = b
      · rw [if_pos q2, if_pos (h2.mpr q2)]
      · rw [if_neg q2, if_neg (fun y => q2 (h2.mp y))]
  rw [e]
  by_cases q : b < a
  · rw [if_pos q]; exact br_f (by decide) (g q)
  · rw [if_neg q]
    by_cases q2 : a = b
    · rw [if_pos q2]; exact br_t (by decide) (f (by omega))
    · rw [if_neg q2]; exact br_t (by decide) (f (by omega))
theorem lgc_0 {a : Nat} (ha : a < 2 ^ 31) {A B : Prop} (f : a = 0 → A) (g : a ≠ 0 → B) : (¬ (lg_cmp (lN a) (0 : Int64)) = 0 → B) ∧ ((lg_cmp (lN a) (0 : Int64)) = 0 → A) := by
  have e : lg_cmp (lN a) (0 : Int64) = if a = 0 then 0 else 1 := by
    unfold lg_cmp
    have h1 : lN a > (0 : Int64) ↔ 0 < a := lN_lt (a := 0) (b := a) (by decide) ha
    have h2 : lN a = (0 : Int64) ↔ a = 0 := lN_eq (a := a) (b := 0) ha (by decide)
    by_cases q : a = 0
    · rw [if_pos q, if_neg (fun y => by have := h1.mp y; omega), if_pos (h2.mpr q)]
    · rw [if_neg q, if_pos (h1.mpr (by omega))]
  rw [e]
  by_cases q : a = 0
  · rw [if_pos q]; exact ⟨fun y => absurd rfl y, fun _ => f q⟩
  · rw [if_neg q]; exact ⟨fun _ => g q, fun y => absurd y (by decide)⟩
/-- the items as the reference holds them -/
def jS (τ : hSt) (kd tm pt : Nat → Nat) (u : Nat) : Prop := τ 0 20 = nI u ∧ ∀ k, k < u → τ 8 k = nI (kd k) ∧ τ 9 k = nI (tm k) ∧ (kd k = 41 → τ 10 k = nI (pt k))
section CNT
variable {kd tm pt : Nat → Nat} {u : Nat} {τ : hSt} {Q : Int64 → hSt → (Nat → Int64) → Prop} {P : Int64 → Int32 → Int32 → hSt → (Nat → Int64) → Prop}
theorem wOK_congr {w w' : Nat → Int64} : ∀ (f a b : Nat) {e : Nat}, wb kd pt f e a b → (∀ k, a ≤ k → k < b → w' k = w k) → wOK kd tm pt w f a b → wOK kd tm pt w' f a b
  | 0, _, _, _, _, _, _ => trivial
  | f + 1, a, b, e, hw, hc, h => by
    rcases hw with hw | ⟨h1, h2, h3⟩ | ⟨h1, h2, h3, h4, h5, h6, h7, h8⟩
    · subst hw; exact wOK_nil
    · obtain ⟨n4, -, -⟩ := cl_n40 h2
      rw [wOK_un (by omega) n4] at h ⊢
      exact wOK_congr f (a + 1) b h3 (fun k i1 i2 => hc k (by omega) i2) h
    · rw [wOK_gr (by omega) h1] at h ⊢
      obtain ⟨a1, a2, a3⟩ := h
      exact ⟨by rw [hc a (Nat.le_refl a) (by omega)]; exact a1, wOK_congr f (a + 1) (pt a) h7 (fun k i1 i2 => hc k (by omega) (by omega)) a2, wOK_congr f (pt a + 1) b h8 (fun k i1 i2 => hc k (by omega) i2) a3⟩
theorem min_add {m c : Nat} : min 1001 (min 1001 m + c) = min 1001 (m + c) := by omega
theorem min_mul {m c t : Nat} (ht : 1 ≤ t) : min 1001 (m + min 1001 c * t) = min 1001 (m + t * c) := by
  rw [Nat.mul_comm t c]
  by_cases h : c ≤ 1001
  · rw [Nat.min_eq_right h]
  · rw [Nat.min_eq_left (a := 1001) (b := c) (by omega)]
    have h1 : 1001 * 1 ≤ 1001 * t := Nat.mul_le_mul_left _ ht
    have h2 : 1001 * t ≤ c * t := Nat.mul_le_mul_right _ (by omega)
    omega
theorem t_cnt (hu : u ≤ 500) (hT : ∀ k, k < u → 1 ≤ tm k ∧ tm k ≤ 99) (hj : jS τ kd tm pt u) (hP : ∀ v1 v3 v4 w5, cbody Q P v1 v3 v4 τ w5 → P v1 v3 v4 τ w5) : ∀ (f d a b m : Nat) (v3 : Int32) (w : Nat → Int64), wb kd pt f d a b → b ≤ u → m ≤ 1001 →
    (∀ w' v3', (∀ k, (k < a ∨ b ≤ k) → w' k = w k) → wOK kd tm pt w' f a b → P (lN (min 1001 (m + cnt kd tm pt f a b))) v3' (nI b) τ w') → P (lN m) v3 (nI a) τ w := by
  intro f
  induction f with
  | zero =>
    intro d a b m v3 w h _ hm hk
    have h' : a = b := h
    subst h'
    have := hk w v3 (fun _ _ => rfl) trivial
    rw [show cnt kd tm pt 0 a a = 0 from rfl, Nat.add_zero, Nat.min_eq_right hm] at this
    exact this
  | succ f ih =>
    intro d a b m v3 w h hb hm hk
    rcases h with h | ⟨h1, h2, h3⟩ | ⟨h1, h2, h3, h4, h5, h6, h7, h8⟩
    · subst h
      have := hk w v3 (fun _ _ => rfl) wOK_nil
      rw [cnt_nil, Nat.add_zero, Nat.min_eq_right hm] at this
      exact this
    · obtain ⟨n4, n41, n9⟩ := cl_n40 h2
      rw [cnt_un (by omega) n4] at hk
      obtain ⟨j1, j2, j3⟩ := hj.2 a (by omega)
      obtain ⟨t1, t9⟩ := hT a (by omega)
      have hcl : kd a < 256 := by unfold cll ltt at h2; omega
      have go : ∀ m', m' = m + (if 97 ≤ kd a then tm a else 0) → ((lg_cmp (lN m') (1001 : Int64)) ≤ 0 → (∀ x4_13 : Int32, x4_13 = nI a + (1 : Int32) → (P (lN m') v3 x4_13 τ w))) ∧ (¬ (lg_cmp (lN m') (1001 : Int64)) ≤ 0 → (∀ x4_14 : Int32, x4_14 = nI a + (1 : Int32) → (P (1001 : Int64) v3 x4_14 τ w))) := fun m' hm' => by
        have next : ∀ m2, m2 = min 1001 m' → ∀ x4 : Int32, x4 = nI a + (1 : Int32) → P (lN m2) v3 x4 τ w := fun m2 hm2 x4 hx4 => by
          rw [nI_suc] at hx4
          subst hx4
          refine ih d (a + 1) b m2 v3 w h3 hb (by omega) (fun w' v3' hw' hok => ?_)
          have := hk w' v3' (fun k hk2 => hw' k (by omega)) ((wOK_un (by omega) n4).mpr hok)
          rw [hm2, min_add, hm', Nat.add_assoc]
          exact this
        refine lgc_le (b := 1001) (by split at hm' <;> omega) (by decide) (fun q => next m' (by omega)) (fun q => next 1001 (by omega))
      refine hP _ _ _ _ ?_
      unfold cbody
      rw [hj.1]
      refine br_f (nI_ge (b := u) (by omega) (by omega)) ⟨vp_in_nI (by omega) (by decide), ?_⟩
      rw [nI_clamp (by omega), j1]
      refine hM_in (fun J => ∀ m', m' = m + (if 97 ≤ kd a then tm a else 0) → J (lN m') v3 τ w) (fun J hJ => ?_) go
      refine pk_en (kd a) 40 (fun _ => ⟨vp_in_nI (by omega) (by decide), ?_⟩) (fun q => absurd q n4) rfl rfl
      refine pk_en (kd a) 41 (fun _ => ⟨vp_in_nI (by omega) (by decide), ?_⟩) (fun q => absurd q n41) rfl rfl
      refine pk_lt (kd a) 97 (fun q => hJ m (by rw [if_neg (by omega)]; rfl)) (fun q => ⟨vp_in_nI (by omega) (by decide), ?_⟩) rfl rfl
      intro y1 hy1
      rw [j2, nI_l (by omega), lN_add] at hy1
      subst hy1
      exact hJ _ (by rw [if_pos q])
    · rw [cnt_gr (by omega) h1] at hk
      obtain ⟨j1, j2, j3⟩ := hj.2 a (by omega)
      obtain ⟨i1, i2, i3⟩ := hj.2 (pt a) (by omega)
      have i3' := i3 h5
      rw [h6] at i3'
      obtain ⟨t1, t9⟩ := hT a (by omega)
      obtain ⟨c, hc⟩ : ∃ c, cnt kd tm pt f (a + 1) (pt a) = c := ⟨_, rfl⟩
      rw [hc] at hk
      refine hP _ _ _ _ ?_
      unfold cbody
      rw [hj.1]
      refine br_f (nI_ge (b := u) (by omega) (by omega)) ⟨vp_in_nI (by omega) (by decide), ?_⟩
      rw [nI_clamp (by omega), j1, h1]
      refine hM_in (fun J => J (lN 0) (v3 + (1 : Int32)) τ (vp_updL w a (lN m))) (fun J hJ => ?_) ?_
      · refine ⟨fun y => absurd rfl y, fun _ => ⟨vp_in_nI (by omega) (by decide), ?_⟩⟩
        intro x3 hx3
        subst hx3
        exact hJ
      · try dsimp only
        have next : ∀ x4 : Int32, x4 = nI a + (1 : Int32) → P (lN 0) (v3 + (1 : Int32)) x4 τ (vp_updL w a (lN m)) := fun x4 hx4 => by
          rw [nI_suc] at hx4
          subst hx4
          refine ih (d + 1) (a + 1) (pt a) 0 _ _ h7 (by omega) (by omega) (fun w1 v31 hw1 hok1 => ?_)
          rw [hc, Nat.zero_add]
          -- the closing one
          refine hP _ _ _ _ ?_
          unfold cbody
          rw [hj.1]
          refine br_f (nI_ge (b := u) (by omega) (by omega)) ⟨vp_in_nI (by omega) (by decide), ?_⟩
          rw [nI_clamp (by omega), i1, h5]
          have ewa : w1 a = lN m := by rw [hw1 a (by omega)]; exact pk_uLs
          refine hM_in (fun J => J (lN (m + min 1001 c * tm a)) v31 τ (vp_updL w1 a (lN (min 1001 c)))) (fun J hJ => ?_) ?_
          · refine ⟨fun _ => ⟨vp_in_nI (by omega) (by decide), fun y => absurd rfl y, fun _ => ⟨vp_in_nI (by omega) (by decide), ?_⟩⟩, fun y => absurd y (by decide)⟩
            intro x5 hx5
            rw [i3'] at hx5
            subst hx5
            refine ⟨vp_in_nI (by omega) (by decide), vp_in_nI (by omega) (by decide), ?_⟩
            rw [nI_clamp (by omega)]
            intro y1 hy1
            rw [ewa, j2, nI_l (by omega), lN_mul, lN_add] at hy1
            subst hy1
            exact ⟨vp_in_nI (by omega) (by decide), hJ⟩
          · try dsimp only
            have hbd : min 1001 c * tm a ≤ 1001 * 99 := Nat.mul_le_mul (by omega) t9
            have next2 : ∀ m2, m2 = min 1001 (m + min 1001 c * tm a) → ∀ x4 : Int32, x4 = nI (pt a) + (1 : Int32) → P (lN m2) v31 x4 τ (vp_updL w1 a (lN (min 1001 c))) := fun m2 hm2 x4 hx4 => by
              rw [nI_suc] at hx4
              subst hx4
              refine ih d (pt a + 1) b m2 v31 _ h8 hb (by omega) (fun w2 v32 hw2 hok2 => ?_)
              have e2 : ∀ k, a < k → k < pt a → w2 k = w1 k := fun k p q => by rw [hw2 k (by omega)]; exact pk_uLn (by omega)
              have ea : w2 a = lN (min 1001 c) := by rw [hw2 a (by omega)]; exact pk_uLs
              have := hk w2 v32 (fun k hk2 => by rw [hw2 k (by omega), pk_uLn (by omega), hw1 k (by omega)]; exact pk_uLn (by omega)) ((wOK_gr (by omega) h1).mpr ⟨by rw [hc]; exact ea, wOK_congr f (a + 1) (pt a) h7 (fun k p q => e2 k (by omega) q) hok1, hok2⟩)
              have em : min 1001 (min 1001 (m + min 1001 c * tm a) + cnt kd tm pt f (pt a + 1) b) = min 1001 (m + (tm a * c + cnt kd tm pt f (pt a + 1) b)) := by
                rw [min_add, Nat.add_right_comm, min_mul t1]
                congr 1
                omega
              rw [hm2, em]
              exact this
            refine lgc_le (b := 1001) (by omega) (by decide) (fun q => next2 _ (by omega)) (fun q => next2 1001 (by omega))
        refine lgc_le (a := 0) (b := 1001) (by decide) (by decide) (fun _ => next) (fun q => absurd q (by decide))
end CNT
section UNR
variable {kd tm pt : Nat → Nat} {u : Nat} {w : Nat → Int64} {Q : hSt → Prop} {P : Int32 → Int32 → hSt → Prop}
def yX (τ : hSt) (x : XS) : Prop := x.1 < 6 ∧ τ 0 6 = nI x.2.1 ∧ ∀ j, j < x.2.1 → τ 3 j = nI (x.2.2 j / 3) ∧ τ 4 j = nI (x.2.2 j % 3)
def kpI (τ τ' : hSt) : Prop := (∀ k, k ≠ 0 → k ≠ 3 → k ≠ 4 → k ≠ 13 → τ' k = τ k) ∧ ∀ j, j ≠ 6 → τ' 0 j = τ 0 j
theorem kpI.rf {τ : hSt} : kpI τ τ := ⟨fun _ _ _ _ _ => rfl, fun _ _ => rfl⟩
theorem kpI.tr {a b c : hSt} (h : kpI a b) (h2 : kpI b c) : kpI a c := ⟨fun k p q r s => by rw [h2.1 k p q r s, h.1 k p q r s], fun j p => by rw [h2.2 j p, h.2 j p]⟩
theorem jS.mv {τ τ' : hSt} (h : jS τ kd tm pt u) (k : kpI τ τ') : jS τ' kd tm pt u := ⟨by rw [k.2 20 (by decide)]; exact h.1, fun i hi => by rw [k.1 8 (by decide) (by decide) (by decide) (by decide), k.1 9 (by decide) (by decide) (by decide) (by decide), k.1 10 (by decide) (by decide) (by decide) (by decide)]; exact h.2 i hi⟩
/-- one unit -/
theorem r_unit {τ : hSt} {a : Nat} {x : XS} (ha : a < u) (hu : u ≤ 500) (hT : 1 ≤ tm a ∧ tm a ≤ 99) (hj : jS τ kd tm pt u) (hk : cll (kd a) ∨ ltt (kd a)) (hx : yX τ x) (hfit : x.2.1 + (if 97 ≤ kd a then tm a else 0) ≤ 1000) (hP : ∀ v1 v2 σ, ubody w Q P v1 v2 σ → P v1 v2 σ)
    (hQ : ∀ τ', kpI τ τ' → τ' 13 = τ 13 → yX τ' (xo kd tm a x) → P (nI (xo kd tm a x).1) (nI (a + 1)) τ') : P (nI x.1) (nI a) τ := by
  obtain ⟨n40, n41, n9⟩ := cl_n40 hk
  obtain ⟨x0, x1, x2⟩ := hx
  obtain ⟨j1, j2, j3⟩ := hj.2 a ha
  have hk' := hk
  unfold cll ltt at hk'
  refine hP _ _ _ ?_
  unfold ubody
  rw [hj.1]
  refine br_f (nI_ge (b := u) ha (by omega)) ⟨vp_in_nI (by omega) (by decide), ?_⟩
  rw [nI_clamp (by omega)]
  intro x3 hx3
  rw [j1] at hx3
  subst hx3
  refine pk_en (kd a) 40 (fun _ => ?_) (fun q => absurd q n40) rfl rfl
  refine pk_en (kd a) 41 (fun _ => ?_) (fun q => absurd q n41) rfl rfl
  refine pk_lt (kd a) 97 (fun q => ?_) (fun q => ?_) rfl rfl
  · intro y1 hy1 y2 hy2
    have hl : ltt (kd a) := hk.resolve_left (fun y => by have := n9.mpr y; omega)
    unfold ltt at hl
    rw [show (65 : Int32) = nI 65 from rfl, pk_sub hl.1] at hy1
    rw [nI_suc] at hy2
    subst hy1 hy2
    have e : xo kd tm a x = (kd a - 65, x.2.1, x.2.2) := by unfold xo; rw [if_neg (by omega)]
    rw [e] at hQ
    exact hQ τ kpI.rf rfl ⟨by show kd a - 65 < 6; omega, x1, x2⟩
  · rw [if_pos q] at hfit
    have e : xo kd tm a x = (x.1, x.2.1 + tm a, fun j => if x.2.1 ≤ j ∧ j < x.2.1 + tm a then x.1 * 3 + clN (kd a) else x.2.2 j) := by unfold xo; rw [if_pos q]
    rw [e] at hQ
    have hcl : cll (kd a) := n9.mp q
    have hc2 := clN_le (c := kd a)
    refine hL2_in (fun v4 τ2 => ∃ i, i ≤ tm a ∧ v4 = nI i ∧ kpI τ τ2 ∧ τ2 13 = τ 13 ∧ τ2 0 6 = nI (x.2.1 + i) ∧ (∀ j, j < x.2.1 + i → τ2 3 j = nI ((if x.2.1 ≤ j ∧ j < x.2.1 + tm a then x.1 * 3 + clN (kd a) else x.2.2 j) / 3) ∧ τ2 4 j = nI ((if x.2.1 ≤ j ∧ j < x.2.1 + tm a then x.1 * 3 + clN (kd a) else x.2.2 j) % 3))) (fun v4 _ => tm a - v4.toNatClampNeg) ?_ ⟨0, Nat.zero_le _, rfl, kpI.rf, rfl, x1, fun j hj2 => by rw [if_neg (by omega)]; exact x2 j hj2⟩
    rintro P2 _ τ2 ⟨i, hi, rfl, k2, e13, e6, g2⟩ ih
    obtain ⟨i1, i2, i3⟩ := (hj.mv k2).2 a ha
    refine ⟨vp_in_nI (by omega) (by decide), ?_⟩
    refine pk_le (tm a) i (fun q2 => ?_) (fun q2 => ?_) i2 rfl
    · have ei : i = tm a := by omega
      subst ei
      intro y2 hy2
      rw [nI_suc] at hy2
      subst hy2
      exact hQ τ2 k2 e13 ⟨x0, e6, g2⟩
    · refine ⟨by rw [e6]; exact vp_in_nI (by omega) (by decide), ?_⟩
      refine hM_in (fun J => J (nI (clN (kd a)))) (fun J hJ => ?_) ?_
      · refine pk_en (kd a) 112 (fun q3 => ?_) (fun q3 => ?_) rfl rfl
        · refine pk_en (kd a) 98 (fun q4 => ?_) (fun q4 => ?_) rfl rfl
          · have : clN (kd a) = 2 := by unfold clN; rw [if_neg q3, if_neg q4]
            rw [this] at hJ; exact hJ
          · have : clN (kd a) = 1 := by unfold clN; rw [if_neg q3, if_pos q4]
            rw [this] at hJ; exact hJ
        · have : clN (kd a) = 0 := by unfold clN; rw [if_pos q3]
          rw [this] at hJ; exact hJ
      · refine ⟨by rw [hup_ne _ _ (by decide), e6]; exact vp_in_nI (by omega) (by decide), ?_⟩
        intro y4 hy4
        rw [nI_suc] at hy4
        subst hy4
        have fin : ∀ τ3, (∀ k, k ≠ 0 → k ≠ 3 → k ≠ 4 → τ3 k = τ2 k) → (∀ j, j ≠ 6 → τ3 0 j = τ2 0 j) → τ3 0 6 = nI (x.2.1 + i + 1) → (∀ j, τ3 3 j = if j = x.2.1 + i then nI x.1 else τ2 3 j) → (∀ j, τ3 4 j = if j = x.2.1 + i then nI (clN (kd a)) else τ2 4 j) → P2 (nI (i + 1)) τ3 := fun τ3 o1 o2 o6 o3 o4 => by
          refine ih _ _ ⟨i + 1, by omega, rfl, k2.tr ⟨fun k p1 p2 p3 _ => o1 k p1 p2 p3, o2⟩, by rw [o1 13 (by decide) (by decide) (by decide)]; exact e13, o6, fun j hj2 => ?_⟩ (by rw [nI_clamp (by omega), nI_clamp (by omega)]; omega)
          rw [o3, o4]
          by_cases y : j = x.2.1 + i
          · rw [if_pos y, if_pos y, if_pos (by omega)]
            exact ⟨by congr 1; omega, by congr 1; omega⟩
          · rw [if_neg y, if_neg y]; exact g2 j (by omega)
        refine fin _ (fun k p1 p2 p3 => by rw [hup_n _ _ _ p1, hup_n _ _ _ p3, hup_n _ _ _ p2]) (fun j p1 => by rw [hup_at, if_neg p1, hup_ne _ _ (by decide), hup_ne _ _ (by decide)]) ?_ (fun j => ?_) (fun j => ?_)
        · rw [hup_at, if_pos rfl, hup_ne _ _ (by decide), hup_ne _ _ (by decide), e6, nI_suc]
        · rw [hup_ne _ _ (by decide), hup_ne _ _ (by decide), hup_at, e6, nI_clamp (by omega)]
        · rw [hup_ne _ _ (by decide), hup_at, hup_ne _ _ (by decide), hup_ne _ _ (by decide), e6, nI_clamp (by omega)]
theorem t_pass {g : XS → XS} {a j c : Nat} (hu : u ≤ 500) (hj : j < u) (hkj : kd j = 41) (hlt : pt j < j) (hpj : pt j + 1 = a) (hg1 : ∀ x, (g x).2.1 = x.2.1 + c) (hP : ∀ v1 v2 σ, ubody w Q P v1 v2 σ → P v1 v2 σ)
    (hg : ∀ (x : XS) τ, jS τ kd tm pt u → yX τ x → x.2.1 + c ≤ 1000 → (∀ τ', kpI τ τ' → (∀ i, (i < a ∨ j ≤ i) → τ' 13 i = τ 13 i) → yX τ' (g x) → P (nI (g x).1) (nI j) τ') → P (nI x.1) (nI a) τ) :
    ∀ (r : Nat) (x : XS) (τ : hSt), 1 ≤ r → r ≤ 99 → jS τ kd tm pt u → yX τ x → τ 13 (pt j) = nI r → x.2.1 + r * c ≤ 1000 → (∀ τ', kpI τ τ' → (∀ i, (i < pt j ∨ j < i) → τ' 13 i = τ 13 i) → yX τ' (rpt g r x) → P (nI (rpt g r x).1) (nI (j + 1)) τ') → P (nI x.1) (nI a) τ := by
  intro r
  induction r with
  | zero => intro x τ h; exact absurd h (by decide)
  | succ r ih =>
    intro x τ _ hr9 hjs hx h13 hfit hk
    have hrc : (r + 1) * c = r * c + c := Nat.succ_mul r c
    refine hg x τ hjs hx (by omega) (fun τ1 k1 o1 hx1 => ?_)
    have hjs1 := hjs.mv k1
    obtain ⟨j1, j2, j3⟩ := hjs1.2 j hj
    have j3' := j3 hkj
    have e13 : τ1 13 (pt j) = nI (r + 1) := by rw [o1 _ (by omega)]; exact h13
    have e1 := hg1 x
    refine hP _ _ _ ?_
    unfold ubody
    rw [hjs1.1]
    refine br_f (nI_ge (b := u) hj (by omega)) ⟨vp_in_nI (by omega) (by decide), ?_⟩
    rw [nI_clamp (by omega)]
    intro x3 hx3
    rw [j1, hkj] at hx3
    subst hx3
    refine ⟨fun _ => ⟨fun y => absurd rfl y, fun _ => ⟨vp_in_nI (by omega) (by decide), ?_⟩⟩, fun y => absurd y (by decide)⟩
    intro x4 hx4
    rw [j3'] at hx4
    subst hx4
    have hpl : pt j < 500 := by omega
    refine ⟨vp_in_nI hpl (by decide), vp_in_nI hpl (by decide), vp_in_nI hpl (by decide), ?_⟩
    rw [nI_clamp (by omega), e13, show (1 : Int32) = nI 1 from rfl, pk_sub (by omega), show r + 1 - 1 = r by omega]
    have eh : (hup τ1 13 (pt j) (nI r)) 13 (pt j) = nI r := by rw [hup_at, if_pos rfl]
    have kk : kpI τ1 (hup τ1 13 (pt j) (nI r)) := ⟨fun k _ _ _ p => hup_n _ _ _ p, fun i _ => by rw [hup_ne _ _ (by decide)]⟩
    have hx2 : yX (hup τ1 13 (pt j) (nI r)) (g x) := ⟨hx1.1, by rw [hup_ne _ _ (by decide)]; exact hx1.2.1, fun i hi => by rw [hup_ne _ _ (by decide), hup_ne _ _ (by decide)]; exact hx1.2.2 i hi⟩
    have oo : ∀ i, (i < pt j ∨ j < i) → (hup τ1 13 (pt j) (nI r)) 13 i = τ 13 i := fun i hi => by
      rw [hup_at, if_neg (by omega)]; exact o1 i (by omega)
    refine pk_le r 0 (fun q => ?_) (fun q => ?_) eh rfl
    · intro y2 hy2
      have er : r = 0 := by omega
      subst er
      rw [nI_add] at hy2
      subst hy2
      exact hk _ (k1.tr kk) oo hx2
    · intro y2 hy2
      rw [show nI (pt j) + nI 1 = nI a by rw [nI_add, hpj]] at hy2
      subst hy2
      refine ih (g x) _ (by omega) (by omega) (hjs1.mv kk) hx2 eh (by omega) (fun τ3 k3 o3 hx3 => ?_)
      exact hk τ3 ((k1.tr kk).tr k3) (fun i hi => by rw [o3 i hi]; exact oo i hi) hx3
end UNR

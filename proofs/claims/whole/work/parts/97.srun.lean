theorem stp_gr' {kd tm pt : Nat → Nat} {f a b c : Nat} (h : a ≠ b) (h4 : kd a = 40) (hc : cnt kd tm pt f (a + 1) (pt a) = c) : stp kd tm pt (f + 1) a b = 1 + pss c (tm a) * (stp kd tm pt f (a + 1) (pt a) + 1) + stp kd tm pt f (pt a + 1) b := by rw [stp_gr h h4, hc]
section RUN
variable {kd tm pt : Nat → Nat} {u : Nat} {P : Int32 → Int32 → hSt → Prop}
/-- a step may be taken -/
def stepS (u : Nat) (P : Int32 → Int32 → hSt → Prop) : Prop := ∀ k st σ m, k < u → st < 10000000 → σ 24 6 = nI u → σ 24 16 = nI m → m ≤ 1000 → wp_X1_follow (nI k) σ (fun r σ' => P r (nI (st + 1)) σ') → P (nI k) (nI st) σ
/-- the ways through a group whose leads are not too many -/
theorem s_pass {g : XS → XS} {d a j c sb : Nat} (hu : u ≤ 500) (hS : stepS u P) (hd : d < 5) (hj : j < u) (hkj : kd j = 41) (hg1 : ∀ x, (g x).2.1 = x.2.1 + c)
    (hg : ∀ (x : XS) st σ, iS σ kd tm u → sX σ (d + 1) x → x.2.1 + c ≤ 1000 → st + sb ≤ 10000000 → (∀ σ', kpV (d + 1) σ σ' → sX σ' (d + 1) (g x) → P (nI j) (nI (st + sb)) σ') → P (nI a) (nI st) σ) :
    ∀ (r : Nat) (x : XS) (st : Nat) (σ : hSt) (z0 : Nat), 1 ≤ r → r ≤ 99 → iS σ kd tm u → sX σ (d + 1) x → σ 27 d = nI a → σ 28 d = nI r → σ 29 d = nI z0 → z0 ≤ x.2.1 → (c = 0 → x.2.1 = z0) → x.2.1 + r * c ≤ 1000 → st + pss c r * (sb + 1) ≤ 10000000 →
      (∀ σ', kpV d σ σ' → sX σ' d (rpt g (pss c r) x) → P (nI (j + 1)) (nI (st + pss c r * (sb + 1))) σ') → P (nI a) (nI st) σ := by
  intro r
  induction r with
  | zero => intro x st σ z0 h; exact absurd h (by decide)
  | succ r ih =>
    intro x st σ z0 _ hr9 hi hx h27 h28 h29 hz0 hcz hfit hst hk
    have hrc : (r + 1) * c = r * c + c := Nat.succ_mul r c
    have hp1 : 1 * (sb + 1) ≤ pss c (r + 1) * (sb + 1) := Nat.mul_le_mul_right _ (pss_pos (by omega))
    refine hg x st σ hi hx (by omega) (by omega) (fun σ1 k1 hx1 => ?_)
    have e1 := hg1 x
    obtain ⟨q27, q28, q29⟩ := k1.2.2 d (Nat.lt_succ_self d)
    have hi1 := hi.mv k1
    refine hS j (st + sb) σ1 (g x).2.1 hj (by omega) hi1.1 hx1.2.2.2.1 (by omega) ?_
    refine f_leave (r := r + 1) (g := a) (z0 := z0) hj hu hd hi1 hkj hx1 (by omega) (by omega) (by rw [q27]; exact h27) (by rw [q28]; exact h28) (by rw [q29]; exact h29) (by omega) hr9 (fun hout σ2 k2 hx2 => ?_) (fun hr1 hgt σ2 k2 hx2 g27 g28 g29 => ?_)
    · have hps : pss c (r + 1) = 1 := by
        unfold pss
        by_cases y : c = 0
        · rw [if_pos y]
        · rw [if_neg y]; omega
      rw [hps, Nat.one_mul] at hk
      exact hk σ2 ((k1.lo (by omega)).tr k2) hx2
    · have hc0 : c ≠ 0 := fun y => by have := hcz y; omega
      have hps : pss c (r + 1) = r + 1 := by unfold pss; rw [if_neg hc0]
      have hps2 : pss c r = r := by unfold pss; rw [if_neg hc0]
      have hmul : (r + 1) * (sb + 1) = r * (sb + 1) + (sb + 1) := Nat.succ_mul r (sb + 1)
      rw [hps] at hk hst
      have e5 : st + sb + 1 + pss c r * (sb + 1) = st + (r + 1) * (sb + 1) := by rw [hps2]; omega
      refine ih (g x) (st + sb + 1) σ2 z0 (by omega) (by omega) (hi1.mv k2) hx2 g27 g28 g29 (by omega) (fun y => absurd y hc0) (by omega) (by omega) (fun σ3 k3 hx3 => ?_)
      rw [e5]
      refine hk σ3 (((k1.lo (by omega)).tr k2).tr k3) ?_
      rw [hps2] at hx3
      exact hx3
theorem s_run (hu : u ≤ 500) (hT : ∀ k, k < u → 1 ≤ tm k ∧ tm k ≤ 99) (hS : stepS u P) : ∀ (f d a b : Nat) (x : XS) (st : Nat) (σ : hSt), wb kd pt f d a b → b ≤ u → iS σ kd tm u → sX σ d x → x.2.1 + cnt kd tm pt f a b ≤ 1000 → st + stp kd tm pt f a b ≤ 10000000 →
    (∀ σ', kpV d σ σ' → sX σ' d (lds kd tm pt f a b x) → P (nI b) (nI (st + stp kd tm pt f a b)) σ') → P (nI a) (nI st) σ := by
  intro f
  induction f with
  | zero =>
    intro d a b x st σ h _ _ hx _ _ hk
    have h' : a = b := h
    subst h'
    exact hk σ kpV.rf hx
  | succ f ih =>
    intro d a b x st σ h hb hi hx hfit hst hk
    rcases h with h | ⟨h1, h2, h3⟩ | ⟨h1, h2, h3, h4, h5, h6, h7, h8⟩
    · subst h
      rw [stp_nil, lds_nil] at hk
      exact hk σ kpV.rf hx
    · obtain ⟨n4, -, -⟩ := cl_n40 h2
      rw [cnt_un (by omega) n4] at hfit
      rw [stp_un (by omega) n4] at hst hk
      rw [lds_un (by omega) n4] at hk
      refine hS a st σ x.2.1 (by omega) (by omega) hi.1 hx.2.2.2.1 (by omega) ?_
      refine f_unit (by omega) hu hi (hT a (by omega)).2 h2 hx (by omega) (fun σ1 k1 hx1 _ => ?_)
      have e1 : (xo kd tm a x).2.1 = x.2.1 + (if 97 ≤ kd a then tm a else 0) := by unfold xo; split <;> rfl
      have e5 : st + 1 + stp kd tm pt f (a + 1) b = st + (1 + stp kd tm pt f (a + 1) b) := by omega
      refine ih d (a + 1) b (xo kd tm a x) (st + 1) σ1 h3 hb (hi.mv k1) (hx1 (by omega)) (by omega) (by omega) (fun σ2 k2 hx2 => ?_)
      rw [e5]
      exact hk σ2 (k1.tr k2) hx2
    · rw [cnt_gr (by omega) h1] at hfit
      rw [lds_gr (by omega) h1] at hk
      obtain ⟨c, hc⟩ : ∃ c, cnt kd tm pt f (a + 1) (pt a) = c := ⟨_, rfl⟩
      obtain ⟨sb, hsb⟩ : ∃ sb, stp kd tm pt f (a + 1) (pt a) = sb := ⟨_, rfl⟩
      rw [stp_gr' (by omega) h1 hc, hsb] at hst hk
      rw [hc] at hfit hk
      obtain ⟨t1, t9⟩ := hT a (by omega)
      refine hS a st σ x.2.1 (by omega) (by omega) hi.1 hx.2.2.2.1 (by omega) ?_
      refine f_enter (by omega) hu h2 hi h1 hx (fun σ1 k1 hx1 g27 g28 g29 => ?_)
      have hi1 := hi.mv k1
      refine s_pass (g := lds kd tm pt f (a + 1) (pt a)) (c := c) (sb := sb) (a := a + 1) (j := pt a) hu hS h2 (by omega) h5 (fun y => by rw [lds_sz, hc]) (fun y st' σ' hi' hy hfy hsy hky => ?_) (tm a) x (st + 1) σ1 x.2.1 t1 t9 hi1 hx1 g27 g28 g29 (Nat.le_refl _) (fun _ => rfl) (by omega) (by omega) (fun σ2 k2 hx2 => ?_)
      · refine ih (d + 1) (a + 1) (pt a) y st' σ' h7 (by omega) hi' hy (by rw [hc]; exact hfy) (by rw [hsb]; exact hsy) (fun σ'' k'' hx'' => ?_)
        rw [hsb]
        exact hky σ'' k'' hx''
      · have esz : (rpt (lds kd tm pt f (a + 1) (pt a)) (pss c (tm a)) x).2.1 = x.2.1 + tm a * c := by rw [rpt_sz (c := c) (fun y => by rw [lds_sz, hc]), pss_mul]
        have e5 : st + 1 + pss c (tm a) * (sb + 1) + stp kd tm pt f (pt a + 1) b = st + (1 + pss c (tm a) * (sb + 1) + stp kd tm pt f (pt a + 1) b) := by omega
        refine ih d (pt a + 1) b _ (st + 1 + pss c (tm a) * (sb + 1)) σ2 h8 hb (hi1.mv k2) hx2 (by rw [esz]; omega) (by omega) (fun σ3 k3 hx3 => ?_)
        rw [e5]
        exact hk σ3 ((k1.tr k2).tr k3) hx3
/-- the leads are too many -/
theorem s_over (hu : u ≤ 500) (hT : ∀ k, k < u → 1 ≤ tm k ∧ tm k ≤ 99) (hS : stepS u P) : ∀ (f d a b : Nat) (x : XS) (st : Nat) (σ : hSt), wb kd pt f d a b → b ≤ u → iS σ kd tm u → sX σ d x → x.2.1 ≤ 1000 → 1000 < x.2.1 + cnt kd tm pt f a b → st + (b - a) * (1001 - x.2.1) ≤ 10000000 →
    (∀ k st' σ', kpV d σ σ' → σ' 24 16 = nI 1001 → P k st' σ') → P (nI a) (nI st) σ := by
  intro f
  induction f with
  | zero =>
    intro d a b x st σ h _ _ hx hm hov _ _
    exact absurd hov (by show ¬ 1000 < x.2.1 + 0; omega)
  | succ f ih =>
    intro d a b x st σ h hb hi hx hm hov hst hk
    rcases h with h | ⟨h1, h2, h3⟩ | ⟨h1, h2, h3, h4, h5, h6, h7, h8⟩
    · subst h
      rw [cnt_nil] at hov
      omega
    · obtain ⟨n4, -, -⟩ := cl_n40 h2
      rw [cnt_un (by omega) n4] at hov
      obtain ⟨rr, hrr⟩ : ∃ rr, 1001 - x.2.1 = rr := ⟨_, rfl⟩
      obtain ⟨mm, hmm⟩ : ∃ mm, b - a = mm + 1 := ⟨b - a - 1, by omega⟩
      rw [hrr, hmm, Nat.succ_mul] at hst
      refine hS a st σ x.2.1 (by omega) (by omega) hi.1 hx.2.2.2.1 hm ?_
      refine f_unit (by omega) hu hi (hT a (by omega)).2 h2 hx hm (fun σ1 k1 hx1 hx1' => ?_)
      by_cases q : x.2.1 + (if 97 ≤ kd a then tm a else 0) ≤ 1000
      · have e1 : (xo kd tm a x).2.1 = x.2.1 + (if 97 ≤ kd a then tm a else 0) := by unfold xo; split <;> rfl
        have hle : (b - (a + 1)) * (1001 - (xo kd tm a x).2.1) ≤ mm * rr := by
          rw [show b - (a + 1) = mm by omega]
          exact Nat.mul_le_mul_left mm (by omega)
        exact ih d (a + 1) b (xo kd tm a x) (st + 1) σ1 h3 hb (hi.mv k1) (hx1 q) (by omega) (by omega) (by omega) (fun k st' σ' k' e' => hk k st' σ' (k1.tr k') e')
      · exact hk _ _ σ1 k1 (hx1' (by omega))
    · rw [cnt_gr (by omega) h1] at hov
      obtain ⟨c, hc⟩ : ∃ c, cnt kd tm pt f (a + 1) (pt a) = c := ⟨_, rfl⟩
      obtain ⟨sb, hsb⟩ : ∃ sb, stp kd tm pt f (a + 1) (pt a) = sb := ⟨_, rfl⟩
      rw [hc] at hov
      obtain ⟨t1, t9⟩ := hT a (by omega)
      have hsb1 : sb ≤ (pt a - (a + 1)) * mx c := by rw [← hsb, ← hc]; exact stp_le h7 (fun k hk => (hT k (by omega)).1)
      obtain ⟨mi, hmi⟩ : ∃ mi, pt a - (a + 1) = mi := ⟨_, rfl⟩
      rw [hmi] at hsb1
      obtain ⟨rr, hrr⟩ : ∃ rr, 1001 - x.2.1 = rr := ⟨_, rfl⟩
      rw [hrr] at hst
      have hspl : (b - a) * rr = (mi + 2) * rr + (b - (pt a + 1)) * rr := by rw [← Nat.add_mul]; congr 1; omega
      have hm2 : (mi + 2) * rr = mi * rr + 2 * rr := Nat.add_mul mi 2 rr
      refine hS a st σ x.2.1 (by omega) (by omega) hi.1 hx.2.2.2.1 hm ?_
      refine f_enter (by omega) hu h2 hi h1 hx (fun σ1 k1 hx1 g27 g28 g29 => ?_)
      have hi1 := hi.mv k1
      have body : ∀ (y : XS) st' σ', iS σ' kd tm u → sX σ' (d + 1) y → y.2.1 + c ≤ 1000 → st' + sb ≤ 10000000 → (∀ σ'', kpV (d + 1) σ' σ'' → sX σ'' (d + 1) (lds kd tm pt f (a + 1) (pt a) y) → P (nI (pt a)) (nI (st' + sb)) σ'') → P (nI (a + 1)) (nI st') σ' := fun y st' σ' hi' hy hfy hsy hky => by
        refine s_run hu hT hS f (d + 1) (a + 1) (pt a) y st' σ' h7 (by omega) hi' hy (by rw [hc]; exact hfy) (by rw [hsb]; exact hsy) (fun σ'' k'' hx'' => ?_)
        rw [hsb]
        exact hky σ'' k'' hx''
      have hg1 : ∀ y : XS, (lds kd tm pt f (a + 1) (pt a) y).2.1 = y.2.1 + c := fun y => by rw [lds_sz, hc]
      by_cases q : x.2.1 + tm a * c ≤ 1000
      · have hgl := grp_le t1 hsb1
        have hmx : mx (tm a * c) ≤ rr := mx_le (by omega) (by omega)
        have hgl2 : (mi + 2) * mx (tm a * c) ≤ (mi + 2) * rr := Nat.mul_le_mul_left _ hmx
        refine s_pass (g := lds kd tm pt f (a + 1) (pt a)) (c := c) (sb := sb) (a := a + 1) (j := pt a) hu hS h2 (by omega) h5 hg1 body (tm a) x (st + 1) σ1 x.2.1 t1 t9 hi1 hx1 g27 g28 g29 (Nat.le_refl _) (fun _ => rfl) q (by omega) (fun σ2 k2 hx2 => ?_)
        have esz : (rpt (lds kd tm pt f (a + 1) (pt a)) (pss c (tm a)) x).2.1 = x.2.1 + tm a * c := by rw [rpt_sz (c := c) hg1, pss_mul]
        have hle : (b - (pt a + 1)) * (1001 - (rpt (lds kd tm pt f (a + 1) (pt a)) (pss c (tm a)) x).2.1) ≤ (b - (pt a + 1)) * rr := Nat.mul_le_mul_left _ (by rw [esz]; omega)
        exact ih d (pt a + 1) b _ (st + 1 + pss c (tm a) * (sb + 1)) σ2 h8 hb (hi1.mv k2) hx2 (by rw [esz]; exact q) (by rw [esz]; omega) (by omega) (fun k st' σ' k' e' => hk k st' σ' ((k1.tr k2).tr k') e')
      · have hc0 : c ≠ 0 := fun y => by rw [y, Nat.mul_zero] at q; omega
        have hmxc : mx c = c := by unfold mx; rw [if_neg hc0]
        rw [hmxc] at hsb1
        -- the ways through it, till they are too many
        have over : ∀ (r : Nat) (y : XS) (st' : Nat) (σ' : hSt), 1 ≤ r → r ≤ 99 → kpV d σ σ' → iS σ' kd tm u → sX σ' (d + 1) y → σ' 27 d = nI (a + 1) → σ' 28 d = nI r → σ' 29 d = nI x.2.1 → x.2.1 ≤ y.2.1 → y.2.1 ≤ 1000 → 1000 < y.2.1 + r * c → st' + (mi + 1) * (1001 - y.2.1) ≤ 10000000 → P (nI (a + 1)) (nI st') σ' := by
          intro r
          induction r with
          | zero => intro y st' σ' h; exact absurd h (by decide)
          | succ r ihr =>
            intro y st' σ' _ hr9 k' hi' hy f27 f28 f29 hxy hy1 hyo hst'
            have hrc : (r + 1) * c = r * c + c := Nat.succ_mul r c
            obtain ⟨ry, hry⟩ : ∃ ry, 1001 - y.2.1 = ry := ⟨_, rfl⟩
            rw [hry] at hst'
            have hm1 : (mi + 1) * ry = mi * ry + ry := Nat.succ_mul mi ry
            by_cases q2 : y.2.1 + c ≤ 1000
            · have hmc : mi * c ≤ mi * ry := Nat.mul_le_mul_left mi (by omega)
              refine body y st' σ' hi' hy q2 (by omega) (fun σ2 k2 hx2 => ?_)
              obtain ⟨q27, q28, q29⟩ := k2.2.2 d (Nat.lt_succ_self d)
              have hi2 := hi'.mv k2
              have e1 := hg1 y
              refine hS (pt a) (st' + sb) σ2 (lds kd tm pt f (a + 1) (pt a) y).2.1 (by omega) (by omega) hi2.1 hx2.2.2.2.1 (by omega) ?_
              refine f_leave (r := r + 1) (g := a + 1) (z0 := x.2.1) (by omega) hu h2 hi2 h5 hx2 (by omega) hm (by rw [q27]; exact f27) (by rw [q28]; exact f28) (by rw [q29]; exact f29) (by omega) hr9 (fun hout => ?_) (fun hr1 hgt σ3 k3 hx3 w27 w28 w29 => ?_)
              · exfalso
                rcases hout with y2 | y2
                · have : r = 0 := by omega
                  subst this
                  omega
                · omega
              · have hsp : (mi + 1) * ry = (mi + 1) * (ry - c) + (mi + 1) * c := by rw [← Nat.mul_add]; congr 1; omega
                have hmc1 : (mi + 1) * c = mi * c + c := Nat.succ_mul mi c
                have ery : 1001 - (lds kd tm pt f (a + 1) (pt a) y).2.1 = ry - c := by omega
                refine ihr _ (st' + sb + 1) σ3 (by omega) (by omega) ((k'.tr (k2.lo (by omega))).tr k3) (hi2.mv k3) hx3 w27 w28 w29 (by omega) (by omega) (by omega) ?_
                rw [ery]
                omega
            · refine ih (d + 1) (a + 1) (pt a) y st' σ' h7 (by omega) hi' hy hy1 (by rw [hc]; omega) ?_ (fun k st2 σ2 k2 e2 => hk k st2 σ2 (k'.tr (k2.lo (by omega))) e2)
              rw [hmi, hry]
              omega
        refine over (tm a) x (st + 1) σ1 t1 t9 k1 hi1 hx1 g27 g28 g29 (Nat.le_refl _) hm (by omega) ?_
        rw [hrr]
        have hm1 : (mi + 1) * rr = mi * rr + rr := Nat.succ_mul mi rr
        omega
end RUN
/-- all is spread -/
theorem s_spread {kd tm pt : Nat → Nat} {u f z : Nat} {σ : hSt} {Q : Int32 → hSt → Prop} (hu : u ≤ 500) (hT : ∀ k, k < u → 1 ≤ tm k ∧ tm k ≤ 99) (hw : wb kd pt f 0 0 u) (hi : iS σ kd tm u) (h0 : σ 24 0 = 0)
    (hok : cnt kd tm pt f 0 u ≤ 1000 → ∀ σ', kpV 0 σ σ' → sX σ' 0 (lds kd tm pt f 0 u (0, 0, fun _ => 0)) → Q 1 σ') (hno : 1000 < cnt kd tm pt f 0 u → ∀ σ', kpV 0 σ σ' → Q 0 (hup (hup σ' 24 0 (5 : Int32)) 24 1 (nI z))) : wp_X1_spread (nI z) σ Q := by
  unfold wp_X1_spread
  intro P hP
  have k0 : kpV 0 σ (hup (hup (hup σ 24 16 (0 : Int32)) 24 7 (0 : Int32)) 24 8 (0 : Int32)) := ⟨fun k p _ _ _ _ => by rw [hup_n _ _ _ p, hup_n _ _ _ p, hup_n _ _ _ p], fun j p q r => by rw [hup_at, if_neg q, hup_at, if_neg p, hup_at, if_neg r], fun i hi => absurd hi (Nat.not_lt_zero i)⟩
  have hx0 : sX (hup (hup (hup σ 24 16 (0 : Int32)) 24 7 (0 : Int32)) 24 8 (0 : Int32)) 0 (0, 0, fun _ => 0) := ⟨by show 0 < 6; decide, by rw [hup_at, if_neg (by decide), hup_at, if_pos rfl]; rfl, by rw [hup_at, if_pos rfl]; rfl, by rw [hup_at, if_neg (by decide), hup_at, if_neg (by decide), hup_at, if_pos rfl]; rfl, fun j hj => absurd hj (Nat.not_lt_zero j)⟩
  have hS : stepS u P := fun k st σ1 m hk hst e6 e16 hm hf => by
    refine hP _ _ _ (hM_in (fun J => True) (fun J _ => ?_) trivial)
    refine br_f (nI_ge (b := 10000000) hst (by decide)) ?_
    rw [e6, e16]
    refine br_f (nI_ge (b := u) hk (by omega)) (br_f (nI_nlt (b := m) (a := 1000) hm (by decide)) ?_)
    have hf' : wp_X1_follow (nI k) σ1 (fun r16 σ15 => (∀ x3_17 : Int32, x3_17 = nI st + (1 : Int32) → P r16 x3_17 σ15)) := by
      have : (fun (r16 : Int32) (σ15 : hSt) => (∀ x3_17 : Int32, x3_17 = nI st + (1 : Int32) → P r16 x3_17 σ15)) = fun r σ' => P r (nI (st + 1)) σ' := by
        funext r σ'
        exact propext ⟨fun h => h _ (nI_suc st).symm, fun h x hx => by rw [hx, nI_suc]; exact h⟩
      rw [this]; exact hf
    exact hf'
  by_cases hc : cnt kd tm pt f 0 u ≤ 1000
  · have hst := stp_le (tm := tm) hw (fun k hk => (hT k hk).1)
    have hmx : mx (cnt kd tm pt f 0 u) ≤ 1000 := mx_le (by decide) hc
    have hb : (u - 0) * mx (cnt kd tm pt f 0 u) ≤ 500 * 1000 := Nat.mul_le_mul (by omega) hmx
    refine s_run hu hT hS f 0 0 u (0, 0, fun _ => 0) 0 _ hw (Nat.le_refl u) (hi.mv k0) hx0 (by show 0 + _ ≤ 1000; omega) (by omega) (fun σ1 k1 hx1 => ?_)
    have hi1 := (hi.mv k0).mv k1
    have e16 := hx1.2.2.2.1
    have esz := lds_sz (kd := kd) (tm := tm) (pt := pt) f 0 u (0, 0, fun _ => 0)
    have esz' : (lds kd tm pt f 0 u (0, 0, fun _ => 0)).2.1 = cnt kd tm pt f 0 u := by rw [esz]; show 0 + _ = _; omega
    refine hP _ _ _ (hM_in (fun J => J) (fun J hJ => ?_) ?_)
    · refine ⟨fun _ => hJ, fun _ => br_t (by rw [hi1.1]; exact nI_le (Nat.le_refl u) (by omega)) hJ⟩
    · unfold wp_X10_kind_r24
      refine br_t (by rw [e16, esz']; exact nI_le (b := 1000) hc (by decide)) ?_
      have e0 : σ1 24 0 = 0 := by rw [k1.2.1 0 (by decide) (by decide) (by decide), k0.2.1 0 (by decide) (by decide) (by decide)]; exact h0
      exact ⟨fun y => absurd e0 y, fun _ => hok hc σ1 (k0.tr k1) hx1⟩
  · have hst : (u - 0) * (1001 - 0) ≤ 500 * 1001 := Nat.mul_le_mul (by omega) (by omega)
    refine s_over hu hT hS f 0 0 u (0, 0, fun _ => 0) 0 _ hw (Nat.le_refl u) (hi.mv k0) hx0 (Nat.zero_le _) (by show 1000 < 0 + _; omega) (by show 0 + (u - 0) * (1001 - 0) ≤ _; omega) (fun k st' σ1 k1 e16 => ?_)
    refine hP _ _ _ (hM_in (fun J => J) (fun J hJ => ?_) ?_)
    · refine ⟨fun _ => hJ, fun _ => ⟨fun _ => hJ, fun _ => br_t (by rw [e16]; exact nI_lt (a := 1000) (b := 1001) (by decide) (by decide)) hJ⟩⟩
    · unfold wp_X10_kind_r24 wp_X10_refuse_r24
      refine br_f (by rw [e16]; exact nI_ge (a := 1000) (b := 1001) (by decide) (by decide)) ?_
      have e0 : (hup (hup σ1 24 0 (5 : Int32)) 24 1 (nI z)) 24 0 = 5 := by rw [hup_at, if_neg (by decide), hup_at, if_pos rfl]
      exact ⟨fun _ => hno (by omega) σ1 (k0.tr k1), fun y => absurd (e0.symm.trans y) (by decide)⟩

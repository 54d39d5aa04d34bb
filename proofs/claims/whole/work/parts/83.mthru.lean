def sgI (c : Nat) : Int32 := if c = 999 then -1 else nI c
def m_ms (s : Nat → Nat) : Nat → Nat := fun k => if k = 64 then s 50 else if k = 65 then s 51 else s (100 + k)
def m_P (n c p : Nat) (σ : hSt) (t : Nat → Nat) : Prop := m_z σ t ∧ (t 0 = 0 → c ≠ 999 → m_ok n (p + 1) t ∧ m_x n σ t ∧ m_pd n (p + 1) t ∧ m_d σ t) ∧ (t 0 = 0 → c = 999 → vM n (t 7) (m_ms t) ∧ 0 < t 7 ∧ cM σ 22 n (t 7) (m_ms t))
theorem m_I.P {n c p : Nat} {σ : hSt} {t : Nat → Nat} (hc : c ≠ 999) (h : m_I n (p + 1) σ t) : m_P n c p σ t := ⟨h.1, fun z _ => h.2 z, fun _ z => absurd z hc⟩
theorem m_P.rf {n c p k q : Nat} {σ : hSt} {s : Nat → Nat} (hk : k ≠ 0) (hk3 : k ≤ 3) : m_P n c p (hup (hup σ 21 0 (nI k)) 21 1 (nI q)) (m_rf k q s) := ⟨(m_I_rf (n := n) (q := p) hk hk3).1, fun z => by rw [rf_0] at z; exact absurd z hk, fun z => by rw [rf_0] at z; exact absurd z hk⟩
theorem vM_of {n p : Nat} {s : Nat → Nat} (ho : m_ok n p s) (h5 : s 5 = 2) (h6 : 2 ≤ s 6) : vM n (s 7) (m_ms s) ∧ 0 < s 7 := by
  obtain ⟨⟨a1, a2, a3, a4, a5, a6⟩, b, c, d, e, f⟩ := ho
  obtain ⟨f1, f2⟩ := f (by omega)
  refine ⟨⟨f2, fun k hk => ?_⟩, f1⟩
  unfold m_ms
  rcases hk with hk | hk | hk
  · rw [if_neg (by omega), if_neg (by omega)]; exact b k hk
  · rw [if_pos hk]; exact c (Or.inl h5)
  · rw [if_neg (by omega), if_pos hk]; exact d ⟨h5, h6⟩
theorem sg_b {n c p : Nat} {s : Nat → Nat} (h : c = 32 ∨ c = 10) : m_sg n c p s = s := by unfold m_sg; rw [if_pos h]
theorem sg_x {n c p : Nat} {s : Nat → Nat} (h : c = 120 ∨ c = 45) : m_sg n c p s = m_cr n p s := by unfold m_sg; rw [if_neg (by omega), if_pos h]
theorem sg_m {n p : Nat} {s : Nat → Nat} : m_sg n 38 p s = m_mr 1 p s := by unfold m_sg; rw [if_neg (by decide), if_neg (by decide), if_pos rfl]
theorem sg_p {n p : Nat} {s : Nat → Nat} : m_sg n 43 p s = m_mr 0 p s := by unfold m_sg; rw [if_neg (by decide), if_neg (by decide), if_neg (by decide), if_pos rfl]
theorem sg_d {n p : Nat} {s : Nat → Nat} : m_sg n 46 p s = m_dt p s := by unfold m_sg; rw [if_neg (by decide), if_neg (by decide), if_neg (by decide), if_neg (by decide), if_pos rfl]
theorem sg_c {n p : Nat} {s : Nat → Nat} : m_sg n 44 p s = m_cm p s := by unfold m_sg; rw [if_neg (by decide), if_neg (by decide), if_neg (by decide), if_neg (by decide), if_neg (by decide), if_pos rfl]
theorem sg_s {n p : Nat} {s : Nat → Nat} : m_sg n 59 p s = m_sc p s := by unfold m_sg; rw [if_neg (by decide), if_neg (by decide), if_neg (by decide), if_neg (by decide), if_neg (by decide), if_neg (by decide), if_pos rfl]
theorem sg_e {n p : Nat} {s : Nat → Nat} : m_sg n 999 p s = m_ee p s := by unfold m_sg; rw [if_neg (by decide), if_neg (by decide), if_neg (by decide), if_neg (by decide), if_neg (by decide), if_neg (by decide), if_neg (by decide), if_pos rfl]
theorem sg_o {n c p : Nat} {s : Nat → Nat} (h1 : c ≠ 32 ∧ c ≠ 10 ∧ c ≠ 120 ∧ c ≠ 45) (h2 : c ≠ 38 ∧ c ≠ 43 ∧ c ≠ 46 ∧ c ≠ 44 ∧ c ≠ 59 ∧ c ≠ 999) : m_sg n c p s = m_rf 1 p s := by
  obtain ⟨a, b, cc, d⟩ := h1
  obtain ⟨e, f, g, h, i, j⟩ := h2
  unfold m_sg; rw [if_neg (by omega), if_neg (by omega), if_neg e, if_neg f, if_neg g, if_neg h, if_neg i, if_neg j]
section MSG
variable {n c p : Nat} {σ : hSt} {s : Nat → Nat} {Q : hSt → Prop}
theorem x_cross (h4 : 4 ≤ n) (hn : n ≤ 8) (hp : p ≤ 600) (h0 : s 0 = 0) (h2 : s 2 = 0) (hz : m_z σ s) (ho : m_ok n p s) (hx : m_x n σ s) (hd : σ 21 2 = -1) (hQ : ∀ σ', kpM σ σ' → m_I n (p + 1) σ' (m_cr n p s) → Q σ') : wp_X3_takeCross (nI p) σ Q := by
  have ho' := ho
  obtain ⟨⟨a1, a2, a3, a4, a5, a6⟩, -⟩ := ho'
  have hx' := hx
  obtain ⟨x1, x2, x3, x4, x5⟩ := hx'
  unfold wp_X3_takeCross wp_X10_refuse_r21
  dsimp only [hM_]
  have go : ¬ (2 ≤ s 6 ∧ s 5 ≠ 0) → ((((σ 21 4) - (σ 21 4) / (2 : Int32) * (2 : Int32)) = 0 → (wp_X6_changeMaking (0 : Int32) (σ 21 4) (fun r5 => (wp_X3_addChange r5 σ (fun σ6 => (Q (hup σ6 21 6 (2 : Int32)))))))) ∧ (¬ ((σ 21 4) - (σ 21 4) / (2 : Int32) * (2 : Int32)) = 0 → Q (hup (hup σ 21 0 (2 : Int32)) 21 1 (nI p)))) := fun hc => by
    rw [x1, show nI n - nI n / (2 : Int32) * (2 : Int32) = nI (n % 2) from pk_rem (d := 2) (by omega) (by decide) (by decide)]
    refine pk_eq (n % 2) 0 (fun q => ?_) (fun q => ?_) rfl rfl
    · have e : m_cr n p s = upN (m_ad 0 s) 6 2 := by unfold m_cr; rw [if_neg hc, if_neg (by omega)]
      have v := vis_0 hn q
      refine s_changeMaking (m := 0) (μ := 0) hn (by omega) (by decide) v.1 (fun _ _ => rfl) ?_
      refine x_add (st := 2) hp ho hx (by decide) (fun σ' k1 k2 k3 => hQ σ' k1 ?_)
      rw [e]
      have g : ∀ j, j ≠ 6 → j ≠ 7 → j < 50 → upN (m_ad 0 s) 6 2 j = s j := fun j i1 i2 i3 => by rw [upN_ne i1, ad_lo a1 i2 i3]
      refine ⟨⟨?_, ?_, ?_⟩, fun _ => ⟨?_, k3, pd_none ?_, ?_, fun z => ?_⟩⟩
      · rw [k2 0 (by decide) (by decide), g 0 (by decide) (by decide) (by decide)]; exact hz.1
      · rw [k2 1 (by decide) (by decide), g 1 (by decide) (by decide) (by decide)]; exact hz.2.1
      · rw [g 0 (by decide) (by decide) (by decide)]; exact hz.2.2
      · exact ok_add ho v (Or.inl rfl) (Nat.le_succ p) (fun z => by have := a5 z; omega)
      · rw [g 2 (by decide) (by decide) (by decide)]; exact h2
      · rw [g 2 (by decide) (by decide) (by decide), if_pos h2, k2 2 (by decide) (by decide)]; exact hd
      · rw [g 2 (by decide) (by decide) (by decide)] at z; exact absurd h2 z
    · have e : m_cr n p s = m_rf 2 p s := by unfold m_cr; rw [if_neg hc, if_pos (by omega)]
      rw [e] at hQ
      exact x_rf (k := 2) (by decide) (by decide) hQ
  refine x_ce (x2 6 (by decide) (by decide)) a2 (fun q6 => br_f (by decide) ?_) (fun q6 => br_t rfl (go (fun hc => by omega)))
  refine pk_eq (s 5) 0 (fun q5 => go (fun hc => hc.2 q5)) (fun q5 => ?_) (x2 5 (by decide) (by decide)) rfl
  have e : m_cr n p s = m_rf 1 p s := by unfold m_cr; rw [if_pos ⟨q6, q5⟩]
  rw [e] at hQ
  exact x_rf (k := 1) (by decide) (by decide) hQ
theorem x_mark {b : Nat} (hb : b ≤ 1) (h0 : s 0 = 0) (h2 : s 2 = 0) (hz : m_z σ s) (ho : m_ok n p s) (hx : m_x n σ s) (hd : σ 21 2 = -1) (hQ : ∀ σ', kpM σ σ' → m_I n (p + 1) σ' (m_mr b p s) → Q σ') : wp_X3_takeMark (nI b) (nI p) σ Q := by
  have ho' := ho
  obtain ⟨⟨a1, a2, a3, a4, a5, a6⟩, -⟩ := ho'
  have hx' := hx
  obtain ⟨x1, x2, x3, x4, x5⟩ := hx'
  unfold wp_X3_takeMark wp_X10_refuse_r21
  refine pk_eq (s 6) 0 (fun q => ⟨?_, ?_⟩) (fun q => ?_) (x2 6 (by decide) (by decide)) rfl
  · rcases (by omega : b = 0 ∨ b = 1) with rfl | rfl
    · exact hbo_0
    · exact hbo_1
  · have e : m_mr b p s = upN (upN s 9 b) 6 1 := by unfold m_mr; rw [if_pos q]
    rw [e] at hQ
    have g : ∀ j, j ≠ 6 → j ≠ 9 → upN (upN s 9 b) 6 1 j = s j := fun j i1 i2 => by rw [upN_ne i1, upN_ne i2]
    have gl : ∀ j, j ≠ 6 → j ≠ 9 → (hup (hup σ 21 9 (nI b)) 21 6 (1 : Int32)) 21 j = σ 21 j := fun j i1 i2 => by rw [hup_at, if_neg i1, hup_at, if_neg i2]
    refine hQ _ ((kpM.h (Or.inl rfl)).tr (kpM.h (Or.inl rfl))) ⟨⟨?_, ?_, ?_⟩, fun _ => ⟨ok_mark ho hb, ⟨?_, fun j i1 i2 => hu_up rfl (hu_up rfl (x2 j i1 i2)), fun k i1 i2 => ?_, fun z => ?_, fun z => ?_⟩, pd_none ?_, ?_, fun z => ?_⟩⟩
    · rw [gl 0 (by decide) (by decide), g 0 (by decide) (by decide)]; exact hz.1
    · rw [gl 1 (by decide) (by decide), g 1 (by decide) (by decide)]; exact hz.2.1
    · rw [g 0 (by decide) (by decide)]; exact hz.2.2
    · rw [gl 4 (by decide) (by decide)]; exact x1
    · rw [g 7 (by decide) (by decide)] at i1
      rw [hup_ne _ _ (by decide), hup_ne _ _ (by decide), g _ (by omega) (by omega)]; exact x3 k i1 i2
    · rw [g 5 (by decide) (by decide), upN_eq] at z
      rw [hup_ne _ _ (by decide), hup_ne _ _ (by decide), g 50 (by decide) (by decide)]; exact x4 (by omega)
    · rw [upN_eq] at z; omega
    · rw [g 2 (by decide) (by decide)]; exact h2
    · rw [g 2 (by decide) (by decide), if_pos h2, gl 2 (by decide) (by decide)]; exact hd
    · rw [g 2 (by decide) (by decide)] at z; exact absurd h2 z
  · have e : m_mr b p s = m_rf 1 p s := by unfold m_mr; rw [if_neg q]
    rw [e] at hQ
    exact x_rf (k := 1) (by decide) (by decide) hQ
theorem x_dot (h0 : s 0 = 0) (h2 : s 2 = 0) (hz : m_z σ s) (ho : m_ok n p s) (hx : m_x n σ s) (hd : σ 21 2 = -1) (hQ : ∀ σ', kpM σ σ' → m_I n (p + 1) σ' (m_dt p s) → Q σ') : wp_X3_takeDot (nI p) σ Q := by
  have ho' := ho
  obtain ⟨⟨a1, a2, a3, a4, a5, a6⟩, -⟩ := ho'
  have hx' := hx
  obtain ⟨x1, x2, x3, x4, x5⟩ := hx'
  have bad : ¬ (s 5 = 0 ∧ 2 ≤ s 6) → Q (hup (hup σ 21 0 (1 : Int32)) 21 1 (nI p)) := fun hc => by
    have e : m_dt p s = m_rf 1 p s := by unfold m_dt; rw [if_neg hc]
    rw [e] at hQ
    exact x_rf (k := 1) (by decide) (by decide) hQ
  unfold wp_X3_takeDot wp_X10_refuse_r21
  refine pk_en (s 5) 0 (fun q => bad (fun hc => q hc.1)) (fun q => ?_) (x2 5 (by decide) (by decide)) rfl
  refine x_ce (x2 6 (by decide) (by decide)) a2 (fun q6 => ⟨fun _ => ?_, fun y => absurd y (by decide)⟩) (fun q6 => ⟨fun y => absurd rfl y, fun _ => bad (fun hc => by omega)⟩)
  have e : m_dt p s = upN s 6 1 := by unfold m_dt; rw [if_pos ⟨q, q6⟩]
  rw [e] at hQ
  have g : ∀ j, j ≠ 6 → upN s 6 1 j = s j := fun j i1 => upN_ne i1
  have gl : ∀ j, j ≠ 6 → (hup σ 21 6 (1 : Int32)) 21 j = σ 21 j := fun j i1 => by rw [hup_at, if_neg i1]
  refine hQ _ (kpM.h (Or.inl rfl)) ⟨⟨?_, ?_, ?_⟩, fun _ => ⟨ok_dot ho, ⟨?_, fun j i1 i2 => hu_up rfl (x2 j i1 i2), fun k i1 i2 => ?_, fun z => ?_, fun z => ?_⟩, pd_none ?_, ?_, fun z => ?_⟩⟩
  · rw [gl 0 (by decide), g 0 (by decide)]; exact hz.1
  · rw [gl 1 (by decide), g 1 (by decide)]; exact hz.2.1
  · rw [g 0 (by decide)]; exact hz.2.2
  · rw [gl 4 (by decide)]; exact x1
  · rw [g 7 (by decide)] at i1
    rw [hup_ne _ _ (by decide), g _ (by omega)]; exact x3 k i1 i2
  · rw [g 5 (by decide)] at z; omega
  · rw [g 5 (by decide)] at z; omega
  · rw [g 2 (by decide)]; exact h2
  · rw [g 2 (by decide), if_pos h2, gl 2 (by decide)]; exact hd
  · rw [g 2 (by decide)] at z; exact absurd h2 z
theorem x_comma (hp : p ≤ 600) (h0 : s 0 = 0) (h2 : s 2 = 0) (hz : m_z σ s) (ho : m_ok n p s) (hx : m_x n σ s) (hd : σ 21 2 = -1) (hQ : ∀ σ', kpM σ σ' → m_I n (p + 1) σ' (m_cm p s) → Q σ') : wp_X3_takeComma (nI p) σ Q := by
  have ho' := ho
  obtain ⟨⟨a1, a2, a3, a4, a5, a6⟩, -⟩ := ho'
  have hx' := hx
  obtain ⟨x1, x2, x3, x4, x5⟩ := hx'
  have bad : ¬ (s 5 = 0 ∧ 2 ≤ s 6) → Q (hup (hup σ 21 0 (1 : Int32)) 21 1 (nI p)) := fun hc => by
    have e : m_cm p s = m_rf 1 p s := by unfold m_cm; rw [if_neg hc]
    rw [e] at hQ
    exact x_rf (k := 1) (by decide) (by decide) hQ
  unfold wp_X3_takeComma wp_X10_refuse_r21
  refine pk_en (s 5) 0 (fun q => bad (fun hc => q hc.1)) (fun q => ?_) (x2 5 (by decide) (by decide)) rfl
  refine x_ce (x2 6 (by decide) (by decide)) a2 (fun q6 => ⟨fun _ => ?_, fun y => absurd y (by decide)⟩) (fun q6 => ⟨fun y => absurd rfl y, fun _ => bad (fun hc => by omega)⟩)
  have e : m_cm p s = m_bb (m_cb p s) := by unfold m_cm; rw [if_pos ⟨q, q6⟩]
  rw [e] at hQ
  refine x_cb hp ho hx hz q q6 (fun σ' k1 k2 kz k3 => ?_)
  unfold wp_X3_beginBlock
  have gl : ∀ j, j ≠ 6 → j ≠ 8 → j ≠ 9 → (hup (hup (hup σ' 21 6 (0 : Int32)) 21 8 ((hup σ' 21 6 (0 : Int32)) 21 7)) 21 9 (0 : Int32)) 21 j = σ' 21 j := fun j i1 i2 i3 => by rw [hup_at, if_neg i3, hup_at, if_neg i2, hup_at, if_neg i1]
  have g : ∀ j, j ≠ 6 → j ≠ 8 → j ≠ 9 → m_bb (m_cb p s) j = m_cb p s j := fun j i1 i2 i3 => by unfold m_bb; rw [upN_ne i3, upN_ne i2, upN_ne i1]
  refine hQ _ (((k1.tr (kpM.h (Or.inl rfl))).tr (kpM.h (Or.inl rfl))).tr (kpM.h (Or.inl rfl))) ⟨⟨?_, ?_, ?_⟩, fun z => ?_⟩
  · rw [gl 0 (by decide) (by decide) (by decide), g 0 (by decide) (by decide) (by decide)]; exact kz.1
  · rw [gl 1 (by decide) (by decide) (by decide), g 1 (by decide) (by decide) (by decide)]; exact kz.2.1
  · rw [g 0 (by decide) (by decide) (by decide)]; exact kz.2.2
  · rw [g 0 (by decide) (by decide) (by decide)] at z
    have hc := (cb_0 h0).mp z
    have e2 : m_bb (m_cb p s) 2 = 0 := by rw [g 2 (by decide) (by decide) (by decide), cb_lo hc (by decide) (by decide)]; exact h2
    obtain ⟨y1, y2, y3, y4, y5⟩ := k3 hc
    refine ⟨ok_comma ho q q6 hc, ⟨?_, fun j i1 i2 => ?_, fun k i1 i2 => ?_, fun z2 => ?_, fun z2 => ?_⟩, pd_none e2, ?_, fun z2 => absurd e2 z2⟩
    · rw [gl 4 (by decide) (by decide) (by decide)]; exact y1
    · unfold m_bb
      refine hu_up rfl (hu_up ?_ (hu_up rfl (y2 j i1 i2)))
      rw [hup_at, if_neg (by decide)]; exact y2 7 (by decide) (by decide)
    · rw [g 7 (by decide) (by decide) (by decide)] at i1
      rw [hup_ne _ _ (by decide), hup_ne _ _ (by decide), hup_ne _ _ (by decide), g _ (by omega) (by omega) (by omega)]; exact y3 k i1 i2
    · rw [g 5 (by decide) (by decide) (by decide), cb_lo hc (by decide) (by decide)] at z2; omega
    · rw [g 5 (by decide) (by decide) (by decide), cb_lo hc (by decide) (by decide)] at z2; omega
    · rw [e2, if_pos rfl, gl 2 (by decide) (by decide) (by decide), k2 2 (by decide) (by decide) (by decide)]; exact hd
theorem x_semi (hp : p ≤ 600) (h0 : s 0 = 0) (h2 : s 2 = 0) (hz : m_z σ s) (ho : m_ok n p s) (hx : m_x n σ s) (hd : σ 21 2 = -1) (hQ : ∀ σ', kpM σ σ' → m_I n (p + 1) σ' (m_sc p s) → Q σ') : wp_X3_takeSemicolon (nI p) σ Q := by
  have ho' := ho
  obtain ⟨⟨a1, a2, a3, a4, a5, a6⟩, -⟩ := ho'
  have hx' := hx
  obtain ⟨x1, x2, x3, x4, x5⟩ := hx'
  have bad : ¬ (s 5 ≠ 2 ∧ 2 ≤ s 6) → Q (hup (hup σ 21 0 (1 : Int32)) 21 1 (nI p)) := fun hc => by
    have e : m_sc p s = m_rf 1 p s := by unfold m_sc; rw [if_neg hc]
    rw [e] at hQ
    exact x_rf (k := 1) (by decide) (by decide) hQ
  unfold wp_X3_takeSemicolon wp_X10_refuse_r21
  refine pk_eq (s 5) 2 (fun q => bad (fun hc => hc.1 q)) (fun q => ?_) (x2 5 (by decide) (by decide)) rfl
  refine x_ce (x2 6 (by decide) (by decide)) a2 (fun q6 => ⟨fun _ => ?_, fun y => absurd y (by decide)⟩) (fun q6 => ⟨fun y => absurd rfl y, fun _ => bad (fun hc => by omega)⟩)
  have e : m_sc p s = m_pt (if s 5 = 0 then m_cb p s else s) := by unfold m_sc; rw [if_pos ⟨q, q6⟩]
  rw [e] at hQ
  -- the part told, one further
  have fin : ∀ σ' t, kpM σ σ' → m_z σ' t → (t 0 = 0 → m_ok n (p + 1) (m_pt t) ∧ m_x n σ' t ∧ t 2 = 0 ∧ t 5 < 2 ∧ 2 ≤ t 6 ∧ σ' 21 2 = -1) → (∀ j, j = 5 → σ' 21 j = nI (t j)) → (∀ σ', kpM σ σ' → m_I n (p + 1) σ' (m_pt t) → Q σ') → Q (hup (hup σ' 21 5 ((σ' 21 5) + (1 : Int32))) 21 6 (1 : Int32)) := fun σ' t k1 kz k3 k5 hQ => by
    have gl : ∀ j, j ≠ 5 → j ≠ 6 → (hup (hup σ' 21 5 ((σ' 21 5) + (1 : Int32))) 21 6 (1 : Int32)) 21 j = σ' 21 j := fun j i1 i2 => by rw [hup_at, if_neg i2, hup_at, if_neg i1]
    have g : ∀ j, j ≠ 5 → j ≠ 6 → m_pt t j = t j := fun j i1 i2 => by unfold m_pt; rw [upN_ne i2, upN_ne i1]
    refine hQ _ ((k1.tr (kpM.h (Or.inl rfl))).tr (kpM.h (Or.inl rfl))) ⟨⟨?_, ?_, ?_⟩, fun z => ?_⟩
    · rw [gl 0 (by decide) (by decide), g 0 (by decide) (by decide)]; exact kz.1
    · rw [gl 1 (by decide) (by decide), g 1 (by decide) (by decide)]; exact kz.2.1
    · rw [g 0 (by decide) (by decide)]; exact kz.2.2
    · rw [g 0 (by decide) (by decide)] at z
      obtain ⟨w1, ⟨y1, y2, y3, y4, y5⟩, w2, w3, w5, w4⟩ := k3 z
      have e2 : m_pt t 2 = 0 := by rw [g 2 (by decide) (by decide)]; exact w2
      refine ⟨w1, ⟨?_, fun j i1 i2 => ?_, fun k i1 i2 => ?_, fun z2 => ?_, fun z2 => ?_⟩, pd_none e2, ?_, fun z2 => absurd e2 z2⟩
      · rw [gl 4 (by decide) (by decide)]; exact y1
      · unfold m_pt
        exact hu_up rfl (hu_up (by rw [k5 5 rfl, nI_suc]) (y2 j i1 i2))
      · rw [g 7 (by decide) (by decide)] at i1
        rw [hup_ne _ _ (by decide), hup_ne _ _ (by decide), g _ (by omega) (by omega)]; exact y3 k i1 i2
      · have p5 : m_pt t 5 = t 5 + 1 := by unfold m_pt; rw [upN_ne (by decide), upN_eq]
        have p6 : m_pt t 6 = 1 := by unfold m_pt; rw [upN_eq]
        rw [p5, p6] at z2
        rw [hup_ne _ _ (by decide), hup_ne _ _ (by decide), g 50 (by decide) (by decide)]
        exact y4 (Or.inr ⟨by omega, w5⟩)
      · have p6 : m_pt t 6 = 1 := by unfold m_pt; rw [upN_eq]
        rw [p6] at z2; omega
      · rw [e2, if_pos rfl, gl 2 (by decide) (by decide)]; exact w4
  dsimp only [hM_]
  refine pk_en (s 5) 0 (fun q5 => ?_) (fun q5 => ?_) (x2 5 (by decide) (by decide)) rfl
  · rw [if_neg q5] at hQ
    exact fin σ s kpM.rf hz (fun _ => ⟨ok_semi1 ho (by omega) q6, hx, h2, by omega, q6, hd⟩) (fun j hj => by subst hj; exact x2 5 (by decide) (by decide)) hQ
  · rw [if_pos q5] at hQ
    refine x_cb hp ho hx hz q5 q6 (fun σ' k1 k2 kz k3 => ?_)
    have e5 : σ' 21 5 = nI (m_cb p s 5) := by
      rw [k2 5 (by decide) (by decide) (by decide), x2 5 (by decide) (by decide)]
      by_cases hc : s 7 + m_bk s ≤ 64
      · rw [cb_lo hc (by decide) (by decide)]
      · rw [cb_no hc]; unfold m_rf; rw [upN_ne (by decide), upN_ne (by decide)]
    refine fin σ' (m_cb p s) k1 kz (fun z => ?_) (fun j hj => by subst hj; exact e5) hQ
    have hc := (cb_0 h0).mp z
    refine ⟨ok_semi0 ho q5 q6 hc, k3 hc, ?_, ?_, ?_, ?_⟩
    · rw [cb_lo hc (by decide) (by decide)]; exact h2
    · rw [cb_lo hc (by decide) (by decide)]; omega
    · rw [cb_lo hc (by decide) (by decide)]; exact q6
    · rw [k2 2 (by decide) (by decide) (by decide)]; exact hd
theorem x_end (hn : n ≤ 8) (h0 : s 0 = 0) (hz : m_z σ s) (ho : m_ok n p s) (hx : m_x n σ s) (hQ : ∀ σ', kpM σ σ' → m_P n 999 p σ' (m_ee p s) → Q σ') : wp_X3_takeEnd (nI p) σ Q := by
  have ho' := ho
  obtain ⟨⟨a1, a2, a3, a4, a5, a6⟩, -⟩ := ho'
  have hx' := hx
  obtain ⟨x1, x2, x3, x4, x5⟩ := hx'
  have bad : ¬ (s 5 = 2 ∧ 2 ≤ s 6) → Q (hup (hup σ 21 0 (1 : Int32)) 21 1 (nI p)) := fun hc => by
    have e : m_ee p s = m_rf 1 p s := by unfold m_ee; rw [if_neg hc]
    rw [e] at hQ
    exact hQ _ ((kpM.h (Or.inl rfl)).tr (kpM.h (Or.inl rfl))) (m_P.rf (k := 1) (by decide) (by decide))
  unfold wp_X3_takeEnd wp_X10_refuse_r21
  refine pk_en (s 5) 2 (fun q => bad (fun hc => q hc.1)) (fun q => ?_) (x2 5 (by decide) (by decide)) rfl
  refine x_ce (x2 6 (by decide) (by decide)) a2 (fun q6 => ⟨fun _ => ?_, fun y => absurd y (by decide)⟩) (fun q6 => ⟨fun y => absurd rfl y, fun _ => bad (fun hc => by omega)⟩)
  have e : m_ee p s = s := by unfold m_ee; rw [if_pos ⟨q, q6⟩]
  rw [e] at hQ
  obtain ⟨v1, v2⟩ := vM_of ho q q6
  have h64 := v1.1
  rw [x2 7 (by decide) (by decide), x1]
  refine s_complete (k0 := 22) (μ := m_ms s) hn rfl v1 v2 (fun k hk => ?_) ?_ ?_ (fun σ' o1 hcm => ?_)
  · have : m_ms s k = s (100 + k) := by unfold m_ms; rw [if_neg (by omega), if_neg (by omega)]
    rw [this]; exact x3 k hk (by omega)
  · exact x4 (Or.inl q)
  · exact x5 ⟨q, q6⟩
  · refine hQ σ' (fun k i1 i2 i3 => o1 k i2) ⟨⟨?_, ?_, hz.2.2⟩, fun _ z => absurd rfl z, fun _ _ => ⟨v1, v2, hcm⟩⟩
    · rw [o1 21 (by decide)]; exact hz.1
    · rw [o1 21 (by decide)]; exact hz.2.1
/-- any sign but a digit -/
theorem x_sg (h4 : 4 ≤ n) (hn : n ≤ 8) (hp : p ≤ 600) (hc : c < 256 ∨ c = 999) (h0 : s 0 = 0) (h2 : s 2 = 0) (hz : m_z σ s) (ho : m_ok n p s) (hx : m_x n σ s) (hd : σ 21 2 = -1) (hQ : ∀ σ', kpM σ σ' → m_P n c p σ' (m_sg n c p s) → Q σ') : wp_X3_takeSign (sgI c) (nI p) σ Q := by
  unfold wp_X3_takeSign
  dsimp only [hM_]
  intro x hx4
  subst hx4
  by_cases h9 : c = 999
  · subst h9
    rw [sg_e] at hQ
    exact br_t rfl (x_end hn h0 hz ho hx hQ)
  have ec : sgI c = nI c := by unfold sgI; rw [if_neg h9]
  have hc' : c < 256 := by omega
  rw [ec]
  refine br_f (nI_ne_m1 c (by omega)) ?_
  have blank : (c = 32 ∨ c = 10) → Q σ := fun hb => by
    rw [sg_b hb] at hQ
    exact hQ σ kpM.rf (m_I.P h9 ⟨hz, fun _ => ⟨ho.mono (Nat.le_succ p), hx, pd_none h2, by rw [if_pos h2]; exact hd, fun z => absurd h2 z⟩⟩)
  have hI : ∀ t, m_sg n c p s = t → ∀ σ', kpM σ σ' → m_I n (p + 1) σ' t → Q σ' := fun t e σ' k h => hQ σ' k (by rw [e]; exact h.P h9)
  refine pk_eq c 10 (fun z => blank (Or.inr z)) (fun z1 => ?_) rfl rfl
  refine pk_eq c 32 (fun z => blank (Or.inl z)) (fun z2 => ?_) rfl rfl
  refine pk_eq c 38 (fun z => ?_) (fun z3 => ?_) rfl rfl
  · subst z
    exact ⟨fun q => absurd rfl q, fun _ => x_mark (b := 1) (by decide) h0 h2 hz ho hx hd (hI _ sg_m)⟩
  refine pk_eq c 43 (fun z => ?_) (fun z4 => ?_) rfl rfl
  · subst z
    exact ⟨fun _ => x_mark (b := 0) (by decide) h0 h2 hz ho hx hd (hI _ sg_p), fun q => absurd q (by decide)⟩
  refine pk_eq c 44 (fun z => ?_) (fun z5 => ?_) rfl rfl
  · subst z
    exact x_comma hp h0 h2 hz ho hx hd (hI _ sg_c)
  refine pk_eq c 45 (fun z => ?_) (fun z6 => ?_) rfl rfl
  · exact x_cross h4 hn hp h0 h2 hz ho hx hd (hI _ (sg_x (Or.inr z)))
  refine pk_eq c 46 (fun z => ?_) (fun z7 => ?_) rfl rfl
  · subst z
    exact x_dot h0 h2 hz ho hx hd (hI _ sg_d)
  refine pk_eq c 59 (fun z => ?_) (fun z8 => ?_) rfl rfl
  · subst z
    exact x_semi hp h0 h2 hz ho hx hd (hI _ sg_s)
  refine pk_eq c 120 (fun z => ?_) (fun z9 => ?_) rfl rfl
  · exact x_cross h4 hn hp h0 h2 hz ho hx hd (hI _ (sg_x (Or.inl z)))
  unfold wp_X10_refuse_r21
  exact x_rf (k := 1) (by decide) (by decide) (hI _ (sg_o ⟨z2, z1, z9, z6⟩ ⟨z3, z4, z7, z5, z8, h9⟩))
/-- one sign -/
theorem x_take (h4 : 4 ≤ n) (hn : n ≤ 8) (hp : p ≤ 600) (hc : c < 256 ∨ c = 999) (h0 : s 0 = 0) (hz : m_z σ s) (ho : m_ok n p s) (hx : m_x n σ s) (hpd : m_pd n p s) (hd : m_d σ s) (hQ : ∀ σ', kpM σ σ' → m_P n c p σ' (m_st n c p s) → Q σ') : wp_X10_take_r21 (sgI c) (nI p) σ Q := by
  have hd' := hd
  obtain ⟨d1, d2⟩ := hd'
  unfold wp_X10_take_r21 wp_X3_isDigit
  have dig : (49 ≤ c ∧ c ≤ 56) → c ≠ 999 → wp_X3_takeDigit (sgI c - (48 : Int32)) (if s 2 = 0 then 1 else 0) (nI p) (hup σ 21 2 (if s 2 = 0 then nI p else σ 21 2)) (fun σ11 => Q σ11) := fun hdg h9 => by
    have e : m_st n c p s = m_dg n (c - 48) p s := by unfold m_st; rw [if_pos hdg]
    rw [e] at hQ
    have ec : sgI c = nI c := by unfold sgI; rw [if_neg h9]
    rw [ec, show (48 : Int32) = nI 48 from rfl, pk_sub (by omega)]
    have hI : ∀ σ', kpM σ σ' → m_I n (p + 1) σ' (m_dg n (c - 48) p s) → Q σ' := fun σ' k h => hQ σ' k (h.P h9)
    by_cases h2 : s 2 = 0
    · rw [if_pos h2, if_pos h2]
      exact x_dg1 hn hp (by omega) (by omega) h0 h2 hz ho hx hI
    · rw [if_neg h2, if_neg h2]
      exact x_dg2 hn hp (by omega) (by omega) h0 h2 hz ho hx hpd hd hI
  have oth_ : ¬ (49 ≤ c ∧ c ≤ 56) → (hM_ (fun (σ4 : hSt) => ((¬ (σ4 21 0) = 0 → (Q σ4)) ∧ ((σ4 21 0) = 0 → (wp_X3_takeSign (sgI c) (nI p) σ4 (fun σ6 => (Q σ6)))))) (fun J70 : hSt → Prop => (((σ 21 2) = (-1 : Int32) → (J70 σ)) ∧ (¬ (σ 21 2) = (-1 : Int32) → (wp_X3_takeDigitsEnd (σ 21 2) σ (fun σ8 => (J70 (hup σ8 21 2 (-1 : Int32))))))))) := fun hdg => by
    refine hM_in (fun J => ∀ σ4 t, kpM σ σ4 → m_I n p σ4 t → t 2 = 0 → (t 0 = 0 → m_st n c p s = m_sg n c p t) → (t 0 ≠ 0 → m_st n c p s = t) → J σ4) (fun J hJ => ?_) ?_
    · by_cases h2 : s 2 = 0
      · rw [if_pos h2] at d1
        refine br_t d1 (hJ σ s kpM.rf ⟨hz, fun _ => ⟨ho, hx, hpd, hd⟩⟩ h2 (fun _ => ?_) (fun z => absurd h0 z))
        unfold m_st; rw [if_neg hdg, if_pos h2]
      · rw [if_neg h2] at d1
        obtain ⟨b1, -⟩ := hpd h2
        refine br_f (by rw [d1]; exact nI_ne_m1 _ (by omega)) ?_
        refine x_en h4 hn hp h0 h2 hz ho hx hpd hd (fun σ8 k8 h8 => ?_)
        refine hJ _ (m_nd n s) (k8.tr (kpM.h (Or.inl rfl))) h8 (by unfold m_nd; rw [upN_eq]) (fun z => ?_) (fun z => ?_)
        · unfold m_st; rw [if_neg hdg, if_neg h2, if_pos z]
        · unfold m_st; rw [if_neg hdg, if_neg h2, if_neg z]
    · intro σ4 t k4 h8 t2 e1 e2
      try dsimp only
      obtain ⟨z1, z2, z3⟩ := h8.1
      refine pk_en (t 0) 0 (fun q => ?_) (fun q => ?_) z1 rfl
      · rw [e2 q] at hQ
        exact hQ σ4 k4 ⟨h8.1, fun z => absurd z q, fun z => absurd z q⟩
      · rw [e1 q] at hQ
        obtain ⟨w1, w2, w3, w4⟩ := h8.2 q
        have w5 := w4.1
        rw [if_pos t2] at w5
        exact x_sg h4 hn hp hc q t2 h8.1 w1 w2 w5 (fun σ' k h => hQ σ' (k4.tr k) h)
  by_cases h9 : c = 999
  · subst h9
    refine br_t (by decide) (br_t rfl (oth_ (by decide)))
  have ec : sgI c = nI c := by unfold sgI; rw [if_neg h9]
  refine pk_lt c 49 (fun q => br_t rfl (oth_ (by omega))) (fun q => ?_) ec rfl
  refine pk_lt 56 c (fun q2 => br_t rfl (oth_ (by omega))) (fun q2 => br_f (by decide) ?_) rfl ec
  have dd := dig ⟨q, q2⟩ h9
  dsimp only [hM_]
  by_cases h2 : s 2 = 0
  · rw [if_pos h2, if_pos h2] at dd
    rw [if_pos h2] at d1
    exact ⟨fun y => absurd d1 y, fun _ => ⟨fun y => absurd y (by decide), fun _ => dd⟩⟩
  · rw [if_neg h2, if_neg h2] at dd
    rw [if_neg h2] at d1
    obtain ⟨b1, -⟩ := hpd h2
    exact ⟨fun _ => ⟨fun _ => dd, fun y => absurd rfl y⟩, fun y => absurd y (by rw [d1]; exact nI_ne_m1 _ (by omega))⟩
end MSG
theorem rn_stop {n z p : Nat} {bt s : Nat → Nat} (h : s 0 ≠ 0) : ∀ f, m_rn n bt z f p s = s
  | 0 => rfl
  | f + 1 => by show (if s 0 = 0 then _ else s) = s; rw [if_neg h]
theorem rn_step {n z f p : Nat} {bt s : Nat → Nat} (h : s 0 = 0) : m_rn n bt z (f + 1) p s = m_rn n bt z f (p + 1) (m_st n (sgn bt z p) p s) := by show (if s 0 = 0 then _ else s) = _; rw [if_pos h]
theorem sgn_ok {z : Nat} {bt : Nat → Nat} (hb : ∀ i, i < z → bt i < 256) (p : Nat) : sgn bt z p < 256 ∨ sgn bt z p = 999 := by
  unfold sgn
  split
  · rename_i h; exact Or.inl (hb p h)
  · exact Or.inr rfl
theorem s_signAtE {σ : hSt} {z p : Nat} {bt : Nat → Nat} (hz : z ≤ 500) (h1 : σ 19 1 = nI z) (hb : ∀ i, i < z → bt i < 256 ∧ σ 20 i = bI (bt i)) (hp : p ≤ z) {Q : Int32 → Prop} (hQ : Q (sgI (sgn bt z p))) : wp_X9_signAt (nI p) σ Q := by
  rcases Nat.lt_or_ge p z with q | q
  · obtain ⟨b1, b2⟩ := hb p q
    have e : sgI (sgn bt z p) = nI (bt p) := by unfold sgn; rw [if_pos q]; unfold sgI; rw [if_neg (by omega)]
    rw [e] at hQ
    exact s_signAt hz h1 q b1 b2 hQ
  · have e : sgI (sgn bt z p) = -1 := by unfold sgn; rw [if_neg (by omega)]; rfl
    rw [e] at hQ
    unfold wp_X9_signAt
    rw [h1]
    exact br_f (nI_pos (by omega)) (br_t (nI_le q (by omega)) hQ)
/-- the whole text -/
theorem x_thru {n z : Nat} {σ : hSt} {bt : Nat → Nat} {s0 : Nat → Nat} (h4 : 4 ≤ n) (hn : n ≤ 8) (hz5 : z ≤ 500) (ht : σ 19 1 = nI z) (hb : ∀ i, i < z → bt i < 256 ∧ σ 20 i = bI (bt i)) (e0 : s0 0 = 0) (e1 : s0 1 = 0) (e2 : s0 2 = 0) (ho : m_ok n 0 s0) (hx : m_x n σ s0) {Q : Int32 → hSt → Prop}
    (hbad : m_rn n bt z (z + 1) 0 s0 0 ≠ 0 → ∀ σ', kpM σ σ' → m_z σ' (m_rn n bt z (z + 1) 0 s0) → Q 0 σ')
    (hok : m_rn n bt z (z + 1) 0 s0 0 = 0 → ∀ σ', kpM σ σ' → m_z σ' (m_rn n bt z (z + 1) 0 s0) → vM n (m_rn n bt z (z + 1) 0 s0 7) (m_ms (m_rn n bt z (z + 1) 0 s0)) → 0 < m_rn n bt z (z + 1) 0 s0 7 → cM σ' 22 n (m_rn n bt z (z + 1) 0 s0 7) (m_ms (m_rn n bt z (z + 1) 0 s0)) → Q 1 σ') : wp_X10_readThrough_r21 σ Q := by
  generalize hF : m_rn n bt z (z + 1) 0 s0 = F at hbad hok
  unfold wp_X10_readThrough_r21
  refine hL2_in (fun v2 σ2 => ∃ p s, p ≤ z + 1 ∧ v2 = nI p ∧ kpM σ σ2 ∧ m_rn n bt z (z + 1 - p) p s = F ∧ m_z σ2 s ∧ (s 0 = 0 → p ≤ z → m_ok n p s ∧ m_x n σ2 s ∧ m_pd n p s ∧ m_d σ2 s) ∧ (s 0 = 0 → p = z + 1 → vM n (s 7) (m_ms s) ∧ 0 < s 7 ∧ cM σ2 22 n (s 7) (m_ms s))) (fun v2 _ => z + 1 - v2.toNatClampNeg) ?_ ⟨0, s0, Nat.zero_le _, rfl, ((kpM.h (Or.inl rfl)).tr (kpM.h (Or.inl rfl))).tr (kpM.h (Or.inl rfl)), hF, ⟨?_, ?_, by rw [e0]; decide⟩, fun _ _ => ⟨ho, ?_, pd_none e2, ?_, fun q => absurd e2 q⟩, fun _ q => absurd q (by omega)⟩
  rotate_left
  · rw [e0, hup_at, if_neg (by decide), hup_at, if_neg (by decide), hup_at, if_pos rfl]; rfl
  · rw [e1, hup_at, if_neg (by decide), hup_at, if_pos rfl]; rfl
  · exact hx.ext (fun j i1 i2 => by rw [hup_at, if_neg (by omega), hup_at, if_neg (by omega), hup_at, if_neg (by omega)]) (by rw [hup_n _ _ _ (by decide), hup_n _ _ _ (by decide), hup_n _ _ _ (by decide)]) (by rw [hup_n _ _ _ (by decide), hup_n _ _ _ (by decide), hup_n _ _ _ (by decide)]) (fun _ _ _ => rfl) (fun _ _ => rfl)
  · rw [e2, if_pos rfl, hup_at, if_pos rfl]
  rintro P _ σ2 ⟨p, s, hp, rfl, k2, hr, hz, hi1, hi2⟩ ih
  unfold wp_X9_size
  have t2 : σ2 19 1 = nI z := by rw [k2 19 (by decide) (by decide) (by decide)]; exact ht
  have b2 : ∀ i, i < z → bt i < 256 ∧ σ2 20 i = bI (bt i) := fun i hi => by rw [k2 20 (by decide) (by decide) (by decide)]; exact hb i hi
  have z3 := hz.2.2
  refine pk_lt z p (fun q => ?_) (fun q => ?_) t2 rfl
  · have ep : p = z + 1 := by omega
    subst ep
    rw [Nat.sub_self] at hr
    have er : s = F := hr
    subst er
    refine pk_en (s 0) 0 (fun y => hbad y σ2 k2 hz) (fun y => ?_) hz.1 rfl
    obtain ⟨w1, w2, w3⟩ := hi2 y rfl
    exact hok y σ2 k2 hz w1 w2 w3
  · refine pk_en (s 0) 0 (fun y => ?_) (fun y => ?_) hz.1 rfl
    · rw [rn_stop y] at hr
      subst hr
      exact pk_en (s 0) 0 (fun _ => hbad y σ2 k2 hz) (fun y2 => absurd y2 y) hz.1 rfl
    · obtain ⟨w1, w2, w3, w4⟩ := hi1 y q
      refine s_signAtE hz5 t2 b2 q ?_
      have hc := sgn_ok (z := z) (bt := bt) (fun i hi => (hb i hi).1) p
      rw [show z + 1 - p = (z - p) + 1 by omega, rn_step y] at hr
      refine x_take h4 hn (by omega) hc y hz w1 w2 w3 w4 (fun σ' k' hP => ?_)
      intro x hx
      rw [nI_suc] at hx
      subst hx
      obtain ⟨u1, u2, u3⟩ := hP
      have h99 : sgn bt z p = 999 ↔ p = z := by
        unfold sgn
        rcases Nat.lt_or_ge p z with y2 | y2
        · rw [if_pos y2]; have := (hb p y2).1; exact ⟨fun e => by omega, fun e => by omega⟩
        · rw [if_neg (by omega)]; exact ⟨fun _ => by omega, fun _ => rfl⟩
      refine ih _ _ ⟨p + 1, _, by omega, rfl, k2.tr k', by rw [show z + 1 - (p + 1) = z - p by omega]; exact hr, u1, fun y2 y3 => u2 y2 (fun e => by have := h99.mp e; omega), fun y2 y3 => u3 y2 (h99.mpr (by omega))⟩ (by rw [nI_clamp (by omega), nI_clamp (by omega)]; omega)

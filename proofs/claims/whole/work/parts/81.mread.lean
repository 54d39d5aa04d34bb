/-! The class reads the method's text: each step of it. -/
def m_x (n : Nat) (σ : hSt) (s : Nat → Nat) : Prop := σ 21 4 = nI n ∧ (∀ j, 5 ≤ j → j ≤ 9 → σ 21 j = nI (s j)) ∧ (∀ k, k < s 7 → k < 64 → σ 23 k = nI (b_cen n (s (100 + k)))) ∧ ((s 5 = 2 ∨ (s 5 = 1 ∧ 2 ≤ s 6)) → σ 22 3 = nI (b_cen n (s 50))) ∧ ((s 5 = 2 ∧ 2 ≤ s 6) → σ 22 4 = nI (b_cen n (s 51)))
def m_d (σ : hSt) (s : Nat → Nat) : Prop := σ 21 2 = (if s 2 = 0 then -1 else nI (s 2 - 1)) ∧ (s 2 ≠ 0 → ∀ j, 10 ≤ j → j ≤ 13 → σ 21 j = nI (s j))
def m_z (σ : hSt) (s : Nat → Nat) : Prop := σ 21 0 = nI (s 0) ∧ σ 21 1 = nI (s 1) ∧ s 0 ≤ 3
def m_I (n p : Nat) (σ : hSt) (s : Nat → Nat) : Prop := m_z σ s ∧ (s 0 = 0 → m_ok n p s ∧ m_x n σ s ∧ m_pd n p s ∧ m_d σ s)
def kpM (σ σ' : hSt) : Prop := ∀ k, k ≠ 21 → k ≠ 22 → k ≠ 23 → σ' k = σ k
theorem kpM.rf {σ : hSt} : kpM σ σ := fun _ _ _ _ => rfl
theorem kpM.tr {a b c : hSt} (h : kpM a b) (h2 : kpM b c) : kpM a c := fun k p q r => by rw [h2 k p q r, h k p q r]
theorem kpM.h {a : hSt} {k j : Nat} {v : Int32} (hk : k = 21 ∨ k = 22 ∨ k = 23) : kpM a (hup a k j v) := fun i p q r => hup_n _ _ _ (by omega)
theorem m_I_rf {n q k p : Nat} {σ : hSt} {s : Nat → Nat} (hk : k ≠ 0) (hk3 : k ≤ 3) : m_I n q (hup (hup σ 21 0 (nI k)) 21 1 (nI p)) (m_rf k p s) := ⟨⟨by rw [rf_0, hup_at, if_neg (by decide), hup_at, if_pos rfl], by rw [rf_1, hup_at, if_pos rfl], by rw [rf_0]; exact hk3⟩, fun z => by rw [rf_0] at z; exact absurd z hk⟩
theorem x_rf {n q k p : Nat} {σ : hSt} {s : Nat → Nat} (hk : k ≠ 0) (hk3 : k ≤ 3) {Q : hSt → Prop} (hQ : ∀ σ', kpM σ σ' → m_I n q σ' (m_rf k p s) → Q σ') : Q (hup (hup σ 21 0 (nI k)) 21 1 (nI p)) :=
  hQ _ ((kpM.h (Or.inl rfl)).tr (kpM.h (Or.inl rfl))) (m_I_rf hk hk3)
/-- where ways meet: what holds of the way on -/
theorem hM_in {α : Sort _} {b : α} {f : α → Prop} (C : α → Prop) (h1 : ∀ J, C J → f J) (h2 : C b) : hM_ b f := h1 b h2
theorem x_ce {σ : hSt} {s : Nat → Nat} (h6 : σ 21 6 = nI (s 6)) (hb : s 6 ≤ 3) {Q : Int32 → Prop} (h1 : 2 ≤ s 6 → Q 1) (h0 : s 6 < 2 → Q 0) : wp_X3_changeEnded σ Q := by
  unfold wp_X3_changeEnded
  refine pk_eq (s 6) 2 (fun z => h1 (by omega)) (fun z => ?_) h6 rfl
  exact pk_en (s 6) 3 (fun z2 => h0 (by omega)) (fun z2 => h1 (by omega)) h6 rfl
theorem x_add {n p v st : Nat} {σ : hSt} {s : Nat → Nat} (hp : p ≤ 600) (ho : m_ok n p s) (hx : m_x n σ s) (hst : st ≤ 3) {Q : hSt → Prop} (hQ : ∀ σ', kpM σ σ' → (∀ j, j ≠ 6 → j ≠ 7 → σ' 21 j = σ 21 j) → m_x n σ' (upN (m_ad v s) 6 st) → Q σ') : wp_X3_addChange (nI (b_cen n v)) σ (fun σ' => Q (hup σ' 21 6 (nI st))) := by
  obtain ⟨⟨a1, a2, a3, a4, a5, a6⟩, -, -, -, -, f⟩ := ho
  obtain ⟨x1, x2, x3, x4, x5⟩ := hx
  have h5 := x2 5 (by decide) (by decide)
  have h7 := x2 7 (by decide) (by decide)
  unfold wp_X3_addChange
  refine pk_en (s 5) 1 (fun z1 => ?_) (fun z1 => ?_) h5 rfl
  · refine pk_en (s 5) 2 (fun z2 => ?_) (fun z2 => ?_) h5 rfl
    · have z0 : s 5 = 0 := by omega
      unfold wp_X2_setChange
      rw [h7]
      have fin : ∀ σ3, (∀ k, k ≠ 23 → σ3 k = σ k) → (∀ k, k < s 7 → k < 64 → σ3 23 k = nI (b_cen n (s (100 + k)))) → (s 7 < 64 → σ3 23 (s 7) = nI (b_cen n v)) → Q (hup (hup σ3 21 7 ((σ3 21 7) + (1 : Int32))) 21 6 (nI st)) := fun σ3 o3 g1 g2 => by
        have e21 : σ3 21 = σ 21 := o3 21 (by decide)
        refine hQ _ (fun k i1 i2 i3 => by rw [hup_n _ _ _ i1, hup_n _ _ _ i1]; exact o3 k i3) (fun j i1 i2 => by rw [hup_at, if_neg i1, hup_at, if_neg i2, e21]) ⟨?_, fun j i1 i2 => ?_, fun k i1 i2 => ?_, fun z => ?_, fun z => ?_⟩
        · rw [hup_at, if_neg (by decide), hup_at, if_neg (by decide), e21]; exact x1
        · refine hu_up rfl ?_
          rw [ad_l z0]
          refine hu_up (by rw [e21, h7, nI_suc]) ?_
          rw [e21, upN_ne (by omega)]; exact x2 j i1 i2
        · rw [upN_ne (by decide), ad_7 a1, if_pos z0] at i1
          rw [hup_ne _ _ (by decide), hup_ne _ _ (by decide), upN_ne (by omega), ad_l z0, upN_ne (by omega), upN_at]
          by_cases q : k = s 7
          · subst q; rw [if_pos rfl]; exact g2 i2
          · rw [if_neg (by omega)]; exact g1 k (by omega) i2
        · rw [upN_ne (by decide), ad_lo a1 (by decide) (by decide)] at z; omega
        · rw [upN_ne (by decide), ad_lo a1 (by decide) (by decide)] at z; omega
      rcases Nat.lt_or_ge (s 7) 64 with q | q
      · refine s_setCell (by decide) (show s 7 < 64 from q) ?_
        exact fin _ (fun k hk => hup_n _ _ _ hk) (fun k i1 i2 => by rw [hup_at, if_neg (by omega)]; exact x3 k i1 i2) (fun _ => by rw [hup_at, if_pos rfl])
      · refine s_setCell_out (by decide) (show 64 ≤ s 7 from q) (by omega) ?_
        exact fin _ (fun k hk => rfl) x3 (fun q2 => by omega)
    · unfold wp_X2_setSingle
      refine hQ _ ((kpM.h (Or.inr (Or.inl rfl))).tr (kpM.h (Or.inl rfl))) (fun j i1 i2 => by rw [hup_at, if_neg i1, hup_ne _ _ (by decide)]) ⟨?_, fun j i1 i2 => ?_, fun k i1 i2 => ?_, fun z => ?_, fun z => ?_⟩
      · rw [hup_at, if_neg (by decide), hup_ne _ _ (by decide)]; exact x1
      · refine hu_up rfl ?_
        rw [ad_s z2, hup_ne _ _ (by decide), upN_ne (by omega)]; exact x2 j i1 i2
      · rw [upN_ne (by decide), ad_s z2, upN_ne (by decide)] at i1
        rw [hup_ne _ _ (by decide), hup_ne _ _ (by decide), upN_ne (by omega), ad_s z2, upN_ne (by omega)]; exact x3 k i1 i2
      · rw [hup_ne _ _ (by decide), hup_at, if_neg (by decide), upN_ne (by decide), ad_s z2, upN_ne (by decide)]; exact x4 (Or.inl z2)
      · rw [hup_ne _ _ (by decide), hup_at, if_pos rfl, upN_ne (by decide), ad_s z2, upN_eq]
  · unfold wp_X2_setBob
    refine hQ _ ((kpM.h (Or.inr (Or.inl rfl))).tr (kpM.h (Or.inl rfl))) (fun j i1 i2 => by rw [hup_at, if_neg i1, hup_ne _ _ (by decide)]) ⟨?_, fun j i1 i2 => ?_, fun k i1 i2 => ?_, fun z => ?_, fun z => ?_⟩
    · rw [hup_at, if_neg (by decide), hup_ne _ _ (by decide)]; exact x1
    · refine hu_up rfl ?_
      rw [ad_b z1, hup_ne _ _ (by decide), upN_ne (by omega)]; exact x2 j i1 i2
    · rw [upN_ne (by decide), ad_b z1, upN_ne (by decide)] at i1
      rw [hup_ne _ _ (by decide), hup_ne _ _ (by decide), upN_ne (by omega), ad_b z1, upN_ne (by omega)]; exact x3 k i1 i2
    · rw [hup_ne _ _ (by decide), hup_at, if_pos rfl, upN_ne (by decide), ad_b z1, upN_eq]
    · rw [upN_ne (by decide), ad_b z1, upN_ne (by decide)] at z; omega
theorem x_cb {n p : Nat} {σ : hSt} {s : Nat → Nat} (hp : p ≤ 600) (ho : m_ok n p s) (hx : m_x n σ s) (hz : m_z σ s) (h5 : s 5 = 0) (h6 : 2 ≤ s 6) {Q : hSt → Prop} (hQ : ∀ σ', kpM σ σ' → (∀ j, j ≠ 0 → j ≠ 1 → j ≠ 7 → σ' 21 j = σ 21 j) → m_z σ' (m_cb p s) → (s 7 + m_bk s ≤ 64 → m_x n σ' (m_cb p s)) → Q σ') : wp_X3_closeBlock (nI p) σ Q := by
  obtain ⟨⟨a1, a2, a3, a4, a5, a6⟩, -, -, -, e, -⟩ := ho
  obtain ⟨x1, x2, x3, x4, x5⟩ := hx
  have h8 := e h5 h6
  have a5' := a5 h5
  have hb := bk_le (s := s)
  have c7 := x2 7 (by decide) (by decide)
  unfold wp_X3_closeBlock
  refine hM_in (fun J => J (nI (m_bk s))) (fun J hJ => ?_) ?_
  rotate_left
  · try dsimp only
    rw [c7, nI_add]
    refine pk_le (s 7 + m_bk s) 64 (fun z => ?_) (fun z => ?_) rfl rfl
    · refine hL2_in (fun v3 σ4 => ∃ i, i ≤ m_bk s ∧ v3 = nI i ∧ (∀ k, k ≠ 23 → σ4 k = σ k) ∧ (∀ k, k < s 7 + i → σ4 23 k = nI (b_cen n (m_cp s (m_bk s) (100 + k))))) (fun v3 _ => m_bk s - v3.toNatClampNeg) ?_ ⟨0, Nat.zero_le _, rfl, fun _ _ => rfl, fun k hk => by rw [cp_lo (by omega)]; exact x3 k (by omega) (by omega)⟩
      rintro P _ σ4 ⟨i, hi, rfl, o4, g4⟩ ih
      have e21 : σ4 21 = σ 21 := o4 21 (by decide)
      refine pk_le (m_bk s) i (fun z2 => ?_) (fun z2 => ?_) rfl rfl
      · have ei : i = m_bk s := by omega
        subst ei
        rw [e21, c7, nI_add]
        refine hQ _ (fun k i1 i2 i3 => by rw [hup_n _ _ _ i1]; exact o4 k i3) (fun j i1 i2 i3 => by rw [hup_at, if_neg i3, e21]) ⟨?_, ?_, ?_⟩ (fun _ => ⟨?_, fun j i1 i2 => ?_, fun k i1 i2 => ?_, fun z3 => ?_, fun z3 => ?_⟩)
        · rw [hup_at, if_neg (by decide), e21, cb_lo z (by decide) (by decide)]; exact hz.1
        · rw [hup_at, if_neg (by decide), e21, cb_lo z (by decide) (by decide)]; exact hz.2.1
        · rw [cb_lo z (by decide) (by decide)]; exact hz.2.2
        · rw [hup_at, if_neg (by decide), e21]; exact x1
        · rw [cb_ok z]
          refine hu_up rfl ?_
          rw [e21, cp_lo (by omega)]; exact x2 j i1 i2
        · rw [cb_7 z] at i1
          rw [hup_ne _ _ (by decide), cb_hi z]; exact g4 k i1
        · rw [cb_lo z (by decide) (by decide)] at z3; omega
        · rw [cb_lo z (by decide) (by decide)] at z3; omega
      · unfold wp_X2_changeAt wp_X2_setChange
        rw [e21, c7, show (2 : Int32) = nI 2 from rfl, pk_sub (by omega), pk_sub (by omega), nI_add]
        refine s_cell (by decide) (show s 7 - 2 - i < 64 by omega) ?_
        refine s_setCell (by decide) (show s 7 + i < 64 by omega) ?_
        intro x hx
        rw [nI_suc] at hx
        subst hx
        refine ih _ _ ⟨i + 1, by omega, rfl, fun k hk => by rw [hup_n _ _ _ hk]; exact o4 k hk, fun k hk => ?_⟩ (by rw [nI_clamp (by omega), nI_clamp (by omega)]; omega)
        rw [hup_at]
        by_cases q : k = s 7 + i
        · subst q
          rw [if_pos rfl, cp_in z2, g4 _ (by omega), cp_lo (by omega), show 2 * (100 + s 7) - 2 - (100 + (s 7 + i)) = 100 + (s 7 - 2 - i) by omega]
        · rw [if_neg q]; exact g4 k (by omega)
    · unfold wp_X10_refuse_r21
      have e0 : m_cb p s = m_rf 3 p s := cb_no (by omega)
      refine hQ _ ((kpM.h (Or.inl rfl)).tr (kpM.h (Or.inl rfl))) (fun j i1 i2 i3 => by rw [hup_at, if_neg i2, hup_at, if_neg i1]) ⟨?_, ?_, ?_⟩ (fun z2 => by omega)
      · rw [e0, rf_0, hup_at, if_neg (by decide), hup_at, if_pos rfl]; rfl
      · rw [e0, rf_1, hup_at, if_pos rfl]
      · rw [e0, rf_0]; decide
  refine pk_eq (s 9) 0 (fun z => ?_) (fun z => ?_) (x2 9 (by decide) (by decide)) rfl
  · have eb : m_bk s = 0 := by unfold m_bk; rw [if_pos z]
    rw [eb] at hJ; exact hJ
  · have eb : m_bk s = s 7 - s 8 - 1 := by unfold m_bk; rw [if_neg z]
    rw [eb] at hJ
    rw [c7, x2 8 (by decide) (by decide), pk_sub a4, show (1 : Int32) = nI 1 from rfl, pk_sub (by omega)]
    exact hJ

/-! The reference reads the method's text: blanks and one change. -/
def m_rr (n : Nat) (bt : Nat → Nat) (z p : Nat) (s : Nat → Nat) : Nat → Nat := m_rn n bt z (z + 1 - p) p s
theorem rr_stop {n z p : Nat} {bt s : Nat → Nat} (h : s 0 ≠ 0) : m_rr n bt z p s = s := rn_stop h _
theorem rr_step {n z p : Nat} {bt s : Nat → Nat} (h : s 0 = 0) (hp : p ≤ z) : m_rr n bt z p s = m_rr n bt z (p + 1) (m_st n (sgn bt z p) p s) := by
  unfold m_rr
  rw [show z + 1 - p = (z - p) + 1 by omega, rn_step h, show z + 1 - (p + 1) = z - p by omega]
theorem rr_done {n z : Nat} {bt s : Nat → Nat} : m_rr n bt z (z + 1) s = s := by unfold m_rr; rw [Nat.sub_self]; rfl
def bell (c : Nat) : Prop := 49 ≤ c ∧ c ≤ 56
theorem st_sg {n c p : Nat} {s : Nat → Nat} (hb : ¬ bell c) (h2 : s 2 = 0) : m_st n c p s = m_sg n c p s := by unfold m_st; rw [if_neg (show ¬ (49 ≤ c ∧ c ≤ 56) from hb), if_pos h2]
theorem st_dg {n c p : Nat} {s : Nat → Nat} (hb : bell c) : m_st n c p s = m_dg n (c - 48) p s := by unfold m_st; rw [if_pos (show 49 ≤ c ∧ c ≤ 56 from hb)]
/-- digits that end, seen ahead of the sign behind them -/
theorem rr_end {n z p : Nat} {bt s : Nat → Nat} (h0 : s 0 = 0) (h2 : s 2 ≠ 0) (hp : p ≤ z) (hb : ¬ bell (sgn bt z p)) : m_rr n bt z p s = m_rr n bt z p (m_nd n s) := by
  have e2 : m_nd n s 2 = 0 := by unfold m_nd; rw [upN_eq]
  rw [rr_step h0 hp]
  by_cases q : m_nd n s 0 = 0
  · rw [rr_step q hp, st_sg hb e2]
    congr 1
    unfold m_st; rw [if_neg (show ¬ (49 ≤ sgn bt z p ∧ sgn bt z p ≤ 56) from hb), if_neg h2, if_pos q]
  · have e : m_st n (sgn bt z p) p s = m_nd n s := by unfold m_st; rw [if_neg (show ¬ (49 ≤ sgn bt z p ∧ sgn bt z p ≤ 56) from hb), if_neg h2, if_neg q]
    rw [e, rr_stop q, rr_stop q]
def r_t (τ : hSt) (n z p : Nat) (bt : Nat → Nat) : Prop := τ 0 1 = nI n ∧ τ 0 9 = nI z ∧ τ 0 10 = nI p ∧ p ≤ z ∧ ∀ i, i < z → bt i < 256 ∧ τ 5 i = bI (bt i)
def kpC (τ τ' : hSt) : Prop := (∀ k, k ≠ 0 → τ' k = τ k) ∧ ∀ j, j ≠ 10 → j ≠ 13 → τ' 0 j = τ 0 j
theorem kpC.rf {τ : hSt} : kpC τ τ := ⟨fun _ _ => rfl, fun _ _ _ => rfl⟩
theorem kpC.tr {a b c : hSt} (h : kpC a b) (h2 : kpC b c) : kpC a c := ⟨fun k p => by rw [h2.1 k p, h.1 k p], fun j p q => by rw [h2.2 j p q, h.2 j p q]⟩
theorem kpC.h {a : hSt} {i : Nat} {v : Int32} (hi : i = 10 ∨ i = 13) : kpC a (hup a 0 i v) := ⟨fun k p => hup_n _ _ _ p, fun j p q => by rw [hup_at, if_neg (by omega)]⟩
theorem r_t.mv {τ τ' : hSt} {n z p p' : Nat} {bt : Nat → Nat} (h : r_t τ n z p bt) (k : kpC τ τ') (hp : τ' 0 10 = nI p') (hz : p' ≤ z) : r_t τ' n z p' bt := by
  obtain ⟨a, b, c, d, e⟩ := h
  exact ⟨by rw [k.2 1 (by decide) (by decide)]; exact a, by rw [k.2 9 (by decide) (by decide)]; exact b, hp, hz, fun i hi => by rw [k.1 5 (by decide)]; exact e i hi⟩
theorem r_t.w {τ τ' : hSt} {n z p : Nat} {bt : Nat → Nat} (h : r_t τ n z p bt) (e1 : τ' 0 1 = τ 0 1) (e9 : τ' 0 9 = τ 0 9) (e10 : τ' 0 10 = τ 0 10) (e5 : τ' 5 = τ 5) : r_t τ' n z p bt := by
  obtain ⟨a, b, c, d, e⟩ := h
  exact ⟨e1.trans a, e9.trans b, e10.trans c, d, fun i hi => by rw [e5]; exact e i hi⟩
theorem t_peek {τ : hSt} {w : Nat → Int64} {n z p : Nat} {bt : Nat → Nat} (hz : z ≤ 500) (h : r_t τ n z p bt) {Q : Int32 → Prop} (hQ : Q (sgI (sgn bt z p))) : wp_X12_peek τ w Q := by
  obtain ⟨a, b, c, d, e⟩ := h
  unfold wp_X12_peek
  rw [c]
  refine pk_le z p (fun q => ?_) (fun q => ?_) b rfl
  · have e : sgI (sgn bt z p) = -1 := by unfold sgn; rw [if_neg (by omega)]; rfl
    rw [e] at hQ; exact hQ
  · obtain ⟨e1, e2⟩ := e p q
    have ec : sgI (sgn bt z p) = nI (bt p) := by unfold sgn; rw [if_pos q]; unfold sgI; rw [if_neg (by omega)]
    rw [ec] at hQ
    refine ⟨vp_in_nI (by omega) (by decide), ?_⟩
    rw [nI_clamp (by omega), e2, bI_and _ e1]
    exact hQ
theorem t_isBell {c : Nat} (hc : c < 256 ∨ c = 999) {Q : Int32 → Prop} (h1 : bell c → Q 1) (h0 : ¬ bell c → Q 0) : wp_X12_isBell (sgI c) Q := by
  unfold wp_X12_isBell
  by_cases h9 : c = 999
  · subst h9; exact br_t (by decide) (h0 (by unfold bell; omega))
  have ec : sgI c = nI c := by unfold sgI; rw [if_neg h9]
  rw [ec]
  refine pk_lt c 49 (fun q => h0 (by unfold bell; omega)) (fun q => ?_) rfl rfl
  exact pk_lt 56 c (fun q2 => h0 (by unfold bell; omega)) (fun q2 => h1 ⟨q, q2⟩) rfl rfl
/-- a sign, and one that is asked for -/
theorem sg_is {c k : Nat} (hc : c < 256 ∨ c = 999) (hk : k < 256) {A B : Prop} (f : c = k → A) (g : c ≠ k → B) {y : Int32} (hy : y = nI k := by rfl) : (sgI c = y → A) ∧ (¬ sgI c = y → B) := by
  subst hy
  by_cases h9 : c = 999
  · subst h9
    refine br_f (fun e => nI_ne_m1 k (by omega) ?_) (g (by omega))
    exact e.symm
  have ec : sgI c = nI c := by unfold sgI; rw [if_neg h9]
  rw [ec]
  exact pk_eq c k f g rfl rfl
theorem sg_isn {c k : Nat} (hc : c < 256 ∨ c = 999) (hk : k < 256) {A B : Prop} (g : c ≠ k → B) (f : c = k → A) {y : Int32} (hy : y = nI k := by rfl) : (¬ sgI c = y → B) ∧ (sgI c = y → A) := ⟨(sg_is hc hk f g hy).2, (sg_is hc hk f g hy).1⟩
theorem sgn_lt {z p c : Nat} {bt : Nat → Nat} (h : sgn bt z p = c) (hc : c < 256) : p < z := by
  unfold sgn at h
  rcases Nat.lt_or_ge p z with q | q
  · exact q
  · rw [if_neg (by omega)] at h; omega
theorem r_t.sg {τ : hSt} {n z p : Nat} {bt : Nat → Nat} (h : r_t τ n z p bt) (q : Nat) : sgn bt z q < 256 ∨ sgn bt z q = 999 := sgn_ok (fun i hi => (h.2.2.2.2 i hi).1) q
theorem t_blanks {τ : hSt} {w : Nat → Int64} {n z p : Nat} {bt s F : Nat → Nat} (hz : z ≤ 500) (h : r_t τ n z p bt) (h0 : s 0 = 0) (h2 : s 2 = 0) (hF : m_rr n bt z p s = F) {Q : hSt → Prop}
    (hQ : ∀ p' τ', p ≤ p' → kpC τ τ' → τ' 0 13 = τ 0 13 → r_t τ' n z p' bt → m_rr n bt z p' s = F → sgn bt z p' ≠ 32 → sgn bt z p' ≠ 10 → Q τ') : wp_X12_blanks τ w Q := by
  unfold wp_X12_blanks
  refine hL1_in (fun τ1 => ∃ p1, p ≤ p1 ∧ kpC τ τ1 ∧ τ1 0 13 = τ 0 13 ∧ r_t τ1 n z p1 bt ∧ m_rr n bt z p1 s = F) (fun τ1 => z - (τ1 0 10).toNatClampNeg) ?_ ⟨p, Nat.le_refl p, kpC.rf, rfl, h, hF⟩
  rintro P τ1 ⟨p1, hp1, k1, e13, h1, hr⟩ ih
  have hs := h1.sg p1
  have e10 : τ1 0 10 = nI p1 := h1.2.2.1
  have hpz := h1.2.2.2.1
  have next : sgn bt z p1 = 32 ∨ sgn bt z p1 = 10 → P (hup τ1 0 10 ((τ1 0 10) + (1 : Int32))) := fun hb => by
    have hlt : p1 < z := hb.elim (fun e => sgn_lt e (by decide)) (fun e => sgn_lt e (by decide))
    have e' : (hup τ1 0 10 ((τ1 0 10) + (1 : Int32))) 0 10 = nI (p1 + 1) := by rw [hup_at, if_pos rfl, e10, nI_suc]
    refine ih _ ⟨p1 + 1, by omega, k1.tr (kpC.h (Or.inl rfl)), by rw [hup_at, if_neg (by decide)]; exact e13, h1.mv (kpC.h (Or.inl rfl)) e' (by omega), ?_⟩ ?_
    · rw [rr_step h0 hpz, st_sg (by unfold bell; omega) h2, sg_b hb] at hr
      exact hr
    · show z - ((hup τ1 0 10 ((τ1 0 10) + (1 : Int32))) 0 10).toNatClampNeg < _
      rw [e', e10, nI_clamp (by omega), nI_clamp (by omega)]; omega
  refine t_peek hz h1 ?_
  refine sg_is hs (by decide) (fun q => next (Or.inl q)) (fun q => ?_)
  refine t_peek hz h1 ?_
  exact sg_isn hs (by decide) (fun q2 => hQ p1 τ1 hp1 k1 e13 h1 hr q q2) (fun q2 => next (Or.inr q2))
/-- the states agree but for the digits -/
def eqd (s' t : Nat → Nat) : Prop := ∀ j, j ≠ 2 → j ≠ 6 → ¬ (10 ≤ j ∧ j ≤ 13) → s' j = t j
theorem ad_congr {v j : Nat} {s t : Nat → Nat} (h5 : s 5 = t 5) (h7 : s 7 = t 7) (hj : s j = t j) : m_ad v s j = m_ad v t j := by
  unfold m_ad
  rw [h5, h7]
  split
  · rw [upN_at, upN_at, hj]
  · split
    · rw [upN_at, upN_at, hj]
    · rw [upN_at, upN_at, upN_at, upN_at, hj]
theorem or_swap (a b c : Nat) : (a ||| b) ||| c = (a ||| c) ||| b := by rw [Nat.or_assoc, Nat.or_comm b c, ← Nat.or_assoc]
/-- the digits of a change, ahead of byte p1 -/
def dgS (τ τ1 : hSt) (n p p1 : Nat) (s s1 : Nat → Nat) (v3 v4 : Int32) : Prop :=
  (p1 = p ∧ s1 = s ∧ v3 = 0 ∧ v4 = 1 ∧ τ1 0 13 = 0) ∨
  (p < p1 ∧ s1 0 = 0 ∧ s1 2 = p + 1 ∧ v3 = nI (s1 12) ∧ v4 = (if s1 10 = 0 then 1 else 0) ∧ 1 ≤ s1 12 ∧ s1 12 ≤ 8 ∧ (s1 10 = 0 → s1 12 ≤ n ∧ τ1 0 13 = nI (m_mk s1)) ∧ ∀ j, j ≠ 2 → ¬ (10 ≤ j ∧ j ≤ 13) → s1 j = s j)

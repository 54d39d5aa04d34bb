/-! The reference reads the lead. -/
def lbody (P4 : Int32 → Int32 → hSt → Prop) (Q : Int32 → hSt → Prop) (v1_1 z8 : Int32) (w : Nat → Int64) (P63 : Int32 → Int32 → Int32 → hSt → Prop) (v4_10 v5_11 v6_12 : Int32) (σ13 : hSt) : Prop :=
  ((v6_12 = 0 → (wp_X12_peek σ13 w (fun r16 => (hM_ ((hM_ (fun (z17 : Int32) => (((v1_1 + z17) ≤ (64 : Int32) → (hL2 (fun P262 (v8_19 : Int32) (σ20 : hSt) => ((z17 ≤ v8_19 → (∀ x1_22 : Int32, x1_22 = (v1_1 + z17) → (wp_X12_peek σ20 w (fun r24 => (hM_ (fun (z25 : Int32) => (P4 x1_22 z25 (hup σ20 0 10 ((σ20 0 10) + (1 : Int32))))) (fun J329 : Int32 → Prop => ((¬ r24 = (44 : Int32) → (J329 (0 : Int32))) ∧ (r24 = (44 : Int32) → (J329 (1 : Int32)))))))))) ∧ (¬ z17 ≤ v8_19 → ((v4_10 ≤ v8_19 → (vp_in ((((2 : Int32) * v4_10) - (2 : Int32)) - v8_19) 500 ∧ (vp_in (v1_1 + v8_19) 66 ∧ (∀ x8_30 : Int32, x8_30 = v8_19 + (1 : Int32) → (P262 x8_30 (hup σ20 6 ((v1_1 + v8_19)).toNatClampNeg (σ20 7 (((((2 : Int32) * v4_10) - (2 : Int32)) - v8_19)).toNatClampNeg))))))) ∧ (¬ v4_10 ≤ v8_19 → (vp_in v8_19 500 ∧ (vp_in (v1_1 + v8_19) 66 ∧ (∀ x8_33 : Int32, x8_33 = v8_19 + (1 : Int32) → (P262 x8_33 (hup σ20 6 ((v1_1 + v8_19)).toNatClampNeg (σ20 7 (v8_19).toNatClampNeg))))))))))) (0 : Int32) σ13)) ∧ (¬ (v1_1 + z17) ≤ (64 : Int32) → (wp_X12_wrong (3 : Int32) (σ13 0 10) σ13 w (fun r35 σ34 => (hbo r35 ∧ Q r35 σ34)))))) (fun J238 : Int32 → Prop => ((z8 = 0 → (J238 v4_10)) ∧ (¬ z8 = 0 → (J238 (((2 : Int32) * v4_10) - (1 : Int32)))))))) (fun J223 : Prop => ((r16 = (44 : Int32) → J223) ∧ (¬ r16 = (44 : Int32) → (wp_X12_peek σ13 w (fun r40 => ((r40 = (59 : Int32) → J223) ∧ (¬ r40 = (59 : Int32) → (wp_X12_wrong (1 : Int32) (σ13 0 10) σ13 w (fun r43 σ42 => (hbo r43 ∧ Q r43 σ42)))))))))))))) ∧ (¬ v6_12 = 0 → (wp_X12_peek σ13 w (fun r46 => (wp_X12_isBell r46 (fun r48 => (hM_ ((wp_X12_readChange σ13 w (fun r50 σ49 => ((¬ r50 = 0 → (vp_in v4_10 500 ∧ (∀ x4_53 : Int32, x4_53 = v4_10 + (1 : Int32) → (wp_X12_blanks (hup σ49 7 (v4_10).toNatClampNeg (σ49 0 13)) w (fun σ54 => (wp_X12_peek σ54 w (fun r56 => ((¬ r56 = (46 : Int32) → (wp_X12_peek σ54 w (fun r59 => ((r59 = (120 : Int32) → (P63 x4_53 r48 (1 : Int32) σ54)) ∧ (¬ r59 = (120 : Int32) → (wp_X12_peek σ54 w (fun r62 => ((r62 = (45 : Int32) → (P63 x4_53 r48 (1 : Int32) σ54)) ∧ (¬ r62 = (45 : Int32) → (wp_X12_peek σ54 w (fun r65 => (wp_X12_isBell r65 (fun r67 => ((r67 = 0 → (P63 x4_53 r48 (0 : Int32) σ54)) ∧ (¬ r67 = 0 → (P63 x4_53 r48 (1 : Int32) σ54)))))))))))))))) ∧ (r56 = (46 : Int32) → (wp_X12_blanks (hup σ54 0 10 ((σ54 0 10) + (1 : Int32))) w (fun σ69 => (P63 x4_53 (0 : Int32) v6_12 σ69)))))))))))) ∧ (r50 = 0 → (Q (0 : Int32) σ49)))))) (fun J97 : Prop => ((r48 = 0 → J97) ∧ (¬ r48 = 0 → ((v5_11 = 0 → J97) ∧ (¬ v5_11 = 0 → (wp_X12_wrong (1 : Int32) (σ13 0 10) σ13 w (fun r73 σ72 => (hbo r73 ∧ Q r73 σ72)))))))))))))))
def lcont (Q : Int32 → hSt → Prop) (P63 : Int32 → Int32 → Int32 → hSt → Prop) (v4_10 v6_12 r48 : Int32) (w : Nat → Int64) (r50 : Int32) (σ49 : hSt) : Prop :=
  ((¬ r50 = 0 → (vp_in v4_10 500 ∧ (∀ x4_53 : Int32, x4_53 = v4_10 + (1 : Int32) → (wp_X12_blanks (hup σ49 7 (v4_10).toNatClampNeg (σ49 0 13)) w (fun σ54 => (wp_X12_peek σ54 w (fun r56 => ((¬ r56 = (46 : Int32) → (wp_X12_peek σ54 w (fun r59 => ((r59 = (120 : Int32) → (P63 x4_53 r48 (1 : Int32) σ54)) ∧ (¬ r59 = (120 : Int32) → (wp_X12_peek σ54 w (fun r62 => ((r62 = (45 : Int32) → (P63 x4_53 r48 (1 : Int32) σ54)) ∧ (¬ r62 = (45 : Int32) → (wp_X12_peek σ54 w (fun r65 => (wp_X12_isBell r65 (fun r67 => ((r67 = 0 → (P63 x4_53 r48 (0 : Int32) σ54)) ∧ (¬ r67 = 0 → (P63 x4_53 r48 (1 : Int32) σ54)))))))))))))))) ∧ (r56 = (46 : Int32) → (wp_X12_blanks (hup σ54 0 10 ((σ54 0 10) + (1 : Int32))) w (fun σ69 => (P63 x4_53 (0 : Int32) v6_12 σ69)))))))))))) ∧ (r50 = 0 → (Q (0 : Int32) σ49)))
def xb (c : Nat) : Prop := c = 120 ∨ c = 45 ∨ bell c
theorem sg_due {n c p : Nat} {s : Nat → Nat} (h6 : s 6 < 2) (h1 : c ≠ 32 ∧ c ≠ 10 ∧ c ≠ 120 ∧ c ≠ 45) (h0 : s 6 = 0 → c ≠ 38 ∧ c ≠ 43) : m_sg n c p s = m_rf 1 p s := by
  by_cases h : c ≠ 38 ∧ c ≠ 43 ∧ c ≠ 46 ∧ c ≠ 44 ∧ c ≠ 59 ∧ c ≠ 999
  · exact sg_o h1 h
  · rcases (by omega : c = 38 ∨ c = 43 ∨ c = 46 ∨ c = 44 ∨ c = 59 ∨ c = 999) with rfl | rfl | rfl | rfl | rfl | rfl
    · rw [sg_m]; unfold m_mr; rw [if_neg (by omega)]
    · rw [sg_p]; unfold m_mr; rw [if_neg (by omega)]
    · rw [sg_d]; unfold m_dt; rw [if_neg (by omega)]
    · rw [sg_c]; unfold m_cm; rw [if_neg (by omega)]
    · rw [sg_s]; unfold m_sc; rw [if_neg (by omega)]
    · rw [sg_e]; unfold m_ee; rw [if_neg (by omega)]
/-- behind a change of the lead -/
theorem sg_lead {n c p : Nat} {s : Nat → Nat} (h5 : s 5 = 0) (h6 : 2 ≤ s 6) (h1 : c ≠ 32 ∧ c ≠ 10 ∧ c ≠ 120 ∧ c ≠ 45) (h2 : c ≠ 46 ∧ c ≠ 44 ∧ c ≠ 59) : m_sg n c p s = m_rf 1 p s := by
  by_cases h : c ≠ 38 ∧ c ≠ 43 ∧ c ≠ 46 ∧ c ≠ 44 ∧ c ≠ 59 ∧ c ≠ 999
  · exact sg_o h1 h
  · rcases (by omega : c = 38 ∨ c = 43 ∨ c = 999) with rfl | rfl | rfl
    · rw [sg_m]; unfold m_mr; rw [if_neg (by omega)]
    · rw [sg_p]; unfold m_mr; rw [if_neg (by omega)]
    · rw [sg_e]; unfold m_ee; rw [if_neg (by omega)]
def kpQ (τ τ' : hSt) : Prop := (∀ k, k ≠ 0 → k ≠ 6 → k ≠ 7 → τ' k = τ k) ∧ ∀ j, j ≠ 10 → j ≠ 13 → j ≠ 16 → τ' 0 j = τ 0 j
theorem kpQ.rf {τ : hSt} : kpQ τ τ := ⟨fun _ _ _ _ => rfl, fun _ _ _ _ => rfl⟩
theorem kpQ.tr {a b c : hSt} (h : kpQ a b) (h2 : kpQ b c) : kpQ a c := ⟨fun k p q r => by rw [h2.1 k p q r, h.1 k p q r], fun j p q r => by rw [h2.2 j p q r, h.2 j p q r]⟩
theorem kpC.q {a b : hSt} (h : kpC a b) : kpQ a b := ⟨fun k p _ _ => h.1 k p, fun j p q _ => h.2 j p q⟩
theorem kpQ.h {a : hSt} {k i : Nat} {v : Int32} (hk : k = 6 ∨ k = 7) : kpQ a (hup a k i v) := ⟨fun j p q r => hup_n _ _ _ (by omega), fun j _ _ _ => by rw [hup_ne _ _ (by omega)]⟩
theorem r_t.hk {τ : hSt} {n z p k i : Nat} {v : Int32} {bt : Nat → Nat} (h : r_t τ n z p bt) (hk : k = 6 ∨ k = 7) : r_t (hup τ k i v) n z p bt := h.w (by rw [hup_ne _ _ (by omega)]) (by rw [hup_ne _ _ (by omega)]) (by rw [hup_ne _ _ (by omega)]) (hup_n _ _ _ (by omega))
/-- within a block -/
def ldS (τ0 τ : hSt) (n z all bk p0 : Nat) (bt F : Nat → Nat) (v4 v5 v6 : Int32) : Prop :=
  ∃ p s nn, v4 = nI nn ∧ nn ≤ p ∧ p0 ≤ p ∧ kpQ τ0 τ ∧ r_t τ n z p bt ∧ (s 0 = 0 ∧ s 2 = 0 ∧ s 5 = 0 ∧ s 7 = all + nn ∧ s 8 = all ∧ s 9 = bk) ∧ m_rr n bt z p s = F ∧ (∀ k, k < nn → τ 7 k = nI (s (100 + (all + k)))) ∧ (∀ k, k < all → τ 6 k = nI (s (100 + k))) ∧ sgn bt z p ≠ 32 ∧ sgn bt z p ≠ 10 ∧
  ((v6 = 1 ∧ ((v5 = 0 ∧ (s 6 = 1 ∨ (s 6 = 0 ∧ sgn bt z p ≠ 38 ∧ sgn bt z p ≠ 43))) ∨ (s 6 = 2 ∧ v5 = 0 ∧ xb (sgn bt z p)) ∨ (s 6 = 3 ∧ v5 = 1 ∧ xb (sgn bt z p)))) ∨ (v6 = 0 ∧ 1 ≤ nn ∧ 2 ≤ s 6 ∧ sgn bt z p ≠ 46 ∧ ¬ xb (sgn bt z p)))
/-- between blocks -/
def blS (τ0 τ : hSt) (n z : Nat) (bt F : Nat → Nat) (v1 v2 : Int32) : Prop :=
  ∃ p s, v1 = nI (s 7) ∧ s 7 ≤ 64 ∧ kpQ τ0 τ ∧ r_t τ n z p bt ∧ (s 0 = 0 ∧ s 2 = 0) ∧ m_rr n bt z p s = F ∧ (∀ k, k < s 7 → τ 6 k = nI (s (100 + k))) ∧
  ((v2 = 1 ∧ s 5 = 0 ∧ s 6 = 0 ∧ s 8 = s 7 ∧ s 9 = 0) ∨ (v2 = 0 ∧ s 5 = 1 ∧ s 6 = 1))
def flS (τ0 : hSt) (F : Nat → Nat) (Q : Int32 → hSt → Prop) : Prop := ∀ τ', kpQ τ0 τ' → F 0 ≠ 0 → Q 0 (hup (hup τ' 0 11 (nI (F 0))) 0 12 (nI (F 1)))
theorem fl_wr {τ0 τ1 : hSt} {F : Nat → Nat} {Q : Int32 → hSt → Prop} (hX : flS τ0 F Q) {k p : Nat} (k1 : kpQ τ0 τ1) (f0 : F 0 = k) (hk : k ≠ 0) (f1 : F 1 = p) {x : Int32} (ex : x = nI p) : Q 0 (hup (hup τ1 0 11 (nI k)) 0 12 x) := by
  have := hX τ1 k1 (by omega)
  rw [f0, f1, ← ex] at this
  exact this
/-- a block closed: the changes told are laid behind those told ahead -/
theorem t_close {τ0 τ : hSt} {w : Nat → Int64} {n z p all nn bk : Nat} {bt s F : Nat → Nat} {P4 : Int32 → Int32 → hSt → Prop} (hz : z ≤ 500) (hall : all ≤ 64) (hbk : bk ≤ 1) (hP : ∀ v1 v2 τ', blS τ0 τ' n z bt F v1 v2 → z - (τ' 0 10).toNatClampNeg < z - p → P4 v1 v2 τ')
    (hnp : nn ≤ p) (k0 : kpQ τ0 τ) (hr : r_t τ n z p bt) (h0 : s 0 = 0) (h2 : s 2 = 0) (h5 : s 5 = 0) (h7 : s 7 = all + nn) (h8 : s 8 = all) (h9 : s 9 = bk) (hF : m_rr n bt z p s = F) (hblk : ∀ k, k < nn → τ 7 k = nI (s (100 + (all + k)))) (hfr : ∀ k, k < all → τ 6 k = nI (s (100 + k))) (hn1 : 1 ≤ nn) (h6 : 2 ≤ s 6) (hc : sgn bt z p = 44 ∨ sgn bt z p = 59) (hw : s 7 + m_bk s ≤ 64) :
    hL2 (fun P262 (v8_19 : Int32) (σ20 : hSt) => ((nI (nn + m_bk s) ≤ v8_19 → (∀ x1_22 : Int32, x1_22 = (nI all + nI (nn + m_bk s)) → (wp_X12_peek σ20 w (fun r24 => (hM_ (fun (z25 : Int32) => (P4 x1_22 z25 (hup σ20 0 10 ((σ20 0 10) + (1 : Int32))))) (fun J329 : Int32 → Prop => ((¬ r24 = (44 : Int32) → (J329 (0 : Int32))) ∧ (r24 = (44 : Int32) → (J329 (1 : Int32)))))))))) ∧ (¬ nI (nn + m_bk s) ≤ v8_19 → ((nI nn ≤ v8_19 → (vp_in ((((2 : Int32) * nI nn) - (2 : Int32)) - v8_19) 500 ∧ (vp_in (nI all + v8_19) 66 ∧ (∀ x8_30 : Int32, x8_30 = v8_19 + (1 : Int32) → (P262 x8_30 (hup σ20 6 ((nI all + v8_19)).toNatClampNeg (σ20 7 (((((2 : Int32) * nI nn) - (2 : Int32)) - v8_19)).toNatClampNeg))))))) ∧ (¬ nI nn ≤ v8_19 → (vp_in v8_19 500 ∧ (vp_in (nI all + v8_19) 66 ∧ (∀ x8_33 : Int32, x8_33 = v8_19 + (1 : Int32) → (P262 x8_33 (hup σ20 6 ((nI all + v8_19)).toNatClampNeg (σ20 7 (v8_19).toNatClampNeg))))))))))) (0 : Int32) τ := by
  have hpz := hr.2.2.2.1
  have hb : m_bk s ≤ nn - 1 := by have := bk_le (s := s); omega
  have hlt : p < z := hc.elim (fun e => sgn_lt e (by decide)) (fun e => sgn_lt e (by decide))
  refine hL2_in (fun v8 τ2 => ∃ i, i ≤ nn + m_bk s ∧ v8 = nI i ∧ kpQ τ τ2 ∧ τ2 7 = τ 7 ∧ r_t τ2 n z p bt ∧ (∀ k, k < all + i → τ2 6 k = nI (m_cp s (m_bk s) (100 + k)))) (fun v8 _ => nn + m_bk s - v8.toNatClampNeg) ?_ ⟨0, Nat.zero_le _, rfl, kpQ.rf, rfl, hr, fun k hk => by rw [cp_lo (by omega)]; exact hfr k hk⟩
  rintro P _ τ2 ⟨i, hi, rfl, k2, e7, r2, g2⟩ ih
  have e10 : τ2 0 10 = nI p := r2.2.2.1
  refine pk_le (nn + m_bk s) i (fun q => ?_) (fun q => ?_) rfl rfl
  · have ei : i = nn + m_bk s := by omega
    subst ei
    intro x1 hx1
    rw [nI_add] at hx1
    subst hx1
    refine t_peek hz r2 ?_
    have e' : (hup τ2 0 10 ((τ2 0 10) + (1 : Int32))) 0 10 = nI (p + 1) := by rw [hup_at, if_pos rfl, e10, nI_suc]
    have kk : kpC τ2 (hup τ2 0 10 ((τ2 0 10) + (1 : Int32))) := kpC.h (by omega)
    have mm : z - ((hup τ2 0 10 ((τ2 0 10) + (1 : Int32))) 0 10).toNatClampNeg < z - p := by rw [e', nI_clamp (by omega)]; omega
    have lo : ∀ j, j ≠ 7 → j < 100 → m_cb p s j = s j := fun j i1 i2 => cb_lo hw i1 i2
    have c7 : m_cb p s 7 = all + (nn + m_bk s) := by rw [cb_7 hw, h7]; omega
    dsimp only [hM_]
    refine sg_isn (k := 44) (r2.sg p) (by decide) (fun y => ?_) (fun y => ?_)
    · have y59 : sgn bt z p = 59 := hc.resolve_left y
      refine hP _ _ _ ⟨p + 1, m_pt (m_cb p s), ?_, ?_, (k0.tr k2).tr kk.q, r2.mv kk e' (by omega), ⟨?_, ?_⟩, ?_, fun k hk => ?_, Or.inr ⟨rfl, ?_, ?_⟩⟩ mm
      · unfold m_pt; rw [upN_ne (by decide), upN_ne (by decide), c7]
      · unfold m_pt; rw [upN_ne (by decide), upN_ne (by decide), c7]; omega
      · unfold m_pt; rw [upN_ne (by decide), upN_ne (by decide), lo 0 (by decide) (by decide)]; exact h0
      · unfold m_pt; rw [upN_ne (by decide), upN_ne (by decide), lo 2 (by decide) (by decide)]; exact h2
      · rw [rr_step h0 hpz, y59, st_sg (by unfold bell; omega) h2, sg_s] at hF
        unfold m_sc at hF
        rw [if_pos ⟨by omega, h6⟩, if_pos h5] at hF
        exact hF
      · unfold m_pt at hk ⊢
        rw [upN_ne (by decide), upN_ne (by decide), c7] at hk
        rw [hup_ne _ _ (by decide), upN_ne (by omega), upN_ne (by omega), cb_hi hw]; exact g2 k hk
      · unfold m_pt; rw [upN_ne (by decide), upN_eq, lo 5 (by decide) (by decide), h5]
      · unfold m_pt; rw [upN_eq]
    · refine hP _ _ _ ⟨p + 1, m_bb (m_cb p s), ?_, ?_, (k0.tr k2).tr kk.q, r2.mv kk e' (by omega), ⟨?_, ?_⟩, ?_, fun k hk => ?_, Or.inl ⟨rfl, ?_, ?_, ?_, ?_⟩⟩ mm
      · unfold m_bb; rw [upN_ne (by decide), upN_ne (by decide), upN_ne (by decide), c7]
      · unfold m_bb; rw [upN_ne (by decide), upN_ne (by decide), upN_ne (by decide), c7]; omega
      · unfold m_bb; rw [upN_ne (by decide), upN_ne (by decide), upN_ne (by decide), lo 0 (by decide) (by decide)]; exact h0
      · unfold m_bb; rw [upN_ne (by decide), upN_ne (by decide), upN_ne (by decide), lo 2 (by decide) (by decide)]; exact h2
      · rw [rr_step h0 hpz, y, st_sg (by unfold bell; omega) h2, sg_c] at hF
        unfold m_cm at hF
        rw [if_pos ⟨h5, h6⟩] at hF
        exact hF
      · unfold m_bb at hk ⊢
        rw [upN_ne (by decide), upN_ne (by decide), upN_ne (by decide), c7] at hk
        rw [hup_ne _ _ (by decide), upN_ne (by omega), upN_ne (by omega), upN_ne (by omega), cb_hi hw]; exact g2 k hk
      · unfold m_bb; rw [upN_ne (by decide), upN_ne (by decide), upN_ne (by decide), lo 5 (by decide) (by decide)]; exact h5
      · unfold m_bb; rw [upN_ne (by decide), upN_ne (by decide), upN_eq]
      · unfold m_bb; rw [upN_ne (by decide), upN_eq, upN_ne (by decide), upN_ne (by decide), upN_ne (by decide)]
      · unfold m_bb; rw [upN_eq]
  · have hi66 : all + i < 66 := by omega
    have store : ∀ x : Int32, x = nI (m_cp s (m_bk s) (100 + (all + i))) → ∀ x8 : Int32, x8 = nI i + (1 : Int32) → P x8 (hup τ2 6 ((nI all + nI i)).toNatClampNeg x) := fun x hx x8 hx8 => by
      rw [nI_suc] at hx8
      subst hx8
      rw [nI_add, nI_clamp (by omega)]
      refine ih _ _ ⟨i + 1, by omega, rfl, k2.tr (kpQ.h (Or.inl rfl)), by rw [hup_n _ _ _ (by decide)]; exact e7, r2.hk (Or.inl rfl), fun k hk => ?_⟩ (by rw [nI_clamp (by omega), nI_clamp (by omega)]; omega)
      rw [hup_at]
      by_cases y : k = all + i
      · rw [if_pos y, y]; exact hx
      · rw [if_neg y]; exact g2 k (by omega)
    have in66 : vp_in (nI all + nI i) 66 := by rw [nI_add]; exact vp_in_nI hi66 (by decide)
    refine pk_le nn i (fun y => ?_) (fun y => ?_) rfl rfl
    · rw [show (2 : Int32) = nI 2 from rfl, pk_mul, pk_sub (by omega), pk_sub (by omega)]
      refine ⟨vp_in_nI (by omega) (by decide), in66, store _ ?_⟩
      rw [nI_clamp (by omega), e7, hblk _ (by omega)]
      obtain ⟨j, rfl⟩ : ∃ j, i = nn + j := ⟨i - nn, by omega⟩
      have e := cp_in (s := s) (b := m_bk s) (i := j) (by omega)
      rw [h7] at e
      rw [show 100 + (all + (nn + j)) = 100 + (all + nn + j) by omega, e]
      congr 2
      omega
    · refine ⟨vp_in_nI (by omega) (by decide), in66, store _ ?_⟩
      rw [nI_clamp (by omega), e7, hblk _ y, cp_lo (by omega)]

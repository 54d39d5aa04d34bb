def kpF (τ τ' : hSt) : Prop := (∀ k, k ≠ 0 → k ≠ 14 → k ≠ 16 → τ' k = τ k) ∧ ∀ j, j ≠ 27 → τ' 0 j = τ 0 j
theorem kpF.rf {τ : hSt} : kpF τ τ := ⟨fun _ _ _ _ => rfl, fun _ _ => rfl⟩
theorem kpF.tr {a b c : hSt} (h : kpF a b) (h2 : kpF b c) : kpF a c := ⟨fun k p q r => by rw [h2.1 k p q r, h.1 k p q r], fun j p => by rw [h2.2 j p, h.2 j p]⟩
theorem kpF.Y {a b : hSt} (h : kpF a b) : kpY a b := ⟨fun k p q => h.1 k (by omega) (by omega) (by omega), h.2 1 (by decide), h.2 6 (by decide), h.2 8 (by decide), h.2 11 (by decide), h.2 37 (by decide)⟩
theorem kpF.o14 {a b : hSt} (h : oth 14 a b) : kpF a b := ⟨fun k _ p _ => h k p, fun j _ => by rw [h 0 (by decide)]⟩
theorem kpF.o16 {a b : hSt} (h : oth 16 a b) : kpF a b := ⟨fun k _ _ p => h k p, fun j _ => by rw [h 0 (by decide)]⟩
theorem kpF.h27 {a : hSt} {v : Int32} : kpF a (hup a 0 27 v) := ⟨fun k p _ _ => hup_n _ _ _ p, fun j p => by rw [hup_at, if_neg p]⟩
def ins (hs : Nat → Nat → Nat) (a : Nat) (h : Nat → Nat) (i : Nat) : Nat → Nat := if i < a then hs i else if i = a then h else hs (i - 1)
theorem ins_lt {hs : Nat → Nat → Nat} {a i : Nat} {h : Nat → Nat} (q : i < a) : ins hs a h i = hs i := by unfold ins; rw [if_pos q]
theorem ins_eq {hs : Nat → Nat → Nat} {a : Nat} {h : Nat → Nat} : ins hs a h a = h := by unfold ins; rw [if_neg (Nat.lt_irrefl _), if_pos rfl]
theorem ins_gt {hs : Nat → Nat → Nat} {a i : Nat} {h : Nat → Nat} (q : a < i) : ins hs a h i = hs (i - 1) := by unfold ins; rw [if_neg (by omega), if_neg (by omega)]
/-- the set of heads with one more -/
theorem srt_ins {τ τ' : hSt} {n p M a : Nat} {H hs : Nat → Nat → Nat} (hn : n ≤ 8) (hp : PR n (H p)) (h : srt τ n H hs M p) (ha : a ≤ M) (hlo : ∀ i, i < a → rk n (hs i) < rk n (H p)) (hhi : ∀ i, a ≤ i → i < M → rk n (H p) < rk n (hs i)) (e27 : τ' 0 27 = nI (M + 1)) (e16 : ∀ i, i < M + 1 → τ' 16 i = nI (numR n (ins hs a (H p) i))) : srt τ' n H (ins hs a (H p)) (M + 1) (p + 1) := by
  obtain ⟨h1, h2, h3, h4, h5⟩ := h
  have hno : inR (fun a => rk n (H a)) p (rk n (H p)) = false := by
    cases e : inR (fun a => rk n (H a)) p (rk n (H p)) with
    | false => rfl
    | true =>
      obtain ⟨i, hi, q⟩ := (h5 _).mp e
      rcases Nat.lt_or_ge i a with z | z
      · have := hlo i z; omega
      · have := hhi i z hi; omega
  refine ⟨?_, e27, fun i hi => ⟨?_, e16 i hi⟩, fun i j hij hj => ?_, fun ρ => ?_⟩
  · show M + 1 = dcn (fun a => rk n (H a)) p + (if inR (fun a => rk n (H a)) p (rk n (H p)) then 0 else 1)
    rw [hno, ← h1]; rfl
  · rcases Nat.lt_trichotomy i a with z | z | z
    · rw [ins_lt z]; exact (h3 i (by omega)).1
    · subst z; rw [ins_eq]; exact hp
    · rw [ins_gt z]; exact (h3 (i - 1) (by omega)).1
  · rcases Nat.lt_trichotomy j a with z | z | z
    · rw [ins_lt z, ins_lt (by omega)]; exact h4 i j hij (by omega)
    · subst z; rw [ins_eq, ins_lt hij]; exact hlo i hij
    · rw [ins_gt z]
      rcases Nat.lt_trichotomy i a with y | y | y
      · rw [ins_lt y]
        have := hlo i y
        have := hhi (j - 1) (by omega) (by omega)
        omega
      · subst y; rw [ins_eq]; exact hhi (j - 1) (by omega) (by omega)
      · rw [ins_gt y]; exact h4 (i - 1) (j - 1) (by omega) (by omega)
  · show (inR (fun a => rk n (H a)) p ρ || decide (rk n (H p) = ρ)) = true ↔ _
    rw [Bool.or_eq_true, h5 ρ, decide_eq_true_iff]
    constructor
    · rintro (⟨i, hi, q⟩ | q)
      · rcases Nat.lt_or_ge i a with z | z
        · exact ⟨i, by omega, by rw [ins_lt z]; exact q⟩
        · exact ⟨i + 1, by omega, by rw [ins_gt (by omega)]; exact q⟩
      · exact ⟨a, by omega, by rw [ins_eq]; exact q⟩
    · rintro ⟨i, hi, q⟩
      rcases Nat.lt_trichotomy i a with z | z | z
      · rw [ins_lt z] at q; exact Or.inl ⟨i, by omega, q⟩
      · subst z; rw [ins_eq] at q; exact Or.inr q
      · rw [ins_gt z] at q; exact Or.inl ⟨i - 1, by omega, q⟩
theorem srt_old {τ τ' : hSt} {n p M a : Nat} {H hs : Nat → Nat → Nat} (h : srt τ n H hs M p) (ha : a < M) (he : rk n (hs a) = rk n (H p)) (e27 : τ' 0 27 = τ 0 27) (e16 : τ' 16 = τ 16) : srt τ' n H hs M (p + 1) := by
  obtain ⟨h1, h2, h3, h4, h5⟩ := h
  have hyes : inR (fun a => rk n (H a)) p (rk n (H p)) = true := (h5 _).mpr ⟨a, ha, he⟩
  refine ⟨?_, by rw [e27]; exact h2, fun i hi => ⟨(h3 i hi).1, by rw [e16]; exact (h3 i hi).2⟩, h4, fun ρ => ?_⟩
  · show M = dcn (fun a => rk n (H a)) p + (if inR (fun a => rk n (H a)) p (rk n (H p)) then 0 else 1)
    rw [hyes, ← h1]; rfl
  · show (inR (fun a => rk n (H a)) p ρ || decide (rk n (H p) = ρ)) = true ↔ _
    rw [Bool.or_eq_true, h5 ρ, decide_eq_true_iff]
    constructor
    · rintro (q | q)
      · exact q
      · exact ⟨a, ha, by rw [he]; exact q⟩
    · exact Or.inl
theorem m1_pred {a : Nat} (h : 0 < a) : nI a - (1 : Int32) = nI (a - 1) ∧ nI a + (-1 : Int32) = nI (a - 1) := by
  have e : nI a = nI (a - 1 + 1) := by rw [show a - 1 + 1 = a by omega]
  exact ⟨by rw [show (1 : Int32) = nI 1 from rfl, pk_sub (by omega)], by rw [e, pk_m1]⟩
/-- the shift, and the new head -/
theorem t_shift {τ : hSt} {n p M a : Nat} {H hs : Nat → Nat → Nat} {K : hSt → Prop} (hn : n ≤ 8) (hp : PR n (H p)) (hM4 : M < 4096) (h : srt τ n H hs M p) (ha : a ≤ M) (hlo : ∀ i, i < a → rk n (hs i) < rk n (H p)) (hhi : ∀ i, a ≤ i → i < M → rk n (H p) < rk n (hs i)) (v6_21 r19 : Int32) (e6 : v6_21 = nI a) (e19 : r19 = nI (numR n (H p)))
    (hK : ∀ τ' hs', kpF τ τ' → τ' 14 = τ 14 → srt τ' n H hs' (M + 1) (p + 1) → K τ') (v4_5 : Int32) (P20 : Int32 → hSt → Prop) (hP : ∀ x τ', x = v4_5 + (1 : Int32) → K τ' → P20 x τ') (x7_23 : Int32) (e7 : x7_23 = nI M) :
    hL2 (fun P180 (v7_24 : Int32) (σ25 : hSt) => ((v7_24 ≤ v6_21 → (vp_in v6_21 4096 ∧ (∀ x4_28 : Int32, x4_28 = v4_5 + (1 : Int32) → (P20 x4_28 (hup (hup σ25 16 (v6_21).toNatClampNeg r19) 0 27 (((hup σ25 16 (v6_21).toNatClampNeg r19) 0 27) + (1 : Int32))))))) ∧ (¬ v7_24 ≤ v6_21 → (vp_in (v7_24 - (1 : Int32)) 4096 ∧ (vp_in v7_24 4096 ∧ (∀ x7_31 : Int32, x7_31 = v7_24 + (-1 : Int32) → (P180 x7_31 (hup σ25 16 (v7_24).toNatClampNeg (σ25 16 ((v7_24 - (1 : Int32))).toNatClampNeg))))))))) x7_23 τ := by
  subst e6 e19 e7
  have h3 := h.2.2.1
  refine hL2_in (fun v7 τ2 => ∃ c, a ≤ c ∧ c ≤ M ∧ v7 = nI c ∧ oth 16 τ τ2 ∧ (∀ i, i < c → τ2 16 i = nI (numR n (hs i))) ∧ (∀ i, c < i → i < M + 1 → τ2 16 i = nI (numR n (hs (i - 1))))) (fun v7 _ => v7.toNatClampNeg) ?_ ⟨M, ha, Nat.le_refl _, rfl, oth.rf, fun i hi => (h3 i hi).2, fun i h1 h2 => by omega⟩
  rintro P _ τ2 ⟨c, hac, hcM, rfl, o2, f1, f2⟩ ih
  refine pk_le c a (fun z => ?_) (fun z => ?_) rfl rfl
  · have e : c = a := by omega
    subst e
    refine ⟨vp_in_nI (by omega) (by decide), ?_⟩
    intro x hx
    rw [nI_clamp (by omega)]
    refine hP x _ hx (hK _ (ins hs c (H p)) ((kpF.o16 o2.up).tr kpF.h27) (by rw [hup_n _ _ _ (by decide), hup_n _ _ _ (by decide)]; exact o2 14 (by decide)) (srt_ins hn hp h hcM hlo hhi ?_ (fun i hi => ?_)))
    · rw [hup_at, if_pos rfl, hup_ne _ _ (by decide), o2 0 (by decide), h.2.1, nI_suc]
    · rw [hup_ne _ _ (by decide), hup_at]
      rcases Nat.lt_trichotomy i c with y | y | y
      · rw [if_neg (by omega), ins_lt y]; exact f1 i y
      · subst y; rw [if_pos rfl, ins_eq]
      · rw [if_neg (by omega), ins_gt y]; exact f2 i y hi
  · obtain ⟨g1, g2⟩ := m1_pred (a := c) (by omega)
    rw [g1, g2]
    refine ⟨vp_in_nI (by omega) (by decide), vp_in_nI (by omega) (by decide), ?_⟩
    intro x hx
    subst hx
    rw [nI_clamp (by omega), nI_clamp (by omega)]
    refine ih _ _ ⟨c - 1, by omega, by omega, rfl, o2.up, fun i hi => ?_, fun i h1 h2 => ?_⟩ (by rw [nI_clamp (by omega), nI_clamp (by omega)]; omega)
    · rw [hup_at, if_neg (by omega)]; exact f1 i (by omega)
    · rw [hup_at]
      by_cases e : i = c
      · subst e; rw [if_pos rfl]; exact f1 _ (by omega)
      · rw [if_neg e]; exact f2 i (by omega) h2
theorem t_findHeads {τ : hSt} {w : Nat → Int64} {n m l : Nat} {Ks : Nat → Nat} {μs : Nat → Nat → Nat} (hn : n ≤ 8) (h0 : τ 0 1 = nI n) (hM : ∀ m, m < 6 → vM n (Ks m) (μs m) ∧ rM τ m (Ks m) (μs m)) (hm : m < 6) (hl : l < 6) (hKm : 0 < Ks m) (hKl : 0 < Ks l) {Q : hSt → Prop}
    (hQ : ∀ τ' hs M, kpF τ τ' → srt τ' n (hdp n (μs m) (Ks l) (μs l)) hs M (Ks m * Ks l) → Q τ') : wp_X12_findHeads (nI m) (nI l) τ w Q := by
  have hvm := (hM m hm).1
  have hvl := (hM l hl).1
  have hm64 := hvm.1
  have hl64 := hvl.1
  have hle2 : Ks m * Ks l ≤ 64 * 64 := Nat.mul_le_mul hm64 hl64
  have hinm : vp_in (nI m) 6 := vp_in_nI hm (by decide)
  have hinl : vp_in (nI l) 6 := vp_in_nI hl (by decide)
  have rm : ∀ τ3, kpF τ τ3 → rM τ3 m (Ks m) (μs m) := fun τ3 h => (hM m hm).2.mv (h.1 1 (by decide) (by decide) (by decide)) (h.1 2 (by decide) (by decide) (by decide))
  have rl : ∀ τ3, kpF τ τ3 → rM τ3 l (Ks l) (μs l) := fun τ3 h => (hM l hl).2.mv (h.1 1 (by decide) (by decide) (by decide)) (h.1 2 (by decide) (by decide) (by decide))
  have r0 : ∀ τ3, kpF τ τ3 → τ3 0 1 = nI n := fun τ3 h => by rw [h.2 1 (by decide)]; exact h0
  unfold wp_X12_findHeads
  rw [nI_clamp (by omega), nI_clamp (by omega)]
  generalize hHH : hdp n (μs m) (Ks l) (μs l) = H at hQ
  have hH : ∀ p, p < Ks m * Ks l → PR n (H p) := fun p hp => by rw [← hHH]; exact hdp_PR hvm hvl hp
  refine hL2_in (fun v3 τ2 => ∃ j, j ≤ Ks m ∧ v3 = nI j ∧ kpF τ τ2 ∧ ∃ hs M, srt τ2 n H hs M (j * Ks l)) (fun v3 _ => Ks m - v3.toNatClampNeg) ?_ ⟨0, Nat.zero_le _, rfl, kpF.h27, fun _ i => i, 0, by
    rw [Nat.zero_mul]
    exact ⟨rfl, by rw [hup_at, if_pos rfl]; rfl, fun i hi => absurd hi (Nat.not_lt_zero i), fun i j _ hj => absurd hj (Nat.not_lt_zero j), fun ρ => ⟨fun h => (by cases h), fun ⟨i, hi, _⟩ => absurd hi (Nat.not_lt_zero i)⟩⟩⟩
  rintro P _ τ2 ⟨j, hj, rfl, k2, hs2, M2, s2⟩ ih
  refine ⟨hinm, ?_⟩
  refine pk_le (Ks m) j (fun z => ?_) (fun z => ?_) (rm τ2 k2).1 rfl
  · have e : j = Ks m := by omega
    subst e
    exact hQ τ2 hs2 M2 k2 s2
  have hle : (j + 1) * Ks l ≤ Ks m * Ks l := Nat.mul_le_mul_right _ z
  rw [Nat.add_mul, Nat.one_mul] at hle
  refine hL2_in (fun v4 τ3 => ∃ i, i ≤ Ks l ∧ v4 = nI i ∧ kpF τ τ3 ∧ ∃ hs M, srt τ3 n H hs M (j * Ks l + i)) (fun v4 _ => Ks l - v4.toNatClampNeg) ?_ ⟨0, Nat.zero_le _, rfl, k2, hs2, M2, s2⟩
  rintro P2 _ τ3 ⟨i, hi, rfl, k3, hs3, M3, s3⟩ ih2
  refine ⟨hinl, ?_⟩
  refine pk_le (Ks l) i (fun z2 => ?_) (fun z2 => ?_) (rl τ3 k3).1 rfl
  · have e : i = Ks l := by omega
    subst e
    intro x hx
    rw [nI_suc] at hx
    subst hx
    refine ih _ _ ⟨j + 1, by omega, rfl, k3, hs3, M3, ?_⟩ (by rw [nI_clamp (by omega), nI_clamp (by omega)]; omega)
    rw [Nat.add_mul, Nat.one_mul]; exact s3
  have hp : j * Ks l + i < Ks m * Ks l := by omega
  have eH : H (j * Ks l + i) = fun x => rwn n (μs m) j (iv n (μs l) i x) := by rw [← hHH]; exact hdp_is z2
  refine t_rounds hn (by decide) (r0 τ3 k3) (fun τ4 o4 r4 => ?_)
  have sv : ∀ τ5, oth 14 τ3 τ5 → srt τ5 n H hs3 M3 (j * Ks l + i) := fun τ5 o => by
    obtain ⟨g1, g2, g3, g4⟩ := s3
    exact ⟨g1, by rw [o 0 (by decide)]; exact g2, fun i hi => by rw [o 16 (by decide)]; exact g3 i hi, g4⟩
  have nx : ∀ τ6, kpF τ τ6 → (∃ hs M, srt τ6 n H hs M (j * Ks l + i + 1)) → ∀ x : Int32, x = nI i + (1 : Int32) → P2 x τ6 := fun τ6 k6 s6 x hx => by
    rw [nI_suc] at hx
    subst hx
    exact ih2 _ _ ⟨i + 1, by omega, rfl, k6, s6⟩ (by rw [nI_clamp (by omega), nI_clamp (by omega)]; omega)
  refine hL2_in (fun v5 τ5 => ∃ k, k ≤ j ∧ v5 = nI k ∧ oth 14 τ3 τ5 ∧ aR τ5 14 n (rwn n (μs m) k)) (fun v5 _ => j - v5.toNatClampNeg) ?_ ⟨0, Nat.zero_le _, rfl, o4, r4⟩
  rintro P3 _ τ5 ⟨k, hk, rfl, o5, r5⟩ ih3
  have k5 := k3.tr (kpF.o14 o5)
  refine pk_le j k (fun z3 => ?_) (fun z3 => ?_) rfl rfl
  rotate_left
  · obtain ⟨-, g2, g3⟩ := ix66 hm (k := k) (by omega)
    refine ⟨g2, ?_⟩
    rw [g3, (rm τ5 k5).2 k (Or.inl (by omega)) hKm]
    have hx := hvm.2 k (Or.inl (by omega))
    refine t_ring hn (by decide) hx.1 (by omega) (r0 τ5 k5) r5 (fun τ6 o6 r6 => ?_)
    intro x hx
    rw [nI_suc] at hx
    subst hx
    exact ih3 _ _ ⟨k + 1, by omega, rfl, o5.tr o6, r6⟩ (by rw [nI_clamp (by omega), nI_clamp (by omega)]; omega)
  have ek : k = j := by omega
  subst ek
  intro x hx
  subst hx
  refine hL2_in (fun v5 τ6 => ∃ c r, c ≤ i ∧ v5 = nI c - 1 ∧ oth 14 τ3 τ6 ∧ PR n r ∧ aR τ6 14 n r ∧ ∀ x, r (iv n (μs l) c x) = rwn n (μs m) k (iv n (μs l) i x)) (fun v5 _ => (v5 + 1).toNatClampNeg) ?_ ⟨i, rwn n (μs m) k, Nat.le_refl _, rfl, o5, rwn_PR hvm (by omega), r5, fun x => rfl⟩
  rintro P4 _ τ6 ⟨c, r, hci, rfl, o6, hr, r6, hrc⟩ ih4
  have k6 := k3.tr (kpF.o14 o6)
  by_cases hc0 : c = 0
  rotate_left
  · obtain ⟨g1, -⟩ := m1_pred (a := c) (by omega)
    rw [g1]
    refine br_f (nI_pos (by omega)) ?_
    obtain ⟨-, g2, g3⟩ := ix66 hl (k := c - 1) (by omega)
    refine ⟨g2, ?_⟩
    rw [g3, (rl τ6 k6).2 (c - 1) (Or.inl (by omega)) hKl]
    have hx := hvl.2 (c - 1) (Or.inl (by omega))
    refine t_ring hn (by decide) hx.1 (by omega) (r0 τ6 k6) r6 (fun τ7 o7 r7 => ?_)
    intro x hx2
    have ex : x = nI (c - 1) - 1 := by rw [hx2, Int32.sub_eq_add_neg]
    subst ex
    refine ih4 _ _ ⟨c - 1, _, by omega, rfl, o6.tr o7, hr.comp (b_pm_PR hx.1), r7, fun x => ?_⟩ ?_
    · have : iv n (μs l) c x = b_pm n (μs l (c - 1)) (iv n (μs l) (c - 1) x) := by
        have e : c = c - 1 + 1 := by omega
        rw [e]; rfl
      show r (b_pm n (μs l (c - 1)) (iv n (μs l) (c - 1) x)) = _
      rw [← this]; exact hrc x
    · have e1 : nI (c - 1) - 1 + 1 = nI (c - 1) := by rw [Int32.sub_add_cancel]
      rw [e1, Int32.sub_add_cancel, nI_clamp (by omega), nI_clamp (by omega)]; omega
  subst hc0
  refine br_t (by decide) ?_
  have er : r = H (k * Ks l + i) := by rw [eH]; funext x; exact hrc x
  subst er
  refine t_number hn (r0 τ6 k6) r6 ?_
  have S6 := sv τ6 o6
  have hPp := hH _ hp
  have hM4 : M3 < 4096 := by
    have := dcn_le (fun a => rk n (H a)) (k * Ks l + i)
    rw [S6.1]; omega
  intro x6 hx6
  subst hx6
  obtain ⟨d1, d2, d3, d4, d5⟩ := S6
  have hnum := numR_lt31 hn (hPp.lt8 hn)
  refine hL1_in (fun v6 => ∃ a, a ≤ M3 ∧ v6 = nI a ∧ ∀ i', a ≤ i' → i' < M3 → rk n (H (k * Ks l + i)) < rk n (hs3 i')) (fun v6 => v6.toNatClampNeg) ?_ ⟨M3, Nat.le_refl _, d2, fun i' h1 h2 => by omega⟩
  rintro P5 _ ⟨a, ha, rfl, hhi⟩ ih5
  dsimp only [hM_]
  have shift : ∀ (hlo : ∀ i', i' < a → rk n (hs3 i') < rk n (H (k * Ks l + i))) (x7 : Int32), x7 = τ6 0 27 → _ := fun hlo x7 e7 =>
    t_shift (K := fun τ' => kpF τ τ' ∧ ∃ hs M, srt τ' n H hs M (k * Ks l + i + 1)) hn hPp hM4 ⟨d1, d2, d3, d4, d5⟩ ha hlo hhi (nI a) _ rfl rfl (fun τ' hs' kk _ ss => ⟨k6.tr kk, hs', _, ss⟩) (nI i) P2 (fun x τ' hx hk => nx τ' hk.1 hk.2 x hx) x7 (e7.trans d2)
  by_cases ha0 : a = 0
  · subst ha0
    refine br_t (by decide) (br_t (by decide) ?_)
    intro x7 hx7
    exact shift (fun i' h => absurd h (Nat.not_lt_zero i')) x7 hx7
  · obtain ⟨g1, g2⟩ := m1_pred (a := a) (by omega)
    have hng : ¬ nI a ≤ 0 := nI_nle (by omega) (by omega)
    obtain ⟨dp, dn⟩ := d3 (a - 1) (by omega)
    have hnum2 := numR_lt31 hn (dp.lt8 hn)
    rw [g1, g2, show (nI (a - 1)).toNatClampNeg = a - 1 from nI_clamp (by omega), dn]
    have hin : vp_in (nI (a - 1)) 4096 := vp_in_nI (by omega) (by decide)
    refine br_f hng ⟨hin, pk_le (numR n (hs3 (a - 1))) (numR n (H (k * Ks l + i))) (fun q => ?_) (fun q => ?_) rfl rfl⟩
    · refine br_f hng ⟨hin, fun hne x7 hx7 => ?_, fun heq x hx => ?_⟩
      · have hlt : numR n (hs3 (a - 1)) < numR n (H (k * Ks l + i)) := by
          rcases Nat.lt_or_ge (numR n (hs3 (a - 1))) (numR n (H (k * Ks l + i))) with q2 | q2
          · exact q2
          · exact absurd (by rw [Nat.le_antisymm q q2]) hne
        have hrk := (num_rk hn dp hPp).mp hlt
        refine shift (fun i' h => ?_) x7 hx7
        by_cases e : i' = a - 1
        · subst e; exact hrk
        · have := d4 i' (a - 1) (by omega) (by omega)
          omega
      · have he : numR n (hs3 (a - 1)) = numR n (H (k * Ks l + i)) := (nI_eq (by omega) (by omega)).mp heq
        have he2 := num_inj hn dp hPp he
        exact nx τ6 k6 ⟨hs3, M3, srt_old ⟨d1, d2, d3, d4, d5⟩ (show a - 1 < M3 by omega) (by rw [he2]) rfl rfl⟩ x hx
    · intro x hx
      subst hx
      refine ih5 _ ⟨a - 1, by omega, rfl, fun i' h1 h2 => ?_⟩ (by rw [nI_clamp (by omega), nI_clamp (by omega)]; omega)
      by_cases e : i' = a - 1
      · subst e; exact (num_rk hn hPp dp).mp q
      · exact hhi i' (by omega) h2

/-! The reference's rows: arrays of bells. -/
def aR (τ : hSt) (k n : Nat) (r : Nat → Nat) : Prop := ∀ i, i < n → τ k i = nI (r i + 1)
def oth (k : Nat) (σ σ' : hSt) : Prop := ∀ j, j ≠ k → σ' j = σ j
theorem oth.rf {k : Nat} {σ : hSt} : oth k σ σ := fun _ _ => rfl
theorem oth.tr {k : Nat} {a b c : hSt} (h : oth k a b) (h2 : oth k b c) : oth k a c := fun j hj => by rw [h2 j hj, h j hj]
theorem oth.up {k i : Nat} {v : Int32} {a b : hSt} (h : oth k a b) : oth k a (hup b k i v) := fun j hj => by rw [hup_n _ _ _ hj, h j hj]
theorem hup_at (σ : hSt) (k i j : Nat) (v : Int32) : hup σ k i v k j = if j = i then v else σ k j := by rw [hup_s]; rfl
theorem hup_ne (σ : hSt) {k i j q : Nat} (v : Int32) (h : j ≠ k) : hup σ k i v j q = σ j q := by rw [hup_n _ _ _ h]
theorem aR.congr {τ : hSt} {k n : Nat} {r q : Nat → Nat} (h : aR τ k n r) (e : ∀ i, i < n → r i = q i) : aR τ k n q := fun i hi => by rw [h i hi, e i hi]
theorem aR.mv {τ τ' : hSt} {k k' n : Nat} {r : Nat → Nat} (h : aR τ k n r) (ho : oth k' τ τ') (hk : k ≠ k') : aR τ' k n r := fun i hi => by rw [ho k hk]; exact h i hi
theorem t_rounds {τ : hSt} {w : Nat → Int64} {k1 n : Nat} (hn : n ≤ 8) (hk : k1 ≠ 0) (h0 : τ 0 1 = nI n) {Q : hSt → Prop} (hQ : ∀ τ', oth k1 τ τ' → aR τ' k1 n (fun i => i) → Q τ') : wp_X12_rounds k1 τ w Q := by
  unfold wp_X12_rounds
  refine hL2_in (fun v2 τ2 => ∃ i, i ≤ n ∧ v2 = nI i ∧ oth k1 τ τ2 ∧ aR τ2 k1 i (fun i => i)) (fun v2 _ => n - v2.toNatClampNeg) ?_ ⟨0, Nat.zero_le _, rfl, oth.rf, fun i hi => absurd hi (Nat.not_lt_zero i)⟩
  rintro P _ τ2 ⟨i, hi, rfl, ho, ha⟩ ih
  have e0 : τ2 0 1 = nI n := by rw [ho 0 (Ne.symm hk)]; exact h0
  refine pk_le n i (fun z => ?_) (fun z => ?_) e0 rfl
  · have e : i = n := by omega
    subst e; exact hQ τ2 ho ha
  · refine ⟨vp_in_nI (by omega) (by decide), ?_⟩
    intro x hx
    rw [nI_suc] at hx ⊢
    subst hx
    rw [nI_clamp (by omega)]
    refine ih _ _ ⟨i + 1, by omega, rfl, ho.up, fun j hj => ?_⟩ (by rw [nI_clamp (by omega), nI_clamp (by omega)]; omega)
    rw [hup_at]
    by_cases e : j = i
    · subst e; rw [if_pos rfl]
    · rw [if_neg e]; exact ha j (by omega)
theorem t_isRounds {τ : hSt} {w : Nat → Int64} {k1 n : Nat} {r : Nat → Nat} (hn : n ≤ 8) (hr : PR n r) (h0 : τ 0 1 = nI n) (ha : aR τ k1 n r) {Q : Int32 → Prop} (h1 : (r = fun i => i) → Q 1) (h2 : (r ≠ fun i => i) → Q 0) : wp_X12_isRounds k1 τ w Q := by
  unfold wp_X12_isRounds
  refine hL1_in (fun v2 => ∃ i, i ≤ n ∧ v2 = nI i ∧ ∀ j, j < i → r j = j) (fun v2 => n - v2.toNatClampNeg) ?_ ⟨0, Nat.zero_le _, rfl, fun i hi => absurd hi (Nat.not_lt_zero i)⟩
  rintro P _ ⟨i, hi, rfl, he⟩ ih
  refine pk_le n i (fun z => ?_) (fun z => ?_) h0 rfl
  · have e : i = n := by omega
    subst e
    exact h1 (PR_ext hr (PR_id i) he)
  · refine ⟨vp_in_nI (by omega) (by decide), ?_⟩
    have h8 := hr.lt8 hn i z
    rw [nI_clamp (by omega)]
    refine pk_eq (r i + 1) (i + 1) (fun q => ?_) (fun q => ?_) (ha i z) (nI_suc i)
    · intro x hx
      rw [nI_suc] at hx
      subst hx
      refine ih _ ⟨i + 1, by omega, rfl, fun j hj => ?_⟩ (by rw [nI_clamp (by omega), nI_clamp (by omega)]; omega)
      by_cases e : j = i
      · subst e; omega
      · exact he j (by omega)
    · exact h2 (fun e => q (by rw [e]))
theorem bit_sg {m i : Nat} (hm : m < 2 ^ 31) (hi : i < 32) {A B : Prop} (f : m.testBit i = false → A) (g : m.testBit i = true → B) : (¬ ((nI m >>> (nI i &&& 31)) &&& (1 : Int32)) = 1 → A) ∧ (((nI m >>> (nI i &&& 31)) &&& (1 : Int32)) = 1 → B) := by
  rw [pk_shrN hm _ i (sh1_l i hi), pk_andN (Nat.lt_of_le_of_lt (Nat.div_le_self _ _) (by omega)) 1 (by decide)]
  have e : m.testBit i = decide (m / 2 ^ i % 2 ^ 1 = 1) := by rw [Nat.testBit_eq_decide_div_mod_eq]
  have h2 : m / 2 ^ i % 2 ^ 1 < 2 := Nat.mod_lt _ (by decide)
  have h := pk_eq (x := nI (m / 2 ^ i % 2 ^ 1)) (y := 1) (A := B) (B := A) (m / 2 ^ i % 2 ^ 1) 1 (fun h => g (by rw [e, h]; decide)) (fun h => f (by rw [e]; simp; omega)) rfl rfl (by omega) (by decide)
  exact ⟨h.2, h.1⟩
def rgi (n μ : Nat) (r : Nat → Nat) (i j : Nat) : Nat := if j < i then r (b_pm n μ j) else r j
theorem rgi_lt {n μ i j : Nat} {r : Nat → Nat} (h : j < i) : rgi n μ r i j = r (b_pm n μ j) := by unfold rgi; rw [if_pos h]
theorem rgi_ge {n μ i j : Nat} {r : Nat → Nat} (h : i ≤ j) : rgi n μ r i j = r j := by unfold rgi; rw [if_neg (by omega)]
theorem t_ring {τ : hSt} {w : Nat → Int64} {k1 n μ : Nat} {r : Nat → Nat} (hn : n ≤ 8) (hk : k1 ≠ 0) (hv : b_vis n μ) (hμ : μ < 2 ^ 31) (h0 : τ 0 1 = nI n) (ha : aR τ k1 n r) {Q : hSt → Prop} (hQ : ∀ τ', oth k1 τ τ' → aR τ' k1 n (fun i => r (b_pm n μ i)) → Q τ') : wp_X12_ring k1 (nI μ) τ w Q := by
  unfold wp_X12_ring
  refine hL2_in (fun v3 τ2 => ∃ i, i ≤ n ∧ v3 = nI i ∧ b_up μ i = false ∧ oth k1 τ τ2 ∧ aR τ2 k1 n (rgi n μ r i)) (fun v3 _ => n - v3.toNatClampNeg) ?_ ⟨0, Nat.zero_le _, rfl, rfl, oth.rf, fun i hi => by rw [rgi_ge (Nat.zero_le i)]; exact ha i hi⟩
  rintro P _ τ2 ⟨i, hi, rfl, hup, ho, hb⟩ ih
  have e0 : τ2 0 1 = nI n := by rw [ho 0 (Ne.symm hk)]; exact h0
  refine pk_le n i (fun z => ?_) (fun z => ?_) e0 rfl
  · have e : i = n := by omega
    subst e
    exact hQ τ2 ho (hb.congr (fun j hj => rgi_lt hj))
  · refine bit_sg hμ (by omega) (fun hbit => ?_) (fun hbit => ?_)
    · have hb2 : b_up μ (i + 1) = true := by
        show (!(b_up μ i) && !(μ.testBit i)) = true
        rw [hup, hbit]; rfl
      have hl : i + 1 < n := by
        rcases Nat.lt_or_ge (i + 1) n with q | q
        · exact q
        · have e : i + 1 = n := by omega
          rw [e, hv] at hb2; cases hb2
      refine ⟨vp_in_nI (by omega) (by decide), ?_⟩
      intro x hx
      rw [nI_suc]
      refine ⟨vp_in_nI (by omega) (by decide), vp_in_nI (by omega) (by decide), vp_in_nI (by omega) (by decide), ?_⟩
      intro y hy
      rw [show (2 : Int32) = nI 2 from rfl, nI_add] at hy
      rw [nI_clamp (by omega)] at hx
      rw [nI_clamp (by omega), nI_clamp (by omega)]
      subst hx hy
      refine ih _ _ ⟨i + 2, by omega, rfl, b_up_no hb2, ho.up.up, fun j hj => ?_⟩ (by rw [nI_clamp (by omega), nI_clamp (by omega)]; omega)
      have p1 : b_pm n μ i = i + 1 := by unfold b_pm; rw [if_neg (by omega), if_pos hb2]
      have p2 : b_pm n μ (i + 1) = i := by rw [← p1, b_pm_pm hv]
      rw [hup_at]
      by_cases q1 : j = i + 1
      · subst q1
        rw [if_pos rfl, rgi_lt (by omega), p2, hb i z, rgi_ge (by omega)]
      · rw [if_neg q1, hup_at]
        by_cases q2 : j = i
        · subst q2
          rw [if_pos rfl, rgi_lt (by omega), p1, hb (j + 1) hl, rgi_ge (by omega)]
        · rw [if_neg q2, hb j hj]
          by_cases q3 : j < i
          · rw [rgi_lt q3, rgi_lt (by omega)]
          · rw [rgi_ge (by omega), rgi_ge (by omega)]
    · have hb2 : b_up μ (i + 1) = false := by
        show (!(b_up μ i) && !(μ.testBit i)) = false
        rw [hbit]; simp
      intro y hy
      rw [nI_suc] at hy
      subst hy
      refine ih _ _ ⟨i + 1, by omega, rfl, hb2, ho, hb.congr (fun j hj => ?_)⟩ (by rw [nI_clamp (by omega), nI_clamp (by omega)]; omega)
      have p1 : b_pm n μ i = i := by unfold b_pm; rw [if_neg (by omega), hb2, hup]; simp
      by_cases q1 : j = i
      · subst q1; rw [rgi_ge (by omega), rgi_lt (by omega), p1]
      · by_cases q3 : j < i
        · rw [rgi_lt q3, rgi_lt (by omega)]
        · rw [rgi_ge (by omega), rgi_ge (by omega)]
theorem t_number {τ : hSt} {w : Nat → Int64} {k1 n : Nat} {r : Nat → Nat} (hn : n ≤ 8) (h0 : τ 0 1 = nI n) (ha : aR τ k1 n r) {Q : Int32 → Prop} (hQ : Q (nI (numR n r))) : wp_X12_number k1 τ w Q := by
  unfold wp_X12_number
  refine hL2_in (fun v2 v3 => ∃ i, i ≤ n ∧ v3 = nI i ∧ v2 = nI (numR i r)) (fun _ v3 => n - v3.toNatClampNeg) ?_ ⟨0, Nat.zero_le _, rfl, rfl⟩
  rintro P _ _ ⟨i, hi, rfl, rfl⟩ ih
  refine pk_le n i (fun z => ?_) (fun z => ?_) h0 rfl
  · have e : i = n := by omega
    subst e; exact hQ
  · refine ⟨vp_in_nI (by omega) (by decide), ?_⟩
    intro x hx y hy
    rw [nI_clamp (by omega), ha i z, show (10 : Int32) = nI 10 from rfl, pk_mul, nI_add] at hx
    rw [nI_suc] at hy
    subst hx hy
    refine ih _ _ ⟨i + 1, by omega, rfl, ?_⟩ (by rw [nI_clamp (by omega), nI_clamp (by omega)]; omega)
    show nI (10 * numR i r + (r i + 1)) = nI (numR i r * 10 + r i + 1)
    congr 1; omega
theorem t_rank {τ : hSt} {w : Nat → Int64} {k1 n : Nat} {r : Nat → Nat} (hn : n ≤ 8) (hr : isP n r) (h0 : τ 0 1 = nI n) (ha : aR τ k1 n r) {Q : Int32 → Prop} (hQ : Q (nI (rk n r))) : wp_X12_rank k1 τ w Q := by
  unfold wp_X12_rank
  refine hL2_in (fun v2 v3 => ∃ i, i ≤ n ∧ v3 = nI i ∧ v2 = nI (rkp n r i)) (fun _ v3 => n - v3.toNatClampNeg) ?_ ⟨0, Nat.zero_le _, rfl, rfl⟩
  rintro P _ _ ⟨i, hi, rfl, rfl⟩ ih
  refine pk_le n i (fun z => ?_) (fun z => ?_) h0 rfl
  · have e : i = n := by omega
    subst e; exact hQ
  · intro x hx
    rw [nI_suc] at hx
    subst hx
    have h8 := hr.lt8 hn i z
    refine hL2_in (fun v4 v5 => ∃ t, t ≤ n - (i + 1) ∧ v5 = nI (i + 1 + t) ∧ v4 = nI (nb (fun t => decide (r (i + 1 + t) < r i)) t)) (fun _ v5 => n - v5.toNatClampNeg) ?_ ⟨0, Nat.zero_le _, rfl, rfl⟩
    rintro P2 _ _ ⟨t, ht, rfl, rfl⟩ ih2
    refine pk_le n (i + 1 + t) (fun z2 => ?_) (fun z2 => ?_) h0 rfl
    · have e : t = n - (i + 1) := by omega
      subst e
      intro x hx y hy
      rw [h0, pk_sub (by omega), pk_mul, nI_add, rkd_rest hr z] at hx
      rw [nI_suc] at hy
      subst hx hy
      exact ih _ _ ⟨i + 1, by omega, rfl, rfl⟩ (by rw [nI_clamp (by omega), nI_clamp (by omega)]; omega)
    · refine ⟨vp_in_nI (by omega) (by decide), vp_in_nI (by omega) (by decide), ?_⟩
      have h9 := hr.lt8 hn (i + 1 + t) z2
      rw [nI_clamp (by omega), nI_clamp (by omega)]
      refine pk_le (r i + 1) (r (i + 1 + t) + 1) (fun q => ?_) (fun q => ?_) (ha i z) (ha _ z2)
      · intro x hx y hy
        rw [show (0 : Int32) = nI 0 from rfl, nI_add] at hx
        rw [nI_suc] at hy
        subst hx hy
        refine ih2 _ _ ⟨t + 1, by omega, rfl, ?_⟩ (by rw [nI_clamp (by omega), nI_clamp (by omega)]; omega)
        show _ = nI (nb _ t + (if decide (r (i + 1 + t) < r i) = true then 1 else 0))
        rw [if_neg (by simp; omega)]
      · intro x hx y hy
        rw [nI_suc] at hx hy
        subst hx hy
        refine ih2 _ _ ⟨t + 1, by omega, rfl, ?_⟩ (by rw [nI_clamp (by omega), nI_clamp (by omega)]; omega)
        show _ = nI (nb _ t + (if decide (r (i + 1 + t) < r i) = true then 1 else 0))
        rw [if_pos (by simp; omega)]
/-! A method: K changes of which the last may be called otherwise (64 the bob's, 65 the single's). -/
def relv (K k : Nat) : Prop := k < K ∨ k = 64 ∨ k = 65
def vM (n K : Nat) (μ : Nat → Nat) : Prop := K ≤ 64 ∧ ∀ k, relv K k → b_vis n (μ k) ∧ μ k < 256
def rM (τ : hSt) (m K : Nat) (μ : Nat → Nat) : Prop := τ 1 m = nI K ∧ ∀ k, relv K k → 0 < K → τ 2 (66 * m + k) = nI (μ k)
def rwn (n : Nat) (μ : Nat → Nat) : Nat → Nat → Nat
  | 0 => fun i => i
  | k + 1 => fun i => rwn n μ k (b_pm n (μ k) i)
def lst (K c : Nat) : Nat := if c = 0 then K - 1 else 63 + c
def hdn (n K : Nat) (μ : Nat → Nat) (c : Nat) : Nat → Nat := fun i => rwn n μ (K - 1) (b_pm n (μ (lst K c)) i)
theorem lst_rel {K c : Nat} (hK : 0 < K) (hc : c ≤ 2) : relv K (lst K c) := by
  unfold lst relv
  split
  · omega
  · omega
theorem rwn_PR {n K : Nat} {μ : Nat → Nat} (h : vM n K μ) : ∀ {k : Nat}, k ≤ K → PR n (rwn n μ k)
  | 0, _ => PR_id n
  | k + 1, hk => (rwn_PR h (k := k) (by omega)).comp (b_pm_PR (h.2 k (Or.inl (by omega))).1)
theorem hdn_PR {n K : Nat} {μ : Nat → Nat} (h : vM n K μ) (hK : 0 < K) {c : Nat} (hc : c ≤ 2) : PR n (hdn n K μ c) := (rwn_PR h (by omega)).comp (b_pm_PR (h.2 _ (lst_rel hK hc)).1)
theorem rwn_K {n K : Nat} {μ : Nat → Nat} (hK : 0 < K) : rwn n μ K = hdn n K μ 0 := by
  have e : K = K - 1 + 1 := by omega
  show rwn n μ K = fun i => rwn n μ (K - 1) (b_pm n (μ (K - 1)) i)
  rw [e]; rfl
theorem ix66 {m k : Nat} (hm : m < 6) (hk : k < 66) : (66 : Int32) * nI m + nI k = nI (66 * m + k) ∧ vp_in ((66 : Int32) * nI m + nI k) 396 ∧ ((66 : Int32) * nI m + nI k).toNatClampNeg = 66 * m + k := by
  have e : (66 : Int32) * nI m + nI k = nI (66 * m + k) := by rw [show (66 : Int32) = nI 66 from rfl, pk_mul, nI_add]
  exact ⟨e, by rw [e]; exact vp_in_nI (by omega) (by decide), by rw [e]; exact nI_clamp (by omega)⟩
theorem t_last {τ : hSt} {w : Nat → Int64} {m n K c : Nat} {μ : Nat → Nat} (hm : m < 6) (hc : c ≤ 2) (hK : 0 < K) (hv : vM n K μ) (hM : rM τ m K μ) {Q : Int32 → Prop} (hQ : Q (nI (μ (lst K c)))) : wp_X12_last (nI m) (nI c) τ w Q := by
  unfold wp_X12_last
  have h64 := hv.1
  have he := hM.2 _ (lst_rel hK hc) hK
  unfold lst at he hQ
  refine ⟨fun z => ?_, fun z => ?_⟩
  · have z' : c ≠ 0 := fun e => z (by rw [e]; rfl)
    rw [if_neg z'] at he hQ
    rw [show (63 : Int32) = nI 63 from rfl, nI_add]
    obtain ⟨-, h2, h3⟩ := ix66 hm (k := 63 + c) (by omega)
    refine ⟨h2, ?_⟩
    rw [h3, he]; exact hQ
  · have z' : c = 0 := (nI_eq (by omega) (by decide)).mp z
    rw [if_pos z'] at he hQ
    refine ⟨vp_in_nI hm (by decide), ?_⟩
    rw [nI_clamp (by omega), hM.1, show (1 : Int32) = nI 1 from rfl, pk_sub hK]
    obtain ⟨-, h2, h3⟩ := ix66 hm (k := K - 1) (by omega)
    refine ⟨h2, ?_⟩
    rw [h3, he]; exact hQ
theorem rM.mv {τ τ' : hSt} {m K : Nat} {μ : Nat → Nat} (h : rM τ m K μ) (h1 : τ' 1 = τ 1) (h2 : τ' 2 = τ 2) : rM τ' m K μ := ⟨by rw [h1]; exact h.1, fun k a b => by rw [h2]; exact h.2 k a b⟩
theorem t_ringLead {τ : hSt} {w : Nat → Int64} {k1 m n K c : Nat} {μ r : Nat → Nat} (hn : n ≤ 8) (hk : 3 ≤ k1) (hm : m < 6) (hc : c ≤ 2) (hK : 0 < K) (hv : vM n K μ) (h0 : τ 0 1 = nI n) (hM : rM τ m K μ) (ha : aR τ k1 n r) {Q : hSt → Prop} (hQ : ∀ τ', oth k1 τ τ' → aR τ' k1 n (fun i => r (hdn n K μ c i)) → Q τ') : wp_X12_ringLead k1 (nI m) (nI c) τ w Q := by
  unfold wp_X12_ringLead
  have h64 := hv.1
  refine hL2_in (fun v4 τ2 => ∃ k, k < K ∧ v4 = nI k ∧ oth k1 τ τ2 ∧ aR τ2 k1 n (fun i => r (rwn n μ k i))) (fun v4 _ => K - v4.toNatClampNeg) ?_ ⟨0, hK, rfl, oth.rf, ha⟩
  rintro P _ τ2 ⟨k, hk2, rfl, ho, hb⟩ ih
  have e0 : τ2 0 1 = nI n := by rw [ho 0 (by omega)]; exact h0
  have eM : rM τ2 m K μ := hM.mv (ho 1 (by omega)) (ho 2 (by omega))
  refine ⟨vp_in_nI hm (by decide), ?_⟩
  rw [nI_clamp (by omega)]
  refine pk_le K (k + 1) (fun z => ?_) (fun z => ?_) eM.1 (nI_suc k)
  · have e : k = K - 1 := by omega
    subst e
    refine t_last hm hc hK hv eM ?_
    have hx := hv.2 _ (lst_rel hK hc)
    refine t_ring hn (by omega) hx.1 (by omega) e0 hb (fun τ' ho' ha' => ?_)
    exact hQ τ' (ho.tr ho') ha'
  · obtain ⟨-, h2, h3⟩ := ix66 hm (k := k) (by omega)
    refine ⟨h2, ?_⟩
    rw [h3, eM.2 k (Or.inl hk2) hK]
    have hx := hv.2 k (Or.inl hk2)
    refine t_ring hn (by omega) hx.1 (by omega) e0 hb (fun τ' ho' ha' => ?_)
    intro x hx
    rw [nI_suc] at hx
    subst hx
    exact ih _ _ ⟨k + 1, by omega, rfl, ho.tr ho', ha'⟩ (by rw [nI_clamp (by omega), nI_clamp (by omega)]; omega)
theorem t_courseOf {τ : hSt} {w : Nat → Int64} {m n K t : Nat} {μ : Nat → Nat} (hn : n ≤ 8) (hm : m < 6) (hK : 0 < K) (hv : vM n K μ) (h0 : τ 0 1 = nI n) (hM : rM τ m K μ) (ht : isOrd (hdn n K μ 0) t) {Q : Int32 → hSt → Prop} (hQ : ∀ τ', oth 14 τ τ' → Q (nI t) τ') : wp_X12_courseOf (nI m) τ w Q := by
  unfold wp_X12_courseOf
  have hp := hdn_PR hv hK (c := 0) (by decide)
  refine t_rounds hn (by decide) h0 (fun τ1 ho1 ha1 => ?_)
  obtain ⟨ht1, ht2, ht3, ht4⟩ := ht
  refine hL2_in (fun v2 τ2 => ∃ k, k < t ∧ v2 = nI k ∧ oth 14 τ τ2 ∧ aR τ2 14 n (itr (hdn n K μ 0) k)) (fun v2 _ => t - v2.toNatClampNeg) ?_ ⟨0, by omega, rfl, ho1, ha1⟩
  rintro P _ τ2 ⟨k, hk2, rfl, ho, hb⟩ ih
  have e0 : τ2 0 1 = nI n := by rw [ho 0 (by decide)]; exact h0
  have eM : rM τ2 m K μ := hM.mv (ho 1 (by decide)) (ho 2 (by decide))
  refine t_ringLead (c := 0) hn (by decide) hm (by decide) hK hv e0 eM hb (fun τ3 ho3 ha3 => ?_)
  intro x hx
  rw [nI_suc] at hx
  subst hx
  have e3 : τ3 0 1 = nI n := by rw [ho3 0 (by decide)]; exact e0
  refine t_isRounds hn (itr_PR hp (k + 1)) e3 ha3 (fun e => ?_) (fun e => ?_)
  · have : k + 1 = t := by
      rcases Nat.lt_or_ge (k + 1) t with q | q
      · exact absurd e (ht4 (k + 1) (by omega) q)
      · omega
    subst this
    exact br_f (by decide) (hQ τ3 (ho.tr ho3))
  · have : k + 1 ≠ t := fun q => e (by rw [q]; exact ht3)
    exact br_t rfl (ih _ _ ⟨k + 1, by omega, rfl, ho.tr ho3, ha3⟩ (by rw [nI_clamp (by omega), nI_clamp (by omega)]; omega))

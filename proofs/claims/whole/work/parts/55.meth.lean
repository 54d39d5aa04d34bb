/-! The class's methods. -/
theorem pk_en {x y : Int32} {A B : Prop} (a b : Nat) (g : a ≠ b → B) (f : a = b → A) (hx : x = nI a := by rfl) (hy : y = nI b := by rfl) (ha : a < 2 ^ 31 := by omega) (hb : b < 2 ^ 31 := by omega) : (¬ x = y → B) ∧ (x = y → A) := by
  have h := pk_eq (A := A) (B := B) a b f g hx hy ha hb
  exact ⟨h.2, h.1⟩
theorem s_cell {σ : hSt} {k0 i : Nat} (hL : hLn k0 < 2 ^ 31) (hi : i < hLn k0) {Q : Int32 → Prop} (hQ : Q (σ k0 i)) : wp_X11_cell k0 (nI i) σ Q := by
  unfold wp_X11_cell
  refine br_f (nI_pos (by omega)) ?_
  refine br_f (nI_ge hi hL) ⟨vp_in_nI hi hL, ?_⟩
  rw [nI_clamp (by omega)]
  exact hQ
theorem s_setCell {σ : hSt} {k0 i : Nat} {v : Int32} (hL : hLn k0 < 2 ^ 31) (hi : i < hLn k0) {Q : hSt → Prop} (hQ : Q (hup σ k0 i v)) : wp_X11_setCell k0 (nI i) v σ Q := by
  unfold wp_X11_setCell
  refine br_f (nI_pos (by omega)) ?_
  refine br_f (nI_ge hi hL) ⟨vp_in_nI hi hL, ?_⟩
  rw [nI_clamp (by omega)]
  exact hQ
/-- a write outside the array is dropped -/
theorem s_setCell_out {σ : hSt} {k0 i : Nat} {v : Int32} (hL : hLn k0 < 2 ^ 31) (hi : hLn k0 ≤ i) (hi2 : i < 2 ^ 31) {Q : hSt → Prop} (hQ : Q σ) : wp_X11_setCell k0 (nI i) v σ Q := by
  unfold wp_X11_setCell
  refine br_f (nI_pos (by omega)) ?_
  exact br_t (nI_le hi hi2) hQ
def cM (σ : hSt) (k0 n K : Nat) (μ : Nat → Nat) : Prop := σ k0 1 = nI K ∧ (0 < K → σ k0 2 = nI n ∧ (∀ k, k < K → σ (k0 + 1) k = nI (b_cen n (μ k))) ∧ σ k0 3 = nI (b_cen n (μ 64)) ∧ σ k0 4 = nI (b_cen n (μ 65)) ∧ ∀ c, c ≤ 2 → σ k0 (5 + c) = nI (encR n (hdn n K μ c)))
theorem cM.mv {σ σ' : hSt} {k0 n K : Nat} {μ : Nat → Nat} (h : cM σ k0 n K μ) (h1 : σ' k0 = σ k0) (h2 : σ' (k0 + 1) = σ (k0 + 1)) : cM σ' k0 n K μ := by
  refine ⟨by rw [h1]; exact h.1, fun z => ?_⟩
  rw [h1, h2]; exact h.2 z
theorem s_rowFrom {σ : hSt} {k0 n K k : Nat} {μ h : Nat → Nat} (hn : n ≤ 8) (hL : hLn (k0 + 1) = 64) (hv : vM n K μ) (h1 : σ k0 1 = nI K) (h2 : ∀ k, k < K → σ (k0 + 1) k = nI (b_cen n (μ k))) (hk : k ≤ K) (hh : ∀ i, i < n → h i < 8) {Q : Int32 → Prop} (hQ : Q (nI (encR n (fun i => h (rwn n μ k i))))) : wp_X2_rowFrom k0 (nI (encR n h)) (nI k) σ Q := by
  unfold wp_X2_rowFrom
  have h64 := hv.1
  refine hL2_in (fun v3 v4 => ∃ j, j ≤ k ∧ v4 = nI j ∧ v3 = nI (encR n (fun i => h (rwn n μ j i)))) (fun _ v4 => k - v4.toNatClampNeg) ?_ ⟨0, Nat.zero_le _, rfl, rfl⟩
  rintro P _ _ ⟨j, hj, rfl, rfl⟩ ih
  refine pk_le k j (fun z => ?_) (fun z => ?_) rfl rfl
  · have e : j = k := by omega
    subst e; exact hQ
  · refine pk_le K j (fun z2 => by omega) (fun z2 => ?_) h1 rfl
    refine s_cell (by rw [hL]; decide) (by rw [hL]; omega) ?_
    rw [h2 j z2]
    refine s_changed hn (fun i hi => hh _ ((rwn_PR hv (by omega)).1 i hi)) (hv.2 j (Or.inl z2)).1 ?_
    intro x hx
    rw [nI_suc] at hx
    subst hx
    exact ih _ _ ⟨j + 1, by omega, rfl, rfl⟩ (by rw [nI_clamp (by omega), nI_clamp (by omega)]; omega)
/-- which change comes behind row k of a lead that is called c -/
def chm (K k c : Nat) : Nat := if k + 1 = K then lst K c else k
theorem chm_rel {K k c : Nat} (hk : k < K) (hc : c ≤ 2) : relv K (chm K k c) := by
  unfold chm
  split
  · exact lst_rel (by omega) hc
  · exact Or.inl hk
theorem s_changeCalled {σ : hSt} {k0 n K k c : Nat} {μ : Nat → Nat} (hL : hLn (k0 + 1) = 64) (hv : vM n K μ) (hM : cM σ k0 n K μ) (hk : k < K) (hc : c ≤ 2) {Q : Int32 → Prop} (hQ : Q (nI (b_cen n (μ (chm K k c))))) : wp_X2_changeCalled k0 (nI k) (nI c) σ Q := by
  unfold wp_X2_changeCalled
  have h64 := hv.1
  obtain ⟨h1, h2⟩ := hM
  obtain ⟨-, h3, h4, h5, -⟩ := h2 (by omega)
  unfold chm lst at hQ
  rw [h1, show (1 : Int32) = nI 1 from rfl, pk_sub (by omega)]
  refine pk_en k (K - 1) (fun z => ?_) (fun z => ?_) rfl rfl
  · rw [if_neg (by omega)] at hQ
    refine s_cell (by rw [hL]; decide) (by rw [hL]; omega) ?_
    rw [h3 k hk]; exact hQ
  · rw [if_pos (by omega)] at hQ
    refine pk_en c 0 (fun z2 => ?_) (fun z2 => ?_) rfl rfl
    · rw [if_neg z2] at hQ
      refine pk_en c 1 (fun z3 => ?_) (fun z3 => ?_) rfl rfl
      · have e : c = 2 := by omega
        subst e; rw [h5]; exact hQ
      · subst z3; rw [h4]; exact hQ
    · rw [if_pos z2] at hQ
      refine s_cell (by rw [hL]; decide) (by rw [hL]; omega) ?_
      rw [h3 k hk, z]; exact hQ
theorem s_following {σ : hSt} {k0 n K c : Nat} {μ h : Nat → Nat} (hn : n ≤ 8) (hv : vM n K μ) (hM : cM σ k0 n K μ) (hK : 0 < K) (hc : c ≤ 2) (hh : ∀ i, i < n → h i < 8) {Q : Int32 → Prop} (hQ : Q (nI (encR n (fun i => h (hdn n K μ c i))))) : wp_X2_following k0 (nI (encR n h)) (nI c) σ Q := by
  unfold wp_X2_following
  obtain ⟨h1, h2⟩ := hM
  obtain ⟨h3, -, -, -, h4⟩ := h2 hK
  rw [h3]
  refine pk_en c 0 (fun z2 => ?_) (fun z2 => ?_) rfl rfl
  · refine pk_en c 1 (fun z3 => ?_) (fun z3 => ?_) rfl rfl
    · have e : c = 2 := by omega
      subst e
      rw [show σ k0 7 = _ from h4 2 (by decide)]
      exact s_fromHead hn hh (hdn_PR hv hK (by decide)).1 hQ
    · subst z3
      rw [show σ k0 6 = _ from h4 1 (by decide)]
      exact s_fromHead hn hh (hdn_PR hv hK (by decide)).1 hQ
  · subst z2
    rw [show σ k0 5 = _ from h4 0 (by decide)]
    exact s_fromHead hn hh (hdn_PR hv hK (by decide)).1 hQ
theorem s_complete {σ : hSt} {k0 n K : Nat} {μ : Nat → Nat} (hn : n ≤ 8) (hL : hLn (k0 + 1) = 64) (hv : vM n K μ) (hK : 0 < K) (h2 : ∀ k, k < K → σ (k0 + 1) k = nI (b_cen n (μ k))) (h3 : σ k0 3 = nI (b_cen n (μ 64))) (h4 : σ k0 4 = nI (b_cen n (μ 65))) {Q : hSt → Prop} (hQ : ∀ σ', oth k0 σ σ' → cM σ' k0 n K μ → Q σ') : wp_X2_complete k0 (nI K) (nI n) σ Q := by
  unfold wp_X2_complete
  have h64 := hv.1
  have hid : ∀ i, i < n → (fun i => i : Nat → Nat) i < 8 := fun i hi => by show i < 8; omega
  refine s_rounds hn ?_
  have em : nI K - (1 : Int32) = nI (K - 1) := by rw [show (1 : Int32) = nI 1 from rfl, pk_sub (by omega)]
  rw [em]
  have ef : ∀ k, k < K → (hup (hup σ k0 1 (nI K)) k0 2 (nI n)) (k0 + 1) k = nI (b_cen n (μ k)) := fun k hk => by
    rw [hup_ne _ _ (by omega), hup_ne _ _ (by omega)]; exact h2 k hk
  have e1 : (hup (hup σ k0 1 (nI K)) k0 2 (nI n)) k0 1 = nI K := by rw [hup_at, if_neg (by decide), hup_at, if_pos rfl]
  refine s_rowFrom hn hL hv e1 ef (by omega) hid ?_
  have hrow : ∀ i, i < n → rwn n μ (K - 1) i < 8 := (rwn_PR hv (by omega)).lt8 hn
  have q0 : wp_X2_changeCalled k0 (nI (K - 1)) (0 : Int32) (hup (hup σ k0 1 (nI K)) k0 2 (nI n)) = wp_X2_changeCalled k0 (nI (K - 1)) (0 : Int32) (hup (hup σ k0 1 (nI K)) k0 2 (nI n)) := rfl
  unfold wp_X2_changeCalled
  rw [e1, em]
  refine ⟨fun z => absurd rfl z, fun _ => ⟨fun z => absurd rfl z, fun _ => ?_⟩⟩
  refine s_cell (by rw [hL]; decide) (by rw [hL]; omega) ?_
  rw [ef (K - 1) (by omega)]
  refine s_changed hn hrow (hv.2 _ (Or.inl (by omega))).1 ?_
  have g3 : ∀ v : Int32, (hup (hup (hup σ k0 1 (nI K)) k0 2 (nI n)) k0 5 v) k0 3 = nI (b_cen n (μ 64)) := fun v => by
    rw [hup_at, if_neg (by decide), hup_at, if_neg (by decide), hup_at, if_neg (by decide)]; exact h3
  rw [g3]
  refine s_changed hn hrow (hv.2 64 (Or.inr (Or.inl rfl))).1 ?_
  have g4 : ∀ v v2 : Int32, (hup (hup (hup (hup σ k0 1 (nI K)) k0 2 (nI n)) k0 5 v) k0 6 v2) k0 4 = nI (b_cen n (μ 65)) := fun v v2 => by
    rw [hup_at, if_neg (by decide), hup_at, if_neg (by decide), hup_at, if_neg (by decide), hup_at, if_neg (by decide)]; exact h4
  rw [g4]
  refine s_changed hn hrow (hv.2 65 (Or.inr (Or.inr rfl))).1 ?_
  refine hQ _ oth.rf.up.up.up.up.up ⟨?_, fun _ => ⟨?_, ?_, ?_, ?_, ?_⟩⟩
  · simp [hup_at]
  · simp [hup_at]
  · intro k hk
    rw [hup_ne _ _ (by omega), hup_ne _ _ (by omega), hup_ne _ _ (by omega)]
    exact ef k hk
  · simp [hup_at]; exact h3
  · simp [hup_at]; exact h4
  · intro c hc
    rcases (by omega : c = 0 ∨ c = 1 ∨ c = 2) with rfl | rfl | rfl
    · simp [hup_at]; rfl
    · simp [hup_at]; rfl
    · simp [hup_at]; rfl
def ot2 (k : Nat) (σ σ' : hSt) : Prop := ∀ j, j ≠ k → j ≠ k + 1 → σ' j = σ j
theorem s_copyFrom {σ : hSt} {k0 k1 n K : Nat} {μ : Nat → Nat} (hn : n ≤ 8) (hL : hLn (k0 + 1) = 64) (hL1 : hLn (k1 + 1) = 64) (hne : k1 ≠ k0 ∧ k1 ≠ k0 + 1 ∧ k1 + 1 ≠ k0) (hv : vM n K μ) (hK : 0 < K) (hM : cM σ k1 n K μ) {Q : hSt → Prop} (hQ : ∀ σ', ot2 k0 σ σ' → cM σ' k0 n K μ → Q σ') : wp_X2_copyFrom k0 k1 σ Q := by
  unfold wp_X2_copyFrom
  have h64 := hv.1
  refine hL2_in (fun v2 σ2 => ∃ j, j ≤ K ∧ v2 = nI j ∧ oth (k0 + 1) σ σ2 ∧ ∀ k, k < j → σ2 (k0 + 1) k = nI (b_cen n (μ k))) (fun v2 _ => K - v2.toNatClampNeg) ?_ ⟨0, Nat.zero_le _, rfl, oth.rf, fun k hk => absurd hk (Nat.not_lt_zero k)⟩
  rintro P _ σ2 ⟨j, hj, rfl, ho, hb⟩ ih
  have eM : cM σ2 k1 n K μ := hM.mv (ho _ (by omega)) (ho _ (by omega))
  obtain ⟨h1, h2⟩ := eM
  obtain ⟨h3, h4, h5, h6, -⟩ := h2 hK
  refine pk_le K j (fun z => ?_) (fun z => ?_) h1 rfl
  · have e : j = K := by omega
    subst e
    have g1 : (hup (hup σ2 k0 3 (σ2 k1 3)) k0 4 ((hup σ2 k0 3 (σ2 k1 3)) k1 4)) k1 1 = nI j := by
      rw [hup_ne _ _ (by omega), hup_ne _ _ (by omega)]; exact h1
    have g2 : (hup (hup σ2 k0 3 (σ2 k1 3)) k0 4 ((hup σ2 k0 3 (σ2 k1 3)) k1 4)) k1 2 = nI n := by
      rw [hup_ne _ _ (by omega), hup_ne _ _ (by omega)]; exact h3
    rw [g1, g2]
    refine s_complete hn hL hv hK (fun k hk => ?_) ?_ ?_ (fun σ' ho' hM' => hQ σ' (fun i hi hi2 => ?_) hM')
    · rw [hup_ne _ _ (by omega), hup_ne _ _ (by omega)]; exact hb k hk
    · rw [hup_at, if_neg (by decide), hup_at, if_pos rfl]; exact h5
    · rw [hup_at, if_pos rfl, hup_ne _ _ (by omega)]; exact h6
    · rw [ho' i hi, hup_n _ _ _ hi, hup_n _ _ _ hi]; exact ho i hi2
  · refine s_cell (by rw [hL1]; decide) (by rw [hL1]; omega) ?_
    refine s_setCell (by rw [hL]; decide) (by rw [hL]; omega) ?_
    intro x hx
    rw [nI_suc] at hx
    subst hx
    rw [h4 j z]
    refine ih _ _ ⟨j + 1, by omega, rfl, ho.up, fun k hk => ?_⟩ (by rw [nI_clamp (by omega), nI_clamp (by omega)]; omega)
    rw [hup_at]
    by_cases e : k = j
    · subst e; rw [if_pos rfl]
    · rw [if_neg e]; exact hb k (by omega)
theorem s_courseLeads {σ : hSt} {k0 n K t : Nat} {μ : Nat → Nat} (hn : n ≤ 8) (hv : vM n K μ) (hK : 0 < K) (hM : cM σ k0 n K μ) (ht : isOrd (hdn n K μ 0) t) {Q : Int32 → Prop} (hQ : Q (nI t)) : wp_X2_courseLeads k0 σ Q := by
  unfold wp_X2_courseLeads
  obtain ⟨h1, h2⟩ := hM
  obtain ⟨h3, -, -, -, h4⟩ := h2 hK
  rw [h3, show σ k0 5 = _ from h4 0 (by decide)]
  exact s_order hn (hdn_PR hv hK (by decide)) ht hQ
theorem s_courseRow {σ : hSt} {k0 n K t k : Nat} {μ : Nat → Nat} (hn : n ≤ 8) (hL : hLn (k0 + 1) = 64) (hv : vM n K μ) (hK : 0 < K) (hM : cM σ k0 n K μ) (ht : isOrd (hdn n K μ 0) t) (hk : k < 2 ^ 31) {Q : Int32 → Prop} (hQ : Q (nI (encR n (fun i => itr (hdn n K μ 0) (k / K % t) (rwn n μ (k % K) i))))) : wp_X2_courseRow k0 (nI k) σ Q := by
  unfold wp_X2_courseRow
  have h64 := hv.1
  have ht2 := ht.2.1
  have hp := hdn_PR hv hK (c := 0) (by decide)
  refine s_courseLeads hn hv hK hM ht ?_
  have hMK := hM.1
  have h2 := hM.2 hK
  rw [h2.1]
  refine s_rounds hn ?_
  have hkK : k / K ≤ k := Nat.div_le_self _ _
  have ht0 := ht.1
  refine pk_lt K 1 (fun z => by omega) (fun z => ?_) hMK rfl
  refine pk_le 1 t (fun z2 => ?_) (fun z2 => by omega) rfl rfl
  rw [hMK]
  refine ⟨nI_ne0 hK (by omega), nI_ne0 (by omega) (by omega), ?_⟩
  intro x hx
  rw [pk_div hk hK (by omega), pk_rem (by omega) (by omega) (by omega)] at hx
  subst hx
  have hm : k / K % t < t := Nat.mod_lt _ (by omega)
  have hmK : k % K < K := Nat.mod_lt _ hK
  refine hL2_in (fun v3 v5 => ∃ j, j ≤ k / K % t ∧ v5 = nI j ∧ v3 = nI (encR n (itr (hdn n K μ 0) j))) (fun _ v5 => k / K % t - v5.toNatClampNeg) ?_ ⟨0, Nat.zero_le _, rfl, rfl⟩
  rintro P _ _ ⟨j, hj, rfl, rfl⟩ ih
  refine pk_le (k / K % t) j (fun z3 => ?_) (fun z3 => ?_) rfl rfl
  · have e : j = k / K % t := by omega
    subst e
    refine ⟨nI_ne0 hK (by omega), ?_⟩
    rw [pk_rem hk hK (by omega)]
    exact s_rowFrom hn hL hv hMK h2.2.1 (by omega) ((itr_PR hp _).lt8 hn) hQ
  · refine s_following hn hv hM hK (c := 0) (by decide) ((itr_PR hp _).lt8 hn) ?_
    intro x hx
    rw [nI_suc] at hx
    subst hx
    exact ih _ _ ⟨j + 1, by omega, rfl, rfl⟩ (by rw [nI_clamp (by omega), nI_clamp (by omega)]; omega)

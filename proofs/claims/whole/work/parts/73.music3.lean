def stI (τ : hSt) (tz : Nat) (bt : Nat → Nat) : Prop := (τ 0 33 = -1 ∧ ∀ j, j < tz → bt j ≠ 42) ∨ ∃ s, s < tz ∧ τ 0 33 = nI s ∧ bt s = 42 ∧ ∀ j, j < tz → j ≠ s → bt j ≠ 42
theorem nb_none {P : Nat → Bool} : ∀ {b : Nat}, (∀ j, j < b → P j = false) → nb P b = 0
  | 0, _ => rfl
  | b + 1, h => by
    show nb P b + (if P b = true then 1 else 0) = 0
    rw [nb_none (b := b) (fun j hj => h j (by omega)), if_neg (by rw [h b (by omega)]; decide)]
theorem sts_none {bt : Nat → Nat} {k : Nat} (h : ∀ j, j < k → bt j ≠ 42) : sts bt k = 0 := nb_none (fun j hj => by simp [h j hj])
theorem sts_one {bt : Nat → Nat} {s : Nat} : ∀ {k : Nat}, s < k → bt s = 42 → (∀ j, j < k → j ≠ s → bt j ≠ 42) → sts bt k = 1
  | 0, h, _, _ => absurd h (Nat.not_lt_zero s)
  | k + 1, h, h2, h3 => by
    rw [sts_suc]
    by_cases e : s = k
    · subst e
      rw [sts_none (fun j hj => h3 j (by omega) (by omega)), if_pos h2]
    · rw [sts_one (k := k) (by omega) h2 (fun j hj => h3 j (by omega)), if_neg (h3 k (by omega) (fun q => e q.symm))]
theorem t_isPattern {τ : hSt} {w : Nat → Int64} {n tz : Nat} {bt : Nat → Nat} (hn4 : 4 ≤ n) (hn : n ≤ 8) (hz : tz ≤ 500) (h0 : τ 0 1 = nI n) (hb : ∀ i, i < tz → bt i < 256 ∧ τ 5 i = bI (bt i)) {Q : Int32 → hSt → Prop}
    (hQ1 : gpat n bt tz → ∀ τ', (∀ k, k ≠ 0 → k ≠ 18 → τ' k = τ k) → (∀ j, j ≠ 33 → τ' 0 j = τ 0 j) → stI τ' tz bt → Q 1 τ') (hQ0 : ¬ gpat n bt tz → ∀ τ', (∀ k, k ≠ 0 → k ≠ 18 → τ' k = τ k) → (∀ j, j ≠ 33 → τ' 0 j = τ 0 j) → Q 0 τ') : wp_X12_isPattern (nI tz) τ w Q := by
  unfold wp_X12_isPattern
  refine hL2_in (fun v2 τ2 => ∃ i, i ≤ 9 ∧ v2 = nI i ∧ oth 18 (hup τ 0 33 (-1)) τ2 ∧ ∀ c, c < i → τ2 18 c = 0) (fun v2 _ => 9 - v2.toNatClampNeg) ?_ ⟨0, Nat.zero_le _, rfl, oth.rf, fun c h => absurd h (Nat.not_lt_zero c)⟩
  rintro P _ τ2 ⟨i0, hi0, rfl, o2, f2⟩ ih0
  refine pk_le 9 i0 (fun z0 => ?_) (fun z0 => ?_) rfl rfl
  rotate_left
  · refine ⟨vp_in_nI z0 (by decide), ?_⟩
    intro x hx
    rw [nI_suc] at hx
    subst hx
    rw [nI_clamp (by omega), show vp_nar .boolean (0 : Int32) = 0 from rfl]
    refine ih0 _ _ ⟨i0 + 1, by omega, rfl, o2.up, fun c hc => ?_⟩ (by rw [nI_clamp (by omega), nI_clamp (by omega)]; omega)
    rw [hup_at]
    by_cases e : c = i0
    · rw [if_pos e]
    · rw [if_neg e]; exact f2 c (by omega)
  have e9 : i0 = 9 := by omega
  subst e9
  have k2 : (∀ k, k ≠ 0 → k ≠ 18 → τ2 k = τ k) ∧ (∀ j, j ≠ 33 → τ2 0 j = τ 0 j) ∧ τ2 0 33 = -1 := ⟨fun k p q => by rw [o2 k q, hup_n _ _ _ p], fun j p => by rw [o2 0 (by decide), hup_at, if_neg p], by rw [o2 0 (by decide), hup_at, if_pos rfl]⟩
  refine hL2_in (fun v2 τ3 => ∃ i, i ≤ tz ∧ v2 = nI i ∧ (∀ k, k ≠ 0 → k ≠ 18 → τ3 k = τ k) ∧ (∀ j, j ≠ 33 → τ3 0 j = τ 0 j) ∧ stI τ3 i bt ∧ (∀ j, j < i → okb n bt j) ∧ (∀ c, c < 9 → 1 ≤ c → (τ3 18 c ≠ 0 ↔ ∃ j, j < i ∧ bt j = 48 + c))) (fun v2 _ => tz - v2.toNatClampNeg) ?_ ⟨0, Nat.zero_le _, rfl, k2.1, k2.2.1, Or.inl ⟨k2.2.2, fun j hj => absurd hj (Nat.not_lt_zero j)⟩, fun j hj => absurd hj (Nat.not_lt_zero j), fun c hc _ => ⟨fun q => absurd (f2 c hc) q, fun ⟨j, hj, _⟩ => absurd hj (Nat.not_lt_zero j)⟩⟩
  rintro P2 _ τ3 ⟨i, hi, rfl, k3, k30, hst, hok, hseen⟩ ih
  have e01 : τ3 0 1 = nI n := by rw [k30 1 (by decide)]; exact h0
  have hstars : (τ3 0 33 < 0 ∧ sts bt i = 0) ∨ (¬ τ3 0 33 < 0 ∧ sts bt i = 1) := by
    rcases hst with ⟨a, b⟩ | ⟨s, a, b, c, d⟩
    · exact Or.inl ⟨by rw [a]; decide, sts_none b⟩
    · exact Or.inr ⟨by rw [b]; exact nI_pos (by omega), sts_one a c d⟩
  refine pk_le tz i (fun z => ?_) (fun z => ?_) rfl rfl
  · have e : i = tz := by omega
    subst e
    rcases hstars with ⟨a, b⟩ | ⟨a, b⟩
    · refine br_t a ?_
      refine pk_en i n (fun q => hQ0 (fun g => ?_) τ3 k3 k30) (fun q => hQ1 ⟨hok, by omega, by omega, fun _ => by omega⟩ τ3 k3 k30 hst) rfl e01
      have h1 := g.2.2.1
      have h2 := g.2.2.2 b
      omega
    · refine br_f a ?_
      have hi1 : 1 ≤ i := by have := sts_le bt i; omega
      rw [show (1 : Int32) = nI 1 from rfl, pk_sub hi1]
      refine pk_lt n (i - 1) (fun q => hQ0 (fun g => ?_) τ3 k3 k30) (fun q => hQ1 ⟨hok, by omega, by omega, fun _ => by omega⟩ τ3 k3 k30 hst) e01 rfl
      have h1 := g.2.2.1
      omega
  · obtain ⟨b1, b2⟩ := hb i z
    refine ⟨vp_in_nI (by omega) (by decide), ?_⟩
    intro x hx
    rw [nI_clamp (by omega), k3 5 (by decide) (by decide), b2] at hx
    subst hx
    have bad : ¬ okb n bt i → Q 0 τ3 := fun q => hQ0 (fun g => q (g.1 i z)) τ3 k3 k30
    have step : ∀ τ4, (∀ k, k ≠ 0 → k ≠ 18 → τ4 k = τ k) → (∀ j, j ≠ 33 → τ4 0 j = τ 0 j) → stI τ4 (i + 1) bt → okb n bt i → (∀ c, c < 9 → 1 ≤ c → (τ4 18 c ≠ 0 ↔ ∃ j, j < i + 1 ∧ bt j = 48 + c)) → ∀ y : Int32, y = nI i + (1 : Int32) → P2 y τ4 := fun τ4 k4 k40 h4 ok4 s4 y hy => by
      rw [nI_suc] at hy
      subst hy
      refine ih _ _ ⟨i + 1, by omega, rfl, k4, k40, h4, fun j hj => ?_, s4⟩ (by rw [nI_clamp (by omega), nI_clamp (by omega)]; omega)
      by_cases e : j = i
      · subst e; exact ok4
      · exact hok j (by omega)
    have st_no : bt i ≠ 42 → ∀ τ4 : hSt, τ4 0 33 = τ3 0 33 → stI τ4 (i + 1) bt := fun hne τ4 e4 => by
      rcases hst with ⟨a, b⟩ | ⟨s, a, b, c, d⟩
      · refine Or.inl ⟨by rw [e4]; exact a, fun j hj => ?_⟩
        by_cases e : j = i
        · subst e; exact hne
        · exact b j (by omega)
      · refine Or.inr ⟨s, by omega, by rw [e4]; exact b, c, fun j hj hjs => ?_⟩
        by_cases e : j = i
        · subst e; exact hne
        · exact d j (by omega) hjs
    have seen_same : (∀ c, c < 9 → 1 ≤ c → bt i ≠ 48 + c) → ∀ τ4 : hSt, τ4 18 = τ3 18 → ∀ c, c < 9 → 1 ≤ c → (τ4 18 c ≠ 0 ↔ ∃ j, j < i + 1 ∧ bt j = 48 + c) := fun hne τ4 e4 c hc hc1 => by
      rw [e4, hseen c hc hc1]
      constructor
      · rintro ⟨j, a, b⟩; exact ⟨j, by omega, b⟩
      · rintro ⟨j, a, b⟩
        by_cases e : j = i
        · subst e; exact absurd b (hne c hc hc1)
        · exact ⟨j, by omega, b⟩
    have e42 : (bI (bt i) = 42) = (bt i = 42) := propext (bI_eq b1 (c := 42) (by decide))
    have e63 : (bI (bt i) = 63) = (bt i = 63) := propext (bI_eq b1 (c := 63) (by decide))
    rw [e42, e63]
    refine ⟨fun c1 => ⟨fun c2 => ?_, fun c2 => ⟨fun c3 => bad (fun q => ?_), fun c3 => ?_⟩⟩, fun c1 => ⟨fun q => ?_, fun q => ?_⟩⟩
    · exact step τ3 k3 k30 (st_no c1 τ3 rfl) (Or.inr (Or.inl c2)) (seen_same (fun c hc hc1 => by omega) τ3 rfl)
    · rcases q with q | q | q
      · exact c1 q
      · exact c2 q
      · rw [bI_lo _ (by omega)] at c3
        exact absurd c3 (nI_nlt (a := bt i) (b := 49) (by omega) (by omega))
    · -- a byte from 49 on
      have h128 : bt i < 128 := by
        rcases Nat.lt_or_ge (bt i) 128 with q | q
        · exact q
        · have := bI_hi (bt i) b1 q
          refine absurd ?_ c3
          rw [Int32.lt_iff_toInt_lt] at this ⊢
          rw [show (49 : Int32).toInt = 49 by decide]
          rw [show (0 : Int32).toInt = 0 by decide] at this
          omega
      rw [bI_lo _ h128] at c3 ⊢
      have h49 : 49 ≤ bt i := by
        rcases Nat.lt_or_ge (bt i) 49 with q | q
        · exact absurd (nI_lt (a := bt i) (b := 49) q (by decide)) c3
        · exact q
      rw [e01, show (48 : Int32) = nI 48 from rfl, nI_add]
      refine pk_lt (48 + n) (bt i) (fun c4 => bad (fun q => ?_)) (fun c4 => ?_) rfl rfl
      · rcases q with q | q | q <;> omega
      · rw [pk_sub (by omega)]
        have hin : vp_in (nI (bt i - 48)) 9 := vp_in_nI (by omega) (by decide)
        refine ⟨hin, ?_⟩
        rw [nI_clamp (by omega), show vp_nar .boolean (1 : Int32) = 1 from rfl]
        have hs := hseen (bt i - 48) (by omega) (by omega)
        rw [show 48 + (bt i - 48) = bt i by omega] at hs
        refine ⟨fun q => ⟨hin, ?_⟩, fun q => bad (fun q2 => ?_)⟩
        · have hnew : ∀ j, j < i → bt j ≠ bt i := fun j hj e => absurd q (hs.mpr ⟨j, hj, e⟩)
          refine step _ (fun k p p2 => by rw [hup_n _ _ _ p2]; exact k3 k p p2) (fun j p => by rw [hup_ne _ _ (by decide)]; exact k30 j p) (st_no c1 _ (by rw [hup_ne _ _ (by decide)])) (Or.inr (Or.inr ⟨h49, c4, hnew⟩)) (fun c hc hc1 => ?_)
          rw [hup_at]
          by_cases e : c = bt i - 48
          · rw [if_pos e]
            exact ⟨fun _ => ⟨i, by omega, by omega⟩, fun _ => by decide⟩
          · rw [if_neg e, hseen c hc hc1]
            constructor
            · rintro ⟨j, a, b⟩; exact ⟨j, by omega, b⟩
            · rintro ⟨j, a, b⟩
              by_cases e2 : j = i
              · subst e2; omega
              · exact ⟨j, by omega, b⟩
        · obtain ⟨j, hj, e⟩ := hs.mp q
          rcases q2 with q2 | q2 | q2
          · exact c1 q2
          · exact c2 q2
          · exact q2.2.2 j hj e
    · rcases hstars with ⟨a, b⟩ | ⟨a, b⟩
      · refine step _ (fun k p p2 => by rw [hup_n _ _ _ p]; exact k3 k p p2) (fun j p => by rw [hup_at, if_neg p]; exact k30 j p) (Or.inr ⟨i, by omega, by rw [hup_at, if_pos rfl], c1, fun j hj hji => ?_⟩) (Or.inl c1) (seen_same (fun c hc hc1 => by omega) _ (hup_n _ _ _ (by decide)))
        rcases hst with ⟨_, b'⟩ | ⟨s, a', b', c', d'⟩
        · exact b' j (by omega)
        · have := sts_one a' c' d'; omega
      · exact absurd q a
    · rcases hstars with ⟨a, b⟩ | ⟨a, b⟩
      · exact absurd a q
      · refine hQ0 (fun g => ?_) τ3 k3 k30
        have h1 := g.2.1
        have h2 : sts bt (i + 1) = sts bt i + 1 := by rw [sts_suc, if_pos c1]
        have h3 : sts bt (i + 1) ≤ sts bt tz := nb_mono _ (by omega)
        omega
theorem bI_dig {b c r : Nat} (h1 : 49 ≤ b) (h2 : b ≤ 56) (hr : r < 8) {A B : Prop} (f : r = b - 49 → A) (g : r ≠ b - 49 → B) {x y : Int32} (hx : x = bI b) (hy : y = nI (r + 1)) : ((x - (48 : Int32)) = y → A) ∧ (¬ (x - (48 : Int32)) = y → B) := by
  subst hx hy
  rw [bI_lo b (by omega), show (48 : Int32) = nI 48 from rfl, pk_sub (by omega)]
  exact pk_eq (b - 48) (r + 1) (fun q => f (by omega)) (fun q => g (by omega)) rfl rfl
theorem t_fits {τ : hSt} {w : Nat → Int64} {n tz : Nat} {bt r : Nat → Nat} (hn4 : 4 ≤ n) (hn : n ≤ 8) (hz : tz ≤ 500) (h0 : τ 0 1 = nI n) (hb : ∀ i, i < tz → bt i < 256 ∧ τ 5 i = bI (bt i)) (hg : gpat n bt tz) (hst : stI τ tz bt) (hr : PR n r) (ha : aR τ 14 n r) {Q : Int32 → Prop} (hQ1 : fitP bt (n - (tz - sts bt tz)) tz r → Q 1) (hQ0 : ¬ fitP bt (n - (tz - sts bt tz)) tz r → Q 0) : wp_X12_fits (nI tz) τ w Q := by
  obtain ⟨hok, hs1, hs2, hs3⟩ := hg
  have hend := cpl_end hs1 hs2
  -- the place of a digit is below n
  have hpl : ∀ i, i < tz → digB bt i = true → cpl bt (n - (tz - sts bt tz)) i < n ∧ 49 ≤ bt i ∧ bt i ≤ 56 := fun i hi hd => by
    have h1 := cpl_dig (free := n - (tz - sts bt tz)) (digB_is.mp hd).1
    have h2 := cpl_mono bt (n - (tz - sts bt tz)) (show i + 1 ≤ tz by omega)
    rcases hok i hi with q | q | ⟨q1, q2, -⟩
    · exact absurd q (digB_is.mp hd).1
    · exact absurd q (digB_is.mp hd).2
    · exact ⟨by omega, q1, by omega⟩
  have one : ∀ (k : Nat) (hk : k < tz) (h42 : bt k ≠ 42) (A B : Prop) (y : Int32) (pl : Nat), pl = cpl bt (n - (tz - sts bt tz)) k → (¬ digB bt k = true ∨ r pl = bt k - 49 → A) → (r pl ≠ bt k - 49 → digB bt k = true → B) → (bt k ≠ 63 → y = nI pl) → ((τ 5 k = (63 : Int32) → A) ∧ (¬ τ 5 k = (63 : Int32) → (vp_in (nI k) 500 ∧ (vp_in y 8 ∧ (((τ 5 k - (48 : Int32)) = (τ 14 y.toNatClampNeg) → A) ∧ (¬ (τ 5 k - (48 : Int32)) = (τ 14 y.toNatClampNeg) → B)))))) := fun k hk h42 A B y pl epl hA hB hy => by
    obtain ⟨b1, b2⟩ := hb k hk
    rw [b2]
    refine ⟨fun q => ?_, fun q => ?_⟩
    · have e := (bI_eq b1 (c := 63) (by decide)).mp q
      exact hA (Or.inl (fun h => (digB_is.mp h).2 e))
    · have e : bt k ≠ 63 := fun e => q ((bI_eq b1 (c := 63) (by decide)).mpr e)
      have hd : digB bt k = true := digB_is.mpr ⟨h42, e⟩
      obtain ⟨p1, p2, p3⟩ := hpl k hk hd
      rw [hy e]
      refine ⟨vp_in_nI (by omega) (by decide), vp_in_nI (by omega) (by decide), ?_⟩
      rw [nI_clamp (by omega)]
      have h8 := hr.lt8 hn pl (by omega)
      exact bI_dig (c := 0) p2 p3 h8 (fun q => hA (Or.inr q)) (fun q => hB q hd) rfl (ha pl (by omega))
  have bad : ∀ k, k < tz → r (cpl bt (n - (tz - sts bt tz)) k) ≠ bt k - 49 → digB bt k = true → Q 0 := fun k hk h1 h2 => hQ0 (fun g => h1 (g k hk h2))
  unfold wp_X12_fits
  rcases hst with ⟨a, b⟩ | ⟨s, a, b, c, d⟩
  · have hs0 := sts_none b
    have htz : tz = n := by have := hs3 hs0; omega
    rw [a]
    refine br_f (by decide) ?_
    have hcp : ∀ k, k < tz → cpl bt (n - (tz - sts bt tz)) k = k := fun k hk => by
      rw [cpl_is, sts_none (fun j hj => b j (by omega))]; omega
    refine hL1_in (fun v3 => ∃ k, k ≤ tz ∧ v3 = nI k ∧ ∀ j, j < k → digB bt j = true → r (cpl bt (n - (tz - sts bt tz)) j) = bt j - 49) (fun v3 => tz - v3.toNatClampNeg) ?_ ⟨0, Nat.zero_le _, rfl, fun j hj => absurd hj (Nat.not_lt_zero j)⟩
    rintro P _ ⟨k, hk, rfl, hf⟩ ih
    refine pk_le tz k (fun z => ?_) (fun z => ?_) rfl rfl
    · have e : k = tz := by omega
      subst e
      intro x hx y hy
      obtain ⟨g1, -⟩ := m1_pred (a := k) (by omega)
      rw [g1] at hx
      subst hx
      refine hL2_in (fun v3 v4 => v3 = nI (k - 1)) (fun _ _ => 0) ?_ rfl
      rintro P2 _ v4 rfl ih2
      exact br_t (nI_le (by omega) (by omega)) (hQ1 (fun i hi hd => hf i hi hd))
    · refine ⟨vp_in_nI (by omega) (by decide), ?_⟩
      have nx : (¬ digB bt k = true ∨ r k = bt k - 49) → ∀ x : Int32, x = nI k + (1 : Int32) → P x := fun q x hx => by
        rw [nI_suc] at hx
        subst hx
        refine ih _ ⟨k + 1, by omega, rfl, fun j hj hd => ?_⟩ (by rw [nI_clamp (by omega), nI_clamp (by omega)]; omega)
        by_cases e : j = k
        · subst e
          rcases q with q | q
          · exact absurd hd q
          · rw [hcp j z]; exact q
        · exact hf j (by omega) hd
      have h := one k z (b k z) (∀ x : Int32, x = nI k + (1 : Int32) → P x) (Q 0) (nI k) k (hcp k z).symm nx (fun q1 q2 => bad k z (by rw [hcp k z]; exact q1) q2) (fun _ => rfl)
      rw [nI_clamp (by omega)] at h ⊢
      exact h
  · have hs1' := sts_one a c d
    have hfree : n - (tz - sts bt tz) = n - (tz - 1) := by rw [hs1']
    have htz1 : tz ≤ n + 1 := by omega
    rw [b]
    refine br_t (nI_pos' (by omega)) ?_
    intro sv hsv
    subst hsv
    have hcl : ∀ k, k < s → cpl bt (n - (tz - sts bt tz)) k = k := fun k hk => by
      rw [cpl_is, sts_none (fun j hj => d j (by omega) (by omega))]; omega
    have hch : ∀ k, s < k → k < tz → cpl bt (n - (tz - sts bt tz)) k = k + n - tz := fun k hk1 hk2 => by
      rw [cpl_is, sts_one hk1 c (fun j hj hjs => d j (by omega) hjs), hfree]; omega
    refine hL1_in (fun v3 => ∃ k, k ≤ s ∧ v3 = nI k ∧ ∀ j, j < k → digB bt j = true → r (cpl bt (n - (tz - sts bt tz)) j) = bt j - 49) (fun v3 => tz - v3.toNatClampNeg) ?_ ⟨0, Nat.zero_le _, rfl, fun j hj => absurd hj (Nat.not_lt_zero j)⟩
    rintro P _ ⟨k, hk, rfl, hf⟩ ih
    refine pk_le s k (fun z => ?_) (fun z => ?_) rfl rfl
    · have e : k = s := by omega
      subst e
      intro x hx y hy
      obtain ⟨g1, -⟩ := m1_pred (a := tz) (by omega)
      rw [g1] at hx
      rw [h0] at hy
      subst hx hy
      refine hL2_in (fun v3 v4 => ∃ c, k ≤ c ∧ c < tz ∧ v3 = nI c ∧ v4 = nI (c + 1 + n - tz) - 1 ∧ ∀ j, c < j → j < tz → digB bt j = true → r (cpl bt (n - (tz - sts bt tz)) j) = bt j - 49) (fun v3 _ => v3.toNatClampNeg) ?_ ⟨tz - 1, by omega, by omega, rfl, by congr 2; omega, fun j h1 h2 => by omega⟩
      rintro P2 _ _ ⟨c', hc1, hc2, rfl, rfl, hf2⟩ ih2
      refine pk_le c' k (fun z2 => ?_) (fun z2 => ?_) rfl rfl
      · refine hQ1 (fun i hi hd => ?_)
        rcases Nat.lt_trichotomy i k with q | q | q
        · exact hf i q hd
        · subst q; exact absurd c (digB_is.mp hd).1
        · exact hf2 i (by omega) hi hd
      · refine ⟨vp_in_nI (by omega) (by decide), ?_⟩
        obtain ⟨-, gp⟩ := m1_pred (a := c') (by omega)
        have ev : nI (c' + 1 + n - tz) - 1 = nI (c' + n - tz) := by
          rw [show (1 : Int32) = nI 1 from rfl, pk_sub (by omega)]; congr 1; omega
        have nx : (¬ digB bt c' = true ∨ r (c' + n - tz) = bt c' - 49) → ∀ x : Int32, x = nI c' + (-1 : Int32) → ∀ y : Int32, y = nI (c' + n - tz) + (-1 : Int32) → P2 x y := fun q x hx y hy => by
          rw [gp] at hx
          subst hx
          refine ih2 _ _ ⟨c' - 1, by omega, by omega, rfl, ?_, fun j h1 h2 hd => ?_⟩ (by rw [nI_clamp (by omega), nI_clamp (by omega)]; omega)
          · rw [hy, Int32.sub_eq_add_neg, show c' - 1 + 1 + n - tz = c' + n - tz by omega]
          · by_cases e : j = c'
            · subst e
              rcases q with q | q
              · exact absurd hd q
              · rw [hch j z2 hc2]; exact q
            · exact hf2 j (by omega) h2 hd
        have h := one c' hc2 (d c' hc2 (by omega)) (∀ x : Int32, x = nI c' + (-1 : Int32) → ∀ y : Int32, y = nI (c' + n - tz) + (-1 : Int32) → P2 x y) (Q 0) (nI (c' + n - tz)) (c' + n - tz) (hch c' z2 hc2).symm nx (fun q1 q2 => bad c' hc2 (by rw [hch c' z2 hc2]; exact q1) q2) (fun _ => rfl)
        rw [ev, show (nI c').toNatClampNeg = c' from nI_clamp (by omega)]
        exact h
    · refine ⟨vp_in_nI (by omega) (by decide), ?_⟩
      have nx : (¬ digB bt k = true ∨ r k = bt k - 49) → ∀ x : Int32, x = nI k + (1 : Int32) → P x := fun q x hx => by
        rw [nI_suc] at hx
        subst hx
        refine ih _ ⟨k + 1, by omega, rfl, fun j hj hd => ?_⟩ (by rw [nI_clamp (by omega), nI_clamp (by omega)]; omega)
        by_cases e : j = k
        · subst e
          rcases q with q | q
          · exact absurd hd q
          · rw [hcl j z]; exact q
        · exact hf j (by omega) hd
      have h := one k (by omega) (d k (by omega) (by omega)) (∀ x : Int32, x = nI k + (1 : Int32) → P x) (Q 0) (nI k) k (hcl k z).symm nx (fun q1 q2 => bad k (by omega) (by rw [hcl k z]; exact q1) q2) (fun _ => rfl)
      rw [nI_clamp (by omega)] at h ⊢
      exact h

theorem nb_mono (P : Nat → Bool) {a : Nat} : ∀ {b : Nat}, a ≤ b → nb P a ≤ nb P b
  | 0, h => by have : a = 0 := by omega
               subst this; exact Nat.le_refl _
  | b + 1, h => by
    by_cases e : a = b + 1
    · subst e; exact Nat.le_refl _
    · have := nb_mono P (a := a) (b := b) (by omega)
      show _ ≤ nb P b + _
      omega
def allB (P : Nat → Bool) : Nat → Bool
  | 0 => true
  | k + 1 => allB P k && P k
theorem allB_iff {P : Nat → Bool} : ∀ {k : Nat}, allB P k = true ↔ ∀ i, i < k → P i = true
  | 0 => ⟨fun _ i hi => absurd hi (Nat.not_lt_zero i), fun _ => rfl⟩
  | k + 1 => by
    show (allB P k && P k) = true ↔ _
    rw [Bool.and_eq_true, allB_iff (k := k)]
    constructor
    · rintro ⟨a, b⟩ i hi
      by_cases e : i = k
      · subst e; exact b
      · exact a i (by omega)
    · intro h; exact ⟨fun i hi => h i (by omega), h k (by omega)⟩
def fitB (bt : Nat → Nat) (free tz : Nat) (r : Nat → Nat) : Bool := allB (fun i => !(digB bt i) || decide (r (cpl bt free i) = bt i - 49)) tz
theorem fitB_iff {bt : Nat → Nat} {free tz : Nat} {r : Nat → Nat} : fitB bt free tz r = true ↔ fitP bt free tz r := by
  unfold fitB
  rw [allB_iff]
  constructor
  · intro h i hi hd
    have := h i hi
    rw [hd] at this
    simpa using this
  · intro h i hi
    cases hd : digB bt i with
    | false => rfl
    | true => simp [h i hi hd]
theorem cpl_end {bt : Nat → Nat} {n tz : Nat} (h : sts bt tz ≤ 1) (h2 : tz - sts bt tz ≤ n) : cpl bt (n - (tz - sts bt tz)) tz ≤ n := by
  rw [cpl_is]
  rcases (by omega : sts bt tz = 0 ∨ sts bt tz = 1) with e | e
  · rw [e] at h2 ⊢; omega
  · rw [e] at h2 ⊢; omega
theorem Vfn_8 {bt : Nat → Nat} {free n : Nat} : ∀ {i : Nat}, (∀ k, k < i → okb n bt k) → n ≤ 8 → ∀ j, Vfn bt free i j < 8
  | 0, _, _, j => by show 0 < 8; decide
  | i + 1, h, hn, j => by
    show (if digB bt i = true ∧ j = cpl bt free i then bt i - 49 else Vfn bt free i j) < 8
    split
    · rename_i q
      have hd := digB_is.mp q.1
      rcases h i (by omega) with a | a | ⟨a, b, -⟩
      · exact absurd a hd.1
      · exact absurd a hd.2
      · omega
    · exact Vfn_8 (fun k hk => h k (by omega)) hn j
theorem s_setPlaces {σ : hSt} {n tz free : Nat} {bt : Nat → Nat} (hn : n ≤ 8) (hz : tz ≤ 500) (h1 : σ 19 1 = nI tz) (hb : ∀ i, i < tz → bt i < 256 ∧ σ 20 i = bI (bt i)) (hok : ∀ i, i < tz → okb n bt i) (hend : cpl bt free tz ≤ n) (h38 : σ 38 0 = 0 ∧ σ 38 1 = 0) {Q : hSt → Prop}
    (hQ : ∀ σ', oth 38 σ σ' → σ' 38 0 = nI (encR n (Mfn bt free tz)) → σ' 38 1 = nI (encR n (Vfn bt free tz)) → Q σ') : wp_X4_setPlaces (nI free) σ Q := by
  unfold wp_X4_setPlaces
  refine hL3_in (fun v3 v4 σ3 => ∃ i, i ≤ tz ∧ v4 = nI i ∧ v3 = nI (cpl bt free i) ∧ oth 38 σ σ3 ∧ σ3 38 0 = nI (encR n (Mfn bt free i)) ∧ σ3 38 1 = nI (encR n (Vfn bt free i))) (fun _ v4 _ => tz - v4.toNatClampNeg) ?_ ⟨0, Nat.zero_le _, rfl, rfl, oth.rf, by
    rw [h38.1, show encR n (Mfn bt free 0) = 0 from (encR_congr (q := fun _ => 0) (fun j _ => rfl)).trans (encR_zero n)]; rfl, by
    rw [h38.2, show encR n (Vfn bt free 0) = 0 from (encR_congr (q := fun _ => 0) (fun j _ => rfl)).trans (encR_zero n)]; rfl⟩
  rintro P _ _ σ3 ⟨i, hi, rfl, rfl, ho, g0, g1⟩ ih
  have e1 : σ3 19 1 = nI tz := by rw [ho 19 (by decide)]; exact h1
  unfold wp_X9_size
  refine pk_le tz i (fun z => ?_) (fun z => ?_) e1 rfl
  · have e : i = tz := by omega
    subst e; exact hQ σ3 ho g0 g1
  · obtain ⟨b1, b2⟩ := hb i z
    refine s_signAt hz e1 z b1 (by rw [ho 20 (by decide)]; exact b2) ?_
    have hm := cpl_mono bt free (show i + 1 ≤ tz by omega)
    have hs : cpl bt free (i + 1) = cpl bt free i + (if bt i = 42 then free else 1) := rfl
    have step : ∀ σ4, oth 38 σ σ4 → σ4 38 0 = nI (encR n (Mfn bt free (i + 1))) → σ4 38 1 = nI (encR n (Vfn bt free (i + 1))) → ∀ x : Int32, x = nI (cpl bt free (i + 1)) → ∀ y : Int32, y = nI i + (1 : Int32) → P x y σ4 := fun σ4 o4 m4 v4 x hx y hy => by
      rw [nI_suc] at hy
      subst hx hy
      exact ih _ _ _ ⟨i + 1, by omega, rfl, rfl, o4, m4, v4⟩ (by rw [nI_clamp (by omega), nI_clamp (by omega)]; omega)
    have same : digB bt i = false → encR n (Mfn bt free (i + 1)) = encR n (Mfn bt free i) ∧ encR n (Vfn bt free (i + 1)) = encR n (Vfn bt free i) := fun hd => by
      constructor
      · refine encR_congr (fun p _ => ?_)
        show (if digB bt i = true ∧ p = cpl bt free i then 7 else Mfn bt free i p) = _
        rw [if_neg (fun q => by rw [hd] at q; exact absurd q.1 (by decide))]
      · refine encR_congr (fun p _ => ?_)
        show (if digB bt i = true ∧ p = cpl bt free i then bt i - 49 else Vfn bt free i p) = _
        rw [if_neg (fun q => by rw [hd] at q; exact absurd q.1 (by decide))]
    refine pk_en (bt i) 42 (fun c1 => pk_eq (bt i) 63 (fun c2 => ?_) (fun c2 => ?_) rfl rfl) (fun c1 => ?_) rfl rfl
    · have hd : digB bt i = false := by unfold digB; simp [c2]
      obtain ⟨s1, s2⟩ := same hd
      rw [if_neg c1] at hs
      exact fun x hx => step σ3 ho (by rw [s1]; exact g0) (by rw [s2]; exact g1) x (by rw [hx, nI_suc, hs])
    · have hd : digB bt i = true := digB_is.mpr ⟨c1, c2⟩
      rw [if_neg c1] at hs
      have hcn : cpl bt free i < n := by omega
      rcases hok i z with q | q | ⟨q1, q2, -⟩
      · exact absurd q c1
      · exact absurd q c2
      · have hz0 := Mfn_hi (bt := bt) (free := free) (i := i) (Nat.le_refl (cpl bt free i))
        have hM8 : ∀ j, j < n → Mfn bt free i j < 8 := fun j _ => by rcases Mfn_8 (bt := bt) (free := free) i j with h | h <;> omega
        have hV8 : ∀ j, j < n → Vfn bt free i j < 8 := fun j _ => Vfn_8 (fun k hk => hok k (by omega)) hn j
        intro x hx
        rw [g0, show (7 : Int32) = nI 7 from rfl, or_dig hn hcn hM8 hz0.1 (by decide)]
        refine step _ ho.up.up ?_ ?_ x (by rw [hx, nI_suc, hs])
        · rw [hup_at, if_neg (by decide), hup_at, if_pos rfl]
          congr 1
          refine encR_congr (fun p _ => ?_)
          show (if p = cpl bt free i then 7 else Mfn bt free i p) = (if digB bt i = true ∧ p = cpl bt free i then 7 else Mfn bt free i p)
          by_cases e : p = cpl bt free i
          · rw [if_pos e, if_pos ⟨hd, e⟩]
          · rw [if_neg e, if_neg (fun q => e q.2)]
        · rw [hup_at, if_pos rfl, hup_at, if_neg (by decide), g1, show (49 : Int32) = nI 49 from rfl, pk_sub q1, or_dig hn hcn hV8 hz0.2 (by omega)]
          congr 1
          refine encR_congr (fun p _ => ?_)
          show (if p = cpl bt free i then bt i - 49 else Vfn bt free i p) = (if digB bt i = true ∧ p = cpl bt free i then bt i - 49 else Vfn bt free i p)
          by_cases e : p = cpl bt free i
          · rw [if_pos e, if_pos ⟨hd, e⟩]
          · rw [if_neg e, if_neg (fun q => e q.2)]
    · have hd : digB bt i = false := by unfold digB; simp [c1]
      obtain ⟨s1, s2⟩ := same hd
      rw [if_pos c1] at hs
      exact fun x hx => step σ3 ho (by rw [s1]; exact g0) (by rw [s2]; exact g1) x (by rw [hx, nI_add, hs])
theorem s_read {σ : hSt} {n tz : Nat} {bt : Nat → Nat} (hn : n ≤ 8) (hz : tz ≤ 500) (h1 : σ 19 1 = nI tz) (hb : ∀ i, i < tz → bt i < 256 ∧ σ 20 i = bI (bt i)) (h38 : σ 38 0 = 0 ∧ σ 38 1 = 0) {Q : Int32 → hSt → Prop}
    (hQ1 : gpat n bt tz → ∀ σ', oth 38 σ σ' → σ' 38 0 = nI (encR n (Mfn bt (n - (tz - sts bt tz)) tz)) → σ' 38 1 = nI (encR n (Vfn bt (n - (tz - sts bt tz)) tz)) → Q 1 σ') (hQ0 : ¬ gpat n bt tz → Q 0 σ) : wp_X4_read (nI n) σ Q := by
  unfold wp_X4_read
  refine hL4_in (fun v3 v4 v5 v6 => ∃ i U, i ≤ tz ∧ v6 = nI i ∧ v4 = nI (sts bt i) ∧ v3 = nI (i - sts bt i) ∧ v5 = nI U ∧ U < 256 ∧ (∀ j, j < i → okb n bt j) ∧ ∀ c, c < 8 → (U.testBit c = true ↔ ∃ j, j < i ∧ bt j = 49 + c)) (fun _ _ _ v6 => tz - v6.toNatClampNeg) ?_ ⟨0, 0, Nat.zero_le _, rfl, rfl, rfl, rfl, by decide, fun j hj => absurd hj (Nat.not_lt_zero j), fun c _ => ⟨fun h => by simp at h, fun ⟨j, hj, _⟩ => absurd hj (Nat.not_lt_zero j)⟩⟩
  rintro P _ _ _ _ ⟨i, U, hi, rfl, rfl, rfl, rfl, hU, hok, hbit⟩ ih
  have hsl := sts_le bt i
  unfold wp_X9_size
  refine pk_le tz i (fun z => ?_) (fun z => ?_) h1 rfl
  · have e : i = tz := by omega
    subst e
    refine pk_lt 1 (sts bt i) (fun q => hQ0 (fun g => by have := g.2.1; omega)) (fun q => ?_) rfl rfl
    refine pk_lt n (i - sts bt i) (fun q2 => hQ0 (fun g => by have := g.2.2.1; omega)) (fun q2 => ?_) rfl rfl
    have run : (sts bt i = 0 → n ≤ i) → wp_X4_setPlaces (nI n - nI (i - sts bt i)) σ (fun σ11 => (Q (1 : Int32) σ11)) := fun q3 => by
      rw [pk_sub q2]
      exact s_setPlaces hn hz h1 hb hok (cpl_end q q2) h38 (fun σ' o a b => hQ1 ⟨hok, q, q2, q3⟩ σ' o a b)
    refine pk_en (sts bt i) 0 (fun q3 => run (fun e => absurd e q3)) (fun q3 => ?_) rfl rfl
    refine pk_le n (i - sts bt i) (fun q4 => run (fun _ => by omega)) (fun q4 => hQ0 (fun g => ?_)) rfl rfl
    have := g.2.2.2 q3
    omega
  · obtain ⟨b1, b2⟩ := hb i z
    refine s_signAt hz h1 z b1 b2 ?_
    have bad : ¬ okb n bt i → Q 0 σ := fun q => hQ0 (fun g => q (g.1 i z))
    have hss := sts_suc (bt := bt) (i := i)
    have step : ∀ U', U' < 256 → okb n bt i → (∀ c, c < 8 → (U'.testBit c = true ↔ ∃ j, j < i + 1 ∧ bt j = 49 + c)) → ∀ v3 v4 v5 v6 : Int32, v3 = nI (i + 1 - sts bt (i + 1)) → v4 = nI (sts bt (i + 1)) → v5 = nI U' → v6 = nI i + (1 : Int32) → P v3 v4 v5 v6 := fun U' hU' hk hb' v3 v4 v5 v6 e3 e4 e5 e6 => by
      rw [nI_suc] at e6
      subst e3 e4 e5 e6
      refine ih _ _ _ _ ⟨i + 1, U', by omega, rfl, rfl, rfl, rfl, hU', fun j hj => ?_, hb'⟩ (by rw [nI_clamp (by omega), nI_clamp (by omega)]; omega)
      by_cases e : j = i
      · subst e; exact hk
      · exact hok j (by omega)
    have same : (∀ c, c < 8 → bt i ≠ 49 + c) → ∀ c, c < 8 → (U.testBit c = true ↔ ∃ j, j < i + 1 ∧ bt j = 49 + c) := fun hne c hc => by
      rw [hbit c hc]
      constructor
      · rintro ⟨j, a, b⟩; exact ⟨j, by omega, b⟩
      · rintro ⟨j, a, b⟩
        by_cases e : j = i
        · subst e; exact absurd b (hne c hc)
        · exact ⟨j, by omega, b⟩
    refine pk_en (bt i) 42 (fun c1 => ?_) (fun c1 => ?_) rfl rfl
    · rw [if_neg c1] at hss
      intro x hx
      rw [nI_suc] at hx
      have ex : x = nI (i + 1 - sts bt (i + 1)) := by rw [hx]; congr 1; omega
      dsimp only [hM_]
      refine pk_en (bt i) 63 (fun c2 => ?_) (fun c2 => ?_) rfl rfl
      · unfold wp_X4_bitOf
        refine pk_lt (bt i) 49 (fun c3 => ?_) (fun c3 => ?_) rfl rfl
        · refine br_t rfl (bad (fun q => ?_))
          rcases q with q | q | q <;> omega
        · rw [show (48 : Int32) = nI 48 from rfl, nI_add]
          refine pk_lt (48 + n) (bt i) (fun c4 => ?_) (fun c4 => ?_) rfl rfl
          · refine br_t rfl (bad (fun q => ?_))
            rcases q with q | q | q <;> omega
          · rw [show (49 : Int32) = nI 49 from rfl, pk_sub c3, shl1 (by omega)]
            have hp : 2 ^ (bt i - 49) ≤ 2 ^ 7 := Nat.pow_le_pow_right (by decide) (by omega)
            have hpp : 0 < 2 ^ (bt i - 49) := Nat.pow_pos (by decide)
            refine br_f (nI_ne_m1 _ (by omega)) ?_
            rw [fa_and]
            have hand : U &&& 2 ^ (bt i - 49) = if U.testBit (bt i - 49) then 2 ^ (bt i - 49) else 0 := by
              apply Nat.eq_of_testBit_eq
              intro k
              rw [Nat.testBit_and, Nat.testBit_two_pow]
              by_cases e : bt i - 49 = k
              · subst e
                cases hb3 : U.testBit (bt i - 49) <;> simp [Nat.testBit_two_pow]
              · cases hb3 : U.testBit (bt i - 49)
                · simp [e]
                · simp [e, Nat.testBit_two_pow]
            have hb4 := hbit (bt i - 49) (by omega)
            rw [show 49 + (bt i - 49) = bt i by omega] at hb4
            cases hb3 : U.testBit (bt i - 49) with
            | false =>
              rw [hand, hb3]
              have hnew : ∀ j, j < i → bt j ≠ bt i := fun j hj e => by
                have := hb4.mpr ⟨j, hj, e⟩
                rw [hb3] at this; cases this
              refine br_t rfl ?_
              intro y hy
              rw [fa_or] at hy
              have hor : U ||| 2 ^ (bt i - 49) < 256 := Nat.or_lt_two_pow (n := 8) hU (Nat.lt_of_le_of_lt hp (by decide))
              refine fun y2 hy2 => step _ hor (Or.inr (Or.inr ⟨by omega, by omega, hnew⟩)) (fun c hc => ?_) x _ y y2 ex (by rw [hss]; rfl) hy hy2
              rw [Nat.testBit_or, Bool.or_eq_true, hbit c hc, Nat.testBit_two_pow, decide_eq_true_iff]
              constructor
              · rintro (⟨j, a, b⟩ | b)
                · exact ⟨j, by omega, b⟩
                · exact ⟨i, by omega, by omega⟩
              · rintro ⟨j, a, b⟩
                by_cases e : j = i
                · subst e; exact Or.inr (by omega)
                · exact Or.inl ⟨j, by omega, b⟩
            | true =>
              rw [hand, hb3, if_pos rfl]
              refine br_f (nI_ne0 hpp (by omega)) (bad (fun q => ?_))
              obtain ⟨j, hj, e⟩ := hb4.mp hb3
              rcases q with q | q | q
              · omega
              · omega
              · exact q.2.2 j hj e
      · refine br_f (by decide) ?_
        rw [show (0 : Int32) = nI 0 from rfl, fa_and, Nat.and_zero]
        refine br_t rfl ?_
        intro y hy
        rw [fa_or, Nat.or_zero] at hy
        exact fun y2 hy2 => step U hU (Or.inr (Or.inl c2)) (same (fun c hc => by omega)) x _ y y2 ex (by rw [hss]; rfl) hy hy2
    · rw [if_pos c1] at hss
      intro x hx
      rw [nI_suc] at hx
      exact fun y2 hy2 => step U hU (Or.inl c1) (same (fun c hc => by omega)) _ x _ y2 (by congr 1; omega) (by rw [hx, hss]) rfl hy2

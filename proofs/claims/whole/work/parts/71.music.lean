/-! music: a pattern's bytes. -/
theorem bI_and : ∀ b, b < 256 → bI b &&& 255 = nI b := by decide +kernel
theorem bI_lo : ∀ b, b < 128 → bI b = nI b := by decide +kernel
theorem bI_hi : ∀ b, b < 256 → 128 ≤ b → bI b < 0 := by decide +kernel
theorem bI_eq {b c : Nat} (hb : b < 256) (hc : c < 128) : bI b = nI c ↔ b = c := by
  rcases Nat.lt_or_ge b 128 with z | z
  · rw [bI_lo b z]; exact nI_eq (by omega) (by omega)
  · constructor
    · intro e
      have := bI_hi b hb z
      rw [e] at this
      exact absurd this (nI_pos (by omega))
    · intro e; omega
def tpe (σ τ : hSt) (tz : Nat) (bt : Nat → Nat) : Prop := ∀ i, i < tz → bt i < 256 ∧ σ 20 i = bI (bt i) ∧ τ 5 i = bI (bt i)
theorem rT.bt {σ τ : hSt} {tz : Nat} (h : rT σ τ tz) : ∃ bt, tpe σ τ tz bt := by
  obtain ⟨-, -, -, h4⟩ := h
  refine ⟨fun i => (τ 5 i &&& 255).toNatClampNeg, fun i hi => ?_⟩
  obtain ⟨e, b, hb, e2⟩ := h4 i hi
  have e3 : (τ 5 i &&& 255).toNatClampNeg = b := by rw [e2, bI_and b hb, nI_clamp (by omega)]
  show (τ 5 i &&& 255).toNatClampNeg < 256 ∧ σ 20 i = bI (τ 5 i &&& 255).toNatClampNeg ∧ τ 5 i = bI (τ 5 i &&& 255).toNatClampNeg
  rw [e3]
  exact ⟨hb, by rw [e]; exact e2, e2⟩
theorem s_signAt {σ : hSt} {tz i : Nat} {b : Nat} (hz : tz ≤ 500) (h1 : σ 19 1 = nI tz) (hi : i < tz) (hb : b < 256) (h2 : σ 20 i = bI b) {Q : Int32 → Prop} (hQ : Q (nI b)) : wp_X9_signAt (nI i) σ Q := by
  unfold wp_X9_signAt
  rw [h1]
  refine br_f (nI_pos (by omega)) (br_f (nI_ge hi (by omega)) (br_f (nI_ge (b := 500) (by omega) (by decide)) ⟨vp_in_nI (by omega) (by decide), ?_⟩))
  rw [nI_clamp (by omega), h2, bI_and b hb]
  exact hQ
def okb (n : Nat) (bt : Nat → Nat) (i : Nat) : Prop := bt i = 42 ∨ bt i = 63 ∨ (49 ≤ bt i ∧ bt i ≤ 48 + n ∧ ∀ j, j < i → bt j ≠ bt i)
def sts (bt : Nat → Nat) (k : Nat) : Nat := nb (fun i => decide (bt i = 42)) k
def gpat (n : Nat) (bt : Nat → Nat) (tz : Nat) : Prop := (∀ i, i < tz → okb n bt i) ∧ sts bt tz ≤ 1 ∧ tz - sts bt tz ≤ n ∧ (sts bt tz = 0 → n ≤ tz)
def digB (bt : Nat → Nat) (i : Nat) : Bool := decide (bt i ≠ 42) && decide (bt i ≠ 63)
/-- where byte i of a pattern stands -/
def cpl (bt : Nat → Nat) (free : Nat) : Nat → Nat
  | 0 => 0
  | i + 1 => cpl bt free i + (if bt i = 42 then free else 1)
def Mfn (bt : Nat → Nat) (free : Nat) : Nat → Nat → Nat
  | 0, _ => 0
  | i + 1, p => if digB bt i = true ∧ p = cpl bt free i then 7 else Mfn bt free i p
def Vfn (bt : Nat → Nat) (free : Nat) : Nat → Nat → Nat
  | 0, _ => 0
  | i + 1, p => if digB bt i = true ∧ p = cpl bt free i then bt i - 49 else Vfn bt free i p
theorem sts_suc {bt : Nat → Nat} {i : Nat} : sts bt (i + 1) = sts bt i + (if bt i = 42 then 1 else 0) := by
  show nb _ i + (if decide (bt i = 42) = true then 1 else 0) = _
  simp [sts]
theorem sts_le (bt : Nat → Nat) (k : Nat) : sts bt k ≤ k := nb_le _ k
theorem cpl_is (bt : Nat → Nat) (free : Nat) : ∀ i, cpl bt free i = (i - sts bt i) + free * sts bt i
  | 0 => by simp [cpl, sts, nb]
  | i + 1 => by
    have h := sts_le bt i
    rw [sts_suc]
    show cpl bt free i + _ = _
    rw [cpl_is bt free i]
    split
    · rw [Nat.mul_add, Nat.mul_one]; omega
    · simp only [Nat.add_zero]; omega
theorem cpl_mono (bt : Nat → Nat) (free : Nat) : ∀ {i j : Nat}, i ≤ j → cpl bt free i ≤ cpl bt free j
  | i, 0, h => by have : i = 0 := by omega
                  subst this; exact Nat.le_refl _
  | i, j + 1, h => by
    by_cases e : i = j + 1
    · subst e; exact Nat.le_refl _
    · have := cpl_mono bt free (i := i) (j := j) (by omega)
      show _ ≤ cpl bt free j + _
      omega
theorem cpl_dig {bt : Nat → Nat} {free i : Nat} (h : bt i ≠ 42) : cpl bt free (i + 1) = cpl bt free i + 1 := by
  show cpl bt free i + (if bt i = 42 then free else 1) = _
  rw [if_neg h]
theorem digB_is {bt : Nat → Nat} {i : Nat} : digB bt i = true ↔ bt i ≠ 42 ∧ bt i ≠ 63 := by
  unfold digB; rw [Bool.and_eq_true, decide_eq_true_iff, decide_eq_true_iff]
theorem Mfn_hi {bt : Nat → Nat} {free p : Nat} : ∀ {i : Nat}, cpl bt free i ≤ p → Mfn bt free i p = 0 ∧ Vfn bt free i p = 0
  | 0, _ => ⟨rfl, rfl⟩
  | i + 1, h => by
    have h1 : cpl bt free i ≤ p := Nat.le_trans (cpl_mono bt free (Nat.le_succ i)) h
    have hno : ¬ (digB bt i = true ∧ p = cpl bt free i) := fun ⟨a, b⟩ => by
      have := cpl_dig (free := free) (digB_is.mp a).1
      omega
    obtain ⟨a, b⟩ := Mfn_hi (i := i) h1
    constructor
    · show (if _ then 7 else _) = 0; rw [if_neg hno]; exact a
    · show (if _ then bt i - 49 else _) = 0; rw [if_neg hno]; exact b
theorem Mfn_8 {bt : Nat → Nat} {free : Nat} : ∀ i p, Mfn bt free i p = 0 ∨ Mfn bt free i p = 7
  | 0, _ => Or.inl rfl
  | i + 1, p => by
    show (if _ then 7 else _) = 0 ∨ (if _ then 7 else _) = 7
    split
    · exact Or.inr rfl
    · exact Mfn_8 i p
/-- a row fits -/
def fitP (bt : Nat → Nat) (free tz : Nat) (r : Nat → Nat) : Prop := ∀ i, i < tz → digB bt i = true → r (cpl bt free i) = bt i - 49
theorem Mfn_fit {bt : Nat → Nat} {free n : Nat} {r : Nat → Nat} : ∀ {k : Nat}, cpl bt free k ≤ n → ((∀ p, p < n → (if Mfn bt free k p = 7 then r p else 0) = Vfn bt free k p) ↔ fitP bt free k r)
  | 0, _ => ⟨fun _ i hi => absurd hi (Nat.not_lt_zero i), fun _ p _ => by simp [Mfn, Vfn]⟩
  | k + 1, h => by
    have h1 : cpl bt free k ≤ n := Nat.le_trans (cpl_mono bt free (Nat.le_succ k)) h
    have ih := Mfn_fit (bt := bt) (free := free) (r := r) h1
    have hM : ∀ p, Mfn bt free (k + 1) p = if digB bt k = true ∧ p = cpl bt free k then 7 else Mfn bt free k p := fun p => rfl
    have hV : ∀ p, Vfn bt free (k + 1) p = if digB bt k = true ∧ p = cpl bt free k then bt k - 49 else Vfn bt free k p := fun p => rfl
    have hyes : digB bt k = true → Mfn bt free (k + 1) (cpl bt free k) = 7 ∧ Vfn bt free (k + 1) (cpl bt free k) = bt k - 49 := fun hd => ⟨by rw [hM, if_pos ⟨hd, rfl⟩], by rw [hV, if_pos ⟨hd, rfl⟩]⟩
    have hnot : ∀ p, ¬ (digB bt k = true ∧ p = cpl bt free k) → Mfn bt free (k + 1) p = Mfn bt free k p ∧ Vfn bt free (k + 1) p = Vfn bt free k p := fun p q => ⟨by rw [hM, if_neg q], by rw [hV, if_neg q]⟩
    by_cases hd : digB bt k = true
    · have hc := cpl_dig (free := free) (digB_is.mp hd).1
      have hz := Mfn_hi (bt := bt) (free := free) (i := k) (Nat.le_refl (cpl bt free k))
      obtain ⟨y1, y2⟩ := hyes hd
      constructor
      · intro g i hi hdi
        by_cases e : i = k
        · subst e
          have := g (cpl bt free i) (by omega)
          rw [y1, y2, if_pos rfl] at this
          exact this
        · refine ih.mp (fun p hp => ?_) i (by omega) hdi
          by_cases e2 : p = cpl bt free k
          · subst e2; rw [hz.1, hz.2]; rfl
          · have := g p hp
            obtain ⟨n1, n2⟩ := hnot p (fun q => e2 q.2)
            rw [n1, n2] at this
            exact this
      · intro g p hp
        by_cases e2 : p = cpl bt free k
        · rw [e2, y1, y2, if_pos rfl]
          exact g k (by omega) hd
        · obtain ⟨n1, n2⟩ := hnot p (fun q => e2 q.2)
          rw [n1, n2]
          exact ih.mpr (fun i hi => g i (by omega)) p hp
    · constructor
      · intro g i hi hdi
        by_cases e : i = k
        · subst e; exact absurd hdi hd
        · refine ih.mp (fun p hp => ?_) i (by omega) hdi
          have := g p hp
          obtain ⟨n1, n2⟩ := hnot p (fun q => hd q.1)
          rw [n1, n2] at this
          exact this
      · intro g p hp
        obtain ⟨n1, n2⟩ := hnot p (fun q => hd q.1)
        rw [n1, n2]
        exact ih.mpr (fun i hi => g i (by omega)) p hp
theorem enc_and {n : Nat} {r M : Nat → Nat} (hr : ∀ i, i < n → r i < 8) (hM : ∀ i, M i = 0 ∨ M i = 7) : encR n r &&& encR n M = encR n (fun p => if M p = 7 then r p else 0) := by
  apply Nat.eq_of_testBit_eq
  intro k
  have h8 : ∀ i, i < n → (fun p => if M p = 7 then r p else 0) i < 8 := fun i hi => by
    show (if M i = 7 then r i else 0) < 8
    split
    · exact hr i hi
    · decide
  have hM8 : ∀ i, i < n → M i < 8 := fun i _ => by rcases hM i with h | h <;> omega
  rw [Nat.testBit_and, encR_tb hr, encR_tb hM8, encR_tb h8]
  have hk : k % 3 < 3 := Nat.mod_lt _ (by decide)
  rcases hM (k / 3) with h | h
  · rw [h]; simp
  · rw [h, if_pos rfl]
    have : (7 : Nat).testBit (k % 3) = true := by
      rcases (by omega : k % 3 = 0 ∨ k % 3 = 1 ∨ k % 3 = 2) with q | q | q <;> rw [q] <;> rfl
    rw [this]
    by_cases q : k / 3 < n <;> simp [q]

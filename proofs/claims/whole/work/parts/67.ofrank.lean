/-! From a rank back to its row. -/
def fct : Nat → Nat
  | 0 => 1
  | n + 1 => (n + 1) * fct n
theorem fct_pos : ∀ n, 0 < fct n
  | 0 => Nat.one_pos
  | n + 1 => Nat.mul_pos (Nat.succ_pos n) (fct_pos n)
theorem fct_le : ∀ n, n ≤ 8 → fct n ≤ 40320 := by decide
theorem s_many {n : Nat} (hn : n ≤ 8) {Q : Int32 → Prop} (hQ : Q (nI (fct n))) : wp_X6_many (nI n) Q := by
  unfold wp_X6_many
  refine hL2_in (fun v1 v2 => ∃ i, 1 ≤ i ∧ (i ≤ n ∨ i = 1) ∧ v2 = nI (i + 1) ∧ v1 = nI (fct i)) (fun _ v2 => n + 2 - v2.toNatClampNeg) ?_ ⟨1, Nat.le_refl _, Or.inr rfl, rfl, rfl⟩
  rintro P _ _ ⟨i, hi1, hi, rfl, rfl⟩ ih
  refine pk_lt n (i + 1) (fun z => ?_) (fun z => ?_) rfl rfl
  · rcases (by omega : i = n ∨ (i = 1 ∧ n = 0)) with e | ⟨e1, e2⟩
    · subst e; exact hQ
    · subst e1 e2; exact hQ
  · intro x hx y hy
    rw [pk_mul] at hx
    rw [nI_suc] at hy
    subst hx hy
    refine ih _ _ ⟨i + 1, by omega, Or.inl z, rfl, ?_⟩ (by rw [nI_clamp (by omega), nI_clamp (by omega)]; omega)
    show nI (fct i * (i + 1)) = nI ((i + 1) * fct i)
    rw [Nat.mul_comm]
theorem rkp_div {n : Nat} {r : Nat → Nat} (h : isP n r) : ∀ j, j ≤ n → rkp n r (n - j) = rk n r / fct j
  | 0, _ => by show rkp n r n = rk n r / 1; rw [Nat.div_one]; rfl
  | j + 1, hj => by
    have h1 := rkp_div h j (by omega)
    have e : n - j = n - (j + 1) + 1 := by omega
    have h2 : rkp n r (n - j) = rkp n r (n - (j + 1)) * (n - (n - (j + 1))) + rkd r (n - (j + 1)) := by rw [e]; rfl
    have h3 := rkd_lt h (i := n - (j + 1)) (by omega)
    have e2 : n - (n - (j + 1)) = j + 1 := by omega
    rw [e2] at h2 h3
    show rkp n r (n - (j + 1)) = rk n r / ((j + 1) * fct j)
    rw [Nat.mul_comm, ← Nat.div_div_eq_div_mul, ← h1, h2, Nat.mul_comm, Nat.mul_add_div (by omega), Nat.div_eq_of_lt h3]
    omega
theorem dig_is {n i : Nat} {r : Nat → Nat} (h : isP n r) (hi : i < n) : rk n r % fct (n - i) / fct (n - 1 - i) = rkd r i := by
  have e : fct (n - i) = fct (n - 1 - i) * (n - i) := by
    have : n - i = n - 1 - i + 1 := by omega
    rw [this]; show (n - 1 - i + 1) * fct (n - 1 - i) = _; rw [Nat.mul_comm]
  rw [e, Nat.mod_mul_right_div_self]
  have h1 := rkp_div h (n - 1 - i) (by omega)
  have e2 : n - (n - 1 - i) = i + 1 := by omega
  rw [e2] at h1
  rw [← h1]
  show (rkp n r i * (n - i) + rkd r i) % (n - i) = rkd r i
  rw [Nat.mul_comm, Nat.mul_add_mod]
  exact Nat.mod_eq_of_lt (rkd_lt h hi)
theorem rest_is {n i : Nat} {r : Nat → Nat} (h : isP n r) (hi : i < n) : rk n r % fct (n - i) - rkd r i * fct (n - 1 - i) = rk n r % fct (n - 1 - i) := by
  have e : fct (n - i) = fct (n - 1 - i) * (n - i) := by
    have : n - i = n - 1 - i + 1 := by omega
    rw [this]; show (n - 1 - i + 1) * fct (n - 1 - i) = _; rw [Nat.mul_comm]
  have h1 := Nat.div_add_mod (rk n r % fct (n - i)) (fct (n - 1 - i))
  rw [dig_is h hi, Nat.mul_comm] at h1
  have h2 : rk n r % fct (n - i) % fct (n - 1 - i) = rk n r % fct (n - 1 - i) := by rw [e, Nat.mod_mul_right_mod]
  omega
theorem s_unused {n i : Nat} {r : Nat → Nat} (hn : n ≤ 8) (h : isP n r) (hi : i < n) {Q : Int32 → Prop} (hQ : Q (nI (r i))) : wp_X6_unused (nI (us r i)) (nI (rkd r i)) (nI n) Q := by
  unfold wp_X6_unused
  have hri := h.1 i hi
  have hinj : ∀ a b, a < i → b < i → r a = r b → a = b := fun a b ha hb => h.2 a b (by omega) (by omega)
  have hd : rkd r i = r i - nb (inR r i) (r i) := by unfold rkd; rw [nb_inR hinj]
  have hno : inR r i (r i) = false := inR_no (fun k hk e => by have := h.2 k i (by omega) hi e; omega)
  have hus := us_lt (r := r) (i := i) (fun k hk => h.lt8 hn k (by omega))
  have hle := nb_le (inR r i) (r i)
  have hri8 := h.lt8 hn i hi
  refine hL2_in (fun v3 v4 => ∃ b, b ≤ r i ∧ v4 = nI b ∧ b - nb (inR r i) b ≤ rkd r i ∧ v3 = nI (rkd r i - (b - nb (inR r i) b))) (fun _ v4 => n - v4.toNatClampNeg) ?_ ⟨0, Nat.zero_le _, rfl, by show 0 - 0 ≤ _; omega, rfl⟩
  rintro P _ _ ⟨b, hb, rfl, hle2, rfl⟩ ih
  have hbl := nb_le (inR r i) b
  refine pk_le n b (fun z => by omega) (fun z => ?_) rfl rfl
  have hnb : nb (inR r i) (b + 1) = nb (inR r i) b + (if inR r i b then 1 else 0) := rfl
  have hlt : inR r i b = false → b < r i → b - nb (inR r i) b < rkd r i := fun q q2 => by
    have := nb_sub q q2
    omega
  have hb2 := bit_is (m := us r i) (i := b) (A := (¬ nI (rkd r i - (b - nb (inR r i) b)) = 0 → (∀ x3_7 : Int32, x3_7 = nI (rkd r i - (b - nb (inR r i) b)) + (-1 : Int32) → (∀ x4_8 : Int32, x4_8 = nI b + (1 : Int32) → (P x3_7 x4_8)))) ∧ (nI (rkd r i - (b - nb (inR r i) b)) = 0 → (Q (nI b)))) (B := ∀ x4_5 : Int32, x4_5 = nI b + (1 : Int32) → (P (nI (rkd r i - (b - nb (inR r i) b))) x4_5)) (by omega) (by omega) (fun q => ?_) (fun q => ?_)
  · exact ⟨hb2.2, hb2.1⟩
  · rw [us_tb] at q
    rw [q] at hnb
    simp only [Bool.false_eq_true, if_false, Nat.add_zero] at hnb
    refine pk_en (rkd r i - (b - nb (inR r i) b)) 0 (fun q2 => ?_) (fun q2 => ?_) rfl rfl
    · intro x hx y hy
      have e : rkd r i - (b - nb (inR r i) b) = (rkd r i - (b + 1 - nb (inR r i) (b + 1))) + 1 := by omega
      rw [e, pk_m1] at hx
      rw [nI_suc] at hy
      subst hx hy
      have hbr : b ≠ r i := fun e2 => by rw [e2] at q2; omega
      exact ih _ _ ⟨b + 1, by omega, rfl, by omega, rfl⟩ (by rw [nI_clamp (by omega), nI_clamp (by omega)]; omega)
    · have hbr : b = r i := by
        rcases Nat.lt_or_ge b (r i) with z2 | z2
        · have := hlt q z2; omega
        · omega
      rw [hbr]; exact hQ
  · rw [us_tb] at q
    rw [q] at hnb
    simp only [if_true] at hnb
    intro y hy
    rw [nI_suc] at hy
    subst hy
    have hbr : b ≠ r i := fun e2 => by rw [e2, hno] at q; cases q
    have e : rkd r i - (b - nb (inR r i) b) = rkd r i - (b + 1 - nb (inR r i) (b + 1)) := by omega
    rw [e]
    exact ih _ _ ⟨b + 1, by omega, rfl, by omega, rfl⟩ (by rw [nI_clamp (by omega), nI_clamp (by omega)]; omega)
theorem s_ofRank {n : Nat} {r : Nat → Nat} (hn : n ≤ 8) (h : isP n r) {Q : Int32 → Prop} (hQ : Q (nI (encR n r))) : wp_X6_ofRank (nI (rk n r)) (nI n) Q := by
  unfold wp_X6_ofRank
  have hf := fct_le n hn
  have hrk := rk_lt hn h
  have e0 : rk n r = rk n r % fct (n - 0) := by
    have h1 := rkp_div h n (Nat.le_refl n)
    rw [Nat.sub_self] at h1
    have h2 : rk n r / fct n = 0 := h1.symm
    have h3 := Nat.div_add_mod (rk n r) (fct n)
    rw [h2] at h3
    show rk n r = rk n r % fct n
    omega
  refine hL4_in (fun v2 v3 v4 v5 => ∃ i, i ≤ n ∧ v5 = nI i ∧ v2 = nI (encR n (upto i r)) ∧ v3 = nI (us r i) ∧ v4 = nI (rk n r % fct (n - i))) (fun _ _ _ v5 => n - v5.toNatClampNeg) ?_ ⟨0, Nat.zero_le _, rfl, by rw [upto_0]; rfl, rfl, by rw [← e0]⟩
  rintro P _ _ _ _ ⟨i, hi, rfl, rfl, rfl, rfl⟩ ih
  refine pk_le n i (fun z => ?_) (fun z => ?_) rfl rfl
  · have e : i = n := by omega
    subst e
    rw [upto_n]; exact hQ
  · rw [show (1 : Int32) = nI 1 from rfl, pk_sub (by omega), pk_sub (by omega)]
    refine s_many (by omega) ?_
    dsimp only [hM_]
    have hp := fct_pos (n - 1 - i)
    have hle := fct_le (n - 1 - i) (by omega)
    refine pk_le (fct (n - 1 - i)) 0 (fun z2 => by omega) (fun z2 => ?_) rfl rfl
    have hm : rk n r % fct (n - i) ≤ rk n r := Nat.mod_le _ _
    refine ⟨nI_ne0 hp (by omega), ?_⟩
    rw [pk_div (by omega) hp (by omega), dig_is h z]
    have hd := rkd_lt h z
    have hmul : rkd r i * fct (n - 1 - i) ≤ rk n r % fct (n - i) := by
      rw [← dig_is h z]; exact Nat.div_mul_le_self _ _
    intro x hx
    rw [pk_mul, pk_sub hmul, rest_is h z] at hx
    subst hx
    refine s_unused hn h z ?_
    intro x hx y hy k hk
    have h8 := h.lt8 hn i z
    rw [or_dig hn z (upto_8 (h.lt8 hn)) upto_self h8, upto_suc] at hx
    rw [show nI 1 <<< (nI (r i) &&& 31) = nI (2 ^ r i) from shl1 (by omega), fa_or] at hy
    rw [nI_add] at hk
    subst hx hy hk
    refine ih _ _ _ _ ⟨i + 1, by omega, rfl, rfl, rfl, ?_⟩ (by rw [nI_clamp (by omega), nI_clamp (by omega)]; omega)
    rw [show n - (i + 1) = n - 1 - i by omega]

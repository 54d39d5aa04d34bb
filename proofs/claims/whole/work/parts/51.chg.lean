/-! A change, as the bits of the places that are made: the walk over the places. -/
def b_up (μ : Nat) : Nat → Bool
  | 0 => false
  | i + 1 => !(b_up μ i) && !(μ.testBit i)
def b_vis (n μ : Nat) : Prop := b_up μ n = false
def b_pm (n μ i : Nat) : Nat := if n ≤ i then i else if b_up μ (i + 1) then i + 1 else if b_up μ i then i - 1 else i
def b_lo (μ i : Nat) : Nat := if b_up μ (i + 1) then 7 else 0
def b_cen (n μ : Nat) : Nat := encR n (b_lo μ)
theorem b_lo_8 (μ i : Nat) : b_lo μ i < 8 := by unfold b_lo; split <;> decide
theorem b_up_no {μ i : Nat} (h : b_up μ i = true) : b_up μ (i + 1) = false := by simp [b_up, h]
/-- a row of n places: a permutation that leaves all behind as it is -/
def PR (n : Nat) (r : Nat → Nat) : Prop := (∀ i, i < n → r i < n) ∧ (∀ i j, r i = r j → i = j) ∧ ∀ i, n ≤ i → r i = i
theorem PR.isP {n : Nat} {r : Nat → Nat} (h : PR n r) : isP n r := ⟨h.1, fun i j _ _ e => h.2.1 i j e⟩
theorem PR.lt8 {n : Nat} {r : Nat → Nat} (h : PR n r) (hn : n ≤ 8) : ∀ i, i < n → r i < 8 := fun i hi => Nat.lt_of_lt_of_le (h.1 i hi) hn
theorem PR_id (n : Nat) : PR n (fun i => i) := ⟨fun _ h => h, fun _ _ h => h, fun _ _ => rfl⟩
theorem PR.comp {n : Nat} {r q : Nat → Nat} (h : PR n r) (hq : PR n q) : PR n (fun i => r (q i)) :=
  ⟨fun i hi => h.1 _ (hq.1 i hi), fun i j e => hq.2.1 _ _ (h.2.1 _ _ e), fun i hi => by show r (q i) = i; rw [hq.2.2 i hi, h.2.2 i hi]⟩
theorem PR_ext {n : Nat} {r q : Nat → Nat} (h : PR n r) (hq : PR n q) (e : ∀ i, i < n → r i = q i) : r = q := by
  funext i
  rcases Nat.lt_or_ge i n with z | z
  · exact e i z
  · rw [h.2.2 i z, hq.2.2 i z]
theorem PR_enc {n : Nat} {r q : Nat → Nat} (hn : n ≤ 8) (h : PR n r) (hq : PR n q) (e : encR n r = encR n q) : r = q := PR_ext h hq (encR_inj (h.lt8 hn) (hq.lt8 hn) e)
theorem b_pm_lt {n μ : Nat} (hv : b_vis n μ) {i : Nat} (hi : i < n) : b_pm n μ i < n := by
  unfold b_pm
  rw [if_neg (by omega)]
  split
  · rename_i h
    rcases Nat.lt_or_ge (i + 1) n with z | z
    · exact z
    · have e : i + 1 = n := by omega
      rw [e, hv] at h
      cases h
  · split
    · omega
    · exact hi
theorem b_pm_pm {n μ : Nat} (hv : b_vis n μ) (i : Nat) : b_pm n μ (b_pm n μ i) = i := by
  rcases Nat.lt_or_ge i n with z | z
  · have hl := b_pm_lt hv z
    by_cases h1 : b_up μ (i + 1) = true
    · have e : b_pm n μ i = i + 1 := by unfold b_pm; rw [if_neg (by omega), if_pos h1]
      rw [e] at hl ⊢
      unfold b_pm
      rw [if_neg (by omega), b_up_no h1, h1]
      simp
    · by_cases h2 : b_up μ i = true
      · have h0 : 0 < i := by
          rcases Nat.eq_zero_or_pos i with q | q
          · subst q; simp [b_up] at h2
          · exact q
        have e : b_pm n μ i = i - 1 := by unfold b_pm; rw [if_neg (by omega), if_neg h1, if_pos h2]
        rw [e] at hl ⊢
        unfold b_pm
        rw [if_neg (by omega), show i - 1 + 1 = i by omega, if_pos h2]
      · have e : b_pm n μ i = i := by unfold b_pm; rw [if_neg (by omega), if_neg h1, if_neg h2]
        rw [e, e]
  · have e : b_pm n μ i = i := by unfold b_pm; rw [if_pos z]
    rw [e, e]
theorem b_pm_PR {n μ : Nat} (hv : b_vis n μ) : PR n (b_pm n μ) := ⟨fun i hi => b_pm_lt hv hi, fun i j e => by rw [← b_pm_pm hv i, e, b_pm_pm hv j], fun i hi => by unfold b_pm; rw [if_pos hi]⟩
theorem tb_7 (b : Nat) (k : Nat) (hk : k < 3) : (if b_up b k then 7 else 0 : Nat).testBit k = b_up b k := by
  split
  · rename_i h; rw [h]
    rcases (by omega : k = 0 ∨ k = 1 ∨ k = 2) with rfl | rfl | rfl <;> rfl
  · rename_i h; simp at h; rw [h]; exact Nat.zero_testBit k
theorem lo_tb (μ i k : Nat) (hk : k < 3) : (b_lo μ i).testBit k = b_up μ (i + 1) := by
  unfold b_lo
  split
  · rename_i h; rw [h]
    rcases (by omega : k = 0 ∨ k = 1 ∨ k = 2) with rfl | rfl | rfl <;> rfl
  · rename_i h; simp at h; rw [h]; exact Nat.zero_testBit k
theorem cen_tb (n μ k : Nat) : (b_cen n μ).testBit k = (decide (k / 3 < n) && b_up μ (k / 3 + 1)) := by
  unfold b_cen
  rw [encR_tb (fun i _ => b_lo_8 μ i), lo_tb _ _ _ (Nat.mod_lt _ (by decide))]
theorem cen_lt {n μ : Nat} (hn : n ≤ 8) : b_cen n μ < 16777216 := encR_lt24 hn (fun i _ => b_lo_8 μ i)
/-- the sum of the three parts of a changed row -/
theorem chg_nat {n μ : Nat} {r : Nat → Nat} (hn : n ≤ 8) (hr : ∀ i, i < n → r i < 8) (hv : b_vis n μ) :
    (encR n r &&& ((b_cen n μ ||| b_cen n μ * 2 ^ 3) ^^^ (2 ^ 32 - 1))) ||| (encR n r &&& b_cen n μ) * 2 ^ 3 ||| (encR n r / 2 ^ 3 &&& b_cen n μ) = encR n (fun i => r (b_pm n μ i)) := by
  apply Nat.eq_of_testBit_eq
  intro k
  have hk3 : k % 3 < 3 := Nat.mod_lt _ (by decide)
  rw [encR_tb (fun i hi => hr _ (b_pm_lt hv hi))]
  rw [Nat.testBit_or, Nat.testBit_or, Nat.testBit_and, Nat.testBit_xor, Nat.testBit_or, Nat.testBit_two_pow_sub_one, Nat.mul_comm (b_cen n μ), Nat.testBit_two_pow_mul, Nat.mul_comm (encR n r &&& b_cen n μ), Nat.testBit_two_pow_mul, Nat.testBit_and, Nat.testBit_and, Nat.testBit_div_two_pow, encR_tb hr, encR_tb hr, encR_tb hr, cen_tb, cen_tb]
  rw [show (k + 3) / 3 = k / 3 + 1 by omega, show (k + 3) % 3 = k % 3 by omega]
  by_cases hin : k / 3 < n
  · by_cases h1 : b_up μ (k / 3 + 1) = true
    · have hl : k / 3 + 1 < n := by
        rcases Nat.lt_or_ge (k / 3 + 1) n with z | z
        · exact z
        · have e : k / 3 + 1 = n := by omega
          rw [e, hv] at h1; cases h1
      have e : b_pm n μ (k / 3) = k / 3 + 1 := by unfold b_pm; rw [if_neg (by omega), if_pos h1]
      have h0 : b_up μ (k / 3) = false := by
        cases hq : b_up μ (k / 3) with
        | false => rfl
        | true => rw [b_up_no hq] at h1; cases h1
      have h3 : 3 ≤ k → (decide ((k - 3) / 3 < n) && b_up μ ((k - 3) / 3 + 1)) = false := fun z => by
        rw [show (k - 3) / 3 + 1 = k / 3 by omega, h0]; simp
      rw [e]
      simp only [hin, h1, hl, decide_true, Bool.true_and, Bool.and_true, Bool.true_or, show k < 32 by omega, Bool.xor_true, Bool.not_true, Bool.and_false, Bool.false_or]
      by_cases z : 3 ≤ k
      · rw [h3 z]; simp
      · simp [z]
    · have h1' : b_up μ (k / 3 + 1) = false := by simpa using h1
      by_cases h2 : b_up μ (k / 3) = true
      · have h0 : 0 < k / 3 := by
          rcases Nat.eq_zero_or_pos (k / 3) with q | q
          · rw [q] at h2; simp [b_up] at h2
          · exact q
        have e : b_pm n μ (k / 3) = k / 3 - 1 := by unfold b_pm; rw [if_neg (by omega), if_neg h1, if_pos h2]
        rw [e, show (k - 3) / 3 = k / 3 - 1 by omega, show k / 3 - 1 + 1 = k / 3 by omega, show (k - 3) % 3 = k % 3 by omega]
        simp [hin, h1', h2, show 3 ≤ k by omega, show k / 3 - 1 < n by omega, show k < 32 by omega]
      · have h2' : b_up μ (k / 3) = false := by simpa using h2
        have e : b_pm n μ (k / 3) = k / 3 := by unfold b_pm; rw [if_neg (by omega), if_neg h1, if_neg h2]
        rw [e]
        have h3 : 3 ≤ k → (decide ((k - 3) / 3 < n) && b_up μ ((k - 3) / 3 + 1)) = false := fun z => by
          rw [show (k - 3) / 3 + 1 = k / 3 by omega, h2']; simp
        simp only [hin, h1', decide_true, Bool.true_and, Bool.and_false, Bool.false_or, show k < 32 by omega, Bool.xor_true, Bool.or_false]
        by_cases z : 3 ≤ k
        · rw [h3 z]; simp
        · simp [z]
  · have h9 : k / 3 + 1 < n ↔ False := ⟨by omega, fun h => h.elim⟩
    by_cases z : 3 ≤ k
    · by_cases z2 : (k - 3) / 3 < n
      · have e2 : (k - 3) / 3 + 1 = n := by omega
        rw [e2, hv]; simp [hin, h9]
      · simp [hin, h9, z2]
    · simp [hin, h9, z]
theorem s_changed {n μ : Nat} {r : Nat → Nat} (hn : n ≤ 8) (hr : ∀ i, i < n → r i < 8) (hv : b_vis n μ) {Q : Int32 → Prop} (hq : Q (nI (encR n (fun i => r (b_pm n μ i))))) : wp_X6_changed (nI (encR n r)) (nI (b_cen n μ)) Q := by
  unfold wp_X6_changed
  intro x hx
  have hc := cen_lt (n := n) (μ := μ) hn
  have hR := encR_lt24 hn hr
  rw [pk_shlN _ 3 (by decide) (by omega), fa_or, show (-1 : Int32) = nI (2 ^ 32 - 1) by decide, fa_xor, fa_and] at hx
  subst hx
  have h2 : encR n r &&& b_cen n μ ≤ encR n r := Nat.and_le_left
  rw [fa_and (encR n r) (b_cen n μ), pk_shlN _ 3 (by decide) (by omega), pk_ushrN (by omega) _ 3 (by decide), fa_and, fa_or, fa_or, chg_nat hn hr hv]
  exact hq
theorem sh1_u : ∀ i, i < 32 → (((nI i).toUInt32 &&& Int32.toUInt32 31).toBitVec % 32).toNat = i := by decide +kernel
theorem sh1_l : ∀ i, i < 32 → (((nI i) &&& 31).toBitVec.smod 32).toNat = i := by decide +kernel
/-- the bit i of a number below 2^31 -/
theorem bit_is {m i : Nat} (hm : m < 2 ^ 31) (hi : i < 32) {A B : Prop} (f : m.testBit i = false → A) (g : m.testBit i = true → B) : ((((nI m).toUInt32 >>> ((nI i).toUInt32 &&& Int32.toUInt32 31)).toInt32 &&& (1 : Int32)) = 0 → A) ∧ (¬ (((nI m).toUInt32 >>> ((nI i).toUInt32 &&& Int32.toUInt32 31)).toInt32 &&& (1 : Int32)) = 0 → B) := by
  rw [pk_ushrN (by omega) _ i (sh1_u i hi), pk_andN (Nat.lt_of_le_of_lt (Nat.div_le_self _ _) (by omega)) 1 (by decide)]
  have e : m.testBit i = decide (m / 2 ^ i % 2 ^ 1 = 1) := by rw [Nat.testBit_eq_decide_div_mod_eq]
  refine pk_eq (m / 2 ^ i % 2 ^ 1) 0 (fun h => f (by rw [e, h]; decide)) (fun h => g (by rw [e]; simp; omega)) rfl rfl ?_ ?_
  all_goals omega
theorem up_cong {μ ν n : Nat} (h : ∀ j, j < n → μ.testBit j = ν.testBit j) : ∀ j, j ≤ n → b_up μ j = b_up ν j
  | 0, _ => rfl
  | j + 1, hj => by
    show (!(b_up μ j) && !(μ.testBit j)) = (!(b_up ν j) && !(ν.testBit j))
    rw [up_cong h j (by omega), h j (by omega)]
theorem s_changeMaking {n m μ : Nat} (hn : n ≤ 8) (h0 : 0 < n) (hm : m < 2 ^ 31) (hv : b_vis n μ) (hb : ∀ j, j < n - 1 → m.testBit j = μ.testBit j) {Q : Int32 → Prop} (hq : Q (nI (b_cen n μ))) : wp_X6_changeMaking (nI m) (nI n) Q := by
  unfold wp_X6_changeMaking
  have hcg := up_cong hb
  have hL : ∀ i : Nat, ∀ j, j < n → (if j < i ∧ b_up μ (j + 1) then 7 else 0 : Nat) < 8 := fun i j _ => by split <;> decide
  refine hL2_in (fun v2 v3 => ∃ i, i ≤ n ∧ v3 = nI i ∧ b_up μ i = false ∧ v2 = nI (encR n (fun j => if j < i ∧ b_up μ (j + 1) then 7 else 0))) (fun _ v3 => n - v3.toNatClampNeg) ?_ ⟨0, Nat.zero_le _, rfl, rfl, by
    rw [encR_congr (q := fun _ => 0) (fun j _ => by simp)]; rw [encR_zero]; rfl⟩
  rintro P _ _ ⟨i, hi, rfl, hup, rfl⟩ ih
  rw [nI_suc]
  refine pk_le n (i + 1) (fun z => ?_) (fun z => ?_) rfl rfl
  · have e : encR n (fun j => if j < i ∧ b_up μ (j + 1) then 7 else 0) = b_cen n μ := encR_congr (fun j hj => by
      unfold b_lo
      by_cases q : j < i
      · simp [q]
      · have : j + 1 = n := by omega
        rw [this, hv]; simp)
    rw [e]; exact hq
  · refine bit_is hm (by omega) (fun hbit => ?_) (fun hbit => ?_)
    · intro x hx y hy
      have hb2 : b_up μ (i + 1) = true := by
        show (!(b_up μ i) && !(μ.testBit i)) = true
        rw [hup, ← hb i (by omega), hbit]; rfl
      have e0 : (fun j => if j < i ∧ b_up μ (j + 1) then 7 else 0 : Nat → Nat) i = 0 := by simp
      rw [show (7 : Int32) = nI 7 from rfl, or_dig hn (by omega) (hL i) e0 (by omega)] at hx
      rw [show (2 : Int32) = nI 2 from rfl, nI_add] at hy
      subst hx hy
      refine ih _ _ ⟨i + 2, by omega, rfl, b_up_no hb2, ?_⟩ (by rw [nI_clamp (by omega), nI_clamp (by omega)]; omega)
      congr 1
      refine encR_congr (fun j hj => ?_)
      by_cases q : j = i
      · subst q; simp [hb2]
      · by_cases q2 : j = i + 1
        · subst q2; rw [b_up_no hb2]; simp
        · by_cases q3 : j < i
          · simp [q, q3, show j < i + 2 by omega]
          · simp [q, q3, show ¬ j < i + 2 by omega]
    · intro y hy
      subst hy
      have hb2 : b_up μ (i + 1) = false := by
        show (!(b_up μ i) && !(μ.testBit i)) = false
        rw [← hb i (by omega), hbit]; simp
      refine ih _ _ ⟨i + 1, by omega, rfl, hb2, ?_⟩ (by rw [nI_clamp (by omega), nI_clamp (by omega)]; omega)
      congr 1
      refine encR_congr (fun j hj => ?_)
      by_cases q : j = i
      · subst q; rw [hb2]; simp
      · by_cases q3 : j < i
        · simp [q3, show j < i + 1 by omega]
        · simp [q3, show ¬ j < i + 1 by omega]

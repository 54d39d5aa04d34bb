/-! Rows and changes, as functions on places 0 .. n-1. -/
theorem fa_and (a b : Nat) : nI a &&& nI b = nI (a &&& b) := by
  apply Int32.toBitVec_inj.mp
  show (nI a).toBitVec &&& (nI b).toBitVec = (nI (a &&& b)).toBitVec
  apply BitVec.eq_of_getLsbD_eq
  intro i hi
  simp [nI, Int32.toBitVec_ofNat', BitVec.getLsbD_and, BitVec.getLsbD_ofNat, Nat.testBit_and, hi]
theorem fa_or (a b : Nat) : nI a ||| nI b = nI (a ||| b) := by
  apply Int32.toBitVec_inj.mp
  show (nI a).toBitVec ||| (nI b).toBitVec = (nI (a ||| b)).toBitVec
  apply BitVec.eq_of_getLsbD_eq
  intro i hi
  simp [nI, Int32.toBitVec_ofNat', BitVec.getLsbD_or, BitVec.getLsbD_ofNat, Nat.testBit_or, hi]
theorem fa_xor (a b : Nat) : nI a ^^^ nI b = nI (a ^^^ b) := by
  apply Int32.toBitVec_inj.mp
  show (nI a).toBitVec ^^^ (nI b).toBitVec = (nI (a ^^^ b)).toBitVec
  apply BitVec.eq_of_getLsbD_eq
  intro i hi
  simp [nI, Int32.toBitVec_ofNat', BitVec.getLsbD_xor, BitVec.getLsbD_ofNat, Nat.testBit_xor, hi]
def encR : Nat → (Nat → Nat) → Nat
  | 0, _ => 0
  | n + 1, r => encR n r + r n * 8 ^ n
theorem encR_lt : ∀ {n : Nat} {r : Nat → Nat}, (∀ i, i < n → r i < 8) → encR n r < 8 ^ n
  | 0, _, _ => by simp [encR]
  | n + 1, r, h => by
    have h1 := encR_lt (n := n) (r := r) (fun i hi => h i (by omega))
    have h2 := h n (by omega)
    have h3 : r n * 8 ^ n ≤ 7 * 8 ^ n := Nat.mul_le_mul_right _ (by omega)
    show encR n r + r n * 8 ^ n < 8 ^ (n + 1)
    rw [Nat.pow_succ]
    omega
theorem encR_congr : ∀ {n : Nat} {r q : Nat → Nat}, (∀ i, i < n → r i = q i) → encR n r = encR n q
  | 0, _, _, _ => rfl
  | n + 1, r, q, h => by
    show encR n r + r n * 8 ^ n = encR n q + q n * 8 ^ n
    rw [encR_congr (n := n) (fun i hi => h i (by omega)), h n (by omega)]
theorem encR_dig : ∀ {n : Nat} {r : Nat → Nat} {i : Nat}, (∀ i, i < n → r i < 8) → i < n → encR n r / 8 ^ i % 8 = r i
  | 0, _, _, _, h => absurd h (Nat.not_lt_zero _)
  | n + 1, r, i, h, hi => by
    have h1 := encR_lt (n := n) (r := r) (fun i hi => h i (by omega))
    show (encR n r + r n * 8 ^ n) / 8 ^ i % 8 = r i
    rcases Nat.lt_or_ge i n with q | q
    · have e : r n * 8 ^ n = 8 ^ i * (r n * 8 ^ (n - i)) := by
        rw [Nat.mul_left_comm, ← Nat.pow_add]; congr 2; omega
      rw [e, Nat.add_mul_div_left _ _ (Nat.pow_pos (by decide))]
      have e2 : r n * 8 ^ (n - i) = 8 * (r n * 8 ^ (n - i - 1)) := by
        rw [Nat.mul_left_comm, ← Nat.pow_succ']; congr 2; omega
      rw [e2, Nat.add_mul_mod_self_left]
      exact encR_dig (fun i hi => h i (by omega)) q
    · have : i = n := by omega
      subst this
      rw [Nat.add_mul_div_right _ _ (Nat.pow_pos (by decide)), Nat.div_eq_of_lt h1, Nat.zero_add]
      exact Nat.mod_eq_of_lt (h i (by omega))
theorem encR_high {n : Nat} {r : Nat → Nat} {i : Nat} (h : ∀ i, i < n → r i < 8) (hi : n ≤ i) : encR n r / 8 ^ i = 0 := by
  apply Nat.div_eq_of_lt
  exact Nat.lt_of_lt_of_le (encR_lt h) (Nat.pow_le_pow_right (by decide) hi)
/-- the bits of an encoded row -/
theorem encR_tb {n : Nat} {r : Nat → Nat} (h : ∀ i, i < n → r i < 8) (k : Nat) : (encR n r).testBit k = (decide (k / 3 < n) && (r (k / 3)).testBit (k % 3)) := by
  have e : (encR n r).testBit k = (encR n r / 8 ^ (k / 3) % 8).testBit (k % 3) := by
    have e8 : (8 : Nat) ^ (k / 3) = 2 ^ (3 * (k / 3)) := by rw [show (8 : Nat) = 2 ^ 3 from rfl, ← Nat.pow_mul]
    rw [show (8 : Nat) = 2 ^ 3 from rfl] at e8 ⊢
    rw [Nat.testBit_mod_two_pow, e8, Nat.testBit_div_two_pow]
    have : k % 3 < 3 := Nat.mod_lt _ (by decide)
    simp only [this, decide_true, Bool.true_and]
    congr 1
    omega
  rw [e]
  by_cases hk : k / 3 < n
  · rw [encR_dig h hk]; simp [hk]
  · rw [encR_high h (by omega)]; simp [hk]
theorem encR_inj {n : Nat} {r q : Nat → Nat} (h : ∀ i, i < n → r i < 8) (hq : ∀ i, i < n → q i < 8) (e : encR n r = encR n q) : ∀ i, i < n → r i = q i := fun i hi => by
  rw [← encR_dig h hi, e, encR_dig hq hi]
theorem encR_lt24 {n : Nat} {r : Nat → Nat} (hn : n ≤ 8) (h : ∀ i, i < n → r i < 8) : encR n r < 16777216 :=
  Nat.lt_of_lt_of_le (encR_lt h) (Nat.le_trans (Nat.pow_le_pow_right (by decide) hn) (by decide))
/-- shifts by three times a place -/
theorem sh3_u : ∀ i, i < 8 → ((((3 : Int32) * nI i).toUInt32 &&& Int32.toUInt32 31).toBitVec % 32).toNat = 3 * i := by decide +kernel
theorem sh3_l : ∀ i, i < 8 → ((((3 : Int32) * nI i) &&& 31).toBitVec.smod 32).toNat = 3 * i := by decide +kernel
theorem n8 (i : Nat) : (2 : Nat) ^ (3 * i) = 8 ^ i := by rw [Nat.pow_mul]
theorem s_bellAt {n : Nat} {r : Nat → Nat} (hn : n ≤ 8) (h : ∀ i, i < n → r i < 8) {i : Nat} (hi : i < n) {Q : Int32 → Prop} (hq : Q (nI (r i))) : wp_X6_bellAt (nI (encR n r)) (nI i) Q := by
  unfold wp_X6_bellAt
  rw [pk_ushrN (Nat.lt_of_lt_of_le (encR_lt24 hn h) (by decide)) _ (3 * i) (sh3_u i (by omega)), pk_andN (Nat.lt_of_le_of_lt (Nat.div_le_self _ _) (Nat.lt_of_lt_of_le (encR_lt24 hn h) (by decide))) 3 (by decide), n8]
  show Q (nI (encR n r / 8 ^ i % 8))
  rw [encR_dig h hi]
  exact hq
/-- a permutation of 0 .. n-1 -/
def isP (n : Nat) (r : Nat → Nat) : Prop := (∀ i, i < n → r i < n) ∧ ∀ i j, i < n → j < n → r i = r j → i = j
theorem isP.lt8 {n : Nat} {r : Nat → Nat} (h : isP n r) (hn : n ≤ 8) : ∀ i, i < n → r i < 8 := fun i hi => Nat.lt_of_lt_of_le (h.1 i hi) hn
theorem isP_id (n : Nat) : isP n (fun i => i) := ⟨fun _ h => h, fun _ _ _ _ h => h⟩
theorem isP.comp {n : Nat} {r q : Nat → Nat} (h : isP n r) (hq : isP n q) : isP n (fun i => r (q i)) := ⟨fun i hi => h.1 _ (hq.1 i hi), fun i j hi hj e => hq.2 i j hi hj (h.2 _ _ (hq.1 i hi) (hq.1 j hj) e)⟩
theorem hL1_in {A : Type} {B : (A → Prop) → A → Prop} (I : A → Prop) (μ : A → Nat) (h : ∀ (P : A → Prop) a, I a → (∀ b, I b → μ b < μ a → P b) → B P a) {a : A} (hI : I a) : hL1 B a := by
  intro P hP
  have key : ∀ n a, μ a < n → I a → P a := by
    intro n
    induction n with
    | zero => intro a h1; exact absurd h1 (Nat.not_lt_zero _)
    | succ n ih => intro a h1 h2; exact hP _ (h P a h2 (fun b hb hm => ih b (by omega) hb))
  exact key _ a (Nat.lt_succ_self _) hI
theorem hL2_in {A A2 : Type} {B : (A → A2 → Prop) → A → A2 → Prop} (I : A → A2 → Prop) (μ : A → A2 → Nat) (h : ∀ (P : A → A2 → Prop) a a2, I a a2 → (∀ b b2, I b b2 → μ b b2 < μ a a2 → P b b2) → B P a a2) {a : A} {a2 : A2} (hI : I a a2) : hL2 B a a2 := by
  intro P hP
  have key : ∀ n a a2, μ a a2 < n → I a a2 → P a a2 := by
    intro n
    induction n with
    | zero => intro a a2 h1; exact absurd h1 (Nat.not_lt_zero _)
    | succ n ih => intro a a2 h1 h2; exact hP _ _ (h P a a2 h2 (fun b b2 hb hm => ih b b2 (by omega) hb))
  exact key _ a a2 (Nat.lt_succ_self _) hI
theorem hL3_in {A A2 A3 : Type} {B : (A → A2 → A3 → Prop) → A → A2 → A3 → Prop} (I : A → A2 → A3 → Prop) (μ : A → A2 → A3 → Nat) (h : ∀ (P : A → A2 → A3 → Prop) a a2 a3, I a a2 a3 → (∀ b b2 b3, I b b2 b3 → μ b b2 b3 < μ a a2 a3 → P b b2 b3) → B P a a2 a3) {a : A} {a2 : A2} {a3 : A3} (hI : I a a2 a3) : hL3 B a a2 a3 := by
  intro P hP
  have key : ∀ n a a2 a3, μ a a2 a3 < n → I a a2 a3 → P a a2 a3 := by
    intro n
    induction n with
    | zero => intro a a2 a3 h1; exact absurd h1 (Nat.not_lt_zero _)
    | succ n ih => intro a a2 a3 h1 h2; exact hP _ _ _ (h P a a2 a3 h2 (fun b b2 b3 hb hm => ih b b2 b3 (by omega) hb))
  exact key _ a a2 a3 (Nat.lt_succ_self _) hI
/-- what a loop over i = 0 .. n-1 asks -/
theorem or_at {n : Nat} {q : Nat → Nat} {b v : Nat} (hb : b < n) (hq : ∀ i, i < n → q i < 8) (h0 : q b = 0) (hv : v < 8) : encR n q ||| v * 8 ^ b = encR n (fun j => if j = b then v else q j) := by
  apply Nat.eq_of_testBit_eq
  intro k
  have h2 : ∀ i, i < n → (fun j => if j = b then v else q j) i < 8 := fun i hi => by
    show (if i = b then v else q i) < 8
    split
    · exact hv
    · exact hq i hi
  rw [Nat.testBit_or, encR_tb hq, encR_tb h2, show v * 8 ^ b = 2 ^ (3 * b) * v by rw [n8, Nat.mul_comm], Nat.testBit_two_pow_mul]
  by_cases hk : k / 3 = b
  · have e1 : 3 * b ≤ k := by omega
    have e2 : k - 3 * b = k % 3 := by omega
    simp [hk, h0, e1, e2, hb]
  · by_cases h3 : 3 * b ≤ k
    · have h4 : 3 ≤ k - 3 * b := by omega
      have h5 : v.testBit (k - 3 * b) = false := Nat.testBit_lt_two_pow (Nat.lt_of_lt_of_le hv (Nat.le_trans (by decide : (8 : Nat) ≤ 2 ^ 3) (Nat.pow_le_pow_right (by decide) h4)))
      simp [hk, h5]
    · simp [hk, h3]
theorem encR_zero : ∀ n, encR n (fun _ => 0) = 0
  | 0 => rfl
  | n + 1 => by show encR n (fun _ => 0) + 0 * 8 ^ n = 0; rw [encR_zero n, Nat.zero_mul]
theorem shl3 {v i : Nat} (hi : i < 8) (hv : v < 8) : nI v <<< (((3 : Int32) * nI i) &&& 31) = nI (v * 8 ^ i) := by
  rw [pk_shlN _ (3 * i) (sh3_l i hi) ?_, n8]
  rw [n8]
  have : 8 ^ i ≤ 8 ^ 7 := Nat.pow_le_pow_right (by decide) (by omega)
  have h2 : v * 8 ^ i ≤ 7 * 8 ^ 7 := Nat.mul_le_mul (by omega) this
  exact Nat.lt_of_le_of_lt h2 (by decide)
/-- one more digit into a row that is written so far -/
theorem or_dig {n i : Nat} {q : Nat → Nat} {v : Nat} (hn : n ≤ 8) (hi : i < n) (hq : ∀ i, i < n → q i < 8) (h0 : q i = 0) (hv : v < 8) : nI (encR n q) ||| (nI v <<< (((3 : Int32) * nI i) &&& 31)) = nI (encR n (fun j => if j = i then v else q j)) := by
  rw [shl3 (by omega) hv, fa_or, or_at hi hq h0 hv]
theorem nI_suc (i : Nat) : nI i + (1 : Int32) = nI (i + 1) := nI_1 i
theorem le_nI {a b : Nat} (ha : a < 2 ^ 31) (hb : b < 2 ^ 31) : nI a ≤ nI b ↔ a ≤ b := nI_leI ha hb
/-- a row's first i places -/
def upto (i : Nat) (r : Nat → Nat) : Nat → Nat := fun j => if j < i then r j else 0
theorem upto_8 {n i : Nat} {r : Nat → Nat} (h : ∀ j, j < n → r j < 8) : ∀ j, j < n → upto i r j < 8 := fun j hj => by
  unfold upto; split
  · exact h j hj
  · decide
theorem upto_suc {n i : Nat} {r : Nat → Nat} : encR n (fun j => if j = i then r i else upto i r j) = encR n (upto (i + 1) r) := encR_congr (fun j _ => by
  unfold upto
  by_cases h : j = i
  · subst h; simp
  · rw [if_neg h]
    by_cases h2 : j < i
    · rw [if_pos h2, if_pos (by omega)]
    · rw [if_neg h2, if_neg (by omega)])
theorem upto_0 (n : Nat) (r : Nat → Nat) : encR n (upto 0 r) = 0 := by
  rw [encR_congr (q := fun _ => 0) (fun j _ => by unfold upto; rw [if_neg (Nat.not_lt_zero _)])]
  exact encR_zero n
theorem upto_n {n : Nat} {r : Nat → Nat} : encR n (upto n r) = encR n r := encR_congr (fun j hj => by unfold upto; rw [if_pos hj])
theorem upto_self {i : Nat} {r : Nat → Nat} : upto i r i = 0 := by unfold upto; rw [if_neg (Nat.lt_irrefl _)]
theorem nI_0' : (0 : Int32) = nI 0 := rfl
theorem s_rounds {n : Nat} (hn : n ≤ 8) {Q : Int32 → Prop} (hq : Q (nI (encR n (fun i => i)))) : wp_X6_rounds (nI n) Q := by
  unfold wp_X6_rounds
  refine hL2_in (fun v1 v2 => ∃ i, i ≤ n ∧ v2 = nI i ∧ v1 = nI (encR n (upto i (fun j => j)))) (fun _ v2 => n - v2.toNatClampNeg) ?_ ⟨0, Nat.zero_le _, rfl, by rw [upto_0]; rfl⟩
  rintro P _ _ ⟨i, hi, rfl, rfl⟩ ih
  refine ⟨fun h => ?_, fun h => ?_⟩
  · have : n ≤ i := (le_nI (by omega) (by omega)).mp h
    have e : i = n := by omega
    subst e
    rw [upto_n]
    exact hq
  · have h2 : i < n := by
      rcases Nat.lt_or_ge i n with z | z
      · exact z
      · exact absurd ((le_nI (by omega) (by omega)).mpr z) h
    intro x hx y hy
    rw [or_dig hn h2 (upto_8 (fun j hj => by omega)) upto_self (by omega), show (encR n fun j => if j = i then i else upto i (fun j => j) j) = encR n (upto (i + 1) (fun j => j)) from upto_suc (r := fun j => j)] at hx
    rw [nI_suc] at hy
    subst hx hy
    exact ih _ _ ⟨i + 1, h2, rfl, rfl⟩ (by rw [nI_clamp (by omega), nI_clamp (by omega)]; omega)
/-- a row as its number -/
def numR : Nat → (Nat → Nat) → Nat
  | 0, _ => 0
  | n + 1, r => numR n r * 10 + r n + 1
theorem nI_lit10 : (10 : Int32) = nI 10 := rfl
theorem nlt_of {i n : Nat} (hi : i < 2 ^ 31) (hn : n < 2 ^ 31) (h : ¬ nI n ≤ nI i) : i < n := by
  rcases Nat.lt_or_ge i n with z | z
  · exact z
  · exact absurd ((le_nI hn hi).mpr z) h
theorem s_told {n : Nat} {r : Nat → Nat} (hn : n ≤ 8) (h8 : ∀ i, i < n → r i < 8) {Q : Int32 → Prop} (hq : Q (nI (numR n r))) : wp_X6_told (nI (encR n r)) (nI n) Q := by
  unfold wp_X6_told
  refine hL2_in (fun v2 v3 => ∃ i, i ≤ n ∧ v3 = nI i ∧ v2 = nI (numR i r)) (fun _ v3 => n - v3.toNatClampNeg) ?_ ⟨0, Nat.zero_le _, rfl, rfl⟩
  rintro P _ _ ⟨i, hi, rfl, rfl⟩ ih
  refine ⟨fun h => ?_, fun h => ?_⟩
  · have : n ≤ i := (le_nI (by omega) (by omega)).mp h
    have e : i = n := by omega
    subst e
    exact hq
  · have h2 : i < n := nlt_of (by omega) (by omega) h
    refine s_bellAt hn h8 h2 ?_
    intro x hx y hy
    rw [nI_lit10, pk_mul, nI_add, nI_suc] at hx
    rw [nI_suc] at hy
    subst hx hy
    exact ih _ _ ⟨i + 1, h2, rfl, rfl⟩ (by rw [nI_clamp (by omega), nI_clamp (by omega)]; omega)
theorem s_fromHead {n : Nat} {h r : Nat → Nat} (hn : n ≤ 8) (hh : ∀ i, i < n → h i < 8) (hr : ∀ i, i < n → r i < n) {Q : Int32 → Prop} (hq : Q (nI (encR n (fun i => h (r i))))) : wp_X6_fromHead (nI (encR n h)) (nI (encR n r)) (nI n) Q := by
  unfold wp_X6_fromHead
  have hr8 : ∀ i, i < n → r i < 8 := fun i hi => Nat.lt_of_lt_of_le (hr i hi) hn
  have hc8 : ∀ i, i < n → (fun i => h (r i)) i < 8 := fun i hi => hh _ (hr i hi)
  refine hL2_in (fun v2 v3 => ∃ i, i ≤ n ∧ v3 = nI i ∧ v2 = nI (encR n (upto i (fun i => h (r i))))) (fun _ v3 => n - v3.toNatClampNeg) ?_ ⟨0, Nat.zero_le _, rfl, by rw [upto_0]; rfl⟩
  rintro P _ _ ⟨i, hi, rfl, rfl⟩ ih
  refine ⟨fun z => ?_, fun z => ?_⟩
  · have : n ≤ i := (le_nI (by omega) (by omega)).mp z
    have e : i = n := by omega
    subst e
    rw [upto_n]
    exact hq
  · have h2 : i < n := nlt_of (by omega) (by omega) z
    refine s_bellAt hn hr8 h2 ?_
    refine s_bellAt hn hh (hr i h2) ?_
    intro x hx y hy
    rw [or_dig hn h2 (upto_8 hc8) upto_self (hc8 i h2)] at hx
    rw [show (encR n fun j => if j = i then h (r i) else upto i (fun i => h (r i)) j) = encR n (upto (i + 1) (fun i => h (r i))) from upto_suc] at hx
    rw [nI_suc] at hy
    subst hx hy
    exact ih _ _ ⟨i + 1, h2, rfl, rfl⟩ (by rw [nI_clamp (by omega), nI_clamp (by omega)]; omega)
theorem s_placeOf {n : Nat} {r : Nat → Nat} {b i : Nat} (hn : n ≤ 8) (h : isP n r) (hi : i < n) (hb : r i = b) {Q : Int32 → Prop} (hq : Q (nI i)) : wp_X6_placeOf (nI (encR n r)) (nI b) (nI n) Q := by
  unfold wp_X6_placeOf
  have hb8 : b < 8 := by rw [← hb]; exact h.lt8 hn i hi
  refine hL1_in (fun v3 => ∃ k, k ≤ i ∧ v3 = nI k) (fun v3 => n - v3.toNatClampNeg) ?_ ⟨0, Nat.zero_le _, rfl⟩
  rintro P _ ⟨k, hk, rfl⟩ ih
  refine ⟨fun z => ?_, fun z => ?_⟩
  · have : n ≤ k := (le_nI (by omega) (by omega)).mp z
    omega
  · refine s_bellAt hn (h.lt8 hn) (by omega) ?_
    have hk8 := h.lt8 hn k (by omega)
    refine ⟨fun z2 => ?_, fun z2 => ?_⟩
    · intro x hx
      rw [nI_suc] at hx
      subst hx
      have hne : k ≠ i := fun e => z2 (by rw [e, hb])
      exact ih _ ⟨k + 1, by omega, rfl⟩ (by rw [nI_clamp (by omega), nI_clamp (by omega)]; omega)
    · have e : r k = b := (nI_eq (by omega) (by omega)).mp z2
      have : k = i := h.2 k i (by omega) hi (by rw [e, hb])
      subst this
      exact hq

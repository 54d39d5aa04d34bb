/-! The rank of a row: how many rows are lower. -/
def rkd (r : Nat → Nat) (i : Nat) : Nat := r i - nb (fun k => decide (r k < r i)) i
def rkp (n : Nat) (r : Nat → Nat) : Nat → Nat
  | 0 => 0
  | i + 1 => rkp n r i * (n - i) + rkd r i
def rk (n : Nat) (r : Nat → Nat) : Nat := rkp n r n
theorem nb_sub {P : Nat → Bool} {b : Nat} (h : P b = false) {c : Nat} (hc : b < c) : nb P c + 1 ≤ nb P b + (c - b) := by
  have e : nb P c = nb P b + nb (fun j => P (b + j)) (c - b) := by rw [← nb_add]; congr 1; omega
  have e2 : nb (fun j => P (b + j)) (c - b) = nb (fun j => P (b + j)) 1 + nb (fun j => P (b + (1 + j))) (c - b - 1) := by rw [← nb_add (P := fun j => P (b + j))]; congr 1; omega
  have e3 : nb (fun j => P (b + j)) 1 = 0 := by simp [nb, h]
  have := nb_le (fun j => P (b + (1 + j))) (c - b - 1)
  omega
theorem rkd_le {r : Nat → Nat} {i : Nat} (hi : ∀ a b, a < i → b < i → r a = r b → a = b) : nb (fun k => decide (r k < r i)) i ≤ r i := by
  rw [← nb_inR hi]; exact nb_le _ _
theorem rkd_rest {n : Nat} {r : Nat → Nat} (h : isP n r) {i : Nat} (hi : i < n) : nb (fun t => decide (r (i + 1 + t) < r i)) (n - (i + 1)) = rkd r i := by
  have e := perm_cnt h (Nat.le_of_lt (h.1 i hi))
  have e1 : nb (fun k => decide (r k < r i)) n = nb (fun k => decide (r k < r i)) (i + 1) + nb (fun t => decide (r (i + 1 + t) < r i)) (n - (i + 1)) := by
    rw [← nb_add (P := fun k => decide (r k < r i))]; congr 1; omega
  have e2 : nb (fun k => decide (r k < r i)) (i + 1) = nb (fun k => decide (r k < r i)) i := by
    show nb _ i + (if decide (r i < r i) = true then 1 else 0) = _
    simp
  unfold rkd
  omega
theorem rkd_lt {n : Nat} {r : Nat → Nat} (h : isP n r) {i : Nat} (hi : i < n) : rkd r i < n - i := by
  rw [← rkd_rest h hi]
  have := nb_le (fun t => decide (r (i + 1 + t) < r i)) (n - (i + 1))
  omega
def dsc (n : Nat) : Nat → Nat
  | 0 => 1
  | i + 1 => dsc n i * (n - i)
theorem rkp_lt {n : Nat} {r : Nat → Nat} (h : isP n r) : ∀ {i : Nat}, i ≤ n → rkp n r i < dsc n i
  | 0, _ => Nat.one_pos
  | i + 1, hi => by
    have h1 := rkp_lt h (i := i) (by omega)
    have h2 := rkd_lt h (i := i) (by omega)
    show rkp n r i * (n - i) + rkd r i < dsc n i * (n - i)
    have h3 : (rkp n r i + 1) * (n - i) ≤ dsc n i * (n - i) := Nat.mul_le_mul_right _ h1
    rw [Nat.add_mul, Nat.one_mul] at h3
    omega
theorem dsc_le {n i : Nat} (hi : i ≤ n) (hn : n ≤ 8) : dsc n i ≤ 40320 := by
  have H : ∀ n, n ≤ 8 → ∀ i, i ≤ n → dsc n i ≤ 40320 := by decide
  exact H n hn i hi
theorem rk_lt {n : Nat} {r : Nat → Nat} (hn : n ≤ 8) (h : isP n r) : rk n r < 40320 := Nat.lt_of_lt_of_le (rkp_lt h (Nat.le_refl n)) (dsc_le (Nat.le_refl n) hn)
/-- the bells used so far, as bits -/
def us (r : Nat → Nat) : Nat → Nat
  | 0 => 0
  | i + 1 => us r i ||| 2 ^ r i
theorem us_tb {r : Nat → Nat} {b : Nat} : ∀ {i : Nat}, (us r i).testBit b = inR r i b
  | 0 => Nat.zero_testBit b
  | i + 1 => by
    show (us r i ||| 2 ^ r i).testBit b = (inR r i b || decide (r i = b))
    rw [Nat.testBit_or, us_tb (i := i), Nat.testBit_two_pow]
theorem us_lt {r : Nat → Nat} : ∀ {i : Nat}, (∀ k, k < i → r k < 8) → us r i < 256
  | 0, _ => by show 0 < 256; decide
  | i + 1, h => by
    have h1 := us_lt (r := r) (i := i) (fun k hk => h k (by omega))
    have h2 : 2 ^ r i < 2 ^ 8 := Nat.pow_lt_pow_right (by decide) (h i (by omega))
    exact Nat.or_lt_two_pow (n := 8) h1 h2
def bcv (a0 : Int32) : Int32 :=
  let x1 := (a0 - ((((a0).toUInt32 >>> (((1 : Int32)).toUInt32 &&& Int32.toUInt32 31)).toInt32) &&& (1431655765 : Int32)))
  let x2 := ((x1 &&& (858993459 : Int32)) + ((((x1).toUInt32 >>> (((2 : Int32)).toUInt32 &&& Int32.toUInt32 31)).toInt32) &&& (858993459 : Int32)))
  let x3 := ((x2 + (((x2).toUInt32 >>> (((4 : Int32)).toUInt32 &&& Int32.toUInt32 31)).toInt32)) &&& (252645135 : Int32))
  let x4 := (x3 + (((x3).toUInt32 >>> (((8 : Int32)).toUInt32 &&& Int32.toUInt32 31)).toInt32))
  let x5 := (x4 + (((x4).toUInt32 >>> (((16 : Int32)).toUInt32 &&& Int32.toUInt32 31)).toInt32))
  x5 &&& (63 : Int32)
theorem bcv_ok : ∀ x, x < 256 → bcv (nI x) = nI (nb (fun j => x.testBit j) 8) := by decide +kernel
theorem s_bitCount {x : Nat} (hx : x < 256) {Q : Int32 → Prop} (hQ : Q (nI (nb (fun j => x.testBit j) 8))) : wp_J6_bitCount_0f7a4 (nI x) Q := by
  unfold wp_J6_bitCount_0f7a4
  intro x1 h1 x2 h2 x3 h3 x4 h4 x5 h5
  subst h1 h2 h3 h4 h5
  rw [← bcv_ok x hx] at hQ
  exact hQ
theorem shl1 {b : Nat} (hb : b < 31) : (1 : Int32) <<< (nI b &&& 31) = nI (2 ^ b) := by
  rw [show (1 : Int32) = nI 1 from rfl, pk_shlN _ b (sh1_l b (by omega)) ?_, Nat.one_mul]
  rw [Nat.one_mul]
  exact Nat.pow_lt_pow_right (by decide) (by omega)
theorem nb_mod {x b : Nat} (hb : b ≤ 8) : nb (fun j => (x % 2 ^ b).testBit j) 8 = nb (fun j => x.testBit j) b := by
  have e : nb (fun j => (x % 2 ^ b).testBit j) 8 = nb (fun j => (x % 2 ^ b).testBit j) b + nb (fun j => (x % 2 ^ b).testBit (b + j)) (8 - b) := by rw [← nb_add (P := fun j => (x % 2 ^ b).testBit j)]; congr 1; omega
  have e2 : nb (fun j => (x % 2 ^ b).testBit (b + j)) (8 - b) = 0 := by
    rw [nb_congr (R := fun _ => false) (fun j _ => by rw [Nat.testBit_mod_two_pow, decide_eq_false (by omega), Bool.false_and])]
    have : ∀ c, nb (fun _ => false) c = 0 := fun c => by
      induction c with
      | zero => rfl
      | succ c ih => show nb _ c + 0 = 0; rw [ih]
    exact this _
  rw [e, e2, Nat.add_zero]
  exact nb_congr (fun j hj => by rw [Nat.testBit_mod_two_pow]; simp [hj])
theorem s_rank {n : Nat} {r : Nat → Nat} (hn : n ≤ 8) (h : isP n r) {Q : Int32 → Prop} (hQ : Q (nI (rk n r))) : wp_X6_rank (nI (encR n r)) (nI n) Q := by
  unfold wp_X6_rank
  refine hL3_in (fun v2 v3 v4 => ∃ i, i ≤ n ∧ v4 = nI i ∧ v2 = nI (rkp n r i) ∧ v3 = nI (us r i)) (fun _ _ v4 => n - v4.toNatClampNeg) ?_ ⟨0, Nat.zero_le _, rfl, rfl, rfl⟩
  rintro P _ _ _ ⟨i, hi, rfl, rfl, rfl⟩ ih
  refine pk_le n i (fun z => ?_) (fun z => ?_) rfl rfl
  · have e : i = n := by omega
    subst e; exact hQ
  · refine s_bellAt hn (h.lt8 hn) z ?_
    have h8 := h.lt8 hn i z
    have hus := us_lt (r := r) (i := i) (fun k hk => h.lt8 hn k (by omega))
    have hinj : ∀ a b, a < i → b < i → r a = r b → a = b := fun a b ha hb => h.2 a b (by omega) (by omega)
    have hmask : (1 : Int32) <<< (nI (r i) &&& 31) - 1 = nI (2 ^ r i - 1) := by
      rw [shl1 (by omega), show (1 : Int32) = nI 1 from rfl, pk_sub (Nat.one_le_two_pow)]
    have hp : 2 ^ r i ≤ 2 ^ 7 := Nat.pow_le_pow_right (by decide) (by omega)
    rw [hmask, pk_andN (by omega) (r i) (by rw [pk_tn (by omega)])]
    refine s_bitCount (Nat.lt_of_le_of_lt (Nat.mod_le _ _) hus) ?_
    rw [nb_mod (by omega), nb_congr (R := inR r i) (fun j _ => us_tb), nb_inR hinj]
    intro x hx y hy k hk
    rw [pk_sub (by omega), pk_mul, nI_add, pk_sub (Nat.le_trans (rkd_le hinj) (Nat.le_add_left _ _)), Nat.add_sub_assoc (rkd_le hinj)] at hx
    rw [shl1 (by omega), fa_or] at hy
    rw [nI_suc] at hk
    subst hx hy hk
    exact ih _ _ _ ⟨i + 1, by omega, rfl, rfl, rfl⟩ (by rw [nI_clamp (by omega), nI_clamp (by omega)]; omega)
theorem rkd_mono {r q : Nat → Nat} {n i : Nat} (hr : isP n r) (hq : isP n q) (hi : i < n) (he : ∀ k, k < i → r k = q k) (hl : r i < q i) : rkd r i < rkd q i := by
  have jr : ∀ a b, a < i → b < i → r a = r b → a = b := fun a b ha hb => hr.2 a b (by omega) (by omega)
  have jq : ∀ a b, a < i → b < i → q a = q b → a = b := fun a b ha hb => hq.2 a b (by omega) (by omega)
  have e1 : nb (fun k => decide (q k < q i)) i = nb (inR r i) (q i) := by
    rw [← nb_inR jq]
    refine nb_congr (fun j _ => ?_)
    have : ∀ i', i' ≤ i → inR q i' j = inR r i' j := fun i' => by
      induction i' with
      | zero => intro _; rfl
      | succ m ih => intro hm; show (inR q m j || decide (q m = j)) = (inR r m j || decide (r m = j)); rw [ih (by omega), he m (by omega)]
    exact this i (Nat.le_refl i)
  have e2 : nb (fun k => decide (r k < r i)) i = nb (inR r i) (r i) := (nb_inR jr).symm
  have hno : inR r i (r i) = false := inR_no (fun k hk e => by have := hr.2 k i (by omega) hi e; omega)
  have h3 := nb_sub hno hl
  have h4 := nb_le (inR r i) (r i)
  have h5 := nb_le (inR r i) (q i)
  unfold rkd
  rw [e1, e2]
  omega
theorem rkd_congr {r q : Nat → Nat} {i : Nat} (he : ∀ k, k ≤ i → r k = q k) : rkd r i = rkd q i := by
  unfold rkd
  rw [he i (Nat.le_refl i), nb_congr (R := fun k => decide (q k < q i)) (fun k hk => by rw [he k (by omega)])]
theorem rkp_congr {n : Nat} {r q : Nat → Nat} : ∀ {i : Nat}, (∀ k, k < i → r k = q k) → rkp n r i = rkp n q i
  | 0, _ => rfl
  | i + 1, h => by
    show rkp n r i * (n - i) + rkd r i = rkp n q i * (n - i) + rkd q i
    rw [rkp_congr (i := i) (fun k hk => h k (by omega)), rkd_congr (fun k hk => h k (by omega))]
theorem numR_congr {r q : Nat → Nat} : ∀ {i : Nat}, (∀ k, k < i → r k = q k) → numR i r = numR i q
  | 0, _ => rfl
  | i + 1, h => by
    show numR i r * 10 + r i + 1 = numR i q * 10 + q i + 1
    rw [numR_congr (i := i) (fun k hk => h k (by omega)), h i (by omega)]
theorem lex_from {n : Nat} {r q : Nat → Nat} (hn : n ≤ 8) (hr : isP n r) (hq : isP n q) {i : Nat} (hi : i < n) (he : ∀ k, k < i → r k = q k) (hl : r i < q i) : ∀ j, i + 1 + j ≤ n → rkp n r (i + 1 + j) < rkp n q (i + 1 + j) ∧ numR (i + 1 + j) r < numR (i + 1 + j) q
  | 0, _ => by
    have h1 := rkd_mono hr hq hi he hl
    refine ⟨?_, ?_⟩
    · show rkp n r i * (n - i) + rkd r i < rkp n q i * (n - i) + rkd q i
      rw [rkp_congr he]; omega
    · show numR i r * 10 + r i + 1 < numR i q * 10 + q i + 1
      rw [numR_congr he]; omega
  | j + 1, hj => by
    obtain ⟨h1, h2⟩ := lex_from hn hr hq hi he hl j (by omega)
    refine ⟨?_, ?_⟩
    · show rkp n r (i + 1 + j) * (n - (i + 1 + j)) + rkd r (i + 1 + j) < rkp n q (i + 1 + j) * (n - (i + 1 + j)) + rkd q (i + 1 + j)
      have h3 := rkd_lt hr (i := i + 1 + j) (by omega)
      have h4 : (rkp n r (i + 1 + j) + 1) * (n - (i + 1 + j)) ≤ rkp n q (i + 1 + j) * (n - (i + 1 + j)) := Nat.mul_le_mul_right _ h1
      rw [Nat.add_mul, Nat.one_mul] at h4
      omega
    · show numR (i + 1 + j) r * 10 + r (i + 1 + j) + 1 < numR (i + 1 + j) q * 10 + q (i + 1 + j) + 1
      have h3 := hr.lt8 hn (i + 1 + j) (by omega)
      omega
theorem lex_one {n : Nat} {r q : Nat → Nat} (hn : n ≤ 8) (hr : PR n r) (hq : PR n q) (hne : r ≠ q) : (rk n r < rk n q ∧ numR n r < numR n q) ∨ (rk n q < rk n r ∧ numR n q < numR n r) := by
  have hex : ∃ i, i < n ∧ r i ≠ q i := Classical.byContradiction (fun h => hne (PR_ext hr hq (fun i hi => Classical.byContradiction (fun h2 => h ⟨i, hi, h2⟩))))
  obtain ⟨i, ⟨h1, h2⟩, h3⟩ := pk_least _ hex
  have he : ∀ k, k < i → r k = q k := fun k hk => Classical.byContradiction (fun h4 => h3 k hk ⟨by omega, h4⟩)
  have e : i + 1 + (n - (i + 1)) = n := by omega
  rcases Nat.lt_or_gt_of_ne h2 with z | z
  · have := lex_from hn hr.isP hq.isP h1 he z (n - (i + 1)) (by omega)
    rw [e] at this
    exact Or.inl this
  · have := lex_from hn hq.isP hr.isP h1 (fun k hk => (he k hk).symm) z (n - (i + 1)) (by omega)
    rw [e] at this
    exact Or.inr this
theorem rk_inj {n : Nat} {r q : Nat → Nat} (hn : n ≤ 8) (hr : PR n r) (hq : PR n q) (e : rk n r = rk n q) : r = q := Classical.byContradiction (fun h => by
  rcases lex_one hn hr hq h with ⟨h1, -⟩ | ⟨h1, -⟩ <;> omega)
theorem num_inj {n : Nat} {r q : Nat → Nat} (hn : n ≤ 8) (hr : PR n r) (hq : PR n q) (e : numR n r = numR n q) : r = q := Classical.byContradiction (fun h => by
  rcases lex_one hn hr hq h with ⟨-, h1⟩ | ⟨-, h1⟩ <;> omega)
theorem num_rk {n : Nat} {r q : Nat → Nat} (hn : n ≤ 8) (hr : PR n r) (hq : PR n q) : numR n r < numR n q ↔ rk n r < rk n q := by
  by_cases h : r = q
  · subst h; omega
  · rcases lex_one hn hr hq h with ⟨h1, h2⟩ | ⟨h1, h2⟩ <;> omega
theorem numR_lt {n : Nat} {r : Nat → Nat} (h : ∀ i, i < n → r i < 8) : numR n r < 10 ^ n := by
  induction n with
  | zero => show 0 < 10 ^ 0; decide
  | succ n ih =>
    have h1 := ih (fun i hi => h i (by omega))
    have h2 := h n (by omega)
    show numR n r * 10 + r n + 1 < 10 ^ (n + 1)
    rw [Nat.pow_succ]; omega
theorem numR_lt31 {n : Nat} {r : Nat → Nat} (hn : n ≤ 8) (h : ∀ i, i < n → r i < 8) : numR n r < 100000001 :=
  Nat.lt_of_lt_of_le (numR_lt h) (Nat.le_trans (Nat.pow_le_pow_right (by decide) hn) (by decide))

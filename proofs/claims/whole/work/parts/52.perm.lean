/-! Counting; a row has every bell; the order of a row. -/
def nb (P : Nat → Bool) : Nat → Nat
  | 0 => 0
  | b + 1 => nb P b + (if P b then 1 else 0)
theorem nb_le (P : Nat → Bool) : ∀ b, nb P b ≤ b
  | 0 => Nat.le_refl 0
  | b + 1 => by
    have h := nb_le P b
    show nb P b + (if P b then 1 else 0) ≤ b + 1
    split <;> omega
theorem nb_congr {P R : Nat → Bool} : ∀ {b : Nat}, (∀ j, j < b → P j = R j) → nb P b = nb R b
  | 0, _ => rfl
  | b + 1, h => by
    show nb P b + (if P b then 1 else 0) = nb R b + (if R b then 1 else 0)
    rw [nb_congr (b := b) (fun j hj => h j (by omega)), h b (by omega)]
theorem nb_all {P : Nat → Bool} : ∀ {b : Nat}, nb P b = b → ∀ j, j < b → P j = true
  | 0, _, j, hj => absurd hj (Nat.not_lt_zero j)
  | b + 1, h, j, hj => by
    have h1 := nb_le P b
    have h2 : nb P b + (if P b then 1 else 0) = b + 1 := h
    by_cases hb : P b = true
    · rw [if_pos hb] at h2
      by_cases e : j = b
      · subst e; exact hb
      · exact nb_all (b := b) (by omega) j (by omega)
    · rw [if_neg hb] at h2; omega
theorem nb_true {P : Nat → Bool} : ∀ {b : Nat}, (∀ j, j < b → P j = true) → nb P b = b
  | 0, _ => rfl
  | b + 1, h => by
    show nb P b + (if P b then 1 else 0) = b + 1
    rw [nb_true (b := b) (fun j hj => h j (by omega)), if_pos (h b (by omega))]
theorem nb_add {P : Nat → Bool} (a : Nat) : ∀ b, nb P (a + b) = nb P a + nb (fun j => P (a + j)) b
  | 0 => rfl
  | b + 1 => by
    show nb P (a + b) + (if P (a + b) then 1 else 0) = nb P a + (nb (fun j => P (a + j)) b + (if P (a + b) then 1 else 0))
    rw [nb_add a b]; omega
theorem nb_or {P : Nat → Bool} {c : Nat} (hc : P c = false) : ∀ b, nb (fun j => P j || decide (c = j)) b = nb P b + (if c < b then 1 else 0)
  | 0 => by simp [nb]
  | b + 1 => by
    show nb (fun j => P j || decide (c = j)) b + (if (P b || decide (c = b)) = true then 1 else 0) = nb P b + (if P b then 1 else 0) + (if c < b + 1 then 1 else 0)
    rw [nb_or hc b]
    by_cases e : c = b
    · subst e
      simp [hc]
    · by_cases h : c < b
      · simp [e, h, show c < b + 1 by omega]; omega
      · simp [e, h, show ¬ c < b + 1 by omega]
/-- one of the first i places holds j -/
def inR (r : Nat → Nat) : Nat → Nat → Bool
  | 0, _ => false
  | i + 1, j => inR r i j || decide (r i = j)
theorem inR_iff {r : Nat → Nat} {j : Nat} : ∀ {i : Nat}, inR r i j = true ↔ ∃ k, k < i ∧ r k = j
  | 0 => ⟨fun h => (by cases h), fun ⟨k, h, _⟩ => absurd h (Nat.not_lt_zero k)⟩
  | i + 1 => by
    show (inR r i j || decide (r i = j)) = true ↔ _
    rw [Bool.or_eq_true, inR_iff (i := i), decide_eq_true_iff]
    constructor
    · rintro (⟨k, h1, h2⟩ | h)
      · exact ⟨k, by omega, h2⟩
      · exact ⟨i, by omega, h⟩
    · rintro ⟨k, h1, h2⟩
      by_cases e : k = i
      · subst e; exact Or.inr h2
      · exact Or.inl ⟨k, by omega, h2⟩
theorem inR_no {r : Nat → Nat} {i j : Nat} (h : ∀ k, k < i → r k ≠ j) : inR r i j = false := by
  cases e : inR r i j with
  | false => rfl
  | true =>
    obtain ⟨k, h1, h2⟩ := inR_iff.mp e
    exact absurd h2 (h k h1)
theorem nb_inR {r : Nat → Nat} {B : Nat} : ∀ {i : Nat}, (∀ a b, a < i → b < i → r a = r b → a = b) → nb (inR r i) B = nb (fun k => decide (r k < B)) i
  | 0, _ => by
    have : ∀ b, nb (inR r 0) b = 0 := fun b => by
      induction b with
      | zero => rfl
      | succ b ih => show nb (inR r 0) b + (if inR r 0 b = true then 1 else 0) = 0; rw [ih]; rfl
    rw [this]; rfl
  | i + 1, h => by
    show nb (fun j => inR r i j || decide (r i = j)) B = nb (fun k => decide (r k < B)) i + (if decide (r i < B) = true then 1 else 0)
    rw [nb_or (inR_no (fun k hk e => by have := h k i (by omega) (by omega) e; omega)), nb_inR (i := i) (fun a b ha hb => h a b (by omega) (by omega))]
    simp
theorem perm_sur {n : Nat} {r : Nat → Nat} (h : isP n r) {j : Nat} (hj : j < n) : ∃ i, i < n ∧ r i = j := by
  have h1 : nb (inR r n) n = n := by
    rw [nb_inR (fun a b ha hb => h.2 a b ha hb)]
    exact nb_true (fun k hk => by simp [h.1 k hk])
  exact inR_iff.mp (nb_all h1 j hj)
/-- the count of the lower bells of a row -/
theorem perm_cnt {n : Nat} {r : Nat → Nat} (h : isP n r) {b : Nat} (hb : b ≤ n) : nb (fun k => decide (r k < b)) n = b := by
  rw [← nb_inR (fun a b ha hb => h.2 a b ha hb)]
  exact nb_true (fun j hj => inR_iff.mpr (perm_sur h (by omega)))
theorem s_headBringing {n : Nat} {u r q : Nat → Nat} (hn : n ≤ 8) (hu : ∀ i, i < n → u i < 8) (hr : isP n r) (hq : ∀ i, i < n → q (r i) = u i) {Q : Int32 → Prop} (hQ : Q (nI (encR n q))) : wp_X6_headBringing (nI (encR n u)) (nI (encR n r)) (nI n) Q := by
  unfold wp_X6_headBringing
  have hq8 : ∀ j, j < n → q j < 8 := fun j hj => by
    obtain ⟨i, hi, e⟩ := perm_sur hr hj
    rw [← e, hq i hi]; exact hu i hi
  have hL : ∀ i : Nat, ∀ j, j < n → (if inR r i j then q j else 0) < 8 := fun i j hj => by
    split
    · exact hq8 j hj
    · decide
  refine hL2_in (fun v2 v3 => ∃ i, i ≤ n ∧ v3 = nI i ∧ v2 = nI (encR n (fun j => if inR r i j then q j else 0))) (fun _ v3 => n - v3.toNatClampNeg) ?_ ⟨0, Nat.zero_le _, rfl, by
    have e : encR n (fun j => if inR r 0 j then q j else 0) = 0 := (encR_congr (q := fun _ => 0) (fun j _ => by simp [inR])).trans (encR_zero n)
    rw [e]; rfl⟩
  rintro P _ _ ⟨i, hi, rfl, rfl⟩ ih
  refine pk_le n i (fun z => ?_) (fun z => ?_) rfl rfl
  · have e : i = n := by omega
    subst e
    have e2 : encR i (fun j => if inR r i j then q j else 0) = encR i q := encR_congr (fun j hj => by
      rw [if_pos (inR_iff.mpr (perm_sur hr hj))])
    rw [e2]; exact hQ
  · refine s_bellAt hn hu z ?_
    refine s_bellAt hn (hr.lt8 hn) z ?_
    intro x hx y hy
    have e0 : (fun j => if inR r i j then q j else 0) (r i) = 0 := by
      show (if inR r i (r i) then q (r i) else 0) = 0
      rw [if_neg]
      intro h
      obtain ⟨k, h1, h2⟩ := inR_iff.mp h
      have := hr.2 k i (by omega) z h2
      omega
    rw [or_dig hn (hr.1 i z) (hL i) e0 (hu i z)] at hx
    rw [nI_suc] at hy
    subst hx hy
    refine ih _ _ ⟨i + 1, by omega, rfl, ?_⟩ (by rw [nI_clamp (by omega), nI_clamp (by omega)]; omega)
    congr 1
    refine encR_congr (fun j hj => ?_)
    by_cases e : j = r i
    · subst e
      have : inR r (i + 1) (r i) = true := inR_iff.mpr ⟨i, by omega, rfl⟩
      rw [if_pos rfl, if_pos this, hq i z]
    · have : inR r (i + 1) j = inR r i j := by
        show (inR r i j || decide (r i = j)) = inR r i j
        rw [decide_eq_false (fun h => e h.symm), Bool.or_false]
      rw [if_neg e, this]
/-- a row rung t times -/
def itr (r : Nat → Nat) : Nat → Nat → Nat
  | 0 => fun i => i
  | t + 1 => fun i => itr r t (r i)
theorem itr_add (r : Nat → Nat) (a : Nat) : ∀ b i, itr r (a + b) i = itr r a (itr r b i)
  | 0, i => rfl
  | b + 1, i => by show itr r (a + b) (r i) = itr r a (itr r b (r i)); exact itr_add r a b (r i)
theorem itr_PR {n : Nat} {r : Nat → Nat} (h : PR n r) : ∀ t, PR n (itr r t)
  | 0 => PR_id n
  | t + 1 => (itr_PR h t).comp h
theorem itr_mul {r : Nat → Nat} {d i : Nat} (h : itr r d i = i) : ∀ k, itr r (d * k) i = i
  | 0 => rfl
  | k + 1 => by rw [Nat.mul_succ, itr_add, h, itr_mul h k]
theorem itr_cyc {n : Nat} {r : Nat → Nat} (h : PR n r) {i : Nat} (hi : i < n) : ∃ d, 1 ≤ d ∧ d ≤ n ∧ itr r d i = i := by
  refine Classical.byContradiction (fun hno => ?_)
  have hinj : ∀ a b, a < b → b ≤ n → itr r a i ≠ itr r b i := fun a b hab hb e => by
    refine hno ⟨b - a, by omega, by omega, ?_⟩
    have e2 : itr r b i = itr r a (itr r (b - a) i) := by rw [← itr_add]; congr 1; omega
    rw [e2] at e
    exact ((itr_PR h a).2.1 _ _ e).symm
  have hP : isP (n + 1) (fun t => itr r t i) := ⟨fun t ht => by have := (itr_PR h t).1 i hi; show itr r t i < n + 1; omega, fun a b ha hb e => by
    rcases Nat.lt_trichotomy a b with z | z | z
    · exact absurd e (hinj a b z (by omega))
    · exact z
    · exact absurd e.symm (hinj b a z (by omega))⟩
  obtain ⟨t, ht, e⟩ := perm_sur hP (j := n) (by omega)
  have := (itr_PR h t).1 i hi
  have e' : itr r t i = n := e
  omega
theorem div840 : ∀ d, 1 ≤ d → d ≤ 8 → 840 = d * (840 / d) := fun d h1 h2 => by
  rcases (by omega : d = 1 ∨ d = 2 ∨ d = 3 ∨ d = 4 ∨ d = 5 ∨ d = 6 ∨ d = 7 ∨ d = 8) with rfl | rfl | rfl | rfl | rfl | rfl | rfl | rfl <;> rfl
theorem itr_840 {n : Nat} {r : Nat → Nat} (hn : n ≤ 8) (h : PR n r) : itr r 840 = fun i => i := PR_ext (itr_PR h 840) (PR_id n) (fun i hi => by
  obtain ⟨d, h1, h2, h3⟩ := itr_cyc h hi
  rw [div840 d h1 (by omega)]
  exact itr_mul h3 _)
/-- the order of a row: the least t that brings it home -/
def isOrd (r : Nat → Nat) (t : Nat) : Prop := 1 ≤ t ∧ t ≤ 840 ∧ (itr r t = fun i => i) ∧ ∀ k, 1 ≤ k → k < t → ¬ itr r k = fun i => i
theorem ord_ex {n : Nat} {r : Nat → Nat} (hn : n ≤ 8) (h : PR n r) : ∃ t, isOrd r t := by
  obtain ⟨t, ⟨h1, h2⟩, h3⟩ := pk_least (fun t => 1 ≤ t ∧ itr r t = fun i => i) ⟨840, by decide, itr_840 hn h⟩
  refine ⟨t, h1, ?_, h2, fun k hk hkt e => h3 k hkt ⟨hk, e⟩⟩
  rcases Nat.lt_or_ge 840 t with z | z
  · exact absurd ⟨by decide, itr_840 hn h⟩ (h3 840 z)
  · exact z
theorem ord_un {r : Nat → Nat} {a b : Nat} (ha : isOrd r a) (hb : isOrd r b) : a = b := by
  rcases Nat.lt_trichotomy a b with z | z | z
  · exact absurd ha.2.2.1 (hb.2.2.2 a ha.1 z)
  · exact z
  · exact absurd hb.2.2.1 (ha.2.2.2 b hb.1 z)
theorem enc_eq {n : Nat} {r q : Nat → Nat} (hn : n ≤ 8) (h : PR n r) (hq : PR n q) : nI (encR n r) = nI (encR n q) ↔ r = q := by
  have h1 := encR_lt24 hn (h.lt8 hn)
  have h2 := encR_lt24 hn (hq.lt8 hn)
  rw [nI_eq (by omega) (by omega)]
  exact ⟨fun e => PR_enc hn h hq e, fun e => by rw [e]⟩
theorem s_order {n t : Nat} {r : Nat → Nat} (hn : n ≤ 8) (h : PR n r) (ht : isOrd r t) {Q : Int32 → Prop} (hQ : Q (nI t)) : wp_X6_order (nI (encR n r)) (nI n) Q := by
  unfold wp_X6_order
  obtain ⟨h1, h2, h3, h4⟩ := ht
  refine hL2_in (fun v2 v3 => ∃ k, 1 ≤ k ∧ k ≤ t ∧ v2 = nI k ∧ v3 = nI (encR n (itr r k))) (fun v2 _ => 40320 - v2.toNatClampNeg) ?_ ⟨1, Nat.le_refl _, h1, rfl, rfl⟩
  rintro P _ _ ⟨k, hk1, hk2, rfl, rfl⟩ ih
  refine s_rounds hn ?_
  refine ⟨fun z => ?_, fun z => ?_⟩
  · have e := (enc_eq hn (itr_PR h k) (PR_id n)).mp z
    have : k = t := by
      rcases Nat.lt_or_ge k t with q | q
      · exact absurd e (h4 k hk1 q)
      · omega
    subst this; exact hQ
  · have hne : k ≠ t := fun e => z (by rw [e, h3])
    refine pk_le 40320 k (fun z2 => by omega) (fun z2 => ?_) rfl rfl
    refine s_fromHead hn ((itr_PR h k).lt8 hn) (fun i hi => h.1 i hi) ?_
    intro x hx
    rw [nI_suc] at hx
    subst hx
    exact ih _ _ ⟨k + 1, by omega, by omega, rfl, rfl⟩ (by rw [nI_clamp (by omega), nI_clamp (by omega)]; omega)

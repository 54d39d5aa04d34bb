/-! The relation of the class's state and the reference's. -/
def bI (b : Nat) : Int32 := (nI b).toInt8.toInt32
def HL (n : Nat) (Ks : Nat → Nat) (μs : Nat → Nat → Nat) (lm lc : Nat → Nat) : Nat → Nat → Nat
  | 0 => fun i => i
  | k + 1 => fun i => HL n Ks μs lm lc k (hdn n (Ks (lm k)) (μs (lm k)) (lc k) i)
def FR (Ks lm : Nat → Nat) : Nat → Nat
  | 0 => 0
  | k + 1 => FR Ks lm k + Ks (lm k)
/-- which lead holds row u -/
def ldx (Ks lm : Nat → Nat) : Nat → Nat → Nat
  | 0, _ => 0
  | i + 1, u => if FR Ks lm i ≤ u then i else ldx Ks lm i u
/-- row t of the touch, rung again and again -/
def TT (n : Nat) (Ks : Nat → Nat) (μs : Nat → Nat → Nat) (L : Nat) (lm lc : Nat → Nat) (t : Nat) : Nat → Nat :=
  let u := t % FR Ks lm L
  let i := ldx Ks lm L u
  fun x => itr (HL n Ks μs lm lc L) (t / FR Ks lm L) (HL n Ks μs lm lc i (rwn n (μs (lm i)) (u - FR Ks lm i) x))
def noRep (T : Nat → Nat → Nat) (N : Nat) : Prop := ∀ a, a < N → ∀ b, b < a → T b ≠ T a
def repAt (T : Nat → Nat → Nat) (t s : Nat) : Prop := s < t ∧ T s = T t ∧ noRep T t
def isRep (T : Nat → Nat → Nat) (N : Nat) (a b : Int32) : Prop := (∃ t s, t < N ∧ repAt T t s ∧ a = nI t ∧ b = nI s) ∨ (noRep T N ∧ a = -1 ∧ b = -1)
def rZ (σ τ : hSt) (n : Nat) : Prop := σ 0 0 = nI n ∧ τ 0 1 = nI n ∧ σ 0 1 = τ 0 11 ∧ σ 35 4 = τ 0 37 ∧ σ 3 1 = 0
def rT (σ τ : hSt) (tz : Nat) : Prop := tz ≤ 500 ∧ σ 19 1 = nI tz ∧ τ 0 8 = nI tz ∧ ∀ i, i < tz → σ 20 i = τ 5 i ∧ ∃ b, b < 256 ∧ τ 5 i = bI b
def rMs (σ τ : hSt) (n : Nat) (Ks : Nat → Nat) (μs : Nat → Nat → Nat) : Prop := ∀ m, m < 6 → vM n (Ks m) (μs m) ∧ cM σ (5 + 2 * m) n (Ks m) (μs m) ∧ rM τ m (Ks m) (μs m)
def lOK (Ks lm lc : Nat → Nat) (L : Nat) : Prop := ∀ k, k < L → lm k < 6 ∧ lc k ≤ 2 ∧ 0 < Ks (lm k)
def rLx (σ : hSt) (n : Nat) (Ks : Nat → Nat) (μs : Nat → Nat → Nat) (L : Nat) (lm lc : Nat → Nat) : Prop :=
  σ 31 5 = nI n ∧ σ 31 6 = nI L ∧ σ 31 7 = nI (FR Ks lm L) ∧ σ 31 8 = nI (encR n (HL n Ks μs lm lc L)) ∧ ∀ k, k < L → σ 32 k = nI (3 * lm k + lc k) ∧ σ 33 k = nI (encR n (HL n Ks μs lm lc k)) ∧ σ 34 k = nI (FR Ks lm k)
def rLy (τ : hSt) (L : Nat) (lm lc : Nat → Nat) : Prop := τ 0 6 = nI L ∧ ∀ k, k < L → τ 3 k = nI (lm k) ∧ τ 4 k = nI (lc k)
def rP (σ : hSt) (T : Nat → Nat → Nat) (N : Nat) : Prop := σ 31 9 = 0 ∨ (σ 31 9 = 1 ∧ isRep T N (σ 31 10) (σ 31 11))
def rS (σ : hSt) (B : Nat) : Prop := ∃ tp, tp ≤ B ∧ σ 17 3 = nI tp ∧ ∀ r, r < 40320 → ∃ s, s ≤ tp ∧ σ 18 r = nI s
def RI (B : Nat) (σ τ : hSt) : Prop := ∃ (n : Nat) (Ks : Nat → Nat) (μs : Nat → Nat → Nat) (L : Nat) (lm lc : Nat → Nat) (tz : Nat),
  4 ≤ n ∧ n ≤ 8 ∧ rZ σ τ n ∧ rT σ τ tz ∧ rMs σ τ n Ks μs ∧ L ≤ 1000 ∧ lOK Ks lm lc L ∧ rLx σ n Ks μs L lm lc ∧ rLy τ L lm lc ∧ rP σ (TT n Ks μs L lm lc) (FR Ks lm L) ∧ rS σ B
/-- what the reference's scratch cells don't touch -/
def kpY (τ τ' : hSt) : Prop := (∀ k, 1 ≤ k → k ≤ 5 → τ' k = τ k) ∧ τ' 0 1 = τ 0 1 ∧ τ' 0 6 = τ 0 6 ∧ τ' 0 8 = τ 0 8 ∧ τ' 0 11 = τ 0 11 ∧ τ' 0 37 = τ 0 37
theorem kpY.rf {τ : hSt} : kpY τ τ := ⟨fun _ _ _ => rfl, rfl, rfl, rfl, rfl, rfl⟩
theorem kpY.tr {a b c : hSt} (h : kpY a b) (h2 : kpY b c) : kpY a c := by
  obtain ⟨x0, x1, x2, x3, x4, x5⟩ := h
  obtain ⟨y0, y1, y2, y3, y4, y5⟩ := h2
  exact ⟨fun k p q => by rw [y0 k p q, x0 k p q], y1.trans x1, y2.trans x2, y3.trans x3, y4.trans x4, y5.trans x5⟩
theorem oth.kp {k : Nat} {a b : hSt} (hk : 6 ≤ k) (h : oth k a b) : kpY a b := by
  have h0 := h 0 (by omega)
  exact ⟨fun j p q => h j (by omega), by rw [h0], by rw [h0], by rw [h0], by rw [h0], by rw [h0]⟩
theorem kpY.hu {a : hSt} {i : Nat} {v : Int32} (hi : i ≠ 1 ∧ i ≠ 6 ∧ i ≠ 8 ∧ i ≠ 11 ∧ i ≠ 37) : kpY a (hup a 0 i v) := by
  refine ⟨fun j p q => hup_n _ _ _ (by omega), ?_, ?_, ?_, ?_, ?_⟩ <;> (rw [hup_at, if_neg]; omega)
theorem kpY.hk {a : hSt} {k i : Nat} {v : Int32} (hk : 6 ≤ k) : kpY a (hup a k i v) := oth.kp hk oth.rf.up
theorem RI.y {B : Nat} {σ τ τ' : hSt} (h : RI B σ τ) (hk : kpY τ τ') : RI B σ τ' := by
  obtain ⟨n, Ks, μs, L, lm, lc, tz, h1, h2, ⟨z1, z2, z3, z4, z5⟩, ⟨t1, t2, t3, t4⟩, hM, hL, hOK, hX, ⟨y1, y2⟩, hP, hS⟩ := h
  obtain ⟨k0, k1, k2, k3, k4, k5⟩ := hk
  refine ⟨n, Ks, μs, L, lm, lc, tz, h1, h2, ⟨z1, k1.trans z2, by rw [k4]; exact z3, by rw [k5]; exact z4, z5⟩, ⟨t1, t2, k3.trans t3, fun i hi => by rw [k0 5 (by decide) (by decide)]; exact t4 i hi⟩, fun m hm => ?_, hL, hOK, hX, ⟨k2.trans y1, fun k hk => by rw [k0 3 (by decide) (by decide), k0 4 (by decide) (by decide)]; exact y2 k hk⟩, hP, hS⟩
  obtain ⟨m1, m2, m3⟩ := hM m hm
  exact ⟨m1, m2, m3.mv (k0 1 (by decide) (by decide)) (k0 2 (by decide) (by decide))⟩
theorem RI.mono {A B : Nat} {σ τ : hSt} (h : RI A σ τ) (hAB : A ≤ B) : RI B σ τ := by
  obtain ⟨n, Ks, μs, L, lm, lc, tz, h1, h2, hZ, hT, hM, hL, hOK, hX, hY, hP, tp, s1, s2⟩ := h
  exact ⟨n, Ks, μs, L, lm, lc, tz, h1, h2, hZ, hT, hM, hL, hOK, hX, hY, hP, tp, by omega, s2⟩
/-- the tests whether a method was told -/
def tld (Ks : Nat → Nat) (a : Int32) : Prop := ∃ m, m < 6 ∧ a = nI m ∧ 0 < Ks m
theorem i6 (a : Int32) : a < 0 ∨ (6 : Int32) ≤ a ∨ ∃ m, m < 6 ∧ a = nI m := pk_ix a (n := 6) (by decide)
theorem n6_ge {a : Int32} (h : (6 : Int32) ≤ a) : ¬ a < (6 : Int32) := by rw [Int32.lt_iff_toInt_lt]; rw [Int32.le_iff_toInt_le] at h; omega
theorem n6_nn {a : Int32} (h : (6 : Int32) ≤ a) : ¬ a < 0 := by
  rw [Int32.lt_iff_toInt_lt, show (0 : Int32).toInt = 0 by decide]; rw [Int32.le_iff_toInt_le, show (6 : Int32).toInt = 6 by decide] at h; omega
theorem tld_no1 {Ks : Nat → Nat} {a : Int32} (h : a < 0) : ¬ tld Ks a := fun ⟨m, hm, e, _⟩ => by subst e; exact nI_pos (by omega) h
theorem tld_no2 {Ks : Nat → Nat} {a : Int32} (h : (6 : Int32) ≤ a) : ¬ tld Ks a := fun ⟨m, hm, e, _⟩ => by
  subst e
  exact nI_ge (b := 6) hm (by decide) h
theorem tld_m {Ks : Nat → Nat} {m : Nat} (hm : m < 6) : tld Ks (nI m) ↔ 0 < Ks m := ⟨fun ⟨m', hm', e, h⟩ => by have := (nI_eq (by omega) (by omega)).mp e; subst this; exact h, fun h => ⟨m, hm, rfl, h⟩⟩
theorem s_at {σ : hSt} {m : Nat} (hm : m < 6) {Q : Nat → Prop} (hQ : Q (5 + 2 * m)) : wp_X0_at (nI m) σ Q := by
  unfold wp_X0_at
  refine br_f (nI_pos (by omega)) (br_t (nI_lt (b := 6) hm (by decide)) ⟨vp_in_nI hm (by decide), ?_⟩)
  rw [nI_clamp (by omega)]
  exact hQ
theorem s_has {σ τ : hSt} {n : Nat} {Ks : Nat → Nat} {μs : Nat → Nat → Nat} {a : Int32} (h3 : σ 3 1 = 0) (hM : rMs σ τ n Ks μs) {Q : Int32 → Prop} (h1 : ∀ m, m < 6 → a = nI m → 0 < Ks m → Q 1) (h0 : ¬ tld Ks a → Q 0) : wp_X0_has a σ Q := by
  unfold wp_X0_has wp_X0_at wp_X2_size
  rcases i6 a with z | z | ⟨m, hm, rfl⟩
  · refine ⟨fun _ => br_t (by rw [h3]; decide) (h0 (tld_no1 z)), fun z2 => absurd z z2⟩
  · refine ⟨fun z2 => absurd z2 (n6_nn z), fun _ => ⟨fun z2 => absurd z2 (n6_ge z), fun _ => br_t (by rw [h3]; decide) (h0 (tld_no2 z))⟩⟩
  · refine br_f (nI_pos (by omega)) (br_t (nI_lt (b := 6) hm (by decide)) ⟨vp_in_nI hm (by decide), ?_⟩)
    rw [nI_clamp (by omega)]
    obtain ⟨v1, v2, -⟩ := hM m hm
    have h64 := v1.1
    refine pk_le (Ks m) 0 (fun z => h0 (fun h => ?_)) (fun z => h1 m hm rfl z) v2.1 rfl
    have := (tld_m hm).mp h
    omega
theorem s_toldM {σ τ : hSt} {n : Nat} {Ks : Nat → Nat} {μs : Nat → Nat → Nat} {a : Int32} (h3 : σ 3 1 = 0) (hM : rMs σ τ n Ks μs) {Q : Nat → hSt → Prop} {X : String → hSt → Prop} (h1 : ∀ m, m < 6 → a = nI m → 0 < Ks m → Q (5 + 2 * m) σ) (h0 : ¬ tld Ks a → X "java/util/NoSuchElementException" σ) : wp_X11_toldMethod a σ Q X := by
  unfold wp_X11_toldMethod
  refine s_has h3 hM (fun m hm e hK => ?_) (fun h => ?_)
  · subst e
    exact ⟨fun _ => s_at hm (h1 m hm rfl hK), fun z => absurd z (by decide)⟩
  · exact ⟨fun z => absurd rfl z, fun _ => h0 h⟩
theorem t_isTold {τ σ : hSt} {w : Nat → Int64} {n : Nat} {Ks : Nat → Nat} {μs : Nat → Nat → Nat} {a : Int32} (hM : rMs σ τ n Ks μs) {Q : Int32 → Prop} (h1 : ∀ m, m < 6 → a = nI m → 0 < Ks m → Q 1) (h0 : ¬ tld Ks a → Q 0) : wp_X12_isTold a τ w Q := by
  unfold wp_X12_isTold
  rcases i6 a with z | z | ⟨m, hm, rfl⟩
  · exact ⟨fun _ => h0 (tld_no1 z), fun z2 => absurd z z2⟩
  · exact ⟨fun z2 => absurd z2 (n6_nn z), fun _ => ⟨fun _ => h0 (tld_no2 z), fun z2 => absurd z z2⟩⟩
  · refine br_f (nI_pos (by omega)) (br_f (nI_ge (b := 6) hm (by decide)) ⟨vp_in_nI hm (by decide), ?_⟩)
    rw [nI_clamp (by omega)]
    obtain ⟨v1, -, v2⟩ := hM m hm
    have h64 := v1.1
    refine pk_le (Ks m) 0 (fun z => h0 (fun h => ?_)) (fun z => h1 m hm rfl z) v2.1 rfl
    have := (tld_m hm).mp h
    omega
theorem t_tI0 {how : Int32} {τ : hSt} {w : Nat → Int64} {Q : Int32 → hSt → Prop} (hQ : Q 0 (hup τ 0 0 0)) : wp_X12_throwsIf 0 how τ w Q := by
  unfold wp_X12_throwsIf
  exact ⟨fun _ => ⟨hbo_0, hQ⟩, fun z => absurd rfl z⟩
theorem t_tI1 {how : Int32} {τ : hSt} {w : Nat → Int64} {Q : Int32 → hSt → Prop} (hQ : Q 1 (hup τ 0 0 how)) : wp_X12_throwsIf 1 how τ w Q := by
  unfold wp_X12_throwsIf
  exact ⟨fun z => absurd z (by decide), fun _ => ⟨hbo_1, hQ⟩⟩
/-- rows of heads -/
theorem HL_PR {n : Nat} {Ks : Nat → Nat} {μs : Nat → Nat → Nat} {L : Nat} {lm lc : Nat → Nat} (hV : ∀ m, m < 6 → vM n (Ks m) (μs m)) (hOK : lOK Ks lm lc L) : ∀ {k : Nat}, k ≤ L → PR n (HL n Ks μs lm lc k)
  | 0, _ => PR_id n
  | k + 1, hk => by
    obtain ⟨h1, h2, h3⟩ := hOK k (by omega)
    exact (HL_PR hV hOK (k := k) (by omega)).comp (hdn_PR (hV _ h1) h3 h2)
theorem rMs.v {σ τ : hSt} {n : Nat} {Ks : Nat → Nat} {μs : Nat → Nat → Nat} (h : rMs σ τ n Ks μs) : ∀ m, m < 6 → vM n (Ks m) (μs m) := fun m hm => (h m hm).1
theorem FR_le {n : Nat} {Ks : Nat → Nat} {μs : Nat → Nat → Nat} {L : Nat} {lm lc : Nat → Nat} (hV : ∀ m, m < 6 → vM n (Ks m) (μs m)) (hOK : lOK Ks lm lc L) : ∀ {k : Nat}, k ≤ L → FR Ks lm k ≤ 64 * k
  | 0, _ => Nat.le_refl 0
  | k + 1, hk => by
    have h1 := FR_le hV hOK (k := k) (by omega)
    have h2 := (hV _ (hOK k (by omega)).1).1
    show FR Ks lm k + Ks (lm k) ≤ 64 * (k + 1)
    omega
theorem FR_mono {Ks lm : Nat → Nat} {a : Nat} : ∀ {b : Nat}, a ≤ b → FR Ks lm a ≤ FR Ks lm b
  | 0, h => by have : a = 0 := by omega
               subst this; exact Nat.le_refl _
  | b + 1, h => by
    by_cases e : a = b + 1
    · subst e; exact Nat.le_refl _
    · have := FR_mono (Ks := Ks) (lm := lm) (a := a) (b := b) (by omega)
      show FR Ks lm a ≤ FR Ks lm b + Ks (lm b)
      omega
theorem ldx_is {Ks lm : Nat → Nat} {i u : Nat} (h1 : FR Ks lm i ≤ u) (h2 : u < FR Ks lm (i + 1)) : ∀ {L : Nat}, i < L → ldx Ks lm L u = i
  | 0, h => absurd h (Nat.not_lt_zero i)
  | L + 1, h => by
    show (if FR Ks lm L ≤ u then L else ldx Ks lm L u) = i
    by_cases e : i = L
    · subst e; rw [if_pos h1]
    · have := FR_mono (Ks := Ks) (lm := lm) (show i + 1 ≤ L by omega)
      rw [if_neg (by omega)]
      exact ldx_is h1 h2 (by omega)
theorem TT_is {n : Nat} {Ks : Nat → Nat} {μs : Nat → Nat → Nat} {L : Nat} {lm lc : Nat → Nat} {q i k : Nat} (hi : i < L) (hk : k < Ks (lm i)) : TT n Ks μs L lm lc (q * FR Ks lm L + FR Ks lm i + k) = fun x => itr (HL n Ks μs lm lc L) q (HL n Ks μs lm lc i (rwn n (μs (lm i)) k x)) := by
  have h1 : FR Ks lm i + k < FR Ks lm (i + 1) := by show _ < FR Ks lm i + Ks (lm i); omega
  have h2 := FR_mono (Ks := Ks) (lm := lm) (show i + 1 ≤ L by omega)
  have e1 : (q * FR Ks lm L + FR Ks lm i + k) % FR Ks lm L = FR Ks lm i + k := by
    rw [Nat.add_assoc, Nat.mul_comm, Nat.mul_add_mod]; exact Nat.mod_eq_of_lt (by omega)
  have e2 : (q * FR Ks lm L + FR Ks lm i + k) / FR Ks lm L = q := by
    rw [Nat.add_assoc, Nat.mul_comm, Nat.mul_add_div (by omega), Nat.div_eq_of_lt (by omega)]; omega
  unfold TT
  simp only [e1, e2, ldx_is (Nat.le_add_right _ _) h1 hi]
  rw [show FR Ks lm i + k - FR Ks lm i = k by omega]

/-! False heads. -/
/-- how many of the first p are new -/
def dcn (G : Nat → Nat) : Nat → Nat
  | 0 => 0
  | p + 1 => dcn G p + (if inR G p (G p) then 0 else 1)
theorem dcn_le (G : Nat → Nat) : ∀ p, dcn G p ≤ p
  | 0 => Nat.le_refl 0
  | p + 1 => by
    have := dcn_le G p
    show dcn G p + _ ≤ p + 1
    split <;> omega
/-- the way back from a row of a lead -/
def iv (n : Nat) (μ : Nat → Nat) : Nat → Nat → Nat
  | 0 => fun x => x
  | k + 1 => fun x => b_pm n (μ k) (iv n μ k x)
theorem iv_PR {n K : Nat} {μ : Nat → Nat} (h : vM n K μ) : ∀ {k : Nat}, k ≤ K → PR n (iv n μ k)
  | 0, _ => PR_id n
  | k + 1, hk => (b_pm_PR (h.2 k (Or.inl (by omega))).1).comp (iv_PR h (k := k) (by omega))
theorem iv_rwn {n K : Nat} {μ : Nat → Nat} (h : vM n K μ) : ∀ {k : Nat}, k ≤ K → ∀ x, iv n μ k (rwn n μ k x) = x
  | 0, _, x => rfl
  | k + 1, hk, x => by
    show b_pm n (μ k) (iv n μ k (rwn n μ k (b_pm n (μ k) x))) = x
    rw [iv_rwn h (k := k) (by omega), b_pm_pm (h.2 k (Or.inl (by omega))).1]
theorem rwn_iv {n K : Nat} {μ : Nat → Nat} (h : vM n K μ) : ∀ {k : Nat}, k ≤ K → ∀ x, rwn n μ k (iv n μ k x) = x
  | 0, _, x => rfl
  | k + 1, hk, x => by
    show rwn n μ k (b_pm n (μ k) (b_pm n (μ k) (iv n μ k x))) = x
    rw [b_pm_pm (h.2 k (Or.inl (by omega))).1, rwn_iv h (k := k) (by omega)]
/-- head p of the pairs of rows of two methods -/
def hdp (n : Nat) (μ : Nat → Nat) (K2 : Nat) (ν : Nat → Nat) (p : Nat) : Nat → Nat := fun x => rwn n μ (p / K2) (iv n ν (p % K2) x)
theorem hdp_is {n K2 i j : Nat} {μ ν : Nat → Nat} (hj : j < K2) : hdp n μ K2 ν (i * K2 + j) = fun x => rwn n μ i (iv n ν j x) := by
  unfold hdp
  rw [Nat.mul_comm, Nat.mul_add_div (by omega), Nat.div_eq_of_lt hj, Nat.mul_add_mod, Nat.mod_eq_of_lt hj, Nat.add_zero]
theorem hdp_PR {n K1 K2 p : Nat} {μ ν : Nat → Nat} (h1 : vM n K1 μ) (h2 : vM n K2 ν) (hp : p < K1 * K2) : PR n (hdp n μ K2 ν p) := by
  have hK : 0 < K2 := by
    rcases Nat.eq_zero_or_pos K2 with e | e
    · subst e; simp at hp
    · exact e
  exact (rwn_PR h1 (Nat.le_of_lt ((Nat.div_lt_iff_lt_mul hK).mpr hp))).comp (iv_PR h2 (Nat.le_of_lt (Nat.mod_lt _ hK)))
theorem s_changeAt {σ : hSt} {k0 n K k : Nat} {μ : Nat → Nat} (hL : hLn (k0 + 1) = 64) (hv : vM n K μ) (hM : cM σ k0 n K μ) (hk : k < K) {Q : Int32 → Prop} (hQ : Q (nI (b_cen n (μ k)))) : wp_X2_changeAt k0 (nI k) σ Q := by
  unfold wp_X2_changeAt
  have h64 := hv.1
  refine s_cell (by rw [hL]; decide) (by rw [hL]; omega) ?_
  rw [(hM.2 (by omega)).2.1 k hk]; exact hQ
/-- the class: after all pairs the new ones are noted -/
theorem s_noteHeads {σ : hSt} {n B m l : Nat} {Ks : Nat → Nat} {μs : Nat → Nat → Nat} (hn : n ≤ 8) (hB : B ≤ 40000000) (hS : rS σ B) (hM : ∀ m, m < 6 → vM n (Ks m) (μs m) ∧ cM σ (5 + 2 * m) n (Ks m) (μs m)) (h0 : σ 0 0 = nI n) (hm : m < 6) (hl : l < 6) (hKl : 0 < Ks l) {Q : Int32 → hSt → Prop}
    (hQ : ∀ σ' f, ot2 17 σ σ' → sn σ' n B f → (∀ ρ, f ρ ≠ 0 ↔ inR (fun a => rk n (hdp n (μs m) (Ks l) (μs l) a)) (Ks m * Ks l) ρ = true) → Q (nI (dcn (fun a => rk n (hdp n (μs m) (Ks l) (μs l) a)) (Ks m * Ks l))) σ') : wp_X11_noteFalseHeads (5 + 2 * m) (5 + 2 * l) σ Q := by
  have hvm := (hM m hm).1
  have hvl := (hM l hl).1
  have hm64 := hvm.1
  have hl64 := hvl.1
  have Lm : hLn (5 + 2 * m + 1) = 64 := by rcases i6l hm with e | e | e | e | e | e <;> rw [e] <;> rfl
  have Ll : hLn (5 + 2 * l + 1) = 64 := by rcases i6l hl with e | e | e | e | e | e <;> rw [e] <;> rfl
  unfold wp_X11_noteFalseHeads
  rw [h0]
  refine s_begin hS (fun σ1 o1 hs1 => ?_)
  rw [show σ1 0 0 = nI n by rw [o1 0 (by decide)]; exact h0]
  refine s_rounds hn ?_
  generalize hG : (fun a => rk n (hdp n (μs m) (Ks l) (μs l) a)) = G at hQ
  have St : ∀ p, p < Ks m * Ks l → G p = rk n (hdp n (μs m) (Ks l) (μs l) p) := fun p _ => by rw [← hG]
  refine hL4_in (fun v3 v4 v5 σ2 => ∃ i, i ≤ Ks m ∧ v5 = nI i ∧ v4 = nI (encR n (rwn n (μs m) i)) ∧ v3 = nI (dcn G (i * Ks l)) ∧ ot2 17 σ σ2 ∧ ∃ f, sn σ2 n B f ∧ ∀ ρ, f ρ ≠ 0 ↔ inR G (i * Ks l) ρ = true) (fun _ _ v5 _ => Ks m - v5.toNatClampNeg) ?_ ⟨0, Nat.zero_le _, rfl, rfl, by rw [Nat.zero_mul]; rfl, fun j h _ => o1 j h, _, hs1, fun ρ => by rw [Nat.zero_mul]; exact ⟨fun h => absurd rfl h, fun h => (by cases h)⟩⟩
  rintro P _ _ _ σ2 ⟨i, hi, rfl, rfl, rfl, o2, f2, hs2, hf2⟩ ih
  have cm : ∀ σ3, ot2 17 σ σ3 → cM σ3 (5 + 2 * m) n (Ks m) (μs m) := fun σ3 h => (hM m hm).2.mv (h _ (by omega) (by omega)) (h _ (by omega) (by omega))
  have cl : ∀ σ3, ot2 17 σ σ3 → cM σ3 (5 + 2 * l) n (Ks l) (μs l) := fun σ3 h => (hM l hl).2.mv (h _ (by omega) (by omega)) (h _ (by omega) (by omega))
  have c0 : ∀ σ3, ot2 17 σ σ3 → σ3 0 0 = nI n := fun σ3 h => by rw [h 0 (by decide) (by decide)]; exact h0
  unfold wp_X2_size
  refine pk_le (Ks m) i (fun z => ?_) (fun z => ?_) (cm σ2 o2).1 rfl
  · have e : i = Ks m := by omega
    subst e
    exact hQ σ2 f2 o2 hs2 hf2
  · have hle : (i + 1) * Ks l ≤ Ks m * Ks l := Nat.mul_le_mul_right _ z
    have hle2 : Ks m * Ks l ≤ 64 * 64 := Nat.mul_le_mul hm64 hl64
    rw [Nat.add_mul, Nat.one_mul] at hle
    rw [c0 σ2 o2]
    refine s_rounds hn ?_
    have hri := rwn_PR hvm (k := i) (by omega)
    refine hL4_in (fun v3 v6 v7 σ3 => ∃ j, j ≤ Ks l ∧ v7 = nI j ∧ v6 = nI (encR n (rwn n (μs l) j)) ∧ v3 = nI (dcn G (i * Ks l + j)) ∧ ot2 17 σ σ3 ∧ ∃ f, sn σ3 n B f ∧ ∀ ρ, f ρ ≠ 0 ↔ inR G (i * Ks l + j) ρ = true) (fun _ _ v7 _ => Ks l - v7.toNatClampNeg) ?_ ⟨0, Nat.zero_le _, rfl, rfl, rfl, o2, f2, hs2, hf2⟩
    rintro P2 _ _ _ σ3 ⟨j, hj, rfl, rfl, rfl, o3, f3, hs3, hf3⟩ ih2
    refine pk_le (Ks l) j (fun z2 => ?_) (fun z2 => ?_) (cl σ3 o3).1 rfl
    · have e : j = Ks l := by omega
      subst e
      refine s_changeAt Lm hvm (cm σ3 o3) z ?_
      refine s_changed hn (hri.lt8 hn) (hvm.2 i (Or.inl z)).1 ?_
      intro x hx
      rw [nI_suc] at hx
      subst hx
      refine ih _ _ _ _ ⟨i + 1, by omega, rfl, rfl, ?_, o3, f3, hs3, ?_⟩ (by rw [nI_clamp (by omega), nI_clamp (by omega)]; omega)
      · rw [Nat.add_mul, Nat.one_mul]
      · rw [Nat.add_mul, Nat.one_mul]; exact hf3
    · have hrj := rwn_PR hvl (k := j) (by omega)
      have hp : i * Ks l + j < Ks m * Ks l := by omega
      have hH := hdp_PR hvm hvl hp
      have eH := hdp_is (n := n) (μ := μs m) (ν := μs l) (i := i) z2
      rw [c0 σ3 o3]
      refine s_headBringing (q := hdp n (μs m) (Ks l) (μs l) (i * Ks l + j)) hn (hri.lt8 hn) hrj.isP (fun x _ => by rw [eH]; show rwn n (μs m) i (iv n (μs l) j (rwn n (μs l) j x)) = _; rw [iv_rwn hvl (by omega)]) ?_
      have e0 : (0 : Int32) = nI 0 := rfl
      rw [e0]
      have eG : rk n (hdp n (μs m) (Ks l) (μs l) (i * Ks l + j)) = G (i * Ks l + j) := (St _ hp).symm
      have fin : ∀ σ4, ot2 17 σ σ4 → (∃ f, sn σ4 n B f ∧ ∀ ρ, f ρ ≠ 0 ↔ inR G (i * Ks l + (j + 1)) ρ = true) → wp_X2_changeAt (5 + 2 * l) (nI j) σ4 (fun r31 => (wp_X6_changed (nI (encR n (rwn n (μs l) j))) r31 (fun r33 => (∀ x7_34 : Int32, x7_34 = nI j + (1 : Int32) → (P2 (nI (dcn G (i * Ks l + (j + 1)))) r33 x7_34 σ4))))) := fun σ4 o4 hf4 => by
        refine s_changeAt Ll hvl (cl σ4 o4) z2 ?_
        refine s_changed hn (hrj.lt8 hn) (hvl.2 j (Or.inl z2)).1 ?_
        intro x hx
        rw [nI_suc] at hx
        subst hx
        exact ih2 _ _ _ _ ⟨j + 1, by omega, rfl, rfl, rfl, o4, hf4⟩ (by rw [nI_clamp (by omega), nI_clamp (by omega)]; omega)
      refine s_note hn hB hH.isP (by decide) hs3 (fun q σ4 o4 hs4 => ?_) (fun v q => ?_)
      · rw [eG] at q hs4
        have hno : inR G (i * Ks l + j) (G (i * Ks l + j)) = false := by
          cases e : inR G (i * Ks l + j) (G (i * Ks l + j)) with
          | false => rfl
          | true => exact absurd q ((hf3 _).mpr e)
        dsimp only [hM_]
        refine br_x rfl ?_
        intro x hx
        have ed : dcn G (i * Ks l + (j + 1)) = dcn G (i * Ks l + j) + 1 := by
          show dcn G (i * Ks l + j) + (if inR G (i * Ks l + j) (G (i * Ks l + j)) then 0 else 1) = _
          rw [hno]; rfl
        rw [nI_suc, ← ed] at hx
        subst hx
        refine fin σ4 (o3.tr o4) ⟨_, hs4, fun ρ => ?_⟩
        show _ ↔ (inR G (i * Ks l + j) ρ || decide (G (i * Ks l + j) = ρ)) = true
        unfold upN
        by_cases e : ρ = G (i * Ks l + j)
        · rw [if_pos e]
          subst e
          simp
        · rw [if_neg e, hf3 ρ]
          have e' : ¬ G (i * Ks l + j) = ρ := fun q => e q.symm
          simp [e']
      · rw [eG] at q
        have hyes : inR G (i * Ks l + j) (G (i * Ks l + j)) = true := (hf3 _).mp (by rw [q]; exact Nat.succ_ne_zero v)
        have hv31 : v < 2 ^ 31 := by
          obtain ⟨base, tp, q1, q2, q3, q4, q5, q6, q7⟩ := hs3
          have hk := rk_lt hn hH.isP
          rw [eG] at hk
          obtain ⟨s, s1, s2, s3⟩ := q7 _ hk
          omega
        dsimp only [hM_]
        refine br_y (nI_ne_m1 v hv31) ?_
        have ed : dcn G (i * Ks l + (j + 1)) = dcn G (i * Ks l + j) := by
          show dcn G (i * Ks l + j) + (if inR G (i * Ks l + j) (G (i * Ks l + j)) then 0 else 1) = _
          rw [hyes]; rfl
        rw [← ed]
        refine fin σ3 o3 ⟨f3, hs3, fun ρ => ?_⟩
        rw [hf3 ρ]
        show _ ↔ (inR G (i * Ks l + j) ρ || decide (G (i * Ks l + j) = ρ)) = true
        by_cases e : G (i * Ks l + j) = ρ
        · subst e; simp [hyes]
        · simp [e]
/-- the reference: a rising row of heads -/
def srt (τ : hSt) (n : Nat) (H : Nat → Nat → Nat) (hs : Nat → Nat → Nat) (M p : Nat) : Prop := M = dcn (fun a => rk n (H a)) p ∧ τ 0 27 = nI M ∧ (∀ i, i < M → PR n (hs i) ∧ τ 16 i = nI (numR n (hs i))) ∧ (∀ i j, i < j → j < M → rk n (hs i) < rk n (hs j)) ∧ ∀ ρ, inR (fun a => rk n (H a)) p ρ = true ↔ ∃ i, i < M ∧ rk n (hs i) = ρ

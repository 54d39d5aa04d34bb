/-! The class's Seen. -/
theorem hL4_in {A A2 A3 A4 : Type} {B : (A → A2 → A3 → A4 → Prop) → A → A2 → A3 → A4 → Prop} (I : A → A2 → A3 → A4 → Prop) (μ : A → A2 → A3 → A4 → Nat) (h : ∀ (P : A → A2 → A3 → A4 → Prop) a a2 a3 a4, I a a2 a3 a4 → (∀ b b2 b3 b4, I b b2 b3 b4 → μ b b2 b3 b4 < μ a a2 a3 a4 → P b b2 b3 b4) → B P a a2 a3 a4) {a : A} {a2 : A2} {a3 : A3} {a4 : A4} (hI : I a a2 a3 a4) : hL4 B a a2 a3 a4 := by
  intro P hP
  have key : ∀ n a a2 a3 a4, μ a a2 a3 a4 < n → I a a2 a3 a4 → P a a2 a3 a4 := by
    intro n
    induction n with
    | zero => intro a a2 a3 a4 h1; exact absurd h1 (Nat.not_lt_zero _)
    | succ n ih => intro a a2 a3 a4 h1 h2; exact hP _ _ _ _ (h P a a2 a3 a4 h2 (fun b b2 b3 b4 hb hm => ih b b2 b3 b4 (by omega) hb))
  exact key _ a a2 a3 a4 (Nat.lt_succ_self _) hI
def upN (f : Nat → Nat) (k v : Nat) : Nat → Nat := fun j => if j = k then v else f j
def sn (σ : hSt) (n B : Nat) (f : Nat → Nat) : Prop := ∃ base tp, base ≤ B ∧ base ≤ tp ∧ tp ≤ B + 64001 ∧ σ 17 1 = nI n ∧ σ 17 2 = nI base ∧ σ 17 3 = nI tp ∧ ∀ r, r < 40320 → ∃ s, s ≤ tp ∧ σ 18 r = nI s ∧ f r = s - base
theorem sn.rS {σ : hSt} {n B : Nat} {f : Nat → Nat} (h : sn σ n B f) : rS σ (B + 64001) := by
  obtain ⟨base, tp, h1, h2, h3, h4, h5, h6, h7⟩ := h
  refine ⟨tp, h3, h6, fun r hr => ?_⟩
  obtain ⟨s, a, b, _⟩ := h7 r hr
  exact ⟨s, a, b⟩
theorem sn.mv {σ σ' : hSt} {n B : Nat} {f : Nat → Nat} (h : sn σ n B f) (h1 : σ' 17 = σ 17) (h2 : σ' 18 = σ 18) : sn σ' n B f := by
  unfold sn; rw [h1, h2]; exact h
theorem s_begin {σ : hSt} {n B : Nat} (h : rS σ B) {Q : hSt → Prop} (hQ : ∀ σ', oth 17 σ σ' → sn σ' n B (fun _ => 0) → Q σ') : wp_X8_begin (nI n) σ Q := by
  unfold wp_X8_begin
  obtain ⟨tp, h1, h2, h3⟩ := h
  refine hQ _ oth.rf.up.up ⟨tp, tp, h1, Nat.le_refl _, by omega, ?_, ?_, ?_, fun r hr => ?_⟩
  · simp [hup_at]
  · rw [hup_at, if_pos rfl, hup_at, if_neg (by decide)]; exact h2
  · rw [hup_at, if_neg (by decide), hup_at, if_neg (by decide)]; exact h2
  · obtain ⟨s, a, b⟩ := h3 r hr
    exact ⟨s, a, by rw [hup_ne _ _ (by decide), hup_ne _ _ (by decide)]; exact b, by show 0 = s - tp; omega⟩
theorem s_note {σ : hSt} {n B x : Nat} {f r : Nat → Nat} (hn : n ≤ 8) (hB : B ≤ 40000000) (hr : isP n r) (hx : x ≤ 64000) (h : sn σ n B f) {Q : Int32 → hSt → Prop}
    (h0 : f (rk n r) = 0 → ∀ σ', ot2 17 σ σ' → sn σ' n B (upN f (rk n r) (x + 1)) → Q (-1) σ') (h1 : ∀ v, f (rk n r) = v + 1 → Q (nI v) σ) : wp_X8_note (nI (encR n r)) (nI x) σ Q := by
  unfold wp_X8_note
  have hS := h
  obtain ⟨base, tp, g1, g2, g3, g4, g5, g6, g7⟩ := h
  rw [g4]
  refine s_rank hn hr ?_
  have hk := rk_lt hn hr
  refine s_cell (by decide) (show rk n r < 40320 from hk) ?_
  obtain ⟨s, s1, s2, s3⟩ := g7 _ hk
  rw [s2, g5]
  refine pk_le s base (fun z => ?_) (fun z => ?_) rfl rfl
  · intro y hy
    rw [nI_add, nI_suc] at hy
    subst hy
    refine s_setCell (by decide) (show rk n r < 40320 from hk) ?_
    have e17 : ∀ j, (hup σ 18 (rk n r) (nI (base + x + 1))) 17 j = σ 17 j := fun j => hup_ne _ _ (by decide)
    have etop : (if (hup σ 18 (rk n r) (nI (base + x + 1))) 17 3 < nI (base + x + 1) then nI (base + x + 1) else (hup σ 18 (rk n r) (nI (base + x + 1))) 17 3) = nI (max tp (base + x + 1)) := by
      rw [e17, g6]
      by_cases q : tp < base + x + 1
      · rw [if_pos (nI_lt q (by omega))]; congr 1; omega
      · rw [if_neg (nI_nlt (by omega) (by omega))]; congr 1; omega
    rw [etop]
    refine h0 (by omega) _ (fun j h1 h2 => by rw [hup_n _ _ _ h1, hup_n _ _ _ h2]) ⟨base, max tp (base + x + 1), g1, by omega, by omega, ?_, ?_, ?_, fun r' hr' => ?_⟩
    · rw [hup_at, if_neg (by decide), e17]; exact g4
    · rw [hup_at, if_neg (by decide), e17]; exact g5
    · rw [hup_at, if_pos rfl]
    · rw [hup_ne _ _ (by decide), hup_at]
      by_cases e : r' = rk n r
      · refine ⟨base + x + 1, by omega, by rw [if_pos e], ?_⟩
        unfold upN; rw [if_pos e]; omega
      · obtain ⟨s', a, b, c⟩ := g7 r' hr'
        refine ⟨s', by omega, by rw [if_neg e]; exact b, ?_⟩
        unfold upN; rw [if_neg e]; exact c
  · rw [pk_sub (by omega), show (1 : Int32) = nI 1 from rfl, pk_sub (by omega)]
    exact h1 _ (by omega)
theorem s_forget {σ : hSt} {n B : Nat} {f r : Nat → Nat} (hn : n ≤ 8) (hr : isP n r) (h : sn σ n B f) {Q : hSt → Prop}
    (hQ : ∀ σ', oth 18 σ σ' → sn σ' n B (upN f (rk n r) 0) → Q σ') : wp_X8_forget (nI (encR n r)) σ Q := by
  unfold wp_X8_forget
  obtain ⟨base, tp, g1, g2, g3, g4, g5, g6, g7⟩ := h
  rw [g4]
  refine s_rank hn hr ?_
  have hk := rk_lt hn hr
  refine s_setCell (by decide) (show rk n r < 40320 from hk) ?_
  refine hQ _ oth.rf.up ⟨base, tp, g1, g2, g3, ?_, ?_, ?_, fun r' hr' => ?_⟩
  · rw [hup_ne _ _ (by decide)]; exact g4
  · rw [hup_ne _ _ (by decide)]; exact g5
  · rw [hup_ne _ _ (by decide)]; exact g6
  · rw [hup_at]
    by_cases e : r' = rk n r
    · exact ⟨0, Nat.zero_le _, by rw [if_pos e]; rfl, by unfold upN; rw [if_pos e]; omega⟩
    · obtain ⟨s', a, b, c⟩ := g7 r' hr'
      exact ⟨s', a, by rw [if_neg e]; exact b, by unfold upN; rw [if_neg e]; exact c⟩
/-- the rows of a lead that is called c, and the head behind it -/
def rwc (n K : Nat) (μ : Nat → Nat) (c k : Nat) : Nat → Nat := if k = K then hdn n K μ c else rwn n μ k
theorem rwc_lt {n K c k : Nat} {μ : Nat → Nat} (h : k < K) : rwc n K μ c k = rwn n μ k := by unfold rwc; rw [if_neg (by omega)]
theorem rwc_K {n K c : Nat} {μ : Nat → Nat} : rwc n K μ c K = hdn n K μ c := by unfold rwc; rw [if_pos rfl]
theorem rwc_suc {n K c k : Nat} {μ : Nat → Nat} (h : k < K) : rwc n K μ c (k + 1) = fun x => rwc n K μ c k (b_pm n (μ (chm K k c)) x) := by
  rw [rwc_lt h]
  unfold chm
  by_cases e : k + 1 = K
  · rw [if_pos e, e, rwc_K]
    have : K - 1 = k := by omega
    unfold hdn; rw [this]
  · rw [if_neg e, rwc_lt (by omega)]; rfl
/-- how far the rows are told apart -/
def snT (σ : hSt) (n B : Nat) (T : Nat → Nat → Nat) (t : Nat) : Prop := noRep T t ∧ ∃ f, sn σ n B f ∧ (∀ a, a < t → f (rk n (T a)) = a + 1) ∧ ∀ ρ, f ρ ≠ 0 → ∃ a, a < t ∧ ρ = rk n (T a)
theorem snT.mv {σ σ' : hSt} {n B : Nat} {T : Nat → Nat → Nat} {t : Nat} (h : snT σ n B T t) (h1 : σ' 17 = σ 17) (h2 : σ' 18 = σ 18) : snT σ' n B T t := by
  obtain ⟨a, f, b, c⟩ := h
  exact ⟨a, f, b.mv h1 h2, c⟩
theorem s_noteT {σ : hSt} {n B t : Nat} {T : Nat → Nat → Nat} (hn : n ≤ 8) (hB : B ≤ 40000000) (hT : ∀ a, a ≤ t → PR n (T a)) (ht : t ≤ 64000) (h : snT σ n B T t) {Q : Int32 → hSt → Prop}
    (h0 : ∀ σ', ot2 17 σ σ' → snT σ' n B T (t + 1) → Q (-1) σ') (h1 : ∀ s, repAt T t s → Q (nI s) σ) : wp_X8_note (nI (encR n (T t))) (nI t) σ Q := by
  obtain ⟨hno, f, hs, hf, hz⟩ := h
  refine s_note hn hB (hT t (Nat.le_refl t)).isP ht hs (fun e σ' o hs' => ?_) (fun v e => ?_)
  · have hnew : ∀ b, b < t → T b ≠ T t := fun b hb q => by
      have := hf b hb
      rw [q, e] at this
      cases this
    refine h0 σ' o ⟨fun a ha b hb => ?_, _, hs', fun a ha => ?_, fun ρ hρ => ?_⟩
    · by_cases q : a = t
      · subst q; exact hnew b hb
      · exact hno a (by omega) b hb
    · unfold upN
      by_cases q : a = t
      · subst q; rw [if_pos rfl]
      · have : rk n (T a) ≠ rk n (T t) := fun q2 => hnew a (by omega) (rk_inj hn (hT a (by omega)) (hT t (Nat.le_refl t)) q2)
        rw [if_neg this]; exact hf a (by omega)
    · unfold upN at hρ
      by_cases q : ρ = rk n (T t)
      · exact ⟨t, by omega, q⟩
      · rw [if_neg q] at hρ
        obtain ⟨a, h1, h2⟩ := hz ρ hρ
        exact ⟨a, by omega, h2⟩
  · obtain ⟨a, ha, e2⟩ := hz (rk n (T t)) (by rw [e]; exact Nat.succ_ne_zero v)
    have e3 : T t = T a := rk_inj hn (hT t (Nat.le_refl t)) (hT a (by omega)) e2
    have e4 := hf a ha
    rw [← e3, e] at e4
    have : v = a := by omega
    subst this
    exact h1 v ⟨ha, e3.symm, hno⟩
theorem TT_PR {n : Nat} {Ks : Nat → Nat} {μs : Nat → Nat → Nat} {L : Nat} {lm lc : Nat → Nat} (hV : ∀ m, m < 6 → vM n (Ks m) (μs m)) (hOK : lOK Ks lm lc L) {q i k : Nat} (hi : i < L) (hk : k < Ks (lm i)) : PR n (TT n Ks μs L lm lc (q * FR Ks lm L + FR Ks lm i + k)) := by
  rw [TT_is hi hk]
  exact (itr_PR (HL_PR hV hOK (Nat.le_refl L)) q).comp ((HL_PR hV hOK (by omega)).comp (rwn_PR (hV _ (hOK i hi).1) (by omega)))
/-- every row of the touch lies in a lead -/
theorem FR_find {Ks lm : Nat → Nat} : ∀ {L u : Nat}, u < FR Ks lm L → ∃ i k, i < L ∧ k < Ks (lm i) ∧ u = FR Ks lm i + k
  | 0, u, h => absurd h (Nat.not_lt_zero u)
  | L + 1, u, h => by
    have h' : u < FR Ks lm L + Ks (lm L) := h
    rcases Nat.lt_or_ge u (FR Ks lm L) with z | z
    · obtain ⟨i, k, a, b, c⟩ := FR_find z
      exact ⟨i, k, by omega, b, c⟩
    · exact ⟨L, u - FR Ks lm L, by omega, by omega, by omega⟩
theorem TT_PRt {n : Nat} {Ks : Nat → Nat} {μs : Nat → Nat → Nat} {L : Nat} {lm lc : Nat → Nat} (hV : ∀ m, m < 6 → vM n (Ks m) (μs m)) (hOK : lOK Ks lm lc L) (hN : 0 < FR Ks lm L) (t : Nat) : PR n (TT n Ks μs L lm lc t) := by
  obtain ⟨i, k, a, b, c⟩ := FR_find (Nat.mod_lt t hN)
  have hd := Nat.div_add_mod t (FR Ks lm L)
  have e : t = (t / FR Ks lm L) * FR Ks lm L + FR Ks lm i + k := by rw [Nat.mul_comm]; omega
  rw [e]
  exact TT_PR hV hOK a b

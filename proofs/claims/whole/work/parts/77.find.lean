/-! find: the reference's search. -/
def fbody (P135 : Int32 → Int32 → hSt → Prop) (Q : Int32 → hSt → Prop) (a1 a2 : Int32) (w : Nat → Int64) (v4_18 v5_22 : Int32) (σ23 : hSt) : Prop :=
  (vp_in v4_18 201 ∧ ((¬ (σ23 20 (v4_18).toNatClampNeg) = (3 : Int32) → (vp_in v4_18 201 ∧ (∀ x6_27 : Int32, x6_27 = (σ23 20 (v4_18).toNatClampNeg) → (vp_in v4_18 201 ∧ (vp_in v4_18 201 ∧ (hL2 (fun P278 (v7_30 : Int32) (σ31 : hSt) => (((σ31 0 1) ≤ v7_30 → (wp_X12_ringLead 14 a1 x6_27 σ31 w (fun σ33 => ((¬ (v4_18 + (1 : Int32)) = a2 → (∀ x4_35 : Int32, x4_35 = v4_18 + (1 : Int32) → (hL2 (fun P398 (v7_36 : Int32) (σ37 : hSt) => (((σ37 0 1) ≤ v7_36 → (P135 x4_35 (1 : Int32) σ37)) ∧ (¬ (σ37 0 1) ≤ v7_36 → (vp_in v7_36 8 ∧ (vp_in (((8 : Int32) * x4_35) + v7_36) 1608 ∧ (∀ x7_41 : Int32, x7_41 = v7_36 + (1 : Int32) → (P398 x7_41 (hup σ37 19 ((((8 : Int32) * x4_35) + v7_36)).toNatClampNeg (σ37 14 (v7_36).toNatClampNeg))))))))) (0 : Int32) σ33))) ∧ ((v4_18 + (1 : Int32)) = a2 → (wp_X12_isRounds 14 σ33 w (fun r43 => ((¬ r43 = 0 → (hL2 (fun P354 (v7_45 : Int32) (σ46 : hSt) => ((a2 ≤ v7_45 → (Q (0 : Int32) σ46)) ∧ (¬ a2 ≤ v7_45 → (vp_in v7_45 1000 ∧ (vp_in v7_45 201 ∧ (vp_in v7_45 1000 ∧ (∀ x7_51 : Int32, x7_51 = v7_45 + (1 : Int32) → (P354 x7_51 (hup (hup σ46 3 (v7_45).toNatClampNeg a1) 4 (v7_45).toNatClampNeg (((hup σ46 3 (v7_45).toNatClampNeg a1) 20 (v7_45).toNatClampNeg) - (1 : Int32))))))))))) (0 : Int32) (hup σ33 0 6 a2))) ∧ (r43 = 0 → (P135 v4_18 v5_22 σ33)))))))))) ∧ (¬ (σ31 0 1) ≤ v7_30 → (vp_in (((8 : Int32) * v4_18) + v7_30) 1608 ∧ (vp_in v7_30 8 ∧ (∀ x7_54 : Int32, x7_54 = v7_30 + (1 : Int32) → (P278 x7_54 (hup σ31 14 (v7_30).toNatClampNeg (σ31 19 ((((8 : Int32) * v4_18) + v7_30)).toNatClampNeg))))))))) (0 : Int32) (hup σ23 20 (v4_18).toNatClampNeg ((σ23 20 (v4_18).toNatClampNeg) + (1 : Int32))))))))) ∧ ((σ23 20 (v4_18).toNatClampNeg) = (3 : Int32) → (vp_in a1 6 ∧ (wp_X12_put a1 v4_18 (σ23 1 (a1).toNatClampNeg) (0 : Int32) σ23 w (fun r57 σ56 => (∀ x4_58 : Int32, x4_58 = v4_18 + (-1 : Int32) → (P135 x4_58 v5_22 σ56))))))))
def rgS (τ : hSt) (n K : Nat) (μ c : Nat → Nat) (t : Nat) : Prop := ∀ ρ, ρ < 40320 → (τ 21 ρ ≠ 0 ↔ inR (Gk n K μ c) t ρ = true)
theorem rgS.mv {τ τ' : hSt} {n K t : Nat} {μ c : Nat → Nat} (h : rgS τ n K μ c t) (h1 : τ' 21 = τ 21) : rgS τ' n K μ c t := fun ρ hρ => by rw [h1]; exact h ρ hρ
def wayS (τ : hSt) (n K : Nat) (μ c : Nat → Nat) (k : Nat) : Prop := ∀ i, i < n → τ 19 (8 * k + i) = nI (hh n K μ c k i + 1)
def kpU (τ τ' : hSt) : Prop := ∀ k, k ≠ 14 → k ≠ 21 → τ' k = τ k
theorem kpU.rf {τ : hSt} : kpU τ τ := fun _ _ _ => rfl
theorem kpU.tr {a b c : hSt} (h : kpU a b) (h2 : kpU b c) : kpU a c := fun k p q => by rw [h2 k p q, h k p q]
theorem kpU.o14 {a b : hSt} (h : oth 14 a b) : kpU a b := fun k p _ => h k p
theorem ix8 {d i : Nat} (hd : d ≤ 200) (hi : i < 8) : vp_in (((8 : Int32) * nI d) + nI i) 1608 ∧ (((8 : Int32) * nI d) + nI i).toNatClampNeg = 8 * d + i := by
  rw [show (8 : Int32) = nI 8 from rfl, pk_mul, nI_add]
  exact ⟨vp_in_nI (by omega) (by decide), nI_clamp (by omega)⟩
theorem t_put {τ : hSt} {w : Nat → Int64} {n K m d up : Nat} {μ c : Nat → Nat} (hn : n ≤ 8) (hm : m < 6) (hv : vM n K μ) (hK : 0 < K) (h0 : τ 0 1 = nI n) (hM : rM τ m K μ) (hc : cOK c d) (hd : d ≤ 200) (hw : wayS τ n K μ c d) (hupK : up ≤ K) (a4 : Int32) {Q : Int32 → hSt → Prop}
    (I : Nat → hSt → Prop) (hI0 : ∀ τ', kpU τ τ' → τ' 21 = τ 21 → I 0 τ')
    (hstep : ∀ j τ', j < up → kpU τ τ' → I j τ' → (¬ a4 = 0 → ¬ (τ' 21 (Gk n K μ c (d * K + j))) = 0 → Q (nI j) τ') ∧ ((a4 = 0 ∨ (τ' 21 (Gk n K μ c (d * K + j))) = 0) → ∀ τ2, oth 14 (hup τ' 21 (Gk n K μ c (d * K + j)) (vp_nar .boolean a4)) τ2 → I (j + 1) τ2))
    (hQ : ∀ τ', kpU τ τ' → I up τ' → Q (nI up) τ') : wp_X12_put (nI m) (nI d) (nI up) a4 τ w Q := by
  unfold wp_X12_put
  have h64 := hv.1
  have hH := hh_PR hv hK hc
  refine hL2_in (fun v5 τ2 => ∃ i, i ≤ n ∧ v5 = nI i ∧ oth 14 τ τ2 ∧ aR τ2 14 i (hh n K μ c d)) (fun v5 _ => n - v5.toNatClampNeg) ?_ ⟨0, Nat.zero_le _, rfl, oth.rf, fun i hi => absurd hi (Nat.not_lt_zero i)⟩
  rintro P _ τ2 ⟨i, hi, rfl, o2, r2⟩ ih
  have e0 : τ2 0 1 = nI n := by rw [o2 0 (by decide)]; exact h0
  refine pk_le n i (fun z => ?_) (fun z => ?_) e0 rfl
  rotate_left
  · obtain ⟨g1, g2⟩ := ix8 hd (show i < 8 by omega)
    refine ⟨g1, vp_in_nI (by omega) (by decide), ?_⟩
    intro x hx
    rw [nI_suc] at hx
    subst hx
    rw [g2, nI_clamp (by omega), o2 19 (by decide), hw i z]
    refine ih _ _ ⟨i + 1, by omega, rfl, o2.up, fun j hj => ?_⟩ (by rw [nI_clamp (by omega), nI_clamp (by omega)]; omega)
    rw [hup_at]
    by_cases e : j = i
    · subst e; rw [if_pos rfl]
    · rw [if_neg e]; exact r2 j (by omega)
  have ei : i = n := by omega
  subst ei
  have k2 : kpU τ τ2 := kpU.o14 o2
  refine hL2_in (fun v5 τ3 => ∃ j, j ≤ up ∧ v5 = nI j ∧ kpU τ τ3 ∧ I j τ3 ∧ aR τ3 14 i (fun x => hh i K μ c d (rwn i μ j x))) (fun v5 _ => up - v5.toNatClampNeg) ?_ ⟨0, Nat.zero_le _, rfl, k2, hI0 τ2 k2 (o2 21 (by decide)), r2⟩
  rintro P2 _ τ3 ⟨j, hj, rfl, k3, I3, r3⟩ ih2
  have e3 : τ3 0 1 = nI i := by rw [k3 0 (by decide) (by decide)]; exact h0
  refine pk_le up j (fun z2 => ?_) (fun z2 => ?_) rfl rfl
  · have ej : j = up := by omega
    subst ej
    exact hQ τ3 k3 I3
  have hR := hH.comp (rwn_PR hv (k := j) (by omega))
  have eG : Gk i K μ c (d * K + j) = rk i (fun x => hh i K μ c d (rwn i μ j x)) := by unfold Gk; rw [RwK_is (by omega)]
  have hlt := rk_lt hn hR.isP
  refine t_rank hn hR.isP e3 r3 ?_
  rw [← eG] at hlt ⊢
  have hin : vp_in (nI (Gk i K μ c (d * K + j))) 40320 := vp_in_nI hlt (by decide)
  obtain ⟨s1, s2⟩ := hstep j τ3 z2 k3 I3
  dsimp only [hM_]
  have go : (a4 = 0 ∨ (τ3 21 (Gk i K μ c (d * K + j))) = 0) → (vp_in (nI (Gk i K μ c (d * K + j))) 40320 ∧ (vp_in (((66 : Int32) * nI m) + nI j) 396 ∧ (wp_X12_ring 14 ((hup τ3 21 (nI (Gk i K μ c (d * K + j))).toNatClampNeg (vp_nar .boolean a4)) 2 ((((66 : Int32) * nI m) + nI j)).toNatClampNeg) (hup τ3 21 (nI (Gk i K μ c (d * K + j))).toNatClampNeg (vp_nar .boolean a4)) w (fun σ11 => (∀ x5_12 : Int32, x5_12 = nI j + (1 : Int32) → (P2 x5_12 σ11)))))) := fun hz => by
    obtain ⟨-, g2, g3⟩ := ix66 hm (k := j) (by omega)
    refine ⟨hin, g2, ?_⟩
    rw [g3, nI_clamp (by omega)]
    have k4 : kpU τ (hup τ3 21 (Gk i K μ c (d * K + j)) (vp_nar .boolean a4)) := fun k p q => by rw [hup_n _ _ _ q]; exact k3 k p q
    have e4 : (hup τ3 21 (Gk i K μ c (d * K + j)) (vp_nar .boolean a4)) 2 (66 * m + j) = nI (μ j) := by rw [k4 2 (by decide) (by decide)]; exact hM.2 j (Or.inl (by omega)) hK
    rw [e4]
    have hx := hv.2 j (Or.inl (by omega))
    refine t_ring hn (by decide) hx.1 (by omega) (by rw [k4 0 (by decide) (by decide)]; exact h0) (r := fun x => hh i K μ c d (rwn i μ j x)) (fun l hl => by rw [hup_ne _ _ (by decide)]; exact r3 l hl) (fun τ5 o5 r5 => ?_)
    intro x hx2
    rw [nI_suc] at hx2
    subst hx2
    exact ih2 _ _ ⟨j + 1, by omega, rfl, k4.tr (kpU.o14 o5), s2 hz τ5 o5, r5⟩ (by rw [nI_clamp (by omega), nI_clamp (by omega)]; omega)
  refine ⟨fun q => go (Or.inl q), fun q => ⟨hin, ?_⟩⟩
  have s1' := s1 q
  rw [show (τ3 21 (nI (Gk i K μ c (d * K + j))).toNatClampNeg) = τ3 21 (Gk i K μ c (d * K + j)) by rw [nI_clamp (by omega)]]
  exact ⟨fun q2 => go (Or.inr q2), fun q2 => s1' q2⟩
theorem t_putUp {τ : hSt} {w : Nat → Int64} {n K m d : Nat} {μ c : Nat → Nat} (hn : n ≤ 8) (hm : m < 6) (hv : vM n K μ) (hK : 0 < K) (h0 : τ 0 1 = nI n) (hM : rM τ m K μ) (hc : cOK c d) (hd : d ≤ 200) (hw : wayS τ n K μ c d) (hr : rgS τ n K μ c (d * K)) {Q : Int32 → hSt → Prop}
    (h1 : goodB n K μ c d = true → ∀ τ', kpU τ τ' → rgS τ' n K μ c (d * K + K) → Q (nI K) τ')
    (h2 : ∀ j τ', j < K → goodB n K μ c d = false → kpU τ τ' → (∀ i, i < j → inR (Gk n K μ c) (d * K + i) (Gk n K μ c (d * K + i)) = false) → rgS τ' n K μ c (d * K + j) → Q (nI j) τ') : wp_X12_put (nI m) (nI d) (nI K) 1 τ w Q := by
  have hlt : ∀ j, j < K → Gk n K μ c (d * K + j) < 40320 := fun j hj => rk_lt hn (RwK_PR hv hK hc (by rw [Nat.add_mul, Nat.one_mul]; omega)).isP
  refine t_put hn hm hv hK h0 hM hc hd hw (Nat.le_refl K) 1 (fun j τ' => rgS τ' n K μ c (d * K + j) ∧ ∀ i, i < j → inR (Gk n K μ c) (d * K + i) (Gk n K μ c (d * K + i)) = false) (fun τ' k e => ⟨hr.mv e, fun i hi => absurd hi (Nat.not_lt_zero i)⟩) (fun j τ' hj k ⟨hI, hnew⟩ => ⟨fun _ q => ?_, fun q τ2 o2 => ⟨fun ρ hρ => ?_, fun i hi => ?_⟩⟩) (fun τ' k ⟨hI, hnew⟩ => h1 (goodB_iff.mpr hnew) τ' k hI)
  · refine h2 j τ' hj ?_ k hnew hI
    have hy := (hI _ (hlt j hj)).mp q
    cases e : goodB n K μ c d with
    | false => rfl
    | true =>
      have := goodB_iff.mp e j hj
      rw [hy] at this; cases this
  · have q0 : τ' 21 (Gk n K μ c (d * K + j)) = 0 := q.elim (fun h => absurd h (by decide)) (fun h => h)
    rw [o2 21 (by decide), hup_at]
    show _ ↔ (inR (Gk n K μ c) (d * K + j) ρ || decide (Gk n K μ c (d * K + j) = ρ)) = true
    by_cases e : ρ = Gk n K μ c (d * K + j)
    · rw [if_pos e]; subst e
      exact ⟨fun _ => by simp, fun _ => by decide⟩
    · have e' : ¬ Gk n K μ c (d * K + j) = ρ := fun q => e q.symm
      rw [if_neg e, hI ρ hρ]; simp [e']
  · have q0 : τ' 21 (Gk n K μ c (d * K + j)) = 0 := q.elim (fun h => absurd h (by decide)) (fun h => h)
    by_cases e : i = j
    · subst e
      cases e2 : inR (Gk n K μ c) (d * K + i) (Gk n K μ c (d * K + i)) with
      | false => rfl
      | true => exact absurd q0 ((hI _ (hlt i hj)).mpr e2)
    · exact hnew i (by omega)
theorem t_putDown {τ : hSt} {w : Nat → Int64} {n K m d up : Nat} {μ c : Nat → Nat} (hn : n ≤ 8) (hm : m < 6) (hv : vM n K μ) (hK : 0 < K) (h0 : τ 0 1 = nI n) (hM : rM τ m K μ) (hc : cOK c d) (hd : d ≤ 200) (hw : wayS τ n K μ c d) (hupK : up ≤ K) (hnew : ∀ i, i < up → inR (Gk n K μ c) (d * K + i) (Gk n K μ c (d * K + i)) = false) (hr : rgS τ n K μ c (d * K + up)) {Q : Int32 → hSt → Prop}
    (h1 : ∀ τ', kpU τ τ' → rgS τ' n K μ c (d * K) → Q (nI up) τ') : wp_X12_put (nI m) (nI d) (nI up) 0 τ w Q := by
  have hne : ∀ i j, i < j → j < up → Gk n K μ c (d * K + i) ≠ Gk n K μ c (d * K + j) := fun i j hij hj e => by
    have h1 := hnew j hj
    rw [inR_iff.mpr ⟨d * K + i, by omega, e⟩] at h1; cases h1
  have hlo : ∀ j, j < up → inR (Gk n K μ c) (d * K) (Gk n K μ c (d * K + j)) = false := fun j hj => by
    cases e : inR (Gk n K μ c) (d * K) (Gk n K μ c (d * K + j)) with
    | false => rfl
    | true =>
      obtain ⟨a, h1, h2⟩ := inR_iff.mp e
      have h3 := hnew j hj
      rw [inR_iff.mpr ⟨a, by omega, h2⟩] at h3; cases h3
  refine t_put hn hm hv hK h0 hM hc hd hw hupK 0 (fun i τ' => ∀ ρ, ρ < 40320 → (τ' 21 ρ ≠ 0 ↔ (inR (Gk n K μ c) (d * K) ρ = true ∨ ∃ j, i ≤ j ∧ j < up ∧ Gk n K μ c (d * K + j) = ρ))) (fun τ' k e ρ hρ => ?_) (fun j τ' hj k hI => ⟨fun q => absurd rfl q, fun _ τ2 o2 ρ hρ => ?_⟩) (fun τ' k hI => h1 τ' k (fun ρ hρ => ?_))
  · rw [e, hr ρ hρ]
    constructor
    · intro h
      obtain ⟨a, ha, e⟩ := inR_iff.mp h
      rcases Nat.lt_or_ge a (d * K) with q | q
      · exact Or.inl (inR_iff.mpr ⟨a, q, e⟩)
      · exact Or.inr ⟨a - d * K, Nat.zero_le _, by omega, by rw [show d * K + (a - d * K) = a by omega]; exact e⟩
    · rintro (h | ⟨j, -, hj, e⟩)
      · obtain ⟨a, ha, e⟩ := inR_iff.mp h
        exact inR_iff.mpr ⟨a, by omega, e⟩
      · exact inR_iff.mpr ⟨d * K + j, by omega, e⟩
  · rw [o2 21 (by decide), hup_at]
    by_cases e : ρ = Gk n K μ c (d * K + j)
    · rw [if_pos e]
      subst e
      constructor
      · intro h; exact absurd rfl h
      · rintro (h | ⟨i, h1, h2, h3⟩)
        · rw [hlo j hj] at h; cases h
        · exact absurd h3.symm (hne j i (by omega) h2)
    · rw [if_neg e, hI ρ hρ]
      constructor
      · rintro (h | ⟨i, h1, h2, h3⟩)
        · exact Or.inl h
        · refine Or.inr ⟨i, ?_, h2, h3⟩
          have : i ≠ j := fun q => e (by rw [← h3, q])
          omega
      · rintro (h | ⟨i, h1, h2, h3⟩)
        · exact Or.inl h
        · exact Or.inr ⟨i, by omega, h2, h3⟩
  · rw [hI ρ hρ]
    constructor
    · rintro (h | ⟨j, h1, h2, -⟩)
      · exact h
      · omega
    · exact Or.inl
/-- what the search leaves as it is -/
def kpZ (τ τ' : hSt) : Prop := (∀ k, k ≠ 0 → k ≠ 14 → k ≠ 19 → k ≠ 20 → k ≠ 21 → τ' k = τ k) ∧ ∀ j, j ≠ 37 → τ' 0 j = τ 0 j
theorem kpZ.rf {τ : hSt} : kpZ τ τ := ⟨fun _ _ _ _ _ _ => rfl, fun _ _ => rfl⟩
theorem kpZ.tr {a b c : hSt} (h : kpZ a b) (h2 : kpZ b c) : kpZ a c := ⟨fun k p q r s t => by rw [h2.1 k p q r s t, h.1 k p q r s t], fun j p => by rw [h2.2 j p, h.2 j p]⟩
theorem kpZ.u {a b : hSt} (h : kpU a b) : kpZ a b := ⟨fun k _ q _ _ t => h k q t, fun j _ => by rw [h 0 (by decide) (by decide)]⟩
theorem kpZ.hk {a : hSt} {k i : Nat} {v : Int32} (hk : k = 14 ∨ k = 19 ∨ k = 20 ∨ k = 21) : kpZ a (hup a k i v) := ⟨fun j _ q r s t => hup_n _ _ _ (by omega), fun j _ => hup_ne _ _ (by omega)⟩
theorem kpZ.h37 {a : hSt} {v : Int32} : kpZ a (hup a 0 37 v) := ⟨fun j p _ _ _ _ => hup_n _ _ _ p, fun j p => by rw [hup_at, if_neg p]⟩
theorem hh_up {n K d a : Nat} {μ c : Nat → Nat} : hh n K μ (upN c d a) (d + 1) = fun x => hh n K μ c d (hdn n K μ a x) := by
  show (fun x => hh n K μ (upN c d a) d (hdn n K μ (upN c d a d) x)) = _
  rw [upN_same, hh_congr (e := c) (fun j hj => upN_lt hj)]
theorem rgS_up {τ : hSt} {n K d a : Nat} {μ c : Nat → Nat} (hK : 0 < K) (h : rgS τ n K μ c (d * K + K)) : rgS τ n K μ (upN c d a) ((d + 1) * K) := fun ρ hρ => by
  have e : (d + 1) * K = d * K + K := by rw [Nat.add_mul, Nat.one_mul]
  rw [e, h ρ hρ, inR_congr (q := Gk n K μ (upN c d a)) (fun j hj => Gk_congr (d := d) hK (fun k hk => (upN_lt hk).symm) (by rw [e]; exact hj))]
/-- one more way to call the last lead -/
theorem t_try {τ : hSt} {w : Nat → Int64} {n K m d N a : Nat} {μ c : Nat → Nat} {v5 : Int32} {P : Int32 → Int32 → hSt → Prop} {Q : Int32 → hSt → Prop} (hn : n ≤ 8) (hm : m < 6) (hv : vM n K μ) (hK : 0 < K) (h0 : τ 0 1 = nI n) (hM : rM τ m K μ) (hc : cOK c d) (hdN : d < N) (hN : N ≤ 200) (ha : a ≤ 2) (hw : ∀ k, k ≤ d → wayS τ n K μ c k) (hnx : ∀ k, k < d → τ 20 k = nI (c k + 1)) (hna : τ 20 d = nI a)
    (hdeep : d + 1 < N → ∀ τ', kpZ τ τ' → τ' 0 37 = τ 0 37 → τ' 21 = τ 21 → (∀ k, k ≤ d + 1 → wayS τ' n K μ (upN c d a) k) → (∀ k, k < d + 1 → τ' 20 k = nI (upN c d a k + 1)) → P (nI (d + 1)) 1 τ')
    (hfound : d + 1 = N → homeB n K μ c d a = true → ∀ τ', kpZ τ τ' → τ' 0 37 = τ 0 37 → (∀ k, k < d + 1 → τ' 20 k = nI (upN c d a k + 1)) → hL2 (fun P354 (v7_45 : Int32) (σ46 : hSt) => ((nI N ≤ v7_45 → (Q (0 : Int32) σ46)) ∧ (¬ nI N ≤ v7_45 → (vp_in v7_45 1000 ∧ (vp_in v7_45 201 ∧ (vp_in v7_45 1000 ∧ (∀ x7_51 : Int32, x7_51 = v7_45 + (1 : Int32) → (P354 x7_51 (hup (hup σ46 3 (v7_45).toNatClampNeg (nI m)) 4 (v7_45).toNatClampNeg (((hup σ46 3 (v7_45).toNatClampNeg (nI m)) 20 (v7_45).toNatClampNeg) - (1 : Int32))))))))))) (0 : Int32) (hup τ' 0 6 (nI N)))
    (hno : d + 1 = N → homeB n K μ c d a = false → ∀ τ', kpZ τ τ' → τ' 0 37 = τ 0 37 → τ' 21 = τ 21 → (∀ k, k ≤ d → wayS τ' n K μ c k) → (∀ k, k < d → τ' 20 k = nI (c k + 1)) → τ' 20 d = nI (a + 1) → P (nI d) v5 τ') : fbody P Q (nI m) (nI N) w (nI d) v5 τ := by
  unfold fbody
  have hind : vp_in (nI d) 201 := vp_in_nI (by omega) (by decide)
  have hcd : (nI d).toNatClampNeg = d := nI_clamp (by omega)
  have hH := hh_PR hv hK hc
  rw [hcd, hna]
  refine ⟨hind, ⟨fun _ => ?_, fun q => ?_⟩⟩
  rotate_left
  · have := (nI_eq (a := a) (b := 3) (by omega) (by decide)).mp q
    omega
  refine ⟨hind, ?_⟩
  intro x6 hx6
  subst hx6
  refine ⟨hind, hind, ?_⟩
  rw [show nI a + (1 : Int32) = nI (a + 1) from nI_suc a]
  have k1 : kpZ τ (hup τ 20 d (nI (a + 1))) := kpZ.hk (Or.inr (Or.inr (Or.inl rfl)))
  refine hL2_in (fun v7 τ2 => ∃ i, i ≤ n ∧ v7 = nI i ∧ oth 14 (hup τ 20 d (nI (a + 1))) τ2 ∧ aR τ2 14 i (hh n K μ c d)) (fun v7 _ => n - v7.toNatClampNeg) ?_ ⟨0, Nat.zero_le _, rfl, oth.rf, fun i hi => absurd hi (Nat.not_lt_zero i)⟩
  rintro P2 _ τ2 ⟨i, hi, rfl, o2, r2⟩ ih
  have e0 : τ2 0 1 = nI n := by rw [o2 0 (by decide), hup_ne _ _ (by decide)]; exact h0
  refine pk_le n i (fun z => ?_) (fun z => ?_) e0 rfl
  rotate_left
  · obtain ⟨g1, g2⟩ := ix8 (show d ≤ 200 by omega) (show i < 8 by omega)
    refine ⟨g1, vp_in_nI (by omega) (by decide), ?_⟩
    intro x hx
    rw [nI_suc] at hx
    subst hx
    rw [g2, nI_clamp (by omega), o2 19 (by decide), hup_ne _ _ (by decide), hw d (Nat.le_refl d) i z]
    refine ih _ _ ⟨i + 1, by omega, rfl, o2.up, fun j hj => ?_⟩ (by rw [nI_clamp (by omega), nI_clamp (by omega)]; omega)
    rw [hup_at]
    by_cases e : j = i
    · subst e; rw [if_pos rfl]
    · rw [if_neg e]; exact r2 j (by omega)
  have ei : i = n := by omega
  subst ei
  have M2 : rM τ2 m K μ := hM.mv (by rw [o2 1 (by decide), hup_n _ _ _ (by decide)]) (by rw [o2 2 (by decide), hup_n _ _ _ (by decide)])
  refine t_ringLead hn (by decide) hm ha hK hv e0 M2 r2 (fun τ3 o3 r3 => ?_)
  have o13 := o2.tr o3
  have k3 : kpZ τ τ3 := k1.tr (kpZ.u (kpU.o14 o13))
  have l3 : τ3 0 37 = τ 0 37 := by rw [o13 0 (by decide), hup_ne _ _ (by decide)]
  have g21 : τ3 21 = τ 21 := by rw [o13 21 (by decide), hup_n _ _ _ (by decide)]
  have g19 : τ3 19 = τ 19 := by rw [o13 19 (by decide), hup_n _ _ _ (by decide)]
  have g20 : ∀ k, τ3 20 k = if k = d then nI (a + 1) else τ 20 k := fun k => by rw [o13 20 (by decide), hup_at]
  have nx3 : ∀ k, k < d + 1 → τ3 20 k = nI (upN c d a k + 1) := fun k hk => by
    rw [g20 k]
    by_cases e : k = d
    · rw [if_pos e, e, upN_same]
    · rw [if_neg e, hnx k (by omega), upN_lt (by omega)]
  rw [show nI d + (1 : Int32) = nI (d + 1) from nI_suc d]
  refine pk_en (d + 1) N (fun z2 => ?_) (fun z2 => ?_) rfl rfl
  · intro x4 hx4
    subst hx4
    refine hL2_in (fun v7 τ4 => ∃ j, j ≤ i ∧ v7 = nI j ∧ oth 19 τ3 τ4 ∧ (∀ l, l < 8 * (d + 1) → τ4 19 l = τ 19 l) ∧ ∀ l, l < j → τ4 19 (8 * (d + 1) + l) = nI (hh i K μ (upN c d a) (d + 1) l + 1)) (fun v7 _ => i - v7.toNatClampNeg) ?_ ⟨0, Nat.zero_le _, rfl, oth.rf, fun l _ => by rw [g19], fun l hl => absurd hl (Nat.not_lt_zero l)⟩
    rintro P3 _ τ4 ⟨j, hj, rfl, o4, w4, v4⟩ ih3
    refine pk_le i j (fun z3 => ?_) (fun z3 => ?_) (show τ4 0 1 = nI i by rw [o4 0 (by decide), o13 0 (by decide), hup_ne _ _ (by decide)]; exact h0) rfl
    · have ej : j = i := by omega
      subst ej
      refine hdeep (by omega) τ4 (k3.tr ⟨fun k _ _ q _ _ => o4 k q, fun l _ => by rw [o4 0 (by decide)]⟩) (by rw [o4 0 (by decide)]; exact l3) (by rw [o4 21 (by decide)]; exact g21) (fun k hk l hl => ?_) (fun k hk => by rw [o4 20 (by decide)]; exact nx3 k hk)
      by_cases e : k = d + 1
      · subst e; exact v4 l hl
      · rw [w4 _ (by omega), hw k (by omega) l hl, hh_congr (e := upN c d a) (fun q hq => (upN_lt (by omega)).symm)]
    · obtain ⟨g1, g2⟩ := ix8 (d := d + 1) (i := j) (by omega) (by omega)
      refine ⟨vp_in_nI (by omega) (by decide), g1, ?_⟩
      intro x hx
      rw [nI_suc] at hx
      subst hx
      rw [g2, nI_clamp (by omega), o4 14 (by decide), r3 j z3]
      refine ih3 _ _ ⟨j + 1, by omega, rfl, o4.up, fun l hl => by rw [hup_at, if_neg (by omega)]; exact w4 l hl, fun l hl => ?_⟩ (by rw [nI_clamp (by omega), nI_clamp (by omega)]; omega)
      rw [hup_at]
      by_cases e : l = j
      · subst e; rw [if_pos rfl, hh_up]
      · rw [if_neg (by omega)]; exact v4 l (by omega)
  · have e3 : τ3 0 1 = nI i := by rw [o13 0 (by decide), hup_ne _ _ (by decide)]; exact h0
    refine t_isRounds hn (hH.comp (hdn_PR hv hK ha)) e3 r3 (fun q => ?_) (fun q => ?_)
    · refine br_y (by decide) ?_
      exact hfound z2 ((homeB_iff hv hK hc ha).mpr q) τ3 k3 l3 nx3
    · refine br_x rfl ?_
      have hb : homeB i K μ c d a = false := by
        cases e : homeB i K μ c d a with
        | false => rfl
        | true => exact absurd ((homeB_iff hv hK hc ha).mp e) q
      refine hno z2 hb τ3 k3 l3 g21 (fun k hk l hl => by rw [g19]; exact hw k hk l hl) (fun k hk => ?_) (by rw [g20, if_pos rfl])
      rw [g20, if_neg (by omega)]; exact hnx k hk

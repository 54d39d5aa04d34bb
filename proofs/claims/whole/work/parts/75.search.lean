/-! find: the search, as a function. -/
def hh (n K : Nat) (μ c : Nat → Nat) : Nat → Nat → Nat
  | 0 => fun x => x
  | k + 1 => fun x => hh n K μ c k (hdn n K μ (c k) x)
def RwK (n K : Nat) (μ c : Nat → Nat) (t : Nat) : Nat → Nat := fun x => hh n K μ c (t / K) (rwn n μ (t % K) x)
def Gk (n K : Nat) (μ c : Nat → Nat) (t : Nat) : Nat := rk n (RwK n K μ c t)
def goodB (n K : Nat) (μ c : Nat → Nat) (d : Nat) : Bool := allB (fun j => !(inR (Gk n K μ c) (d * K + j) (Gk n K μ c (d * K + j)))) K
def homeB (n K : Nat) (μ c : Nat → Nat) (d a : Nat) : Bool := allB (fun i => decide (hh n K μ c d (hdn n K μ a i) = i)) n
def tb : Nat → (Nat → Nat) → Option (Nat × (Nat → Nat))
  | 0, _ => none
  | d + 1, c => if c d < 2 then some (d + 1, upN c d (c d + 1)) else tb d c
def aft (F : Nat → (Nat → Nat) → Nat × Nat × (Nat → Nat)) (m : Nat) (c : Nat → Nat) (o : Option (Nat × (Nat → Nat))) : Nat × Nat × (Nat → Nat) := match o with
  | none => (1, m, c)
  | some q => F q.1 q.2
/-- the answer, how many looks are left then, the calls -/
def srch (n K : Nat) (μ : Nat → Nat) (N : Nat) : Nat → Nat → (Nat → Nat) → Nat × Nat × (Nat → Nat)
  | 0, _, c => (2, 0, c)
  | m + 1, d, c =>
    if goodB n K μ c d = true then
      if d + 1 < N then srch n K μ N m (d + 1) (upN c d 0)
      else if homeB n K μ c d 0 = true then (0, m, upN c d 0)
      else if homeB n K μ c d 1 = true then (0, m, upN c d 1)
      else if homeB n K μ c d 2 = true then (0, m, upN c d 2)
      else aft (srch n K μ N m) m c (tb (d + 1) (upN c d 2))
    else aft (srch n K μ N m) m c (tb d c)
def cOK (c : Nat → Nat) (d : Nat) : Prop := ∀ k, k < d → c k ≤ 2
theorem hh_congr {n K : Nat} {μ c e : Nat → Nat} : ∀ {k : Nat}, (∀ j, j < k → c j = e j) → hh n K μ c k = hh n K μ e k
  | 0, _ => rfl
  | k + 1, h => by
    show (fun x => hh n K μ c k (hdn n K μ (c k) x)) = fun x => hh n K μ e k (hdn n K μ (e k) x)
    rw [hh_congr (k := k) (fun j hj => h j (by omega)), h k (by omega)]
theorem hh_PR {n K : Nat} {μ c : Nat → Nat} (hv : vM n K μ) (hK : 0 < K) : ∀ {d : Nat}, cOK c d → PR n (hh n K μ c d)
  | 0, _ => PR_id n
  | d + 1, h => (hh_PR hv hK (d := d) (fun k hk => h k (by omega))).comp (hdn_PR hv hK (h d (by omega)))
theorem RwK_is {n K k j : Nat} {μ c : Nat → Nat} (hj : j < K) : RwK n K μ c (k * K + j) = fun x => hh n K μ c k (rwn n μ j x) := by
  unfold RwK
  rw [Nat.mul_comm, Nat.mul_add_div (by omega), Nat.div_eq_of_lt hj, Nat.mul_add_mod, Nat.mod_eq_of_lt hj, Nat.add_zero]
theorem RwK_PR {n K t d : Nat} {μ c : Nat → Nat} (hv : vM n K μ) (hK : 0 < K) (hc : cOK c d) (ht : t < (d + 1) * K) : PR n (RwK n K μ c t) := by
  have h1 : t / K ≤ d := Nat.le_of_lt_succ ((Nat.div_lt_iff_lt_mul hK).mpr ht)
  exact (hh_PR hv hK (fun k hk => hc k (by omega))).comp (rwn_PR hv (Nat.le_of_lt (Nat.mod_lt _ hK)))
theorem Gk_congr {n K d t : Nat} {μ c e : Nat → Nat} (hK : 0 < K) (h : ∀ k, k < d → c k = e k) (ht : t < (d + 1) * K) : Gk n K μ c t = Gk n K μ e t := by
  have h1 : t / K ≤ d := Nat.le_of_lt_succ ((Nat.div_lt_iff_lt_mul hK).mpr ht)
  unfold Gk RwK
  rw [hh_congr (e := e) (fun j hj => h j (by omega))]
theorem inR_congr {r q : Nat → Nat} {ρ : Nat} : ∀ {i : Nat}, (∀ j, j < i → r j = q j) → inR r i ρ = inR q i ρ
  | 0, _ => rfl
  | i + 1, h => by
    show (inR r i ρ || decide (r i = ρ)) = (inR q i ρ || decide (q i = ρ))
    rw [inR_congr (i := i) (fun j hj => h j (by omega)), h i (by omega)]
theorem upN_same {c : Nat → Nat} {d v : Nat} : upN c d v d = v := by unfold upN; rw [if_pos rfl]
theorem upN_lt {c : Nat → Nat} {d v k : Nat} (h : k < d) : upN c d v k = c k := by unfold upN; rw [if_neg (by omega)]
theorem homeB_iff {n K d a : Nat} {μ c : Nat → Nat} (hv : vM n K μ) (hK : 0 < K) (hc : cOK c d) (ha : a ≤ 2) : homeB n K μ c d a = true ↔ (fun x => hh n K μ c d (hdn n K μ a x)) = fun x => x := by
  unfold homeB
  rw [allB_iff]
  constructor
  · intro h
    exact PR_ext ((hh_PR hv hK hc).comp (hdn_PR hv hK ha)) (PR_id n) (fun i hi => by simpa using h i hi)
  · intro h i hi
    have := congrFun h i
    simpa using this
def kpS (σ σ' : hSt) : Prop := (∀ k, k ≠ 17 → k ≠ 18 → k ≠ 35 → k ≠ 36 → k ≠ 37 → σ' k = σ k)
theorem kpS.rf {σ : hSt} : kpS σ σ := fun _ _ _ _ _ _ => rfl
theorem kpS.tr {a b c : hSt} (h : kpS a b) (h2 : kpS b c) : kpS a c := fun k p q r s t => by rw [h2 k p q r s t, h k p q r s t]
theorem kpS.o {a b : hSt} (h : ot2 17 a b) : kpS a b := fun k p q _ _ _ => h k p q
theorem kpS.h {a : hSt} {k j : Nat} {v : Int32} (hk : k = 35 ∨ k = 36 ∨ k = 37) : kpS a (hup a k j v) := fun i _ _ r s t => hup_n _ _ _ (by omega)
/-- the class's stack -/
def seS (σ : hSt) (n B K : Nat) (μ c : Nat → Nat) (t : Nat) : Prop := ∃ f, sn σ n B f ∧ ∀ ρ, f ρ ≠ 0 ↔ inR (Gk n K μ c) t ρ = true
theorem seS.mv {σ σ' : hSt} {n B K t : Nat} {μ c : Nat → Nat} (h : seS σ n B K μ c t) (h1 : σ' 17 = σ 17) (h2 : σ' 18 = σ 18) : seS σ' n B K μ c t := by
  obtain ⟨f, a, b⟩ := h
  exact ⟨f, a.mv h1 h2, b⟩
def SX (σ : hSt) (n B K : Nat) (μ c : Nat → Nat) (d : Nat) : Prop := σ 35 3 = nI d ∧ (∀ k, k < d → σ 36 k = nI (encR n (hh n K μ c k)) ∧ σ 37 k = nI (c k)) ∧ seS σ n B K μ c (d * K)
def dst (n K : Nat) (μ c : Nat → Nat) (d : Nat) : Prop := ∀ t, t < d * K → inR (Gk n K μ c) t (Gk n K μ c t) = false
theorem s_unring {σ : hSt} {k1 n B K m d : Nat} {μ c : Nat → Nat} (hn : n ≤ 8) (hL : hLn (k1 + 1) = 64) (hv : vM n K μ) (hK : 0 < K) (hk : k1 ≠ 17 ∧ k1 ≠ 18 ∧ k1 + 1 ≠ 17 ∧ k1 + 1 ≠ 18) (hM : cM σ k1 n K μ) (hc : cOK c d) (hm : m ≤ K) (hnew : ∀ j, j < m → inR (Gk n K μ c) (d * K + j) (Gk n K μ c (d * K + j)) = false) (hs : seS σ n B K μ c (d * K + m)) {Q : hSt → Prop}
    (hQ : ∀ σ', ot2 17 σ σ' → seS σ' n B K μ c (d * K) → Q σ') : wp_X7_unring k1 (nI (encR n (hh n K μ c d))) (nI m) σ Q := by
  unfold wp_X7_unring
  have h64 := hv.1
  have hH := hh_PR hv hK hc
  have hne : ∀ i j, i < j → j < m → Gk n K μ c (d * K + i) ≠ Gk n K μ c (d * K + j) := fun i j hij hj e => by
    have h1 := hnew j hj
    have h2 : inR (Gk n K μ c) (d * K + j) (Gk n K μ c (d * K + j)) = true := inR_iff.mpr ⟨d * K + i, by omega, e⟩
    rw [h2] at h1; cases h1
  have hlo : ∀ j, j < m → inR (Gk n K μ c) (d * K) (Gk n K μ c (d * K + j)) = false := fun j hj => by
    cases e : inR (Gk n K μ c) (d * K) (Gk n K μ c (d * K + j)) with
    | false => rfl
    | true =>
      obtain ⟨a, h1, h2⟩ := inR_iff.mp e
      have h3 := hnew j hj
      rw [inR_iff.mpr ⟨a, by omega, h2⟩] at h3; cases h3
  refine hL3_in (fun v4 v5 σ2 => ∃ i, i ≤ m ∧ v5 = nI i ∧ v4 = nI (encR n (fun x => hh n K μ c d (rwn n μ i x))) ∧ ot2 17 σ σ2 ∧ ∃ f, sn σ2 n B f ∧ ∀ ρ, f ρ ≠ 0 ↔ (inR (Gk n K μ c) (d * K) ρ = true ∨ ∃ j, i ≤ j ∧ j < m ∧ Gk n K μ c (d * K + j) = ρ)) (fun _ v5 _ => m - v5.toNatClampNeg) ?_ ⟨0, Nat.zero_le _, rfl, rfl, ot2.rf, ?_⟩
  rotate_left
  · obtain ⟨f, h1, h2⟩ := hs
    refine ⟨f, h1, fun ρ => ?_⟩
    rw [h2 ρ]
    constructor
    · intro h
      obtain ⟨a, ha, e⟩ := inR_iff.mp h
      rcases Nat.lt_or_ge a (d * K) with q | q
      · exact Or.inl (inR_iff.mpr ⟨a, q, e⟩)
      · exact Or.inr ⟨a - d * K, Nat.zero_le _, by omega, by rw [show d * K + (a - d * K) = a by omega]; exact e⟩
    · rintro (h | ⟨j, -, hj, e⟩)
      · obtain ⟨a, ha, e⟩ := inR_iff.mp h
        exact inR_iff.mpr ⟨a, by omega, e⟩
      · exact inR_iff.mpr ⟨d * K + j, by omega, e⟩
  rintro P _ _ σ2 ⟨i, hi, rfl, rfl, o2, f, hs2, hf⟩ ih
  refine pk_le m i (fun z => ?_) (fun z => ?_) rfl rfl
  · have e : i = m := by omega
    subst e
    refine hQ σ2 o2 ⟨f, hs2, fun ρ => ?_⟩
    rw [hf ρ]
    constructor
    · rintro (h | ⟨j, h1, h2, -⟩)
      · exact h
      · omega
    · exact Or.inl
  · have hR := hH.comp (rwn_PR hv (k := i) (by omega))
    have eG : Gk n K μ c (d * K + i) = rk n (fun x => hh n K μ c d (rwn n μ i x)) := by unfold Gk; rw [RwK_is (by omega)]
    refine s_forget hn hR.isP hs2 (fun σ3 o3 hs3 => ?_)
    have hM3 : cM σ3 k1 n K μ := hM.mv (by rw [o3 _ (by omega), o2 _ (by omega) (by omega)]) (by rw [o3 _ (by omega), o2 _ (by omega) (by omega)])
    refine s_changeAt hL hv hM3 (by omega) ?_
    refine s_changed hn (hR.lt8 hn) (hv.2 i (Or.inl (by omega))).1 ?_
    intro x hx
    rw [nI_suc] at hx
    subst hx
    refine ih _ _ _ ⟨i + 1, by omega, rfl, rfl, fun j p q => by rw [o3 j q]; exact o2 j p q, _, hs3, fun ρ => ?_⟩ (by rw [nI_clamp (by omega), nI_clamp (by omega)]; omega)
    rw [← eG]
    unfold upN
    by_cases e : ρ = Gk n K μ c (d * K + i)
    · rw [if_pos e]
      subst e
      constructor
      · intro h; exact absurd rfl h
      · rintro (h | ⟨j, h1, h2, h3⟩)
        · rw [hlo i z] at h; cases h
        · exact absurd h3.symm (hne i j (by omega) h2)
    · rw [if_neg e, hf ρ]
      constructor
      · rintro (h | ⟨j, h1, h2, h3⟩)
        · exact Or.inl h
        · refine Or.inr ⟨j, ?_, h2, h3⟩
          have : j ≠ i := fun q => e (by rw [← h3, q])
          omega
      · rintro (h | ⟨j, h1, h2, h3⟩)
        · exact Or.inl h
        · exact Or.inr ⟨j, by omega, h2, h3⟩
theorem goodB_iff {n K d : Nat} {μ c : Nat → Nat} : goodB n K μ c d = true ↔ ∀ j, j < K → inR (Gk n K μ c) (d * K + j) (Gk n K μ c (d * K + j)) = false := by
  unfold goodB
  rw [allB_iff]
  constructor
  · intro h j hj
    have := h j hj
    simpa using this
  · intro h j hj
    simp [h j hj]
theorem s_ring {σ : hSt} {k1 n B K d : Nat} {μ c : Nat → Nat} (hn : n ≤ 8) (hB : B ≤ 40000000) (hL : hLn (k1 + 1) = 64) (hv : vM n K μ) (hK : 0 < K) (hk : k1 ≠ 17 ∧ k1 ≠ 18 ∧ k1 + 1 ≠ 17 ∧ k1 + 1 ≠ 18) (hM : cM σ k1 n K μ) (hc : cOK c d) (hs : seS σ n B K μ c (d * K)) {Q : Int32 → hSt → Prop}
    (h1 : goodB n K μ c d = true → ∀ σ', ot2 17 σ σ' → seS σ' n B K μ c ((d + 1) * K) → Q 1 σ') (h0 : goodB n K μ c d = false → ∀ σ', ot2 17 σ σ' → seS σ' n B K μ c (d * K) → Q 0 σ') : wp_X7_ring k1 (nI (encR n (hh n K μ c d))) σ Q := by
  unfold wp_X7_ring
  have h64 := hv.1
  have hH := hh_PR hv hK hc
  refine hL3_in (fun v3 v4 σ2 => ∃ i, i ≤ K ∧ v4 = nI i ∧ v3 = nI (encR n (fun x => hh n K μ c d (rwn n μ i x))) ∧ ot2 17 σ σ2 ∧ seS σ2 n B K μ c (d * K + i) ∧ ∀ j, j < i → inR (Gk n K μ c) (d * K + j) (Gk n K μ c (d * K + j)) = false) (fun _ v4 _ => K - v4.toNatClampNeg) ?_ ⟨0, Nat.zero_le _, rfl, rfl, ot2.rf, hs, fun j hj => absurd hj (Nat.not_lt_zero j)⟩
  rintro P _ _ σ2 ⟨i, hi, rfl, rfl, o2, hs2, hnew⟩ ih
  have hM2 : cM σ2 k1 n K μ := hM.mv (o2 _ (by omega) (by omega)) (o2 _ (by omega) (by omega))
  unfold wp_X2_size
  refine pk_le K i (fun z => ?_) (fun z => ?_) hM2.1 rfl
  · have e : i = K := by omega
    subst e
    refine h1 (goodB_iff.mpr hnew) σ2 o2 ?_
    rw [Nat.add_mul, Nat.one_mul]; exact hs2
  · have hR := hH.comp (rwn_PR hv (k := i) (by omega))
    have eG : Gk n K μ c (d * K + i) = rk n (fun x => hh n K μ c d (rwn n μ i x)) := by unfold Gk; rw [RwK_is z]
    obtain ⟨f, hs2', hf⟩ := hs2
    refine s_note (x := 0) hn hB hR.isP (by decide) hs2' (fun q σ3 o3 hs3 => ?_) (fun v q => ?_)
    · rw [← eG] at q hs3
      have hno : inR (Gk n K μ c) (d * K + i) (Gk n K μ c (d * K + i)) = false := by
        cases e : inR (Gk n K μ c) (d * K + i) (Gk n K μ c (d * K + i)) with
        | false => rfl
        | true => exact absurd q ((hf _).mpr e)
      refine br_t rfl ?_
      have hM3 : cM σ3 k1 n K μ := hM2.mv (o3 _ (by omega) (by omega)) (o3 _ (by omega) (by omega))
      refine s_changeAt hL hv hM3 z ?_
      refine s_changed hn (hR.lt8 hn) (hv.2 i (Or.inl z)).1 ?_
      intro x hx
      rw [nI_suc] at hx
      subst hx
      refine ih _ _ _ ⟨i + 1, by omega, rfl, rfl, o2.tr o3, ⟨_, hs3, fun ρ => ?_⟩, fun j hj => ?_⟩ (by rw [nI_clamp (by omega), nI_clamp (by omega)]; omega)
      · show _ ↔ (inR (Gk n K μ c) (d * K + i) ρ || decide (Gk n K μ c (d * K + i) = ρ)) = true
        unfold upN
        by_cases e : ρ = Gk n K μ c (d * K + i)
        · rw [if_pos e]; subst e; simp
        · rw [if_neg e, hf ρ]
          have e' : ¬ Gk n K μ c (d * K + i) = ρ := fun q => e q.symm
          simp [e']
      · by_cases e : j = i
        · subst e; exact hno
        · exact hnew j (by omega)
    · rw [← eG] at q
      have hyes : inR (Gk n K μ c) (d * K + i) (Gk n K μ c (d * K + i)) = true := (hf _).mp (by rw [q]; exact Nat.succ_ne_zero v)
      have hv31 : v < 2 ^ 31 := by
        obtain ⟨base, tp, q1, q2, q3, q4, q5, q6, q7⟩ := hs2'
        have hk := rk_lt hn hR.isP
        rw [← eG] at hk
        obtain ⟨s, s1, s2, s3⟩ := q7 _ hk
        omega
      refine br_f (nI_ne_m1 v hv31) ?_
      refine s_unring hn hL hv hK hk hM2 hc (by omega) hnew ⟨f, hs2', hf⟩ (fun σ3 o3 hs3 => ?_)
      refine h0 ?_ σ3 (o2.tr o3) hs3
      cases e : goodB n K μ c d with
      | false => rfl
      | true =>
        have := goodB_iff.mp e i z
        rw [hyes] at this; cases this
theorem s_endsHome {σ : hSt} {k1 n K d : Nat} {μ c : Nat → Nat} (hn : n ≤ 8) (hv : vM n K μ) (hK : 0 < K) (hM : cM σ k1 n K μ) (hc : cOK c d) (hd : d < 200) (h35 : σ 35 3 = nI d) {Q : Int32 → hSt → Prop}
    (h1 : ∀ a, a ≤ 2 → homeB n K μ c d a = true → (∀ b, b < a → homeB n K μ c d b = false) → Q 1 (hup σ 37 d (nI a))) (h0 : (∀ a, a ≤ 2 → homeB n K μ c d a = false) → Q 0 σ) : wp_X7_endsHome k1 (nI (encR n (hh n K μ c d))) σ Q := by
  unfold wp_X7_endsHome
  have hH := hh_PR hv hK hc
  refine hL1_in (fun v3 => ∃ a, a ≤ 3 ∧ v3 = nI a ∧ ∀ b, b < a → homeB n K μ c d b = false) (fun v3 => 3 - v3.toNatClampNeg) ?_ ⟨0, Nat.zero_le _, rfl, fun b hb => absurd hb (Nat.not_lt_zero b)⟩
  rintro P _ ⟨a, ha, rfl, hb⟩ ih
  refine pk_le 3 a (fun z => h0 (fun b hb2 => hb b (by omega))) (fun z => ?_) rfl rfl
  refine s_following hn hv hM hK (by omega) (hH.lt8 hn) ?_
  unfold wp_X2_bells
  rw [(hM.2 hK).1]
  refine s_rounds hn ?_
  have hR := hH.comp (hdn_PR hv hK (c := a) (by omega))
  have he := enc_eq hn hR (PR_id n)
  refine ⟨fun q => ?_, fun q => ?_⟩
  · intro x hx
    rw [nI_suc] at hx
    subst hx
    refine ih _ ⟨a + 1, by omega, rfl, fun b hb2 => ?_⟩ (by rw [nI_clamp (by omega), nI_clamp (by omega)]; omega)
    by_cases e : b = a
    · subst e
      cases e2 : homeB n K μ c d b with
      | false => rfl
      | true => exact absurd (he.mpr ((homeB_iff hv hK hc (by omega)).mp e2)) q
    · exact hb b (by omega)
  · rw [h35]
    refine s_setCell (by decide) (show d < 200 from hd) ?_
    exact h1 a (by omega) ((homeB_iff hv hK hc (by omega)).mpr (he.mp q)) hb
theorem tb_le {c : Nat → Nat} : ∀ {d : Nat} {q : Nat × (Nat → Nat)}, tb d c = some q → 0 < q.1 ∧ q.1 ≤ d ∧ (∀ k, k + 1 < q.1 → q.2 k = c k) ∧ q.2 (q.1 - 1) = c (q.1 - 1) + 1 ∧ c (q.1 - 1) < 2
  | 0, q, h => by cases h
  | d + 1, q, h => by
    have h' : (if c d < 2 then some (d + 1, upN c d (c d + 1)) else tb d c) = some q := h
    by_cases e : c d < 2
    · rw [if_pos e] at h'
      cases h'
      exact ⟨by show 0 < d + 1; omega, Nat.le_refl _, fun k hk => upN_lt (by have : k + 1 < d + 1 := hk; omega), by show upN c d (c d + 1) (d + 1 - 1) = _; rw [show d + 1 - 1 = d by omega, upN_same], by show c (d + 1 - 1) < 2; rw [show d + 1 - 1 = d by omega]; exact e⟩
    · rw [if_neg e] at h'
      obtain ⟨a, b, cc⟩ := tb_le h'
      exact ⟨a, by omega, cc⟩
theorem tb_cOK {c : Nat → Nat} {d : Nat} {q : Nat × (Nat → Nat)} (h : tb d c = some q) (hc : cOK c d) : cOK q.2 q.1 := fun k hk => by
  obtain ⟨h1, h2, h3, h4, h5⟩ := tb_le h
  by_cases e : k + 1 < q.1
  · rw [h3 k e]; exact hc k (by omega)
  · have : k = q.1 - 1 := by omega
    rw [this, h4]; omega
theorem dst_sub {n K d e : Nat} {μ c c' : Nat → Nat} (hK : 0 < K) (h : dst n K μ c d) (he : e ≤ d) (hcc : ∀ k, k + 1 < e → c' k = c k) : dst n K μ c' e := fun t ht => by
  have he0 : 0 < e := by
    rcases Nat.eq_zero_or_pos e with q | q
    · subst q; simp at ht
    · exact q
  have ht' : t < (e - 1 + 1) * K := by rw [show e - 1 + 1 = e by omega]; exact ht
  have hle : e * K ≤ d * K := Nat.mul_le_mul_right _ he
  have g : ∀ u, u ≤ t → Gk n K μ c' u = Gk n K μ c u := fun u hu => Gk_congr (d := e - 1) hK (fun k hk => hcc k (by omega)) (by omega)
  rw [g t (Nat.le_refl t), inR_congr (q := Gk n K μ c) (fun j hj => g j (by omega))]
  exact h t (by omega)
theorem s_turnBack {k1 n B K : Nat} {μ : Nat → Nat} (hn : n ≤ 8) (hL : hLn (k1 + 1) = 64) (hv : vM n K μ) (hK : 0 < K) (hk : k1 < 17 ∧ k1 + 1 < 17) : ∀ (d : Nat) (c : Nat → Nat) (σ : hSt), d ≤ 200 → cM σ k1 n K μ → cOK c d → dst n K μ c d → SX σ n B K μ c d → ∀ {Q : Int32 → hSt → Prop},
    (∀ q σ', tb d c = some q → kpS σ σ' → σ' 35 4 = σ 35 4 → SX σ' n B K μ q.2 q.1 → Q 1 σ') → (∀ σ', tb d c = none → kpS σ σ' → σ' 35 4 = σ 35 4 → (∃ f, sn σ' n B f) → Q 0 σ') → wp_X7_turnBack k1 σ Q := by
  intro d c σ hd hM hc hdst hS Q h1 h0
  unfold wp_X7_turnBack
  intro P hP
  have main : ∀ (d : Nat) (σ2 : hSt), d ≤ 200 → cOK c d → dst n K μ c d → kpS σ σ2 → σ2 35 4 = σ 35 4 → SX σ2 n B K μ c d → (∀ q σ', tb d c = some q → kpS σ σ' → σ' 35 4 = σ 35 4 → SX σ' n B K μ q.2 q.1 → Q 1 σ') → (∀ σ', tb d c = none → kpS σ σ' → σ' 35 4 = σ 35 4 → (∃ f, sn σ' n B f) → Q 0 σ') → P σ2 := fun d => by
    induction d with
    | zero =>
      intro σ2 hd hc hdst hk2 h4 hS g1 g0
      obtain ⟨s1, s2, f, hf, -⟩ := hS
      refine hP _ (br_t (by rw [s1]; decide) (g0 σ2 rfl hk2 h4 ⟨f, hf⟩))
    | succ d ih =>
      intro σ2 hd hc hdst hk2 h4 hS g1 g0
      obtain ⟨s1, s2, s3⟩ := hS
      have hM2 : cM σ2 k1 n K μ := hM.mv (hk2 _ (by omega) (by omega) (by omega) (by omega) (by omega)) (hk2 _ (by omega) (by omega) (by omega) (by omega) (by omega))
      refine hP _ (br_f (by rw [s1]; exact nI_nle (by omega) (by omega)) ?_)
      intro x hx
      rw [s1, show (1 : Int32) = nI 1 from rfl, pk_sub (by omega), show d + 1 - 1 = d by omega] at hx
      subst hx
      obtain ⟨e36, e37⟩ := s2 d (by omega)
      have hcd := hc d (by omega)
      have hcd' : cOK c d := fun k hk => hc k (by omega)
      unfold wp_X7_callOf
      refine s_cell (by decide) (show d < 200 by omega) ?_
      rw [e37]
      have htb : tb (d + 1) c = if c d < 2 then some (d + 1, upN c d (c d + 1)) else tb d c := rfl
      refine pk_le 2 (c d) (fun z => ?_) (fun z => ?_) rfl rfl
      · rw [if_neg (by omega)] at htb
        refine s_cell (by decide) (show d < 200 by omega) ?_
        unfold wp_X2_size
        rw [e36, hM2.1]
        have hle : d * K + K = (d + 1) * K := by rw [Nat.add_mul, Nat.one_mul]
        refine s_unring hn hL hv hK (by omega) hM2 hcd' (Nat.le_refl K) (fun j hj => hdst _ (by omega)) (by rw [hle]; exact s3) (fun σ3 o3 hs3 => ?_)
        have k4 : kpS σ (hup σ3 35 3 (nI d)) := (hk2.tr (kpS.o o3)).tr (kpS.h (Or.inl rfl))
        refine ih _ (by omega) hcd' (fun t ht => hdst t (by omega)) k4 ?_ ⟨by rw [hup_at, if_pos rfl], fun k hk => ?_, hs3.mv (hup_n _ _ _ (by decide)) (hup_n _ _ _ (by decide))⟩ (fun q σ' e a b cc => g1 q σ' (by rw [htb]; exact e) a b cc) (fun σ' e a b cc => g0 σ' (by rw [htb]; exact e) a b cc)
        · rw [hup_at, if_neg (by decide), o3 35 (by decide) (by decide)]; exact h4
        · rw [hup_ne _ _ (by decide), hup_ne _ _ (by decide), o3 36 (by decide) (by decide), o3 37 (by decide) (by decide)]; exact s2 k (by omega)
      · rw [if_pos z] at htb
        refine s_cell (by decide) (show d < 200 by omega) ?_
        rw [e37]
        dsimp only
        rw [nI_suc]
        refine s_setCell (by decide) (show d < 200 by omega) ?_
        refine g1 _ _ htb (hk2.tr (kpS.h (Or.inr (Or.inr rfl)))) (by rw [hup_ne _ _ (by decide)]; exact h4) ⟨by rw [hup_ne _ _ (by decide)]; exact s1, fun k hk => ?_, ?_⟩
        · have hk' : k < d + 1 := hk
          refine ⟨?_, ?_⟩
          · rw [hup_ne _ _ (by decide), (s2 k hk').1, hh_congr (e := upN c d (c d + 1)) (fun j hj => (upN_lt (by omega)).symm)]
          · rw [hup_at]
            by_cases e : k = d
            · subst e
              rw [if_pos rfl]
              show nI (c k + 1) = nI (upN c k (c k + 1) k)
              rw [upN_same]
            · rw [if_neg e]
              show σ2 37 k = nI (upN c d (c d + 1) k)
              rw [upN_lt (by omega)]; exact (s2 k hk').2
        · obtain ⟨f, hf, hf2⟩ := s3
          refine ⟨f, hf.mv (hup_n _ _ _ (by decide)) (hup_n _ _ _ (by decide)), fun ρ => ?_⟩
          rw [hf2 ρ, inR_congr (q := Gk n K μ (upN c d (c d + 1))) (fun j hj => Gk_congr (d := d) hK (fun k hk => (upN_lt hk).symm) hj)]
  exact main d σ hd hc hdst kpS.rf rfl hS h1 h0

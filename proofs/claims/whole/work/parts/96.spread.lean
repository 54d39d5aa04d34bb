/-! The class spreads its items. -/
def sX (σ : hSt) (d : Nat) (x : XS) : Prop := x.1 < 6 ∧ σ 24 7 = nI x.1 ∧ σ 24 8 = nI d ∧ σ 24 16 = nI x.2.1 ∧ ∀ j, j < x.2.1 → j < 1000 → σ 30 j = nI (x.2.2 j)
def kpV (d : Nat) (σ σ' : hSt) : Prop := (∀ k, k ≠ 24 → k ≠ 27 → k ≠ 28 → k ≠ 29 → k ≠ 30 → σ' k = σ k) ∧ (∀ j, j ≠ 7 → j ≠ 8 → j ≠ 16 → σ' 24 j = σ 24 j) ∧ ∀ i, i < d → σ' 27 i = σ 27 i ∧ σ' 28 i = σ 28 i ∧ σ' 29 i = σ 29 i
theorem kpV.rf {d : Nat} {σ : hSt} : kpV d σ σ := ⟨fun _ _ _ _ _ _ => rfl, fun _ _ _ _ => rfl, fun _ _ => ⟨rfl, rfl, rfl⟩⟩
theorem kpV.tr {d : Nat} {a b c : hSt} (h : kpV d a b) (h2 : kpV d b c) : kpV d a c := ⟨fun k p q r s t => by rw [h2.1 k p q r s t, h.1 k p q r s t], fun j p q r => by rw [h2.2.1 j p q r, h.2.1 j p q r], fun i hi => by
  obtain ⟨a1, a2, a3⟩ := h.2.2 i hi
  obtain ⟨b1, b2, b3⟩ := h2.2.2 i hi
  exact ⟨b1.trans a1, b2.trans a2, b3.trans a3⟩⟩
theorem kpV.lo {d e : Nat} {a b : hSt} (h : kpV e a b) (hd : d ≤ e) : kpV d a b := ⟨h.1, h.2.1, fun i hi => h.2.2 i (by omega)⟩
def iS (σ : hSt) (kd tm : Nat → Nat) (u : Nat) : Prop := σ 24 6 = nI u ∧ ∀ k, k < u → σ 25 k = nI (kd k) ∧ σ 26 k = nI (tm k)
theorem iS.mv {σ σ' : hSt} {kd tm : Nat → Nat} {u d : Nat} (h : iS σ kd tm u) (k : kpV d σ σ') : iS σ' kd tm u := ⟨by rw [k.2.1 6 (by decide) (by decide) (by decide)]; exact h.1, fun i hi => by rw [k.1 25 (by decide) (by decide) (by decide) (by decide) (by decide), k.1 26 (by decide) (by decide) (by decide) (by decide) (by decide)]; exact h.2 i hi⟩
theorem s_addLeads {σ : hSt} {l m t c : Nat} (hm : m ≤ 1000) (ht : t ≤ 99) (h7 : σ 24 7 = nI l) (h16 : σ 24 16 = nI m) {Q : hSt → Prop} (hQ : ∀ σ', (∀ k, k ≠ 24 → k ≠ 30 → σ' k = σ k) → (∀ j, j ≠ 16 → σ' 24 j = σ 24 j) → (m + t ≤ 1000 → σ' 24 16 = nI (m + t)) → (1000 < m + t → σ' 24 16 = nI 1001) → (∀ j, j < 1000 → σ' 30 j = if m ≤ j ∧ j < m + t then nI (l * 3 + c) else σ 30 j) → Q σ') : wp_X1_addLeads (nI c) (nI t) σ Q := by
  unfold wp_X1_addLeads
  refine hL2_in (fun v3 σ2 => ∃ i, i ≤ t ∧ m + i ≤ 1001 ∧ v3 = nI i ∧ (∀ k, k ≠ 24 → k ≠ 30 → σ2 k = σ k) ∧ (∀ j, j ≠ 16 → σ2 24 j = σ 24 j) ∧ σ2 24 16 = nI (m + i) ∧ (∀ j, j < 1000 → σ2 30 j = if m ≤ j ∧ j < m + i then nI (l * 3 + c) else σ 30 j)) (fun v3 _ => t - v3.toNatClampNeg) ?_ ⟨0, Nat.zero_le _, by omega, rfl, fun _ _ _ => rfl, fun _ _ => rfl, h16, fun j hj => by rw [if_neg (by omega)]⟩
  rintro P _ σ2 ⟨i, hi, hmi, rfl, o1, o2, o16, o30⟩ ih
  refine pk_le t i (fun q => ?_) (fun q => ?_) rfl rfl
  · have e : i = t := by omega
    subst e
    exact hQ σ2 o1 o2 (fun _ => o16) (fun y => by rw [o16]; congr 1; omega) o30
  · refine pk_lt 1000 (m + i) (fun q2 => ?_) (fun q2 => ?_) rfl o16
    · refine hQ σ2 o1 o2 (fun y => by omega) (fun _ => by rw [o16]; congr 1; omega) (fun j hj => ?_)
      rw [o30 j hj]
      by_cases y : m ≤ j
      · rw [if_pos ⟨y, by omega⟩, if_pos ⟨y, by omega⟩]
      · rw [if_neg (fun z => y z.1), if_neg (fun z => y z.1)]
    · rw [o16, o2 7 (by decide), h7, show (3 : Int32) = nI 3 from rfl, pk_mul, nI_add]
      have fin : ∀ σ5, (∀ k, k ≠ 30 → σ5 k = σ2 k) → (∀ j, j < 1000 → σ5 30 j = if j = m + i then nI (l * 3 + c) else σ2 30 j) → ∀ x3 : Int32, x3 = nI i + (1 : Int32) → P x3 (hup σ5 24 16 ((σ5 24 16) + (1 : Int32))) := fun σ5 k5 g5 x3 hx3 => by
        rw [nI_suc] at hx3
        subst hx3
        have e24 : σ5 24 = σ2 24 := k5 24 (by decide)
        refine ih _ _ ⟨i + 1, by omega, by omega, rfl, fun k i1 i2 => by rw [hup_n _ _ _ i1, k5 k i2]; exact o1 k i1 i2, fun j hj => by rw [hup_at, if_neg hj, e24]; exact o2 j hj, by rw [hup_at, if_pos rfl, e24, o16, nI_suc]; rfl, fun j hj => ?_⟩ (by rw [nI_clamp (by omega), nI_clamp (by omega)]; omega)
        rw [hup_ne _ _ (by decide), g5 j hj, o30 j hj]
        by_cases y : j = m + i
        · rw [if_pos y, if_pos (by omega)]
        · rw [if_neg y]
          by_cases y2 : m ≤ j ∧ j < m + i
          · rw [if_pos y2, if_pos (by omega)]
          · rw [if_neg y2, if_neg (by omega)]
      by_cases y : m + i < 1000
      · refine s_setCell (by decide) (show m + i < 1000 from y) ?_
        exact fin _ (fun k hk => hup_n _ _ _ hk) (fun j _ => by rw [hup_at])
      · refine s_setCell_out (by decide) (show 1000 ≤ m + i by omega) (by omega) ?_
        exact fin _ (fun k hk => rfl) (fun j hj => by rw [if_neg (by omega)])
section FOL
variable {kd tm : Nat → Nat} {u a d : Nat} {x : XS} {σ : hSt} {Q : Int32 → hSt → Prop}
theorem f_unit (ha : a < u) (hu : u ≤ 500) (hi : iS σ kd tm u) (ht : tm a ≤ 99) (hk : cll (kd a) ∨ ltt (kd a)) (hx : sX σ d x) (hm : x.2.1 ≤ 1000) (hQ : ∀ σ', kpV d σ σ' → (x.2.1 + (if 97 ≤ kd a then tm a else 0) ≤ 1000 → sX σ' d (xo kd tm a x)) → (1000 < x.2.1 + (if 97 ≤ kd a then tm a else 0) → σ' 24 16 = nI 1001) → Q (nI (a + 1)) σ') : wp_X1_follow (nI a) σ Q := by
  obtain ⟨n40, n41, n9⟩ := cl_n40 hk
  obtain ⟨x0, x1, x2, x3, x4⟩ := hx
  obtain ⟨i1, i2⟩ := hi.2 a ha
  have hk' := hk
  unfold cll ltt at hk'
  unfold wp_X1_follow
  refine s_cell (by decide) (show a < 500 by omega) ?_
  rw [i1]
  refine pk_en (kd a) 41 (fun _ => ?_) (fun q => absurd q n41) rfl rfl
  refine pk_en (kd a) 40 (fun _ => ?_) (fun q => absurd q n40) rfl rfl
  have ec : nI (kd a) = sgI (kd a) := by unfold sgI; rw [if_neg (by omega)]
  rw [ec]
  have hc : kd a < 256 ∨ kd a = 999 := by omega
  refine y_callFor hc (fun hcl => ?_) (fun hncl => ?_)
  · refine br_y (nI_ne_m1 _ (by have := clN_le (c := kd a); omega)) ?_
    refine y_callFor hc (fun _ => ?_) (fun y => absurd hcl y)
    refine s_cell (by decide) (show a < 500 by omega) ?_
    have h97 := n9.mpr hcl
    rw [i2, nI_suc]
    rw [if_pos h97] at hQ
    refine s_addLeads hm ht x1 x3 (fun σ' k1 k2 k16 k16' k30 => ?_)
    refine hQ σ' ⟨fun k p _ _ _ q => k1 k p q, fun j _ _ p => k2 j p, fun i _ => ⟨by rw [k1 27 (by decide) (by decide)], by rw [k1 28 (by decide) (by decide)], by rw [k1 29 (by decide) (by decide)]⟩⟩ (fun y => ?_) k16'
    unfold xo
    rw [if_pos h97]
    refine ⟨x0, by rw [k2 7 (by decide)]; exact x1, by rw [k2 8 (by decide)]; exact x2, k16 y, fun j hj hj2 => ?_⟩
    rw [k30 j hj2]
    show _ = nI (if x.2.1 ≤ j ∧ j < x.2.1 + tm a then x.1 * 3 + clN (kd a) else x.2.2 j)
    by_cases z : x.2.1 ≤ j ∧ j < x.2.1 + tm a
    · rw [if_pos z, if_pos z]
    · have hj' : j < x.2.1 + tm a := hj
      rw [if_neg z, if_neg z]; exact x4 j (by omega) hj2
  · refine br_x rfl ?_
    have h97 : ¬ 97 ≤ kd a := fun y => hncl (n9.mp y)
    have hl : ltt (kd a) := hk.resolve_left hncl
    unfold ltt at hl
    rw [if_neg h97] at hQ
    rw [nI_suc, ← ec, show (65 : Int32) = nI 65 from rfl, pk_sub hl.1]
    refine hQ _ ⟨fun k p _ _ _ _ => hup_n _ _ _ p, fun j p _ _ => by rw [hup_at, if_neg p], fun i _ => ⟨by rw [hup_ne _ _ (by decide)], by rw [hup_ne _ _ (by decide)], by rw [hup_ne _ _ (by decide)]⟩⟩ (fun _ => ?_) (fun y => by omega)
    unfold xo
    rw [if_neg h97]
    refine ⟨by show kd a - 65 < 6; omega, by rw [hup_at, if_pos rfl], by rw [hup_at, if_neg (by decide)]; exact x2, by rw [hup_at, if_neg (by decide)]; exact x3, fun j hj hj2 => by rw [hup_ne _ _ (by decide)]; exact x4 j hj hj2⟩
theorem f_enter (ha : a < u) (hu : u ≤ 500) (hd : d < 5) (hi : iS σ kd tm u) (hk : kd a = 40) (hx : sX σ d x) (hQ : ∀ σ', kpV d σ σ' → sX σ' (d + 1) x → σ' 27 d = nI (a + 1) → σ' 28 d = nI (tm a) → σ' 29 d = nI x.2.1 → Q (nI (a + 1)) σ') : wp_X1_follow (nI a) σ Q := by
  obtain ⟨x0, x1, x2, x3, x4⟩ := hx
  obtain ⟨i1, i2⟩ := hi.2 a ha
  unfold wp_X1_follow wp_X1_enterGroup
  refine s_cell (by decide) (show a < 500 by omega) ?_
  rw [i1, hk]
  refine br_y (by decide) (br_x rfl ?_)
  rw [x2, nI_suc]
  refine s_setCell (by decide) (show d < 5 from hd) ?_
  refine s_cell (by decide) (show a < 500 by omega) ?_
  have e1 : (hup σ 27 d (nI (a + 1))) 24 8 = nI d := by rw [hup_ne _ _ (by decide)]; exact x2
  rw [e1, hup_ne _ _ (by decide), i2]
  refine s_setCell (by decide) (show d < 5 from hd) ?_
  have e2 : (hup (hup σ 27 d (nI (a + 1))) 28 d (nI (tm a))) 24 8 = nI d := by rw [hup_ne _ _ (by decide)]; exact e1
  have e3 : (hup (hup σ 27 d (nI (a + 1))) 28 d (nI (tm a))) 24 16 = nI x.2.1 := by rw [hup_ne _ _ (by decide), hup_ne _ _ (by decide)]; exact x3
  rw [e2, e3]
  refine s_setCell (by decide) (show d < 5 from hd) ?_
  have e4 : (hup (hup (hup σ 27 d (nI (a + 1))) 28 d (nI (tm a))) 29 d (nI x.2.1)) 24 8 = nI d := by rw [hup_ne _ _ (by decide)]; exact e2
  rw [e4, nI_suc]
  refine hQ _ ⟨fun k p q r s _ => by rw [hup_n _ _ _ p, hup_n _ _ _ s, hup_n _ _ _ r, hup_n _ _ _ q], fun j _ p _ => by rw [hup_at, if_neg p, hup_ne _ _ (by decide), hup_ne _ _ (by decide), hup_ne _ _ (by decide)], fun i hi => ⟨?_, ?_, ?_⟩⟩ ⟨x0, ?_, ?_, ?_, fun j hj hj2 => ?_⟩ ?_ ?_ ?_
  · rw [hup_ne _ _ (by decide), hup_ne _ _ (by decide), hup_ne _ _ (by decide), hup_at, if_neg (by omega)]
  · rw [hup_ne _ _ (by decide), hup_ne _ _ (by decide), hup_at, if_neg (by omega), hup_ne _ _ (by decide)]
  · rw [hup_ne _ _ (by decide), hup_at, if_neg (by omega), hup_ne _ _ (by decide), hup_ne _ _ (by decide)]
  · rw [hup_at, if_neg (by decide), hup_ne _ _ (by decide), hup_ne _ _ (by decide), hup_ne _ _ (by decide)]; exact x1
  · rw [hup_at, if_pos rfl]
  · rw [hup_at, if_neg (by decide), hup_ne _ _ (by decide)]; exact e3
  · rw [hup_ne _ _ (by decide), hup_ne _ _ (by decide), hup_ne _ _ (by decide), hup_ne _ _ (by decide)]; exact x4 j hj hj2
  · rw [hup_ne _ _ (by decide), hup_ne _ _ (by decide), hup_ne _ _ (by decide), hup_at, if_pos rfl]
  · rw [hup_ne _ _ (by decide), hup_ne _ _ (by decide), hup_at, if_pos rfl]
  · rw [hup_ne _ _ (by decide), hup_at, if_pos rfl]
theorem f_leave {r g z0 : Nat} (ha : a < u) (hu : u ≤ 500) (hd : d < 5) (hi : iS σ kd tm u) (hk : kd a = 41) (hx : sX σ (d + 1) x) (hm : x.2.1 ≤ 1000) (hz : z0 ≤ 1000) (h27 : σ 27 d = nI g) (h28 : σ 28 d = nI r) (h29 : σ 29 d = nI z0) (hr : 1 ≤ r) (hr9 : r ≤ 99)
    (h0 : (r ≤ 1 ∨ x.2.1 ≤ z0) → ∀ σ', kpV d σ σ' → sX σ' d x → Q (nI (a + 1)) σ') (h1 : 1 < r → z0 < x.2.1 → ∀ σ', kpV d σ σ' → sX σ' (d + 1) x → σ' 27 d = nI g → σ' 28 d = nI (r - 1) → σ' 29 d = nI z0 → Q (nI g) σ') : wp_X1_follow (nI a) σ Q := by
  obtain ⟨x0, x1, x2, x3, x4⟩ := hx
  obtain ⟨i1, i2⟩ := hi.2 a ha
  unfold wp_X1_follow wp_X1_leaveGroup
  refine s_cell (by decide) (show a < 500 by omega) ?_
  rw [i1, hk]
  refine br_x rfl ?_
  intro y2 hy2
  rw [x2, show (1 : Int32) = nI 1 from rfl, pk_sub (by omega), show d + 1 - 1 = d by omega] at hy2
  subst hy2
  refine s_cell (by decide) (show d < 5 from hd) ?_
  intro y3 hy3
  rw [h28, show (1 : Int32) = nI 1 from rfl, pk_sub hr] at hy3
  subst hy3
  have out : (r ≤ 1 ∨ x.2.1 ≤ z0) → Q (nI a + (1 : Int32)) (hup σ 24 8 (nI d)) := fun hc => by
    rw [nI_suc]
    refine h0 hc _ ⟨fun k p _ _ _ _ => hup_n _ _ _ p, fun j _ p _ => by rw [hup_at, if_neg p], fun i _ => ⟨by rw [hup_ne _ _ (by decide)], by rw [hup_ne _ _ (by decide)], by rw [hup_ne _ _ (by decide)]⟩⟩ ⟨x0, ?_, ?_, ?_, fun j hj hj2 => ?_⟩
    · rw [hup_at, if_neg (by decide)]; exact x1
    · rw [hup_at, if_pos rfl]
    · rw [hup_at, if_neg (by decide)]; exact x3
    · rw [hup_ne _ _ (by decide)]; exact x4 j hj hj2
  refine pk_le (r - 1) 0 (fun q => out (Or.inl (by omega))) (fun q => ?_) rfl rfl
  refine s_cell (by decide) (show d < 5 from hd) ?_
  refine pk_le x.2.1 z0 (fun q2 => out (Or.inr q2)) (fun q2 => ?_) x3 h29
  refine s_setCell (by decide) (show d < 5 from hd) ?_
  refine s_cell (by decide) (show d < 5 from hd) ?_
  rw [hup_ne _ _ (by decide), h27]
  refine h1 (by omega) q2 _ ⟨fun k _ _ p _ _ => hup_n _ _ _ p, fun j _ _ _ => by rw [hup_ne _ _ (by decide)], fun i hi => ⟨by rw [hup_ne _ _ (by decide)], by rw [hup_at, if_neg (by omega)], by rw [hup_ne _ _ (by decide)]⟩⟩ ⟨x0, ?_, ?_, ?_, fun j hj hj2 => ?_⟩ ?_ ?_ ?_
  · rw [hup_ne _ _ (by decide)]; exact x1
  · rw [hup_ne _ _ (by decide)]; exact x2
  · rw [hup_ne _ _ (by decide)]; exact x3
  · rw [hup_ne _ _ (by decide)]; exact x4 j hj hj2
  · rw [hup_ne _ _ (by decide)]; exact h27
  · rw [hup_at, if_pos rfl]
  · rw [hup_ne _ _ (by decide)]; exact h29
end FOL

/-! The method's text, read byte by byte: a reading as a function of the bytes. -/
def sgn (bt : Nat → Nat) (z p : Nat) : Nat := if p < z then bt p else 999
def m_rf (k p : Nat) (s : Nat → Nat) : Nat → Nat := upN (upN s 0 k) 1 p
def m_ad (v : Nat) (s : Nat → Nat) : Nat → Nat := if s 5 = 1 then upN s 50 v else if s 5 = 2 then upN s 51 v else upN (upN s (100 + s 7) v) 7 (s 7 + 1)
def m_dg (n d p : Nat) (s : Nat → Nat) : Nat → Nat :=
  if s 2 = 0 then
    if 2 ≤ s 6 ∧ ¬ (s 5 = 0 ∧ s 6 = 2) then m_rf 1 p (upN s 2 (p + 1))
    else upN (upN (upN (upN (upN s 2 (p + 1)) 10 (if d ≤ n then 0 else 1)) 11 d) 12 d) 13 (2 ^ (d - 1))
  else upN (upN (if s 12 < d ∧ d ≤ n ∧ (d - s 12) % 2 = 1 then s else upN s 10 1) 12 d) 13 (s 13 ||| 2 ^ (d - 1))
def m_mk (s : Nat → Nat) : Nat := if s 11 % 2 = 0 then s 13 ||| 1 else s 13
def m_mu (n : Nat) (s : Nat → Nat) : Nat := if (n - s 12) % 2 = 1 then m_mk s ||| 2 ^ (n - 1) else m_mk s
def m_en (n : Nat) (s : Nat → Nat) : Nat → Nat := if s 10 = 0 then upN (m_ad (m_mu n s) s) 6 3 else m_rf 2 (s 2 - 1) s
def m_bk (s : Nat → Nat) : Nat := if s 9 = 0 then 0 else s 7 - s 8 - 1
def m_cp (s : Nat → Nat) (b : Nat) : Nat → Nat := fun j => if 100 + s 7 ≤ j ∧ j < 100 + s 7 + b then s (2 * (100 + s 7) - 2 - j) else s j
def m_cb (p : Nat) (s : Nat → Nat) : Nat → Nat := if s 7 + m_bk s ≤ 64 then upN (m_cp s (m_bk s)) 7 (s 7 + m_bk s) else m_rf 3 p s
def m_bb (s : Nat → Nat) : Nat → Nat := upN (upN (upN s 6 0) 8 (s 7)) 9 0
def m_cr (n p : Nat) (s : Nat → Nat) : Nat → Nat := if 2 ≤ s 6 ∧ s 5 ≠ 0 then m_rf 1 p s else if n % 2 = 1 then m_rf 2 p s else upN (m_ad 0 s) 6 2
def m_mr (b p : Nat) (s : Nat → Nat) : Nat → Nat := if s 6 = 0 then upN (upN s 9 b) 6 1 else m_rf 1 p s
def m_dt (p : Nat) (s : Nat → Nat) : Nat → Nat := if s 5 = 0 ∧ 2 ≤ s 6 then upN s 6 1 else m_rf 1 p s
def m_cm (p : Nat) (s : Nat → Nat) : Nat → Nat := if s 5 = 0 ∧ 2 ≤ s 6 then m_bb (m_cb p s) else m_rf 1 p s
def m_pt (s : Nat → Nat) : Nat → Nat := upN (upN s 5 (s 5 + 1)) 6 1
def m_sc (p : Nat) (s : Nat → Nat) : Nat → Nat := if s 5 ≠ 2 ∧ 2 ≤ s 6 then m_pt (if s 5 = 0 then m_cb p s else s) else m_rf 1 p s
def m_ee (p : Nat) (s : Nat → Nat) : Nat → Nat := if s 5 = 2 ∧ 2 ≤ s 6 then s else m_rf 1 p s
def m_sg (n c p : Nat) (s : Nat → Nat) : Nat → Nat :=
  if c = 32 ∨ c = 10 then s else if c = 120 ∨ c = 45 then m_cr n p s else if c = 38 then m_mr 1 p s else if c = 43 then m_mr 0 p s
  else if c = 46 then m_dt p s else if c = 44 then m_cm p s else if c = 59 then m_sc p s else if c = 999 then m_ee p s else m_rf 1 p s
def m_nd (n : Nat) (s : Nat → Nat) : Nat → Nat := upN (m_en n s) 2 0
def m_st (n c p : Nat) (s : Nat → Nat) : Nat → Nat :=
  if 49 ≤ c ∧ c ≤ 56 then m_dg n (c - 48) p s else if s 2 = 0 then m_sg n c p s else if (m_nd n s) 0 = 0 then m_sg n c p (m_nd n s) else m_nd n s
def m_rn (n : Nat) (bt : Nat → Nat) (z : Nat) : Nat → Nat → (Nat → Nat) → Nat → Nat
  | 0, _, s => s
  | f + 1, p, s => if s 0 = 0 then m_rn n bt z f (p + 1) (m_st n (sgn bt z p) p s) else s
theorem upN_at (f : Nat → Nat) (k v j : Nat) : upN f k v j = if j = k then v else f j := rfl
theorem upN_ne {f : Nat → Nat} {k v j : Nat} (h : j ≠ k) : upN f k v j = f j := by rw [upN_at, if_neg h]
theorem upN_eq {f : Nat → Nat} {k v : Nat} : upN f k v k = v := by rw [upN_at, if_pos rfl]
theorem hu_up {σ : hSt} {s : Nat → Nat} {k i j v : Nat} {x : Int32} (hx : x = nI v) (h : σ k j = nI (s j)) : hup σ k i x k j = nI (upN s i v j) := by
  subst hx
  rw [hup_at, upN_at]
  split
  · rfl
  · exact h
theorem rf_0 {k p : Nat} {s : Nat → Nat} : m_rf k p s 0 = k := by unfold m_rf; rw [upN_ne (by decide), upN_eq]
theorem rf_1 {k p : Nat} {s : Nat → Nat} : m_rf k p s 1 = p := by unfold m_rf; rw [upN_eq]
theorem ad_b {v : Nat} {s : Nat → Nat} (h : s 5 = 1) : m_ad v s = upN s 50 v := by unfold m_ad; rw [if_pos h]
theorem ad_s {v : Nat} {s : Nat → Nat} (h : s 5 = 2) : m_ad v s = upN s 51 v := by unfold m_ad; rw [if_neg (by omega), if_pos h]
theorem ad_l {v : Nat} {s : Nat → Nat} (h : s 5 = 0) : m_ad v s = upN (upN s (100 + s 7) v) 7 (s 7 + 1) := by unfold m_ad; rw [if_neg (by omega), if_neg (by omega)]
theorem ad_lo {v j : Nat} {s : Nat → Nat} (h5 : s 5 ≤ 2) (h7 : j ≠ 7) (hj : j < 50) : m_ad v s j = s j := by
  rcases (by omega : s 5 = 0 ∨ s 5 = 1 ∨ s 5 = 2) with h | h | h
  · rw [ad_l h, upN_ne h7, upN_ne (by omega)]
  · rw [ad_b h, upN_ne (by omega)]
  · rw [ad_s h, upN_ne (by omega)]
theorem ad_7 {v : Nat} {s : Nat → Nat} (h5 : s 5 ≤ 2) : m_ad v s 7 = if s 5 = 0 then s 7 + 1 else s 7 := by
  rcases (by omega : s 5 = 0 ∨ s 5 = 1 ∨ s 5 = 2) with h | h | h
  · rw [ad_l h, upN_eq, if_pos h]
  · rw [ad_b h, upN_ne (by omega), if_neg (by omega)]
  · rw [ad_s h, upN_ne (by omega), if_neg (by omega)]
/-- a change that can be rung -/
def m_v (n v : Nat) : Prop := b_vis n v ∧ v < 256
def m_ok (n p : Nat) (s : Nat → Nat) : Prop :=
  (s 5 ≤ 2 ∧ s 6 ≤ 3 ∧ s 8 ≤ 64 ∧ s 8 ≤ s 7 ∧ (s 5 = 0 → s 7 ≤ s 8 + p) ∧ s 9 ≤ 1) ∧ (∀ k, k < s 7 → m_v n (s (100 + k))) ∧ ((s 5 = 2 ∨ (s 5 = 1 ∧ 2 ≤ s 6)) → m_v n (s 50)) ∧ ((s 5 = 2 ∧ 2 ≤ s 6) → m_v n (s 51)) ∧ (s 5 = 0 → 2 ≤ s 6 → s 8 < s 7) ∧ (1 ≤ s 5 → 1 ≤ s 7 ∧ s 7 ≤ 64)
/-- digits that have not ended -/
def m_pd (n p : Nat) (s : Nat → Nat) : Prop := s 2 ≠ 0 → s 2 ≤ p ∧ (s 5 = 0 → s 7 + 1 ≤ s 8 + p) ∧ s 10 ≤ 1 ∧ 1 ≤ s 11 ∧ s 11 ≤ 8 ∧ 1 ≤ s 12 ∧ s 12 ≤ 8 ∧ s 13 < 256 ∧ (s 10 = 0 → s 12 ≤ n ∧ (s 13).testBit (s 12 - 1) = true ∧ s 13 < 2 ^ s 12)
theorem m_ok.mono {n p q : Nat} {s : Nat → Nat} (h : m_ok n p s) (hq : p ≤ q) : m_ok n q s := by
  obtain ⟨⟨a1, a2, a3, a4, a5, a6⟩, b, c, d, e, f⟩ := h
  exact ⟨⟨a1, a2, a3, a4, by omega, a6⟩, b, c, d, e, f⟩
theorem m_ok.ext {n p : Nat} {s t : Nat → Nat} (h : m_ok n p s) (e1 : ∀ j, 5 ≤ j → j ≤ 9 → t j = s j) (e2 : ∀ j, 50 ≤ j → t j = s j) : m_ok n p t := by
  have e5 := e1 5 (by decide) (by decide)
  have e6 := e1 6 (by decide) (by decide)
  have e7 := e1 7 (by decide) (by decide)
  have e8 := e1 8 (by decide) (by decide)
  have e9 := e1 9 (by decide) (by decide)
  obtain ⟨⟨a1, a2, a3, a4, a5, a6⟩, b, c, d, e, f⟩ := h
  refine ⟨by rw [e5, e6, e7, e8, e9]; exact ⟨a1, a2, a3, a4, a5, a6⟩, fun k hk => ?_, ?_, ?_, ?_, ?_⟩
  · rw [e7] at hk; rw [e2 _ (by omega)]; exact b k hk
  · rw [e5, e6, e2 50 (by decide)]; exact c
  · rw [e5, e6, e2 51 (by decide)]; exact d
  · rw [e5, e6, e7, e8]; exact e
  · rw [e5, e7]; exact f
/-- one more change -/
theorem ok_add {n p q v st : Nat} {s : Nat → Nat} (h : m_ok n p s) (hv : m_v n v) (hst : st = 2 ∨ st = 3) (hpq : p ≤ q) (h7 : s 5 = 0 → s 7 + 1 ≤ s 8 + q) : m_ok n q (upN (m_ad v s) 6 st) := by
  obtain ⟨⟨a1, a2, a3, a4, a5, a6⟩, b, c, d, e, f⟩ := h
  have g5 : upN (m_ad v s) 6 st 5 = s 5 := by rw [upN_ne (by decide), ad_lo a1 (by decide) (by decide)]
  have g6 : upN (m_ad v s) 6 st 6 = st := upN_eq
  have g7 : upN (m_ad v s) 6 st 7 = if s 5 = 0 then s 7 + 1 else s 7 := by rw [upN_ne (by decide), ad_7 a1]
  have g8 : upN (m_ad v s) 6 st 8 = s 8 := by rw [upN_ne (by decide), ad_lo a1 (by decide) (by decide)]
  have g9 : upN (m_ad v s) 6 st 9 = s 9 := by rw [upN_ne (by decide), ad_lo a1 (by decide) (by decide)]
  have gh : ∀ j, 50 ≤ j → upN (m_ad v s) 6 st j = m_ad v s j := fun j hj => upN_ne (by omega)
  rcases (by omega : s 5 = 0 ∨ s 5 = 1 ∨ s 5 = 2) with h | h | h
  · rw [if_pos h] at g7
    refine ⟨by rw [g5, g6, g7, g8, g9]; omega, fun k hk => ?_, fun z => by rw [g5] at z; omega, fun z => by rw [g5] at z; omega, fun _ _ => by rw [g7, g8]; omega, fun z => by rw [g5] at z; omega⟩
    rw [g7] at hk
    rw [gh _ (by omega), ad_l h, upN_ne (by omega), upN_at]
    split
    · exact hv
    · exact b k (by omega)
  · rw [if_neg (by omega)] at g7
    refine ⟨by rw [g5, g6, g7, g8, g9]; omega, fun k hk => ?_, fun _ => ?_, fun z => by rw [g5] at z; omega, fun z => by rw [g5] at z; omega, fun z => by rw [g7]; exact f (by omega)⟩
    · rw [g7] at hk
      rw [gh _ (by omega), ad_b h, upN_ne (by omega)]; exact b k hk
    · rw [gh _ (by omega), ad_b h, upN_eq]; exact hv
  · rw [if_neg (by omega)] at g7
    refine ⟨by rw [g5, g6, g7, g8, g9]; omega, fun k hk => ?_, fun _ => ?_, fun _ => ?_, fun z => by rw [g5] at z; omega, fun z => by rw [g7]; exact f (by omega)⟩
    · rw [g7] at hk
      rw [gh _ (by omega), ad_s h, upN_ne (by omega)]; exact b k hk
    · rw [gh _ (by omega), ad_s h, upN_ne (by omega)]; exact c (Or.inl h)
    · rw [gh _ (by omega), ad_s h, upN_eq]; exact hv
theorem bk_le {s : Nat → Nat} : m_bk s ≤ s 7 - s 8 - 1 := by unfold m_bk; split <;> omega
theorem cp_lo {s : Nat → Nat} {b j : Nat} (h : j < 100 + s 7) : m_cp s b j = s j := by unfold m_cp; rw [if_neg (by omega)]
theorem cp_in {s : Nat → Nat} {b i : Nat} (h : i < b) : m_cp s b (100 + (s 7 + i)) = s (2 * (100 + s 7) - 2 - (100 + (s 7 + i))) := by unfold m_cp; rw [if_pos (by omega)]
/-- the masks behind a closed block -/
theorem cp_v {n p : Nat} {s : Nat → Nat} (h : m_ok n p s) (h8 : s 8 < s 7) {k : Nat} (hk : k < s 7 + m_bk s) : m_v n (m_cp s (m_bk s) (100 + k)) := by
  obtain ⟨-, b, -⟩ := h
  have hb := bk_le (s := s)
  rcases Nat.lt_or_ge k (s 7) with z | z
  · rw [cp_lo (by omega)]; exact b k z
  · obtain ⟨i, rfl⟩ : ∃ i, k = s 7 + i := ⟨k - s 7, by omega⟩
    rw [cp_in (by omega), show 2 * (100 + s 7) - 2 - (100 + (s 7 + i)) = 100 + (s 7 - 2 - i) by omega]
    exact b _ (by omega)
theorem cb_ok {p : Nat} {s : Nat → Nat} (h : s 7 + m_bk s ≤ 64) : m_cb p s = upN (m_cp s (m_bk s)) 7 (s 7 + m_bk s) := by unfold m_cb; rw [if_pos h]
theorem cb_no {p : Nat} {s : Nat → Nat} (h : ¬ s 7 + m_bk s ≤ 64) : m_cb p s = m_rf 3 p s := by unfold m_cb; rw [if_neg h]
theorem cb_lo {p j : Nat} {s : Nat → Nat} (h : s 7 + m_bk s ≤ 64) (h7 : j ≠ 7) (hj : j < 100) : m_cb p s j = s j := by rw [cb_ok h, upN_ne h7, cp_lo (by omega)]
theorem cb_7 {p : Nat} {s : Nat → Nat} (h : s 7 + m_bk s ≤ 64) : m_cb p s 7 = s 7 + m_bk s := by rw [cb_ok h, upN_eq]
theorem cb_hi {p k : Nat} {s : Nat → Nat} (h : s 7 + m_bk s ≤ 64) : m_cb p s (100 + k) = m_cp s (m_bk s) (100 + k) := by rw [cb_ok h, upN_ne (by omega)]
theorem cb_0 {p : Nat} {s : Nat → Nat} (h0 : s 0 = 0) : m_cb p s 0 = 0 ↔ s 7 + m_bk s ≤ 64 := by
  by_cases h : s 7 + m_bk s ≤ 64
  · rw [cb_lo h (by decide) (by decide)]; exact ⟨fun _ => h, fun _ => h0⟩
  · rw [cb_no h, rf_0]; exact ⟨fun z => absurd z (by decide), fun z => absurd z h⟩
theorem ok_comma {n p : Nat} {s : Nat → Nat} (h : m_ok n p s) (h5 : s 5 = 0) (h6 : 2 ≤ s 6) (hc : s 7 + m_bk s ≤ 64) : m_ok n (p + 1) (m_bb (m_cb p s)) := by
  have h' := h
  obtain ⟨⟨a1, a2, a3, a4, a5, a6⟩, b, c, d, e, f⟩ := h'
  have g5 : m_bb (m_cb p s) 5 = s 5 := by unfold m_bb; rw [upN_ne (by decide), upN_ne (by decide), upN_ne (by decide), cb_lo hc (by decide) (by decide)]
  have g6 : m_bb (m_cb p s) 6 = 0 := by unfold m_bb; rw [upN_ne (by decide), upN_ne (by decide), upN_eq]
  have g7 : m_bb (m_cb p s) 7 = s 7 + m_bk s := by unfold m_bb; rw [upN_ne (by decide), upN_ne (by decide), upN_ne (by decide), cb_7 hc]
  have g8 : m_bb (m_cb p s) 8 = s 7 + m_bk s := by unfold m_bb; rw [upN_ne (by decide), upN_eq, cb_7 hc]
  have g9 : m_bb (m_cb p s) 9 = 0 := by unfold m_bb; rw [upN_eq]
  refine ⟨by rw [g5, g6, g7, g8, g9]; omega, fun k hk => ?_, fun z => by rw [g5] at z; omega, fun z => by rw [g5] at z; omega, fun _ z => by rw [g6] at z; omega, fun z => by rw [g5] at z; omega⟩
  rw [g7] at hk
  unfold m_bb
  rw [upN_ne (by omega), upN_ne (by omega), upN_ne (by omega), cb_hi hc]
  exact cp_v h (e h5 h6) hk
theorem ok_semi0 {n p : Nat} {s : Nat → Nat} (h : m_ok n p s) (h5 : s 5 = 0) (h6 : 2 ≤ s 6) (hc : s 7 + m_bk s ≤ 64) : m_ok n (p + 1) (m_pt (m_cb p s)) := by
  have h' := h
  obtain ⟨⟨a1, a2, a3, a4, a5, a6⟩, b, c, d, e, f⟩ := h'
  have hb := bk_le (s := s)
  have h8 := e h5 h6
  have g5 : m_pt (m_cb p s) 5 = 1 := by unfold m_pt; rw [upN_ne (by decide), upN_eq, cb_lo hc (by decide) (by decide), h5]
  have g6 : m_pt (m_cb p s) 6 = 1 := by unfold m_pt; rw [upN_eq]
  have g7 : m_pt (m_cb p s) 7 = s 7 + m_bk s := by unfold m_pt; rw [upN_ne (by decide), upN_ne (by decide), cb_7 hc]
  have g8 : m_pt (m_cb p s) 8 = s 8 := by unfold m_pt; rw [upN_ne (by decide), upN_ne (by decide), cb_lo hc (by decide) (by decide)]
  have g9 : m_pt (m_cb p s) 9 = s 9 := by unfold m_pt; rw [upN_ne (by decide), upN_ne (by decide), cb_lo hc (by decide) (by decide)]
  refine ⟨by rw [g5, g6, g7, g8, g9]; omega, fun k hk => ?_, fun z => by rw [g5, g6] at z; omega, fun z => by rw [g5] at z; omega, fun z => by rw [g5] at z; omega, fun _ => by rw [g7]; omega⟩
  rw [g7] at hk
  unfold m_pt
  rw [upN_ne (by omega), upN_ne (by omega), cb_hi hc]
  exact cp_v h h8 hk
theorem ok_semi1 {n p : Nat} {s : Nat → Nat} (h : m_ok n p s) (h5 : s 5 = 1) (h6 : 2 ≤ s 6) : m_ok n (p + 1) (m_pt s) := by
  obtain ⟨⟨a1, a2, a3, a4, a5, a6⟩, b, c, d, e, f⟩ := h
  have g5 : m_pt s 5 = 2 := by unfold m_pt; rw [upN_ne (by decide), upN_eq, h5]
  have g6 : m_pt s 6 = 1 := by unfold m_pt; rw [upN_eq]
  have gh : ∀ j, 7 ≤ j → m_pt s j = s j := fun j hj => by unfold m_pt; rw [upN_ne (by omega), upN_ne (by omega)]
  refine ⟨by rw [g5, g6, gh 7 (by decide), gh 8 (by decide), gh 9 (by decide)]; omega, fun k hk => ?_, fun _ => ?_, fun z => by rw [g6] at z; omega, fun z => by rw [g5] at z; omega, fun _ => by rw [gh 7 (by decide)]; exact f (by omega)⟩
  · rw [gh 7 (by decide)] at hk; rw [gh _ (by omega)]; exact b k hk
  · rw [gh 50 (by decide)]; exact c (Or.inr ⟨h5, h6⟩)
theorem ok_mark {n p v : Nat} {s : Nat → Nat} (h : m_ok n p s) (hv : v ≤ 1) : m_ok n (p + 1) (upN (upN s 9 v) 6 1) := by
  obtain ⟨⟨a1, a2, a3, a4, a5, a6⟩, b, c, d, e, f⟩ := h
  have g6 : upN (upN s 9 v) 6 1 6 = 1 := upN_eq
  have g9 : upN (upN s 9 v) 6 1 9 = v := by rw [upN_ne (by decide), upN_eq]
  have gh : ∀ j, j ≠ 6 → j ≠ 9 → upN (upN s 9 v) 6 1 j = s j := fun j h1 h2 => by rw [upN_ne h1, upN_ne h2]
  refine ⟨by rw [g6, g9, gh 5 (by decide) (by decide), gh 7 (by decide) (by decide), gh 8 (by decide) (by decide)]; omega, fun k hk => ?_, fun z => ?_, fun z => by rw [g6] at z; omega, fun _ z => by rw [g6] at z; omega, ?_⟩
  · rw [gh 7 (by decide) (by decide)] at hk; rw [gh _ (by omega) (by omega)]; exact b k hk
  · rw [gh 5 (by decide) (by decide), g6] at z
    rw [gh 50 (by decide) (by decide)]; exact c (by omega)
  · rw [gh 5 (by decide) (by decide), gh 7 (by decide) (by decide)]; exact f
theorem ok_dot {n p : Nat} {s : Nat → Nat} (h : m_ok n p s) : m_ok n (p + 1) (upN s 6 1) := by
  obtain ⟨⟨a1, a2, a3, a4, a5, a6⟩, b, c, d, e, f⟩ := h
  have g6 : upN s 6 1 6 = 1 := upN_eq
  have gh : ∀ j, j ≠ 6 → upN s 6 1 j = s j := fun j h1 => upN_ne h1
  refine ⟨by rw [g6, gh 5 (by decide), gh 7 (by decide), gh 8 (by decide), gh 9 (by decide)]; omega, fun k hk => ?_, fun z => ?_, fun z => by rw [g6] at z; omega, fun _ z => by rw [g6] at z; omega, ?_⟩
  · rw [gh 7 (by decide)] at hk; rw [gh _ (by omega)]; exact b k hk
  · rw [gh 5 (by decide), g6] at z
    rw [gh 50 (by decide)]; exact c (by omega)
  · rw [gh 5 (by decide), gh 7 (by decide)]; exact f
theorem vis_0 {n : Nat} (hn : n ≤ 8) (h : n % 2 = 0) : m_v n 0 := by
  rcases (by omega : n = 0 ∨ n = 2 ∨ n = 4 ∨ n = 6 ∨ n = 8) with rfl | rfl | rfl | rfl | rfl <;> exact ⟨by unfold b_vis; decide, by decide⟩
theorem up_gap {μ a : Nat} (h0 : b_up μ a = false) : ∀ {j : Nat}, (∀ i, a ≤ i → i < a + j → μ.testBit i = false) → b_up μ (a + j) = decide (j % 2 = 1)
  | 0, _ => by rw [Nat.add_zero, h0]; rfl
  | j + 1, h => by
    show (!(b_up μ (a + j)) && !(μ.testBit (a + j))) = _
    rw [up_gap h0 (j := j) (fun i h1 h2 => h i h1 (by omega)), h (a + j) (by omega) (by omega)]
    rcases (by omega : j % 2 = 0 ∨ j % 2 = 1) with e | e
    · have e2 : (j + 1) % 2 = 1 := by omega
      simp [e, e2]
    · have e2 : (j + 1) % 2 = 0 := by omega
      simp [e, e2]
/-- the change that digits tell can be rung -/
theorem mu_v {n p : Nat} {s : Nat → Nat} (hn : n ≤ 8) (h2 : s 2 ≠ 0) (h : m_pd n p s) (h10 : s 10 = 0) : m_v n (m_mu n s) ∧ (∀ j, j < n - 1 → (m_mk s).testBit j = (m_mu n s).testBit j) ∧ m_mk s < 256 := by
  obtain ⟨-, -, -, -, -, b1, b2, b3, b4⟩ := h h2
  obtain ⟨c1, c2, c3⟩ := b4 h10
  have hpow : 2 ^ s 12 ≤ 2 ^ 8 := Nat.pow_le_pow_right (by decide) (by omega)
  have hmk : m_mk s < 2 ^ s 12 := by
    unfold m_mk
    split
    · exact Nat.or_lt_two_pow c3 (Nat.one_lt_two_pow (by omega))
    · exact c3
  have hbit : (m_mk s).testBit (s 12 - 1) = true := by
    unfold m_mk
    split
    · rw [Nat.testBit_or, c2, Bool.true_or]
    · exact c2
  have hhi : ∀ i, s 12 ≤ i → (m_mk s).testBit i = false := fun i hi => Nat.testBit_lt_two_pow (Nat.lt_of_lt_of_le hmk (Nat.pow_le_pow_right (by decide) hi))
  have upA : ∀ μ, μ.testBit (s 12 - 1) = true → b_up μ (s 12) = false := fun μ hμ => by
    obtain ⟨t, ht⟩ : ∃ t, s 12 = t + 1 := ⟨s 12 - 1, by omega⟩
    rw [ht] at hμ ⊢
    show (!(b_up μ t) && !(μ.testBit t)) = false
    rw [show t + 1 - 1 = t by omega] at hμ
    rw [hμ]; simp
  have h256 : m_mk s < 256 := by omega
  by_cases ho : (n - s 12) % 2 = 1
  · have e : m_mu n s = m_mk s ||| 2 ^ (n - 1) := by unfold m_mu; rw [if_pos ho]
    have hpn : 2 ^ (n - 1) < 2 ^ 8 := Nat.pow_lt_pow_right (by decide) (by omega)
    have hlo : ∀ j, j < n - 1 → (m_mk s).testBit j = (m_mu n s).testBit j := fun j hj => by
      rw [e, Nat.testBit_or, Nat.testBit_two_pow_of_ne (by omega), Bool.or_false]
    refine ⟨⟨?_, by rw [e]; exact Nat.or_lt_two_pow (n := 8) (by omega) hpn⟩, hlo, h256⟩
    obtain ⟨t, ht⟩ : ∃ t, n = t + 1 := ⟨n - 1, by omega⟩
    show b_up (m_mu n s) n = false
    have ht1 : (m_mu n s).testBit t = true := by rw [e, Nat.testBit_or, show n - 1 = t by omega, Nat.testBit_two_pow_self, Bool.or_true]
    rw [show b_up (m_mu n s) n = b_up (m_mu n s) (t + 1) by rw [← ht]]
    show (!(b_up (m_mu n s) t) && !((m_mu n s).testBit t)) = false
    rw [ht1]; simp
  · have e : m_mu n s = m_mk s := by unfold m_mu; rw [if_neg ho]
    refine ⟨⟨?_, by rw [e]; exact h256⟩, fun j _ => by rw [e], h256⟩
    show b_up (m_mu n s) n = false
    rw [e]
    have := up_gap (upA _ hbit) (j := n - s 12) (fun i h1 _ => hhi i h1)
    rw [show s 12 + (n - s 12) = n by omega] at this
    rw [this]
    exact decide_eq_false ho
theorem pd_none {n p : Nat} {s : Nat → Nat} (h : s 2 = 0) : m_pd n p s := fun z => absurd h z
/-- one digit more -/
theorem pd_dig {n d p : Nat} {s : Nat → Nat} (hn : n ≤ 8) (hd1 : 1 ≤ d) (hd : d ≤ 8) (ho : m_ok n p s) (h : m_pd n p s) (h0 : s 0 = 0) (hr : m_dg n d p s 0 = 0) : m_ok n (p + 1) (m_dg n d p s) ∧ m_pd n (p + 1) (m_dg n d p s) := by
  have ho' := ho
  obtain ⟨⟨a1, a2, a3, a4, a5, a6⟩, -⟩ := ho'
  have hpw : 2 ^ (d - 1) < 2 ^ d := Nat.pow_lt_pow_right (by decide) (by omega)
  have hp8 : 2 ^ (d - 1) < 2 ^ 8 := Nat.pow_lt_pow_right (by decide) (by omega)
  by_cases h2 : s 2 = 0
  · by_cases hc : 2 ≤ s 6 ∧ ¬ (s 5 = 0 ∧ s 6 = 2)
    · unfold m_dg at hr
      rw [if_pos h2, if_pos hc, rf_0] at hr
      exact absurd hr (by decide)
    · have e : m_dg n d p s = upN (upN (upN (upN (upN s 2 (p + 1)) 10 (if d ≤ n then 0 else 1)) 11 d) 12 d) 13 (2 ^ (d - 1)) := by unfold m_dg; rw [if_pos h2, if_neg hc]
      rw [e]
      have gl : ∀ j, j ≠ 2 → j ≠ 10 → j ≠ 11 → j ≠ 12 → j ≠ 13 → upN (upN (upN (upN (upN s 2 (p + 1)) 10 (if d ≤ n then 0 else 1)) 11 d) 12 d) 13 (2 ^ (d - 1)) j = s j := fun j i1 i2 i3 i4 i5 => by rw [upN_ne i5, upN_ne i4, upN_ne i3, upN_ne i2, upN_ne i1]
      refine ⟨(ho.ext (fun j i1 i2 => gl j (by omega) (by omega) (by omega) (by omega) (by omega)) (fun j i1 => gl j (by omega) (by omega) (by omega) (by omega) (by omega))).mono (Nat.le_succ p), fun _ => ?_⟩
      rw [gl 5 (by decide) (by decide) (by decide) (by decide) (by decide), gl 7 (by decide) (by decide) (by decide) (by decide) (by decide), gl 8 (by decide) (by decide) (by decide) (by decide) (by decide)]
      have g2 : upN (upN (upN (upN (upN s 2 (p + 1)) 10 (if d ≤ n then 0 else 1)) 11 d) 12 d) 13 (2 ^ (d - 1)) 2 = p + 1 := by rw [upN_ne (by decide), upN_ne (by decide), upN_ne (by decide), upN_ne (by decide), upN_eq]
      have g10 : upN (upN (upN (upN (upN s 2 (p + 1)) 10 (if d ≤ n then 0 else 1)) 11 d) 12 d) 13 (2 ^ (d - 1)) 10 = if d ≤ n then 0 else 1 := by rw [upN_ne (by decide), upN_ne (by decide), upN_ne (by decide), upN_eq]
      have g11 : upN (upN (upN (upN (upN s 2 (p + 1)) 10 (if d ≤ n then 0 else 1)) 11 d) 12 d) 13 (2 ^ (d - 1)) 11 = d := by rw [upN_ne (by decide), upN_ne (by decide), upN_eq]
      have g12 : upN (upN (upN (upN (upN s 2 (p + 1)) 10 (if d ≤ n then 0 else 1)) 11 d) 12 d) 13 (2 ^ (d - 1)) 12 = d := by rw [upN_ne (by decide), upN_eq]
      have g13 : upN (upN (upN (upN (upN s 2 (p + 1)) 10 (if d ≤ n then 0 else 1)) 11 d) 12 d) 13 (2 ^ (d - 1)) 13 = 2 ^ (d - 1) := upN_eq
      rw [g2, g10, g11, g12, g13]
      refine ⟨Nat.le_refl _, by omega, by split <;> omega, hd1, hd, hd1, hd, hp8, fun z => ⟨?_, Nat.testBit_two_pow_self, hpw⟩⟩
      by_cases q : d ≤ n
      · exact q
      · rw [if_neg q] at z; exact absurd z (by decide)
  · have e : m_dg n d p s = upN (upN (if s 12 < d ∧ d ≤ n ∧ (d - s 12) % 2 = 1 then s else upN s 10 1) 12 d) 13 (s 13 ||| 2 ^ (d - 1)) := by unfold m_dg; rw [if_neg h2]
    rw [e]
    obtain ⟨b1, b2, b3, b4, b5, b6, b7, b8, b9⟩ := h h2
    have gl : ∀ j, j ≠ 10 → j ≠ 12 → j ≠ 13 → upN (upN (if s 12 < d ∧ d ≤ n ∧ (d - s 12) % 2 = 1 then s else upN s 10 1) 12 d) 13 (s 13 ||| 2 ^ (d - 1)) j = s j := fun j i1 i2 i3 => by
      rw [upN_ne i3, upN_ne i2]
      split
      · rfl
      · rw [upN_ne i1]
    have g12 : upN (upN (if s 12 < d ∧ d ≤ n ∧ (d - s 12) % 2 = 1 then s else upN s 10 1) 12 d) 13 (s 13 ||| 2 ^ (d - 1)) 12 = d := by rw [upN_ne (by decide), upN_eq]
    have g13 : upN (upN (if s 12 < d ∧ d ≤ n ∧ (d - s 12) % 2 = 1 then s else upN s 10 1) 12 d) 13 (s 13 ||| 2 ^ (d - 1)) 13 = s 13 ||| 2 ^ (d - 1) := upN_eq
    have g10 : upN (upN (if s 12 < d ∧ d ≤ n ∧ (d - s 12) % 2 = 1 then s else upN s 10 1) 12 d) 13 (s 13 ||| 2 ^ (d - 1)) 10 = if s 12 < d ∧ d ≤ n ∧ (d - s 12) % 2 = 1 then s 10 else 1 := by
      rw [upN_ne (by decide), upN_ne (by decide)]
      split
      · rfl
      · rw [upN_eq]
    refine ⟨(ho.ext (fun j i1 i2 => gl j (by omega) (by omega) (by omega)) (fun j i1 => gl j (by omega) (by omega) (by omega))).mono (Nat.le_succ p), fun _ => ?_⟩
    rw [gl 2 (by decide) (by decide) (by decide), gl 5 (by decide) (by decide) (by decide), gl 7 (by decide) (by decide) (by decide), gl 8 (by decide) (by decide) (by decide), gl 11 (by decide) (by decide) (by decide), g10, g12, g13]
    refine ⟨by omega, by omega, by split <;> omega, b4, b5, hd1, hd, Nat.or_lt_two_pow (n := 8) b8 hp8, fun z => ?_⟩
    by_cases q : s 12 < d ∧ d ≤ n ∧ (d - s 12) % 2 = 1
    · rw [if_pos q] at z
      obtain ⟨c1, c2, c3⟩ := b9 z
      refine ⟨q.2.1, by rw [Nat.testBit_or, Nat.testBit_two_pow_self, Bool.or_true], Nat.or_lt_two_pow (Nat.lt_of_lt_of_le c3 (Nat.pow_le_pow_right (by decide) (by omega))) hpw⟩
    · rw [if_neg q] at z; exact absurd z (by decide)

/-! A composition's text, read byte by byte: a reading as a function of the bytes. -/
def ltt (c : Nat) : Prop := 65 ≤ c ∧ c ≤ 70
def cll (c : Nat) : Prop := c = 112 ∨ c = 98 ∨ c = 115
def q_it (c : Nat) (s : Nat → Nat) : Nat → Nat := upN (upN (upN (upN s (1000 + s 6) c) (2000 + s 6) (if s 10 = 0 then 1 else s 10 - 1)) 6 (s 6 + 1)) 10 0
def q_un (Ks : Nat → Nat) (c m p : Nat) (s : Nat → Nat) : Nat → Nat := if 0 < Ks m then upN (q_it c s) 9 0 else m_rf 3 p s
def q_og (p : Nat) (s : Nat → Nat) : Nat → Nat := if s 8 < 5 then upN (q_it 40 (upN (upN s (4000 + s 8) (s 6)) 8 (s 8 + 1))) 9 1 else m_rf 4 p s
def q_cx (s : Nat → Nat) : Nat → Nat := q_it 41 (upN (upN (upN s (3000 + s 6) (s (4000 + (s 8 - 1)))) (3000 + s (4000 + (s 8 - 1))) (s 6)) 8 (s 8 - 1))
def q_cg (p : Nat) (s : Nat → Nat) : Nat → Nat := if s 8 = 0 ∨ s 9 ≠ 0 ∨ s 10 ≠ 0 then m_rf 1 p s else q_cx s
def q_ee (p : Nat) (s : Nat → Nat) : Nat → Nat := if s 8 = 0 ∧ s 9 = 0 ∧ s 10 = 0 then s else m_rf 1 p s
def q_sg (Ks : Nat → Nat) (c p : Nat) (s : Nat → Nat) : Nat → Nat :=
  if c = 32 ∨ c = 10 then s else if c = 112 ∨ c = 98 ∨ c = 115 then q_un Ks c (s 7) p s else if 65 ≤ c ∧ c ≤ 70 then q_un Ks c (c - 65) p (upN s 7 (c - 65))
  else if c = 40 then q_og p s else if c = 41 then q_cg p s else if c = 999 then q_ee p s else m_rf 1 p s
def q_dg (d p : Nat) (s : Nat → Nat) : Nat → Nat :=
  if s 2 = 0 then (if s 10 = 0 then upN (upN (upN s 2 (p + 1)) 11 1) 10 (d + 1) else m_rf 1 p (upN s 2 (p + 1)))
  else upN (upN s 11 (s 11 + 1)) 10 (if s 11 + 1 ≤ 2 then (s 10 - 1) * 10 + d + 1 else 101)
def q_nd (s : Nat → Nat) : Nat → Nat := upN (if 3 ≤ s 10 ∧ s 10 ≤ 100 then s else m_rf 2 (s 2 - 1) s) 2 0
def q_st (Ks : Nat → Nat) (c p : Nat) (s : Nat → Nat) : Nat → Nat :=
  if 48 ≤ c ∧ c ≤ 57 then q_dg (c - 48) p s else if s 2 = 0 then q_sg Ks c p s else if (q_nd s) 0 = 0 then q_sg Ks c p (q_nd s) else q_nd s
def q_rn (Ks bt : Nat → Nat) (z : Nat) : Nat → Nat → (Nat → Nat) → Nat → Nat
  | 0, _, s => s
  | f + 1, p, s => if s 0 = 0 then q_rn Ks bt z f (p + 1) (q_st Ks (sgn bt z p) p s) else s
def q_0 : Nat → Nat := fun j => if j = 9 then 1 else 0
theorem it_lo {c j : Nat} {s : Nat → Nat} (h6 : j ≠ 6) (h10 : j ≠ 10) (hj : j < 1000) : q_it c s j = s j := by unfold q_it; rw [upN_ne h10, upN_ne h6, upN_ne (by omega), upN_ne (by omega)]
theorem it_6 {c : Nat} {s : Nat → Nat} : q_it c s 6 = s 6 + 1 := by unfold q_it; rw [upN_ne (by decide), upN_eq]
theorem it_10 {c : Nat} {s : Nat → Nat} : q_it c s 10 = 0 := by unfold q_it; rw [upN_eq]
theorem it_kd {c k : Nat} {s : Nat → Nat} (hk : k < 1000) (h6 : s 6 < 1000) : q_it c s (1000 + k) = if k = s 6 then c else s (1000 + k) := by
  unfold q_it
  rw [upN_ne (by omega), upN_ne (by omega), upN_ne (by omega), upN_at]
  by_cases e : k = s 6
  · rw [if_pos (by omega), if_pos e]
  · rw [if_neg (by omega), if_neg e]
theorem it_tm {c k : Nat} {s : Nat → Nat} (hk : k < 1000) (h6 : s 6 < 1000) : q_it c s (2000 + k) = if k = s 6 then (if s 10 = 0 then 1 else s 10 - 1) else s (2000 + k) := by
  unfold q_it
  rw [upN_ne (by omega), upN_ne (by omega), upN_at]
  by_cases e : k = s 6
  · rw [if_pos (by omega), if_pos e]
  · rw [if_neg (by omega), if_neg e, upN_ne (by omega)]
theorem it_hi {c j : Nat} {s : Nat → Nat} (hj : 3000 ≤ j) (h6 : s 6 < 1000) : q_it c s j = s j := by unfold q_it; rw [upN_ne (by omega), upN_ne (by omega), upN_ne (by omega), upN_ne (by omega)]
/-- items in brackets: from a to b, e groups being told around them -/
def wb (kd pt : Nat → Nat) : Nat → Nat → Nat → Nat → Prop
  | 0, _, a, b => a = b
  | f + 1, e, a, b => a = b ∨ (a < b ∧ (cll (kd a) ∨ ltt (kd a)) ∧ wb kd pt f e (a + 1) b) ∨ (kd a = 40 ∧ e < 5 ∧ a < pt a ∧ pt a < b ∧ kd (pt a) = 41 ∧ pt (pt a) = a ∧ wb kd pt f (e + 1) (a + 1) (pt a) ∧ wb kd pt f e (pt a + 1) b)
theorem wb_rf {kd pt : Nat → Nat} {e a : Nat} : ∀ {f : Nat}, wb kd pt f e a a
  | 0 => rfl
  | _ + 1 => Or.inl rfl
theorem wb_le {kd pt : Nat → Nat} : ∀ {f e a b : Nat}, wb kd pt f e a b → a ≤ b
  | 0, _, _, _, h => Nat.le_of_eq h
  | f + 1, e, a, b, h => by
    rcases h with h | ⟨h, -⟩ | ⟨-, -, h1, h2, -⟩
    · omega
    · omega
    · omega
theorem wb_mo {kd pt : Nat → Nat} : ∀ {f e a b : Nat}, wb kd pt f e a b → wb kd pt (f + 1) e a b
  | 0, _, _, _, h => Or.inl h
  | f + 1, e, a, b, h => by
    rcases h with h | ⟨h1, h2, h3⟩ | ⟨h1, h2, h3, h4, h5, h6, h7, h8⟩
    · exact Or.inl h
    · exact Or.inr (Or.inl ⟨h1, h2, wb_mo h3⟩)
    · exact Or.inr (Or.inr ⟨h1, h2, h3, h4, h5, h6, wb_mo h7, wb_mo h8⟩)
theorem wb_up {kd pt : Nat → Nat} {f e a b : Nat} (h : wb kd pt f e a b) : ∀ k, wb kd pt (f + k) e a b
  | 0 => h
  | k + 1 => wb_mo (wb_up h k)
theorem wb_congr {kd pt kd' pt' : Nat → Nat} : ∀ {f e a b : Nat}, (∀ k, a ≤ k → k < b → kd' k = kd k ∧ pt' k = pt k) → wb kd pt f e a b → wb kd' pt' f e a b
  | 0, _, _, _, _, h => h
  | f + 1, e, a, b, hc, h => by
    rcases h with h | ⟨h1, h2, h3⟩ | ⟨h1, h2, h3, h4, h5, h6, h7, h8⟩
    · exact Or.inl h
    · exact Or.inr (Or.inl ⟨h1, by rw [(hc a (Nat.le_refl a) h1).1]; exact h2, wb_congr (fun k i1 i2 => hc k (by omega) i2) h3⟩)
    · obtain ⟨c1, c2⟩ := hc a (Nat.le_refl a) (by omega)
      obtain ⟨c3, c4⟩ := hc (pt a) (by omega) h4
      refine Or.inr (Or.inr ⟨by rw [c1]; exact h1, h2, by rw [c2]; exact h3, by rw [c2]; exact h4, by rw [c2, c3]; exact h5, by rw [c2, c4]; exact h6, ?_, ?_⟩)
      · rw [c2]; exact wb_congr (fun k i1 i2 => hc k (by omega) (by omega)) h7
      · rw [c2]; exact wb_congr (fun k i1 i2 => hc k (by omega) i2) h8
theorem wb_un {kd pt : Nat → Nat} {k : Nat} (hk : cll (kd k) ∨ ltt (kd k)) : ∀ {f e a : Nat}, wb kd pt f e a k → wb kd pt (f + 1) e a (k + 1)
  | 0, _, a, h => by
    have h' : a = k := h
    subst h'
    exact Or.inr (Or.inl ⟨Nat.lt_succ_self _, hk, rfl⟩)
  | f + 1, e, a, h => by
    rcases h with h | ⟨h1, h2, h3⟩ | ⟨h1, h2, h3, h4, h5, h6, h7, h8⟩
    · subst h
      exact Or.inr (Or.inl ⟨Nat.lt_succ_self _, hk, wb_rf⟩)
    · exact Or.inr (Or.inl ⟨by omega, h2, wb_un hk h3⟩)
    · exact Or.inr (Or.inr ⟨h1, h2, h3, by omega, h5, h6, wb_mo h7, wb_un hk h8⟩)
theorem wb_gr {kd pt : Nat → Nat} {k j g : Nat} : ∀ {f e a : Nat}, wb kd pt f e a k → kd k = 40 → e < 5 → k < j → pt k = j → kd j = 41 → pt j = k → wb kd pt g (e + 1) (k + 1) j → wb kd pt (f + g + 1) e a (j + 1)
  | f, e, a, h, hk, he, hkj, hp, hj, hpj, hg => by
    have base : a = k → wb kd pt (f + g + 1) e a (j + 1) := fun q => by
      subst q
      subst hp
      exact Or.inr (Or.inr ⟨hk, he, hkj, Nat.lt_succ_self _, hj, hpj, by rw [Nat.add_comm]; exact wb_up hg f, wb_rf⟩)
    cases f with
    | zero => exact base h
    | succ f =>
      rcases h with h | ⟨h1, h2, h3⟩ | ⟨h1, h2, h3, h4, h5, h6, h7, h8⟩
      · exact base h
      · have := wb_gr h3 hk he hkj hp hj hpj hg
        rw [show f + 1 + g + 1 = (f + g + 1) + 1 by omega]
        exact Or.inr (Or.inl ⟨by omega, h2, this⟩)
      · have := wb_gr h8 hk he hkj hp hj hpj hg
        rw [show f + 1 + g + 1 = (f + g + 1) + 1 by omega]
        exact Or.inr (Or.inr ⟨h1, h2, h3, by omega, h5, h6, by rw [Nat.add_assoc]; exact wb_up h7 (g + 1), this⟩)
def lo (op : Nat → Nat) : Nat → Nat
  | 0 => 0
  | i + 1 => op i + 1
theorem lo_congr {op op' : Nat → Nat} : ∀ {i : Nat}, (∀ j, j < i → op' j = op j) → lo op' i = lo op i
  | 0, _ => rfl
  | i + 1, h => by show op' i + 1 = op i + 1; rw [h i (Nat.lt_succ_self i)]
def q_E (d u : Nat) (kd pt op : Nat → Nat) : Prop := (∀ i, i < d → op i < u ∧ kd (op i) = 40 ∧ ∃ f, wb kd pt f i (lo op i) (op i)) ∧ ∃ f, wb kd pt f d (lo op d) u
theorem q_E.mono {d u : Nat} {kd pt op : Nat → Nat} (h : q_E d u kd pt op) {i : Nat} : ∀ {j : Nat}, i < j → j < d → op i < op j
  | 0, hij, _ => absurd hij (Nat.not_lt_zero i)
  | j + 1, hij, hj => by
    obtain ⟨-, -, f, hf⟩ := h.1 (j + 1) hj
    have h1 : op j + 1 ≤ op (j + 1) := wb_le hf
    by_cases e : i = j
    · subst e; omega
    · have := h.mono (i := i) (j := j) (by omega) (by omega)
      omega
theorem q_E.unit {d u : Nat} {kd kd' pt pt' op op' : Nat → Nat} (h : q_E d u kd pt op) (e1 : ∀ k, k < u → kd' k = kd k ∧ pt' k = pt k) (e2 : ∀ i, i < d → op' i = op i) (hk : cll (kd' u) ∨ ltt (kd' u)) : q_E d (u + 1) kd' pt' op' := by
  obtain ⟨h1, f, h2⟩ := h
  refine ⟨fun i hi => ?_, f + 1, ?_⟩
  · obtain ⟨a, b, g, c⟩ := h1 i hi
    rw [e2 i hi, lo_congr (op := op) (op' := op') (fun j hj => e2 j (by omega))]
    exact ⟨by omega, by rw [(e1 _ a).1]; exact b, g, wb_congr (fun k _ i2 => e1 k (by omega)) c⟩
  · rw [lo_congr (op := op) (op' := op') e2]
    exact wb_un hk (wb_congr (fun k _ i2 => e1 k i2) h2)
theorem q_E.gopen {d u : Nat} {kd kd' pt pt' op op' : Nat → Nat} (h : q_E d u kd pt op) (e1 : ∀ k, k < u → kd' k = kd k ∧ pt' k = pt k) (e2 : ∀ i, i < d → op' i = op i) (hu : kd' u = 40) (ho : op' d = u) : q_E (d + 1) (u + 1) kd' pt' op' := by
  obtain ⟨h1, f, h2⟩ := h
  refine ⟨fun i hi => ?_, 0, ?_⟩
  · rw [lo_congr (op := op) (op' := op') (fun j hj => e2 j (by omega))]
    by_cases q : i = d
    · subst q
      rw [ho]
      exact ⟨Nat.lt_succ_self _, hu, f, wb_congr (fun k _ i2 => e1 k i2) h2⟩
    · obtain ⟨a, b, g, c⟩ := h1 i (by omega)
      rw [e2 i (by omega)]
      exact ⟨by omega, by rw [(e1 _ a).1]; exact b, g, wb_congr (fun k _ i2 => e1 k (by omega)) c⟩
  · show op' d + 1 = u + 1
    rw [ho]
theorem q_E.gclose {d u : Nat} {kd kd' pt pt' op op' : Nat → Nat} (hd : d < 5) (h : q_E (d + 1) u kd pt op) (e1 : ∀ k, k < u → kd' k = kd k) (e2 : ∀ k, k < u → k ≠ op d → pt' k = pt k) (e3 : ∀ i, i < d → op' i = op i) (hu : kd' u = 41) (hp : pt' (op d) = u) (hq : pt' u = op d) : q_E d (u + 1) kd' pt' op' := by
  have hm := fun i hi => h.mono (i := i) (j := d) hi (Nat.lt_succ_self d)
  obtain ⟨h1, f, h2⟩ := h
  refine ⟨fun i hi => ?_, ?_⟩
  · obtain ⟨a, b, g, c⟩ := h1 i (by omega)
    have := hm i hi
    rw [e3 i hi, lo_congr (op := op) (op' := op') (fun j hj => e3 j (by omega))]
    exact ⟨by omega, by rw [e1 _ a]; exact b, g, wb_congr (fun k _ i2 => ⟨e1 k (by omega), e2 k (by omega) (by omega)⟩) c⟩
  · obtain ⟨a, b, g, c⟩ := h1 d (Nat.lt_succ_self d)
    rw [lo_congr (op := op) (op' := op') e3]
    have c' : wb kd' pt' g d (lo op d) (op d) := wb_congr (fun k _ i2 => ⟨e1 k (by omega), e2 k (by omega) (by omega)⟩) c
    have h2' : wb kd' pt' f (d + 1) (op d + 1) u := wb_congr (fun k i1 i2 => ⟨e1 k i2, e2 k i2 (by omega)⟩) h2
    exact ⟨_, wb_gr c' (by rw [e1 _ a]; exact b) hd a hp hu hq h2'⟩
def kdf (s : Nat → Nat) : Nat → Nat := fun k => s (1000 + k)
def tmf (s : Nat → Nat) : Nat → Nat := fun k => s (2000 + k)
def ptf (s : Nat → Nat) : Nat → Nat := fun k => s (3000 + k)
def opf (s : Nat → Nat) : Nat → Nat := fun k => s (4000 + k)
/-- each item -/
def q_C (Ks : Nat → Nat) (kd tm : Nat → Nat) (k : Nat) : Prop := (cll (kd k) ∨ ltt (kd k) ∨ kd k = 40 ∨ kd k = 41) ∧ 1 ≤ tm k ∧ tm k ≤ 99 ∧ (ltt (kd k) → 0 < Ks (kd k - 65)) ∧ (cll (kd k) → (∃ i, i < k ∧ ltt (kd i)) ∨ 0 < Ks 0)
def q_ok (Ks : Nat → Nat) (p : Nat) (s : Nat → Nat) : Prop :=
  (s 7 < 6 ∧ s 8 ≤ 5 ∧ s 9 ≤ 1 ∧ s 6 ≤ p) ∧ (s 2 = 0 → s 10 = 0 ∨ (3 ≤ s 10 ∧ s 10 ≤ 100)) ∧ (∀ k, k < s 6 → q_C Ks (kdf s) (tmf s) k) ∧ ((∀ i, i < s 6 → ¬ ltt (kdf s i)) → s 7 = 0) ∧ q_E (s 8) (s 6) (kdf s) (ptf s) (opf s)
def q_pd (p : Nat) (s : Nat → Nat) : Prop := s 2 ≠ 0 → s 2 ≤ p ∧ 1 ≤ s 10 ∧ s 10 ≤ 101 ∧ 1 ≤ s 11 ∧ s 11 ≤ p ∧ (s 11 = 1 → s 10 ≤ 10)
theorem q_C.congr {Ks kd tm kd' tm' : Nat → Nat} {k : Nat} (h : q_C Ks kd tm k) (e1 : ∀ i, i ≤ k → kd' i = kd i) (e2 : tm' k = tm k) : q_C Ks kd' tm' k := by
  obtain ⟨a, b, c, d, e⟩ := h
  unfold q_C
  rw [e1 k (Nat.le_refl k), e2]
  refine ⟨a, b, c, d, fun q => ?_⟩
  rcases e q with ⟨i, i1, i2⟩ | q2
  · exact Or.inl ⟨i, i1, by rw [e1 i (by omega)]; exact i2⟩
  · exact Or.inr q2
theorem q_ok.ext {Ks : Nat → Nat} {p q : Nat} {s t : Nat → Nat} (h : q_ok Ks p s) (hpq : p ≤ q) (e1 : ∀ j, 6 ≤ j → j ≤ 9 → t j = s j) (e2 : ∀ j, 1000 ≤ j → t j = s j) (e3 : t 2 = 0 → t 10 = 0 ∨ (3 ≤ t 10 ∧ t 10 ≤ 100)) : q_ok Ks q t := by
  obtain ⟨⟨a1, a2, a3, a4⟩, b, c, d, e⟩ := h
  have g6 := e1 6 (by decide) (by decide)
  have g7 := e1 7 (by decide) (by decide)
  have g8 := e1 8 (by decide) (by decide)
  have g9 := e1 9 (by decide) (by decide)
  have k1 : kdf t = kdf s := by funext k; exact e2 _ (by omega)
  have k2 : tmf t = tmf s := by funext k; exact e2 _ (by omega)
  have k3 : ptf t = ptf s := by funext k; exact e2 _ (by omega)
  have k4 : opf t = opf s := by funext k; exact e2 _ (by omega)
  exact ⟨⟨by rw [g7]; exact a1, by rw [g8]; exact a2, by rw [g9]; exact a3, by rw [g6]; omega⟩, e3, by rw [g6, k1, k2]; exact c, by rw [g6, g7, k1]; exact d, by rw [g6, g8, k1, k3, k4]; exact e⟩
theorem tm_ok {s : Nat → Nat} (h : s 10 = 0 ∨ (3 ≤ s 10 ∧ s 10 ≤ 100)) : 1 ≤ (if s 10 = 0 then 1 else s 10 - 1) ∧ (if s 10 = 0 then 1 else s 10 - 1) ≤ 99 := by
  split <;> omega
/-- one more unit -/
theorem ok_unit0 {Ks : Nat → Nat} {p c : Nat} {s : Nat → Nat} (hp : p < 500) (a1 : s 7 < 6) (a2 : s 8 ≤ 5) (a4 : s 6 ≤ p) (b : s 10 = 0 ∨ (3 ≤ s 10 ∧ s 10 ≤ 100)) (cc : ∀ k, k < s 6 → q_C Ks (kdf s) (tmf s) k) (e : q_E (s 8) (s 6) (kdf s) (ptf s) (opf s)) (hc : cll c ∨ ltt c) (hk : ltt c → 0 < Ks (c - 65) ∧ s 7 = c - 65) (hk2 : cll c → 0 < Ks (s 7)) (hl : (∀ i, i < s 6 → ¬ ltt (kdf s i)) → cll c → s 7 = 0) : q_ok Ks (p + 1) (upN (q_it c s) 9 0) := by
  have l6 : s 6 < 1000 := by omega
  have g : ∀ j, j ≠ 9 → upN (q_it c s) 9 0 j = q_it c s j := fun j hj => upN_ne hj
  have kd : ∀ k, k < 1000 → kdf (upN (q_it c s) 9 0) k = if k = s 6 then c else kdf s k := fun k hk => by show upN (q_it c s) 9 0 (1000 + k) = _; rw [g _ (by omega), it_kd hk l6]; rfl
  have tm : ∀ k, k < 1000 → tmf (upN (q_it c s) 9 0) k = if k = s 6 then (if s 10 = 0 then 1 else s 10 - 1) else tmf s k := fun k hk => by show upN (q_it c s) 9 0 (2000 + k) = _; rw [g _ (by omega), it_tm hk l6]; rfl
  have g6 : upN (q_it c s) 9 0 6 = s 6 + 1 := by rw [g 6 (by decide), it_6]
  have g7 : upN (q_it c s) 9 0 7 = s 7 := by rw [g 7 (by decide), it_lo (by decide) (by decide) (by decide)]
  have g8 : upN (q_it c s) 9 0 8 = s 8 := by rw [g 8 (by decide), it_lo (by decide) (by decide) (by decide)]
  have kdu : kdf (upN (q_it c s) 9 0) (s 6) = c := by rw [kd _ (by omega), if_pos rfl]
  refine ⟨⟨by rw [g7]; exact a1, by rw [g8]; exact a2, by rw [upN_eq]; decide, by rw [g6]; omega⟩, fun _ => Or.inl (by rw [g 10 (by decide), it_10]), fun k hku => ?_, fun q => ?_, ?_⟩
  · rw [g6] at hku
    by_cases q : k = s 6
    · subst q
      have ht := tm_ok b
      unfold q_C
      rw [kdu, tm _ (by omega), if_pos rfl]
      refine ⟨hc.elim Or.inl (fun y => Or.inr (Or.inl y)), ht.1, ht.2, fun y => (hk y).1, fun y => ?_⟩
      by_cases q2 : ∃ i, i < s 6 ∧ ltt (kdf s i)
      · obtain ⟨i, i1, i2⟩ := q2
        exact Or.inl ⟨i, i1, by rw [kd i (by omega), if_neg (by omega)]; exact i2⟩
      · have z := hl (fun i i1 i2 => q2 ⟨i, i1, i2⟩) y
        have := hk2 y
        rw [z] at this
        exact Or.inr this
    · exact (cc k (by omega)).congr (fun i i1 => by rw [kd i (by omega), if_neg (by omega)]) (by rw [tm k (by omega), if_neg q])
  · rw [g7]
    have hnl : ¬ ltt c := fun y => q (s 6) (by rw [g6]; omega) (by rw [kdu]; exact y)
    exact hl (fun i i1 i2 => q i (by rw [g6]; omega) (by rw [kd i (by omega), if_neg (by omega)]; exact i2)) (hc.resolve_right hnl)
  · rw [g6, g8]
    refine e.unit (fun k hk => ⟨by rw [kd k (by omega), if_neg (by omega)], ?_⟩) (fun i _ => ?_) (by rw [kdu]; exact hc)
    · show upN (q_it c s) 9 0 (3000 + k) = s (3000 + k); rw [g _ (by omega), it_hi (by omega) l6]
    · show upN (q_it c s) 9 0 (4000 + i) = s (4000 + i); rw [g _ (by omega), it_hi (by omega) l6]
theorem ok_unit {Ks : Nat → Nat} {p c : Nat} {s : Nat → Nat} (hp : p < 500) (h2 : s 2 = 0) (h : q_ok Ks p s) (hc : cll c ∨ ltt c) (hk : ltt c → 0 < Ks (c - 65) ∧ s 7 = c - 65) (hk2 : cll c → 0 < Ks (s 7)) (hl : (∀ i, i < s 6 → ¬ ltt (kdf s i)) → cll c → s 7 = 0) : q_ok Ks (p + 1) (upN (q_it c s) 9 0) :=
  ok_unit0 hp h.1.1 h.1.2.1 h.1.2.2.2 (h.2.1 h2) h.2.2.1 h.2.2.2.2 hc hk hk2 hl
theorem ok_letter {Ks : Nat → Nat} {p c : Nat} {s : Nat → Nat} (hp : p < 500) (h2 : s 2 = 0) (h : q_ok Ks p s) (hl : ltt c) (hK : 0 < Ks (c - 65)) : q_ok Ks (p + 1) (upN (q_it c (upN s 7 (c - 65))) 9 0) := by
  have g : ∀ j, j ≠ 7 → upN s 7 (c - 65) j = s j := fun j hj => upN_ne hj
  have kdE : kdf (upN s 7 (c - 65)) = kdf s := by funext k; exact g _ (by omega)
  have tmE : tmf (upN s 7 (c - 65)) = tmf s := by funext k; exact g _ (by omega)
  have ptE : ptf (upN s 7 (c - 65)) = ptf s := by funext k; exact g _ (by omega)
  have opE : opf (upN s 7 (c - 65)) = opf s := by funext k; exact g _ (by omega)
  have hl' := hl
  unfold ltt at hl'
  refine ok_unit0 hp (by rw [upN_eq]; omega) (by rw [g 8 (by decide)]; exact h.1.2.1) (by rw [g 6 (by decide)]; exact h.1.2.2.2) (by rw [g 10 (by decide)]; exact h.2.1 h2) (by rw [g 6 (by decide), kdE, tmE]; exact h.2.2.1) (by rw [g 6 (by decide), g 8 (by decide), kdE, ptE, opE]; exact h.2.2.2.2) (Or.inr hl) (fun _ => ⟨hK, upN_eq⟩) (fun y => by unfold cll at y; omega) (fun _ y => by unfold cll at y; omega)
theorem ok_gopen {Ks : Nat → Nat} {p : Nat} {s : Nat → Nat} (hp : p < 500) (h2 : s 2 = 0) (h : q_ok Ks p s) (h8 : s 8 < 5) : q_ok Ks (p + 1) (upN (q_it 40 (upN (upN s (4000 + s 8) (s 6)) 8 (s 8 + 1))) 9 1) := by
  obtain ⟨⟨a1, a2, a3, a4⟩, b, cc, d, e⟩ := h
  generalize hS : upN (upN s (4000 + s 8) (s 6)) 8 (s 8 + 1) = s1
  have t : ∀ j, j ≠ 8 → j ≠ 4000 + s 8 → s1 j = s j := fun j i1 i2 => by rw [← hS, upN_ne i1, upN_ne i2]
  have t6 : s1 6 = s 6 := t 6 (by decide) (by omega)
  have t8 : s1 8 = s 8 + 1 := by rw [← hS, upN_eq]
  have t10 : s1 10 = s 10 := t 10 (by decide) (by omega)
  have l6 : s1 6 < 1000 := by omega
  have g : ∀ j, j ≠ 9 → upN (q_it 40 s1) 9 1 j = q_it 40 s1 j := fun j hj => upN_ne hj
  have kd : ∀ k, k < 1000 → kdf (upN (q_it 40 s1) 9 1) k = if k = s 6 then 40 else kdf s k := fun k hk => by show upN (q_it 40 s1) 9 1 (1000 + k) = _; rw [g _ (by omega), it_kd hk l6, t6, t _ (by omega) (by omega)]; rfl
  have tm : ∀ k, k < 1000 → tmf (upN (q_it 40 s1) 9 1) k = if k = s 6 then (if s 10 = 0 then 1 else s 10 - 1) else tmf s k := fun k hk => by show upN (q_it 40 s1) 9 1 (2000 + k) = _; rw [g _ (by omega), it_tm hk l6, t6, t10, t _ (by omega) (by omega)]; rfl
  have g6 : upN (q_it 40 s1) 9 1 6 = s 6 + 1 := by rw [g 6 (by decide), it_6, t6]
  have g7 : upN (q_it 40 s1) 9 1 7 = s 7 := by rw [g 7 (by decide), it_lo (by decide) (by decide) (by decide), t 7 (by decide) (by omega)]
  have g8 : upN (q_it 40 s1) 9 1 8 = s 8 + 1 := by rw [g 8 (by decide), it_lo (by decide) (by decide) (by decide), t8]
  have kdu : kdf (upN (q_it 40 s1) 9 1) (s 6) = 40 := by rw [kd _ (by omega), if_pos rfl]
  refine ⟨⟨by rw [g7]; exact a1, by rw [g8]; omega, by rw [upN_eq]; decide, by rw [g6]; omega⟩, fun _ => Or.inl (by rw [g 10 (by decide), it_10]), fun k hk => ?_, fun q => ?_, ?_⟩
  · rw [g6] at hk
    by_cases q : k = s 6
    · subst q
      have ht := tm_ok (b h2)
      unfold q_C
      rw [kdu, tm _ (by omega), if_pos rfl]
      exact ⟨Or.inr (Or.inr (Or.inl rfl)), ht.1, ht.2, fun y => by unfold ltt at y; omega, fun y => by unfold cll at y; omega⟩
    · exact (cc k (by omega)).congr (fun i i1 => by rw [kd i (by omega), if_neg (by omega)]) (by rw [tm k (by omega), if_neg q])
  · rw [g7]
    exact d (fun i i1 i2 => q i (by rw [g6]; omega) (by rw [kd i (by omega), if_neg (by omega)]; exact i2))
  · rw [g6, g8]
    refine e.gopen (fun k hk => ⟨by rw [kd k (by omega), if_neg (by omega)], ?_⟩) (fun i hi => ?_) kdu ?_
    · show upN (q_it 40 s1) 9 1 (3000 + k) = s (3000 + k); rw [g _ (by omega), it_hi (by omega) l6, t _ (by omega) (by omega)]
    · show upN (q_it 40 s1) 9 1 (4000 + i) = s (4000 + i); rw [g _ (by omega), it_hi (by omega) l6, t _ (by omega) (by omega)]
    · show upN (q_it 40 s1) 9 1 (4000 + s 8) = s 6; rw [g _ (by omega), it_hi (by omega) l6, ← hS, upN_ne (by omega), upN_eq]
theorem ok_gclose {Ks : Nat → Nat} {p : Nat} {s : Nat → Nat} (hp : p < 500) (h : q_ok Ks p s) (h8 : s 8 ≠ 0) (h10 : s 10 = 0) (h9 : s 9 = 0) : q_ok Ks (p + 1) (q_cx s) := by
  obtain ⟨⟨a1, a2, a3, a4⟩, b, cc, d, e⟩ := h
  unfold q_cx
  obtain ⟨dd, hd⟩ : ∃ dd, s 8 = dd + 1 := ⟨s 8 - 1, by omega⟩
  rw [hd] at e
  have hfr := (e.1 dd (Nat.lt_succ_self dd)).1
  rw [show s 8 - 1 = dd by omega]
  have hfr' : s (4000 + dd) < s 6 := hfr
  generalize hS : upN (upN (upN s (3000 + s 6) (s (4000 + dd))) (3000 + s (4000 + dd)) (s 6)) 8 dd = s1
  have t : ∀ j, j ≠ 8 → ¬ (3000 ≤ j ∧ j < 4000) → s1 j = s j := fun j i1 i2 => by rw [← hS, upN_ne i1, upN_ne (by omega), upN_ne (by omega)]
  have t6 : s1 6 = s 6 := t 6 (by decide) (by omega)
  have t8 : s1 8 = dd := by rw [← hS, upN_eq]
  have t10 : s1 10 = 0 := by rw [t 10 (by decide) (by omega)]; exact h10
  have l6 : s1 6 < 1000 := by omega
  have kd : ∀ k, k < 1000 → kdf (q_it 41 s1) k = if k = s 6 then 41 else kdf s k := fun k hk => by show q_it 41 s1 (1000 + k) = _; rw [it_kd hk l6, t6, t _ (by omega) (by omega)]; rfl
  have tm : ∀ k, k < 1000 → tmf (q_it 41 s1) k = if k = s 6 then 1 else tmf s k := fun k hk => by show q_it 41 s1 (2000 + k) = _; rw [it_tm hk l6, t6, t10, if_pos rfl, t _ (by omega) (by omega)]; rfl
  have g7 : q_it 41 s1 7 = s 7 := by rw [it_lo (by decide) (by decide) (by decide), t 7 (by decide) (by omega)]
  have g8 : q_it 41 s1 8 = dd := by rw [it_lo (by decide) (by decide) (by decide), t8]
  have g6 : q_it 41 s1 6 = s 6 + 1 := by rw [it_6, t6]
  have g9 : q_it 41 s1 9 = 0 := by rw [it_lo (by decide) (by decide) (by decide), t 9 (by decide) (by omega)]; exact h9
  have kdu : kdf (q_it 41 s1) (s 6) = 41 := by rw [kd _ (by omega), if_pos rfl]
  refine ⟨⟨by rw [g7]; exact a1, by rw [g8]; omega, by rw [g9]; decide, by rw [g6]; omega⟩, fun _ => Or.inl it_10, fun k hk => ?_, fun q => ?_, ?_⟩
  · rw [g6] at hk
    by_cases q : k = s 6
    · subst q
      unfold q_C
      rw [kdu, tm _ (by omega), if_pos rfl]
      exact ⟨Or.inr (Or.inr (Or.inr rfl)), by decide, by decide, fun y => by unfold ltt at y; omega, fun y => by unfold cll at y; omega⟩
    · exact (cc k (by omega)).congr (fun i i1 => by rw [kd i (by omega), if_neg (by omega)]) (by rw [tm k (by omega), if_neg q])
  · rw [g7]
    exact d (fun i i1 i2 => q i (by rw [g6]; omega) (by rw [kd i (by omega), if_neg (by omega)]; exact i2))
  · rw [g6, g8]
    refine e.gclose (by omega) (fun k hk => by rw [kd k (by omega), if_neg (by omega)]) (fun k hk hne => ?_) (fun i hi => ?_) kdu ?_ ?_
    · have hne' : k ≠ s (4000 + dd) := hne
      show q_it 41 s1 (3000 + k) = s (3000 + k)
      rw [it_hi (by omega) l6, ← hS, upN_ne (by omega), upN_ne (by omega), upN_ne (by omega)]
    · show q_it 41 s1 (4000 + i) = s (4000 + i); rw [it_hi (by omega) l6, t _ (by omega) (by omega)]
    · show q_it 41 s1 (3000 + s (4000 + dd)) = s 6
      rw [it_hi (by omega) l6, ← hS, upN_ne (by omega), upN_eq]
    · show q_it 41 s1 (3000 + s 6) = s (4000 + dd)
      rw [it_hi (by omega) l6, ← hS, upN_ne (by omega), upN_ne (by omega), upN_eq]

/-! What items in brackets tell: how many leads, which ones, in how many steps. -/
abbrev XS : Type := Nat × Nat × (Nat → Nat)
section SEG
variable (kd tm pt : Nat → Nat)
def cnt : Nat → Nat → Nat → Nat
  | 0, _, _ => 0
  | f + 1, a, b => if a = b then 0 else if kd a = 40 then tm a * cnt f (a + 1) (pt a) + cnt f (pt a + 1) b else (if 97 ≤ kd a then tm a else 0) + cnt f (a + 1) b
def xo (a : Nat) (x : XS) : XS := if 97 ≤ kd a then (x.1, x.2.1 + tm a, fun j => if x.2.1 ≤ j ∧ j < x.2.1 + tm a then x.1 * 3 + clN (kd a) else x.2.2 j) else (kd a - 65, x.2.1, x.2.2)
def rpt (g : XS → XS) : Nat → XS → XS
  | 0, x => x
  | k + 1, x => rpt g k (g x)
def pss (c t : Nat) : Nat := if c = 0 then 1 else t
def lds : Nat → Nat → Nat → XS → XS
  | 0, _, _, x => x
  | f + 1, a, b, x => if a = b then x else if kd a = 40 then lds f (pt a + 1) b (rpt (lds f (a + 1) (pt a)) (pss (cnt kd tm pt f (a + 1) (pt a)) (tm a)) x) else lds f (a + 1) b (xo kd tm a x)
def stp : Nat → Nat → Nat → Nat
  | 0, _, _ => 0
  | f + 1, a, b => if a = b then 0 else if kd a = 40 then 1 + pss (cnt kd tm pt f (a + 1) (pt a)) (tm a) * (stp f (a + 1) (pt a) + 1) + stp f (pt a + 1) b else 1 + stp f (a + 1) b
def wOK (w : Nat → Int64) : Nat → Nat → Nat → Prop
  | 0, _, _ => True
  | f + 1, a, b => if a = b then True else if kd a = 40 then w a = lN (min 1001 (cnt kd tm pt f (a + 1) (pt a))) ∧ wOK w f (a + 1) (pt a) ∧ wOK w f (pt a + 1) b else wOK w f (a + 1) b
end SEG
section SEG2
variable {kd tm pt : Nat → Nat} {f a b : Nat} {x : XS} {w : Nat → Int64}
theorem cnt_nil : cnt kd tm pt f a a = 0 := by cases f with
  | zero => rfl
  | succ f => show (if a = a then 0 else _) = 0; rw [if_pos rfl]
theorem lds_nil : lds kd tm pt f a a x = x := by cases f with
  | zero => rfl
  | succ f => show (if a = a then x else _) = x; rw [if_pos rfl]
theorem stp_nil : stp kd tm pt f a a = 0 := by cases f with
  | zero => rfl
  | succ f => show (if a = a then 0 else _) = 0; rw [if_pos rfl]
theorem wOK_nil : wOK kd tm pt w f a a := by cases f with
  | zero => trivial
  | succ f => show (if a = a then True else _); rw [if_pos rfl]; trivial
theorem cnt_un (h : a ≠ b) (h4 : kd a ≠ 40) : cnt kd tm pt (f + 1) a b = (if 97 ≤ kd a then tm a else 0) + cnt kd tm pt f (a + 1) b := by show (if a = b then 0 else if kd a = 40 then _ else _) = _; rw [if_neg h, if_neg h4]
theorem cnt_gr (h : a ≠ b) (h4 : kd a = 40) : cnt kd tm pt (f + 1) a b = tm a * cnt kd tm pt f (a + 1) (pt a) + cnt kd tm pt f (pt a + 1) b := by show (if a = b then 0 else if kd a = 40 then _ else _) = _; rw [if_neg h, if_pos h4]
theorem lds_un (h : a ≠ b) (h4 : kd a ≠ 40) : lds kd tm pt (f + 1) a b x = lds kd tm pt f (a + 1) b (xo kd tm a x) := by show (if a = b then x else if kd a = 40 then _ else _) = _; rw [if_neg h, if_neg h4]
theorem lds_gr (h : a ≠ b) (h4 : kd a = 40) : lds kd tm pt (f + 1) a b x = lds kd tm pt f (pt a + 1) b (rpt (lds kd tm pt f (a + 1) (pt a)) (pss (cnt kd tm pt f (a + 1) (pt a)) (tm a)) x) := by show (if a = b then x else if kd a = 40 then _ else _) = _; rw [if_neg h, if_pos h4]
theorem stp_un (h : a ≠ b) (h4 : kd a ≠ 40) : stp kd tm pt (f + 1) a b = 1 + stp kd tm pt f (a + 1) b := by show (if a = b then 0 else if kd a = 40 then _ else _) = _; rw [if_neg h, if_neg h4]
theorem stp_gr (h : a ≠ b) (h4 : kd a = 40) : stp kd tm pt (f + 1) a b = 1 + pss (cnt kd tm pt f (a + 1) (pt a)) (tm a) * (stp kd tm pt f (a + 1) (pt a) + 1) + stp kd tm pt f (pt a + 1) b := by show (if a = b then 0 else if kd a = 40 then _ else _) = _; rw [if_neg h, if_pos h4]
theorem wOK_un (h : a ≠ b) (h4 : kd a ≠ 40) : wOK kd tm pt w (f + 1) a b ↔ wOK kd tm pt w f (a + 1) b := by show (if a = b then True else if kd a = 40 then _ else _) ↔ _; rw [if_neg h, if_neg h4]
theorem wOK_gr (h : a ≠ b) (h4 : kd a = 40) : wOK kd tm pt w (f + 1) a b ↔ (w a = lN (min 1001 (cnt kd tm pt f (a + 1) (pt a))) ∧ wOK kd tm pt w f (a + 1) (pt a) ∧ wOK kd tm pt w f (pt a + 1) b) := by show (if a = b then True else if kd a = 40 then _ else _) ↔ _; rw [if_neg h, if_pos h4]
end SEG2
theorem cl_n40 {c : Nat} (h : cll c ∨ ltt c) : c ≠ 40 ∧ c ≠ 41 ∧ (97 ≤ c ↔ cll c) := by
  unfold cll ltt at *
  omega
theorem rpt_sz {g : XS → XS} {c : Nat} (hg : ∀ x, (g x).2.1 = x.2.1 + c) : ∀ (k : Nat) (x : XS), (rpt g k x).2.1 = x.2.1 + k * c
  | 0, x => by show x.2.1 = _; rw [Nat.zero_mul]; rfl
  | k + 1, x => by
    show (rpt g k (g x)).2.1 = _
    rw [rpt_sz hg k (g x), hg x, Nat.succ_mul]; omega
theorem pss_mul {c t : Nat} : pss c t * c = t * c := by
  unfold pss
  split
  · rename_i h; rw [h, Nat.mul_zero, Nat.mul_zero]
  · rfl
theorem lds_sz {kd tm pt : Nat → Nat} : ∀ (f a b : Nat) (x : XS), (lds kd tm pt f a b x).2.1 = x.2.1 + cnt kd tm pt f a b
  | 0, _, _, _ => rfl
  | f + 1, a, b, x => by
    by_cases h : a = b
    · subst h; rw [lds_nil, cnt_nil]; rfl
    by_cases h4 : kd a = 40
    · rw [lds_gr h h4, cnt_gr h h4, lds_sz f, rpt_sz (fun y => lds_sz f _ _ y), pss_mul]; omega
    · rw [lds_un h h4, cnt_un h h4, lds_sz f]
      unfold xo
      by_cases h9 : 97 ≤ kd a
      · rw [if_pos h9, if_pos h9]
        show x.2.1 + tm a + _ = _
        omega
      · rw [if_neg h9, if_neg h9]
        show x.2.1 + _ = _
        omega
def mx (c : Nat) : Nat := if c = 0 then 1 else c
theorem mx_pos (c : Nat) : 1 ≤ mx c := by unfold mx; split <;> omega
theorem mx_ge (c : Nat) : c ≤ mx c := by unfold mx; split <;> omega
theorem mx_mono {a b : Nat} (h : a ≤ b) : mx a ≤ mx b := by unfold mx; split <;> split <;> omega
theorem mx_le {c r : Nat} (h1 : 1 ≤ r) (h : c ≤ r) : mx c ≤ r := by unfold mx; split <;> omega
/-- a group's steps, its first one and the ways through it -/
theorem grp_le {m c t s : Nat} (ht : 1 ≤ t) (hs : s ≤ m * mx c) : 1 + pss c t * (s + 1) ≤ (m + 2) * mx (t * c) := by
  unfold pss
  by_cases h : c = 0
  · subst h
    have e : mx (t * 0) = 1 := by rw [Nat.mul_zero]; rfl
    have e2 : mx 0 = 1 := rfl
    rw [if_pos rfl, e]
    rw [e2] at hs
    omega
  · rw [if_neg h]
    have hc : mx c = c := by unfold mx; rw [if_neg h]
    have htc : t * c ≠ 0 := Nat.mul_ne_zero (by omega) h
    have hm : mx (t * c) = t * c := by unfold mx; rw [if_neg htc]
    rw [hm]
    rw [hc] at hs
    have h1 : t * (s + 1) ≤ t * (m * c + 1) := Nat.mul_le_mul_left t (by omega)
    have h2 : t * (m * c + 1) = m * (t * c) + t := by rw [Nat.mul_add, Nat.mul_one, Nat.mul_left_comm]
    have h3 : t ≤ t * c := Nat.le_mul_of_pos_right t (by omega)
    have h4 : (m + 2) * (t * c) = m * (t * c) + 2 * (t * c) := Nat.add_mul m 2 (t * c)
    omega
theorem stp_le {kd tm pt : Nat → Nat} : ∀ {f e a b : Nat}, wb kd pt f e a b → (∀ k, k < b → 1 ≤ tm k) → stp kd tm pt f a b ≤ (b - a) * mx (cnt kd tm pt f a b)
  | 0, _, _, _, _, _ => Nat.zero_le _
  | f + 1, e, a, b, h, ht => by
    rcases h with h | ⟨h1, h2, h3⟩ | ⟨h1, h2, h3, h4, h5, h6, h7, h8⟩
    · subst h; rw [stp_nil]; exact Nat.zero_le _
    · obtain ⟨n4, -, -⟩ := cl_n40 h2
      rw [stp_un (by omega) n4, cnt_un (by omega) n4]
      have ih := stp_le h3 ht
      obtain ⟨m, hm⟩ : ∃ m, b - a = m + 1 := ⟨b - a - 1, by omega⟩
      rw [show b - (a + 1) = m by omega] at ih
      rw [hm, Nat.succ_mul]
      have q1 : m * mx (cnt kd tm pt f (a + 1) b) ≤ m * mx ((if 97 ≤ kd a then tm a else 0) + cnt kd tm pt f (a + 1) b) := Nat.mul_le_mul_left m (mx_mono (by omega))
      have q2 := mx_pos ((if 97 ≤ kd a then tm a else 0) + cnt kd tm pt f (a + 1) b)
      omega
    · rw [stp_gr (by omega) h1, cnt_gr (by omega) h1]
      have i1 := stp_le h7 (fun k hk => ht k (by omega))
      have i2 := stp_le h8 ht
      have g := grp_le (ht a (by omega)) i1
      generalize cnt kd tm pt f (a + 1) (pt a) = c at i1 g ⊢
      generalize cnt kd tm pt f (pt a + 1) b = c2 at i2 ⊢
      have q1 : (pt a - (a + 1) + 2) * mx (tm a * c) ≤ (pt a - (a + 1) + 2) * mx (tm a * c + c2) := Nat.mul_le_mul_left _ (mx_mono (by omega))
      have q2 : (b - (pt a + 1)) * mx c2 ≤ (b - (pt a + 1)) * mx (tm a * c + c2) := Nat.mul_le_mul_left _ (mx_mono (by omega))
      have q3 : (b - a) * mx (tm a * c + c2) = (pt a - (a + 1) + 2) * mx (tm a * c + c2) + (b - (pt a + 1)) * mx (tm a * c + c2) := by rw [← Nat.add_mul]; congr 1; omega
      omega
/-- the letters that leads are rung by -/
def dyn (kd Ks : Nat → Nat) (a : Nat) (x : XS) : Prop := x.1 < 6 ∧ (0 < Ks x.1 ∨ (x.1 = 0 ∧ ∀ i, i < a → ¬ ltt (kd i)))
def told_ (Ks : Nat → Nat) (x : XS) : Prop := ∀ j, j < x.2.1 → x.2.2 j / 3 < 6 ∧ x.2.2 j % 3 ≤ 2 ∧ 0 < Ks (x.2.2 j / 3)
theorem dyn.back {kd Ks : Nat → Nat} {a b : Nat} {x : XS} (h : dyn kd Ks b x) (hab : a ≤ b) : dyn kd Ks a x := ⟨h.1, h.2.imp (fun q => q) (fun q => ⟨q.1, fun i hi => q.2 i (by omega)⟩)⟩
theorem rpt_dyn {kd Ks : Nat → Nat} {g : XS → XS} {a b : Nat} (hab : a ≤ b) (hg : ∀ x, dyn kd Ks a x → told_ Ks x → dyn kd Ks b (g x) ∧ told_ Ks (g x)) : ∀ (k : Nat) (x : XS), 1 ≤ k → dyn kd Ks a x → told_ Ks x → dyn kd Ks b (rpt g k x) ∧ told_ Ks (rpt g k x)
  | 0, _, h, _, _ => absurd h (by decide)
  | k + 1, x, _, hd, ht => by
    obtain ⟨h1, h2⟩ := hg x hd ht
    show dyn kd Ks b (rpt g k (g x)) ∧ told_ Ks (rpt g k (g x))
    cases k with
    | zero => exact ⟨h1, h2⟩
    | succ k => exact rpt_dyn hab hg (k + 1) (g x) (by omega) (h1.back hab) h2
theorem pss_pos {c t : Nat} (h : 1 ≤ t) : 1 ≤ pss c t := by unfold pss; split <;> omega
theorem lds_dyn {kd tm pt Ks : Nat → Nat} {u : Nat} (hC : ∀ k, k < u → q_C Ks kd tm k) : ∀ {f e a b : Nat} {x : XS}, wb kd pt f e a b → b ≤ u → dyn kd Ks a x → told_ Ks x → dyn kd Ks b (lds kd tm pt f a b x) ∧ told_ Ks (lds kd tm pt f a b x)
  | 0, _, a, b, x, h, _, hd, ht => by
    have h' : a = b := h
    subst h'; exact ⟨hd, ht⟩
  | f + 1, e, a, b, x, h, hu, hd, ht => by
    rcases h with h | ⟨h1, h2, h3⟩ | ⟨h1, h2, h3, h4, h5, h6, h7, h8⟩
    · subst h; rw [lds_nil]; exact ⟨hd, ht⟩
    · obtain ⟨n4, -, n9⟩ := cl_n40 h2
      rw [lds_un (by omega) n4]
      obtain ⟨-, c2, c3, c4, c5⟩ := hC a (by omega)
      refine lds_dyn hC h3 hu ?_ ?_
      · unfold xo
        by_cases h9 : 97 ≤ kd a
        · rw [if_pos h9]
          refine ⟨hd.1, hd.2.imp (fun q => q) (fun q => ⟨q.1, fun i hi => ?_⟩)⟩
          by_cases y : i = a
          · subst y; intro y2; have := n9.mp h9; unfold cll at this; unfold ltt at y2; omega
          · exact q.2 i (by omega)
        · rw [if_neg h9]
          have hl : ltt (kd a) := h2.resolve_left (fun y => h9 (n9.mpr y))
          refine ⟨?_, Or.inl (c4 hl)⟩
          show kd a - 65 < 6
          unfold ltt at hl; omega
      · unfold xo
        by_cases h9 : 97 ≤ kd a
        · rw [if_pos h9]
          have hK : 0 < Ks x.1 := by
            rcases hd.2 with q | ⟨q1, q2⟩
            · exact q
            · rcases c5 (n9.mp h9) with ⟨i, i1, i2⟩ | q3
              · exact absurd i2 (q2 i i1)
              · rw [q1]; exact q3
          intro j hj
          show (if x.2.1 ≤ j ∧ j < x.2.1 + tm a then x.1 * 3 + clN (kd a) else x.2.2 j) / 3 < 6 ∧ (if x.2.1 ≤ j ∧ j < x.2.1 + tm a then x.1 * 3 + clN (kd a) else x.2.2 j) % 3 ≤ 2 ∧ 0 < Ks ((if x.2.1 ≤ j ∧ j < x.2.1 + tm a then x.1 * 3 + clN (kd a) else x.2.2 j) / 3)
          have hj' : j < x.2.1 + tm a := hj
          by_cases y : x.2.1 ≤ j
          · rw [if_pos ⟨y, hj'⟩]
            have hcl := clN_le (c := kd a)
            have e3 : (x.1 * 3 + clN (kd a)) / 3 = x.1 := by omega
            rw [e3]
            exact ⟨hd.1, by omega, hK⟩
          · rw [if_neg (by omega)]; exact ht j (by omega)
        · rw [if_neg h9]; exact ht
    · rw [lds_gr (by omega) h1]
      obtain ⟨-, c2, c3, c4, c5⟩ := hC a (by omega)
      have hd1 : dyn kd Ks (a + 1) x := ⟨hd.1, hd.2.imp (fun q => q) (fun q => ⟨q.1, fun i hi => by
        by_cases y : i = a
        · subst y; intro y2; unfold ltt at y2; omega
        · exact q.2 i (by omega)⟩)⟩
      obtain ⟨r1, r2⟩ := rpt_dyn (kd := kd) (Ks := Ks) (a := a + 1) (b := pt a) (wb_le h7) (fun y hy1 hy2 => lds_dyn hC h7 (by omega) hy1 hy2) (pss (cnt kd tm pt f (a + 1) (pt a)) (tm a)) x (pss_pos c2) hd1 ht
      refine lds_dyn hC h8 hu ⟨r1.1, r1.2.imp (fun q => q) (fun q => ⟨q.1, fun i hi => ?_⟩)⟩ r2
      by_cases y : i = pt a
      · subst y; intro y2; unfold ltt at y2; omega
      · exact q.2 i (by omega)

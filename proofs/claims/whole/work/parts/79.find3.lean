theorem s_add {σ : hSt} {n L : Nat} {Ks : Nat → Nat} {μs : Nat → Nat → Nat} {lm lc : Nat → Nat} (hn : n ≤ 8) (hM : ∀ m, m < 6 → vM n (Ks m) (μs m) ∧ cM σ (5 + 2 * m) n (Ks m) (μs m)) (hL : L < 1000) (hOK : lOK Ks lm lc (L + 1)) (hX : rLx σ n Ks μs L lm lc) {Q : hSt → Prop}
    (hQ : ∀ σ', (∀ k, (k < 31 ∨ 34 < k) → σ' k = σ k) → σ' 31 9 = σ 31 9 → rLx σ' n Ks μs (L + 1) lm lc → Q σ') : wp_X5_add (nI (lm L)) (nI (lc L)) σ Q := by
  have hV : ∀ m, m < 6 → vM n (Ks m) (μs m) := fun m hm => (hM m hm).1
  obtain ⟨l1, l2, l3⟩ := hOK L (by omega)
  have hH := HL_PR hV (L := L + 1) (k := L) hOK (by omega)
  obtain ⟨x1, x2, x3, x4, x5⟩ := hX
  unfold wp_X5_add
  rw [x2]
  refine br_t (nI_lt (b := 1000) hL (by decide)) ?_
  refine s_setCell (by decide) (show L < 1000 from hL) ?_
  rw [show (hup σ 32 L (nI (lm L) * 3 + nI (lc L))) 31 6 = nI L by rw [hup_ne _ _ (by decide)]; exact x2]
  refine s_setCell (by decide) (show L < 1000 from hL) ?_
  rw [show (hup (hup σ 32 L (nI (lm L) * 3 + nI (lc L))) 33 L ((hup σ 32 L (nI (lm L) * 3 + nI (lc L))) 31 8)) 31 6 = nI L by rw [hup_ne _ _ (by decide), hup_ne _ _ (by decide)]; exact x2]
  refine s_setCell (by decide) (show L < 1000 from hL) ?_
  have e31 : ∀ j, (hup (hup (hup σ 32 L (nI (lm L) * 3 + nI (lc L))) 33 L ((hup σ 32 L (nI (lm L) * 3 + nI (lc L))) 31 8)) 34 L ((hup (hup σ 32 L (nI (lm L) * 3 + nI (lc L))) 33 L ((hup σ 32 L (nI (lm L) * 3 + nI (lc L))) 31 8)) 31 7)) 31 j = σ 31 j := fun j => by
    rw [hup_ne _ _ (by decide), hup_ne _ _ (by decide), hup_ne _ _ (by decide)]
  have eo : ∀ k, (k < 31 ∨ 34 < k) → (hup (hup (hup σ 32 L (nI (lm L) * 3 + nI (lc L))) 33 L ((hup σ 32 L (nI (lm L) * 3 + nI (lc L))) 31 8)) 34 L ((hup (hup σ 32 L (nI (lm L) * 3 + nI (lc L))) 33 L ((hup σ 32 L (nI (lm L) * 3 + nI (lc L))) 31 8)) 31 7)) k = σ k := fun k hk => by
    rw [hup_n _ _ _ (by omega), hup_n _ _ _ (by omega), hup_n _ _ _ (by omega)]
  have f32 : ∀ k, (hup (hup (hup σ 32 L (nI (lm L) * 3 + nI (lc L))) 33 L ((hup σ 32 L (nI (lm L) * 3 + nI (lc L))) 31 8)) 34 L ((hup (hup σ 32 L (nI (lm L) * 3 + nI (lc L))) 33 L ((hup σ 32 L (nI (lm L) * 3 + nI (lc L))) 31 8)) 31 7)) 32 k = if k = L then nI (3 * lm L + lc L) else σ 32 k := fun k => by
    rw [hup_ne _ _ (by decide), hup_ne _ _ (by decide), hup_at, show (3 : Int32) = nI 3 from rfl, pk_mul, nI_add, Nat.mul_comm]
  have f33 : ∀ k, (hup (hup (hup σ 32 L (nI (lm L) * 3 + nI (lc L))) 33 L ((hup σ 32 L (nI (lm L) * 3 + nI (lc L))) 31 8)) 34 L ((hup (hup σ 32 L (nI (lm L) * 3 + nI (lc L))) 33 L ((hup σ 32 L (nI (lm L) * 3 + nI (lc L))) 31 8)) 31 7)) 33 k = if k = L then nI (encR n (HL n Ks μs lm lc L)) else σ 33 k := fun k => by
    rw [hup_ne _ _ (by decide), hup_at, hup_ne _ _ (by decide), hup_ne _ _ (by decide), x4]
  have f34 : ∀ k, (hup (hup (hup σ 32 L (nI (lm L) * 3 + nI (lc L))) 33 L ((hup σ 32 L (nI (lm L) * 3 + nI (lc L))) 31 8)) 34 L ((hup (hup σ 32 L (nI (lm L) * 3 + nI (lc L))) 33 L ((hup σ 32 L (nI (lm L) * 3 + nI (lc L))) 31 8)) 31 7)) 34 k = if k = L then nI (FR Ks lm L) else σ 34 k := fun k => by
    rw [hup_at, hup_ne _ _ (by decide), hup_ne _ _ (by decide), hup_ne _ _ (by decide), x3, hup_ne _ _ (by decide)]
  generalize hup (hup (hup σ 32 L (nI (lm L) * 3 + nI (lc L))) 33 L ((hup σ 32 L (nI (lm L) * 3 + nI (lc L))) 31 8)) 34 L ((hup (hup σ 32 L (nI (lm L) * 3 + nI (lc L))) 33 L ((hup σ 32 L (nI (lm L) * 3 + nI (lc L))) 31 8)) 31 7) = σ4 at e31 eo f32 f33 f34
  rw [e31 6, x2, nI_suc]
  have hcM : ∀ σ5, (∀ k, (k < 31 ∨ 34 < k) → σ5 k = σ k) → cM σ5 (5 + 2 * lm L) n (Ks (lm L)) (μs (lm L)) := fun σ5 h => (hM _ l1).2.mv (h _ (by omega)) (h _ (by omega))
  refine s_at l1 ?_
  unfold wp_X2_size
  have o5 : ∀ k, (k < 31 ∨ 34 < k) → (hup σ4 31 6 (nI (L + 1))) k = σ k := fun k hk => by rw [hup_n _ _ _ (by omega)]; exact eo k hk
  rw [(hcM _ o5).1]
  refine s_at l1 ?_
  have e7 : (hup σ4 31 6 (nI (L + 1))) 31 7 + nI (Ks (lm L)) = nI (FR Ks lm (L + 1)) := by
    rw [hup_at, if_neg (by decide), e31 7, x3, nI_add]; rfl
  rw [e7]
  have o6 : ∀ k, (k < 31 ∨ 34 < k) → (hup (hup σ4 31 6 (nI (L + 1))) 31 7 (nI (FR Ks lm (L + 1)))) k = σ k := fun k hk => by rw [hup_n _ _ _ (by omega)]; exact o5 k hk
  have e8 : (hup (hup σ4 31 6 (nI (L + 1))) 31 7 (nI (FR Ks lm (L + 1)))) 31 8 = nI (encR n (HL n Ks μs lm lc L)) := by
    rw [hup_at, if_neg (by decide), hup_at, if_neg (by decide), e31 8]; exact x4
  rw [e8]
  refine s_following hn (hV _ l1) (hcM _ o6) l3 l2 (hH.lt8 hn) ?_
  refine hQ _ (fun k hk => by rw [hup_n _ _ _ (by omega)]; exact o6 k hk) ?_ ⟨?_, ?_, ?_, ?_, fun k hk => ⟨?_, ?_, ?_⟩⟩
  · rw [hup_at, if_neg (by decide), hup_at, if_neg (by decide), hup_at, if_neg (by decide)]; exact e31 9
  · rw [hup_at, if_neg (by decide), hup_at, if_neg (by decide), hup_at, if_neg (by decide), e31 5]; exact x1
  · rw [hup_at, if_neg (by decide), hup_at, if_neg (by decide), hup_at, if_pos rfl]
  · rw [hup_at, if_neg (by decide), hup_at, if_pos rfl]
  · rw [hup_at, if_pos rfl]; rfl
  · rw [hup_ne _ _ (by decide), hup_ne _ _ (by decide), hup_ne _ _ (by decide), f32 k]
    by_cases e : k = L
    · subst e; rw [if_pos rfl]
    · rw [if_neg e]; exact (x5 k (by omega)).1
  · rw [hup_ne _ _ (by decide), hup_ne _ _ (by decide), hup_ne _ _ (by decide), f33 k]
    by_cases e : k = L
    · subst e; rw [if_pos rfl]
    · rw [if_neg e]; exact (x5 k (by omega)).2.1
  · rw [hup_ne _ _ (by decide), hup_ne _ _ (by decide), hup_ne _ _ (by decide), f34 k]
    by_cases e : k = L
    · subst e; rw [if_pos rfl]
    · rw [if_neg e]; exact (x5 k (by omega)).2.2
theorem srch_cOK {n K N : Nat} {μ : Nat → Nat} : ∀ (m d : Nat) (c : Nat → Nat), d < N → cOK c d → (srch n K μ N m d c).1 = 0 → cOK (srch n K μ N m d c).2.2 N
  | 0, _, _, _, _, h => absurd h (by show ¬ (2 : Nat) = 0; decide)
  | m + 1, d, c, hd, hc, h => by
    have aft_ok : ∀ o : Option (Nat × (Nat → Nat)), (∀ q, o = some q → q.1 < N ∧ cOK q.2 q.1) → (aft (srch n K μ N m) m c o).1 = 0 → cOK (aft (srch n K μ N m) m c o).2.2 N := fun o ho h => by
      cases o with
      | none => exact absurd h (by show ¬ (1 : Nat) = 0; decide)
      | some q => exact srch_cOK m q.1 q.2 (ho q rfl).1 (ho q rfl).2 h
    cases hg : goodB n K μ c d with
    | false =>
      rw [srch_bad hg] at h ⊢
      exact aft_ok _ (fun q hq => ⟨by have := (tb_le hq).2.1; omega, tb_cOK hq hc⟩) h
    | true =>
      by_cases hd2 : d + 1 < N
      · rw [srch_on hg hd2] at h ⊢
        exact srch_cOK m (d + 1) _ hd2 (cOK_up hc (by decide)) h
      · have fin : ∀ a, a ≤ 2 → homeB n K μ c d a = true → (∀ b, b < a → homeB n K μ c d b = false) → cOK (srch n K μ N (m + 1) d c).2.2 N := fun a ha h1 hb => by
          rw [srch_home hg hd2 ha h1 hb]
          exact fun k hk => cOK_up hc ha k (by omega)
        cases h0 : homeB n K μ c d 0 with
        | true => exact fin 0 (by decide) h0 (fun b hb => absurd hb (Nat.not_lt_zero b))
        | false =>
          cases h1 : homeB n K μ c d 1 with
          | true => exact fin 1 (by decide) h1 (fun b hb => by rw [show b = 0 by omega]; exact h0)
          | false =>
            cases h2 : homeB n K μ c d 2 with
            | true => exact fin 2 (by decide) h2 (fun b hb => by rcases (by omega : b = 0 ∨ b = 1) with rfl | rfl; exact h0; exact h1)
            | false =>
              have hno : ∀ a, a ≤ 2 → homeB n K μ c d a = false := fun a ha => by
                rcases (by omega : a = 0 ∨ a = 1 ∨ a = 2) with rfl | rfl | rfl
                · exact h0
                · exact h1
                · exact h2
              rw [srch_away hg hd2 hno] at h ⊢
              rw [tb_two'] at h ⊢
              exact aft_ok _ (fun q hq => ⟨by have := (tb_le hq).2.1; omega, tb_cOK hq (fun k hk => by rw [upN_lt hk]; exact hc k hk)⟩) h
theorem srch_le {n K N : Nat} {μ : Nat → Nat} : ∀ (m d : Nat) (c : Nat → Nat), (srch n K μ N m d c).1 ≤ 2
  | 0, _, _ => Nat.le_refl 2
  | m + 1, d, c => by
    have aft_ok : ∀ o : Option (Nat × (Nat → Nat)), (aft (srch n K μ N m) m c o).1 ≤ 2 := fun o => by
      cases o with
      | none => show (1 : Nat) ≤ 2; decide
      | some q => exact srch_le m q.1 q.2
    show (if goodB n K μ c d = true then _ else _ : Nat × Nat × (Nat → Nat)).1 ≤ 2
    split
    · split
      · exact srch_le m _ _
      · split
        · exact Nat.zero_le _
        · split
          · exact Nat.zero_le _
          · split
            · exact Nat.zero_le _
            · exact aft_ok _
    · exact aft_ok _
theorem c_find {B : Nat} {σ τ : hSt} {w f : Nat → Int64} {a1 a2 a3 : Int32} (hB : B ≤ 40000000) (h : RI B σ τ) : wp_L_find a1 a2 a3 σ f (fun k σ1 f1 => wp_X12_find a1 a2 a3 τ w (fun b τ1 => wp_X12_thrown τ1 w (fun t => lawT k b t (f1 0) (RI (B + 64001) σ1 τ1)))) := by
  have h0 := h
  obtain ⟨n, Ks, μs, L, lm, lc, tz, hn4, hn, ⟨z1, z2, z3, z4, z5⟩, ⟨t1, t2, t3, t4⟩, hM, hL, hOK, hX, hY, hP, hS⟩ := h0
  have hmon : RI (B + 64001) σ τ := h.mono (by omega)
  -- numbers that are not allowed
  have thr1 : ∀ (f1 : Nat → Int64), (a2 < 1 ∨ (200 : Int32) < a2 ∨ a3 < 1 ∨ ¬ a3 ≤ 3000) → wp_X12_find a1 a2 a3 τ w (fun b τ1 => wp_X12_thrown τ1 w (fun t => lawT 1 b t (f1 0) (RI (B + 64001) σ τ1))) := fun f1 hc => by
    unfold wp_X12_find
    dsimp only [hM_]
    generalize hZ : (fun (r3 : Int32) (σ2 : hSt) => _ ∧ _) = Z
    have go : wp_X12_throwsIf 1 1 τ w Z := by
      rw [← hZ]
      exact t_tI1 (br_y (by decide) (lawT_thr (by decide) (by rw [hup_at, if_pos rfl]) hmon.th))
    refine ⟨fun _ => go, fun q1 => ⟨fun _ => go, fun q2 => ⟨fun _ => go, fun q3 => ⟨fun q4 => ?_, fun _ => go⟩⟩⟩⟩
    rcases hc with hc | hc | hc | hc
    · exact absurd hc q1
    · exact absurd hc q2
    · exact absurd hc q3
    · exact absurd q4 hc
  unfold wp_L_find wp_X11_find
  refine ⟨fun q => Or.inl ⟨rfl, thr1 f (Or.inl q)⟩, fun q1 => ⟨fun q => Or.inl ⟨rfl, thr1 f (Or.inr (Or.inl q))⟩, fun q2 => ⟨fun q => Or.inl ⟨rfl, thr1 f (Or.inr (Or.inr (Or.inl q)))⟩, fun q3 => ⟨fun q4 => ?_, fun q => Or.inl ⟨rfl, thr1 f (Or.inr (Or.inr (Or.inr q)))⟩⟩⟩⟩⟩
  have neg : ∀ x : Int32, ¬ x < 1 → ¬ x < 0 := fun x hx => by
    rw [Int32.lt_iff_toInt_lt] at hx ⊢
    rw [show (1 : Int32).toInt = 1 by decide] at hx
    rw [show (0 : Int32).toInt = 0 by decide]
    omega
  have pos : ∀ k : Nat, k < 2 ^ 31 → ¬ nI k < 1 → 1 ≤ k := fun k hk hx => by
    rcases Nat.lt_or_ge k 1 with z | z
    · exact absurd (nI_lt (a := k) (b := 1) z (by decide)) hx
    · exact z
  obtain ⟨N, hN31, rfl⟩ := nI_of (neg _ q1)
  obtain ⟨looks, hl, rfl⟩ := nI_of2 (M := 3000) (n := 3000) (by decide) (neg _ q3) q4
  have hN1 := pos N hN31 q1
  have hl1 := pos looks (by omega) q3
  have hN : N ≤ 200 := by
    rcases Nat.lt_or_ge 200 N with z | z
    · exact absurd (nI_lt (a := 200) (b := N) z hN31) q2
    · exact z
  refine s_toldM z5 hM (fun m hm e hK => ?_) (fun hno => Or.inr ⟨rfl, ?_⟩)
  rotate_left
  · unfold wp_X12_find
    dsimp only [hM_]
    refine br_f q1 (br_f q2 (br_f q3 (br_t q4 (t_tI0 (br_x rfl ?_)))))
    refine t_isTold (σ := σ) (fun m' hm' => ⟨(hM m' hm').1, (hM m' hm').2.1, (hM m' hm').2.2.mv (hup_n _ _ _ (by decide)) (hup_n _ _ _ (by decide))⟩) (fun m' hm' e' hK' => absurd ⟨m', hm', e', hK'⟩ hno) (fun _ => ?_)
    refine br_x rfl (t_tI1 (br_f (by decide) ?_))
    unfold wp_X12_thrown
    exact lawT_thr (by decide) (by rw [hup_at, if_pos rfl]) (hmon.th.th)
  subst e
  obtain ⟨hv, hcM, hrM⟩ := hM m hm
  have hLm : hLn (5 + 2 * m + 1) = 64 := by rcases i6l hm with e | e | e | e | e | e <;> rw [e] <;> rfl
  refine s_seek hn hB hLm hv hK (by omega) hcM hS hN1 hN hl1 hl (fun σ1 k1 e4 hf hc37 => ?_)
  have hle := srch_le (n := n) (K := Ks m) (μ := μs m) (N := N) looks 0 (fun _ => 0)
  have hcok := srch_cOK (n := n) (K := Ks m) (μ := μs m) (N := N) looks 0 (fun _ => 0) (by omega) (fun k hk => absurd hk (Nat.not_lt_zero k))
  have hfnd := fun (Q : Int32 → hSt → Prop) hp => t_find (w := w) (Q := Q) hn z2 hM hm hK hN1 hN hl1 hl hp
  generalize hR : srch n (Ks m) (μs m) N looks 0 (fun _ => 0) = R at e4 hc37 hle hcok hfnd
  obtain ⟨fs, hfs⟩ := hf
  have hrS := hfs.rS
  have ks : ∀ k, k ≠ 17 → k ≠ 18 → k ≠ 35 → k ≠ 36 → k ≠ 37 → σ1 k = σ k := k1
  have hb0 : ∀ j, j ≠ 0 → (hup (hup τ 0 0 0) 0 0 0) 0 j = τ 0 j := fun j hj => by rw [hup_at, if_neg hj, hup_at, if_neg hj]
  have hbk : ∀ k, k ≠ 0 → (hup (hup τ 0 0 0) 0 0 0) k = τ k := fun k hk => by rw [hup_n _ _ _ hk, hup_n _ _ _ hk]
  refine ⟨fun hne => ?_, fun heq => ?_⟩
  · have hne' : R.1 ≠ 0 := fun e => hne (by rw [e]; rfl)
    refine hfnd _ ⟨fun _ τ' kz e37 => ?_, fun e => absurd e hne'⟩
    unfold wp_X12_thrown
    refine lawT_ret (by rw [kz.2 0 (by decide), hup_at, if_pos rfl]) updL0 ?_
    refine ⟨n, Ks, μs, L, lm, lc, tz, hn4, hn, ⟨?_, ?_, ?_, ?_, ?_⟩, ⟨t1, ?_, ?_, fun i hi => ?_⟩, fun m' hm' => ?_, hL, hOK, hX.mv4 (fun k p q => ks k (by omega) (by omega) (by omega) (by omega) (by omega)), ⟨?_, fun k hk => ?_⟩, ?_, hrS⟩
    · rw [ks 0 (by decide) (by decide) (by decide) (by decide) (by decide)]; exact z1
    · rw [kz.2 1 (by decide), hb0 1 (by decide)]; exact z2
    · rw [ks 0 (by decide) (by decide) (by decide) (by decide) (by decide), kz.2 11 (by decide), hb0 11 (by decide)]; exact z3
    · rw [e4, e37]
    · rw [ks 3 (by decide) (by decide) (by decide) (by decide) (by decide)]; exact z5
    · rw [ks 19 (by decide) (by decide) (by decide) (by decide) (by decide)]; exact t2
    · rw [kz.2 8 (by decide), hb0 8 (by decide)]; exact t3
    · rw [ks 20 (by decide) (by decide) (by decide) (by decide) (by decide), kz.1 5 (by decide) (by decide) (by decide) (by decide) (by decide), hbk 5 (by decide)]; exact t4 i hi
    · obtain ⟨m1, m2, m3⟩ := hM m' hm'
      exact ⟨m1, m2.mv (ks _ (by omega) (by omega) (by omega) (by omega) (by omega)) (ks _ (by omega) (by omega) (by omega) (by omega) (by omega)), m3.mv (by rw [kz.1 1 (by decide) (by decide) (by decide) (by decide) (by decide), hbk 1 (by decide)]) (by rw [kz.1 2 (by decide) (by decide) (by decide) (by decide) (by decide), hbk 2 (by decide)])⟩
    · rw [kz.2 6 (by decide), hb0 6 (by decide)]; exact hY.1
    · rw [kz.1 3 (by decide) (by decide) (by decide) (by decide) (by decide), hbk 3 (by decide), kz.1 4 (by decide) (by decide) (by decide) (by decide) (by decide), hbk 4 (by decide)]; exact hY.2 k hk
    · unfold rP; rw [ks 31 (by decide) (by decide) (by decide) (by decide) (by decide)]; exact hP
  · have heq' : R.1 = 0 := (nI_eq (by omega) (by decide)).mp heq
    have hc37' := hc37 heq'
    have hcok' := hcok heq'
    rw [show σ1 0 0 = nI n by rw [ks 0 (by decide) (by decide) (by decide) (by decide) (by decide)]; exact z1]
    refine s_clearP hn (fun σ2 o2 p5 p6 p7 p8 p9 => ?_)
    have hOK' : lOK Ks (fun _ => m) R.2.2 N := fun k hk => ⟨hm, hcok' k hk, hK⟩
    have kk : ∀ k, k ≠ 17 → k ≠ 18 → k ≠ 35 → k ≠ 36 → k ≠ 37 → k ≠ 31 → σ2 k = σ k := fun k a b c d e f => by rw [o2 k f, ks k a b c d e]
    refine hL2_in (fun v5 σ3 => ∃ i, i ≤ N ∧ v5 = nI i ∧ (∀ k, (k < 31 ∨ 34 < k) → σ3 k = σ2 k) ∧ σ3 31 9 = 0 ∧ rLx σ3 n Ks μs i (fun _ => m) R.2.2) (fun v5 _ => N - v5.toNatClampNeg) ?_ ⟨0, Nat.zero_le _, rfl, fun _ _ => rfl, p9, ⟨p5, p6, p7, p8, fun k hk => absurd hk (Nat.not_lt_zero k)⟩⟩
    rintro P _ σ3 ⟨i, hi, rfl, o3, e9, x3⟩ ih
    refine pk_le N i (fun z => ?_) (fun z => ?_) rfl rfl
    · have e : i = N := by omega
      subst e
      refine hfnd _ ⟨fun hne => absurd heq' hne, fun _ τ' ke e37 e6 g => ?_⟩
      have k3 : ∀ k, k ≠ 17 → k ≠ 18 → k ≠ 35 → k ≠ 36 → k ≠ 37 → (k < 31 ∨ 34 < k) → σ3 k = σ k := fun k a b c d e f => by rw [o3 k f, kk k a b c d e (by omega)]
      unfold wp_X12_thrown
      refine lawT_ret (by rw [ke.2 0 (by decide) (by decide), hup_at, if_pos rfl]) (by rw [updL0, heq]) ?_
      refine ⟨n, Ks, μs, i, fun _ => m, R.2.2, tz, hn4, hn, ⟨?_, ?_, ?_, ?_, ?_⟩, ⟨t1, ?_, ?_, fun j hj => ?_⟩, fun m' hm' => ?_, by omega, hOK', x3, ⟨e6, g⟩, Or.inl e9, ?_⟩
      · rw [k3 0 (by decide) (by decide) (by decide) (by decide) (by decide) (by decide)]; exact z1
      · rw [ke.2 1 (by decide) (by decide), hb0 1 (by decide)]; exact z2
      · rw [k3 0 (by decide) (by decide) (by decide) (by decide) (by decide) (by decide), ke.2 11 (by decide) (by decide), hb0 11 (by decide)]; exact z3
      · rw [o3 35 (by decide), o2 35 (by decide), e4, e37]
      · rw [k3 3 (by decide) (by decide) (by decide) (by decide) (by decide) (by decide)]; exact z5
      · rw [k3 19 (by decide) (by decide) (by decide) (by decide) (by decide) (by decide)]; exact t2
      · rw [ke.2 8 (by decide) (by decide), hb0 8 (by decide)]; exact t3
      · rw [k3 20 (by decide) (by decide) (by decide) (by decide) (by decide) (by decide), ke.1 5 (by decide) (by decide) (by decide) (by decide) (by decide) (by decide) (by decide), hbk 5 (by decide)]; exact t4 j hj
      · obtain ⟨m1, m2, m3⟩ := hM m' hm'
        exact ⟨m1, m2.mv (k3 _ (by omega) (by omega) (by omega) (by omega) (by omega) (by omega)) (k3 _ (by omega) (by omega) (by omega) (by omega) (by omega) (by omega)), m3.mv (by rw [ke.1 1 (by decide) (by decide) (by decide) (by decide) (by decide) (by decide) (by decide), hbk 1 (by decide)]) (by rw [ke.1 2 (by decide) (by decide) (by decide) (by decide) (by decide) (by decide) (by decide), hbk 2 (by decide)])⟩
      · obtain ⟨tp, u1, u2, u3⟩ := hrS
        exact ⟨tp, u1, by rw [o3 17 (by decide), o2 17 (by decide)]; exact u2, fun r hr => by rw [o3 18 (by decide), o2 18 (by decide)]; exact u3 r hr⟩
    · unfold wp_X7_callOf
      refine s_cell (by decide) (show i < 200 by omega) ?_
      rw [show σ3 37 i = nI (R.2.2 i) by rw [o3 37 (by decide), o2 37 (by decide)]; exact hc37' i z]
      refine s_add (lm := fun _ => m) (lc := R.2.2) hn (cMs.mv hM.c (fun k p q => by rw [o3 k (by omega)]; exact kk k (by omega) (by omega) (by omega) (by omega) (by omega) (by omega))) (by omega) (fun k hk => hOK' k (by omega)) x3 (fun σ4 o4 e94 x4 => ?_)
      intro x hx
      rw [nI_suc] at hx
      subst hx
      exact ih _ _ ⟨i + 1, by omega, rfl, fun k hk => by rw [o4 k hk]; exact o3 k hk, by rw [e94]; exact e9, x4⟩ (by rw [nI_clamp (by omega), nI_clamp (by omega)]; omega)

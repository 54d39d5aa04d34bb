theorem dst_suc {n K d v : Nat} {μ c : Nat → Nat} (hK : 0 < K) (h : dst n K μ c d) (hg : goodB n K μ c d = true) : dst n K μ (upN c d v) (d + 1) := fun t ht => by
  have g : ∀ u, u ≤ t → Gk n K μ (upN c d v) u = Gk n K μ c u := fun u hu => Gk_congr (d := d) hK (fun k hk => upN_lt hk) (by omega)
  rw [g t (Nat.le_refl t), inR_congr (q := Gk n K μ c) (fun j hj => g j (by omega))]
  rcases Nat.lt_or_ge t (d * K) with q | q
  · exact h t q
  · have := goodB_iff.mp hg (t - d * K) (by rw [Nat.add_mul, Nat.one_mul] at ht; omega)
    rw [show d * K + (t - d * K) = t by omega] at this
    exact this
theorem cOK_up {c : Nat → Nat} {d v : Nat} (h : cOK c d) (hv : v ≤ 2) : cOK (upN c d v) (d + 1) := fun k hk => by
  by_cases e : k = d
  · subst e; rw [upN_same]; exact hv
  · rw [upN_lt (by omega)]; exact h k (by omega)
theorem srch_bad {n K N m d : Nat} {μ c : Nat → Nat} (h : goodB n K μ c d = false) : srch n K μ N (m + 1) d c = aft (srch n K μ N m) m c (tb d c) := by
  have h' : ¬ goodB n K μ c d = true := by rw [h]; decide
  show (if goodB n K μ c d = true then _ else _) = _
  rw [if_neg h']
theorem srch_on {n K N m d : Nat} {μ c : Nat → Nat} (h : goodB n K μ c d = true) (hd : d + 1 < N) : srch n K μ N (m + 1) d c = srch n K μ N m (d + 1) (upN c d 0) := by
  show (if goodB n K μ c d = true then _ else _) = _
  rw [if_pos h, if_pos hd]
theorem srch_away {n K N m d : Nat} {μ c : Nat → Nat} (hg : goodB n K μ c d = true) (hd : ¬ d + 1 < N) (h : ∀ a, a ≤ 2 → homeB n K μ c d a = false) : srch n K μ N (m + 1) d c = aft (srch n K μ N m) m c (tb (d + 1) (upN c d 2)) := by
  have no : ∀ b, b ≤ 2 → ¬ homeB n K μ c d b = true := fun b hb q => by rw [h b hb] at q; cases q
  show (if goodB n K μ c d = true then _ else _) = _
  rw [if_pos hg, if_neg hd, if_neg (no 0 (by decide)), if_neg (no 1 (by decide)), if_neg (no 2 (by decide))]
theorem srch_home {n K N m d a : Nat} {μ c : Nat → Nat} (hg : goodB n K μ c d = true) (hd : ¬ d + 1 < N) (ha : a ≤ 2) (h : homeB n K μ c d a = true) (hb : ∀ b, b < a → homeB n K μ c d b = false) : srch n K μ N (m + 1) d c = (0, m, upN c d a) := by
  have no : ∀ b, b < a → ¬ homeB n K μ c d b = true := fun b hba q => by rw [hb b hba] at q; cases q
  show (if goodB n K μ c d = true then _ else _) = _
  rw [if_pos hg, if_neg hd]
  rcases (by omega : a = 0 ∨ a = 1 ∨ a = 2) with rfl | rfl | rfl
  · rw [if_pos h]
  · rw [if_neg (no 0 (by decide)), if_pos h]
  · rw [if_neg (no 0 (by decide)), if_neg (no 1 (by decide)), if_pos h]
theorem tb_two' {c : Nat → Nat} {d : Nat} : tb (d + 1) (upN c d 2) = tb d (upN c d 2) := by
  show (if upN c d 2 d < 2 then some (d + 1, upN (upN c d 2) d (upN c d 2 d + 1)) else tb d (upN c d 2)) = _
  rw [upN_same, if_neg (by decide)]
theorem s_seek {σ : hSt} {k1 n B K N looks : Nat} {μ : Nat → Nat} (hn : n ≤ 8) (hB : B ≤ 40000000) (hL : hLn (k1 + 1) = 64) (hv : vM n K μ) (hK : 0 < K) (hk : k1 < 17 ∧ k1 + 1 < 17) (hM : cM σ k1 n K μ) (hS : rS σ B) (hN1 : 1 ≤ N) (hN : N ≤ 200) (hl1 : 1 ≤ looks) (hl : looks ≤ 3000) {Q : Int32 → hSt → Prop}
    (hQ : ∀ σ', kpS σ σ' → σ' 35 4 = nI (looks - (srch n K μ N looks 0 (fun _ => 0)).2.1) → (∃ f, sn σ' n B f) → ((srch n K μ N looks 0 (fun _ => 0)).1 = 0 → ∀ k, k < N → σ' 37 k = nI ((srch n K μ N looks 0 (fun _ => 0)).2.2 k)) → Q (nI (srch n K μ N looks 0 (fun _ => 0)).1) σ') : wp_X7_seek k1 (nI N) (nI looks) σ Q := by
  unfold wp_X7_seek wp_X2_bells
  rw [(hM.2 hK).1]
  refine s_begin hS (fun σ1 o1 hs1 => ?_)
  have b1 : (hup σ1 35 3 0) k1 2 = nI n := by rw [hup_ne _ _ (by omega), o1 k1 (by omega)]; exact (hM.2 hK).1
  rw [b1]
  refine s_rounds hn ?_
  intro P hP
  have main : ∀ (m d : Nat) (c : Nat → Nat) (σ2 : hSt), m ≤ looks → d < N → cOK c d → dst n K μ c d → kpS σ σ2 → SX σ2 n B K μ c d → σ2 35 4 = nI (looks + 1 - m) → (∀ σ', kpS σ σ' → σ' 35 4 = nI (looks - (srch n K μ N m d c).2.1) → (∃ f, sn σ' n B f) → ((srch n K μ N m d c).1 = 0 → ∀ k, k < N → σ' 37 k = nI ((srch n K μ N m d c).2.2 k)) → Q (nI (srch n K μ N m d c).1) σ') → P (nI (encR n (hh n K μ c d))) σ2 := fun m => by
    induction m with
    | zero =>
      intro d c σ2 hm hd hc hdst k2 hS2 e4 hq
      obtain ⟨-, -, f, hf, -⟩ := hS2
      refine hP _ _ (br_t (by rw [e4]; exact nI_lt (by omega) (by omega)) ?_)
      exact hq _ (k2.tr (kpS.h (Or.inl rfl))) (by rw [hup_at, if_pos rfl]; rfl) ⟨f, hf.mv (hup_n _ _ _ (by decide)) (hup_n _ _ _ (by decide))⟩ (fun h => absurd h (by show ¬ (2 : Nat) = 0; decide))
    | succ m ih =>
      intro d c σ2 hm hd hc hdst k2 hS2 e4 hq
      have hlk : looks + 1 - (m + 1) = looks - m := by omega
      rw [hlk] at e4
      refine hP _ _ (br_f (by rw [e4]; exact nI_nlt (by omega) (by omega)) ?_)
      obtain ⟨s1, s2, s3⟩ := hS2
      have cmv : ∀ σ3, kpS σ σ3 → cM σ3 k1 n K μ := fun σ3 h => hM.mv (h _ (by omega) (by omega) (by omega) (by omega) (by omega)) (h _ (by omega) (by omega) (by omega) (by omega) (by omega))
      have hM2 := cmv σ2 k2
      -- the next look
      have next : ∀ (d' : Nat) (c' : Nat → Nat) (σ3 : hSt), 0 < d' → d' < N → cOK c' d' → dst n K μ c' d' → kpS σ σ3 → SX σ3 n B K μ c' d' → σ3 35 4 = nI (looks - m) → srch n K μ N (m + 1) d c = srch n K μ N m d' c' → wp_X11_cell 36 ((σ3 35 3) - (1 : Int32)) σ3 (fun r17 => (wp_X7_callOf ((σ3 35 3) - (1 : Int32)) σ3 (fun r19 => (wp_X2_following k1 r17 r19 σ3 (fun r21 => (P r21 (hup σ3 35 4 ((σ3 35 4) + (1 : Int32))))))))) := fun d' c' σ3 h0 h1 hc' hdst' k3 hS3 e43 hsr => by
        obtain ⟨t1, t2, t3⟩ := hS3
        rw [t1, show (1 : Int32) = nI 1 from rfl, pk_sub (by omega)]
        obtain ⟨u1, u2⟩ := t2 (d' - 1) (by omega)
        refine s_cell (by decide) (show d' - 1 < 200 by omega) ?_
        unfold wp_X7_callOf
        refine s_cell (by decide) (show d' - 1 < 200 by omega) ?_
        rw [u1, u2]
        have hc'' : cOK c' (d' - 1) := fun k hk => hc' k (by omega)
        refine s_following hn hv (cmv σ3 k3) hK (hc' (d' - 1) (by omega)) ((hh_PR hv hK hc'').lt8 hn) ?_
        have eh : (fun i => hh n K μ c' (d' - 1) (hdn n K μ (c' (d' - 1)) i)) = hh n K μ c' d' := by
          obtain ⟨e, rfl⟩ : ∃ e, d' = e + 1 := ⟨d' - 1, by omega⟩
          rfl
        rw [eh, e43, nI_add]
        refine ih d' c' _ (by omega) h1 hc' hdst' (k3.tr (kpS.h (Or.inl rfl))) ⟨by rw [hup_at, if_neg (by decide)]; exact t1, fun k hk => by rw [hup_ne _ _ (by decide), hup_ne _ _ (by decide)]; exact t2 k hk, t3.mv (hup_n _ _ _ (by decide)) (hup_n _ _ _ (by decide))⟩ (by rw [hup_at, if_pos rfl]; congr 1; omega) ?_
        rw [← hsr]; exact hq
      -- turning back
      have back : ∀ (d' : Nat) (c' : Nat → Nat) (σ3 : hSt), d' ≤ N → (∀ q, tb d' c' = some q → q.1 < N) → cOK c' d' → dst n K μ c' d' → kpS σ σ3 → SX σ3 n B K μ c' d' → σ3 35 4 = nI (looks - m) → srch n K μ N (m + 1) d c = aft (srch n K μ N m) m c (tb d' c') → wp_X7_turnBack k1 σ3 (fun r24 σ23 => ((¬ r24 = 0 → (wp_X11_cell 36 ((σ23 35 3) - (1 : Int32)) σ23 (fun r17 => (wp_X7_callOf ((σ23 35 3) - (1 : Int32)) σ23 (fun r19 => (wp_X2_following k1 r17 r19 σ23 (fun r21 => (P r21 (hup σ23 35 4 ((σ23 35 4) + (1 : Int32))))))))))) ∧ (r24 = 0 → (Q (1 : Int32) σ23)))) := fun d' c' σ3 h1N hqN hc' hdst' k3 hS3 e43 hsr => by
        refine s_turnBack hn hL hv hK hk d' c' σ3 (by omega) (cmv σ3 k3) hc' hdst' hS3 (fun q σ4 ht k4 e44 hS4 => ⟨fun _ => ?_, fun q => absurd q (by decide)⟩) (fun σ4 ht k4 e44 hf4 => ⟨fun q => absurd rfl q, fun _ => ?_⟩)
        · have hq1 := tb_le ht
          refine next q.1 q.2 σ4 hq1.1 (hqN q ht) (tb_cOK ht hc') (dst_sub hK hdst' hq1.2.1 hq1.2.2.1) (k3.tr k4) hS4 (by rw [e44]; exact e43) ?_
          rw [hsr, ht]; rfl
        · rw [ht] at hsr
          have hsr' : srch n K μ N (m + 1) d c = (1, m, c) := hsr
          have hq' := hq
          rw [hsr'] at hq'
          exact hq' σ4 (k3.tr k4) (by rw [e44]; exact e43) hf4 (fun h => absurd h (by show ¬ (1 : Nat) = 0; decide))
      refine s_ring hn hB hL hv hK (by omega) hM2 hc s3 (fun hg σ3 o3 hs3 => ?_) (fun hg σ3 o3 hs3 => ?_)
      · have k3 : kpS σ σ3 := k2.tr (kpS.o o3)
        have e35 : σ3 35 = σ2 35 := o3 35 (by decide) (by decide)
        dsimp only [hM_]
        refine br_f (by decide) ?_
        have push : ∀ v, v ≤ 2 → ∀ (v9 : Int32), v9 = nI v → ∀ σ4, σ4 = hup (hup (hup σ3 36 d (nI (encR n (hh n K μ c d)))) 37 d v9) 35 3 (nI (d + 1)) → kpS σ σ4 ∧ SX σ4 n B K μ (upN c d v) (d + 1) ∧ σ4 35 4 = nI (looks - m) := fun v hv2 v9 e9 σ4 e => by
          subst e e9
          refine ⟨((k3.tr (kpS.h (Or.inr (Or.inl rfl)))).tr (kpS.h (Or.inr (Or.inr rfl)))).tr (kpS.h (Or.inl rfl)), ⟨by rw [hup_at, if_pos rfl], fun k hk => ⟨?_, ?_⟩, ?_⟩, ?_⟩
          · rw [hup_ne _ _ (by decide), hup_ne _ _ (by decide), hup_at]
            by_cases e : k = d
            · subst e; rw [if_pos rfl, hh_congr (e := upN c k v) (fun j hj => (upN_lt hj).symm)]
            · rw [if_neg e, o3 36 (by decide) (by decide), (s2 k (by omega)).1, hh_congr (e := upN c d v) (fun j hj => (upN_lt (by omega)).symm)]
          · rw [hup_ne _ _ (by decide), hup_at]
            by_cases e : k = d
            · subst e; rw [if_pos rfl, upN_same]
            · rw [if_neg e, hup_ne _ _ (by decide), o3 37 (by decide) (by decide), (s2 k (by omega)).2, upN_lt (by omega)]
          · obtain ⟨f, hf, hf2⟩ := hs3
            refine ⟨f, hf.mv (by rw [hup_n _ _ _ (by decide), hup_n _ _ _ (by decide), hup_n _ _ _ (by decide)]) (by rw [hup_n _ _ _ (by decide), hup_n _ _ _ (by decide), hup_n _ _ _ (by decide)]), fun ρ => ?_⟩
            rw [hf2 ρ, inR_congr (q := Gk n K μ (upN c d v)) (fun j hj => Gk_congr (d := d) hK (fun k hk => (upN_lt hk).symm) hj)]
          · rw [hup_at, if_neg (by decide), hup_ne _ _ (by decide), hup_ne _ _ (by decide), e35]; exact e4
        rw [e35, s1, nI_suc]
        refine pk_le N (d + 1) (fun z => ?_) (fun z => ?_) rfl rfl
        · -- the last lead
          refine ⟨fun q => absurd rfl q, fun _ => ?_⟩
          refine s_endsHome hn hv hK (cmv σ3 k3) hc (by omega) (by rw [e35]; exact s1) (fun a ha hh1 hb => ?_) (fun hno => ?_)
          · refine br_f (by decide) ?_
            have hsr := srch_home (N := N) (m := m) hg (by omega) ha hh1 hb
            have hq' := hq
            rw [hsr] at hq'
            obtain ⟨f, hf, -⟩ := hs3
            refine hq' _ (k3.tr (kpS.h (Or.inr (Or.inr rfl)))) (by rw [hup_ne _ _ (by decide), e35]; exact e4) ⟨f, hf.mv (hup_n _ _ _ (by decide)) (hup_n _ _ _ (by decide))⟩ (fun _ k hk => ?_)
            rw [hup_at]
            show (if k = d then nI a else σ3 37 k) = nI (upN c d a k)
            by_cases e : k = d
            · rw [if_pos e, e, upN_same]
            · rw [if_neg e, o3 37 (by decide) (by decide), (s2 k (by omega)).2, upN_lt (by omega)]
          · refine br_t rfl ?_
            rw [e35, s1]
            refine s_setCell (by decide) (show d < 200 by omega) ?_
            rw [show (hup σ3 36 d (nI (encR n (hh n K μ c d)))) 35 3 = nI d by rw [hup_ne _ _ (by decide), e35]; exact s1]
            refine br_t rfl ?_
            refine s_setCell (by decide) (show d < 200 by omega) ?_
            rw [show (hup (hup σ3 36 d (nI (encR n (hh n K μ c d)))) 37 d 2) 35 3 = nI d by rw [hup_ne _ _ (by decide), hup_ne _ _ (by decide), e35]; exact s1, nI_suc]
            obtain ⟨p1, p2, p3⟩ := push 2 (by decide) 2 rfl _ rfl
            refine ⟨fun q => absurd rfl q, fun _ => ?_⟩
            exact back (d + 1) (upN c d 2) _ (by omega) (fun q hq => by rw [tb_two'] at hq; have := (tb_le hq).2.1; omega) (cOK_up hc (by decide)) (dst_suc hK hdst hg) p1 p2 p3 (srch_away hg (by omega) hno)
        · refine ⟨fun _ => ?_, fun q => absurd q (by decide)⟩
          refine s_setCell (by decide) (show d < 200 by omega) ?_
          rw [show (hup σ3 36 d (nI (encR n (hh n K μ c d)))) 35 3 = nI d by rw [hup_ne _ _ (by decide), e35]; exact s1]
          refine br_f (by decide) ?_
          refine s_setCell (by decide) (show d < 200 by omega) ?_
          rw [show (hup (hup σ3 36 d (nI (encR n (hh n K μ c d)))) 37 d 0) 35 3 = nI d by rw [hup_ne _ _ (by decide), hup_ne _ _ (by decide), e35]; exact s1, nI_suc]
          obtain ⟨p1, p2, p3⟩ := push 0 (by decide) 0 rfl _ rfl
          refine ⟨fun _ => ?_, fun q => absurd q (by decide)⟩
          exact next (d + 1) (upN c d 0) _ (by omega) z (cOK_up hc (by decide)) (dst_suc hK hdst hg) p1 p2 p3 (srch_on hg z)
      · have k3 : kpS σ σ3 := k2.tr (kpS.o o3)
        have e35 : σ3 35 = σ2 35 := o3 35 (by decide) (by decide)
        dsimp only [hM_]
        refine br_t rfl ⟨fun q => absurd rfl q, fun _ => ?_⟩
        exact back d c σ3 (by omega) (fun q hq => by have := (tb_le hq).2.1; omega) hc hdst k3 ⟨by rw [e35]; exact s1, fun k hk => by rw [o3 36 (by decide) (by decide), o3 37 (by decide) (by decide)]; exact s2 k hk, hs3⟩ (by rw [e35]; exact e4) (srch_bad hg)
  refine main looks 0 (fun _ => 0) _ (Nat.le_refl _) (by omega) (fun k hk => absurd hk (Nat.not_lt_zero k)) (fun t ht => by rw [Nat.zero_mul] at ht; exact absurd ht (Nat.not_lt_zero t)) (((kpS.o (fun j p _ => o1 j p)).tr (kpS.h (Or.inl rfl))).tr (kpS.h (Or.inl rfl))) ⟨by rw [hup_at, if_neg (by decide), hup_at, if_pos rfl]; rfl, fun k hk => absurd hk (Nat.not_lt_zero k), _, hs1.mv (by rw [hup_n _ _ _ (by decide), hup_n _ _ _ (by decide)]) (by rw [hup_n _ _ _ (by decide), hup_n _ _ _ (by decide)]), fun ρ => by rw [Nat.zero_mul]; exact ⟨fun h => absurd rfl h, fun h => (by cases h)⟩⟩ (by rw [hup_at, if_pos rfl, show looks + 1 - looks = 1 by omega]; rfl) hQ

/-! feed, end and the tape. -/
theorem br_x {c A B : Prop} (h : c) (a : A) : (¬ c → B) ∧ (c → A) := ⟨fun z => absurd h z, fun _ => a⟩
theorem br_y {c A B : Prop} (h : ¬ c) (b : B) : (¬ c → B) ∧ (c → A) := ⟨fun _ => b, fun z => absurd z h⟩
theorem i8_val (x : Int32) : x.toInt8.toInt32 = bI (x.toBitVec.toNat % 256) := by
  unfold bI
  congr 1
  apply Int8.toBitVec_inj.mp
  rw [Int32.toBitVec_toInt8, Int32.toBitVec_toInt8, BitVec.signExtend_eq_setWidth_of_le _ (by decide), BitVec.signExtend_eq_setWidth_of_le _ (by decide)]
  apply BitVec.eq_of_toNat_eq
  rw [BitVec.toNat_setWidth, BitVec.toNat_setWidth, pk_tn (by omega)]
  omega
theorem bI_b (x : Int32) : ∃ b, b < 256 ∧ x.toInt8.toInt32 = bI b := ⟨_, Nat.mod_lt _ (by decide), i8_val x⟩
theorem shr_lo (a s : Int32) (k : Nat) (hk : k ≤ 24) (hu : ((s.toUInt32 &&& Int32.toUInt32 31).toBitVec % 32).toNat = k) (hs : ((s &&& 31).toBitVec.smod 32).toNat = k) : ((a.toUInt32 >>> (s.toUInt32 &&& Int32.toUInt32 31)).toInt32).toInt8.toInt32 = ((a >>> (s &&& 31)).toInt8.toInt32) := by
  rw [i8_val, i8_val]
  congr 1
  rw [pk_ushr a s k hu]
  have h2 := pk_shr a (s &&& 31) k hs
  have e : ∀ x : Int32, x.toBitVec.toNat % 256 = (x.toInt % 256).toNat := fun x => by
    rw [show x.toInt = x.toBitVec.toInt from rfl, BitVec.toInt_eq_toNat_bmod]
    have hlt := x.toBitVec.isLt
    rw [Int.bmod]
    omega
  rw [e (a >>> (s &&& 31)), h2]
  have h3 : a.toInt = (a.toBitVec.toNat : Int).bmod (2 ^ 32) := BitVec.toInt_eq_toNat_bmod _
  have hlt := a.toBitVec.isLt
  rw [Int.shiftRight_eq_div_pow]
  have hc : k = 0 ∨ k = 1 ∨ k = 2 ∨ k = 3 ∨ k = 4 ∨ k = 5 ∨ k = 6 ∨ k = 7 ∨ k = 8 ∨ k = 9 ∨ k = 10 ∨ k = 11 ∨ k = 12 ∨ k = 13 ∨ k = 14 ∨ k = 15 ∨ k = 16 ∨ k = 17 ∨ k = 18 ∨ k = 19 ∨ k = 20 ∨ k = 21 ∨ k = 22 ∨ k = 23 ∨ k = 24 := by omega
  rw [h3, Int.bmod]
  clear hu hs h2 e h3
  rcases hc with h | h | h | h | h | h | h | h | h | h | h | h | h | h | h | h | h | h | h | h | h | h | h | h | h <;> (subst h; omega)
def byt (a : Int32) (k : Nat) : Int32 := (a >>> (nI (24 - 8 * k) &&& 31)).toInt8.toInt32
theorem s_addNumber {σ : hSt} {z : Nat} {a : Int32} (h1 : σ 19 1 = nI z) (hz : z + 4 ≤ 500) {Q : hSt → Prop} (hQ : ∀ σ', (∀ k, k ≠ 19 → k ≠ 20 → σ' k = σ k) → σ' 19 1 = nI (z + 4) → (∀ i, i < z → σ' 20 i = σ 20 i) → (∀ i, i < 4 → σ' 20 (z + i) = byt a i) → Q σ') : wp_X9_addNumber a σ Q := by
  unfold wp_X9_addNumber
  refine hL2_in (fun v2 σ2 => ∃ k, k ≤ 4 ∧ v2 = nI (32 - 8 * k) - 8 ∧ (∀ j, j ≠ 19 → j ≠ 20 → σ2 j = σ j) ∧ σ2 19 1 = nI (z + k) ∧ (∀ i, i < z → σ2 20 i = σ 20 i) ∧ (∀ i, i < k → σ2 20 (z + i) = byt a i)) (fun _ σ2 => 500 - (σ2 19 1).toNatClampNeg) ?_ ⟨0, by decide, by decide, fun _ _ _ => rfl, h1, fun _ _ => rfl, fun i hi => absurd hi (Nat.not_lt_zero i)⟩
  rintro P _ σ2 ⟨k, hk, rfl, ho, g1, g2, g3⟩ ih
  rcases (by omega : k = 4 ∨ k < 4) with rfl | hk4
  · exact br_t (by decide) (hQ σ2 ho g1 g2 g3)
  · have ev : nI (32 - 8 * k) - 8 = nI (24 - 8 * k) := by
      rw [show (8 : Int32) = nI 8 from rfl, pk_sub (by omega)]; congr 1; omega
    have en : nI (24 - 8 * k) + (-8) = nI (32 - 8 * (k + 1)) - 8 := by
      rcases (by omega : k = 0 ∨ k = 1 ∨ k = 2 ∨ k = 3) with rfl | rfl | rfl | rfl <;> decide
    rw [ev]
    refine br_f (nI_pos (by omega)) ?_
    rw [g1]
    refine br_f (nI_pos (by omega)) (br_f (nI_ge (b := 500) (by omega) (by decide)) ⟨vp_in_nI (by omega) (by decide), ?_⟩)
    intro x hx
    rw [en] at hx
    subst hx
    rw [nI_clamp (by omega), pk_vb, shr_lo a (nI (24 - 8 * k)) (24 - 8 * k) (by omega) (sh1_u _ (by omega)) (sh1_l _ (by omega))]
    have e1 : (hup (hup σ2 20 (z + k) (byt a k)) 19 1 ((hup σ2 20 (z + k) (byt a k)) 19 1 + 1)) 19 1 = nI (z + (k + 1)) := by
      rw [hup_at, if_pos rfl, hup_ne _ _ (by decide), g1, nI_suc]; rfl
    refine ih _ _ ⟨k + 1, by omega, rfl, fun j hj hj2 => ?_, e1, fun i hi => ?_, fun i hi => ?_⟩ ?_
    · rw [hup_n _ _ _ hj, hup_n _ _ _ hj2]; exact ho j hj hj2
    · rw [hup_ne _ _ (by decide), hup_at, if_neg (by omega)]; exact g2 i hi
    · rw [hup_ne _ _ (by decide), hup_at]
      by_cases e : i = k
      · subst e; rw [if_pos rfl]; rfl
      · rw [if_neg (by omega)]; exact g3 i (by omega)
    · show 500 - ((hup (hup σ2 20 (z + k) (byt a k)) 19 1 ((hup σ2 20 (z + k) (byt a k)) 19 1 + 1)) 19 1).toNatClampNeg < _
      rw [e1, nI_clamp (by omega), g1, nI_clamp (by omega)]; omega
theorem t_four {τ : hSt} {w : Nat → Int64} {z : Nat} {a : Int32} (h1 : τ 0 8 = nI z) (hz : z + 4 ≤ 500) {Q : hSt → Prop} (hQ : ∀ τ', (∀ k, k ≠ 0 → k ≠ 5 → τ' k = τ k) → (∀ j, j ≠ 8 → τ' 0 j = τ 0 j) → τ' 0 8 = nI (z + 4) → (∀ i, i < z → τ' 5 i = τ 5 i) → (∀ i, i < 4 → τ' 5 (z + i) = byt a i) → Q τ') : wp_X12_four a τ w Q := by
  unfold wp_X12_four
  refine hL2_in (fun v2 τ2 => ∃ k, k ≤ 4 ∧ v2 = nI (32 - 8 * k) - 8 ∧ (∀ j, j ≠ 0 → j ≠ 5 → τ2 j = τ j) ∧ (∀ j, j ≠ 8 → τ2 0 j = τ 0 j) ∧ τ2 0 8 = nI (z + k) ∧ (∀ i, i < z → τ2 5 i = τ 5 i) ∧ (∀ i, i < k → τ2 5 (z + i) = byt a i)) (fun _ τ2 => 500 - (τ2 0 8).toNatClampNeg) ?_ ⟨0, by decide, by decide, fun _ _ _ => rfl, fun _ _ => rfl, h1, fun _ _ => rfl, fun i hi => absurd hi (Nat.not_lt_zero i)⟩
  rintro P _ τ2 ⟨k, hk, rfl, ho, ho0, g1, g2, g3⟩ ih
  rcases (by omega : k = 4 ∨ k < 4) with rfl | hk4
  · exact br_t (by decide) (hQ τ2 ho ho0 g1 g2 g3)
  · have ev : nI (32 - 8 * k) - 8 = nI (24 - 8 * k) := by
      rw [show (8 : Int32) = nI 8 from rfl, pk_sub (by omega)]; congr 1; omega
    have en : nI (24 - 8 * k) + (-8) = nI (32 - 8 * (k + 1)) - 8 := by
      rcases (by omega : k = 0 ∨ k = 1 ∨ k = 2 ∨ k = 3) with rfl | rfl | rfl | rfl <;> decide
    rw [ev]
    refine br_f (nI_pos (by omega)) ?_
    rw [g1]
    refine ⟨vp_in_nI (by omega) (by decide), ?_⟩
    intro x hx
    rw [en] at hx
    subst hx
    rw [nI_clamp (by omega), pk_vb]
    have e1 : (hup (hup τ2 5 (z + k) (byt a k)) 0 8 ((hup τ2 5 (z + k) (byt a k)) 0 8 + 1)) 0 8 = nI (z + (k + 1)) := by
      rw [hup_at, if_pos rfl, hup_ne _ _ (by decide), g1, nI_suc]; rfl
    refine ih _ _ ⟨k + 1, by omega, rfl, fun j hj hj2 => ?_, fun j hj => ?_, e1, fun i hi => ?_, fun i hi => ?_⟩ ?_
    · rw [hup_n _ _ _ hj, hup_n _ _ _ hj2]; exact ho j hj hj2
    · rw [hup_at, if_neg hj, hup_ne _ _ (by decide)]; exact ho0 j hj
    · rw [hup_ne _ _ (by decide), hup_at, if_neg (by omega)]; exact g2 i hi
    · rw [hup_ne _ _ (by decide), hup_at]
      by_cases e : i = k
      · subst e; rw [if_pos rfl]; rfl
      · rw [if_neg (by omega)]; exact g3 i (by omega)
    · show 500 - ((hup (hup τ2 5 (z + k) (byt a k)) 0 8 ((hup τ2 5 (z + k) (byt a k)) 0 8 + 1)) 0 8).toNatClampNeg < _
      rw [e1, nI_clamp (by omega), g1, nI_clamp (by omega)]; omega
/-- four bytes more on both tapes -/
theorem rT_four {σ σ' τ τ' : hSt} {z : Nat} {a : Int32} (h : rT σ τ z) (hz : z + 4 ≤ 500) (s1 : σ' 19 1 = nI (z + 4)) (s2 : ∀ i, i < z → σ' 20 i = σ 20 i) (s3 : ∀ i, i < 4 → σ' 20 (z + i) = byt a i) (t1 : τ' 0 8 = nI (z + 4)) (t2 : ∀ i, i < z → τ' 5 i = τ 5 i) (t3 : ∀ i, i < 4 → τ' 5 (z + i) = byt a i) : rT σ' τ' (z + 4) := by
  obtain ⟨h1, h2, h3, h4⟩ := h
  refine ⟨hz, s1, t1, fun i hi => ?_⟩
  rcases Nat.lt_or_ge i z with q | q
  · rw [s2 i q, t2 i q]; exact h4 i q
  · have e : i = z + (i - z) := by omega
    rw [e, s3 (i - z) (by omega), t3 (i - z) (by omega)]
    exact ⟨rfl, bI_b _⟩
/-- the class's tape is touched alone -/
def kpX (σ σ' : hSt) : Prop := ∀ k, k ≠ 19 → k ≠ 20 → σ' k = σ k
theorem kpX.tr {a b c : hSt} (h : kpX a b) (h2 : kpX b c) : kpX a c := fun k p q => by rw [h2 k p q, h k p q]
def kpT (τ τ' : hSt) : Prop := (∀ k, k ≠ 0 → k ≠ 5 → τ' k = τ k) ∧ ∀ j, j ≠ 8 → j ≠ 0 → τ' 0 j = τ 0 j
theorem kpT.tr {a b c : hSt} (h : kpT a b) (h2 : kpT b c) : kpT a c := ⟨fun k p q => by rw [h2.1 k p q, h.1 k p q], fun j p q => by rw [h2.2 j p q, h.2 j p q]⟩
/-- a new tape -/
theorem RI.tape {B : Nat} {σ σ' τ τ' : hSt} (h : RI B σ τ) (hX : kpX σ σ') (hT : kpT τ τ') (hn : ∀ z, rT σ τ z → ∃ z', rT σ' τ' z') : RI B σ' τ' := by
  obtain ⟨n, Ks, μs, L, lm, lc, tz, h1, h2, ⟨z1, z2, z3, z4, z5⟩, hT0, hM, hL, hOK, ⟨x1, x2, x3, x4, x5⟩, ⟨y1, y2⟩, hP, tp, s1, s2, s3⟩ := h
  obtain ⟨tz', hT1⟩ := hn tz hT0
  obtain ⟨k0, k1⟩ := hT
  refine ⟨n, Ks, μs, L, lm, lc, tz', h1, h2, ⟨?_, ?_, ?_, ?_, ?_⟩, hT1, fun m hm => ?_, hL, hOK, ⟨?_, ?_, ?_, ?_, fun k hk => ?_⟩, ⟨?_, fun k hk => ?_⟩, ?_, tp, s1, ?_, fun r hr => ?_⟩
  · rw [hX 0 (by decide) (by decide)]; exact z1
  · rw [k1 1 (by decide) (by decide)]; exact z2
  · rw [hX 0 (by decide) (by decide), k1 11 (by decide) (by decide)]; exact z3
  · rw [hX 35 (by decide) (by decide), k1 37 (by decide) (by decide)]; exact z4
  · rw [hX 3 (by decide) (by decide)]; exact z5
  · obtain ⟨m1, m2, m3⟩ := hM m hm
    exact ⟨m1, m2.mv (hX _ (by omega) (by omega)) (hX _ (by omega) (by omega)), m3.mv (k0 1 (by decide) (by decide)) (k0 2 (by decide) (by decide))⟩
  · rw [hX 31 (by decide) (by decide)]; exact x1
  · rw [hX 31 (by decide) (by decide)]; exact x2
  · rw [hX 31 (by decide) (by decide)]; exact x3
  · rw [hX 31 (by decide) (by decide)]; exact x4
  · rw [hX 32 (by decide) (by decide), hX 33 (by decide) (by decide), hX 34 (by decide) (by decide)]; exact x5 k hk
  · rw [k1 6 (by decide) (by decide)]; exact y1
  · rw [k0 3 (by decide) (by decide), k0 4 (by decide) (by decide)]; exact y2 k hk
  · unfold rP; rw [hX 31 (by decide) (by decide)]; exact hP
  · rw [hX 17 (by decide) (by decide)]; exact s2
  · rw [hX 18 (by decide) (by decide)]; exact s3 r hr
abbrev lawE (a b : Int32) (P : Prop) : Prop := (a = b → P) ∧ (¬ a = b → False)
theorem lawE_of {a b : Int32} {P : Prop} (e : a = b) (h : P) : lawE a b P := ⟨fun _ => h, fun z => z e⟩
theorem RI.th {B : Nat} {σ τ : hSt} (h : RI B σ τ) {v : Int32} : RI B σ (hup τ 0 0 v) := h.y (kpY.hu (by decide))
theorem c_feed {B : Nat} {σ τ : hSt} {w : Nat → Int64} {a1 a2 a3 a4 a5 : Int32} (h : RI B σ τ) : wp_X11_feed a1 a2 a3 a4 a5 σ (fun r σ1 => wp_X12_feed a1 a2 a3 a4 a5 τ w (fun r2 τ1 => lawE r r2 (RI B σ1 τ1))) := by
  have h0 := h
  obtain ⟨n, Ks, μs, L, lm, lc, tz, -, -, -, hT, -⟩ := h0
  have hT2 : rT σ (hup τ 0 0 0) tz := by
    obtain ⟨t1, t2, t3, t4⟩ := hT
    refine ⟨t1, t2, ?_, fun i hi => ?_⟩
    · rw [hup_at, if_neg (by decide)]; exact t3
    · rw [hup_ne _ _ (by decide)]; exact t4 i hi
  have hh : RI B σ (hup τ 0 0 0) := h.th
  unfold wp_X11_feed wp_X9_size wp_X12_feed
  have hb := hT2.1
  have hs := hT2.2.1
  have ht := hT2.2.2.1
  have e20 : nI tz + (20 : Int32) = nI (tz + 20) := by rw [show (20 : Int32) = nI 20 from rfl, nI_add]
  rw [hs, ht, e20]
  generalize hup τ 0 0 0 = τ0 at hh hT2 ht ⊢
  refine pk_le (tz + 20) 500 (fun z => ?_) (fun z => ?_) e20 rfl
  · refine s_addNumber hs (by omega) (fun σ1 o1 p1 q1 r1 => ?_)
    refine s_addNumber p1 (by omega) (fun σ2 o2 p2 q2 r2 => ?_)
    refine s_addNumber p2 (by omega) (fun σ3 o3 p3 q3 r3 => ?_)
    refine s_addNumber p3 (by omega) (fun σ4 o4 p4 q4 r4 => ?_)
    refine s_addNumber p4 (by omega) (fun σ5 o5 p5 q5 r5 => ?_)
    refine br_t (nI_le (b := 500) z (by decide)) ?_
    refine t_four ht (by omega) (fun τ1 u1 m1 v1 w1 x1 => ?_)
    refine t_four v1 (by omega) (fun τ2 u2 m2 v2 w2 x2 => ?_)
    refine t_four v2 (by omega) (fun τ3 u3 m3 v3 w3 x3 => ?_)
    refine t_four v3 (by omega) (fun τ4 u4 m4 v4 w4 x4 => ?_)
    refine t_four v4 (by omega) (fun τ5 u5 m5 v5 w5 x5 => ?_)
    refine lawE_of (by rw [p5, v5]) ?_
    have g1 := rT_four hT2 (by omega) p1 q1 r1 v1 w1 x1
    have g2 := rT_four g1 (by omega) p2 q2 r2 v2 w2 x2
    have g3 := rT_four g2 (by omega) p3 q3 r3 v3 w3 x3
    have g4 := rT_four g3 (by omega) p4 q4 r4 v4 w4 x4
    have g5 := rT_four g4 (by omega) p5 q5 r5 v5 w5 x5
    have kX : kpX σ σ5 := kpX.tr (kpX.tr (kpX.tr (kpX.tr o1 o2) o3) o4) o5
    have kT : kpT τ0 τ5 := kpT.tr (kpT.tr (kpT.tr (kpT.tr ⟨u1, fun j h _ => m1 j h⟩ ⟨u2, fun j h _ => m2 j h⟩) ⟨u3, fun j h _ => m3 j h⟩) ⟨u4, fun j h _ => m4 j h⟩) ⟨u5, fun j h _ => m5 j h⟩
    exact hh.tape kX kT (fun _ _ => ⟨_, g5⟩)
  · exact br_f (nI_ge (a := 500) z (by omega)) (lawE_of rfl hh)
theorem c_end {B : Nat} {σ τ : hSt} {w : Nat → Int64} {a1 : Int32} (h : RI B σ τ) : wp_X11_end a1 σ (fun r σ1 => wp_X12_end a1 τ w (fun r2 τ1 => lawE r r2 (RI B σ1 τ1))) := by
  have h0 := h
  obtain ⟨n, Ks, μs, L, lm, lc, tz, -, -, -, ⟨t1, t2, t3, t4⟩, -⟩ := h0
  have hh : RI B σ (hup τ 0 0 0) := h.th
  unfold wp_X11_end wp_X9_size wp_X9_cut wp_X12_end
  have e8 : (hup τ 0 0 0) 0 8 = nI tz := by rw [hup_at, if_neg (by decide)]; exact t3
  rw [t2, e8]
  rcases pk_ix a1 (n := tz + 1) (by omega) with z | z | ⟨m, hm, rfl⟩
  · exact br_t z (br_t z (lawE_of rfl hh))
  · have hn : ¬ a1 < 0 := by
      rw [Int32.lt_iff_toInt_lt, show (0 : Int32).toInt = 0 by decide]
      rw [Int32.le_iff_toInt_le, nI_toInt (by omega)] at z
      omega
    have hg : ¬ a1 ≤ nI tz := by
      rw [Int32.le_iff_toInt_le, nI_toInt (by omega)]
      rw [Int32.le_iff_toInt_le, nI_toInt (by omega)] at z
      omega
    exact br_f hn (br_f hg (br_f hn (br_f hg (lawE_of rfl hh))))
  · refine br_f (nI_pos (by omega)) (br_t (nI_le (by omega) (by omega)) (br_f (nI_pos (by omega)) (br_t (nI_le (by omega) (by omega)) (lawE_of rfl ?_))))
    refine hh.tape (fun k p q => hup_n _ _ _ p) ⟨fun k p q => hup_n _ _ _ p, fun j p q => by rw [hup_at, if_neg p]⟩ (fun z hz => ⟨m, ?_⟩)
    refine ⟨by omega, ?_, ?_, fun i hi => ?_⟩
    · rw [hup_at, if_pos rfl]
    · rw [hup_at, if_pos rfl]
    · rw [hup_ne _ _ (by decide), hup_ne _ _ (by decide), hup_ne _ _ (by decide)]; exact t4 i (by omega)
theorem c_fault {B : Nat} {σ τ : hSt} {w : Nat → Int64} (h : RI B σ τ) : wp_X11_fault σ (fun r => wp_X12_fault τ w (fun r2 τ1 => lawE r r2 (RI B σ τ1))) := by
  have h0 := h
  obtain ⟨n, Ks, μs, L, lm, lc, tz, -, -, ⟨z1, z2, z3, z4, z5⟩, -⟩ := h0
  unfold wp_X11_fault wp_X12_fault
  refine lawE_of ?_ h.th
  rw [hup_at, if_neg (by decide)]; exact z3

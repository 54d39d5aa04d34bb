/-! The law's start: the two new objects as numbered cells. -/
def wX0 (cy : Nat → ClassId) (qs : Nat → Nat) (rv : Int32) : va_W := [((qs 0), .inr (9, [.int (6 : Int32), .int (0 : Int32), .ref (qs 19), .ref (qs 1), .ref (qs 17), .ref (qs 21), .ref (qs 24), .ref (qs 31), .ref (qs 35)])), ((qs 1), .inr (0, [.ref (qs 2), .ref (qs 3)])), ((qs 2), .inl (cy 2, 6, .inr (.inr (.inr (.inr (va_up (va_up (va_up (va_up (va_up (va_up (fun _ => none) ((0 : Int32)).toNatClampNeg (some (qs 5))) ((1 : Int32)).toNatClampNeg (some (qs 7))) ((2 : Int32)).toNatClampNeg (some (qs 9))) ((3 : Int32)).toNatClampNeg (some (qs 11))) ((4 : Int32)).toNatClampNeg (some (qs 13))) ((5 : Int32)).toNatClampNeg (some (qs 15)))))))), ((qs 3), .inr (2, [.ref (qs 4), .int (0 : Int32), .int (0 : Int32), .int (0 : Int32), .int (0 : Int32), .int (0 : Int32), .int (0 : Int32), .int (0 : Int32)])), ((qs 4), .inl (cy 0, 64, .inl (fun _ => 0))), ((qs 5), .inr (2, [.ref (qs 6), .int (0 : Int32), .int (0 : Int32), .int (0 : Int32), .int (0 : Int32), .int (0 : Int32), .int (0 : Int32), .int (0 : Int32)])), ((qs 6), .inl (cy 0, 64, .inl (fun _ => 0))), ((qs 7), .inr (2, [.ref (qs 8), .int (0 : Int32), .int (0 : Int32), .int (0 : Int32), .int (0 : Int32), .int (0 : Int32), .int (0 : Int32), .int (0 : Int32)])), ((qs 8), .inl (cy 0, 64, .inl (fun _ => 0))), ((qs 9), .inr (2, [.ref (qs 10), .int (0 : Int32), .int (0 : Int32), .int (0 : Int32), .int (0 : Int32), .int (0 : Int32), .int (0 : Int32), .int (0 : Int32)])), ((qs 10), .inl (cy 0, 64, .inl (fun _ => 0))), ((qs 11), .inr (2, [.ref (qs 12), .int (0 : Int32), .int (0 : Int32), .int (0 : Int32), .int (0 : Int32), .int (0 : Int32), .int (0 : Int32), .int (0 : Int32)])), ((qs 12), .inl (cy 0, 64, .inl (fun _ => 0))), ((qs 13), .inr (2, [.ref (qs 14), .int (0 : Int32), .int (0 : Int32), .int (0 : Int32), .int (0 : Int32), .int (0 : Int32), .int (0 : Int32), .int (0 : Int32)])), ((qs 14), .inl (cy 0, 64, .inl (fun _ => 0))), ((qs 15), .inr (2, [.ref (qs 16), .int (0 : Int32), .int (0 : Int32), .int (0 : Int32), .int (0 : Int32), .int (0 : Int32), .int (0 : Int32), .int (0 : Int32)])), ((qs 16), .inl (cy 0, 64, .inl (fun _ => 0))), ((qs 17), .inr (7, [.ref (qs 18), .int (0 : Int32), .int (0 : Int32), .int (0 : Int32)])), ((qs 18), .inl (cy 0, 40320, .inl (fun _ => 0))), ((qs 19), .inr (8, [.ref (qs 20), .int (0 : Int32)])), ((qs 20), .inl (cy 1, 500, .inl (fun _ => 0))), ((qs 21), .inr (3, [.int (0 : Int32), .int (0 : Int32), .int (-1 : Int32), .ref (qs 22), .int (0 : Int32), .int (0 : Int32), .int (0 : Int32), .int (0 : Int32), .int (0 : Int32), .int (0 : Int32), .int (0 : Int32), .int (0 : Int32), .int (0 : Int32), .int (0 : Int32)])), ((qs 22), .inr (2, [.ref (qs 23), .int (0 : Int32), .int (0 : Int32), .int (0 : Int32), .int (0 : Int32), .int (0 : Int32), .int (0 : Int32), .int (0 : Int32)])), ((qs 23), .inl (cy 0, 64, .inl (fun _ => 0))), ((qs 24), .inr (1, [.int (0 : Int32), .int (0 : Int32), .int (-1 : Int32), .ref (qs 1), .ref (qs 25), .ref (qs 26), .int (0 : Int32), .int (0 : Int32), .int (0 : Int32), .int (1 : Int32), .int (-1 : Int32), .int (0 : Int32), .ref (qs 27), .ref (qs 28), .ref (qs 29), .ref (qs 30), .int (0 : Int32)])), ((qs 25), .inl (cy 0, 500, .inl (fun _ => 0))), ((qs 26), .inl (cy 0, 500, .inl (fun _ => 0))), ((qs 27), .inl (cy 0, 5, .inl (fun _ => 0))), ((qs 28), .inl (cy 0, 5, .inl (fun _ => 0))), ((qs 29), .inl (cy 0, 5, .inl (fun _ => 0))), ((qs 30), .inl (cy 0, 1000, .inl (fun _ => 0))), ((qs 31), .inr (5, [.ref (qs 1), .ref (qs 17), .ref (qs 32), .ref (qs 33), .ref (qs 34), .int (6 : Int32), .int (0 : Int32), .int (0 : Int32), .int rv, .int (0 : Int32), .int (-1 : Int32), .int (-1 : Int32)])), ((qs 32), .inl (cy 0, 1000, .inl (fun _ => 0))), ((qs 33), .inl (cy 0, 1000, .inl (fun _ => 0))), ((qs 34), .inl (cy 0, 1000, .inl (fun _ => 0))), ((qs 35), .inr (6, [.ref (qs 17), .ref (qs 36), .ref (qs 37), .int (0 : Int32), .int (0 : Int32)])), ((qs 36), .inl (cy 0, 200, .inl (fun _ => 0))), ((qs 37), .inl (cy 0, 200, .inl (fun _ => 0)))]
def wY0 (cy : Nat → ClassId) (qs : Nat → Nat) : va_W := [((qs 0), .inr (10, [.int 0, .int (6 : Int32), .ref (qs 1), .ref (qs 2), .ref (qs 3), .ref (qs 4), .int 0, .ref (qs 5), .int 0, .int 0, .int 0, .int 0, .int 0, .int 0, .ref (qs 6), .ref (qs 7), .int 0, .ref (qs 8), .ref (qs 9), .ref (qs 10), .int 0, .ref (qs 11), .ref (qs 12), .ref (qs 13), .ref (qs 14), .ref (qs 15), .ref (qs 16), .int 0, .ref (qs 17), .int 0, .int 0, .int 0, .ref (qs 18), .int 0, .ref (qs 19), .ref (qs 20), .ref (qs 21), .int 0])), ((qs 1), .inl (cy 0, 6, .inl (fun _ => 0))), ((qs 2), .inl (cy 0, 396, .inl (fun _ => 0))), ((qs 3), .inl (cy 0, 1000, .inl (fun _ => 0))), ((qs 4), .inl (cy 0, 1000, .inl (fun _ => 0))), ((qs 5), .inl (cy 1, 500, .inl (fun _ => 0))), ((qs 6), .inl (cy 0, 66, .inl (fun _ => 0))), ((qs 7), .inl (cy 0, 500, .inl (fun _ => 0))), ((qs 8), .inl (cy 0, 500, .inl (fun _ => 0))), ((qs 9), .inl (cy 0, 500, .inl (fun _ => 0))), ((qs 10), .inl (cy 0, 500, .inl (fun _ => 0))), ((qs 11), .inl (cy 0, 8, .inl (fun _ => 0))), ((qs 12), .inl (cy 3, 500, .inr (.inl (fun _ => 0)))), ((qs 13), .inl (cy 0, 500, .inl (fun _ => 0))), ((qs 14), .inl (cy 0, 8, .inl (fun _ => 0))), ((qs 15), .inl (cy 0, 8, .inl (fun _ => 0))), ((qs 16), .inl (cy 0, 4096, .inl (fun _ => 0))), ((qs 17), .inl (cy 0, 40320, .inl (fun _ => 0))), ((qs 18), .inl (cy 4, 9, .inl (fun _ => 0))), ((qs 19), .inl (cy 0, 1608, .inl (fun _ => 0))), ((qs 20), .inl (cy 0, 201, .inl (fun _ => 0))), ((qs 21), .inl (cy 4, 40320, .inl (fun _ => 0)))]
def σX0 (rv : Int32) : hSt := fun k => match k with
  | 0 => upd (fun _ => 0) 0 6
  | 21 => upd (fun _ => 0) 2 (-1)
  | 24 => upd (upd (upd (fun _ => 0) 2 (-1)) 9 1) 10 (-1)
  | 31 => upd (upd (upd (upd (fun _ => 0) 5 6) 8 rv) 10 (-1)) 11 (-1)
  | _ => fun _ => 0
def σY0 : hSt := fun k => match k with
  | 0 => upd (fun _ => 0) 1 6
  | _ => fun _ => 0
theorem hC_P {N : Nat} {ad : Nat → Nat} {b : hCell} {σ : hSt} {D : va_G} {H : Heap} {w : va_W} (hP : va_P D vwCl w H) (h : ∀ k, k < N → ∃ e, w[k]? = some (ad k, e) ∧ (va_at D vwCl (ad k, e) H → va_at D vwCl (ad k, b k (σ k)) H)) : va_P D vwCl (hC N ad b σ) H := fun k q hq => by
  obtain ⟨hk, rfl⟩ := hC_inv hq
  obtain ⟨e, h1, h2⟩ := h k hk
  exact h2 (hP k _ h1)
theorem hC_id {ad : Nat → Nat} {b : hCell} {σ : hSt} {D : va_G} {H : Heap} {w : va_W} {k : Nat} (e : w[k]? = some (ad k, b k (σ k))) : ∃ e, w[k]? = some (ad k, e) ∧ (va_at D vwCl (ad k, e) H → va_at D vwCl (ad k, b k (σ k)) H) := ⟨_, e, fun h => h⟩
theorem arrV_congr {cI : ClassId} {N : Nat} {f g : Nat → Value} (h : ∀ i, i < N → f i = g i) : arrV cI N f = arrV cI N g := by
  unfold arrV
  congr 2
  funext j
  exact h j.val j.isLt
theorem c6 {k : Nat} (h : k < 6) : k = 0 ∨ k = 1 ∨ k = 2 ∨ k = 3 ∨ k = 4 ∨ k = 5 := by omega
set_option maxRecDepth 20000 in
theorem stX_P {cy : Nat → ClassId} {qs : Nat → Nat} {rv : Int32} {D : va_G} {H : Heap} (hP : va_P D vwCl (wX0 cy qs rv) H) : va_P D vwCl (hC 38 qs (bX cy qs) (σX0 rv)) H := by
  refine hC_P hP (fun k hk => ?_)
  match k, hk with
  | 0, _ => exact hC_id rfl
  | 1, _ => exact hC_id rfl
  | 2, _ =>
    refine ⟨_, rfl, fun h => ?_⟩
    have e : vp_cell (cy 2) (6, (Sum.inr (.inr (.inr (.inr (va_up (va_up (va_up (va_up (va_up (va_up (fun _ => none) ((0 : Int32)).toNatClampNeg (some (qs 5))) ((1 : Int32)).toNatClampNeg (some (qs 7))) ((2 : Int32)).toNatClampNeg (some (qs 9))) ((3 : Int32)).toNatClampNeg (some (qs 11))) ((4 : Int32)).toNatClampNeg (some (qs 13))) ((5 : Int32)).toNatClampNeg (some (qs 15)))))) : (Nat → Int32) ⊕ (Nat → Int64) ⊕ (Nat → UInt32) ⊕ (Nat → UInt64) ⊕ (Nat → Option Nat))) = vp_cell (cy 2) (6, .inr (.inr (.inr (.inr (fun i => some (qs (5 + 2 * i))))))) := by
      rw [vp_cell_q, vp_cell_q]
      exact arrV_congr (fun i hi => by rcases c6 hi with rfl | rfl | rfl | rfl | rfl | rfl <;> rfl)
    show H[qs 2]? = some (vp_cell (cy 2) (6, .inr (.inr (.inr (.inr (fun i => some (qs (5 + 2 * i))))))))
    rw [← e]
    exact h
  | 3, _ => exact hC_id rfl
  | 4, _ => exact hC_id rfl
  | 5, _ => exact hC_id rfl
  | 6, _ => exact hC_id rfl
  | 7, _ => exact hC_id rfl
  | 8, _ => exact hC_id rfl
  | 9, _ => exact hC_id rfl
  | 10, _ => exact hC_id rfl
  | 11, _ => exact hC_id rfl
  | 12, _ => exact hC_id rfl
  | 13, _ => exact hC_id rfl
  | 14, _ => exact hC_id rfl
  | 15, _ => exact hC_id rfl
  | 16, _ => exact hC_id rfl
  | 17, _ => exact hC_id rfl
  | 18, _ => exact hC_id rfl
  | 19, _ => exact hC_id rfl
  | 20, _ => exact hC_id rfl
  | 21, _ => exact hC_id rfl
  | 22, _ => exact hC_id rfl
  | 23, _ => exact hC_id rfl
  | 24, _ => exact hC_id rfl
  | 25, _ => exact hC_id rfl
  | 26, _ => exact hC_id rfl
  | 27, _ => exact hC_id rfl
  | 28, _ => exact hC_id rfl
  | 29, _ => exact hC_id rfl
  | 30, _ => exact hC_id rfl
  | 31, _ => exact hC_id rfl
  | 32, _ => exact hC_id rfl
  | 33, _ => exact hC_id rfl
  | 34, _ => exact hC_id rfl
  | 35, _ => exact hC_id rfl
  | 36, _ => exact hC_id rfl
  | 37, _ => exact hC_id rfl
  | k + 38, h => exact absurd h (by omega)
set_option maxRecDepth 20000 in
theorem stY_P {cy : Nat → ClassId} {qs : Nat → Nat} {D : va_G} {H : Heap} (hP : va_P D vwCl (wY0 cy qs) H) : va_P D vwCl (hC 22 qs (bY cy qs (fun _ => 0)) σY0) H := by
  refine hC_P hP (fun k hk => ?_)
  match k, hk with
  | 0, _ => exact hC_id rfl
  | 1, _ => exact hC_id rfl
  | 2, _ => exact hC_id rfl
  | 3, _ => exact hC_id rfl
  | 4, _ => exact hC_id rfl
  | 5, _ => exact hC_id rfl
  | 6, _ => exact hC_id rfl
  | 7, _ => exact hC_id rfl
  | 8, _ => exact hC_id rfl
  | 9, _ => exact hC_id rfl
  | 10, _ => exact hC_id rfl
  | 11, _ => exact hC_id rfl
  | 12, _ => exact hC_id rfl
  | 13, _ => exact hC_id rfl
  | 14, _ => exact hC_id rfl
  | 15, _ => exact hC_id rfl
  | 16, _ => exact hC_id rfl
  | 17, _ => exact hC_id rfl
  | 18, _ => exact hC_id rfl
  | 19, _ => exact hC_id rfl
  | 20, _ => exact hC_id rfl
  | 21, _ => exact hC_id rfl
  | k + 22, h => exact absurd h (by omega)
theorem stX_ad {cy : Nat → ClassId} {qs : Nat → Nat} {rv : Int32} {k : Nat} (hk : k < 38) : ∃ e, (wX0 cy qs rv)[k]? = some (qs k, e) := by
  match k, hk with
  | 0, _ => exact ⟨_, rfl⟩
  | 1, _ => exact ⟨_, rfl⟩
  | 2, _ => exact ⟨_, rfl⟩
  | 3, _ => exact ⟨_, rfl⟩
  | 4, _ => exact ⟨_, rfl⟩
  | 5, _ => exact ⟨_, rfl⟩
  | 6, _ => exact ⟨_, rfl⟩
  | 7, _ => exact ⟨_, rfl⟩
  | 8, _ => exact ⟨_, rfl⟩
  | 9, _ => exact ⟨_, rfl⟩
  | 10, _ => exact ⟨_, rfl⟩
  | 11, _ => exact ⟨_, rfl⟩
  | 12, _ => exact ⟨_, rfl⟩
  | 13, _ => exact ⟨_, rfl⟩
  | 14, _ => exact ⟨_, rfl⟩
  | 15, _ => exact ⟨_, rfl⟩
  | 16, _ => exact ⟨_, rfl⟩
  | 17, _ => exact ⟨_, rfl⟩
  | 18, _ => exact ⟨_, rfl⟩
  | 19, _ => exact ⟨_, rfl⟩
  | 20, _ => exact ⟨_, rfl⟩
  | 21, _ => exact ⟨_, rfl⟩
  | 22, _ => exact ⟨_, rfl⟩
  | 23, _ => exact ⟨_, rfl⟩
  | 24, _ => exact ⟨_, rfl⟩
  | 25, _ => exact ⟨_, rfl⟩
  | 26, _ => exact ⟨_, rfl⟩
  | 27, _ => exact ⟨_, rfl⟩
  | 28, _ => exact ⟨_, rfl⟩
  | 29, _ => exact ⟨_, rfl⟩
  | 30, _ => exact ⟨_, rfl⟩
  | 31, _ => exact ⟨_, rfl⟩
  | 32, _ => exact ⟨_, rfl⟩
  | 33, _ => exact ⟨_, rfl⟩
  | 34, _ => exact ⟨_, rfl⟩
  | 35, _ => exact ⟨_, rfl⟩
  | 36, _ => exact ⟨_, rfl⟩
  | 37, _ => exact ⟨_, rfl⟩
  | k + 38, h => exact absurd h (by omega)
theorem stY_ad {cy : Nat → ClassId} {qs : Nat → Nat} {k : Nat} (hk : k < 22) : ∃ e, (wY0 cy qs)[k]? = some (qs k, e) := by
  match k, hk with
  | 0, _ => exact ⟨_, rfl⟩
  | 1, _ => exact ⟨_, rfl⟩
  | 2, _ => exact ⟨_, rfl⟩
  | 3, _ => exact ⟨_, rfl⟩
  | 4, _ => exact ⟨_, rfl⟩
  | 5, _ => exact ⟨_, rfl⟩
  | 6, _ => exact ⟨_, rfl⟩
  | 7, _ => exact ⟨_, rfl⟩
  | 8, _ => exact ⟨_, rfl⟩
  | 9, _ => exact ⟨_, rfl⟩
  | 10, _ => exact ⟨_, rfl⟩
  | 11, _ => exact ⟨_, rfl⟩
  | 12, _ => exact ⟨_, rfl⟩
  | 13, _ => exact ⟨_, rfl⟩
  | 14, _ => exact ⟨_, rfl⟩
  | 15, _ => exact ⟨_, rfl⟩
  | 16, _ => exact ⟨_, rfl⟩
  | 17, _ => exact ⟨_, rfl⟩
  | 18, _ => exact ⟨_, rfl⟩
  | 19, _ => exact ⟨_, rfl⟩
  | 20, _ => exact ⟨_, rfl⟩
  | 21, _ => exact ⟨_, rfl⟩
  | k + 22, h => exact absurd h (by omega)
theorem stX_len {cy : Nat → ClassId} {qs : Nat → Nat} {rv : Int32} : (wX0 cy qs rv).length = 38 := rfl
theorem stY_len {cy : Nat → ClassId} {qs : Nat → Nat} : (wY0 cy qs).length = 22 := rfl
theorem st_ap {cy : Nat → ClassId} {qx qy : Nat → Nat} {rv : Int32} {o z0 : Nat} {e : va_E} (h : va_D (fun q => z0 ≤ q) ((wX0 cy qx rv ++ wY0 cy qy) ++ [(o, e)])) : hAp z0 qx qy o := by
  have gx : ∀ k, k < 38 → ∃ e1, ((wX0 cy qx rv ++ wY0 cy qy) ++ [(o, e)])[k]? = some (qx k, e1) := fun k hk => by
    obtain ⟨e1, h1⟩ := stX_ad (cy := cy) (qs := qx) (rv := rv) hk
    exact ⟨e1, by rw [List.getElem?_append_left (by rw [List.length_append, stX_len]; omega), List.getElem?_append_left (by rw [stX_len]; omega)]; exact h1⟩
  have gy : ∀ k, k < 22 → ∃ e1, ((wX0 cy qx rv ++ wY0 cy qy) ++ [(o, e)])[38 + k]? = some (qy k, e1) := fun k hk => by
    obtain ⟨e1, h1⟩ := stY_ad (cy := cy) (qs := qy) hk
    exact ⟨e1, by rw [List.getElem?_append_left (by rw [List.length_append, stX_len, stY_len]; omega), List.getElem?_append_right (by rw [stX_len]; omega), stX_len, show 38 + k - 38 = k by omega]; exact h1⟩
  have go : ((wX0 cy qx rv ++ wY0 cy qy) ++ [(o, e)])[60]? = some (o, e) := rfl
  refine ⟨fun i j hi hj q => ?_, fun i j hi hj q => ?_, fun i j hi hj q => ?_, fun i hi q => ?_, fun j hj q => ?_, fun i hi => ?_, fun j hj => ?_, ?_⟩
  · obtain ⟨_, h1⟩ := gx i hi
    obtain ⟨_, h2⟩ := gx j hj
    exact h.1 _ _ _ _ h1 h2 q
  · obtain ⟨_, h1⟩ := gy i hi
    obtain ⟨_, h2⟩ := gy j hj
    have := h.1 _ _ _ _ h1 h2 q
    omega
  · obtain ⟨_, h1⟩ := gx i hi
    obtain ⟨_, h2⟩ := gy j hj
    have := h.1 _ _ _ _ h1 h2 q
    omega
  · obtain ⟨_, h1⟩ := gx i hi
    have := h.1 _ _ _ _ go h1 q
    omega
  · obtain ⟨_, h1⟩ := gy j hj
    have := h.1 _ _ _ _ go h1 q
    omega
  · obtain ⟨_, h1⟩ := gx i hi
    exact h.2 _ _ h1
  · obtain ⟨_, h1⟩ := gy j hj
    exact h.2 _ _ h1
  · exact h.2 _ _ go
theorem stX_w {cy : Nat → ClassId} {h0 : Nat} {rv : Int32} {w1 : va_W} (h : ∃ q1 : Nat, ∃ q2 : Nat, ∃ q3 : Nat, ∃ q4 : Nat, ∃ q5 : Nat, ∃ q6 : Nat, ∃ q7 : Nat, ∃ q8 : Nat, ∃ q9 : Nat, ∃ q10 : Nat, ∃ q11 : Nat, ∃ q12 : Nat, ∃ q13 : Nat, ∃ q14 : Nat, ∃ q15 : Nat, ∃ q16 : Nat, ∃ q17 : Nat, ∃ q18 : Nat, ∃ q19 : Nat, ∃ q20 : Nat, ∃ q21 : Nat, ∃ q22 : Nat, ∃ q23 : Nat, ∃ q24 : Nat, ∃ q25 : Nat, ∃ q26 : Nat, ∃ q27 : Nat, ∃ q28 : Nat, ∃ q29 : Nat, ∃ q30 : Nat, ∃ q31 : Nat, ∃ q32 : Nat, ∃ q33 : Nat, ∃ q34 : Nat, ∃ q35 : Nat, ∃ q36 : Nat, ∃ q37 : Nat, w1 = [(h0, .inr (9, [.int (6 : Int32), .int (0 : Int32), .ref q19, .ref q1, .ref q17, .ref q21, .ref q24, .ref q31, .ref q35])), (q1, .inr (0, [.ref q2, .ref q3])), (q2, .inl (cy 2, 6, .inr (.inr (.inr (.inr (va_up (va_up (va_up (va_up (va_up (va_up (fun _ => none) ((0 : Int32)).toNatClampNeg (some q5)) ((1 : Int32)).toNatClampNeg (some q7)) ((2 : Int32)).toNatClampNeg (some q9)) ((3 : Int32)).toNatClampNeg (some q11)) ((4 : Int32)).toNatClampNeg (some q13)) ((5 : Int32)).toNatClampNeg (some q15))))))), (q3, .inr (2, [.ref q4, .int (0 : Int32), .int (0 : Int32), .int (0 : Int32), .int (0 : Int32), .int (0 : Int32), .int (0 : Int32), .int (0 : Int32)])), (q4, .inl (cy 0, 64, .inl (fun _ => 0))), (q5, .inr (2, [.ref q6, .int (0 : Int32), .int (0 : Int32), .int (0 : Int32), .int (0 : Int32), .int (0 : Int32), .int (0 : Int32), .int (0 : Int32)])), (q6, .inl (cy 0, 64, .inl (fun _ => 0))), (q7, .inr (2, [.ref q8, .int (0 : Int32), .int (0 : Int32), .int (0 : Int32), .int (0 : Int32), .int (0 : Int32), .int (0 : Int32), .int (0 : Int32)])), (q8, .inl (cy 0, 64, .inl (fun _ => 0))), (q9, .inr (2, [.ref q10, .int (0 : Int32), .int (0 : Int32), .int (0 : Int32), .int (0 : Int32), .int (0 : Int32), .int (0 : Int32), .int (0 : Int32)])), (q10, .inl (cy 0, 64, .inl (fun _ => 0))), (q11, .inr (2, [.ref q12, .int (0 : Int32), .int (0 : Int32), .int (0 : Int32), .int (0 : Int32), .int (0 : Int32), .int (0 : Int32), .int (0 : Int32)])), (q12, .inl (cy 0, 64, .inl (fun _ => 0))), (q13, .inr (2, [.ref q14, .int (0 : Int32), .int (0 : Int32), .int (0 : Int32), .int (0 : Int32), .int (0 : Int32), .int (0 : Int32), .int (0 : Int32)])), (q14, .inl (cy 0, 64, .inl (fun _ => 0))), (q15, .inr (2, [.ref q16, .int (0 : Int32), .int (0 : Int32), .int (0 : Int32), .int (0 : Int32), .int (0 : Int32), .int (0 : Int32), .int (0 : Int32)])), (q16, .inl (cy 0, 64, .inl (fun _ => 0))), (q17, .inr (7, [.ref q18, .int (0 : Int32), .int (0 : Int32), .int (0 : Int32)])), (q18, .inl (cy 0, 40320, .inl (fun _ => 0))), (q19, .inr (8, [.ref q20, .int (0 : Int32)])), (q20, .inl (cy 1, 500, .inl (fun _ => 0))), (q21, .inr (3, [.int (0 : Int32), .int (0 : Int32), .int (-1 : Int32), .ref q22, .int (0 : Int32), .int (0 : Int32), .int (0 : Int32), .int (0 : Int32), .int (0 : Int32), .int (0 : Int32), .int (0 : Int32), .int (0 : Int32), .int (0 : Int32), .int (0 : Int32)])), (q22, .inr (2, [.ref q23, .int (0 : Int32), .int (0 : Int32), .int (0 : Int32), .int (0 : Int32), .int (0 : Int32), .int (0 : Int32), .int (0 : Int32)])), (q23, .inl (cy 0, 64, .inl (fun _ => 0))), (q24, .inr (1, [.int (0 : Int32), .int (0 : Int32), .int (-1 : Int32), .ref q1, .ref q25, .ref q26, .int (0 : Int32), .int (0 : Int32), .int (0 : Int32), .int (1 : Int32), .int (-1 : Int32), .int (0 : Int32), .ref q27, .ref q28, .ref q29, .ref q30, .int (0 : Int32)])), (q25, .inl (cy 0, 500, .inl (fun _ => 0))), (q26, .inl (cy 0, 500, .inl (fun _ => 0))), (q27, .inl (cy 0, 5, .inl (fun _ => 0))), (q28, .inl (cy 0, 5, .inl (fun _ => 0))), (q29, .inl (cy 0, 5, .inl (fun _ => 0))), (q30, .inl (cy 0, 1000, .inl (fun _ => 0))), (q31, .inr (5, [.ref q1, .ref q17, .ref q32, .ref q33, .ref q34, .int (6 : Int32), .int (0 : Int32), .int (0 : Int32), .int rv, .int (0 : Int32), .int (-1 : Int32), .int (-1 : Int32)])), (q32, .inl (cy 0, 1000, .inl (fun _ => 0))), (q33, .inl (cy 0, 1000, .inl (fun _ => 0))), (q34, .inl (cy 0, 1000, .inl (fun _ => 0))), (q35, .inr (6, [.ref q17, .ref q36, .ref q37, .int (0 : Int32), .int (0 : Int32)])), (q36, .inl (cy 0, 200, .inl (fun _ => 0))), (q37, .inl (cy 0, 200, .inl (fun _ => 0)))]) : ∃ qs : Nat → Nat, qs 0 = h0 ∧ w1 = wX0 cy qs rv := by
  obtain ⟨q1, q2, q3, q4, q5, q6, q7, q8, q9, q10, q11, q12, q13, q14, q15, q16, q17, q18, q19, q20, q21, q22, q23, q24, q25, q26, q27, q28, q29, q30, q31, q32, q33, q34, q35, q36, q37, rfl⟩ := h
  exact ⟨fun k => [h0, q1, q2, q3, q4, q5, q6, q7, q8, q9, q10, q11, q12, q13, q14, q15, q16, q17, q18, q19, q20, q21, q22, q23, q24, q25, q26, q27, q28, q29, q30, q31, q32, q33, q34, q35, q36, q37].getD k 0, rfl, rfl⟩
theorem stY_w {cy : Nat → ClassId} {h0 : Nat} {w1 : va_W} (h : ∃ q1 : Nat, ∃ q2 : Nat, ∃ q3 : Nat, ∃ q4 : Nat, ∃ q5 : Nat, ∃ q6 : Nat, ∃ q7 : Nat, ∃ q8 : Nat, ∃ q9 : Nat, ∃ q10 : Nat, ∃ q11 : Nat, ∃ q12 : Nat, ∃ q13 : Nat, ∃ q14 : Nat, ∃ q15 : Nat, ∃ q16 : Nat, ∃ q17 : Nat, ∃ q18 : Nat, ∃ q19 : Nat, ∃ q20 : Nat, ∃ q21 : Nat, w1 = [(h0, .inr (10, [.int 0, .int (6 : Int32), .ref q1, .ref q2, .ref q3, .ref q4, .int 0, .ref q5, .int 0, .int 0, .int 0, .int 0, .int 0, .int 0, .ref q6, .ref q7, .int 0, .ref q8, .ref q9, .ref q10, .int 0, .ref q11, .ref q12, .ref q13, .ref q14, .ref q15, .ref q16, .int 0, .ref q17, .int 0, .int 0, .int 0, .ref q18, .int 0, .ref q19, .ref q20, .ref q21, .int 0])), (q1, .inl (cy 0, 6, .inl (fun _ => 0))), (q2, .inl (cy 0, 396, .inl (fun _ => 0))), (q3, .inl (cy 0, 1000, .inl (fun _ => 0))), (q4, .inl (cy 0, 1000, .inl (fun _ => 0))), (q5, .inl (cy 1, 500, .inl (fun _ => 0))), (q6, .inl (cy 0, 66, .inl (fun _ => 0))), (q7, .inl (cy 0, 500, .inl (fun _ => 0))), (q8, .inl (cy 0, 500, .inl (fun _ => 0))), (q9, .inl (cy 0, 500, .inl (fun _ => 0))), (q10, .inl (cy 0, 500, .inl (fun _ => 0))), (q11, .inl (cy 0, 8, .inl (fun _ => 0))), (q12, .inl (cy 3, 500, .inr (.inl (fun _ => 0)))), (q13, .inl (cy 0, 500, .inl (fun _ => 0))), (q14, .inl (cy 0, 8, .inl (fun _ => 0))), (q15, .inl (cy 0, 8, .inl (fun _ => 0))), (q16, .inl (cy 0, 4096, .inl (fun _ => 0))), (q17, .inl (cy 0, 40320, .inl (fun _ => 0))), (q18, .inl (cy 4, 9, .inl (fun _ => 0))), (q19, .inl (cy 0, 1608, .inl (fun _ => 0))), (q20, .inl (cy 0, 201, .inl (fun _ => 0))), (q21, .inl (cy 4, 40320, .inl (fun _ => 0)))]) : ∃ qs : Nat → Nat, qs 0 = h0 ∧ w1 = wY0 cy qs := by
  obtain ⟨q1, q2, q3, q4, q5, q6, q7, q8, q9, q10, q11, q12, q13, q14, q15, q16, q17, q18, q19, q20, q21, rfl⟩ := h
  exact ⟨fun k => [h0, q1, q2, q3, q4, q5, q6, q7, q8, q9, q10, q11, q12, q13, q14, q15, q16, q17, q18, q19, q20, q21].getD k 0, rfl, rfl⟩

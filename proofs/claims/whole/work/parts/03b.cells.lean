def fsX0 (ad : Nat → Nat) (ρ : Nat → Int32) : List Value := [.ref (ad 2), .ref (ad 3)]
def fsX1 (ad : Nat → Nat) (ρ : Nat → Int32) : List Value := [.int (ρ 0), .int (ρ 1), .int (ρ 2), .ref (ad 1), .ref (ad 25), .ref (ad 26), .int (ρ 6), .int (ρ 7), .int (ρ 8), .int (ρ 9), .int (ρ 10), .int (ρ 11), .ref (ad 27), .ref (ad 28), .ref (ad 29), .ref (ad 30), .int (ρ 16)]
def fsX2 (ad : Nat → Nat) (k : Nat) (ρ : Nat → Int32) : List Value := [.ref (ad (k + 1)), .int (ρ 1), .int (ρ 2), .int (ρ 3), .int (ρ 4), .int (ρ 5), .int (ρ 6), .int (ρ 7)]
def fsX3 (ad : Nat → Nat) (ρ : Nat → Int32) : List Value := [.int (ρ 0), .int (ρ 1), .int (ρ 2), .ref (ad 22), .int (ρ 4), .int (ρ 5), .int (ρ 6), .int (ρ 7), .int (ρ 8), .int (ρ 9), .int (ρ 10), .int (ρ 11), .int (ρ 12), .int (ρ 13)]
def fsX4 (ad : Nat → Nat) (ρ : Nat → Int32) : List Value := [.int (ρ 0), .int (ρ 1)]
def fsX5 (ad : Nat → Nat) (ρ : Nat → Int32) : List Value := [.ref (ad 1), .ref (ad 17), .ref (ad 32), .ref (ad 33), .ref (ad 34), .int (ρ 5), .int (ρ 6), .int (ρ 7), .int (ρ 8), .int (ρ 9), .int (ρ 10), .int (ρ 11)]
def fsX7 (ad : Nat → Nat) (ρ : Nat → Int32) : List Value := [.ref (ad 17), .ref (ad 36), .ref (ad 37), .int (ρ 3), .int (ρ 4)]
def fsX8 (ad : Nat → Nat) (ρ : Nat → Int32) : List Value := [.ref (ad 18), .int (ρ 1), .int (ρ 2), .int (ρ 3)]
def fsX9 (ad : Nat → Nat) (ρ : Nat → Int32) : List Value := [.ref (ad 20), .int (ρ 1)]
def fsX11 (ad : Nat → Nat) (ρ : Nat → Int32) : List Value := [.int (ρ 0), .int (ρ 1), .ref (ad 19), .ref (ad 1), .ref (ad 17), .ref (ad 21), .ref (ad 24), .ref (ad 31), .ref (ad 35)]
def fsX12 (ad : Nat → Nat) (ρ : Nat → Int32) : List Value := [.int (ρ 0), .int (ρ 1), .ref (ad 1), .ref (ad 2), .ref (ad 3), .ref (ad 4), .int (ρ 6), .ref (ad 5), .int (ρ 8), .int (ρ 9), .int (ρ 10), .int (ρ 11), .int (ρ 12), .int (ρ 13), .ref (ad 6), .ref (ad 7), .int (ρ 16), .ref (ad 8), .ref (ad 9), .ref (ad 10), .int (ρ 20), .ref (ad 11), .ref (ad 12), .ref (ad 13), .ref (ad 14), .ref (ad 15), .ref (ad 16), .int (ρ 27), .ref (ad 17), .int (ρ 29), .int (ρ 30), .int (ρ 31), .ref (ad 18), .int (ρ 33), .ref (ad 19), .ref (ad 20), .ref (ad 21), .int (ρ 37)]
/-- the class: what cell k holds, its numbers being ρ -/
def bX (cy : Nat → ClassId) (ad : Nat → Nat) : hCell := fun k ρ => match k with
  | 0 => .inr (9, fsX11 ad ρ)
  | 1 => .inr (0, fsX0 ad ρ)
  | 2 => .inl (cy 2, 6, .inr (.inr (.inr (.inr (fun i => some (ad (5 + 2 * i)))))))
  | 3 => .inr (2, fsX2 ad 3 ρ)
  | 4 => .inl (cy 0, 64, .inl ρ)
  | 5 => .inr (2, fsX2 ad 5 ρ)
  | 6 => .inl (cy 0, 64, .inl ρ)
  | 7 => .inr (2, fsX2 ad 7 ρ)
  | 8 => .inl (cy 0, 64, .inl ρ)
  | 9 => .inr (2, fsX2 ad 9 ρ)
  | 10 => .inl (cy 0, 64, .inl ρ)
  | 11 => .inr (2, fsX2 ad 11 ρ)
  | 12 => .inl (cy 0, 64, .inl ρ)
  | 13 => .inr (2, fsX2 ad 13 ρ)
  | 14 => .inl (cy 0, 64, .inl ρ)
  | 15 => .inr (2, fsX2 ad 15 ρ)
  | 16 => .inl (cy 0, 64, .inl ρ)
  | 17 => .inr (7, fsX8 ad ρ)
  | 18 => .inl (cy 0, 40320, .inl ρ)
  | 19 => .inr (8, fsX9 ad ρ)
  | 20 => .inl (cy 1, 500, .inl ρ)
  | 21 => .inr (3, fsX3 ad ρ)
  | 22 => .inr (2, fsX2 ad 22 ρ)
  | 23 => .inl (cy 0, 64, .inl ρ)
  | 24 => .inr (1, fsX1 ad ρ)
  | 25 => .inl (cy 0, 500, .inl ρ)
  | 26 => .inl (cy 0, 500, .inl ρ)
  | 27 => .inl (cy 0, 5, .inl ρ)
  | 28 => .inl (cy 0, 5, .inl ρ)
  | 29 => .inl (cy 0, 5, .inl ρ)
  | 30 => .inl (cy 0, 1000, .inl ρ)
  | 31 => .inr (5, fsX5 ad ρ)
  | 32 => .inl (cy 0, 1000, .inl ρ)
  | 33 => .inl (cy 0, 1000, .inl ρ)
  | 34 => .inl (cy 0, 1000, .inl ρ)
  | 35 => .inr (6, fsX7 ad ρ)
  | 36 => .inl (cy 0, 200, .inl ρ)
  | 37 => .inl (cy 0, 200, .inl ρ)
  | _ => .inr (4, fsX4 ad ρ)
/-- the reference -/
def bY (cy : Nat → ClassId) (ad : Nat → Nat) (w : Nat → Int64) : hCell := fun k ρ => match k with
  | 0 => .inr (10, fsX12 ad ρ)
  | 1 => .inl (cy 0, 6, .inl ρ)
  | 2 => .inl (cy 0, 396, .inl ρ)
  | 3 => .inl (cy 0, 1000, .inl ρ)
  | 4 => .inl (cy 0, 1000, .inl ρ)
  | 5 => .inl (cy 1, 500, .inl ρ)
  | 6 => .inl (cy 0, 66, .inl ρ)
  | 7 => .inl (cy 0, 500, .inl ρ)
  | 8 => .inl (cy 0, 500, .inl ρ)
  | 9 => .inl (cy 0, 500, .inl ρ)
  | 10 => .inl (cy 0, 500, .inl ρ)
  | 11 => .inl (cy 0, 8, .inl ρ)
  | 12 => .inl (cy 3, 500, .inr (.inl w))
  | 13 => .inl (cy 0, 500, .inl ρ)
  | 14 => .inl (cy 0, 8, .inl ρ)
  | 15 => .inl (cy 0, 8, .inl ρ)
  | 16 => .inl (cy 0, 4096, .inl ρ)
  | 17 => .inl (cy 0, 40320, .inl ρ)
  | 18 => .inl (cy 4, 9, .inl ρ)
  | 19 => .inl (cy 0, 1608, .inl ρ)
  | 20 => .inl (cy 0, 201, .inl ρ)
  | _ => .inl (cy 4, 40320, .inl ρ)
section HCELL
variable {cy : Nat → ClassId} {ad : Nat → Nat} {w : Nat → Int64}
theorem bX_0 (ρ : Nat → Int32) : bX cy ad 0 ρ = .inr (9, fsX11 ad ρ) := rfl
theorem bX_1 (ρ : Nat → Int32) : bX cy ad 1 ρ = .inr (0, fsX0 ad ρ) := rfl
theorem bX_2 (ρ : Nat → Int32) : bX cy ad 2 ρ = .inl (cy 2, 6, .inr (.inr (.inr (.inr (fun i => some (ad (5 + 2 * i))))))) := rfl
theorem bX_3 (ρ : Nat → Int32) : bX cy ad 3 ρ = .inr (2, fsX2 ad 3 ρ) := rfl
theorem bX_4 (ρ : Nat → Int32) : bX cy ad 4 ρ = .inl (cy 0, 64, .inl ρ) := rfl
theorem bX_5 (ρ : Nat → Int32) : bX cy ad 5 ρ = .inr (2, fsX2 ad 5 ρ) := rfl
theorem bX_6 (ρ : Nat → Int32) : bX cy ad 6 ρ = .inl (cy 0, 64, .inl ρ) := rfl
theorem bX_7 (ρ : Nat → Int32) : bX cy ad 7 ρ = .inr (2, fsX2 ad 7 ρ) := rfl
theorem bX_8 (ρ : Nat → Int32) : bX cy ad 8 ρ = .inl (cy 0, 64, .inl ρ) := rfl
theorem bX_9 (ρ : Nat → Int32) : bX cy ad 9 ρ = .inr (2, fsX2 ad 9 ρ) := rfl
theorem bX_10 (ρ : Nat → Int32) : bX cy ad 10 ρ = .inl (cy 0, 64, .inl ρ) := rfl
theorem bX_11 (ρ : Nat → Int32) : bX cy ad 11 ρ = .inr (2, fsX2 ad 11 ρ) := rfl
theorem bX_12 (ρ : Nat → Int32) : bX cy ad 12 ρ = .inl (cy 0, 64, .inl ρ) := rfl
theorem bX_13 (ρ : Nat → Int32) : bX cy ad 13 ρ = .inr (2, fsX2 ad 13 ρ) := rfl
theorem bX_14 (ρ : Nat → Int32) : bX cy ad 14 ρ = .inl (cy 0, 64, .inl ρ) := rfl
theorem bX_15 (ρ : Nat → Int32) : bX cy ad 15 ρ = .inr (2, fsX2 ad 15 ρ) := rfl
theorem bX_16 (ρ : Nat → Int32) : bX cy ad 16 ρ = .inl (cy 0, 64, .inl ρ) := rfl
theorem bX_17 (ρ : Nat → Int32) : bX cy ad 17 ρ = .inr (7, fsX8 ad ρ) := rfl
theorem bX_18 (ρ : Nat → Int32) : bX cy ad 18 ρ = .inl (cy 0, 40320, .inl ρ) := rfl
theorem bX_19 (ρ : Nat → Int32) : bX cy ad 19 ρ = .inr (8, fsX9 ad ρ) := rfl
theorem bX_20 (ρ : Nat → Int32) : bX cy ad 20 ρ = .inl (cy 1, 500, .inl ρ) := rfl
theorem bX_21 (ρ : Nat → Int32) : bX cy ad 21 ρ = .inr (3, fsX3 ad ρ) := rfl
theorem bX_22 (ρ : Nat → Int32) : bX cy ad 22 ρ = .inr (2, fsX2 ad 22 ρ) := rfl
theorem bX_23 (ρ : Nat → Int32) : bX cy ad 23 ρ = .inl (cy 0, 64, .inl ρ) := rfl
theorem bX_24 (ρ : Nat → Int32) : bX cy ad 24 ρ = .inr (1, fsX1 ad ρ) := rfl
theorem bX_25 (ρ : Nat → Int32) : bX cy ad 25 ρ = .inl (cy 0, 500, .inl ρ) := rfl
theorem bX_26 (ρ : Nat → Int32) : bX cy ad 26 ρ = .inl (cy 0, 500, .inl ρ) := rfl
theorem bX_27 (ρ : Nat → Int32) : bX cy ad 27 ρ = .inl (cy 0, 5, .inl ρ) := rfl
theorem bX_28 (ρ : Nat → Int32) : bX cy ad 28 ρ = .inl (cy 0, 5, .inl ρ) := rfl
theorem bX_29 (ρ : Nat → Int32) : bX cy ad 29 ρ = .inl (cy 0, 5, .inl ρ) := rfl
theorem bX_30 (ρ : Nat → Int32) : bX cy ad 30 ρ = .inl (cy 0, 1000, .inl ρ) := rfl
theorem bX_31 (ρ : Nat → Int32) : bX cy ad 31 ρ = .inr (5, fsX5 ad ρ) := rfl
theorem bX_32 (ρ : Nat → Int32) : bX cy ad 32 ρ = .inl (cy 0, 1000, .inl ρ) := rfl
theorem bX_33 (ρ : Nat → Int32) : bX cy ad 33 ρ = .inl (cy 0, 1000, .inl ρ) := rfl
theorem bX_34 (ρ : Nat → Int32) : bX cy ad 34 ρ = .inl (cy 0, 1000, .inl ρ) := rfl
theorem bX_35 (ρ : Nat → Int32) : bX cy ad 35 ρ = .inr (6, fsX7 ad ρ) := rfl
theorem bX_36 (ρ : Nat → Int32) : bX cy ad 36 ρ = .inl (cy 0, 200, .inl ρ) := rfl
theorem bX_37 (ρ : Nat → Int32) : bX cy ad 37 ρ = .inl (cy 0, 200, .inl ρ) := rfl
theorem bX_38 (ρ : Nat → Int32) : bX cy ad 38 ρ = .inr (4, fsX4 ad ρ) := rfl
theorem bY_0 (ρ : Nat → Int32) : bY cy ad w 0 ρ = .inr (10, fsX12 ad ρ) := rfl
theorem bY_1 (ρ : Nat → Int32) : bY cy ad w 1 ρ = .inl (cy 0, 6, .inl ρ) := rfl
theorem bY_2 (ρ : Nat → Int32) : bY cy ad w 2 ρ = .inl (cy 0, 396, .inl ρ) := rfl
theorem bY_3 (ρ : Nat → Int32) : bY cy ad w 3 ρ = .inl (cy 0, 1000, .inl ρ) := rfl
theorem bY_4 (ρ : Nat → Int32) : bY cy ad w 4 ρ = .inl (cy 0, 1000, .inl ρ) := rfl
theorem bY_5 (ρ : Nat → Int32) : bY cy ad w 5 ρ = .inl (cy 1, 500, .inl ρ) := rfl
theorem bY_6 (ρ : Nat → Int32) : bY cy ad w 6 ρ = .inl (cy 0, 66, .inl ρ) := rfl
theorem bY_7 (ρ : Nat → Int32) : bY cy ad w 7 ρ = .inl (cy 0, 500, .inl ρ) := rfl
theorem bY_k8 (ρ : Nat → Int32) : bY cy ad w 8 ρ = .inl (cy 0, 500, .inl ρ) := rfl
theorem bY_9 (ρ : Nat → Int32) : bY cy ad w 9 ρ = .inl (cy 0, 500, .inl ρ) := rfl
theorem bY_10 (ρ : Nat → Int32) : bY cy ad w 10 ρ = .inl (cy 0, 500, .inl ρ) := rfl
theorem bY_11 (ρ : Nat → Int32) : bY cy ad w 11 ρ = .inl (cy 0, 8, .inl ρ) := rfl
theorem bY_12 (ρ : Nat → Int32) : bY cy ad w 12 ρ = .inl (cy 3, 500, .inr (.inl w)) := rfl
theorem bY_13 (ρ : Nat → Int32) : bY cy ad w 13 ρ = .inl (cy 0, 500, .inl ρ) := rfl
theorem bY_14 (ρ : Nat → Int32) : bY cy ad w 14 ρ = .inl (cy 0, 8, .inl ρ) := rfl
theorem bY_15 (ρ : Nat → Int32) : bY cy ad w 15 ρ = .inl (cy 0, 8, .inl ρ) := rfl
theorem bY_16 (ρ : Nat → Int32) : bY cy ad w 16 ρ = .inl (cy 0, 4096, .inl ρ) := rfl
theorem bY_17 (ρ : Nat → Int32) : bY cy ad w 17 ρ = .inl (cy 0, 40320, .inl ρ) := rfl
theorem bY_18 (ρ : Nat → Int32) : bY cy ad w 18 ρ = .inl (cy 4, 9, .inl ρ) := rfl
theorem bY_19 (ρ : Nat → Int32) : bY cy ad w 19 ρ = .inl (cy 0, 1608, .inl ρ) := rfl
theorem bY_20 (ρ : Nat → Int32) : bY cy ad w 20 ρ = .inl (cy 0, 201, .inl ρ) := rfl
theorem bY_21 (ρ : Nat → Int32) : bY cy ad w 21 ρ = .inl (cy 4, 40320, .inl ρ) := rfl
/-- the methods -/
def hMe (k : Nat) : Prop := k = 3 ∨ k = 5 ∨ k = 7 ∨ k = 9 ∨ k = 11 ∨ k = 13 ∨ k = 15 ∨ k = 22
theorem hMe_lt {k N : Nat} (h : hMe k) (hN : 38 ≤ N) : k < N := by unfold hMe at h; omega
theorem bX_me {k : Nat} (h : hMe k) (ρ : Nat → Int32) : bX cy ad k ρ = .inr (2, fsX2 ad k ρ) := by rcases h with rfl | rfl | rfl | rfl | rfl | rfl | rfl | rfl <;> rfl
theorem hMe_of {i : Int32} (h : vp_in i 6) : hMe (5 + 2 * i.toNatClampNeg) := by
  have : i.toNatClampNeg < 6 := Nat.not_le.mp fun q => h (Or.inr q)
  unfold hMe; omega
theorem hMe_3 : hMe 3 := Or.inl rfl
theorem hMe_22 : hMe 22 := by unfold hMe; omega
/-- the arrays of ints, and how long they are -/
def hLn (k : Nat) : Nat := match k with
  | 4 => 64
  | 6 => 64
  | 8 => 64
  | 10 => 64
  | 12 => 64
  | 14 => 64
  | 16 => 64
  | 18 => 40320
  | 23 => 64
  | 25 => 500
  | 26 => 500
  | 27 => 5
  | 28 => 5
  | 29 => 5
  | 30 => 1000
  | 32 => 1000
  | 33 => 1000
  | 34 => 1000
  | 36 => 200
  | 37 => 200
  | _ => 0
def hAi (k : Nat) : Prop := k = 4 ∨ k = 6 ∨ k = 8 ∨ k = 10 ∨ k = 12 ∨ k = 14 ∨ k = 16 ∨ k = 18 ∨ k = 23 ∨ k = 25 ∨ k = 26 ∨ k = 27 ∨ k = 28 ∨ k = 29 ∨ k = 30 ∨ k = 32 ∨ k = 33 ∨ k = 34 ∨ k = 36 ∨ k = 37
theorem hAi_lt {k N : Nat} (h : hAi k) (hN : 38 ≤ N) : k < N := by unfold hAi at h; omega
theorem bX_ai {k : Nat} (h : hAi k) (ρ : Nat → Int32) : bX cy ad k ρ = .inl (cy 0, hLn k, .inl ρ) := by rcases h with rfl | rfl | rfl | rfl | rfl | rfl | rfl | rfl | rfl | rfl | rfl | rfl | rfl | rfl | rfl | rfl | rfl | rfl | rfl | rfl <;> rfl
theorem hAi_me {k : Nat} (h : hMe k) : hAi (k + 1) := by unfold hMe at h; unfold hAi; omega
theorem hLn_me {k : Nat} (h : hMe k) : hLn (k + 1) = 64 := by rcases h with rfl | rfl | rfl | rfl | rfl | rfl | rfl | rfl <;> rfl
theorem hAi_4 : hAi 4 := by unfold hAi; omega
theorem hAi_6 : hAi 6 := by unfold hAi; omega
theorem hAi_8 : hAi 8 := by unfold hAi; omega
theorem hAi_10 : hAi 10 := by unfold hAi; omega
theorem hAi_12 : hAi 12 := by unfold hAi; omega
theorem hAi_14 : hAi 14 := by unfold hAi; omega
theorem hAi_16 : hAi 16 := by unfold hAi; omega
theorem hAi_18 : hAi 18 := by unfold hAi; omega
theorem hAi_23 : hAi 23 := by unfold hAi; omega
theorem hAi_25 : hAi 25 := by unfold hAi; omega
theorem hAi_26 : hAi 26 := by unfold hAi; omega
theorem hAi_27 : hAi 27 := by unfold hAi; omega
theorem hAi_28 : hAi 28 := by unfold hAi; omega
theorem hAi_29 : hAi 29 := by unfold hAi; omega
theorem hAi_30 : hAi 30 := by unfold hAi; omega
theorem hAi_32 : hAi 32 := by unfold hAi; omega
theorem hAi_33 : hAi 33 := by unfold hAi; omega
theorem hAi_34 : hAi 34 := by unfold hAi; omega
theorem hAi_36 : hAi 36 := by unfold hAi; omega
theorem hAi_37 : hAi 37 := by unfold hAi; omega
/-- the reference's rows of eight -/
def h8_ (k : Nat) : Prop := k = 14 ∨ k = 15
theorem h8_lt {k N : Nat} (h : h8_ k) (hN : 22 ≤ N) : k < N := by unfold h8_ at h; omega
theorem bY_8 {k : Nat} (h : h8_ k) (ρ : Nat → Int32) : bY cy ad w k ρ = .inl (cy 0, 8, .inl ρ) := by rcases h with rfl | rfl <;> rfl
theorem h8_14 : h8_ 14 := Or.inl rfl
theorem h8_15 : h8_ 15 := Or.inr rfl
theorem bY_8r {k : Nat} (h : h8_ k) : ∀ ρ : Nat → Int32, bY cy ad w k ρ = .inl (cy 0, 8, .inl ρ) := fun ρ => bY_8 h ρ
theorem pu1_0 (ρ : Nat → Int32) (v : Int32) : fsX1 ad (upd ρ 0 v) = (fsX1 ad ρ).set 0 (.int v) := rfl
theorem pu1_1 (ρ : Nat → Int32) (v : Int32) : fsX1 ad (upd ρ 1 v) = (fsX1 ad ρ).set 1 (.int v) := rfl
theorem pu1_2 (ρ : Nat → Int32) (v : Int32) : fsX1 ad (upd ρ 2 v) = (fsX1 ad ρ).set 2 (.int v) := rfl
theorem pu1_6 (ρ : Nat → Int32) (v : Int32) : fsX1 ad (upd ρ 6 v) = (fsX1 ad ρ).set 6 (.int v) := rfl
theorem pu1_7 (ρ : Nat → Int32) (v : Int32) : fsX1 ad (upd ρ 7 v) = (fsX1 ad ρ).set 7 (.int v) := rfl
theorem pu1_8 (ρ : Nat → Int32) (v : Int32) : fsX1 ad (upd ρ 8 v) = (fsX1 ad ρ).set 8 (.int v) := rfl
theorem pu1_9 (ρ : Nat → Int32) (v : Int32) : fsX1 ad (upd ρ 9 v) = (fsX1 ad ρ).set 9 (.int v) := rfl
theorem pu1_10 (ρ : Nat → Int32) (v : Int32) : fsX1 ad (upd ρ 10 v) = (fsX1 ad ρ).set 10 (.int v) := rfl
theorem pu1_11 (ρ : Nat → Int32) (v : Int32) : fsX1 ad (upd ρ 11 v) = (fsX1 ad ρ).set 11 (.int v) := rfl
theorem pu1_16 (ρ : Nat → Int32) (v : Int32) : fsX1 ad (upd ρ 16 v) = (fsX1 ad ρ).set 16 (.int v) := rfl
theorem pu2_1 (k : Nat) (ρ : Nat → Int32) (v : Int32) : fsX2 ad k (upd ρ 1 v) = (fsX2 ad k ρ).set 1 (.int v) := rfl
theorem pu2_2 (k : Nat) (ρ : Nat → Int32) (v : Int32) : fsX2 ad k (upd ρ 2 v) = (fsX2 ad k ρ).set 2 (.int v) := rfl
theorem pu2_3 (k : Nat) (ρ : Nat → Int32) (v : Int32) : fsX2 ad k (upd ρ 3 v) = (fsX2 ad k ρ).set 3 (.int v) := rfl
theorem pu2_4 (k : Nat) (ρ : Nat → Int32) (v : Int32) : fsX2 ad k (upd ρ 4 v) = (fsX2 ad k ρ).set 4 (.int v) := rfl
theorem pu2_5 (k : Nat) (ρ : Nat → Int32) (v : Int32) : fsX2 ad k (upd ρ 5 v) = (fsX2 ad k ρ).set 5 (.int v) := rfl
theorem pu2_6 (k : Nat) (ρ : Nat → Int32) (v : Int32) : fsX2 ad k (upd ρ 6 v) = (fsX2 ad k ρ).set 6 (.int v) := rfl
theorem pu2_7 (k : Nat) (ρ : Nat → Int32) (v : Int32) : fsX2 ad k (upd ρ 7 v) = (fsX2 ad k ρ).set 7 (.int v) := rfl
theorem pu3_0 (ρ : Nat → Int32) (v : Int32) : fsX3 ad (upd ρ 0 v) = (fsX3 ad ρ).set 0 (.int v) := rfl
theorem pu3_1 (ρ : Nat → Int32) (v : Int32) : fsX3 ad (upd ρ 1 v) = (fsX3 ad ρ).set 1 (.int v) := rfl
theorem pu3_2 (ρ : Nat → Int32) (v : Int32) : fsX3 ad (upd ρ 2 v) = (fsX3 ad ρ).set 2 (.int v) := rfl
theorem pu3_4 (ρ : Nat → Int32) (v : Int32) : fsX3 ad (upd ρ 4 v) = (fsX3 ad ρ).set 4 (.int v) := rfl
theorem pu3_5 (ρ : Nat → Int32) (v : Int32) : fsX3 ad (upd ρ 5 v) = (fsX3 ad ρ).set 5 (.int v) := rfl
theorem pu3_6 (ρ : Nat → Int32) (v : Int32) : fsX3 ad (upd ρ 6 v) = (fsX3 ad ρ).set 6 (.int v) := rfl
theorem pu3_7 (ρ : Nat → Int32) (v : Int32) : fsX3 ad (upd ρ 7 v) = (fsX3 ad ρ).set 7 (.int v) := rfl
theorem pu3_8 (ρ : Nat → Int32) (v : Int32) : fsX3 ad (upd ρ 8 v) = (fsX3 ad ρ).set 8 (.int v) := rfl
theorem pu3_9 (ρ : Nat → Int32) (v : Int32) : fsX3 ad (upd ρ 9 v) = (fsX3 ad ρ).set 9 (.int v) := rfl
theorem pu3_10 (ρ : Nat → Int32) (v : Int32) : fsX3 ad (upd ρ 10 v) = (fsX3 ad ρ).set 10 (.int v) := rfl
theorem pu3_11 (ρ : Nat → Int32) (v : Int32) : fsX3 ad (upd ρ 11 v) = (fsX3 ad ρ).set 11 (.int v) := rfl
theorem pu3_12 (ρ : Nat → Int32) (v : Int32) : fsX3 ad (upd ρ 12 v) = (fsX3 ad ρ).set 12 (.int v) := rfl
theorem pu3_13 (ρ : Nat → Int32) (v : Int32) : fsX3 ad (upd ρ 13 v) = (fsX3 ad ρ).set 13 (.int v) := rfl
theorem pu4_0 (ρ : Nat → Int32) (v : Int32) : fsX4 ad (upd ρ 0 v) = (fsX4 ad ρ).set 0 (.int v) := rfl
theorem pu4_1 (ρ : Nat → Int32) (v : Int32) : fsX4 ad (upd ρ 1 v) = (fsX4 ad ρ).set 1 (.int v) := rfl
theorem pu5_5 (ρ : Nat → Int32) (v : Int32) : fsX5 ad (upd ρ 5 v) = (fsX5 ad ρ).set 5 (.int v) := rfl
theorem pu5_6 (ρ : Nat → Int32) (v : Int32) : fsX5 ad (upd ρ 6 v) = (fsX5 ad ρ).set 6 (.int v) := rfl
theorem pu5_7 (ρ : Nat → Int32) (v : Int32) : fsX5 ad (upd ρ 7 v) = (fsX5 ad ρ).set 7 (.int v) := rfl
theorem pu5_8 (ρ : Nat → Int32) (v : Int32) : fsX5 ad (upd ρ 8 v) = (fsX5 ad ρ).set 8 (.int v) := rfl
theorem pu5_9 (ρ : Nat → Int32) (v : Int32) : fsX5 ad (upd ρ 9 v) = (fsX5 ad ρ).set 9 (.int v) := rfl
theorem pu5_10 (ρ : Nat → Int32) (v : Int32) : fsX5 ad (upd ρ 10 v) = (fsX5 ad ρ).set 10 (.int v) := rfl
theorem pu5_11 (ρ : Nat → Int32) (v : Int32) : fsX5 ad (upd ρ 11 v) = (fsX5 ad ρ).set 11 (.int v) := rfl
theorem pu7_3 (ρ : Nat → Int32) (v : Int32) : fsX7 ad (upd ρ 3 v) = (fsX7 ad ρ).set 3 (.int v) := rfl
theorem pu7_4 (ρ : Nat → Int32) (v : Int32) : fsX7 ad (upd ρ 4 v) = (fsX7 ad ρ).set 4 (.int v) := rfl
theorem pu8_1 (ρ : Nat → Int32) (v : Int32) : fsX8 ad (upd ρ 1 v) = (fsX8 ad ρ).set 1 (.int v) := rfl
theorem pu8_2 (ρ : Nat → Int32) (v : Int32) : fsX8 ad (upd ρ 2 v) = (fsX8 ad ρ).set 2 (.int v) := rfl
theorem pu8_3 (ρ : Nat → Int32) (v : Int32) : fsX8 ad (upd ρ 3 v) = (fsX8 ad ρ).set 3 (.int v) := rfl
theorem pu9_1 (ρ : Nat → Int32) (v : Int32) : fsX9 ad (upd ρ 1 v) = (fsX9 ad ρ).set 1 (.int v) := rfl
theorem pu11_0 (ρ : Nat → Int32) (v : Int32) : fsX11 ad (upd ρ 0 v) = (fsX11 ad ρ).set 0 (.int v) := rfl
theorem pu11_1 (ρ : Nat → Int32) (v : Int32) : fsX11 ad (upd ρ 1 v) = (fsX11 ad ρ).set 1 (.int v) := rfl
theorem pu12_0 (ρ : Nat → Int32) (v : Int32) : fsX12 ad (upd ρ 0 v) = (fsX12 ad ρ).set 0 (.int v) := rfl
theorem pu12_1 (ρ : Nat → Int32) (v : Int32) : fsX12 ad (upd ρ 1 v) = (fsX12 ad ρ).set 1 (.int v) := rfl
theorem pu12_6 (ρ : Nat → Int32) (v : Int32) : fsX12 ad (upd ρ 6 v) = (fsX12 ad ρ).set 6 (.int v) := rfl
theorem pu12_8 (ρ : Nat → Int32) (v : Int32) : fsX12 ad (upd ρ 8 v) = (fsX12 ad ρ).set 8 (.int v) := rfl
theorem pu12_9 (ρ : Nat → Int32) (v : Int32) : fsX12 ad (upd ρ 9 v) = (fsX12 ad ρ).set 9 (.int v) := rfl
theorem pu12_10 (ρ : Nat → Int32) (v : Int32) : fsX12 ad (upd ρ 10 v) = (fsX12 ad ρ).set 10 (.int v) := rfl
theorem pu12_11 (ρ : Nat → Int32) (v : Int32) : fsX12 ad (upd ρ 11 v) = (fsX12 ad ρ).set 11 (.int v) := rfl
theorem pu12_12 (ρ : Nat → Int32) (v : Int32) : fsX12 ad (upd ρ 12 v) = (fsX12 ad ρ).set 12 (.int v) := rfl
theorem pu12_13 (ρ : Nat → Int32) (v : Int32) : fsX12 ad (upd ρ 13 v) = (fsX12 ad ρ).set 13 (.int v) := rfl
theorem pu12_16 (ρ : Nat → Int32) (v : Int32) : fsX12 ad (upd ρ 16 v) = (fsX12 ad ρ).set 16 (.int v) := rfl
theorem pu12_20 (ρ : Nat → Int32) (v : Int32) : fsX12 ad (upd ρ 20 v) = (fsX12 ad ρ).set 20 (.int v) := rfl
theorem pu12_27 (ρ : Nat → Int32) (v : Int32) : fsX12 ad (upd ρ 27 v) = (fsX12 ad ρ).set 27 (.int v) := rfl
theorem pu12_29 (ρ : Nat → Int32) (v : Int32) : fsX12 ad (upd ρ 29 v) = (fsX12 ad ρ).set 29 (.int v) := rfl
theorem pu12_30 (ρ : Nat → Int32) (v : Int32) : fsX12 ad (upd ρ 30 v) = (fsX12 ad ρ).set 30 (.int v) := rfl
theorem pu12_31 (ρ : Nat → Int32) (v : Int32) : fsX12 ad (upd ρ 31 v) = (fsX12 ad ρ).set 31 (.int v) := rfl
theorem pu12_33 (ρ : Nat → Int32) (v : Int32) : fsX12 ad (upd ρ 33 v) = (fsX12 ad ρ).set 33 (.int v) := rfl
theorem pu12_37 (ρ : Nat → Int32) (v : Int32) : fsX12 ad (upd ρ 37 v) = (fsX12 ad ρ).set 37 (.int v) := rfl
end HCELL
theorem hM_x {α : Sort _} {b : α} {f : α → Prop} (h : hM_ b f) : ∃ J : α, J = b ∧ f J := ⟨b, rfl, h⟩

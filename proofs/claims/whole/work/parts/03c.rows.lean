section HROW2
variable {p : Program} {l : Launch} {e : Env} {R : Room} {s : State} {m : MethodId} {args : Array Value} {below : List Frame} {meth : Method} {c : Code} {H : Heap} {locs : List Loc} {cells slots : Nat} {Q : State → Prop}
variable {cc : ByteArray} {pc : Nat} {ls : Array Slot} {rest : List Value} {D : va_G} {cy : Nat → ClassId} {N : Nat} {ad : Nat → Nat} {σ : hSt} {H0 : Heap} {w : Nat → Int64}
theorem hC_w {k : Nat} (hk : k ≠ 12) (ρ : Nat → Int32) (w2 : Nat → Int64) : bY cy ad w k ρ = bY cy ad w2 k ρ := by
  unfold bY
  split <;> first | rfl | exact absurd rfl hk
theorem hC_setw (hN : 22 ≤ N) (w2 : Nat → Int64) : (hC N ad (bY cy ad w) σ).set 12 (ad 12, .inl (cy 3, 500, .inr (.inl w2))) = hC N ad (bY cy ad w2) σ := by
  apply List.ext_getElem?
  intro i
  by_cases hi : i = 12
  · subst hi
    rw [hC_get (by omega), List.getElem?_set_self (by rw [hC_len]; omega)]
    rfl
  · rw [List.getElem?_set_ne (fun h => hi h.symm)]
    by_cases hN2 : i < N
    · rw [hC_get hN2, hC_get hN2, hC_w hi _ w2]
    · simp [hC, hN2]
theorem hw_lald (hexec : p.tables.exec = Jvm.exec) (hb : c.code = cc) (hK : va_K D vwCl (hty cy) s) (hP : va_P D vwCl (hC N ad (bY cy ad w) σ) H) (hN : 22 ≤ N) {i : Int32} (hin : vp_in i 500) (hdg : decode cc pc = .ok (.laload, 1))
    (kk : W p l e R s m args below meth c H locs cells slots Q (F0 m (pc + 1) ls (.long (w i.toNatClampNeg) :: rest))) : W p l e R s m args below meth c H locs cells slots Q (F0 m pc ls (.int i :: .ref (ad 12) :: rest)) :=
  va_lald hexec hb hK hP 12 3 (by rw [hC_get (by omega)]; rfl) rfl hin hdg kk
theorem hw_last (hexec : p.tables.exec = Jvm.exec) (hb : c.code = cc) (hK : va_K D vwCl (hty cy) s) (hJ0 : hJ N ad) (hP : va_P D vwCl (hC N ad (bY cy ad w) σ) H) (hS : va_S (hA N ad H0.size) H0 H locs) (hN : 22 ≤ N) {i : Int32} {x : Int64} (hin : vp_in i 500) (hdg : decode cc pc = .ok (.lastore, 1))
    (kk : ∀ (H1 : Heap) (locs1 : List Loc), va_P D vwCl (hC N ad (bY cy ad (vp_updL w i.toNatClampNeg x)) σ) H1 → va_S (hA N ad H0.size) H0 H1 locs1 → W p l e R s m args below meth c H1 locs1 cells slots Q (F0 m (pc + 1) ls rest)) : W p l e R s m args below meth c H locs cells slots Q (F0 m pc ls (.long x :: .int i :: .ref (ad 12) :: rest)) :=
  va_last hexec hb hK hP (hD_of hJ0) hS 12 3 (by rw [hC_get (by omega)]; rfl) rfl hin hdg (fun H1 locs1 h1 _ h3 => kk H1 locs1 (by rw [hC_setw hN] at h1; exact h1) h3)
end HROW2
theorem hsw_out {x : Int32} {lo hi : Int} (hlo : -2147483648 ≤ lo ∧ hi < 2147483648) (h : ∀ z : Int, lo ≤ z → z ≤ hi → ¬ x = Int32.ofInt z) : x.toInt < lo ∨ hi < x.toInt := by
  rcases Int.lt_or_le x.toInt lo with h1 | h1
  · exact Or.inl h1
  · rcases Int.lt_or_le hi x.toInt with h2 | h2
    · exact Or.inr h2
    · exact absurd (Int32.ofInt_toInt x).symm (h _ h1 h2)

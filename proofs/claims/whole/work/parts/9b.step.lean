/-! One call of the law; the two objects at their start. -/
theorem law_step {B : Nat} {σ τ : hSt} {w f : Nat → Int64} (hB : B ≤ 40000000) (h : RI B σ τ) (a : Nat → Int32) : wp_law a σ τ w f (fun σ1 τ1 _ => RI (B + 64001) σ1 τ1) := by
  have h' : RI (B + 64001) σ τ := h.mono (by omega)
  unfold wp_law
  intro x7 hx7
  clear hx7
  refine ⟨fun _ => c_feed h', fun _ => ⟨fun _ => c_end h', fun _ => ⟨fun _ => c_stage h', fun _ => ⟨fun _ => c_method h', fun _ => ⟨fun _ => c_compose h', fun _ => ⟨fun _ => c_fault h', fun _ => ⟨fun _ => c_lead h', fun _ => ⟨fun _ => c_head h', fun _ => ⟨fun _ => c_course h', fun _ => ⟨fun _ => c_line h', fun _ => ⟨fun _ => c_falseHeads hB h, fun _ => ⟨fun _ => c_falseHead hB h, fun _ => ⟨fun _ => c_touch hB h, fun _ => ⟨fun _ => c_called h', fun _ => ⟨fun _ => c_row h', fun _ => ⟨fun _ => c_music h', fun _ => ⟨fun _ => c_whole hB h, fun _ => ⟨fun _ => c_find hB h, fun _ => ⟨fun _ => c_count h', fun _ => h'⟩⟩⟩⟩⟩⟩⟩⟩⟩⟩⟩⟩⟩⟩⟩⟩⟩⟩⟩
theorem RI_0 : RI 0 (σX0 (nI (encR 6 (fun i => i)))) σY0 := by
  refine ⟨6, fun _ => 0, fun _ _ => 255, 0, fun _ => 0, fun _ => 0, 0, by decide, by decide, ⟨rfl, rfl, rfl, rfl, rfl⟩, ⟨Nat.zero_le _, rfl, rfl, fun i hi => absurd hi (Nat.not_lt_zero i)⟩, fun m hm => ⟨vM0 (by decide), ⟨?_, fun z => absurd z (Nat.lt_irrefl 0)⟩, rfl, fun k _ z => absurd z (Nat.lt_irrefl 0)⟩, Nat.zero_le _, fun k hk => absurd hk (Nat.not_lt_zero k), ⟨rfl, rfl, rfl, rfl, fun k hk => absurd hk (Nat.not_lt_zero k)⟩, ⟨rfl, fun k hk => absurd hk (Nat.not_lt_zero k)⟩, Or.inl rfl, 0, Nat.le_refl 0, rfl, fun r _ => ⟨0, Nat.le_refl 0, rfl⟩⟩
  rcases i6l hm with rfl | rfl | rfl | rfl | rfl | rfl <;> rfl

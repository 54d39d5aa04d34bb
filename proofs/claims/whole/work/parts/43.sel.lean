/-! The law's words, out of the tables; two of them by the privacy of Text.take. -/
theorem sel_sub {C : String} {y y1 y2 : MethodName} {s : State} {args : Array Value} {n : Nat} (hy : y.cls ≠ "java/lang/invoke/MethodHandle" ∧ y.cls ≠ "java/lang/invoke/VarHandle")
    (hins : (Cond.instantiable C n).before args s = true) (hpriv : (Cond.privateMethod y).before args s = true) (hinst : (Cond.instanceMethod y).before args s = true)
    (he : y2.cls = y.cls) (hsel2 : (Cond.selects C y1 y2).before args s = true) : (Cond.selects C y y).before args s = true := by
  obtain ⟨c, k, hc, hk, -, hniab, -, -⟩ := Cond.instantiable_spec hins
  obtain ⟨mk, methM, hnamed, hmethM, -, -⟩ := Cond.instanceMethod_spec hinst
  have hfound : s.methodFound? y.cls y.name y.desc = some mk := State.methodFound?_of_named hnamed hy
  have hsel : selectMethod {} s.vm c mk = .method mk := selectMethod_private hmethM (Cond.privateMethod_at hpriv mk methM hnamed hmethM)
  simp only [Cond.before, Cond.holds, Cond.value, hc] at hsel2
  have hcls : s.vm.findClass y.cls = some mk.cls := findClass_of_methodNamed hnamed
  simp only [Cond.before, Cond.holds, Cond.value, hc, hfound, hnamed, hsel, hk]
  cases h2 : s.methodFound? y1.cls y1.name y1.desc with
  | none => rw [h2] at hsel2; simp at hsel2
  | some r2 =>
    cases h3 : s.methodNamed? y2 with
    | none => rw [h2, h3] at hsel2; simp at hsel2
    | some m2 =>
      have hcls2 : s.vm.findClass y2.cls = some m2.cls := findClass_of_methodNamed h3
      rw [he, hcls] at hcls2
      have e9 : mk.cls = m2.cls := Option.some.inj hcls2
      simp only [h2, h3] at hsel2
      cases h4 : selectMethod {} s.vm c r2 with
      | method m9 =>
        simp only [h4] at hsel2
        simp only [beq_iff_eq, Option.some.injEq, Bool.and_eq_true] at hsel2
        have e8 := hsel2.2
        rw [← e9] at e8
        simp [e8]
      | _ => simp [h4] at hsel2

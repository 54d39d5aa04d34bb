def R_law : String := "BellTowerLaw"
def lw_P (b : Addr) (xs : List Int32) (args : Array Value) (s : State) : Prop := args = #[.ref b] ∧ s.IntsAt b xs ∧ xs.length ≤ 3072 ∧ (Jvm.Cond.and given_1 narrow_1).before args s = true
def lw_Q (_ : Array Value) (s : State) (o : Outcome) (t : State) : Prop := o = .returned (some (.int 1)) ∧ Framed s o t [] 601024 7293034
def lw_Z (below : List Frame) (a : Array Value) (s : State) : State → Prop := fun t => ∃ o, t.status = .running ∧ Ended t below o ∧ lw_Q a s o t
/-- the law's own end, with 1 on the stack, nothing written that was there before, its room as the claim has it -/
theorem lw_ret {p : Program} {l : Launch} {e : Env} {s : State} {m : MethodId} {below : List Frame} {meth : Method} {c : Code} {b : Nat} (hx : p.tables.exec = Jvm.exec) (hb : c.code = code) (hr : meth.sig.returnType = ret) (hlocks : meth.locks = false) {pc : Nat} {H : Heap} {ls : Array Slot} (hdg : decode code pc = .ok (.ireturn, 1)) : W p l e room_1 s m #[Value.ref b] below meth c H [] 601024 7293034 (lw_Z below #[Value.ref b] s) (F0 m pc ls [.int 1]) := by
  intro T hT X
  obtain ⟨fs, hret, hrun, hended, hW, hframe⟩ := X.leave (v := some (.int 1)) (hlocks := hlocks) (fun h => by rw [hr] at h; cases h)
  have hmeth' : T.vm.method? m = some meth := X.method'
  refine ⟨T.setFrames fs, ?_, .returned (some (.int 1)), hrun, hended, rfl, ⟨_, rfl⟩, hW, hframe⟩
  jvm_step X.here [X.here.top, hx, hb, hdg, hmeth', hr, ret, narrow_b1]
  (try refine ⟨rfl, ?_⟩); (try refine ⟨rfl, ?_⟩)
  first | (intro acts; rw [hret _ acts rfl rfl rfl]) | rw [hret _ _ rfl rfl rfl]
  exact Steps.refl _
/-- what holds at the law's entry: the machine, the code, the tables' words (any of lw_tbl by 'hts w (by decide +kernel)'), the script of L ints xs at the cell b, what the Statement gives of the start (any of its parts by flat_of_before) -/
def lw_At (p : Program) (s : State) (m : MethodId) (meth : Method) (c : Code) (b L : Nat) (xs : Nat → Int32) : Prop :=
  p.tables.exec = Jvm.exec ∧ c.code = code ∧ meth.sig.returnType = ret ∧ c.maxLocals = 7 ∧ s.vm.findClass R_law = some m.cls ∧ (∀ w ∈ lw_tbl, w.before #[Value.ref b] s = true) ∧ va_X b L xs s s.heap ∧ b < s.heap.size ∧ meth.locks = false ∧ (Jvm.Cond.and given_1 narrow_1).before #[Value.ref b] s = true
/-! The law: the class's world, the reference's, the cell of one long, side by side. -/
def hLW (D : va_G) (cy : Nat → ClassId) (adX adY : Nat → Nat) (o : Nat) (σ τ : hSt) (w f : Nat → Int64) (H : Heap) : Prop := va_P D vwCl (hC 38 adX (bX cy adX) σ) H ∧ va_P D vwCl (hC 22 adY (bY cy adY w) τ) H ∧ va_at D vwCl (o, .inl (cy 3, 1, .inr (.inl f))) H
def hAp (z0 : Nat) (adX adY : Nat → Nat) (o : Nat) : Prop := hJ 38 adX ∧ hJ 22 adY ∧ (∀ i j, i < 38 → j < 22 → adX i ≠ adY j) ∧ (∀ i, i < 38 → o ≠ adX i) ∧ (∀ j, j < 22 → o ≠ adY j) ∧ (∀ i, i < 38 → z0 ≤ adX i) ∧ (∀ j, j < 22 → z0 ≤ adY j) ∧ z0 ≤ o
section HLAW
variable {p : Program} {l : Launch} {e : Env} {R : Room} {s : State} {m : MethodId} {args : Array Value} {below : List Frame} {meth : Method} {c : Code} {H : Heap} {locs : List Loc} {cells slots : Nat} {Q : State → Prop}
variable {cc : ByteArray} {pc : Nat} {ls : Array Slot} {rest : List Value} {D : va_G} {cy : Nat → ClassId} {adX adY : Nat → Nat} {σ τ : hSt} {w f : Nat → Int64} {o : Nat} {z0 mc ms : Nat} {st0 : List Value} {a : Array Value}
theorem hk_P {A : Nat → Prop} {ws : va_W} {H1 : Heap} (hP : va_P D vwCl ws H) (hA1 : ∀ (k : Nat) (q : Nat × va_E), ws[k]? = some q → ¬ A q.1) (hk : ∀ q : Nat, q < H.size → ¬ A q → H1[q]? = H[q]?) : va_P D vwCl ws H1 := hP.kept (fun k x hx => hk x.1 ((hP k x hx).lt) (hA1 k x hx))
theorem hk_out {N : Nat} {ad : Nat → Nat} {q sz : Nat} (hlt : q < sz) (hq : ∀ i, i < N → q ≠ ad i) : ¬ hA N ad sz q := fun h => by
  rcases h with ⟨k, hk, e⟩ | h
  · exact hq k hk e
  · omega
theorem hA_z {N : Nat} {ad : Nat → Nat} {q sz : Nat} (hz : ∀ i, i < N → z0 ≤ ad i) (hs : z0 ≤ sz) (h : hA N ad sz q) : z0 ≤ q := by
  rcases h with ⟨k, hk, rfl⟩ | h
  · exact hz k hk
  · omega
/-- a call of the class's -/
theorem lx_ki {S : Type} {p1 : S → hSt} {post : Int32 → S → Prop} (hap : hAp z0 adX adY o) (hW : hLW D cy adX adY o σ τ w f H) (hr : va_Run p l e R s m args below meth c H locs cells slots mc ms (F0 m pc ls st0) rest (va_Qi post (hE D (fun u => hC 38 adX (bX cy adX) (p1 u))) (hA 38 adX H.size) a) (hA 38 adX H.size)) (hz : z0 ≤ H.size) (hS : va_S (fun q => z0 ≤ q) s.heap H locs)
    (kk : ∀ (r : Int32) (u : S) (H1 : Heap) (locs1 : List Loc), post r u → hLW D cy adX adY o (p1 u) τ w f H1 → z0 ≤ H1.size → va_S (fun q => z0 ≤ q) s.heap H1 locs1 → W p l e R s m args below meth c H1 locs1 (cells + mc) (slots + ms) Q (F0 m (pc + 3) ls (.int r :: rest))) : W p l e R s m args below meth c H locs cells slots Q (F0 m pc ls st0) := by
  obtain ⟨-, -, hxy, hox, -, hzx, -, -⟩ := hap
  refine va_calli hr hS (fun q _ h => hA_z hzx hz h) (fun q h => hA_z hzx hz h) (fun r u t H1 locs1 ht _ hp hB hz1 hk1 hS1 => kk r u H1 locs1 hp ⟨by rw [← ht]; exact hB, hk_P hW.2.1 (fun k q hq => ?_) hk1, hW.2.2.kept (hk1 o hW.2.2.lt (hk_out hW.2.2.lt hox))⟩ (Nat.le_trans hz hz1) hS1)
  have hl := (hW.2.1 k q hq).lt
  obtain ⟨h1, rfl⟩ := hC_inv hq
  exact hk_out hl (fun i hi e => hxy i k hi h1 e.symm)
/-- a call of the reference's -/
theorem ly_ki {S : Type} {p1 : S → hSt} {p2 : S → Nat → Int64} {post : Int32 → S → Prop} (hap : hAp z0 adX adY o) (hW : hLW D cy adX adY o σ τ w f H) (hr : va_Run p l e R s m args below meth c H locs cells slots 0 0 (F0 m pc ls st0) rest (va_Qi post (hE D (fun u => hC 22 adY (bY cy adY (p2 u)) (p1 u))) (hA 22 adY H.size) a) (hA 22 adY H.size)) (hz : z0 ≤ H.size) (hS : va_S (fun q => z0 ≤ q) s.heap H locs)
    (kk : ∀ (r : Int32) (u : S) (H1 : Heap) (locs1 : List Loc), post r u → hLW D cy adX adY o σ (p1 u) (p2 u) f H1 → z0 ≤ H1.size → va_S (fun q => z0 ≤ q) s.heap H1 locs1 → W p l e R s m args below meth c H1 locs1 cells slots Q (F0 m (pc + 3) ls (.int r :: rest))) : W p l e R s m args below meth c H locs cells slots Q (F0 m pc ls st0) := by
  obtain ⟨-, -, hxy, -, hoy, -, hzy, -⟩ := hap
  refine va_calli hr hS (fun q _ h => hA_z hzy hz h) (fun q h => hA_z hzy hz h) (fun r u t H1 locs1 ht _ hp hB hz1 hk1 hS1 => kk r u H1 locs1 hp ⟨hk_P hW.1 (fun k q hq => ?_) hk1, by rw [← ht]; exact hB, hW.2.2.kept (hk1 o hW.2.2.lt (hk_out hW.2.2.lt hoy))⟩ (Nat.le_trans hz hz1) hS1)
  have hl := (hW.1 k q hq).lt
  obtain ⟨h1, rfl⟩ := hC_inv hq
  exact hk_out hl (fun i hi e => hxy k i h1 hi e)
/-- a call of a helper's -/
theorem lh_ki {post : Int32 → hSt × (Nat → Int64) → Prop} (hap : hAp z0 adX adY o) (hW : hLW D cy adX adY o σ τ w f H) (hr : va_Run p l e R s m args below meth c H locs cells slots mc ms (F0 m pc ls st0) rest (va_Qi post (hEH D cy adX o) (hAo adX o H.size) a) (hAo adX o H.size)) (hz : z0 ≤ H.size) (hS : va_S (fun q => z0 ≤ q) s.heap H locs)
    (kk : ∀ (r : Int32) (σ1 : hSt) (f1 : Nat → Int64) (H1 : Heap) (locs1 : List Loc), post r (σ1, f1) → hLW D cy adX adY o σ1 τ w f1 H1 → z0 ≤ H1.size → va_S (fun q => z0 ≤ q) s.heap H1 locs1 → W p l e R s m args below meth c H1 locs1 (cells + mc) (slots + ms) Q (F0 m (pc + 3) ls (.int r :: rest))) : W p l e R s m args below meth c H locs cells slots Q (F0 m pc ls st0) := by
  obtain ⟨-, -, hxy, -, hoy, hzx, -, hzo⟩ := hap
  have hin : ∀ q, hAo adX o H.size q → z0 ≤ q := fun q h => h.elim (fun h => hA_z hzx hz h) (fun h => by rw [h]; exact hzo)
  refine va_calli hr hS (fun q _ h => hin q h) (fun q h => hin q h) (fun r u t H1 locs1 ht _ hp hB hz1 hk1 hS1 => kk r u.1 u.2 H1 locs1 hp ⟨by rw [← ht]; exact hB.1, hk_P hW.2.1 (fun k q hq => ?_) hk1, by rw [← ht]; exact hB.2⟩ (Nat.le_trans hz hz1) hS1)
  have hl := (hW.2.1 k q hq).lt
  obtain ⟨h1, rfl⟩ := hC_inv hq
  rintro (h | h)
  · exact hk_out hl (fun i hi e => hxy i k hi h1 e.symm) h
  · exact hoy k h1 h.symm
theorem lw_lald (hexec : p.tables.exec = Jvm.exec) (hb : c.code = cc) (hK : va_K D vwCl (hty cy) s) (hW : hLW D cy adX adY o σ τ w f H) (hdg : decode cc pc = .ok (.laload, 1))
    (kk : W p l e R s m args below meth c H locs cells slots Q (F0 m (pc + 1) ls (.long (f 0) :: rest))) : W p l e R s m args below meth c H locs cells slots Q (F0 m pc ls (.int 0 :: .ref o :: rest)) := by
  have hP1 : va_P D vwCl [(o, .inl (cy 3, 1, .inr (.inl f)))] H := fun k q h => by
    have hz : k < 1 := (List.getElem?_eq_some_iff.mp h).1
    rw [show k = 0 by omega] at h
    cases h
    exact hW.2.2
  exact va_lald (ws := [(o, .inl (cy 3, 1, .inr (.inl f)))]) hexec hb hK hP1 0 3 rfl rfl (vp_in_iff.mpr (by decide)) hdg kk
theorem lw_sld (hexec : p.tables.exec = Jvm.exec) (hb : c.code = cc) {b L j k : Nat} {xs : Nat → Int32} (hX : va_X b L xs s s.heap) (hbl : b < s.heap.size) (hS : va_S (fun q => s.heap.size ≤ q) s.heap H locs) {i : Int32} (hi : i = nI (6 * j + k)) (hk : 6 * j + k < L) (hL : L < 2 ^ 31) (hdg : decode cc pc = .ok (.iaload, 1))
    (kk : W p l e R s m args below meth c H locs cells slots Q (F0 m (pc + 1) ls (.int (xs (6 * j + k)) :: rest))) : W p l e R s m args below meth c H locs cells slots Q (F0 m pc ls (.int i :: .ref b :: rest)) := by
  subst hi
  refine va_sld hexec hb hX hbl (Nat.not_le.mpr hbl) hS (vp_in_nI hk hL) hdg ?_
  rw [nI_clamp (by omega)]
  exact kk
end HLAW
def wp_law (a : Nat → Int32) (σ τ : hSt) (w f : Nat → Int64) (I : hSt → hSt → (Nat → Int64) → Prop) : Prop :=
  (∀ x7 : Int32, x7 = ((a 0) &&& (31 : Int32)) → ((x7 = (0 : Int32) → (wp_X11_feed (a 1) (a 2) (a 3) (a 4) (a 5) σ (fun r101 σ102 => (wp_X12_feed (a 1) (a 2) (a 3) (a 4) (a 5) τ w (fun r103 τ104 => ((r101 = r103 → (I σ102 τ104 w)) ∧ (¬ r101 = r103 → False))))))) ∧ (¬ x7 = (0 : Int32) → ((x7 = (1 : Int32) → (wp_X11_end (a 1) σ (fun r201 σ202 => (wp_X12_end (a 1) τ w (fun r203 τ204 => ((r201 = r203 → (I σ202 τ204 w)) ∧ (¬ r201 = r203 → False))))))) ∧ (¬ x7 = (1 : Int32) → ((x7 = (2 : Int32) → (wp_X11_stage (a 1) σ (fun r301 σ302 => (wp_X12_stage (a 1) τ w (fun r303 τ304 => ((r301 = r303 → (I σ302 τ304 w)) ∧ (¬ r301 = r303 → False))))))) ∧ (¬ x7 = (2 : Int32) → ((x7 = (3 : Int32) → (wp_L_method (a 1) σ f (fun r401 σ402 f403 => (wp_X12_method (a 1) τ w (fun r404 τ405 => (wp_X12_thrown τ405 w (fun r407 => ((r407 = r401 → ((¬ r401 = 0 → (I σ402 τ405 w)) ∧ (r401 = 0 → (((lg_cmp (f403 0) ((r404).toInt64)) = 0 → (I σ402 τ405 w)) ∧ (¬ (lg_cmp (f403 0) ((r404).toInt64)) = 0 → False))))) ∧ (¬ r407 = r401 → False))))))))) ∧ (¬ x7 = (3 : Int32) → ((x7 = (4 : Int32) → (wp_X11_compose σ (fun r501 σ502 => (wp_X12_compose τ w (fun r503 τ504 w505 => ((r501 = r503 → (I σ502 τ504 w505)) ∧ (¬ r501 = r503 → False))))))) ∧ (¬ x7 = (4 : Int32) → ((x7 = (5 : Int32) → (wp_X11_fault σ (fun r601 => (wp_X12_fault τ w (fun r603 τ604 => ((r601 = r603 → (I σ τ604 w)) ∧ (¬ r601 = r603 → False))))))) ∧ (¬ x7 = (5 : Int32) → ((x7 = (6 : Int32) → (wp_L_lead (a 1) (a 2) σ f (fun r701 σ702 f703 => (wp_X12_lead (a 1) (a 2) τ w (fun r704 τ705 => (wp_X12_thrown τ705 w (fun r707 => ((r707 = r701 → ((¬ r701 = 0 → (I σ702 τ705 w)) ∧ (r701 = 0 → (((lg_cmp (f703 0) ((r704).toInt64)) = 0 → (I σ702 τ705 w)) ∧ (¬ (lg_cmp (f703 0) ((r704).toInt64)) = 0 → False))))) ∧ (¬ r707 = r701 → False))))))))) ∧ (¬ x7 = (6 : Int32) → ((x7 = (7 : Int32) → (wp_L_head (a 1) (a 2) σ f (fun r801 σ802 f803 => (wp_X12_head (a 1) (a 2) τ w (fun r804 τ805 => (wp_X12_thrown τ805 w (fun r807 => ((r807 = r801 → ((¬ r801 = 0 → (I σ802 τ805 w)) ∧ (r801 = 0 → (((lg_cmp (f803 0) ((r804).toInt64)) = 0 → (I σ802 τ805 w)) ∧ (¬ (lg_cmp (f803 0) ((r804).toInt64)) = 0 → False))))) ∧ (¬ r807 = r801 → False))))))))) ∧ (¬ x7 = (7 : Int32) → ((x7 = (8 : Int32) → (wp_L_course (a 1) σ f (fun r901 σ902 f903 => (wp_X12_course (a 1) τ w (fun r904 τ905 => (wp_X12_thrown τ905 w (fun r907 => ((r907 = r901 → ((¬ r901 = 0 → (I σ902 τ905 w)) ∧ (r901 = 0 → (((lg_cmp (f903 0) ((r904).toInt64)) = 0 → (I σ902 τ905 w)) ∧ (¬ (lg_cmp (f903 0) ((r904).toInt64)) = 0 → False))))) ∧ (¬ r907 = r901 → False))))))))) ∧ (¬ x7 = (8 : Int32) → ((x7 = (9 : Int32) → (wp_L_line (a 1) (a 2) (a 3) σ f (fun r1001 σ1002 f1003 => (wp_X12_line (a 1) (a 2) (a 3) τ w (fun r1004 τ1005 => (wp_X12_thrown τ1005 w (fun r1007 => ((r1007 = r1001 → ((¬ r1001 = 0 → (I σ1002 τ1005 w)) ∧ (r1001 = 0 → (((lg_cmp (f1003 0) ((r1004).toInt64)) = 0 → (I σ1002 τ1005 w)) ∧ (¬ (lg_cmp (f1003 0) ((r1004).toInt64)) = 0 → False))))) ∧ (¬ r1007 = r1001 → False))))))))) ∧ (¬ x7 = (9 : Int32) → ((x7 = (10 : Int32) → (wp_L_falseHeads (a 1) (a 2) σ f (fun r1101 σ1102 f1103 => (wp_X12_falseHeads (a 1) (a 2) τ w (fun r1104 τ1105 => (wp_X12_thrown τ1105 w (fun r1107 => ((r1107 = r1101 → ((¬ r1101 = 0 → (I σ1102 τ1105 w)) ∧ (r1101 = 0 → (((lg_cmp (f1103 0) ((r1104).toInt64)) = 0 → (I σ1102 τ1105 w)) ∧ (¬ (lg_cmp (f1103 0) ((r1104).toInt64)) = 0 → False))))) ∧ (¬ r1107 = r1101 → False))))))))) ∧ (¬ x7 = (10 : Int32) → ((x7 = (11 : Int32) → (wp_L_falseHead (a 1) (a 2) (a 3) σ f (fun r1201 σ1202 f1203 => (wp_X12_falseHead (a 1) (a 2) (a 3) τ w (fun r1204 τ1205 => (wp_X12_thrown τ1205 w (fun r1207 => ((r1207 = r1201 → ((¬ r1201 = 0 → (I σ1202 τ1205 w)) ∧ (r1201 = 0 → (((lg_cmp (f1203 0) ((r1204).toInt64)) = 0 → (I σ1202 τ1205 w)) ∧ (¬ (lg_cmp (f1203 0) ((r1204).toInt64)) = 0 → False))))) ∧ (¬ r1207 = r1201 → False))))))))) ∧ (¬ x7 = (11 : Int32) → ((x7 = (12 : Int32) → (wp_X11_touch (a 1) σ (fun r1301 σ1302 => (wp_X12_touch (a 1) τ w (fun r1303 τ1304 w1305 => ((r1301 = r1303 → (I σ1302 τ1304 w1305)) ∧ (¬ r1301 = r1303 → False))))))) ∧ (¬ x7 = (12 : Int32) → ((x7 = (13 : Int32) → (wp_L_called (a 1) (a 2) σ f (fun r1401 σ1402 f1403 => (wp_X12_called (a 1) (a 2) τ w (fun r1404 τ1405 => (wp_X12_thrown τ1405 w (fun r1407 => ((r1407 = r1401 → ((¬ r1401 = 0 → (I σ1402 τ1405 w)) ∧ (r1401 = 0 → (((lg_cmp (f1403 0) ((r1404).toInt64)) = 0 → (I σ1402 τ1405 w)) ∧ (¬ (lg_cmp (f1403 0) ((r1404).toInt64)) = 0 → False))))) ∧ (¬ r1407 = r1401 → False))))))))) ∧ (¬ x7 = (13 : Int32) → ((x7 = (14 : Int32) → (wp_L_row (a 1) σ f (fun r1501 σ1502 f1503 => (wp_X12_row (a 1) τ w (fun r1504 τ1505 => (wp_X12_thrown τ1505 w (fun r1507 => ((r1507 = r1501 → ((¬ r1501 = 0 → (I σ1502 τ1505 w)) ∧ (r1501 = 0 → (((lg_cmp (f1503 0) ((r1504).toInt64)) = 0 → (I σ1502 τ1505 w)) ∧ (¬ (lg_cmp (f1503 0) ((r1504).toInt64)) = 0 → False))))) ∧ (¬ r1507 = r1501 → False))))))))) ∧ (¬ x7 = (14 : Int32) → ((x7 = (15 : Int32) → (wp_X11_music σ (fun r1601 σ1602 => (wp_X12_music τ w (fun r1603 τ1604 => ((r1601 = r1603 → (I σ1602 τ1604 w)) ∧ (¬ r1601 = r1603 → False))))))) ∧ (¬ x7 = (15 : Int32) → ((x7 = (16 : Int32) → (wp_X11_whole σ (fun r1701 σ1702 => (wp_X12_whole τ w (fun r1703 τ1704 w1705 => ((r1701 = r1703 → (I σ1702 τ1704 w1705)) ∧ (¬ r1701 = r1703 → False))))))) ∧ (¬ x7 = (16 : Int32) → ((x7 = (17 : Int32) → (wp_L_find (a 1) (a 2) (a 3) σ f (fun r1801 σ1802 f1803 => (wp_X12_find (a 1) (a 2) (a 3) τ w (fun r1804 τ1805 => (wp_X12_thrown τ1805 w (fun r1807 => ((r1807 = r1801 → ((¬ r1801 = 0 → (I σ1802 τ1805 w)) ∧ (r1801 = 0 → (((lg_cmp (f1803 0) ((r1804).toInt64)) = 0 → (I σ1802 τ1805 w)) ∧ (¬ (lg_cmp (f1803 0) ((r1804).toInt64)) = 0 → False))))) ∧ (¬ r1807 = r1801 → False))))))))) ∧ (¬ x7 = (17 : Int32) → ((x7 = (18 : Int32) → (wp_X11_count (a 1) σ (fun r1901 => (wp_X12_count (a 1) τ w (fun r1903 τ1904 => ((r1901 = r1903 → (I σ τ1904 w)) ∧ (¬ r1901 = r1903 → False))))))) ∧ (¬ x7 = (18 : Int32) → (I σ τ w))))))))))))))))))))))))))))))))))))))))
section HLAW2
variable {p : Program} {l : Launch} {e : Env} {R : Room} {s : State} {m : MethodId} {args : Array Value} {below : List Frame} {meth : Method} {c : Code} {H : Heap} {locs : List Loc} {cells slots : Nat} {Q : State → Prop}
variable {D : va_G} {cy : Nat → ClassId} {adX adY : Nat → Nat} {σ τ : hSt} {w f : Nat → Int64} {o : Nat}
theorem lw_preH {As : List Value} (hK : va_K D vwCl (hty cy) s) (hN1 : hN_ s) (hT : hTh (fun q => s.heap.size ≤ q) s) (hNc : va_Nc "java/util/NoSuchElementException" "java/lang/IllegalArgumentException" s) (hap : hAp s.heap.size adX adY o) (hW : hLW D cy adX adY o σ τ w f H) (hz : s.heap.size ≤ H.size) (hS : va_S (fun q => s.heap.size ≤ q) s.heap H locs) : PreS s H (va_Pc As (hBH D cy (hC 38 adX (bX cy adX) σ) (hAo adX o H.size) o f H.size)) As :=
  ⟨hBH_blind, fun U hU hWm => ⟨rfl, ⟨⟨by rw [hU], by rw [hU]; exact hW.1, va_K.moved hWm.alike hK, hN1.warm hWm⟩, hT.warm hWm (fun q h => h.elim (fun h => hA_z hap.2.2.2.2.2.1 hz h) (fun h => by rw [h]; exact hap.2.2.2.2.2.2.2)) (fun a h1 h2 => by rw [hU]; exact hS.2.1 a h1 h2)⟩, by rw [hU]; exact hW.2.2, va_Nc.moved hWm.alike hNc⟩⟩
theorem lw_preM (hK : va_K D vwCl (hty cy) s) (hN1 : hN_ s) (hO : va_AO "BellTower$Method" s) (hW : hLW D cy adX adY o σ τ w f H) : PreV s H RX11 (adX 0) (va_Pc [.ref (adX 0)] (hBO D cy (hC 38 adX (bX cy adX) σ) H.size)) [] :=
  ⟨hBO_blind, va_recv (q := (RX11, TX11, 9)) hK hW.1 rfl (q0 := 0) (fs := fsX11 adX (σ 0)) (by rw [hC_get (by decide)]; rfl), fun U hU hWm => ⟨rfl, ⟨by rw [hU], by rw [hU]; exact hW.1, va_K.moved hWm.alike hK, hN1.warm hWm⟩, va_AO.moved hWm.alike hO⟩⟩
end HLAW2
theorem lw_gt {i L : Nat} (hi : i ≤ 3072) (hL : L ≤ 3072) (h : ¬ (Int32.ofNat L - 6) < nI i) : i + 6 ≤ L := by
  rcases Nat.lt_or_ge L (i + 6) with z | z
  · refine absurd ?_ h
    rw [Int32.lt_iff_toInt_lt, show (Int32.ofNat L - 6) = nI L - nI 6 from rfl, pk_sub_toInt (by omega) (by decide), nI_toInt (by omega)]
    omega
  · exact z
set_option maxHeartbeats 16000000 in
set_option maxRecDepth 100000 in
/-- the law's loop: j calls done -/
theorem law_loop {p : Program} {l : Launch} {e : Env} {s : State} {m : MethodId} {below : List Frame} {meth : Method} {c : Code} {D : va_G} {cy : Nat → ClassId} {adX adY : Nat → Nat} {o b L : Nat} {xs : Nat → Int32} (hfl : l.stackTraces = false) (hL : L ≤ 3072) (hx : p.tables.exec = Jvm.exec) (hb : c.code = code) (hr : meth.sig.returnType = ret) (hml : c.maxLocals = 7) (hown : s.vm.findClass RL = some m.cls) (hts : ∀ w ∈ wzL_law, w.before #[Value.ref b] s = true) (hX : va_X b L xs s s.heap) (hbl : b < s.heap.size) (hlocks : meth.locks = false) (hK : va_K D vwCl (hty cy) s) (hN1 : hN_ s) (hAO : va_AO "BellTower$Method" s) (hT : hTh (fun q => s.heap.size ≤ q) s) (hNc : va_Nc "java/util/NoSuchElementException" "java/lang/IllegalArgumentException" s) (hap : hAp s.heap.size adX adY o)
    (I : Nat → hSt → hSt → (Nat → Int64) → Prop) (hstep : ∀ (j : Nat) (σ τ : hSt) (w f : Nat → Int64) (a : Nat → Int32), j < 512 → I j σ τ w → wp_law a σ τ w f (I (j + 1))) :
    ∀ (n j : Nat), 6 * j ≤ L → L < 6 * (j + n) → ∀ (x4 : Int32) (σ τ : hSt) (w f : Nat → Int64) (H : Heap) (locs : List Loc) (ls : Array Slot), x4 = nI (6 * j) → I j σ τ w → hLW D cy adX adY o σ τ w f H → s.heap.size ≤ H.size → va_S (fun q => s.heap.size ≤ q) s.heap H locs → lv_has ls 7 [(0, .ref b), (1, .ref (adX 0)), (2, .ref (adY 0)), (3, .ref o), (4, .int x4)] → W p l e room_1 s m #[Value.ref b] below meth c H locs (100 + 3 * j) (140000 + 18 * j) (lw_Z below #[Value.ref b] s) (F0 m 23 ls []) := by
  intro n
  induction n with
  | zero => intro j h1 h2; exact absurd h2 (by omega)
  | succ n ih =>
    intro j h1 h2 x4 σ τ w f H locs ls hx4 hI hW hz hS hl
    have hL31 : L < 2 ^ 31 := by omega
    refine lv_iload hx hb dL_law_23 (lv_at hl 4 rfl) ?_
    refine lv_aload_n hx hb dL_law_25 rfl (lv_at hl 0 rfl) ?_
    refine va_slen hx hb hX hbl (Nat.not_le.mpr hbl) hS dL_law_26 ?_
    refine lv_bipush (v := 6) hx hb dL_law_27 (by decide) ?_
    refine lv_isub hx hb dL_law_29 ?_
    refine lv_icmp_gt (tgt := 1043) hx hb dL_law_30 (by decide) (fun c0 => ?_) (fun c0 => ?_)
    · refine lv_iconst (v := 1) hx hb dL_law_1043 (by decide) ?_
      refine va_forget (fun q hq => hS.2.2 q hq) ?_
      refine W.widen (k := 601024) (n := 7293034) (by omega) (by omega) ?_
      exact lw_ret hx hb hr hlocks dL_law_1044
    · have hj6 : 6 * j + 6 ≤ L := lw_gt (by omega) hL (by rw [← hx4]; exact c0)
      have hx4_0 : x4 = nI (6 * j + 0) := hx4
      have hx4_1 : x4 + (1 : Int32) = nI (6 * j + 1) := by rw [hx4]; exact nI_add (6 * j) 1
      have hx4_2 : x4 + (2 : Int32) = nI (6 * j + 2) := by rw [hx4]; exact nI_add (6 * j) 2
      have hx4_3 : x4 + (3 : Int32) = nI (6 * j + 3) := by rw [hx4]; exact nI_add (6 * j) 3
      have hx4_4 : x4 + (4 : Int32) = nI (6 * j + 4) := by rw [hx4]; exact nI_add (6 * j) 4
      have hx4_5 : x4 + (5 : Int32) = nI (6 * j + 5) := by rw [hx4]; exact nI_add (6 * j) 5
      have hw := hstep j σ τ w f (fun k => xs (6 * j + k)) (by omega) hI
      unfold wp_law at hw
      dsimp only at hw
      refine lv_aload_n hx hb dL_law_33 rfl (lv_at hl 0 rfl) ?_
      refine lv_iload hx hb dL_law_34 (lv_at hl 4 rfl) ?_
      refine lw_sld (k := 0) hx hb hX hbl hS hx4_0 (by omega) hL31 dL_law_36 ?_
      refine lv_bipush (v := 31) hx hb dL_law_37 (by decide) ?_
      refine lv_iand hx hb dL_law_39 ?_
      refine lv_topi (fun x7 ex7 => ?_)
      have hw := hw x7 ex7
      by_cases c7_0 : x7 = (0 : Int32)
      · have hw := hw.1 c7_0
        refine lv_tableIn (tgt := 132) hx hb dL_law_40 (by rw [c7_0]; decide) (by rw [c7_0]; decide) (by rw [c7_0]; rfl) (by decide) ?_
        refine lv_aload_n hx hb dL_law_132 rfl (lv_at hl 1 rfl) ?_
        refine lv_aload_n hx hb dL_law_133 rfl (lv_at hl 0 rfl) ?_
        refine lv_iload hx hb dL_law_134 (lv_at hl 4 rfl) ?_
        refine lv_iconst (v := 1) hx hb dL_law_136 (by decide) ?_
        refine lv_iadd hx hb dL_law_137 ?_
        refine lw_sld (k := 1) hx hb hX hbl hS hx4_1 (by omega) hL31 dL_law_138 ?_
        refine lv_aload_n hx hb dL_law_139 rfl (lv_at hl 0 rfl) ?_
        refine lv_iload hx hb dL_law_140 (lv_at hl 4 rfl) ?_
        refine lv_iconst (v := 2) hx hb dL_law_142 (by decide) ?_
        refine lv_iadd hx hb dL_law_143 ?_
        refine lw_sld (k := 2) hx hb hX hbl hS hx4_2 (by omega) hL31 dL_law_144 ?_
        refine lv_aload_n hx hb dL_law_145 rfl (lv_at hl 0 rfl) ?_
        refine lv_iload hx hb dL_law_146 (lv_at hl 4 rfl) ?_
        refine lv_iconst (v := 3) hx hb dL_law_148 (by decide) ?_
        refine lv_iadd hx hb dL_law_149 ?_
        refine lw_sld (k := 3) hx hb hX hbl hS hx4_3 (by omega) hL31 dL_law_150 ?_
        refine lv_aload_n hx hb dL_law_151 rfl (lv_at hl 0 rfl) ?_
        refine lv_iload hx hb dL_law_152 (lv_at hl 4 rfl) ?_
        refine lv_iconst (v := 4) hx hb dL_law_154 (by decide) ?_
        refine lv_iadd hx hb dL_law_155 ?_
        refine lw_sld (k := 4) hx hb hX hbl hS hx4_4 (by omega) hL31 dL_law_156 ?_
        refine lv_aload_n hx hb dL_law_157 rfl (lv_at hl 0 rfl) ?_
        refine lv_iload hx hb dL_law_158 (lv_at hl 4 rfl) ?_
        refine lv_iconst (v := 5) hx hb dL_law_160 (by decide) ?_
        refine lv_iadd hx hb dL_law_161 ?_
        refine lw_sld (k := 5) hx hb hX hbl hS hx4_5 (by omega) hL31 dL_law_162 ?_
        refine lx_ki (p1 := fun u => u) hap hW (va_runV (As := [.int (xs (6 * j + 1)), .int (xs (6 * j + 2)), .int (xs (6 * j + 3)), .int (xs (6 * j + 4)), .int (xs (6 * j + 5))]) (rest := []) ⟨hx, hb, hml, hown, hts⟩ (kc_X11_feed l D cy 38 (Nat.le_refl 38) adX hap.1 σ _ (xs (6 * j + 1)) (xs (6 * j + 2)) (xs (6 * j + 3)) (xs (6 * j + 4)) (xs (6 * j + 5)) _ hw) (cwV 5 hts gzL_law_X11_feed rfl rfl rfl (by decide +kernel) ⟨Nat.le_of_ble_eq_true rfl, Nat.le_of_ble_eq_true rfl⟩) (hw_preV hK hN1 hW.1 (by decide) (bX_0 _) rfl) rfl rfl hl.1 rfl (lv_room (Nat.le_of_ble_eq_true rfl)) dL_law_163 ⟨by show 100 + 3 * j + 0 ≤ 601024; omega, by show 140000 + 18 * j + 0 ≤ 7293034; omega⟩) hz hS (fun r101 σ102 H locs hw hW hz hS => ?_)
        (try dsimp only at hW)
        refine lv_aload_n hx hb dL_law_166 rfl (lv_at hl 2 rfl) ?_
        refine lv_aload_n hx hb dL_law_167 rfl (lv_at hl 0 rfl) ?_
        refine lv_iload hx hb dL_law_168 (lv_at hl 4 rfl) ?_
        refine lv_iconst (v := 1) hx hb dL_law_170 (by decide) ?_
        refine lv_iadd hx hb dL_law_171 ?_
        refine lw_sld (k := 1) hx hb hX hbl hS hx4_1 (by omega) hL31 dL_law_172 ?_
        refine lv_aload_n hx hb dL_law_173 rfl (lv_at hl 0 rfl) ?_
        refine lv_iload hx hb dL_law_174 (lv_at hl 4 rfl) ?_
        refine lv_iconst (v := 2) hx hb dL_law_176 (by decide) ?_
        refine lv_iadd hx hb dL_law_177 ?_
        refine lw_sld (k := 2) hx hb hX hbl hS hx4_2 (by omega) hL31 dL_law_178 ?_
        refine lv_aload_n hx hb dL_law_179 rfl (lv_at hl 0 rfl) ?_
        refine lv_iload hx hb dL_law_180 (lv_at hl 4 rfl) ?_
        refine lv_iconst (v := 3) hx hb dL_law_182 (by decide) ?_
        refine lv_iadd hx hb dL_law_183 ?_
        refine lw_sld (k := 3) hx hb hX hbl hS hx4_3 (by omega) hL31 dL_law_184 ?_
        refine lv_aload_n hx hb dL_law_185 rfl (lv_at hl 0 rfl) ?_
        refine lv_iload hx hb dL_law_186 (lv_at hl 4 rfl) ?_
        refine lv_iconst (v := 4) hx hb dL_law_188 (by decide) ?_
        refine lv_iadd hx hb dL_law_189 ?_
        refine lw_sld (k := 4) hx hb hX hbl hS hx4_4 (by omega) hL31 dL_law_190 ?_
        refine lv_aload_n hx hb dL_law_191 rfl (lv_at hl 0 rfl) ?_
        refine lv_iload hx hb dL_law_192 (lv_at hl 4 rfl) ?_
        refine lv_iconst (v := 5) hx hb dL_law_194 (by decide) ?_
        refine lv_iadd hx hb dL_law_195 ?_
        refine lw_sld (k := 5) hx hb hX hbl hS hx4_5 (by omega) hL31 dL_law_196 ?_
        refine ly_ki (p1 := fun u => u) (p2 := fun _ => w) hap hW (va_runV (As := [.int (xs (6 * j + 1)), .int (xs (6 * j + 2)), .int (xs (6 * j + 3)), .int (xs (6 * j + 4)), .int (xs (6 * j + 5))]) (rest := [.int r101]) ⟨hx, hb, hml, hown, hts⟩ (kc_X12_feed l D cy 22 (Nat.le_refl 22) adY hap.2.1 w τ _ (xs (6 * j + 1)) (xs (6 * j + 2)) (xs (6 * j + 3)) (xs (6 * j + 4)) (xs (6 * j + 5)) _ hw) (cwV 5 hts gzL_law_X12_feed rfl rfl rfl (by decide +kernel) ⟨Nat.le_of_ble_eq_true rfl, Nat.le_of_ble_eq_true rfl⟩) (hw_preV hK hN1 hW.2.1 (by decide) (bY_0 _) rfl) rfl rfl hl.1 rfl (lv_room (Nat.le_of_ble_eq_true rfl)) dL_law_197 ⟨by show 100 + 3 * j + 0 ≤ 601024; omega, by show 140000 + 18 * j + 0 ≤ 7293034; omega⟩) hz hS (fun r103 τ104 H locs hw hW hz hS => ?_)
        (try dsimp only at hW)
        refine lv_icmp_eq (tgt := 1037) hx hb dL_law_200 (by decide) (fun c106 => ?_) (fun c106 => ?_)
        · have hw := hw.1 c106
          obtain ⟨x9, ex9⟩ : ∃ z : Int32, z = x4 + (6 : Int32) := ⟨_, rfl⟩
          refine lv_iinc (v := x9) (lv' := [(4, .int x9), (0, .ref b), (1, .ref (adX 0)), (2, .ref (adY 0)), (3, .ref o)]) hx hb dL_law_1037 hl (k := 4) rfl (by rw [ex9]; rfl) (by decide) rfl (fun ls hl => ?_)
          have hx9 : x9 = nI (6 * (j + 1)) := by rw [ex9, hx4]; exact nI_add (6 * j) 6
          refine lv_goto (tgt := 23) hx hb dL_law_1040 (by decide) ?_
          refine W.widen (k := 100 + 3 * (j + 1)) (n := 140000 + 18 * (j + 1)) (by omega) (by omega) ?_
          exact ih (j + 1) (by omega) (by omega) _ _ _ _ _ _ _ _ hx9 hw hW hz hS (lv_sub hl [1, 2, 3, 4, 0] rfl)
        have hw := hw.2 c106
        refine lv_iconst (v := 0) hx hb dL_law_203 (by decide) ?_
        exact hw.elim
      have hw := hw.2 c7_0
      by_cases c7_1 : x7 = (1 : Int32)
      · have hw := hw.1 c7_1
        refine lv_tableIn (tgt := 205) hx hb dL_law_40 (by rw [c7_1]; decide) (by rw [c7_1]; decide) (by rw [c7_1]; rfl) (by decide) ?_
        refine lv_aload_n hx hb dL_law_205 rfl (lv_at hl 1 rfl) ?_
        refine lv_aload_n hx hb dL_law_206 rfl (lv_at hl 0 rfl) ?_
        refine lv_iload hx hb dL_law_207 (lv_at hl 4 rfl) ?_
        refine lv_iconst (v := 1) hx hb dL_law_209 (by decide) ?_
        refine lv_iadd hx hb dL_law_210 ?_
        refine lw_sld (k := 1) hx hb hX hbl hS hx4_1 (by omega) hL31 dL_law_211 ?_
        refine lx_ki (p1 := fun u => u) hap hW (va_runV (As := [.int (xs (6 * j + 1))]) (rest := []) ⟨hx, hb, hml, hown, hts⟩ (kc_X11_end l D cy 38 (Nat.le_refl 38) adX hap.1 σ _ (xs (6 * j + 1)) _ hw) (cwV 1 hts gzL_law_X11_end rfl rfl rfl (by decide +kernel) ⟨Nat.le_of_ble_eq_true rfl, Nat.le_of_ble_eq_true rfl⟩) (hw_preV hK hN1 hW.1 (by decide) (bX_0 _) rfl) rfl rfl hl.1 rfl (lv_room (Nat.le_of_ble_eq_true rfl)) dL_law_212 ⟨by show 100 + 3 * j + 0 ≤ 601024; omega, by show 140000 + 18 * j + 0 ≤ 7293034; omega⟩) hz hS (fun r201 σ202 H locs hw hW hz hS => ?_)
        (try dsimp only at hW)
        refine lv_aload_n hx hb dL_law_215 rfl (lv_at hl 2 rfl) ?_
        refine lv_aload_n hx hb dL_law_216 rfl (lv_at hl 0 rfl) ?_
        refine lv_iload hx hb dL_law_217 (lv_at hl 4 rfl) ?_
        refine lv_iconst (v := 1) hx hb dL_law_219 (by decide) ?_
        refine lv_iadd hx hb dL_law_220 ?_
        refine lw_sld (k := 1) hx hb hX hbl hS hx4_1 (by omega) hL31 dL_law_221 ?_
        refine ly_ki (p1 := fun u => u) (p2 := fun _ => w) hap hW (va_runV (As := [.int (xs (6 * j + 1))]) (rest := [.int r201]) ⟨hx, hb, hml, hown, hts⟩ (kc_X12_end l D cy 22 (Nat.le_refl 22) adY hap.2.1 w τ _ (xs (6 * j + 1)) _ hw) (cwV 1 hts gzL_law_X12_end rfl rfl rfl (by decide +kernel) ⟨Nat.le_of_ble_eq_true rfl, Nat.le_of_ble_eq_true rfl⟩) (hw_preV hK hN1 hW.2.1 (by decide) (bY_0 _) rfl) rfl rfl hl.1 rfl (lv_room (Nat.le_of_ble_eq_true rfl)) dL_law_222 ⟨by show 100 + 3 * j + 0 ≤ 601024; omega, by show 140000 + 18 * j + 0 ≤ 7293034; omega⟩) hz hS (fun r203 τ204 H locs hw hW hz hS => ?_)
        (try dsimp only at hW)
        refine lv_icmp_eq (tgt := 1037) hx hb dL_law_225 (by decide) (fun c206 => ?_) (fun c206 => ?_)
        · have hw := hw.1 c206
          obtain ⟨x9, ex9⟩ : ∃ z : Int32, z = x4 + (6 : Int32) := ⟨_, rfl⟩
          refine lv_iinc (v := x9) (lv' := [(4, .int x9), (0, .ref b), (1, .ref (adX 0)), (2, .ref (adY 0)), (3, .ref o)]) hx hb dL_law_1037 hl (k := 4) rfl (by rw [ex9]; rfl) (by decide) rfl (fun ls hl => ?_)
          have hx9 : x9 = nI (6 * (j + 1)) := by rw [ex9, hx4]; exact nI_add (6 * j) 6
          refine lv_goto (tgt := 23) hx hb dL_law_1040 (by decide) ?_
          refine W.widen (k := 100 + 3 * (j + 1)) (n := 140000 + 18 * (j + 1)) (by omega) (by omega) ?_
          exact ih (j + 1) (by omega) (by omega) _ _ _ _ _ _ _ _ hx9 hw hW hz hS (lv_sub hl [1, 2, 3, 4, 0] rfl)
        have hw := hw.2 c206
        refine lv_iconst (v := 0) hx hb dL_law_228 (by decide) ?_
        exact hw.elim
      have hw := hw.2 c7_1
      by_cases c7_2 : x7 = (2 : Int32)
      · have hw := hw.1 c7_2
        refine lv_tableIn (tgt := 230) hx hb dL_law_40 (by rw [c7_2]; decide) (by rw [c7_2]; decide) (by rw [c7_2]; rfl) (by decide) ?_
        refine lv_aload_n hx hb dL_law_230 rfl (lv_at hl 1 rfl) ?_
        refine lv_aload_n hx hb dL_law_231 rfl (lv_at hl 0 rfl) ?_
        refine lv_iload hx hb dL_law_232 (lv_at hl 4 rfl) ?_
        refine lv_iconst (v := 1) hx hb dL_law_234 (by decide) ?_
        refine lv_iadd hx hb dL_law_235 ?_
        refine lw_sld (k := 1) hx hb hX hbl hS hx4_1 (by omega) hL31 dL_law_236 ?_
        refine lx_ki (p1 := fun u => u) hap hW (va_runV (As := [.int (xs (6 * j + 1))]) (rest := []) ⟨hx, hb, hml, hown, hts⟩ (kc_X11_stage l D cy 38 (Nat.le_refl 38) adX hap.1 σ _ (xs (6 * j + 1)) _ hw) (cwV 1 hts gzL_law_X11_stage rfl rfl rfl (by decide +kernel) ⟨Nat.le_of_ble_eq_true rfl, Nat.le_of_ble_eq_true rfl⟩) (hw_preV hK hN1 hW.1 (by decide) (bX_0 _) rfl) rfl rfl hl.1 rfl (lv_room (Nat.le_of_ble_eq_true rfl)) dL_law_237 ⟨by show 100 + 3 * j + 0 ≤ 601024; omega, by show 140000 + 18 * j + 0 ≤ 7293034; omega⟩) hz hS (fun r301 σ302 H locs hw hW hz hS => ?_)
        (try dsimp only at hW)
        refine lv_aload_n hx hb dL_law_240 rfl (lv_at hl 2 rfl) ?_
        refine lv_aload_n hx hb dL_law_241 rfl (lv_at hl 0 rfl) ?_
        refine lv_iload hx hb dL_law_242 (lv_at hl 4 rfl) ?_
        refine lv_iconst (v := 1) hx hb dL_law_244 (by decide) ?_
        refine lv_iadd hx hb dL_law_245 ?_
        refine lw_sld (k := 1) hx hb hX hbl hS hx4_1 (by omega) hL31 dL_law_246 ?_
        refine ly_ki (p1 := fun u => u) (p2 := fun _ => w) hap hW (va_runV (As := [.int (xs (6 * j + 1))]) (rest := [.int r301]) ⟨hx, hb, hml, hown, hts⟩ (kc_X12_stage l D cy 22 (Nat.le_refl 22) adY hap.2.1 w τ _ (xs (6 * j + 1)) _ hw) (cwV 1 hts gzL_law_X12_stage rfl rfl rfl (by decide +kernel) ⟨Nat.le_of_ble_eq_true rfl, Nat.le_of_ble_eq_true rfl⟩) (hw_preV hK hN1 hW.2.1 (by decide) (bY_0 _) rfl) rfl rfl hl.1 rfl (lv_room (Nat.le_of_ble_eq_true rfl)) dL_law_247 ⟨by show 100 + 3 * j + 0 ≤ 601024; omega, by show 140000 + 18 * j + 0 ≤ 7293034; omega⟩) hz hS (fun r303 τ304 H locs hw hW hz hS => ?_)
        (try dsimp only at hW)
        refine lv_icmp_eq (tgt := 1037) hx hb dL_law_250 (by decide) (fun c306 => ?_) (fun c306 => ?_)
        · have hw := hw.1 c306
          obtain ⟨x9, ex9⟩ : ∃ z : Int32, z = x4 + (6 : Int32) := ⟨_, rfl⟩
          refine lv_iinc (v := x9) (lv' := [(4, .int x9), (0, .ref b), (1, .ref (adX 0)), (2, .ref (adY 0)), (3, .ref o)]) hx hb dL_law_1037 hl (k := 4) rfl (by rw [ex9]; rfl) (by decide) rfl (fun ls hl => ?_)
          have hx9 : x9 = nI (6 * (j + 1)) := by rw [ex9, hx4]; exact nI_add (6 * j) 6
          refine lv_goto (tgt := 23) hx hb dL_law_1040 (by decide) ?_
          refine W.widen (k := 100 + 3 * (j + 1)) (n := 140000 + 18 * (j + 1)) (by omega) (by omega) ?_
          exact ih (j + 1) (by omega) (by omega) _ _ _ _ _ _ _ _ hx9 hw hW hz hS (lv_sub hl [1, 2, 3, 4, 0] rfl)
        have hw := hw.2 c306
        refine lv_iconst (v := 0) hx hb dL_law_253 (by decide) ?_
        exact hw.elim
      have hw := hw.2 c7_2
      by_cases c7_3 : x7 = (3 : Int32)
      · have hw := hw.1 c7_3
        refine lv_tableIn (tgt := 255) hx hb dL_law_40 (by rw [c7_3]; decide) (by rw [c7_3]; decide) (by rw [c7_3]; rfl) (by decide) ?_
        refine lv_aload_n hx hb dL_law_255 rfl (lv_at hl 1 rfl) ?_
        refine lv_aload_n hx hb dL_law_256 rfl (lv_at hl 0 rfl) ?_
        refine lv_iload hx hb dL_law_257 (lv_at hl 4 rfl) ?_
        refine lv_iconst (v := 1) hx hb dL_law_259 (by decide) ?_
        refine lv_iadd hx hb dL_law_260 ?_
        refine lw_sld (k := 1) hx hb hX hbl hS hx4_1 (by omega) hL31 dL_law_261 ?_
        refine lv_aload_n hx hb dL_law_262 rfl (lv_at hl 3 rfl) ?_
        refine lh_ki hap hW (vx_runSW (As := [.ref (adX 0), .int (xs (6 * j + 1)), .ref o]) (rest := []) ⟨hx, hb, hml, hown, hts⟩ (kc_L_method l hfl D cy adX hap.1 o hap.2.2.2.1 σ f _ (xs (6 * j + 1)) _ hw) (vx_cwSW 3 hts gzL_law_L_method rfl rfl rfl (by decide +kernel) ⟨Nat.le_of_ble_eq_true rfl, Nat.le_of_ble_eq_true rfl⟩) (lw_preH (As := [.ref (adX 0), .int (xs (6 * j + 1)), .ref o]) hK hN1 hT hNc hap hW hz hS) rfl rfl hl.1 rfl (lv_room (Nat.le_of_ble_eq_true rfl)) dL_law_263 ⟨by show 100 + 3 * j + 1 ≤ 601024; omega, by show 140000 + 18 * j + 6 ≤ 7293034; omega⟩) hz hS (fun r401 σ402 f403 H locs hw hW hz hS => ?_)
        refine lv_istore (lv' := [(5, .int r401), (0, .ref b), (1, .ref (adX 0)), (2, .ref (adY 0)), (3, .ref o), (4, .int x4)]) hx hb dL_law_266 hl (by decide) rfl (fun ls hl => ?_)
        refine lv_aload_n hx hb dL_law_268 rfl (lv_at hl 3 rfl) ?_
        refine lv_aload_n hx hb dL_law_269 rfl (lv_at hl 1 rfl) ?_
        refine lv_iload hx hb dL_law_270 (lv_at hl 5 rfl) ?_
        refine lv_iconst (v := 1) hx hb dL_law_272 (by decide) ?_
        refine lv_iadd hx hb dL_law_273 ?_
        refine lw_sld (k := 1) hx hb hX hbl hS hx4_1 (by omega) hL31 dL_law_274 ?_
        refine ly_ki (p1 := fun u => u) (p2 := fun _ => w) hap hW (va_runV (As := [.int (xs (6 * j + 1))]) (rest := []) ⟨hx, hb, hml, hown, hts⟩ (kc_X12_method l D cy 22 (Nat.le_refl 22) adY hap.2.1 w τ _ (xs (6 * j + 1)) _ hw) (cwV 1 hts gzL_law_X12_method rfl rfl rfl (by decide +kernel) ⟨Nat.le_of_ble_eq_true rfl, Nat.le_of_ble_eq_true rfl⟩) (hw_preV hK hN1 hW.2.1 (by decide) (bY_0 _) rfl) rfl rfl hl.1 rfl (lv_room (Nat.le_of_ble_eq_true rfl)) dL_law_275 ⟨by show 100 + 3 * j + 1 + 0 ≤ 601024; omega, by show 140000 + 18 * j + 6 + 0 ≤ 7293034; omega⟩) hz hS (fun r404 τ405 H locs hw hW hz hS => ?_)
        (try dsimp only at hW)
        refine lv_istore (lv' := [(6, .int r404), (5, .int r401), (0, .ref b), (1, .ref (adX 0)), (2, .ref (adY 0)), (3, .ref o), (4, .int x4)]) hx hb dL_law_278 hl (by decide) rfl (fun ls hl => ?_)
        refine lv_aload_n hx hb dL_law_280 rfl (lv_at hl 4 rfl) ?_
        refine ly_ki (p1 := fun u => u) (p2 := fun _ => w) hap hW (va_runV (As := []) (rest := []) ⟨hx, hb, hml, hown, hts⟩ (kc_X12_thrown l D cy 22 (Nat.le_refl 22) adY hap.2.1 w τ405 _  _ hw) (cwV 0 hts gzL_law_X12_thrown rfl rfl rfl (by decide +kernel) ⟨Nat.le_of_ble_eq_true rfl, Nat.le_of_ble_eq_true rfl⟩) (hw_preV hK hN1 hW.2.1 (by decide) (bY_0 _) rfl) rfl rfl hl.1 rfl (lv_room (Nat.le_of_ble_eq_true rfl)) dL_law_281 ⟨by show 100 + 3 * j + 1 + 0 ≤ 601024; omega, by show 140000 + 18 * j + 6 + 0 ≤ 7293034; omega⟩) hz hS (fun r407 τ408 H locs hw hW hz hS => ?_)
        obtain ⟨hu_, hw⟩ := hw
        (try dsimp only at hW)
        rw [hu_] at hW
        refine lv_iload hx hb dL_law_284 (lv_at hl 1 rfl) ?_
        refine lv_icmp_eq (tgt := 291) hx hb dL_law_286 (by decide) (fun c410 => ?_) (fun c410 => ?_)
        · have hw := hw.1 c410
          refine lv_iload hx hb dL_law_291 (lv_at hl 1 rfl) ?_
          refine lv_if_ne (tgt := 308) hx hb dL_law_293 (by decide) (fun c411 => ?_) (fun c411 => ?_)
          · have hw := hw.1 c411
            refine lv_goto (tgt := 1037) hx hb dL_law_308 (by decide) ?_
            obtain ⟨x9, ex9⟩ : ∃ z : Int32, z = x4 + (6 : Int32) := ⟨_, rfl⟩
            refine lv_iinc (v := x9) (lv' := [(4, .int x9), (6, .int r404), (5, .int r401), (0, .ref b), (1, .ref (adX 0)), (2, .ref (adY 0)), (3, .ref o)]) hx hb dL_law_1037 hl (k := 6) rfl (by rw [ex9]; rfl) (by decide) rfl (fun ls hl => ?_)
            have hx9 : x9 = nI (6 * (j + 1)) := by rw [ex9, hx4]; exact nI_add (6 * j) 6
            refine lv_goto (tgt := 23) hx hb dL_law_1040 (by decide) ?_
            refine W.widen (k := 100 + 3 * (j + 1)) (n := 140000 + 18 * (j + 1)) (by omega) (by omega) ?_
            exact ih (j + 1) (by omega) (by omega) _ _ _ _ _ _ _ _ hx9 hw hW hz hS (lv_sub hl [3, 4, 5, 6, 0] rfl)
          have hw := hw.2 c411
          refine lv_aload_n hx hb dL_law_296 rfl (lv_at hl 5 rfl) ?_
          refine lv_iconst (v := 0) hx hb dL_law_297 (by decide) ?_
          refine lw_lald hx hb hK hW dL_law_298 ?_
          refine lv_iload hx hb dL_law_299 (lv_at hl 0 rfl) ?_
          refine lv_i2l hx hb dL_law_301 rfl ?_
          refine W.lcmp hx hb dL_law_302 ?_
          refine lv_if_eq (tgt := 308) hx hb dL_law_303 (by decide) (fun c412 => ?_) (fun c412 => ?_)
          · have hw := hw.1 c412
            refine lv_goto (tgt := 1037) hx hb dL_law_308 (by decide) ?_
            obtain ⟨x9, ex9⟩ : ∃ z : Int32, z = x4 + (6 : Int32) := ⟨_, rfl⟩
            refine lv_iinc (v := x9) (lv' := [(4, .int x9), (6, .int r404), (5, .int r401), (0, .ref b), (1, .ref (adX 0)), (2, .ref (adY 0)), (3, .ref o)]) hx hb dL_law_1037 hl (k := 6) rfl (by rw [ex9]; rfl) (by decide) rfl (fun ls hl => ?_)
            have hx9 : x9 = nI (6 * (j + 1)) := by rw [ex9, hx4]; exact nI_add (6 * j) 6
            refine lv_goto (tgt := 23) hx hb dL_law_1040 (by decide) ?_
            refine W.widen (k := 100 + 3 * (j + 1)) (n := 140000 + 18 * (j + 1)) (by omega) (by omega) ?_
            exact ih (j + 1) (by omega) (by omega) _ _ _ _ _ _ _ _ hx9 hw hW hz hS (lv_sub hl [3, 4, 5, 6, 0] rfl)
          have hw := hw.2 c412
          refine lv_iconst (v := 0) hx hb dL_law_306 (by decide) ?_
          exact hw.elim
        have hw := hw.2 c410
        refine lv_iconst (v := 0) hx hb dL_law_289 (by decide) ?_
        exact hw.elim
      have hw := hw.2 c7_3
      by_cases c7_4 : x7 = (4 : Int32)
      · have hw := hw.1 c7_4
        refine lv_tableIn (tgt := 311) hx hb dL_law_40 (by rw [c7_4]; decide) (by rw [c7_4]; decide) (by rw [c7_4]; rfl) (by decide) ?_
        refine lv_aload_n hx hb dL_law_311 rfl (lv_at hl 1 rfl) ?_
        refine lx_ki (p1 := fun u => u) hap hW (va_runV (As := []) (rest := []) ⟨hx, hb, hml, hown, hts⟩ (kc_X11_compose l D cy 38 (Nat.le_refl 38) adX hap.1 σ _  _ hw) (cwV 0 hts gzL_law_X11_compose rfl rfl rfl (by decide +kernel) ⟨Nat.le_of_ble_eq_true rfl, Nat.le_of_ble_eq_true rfl⟩) (hw_preV hK hN1 hW.1 (by decide) (bX_0 _) rfl) rfl rfl hl.1 rfl (lv_room (Nat.le_of_ble_eq_true rfl)) dL_law_312 ⟨by show 100 + 3 * j + 0 ≤ 601024; omega, by show 140000 + 18 * j + 0 ≤ 7293034; omega⟩) hz hS (fun r501 σ502 H locs hw hW hz hS => ?_)
        (try dsimp only at hW)
        refine lv_aload_n hx hb dL_law_315 rfl (lv_at hl 2 rfl) ?_
        refine ly_ki (p1 := fun (u : hSt × (Nat → Int64)) => u.1) (p2 := fun (u : hSt × (Nat → Int64)) => u.2) hap hW (va_runV (As := []) (rest := [.int r501]) ⟨hx, hb, hml, hown, hts⟩ (kc_X12_compose l D cy 22 (Nat.le_refl 22) adY hap.2.1 w τ _  _ hw) (cwV 0 hts gzL_law_X12_compose rfl rfl rfl (by decide +kernel) ⟨Nat.le_of_ble_eq_true rfl, Nat.le_of_ble_eq_true rfl⟩) (hw_preV hK hN1 hW.2.1 (by decide) (bY_0 _) rfl) rfl rfl hl.1 rfl (lv_room (Nat.le_of_ble_eq_true rfl)) dL_law_316 ⟨by show 100 + 3 * j + 0 ≤ 601024; omega, by show 140000 + 18 * j + 0 ≤ 7293034; omega⟩) hz hS (fun r503 u_ H locs hw hW hz hS => ?_)
        obtain ⟨τ504, w505⟩ := u_
        (try dsimp only at hW)
        refine lv_icmp_eq (tgt := 1037) hx hb dL_law_319 (by decide) (fun c506 => ?_) (fun c506 => ?_)
        · have hw := hw.1 c506
          obtain ⟨x9, ex9⟩ : ∃ z : Int32, z = x4 + (6 : Int32) := ⟨_, rfl⟩
          refine lv_iinc (v := x9) (lv' := [(4, .int x9), (0, .ref b), (1, .ref (adX 0)), (2, .ref (adY 0)), (3, .ref o)]) hx hb dL_law_1037 hl (k := 4) rfl (by rw [ex9]; rfl) (by decide) rfl (fun ls hl => ?_)
          have hx9 : x9 = nI (6 * (j + 1)) := by rw [ex9, hx4]; exact nI_add (6 * j) 6
          refine lv_goto (tgt := 23) hx hb dL_law_1040 (by decide) ?_
          refine W.widen (k := 100 + 3 * (j + 1)) (n := 140000 + 18 * (j + 1)) (by omega) (by omega) ?_
          exact ih (j + 1) (by omega) (by omega) _ _ _ _ _ _ _ _ hx9 hw hW hz hS (lv_sub hl [1, 2, 3, 4, 0] rfl)
        have hw := hw.2 c506
        refine lv_iconst (v := 0) hx hb dL_law_322 (by decide) ?_
        exact hw.elim
      have hw := hw.2 c7_4
      by_cases c7_5 : x7 = (5 : Int32)
      · have hw := hw.1 c7_5
        refine lv_tableIn (tgt := 324) hx hb dL_law_40 (by rw [c7_5]; decide) (by rw [c7_5]; decide) (by rw [c7_5]; rfl) (by decide) ?_
        refine lv_aload_n hx hb dL_law_324 rfl (lv_at hl 1 rfl) ?_
        refine lx_ki (p1 := fun u => u) hap hW (va_runV (As := []) (rest := []) ⟨hx, hb, hml, hown, hts⟩ (kc_X11_fault l D cy 38 (Nat.le_refl 38) adX hap.1 σ _  _ hw) (cwV 0 hts gzL_law_X11_fault rfl rfl rfl (by decide +kernel) ⟨Nat.le_of_ble_eq_true rfl, Nat.le_of_ble_eq_true rfl⟩) (hw_preV hK hN1 hW.1 (by decide) (bX_0 _) rfl) rfl rfl hl.1 rfl (lv_room (Nat.le_of_ble_eq_true rfl)) dL_law_325 ⟨by show 100 + 3 * j + 0 ≤ 601024; omega, by show 140000 + 18 * j + 0 ≤ 7293034; omega⟩) hz hS (fun r601 σ602 H locs hw hW hz hS => ?_)
        obtain ⟨hu_, hw⟩ := hw
        (try dsimp only at hW)
        rw [hu_] at hW
        refine lv_aload_n hx hb dL_law_328 rfl (lv_at hl 2 rfl) ?_
        refine ly_ki (p1 := fun u => u) (p2 := fun _ => w) hap hW (va_runV (As := []) (rest := [.int r601]) ⟨hx, hb, hml, hown, hts⟩ (kc_X12_fault l D cy 22 (Nat.le_refl 22) adY hap.2.1 w τ _  _ hw) (cwV 0 hts gzL_law_X12_fault rfl rfl rfl (by decide +kernel) ⟨Nat.le_of_ble_eq_true rfl, Nat.le_of_ble_eq_true rfl⟩) (hw_preV hK hN1 hW.2.1 (by decide) (bY_0 _) rfl) rfl rfl hl.1 rfl (lv_room (Nat.le_of_ble_eq_true rfl)) dL_law_329 ⟨by show 100 + 3 * j + 0 ≤ 601024; omega, by show 140000 + 18 * j + 0 ≤ 7293034; omega⟩) hz hS (fun r603 τ604 H locs hw hW hz hS => ?_)
        (try dsimp only at hW)
        refine lv_icmp_eq (tgt := 1037) hx hb dL_law_332 (by decide) (fun c606 => ?_) (fun c606 => ?_)
        · have hw := hw.1 c606
          obtain ⟨x9, ex9⟩ : ∃ z : Int32, z = x4 + (6 : Int32) := ⟨_, rfl⟩
          refine lv_iinc (v := x9) (lv' := [(4, .int x9), (0, .ref b), (1, .ref (adX 0)), (2, .ref (adY 0)), (3, .ref o)]) hx hb dL_law_1037 hl (k := 4) rfl (by rw [ex9]; rfl) (by decide) rfl (fun ls hl => ?_)
          have hx9 : x9 = nI (6 * (j + 1)) := by rw [ex9, hx4]; exact nI_add (6 * j) 6
          refine lv_goto (tgt := 23) hx hb dL_law_1040 (by decide) ?_
          refine W.widen (k := 100 + 3 * (j + 1)) (n := 140000 + 18 * (j + 1)) (by omega) (by omega) ?_
          exact ih (j + 1) (by omega) (by omega) _ _ _ _ _ _ _ _ hx9 hw hW hz hS (lv_sub hl [1, 2, 3, 4, 0] rfl)
        have hw := hw.2 c606
        refine lv_iconst (v := 0) hx hb dL_law_335 (by decide) ?_
        exact hw.elim
      have hw := hw.2 c7_5
      by_cases c7_6 : x7 = (6 : Int32)
      · have hw := hw.1 c7_6
        refine lv_tableIn (tgt := 337) hx hb dL_law_40 (by rw [c7_6]; decide) (by rw [c7_6]; decide) (by rw [c7_6]; rfl) (by decide) ?_
        refine lv_aload_n hx hb dL_law_337 rfl (lv_at hl 1 rfl) ?_
        refine lv_aload_n hx hb dL_law_338 rfl (lv_at hl 0 rfl) ?_
        refine lv_iload hx hb dL_law_339 (lv_at hl 4 rfl) ?_
        refine lv_iconst (v := 1) hx hb dL_law_341 (by decide) ?_
        refine lv_iadd hx hb dL_law_342 ?_
        refine lw_sld (k := 1) hx hb hX hbl hS hx4_1 (by omega) hL31 dL_law_343 ?_
        refine lv_aload_n hx hb dL_law_344 rfl (lv_at hl 0 rfl) ?_
        refine lv_iload hx hb dL_law_345 (lv_at hl 4 rfl) ?_
        refine lv_iconst (v := 2) hx hb dL_law_347 (by decide) ?_
        refine lv_iadd hx hb dL_law_348 ?_
        refine lw_sld (k := 2) hx hb hX hbl hS hx4_2 (by omega) hL31 dL_law_349 ?_
        refine lv_aload_n hx hb dL_law_350 rfl (lv_at hl 3 rfl) ?_
        refine lh_ki hap hW (vx_runSW (As := [.ref (adX 0), .int (xs (6 * j + 1)), .int (xs (6 * j + 2)), .ref o]) (rest := []) ⟨hx, hb, hml, hown, hts⟩ (kc_L_lead l hfl D cy adX hap.1 o hap.2.2.2.1 σ f _ (xs (6 * j + 1)) (xs (6 * j + 2)) _ hw) (vx_cwSW 4 hts gzL_law_L_lead rfl rfl rfl (by decide +kernel) ⟨Nat.le_of_ble_eq_true rfl, Nat.le_of_ble_eq_true rfl⟩) (lw_preH (As := [.ref (adX 0), .int (xs (6 * j + 1)), .int (xs (6 * j + 2)), .ref o]) hK hN1 hT hNc hap hW hz hS) rfl rfl hl.1 rfl (lv_room (Nat.le_of_ble_eq_true rfl)) dL_law_351 ⟨by show 100 + 3 * j + 2 ≤ 601024; omega, by show 140000 + 18 * j + 12 ≤ 7293034; omega⟩) hz hS (fun r701 σ702 f703 H locs hw hW hz hS => ?_)
        refine lv_istore (lv' := [(5, .int r701), (0, .ref b), (1, .ref (adX 0)), (2, .ref (adY 0)), (3, .ref o), (4, .int x4)]) hx hb dL_law_354 hl (by decide) rfl (fun ls hl => ?_)
        refine lv_aload_n hx hb dL_law_356 rfl (lv_at hl 3 rfl) ?_
        refine lv_aload_n hx hb dL_law_357 rfl (lv_at hl 1 rfl) ?_
        refine lv_iload hx hb dL_law_358 (lv_at hl 5 rfl) ?_
        refine lv_iconst (v := 1) hx hb dL_law_360 (by decide) ?_
        refine lv_iadd hx hb dL_law_361 ?_
        refine lw_sld (k := 1) hx hb hX hbl hS hx4_1 (by omega) hL31 dL_law_362 ?_
        refine lv_aload_n hx hb dL_law_363 rfl (lv_at hl 1 rfl) ?_
        refine lv_iload hx hb dL_law_364 (lv_at hl 5 rfl) ?_
        refine lv_iconst (v := 2) hx hb dL_law_366 (by decide) ?_
        refine lv_iadd hx hb dL_law_367 ?_
        refine lw_sld (k := 2) hx hb hX hbl hS hx4_2 (by omega) hL31 dL_law_368 ?_
        refine ly_ki (p1 := fun u => u) (p2 := fun _ => w) hap hW (va_runV (As := [.int (xs (6 * j + 1)), .int (xs (6 * j + 2))]) (rest := []) ⟨hx, hb, hml, hown, hts⟩ (kc_X12_lead l D cy 22 (Nat.le_refl 22) adY hap.2.1 w τ _ (xs (6 * j + 1)) (xs (6 * j + 2)) _ hw) (cwV 2 hts gzL_law_X12_lead rfl rfl rfl (by decide +kernel) ⟨Nat.le_of_ble_eq_true rfl, Nat.le_of_ble_eq_true rfl⟩) (hw_preV hK hN1 hW.2.1 (by decide) (bY_0 _) rfl) rfl rfl hl.1 rfl (lv_room (Nat.le_of_ble_eq_true rfl)) dL_law_369 ⟨by show 100 + 3 * j + 2 + 0 ≤ 601024; omega, by show 140000 + 18 * j + 12 + 0 ≤ 7293034; omega⟩) hz hS (fun r704 τ705 H locs hw hW hz hS => ?_)
        (try dsimp only at hW)
        refine lv_istore (lv' := [(6, .int r704), (5, .int r701), (0, .ref b), (1, .ref (adX 0)), (2, .ref (adY 0)), (3, .ref o), (4, .int x4)]) hx hb dL_law_372 hl (by decide) rfl (fun ls hl => ?_)
        refine lv_aload_n hx hb dL_law_374 rfl (lv_at hl 4 rfl) ?_
        refine ly_ki (p1 := fun u => u) (p2 := fun _ => w) hap hW (va_runV (As := []) (rest := []) ⟨hx, hb, hml, hown, hts⟩ (kc_X12_thrown l D cy 22 (Nat.le_refl 22) adY hap.2.1 w τ705 _  _ hw) (cwV 0 hts gzL_law_X12_thrown rfl rfl rfl (by decide +kernel) ⟨Nat.le_of_ble_eq_true rfl, Nat.le_of_ble_eq_true rfl⟩) (hw_preV hK hN1 hW.2.1 (by decide) (bY_0 _) rfl) rfl rfl hl.1 rfl (lv_room (Nat.le_of_ble_eq_true rfl)) dL_law_375 ⟨by show 100 + 3 * j + 2 + 0 ≤ 601024; omega, by show 140000 + 18 * j + 12 + 0 ≤ 7293034; omega⟩) hz hS (fun r707 τ708 H locs hw hW hz hS => ?_)
        obtain ⟨hu_, hw⟩ := hw
        (try dsimp only at hW)
        rw [hu_] at hW
        refine lv_iload hx hb dL_law_378 (lv_at hl 1 rfl) ?_
        refine lv_icmp_eq (tgt := 385) hx hb dL_law_380 (by decide) (fun c710 => ?_) (fun c710 => ?_)
        · have hw := hw.1 c710
          refine lv_iload hx hb dL_law_385 (lv_at hl 1 rfl) ?_
          refine lv_if_ne (tgt := 402) hx hb dL_law_387 (by decide) (fun c711 => ?_) (fun c711 => ?_)
          · have hw := hw.1 c711
            refine lv_goto (tgt := 1037) hx hb dL_law_402 (by decide) ?_
            obtain ⟨x9, ex9⟩ : ∃ z : Int32, z = x4 + (6 : Int32) := ⟨_, rfl⟩
            refine lv_iinc (v := x9) (lv' := [(4, .int x9), (6, .int r704), (5, .int r701), (0, .ref b), (1, .ref (adX 0)), (2, .ref (adY 0)), (3, .ref o)]) hx hb dL_law_1037 hl (k := 6) rfl (by rw [ex9]; rfl) (by decide) rfl (fun ls hl => ?_)
            have hx9 : x9 = nI (6 * (j + 1)) := by rw [ex9, hx4]; exact nI_add (6 * j) 6
            refine lv_goto (tgt := 23) hx hb dL_law_1040 (by decide) ?_
            refine W.widen (k := 100 + 3 * (j + 1)) (n := 140000 + 18 * (j + 1)) (by omega) (by omega) ?_
            exact ih (j + 1) (by omega) (by omega) _ _ _ _ _ _ _ _ hx9 hw hW hz hS (lv_sub hl [3, 4, 5, 6, 0] rfl)
          have hw := hw.2 c711
          refine lv_aload_n hx hb dL_law_390 rfl (lv_at hl 5 rfl) ?_
          refine lv_iconst (v := 0) hx hb dL_law_391 (by decide) ?_
          refine lw_lald hx hb hK hW dL_law_392 ?_
          refine lv_iload hx hb dL_law_393 (lv_at hl 0 rfl) ?_
          refine lv_i2l hx hb dL_law_395 rfl ?_
          refine W.lcmp hx hb dL_law_396 ?_
          refine lv_if_eq (tgt := 402) hx hb dL_law_397 (by decide) (fun c712 => ?_) (fun c712 => ?_)
          · have hw := hw.1 c712
            refine lv_goto (tgt := 1037) hx hb dL_law_402 (by decide) ?_
            obtain ⟨x9, ex9⟩ : ∃ z : Int32, z = x4 + (6 : Int32) := ⟨_, rfl⟩
            refine lv_iinc (v := x9) (lv' := [(4, .int x9), (6, .int r704), (5, .int r701), (0, .ref b), (1, .ref (adX 0)), (2, .ref (adY 0)), (3, .ref o)]) hx hb dL_law_1037 hl (k := 6) rfl (by rw [ex9]; rfl) (by decide) rfl (fun ls hl => ?_)
            have hx9 : x9 = nI (6 * (j + 1)) := by rw [ex9, hx4]; exact nI_add (6 * j) 6
            refine lv_goto (tgt := 23) hx hb dL_law_1040 (by decide) ?_
            refine W.widen (k := 100 + 3 * (j + 1)) (n := 140000 + 18 * (j + 1)) (by omega) (by omega) ?_
            exact ih (j + 1) (by omega) (by omega) _ _ _ _ _ _ _ _ hx9 hw hW hz hS (lv_sub hl [3, 4, 5, 6, 0] rfl)
          have hw := hw.2 c712
          refine lv_iconst (v := 0) hx hb dL_law_400 (by decide) ?_
          exact hw.elim
        have hw := hw.2 c710
        refine lv_iconst (v := 0) hx hb dL_law_383 (by decide) ?_
        exact hw.elim
      have hw := hw.2 c7_6
      by_cases c7_7 : x7 = (7 : Int32)
      · have hw := hw.1 c7_7
        refine lv_tableIn (tgt := 405) hx hb dL_law_40 (by rw [c7_7]; decide) (by rw [c7_7]; decide) (by rw [c7_7]; rfl) (by decide) ?_
        refine lv_aload_n hx hb dL_law_405 rfl (lv_at hl 1 rfl) ?_
        refine lv_aload_n hx hb dL_law_406 rfl (lv_at hl 0 rfl) ?_
        refine lv_iload hx hb dL_law_407 (lv_at hl 4 rfl) ?_
        refine lv_iconst (v := 1) hx hb dL_law_409 (by decide) ?_
        refine lv_iadd hx hb dL_law_410 ?_
        refine lw_sld (k := 1) hx hb hX hbl hS hx4_1 (by omega) hL31 dL_law_411 ?_
        refine lv_aload_n hx hb dL_law_412 rfl (lv_at hl 0 rfl) ?_
        refine lv_iload hx hb dL_law_413 (lv_at hl 4 rfl) ?_
        refine lv_iconst (v := 2) hx hb dL_law_415 (by decide) ?_
        refine lv_iadd hx hb dL_law_416 ?_
        refine lw_sld (k := 2) hx hb hX hbl hS hx4_2 (by omega) hL31 dL_law_417 ?_
        refine lv_aload_n hx hb dL_law_418 rfl (lv_at hl 3 rfl) ?_
        refine lh_ki hap hW (vx_runSW (As := [.ref (adX 0), .int (xs (6 * j + 1)), .int (xs (6 * j + 2)), .ref o]) (rest := []) ⟨hx, hb, hml, hown, hts⟩ (kc_L_head l hfl D cy adX hap.1 o hap.2.2.2.1 σ f _ (xs (6 * j + 1)) (xs (6 * j + 2)) _ hw) (vx_cwSW 4 hts gzL_law_L_head rfl rfl rfl (by decide +kernel) ⟨Nat.le_of_ble_eq_true rfl, Nat.le_of_ble_eq_true rfl⟩) (lw_preH (As := [.ref (adX 0), .int (xs (6 * j + 1)), .int (xs (6 * j + 2)), .ref o]) hK hN1 hT hNc hap hW hz hS) rfl rfl hl.1 rfl (lv_room (Nat.le_of_ble_eq_true rfl)) dL_law_419 ⟨by show 100 + 3 * j + 2 ≤ 601024; omega, by show 140000 + 18 * j + 12 ≤ 7293034; omega⟩) hz hS (fun r801 σ802 f803 H locs hw hW hz hS => ?_)
        refine lv_istore (lv' := [(5, .int r801), (0, .ref b), (1, .ref (adX 0)), (2, .ref (adY 0)), (3, .ref o), (4, .int x4)]) hx hb dL_law_422 hl (by decide) rfl (fun ls hl => ?_)
        refine lv_aload_n hx hb dL_law_424 rfl (lv_at hl 3 rfl) ?_
        refine lv_aload_n hx hb dL_law_425 rfl (lv_at hl 1 rfl) ?_
        refine lv_iload hx hb dL_law_426 (lv_at hl 5 rfl) ?_
        refine lv_iconst (v := 1) hx hb dL_law_428 (by decide) ?_
        refine lv_iadd hx hb dL_law_429 ?_
        refine lw_sld (k := 1) hx hb hX hbl hS hx4_1 (by omega) hL31 dL_law_430 ?_
        refine lv_aload_n hx hb dL_law_431 rfl (lv_at hl 1 rfl) ?_
        refine lv_iload hx hb dL_law_432 (lv_at hl 5 rfl) ?_
        refine lv_iconst (v := 2) hx hb dL_law_434 (by decide) ?_
        refine lv_iadd hx hb dL_law_435 ?_
        refine lw_sld (k := 2) hx hb hX hbl hS hx4_2 (by omega) hL31 dL_law_436 ?_
        refine ly_ki (p1 := fun u => u) (p2 := fun _ => w) hap hW (va_runV (As := [.int (xs (6 * j + 1)), .int (xs (6 * j + 2))]) (rest := []) ⟨hx, hb, hml, hown, hts⟩ (kc_X12_head l D cy 22 (Nat.le_refl 22) adY hap.2.1 w τ _ (xs (6 * j + 1)) (xs (6 * j + 2)) _ hw) (cwV 2 hts gzL_law_X12_head rfl rfl rfl (by decide +kernel) ⟨Nat.le_of_ble_eq_true rfl, Nat.le_of_ble_eq_true rfl⟩) (hw_preV hK hN1 hW.2.1 (by decide) (bY_0 _) rfl) rfl rfl hl.1 rfl (lv_room (Nat.le_of_ble_eq_true rfl)) dL_law_437 ⟨by show 100 + 3 * j + 2 + 0 ≤ 601024; omega, by show 140000 + 18 * j + 12 + 0 ≤ 7293034; omega⟩) hz hS (fun r804 τ805 H locs hw hW hz hS => ?_)
        (try dsimp only at hW)
        refine lv_istore (lv' := [(6, .int r804), (5, .int r801), (0, .ref b), (1, .ref (adX 0)), (2, .ref (adY 0)), (3, .ref o), (4, .int x4)]) hx hb dL_law_440 hl (by decide) rfl (fun ls hl => ?_)
        refine lv_aload_n hx hb dL_law_442 rfl (lv_at hl 4 rfl) ?_
        refine ly_ki (p1 := fun u => u) (p2 := fun _ => w) hap hW (va_runV (As := []) (rest := []) ⟨hx, hb, hml, hown, hts⟩ (kc_X12_thrown l D cy 22 (Nat.le_refl 22) adY hap.2.1 w τ805 _  _ hw) (cwV 0 hts gzL_law_X12_thrown rfl rfl rfl (by decide +kernel) ⟨Nat.le_of_ble_eq_true rfl, Nat.le_of_ble_eq_true rfl⟩) (hw_preV hK hN1 hW.2.1 (by decide) (bY_0 _) rfl) rfl rfl hl.1 rfl (lv_room (Nat.le_of_ble_eq_true rfl)) dL_law_443 ⟨by show 100 + 3 * j + 2 + 0 ≤ 601024; omega, by show 140000 + 18 * j + 12 + 0 ≤ 7293034; omega⟩) hz hS (fun r807 τ808 H locs hw hW hz hS => ?_)
        obtain ⟨hu_, hw⟩ := hw
        (try dsimp only at hW)
        rw [hu_] at hW
        refine lv_iload hx hb dL_law_446 (lv_at hl 1 rfl) ?_
        refine lv_icmp_eq (tgt := 453) hx hb dL_law_448 (by decide) (fun c810 => ?_) (fun c810 => ?_)
        · have hw := hw.1 c810
          refine lv_iload hx hb dL_law_453 (lv_at hl 1 rfl) ?_
          refine lv_if_ne (tgt := 470) hx hb dL_law_455 (by decide) (fun c811 => ?_) (fun c811 => ?_)
          · have hw := hw.1 c811
            refine lv_goto (tgt := 1037) hx hb dL_law_470 (by decide) ?_
            obtain ⟨x9, ex9⟩ : ∃ z : Int32, z = x4 + (6 : Int32) := ⟨_, rfl⟩
            refine lv_iinc (v := x9) (lv' := [(4, .int x9), (6, .int r804), (5, .int r801), (0, .ref b), (1, .ref (adX 0)), (2, .ref (adY 0)), (3, .ref o)]) hx hb dL_law_1037 hl (k := 6) rfl (by rw [ex9]; rfl) (by decide) rfl (fun ls hl => ?_)
            have hx9 : x9 = nI (6 * (j + 1)) := by rw [ex9, hx4]; exact nI_add (6 * j) 6
            refine lv_goto (tgt := 23) hx hb dL_law_1040 (by decide) ?_
            refine W.widen (k := 100 + 3 * (j + 1)) (n := 140000 + 18 * (j + 1)) (by omega) (by omega) ?_
            exact ih (j + 1) (by omega) (by omega) _ _ _ _ _ _ _ _ hx9 hw hW hz hS (lv_sub hl [3, 4, 5, 6, 0] rfl)
          have hw := hw.2 c811
          refine lv_aload_n hx hb dL_law_458 rfl (lv_at hl 5 rfl) ?_
          refine lv_iconst (v := 0) hx hb dL_law_459 (by decide) ?_
          refine lw_lald hx hb hK hW dL_law_460 ?_
          refine lv_iload hx hb dL_law_461 (lv_at hl 0 rfl) ?_
          refine lv_i2l hx hb dL_law_463 rfl ?_
          refine W.lcmp hx hb dL_law_464 ?_
          refine lv_if_eq (tgt := 470) hx hb dL_law_465 (by decide) (fun c812 => ?_) (fun c812 => ?_)
          · have hw := hw.1 c812
            refine lv_goto (tgt := 1037) hx hb dL_law_470 (by decide) ?_
            obtain ⟨x9, ex9⟩ : ∃ z : Int32, z = x4 + (6 : Int32) := ⟨_, rfl⟩
            refine lv_iinc (v := x9) (lv' := [(4, .int x9), (6, .int r804), (5, .int r801), (0, .ref b), (1, .ref (adX 0)), (2, .ref (adY 0)), (3, .ref o)]) hx hb dL_law_1037 hl (k := 6) rfl (by rw [ex9]; rfl) (by decide) rfl (fun ls hl => ?_)
            have hx9 : x9 = nI (6 * (j + 1)) := by rw [ex9, hx4]; exact nI_add (6 * j) 6
            refine lv_goto (tgt := 23) hx hb dL_law_1040 (by decide) ?_
            refine W.widen (k := 100 + 3 * (j + 1)) (n := 140000 + 18 * (j + 1)) (by omega) (by omega) ?_
            exact ih (j + 1) (by omega) (by omega) _ _ _ _ _ _ _ _ hx9 hw hW hz hS (lv_sub hl [3, 4, 5, 6, 0] rfl)
          have hw := hw.2 c812
          refine lv_iconst (v := 0) hx hb dL_law_468 (by decide) ?_
          exact hw.elim
        have hw := hw.2 c810
        refine lv_iconst (v := 0) hx hb dL_law_451 (by decide) ?_
        exact hw.elim
      have hw := hw.2 c7_7
      by_cases c7_8 : x7 = (8 : Int32)
      · have hw := hw.1 c7_8
        refine lv_tableIn (tgt := 473) hx hb dL_law_40 (by rw [c7_8]; decide) (by rw [c7_8]; decide) (by rw [c7_8]; rfl) (by decide) ?_
        refine lv_aload_n hx hb dL_law_473 rfl (lv_at hl 1 rfl) ?_
        refine lv_aload_n hx hb dL_law_474 rfl (lv_at hl 0 rfl) ?_
        refine lv_iload hx hb dL_law_475 (lv_at hl 4 rfl) ?_
        refine lv_iconst (v := 1) hx hb dL_law_477 (by decide) ?_
        refine lv_iadd hx hb dL_law_478 ?_
        refine lw_sld (k := 1) hx hb hX hbl hS hx4_1 (by omega) hL31 dL_law_479 ?_
        refine lv_aload_n hx hb dL_law_480 rfl (lv_at hl 3 rfl) ?_
        refine lh_ki hap hW (vx_runSW (As := [.ref (adX 0), .int (xs (6 * j + 1)), .ref o]) (rest := []) ⟨hx, hb, hml, hown, hts⟩ (kc_L_course l hfl D cy adX hap.1 o hap.2.2.2.1 σ f _ (xs (6 * j + 1)) _ hw) (vx_cwSW 3 hts gzL_law_L_course rfl rfl rfl (by decide +kernel) ⟨Nat.le_of_ble_eq_true rfl, Nat.le_of_ble_eq_true rfl⟩) (lw_preH (As := [.ref (adX 0), .int (xs (6 * j + 1)), .ref o]) hK hN1 hT hNc hap hW hz hS) rfl rfl hl.1 rfl (lv_room (Nat.le_of_ble_eq_true rfl)) dL_law_481 ⟨by show 100 + 3 * j + 1 ≤ 601024; omega, by show 140000 + 18 * j + 6 ≤ 7293034; omega⟩) hz hS (fun r901 σ902 f903 H locs hw hW hz hS => ?_)
        refine lv_istore (lv' := [(5, .int r901), (0, .ref b), (1, .ref (adX 0)), (2, .ref (adY 0)), (3, .ref o), (4, .int x4)]) hx hb dL_law_484 hl (by decide) rfl (fun ls hl => ?_)
        refine lv_aload_n hx hb dL_law_486 rfl (lv_at hl 3 rfl) ?_
        refine lv_aload_n hx hb dL_law_487 rfl (lv_at hl 1 rfl) ?_
        refine lv_iload hx hb dL_law_488 (lv_at hl 5 rfl) ?_
        refine lv_iconst (v := 1) hx hb dL_law_490 (by decide) ?_
        refine lv_iadd hx hb dL_law_491 ?_
        refine lw_sld (k := 1) hx hb hX hbl hS hx4_1 (by omega) hL31 dL_law_492 ?_
        refine ly_ki (p1 := fun u => u) (p2 := fun _ => w) hap hW (va_runV (As := [.int (xs (6 * j + 1))]) (rest := []) ⟨hx, hb, hml, hown, hts⟩ (kc_X12_course l D cy 22 (Nat.le_refl 22) adY hap.2.1 w τ _ (xs (6 * j + 1)) _ hw) (cwV 1 hts gzL_law_X12_course rfl rfl rfl (by decide +kernel) ⟨Nat.le_of_ble_eq_true rfl, Nat.le_of_ble_eq_true rfl⟩) (hw_preV hK hN1 hW.2.1 (by decide) (bY_0 _) rfl) rfl rfl hl.1 rfl (lv_room (Nat.le_of_ble_eq_true rfl)) dL_law_493 ⟨by show 100 + 3 * j + 1 + 0 ≤ 601024; omega, by show 140000 + 18 * j + 6 + 0 ≤ 7293034; omega⟩) hz hS (fun r904 τ905 H locs hw hW hz hS => ?_)
        (try dsimp only at hW)
        refine lv_istore (lv' := [(6, .int r904), (5, .int r901), (0, .ref b), (1, .ref (adX 0)), (2, .ref (adY 0)), (3, .ref o), (4, .int x4)]) hx hb dL_law_496 hl (by decide) rfl (fun ls hl => ?_)
        refine lv_aload_n hx hb dL_law_498 rfl (lv_at hl 4 rfl) ?_
        refine ly_ki (p1 := fun u => u) (p2 := fun _ => w) hap hW (va_runV (As := []) (rest := []) ⟨hx, hb, hml, hown, hts⟩ (kc_X12_thrown l D cy 22 (Nat.le_refl 22) adY hap.2.1 w τ905 _  _ hw) (cwV 0 hts gzL_law_X12_thrown rfl rfl rfl (by decide +kernel) ⟨Nat.le_of_ble_eq_true rfl, Nat.le_of_ble_eq_true rfl⟩) (hw_preV hK hN1 hW.2.1 (by decide) (bY_0 _) rfl) rfl rfl hl.1 rfl (lv_room (Nat.le_of_ble_eq_true rfl)) dL_law_499 ⟨by show 100 + 3 * j + 1 + 0 ≤ 601024; omega, by show 140000 + 18 * j + 6 + 0 ≤ 7293034; omega⟩) hz hS (fun r907 τ908 H locs hw hW hz hS => ?_)
        obtain ⟨hu_, hw⟩ := hw
        (try dsimp only at hW)
        rw [hu_] at hW
        refine lv_iload hx hb dL_law_502 (lv_at hl 1 rfl) ?_
        refine lv_icmp_eq (tgt := 509) hx hb dL_law_504 (by decide) (fun c910 => ?_) (fun c910 => ?_)
        · have hw := hw.1 c910
          refine lv_iload hx hb dL_law_509 (lv_at hl 1 rfl) ?_
          refine lv_if_ne (tgt := 526) hx hb dL_law_511 (by decide) (fun c911 => ?_) (fun c911 => ?_)
          · have hw := hw.1 c911
            refine lv_goto (tgt := 1037) hx hb dL_law_526 (by decide) ?_
            obtain ⟨x9, ex9⟩ : ∃ z : Int32, z = x4 + (6 : Int32) := ⟨_, rfl⟩
            refine lv_iinc (v := x9) (lv' := [(4, .int x9), (6, .int r904), (5, .int r901), (0, .ref b), (1, .ref (adX 0)), (2, .ref (adY 0)), (3, .ref o)]) hx hb dL_law_1037 hl (k := 6) rfl (by rw [ex9]; rfl) (by decide) rfl (fun ls hl => ?_)
            have hx9 : x9 = nI (6 * (j + 1)) := by rw [ex9, hx4]; exact nI_add (6 * j) 6
            refine lv_goto (tgt := 23) hx hb dL_law_1040 (by decide) ?_
            refine W.widen (k := 100 + 3 * (j + 1)) (n := 140000 + 18 * (j + 1)) (by omega) (by omega) ?_
            exact ih (j + 1) (by omega) (by omega) _ _ _ _ _ _ _ _ hx9 hw hW hz hS (lv_sub hl [3, 4, 5, 6, 0] rfl)
          have hw := hw.2 c911
          refine lv_aload_n hx hb dL_law_514 rfl (lv_at hl 5 rfl) ?_
          refine lv_iconst (v := 0) hx hb dL_law_515 (by decide) ?_
          refine lw_lald hx hb hK hW dL_law_516 ?_
          refine lv_iload hx hb dL_law_517 (lv_at hl 0 rfl) ?_
          refine lv_i2l hx hb dL_law_519 rfl ?_
          refine W.lcmp hx hb dL_law_520 ?_
          refine lv_if_eq (tgt := 526) hx hb dL_law_521 (by decide) (fun c912 => ?_) (fun c912 => ?_)
          · have hw := hw.1 c912
            refine lv_goto (tgt := 1037) hx hb dL_law_526 (by decide) ?_
            obtain ⟨x9, ex9⟩ : ∃ z : Int32, z = x4 + (6 : Int32) := ⟨_, rfl⟩
            refine lv_iinc (v := x9) (lv' := [(4, .int x9), (6, .int r904), (5, .int r901), (0, .ref b), (1, .ref (adX 0)), (2, .ref (adY 0)), (3, .ref o)]) hx hb dL_law_1037 hl (k := 6) rfl (by rw [ex9]; rfl) (by decide) rfl (fun ls hl => ?_)
            have hx9 : x9 = nI (6 * (j + 1)) := by rw [ex9, hx4]; exact nI_add (6 * j) 6
            refine lv_goto (tgt := 23) hx hb dL_law_1040 (by decide) ?_
            refine W.widen (k := 100 + 3 * (j + 1)) (n := 140000 + 18 * (j + 1)) (by omega) (by omega) ?_
            exact ih (j + 1) (by omega) (by omega) _ _ _ _ _ _ _ _ hx9 hw hW hz hS (lv_sub hl [3, 4, 5, 6, 0] rfl)
          have hw := hw.2 c912
          refine lv_iconst (v := 0) hx hb dL_law_524 (by decide) ?_
          exact hw.elim
        have hw := hw.2 c910
        refine lv_iconst (v := 0) hx hb dL_law_507 (by decide) ?_
        exact hw.elim
      have hw := hw.2 c7_8
      by_cases c7_9 : x7 = (9 : Int32)
      · have hw := hw.1 c7_9
        refine lv_tableIn (tgt := 529) hx hb dL_law_40 (by rw [c7_9]; decide) (by rw [c7_9]; decide) (by rw [c7_9]; rfl) (by decide) ?_
        refine lv_aload_n hx hb dL_law_529 rfl (lv_at hl 1 rfl) ?_
        refine lv_aload_n hx hb dL_law_530 rfl (lv_at hl 0 rfl) ?_
        refine lv_iload hx hb dL_law_531 (lv_at hl 4 rfl) ?_
        refine lv_iconst (v := 1) hx hb dL_law_533 (by decide) ?_
        refine lv_iadd hx hb dL_law_534 ?_
        refine lw_sld (k := 1) hx hb hX hbl hS hx4_1 (by omega) hL31 dL_law_535 ?_
        refine lv_aload_n hx hb dL_law_536 rfl (lv_at hl 0 rfl) ?_
        refine lv_iload hx hb dL_law_537 (lv_at hl 4 rfl) ?_
        refine lv_iconst (v := 2) hx hb dL_law_539 (by decide) ?_
        refine lv_iadd hx hb dL_law_540 ?_
        refine lw_sld (k := 2) hx hb hX hbl hS hx4_2 (by omega) hL31 dL_law_541 ?_
        refine lv_aload_n hx hb dL_law_542 rfl (lv_at hl 0 rfl) ?_
        refine lv_iload hx hb dL_law_543 (lv_at hl 4 rfl) ?_
        refine lv_iconst (v := 3) hx hb dL_law_545 (by decide) ?_
        refine lv_iadd hx hb dL_law_546 ?_
        refine lw_sld (k := 3) hx hb hX hbl hS hx4_3 (by omega) hL31 dL_law_547 ?_
        refine lv_aload_n hx hb dL_law_548 rfl (lv_at hl 3 rfl) ?_
        refine lh_ki hap hW (vx_runSW (As := [.ref (adX 0), .int (xs (6 * j + 1)), .int (xs (6 * j + 2)), .int (xs (6 * j + 3)), .ref o]) (rest := []) ⟨hx, hb, hml, hown, hts⟩ (kc_L_line l hfl D cy adX hap.1 o hap.2.2.2.1 σ f _ (xs (6 * j + 1)) (xs (6 * j + 2)) (xs (6 * j + 3)) _ hw) (vx_cwSW 5 hts gzL_law_L_line rfl rfl rfl (by decide +kernel) ⟨Nat.le_of_ble_eq_true rfl, Nat.le_of_ble_eq_true rfl⟩) (lw_preH (As := [.ref (adX 0), .int (xs (6 * j + 1)), .int (xs (6 * j + 2)), .int (xs (6 * j + 3)), .ref o]) hK hN1 hT hNc hap hW hz hS) rfl rfl hl.1 rfl (lv_room (Nat.le_of_ble_eq_true rfl)) dL_law_549 ⟨by show 100 + 3 * j + 2 ≤ 601024; omega, by show 140000 + 18 * j + 12 ≤ 7293034; omega⟩) hz hS (fun r1001 σ1002 f1003 H locs hw hW hz hS => ?_)
        refine lv_istore (lv' := [(5, .int r1001), (0, .ref b), (1, .ref (adX 0)), (2, .ref (adY 0)), (3, .ref o), (4, .int x4)]) hx hb dL_law_552 hl (by decide) rfl (fun ls hl => ?_)
        refine lv_aload_n hx hb dL_law_554 rfl (lv_at hl 3 rfl) ?_
        refine lv_aload_n hx hb dL_law_555 rfl (lv_at hl 1 rfl) ?_
        refine lv_iload hx hb dL_law_556 (lv_at hl 5 rfl) ?_
        refine lv_iconst (v := 1) hx hb dL_law_558 (by decide) ?_
        refine lv_iadd hx hb dL_law_559 ?_
        refine lw_sld (k := 1) hx hb hX hbl hS hx4_1 (by omega) hL31 dL_law_560 ?_
        refine lv_aload_n hx hb dL_law_561 rfl (lv_at hl 1 rfl) ?_
        refine lv_iload hx hb dL_law_562 (lv_at hl 5 rfl) ?_
        refine lv_iconst (v := 2) hx hb dL_law_564 (by decide) ?_
        refine lv_iadd hx hb dL_law_565 ?_
        refine lw_sld (k := 2) hx hb hX hbl hS hx4_2 (by omega) hL31 dL_law_566 ?_
        refine lv_aload_n hx hb dL_law_567 rfl (lv_at hl 1 rfl) ?_
        refine lv_iload hx hb dL_law_568 (lv_at hl 5 rfl) ?_
        refine lv_iconst (v := 3) hx hb dL_law_570 (by decide) ?_
        refine lv_iadd hx hb dL_law_571 ?_
        refine lw_sld (k := 3) hx hb hX hbl hS hx4_3 (by omega) hL31 dL_law_572 ?_
        refine ly_ki (p1 := fun u => u) (p2 := fun _ => w) hap hW (va_runV (As := [.int (xs (6 * j + 1)), .int (xs (6 * j + 2)), .int (xs (6 * j + 3))]) (rest := []) ⟨hx, hb, hml, hown, hts⟩ (kc_X12_line l D cy 22 (Nat.le_refl 22) adY hap.2.1 w τ _ (xs (6 * j + 1)) (xs (6 * j + 2)) (xs (6 * j + 3)) _ hw) (cwV 3 hts gzL_law_X12_line rfl rfl rfl (by decide +kernel) ⟨Nat.le_of_ble_eq_true rfl, Nat.le_of_ble_eq_true rfl⟩) (hw_preV hK hN1 hW.2.1 (by decide) (bY_0 _) rfl) rfl rfl hl.1 rfl (lv_room (Nat.le_of_ble_eq_true rfl)) dL_law_573 ⟨by show 100 + 3 * j + 2 + 0 ≤ 601024; omega, by show 140000 + 18 * j + 12 + 0 ≤ 7293034; omega⟩) hz hS (fun r1004 τ1005 H locs hw hW hz hS => ?_)
        (try dsimp only at hW)
        refine lv_istore (lv' := [(6, .int r1004), (5, .int r1001), (0, .ref b), (1, .ref (adX 0)), (2, .ref (adY 0)), (3, .ref o), (4, .int x4)]) hx hb dL_law_576 hl (by decide) rfl (fun ls hl => ?_)
        refine lv_aload_n hx hb dL_law_578 rfl (lv_at hl 4 rfl) ?_
        refine ly_ki (p1 := fun u => u) (p2 := fun _ => w) hap hW (va_runV (As := []) (rest := []) ⟨hx, hb, hml, hown, hts⟩ (kc_X12_thrown l D cy 22 (Nat.le_refl 22) adY hap.2.1 w τ1005 _  _ hw) (cwV 0 hts gzL_law_X12_thrown rfl rfl rfl (by decide +kernel) ⟨Nat.le_of_ble_eq_true rfl, Nat.le_of_ble_eq_true rfl⟩) (hw_preV hK hN1 hW.2.1 (by decide) (bY_0 _) rfl) rfl rfl hl.1 rfl (lv_room (Nat.le_of_ble_eq_true rfl)) dL_law_579 ⟨by show 100 + 3 * j + 2 + 0 ≤ 601024; omega, by show 140000 + 18 * j + 12 + 0 ≤ 7293034; omega⟩) hz hS (fun r1007 τ1008 H locs hw hW hz hS => ?_)
        obtain ⟨hu_, hw⟩ := hw
        (try dsimp only at hW)
        rw [hu_] at hW
        refine lv_iload hx hb dL_law_582 (lv_at hl 1 rfl) ?_
        refine lv_icmp_eq (tgt := 589) hx hb dL_law_584 (by decide) (fun c1010 => ?_) (fun c1010 => ?_)
        · have hw := hw.1 c1010
          refine lv_iload hx hb dL_law_589 (lv_at hl 1 rfl) ?_
          refine lv_if_ne (tgt := 606) hx hb dL_law_591 (by decide) (fun c1011 => ?_) (fun c1011 => ?_)
          · have hw := hw.1 c1011
            refine lv_goto (tgt := 1037) hx hb dL_law_606 (by decide) ?_
            obtain ⟨x9, ex9⟩ : ∃ z : Int32, z = x4 + (6 : Int32) := ⟨_, rfl⟩
            refine lv_iinc (v := x9) (lv' := [(4, .int x9), (6, .int r1004), (5, .int r1001), (0, .ref b), (1, .ref (adX 0)), (2, .ref (adY 0)), (3, .ref o)]) hx hb dL_law_1037 hl (k := 6) rfl (by rw [ex9]; rfl) (by decide) rfl (fun ls hl => ?_)
            have hx9 : x9 = nI (6 * (j + 1)) := by rw [ex9, hx4]; exact nI_add (6 * j) 6
            refine lv_goto (tgt := 23) hx hb dL_law_1040 (by decide) ?_
            refine W.widen (k := 100 + 3 * (j + 1)) (n := 140000 + 18 * (j + 1)) (by omega) (by omega) ?_
            exact ih (j + 1) (by omega) (by omega) _ _ _ _ _ _ _ _ hx9 hw hW hz hS (lv_sub hl [3, 4, 5, 6, 0] rfl)
          have hw := hw.2 c1011
          refine lv_aload_n hx hb dL_law_594 rfl (lv_at hl 5 rfl) ?_
          refine lv_iconst (v := 0) hx hb dL_law_595 (by decide) ?_
          refine lw_lald hx hb hK hW dL_law_596 ?_
          refine lv_iload hx hb dL_law_597 (lv_at hl 0 rfl) ?_
          refine lv_i2l hx hb dL_law_599 rfl ?_
          refine W.lcmp hx hb dL_law_600 ?_
          refine lv_if_eq (tgt := 606) hx hb dL_law_601 (by decide) (fun c1012 => ?_) (fun c1012 => ?_)
          · have hw := hw.1 c1012
            refine lv_goto (tgt := 1037) hx hb dL_law_606 (by decide) ?_
            obtain ⟨x9, ex9⟩ : ∃ z : Int32, z = x4 + (6 : Int32) := ⟨_, rfl⟩
            refine lv_iinc (v := x9) (lv' := [(4, .int x9), (6, .int r1004), (5, .int r1001), (0, .ref b), (1, .ref (adX 0)), (2, .ref (adY 0)), (3, .ref o)]) hx hb dL_law_1037 hl (k := 6) rfl (by rw [ex9]; rfl) (by decide) rfl (fun ls hl => ?_)
            have hx9 : x9 = nI (6 * (j + 1)) := by rw [ex9, hx4]; exact nI_add (6 * j) 6
            refine lv_goto (tgt := 23) hx hb dL_law_1040 (by decide) ?_
            refine W.widen (k := 100 + 3 * (j + 1)) (n := 140000 + 18 * (j + 1)) (by omega) (by omega) ?_
            exact ih (j + 1) (by omega) (by omega) _ _ _ _ _ _ _ _ hx9 hw hW hz hS (lv_sub hl [3, 4, 5, 6, 0] rfl)
          have hw := hw.2 c1012
          refine lv_iconst (v := 0) hx hb dL_law_604 (by decide) ?_
          exact hw.elim
        have hw := hw.2 c1010
        refine lv_iconst (v := 0) hx hb dL_law_587 (by decide) ?_
        exact hw.elim
      have hw := hw.2 c7_9
      by_cases c7_10 : x7 = (10 : Int32)
      · have hw := hw.1 c7_10
        refine lv_tableIn (tgt := 609) hx hb dL_law_40 (by rw [c7_10]; decide) (by rw [c7_10]; decide) (by rw [c7_10]; rfl) (by decide) ?_
        refine lv_aload_n hx hb dL_law_609 rfl (lv_at hl 1 rfl) ?_
        refine lv_aload_n hx hb dL_law_610 rfl (lv_at hl 0 rfl) ?_
        refine lv_iload hx hb dL_law_611 (lv_at hl 4 rfl) ?_
        refine lv_iconst (v := 1) hx hb dL_law_613 (by decide) ?_
        refine lv_iadd hx hb dL_law_614 ?_
        refine lw_sld (k := 1) hx hb hX hbl hS hx4_1 (by omega) hL31 dL_law_615 ?_
        refine lv_aload_n hx hb dL_law_616 rfl (lv_at hl 0 rfl) ?_
        refine lv_iload hx hb dL_law_617 (lv_at hl 4 rfl) ?_
        refine lv_iconst (v := 2) hx hb dL_law_619 (by decide) ?_
        refine lv_iadd hx hb dL_law_620 ?_
        refine lw_sld (k := 2) hx hb hX hbl hS hx4_2 (by omega) hL31 dL_law_621 ?_
        refine lv_aload_n hx hb dL_law_622 rfl (lv_at hl 3 rfl) ?_
        refine lh_ki hap hW (vx_runSW (As := [.ref (adX 0), .int (xs (6 * j + 1)), .int (xs (6 * j + 2)), .ref o]) (rest := []) ⟨hx, hb, hml, hown, hts⟩ (kc_L_falseHeads l hfl D cy adX hap.1 o hap.2.2.2.1 σ f _ (xs (6 * j + 1)) (xs (6 * j + 2)) _ hw) (vx_cwSW 4 hts gzL_law_L_falseHeads rfl rfl rfl (by decide +kernel) ⟨Nat.le_of_ble_eq_true rfl, Nat.le_of_ble_eq_true rfl⟩) (lw_preH (As := [.ref (adX 0), .int (xs (6 * j + 1)), .int (xs (6 * j + 2)), .ref o]) hK hN1 hT hNc hap hW hz hS) rfl rfl hl.1 rfl (lv_room (Nat.le_of_ble_eq_true rfl)) dL_law_623 ⟨by show 100 + 3 * j + 2 ≤ 601024; omega, by show 140000 + 18 * j + 12 ≤ 7293034; omega⟩) hz hS (fun r1101 σ1102 f1103 H locs hw hW hz hS => ?_)
        refine lv_istore (lv' := [(5, .int r1101), (0, .ref b), (1, .ref (adX 0)), (2, .ref (adY 0)), (3, .ref o), (4, .int x4)]) hx hb dL_law_626 hl (by decide) rfl (fun ls hl => ?_)
        refine lv_aload_n hx hb dL_law_628 rfl (lv_at hl 3 rfl) ?_
        refine lv_aload_n hx hb dL_law_629 rfl (lv_at hl 1 rfl) ?_
        refine lv_iload hx hb dL_law_630 (lv_at hl 5 rfl) ?_
        refine lv_iconst (v := 1) hx hb dL_law_632 (by decide) ?_
        refine lv_iadd hx hb dL_law_633 ?_
        refine lw_sld (k := 1) hx hb hX hbl hS hx4_1 (by omega) hL31 dL_law_634 ?_
        refine lv_aload_n hx hb dL_law_635 rfl (lv_at hl 1 rfl) ?_
        refine lv_iload hx hb dL_law_636 (lv_at hl 5 rfl) ?_
        refine lv_iconst (v := 2) hx hb dL_law_638 (by decide) ?_
        refine lv_iadd hx hb dL_law_639 ?_
        refine lw_sld (k := 2) hx hb hX hbl hS hx4_2 (by omega) hL31 dL_law_640 ?_
        refine ly_ki (p1 := fun u => u) (p2 := fun _ => w) hap hW (va_runV (As := [.int (xs (6 * j + 1)), .int (xs (6 * j + 2))]) (rest := []) ⟨hx, hb, hml, hown, hts⟩ (kc_X12_falseHeads l D cy 22 (Nat.le_refl 22) adY hap.2.1 w τ _ (xs (6 * j + 1)) (xs (6 * j + 2)) _ hw) (cwV 2 hts gzL_law_X12_falseHeads rfl rfl rfl (by decide +kernel) ⟨Nat.le_of_ble_eq_true rfl, Nat.le_of_ble_eq_true rfl⟩) (hw_preV hK hN1 hW.2.1 (by decide) (bY_0 _) rfl) rfl rfl hl.1 rfl (lv_room (Nat.le_of_ble_eq_true rfl)) dL_law_641 ⟨by show 100 + 3 * j + 2 + 0 ≤ 601024; omega, by show 140000 + 18 * j + 12 + 0 ≤ 7293034; omega⟩) hz hS (fun r1104 τ1105 H locs hw hW hz hS => ?_)
        (try dsimp only at hW)
        refine lv_istore (lv' := [(6, .int r1104), (5, .int r1101), (0, .ref b), (1, .ref (adX 0)), (2, .ref (adY 0)), (3, .ref o), (4, .int x4)]) hx hb dL_law_644 hl (by decide) rfl (fun ls hl => ?_)
        refine lv_aload_n hx hb dL_law_646 rfl (lv_at hl 4 rfl) ?_
        refine ly_ki (p1 := fun u => u) (p2 := fun _ => w) hap hW (va_runV (As := []) (rest := []) ⟨hx, hb, hml, hown, hts⟩ (kc_X12_thrown l D cy 22 (Nat.le_refl 22) adY hap.2.1 w τ1105 _  _ hw) (cwV 0 hts gzL_law_X12_thrown rfl rfl rfl (by decide +kernel) ⟨Nat.le_of_ble_eq_true rfl, Nat.le_of_ble_eq_true rfl⟩) (hw_preV hK hN1 hW.2.1 (by decide) (bY_0 _) rfl) rfl rfl hl.1 rfl (lv_room (Nat.le_of_ble_eq_true rfl)) dL_law_647 ⟨by show 100 + 3 * j + 2 + 0 ≤ 601024; omega, by show 140000 + 18 * j + 12 + 0 ≤ 7293034; omega⟩) hz hS (fun r1107 τ1108 H locs hw hW hz hS => ?_)
        obtain ⟨hu_, hw⟩ := hw
        (try dsimp only at hW)
        rw [hu_] at hW
        refine lv_iload hx hb dL_law_650 (lv_at hl 1 rfl) ?_
        refine lv_icmp_eq (tgt := 657) hx hb dL_law_652 (by decide) (fun c1110 => ?_) (fun c1110 => ?_)
        · have hw := hw.1 c1110
          refine lv_iload hx hb dL_law_657 (lv_at hl 1 rfl) ?_
          refine lv_if_ne (tgt := 674) hx hb dL_law_659 (by decide) (fun c1111 => ?_) (fun c1111 => ?_)
          · have hw := hw.1 c1111
            refine lv_goto (tgt := 1037) hx hb dL_law_674 (by decide) ?_
            obtain ⟨x9, ex9⟩ : ∃ z : Int32, z = x4 + (6 : Int32) := ⟨_, rfl⟩
            refine lv_iinc (v := x9) (lv' := [(4, .int x9), (6, .int r1104), (5, .int r1101), (0, .ref b), (1, .ref (adX 0)), (2, .ref (adY 0)), (3, .ref o)]) hx hb dL_law_1037 hl (k := 6) rfl (by rw [ex9]; rfl) (by decide) rfl (fun ls hl => ?_)
            have hx9 : x9 = nI (6 * (j + 1)) := by rw [ex9, hx4]; exact nI_add (6 * j) 6
            refine lv_goto (tgt := 23) hx hb dL_law_1040 (by decide) ?_
            refine W.widen (k := 100 + 3 * (j + 1)) (n := 140000 + 18 * (j + 1)) (by omega) (by omega) ?_
            exact ih (j + 1) (by omega) (by omega) _ _ _ _ _ _ _ _ hx9 hw hW hz hS (lv_sub hl [3, 4, 5, 6, 0] rfl)
          have hw := hw.2 c1111
          refine lv_aload_n hx hb dL_law_662 rfl (lv_at hl 5 rfl) ?_
          refine lv_iconst (v := 0) hx hb dL_law_663 (by decide) ?_
          refine lw_lald hx hb hK hW dL_law_664 ?_
          refine lv_iload hx hb dL_law_665 (lv_at hl 0 rfl) ?_
          refine lv_i2l hx hb dL_law_667 rfl ?_
          refine W.lcmp hx hb dL_law_668 ?_
          refine lv_if_eq (tgt := 674) hx hb dL_law_669 (by decide) (fun c1112 => ?_) (fun c1112 => ?_)
          · have hw := hw.1 c1112
            refine lv_goto (tgt := 1037) hx hb dL_law_674 (by decide) ?_
            obtain ⟨x9, ex9⟩ : ∃ z : Int32, z = x4 + (6 : Int32) := ⟨_, rfl⟩
            refine lv_iinc (v := x9) (lv' := [(4, .int x9), (6, .int r1104), (5, .int r1101), (0, .ref b), (1, .ref (adX 0)), (2, .ref (adY 0)), (3, .ref o)]) hx hb dL_law_1037 hl (k := 6) rfl (by rw [ex9]; rfl) (by decide) rfl (fun ls hl => ?_)
            have hx9 : x9 = nI (6 * (j + 1)) := by rw [ex9, hx4]; exact nI_add (6 * j) 6
            refine lv_goto (tgt := 23) hx hb dL_law_1040 (by decide) ?_
            refine W.widen (k := 100 + 3 * (j + 1)) (n := 140000 + 18 * (j + 1)) (by omega) (by omega) ?_
            exact ih (j + 1) (by omega) (by omega) _ _ _ _ _ _ _ _ hx9 hw hW hz hS (lv_sub hl [3, 4, 5, 6, 0] rfl)
          have hw := hw.2 c1112
          refine lv_iconst (v := 0) hx hb dL_law_672 (by decide) ?_
          exact hw.elim
        have hw := hw.2 c1110
        refine lv_iconst (v := 0) hx hb dL_law_655 (by decide) ?_
        exact hw.elim
      have hw := hw.2 c7_10
      by_cases c7_11 : x7 = (11 : Int32)
      · have hw := hw.1 c7_11
        refine lv_tableIn (tgt := 677) hx hb dL_law_40 (by rw [c7_11]; decide) (by rw [c7_11]; decide) (by rw [c7_11]; rfl) (by decide) ?_
        refine lv_aload_n hx hb dL_law_677 rfl (lv_at hl 1 rfl) ?_
        refine lv_aload_n hx hb dL_law_678 rfl (lv_at hl 0 rfl) ?_
        refine lv_iload hx hb dL_law_679 (lv_at hl 4 rfl) ?_
        refine lv_iconst (v := 1) hx hb dL_law_681 (by decide) ?_
        refine lv_iadd hx hb dL_law_682 ?_
        refine lw_sld (k := 1) hx hb hX hbl hS hx4_1 (by omega) hL31 dL_law_683 ?_
        refine lv_aload_n hx hb dL_law_684 rfl (lv_at hl 0 rfl) ?_
        refine lv_iload hx hb dL_law_685 (lv_at hl 4 rfl) ?_
        refine lv_iconst (v := 2) hx hb dL_law_687 (by decide) ?_
        refine lv_iadd hx hb dL_law_688 ?_
        refine lw_sld (k := 2) hx hb hX hbl hS hx4_2 (by omega) hL31 dL_law_689 ?_
        refine lv_aload_n hx hb dL_law_690 rfl (lv_at hl 0 rfl) ?_
        refine lv_iload hx hb dL_law_691 (lv_at hl 4 rfl) ?_
        refine lv_iconst (v := 3) hx hb dL_law_693 (by decide) ?_
        refine lv_iadd hx hb dL_law_694 ?_
        refine lw_sld (k := 3) hx hb hX hbl hS hx4_3 (by omega) hL31 dL_law_695 ?_
        refine lv_aload_n hx hb dL_law_696 rfl (lv_at hl 3 rfl) ?_
        refine lh_ki hap hW (vx_runSW (As := [.ref (adX 0), .int (xs (6 * j + 1)), .int (xs (6 * j + 2)), .int (xs (6 * j + 3)), .ref o]) (rest := []) ⟨hx, hb, hml, hown, hts⟩ (kc_L_falseHead l hfl D cy adX hap.1 o hap.2.2.2.1 σ f _ (xs (6 * j + 1)) (xs (6 * j + 2)) (xs (6 * j + 3)) _ hw) (vx_cwSW 5 hts gzL_law_L_falseHead rfl rfl rfl (by decide +kernel) ⟨Nat.le_of_ble_eq_true rfl, Nat.le_of_ble_eq_true rfl⟩) (lw_preH (As := [.ref (adX 0), .int (xs (6 * j + 1)), .int (xs (6 * j + 2)), .int (xs (6 * j + 3)), .ref o]) hK hN1 hT hNc hap hW hz hS) rfl rfl hl.1 rfl (lv_room (Nat.le_of_ble_eq_true rfl)) dL_law_697 ⟨by show 100 + 3 * j + 2 ≤ 601024; omega, by show 140000 + 18 * j + 12 ≤ 7293034; omega⟩) hz hS (fun r1201 σ1202 f1203 H locs hw hW hz hS => ?_)
        refine lv_istore (lv' := [(5, .int r1201), (0, .ref b), (1, .ref (adX 0)), (2, .ref (adY 0)), (3, .ref o), (4, .int x4)]) hx hb dL_law_700 hl (by decide) rfl (fun ls hl => ?_)
        refine lv_aload_n hx hb dL_law_702 rfl (lv_at hl 3 rfl) ?_
        refine lv_aload_n hx hb dL_law_703 rfl (lv_at hl 1 rfl) ?_
        refine lv_iload hx hb dL_law_704 (lv_at hl 5 rfl) ?_
        refine lv_iconst (v := 1) hx hb dL_law_706 (by decide) ?_
        refine lv_iadd hx hb dL_law_707 ?_
        refine lw_sld (k := 1) hx hb hX hbl hS hx4_1 (by omega) hL31 dL_law_708 ?_
        refine lv_aload_n hx hb dL_law_709 rfl (lv_at hl 1 rfl) ?_
        refine lv_iload hx hb dL_law_710 (lv_at hl 5 rfl) ?_
        refine lv_iconst (v := 2) hx hb dL_law_712 (by decide) ?_
        refine lv_iadd hx hb dL_law_713 ?_
        refine lw_sld (k := 2) hx hb hX hbl hS hx4_2 (by omega) hL31 dL_law_714 ?_
        refine lv_aload_n hx hb dL_law_715 rfl (lv_at hl 1 rfl) ?_
        refine lv_iload hx hb dL_law_716 (lv_at hl 5 rfl) ?_
        refine lv_iconst (v := 3) hx hb dL_law_718 (by decide) ?_
        refine lv_iadd hx hb dL_law_719 ?_
        refine lw_sld (k := 3) hx hb hX hbl hS hx4_3 (by omega) hL31 dL_law_720 ?_
        refine ly_ki (p1 := fun u => u) (p2 := fun _ => w) hap hW (va_runV (As := [.int (xs (6 * j + 1)), .int (xs (6 * j + 2)), .int (xs (6 * j + 3))]) (rest := []) ⟨hx, hb, hml, hown, hts⟩ (kc_X12_falseHead l D cy 22 (Nat.le_refl 22) adY hap.2.1 w τ _ (xs (6 * j + 1)) (xs (6 * j + 2)) (xs (6 * j + 3)) _ hw) (cwV 3 hts gzL_law_X12_falseHead rfl rfl rfl (by decide +kernel) ⟨Nat.le_of_ble_eq_true rfl, Nat.le_of_ble_eq_true rfl⟩) (hw_preV hK hN1 hW.2.1 (by decide) (bY_0 _) rfl) rfl rfl hl.1 rfl (lv_room (Nat.le_of_ble_eq_true rfl)) dL_law_721 ⟨by show 100 + 3 * j + 2 + 0 ≤ 601024; omega, by show 140000 + 18 * j + 12 + 0 ≤ 7293034; omega⟩) hz hS (fun r1204 τ1205 H locs hw hW hz hS => ?_)
        (try dsimp only at hW)
        refine lv_istore (lv' := [(6, .int r1204), (5, .int r1201), (0, .ref b), (1, .ref (adX 0)), (2, .ref (adY 0)), (3, .ref o), (4, .int x4)]) hx hb dL_law_724 hl (by decide) rfl (fun ls hl => ?_)
        refine lv_aload_n hx hb dL_law_726 rfl (lv_at hl 4 rfl) ?_
        refine ly_ki (p1 := fun u => u) (p2 := fun _ => w) hap hW (va_runV (As := []) (rest := []) ⟨hx, hb, hml, hown, hts⟩ (kc_X12_thrown l D cy 22 (Nat.le_refl 22) adY hap.2.1 w τ1205 _  _ hw) (cwV 0 hts gzL_law_X12_thrown rfl rfl rfl (by decide +kernel) ⟨Nat.le_of_ble_eq_true rfl, Nat.le_of_ble_eq_true rfl⟩) (hw_preV hK hN1 hW.2.1 (by decide) (bY_0 _) rfl) rfl rfl hl.1 rfl (lv_room (Nat.le_of_ble_eq_true rfl)) dL_law_727 ⟨by show 100 + 3 * j + 2 + 0 ≤ 601024; omega, by show 140000 + 18 * j + 12 + 0 ≤ 7293034; omega⟩) hz hS (fun r1207 τ1208 H locs hw hW hz hS => ?_)
        obtain ⟨hu_, hw⟩ := hw
        (try dsimp only at hW)
        rw [hu_] at hW
        refine lv_iload hx hb dL_law_730 (lv_at hl 1 rfl) ?_
        refine lv_icmp_eq (tgt := 737) hx hb dL_law_732 (by decide) (fun c1210 => ?_) (fun c1210 => ?_)
        · have hw := hw.1 c1210
          refine lv_iload hx hb dL_law_737 (lv_at hl 1 rfl) ?_
          refine lv_if_ne (tgt := 754) hx hb dL_law_739 (by decide) (fun c1211 => ?_) (fun c1211 => ?_)
          · have hw := hw.1 c1211
            refine lv_goto (tgt := 1037) hx hb dL_law_754 (by decide) ?_
            obtain ⟨x9, ex9⟩ : ∃ z : Int32, z = x4 + (6 : Int32) := ⟨_, rfl⟩
            refine lv_iinc (v := x9) (lv' := [(4, .int x9), (6, .int r1204), (5, .int r1201), (0, .ref b), (1, .ref (adX 0)), (2, .ref (adY 0)), (3, .ref o)]) hx hb dL_law_1037 hl (k := 6) rfl (by rw [ex9]; rfl) (by decide) rfl (fun ls hl => ?_)
            have hx9 : x9 = nI (6 * (j + 1)) := by rw [ex9, hx4]; exact nI_add (6 * j) 6
            refine lv_goto (tgt := 23) hx hb dL_law_1040 (by decide) ?_
            refine W.widen (k := 100 + 3 * (j + 1)) (n := 140000 + 18 * (j + 1)) (by omega) (by omega) ?_
            exact ih (j + 1) (by omega) (by omega) _ _ _ _ _ _ _ _ hx9 hw hW hz hS (lv_sub hl [3, 4, 5, 6, 0] rfl)
          have hw := hw.2 c1211
          refine lv_aload_n hx hb dL_law_742 rfl (lv_at hl 5 rfl) ?_
          refine lv_iconst (v := 0) hx hb dL_law_743 (by decide) ?_
          refine lw_lald hx hb hK hW dL_law_744 ?_
          refine lv_iload hx hb dL_law_745 (lv_at hl 0 rfl) ?_
          refine lv_i2l hx hb dL_law_747 rfl ?_
          refine W.lcmp hx hb dL_law_748 ?_
          refine lv_if_eq (tgt := 754) hx hb dL_law_749 (by decide) (fun c1212 => ?_) (fun c1212 => ?_)
          · have hw := hw.1 c1212
            refine lv_goto (tgt := 1037) hx hb dL_law_754 (by decide) ?_
            obtain ⟨x9, ex9⟩ : ∃ z : Int32, z = x4 + (6 : Int32) := ⟨_, rfl⟩
            refine lv_iinc (v := x9) (lv' := [(4, .int x9), (6, .int r1204), (5, .int r1201), (0, .ref b), (1, .ref (adX 0)), (2, .ref (adY 0)), (3, .ref o)]) hx hb dL_law_1037 hl (k := 6) rfl (by rw [ex9]; rfl) (by decide) rfl (fun ls hl => ?_)
            have hx9 : x9 = nI (6 * (j + 1)) := by rw [ex9, hx4]; exact nI_add (6 * j) 6
            refine lv_goto (tgt := 23) hx hb dL_law_1040 (by decide) ?_
            refine W.widen (k := 100 + 3 * (j + 1)) (n := 140000 + 18 * (j + 1)) (by omega) (by omega) ?_
            exact ih (j + 1) (by omega) (by omega) _ _ _ _ _ _ _ _ hx9 hw hW hz hS (lv_sub hl [3, 4, 5, 6, 0] rfl)
          have hw := hw.2 c1212
          refine lv_iconst (v := 0) hx hb dL_law_752 (by decide) ?_
          exact hw.elim
        have hw := hw.2 c1210
        refine lv_iconst (v := 0) hx hb dL_law_735 (by decide) ?_
        exact hw.elim
      have hw := hw.2 c7_11
      by_cases c7_12 : x7 = (12 : Int32)
      · have hw := hw.1 c7_12
        refine lv_tableIn (tgt := 757) hx hb dL_law_40 (by rw [c7_12]; decide) (by rw [c7_12]; decide) (by rw [c7_12]; rfl) (by decide) ?_
        refine lv_aload_n hx hb dL_law_757 rfl (lv_at hl 1 rfl) ?_
        refine lv_aload_n hx hb dL_law_758 rfl (lv_at hl 0 rfl) ?_
        refine lv_iload hx hb dL_law_759 (lv_at hl 4 rfl) ?_
        refine lv_iconst (v := 1) hx hb dL_law_761 (by decide) ?_
        refine lv_iadd hx hb dL_law_762 ?_
        refine lw_sld (k := 1) hx hb hX hbl hS hx4_1 (by omega) hL31 dL_law_763 ?_
        refine lx_ki (p1 := fun u => u) hap hW (va_runV (As := [.int (xs (6 * j + 1))]) (rest := []) ⟨hx, hb, hml, hown, hts⟩ (kc_X11_touch l D cy 38 (Nat.le_refl 38) adX hap.1 σ _ (xs (6 * j + 1)) _ hw) (cwV 1 hts gzL_law_X11_touch rfl rfl rfl (by decide +kernel) ⟨Nat.le_of_ble_eq_true rfl, Nat.le_of_ble_eq_true rfl⟩) (hw_preV hK hN1 hW.1 (by decide) (bX_0 _) rfl) rfl rfl hl.1 rfl (lv_room (Nat.le_of_ble_eq_true rfl)) dL_law_764 ⟨by show 100 + 3 * j + 0 ≤ 601024; omega, by show 140000 + 18 * j + 0 ≤ 7293034; omega⟩) hz hS (fun r1301 σ1302 H locs hw hW hz hS => ?_)
        (try dsimp only at hW)
        refine lv_aload_n hx hb dL_law_767 rfl (lv_at hl 2 rfl) ?_
        refine lv_aload_n hx hb dL_law_768 rfl (lv_at hl 0 rfl) ?_
        refine lv_iload hx hb dL_law_769 (lv_at hl 4 rfl) ?_
        refine lv_iconst (v := 1) hx hb dL_law_771 (by decide) ?_
        refine lv_iadd hx hb dL_law_772 ?_
        refine lw_sld (k := 1) hx hb hX hbl hS hx4_1 (by omega) hL31 dL_law_773 ?_
        refine ly_ki (p1 := fun (u : hSt × (Nat → Int64)) => u.1) (p2 := fun (u : hSt × (Nat → Int64)) => u.2) hap hW (va_runV (As := [.int (xs (6 * j + 1))]) (rest := [.int r1301]) ⟨hx, hb, hml, hown, hts⟩ (kc_X12_touch l D cy 22 (Nat.le_refl 22) adY hap.2.1 w τ _ (xs (6 * j + 1)) _ hw) (cwV 1 hts gzL_law_X12_touch rfl rfl rfl (by decide +kernel) ⟨Nat.le_of_ble_eq_true rfl, Nat.le_of_ble_eq_true rfl⟩) (hw_preV hK hN1 hW.2.1 (by decide) (bY_0 _) rfl) rfl rfl hl.1 rfl (lv_room (Nat.le_of_ble_eq_true rfl)) dL_law_774 ⟨by show 100 + 3 * j + 0 ≤ 601024; omega, by show 140000 + 18 * j + 0 ≤ 7293034; omega⟩) hz hS (fun r1303 u_ H locs hw hW hz hS => ?_)
        obtain ⟨τ1304, w1305⟩ := u_
        (try dsimp only at hW)
        refine lv_icmp_eq (tgt := 1037) hx hb dL_law_777 (by decide) (fun c1306 => ?_) (fun c1306 => ?_)
        · have hw := hw.1 c1306
          obtain ⟨x9, ex9⟩ : ∃ z : Int32, z = x4 + (6 : Int32) := ⟨_, rfl⟩
          refine lv_iinc (v := x9) (lv' := [(4, .int x9), (0, .ref b), (1, .ref (adX 0)), (2, .ref (adY 0)), (3, .ref o)]) hx hb dL_law_1037 hl (k := 4) rfl (by rw [ex9]; rfl) (by decide) rfl (fun ls hl => ?_)
          have hx9 : x9 = nI (6 * (j + 1)) := by rw [ex9, hx4]; exact nI_add (6 * j) 6
          refine lv_goto (tgt := 23) hx hb dL_law_1040 (by decide) ?_
          refine W.widen (k := 100 + 3 * (j + 1)) (n := 140000 + 18 * (j + 1)) (by omega) (by omega) ?_
          exact ih (j + 1) (by omega) (by omega) _ _ _ _ _ _ _ _ hx9 hw hW hz hS (lv_sub hl [1, 2, 3, 4, 0] rfl)
        have hw := hw.2 c1306
        refine lv_iconst (v := 0) hx hb dL_law_780 (by decide) ?_
        exact hw.elim
      have hw := hw.2 c7_12
      by_cases c7_13 : x7 = (13 : Int32)
      · have hw := hw.1 c7_13
        refine lv_tableIn (tgt := 782) hx hb dL_law_40 (by rw [c7_13]; decide) (by rw [c7_13]; decide) (by rw [c7_13]; rfl) (by decide) ?_
        refine lv_aload_n hx hb dL_law_782 rfl (lv_at hl 1 rfl) ?_
        refine lv_aload_n hx hb dL_law_783 rfl (lv_at hl 0 rfl) ?_
        refine lv_iload hx hb dL_law_784 (lv_at hl 4 rfl) ?_
        refine lv_iconst (v := 1) hx hb dL_law_786 (by decide) ?_
        refine lv_iadd hx hb dL_law_787 ?_
        refine lw_sld (k := 1) hx hb hX hbl hS hx4_1 (by omega) hL31 dL_law_788 ?_
        refine lv_aload_n hx hb dL_law_789 rfl (lv_at hl 0 rfl) ?_
        refine lv_iload hx hb dL_law_790 (lv_at hl 4 rfl) ?_
        refine lv_iconst (v := 2) hx hb dL_law_792 (by decide) ?_
        refine lv_iadd hx hb dL_law_793 ?_
        refine lw_sld (k := 2) hx hb hX hbl hS hx4_2 (by omega) hL31 dL_law_794 ?_
        refine lv_aload_n hx hb dL_law_795 rfl (lv_at hl 3 rfl) ?_
        refine lh_ki hap hW (vx_runSW (As := [.ref (adX 0), .int (xs (6 * j + 1)), .int (xs (6 * j + 2)), .ref o]) (rest := []) ⟨hx, hb, hml, hown, hts⟩ (kc_L_called l hfl D cy adX hap.1 o hap.2.2.2.1 σ f _ (xs (6 * j + 1)) (xs (6 * j + 2)) _ hw) (vx_cwSW 4 hts gzL_law_L_called rfl rfl rfl (by decide +kernel) ⟨Nat.le_of_ble_eq_true rfl, Nat.le_of_ble_eq_true rfl⟩) (lw_preH (As := [.ref (adX 0), .int (xs (6 * j + 1)), .int (xs (6 * j + 2)), .ref o]) hK hN1 hT hNc hap hW hz hS) rfl rfl hl.1 rfl (lv_room (Nat.le_of_ble_eq_true rfl)) dL_law_796 ⟨by show 100 + 3 * j + 1 ≤ 601024; omega, by show 140000 + 18 * j + 6 ≤ 7293034; omega⟩) hz hS (fun r1401 σ1402 f1403 H locs hw hW hz hS => ?_)
        refine lv_istore (lv' := [(5, .int r1401), (0, .ref b), (1, .ref (adX 0)), (2, .ref (adY 0)), (3, .ref o), (4, .int x4)]) hx hb dL_law_799 hl (by decide) rfl (fun ls hl => ?_)
        refine lv_aload_n hx hb dL_law_801 rfl (lv_at hl 3 rfl) ?_
        refine lv_aload_n hx hb dL_law_802 rfl (lv_at hl 1 rfl) ?_
        refine lv_iload hx hb dL_law_803 (lv_at hl 5 rfl) ?_
        refine lv_iconst (v := 1) hx hb dL_law_805 (by decide) ?_
        refine lv_iadd hx hb dL_law_806 ?_
        refine lw_sld (k := 1) hx hb hX hbl hS hx4_1 (by omega) hL31 dL_law_807 ?_
        refine lv_aload_n hx hb dL_law_808 rfl (lv_at hl 1 rfl) ?_
        refine lv_iload hx hb dL_law_809 (lv_at hl 5 rfl) ?_
        refine lv_iconst (v := 2) hx hb dL_law_811 (by decide) ?_
        refine lv_iadd hx hb dL_law_812 ?_
        refine lw_sld (k := 2) hx hb hX hbl hS hx4_2 (by omega) hL31 dL_law_813 ?_
        refine ly_ki (p1 := fun u => u) (p2 := fun _ => w) hap hW (va_runV (As := [.int (xs (6 * j + 1)), .int (xs (6 * j + 2))]) (rest := []) ⟨hx, hb, hml, hown, hts⟩ (kc_X12_called l D cy 22 (Nat.le_refl 22) adY hap.2.1 w τ _ (xs (6 * j + 1)) (xs (6 * j + 2)) _ hw) (cwV 2 hts gzL_law_X12_called rfl rfl rfl (by decide +kernel) ⟨Nat.le_of_ble_eq_true rfl, Nat.le_of_ble_eq_true rfl⟩) (hw_preV hK hN1 hW.2.1 (by decide) (bY_0 _) rfl) rfl rfl hl.1 rfl (lv_room (Nat.le_of_ble_eq_true rfl)) dL_law_814 ⟨by show 100 + 3 * j + 1 + 0 ≤ 601024; omega, by show 140000 + 18 * j + 6 + 0 ≤ 7293034; omega⟩) hz hS (fun r1404 τ1405 H locs hw hW hz hS => ?_)
        (try dsimp only at hW)
        refine lv_istore (lv' := [(6, .int r1404), (5, .int r1401), (0, .ref b), (1, .ref (adX 0)), (2, .ref (adY 0)), (3, .ref o), (4, .int x4)]) hx hb dL_law_817 hl (by decide) rfl (fun ls hl => ?_)
        refine lv_aload_n hx hb dL_law_819 rfl (lv_at hl 4 rfl) ?_
        refine ly_ki (p1 := fun u => u) (p2 := fun _ => w) hap hW (va_runV (As := []) (rest := []) ⟨hx, hb, hml, hown, hts⟩ (kc_X12_thrown l D cy 22 (Nat.le_refl 22) adY hap.2.1 w τ1405 _  _ hw) (cwV 0 hts gzL_law_X12_thrown rfl rfl rfl (by decide +kernel) ⟨Nat.le_of_ble_eq_true rfl, Nat.le_of_ble_eq_true rfl⟩) (hw_preV hK hN1 hW.2.1 (by decide) (bY_0 _) rfl) rfl rfl hl.1 rfl (lv_room (Nat.le_of_ble_eq_true rfl)) dL_law_820 ⟨by show 100 + 3 * j + 1 + 0 ≤ 601024; omega, by show 140000 + 18 * j + 6 + 0 ≤ 7293034; omega⟩) hz hS (fun r1407 τ1408 H locs hw hW hz hS => ?_)
        obtain ⟨hu_, hw⟩ := hw
        (try dsimp only at hW)
        rw [hu_] at hW
        refine lv_iload hx hb dL_law_823 (lv_at hl 1 rfl) ?_
        refine lv_icmp_eq (tgt := 830) hx hb dL_law_825 (by decide) (fun c1410 => ?_) (fun c1410 => ?_)
        · have hw := hw.1 c1410
          refine lv_iload hx hb dL_law_830 (lv_at hl 1 rfl) ?_
          refine lv_if_ne (tgt := 847) hx hb dL_law_832 (by decide) (fun c1411 => ?_) (fun c1411 => ?_)
          · have hw := hw.1 c1411
            refine lv_goto (tgt := 1037) hx hb dL_law_847 (by decide) ?_
            obtain ⟨x9, ex9⟩ : ∃ z : Int32, z = x4 + (6 : Int32) := ⟨_, rfl⟩
            refine lv_iinc (v := x9) (lv' := [(4, .int x9), (6, .int r1404), (5, .int r1401), (0, .ref b), (1, .ref (adX 0)), (2, .ref (adY 0)), (3, .ref o)]) hx hb dL_law_1037 hl (k := 6) rfl (by rw [ex9]; rfl) (by decide) rfl (fun ls hl => ?_)
            have hx9 : x9 = nI (6 * (j + 1)) := by rw [ex9, hx4]; exact nI_add (6 * j) 6
            refine lv_goto (tgt := 23) hx hb dL_law_1040 (by decide) ?_
            refine W.widen (k := 100 + 3 * (j + 1)) (n := 140000 + 18 * (j + 1)) (by omega) (by omega) ?_
            exact ih (j + 1) (by omega) (by omega) _ _ _ _ _ _ _ _ hx9 hw hW hz hS (lv_sub hl [3, 4, 5, 6, 0] rfl)
          have hw := hw.2 c1411
          refine lv_aload_n hx hb dL_law_835 rfl (lv_at hl 5 rfl) ?_
          refine lv_iconst (v := 0) hx hb dL_law_836 (by decide) ?_
          refine lw_lald hx hb hK hW dL_law_837 ?_
          refine lv_iload hx hb dL_law_838 (lv_at hl 0 rfl) ?_
          refine lv_i2l hx hb dL_law_840 rfl ?_
          refine W.lcmp hx hb dL_law_841 ?_
          refine lv_if_eq (tgt := 847) hx hb dL_law_842 (by decide) (fun c1412 => ?_) (fun c1412 => ?_)
          · have hw := hw.1 c1412
            refine lv_goto (tgt := 1037) hx hb dL_law_847 (by decide) ?_
            obtain ⟨x9, ex9⟩ : ∃ z : Int32, z = x4 + (6 : Int32) := ⟨_, rfl⟩
            refine lv_iinc (v := x9) (lv' := [(4, .int x9), (6, .int r1404), (5, .int r1401), (0, .ref b), (1, .ref (adX 0)), (2, .ref (adY 0)), (3, .ref o)]) hx hb dL_law_1037 hl (k := 6) rfl (by rw [ex9]; rfl) (by decide) rfl (fun ls hl => ?_)
            have hx9 : x9 = nI (6 * (j + 1)) := by rw [ex9, hx4]; exact nI_add (6 * j) 6
            refine lv_goto (tgt := 23) hx hb dL_law_1040 (by decide) ?_
            refine W.widen (k := 100 + 3 * (j + 1)) (n := 140000 + 18 * (j + 1)) (by omega) (by omega) ?_
            exact ih (j + 1) (by omega) (by omega) _ _ _ _ _ _ _ _ hx9 hw hW hz hS (lv_sub hl [3, 4, 5, 6, 0] rfl)
          have hw := hw.2 c1412
          refine lv_iconst (v := 0) hx hb dL_law_845 (by decide) ?_
          exact hw.elim
        have hw := hw.2 c1410
        refine lv_iconst (v := 0) hx hb dL_law_828 (by decide) ?_
        exact hw.elim
      have hw := hw.2 c7_13
      by_cases c7_14 : x7 = (14 : Int32)
      · have hw := hw.1 c7_14
        refine lv_tableIn (tgt := 850) hx hb dL_law_40 (by rw [c7_14]; decide) (by rw [c7_14]; decide) (by rw [c7_14]; rfl) (by decide) ?_
        refine lv_aload_n hx hb dL_law_850 rfl (lv_at hl 1 rfl) ?_
        refine lv_aload_n hx hb dL_law_851 rfl (lv_at hl 0 rfl) ?_
        refine lv_iload hx hb dL_law_852 (lv_at hl 4 rfl) ?_
        refine lv_iconst (v := 1) hx hb dL_law_854 (by decide) ?_
        refine lv_iadd hx hb dL_law_855 ?_
        refine lw_sld (k := 1) hx hb hX hbl hS hx4_1 (by omega) hL31 dL_law_856 ?_
        refine lv_aload_n hx hb dL_law_857 rfl (lv_at hl 3 rfl) ?_
        refine lh_ki hap hW (vx_runSW (As := [.ref (adX 0), .int (xs (6 * j + 1)), .ref o]) (rest := []) ⟨hx, hb, hml, hown, hts⟩ (kc_L_row l hfl D cy adX hap.1 o hap.2.2.2.1 σ f _ (xs (6 * j + 1)) _ hw) (vx_cwSW 3 hts gzL_law_L_row rfl rfl rfl (by decide +kernel) ⟨Nat.le_of_ble_eq_true rfl, Nat.le_of_ble_eq_true rfl⟩) (lw_preH (As := [.ref (adX 0), .int (xs (6 * j + 1)), .ref o]) hK hN1 hT hNc hap hW hz hS) rfl rfl hl.1 rfl (lv_room (Nat.le_of_ble_eq_true rfl)) dL_law_858 ⟨by show 100 + 3 * j + 1 ≤ 601024; omega, by show 140000 + 18 * j + 6 ≤ 7293034; omega⟩) hz hS (fun r1501 σ1502 f1503 H locs hw hW hz hS => ?_)
        refine lv_istore (lv' := [(5, .int r1501), (0, .ref b), (1, .ref (adX 0)), (2, .ref (adY 0)), (3, .ref o), (4, .int x4)]) hx hb dL_law_861 hl (by decide) rfl (fun ls hl => ?_)
        refine lv_aload_n hx hb dL_law_863 rfl (lv_at hl 3 rfl) ?_
        refine lv_aload_n hx hb dL_law_864 rfl (lv_at hl 1 rfl) ?_
        refine lv_iload hx hb dL_law_865 (lv_at hl 5 rfl) ?_
        refine lv_iconst (v := 1) hx hb dL_law_867 (by decide) ?_
        refine lv_iadd hx hb dL_law_868 ?_
        refine lw_sld (k := 1) hx hb hX hbl hS hx4_1 (by omega) hL31 dL_law_869 ?_
        refine ly_ki (p1 := fun u => u) (p2 := fun _ => w) hap hW (va_runV (As := [.int (xs (6 * j + 1))]) (rest := []) ⟨hx, hb, hml, hown, hts⟩ (kc_X12_row l D cy 22 (Nat.le_refl 22) adY hap.2.1 w τ _ (xs (6 * j + 1)) _ hw) (cwV 1 hts gzL_law_X12_row rfl rfl rfl (by decide +kernel) ⟨Nat.le_of_ble_eq_true rfl, Nat.le_of_ble_eq_true rfl⟩) (hw_preV hK hN1 hW.2.1 (by decide) (bY_0 _) rfl) rfl rfl hl.1 rfl (lv_room (Nat.le_of_ble_eq_true rfl)) dL_law_870 ⟨by show 100 + 3 * j + 1 + 0 ≤ 601024; omega, by show 140000 + 18 * j + 6 + 0 ≤ 7293034; omega⟩) hz hS (fun r1504 τ1505 H locs hw hW hz hS => ?_)
        (try dsimp only at hW)
        refine lv_istore (lv' := [(6, .int r1504), (5, .int r1501), (0, .ref b), (1, .ref (adX 0)), (2, .ref (adY 0)), (3, .ref o), (4, .int x4)]) hx hb dL_law_873 hl (by decide) rfl (fun ls hl => ?_)
        refine lv_aload_n hx hb dL_law_875 rfl (lv_at hl 4 rfl) ?_
        refine ly_ki (p1 := fun u => u) (p2 := fun _ => w) hap hW (va_runV (As := []) (rest := []) ⟨hx, hb, hml, hown, hts⟩ (kc_X12_thrown l D cy 22 (Nat.le_refl 22) adY hap.2.1 w τ1505 _  _ hw) (cwV 0 hts gzL_law_X12_thrown rfl rfl rfl (by decide +kernel) ⟨Nat.le_of_ble_eq_true rfl, Nat.le_of_ble_eq_true rfl⟩) (hw_preV hK hN1 hW.2.1 (by decide) (bY_0 _) rfl) rfl rfl hl.1 rfl (lv_room (Nat.le_of_ble_eq_true rfl)) dL_law_876 ⟨by show 100 + 3 * j + 1 + 0 ≤ 601024; omega, by show 140000 + 18 * j + 6 + 0 ≤ 7293034; omega⟩) hz hS (fun r1507 τ1508 H locs hw hW hz hS => ?_)
        obtain ⟨hu_, hw⟩ := hw
        (try dsimp only at hW)
        rw [hu_] at hW
        refine lv_iload hx hb dL_law_879 (lv_at hl 1 rfl) ?_
        refine lv_icmp_eq (tgt := 886) hx hb dL_law_881 (by decide) (fun c1510 => ?_) (fun c1510 => ?_)
        · have hw := hw.1 c1510
          refine lv_iload hx hb dL_law_886 (lv_at hl 1 rfl) ?_
          refine lv_if_ne (tgt := 903) hx hb dL_law_888 (by decide) (fun c1511 => ?_) (fun c1511 => ?_)
          · have hw := hw.1 c1511
            refine lv_goto (tgt := 1037) hx hb dL_law_903 (by decide) ?_
            obtain ⟨x9, ex9⟩ : ∃ z : Int32, z = x4 + (6 : Int32) := ⟨_, rfl⟩
            refine lv_iinc (v := x9) (lv' := [(4, .int x9), (6, .int r1504), (5, .int r1501), (0, .ref b), (1, .ref (adX 0)), (2, .ref (adY 0)), (3, .ref o)]) hx hb dL_law_1037 hl (k := 6) rfl (by rw [ex9]; rfl) (by decide) rfl (fun ls hl => ?_)
            have hx9 : x9 = nI (6 * (j + 1)) := by rw [ex9, hx4]; exact nI_add (6 * j) 6
            refine lv_goto (tgt := 23) hx hb dL_law_1040 (by decide) ?_
            refine W.widen (k := 100 + 3 * (j + 1)) (n := 140000 + 18 * (j + 1)) (by omega) (by omega) ?_
            exact ih (j + 1) (by omega) (by omega) _ _ _ _ _ _ _ _ hx9 hw hW hz hS (lv_sub hl [3, 4, 5, 6, 0] rfl)
          have hw := hw.2 c1511
          refine lv_aload_n hx hb dL_law_891 rfl (lv_at hl 5 rfl) ?_
          refine lv_iconst (v := 0) hx hb dL_law_892 (by decide) ?_
          refine lw_lald hx hb hK hW dL_law_893 ?_
          refine lv_iload hx hb dL_law_894 (lv_at hl 0 rfl) ?_
          refine lv_i2l hx hb dL_law_896 rfl ?_
          refine W.lcmp hx hb dL_law_897 ?_
          refine lv_if_eq (tgt := 903) hx hb dL_law_898 (by decide) (fun c1512 => ?_) (fun c1512 => ?_)
          · have hw := hw.1 c1512
            refine lv_goto (tgt := 1037) hx hb dL_law_903 (by decide) ?_
            obtain ⟨x9, ex9⟩ : ∃ z : Int32, z = x4 + (6 : Int32) := ⟨_, rfl⟩
            refine lv_iinc (v := x9) (lv' := [(4, .int x9), (6, .int r1504), (5, .int r1501), (0, .ref b), (1, .ref (adX 0)), (2, .ref (adY 0)), (3, .ref o)]) hx hb dL_law_1037 hl (k := 6) rfl (by rw [ex9]; rfl) (by decide) rfl (fun ls hl => ?_)
            have hx9 : x9 = nI (6 * (j + 1)) := by rw [ex9, hx4]; exact nI_add (6 * j) 6
            refine lv_goto (tgt := 23) hx hb dL_law_1040 (by decide) ?_
            refine W.widen (k := 100 + 3 * (j + 1)) (n := 140000 + 18 * (j + 1)) (by omega) (by omega) ?_
            exact ih (j + 1) (by omega) (by omega) _ _ _ _ _ _ _ _ hx9 hw hW hz hS (lv_sub hl [3, 4, 5, 6, 0] rfl)
          have hw := hw.2 c1512
          refine lv_iconst (v := 0) hx hb dL_law_901 (by decide) ?_
          exact hw.elim
        have hw := hw.2 c1510
        refine lv_iconst (v := 0) hx hb dL_law_884 (by decide) ?_
        exact hw.elim
      have hw := hw.2 c7_14
      by_cases c7_15 : x7 = (15 : Int32)
      · have hw := hw.1 c7_15
        refine lv_tableIn (tgt := 906) hx hb dL_law_40 (by rw [c7_15]; decide) (by rw [c7_15]; decide) (by rw [c7_15]; rfl) (by decide) ?_
        refine lv_aload_n hx hb dL_law_906 rfl (lv_at hl 1 rfl) ?_
        refine lx_ki (p1 := fun u => u) hap hW (va_runV (As := []) (rest := []) ⟨hx, hb, hml, hown, hts⟩ (kc_X11_music l D cy adX hap.1 σ _ _ hw) (cwV 0 hts gzL_law_X11_music rfl rfl rfl (by decide +kernel) ⟨Nat.le_of_ble_eq_true rfl, Nat.le_of_ble_eq_true rfl⟩) (lw_preM hK hN1 hAO hW) rfl rfl hl.1 rfl (lv_room (Nat.le_of_ble_eq_true rfl)) dL_law_907 ⟨by show 100 + 3 * j + 1 ≤ 601024; omega, by show 140000 + 18 * j + 2 ≤ 7293034; omega⟩) hz hS (fun r1601 σ1602 H locs hw hW hz hS => ?_)
        (try dsimp only at hW)
        refine lv_aload_n hx hb dL_law_910 rfl (lv_at hl 2 rfl) ?_
        refine ly_ki (p1 := fun u => u) (p2 := fun _ => w) hap hW (va_runV (As := []) (rest := [.int r1601]) ⟨hx, hb, hml, hown, hts⟩ (kc_X12_music l D cy 22 (Nat.le_refl 22) adY hap.2.1 w τ _  _ hw) (cwV 0 hts gzL_law_X12_music rfl rfl rfl (by decide +kernel) ⟨Nat.le_of_ble_eq_true rfl, Nat.le_of_ble_eq_true rfl⟩) (hw_preV hK hN1 hW.2.1 (by decide) (bY_0 _) rfl) rfl rfl hl.1 rfl (lv_room (Nat.le_of_ble_eq_true rfl)) dL_law_911 ⟨by show 100 + 3 * j + 1 + 0 ≤ 601024; omega, by show 140000 + 18 * j + 2 + 0 ≤ 7293034; omega⟩) hz hS (fun r1603 τ1604 H locs hw hW hz hS => ?_)
        (try dsimp only at hW)
        refine lv_icmp_eq (tgt := 1037) hx hb dL_law_914 (by decide) (fun c1606 => ?_) (fun c1606 => ?_)
        · have hw := hw.1 c1606
          obtain ⟨x9, ex9⟩ : ∃ z : Int32, z = x4 + (6 : Int32) := ⟨_, rfl⟩
          refine lv_iinc (v := x9) (lv' := [(4, .int x9), (0, .ref b), (1, .ref (adX 0)), (2, .ref (adY 0)), (3, .ref o)]) hx hb dL_law_1037 hl (k := 4) rfl (by rw [ex9]; rfl) (by decide) rfl (fun ls hl => ?_)
          have hx9 : x9 = nI (6 * (j + 1)) := by rw [ex9, hx4]; exact nI_add (6 * j) 6
          refine lv_goto (tgt := 23) hx hb dL_law_1040 (by decide) ?_
          refine W.widen (k := 100 + 3 * (j + 1)) (n := 140000 + 18 * (j + 1)) (by omega) (by omega) ?_
          exact ih (j + 1) (by omega) (by omega) _ _ _ _ _ _ _ _ hx9 hw hW hz hS (lv_sub hl [1, 2, 3, 4, 0] rfl)
        have hw := hw.2 c1606
        refine lv_iconst (v := 0) hx hb dL_law_917 (by decide) ?_
        exact hw.elim
      have hw := hw.2 c7_15
      by_cases c7_16 : x7 = (16 : Int32)
      · have hw := hw.1 c7_16
        refine lv_tableIn (tgt := 919) hx hb dL_law_40 (by rw [c7_16]; decide) (by rw [c7_16]; decide) (by rw [c7_16]; rfl) (by decide) ?_
        refine lv_aload_n hx hb dL_law_919 rfl (lv_at hl 1 rfl) ?_
        refine lx_ki (p1 := fun u => u) hap hW (va_runV (As := []) (rest := []) ⟨hx, hb, hml, hown, hts⟩ (kc_X11_whole l D cy 38 (Nat.le_refl 38) adX hap.1 σ _  _ hw) (cwV 0 hts gzL_law_X11_whole rfl rfl rfl (by decide +kernel) ⟨Nat.le_of_ble_eq_true rfl, Nat.le_of_ble_eq_true rfl⟩) (hw_preV hK hN1 hW.1 (by decide) (bX_0 _) rfl) rfl rfl hl.1 rfl (lv_room (Nat.le_of_ble_eq_true rfl)) dL_law_920 ⟨by show 100 + 3 * j + 0 ≤ 601024; omega, by show 140000 + 18 * j + 0 ≤ 7293034; omega⟩) hz hS (fun r1701 σ1702 H locs hw hW hz hS => ?_)
        (try dsimp only at hW)
        refine lv_aload_n hx hb dL_law_923 rfl (lv_at hl 2 rfl) ?_
        refine ly_ki (p1 := fun (u : hSt × (Nat → Int64)) => u.1) (p2 := fun (u : hSt × (Nat → Int64)) => u.2) hap hW (va_runV (As := []) (rest := [.int r1701]) ⟨hx, hb, hml, hown, hts⟩ (kc_X12_whole l D cy 22 (Nat.le_refl 22) adY hap.2.1 w τ _  _ hw) (cwV 0 hts gzL_law_X12_whole rfl rfl rfl (by decide +kernel) ⟨Nat.le_of_ble_eq_true rfl, Nat.le_of_ble_eq_true rfl⟩) (hw_preV hK hN1 hW.2.1 (by decide) (bY_0 _) rfl) rfl rfl hl.1 rfl (lv_room (Nat.le_of_ble_eq_true rfl)) dL_law_924 ⟨by show 100 + 3 * j + 0 ≤ 601024; omega, by show 140000 + 18 * j + 0 ≤ 7293034; omega⟩) hz hS (fun r1703 u_ H locs hw hW hz hS => ?_)
        obtain ⟨τ1704, w1705⟩ := u_
        (try dsimp only at hW)
        refine lv_icmp_eq (tgt := 1037) hx hb dL_law_927 (by decide) (fun c1706 => ?_) (fun c1706 => ?_)
        · have hw := hw.1 c1706
          obtain ⟨x9, ex9⟩ : ∃ z : Int32, z = x4 + (6 : Int32) := ⟨_, rfl⟩
          refine lv_iinc (v := x9) (lv' := [(4, .int x9), (0, .ref b), (1, .ref (adX 0)), (2, .ref (adY 0)), (3, .ref o)]) hx hb dL_law_1037 hl (k := 4) rfl (by rw [ex9]; rfl) (by decide) rfl (fun ls hl => ?_)
          have hx9 : x9 = nI (6 * (j + 1)) := by rw [ex9, hx4]; exact nI_add (6 * j) 6
          refine lv_goto (tgt := 23) hx hb dL_law_1040 (by decide) ?_
          refine W.widen (k := 100 + 3 * (j + 1)) (n := 140000 + 18 * (j + 1)) (by omega) (by omega) ?_
          exact ih (j + 1) (by omega) (by omega) _ _ _ _ _ _ _ _ hx9 hw hW hz hS (lv_sub hl [1, 2, 3, 4, 0] rfl)
        have hw := hw.2 c1706
        refine lv_iconst (v := 0) hx hb dL_law_930 (by decide) ?_
        exact hw.elim
      have hw := hw.2 c7_16
      by_cases c7_17 : x7 = (17 : Int32)
      · have hw := hw.1 c7_17
        refine lv_tableIn (tgt := 932) hx hb dL_law_40 (by rw [c7_17]; decide) (by rw [c7_17]; decide) (by rw [c7_17]; rfl) (by decide) ?_
        refine lv_aload_n hx hb dL_law_932 rfl (lv_at hl 1 rfl) ?_
        refine lv_aload_n hx hb dL_law_933 rfl (lv_at hl 0 rfl) ?_
        refine lv_iload hx hb dL_law_934 (lv_at hl 4 rfl) ?_
        refine lv_iconst (v := 1) hx hb dL_law_936 (by decide) ?_
        refine lv_iadd hx hb dL_law_937 ?_
        refine lw_sld (k := 1) hx hb hX hbl hS hx4_1 (by omega) hL31 dL_law_938 ?_
        refine lv_aload_n hx hb dL_law_939 rfl (lv_at hl 0 rfl) ?_
        refine lv_iload hx hb dL_law_940 (lv_at hl 4 rfl) ?_
        refine lv_iconst (v := 2) hx hb dL_law_942 (by decide) ?_
        refine lv_iadd hx hb dL_law_943 ?_
        refine lw_sld (k := 2) hx hb hX hbl hS hx4_2 (by omega) hL31 dL_law_944 ?_
        refine lv_aload_n hx hb dL_law_945 rfl (lv_at hl 0 rfl) ?_
        refine lv_iload hx hb dL_law_946 (lv_at hl 4 rfl) ?_
        refine lv_iconst (v := 3) hx hb dL_law_948 (by decide) ?_
        refine lv_iadd hx hb dL_law_949 ?_
        refine lw_sld (k := 3) hx hb hX hbl hS hx4_3 (by omega) hL31 dL_law_950 ?_
        refine lv_aload_n hx hb dL_law_951 rfl (lv_at hl 3 rfl) ?_
        refine lh_ki hap hW (vx_runSW (As := [.ref (adX 0), .int (xs (6 * j + 1)), .int (xs (6 * j + 2)), .int (xs (6 * j + 3)), .ref o]) (rest := []) ⟨hx, hb, hml, hown, hts⟩ (kc_L_find l hfl D cy adX hap.1 o hap.2.2.2.1 σ f _ (xs (6 * j + 1)) (xs (6 * j + 2)) (xs (6 * j + 3)) _ hw) (vx_cwSW 5 hts gzL_law_L_find rfl rfl rfl (by decide +kernel) ⟨Nat.le_of_ble_eq_true rfl, Nat.le_of_ble_eq_true rfl⟩) (lw_preH (As := [.ref (adX 0), .int (xs (6 * j + 1)), .int (xs (6 * j + 2)), .int (xs (6 * j + 3)), .ref o]) hK hN1 hT hNc hap hW hz hS) rfl rfl hl.1 rfl (lv_room (Nat.le_of_ble_eq_true rfl)) dL_law_952 ⟨by show 100 + 3 * j + 2 ≤ 601024; omega, by show 140000 + 18 * j + 12 ≤ 7293034; omega⟩) hz hS (fun r1801 σ1802 f1803 H locs hw hW hz hS => ?_)
        refine lv_istore (lv' := [(5, .int r1801), (0, .ref b), (1, .ref (adX 0)), (2, .ref (adY 0)), (3, .ref o), (4, .int x4)]) hx hb dL_law_955 hl (by decide) rfl (fun ls hl => ?_)
        refine lv_aload_n hx hb dL_law_957 rfl (lv_at hl 3 rfl) ?_
        refine lv_aload_n hx hb dL_law_958 rfl (lv_at hl 1 rfl) ?_
        refine lv_iload hx hb dL_law_959 (lv_at hl 5 rfl) ?_
        refine lv_iconst (v := 1) hx hb dL_law_961 (by decide) ?_
        refine lv_iadd hx hb dL_law_962 ?_
        refine lw_sld (k := 1) hx hb hX hbl hS hx4_1 (by omega) hL31 dL_law_963 ?_
        refine lv_aload_n hx hb dL_law_964 rfl (lv_at hl 1 rfl) ?_
        refine lv_iload hx hb dL_law_965 (lv_at hl 5 rfl) ?_
        refine lv_iconst (v := 2) hx hb dL_law_967 (by decide) ?_
        refine lv_iadd hx hb dL_law_968 ?_
        refine lw_sld (k := 2) hx hb hX hbl hS hx4_2 (by omega) hL31 dL_law_969 ?_
        refine lv_aload_n hx hb dL_law_970 rfl (lv_at hl 1 rfl) ?_
        refine lv_iload hx hb dL_law_971 (lv_at hl 5 rfl) ?_
        refine lv_iconst (v := 3) hx hb dL_law_973 (by decide) ?_
        refine lv_iadd hx hb dL_law_974 ?_
        refine lw_sld (k := 3) hx hb hX hbl hS hx4_3 (by omega) hL31 dL_law_975 ?_
        refine ly_ki (p1 := fun u => u) (p2 := fun _ => w) hap hW (va_runV (As := [.int (xs (6 * j + 1)), .int (xs (6 * j + 2)), .int (xs (6 * j + 3))]) (rest := []) ⟨hx, hb, hml, hown, hts⟩ (kc_X12_find l D cy 22 (Nat.le_refl 22) adY hap.2.1 w τ _ (xs (6 * j + 1)) (xs (6 * j + 2)) (xs (6 * j + 3)) _ hw) (cwV 3 hts gzL_law_X12_find rfl rfl rfl (by decide +kernel) ⟨Nat.le_of_ble_eq_true rfl, Nat.le_of_ble_eq_true rfl⟩) (hw_preV hK hN1 hW.2.1 (by decide) (bY_0 _) rfl) rfl rfl hl.1 rfl (lv_room (Nat.le_of_ble_eq_true rfl)) dL_law_976 ⟨by show 100 + 3 * j + 2 + 0 ≤ 601024; omega, by show 140000 + 18 * j + 12 + 0 ≤ 7293034; omega⟩) hz hS (fun r1804 τ1805 H locs hw hW hz hS => ?_)
        (try dsimp only at hW)
        refine lv_istore (lv' := [(6, .int r1804), (5, .int r1801), (0, .ref b), (1, .ref (adX 0)), (2, .ref (adY 0)), (3, .ref o), (4, .int x4)]) hx hb dL_law_979 hl (by decide) rfl (fun ls hl => ?_)
        refine lv_aload_n hx hb dL_law_981 rfl (lv_at hl 4 rfl) ?_
        refine ly_ki (p1 := fun u => u) (p2 := fun _ => w) hap hW (va_runV (As := []) (rest := []) ⟨hx, hb, hml, hown, hts⟩ (kc_X12_thrown l D cy 22 (Nat.le_refl 22) adY hap.2.1 w τ1805 _  _ hw) (cwV 0 hts gzL_law_X12_thrown rfl rfl rfl (by decide +kernel) ⟨Nat.le_of_ble_eq_true rfl, Nat.le_of_ble_eq_true rfl⟩) (hw_preV hK hN1 hW.2.1 (by decide) (bY_0 _) rfl) rfl rfl hl.1 rfl (lv_room (Nat.le_of_ble_eq_true rfl)) dL_law_982 ⟨by show 100 + 3 * j + 2 + 0 ≤ 601024; omega, by show 140000 + 18 * j + 12 + 0 ≤ 7293034; omega⟩) hz hS (fun r1807 τ1808 H locs hw hW hz hS => ?_)
        obtain ⟨hu_, hw⟩ := hw
        (try dsimp only at hW)
        rw [hu_] at hW
        refine lv_iload hx hb dL_law_985 (lv_at hl 1 rfl) ?_
        refine lv_icmp_eq (tgt := 992) hx hb dL_law_987 (by decide) (fun c1810 => ?_) (fun c1810 => ?_)
        · have hw := hw.1 c1810
          refine lv_iload hx hb dL_law_992 (lv_at hl 1 rfl) ?_
          refine lv_if_ne (tgt := 1009) hx hb dL_law_994 (by decide) (fun c1811 => ?_) (fun c1811 => ?_)
          · have hw := hw.1 c1811
            refine lv_goto (tgt := 1037) hx hb dL_law_1009 (by decide) ?_
            obtain ⟨x9, ex9⟩ : ∃ z : Int32, z = x4 + (6 : Int32) := ⟨_, rfl⟩
            refine lv_iinc (v := x9) (lv' := [(4, .int x9), (6, .int r1804), (5, .int r1801), (0, .ref b), (1, .ref (adX 0)), (2, .ref (adY 0)), (3, .ref o)]) hx hb dL_law_1037 hl (k := 6) rfl (by rw [ex9]; rfl) (by decide) rfl (fun ls hl => ?_)
            have hx9 : x9 = nI (6 * (j + 1)) := by rw [ex9, hx4]; exact nI_add (6 * j) 6
            refine lv_goto (tgt := 23) hx hb dL_law_1040 (by decide) ?_
            refine W.widen (k := 100 + 3 * (j + 1)) (n := 140000 + 18 * (j + 1)) (by omega) (by omega) ?_
            exact ih (j + 1) (by omega) (by omega) _ _ _ _ _ _ _ _ hx9 hw hW hz hS (lv_sub hl [3, 4, 5, 6, 0] rfl)
          have hw := hw.2 c1811
          refine lv_aload_n hx hb dL_law_997 rfl (lv_at hl 5 rfl) ?_
          refine lv_iconst (v := 0) hx hb dL_law_998 (by decide) ?_
          refine lw_lald hx hb hK hW dL_law_999 ?_
          refine lv_iload hx hb dL_law_1000 (lv_at hl 0 rfl) ?_
          refine lv_i2l hx hb dL_law_1002 rfl ?_
          refine W.lcmp hx hb dL_law_1003 ?_
          refine lv_if_eq (tgt := 1009) hx hb dL_law_1004 (by decide) (fun c1812 => ?_) (fun c1812 => ?_)
          · have hw := hw.1 c1812
            refine lv_goto (tgt := 1037) hx hb dL_law_1009 (by decide) ?_
            obtain ⟨x9, ex9⟩ : ∃ z : Int32, z = x4 + (6 : Int32) := ⟨_, rfl⟩
            refine lv_iinc (v := x9) (lv' := [(4, .int x9), (6, .int r1804), (5, .int r1801), (0, .ref b), (1, .ref (adX 0)), (2, .ref (adY 0)), (3, .ref o)]) hx hb dL_law_1037 hl (k := 6) rfl (by rw [ex9]; rfl) (by decide) rfl (fun ls hl => ?_)
            have hx9 : x9 = nI (6 * (j + 1)) := by rw [ex9, hx4]; exact nI_add (6 * j) 6
            refine lv_goto (tgt := 23) hx hb dL_law_1040 (by decide) ?_
            refine W.widen (k := 100 + 3 * (j + 1)) (n := 140000 + 18 * (j + 1)) (by omega) (by omega) ?_
            exact ih (j + 1) (by omega) (by omega) _ _ _ _ _ _ _ _ hx9 hw hW hz hS (lv_sub hl [3, 4, 5, 6, 0] rfl)
          have hw := hw.2 c1812
          refine lv_iconst (v := 0) hx hb dL_law_1007 (by decide) ?_
          exact hw.elim
        have hw := hw.2 c1810
        refine lv_iconst (v := 0) hx hb dL_law_990 (by decide) ?_
        exact hw.elim
      have hw := hw.2 c7_17
      by_cases c7_18 : x7 = (18 : Int32)
      · have hw := hw.1 c7_18
        refine lv_tableIn (tgt := 1012) hx hb dL_law_40 (by rw [c7_18]; decide) (by rw [c7_18]; decide) (by rw [c7_18]; rfl) (by decide) ?_
        refine lv_aload_n hx hb dL_law_1012 rfl (lv_at hl 1 rfl) ?_
        refine lv_aload_n hx hb dL_law_1013 rfl (lv_at hl 0 rfl) ?_
        refine lv_iload hx hb dL_law_1014 (lv_at hl 4 rfl) ?_
        refine lv_iconst (v := 1) hx hb dL_law_1016 (by decide) ?_
        refine lv_iadd hx hb dL_law_1017 ?_
        refine lw_sld (k := 1) hx hb hX hbl hS hx4_1 (by omega) hL31 dL_law_1018 ?_
        refine lx_ki (p1 := fun u => u) hap hW (va_runV (As := [.int (xs (6 * j + 1))]) (rest := []) ⟨hx, hb, hml, hown, hts⟩ (kc_X11_count l D cy 38 (Nat.le_refl 38) adX hap.1 σ _ (xs (6 * j + 1)) _ hw) (cwV 1 hts gzL_law_X11_count rfl rfl rfl (by decide +kernel) ⟨Nat.le_of_ble_eq_true rfl, Nat.le_of_ble_eq_true rfl⟩) (hw_preV hK hN1 hW.1 (by decide) (bX_0 _) rfl) rfl rfl hl.1 rfl (lv_room (Nat.le_of_ble_eq_true rfl)) dL_law_1019 ⟨by show 100 + 3 * j + 0 ≤ 601024; omega, by show 140000 + 18 * j + 0 ≤ 7293034; omega⟩) hz hS (fun r1901 σ1902 H locs hw hW hz hS => ?_)
        obtain ⟨hu_, hw⟩ := hw
        (try dsimp only at hW)
        rw [hu_] at hW
        refine lv_aload_n hx hb dL_law_1022 rfl (lv_at hl 2 rfl) ?_
        refine lv_aload_n hx hb dL_law_1023 rfl (lv_at hl 0 rfl) ?_
        refine lv_iload hx hb dL_law_1024 (lv_at hl 4 rfl) ?_
        refine lv_iconst (v := 1) hx hb dL_law_1026 (by decide) ?_
        refine lv_iadd hx hb dL_law_1027 ?_
        refine lw_sld (k := 1) hx hb hX hbl hS hx4_1 (by omega) hL31 dL_law_1028 ?_
        refine ly_ki (p1 := fun u => u) (p2 := fun _ => w) hap hW (va_runV (As := [.int (xs (6 * j + 1))]) (rest := [.int r1901]) ⟨hx, hb, hml, hown, hts⟩ (kc_X12_count l D cy 22 (Nat.le_refl 22) adY hap.2.1 w τ _ (xs (6 * j + 1)) _ hw) (cwV 1 hts gzL_law_X12_count rfl rfl rfl (by decide +kernel) ⟨Nat.le_of_ble_eq_true rfl, Nat.le_of_ble_eq_true rfl⟩) (hw_preV hK hN1 hW.2.1 (by decide) (bY_0 _) rfl) rfl rfl hl.1 rfl (lv_room (Nat.le_of_ble_eq_true rfl)) dL_law_1029 ⟨by show 100 + 3 * j + 0 ≤ 601024; omega, by show 140000 + 18 * j + 0 ≤ 7293034; omega⟩) hz hS (fun r1903 τ1904 H locs hw hW hz hS => ?_)
        (try dsimp only at hW)
        refine lv_icmp_eq (tgt := 1037) hx hb dL_law_1032 (by decide) (fun c1906 => ?_) (fun c1906 => ?_)
        · have hw := hw.1 c1906
          obtain ⟨x9, ex9⟩ : ∃ z : Int32, z = x4 + (6 : Int32) := ⟨_, rfl⟩
          refine lv_iinc (v := x9) (lv' := [(4, .int x9), (0, .ref b), (1, .ref (adX 0)), (2, .ref (adY 0)), (3, .ref o)]) hx hb dL_law_1037 hl (k := 4) rfl (by rw [ex9]; rfl) (by decide) rfl (fun ls hl => ?_)
          have hx9 : x9 = nI (6 * (j + 1)) := by rw [ex9, hx4]; exact nI_add (6 * j) 6
          refine lv_goto (tgt := 23) hx hb dL_law_1040 (by decide) ?_
          refine W.widen (k := 100 + 3 * (j + 1)) (n := 140000 + 18 * (j + 1)) (by omega) (by omega) ?_
          exact ih (j + 1) (by omega) (by omega) _ _ _ _ _ _ _ _ hx9 hw hW hz hS (lv_sub hl [1, 2, 3, 4, 0] rfl)
        have hw := hw.2 c1906
        refine lv_iconst (v := 0) hx hb dL_law_1035 (by decide) ?_
        exact hw.elim
      have hw := hw.2 c7_18
      refine lv_tableOut (tgt := 1037) hx hb dL_law_40 (hsw_out (by decide) (by intro z h1 h2; rcases (show z = 0 ∨ z = 1 ∨ z = 2 ∨ z = 3 ∨ z = 4 ∨ z = 5 ∨ z = 6 ∨ z = 7 ∨ z = 8 ∨ z = 9 ∨ z = 10 ∨ z = 11 ∨ z = 12 ∨ z = 13 ∨ z = 14 ∨ z = 15 ∨ z = 16 ∨ z = 17 ∨ z = 18 by omega) with rfl | rfl | rfl | rfl | rfl | rfl | rfl | rfl | rfl | rfl | rfl | rfl | rfl | rfl | rfl | rfl | rfl | rfl | rfl <;> first | exact c7_0 | exact c7_1 | exact c7_2 | exact c7_3 | exact c7_4 | exact c7_5 | exact c7_6 | exact c7_7 | exact c7_8 | exact c7_9 | exact c7_10 | exact c7_11 | exact c7_12 | exact c7_13 | exact c7_14 | exact c7_15 | exact c7_16 | exact c7_17 | exact c7_18)) (by decide) ?_
      obtain ⟨x9, ex9⟩ : ∃ z : Int32, z = x4 + (6 : Int32) := ⟨_, rfl⟩
      refine lv_iinc (v := x9) (lv' := [(4, .int x9), (0, .ref b), (1, .ref (adX 0)), (2, .ref (adY 0)), (3, .ref o)]) hx hb dL_law_1037 hl (k := 4) rfl (by rw [ex9]; rfl) (by decide) rfl (fun ls hl => ?_)
      have hx9 : x9 = nI (6 * (j + 1)) := by rw [ex9, hx4]; exact nI_add (6 * j) 6
      refine lv_goto (tgt := 23) hx hb dL_law_1040 (by decide) ?_
      refine W.widen (k := 100 + 3 * (j + 1)) (n := 140000 + 18 * (j + 1)) (by omega) (by omega) ?_
      exact ih (j + 1) (by omega) (by omega) _ _ _ _ _ _ _ _ hx9 hw hW hz hS (lv_sub hl [1, 2, 3, 4, 0] rfl)

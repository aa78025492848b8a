/-! what the start gives: the static arrays, the one text, the classes -/
def zi_N : List Cond := flatC (Jvm.Cond.and given_1 narrow_1)
theorem zi_u2 {w : Cond} (i : Nat) (h : tables_1_2[i]? = some w) : w ∈ lw_tbl := List.mem_append_right _ (List.mem_append_right _ (List.mem_append_left _ (List.mem_of_getElem? h)))
theorem zi_u4 {w : Cond} (i : Nat) (h : tables_1_4[i]? = some w) : w ∈ lw_tbl := List.mem_append_right _ (List.mem_append_right _ (List.mem_append_right _ (List.mem_append_right _ (List.mem_append_left _ (List.mem_of_getElem? h)))))
theorem zi_T {args : Array Value} {s : State} (htl : ∀ w ∈ lw_tbl, w.before args s = true) (hts : ∀ w ∈ zx_B, w.before args s = true) (hgv : ∀ w ∈ zi_N, w.before args s = true) {C F : String} {l : List Int32} (hl : l.length < 2 ^ 31) (h1 : Cond.laysStatic C F "[I" ∈ lw_tbl) (h2 : Cond.initialized C ∈ zx_B) (h3 : Cond.arrayOf (.static C F "[I") .int ∈ zi_N) (h4 : Cond.eq (.length (.static C F "[I")) (.int (Int32.ofNat l.length)) ∈ zi_N) (h5 : ∀ j, j < l.length → Cond.eq (.elem (.static C F "[I") (.int (Int32.ofNat j))) (.int (l.getD j 0)) ∈ zi_N) :
    ∃ t : Nat, va_Z C F "[I" (.ref t) (fun q => s.heap.size ≤ q) s s.heap ∧ va_T .int t l.length (fun j => .int (l.getD j 0)) (fun q => s.heap.size ≤ q) s s.heap := by
  have hA : ∀ a : Nat, a < s.heap.size → ¬ (fun q => s.heap.size ≤ q) a := fun a h => Nat.not_le.mpr h
  obtain ⟨t, e, hT⟩ := va_Tof (f := fun j => .int (l.getD j 0)) hl (hgv _ h3) (va_eqt (hgv _ h4)) (fun j hj => va_eqt (hgv _ (h5 j hj))) hA
  exact ⟨t, va_Zref (htl _ h1) (hts _ h2) e hA, hT⟩
theorem zi_a0 : ∀ j, j < 12 → Cond.eq (.elem (.static "OutByTurns$Numbers" "LEAST" "[I") (.int (Int32.ofNat j))) (.int (zx_sA0.getD j 0)) ∈ zi_N := by decide +kernel
theorem zi_a1 : ∀ j, j < 12 → Cond.eq (.elem (.static "OutByTurns$Numbers" "MOST" "[I") (.int (Int32.ofNat j))) (.int (zx_sA1.getD j 0)) ∈ zi_N := by decide +kernel
theorem zi_a2 : ∀ j, j < 8 → Cond.eq (.elem (.static "OutByTurns$Acts" "NEXT_ABOVE" "[I") (.int (Int32.ofNat j))) (.int (zx_sA2.getD j 0)) ∈ zi_N := by decide +kernel
theorem zi_a3 : ∀ j, j < 32 → Cond.eq (.elem (.static "OutByTurns$Acts" "OWN_BODIES" "[I") (.int (Int32.ofNat j))) (.int (zx_sA3.getD j 0)) ∈ zi_N := by decide +kernel
theorem zi_txt : ∀ j, j < 6 → Cond.eq (.elem (.field (.string "OutByTurns$Text" 60) "java/lang/String" "value" "[B") (.int (Int32.ofNat j))) (.int (([119, 115, 113, 97, 98, 104] : List Int32).getD j 0)) ∈ zi_N := by decide +kernel
theorem zi_St {args : Array Value} {s : State} (htl : ∀ w ∈ lw_tbl, w.before args s = true) (hgv : ∀ w ∈ zi_N, w.before args s = true) : ∃ ρ : Nat → Nat, zx_St (fun q => s.heap.size ≤ q) ρ s s.heap := by
  have hts : ∀ w ∈ zx_B, w.before args s = true := fun w hw => htl w (List.mem_filter.mp hw).1
  have hA : ∀ a : Nat, a < s.heap.size → ¬ (fun q => s.heap.size ≤ q) a := fun a h => Nat.not_le.mpr h
  obtain ⟨t0, z0, T0⟩ := zi_T (l := zx_sA0) htl hts hgv (by decide) (zi_u2 21 rfl) (zx_t1 2 rfl rfl) (by decide +kernel) (by decide +kernel) zi_a0
  obtain ⟨t1, z1, T1⟩ := zi_T (l := zx_sA1) htl hts hgv (by decide) (zi_u2 23 rfl) (zx_t1 2 rfl rfl) (by decide +kernel) (by decide +kernel) zi_a1
  obtain ⟨t2, z2, T2⟩ := zi_T (l := zx_sA2) htl hts hgv (by decide) (zi_u4 152 rfl) (zx_t1 9 rfl rfl) (by decide +kernel) (by decide +kernel) zi_a2
  obtain ⟨t3, z3, T3⟩ := zi_T (l := zx_sA3) htl hts hgv (by decide) (zi_u4 150 rfl) (zx_t1 9 rfl rfl) (by decide +kernel) (by decide +kernel) zi_a3
  have m1 : Cond.exactly (.string "OutByTurns$Text" 60) "java/lang/String" ∈ zi_N := by decide +kernel
  have m2 : Cond.eq (.field (.string "OutByTurns$Text" 60) "java/lang/String" "coder" "B") (.int 0) ∈ zi_N := by decide +kernel
  have m3 : Cond.arrayOf (.field (.string "OutByTurns$Text" 60) "java/lang/String" "value" "[B") .byte ∈ zi_N := by decide +kernel
  have m4 : Cond.eq (.length (.field (.string "OutByTurns$Text" 60) "java/lang/String" "value" "[B")) (.int (Int32.ofNat 6)) ∈ zi_N := by decide +kernel
  have one : ∀ i : Nat, i < 1 → i = 0 := fun i hi => by omega
  obtain ⟨adK, adV, hSt, hev⟩ := vk_Sof (args := args) (s := s) (N := 1) (tm := fun _ => .string "OutByTurns$Text" 60) (len := [6]) (byt := [[119, 115, 113, 97, 98, 104]]) (A := fun q => s.heap.size ≤ q) (fun i hi => by rw [one i hi]; decide) (fun i hi => hgv _ m1) (fun i hi => hgv _ m2) (fun i hi => hgv _ m3) (fun i hi => by rw [one i hi]; exact hgv _ m4) (fun i hi j hj => by rw [one i hi] at hj ⊢; exact hgv _ (zi_txt j hj)) (fun i j hi hj hij => absurd ((one i hi).trans (one j hj).symm) hij) hA
  have hcs : Cond.eq (.static "java/lang/String" "COMPACT_STRINGS" "Z") (.int 1) ∈ zi_N := by decide +kernel
  refine ⟨fun k => if k = 1000 then t0 else if k = 1001 then t1 else if k = 1002 then t2 else if k = 1003 then t3 else adK 0, ?_, ?_, ?_, ⟨adV 0, ?_⟩, ?_⟩
  · intro k q l hq hl
    match k, hq, hl with
    | 0, hq, hl => cases hq; cases hl; exact ⟨z0, T0⟩
    | 1, hq, hl => cases hq; cases hl; exact ⟨z1, T1⟩
    | 2, hq, hl => cases hq; cases hl; exact ⟨z2, T2⟩
    | 3, hq, hl => cases hq; cases hl; exact ⟨z3, T3⟩
    | k + 4, hq, hl => simp [zx_sn] at hq
  · exact vk_R.of (htl _ (zi_u2 137 rfl)) (hev 0 (by decide))
  · exact fun q hq => va_Nw.of rfl (htl _ (zx_nests_in q hq))
  · refine ⟨fun i hi => ?_, fun i j hi hj _ => (one i hi).trans (one j hj).symm⟩
    have h0 := hSt.1 0 (by decide)
    rw [one i hi]
    exact h0
  · exact va_Zof (htl _ (zi_u2 151 rfl)) (hts _ zb_str) (va_eqi (hgv _ hcs)) hA
theorem zi_ar {args : Array Value} {s : State} {ty : FieldType} (hno : ∀ C, ty ≠ .object C) (h : (Cond.arrayClass ty).before args s = true) : ∃ cA : ClassId, ArrOfT s cA ty ∧ va_RA s cA ty := by
  obtain ⟨cA, kA, comp, h1, h2, h3⟩ := Cond.arrayClass_spec h
  refine ⟨cA, fun n z => ⟨fun k h => (by cases h), kA, h2, comp, h3⟩, ?_⟩
  cases ty with
  | object C => exact absurd rfl (hno C)
  | _ => exact h1
theorem zi_K {args : Array Value} {s : State} (hts : ∀ w ∈ zx_B, w.before args s = true) : ∃ (D : va_G) (κ : Nat → ClassId), va_K D vwCl (zx_tys κ) s := by
  have h : ∀ k : Nat, ∃ q : ClassId × (Nat → Nat), ∀ v, vwCl[k]? = some v → u_Kn s v.1 v.2.1 v.2.2 q.1 q.2 := by
    intro k
    cases hv : vwCl[k]? with
    | none => exact ⟨(0, fun _ => 0), fun v z => by cases z⟩
    | some v =>
      have hF := zx_fok hv
      obtain ⟨cC, iS, hK⟩ := u_known (n := v.2.2) hts (zx_u_in hF) (hts _ hF.2.2.2.2.2.2.2.1)
      exact ⟨(cC, iS), fun v' z => by cases z; exact hK⟩
  obtain ⟨f, hf⟩ := Classical.axiomOfChoice h
  obtain ⟨k0, a0, b0⟩ := zi_ar (args := args) (s := s) (ty := .int) (fun C => by simp) (hts _ (zx_t1 44 rfl rfl))
  obtain ⟨k1, a1, b1⟩ := zi_ar (args := args) (s := s) (ty := .long) (fun C => by simp) (hts _ (zx_t1 111 rfl rfl))
  obtain ⟨k2, a2, b2⟩ := zi_ar (args := args) (s := s) (ty := .boolean) (fun C => by simp) (hts _ (zx_t1 147 rfl rfl))
  refine ⟨(fun k => (f k).1, fun k => (f k).2), fun k => if k = 0 then k0 else if k = 1 then k1 else k2, fun k v hv => hf k v hv, ?_⟩
  intro k q hq
  match k, hq with
  | 0, hq => cases hq; exact ⟨a0, b0⟩
  | 1, hq => cases hq; exact ⟨a1, b1⟩
  | 2, hq => cases hq; exact ⟨a2, b2⟩
  | k + 3, hq => simp [zx_tys] at hq

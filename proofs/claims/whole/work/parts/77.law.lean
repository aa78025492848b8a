/-! the law's walk: what stays, what moves; the two sides' calls -/
def zl_X (l : Launch) (p : Program) (R : Room) (s : State) (m : MethodId) (args : Array Value) (c : Code) (D : va_G) (κ : Nat → ClassId) (A : Nat → Prop) (b L : Nat) (xs : Nat → Int32) : Prop := zx_IO l ∧ p.tables.exec = Jvm.exec ∧ c.code = code ∧ c.maxLocals = 4 ∧ s.vm.findClass "OutByTurnsLaw" = some m.cls ∧ (∀ w ∈ zx_B, w.before args s = true) ∧ 79 ≤ R.frames ∧ 3200 ≤ R.locals ∧ (∀ q, s.heap.size ≤ q → A q) ∧ va_K D vwCl (zx_tys κ) s ∧ va_X b L xs s s.heap ∧ b < s.heap.size ∧ ¬ A b
def zl_Y (s : State) (D : va_G) (κ : Nat → ClassId) (A : Nat → Prop) (ρ σ : Nat → Nat) (C M : zx_M) (H : Heap) (locs : List Loc) : Prop := va_P D vwCl (zx_w ρ κ C 0 zx_SC) H ∧ va_D A (zx_w ρ κ C 0 zx_SC) ∧ va_P D vwCl (zx_w σ κ M 0 zx_SM) H ∧ va_D A (zx_w σ κ M 0 zx_SM) ∧ zl_ap (zx_w ρ κ C 0 zx_SC) (zx_w σ κ M 0 zx_SM) ∧ va_S A s.heap H locs ∧ zx_St A ρ s s.heap ∧ zx_St A σ s s.heap
/-- values without a reference -/
def zl_nr : List Value → Bool
  | [] => true
  | .ref _ :: _ => false
  | _ :: t => zl_nr t
theorem zl_nr_map {ρ : Nat → Nat} : ∀ {as : List Value}, zl_nr as = true → as.map (zx_v ρ) = as := by
  intro as
  induction as with
  | nil => intro _; rfl
  | cons v t ih =>
    intro h
    cases v with
    | ref q => simp [zl_nr] at h
    | _ => simp only [zl_nr] at h; simp only [List.map_cons, ih h]; rfl
def zl_wk (ix : Nat) (row : zx_T) (n : Nat) : Prop := Cond.methodLink "OutByTurnsLaw" ix row.1 ∈ zx_B ∧ Cond.instanceMethod row.1 ∈ zx_B ∧ Cond.selects row.1.cls row.1 row.1 ∈ zx_B ∧ (parseMethodDescriptor row.1.desc).map (fun d => d.parameters.length) = some n
section ZL
variable {p : Program} {l : Launch} {e : Env} {R : Room} {s : State} {m : MethodId} {args : Array Value} {below : List Frame} {meth : Method} {c : Code} {H : Heap} {locs : List Loc} {cells slots pc ix k b L : Nat} {Q : State → Prop} {D : va_G} {κ : Nat → ClassId} {A : Nat → Prop} {ρ σ : Nat → Nat} {ls : Array Slot} {as st rest : List Value} {C M C1 M1 : zx_M} {v : Value} {row : zx_T} {xs : Nat → Int32}
theorem zl_callC (X : zl_X l p R s m args c D κ A b L xs) (Y : zl_Y s D κ A ρ σ C M H locs) (hl4 : ls.size = 4) (hc : cells ≤ R.cells) (hs : slots ≤ R.slots) (hrow : zx_tm k = some row) (ho : row.2.2.2.2.1 = 8) (hE : zx_Ev 78 k 0 (zx_en row.2.2.1 (.ref 0 :: as)) [] (zx_SC, C) (some v, (zx_SC, C1))) (hsl : Nat.ble (zx_sl (.ref 0 :: as)).length row.2.2.1 = true) (hw : zl_wk ix row as.length) (hnr : zl_nr as = true) (hdg : decode code pc = .ok (.invokevirtual ix, 3)) (hst : st = as.reverse ++ .ref (ρ 0) :: rest) (hcat : (rest.map fun v => v.category).sum ≤ 8)
    (kk : ∀ (u : Nat → Nat) (H1 : Heap) (locs1 : List Loc), u 0 = ρ 0 → zl_Y s D κ A u σ C1 M H1 locs1 → W p l e R s m args below meth c H1 locs1 cells slots Q (F0 m (pc + 3) ls (v :: rest))) : W p l e R s m args below meth c H locs cells slots Q (F0 m pc ls st) := by
  obtain ⟨hio, hx, hb, hml, hown, hts, hRf, hRl, hA, hK, hX, hbl, hbA⟩ := X
  obtain ⟨hP, hD, hP2, hD2, hap, hS, hZ, hZ2⟩ := Y
  obtain ⟨w1, w2, w3, w4⟩ := hw
  subst hst
  refine zl_call (ci := 0) (h := (zx_SC, C)) (h1 := (zx_SC, C1)) (w2 := zx_w σ κ M 0 zx_SM) hio hx hb (by rw [hml, hl4]) hown hts hRf hRl hc hs hA hK hZ hrow hE rfl (Nat.le_of_ble_eq_true hsl) w1 w2 w3 w4 (by rw [ho]; rfl) (by omega) (zl_nr_map hnr) hdg hcat hP hD hS hP2 hap ?_
  intro u H1 locs1 hag g1 g2 g3 g4 g5
  exact kk u H1 locs1 (hag 0 rfl) ⟨g1, g2, g4, hD2, g5, g3, zx_St.ag hag hZ, hZ2⟩
theorem zl_callM (X : zl_X l p R s m args c D κ A b L xs) (Y : zl_Y s D κ A ρ σ C M H locs) (hl4 : ls.size = 4) (hc : cells ≤ R.cells) (hs : slots ≤ R.slots) (hrow : zx_tm k = some row) (ho : row.2.2.2.2.1 = 9) (hE : zx_Ev 78 k 0 (zx_en row.2.2.1 (.ref 0 :: as)) [] (zx_SM, M) (some v, (zx_SM, M1))) (hsl : Nat.ble (zx_sl (.ref 0 :: as)).length row.2.2.1 = true) (hw : zl_wk ix row as.length) (hnr : zl_nr as = true) (hdg : decode code pc = .ok (.invokevirtual ix, 3)) (hst : st = as.reverse ++ .ref (σ 0) :: rest) (hcat : (rest.map fun v => v.category).sum ≤ 8)
    (kk : ∀ (u : Nat → Nat) (H1 : Heap) (locs1 : List Loc), u 0 = σ 0 → zl_Y s D κ A ρ u C M1 H1 locs1 → W p l e R s m args below meth c H1 locs1 cells slots Q (F0 m (pc + 3) ls (v :: rest))) : W p l e R s m args below meth c H locs cells slots Q (F0 m pc ls st) := by
  obtain ⟨hio, hx, hb, hml, hown, hts, hRf, hRl, hA, hK, hX, hbl, hbA⟩ := X
  obtain ⟨hP, hD, hP2, hD2, hap, hS, hZ, hZ2⟩ := Y
  obtain ⟨w1, w2, w3, w4⟩ := hw
  subst hst
  refine zl_call (ci := 0) (h := (zx_SM, M)) (h1 := (zx_SM, M1)) (w2 := zx_w ρ κ C 0 zx_SC) hio hx hb (by rw [hml, hl4]) hown hts hRf hRl hc hs hA hK hZ2 hrow hE rfl (Nat.le_of_ble_eq_true hsl) w1 w2 w3 w4 (by rw [ho]; rfl) (by omega) (zl_nr_map hnr) hdg hcat hP2 hD2 hS hP hap.sym ?_
  intro u H1 locs1 hag g1 g2 g3 g4 g5
  exact kk u H1 locs1 (hag 0 rfl) ⟨g4, hD, g1, g2, g5.sym, g3, hZ, zx_St.ag hag hZ2⟩
/-- one of the law's arguments: script[i + k] -/
theorem zl_a (X : zl_X l p R s m args c D κ A b L xs) (Y : zl_Y s D κ A ρ σ C M H locs) {q0 q1 : Nat} {x i : Int32} {kn : Int} (hl : lv_has ls 4 [(0, .ref b), (1, .ref q0), (2, .ref q1), (3, .int x)]) (hk : Int32.ofInt kn = i)
    (d0 : decode code pc = .ok (.aload_n 0, 1)) (d1 : decode code (pc + 1) = .ok (.iload_n 3, 1)) (d2 : decode code (pc + 2) = .ok (.iconst kn, 1)) (d3 : decode code (pc + 3) = .ok (.iadd, 1)) (d4 : decode code (pc + 4) = .ok (.iaload, 1)) (hin : vp_in (x + i) L)
    (kk : W p l e R s m args below meth c H locs cells slots Q (F0 m (pc + 5) ls (.int (xs (x + i).toNatClampNeg) :: st))) : W p l e R s m args below meth c H locs cells slots Q (F0 m pc ls st) := by
  obtain ⟨hio, hx, hb, hml, hown, hts, hRf, hRl, hA, hK, hX, hbl, hbA⟩ := X
  obtain ⟨hP, hD, hP2, hD2, hap, hS, hZ, hZ2⟩ := Y
  exact zl_arg hx hb hX hbl hbA hS hl hk d0 d1 d2 d3 d4 hin kk
theorem zl_ld (X : zl_X l p R s m args c D κ A b L xs) {q : Nat} {i : Nat} {k : Fin 4} (hl : ls[i]? = some (.val (.ref q))) (hk : (k : Nat) = i) (d0 : decode code pc = .ok (.aload_n k, 1))
    (kk : W p l e R s m args below meth c H locs cells slots Q (F0 m (pc + 1) ls (.ref q :: st))) : W p l e R s m args below meth c H locs cells slots Q (F0 m pc ls st) := by
  obtain ⟨hio, hx, hb, hml, -⟩ := X
  exact lv_aload_n hx hb d0 hk hl kk
/-- the answers agree: on with the loop -/
theorem zl_eq (X : zl_X l p R s m args c D κ A b L xs) {y : Int32} {off : Int} {tgt : Nat} (d0 : decode code pc = .ok (.if_icmp .eq off, 3)) (ht : (pc : Int) + off = (tgt : Int))
    (kk : W p l e R s m args below meth c H locs cells slots Q (F0 m tgt ls [])) : W p l e R s m args below meth c H locs cells slots Q (F0 m pc ls [.int y, .int y]) := by
  obtain ⟨hio, hx, hb, hml, -⟩ := X
  exact lv_icmp_eq hx hb d0 ht (fun _ => kk) (fun z => absurd rfl z)
theorem zl_eql (X : zl_X l p R s m args c D κ A b L xs) {y : Int64} {off : Int} {tgt : Nat} (d0 : decode code pc = .ok (.lcmp, 1)) (d1 : decode code (pc + 1) = .ok (.ifCond .eq off, 3)) (ht : ((pc + 1 : Nat) : Int) + off = (tgt : Int))
    (kk : W p l e R s m args below meth c H locs cells slots Q (F0 m tgt ls [])) : W p l e R s m args below meth c H locs cells slots Q (F0 m pc ls [.long y, .long y]) := by
  obtain ⟨hio, hx, hb, hml, -⟩ := X
  refine W.lcmp hx hb d0 ?_
  have e0 : lg_cmp y y = 0 := by simp [lg_cmp]
  rw [e0]
  exact lv_if_eq hx hb d1 ht (fun _ => kk) (fun z => absurd rfl z)
/-- put's long: script[i + 3] above, script[i + 4] below -/
def zl_z (a b : Int32) : Int64 := (a.toInt64 <<< ((32 : Int32).toInt64 &&& 63)) ||| (b.toInt64 &&& 4294967295)
theorem zl_lg (X : zl_X l p R s m args c D κ A b L xs) (Y : zl_Y s D κ A ρ σ C M H locs) {q0 q1 : Nat} {x : Int32} (hl : lv_has ls 4 [(0, .ref b), (1, .ref q0), (2, .ref q1), (3, .int x)]) (hk : Cond.constantLong "OutByTurnsLaw" 172 4294967295 ∈ zx_B)
    (d0 : decode code pc = .ok (.aload_n 0, 1)) (d1 : decode code (pc + 1) = .ok (.iload_n 3, 1)) (d2 : decode code (pc + 2) = .ok (.iconst 3, 1)) (d3 : decode code (pc + 3) = .ok (.iadd, 1)) (d4 : decode code (pc + 4) = .ok (.iaload, 1)) (h3 : vp_in (x + 3) L)
    (d5 : decode code (pc + 5) = .ok (.i2l, 1)) (d6 : decode code (pc + 5 + 1) = .ok (.bipush 32, 2)) (d8 : decode code (pc + 5 + 1 + 2) = .ok (.lshl, 1))
    (d9 : decode code (pc + 5 + 1 + 2 + 1) = .ok (.aload_n 0, 1)) (d10 : decode code (pc + 5 + 1 + 2 + 1 + 1) = .ok (.iload_n 3, 1)) (d11 : decode code (pc + 5 + 1 + 2 + 1 + 2) = .ok (.iconst 4, 1)) (d12 : decode code (pc + 5 + 1 + 2 + 1 + 3) = .ok (.iadd, 1)) (d13 : decode code (pc + 5 + 1 + 2 + 1 + 4) = .ok (.iaload, 1)) (h4 : vp_in (x + 4) L)
    (d14 : decode code (pc + 5 + 1 + 2 + 1 + 5) = .ok (.i2l, 1)) (d15 : decode code (pc + 5 + 1 + 2 + 1 + 5 + 1) = .ok (.ldc2_w 172, 3)) (d18 : decode code (pc + 5 + 1 + 2 + 1 + 5 + 1 + 3) = .ok (.land, 1)) (d19 : decode code (pc + 5 + 1 + 2 + 1 + 5 + 1 + 3 + 1) = .ok (.lor, 1))
    (kk : W p l e R s m args below meth c H locs cells slots Q (F0 m (pc + 5 + 1 + 2 + 1 + 5 + 1 + 3 + 1 + 1) ls (.long (zl_z (xs (x + 3).toNatClampNeg) (xs (x + 4).toNatClampNeg)) :: st))) : W p l e R s m args below meth c H locs cells slots Q (F0 m pc ls st) := by
  refine zl_a X Y hl (by decide) d0 d1 d2 d3 d4 h3 ?_
  obtain ⟨hio, hx, hb, hml, hown, hts, -⟩ := id X
  refine lv_i2l hx hb d5 rfl ?_
  refine lv_bipush (v := 32) hx hb d6 (by decide) ?_
  refine lv_lshl hx hb d8 rfl ?_
  refine zl_a X Y hl (by decide) d9 d10 d11 d12 d13 h4 ?_
  refine lv_i2l hx hb d14 rfl ?_
  refine lv_ldc2 (v := 4294967295) hx hb hown (hts _ hk) d15 ?_
  refine lv_land hx hb d18 ?_
  exact lv_lor hx hb d19 kk
end ZL

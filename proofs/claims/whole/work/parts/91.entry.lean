/-! a side made new, from the law -/
theorem zl_split {D : va_G} {cl : List vw_C} {A : Nat → Prop} {w1 w2 : va_W} {H : Heap} (hP : va_P D cl (w1 ++ w2) H) (hD : va_D A (w1 ++ w2)) : va_P D cl w1 H ∧ va_P D cl w2 H ∧ va_D A w1 ∧ va_D A w2 ∧ zl_ap w1 w2 := by
  have a1 : ∀ (k : Nat) (q : Nat × va_E), w1[k]? = some q → (w1 ++ w2)[k]? = some q := fun k q h => by
    rw [List.getElem?_append_left (List.getElem?_eq_some_iff.mp h).1]; exact h
  have a2 : ∀ (k : Nat) (q : Nat × va_E), w2[k]? = some q → (w1 ++ w2)[w1.length + k]? = some q := fun k q h => by
    rw [List.getElem?_append_right (by omega), Nat.add_sub_cancel_left]; exact h
  refine ⟨fun k q h => hP k q (a1 k q h), fun k q h => hP _ q (a2 k q h), ⟨fun i j p q h1 h2 e => hD.1 i j p q (a1 i p h1) (a1 j q h2) e, fun k q h => hD.2 k q (a1 k q h)⟩, ⟨fun i j p q h1 h2 e => ?_, fun k q h => hD.2 _ q (a2 k q h)⟩, fun i j p q h1 h2 e => ?_⟩
  · have := hD.1 _ _ p q (a2 i p h1) (a2 j q h2) e
    omega
  · have := hD.1 _ _ p q (a1 i p h1) (a2 j q h2) e
    have hi := (List.getElem?_eq_some_iff.mp h1).1
    omega
theorem zi_w {ρ ρ0 : Nat → Nat} {κ : Nat → ClassId} {ci q : Nat} (hq : ρ 0 = q) : zx_w ρ κ zi_M 0 [.inl (ci, zx_df ci)] = [(q, .inr (ci, zx_f ρ0 (fun _ => 0) 0 (zx_df ci)))] := by
  simp only [zx_w, zx_e, zi_M]
  rw [hq, zx_df_map, zx_f_dv ρ ρ0]
set_option maxHeartbeats 1000000 in
theorem zl_init {p : Program} {l : Launch} {e : Env} {R : Room} {s : State} {m : MethodId} {args : Array Value} {below : List Frame} {meth : Method} {c : Code} {cc : ByteArray} {H : Heap} {locs : List Loc} {cells slots pc ix k n K N : Nat} {Q : State → Prop} {D : va_G} {κ : Nat → ClassId} {A : Nat → Prop} {ρ : Nat → Nat} {ls : Array Slot} {rest : List Value} {h h1 : zx_H} {w2 : va_W} {row : zx_T} {own : String}
    (hio : zx_IO l) (hx : p.tables.exec = Jvm.exec) (hb : c.code = cc) (hml : c.maxLocals = ls.size) (hown : s.vm.findClass own = some m.cls) (hts : ∀ w ∈ zx_B, w.before args s = true) (hRf : 79 ≤ R.frames) (hRl : 3200 ≤ R.locals) (hc : cells + K ≤ R.cells) (hs : slots + N ≤ R.slots)
    (hA : ∀ q, s.heap.size ≤ q → A q) (hKK : va_K D vwCl (zx_tys κ) s) (hZ : zx_St A ρ s s.heap)
    (hrow : zx_tm k = some row) (hret : row.2.2.2.1 = none) (hE : zx_run n 78 k 0 (zx_en row.2.2.1 [.ref 0]) [] h = some (none, h1)) (hK : h1.1.length = K + h.1.length) (hN : zx_sz h1.1 = N + zx_sz h.1) (hsl : (zx_sl [.ref 0]).length ≤ row.2.2.1)
    (hlk : Cond.methodLink own ix row.1 ∈ zx_B) (hin : Cond.instanceMethod row.1 ∈ zx_B) (hnm : row.1.name = "<init>") (hdn : (parseMethodDescriptor row.1.desc).map (fun d => d.parameters.length) = some 0)
    (hdg : decode cc pc = .ok (.invokespecial ix, 3)) (hcat : (rest.map fun v => v.category).sum ≤ 8)
    (hP : va_P D vwCl (zx_w ρ κ h.2 0 h.1) H) (hD : va_D A (zx_w ρ κ h.2 0 h.1)) (hS : va_S A s.heap H locs) (hP2 : va_P D vwCl w2 H) (hap : zl_ap (zx_w ρ κ h.2 0 h.1) w2)
    (kk : ∀ (u : Nat → Nat) (H1 : Heap) (locs1 : List Loc), zx_ag h.1.length ρ u → va_P D vwCl (zx_w u κ h1.2 0 h1.1) H1 → va_D A (zx_w u κ h1.2 0 h1.1) → va_S A s.heap H1 locs1 → va_P D vwCl w2 H1 → zl_ap (zx_w u κ h1.2 0 h1.1) w2 → W p l e R s m args below meth c H1 locs1 (cells + K) (slots + N) Q (F0 m (pc + 3) ls rest)) :
    W p l e R s m args below meth c H locs cells slots Q (F0 m pc ls (.ref (ρ 0) :: rest)) := by
  have hMt := zx_Mt_of (zx_sound l hio n) hrow hsl hE
  have hMc := zx_mok_at hrow
  have hMt2 := hMt D κ ρ H.size K N hK hN
  have hrm : (zx_rm 78 K N).frames + 1 ≤ R.frames ∧ 8 + (row.2.2.1 + 11) + (zx_rm 78 K N).locals ≤ R.locals := by
    have h21 := hMc.2.2.2.2.2.2
    exact ⟨hRf, by show 8 + (row.2.2.1 + 11) + 40 * 78 ≤ R.locals; omega⟩
  have hpc := zx_Pc_here (as := [.ref 0]) hA hKK hP hD hS hZ
  have hws : zx_ws row = Cond.code row.1 row.2.1 row.2.2.1 none :: zx_B := by unfold zx_ws; rw [hret]
  have fin : va_Run p l e R s m args below meth c H locs cells slots K N (F0 m pc ls (.ref (ρ 0) :: rest)) rest (zx_Qc D κ ρ h H.size none h1 [Value.ref (ρ 0)].toArray) (va_A (zx_w ρ κ h.2 0 h.1) H.size) :=
    va_runI (As := []) (rest := rest) (b := ρ 0) ⟨hx, hb, hml, hown, hts⟩ hMt2 (cwI 0 hts (zx_B_ws hMc (ws := []) (by simp)) hws rfl rfl (hts _ hMc.2.2.1) (hts _ hlk) (hts _ hin) hnm ⟨hMc.2.2.2.2.1.1, hMc.2.2.2.2.1.2, hdn⟩ hrm) ⟨zx_Pc_blind, hpc⟩ rfl rfl rfl rfl (by show 2 * 0 + _ ≤ 8; omega) hdg ⟨hc, hs⟩
  refine zl_back hA hD hS hP2 hap fin ?_
  intro u H1 locs1 hag g1 g2 g3 g4 g5
  exact kk u H1 locs1 hag g1 g2 g3 g4 g5

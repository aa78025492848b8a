/-! the law's walk: two worlds side by side, a call of either leaves the other as it is -/
def zl_ap (w1 w2 : va_W) : Prop := ∀ (i j : Nat) (p q : Nat × va_E), w1[i]? = some p → w2[j]? = some q → p.1 ≠ q.1
theorem zl_ap.sym {w1 w2 : va_W} (h : zl_ap w1 w2) : zl_ap w2 w1 := fun i j p q h1 h2 e => h j i q p h2 h1 e.symm
/-- behind a call -/
theorem zl_back {p : Program} {l : Launch} {e : Env} {R : Room} {s : State} {m : MethodId} {args : Array Value} {below : List Frame} {meth : Method} {c : Code} {H : Heap} {locs : List Loc} {cells slots mc ms pc : Nat} {Q : State → Prop} {D : va_G} {κ : Nat → ClassId} {A : Nat → Prop} {ρ : Nat → Nat} {ls : Array Slot} {st rest : List Value} {a : Array Value} {h h1 : zx_H} {v1 : Option Value} {w2 : va_W}
    (hA : ∀ q, s.heap.size ≤ q → A q) (hD : va_D A (zx_w ρ κ h.2 0 h.1)) (hS : va_S A s.heap H locs) (hP2 : va_P D vwCl w2 H) (hap : zl_ap (zx_w ρ κ h.2 0 h.1) w2)
    (hrun : va_Run p l e R s m args below meth c H locs cells slots mc ms (F0 m pc ls st) rest (zx_Qc D κ ρ h H.size v1 h1 a) (va_A (zx_w ρ κ h.2 0 h.1) H.size))
    (kk : ∀ (u : Nat → Nat) (H1 : Heap) (locs1 : List Loc), zx_ag h.1.length ρ u → va_P D vwCl (zx_w u κ h1.2 0 h1.1) H1 → va_D A (zx_w u κ h1.2 0 h1.1) → va_S A s.heap H1 locs1 → va_P D vwCl w2 H1 → zl_ap (zx_w u κ h1.2 0 h1.1) w2 → W p l e R s m args below meth c H1 locs1 (cells + mc) (slots + ms) Q (F0 m (pc + 3) ls (v1.toList ++ rest))) :
    W p l e R s m args below meth c H locs cells slots Q (F0 m pc ls st) := by
  have hsub : ∀ q, va_A (zx_w ρ κ h.2 0 h.1) H.size q → A q := fun q hq => by
    rcases hq with ⟨k, e2, hk⟩ | hq
    · exact hD.2 k (q, e2) hk
    · exact hA q (Nat.le_trans hS.1 hq)
  intro T hT X
  obtain ⟨v, st₀, t, T', L, h0, X', hL, e1, e2, ⟨⟨u, hv, hag, hP1, hK1, hD1⟩, hz, hk⟩, stp⟩ := hrun T hT X
  cases hv
  rw [h0] at hz hk
  have hfree : ∀ (j : Nat) (q : Nat × va_E), w2[j]? = some q → q.1 < H.size ∧ ¬ va_A (zx_w ρ κ h.2 0 h.1) H.size q.1 := fun j q hq => by
    have hl := (hP2 j q hq).lt
    refine ⟨hl, fun z => ?_⟩
    rcases z with ⟨k, e3, hk3⟩ | z
    · exact hap k j (q.1, e3) q hk3 hq rfl
    · omega
  obtain ⟨t2, a1, b1⟩ := kk u T'.heap (locs ++ L) hag (by rw [e1]; exact hP1) (hD1.weaken (fun _ q _ hq => hsub q.1 hq))
    ⟨Nat.le_trans hS.1 (by rw [e1]; exact hz), fun q g1 g2 => by rw [e1, hk q (Nat.lt_of_lt_of_le g1 hS.1) (fun z => g2 (hsub q z))]; exact hS.2.1 q g1 g2, fun q hq => by
      rcases List.mem_append.mp hq with g | g
      · exact hS.2.2 q g
      · exact hsub _ (hL q g)⟩
    (fun j q hq => (hP2 j q hq).kept (by rw [e1]; exact hk q.1 (hfree j q hq).1 (hfree j q hq).2))
    (fun i j x q hx hq hxq => (hfree j q hq).2 (by rw [← hxq]; exact hD1.2 i x hx)) T' rfl X'
  exact ⟨t2, stp t2 a1, b1⟩
set_option maxHeartbeats 1000000 in
/-- a call of a method of one of the two, from the law -/
theorem zl_call {p : Program} {l : Launch} {e : Env} {R : Room} {s : State} {m : MethodId} {args : Array Value} {below : List Frame} {meth : Method} {c : Code} {cc : ByteArray} {H : Heap} {locs : List Loc} {cells slots pc ix k ci : Nat} {Q : State → Prop} {D : va_G} {κ : Nat → ClassId} {A : Nat → Prop} {ρ : Nat → Nat} {ls : Array Slot} {rest as : List Value} {h h1 : zx_H} {v : Value} {w2 : va_W} {row : zx_T} {own : String} {rs : List (Option (Option Nat))}
    (hio : zx_IO l) (hx : p.tables.exec = Jvm.exec) (hb : c.code = cc) (hml : c.maxLocals = ls.size) (hown : s.vm.findClass own = some m.cls) (hts : ∀ w ∈ zx_B, w.before args s = true) (hRf : 79 ≤ R.frames) (hRl : 3200 ≤ R.locals) (hc : cells ≤ R.cells) (hs : slots ≤ R.slots)
    (hA : ∀ q, s.heap.size ≤ q → A q) (hKK : va_K D vwCl (zx_tys κ) s) (hZ : zx_St A ρ s s.heap)
    (hrow : zx_tm k = some row) (hE : zx_Ev 78 k 0 (zx_en row.2.2.1 (.ref 0 :: as)) [] h (some v, h1)) (hz1 : h1.1 = h.1) (hsl : (zx_sl (.ref 0 :: as)).length ≤ row.2.2.1)
    (hlk : Cond.methodLink own ix row.1 ∈ zx_B) (hin : Cond.instanceMethod row.1 ∈ zx_B) (hse : Cond.selects row.1.cls row.1 row.1 ∈ zx_B) (hdn : (parseMethodDescriptor row.1.desc).map (fun d => d.parameters.length) = some as.length)
    (h0 : h.1[0]? = some (.inl (row.2.2.2.2.1, rs))) (hci : row.2.2.2.2.1 < 10) (has : as.map (zx_v ρ) = as) (hdg : decode cc pc = .ok (.invokevirtual ix, 3)) (hcat : (rest.map fun v => v.category).sum ≤ 8)
    (hP : va_P D vwCl (zx_w ρ κ h.2 0 h.1) H) (hD : va_D A (zx_w ρ κ h.2 0 h.1)) (hS : va_S A s.heap H locs) (hP2 : va_P D vwCl w2 H) (hap : zl_ap (zx_w ρ κ h.2 0 h.1) w2)
    (kk : ∀ (u : Nat → Nat) (H1 : Heap) (locs1 : List Loc), zx_ag h.1.length ρ u → va_P D vwCl (zx_w u κ h1.2 0 h1.1) H1 → va_D A (zx_w u κ h1.2 0 h1.1) → va_S A s.heap H1 locs1 → va_P D vwCl w2 H1 → zl_ap (zx_w u κ h1.2 0 h1.1) w2 → W p l e R s m args below meth c H1 locs1 cells slots Q (F0 m (pc + 3) ls (v :: rest))) :
    W p l e R s m args below meth c H locs cells slots Q (F0 m pc ls (as.reverse ++ .ref (ρ 0) :: rest)) := by
  obtain ⟨n, hn⟩ := hE
  have hMt := zx_Mt_of (zx_sound l hio n) hrow hsl hn
  have hMc := zx_mok_at hrow
  have hMt2 := hMt D κ ρ H.size 0 0 (by rw [hz1]; omega) (by rw [hz1]; omega)
  have hrm : (zx_rm 78 0 0).frames + 1 ≤ R.frames ∧ 8 + (row.2.2.1 + 11) + (zx_rm 78 0 0).locals ≤ R.locals := by
    have h21 := hMc.2.2.2.2.2.2
    exact ⟨hRf, by show 8 + (row.2.2.1 + 11) + 40 * 78 ≤ R.locals; omega⟩
  have hpc := zx_Pc_here (as := .ref 0 :: as) hA hKK hP hD hS hZ
  have hrecv : ∃ cell : Cell, H[ρ 0]? = some cell ∧ cell.vm.isStatics = false ∧ s.vm.findClass row.1.cls = some cell.cls := by
    obtain ⟨qv, hq1, -⟩ := (hP 0 _ (zx_w_obj h0))
    have hF := zx_fok hq1
    have e9 : row.1.cls = qv.1 := by rw [hMc.2.2.2.1]; exact hF.2.1.symm
    rw [e9]
    exact va_recv hKK hP hq1 (zx_w_obj h0)
  have eas : ((.ref 0 :: as : List Value).map (zx_v ρ)) = .ref (ρ 0) :: as := by simp [zx_v, has]
  rw [eas] at hpc
  have fin : va_Run p l e R s m args below meth c H locs cells slots 0 0 (F0 m pc ls (as.reverse ++ .ref (ρ 0) :: rest)) rest (zx_Qc D κ ρ h H.size (some v) h1 (Value.ref (ρ 0) :: as).toArray) (va_A (zx_w ρ κ h.2 0 h.1) H.size) :=
    va_runV (As := as) (rest := rest) (b := ρ 0) ⟨hx, hb, hml, hown, hts⟩ hMt2 (cwV as.length hts (zx_B_ws hMc (ws := [.methodLink own ix row.1, .instanceMethod row.1, .selects row.1.cls row.1 row.1, .initialized row.1.cls]) (by simp [hlk, hin, hse, hMc.2.2.1])) rfl rfl rfl ⟨rfl, hMc.2.2.2.2.1.1, hMc.2.2.2.2.1.2, hdn⟩ hrm) ⟨zx_Pc_blind, hrecv, hpc⟩ rfl rfl rfl rfl (by show 2 * 0 + _ ≤ 8; omega) hdg ⟨hc, hs⟩
  refine zl_back hA hD hS hP2 hap fin ?_
  intro u H1 locs1 hag g1 g2 g3 g4 g5
  exact kk u H1 locs1 hag g1 g2 g3 g4 g5
/-- one of the law's arguments: script[i + k] -/
theorem zl_arg {p : Program} {l : Launch} {e : Env} {R : Room} {s : State} {m : MethodId} {args : Array Value} {below : List Frame} {meth : Method} {c : Code} {cc : ByteArray} {H : Heap} {locs : List Loc} {cells slots pc b L q0 q1 : Nat} {Q : State → Prop} {A : Nat → Prop} {ls : Array Slot} {st : List Value} {xs : Nat → Int32} {x k : Int32} {kn : Int}
    (hx : p.tables.exec = Jvm.exec) (hb : c.code = cc) (hX : va_X b L xs s s.heap) (hbl : b < s.heap.size) (hbA : ¬ A b) (hS : va_S A s.heap H locs) (hl : lv_has ls 4 [(0, .ref b), (1, .ref q0), (2, .ref q1), (3, .int x)]) (hk : Int32.ofInt kn = k)
    (d0 : decode cc pc = .ok (.aload_n 0, 1)) (d1 : decode cc (pc + 1) = .ok (.iload_n 3, 1)) (d2 : decode cc (pc + 2) = .ok (.iconst kn, 1)) (d3 : decode cc (pc + 3) = .ok (.iadd, 1)) (d4 : decode cc (pc + 4) = .ok (.iaload, 1)) (hin : vp_in (x + k) L)
    (kk : W p l e R s m args below meth c H locs cells slots Q (F0 m (pc + 5) ls (.int (xs (x + k).toNatClampNeg) :: st))) : W p l e R s m args below meth c H locs cells slots Q (F0 m pc ls st) := by
  refine lv_aload_n hx hb d0 rfl (lv_at hl 0 rfl) ?_
  refine lv_iload_n hx hb d1 rfl (lv_at hl 3 rfl) ?_
  refine lv_iconst (v := k) hx hb d2 hk ?_
  refine lv_iadd hx hb d3 ?_
  exact va_sld hx hb hX hbl hbA hS hin d4 kk

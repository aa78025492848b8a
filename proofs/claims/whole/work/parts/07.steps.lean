/-! each step of the machine is one of the Java machine's -/
def zx_sz : List zx_Sh → Nat
  | [] => 0
  | .inl (_, rs) :: t => rs.length + zx_sz t
  | .inr (_, n) :: t => n + zx_sz t
theorem zx_sz_app (a b : List zx_Sh) : zx_sz (a ++ b) = zx_sz a + zx_sz b := by
  induction a with
  | nil => simp [zx_sz]
  | cons x t ih =>
    obtain ⟨c, rs⟩ | ⟨k, n⟩ := x
    · simp only [List.cons_append, zx_sz]; omega
    · simp only [List.cons_append, zx_sz]; omega
theorem zx_sz_set {S : List zx_Sh} {q c : Nat} {rs rs' : List (Option (Option Nat))} (h : S[q]? = some (.inl (c, rs))) (hl : rs'.length = rs.length) : zx_sz (S.set q (.inl (c, rs'))) = zx_sz S := by
  induction S generalizing q with
  | nil => simp at h
  | cons x t ih =>
    cases q with
    | zero =>
      simp at h
      subst h
      simp [zx_sz, hl]
    | succ q =>
      have h1 := ih (q := q) (by simpa using h)
      obtain ⟨c2, r2⟩ | ⟨k, n⟩ := x
      · simp only [List.set_cons_succ, zx_sz]; omega
      · simp only [List.set_cons_succ, zx_sz]; omega
def zx_X (p : Program) (R : Room) (s : State) (m : MethodId) (args : Array Value) (meth : Method) (c : Code) (row : zx_T) (D : va_G) (κ : Nat → ClassId) (A : Nat → Prop) (d : Nat) : Prop :=
  p.tables.exec = Jvm.exec ∧ c.code = row.2.1 ∧ c.maxLocals = row.2.2.1 ∧ s.vm.findClass row.1.cls = some m.cls ∧ meth.name = row.1.name ∧ (∀ w ∈ zx_B, w.before args s = true) ∧ va_K D vwCl (zx_tys κ) s ∧ (∀ q, s.heap.size ≤ q → A q) ∧ d ≤ R.frames ∧ 40 * d ≤ R.locals ∧ zx_MOK row
def zx_Y (s : State) (row : zx_T) (D : va_G) (κ : Nat → ClassId) (A : Nat → Prop) (ρ : Nat → Nat) (h : zx_H) (H : Heap) (locs : List Loc) (L : zx_L) (ls : Array Slot) : Prop :=
  va_P D vwCl (zx_w ρ κ h.2 0 h.1) H ∧ va_D A (zx_w ρ κ h.2 0 h.1) ∧ va_S A s.heap H locs ∧ zx_St A ρ s s.heap ∧ zx_lr ρ L ls ∧ L.length = row.2.2.1
section ZX
variable {p : Program} {l : Launch} {e : Env} {R : Room} {s : State} {m : MethodId} {args : Array Value} {below : List Frame} {meth : Method} {c : Code} {H : Heap} {locs : List Loc} {cells slots : Nat} {Q : State → Prop}
variable {row : zx_T} {D : va_G} {κ : Nat → ClassId} {A : Nat → Prop} {d o pc K N : Nat} {ρ : Nat → Nat} {h : zx_H} {L : zx_L} {ls : Array Slot} {st : List Value} {q : zx_K} {b : Bool}
/-- goes on from a state of the machine -/
def zx_G (p : Program) (l : Launch) (e : Env) (R : Room) (s : State) (m : MethodId) (args : Array Value) (below : List Frame) (meth : Method) (c : Code) (Q : State → Prop) (row : zx_T) (D : va_G) (κ : Nat → ClassId) (A : Nat → Prop) (K N n0 : Nat) (ρ0 : Nat → Nat) (k : zx_K) : Prop :=
  ∀ (ρ : Nat → Nat) (H : Heap) (locs : List Loc) (ls : Array Slot), zx_ag n0 ρ0 ρ → zx_Y s row D κ A ρ k.2.2.2 H locs k.2.1 ls → W p l e R s m args below meth c H locs K N Q (F0 m k.1 ls (k.2.2.1.map (zx_v ρ)))
theorem zx_G_same {n0 pc' : Nat} {st' : List Value} (G : zx_G p l e R s m args below meth c Q row D κ A K N n0 ρ (pc', L, st', h)) (Y : zx_Y s row D κ A ρ h H locs L ls) : W p l e R s m args below meth c H locs K N Q (F0 m pc' ls (st'.map (zx_v ρ))) := G ρ H locs ls zx_ag.rf Y
theorem zx_G_loc {n0 pc' : Nat} {L' : zx_L} {ls' : Array Slot} {st' : List Value} (G : zx_G p l e R s m args below meth c Q row D κ A K N n0 ρ (pc', L', st', h)) (Y : zx_Y s row D κ A ρ h H locs L ls) (hl : zx_lr ρ L' ls') (hn : L'.length = L.length) : W p l e R s m args below meth c H locs K N Q (F0 m pc' ls' (st'.map (zx_v ρ))) := G ρ H locs ls' zx_ag.rf ⟨Y.1, Y.2.1, Y.2.2.1, Y.2.2.2.1, hl, hn.trans Y.2.2.2.2.2⟩
theorem zx_s1_lt {L L' : zx_L} {i : Nat} {v : Value} (hs : zx_s1 L i v = some L') : i < L.length := by
  unfold zx_s1 at hs
  cases hlt : Nat.blt i L.length with
  | false => rw [hlt] at hs; simp at hs
  | true => exact Nat.blt_eq.mp hlt
theorem zx_s2_lt {L L' : zx_L} {i : Nat} {v : Value} (hs : zx_s2 L i v = some L') : i + 1 < L.length := by
  unfold zx_s2 at hs
  cases hlt : Nat.blt (i + 1) L.length with
  | false => rw [hlt] at hs; simp at hs
  | true => exact Nat.blt_eq.mp hlt
theorem zx_s1_len {L L' : zx_L} {i : Nat} {v : Value} (hs : zx_s1 L i v = some L') : L'.length = L.length := by
  have h := Nat.blt_eq.mpr (zx_s1_lt hs)
  unfold zx_s1 at hs
  rw [h] at hs
  simp at hs
  rw [← hs, zx_put_set]
  simp [zx_k2_len]
theorem zx_s2_len {L L' : zx_L} {i : Nat} {v : Value} (hs : zx_s2 L i v = some L') : L'.length = L.length := by
  have h := Nat.blt_eq.mpr (zx_s2_lt hs)
  unfold zx_s2 at hs
  rw [h] at hs
  simp at hs
  rw [← hs, zx_put_set, zx_put_set]
  simp [zx_k2_len]
theorem zx_tg_eq {pc t : Nat} {off : Int} (h : zx_tg pc off = some t) : (pc : Int) + off = (t : Int) := by
  unfold zx_tg at h
  split at h
  · rename_i n hn
    simp at h
    rw [hn, h]
    rfl
  · simp at h
theorem zs_aload {k : Nat} (X : zx_X p R s m args meth c row D κ A d) (Y : zx_Y s row D κ A ρ h H locs L ls) (hdg : decode row.2.1 pc = .ok (.aload k, 2)) (hst : zx_lda L k 2 pc st h = some q) (G : zx_G p l e R s m args below meth c Q row D κ A cells slots h.1.length ρ q) : W p l e R s m args below meth c H locs cells slots Q (F0 m pc ls (st.map (zx_v ρ))) := by
  obtain ⟨hx, hb, hml, hown, hnm, hts, hK, hA, hRf, hRl, hM⟩ := X
  unfold zx_lda at hst
  rw [zx_nth_get] at hst
  cases hv : L[k]? with
  | none => rw [hv] at hst; simp at hst
  | some o =>
    rw [hv] at hst
    cases o with
    | none => simp at hst
    | some v =>
      cases v with
      | ref x =>
        simp only [Option.some.injEq] at hst
        subst hst
        exact lv_aload hx hb hdg (Y.2.2.2.2.1.2.2 _ _ hv) (zx_G_same G Y)
      | _ => simp at hst
theorem zs_aload_n {k : Fin 4} (X : zx_X p R s m args meth c row D κ A d) (Y : zx_Y s row D κ A ρ h H locs L ls) (hdg : decode row.2.1 pc = .ok (.aload_n k, 1)) (hst : zx_lda L k.val 1 pc st h = some q) (G : zx_G p l e R s m args below meth c Q row D κ A cells slots h.1.length ρ q) : W p l e R s m args below meth c H locs cells slots Q (F0 m pc ls (st.map (zx_v ρ))) := by
  obtain ⟨hx, hb, hml, hown, hnm, hts, hK, hA, hRf, hRl, hM⟩ := X
  unfold zx_lda at hst
  rw [zx_nth_get] at hst
  cases hv : L[k.val]? with
  | none => rw [hv] at hst; simp at hst
  | some o =>
    rw [hv] at hst
    cases o with
    | none => simp at hst
    | some v =>
      cases v with
      | ref x =>
        simp only [Option.some.injEq] at hst
        subst hst
        exact lv_aload_n hx hb hdg rfl (Y.2.2.2.2.1.2.2 _ _ hv) (zx_G_same G Y)
      | _ => simp at hst
theorem zs_iload {k : Nat} (X : zx_X p R s m args meth c row D κ A d) (Y : zx_Y s row D κ A ρ h H locs L ls) (hdg : decode row.2.1 pc = .ok (.iload k, 2)) (hst : zx_ldi L k 2 pc st h = some q) (G : zx_G p l e R s m args below meth c Q row D κ A cells slots h.1.length ρ q) : W p l e R s m args below meth c H locs cells slots Q (F0 m pc ls (st.map (zx_v ρ))) := by
  obtain ⟨hx, hb, hml, hown, hnm, hts, hK, hA, hRf, hRl, hM⟩ := X
  unfold zx_ldi at hst
  rw [zx_nth_get] at hst
  cases hv : L[k]? with
  | none => rw [hv] at hst; simp at hst
  | some o =>
    rw [hv] at hst
    cases o with
    | none => simp at hst
    | some v =>
      cases v with
      | int x =>
        simp only [Option.some.injEq] at hst
        subst hst
        exact lv_iload hx hb hdg (Y.2.2.2.2.1.2.2 _ _ hv) (zx_G_same G Y)
      | _ => simp at hst
theorem zs_iload_n {k : Fin 4} (X : zx_X p R s m args meth c row D κ A d) (Y : zx_Y s row D κ A ρ h H locs L ls) (hdg : decode row.2.1 pc = .ok (.iload_n k, 1)) (hst : zx_ldi L k.val 1 pc st h = some q) (G : zx_G p l e R s m args below meth c Q row D κ A cells slots h.1.length ρ q) : W p l e R s m args below meth c H locs cells slots Q (F0 m pc ls (st.map (zx_v ρ))) := by
  obtain ⟨hx, hb, hml, hown, hnm, hts, hK, hA, hRf, hRl, hM⟩ := X
  unfold zx_ldi at hst
  rw [zx_nth_get] at hst
  cases hv : L[k.val]? with
  | none => rw [hv] at hst; simp at hst
  | some o =>
    rw [hv] at hst
    cases o with
    | none => simp at hst
    | some v =>
      cases v with
      | int x =>
        simp only [Option.some.injEq] at hst
        subst hst
        exact lv_iload_n hx hb hdg rfl (Y.2.2.2.2.1.2.2 _ _ hv) (zx_G_same G Y)
      | _ => simp at hst
theorem zs_lload {k : Nat} (X : zx_X p R s m args meth c row D κ A d) (Y : zx_Y s row D κ A ρ h H locs L ls) (hdg : decode row.2.1 pc = .ok (.lload k, 2)) (hst : zx_ldl L k 2 pc st h = some q) (G : zx_G p l e R s m args below meth c Q row D κ A cells slots h.1.length ρ q) : W p l e R s m args below meth c H locs cells slots Q (F0 m pc ls (st.map (zx_v ρ))) := by
  obtain ⟨hx, hb, hml, hown, hnm, hts, hK, hA, hRf, hRl, hM⟩ := X
  unfold zx_ldl at hst
  rw [zx_nth_get] at hst
  cases hv : L[k]? with
  | none => rw [hv] at hst; simp at hst
  | some o =>
    rw [hv] at hst
    cases o with
    | none => simp at hst
    | some v =>
      cases v with
      | long x =>
        simp only [Option.some.injEq] at hst
        subst hst
        exact lv_lload hx hb hdg (Y.2.2.2.2.1.2.2 _ _ hv) (zx_G_same G Y)
      | _ => simp at hst
theorem zs_lload_n {k : Fin 4} (X : zx_X p R s m args meth c row D κ A d) (Y : zx_Y s row D κ A ρ h H locs L ls) (hdg : decode row.2.1 pc = .ok (.lload_n k, 1)) (hst : zx_ldl L k.val 1 pc st h = some q) (G : zx_G p l e R s m args below meth c Q row D κ A cells slots h.1.length ρ q) : W p l e R s m args below meth c H locs cells slots Q (F0 m pc ls (st.map (zx_v ρ))) := by
  obtain ⟨hx, hb, hml, hown, hnm, hts, hK, hA, hRf, hRl, hM⟩ := X
  unfold zx_ldl at hst
  rw [zx_nth_get] at hst
  cases hv : L[k.val]? with
  | none => rw [hv] at hst; simp at hst
  | some o =>
    rw [hv] at hst
    cases o with
    | none => simp at hst
    | some v =>
      cases v with
      | long x =>
        simp only [Option.some.injEq] at hst
        subst hst
        exact lv_lload_n hx hb hdg rfl (Y.2.2.2.2.1.2.2 _ _ hv) (zx_G_same G Y)
      | _ => simp at hst
theorem zs_astore_n {k : Fin 4} (X : zx_X p R s m args meth c row D κ A d) (Y : zx_Y s row D κ A ρ h H locs L ls) (hdg : decode row.2.1 pc = .ok (.astore_n k, 1)) (hst : zx_sta L k.val 1 pc st h = some q) (G : zx_G p l e R s m args below meth c Q row D κ A cells slots h.1.length ρ q) : W p l e R s m args below meth c H locs cells slots Q (F0 m pc ls (st.map (zx_v ρ))) := by
  obtain ⟨hx, hb, hml, hown, hnm, hts, hK, hA, hRf, hRl, hM⟩ := X
  cases st with
  | nil => simp [zx_sta] at hst
  | cons v r =>
    cases v with
    | ref x =>
      simp only [zx_sta] at hst
      cases hs : zx_s1 L k.val (.ref x) with
      | none => rw [hs] at hst; simp at hst
      | some L1 =>
        rw [hs] at hst
        simp only [Option.some.injEq] at hst
        subst hst
        exact lv_astore_n hx hb hdg rfl (zx_lr_has Y.2.2.2.2.1) (zx_s1_lt hs) rfl (fun ls1 h1 => zx_G_loc G Y (zx_lr_s1 hs h1).1 (zx_s1_len hs))
    | _ => simp [zx_sta] at hst
theorem zs_istore {k : Nat} (X : zx_X p R s m args meth c row D κ A d) (Y : zx_Y s row D κ A ρ h H locs L ls) (hdg : decode row.2.1 pc = .ok (.istore k, 2)) (hst : zx_sti L k 2 pc st h = some q) (G : zx_G p l e R s m args below meth c Q row D κ A cells slots h.1.length ρ q) : W p l e R s m args below meth c H locs cells slots Q (F0 m pc ls (st.map (zx_v ρ))) := by
  obtain ⟨hx, hb, hml, hown, hnm, hts, hK, hA, hRf, hRl, hM⟩ := X
  cases st with
  | nil => simp [zx_sti] at hst
  | cons v r =>
    cases v with
    | int x =>
      simp only [zx_sti] at hst
      cases hs : zx_s1 L k (.int x) with
      | none => rw [hs] at hst; simp at hst
      | some L1 =>
        rw [hs] at hst
        simp only [Option.some.injEq] at hst
        subst hst
        exact lv_istore hx hb hdg (zx_lr_has Y.2.2.2.2.1) (zx_s1_lt hs) rfl (fun ls1 h1 => zx_G_loc G Y (zx_lr_s1 hs h1).1 (zx_s1_len hs))
    | _ => simp [zx_sti] at hst
theorem zs_istore_n {k : Fin 4} (X : zx_X p R s m args meth c row D κ A d) (Y : zx_Y s row D κ A ρ h H locs L ls) (hdg : decode row.2.1 pc = .ok (.istore_n k, 1)) (hst : zx_sti L k.val 1 pc st h = some q) (G : zx_G p l e R s m args below meth c Q row D κ A cells slots h.1.length ρ q) : W p l e R s m args below meth c H locs cells slots Q (F0 m pc ls (st.map (zx_v ρ))) := by
  obtain ⟨hx, hb, hml, hown, hnm, hts, hK, hA, hRf, hRl, hM⟩ := X
  cases st with
  | nil => simp [zx_sti] at hst
  | cons v r =>
    cases v with
    | int x =>
      simp only [zx_sti] at hst
      cases hs : zx_s1 L k.val (.int x) with
      | none => rw [hs] at hst; simp at hst
      | some L1 =>
        rw [hs] at hst
        simp only [Option.some.injEq] at hst
        subst hst
        exact lv_istore_n hx hb hdg rfl (zx_lr_has Y.2.2.2.2.1) (zx_s1_lt hs) rfl (fun ls1 h1 => zx_G_loc G Y (zx_lr_s1 hs h1).1 (zx_s1_len hs))
    | _ => simp [zx_sti] at hst
theorem zs_lstore {k : Nat} (X : zx_X p R s m args meth c row D κ A d) (Y : zx_Y s row D κ A ρ h H locs L ls) (hdg : decode row.2.1 pc = .ok (.lstore k, 2)) (hst : zx_stl L k 2 pc st h = some q) (G : zx_G p l e R s m args below meth c Q row D κ A cells slots h.1.length ρ q) : W p l e R s m args below meth c H locs cells slots Q (F0 m pc ls (st.map (zx_v ρ))) := by
  obtain ⟨hx, hb, hml, hown, hnm, hts, hK, hA, hRf, hRl, hM⟩ := X
  cases st with
  | nil => simp [zx_stl] at hst
  | cons v r =>
    cases v with
    | long x =>
      simp only [zx_stl] at hst
      cases hs : zx_s2 L k (.long x) with
      | none => rw [hs] at hst; simp at hst
      | some L1 =>
        rw [hs] at hst
        simp only [Option.some.injEq] at hst
        subst hst
        exact lv_lstore hx hb hdg (zx_lr_has Y.2.2.2.2.1) (zx_s2_lt hs) rfl (fun ls1 h1 => zx_G_loc G Y (zx_lr_s2 hs h1).1 (zx_s2_len hs))
    | _ => simp [zx_stl] at hst
theorem zs_lstore_n {k : Fin 4} (X : zx_X p R s m args meth c row D κ A d) (Y : zx_Y s row D κ A ρ h H locs L ls) (hdg : decode row.2.1 pc = .ok (.lstore_n k, 1)) (hst : zx_stl L k.val 1 pc st h = some q) (G : zx_G p l e R s m args below meth c Q row D κ A cells slots h.1.length ρ q) : W p l e R s m args below meth c H locs cells slots Q (F0 m pc ls (st.map (zx_v ρ))) := by
  obtain ⟨hx, hb, hml, hown, hnm, hts, hK, hA, hRf, hRl, hM⟩ := X
  cases st with
  | nil => simp [zx_stl] at hst
  | cons v r =>
    cases v with
    | long x =>
      simp only [zx_stl] at hst
      cases hs : zx_s2 L k.val (.long x) with
      | none => rw [hs] at hst; simp at hst
      | some L1 =>
        rw [hs] at hst
        simp only [Option.some.injEq] at hst
        subst hst
        exact lv_lstore_n hx hb hdg rfl (zx_lr_has Y.2.2.2.2.1) (zx_s2_lt hs) rfl (fun ls1 h1 => zx_G_loc G Y (zx_lr_s2 hs h1).1 (zx_s2_len hs))
    | _ => simp [zx_stl] at hst
theorem zs_iinc {k : Nat} {n : Int} (X : zx_X p R s m args meth c row D κ A d) (Y : zx_Y s row D κ A ρ h H locs L ls) (hdg : decode row.2.1 pc = .ok (.iinc k n, 3)) (hst : (match zx_nth L k with
    | some (some (.int x)) => match zx_s1 L k (.int (x + Int32.ofInt n)) with
      | some L1 => some (pc + 3, L1, st, h)
      | none => none
    | _ => none) = some q) (G : zx_G p l e R s m args below meth c Q row D κ A cells slots h.1.length ρ q) : W p l e R s m args below meth c H locs cells slots Q (F0 m pc ls (st.map (zx_v ρ))) := by
  obtain ⟨hx, hb, hml, hown, hnm, hts, hK, hA, hRf, hRl, hM⟩ := X
  rw [zx_nth_get] at hst
  cases hv : L[k]? with
  | none => rw [hv] at hst; simp at hst
  | some o =>
    rw [hv] at hst
    cases o with
    | none => simp at hst
    | some v =>
      cases v with
      | int x =>
        simp only at hst
        cases hs : zx_s1 L k (.int (x + Int32.ofInt n)) with
        | none => rw [hs] at hst; simp at hst
        | some L1 =>
          rw [hs] at hst
          simp only [Option.some.injEq] at hst
          subst hst
          have hm : (k, Value.int x) ∈ zx_la ρ 0 L := zx_la_mem.mpr ⟨k, .int x, by simp, hv, rfl⟩
          obtain ⟨j, hj⟩ := List.getElem?_of_mem hm
          exact lv_iinc hx hb hdg (zx_lr_has Y.2.2.2.2.1) hj rfl (zx_s1_lt hs) rfl (fun ls1 h1 => zx_G_loc G Y (zx_lr_s1 hs h1).1 (zx_s1_len hs))
      | _ => simp at hst
theorem zs_iadd (X : zx_X p R s m args meth c row D κ A d) (Y : zx_Y s row D κ A ρ h H locs L ls) (hdg : decode row.2.1 pc = .ok (.iadd, 1)) (hst : zx_i2 (fun x y => x + y) pc L st h = some q) (G : zx_G p l e R s m args below meth c Q row D κ A cells slots h.1.length ρ q) : W p l e R s m args below meth c H locs cells slots Q (F0 m pc ls (st.map (zx_v ρ))) := by
  obtain ⟨hx, hb, hml, hown, hnm, hts, hK, hA, hRf, hRl, hM⟩ := X
  cases st with
  | nil => simp [zx_i2] at hst
  | cons v r =>
    cases v with
    | int y =>
      cases r with
      | nil => simp [zx_i2] at hst
      | cons w r =>
        cases w with
        | int x =>
          simp only [zx_i2, Option.some.injEq] at hst
          subst hst
          exact lv_iadd hx hb hdg (zx_G_same G Y)
        | _ => simp [zx_i2] at hst
    | _ => simp [zx_i2] at hst
theorem zs_isub (X : zx_X p R s m args meth c row D κ A d) (Y : zx_Y s row D κ A ρ h H locs L ls) (hdg : decode row.2.1 pc = .ok (.isub, 1)) (hst : zx_i2 (fun x y => x - y) pc L st h = some q) (G : zx_G p l e R s m args below meth c Q row D κ A cells slots h.1.length ρ q) : W p l e R s m args below meth c H locs cells slots Q (F0 m pc ls (st.map (zx_v ρ))) := by
  obtain ⟨hx, hb, hml, hown, hnm, hts, hK, hA, hRf, hRl, hM⟩ := X
  cases st with
  | nil => simp [zx_i2] at hst
  | cons v r =>
    cases v with
    | int y =>
      cases r with
      | nil => simp [zx_i2] at hst
      | cons w r =>
        cases w with
        | int x =>
          simp only [zx_i2, Option.some.injEq] at hst
          subst hst
          exact lv_isub hx hb hdg (zx_G_same G Y)
        | _ => simp [zx_i2] at hst
    | _ => simp [zx_i2] at hst
theorem zs_imul (X : zx_X p R s m args meth c row D κ A d) (Y : zx_Y s row D κ A ρ h H locs L ls) (hdg : decode row.2.1 pc = .ok (.imul, 1)) (hst : zx_i2 (fun x y => x * y) pc L st h = some q) (G : zx_G p l e R s m args below meth c Q row D κ A cells slots h.1.length ρ q) : W p l e R s m args below meth c H locs cells slots Q (F0 m pc ls (st.map (zx_v ρ))) := by
  obtain ⟨hx, hb, hml, hown, hnm, hts, hK, hA, hRf, hRl, hM⟩ := X
  cases st with
  | nil => simp [zx_i2] at hst
  | cons v r =>
    cases v with
    | int y =>
      cases r with
      | nil => simp [zx_i2] at hst
      | cons w r =>
        cases w with
        | int x =>
          simp only [zx_i2, Option.some.injEq] at hst
          subst hst
          exact lv_imul hx hb hdg (zx_G_same G Y)
        | _ => simp [zx_i2] at hst
    | _ => simp [zx_i2] at hst
theorem zs_iand (X : zx_X p R s m args meth c row D κ A d) (Y : zx_Y s row D κ A ρ h H locs L ls) (hdg : decode row.2.1 pc = .ok (.iand, 1)) (hst : zx_i2 (fun x y => x &&& y) pc L st h = some q) (G : zx_G p l e R s m args below meth c Q row D κ A cells slots h.1.length ρ q) : W p l e R s m args below meth c H locs cells slots Q (F0 m pc ls (st.map (zx_v ρ))) := by
  obtain ⟨hx, hb, hml, hown, hnm, hts, hK, hA, hRf, hRl, hM⟩ := X
  cases st with
  | nil => simp [zx_i2] at hst
  | cons v r =>
    cases v with
    | int y =>
      cases r with
      | nil => simp [zx_i2] at hst
      | cons w r =>
        cases w with
        | int x =>
          simp only [zx_i2, Option.some.injEq] at hst
          subst hst
          exact lv_iand hx hb hdg (zx_G_same G Y)
        | _ => simp [zx_i2] at hst
    | _ => simp [zx_i2] at hst
theorem zs_ior (X : zx_X p R s m args meth c row D κ A d) (Y : zx_Y s row D κ A ρ h H locs L ls) (hdg : decode row.2.1 pc = .ok (.ior, 1)) (hst : zx_i2 (fun x y => x ||| y) pc L st h = some q) (G : zx_G p l e R s m args below meth c Q row D κ A cells slots h.1.length ρ q) : W p l e R s m args below meth c H locs cells slots Q (F0 m pc ls (st.map (zx_v ρ))) := by
  obtain ⟨hx, hb, hml, hown, hnm, hts, hK, hA, hRf, hRl, hM⟩ := X
  cases st with
  | nil => simp [zx_i2] at hst
  | cons v r =>
    cases v with
    | int y =>
      cases r with
      | nil => simp [zx_i2] at hst
      | cons w r =>
        cases w with
        | int x =>
          simp only [zx_i2, Option.some.injEq] at hst
          subst hst
          exact lv_ior hx hb hdg (zx_G_same G Y)
        | _ => simp [zx_i2] at hst
    | _ => simp [zx_i2] at hst
theorem zs_ixor (X : zx_X p R s m args meth c row D κ A d) (Y : zx_Y s row D κ A ρ h H locs L ls) (hdg : decode row.2.1 pc = .ok (.ixor, 1)) (hst : zx_i2 (fun x y => x ^^^ y) pc L st h = some q) (G : zx_G p l e R s m args below meth c Q row D κ A cells slots h.1.length ρ q) : W p l e R s m args below meth c H locs cells slots Q (F0 m pc ls (st.map (zx_v ρ))) := by
  obtain ⟨hx, hb, hml, hown, hnm, hts, hK, hA, hRf, hRl, hM⟩ := X
  cases st with
  | nil => simp [zx_i2] at hst
  | cons v r =>
    cases v with
    | int y =>
      cases r with
      | nil => simp [zx_i2] at hst
      | cons w r =>
        cases w with
        | int x =>
          simp only [zx_i2, Option.some.injEq] at hst
          subst hst
          exact lv_ixor hx hb hdg (zx_G_same G Y)
        | _ => simp [zx_i2] at hst
    | _ => simp [zx_i2] at hst
theorem zs_ishl (X : zx_X p R s m args meth c row D κ A d) (Y : zx_Y s row D κ A ρ h H locs L ls) (hdg : decode row.2.1 pc = .ok (.ishl, 1)) (hst : zx_i2 zx_shl pc L st h = some q) (G : zx_G p l e R s m args below meth c Q row D κ A cells slots h.1.length ρ q) : W p l e R s m args below meth c H locs cells slots Q (F0 m pc ls (st.map (zx_v ρ))) := by
  obtain ⟨hx, hb, hml, hown, hnm, hts, hK, hA, hRf, hRl, hM⟩ := X
  cases st with
  | nil => simp [zx_i2] at hst
  | cons v r =>
    cases v with
    | int y =>
      cases r with
      | nil => simp [zx_i2] at hst
      | cons w r =>
        cases w with
        | int x =>
          simp only [zx_i2, Option.some.injEq] at hst
          subst hst
          exact lv_ishl hx hb hdg (zx_G_same G Y)
        | _ => simp [zx_i2] at hst
    | _ => simp [zx_i2] at hst
theorem zs_ishr (X : zx_X p R s m args meth c row D κ A d) (Y : zx_Y s row D κ A ρ h H locs L ls) (hdg : decode row.2.1 pc = .ok (.ishr, 1)) (hst : zx_i2 zx_shr pc L st h = some q) (G : zx_G p l e R s m args below meth c Q row D κ A cells slots h.1.length ρ q) : W p l e R s m args below meth c H locs cells slots Q (F0 m pc ls (st.map (zx_v ρ))) := by
  obtain ⟨hx, hb, hml, hown, hnm, hts, hK, hA, hRf, hRl, hM⟩ := X
  cases st with
  | nil => simp [zx_i2] at hst
  | cons v r =>
    cases v with
    | int y =>
      cases r with
      | nil => simp [zx_i2] at hst
      | cons w r =>
        cases w with
        | int x =>
          simp only [zx_i2, Option.some.injEq] at hst
          subst hst
          exact lv_ishr hx hb hdg (zx_G_same G Y)
        | _ => simp [zx_i2] at hst
    | _ => simp [zx_i2] at hst
theorem zs_iushr (X : zx_X p R s m args meth c row D κ A d) (Y : zx_Y s row D κ A ρ h H locs L ls) (hdg : decode row.2.1 pc = .ok (.iushr, 1)) (hst : zx_i2 zx_ushr pc L st h = some q) (G : zx_G p l e R s m args below meth c Q row D κ A cells slots h.1.length ρ q) : W p l e R s m args below meth c H locs cells slots Q (F0 m pc ls (st.map (zx_v ρ))) := by
  obtain ⟨hx, hb, hml, hown, hnm, hts, hK, hA, hRf, hRl, hM⟩ := X
  cases st with
  | nil => simp [zx_i2] at hst
  | cons v r =>
    cases v with
    | int y =>
      cases r with
      | nil => simp [zx_i2] at hst
      | cons w r =>
        cases w with
        | int x =>
          simp only [zx_i2, Option.some.injEq] at hst
          subst hst
          exact lv_iushr hx hb hdg rfl (zx_G_same G Y)
        | _ => simp [zx_i2] at hst
    | _ => simp [zx_i2] at hst
theorem zs_ladd (X : zx_X p R s m args meth c row D κ A d) (Y : zx_Y s row D κ A ρ h H locs L ls) (hdg : decode row.2.1 pc = .ok (.ladd, 1)) (hst : zx_l2 (fun x y => x + y) pc L st h = some q) (G : zx_G p l e R s m args below meth c Q row D κ A cells slots h.1.length ρ q) : W p l e R s m args below meth c H locs cells slots Q (F0 m pc ls (st.map (zx_v ρ))) := by
  obtain ⟨hx, hb, hml, hown, hnm, hts, hK, hA, hRf, hRl, hM⟩ := X
  cases st with
  | nil => simp [zx_l2] at hst
  | cons v r =>
    cases v with
    | long y =>
      cases r with
      | nil => simp [zx_l2] at hst
      | cons w r =>
        cases w with
        | long x =>
          simp only [zx_l2, Option.some.injEq] at hst
          subst hst
          exact lv_ladd hx hb hdg (zx_G_same G Y)
        | _ => simp [zx_l2] at hst
    | _ => simp [zx_l2] at hst
theorem zs_lmul (X : zx_X p R s m args meth c row D κ A d) (Y : zx_Y s row D κ A ρ h H locs L ls) (hdg : decode row.2.1 pc = .ok (.lmul, 1)) (hst : zx_l2 (fun x y => x * y) pc L st h = some q) (G : zx_G p l e R s m args below meth c Q row D κ A cells slots h.1.length ρ q) : W p l e R s m args below meth c H locs cells slots Q (F0 m pc ls (st.map (zx_v ρ))) := by
  obtain ⟨hx, hb, hml, hown, hnm, hts, hK, hA, hRf, hRl, hM⟩ := X
  cases st with
  | nil => simp [zx_l2] at hst
  | cons v r =>
    cases v with
    | long y =>
      cases r with
      | nil => simp [zx_l2] at hst
      | cons w r =>
        cases w with
        | long x =>
          simp only [zx_l2, Option.some.injEq] at hst
          subst hst
          exact lv_lmul hx hb hdg (zx_G_same G Y)
        | _ => simp [zx_l2] at hst
    | _ => simp [zx_l2] at hst
theorem zs_idiv (X : zx_X p R s m args meth c row D κ A d) (Y : zx_Y s row D κ A ρ h H locs L ls) (hdg : decode row.2.1 pc = .ok (.idiv, 1)) (hst : zx_di (fun x y => x / y) pc L st h = some q) (G : zx_G p l e R s m args below meth c Q row D κ A cells slots h.1.length ρ q) : W p l e R s m args below meth c H locs cells slots Q (F0 m pc ls (st.map (zx_v ρ))) := by
  obtain ⟨hx, hb, hml, hown, hnm, hts, hK, hA, hRf, hRl, hM⟩ := X
  cases st with
  | nil => simp [zx_di] at hst
  | cons v r =>
    cases v with
    | int y =>
      cases r with
      | nil => simp [zx_di] at hst
      | cons w r =>
        cases w with
        | int x =>
          simp only [zx_di] at hst
          by_cases hy : y = 0
          · rw [if_pos hy] at hst; simp at hst
          · rw [if_neg hy] at hst
            simp only [Option.some.injEq] at hst
            subst hst
            exact lv_idiv hx hb hdg hy (zx_G_same G Y)
        | _ => simp [zx_di] at hst
    | _ => simp [zx_di] at hst
theorem zs_irem (X : zx_X p R s m args meth c row D κ A d) (Y : zx_Y s row D κ A ρ h H locs L ls) (hdg : decode row.2.1 pc = .ok (.irem, 1)) (hst : zx_di zx_rem pc L st h = some q) (G : zx_G p l e R s m args below meth c Q row D κ A cells slots h.1.length ρ q) : W p l e R s m args below meth c H locs cells slots Q (F0 m pc ls (st.map (zx_v ρ))) := by
  obtain ⟨hx, hb, hml, hown, hnm, hts, hK, hA, hRf, hRl, hM⟩ := X
  cases st with
  | nil => simp [zx_di] at hst
  | cons v r =>
    cases v with
    | int y =>
      cases r with
      | nil => simp [zx_di] at hst
      | cons w r =>
        cases w with
        | int x =>
          simp only [zx_di] at hst
          by_cases hy : y = 0
          · rw [if_pos hy] at hst; simp at hst
          · rw [if_neg hy] at hst
            simp only [Option.some.injEq] at hst
            subst hst
            exact lv_irem hx hb hdg hy (zx_G_same G Y)
        | _ => simp [zx_di] at hst
    | _ => simp [zx_di] at hst
theorem zs_ldiv (X : zx_X p R s m args meth c row D κ A d) (Y : zx_Y s row D κ A ρ h H locs L ls) (hdg : decode row.2.1 pc = .ok (.ldiv, 1)) (hst : zx_dl (fun x y => x / y) pc L st h = some q) (G : zx_G p l e R s m args below meth c Q row D κ A cells slots h.1.length ρ q) : W p l e R s m args below meth c H locs cells slots Q (F0 m pc ls (st.map (zx_v ρ))) := by
  obtain ⟨hx, hb, hml, hown, hnm, hts, hK, hA, hRf, hRl, hM⟩ := X
  cases st with
  | nil => simp [zx_dl] at hst
  | cons v r =>
    cases v with
    | long y =>
      cases r with
      | nil => simp [zx_dl] at hst
      | cons w r =>
        cases w with
        | long x =>
          simp only [zx_dl] at hst
          by_cases hy : y = 0
          · rw [if_pos hy] at hst; simp at hst
          · rw [if_neg hy] at hst
            simp only [Option.some.injEq] at hst
            subst hst
            exact lv_ldiv hx hb hdg hy (zx_G_same G Y)
        | _ => simp [zx_dl] at hst
    | _ => simp [zx_dl] at hst
theorem zs_lrem (X : zx_X p R s m args meth c row D κ A d) (Y : zx_Y s row D κ A ρ h H locs L ls) (hdg : decode row.2.1 pc = .ok (.lrem, 1)) (hst : zx_dl zx_reml pc L st h = some q) (G : zx_G p l e R s m args below meth c Q row D κ A cells slots h.1.length ρ q) : W p l e R s m args below meth c H locs cells slots Q (F0 m pc ls (st.map (zx_v ρ))) := by
  obtain ⟨hx, hb, hml, hown, hnm, hts, hK, hA, hRf, hRl, hM⟩ := X
  cases st with
  | nil => simp [zx_dl] at hst
  | cons v r =>
    cases v with
    | long y =>
      cases r with
      | nil => simp [zx_dl] at hst
      | cons w r =>
        cases w with
        | long x =>
          simp only [zx_dl] at hst
          by_cases hy : y = 0
          · rw [if_pos hy] at hst; simp at hst
          · rw [if_neg hy] at hst
            simp only [Option.some.injEq] at hst
            subst hst
            exact lv_lrem hx hb hdg hy (zx_G_same G Y)
        | _ => simp [zx_dl] at hst
    | _ => simp [zx_dl] at hst
theorem zs_ineg (X : zx_X p R s m args meth c row D κ A d) (Y : zx_Y s row D κ A ρ h H locs L ls) (hdg : decode row.2.1 pc = .ok (.ineg, 1)) (hst : zx_i1 (fun x => -x) pc L st h = some q) (G : zx_G p l e R s m args below meth c Q row D κ A cells slots h.1.length ρ q) : W p l e R s m args below meth c H locs cells slots Q (F0 m pc ls (st.map (zx_v ρ))) := by
  obtain ⟨hx, hb, hml, hown, hnm, hts, hK, hA, hRf, hRl, hM⟩ := X
  cases st with
  | nil => simp [zx_i1] at hst
  | cons v r =>
    cases v with
    | int x =>
      simp only [zx_i1, Option.some.injEq] at hst
      subst hst
      exact lv_ineg hx hb hdg (zx_G_same G Y)
    | _ => simp [zx_i1] at hst
theorem zs_i2c (X : zx_X p R s m args meth c row D κ A d) (Y : zx_Y s row D κ A ρ h H locs L ls) (hdg : decode row.2.1 pc = .ok (.i2c, 1)) (hst : zx_i1 zx_i2c pc L st h = some q) (G : zx_G p l e R s m args below meth c Q row D κ A cells slots h.1.length ρ q) : W p l e R s m args below meth c H locs cells slots Q (F0 m pc ls (st.map (zx_v ρ))) := by
  obtain ⟨hx, hb, hml, hown, hnm, hts, hK, hA, hRf, hRl, hM⟩ := X
  cases st with
  | nil => simp [zx_i1] at hst
  | cons v r =>
    cases v with
    | int x =>
      simp only [zx_i1, Option.some.injEq] at hst
      subst hst
      exact lv_i2c hx hb hdg rfl (zx_G_same G Y)
    | _ => simp [zx_i1] at hst
theorem zs_i2b (X : zx_X p R s m args meth c row D κ A d) (Y : zx_Y s row D κ A ρ h H locs L ls) (hdg : decode row.2.1 pc = .ok (.i2b, 1)) (hst : zx_i1 zx_i2b pc L st h = some q) (G : zx_G p l e R s m args below meth c Q row D κ A cells slots h.1.length ρ q) : W p l e R s m args below meth c H locs cells slots Q (F0 m pc ls (st.map (zx_v ρ))) := by
  obtain ⟨hx, hb, hml, hown, hnm, hts, hK, hA, hRf, hRl, hM⟩ := X
  cases st with
  | nil => simp [zx_i1] at hst
  | cons v r =>
    cases v with
    | int x =>
      simp only [zx_i1, Option.some.injEq] at hst
      subst hst
      exact lv_i2b hx hb hdg rfl (zx_G_same G Y)
    | _ => simp [zx_i1] at hst
theorem zs_i2s (X : zx_X p R s m args meth c row D κ A d) (Y : zx_Y s row D κ A ρ h H locs L ls) (hdg : decode row.2.1 pc = .ok (.i2s, 1)) (hst : zx_i1 zx_i2s pc L st h = some q) (G : zx_G p l e R s m args below meth c Q row D κ A cells slots h.1.length ρ q) : W p l e R s m args below meth c H locs cells slots Q (F0 m pc ls (st.map (zx_v ρ))) := by
  obtain ⟨hx, hb, hml, hown, hnm, hts, hK, hA, hRf, hRl, hM⟩ := X
  cases st with
  | nil => simp [zx_i1] at hst
  | cons v r =>
    cases v with
    | int x =>
      simp only [zx_i1, Option.some.injEq] at hst
      subst hst
      exact lv_i2s hx hb hdg rfl (zx_G_same G Y)
    | _ => simp [zx_i1] at hst
theorem zx_br_inv {P : Prop} [Decidable P] {off : Int} (hst : zx_br P pc off L st h = some q) : ∃ t : Nat, (pc : Int) + off = (t : Int) ∧ q = (if P then t else pc + 3, L, st, h) := by
  unfold zx_br at hst
  cases ht : zx_tg pc off with
  | none => rw [ht] at hst; simp at hst
  | some t =>
    rw [ht] at hst
    simp only [Option.some.injEq] at hst
    exact ⟨t, zx_tg_eq ht, hst.symm⟩
theorem zs_if_eq {x : Int32} {r : List Value} {off : Int} (X : zx_X p R s m args meth c row D κ A d) (Y : zx_Y s row D κ A ρ h H locs L ls) (hdg : decode row.2.1 pc = .ok (.ifCond .eq off, 3)) (hst : zx_br (x = 0) pc off L r h = some q) (G : zx_G p l e R s m args below meth c Q row D κ A cells slots h.1.length ρ q) : W p l e R s m args below meth c H locs cells slots Q (F0 m pc ls ((.int x :: r : List Value).map (zx_v ρ))) := by
  obtain ⟨hx, hb, hml, hown, hnm, hts, hK, hA, hRf, hRl, hM⟩ := X
  obtain ⟨t, ht, rfl⟩ := zx_br_inv hst
  refine lv_if_eq hx hb hdg ht (fun hc => ?_) (fun hc => ?_)
  · have G1 := zx_G_same G Y
    rw [if_pos hc] at G1
    exact G1
  · have G1 := zx_G_same G Y
    rw [if_neg hc] at G1
    exact G1
theorem zs_icmp_eq {x y : Int32} {r : List Value} {off : Int} (X : zx_X p R s m args meth c row D κ A d) (Y : zx_Y s row D κ A ρ h H locs L ls) (hdg : decode row.2.1 pc = .ok (.if_icmp .eq off, 3)) (hst : zx_br (x = y) pc off L r h = some q) (G : zx_G p l e R s m args below meth c Q row D κ A cells slots h.1.length ρ q) : W p l e R s m args below meth c H locs cells slots Q (F0 m pc ls ((.int y :: .int x :: r : List Value).map (zx_v ρ))) := by
  obtain ⟨hx, hb, hml, hown, hnm, hts, hK, hA, hRf, hRl, hM⟩ := X
  obtain ⟨t, ht, rfl⟩ := zx_br_inv hst
  refine lv_icmp_eq hx hb hdg ht (fun hc => ?_) (fun hc => ?_)
  · have G1 := zx_G_same G Y
    rw [if_pos hc] at G1
    exact G1
  · have G1 := zx_G_same G Y
    rw [if_neg hc] at G1
    exact G1
theorem zs_if_ne {x : Int32} {r : List Value} {off : Int} (X : zx_X p R s m args meth c row D κ A d) (Y : zx_Y s row D κ A ρ h H locs L ls) (hdg : decode row.2.1 pc = .ok (.ifCond .ne off, 3)) (hst : zx_br (¬ x = 0) pc off L r h = some q) (G : zx_G p l e R s m args below meth c Q row D κ A cells slots h.1.length ρ q) : W p l e R s m args below meth c H locs cells slots Q (F0 m pc ls ((.int x :: r : List Value).map (zx_v ρ))) := by
  obtain ⟨hx, hb, hml, hown, hnm, hts, hK, hA, hRf, hRl, hM⟩ := X
  obtain ⟨t, ht, rfl⟩ := zx_br_inv hst
  refine lv_if_ne hx hb hdg ht (fun hc => ?_) (fun hc => ?_)
  · have G1 := zx_G_same G Y
    rw [if_pos hc] at G1
    exact G1
  · have G1 := zx_G_same G Y
    rw [if_neg (fun z => z hc)] at G1
    exact G1
theorem zs_icmp_ne {x y : Int32} {r : List Value} {off : Int} (X : zx_X p R s m args meth c row D κ A d) (Y : zx_Y s row D κ A ρ h H locs L ls) (hdg : decode row.2.1 pc = .ok (.if_icmp .ne off, 3)) (hst : zx_br (¬ x = y) pc off L r h = some q) (G : zx_G p l e R s m args below meth c Q row D κ A cells slots h.1.length ρ q) : W p l e R s m args below meth c H locs cells slots Q (F0 m pc ls ((.int y :: .int x :: r : List Value).map (zx_v ρ))) := by
  obtain ⟨hx, hb, hml, hown, hnm, hts, hK, hA, hRf, hRl, hM⟩ := X
  obtain ⟨t, ht, rfl⟩ := zx_br_inv hst
  refine lv_icmp_ne hx hb hdg ht (fun hc => ?_) (fun hc => ?_)
  · have G1 := zx_G_same G Y
    rw [if_pos hc] at G1
    exact G1
  · have G1 := zx_G_same G Y
    rw [if_neg (fun z => z hc)] at G1
    exact G1
theorem zs_if_lt {x : Int32} {r : List Value} {off : Int} (X : zx_X p R s m args meth c row D κ A d) (Y : zx_Y s row D κ A ρ h H locs L ls) (hdg : decode row.2.1 pc = .ok (.ifCond .lt off, 3)) (hst : zx_br (x < 0) pc off L r h = some q) (G : zx_G p l e R s m args below meth c Q row D κ A cells slots h.1.length ρ q) : W p l e R s m args below meth c H locs cells slots Q (F0 m pc ls ((.int x :: r : List Value).map (zx_v ρ))) := by
  obtain ⟨hx, hb, hml, hown, hnm, hts, hK, hA, hRf, hRl, hM⟩ := X
  obtain ⟨t, ht, rfl⟩ := zx_br_inv hst
  refine lv_if_lt hx hb hdg ht (fun hc => ?_) (fun hc => ?_)
  · have G1 := zx_G_same G Y
    rw [if_pos hc] at G1
    exact G1
  · have G1 := zx_G_same G Y
    rw [if_neg hc] at G1
    exact G1
theorem zs_icmp_lt {x y : Int32} {r : List Value} {off : Int} (X : zx_X p R s m args meth c row D κ A d) (Y : zx_Y s row D κ A ρ h H locs L ls) (hdg : decode row.2.1 pc = .ok (.if_icmp .lt off, 3)) (hst : zx_br (x < y) pc off L r h = some q) (G : zx_G p l e R s m args below meth c Q row D κ A cells slots h.1.length ρ q) : W p l e R s m args below meth c H locs cells slots Q (F0 m pc ls ((.int y :: .int x :: r : List Value).map (zx_v ρ))) := by
  obtain ⟨hx, hb, hml, hown, hnm, hts, hK, hA, hRf, hRl, hM⟩ := X
  obtain ⟨t, ht, rfl⟩ := zx_br_inv hst
  refine lv_icmp_lt hx hb hdg ht (fun hc => ?_) (fun hc => ?_)
  · have G1 := zx_G_same G Y
    rw [if_pos hc] at G1
    exact G1
  · have G1 := zx_G_same G Y
    rw [if_neg hc] at G1
    exact G1
theorem zs_if_ge {x : Int32} {r : List Value} {off : Int} (X : zx_X p R s m args meth c row D κ A d) (Y : zx_Y s row D κ A ρ h H locs L ls) (hdg : decode row.2.1 pc = .ok (.ifCond .ge off, 3)) (hst : zx_br (0 ≤ x) pc off L r h = some q) (G : zx_G p l e R s m args below meth c Q row D κ A cells slots h.1.length ρ q) : W p l e R s m args below meth c H locs cells slots Q (F0 m pc ls ((.int x :: r : List Value).map (zx_v ρ))) := by
  obtain ⟨hx, hb, hml, hown, hnm, hts, hK, hA, hRf, hRl, hM⟩ := X
  obtain ⟨t, ht, rfl⟩ := zx_br_inv hst
  refine lv_if_ge hx hb hdg ht (fun hc => ?_) (fun hc => ?_)
  · have G1 := zx_G_same G Y
    rw [if_pos hc] at G1
    exact G1
  · have G1 := zx_G_same G Y
    rw [if_neg hc] at G1
    exact G1
theorem zs_icmp_ge {x y : Int32} {r : List Value} {off : Int} (X : zx_X p R s m args meth c row D κ A d) (Y : zx_Y s row D κ A ρ h H locs L ls) (hdg : decode row.2.1 pc = .ok (.if_icmp .ge off, 3)) (hst : zx_br (y ≤ x) pc off L r h = some q) (G : zx_G p l e R s m args below meth c Q row D κ A cells slots h.1.length ρ q) : W p l e R s m args below meth c H locs cells slots Q (F0 m pc ls ((.int y :: .int x :: r : List Value).map (zx_v ρ))) := by
  obtain ⟨hx, hb, hml, hown, hnm, hts, hK, hA, hRf, hRl, hM⟩ := X
  obtain ⟨t, ht, rfl⟩ := zx_br_inv hst
  refine lv_icmp_ge hx hb hdg ht (fun hc => ?_) (fun hc => ?_)
  · have G1 := zx_G_same G Y
    rw [if_pos hc] at G1
    exact G1
  · have G1 := zx_G_same G Y
    rw [if_neg hc] at G1
    exact G1
theorem zs_if_gt {x : Int32} {r : List Value} {off : Int} (X : zx_X p R s m args meth c row D κ A d) (Y : zx_Y s row D κ A ρ h H locs L ls) (hdg : decode row.2.1 pc = .ok (.ifCond .gt off, 3)) (hst : zx_br (0 < x) pc off L r h = some q) (G : zx_G p l e R s m args below meth c Q row D κ A cells slots h.1.length ρ q) : W p l e R s m args below meth c H locs cells slots Q (F0 m pc ls ((.int x :: r : List Value).map (zx_v ρ))) := by
  obtain ⟨hx, hb, hml, hown, hnm, hts, hK, hA, hRf, hRl, hM⟩ := X
  obtain ⟨t, ht, rfl⟩ := zx_br_inv hst
  refine lv_if_gt hx hb hdg ht (fun hc => ?_) (fun hc => ?_)
  · have G1 := zx_G_same G Y
    rw [if_pos hc] at G1
    exact G1
  · have G1 := zx_G_same G Y
    rw [if_neg hc] at G1
    exact G1
theorem zs_icmp_gt {x y : Int32} {r : List Value} {off : Int} (X : zx_X p R s m args meth c row D κ A d) (Y : zx_Y s row D κ A ρ h H locs L ls) (hdg : decode row.2.1 pc = .ok (.if_icmp .gt off, 3)) (hst : zx_br (y < x) pc off L r h = some q) (G : zx_G p l e R s m args below meth c Q row D κ A cells slots h.1.length ρ q) : W p l e R s m args below meth c H locs cells slots Q (F0 m pc ls ((.int y :: .int x :: r : List Value).map (zx_v ρ))) := by
  obtain ⟨hx, hb, hml, hown, hnm, hts, hK, hA, hRf, hRl, hM⟩ := X
  obtain ⟨t, ht, rfl⟩ := zx_br_inv hst
  refine lv_icmp_gt hx hb hdg ht (fun hc => ?_) (fun hc => ?_)
  · have G1 := zx_G_same G Y
    rw [if_pos hc] at G1
    exact G1
  · have G1 := zx_G_same G Y
    rw [if_neg hc] at G1
    exact G1
theorem zs_if_le {x : Int32} {r : List Value} {off : Int} (X : zx_X p R s m args meth c row D κ A d) (Y : zx_Y s row D κ A ρ h H locs L ls) (hdg : decode row.2.1 pc = .ok (.ifCond .le off, 3)) (hst : zx_br (x ≤ 0) pc off L r h = some q) (G : zx_G p l e R s m args below meth c Q row D κ A cells slots h.1.length ρ q) : W p l e R s m args below meth c H locs cells slots Q (F0 m pc ls ((.int x :: r : List Value).map (zx_v ρ))) := by
  obtain ⟨hx, hb, hml, hown, hnm, hts, hK, hA, hRf, hRl, hM⟩ := X
  obtain ⟨t, ht, rfl⟩ := zx_br_inv hst
  refine lv_if_le hx hb hdg ht (fun hc => ?_) (fun hc => ?_)
  · have G1 := zx_G_same G Y
    rw [if_pos hc] at G1
    exact G1
  · have G1 := zx_G_same G Y
    rw [if_neg hc] at G1
    exact G1
theorem zs_icmp_le {x y : Int32} {r : List Value} {off : Int} (X : zx_X p R s m args meth c row D κ A d) (Y : zx_Y s row D κ A ρ h H locs L ls) (hdg : decode row.2.1 pc = .ok (.if_icmp .le off, 3)) (hst : zx_br (x ≤ y) pc off L r h = some q) (G : zx_G p l e R s m args below meth c Q row D κ A cells slots h.1.length ρ q) : W p l e R s m args below meth c H locs cells slots Q (F0 m pc ls ((.int y :: .int x :: r : List Value).map (zx_v ρ))) := by
  obtain ⟨hx, hb, hml, hown, hnm, hts, hK, hA, hRf, hRl, hM⟩ := X
  obtain ⟨t, ht, rfl⟩ := zx_br_inv hst
  refine lv_icmp_le hx hb hdg ht (fun hc => ?_) (fun hc => ?_)
  · have G1 := zx_G_same G Y
    rw [if_pos hc] at G1
    exact G1
  · have G1 := zx_G_same G Y
    rw [if_neg hc] at G1
    exact G1
theorem zs_if {cd : ClassFile.Cond} {x : Int32} {r : List Value} {off : Int} (X : zx_X p R s m args meth c row D κ A d) (Y : zx_Y s row D κ A ρ h H locs L ls) (hdg : decode row.2.1 pc = .ok (.ifCond cd off, 3)) (hst : zx_if cd x pc off L r h = some q) (G : zx_G p l e R s m args below meth c Q row D κ A cells slots h.1.length ρ q) : W p l e R s m args below meth c H locs cells slots Q (F0 m pc ls ((.int x :: r : List Value).map (zx_v ρ))) := by
  cases cd
  · exact zs_if_eq X Y hdg hst G
  · exact zs_if_ne X Y hdg hst G
  · exact zs_if_lt X Y hdg hst G
  · exact zs_if_ge X Y hdg hst G
  · exact zs_if_gt X Y hdg hst G
  · exact zs_if_le X Y hdg hst G
theorem zs_ic {cd : ClassFile.Cond} {x y : Int32} {r : List Value} {off : Int} (X : zx_X p R s m args meth c row D κ A d) (Y : zx_Y s row D κ A ρ h H locs L ls) (hdg : decode row.2.1 pc = .ok (.if_icmp cd off, 3)) (hst : zx_ic cd x y pc off L r h = some q) (G : zx_G p l e R s m args below meth c Q row D κ A cells slots h.1.length ρ q) : W p l e R s m args below meth c H locs cells slots Q (F0 m pc ls ((.int y :: .int x :: r : List Value).map (zx_v ρ))) := by
  cases cd
  · exact zs_icmp_eq X Y hdg hst G
  · exact zs_icmp_ne X Y hdg hst G
  · exact zs_icmp_lt X Y hdg hst G
  · exact zs_icmp_ge X Y hdg hst G
  · exact zs_icmp_gt X Y hdg hst G
  · exact zs_icmp_le X Y hdg hst G
theorem zx_pick_spec {ps : List (Int × Int)} {d : Int} {x : Int32} (hk : zx_keys ps = true) : (∃ k o, (k, o) ∈ ps ∧ x.toInt = k ∧ zx_pick ps d x = o) ∨ ((∀ k o, (k, o) ∈ ps → x.toInt ≠ k) ∧ zx_pick ps d x = d) := by
  induction ps with
  | nil => exact Or.inr ⟨fun k o h => absurd h List.not_mem_nil, rfl⟩
  | cons a t ih =>
    obtain ⟨k, o⟩ := a
    unfold zx_keys at hk
    rw [Bool.and_eq_true, decide_eq_true_eq] at hk
    by_cases hx : x = Int32.ofInt k
    · refine Or.inl ⟨k, o, List.mem_cons_self, by rw [hx]; exact hk.1, ?_⟩
      unfold zx_pick
      rw [if_pos hx]
    · have hp : zx_pick ((k, o) :: t) d x = zx_pick t d x := by
        rw [zx_pick, if_neg hx]
      rw [hp]
      rcases ih hk.2 with ⟨k1, o1, h1, h2, h3⟩ | ⟨h1, h2⟩
      · exact Or.inl ⟨k1, o1, List.mem_cons_of_mem _ h1, h2, h3⟩
      · refine Or.inr ⟨fun k1 o1 h3 => ?_, h2⟩
        rcases List.mem_cons.mp h3 with h4 | h4
        · cases h4
          intro e
          apply hx
          rw [← e, Int32.ofInt_toInt]
        · exact h1 k1 o1 h4
theorem zx_rng_mem {n : Nat} : ∀ {lo : Int} {os : List Int} {k o : Int}, (k, o) ∈ zx_rng n lo os → ∃ j : Nat, k = lo + j ∧ os[j]? = some o := by
  induction n with
  | zero => intro lo os k o h; simp [zx_rng] at h
  | succ n ih =>
    intro lo os k o h
    cases os with
    | nil => simp [zx_rng] at h
    | cons a t =>
      unfold zx_rng at h
      rcases List.mem_cons.mp h with h1 | h1
      · cases h1
        exact ⟨0, by simp, rfl⟩
      · obtain ⟨j, e1, e2⟩ := ih h1
        exact ⟨j + 1, by rw [e1]; push_cast; omega, by simpa using e2⟩
theorem zx_rng_all {n : Nat} : ∀ {lo : Int} {os : List Int} {j : Nat} {o : Int}, j < n → os[j]? = some o → (lo + j, o) ∈ zx_rng n lo os := by
  induction n with
  | zero => intro lo os j o h; omega
  | succ n ih =>
    intro lo os j o h ho
    cases os with
    | nil => simp at ho
    | cons a t =>
      unfold zx_rng
      cases j with
      | zero =>
        simp at ho
        subst ho
        simp
      | succ j =>
        have h1 := ih (lo := lo + 1) (os := t) (j := j) (o := o) (by omega) (by simpa using ho)
        have e : lo + 1 + (j : Int) = lo + ((j + 1 : Nat) : Int) := by push_cast; omega
        rw [e] at h1
        exact List.mem_cons_of_mem _ h1
theorem zs_tab {dflt lo hi : Int} {offs : Array Int} {n : Nat} (X : zx_X p R s m args meth c row D κ A d) (Y : zx_Y s row D κ A ρ h H locs L ls) (hdg : decode row.2.1 pc = .ok (.tableswitch dflt lo hi offs, n)) (hsz : (offs.size : Int) = hi - lo + 1) (hst : zx_sw (zx_rng offs.size lo offs.toList) dflt pc L st h = some q) (G : zx_G p l e R s m args below meth c Q row D κ A cells slots h.1.length ρ q) : W p l e R s m args below meth c H locs cells slots Q (F0 m pc ls (st.map (zx_v ρ))) := by
  obtain ⟨hx, hb, hml, hown, hnm, hts, hK, hA, hRf, hRl, hM⟩ := X
  cases st with
  | nil => simp [zx_sw] at hst
  | cons v r =>
    cases v with
    | int x =>
      simp only [zx_sw] at hst
      cases hk : zx_keys (zx_rng offs.size lo offs.toList) with
      | false => rw [hk] at hst; simp at hst
      | true =>
        rw [hk] at hst
        simp only [cond_true] at hst
        cases ht : zx_tg pc (zx_pick (zx_rng offs.size lo offs.toList) dflt x) with
        | none => rw [ht] at hst; simp at hst
        | some t =>
          rw [ht] at hst
          simp only [Option.some.injEq] at hst
          subst hst
          have ht := zx_tg_eq ht
          rcases zx_pick_spec (d := dflt) (x := x) hk with ⟨k, o, h1, h2, h3⟩ | ⟨h1, h2⟩
          · obtain ⟨j, e1, e2⟩ := zx_rng_mem h1
            rw [h3] at ht
            have hj : j < offs.size := by
              have := (List.getElem?_eq_some_iff.mp e2).1
              simpa using this
            refine lv_tableIn hx hb hdg (by rw [h2, e1]; omega) (by rw [h2, e1]; omega) (off := o) ?_ ht (zx_G_same G Y)
            rw [h2, e1]
            rw [show (lo + (j : Int) - lo).toNat = j by omega]
            simpa using e2
          · rw [h2] at ht
            refine lv_tableOut hx hb hdg ?_ ht (zx_G_same G Y)
            by_cases g1 : x.toInt < lo
            · exact Or.inl g1
            · refine Or.inr (Int.not_le.mp fun g2 => ?_)
              have hj : (x.toInt - lo).toNat < offs.size := by omega
              have hm := zx_rng_all (n := offs.size) (lo := lo) (os := offs.toList) (j := (x.toInt - lo).toNat) (o := offs[(x.toInt - lo).toNat]) hj (by simp [hj])
              refine h1 _ _ hm ?_
              omega
    | _ => simp [zx_sw] at hst
theorem zx_off {x : Int32} {d : Int} : ∀ {ps : List (Int × Int)}, zx_keys ps = true → Op.lookupswitch.offset ps d x.toInt = zx_pick ps d x := by
  intro ps
  induction ps with
  | nil => intro _; rfl
  | cons a t ih =>
    intro hk
    obtain ⟨k, o⟩ := a
    unfold zx_keys at hk
    rw [Bool.and_eq_true, decide_eq_true_eq] at hk
    have h2 := ih hk.2
    by_cases hx : x = Int32.ofInt k
    · have e : x.toInt = k := by rw [hx]; exact hk.1
      simp [Op.lookupswitch.offset, zx_pick, hx, e, hk.1]
    · have e : ¬ x.toInt = k := fun e => hx (by rw [← e, Int32.ofInt_toInt])
      have e2 : ¬ k = x.toInt := fun z => e z.symm
      simp [Op.lookupswitch.offset, zx_pick, hx, e, e2] at h2 ⊢
      exact h2
theorem zs_look {dflt : Int} {ps : Array (Int × Int)} {n : Nat} (X : zx_X p R s m args meth c row D κ A d) (Y : zx_Y s row D κ A ρ h H locs L ls) (hdg : decode row.2.1 pc = .ok (.lookupswitch dflt ps, n)) (hso : (ps.toList.zip (ps.toList.drop 1)).all (fun q => q.1.1 < q.2.1) = true) (hst : zx_sw ps.toList dflt pc L st h = some q) (G : zx_G p l e R s m args below meth c Q row D κ A cells slots h.1.length ρ q) : W p l e R s m args below meth c H locs cells slots Q (F0 m pc ls (st.map (zx_v ρ))) := by
  obtain ⟨hx, hb, hml, hown, hnm, hts, hK, hA, hRf, hRl, hM⟩ := X
  cases st with
  | nil => simp [zx_sw] at hst
  | cons v r =>
    cases v with
    | int x =>
      simp only [zx_sw] at hst
      cases hk : zx_keys ps.toList with
      | false => rw [hk] at hst; simp at hst
      | true =>
        rw [hk] at hst
        simp only [cond_true] at hst
        cases ht : zx_tg pc (zx_pick ps.toList dflt x) with
        | none => rw [ht] at hst; simp at hst
        | some t =>
          rw [ht] at hst
          simp only [Option.some.injEq] at hst
          subst hst
          exact lv_lookup hx hb hdg hso (zx_off hk) (zx_tg_eq ht) (zx_G_same G Y)
    | _ => simp [zx_sw] at hst
end ZX

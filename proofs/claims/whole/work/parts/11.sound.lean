/-! a run of the machine is a run of the Java machine -/
theorem zx_pf_mono {own ix pc : Nat} {ini : Bool} {L : zx_L} {st : List Value} {h : zx_H} {q : zx_K} (hst : zx_pf own ini ix pc L st h = some q) : q.2.2.2.1.length = h.1.length ∧ zx_sz q.2.2.2.1 = zx_sz h.1 := by
  unfold zx_pf at hst
  split at hst
  · simp only [zx_nth_get, cond_eq_ite] at hst
    repeat' (first | (simp at hst; done) | split at hst)
    all_goals (first | (simp at hst; done) | (simp only [Option.some.injEq] at hst; subst hst; exact ⟨rfl, rfl⟩))
  · cases hf : zx_find (zx_flt own) ix with
    | none => rw [hf] at hst; simp at hst
    | some e0 =>
      rw [hf] at hst
      simp only [zx_nth_get] at hst
      rename_i q0 r
      cases hs : h.1[q0]? with
      | none => rw [hs] at hst; simp at hst
      | some sh =>
        rw [hs] at hst
        obtain ⟨cj, rs⟩ | z := sh
        · simp only [cond_eq_ite, zx_put_set] at hst
          have hl : ∀ (k : Nat) (w : Option (Option Nat)), zx_sz (h.1.set q0 (.inl (cj, rs.set k w))) = zx_sz h.1 := fun k w => zx_sz_set hs (List.length_set)
          repeat' (first | (simp at hst; done) | split at hst)
          all_goals (first | (simp at hst; done) | (simp only [Option.some.injEq] at hst; subst hst; exact ⟨List.length_set, hl _ _⟩))
        · simp at hst
  · simp at hst
theorem zx_nS_keep {d kd pc : Nat} {L : zx_L} {st : List Value} {h : zx_H} {q : zx_K} (hst : zx_nS d kd pc L st h = some q) : q.2.2.2.1 = h.1 := by
  simp only [zx_nS, zx_cp, zx_cpz, zx_cpy, cond_eq_ite] at hst
  repeat' (first | (simp at hst; done) | split at hst)
  all_goals (first | (simp at hst; done) | (simp only [Option.some.injEq] at hst; subst hst; rfl))
theorem zx_nV_keep {d kd pc : Nat} {L : zx_L} {st : List Value} {h : zx_H} {q : zx_K} (hst : zx_nV d kd pc L st h = some q) : q.2.2.2.1 = h.1 := by
  simp only [zx_nV, cond_eq_ite] at hst
  repeat' (first | (simp at hst; done) | split at hst)
  all_goals (first | (simp at hst; done) | (simp only [Option.some.injEq] at hst; subst hst; rfl))
theorem zx_nI_keep {d kd pc : Nat} {L : zx_L} {st : List Value} {h : zx_H} {q : zx_K} (hst : zx_nI d kd pc L st h = some q) : q.2.2.2.1 = h.1 := by
  simp only [zx_nI, cond_eq_ite] at hst
  repeat' (first | (simp at hst; done) | split at hst)
  all_goals (first | (simp at hst; done) | (simp only [Option.some.injEq] at hst; subst hst; rfl))
theorem zx_nat_keep {f : Nat → Nat → Nat → zx_L → List Value → zx_H → Option zx_K} (hf : ∀ (d kd pc : Nat) (L : zx_L) (st : List Value) (h : zx_H) (q : zx_K), f d kd pc L st h = some q → q.2.2.2.1 = h.1) {d own ix pc : Nat} {L : zx_L} {st : List Value} {h : zx_H} {q : zx_K} (hst : zx_nat f d own ix pc L st h = some q) : q.2.2.2.1 = h.1 := by
  unfold zx_nat at hst
  split at hst
  · split at hst
    · simp at hst
    · exact hf _ _ _ _ _ _ _ hst
  · simp at hst
theorem zx_step_mono {d o pc : Nat} {b : Bool} {i : Instr} {L : zx_L} {st : List Value} {h : zx_H} {q : zx_K} (hst : zx_step d o b pc i L st h = some q) : h.1.length ≤ q.2.2.2.1.length ∧ zx_sz h.1 ≤ zx_sz q.2.2.2.1 := by
  have hsm : q.2.2.2.1 = h.1 → h.1.length ≤ q.2.2.2.1.length ∧ zx_sz h.1 ≤ zx_sz q.2.2.2.1 := fun e => by rw [e]; exact ⟨Nat.le_refl _, Nat.le_refl _⟩
  by_cases hk : zx_kp i = true
  · exact hsm (by rw [zx_keep hst hk])
  · cases i with
    | putfield ix => have h1 := zx_pf_mono hst; exact ⟨Nat.le_of_eq h1.1.symm, Nat.le_of_eq h1.2.symm⟩
    | new ix =>
      simp only [zx_step, zx_new, cond_eq_ite] at hst
      repeat' (first | (simp at hst; done) | split at hst)
      simp only [Option.some.injEq] at hst
      subst hst
      simp only [List.length_append, zx_sz_app]
      exact ⟨by omega, by omega⟩
    | newarray ty =>
      simp only [zx_step, zx_nwa, cond_eq_ite] at hst
      repeat' (first | (simp at hst; done) | split at hst)
      all_goals (first | (simp at hst; done) | (simp only [Option.some.injEq] at hst; subst hst; simp only [List.length_append, zx_sz_app]; exact ⟨by omega, by omega⟩))
    | iastore => exact hsm (zs_ist_keep hst)
    | bastore => exact hsm (zs_zst_keep hst)
    | lastore => exact hsm (zs_lst_keep hst)
    | invokestatic ix => exact hsm (zx_nat_keep (f := zx_nS) (fun _ _ _ _ _ _ _ z => zx_nS_keep z) hst)
    | invokevirtual ix => exact hsm (zx_nat_keep (f := zx_nV) (fun _ _ _ _ _ _ _ z => zx_nV_keep z) hst)
    | invokespecial ix => exact hsm (zx_nat_keep (f := zx_nI) (fun _ _ _ _ _ _ _ z => zx_nI_keep z) hst)
    | _ => exact absurd rfl hk
theorem zx_ret_inv {rt : Option FieldType} {i : Instr} {st : List Value} {v : Option Value} (hr : zx_ret rt i st = some v) : st = v.toList ∧ (∀ ρ, v.toList.map (zx_v ρ) = v.toList) ∧ ((i = .return_ ∧ v = none ∧ rt = none) ∨ (∃ x, i = .ireturn ∧ v = some (.int x) ∧ ∃ t, rt = some t ∧ narrow t (.int x) = .int x) ∨ (∃ x, i = .lreturn ∧ v = some (.long x) ∧ rt = some .long)) := by
  cases i with
  | ireturn =>
    simp only [zx_ret] at hr
    repeat' (first | (simp at hr; done) | split at hr)
    · simp only [Option.some.injEq] at hr
      subst hr
      exact ⟨rfl, fun _ => rfl, Or.inr (Or.inl ⟨_, rfl, rfl, _, rfl, rfl⟩)⟩
    · rename_i h01
      simp only [Option.some.injEq] at hr
      subst hr
      refine ⟨rfl, fun _ => rfl, Or.inr (Or.inl ⟨_, rfl, rfl, _, rfl, ?_⟩)⟩
      rcases h01 with rfl | rfl <;> rfl
  | lreturn =>
    simp only [zx_ret] at hr
    repeat' (first | (simp at hr; done) | split at hr)
    simp only [Option.some.injEq] at hr
    subst hr
    exact ⟨rfl, fun _ => rfl, Or.inr (Or.inr ⟨_, rfl, rfl, rfl⟩)⟩
  | return_ =>
    simp only [zx_ret] at hr
    repeat' (first | (simp at hr; done) | split at hr)
    simp only [Option.some.injEq] at hr
    subst hr
    exact ⟨rfl, fun _ => rfl, Or.inl ⟨rfl, rfl, rfl⟩⟩
  | _ => simp [zx_ret] at hr
theorem zx_take_inv : ∀ {n : Nat} {acc st as r : List Value}, zx_take n acc st = some (as, r) → ∃ t, as = t.reverse ++ acc ∧ st = t ++ r ∧ t.length = n := by
  intro n
  induction n with
  | zero => intro acc st as r h; simp [zx_take] at h; exact ⟨[], by simp [h.1], by simp [h.2], rfl⟩
  | succ n ih =>
    intro acc st as r h
    cases st with
    | nil => simp [zx_take] at h
    | cons v t =>
      simp only [zx_take] at h
      obtain ⟨u, h1, h2, h3⟩ := ih h
      exact ⟨v :: u, by simp [h1], by simp [h2], by simp [h3]⟩
theorem zx_sl_args {ρ : Nat → Nat} : ∀ {as : List Value} {a i : Nat} {v : Value}, (zx_sl as)[i]? = some (some v) → (a + i, zx_v ρ v) ∈ lv_args a (as.map (zx_v ρ)) := by
  intro as
  induction as with
  | nil => intro a i v h; simp [zx_sl] at h
  | cons w t ih =>
    intro a i v h
    simp only [List.map_cons, lv_args]
    have one : w.category = 1 → zx_sl (w :: t) = some w :: zx_sl t := by intro hc; cases w <;> simp_all [zx_sl, Value.category]
    have two : w.category = 2 → zx_sl (w :: t) = some w :: none :: zx_sl t := by intro hc; cases w <;> simp_all [zx_sl, Value.category]
    rcases lv_cat w with hc | hc
    · rw [one hc] at h
      rw [if_neg (by rw [zx_v_cat, hc]; decide)]
      cases i with
      | zero => simp at h; subst h; exact List.mem_cons_self
      | succ i =>
        refine List.mem_cons_of_mem _ ?_
        have h2 := ih (a := a + 1) (i := i) (v := v) (by simpa using h)
        rw [show a + (i + 1) = a + 1 + i by omega]
        exact h2
    · rw [two hc] at h
      rw [if_pos (by rw [zx_v_cat, hc])]
      cases i with
      | zero => simp at h; subst h; exact List.mem_cons_self
      | succ i =>
        cases i with
        | zero => simp at h
        | succ i =>
          refine List.mem_cons_of_mem _ ?_
          have h2 := ih (a := a + 2) (i := i) (v := v) (by simpa using h)
          rw [show a + (i + 1 + 1) = a + 2 + i by omega]
          exact h2
theorem zx_pad_len (n : Nat) : (zx_pad n).length = n := by
  induction n with
  | zero => rfl
  | succ n ih => simp [zx_pad, ih]
theorem zx_pad_at {n i : Nat} {v : Value} (h : (zx_pad n)[i]? = some (some v)) : False := by
  induction n generalizing i with
  | zero => simp [zx_pad] at h
  | succ n ih => cases i with
    | zero => simp [zx_pad] at h
    | succ i => exact ih (i := i) (by simpa [zx_pad] using h)
theorem zx_sl_lg {ρ : Nat → Nat} (as : List Value) : (lg_sl (as.map (zx_v ρ))).length = (zx_sl as).length := by
  induction as with
  | nil => rfl
  | cons w t ih => cases w <;> simp_all [lg_sl, zx_sl, zx_v, Value.category]
theorem zx_en_len {ml : Nat} {as : List Value} (h : (zx_sl as).length ≤ ml) : (zx_en ml as).length = ml := by
  unfold zx_en
  rw [List.length_append, zx_pad_len]
  omega
theorem zx_en_lr {ρ : Nat → Nat} {ml : Nat} {as : List Value} {ls : Array Slot} (h : (zx_sl as).length ≤ ml) (hl : lv_has ls ml (lv_args 0 (as.map (zx_v ρ)))) : zx_lr ρ (zx_en ml as) ls := by
  refine zx_lr_of hl (zx_en_len h).symm (fun i v hi => ?_)
  unfold zx_en at hi
  by_cases hlt : i < (zx_sl as).length
  · rw [List.getElem?_append_left hlt] at hi
    have := zx_sl_args (ρ := ρ) (a := 0) hi
    simpa using this
  · rw [List.getElem?_append_right (by omega)] at hi
    exact (zx_pad_at hi).elim
def zx_rm (d K N : Nat) : Room := { frames := d, cells := K, slots := N, locals := 40 * d }
def zx_ws (r : zx_T) : List Cond := .code r.1 r.2.1 r.2.2.1 r.2.2.2.1 :: zx_B
def zx_Pc (D : va_G) (κ : Nat → ClassId) (ρ : Nat → Nat) (h : zx_H) (sz : Nat) (as : List Value) : Array Value → State → Prop := va_Pc (as.map (zx_v ρ)) (fun U => U.heap.size = sz ∧ va_P D vwCl (zx_w ρ κ h.2 0 h.1) U.heap ∧ va_K D vwCl (zx_tys κ) U ∧ va_D (fun _ => True) (zx_w ρ κ h.2 0 h.1) ∧ zx_St (va_A (zx_w ρ κ h.2 0 h.1) sz) ρ U U.heap)
def zx_Qc (D : va_G) (κ : Nat → ClassId) (ρ : Nat → Nat) (h : zx_H) (sz : Nat) (v : Option Value) (h' : zx_H) : Array Value → State → Outcome → State → Prop := fun _ st oc t => (∃ u : Nat → Nat, oc = .returned v ∧ zx_ag h.1.length ρ u ∧ va_P D vwCl (zx_w u κ h'.2 0 h'.1) t.heap ∧ va_K D vwCl (zx_tys κ) t ∧ va_D (va_A (zx_w ρ κ h.2 0 h.1) sz) (zx_w u κ h'.2 0 h'.1)) ∧ va_F (va_A (zx_w ρ κ h.2 0 h.1) sz) st t
/-- a method's contract: out of a run of the machine -/
def zx_Mt (l : Launch) (d : Nat) (row : zx_T) (as : List Value) (h : zx_H) (v : Option Value) (h' : zx_H) : Prop := ∀ (D : va_G) (κ : Nat → ClassId) (ρ : Nat → Nat) (sz K N : Nat), h'.1.length = K + h.1.length → zx_sz h'.1 = N + zx_sz h.1 → Met l row.1 (zx_ws row) (zx_rm d K N) (zx_Pc D κ ρ h sz as) (zx_Qc D κ ρ h sz v h') K N (va_A (zx_w ρ κ h.2 0 h.1) sz)
def zx_Rn (l : Launch) (n : Nat) : Prop := ∀ (d k pc : Nat) (L : zx_L) (st : List Value) (h : zx_H) (v : Option Value) (h' : zx_H) (row : zx_T), zx_tm k = some row → zx_run n d k pc L st h = some (v, h') →
  (h.1.length ≤ h'.1.length ∧ zx_sz h.1 ≤ zx_sz h'.1 ∧ ∀ ρ, v.toList.map (zx_v ρ) = v.toList) ∧
  ∀ {p : Program} {e : Env} {R : Room} {s : State} {m : MethodId} {args : Array Value} {below : List Frame} {meth : Method} {c : Code} {H : Heap} {locs : List Loc} {cells slots : Nat} {Q : State → Prop} {D : va_G} {κ : Nat → ClassId} {A : Nat → Prop} {ρ : Nat → Nat} {ls : Array Slot} {K N : Nat},
    zx_X p R s m args meth c row D κ A d → zx_Y s row D κ A ρ h H locs L ls → cells + h'.1.length = K + h.1.length → slots + zx_sz h'.1 = N + zx_sz h.1 → K ≤ R.cells → N ≤ R.slots →
    (∀ (ρ' : Nat → Nat) (H1 : Heap) (locs1 : List Loc) (pc' : Nat) (ls' : Array Slot) (i : Instr), zx_ag h.1.length ρ ρ' → va_P D vwCl (zx_w ρ' κ h'.2 0 h'.1) H1 → va_D A (zx_w ρ' κ h'.2 0 h'.1) → va_S A s.heap H1 locs1 → decode row.2.1 pc' = .ok (i, 1) → zx_ret row.2.2.2.1 i v.toList = some v → W p l e R s m args below meth c H1 locs1 K N Q (F0 m pc' ls' v.toList)) →
    W p l e R s m args below meth c H locs cells slots Q (F0 m pc ls (st.map (zx_v ρ)))
theorem zx_own_eq {k : Nat} {row : zx_T} (h : zx_tm k = some row) : zx_own k = row.2.2.2.2.1 := by unfold zx_own; rw [h]
theorem zx_ini_eq {k : Nat} {row : zx_T} (h : zx_tm k = some row) : zx_ini k = decide (row.1.name = "<init>") := by unfold zx_ini; rw [h]
theorem zx_rt_eq {k : Nat} {row : zx_T} (h : zx_tm k = some row) : zx_rt k = row.2.2.2.1 := by unfold zx_rt; rw [h]
theorem zx_ml_eq {k : Nat} {row : zx_T} (h : zx_tm k = some row) : zx_ml k = row.2.2.1 := by unfold zx_ml; rw [h]
theorem zx_na_eq {k : Nat} {row : zx_T} (h : zx_tm k = some row) : zx_na k = row.2.2.2.2.2 := by unfold zx_na; rw [h]
theorem zx_mok_at {k : Nat} {row : zx_T} (h : zx_tm k = some row) : zx_MOK row := by
  unfold zx_tm at h
  rw [zx_nth_get] at h
  exact zx_mok row (List.mem_of_getElem? h)
theorem zx_dec {k pc n : Nat} {i : Instr} {row : zx_T} (h : zx_tm k = some row) (ha : zx_at (zx_cd k) pc = some (i, n)) : decode row.2.1 pc = .ok (i, n) ∧ zx_len i n = true := by
  have h1 : zx_ckc row.2.1 (zx_cd k) = true := zx_cok h
  unfold zx_ckc at h1
  have h2 := List.all_eq_true.mp h1 _ (zx_at_mem ha)
  rw [Bool.and_eq_true, decide_eq_true_eq] at h2
  exact h2
set_option maxHeartbeats 1000000 in
/-- the contract -/
theorem zx_Mt_of {l : Launch} {n d k : Nat} {as : List Value} {h h' : zx_H} {v : Option Value} {row : zx_T} (hR : zx_Rn l n) (hrow : zx_tm k = some row) (hlen : (zx_sl as).length ≤ row.2.2.1) (hrun : zx_run n d k 0 (zx_en row.2.2.1 as) [] h = some (v, h')) : zx_Mt l d row as h v h' := by
  intro D κ ρ sz K N hK hN
  have hM := zx_mok_at hrow
  refine Met.ofW (cc := row.2.1) (maxL := row.2.2.1) (ret := row.2.2.2.1) hM.2.2.2.2.2.1 rfl ?_
  intro p e s m args below meth c s₁ B hml hv
  obtain ⟨rfl, hsz, hP, hKK, hD0, hZ⟩ := hv
  have hts := atoms_spec (ws := zx_ws row) B.pre
  have hown : s.vm.findClass row.1.cls = some m.cls := findClass_of_methodNamed B.named
  have hnm : meth.name = row.1.name := (name_of_methodNamed B.named B.method).1
  have hlocks := B.notSynchronized
  subst hsz
  have hl := lv_entry (as.map (zx_v ρ)) (n := row.2.2.1) (by rw [zx_sl_lg]; exact hlen)
  rw [lg_entry_eq]
  generalize (lg_sl (as.map (zx_v ρ)) ++ List.replicate (row.2.2.1 - (lg_sl (as.map (zx_v ρ))).length) Slot.unset).toArray = ls at hl ⊢
  have X : zx_X p (zx_rm d K N) s m (as.map (zx_v ρ)).toArray meth c row D κ (va_A (zx_w ρ κ h.2 0 h.1) s.heap.size) d := ⟨B.exec, B.bytes, hml, hown, hnm, fun w hw => hts w (List.mem_cons_of_mem _ hw), hKK, fun q hq => Or.inr hq, Nat.le_refl _, Nat.le_refl _, hM⟩
  have Y : zx_Y s row D κ (va_A (zx_w ρ κ h.2 0 h.1) s.heap.size) ρ h s.heap [] (zx_en row.2.2.1 as) ls := ⟨hP, hD0.self, va_S.rf, hZ, zx_en_lr hlen hl, zx_en_len hlen⟩
  obtain ⟨-, hW⟩ := hR d k 0 (zx_en row.2.2.1 as) [] h v h' row hrow hrun
  refine hW (K := K) (N := N) X Y (by omega) (by omega) (Nat.le_refl _) (Nat.le_refl _) ?_
  intro ρ' H1 locs1 pc' ls' i hag hP1 hD1 hS1 hdg hret
  have hq : ∀ t : State, t.heap = H1 → s.WarmedH t.vm → zx_Qc D κ ρ h s.heap.size v h' (as.map (zx_v ρ)).toArray s (.returned v) t := fun t ht hW => ⟨⟨ρ', rfl, hag, by rw [ht]; exact hP1, va_K.moved hW.alike hKK, hD1⟩, hS1.F ht⟩
  rcases (zx_ret_inv hret).2.2 with ⟨rfl, rfl, hr⟩ | ⟨x, rfl, rfl, t, hr, hn⟩ | ⟨x, rfl, rfl, hr⟩
  · exact W.vret B.exec B.bytes (B.returns.trans hr) hq hS1.2.2 hdg
  · exact W.zret (ty := t) B.exec B.bytes (B.returns.trans hr) hn hq hS1.2.2 hdg
  · exact W.lret B.exec B.bytes (B.returns.trans hr) hq hS1.2.2 hdg
/-- behind a call -/
theorem zx_back {p : Program} {l : Launch} {e : Env} {R : Room} {s : State} {m : MethodId} {args : Array Value} {below : List Frame} {meth : Method} {c : Code} {H : Heap} {locs : List Loc} {cells slots mc ms pc : Nat} {Q : State → Prop} {D : va_G} {κ : Nat → ClassId} {A : Nat → Prop} {ρ : Nat → Nat} {ls : Array Slot} {st rest : List Value} {a : Array Value} {h h1 : zx_H} {v1 : Option Value}
    (hA : ∀ q, s.heap.size ≤ q → A q) (hD : va_D A (zx_w ρ κ h.2 0 h.1)) (hS : va_S A s.heap H locs)
    (hrun : va_Run p l e R s m args below meth c H locs cells slots mc ms (F0 m pc ls st) rest (zx_Qc D κ ρ h H.size v1 h1 a) (va_A (zx_w ρ κ h.2 0 h.1) H.size))
    (kk : ∀ (u : Nat → Nat) (H1 : Heap) (locs1 : List Loc), zx_ag h.1.length ρ u → va_P D vwCl (zx_w u κ h1.2 0 h1.1) H1 → va_D A (zx_w u κ h1.2 0 h1.1) → va_S A s.heap H1 locs1 → W p l e R s m args below meth c H1 locs1 (cells + mc) (slots + ms) Q (F0 m (pc + 3) ls (v1.toList ++ rest))) :
    W p l e R s m args below meth c H locs cells slots Q (F0 m pc ls st) := by
  have hsub : ∀ q, va_A (zx_w ρ κ h.2 0 h.1) H.size q → A q := fun q hq => by
    rcases hq with ⟨k, e2, hk⟩ | hq
    · exact hD.2 k (q, e2) hk
    · exact hA q (Nat.le_trans hS.1 hq)
  intro T hT X
  obtain ⟨v, st₀, t, T', L, h0, X', hL, e1, e2, ⟨⟨u, hv, hag, hP1, hK1, hD1⟩, hz, hk⟩, stp⟩ := hrun T hT X
  cases hv
  rw [h0] at hz hk
  obtain ⟨t2, a1, b1⟩ := kk u T'.heap (locs ++ L) hag (by rw [e1]; exact hP1) (hD1.weaken (fun _ q _ hq => hsub q.1 hq))
    ⟨Nat.le_trans hS.1 (by rw [e1]; exact hz), fun q g1 g2 => by rw [e1, hk q (Nat.lt_of_lt_of_le g1 hS.1) (fun z => g2 (hsub q z))]; exact hS.2.1 q g1 g2, fun q hq => by
      rcases List.mem_append.mp hq with g | g
      · exact hS.2.2 q g
      · exact hsub _ (hL q g)⟩ T' rfl X'
  exact ⟨t2, stp t2 a1, b1⟩
theorem zx_Pc_blind {D : va_G} {κ : Nat → ClassId} {ρ : Nat → Nat} {h : zx_H} {sz : Nat} {as : List Value} : FrameBlind (zx_Pc D κ ρ h sz as) := fun a U g mk q => by
  obtain ⟨q0, q1, qP, qK, qD, qZ⟩ := q
  exact ⟨q0, q1, qP, va_K.moved (u := U) (U := U.calling g mk a) (Vm.Alike.refl U.vm) qK, qD, zx_St.same rfl qZ⟩
theorem zx_Pc_here {s : State} {H : Heap} {locs : List Loc} {D : va_G} {κ : Nat → ClassId} {A : Nat → Prop} {ρ : Nat → Nat} {h : zx_H} {as : List Value} (hA : ∀ q, s.heap.size ≤ q → A q) (hK : va_K D vwCl (zx_tys κ) s) (hP : va_P D vwCl (zx_w ρ κ h.2 0 h.1) H) (hD : va_D A (zx_w ρ κ h.2 0 h.1)) (hS : va_S A s.heap H locs) (hZ : zx_St A ρ s s.heap) : ∀ U : State, U.heap = H → s.WarmedH U.vm → zx_Pc D κ ρ h H.size as (as.map (zx_v ρ)).toArray U := fun U hU hW => by
  have hsub : ∀ q, va_A (zx_w ρ κ h.2 0 h.1) H.size q → A q := fun q hq => by
    rcases hq with ⟨k, e2, hk⟩ | hq
    · exact hD.2 k (q, e2) hk
    · exact hA q (Nat.le_trans hS.1 hq)
  refine ⟨rfl, by rw [hU], by rw [hU]; exact hP, va_K.moved hW.alike hK, hD.weaken (fun _ _ _ _ => trivial), ?_⟩
  rw [hU]
  exact zx_St.warm hW (zx_St.narrow hsub (zx_St.kept hS.2.1 hZ))
theorem zx_B_ws {row : zx_T} (hM : zx_MOK row) {ws : List Cond} (h : ∀ w ∈ ws, w ∈ zx_B) : GoodIn zx_B (ws ++ zx_ws row) := zx_B_good (fun w hw => by
  rcases List.mem_append.mp hw with h1 | h1
  · exact h w h1
  · rcases List.mem_cons.mp h1 with rfl | h2
    · exact hM.1
    · exact h2)
set_option maxHeartbeats 2000000 in
theorem zx_sound (l : Launch) (hio : zx_IO l) : ∀ n, zx_Rn l n := by
  intro n
  induction n with
  | zero => intro d k pc L st h v h' row _ hrun; simp [zx_run] at hrun
  | succ n ih =>
    intro d k pc L st h v h' row hrow hrun
    unfold zx_run at hrun
    cases ha : zx_at (zx_cd k) pc with
    | none => rw [ha] at hrun; simp at hrun
    | some e0 =>
      obtain ⟨i, len⟩ := e0
      rw [ha] at hrun
      simp only at hrun
      obtain ⟨hdg, hlen⟩ := zx_dec hrow ha
      rw [zx_own_eq hrow, zx_ini_eq hrow, zx_rt_eq hrow] at hrun
      cases hst : zx_step d row.2.2.2.2.1 (decide (row.1.name = "<init>")) pc i L st h with
      | some q =>
        obtain ⟨pc1, L1, st1, h1⟩ := q
        rw [hst] at hrun
        simp only at hrun
        obtain ⟨⟨g1, g2, g3⟩, gW⟩ := ih d k pc1 L1 st1 h1 v h' row hrow hrun
        obtain ⟨m1, m2⟩ := zx_step_mono hst
        simp only at m1 m2
        refine ⟨⟨Nat.le_trans m1 g1, Nat.le_trans m2 g2, g3⟩, ?_⟩
        intro p e R s m args below meth c H locs cells slots Q D κ A ρ ls K N X Y hKc hNc hKR hNR kk
        refine zx_step_ok (K := cells + (h1.1.length - h.1.length)) (N := slots + (zx_sz h1.1 - zx_sz h.1)) hio rfl X Y hdg hlen hst (by simp only; omega) (by simp only; omega) (by omega) (by omega) ?_
        intro ρ1 H1 locs1 ls1 hag Y1
        refine gW (K := K) (N := N) X Y1 (by omega) (by omega) hKR hNR ?_
        intro ρ' H2 locs2 pc' ls' i2 hag2
        exact kk ρ' H2 locs2 pc' ls' i2 (hag.trans hag2 m1)
      | none =>
        rw [hst] at hrun
        simp only at hrun
        cases hre : zx_ret row.2.2.2.1 i st with
        | some r =>
          rw [hre] at hrun
          simp only [Option.some.injEq, Prod.mk.injEq] at hrun
          obtain ⟨rfl, rfl⟩ := hrun
          obtain ⟨e1, e2, e3⟩ := zx_ret_inv hre
          refine ⟨⟨Nat.le_refl _, Nat.le_refl _, e2⟩, ?_⟩
          intro p e R s m args below meth c H locs cells slots Q D κ A ρ ls K N X Y hKc hNc hKR hNR kk
          have k1 : K = cells := by omega
          have k2 : N = slots := by omega
          subst k1 k2
          have hl1 : len = 1 := by
            rcases e3 with ⟨rfl, -, -⟩ | ⟨x, rfl, -, -⟩ | ⟨x, rfl, -, -⟩
            · exact Nat.eq_of_beq_eq_true hlen
            · exact Nat.eq_of_beq_eq_true hlen
            · exact Nat.eq_of_beq_eq_true hlen
          subst hl1
          rw [e1, e2 ρ]
          rw [e1] at hre
          exact kk ρ H locs pc ls i zx_ag.rf Y.1 Y.2.1 Y.2.2.1 hdg hre
        | none =>
          rw [hre] at hrun
          simp only at hrun
          cases d with
          | zero => simp at hrun
          | succ d =>
            simp only at hrun
            cases hin : zx_inv row.2.2.2.2.1 i with
            | none => rw [hin] at hrun; simp at hrun
            | some e1 =>
              obtain ⟨kd, ck⟩ := e1
              rw [hin] at hrun
              simp only at hrun
              cases har : zx_args kd ck L st h with
              | none => rw [har] at hrun; simp at hrun
              | some e2 =>
                obtain ⟨as, r⟩ := e2
                rw [har] at hrun
                simp only at hrun
                cases hc1 : zx_run n d ck 0 (zx_en (zx_ml ck) as) [] h with
                | none => rw [hc1] at hrun; simp at hrun
                | some e3 =>
                  obtain ⟨v1, h1⟩ := e3
                  rw [hc1] at hrun
                  simp only at hrun
                  obtain ⟨⟨g1, g2, g3⟩, gW⟩ := ih (d + 1) k (pc + 3) L (v1.toList ++ r) h1 v h' row hrow hrun
                  -- the call's parts
                  unfold zx_args at har
                  cases htk : zx_take (zx_na ck) [] st with
                  | none => rw [htk] at har; simp at har
                  | some e4 =>
                    obtain ⟨as0, r0⟩ := e4
                    rw [htk] at har
                    simp only at har
                    cases hcond : (zx_rcv kd (zx_own ck) as0 h.1 && (Nat.ble (zx_sl as0).length (zx_ml ck) && (zx_kL h.1.length L && (zx_kV h.1.length r0 && (Nat.ble (zx_cat r0) 8 && Nat.blt h.1.length 999))))) with
                    | false => rw [hcond] at har; simp at har
                    | true =>
                      rw [hcond] at har
                      simp only [cond_true, Option.some.injEq, Prod.mk.injEq] at har
                      obtain ⟨rfl, rfl⟩ := har
                      rw [Bool.and_eq_true, Bool.and_eq_true, Bool.and_eq_true, Bool.and_eq_true, Bool.and_eq_true] at hcond
                      obtain ⟨c1, c2, c3, c4, c5, c6⟩ := hcond
                      have c2 := Nat.le_of_ble_eq_true c2
                      have c5 := Nat.le_of_ble_eq_true c5
                      obtain ⟨tt, t1, t2, t3⟩ := zx_take_inv htk
                      rw [List.append_nil] at t1
                      -- who is called
                      have hcall : ∃ (ix : Nat) (rc : zx_T), zx_tm ck = some rc ∧ zx_len i 3 = true ∧
                          ((kd = 0 ∧ i = .invokevirtual ix ∧ Cond.methodLink (zx_on row.2.2.2.2.1) ix rc.1 ∈ zx_B ∧ Cond.instanceMethod rc.1 ∈ zx_B ∧ Cond.selects rc.1.cls rc.1 rc.1 ∈ zx_B ∧ (parseMethodDescriptor rc.1.desc).map (fun d => d.parameters.length + 1) = some rc.2.2.2.2.2) ∨
                           (kd = 1 ∧ i = .invokestatic ix ∧ Cond.methodLink (zx_on row.2.2.2.2.1) ix rc.1 ∈ zx_B ∧ Cond.static rc.1 ∈ zx_B ∧ (parseMethodDescriptor rc.1.desc).map (fun d => d.parameters.length) = some rc.2.2.2.2.2) ∨
                           (kd = 2 ∧ i = .invokespecial ix ∧ Cond.methodLink (zx_on row.2.2.2.2.1) ix rc.1 ∈ zx_B ∧ Cond.instanceMethod rc.1 ∈ zx_B ∧ rc.1.name = "<init>" ∧ rc.2.2.2.1 = none ∧ (parseMethodDescriptor rc.1.desc).map (fun d => d.parameters.length + 1) = some rc.2.2.2.2.2) ∨
                           (kd = 3 ∧ i = .invokespecial ix ∧ row.2.2.2.2.1 = 8 ∧ (ix, rc.1) ∈ zx_nests ∧ Cond.instanceMethod rc.1 ∈ zx_B ∧ rc.1.name = "<init>" ∧ rc.2.2.2.1 = none ∧ (parseMethodDescriptor rc.1.desc).map (fun d => d.parameters.length + 1) = some rc.2.2.2.2.2)) := by
                        cases i with
                        | invokevirtual ix =>
                          simp only [zx_inv] at hin
                          split at hin
                          case h_2 => simp at hin
                          rename_i k9 hf
                          simp only [Option.some.injEq, Prod.mk.injEq] at hin
                          obtain ⟨rfl, rfl⟩ := hin
                          obtain ⟨rc, q1, q2, q3, q4, q5⟩ := zx_ml_ok _ _ (zx_find_mem hf)
                          exact ⟨ix, rc, q1, rfl, Or.inl ⟨rfl, rfl, q2, q3, q4, q5⟩⟩
                        | invokestatic ix =>
                          simp only [zx_inv] at hin
                          split at hin
                          case h_2 => simp at hin
                          rename_i k9 hf
                          simp only [Option.some.injEq, Prod.mk.injEq] at hin
                          obtain ⟨rfl, rfl⟩ := hin
                          obtain ⟨rc, q1, q2, q3, q4⟩ := zx_ml_ok _ _ (zx_find_mem hf)
                          exact ⟨ix, rc, q1, rfl, Or.inr (Or.inl ⟨rfl, rfl, q2, q3, q4⟩)⟩
                        | invokespecial ix =>
                          simp only [zx_inv] at hin
                          split at hin
                          case h_3 => simp at hin
                          · rename_i k9 hf
                            simp only [Option.some.injEq, Prod.mk.injEq] at hin
                            obtain ⟨rfl, rfl⟩ := hin
                            obtain ⟨rc, q1, q2, q3, q4, q5, q6⟩ := zx_ml_ok _ _ (zx_find_mem hf)
                            exact ⟨ix, rc, q1, rfl, Or.inr (Or.inr (Or.inl ⟨rfl, rfl, q2, q3, q4, q5, q6⟩))⟩
                          · rename_i k9 hf
                            simp only [Option.some.injEq, Prod.mk.injEq] at hin
                            obtain ⟨rfl, rfl⟩ := hin
                            obtain ⟨rc, q1, q2, q2b, q3, q4, q5, q6⟩ := zx_ml_ok _ _ (zx_find_mem hf)
                            exact ⟨ix, rc, q1, rfl, Or.inr (Or.inr (Or.inr ⟨rfl, rfl, q2, q2b, q3, q4, q5, q6⟩))⟩
                        | _ => simp [zx_inv] at hin
                      obtain ⟨ix, rc, hrc, -, hkind⟩ := hcall
                      rw [zx_ml_eq hrc] at c2 hc1
                      rw [zx_na_eq hrc] at t3
                      have hMc := zx_mok_at hrc
                      have hMt := zx_Mt_of ih hrc c2 hc1
                      obtain ⟨⟨m1, m2, m3⟩, -⟩ := ih d ck 0 (zx_en rc.2.2.1 as0) [] h v1 h1 rc hrc hc1
                      refine ⟨⟨Nat.le_trans m1 g1, Nat.le_trans m2 g2, g3⟩, ?_⟩
                      intro p e R s m args below meth c H locs cells slots Q D κ A ρ ls K N X Y hKc hNc hKR hNR kk
                      have X0 := X
                      obtain ⟨hx, hb, hml, hown, hnm, hts, hKK, hA, hRf, hRl, hM⟩ := X
                      obtain ⟨hP, hD, hS, hZ, hl, hLn⟩ := id Y
                      have hcl : row.1.cls = zx_on row.2.2.2.2.1 := hM.2.2.2.1
                      rw [hcl] at hown
                      have hml2 : c.maxLocals = ls.size := by rw [hml, hl.1, hLn]
                      have hMt2 := hMt D κ ρ H.size (h1.1.length - h.1.length) (zx_sz h1.1 - zx_sz h.1) (by omega) (by omega)
                      have hrm : (zx_rm d (h1.1.length - h.1.length) (zx_sz h1.1 - zx_sz h.1)).frames + 1 ≤ R.frames ∧ 8 + (rc.2.2.1 + 11) + (zx_rm d (h1.1.length - h.1.length) (zx_sz h1.1 - zx_sz h.1)).locals ≤ R.locals := by
                        have h21 := hMc.2.2.2.2.2.2
                        exact ⟨hRf, by show 8 + (rc.2.2.1 + 11) + 40 * d ≤ R.locals; omega⟩
                      have hroom : cells + (h1.1.length - h.1.length) ≤ R.cells ∧ slots + (zx_sz h1.1 - zx_sz h.1) ≤ R.slots := ⟨by omega, by omega⟩
                      have hcatr : 2 * (F0 m pc ls (st.map (zx_v ρ))).monitorRoom + ((r0.map (zx_v ρ)).map fun v => v.category).sum ≤ 8 := by
                        show 2 * 0 + _ ≤ 8
                        rw [zx_cat_sum]
                        omega
                      have hini : (Cond.initialized rc.1.cls).before args s = true := hts _ hMc.2.2.1
                      have fin : va_Run p l e R s m args below meth c H locs cells slots (h1.1.length - h.1.length) (zx_sz h1.1 - zx_sz h.1) (F0 m pc ls (st.map (zx_v ρ))) (r0.map (zx_v ρ)) (zx_Qc D κ ρ h H.size v1 h1 (as0.map (zx_v ρ)).toArray) (va_A (zx_w ρ κ h.2 0 h.1) H.size) := by
                        have hpc := zx_Pc_here (as := as0) hA hKK hP hD hS hZ
                        rcases hkind with ⟨rfl, rfl, q2, q3, q4, q5⟩ | ⟨rfl, rfl, q2, q3, q5⟩ | ⟨rfl, rfl, q2, q3, q6, q7, q5⟩ | ⟨rfl, rfl, q1, q2, q3, q6, q7, q5⟩
                        · -- of an object
                          have hl3 : len = 3 := Nat.eq_of_beq_eq_true hlen
                          subst hl3
                          unfold zx_rcv at c1
                          cases as0 with
                          | nil => simp at c1
                          | cons w as1 =>
                            cases w with
                            | ref b0 =>
                              simp only [zx_nth_get] at c1
                              cases hs : h.1[b0]? with
                              | none => rw [hs] at c1; simp at c1
                              | some sh =>
                                rw [hs] at c1
                                obtain ⟨ci, rs⟩ | z := sh
                                · simp only at c1
                                  have hci := Nat.eq_of_beq_eq_true c1
                                  rw [zx_own_eq hrc] at hci
                                  have hlt : ci < 10 ∨ 10 ≤ ci := Nat.lt_or_ge ci 10
                                  have hrecv : ∃ cell : Cell, H[ρ b0]? = some cell ∧ cell.vm.isStatics = false ∧ s.vm.findClass rc.1.cls = some cell.cls := by
                                    obtain ⟨qv, hq1, -⟩ := (hP b0 _ (zx_w_obj hs))
                                    have hF := zx_fok hq1
                                    have e9 : rc.1.cls = qv.1 := by rw [hMc.2.2.2.1, ← hci]; exact hF.2.1.symm
                                    rw [e9]
                                    exact va_recv hKK hP hq1 (zx_w_obj hs)
                                  have hn : (as1.map (zx_v ρ)).length + 1 = rc.2.2.2.2.2 := by
                                    rw [← t3, List.length_map]
                                    have := congrArg List.length t1
                                    simp at this
                                    omega
                                  have hdn : (parseMethodDescriptor rc.1.desc).map (fun d => d.parameters.length) = some (as1.map (zx_v ρ)).length := by
                                    rw [← hn] at q5
                                    cases hpd : parseMethodDescriptor rc.1.desc with
                                    | none => rw [hpd] at q5; simp at q5
                                    | some sg => rw [hpd] at q5; simp at q5; simp; omega
                                  have hstk : st.map (zx_v ρ) = (as1.map (zx_v ρ)).reverse ++ .ref (ρ b0) :: r0.map (zx_v ρ) := by
                                    have e7 : tt = as1.reverse ++ [.ref b0] := by
                                      have := congrArg List.reverse t1
                                      simp at this
                                      rw [← this]
                                    rw [t2, e7]
                                    simp [zx_v]
                                  exact va_runV (As := as1.map (zx_v ρ)) (rest := r0.map (zx_v ρ)) (b := ρ b0) ⟨hx, hb, hml2, hown, hts⟩ hMt2 (cwV (as1.map (zx_v ρ)).length hts (zx_B_ws hMc (ws := [.methodLink (zx_on row.2.2.2.2.1) ix rc.1, .instanceMethod rc.1, .selects rc.1.cls rc.1 rc.1, .initialized rc.1.cls]) (by simp [q2, q3, q4, hMc.2.2.1])) rfl rfl rfl ⟨rfl, hMc.2.2.2.2.1.1, hMc.2.2.2.2.1.2, hdn⟩ hrm) ⟨zx_Pc_blind, hrecv, hpc⟩ rfl rfl rfl hstk hcatr hdg hroom
                                · simp at c1
                            | _ => simp at c1
                        · -- static
                          have hl3 : len = 3 := Nat.eq_of_beq_eq_true hlen
                          subst hl3
                          have hn : (as0.map (zx_v ρ)).length = rc.2.2.2.2.2 := by
                            rw [← t3, List.length_map]
                            have := congrArg List.length t1
                            simp at this
                            exact this
                          have hstk : st.map (zx_v ρ) = (as0.map (zx_v ρ)).reverse ++ r0.map (zx_v ρ) := by
                            have e7 : tt = as0.reverse := by rw [t1]; simp
                            rw [t2, e7]
                            simp
                          exact va_runS (As := as0.map (zx_v ρ)) (rest := r0.map (zx_v ρ)) ⟨hx, hb, hml2, hown, hts⟩ hMt2 (va_cwS (as0.map (zx_v ρ)).length hts (zx_B_ws hMc (ws := [.methodLink (zx_on row.2.2.2.2.1) ix rc.1, .static rc.1, .initialized rc.1.cls]) (by simp [q2, q3, hMc.2.2.1])) rfl rfl rfl ⟨hMc.2.2.2.2.1.1, hMc.2.2.2.2.1.2, by rw [q5, hn]⟩ hrm) ⟨zx_Pc_blind, hpc⟩ rfl rfl rfl hstk hcatr hdg hroom
                        · -- a constructor
                          have hl3 : len = 3 := Nat.eq_of_beq_eq_true hlen
                          subst hl3
                          unfold zx_rcv at c1
                          cases as0 with
                          | nil => simp at c1
                          | cons w as1 =>
                            cases w with
                            | ref b0 =>
                              have hn : (as1.map (zx_v ρ)).length + 1 = rc.2.2.2.2.2 := by
                                rw [← t3, List.length_map]
                                have := congrArg List.length t1
                                simp at this
                                omega
                              have hdn : (parseMethodDescriptor rc.1.desc).map (fun d => d.parameters.length) = some (as1.map (zx_v ρ)).length := by
                                rw [← hn] at q5
                                cases hpd : parseMethodDescriptor rc.1.desc with
                                | none => rw [hpd] at q5; simp at q5
                                | some sg => rw [hpd] at q5; simp at q5; simp; omega
                              have hstk : st.map (zx_v ρ) = (as1.map (zx_v ρ)).reverse ++ .ref (ρ b0) :: r0.map (zx_v ρ) := by
                                have e7 : tt = as1.reverse ++ [.ref b0] := by
                                  have := congrArg List.reverse t1
                                  simp at this
                                  rw [← this]
                                rw [t2, e7]
                                simp [zx_v]
                              have hws : zx_ws rc = Cond.code rc.1 rc.2.1 rc.2.2.1 none :: zx_B := by unfold zx_ws; rw [q7]
                              exact va_runI (As := as1.map (zx_v ρ)) (rest := r0.map (zx_v ρ)) (b := ρ b0) ⟨hx, hb, hml2, hown, hts⟩ hMt2 (cwI (as1.map (zx_v ρ)).length hts (zx_B_ws hMc (ws := []) (by simp)) hws rfl rfl hini (hts _ q2) (hts _ q3) q6 ⟨hMc.2.2.2.2.1.1, hMc.2.2.2.2.1.2, hdn⟩ hrm) ⟨zx_Pc_blind, hpc⟩ rfl rfl rfl hstk hcatr hdg hroom
                            | _ => simp at c1
                        · -- a constructor of a nest mate
                          have hl3 : len = 3 := Nat.eq_of_beq_eq_true hlen
                          subst hl3
                          unfold zx_rcv at c1
                          cases as0 with
                          | nil => simp at c1
                          | cons w as1 =>
                            cases w with
                            | ref b0 =>
                              have hn : (as1.map (zx_v ρ)).length + 1 = rc.2.2.2.2.2 := by
                                rw [← t3, List.length_map]
                                have := congrArg List.length t1
                                simp at this
                                omega
                              have hdn : (parseMethodDescriptor rc.1.desc).map (fun d => d.parameters.length) = some (as1.map (zx_v ρ)).length := by
                                rw [← hn] at q5
                                cases hpd : parseMethodDescriptor rc.1.desc with
                                | none => rw [hpd] at q5; simp at q5
                                | some sg => rw [hpd] at q5; simp at q5; simp; omega
                              have hstk : st.map (zx_v ρ) = (as1.map (zx_v ρ)).reverse ++ .ref (ρ b0) :: r0.map (zx_v ρ) := by
                                have e7 : tt = as1.reverse ++ [.ref b0] := by
                                  have := congrArg List.reverse t1
                                  simp at this
                                  rw [← this]
                                rw [t2, e7]
                                simp [zx_v]
                              have hws : zx_ws rc = Cond.code rc.1 rc.2.1 rc.2.2.1 none :: zx_B := by unfold zx_ws; rw [q7]
                              have hnest := hZ.2.2.1 _ q2
                              rw [q1] at hown
                              exact va_runIN (As := as1.map (zx_v ρ)) (rest := r0.map (zx_v ρ)) (b := ρ b0) (own := RX8) (host := RX8) ⟨hx, hb, hml2, hown, hts⟩ hMt2 ⟨va_cnB (as1.map (zx_v ρ)).length hts (zx_B_ws hMc (ws := []) (by simp)) hws rfl rfl hnest hini ⟨hMc.2.2.2.2.1.1, hMc.2.2.2.2.1.2, hdn⟩ hrm, q6, hts _ q3⟩ ⟨zx_Pc_blind, hpc⟩ rfl rfl rfl hstk hcatr hdg hroom
                            | _ => simp at c1
                      refine zx_back hA hD hS fin ?_
                      intro u H1 locs1 hag hP1 hD1 hS1
                      have est : v1.toList ++ r0.map (zx_v ρ) = (v1.toList ++ r0).map (zx_v u) := by
                        rw [List.map_append, m3 u, zx_V_ag hag c4]
                      rw [est]
                      refine gW (K := K) (N := N) X0 ⟨hP1, hD1, hS1, zx_St.ag hag hZ, zx_lr_ag hag c3 hl, hLn⟩ (by omega) (by omega) hKR hNR ?_
                      intro ρ' H2 locs2 pc' ls' i2 hag2
                      exact kk ρ' H2 locs2 pc' ls' i2 (hag.trans hag2 m1)

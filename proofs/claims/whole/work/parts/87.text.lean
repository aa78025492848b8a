/-! the text's indexOf: contracts of String's members over the one text -/
def zv_B (a t : Nat) (U : State) (H : Heap) : Prop := vk_S 1 [6] [[119, 115, 113, 97, 98, 104]] (fun _ => a) (fun _ => t) (fun _ => False) U H ∧ va_Z "java/lang/String" "COMPACT_STRINGS" "Z" (.int 1) (fun _ => False) U H
def zv_Q (r : Int32) : Array Value → State → Outcome → State → Prop := fun _ st oc t => oc = .returned (some (.int r)) ∧ t.heap = st.heap
def zv_Mt (l : Launch) (y : MethodName) (bytes : ByteArray) (maxL : Nat) (ret : Option FieldType) (rm : Room) (av : List Value) (a t : Nat) (r : Int32) : Prop := Met l y (.code y bytes maxL ret :: zx_B) rm (va_Pc av (fun U => zv_B a t U U.heap)) (zv_Q r) 0 0 (fun _ => False)
def zv_X (p : Program) (s : State) (m : MethodId) (args : Array Value) (c : Code) (bytes : ByteArray) (maxL : Nat) (cls : String) (a t : Nat) : Prop := p.tables.exec = Jvm.exec ∧ c.code = bytes ∧ c.maxLocals = maxL ∧ s.vm.findClass cls = some m.cls ∧ (∀ w ∈ zx_B, w.before args s = true) ∧ zv_B a t s s.heap
theorem zv_of {l : Launch} {y : MethodName} {bytes : ByteArray} {maxL : Nat} {ret : Option FieldType} {rm : Room} {av : List Value} {a t : Nat} {r : Int32} {ty : FieldType} (hpl : plainName y.cls = true) (hr : ret = some ty) (hn : narrow ty (.int r) = .int r) (hlen : (lg_sl av).length ≤ maxL)
    (hW : ∀ (p : Program) (e : Env) (s : State) (m : MethodId) (args : Array Value) (below : List Frame) (meth : Method) (c : Code) (ls : Array Slot) (Q : State → Prop), zv_X p s m args c bytes maxL y.cls a t → lv_has ls maxL (lv_args 0 av) → (∀ (pc : Nat) (ls1 : Array Slot), decode bytes pc = .ok (.ireturn, 1) → W p l e rm s m args below meth c s.heap [] 0 0 Q (F0 m pc ls1 [.int r])) → W p l e rm s m args below meth c s.heap [] 0 0 Q (F0 m 0 ls [])) : zv_Mt l y bytes maxL ret rm av a t r := by
  refine Met.ofW (cc := bytes) (maxL := maxL) (ret := ret) hpl rfl ?_
  intro p e s m args below meth c s₁ B hml hv
  obtain ⟨rfl, hB⟩ := hv
  have hts := atoms_spec (ws := (Cond.code y bytes maxL ret :: zx_B)) B.pre
  have hown : s.vm.findClass y.cls = some m.cls := findClass_of_methodNamed B.named
  have hl := lv_entry av (n := maxL) hlen
  rw [lg_entry_eq]
  generalize (lg_sl av ++ List.replicate (maxL - (lg_sl av).length) Slot.unset).toArray = ls at hl ⊢
  refine hW p e s m _ below meth c ls _ ⟨B.exec, B.bytes, hml, hown, fun w hw => hts w (List.mem_cons_of_mem _ hw), hB⟩ hl ?_
  intro pc ls1 hdg
  exact W.zret (ty := ty) B.exec B.bytes (B.returns.trans hr) hn (fun t ht hW => ⟨rfl, ht⟩) (fun _ h => by cases h) hdg
theorem zv_after {p : Program} {l : Launch} {e : Env} {R : Room} {s : State} {m : MethodId} {args : Array Value} {below : List Frame} {meth : Method} {c : Code} {H : Heap} {pc : Nat} {Q : State → Prop} {ls : Array Slot} {st rest : List Value} {a : Array Value} {r : Int32}
    (hrun : va_Run p l e R s m args below meth c H [] 0 0 0 0 (F0 m pc ls st) rest (zv_Q r a) (fun _ => False)) (kk : W p l e R s m args below meth c H [] 0 0 Q (F0 m (pc + 3) ls (.int r :: rest))) : W p l e R s m args below meth c H [] 0 0 Q (F0 m pc ls st) := by
  intro T hT XX
  obtain ⟨v, st₀, t2, T', LL, h0, X', hL, e1, e2, ⟨hv, hh⟩, stp⟩ := hrun T hT XX
  cases hv
  have hT' : T'.heap = H := by rw [e1, hh, h0]
  have hLL : LL = [] := by
    cases LL with
    | nil => rfl
    | cons z zs => exact (hL z List.mem_cons_self).elim
  subst hLL
  obtain ⟨t3, a1, b1⟩ := kk T' hT' X'
  exact ⟨t3, stp t3 a1, b1⟩
theorem zv_blind {av : List Value} {a t : Nat} : FrameBlind (va_Pc av (fun U => zv_B a t U U.heap)) := fun v U g mk q => by
  obtain ⟨q0, q1, q2⟩ := q
  have ha : U.vm.Alike (U.calling g mk v).vm := Vm.Alike.refl U.vm
  exact ⟨q0, vk_S.moved ha q1, va_Z.moved ha q2⟩
theorem zv_here {s : State} {av : List Value} {a t : Nat} (h : zv_B a t s s.heap) : ∀ U : State, U.heap = s.heap → s.WarmedH U.vm → va_Pc av (fun U => zv_B a t U U.heap) av.toArray U := fun U hU hW => by
  refine ⟨rfl, ?_, ?_⟩
  · rw [hU]; exact vk_S.moved hW.alike h.1
  · rw [hU]; exact va_Z.moved hW.alike h.2
section ZV
variable {p : Program} {l : Launch} {e : Env} {R : Room} {s : State} {m : MethodId} {args : Array Value} {below : List Frame} {meth : Method} {c : Code} {pc ix : Nat} {Q : State → Prop} {ls : Array Slot} {st rest As : List Value} {a t : Nat} {r : Int32} {bytes bytes2 : ByteArray} {maxL maxL2 : Nat} {cls : String} {y : MethodName} {ret2 : Option FieldType} {rm : Room}
/-- a member of the text called -/
theorem zv_V (X : zv_X p s m args c bytes maxL cls a t) (hM : zv_Mt l y bytes2 maxL2 ret2 rm (.ref a :: As) a t r) (hls : ls.size = maxL) (h1 : Cond.methodLink cls ix y ∈ zx_B) (h2 : Cond.instanceMethod y ∈ zx_B) (h3 : Cond.selects RJ0 y y ∈ zx_B) (h4 : Cond.code y bytes2 maxL2 ret2 ∈ zx_B) (hd : y.cls = RJ0) (hn : (parseMethodDescriptor y.desc).map (fun d => d.parameters.length) = some As.length) (hrm : rm.frames + 1 ≤ R.frames ∧ 8 + (maxL2 + 11) + rm.locals ≤ R.locals) (hrc : rm.cells = 0) (hrs : rm.slots = 0)
    (hdg : decode bytes pc = .ok (.invokevirtual ix, 3)) (hst : st = As.reverse ++ .ref a :: rest) (hcat : (rest.map fun v => v.category).sum ≤ 8) (kk : W p l e R s m args below meth c s.heap [] 0 0 Q (F0 m (pc + 3) ls (.int r :: rest))) : W p l e R s m args below meth c s.heap [] 0 0 Q (F0 m pc ls st) := by
  obtain ⟨hx, hb, hml, hown, hts, hB⟩ := X
  subst hst
  refine zv_after (va_runV (As := As) (rest := rest) (b := a) (C := RJ0) ⟨hx, hb, hml.trans hls.symm, hown, hts⟩ hM (cwV As.length hts (zx_B_good (fun w hw => ?_)) rfl hrc hrs ⟨hd, by rw [hd]; decide, by rw [hd]; decide, hn⟩ hrm) ⟨zv_blind, vk_recv (i := 0) hB.1 (by decide) va_S.rf, zv_here hB⟩ rfl rfl rfl rfl (by show 2 * 0 + _ ≤ 8; omega) hdg ⟨Nat.zero_le _, Nat.zero_le _⟩) kk
  simp only [wsV, List.cons_append, List.nil_append, List.mem_cons] at hw
  rcases hw with rfl | rfl | rfl | rfl | rfl | hw
  · exact h1
  · exact h2
  · exact h3
  · exact zb_str
  · exact h4
  · exact hw
/-- a static one -/
theorem zv_S (X : zv_X p s m args c bytes maxL cls a t) (hM : zv_Mt l y bytes2 maxL2 ret2 rm As a t r) (hls : ls.size = maxL) (h1 : Cond.methodLink cls ix y ∈ zx_B) (h2 : Cond.static y ∈ zx_B) (h4 : Cond.code y bytes2 maxL2 ret2 ∈ zx_B) (hd : y.cls = RJ1) (hn : (parseMethodDescriptor y.desc).map (fun d => d.parameters.length) = some As.length) (hrm : rm.frames + 1 ≤ R.frames ∧ 8 + (maxL2 + 11) + rm.locals ≤ R.locals) (hrc : rm.cells = 0) (hrs : rm.slots = 0)
    (hdg : decode bytes pc = .ok (.invokestatic ix, 3)) (hst : st = As.reverse ++ rest) (hcat : (rest.map fun v => v.category).sum ≤ 8) (kk : W p l e R s m args below meth c s.heap [] 0 0 Q (F0 m (pc + 3) ls (.int r :: rest))) : W p l e R s m args below meth c s.heap [] 0 0 Q (F0 m pc ls st) := by
  obtain ⟨hx, hb, hml, hown, hts, hB⟩ := X
  subst hst
  refine zv_after (va_runS (As := As) (rest := rest) ⟨hx, hb, hml.trans hls.symm, hown, hts⟩ hM (va_cwS As.length hts (zx_B_good (fun w hw => ?_)) rfl hrc hrs ⟨by rw [hd]; decide, by rw [hd]; decide, hn⟩ hrm) ⟨zv_blind, zv_here hB⟩ rfl rfl rfl rfl (by show 2 * 0 + _ ≤ 8; omega) hdg ⟨Nat.zero_le _, Nat.zero_le _⟩) kk
  simp only [va_wsS, List.cons_append, List.nil_append, List.mem_cons] at hw
  rcases hw with rfl | rfl | rfl | rfl | hw
  · exact h1
  · exact h2
  · rw [hd]; exact zv_ini1
  · exact h4
  · exact hw
end ZV

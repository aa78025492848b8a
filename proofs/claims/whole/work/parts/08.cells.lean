/-! steps that touch cells -/
section ZX
variable {p : Program} {l : Launch} {e : Env} {R : Room} {s : State} {m : MethodId} {args : Array Value} {below : List Frame} {meth : Method} {c : Code} {H : Heap} {locs : List Loc} {cells slots : Nat} {Q : State → Prop}
variable {row : zx_T} {D : va_G} {κ : Nat → ClassId} {A : Nat → Prop} {d o pc K N ix : Nat} {ρ : Nat → Nat} {h : zx_H} {L : zx_L} {ls : Array Slot} {st : List Value} {q : zx_K} {b : Bool}
theorem zx_in {i : Int32} {n : Nat} (h : ¬ (i < 0 ∨ n ≤ i.toNatClampNeg)) : vp_in i n := h
theorem zx_u_in {ci : Nat} {v : vw_C} (hq : zx_FOK ci v) : ∀ w ∈ u_ws v.1 v.2.1 v.2.2, w ∈ zx_B := by
  intro w hw
  unfold u_ws at hw
  obtain ⟨k, hk, rfl⟩ := List.mem_map.mp hw
  exact hq.2.2.1 k (List.mem_range.mp hk)
theorem zs_gf (ho : row.2.2.2.2.1 = o) (X : zx_X p R s m args meth c row D κ A d) (Y : zx_Y s row D κ A ρ h H locs L ls) (hdg : decode row.2.1 pc = .ok (.getfield ix, 3)) (hst : zx_gf o ix pc L st h = some q) (G : zx_G p l e R s m args below meth c Q row D κ A cells slots h.1.length ρ q) : W p l e R s m args below meth c H locs cells slots Q (F0 m pc ls (st.map (zx_v ρ))) := by
  obtain ⟨hx, hb, hml, hown, hnm, hts, hK, hA, hRf, hRl, hM⟩ := X
  obtain ⟨hP, hD, hS, hZ, hl, hLn⟩ := id Y
  have hcl : row.1.cls = zx_on o := hM.2.2.2.1.trans (by rw [ho])
  rw [hcl] at hown
  cases st with
  | nil => simp [zx_gf] at hst
  | cons v r =>
    cases v with
    | ref q0 =>
      simp only [zx_gf] at hst
      cases hf : zx_find (zx_flt o) ix with
      | none => rw [hf] at hst; simp at hst
      | some e0 =>
        obtain ⟨ci, k⟩ := e0
        rw [hf] at hst
        simp only [zx_nth_get] at hst
        cases hs : h.1[q0]? with
        | none => rw [hs] at hst; simp at hst
        | some sh =>
          rw [hs] at hst
          obtain ⟨cj, rs⟩ | z := sh
          · simp only at hst
            cases hbq : Nat.beq ci cj with
            | false => rw [hbq] at hst; simp at hst
            | true =>
              have hij := Nat.eq_of_beq_eq_true hbq
              subst hij
              rw [hbq] at hst
              simp only [cond_true] at hst
              obtain ⟨v, hv1, hv2, hv3⟩ := zx_fl_ok o _ (zx_find_mem hf)
              have hF := zx_fok hv1
              obtain ⟨C, T, n⟩ := v
              have hg : ∀ w : Value, (zx_f ρ (h.2.1 q0) 0 rs)[k]? = some w → W p l e R s m args below meth c H locs cells slots Q (F0 m (pc + 3) ls (w :: r.map (zx_v ρ))) → W p l e R s m args below meth c H locs cells slots Q (F0 m pc ls (.ref (ρ q0) :: r.map (zx_v ρ))) := fun w hw kk =>
                va_get (D := D) (C := C) (T := T) (N := n) (ref := C) hx hb hts (zx_u_in hF) hown hK hP q0 (zx_w_obj hs) hv1 k hv2 (hts _ hv3) (fun x hx2 => by have e1 := hF.2.2.2.1 k; simp only at e1; rw [e1] at hx2; exact hx2) hw hdg kk
              cases hr : rs[k]? with
              | none => rw [hr] at hst; simp at hst
              | some oo =>
                rw [hr] at hst
                cases oo with
                | none =>
                  simp only [Option.some.injEq] at hst
                  subst hst
                  exact hg (.int (h.2.1 q0 k)) (by rw [zx_f_get, hr]; simp [zx_fo]) (zx_G_same G Y)
                | some o2 =>
                  cases o2 with
                  | none =>
                    simp only [Option.some.injEq] at hst
                    subst hst
                    exact hg .null (by rw [zx_f_get, hr]; simp [zx_fo]) (zx_G_same G Y)
                  | some t =>
                    simp only [Option.some.injEq] at hst
                    subst hst
                    exact hg (.ref (ρ t)) (by rw [zx_f_get, hr]; simp [zx_fo]) (zx_G_same G Y)
          · simp at hst
    | _ => simp [zx_gf] at hst
theorem zx_nar {t : FieldType} {x : Int32} (ht : t = .int ∨ (t = .boolean ∧ (x = 0 ∨ x = 1))) : narrow t (.int x) = .int x ∧ fits t (.int x) = true := by
  rcases ht with rfl | ⟨rfl, rfl | rfl⟩
  · exact ⟨rfl, rfl⟩
  · exact ⟨rfl, rfl⟩
  · exact ⟨rfl, rfl⟩
theorem zs_pf1 {q0 ci k : Nat} {x : Int32} {r : List Value} {rs : List (Option (Option Nat))} (ho : row.2.2.2.2.1 = o) (X : zx_X p R s m args meth c row D κ A d) (Y : zx_Y s row D κ A ρ h H locs L ls) (hdg : decode row.2.1 pc = .ok (.putfield ix, 3)) (hf : zx_find (zx_flt o) ix = some (ci, k)) (hs : h.1[q0]? = some (.inl (ci, rs))) (hr : rs[k]? = some none) (hmay : zx_mayf o (decide (row.1.name = "<init>")) ci k = true) (hty : zx_ty ci k = .int ∨ (zx_ty ci k = .boolean ∧ (x = 0 ∨ x = 1))) (G : zx_G p l e R s m args below meth c Q row D κ A cells slots h.1.length ρ (pc + 3, L, r, (h.1, zx_u1 h.2 q0 k x))) : W p l e R s m args below meth c H locs cells slots Q (F0 m pc ls ((.int x :: .ref q0 :: r : List Value).map (zx_v ρ))) := by
  obtain ⟨hx, hb, hml, hown, hnm, hts, hK, hA, hRf, hRl, hM⟩ := X
  obtain ⟨hP, hD, hS, hZ, hl, hLn⟩ := id Y
  have hcl : row.1.cls = zx_on o := hM.2.2.2.1.trans (by rw [ho])
  rw [hcl] at hown
  obtain ⟨v, hv1, hv2, hv3⟩ := zx_fl_ok o _ (zx_find_mem hf)
  have hF := zx_fok hv1
  obtain ⟨C, T, n⟩ := v
  have hsame : ∀ y, s.fieldFound? (T k).1 (T k).2.1 (T k).2.2.1 = some y → s.fieldFound? C (T k).2.1 (T k).2.2.1 = some y := fun y hy => by have e1 := hF.2.2.2.1 k; simp only at e1; rw [e1] at hy; exact hy
  have hl2 : k < (zx_f ρ (h.2.1 q0) 0 rs).length := by rw [zx_f_len]; exact (List.getElem?_eq_some_iff.mp hr).1
  obtain ⟨hn1, hn2⟩ := zx_nar hty
  have kk : ∀ (H1 : Heap) (locs1 : List Loc), va_P D vwCl ((zx_w ρ κ h.2 0 h.1).set q0 (ρ q0, .inr (ci, (zx_f ρ (h.2.1 q0) 0 rs).set k (.int x)))) H1 → va_D A ((zx_w ρ κ h.2 0 h.1).set q0 (ρ q0, .inr (ci, (zx_f ρ (h.2.1 q0) 0 rs).set k (.int x)))) → va_S A s.heap H1 locs1 → W p l e R s m args below meth c H1 locs1 cells slots Q (F0 m (pc + 3) ls (r.map (zx_v ρ))) := fun H1 locs1 a1 a2 a3 => by
    rw [zx_w_pf hs hr] at a1 a2
    exact G ρ H1 locs1 ls zx_ag.rf ⟨a1, a2, a3, hZ, hl, hLn⟩
  have hfin := hF.2.2.2.2.1 k
  have hpd := hF.2.2.2.2.2.1 k hv2
  cases hfn : zx_fin ci k with
  | false =>
    rw [hfn] at hfin
    exact va_put (D := D) (C := C) (T := T) (N := n) (ref := C) hx hb hts (zx_u_in hF) (zx_ty ci) hF.2.2.2.2.2.1 hF.2.2.2.2.2.2.1 hown hK hP hD hS q0 (zx_w_obj hs) hv1 k hv2 (hts _ hv3) hsame hfin.symm hpd hn1 hn2 hl2 hdg kk
  | true =>
    rw [hfn] at hfin
    unfold zx_mayf at hmay
    rw [hfn] at hmay
    simp only [cond_true, Bool.and_eq_true, decide_eq_true_eq] at hmay
    have hoc := Nat.eq_of_beq_eq_true hmay.2
    exact va_putF (D := D) (C := C) (T := T) (N := n) (ref := C) hx hb hts (zx_u_in hF) (zx_ty ci) hF.2.2.2.2.2.1 hF.2.2.2.2.2.2.1 hown hK hP hD hS q0 (zx_w_obj hs) hv1 k hv2 (hts _ hv3) hsame hfin.symm (hnm.trans hmay.1) (by have e1 := hF.2.2.2.1 k; have e2 := hF.2.1; simp only at e1 e2; rw [e1, e2, hoc]) hpd hn1 hn2 hl2 hdg kk
theorem zs_pf2 {q0 ci k t : Nat} {oo : Option Nat} {r : List Value} {rs : List (Option (Option Nat))} (ho : row.2.2.2.2.1 = o) (X : zx_X p R s m args meth c row D κ A d) (Y : zx_Y s row D κ A ρ h H locs L ls) (hdg : decode row.2.1 pc = .ok (.putfield ix, 3)) (hf : zx_find (zx_flt o) ix = some (ci, k)) (hs : h.1[q0]? = some (.inl (ci, rs))) (hr : rs[k]? = some (some oo)) (hmay : zx_mayf o (decide (row.1.name = "<init>")) ci k = true) (hty : (∃ z, zx_ty ci k = .object z) ∨ (∃ z, zx_ty ci k = .array z)) (G : zx_G p l e R s m args below meth c Q row D κ A cells slots h.1.length ρ (pc + 3, L, r, (h.1.set q0 (.inl (ci, rs.set k (some (some t)))), h.2))) : W p l e R s m args below meth c H locs cells slots Q (F0 m pc ls ((.ref t :: .ref q0 :: r : List Value).map (zx_v ρ))) := by
  obtain ⟨hx, hb, hml, hown, hnm, hts, hK, hA, hRf, hRl, hM⟩ := X
  obtain ⟨hP, hD, hS, hZ, hl, hLn⟩ := id Y
  have hcl : row.1.cls = zx_on o := hM.2.2.2.1.trans (by rw [ho])
  rw [hcl] at hown
  obtain ⟨v, hv1, hv2, hv3⟩ := zx_fl_ok o _ (zx_find_mem hf)
  have hF := zx_fok hv1
  obtain ⟨C, T, n⟩ := v
  have hsame : ∀ y, s.fieldFound? (T k).1 (T k).2.1 (T k).2.2.1 = some y → s.fieldFound? C (T k).2.1 (T k).2.2.1 = some y := fun y hy => by have e1 := hF.2.2.2.1 k; simp only at e1; rw [e1] at hy; exact hy
  have hl2 : k < (zx_f ρ (h.2.1 q0) 0 rs).length := by rw [zx_f_len]; exact (List.getElem?_eq_some_iff.mp hr).1
  have hn : narrow (zx_ty ci k) (.ref (ρ t)) = .ref (ρ t) ∧ fits (zx_ty ci k) (.ref (ρ t)) = true := by
    rcases hty with ⟨z, hz⟩ | ⟨z, hz⟩
    · rw [hz]; exact ⟨rfl, rfl⟩
    · rw [hz]; exact ⟨rfl, rfl⟩
  have kk : ∀ (H1 : Heap) (locs1 : List Loc), va_P D vwCl ((zx_w ρ κ h.2 0 h.1).set q0 (ρ q0, .inr (ci, (zx_f ρ (h.2.1 q0) 0 rs).set k (.ref (ρ t))))) H1 → va_D A ((zx_w ρ κ h.2 0 h.1).set q0 (ρ q0, .inr (ci, (zx_f ρ (h.2.1 q0) 0 rs).set k (.ref (ρ t))))) → va_S A s.heap H1 locs1 → W p l e R s m args below meth c H1 locs1 cells slots Q (F0 m (pc + 3) ls (r.map (zx_v ρ))) := fun H1 locs1 a1 a2 a3 => by
    rw [zx_w_pr hs hr] at a1 a2
    exact G ρ H1 locs1 ls zx_ag.rf ⟨a1, a2, a3, hZ, hl, hLn⟩
  have hfin := hF.2.2.2.2.1 k
  have hpd := hF.2.2.2.2.2.1 k hv2
  cases hfn : zx_fin ci k with
  | false =>
    rw [hfn] at hfin
    exact va_put (D := D) (C := C) (T := T) (N := n) (ref := C) hx hb hts (zx_u_in hF) (zx_ty ci) hF.2.2.2.2.2.1 hF.2.2.2.2.2.2.1 hown hK hP hD hS q0 (zx_w_obj hs) hv1 k hv2 (hts _ hv3) hsame hfin.symm hpd hn.1 hn.2 hl2 hdg kk
  | true =>
    rw [hfn] at hfin
    unfold zx_mayf at hmay
    rw [hfn] at hmay
    simp only [cond_true, Bool.and_eq_true, decide_eq_true_eq] at hmay
    have hoc := Nat.eq_of_beq_eq_true hmay.2
    exact va_putF (D := D) (C := C) (T := T) (N := n) (ref := C) hx hb hts (zx_u_in hF) (zx_ty ci) hF.2.2.2.2.2.1 hF.2.2.2.2.2.2.1 hown hK hP hD hS q0 (zx_w_obj hs) hv1 k hv2 (hts _ hv3) hsame hfin.symm (hnm.trans hmay.1) (by have e1 := hF.2.2.2.1 k; have e2 := hF.2.1; simp only at e1 e2; rw [e1, e2, hoc]) hpd hn.1 hn.2 hl2 hdg kk
theorem zs_pf (ho : row.2.2.2.2.1 = o) (X : zx_X p R s m args meth c row D κ A d) (Y : zx_Y s row D κ A ρ h H locs L ls) (hdg : decode row.2.1 pc = .ok (.putfield ix, 3)) (hst : zx_pf o (decide (row.1.name = "<init>")) ix pc L st h = some q) (hKc : cells + q.2.2.2.1.length = K + h.1.length) (hNc : slots + zx_sz q.2.2.2.1 = N + zx_sz h.1) (G : zx_G p l e R s m args below meth c Q row D κ A K N h.1.length ρ q) : W p l e R s m args below meth c H locs cells slots Q (F0 m pc ls (st.map (zx_v ρ))) := by
  cases st with
  | nil => simp [zx_pf] at hst
  | cons v r =>
    cases r with
    | nil => cases v <;> simp [zx_pf] at hst
    | cons w r =>
      cases w with
      | ref q0 =>
        cases v with
        | int x =>
          simp only [zx_pf] at hst
          cases hf : zx_find (zx_flt o) ix with
          | none => rw [hf] at hst; simp at hst
          | some e0 =>
            obtain ⟨ci, k⟩ := e0
            rw [hf] at hst
            simp only [zx_nth_get] at hst
            cases hs : h.1[q0]? with
            | none => rw [hs] at hst; simp at hst
            | some sh =>
              rw [hs] at hst
              obtain ⟨cj, rs⟩ | z := sh
              · simp only at hst
                cases hbq : (Nat.beq ci cj && zx_mayf o (decide (row.1.name = "<init>")) ci k) with
                | false => rw [hbq] at hst; simp at hst
                | true =>
                  rw [hbq] at hst
                  rw [Bool.and_eq_true] at hbq
                  have hij := Nat.eq_of_beq_eq_true hbq.1
                  subst hij
                  simp only [cond_true] at hst
                  cases hr : rs[k]? with
                  | none => rw [hr] at hst; simp at hst
                  | some oo =>
                    rw [hr] at hst
                    cases oo with
                    | some o2 => simp at hst
                    | none =>
                      simp only at hst
                      cases hty : zx_ty ci k with
                      | int =>
                        rw [hty] at hst
                        simp only [Option.some.injEq] at hst
                        subst hst
                        simp only at hKc hNc
                        have e1 : K = cells := by omega
                        have e2 : N = slots := by omega
                        subst e1 e2
                        exact zs_pf1 ho X Y hdg hf hs hr hbq.2 (Or.inl hty) G
                      | boolean =>
                        rw [hty] at hst
                        simp only at hst
                        by_cases hx01 : x = 0 ∨ x = 1
                        · rw [if_pos hx01] at hst
                          simp only [Option.some.injEq] at hst
                          subst hst
                          simp only at hKc hNc
                          have e1 : K = cells := by omega
                          have e2 : N = slots := by omega
                          subst e1 e2
                          exact zs_pf1 ho X Y hdg hf hs hr hbq.2 (Or.inr ⟨hty, hx01⟩) G
                        · rw [if_neg hx01] at hst; simp at hst
                      | _ => rw [hty] at hst; simp at hst
              · simp at hst
        | ref t =>
          simp only [zx_pf] at hst
          cases hf : zx_find (zx_flt o) ix with
          | none => rw [hf] at hst; simp at hst
          | some e0 =>
            obtain ⟨ci, k⟩ := e0
            rw [hf] at hst
            simp only [zx_nth_get] at hst
            cases hs : h.1[q0]? with
            | none => rw [hs] at hst; simp at hst
            | some sh =>
              rw [hs] at hst
              obtain ⟨cj, rs⟩ | z := sh
              · simp only at hst
                cases hbq : (Nat.beq ci cj && zx_mayf o (decide (row.1.name = "<init>")) ci k) with
                | false => rw [hbq] at hst; simp at hst
                | true =>
                  rw [hbq] at hst
                  rw [Bool.and_eq_true] at hbq
                  have hij := Nat.eq_of_beq_eq_true hbq.1
                  subst hij
                  simp only [cond_true] at hst
                  cases hr : rs[k]? with
                  | none => rw [hr] at hst; simp at hst
                  | some oo =>
                    rw [hr] at hst
                    cases oo with
                    | none => simp at hst
                    | some o2 =>
                      simp only [zx_put_set] at hst
                      cases hty : zx_ty ci k with
                      | object z =>
                        rw [hty] at hst
                        simp only [Option.some.injEq] at hst
                        subst hst
                        simp only [List.length_set] at hKc
                        simp only [zx_sz_set hs (List.length_set)] at hNc
                        have e1 : K = cells := by omega
                        have e2 : N = slots := by omega
                        subst e1 e2
                        exact zs_pf2 ho X Y hdg hf hs hr hbq.2 (Or.inl ⟨z, hty⟩) G
                      | array z =>
                        rw [hty] at hst
                        simp only [Option.some.injEq] at hst
                        subst hst
                        simp only [List.length_set] at hKc
                        simp only [zx_sz_set hs (List.length_set)] at hNc
                        have e1 : K = cells := by omega
                        have e2 : N = slots := by omega
                        subst e1 e2
                        exact zs_pf2 ho X Y hdg hf hs hr hbq.2 (Or.inr ⟨z, hty⟩) G
                      | _ => rw [hty] at hst; simp at hst
              · simp at hst
        | _ => simp [zx_pf] at hst
      | _ => cases v <;> simp [zx_pf] at hst
end ZX

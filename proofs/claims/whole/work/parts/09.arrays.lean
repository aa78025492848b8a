/-! arrays, statics, makings, members of the library -/
section ZX
variable {p : Program} {l : Launch} {e : Env} {R : Room} {s : State} {m : MethodId} {args : Array Value} {below : List Frame} {meth : Method} {c : Code} {H : Heap} {locs : List Loc} {cells slots : Nat} {Q : State → Prop}
variable {row : zx_T} {D : va_G} {κ : Nat → ClassId} {A : Nat → Prop} {d o pc K N ix : Nat} {ρ : Nat → Nat} {h : zx_H} {L : zx_L} {ls : Array Slot} {st : List Value} {q : zx_K} {b : Bool}
theorem zx_sn_sa {k : Nat} {l : List Int32} (h : zx_sa[k]? = some l) : ∃ q, zx_sn[k]? = some q := by
  have hk : k < 4 := (List.getElem?_eq_some_iff.mp h).1
  exact ⟨zx_sn[k]'hk, List.getElem?_eq_getElem hk⟩
theorem zs_aln (X : zx_X p R s m args meth c row D κ A d) (Y : zx_Y s row D κ A ρ h H locs L ls) (hdg : decode row.2.1 pc = .ok (.arraylength, 1)) (hst : zx_aln pc L st h = some q) (G : zx_G p l e R s m args below meth c Q row D κ A cells slots h.1.length ρ q) : W p l e R s m args below meth c H locs cells slots Q (F0 m pc ls (st.map (zx_v ρ))) := by
  obtain ⟨hx, hb, hml, hown, hnm, hts, hK, hA, hRf, hRl, hM⟩ := X
  obtain ⟨hP, hD, hS, hZ, hl, hLn⟩ := id Y
  cases st with
  | nil => simp [zx_aln] at hst
  | cons v r =>
    cases v with
    | ref q0 =>
      simp only [zx_aln] at hst
      cases hlt : Nat.blt q0 1000 with
      | true =>
        rw [hlt] at hst
        simp only [cond_true, zx_nth_get] at hst
        cases hs : h.1[q0]? with
        | none => rw [hs] at hst; simp at hst
        | some sh =>
          rw [hs] at hst
          obtain ⟨cj, rs⟩ | ⟨kk, n⟩ := sh
          · simp at hst
          · simp only at hst
            cases h3 : Nat.blt kk 3 with
            | false => rw [h3] at hst; simp at hst
            | true =>
              rw [h3] at hst
              simp only [cond_true, Option.some.injEq] at hst
              subst hst
              have hw := zx_w_at (ρ := ρ) (κ := κ) (m := h.2) hs
              have h2 := Nat.blt_eq.mp h3
              have hcase : kk = 0 ∨ kk = 1 ∨ kk = 2 := by omega
              rcases hcase with rfl | rfl | rfl
              · exact va_alen (D := D) (tys := zx_tys κ) hx hb hK hP q0 0 hw rfl rfl hdg (zx_G_same G Y)
              · exact va_alen (D := D) (tys := zx_tys κ) hx hb hK hP q0 1 hw rfl rfl hdg (zx_G_same G Y)
              · exact va_alen (D := D) (tys := zx_tys κ) hx hb hK hP q0 2 hw rfl rfl hdg (zx_G_same G Y)
      | false =>
        rw [hlt] at hst
        obtain ⟨sa, hsa⟩ : ∃ z, z = zx_sa := ⟨_, rfl⟩
        rw [← hsa] at hst
        simp only [cond_false, zx_nth_get] at hst
        cases hs : sa[q0 - 1000]? with
        | none => rw [hs] at hst; simp at hst
        | some li =>
          rw [hs] at hst
          simp only [Option.some.injEq] at hst
          subst hst
          rw [hsa] at hs
          obtain ⟨qn, hqn⟩ := zx_sn_sa hs
          have hT := (hZ.1 (q0 - 1000) qn li hqn hs).2
          have hge : 1000 ≤ q0 := Nat.not_lt.mp (fun z => by rw [Nat.blt_eq.mpr z] at hlt; cases hlt)
          rw [Nat.add_sub_cancel' hge] at hT
          exact va_tlen hx hb hT hS rfl hdg (zx_G_same G Y)
    | _ => simp [zx_aln] at hst
theorem zs_ild0 (X : zx_X p R s m args meth c row D κ A d) (Y : zx_Y s row D κ A ρ h H locs L ls) (hdg : decode row.2.1 pc = .ok (.iaload, 1)) (hst : zx_ild 0 pc L st h = some q) (G : zx_G p l e R s m args below meth c Q row D κ A cells slots h.1.length ρ q) : W p l e R s m args below meth c H locs cells slots Q (F0 m pc ls (st.map (zx_v ρ))) := by
  obtain ⟨hx, hb, hml, hown, hnm, hts, hK, hA, hRf, hRl, hM⟩ := X
  obtain ⟨hP, hD, hS, hZ, hl, hLn⟩ := id Y
  cases st with
  | nil => simp [zx_ild] at hst
  | cons v r =>
    cases r with
    | nil => cases v <;> simp [zx_ild] at hst
    | cons w r =>
      cases v with
      | int i =>
        cases w with
        | ref q0 =>
          simp only [zx_ild] at hst
          cases hlt : Nat.blt q0 1000 with
          | true =>
            rw [hlt] at hst
            simp only [cond_true, zx_nth_get] at hst
            cases hs : h.1[q0]? with
            | none => rw [hs] at hst; simp at hst
            | some sh =>
              rw [hs] at hst
              obtain ⟨cj, rs⟩ | ⟨kk, n⟩ := sh
              · simp at hst
              · simp only at hst
                cases hbk : Nat.beq kk 0 with
                | false => rw [hbk] at hst; simp at hst
                | true =>
                  have hkk := Nat.eq_of_beq_eq_true hbk
                  subst hkk
                  rw [hbk] at hst
                  simp only [cond_true] at hst
                  by_cases hi : i < 0 ∨ n ≤ i.toNatClampNeg
                  · rw [if_pos hi] at hst; simp at hst
                  · rw [if_neg hi] at hst
                    simp only [Option.some.injEq] at hst
                    subst hst
                    exact va_iald (D := D) (tys := zx_tys κ) hx hb hK hP q0 0 (zx_w_int (by decide) hs) rfl (zx_in hi) hdg (zx_G_same G Y)
          | false =>
            rw [hlt] at hst
            obtain ⟨sa, hsa⟩ : ∃ z, z = zx_sa := ⟨_, rfl⟩
            rw [← hsa] at hst
            simp only [cond_false, Nat.beq_refl, cond_true, zx_nth_get] at hst
            cases hs : sa[q0 - 1000]? with
            | none => rw [hs] at hst; simp at hst
            | some li =>
              rw [hs] at hst
              simp only at hst
              by_cases hi : i < 0 ∨ li.length ≤ i.toNatClampNeg
              · rw [if_pos hi] at hst; simp at hst
              · rw [if_neg hi] at hst
                simp only [Option.some.injEq] at hst
                subst hst
                rw [hsa] at hs
                obtain ⟨qn, hqn⟩ := zx_sn_sa hs
                have hT := (hZ.1 (q0 - 1000) qn li hqn hs).2
                have hge : 1000 ≤ q0 := Nat.not_lt.mp (fun z => by rw [Nat.blt_eq.mpr z] at hlt; cases hlt)
                rw [Nat.add_sub_cancel' hge] at hT
                exact va_ti hx hb hT hS (zx_in hi) rfl hdg (zx_G_same G Y)
        | _ => simp [zx_ild] at hst
      | _ => simp [zx_ild] at hst
theorem zs_ild2 (X : zx_X p R s m args meth c row D κ A d) (Y : zx_Y s row D κ A ρ h H locs L ls) (hdg : decode row.2.1 pc = .ok (.baload, 1)) (hst : zx_ild 2 pc L st h = some q) (G : zx_G p l e R s m args below meth c Q row D κ A cells slots h.1.length ρ q) : W p l e R s m args below meth c H locs cells slots Q (F0 m pc ls (st.map (zx_v ρ))) := by
  obtain ⟨hx, hb, hml, hown, hnm, hts, hK, hA, hRf, hRl, hM⟩ := X
  obtain ⟨hP, hD, hS, hZ, hl, hLn⟩ := id Y
  cases st with
  | nil => simp [zx_ild] at hst
  | cons v r =>
    cases r with
    | nil => cases v <;> simp [zx_ild] at hst
    | cons w r =>
      cases v with
      | int i =>
        cases w with
        | ref q0 =>
          simp only [zx_ild] at hst
          cases hlt : Nat.blt q0 1000 with
          | true =>
            rw [hlt] at hst
            simp only [cond_true, zx_nth_get] at hst
            cases hs : h.1[q0]? with
            | none => rw [hs] at hst; simp at hst
            | some sh =>
              rw [hs] at hst
              obtain ⟨cj, rs⟩ | ⟨kk, n⟩ := sh
              · simp at hst
              · simp only at hst
                cases hbk : Nat.beq kk 2 with
                | false => rw [hbk] at hst; simp at hst
                | true =>
                  have hkk := Nat.eq_of_beq_eq_true hbk
                  subst hkk
                  rw [hbk] at hst
                  simp only [cond_true] at hst
                  by_cases hi : i < 0 ∨ n ≤ i.toNatClampNeg
                  · rw [if_pos hi] at hst; simp at hst
                  · rw [if_neg hi] at hst
                    simp only [Option.some.injEq] at hst
                    subst hst
                    exact va_zald (D := D) (tys := zx_tys κ) hx hb hK hP q0 2 (zx_w_int (by decide) hs) rfl (zx_in hi) hdg (zx_G_same G Y)
          | false =>
            rw [hlt] at hst
            have h20 : Nat.beq 2 0 = false := rfl
            rw [h20] at hst
            simp only [cond_false] at hst
            simp at hst
        | _ => simp [zx_ild] at hst
      | _ => simp [zx_ild] at hst
theorem zs_lld (X : zx_X p R s m args meth c row D κ A d) (Y : zx_Y s row D κ A ρ h H locs L ls) (hdg : decode row.2.1 pc = .ok (.laload, 1)) (hst : zx_lld pc L st h = some q) (G : zx_G p l e R s m args below meth c Q row D κ A cells slots h.1.length ρ q) : W p l e R s m args below meth c H locs cells slots Q (F0 m pc ls (st.map (zx_v ρ))) := by
  obtain ⟨hx, hb, hml, hown, hnm, hts, hK, hA, hRf, hRl, hM⟩ := X
  obtain ⟨hP, hD, hS, hZ, hl, hLn⟩ := id Y
  cases st with
  | nil => simp [zx_lld] at hst
  | cons v r =>
    cases r with
    | nil => cases v <;> simp [zx_lld] at hst
    | cons w r =>
      cases v with
      | int i =>
        cases w with
        | ref q0 =>
          simp only [zx_lld, zx_nth_get] at hst
          cases hs : h.1[q0]? with
          | none => rw [hs] at hst; simp at hst
          | some sh =>
            rw [hs] at hst
            obtain ⟨cj, rs⟩ | ⟨kk, n⟩ := sh
            · simp at hst
            · simp only at hst
              cases hbk : Nat.beq kk 1 with
              | false => rw [hbk] at hst; simp at hst
              | true =>
                have hkk := Nat.eq_of_beq_eq_true hbk
                subst hkk
                rw [hbk] at hst
                simp only [cond_true] at hst
                by_cases hi : i < 0 ∨ n ≤ i.toNatClampNeg
                · rw [if_pos hi] at hst; simp at hst
                · rw [if_neg hi] at hst
                  simp only [Option.some.injEq] at hst
                  subst hst
                  exact va_lald (D := D) (tys := zx_tys κ) hx hb hK hP q0 1 (zx_w_lon hs) rfl (zx_in hi) hdg (zx_G_same G Y)
        | _ => simp [zx_lld] at hst
      | _ => simp [zx_lld] at hst
theorem zs_ist (X : zx_X p R s m args meth c row D κ A d) (Y : zx_Y s row D κ A ρ h H locs L ls) (hdg : decode row.2.1 pc = .ok (.iastore, 1)) (hst : zx_ist pc L st h = some q) (G : zx_G p l e R s m args below meth c Q row D κ A cells slots h.1.length ρ q) : W p l e R s m args below meth c H locs cells slots Q (F0 m pc ls (st.map (zx_v ρ))) := by
  obtain ⟨hx, hb, hml, hown, hnm, hts, hK, hA, hRf, hRl, hM⟩ := X
  obtain ⟨hP, hD, hS, hZ, hl, hLn⟩ := id Y
  cases st with
  | nil => simp [zx_ist] at hst
  | cons v r =>
    cases r with
    | nil => cases v <;> simp [zx_ist] at hst
    | cons w r =>
      cases r with
      | nil => cases v <;> cases w <;> simp [zx_ist] at hst
      | cons z r =>
        cases v with
        | int x =>
          cases w with
          | int i =>
            cases z with
            | ref q0 =>
              simp only [zx_ist, zx_nth_get] at hst
              cases hs : h.1[q0]? with
              | none => rw [hs] at hst; simp at hst
              | some sh =>
                rw [hs] at hst
                obtain ⟨cj, rs⟩ | ⟨kk, n⟩ := sh
                · simp at hst
                · simp only at hst
                  cases hbk : Nat.beq kk 0 with
                  | false => rw [hbk] at hst; simp at hst
                  | true =>
                    have hkk := Nat.eq_of_beq_eq_true hbk
                    subst hkk
                    rw [hbk] at hst
                    simp only [cond_true] at hst
                    by_cases hi : i < 0 ∨ n ≤ i.toNatClampNeg
                    · rw [if_pos hi] at hst; simp at hst
                    rw [if_neg hi] at hst
                    simp only [Option.some.injEq] at hst
                    subst hst
                    refine va_iast (D := D) (tys := zx_tys κ) hx hb hK hP hD hS q0 0 (zx_w_int (by decide) hs) rfl (zx_in hi) hdg (fun H1 locs1 a1 a2 a3 => ?_)
                    rw [zx_w_ri (by decide) hs] at a1 a2
                    exact G ρ H1 locs1 ls zx_ag.rf ⟨a1, a2, a3, hZ, hl, hLn⟩
            | _ => simp [zx_ist] at hst
          | _ => simp [zx_ist] at hst
        | _ => simp [zx_ist] at hst
theorem zx_narb {x : Int32} (h : x = 0 ∨ x = 1) : vp_nar .boolean x = x := by
  rcases h with rfl | rfl <;> rfl
theorem zs_zst (X : zx_X p R s m args meth c row D κ A d) (Y : zx_Y s row D κ A ρ h H locs L ls) (hdg : decode row.2.1 pc = .ok (.bastore, 1)) (hst : zx_zst pc L st h = some q) (G : zx_G p l e R s m args below meth c Q row D κ A cells slots h.1.length ρ q) : W p l e R s m args below meth c H locs cells slots Q (F0 m pc ls (st.map (zx_v ρ))) := by
  obtain ⟨hx, hb, hml, hown, hnm, hts, hK, hA, hRf, hRl, hM⟩ := X
  obtain ⟨hP, hD, hS, hZ, hl, hLn⟩ := id Y
  cases st with
  | nil => simp [zx_zst] at hst
  | cons v r =>
    cases r with
    | nil => cases v <;> simp [zx_zst] at hst
    | cons w r =>
      cases r with
      | nil => cases v <;> cases w <;> simp [zx_zst] at hst
      | cons z r =>
        cases v with
        | int x =>
          cases w with
          | int i =>
            cases z with
            | ref q0 =>
              simp only [zx_zst, zx_nth_get] at hst
              cases hs : h.1[q0]? with
              | none => rw [hs] at hst; simp at hst
              | some sh =>
                rw [hs] at hst
                obtain ⟨cj, rs⟩ | ⟨kk, n⟩ := sh
                · simp at hst
                · simp only at hst
                  cases hbk : Nat.beq kk 2 with
                  | false => rw [hbk] at hst; simp at hst
                  | true =>
                    have hkk := Nat.eq_of_beq_eq_true hbk
                    subst hkk
                    rw [hbk] at hst
                    simp only [cond_true] at hst
                    by_cases hi : i < 0 ∨ n ≤ i.toNatClampNeg
                    · rw [if_pos hi] at hst; simp at hst
                    rw [if_neg hi] at hst
                    by_cases hx01 : x = 0 ∨ x = 1
                    · rw [if_pos hx01] at hst
                      simp only [Option.some.injEq] at hst
                      subst hst
                      refine va_zast (D := D) (tys := zx_tys κ) hx hb hK hP hD hS q0 2 (zx_w_int (by decide) hs) rfl (zx_in hi) hdg (fun H1 locs1 a1 a2 a3 => ?_)
                      rw [zx_narb hx01] at a1 a2
                      rw [zx_w_ri (by decide) hs] at a1 a2
                      exact G ρ H1 locs1 ls zx_ag.rf ⟨a1, a2, a3, hZ, hl, hLn⟩
                    · rw [if_neg hx01] at hst; simp at hst
            | _ => simp [zx_zst] at hst
          | _ => simp [zx_zst] at hst
        | _ => simp [zx_zst] at hst
theorem zs_lst (X : zx_X p R s m args meth c row D κ A d) (Y : zx_Y s row D κ A ρ h H locs L ls) (hdg : decode row.2.1 pc = .ok (.lastore, 1)) (hst : zx_lst pc L st h = some q) (G : zx_G p l e R s m args below meth c Q row D κ A cells slots h.1.length ρ q) : W p l e R s m args below meth c H locs cells slots Q (F0 m pc ls (st.map (zx_v ρ))) := by
  obtain ⟨hx, hb, hml, hown, hnm, hts, hK, hA, hRf, hRl, hM⟩ := X
  obtain ⟨hP, hD, hS, hZ, hl, hLn⟩ := id Y
  cases st with
  | nil => simp [zx_lst] at hst
  | cons v r =>
    cases r with
    | nil => cases v <;> simp [zx_lst] at hst
    | cons w r =>
      cases r with
      | nil => cases v <;> cases w <;> simp [zx_lst] at hst
      | cons z r =>
        cases v with
        | long x =>
          cases w with
          | int i =>
            cases z with
            | ref q0 =>
              simp only [zx_lst, zx_nth_get] at hst
              cases hs : h.1[q0]? with
              | none => rw [hs] at hst; simp at hst
              | some sh =>
                rw [hs] at hst
                obtain ⟨cj, rs⟩ | ⟨kk, n⟩ := sh
                · simp at hst
                · simp only at hst
                  cases hbk : Nat.beq kk 1 with
                  | false => rw [hbk] at hst; simp at hst
                  | true =>
                    have hkk := Nat.eq_of_beq_eq_true hbk
                    subst hkk
                    rw [hbk] at hst
                    simp only [cond_true] at hst
                    by_cases hi : i < 0 ∨ n ≤ i.toNatClampNeg
                    · rw [if_pos hi] at hst; simp at hst
                    rw [if_neg hi] at hst
                    simp only [Option.some.injEq] at hst
                    subst hst
                    refine va_last (D := D) (tys := zx_tys κ) hx hb hK hP hD hS q0 1 (zx_w_lon hs) rfl (zx_in hi) hdg (fun H1 locs1 a1 a2 a3 => ?_)
                    rw [zx_w_rl hs] at a1 a2
                    exact G ρ H1 locs1 ls zx_ag.rf ⟨a1, a2, a3, hZ, hl, hLn⟩
            | _ => simp [zx_lst] at hst
          | _ => simp [zx_lst] at hst
        | _ => simp [zx_lst] at hst
theorem zs_gs (ho : row.2.2.2.2.1 = o) (X : zx_X p R s m args meth c row D κ A d) (Y : zx_Y s row D κ A ρ h H locs L ls) (hdg : decode row.2.1 pc = .ok (.getstatic ix, 3)) (hst : (match zx_find (zx_slt o) ix with
    | some k => some (pc + 3, L, .ref (1000 + k) :: st, h)
    | none => none) = some q) (G : zx_G p l e R s m args below meth c Q row D κ A cells slots h.1.length ρ q) : W p l e R s m args below meth c H locs cells slots Q (F0 m pc ls (st.map (zx_v ρ))) := by
  obtain ⟨hx, hb, hml, hown, hnm, hts, hK, hA, hRf, hRl, hM⟩ := X
  obtain ⟨hP, hD, hS, hZ, hl, hLn⟩ := id Y
  have hcl : row.1.cls = zx_on o := hM.2.2.2.1.trans (by rw [ho])
  rw [hcl] at hown
  cases hf : zx_find (zx_slt o) ix with
  | none => rw [hf] at hst; simp at hst
  | some k =>
    rw [hf] at hst
    simp only [Option.some.injEq] at hst
    subst hst
    obtain ⟨v, hv1, hv2⟩ := zx_gl_ok o _ (zx_find_mem hf)
    have hk : k < 4 := (List.getElem?_eq_some_iff.mp hv1).1
    have hsa : zx_sa[k]? = some (zx_sa[k]'hk) := List.getElem?_eq_getElem hk
    exact va_gets hx hb (hZ.1 k v _ hv1 hsa).1 hS hown (hts _ hv2) (fun _ hy => hy) hdg (zx_G_same G Y)
theorem zs_k1 {n : Int} (X : zx_X p R s m args meth c row D κ A d) (Y : zx_Y s row D κ A ρ h H locs L ls) (hdg : decode row.2.1 pc = .ok (.iconst n, 1)) (hst : some (pc + 1, L, Value.int (Int32.ofInt n) :: st, h) = some q) (G : zx_G p l e R s m args below meth c Q row D κ A cells slots h.1.length ρ q) : W p l e R s m args below meth c H locs cells slots Q (F0 m pc ls (st.map (zx_v ρ))) := by
  obtain ⟨hx, hb, -⟩ := X
  simp only [Option.some.injEq] at hst
  subst hst
  exact lv_iconst hx hb hdg rfl (zx_G_same G Y)
theorem zs_k2 {n : Int} (X : zx_X p R s m args meth c row D κ A d) (Y : zx_Y s row D κ A ρ h H locs L ls) (hdg : decode row.2.1 pc = .ok (.bipush n, 2)) (hst : some (pc + 2, L, Value.int (Int8.ofInt n).toInt32 :: st, h) = some q) (G : zx_G p l e R s m args below meth c Q row D κ A cells slots h.1.length ρ q) : W p l e R s m args below meth c H locs cells slots Q (F0 m pc ls (st.map (zx_v ρ))) := by
  obtain ⟨hx, hb, -⟩ := X
  simp only [Option.some.injEq] at hst
  subst hst
  exact lv_bipush hx hb hdg rfl (zx_G_same G Y)
theorem zs_k3 {n : Int} (X : zx_X p R s m args meth c row D κ A d) (Y : zx_Y s row D κ A ρ h H locs L ls) (hdg : decode row.2.1 pc = .ok (.sipush n, 3)) (hst : some (pc + 3, L, Value.int (Int16.ofInt n).toInt32 :: st, h) = some q) (G : zx_G p l e R s m args below meth c Q row D κ A cells slots h.1.length ρ q) : W p l e R s m args below meth c H locs cells slots Q (F0 m pc ls (st.map (zx_v ρ))) := by
  obtain ⟨hx, hb, -⟩ := X
  simp only [Option.some.injEq] at hst
  subst hst
  exact lv_sipush hx hb hdg rfl (zx_G_same G Y)
theorem zs_k4 {n : Fin 2} (X : zx_X p R s m args meth c row D κ A d) (Y : zx_Y s row D κ A ρ h H locs L ls) (hdg : decode row.2.1 pc = .ok (.lconst n, 1)) (hst : some (pc + 1, L, Value.long (Int64.ofNat n.val) :: st, h) = some q) (G : zx_G p l e R s m args below meth c Q row D κ A cells slots h.1.length ρ q) : W p l e R s m args below meth c H locs cells slots Q (F0 m pc ls (st.map (zx_v ρ))) := by
  obtain ⟨hx, hb, -⟩ := X
  simp only [Option.some.injEq] at hst
  subst hst
  exact lv_lconst hx hb hdg rfl (zx_G_same G Y)
theorem zs_ldc2 (ho : row.2.2.2.2.1 = o) (X : zx_X p R s m args meth c row D κ A d) (Y : zx_Y s row D κ A ρ h H locs L ls) (hdg : decode row.2.1 pc = .ok (.ldc2_w ix, 3)) (hst : (match zx_find (zx_lct o) ix with
    | some v => some (pc + 3, L, .long (Int64.ofInt v) :: st, h)
    | none => none) = some q) (G : zx_G p l e R s m args below meth c Q row D κ A cells slots h.1.length ρ q) : W p l e R s m args below meth c H locs cells slots Q (F0 m pc ls (st.map (zx_v ρ))) := by
  obtain ⟨hx, hb, hml, hown, hnm, hts, hK, hA, hRf, hRl, hM⟩ := X
  obtain ⟨hP, hD, hS, hZ, hl, hLn⟩ := id Y
  have hcl : row.1.cls = zx_on o := hM.2.2.2.1.trans (by rw [ho])
  rw [hcl] at hown
  cases hf : zx_find (zx_lct o) ix with
  | none => rw [hf] at hst; simp at hst
  | some k =>
    rw [hf] at hst
    simp only [Option.some.injEq] at hst
    subst hst
    exact lv_ldc2 hx hb hown (hts _ (zx_jl_ok o _ (zx_find_mem hf))) hdg (zx_G_same G Y)
theorem zs_ldcw (ho : row.2.2.2.2.1 = o) (X : zx_X p R s m args meth c row D κ A d) (Y : zx_Y s row D κ A ρ h H locs L ls) (hdg : decode row.2.1 pc = .ok (.ldc_w ix, 3)) (hst : (match zx_find (zx_ict o) ix with
    | some v => some (pc + 3, L, .int (Int32.ofInt v) :: st, h)
    | none => none) = some q) (G : zx_G p l e R s m args below meth c Q row D κ A cells slots h.1.length ρ q) : W p l e R s m args below meth c H locs cells slots Q (F0 m pc ls (st.map (zx_v ρ))) := by
  obtain ⟨hx, hb, hml, hown, hnm, hts, hK, hA, hRf, hRl, hM⟩ := X
  obtain ⟨hP, hD, hS, hZ, hl, hLn⟩ := id Y
  have hcl : row.1.cls = zx_on o := hM.2.2.2.1.trans (by rw [ho])
  rw [hcl] at hown
  cases hf : zx_find (zx_ict o) ix with
  | none => rw [hf] at hst; simp at hst
  | some k =>
    rw [hf] at hst
    simp only [Option.some.injEq] at hst
    subst hst
    exact lv_ldcw hx hb hown (hts _ (zx_il_ok o _ (zx_find_mem hf))) hdg (zx_G_same G Y)
theorem zs_ldc (ho : row.2.2.2.2.1 = o) (X : zx_X p R s m args meth c row D κ A d) (Y : zx_Y s row D κ A ρ h H locs L ls) (hdg : decode row.2.1 pc = .ok (.ldc ix, 2)) (hst : zx_ldc o ix 2 pc L st h = some q) (G : zx_G p l e R s m args below meth c Q row D κ A cells slots h.1.length ρ q) : W p l e R s m args below meth c H locs cells slots Q (F0 m pc ls (st.map (zx_v ρ))) := by
  obtain ⟨hx, hb, hml, hown, hnm, hts, hK, hA, hRf, hRl, hM⟩ := X
  obtain ⟨hP, hD, hS, hZ, hl, hLn⟩ := id Y
  have hcl : row.1.cls = zx_on o := hM.2.2.2.1.trans (by rw [ho])
  rw [hcl] at hown
  unfold zx_ldc at hst
  cases hf : zx_find (zx_ict o) ix with
  | some k =>
    rw [hf] at hst
    simp only [Option.some.injEq] at hst
    subst hst
    exact lv_ldc hx hb hown (hts _ (zx_il_ok o _ (zx_find_mem hf))) hdg (zx_G_same G Y)
  | none =>
    rw [hf] at hst
    simp only at hst
    cases hb7 : (Nat.beq o 7 && (Nat.beq ix 60 && Nat.beq 2 2)) with
    | false => rw [hb7] at hst; simp at hst
    | true =>
      rw [hb7] at hst
      simp only [cond_true, Option.some.injEq] at hst
      subst hst
      rw [Bool.and_eq_true, Bool.and_eq_true] at hb7
      have e1 := Nat.eq_of_beq_eq_true hb7.1
      have e2 := Nat.eq_of_beq_eq_true hb7.2.1
      subst e1 e2
      exact va_ldcS (q := ρ 2000) hx hb hown hZ.2.1 hdg (zx_G_same G Y)
theorem zs_i2l (X : zx_X p R s m args meth c row D κ A d) (Y : zx_Y s row D κ A ρ h H locs L ls) (hdg : decode row.2.1 pc = .ok (.i2l, 1)) (hst : (match st with
    | .int x :: r => some (pc + 1, L, .long x.toInt64 :: r, h)
    | _ => none) = some q) (G : zx_G p l e R s m args below meth c Q row D κ A cells slots h.1.length ρ q) : W p l e R s m args below meth c H locs cells slots Q (F0 m pc ls (st.map (zx_v ρ))) := by
  obtain ⟨hx, hb, -⟩ := X
  cases st with
  | nil => simp at hst
  | cons v r =>
    cases v with
    | int x =>
      simp only [Option.some.injEq] at hst
      subst hst
      exact lv_i2l hx hb hdg rfl (zx_G_same G Y)
    | _ => simp at hst
theorem zs_l2i (X : zx_X p R s m args meth c row D κ A d) (Y : zx_Y s row D κ A ρ h H locs L ls) (hdg : decode row.2.1 pc = .ok (.l2i, 1)) (hst : (match st with
    | .long x :: r => some (pc + 1, L, .int x.toInt32 :: r, h)
    | _ => none) = some q) (G : zx_G p l e R s m args below meth c Q row D κ A cells slots h.1.length ρ q) : W p l e R s m args below meth c H locs cells slots Q (F0 m pc ls (st.map (zx_v ρ))) := by
  obtain ⟨hx, hb, -⟩ := X
  cases st with
  | nil => simp at hst
  | cons v r =>
    cases v with
    | long x =>
      simp only [Option.some.injEq] at hst
      subst hst
      exact lv_l2i hx hb hdg rfl (zx_G_same G Y)
    | _ => simp at hst
theorem zs_lcmp (X : zx_X p R s m args meth c row D κ A d) (Y : zx_Y s row D κ A ρ h H locs L ls) (hdg : decode row.2.1 pc = .ok (.lcmp, 1)) (hst : (match st with
    | .long y :: .long x :: r => some (pc + 1, L, .int (lg_cmp x y) :: r, h)
    | _ => none) = some q) (G : zx_G p l e R s m args below meth c Q row D κ A cells slots h.1.length ρ q) : W p l e R s m args below meth c H locs cells slots Q (F0 m pc ls (st.map (zx_v ρ))) := by
  obtain ⟨hx, hb, -⟩ := X
  cases st with
  | nil => simp at hst
  | cons v r =>
    cases v with
    | long y =>
      cases r with
      | nil => simp at hst
      | cons w r =>
        cases w with
        | long x =>
          simp only [Option.some.injEq] at hst
          subst hst
          exact W.lcmp hx hb hdg (zx_G_same G Y)
        | _ => simp at hst
    | _ => simp at hst
theorem zs_dup (X : zx_X p R s m args meth c row D κ A d) (Y : zx_Y s row D κ A ρ h H locs L ls) (hdg : decode row.2.1 pc = .ok (.dup, 1)) (hst : (match st with
    | .int x :: r => some (pc + 1, L, .int x :: .int x :: r, h)
    | .ref x :: r => some (pc + 1, L, .ref x :: .ref x :: r, h)
    | _ => none) = some q) (G : zx_G p l e R s m args below meth c Q row D κ A cells slots h.1.length ρ q) : W p l e R s m args below meth c H locs cells slots Q (F0 m pc ls (st.map (zx_v ρ))) := by
  obtain ⟨hx, hb, -⟩ := X
  cases st with
  | nil => simp at hst
  | cons v r =>
    cases v with
    | int x =>
      simp only [Option.some.injEq] at hst
      subst hst
      exact lv_dup hx hb hdg rfl (zx_G_same G Y)
    | ref x =>
      simp only [Option.some.injEq] at hst
      subst hst
      exact lv_dup hx hb hdg rfl (zx_G_same G Y)
    | _ => simp at hst
theorem zs_pop (X : zx_X p R s m args meth c row D κ A d) (Y : zx_Y s row D κ A ρ h H locs L ls) (hdg : decode row.2.1 pc = .ok (.pop, 1)) (hst : (match st with
    | .int _ :: r => some (pc + 1, L, r, h)
    | .ref _ :: r => some (pc + 1, L, r, h)
    | _ => none) = some q) (G : zx_G p l e R s m args below meth c Q row D κ A cells slots h.1.length ρ q) : W p l e R s m args below meth c H locs cells slots Q (F0 m pc ls (st.map (zx_v ρ))) := by
  obtain ⟨hx, hb, -⟩ := X
  cases st with
  | nil => simp at hst
  | cons v r =>
    cases v with
    | int x =>
      simp only [Option.some.injEq] at hst
      subst hst
      exact lv_pop hx hb hdg rfl (zx_G_same G Y)
    | ref x =>
      simp only [Option.some.injEq] at hst
      subst hst
      exact lv_pop hx hb hdg rfl (zx_G_same G Y)
    | _ => simp at hst
theorem zs_dup2 (X : zx_X p R s m args meth c row D κ A d) (Y : zx_Y s row D κ A ρ h H locs L ls) (hdg : decode row.2.1 pc = .ok (.dup2, 1)) (hst : (match st with
    | .int x :: .ref y :: r => some (pc + 1, L, .int x :: .ref y :: .int x :: .ref y :: r, h)
    | _ => none) = some q) (G : zx_G p l e R s m args below meth c Q row D κ A cells slots h.1.length ρ q) : W p l e R s m args below meth c H locs cells slots Q (F0 m pc ls (st.map (zx_v ρ))) := by
  obtain ⟨hx, hb, -⟩ := X
  cases st with
  | nil => simp at hst
  | cons v r =>
    cases v with
    | int x =>
      cases r with
      | nil => simp at hst
      | cons w r =>
        cases w with
        | ref y =>
          simp only [Option.some.injEq] at hst
          subst hst
          exact lv_dup2_11 hx hb hdg rfl rfl (zx_G_same G Y)
        | _ => simp at hst
    | _ => simp at hst
theorem zs_nn {off : Int} (X : zx_X p R s m args meth c row D κ A d) (Y : zx_Y s row D κ A ρ h H locs L ls) (hdg : decode row.2.1 pc = .ok (.ifnonnull off, 3)) (hst : (match st with
    | .ref _ :: r => match zx_tg pc off with
      | some t => some (t, L, r, h)
      | none => none
    | _ => none) = some q) (G : zx_G p l e R s m args below meth c Q row D κ A cells slots h.1.length ρ q) : W p l e R s m args below meth c H locs cells slots Q (F0 m pc ls (st.map (zx_v ρ))) := by
  obtain ⟨hx, hb, -⟩ := X
  cases st with
  | nil => simp at hst
  | cons v r =>
    cases v with
    | ref x =>
      simp only at hst
      cases ht : zx_tg pc off with
      | none => rw [ht] at hst; simp at hst
      | some t =>
        rw [ht] at hst
        simp only [Option.some.injEq] at hst
        subst hst
        exact lv_ifnonnull hx hb hdg (zx_tg_eq ht) (zx_G_same G Y)
    | _ => simp at hst
theorem zs_goto {off : Int} (X : zx_X p R s m args meth c row D κ A d) (Y : zx_Y s row D κ A ρ h H locs L ls) (hdg : decode row.2.1 pc = .ok (.goto off, 3)) (hst : (match zx_tg pc off with
    | some t => some (t, L, st, h)
    | none => none) = some q) (G : zx_G p l e R s m args below meth c Q row D κ A cells slots h.1.length ρ q) : W p l e R s m args below meth c H locs cells slots Q (F0 m pc ls (st.map (zx_v ρ))) := by
  obtain ⟨hx, hb, -⟩ := X
  cases ht : zx_tg pc off with
  | none => rw [ht] at hst; simp at hst
  | some t =>
    rw [ht] at hst
    simp only [Option.some.injEq] at hst
    subst hst
    exact lv_goto hx hb hdg (zx_tg_eq ht) (zx_G_same G Y)
end ZX

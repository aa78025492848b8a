/-! makings, members of the library; then every step -/
section ZX
variable {p : Program} {l : Launch} {e : Env} {R : Room} {s : State} {m : MethodId} {args : Array Value} {below : List Frame} {meth : Method} {c : Code} {H : Heap} {locs : List Loc} {cells slots : Nat} {Q : State → Prop}
variable {row : zx_T} {D : va_G} {κ : Nat → ClassId} {A : Nat → Prop} {d o pc K N ix : Nat} {ρ : Nat → Nat} {h : zx_H} {L : zx_L} {ls : Array Slot} {st : List Value} {q : zx_K} {b : Bool}
def zx_tok : FieldType → Bool
  | .int => true
  | .boolean => true
  | .object _ => true
  | .array _ => true
  | _ => false
theorem zx_tok_all : ∀ ci, ci < 10 → ∀ k, k < zx_fN ci → zx_tok (zx_ty ci k) = true := by decide +kernel
theorem zx_dv_fo {ρ : Nat → Nat} {t : FieldType} (ht : zx_tok t = true) : zx_fo ρ 0 (zx_dv t) = defaultValue t := by
  cases t <;> simp [zx_tok] at ht <;> rfl
theorem zx_f_dv (ρ ρ' : Nat → Nat) (g : Nat → Int32) (l : List FieldType) : ∀ j, zx_f ρ g j (l.map zx_dv) = zx_f ρ' g j (l.map zx_dv) := by
  induction l with
  | nil => intro j; rfl
  | cons t l ih =>
    intro j
    simp only [List.map_cons, zx_f]
    rw [ih (j + 1)]
    congr 1
    cases t <;> rfl
theorem zx_df_map (ci : Nat) : zx_df ci = ((List.range (zx_fN ci)).map (zx_ty ci)).map zx_dv := by
  unfold zx_df
  rw [List.map_map]
  rfl
theorem zx_df_len (ci : Nat) : (zx_df ci).length = zx_fN ci := by simp [zx_df]
theorem zx_ok_inv {S : List zx_Sh} (hk : zx_ok L st S = true) : S.length < 999 ∧ zx_kL S.length L = true ∧ zx_kV S.length st = true ∧ zx_kS S.length S = true := by
  unfold zx_ok at hk
  rw [Bool.and_eq_true, Bool.and_eq_true, Bool.and_eq_true] at hk
  exact ⟨Nat.blt_eq.mp hk.1, hk.2.1, hk.2.2.1, hk.2.2.2⟩
theorem zs_new (ho : row.2.2.2.2.1 = o) (X : zx_X p R s m args meth c row D κ A d) (Y : zx_Y s row D κ A ρ h H locs L ls) (hdg : decode row.2.1 pc = .ok (.new ix, 3)) (hst : zx_new o ix pc L st h = some q) (hKc : cells + q.2.2.2.1.length = K + h.1.length) (hNc : slots + zx_sz q.2.2.2.1 = N + zx_sz h.1) (hKR : K ≤ R.cells) (hNR : N ≤ R.slots) (G : zx_G p l e R s m args below meth c Q row D κ A K N h.1.length ρ q) : W p l e R s m args below meth c H locs cells slots Q (F0 m pc ls (st.map (zx_v ρ))) := by
  obtain ⟨hx, hb, hml, hown, hnm, hts, hK, hA, hRf, hRl, hM⟩ := X
  obtain ⟨hP, hD, hS, hZ, hl, hLn⟩ := id Y
  have hcl : row.1.cls = zx_on o := hM.2.2.2.1.trans (by rw [ho])
  rw [hcl] at hown
  unfold zx_new at hst
  cases hf : zx_find (zx_clt o) ix with
  | none => rw [hf] at hst; simp at hst
  | some ci =>
    rw [hf] at hst
    simp only at hst
    cases hk : zx_ok L st h.1 with
    | false => rw [hk] at hst; simp at hst
    | true =>
      rw [hk] at hst
      simp only [cond_true, Option.some.injEq] at hst
      subst hst
      obtain ⟨v, hv1, hv2⟩ := zx_nl_ok o _ (zx_find_mem hf)
      have hF := zx_fok hv1
      obtain ⟨C, T, n⟩ := v
      obtain ⟨k1, k2, k3, k4⟩ := zx_ok_inv hk
      have hn : n = zx_fN ci := hF.1
      have hci : ci < 10 := (List.getElem?_eq_some_iff.mp hv1).1
      simp only [List.length_append, List.length_singleton, zx_sz_app, zx_sz, zx_df_len] at hKc hNc
      have e1 : K = cells + 1 := by omega
      have e2 : N = slots + n := by omega
      subst e1 e2
      refine va_new (D := D) (C := C) (T := T) (N := n) (ci := ci) (fs := zx_f ρ (fun _ => 0) 0 (zx_df ci)) hx hb hts (zx_u_in hF) (zx_ty ci) hF.2.2.2.2.2.1 hown (hts _ hv2) (hts _ hF.2.2.2.2.2.2.2.1) (hts _ hF.2.2.2.2.2.2.2.2) hK hP hD hS hA hv1 (fun j hj => ?_) hKR hNR hdg (fun qa H1 a1 a2 a3 => ?_)
      · have hj2 : j < zx_fN ci := by rw [← hn]; exact hj
        unfold vp_V
        rw [List.getD_eq_getElem?_getD, zx_f_get, zx_df]
        simp [hj2]
        exact (zx_dv_fo (zx_tok_all ci hci j hj2)).symm
      · have he : zx_e (zx_ro ρ h.1.length qa) κ (zx_w1 h.2 h.1.length (fun _ => 0)) h.1.length (.inl (ci, zx_df ci)) = .inr (ci, zx_f ρ (fun _ => 0) 0 (zx_df ci)) := by
          simp only [zx_e, zx_w1_at]
          rw [zx_df_map, zx_f_dv (zx_ro ρ h.1.length qa) ρ]
        have hag := zx_ro_ag (ρ := ρ) (a := qa) k1
        rw [zx_w_app k1 k4 (zx_w1_ne h.2 h.1.length (fun _ => 0)) he] at a1 a2
        have g := G (zx_ro ρ h.1.length qa) H1 locs ls hag ⟨a1, a2, a3, zx_St.ag hag hZ, zx_lr_ag hag k2 hl, hLn⟩
        have e3 : ((Value.ref h.1.length :: st).map (zx_v (zx_ro ρ h.1.length qa))) = .ref qa :: st.map (zx_v ρ) := by
          simp only [List.map_cons, zx_v, zx_ro_at]
          rw [zx_V_ag hag k3]
        simp only at g
        rw [e3] at g
        exact g
theorem zs_nw0 {n : Int32} {r : List Value} (X : zx_X p R s m args meth c row D κ A d) (Y : zx_Y s row D κ A ρ h H locs L ls) (hdg : decode row.2.1 pc = .ok (.newarray .int, 2)) (hn : ¬ n < 0) (h1000 : n.toNatClampNeg ≤ 1000) (hk : zx_ok L r h.1 = true) (hKR : cells + 1 ≤ R.cells) (hNR : slots + n.toNatClampNeg ≤ R.slots) (G : zx_G p l e R s m args below meth c Q row D κ A (cells + 1) (slots + n.toNatClampNeg) h.1.length ρ (pc + 2, L, .ref h.1.length :: r, (h.1 ++ [.inr (0, n.toNatClampNeg)], zx_w1 h.2 h.1.length (fun _ => 0)))) : W p l e R s m args below meth c H locs cells slots Q (F0 m pc ls ((.int n :: r : List Value).map (zx_v ρ))) := by
  obtain ⟨hx, hb, hml, hown, hnm, hts, hK, hA, hRf, hRl, hM⟩ := X
  obtain ⟨hP, hD, hS, hZ, hl, hLn⟩ := id Y
  obtain ⟨k1, k2, k3, k4⟩ := zx_ok_inv hk
  refine va_newa (D := D) (tys := zx_tys κ) (atype := .int) (a0 := (n.toNatClampNeg, .inl (fun _ => 0))) hx hb (hts _ zb_a_int) rfl hK hP hD hS hA (fun cA => rfl) hn rfl (by show n.toNatClampNeg * 4 ≤ _; omega) hKR hNR hdg (fun qa cA H1 a0 a1 a2 a3 => ?_)
  have hcA : cA = κ 0 := by
    have g1 := (a0.2 3 (cA, .int) rfl).2
    have g2 := (hK.2 0 (κ 0, .int) rfl).2
    exact Option.some.inj (Eq.trans (Eq.symm g1) g2)
  subst hcA
  have he : zx_e (zx_ro ρ h.1.length qa) κ (zx_w1 h.2 h.1.length (fun _ => 0)) h.1.length (.inr (0, n.toNatClampNeg)) = .inl (κ 0, n.toNatClampNeg, .inl (fun _ => 0)) := by
    simp [zx_e, zx_w1_at]
  have hag := zx_ro_ag (ρ := ρ) (a := qa) k1
  rw [zx_w_app k1 k4 (zx_w1_ne h.2 h.1.length (fun _ => 0)) he] at a1 a2
  have g := G (zx_ro ρ h.1.length qa) H1 locs ls hag ⟨a1, a2, a3, zx_St.ag hag hZ, zx_lr_ag hag k2 hl, hLn⟩
  have e3 : ((Value.ref h.1.length :: r).map (zx_v (zx_ro ρ h.1.length qa))) = .ref qa :: r.map (zx_v ρ) := by
    simp only [List.map_cons, zx_v, zx_ro_at]
    rw [zx_V_ag hag k3]
  simp only at g
  rw [e3] at g
  exact g
theorem zs_nw1 {n : Int32} {r : List Value} (X : zx_X p R s m args meth c row D κ A d) (Y : zx_Y s row D κ A ρ h H locs L ls) (hdg : decode row.2.1 pc = .ok (.newarray .long, 2)) (hn : ¬ n < 0) (h1000 : n.toNatClampNeg ≤ 1000) (hk : zx_ok L r h.1 = true) (hKR : cells + 1 ≤ R.cells) (hNR : slots + n.toNatClampNeg ≤ R.slots) (G : zx_G p l e R s m args below meth c Q row D κ A (cells + 1) (slots + n.toNatClampNeg) h.1.length ρ (pc + 2, L, .ref h.1.length :: r, (h.1 ++ [.inr (1, n.toNatClampNeg)], zx_w2 h.2 h.1.length (fun _ => 0)))) : W p l e R s m args below meth c H locs cells slots Q (F0 m pc ls ((.int n :: r : List Value).map (zx_v ρ))) := by
  obtain ⟨hx, hb, hml, hown, hnm, hts, hK, hA, hRf, hRl, hM⟩ := X
  obtain ⟨hP, hD, hS, hZ, hl, hLn⟩ := id Y
  obtain ⟨k1, k2, k3, k4⟩ := zx_ok_inv hk
  refine va_newa (D := D) (tys := zx_tys κ) (atype := .long) (a0 := (n.toNatClampNeg, .inr (.inl (fun _ => 0)))) hx hb (hts _ zb_a_long) rfl hK hP hD hS hA (fun cA => rfl) hn rfl (by show n.toNatClampNeg * 8 ≤ _; omega) hKR hNR hdg (fun qa cA H1 a0 a1 a2 a3 => ?_)
  have hcA : cA = κ 1 := by
    have g1 := (a0.2 3 (cA, .long) rfl).2
    have g2 := (hK.2 1 (κ 1, .long) rfl).2
    exact Option.some.inj (Eq.trans (Eq.symm g1) g2)
  subst hcA
  have he : zx_e (zx_ro ρ h.1.length qa) κ (zx_w2 h.2 h.1.length (fun _ => 0)) h.1.length (.inr (1, n.toNatClampNeg)) = .inl (κ 1, n.toNatClampNeg, .inr (.inl (fun _ => 0))) := by
    simp [zx_e, zx_w2_at]
  have hag := zx_ro_ag (ρ := ρ) (a := qa) k1
  rw [zx_w_app k1 k4 (zx_w2_ne h.2 h.1.length (fun _ => 0)) he] at a1 a2
  have g := G (zx_ro ρ h.1.length qa) H1 locs ls hag ⟨a1, a2, a3, zx_St.ag hag hZ, zx_lr_ag hag k2 hl, hLn⟩
  have e3 : ((Value.ref h.1.length :: r).map (zx_v (zx_ro ρ h.1.length qa))) = .ref qa :: r.map (zx_v ρ) := by
    simp only [List.map_cons, zx_v, zx_ro_at]
    rw [zx_V_ag hag k3]
  simp only at g
  rw [e3] at g
  exact g
theorem zs_nw2 {n : Int32} {r : List Value} (X : zx_X p R s m args meth c row D κ A d) (Y : zx_Y s row D κ A ρ h H locs L ls) (hdg : decode row.2.1 pc = .ok (.newarray .boolean, 2)) (hn : ¬ n < 0) (h1000 : n.toNatClampNeg ≤ 1000) (hk : zx_ok L r h.1 = true) (hKR : cells + 1 ≤ R.cells) (hNR : slots + n.toNatClampNeg ≤ R.slots) (G : zx_G p l e R s m args below meth c Q row D κ A (cells + 1) (slots + n.toNatClampNeg) h.1.length ρ (pc + 2, L, .ref h.1.length :: r, (h.1 ++ [.inr (2, n.toNatClampNeg)], zx_w1 h.2 h.1.length (fun _ => 0)))) : W p l e R s m args below meth c H locs cells slots Q (F0 m pc ls ((.int n :: r : List Value).map (zx_v ρ))) := by
  obtain ⟨hx, hb, hml, hown, hnm, hts, hK, hA, hRf, hRl, hM⟩ := X
  obtain ⟨hP, hD, hS, hZ, hl, hLn⟩ := id Y
  obtain ⟨k1, k2, k3, k4⟩ := zx_ok_inv hk
  refine va_newa (D := D) (tys := zx_tys κ) (atype := .boolean) (a0 := (n.toNatClampNeg, .inl (fun _ => 0))) hx hb (hts _ zb_a_boolean) rfl hK hP hD hS hA (fun cA => rfl) hn rfl (by show n.toNatClampNeg * 1 ≤ _; omega) hKR hNR hdg (fun qa cA H1 a0 a1 a2 a3 => ?_)
  have hcA : cA = κ 2 := by
    have g1 := (a0.2 3 (cA, .boolean) rfl).2
    have g2 := (hK.2 2 (κ 2, .boolean) rfl).2
    exact Option.some.inj (Eq.trans (Eq.symm g1) g2)
  subst hcA
  have he : zx_e (zx_ro ρ h.1.length qa) κ (zx_w1 h.2 h.1.length (fun _ => 0)) h.1.length (.inr (2, n.toNatClampNeg)) = .inl (κ 2, n.toNatClampNeg, .inl (fun _ => 0)) := by
    simp [zx_e, zx_w1_at]
  have hag := zx_ro_ag (ρ := ρ) (a := qa) k1
  rw [zx_w_app k1 k4 (zx_w1_ne h.2 h.1.length (fun _ => 0)) he] at a1 a2
  have g := G (zx_ro ρ h.1.length qa) H1 locs ls hag ⟨a1, a2, a3, zx_St.ag hag hZ, zx_lr_ag hag k2 hl, hLn⟩
  have e3 : ((Value.ref h.1.length :: r).map (zx_v (zx_ro ρ h.1.length qa))) = .ref qa :: r.map (zx_v ρ) := by
    simp only [List.map_cons, zx_v, zx_ro_at]
    rw [zx_V_ag hag k3]
  simp only at g
  rw [e3] at g
  exact g
theorem zs_nwa {ty : ArrayType} (X : zx_X p R s m args meth c row D κ A d) (Y : zx_Y s row D κ A ρ h H locs L ls) (hdg : decode row.2.1 pc = .ok (.newarray ty, 2)) (hst : zx_nwa ty pc L st h = some q) (hKc : cells + q.2.2.2.1.length = K + h.1.length) (hNc : slots + zx_sz q.2.2.2.1 = N + zx_sz h.1) (hKR : K ≤ R.cells) (hNR : N ≤ R.slots) (G : zx_G p l e R s m args below meth c Q row D κ A K N h.1.length ρ q) : W p l e R s m args below meth c H locs cells slots Q (F0 m pc ls (st.map (zx_v ρ))) := by
  cases st with
  | nil => simp [zx_nwa] at hst
  | cons v r =>
    cases v with
    | int n =>
      simp only [zx_nwa] at hst
      by_cases hn : n < 0 ∨ 1000 < n.toNatClampNeg
      · rw [if_pos hn] at hst; simp at hst
      · rw [if_neg hn] at hst
        have hn1 : ¬ n < 0 := fun z => hn (Or.inl z)
        have hn2 : n.toNatClampNeg ≤ 1000 := Nat.not_lt.mp (fun z => hn (Or.inr z))
        cases hk : zx_ok L r h.1 with
        | false => rw [hk] at hst; simp at hst
        | true =>
          rw [hk] at hst
          simp only [cond_true] at hst
          cases ty with
          | int =>
            simp only [Option.some.injEq] at hst
            subst hst
            simp only [List.length_append, List.length_singleton, zx_sz_app, zx_sz] at hKc hNc
            have e1 : K = cells + 1 := by omega
            have e2 : N = slots + n.toNatClampNeg := by omega
            subst e1 e2
            exact zs_nw0 X Y hdg hn1 hn2 hk hKR hNR G
          | long =>
            simp only [Option.some.injEq] at hst
            subst hst
            simp only [List.length_append, List.length_singleton, zx_sz_app, zx_sz] at hKc hNc
            have e1 : K = cells + 1 := by omega
            have e2 : N = slots + n.toNatClampNeg := by omega
            subst e1 e2
            exact zs_nw1 X Y hdg hn1 hn2 hk hKR hNR G
          | boolean =>
            simp only [Option.some.injEq] at hst
            subst hst
            simp only [List.length_append, List.length_singleton, zx_sz_app, zx_sz] at hKc hNc
            have e1 : K = cells + 1 := by omega
            have e2 : N = slots + n.toNatClampNeg := by omega
            subst e1 e2
            exact zs_nw2 X Y hdg hn1 hn2 hk hKR hNR G
          | _ => simp at hst
    | _ => simp [zx_nwa] at hst
theorem zx_cat_sum (ρ : Nat → Nat) (r : List Value) : ((r.map (zx_v ρ)).map fun v => v.category).sum = zx_cat r := by
  induction r with
  | nil => rfl
  | cons v r ih =>
    simp only [List.map_cons, List.sum_cons, zx_cat]
    rw [ih, zx_v_cat]
theorem zs_abs {x : Int32} {k0 : Nat} {r : List Value} (ho : row.2.2.2.2.1 = o) (X : zx_X p R s m args meth c row D κ A d) (Y : zx_Y s row D κ A ρ h H locs L ls) (hdg : decode row.2.1 pc = .ok (.invokestatic ix, 3)) (hf : zx_find (zx_mlt o) ix = some (10, k0)) (hd : 0 < d) (hcat : zx_cat r ≤ 8) (hKR : cells ≤ R.cells) (hNR : slots ≤ R.slots) (G : zx_G p l e R s m args below meth c Q row D κ A cells slots h.1.length ρ (pc + 3, L, .int (zx_abs x) :: r, h)) : W p l e R s m args below meth c H locs cells slots Q (F0 m pc ls ((.int x :: r : List Value).map (zx_v ρ))) := by
  obtain ⟨hx, hb, hml, hown, hnm, hts, hK, hA, hRf, hRl, hM⟩ := X
  obtain ⟨hP, hD, hS, hZ, hl, hLn⟩ := id Y
  have hcl : row.1.cls = zx_on o := hM.2.2.2.1.trans (by rw [ho])
  rw [hcl] at hown
  have hml2 : c.maxLocals = ls.size := by rw [hml, hl.1, hLn]
  have hlk := zx_ml_ok o _ (zx_find_mem hf)
  exact va_mabs hx hb hml2 hown (hts _ hlk) (hts _ zb_abs_s) (hts _ zb_math) (hts _ zb_abs_c) (by omega) (by rw [zx_cat_sum]; omega) hKR hNR hdg (zx_G_same G Y)
theorem zs_max {x y : Int32} {k0 : Nat} {r : List Value} (ho : row.2.2.2.2.1 = o) (X : zx_X p R s m args meth c row D κ A d) (Y : zx_Y s row D κ A ρ h H locs L ls) (hdg : decode row.2.1 pc = .ok (.invokestatic ix, 3)) (hf : zx_find (zx_mlt o) ix = some (11, k0)) (hd : 0 < d) (hcat : zx_cat r ≤ 8) (hKR : cells ≤ R.cells) (hNR : slots ≤ R.slots) (G : zx_G p l e R s m args below meth c Q row D κ A cells slots h.1.length ρ (pc + 3, L, .int (zx_max x y) :: r, h)) : W p l e R s m args below meth c H locs cells slots Q (F0 m pc ls ((.int y :: .int x :: r : List Value).map (zx_v ρ))) := by
  obtain ⟨hx, hb, hml, hown, hnm, hts, hK, hA, hRf, hRl, hM⟩ := X
  obtain ⟨hP, hD, hS, hZ, hl, hLn⟩ := id Y
  have hcl : row.1.cls = zx_on o := hM.2.2.2.1.trans (by rw [ho])
  rw [hcl] at hown
  have hml2 : c.maxLocals = ls.size := by rw [hml, hl.1, hLn]
  have hlk := zx_ml_ok o _ (zx_find_mem hf)
  exact va_mmax hx hb hml2 hown (hts _ hlk) (hts _ zb_max_s) (hts _ zb_math) (hts _ zb_max_c) (by omega) (by rw [zx_cat_sum]; omega) hKR hNR hdg (zx_G_same G Y)
theorem zs_min {x y : Int32} {k0 : Nat} {r : List Value} (ho : row.2.2.2.2.1 = o) (X : zx_X p R s m args meth c row D κ A d) (Y : zx_Y s row D κ A ρ h H locs L ls) (hdg : decode row.2.1 pc = .ok (.invokestatic ix, 3)) (hf : zx_find (zx_mlt o) ix = some (12, k0)) (hd : 0 < d) (hcat : zx_cat r ≤ 8) (hKR : cells ≤ R.cells) (hNR : slots ≤ R.slots) (G : zx_G p l e R s m args below meth c Q row D κ A cells slots h.1.length ρ (pc + 3, L, .int (zx_min x y) :: r, h)) : W p l e R s m args below meth c H locs cells slots Q (F0 m pc ls ((.int y :: .int x :: r : List Value).map (zx_v ρ))) := by
  obtain ⟨hx, hb, hml, hown, hnm, hts, hK, hA, hRf, hRl, hM⟩ := X
  obtain ⟨hP, hD, hS, hZ, hl, hLn⟩ := id Y
  have hcl : row.1.cls = zx_on o := hM.2.2.2.1.trans (by rw [ho])
  rw [hcl] at hown
  have hml2 : c.maxLocals = ls.size := by rw [hml, hl.1, hLn]
  have hlk := zx_ml_ok o _ (zx_find_mem hf)
  exact va_mmin hx hb hml2 hown (hts _ hlk) (hts _ zb_min_s) (hts _ zb_math) (hts _ zb_min_c) (by omega) (by rw [zx_cat_sum]; omega) hKR hNR hdg (zx_G_same G Y)
theorem zs_obj {x : Nat} {r : List Value} {k0 : Nat} (ho : row.2.2.2.2.1 = o) (X : zx_X p R s m args meth c row D κ A d) (Y : zx_Y s row D κ A ρ h H locs L ls) (hdg : decode row.2.1 pc = .ok (.invokespecial ix, 3)) (hf : zx_find (zx_mlt o) ix = some (15, k0)) (hd : 0 < d) (hcat : zx_cat r ≤ 8) (G : zx_G p l e R s m args below meth c Q row D κ A cells slots h.1.length ρ (pc + 3, L, r, h)) : W p l e R s m args below meth c H locs cells slots Q (F0 m pc ls ((.ref x :: r : List Value).map (zx_v ρ))) := by
  obtain ⟨hx, hb, hml, hown, hnm, hts, hK, hA, hRf, hRl, hM⟩ := X
  obtain ⟨hP, hD, hS, hZ, hl, hLn⟩ := id Y
  have hcl : row.1.cls = zx_on o := hM.2.2.2.1.trans (by rw [ho])
  rw [hcl] at hown
  have hml2 : ls.size = c.maxLocals := by rw [hml, hl.1, hLn]
  have hlk := zx_ml_ok o _ (zx_find_mem hf)
  exact W.objInit hx hb hown (hts _ hlk) (hts _ zb_ob_i) (hts _ zb_ob_c) rfl hml2 rfl hdg (by omega) (by rw [zx_cat_sum]; show 2 * 0 + _ + _ ≤ _; omega) (zx_G_same G Y)
theorem zx_01_all {f : Nat → Int32} : ∀ {n : Nat}, zx_01 f n = true → ∀ i, i < n → f i = 0 ∨ f i = 1 := by
  intro n
  induction n with
  | zero => intro _ i hi; omega
  | succ n ih =>
    intro h i hi
    unfold zx_01 at h
    rw [Bool.and_eq_true, Bool.or_eq_true, decide_eq_true_eq, decide_eq_true_eq] at h
    by_cases hin : i = n
    · subst hin; exact h.1
    · exact ih h.2 i (by omega)
theorem zs_cpi {n dp sp : Int32} {q1 q0 n0 n1 : Nat} {r : List Value} {k0 : Nat} (ho : row.2.2.2.2.1 = o) (X : zx_X p R s m args meth c row D κ A d) (Y : zx_Y s row D κ A ρ h H locs L ls) (hdg : decode row.2.1 pc = .ok (.invokestatic ix, 3)) (hf : zx_find (zx_mlt o) ix = some (13, k0)) (hd : 0 < d) (hcat : zx_cat r ≤ 8) (h1 : ¬ sp < 0) (h2 : ¬ dp < 0) (h3 : ¬ n < 0) (hs0 : h.1[q0]? = some (.inr (0, n0))) (hs1 : h.1[q1]? = some (.inr (0, n1))) (h4 : sp.toNatClampNeg + n.toNatClampNeg ≤ n0) (h5 : dp.toNatClampNeg + n.toNatClampNeg ≤ n1)  (G : zx_G p l e R s m args below meth c Q row D κ A cells slots h.1.length ρ (pc + 3, L, r, (h.1, zx_w1 h.2 q1 (va_cpy (h.2.1 q0) (h.2.1 q1) sp.toNatClampNeg dp.toNatClampNeg n.toNatClampNeg)))) : W p l e R s m args below meth c H locs cells slots Q (F0 m pc ls ((.int n :: .int dp :: .ref q1 :: .int sp :: .ref q0 :: r : List Value).map (zx_v ρ))) := by
  obtain ⟨hx, hb, hml, hown, hnm, hts, hK, hA, hRf, hRl, hM⟩ := X
  obtain ⟨hP, hD, hS, hZ, hl, hLn⟩ := id Y
  have hcl : row.1.cls = zx_on o := hM.2.2.2.1.trans (by rw [ho])
  rw [hcl] at hown
  have hml2 : c.maxLocals = ls.size := by rw [hml, hl.1, hLn]
  have hlk := zx_ml_ok o _ (zx_find_mem hf)
  have e9 : nativeFrameWords "java/lang/System" "arraycopy" 5 ≤ 20 := by decide +kernel
  refine va_copyi (D := D) (tys := zx_tys κ) hx hb hml2 hown (hts _ hlk) (hts _ zb_cp_n) (hts _ zb_cp_s) (hts _ zb_sys) hK hP hD hS q0 q1 0 0 (zx_w_int (by decide) hs0) (zx_w_int (by decide) hs1) rfl rfl rfl h1 h2 h3 h4 h5 (fun _ _ => rfl) (by omega) (by rw [zx_cat_sum]; omega) hdg (fun H1 locs1 a1 a2 a3 => ?_)
  rw [zx_w_ri (by decide) hs1] at a1 a2
  exact G ρ H1 locs1 ls zx_ag.rf ⟨a1, a2, a3, hZ, hl, hLn⟩
theorem zs_cpl {n dp sp : Int32} {q1 q0 n0 n1 : Nat} {r : List Value} {k0 : Nat} (ho : row.2.2.2.2.1 = o) (X : zx_X p R s m args meth c row D κ A d) (Y : zx_Y s row D κ A ρ h H locs L ls) (hdg : decode row.2.1 pc = .ok (.invokestatic ix, 3)) (hf : zx_find (zx_mlt o) ix = some (13, k0)) (hd : 0 < d) (hcat : zx_cat r ≤ 8) (h1 : ¬ sp < 0) (h2 : ¬ dp < 0) (h3 : ¬ n < 0) (hs0 : h.1[q0]? = some (.inr (1, n0))) (hs1 : h.1[q1]? = some (.inr (1, n1))) (h4 : sp.toNatClampNeg + n.toNatClampNeg ≤ n0) (h5 : dp.toNatClampNeg + n.toNatClampNeg ≤ n1)  (G : zx_G p l e R s m args below meth c Q row D κ A cells slots h.1.length ρ (pc + 3, L, r, (h.1, zx_w2 h.2 q1 (va_cpy (h.2.2 q0) (h.2.2 q1) sp.toNatClampNeg dp.toNatClampNeg n.toNatClampNeg)))) : W p l e R s m args below meth c H locs cells slots Q (F0 m pc ls ((.int n :: .int dp :: .ref q1 :: .int sp :: .ref q0 :: r : List Value).map (zx_v ρ))) := by
  obtain ⟨hx, hb, hml, hown, hnm, hts, hK, hA, hRf, hRl, hM⟩ := X
  obtain ⟨hP, hD, hS, hZ, hl, hLn⟩ := id Y
  have hcl : row.1.cls = zx_on o := hM.2.2.2.1.trans (by rw [ho])
  rw [hcl] at hown
  have hml2 : c.maxLocals = ls.size := by rw [hml, hl.1, hLn]
  have hlk := zx_ml_ok o _ (zx_find_mem hf)
  have e9 : nativeFrameWords "java/lang/System" "arraycopy" 5 ≤ 20 := by decide +kernel
  refine va_copyl (D := D) (tys := zx_tys κ) hx hb hml2 hown (hts _ hlk) (hts _ zb_cp_n) (hts _ zb_cp_s) (hts _ zb_sys) hK hP hD hS q0 q1 1 1 (zx_w_lon hs0) (zx_w_lon hs1) rfl rfl rfl h1 h2 h3 h4 h5 (fun _ _ => rfl) (by omega) (by rw [zx_cat_sum]; omega) hdg (fun H1 locs1 a1 a2 a3 => ?_)
  rw [zx_w_rl hs1] at a1 a2
  exact G ρ H1 locs1 ls zx_ag.rf ⟨a1, a2, a3, hZ, hl, hLn⟩
theorem zs_cpb {n dp sp : Int32} {q1 q0 n0 n1 : Nat} {r : List Value} {k0 : Nat} (ho : row.2.2.2.2.1 = o) (X : zx_X p R s m args meth c row D κ A d) (Y : zx_Y s row D κ A ρ h H locs L ls) (hdg : decode row.2.1 pc = .ok (.invokestatic ix, 3)) (hf : zx_find (zx_mlt o) ix = some (13, k0)) (hd : 0 < d) (hcat : zx_cat r ≤ 8) (h1 : ¬ sp < 0) (h2 : ¬ dp < 0) (h3 : ¬ n < 0) (hs0 : h.1[q0]? = some (.inr (2, n0))) (hs1 : h.1[q1]? = some (.inr (2, n1))) (h4 : sp.toNatClampNeg + n.toNatClampNeg ≤ n0) (h5 : dp.toNatClampNeg + n.toNatClampNeg ≤ n1) (h01 : ∀ i, i < n.toNatClampNeg → h.2.1 q0 (sp.toNatClampNeg + i) = 0 ∨ h.2.1 q0 (sp.toNatClampNeg + i) = 1) (G : zx_G p l e R s m args below meth c Q row D κ A cells slots h.1.length ρ (pc + 3, L, r, (h.1, zx_w1 h.2 q1 (va_cpy (h.2.1 q0) (h.2.1 q1) sp.toNatClampNeg dp.toNatClampNeg n.toNatClampNeg)))) : W p l e R s m args below meth c H locs cells slots Q (F0 m pc ls ((.int n :: .int dp :: .ref q1 :: .int sp :: .ref q0 :: r : List Value).map (zx_v ρ))) := by
  obtain ⟨hx, hb, hml, hown, hnm, hts, hK, hA, hRf, hRl, hM⟩ := X
  obtain ⟨hP, hD, hS, hZ, hl, hLn⟩ := id Y
  have hcl : row.1.cls = zx_on o := hM.2.2.2.1.trans (by rw [ho])
  rw [hcl] at hown
  have hml2 : c.maxLocals = ls.size := by rw [hml, hl.1, hLn]
  have hlk := zx_ml_ok o _ (zx_find_mem hf)
  have e9 : nativeFrameWords "java/lang/System" "arraycopy" 5 ≤ 20 := by decide +kernel
  refine va_copyi (D := D) (tys := zx_tys κ) hx hb hml2 hown (hts _ hlk) (hts _ zb_cp_n) (hts _ zb_cp_s) (hts _ zb_sys) hK hP hD hS q0 q1 2 2 (zx_w_int (by decide) hs0) (zx_w_int (by decide) hs1) rfl rfl rfl h1 h2 h3 h4 h5 (fun i hi => by rcases h01 i hi with g | g <;> rw [g] <;> rfl) (by omega) (by rw [zx_cat_sum]; omega) hdg (fun H1 locs1 a1 a2 a3 => ?_)
  rw [zx_w_ri (by decide) hs1] at a1 a2
  exact G ρ H1 locs1 ls zx_ag.rf ⟨a1, a2, a3, hZ, hl, hLn⟩
theorem zs_cp {k0 : Nat} (ho : row.2.2.2.2.1 = o) (X : zx_X p R s m args meth c row D κ A d) (Y : zx_Y s row D κ A ρ h H locs L ls) (hdg : decode row.2.1 pc = .ok (.invokestatic ix, 3)) (hf : zx_find (zx_mlt o) ix = some (13, k0)) (hd : 0 < d) (hst : zx_cp pc L st h = some q) (hKc : cells + q.2.2.2.1.length = K + h.1.length) (hNc : slots + zx_sz q.2.2.2.1 = N + zx_sz h.1) (G : zx_G p l e R s m args below meth c Q row D κ A K N h.1.length ρ q) : W p l e R s m args below meth c H locs cells slots Q (F0 m pc ls (st.map (zx_v ρ))) := by
  unfold zx_cp at hst
  split at hst
  case h_2 => simp at hst
  rename_i n dp q1 sp q0 r
  by_cases hneg : sp < 0 ∨ dp < 0 ∨ n < 0 ∨ 8 < zx_cat r
  · rw [if_pos hneg] at hst; simp at hst
  rw [if_neg hneg] at hst
  have h1 : ¬ sp < 0 := fun z => hneg (Or.inl z)
  have h2 : ¬ dp < 0 := fun z => hneg (Or.inr (Or.inl z))
  have h3 : ¬ n < 0 := fun z => hneg (Or.inr (Or.inr (Or.inl z)))
  have hcat : zx_cat r ≤ 8 := Nat.not_lt.mp (fun z => hneg (Or.inr (Or.inr (Or.inr z))))
  have key : (∃ n0 n1, h.1[q0]? = some (.inr (2, n0)) ∧ h.1[q1]? = some (.inr (2, n1)) ∧ sp.toNatClampNeg + n.toNatClampNeg ≤ n0 ∧ dp.toNatClampNeg + n.toNatClampNeg ≤ n1 ∧ zx_01 (fun i => h.2.1 q0 (sp.toNatClampNeg + i)) n.toNatClampNeg = true ∧ q = (pc + 3, L, r, (h.1, zx_w1 h.2 q1 (va_cpy (h.2.1 q0) (h.2.1 q1) sp.toNatClampNeg dp.toNatClampNeg n.toNatClampNeg)))) ∨ (∃ n0 n1, h.1[q0]? = some (.inr (0, n0)) ∧ h.1[q1]? = some (.inr (0, n1)) ∧ sp.toNatClampNeg + n.toNatClampNeg ≤ n0 ∧ dp.toNatClampNeg + n.toNatClampNeg ≤ n1 ∧ q = (pc + 3, L, r, (h.1, zx_w1 h.2 q1 (va_cpy (h.2.1 q0) (h.2.1 q1) sp.toNatClampNeg dp.toNatClampNeg n.toNatClampNeg)))) ∨ (∃ n0 n1, h.1[q0]? = some (.inr (1, n0)) ∧ h.1[q1]? = some (.inr (1, n1)) ∧ sp.toNatClampNeg + n.toNatClampNeg ≤ n0 ∧ dp.toNatClampNeg + n.toNatClampNeg ≤ n1 ∧ q = (pc + 3, L, r, (h.1, zx_w2 h.2 q1 (va_cpy (h.2.2 q0) (h.2.2 q1) sp.toNatClampNeg dp.toNatClampNeg n.toNatClampNeg)))) := by
    split at hst
    · unfold zx_cpz at hst
      simp only [zx_nth_get] at hst
      split at hst
      case h_2 => simp at hst
      rename_i k0 n0 k1 n1 e0 e1
      cases hb : (Nat.beq k0 2 && (Nat.beq k1 2 && (Nat.ble (sp.toNatClampNeg + n.toNatClampNeg) n0 && Nat.ble (dp.toNatClampNeg + n.toNatClampNeg) n1))) with
      | false => rw [hb] at hst; simp at hst
      | true =>
        rw [hb] at hst
        simp only [cond_true] at hst
        cases h01 : zx_01 (fun i => h.2.1 q0 (sp.toNatClampNeg + i)) n.toNatClampNeg with
        | false => rw [h01] at hst; simp at hst
        | true =>
          rw [h01] at hst
          simp only [cond_true, Option.some.injEq] at hst
          rw [Bool.and_eq_true, Bool.and_eq_true, Bool.and_eq_true] at hb
          have g0 := Nat.eq_of_beq_eq_true hb.1
          have g1 := Nat.eq_of_beq_eq_true hb.2.1
          subst g0 g1
          exact Or.inl ⟨n0, n1, e0, e1, Nat.le_of_ble_eq_true hb.2.2.1, Nat.le_of_ble_eq_true hb.2.2.2, rfl, hst.symm⟩
    · unfold zx_cpy at hst
      simp only [zx_nth_get] at hst
      split at hst
      case h_2 => simp at hst
      rename_i k0 n0 k1 n1 e0 e1
      cases hb : (Nat.beq k0 k1 && (Nat.ble (sp.toNatClampNeg + n.toNatClampNeg) n0 && Nat.ble (dp.toNatClampNeg + n.toNatClampNeg) n1)) with
      | false => rw [hb] at hst; simp at hst
      | true =>
        rw [hb] at hst
        simp only [cond_true] at hst
        rw [Bool.and_eq_true, Bool.and_eq_true] at hb
        have g0 := Nat.eq_of_beq_eq_true hb.1
        subst g0
        cases hk0 : Nat.beq k0 0 with
        | true =>
          rw [hk0] at hst
          simp only [cond_true, Option.some.injEq] at hst
          have g1 := Nat.eq_of_beq_eq_true hk0
          subst g1
          exact Or.inr (Or.inl ⟨n0, n1, e0, e1, Nat.le_of_ble_eq_true hb.2.1, Nat.le_of_ble_eq_true hb.2.2, hst.symm⟩)
        | false =>
          rw [hk0] at hst
          simp only [cond_false] at hst
          cases hk1 : Nat.beq k0 1 with
          | false => rw [hk1] at hst; simp at hst
          | true =>
            rw [hk1] at hst
            simp only [cond_true, Option.some.injEq] at hst
            have g1 := Nat.eq_of_beq_eq_true hk1
            subst g1
            exact Or.inr (Or.inr ⟨n0, n1, e0, e1, Nat.le_of_ble_eq_true hb.2.1, Nat.le_of_ble_eq_true hb.2.2, hst.symm⟩)
  rcases key with ⟨n0, n1, e0, e1, h4, h5, h01, rfl⟩ | ⟨n0, n1, e0, e1, h4, h5, rfl⟩ | ⟨n0, n1, e0, e1, h4, h5, rfl⟩
  · simp only at hKc hNc
    have g1 : K = cells := by omega
    have g2 : N = slots := by omega
    subst g1 g2
    exact zs_cpb ho X Y hdg hf hd hcat h1 h2 h3 e0 e1 h4 h5 (zx_01_all h01) G
  · simp only at hKc hNc
    have g1 : K = cells := by omega
    have g2 : N = slots := by omega
    subst g1 g2
    exact zs_cpi ho X Y hdg hf hd hcat h1 h2 h3 e0 e1 h4 h5 G
  · simp only at hKc hNc
    have g1 : K = cells := by omega
    have g2 : N = slots := by omega
    subst g1 g2
    exact zs_cpl ho X Y hdg hf hd hcat h1 h2 h3 e0 e1 h4 h5 G
/-- what the library's indexOf does on the one text (proved apart) -/
def zx_IO (l : Launch) : Prop := ∀ (a : Nat) (x : Int32), Met l yJ0_indexOf_0f7a4 (.code yJ0_indexOf_0f7a4 cJ0_indexOf_0f7a4 2 (some .int) :: zx_B) ({ frames := 8, cells := 0, slots := 0, locals := 300 }) (va_Pc [.ref a, .int x] (fun U => zx_Ss (fun _ => False) a U U.heap)) (fun _ st oc t => oc = .returned (some (.int (zx_io x))) ∧ t.heap = st.heap) 0 0 (fun _ => False)
theorem zx_B_good {ws : List Cond} (h : ∀ w ∈ ws, w ∈ zx_B) : GoodIn zx_B ws := fun w hw => ⟨h w hw, good_of_word (List.mem_filter.mp (h w hw)).2⟩
theorem zs_io (hio : zx_IO l) {x : Int32} {r : List Value} {k0 : Nat} (ho : row.2.2.2.2.1 = o) (X : zx_X p R s m args meth c row D κ A d) (Y : zx_Y s row D κ A ρ h H locs L ls) (hdg : decode row.2.1 pc = .ok (.invokevirtual ix, 3)) (hf : zx_find (zx_mlt o) ix = some (14, k0)) (hd : 9 ≤ d) (hcat : zx_cat r ≤ 8) (hKR : cells ≤ R.cells) (hNR : slots ≤ R.slots) (G : zx_G p l e R s m args below meth c Q row D κ A cells slots h.1.length ρ (pc + 3, L, .int (zx_io x) :: r, h)) : W p l e R s m args below meth c H locs cells slots Q (F0 m pc ls ((.int x :: .ref 2000 :: r : List Value).map (zx_v ρ))) := by
  obtain ⟨hx, hb, hml, hown, hnm, hts, hK, hA, hRf, hRl, hM⟩ := X
  obtain ⟨hP, hD, hS, hZ, hl, hLn⟩ := id Y
  have hcl : row.1.cls = zx_on o := hM.2.2.2.1.trans (by rw [ho])
  rw [hcl] at hown
  have hml2 : c.maxLocals = ls.size := by rw [hml, hl.1, hLn]
  have hlk := zx_ml_ok o _ (zx_find_mem hf)
  obtain ⟨⟨t, hvk⟩, hcs⟩ := hZ.2.2.2
  have hss : zx_Ss A (ρ 2000) s H := ⟨⟨t, hvk.kept hS.2.1⟩, hcs.kept hS.2.1⟩
  have hpre : PreV s H RJ0 (ρ 2000) (va_Pc [.ref (ρ 2000), .int x] (fun U => zx_Ss (fun _ => False) (ρ 2000) U U.heap)) [.int x] := by
    refine ⟨fun a U g mk q => ?_, ?_, fun U hU hW => ?_⟩
    · obtain ⟨q0, ⟨t2, q1⟩, q2⟩ := q
      have ha : U.vm.Alike (U.calling g mk a).vm := Vm.Alike.refl U.vm
      exact ⟨q0, ⟨t2, vk_S.moved ha q1⟩, va_Z.moved ha q2⟩
    · exact vk_recv (i := 0) hvk (by decide) hS
    · refine ⟨rfl, ?_, ?_⟩
      · obtain ⟨⟨t2, q1⟩, q2⟩ := hss
        rw [hU]
        exact ⟨t2, vk_S.moved hW.alike (q1.narrow (fun _ z => z.elim))⟩
      · obtain ⟨⟨t2, q1⟩, q2⟩ := hss
        rw [hU]
        exact va_Z.moved hW.alike (q2.narrow (fun _ z => z.elim))
  have hgood : GoodIn zx_B (wsV (zx_on o) ix RJ0 yJ0_indexOf_0f7a4 (.code yJ0_indexOf_0f7a4 cJ0_indexOf_0f7a4 2 (some .int) :: zx_B)) := zx_B_good (fun w hw => by
    simp only [wsV, List.cons_append, List.nil_append, List.mem_cons] at hw
    rcases hw with rfl | rfl | rfl | rfl | rfl | hw
    · exact hlk
    · exact zb_io_i
    · exact zb_io_v
    · exact zb_str
    · exact zb_io_c
    · exact hw)
  have hrun := va_runV (As := [.int x]) (rest := r.map (zx_v ρ)) (locs := locs) (H := H) (g := F0 m pc ls ((.int x :: .ref 2000 :: r : List Value).map (zx_v ρ))) (e := e) (below := below) (meth := meth) (cells := cells) (slots := slots) (b := ρ 2000) ⟨hx, hb, hml2, hown, hts⟩ (hio (ρ 2000) x) (cwV 1 hts hgood rfl rfl rfl (by decide +kernel) ⟨by show 8 + 1 ≤ R.frames; omega, by show 8 + (2 + 11) + 300 ≤ R.locals; omega⟩) hpre rfl rfl rfl rfl (by show 2 * 0 + _ ≤ 8; rw [zx_cat_sum]; omega) hdg ⟨by omega, by omega⟩
  intro T hT XX
  obtain ⟨v, st₀, t2, T', LL, h0, X', hL, e1, e2, ⟨hv, hh⟩, stp⟩ := hrun T hT XX
  cases hv
  have hT' : T'.heap = H := by rw [e1, hh, h0]
  have hLL : LL = [] := by
    cases LL with
    | nil => rfl
    | cons z zs => exact (hL z List.mem_cons_self).elim
  subst hLL
  rw [List.append_nil] at X'
  obtain ⟨t3, a1, b1⟩ := zx_G_same G Y T' hT' X'
  exact ⟨t3, stp t3 a1, b1⟩
/-- steps that leave the cells as they are -/
def zx_kp : Instr → Bool
  | .putfield _ => false
  | .new _ => false
  | .newarray _ => false
  | .iastore => false
  | .bastore => false
  | .lastore => false
  | .invokestatic _ => false
  | .invokevirtual _ => false
  | .invokespecial _ => false
  | _ => true
theorem zx_keep {i : Instr} (hst : zx_step d o b pc i L st h = some q) (hk : zx_kp i = true) : q.2.2.2 = h := by
  have hbr : ∀ {P : Prop} [Decidable P] {off : Int} {r : List Value}, zx_br P pc off L r h = some q → q.2.2.2 = h := by
    intro P _ off r h1
    obtain ⟨t, -, rfl⟩ := zx_br_inv h1
    rfl
  cases i with
  | ifCond cd off =>
    simp only [zx_step] at hst
    split at hst
    · cases cd <;> exact hbr hst
    · simp at hst
  | if_icmp cd off =>
    simp only [zx_step] at hst
    split at hst
    · cases cd <;> exact hbr hst
    · simp at hst
  | _ =>
    first
      | (simp [zx_kp] at hk; done)
      | (simp [zx_step] at hst; done)
      | (simp only [zx_step, zx_lda, zx_ldi, zx_ldl, zx_sta, zx_sti, zx_stl, zx_i1, zx_i2, zx_l2, zx_di, zx_dl, zx_ldc, zx_aln, zx_ild, zx_lld, zx_gf, zx_sw, cond_eq_ite] at hst
         repeat' (first | (simp at hst; done) | split at hst)
         all_goals (first | (simp at hst; done) | (simp only [Option.some.injEq] at hst; subst hst; rfl)))
theorem zs_ist_keep (hst : zx_ist pc L st h = some q) : q.2.2.2.1 = h.1 := by
  simp only [zx_ist, cond_eq_ite] at hst
  repeat' (first | (simp at hst; done) | split at hst)
  all_goals (first | (simp at hst; done) | (simp only [Option.some.injEq] at hst; subst hst; rfl))
theorem zs_zst_keep (hst : zx_zst pc L st h = some q) : q.2.2.2.1 = h.1 := by
  simp only [zx_zst, cond_eq_ite] at hst
  repeat' (first | (simp at hst; done) | split at hst)
  all_goals (first | (simp at hst; done) | (simp only [Option.some.injEq] at hst; subst hst; rfl))
theorem zs_lst_keep (hst : zx_lst pc L st h = some q) : q.2.2.2.1 = h.1 := by
  simp only [zx_lst, cond_eq_ite] at hst
  repeat' (first | (simp at hst; done) | split at hst)
  all_goals (first | (simp at hst; done) | (simp only [Option.some.injEq] at hst; subst hst; rfl))
theorem zx_step_ok (hio : zx_IO l) {i : Instr} {n : Nat} (ho : row.2.2.2.2.1 = o) (X : zx_X p R s m args meth c row D κ A d) (Y : zx_Y s row D κ A ρ h H locs L ls) (hdg : decode row.2.1 pc = .ok (i, n)) (hlen : zx_len i n = true) (hst : zx_step d o (decide (row.1.name = "<init>")) pc i L st h = some q) (hKc : cells + q.2.2.2.1.length = K + h.1.length) (hNc : slots + zx_sz q.2.2.2.1 = N + zx_sz h.1) (hKR : K ≤ R.cells) (hNR : N ≤ R.slots) (G : zx_G p l e R s m args below meth c Q row D κ A K N h.1.length ρ q) : W p l e R s m args below meth c H locs cells slots Q (F0 m pc ls (st.map (zx_v ρ))) := by
  have hsame : q.2.2.2 = h → W p l e R s m args below meth c H locs cells slots Q (F0 m pc ls (st.map (zx_v ρ))) ∨ (K = cells ∧ N = slots) := fun hq => by
    rw [hq] at hKc hNc
    exact Or.inr ⟨by omega, by omega⟩
  cases i with
  | aload k =>
    have hn : n = 2 := Nat.eq_of_beq_eq_true hlen
    subst hn
    have hq : q.2.2.2 = h := zx_keep hst (by rfl)
    rw [hq] at hKc hNc
    have g1 : K = cells := by omega
    have g2 : N = slots := by omega
    subst g1 g2
    exact zs_aload X Y hdg hst G
  | aload_n k =>
    have hn : n = 1 := Nat.eq_of_beq_eq_true hlen
    subst hn
    have hq : q.2.2.2 = h := zx_keep hst (by rfl)
    rw [hq] at hKc hNc
    have g1 : K = cells := by omega
    have g2 : N = slots := by omega
    subst g1 g2
    exact zs_aload_n X Y hdg hst G
  | iload k =>
    have hn : n = 2 := Nat.eq_of_beq_eq_true hlen
    subst hn
    have hq : q.2.2.2 = h := zx_keep hst (by rfl)
    rw [hq] at hKc hNc
    have g1 : K = cells := by omega
    have g2 : N = slots := by omega
    subst g1 g2
    exact zs_iload X Y hdg hst G
  | iload_n k =>
    have hn : n = 1 := Nat.eq_of_beq_eq_true hlen
    subst hn
    have hq : q.2.2.2 = h := zx_keep hst (by rfl)
    rw [hq] at hKc hNc
    have g1 : K = cells := by omega
    have g2 : N = slots := by omega
    subst g1 g2
    exact zs_iload_n X Y hdg hst G
  | lload k =>
    have hn : n = 2 := Nat.eq_of_beq_eq_true hlen
    subst hn
    have hq : q.2.2.2 = h := zx_keep hst (by rfl)
    rw [hq] at hKc hNc
    have g1 : K = cells := by omega
    have g2 : N = slots := by omega
    subst g1 g2
    exact zs_lload X Y hdg hst G
  | lload_n k =>
    have hn : n = 1 := Nat.eq_of_beq_eq_true hlen
    subst hn
    have hq : q.2.2.2 = h := zx_keep hst (by rfl)
    rw [hq] at hKc hNc
    have g1 : K = cells := by omega
    have g2 : N = slots := by omega
    subst g1 g2
    exact zs_lload_n X Y hdg hst G
  | astore_n k =>
    have hn : n = 1 := Nat.eq_of_beq_eq_true hlen
    subst hn
    have hq : q.2.2.2 = h := zx_keep hst (by rfl)
    rw [hq] at hKc hNc
    have g1 : K = cells := by omega
    have g2 : N = slots := by omega
    subst g1 g2
    exact zs_astore_n X Y hdg hst G
  | istore k =>
    have hn : n = 2 := Nat.eq_of_beq_eq_true hlen
    subst hn
    have hq : q.2.2.2 = h := zx_keep hst (by rfl)
    rw [hq] at hKc hNc
    have g1 : K = cells := by omega
    have g2 : N = slots := by omega
    subst g1 g2
    exact zs_istore X Y hdg hst G
  | istore_n k =>
    have hn : n = 1 := Nat.eq_of_beq_eq_true hlen
    subst hn
    have hq : q.2.2.2 = h := zx_keep hst (by rfl)
    rw [hq] at hKc hNc
    have g1 : K = cells := by omega
    have g2 : N = slots := by omega
    subst g1 g2
    exact zs_istore_n X Y hdg hst G
  | lstore k =>
    have hn : n = 2 := Nat.eq_of_beq_eq_true hlen
    subst hn
    have hq : q.2.2.2 = h := zx_keep hst (by rfl)
    rw [hq] at hKc hNc
    have g1 : K = cells := by omega
    have g2 : N = slots := by omega
    subst g1 g2
    exact zs_lstore X Y hdg hst G
  | lstore_n k =>
    have hn : n = 1 := Nat.eq_of_beq_eq_true hlen
    subst hn
    have hq : q.2.2.2 = h := zx_keep hst (by rfl)
    rw [hq] at hKc hNc
    have g1 : K = cells := by omega
    have g2 : N = slots := by omega
    subst g1 g2
    exact zs_lstore_n X Y hdg hst G
  | iinc k z =>
    have hn : n = 3 := Nat.eq_of_beq_eq_true hlen
    subst hn
    have hq : q.2.2.2 = h := zx_keep hst (by rfl)
    rw [hq] at hKc hNc
    have g1 : K = cells := by omega
    have g2 : N = slots := by omega
    subst g1 g2
    exact zs_iinc X Y hdg hst G
  | iconst z =>
    have hn : n = 1 := Nat.eq_of_beq_eq_true hlen
    subst hn
    have hq : q.2.2.2 = h := zx_keep hst (by rfl)
    rw [hq] at hKc hNc
    have g1 : K = cells := by omega
    have g2 : N = slots := by omega
    subst g1 g2
    exact zs_k1 X Y hdg hst G
  | bipush z =>
    have hn : n = 2 := Nat.eq_of_beq_eq_true hlen
    subst hn
    have hq : q.2.2.2 = h := zx_keep hst (by rfl)
    rw [hq] at hKc hNc
    have g1 : K = cells := by omega
    have g2 : N = slots := by omega
    subst g1 g2
    exact zs_k2 X Y hdg hst G
  | sipush z =>
    have hn : n = 3 := Nat.eq_of_beq_eq_true hlen
    subst hn
    have hq : q.2.2.2 = h := zx_keep hst (by rfl)
    rw [hq] at hKc hNc
    have g1 : K = cells := by omega
    have g2 : N = slots := by omega
    subst g1 g2
    exact zs_k3 X Y hdg hst G
  | lconst z =>
    have hn : n = 1 := Nat.eq_of_beq_eq_true hlen
    subst hn
    have hq : q.2.2.2 = h := zx_keep hst (by rfl)
    rw [hq] at hKc hNc
    have g1 : K = cells := by omega
    have g2 : N = slots := by omega
    subst g1 g2
    exact zs_k4 X Y hdg hst G
  | ldc ix =>
    have hn : n = 2 := Nat.eq_of_beq_eq_true hlen
    subst hn
    have hq : q.2.2.2 = h := zx_keep hst (by rfl)
    rw [hq] at hKc hNc
    have g1 : K = cells := by omega
    have g2 : N = slots := by omega
    subst g1 g2
    exact zs_ldc ho X Y hdg hst G
  | ldc2_w ix =>
    have hn : n = 3 := Nat.eq_of_beq_eq_true hlen
    subst hn
    have hq : q.2.2.2 = h := zx_keep hst (by rfl)
    rw [hq] at hKc hNc
    have g1 : K = cells := by omega
    have g2 : N = slots := by omega
    subst g1 g2
    exact zs_ldc2 ho X Y hdg hst G
  | ldc_w ix =>
    have hn : n = 3 := Nat.eq_of_beq_eq_true hlen
    subst hn
    have hq : q.2.2.2 = h := zx_keep hst (by rfl)
    rw [hq] at hKc hNc
    have g1 : K = cells := by omega
    have g2 : N = slots := by omega
    subst g1 g2
    exact zs_ldcw ho X Y hdg hst G
  | iadd =>
    have hn : n = 1 := Nat.eq_of_beq_eq_true hlen
    subst hn
    have hq : q.2.2.2 = h := zx_keep hst (by rfl)
    rw [hq] at hKc hNc
    have g1 : K = cells := by omega
    have g2 : N = slots := by omega
    subst g1 g2
    exact zs_iadd X Y hdg hst G
  | isub =>
    have hn : n = 1 := Nat.eq_of_beq_eq_true hlen
    subst hn
    have hq : q.2.2.2 = h := zx_keep hst (by rfl)
    rw [hq] at hKc hNc
    have g1 : K = cells := by omega
    have g2 : N = slots := by omega
    subst g1 g2
    exact zs_isub X Y hdg hst G
  | imul =>
    have hn : n = 1 := Nat.eq_of_beq_eq_true hlen
    subst hn
    have hq : q.2.2.2 = h := zx_keep hst (by rfl)
    rw [hq] at hKc hNc
    have g1 : K = cells := by omega
    have g2 : N = slots := by omega
    subst g1 g2
    exact zs_imul X Y hdg hst G
  | idiv =>
    have hn : n = 1 := Nat.eq_of_beq_eq_true hlen
    subst hn
    have hq : q.2.2.2 = h := zx_keep hst (by rfl)
    rw [hq] at hKc hNc
    have g1 : K = cells := by omega
    have g2 : N = slots := by omega
    subst g1 g2
    exact zs_idiv X Y hdg hst G
  | irem =>
    have hn : n = 1 := Nat.eq_of_beq_eq_true hlen
    subst hn
    have hq : q.2.2.2 = h := zx_keep hst (by rfl)
    rw [hq] at hKc hNc
    have g1 : K = cells := by omega
    have g2 : N = slots := by omega
    subst g1 g2
    exact zs_irem X Y hdg hst G
  | ineg =>
    have hn : n = 1 := Nat.eq_of_beq_eq_true hlen
    subst hn
    have hq : q.2.2.2 = h := zx_keep hst (by rfl)
    rw [hq] at hKc hNc
    have g1 : K = cells := by omega
    have g2 : N = slots := by omega
    subst g1 g2
    exact zs_ineg X Y hdg hst G
  | iand =>
    have hn : n = 1 := Nat.eq_of_beq_eq_true hlen
    subst hn
    have hq : q.2.2.2 = h := zx_keep hst (by rfl)
    rw [hq] at hKc hNc
    have g1 : K = cells := by omega
    have g2 : N = slots := by omega
    subst g1 g2
    exact zs_iand X Y hdg hst G
  | ior =>
    have hn : n = 1 := Nat.eq_of_beq_eq_true hlen
    subst hn
    have hq : q.2.2.2 = h := zx_keep hst (by rfl)
    rw [hq] at hKc hNc
    have g1 : K = cells := by omega
    have g2 : N = slots := by omega
    subst g1 g2
    exact zs_ior X Y hdg hst G
  | ixor =>
    have hn : n = 1 := Nat.eq_of_beq_eq_true hlen
    subst hn
    have hq : q.2.2.2 = h := zx_keep hst (by rfl)
    rw [hq] at hKc hNc
    have g1 : K = cells := by omega
    have g2 : N = slots := by omega
    subst g1 g2
    exact zs_ixor X Y hdg hst G
  | ishl =>
    have hn : n = 1 := Nat.eq_of_beq_eq_true hlen
    subst hn
    have hq : q.2.2.2 = h := zx_keep hst (by rfl)
    rw [hq] at hKc hNc
    have g1 : K = cells := by omega
    have g2 : N = slots := by omega
    subst g1 g2
    exact zs_ishl X Y hdg hst G
  | ishr =>
    have hn : n = 1 := Nat.eq_of_beq_eq_true hlen
    subst hn
    have hq : q.2.2.2 = h := zx_keep hst (by rfl)
    rw [hq] at hKc hNc
    have g1 : K = cells := by omega
    have g2 : N = slots := by omega
    subst g1 g2
    exact zs_ishr X Y hdg hst G
  | iushr =>
    have hn : n = 1 := Nat.eq_of_beq_eq_true hlen
    subst hn
    have hq : q.2.2.2 = h := zx_keep hst (by rfl)
    rw [hq] at hKc hNc
    have g1 : K = cells := by omega
    have g2 : N = slots := by omega
    subst g1 g2
    exact zs_iushr X Y hdg hst G
  | ladd =>
    have hn : n = 1 := Nat.eq_of_beq_eq_true hlen
    subst hn
    have hq : q.2.2.2 = h := zx_keep hst (by rfl)
    rw [hq] at hKc hNc
    have g1 : K = cells := by omega
    have g2 : N = slots := by omega
    subst g1 g2
    exact zs_ladd X Y hdg hst G
  | lmul =>
    have hn : n = 1 := Nat.eq_of_beq_eq_true hlen
    subst hn
    have hq : q.2.2.2 = h := zx_keep hst (by rfl)
    rw [hq] at hKc hNc
    have g1 : K = cells := by omega
    have g2 : N = slots := by omega
    subst g1 g2
    exact zs_lmul X Y hdg hst G
  | ldiv =>
    have hn : n = 1 := Nat.eq_of_beq_eq_true hlen
    subst hn
    have hq : q.2.2.2 = h := zx_keep hst (by rfl)
    rw [hq] at hKc hNc
    have g1 : K = cells := by omega
    have g2 : N = slots := by omega
    subst g1 g2
    exact zs_ldiv X Y hdg hst G
  | lrem =>
    have hn : n = 1 := Nat.eq_of_beq_eq_true hlen
    subst hn
    have hq : q.2.2.2 = h := zx_keep hst (by rfl)
    rw [hq] at hKc hNc
    have g1 : K = cells := by omega
    have g2 : N = slots := by omega
    subst g1 g2
    exact zs_lrem X Y hdg hst G
  | i2c =>
    have hn : n = 1 := Nat.eq_of_beq_eq_true hlen
    subst hn
    have hq : q.2.2.2 = h := zx_keep hst (by rfl)
    rw [hq] at hKc hNc
    have g1 : K = cells := by omega
    have g2 : N = slots := by omega
    subst g1 g2
    exact zs_i2c X Y hdg hst G
  | i2b =>
    have hn : n = 1 := Nat.eq_of_beq_eq_true hlen
    subst hn
    have hq : q.2.2.2 = h := zx_keep hst (by rfl)
    rw [hq] at hKc hNc
    have g1 : K = cells := by omega
    have g2 : N = slots := by omega
    subst g1 g2
    exact zs_i2b X Y hdg hst G
  | i2s =>
    have hn : n = 1 := Nat.eq_of_beq_eq_true hlen
    subst hn
    have hq : q.2.2.2 = h := zx_keep hst (by rfl)
    rw [hq] at hKc hNc
    have g1 : K = cells := by omega
    have g2 : N = slots := by omega
    subst g1 g2
    exact zs_i2s X Y hdg hst G
  | i2l =>
    have hn : n = 1 := Nat.eq_of_beq_eq_true hlen
    subst hn
    have hq : q.2.2.2 = h := zx_keep hst (by rfl)
    rw [hq] at hKc hNc
    have g1 : K = cells := by omega
    have g2 : N = slots := by omega
    subst g1 g2
    exact zs_i2l X Y hdg hst G
  | l2i =>
    have hn : n = 1 := Nat.eq_of_beq_eq_true hlen
    subst hn
    have hq : q.2.2.2 = h := zx_keep hst (by rfl)
    rw [hq] at hKc hNc
    have g1 : K = cells := by omega
    have g2 : N = slots := by omega
    subst g1 g2
    exact zs_l2i X Y hdg hst G
  | lcmp =>
    have hn : n = 1 := Nat.eq_of_beq_eq_true hlen
    subst hn
    have hq : q.2.2.2 = h := zx_keep hst (by rfl)
    rw [hq] at hKc hNc
    have g1 : K = cells := by omega
    have g2 : N = slots := by omega
    subst g1 g2
    exact zs_lcmp X Y hdg hst G
  | dup =>
    have hn : n = 1 := Nat.eq_of_beq_eq_true hlen
    subst hn
    have hq : q.2.2.2 = h := zx_keep hst (by rfl)
    rw [hq] at hKc hNc
    have g1 : K = cells := by omega
    have g2 : N = slots := by omega
    subst g1 g2
    exact zs_dup X Y hdg hst G
  | pop =>
    have hn : n = 1 := Nat.eq_of_beq_eq_true hlen
    subst hn
    have hq : q.2.2.2 = h := zx_keep hst (by rfl)
    rw [hq] at hKc hNc
    have g1 : K = cells := by omega
    have g2 : N = slots := by omega
    subst g1 g2
    exact zs_pop X Y hdg hst G
  | dup2 =>
    have hn : n = 1 := Nat.eq_of_beq_eq_true hlen
    subst hn
    have hq : q.2.2.2 = h := zx_keep hst (by rfl)
    rw [hq] at hKc hNc
    have g1 : K = cells := by omega
    have g2 : N = slots := by omega
    subst g1 g2
    exact zs_dup2 X Y hdg hst G
  | ifnonnull off =>
    have hn : n = 3 := Nat.eq_of_beq_eq_true hlen
    subst hn
    have hq : q.2.2.2 = h := zx_keep hst (by rfl)
    rw [hq] at hKc hNc
    have g1 : K = cells := by omega
    have g2 : N = slots := by omega
    subst g1 g2
    exact zs_nn X Y hdg hst G
  | goto off =>
    have hn : n = 3 := Nat.eq_of_beq_eq_true hlen
    subst hn
    have hq : q.2.2.2 = h := zx_keep hst (by rfl)
    rw [hq] at hKc hNc
    have g1 : K = cells := by omega
    have g2 : N = slots := by omega
    subst g1 g2
    exact zs_goto X Y hdg hst G
  | arraylength =>
    have hn : n = 1 := Nat.eq_of_beq_eq_true hlen
    subst hn
    have hq : q.2.2.2 = h := zx_keep hst (by rfl)
    rw [hq] at hKc hNc
    have g1 : K = cells := by omega
    have g2 : N = slots := by omega
    subst g1 g2
    exact zs_aln X Y hdg hst G
  | iaload =>
    have hn : n = 1 := Nat.eq_of_beq_eq_true hlen
    subst hn
    have hq : q.2.2.2 = h := zx_keep hst (by rfl)
    rw [hq] at hKc hNc
    have g1 : K = cells := by omega
    have g2 : N = slots := by omega
    subst g1 g2
    exact zs_ild0 X Y hdg hst G
  | baload =>
    have hn : n = 1 := Nat.eq_of_beq_eq_true hlen
    subst hn
    have hq : q.2.2.2 = h := zx_keep hst (by rfl)
    rw [hq] at hKc hNc
    have g1 : K = cells := by omega
    have g2 : N = slots := by omega
    subst g1 g2
    exact zs_ild2 X Y hdg hst G
  | laload =>
    have hn : n = 1 := Nat.eq_of_beq_eq_true hlen
    subst hn
    have hq : q.2.2.2 = h := zx_keep hst (by rfl)
    rw [hq] at hKc hNc
    have g1 : K = cells := by omega
    have g2 : N = slots := by omega
    subst g1 g2
    exact zs_lld X Y hdg hst G
  | getfield ix =>
    have hn : n = 3 := Nat.eq_of_beq_eq_true hlen
    subst hn
    have hq : q.2.2.2 = h := zx_keep hst (by rfl)
    rw [hq] at hKc hNc
    have g1 : K = cells := by omega
    have g2 : N = slots := by omega
    subst g1 g2
    exact zs_gf ho X Y hdg hst G
  | getstatic ix =>
    have hn : n = 3 := Nat.eq_of_beq_eq_true hlen
    subst hn
    have hq : q.2.2.2 = h := zx_keep hst (by rfl)
    rw [hq] at hKc hNc
    have g1 : K = cells := by omega
    have g2 : N = slots := by omega
    subst g1 g2
    exact zs_gs ho X Y hdg hst G
  | ifCond cd off =>
    have hn : n = 3 := Nat.eq_of_beq_eq_true hlen
    subst hn
    have hq : q.2.2.2 = h := zx_keep hst (by rfl)
    rw [hq] at hKc hNc
    have g1 : K = cells := by omega
    have g2 : N = slots := by omega
    subst g1 g2
    cases st with
    | nil => simp [zx_step] at hst
    | cons v r =>
      cases v with
      | int x => exact zs_if X Y hdg hst G
      | _ => simp [zx_step] at hst
  | if_icmp cd off =>
    have hn : n = 3 := Nat.eq_of_beq_eq_true hlen
    subst hn
    have hq : q.2.2.2 = h := zx_keep hst (by rfl)
    rw [hq] at hKc hNc
    have g1 : K = cells := by omega
    have g2 : N = slots := by omega
    subst g1 g2
    cases st with
    | nil => simp [zx_step] at hst
    | cons v r =>
      cases v with
      | int y =>
        cases r with
        | nil => simp [zx_step] at hst
        | cons w r =>
          cases w with
          | int x => exact zs_ic X Y hdg hst G
          | _ => simp [zx_step] at hst
      | _ => simp [zx_step] at hst
  | tableswitch dflt lo hi offs =>
    have hq : q.2.2.2 = h := zx_keep hst (by rfl)
    rw [hq] at hKc hNc
    have g1 : K = cells := by omega
    have g2 : N = slots := by omega
    subst g1 g2
    simp only [zx_step] at hst
    cases hc : (decide (lo ≤ hi) && decide ((offs.size : Int) = hi - lo + 1)) with
    | false => rw [hc] at hst; simp at hst
    | true =>
      rw [hc] at hst
      rw [Bool.and_eq_true, decide_eq_true_eq, decide_eq_true_eq] at hc
      exact zs_tab X Y hdg hc.2 hst G
  | lookupswitch dflt ps =>
    have hq : q.2.2.2 = h := zx_keep hst (by rfl)
    rw [hq] at hKc hNc
    have g1 : K = cells := by omega
    have g2 : N = slots := by omega
    subst g1 g2
    simp only [zx_step] at hst
    cases hc : (ps.toList.zip (ps.toList.drop 1)).all (fun q => q.1.1 < q.2.1) with
    | false => rw [hc] at hst; simp at hst
    | true =>
      rw [hc] at hst
      exact zs_look X Y hdg hc hst G
  | putfield ix =>
    have hn : n = 3 := Nat.eq_of_beq_eq_true hlen
    subst hn
    exact zs_pf ho X Y hdg hst hKc hNc G
  | new ix =>
    have hn : n = 3 := Nat.eq_of_beq_eq_true hlen
    subst hn
    exact zs_new ho X Y hdg hst hKc hNc hKR hNR G
  | newarray ty =>
    have hn : n = 2 := Nat.eq_of_beq_eq_true hlen
    subst hn
    exact zs_nwa X Y hdg hst hKc hNc hKR hNR G
  | iastore =>
    have hn : n = 1 := Nat.eq_of_beq_eq_true hlen
    subst hn
    have hq : q.2.2.2.1 = h.1 := zs_ist_keep hst
    rw [hq] at hKc hNc
    have g1 : K = cells := by omega
    have g2 : N = slots := by omega
    subst g1 g2
    exact zs_ist X Y hdg hst G
  | bastore =>
    have hn : n = 1 := Nat.eq_of_beq_eq_true hlen
    subst hn
    have hq : q.2.2.2.1 = h.1 := zs_zst_keep hst
    rw [hq] at hKc hNc
    have g1 : K = cells := by omega
    have g2 : N = slots := by omega
    subst g1 g2
    exact zs_zst X Y hdg hst G
  | lastore =>
    have hn : n = 1 := Nat.eq_of_beq_eq_true hlen
    subst hn
    have hq : q.2.2.2.1 = h.1 := zs_lst_keep hst
    rw [hq] at hKc hNc
    have g1 : K = cells := by omega
    have g2 : N = slots := by omega
    subst g1 g2
    exact zs_lst X Y hdg hst G
  | invokestatic ix =>
    have hn : n = 3 := Nat.eq_of_beq_eq_true hlen
    subst hn
    simp only [zx_step, zx_nat] at hst
    cases hf : zx_find (zx_mlt o) ix with
    | none => rw [hf] at hst; simp at hst
    | some e0 =>
      obtain ⟨kd, k0⟩ := e0
      rw [hf] at hst
      cases d with
      | zero => simp at hst
      | succ d =>
        simp only at hst
        by_cases h13 : kd = 13
        · subst h13
          exact zs_cp ho X Y hdg hf (Nat.succ_pos d) hst hKc hNc G
        unfold zx_nS at hst
        split at hst
        · split at hst
          case h_2 => simp at hst
          rename_i x r
          cases hc : Nat.ble (zx_cat r) 8 with
          | false => rw [hc] at hst; simp at hst
          | true =>
            rw [hc] at hst
            simp only [cond_true, Option.some.injEq] at hst
            subst hst
            simp only at hKc hNc
            have g1 : K = cells := by omega
            have g2 : N = slots := by omega
            subst g1 g2
            exact zs_abs ho X Y hdg hf (Nat.succ_pos d) (Nat.le_of_ble_eq_true hc) hKR hNR G
        · split at hst
          case h_2 => simp at hst
          rename_i y x r
          cases hc : Nat.ble (zx_cat r) 8 with
          | false => rw [hc] at hst; simp at hst
          | true =>
            rw [hc] at hst
            simp only [cond_true, Option.some.injEq] at hst
            subst hst
            simp only at hKc hNc
            have g1 : K = cells := by omega
            have g2 : N = slots := by omega
            subst g1 g2
            exact zs_max ho X Y hdg hf (Nat.succ_pos d) (Nat.le_of_ble_eq_true hc) hKR hNR G
        · split at hst
          case h_2 => simp at hst
          rename_i y x r
          cases hc : Nat.ble (zx_cat r) 8 with
          | false => rw [hc] at hst; simp at hst
          | true =>
            rw [hc] at hst
            simp only [cond_true, Option.some.injEq] at hst
            subst hst
            simp only at hKc hNc
            have g1 : K = cells := by omega
            have g2 : N = slots := by omega
            subst g1 g2
            exact zs_min ho X Y hdg hf (Nat.succ_pos d) (Nat.le_of_ble_eq_true hc) hKR hNR G
        · exact absurd rfl h13
        · simp at hst
  | invokevirtual ix =>
    have hn : n = 3 := Nat.eq_of_beq_eq_true hlen
    subst hn
    simp only [zx_step, zx_nat] at hst
    cases hf : zx_find (zx_mlt o) ix with
    | none => rw [hf] at hst; simp at hst
    | some e0 =>
      obtain ⟨kd, k0⟩ := e0
      rw [hf] at hst
      cases d with
      | zero => simp at hst
      | succ d =>
        simp only at hst
        unfold zx_nV at hst
        split at hst
        case h_2 => simp at hst
        split at hst
        case h_2 => simp at hst
        rename_i x q0 r
        cases hc : (Nat.ble 9 (d + 1) && (Nat.beq q0 2000 && Nat.ble (zx_cat r) 8)) with
        | false => rw [hc] at hst; simp at hst
        | true =>
          rw [hc] at hst
          simp only [cond_true, Option.some.injEq] at hst
          subst hst
          rw [Bool.and_eq_true, Bool.and_eq_true] at hc
          have hq0 := Nat.eq_of_beq_eq_true hc.2.1
          subst hq0
          simp only at hKc hNc
          have g1 : K = cells := by omega
          have g2 : N = slots := by omega
          subst g1 g2
          exact zs_io hio ho X Y hdg hf (Nat.le_of_ble_eq_true hc.1) (Nat.le_of_ble_eq_true hc.2.2) hKR hNR G
  | invokespecial ix =>
    have hn : n = 3 := Nat.eq_of_beq_eq_true hlen
    subst hn
    simp only [zx_step, zx_nat] at hst
    cases hf : zx_find (zx_mlt o) ix with
    | none => rw [hf] at hst; simp at hst
    | some e0 =>
      obtain ⟨kd, k0⟩ := e0
      rw [hf] at hst
      cases d with
      | zero => simp at hst
      | succ d =>
        simp only at hst
        unfold zx_nI at hst
        split at hst
        case h_2 => simp at hst
        split at hst
        case h_2 => simp at hst
        rename_i x r
        cases hc : Nat.ble (zx_cat r) 8 with
        | false => rw [hc] at hst; simp at hst
        | true =>
          rw [hc] at hst
          simp only [cond_true, Option.some.injEq] at hst
          subst hst
          simp only at hKc hNc
          have g1 : K = cells := by omega
          have g2 : N = slots := by omega
          subst g1 g2
          exact zs_obj ho X Y hdg hf (Nat.succ_pos d) (Nat.le_of_ble_eq_true hc) G
  | _ => simp [zx_step] at hst
end ZX

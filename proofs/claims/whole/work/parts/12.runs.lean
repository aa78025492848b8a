/-! rules for runs of the machine -/
theorem zx_run_succ : ∀ (n d k pc : Nat) (L : zx_L) (st : List Value) (h : zx_H) (out : Option Value × zx_H), zx_run n d k pc L st h = some out → zx_run (n + 1) d k pc L st h = some out := by
  intro n
  induction n with
  | zero => intro d k pc L st h out hr; simp [zx_run] at hr
  | succ n ih =>
    intro d k pc L st h out hr
    rw [zx_run] at hr ⊢
    cases ha : zx_at (zx_cd k) pc with
    | none => rw [ha] at hr; simp at hr
    | some e0 =>
      obtain ⟨i, len⟩ := e0
      rw [ha] at hr
      simp only at hr ⊢
      cases hst : zx_step d (zx_own k) (zx_ini k) pc i L st h with
      | some q =>
        obtain ⟨pc1, L1, st1, h1⟩ := q
        rw [hst] at hr
        simp only at hr ⊢
        exact ih _ _ _ _ _ _ _ hr
      | none =>
        rw [hst] at hr
        simp only at hr ⊢
        cases hre : zx_ret (zx_rt k) i st with
        | some r => rw [hre] at hr; exact hr
        | none =>
          rw [hre] at hr
          simp only at hr ⊢
          cases d with
          | zero => simp at hr
          | succ d =>
            simp only at hr ⊢
            cases hin : zx_inv (zx_own k) i with
            | none => rw [hin] at hr; simp at hr
            | some e1 =>
              obtain ⟨kd, ck⟩ := e1
              rw [hin] at hr
              simp only at hr ⊢
              cases har : zx_args kd ck L st h with
              | none => rw [har] at hr; simp at hr
              | some e2 =>
                obtain ⟨as, r⟩ := e2
                rw [har] at hr
                simp only at hr ⊢
                cases hc : zx_run n d ck 0 (zx_en (zx_ml ck) as) [] h with
                | none => rw [hc] at hr; simp at hr
                | some e3 =>
                  obtain ⟨v, h1⟩ := e3
                  rw [hc] at hr
                  rw [ih _ _ _ _ _ _ _ hc]
                  simp only at hr ⊢
                  exact ih _ _ _ _ _ _ _ hr
theorem zx_run_le {n m d k pc : Nat} {L : zx_L} {st : List Value} {h : zx_H} {out : Option Value × zx_H} (hr : zx_run n d k pc L st h = some out) (hm : n ≤ m) : zx_run m d k pc L st h = some out := by
  obtain ⟨j, rfl⟩ := Nat.exists_eq_add_of_le hm
  clear hm
  induction j with
  | zero => exact hr
  | succ j ih => exact zx_run_succ _ _ _ _ _ _ _ _ ih
/-- fewer locals known -/
def zx_num (w : Value) : Prop := match w with
  | .int _ => True
  | .long _ => True
  | _ => False
def zx_sub : zx_L → zx_L → Prop
  | [], [] => True
  | none :: t, none :: t' => zx_sub t t'
  | none :: t, some w :: t' => zx_num w ∧ zx_sub t t'
  | some v :: t, some w :: t' => v = w ∧ zx_sub t t'
  | _, _ => False
theorem zx_sub_len : ∀ {L L' : zx_L}, zx_sub L L' → L'.length = L.length := by
  intro L
  induction L with
  | nil => intro L' h; cases L' with
    | nil => rfl
    | cons a t => simp [zx_sub] at h
  | cons o t ih =>
    intro L' h
    cases L' with
    | nil => cases o <;> simp [zx_sub] at h
    | cons o' t' =>
      cases o <;> cases o' <;> simp only [zx_sub] at h
      · simp [ih h]
      · simp [ih h.2]
      · simp [ih h.2]
theorem zx_sub_nth : ∀ {L L' : zx_L}, zx_sub L L' → ∀ {i : Nat} {v : Value}, zx_nth L i = some (some v) → zx_nth L' i = some (some v) := by
  intro L
  induction L with
  | nil => intro L' _ i v h; simp [zx_nth] at h
  | cons o t ih =>
    intro L' h i v hi
    cases L' with
    | nil => cases o <;> simp [zx_sub] at h
    | cons o' t' =>
      cases o <;> cases o' <;> simp only [zx_sub] at h
      · cases i with
        | zero => simp [zx_nth] at hi
        | succ i => exact ih h hi
      · cases i with
        | zero => simp [zx_nth] at hi
        | succ i => exact ih h.2 hi
      · cases i with
        | zero => simp only [zx_nth] at hi ⊢; rw [← h.1]; exact hi
        | succ i => exact ih h.2 hi
theorem zx_sub_put : ∀ {L L' : zx_L}, zx_sub L L' → ∀ (i : Nat) (o : Option Value), zx_sub (zx_put L i o) (zx_put L' i o) := by
  intro L
  induction L with
  | nil => intro L' h i o; cases L' with
    | nil => simp [zx_put, zx_sub]
    | cons a t => simp [zx_sub] at h
  | cons a t ih =>
    intro L' h i o
    cases L' with
    | nil => cases a <;> simp [zx_sub] at h
    | cons a' t' =>
      cases i with
      | zero =>
        cases a <;> cases a' <;> simp only [zx_sub] at h
        · cases o <;> simp [zx_put, zx_sub, h]
        · cases o <;> simp [zx_put, zx_sub, h]
        · cases o <;> simp [zx_put, zx_sub, h]
      | succ i =>
        cases a <;> cases a' <;> simp only [zx_sub] at h
        · simp only [zx_put, zx_sub]; exact ih h i o
        · simp only [zx_put, zx_sub]; exact ⟨h.1, ih h.2 i o⟩
        · simp only [zx_put, zx_sub]; exact ⟨h.1, ih h.2 i o⟩
/-- a long gone on the right alone -/
theorem zx_sub_kill : ∀ {L L' : zx_L}, zx_sub L L' → ∀ (i : Nat), (∀ v, ¬ zx_nth L i = some (some v)) → zx_sub L (zx_put L' i none) := by
  intro L
  induction L with
  | nil => intro L' h i _; cases L' with
    | nil => simp [zx_put, zx_sub]
    | cons a t => simp [zx_sub] at h
  | cons a t ih =>
    intro L' h i hn
    cases L' with
    | nil => cases a <;> simp [zx_sub] at h
    | cons a' t' =>
      cases i with
      | zero =>
        cases a <;> cases a' <;> simp only [zx_sub] at h
        · simp [zx_put, zx_sub, h]
        · simp [zx_put, zx_sub, h]
        · rename_i v w; exact absurd rfl (hn v)
      | succ i =>
        cases a <;> cases a' <;> simp only [zx_sub] at h
        · simp only [zx_put, zx_sub]; exact ih h i hn
        · simp only [zx_put, zx_sub]; exact ⟨h.1, ih h.2 i hn⟩
        · simp only [zx_put, zx_sub]; exact ⟨h.1, ih h.2 i hn⟩
theorem zx_sub_k2 {L L' : zx_L} (h : zx_sub L L') (i : Nat) : zx_sub (zx_k2 L i) (zx_k2 L' i) := by
  unfold zx_k2
  cases i with
  | zero => exact h
  | succ j =>
    simp only
    by_cases hv : ∃ v, zx_nth L j = some (some v)
    · obtain ⟨v, hv⟩ := hv
      have h1 := zx_sub_nth h hv
      have e : zx_c2 L' j = zx_c2 L j := by unfold zx_c2; rw [hv, h1]
      rw [e]
      cases zx_c2 L j with
      | false => exact h
      | true => exact zx_sub_put h j none
    · have hn : ∀ v, ¬ zx_nth L j = some (some v) := fun v z => hv ⟨v, z⟩
      have e : zx_c2 L j = false := by
        unfold zx_c2
        split
        · rename_i z; exact absurd z (hn _)
        · rename_i z; exact absurd z (hn _)
        · rfl
      rw [e]
      cases zx_c2 L' j with
      | false => exact h
      | true => exact zx_sub_kill h j hn
theorem zx_sub_s1 {L L' L1 : zx_L} {i : Nat} {v : Value} (h : zx_sub L L') (hs : zx_s1 L i v = some L1) : ∃ L1', zx_sub L1 L1' ∧ zx_s1 L' i v = some L1' := by
  have hl := Nat.blt_eq.mpr (zx_s1_lt hs)
  unfold zx_s1 at hs ⊢
  rw [zx_sub_len h, hl]
  rw [hl] at hs
  simp only [cond_true, Option.some.injEq] at hs ⊢
  subst hs
  exact ⟨_, zx_sub_put (zx_sub_k2 h i) i _, rfl⟩
theorem zx_sub_s2 {L L' L1 : zx_L} {i : Nat} {v : Value} (h : zx_sub L L') (hs : zx_s2 L i v = some L1) : ∃ L1', zx_sub L1 L1' ∧ zx_s2 L' i v = some L1' := by
  have hl := Nat.blt_eq.mpr (zx_s2_lt hs)
  unfold zx_s2 at hs ⊢
  rw [zx_sub_len h, hl]
  rw [hl] at hs
  simp only [cond_true, Option.some.injEq] at hs ⊢
  subst hs
  exact ⟨_, zx_sub_put (zx_sub_put (zx_sub_k2 h i) i _) (i + 1) _, rfl⟩
theorem zx_sub_kL {n : Nat} : ∀ {L L' : zx_L}, zx_sub L L' → zx_kL n L = true → zx_kL n L' = true := by
  intro L
  induction L with
  | nil => intro L' h _; cases L' with
    | nil => rfl
    | cons a t => simp [zx_sub] at h
  | cons o t ih =>
    intro L' h hk
    cases L' with
    | nil => cases o <;> simp [zx_sub] at h
    | cons o' t' =>
      cases o <;> cases o' <;> simp only [zx_sub] at h
      · simp only [zx_kL] at hk ⊢; exact ih h hk
      · rename_i w
        simp only [zx_kL] at hk ⊢
        rw [ih h.2 hk, Bool.and_true]
        obtain ⟨hw, -⟩ := h
        cases w <;> simp_all [zx_num, zx_kv]
      · simp only [zx_kL, Bool.and_eq_true] at hk ⊢
        rw [← h.1]
        exact ⟨hk.1, ih h.2 hk.2⟩
theorem zx_sub_ok {L L' : zx_L} {st : List Value} {S : List zx_Sh} (h : zx_sub L L') (hk : zx_ok L st S = true) : zx_ok L' st S = true := by
  unfold zx_ok at hk ⊢
  rw [Bool.and_eq_true, Bool.and_eq_true, Bool.and_eq_true] at hk ⊢
  exact ⟨hk.1, zx_sub_kL h hk.2.1, hk.2.2⟩
theorem zx_step_sub {d o pc pc1 : Nat} {b : Bool} {i : Instr} {L L' L1 : zx_L} {st st1 : List Value} {h h1 : zx_H} (hs : zx_sub L L') (hst : zx_step d o b pc i L st h = some (pc1, L1, st1, h1)) : ∃ L1', zx_sub L1 L1' ∧ zx_step d o b pc i L' st h = some (pc1, L1', st1, h1) := by
  have lda : ∀ {k n : Nat}, zx_lda L k n pc st h = some (pc1, L1, st1, h1) → ∃ L1', zx_sub L1 L1' ∧ zx_lda L' k n pc st h = some (pc1, L1', st1, h1) := by
    intro k n hq
    unfold zx_lda at hq ⊢
    split at hq
    · rename_i x hx
      rw [zx_sub_nth hs hx]
      simp only [Option.some.injEq, Prod.mk.injEq] at hq ⊢
      obtain ⟨e1, e2, e3, e4⟩ := hq
      exact ⟨L', by rw [← e2]; exact hs, e1, rfl, e3, e4⟩
    · simp at hq
  have ldi : ∀ {k n : Nat}, zx_ldi L k n pc st h = some (pc1, L1, st1, h1) → ∃ L1', zx_sub L1 L1' ∧ zx_ldi L' k n pc st h = some (pc1, L1', st1, h1) := by
    intro k n hq
    unfold zx_ldi at hq ⊢
    split at hq
    · rename_i x hx
      rw [zx_sub_nth hs hx]
      simp only [Option.some.injEq, Prod.mk.injEq] at hq ⊢
      obtain ⟨e1, e2, e3, e4⟩ := hq
      exact ⟨L', by rw [← e2]; exact hs, e1, rfl, e3, e4⟩
    · simp at hq
  have ldl : ∀ {k n : Nat}, zx_ldl L k n pc st h = some (pc1, L1, st1, h1) → ∃ L1', zx_sub L1 L1' ∧ zx_ldl L' k n pc st h = some (pc1, L1', st1, h1) := by
    intro k n hq
    unfold zx_ldl at hq ⊢
    split at hq
    · rename_i x hx
      rw [zx_sub_nth hs hx]
      simp only [Option.some.injEq, Prod.mk.injEq] at hq ⊢
      obtain ⟨e1, e2, e3, e4⟩ := hq
      exact ⟨L', by rw [← e2]; exact hs, e1, rfl, e3, e4⟩
    · simp at hq
  have sta : ∀ {k n : Nat}, zx_sta L k n pc st h = some (pc1, L1, st1, h1) → ∃ L1', zx_sub L1 L1' ∧ zx_sta L' k n pc st h = some (pc1, L1', st1, h1) := by
    intro k n hq
    unfold zx_sta at hq ⊢
    split at hq
    · split at hq
      · rename_i L2 hx
        obtain ⟨L3, g1, g2⟩ := zx_sub_s1 hs hx
        simp only [Option.some.injEq, Prod.mk.injEq] at hq ⊢
        obtain ⟨e1, e2, e3, e4⟩ := hq
        refine ⟨L3, by rw [← e2]; exact g1, ?_⟩
        simp only [g2, e1, e3, e4]
      · simp at hq
    · simp at hq
  have sti : ∀ {k n : Nat}, zx_sti L k n pc st h = some (pc1, L1, st1, h1) → ∃ L1', zx_sub L1 L1' ∧ zx_sti L' k n pc st h = some (pc1, L1', st1, h1) := by
    intro k n hq
    unfold zx_sti at hq ⊢
    split at hq
    · split at hq
      · rename_i L2 hx
        obtain ⟨L3, g1, g2⟩ := zx_sub_s1 hs hx
        simp only [Option.some.injEq, Prod.mk.injEq] at hq ⊢
        obtain ⟨e1, e2, e3, e4⟩ := hq
        refine ⟨L3, by rw [← e2]; exact g1, ?_⟩
        simp only [g2, e1, e3, e4]
      · simp at hq
    · simp at hq
  have stl : ∀ {k n : Nat}, zx_stl L k n pc st h = some (pc1, L1, st1, h1) → ∃ L1', zx_sub L1 L1' ∧ zx_stl L' k n pc st h = some (pc1, L1', st1, h1) := by
    intro k n hq
    unfold zx_stl at hq ⊢
    split at hq
    · split at hq
      · rename_i L2 hx
        obtain ⟨L3, g1, g2⟩ := zx_sub_s2 hs hx
        simp only [Option.some.injEq, Prod.mk.injEq] at hq ⊢
        obtain ⟨e1, e2, e3, e4⟩ := hq
        refine ⟨L3, by rw [← e2]; exact g1, ?_⟩
        simp only [g2, e1, e3, e4]
      · simp at hq
    · simp at hq
  have fin : L1 = L ∧ zx_step d o b pc i L' st h = some (pc1, L', st1, h1) → ∃ L1', zx_sub L1 L1' ∧ zx_step d o b pc i L' st h = some (pc1, L1', st1, h1) := fun z => ⟨L', by rw [z.1]; exact hs, z.2⟩
  have hbr : ∀ {P : Prop} [Decidable P] {off : Int} {r : List Value}, zx_br P pc off L r h = some (pc1, L1, st1, h1) → L1 = L ∧ zx_br P pc off L' r h = some (pc1, L', st1, h1) := by
    intro P _ off r hq
    unfold zx_br at hq ⊢
    split at hq
    · simp only [Option.some.injEq, Prod.mk.injEq] at hq ⊢
      exact ⟨hq.2.1.symm, hq.1, trivial, hq.2.2⟩
    · simp at hq
  cases i with
  | aload k => exact lda hst
  | aload_n k => exact lda hst
  | iload k => exact ldi hst
  | iload_n k => exact ldi hst
  | lload k => exact ldl hst
  | lload_n k => exact ldl hst
  | astore_n k => exact sta hst
  | istore k => exact sti hst
  | istore_n k => exact sti hst
  | lstore k => exact stl hst
  | lstore_n k => exact stl hst
  | iinc k n =>
    simp only [zx_step] at hst ⊢
    split at hst
    · rename_i x hx
      rw [zx_sub_nth hs hx]
      split at hst
      · rename_i L2 hx2
        obtain ⟨L3, g1, g2⟩ := zx_sub_s1 hs hx2
        simp only [Option.some.injEq, Prod.mk.injEq] at hst ⊢
        obtain ⟨e1, e2, e3, e4⟩ := hst
        refine ⟨L3, by rw [← e2]; exact g1, ?_⟩
        simp only [g2, e1, e3, e4]
      · simp at hst
    · simp at hst
  | ifCond cd off =>
    apply fin
    simp only [zx_step] at hst ⊢
    split at hst
    · cases cd <;> exact hbr hst
    · simp at hst
  | if_icmp cd off =>
    apply fin
    simp only [zx_step] at hst ⊢
    split at hst
    · cases cd <;> exact hbr hst
    · simp at hst
  | new ix =>
    apply fin
    simp only [zx_step, zx_new, cond_eq_ite] at hst ⊢
    split at hst
    · rename_i ci hci
      split at hst
      · rename_i hk
        simp only [Option.some.injEq, Prod.mk.injEq] at hst ⊢
        refine ⟨hst.2.1.symm, ?_⟩
        simp only [hci, zx_sub_ok hs hk, if_true, Option.some.injEq, Prod.mk.injEq]
        exact ⟨hst.1, trivial, hst.2.2⟩
      · simp at hst
    · simp at hst
  | newarray ty =>
    apply fin
    simp only [zx_step, zx_nwa, cond_eq_ite] at hst ⊢
    split at hst
    · split at hst
      · simp at hst
      · rename_i hn
        split at hst
        · rename_i hk
          simp only [hn, if_false, zx_sub_ok hs hk, if_true]
          split at hst
          all_goals (first | (simp at hst; done) | (simp only [Option.some.injEq, Prod.mk.injEq] at hst ⊢; exact ⟨hst.2.1.symm, hst.1, trivial, hst.2.2⟩))
        · simp at hst
    · simp at hst
  | _ =>
    first
      | (simp [zx_step] at hst; done)
      | (apply fin
         simp only [zx_step, zx_i1, zx_i2, zx_l2, zx_di, zx_dl, zx_ldc, zx_aln, zx_ild, zx_lld, zx_ist, zx_zst, zx_lst, zx_gf, zx_pf, zx_sw, zx_nat, zx_nS, zx_nV, zx_nI, zx_cp, zx_cpy, zx_cpz, cond_eq_ite] at hst ⊢
         repeat' (first | (simp at hst; done) | split at hst)
         all_goals (first | (simp at hst; done) | (simp only [Option.some.injEq, Prod.mk.injEq] at hst; obtain ⟨e1, e2, e3, e4⟩ := hst; clear lda ldi ldl sta sti stl fin hbr hs; subst e1 e2 e3 e4; refine ⟨rfl, ?_⟩; simp only [*, if_true, if_false, Bool.false_eq_true]; done)))
theorem zx_ret_step {d o pc : Nat} {b : Bool} {rt : Option FieldType} {i : Instr} {L : zx_L} {st st' : List Value} {h : zx_H} {r : Option Value} (hr : zx_ret rt i st = some r) : zx_step d o b pc i L st' h = none := by
  cases i <;> first | rfl | (simp [zx_ret] at hr; done)
theorem zx_inv_step {d o pc kd ck : Nat} {b : Bool} {i : Instr} {L : zx_L} {st : List Value} {h : zx_H} (hr : zx_inv o i = some (kd, ck)) : zx_step d o b pc i L st h = none := by
  cases i with
  | invokevirtual ix =>
    simp only [zx_inv] at hr
    split at hr
    case h_2 => simp at hr
    rename_i k9 hf
    simp only [zx_step, zx_nat, hf]
    cases d <;> rfl
  | invokestatic ix =>
    simp only [zx_inv] at hr
    split at hr
    case h_2 => simp at hr
    rename_i k9 hf
    simp only [zx_step, zx_nat, hf]
    cases d <;> rfl
  | invokespecial ix =>
    simp only [zx_inv] at hr
    split at hr
    case h_3 => simp at hr
    · rename_i k9 hf
      simp only [zx_step, zx_nat, hf]
      cases d <;> rfl
    · rename_i k9 hf
      simp only [zx_step, zx_nat, hf]
      cases d <;> rfl
  | _ => simp [zx_inv] at hr
theorem zx_args_sub {kd ck : Nat} {L L' : zx_L} {st : List Value} {h : zx_H} {x : List Value × List Value} (hs : zx_sub L L') (ha : zx_args kd ck L st h = some x) : zx_args kd ck L' st h = some x := by
  unfold zx_args at ha ⊢
  split at ha
  · rename_i as r htk
    simp only [cond_eq_ite] at ha ⊢
    split at ha
    · rename_i hc
      rw [Bool.and_eq_true, Bool.and_eq_true, Bool.and_eq_true] at hc
      obtain ⟨c1, c2, c3, c4⟩ := hc
      rw [if_pos (by rw [c1, c2, zx_sub_kL hs c3, c4]; rfl)]
      exact ha
    · simp at ha
  · simp at ha
theorem zx_run_sub : ∀ {n d k pc : Nat} {L L' : zx_L} {st : List Value} {h : zx_H} {out : Option Value × zx_H}, zx_sub L L' → zx_run n d k pc L st h = some out → zx_run n d k pc L' st h = some out := by
  intro n
  induction n with
  | zero => intro d k pc L L' st h out _ hr; simp [zx_run] at hr
  | succ n ih =>
    intro d k pc L L' st h out hs hr
    rw [zx_run] at hr ⊢
    cases ha : zx_at (zx_cd k) pc with
    | none => rw [ha] at hr; simp at hr
    | some e0 =>
      obtain ⟨i, len⟩ := e0
      rw [ha] at hr
      simp only at hr ⊢
      cases hst : zx_step d (zx_own k) (zx_ini k) pc i L st h with
      | some q =>
        obtain ⟨pc1, L1, st1, h1⟩ := q
        rw [hst] at hr
        obtain ⟨L2, g1, g2⟩ := zx_step_sub hs hst
        rw [g2]
        simp only at hr ⊢
        exact ih g1 hr
      | none =>
        rw [hst] at hr
        simp only at hr
        cases hre : zx_ret (zx_rt k) i st with
        | some r =>
          rw [hre] at hr
          rw [zx_ret_step hre]
          exact hr
        | none =>
          rw [hre] at hr
          simp only at hr
          cases d with
          | zero => simp at hr
          | succ d =>
            simp only at hr
            cases hin : zx_inv (zx_own k) i with
            | none => rw [hin] at hr; simp at hr
            | some e1 =>
              obtain ⟨kd, ck⟩ := e1
              rw [hin] at hr
              simp only at hr
              rw [zx_inv_step hin]
              simp only
              cases har : zx_args kd ck L st h with
              | none => rw [har] at hr; simp at hr
              | some e2 =>
                obtain ⟨as, r⟩ := e2
                rw [har] at hr
                rw [zx_args_sub hs har]
                simp only at hr ⊢
                cases hc : zx_run n d ck 0 (zx_en (zx_ml ck) as) [] h with
                | none => rw [hc] at hr; simp at hr
                | some e3 =>
                  obtain ⟨v, h1⟩ := e3
                  rw [hc] at hr
                  simp only at hr ⊢
                  exact ih hs hr
/-- enough steps -/
def zx_Ev (d k pc : Nat) (L : zx_L) (st : List Value) (h : zx_H) (out : Option Value × zx_H) : Prop := ∃ n, zx_run n d k pc L st h = some out
def zx_mk (k o : Nat) (b : Bool) (rt : Option FieldType) (C : zx_C) : Prop := zx_cd k = C ∧ zx_own k = o ∧ zx_ini k = b ∧ zx_rt k = rt
theorem zx_ev_sub {d k pc : Nat} {L L' : zx_L} {st : List Value} {h : zx_H} {out : Option Value × zx_H} (hs : zx_sub L L') (E : zx_Ev d k pc L st h out) : zx_Ev d k pc L' st h out := by
  obtain ⟨n, hn⟩ := E
  exact ⟨n, zx_run_sub hs hn⟩
def zx_blk (d o : Nat) (b : Bool) (C : zx_C) : Nat → zx_K → Option zx_K
  | 0, q => some q
  | j + 1, (pc, L, st, h) => match zx_at C pc with
    | some (i, _) => match zx_step d o b pc i L st h with
      | some q => zx_blk d o b C j q
      | none => none
    | none => none
section EV
variable {d k o pc : Nat} {b : Bool} {rt : Option FieldType} {C : zx_C} {L : zx_L} {st : List Value} {h : zx_H} {out : Option Value × zx_H}
theorem zx_ev_step (M : zx_mk k o b rt C) {i : Instr} {len pc1 : Nat} {L1 : zx_L} {st1 : List Value} {h1 : zx_H} (hat : zx_at C pc = some (i, len)) (hs : zx_step d o b pc i L st h = some (pc1, L1, st1, h1)) (E : zx_Ev d k pc1 L1 st1 h1 out) : zx_Ev d k pc L st h out := by
  obtain ⟨n, hn⟩ := E
  obtain ⟨m1, m2, m3, m4⟩ := M
  refine ⟨n + 1, ?_⟩
  rw [zx_run, m1, hat]
  simp only
  rw [m2, m3, hs]
  exact hn
theorem zx_ev_blk (M : zx_mk k o b rt C) (j : Nat) {pc1 : Nat} {L1 : zx_L} {st1 : List Value} {h1 : zx_H} (hb : zx_blk d o b C j (pc, L, st, h) = some (pc1, L1, st1, h1)) (E : zx_Ev d k pc1 L1 st1 h1 out) : zx_Ev d k pc L st h out := by
  induction j generalizing pc L st h with
  | zero =>
    simp only [zx_blk, Option.some.injEq, Prod.mk.injEq] at hb
    obtain ⟨rfl, rfl, rfl, rfl⟩ := hb
    exact E
  | succ j ih =>
    unfold zx_blk at hb
    cases ha : zx_at C pc with
    | none => rw [ha] at hb; simp at hb
    | some e0 =>
      obtain ⟨i, len⟩ := e0
      rw [ha] at hb
      simp only at hb
      cases hs : zx_step d o b pc i L st h with
      | none => rw [hs] at hb; simp at hb
      | some q1 =>
        rw [hs] at hb
        obtain ⟨pc2, L2, st2, h2⟩ := q1
        exact zx_ev_step M ha hs (ih hb)
theorem zx_ev_ret (M : zx_mk k o b rt C) {i : Instr} {len : Nat} {r : Option Value} (hat : zx_at C pc = some (i, len)) (hr : zx_ret rt i st = some r) : zx_Ev d k pc L st h (r, h) := by
  obtain ⟨m1, m2, m3, m4⟩ := M
  refine ⟨1, ?_⟩
  rw [zx_run, m1, hat]
  simp only
  rw [zx_ret_step hr, m4, hr]
theorem zx_ev_call (M : zx_mk k o b rt C) {i : Instr} {len kd ck ml na co n : Nat} {y : MethodName} {bb : ByteArray} {crt : Option FieldType} {as r : List Value} {v : Option Value} {h1 : zx_H} (hat : zx_at C pc = some (i, len)) (hin : zx_inv o i = some (kd, ck)) (ht : zx_tm ck = some (y, bb, ml, crt, co, na)) (hre : zx_ret rt i st = none) (hn : h.1.length = n)
    (htk : zx_take na [] st = some (as, r)) (hc : (zx_rcv kd co as h.1 && (Nat.ble (zx_sl as).length ml && (zx_kL n L && (zx_kV n r && (Nat.ble (zx_cat r) 8 && Nat.blt n 999))))) = true) (E1 : zx_Ev d ck 0 (zx_en ml as) [] h (v, h1)) (E2 : zx_Ev (d + 1) k (pc + 3) L (v.toList ++ r) h1 out) : zx_Ev (d + 1) k pc L st h out := by
  obtain ⟨n1, e1⟩ := E1
  obtain ⟨n2, e2⟩ := E2
  obtain ⟨m1, m2, m3, m4⟩ := M
  refine ⟨(n1 + n2) + 1, ?_⟩
  rw [zx_run, m1, hat]
  simp only
  rw [m2, zx_inv_step hin, m4, hre]
  simp only
  rw [hin]
  simp only
  have ha : zx_args kd ck L st h = some (as, r) := by
    unfold zx_args
    rw [zx_na_eq ht, htk]
    simp only
    rw [zx_own_eq ht, zx_ml_eq ht, hn, hc]
    rfl
  rw [ha]
  simp only
  rw [zx_ml_eq ht, zx_run_le e1 (Nat.le_add_right n1 n2)]
  exact zx_run_le e2 (Nat.le_add_left n2 n1)
end EV
/-- loops -/
def zx_lp {σ τ : Type} : Nat → (σ → Option (σ ⊕ τ)) → σ → Option τ
  | 0, _, _ => none
  | n + 1, f, s => match f s with
    | some (.inl s') => zx_lp n f s'
    | some (.inr t) => some t
    | none => none
/-- a name for a value -/
def zx_let {α β : Type} (a : α) (f : α → β) : β := f a
theorem zx_let_eq {α β : Type} {a : α} {f : α → Option β} {r : β} (h : zx_let a f = some r) : ∃ x, a = x ∧ f x = some r := ⟨a, rfl, h⟩
theorem zx_bind_eq {α β : Type} {a : Option α} {f : α → Option β} {r : β} (h : a.bind f = some r) : ∃ x, a = some x ∧ f x = some r := Option.bind_eq_some_iff.mp h

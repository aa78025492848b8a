/-! the text's indexOf: the whole -/
theorem zv_n_J1_canEncode_9a6ad : (parseMethodDescriptor yJ1_canEncode_9a6ad.desc).map (fun d => d.parameters.length) = some 1 := by decide +kernel
theorem zv_n_J1_indexOfChar_4cfef : (parseMethodDescriptor yJ1_indexOfChar_4cfef.desc).map (fun d => d.parameters.length) = some 4 := by decide +kernel
theorem zv_n_J1_indexOf_4cfef : (parseMethodDescriptor yJ1_indexOf_4cfef.desc).map (fun d => d.parameters.length) = some 4 := by decide +kernel
theorem zv_n_J0_indexOf_7cf53 : (parseMethodDescriptor yJ0_indexOf_7cf53.desc).map (fun d => d.parameters.length) = some 2 := by decide +kernel
theorem zv_indexOfL (l : Launch) (a t : Nat) (x : Int32) : zv_Mt l yJ1_indexOf_4cfef cJ1_indexOf_4cfef 4 (some .int) { frames := 2, cells := 0, slots := 0, locals := 60 } [.ref t, .int x, .int 0, .int 6] a t (zx_io x) := by
  refine zv_of (ty := .int) (by decide +kernel) rfl rfl (Nat.le_of_ble_eq_true rfl) ?_
  intro p e s m args below meth c ls Q X hl hret
  obtain ⟨hx, hb, hml, hown, hts, hB⟩ := id X
  have hS : va_S (fun _ => False) s.heap s.heap [] := va_S.rf
  refine lv_iload_n hx hb dJ1_indexOf_4cfef_0 rfl (lv_at hl 1 rfl) ?_
  refine zv_S (rest := []) (As := [.int x]) X (zv_canEncode l a t x) hl.1 zv_l_J1_canEncode_9a6ad_88 zv_s_J1_canEncode_9a6ad zv_c_J1_canEncode_9a6ad rfl zv_n_J1_canEncode_9a6ad ⟨Nat.le_of_ble_eq_true rfl, Nat.le_of_ble_eq_true rfl⟩ rfl rfl dJ1_indexOf_4cfef_1 rfl (Nat.le_of_ble_eq_true rfl) ?_
  refine lv_if_ne (tgt := 9) hx hb dJ1_indexOf_4cfef_4 (by decide) (fun z => ?_) (fun z => ?_)
  · have hr : 0 ≤ x ∧ x ≤ 255 := by
      by_cases h : 0 ≤ x ∧ x ≤ 255
      · exact h
      · rw [if_neg h] at z
        exact absurd rfl z
    refine lv_iload_n hx hb dJ1_indexOf_4cfef_9 rfl (lv_at hl 2 rfl) ?_
    refine lv_iconst (v := 0) hx hb dJ1_indexOf_4cfef_10 (by decide) ?_
    refine va_mmax hx hb (hml.trans hl.1.symm) hown (hts _ zv_l_max_92) (hts _ zb_max_s) (hts _ zb_math) (hts _ zb_max_c) (Nat.le_of_ble_eq_true rfl) (Nat.le_of_ble_eq_true rfl) (Nat.zero_le _) (Nat.zero_le _) dJ1_indexOf_4cfef_11 ?_
    refine lv_istore_n (lv' := [(2, .int 0), (0, .ref t), (1, .int x), (3, .int 6)]) hx hb dJ1_indexOf_4cfef_14 rfl hl (by decide) rfl (fun ls hl => ?_)
    refine lv_iload_n hx hb dJ1_indexOf_4cfef_15 rfl (lv_at hl 3 rfl) ?_
    refine lv_aload_n hx hb dJ1_indexOf_4cfef_16 rfl (lv_at hl 1 rfl) ?_
    refine va_tlen (v := 6) hx hb (hB.1.1 0 (by decide)).2.2.2 hS rfl dJ1_indexOf_4cfef_17 ?_
    refine va_mmin hx hb (hml.trans hl.1.symm) hown (hts _ zv_l_min_38) (hts _ zb_min_s) (hts _ zb_math) (hts _ zb_min_c) (Nat.le_of_ble_eq_true rfl) (Nat.le_of_ble_eq_true rfl) (Nat.zero_le _) (Nat.zero_le _) dJ1_indexOf_4cfef_18 ?_
    refine lv_istore_n (lv' := [(3, .int 6), (2, .int 0), (0, .ref t), (1, .int x)]) hx hb dJ1_indexOf_4cfef_21 rfl hl (by decide) rfl (fun ls hl => ?_)
    refine lv_iload_n hx hb dJ1_indexOf_4cfef_22 rfl (lv_at hl 1 rfl) ?_
    refine lv_iload_n hx hb dJ1_indexOf_4cfef_23 rfl (lv_at hl 0 rfl) ?_
    refine lv_icmp_lt (tgt := 29) hx hb dJ1_indexOf_4cfef_24 (by decide) (fun _ => ?_) (fun z => absurd (by decide) z)
    refine lv_aload_n hx hb dJ1_indexOf_4cfef_29 rfl (lv_at hl 2 rfl) ?_
    refine lv_iload_n hx hb dJ1_indexOf_4cfef_30 rfl (lv_at hl 3 rfl) ?_
    refine lv_iload_n hx hb dJ1_indexOf_4cfef_31 rfl (lv_at hl 1 rfl) ?_
    refine lv_iload_n hx hb dJ1_indexOf_4cfef_32 rfl (lv_at hl 0 rfl) ?_
    refine zv_S (rest := []) X (zv_indexOfChar l a t x hr.1 hr.2) hl.1 zv_l_J1_indexOfChar_4cfef_95 zv_s_J1_indexOfChar_4cfef zv_c_J1_indexOfChar_4cfef rfl zv_n_J1_indexOfChar_4cfef ⟨Nat.le_of_ble_eq_true rfl, Nat.le_of_ble_eq_true rfl⟩ rfl rfl dJ1_indexOf_4cfef_33 rfl (Nat.le_of_ble_eq_true rfl) ?_
    exact hret 36 ls dJ1_indexOf_4cfef_36
  · have hr : ¬ (0 ≤ x ∧ x ≤ 255) := fun h => by
      rw [if_pos h] at z
      exact absurd z (by decide)
    have e : zx_io x = -1 := zv_miss x (fun j hj w => by
      have key : ∀ j : Nat, j < 6 → 0 ≤ zv_byt j ∧ zv_byt j ≤ 255 := by decide +kernel
      rw [← w] at hr
      exact hr (key j hj))
    rw [e] at hret
    refine lv_iconst (v := -1) hx hb dJ1_indexOf_4cfef_7 (by decide) ?_
    exact hret 8 ls dJ1_indexOf_4cfef_8
theorem zv_indexOf2 (l : Launch) (a t : Nat) (x : Int32) : zv_Mt l yJ0_indexOf_7cf53 cJ0_indexOf_7cf53 3 (some .int) { frames := 4, cells := 0, slots := 0, locals := 120 } [.ref a, .int x, .int 0] a t (zx_io x) := by
  refine zv_of (ty := .int) (by decide +kernel) rfl rfl (Nat.le_of_ble_eq_true rfl) ?_
  intro p e s m args below meth c ls Q X hl hret
  obtain ⟨hx, hb, hml, hown, hts, hB⟩ := id X
  have hS : va_S (fun _ => False) s.heap s.heap [] := va_S.rf
  refine lv_aload_n hx hb dJ0_indexOf_7cf53_0 rfl (lv_at hl 0 rfl) ?_
  refine zv_V (rest := []) (As := []) X (zv_isLatin1 l a t) hl.1 zv_l_J0_isLatin1_aae02_492 zv_i_J0_isLatin1_aae02 zv_v_J0_isLatin1_aae02 zv_c_J0_isLatin1_aae02 rfl (by decide +kernel) ⟨Nat.le_of_ble_eq_true rfl, Nat.le_of_ble_eq_true rfl⟩ rfl rfl dJ0_indexOf_7cf53_1 rfl (Nat.le_of_ble_eq_true rfl) ?_
  refine lv_if_eq (tgt := 23) hx hb dJ0_indexOf_7cf53_4 (by decide) (fun z => absurd z (by decide)) (fun _ => ?_)
  refine lv_aload_n hx hb dJ0_indexOf_7cf53_7 rfl (lv_at hl 0 rfl) ?_
  refine vk_getf hx hb (hB.1.1 0 (by decide)).2.2.1 hS hown (hts _ zv_f_9) (fun _ h => h) dJ0_indexOf_7cf53_8 ?_
  refine lv_iload_n hx hb dJ0_indexOf_7cf53_11 rfl (lv_at hl 1 rfl) ?_
  refine lv_iload_n hx hb dJ0_indexOf_7cf53_12 rfl (lv_at hl 2 rfl) ?_
  refine lv_aload_n hx hb dJ0_indexOf_7cf53_13 rfl (lv_at hl 0 rfl) ?_
  refine zv_V (rest := [.int 0, .int x, .ref t]) (As := []) X (zv_length l a t) hl.1 zv_l_J0_length_8abf5_505 zv_i_J0_length_8abf5 zv_v_J0_length_8abf5 zv_c_J0_length_8abf5 rfl (by decide +kernel) ⟨Nat.le_of_ble_eq_true rfl, Nat.le_of_ble_eq_true rfl⟩ rfl rfl dJ0_indexOf_7cf53_14 rfl (Nat.le_of_ble_eq_true rfl) ?_
  refine zv_S (rest := []) X (zv_indexOfL l a t x) hl.1 zv_l_J1_indexOf_4cfef_637 zv_s_J1_indexOf_4cfef zv_c_J1_indexOf_4cfef rfl zv_n_J1_indexOf_4cfef ⟨Nat.le_of_ble_eq_true rfl, Nat.le_of_ble_eq_true rfl⟩ rfl rfl dJ0_indexOf_7cf53_17 rfl (Nat.le_of_ble_eq_true rfl) ?_
  refine lv_goto (tgt := 36) hx hb dJ0_indexOf_7cf53_20 (by decide) ?_
  exact hret 36 ls dJ0_indexOf_7cf53_36
theorem zv_IO (l : Launch) : zx_IO l := by
  intro a x
  refine Met.ofW (cc := cJ0_indexOf_0f7a4) (maxL := 2) (ret := some .int) (by decide +kernel) rfl ?_
  intro p e s m args below meth c s₁ B hml hv
  obtain ⟨rfl, ⟨t, hB1⟩, hB2⟩ := hv
  have hB : zv_B a t s s.heap := ⟨hB1, hB2⟩
  have hts := atoms_spec (ws := (Cond.code yJ0_indexOf_0f7a4 cJ0_indexOf_0f7a4 2 (some .int) :: zx_B)) B.pre
  have hown : s.vm.findClass yJ0_indexOf_0f7a4.cls = some m.cls := findClass_of_methodNamed B.named
  have hl := lv_entry [.ref a, .int x] (n := 2) (Nat.le_of_ble_eq_true rfl)
  rw [lg_entry_eq]
  generalize (lg_sl ([.ref a, .int x] : List Value) ++ List.replicate (2 - (lg_sl ([.ref a, .int x] : List Value)).length) Slot.unset).toArray = ls at hl ⊢
  have X : zv_X p s m ([.ref a, .int x] : List Value).toArray c cJ0_indexOf_0f7a4 2 yJ0_indexOf_0f7a4.cls a t := ⟨B.exec, B.bytes, hml, hown, fun w hw => hts w (List.mem_cons_of_mem _ hw), hB⟩
  obtain ⟨hx, hb, -⟩ := id X
  refine lv_aload_n hx hb dJ0_indexOf_0f7a4_0 rfl (lv_at hl 0 rfl) ?_
  refine lv_iload_n hx hb dJ0_indexOf_0f7a4_1 rfl (lv_at hl 1 rfl) ?_
  refine lv_iconst (v := 0) hx hb dJ0_indexOf_0f7a4_2 (by decide) ?_
  refine zv_V (rest := []) X (zv_indexOf2 l a t x) hl.1 zv_l_J0_indexOf_7cf53_633 zv_i_J0_indexOf_7cf53 zv_v_J0_indexOf_7cf53 zv_c_J0_indexOf_7cf53 rfl zv_n_J0_indexOf_7cf53 ⟨Nat.le_of_ble_eq_true rfl, Nat.le_of_ble_eq_true rfl⟩ rfl rfl dJ0_indexOf_0f7a4_3 rfl (Nat.le_of_ble_eq_true rfl) ?_
  exact W.zret (ty := .int) B.exec B.bytes B.returns rfl (fun t ht hW => ⟨rfl, ht⟩) (fun _ h => by cases h) dJ0_indexOf_0f7a4_6

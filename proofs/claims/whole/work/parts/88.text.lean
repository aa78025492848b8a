/-! the text's members, one by one -/
def zv_byt (j : Nat) : Int32 := ([119, 115, 113, 97, 98, 104] : List Int32).getD j 0
theorem zv_coder (l : Launch) (a t : Nat) : zv_Mt l yJ0_coder_7d493 cJ0_coder_7d493 1 (some .byte) { frames := 0, cells := 0, slots := 0, locals := 0 } [.ref a] a t 0 := by
  refine zv_of (ty := .byte) (by decide +kernel) rfl rfl (Nat.le_of_ble_eq_true rfl) ?_
  intro p e s m args below meth c ls Q X hl hret
  obtain ⟨hx, hb, hml, hown, hts, hB⟩ := id X
  have hS : va_S (fun _ => False) s.heap s.heap [] := va_S.rf
  refine va_gets hx hb hB.2 hS hown (hts _ zv_f_38) (fun _ h => h) dJ0_coder_7d493_0 ?_
  refine lv_if_eq (tgt := 13) hx hb dJ0_coder_7d493_3 (by decide) (fun z => absurd z (by decide)) (fun _ => ?_)
  refine lv_aload_n hx hb dJ0_coder_7d493_6 rfl (lv_at hl 0 rfl) ?_
  refine vk_getf hx hb (hB.1.1 0 (by decide)).2.1 hS hown (hts _ zv_f_15) (fun _ h => h) dJ0_coder_7d493_7 ?_
  refine lv_goto (tgt := 14) hx hb dJ0_coder_7d493_10 (by decide) ?_
  exact hret 14 ls dJ0_coder_7d493_14
theorem zv_isLatin1 (l : Launch) (a t : Nat) : zv_Mt l yJ0_isLatin1_aae02 cJ0_isLatin1_aae02 1 (some .boolean) { frames := 0, cells := 0, slots := 0, locals := 0 } [.ref a] a t 1 := by
  refine zv_of (ty := .boolean) (by decide +kernel) rfl rfl (Nat.le_of_ble_eq_true rfl) ?_
  intro p e s m args below meth c ls Q X hl hret
  obtain ⟨hx, hb, hml, hown, hts, hB⟩ := id X
  have hS : va_S (fun _ => False) s.heap s.heap [] := va_S.rf
  refine va_gets hx hb hB.2 hS hown (hts _ zv_f_38) (fun _ h => h) dJ0_isLatin1_aae02_0 ?_
  refine lv_if_eq (tgt := 17) hx hb dJ0_isLatin1_aae02_3 (by decide) (fun z => absurd z (by decide)) (fun _ => ?_)
  refine lv_aload_n hx hb dJ0_isLatin1_aae02_6 rfl (lv_at hl 0 rfl) ?_
  refine vk_getf hx hb (hB.1.1 0 (by decide)).2.1 hS hown (hts _ zv_f_15) (fun _ h => h) dJ0_isLatin1_aae02_7 ?_
  refine lv_if_ne (tgt := 17) hx hb dJ0_isLatin1_aae02_10 (by decide) (fun z => absurd rfl z) (fun _ => ?_)
  refine lv_iconst (v := 1) hx hb dJ0_isLatin1_aae02_13 (by decide) ?_
  refine lv_goto (tgt := 18) hx hb dJ0_isLatin1_aae02_14 (by decide) ?_
  exact hret 18 ls dJ0_isLatin1_aae02_18
theorem zv_length (l : Launch) (a t : Nat) : zv_Mt l yJ0_length_8abf5 cJ0_length_8abf5 1 (some .int) { frames := 1, cells := 0, slots := 0, locals := 30 } [.ref a] a t 6 := by
  refine zv_of (ty := .int) (by decide +kernel) rfl rfl (Nat.le_of_ble_eq_true rfl) ?_
  intro p e s m args below meth c ls Q X hl hret
  obtain ⟨hx, hb, hml, hown, hts, hB⟩ := id X
  have hS : va_S (fun _ => False) s.heap s.heap [] := va_S.rf
  refine lv_aload_n hx hb dJ0_length_8abf5_0 rfl (lv_at hl 0 rfl) ?_
  refine vk_getf hx hb (hB.1.1 0 (by decide)).2.2.1 hS hown (hts _ zv_f_9) (fun _ h => h) dJ0_length_8abf5_1 ?_
  refine va_tlen (v := 6) hx hb (hB.1.1 0 (by decide)).2.2.2 hS rfl dJ0_length_8abf5_4 ?_
  refine lv_aload_n hx hb dJ0_length_8abf5_5 rfl (lv_at hl 0 rfl) ?_
  refine zv_V X (zv_coder l a t) hl.1 zv_l_J0_coder_7d493_335 zv_i_J0_coder_7d493 zv_v_J0_coder_7d493 zv_c_J0_coder_7d493 rfl (by decide +kernel) ⟨Nat.le_of_ble_eq_true rfl, Nat.le_of_ble_eq_true rfl⟩ rfl rfl dJ0_length_8abf5_6 rfl (Nat.le_of_ble_eq_true rfl) ?_
  refine lv_ishr hx hb dJ0_length_8abf5_9 ?_
  exact hret 10 ls dJ0_length_8abf5_10
theorem zv_canEncode (l : Launch) (a t : Nat) (x : Int32) : zv_Mt l yJ1_canEncode_9a6ad cJ1_canEncode_9a6ad 1 (some .boolean) { frames := 0, cells := 0, slots := 0, locals := 0 } [.int x] a t (if 0 ≤ x ∧ x ≤ 255 then 1 else 0) := by
  refine zv_of (ty := .boolean) (by decide +kernel) rfl (by by_cases h : 0 ≤ x ∧ x ≤ 255 <;> simp only [h, and_self, and_true, true_and, ↓reduceIte] <;> rfl) (Nat.le_of_ble_eq_true rfl) ?_
  intro p e s m args below meth c ls Q X hl hret
  obtain ⟨hx, hb, hml, hown, hts, hB⟩ := id X
  refine lv_iload_n hx hb dJ1_canEncode_9a6ad_0 rfl (lv_at hl 0 rfl) ?_
  have no : (¬ (0 ≤ x ∧ x ≤ 255)) → W p l e ({ frames := 0, cells := 0, slots := 0, locals := 0 } : Room) s m args below meth c s.heap [] 0 0 Q (F0 m 15 ls []) := fun z => by
    rw [if_neg z] at hret
    refine lv_iconst (v := 0) hx hb dJ1_canEncode_9a6ad_15 (by decide) ?_
    exact hret 16 ls dJ1_canEncode_9a6ad_16
  refine lv_if_lt (tgt := 15) hx hb dJ1_canEncode_9a6ad_1 (by decide) (fun z => no (by grind)) (fun z1 => ?_)
  refine lv_iload_n hx hb dJ1_canEncode_9a6ad_4 rfl (lv_at hl 0 rfl) ?_
  refine lv_sipush (v := 255) hx hb dJ1_canEncode_9a6ad_5 (by decide) ?_
  refine lv_icmp_gt (tgt := 15) hx hb dJ1_canEncode_9a6ad_8 (by decide) (fun z => no (by grind)) (fun z2 => ?_)
  rw [if_pos (by grind)] at hret
  refine lv_iconst (v := 1) hx hb dJ1_canEncode_9a6ad_11 (by decide) ?_
  refine lv_goto (tgt := 16) hx hb dJ1_canEncode_9a6ad_12 (by decide) ?_
  exact hret 16 ls dJ1_canEncode_9a6ad_16
theorem zv_sgn (x : Int32) (h0 : 0 ≤ x) (h1 : x ≤ 255) (j : Nat) (hj : j < 6) : zv_byt j = x.toInt8.toInt32 ↔ zv_byt j = x := by
  have key : ∀ k : Nat, k < 256 → ∀ j : Nat, j < 6 → (zv_byt j = (Int32.ofNat k).toInt8.toInt32 ↔ zv_byt j = Int32.ofNat k) := by decide +kernel
  obtain ⟨k, hk, rfl⟩ := zm_ex h0
  have hk2 : k < 256 := by grind [zm_g]
  exact key k hk2 j hj
theorem zv_hit (j : Nat) (hj : j < 6) : zx_io (zv_byt j) = Int32.ofNat j := by
  have key : ∀ j : Nat, j < 6 → zx_io (zv_byt j) = Int32.ofNat j := by decide +kernel
  exact key j hj
theorem zv_miss (x : Int32) (h : ∀ j : Nat, j < 6 → ¬ zv_byt j = x) : zx_io x = -1 := by
  have h0 : ¬ x = 119 := fun z => h 0 (by decide) z.symm
  have h1 : ¬ x = 115 := fun z => h 1 (by decide) z.symm
  have h2 : ¬ x = 113 := fun z => h 2 (by decide) z.symm
  have h3 : ¬ x = 97 := fun z => h 3 (by decide) z.symm
  have h4 : ¬ x = 98 := fun z => h 4 (by decide) z.symm
  have h5 : ¬ x = 104 := fun z => h 5 (by decide) z.symm
  unfold zx_io
  rw [if_neg h0, if_neg h1, if_neg h2, if_neg h3, if_neg h4, if_neg h5]
theorem zv_indexOfChar (l : Launch) (a t : Nat) (x : Int32) (h0 : 0 ≤ x) (h1 : x ≤ 255) : zv_Mt l yJ1_indexOfChar_4cfef cJ1_indexOfChar_4cfef 6 (some .int) { frames := 0, cells := 0, slots := 0, locals := 0 } [.ref t, .int x, .int 0, .int 6] a t (zx_io x) := by
  refine zv_of (ty := .int) (by decide +kernel) rfl rfl (Nat.le_of_ble_eq_true rfl) ?_
  intro p e s m args below meth c ls Q X hl hret
  obtain ⟨hx, hb, hml, hown, hts, hB⟩ := id X
  have hS : va_S (fun _ => False) s.heap s.heap [] := va_S.rf
  refine lv_iload_n hx hb dJ1_indexOfChar_4cfef_0 rfl (lv_at hl 1 rfl) ?_
  refine lv_i2b hx hb dJ1_indexOfChar_4cfef_1 rfl ?_
  refine lv_istore (lv' := [(4, .int x.toInt8.toInt32), (0, .ref t), (1, .int x), (2, .int 0), (3, .int 6)]) hx hb dJ1_indexOfChar_4cfef_2 hl (by decide) rfl (fun ls hl => ?_)
  refine lv_iload_n hx hb dJ1_indexOfChar_4cfef_4 rfl (lv_at hl 3 rfl) ?_
  refine lv_istore (lv' := [(5, .int (Int32.ofNat 0)), (4, .int x.toInt8.toInt32), (0, .ref t), (1, .int x), (2, .int 0), (3, .int 6)]) hx hb dJ1_indexOfChar_4cfef_5 hl (by decide) rfl (fun ls hl => ?_)
  have lp : ∀ (n k : Nat) (ls : Array Slot), k + n = 6 → (∀ j : Nat, j < k → ¬ zv_byt j = x) → lv_has ls 6 [(5, .int (Int32.ofNat k)), (4, .int x.toInt8.toInt32), (0, .ref t), (1, .int x), (2, .int 0), (3, .int 6)] → W p l e ({ frames := 0, cells := 0, slots := 0, locals := 0 } : Room) s m args below meth c s.heap [] 0 0 Q (F0 m 7 ls []) := by
    intro n
    induction n with
    | zero =>
      intro k ls hk hm hl
      have hk : k = 6 := by omega
      subst hk
      refine lv_iload hx hb dJ1_indexOfChar_4cfef_7 (lv_at hl 0 rfl) ?_
      refine lv_iload_n hx hb dJ1_indexOfChar_4cfef_9 rfl (lv_at hl 5 rfl) ?_
      refine lv_icmp_ge (tgt := 31) hx hb dJ1_indexOfChar_4cfef_10 (by decide) (fun _ => ?_) (fun z => absurd (by decide) z)
      rw [zv_miss x hm] at hret
      refine lv_iconst (v := -1) hx hb dJ1_indexOfChar_4cfef_31 (by decide) ?_
      exact hret 32 ls dJ1_indexOfChar_4cfef_32
    | succ n ih =>
      intro k ls hk hm hl
      have hk6 : k < 6 := by omega
      refine lv_iload hx hb dJ1_indexOfChar_4cfef_7 (lv_at hl 0 rfl) ?_
      refine lv_iload_n hx hb dJ1_indexOfChar_4cfef_9 rfl (lv_at hl 5 rfl) ?_
      refine lv_icmp_ge (tgt := 31) hx hb dJ1_indexOfChar_4cfef_10 (by decide) (fun z => ?_) (fun _ => ?_)
      · have := zm_g (k := k) (by omega)
        exact absurd z (by grind)
      · refine lv_aload_n hx hb dJ1_indexOfChar_4cfef_13 rfl (lv_at hl 2 rfl) ?_
        refine lv_iload hx hb dJ1_indexOfChar_4cfef_14 (lv_at hl 0 rfl) ?_
        refine va_tb (v := .int (zv_byt k)) hx hb (hB.1.1 0 (by decide)).2.2.2 hS (vp_in_nI (n := k) (N := 6) hk6 (by decide)) (by rw [Int32.toNatClampNeg_ofNat_of_lt (by omega)]; rfl) dJ1_indexOfChar_4cfef_16 ?_
        refine lv_iload hx hb dJ1_indexOfChar_4cfef_17 (lv_at hl 1 rfl) ?_
        refine lv_icmp_ne (tgt := 25) hx hb dJ1_indexOfChar_4cfef_19 (by decide) (fun z => ?_) (fun z => ?_)
        · refine lv_iinc (v := Int32.ofNat (k + 1)) (k := 0) (lv' := [(5, .int (Int32.ofNat (k + 1))), (4, .int x.toInt8.toInt32), (0, .ref t), (1, .int x), (2, .int 0), (3, .int 6)]) hx hb dJ1_indexOfChar_4cfef_25 hl rfl (by rw [Int32.ofNat_add]; rfl) (by decide) rfl (fun ls hl => ?_)
          refine lv_goto (tgt := 7) hx hb dJ1_indexOfChar_4cfef_28 (by decide) ?_
          refine ih (k + 1) ls (by omega) (fun j hj => ?_) hl
          rcases Nat.lt_or_ge j k with q | q
          · exact hm j q
          · have : j = k := by omega
            subst this
            exact fun w => z ((zv_sgn x h0 h1 j hk6).mpr w)
        · have e2 := (zv_sgn x h0 h1 k hk6).mp z
          have e3 : zx_io x = Int32.ofNat k := by rw [← e2]; exact zv_hit k hk6
          rw [e3] at hret
          refine lv_iload hx hb dJ1_indexOfChar_4cfef_22 (lv_at hl 0 rfl) ?_
          exact hret 24 ls dJ1_indexOfChar_4cfef_24
  exact lp 6 0 ls rfl (fun j hj => absurd hj (by omega)) hl

/-! the law's loop -/
theorem zl_tab (v : Int32) : (v.toInt < 0 ∨ 42 < v.toInt) ∨ ∃ k : Nat, k < 43 ∧ v = Int32.ofNat k := by
  rcases Int.lt_or_le v.toInt 0 with h | h
  · exact Or.inl (Or.inl h)
  · rcases Int.lt_or_le 42 v.toInt with h2 | h2
    · exact Or.inl (Or.inr h2)
    · obtain ⟨k, hk, rfl⟩ := zm_ex (v := v) (by rw [Int32.le_iff_toInt_le]; exact h)
      rw [Int32.toInt_ofNat_of_lt hk] at h2
      exact Or.inr ⟨k, by omega, rfl⟩
theorem zl_vin {i L : Nat} {q : Int32} (hL : L ≤ 3072) (h : i + 6 ≤ L) (h0 : 0 ≤ q) (h5 : q ≤ 5) : vp_in (Int32.ofNat i + q) L := by
  obtain ⟨k, hk, rfl⟩ := zm_ex h0
  have hk5 : k ≤ 5 := by grind [zm_g]
  rw [← Int32.ofNat_add]
  exact vp_in_nI (show i + k < L by omega) (by omega)
section ZO
variable {p : Program} {l : Launch} {e : Env} {R : Room} {s : State} {m : MethodId} {args : Array Value} {below : List Frame} {meth : Method} {c : Code} {cells slots b L : Nat} {Q : State → Prop} {D : va_G} {κ : Nat → ClassId} {A : Nat → Prop} {xs : Nat → Int32}
theorem zl_sw (X : zl_X l p R s m args c D κ A b L xs) (hL : L ≤ 3072) (hc : cells ≤ R.cells) (hs : slots ≤ R.slots) {ρ σ : Nat → Nat} {C M : zx_M} {H : Heap} {locs : List Loc} {ls : Array Slot} {i : Nat} {v : Int32} (Y : zl_Y s D κ A ρ σ C M H locs) (R0 : zm_R zq_V C M) (hl : lv_has ls 4 [(0, .ref b), (1, .ref (ρ 0)), (2, .ref (σ 0)), (3, .int (Int32.ofNat i))]) (hi : i + 6 ≤ L)
    (kk : ∀ (ρ1 σ1 : Nat → Nat) (C1 M1 : zx_M) (H1 : Heap) (locs1 : List Loc), ρ1 0 = ρ 0 → σ1 0 = σ 0 → zl_Y s D κ A ρ1 σ1 C1 M1 H1 locs1 → zm_R zq_V C1 M1 → W p l e R s m args below meth c H1 locs1 cells slots Q (F0 m 1662 ls [])) : W p l e R s m args below meth c H locs cells slots Q (F0 m 33 ls [.int v]) := by
  obtain ⟨hio, hx, hb, -⟩ := id X
  have hin : ∀ q : Int32, 0 ≤ q → q ≤ 5 → vp_in (Int32.ofNat i + q) L := fun q h0 h5 => zl_vin hL hi h0 h5
  rcases zl_tab v with h | ⟨k, hk, rfl⟩
  · exact lv_tableOut (tgt := 1662) hx hb (zl_d zl_ch rfl) h (by decide) (kk _ _ _ _ _ _ rfl rfl Y R0)
  · match k, hk with
    | 0, _ => exact lv_tableIn (off := 187) (tgt := 220) hx hb (zl_d zl_ch rfl) (by decide) (by decide) (by rfl) (by decide) (zl_j0 X Y R0 hc hs hl hin kk)
    | 1, _ => exact lv_tableIn (off := 220) (tgt := 253) hx hb (zl_d zl_ch rfl) (by decide) (by decide) (by rfl) (by decide) (zl_j1 X Y R0 hc hs hl hin kk)
    | 2, _ => exact lv_tableIn (off := 263) (tgt := 296) hx hb (zl_d zl_ch rfl) (by decide) (by decide) (by rfl) (by decide) (zl_j2 X Y R0 hc hs hl hin kk)
    | 3, _ => exact lv_tableIn (off := 306) (tgt := 339) hx hb (zl_d zl_ch rfl) (by decide) (by decide) (by rfl) (by decide) (zl_j3 X Y R0 hc hs hl hin kk)
    | 4, _ => exact lv_tableIn (off := 339) (tgt := 372) hx hb (zl_d zl_ch rfl) (by decide) (by decide) (by rfl) (by decide) (zl_j4 X Y R0 hc hs hl hin kk)
    | 5, _ => exact lv_tableIn (off := 362) (tgt := 395) hx hb (zl_d zl_ch rfl) (by decide) (by decide) (by rfl) (by decide) (zl_j5 X Y R0 hc hs hl hin kk)
    | 6, _ => exact lv_tableIn (off := 375) (tgt := 408) hx hb (zl_d zl_ch rfl) (by decide) (by decide) (by rfl) (by decide) (zl_j6 X Y R0 hc hs hl hin kk)
    | 7, _ => exact lv_tableIn (off := 398) (tgt := 431) hx hb (zl_d zl_ch rfl) (by decide) (by decide) (by rfl) (by decide) (zl_j7 X Y R0 hc hs hl hin kk)
    | 8, _ => exact lv_tableIn (off := 441) (tgt := 474) hx hb (zl_d zl_ch rfl) (by decide) (by decide) (by rfl) (by decide) (zl_j8 X Y R0 hc hs hl hin kk)
    | 9, _ => exact lv_tableIn (off := 484) (tgt := 517) hx hb (zl_d zl_ch rfl) (by decide) (by decide) (by rfl) (by decide) (zl_j9 X Y R0 hc hs hl hin kk)
    | 10, _ => exact lv_tableIn (off := 527) (tgt := 560) hx hb (zl_d zl_ch rfl) (by decide) (by decide) (by rfl) (by decide) (zl_j10 X Y R0 hc hs hl hin kk)
    | 11, _ => exact lv_tableIn (off := 570) (tgt := 603) hx hb (zl_d zl_ch rfl) (by decide) (by decide) (by rfl) (by decide) (zl_j11 X Y R0 hc hs hl hin kk)
    | 12, _ => exact lv_tableIn (off := 603) (tgt := 636) hx hb (zl_d zl_ch rfl) (by decide) (by decide) (by rfl) (by decide) (zl_j12 X Y R0 hc hs hl hin kk)
    | 13, _ => exact lv_tableIn (off := 646) (tgt := 679) hx hb (zl_d zl_ch rfl) (by decide) (by decide) (by rfl) (by decide) (zl_j13 X Y R0 hc hs hl hin kk)
    | 14, _ => exact lv_tableIn (off := 679) (tgt := 712) hx hb (zl_d zl_ch rfl) (by decide) (by decide) (by rfl) (by decide) (zl_j14 X Y R0 hc hs hl hin kk)
    | 15, _ => exact lv_tableIn (off := 702) (tgt := 735) hx hb (zl_d zl_ch rfl) (by decide) (by decide) (by rfl) (by decide) (zl_j15 X Y R0 hc hs hl hin kk)
    | 16, _ => exact lv_tableIn (off := 735) (tgt := 768) hx hb (zl_d zl_ch rfl) (by decide) (by decide) (by rfl) (by decide) (zl_j16 X Y R0 hc hs hl hin kk)
    | 17, _ => exact lv_tableIn (off := 788) (tgt := 821) hx hb (zl_d zl_ch rfl) (by decide) (by decide) (by rfl) (by decide) (zl_j17 X Y R0 hc hs hl hin kk)
    | 18, _ => exact lv_tableIn (off := 822) (tgt := 855) hx hb (zl_d zl_ch rfl) (by decide) (by decide) (by rfl) (by decide) (zl_j18 X Y R0 hc hs hl hin kk)
    | 19, _ => exact lv_tableIn (off := 876) (tgt := 909) hx hb (zl_d zl_ch rfl) (by decide) (by decide) (by rfl) (by decide) (zl_j19 X Y R0 hc hs hl hin kk)
    | 20, _ => exact lv_tableIn (off := 899) (tgt := 932) hx hb (zl_d zl_ch rfl) (by decide) (by decide) (by rfl) (by decide) (zl_j20 X Y R0 hc hs hl hin kk)
    | 21, _ => exact lv_tableIn (off := 932) (tgt := 965) hx hb (zl_d zl_ch rfl) (by decide) (by decide) (by rfl) (by decide) (zl_j21 X Y R0 hc hs hl hin kk)
    | 22, _ => exact lv_tableIn (off := 965) (tgt := 998) hx hb (zl_d zl_ch rfl) (by decide) (by decide) (by rfl) (by decide) (zl_j22 X Y R0 hc hs hl hin kk)
    | 23, _ => exact lv_tableIn (off := 998) (tgt := 1031) hx hb (zl_d zl_ch rfl) (by decide) (by decide) (by rfl) (by decide) (zl_j23 X Y R0 hc hs hl hin kk)
    | 24, _ => exact lv_tableIn (off := 1041) (tgt := 1074) hx hb (zl_d zl_ch rfl) (by decide) (by decide) (by rfl) (by decide) (zl_j24 X Y R0 hc hs hl hin kk)
    | 25, _ => exact lv_tableIn (off := 1094) (tgt := 1127) hx hb (zl_d zl_ch rfl) (by decide) (by decide) (by rfl) (by decide) (zl_j25 X Y R0 hc hs hl hin kk)
    | 26, _ => exact lv_tableIn (off := 1117) (tgt := 1150) hx hb (zl_d zl_ch rfl) (by decide) (by decide) (by rfl) (by decide) (zl_j26 X Y R0 hc hs hl hin kk)
    | 27, _ => exact lv_tableIn (off := 1150) (tgt := 1183) hx hb (zl_d zl_ch rfl) (by decide) (by decide) (by rfl) (by decide) (zl_j27 X Y R0 hc hs hl hin kk)
    | 28, _ => exact lv_tableIn (off := 1163) (tgt := 1196) hx hb (zl_d zl_ch rfl) (by decide) (by decide) (by rfl) (by decide) (zl_j28 X Y R0 hc hs hl hin kk)
    | 29, _ => exact lv_tableIn (off := 1186) (tgt := 1219) hx hb (zl_d zl_ch rfl) (by decide) (by decide) (by rfl) (by decide) (zl_j29 X Y R0 hc hs hl hin kk)
    | 30, _ => exact lv_tableIn (off := 1199) (tgt := 1232) hx hb (zl_d zl_ch rfl) (by decide) (by decide) (by rfl) (by decide) (zl_j30 X Y R0 hc hs hl hin kk)
    | 31, _ => exact lv_tableIn (off := 1212) (tgt := 1245) hx hb (zl_d zl_ch rfl) (by decide) (by decide) (by rfl) (by decide) (zl_j31 X Y R0 hc hs hl hin kk)
    | 32, _ => exact lv_tableIn (off := 1225) (tgt := 1258) hx hb (zl_d zl_ch rfl) (by decide) (by decide) (by rfl) (by decide) (zl_j32 X Y R0 hc hs hl hin kk)
    | 33, _ => exact lv_tableIn (off := 1238) (tgt := 1271) hx hb (zl_d zl_ch rfl) (by decide) (by decide) (by rfl) (by decide) (zl_j33 X Y R0 hc hs hl hin kk)
    | 34, _ => exact lv_tableIn (off := 1261) (tgt := 1294) hx hb (zl_d zl_ch rfl) (by decide) (by decide) (by rfl) (by decide) (zl_j34 X Y R0 hc hs hl hin kk)
    | 35, _ => exact lv_tableIn (off := 1304) (tgt := 1337) hx hb (zl_d zl_ch rfl) (by decide) (by decide) (by rfl) (by decide) (zl_j35 X Y R0 hc hs hl hin kk)
    | 36, _ => exact lv_tableIn (off := 1327) (tgt := 1360) hx hb (zl_d zl_ch rfl) (by decide) (by decide) (by rfl) (by decide) (zl_j36 X Y R0 hc hs hl hin kk)
    | 37, _ => exact lv_tableIn (off := 1360) (tgt := 1393) hx hb (zl_d zl_ch rfl) (by decide) (by decide) (by rfl) (by decide) (zl_j37 X Y R0 hc hs hl hin kk)
    | 38, _ => exact lv_tableIn (off := 1403) (tgt := 1436) hx hb (zl_d zl_ch rfl) (by decide) (by decide) (by rfl) (by decide) (zl_j38 X Y R0 hc hs hl hin kk)
    | 39, _ => exact lv_tableIn (off := 1476) (tgt := 1509) hx hb (zl_d zl_ch rfl) (by decide) (by decide) (by rfl) (by decide) (zl_j39 X Y R0 hc hs hl hin kk)
    | 40, _ => exact lv_tableIn (off := 1510) (tgt := 1543) hx hb (zl_d zl_ch rfl) (by decide) (by decide) (by rfl) (by decide) (zl_j40 X Y R0 hc hs hl hin kk)
    | 41, _ => exact lv_tableIn (off := 1573) (tgt := 1606) hx hb (zl_d zl_ch rfl) (by decide) (by decide) (by rfl) (by decide) (zl_j41 X Y R0 hc hs hl hin kk)
    | 42, _ => exact lv_tableIn (off := 1606) (tgt := 1639) hx hb (zl_d zl_ch rfl) (by decide) (by decide) (by rfl) (by decide) (zl_j42 X Y R0 hc hs hl hin kk)
    | k + 43, h => exact absurd h (by omega)
theorem zl_loop (X : zl_X l p R s m args c D κ A b L xs) (hL : L ≤ 3072) (hc : cells ≤ R.cells) (hs : slots ≤ R.slots) (hend : ∀ (H : Heap) (locs : List Loc) (ls : Array Slot), va_S A s.heap H locs → W p l e R s m args below meth c H locs cells slots Q (F0 m 1668 ls [])) :
    ∀ (n i : Nat) (ρ σ : Nat → Nat) (C M : zx_M) (H : Heap) (locs : List Loc) (ls : Array Slot), i ≤ L → L + 1 ≤ i + n → zl_Y s D κ A ρ σ C M H locs → zm_R zq_V C M → lv_has ls 4 [(0, .ref b), (1, .ref (ρ 0)), (2, .ref (σ 0)), (3, .int (Int32.ofNat i))] → W p l e R s m args below meth c H locs cells slots Q (F0 m 18 ls []) := by
  obtain ⟨hio, hx, hb, hml, hown, hts, hRf, hRl, hA, hK, hX, hbl, hbA⟩ := id X
  intro n
  induction n with
  | zero =>
    intro i ρ σ C M H locs ls h1 h2
    exact absurd h2 (by omega)
  | succ n ih =>
    intro i ρ σ C M H locs ls hi hin Y R0 hl
    have hS : va_S A s.heap H locs := Y.2.2.2.2.2.1
    refine lv_iload_n hx hb (zl_d zl_ch rfl) rfl (lv_at hl 3 rfl) ?_
    refine lv_aload_n hx hb (zl_d zl_ch rfl) rfl (lv_at hl 0 rfl) ?_
    refine va_slen hx hb hX hbl hbA hS (zl_d zl_ch rfl) ?_
    refine lv_bipush (v := 6) hx hb (zl_d zl_ch rfl) (by decide) ?_
    refine lv_isub hx hb (zl_d zl_ch rfl) ?_
    refine lv_icmp_gt (tgt := 1668) hx hb (zl_d zl_ch rfl) (by decide) (fun _ => hend H locs ls hS) (fun hgt => ?_)
    have h6 : i + 6 ≤ L := by
      have a1 := zm_g (k := i) (by omega)
      have a2 := zm_g (k := L) (by omega)
      grind
    refine lv_aload_n hx hb (zl_d zl_ch rfl) rfl (lv_at hl 0 rfl) ?_
    refine lv_iload_n hx hb (zl_d zl_ch rfl) rfl (lv_at hl 3 rfl) ?_
    refine va_sld hx hb hX hbl hbA hS (vp_in_nI (show i < L by omega) (by omega)) (zl_d zl_ch rfl) ?_
    refine lv_bipush (v := 63) hx hb (zl_d zl_ch rfl) (by decide) ?_
    refine lv_iand hx hb (zl_d zl_ch rfl) ?_
    refine zl_sw X hL hc hs Y R0 hl h6 ?_
    intro ρ1 σ1 C1 M1 H1 locs1 g1 g2 Y1 R1
    refine lv_iinc (v := Int32.ofNat (i + 6)) (k := 3) (lv' := [(3, .int (Int32.ofNat (i + 6))), (0, .ref b), (1, .ref (ρ 0)), (2, .ref (σ 0))]) hx hb (zl_d zl_ch rfl) hl rfl (by rw [Int32.ofNat_add]; rfl) (by decide) rfl (fun ls2 hl2 => ?_)
    refine lv_goto (tgt := 18) hx hb (zl_d zl_ch rfl) (by decide) ?_
    refine ih (i + 6) ρ1 σ1 C1 M1 H1 locs1 ls2 h6 (by omega) Y1 R1 ?_
    rw [g1, g2]
    exact lv_sub hl2 [1, 2, 3, 0] rfl
end ZO

/-! the law's cases -/
section ZK79
variable {p : Program} {l : Launch} {e : Env} {R : Room} {s : State} {m : MethodId} {args : Array Value} {below : List Frame} {meth : Method} {c : Code} {H : Heap} {locs : List Loc} {cells slots b L : Nat} {Q : State → Prop} {D : va_G} {κ : Nat → ClassId} {A : Nat → Prop} {ρ σ : Nat → Nat} {ls : Array Slot} {C M : zx_M} {x : Int32} {xs : Nat → Int32}
theorem zl_j0 (X : zl_X l p R s m args c D κ A b L xs) (Y : zl_Y s D κ A ρ σ C M H locs) (R0 : zm_R zq_V C M) (hc : cells ≤ R.cells) (hs : slots ≤ R.slots) (hl : lv_has ls 4 [(0, .ref b), (1, .ref (ρ 0)), (2, .ref (σ 0)), (3, .int x)]) (hin : ∀ i : Int32, 0 ≤ i → i ≤ 5 → vp_in (x + i) L)
    (kk : ∀ (ρ1 σ1 : Nat → Nat) (C1 M1 : zx_M) (H1 : Heap) (locs1 : List Loc), ρ1 0 = ρ 0 → σ1 0 = σ 0 → zl_Y s D κ A ρ1 σ1 C1 M1 H1 locs1 → zm_R zq_V C1 M1 → W p l e R s m args below meth c H1 locs1 cells slots Q (F0 m 1662 ls [])) : W p l e R s m args below meth c H locs cells slots Q (F0 m 220 ls []) := by
  obtain ⟨r, C1, M1, e1, e2, R1⟩ := zl_r_jumper R0 (xs (x + 1).toNatClampNeg) (xs (x + 2).toNatClampNeg)
  refine zl_ld X (lv_at hl 1 rfl) rfl (zl_d zl_c0 rfl) ?_
  refine zl_a X Y hl (kn := 1) (i := 1) (by decide) (zl_d zl_c0 rfl) (zl_d zl_c0 rfl) (zl_d zl_c0 rfl) (zl_d zl_c0 rfl) (zl_d zl_c0 rfl) (hin 1 (by decide) (by decide)) ?_
  refine zl_a X Y hl (kn := 2) (i := 2) (by decide) (zl_d zl_c0 rfl) (zl_d zl_c0 rfl) (zl_d zl_c0 rfl) (zl_d zl_c0 rfl) (zl_d zl_c0 rfl) (hin 2 (by decide) (by decide)) ?_
  refine zl_callC X Y hl.1 hc hs zt_87 rfl e1 rfl zl_w13 rfl (zl_d zl_c0 rfl) rfl (Nat.le_of_ble_eq_true rfl) (fun u H1 locs1 hu Y1 => ?_)
  clear Y
  have Y := Y1
  refine zl_ld X (lv_at hl 2 rfl) rfl (zl_d zl_c0 rfl) ?_
  refine zl_a X Y hl (kn := 1) (i := 1) (by decide) (zl_d zl_c0 rfl) (zl_d zl_c0 rfl) (zl_d zl_c0 rfl) (zl_d zl_c0 rfl) (zl_d zl_c0 rfl) (hin 1 (by decide) (by decide)) ?_
  refine zl_a X Y hl (kn := 2) (i := 2) (by decide) (zl_d zl_c0 rfl) (zl_d zl_c0 rfl) (zl_d zl_c0 rfl) (zl_d zl_c0 rfl) (zl_d zl_c0 rfl) (hin 2 (by decide) (by decide)) ?_
  refine zl_callM X Y hl.1 hc hs zt_169 rfl e2 rfl zl_w17 rfl (zl_d zl_c0 rfl) rfl (Nat.le_of_ble_eq_true rfl) (fun u2 H2 locs2 hu2 Y2 => ?_)
  refine zl_eq X (tgt := 1662) (zl_d zl_c0 rfl) (by decide) ?_
  exact kk _ _ _ _ _ _ hu hu2 Y2 R1
theorem zl_j1 (X : zl_X l p R s m args c D κ A b L xs) (Y : zl_Y s D κ A ρ σ C M H locs) (R0 : zm_R zq_V C M) (hc : cells ≤ R.cells) (hs : slots ≤ R.slots) (hl : lv_has ls 4 [(0, .ref b), (1, .ref (ρ 0)), (2, .ref (σ 0)), (3, .int x)]) (hin : ∀ i : Int32, 0 ≤ i → i ≤ 5 → vp_in (x + i) L)
    (kk : ∀ (ρ1 σ1 : Nat → Nat) (C1 M1 : zx_M) (H1 : Heap) (locs1 : List Loc), ρ1 0 = ρ 0 → σ1 0 = σ 0 → zl_Y s D κ A ρ1 σ1 C1 M1 H1 locs1 → zm_R zq_V C1 M1 → W p l e R s m args below meth c H1 locs1 cells slots Q (F0 m 1662 ls [])) : W p l e R s m args below meth c H locs cells slots Q (F0 m 253 ls []) := by
  obtain ⟨r, C1, M1, e1, e2, R1⟩ := zl_r_jumpers R0 (xs (x + 1).toNatClampNeg) (xs (x + 2).toNatClampNeg) (xs (x + 3).toNatClampNeg)
  refine zl_ld X (lv_at hl 1 rfl) rfl (zl_d zl_c1 rfl) ?_
  refine zl_a X Y hl (kn := 1) (i := 1) (by decide) (zl_d zl_c1 rfl) (zl_d zl_c1 rfl) (zl_d zl_c1 rfl) (zl_d zl_c1 rfl) (zl_d zl_c1 rfl) (hin 1 (by decide) (by decide)) ?_
  refine zl_a X Y hl (kn := 2) (i := 2) (by decide) (zl_d zl_c1 rfl) (zl_d zl_c1 rfl) (zl_d zl_c1 rfl) (zl_d zl_c1 rfl) (zl_d zl_c1 rfl) (hin 2 (by decide) (by decide)) ?_
  refine zl_a X Y hl (kn := 3) (i := 3) (by decide) (zl_d zl_c1 rfl) (zl_d zl_c1 rfl) (zl_d zl_c1 rfl) (zl_d zl_c1 rfl) (zl_d zl_c1 rfl) (hin 3 (by decide) (by decide)) ?_
  refine zl_callC X Y hl.1 hc hs zt_88 rfl e1 rfl zl_w18 rfl (zl_d zl_c1 rfl) rfl (Nat.le_of_ble_eq_true rfl) (fun u H1 locs1 hu Y1 => ?_)
  clear Y
  have Y := Y1
  refine zl_ld X (lv_at hl 2 rfl) rfl (zl_d zl_c1 rfl) ?_
  refine zl_a X Y hl (kn := 1) (i := 1) (by decide) (zl_d zl_c1 rfl) (zl_d zl_c1 rfl) (zl_d zl_c1 rfl) (zl_d zl_c1 rfl) (zl_d zl_c1 rfl) (hin 1 (by decide) (by decide)) ?_
  refine zl_a X Y hl (kn := 2) (i := 2) (by decide) (zl_d zl_c1 rfl) (zl_d zl_c1 rfl) (zl_d zl_c1 rfl) (zl_d zl_c1 rfl) (zl_d zl_c1 rfl) (hin 2 (by decide) (by decide)) ?_
  refine zl_a X Y hl (kn := 3) (i := 3) (by decide) (zl_d zl_c1 rfl) (zl_d zl_c1 rfl) (zl_d zl_c1 rfl) (zl_d zl_c1 rfl) (zl_d zl_c1 rfl) (hin 3 (by decide) (by decide)) ?_
  refine zl_callM X Y hl.1 hc hs zt_170 rfl e2 rfl zl_w22 rfl (zl_d zl_c1 rfl) rfl (Nat.le_of_ble_eq_true rfl) (fun u2 H2 locs2 hu2 Y2 => ?_)
  refine zl_eq X (tgt := 1662) (zl_d zl_c1 rfl) (by decide) ?_
  exact kk _ _ _ _ _ _ hu hu2 Y2 R1
theorem zl_j2 (X : zl_X l p R s m args c D κ A b L xs) (Y : zl_Y s D κ A ρ σ C M H locs) (R0 : zm_R zq_V C M) (hc : cells ≤ R.cells) (hs : slots ≤ R.slots) (hl : lv_has ls 4 [(0, .ref b), (1, .ref (ρ 0)), (2, .ref (σ 0)), (3, .int x)]) (hin : ∀ i : Int32, 0 ≤ i → i ≤ 5 → vp_in (x + i) L)
    (kk : ∀ (ρ1 σ1 : Nat → Nat) (C1 M1 : zx_M) (H1 : Heap) (locs1 : List Loc), ρ1 0 = ρ 0 → σ1 0 = σ 0 → zl_Y s D κ A ρ1 σ1 C1 M1 H1 locs1 → zm_R zq_V C1 M1 → W p l e R s m args below meth c H1 locs1 cells slots Q (F0 m 1662 ls [])) : W p l e R s m args below meth c H locs cells slots Q (F0 m 296 ls []) := by
  obtain ⟨r, C1, M1, e1, e2, R1⟩ := zl_r_mend R0 (xs (x + 1).toNatClampNeg) (xs (x + 2).toNatClampNeg) (xs (x + 3).toNatClampNeg)
  refine zl_ld X (lv_at hl 1 rfl) rfl (zl_d zl_c2 rfl) ?_
  refine zl_a X Y hl (kn := 1) (i := 1) (by decide) (zl_d zl_c2 rfl) (zl_d zl_c2 rfl) (zl_d zl_c2 rfl) (zl_d zl_c2 rfl) (zl_d zl_c2 rfl) (hin 1 (by decide) (by decide)) ?_
  refine zl_a X Y hl (kn := 2) (i := 2) (by decide) (zl_d zl_c2 rfl) (zl_d zl_c2 rfl) (zl_d zl_c2 rfl) (zl_d zl_c2 rfl) (zl_d zl_c2 rfl) (hin 2 (by decide) (by decide)) ?_
  refine zl_a X Y hl (kn := 3) (i := 3) (by decide) (zl_d zl_c2 rfl) (zl_d zl_c2 rfl) (zl_d zl_c2 rfl) (zl_d zl_c2 rfl) (zl_d zl_c2 rfl) (hin 3 (by decide) (by decide)) ?_
  refine zl_callC X Y hl.1 hc hs zt_90 rfl e1 rfl zl_w23 rfl (zl_d zl_c2 rfl) rfl (Nat.le_of_ble_eq_true rfl) (fun u H1 locs1 hu Y1 => ?_)
  clear Y
  have Y := Y1
  refine zl_ld X (lv_at hl 2 rfl) rfl (zl_d zl_c2 rfl) ?_
  refine zl_a X Y hl (kn := 1) (i := 1) (by decide) (zl_d zl_c2 rfl) (zl_d zl_c2 rfl) (zl_d zl_c2 rfl) (zl_d zl_c2 rfl) (zl_d zl_c2 rfl) (hin 1 (by decide) (by decide)) ?_
  refine zl_a X Y hl (kn := 2) (i := 2) (by decide) (zl_d zl_c2 rfl) (zl_d zl_c2 rfl) (zl_d zl_c2 rfl) (zl_d zl_c2 rfl) (zl_d zl_c2 rfl) (hin 2 (by decide) (by decide)) ?_
  refine zl_a X Y hl (kn := 3) (i := 3) (by decide) (zl_d zl_c2 rfl) (zl_d zl_c2 rfl) (zl_d zl_c2 rfl) (zl_d zl_c2 rfl) (zl_d zl_c2 rfl) (hin 3 (by decide) (by decide)) ?_
  refine zl_callM X Y hl.1 hc hs zt_173 rfl e2 rfl zl_w26 rfl (zl_d zl_c2 rfl) rfl (Nat.le_of_ble_eq_true rfl) (fun u2 H2 locs2 hu2 Y2 => ?_)
  refine zl_eq X (tgt := 1662) (zl_d zl_c2 rfl) (by decide) ?_
  exact kk _ _ _ _ _ _ hu hu2 Y2 R1
theorem zl_j3 (X : zl_X l p R s m args c D κ A b L xs) (Y : zl_Y s D κ A ρ σ C M H locs) (R0 : zm_R zq_V C M) (hc : cells ≤ R.cells) (hs : slots ≤ R.slots) (hl : lv_has ls 4 [(0, .ref b), (1, .ref (ρ 0)), (2, .ref (σ 0)), (3, .int x)]) (hin : ∀ i : Int32, 0 ≤ i → i ≤ 5 → vp_in (x + i) L)
    (kk : ∀ (ρ1 σ1 : Nat → Nat) (C1 M1 : zx_M) (H1 : Heap) (locs1 : List Loc), ρ1 0 = ρ 0 → σ1 0 = σ 0 → zl_Y s D κ A ρ1 σ1 C1 M1 H1 locs1 → zm_R zq_V C1 M1 → W p l e R s m args below meth c H1 locs1 cells slots Q (F0 m 1662 ls [])) : W p l e R s m args below meth c H locs cells slots Q (F0 m 339 ls []) := by
  obtain ⟨r, C1, M1, e1, e2, R1⟩ := zl_r_of R0 (xs (x + 1).toNatClampNeg) (xs (x + 2).toNatClampNeg)
  refine zl_ld X (lv_at hl 1 rfl) rfl (zl_d zl_c3 rfl) ?_
  refine zl_a X Y hl (kn := 1) (i := 1) (by decide) (zl_d zl_c3 rfl) (zl_d zl_c3 rfl) (zl_d zl_c3 rfl) (zl_d zl_c3 rfl) (zl_d zl_c3 rfl) (hin 1 (by decide) (by decide)) ?_
  refine zl_a X Y hl (kn := 2) (i := 2) (by decide) (zl_d zl_c3 rfl) (zl_d zl_c3 rfl) (zl_d zl_c3 rfl) (zl_d zl_c3 rfl) (zl_d zl_c3 rfl) (hin 2 (by decide) (by decide)) ?_
  refine zl_callC X Y hl.1 hc hs zt_91 rfl e1 rfl zl_w27 rfl (zl_d zl_c3 rfl) rfl (Nat.le_of_ble_eq_true rfl) (fun u H1 locs1 hu Y1 => ?_)
  clear Y
  have Y := Y1
  refine zl_ld X (lv_at hl 2 rfl) rfl (zl_d zl_c3 rfl) ?_
  refine zl_a X Y hl (kn := 1) (i := 1) (by decide) (zl_d zl_c3 rfl) (zl_d zl_c3 rfl) (zl_d zl_c3 rfl) (zl_d zl_c3 rfl) (zl_d zl_c3 rfl) (hin 1 (by decide) (by decide)) ?_
  refine zl_a X Y hl (kn := 2) (i := 2) (by decide) (zl_d zl_c3 rfl) (zl_d zl_c3 rfl) (zl_d zl_c3 rfl) (zl_d zl_c3 rfl) (zl_d zl_c3 rfl) (hin 2 (by decide) (by decide)) ?_
  refine zl_callM X Y hl.1 hc hs zt_174 rfl e2 rfl zl_w30 rfl (zl_d zl_c3 rfl) rfl (Nat.le_of_ble_eq_true rfl) (fun u2 H2 locs2 hu2 Y2 => ?_)
  refine zl_eq X (tgt := 1662) (zl_d zl_c3 rfl) (by decide) ?_
  exact kk _ _ _ _ _ _ hu hu2 Y2 R1
theorem zl_j4 (X : zl_X l p R s m args c D κ A b L xs) (Y : zl_Y s D κ A ρ σ C M H locs) (R0 : zm_R zq_V C M) (hc : cells ≤ R.cells) (hs : slots ≤ R.slots) (hl : lv_has ls 4 [(0, .ref b), (1, .ref (ρ 0)), (2, .ref (σ 0)), (3, .int x)]) (hin : ∀ i : Int32, 0 ≤ i → i ≤ 5 → vp_in (x + i) L)
    (kk : ∀ (ρ1 σ1 : Nat → Nat) (C1 M1 : zx_M) (H1 : Heap) (locs1 : List Loc), ρ1 0 = ρ 0 → σ1 0 = σ 0 → zl_Y s D κ A ρ1 σ1 C1 M1 H1 locs1 → zm_R zq_V C1 M1 → W p l e R s m args below meth c H1 locs1 cells slots Q (F0 m 1662 ls [])) : W p l e R s m args below meth c H locs cells slots Q (F0 m 372 ls []) := by
  obtain ⟨r, C1, M1, e1, e2, R1⟩ := zl_r_feed R0 (xs (x + 1).toNatClampNeg)
  refine zl_ld X (lv_at hl 1 rfl) rfl (zl_d zl_c4 rfl) ?_
  refine zl_a X Y hl (kn := 1) (i := 1) (by decide) (zl_d zl_c4 rfl) (zl_d zl_c4 rfl) (zl_d zl_c4 rfl) (zl_d zl_c4 rfl) (zl_d zl_c4 rfl) (hin 1 (by decide) (by decide)) ?_
  refine zl_callC X Y hl.1 hc hs zt_92 rfl e1 rfl zl_w31 rfl (zl_d zl_c4 rfl) rfl (Nat.le_of_ble_eq_true rfl) (fun u H1 locs1 hu Y1 => ?_)
  clear Y
  have Y := Y1
  refine zl_ld X (lv_at hl 2 rfl) rfl (zl_d zl_c4 rfl) ?_
  refine zl_a X Y hl (kn := 1) (i := 1) (by decide) (zl_d zl_c4 rfl) (zl_d zl_c4 rfl) (zl_d zl_c4 rfl) (zl_d zl_c4 rfl) (zl_d zl_c4 rfl) (hin 1 (by decide) (by decide)) ?_
  refine zl_callM X Y hl.1 hc hs zt_175 rfl e2 rfl zl_w35 rfl (zl_d zl_c4 rfl) rfl (Nat.le_of_ble_eq_true rfl) (fun u2 H2 locs2 hu2 Y2 => ?_)
  refine zl_eq X (tgt := 1662) (zl_d zl_c4 rfl) (by decide) ?_
  exact kk _ _ _ _ _ _ hu hu2 Y2 R1
theorem zl_j5 (X : zl_X l p R s m args c D κ A b L xs) (Y : zl_Y s D κ A ρ σ C M H locs) (R0 : zm_R zq_V C M) (hc : cells ≤ R.cells) (hs : slots ≤ R.slots) (hl : lv_has ls 4 [(0, .ref b), (1, .ref (ρ 0)), (2, .ref (σ 0)), (3, .int x)]) (hin : ∀ i : Int32, 0 ≤ i → i ≤ 5 → vp_in (x + i) L)
    (kk : ∀ (ρ1 σ1 : Nat → Nat) (C1 M1 : zx_M) (H1 : Heap) (locs1 : List Loc), ρ1 0 = ρ 0 → σ1 0 = σ 0 → zl_Y s D κ A ρ1 σ1 C1 M1 H1 locs1 → zm_R zq_V C1 M1 → W p l e R s m args below meth c H1 locs1 cells slots Q (F0 m 1662 ls [])) : W p l e R s m args below meth c H locs cells slots Q (F0 m 395 ls []) := by
  obtain ⟨r, C1, M1, e1, e2, R1⟩ := zl_r_law R0 
  refine zl_ld X (lv_at hl 1 rfl) rfl (zl_d zl_c5 rfl) ?_
  refine zl_callC X Y hl.1 hc hs zt_93 rfl e1 rfl zl_w36 rfl (zl_d zl_c5 rfl) rfl (Nat.le_of_ble_eq_true rfl) (fun u H1 locs1 hu Y1 => ?_)
  clear Y
  have Y := Y1
  refine zl_ld X (lv_at hl 2 rfl) rfl (zl_d zl_c5 rfl) ?_
  refine zl_callM X Y hl.1 hc hs zt_187 rfl e2 rfl zl_w40 rfl (zl_d zl_c5 rfl) rfl (Nat.le_of_ble_eq_true rfl) (fun u2 H2 locs2 hu2 Y2 => ?_)
  refine zl_eq X (tgt := 1662) (zl_d zl_c5 rfl) (by decide) ?_
  exact kk _ _ _ _ _ _ hu hu2 Y2 R1
theorem zl_j6 (X : zl_X l p R s m args c D κ A b L xs) (Y : zl_Y s D κ A ρ σ C M H locs) (R0 : zm_R zq_V C M) (hc : cells ≤ R.cells) (hs : slots ≤ R.slots) (hl : lv_has ls 4 [(0, .ref b), (1, .ref (ρ 0)), (2, .ref (σ 0)), (3, .int x)]) (hin : ∀ i : Int32, 0 ≤ i → i ≤ 5 → vp_in (x + i) L)
    (kk : ∀ (ρ1 σ1 : Nat → Nat) (C1 M1 : zx_M) (H1 : Heap) (locs1 : List Loc), ρ1 0 = ρ 0 → σ1 0 = σ 0 → zl_Y s D κ A ρ1 σ1 C1 M1 H1 locs1 → zm_R zq_V C1 M1 → W p l e R s m args below meth c H1 locs1 cells slots Q (F0 m 1662 ls [])) : W p l e R s m args below meth c H locs cells slots Q (F0 m 408 ls []) := by
  obtain ⟨r, C1, M1, e1, e2, R1⟩ := zl_r_carried R0 (xs (x + 1).toNatClampNeg)
  refine zl_ld X (lv_at hl 1 rfl) rfl (zl_d zl_c6 rfl) ?_
  refine zl_a X Y hl (kn := 1) (i := 1) (by decide) (zl_d zl_c6 rfl) (zl_d zl_c6 rfl) (zl_d zl_c6 rfl) (zl_d zl_c6 rfl) (zl_d zl_c6 rfl) (hin 1 (by decide) (by decide)) ?_
  refine zl_callC X Y hl.1 hc hs zt_94 rfl e1 rfl zl_w41 rfl (zl_d zl_c6 rfl) rfl (Nat.le_of_ble_eq_true rfl) (fun u H1 locs1 hu Y1 => ?_)
  clear Y
  have Y := Y1
  refine zl_ld X (lv_at hl 2 rfl) rfl (zl_d zl_c6 rfl) ?_
  refine zl_a X Y hl (kn := 1) (i := 1) (by decide) (zl_d zl_c6 rfl) (zl_d zl_c6 rfl) (zl_d zl_c6 rfl) (zl_d zl_c6 rfl) (zl_d zl_c6 rfl) (hin 1 (by decide) (by decide)) ?_
  refine zl_callM X Y hl.1 hc hs zt_189 rfl e2 rfl zl_w44 rfl (zl_d zl_c6 rfl) rfl (Nat.le_of_ble_eq_true rfl) (fun u2 H2 locs2 hu2 Y2 => ?_)
  refine zl_eq X (tgt := 1662) (zl_d zl_c6 rfl) (by decide) ?_
  exact kk _ _ _ _ _ _ hu hu2 Y2 R1
theorem zl_j7 (X : zl_X l p R s m args c D κ A b L xs) (Y : zl_Y s D κ A ρ σ C M H locs) (R0 : zm_R zq_V C M) (hc : cells ≤ R.cells) (hs : slots ≤ R.slots) (hl : lv_has ls 4 [(0, .ref b), (1, .ref (ρ 0)), (2, .ref (σ 0)), (3, .int x)]) (hin : ∀ i : Int32, 0 ≤ i → i ≤ 5 → vp_in (x + i) L)
    (kk : ∀ (ρ1 σ1 : Nat → Nat) (C1 M1 : zx_M) (H1 : Heap) (locs1 : List Loc), ρ1 0 = ρ 0 → σ1 0 = σ 0 → zl_Y s D κ A ρ1 σ1 C1 M1 H1 locs1 → zm_R zq_V C1 M1 → W p l e R s m args below meth c H1 locs1 cells slots Q (F0 m 1662 ls [])) : W p l e R s m args below meth c H locs cells slots Q (F0 m 431 ls []) := by
  obtain ⟨r, C1, M1, e1, e2, R1⟩ := zl_r_down R0 (xs (x + 1).toNatClampNeg) (xs (x + 2).toNatClampNeg) (xs (x + 3).toNatClampNeg)
  refine zl_ld X (lv_at hl 1 rfl) rfl (zl_d zl_c7 rfl) ?_
  refine zl_a X Y hl (kn := 1) (i := 1) (by decide) (zl_d zl_c7 rfl) (zl_d zl_c7 rfl) (zl_d zl_c7 rfl) (zl_d zl_c7 rfl) (zl_d zl_c7 rfl) (hin 1 (by decide) (by decide)) ?_
  refine zl_a X Y hl (kn := 2) (i := 2) (by decide) (zl_d zl_c7 rfl) (zl_d zl_c7 rfl) (zl_d zl_c7 rfl) (zl_d zl_c7 rfl) (zl_d zl_c7 rfl) (hin 2 (by decide) (by decide)) ?_
  refine zl_a X Y hl (kn := 3) (i := 3) (by decide) (zl_d zl_c7 rfl) (zl_d zl_c7 rfl) (zl_d zl_c7 rfl) (zl_d zl_c7 rfl) (zl_d zl_c7 rfl) (hin 3 (by decide) (by decide)) ?_
  refine zl_callC X Y hl.1 hc hs zt_113 rfl e1 rfl zl_w45 rfl (zl_d zl_c7 rfl) rfl (Nat.le_of_ble_eq_true rfl) (fun u H1 locs1 hu Y1 => ?_)
  clear Y
  have Y := Y1
  refine zl_ld X (lv_at hl 2 rfl) rfl (zl_d zl_c7 rfl) ?_
  refine zl_a X Y hl (kn := 1) (i := 1) (by decide) (zl_d zl_c7 rfl) (zl_d zl_c7 rfl) (zl_d zl_c7 rfl) (zl_d zl_c7 rfl) (zl_d zl_c7 rfl) (hin 1 (by decide) (by decide)) ?_
  refine zl_a X Y hl (kn := 2) (i := 2) (by decide) (zl_d zl_c7 rfl) (zl_d zl_c7 rfl) (zl_d zl_c7 rfl) (zl_d zl_c7 rfl) (zl_d zl_c7 rfl) (hin 2 (by decide) (by decide)) ?_
  refine zl_a X Y hl (kn := 3) (i := 3) (by decide) (zl_d zl_c7 rfl) (zl_d zl_c7 rfl) (zl_d zl_c7 rfl) (zl_d zl_c7 rfl) (zl_d zl_c7 rfl) (hin 3 (by decide) (by decide)) ?_
  refine zl_callM X Y hl.1 hc hs zt_205 rfl e2 rfl zl_w48 rfl (zl_d zl_c7 rfl) rfl (Nat.le_of_ble_eq_true rfl) (fun u2 H2 locs2 hu2 Y2 => ?_)
  refine zl_eq X (tgt := 1662) (zl_d zl_c7 rfl) (by decide) ?_
  exact kk _ _ _ _ _ _ hu hu2 Y2 R1
theorem zl_j8 (X : zl_X l p R s m args c D κ A b L xs) (Y : zl_Y s D κ A ρ σ C M H locs) (R0 : zm_R zq_V C M) (hc : cells ≤ R.cells) (hs : slots ≤ R.slots) (hl : lv_has ls 4 [(0, .ref b), (1, .ref (ρ 0)), (2, .ref (σ 0)), (3, .int x)]) (hin : ∀ i : Int32, 0 ≤ i → i ≤ 5 → vp_in (x + i) L)
    (kk : ∀ (ρ1 σ1 : Nat → Nat) (C1 M1 : zx_M) (H1 : Heap) (locs1 : List Loc), ρ1 0 = ρ 0 → σ1 0 = σ 0 → zl_Y s D κ A ρ1 σ1 C1 M1 H1 locs1 → zm_R zq_V C1 M1 → W p l e R s m args below meth c H1 locs1 cells slots Q (F0 m 1662 ls [])) : W p l e R s m args below meth c H locs cells slots Q (F0 m 474 ls []) := by
  obtain ⟨r, C1, M1, e1, e2, R1⟩ := zl_r_drop R0 (xs (x + 1).toNatClampNeg) (xs (x + 2).toNatClampNeg) (xs (x + 3).toNatClampNeg)
  refine zl_ld X (lv_at hl 1 rfl) rfl (zl_d zl_c8 rfl) ?_
  refine zl_a X Y hl (kn := 1) (i := 1) (by decide) (zl_d zl_c8 rfl) (zl_d zl_c8 rfl) (zl_d zl_c8 rfl) (zl_d zl_c8 rfl) (zl_d zl_c8 rfl) (hin 1 (by decide) (by decide)) ?_
  refine zl_a X Y hl (kn := 2) (i := 2) (by decide) (zl_d zl_c8 rfl) (zl_d zl_c8 rfl) (zl_d zl_c8 rfl) (zl_d zl_c8 rfl) (zl_d zl_c8 rfl) (hin 2 (by decide) (by decide)) ?_
  refine zl_a X Y hl (kn := 3) (i := 3) (by decide) (zl_d zl_c8 rfl) (zl_d zl_c8 rfl) (zl_d zl_c8 rfl) (zl_d zl_c8 rfl) (zl_d zl_c8 rfl) (hin 3 (by decide) (by decide)) ?_
  refine zl_callC X Y hl.1 hc hs zt_114 rfl e1 rfl zl_w49 rfl (zl_d zl_c8 rfl) rfl (Nat.le_of_ble_eq_true rfl) (fun u H1 locs1 hu Y1 => ?_)
  clear Y
  have Y := Y1
  refine zl_ld X (lv_at hl 2 rfl) rfl (zl_d zl_c8 rfl) ?_
  refine zl_a X Y hl (kn := 1) (i := 1) (by decide) (zl_d zl_c8 rfl) (zl_d zl_c8 rfl) (zl_d zl_c8 rfl) (zl_d zl_c8 rfl) (zl_d zl_c8 rfl) (hin 1 (by decide) (by decide)) ?_
  refine zl_a X Y hl (kn := 2) (i := 2) (by decide) (zl_d zl_c8 rfl) (zl_d zl_c8 rfl) (zl_d zl_c8 rfl) (zl_d zl_c8 rfl) (zl_d zl_c8 rfl) (hin 2 (by decide) (by decide)) ?_
  refine zl_a X Y hl (kn := 3) (i := 3) (by decide) (zl_d zl_c8 rfl) (zl_d zl_c8 rfl) (zl_d zl_c8 rfl) (zl_d zl_c8 rfl) (zl_d zl_c8 rfl) (hin 3 (by decide) (by decide)) ?_
  refine zl_callM X Y hl.1 hc hs zt_206 rfl e2 rfl zl_w52 rfl (zl_d zl_c8 rfl) rfl (Nat.le_of_ble_eq_true rfl) (fun u2 H2 locs2 hu2 Y2 => ?_)
  refine zl_eq X (tgt := 1662) (zl_d zl_c8 rfl) (by decide) ?_
  exact kk _ _ _ _ _ _ hu hu2 Y2 R1
theorem zl_j9 (X : zl_X l p R s m args c D κ A b L xs) (Y : zl_Y s D κ A ρ σ C M H locs) (R0 : zm_R zq_V C M) (hc : cells ≤ R.cells) (hs : slots ≤ R.slots) (hl : lv_has ls 4 [(0, .ref b), (1, .ref (ρ 0)), (2, .ref (σ 0)), (3, .int x)]) (hin : ∀ i : Int32, 0 ≤ i → i ≤ 5 → vp_in (x + i) L)
    (kk : ∀ (ρ1 σ1 : Nat → Nat) (C1 M1 : zx_M) (H1 : Heap) (locs1 : List Loc), ρ1 0 = ρ 0 → σ1 0 = σ 0 → zl_Y s D κ A ρ1 σ1 C1 M1 H1 locs1 → zm_R zq_V C1 M1 → W p l e R s m args below meth c H1 locs1 cells slots Q (F0 m 1662 ls [])) : W p l e R s m args below meth c H locs cells slots Q (F0 m 517 ls []) := by
  obtain ⟨r, C1, M1, e1, e2, R1⟩ := zl_r_spotFor R0 (xs (x + 1).toNatClampNeg) (xs (x + 2).toNatClampNeg) (xs (x + 3).toNatClampNeg)
  refine zl_ld X (lv_at hl 1 rfl) rfl (zl_d zl_c9 rfl) ?_
  refine zl_a X Y hl (kn := 1) (i := 1) (by decide) (zl_d zl_c9 rfl) (zl_d zl_c9 rfl) (zl_d zl_c9 rfl) (zl_d zl_c9 rfl) (zl_d zl_c9 rfl) (hin 1 (by decide) (by decide)) ?_
  refine zl_a X Y hl (kn := 2) (i := 2) (by decide) (zl_d zl_c9 rfl) (zl_d zl_c9 rfl) (zl_d zl_c9 rfl) (zl_d zl_c9 rfl) (zl_d zl_c9 rfl) (hin 2 (by decide) (by decide)) ?_
  refine zl_a X Y hl (kn := 3) (i := 3) (by decide) (zl_d zl_c9 rfl) (zl_d zl_c9 rfl) (zl_d zl_c9 rfl) (zl_d zl_c9 rfl) (zl_d zl_c9 rfl) (hin 3 (by decide) (by decide)) ?_
  refine zl_callC X Y hl.1 hc hs zt_115 rfl e1 rfl zl_w53 rfl (zl_d zl_c9 rfl) rfl (Nat.le_of_ble_eq_true rfl) (fun u H1 locs1 hu Y1 => ?_)
  clear Y
  have Y := Y1
  refine zl_ld X (lv_at hl 2 rfl) rfl (zl_d zl_c9 rfl) ?_
  refine zl_a X Y hl (kn := 1) (i := 1) (by decide) (zl_d zl_c9 rfl) (zl_d zl_c9 rfl) (zl_d zl_c9 rfl) (zl_d zl_c9 rfl) (zl_d zl_c9 rfl) (hin 1 (by decide) (by decide)) ?_
  refine zl_a X Y hl (kn := 2) (i := 2) (by decide) (zl_d zl_c9 rfl) (zl_d zl_c9 rfl) (zl_d zl_c9 rfl) (zl_d zl_c9 rfl) (zl_d zl_c9 rfl) (hin 2 (by decide) (by decide)) ?_
  refine zl_a X Y hl (kn := 3) (i := 3) (by decide) (zl_d zl_c9 rfl) (zl_d zl_c9 rfl) (zl_d zl_c9 rfl) (zl_d zl_c9 rfl) (zl_d zl_c9 rfl) (hin 3 (by decide) (by decide)) ?_
  refine zl_callM X Y hl.1 hc hs zt_208 rfl e2 rfl zl_w56 rfl (zl_d zl_c9 rfl) rfl (Nat.le_of_ble_eq_true rfl) (fun u2 H2 locs2 hu2 Y2 => ?_)
  refine zl_eq X (tgt := 1662) (zl_d zl_c9 rfl) (by decide) ?_
  exact kk _ _ _ _ _ _ hu hu2 Y2 R1
theorem zl_j10 (X : zl_X l p R s m args c D κ A b L xs) (Y : zl_Y s D κ A ρ σ C M H locs) (R0 : zm_R zq_V C M) (hc : cells ≤ R.cells) (hs : slots ≤ R.slots) (hl : lv_has ls 4 [(0, .ref b), (1, .ref (ρ 0)), (2, .ref (σ 0)), (3, .int x)]) (hin : ∀ i : Int32, 0 ≤ i → i ≤ 5 → vp_in (x + i) L)
    (kk : ∀ (ρ1 σ1 : Nat → Nat) (C1 M1 : zx_M) (H1 : Heap) (locs1 : List Loc), ρ1 0 = ρ 0 → σ1 0 = σ 0 → zl_Y s D κ A ρ1 σ1 C1 M1 H1 locs1 → zm_R zq_V C1 M1 → W p l e R s m args below meth c H1 locs1 cells slots Q (F0 m 1662 ls [])) : W p l e R s m args below meth c H locs cells slots Q (F0 m 560 ls []) := by
  obtain ⟨r, C1, M1, e1, e2, R1⟩ := zl_r_countFor R0 (xs (x + 1).toNatClampNeg) (xs (x + 2).toNatClampNeg) (xs (x + 3).toNatClampNeg)
  refine zl_ld X (lv_at hl 1 rfl) rfl (zl_d zl_c10 rfl) ?_
  refine zl_a X Y hl (kn := 1) (i := 1) (by decide) (zl_d zl_c10 rfl) (zl_d zl_c10 rfl) (zl_d zl_c10 rfl) (zl_d zl_c10 rfl) (zl_d zl_c10 rfl) (hin 1 (by decide) (by decide)) ?_
  refine zl_a X Y hl (kn := 2) (i := 2) (by decide) (zl_d zl_c10 rfl) (zl_d zl_c10 rfl) (zl_d zl_c10 rfl) (zl_d zl_c10 rfl) (zl_d zl_c10 rfl) (hin 2 (by decide) (by decide)) ?_
  refine zl_a X Y hl (kn := 3) (i := 3) (by decide) (zl_d zl_c10 rfl) (zl_d zl_c10 rfl) (zl_d zl_c10 rfl) (zl_d zl_c10 rfl) (zl_d zl_c10 rfl) (hin 3 (by decide) (by decide)) ?_
  refine zl_callC X Y hl.1 hc hs zt_116 rfl e1 rfl zl_w57 rfl (zl_d zl_c10 rfl) rfl (Nat.le_of_ble_eq_true rfl) (fun u H1 locs1 hu Y1 => ?_)
  clear Y
  have Y := Y1
  refine zl_ld X (lv_at hl 2 rfl) rfl (zl_d zl_c10 rfl) ?_
  refine zl_a X Y hl (kn := 1) (i := 1) (by decide) (zl_d zl_c10 rfl) (zl_d zl_c10 rfl) (zl_d zl_c10 rfl) (zl_d zl_c10 rfl) (zl_d zl_c10 rfl) (hin 1 (by decide) (by decide)) ?_
  refine zl_a X Y hl (kn := 2) (i := 2) (by decide) (zl_d zl_c10 rfl) (zl_d zl_c10 rfl) (zl_d zl_c10 rfl) (zl_d zl_c10 rfl) (zl_d zl_c10 rfl) (hin 2 (by decide) (by decide)) ?_
  refine zl_a X Y hl (kn := 3) (i := 3) (by decide) (zl_d zl_c10 rfl) (zl_d zl_c10 rfl) (zl_d zl_c10 rfl) (zl_d zl_c10 rfl) (zl_d zl_c10 rfl) (hin 3 (by decide) (by decide)) ?_
  refine zl_callM X Y hl.1 hc hs zt_209 rfl e2 rfl zl_w60 rfl (zl_d zl_c10 rfl) rfl (Nat.le_of_ble_eq_true rfl) (fun u2 H2 locs2 hu2 Y2 => ?_)
  refine zl_eq X (tgt := 1662) (zl_d zl_c10 rfl) (by decide) ?_
  exact kk _ _ _ _ _ _ hu hu2 Y2 R1
end ZK79

/-! the law's cases -/
section ZK80
variable {p : Program} {l : Launch} {e : Env} {R : Room} {s : State} {m : MethodId} {args : Array Value} {below : List Frame} {meth : Method} {c : Code} {H : Heap} {locs : List Loc} {cells slots b L : Nat} {Q : State → Prop} {D : va_G} {κ : Nat → ClassId} {A : Nat → Prop} {ρ σ : Nat → Nat} {ls : Array Slot} {C M : zx_M} {x : Int32} {xs : Nat → Int32}
theorem zl_j11 (X : zl_X l p R s m args c D κ A b L xs) (Y : zl_Y s D κ A ρ σ C M H locs) (R0 : zm_R zq_V C M) (hc : cells ≤ R.cells) (hs : slots ≤ R.slots) (hl : lv_has ls 4 [(0, .ref b), (1, .ref (ρ 0)), (2, .ref (σ 0)), (3, .int x)]) (hin : ∀ i : Int32, 0 ≤ i → i ≤ 5 → vp_in (x + i) L)
    (kk : ∀ (ρ1 σ1 : Nat → Nat) (C1 M1 : zx_M) (H1 : Heap) (locs1 : List Loc), ρ1 0 = ρ 0 → σ1 0 = σ 0 → zl_Y s D κ A ρ1 σ1 C1 M1 H1 locs1 → zm_R zq_V C1 M1 → W p l e R s m args below meth c H1 locs1 cells slots Q (F0 m 1662 ls [])) : W p l e R s m args below meth c H locs cells slots Q (F0 m 603 ls []) := by
  obtain ⟨r, C1, M1, e1, e2, R1⟩ := zl_r_orderFor R0 (xs (x + 1).toNatClampNeg) (xs (x + 2).toNatClampNeg)
  refine zl_ld X (lv_at hl 1 rfl) rfl (zl_d zl_c11 rfl) ?_
  refine zl_a X Y hl (kn := 1) (i := 1) (by decide) (zl_d zl_c11 rfl) (zl_d zl_c11 rfl) (zl_d zl_c11 rfl) (zl_d zl_c11 rfl) (zl_d zl_c11 rfl) (hin 1 (by decide) (by decide)) ?_
  refine zl_a X Y hl (kn := 2) (i := 2) (by decide) (zl_d zl_c11 rfl) (zl_d zl_c11 rfl) (zl_d zl_c11 rfl) (zl_d zl_c11 rfl) (zl_d zl_c11 rfl) (hin 2 (by decide) (by decide)) ?_
  refine zl_callC X Y hl.1 hc hs zt_117 rfl e1 rfl zl_w61 rfl (zl_d zl_c11 rfl) rfl (Nat.le_of_ble_eq_true rfl) (fun u H1 locs1 hu Y1 => ?_)
  clear Y
  have Y := Y1
  refine zl_ld X (lv_at hl 2 rfl) rfl (zl_d zl_c11 rfl) ?_
  refine zl_a X Y hl (kn := 1) (i := 1) (by decide) (zl_d zl_c11 rfl) (zl_d zl_c11 rfl) (zl_d zl_c11 rfl) (zl_d zl_c11 rfl) (zl_d zl_c11 rfl) (hin 1 (by decide) (by decide)) ?_
  refine zl_a X Y hl (kn := 2) (i := 2) (by decide) (zl_d zl_c11 rfl) (zl_d zl_c11 rfl) (zl_d zl_c11 rfl) (zl_d zl_c11 rfl) (zl_d zl_c11 rfl) (hin 2 (by decide) (by decide)) ?_
  refine zl_callM X Y hl.1 hc hs zt_211 rfl e2 rfl zl_w64 rfl (zl_d zl_c11 rfl) rfl (Nat.le_of_ble_eq_true rfl) (fun u2 H2 locs2 hu2 Y2 => ?_)
  refine zl_eq X (tgt := 1662) (zl_d zl_c11 rfl) (by decide) ?_
  exact kk _ _ _ _ _ _ hu hu2 Y2 R1
theorem zl_j12 (X : zl_X l p R s m args c D κ A b L xs) (Y : zl_Y s D κ A ρ σ C M H locs) (R0 : zm_R zq_V C M) (hc : cells ≤ R.cells) (hs : slots ≤ R.slots) (hl : lv_has ls 4 [(0, .ref b), (1, .ref (ρ 0)), (2, .ref (σ 0)), (3, .int x)]) (hin : ∀ i : Int32, 0 ≤ i → i ≤ 5 → vp_in (x + i) L)
    (kk : ∀ (ρ1 σ1 : Nat → Nat) (C1 M1 : zx_M) (H1 : Heap) (locs1 : List Loc), ρ1 0 = ρ 0 → σ1 0 = σ 0 → zl_Y s D κ A ρ1 σ1 C1 M1 H1 locs1 → zm_R zq_V C1 M1 → W p l e R s m args below meth c H1 locs1 cells slots Q (F0 m 1662 ls [])) : W p l e R s m args below meth c H locs cells slots Q (F0 m 636 ls []) := by
  obtain ⟨r, C1, M1, e1, e2, R1⟩ := zl_r_pass R0 (xs (x + 1).toNatClampNeg) (xs (x + 2).toNatClampNeg) (xs (x + 3).toNatClampNeg)
  refine zl_ld X (lv_at hl 1 rfl) rfl (zl_d zl_c12 rfl) ?_
  refine zl_a X Y hl (kn := 1) (i := 1) (by decide) (zl_d zl_c12 rfl) (zl_d zl_c12 rfl) (zl_d zl_c12 rfl) (zl_d zl_c12 rfl) (zl_d zl_c12 rfl) (hin 1 (by decide) (by decide)) ?_
  refine zl_a X Y hl (kn := 2) (i := 2) (by decide) (zl_d zl_c12 rfl) (zl_d zl_c12 rfl) (zl_d zl_c12 rfl) (zl_d zl_c12 rfl) (zl_d zl_c12 rfl) (hin 2 (by decide) (by decide)) ?_
  refine zl_a X Y hl (kn := 3) (i := 3) (by decide) (zl_d zl_c12 rfl) (zl_d zl_c12 rfl) (zl_d zl_c12 rfl) (zl_d zl_c12 rfl) (zl_d zl_c12 rfl) (hin 3 (by decide) (by decide)) ?_
  refine zl_callC X Y hl.1 hc hs zt_118 rfl e1 rfl zl_w65 rfl (zl_d zl_c12 rfl) rfl (Nat.le_of_ble_eq_true rfl) (fun u H1 locs1 hu Y1 => ?_)
  clear Y
  have Y := Y1
  refine zl_ld X (lv_at hl 2 rfl) rfl (zl_d zl_c12 rfl) ?_
  refine zl_a X Y hl (kn := 1) (i := 1) (by decide) (zl_d zl_c12 rfl) (zl_d zl_c12 rfl) (zl_d zl_c12 rfl) (zl_d zl_c12 rfl) (zl_d zl_c12 rfl) (hin 1 (by decide) (by decide)) ?_
  refine zl_a X Y hl (kn := 2) (i := 2) (by decide) (zl_d zl_c12 rfl) (zl_d zl_c12 rfl) (zl_d zl_c12 rfl) (zl_d zl_c12 rfl) (zl_d zl_c12 rfl) (hin 2 (by decide) (by decide)) ?_
  refine zl_a X Y hl (kn := 3) (i := 3) (by decide) (zl_d zl_c12 rfl) (zl_d zl_c12 rfl) (zl_d zl_c12 rfl) (zl_d zl_c12 rfl) (zl_d zl_c12 rfl) (hin 3 (by decide) (by decide)) ?_
  refine zl_callM X Y hl.1 hc hs zt_213 rfl e2 rfl zl_w68 rfl (zl_d zl_c12 rfl) rfl (Nat.le_of_ble_eq_true rfl) (fun u2 H2 locs2 hu2 Y2 => ?_)
  refine zl_eq X (tgt := 1662) (zl_d zl_c12 rfl) (by decide) ?_
  exact kk _ _ _ _ _ _ hu hu2 Y2 R1
theorem zl_j13 (X : zl_X l p R s m args c D κ A b L xs) (Y : zl_Y s D κ A ρ σ C M H locs) (R0 : zm_R zq_V C M) (hc : cells ≤ R.cells) (hs : slots ≤ R.slots) (hl : lv_has ls 4 [(0, .ref b), (1, .ref (ρ 0)), (2, .ref (σ 0)), (3, .int x)]) (hin : ∀ i : Int32, 0 ≤ i → i ≤ 5 → vp_in (x + i) L)
    (kk : ∀ (ρ1 σ1 : Nat → Nat) (C1 M1 : zx_M) (H1 : Heap) (locs1 : List Loc), ρ1 0 = ρ 0 → σ1 0 = σ 0 → zl_Y s D κ A ρ1 σ1 C1 M1 H1 locs1 → zm_R zq_V C1 M1 → W p l e R s m args below meth c H1 locs1 cells slots Q (F0 m 1662 ls [])) : W p l e R s m args below meth c H locs cells slots Q (F0 m 679 ls []) := by
  obtain ⟨r, C1, M1, e1, e2, R1⟩ := zl_r_runIn R0 (xs (x + 1).toNatClampNeg) (xs (x + 2).toNatClampNeg)
  refine zl_ld X (lv_at hl 1 rfl) rfl (zl_d zl_c13 rfl) ?_
  refine zl_a X Y hl (kn := 1) (i := 1) (by decide) (zl_d zl_c13 rfl) (zl_d zl_c13 rfl) (zl_d zl_c13 rfl) (zl_d zl_c13 rfl) (zl_d zl_c13 rfl) (hin 1 (by decide) (by decide)) ?_
  refine zl_a X Y hl (kn := 2) (i := 2) (by decide) (zl_d zl_c13 rfl) (zl_d zl_c13 rfl) (zl_d zl_c13 rfl) (zl_d zl_c13 rfl) (zl_d zl_c13 rfl) (hin 2 (by decide) (by decide)) ?_
  refine zl_callC X Y hl.1 hc hs zt_121 rfl e1 rfl zl_w69 rfl (zl_d zl_c13 rfl) rfl (Nat.le_of_ble_eq_true rfl) (fun u H1 locs1 hu Y1 => ?_)
  clear Y
  have Y := Y1
  refine zl_ld X (lv_at hl 2 rfl) rfl (zl_d zl_c13 rfl) ?_
  refine zl_a X Y hl (kn := 1) (i := 1) (by decide) (zl_d zl_c13 rfl) (zl_d zl_c13 rfl) (zl_d zl_c13 rfl) (zl_d zl_c13 rfl) (zl_d zl_c13 rfl) (hin 1 (by decide) (by decide)) ?_
  refine zl_a X Y hl (kn := 2) (i := 2) (by decide) (zl_d zl_c13 rfl) (zl_d zl_c13 rfl) (zl_d zl_c13 rfl) (zl_d zl_c13 rfl) (zl_d zl_c13 rfl) (hin 2 (by decide) (by decide)) ?_
  refine zl_callM X Y hl.1 hc hs zt_214 rfl e2 rfl zl_w72 rfl (zl_d zl_c13 rfl) rfl (Nat.le_of_ble_eq_true rfl) (fun u2 H2 locs2 hu2 Y2 => ?_)
  refine zl_eq X (tgt := 1662) (zl_d zl_c13 rfl) (by decide) ?_
  exact kk _ _ _ _ _ _ hu hu2 Y2 R1
theorem zl_j14 (X : zl_X l p R s m args c D κ A b L xs) (Y : zl_Y s D κ A ρ σ C M H locs) (R0 : zm_R zq_V C M) (hc : cells ≤ R.cells) (hs : slots ≤ R.slots) (hl : lv_has ls 4 [(0, .ref b), (1, .ref (ρ 0)), (2, .ref (σ 0)), (3, .int x)]) (hin : ∀ i : Int32, 0 ≤ i → i ≤ 5 → vp_in (x + i) L)
    (kk : ∀ (ρ1 σ1 : Nat → Nat) (C1 M1 : zx_M) (H1 : Heap) (locs1 : List Loc), ρ1 0 = ρ 0 → σ1 0 = σ 0 → zl_Y s D κ A ρ1 σ1 C1 M1 H1 locs1 → zm_R zq_V C1 M1 → W p l e R s m args below meth c H1 locs1 cells slots Q (F0 m 1662 ls [])) : W p l e R s m args below meth c H locs cells slots Q (F0 m 712 ls []) := by
  obtain ⟨r, C1, M1, e1, e2, R1⟩ := zl_r_room R0 (xs (x + 1).toNatClampNeg)
  refine zl_ld X (lv_at hl 1 rfl) rfl (zl_d zl_c14 rfl) ?_
  refine zl_a X Y hl (kn := 1) (i := 1) (by decide) (zl_d zl_c14 rfl) (zl_d zl_c14 rfl) (zl_d zl_c14 rfl) (zl_d zl_c14 rfl) (zl_d zl_c14 rfl) (hin 1 (by decide) (by decide)) ?_
  refine zl_callC X Y hl.1 hc hs zt_122 rfl e1 rfl zl_w73 rfl (zl_d zl_c14 rfl) rfl (Nat.le_of_ble_eq_true rfl) (fun u H1 locs1 hu Y1 => ?_)
  clear Y
  have Y := Y1
  refine zl_ld X (lv_at hl 2 rfl) rfl (zl_d zl_c14 rfl) ?_
  refine zl_a X Y hl (kn := 1) (i := 1) (by decide) (zl_d zl_c14 rfl) (zl_d zl_c14 rfl) (zl_d zl_c14 rfl) (zl_d zl_c14 rfl) (zl_d zl_c14 rfl) (hin 1 (by decide) (by decide)) ?_
  refine zl_callM X Y hl.1 hc hs zt_215 rfl e2 rfl zl_w76 rfl (zl_d zl_c14 rfl) rfl (Nat.le_of_ble_eq_true rfl) (fun u2 H2 locs2 hu2 Y2 => ?_)
  refine zl_eq X (tgt := 1662) (zl_d zl_c14 rfl) (by decide) ?_
  exact kk _ _ _ _ _ _ hu hu2 Y2 R1
theorem zl_j15 (X : zl_X l p R s m args c D κ A b L xs) (Y : zl_Y s D κ A ρ σ C M H locs) (R0 : zm_R zq_V C M) (hc : cells ≤ R.cells) (hs : slots ≤ R.slots) (hl : lv_has ls 4 [(0, .ref b), (1, .ref (ρ 0)), (2, .ref (σ 0)), (3, .int x)]) (hin : ∀ i : Int32, 0 ≤ i → i ≤ 5 → vp_in (x + i) L)
    (kk : ∀ (ρ1 σ1 : Nat → Nat) (C1 M1 : zx_M) (H1 : Heap) (locs1 : List Loc), ρ1 0 = ρ 0 → σ1 0 = σ 0 → zl_Y s D κ A ρ1 σ1 C1 M1 H1 locs1 → zm_R zq_V C1 M1 → W p l e R s m args below meth c H1 locs1 cells slots Q (F0 m 1662 ls [])) : W p l e R s m args below meth c H locs cells slots Q (F0 m 735 ls []) := by
  obtain ⟨r, C1, M1, e1, e2, R1⟩ := zl_r_last R0 (xs (x + 1).toNatClampNeg) (xs (x + 2).toNatClampNeg)
  refine zl_ld X (lv_at hl 1 rfl) rfl (zl_d zl_c15 rfl) ?_
  refine zl_a X Y hl (kn := 1) (i := 1) (by decide) (zl_d zl_c15 rfl) (zl_d zl_c15 rfl) (zl_d zl_c15 rfl) (zl_d zl_c15 rfl) (zl_d zl_c15 rfl) (hin 1 (by decide) (by decide)) ?_
  refine zl_a X Y hl (kn := 2) (i := 2) (by decide) (zl_d zl_c15 rfl) (zl_d zl_c15 rfl) (zl_d zl_c15 rfl) (zl_d zl_c15 rfl) (zl_d zl_c15 rfl) (hin 2 (by decide) (by decide)) ?_
  refine zl_callC X Y hl.1 hc hs zt_123 rfl e1 rfl zl_w77 rfl (zl_d zl_c15 rfl) rfl (Nat.le_of_ble_eq_true rfl) (fun u H1 locs1 hu Y1 => ?_)
  clear Y
  have Y := Y1
  refine zl_ld X (lv_at hl 2 rfl) rfl (zl_d zl_c15 rfl) ?_
  refine zl_a X Y hl (kn := 1) (i := 1) (by decide) (zl_d zl_c15 rfl) (zl_d zl_c15 rfl) (zl_d zl_c15 rfl) (zl_d zl_c15 rfl) (zl_d zl_c15 rfl) (hin 1 (by decide) (by decide)) ?_
  refine zl_a X Y hl (kn := 2) (i := 2) (by decide) (zl_d zl_c15 rfl) (zl_d zl_c15 rfl) (zl_d zl_c15 rfl) (zl_d zl_c15 rfl) (zl_d zl_c15 rfl) (hin 2 (by decide) (by decide)) ?_
  refine zl_callM X Y hl.1 hc hs zt_216 rfl e2 rfl zl_w80 rfl (zl_d zl_c15 rfl) rfl (Nat.le_of_ble_eq_true rfl) (fun u2 H2 locs2 hu2 Y2 => ?_)
  refine zl_eq X (tgt := 1662) (zl_d zl_c15 rfl) (by decide) ?_
  exact kk _ _ _ _ _ _ hu hu2 Y2 R1
theorem zl_j16 (X : zl_X l p R s m args c D κ A b L xs) (Y : zl_Y s D κ A ρ σ C M H locs) (R0 : zm_R zq_V C M) (hc : cells ≤ R.cells) (hs : slots ≤ R.slots) (hl : lv_has ls 4 [(0, .ref b), (1, .ref (ρ 0)), (2, .ref (σ 0)), (3, .int x)]) (hin : ∀ i : Int32, 0 ≤ i → i ≤ 5 → vp_in (x + i) L)
    (kk : ∀ (ρ1 σ1 : Nat → Nat) (C1 M1 : zx_M) (H1 : Heap) (locs1 : List Loc), ρ1 0 = ρ 0 → σ1 0 = σ 0 → zl_Y s D κ A ρ1 σ1 C1 M1 H1 locs1 → zm_R zq_V C1 M1 → W p l e R s m args below meth c H1 locs1 cells slots Q (F0 m 1662 ls [])) : W p l e R s m args below meth c H locs cells slots Q (F0 m 768 ls []) := by
  obtain ⟨r, C1, M1, e1, e2, R1⟩ := zl_r_sticks R0 (xs (x + 1).toNatClampNeg) (xs (x + 2).toNatClampNeg) (xs (x + 3).toNatClampNeg) (xs (x + 4).toNatClampNeg)
  refine zl_ld X (lv_at hl 1 rfl) rfl (zl_d zl_c16 rfl) ?_
  refine zl_a X Y hl (kn := 1) (i := 1) (by decide) (zl_d zl_c16 rfl) (zl_d zl_c16 rfl) (zl_d zl_c16 rfl) (zl_d zl_c16 rfl) (zl_d zl_c16 rfl) (hin 1 (by decide) (by decide)) ?_
  refine zl_a X Y hl (kn := 2) (i := 2) (by decide) (zl_d zl_c16 rfl) (zl_d zl_c16 rfl) (zl_d zl_c16 rfl) (zl_d zl_c16 rfl) (zl_d zl_c16 rfl) (hin 2 (by decide) (by decide)) ?_
  refine zl_a X Y hl (kn := 3) (i := 3) (by decide) (zl_d zl_c16 rfl) (zl_d zl_c16 rfl) (zl_d zl_c16 rfl) (zl_d zl_c16 rfl) (zl_d zl_c16 rfl) (hin 3 (by decide) (by decide)) ?_
  refine zl_a X Y hl (kn := 4) (i := 4) (by decide) (zl_d zl_c16 rfl) (zl_d zl_c16 rfl) (zl_d zl_c16 rfl) (zl_d zl_c16 rfl) (zl_d zl_c16 rfl) (hin 4 (by decide) (by decide)) ?_
  refine zl_callC X Y hl.1 hc hs zt_124 rfl e1 rfl zl_w81 rfl (zl_d zl_c16 rfl) rfl (Nat.le_of_ble_eq_true rfl) (fun u H1 locs1 hu Y1 => ?_)
  clear Y
  have Y := Y1
  refine zl_ld X (lv_at hl 2 rfl) rfl (zl_d zl_c16 rfl) ?_
  refine zl_a X Y hl (kn := 1) (i := 1) (by decide) (zl_d zl_c16 rfl) (zl_d zl_c16 rfl) (zl_d zl_c16 rfl) (zl_d zl_c16 rfl) (zl_d zl_c16 rfl) (hin 1 (by decide) (by decide)) ?_
  refine zl_a X Y hl (kn := 2) (i := 2) (by decide) (zl_d zl_c16 rfl) (zl_d zl_c16 rfl) (zl_d zl_c16 rfl) (zl_d zl_c16 rfl) (zl_d zl_c16 rfl) (hin 2 (by decide) (by decide)) ?_
  refine zl_a X Y hl (kn := 3) (i := 3) (by decide) (zl_d zl_c16 rfl) (zl_d zl_c16 rfl) (zl_d zl_c16 rfl) (zl_d zl_c16 rfl) (zl_d zl_c16 rfl) (hin 3 (by decide) (by decide)) ?_
  refine zl_a X Y hl (kn := 4) (i := 4) (by decide) (zl_d zl_c16 rfl) (zl_d zl_c16 rfl) (zl_d zl_c16 rfl) (zl_d zl_c16 rfl) (zl_d zl_c16 rfl) (hin 4 (by decide) (by decide)) ?_
  refine zl_callM X Y hl.1 hc hs zt_218 rfl e2 rfl zl_w85 rfl (zl_d zl_c16 rfl) rfl (Nat.le_of_ble_eq_true rfl) (fun u2 H2 locs2 hu2 Y2 => ?_)
  refine zl_eq X (tgt := 1662) (zl_d zl_c16 rfl) (by decide) ?_
  exact kk _ _ _ _ _ _ hu hu2 Y2 R1
theorem zl_j17 (X : zl_X l p R s m args c D κ A b L xs) (Y : zl_Y s D κ A ρ σ C M H locs) (R0 : zm_R zq_V C M) (hc : cells ≤ R.cells) (hs : slots ≤ R.slots) (hl : lv_has ls 4 [(0, .ref b), (1, .ref (ρ 0)), (2, .ref (σ 0)), (3, .int x)]) (hin : ∀ i : Int32, 0 ≤ i → i ≤ 5 → vp_in (x + i) L)
    (kk : ∀ (ρ1 σ1 : Nat → Nat) (C1 M1 : zx_M) (H1 : Heap) (locs1 : List Loc), ρ1 0 = ρ 0 → σ1 0 = σ 0 → zl_Y s D κ A ρ1 σ1 C1 M1 H1 locs1 → zm_R zq_V C1 M1 → W p l e R s m args below meth c H1 locs1 cells slots Q (F0 m 1662 ls [])) : W p l e R s m args below meth c H locs cells slots Q (F0 m 821 ls []) := by
  obtain ⟨r, C1, M1, e1, e2, R1⟩ := zl_r_sure R0 (xs (x + 1).toNatClampNeg) (xs (x + 2).toNatClampNeg)
  refine zl_ld X (lv_at hl 1 rfl) rfl (zl_d zl_c17 rfl) ?_
  refine zl_a X Y hl (kn := 1) (i := 1) (by decide) (zl_d zl_c17 rfl) (zl_d zl_c17 rfl) (zl_d zl_c17 rfl) (zl_d zl_c17 rfl) (zl_d zl_c17 rfl) (hin 1 (by decide) (by decide)) ?_
  refine zl_a X Y hl (kn := 2) (i := 2) (by decide) (zl_d zl_c17 rfl) (zl_d zl_c17 rfl) (zl_d zl_c17 rfl) (zl_d zl_c17 rfl) (zl_d zl_c17 rfl) (hin 2 (by decide) (by decide)) ?_
  refine zl_callC X Y hl.1 hc hs zt_128 rfl e1 rfl zl_w86 rfl (zl_d zl_c17 rfl) rfl (Nat.le_of_ble_eq_true rfl) (fun u H1 locs1 hu Y1 => ?_)
  clear Y
  have Y := Y1
  refine zl_ld X (lv_at hl 2 rfl) rfl (zl_d zl_c17 rfl) ?_
  refine zl_a X Y hl (kn := 1) (i := 1) (by decide) (zl_d zl_c17 rfl) (zl_d zl_c17 rfl) (zl_d zl_c17 rfl) (zl_d zl_c17 rfl) (zl_d zl_c17 rfl) (hin 1 (by decide) (by decide)) ?_
  refine zl_a X Y hl (kn := 2) (i := 2) (by decide) (zl_d zl_c17 rfl) (zl_d zl_c17 rfl) (zl_d zl_c17 rfl) (zl_d zl_c17 rfl) (zl_d zl_c17 rfl) (hin 2 (by decide) (by decide)) ?_
  refine zl_callM X Y hl.1 hc hs zt_221 rfl e2 rfl zl_w90 rfl (zl_d zl_c17 rfl) rfl (Nat.le_of_ble_eq_true rfl) (fun u2 H2 locs2 hu2 Y2 => ?_)
  refine zl_eql X (tgt := 1662) (zl_d zl_c17 rfl) (zl_d zl_c17 rfl) (by decide) ?_
  exact kk _ _ _ _ _ _ hu hu2 Y2 R1
theorem zl_j18 (X : zl_X l p R s m args c D κ A b L xs) (Y : zl_Y s D κ A ρ σ C M H locs) (R0 : zm_R zq_V C M) (hc : cells ≤ R.cells) (hs : slots ≤ R.slots) (hl : lv_has ls 4 [(0, .ref b), (1, .ref (ρ 0)), (2, .ref (σ 0)), (3, .int x)]) (hin : ∀ i : Int32, 0 ≤ i → i ≤ 5 → vp_in (x + i) L)
    (kk : ∀ (ρ1 σ1 : Nat → Nat) (C1 M1 : zx_M) (H1 : Heap) (locs1 : List Loc), ρ1 0 = ρ 0 → σ1 0 = σ 0 → zl_Y s D κ A ρ1 σ1 C1 M1 H1 locs1 → zm_R zq_V C1 M1 → W p l e R s m args below meth c H1 locs1 cells slots Q (F0 m 1662 ls [])) : W p l e R s m args below meth c H locs cells slots Q (F0 m 855 ls []) := by
  obtain ⟨r, C1, M1, e1, e2, R1⟩ := zl_r_mean R0 (xs (x + 1).toNatClampNeg) (xs (x + 2).toNatClampNeg) (xs (x + 3).toNatClampNeg) (xs (x + 4).toNatClampNeg)
  refine zl_ld X (lv_at hl 1 rfl) rfl (zl_d zl_c18 rfl) ?_
  refine zl_a X Y hl (kn := 1) (i := 1) (by decide) (zl_d zl_c18 rfl) (zl_d zl_c18 rfl) (zl_d zl_c18 rfl) (zl_d zl_c18 rfl) (zl_d zl_c18 rfl) (hin 1 (by decide) (by decide)) ?_
  refine zl_a X Y hl (kn := 2) (i := 2) (by decide) (zl_d zl_c18 rfl) (zl_d zl_c18 rfl) (zl_d zl_c18 rfl) (zl_d zl_c18 rfl) (zl_d zl_c18 rfl) (hin 2 (by decide) (by decide)) ?_
  refine zl_a X Y hl (kn := 3) (i := 3) (by decide) (zl_d zl_c18 rfl) (zl_d zl_c18 rfl) (zl_d zl_c18 rfl) (zl_d zl_c18 rfl) (zl_d zl_c18 rfl) (hin 3 (by decide) (by decide)) ?_
  refine zl_a X Y hl (kn := 4) (i := 4) (by decide) (zl_d zl_c18 rfl) (zl_d zl_c18 rfl) (zl_d zl_c18 rfl) (zl_d zl_c18 rfl) (zl_d zl_c18 rfl) (hin 4 (by decide) (by decide)) ?_
  refine zl_callC X Y hl.1 hc hs zt_129 rfl e1 rfl zl_w91 rfl (zl_d zl_c18 rfl) rfl (Nat.le_of_ble_eq_true rfl) (fun u H1 locs1 hu Y1 => ?_)
  clear Y
  have Y := Y1
  refine zl_ld X (lv_at hl 2 rfl) rfl (zl_d zl_c18 rfl) ?_
  refine zl_a X Y hl (kn := 1) (i := 1) (by decide) (zl_d zl_c18 rfl) (zl_d zl_c18 rfl) (zl_d zl_c18 rfl) (zl_d zl_c18 rfl) (zl_d zl_c18 rfl) (hin 1 (by decide) (by decide)) ?_
  refine zl_a X Y hl (kn := 2) (i := 2) (by decide) (zl_d zl_c18 rfl) (zl_d zl_c18 rfl) (zl_d zl_c18 rfl) (zl_d zl_c18 rfl) (zl_d zl_c18 rfl) (hin 2 (by decide) (by decide)) ?_
  refine zl_a X Y hl (kn := 3) (i := 3) (by decide) (zl_d zl_c18 rfl) (zl_d zl_c18 rfl) (zl_d zl_c18 rfl) (zl_d zl_c18 rfl) (zl_d zl_c18 rfl) (hin 3 (by decide) (by decide)) ?_
  refine zl_a X Y hl (kn := 4) (i := 4) (by decide) (zl_d zl_c18 rfl) (zl_d zl_c18 rfl) (zl_d zl_c18 rfl) (zl_d zl_c18 rfl) (zl_d zl_c18 rfl) (hin 4 (by decide) (by decide)) ?_
  refine zl_callM X Y hl.1 hc hs zt_222 rfl e2 rfl zl_w95 rfl (zl_d zl_c18 rfl) rfl (Nat.le_of_ble_eq_true rfl) (fun u2 H2 locs2 hu2 Y2 => ?_)
  refine zl_eql X (tgt := 1662) (zl_d zl_c18 rfl) (zl_d zl_c18 rfl) (by decide) ?_
  exact kk _ _ _ _ _ _ hu hu2 Y2 R1
theorem zl_j19 (X : zl_X l p R s m args c D κ A b L xs) (Y : zl_Y s D κ A ρ σ C M H locs) (R0 : zm_R zq_V C M) (hc : cells ≤ R.cells) (hs : slots ≤ R.slots) (hl : lv_has ls 4 [(0, .ref b), (1, .ref (ρ 0)), (2, .ref (σ 0)), (3, .int x)]) (hin : ∀ i : Int32, 0 ≤ i → i ≤ 5 → vp_in (x + i) L)
    (kk : ∀ (ρ1 σ1 : Nat → Nat) (C1 M1 : zx_M) (H1 : Heap) (locs1 : List Loc), ρ1 0 = ρ 0 → σ1 0 = σ 0 → zl_Y s D κ A ρ1 σ1 C1 M1 H1 locs1 → zm_R zq_V C1 M1 → W p l e R s m args below meth c H1 locs1 cells slots Q (F0 m 1662 ls [])) : W p l e R s m args below meth c H locs cells slots Q (F0 m 909 ls []) := by
  obtain ⟨r, C1, M1, e1, e2, R1⟩ := zl_r_paper R0 (xs (x + 1).toNatClampNeg)
  refine zl_ld X (lv_at hl 1 rfl) rfl (zl_d zl_c19 rfl) ?_
  refine zl_a X Y hl (kn := 1) (i := 1) (by decide) (zl_d zl_c19 rfl) (zl_d zl_c19 rfl) (zl_d zl_c19 rfl) (zl_d zl_c19 rfl) (zl_d zl_c19 rfl) (hin 1 (by decide) (by decide)) ?_
  refine zl_callC X Y hl.1 hc hs zt_131 rfl e1 rfl zl_w96 rfl (zl_d zl_c19 rfl) rfl (Nat.le_of_ble_eq_true rfl) (fun u H1 locs1 hu Y1 => ?_)
  clear Y
  have Y := Y1
  refine zl_ld X (lv_at hl 2 rfl) rfl (zl_d zl_c19 rfl) ?_
  refine zl_a X Y hl (kn := 1) (i := 1) (by decide) (zl_d zl_c19 rfl) (zl_d zl_c19 rfl) (zl_d zl_c19 rfl) (zl_d zl_c19 rfl) (zl_d zl_c19 rfl) (hin 1 (by decide) (by decide)) ?_
  refine zl_callM X Y hl.1 hc hs zt_223 rfl e2 rfl zl_w99 rfl (zl_d zl_c19 rfl) rfl (Nat.le_of_ble_eq_true rfl) (fun u2 H2 locs2 hu2 Y2 => ?_)
  refine zl_eq X (tgt := 1662) (zl_d zl_c19 rfl) (by decide) ?_
  exact kk _ _ _ _ _ _ hu hu2 Y2 R1
theorem zl_j20 (X : zl_X l p R s m args c D κ A b L xs) (Y : zl_Y s D κ A ρ σ C M H locs) (R0 : zm_R zq_V C M) (hc : cells ≤ R.cells) (hs : slots ≤ R.slots) (hl : lv_has ls 4 [(0, .ref b), (1, .ref (ρ 0)), (2, .ref (σ 0)), (3, .int x)]) (hin : ∀ i : Int32, 0 ≤ i → i ≤ 5 → vp_in (x + i) L)
    (kk : ∀ (ρ1 σ1 : Nat → Nat) (C1 M1 : zx_M) (H1 : Heap) (locs1 : List Loc), ρ1 0 = ρ 0 → σ1 0 = σ 0 → zl_Y s D κ A ρ1 σ1 C1 M1 H1 locs1 → zm_R zq_V C1 M1 → W p l e R s m args below meth c H1 locs1 cells slots Q (F0 m 1662 ls [])) : W p l e R s m args below meth c H locs cells slots Q (F0 m 932 ls []) := by
  obtain ⟨r, C1, M1, e1, e2, R1⟩ := zl_r_windBy R0 (xs (x + 1).toNatClampNeg) (xs (x + 2).toNatClampNeg)
  refine zl_ld X (lv_at hl 1 rfl) rfl (zl_d zl_c20 rfl) ?_
  refine zl_a X Y hl (kn := 1) (i := 1) (by decide) (zl_d zl_c20 rfl) (zl_d zl_c20 rfl) (zl_d zl_c20 rfl) (zl_d zl_c20 rfl) (zl_d zl_c20 rfl) (hin 1 (by decide) (by decide)) ?_
  refine zl_a X Y hl (kn := 2) (i := 2) (by decide) (zl_d zl_c20 rfl) (zl_d zl_c20 rfl) (zl_d zl_c20 rfl) (zl_d zl_c20 rfl) (zl_d zl_c20 rfl) (hin 2 (by decide) (by decide)) ?_
  refine zl_callC X Y hl.1 hc hs zt_132 rfl e1 rfl zl_w100 rfl (zl_d zl_c20 rfl) rfl (Nat.le_of_ble_eq_true rfl) (fun u H1 locs1 hu Y1 => ?_)
  clear Y
  have Y := Y1
  refine zl_ld X (lv_at hl 2 rfl) rfl (zl_d zl_c20 rfl) ?_
  refine zl_a X Y hl (kn := 1) (i := 1) (by decide) (zl_d zl_c20 rfl) (zl_d zl_c20 rfl) (zl_d zl_c20 rfl) (zl_d zl_c20 rfl) (zl_d zl_c20 rfl) (hin 1 (by decide) (by decide)) ?_
  refine zl_a X Y hl (kn := 2) (i := 2) (by decide) (zl_d zl_c20 rfl) (zl_d zl_c20 rfl) (zl_d zl_c20 rfl) (zl_d zl_c20 rfl) (zl_d zl_c20 rfl) (hin 2 (by decide) (by decide)) ?_
  refine zl_callM X Y hl.1 hc hs zt_224 rfl e2 rfl zl_w103 rfl (zl_d zl_c20 rfl) rfl (Nat.le_of_ble_eq_true rfl) (fun u2 H2 locs2 hu2 Y2 => ?_)
  refine zl_eq X (tgt := 1662) (zl_d zl_c20 rfl) (by decide) ?_
  exact kk _ _ _ _ _ _ hu hu2 Y2 R1
theorem zl_j21 (X : zl_X l p R s m args c D κ A b L xs) (Y : zl_Y s D κ A ρ σ C M H locs) (R0 : zm_R zq_V C M) (hc : cells ≤ R.cells) (hs : slots ≤ R.slots) (hl : lv_has ls 4 [(0, .ref b), (1, .ref (ρ 0)), (2, .ref (σ 0)), (3, .int x)]) (hin : ∀ i : Int32, 0 ≤ i → i ≤ 5 → vp_in (x + i) L)
    (kk : ∀ (ρ1 σ1 : Nat → Nat) (C1 M1 : zx_M) (H1 : Heap) (locs1 : List Loc), ρ1 0 = ρ 0 → σ1 0 = σ 0 → zl_Y s D κ A ρ1 σ1 C1 M1 H1 locs1 → zm_R zq_V C1 M1 → W p l e R s m args below meth c H1 locs1 cells slots Q (F0 m 1662 ls [])) : W p l e R s m args below meth c H locs cells slots Q (F0 m 965 ls []) := by
  obtain ⟨r, C1, M1, e1, e2, R1⟩ := zl_r_judge R0 (xs (x + 1).toNatClampNeg) (xs (x + 2).toNatClampNeg)
  refine zl_ld X (lv_at hl 1 rfl) rfl (zl_d zl_c21 rfl) ?_
  refine zl_a X Y hl (kn := 1) (i := 1) (by decide) (zl_d zl_c21 rfl) (zl_d zl_c21 rfl) (zl_d zl_c21 rfl) (zl_d zl_c21 rfl) (zl_d zl_c21 rfl) (hin 1 (by decide) (by decide)) ?_
  refine zl_a X Y hl (kn := 2) (i := 2) (by decide) (zl_d zl_c21 rfl) (zl_d zl_c21 rfl) (zl_d zl_c21 rfl) (zl_d zl_c21 rfl) (zl_d zl_c21 rfl) (hin 2 (by decide) (by decide)) ?_
  refine zl_callC X Y hl.1 hc hs zt_135 rfl e1 rfl zl_w104 rfl (zl_d zl_c21 rfl) rfl (Nat.le_of_ble_eq_true rfl) (fun u H1 locs1 hu Y1 => ?_)
  clear Y
  have Y := Y1
  refine zl_ld X (lv_at hl 2 rfl) rfl (zl_d zl_c21 rfl) ?_
  refine zl_a X Y hl (kn := 1) (i := 1) (by decide) (zl_d zl_c21 rfl) (zl_d zl_c21 rfl) (zl_d zl_c21 rfl) (zl_d zl_c21 rfl) (zl_d zl_c21 rfl) (hin 1 (by decide) (by decide)) ?_
  refine zl_a X Y hl (kn := 2) (i := 2) (by decide) (zl_d zl_c21 rfl) (zl_d zl_c21 rfl) (zl_d zl_c21 rfl) (zl_d zl_c21 rfl) (zl_d zl_c21 rfl) (hin 2 (by decide) (by decide)) ?_
  refine zl_callM X Y hl.1 hc hs zt_227 rfl e2 rfl zl_w107 rfl (zl_d zl_c21 rfl) rfl (Nat.le_of_ble_eq_true rfl) (fun u2 H2 locs2 hu2 Y2 => ?_)
  refine zl_eq X (tgt := 1662) (zl_d zl_c21 rfl) (by decide) ?_
  exact kk _ _ _ _ _ _ hu hu2 Y2 R1
end ZK80

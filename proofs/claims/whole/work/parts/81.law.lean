/-! the law's cases -/
section ZK81
variable {p : Program} {l : Launch} {e : Env} {R : Room} {s : State} {m : MethodId} {args : Array Value} {below : List Frame} {meth : Method} {c : Code} {H : Heap} {locs : List Loc} {cells slots b L : Nat} {Q : State → Prop} {D : va_G} {κ : Nat → ClassId} {A : Nat → Prop} {ρ σ : Nat → Nat} {ls : Array Slot} {C M : zx_M} {x : Int32} {xs : Nat → Int32}
theorem zl_j22 (X : zl_X l p R s m args c D κ A b L xs) (Y : zl_Y s D κ A ρ σ C M H locs) (R0 : zm_R zq_V C M) (hc : cells ≤ R.cells) (hs : slots ≤ R.slots) (hl : lv_has ls 4 [(0, .ref b), (1, .ref (ρ 0)), (2, .ref (σ 0)), (3, .int x)]) (hin : ∀ i : Int32, 0 ≤ i → i ≤ 5 → vp_in (x + i) L)
    (kk : ∀ (ρ1 σ1 : Nat → Nat) (C1 M1 : zx_M) (H1 : Heap) (locs1 : List Loc), ρ1 0 = ρ 0 → σ1 0 = σ 0 → zl_Y s D κ A ρ1 σ1 C1 M1 H1 locs1 → zm_R zq_V C1 M1 → W p l e R s m args below meth c H1 locs1 cells slots Q (F0 m 1662 ls [])) : W p l e R s m args below meth c H locs cells slots Q (F0 m 998 ls []) := by
  obtain ⟨r, C1, M1, e1, e2, R1⟩ := zl_r_fromWhere R0 (xs (x + 1).toNatClampNeg) (xs (x + 2).toNatClampNeg)
  refine zl_ld X (lv_at hl 1 rfl) rfl (zl_d zl_c22 rfl) ?_
  refine zl_a X Y hl (kn := 1) (i := 1) (by decide) (zl_d zl_c22 rfl) (zl_d zl_c22 rfl) (zl_d zl_c22 rfl) (zl_d zl_c22 rfl) (zl_d zl_c22 rfl) (hin 1 (by decide) (by decide)) ?_
  refine zl_a X Y hl (kn := 2) (i := 2) (by decide) (zl_d zl_c22 rfl) (zl_d zl_c22 rfl) (zl_d zl_c22 rfl) (zl_d zl_c22 rfl) (zl_d zl_c22 rfl) (hin 2 (by decide) (by decide)) ?_
  refine zl_callC X Y hl.1 hc hs zt_136 rfl e1 rfl zl_w108 rfl (zl_d zl_c22 rfl) rfl (Nat.le_of_ble_eq_true rfl) (fun u H1 locs1 hu Y1 => ?_)
  clear Y
  have Y := Y1
  refine zl_ld X (lv_at hl 2 rfl) rfl (zl_d zl_c22 rfl) ?_
  refine zl_a X Y hl (kn := 1) (i := 1) (by decide) (zl_d zl_c22 rfl) (zl_d zl_c22 rfl) (zl_d zl_c22 rfl) (zl_d zl_c22 rfl) (zl_d zl_c22 rfl) (hin 1 (by decide) (by decide)) ?_
  refine zl_a X Y hl (kn := 2) (i := 2) (by decide) (zl_d zl_c22 rfl) (zl_d zl_c22 rfl) (zl_d zl_c22 rfl) (zl_d zl_c22 rfl) (zl_d zl_c22 rfl) (hin 2 (by decide) (by decide)) ?_
  refine zl_callM X Y hl.1 hc hs zt_228 rfl e2 rfl zl_w111 rfl (zl_d zl_c22 rfl) rfl (Nat.le_of_ble_eq_true rfl) (fun u2 H2 locs2 hu2 Y2 => ?_)
  refine zl_eq X (tgt := 1662) (zl_d zl_c22 rfl) (by decide) ?_
  exact kk _ _ _ _ _ _ hu hu2 Y2 R1
theorem zl_j23 (X : zl_X l p R s m args c D κ A b L xs) (Y : zl_Y s D κ A ρ σ C M H locs) (R0 : zm_R zq_V C M) (hc : cells ≤ R.cells) (hs : slots ≤ R.slots) (hl : lv_has ls 4 [(0, .ref b), (1, .ref (ρ 0)), (2, .ref (σ 0)), (3, .int x)]) (hin : ∀ i : Int32, 0 ≤ i → i ≤ 5 → vp_in (x + i) L)
    (kk : ∀ (ρ1 σ1 : Nat → Nat) (C1 M1 : zx_M) (H1 : Heap) (locs1 : List Loc), ρ1 0 = ρ 0 → σ1 0 = σ 0 → zl_Y s D κ A ρ1 σ1 C1 M1 H1 locs1 → zm_R zq_V C1 M1 → W p l e R s m args below meth c H1 locs1 cells slots Q (F0 m 1662 ls [])) : W p l e R s m args below meth c H locs cells slots Q (F0 m 1031 ls []) := by
  obtain ⟨r, C1, M1, e1, e2, R1⟩ := zl_r_which R0 (xs (x + 1).toNatClampNeg) (xs (x + 2).toNatClampNeg) (xs (x + 3).toNatClampNeg)
  refine zl_ld X (lv_at hl 1 rfl) rfl (zl_d zl_c23 rfl) ?_
  refine zl_a X Y hl (kn := 1) (i := 1) (by decide) (zl_d zl_c23 rfl) (zl_d zl_c23 rfl) (zl_d zl_c23 rfl) (zl_d zl_c23 rfl) (zl_d zl_c23 rfl) (hin 1 (by decide) (by decide)) ?_
  refine zl_a X Y hl (kn := 2) (i := 2) (by decide) (zl_d zl_c23 rfl) (zl_d zl_c23 rfl) (zl_d zl_c23 rfl) (zl_d zl_c23 rfl) (zl_d zl_c23 rfl) (hin 2 (by decide) (by decide)) ?_
  refine zl_a X Y hl (kn := 3) (i := 3) (by decide) (zl_d zl_c23 rfl) (zl_d zl_c23 rfl) (zl_d zl_c23 rfl) (zl_d zl_c23 rfl) (zl_d zl_c23 rfl) (hin 3 (by decide) (by decide)) ?_
  refine zl_callC X Y hl.1 hc hs zt_137 rfl e1 rfl zl_w112 rfl (zl_d zl_c23 rfl) rfl (Nat.le_of_ble_eq_true rfl) (fun u H1 locs1 hu Y1 => ?_)
  clear Y
  have Y := Y1
  refine zl_ld X (lv_at hl 2 rfl) rfl (zl_d zl_c23 rfl) ?_
  refine zl_a X Y hl (kn := 1) (i := 1) (by decide) (zl_d zl_c23 rfl) (zl_d zl_c23 rfl) (zl_d zl_c23 rfl) (zl_d zl_c23 rfl) (zl_d zl_c23 rfl) (hin 1 (by decide) (by decide)) ?_
  refine zl_a X Y hl (kn := 2) (i := 2) (by decide) (zl_d zl_c23 rfl) (zl_d zl_c23 rfl) (zl_d zl_c23 rfl) (zl_d zl_c23 rfl) (zl_d zl_c23 rfl) (hin 2 (by decide) (by decide)) ?_
  refine zl_a X Y hl (kn := 3) (i := 3) (by decide) (zl_d zl_c23 rfl) (zl_d zl_c23 rfl) (zl_d zl_c23 rfl) (zl_d zl_c23 rfl) (zl_d zl_c23 rfl) (hin 3 (by decide) (by decide)) ?_
  refine zl_callM X Y hl.1 hc hs zt_230 rfl e2 rfl zl_w115 rfl (zl_d zl_c23 rfl) rfl (Nat.le_of_ble_eq_true rfl) (fun u2 H2 locs2 hu2 Y2 => ?_)
  refine zl_eq X (tgt := 1662) (zl_d zl_c23 rfl) (by decide) ?_
  exact kk _ _ _ _ _ _ hu hu2 Y2 R1
theorem zl_j24 (X : zl_X l p R s m args c D κ A b L xs) (Y : zl_Y s D κ A ρ σ C M H locs) (R0 : zm_R zq_V C M) (hc : cells ≤ R.cells) (hs : slots ≤ R.slots) (hl : lv_has ls 4 [(0, .ref b), (1, .ref (ρ 0)), (2, .ref (σ 0)), (3, .int x)]) (hin : ∀ i : Int32, 0 ≤ i → i ≤ 5 → vp_in (x + i) L)
    (kk : ∀ (ρ1 σ1 : Nat → Nat) (C1 M1 : zx_M) (H1 : Heap) (locs1 : List Loc), ρ1 0 = ρ 0 → σ1 0 = σ 0 → zl_Y s D κ A ρ1 σ1 C1 M1 H1 locs1 → zm_R zq_V C1 M1 → W p l e R s m args below meth c H1 locs1 cells slots Q (F0 m 1662 ls [])) : W p l e R s m args below meth c H locs cells slots Q (F0 m 1074 ls []) := by
  obtain ⟨r, C1, M1, e1, e2, R1⟩ := zl_r_drawn R0 (xs (x + 1).toNatClampNeg) (xs (x + 2).toNatClampNeg) (xs (x + 3).toNatClampNeg) (xs (x + 4).toNatClampNeg)
  refine zl_ld X (lv_at hl 1 rfl) rfl (zl_d zl_c24 rfl) ?_
  refine zl_a X Y hl (kn := 1) (i := 1) (by decide) (zl_d zl_c24 rfl) (zl_d zl_c24 rfl) (zl_d zl_c24 rfl) (zl_d zl_c24 rfl) (zl_d zl_c24 rfl) (hin 1 (by decide) (by decide)) ?_
  refine zl_a X Y hl (kn := 2) (i := 2) (by decide) (zl_d zl_c24 rfl) (zl_d zl_c24 rfl) (zl_d zl_c24 rfl) (zl_d zl_c24 rfl) (zl_d zl_c24 rfl) (hin 2 (by decide) (by decide)) ?_
  refine zl_a X Y hl (kn := 3) (i := 3) (by decide) (zl_d zl_c24 rfl) (zl_d zl_c24 rfl) (zl_d zl_c24 rfl) (zl_d zl_c24 rfl) (zl_d zl_c24 rfl) (hin 3 (by decide) (by decide)) ?_
  refine zl_a X Y hl (kn := 4) (i := 4) (by decide) (zl_d zl_c24 rfl) (zl_d zl_c24 rfl) (zl_d zl_c24 rfl) (zl_d zl_c24 rfl) (zl_d zl_c24 rfl) (hin 4 (by decide) (by decide)) ?_
  refine zl_callC X Y hl.1 hc hs zt_138 rfl e1 rfl zl_w116 rfl (zl_d zl_c24 rfl) rfl (Nat.le_of_ble_eq_true rfl) (fun u H1 locs1 hu Y1 => ?_)
  clear Y
  have Y := Y1
  refine zl_ld X (lv_at hl 2 rfl) rfl (zl_d zl_c24 rfl) ?_
  refine zl_a X Y hl (kn := 1) (i := 1) (by decide) (zl_d zl_c24 rfl) (zl_d zl_c24 rfl) (zl_d zl_c24 rfl) (zl_d zl_c24 rfl) (zl_d zl_c24 rfl) (hin 1 (by decide) (by decide)) ?_
  refine zl_a X Y hl (kn := 2) (i := 2) (by decide) (zl_d zl_c24 rfl) (zl_d zl_c24 rfl) (zl_d zl_c24 rfl) (zl_d zl_c24 rfl) (zl_d zl_c24 rfl) (hin 2 (by decide) (by decide)) ?_
  refine zl_a X Y hl (kn := 3) (i := 3) (by decide) (zl_d zl_c24 rfl) (zl_d zl_c24 rfl) (zl_d zl_c24 rfl) (zl_d zl_c24 rfl) (zl_d zl_c24 rfl) (hin 3 (by decide) (by decide)) ?_
  refine zl_a X Y hl (kn := 4) (i := 4) (by decide) (zl_d zl_c24 rfl) (zl_d zl_c24 rfl) (zl_d zl_c24 rfl) (zl_d zl_c24 rfl) (zl_d zl_c24 rfl) (hin 4 (by decide) (by decide)) ?_
  refine zl_callM X Y hl.1 hc hs zt_231 rfl e2 rfl zl_w119 rfl (zl_d zl_c24 rfl) rfl (Nat.le_of_ble_eq_true rfl) (fun u2 H2 locs2 hu2 Y2 => ?_)
  refine zl_eq X (tgt := 1662) (zl_d zl_c24 rfl) (by decide) ?_
  exact kk _ _ _ _ _ _ hu hu2 Y2 R1
theorem zl_j25 (X : zl_X l p R s m args c D κ A b L xs) (Y : zl_Y s D κ A ρ σ C M H locs) (R0 : zm_R zq_V C M) (hc : cells ≤ R.cells) (hs : slots ≤ R.slots) (hl : lv_has ls 4 [(0, .ref b), (1, .ref (ρ 0)), (2, .ref (σ 0)), (3, .int x)]) (hin : ∀ i : Int32, 0 ≤ i → i ≤ 5 → vp_in (x + i) L)
    (kk : ∀ (ρ1 σ1 : Nat → Nat) (C1 M1 : zx_M) (H1 : Heap) (locs1 : List Loc), ρ1 0 = ρ 0 → σ1 0 = σ 0 → zl_Y s D κ A ρ1 σ1 C1 M1 H1 locs1 → zm_R zq_V C1 M1 → W p l e R s m args below meth c H1 locs1 cells slots Q (F0 m 1662 ls [])) : W p l e R s m args below meth c H locs cells slots Q (F0 m 1127 ls []) := by
  obtain ⟨r, C1, M1, e1, e2, R1⟩ := zl_r_begin R0 (xs (x + 1).toNatClampNeg)
  refine zl_ld X (lv_at hl 1 rfl) rfl (zl_d zl_c25 rfl) ?_
  refine zl_a X Y hl (kn := 1) (i := 1) (by decide) (zl_d zl_c25 rfl) (zl_d zl_c25 rfl) (zl_d zl_c25 rfl) (zl_d zl_c25 rfl) (zl_d zl_c25 rfl) (hin 1 (by decide) (by decide)) ?_
  refine zl_callC X Y hl.1 hc hs zt_139 rfl e1 rfl zl_w120 rfl (zl_d zl_c25 rfl) rfl (Nat.le_of_ble_eq_true rfl) (fun u H1 locs1 hu Y1 => ?_)
  clear Y
  have Y := Y1
  refine zl_ld X (lv_at hl 2 rfl) rfl (zl_d zl_c25 rfl) ?_
  refine zl_a X Y hl (kn := 1) (i := 1) (by decide) (zl_d zl_c25 rfl) (zl_d zl_c25 rfl) (zl_d zl_c25 rfl) (zl_d zl_c25 rfl) (zl_d zl_c25 rfl) (hin 1 (by decide) (by decide)) ?_
  refine zl_callM X Y hl.1 hc hs zt_232 rfl e2 rfl zl_w123 rfl (zl_d zl_c25 rfl) rfl (Nat.le_of_ble_eq_true rfl) (fun u2 H2 locs2 hu2 Y2 => ?_)
  refine zl_eq X (tgt := 1662) (zl_d zl_c25 rfl) (by decide) ?_
  exact kk _ _ _ _ _ _ hu hu2 Y2 R1
theorem zl_j26 (X : zl_X l p R s m args c D κ A b L xs) (Y : zl_Y s D κ A ρ σ C M H locs) (R0 : zm_R zq_V C M) (hc : cells ≤ R.cells) (hs : slots ≤ R.slots) (hl : lv_has ls 4 [(0, .ref b), (1, .ref (ρ 0)), (2, .ref (σ 0)), (3, .int x)]) (hin : ∀ i : Int32, 0 ≤ i → i ≤ 5 → vp_in (x + i) L)
    (kk : ∀ (ρ1 σ1 : Nat → Nat) (C1 M1 : zx_M) (H1 : Heap) (locs1 : List Loc), ρ1 0 = ρ 0 → σ1 0 = σ 0 → zl_Y s D κ A ρ1 σ1 C1 M1 H1 locs1 → zm_R zq_V C1 M1 → W p l e R s m args below meth c H1 locs1 cells slots Q (F0 m 1662 ls [])) : W p l e R s m args below meth c H locs cells slots Q (F0 m 1150 ls []) := by
  obtain ⟨r, C1, M1, e1, e2, R1⟩ := zl_r_go R0 (xs (x + 1).toNatClampNeg) (xs (x + 2).toNatClampNeg)
  refine zl_ld X (lv_at hl 1 rfl) rfl (zl_d zl_c26 rfl) ?_
  refine zl_a X Y hl (kn := 1) (i := 1) (by decide) (zl_d zl_c26 rfl) (zl_d zl_c26 rfl) (zl_d zl_c26 rfl) (zl_d zl_c26 rfl) (zl_d zl_c26 rfl) (hin 1 (by decide) (by decide)) ?_
  refine zl_a X Y hl (kn := 2) (i := 2) (by decide) (zl_d zl_c26 rfl) (zl_d zl_c26 rfl) (zl_d zl_c26 rfl) (zl_d zl_c26 rfl) (zl_d zl_c26 rfl) (hin 2 (by decide) (by decide)) ?_
  refine zl_callC X Y hl.1 hc hs zt_140 rfl e1 rfl zl_w124 rfl (zl_d zl_c26 rfl) rfl (Nat.le_of_ble_eq_true rfl) (fun u H1 locs1 hu Y1 => ?_)
  clear Y
  have Y := Y1
  refine zl_ld X (lv_at hl 2 rfl) rfl (zl_d zl_c26 rfl) ?_
  refine zl_a X Y hl (kn := 1) (i := 1) (by decide) (zl_d zl_c26 rfl) (zl_d zl_c26 rfl) (zl_d zl_c26 rfl) (zl_d zl_c26 rfl) (zl_d zl_c26 rfl) (hin 1 (by decide) (by decide)) ?_
  refine zl_a X Y hl (kn := 2) (i := 2) (by decide) (zl_d zl_c26 rfl) (zl_d zl_c26 rfl) (zl_d zl_c26 rfl) (zl_d zl_c26 rfl) (zl_d zl_c26 rfl) (hin 2 (by decide) (by decide)) ?_
  refine zl_callM X Y hl.1 hc hs zt_234 rfl e2 rfl zl_w127 rfl (zl_d zl_c26 rfl) rfl (Nat.le_of_ble_eq_true rfl) (fun u2 H2 locs2 hu2 Y2 => ?_)
  refine zl_eq X (tgt := 1662) (zl_d zl_c26 rfl) (by decide) ?_
  exact kk _ _ _ _ _ _ hu hu2 Y2 R1
theorem zl_j27 (X : zl_X l p R s m args c D κ A b L xs) (Y : zl_Y s D κ A ρ σ C M H locs) (R0 : zm_R zq_V C M) (hc : cells ≤ R.cells) (hs : slots ≤ R.slots) (hl : lv_has ls 4 [(0, .ref b), (1, .ref (ρ 0)), (2, .ref (σ 0)), (3, .int x)]) (hin : ∀ i : Int32, 0 ≤ i → i ≤ 5 → vp_in (x + i) L)
    (kk : ∀ (ρ1 σ1 : Nat → Nat) (C1 M1 : zx_M) (H1 : Heap) (locs1 : List Loc), ρ1 0 = ρ 0 → σ1 0 = σ 0 → zl_Y s D κ A ρ1 σ1 C1 M1 H1 locs1 → zm_R zq_V C1 M1 → W p l e R s m args below meth c H1 locs1 cells slots Q (F0 m 1662 ls [])) : W p l e R s m args below meth c H locs cells slots Q (F0 m 1183 ls []) := by
  obtain ⟨r, C1, M1, e1, e2, R1⟩ := zl_r_over R0 
  refine zl_ld X (lv_at hl 1 rfl) rfl (zl_d zl_c27 rfl) ?_
  refine zl_callC X Y hl.1 hc hs zt_141 rfl e1 rfl zl_w128 rfl (zl_d zl_c27 rfl) rfl (Nat.le_of_ble_eq_true rfl) (fun u H1 locs1 hu Y1 => ?_)
  clear Y
  have Y := Y1
  refine zl_ld X (lv_at hl 2 rfl) rfl (zl_d zl_c27 rfl) ?_
  refine zl_callM X Y hl.1 hc hs zt_235 rfl e2 rfl zl_w131 rfl (zl_d zl_c27 rfl) rfl (Nat.le_of_ble_eq_true rfl) (fun u2 H2 locs2 hu2 Y2 => ?_)
  refine zl_eq X (tgt := 1662) (zl_d zl_c27 rfl) (by decide) ?_
  exact kk _ _ _ _ _ _ hu hu2 Y2 R1
theorem zl_j28 (X : zl_X l p R s m args c D κ A b L xs) (Y : zl_Y s D κ A ρ σ C M H locs) (R0 : zm_R zq_V C M) (hc : cells ≤ R.cells) (hs : slots ≤ R.slots) (hl : lv_has ls 4 [(0, .ref b), (1, .ref (ρ 0)), (2, .ref (σ 0)), (3, .int x)]) (hin : ∀ i : Int32, 0 ≤ i → i ≤ 5 → vp_in (x + i) L)
    (kk : ∀ (ρ1 σ1 : Nat → Nat) (C1 M1 : zx_M) (H1 : Heap) (locs1 : List Loc), ρ1 0 = ρ 0 → σ1 0 = σ 0 → zl_Y s D κ A ρ1 σ1 C1 M1 H1 locs1 → zm_R zq_V C1 M1 → W p l e R s m args below meth c H1 locs1 cells slots Q (F0 m 1662 ls [])) : W p l e R s m args below meth c H locs cells slots Q (F0 m 1196 ls []) := by
  obtain ⟨r, C1, M1, e1, e2, R1⟩ := zl_r_led R0 (xs (x + 1).toNatClampNeg)
  refine zl_ld X (lv_at hl 1 rfl) rfl (zl_d zl_c28 rfl) ?_
  refine zl_a X Y hl (kn := 1) (i := 1) (by decide) (zl_d zl_c28 rfl) (zl_d zl_c28 rfl) (zl_d zl_c28 rfl) (zl_d zl_c28 rfl) (zl_d zl_c28 rfl) (hin 1 (by decide) (by decide)) ?_
  refine zl_callC X Y hl.1 hc hs zt_142 rfl e1 rfl zl_w132 rfl (zl_d zl_c28 rfl) rfl (Nat.le_of_ble_eq_true rfl) (fun u H1 locs1 hu Y1 => ?_)
  clear Y
  have Y := Y1
  refine zl_ld X (lv_at hl 2 rfl) rfl (zl_d zl_c28 rfl) ?_
  refine zl_a X Y hl (kn := 1) (i := 1) (by decide) (zl_d zl_c28 rfl) (zl_d zl_c28 rfl) (zl_d zl_c28 rfl) (zl_d zl_c28 rfl) (zl_d zl_c28 rfl) (hin 1 (by decide) (by decide)) ?_
  refine zl_callM X Y hl.1 hc hs zt_236 rfl e2 rfl zl_w135 rfl (zl_d zl_c28 rfl) rfl (Nat.le_of_ble_eq_true rfl) (fun u2 H2 locs2 hu2 Y2 => ?_)
  refine zl_eq X (tgt := 1662) (zl_d zl_c28 rfl) (by decide) ?_
  exact kk _ _ _ _ _ _ hu hu2 Y2 R1
theorem zl_j29 (X : zl_X l p R s m args c D κ A b L xs) (Y : zl_Y s D κ A ρ σ C M H locs) (R0 : zm_R zq_V C M) (hc : cells ≤ R.cells) (hs : slots ≤ R.slots) (hl : lv_has ls 4 [(0, .ref b), (1, .ref (ρ 0)), (2, .ref (σ 0)), (3, .int x)]) (hin : ∀ i : Int32, 0 ≤ i → i ≤ 5 → vp_in (x + i) L)
    (kk : ∀ (ρ1 σ1 : Nat → Nat) (C1 M1 : zx_M) (H1 : Heap) (locs1 : List Loc), ρ1 0 = ρ 0 → σ1 0 = σ 0 → zl_Y s D κ A ρ1 σ1 C1 M1 H1 locs1 → zm_R zq_V C1 M1 → W p l e R s m args below meth c H1 locs1 cells slots Q (F0 m 1662 ls [])) : W p l e R s m args below meth c H locs cells slots Q (F0 m 1219 ls []) := by
  obtain ⟨r, C1, M1, e1, e2, R1⟩ := zl_r_image R0 
  refine zl_ld X (lv_at hl 1 rfl) rfl (zl_d zl_c29 rfl) ?_
  refine zl_callC X Y hl.1 hc hs zt_143 rfl e1 rfl zl_w136 rfl (zl_d zl_c29 rfl) rfl (Nat.le_of_ble_eq_true rfl) (fun u H1 locs1 hu Y1 => ?_)
  clear Y
  have Y := Y1
  refine zl_ld X (lv_at hl 2 rfl) rfl (zl_d zl_c29 rfl) ?_
  refine zl_callM X Y hl.1 hc hs zt_237 rfl e2 rfl zl_w139 rfl (zl_d zl_c29 rfl) rfl (Nat.le_of_ble_eq_true rfl) (fun u2 H2 locs2 hu2 Y2 => ?_)
  refine zl_eq X (tgt := 1662) (zl_d zl_c29 rfl) (by decide) ?_
  exact kk _ _ _ _ _ _ hu hu2 Y2 R1
theorem zl_j30 (X : zl_X l p R s m args c D κ A b L xs) (Y : zl_Y s D κ A ρ σ C M H locs) (R0 : zm_R zq_V C M) (hc : cells ≤ R.cells) (hs : slots ≤ R.slots) (hl : lv_has ls 4 [(0, .ref b), (1, .ref (ρ 0)), (2, .ref (σ 0)), (3, .int x)]) (hin : ∀ i : Int32, 0 ≤ i → i ≤ 5 → vp_in (x + i) L)
    (kk : ∀ (ρ1 σ1 : Nat → Nat) (C1 M1 : zx_M) (H1 : Heap) (locs1 : List Loc), ρ1 0 = ρ 0 → σ1 0 = σ 0 → zl_Y s D κ A ρ1 σ1 C1 M1 H1 locs1 → zm_R zq_V C1 M1 → W p l e R s m args below meth c H1 locs1 cells slots Q (F0 m 1662 ls [])) : W p l e R s m args below meth c H locs cells slots Q (F0 m 1232 ls []) := by
  obtain ⟨r, C1, M1, e1, e2, R1⟩ := zl_r_back R0 
  refine zl_ld X (lv_at hl 1 rfl) rfl (zl_d zl_c30 rfl) ?_
  refine zl_callC X Y hl.1 hc hs zt_144 rfl e1 rfl zl_w140 rfl (zl_d zl_c30 rfl) rfl (Nat.le_of_ble_eq_true rfl) (fun u H1 locs1 hu Y1 => ?_)
  clear Y
  have Y := Y1
  refine zl_ld X (lv_at hl 2 rfl) rfl (zl_d zl_c30 rfl) ?_
  refine zl_callM X Y hl.1 hc hs zt_238 rfl e2 rfl zl_w143 rfl (zl_d zl_c30 rfl) rfl (Nat.le_of_ble_eq_true rfl) (fun u2 H2 locs2 hu2 Y2 => ?_)
  refine zl_eq X (tgt := 1662) (zl_d zl_c30 rfl) (by decide) ?_
  exact kk _ _ _ _ _ _ hu hu2 Y2 R1
theorem zl_j31 (X : zl_X l p R s m args c D κ A b L xs) (Y : zl_Y s D κ A ρ σ C M H locs) (R0 : zm_R zq_V C M) (hc : cells ≤ R.cells) (hs : slots ≤ R.slots) (hl : lv_has ls 4 [(0, .ref b), (1, .ref (ρ 0)), (2, .ref (σ 0)), (3, .int x)]) (hin : ∀ i : Int32, 0 ≤ i → i ≤ 5 → vp_in (x + i) L)
    (kk : ∀ (ρ1 σ1 : Nat → Nat) (C1 M1 : zx_M) (H1 : Heap) (locs1 : List Loc), ρ1 0 = ρ 0 → σ1 0 = σ 0 → zl_Y s D κ A ρ1 σ1 C1 M1 H1 locs1 → zm_R zq_V C1 M1 → W p l e R s m args below meth c H1 locs1 cells slots Q (F0 m 1662 ls [])) : W p l e R s m args below meth c H locs cells slots Q (F0 m 1245 ls []) := by
  obtain ⟨r, C1, M1, e1, e2, R1⟩ := zl_r_undo R0 
  refine zl_ld X (lv_at hl 1 rfl) rfl (zl_d zl_c31 rfl) ?_
  refine zl_callC X Y hl.1 hc hs zt_145 rfl e1 rfl zl_w144 rfl (zl_d zl_c31 rfl) rfl (Nat.le_of_ble_eq_true rfl) (fun u H1 locs1 hu Y1 => ?_)
  clear Y
  have Y := Y1
  refine zl_ld X (lv_at hl 2 rfl) rfl (zl_d zl_c31 rfl) ?_
  refine zl_callM X Y hl.1 hc hs zt_162 rfl e2 rfl zl_w147 rfl (zl_d zl_c31 rfl) rfl (Nat.le_of_ble_eq_true rfl) (fun u2 H2 locs2 hu2 Y2 => ?_)
  refine zl_eq X (tgt := 1662) (zl_d zl_c31 rfl) (by decide) ?_
  exact kk _ _ _ _ _ _ hu hu2 Y2 R1
theorem zl_j32 (X : zl_X l p R s m args c D κ A b L xs) (Y : zl_Y s D κ A ρ σ C M H locs) (R0 : zm_R zq_V C M) (hc : cells ≤ R.cells) (hs : slots ≤ R.slots) (hl : lv_has ls 4 [(0, .ref b), (1, .ref (ρ 0)), (2, .ref (σ 0)), (3, .int x)]) (hin : ∀ i : Int32, 0 ≤ i → i ≤ 5 → vp_in (x + i) L)
    (kk : ∀ (ρ1 σ1 : Nat → Nat) (C1 M1 : zx_M) (H1 : Heap) (locs1 : List Loc), ρ1 0 = ρ 0 → σ1 0 = σ 0 → zl_Y s D κ A ρ1 σ1 C1 M1 H1 locs1 → zm_R zq_V C1 M1 → W p l e R s m args below meth c H1 locs1 cells slots Q (F0 m 1662 ls [])) : W p l e R s m args below meth c H locs cells slots Q (F0 m 1258 ls []) := by
  obtain ⟨r, C1, M1, e1, e2, R1⟩ := zl_r_redo R0 
  refine zl_ld X (lv_at hl 1 rfl) rfl (zl_d zl_c32 rfl) ?_
  refine zl_callC X Y hl.1 hc hs zt_146 rfl e1 rfl zl_w148 rfl (zl_d zl_c32 rfl) rfl (Nat.le_of_ble_eq_true rfl) (fun u H1 locs1 hu Y1 => ?_)
  clear Y
  have Y := Y1
  refine zl_ld X (lv_at hl 2 rfl) rfl (zl_d zl_c32 rfl) ?_
  refine zl_callM X Y hl.1 hc hs zt_163 rfl e2 rfl zl_w151 rfl (zl_d zl_c32 rfl) rfl (Nat.le_of_ble_eq_true rfl) (fun u2 H2 locs2 hu2 Y2 => ?_)
  refine zl_eq X (tgt := 1662) (zl_d zl_c32 rfl) (by decide) ?_
  exact kk _ _ _ _ _ _ hu hu2 Y2 R1
end ZK81

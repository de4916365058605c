noncomputable def fX8_oneDay_L1b (B3 : gV → Int32 → Option gV) (V1 : gV) (x2 : Int32) : Option gV := gal V1 (0 + 1) 3 264 fun (x4 : Int32) => if x4 ≤ x2 then (gal V1 (0 + 1) 0 264 fun (x6 : Int32) => gas V1 (0 + 1) 0 264 (x6 + 1) fun (V7 : gV) => some V7) else (gbi (fX8_isGone V1 x2) fun (x8 : Int32) (V9 : gV) => if x8 = 0 then (gbi (fX8_its V9 x2 4) fun (x11 : Int32) (V12 : gV) => gbi (fX8_wearsBy V12 x2) fun (x13 : Int32) (V14 : gV) => gbi (fX8_held V14 (x11 + x13) 0 9999) fun (x15 : Int32) (V16 : gV) => gbv (fX8_gets V16 x2 4 x15) fun (V17 : gV) => B3 V17 ((x2 + 1))) else (B3 V9 ((x2 + 1))))
noncomputable def fX8_oneDay_L1 : Nat → gV → Int32 → Option gV
  | 0 => fun _ _ => none
  | n + 1 => fX8_oneDay_L1b (fX8_oneDay_L1 n)
noncomputable def fX8_oneDay (V : gV)  : Option gV := fX8_oneDay_L1 gFu V 0
set_option maxHeartbeats 4000000 in
set_option maxRecDepth 100000 in
theorem uX8_oneDay (l : Launch) (G : gG) (hG : gIsM G) (V : gV)  : gMv l G yX8_oneDay cX8_oneDay 2 (gR 69 1640) [.ref (G.1 0)] V (fX8_oneDay V) := by
  unfold fX8_oneDay
  refine gM_v (by decide +kernel) rfl rfl (Nat.le_of_ble_eq_true rfl) (fun X VV C E => ?_)
  change gC cX8_oneDay 2 RX8 G X at C
  change gSm l (gR 69 1640) 2 G X _ VV V 0 [(0, .ref (G.1 0))] []
  refine s_iconst (q := 1) (v := 0) C dX8_oneDay_0 rfl (by decide) ?_
  refine s_istore_n (q := 2) (L' := [(1, .int 0), (0, .ref (G.1 0))]) C dX8_oneDay_1 rfl rfl (by decide) rfl ?_
  have hL1 : ∀ (n : Nat) (V1 : gV) (x2 : Int32), gSm l (gR 69 1640) 2 G X (fX8_oneDay_L1 n V1 x2) VV V1 2 [(0, .ref (G.1 0)), (1, .int x2)] [] := by
    intro n
    induction n with
    | zero => exact fun V1 x2 => s_none
    | succ n ih =>
      intro V1 x2
      show gSm l (gR 69 1640) 2 G X (fX8_oneDay_L1b (fX8_oneDay_L1 n) V1 x2) VV V1 2 [(0, .ref (G.1 0)), (1, .int x2)] []
      generalize fX8_oneDay_L1 n = B3 at ih ⊢
      have hB3 := ih
      unfold fX8_oneDay_L1b
      refine s_iload_n (q := 3) C 1 dX8_oneDay_2 rfl rfl rfl ?_
      refine s_aload_n (q := 4) C 0 dX8_oneDay_3 rfl rfl rfl ?_
      refine geX8_0 (q := 7) C (s80 hG) flX8_7 dX8_oneDay_4 rfl ?_
      refine s_iconst (q := 8) (v := 3) C dX8_oneDay_7 rfl (by decide) ?_
      refine s_iald (q := 9) C (qX8_0 hG) dX8_oneDay_8 rfl (fun x4 => ?_)
      refine s_icmp_ge (tgt := 51) (q := 12) C dX8_oneDay_9 (by decide) rfl (fun c5 => ?_) (fun c5 => ?_)
      · refine s_aload_n (q := 52) C 0 dX8_oneDay_51 rfl rfl rfl ?_
        refine geX8_0 (q := 55) C (s80 hG) flX8_7 dX8_oneDay_52 rfl ?_
        refine s_iconst (q := 56) (v := 0) C dX8_oneDay_55 rfl (by decide) ?_
        refine s_dup2_11 (q := 57) C dX8_oneDay_56 rfl rfl rfl ?_
        refine s_iald (q := 58) C (qX8_0 hG) dX8_oneDay_57 rfl (fun x6 => ?_)
        refine s_iconst (q := 59) (v := 1) C dX8_oneDay_58 rfl (by decide) ?_
        refine s_iadd (q := 60) C dX8_oneDay_59 rfl ?_
        refine s_iast (q := 61) C (qX8_0 hG) (mX8_0 hG) dX8_oneDay_60 rfl (fun V7 => ?_)
        exact s_vret C E dX8_oneDay_61
      · refine s_aload_n (q := 13) C 0 dX8_oneDay_12 rfl rfl rfl ?_
        refine s_iload_n (q := 14) C 1 dX8_oneDay_13 rfl rfl rfl ?_
        refine s_Vi (q := 17) (As := [.int x2]) (st := []) C (uX8_isGone l G hG V1 x2) yvX8_isGone mlX8_84 (s80 hG) rfl rfl rfl rfl rfl rfl (gR_le (by decide) (by decide)) (Nat.le_of_ble_eq_true rfl) dX8_oneDay_14 rfl (fun x8 V9 => ?_)
        refine s_if_ne (tgt := 45) (q := 20) C dX8_oneDay_17 (by decide) rfl (fun c10 => ?_) (fun c10 => ?_)
        · refine s_aload_n (q := 21) C 0 dX8_oneDay_20 rfl rfl rfl ?_
          refine s_iload_n (q := 22) C 1 dX8_oneDay_21 rfl rfl rfl ?_
          refine s_iconst (q := 23) (v := 4) C dX8_oneDay_22 rfl (by decide) ?_
          refine s_aload_n (q := 24) C 0 dX8_oneDay_23 rfl rfl rfl ?_
          refine s_iload_n (q := 25) C 1 dX8_oneDay_24 rfl rfl rfl ?_
          refine s_iconst (q := 26) (v := 4) C dX8_oneDay_25 rfl (by decide) ?_
          refine s_Vi (q := 29) (As := [.int x2, .int 4]) (st := [.int 4, .int x2, .ref (G.1 0)]) C (uX8_its l G hG V9 x2 4) yvX8_its mlX8_54 (s80 hG) rfl rfl rfl rfl rfl rfl (gR_le (by decide) (by decide)) (Nat.le_of_ble_eq_true rfl) dX8_oneDay_26 rfl (fun x11 V12 => ?_)
          refine s_aload_n (q := 30) C 0 dX8_oneDay_29 rfl rfl rfl ?_
          refine s_iload_n (q := 31) C 1 dX8_oneDay_30 rfl rfl rfl ?_
          refine s_Vi (q := 34) (As := [.int x2]) (st := [.int x11, .int 4, .int x2, .ref (G.1 0)]) C (uX8_wearsBy l G hG V12 x2) yvX8_wearsBy mlX8_87 (s80 hG) rfl rfl rfl rfl rfl rfl (gR_le (by decide) (by decide)) (Nat.le_of_ble_eq_true rfl) dX8_oneDay_31 rfl (fun x13 V14 => ?_)
          refine s_iadd (q := 35) C dX8_oneDay_34 rfl ?_
          refine s_iconst (q := 36) (v := 0) C dX8_oneDay_35 rfl (by decide) ?_
          refine s_sipush (q := 39) (v := 9999) C dX8_oneDay_36 rfl (by decide) ?_
          refine s_Si (q := 42) (As := [.int (x11 + x13), .int 0, .int 9999]) (st := [.int 4, .int x2, .ref (G.1 0)]) C (uX8_held l G hG V14 (x11 + x13) 0 9999) ysX8_held mlX8_162 rfl rfl rfl rfl (gR_le (by decide) (by decide)) (Nat.le_of_ble_eq_true rfl) dX8_oneDay_39 rfl (fun x15 V16 => ?_)
          refine s_Vv (q := 45) (As := [.int x2, .int 4, .int x15]) (st := []) C (uX8_gets l G hG V16 x2 4 x15) yvX8_gets mlX8_74 (s80 hG) rfl rfl rfl rfl rfl rfl (gR_le (by decide) (by decide)) (Nat.le_of_ble_eq_true rfl) dX8_oneDay_42 rfl (fun V17 => ?_)
          refine s_iinc (q := 48) (w := 1) (L' := [(1, .int (x2 + 1)), (0, .ref (G.1 0))]) C 1 dX8_oneDay_45 rfl rfl (by decide) rfl (by decide) rfl ?_
          refine s_goto (q := 2) C dX8_oneDay_48 (by decide) ?_
          refine s_sub [1, 0] rfl ?_
          exact hB3 V17 ((x2 + 1))
        · refine s_iinc (q := 48) (w := 1) (L' := [(1, .int (x2 + 1)), (0, .ref (G.1 0))]) C 1 dX8_oneDay_45 rfl rfl (by decide) rfl (by decide) rfl ?_
          refine s_goto (q := 2) C dX8_oneDay_48 (by decide) ?_
          refine s_sub [1, 0] rfl ?_
          exact hB3 V9 ((x2 + 1))
  refine s_sub [1, 0] rfl ?_
  exact hL1 gFu V 0
noncomputable def fX8_passes_L1b (a1 : Int32) (B3 : gV → Int32 → Option gV) (V1 : gV) (x2 : Int32) : Option gV := if a1 ≤ x2 then (some V1) else (gbv (fX8_oneDay V1) fun (V5 : gV) => B3 V5 ((x2 + 1)))
noncomputable def fX8_passes_L1 (a1 : Int32) : Nat → gV → Int32 → Option gV
  | 0 => fun _ _ => none
  | n + 1 => fX8_passes_L1b a1 (fX8_passes_L1 a1 n)
noncomputable def fX8_passes (V : gV) (a1 : Int32) : Option gV := fX8_passes_L1 a1 gFu V 0
set_option maxHeartbeats 4000000 in
set_option maxRecDepth 100000 in
theorem uX8_passes (l : Launch) (G : gG) (hG : gIsM G) (V : gV) (a1 : Int32) : gMv l G yX8_passes cX8_passes 3 (gR 70 1661) [.ref (G.1 0), .int a1] V (fX8_passes V a1) := by
  unfold fX8_passes
  refine gM_v (by decide +kernel) rfl rfl (Nat.le_of_ble_eq_true rfl) (fun X VV C E => ?_)
  change gC cX8_passes 3 RX8 G X at C
  change gSm l (gR 70 1661) 3 G X _ VV V 0 [(0, .ref (G.1 0)), (1, .int a1)] []
  refine s_iconst (q := 1) (v := 0) C dX8_passes_0 rfl (by decide) ?_
  refine s_istore_n (q := 2) (L' := [(2, .int 0), (0, .ref (G.1 0)), (1, .int a1)]) C dX8_passes_1 rfl rfl (by decide) rfl ?_
  have hL1 : ∀ (n : Nat) (V1 : gV) (x2 : Int32), gSm l (gR 70 1661) 3 G X (fX8_passes_L1 a1 n V1 x2) VV V1 2 [(0, .ref (G.1 0)), (1, .int a1), (2, .int x2)] [] := by
    intro n
    induction n with
    | zero => exact fun V1 x2 => s_none
    | succ n ih =>
      intro V1 x2
      show gSm l (gR 70 1661) 3 G X (fX8_passes_L1b a1 (fX8_passes_L1 a1 n) V1 x2) VV V1 2 [(0, .ref (G.1 0)), (1, .int a1), (2, .int x2)] []
      generalize fX8_passes_L1 a1 n = B3 at ih ⊢
      have hB3 := ih
      unfold fX8_passes_L1b
      refine s_iload_n (q := 3) C 2 dX8_passes_2 rfl rfl rfl ?_
      refine s_iload_n (q := 4) C 1 dX8_passes_3 rfl rfl rfl ?_
      refine s_icmp_ge (tgt := 17) (q := 7) C dX8_passes_4 (by decide) rfl (fun c4 => ?_) (fun c4 => ?_)
      · exact s_vret C E dX8_passes_17
      · refine s_aload_n (q := 8) C 0 dX8_passes_7 rfl rfl rfl ?_
        refine s_Vv (q := 11) (As := []) (st := []) C (uX8_oneDay l G hG V1) yvX8_oneDay mlX8_175 (s80 hG) rfl rfl rfl rfl rfl rfl (gR_le (by decide) (by decide)) (Nat.le_of_ble_eq_true rfl) dX8_passes_8 rfl (fun V5 => ?_)
        refine s_iinc (q := 14) (w := 1) (L' := [(2, .int (x2 + 1)), (0, .ref (G.1 0)), (1, .int a1)]) C 2 dX8_passes_11 rfl rfl (by decide) rfl (by decide) rfl ?_
        refine s_goto (q := 2) C dX8_passes_14 (by decide) ?_
        refine s_sub [1, 2, 0] rfl ?_
        exact hB3 V5 ((x2 + 1))
  refine s_sub [1, 2, 0] rfl ?_
  exact hL1 gFu V 0
noncomputable def fX8_gone_L1b (B4 : gV → Int32 → Int32 → Option (Int32 × gV)) (V1 : gV) (x2 : Int32) (x3 : Int32) : Option (Int32 × gV) := gal V1 (0 + 1) 3 264 fun (x5 : Int32) => if x5 ≤ x3 then (some (x2, V1)) else (gbi (fX8_isGone V1 x3) fun (x7 : Int32) (V8 : gV) => if x7 = 0 then (glt (x2 + 0) fun (x10 : Int32) => B4 V8 x10 ((x3 + 1))) else (glt (x2 + 1) fun (x11 : Int32) => B4 V8 x11 ((x3 + 1))))
noncomputable def fX8_gone_L1 : Nat → gV → Int32 → Int32 → Option (Int32 × gV)
  | 0 => fun _ _ _ => none
  | n + 1 => fX8_gone_L1b (fX8_gone_L1 n)
noncomputable def fX8_gone (V : gV)  : Option (Int32 × gV) := fX8_gone_L1 gFu V 0 0
set_option maxHeartbeats 4000000 in
set_option maxRecDepth 100000 in
theorem uX8_gone (l : Launch) (G : gG) (hG : gIsM G) (V : gV)  : gMi l G yX8_gone cX8_gone 3 Jvm.ClassFile.FieldType.int (gR 69 1640) [.ref (G.1 0)] V (fX8_gone V) := by
  unfold fX8_gone
  refine gM_i (by decide +kernel) rfl rfl (Nat.le_of_ble_eq_true rfl) (fun X rr VV C E => ?_)
  change gC cX8_gone 3 RX8 G X at C
  change gSm l (gR 69 1640) 3 G X _ (rr, VV) V 0 [(0, .ref (G.1 0))] []
  refine s_iconst (q := 1) (v := 0) C dX8_gone_0 rfl (by decide) ?_
  refine s_istore_n (q := 2) (L' := [(1, .int 0), (0, .ref (G.1 0))]) C dX8_gone_1 rfl rfl (by decide) rfl ?_
  refine s_iconst (q := 3) (v := 0) C dX8_gone_2 rfl (by decide) ?_
  refine s_istore_n (q := 4) (L' := [(2, .int 0), (1, .int 0), (0, .ref (G.1 0))]) C dX8_gone_3 rfl rfl (by decide) rfl ?_
  have hL1 : ∀ (n : Nat) (V1 : gV) (x2 : Int32) (x3 : Int32), gSm l (gR 69 1640) 3 G X (fX8_gone_L1 n V1 x2 x3) (rr, VV) V1 4 [(0, .ref (G.1 0)), (1, .int x2), (2, .int x3)] [] := by
    intro n
    induction n with
    | zero => exact fun V1 x2 x3 => s_none
    | succ n ih =>
      intro V1 x2 x3
      show gSm l (gR 69 1640) 3 G X (fX8_gone_L1b (fX8_gone_L1 n) V1 x2 x3) (rr, VV) V1 4 [(0, .ref (G.1 0)), (1, .int x2), (2, .int x3)] []
      generalize fX8_gone_L1 n = B4 at ih ⊢
      have hB4 := ih
      unfold fX8_gone_L1b
      refine s_iload_n (q := 5) C 2 dX8_gone_4 rfl rfl rfl ?_
      refine s_aload_n (q := 6) C 0 dX8_gone_5 rfl rfl rfl ?_
      refine geX8_0 (q := 9) C (s80 hG) flX8_7 dX8_gone_6 rfl ?_
      refine s_iconst (q := 10) (v := 3) C dX8_gone_9 rfl (by decide) ?_
      refine s_iald (q := 11) C (qX8_0 hG) dX8_gone_10 rfl (fun x5 => ?_)
      refine s_icmp_ge (tgt := 36) (q := 14) C dX8_gone_11 (by decide) rfl (fun c6 => ?_) (fun c6 => ?_)
      · refine s_iload_n (q := 37) C 1 dX8_gone_36 rfl rfl rfl ?_
        exact s_iret C E dX8_gone_37
      · refine s_iload_n (q := 15) C 1 dX8_gone_14 rfl rfl rfl ?_
        refine s_aload_n (q := 16) C 0 dX8_gone_15 rfl rfl rfl ?_
        refine s_iload_n (q := 17) C 2 dX8_gone_16 rfl rfl rfl ?_
        refine s_Vi (q := 20) (As := [.int x3]) (st := [.int x2]) C (uX8_isGone l G hG V1 x3) yvX8_isGone mlX8_84 (s80 hG) rfl rfl rfl rfl rfl rfl (gR_le (by decide) (by decide)) (Nat.le_of_ble_eq_true rfl) dX8_gone_17 rfl (fun x7 V8 => ?_)
        refine s_if_eq (tgt := 27) (q := 23) C dX8_gone_20 (by decide) rfl (fun c9 => ?_) (fun c9 => ?_)
        · refine s_iconst (q := 28) (v := 0) C dX8_gone_27 rfl (by decide) ?_
          refine s_iadd (q := 29) C dX8_gone_28 rfl ?_
          refine s_lt (fun x10 => ?_)
          refine s_istore_n (q := 30) (L' := [(1, .int x10), (0, .ref (G.1 0)), (2, .int x3)]) C dX8_gone_29 rfl rfl (by decide) rfl ?_
          refine s_iinc (q := 33) (w := 1) (L' := [(2, .int (x3 + 1)), (1, .int x10), (0, .ref (G.1 0))]) C 2 dX8_gone_30 rfl rfl (by decide) rfl (by decide) rfl ?_
          refine s_goto (q := 4) C dX8_gone_33 (by decide) ?_
          refine s_sub [2, 1, 0] rfl ?_
          exact hB4 V8 x10 ((x3 + 1))
        · refine s_iconst (q := 24) (v := 1) C dX8_gone_23 rfl (by decide) ?_
          refine s_goto (q := 28) C dX8_gone_24 (by decide) ?_
          refine s_iadd (q := 29) C dX8_gone_28 rfl ?_
          refine s_lt (fun x11 => ?_)
          refine s_istore_n (q := 30) (L' := [(1, .int x11), (0, .ref (G.1 0)), (2, .int x3)]) C dX8_gone_29 rfl rfl (by decide) rfl ?_
          refine s_iinc (q := 33) (w := 1) (L' := [(2, .int (x3 + 1)), (1, .int x11), (0, .ref (G.1 0))]) C 2 dX8_gone_30 rfl rfl (by decide) rfl (by decide) rfl ?_
          refine s_goto (q := 4) C dX8_gone_33 (by decide) ?_
          refine s_sub [2, 1, 0] rfl ?_
          exact hB4 V8 x11 ((x3 + 1))
  refine s_sub [2, 1, 0] rfl ?_
  exact hL1 gFu V 0 0
noncomputable def fX8_days (V : gV) (a1 : Int32) : Option (Int32 × gV) := gbi (fX8_in V a1 1 99) fun (x1 : Int32) (V2 : gV) => if x1 = 0 then (gbi (fX8_errs V2 (-1000000001)) fun (x11 : Int32) (V12 : gV) => some (x11, V12)) else (gal V2 (0 + 1) 0 264 fun (x4 : Int32) => if (x4 + a1) ≤ 9999 then (gbv (fX8_passes V2 a1) fun (V6 : gV) => gbi (fX8_gone V6) fun (x7 : Int32) (V8 : gV) => some (x7, V8)) else (gbi (fX8_errs V2 (-1000000003)) fun (x9 : Int32) (V10 : gV) => some (x9, V10)))
set_option maxHeartbeats 4000000 in
set_option maxRecDepth 100000 in
theorem uX8_days (l : Launch) (G : gG) (hG : gIsM G) (V : gV) (a1 : Int32) : gMi l G yX8_days cX8_days 2 Jvm.ClassFile.FieldType.int (gR 71 1683) [.ref (G.1 0), .int a1] V (fX8_days V a1) := by
  unfold fX8_days
  refine gM_i (by decide +kernel) rfl rfl (Nat.le_of_ble_eq_true rfl) (fun X rr VV C E => ?_)
  change gC cX8_days 2 RX8 G X at C
  change gSm l (gR 71 1683) 2 G X _ (rr, VV) V 0 [(0, .ref (G.1 0)), (1, .int a1)] []
  refine s_iload_n (q := 1) C 1 dX8_days_0 rfl rfl rfl ?_
  refine s_iconst (q := 2) (v := 1) C dX8_days_1 rfl (by decide) ?_
  refine s_bipush (q := 4) (v := 99) C dX8_days_2 rfl (by decide) ?_
  refine s_Si (q := 7) (As := [.int a1, .int 1, .int 99]) (st := []) C (uX8_in l G hG V a1 1 99) ysX8_in mlX8_44 rfl rfl rfl rfl (gR_le (by decide) (by decide)) (Nat.le_of_ble_eq_true rfl) dX8_days_4 rfl (fun x1 V2 => ?_)
  refine s_if_ne (tgt := 17) (q := 10) C dX8_days_7 (by decide) rfl (fun c3 => ?_) (fun c3 => ?_)
  · refine s_aload_n (q := 11) C 0 dX8_days_10 rfl rfl rfl ?_
    refine s_ldc (q := 13) (v := (-1000000001)) C dX8_days_11 rfl kX8_48 ?_
    refine s_Vi (q := 16) (As := [.int (-1000000001)]) (st := []) C (uX8_errs l G hG V2 (-1000000001)) yvX8_errs mlX8_49 (s80 hG) rfl rfl rfl rfl rfl rfl (gR_le (by decide) (by decide)) (Nat.le_of_ble_eq_true rfl) dX8_days_13 rfl (fun x11 V12 => ?_)
    exact s_iret C E dX8_days_16
  · refine s_aload_n (q := 18) C 0 dX8_days_17 rfl rfl rfl ?_
    refine geX8_0 (q := 21) C (s80 hG) flX8_7 dX8_days_18 rfl ?_
    refine s_iconst (q := 22) (v := 0) C dX8_days_21 rfl (by decide) ?_
    refine s_iald (q := 23) C (qX8_0 hG) dX8_days_22 rfl (fun x4 => ?_)
    refine s_iload_n (q := 24) C 1 dX8_days_23 rfl rfl rfl ?_
    refine s_iadd (q := 25) C dX8_days_24 rfl ?_
    refine s_sipush (q := 28) (v := 9999) C dX8_days_25 rfl (by decide) ?_
    refine s_icmp_le (tgt := 38) (q := 31) C dX8_days_28 (by decide) rfl (fun c5 => ?_) (fun c5 => ?_)
    · refine s_aload_n (q := 39) C 0 dX8_days_38 rfl rfl rfl ?_
      refine s_iload_n (q := 40) C 1 dX8_days_39 rfl rfl rfl ?_
      refine s_Vv (q := 43) (As := [.int a1]) (st := []) C (uX8_passes l G hG V2 a1) yvX8_passes mlX8_178 (s80 hG) rfl rfl rfl rfl rfl rfl (gR_le (by decide) (by decide)) (Nat.le_of_ble_eq_true rfl) dX8_days_40 rfl (fun V6 => ?_)
      refine s_aload_n (q := 44) C 0 dX8_days_43 rfl rfl rfl ?_
      refine s_Vi (q := 47) (As := []) (st := []) C (uX8_gone l G hG V6) yvX8_gone mlX8_182 (s80 hG) rfl rfl rfl rfl rfl rfl (gR_le (by decide) (by decide)) (Nat.le_of_ble_eq_true rfl) dX8_days_44 rfl (fun x7 V8 => ?_)
      exact s_iret C E dX8_days_47
    · refine s_aload_n (q := 32) C 0 dX8_days_31 rfl rfl rfl ?_
      refine s_ldc (q := 34) (v := (-1000000003)) C dX8_days_32 rfl kX8_90 ?_
      refine s_Vi (q := 37) (As := [.int (-1000000003)]) (st := []) C (uX8_errs l G hG V2 (-1000000003)) yvX8_errs mlX8_49 (s80 hG) rfl rfl rfl rfl rfl rfl (gR_le (by decide) (by decide)) (Nat.le_of_ble_eq_true rfl) dX8_days_34 rfl (fun x9 V10 => ?_)
      exact s_iret C E dX8_days_37
noncomputable def fX8_drawn (V : gV) (a1 : Int32) : Option (Int32 × gV) := gal V (0 + 1) 1 264 fun (x1 : Int32) => gas V (0 + 1) 1 264 ((x1 * 1103515245) + 12345) fun (V2 : gV) => gal V2 (0 + 1) 1 264 fun (x3 : Int32) => gdv a1 <| some ((grm (gus x3 8) a1), V2)
set_option maxHeartbeats 4000000 in
set_option maxRecDepth 100000 in
theorem uX8_drawn (l : Launch) (G : gG) (hG : gIsM G) (V : gV) (a1 : Int32) : gMi l G yX8_drawn cX8_drawn 2 Jvm.ClassFile.FieldType.int (gR 0 0) [.ref (G.1 0), .int a1] V (fX8_drawn V a1) := by
  unfold fX8_drawn
  refine gM_i (by decide +kernel) rfl rfl (Nat.le_of_ble_eq_true rfl) (fun X rr VV C E => ?_)
  change gC cX8_drawn 2 RX8 G X at C
  change gSm l (gR 0 0) 2 G X _ (rr, VV) V 0 [(0, .ref (G.1 0)), (1, .int a1)] []
  refine s_aload_n (q := 1) C 0 dX8_drawn_0 rfl rfl rfl ?_
  refine geX8_0 (q := 4) C (s80 hG) flX8_7 dX8_drawn_1 rfl ?_
  refine s_iconst (q := 5) (v := 1) C dX8_drawn_4 rfl (by decide) ?_
  refine s_aload_n (q := 6) C 0 dX8_drawn_5 rfl rfl rfl ?_
  refine geX8_0 (q := 9) C (s80 hG) flX8_7 dX8_drawn_6 rfl ?_
  refine s_iconst (q := 10) (v := 1) C dX8_drawn_9 rfl (by decide) ?_
  refine s_iald (q := 11) C (qX8_0 hG) dX8_drawn_10 rfl (fun x1 => ?_)
  refine s_ldc (q := 13) (v := 1103515245) C dX8_drawn_11 rfl kX8_185 ?_
  refine s_imul (q := 14) C dX8_drawn_13 rfl ?_
  refine s_sipush (q := 17) (v := 12345) C dX8_drawn_14 rfl (by decide) ?_
  refine s_iadd (q := 18) C dX8_drawn_17 rfl ?_
  refine s_iast (q := 19) C (qX8_0 hG) (mX8_0 hG) dX8_drawn_18 rfl (fun V2 => ?_)
  refine s_aload_n (q := 20) C 0 dX8_drawn_19 rfl rfl rfl ?_
  refine geX8_0 (q := 23) C (s80 hG) flX8_7 dX8_drawn_20 rfl ?_
  refine s_iconst (q := 24) (v := 1) C dX8_drawn_23 rfl (by decide) ?_
  refine s_iald (q := 25) C (qX8_0 hG) dX8_drawn_24 rfl (fun x3 => ?_)
  refine s_bipush (q := 27) (v := 8) C dX8_drawn_25 rfl (by decide) ?_
  refine s_iushr (q := 28) C dX8_drawn_27 rfl ?_
  refine s_iload_n (q := 29) C 1 dX8_drawn_28 rfl rfl rfl ?_
  refine s_irem (q := 30) C dX8_drawn_29 rfl ?_
  exact s_iret C E dX8_drawn_30
noncomputable def fX8_loose_L1b (a1 : Int32) (B8 : gV → Int32 → Option (Int32 × gV)) (V6 : gV) (x7 : Int32) : Option (Int32 × gV) := if a1 ≤ x7 then (gbi (fX8_gone V6) fun (x10 : Int32) (V11 : gV) => some (x10, V11)) else (gal V6 (0 + 1) 2 264 fun (x12 : Int32) => if x12 ≤ 0 then (gbv (fX8_oneDay V6) fun (V14 : gV) => B8 V14 ((x7 + 1))) else (gal V6 (0 + 1) 2 264 fun (x15 : Int32) => gbi (fX8_drawn V6 x15) fun (x16 : Int32) (V17 : gV) => gbi (fX8_drawn V17 10) fun (x18 : Int32) (V19 : gV) => gas V19 (0 + 1) (8 + (2 * x16)) 264 x18 fun (V20 : gV) => gbv (fX8_oneDay V20) fun (V21 : gV) => B8 V21 ((x7 + 1))))
noncomputable def fX8_loose_L1 (a1 : Int32) : Nat → gV → Int32 → Option (Int32 × gV)
  | 0 => fun _ _ => none
  | n + 1 => fX8_loose_L1b a1 (fX8_loose_L1 a1 n)
noncomputable def fX8_loose (V : gV) (a1 : Int32) : Option (Int32 × gV) := gbi (fX8_in V a1 1 40) fun (x1 : Int32) (V2 : gV) => if x1 = 0 then (gbi (fX8_errs V2 (-1000000001)) fun (x24 : Int32) (V25 : gV) => some (x24, V25)) else (gal V2 (0 + 1) 0 264 fun (x4 : Int32) => if (x4 + a1) ≤ 9999 then (fX8_loose_L1 a1 gFu V2 0) else (gbi (fX8_errs V2 (-1000000003)) fun (x22 : Int32) (V23 : gV) => some (x22, V23)))
set_option maxHeartbeats 4000000 in
set_option maxRecDepth 100000 in
theorem uX8_loose (l : Launch) (G : gG) (hG : gIsM G) (V : gV) (a1 : Int32) : gMi l G yX8_loose cX8_loose 4 Jvm.ClassFile.FieldType.int (gR 70 1662) [.ref (G.1 0), .int a1] V (fX8_loose V a1) := by
  unfold fX8_loose
  refine gM_i (by decide +kernel) rfl rfl (Nat.le_of_ble_eq_true rfl) (fun X rr VV C E => ?_)
  change gC cX8_loose 4 RX8 G X at C
  change gSm l (gR 70 1662) 4 G X _ (rr, VV) V 0 [(0, .ref (G.1 0)), (1, .int a1)] []
  refine s_iload_n (q := 1) C 1 dX8_loose_0 rfl rfl rfl ?_
  refine s_iconst (q := 2) (v := 1) C dX8_loose_1 rfl (by decide) ?_
  refine s_bipush (q := 4) (v := 40) C dX8_loose_2 rfl (by decide) ?_
  refine s_Si (q := 7) (As := [.int a1, .int 1, .int 40]) (st := []) C (uX8_in l G hG V a1 1 40) ysX8_in mlX8_44 rfl rfl rfl rfl (gR_le (by decide) (by decide)) (Nat.le_of_ble_eq_true rfl) dX8_loose_4 rfl (fun x1 V2 => ?_)
  refine s_if_ne (tgt := 17) (q := 10) C dX8_loose_7 (by decide) rfl (fun c3 => ?_) (fun c3 => ?_)
  · refine s_aload_n (q := 11) C 0 dX8_loose_10 rfl rfl rfl ?_
    refine s_ldc (q := 13) (v := (-1000000001)) C dX8_loose_11 rfl kX8_48 ?_
    refine s_Vi (q := 16) (As := [.int (-1000000001)]) (st := []) C (uX8_errs l G hG V2 (-1000000001)) yvX8_errs mlX8_49 (s80 hG) rfl rfl rfl rfl rfl rfl (gR_le (by decide) (by decide)) (Nat.le_of_ble_eq_true rfl) dX8_loose_13 rfl (fun x24 V25 => ?_)
    exact s_iret C E dX8_loose_16
  · refine s_aload_n (q := 18) C 0 dX8_loose_17 rfl rfl rfl ?_
    refine geX8_0 (q := 21) C (s80 hG) flX8_7 dX8_loose_18 rfl ?_
    refine s_iconst (q := 22) (v := 0) C dX8_loose_21 rfl (by decide) ?_
    refine s_iald (q := 23) C (qX8_0 hG) dX8_loose_22 rfl (fun x4 => ?_)
    refine s_iload_n (q := 24) C 1 dX8_loose_23 rfl rfl rfl ?_
    refine s_iadd (q := 25) C dX8_loose_24 rfl ?_
    refine s_sipush (q := 28) (v := 9999) C dX8_loose_25 rfl (by decide) ?_
    refine s_icmp_le (tgt := 38) (q := 31) C dX8_loose_28 (by decide) rfl (fun c5 => ?_) (fun c5 => ?_)
    · refine s_iconst (q := 39) (v := 0) C dX8_loose_38 rfl (by decide) ?_
      refine s_istore_n (q := 40) (L' := [(2, .int 0), (0, .ref (G.1 0)), (1, .int a1)]) C dX8_loose_39 rfl rfl (by decide) rfl ?_
      have hL1 : ∀ (n : Nat) (V6 : gV) (x7 : Int32), gSm l (gR 70 1662) 4 G X (fX8_loose_L1 a1 n V6 x7) (rr, VV) V6 40 [(0, .ref (G.1 0)), (1, .int a1), (2, .int x7)] [] := by
        intro n
        induction n with
        | zero => exact fun V6 x7 => s_none
        | succ n ih =>
          intro V6 x7
          show gSm l (gR 70 1662) 4 G X (fX8_loose_L1b a1 (fX8_loose_L1 a1 n) V6 x7) (rr, VV) V6 40 [(0, .ref (G.1 0)), (1, .int a1), (2, .int x7)] []
          generalize fX8_loose_L1 a1 n = B8 at ih ⊢
          have hB8 := ih
          unfold fX8_loose_L1b
          refine s_iload_n (q := 41) C 2 dX8_loose_40 rfl rfl rfl ?_
          refine s_iload_n (q := 42) C 1 dX8_loose_41 rfl rfl rfl ?_
          refine s_icmp_ge (tgt := 92) (q := 45) C dX8_loose_42 (by decide) rfl (fun c9 => ?_) (fun c9 => ?_)
          · refine s_aload_n (q := 93) C 0 dX8_loose_92 rfl rfl rfl ?_
            refine s_Vi (q := 96) (As := []) (st := []) C (uX8_gone l G hG V6) yvX8_gone mlX8_182 (s80 hG) rfl rfl rfl rfl rfl rfl (gR_le (by decide) (by decide)) (Nat.le_of_ble_eq_true rfl) dX8_loose_93 rfl (fun x10 V11 => ?_)
            exact s_iret C E dX8_loose_96
          · refine s_aload_n (q := 46) C 0 dX8_loose_45 rfl rfl rfl ?_
            refine geX8_0 (q := 49) C (s80 hG) flX8_7 dX8_loose_46 rfl ?_
            refine s_iconst (q := 50) (v := 2) C dX8_loose_49 rfl (by decide) ?_
            refine s_iald (q := 51) C (qX8_0 hG) dX8_loose_50 rfl (fun x12 => ?_)
            refine s_if_le (tgt := 82) (q := 54) C dX8_loose_51 (by decide) rfl (fun c13 => ?_) (fun c13 => ?_)
            · refine s_aload_n (q := 83) C 0 dX8_loose_82 rfl rfl rfl ?_
              refine s_Vv (q := 86) (As := []) (st := []) C (uX8_oneDay l G hG V6) yvX8_oneDay mlX8_175 (s80 hG) rfl rfl rfl rfl rfl rfl (gR_le (by decide) (by decide)) (Nat.le_of_ble_eq_true rfl) dX8_loose_83 rfl (fun V14 => ?_)
              refine s_iinc (q := 89) (w := 1) (L' := [(2, .int (x7 + 1)), (0, .ref (G.1 0)), (1, .int a1)]) C 2 dX8_loose_86 rfl rfl (by decide) rfl (by decide) rfl ?_
              refine s_goto (q := 40) C dX8_loose_89 (by decide) ?_
              refine s_sub [1, 2, 0] rfl ?_
              exact hB8 V14 ((x7 + 1))
            · refine s_aload_n (q := 55) C 0 dX8_loose_54 rfl rfl rfl ?_
              refine s_aload_n (q := 56) C 0 dX8_loose_55 rfl rfl rfl ?_
              refine geX8_0 (q := 59) C (s80 hG) flX8_7 dX8_loose_56 rfl ?_
              refine s_iconst (q := 60) (v := 2) C dX8_loose_59 rfl (by decide) ?_
              refine s_iald (q := 61) C (qX8_0 hG) dX8_loose_60 rfl (fun x15 => ?_)
              refine s_Vi (q := 64) (As := [.int x15]) (st := []) C (uX8_drawn l G hG V6 x15) yvX8_drawn mlX8_186 (s80 hG) rfl rfl rfl rfl rfl rfl (gR_le (by decide) (by decide)) (Nat.le_of_ble_eq_true rfl) dX8_loose_61 rfl (fun x16 V17 => ?_)
              refine s_istore_n (q := 65) (L' := [(3, .int x16), (0, .ref (G.1 0)), (1, .int a1), (2, .int x7)]) C dX8_loose_64 rfl rfl (by decide) rfl ?_
              refine s_aload_n (q := 66) C 1 dX8_loose_65 rfl rfl rfl ?_
              refine geX8_0 (q := 69) C (s80 hG) flX8_7 dX8_loose_66 rfl ?_
              refine s_bipush (q := 71) (v := 8) C dX8_loose_69 rfl (by decide) ?_
              refine s_iconst (q := 72) (v := 2) C dX8_loose_71 rfl (by decide) ?_
              refine s_iload_n (q := 73) C 0 dX8_loose_72 rfl rfl rfl ?_
              refine s_imul (q := 74) C dX8_loose_73 rfl ?_
              refine s_iadd (q := 75) C dX8_loose_74 rfl ?_
              refine s_aload_n (q := 76) C 1 dX8_loose_75 rfl rfl rfl ?_
              refine s_bipush (q := 78) (v := 10) C dX8_loose_76 rfl (by decide) ?_
              refine s_Vi (q := 81) (As := [.int 10]) (st := [.int (8 + (2 * x16)), .ref (G.1 (0 + 1))]) C (uX8_drawn l G hG V17 10) yvX8_drawn mlX8_186 (s80 hG) rfl rfl rfl rfl rfl rfl (gR_le (by decide) (by decide)) (Nat.le_of_ble_eq_true rfl) dX8_loose_78 rfl (fun x18 V19 => ?_)
              refine s_iast (q := 82) C (qX8_0 hG) (mX8_0 hG) dX8_loose_81 rfl (fun V20 => ?_)
              refine s_aload_n (q := 83) C 1 dX8_loose_82 rfl rfl rfl ?_
              refine s_Vv (q := 86) (As := []) (st := []) C (uX8_oneDay l G hG V20) yvX8_oneDay mlX8_175 (s80 hG) rfl rfl rfl rfl rfl rfl (gR_le (by decide) (by decide)) (Nat.le_of_ble_eq_true rfl) dX8_loose_83 rfl (fun V21 => ?_)
              refine s_iinc (q := 89) (w := 1) (L' := [(2, .int (x7 + 1)), (3, .int x16), (0, .ref (G.1 0)), (1, .int a1)]) C 3 dX8_loose_86 rfl rfl (by decide) rfl (by decide) rfl ?_
              refine s_goto (q := 40) C dX8_loose_89 (by decide) ?_
              refine s_sub [2, 3, 0] rfl ?_
              exact hB8 V21 ((x7 + 1))
      refine s_sub [1, 2, 0] rfl ?_
      exact hL1 gFu V2 0
    · refine s_aload_n (q := 32) C 0 dX8_loose_31 rfl rfl rfl ?_
      refine s_ldc (q := 34) (v := (-1000000003)) C dX8_loose_32 rfl kX8_90 ?_
      refine s_Vi (q := 37) (As := [.int (-1000000003)]) (st := []) C (uX8_errs l G hG V2 (-1000000003)) yvX8_errs mlX8_49 (s80 hG) rfl rfl rfl rfl rfl rfl (gR_le (by decide) (by decide)) (Nat.le_of_ble_eq_true rfl) dX8_loose_34 rfl (fun x22 V23 => ?_)
      exact s_iret C E dX8_loose_37
noncomputable def fX8_housesOf_L1b (a1 : Int32) (B4 : gV → Int32 → Int32 → Option (Int32 × gV)) (V1 : gV) (x2 : Int32) (x3 : Int32) : Option (Int32 × gV) := gal V1 (0 + 1) 2 264 fun (x5 : Int32) => if x5 ≤ x3 then (some (x2, V1)) else (gbi (fX8_guestsIn V1 x3) fun (x7 : Int32) (V8 : gV) => gbi (fX8_has V8 x7 a1) fun (x9 : Int32) (V10 : gV) => if x9 = 0 then (glt (x2 ||| 0) fun (x12 : Int32) => B4 V10 x12 ((x3 + 1))) else (glt (x2 ||| (1 <<< (x3 &&& 31))) fun (x13 : Int32) => B4 V10 x13 ((x3 + 1))))
noncomputable def fX8_housesOf_L1 (a1 : Int32) : Nat → gV → Int32 → Int32 → Option (Int32 × gV)
  | 0 => fun _ _ _ => none
  | n + 1 => fX8_housesOf_L1b a1 (fX8_housesOf_L1 a1 n)
noncomputable def fX8_housesOf (V : gV) (a1 : Int32) : Option (Int32 × gV) := fX8_housesOf_L1 a1 gFu V 0 0
set_option maxHeartbeats 4000000 in
set_option maxRecDepth 100000 in
theorem uX8_housesOf (l : Launch) (G : gG) (hG : gIsM G) (V : gV) (a1 : Int32) : gMi l G yX8_housesOf cX8_housesOf 4 Jvm.ClassFile.FieldType.int (gR 70 1668) [.ref (G.1 0), .int a1] V (fX8_housesOf V a1) := by
  unfold fX8_housesOf
  refine gM_i (by decide +kernel) rfl rfl (Nat.le_of_ble_eq_true rfl) (fun X rr VV C E => ?_)
  change gC cX8_housesOf 4 RX8 G X at C
  change gSm l (gR 70 1668) 4 G X _ (rr, VV) V 0 [(0, .ref (G.1 0)), (1, .int a1)] []
  refine s_iconst (q := 1) (v := 0) C dX8_housesOf_0 rfl (by decide) ?_
  refine s_istore_n (q := 2) (L' := [(2, .int 0), (0, .ref (G.1 0)), (1, .int a1)]) C dX8_housesOf_1 rfl rfl (by decide) rfl ?_
  refine s_iconst (q := 3) (v := 0) C dX8_housesOf_2 rfl (by decide) ?_
  refine s_istore_n (q := 4) (L' := [(3, .int 0), (2, .int 0), (0, .ref (G.1 0)), (1, .int a1)]) C dX8_housesOf_3 rfl rfl (by decide) rfl ?_
  have hL1 : ∀ (n : Nat) (V1 : gV) (x2 : Int32) (x3 : Int32), gSm l (gR 70 1668) 4 G X (fX8_housesOf_L1 a1 n V1 x2 x3) (rr, VV) V1 4 [(0, .ref (G.1 0)), (1, .int a1), (2, .int x2), (3, .int x3)] [] := by
    intro n
    induction n with
    | zero => exact fun V1 x2 x3 => s_none
    | succ n ih =>
      intro V1 x2 x3
      show gSm l (gR 70 1668) 4 G X (fX8_housesOf_L1b a1 (fX8_housesOf_L1 a1 n) V1 x2 x3) (rr, VV) V1 4 [(0, .ref (G.1 0)), (1, .int a1), (2, .int x2), (3, .int x3)] []
      generalize fX8_housesOf_L1 a1 n = B4 at ih ⊢
      have hB4 := ih
      unfold fX8_housesOf_L1b
      refine s_iload_n (q := 5) C 3 dX8_housesOf_4 rfl rfl rfl ?_
      refine s_aload_n (q := 6) C 0 dX8_housesOf_5 rfl rfl rfl ?_
      refine geX8_0 (q := 9) C (s80 hG) flX8_7 dX8_housesOf_6 rfl ?_
      refine s_iconst (q := 10) (v := 2) C dX8_housesOf_9 rfl (by decide) ?_
      refine s_iald (q := 11) C (qX8_0 hG) dX8_housesOf_10 rfl (fun x5 => ?_)
      refine s_icmp_ge (tgt := 42) (q := 14) C dX8_housesOf_11 (by decide) rfl (fun c6 => ?_) (fun c6 => ?_)
      · refine s_iload_n (q := 43) C 2 dX8_housesOf_42 rfl rfl rfl ?_
        exact s_iret C E dX8_housesOf_43
      · refine s_iload_n (q := 15) C 2 dX8_housesOf_14 rfl rfl rfl ?_
        refine s_aload_n (q := 16) C 0 dX8_housesOf_15 rfl rfl rfl ?_
        refine s_iload_n (q := 17) C 3 dX8_housesOf_16 rfl rfl rfl ?_
        refine s_Vi (q := 20) (As := [.int x3]) (st := [.int x2]) C (uX8_guestsIn l G hG V1 x3) yvX8_guestsIn mlX8_68 (s80 hG) rfl rfl rfl rfl rfl rfl (gR_le (by decide) (by decide)) (Nat.le_of_ble_eq_true rfl) dX8_housesOf_17 rfl (fun x7 V8 => ?_)
        refine s_iload_n (q := 21) C 1 dX8_housesOf_20 rfl rfl rfl ?_
        refine s_Si (q := 24) (As := [.int x7, .int a1]) (st := [.int x2]) C (uX8_has l G hG V8 x7 a1) ysX8_has mlX8_189 rfl rfl rfl rfl (gR_le (by decide) (by decide)) (Nat.le_of_ble_eq_true rfl) dX8_housesOf_21 rfl (fun x9 V10 => ?_)
        refine s_if_eq (tgt := 33) (q := 27) C dX8_housesOf_24 (by decide) rfl (fun c11 => ?_) (fun c11 => ?_)
        · refine s_iconst (q := 34) (v := 0) C dX8_housesOf_33 rfl (by decide) ?_
          refine s_ior (q := 35) C dX8_housesOf_34 rfl ?_
          refine s_lt (fun x12 => ?_)
          refine s_istore_n (q := 36) (L' := [(2, .int x12), (0, .ref (G.1 0)), (1, .int a1), (3, .int x3)]) C dX8_housesOf_35 rfl rfl (by decide) rfl ?_
          refine s_iinc (q := 39) (w := 1) (L' := [(3, .int (x3 + 1)), (2, .int x12), (0, .ref (G.1 0)), (1, .int a1)]) C 3 dX8_housesOf_36 rfl rfl (by decide) rfl (by decide) rfl ?_
          refine s_goto (q := 4) C dX8_housesOf_39 (by decide) ?_
          refine s_sub [2, 3, 1, 0] rfl ?_
          exact hB4 V10 x12 ((x3 + 1))
        · refine s_iconst (q := 28) (v := 1) C dX8_housesOf_27 rfl (by decide) ?_
          refine s_iload_n (q := 29) C 3 dX8_housesOf_28 rfl rfl rfl ?_
          refine s_ishl (q := 30) C dX8_housesOf_29 rfl ?_
          refine s_goto (q := 34) C dX8_housesOf_30 (by decide) ?_
          refine s_ior (q := 35) C dX8_housesOf_34 rfl ?_
          refine s_lt (fun x13 => ?_)
          refine s_istore_n (q := 36) (L' := [(2, .int x13), (0, .ref (G.1 0)), (1, .int a1), (3, .int x3)]) C dX8_housesOf_35 rfl rfl (by decide) rfl ?_
          refine s_iinc (q := 39) (w := 1) (L' := [(3, .int (x3 + 1)), (2, .int x13), (0, .ref (G.1 0)), (1, .int a1)]) C 3 dX8_housesOf_36 rfl rfl (by decide) rfl (by decide) rfl ?_
          refine s_goto (q := 4) C dX8_housesOf_39 (by decide) ?_
          refine s_sub [2, 3, 1, 0] rfl ?_
          exact hB4 V10 x13 ((x3 + 1))
  refine s_sub [2, 3, 1, 0] rfl ?_
  exact hL1 gFu V 0 0
noncomputable def fX8_where (V : gV) (a1 : Int32) : Option (Int32 × gV) := gbi (fX8_isGuest V a1) fun (x1 : Int32) (V2 : gV) => if x1 = 0 then (gbi (fX8_errs V2 (-1000000001)) fun (x4 : Int32) (V5 : gV) => some (x4, V5)) else (gbi (fX8_housesOf V2 a1) fun (x6 : Int32) (V7 : gV) => some (x6, V7))
set_option maxHeartbeats 4000000 in
set_option maxRecDepth 100000 in
theorem uX8_where (l : Launch) (G : gG) (hG : gIsM G) (V : gV) (a1 : Int32) : gMi l G yX8_where cX8_where 2 Jvm.ClassFile.FieldType.int (gR 71 1691) [.ref (G.1 0), .int a1] V (fX8_where V a1) := by
  unfold fX8_where
  refine gM_i (by decide +kernel) rfl rfl (Nat.le_of_ble_eq_true rfl) (fun X rr VV C E => ?_)
  change gC cX8_where 2 RX8 G X at C
  change gSm l (gR 71 1691) 2 G X _ (rr, VV) V 0 [(0, .ref (G.1 0)), (1, .int a1)] []
  refine s_iload_n (q := 1) C 1 dX8_where_0 rfl rfl rfl ?_
  refine s_Si (q := 4) (As := [.int a1]) (st := []) C (uX8_isGuest l G hG V a1) ysX8_isGuest mlX8_193 rfl rfl rfl rfl (gR_le (by decide) (by decide)) (Nat.le_of_ble_eq_true rfl) dX8_where_1 rfl (fun x1 V2 => ?_)
  refine s_if_eq (tgt := 15) (q := 7) C dX8_where_4 (by decide) rfl (fun c3 => ?_) (fun c3 => ?_)
  · refine s_aload_n (q := 16) C 0 dX8_where_15 rfl rfl rfl ?_
    refine s_ldc (q := 18) (v := (-1000000001)) C dX8_where_16 rfl kX8_48 ?_
    refine s_Vi (q := 21) (As := [.int (-1000000001)]) (st := []) C (uX8_errs l G hG V2 (-1000000001)) yvX8_errs mlX8_49 (s80 hG) rfl rfl rfl rfl rfl rfl (gR_le (by decide) (by decide)) (Nat.le_of_ble_eq_true rfl) dX8_where_18 rfl (fun x4 V5 => ?_)
    exact s_iret C E dX8_where_21
  · refine s_aload_n (q := 8) C 0 dX8_where_7 rfl rfl rfl ?_
    refine s_iload_n (q := 9) C 1 dX8_where_8 rfl rfl rfl ?_
    refine s_Vi (q := 12) (As := [.int a1]) (st := []) C (uX8_housesOf l G hG V2 a1) yvX8_housesOf mlX8_196 (s80 hG) rfl rfl rfl rfl rfl rfl (gR_le (by decide) (by decide)) (Nat.le_of_ble_eq_true rfl) dX8_where_9 rfl (fun x6 V7 => ?_)
    refine s_goto (q := 21) C dX8_where_12 (by decide) ?_
    exact s_iret C E dX8_where_21
noncomputable def fX8_twice_L1b (B5 : gV → Int32 → Int32 → Int32 → Option (Int32 × gV)) (V1 : gV) (x2 : Int32) (x3 : Int32) (x4 : Int32) : Option (Int32 × gV) := gal V1 (0 + 1) 2 264 fun (x6 : Int32) => if x6 ≤ x4 then (some (x3, V1)) else (gbi (fX8_guestsIn V1 x4) fun (x8 : Int32) (V9 : gV) => glt (x3 ||| (x2 &&& x8)) fun (x10 : Int32) => glt (x2 ||| x8) fun (x11 : Int32) => B5 V9 x11 x10 ((x4 + 1)))
noncomputable def fX8_twice_L1 : Nat → gV → Int32 → Int32 → Int32 → Option (Int32 × gV)
  | 0 => fun _ _ _ _ => none
  | n + 1 => fX8_twice_L1b (fX8_twice_L1 n)
noncomputable def fX8_twice (V : gV)  : Option (Int32 × gV) := fX8_twice_L1 gFu V 0 0 0
set_option maxHeartbeats 4000000 in
set_option maxRecDepth 100000 in
theorem uX8_twice (l : Launch) (G : gG) (hG : gIsM G) (V : gV)  : gMi l G yX8_twice cX8_twice 5 Jvm.ClassFile.FieldType.int (gR 70 1668) [.ref (G.1 0)] V (fX8_twice V) := by
  unfold fX8_twice
  refine gM_i (by decide +kernel) rfl rfl (Nat.le_of_ble_eq_true rfl) (fun X rr VV C E => ?_)
  change gC cX8_twice 5 RX8 G X at C
  change gSm l (gR 70 1668) 5 G X _ (rr, VV) V 0 [(0, .ref (G.1 0))] []
  refine s_iconst (q := 1) (v := 0) C dX8_twice_0 rfl (by decide) ?_
  refine s_istore_n (q := 2) (L' := [(1, .int 0), (0, .ref (G.1 0))]) C dX8_twice_1 rfl rfl (by decide) rfl ?_
  refine s_iconst (q := 3) (v := 0) C dX8_twice_2 rfl (by decide) ?_
  refine s_istore_n (q := 4) (L' := [(2, .int 0), (1, .int 0), (0, .ref (G.1 0))]) C dX8_twice_3 rfl rfl (by decide) rfl ?_
  refine s_iconst (q := 5) (v := 0) C dX8_twice_4 rfl (by decide) ?_
  refine s_istore_n (q := 6) (L' := [(3, .int 0), (2, .int 0), (1, .int 0), (0, .ref (G.1 0))]) C dX8_twice_5 rfl rfl (by decide) rfl ?_
  have hL1 : ∀ (n : Nat) (V1 : gV) (x2 : Int32) (x3 : Int32) (x4 : Int32), gSm l (gR 70 1668) 5 G X (fX8_twice_L1 n V1 x2 x3 x4) (rr, VV) V1 6 [(0, .ref (G.1 0)), (1, .int x2), (2, .int x3), (3, .int x4)] [] := by
    intro n
    induction n with
    | zero => exact fun V1 x2 x3 x4 => s_none
    | succ n ih =>
      intro V1 x2 x3 x4
      show gSm l (gR 70 1668) 5 G X (fX8_twice_L1b (fX8_twice_L1 n) V1 x2 x3 x4) (rr, VV) V1 6 [(0, .ref (G.1 0)), (1, .int x2), (2, .int x3), (3, .int x4)] []
      generalize fX8_twice_L1 n = B5 at ih ⊢
      have hB5 := ih
      unfold fX8_twice_L1b
      refine s_iload_n (q := 7) C 3 dX8_twice_6 rfl rfl rfl ?_
      refine s_aload_n (q := 8) C 0 dX8_twice_7 rfl rfl rfl ?_
      refine geX8_0 (q := 11) C (s80 hG) flX8_7 dX8_twice_8 rfl ?_
      refine s_iconst (q := 12) (v := 2) C dX8_twice_11 rfl (by decide) ?_
      refine s_iald (q := 13) C (qX8_0 hG) dX8_twice_12 rfl (fun x6 => ?_)
      refine s_icmp_ge (tgt := 41) (q := 16) C dX8_twice_13 (by decide) rfl (fun c7 => ?_) (fun c7 => ?_)
      · refine s_iload_n (q := 42) C 2 dX8_twice_41 rfl rfl rfl ?_
        exact s_iret C E dX8_twice_42
      · refine s_aload_n (q := 17) C 0 dX8_twice_16 rfl rfl rfl ?_
        refine s_iload_n (q := 18) C 3 dX8_twice_17 rfl rfl rfl ?_
        refine s_Vi (q := 21) (As := [.int x4]) (st := []) C (uX8_guestsIn l G hG V1 x4) yvX8_guestsIn mlX8_68 (s80 hG) rfl rfl rfl rfl rfl rfl (gR_le (by decide) (by decide)) (Nat.le_of_ble_eq_true rfl) dX8_twice_18 rfl (fun x8 V9 => ?_)
        refine s_istore (q := 23) (L' := [(4, .int x8), (0, .ref (G.1 0)), (1, .int x2), (2, .int x3), (3, .int x4)]) C dX8_twice_21 rfl (by decide) rfl ?_
        refine s_iload_n (q := 24) C 3 dX8_twice_23 rfl rfl rfl ?_
        refine s_iload_n (q := 25) C 2 dX8_twice_24 rfl rfl rfl ?_
        refine s_iload (q := 27) C 0 dX8_twice_25 rfl rfl ?_
        refine s_iand (q := 28) C dX8_twice_27 rfl ?_
        refine s_ior (q := 29) C dX8_twice_28 rfl ?_
        refine s_lt (fun x10 => ?_)
        refine s_istore_n (q := 30) (L' := [(2, .int x10), (4, .int x8), (0, .ref (G.1 0)), (1, .int x2), (3, .int x4)]) C dX8_twice_29 rfl rfl (by decide) rfl ?_
        refine s_iload_n (q := 31) C 3 dX8_twice_30 rfl rfl rfl ?_
        refine s_iload (q := 33) C 1 dX8_twice_31 rfl rfl ?_
        refine s_ior (q := 34) C dX8_twice_33 rfl ?_
        refine s_lt (fun x11 => ?_)
        refine s_istore_n (q := 35) (L' := [(1, .int x11), (2, .int x10), (4, .int x8), (0, .ref (G.1 0)), (3, .int x4)]) C dX8_twice_34 rfl rfl (by decide) rfl ?_
        refine s_iinc (q := 38) (w := 1) (L' := [(3, .int (x4 + 1)), (1, .int x11), (2, .int x10), (4, .int x8), (0, .ref (G.1 0))]) C 4 dX8_twice_35 rfl rfl (by decide) rfl (by decide) rfl ?_
        refine s_goto (q := 6) C dX8_twice_38 (by decide) ?_
        refine s_sub [4, 1, 2, 0] rfl ?_
        exact hB5 V9 x11 x10 ((x4 + 1))
  refine s_sub [3, 2, 1, 0] rfl ?_
  exact hL1 gFu V 0 0 0
noncomputable def fX8_then (V : gV) (a1 : Int32) (a2 : Int32) (a3 : Int32) : Option (Int32 × gV) := gbi (fX8_in V a1 0 99) fun (x1 : Int32) (V2 : gV) => if x1 = 0 then (gbi (fX8_errs V2 (-1000000001)) fun (x4 : Int32) (V5 : gV) => some (x4, V5)) else (gbi (fX8_isCake V2 a2) fun (x6 : Int32) (V7 : gV) => if x6 = 0 then (gbi (fX8_errs V7 (-1000000001)) fun (x9 : Int32) (V10 : gV) => some (x9, V10)) else (gbi (fX8_in V7 a3 0 1) fun (x11 : Int32) (V12 : gV) => if x11 = 0 then (gbi (fX8_errs V12 (-1000000001)) fun (x30 : Int32) (V31 : gV) => some (x30, V31)) else (gbv (fX8_moveAll V12 (0 + 1) 264 (0 + 3) 264) fun (V14 : gV) => gbv (fX8_passes V14 a1) fun (V15 : gV) => gjn (fun (x21 : Int32) (V22 : gV) => gbv (fX8_moveAll V22 (0 + 3) 264 (0 + 1) 264) fun (V24 : gV) => some (x21, V24)) fun J23 => if a3 = 0 then (gbi (fX8_shows V15 a2) fun (x28 : Int32) (V29 : gV) => J23 x28 V29) else (gbi (fX8_its V15 a2 4) fun (x26 : Int32) (V27 : gV) => J23 x26 V27))))
set_option maxHeartbeats 4000000 in
set_option maxRecDepth 100000 in
theorem uX8_then (l : Launch) (G : gG) (hG : gIsM G) (V : gV) (a1 : Int32) (a2 : Int32) (a3 : Int32) : gMi l G yX8_then cX8_then 5 Jvm.ClassFile.FieldType.int (gR 71 1683) [.ref (G.1 0), .int a1, .int a2, .int a3] V (fX8_then V a1 a2 a3) := by
  unfold fX8_then
  refine gM_i (by decide +kernel) rfl rfl (Nat.le_of_ble_eq_true rfl) (fun X rr VV C E => ?_)
  change gC cX8_then 5 RX8 G X at C
  change gSm l (gR 71 1683) 5 G X _ (rr, VV) V 0 [(0, .ref (G.1 0)), (1, .int a1), (2, .int a2), (3, .int a3)] []
  refine s_iload_n (q := 1) C 1 dX8_then_0 rfl rfl rfl ?_
  refine s_iconst (q := 2) (v := 0) C dX8_then_1 rfl (by decide) ?_
  refine s_bipush (q := 4) (v := 99) C dX8_then_2 rfl (by decide) ?_
  refine s_Si (q := 7) (As := [.int a1, .int 0, .int 99]) (st := []) C (uX8_in l G hG V a1 0 99) ysX8_in mlX8_44 rfl rfl rfl rfl (gR_le (by decide) (by decide)) (Nat.le_of_ble_eq_true rfl) dX8_then_4 rfl (fun x1 V2 => ?_)
  refine s_if_eq (tgt := 27) (q := 10) C dX8_then_7 (by decide) rfl (fun c3 => ?_) (fun c3 => ?_)
  · refine s_aload_n (q := 28) C 0 dX8_then_27 rfl rfl rfl ?_
    refine s_ldc (q := 30) (v := (-1000000001)) C dX8_then_28 rfl kX8_48 ?_
    refine s_Vi (q := 33) (As := [.int (-1000000001)]) (st := []) C (uX8_errs l G hG V2 (-1000000001)) yvX8_errs mlX8_49 (s80 hG) rfl rfl rfl rfl rfl rfl (gR_le (by decide) (by decide)) (Nat.le_of_ble_eq_true rfl) dX8_then_30 rfl (fun x4 V5 => ?_)
    exact s_iret C E dX8_then_33
  · refine s_aload_n (q := 11) C 0 dX8_then_10 rfl rfl rfl ?_
    refine s_iload_n (q := 12) C 2 dX8_then_11 rfl rfl rfl ?_
    refine s_Vi (q := 15) (As := [.int a2]) (st := []) C (uX8_isCake l G hG V2 a2) yvX8_isCake mlX8_78 (s80 hG) rfl rfl rfl rfl rfl rfl (gR_le (by decide) (by decide)) (Nat.le_of_ble_eq_true rfl) dX8_then_12 rfl (fun x6 V7 => ?_)
    refine s_if_eq (tgt := 27) (q := 18) C dX8_then_15 (by decide) rfl (fun c8 => ?_) (fun c8 => ?_)
    · refine s_aload_n (q := 28) C 0 dX8_then_27 rfl rfl rfl ?_
      refine s_ldc (q := 30) (v := (-1000000001)) C dX8_then_28 rfl kX8_48 ?_
      refine s_Vi (q := 33) (As := [.int (-1000000001)]) (st := []) C (uX8_errs l G hG V7 (-1000000001)) yvX8_errs mlX8_49 (s80 hG) rfl rfl rfl rfl rfl rfl (gR_le (by decide) (by decide)) (Nat.le_of_ble_eq_true rfl) dX8_then_30 rfl (fun x9 V10 => ?_)
      exact s_iret C E dX8_then_33
    · refine s_iload_n (q := 19) C 3 dX8_then_18 rfl rfl rfl ?_
      refine s_iconst (q := 20) (v := 0) C dX8_then_19 rfl (by decide) ?_
      refine s_iconst (q := 21) (v := 1) C dX8_then_20 rfl (by decide) ?_
      refine s_Si (q := 24) (As := [.int a3, .int 0, .int 1]) (st := []) C (uX8_in l G hG V7 a3 0 1) ysX8_in mlX8_44 rfl rfl rfl rfl (gR_le (by decide) (by decide)) (Nat.le_of_ble_eq_true rfl) dX8_then_21 rfl (fun x11 V12 => ?_)
      refine s_if_ne (tgt := 34) (q := 27) C dX8_then_24 (by decide) rfl (fun c13 => ?_) (fun c13 => ?_)
      · refine s_aload_n (q := 28) C 0 dX8_then_27 rfl rfl rfl ?_
        refine s_ldc (q := 30) (v := (-1000000001)) C dX8_then_28 rfl kX8_48 ?_
        refine s_Vi (q := 33) (As := [.int (-1000000001)]) (st := []) C (uX8_errs l G hG V12 (-1000000001)) yvX8_errs mlX8_49 (s80 hG) rfl rfl rfl rfl rfl rfl (gR_le (by decide) (by decide)) (Nat.le_of_ble_eq_true rfl) dX8_then_30 rfl (fun x30 V31 => ?_)
        exact s_iret C E dX8_then_33
      · refine s_aload_n (q := 35) C 0 dX8_then_34 rfl rfl rfl ?_
        refine s_aload_n (q := 36) C 0 dX8_then_35 rfl rfl rfl ?_
        refine geX8_0 (q := 39) C (s80 hG) flX8_7 dX8_then_36 rfl ?_
        refine s_aload_n (q := 40) C 0 dX8_then_39 rfl rfl rfl ?_
        refine geX8_2 (q := 43) C (s80 hG) flX8_16 dX8_then_40 rfl ?_
        refine s_Vv (q := 46) (As := [.ref (G.1 (0 + 1)), .ref (G.1 (0 + 3))]) (st := []) C (uX8_moveAll l G hG V12 (0 + 1) 264 (0 + 3) 264 (qX8_0 hG) (qX8_2 hG) (mX8_2 hG)) yvX8_moveAll mlX8_171 (s80 hG) rfl rfl rfl rfl rfl rfl (gR_le (by decide) (by decide)) (Nat.le_of_ble_eq_true rfl) dX8_then_43 rfl (fun V14 => ?_)
        refine s_aload_n (q := 47) C 0 dX8_then_46 rfl rfl rfl ?_
        refine s_iload_n (q := 48) C 1 dX8_then_47 rfl rfl rfl ?_
        refine s_Vv (q := 51) (As := [.int a1]) (st := []) C (uX8_passes l G hG V14 a1) yvX8_passes mlX8_178 (s80 hG) rfl rfl rfl rfl rfl rfl (gR_le (by decide) (by decide)) (Nat.le_of_ble_eq_true rfl) dX8_then_48 rfl (fun V15 => ?_)
        refine s_iload_n (q := 52) C 3 dX8_then_51 rfl rfl rfl ?_
        refine s_jn (fun J23 => ∀ (x21 : Int32) (V22 : gV), gSm l (gR 71 1683) 5 G X (J23 x21 V22) (rr, VV) V22 69 [(0, .ref (G.1 0))] [.int x21]) ?_ (fun J23 hJ23 => ?_)
        · intro x21 V22
          refine s_istore (q := 71) (L' := [(4, .int x21), (0, .ref (G.1 0))]) C dX8_then_69 rfl (by decide) rfl ?_
          refine s_aload_n (q := 72) C 1 dX8_then_71 rfl rfl rfl ?_
          refine s_aload_n (q := 73) C 1 dX8_then_72 rfl rfl rfl ?_
          refine geX8_2 (q := 76) C (s80 hG) flX8_16 dX8_then_73 rfl ?_
          refine s_aload_n (q := 77) C 1 dX8_then_76 rfl rfl rfl ?_
          refine geX8_0 (q := 80) C (s80 hG) flX8_7 dX8_then_77 rfl ?_
          refine s_Vv (q := 83) (As := [.ref (G.1 (0 + 3)), .ref (G.1 (0 + 1))]) (st := []) C (uX8_moveAll l G hG V22 (0 + 3) 264 (0 + 1) 264 (qX8_2 hG) (qX8_0 hG) (mX8_0 hG)) yvX8_moveAll mlX8_171 (s80 hG) rfl rfl rfl rfl rfl rfl (gR_le (by decide) (by decide)) (Nat.le_of_ble_eq_true rfl) dX8_then_80 rfl (fun V24 => ?_)
          refine s_iload (q := 85) C 0 dX8_then_83 rfl rfl ?_
          exact s_iret C E dX8_then_85
        · refine s_if_ne (tgt := 63) (q := 55) C dX8_then_52 (by decide) rfl (fun c25 => ?_) (fun c25 => ?_)
          · refine s_aload_n (q := 56) C 0 dX8_then_55 rfl rfl rfl ?_
            refine s_iload_n (q := 57) C 2 dX8_then_56 rfl rfl rfl ?_
            refine s_Vi (q := 60) (As := [.int a2]) (st := []) C (uX8_shows l G hG V15 a2) yvX8_shows mlX8_58 (s80 hG) rfl rfl rfl rfl rfl rfl (gR_le (by decide) (by decide)) (Nat.le_of_ble_eq_true rfl) dX8_then_57 rfl (fun x28 V29 => ?_)
            refine s_goto (q := 69) C dX8_then_60 (by decide) ?_
            refine s_sub [0] rfl ?_
            exact hJ23 x28 V29
          · refine s_aload_n (q := 64) C 0 dX8_then_63 rfl rfl rfl ?_
            refine s_iload_n (q := 65) C 2 dX8_then_64 rfl rfl rfl ?_
            refine s_iconst (q := 66) (v := 4) C dX8_then_65 rfl (by decide) ?_
            refine s_Vi (q := 69) (As := [.int a2, .int 4]) (st := []) C (uX8_its l G hG V15 a2 4) yvX8_its mlX8_54 (s80 hG) rfl rfl rfl rfl rfl rfl (gR_le (by decide) (by decide)) (Nat.le_of_ble_eq_true rfl) dX8_then_66 rfl (fun x26 V27 => ?_)
            refine s_sub [0] rfl ?_
            exact hJ23 x26 V27
noncomputable def fX8_comes_L1b (a1 : Int32) (a2 : Int32) (B12 : gV → Int32 → Option (Int32 × gV)) (V10 : gV) (x11 : Int32) : Option (Int32 × gV) := gjn (fun (V20 : gV) => gbv (fX8_moveAll V20 (0 + 3) 264 (0 + 1) 264) fun (V22 : gV) => if x11 ≤ 99 then (some (x11, V22)) else (gbi (fX8_errs V22 (-1000000002)) fun (x24 : Int32) (V25 : gV) => some (x24, V25))) fun J21 => if 99 < x11 then (J21 V10) else (gbi (fX8_guestsIn V10 a2) fun (x27 : Int32) (V28 : gV) => gbi (fX8_has V28 x27 a1) fun (x29 : Int32) (V30 : gV) => if x29 = 0 then (gbv (fX8_oneDay V30) fun (V32 : gV) => B12 V32 ((x11 + 1))) else (J21 V30))
noncomputable def fX8_comes_L1 (a1 : Int32) (a2 : Int32) : Nat → gV → Int32 → Option (Int32 × gV)
  | 0 => fun _ _ => none
  | n + 1 => fX8_comes_L1b a1 a2 (fX8_comes_L1 a1 a2 n)
noncomputable def fX8_comes (V : gV) (a1 : Int32) (a2 : Int32) : Option (Int32 × gV) := gbi (fX8_isGuest V a1) fun (x1 : Int32) (V2 : gV) => if x1 = 0 then (gbi (fX8_errs V2 (-1000000001)) fun (x4 : Int32) (V5 : gV) => some (x4, V5)) else (gbi (fX8_isHouse V2 a2) fun (x6 : Int32) (V7 : gV) => if x6 = 0 then (gbi (fX8_errs V7 (-1000000001)) fun (x33 : Int32) (V34 : gV) => some (x33, V34)) else (gbv (fX8_moveAll V7 (0 + 1) 264 (0 + 3) 264) fun (V9 : gV) => fX8_comes_L1 a1 a2 gFu V9 0))
set_option maxHeartbeats 4000000 in
set_option maxRecDepth 100000 in
theorem uX8_comes (l : Launch) (G : gG) (hG : gIsM G) (V : gV) (a1 : Int32) (a2 : Int32) : gMi l G yX8_comes cX8_comes 4 Jvm.ClassFile.FieldType.int (gR 70 1668) [.ref (G.1 0), .int a1, .int a2] V (fX8_comes V a1 a2) := by
  unfold fX8_comes
  refine gM_i (by decide +kernel) rfl rfl (Nat.le_of_ble_eq_true rfl) (fun X rr VV C E => ?_)
  change gC cX8_comes 4 RX8 G X at C
  change gSm l (gR 70 1668) 4 G X _ (rr, VV) V 0 [(0, .ref (G.1 0)), (1, .int a1), (2, .int a2)] []
  refine s_iload_n (q := 1) C 1 dX8_comes_0 rfl rfl rfl ?_
  refine s_Si (q := 4) (As := [.int a1]) (st := []) C (uX8_isGuest l G hG V a1) ysX8_isGuest mlX8_193 rfl rfl rfl rfl (gR_le (by decide) (by decide)) (Nat.le_of_ble_eq_true rfl) dX8_comes_1 rfl (fun x1 V2 => ?_)
  refine s_if_eq (tgt := 15) (q := 7) C dX8_comes_4 (by decide) rfl (fun c3 => ?_) (fun c3 => ?_)
  · refine s_aload_n (q := 16) C 0 dX8_comes_15 rfl rfl rfl ?_
    refine s_ldc (q := 18) (v := (-1000000001)) C dX8_comes_16 rfl kX8_48 ?_
    refine s_Vi (q := 21) (As := [.int (-1000000001)]) (st := []) C (uX8_errs l G hG V2 (-1000000001)) yvX8_errs mlX8_49 (s80 hG) rfl rfl rfl rfl rfl rfl (gR_le (by decide) (by decide)) (Nat.le_of_ble_eq_true rfl) dX8_comes_18 rfl (fun x4 V5 => ?_)
    exact s_iret C E dX8_comes_21
  · refine s_aload_n (q := 8) C 0 dX8_comes_7 rfl rfl rfl ?_
    refine s_iload_n (q := 9) C 2 dX8_comes_8 rfl rfl rfl ?_
    refine s_Vi (q := 12) (As := [.int a2]) (st := []) C (uX8_isHouse l G hG V2 a2) yvX8_isHouse mlX8_61 (s80 hG) rfl rfl rfl rfl rfl rfl (gR_le (by decide) (by decide)) (Nat.le_of_ble_eq_true rfl) dX8_comes_9 rfl (fun x6 V7 => ?_)
    refine s_if_ne (tgt := 22) (q := 15) C dX8_comes_12 (by decide) rfl (fun c8 => ?_) (fun c8 => ?_)
    · refine s_aload_n (q := 16) C 0 dX8_comes_15 rfl rfl rfl ?_
      refine s_ldc (q := 18) (v := (-1000000001)) C dX8_comes_16 rfl kX8_48 ?_
      refine s_Vi (q := 21) (As := [.int (-1000000001)]) (st := []) C (uX8_errs l G hG V7 (-1000000001)) yvX8_errs mlX8_49 (s80 hG) rfl rfl rfl rfl rfl rfl (gR_le (by decide) (by decide)) (Nat.le_of_ble_eq_true rfl) dX8_comes_18 rfl (fun x33 V34 => ?_)
      exact s_iret C E dX8_comes_21
    · refine s_aload_n (q := 23) C 0 dX8_comes_22 rfl rfl rfl ?_
      refine s_aload_n (q := 24) C 0 dX8_comes_23 rfl rfl rfl ?_
      refine geX8_0 (q := 27) C (s80 hG) flX8_7 dX8_comes_24 rfl ?_
      refine s_aload_n (q := 28) C 0 dX8_comes_27 rfl rfl rfl ?_
      refine geX8_2 (q := 31) C (s80 hG) flX8_16 dX8_comes_28 rfl ?_
      refine s_Vv (q := 34) (As := [.ref (G.1 (0 + 1)), .ref (G.1 (0 + 3))]) (st := []) C (uX8_moveAll l G hG V7 (0 + 1) 264 (0 + 3) 264 (qX8_0 hG) (qX8_2 hG) (mX8_2 hG)) yvX8_moveAll mlX8_171 (s80 hG) rfl rfl rfl rfl rfl rfl (gR_le (by decide) (by decide)) (Nat.le_of_ble_eq_true rfl) dX8_comes_31 rfl (fun V9 => ?_)
      refine s_iconst (q := 35) (v := 0) C dX8_comes_34 rfl (by decide) ?_
      refine s_istore_n (q := 36) (L' := [(3, .int 0), (0, .ref (G.1 0)), (1, .int a1), (2, .int a2)]) C dX8_comes_35 rfl rfl (by decide) rfl ?_
      have hL1 : ∀ (n : Nat) (V10 : gV) (x11 : Int32), gSm l (gR 70 1668) 4 G X (fX8_comes_L1 a1 a2 n V10 x11) (rr, VV) V10 36 [(0, .ref (G.1 0)), (1, .int a1), (2, .int a2), (3, .int x11)] [] := by
        intro n
        induction n with
        | zero => exact fun V10 x11 => s_none
        | succ n ih =>
          intro V10 x11
          show gSm l (gR 70 1668) 4 G X (fX8_comes_L1b a1 a2 (fX8_comes_L1 a1 a2 n) V10 x11) (rr, VV) V10 36 [(0, .ref (G.1 0)), (1, .int a1), (2, .int a2), (3, .int x11)] []
          generalize fX8_comes_L1 a1 a2 n = B12 at ih ⊢
          have hB12 := ih
          unfold fX8_comes_L1b
          refine s_iload_n (q := 37) C 3 dX8_comes_36 rfl rfl rfl ?_
          refine s_bipush (q := 39) (v := 99) C dX8_comes_37 rfl (by decide) ?_
          refine s_jn (fun J21 => ∀ (V20 : gV), gSm l (gR 70 1668) 4 G X (J21 V20) (rr, VV) V20 64 [(0, .ref (G.1 0)), (3, .int x11)] []) ?_ (fun J21 hJ21 => ?_)
          · intro V20
            refine s_aload_n (q := 65) C 0 dX8_comes_64 rfl rfl rfl ?_
            refine s_aload_n (q := 66) C 0 dX8_comes_65 rfl rfl rfl ?_
            refine geX8_2 (q := 69) C (s80 hG) flX8_16 dX8_comes_66 rfl ?_
            refine s_aload_n (q := 70) C 0 dX8_comes_69 rfl rfl rfl ?_
            refine geX8_0 (q := 73) C (s80 hG) flX8_7 dX8_comes_70 rfl ?_
            refine s_Vv (q := 76) (As := [.ref (G.1 (0 + 3)), .ref (G.1 (0 + 1))]) (st := []) C (uX8_moveAll l G hG V20 (0 + 3) 264 (0 + 1) 264 (qX8_2 hG) (qX8_0 hG) (mX8_0 hG)) yvX8_moveAll mlX8_171 (s80 hG) rfl rfl rfl rfl rfl rfl (gR_le (by decide) (by decide)) (Nat.le_of_ble_eq_true rfl) dX8_comes_73 rfl (fun V22 => ?_)
            refine s_iload_n (q := 77) C 1 dX8_comes_76 rfl rfl rfl ?_
            refine s_bipush (q := 79) (v := 99) C dX8_comes_77 rfl (by decide) ?_
            refine s_icmp_le (tgt := 91) (q := 82) C dX8_comes_79 (by decide) rfl (fun c23 => ?_) (fun c23 => ?_)
            · refine s_iload_n (q := 92) C 1 dX8_comes_91 rfl rfl rfl ?_
              exact s_iret C E dX8_comes_92
            · refine s_aload_n (q := 83) C 0 dX8_comes_82 rfl rfl rfl ?_
              refine s_ldc (q := 85) (v := (-1000000002)) C dX8_comes_83 rfl kX8_199 ?_
              refine s_Vi (q := 88) (As := [.int (-1000000002)]) (st := []) C (uX8_errs l G hG V22 (-1000000002)) yvX8_errs mlX8_49 (s80 hG) rfl rfl rfl rfl rfl rfl (gR_le (by decide) (by decide)) (Nat.le_of_ble_eq_true rfl) dX8_comes_85 rfl (fun x24 V25 => ?_)
              refine s_goto (q := 92) C dX8_comes_88 (by decide) ?_
              exact s_iret C E dX8_comes_92
          · refine s_icmp_gt (tgt := 64) (q := 42) C dX8_comes_39 (by decide) rfl (fun c26 => ?_) (fun c26 => ?_)
            · refine s_sub [0, 3] rfl ?_
              exact hJ21 V10
            · refine s_aload_n (q := 43) C 0 dX8_comes_42 rfl rfl rfl ?_
              refine s_iload_n (q := 44) C 2 dX8_comes_43 rfl rfl rfl ?_
              refine s_Vi (q := 47) (As := [.int a2]) (st := []) C (uX8_guestsIn l G hG V10 a2) yvX8_guestsIn mlX8_68 (s80 hG) rfl rfl rfl rfl rfl rfl (gR_le (by decide) (by decide)) (Nat.le_of_ble_eq_true rfl) dX8_comes_44 rfl (fun x27 V28 => ?_)
              refine s_iload_n (q := 48) C 1 dX8_comes_47 rfl rfl rfl ?_
              refine s_Si (q := 51) (As := [.int x27, .int a1]) (st := []) C (uX8_has l G hG V28 x27 a1) ysX8_has mlX8_189 rfl rfl rfl rfl (gR_le (by decide) (by decide)) (Nat.le_of_ble_eq_true rfl) dX8_comes_48 rfl (fun x29 V30 => ?_)
              refine s_if_ne (tgt := 64) (q := 54) C dX8_comes_51 (by decide) rfl (fun c31 => ?_) (fun c31 => ?_)
              · refine s_aload_n (q := 55) C 0 dX8_comes_54 rfl rfl rfl ?_
                refine s_Vv (q := 58) (As := []) (st := []) C (uX8_oneDay l G hG V30) yvX8_oneDay mlX8_175 (s80 hG) rfl rfl rfl rfl rfl rfl (gR_le (by decide) (by decide)) (Nat.le_of_ble_eq_true rfl) dX8_comes_55 rfl (fun V32 => ?_)
                refine s_iinc (q := 61) (w := 1) (L' := [(3, .int (x11 + 1)), (0, .ref (G.1 0)), (1, .int a1), (2, .int a2)]) C 3 dX8_comes_58 rfl rfl (by decide) rfl (by decide) rfl ?_
                refine s_goto (q := 36) C dX8_comes_61 (by decide) ?_
                refine s_sub [1, 2, 3, 0] rfl ?_
                exact hB12 V32 ((x11 + 1))
              · refine s_sub [0, 3] rfl ?_
                exact hJ21 V30
      refine s_sub [1, 2, 3, 0] rfl ?_
      exact hL1 gFu V9 0
noncomputable def fX8_clash_L2b (a1 : Int32) (x6 : Int32) (x15 : Int32) (B21 : gV → Int32 → Option (Int32 × gV)) (V19 : gV) (x20 : Int32) : Option (Int32 × gV) := gbi (fX8_has V19 x15 x20) fun (x22 : Int32) (V23 : gV) => if x22 = 0 then (B21 V23 ((x20 + 1))) else (if a1 = 0 then (some (x6, V23)) else (some (x20, V23)))
noncomputable def fX8_clash_L2 (a1 : Int32) (x6 : Int32) (x15 : Int32) : Nat → gV → Int32 → Option (Int32 × gV)
  | 0 => fun _ _ => none
  | n + 1 => fX8_clash_L2b a1 x6 x15 (fX8_clash_L2 a1 x6 x15 n)
noncomputable def fX8_clash_L1b (a1 : Int32) (B7 : gV → Int32 → Option (Int32 × gV)) (V5 : gV) (x6 : Int32) : Option (Int32 × gV) := gjn (fun (V13 : gV) => gbi (fX8_twice V13) fun (x15 : Int32) (V16 : gV) => gbv (fX8_moveAll V16 (0 + 3) 264 (0 + 1) 264) fun (V17 : gV) => if x6 ≤ 99 then (fX8_clash_L2 a1 x6 x15 gFu V17 0) else (gbi (fX8_errs V17 (-1000000002)) fun (x26 : Int32) (V27 : gV) => some (x26, V27))) fun J14 => if 99 < x6 then (J14 V5) else (gbi (fX8_twice V5) fun (x29 : Int32) (V30 : gV) => if x29 = 0 then (gbv (fX8_oneDay V30) fun (V32 : gV) => B7 V32 ((x6 + 1))) else (J14 V30))
noncomputable def fX8_clash_L1 (a1 : Int32) : Nat → gV → Int32 → Option (Int32 × gV)
  | 0 => fun _ _ => none
  | n + 1 => fX8_clash_L1b a1 (fX8_clash_L1 a1 n)
noncomputable def fX8_clash (V : gV) (a1 : Int32) : Option (Int32 × gV) := gbi (fX8_in V a1 0 1) fun (x1 : Int32) (V2 : gV) => if x1 = 0 then (gbi (fX8_errs V2 (-1000000001)) fun (x33 : Int32) (V34 : gV) => some (x33, V34)) else (gbv (fX8_moveAll V2 (0 + 1) 264 (0 + 3) 264) fun (V4 : gV) => fX8_clash_L1 a1 gFu V4 0)
set_option maxHeartbeats 4000000 in
set_option maxRecDepth 100000 in
theorem uX8_clash (l : Launch) (G : gG) (hG : gIsM G) (V : gV) (a1 : Int32) : gMi l G yX8_clash cX8_clash 5 Jvm.ClassFile.FieldType.int (gR 71 1692) [.ref (G.1 0), .int a1] V (fX8_clash V a1) := by
  unfold fX8_clash
  refine gM_i (by decide +kernel) rfl rfl (Nat.le_of_ble_eq_true rfl) (fun X rr VV C E => ?_)
  change gC cX8_clash 5 RX8 G X at C
  change gSm l (gR 71 1692) 5 G X _ (rr, VV) V 0 [(0, .ref (G.1 0)), (1, .int a1)] []
  refine s_iload_n (q := 1) C 1 dX8_clash_0 rfl rfl rfl ?_
  refine s_iconst (q := 2) (v := 0) C dX8_clash_1 rfl (by decide) ?_
  refine s_iconst (q := 3) (v := 1) C dX8_clash_2 rfl (by decide) ?_
  refine s_Si (q := 6) (As := [.int a1, .int 0, .int 1]) (st := []) C (uX8_in l G hG V a1 0 1) ysX8_in mlX8_44 rfl rfl rfl rfl (gR_le (by decide) (by decide)) (Nat.le_of_ble_eq_true rfl) dX8_clash_3 rfl (fun x1 V2 => ?_)
  refine s_if_ne (tgt := 16) (q := 9) C dX8_clash_6 (by decide) rfl (fun c3 => ?_) (fun c3 => ?_)
  · refine s_aload_n (q := 10) C 0 dX8_clash_9 rfl rfl rfl ?_
    refine s_ldc (q := 12) (v := (-1000000001)) C dX8_clash_10 rfl kX8_48 ?_
    refine s_Vi (q := 15) (As := [.int (-1000000001)]) (st := []) C (uX8_errs l G hG V2 (-1000000001)) yvX8_errs mlX8_49 (s80 hG) rfl rfl rfl rfl rfl rfl (gR_le (by decide) (by decide)) (Nat.le_of_ble_eq_true rfl) dX8_clash_12 rfl (fun x33 V34 => ?_)
    exact s_iret C E dX8_clash_15
  · refine s_aload_n (q := 17) C 0 dX8_clash_16 rfl rfl rfl ?_
    refine s_aload_n (q := 18) C 0 dX8_clash_17 rfl rfl rfl ?_
    refine geX8_0 (q := 21) C (s80 hG) flX8_7 dX8_clash_18 rfl ?_
    refine s_aload_n (q := 22) C 0 dX8_clash_21 rfl rfl rfl ?_
    refine geX8_2 (q := 25) C (s80 hG) flX8_16 dX8_clash_22 rfl ?_
    refine s_Vv (q := 28) (As := [.ref (G.1 (0 + 1)), .ref (G.1 (0 + 3))]) (st := []) C (uX8_moveAll l G hG V2 (0 + 1) 264 (0 + 3) 264 (qX8_0 hG) (qX8_2 hG) (mX8_2 hG)) yvX8_moveAll mlX8_171 (s80 hG) rfl rfl rfl rfl rfl rfl (gR_le (by decide) (by decide)) (Nat.le_of_ble_eq_true rfl) dX8_clash_25 rfl (fun V4 => ?_)
    refine s_iconst (q := 29) (v := 0) C dX8_clash_28 rfl (by decide) ?_
    refine s_istore_n (q := 30) (L' := [(2, .int 0), (0, .ref (G.1 0)), (1, .int a1)]) C dX8_clash_29 rfl rfl (by decide) rfl ?_
    have hL1 : ∀ (n : Nat) (V5 : gV) (x6 : Int32), gSm l (gR 71 1692) 5 G X (fX8_clash_L1 a1 n V5 x6) (rr, VV) V5 30 [(0, .ref (G.1 0)), (1, .int a1), (2, .int x6)] [] := by
      intro n
      induction n with
      | zero => exact fun V5 x6 => s_none
      | succ n ih =>
        intro V5 x6
        show gSm l (gR 71 1692) 5 G X (fX8_clash_L1b a1 (fX8_clash_L1 a1 n) V5 x6) (rr, VV) V5 30 [(0, .ref (G.1 0)), (1, .int a1), (2, .int x6)] []
        generalize fX8_clash_L1 a1 n = B7 at ih ⊢
        have hB7 := ih
        unfold fX8_clash_L1b
        refine s_iload_n (q := 31) C 2 dX8_clash_30 rfl rfl rfl ?_
        refine s_bipush (q := 33) (v := 99) C dX8_clash_31 rfl (by decide) ?_
        refine s_jn (fun J14 => ∀ (V13 : gV), gSm l (gR 71 1692) 5 G X (J14 V13) (rr, VV) V13 53 [(0, .ref (G.1 0)), (1, .int a1), (2, .int x6)] []) ?_ (fun J14 hJ14 => ?_)
        · intro V13
          refine s_aload_n (q := 54) C 0 dX8_clash_53 rfl rfl rfl ?_
          refine s_Vi (q := 57) (As := []) (st := []) C (uX8_twice l G hG V13) yvX8_twice mlX8_200 (s80 hG) rfl rfl rfl rfl rfl rfl (gR_le (by decide) (by decide)) (Nat.le_of_ble_eq_true rfl) dX8_clash_54 rfl (fun x15 V16 => ?_)
          refine s_istore_n (q := 58) (L' := [(3, .int x15), (0, .ref (G.1 0)), (1, .int a1), (2, .int x6)]) C dX8_clash_57 rfl rfl (by decide) rfl ?_
          refine s_aload_n (q := 59) C 1 dX8_clash_58 rfl rfl rfl ?_
          refine s_aload_n (q := 60) C 1 dX8_clash_59 rfl rfl rfl ?_
          refine geX8_2 (q := 63) C (s80 hG) flX8_16 dX8_clash_60 rfl ?_
          refine s_aload_n (q := 64) C 1 dX8_clash_63 rfl rfl rfl ?_
          refine geX8_0 (q := 67) C (s80 hG) flX8_7 dX8_clash_64 rfl ?_
          refine s_Vv (q := 70) (As := [.ref (G.1 (0 + 3)), .ref (G.1 (0 + 1))]) (st := []) C (uX8_moveAll l G hG V16 (0 + 3) 264 (0 + 1) 264 (qX8_2 hG) (qX8_0 hG) (mX8_0 hG)) yvX8_moveAll mlX8_171 (s80 hG) rfl rfl rfl rfl rfl rfl (gR_le (by decide) (by decide)) (Nat.le_of_ble_eq_true rfl) dX8_clash_67 rfl (fun V17 => ?_)
          refine s_iload_n (q := 71) C 3 dX8_clash_70 rfl rfl rfl ?_
          refine s_bipush (q := 73) (v := 99) C dX8_clash_71 rfl (by decide) ?_
          refine s_icmp_le (tgt := 83) (q := 76) C dX8_clash_73 (by decide) rfl (fun c18 => ?_) (fun c18 => ?_)
          · refine s_iconst (q := 84) (v := 0) C dX8_clash_83 rfl (by decide) ?_
            refine s_istore (q := 86) (L' := [(4, .int 0), (3, .int x15), (0, .ref (G.1 0)), (1, .int a1), (2, .int x6)]) C dX8_clash_84 rfl (by decide) rfl ?_
            have hL2 : ∀ (n : Nat) (V19 : gV) (x20 : Int32), gSm l (gR 71 1692) 5 G X (fX8_clash_L2 a1 x6 x15 n V19 x20) (rr, VV) V19 86 [(1, .int a1), (2, .int x6), (3, .int x15), (4, .int x20)] [] := by
              intro n
              induction n with
              | zero => exact fun V19 x20 => s_none
              | succ n ih =>
                intro V19 x20
                show gSm l (gR 71 1692) 5 G X (fX8_clash_L2b a1 x6 x15 (fX8_clash_L2 a1 x6 x15 n) V19 x20) (rr, VV) V19 86 [(1, .int a1), (2, .int x6), (3, .int x15), (4, .int x20)] []
                generalize fX8_clash_L2 a1 x6 x15 n = B21 at ih ⊢
                have hB21 := ih
                unfold fX8_clash_L2b
                refine s_iload_n (q := 87) C 2 dX8_clash_86 rfl rfl rfl ?_
                refine s_iload (q := 89) C 3 dX8_clash_87 rfl rfl ?_
                refine s_Si (q := 92) (As := [.int x15, .int x20]) (st := []) C (uX8_has l G hG V19 x15 x20) ysX8_has mlX8_189 rfl rfl rfl rfl (gR_le (by decide) (by decide)) (Nat.le_of_ble_eq_true rfl) dX8_clash_89 rfl (fun x22 V23 => ?_)
                refine s_if_ne (tgt := 101) (q := 95) C dX8_clash_92 (by decide) rfl (fun c24 => ?_) (fun c24 => ?_)
                · refine s_iinc (q := 98) (w := 1) (L' := [(4, .int (x20 + 1)), (1, .int a1), (2, .int x6), (3, .int x15)]) C 3 dX8_clash_95 rfl rfl (by decide) rfl (by decide) rfl ?_
                  refine s_goto (q := 86) C dX8_clash_98 (by decide) ?_
                  refine s_sub [1, 2, 3, 0] rfl ?_
                  exact hB21 V23 ((x20 + 1))
                · refine s_iload_n (q := 102) C 0 dX8_clash_101 rfl rfl rfl ?_
                  refine s_if_ne (tgt := 109) (q := 105) C dX8_clash_102 (by decide) rfl (fun c25 => ?_) (fun c25 => ?_)
                  · refine s_iload_n (q := 106) C 1 dX8_clash_105 rfl rfl rfl ?_
                    refine s_goto (q := 111) C dX8_clash_106 (by decide) ?_
                    exact s_iret C E dX8_clash_111
                  · refine s_iload (q := 111) C 3 dX8_clash_109 rfl rfl ?_
                    exact s_iret C E dX8_clash_111
            refine s_sub [3, 4, 1, 0] rfl ?_
            exact hL2 gFu V17 0
          · refine s_aload_n (q := 77) C 1 dX8_clash_76 rfl rfl rfl ?_
            refine s_ldc (q := 79) (v := (-1000000002)) C dX8_clash_77 rfl kX8_199 ?_
            refine s_Vi (q := 82) (As := [.int (-1000000002)]) (st := []) C (uX8_errs l G hG V17 (-1000000002)) yvX8_errs mlX8_49 (s80 hG) rfl rfl rfl rfl rfl rfl (gR_le (by decide) (by decide)) (Nat.le_of_ble_eq_true rfl) dX8_clash_79 rfl (fun x26 V27 => ?_)
            exact s_iret C E dX8_clash_82
        · refine s_icmp_gt (tgt := 53) (q := 36) C dX8_clash_33 (by decide) rfl (fun c28 => ?_) (fun c28 => ?_)
          · refine s_sub [0, 1, 2] rfl ?_
            exact hJ14 V5
          · refine s_aload_n (q := 37) C 0 dX8_clash_36 rfl rfl rfl ?_
            refine s_Vi (q := 40) (As := []) (st := []) C (uX8_twice l G hG V5) yvX8_twice mlX8_200 (s80 hG) rfl rfl rfl rfl rfl rfl (gR_le (by decide) (by decide)) (Nat.le_of_ble_eq_true rfl) dX8_clash_37 rfl (fun x29 V30 => ?_)
            refine s_if_ne (tgt := 53) (q := 43) C dX8_clash_40 (by decide) rfl (fun c31 => ?_) (fun c31 => ?_)
            · refine s_aload_n (q := 44) C 0 dX8_clash_43 rfl rfl rfl ?_
              refine s_Vv (q := 47) (As := []) (st := []) C (uX8_oneDay l G hG V30) yvX8_oneDay mlX8_175 (s80 hG) rfl rfl rfl rfl rfl rfl (gR_le (by decide) (by decide)) (Nat.le_of_ble_eq_true rfl) dX8_clash_44 rfl (fun V32 => ?_)
              refine s_iinc (q := 50) (w := 1) (L' := [(2, .int (x6 + 1)), (0, .ref (G.1 0)), (1, .int a1)]) C 2 dX8_clash_47 rfl rfl (by decide) rfl (by decide) rfl ?_
              refine s_goto (q := 30) C dX8_clash_50 (by decide) ?_
              refine s_sub [1, 2, 0] rfl ?_
              exact hB7 V32 ((x6 + 1))
            · refine s_sub [0, 1, 2] rfl ?_
              exact hJ14 V30
    refine s_sub [1, 2, 0] rfl ?_
    exact hL1 gFu V4 0
noncomputable def fX8_isInSoon_L1b (a1 : Int32) (a2 : Int32) (a3 : Int32) (B4 : gV → Int32 → Int32 → Option (Int32 × gV)) (V1 : gV) (x2 : Int32) (x3 : Int32) : Option (Int32 × gV) := if a3 ≤ x3 then (gzb x2 (some (x2, V1))) else (if x2 = 0 then (gbi (fX8_housesOf V1 a1) fun (x7 : Int32) (V8 : gV) => if (x7 &&& a2) = 0 then (gbv (fX8_oneDay V8) fun (V10 : gV) => B4 V10 0 ((x3 + 1))) else (gbv (fX8_oneDay V8) fun (V11 : gV) => B4 V11 1 ((x3 + 1)))) else (gzb x2 (some (x2, V1))))
noncomputable def fX8_isInSoon_L1 (a1 : Int32) (a2 : Int32) (a3 : Int32) : Nat → gV → Int32 → Int32 → Option (Int32 × gV)
  | 0 => fun _ _ _ => none
  | n + 1 => fX8_isInSoon_L1b a1 a2 a3 (fX8_isInSoon_L1 a1 a2 a3 n)
noncomputable def fX8_isInSoon (V : gV) (a1 : Int32) (a2 : Int32) (a3 : Int32) : Option (Int32 × gV) := fX8_isInSoon_L1 a1 a2 a3 gFu V 0 0
set_option maxHeartbeats 4000000 in
set_option maxRecDepth 100000 in
theorem uX8_isInSoon (l : Launch) (G : gG) (hG : gIsM G) (V : gV) (a1 : Int32) (a2 : Int32) (a3 : Int32) : gMi l G yX8_isInSoon cX8_isInSoon 6 Jvm.ClassFile.FieldType.boolean (gR 71 1691) [.ref (G.1 0), .int a1, .int a2, .int a3] V (fX8_isInSoon V a1 a2 a3) := by
  unfold fX8_isInSoon
  refine gM_i (by decide +kernel) rfl rfl (Nat.le_of_ble_eq_true rfl) (fun X rr VV C E => ?_)
  change gC cX8_isInSoon 6 RX8 G X at C
  change gSm l (gR 71 1691) 6 G X _ (rr, VV) V 0 [(0, .ref (G.1 0)), (1, .int a1), (2, .int a2), (3, .int a3)] []
  refine s_iconst (q := 1) (v := 0) C dX8_isInSoon_0 rfl (by decide) ?_
  refine s_istore (q := 3) (L' := [(4, .int 0), (0, .ref (G.1 0)), (1, .int a1), (2, .int a2), (3, .int a3)]) C dX8_isInSoon_1 rfl (by decide) rfl ?_
  refine s_iconst (q := 4) (v := 0) C dX8_isInSoon_3 rfl (by decide) ?_
  refine s_istore (q := 6) (L' := [(5, .int 0), (4, .int 0), (0, .ref (G.1 0)), (1, .int a1), (2, .int a2), (3, .int a3)]) C dX8_isInSoon_4 rfl (by decide) rfl ?_
  have hL1 : ∀ (n : Nat) (V1 : gV) (x2 : Int32) (x3 : Int32), gSm l (gR 71 1691) 6 G X (fX8_isInSoon_L1 a1 a2 a3 n V1 x2 x3) (rr, VV) V1 6 [(0, .ref (G.1 0)), (1, .int a1), (2, .int a2), (3, .int a3), (4, .int x2), (5, .int x3)] [] := by
    intro n
    induction n with
    | zero => exact fun V1 x2 x3 => s_none
    | succ n ih =>
      intro V1 x2 x3
      show gSm l (gR 71 1691) 6 G X (fX8_isInSoon_L1b a1 a2 a3 (fX8_isInSoon_L1 a1 a2 a3 n) V1 x2 x3) (rr, VV) V1 6 [(0, .ref (G.1 0)), (1, .int a1), (2, .int a2), (3, .int a3), (4, .int x2), (5, .int x3)] []
      generalize fX8_isInSoon_L1 a1 a2 a3 n = B4 at ih ⊢
      have hB4 := ih
      unfold fX8_isInSoon_L1b
      refine s_iload (q := 8) C 5 dX8_isInSoon_6 rfl rfl ?_
      refine s_iload_n (q := 9) C 3 dX8_isInSoon_8 rfl rfl rfl ?_
      refine s_icmp_ge (tgt := 44) (q := 12) C dX8_isInSoon_9 (by decide) rfl (fun c5 => ?_) (fun c5 => ?_)
      · refine s_iload (q := 46) C 4 dX8_isInSoon_44 rfl rfl ?_
        exact s_zret2 C E dX8_isInSoon_46
      · refine s_iload (q := 14) C 4 dX8_isInSoon_12 rfl rfl ?_
        refine s_if_ne (tgt := 44) (q := 17) C dX8_isInSoon_14 (by decide) rfl (fun c6 => ?_) (fun c6 => ?_)
        · refine s_aload_n (q := 18) C 0 dX8_isInSoon_17 rfl rfl rfl ?_
          refine s_iload_n (q := 19) C 1 dX8_isInSoon_18 rfl rfl rfl ?_
          refine s_Vi (q := 22) (As := [.int a1]) (st := []) C (uX8_housesOf l G hG V1 a1) yvX8_housesOf mlX8_196 (s80 hG) rfl rfl rfl rfl rfl rfl (gR_le (by decide) (by decide)) (Nat.le_of_ble_eq_true rfl) dX8_isInSoon_19 rfl (fun x7 V8 => ?_)
          refine s_iload_n (q := 23) C 2 dX8_isInSoon_22 rfl rfl rfl ?_
          refine s_iand (q := 24) C dX8_isInSoon_23 rfl ?_
          refine s_if_eq (tgt := 31) (q := 27) C dX8_isInSoon_24 (by decide) rfl (fun c9 => ?_) (fun c9 => ?_)
          · refine s_iconst (q := 32) (v := 0) C dX8_isInSoon_31 rfl (by decide) ?_
            refine s_istore (q := 34) (L' := [(4, .int 0), (0, .ref (G.1 0)), (1, .int a1), (2, .int a2), (3, .int a3), (5, .int x3)]) C dX8_isInSoon_32 rfl (by decide) rfl ?_
            refine s_aload_n (q := 35) C 1 dX8_isInSoon_34 rfl rfl rfl ?_
            refine s_Vv (q := 38) (As := []) (st := []) C (uX8_oneDay l G hG V8) yvX8_oneDay mlX8_175 (s80 hG) rfl rfl rfl rfl rfl rfl (gR_le (by decide) (by decide)) (Nat.le_of_ble_eq_true rfl) dX8_isInSoon_35 rfl (fun V10 => ?_)
            refine s_iinc (q := 41) (w := 1) (L' := [(5, .int (x3 + 1)), (4, .int 0), (0, .ref (G.1 0)), (1, .int a1), (2, .int a2), (3, .int a3)]) C 5 dX8_isInSoon_38 rfl rfl (by decide) rfl (by decide) rfl ?_
            refine s_goto (q := 6) C dX8_isInSoon_41 (by decide) ?_
            refine s_sub [2, 3, 4, 5, 1, 0] rfl ?_
            exact hB4 V10 0 ((x3 + 1))
          · refine s_iconst (q := 28) (v := 1) C dX8_isInSoon_27 rfl (by decide) ?_
            refine s_goto (q := 32) C dX8_isInSoon_28 (by decide) ?_
            refine s_istore (q := 34) (L' := [(4, .int 1), (0, .ref (G.1 0)), (1, .int a1), (2, .int a2), (3, .int a3), (5, .int x3)]) C dX8_isInSoon_32 rfl (by decide) rfl ?_
            refine s_aload_n (q := 35) C 1 dX8_isInSoon_34 rfl rfl rfl ?_
            refine s_Vv (q := 38) (As := []) (st := []) C (uX8_oneDay l G hG V8) yvX8_oneDay mlX8_175 (s80 hG) rfl rfl rfl rfl rfl rfl (gR_le (by decide) (by decide)) (Nat.le_of_ble_eq_true rfl) dX8_isInSoon_35 rfl (fun V11 => ?_)
            refine s_iinc (q := 41) (w := 1) (L' := [(5, .int (x3 + 1)), (4, .int 1), (0, .ref (G.1 0)), (1, .int a1), (2, .int a2), (3, .int a3)]) C 5 dX8_isInSoon_38 rfl rfl (by decide) rfl (by decide) rfl ?_
            refine s_goto (q := 6) C dX8_isInSoon_41 (by decide) ?_
            refine s_sub [2, 3, 4, 5, 1, 0] rfl ?_
            exact hB4 V11 1 ((x3 + 1))
        · refine s_iload (q := 46) C 4 dX8_isInSoon_44 rfl rfl ?_
          exact s_zret2 C E dX8_isInSoon_46
  refine s_sub [2, 3, 4, 5, 1, 0] rfl ?_
  exact hL1 gFu V 0 0
noncomputable def fX8_spares_L2b (a1 : Int32) (a2 : Int32) (x11 : Int32) (x12 : Int32) (B13 : gV → Int32 → Int32 → Option (Int32 × gV)) (B22 : gV → Int32 → Option (Int32 × gV)) (V20 : gV) (x21 : Int32) : Option (Int32 × gV) := gal V20 (0 + 1) 2 264 fun (x23 : Int32) => if x23 ≤ x21 then (gbi (fX8_isInSoon V20 a1 15 a2) fun (x25 : Int32) (V26 : gV) => gjn (fun (x28 : Int32) => gbv (fX8_moveAll V26 (0 + 3) 264 (0 + 1) 264) fun (V30 : gV) => B13 V30 x28 ((x12 + 1))) fun J29 => if x25 = 0 then (J29 x12) else (J29 x11)) else (gbi (fX8_has V20 x12 x21) fun (x32 : Int32) (V33 : gV) => if x32 = 0 then (gal V33 (0 + 1) (8 + (2 * x21)) 264 fun (x35 : Int32) => gas V33 (0 + 1) (8 + (2 * x21)) 264 x35 fun (V36 : gV) => B22 V36 ((x21 + 1))) else (gas V33 (0 + 1) (8 + (2 * x21)) 264 0 fun (V37 : gV) => B22 V37 ((x21 + 1))))
noncomputable def fX8_spares_L2 (a1 : Int32) (a2 : Int32) (x11 : Int32) (x12 : Int32) (B13 : gV → Int32 → Int32 → Option (Int32 × gV)) : Nat → gV → Int32 → Option (Int32 × gV)
  | 0 => fun _ _ => none
  | n + 1 => fX8_spares_L2b a1 a2 x11 x12 B13 (fX8_spares_L2 a1 a2 x11 x12 B13 n)
noncomputable def fX8_spares_L3b (a1 : Int32) (a2 : Int32) (x11 : Int32) (x12 : Int32) (B13 : gV → Int32 → Int32 → Option (Int32 × gV)) (B45 : gV → Int32 → Option (Int32 × gV)) (V43 : gV) (x44 : Int32) : Option (Int32 × gV) := gal V43 (0 + 1) 2 264 fun (x46 : Int32) => if x46 ≤ x44 then (gbi (fX8_isInSoon V43 a1 15 a2) fun (x48 : Int32) (V49 : gV) => gjn (fun (x51 : Int32) => gbv (fX8_moveAll V49 (0 + 3) 264 (0 + 1) 264) fun (V53 : gV) => B13 V53 x51 ((x12 + 1))) fun J52 => if x48 = 0 then (J52 x12) else (J52 x11)) else (gbi (fX8_has V43 x12 x44) fun (x55 : Int32) (V56 : gV) => if x55 = 0 then (gal V56 (0 + 1) (8 + (2 * x44)) 264 fun (x58 : Int32) => gas V56 (0 + 1) (8 + (2 * x44)) 264 x58 fun (V59 : gV) => B45 V59 ((x44 + 1))) else (gas V56 (0 + 1) (8 + (2 * x44)) 264 0 fun (V60 : gV) => B45 V60 ((x44 + 1))))
noncomputable def fX8_spares_L3 (a1 : Int32) (a2 : Int32) (x11 : Int32) (x12 : Int32) (B13 : gV → Int32 → Int32 → Option (Int32 × gV)) : Nat → gV → Int32 → Option (Int32 × gV)
  | 0 => fun _ _ => none
  | n + 1 => fX8_spares_L3b a1 a2 x11 x12 B13 (fX8_spares_L3 a1 a2 x11 x12 B13 n)
noncomputable def fX8_spares_L1b (a1 : Int32) (a2 : Int32) (B13 : gV → Int32 → Int32 → Option (Int32 × gV)) (V10 : gV) (x11 : Int32) (x12 : Int32) : Option (Int32 × gV) := gal V10 (0 + 1) 2 264 fun (x14 : Int32) => if (1 <<< (x14 &&& 31)) ≤ x12 then (if 0 ≤ x11 then (some (x11, V10)) else (gbi (fX8_errs V10 (-1000000002)) fun (x17 : Int32) (V18 : gV) => some (x17, V18))) else (if x11 < 0 then (fX8_spares_L2 a1 a2 x11 x12 B13 gFu V10 0) else (gbi (fX8_bits V10 x12) fun (x38 : Int32) (V39 : gV) => gbi (fX8_bits V39 x11) fun (x40 : Int32) (V41 : gV) => if x40 ≤ x38 then (B13 V41 x11 ((x12 + 1))) else (fX8_spares_L3 a1 a2 x11 x12 B13 gFu V41 0)))
noncomputable def fX8_spares_L1 (a1 : Int32) (a2 : Int32) : Nat → gV → Int32 → Int32 → Option (Int32 × gV)
  | 0 => fun _ _ _ => none
  | n + 1 => fX8_spares_L1b a1 a2 (fX8_spares_L1 a1 a2 n)
noncomputable def fX8_spares (V : gV) (a1 : Int32) (a2 : Int32) : Option (Int32 × gV) := gbi (fX8_isGuest V a1) fun (x1 : Int32) (V2 : gV) => if x1 = 0 then (gbi (fX8_errs V2 (-1000000001)) fun (x4 : Int32) (V5 : gV) => some (x4, V5)) else (gbi (fX8_in V2 a2 0 30) fun (x6 : Int32) (V7 : gV) => if x6 = 0 then (gbi (fX8_errs V7 (-1000000001)) fun (x61 : Int32) (V62 : gV) => some (x61, V62)) else (gbv (fX8_moveAll V7 (0 + 1) 264 (0 + 3) 264) fun (V9 : gV) => fX8_spares_L1 a1 a2 gFu V9 (-1) 0))
set_option maxHeartbeats 4000000 in
set_option maxRecDepth 100000 in
theorem uX8_spares (l : Launch) (G : gG) (hG : gIsM G) (V : gV) (a1 : Int32) (a2 : Int32) : gMi l G yX8_spares cX8_spares 6 Jvm.ClassFile.FieldType.int (gR 72 1716) [.ref (G.1 0), .int a1, .int a2] V (fX8_spares V a1 a2) := by
  unfold fX8_spares
  refine gM_i (by decide +kernel) rfl rfl (Nat.le_of_ble_eq_true rfl) (fun X rr VV C E => ?_)
  change gC cX8_spares 6 RX8 G X at C
  change gSm l (gR 72 1716) 6 G X _ (rr, VV) V 0 [(0, .ref (G.1 0)), (1, .int a1), (2, .int a2)] []
  refine s_iload_n (q := 1) C 1 dX8_spares_0 rfl rfl rfl ?_
  refine s_Si (q := 4) (As := [.int a1]) (st := []) C (uX8_isGuest l G hG V a1) ysX8_isGuest mlX8_193 rfl rfl rfl rfl (gR_le (by decide) (by decide)) (Nat.le_of_ble_eq_true rfl) dX8_spares_1 rfl (fun x1 V2 => ?_)
  refine s_if_eq (tgt := 17) (q := 7) C dX8_spares_4 (by decide) rfl (fun c3 => ?_) (fun c3 => ?_)
  · refine s_aload_n (q := 18) C 0 dX8_spares_17 rfl rfl rfl ?_
    refine s_ldc (q := 20) (v := (-1000000001)) C dX8_spares_18 rfl kX8_48 ?_
    refine s_Vi (q := 23) (As := [.int (-1000000001)]) (st := []) C (uX8_errs l G hG V2 (-1000000001)) yvX8_errs mlX8_49 (s80 hG) rfl rfl rfl rfl rfl rfl (gR_le (by decide) (by decide)) (Nat.le_of_ble_eq_true rfl) dX8_spares_20 rfl (fun x4 V5 => ?_)
    exact s_iret C E dX8_spares_23
  · refine s_iload_n (q := 8) C 2 dX8_spares_7 rfl rfl rfl ?_
    refine s_iconst (q := 9) (v := 0) C dX8_spares_8 rfl (by decide) ?_
    refine s_bipush (q := 11) (v := 30) C dX8_spares_9 rfl (by decide) ?_
    refine s_Si (q := 14) (As := [.int a2, .int 0, .int 30]) (st := []) C (uX8_in l G hG V2 a2 0 30) ysX8_in mlX8_44 rfl rfl rfl rfl (gR_le (by decide) (by decide)) (Nat.le_of_ble_eq_true rfl) dX8_spares_11 rfl (fun x6 V7 => ?_)
    refine s_if_ne (tgt := 24) (q := 17) C dX8_spares_14 (by decide) rfl (fun c8 => ?_) (fun c8 => ?_)
    · refine s_aload_n (q := 18) C 0 dX8_spares_17 rfl rfl rfl ?_
      refine s_ldc (q := 20) (v := (-1000000001)) C dX8_spares_18 rfl kX8_48 ?_
      refine s_Vi (q := 23) (As := [.int (-1000000001)]) (st := []) C (uX8_errs l G hG V7 (-1000000001)) yvX8_errs mlX8_49 (s80 hG) rfl rfl rfl rfl rfl rfl (gR_le (by decide) (by decide)) (Nat.le_of_ble_eq_true rfl) dX8_spares_20 rfl (fun x61 V62 => ?_)
      exact s_iret C E dX8_spares_23
    · refine s_iconst (q := 25) (v := (-1)) C dX8_spares_24 rfl (by decide) ?_
      refine s_istore_n (q := 26) (L' := [(3, .int (-1)), (0, .ref (G.1 0)), (1, .int a1), (2, .int a2)]) C dX8_spares_25 rfl rfl (by decide) rfl ?_
      refine s_aload_n (q := 27) C 1 dX8_spares_26 rfl rfl rfl ?_
      refine s_aload_n (q := 28) C 1 dX8_spares_27 rfl rfl rfl ?_
      refine geX8_0 (q := 31) C (s80 hG) flX8_7 dX8_spares_28 rfl ?_
      refine s_aload_n (q := 32) C 1 dX8_spares_31 rfl rfl rfl ?_
      refine geX8_2 (q := 35) C (s80 hG) flX8_16 dX8_spares_32 rfl ?_
      refine s_Vv (q := 38) (As := [.ref (G.1 (0 + 1)), .ref (G.1 (0 + 3))]) (st := []) C (uX8_moveAll l G hG V7 (0 + 1) 264 (0 + 3) 264 (qX8_0 hG) (qX8_2 hG) (mX8_2 hG)) yvX8_moveAll mlX8_171 (s80 hG) rfl rfl rfl rfl rfl rfl (gR_le (by decide) (by decide)) (Nat.le_of_ble_eq_true rfl) dX8_spares_35 rfl (fun V9 => ?_)
      refine s_iconst (q := 39) (v := 0) C dX8_spares_38 rfl (by decide) ?_
      refine s_istore (q := 41) (L' := [(4, .int 0), (3, .int (-1)), (0, .ref (G.1 0)), (1, .int a1), (2, .int a2)]) C dX8_spares_39 rfl (by decide) rfl ?_
      have hL1 : ∀ (n : Nat) (V10 : gV) (x11 : Int32) (x12 : Int32), gSm l (gR 72 1716) 6 G X (fX8_spares_L1 a1 a2 n V10 x11 x12) (rr, VV) V10 41 [(0, .ref (G.1 0)), (1, .int a1), (2, .int a2), (3, .int x11), (4, .int x12)] [] := by
        intro n
        induction n with
        | zero => exact fun V10 x11 x12 => s_none
        | succ n ih =>
          intro V10 x11 x12
          show gSm l (gR 72 1716) 6 G X (fX8_spares_L1b a1 a2 (fX8_spares_L1 a1 a2 n) V10 x11 x12) (rr, VV) V10 41 [(0, .ref (G.1 0)), (1, .int a1), (2, .int a2), (3, .int x11), (4, .int x12)] []
          generalize fX8_spares_L1 a1 a2 n = B13 at ih ⊢
          have hB13 := ih
          unfold fX8_spares_L1b
          refine s_iload (q := 43) C 4 dX8_spares_41 rfl rfl ?_
          refine s_iconst (q := 44) (v := 1) C dX8_spares_43 rfl (by decide) ?_
          refine s_aload_n (q := 45) C 0 dX8_spares_44 rfl rfl rfl ?_
          refine geX8_0 (q := 48) C (s80 hG) flX8_7 dX8_spares_45 rfl ?_
          refine s_iconst (q := 49) (v := 2) C dX8_spares_48 rfl (by decide) ?_
          refine s_iald (q := 50) C (qX8_0 hG) dX8_spares_49 rfl (fun x14 => ?_)
          refine s_ishl (q := 51) C dX8_spares_50 rfl ?_
          refine s_icmp_ge (tgt := 164) (q := 54) C dX8_spares_51 (by decide) rfl (fun c15 => ?_) (fun c15 => ?_)
          · refine s_iload_n (q := 165) C 3 dX8_spares_164 rfl rfl rfl ?_
            refine s_if_ge (tgt := 177) (q := 168) C dX8_spares_165 (by decide) rfl (fun c16 => ?_) (fun c16 => ?_)
            · refine s_iload_n (q := 178) C 3 dX8_spares_177 rfl rfl rfl ?_
              exact s_iret C E dX8_spares_178
            · refine s_aload_n (q := 169) C 0 dX8_spares_168 rfl rfl rfl ?_
              refine s_ldc (q := 171) (v := (-1000000002)) C dX8_spares_169 rfl kX8_199 ?_
              refine s_Vi (q := 174) (As := [.int (-1000000002)]) (st := []) C (uX8_errs l G hG V10 (-1000000002)) yvX8_errs mlX8_49 (s80 hG) rfl rfl rfl rfl rfl rfl (gR_le (by decide) (by decide)) (Nat.le_of_ble_eq_true rfl) dX8_spares_171 rfl (fun x17 V18 => ?_)
              refine s_goto (q := 178) C dX8_spares_174 (by decide) ?_
              exact s_iret C E dX8_spares_178
          · refine s_iload_n (q := 55) C 3 dX8_spares_54 rfl rfl rfl ?_
            refine s_if_lt (tgt := 70) (q := 58) C dX8_spares_55 (by decide) rfl (fun c19 => ?_) (fun c19 => ?_)
            · refine s_iconst (q := 71) (v := 0) C dX8_spares_70 rfl (by decide) ?_
              refine s_istore (q := 73) (L' := [(5, .int 0), (0, .ref (G.1 0)), (1, .int a1), (2, .int a2), (3, .int x11), (4, .int x12)]) C dX8_spares_71 rfl (by decide) rfl ?_
              have hL2 : ∀ (n : Nat) (V20 : gV) (x21 : Int32), gSm l (gR 72 1716) 6 G X (fX8_spares_L2 a1 a2 x11 x12 B13 n V20 x21) (rr, VV) V20 73 [(0, .ref (G.1 0)), (1, .int a1), (2, .int a2), (3, .int x11), (4, .int x12), (5, .int x21)] [] := by
                intro n
                induction n with
                | zero => exact fun V20 x21 => s_none
                | succ n ih =>
                  intro V20 x21
                  show gSm l (gR 72 1716) 6 G X (fX8_spares_L2b a1 a2 x11 x12 B13 (fX8_spares_L2 a1 a2 x11 x12 B13 n) V20 x21) (rr, VV) V20 73 [(0, .ref (G.1 0)), (1, .int a1), (2, .int a2), (3, .int x11), (4, .int x12), (5, .int x21)] []
                  generalize fX8_spares_L2 a1 a2 x11 x12 B13 n = B22 at ih ⊢
                  have hB22 := ih
                  unfold fX8_spares_L2b
                  refine s_iload (q := 75) C 5 dX8_spares_73 rfl rfl ?_
                  refine s_aload_n (q := 76) C 0 dX8_spares_75 rfl rfl rfl ?_
                  refine geX8_0 (q := 79) C (s80 hG) flX8_7 dX8_spares_76 rfl ?_
                  refine s_iconst (q := 80) (v := 2) C dX8_spares_79 rfl (by decide) ?_
                  refine s_iald (q := 81) C (qX8_0 hG) dX8_spares_80 rfl (fun x23 => ?_)
                  refine s_icmp_ge (tgt := 128) (q := 84) C dX8_spares_81 (by decide) rfl (fun c24 => ?_) (fun c24 => ?_)
                  · refine s_aload_n (q := 129) C 0 dX8_spares_128 rfl rfl rfl ?_
                    refine s_iload_n (q := 130) C 1 dX8_spares_129 rfl rfl rfl ?_
                    refine s_bipush (q := 132) (v := 15) C dX8_spares_130 rfl (by decide) ?_
                    refine s_iload_n (q := 133) C 2 dX8_spares_132 rfl rfl rfl ?_
                    refine s_Vi (q := 136) (As := [.int a1, .int 15, .int a2]) (st := []) C (uX8_isInSoon l G hG V20 a1 15 a2) yvX8_isInSoon mlX8_206 (s80 hG) rfl rfl rfl rfl rfl rfl (gR_le (by decide) (by decide)) (Nat.le_of_ble_eq_true rfl) dX8_spares_133 rfl (fun x25 V26 => ?_)
                    refine s_jn (fun J29 => ∀ (x28 : Int32), gSm l (gR 72 1716) 6 G X (J29 x28) (rr, VV) V26 145 [(0, .ref (G.1 0)), (1, .int a1), (2, .int a2), (4, .int x12)] [.int x28]) ?_ (fun J29 hJ29 => ?_)
                    · intro x28
                      refine s_istore_n (q := 146) (L' := [(3, .int x28), (0, .ref (G.1 0)), (1, .int a1), (2, .int a2), (4, .int x12)]) C dX8_spares_145 rfl rfl (by decide) rfl ?_
                      refine s_aload_n (q := 147) C 1 dX8_spares_146 rfl rfl rfl ?_
                      refine s_aload_n (q := 148) C 1 dX8_spares_147 rfl rfl rfl ?_
                      refine geX8_2 (q := 151) C (s80 hG) flX8_16 dX8_spares_148 rfl ?_
                      refine s_aload_n (q := 152) C 1 dX8_spares_151 rfl rfl rfl ?_
                      refine geX8_0 (q := 155) C (s80 hG) flX8_7 dX8_spares_152 rfl ?_
                      refine s_Vv (q := 158) (As := [.ref (G.1 (0 + 3)), .ref (G.1 (0 + 1))]) (st := []) C (uX8_moveAll l G hG V26 (0 + 3) 264 (0 + 1) 264 (qX8_2 hG) (qX8_0 hG) (mX8_0 hG)) yvX8_moveAll mlX8_171 (s80 hG) rfl rfl rfl rfl rfl rfl (gR_le (by decide) (by decide)) (Nat.le_of_ble_eq_true rfl) dX8_spares_155 rfl (fun V30 => ?_)
                      refine s_iinc (q := 161) (w := 1) (L' := [(4, .int (x12 + 1)), (3, .int x28), (0, .ref (G.1 0)), (1, .int a1), (2, .int a2)]) C 4 dX8_spares_158 rfl rfl (by decide) rfl (by decide) rfl ?_
                      refine s_goto (q := 41) C dX8_spares_161 (by decide) ?_
                      refine s_sub [2, 3, 4, 1, 0] rfl ?_
                      exact hB13 V30 x28 ((x12 + 1))
                    · refine s_if_eq (tgt := 143) (q := 139) C dX8_spares_136 (by decide) rfl (fun c31 => ?_) (fun c31 => ?_)
                      · refine s_iload (q := 145) C 4 dX8_spares_143 rfl rfl ?_
                        refine s_sub [0, 1, 2, 4] rfl ?_
                        exact hJ29 x12
                      · refine s_iload_n (q := 140) C 3 dX8_spares_139 rfl rfl rfl ?_
                        refine s_goto (q := 145) C dX8_spares_140 (by decide) ?_
                        refine s_sub [0, 1, 2, 4] rfl ?_
                        exact hJ29 x11
                  · refine s_aload_n (q := 85) C 0 dX8_spares_84 rfl rfl rfl ?_
                    refine geX8_0 (q := 88) C (s80 hG) flX8_7 dX8_spares_85 rfl ?_
                    refine s_bipush (q := 90) (v := 8) C dX8_spares_88 rfl (by decide) ?_
                    refine s_iconst (q := 91) (v := 2) C dX8_spares_90 rfl (by decide) ?_
                    refine s_iload (q := 93) C 5 dX8_spares_91 rfl rfl ?_
                    refine s_imul (q := 94) C dX8_spares_93 rfl ?_
                    refine s_iadd (q := 95) C dX8_spares_94 rfl ?_
                    refine s_iload (q := 97) C 4 dX8_spares_95 rfl rfl ?_
                    refine s_iload (q := 99) C 5 dX8_spares_97 rfl rfl ?_
                    refine s_Si (q := 102) (As := [.int x12, .int x21]) (st := [.int (8 + (2 * x21)), .ref (G.1 (0 + 1))]) C (uX8_has l G hG V20 x12 x21) ysX8_has mlX8_189 rfl rfl rfl rfl (gR_le (by decide) (by decide)) (Nat.le_of_ble_eq_true rfl) dX8_spares_99 rfl (fun x32 V33 => ?_)
                    refine s_if_eq (tgt := 109) (q := 105) C dX8_spares_102 (by decide) rfl (fun c34 => ?_) (fun c34 => ?_)
                    · refine s_aload_n (q := 110) C 0 dX8_spares_109 rfl rfl rfl ?_
                      refine geX8_0 (q := 113) C (s80 hG) flX8_7 dX8_spares_110 rfl ?_
                      refine s_bipush (q := 115) (v := 8) C dX8_spares_113 rfl (by decide) ?_
                      refine s_iconst (q := 116) (v := 2) C dX8_spares_115 rfl (by decide) ?_
                      refine s_iload (q := 118) C 5 dX8_spares_116 rfl rfl ?_
                      refine s_imul (q := 119) C dX8_spares_118 rfl ?_
                      refine s_iadd (q := 120) C dX8_spares_119 rfl ?_
                      refine s_iald (q := 121) C (qX8_0 hG) dX8_spares_120 rfl (fun x35 => ?_)
                      refine s_iast (q := 122) C (qX8_0 hG) (mX8_0 hG) dX8_spares_121 rfl (fun V36 => ?_)
                      refine s_iinc (q := 125) (w := 1) (L' := [(5, .int (x21 + 1)), (0, .ref (G.1 0)), (1, .int a1), (2, .int a2), (3, .int x11), (4, .int x12)]) C 5 dX8_spares_122 rfl rfl (by decide) rfl (by decide) rfl ?_
                      refine s_goto (q := 73) C dX8_spares_125 (by decide) ?_
                      refine s_sub [1, 2, 3, 4, 5, 0] rfl ?_
                      exact hB22 V36 ((x21 + 1))
                    · refine s_iconst (q := 106) (v := 0) C dX8_spares_105 rfl (by decide) ?_
                      refine s_goto (q := 121) C dX8_spares_106 (by decide) ?_
                      refine s_iast (q := 122) C (qX8_0 hG) (mX8_0 hG) dX8_spares_121 rfl (fun V37 => ?_)
                      refine s_iinc (q := 125) (w := 1) (L' := [(5, .int (x21 + 1)), (0, .ref (G.1 0)), (1, .int a1), (2, .int a2), (3, .int x11), (4, .int x12)]) C 5 dX8_spares_122 rfl rfl (by decide) rfl (by decide) rfl ?_
                      refine s_goto (q := 73) C dX8_spares_125 (by decide) ?_
                      refine s_sub [1, 2, 3, 4, 5, 0] rfl ?_
                      exact hB22 V37 ((x21 + 1))
              refine s_sub [1, 2, 3, 4, 5, 0] rfl ?_
              exact hL2 gFu V10 0
            · refine s_iload (q := 60) C 4 dX8_spares_58 rfl rfl ?_
              refine s_Si (q := 63) (As := [.int x12]) (st := []) C (uX8_bits l G hG V10 x12) ysX8_bits mlX8_203 rfl rfl rfl rfl (gR_le (by decide) (by decide)) (Nat.le_of_ble_eq_true rfl) dX8_spares_60 rfl (fun x38 V39 => ?_)
              refine s_iload_n (q := 64) C 3 dX8_spares_63 rfl rfl rfl ?_
              refine s_Si (q := 67) (As := [.int x11]) (st := [.int x38]) C (uX8_bits l G hG V39 x11) ysX8_bits mlX8_203 rfl rfl rfl rfl (gR_le (by decide) (by decide)) (Nat.le_of_ble_eq_true rfl) dX8_spares_64 rfl (fun x40 V41 => ?_)
              refine s_icmp_ge (tgt := 158) (q := 70) C dX8_spares_67 (by decide) rfl (fun c42 => ?_) (fun c42 => ?_)
              · refine s_iinc (q := 161) (w := 1) (L' := [(4, .int (x12 + 1)), (0, .ref (G.1 0)), (1, .int a1), (2, .int a2), (3, .int x11)]) C 4 dX8_spares_158 rfl rfl (by decide) rfl (by decide) rfl ?_
                refine s_goto (q := 41) C dX8_spares_161 (by decide) ?_
                refine s_sub [1, 2, 3, 4, 0] rfl ?_
                exact hB13 V41 x11 ((x12 + 1))
              · refine s_iconst (q := 71) (v := 0) C dX8_spares_70 rfl (by decide) ?_
                refine s_istore (q := 73) (L' := [(5, .int 0), (0, .ref (G.1 0)), (1, .int a1), (2, .int a2), (3, .int x11), (4, .int x12)]) C dX8_spares_71 rfl (by decide) rfl ?_
                have hL3 : ∀ (n : Nat) (V43 : gV) (x44 : Int32), gSm l (gR 72 1716) 6 G X (fX8_spares_L3 a1 a2 x11 x12 B13 n V43 x44) (rr, VV) V43 73 [(0, .ref (G.1 0)), (1, .int a1), (2, .int a2), (3, .int x11), (4, .int x12), (5, .int x44)] [] := by
                  intro n
                  induction n with
                  | zero => exact fun V43 x44 => s_none
                  | succ n ih =>
                    intro V43 x44
                    show gSm l (gR 72 1716) 6 G X (fX8_spares_L3b a1 a2 x11 x12 B13 (fX8_spares_L3 a1 a2 x11 x12 B13 n) V43 x44) (rr, VV) V43 73 [(0, .ref (G.1 0)), (1, .int a1), (2, .int a2), (3, .int x11), (4, .int x12), (5, .int x44)] []
                    generalize fX8_spares_L3 a1 a2 x11 x12 B13 n = B45 at ih ⊢
                    have hB45 := ih
                    unfold fX8_spares_L3b
                    refine s_iload (q := 75) C 5 dX8_spares_73 rfl rfl ?_
                    refine s_aload_n (q := 76) C 0 dX8_spares_75 rfl rfl rfl ?_
                    refine geX8_0 (q := 79) C (s80 hG) flX8_7 dX8_spares_76 rfl ?_
                    refine s_iconst (q := 80) (v := 2) C dX8_spares_79 rfl (by decide) ?_
                    refine s_iald (q := 81) C (qX8_0 hG) dX8_spares_80 rfl (fun x46 => ?_)
                    refine s_icmp_ge (tgt := 128) (q := 84) C dX8_spares_81 (by decide) rfl (fun c47 => ?_) (fun c47 => ?_)
                    · refine s_aload_n (q := 129) C 0 dX8_spares_128 rfl rfl rfl ?_
                      refine s_iload_n (q := 130) C 1 dX8_spares_129 rfl rfl rfl ?_
                      refine s_bipush (q := 132) (v := 15) C dX8_spares_130 rfl (by decide) ?_
                      refine s_iload_n (q := 133) C 2 dX8_spares_132 rfl rfl rfl ?_
                      refine s_Vi (q := 136) (As := [.int a1, .int 15, .int a2]) (st := []) C (uX8_isInSoon l G hG V43 a1 15 a2) yvX8_isInSoon mlX8_206 (s80 hG) rfl rfl rfl rfl rfl rfl (gR_le (by decide) (by decide)) (Nat.le_of_ble_eq_true rfl) dX8_spares_133 rfl (fun x48 V49 => ?_)
                      refine s_jn (fun J52 => ∀ (x51 : Int32), gSm l (gR 72 1716) 6 G X (J52 x51) (rr, VV) V49 145 [(0, .ref (G.1 0)), (1, .int a1), (2, .int a2), (4, .int x12)] [.int x51]) ?_ (fun J52 hJ52 => ?_)
                      · intro x51
                        refine s_istore_n (q := 146) (L' := [(3, .int x51), (0, .ref (G.1 0)), (1, .int a1), (2, .int a2), (4, .int x12)]) C dX8_spares_145 rfl rfl (by decide) rfl ?_
                        refine s_aload_n (q := 147) C 1 dX8_spares_146 rfl rfl rfl ?_
                        refine s_aload_n (q := 148) C 1 dX8_spares_147 rfl rfl rfl ?_
                        refine geX8_2 (q := 151) C (s80 hG) flX8_16 dX8_spares_148 rfl ?_
                        refine s_aload_n (q := 152) C 1 dX8_spares_151 rfl rfl rfl ?_
                        refine geX8_0 (q := 155) C (s80 hG) flX8_7 dX8_spares_152 rfl ?_
                        refine s_Vv (q := 158) (As := [.ref (G.1 (0 + 3)), .ref (G.1 (0 + 1))]) (st := []) C (uX8_moveAll l G hG V49 (0 + 3) 264 (0 + 1) 264 (qX8_2 hG) (qX8_0 hG) (mX8_0 hG)) yvX8_moveAll mlX8_171 (s80 hG) rfl rfl rfl rfl rfl rfl (gR_le (by decide) (by decide)) (Nat.le_of_ble_eq_true rfl) dX8_spares_155 rfl (fun V53 => ?_)
                        refine s_iinc (q := 161) (w := 1) (L' := [(4, .int (x12 + 1)), (3, .int x51), (0, .ref (G.1 0)), (1, .int a1), (2, .int a2)]) C 4 dX8_spares_158 rfl rfl (by decide) rfl (by decide) rfl ?_
                        refine s_goto (q := 41) C dX8_spares_161 (by decide) ?_
                        refine s_sub [2, 3, 4, 1, 0] rfl ?_
                        exact hB13 V53 x51 ((x12 + 1))
                      · refine s_if_eq (tgt := 143) (q := 139) C dX8_spares_136 (by decide) rfl (fun c54 => ?_) (fun c54 => ?_)
                        · refine s_iload (q := 145) C 4 dX8_spares_143 rfl rfl ?_
                          refine s_sub [0, 1, 2, 4] rfl ?_
                          exact hJ52 x12
                        · refine s_iload_n (q := 140) C 3 dX8_spares_139 rfl rfl rfl ?_
                          refine s_goto (q := 145) C dX8_spares_140 (by decide) ?_
                          refine s_sub [0, 1, 2, 4] rfl ?_
                          exact hJ52 x11
                    · refine s_aload_n (q := 85) C 0 dX8_spares_84 rfl rfl rfl ?_
                      refine geX8_0 (q := 88) C (s80 hG) flX8_7 dX8_spares_85 rfl ?_
                      refine s_bipush (q := 90) (v := 8) C dX8_spares_88 rfl (by decide) ?_
                      refine s_iconst (q := 91) (v := 2) C dX8_spares_90 rfl (by decide) ?_
                      refine s_iload (q := 93) C 5 dX8_spares_91 rfl rfl ?_
                      refine s_imul (q := 94) C dX8_spares_93 rfl ?_
                      refine s_iadd (q := 95) C dX8_spares_94 rfl ?_
                      refine s_iload (q := 97) C 4 dX8_spares_95 rfl rfl ?_
                      refine s_iload (q := 99) C 5 dX8_spares_97 rfl rfl ?_
                      refine s_Si (q := 102) (As := [.int x12, .int x44]) (st := [.int (8 + (2 * x44)), .ref (G.1 (0 + 1))]) C (uX8_has l G hG V43 x12 x44) ysX8_has mlX8_189 rfl rfl rfl rfl (gR_le (by decide) (by decide)) (Nat.le_of_ble_eq_true rfl) dX8_spares_99 rfl (fun x55 V56 => ?_)
                      refine s_if_eq (tgt := 109) (q := 105) C dX8_spares_102 (by decide) rfl (fun c57 => ?_) (fun c57 => ?_)
                      · refine s_aload_n (q := 110) C 0 dX8_spares_109 rfl rfl rfl ?_
                        refine geX8_0 (q := 113) C (s80 hG) flX8_7 dX8_spares_110 rfl ?_
                        refine s_bipush (q := 115) (v := 8) C dX8_spares_113 rfl (by decide) ?_
                        refine s_iconst (q := 116) (v := 2) C dX8_spares_115 rfl (by decide) ?_
                        refine s_iload (q := 118) C 5 dX8_spares_116 rfl rfl ?_
                        refine s_imul (q := 119) C dX8_spares_118 rfl ?_
                        refine s_iadd (q := 120) C dX8_spares_119 rfl ?_
                        refine s_iald (q := 121) C (qX8_0 hG) dX8_spares_120 rfl (fun x58 => ?_)
                        refine s_iast (q := 122) C (qX8_0 hG) (mX8_0 hG) dX8_spares_121 rfl (fun V59 => ?_)
                        refine s_iinc (q := 125) (w := 1) (L' := [(5, .int (x44 + 1)), (0, .ref (G.1 0)), (1, .int a1), (2, .int a2), (3, .int x11), (4, .int x12)]) C 5 dX8_spares_122 rfl rfl (by decide) rfl (by decide) rfl ?_
                        refine s_goto (q := 73) C dX8_spares_125 (by decide) ?_
                        refine s_sub [1, 2, 3, 4, 5, 0] rfl ?_
                        exact hB45 V59 ((x44 + 1))
                      · refine s_iconst (q := 106) (v := 0) C dX8_spares_105 rfl (by decide) ?_
                        refine s_goto (q := 121) C dX8_spares_106 (by decide) ?_
                        refine s_iast (q := 122) C (qX8_0 hG) (mX8_0 hG) dX8_spares_121 rfl (fun V60 => ?_)
                        refine s_iinc (q := 125) (w := 1) (L' := [(5, .int (x44 + 1)), (0, .ref (G.1 0)), (1, .int a1), (2, .int a2), (3, .int x11), (4, .int x12)]) C 5 dX8_spares_122 rfl rfl (by decide) rfl (by decide) rfl ?_
                        refine s_goto (q := 73) C dX8_spares_125 (by decide) ?_
                        refine s_sub [1, 2, 3, 4, 5, 0] rfl ?_
                        exact hB45 V60 ((x44 + 1))
                refine s_sub [1, 2, 3, 4, 5, 0] rfl ?_
                exact hL3 gFu V41 0
      refine s_sub [2, 3, 4, 1, 0] rfl ?_
      exact hL1 gFu V9 (-1) 0
noncomputable def fX8_hurry_L1b (a1 : Int32) (a2 : Int32) (a3 : Int32) (B18 : gV → Int32 → Int32 → Option (Int32 × gV)) (V15 : gV) (x16 : Int32) (x17 : Int32) : Option (Int32 × gV) := gjn (if x17 = 0 then (gbi (fX8_errs V15 (-1000000002)) fun (x31 : Int32) (V32 : gV) => some (x31, V32)) else (some (x16, V15))) fun J29 => if 9 < x16 then (J29) else (if x17 = 0 then (gal V15 (0 + 1) (8 + (2 * a2)) 264 fun (x35 : Int32) => gas V15 (0 + 1) (8 + (2 * a2)) 264 (x35 + x16) fun (V36 : gV) => gbi (fX8_isInSoon V36 a1 (1 <<< (a2 &&& 31)) a3) fun (x37 : Int32) (V38 : gV) => gbv (fX8_moveAll V38 (0 + 3) 264 (0 + 1) 264) fun (V39 : gV) => if x37 = 0 then (glt (x16 + 1) fun (x41 : Int32) => B18 V39 x41 x37) else (glt (x16 + 0) fun (x42 : Int32) => B18 V39 x42 x37)) else (J29))
noncomputable def fX8_hurry_L1 (a1 : Int32) (a2 : Int32) (a3 : Int32) : Nat → gV → Int32 → Int32 → Option (Int32 × gV)
  | 0 => fun _ _ _ => none
  | n + 1 => fX8_hurry_L1b a1 a2 a3 (fX8_hurry_L1 a1 a2 a3 n)
noncomputable def fX8_hurry (V : gV) (a1 : Int32) (a2 : Int32) (a3 : Int32) : Option (Int32 × gV) := gbi (fX8_isGuest V a1) fun (x1 : Int32) (V2 : gV) => if x1 = 0 then (gbi (fX8_errs V2 (-1000000001)) fun (x4 : Int32) (V5 : gV) => some (x4, V5)) else (gbi (fX8_isHouse V2 a2) fun (x6 : Int32) (V7 : gV) => if x6 = 0 then (gbi (fX8_errs V7 (-1000000001)) fun (x9 : Int32) (V10 : gV) => some (x9, V10)) else (gbi (fX8_in V7 a3 0 30) fun (x11 : Int32) (V12 : gV) => if x11 = 0 then (gbi (fX8_errs V12 (-1000000001)) fun (x43 : Int32) (V44 : gV) => some (x43, V44)) else (gbv (fX8_moveAll V12 (0 + 1) 264 (0 + 3) 264) fun (V14 : gV) => fX8_hurry_L1 a1 a2 a3 gFu V14 0 0)))
set_option maxHeartbeats 4000000 in
set_option maxRecDepth 100000 in
theorem uX8_hurry (l : Launch) (G : gG) (hG : gIsM G) (V : gV) (a1 : Int32) (a2 : Int32) (a3 : Int32) : gMi l G yX8_hurry cX8_hurry 6 Jvm.ClassFile.FieldType.int (gR 72 1716) [.ref (G.1 0), .int a1, .int a2, .int a3] V (fX8_hurry V a1 a2 a3) := by
  unfold fX8_hurry
  refine gM_i (by decide +kernel) rfl rfl (Nat.le_of_ble_eq_true rfl) (fun X rr VV C E => ?_)
  change gC cX8_hurry 6 RX8 G X at C
  change gSm l (gR 72 1716) 6 G X _ (rr, VV) V 0 [(0, .ref (G.1 0)), (1, .int a1), (2, .int a2), (3, .int a3)] []
  refine s_iload_n (q := 1) C 1 dX8_hurry_0 rfl rfl rfl ?_
  refine s_Si (q := 4) (As := [.int a1]) (st := []) C (uX8_isGuest l G hG V a1) ysX8_isGuest mlX8_193 rfl rfl rfl rfl (gR_le (by decide) (by decide)) (Nat.le_of_ble_eq_true rfl) dX8_hurry_1 rfl (fun x1 V2 => ?_)
  refine s_if_eq (tgt := 25) (q := 7) C dX8_hurry_4 (by decide) rfl (fun c3 => ?_) (fun c3 => ?_)
  · refine s_aload_n (q := 26) C 0 dX8_hurry_25 rfl rfl rfl ?_
    refine s_ldc (q := 28) (v := (-1000000001)) C dX8_hurry_26 rfl kX8_48 ?_
    refine s_Vi (q := 31) (As := [.int (-1000000001)]) (st := []) C (uX8_errs l G hG V2 (-1000000001)) yvX8_errs mlX8_49 (s80 hG) rfl rfl rfl rfl rfl rfl (gR_le (by decide) (by decide)) (Nat.le_of_ble_eq_true rfl) dX8_hurry_28 rfl (fun x4 V5 => ?_)
    exact s_iret C E dX8_hurry_31
  · refine s_aload_n (q := 8) C 0 dX8_hurry_7 rfl rfl rfl ?_
    refine s_iload_n (q := 9) C 2 dX8_hurry_8 rfl rfl rfl ?_
    refine s_Vi (q := 12) (As := [.int a2]) (st := []) C (uX8_isHouse l G hG V2 a2) yvX8_isHouse mlX8_61 (s80 hG) rfl rfl rfl rfl rfl rfl (gR_le (by decide) (by decide)) (Nat.le_of_ble_eq_true rfl) dX8_hurry_9 rfl (fun x6 V7 => ?_)
    refine s_if_eq (tgt := 25) (q := 15) C dX8_hurry_12 (by decide) rfl (fun c8 => ?_) (fun c8 => ?_)
    · refine s_aload_n (q := 26) C 0 dX8_hurry_25 rfl rfl rfl ?_
      refine s_ldc (q := 28) (v := (-1000000001)) C dX8_hurry_26 rfl kX8_48 ?_
      refine s_Vi (q := 31) (As := [.int (-1000000001)]) (st := []) C (uX8_errs l G hG V7 (-1000000001)) yvX8_errs mlX8_49 (s80 hG) rfl rfl rfl rfl rfl rfl (gR_le (by decide) (by decide)) (Nat.le_of_ble_eq_true rfl) dX8_hurry_28 rfl (fun x9 V10 => ?_)
      exact s_iret C E dX8_hurry_31
    · refine s_iload_n (q := 16) C 3 dX8_hurry_15 rfl rfl rfl ?_
      refine s_iconst (q := 17) (v := 0) C dX8_hurry_16 rfl (by decide) ?_
      refine s_bipush (q := 19) (v := 30) C dX8_hurry_17 rfl (by decide) ?_
      refine s_Si (q := 22) (As := [.int a3, .int 0, .int 30]) (st := []) C (uX8_in l G hG V7 a3 0 30) ysX8_in mlX8_44 rfl rfl rfl rfl (gR_le (by decide) (by decide)) (Nat.le_of_ble_eq_true rfl) dX8_hurry_19 rfl (fun x11 V12 => ?_)
      refine s_if_ne (tgt := 32) (q := 25) C dX8_hurry_22 (by decide) rfl (fun c13 => ?_) (fun c13 => ?_)
      · refine s_aload_n (q := 26) C 0 dX8_hurry_25 rfl rfl rfl ?_
        refine s_ldc (q := 28) (v := (-1000000001)) C dX8_hurry_26 rfl kX8_48 ?_
        refine s_Vi (q := 31) (As := [.int (-1000000001)]) (st := []) C (uX8_errs l G hG V12 (-1000000001)) yvX8_errs mlX8_49 (s80 hG) rfl rfl rfl rfl rfl rfl (gR_le (by decide) (by decide)) (Nat.le_of_ble_eq_true rfl) dX8_hurry_28 rfl (fun x43 V44 => ?_)
        exact s_iret C E dX8_hurry_31
      · refine s_iconst (q := 33) (v := 0) C dX8_hurry_32 rfl (by decide) ?_
        refine s_istore (q := 35) (L' := [(4, .int 0), (0, .ref (G.1 0)), (1, .int a1), (2, .int a2), (3, .int a3)]) C dX8_hurry_33 rfl (by decide) rfl ?_
        refine s_iconst (q := 36) (v := 0) C dX8_hurry_35 rfl (by decide) ?_
        refine s_istore (q := 38) (L' := [(5, .int 0), (4, .int 0), (0, .ref (G.1 0)), (1, .int a1), (2, .int a2), (3, .int a3)]) C dX8_hurry_36 rfl (by decide) rfl ?_
        refine s_aload_n (q := 39) C 2 dX8_hurry_38 rfl rfl rfl ?_
        refine s_aload_n (q := 40) C 2 dX8_hurry_39 rfl rfl rfl ?_
        refine geX8_0 (q := 43) C (s80 hG) flX8_7 dX8_hurry_40 rfl ?_
        refine s_aload_n (q := 44) C 2 dX8_hurry_43 rfl rfl rfl ?_
        refine geX8_2 (q := 47) C (s80 hG) flX8_16 dX8_hurry_44 rfl ?_
        refine s_Vv (q := 50) (As := [.ref (G.1 (0 + 1)), .ref (G.1 (0 + 3))]) (st := []) C (uX8_moveAll l G hG V12 (0 + 1) 264 (0 + 3) 264 (qX8_0 hG) (qX8_2 hG) (mX8_2 hG)) yvX8_moveAll mlX8_171 (s80 hG) rfl rfl rfl rfl rfl rfl (gR_le (by decide) (by decide)) (Nat.le_of_ble_eq_true rfl) dX8_hurry_47 rfl (fun V14 => ?_)
        have hL1 : ∀ (n : Nat) (V15 : gV) (x16 : Int32) (x17 : Int32), gSm l (gR 72 1716) 6 G X (fX8_hurry_L1 a1 a2 a3 n V15 x16 x17) (rr, VV) V15 50 [(0, .ref (G.1 0)), (1, .int a1), (2, .int a2), (3, .int a3), (4, .int x16), (5, .int x17)] [] := by
          intro n
          induction n with
          | zero => exact fun V15 x16 x17 => s_none
          | succ n ih =>
            intro V15 x16 x17
            show gSm l (gR 72 1716) 6 G X (fX8_hurry_L1b a1 a2 a3 (fX8_hurry_L1 a1 a2 a3 n) V15 x16 x17) (rr, VV) V15 50 [(0, .ref (G.1 0)), (1, .int a1), (2, .int a2), (3, .int a3), (4, .int x16), (5, .int x17)] []
            generalize fX8_hurry_L1 a1 a2 a3 n = B18 at ih ⊢
            have hB18 := ih
            unfold fX8_hurry_L1b
            refine s_iload (q := 52) C 4 dX8_hurry_50 rfl rfl ?_
            refine s_bipush (q := 54) (v := 9) C dX8_hurry_52 rfl (by decide) ?_
            refine s_jn (fun J29 => gSm l (gR 72 1716) 6 G X (J29) (rr, VV) V15 119 [(0, .ref (G.1 0)), (4, .int x16), (5, .int x17)] []) ?_ (fun J29 hJ29 => ?_)
            · refine s_iload (q := 121) C 2 dX8_hurry_119 rfl rfl ?_
              refine s_if_eq (tgt := 129) (q := 124) C dX8_hurry_121 (by decide) rfl (fun c30 => ?_) (fun c30 => ?_)
              · refine s_aload_n (q := 130) C 0 dX8_hurry_129 rfl rfl rfl ?_
                refine s_ldc (q := 132) (v := (-1000000002)) C dX8_hurry_130 rfl kX8_199 ?_
                refine s_Vi (q := 135) (As := [.int (-1000000002)]) (st := []) C (uX8_errs l G hG V15 (-1000000002)) yvX8_errs mlX8_49 (s80 hG) rfl rfl rfl rfl rfl rfl (gR_le (by decide) (by decide)) (Nat.le_of_ble_eq_true rfl) dX8_hurry_132 rfl (fun x31 V32 => ?_)
                exact s_iret C E dX8_hurry_135
              · refine s_iload (q := 126) C 1 dX8_hurry_124 rfl rfl ?_
                refine s_goto (q := 135) C dX8_hurry_126 (by decide) ?_
                exact s_iret C E dX8_hurry_135
            · refine s_icmp_gt (tgt := 119) (q := 57) C dX8_hurry_54 (by decide) rfl (fun c33 => ?_) (fun c33 => ?_)
              · refine s_sub [0, 4, 5] rfl ?_
                exact hJ29
              · refine s_iload (q := 59) C 5 dX8_hurry_57 rfl rfl ?_
                refine s_if_ne (tgt := 119) (q := 62) C dX8_hurry_59 (by decide) rfl (fun c34 => ?_) (fun c34 => ?_)
                · refine s_aload_n (q := 63) C 0 dX8_hurry_62 rfl rfl rfl ?_
                  refine geX8_0 (q := 66) C (s80 hG) flX8_7 dX8_hurry_63 rfl ?_
                  refine s_bipush (q := 68) (v := 8) C dX8_hurry_66 rfl (by decide) ?_
                  refine s_iconst (q := 69) (v := 2) C dX8_hurry_68 rfl (by decide) ?_
                  refine s_iload_n (q := 70) C 2 dX8_hurry_69 rfl rfl rfl ?_
                  refine s_imul (q := 71) C dX8_hurry_70 rfl ?_
                  refine s_iadd (q := 72) C dX8_hurry_71 rfl ?_
                  refine s_dup2_11 (q := 73) C dX8_hurry_72 rfl rfl rfl ?_
                  refine s_iald (q := 74) C (qX8_0 hG) dX8_hurry_73 rfl (fun x35 => ?_)
                  refine s_iload (q := 76) C 4 dX8_hurry_74 rfl rfl ?_
                  refine s_iadd (q := 77) C dX8_hurry_76 rfl ?_
                  refine s_iast (q := 78) C (qX8_0 hG) (mX8_0 hG) dX8_hurry_77 rfl (fun V36 => ?_)
                  refine s_aload_n (q := 79) C 0 dX8_hurry_78 rfl rfl rfl ?_
                  refine s_iload_n (q := 80) C 1 dX8_hurry_79 rfl rfl rfl ?_
                  refine s_iconst (q := 81) (v := 1) C dX8_hurry_80 rfl (by decide) ?_
                  refine s_iload_n (q := 82) C 2 dX8_hurry_81 rfl rfl rfl ?_
                  refine s_ishl (q := 83) C dX8_hurry_82 rfl ?_
                  refine s_iload_n (q := 84) C 3 dX8_hurry_83 rfl rfl rfl ?_
                  refine s_Vi (q := 87) (As := [.int a1, .int (1 <<< (a2 &&& 31)), .int a3]) (st := []) C (uX8_isInSoon l G hG V36 a1 (1 <<< (a2 &&& 31)) a3) yvX8_isInSoon mlX8_206 (s80 hG) rfl rfl rfl rfl rfl rfl (gR_le (by decide) (by decide)) (Nat.le_of_ble_eq_true rfl) dX8_hurry_84 rfl (fun x37 V38 => ?_)
                  refine s_istore (q := 89) (L' := [(5, .int x37), (0, .ref (G.1 0)), (1, .int a1), (2, .int a2), (3, .int a3), (4, .int x16)]) C dX8_hurry_87 rfl (by decide) rfl ?_
                  refine s_aload_n (q := 90) C 1 dX8_hurry_89 rfl rfl rfl ?_
                  refine s_aload_n (q := 91) C 1 dX8_hurry_90 rfl rfl rfl ?_
                  refine geX8_2 (q := 94) C (s80 hG) flX8_16 dX8_hurry_91 rfl ?_
                  refine s_aload_n (q := 95) C 1 dX8_hurry_94 rfl rfl rfl ?_
                  refine geX8_0 (q := 98) C (s80 hG) flX8_7 dX8_hurry_95 rfl ?_
                  refine s_Vv (q := 101) (As := [.ref (G.1 (0 + 3)), .ref (G.1 (0 + 1))]) (st := []) C (uX8_moveAll l G hG V38 (0 + 3) 264 (0 + 1) 264 (qX8_2 hG) (qX8_0 hG) (mX8_0 hG)) yvX8_moveAll mlX8_171 (s80 hG) rfl rfl rfl rfl rfl rfl (gR_le (by decide) (by decide)) (Nat.le_of_ble_eq_true rfl) dX8_hurry_98 rfl (fun V39 => ?_)
                  refine s_iload (q := 103) C 5 dX8_hurry_101 rfl rfl ?_
                  refine s_iload (q := 105) C 0 dX8_hurry_103 rfl rfl ?_
                  refine s_if_eq (tgt := 112) (q := 108) C dX8_hurry_105 (by decide) rfl (fun c40 => ?_) (fun c40 => ?_)
                  · refine s_iconst (q := 113) (v := 1) C dX8_hurry_112 rfl (by decide) ?_
                    refine s_iadd (q := 114) C dX8_hurry_113 rfl ?_
                    refine s_lt (fun x41 => ?_)
                    refine s_istore (q := 116) (L' := [(4, .int x41), (5, .int x37), (0, .ref (G.1 0)), (1, .int a1), (2, .int a2), (3, .int a3)]) C dX8_hurry_114 rfl (by decide) rfl ?_
                    refine s_goto (q := 50) C dX8_hurry_116 (by decide) ?_
                    refine s_sub [2, 3, 4, 5, 0, 1] rfl ?_
                    exact hB18 V39 x41 x37
                  · refine s_iconst (q := 109) (v := 0) C dX8_hurry_108 rfl (by decide) ?_
                    refine s_goto (q := 113) C dX8_hurry_109 (by decide) ?_
                    refine s_iadd (q := 114) C dX8_hurry_113 rfl ?_
                    refine s_lt (fun x42 => ?_)
                    refine s_istore (q := 116) (L' := [(4, .int x42), (5, .int x37), (0, .ref (G.1 0)), (1, .int a1), (2, .int a2), (3, .int a3)]) C dX8_hurry_114 rfl (by decide) rfl ?_
                    refine s_goto (q := 50) C dX8_hurry_116 (by decide) ?_
                    refine s_sub [2, 3, 4, 5, 0, 1] rfl ?_
                    exact hB18 V39 x42 x37
                · refine s_sub [0, 4, 5] rfl ?_
                  exact hJ29
        refine s_sub [2, 3, 4, 5, 1, 0] rfl ?_
        exact hL1 gFu V14 0 0
noncomputable def fX8_isSheet (V : gV) (a0 : Int32) : Option (Int32 × gV) := gbi (fX8_in V a0 0 3) fun (x1 : Int32) (V2 : gV) => gzb x1 (some (x1, V2))
set_option maxHeartbeats 4000000 in
set_option maxRecDepth 100000 in
theorem uX8_isSheet (l : Launch) (G : gG) (hG : gIsM G) (V : gV) (a0 : Int32) : gMi l G yX8_isSheet cX8_isSheet 1 Jvm.ClassFile.FieldType.boolean (gR 1 22) [.int a0] V (fX8_isSheet V a0) := by
  unfold fX8_isSheet
  refine gM_i (by decide +kernel) rfl rfl (Nat.le_of_ble_eq_true rfl) (fun X rr VV C E => ?_)
  change gC cX8_isSheet 1 RX8 G X at C
  change gSm l (gR 1 22) 1 G X _ (rr, VV) V 0 [(0, .int a0)] []
  refine s_iload_n (q := 1) C 0 dX8_isSheet_0 rfl rfl rfl ?_
  refine s_iconst (q := 2) (v := 0) C dX8_isSheet_1 rfl (by decide) ?_
  refine s_iconst (q := 3) (v := 3) C dX8_isSheet_2 rfl (by decide) ?_
  refine s_Si (q := 6) (As := [.int a0, .int 0, .int 3]) (st := []) C (uX8_in l G hG V a0 0 3) ysX8_in mlX8_44 rfl rfl rfl rfl (gR_le (by decide) (by decide)) (Nat.le_of_ble_eq_true rfl) dX8_isSheet_3 rfl (fun x1 V2 => ?_)
  exact s_zret2 C E dX8_isSheet_6
noncomputable def fX8_fits_L2b (a1 : Int32) (x11 : Int32) (B12 : gV → Int32 → Int32 → Option (Int32 × gV)) (B19 : gV → Int32 → Int32 → Option (Int32 × gV)) (V16 : gV) (x17 : Int32) (x18 : Int32) : Option (Int32 × gV) := gal V16 (0 + 1) 3 264 fun (x20 : Int32) => if x20 ≤ x18 then (gbv (fX8_oneDay V16) fun (V22 : gV) => B12 V22 x17 ((x11 + 1))) else (gbi (fX8_shows V16 x18) fun (x23 : Int32) (V24 : gV) => gal V24 (0 + 8) ((40 * a1) + x11) 160 fun (x25 : Int32) => if x23 = x25 then (glt (x17 &&& (-1)) fun (x28 : Int32) => B19 V24 x28 ((x18 + 1))) else (glt (x17 &&& ((1 <<< (x18 &&& 31)) ^^^ (-1))) fun (x27 : Int32) => B19 V24 x27 ((x18 + 1))))
noncomputable def fX8_fits_L2 (a1 : Int32) (x11 : Int32) (B12 : gV → Int32 → Int32 → Option (Int32 × gV)) : Nat → gV → Int32 → Int32 → Option (Int32 × gV)
  | 0 => fun _ _ _ => none
  | n + 1 => fX8_fits_L2b a1 x11 B12 (fX8_fits_L2 a1 x11 B12 n)
noncomputable def fX8_fits_L1b (a1 : Int32) (B12 : gV → Int32 → Int32 → Option (Int32 × gV)) (V9 : gV) (x10 : Int32) (x11 : Int32) : Option (Int32 × gV) := gal V9 (0 + 7) a1 4 fun (x13 : Int32) => if x13 ≤ x11 then (gbv (fX8_moveAll V9 (0 + 3) 264 (0 + 1) 264) fun (V15 : gV) => some (x10, V15)) else (fX8_fits_L2 a1 x11 B12 gFu V9 x10 0)
noncomputable def fX8_fits_L1 (a1 : Int32) : Nat → gV → Int32 → Int32 → Option (Int32 × gV)
  | 0 => fun _ _ _ => none
  | n + 1 => fX8_fits_L1b a1 (fX8_fits_L1 a1 n)
noncomputable def fX8_fits (V : gV) (a1 : Int32) : Option (Int32 × gV) := gbi (fX8_isSheet V a1) fun (x1 : Int32) (V2 : gV) => if x1 = 0 then (gbi (fX8_errs V2 (-1000000001)) fun (x31 : Int32) (V32 : gV) => some (x31, V32)) else (gal V2 (0 + 6) a1 4 fun (x4 : Int32) => if x4 = 0 then (gbi (fX8_errs V2 (-1000000002)) fun (x29 : Int32) (V30 : gV) => some (x29, V30)) else (gal V2 (0 + 1) 3 264 fun (x6 : Int32) => glt ((1 <<< (x6 &&& 31)) - 1) fun (x7 : Int32) => gbv (fX8_moveAll V2 (0 + 1) 264 (0 + 3) 264) fun (V8 : gV) => fX8_fits_L1 a1 gFu V8 x7 0))
set_option maxHeartbeats 4000000 in
set_option maxRecDepth 100000 in
theorem uX8_fits (l : Launch) (G : gG) (hG : gIsM G) (V : gV) (a1 : Int32) : gMi l G yX8_fits cX8_fits 5 Jvm.ClassFile.FieldType.int (gR 70 1661) [.ref (G.1 0), .int a1] V (fX8_fits V a1) := by
  unfold fX8_fits
  refine gM_i (by decide +kernel) rfl rfl (Nat.le_of_ble_eq_true rfl) (fun X rr VV C E => ?_)
  change gC cX8_fits 5 RX8 G X at C
  change gSm l (gR 70 1661) 5 G X _ (rr, VV) V 0 [(0, .ref (G.1 0)), (1, .int a1)] []
  refine s_iload_n (q := 1) C 1 dX8_fits_0 rfl rfl rfl ?_
  refine s_Si (q := 4) (As := [.int a1]) (st := []) C (uX8_isSheet l G hG V a1) ysX8_isSheet mlX8_209 rfl rfl rfl rfl (gR_le (by decide) (by decide)) (Nat.le_of_ble_eq_true rfl) dX8_fits_1 rfl (fun x1 V2 => ?_)
  refine s_if_ne (tgt := 14) (q := 7) C dX8_fits_4 (by decide) rfl (fun c3 => ?_) (fun c3 => ?_)
  · refine s_aload_n (q := 8) C 0 dX8_fits_7 rfl rfl rfl ?_
    refine s_ldc (q := 10) (v := (-1000000001)) C dX8_fits_8 rfl kX8_48 ?_
    refine s_Vi (q := 13) (As := [.int (-1000000001)]) (st := []) C (uX8_errs l G hG V2 (-1000000001)) yvX8_errs mlX8_49 (s80 hG) rfl rfl rfl rfl rfl rfl (gR_le (by decide) (by decide)) (Nat.le_of_ble_eq_true rfl) dX8_fits_10 rfl (fun x31 V32 => ?_)
    exact s_iret C E dX8_fits_13
  · refine s_aload_n (q := 15) C 0 dX8_fits_14 rfl rfl rfl ?_
    refine geX8_15 (q := 18) C (s80 hG) flX8_25 dX8_fits_15 rfl ?_
    refine s_iload_n (q := 19) C 1 dX8_fits_18 rfl rfl rfl ?_
    refine s_iald (q := 20) C (qX8_15 hG) dX8_fits_19 rfl (fun x4 => ?_)
    refine s_if_ne (tgt := 30) (q := 23) C dX8_fits_20 (by decide) rfl (fun c5 => ?_) (fun c5 => ?_)
    · refine s_aload_n (q := 24) C 0 dX8_fits_23 rfl rfl rfl ?_
      refine s_ldc (q := 26) (v := (-1000000002)) C dX8_fits_24 rfl kX8_199 ?_
      refine s_Vi (q := 29) (As := [.int (-1000000002)]) (st := []) C (uX8_errs l G hG V2 (-1000000002)) yvX8_errs mlX8_49 (s80 hG) rfl rfl rfl rfl rfl rfl (gR_le (by decide) (by decide)) (Nat.le_of_ble_eq_true rfl) dX8_fits_26 rfl (fun x29 V30 => ?_)
      exact s_iret C E dX8_fits_29
    · refine s_iconst (q := 31) (v := 1) C dX8_fits_30 rfl (by decide) ?_
      refine s_aload_n (q := 32) C 0 dX8_fits_31 rfl rfl rfl ?_
      refine geX8_0 (q := 35) C (s80 hG) flX8_7 dX8_fits_32 rfl ?_
      refine s_iconst (q := 36) (v := 3) C dX8_fits_35 rfl (by decide) ?_
      refine s_iald (q := 37) C (qX8_0 hG) dX8_fits_36 rfl (fun x6 => ?_)
      refine s_ishl (q := 38) C dX8_fits_37 rfl ?_
      refine s_iconst (q := 39) (v := 1) C dX8_fits_38 rfl (by decide) ?_
      refine s_isub (q := 40) C dX8_fits_39 rfl ?_
      refine s_lt (fun x7 => ?_)
      refine s_istore_n (q := 41) (L' := [(2, .int x7), (0, .ref (G.1 0)), (1, .int a1)]) C dX8_fits_40 rfl rfl (by decide) rfl ?_
      refine s_aload_n (q := 42) C 1 dX8_fits_41 rfl rfl rfl ?_
      refine s_aload_n (q := 43) C 1 dX8_fits_42 rfl rfl rfl ?_
      refine geX8_0 (q := 46) C (s80 hG) flX8_7 dX8_fits_43 rfl ?_
      refine s_aload_n (q := 47) C 1 dX8_fits_46 rfl rfl rfl ?_
      refine geX8_2 (q := 50) C (s80 hG) flX8_16 dX8_fits_47 rfl ?_
      refine s_Vv (q := 53) (As := [.ref (G.1 (0 + 1)), .ref (G.1 (0 + 3))]) (st := []) C (uX8_moveAll l G hG V2 (0 + 1) 264 (0 + 3) 264 (qX8_0 hG) (qX8_2 hG) (mX8_2 hG)) yvX8_moveAll mlX8_171 (s80 hG) rfl rfl rfl rfl rfl rfl (gR_le (by decide) (by decide)) (Nat.le_of_ble_eq_true rfl) dX8_fits_50 rfl (fun V8 => ?_)
      refine s_iconst (q := 54) (v := 0) C dX8_fits_53 rfl (by decide) ?_
      refine s_istore_n (q := 55) (L' := [(3, .int 0), (2, .int x7), (0, .ref (G.1 0)), (1, .int a1)]) C dX8_fits_54 rfl rfl (by decide) rfl ?_
      have hL1 : ∀ (n : Nat) (V9 : gV) (x10 : Int32) (x11 : Int32), gSm l (gR 70 1661) 5 G X (fX8_fits_L1 a1 n V9 x10 x11) (rr, VV) V9 55 [(0, .ref (G.1 0)), (1, .int a1), (2, .int x10), (3, .int x11)] [] := by
        intro n
        induction n with
        | zero => exact fun V9 x10 x11 => s_none
        | succ n ih =>
          intro V9 x10 x11
          show gSm l (gR 70 1661) 5 G X (fX8_fits_L1b a1 (fX8_fits_L1 a1 n) V9 x10 x11) (rr, VV) V9 55 [(0, .ref (G.1 0)), (1, .int a1), (2, .int x10), (3, .int x11)] []
          generalize fX8_fits_L1 a1 n = B12 at ih ⊢
          have hB12 := ih
          unfold fX8_fits_L1b
          refine s_iload_n (q := 56) C 3 dX8_fits_55 rfl rfl rfl ?_
          refine s_aload_n (q := 57) C 0 dX8_fits_56 rfl rfl rfl ?_
          refine geX8_16 (q := 60) C (s80 hG) flX8_28 dX8_fits_57 rfl ?_
          refine s_iload_n (q := 61) C 1 dX8_fits_60 rfl rfl rfl ?_
          refine s_iald (q := 62) C (qX8_16 hG) dX8_fits_61 rfl (fun x13 => ?_)
          refine s_icmp_ge (tgt := 128) (q := 65) C dX8_fits_62 (by decide) rfl (fun c14 => ?_) (fun c14 => ?_)
          · refine s_aload_n (q := 129) C 0 dX8_fits_128 rfl rfl rfl ?_
            refine s_aload_n (q := 130) C 0 dX8_fits_129 rfl rfl rfl ?_
            refine geX8_2 (q := 133) C (s80 hG) flX8_16 dX8_fits_130 rfl ?_
            refine s_aload_n (q := 134) C 0 dX8_fits_133 rfl rfl rfl ?_
            refine geX8_0 (q := 137) C (s80 hG) flX8_7 dX8_fits_134 rfl ?_
            refine s_Vv (q := 140) (As := [.ref (G.1 (0 + 3)), .ref (G.1 (0 + 1))]) (st := []) C (uX8_moveAll l G hG V9 (0 + 3) 264 (0 + 1) 264 (qX8_2 hG) (qX8_0 hG) (mX8_0 hG)) yvX8_moveAll mlX8_171 (s80 hG) rfl rfl rfl rfl rfl rfl (gR_le (by decide) (by decide)) (Nat.le_of_ble_eq_true rfl) dX8_fits_137 rfl (fun V15 => ?_)
            refine s_iload_n (q := 141) C 2 dX8_fits_140 rfl rfl rfl ?_
            exact s_iret C E dX8_fits_141
          · refine s_iconst (q := 66) (v := 0) C dX8_fits_65 rfl (by decide) ?_
            refine s_istore (q := 68) (L' := [(4, .int 0), (0, .ref (G.1 0)), (1, .int a1), (2, .int x10), (3, .int x11)]) C dX8_fits_66 rfl (by decide) rfl ?_
            have hL2 : ∀ (n : Nat) (V16 : gV) (x17 : Int32) (x18 : Int32), gSm l (gR 70 1661) 5 G X (fX8_fits_L2 a1 x11 B12 n V16 x17 x18) (rr, VV) V16 68 [(0, .ref (G.1 0)), (1, .int a1), (2, .int x17), (3, .int x11), (4, .int x18)] [] := by
              intro n
              induction n with
              | zero => exact fun V16 x17 x18 => s_none
              | succ n ih =>
                intro V16 x17 x18
                show gSm l (gR 70 1661) 5 G X (fX8_fits_L2b a1 x11 B12 (fX8_fits_L2 a1 x11 B12 n) V16 x17 x18) (rr, VV) V16 68 [(0, .ref (G.1 0)), (1, .int a1), (2, .int x17), (3, .int x11), (4, .int x18)] []
                generalize fX8_fits_L2 a1 x11 B12 n = B19 at ih ⊢
                have hB19 := ih
                unfold fX8_fits_L2b
                refine s_iload (q := 70) C 4 dX8_fits_68 rfl rfl ?_
                refine s_aload_n (q := 71) C 0 dX8_fits_70 rfl rfl rfl ?_
                refine geX8_0 (q := 74) C (s80 hG) flX8_7 dX8_fits_71 rfl ?_
                refine s_iconst (q := 75) (v := 3) C dX8_fits_74 rfl (by decide) ?_
                refine s_iald (q := 76) C (qX8_0 hG) dX8_fits_75 rfl (fun x20 => ?_)
                refine s_icmp_ge (tgt := 118) (q := 79) C dX8_fits_76 (by decide) rfl (fun c21 => ?_) (fun c21 => ?_)
                · refine s_aload_n (q := 119) C 0 dX8_fits_118 rfl rfl rfl ?_
                  refine s_Vv (q := 122) (As := []) (st := []) C (uX8_oneDay l G hG V16) yvX8_oneDay mlX8_175 (s80 hG) rfl rfl rfl rfl rfl rfl (gR_le (by decide) (by decide)) (Nat.le_of_ble_eq_true rfl) dX8_fits_119 rfl (fun V22 => ?_)
                  refine s_iinc (q := 125) (w := 1) (L' := [(3, .int (x11 + 1)), (0, .ref (G.1 0)), (1, .int a1), (2, .int x17), (4, .int x18)]) C 3 dX8_fits_122 rfl rfl (by decide) rfl (by decide) rfl ?_
                  refine s_goto (q := 55) C dX8_fits_125 (by decide) ?_
                  refine s_sub [1, 2, 3, 0] rfl ?_
                  exact hB12 V22 x17 ((x11 + 1))
                · refine s_iload_n (q := 80) C 2 dX8_fits_79 rfl rfl rfl ?_
                  refine s_aload_n (q := 81) C 0 dX8_fits_80 rfl rfl rfl ?_
                  refine s_iload (q := 83) C 4 dX8_fits_81 rfl rfl ?_
                  refine s_Vi (q := 86) (As := [.int x18]) (st := [.int x17]) C (uX8_shows l G hG V16 x18) yvX8_shows mlX8_58 (s80 hG) rfl rfl rfl rfl rfl rfl (gR_le (by decide) (by decide)) (Nat.le_of_ble_eq_true rfl) dX8_fits_83 rfl (fun x23 V24 => ?_)
                  refine s_aload_n (q := 87) C 0 dX8_fits_86 rfl rfl rfl ?_
                  refine geX8_17 (q := 90) C (s80 hG) flX8_31 dX8_fits_87 rfl ?_
                  refine s_bipush (q := 92) (v := 40) C dX8_fits_90 rfl (by decide) ?_
                  refine s_iload_n (q := 93) C 1 dX8_fits_92 rfl rfl rfl ?_
                  refine s_imul (q := 94) C dX8_fits_93 rfl ?_
                  refine s_iload_n (q := 95) C 3 dX8_fits_94 rfl rfl rfl ?_
                  refine s_iadd (q := 96) C dX8_fits_95 rfl ?_
                  refine s_iald (q := 97) C (qX8_17 hG) dX8_fits_96 rfl (fun x25 => ?_)
                  refine s_icmp_ne (tgt := 104) (q := 100) C dX8_fits_97 (by decide) rfl (fun c26 => ?_) (fun c26 => ?_)
                  · refine s_iconst (q := 101) (v := (-1)) C dX8_fits_100 rfl (by decide) ?_
                    refine s_goto (q := 110) C dX8_fits_101 (by decide) ?_
                    refine s_iand (q := 111) C dX8_fits_110 rfl ?_
                    refine s_lt (fun x28 => ?_)
                    refine s_istore_n (q := 112) (L' := [(2, .int x28), (0, .ref (G.1 0)), (1, .int a1), (3, .int x11), (4, .int x18)]) C dX8_fits_111 rfl rfl (by decide) rfl ?_
                    refine s_iinc (q := 115) (w := 1) (L' := [(4, .int (x18 + 1)), (2, .int x28), (0, .ref (G.1 0)), (1, .int a1), (3, .int x11)]) C 4 dX8_fits_112 rfl rfl (by decide) rfl (by decide) rfl ?_
                    refine s_goto (q := 68) C dX8_fits_115 (by decide) ?_
                    refine s_sub [2, 3, 1, 4, 0] rfl ?_
                    exact hB19 V24 x28 ((x18 + 1))
                  · refine s_iconst (q := 105) (v := 1) C dX8_fits_104 rfl (by decide) ?_
                    refine s_iload (q := 107) C 4 dX8_fits_105 rfl rfl ?_
                    refine s_ishl (q := 108) C dX8_fits_107 rfl ?_
                    refine s_iconst (q := 109) (v := (-1)) C dX8_fits_108 rfl (by decide) ?_
                    refine s_ixor (q := 110) C dX8_fits_109 rfl ?_
                    refine s_iand (q := 111) C dX8_fits_110 rfl ?_
                    refine s_lt (fun x27 => ?_)
                    refine s_istore_n (q := 112) (L' := [(2, .int x27), (0, .ref (G.1 0)), (1, .int a1), (3, .int x11), (4, .int x18)]) C dX8_fits_111 rfl rfl (by decide) rfl ?_
                    refine s_iinc (q := 115) (w := 1) (L' := [(4, .int (x18 + 1)), (2, .int x27), (0, .ref (G.1 0)), (1, .int a1), (3, .int x11)]) C 4 dX8_fits_112 rfl rfl (by decide) rfl (by decide) rfl ?_
                    refine s_goto (q := 68) C dX8_fits_115 (by decide) ?_
                    refine s_sub [2, 3, 1, 4, 0] rfl ?_
                    exact hB19 V24 x27 ((x18 + 1))
            refine s_sub [1, 2, 3, 4, 0] rfl ?_
            exact hL2 gFu V9 x10 0
      refine s_sub [2, 3, 1, 0] rfl ?_
      exact hL1 gFu V8 x7 0

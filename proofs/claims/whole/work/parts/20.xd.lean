noncomputable def fX7_text (V : gV) (a1 : Int32) : Option (Int32 × gV) := gbi (fX7_within V a1 0 1) fun (x1 : Int32) (V2 : gV) => if x1 = 0 then (gbi (fX7_error V2 1) fun (x18 : Int32) (V19 : gV) => some (x18, V19)) else (gjn (fun (t5 : Nat) => gbi (fX2_faultOf V2 (0 + 91) ((0 + 1) + 12) 50 (V2 (0 + 1) 10) t5 3) fun (x8 : Int32) (V9 : gV) => gpu V9 (0 + 1) 10 0 fun (V10 : gV) => if x8 < 0 then (gbr (fX6_textOf V10 (0 + 1) a1) fun (t12 : Nat) (V13 : gV) => gbv (fX4_copyFrom V13 t12 ((0 + 91) + 1)) fun (V15 : gV) => gbv (fX6_measureCakes V15 (0 + 1)) fun (V16 : gV) => some (1, V16)) else (some (((-10) - x8), V10))) fun J7 => if a1 = 0 then (J7 113) else (J7 114))
set_option maxHeartbeats 4000000 in
set_option maxRecDepth 100000 in
theorem uX7_text (l : Launch) (G : gG) (hG : gIsX G) (V : gV) (a1 : Int32) : gMi l G yX7_text cX7_text 3 Jvm.ClassFile.FieldType.int (gR 65 1613) [.ref (G.1 0), .int a1] V (fX7_text V a1) := by
  unfold fX7_text
  refine gM_i (by decide +kernel) rfl rfl (Nat.le_of_ble_eq_true rfl) (fun X rr VV C E => ?_)
  change gC cX7_text 3 RX7 G X at C
  change gSm l (gR 65 1613) 3 G X _ (rr, VV) V 0 [(0, .ref (G.1 0)), (1, .int a1)] []
  refine s_iload_n (q := 1) C 1 dX7_text_0 rfl rfl rfl ?_
  refine s_iconst (q := 2) (v := 0) C dX7_text_1 rfl (by decide) ?_
  refine s_iconst (q := 3) (v := 1) C dX7_text_2 rfl (by decide) ?_
  refine s_Si (q := 6) (As := [.int a1, .int 0, .int 1]) (st := []) C (uX7_within l G hG V a1 0 1) ysX7_within mlX7_54 rfl rfl rfl rfl (gR_le (by decide) (by decide)) (Nat.le_of_ble_eq_true rfl) dX7_text_3 rfl (fun x1 V2 => ?_)
  refine s_if_ne (tgt := 15) (q := 9) C dX7_text_6 (by decide) rfl (fun c3 => ?_) (fun c3 => ?_)
  · refine s_aload_n (q := 10) C 0 dX7_text_9 rfl rfl rfl ?_
    refine s_iconst (q := 11) (v := 1) C dX7_text_10 rfl (by decide) ?_
    refine s_Vi (q := 14) (As := [.int 1]) (st := []) C (uX7_error l G hG V2 1) yvX7_error mlX7_58 (s70 hG) rfl rfl rfl rfl rfl rfl (gR_le (by decide) (by decide)) (Nat.le_of_ble_eq_true rfl) dX7_text_11 rfl (fun x18 V19 => ?_)
    exact s_iret C E dX7_text_14
  · refine s_aload_n (q := 16) C 0 dX7_text_15 rfl rfl rfl ?_
    refine geX7_3 (q := 19) C (s70 hG) flX7_25 dX7_text_16 rfl ?_
    refine s_aload_n (q := 20) C 0 dX7_text_19 rfl rfl rfl ?_
    refine geX7_0 (q := 23) C (s70 hG) flX7_10 dX7_text_20 rfl ?_
    refine geX6_6 (q := 26) C (qX7_0 hG (s70 hG)) flX7_159 dX7_text_23 rfl ?_
    refine s_aload_n (q := 27) C 0 dX7_text_26 rfl rfl rfl ?_
    refine geX7_0 (q := 30) C (s70 hG) flX7_10 dX7_text_27 rfl ?_
    refine geX6_10 (q := 33) C (qX7_0 hG (s70 hG)) flX7_156 dX7_text_30 rfl ?_
    refine s_iload_n (q := 34) C 1 dX7_text_33 rfl rfl rfl ?_
    refine s_jn (fun J7 => ∀ (t5 : Nat) (h6 : G.2.2.1 t5 = (some (.inl 3) : gK)), gSm l (gR 65 1613) 3 G X (J7 t5) (rr, VV) V2 46 [(0, .ref (G.1 0)), (1, .int a1)] [.ref (G.1 t5), .int (V2 (0 + 1) 10), .ref (G.1 ((0 + 1) + 12)), .ref (G.1 (0 + 91))]) ?_ (fun J7 hJ7 => ?_)
    · intro t5 h6
      refine s_Vi (q := 49) (As := [.ref (G.1 ((0 + 1) + 12)), .int (V2 (0 + 1) 10), .ref (G.1 t5)]) (st := []) C (uX2_faultOf l G hG V2 (0 + 91) ((0 + 1) + 12) 50 (V2 (0 + 1) 10) t5 3 (qX7_3 hG (s70 hG)) (qX6_6 hG (qX7_0 hG (s70 hG))) h6) yvX2_faultOf mlX7_172 (qX7_3 hG (s70 hG)) rfl rfl rfl rfl rfl rfl (gR_le (by decide) (by decide)) (Nat.le_of_ble_eq_true rfl) dX7_text_46 rfl (fun x8 V9 => ?_)
      refine s_istore_n (q := 50) (L' := [(2, .int x8), (0, .ref (G.1 0)), (1, .int a1)]) C dX7_text_49 rfl rfl (by decide) rfl ?_
      refine s_aload_n (q := 51) C 1 dX7_text_50 rfl rfl rfl ?_
      refine geX7_0 (q := 54) C (s70 hG) flX7_10 dX7_text_51 rfl ?_
      refine s_iconst (q := 55) (v := 0) C dX7_text_54 rfl (by decide) ?_
      refine peX6_10 (q := 58) C (qX7_0 hG (s70 hG)) flX7_156 dX7_text_55 rfl (fun V10 => ?_)
      refine s_iload_n (q := 59) C 0 dX7_text_58 rfl rfl rfl ?_
      refine s_if_lt (tgt := 67) (q := 62) C dX7_text_59 (by decide) rfl (fun c11 => ?_) (fun c11 => ?_)
      · refine s_aload_n (q := 68) C 1 dX7_text_67 rfl rfl rfl ?_
        refine geX7_0 (q := 71) C (s70 hG) flX7_10 dX7_text_68 rfl ?_
        refine s_iload_n (q := 72) C 2 dX7_text_71 rfl rfl rfl ?_
        refine s_Vr (q := 75) (As := [.int a1]) (st := []) C (uX6_textOf l G hG V10 (0 + 1) a1 (qX7_0 hG (s70 hG))) yvX6_textOf mlX7_176 (qX7_0 hG (s70 hG)) rfl rfl (fun t => G.2.2.1 t = kX4 t) (rX6_textOf G hG V10 (0 + 1) a1 (qX7_0 hG (s70 hG))) rfl rfl rfl rfl (gR_le (by decide) (by decide)) (Nat.le_of_ble_eq_true rfl) dX7_text_72 rfl (fun t12 V13 h14 => ?_)
        refine s_aload_n (q := 76) C 1 dX7_text_75 rfl rfl rfl ?_
        refine geX7_3 (q := 79) C (s70 hG) flX7_25 dX7_text_76 rfl ?_
        refine geX2_0 (q := 82) C (qX7_3 hG (s70 hG)) flX7_180 dX7_text_79 rfl ?_
        refine s_Vv (q := 85) (As := [.ref (G.1 ((0 + 91) + 1))]) (st := []) C (uX4_copyFrom l G hG V13 t12 ((0 + 91) + 1) h14 (qX2_0 hG (qX7_3 hG (s70 hG)))) yvX4_copyFrom mlX7_184 h14 rfl rfl rfl rfl rfl rfl (gR_le (by decide) (by decide)) (Nat.le_of_ble_eq_true rfl) dX7_text_82 rfl (fun V15 => ?_)
        refine s_aload_n (q := 86) C 1 dX7_text_85 rfl rfl rfl ?_
        refine geX7_0 (q := 89) C (s70 hG) flX7_10 dX7_text_86 rfl ?_
        refine s_Vv (q := 92) (As := []) (st := []) C (uX6_measureCakes l G hG V15 (0 + 1) (qX7_0 hG (s70 hG))) yvX6_measureCakes mlX7_104 (qX7_0 hG (s70 hG)) rfl rfl rfl rfl rfl rfl (gR_le (by decide) (by decide)) (Nat.le_of_ble_eq_true rfl) dX7_text_89 rfl (fun V16 => ?_)
        refine s_iconst (q := 93) (v := 1) C dX7_text_92 rfl (by decide) ?_
        exact s_iret C E dX7_text_93
      · refine s_bipush (q := 64) (v := (-10)) C dX7_text_62 rfl (by decide) ?_
        refine s_iload_n (q := 65) C 0 dX7_text_64 rfl rfl rfl ?_
        refine s_isub (q := 66) C dX7_text_65 rfl ?_
        exact s_iret C E dX7_text_66
    · refine s_if_ne (tgt := 43) (q := 37) C dX7_text_34 (by decide) rfl (fun c17 => ?_) (fun c17 => ?_)
      · refine s_gets (q := 40) C (zX_113 hG) flX7_166 dX7_text_37 rfl ?_
        refine s_goto (q := 46) C dX7_text_40 (by decide) ?_
        refine s_sub [0, 1] rfl ?_
        exact hJ7 113 (zs_113 hG)
      · refine s_gets (q := 46) C (zX_114 hG) flX7_169 dX7_text_43 rfl ?_
        refine s_sub [0, 1] rfl ?_
        exact hJ7 114 (zs_114 hG)
noncomputable def fX7_law (V : gV) (a1 : Int32) (a2 : Int32) (a3 : Int32) (a4 : Int32) : Option (Int32 × gV) := gbi (fX7_within V a1 0 1) fun (x1 : Int32) (V2 : gV) => if x1 = 0 then (gbi (fX7_error V2 1) fun (x6 : Int32) (V7 : gV) => some (x6, V7)) else (gbi (fX6_given V2 (0 + 1) a1 a2 a3 a4) fun (x4 : Int32) (V5 : gV) => some (x4, V5))
set_option maxHeartbeats 4000000 in
set_option maxRecDepth 100000 in
theorem uX7_law (l : Launch) (G : gG) (hG : gIsX G) (V : gV) (a1 : Int32) (a2 : Int32) (a3 : Int32) (a4 : Int32) : gMi l G yX7_law cX7_law 5 Jvm.ClassFile.FieldType.int (gR 3 76) [.ref (G.1 0), .int a1, .int a2, .int a3, .int a4] V (fX7_law V a1 a2 a3 a4) := by
  unfold fX7_law
  refine gM_i (by decide +kernel) rfl rfl (Nat.le_of_ble_eq_true rfl) (fun X rr VV C E => ?_)
  change gC cX7_law 5 RX7 G X at C
  change gSm l (gR 3 76) 5 G X _ (rr, VV) V 0 [(0, .ref (G.1 0)), (1, .int a1), (2, .int a2), (3, .int a3), (4, .int a4)] []
  refine s_iload_n (q := 1) C 1 dX7_law_0 rfl rfl rfl ?_
  refine s_iconst (q := 2) (v := 0) C dX7_law_1 rfl (by decide) ?_
  refine s_iconst (q := 3) (v := 1) C dX7_law_2 rfl (by decide) ?_
  refine s_Si (q := 6) (As := [.int a1, .int 0, .int 1]) (st := []) C (uX7_within l G hG V a1 0 1) ysX7_within mlX7_54 rfl rfl rfl rfl (gR_le (by decide) (by decide)) (Nat.le_of_ble_eq_true rfl) dX7_law_3 rfl (fun x1 V2 => ?_)
  refine s_if_ne (tgt := 15) (q := 9) C dX7_law_6 (by decide) rfl (fun c3 => ?_) (fun c3 => ?_)
  · refine s_aload_n (q := 10) C 0 dX7_law_9 rfl rfl rfl ?_
    refine s_iconst (q := 11) (v := 1) C dX7_law_10 rfl (by decide) ?_
    refine s_Vi (q := 14) (As := [.int 1]) (st := []) C (uX7_error l G hG V2 1) yvX7_error mlX7_58 (s70 hG) rfl rfl rfl rfl rfl rfl (gR_le (by decide) (by decide)) (Nat.le_of_ble_eq_true rfl) dX7_law_11 rfl (fun x6 V7 => ?_)
    exact s_iret C E dX7_law_14
  · refine s_aload_n (q := 16) C 0 dX7_law_15 rfl rfl rfl ?_
    refine geX7_0 (q := 19) C (s70 hG) flX7_10 dX7_law_16 rfl ?_
    refine s_iload_n (q := 20) C 1 dX7_law_19 rfl rfl rfl ?_
    refine s_iload_n (q := 21) C 2 dX7_law_20 rfl rfl rfl ?_
    refine s_iload_n (q := 22) C 3 dX7_law_21 rfl rfl rfl ?_
    refine s_iload (q := 24) C 4 dX7_law_22 rfl rfl ?_
    refine s_Vi (q := 27) (As := [.int a1, .int a2, .int a3, .int a4]) (st := []) C (uX6_given l G hG V2 (0 + 1) a1 a2 a3 a4 (qX7_0 hG (s70 hG))) yvX6_given mlX7_190 (qX7_0 hG (s70 hG)) rfl rfl rfl rfl rfl rfl (gR_le (by decide) (by decide)) (Nat.le_of_ble_eq_true rfl) dX7_law_24 rfl (fun x4 V5 => ?_)
    exact s_iret C E dX7_law_27
noncomputable def fX7_days (V : gV) (a1 : Int32) : Option (Int32 × gV) := gbi (fX7_within V a1 1 99) fun (x1 : Int32) (V2 : gV) => if x1 = 0 then (gbi (fX7_error V2 1) fun (x10 : Int32) (V11 : gV) => some (x10, V11)) else (if (V2 (0 + 1) 12) ≤ (9999 - a1) then (gbv (fX6_passDays V2 (0 + 1) a1) fun (V5 : gV) => gbi (fX6_goneCakes V5 (0 + 1)) fun (x6 : Int32) (V7 : gV) => some (x6, V7)) else (gbi (fX7_error V2 3) fun (x8 : Int32) (V9 : gV) => some (x8, V9)))
set_option maxHeartbeats 4000000 in
set_option maxRecDepth 100000 in
theorem uX7_days (l : Launch) (G : gG) (hG : gIsX G) (V : gV) (a1 : Int32) : gMi l G yX7_days cX7_days 2 Jvm.ClassFile.FieldType.int (gR 6 142) [.ref (G.1 0), .int a1] V (fX7_days V a1) := by
  unfold fX7_days
  refine gM_i (by decide +kernel) rfl rfl (Nat.le_of_ble_eq_true rfl) (fun X rr VV C E => ?_)
  change gC cX7_days 2 RX7 G X at C
  change gSm l (gR 6 142) 2 G X _ (rr, VV) V 0 [(0, .ref (G.1 0)), (1, .int a1)] []
  refine s_iload_n (q := 1) C 1 dX7_days_0 rfl rfl rfl ?_
  refine s_iconst (q := 2) (v := 1) C dX7_days_1 rfl (by decide) ?_
  refine s_bipush (q := 4) (v := 99) C dX7_days_2 rfl (by decide) ?_
  refine s_Si (q := 7) (As := [.int a1, .int 1, .int 99]) (st := []) C (uX7_within l G hG V a1 1 99) ysX7_within mlX7_54 rfl rfl rfl rfl (gR_le (by decide) (by decide)) (Nat.le_of_ble_eq_true rfl) dX7_days_4 rfl (fun x1 V2 => ?_)
  refine s_if_ne (tgt := 16) (q := 10) C dX7_days_7 (by decide) rfl (fun c3 => ?_) (fun c3 => ?_)
  · refine s_aload_n (q := 11) C 0 dX7_days_10 rfl rfl rfl ?_
    refine s_iconst (q := 12) (v := 1) C dX7_days_11 rfl (by decide) ?_
    refine s_Vi (q := 15) (As := [.int 1]) (st := []) C (uX7_error l G hG V2 1) yvX7_error mlX7_58 (s70 hG) rfl rfl rfl rfl rfl rfl (gR_le (by decide) (by decide)) (Nat.le_of_ble_eq_true rfl) dX7_days_12 rfl (fun x10 V11 => ?_)
    exact s_iret C E dX7_days_15
  · refine s_aload_n (q := 17) C 0 dX7_days_16 rfl rfl rfl ?_
    refine geX7_0 (q := 20) C (s70 hG) flX7_10 dX7_days_17 rfl ?_
    refine geX6_12 (q := 23) C (qX7_0 hG (s70 hG)) flX7_194 dX7_days_20 rfl ?_
    refine s_sipush (q := 26) (v := 9999) C dX7_days_23 rfl (by decide) ?_
    refine s_iload_n (q := 27) C 1 dX7_days_26 rfl rfl rfl ?_
    refine s_isub (q := 28) C dX7_days_27 rfl ?_
    refine s_icmp_le (tgt := 37) (q := 31) C dX7_days_28 (by decide) rfl (fun c4 => ?_) (fun c4 => ?_)
    · refine s_aload_n (q := 38) C 0 dX7_days_37 rfl rfl rfl ?_
      refine geX7_0 (q := 41) C (s70 hG) flX7_10 dX7_days_38 rfl ?_
      refine s_iload_n (q := 42) C 1 dX7_days_41 rfl rfl rfl ?_
      refine s_Vv (q := 45) (As := [.int a1]) (st := []) C (uX6_passDays l G hG V2 (0 + 1) a1 (qX7_0 hG (s70 hG))) yvX6_passDays mlX7_197 (qX7_0 hG (s70 hG)) rfl rfl rfl rfl rfl rfl (gR_le (by decide) (by decide)) (Nat.le_of_ble_eq_true rfl) dX7_days_42 rfl (fun V5 => ?_)
      refine s_aload_n (q := 46) C 0 dX7_days_45 rfl rfl rfl ?_
      refine geX7_0 (q := 49) C (s70 hG) flX7_10 dX7_days_46 rfl ?_
      refine s_Vi (q := 52) (As := []) (st := []) C (uX6_goneCakes l G hG V5 (0 + 1) (qX7_0 hG (s70 hG))) yvX6_goneCakes mlX7_200 (qX7_0 hG (s70 hG)) rfl rfl rfl rfl rfl rfl (gR_le (by decide) (by decide)) (Nat.le_of_ble_eq_true rfl) dX7_days_49 rfl (fun x6 V7 => ?_)
      exact s_iret C E dX7_days_52
    · refine s_aload_n (q := 32) C 0 dX7_days_31 rfl rfl rfl ?_
      refine s_iconst (q := 33) (v := 3) C dX7_days_32 rfl (by decide) ?_
      refine s_Vi (q := 36) (As := [.int 3]) (st := []) C (uX7_error l G hG V2 3) yvX7_error mlX7_58 (s70 hG) rfl rfl rfl rfl rfl rfl (gR_le (by decide) (by decide)) (Nat.le_of_ble_eq_true rfl) dX7_days_33 rfl (fun x8 V9 => ?_)
      exact s_iret C E dX7_days_36
noncomputable def fX7_loose_L1b (a1 : Int32) (B7 : gV → Int32 → Option (Int32 × gV)) (V5 : gV) (x6 : Int32) : Option (Int32 × gV) := if a1 ≤ x6 then (gbi (fX6_goneCakes V5 (0 + 1)) fun (x9 : Int32) (V10 : gV) => some (x9, V10)) else (gbv (fX6_drawHands V5 (0 + 1)) fun (V11 : gV) => gbv (fX6_passDay V11 (0 + 1)) fun (V12 : gV) => B7 V12 ((x6 + 1)))
noncomputable def fX7_loose_L1 (a1 : Int32) : Nat → gV → Int32 → Option (Int32 × gV)
  | 0 => fun _ _ => none
  | n + 1 => fX7_loose_L1b a1 (fX7_loose_L1 a1 n)
noncomputable def fX7_loose (V : gV) (a1 : Int32) : Option (Int32 × gV) := gbi (fX7_within V a1 1 40) fun (x1 : Int32) (V2 : gV) => if x1 = 0 then (gbi (fX7_error V2 1) fun (x15 : Int32) (V16 : gV) => some (x15, V16)) else (if (V2 (0 + 1) 12) ≤ (9999 - a1) then (fX7_loose_L1 a1 gFu V2 0) else (gbi (fX7_error V2 3) fun (x13 : Int32) (V14 : gV) => some (x13, V14)))
set_option maxHeartbeats 4000000 in
set_option maxRecDepth 100000 in
theorem uX7_loose (l : Launch) (G : gG) (hG : gIsX G) (V : gV) (a1 : Int32) : gMi l G yX7_loose cX7_loose 3 Jvm.ClassFile.FieldType.int (gR 5 120) [.ref (G.1 0), .int a1] V (fX7_loose V a1) := by
  unfold fX7_loose
  refine gM_i (by decide +kernel) rfl rfl (Nat.le_of_ble_eq_true rfl) (fun X rr VV C E => ?_)
  change gC cX7_loose 3 RX7 G X at C
  change gSm l (gR 5 120) 3 G X _ (rr, VV) V 0 [(0, .ref (G.1 0)), (1, .int a1)] []
  refine s_iload_n (q := 1) C 1 dX7_loose_0 rfl rfl rfl ?_
  refine s_iconst (q := 2) (v := 1) C dX7_loose_1 rfl (by decide) ?_
  refine s_bipush (q := 4) (v := 40) C dX7_loose_2 rfl (by decide) ?_
  refine s_Si (q := 7) (As := [.int a1, .int 1, .int 40]) (st := []) C (uX7_within l G hG V a1 1 40) ysX7_within mlX7_54 rfl rfl rfl rfl (gR_le (by decide) (by decide)) (Nat.le_of_ble_eq_true rfl) dX7_loose_4 rfl (fun x1 V2 => ?_)
  refine s_if_ne (tgt := 16) (q := 10) C dX7_loose_7 (by decide) rfl (fun c3 => ?_) (fun c3 => ?_)
  · refine s_aload_n (q := 11) C 0 dX7_loose_10 rfl rfl rfl ?_
    refine s_iconst (q := 12) (v := 1) C dX7_loose_11 rfl (by decide) ?_
    refine s_Vi (q := 15) (As := [.int 1]) (st := []) C (uX7_error l G hG V2 1) yvX7_error mlX7_58 (s70 hG) rfl rfl rfl rfl rfl rfl (gR_le (by decide) (by decide)) (Nat.le_of_ble_eq_true rfl) dX7_loose_12 rfl (fun x15 V16 => ?_)
    exact s_iret C E dX7_loose_15
  · refine s_aload_n (q := 17) C 0 dX7_loose_16 rfl rfl rfl ?_
    refine geX7_0 (q := 20) C (s70 hG) flX7_10 dX7_loose_17 rfl ?_
    refine geX6_12 (q := 23) C (qX7_0 hG (s70 hG)) flX7_194 dX7_loose_20 rfl ?_
    refine s_sipush (q := 26) (v := 9999) C dX7_loose_23 rfl (by decide) ?_
    refine s_iload_n (q := 27) C 1 dX7_loose_26 rfl rfl rfl ?_
    refine s_isub (q := 28) C dX7_loose_27 rfl ?_
    refine s_icmp_le (tgt := 37) (q := 31) C dX7_loose_28 (by decide) rfl (fun c4 => ?_) (fun c4 => ?_)
    · refine s_iconst (q := 38) (v := 0) C dX7_loose_37 rfl (by decide) ?_
      refine s_istore_n (q := 39) (L' := [(2, .int 0), (0, .ref (G.1 0)), (1, .int a1)]) C dX7_loose_38 rfl rfl (by decide) rfl ?_
      have hL1 : ∀ (n : Nat) (V5 : gV) (x6 : Int32), gSm l (gR 5 120) 3 G X (fX7_loose_L1 a1 n V5 x6) (rr, VV) V5 39 [(0, .ref (G.1 0)), (1, .int a1), (2, .int x6)] [] := by
        intro n
        induction n with
        | zero => exact fun V5 x6 => s_none
        | succ n ih =>
          intro V5 x6
          show gSm l (gR 5 120) 3 G X (fX7_loose_L1b a1 (fX7_loose_L1 a1 n) V5 x6) (rr, VV) V5 39 [(0, .ref (G.1 0)), (1, .int a1), (2, .int x6)] []
          generalize fX7_loose_L1 a1 n = B7 at ih ⊢
          have hB7 := ih
          unfold fX7_loose_L1b
          refine s_iload_n (q := 40) C 2 dX7_loose_39 rfl rfl rfl ?_
          refine s_iload_n (q := 41) C 1 dX7_loose_40 rfl rfl rfl ?_
          refine s_icmp_ge (tgt := 64) (q := 44) C dX7_loose_41 (by decide) rfl (fun c8 => ?_) (fun c8 => ?_)
          · refine s_aload_n (q := 65) C 0 dX7_loose_64 rfl rfl rfl ?_
            refine geX7_0 (q := 68) C (s70 hG) flX7_10 dX7_loose_65 rfl ?_
            refine s_Vi (q := 71) (As := []) (st := []) C (uX6_goneCakes l G hG V5 (0 + 1) (qX7_0 hG (s70 hG))) yvX6_goneCakes mlX7_200 (qX7_0 hG (s70 hG)) rfl rfl rfl rfl rfl rfl (gR_le (by decide) (by decide)) (Nat.le_of_ble_eq_true rfl) dX7_loose_68 rfl (fun x9 V10 => ?_)
            exact s_iret C E dX7_loose_71
          · refine s_aload_n (q := 45) C 0 dX7_loose_44 rfl rfl rfl ?_
            refine geX7_0 (q := 48) C (s70 hG) flX7_10 dX7_loose_45 rfl ?_
            refine s_Vv (q := 51) (As := []) (st := []) C (uX6_drawHands l G hG V5 (0 + 1) (qX7_0 hG (s70 hG))) yvX6_drawHands mlX7_203 (qX7_0 hG (s70 hG)) rfl rfl rfl rfl rfl rfl (gR_le (by decide) (by decide)) (Nat.le_of_ble_eq_true rfl) dX7_loose_48 rfl (fun V11 => ?_)
            refine s_aload_n (q := 52) C 0 dX7_loose_51 rfl rfl rfl ?_
            refine geX7_0 (q := 55) C (s70 hG) flX7_10 dX7_loose_52 rfl ?_
            refine s_Vv (q := 58) (As := []) (st := []) C (uX6_passDay l G hG V11 (0 + 1) (qX7_0 hG (s70 hG))) yvX6_passDay mlX7_206 (qX7_0 hG (s70 hG)) rfl rfl rfl rfl rfl rfl (gR_le (by decide) (by decide)) (Nat.le_of_ble_eq_true rfl) dX7_loose_55 rfl (fun V12 => ?_)
            refine s_iinc (q := 61) (w := 1) (L' := [(2, .int (x6 + 1)), (0, .ref (G.1 0)), (1, .int a1)]) C 2 dX7_loose_58 rfl rfl (by decide) rfl (by decide) rfl ?_
            refine s_goto (q := 39) C dX7_loose_61 (by decide) ?_
            refine s_sub [1, 2, 0] rfl ?_
            exact hB7 V12 ((x6 + 1))
      refine s_sub [1, 2, 0] rfl ?_
      exact hL1 gFu V2 0
    · refine s_aload_n (q := 32) C 0 dX7_loose_31 rfl rfl rfl ?_
      refine s_iconst (q := 33) (v := 3) C dX7_loose_32 rfl (by decide) ?_
      refine s_Vi (q := 36) (As := [.int 3]) (st := []) C (uX7_error l G hG V2 3) yvX7_error mlX7_58 (s70 hG) rfl rfl rfl rfl rfl rfl (gR_le (by decide) (by decide)) (Nat.le_of_ble_eq_true rfl) dX7_loose_33 rfl (fun x13 V14 => ?_)
      exact s_iret C E dX7_loose_36
noncomputable def fX7_isGuest (V : gV) (a0 : Int32) : Option (Int32 × gV) := gbi (fX7_within V a0 0 9) fun (x1 : Int32) (V2 : gV) => gzb x1 (some (x1, V2))
set_option maxHeartbeats 4000000 in
set_option maxRecDepth 100000 in
theorem uX7_isGuest (l : Launch) (G : gG) (hG : gIsX G) (V : gV) (a0 : Int32) : gMi l G yX7_isGuest cX7_isGuest 1 Jvm.ClassFile.FieldType.boolean (gR 1 22) [.int a0] V (fX7_isGuest V a0) := by
  unfold fX7_isGuest
  refine gM_i (by decide +kernel) rfl rfl (Nat.le_of_ble_eq_true rfl) (fun X rr VV C E => ?_)
  change gC cX7_isGuest 1 RX7 G X at C
  change gSm l (gR 1 22) 1 G X _ (rr, VV) V 0 [(0, .int a0)] []
  refine s_iload_n (q := 1) C 0 dX7_isGuest_0 rfl rfl rfl ?_
  refine s_iconst (q := 2) (v := 0) C dX7_isGuest_1 rfl (by decide) ?_
  refine s_bipush (q := 4) (v := 9) C dX7_isGuest_2 rfl (by decide) ?_
  refine s_Si (q := 7) (As := [.int a0, .int 0, .int 9]) (st := []) C (uX7_within l G hG V a0 0 9) ysX7_within mlX7_54 rfl rfl rfl rfl (gR_le (by decide) (by decide)) (Nat.le_of_ble_eq_true rfl) dX7_isGuest_4 rfl (fun x1 V2 => ?_)
  exact s_zret2 C E dX7_isGuest_7
noncomputable def fX7_where (V : gV) (a1 : Int32) : Option (Int32 × gV) := gbi (fX7_isGuest V a1) fun (x1 : Int32) (V2 : gV) => if x1 = 0 then (gbi (fX7_error V2 1) fun (x4 : Int32) (V5 : gV) => some (x4, V5)) else (gbi (fX6_housesOf V2 (0 + 1) a1) fun (x6 : Int32) (V7 : gV) => some (x6, V7))
set_option maxHeartbeats 4000000 in
set_option maxRecDepth 100000 in
theorem uX7_where (l : Launch) (G : gG) (hG : gIsX G) (V : gV) (a1 : Int32) : gMi l G yX7_where cX7_where 2 Jvm.ClassFile.FieldType.int (gR 6 132) [.ref (G.1 0), .int a1] V (fX7_where V a1) := by
  unfold fX7_where
  refine gM_i (by decide +kernel) rfl rfl (Nat.le_of_ble_eq_true rfl) (fun X rr VV C E => ?_)
  change gC cX7_where 2 RX7 G X at C
  change gSm l (gR 6 132) 2 G X _ (rr, VV) V 0 [(0, .ref (G.1 0)), (1, .int a1)] []
  refine s_iload_n (q := 1) C 1 dX7_where_0 rfl rfl rfl ?_
  refine s_Si (q := 4) (As := [.int a1]) (st := []) C (uX7_isGuest l G hG V a1) ysX7_isGuest mlX7_209 rfl rfl rfl rfl (gR_le (by decide) (by decide)) (Nat.le_of_ble_eq_true rfl) dX7_where_1 rfl (fun x1 V2 => ?_)
  refine s_if_eq (tgt := 18) (q := 7) C dX7_where_4 (by decide) rfl (fun c3 => ?_) (fun c3 => ?_)
  · refine s_aload_n (q := 19) C 0 dX7_where_18 rfl rfl rfl ?_
    refine s_iconst (q := 20) (v := 1) C dX7_where_19 rfl (by decide) ?_
    refine s_Vi (q := 23) (As := [.int 1]) (st := []) C (uX7_error l G hG V2 1) yvX7_error mlX7_58 (s70 hG) rfl rfl rfl rfl rfl rfl (gR_le (by decide) (by decide)) (Nat.le_of_ble_eq_true rfl) dX7_where_20 rfl (fun x4 V5 => ?_)
    exact s_iret C E dX7_where_23
  · refine s_aload_n (q := 8) C 0 dX7_where_7 rfl rfl rfl ?_
    refine geX7_0 (q := 11) C (s70 hG) flX7_10 dX7_where_8 rfl ?_
    refine s_iload_n (q := 12) C 1 dX7_where_11 rfl rfl rfl ?_
    refine s_Vi (q := 15) (As := [.int a1]) (st := []) C (uX6_housesOf l G hG V2 (0 + 1) a1 (qX7_0 hG (s70 hG))) yvX6_housesOf mlX7_212 (qX7_0 hG (s70 hG)) rfl rfl rfl rfl rfl rfl (gR_le (by decide) (by decide)) (Nat.le_of_ble_eq_true rfl) dX7_where_12 rfl (fun x6 V7 => ?_)
    refine s_goto (q := 23) C dX7_where_15 (by decide) ?_
    exact s_iret C E dX7_where_23
noncomputable def fX7_twice (V : gV)  : Option (Int32 × gV) := gbi (fX6_dueTwice V (0 + 1)) fun (x1 : Int32) (V2 : gV) => some (x1, V2)
set_option maxHeartbeats 4000000 in
set_option maxRecDepth 100000 in
theorem uX7_twice (l : Launch) (G : gG) (hG : gIsX G) (V : gV)  : gMi l G yX7_twice cX7_twice 1 Jvm.ClassFile.FieldType.int (gR 5 111) [.ref (G.1 0)] V (fX7_twice V) := by
  unfold fX7_twice
  refine gM_i (by decide +kernel) rfl rfl (Nat.le_of_ble_eq_true rfl) (fun X rr VV C E => ?_)
  change gC cX7_twice 1 RX7 G X at C
  change gSm l (gR 5 111) 1 G X _ (rr, VV) V 0 [(0, .ref (G.1 0))] []
  refine s_aload_n (q := 1) C 0 dX7_twice_0 rfl rfl rfl ?_
  refine geX7_0 (q := 4) C (s70 hG) flX7_10 dX7_twice_1 rfl ?_
  refine s_Vi (q := 7) (As := []) (st := []) C (uX6_dueTwice l G hG V (0 + 1) (qX7_0 hG (s70 hG))) yvX6_dueTwice mlX7_215 (qX7_0 hG (s70 hG)) rfl rfl rfl rfl rfl rfl (gR_le (by decide) (by decide)) (Nat.le_of_ble_eq_true rfl) dX7_twice_4 rfl (fun x1 V2 => ?_)
  exact s_iret C E dX7_twice_7
noncomputable def fX7_then (V : gV) (a1 : Int32) (a2 : Int32) (a3 : Int32) : Option (Int32 × gV) := gbi (fX7_within V a1 0 99) fun (x1 : Int32) (V2 : gV) => if x1 = 0 then (gbi (fX7_error V2 1) fun (x4 : Int32) (V5 : gV) => some (x4, V5)) else (gbi (fX7_isCake V2 a2) fun (x6 : Int32) (V7 : gV) => if x6 = 0 then (gbi (fX7_error V7 1) fun (x9 : Int32) (V10 : gV) => some (x9, V10)) else (gbi (fX7_within V7 a3 0 1) fun (x11 : Int32) (V12 : gV) => if x11 = 0 then (gbi (fX7_error V12 1) fun (x22 : Int32) (V23 : gV) => some (x22, V23)) else (gbv (fX6_copyFrom V12 (0 + 61) (0 + 1)) fun (V14 : gV) => gbv (fX6_passDays V14 (0 + 61) a1) fun (V15 : gV) => gbr (fX6_cakeAt V15 (0 + 61) a2) fun (t16 : Nat) (V17 : gV) => if a3 = 0 then (gbi (fX0_shown V17 t16) fun (x20 : Int32) (V21 : gV) => some (x20, V21)) else (some ((V17 t16 5), V17)))))
set_option maxHeartbeats 4000000 in
set_option maxRecDepth 100000 in
theorem uX7_then (l : Launch) (G : gG) (hG : gIsX G) (V : gV) (a1 : Int32) (a2 : Int32) (a3 : Int32) : gMi l G yX7_then cX7_then 5 Jvm.ClassFile.FieldType.int (gR 6 188) [.ref (G.1 0), .int a1, .int a2, .int a3] V (fX7_then V a1 a2 a3) := by
  unfold fX7_then
  refine gM_i (by decide +kernel) rfl rfl (Nat.le_of_ble_eq_true rfl) (fun X rr VV C E => ?_)
  change gC cX7_then 5 RX7 G X at C
  change gSm l (gR 6 188) 5 G X _ (rr, VV) V 0 [(0, .ref (G.1 0)), (1, .int a1), (2, .int a2), (3, .int a3)] []
  refine s_iload_n (q := 1) C 1 dX7_then_0 rfl rfl rfl ?_
  refine s_iconst (q := 2) (v := 0) C dX7_then_1 rfl (by decide) ?_
  refine s_bipush (q := 4) (v := 99) C dX7_then_2 rfl (by decide) ?_
  refine s_Si (q := 7) (As := [.int a1, .int 0, .int 99]) (st := []) C (uX7_within l G hG V a1 0 99) ysX7_within mlX7_54 rfl rfl rfl rfl (gR_le (by decide) (by decide)) (Nat.le_of_ble_eq_true rfl) dX7_then_4 rfl (fun x1 V2 => ?_)
  refine s_if_eq (tgt := 27) (q := 10) C dX7_then_7 (by decide) rfl (fun c3 => ?_) (fun c3 => ?_)
  · refine s_aload_n (q := 28) C 0 dX7_then_27 rfl rfl rfl ?_
    refine s_iconst (q := 29) (v := 1) C dX7_then_28 rfl (by decide) ?_
    refine s_Vi (q := 32) (As := [.int 1]) (st := []) C (uX7_error l G hG V2 1) yvX7_error mlX7_58 (s70 hG) rfl rfl rfl rfl rfl rfl (gR_le (by decide) (by decide)) (Nat.le_of_ble_eq_true rfl) dX7_then_29 rfl (fun x4 V5 => ?_)
    exact s_iret C E dX7_then_32
  · refine s_aload_n (q := 11) C 0 dX7_then_10 rfl rfl rfl ?_
    refine s_iload_n (q := 12) C 2 dX7_then_11 rfl rfl rfl ?_
    refine s_Vi (q := 15) (As := [.int a2]) (st := []) C (uX7_isCake l G hG V2 a2) yvX7_isCake mlX7_107 (s70 hG) rfl rfl rfl rfl rfl rfl (gR_le (by decide) (by decide)) (Nat.le_of_ble_eq_true rfl) dX7_then_12 rfl (fun x6 V7 => ?_)
    refine s_if_eq (tgt := 27) (q := 18) C dX7_then_15 (by decide) rfl (fun c8 => ?_) (fun c8 => ?_)
    · refine s_aload_n (q := 28) C 0 dX7_then_27 rfl rfl rfl ?_
      refine s_iconst (q := 29) (v := 1) C dX7_then_28 rfl (by decide) ?_
      refine s_Vi (q := 32) (As := [.int 1]) (st := []) C (uX7_error l G hG V7 1) yvX7_error mlX7_58 (s70 hG) rfl rfl rfl rfl rfl rfl (gR_le (by decide) (by decide)) (Nat.le_of_ble_eq_true rfl) dX7_then_29 rfl (fun x9 V10 => ?_)
      exact s_iret C E dX7_then_32
    · refine s_iload_n (q := 19) C 3 dX7_then_18 rfl rfl rfl ?_
      refine s_iconst (q := 20) (v := 0) C dX7_then_19 rfl (by decide) ?_
      refine s_iconst (q := 21) (v := 1) C dX7_then_20 rfl (by decide) ?_
      refine s_Si (q := 24) (As := [.int a3, .int 0, .int 1]) (st := []) C (uX7_within l G hG V7 a3 0 1) ysX7_within mlX7_54 rfl rfl rfl rfl (gR_le (by decide) (by decide)) (Nat.le_of_ble_eq_true rfl) dX7_then_21 rfl (fun x11 V12 => ?_)
      refine s_if_ne (tgt := 33) (q := 27) C dX7_then_24 (by decide) rfl (fun c13 => ?_) (fun c13 => ?_)
      · refine s_aload_n (q := 28) C 0 dX7_then_27 rfl rfl rfl ?_
        refine s_iconst (q := 29) (v := 1) C dX7_then_28 rfl (by decide) ?_
        refine s_Vi (q := 32) (As := [.int 1]) (st := []) C (uX7_error l G hG V12 1) yvX7_error mlX7_58 (s70 hG) rfl rfl rfl rfl rfl rfl (gR_le (by decide) (by decide)) (Nat.le_of_ble_eq_true rfl) dX7_then_29 rfl (fun x22 V23 => ?_)
        exact s_iret C E dX7_then_32
      · refine s_aload_n (q := 34) C 0 dX7_then_33 rfl rfl rfl ?_
        refine geX7_2 (q := 37) C (s70 hG) flX7_19 dX7_then_34 rfl ?_
        refine s_aload_n (q := 38) C 0 dX7_then_37 rfl rfl rfl ?_
        refine geX7_0 (q := 41) C (s70 hG) flX7_10 dX7_then_38 rfl ?_
        refine s_Vv (q := 44) (As := [.ref (G.1 (0 + 1))]) (st := []) C (uX6_copyFrom l G hG V12 (0 + 61) (0 + 1) (qX7_2 hG (s70 hG)) (qX7_0 hG (s70 hG))) yvX6_copyFrom mlX7_218 (qX7_2 hG (s70 hG)) rfl rfl rfl rfl rfl rfl (gR_le (by decide) (by decide)) (Nat.le_of_ble_eq_true rfl) dX7_then_41 rfl (fun V14 => ?_)
        refine s_aload_n (q := 45) C 0 dX7_then_44 rfl rfl rfl ?_
        refine geX7_2 (q := 48) C (s70 hG) flX7_19 dX7_then_45 rfl ?_
        refine s_iload_n (q := 49) C 1 dX7_then_48 rfl rfl rfl ?_
        refine s_Vv (q := 52) (As := [.int a1]) (st := []) C (uX6_passDays l G hG V14 (0 + 61) a1 (qX7_2 hG (s70 hG))) yvX6_passDays mlX7_197 (qX7_2 hG (s70 hG)) rfl rfl rfl rfl rfl rfl (gR_le (by decide) (by decide)) (Nat.le_of_ble_eq_true rfl) dX7_then_49 rfl (fun V15 => ?_)
        refine s_aload_n (q := 53) C 0 dX7_then_52 rfl rfl rfl ?_
        refine geX7_2 (q := 56) C (s70 hG) flX7_19 dX7_then_53 rfl ?_
        refine s_iload_n (q := 57) C 2 dX7_then_56 rfl rfl rfl ?_
        refine s_Vr (q := 60) (As := [.int a2]) (st := []) C (uX6_cakeAt l G hG V15 (0 + 61) a2 (qX7_2 hG (s70 hG))) yvX6_cakeAt mlX7_94 (qX7_2 hG (s70 hG)) rfl rfl (fun t => G.2.2.1 t = kX0 t) (rX6_cakeAt G hG V15 (0 + 61) a2 (qX7_2 hG (s70 hG))) rfl rfl rfl rfl (gR_le (by decide) (by decide)) (Nat.le_of_ble_eq_true rfl) dX7_then_57 rfl (fun t16 V17 h18 => ?_)
        refine s_astore (q := 62) (L' := [(4, .ref (G.1 t16)), (0, .ref (G.1 0)), (1, .int a1), (2, .int a2), (3, .int a3)]) C dX7_then_60 rfl (by decide) rfl ?_
        refine s_iload_n (q := 63) C 4 dX7_then_62 rfl rfl rfl ?_
        refine s_if_ne (tgt := 74) (q := 66) C dX7_then_63 (by decide) rfl (fun c19 => ?_) (fun c19 => ?_)
        · refine s_aload (q := 68) C 0 dX7_then_66 rfl rfl ?_
          refine s_Vi (q := 71) (As := []) (st := []) C (uX0_shown l G hG V17 t16 h18) yvX0_shown mlX7_128 h18 rfl rfl rfl rfl rfl rfl (gR_le (by decide) (by decide)) (Nat.le_of_ble_eq_true rfl) dX7_then_68 rfl (fun x20 V21 => ?_)
          refine s_goto (q := 79) C dX7_then_71 (by decide) ?_
          exact s_iret C E dX7_then_79
        · refine s_aload (q := 76) C 0 dX7_then_74 rfl rfl ?_
          refine geX0_5 (q := 79) C h18 flX7_122 dX7_then_76 rfl ?_
          exact s_iret C E dX7_then_79
noncomputable def fX7_comes (V : gV) (a1 : Int32) (a2 : Int32) : Option (Int32 × gV) := gbi (fX7_isGuest V a1) fun (x1 : Int32) (V2 : gV) => if x1 = 0 then (gbi (fX7_error V2 1) fun (x4 : Int32) (V5 : gV) => some (x4, V5)) else (gbi (fX7_isHouse V2 a2) fun (x6 : Int32) (V7 : gV) => if x6 = 0 then (gbi (fX7_error V7 1) fun (x15 : Int32) (V16 : gV) => some (x15, V16)) else (gbv (fX6_copyFrom V7 (0 + 61) (0 + 1)) fun (V9 : gV) => gbi (fX6_firstDayIn V9 (0 + 61) a1 a2 100) fun (x10 : Int32) (V11 : gV) => if 0 ≤ x10 then (some (x10, V11)) else (gbi (fX7_error V11 2) fun (x13 : Int32) (V14 : gV) => some (x13, V14))))
set_option maxHeartbeats 4000000 in
set_option maxRecDepth 100000 in
theorem uX7_comes (l : Launch) (G : gG) (hG : gIsX G) (V : gV) (a1 : Int32) (a2 : Int32) : gMi l G yX7_comes cX7_comes 4 Jvm.ClassFile.FieldType.int (gR 6 188) [.ref (G.1 0), .int a1, .int a2] V (fX7_comes V a1 a2) := by
  unfold fX7_comes
  refine gM_i (by decide +kernel) rfl rfl (Nat.le_of_ble_eq_true rfl) (fun X rr VV C E => ?_)
  change gC cX7_comes 4 RX7 G X at C
  change gSm l (gR 6 188) 4 G X _ (rr, VV) V 0 [(0, .ref (G.1 0)), (1, .int a1), (2, .int a2)] []
  refine s_iload_n (q := 1) C 1 dX7_comes_0 rfl rfl rfl ?_
  refine s_Si (q := 4) (As := [.int a1]) (st := []) C (uX7_isGuest l G hG V a1) ysX7_isGuest mlX7_209 rfl rfl rfl rfl (gR_le (by decide) (by decide)) (Nat.le_of_ble_eq_true rfl) dX7_comes_1 rfl (fun x1 V2 => ?_)
  refine s_if_eq (tgt := 15) (q := 7) C dX7_comes_4 (by decide) rfl (fun c3 => ?_) (fun c3 => ?_)
  · refine s_aload_n (q := 16) C 0 dX7_comes_15 rfl rfl rfl ?_
    refine s_iconst (q := 17) (v := 1) C dX7_comes_16 rfl (by decide) ?_
    refine s_Vi (q := 20) (As := [.int 1]) (st := []) C (uX7_error l G hG V2 1) yvX7_error mlX7_58 (s70 hG) rfl rfl rfl rfl rfl rfl (gR_le (by decide) (by decide)) (Nat.le_of_ble_eq_true rfl) dX7_comes_17 rfl (fun x4 V5 => ?_)
    exact s_iret C E dX7_comes_20
  · refine s_aload_n (q := 8) C 0 dX7_comes_7 rfl rfl rfl ?_
    refine s_iload_n (q := 9) C 2 dX7_comes_8 rfl rfl rfl ?_
    refine s_Vi (q := 12) (As := [.int a2]) (st := []) C (uX7_isHouse l G hG V2 a2) yvX7_isHouse mlX7_78 (s70 hG) rfl rfl rfl rfl rfl rfl (gR_le (by decide) (by decide)) (Nat.le_of_ble_eq_true rfl) dX7_comes_9 rfl (fun x6 V7 => ?_)
    refine s_if_ne (tgt := 21) (q := 15) C dX7_comes_12 (by decide) rfl (fun c8 => ?_) (fun c8 => ?_)
    · refine s_aload_n (q := 16) C 0 dX7_comes_15 rfl rfl rfl ?_
      refine s_iconst (q := 17) (v := 1) C dX7_comes_16 rfl (by decide) ?_
      refine s_Vi (q := 20) (As := [.int 1]) (st := []) C (uX7_error l G hG V7 1) yvX7_error mlX7_58 (s70 hG) rfl rfl rfl rfl rfl rfl (gR_le (by decide) (by decide)) (Nat.le_of_ble_eq_true rfl) dX7_comes_17 rfl (fun x15 V16 => ?_)
      exact s_iret C E dX7_comes_20
    · refine s_aload_n (q := 22) C 0 dX7_comes_21 rfl rfl rfl ?_
      refine geX7_2 (q := 25) C (s70 hG) flX7_19 dX7_comes_22 rfl ?_
      refine s_aload_n (q := 26) C 0 dX7_comes_25 rfl rfl rfl ?_
      refine geX7_0 (q := 29) C (s70 hG) flX7_10 dX7_comes_26 rfl ?_
      refine s_Vv (q := 32) (As := [.ref (G.1 (0 + 1))]) (st := []) C (uX6_copyFrom l G hG V7 (0 + 61) (0 + 1) (qX7_2 hG (s70 hG)) (qX7_0 hG (s70 hG))) yvX6_copyFrom mlX7_218 (qX7_2 hG (s70 hG)) rfl rfl rfl rfl rfl rfl (gR_le (by decide) (by decide)) (Nat.le_of_ble_eq_true rfl) dX7_comes_29 rfl (fun V9 => ?_)
      refine s_aload_n (q := 33) C 0 dX7_comes_32 rfl rfl rfl ?_
      refine geX7_2 (q := 36) C (s70 hG) flX7_19 dX7_comes_33 rfl ?_
      refine s_iload_n (q := 37) C 1 dX7_comes_36 rfl rfl rfl ?_
      refine s_iload_n (q := 38) C 2 dX7_comes_37 rfl rfl rfl ?_
      refine s_bipush (q := 40) (v := 100) C dX7_comes_38 rfl (by decide) ?_
      refine s_Vi (q := 43) (As := [.int a1, .int a2, .int 100]) (st := []) C (uX6_firstDayIn l G hG V9 (0 + 61) a1 a2 100 (qX7_2 hG (s70 hG))) yvX6_firstDayIn mlX7_221 (qX7_2 hG (s70 hG)) rfl rfl rfl rfl rfl rfl (gR_le (by decide) (by decide)) (Nat.le_of_ble_eq_true rfl) dX7_comes_40 rfl (fun x10 V11 => ?_)
      refine s_istore_n (q := 44) (L' := [(3, .int x10), (0, .ref (G.1 0)), (1, .int a1), (2, .int a2)]) C dX7_comes_43 rfl rfl (by decide) rfl ?_
      refine s_iload_n (q := 45) C 0 dX7_comes_44 rfl rfl rfl ?_
      refine s_if_ge (tgt := 56) (q := 48) C dX7_comes_45 (by decide) rfl (fun c12 => ?_) (fun c12 => ?_)
      · refine s_iload_n (q := 57) C 0 dX7_comes_56 rfl rfl rfl ?_
        exact s_iret C E dX7_comes_57
      · refine s_aload_n (q := 49) C 1 dX7_comes_48 rfl rfl rfl ?_
        refine s_iconst (q := 50) (v := 2) C dX7_comes_49 rfl (by decide) ?_
        refine s_Vi (q := 53) (As := [.int 2]) (st := []) C (uX7_error l G hG V11 2) yvX7_error mlX7_58 (s70 hG) rfl rfl rfl rfl rfl rfl (gR_le (by decide) (by decide)) (Nat.le_of_ble_eq_true rfl) dX7_comes_50 rfl (fun x13 V14 => ?_)
        refine s_goto (q := 57) C dX7_comes_53 (by decide) ?_
        exact s_iret C E dX7_comes_57
noncomputable def fJ6_numberOfTrailingZeros_0f7a4 (V : gV) (a0 : Int32) : Option (Int32 × gV) := glt ((a0 ^^^ (-1)) &&& (a0 - 1)) fun (x1 : Int32) => if 0 < x1 then (gjn (fun (x5 : Int32) (x6 : Int32) => gjn (fun (x10 : Int32) (x11 : Int32) => gjn (fun (x15 : Int32) (x16 : Int32) => if x15 ≤ 4 then (some ((x16 + (gus x15 1)), V)) else (glt (gus x15 2) fun (x19 : Int32) => some (((x16 + 2) + (gus x19 1)), V))) fun J17 => if x10 ≤ 16 then (J17 x10 x11) else (glt (gus x10 4) fun (x21 : Int32) => J17 x21 ((x11 + 4)))) fun J12 => if x5 ≤ 256 then (J12 x5 x6) else (glt (gus x5 8) fun (x23 : Int32) => J12 x23 ((x6 + 8)))) fun J7 => if x1 ≤ 65536 then (J7 x1 1) else (glt (gus x1 16) fun (x25 : Int32) => J7 x25 ((1 + 16)))) else (some ((x1 &&& 32), V))
set_option maxHeartbeats 4000000 in
set_option maxRecDepth 100000 in
theorem uJ6_numberOfTrailingZeros_0f7a4 (l : Launch) (G : gG) (hG : gIsX G) (V : gV) (a0 : Int32) : gMi l G yJ6_numberOfTrailingZeros_0f7a4 cJ6_numberOfTrailingZeros_0f7a4 2 Jvm.ClassFile.FieldType.int (gR 0 0) [.int a0] V (fJ6_numberOfTrailingZeros_0f7a4 V a0) := by
  unfold fJ6_numberOfTrailingZeros_0f7a4
  refine gM_i (by decide +kernel) rfl rfl (Nat.le_of_ble_eq_true rfl) (fun X rr VV C E => ?_)
  change gC cJ6_numberOfTrailingZeros_0f7a4 2 RJ6 G X at C
  change gSm l (gR 0 0) 2 G X _ (rr, VV) V 0 [(0, .int a0)] []
  refine s_iload_n (q := 1) C 0 dJ6_numberOfTrailingZeros_0f7a4_0 rfl rfl rfl ?_
  refine s_iconst (q := 2) (v := (-1)) C dJ6_numberOfTrailingZeros_0f7a4_1 rfl (by decide) ?_
  refine s_ixor (q := 3) C dJ6_numberOfTrailingZeros_0f7a4_2 rfl ?_
  refine s_iload_n (q := 4) C 0 dJ6_numberOfTrailingZeros_0f7a4_3 rfl rfl rfl ?_
  refine s_iconst (q := 5) (v := 1) C dJ6_numberOfTrailingZeros_0f7a4_4 rfl (by decide) ?_
  refine s_isub (q := 6) C dJ6_numberOfTrailingZeros_0f7a4_5 rfl ?_
  refine s_iand (q := 7) C dJ6_numberOfTrailingZeros_0f7a4_6 rfl ?_
  refine s_lt (fun x1 => ?_)
  refine s_istore_n (q := 8) (L' := [(0, .int x1)]) C dJ6_numberOfTrailingZeros_0f7a4_7 rfl rfl (by decide) rfl ?_
  refine s_iload_n (q := 9) C 0 dJ6_numberOfTrailingZeros_0f7a4_8 rfl rfl rfl ?_
  refine s_if_gt (tgt := 17) (q := 12) C dJ6_numberOfTrailingZeros_0f7a4_9 (by decide) rfl (fun c2 => ?_) (fun c2 => ?_)
  · refine s_iconst (q := 18) (v := 1) C dJ6_numberOfTrailingZeros_0f7a4_17 rfl (by decide) ?_
    refine s_istore_n (q := 19) (L' := [(1, .int 1), (0, .int x1)]) C dJ6_numberOfTrailingZeros_0f7a4_18 rfl rfl (by decide) rfl ?_
    refine s_iload_n (q := 20) C 1 dJ6_numberOfTrailingZeros_0f7a4_19 rfl rfl rfl ?_
    refine s_ldc_w (q := 23) (v := 65536) C dJ6_numberOfTrailingZeros_0f7a4_20 rfl kJ6_264 ?_
    refine s_jn (fun J7 => ∀ (x5 : Int32) (x6 : Int32), gSm l (gR 0 0) 2 G X (J7 x5 x6) (rr, VV) V 34 [(0, .int x5), (1, .int x6)] []) ?_ (fun J7 hJ7 => ?_)
    · intro x5 x6
      refine s_iload_n (q := 35) C 0 dJ6_numberOfTrailingZeros_0f7a4_34 rfl rfl rfl ?_
      refine s_sipush (q := 38) (v := 256) C dJ6_numberOfTrailingZeros_0f7a4_35 rfl (by decide) ?_
      refine s_jn (fun J12 => ∀ (x10 : Int32) (x11 : Int32), gSm l (gR 0 0) 2 G X (J12 x10 x11) (rr, VV) V 49 [(0, .int x10), (1, .int x11)] []) ?_ (fun J12 hJ12 => ?_)
      · intro x10 x11
        refine s_iload_n (q := 50) C 0 dJ6_numberOfTrailingZeros_0f7a4_49 rfl rfl rfl ?_
        refine s_bipush (q := 52) (v := 16) C dJ6_numberOfTrailingZeros_0f7a4_50 rfl (by decide) ?_
        refine s_jn (fun J17 => ∀ (x15 : Int32) (x16 : Int32), gSm l (gR 0 0) 2 G X (J17 x15 x16) (rr, VV) V 62 [(0, .int x15), (1, .int x16)] []) ?_ (fun J17 hJ17 => ?_)
        · intro x15 x16
          refine s_iload_n (q := 63) C 0 dJ6_numberOfTrailingZeros_0f7a4_62 rfl rfl rfl ?_
          refine s_iconst (q := 64) (v := 4) C dJ6_numberOfTrailingZeros_0f7a4_63 rfl (by decide) ?_
          refine s_icmp_le (tgt := 74) (q := 67) C dJ6_numberOfTrailingZeros_0f7a4_64 (by decide) rfl (fun c18 => ?_) (fun c18 => ?_)
          · refine s_iload_n (q := 75) C 1 dJ6_numberOfTrailingZeros_0f7a4_74 rfl rfl rfl ?_
            refine s_iload_n (q := 76) C 0 dJ6_numberOfTrailingZeros_0f7a4_75 rfl rfl rfl ?_
            refine s_iconst (q := 77) (v := 1) C dJ6_numberOfTrailingZeros_0f7a4_76 rfl (by decide) ?_
            refine s_iushr (q := 78) C dJ6_numberOfTrailingZeros_0f7a4_77 rfl ?_
            refine s_iadd (q := 79) C dJ6_numberOfTrailingZeros_0f7a4_78 rfl ?_
            exact s_iret C E dJ6_numberOfTrailingZeros_0f7a4_79
          · refine s_iinc (q := 70) (w := 2) (L' := [(1, .int (x16 + 2)), (0, .int x15)]) C 1 dJ6_numberOfTrailingZeros_0f7a4_67 rfl rfl (by decide) rfl (by decide) rfl ?_
            refine s_iload_n (q := 71) C 1 dJ6_numberOfTrailingZeros_0f7a4_70 rfl rfl rfl ?_
            refine s_iconst (q := 72) (v := 2) C dJ6_numberOfTrailingZeros_0f7a4_71 rfl (by decide) ?_
            refine s_iushr (q := 73) C dJ6_numberOfTrailingZeros_0f7a4_72 rfl ?_
            refine s_lt (fun x19 => ?_)
            refine s_istore_n (q := 74) (L' := [(0, .int x19), (1, .int (x16 + 2))]) C dJ6_numberOfTrailingZeros_0f7a4_73 rfl rfl (by decide) rfl ?_
            refine s_iload_n (q := 75) C 1 dJ6_numberOfTrailingZeros_0f7a4_74 rfl rfl rfl ?_
            refine s_iload_n (q := 76) C 0 dJ6_numberOfTrailingZeros_0f7a4_75 rfl rfl rfl ?_
            refine s_iconst (q := 77) (v := 1) C dJ6_numberOfTrailingZeros_0f7a4_76 rfl (by decide) ?_
            refine s_iushr (q := 78) C dJ6_numberOfTrailingZeros_0f7a4_77 rfl ?_
            refine s_iadd (q := 79) C dJ6_numberOfTrailingZeros_0f7a4_78 rfl ?_
            exact s_iret C E dJ6_numberOfTrailingZeros_0f7a4_79
        · refine s_icmp_le (tgt := 62) (q := 55) C dJ6_numberOfTrailingZeros_0f7a4_52 (by decide) rfl (fun c20 => ?_) (fun c20 => ?_)
          · refine s_sub [0, 1] rfl ?_
            exact hJ17 x10 x11
          · refine s_iinc (q := 58) (w := 4) (L' := [(1, .int (x11 + 4)), (0, .int x10)]) C 1 dJ6_numberOfTrailingZeros_0f7a4_55 rfl rfl (by decide) rfl (by decide) rfl ?_
            refine s_iload_n (q := 59) C 1 dJ6_numberOfTrailingZeros_0f7a4_58 rfl rfl rfl ?_
            refine s_iconst (q := 60) (v := 4) C dJ6_numberOfTrailingZeros_0f7a4_59 rfl (by decide) ?_
            refine s_iushr (q := 61) C dJ6_numberOfTrailingZeros_0f7a4_60 rfl ?_
            refine s_lt (fun x21 => ?_)
            refine s_istore_n (q := 62) (L' := [(0, .int x21), (1, .int (x11 + 4))]) C dJ6_numberOfTrailingZeros_0f7a4_61 rfl rfl (by decide) rfl ?_
            refine s_sub [0, 1] rfl ?_
            exact hJ17 x21 ((x11 + 4))
      · refine s_icmp_le (tgt := 49) (q := 41) C dJ6_numberOfTrailingZeros_0f7a4_38 (by decide) rfl (fun c22 => ?_) (fun c22 => ?_)
        · refine s_sub [0, 1] rfl ?_
          exact hJ12 x5 x6
        · refine s_iinc (q := 44) (w := 8) (L' := [(1, .int (x6 + 8)), (0, .int x5)]) C 1 dJ6_numberOfTrailingZeros_0f7a4_41 rfl rfl (by decide) rfl (by decide) rfl ?_
          refine s_iload_n (q := 45) C 1 dJ6_numberOfTrailingZeros_0f7a4_44 rfl rfl rfl ?_
          refine s_bipush (q := 47) (v := 8) C dJ6_numberOfTrailingZeros_0f7a4_45 rfl (by decide) ?_
          refine s_iushr (q := 48) C dJ6_numberOfTrailingZeros_0f7a4_47 rfl ?_
          refine s_lt (fun x23 => ?_)
          refine s_istore_n (q := 49) (L' := [(0, .int x23), (1, .int (x6 + 8))]) C dJ6_numberOfTrailingZeros_0f7a4_48 rfl rfl (by decide) rfl ?_
          refine s_sub [0, 1] rfl ?_
          exact hJ12 x23 ((x6 + 8))
    · refine s_icmp_le (tgt := 34) (q := 26) C dJ6_numberOfTrailingZeros_0f7a4_23 (by decide) rfl (fun c24 => ?_) (fun c24 => ?_)
      · refine s_sub [1, 0] rfl ?_
        exact hJ7 x1 1
      · refine s_iinc (q := 29) (w := 16) (L' := [(1, .int (1 + 16)), (0, .int x1)]) C 0 dJ6_numberOfTrailingZeros_0f7a4_26 rfl rfl (by decide) rfl (by decide) rfl ?_
        refine s_iload_n (q := 30) C 1 dJ6_numberOfTrailingZeros_0f7a4_29 rfl rfl rfl ?_
        refine s_bipush (q := 32) (v := 16) C dJ6_numberOfTrailingZeros_0f7a4_30 rfl (by decide) ?_
        refine s_iushr (q := 33) C dJ6_numberOfTrailingZeros_0f7a4_32 rfl ?_
        refine s_lt (fun x25 => ?_)
        refine s_istore_n (q := 34) (L' := [(0, .int x25), (1, .int (1 + 16))]) C dJ6_numberOfTrailingZeros_0f7a4_33 rfl rfl (by decide) rfl ?_
        refine s_sub [0, 1] rfl ?_
        exact hJ7 x25 ((1 + 16))
  · refine s_iload_n (q := 13) C 0 dJ6_numberOfTrailingZeros_0f7a4_12 rfl rfl rfl ?_
    refine s_bipush (q := 15) (v := 32) C dJ6_numberOfTrailingZeros_0f7a4_13 rfl (by decide) ?_
    refine s_iand (q := 16) C dJ6_numberOfTrailingZeros_0f7a4_15 rfl ?_
    exact s_iret C E dJ6_numberOfTrailingZeros_0f7a4_16
noncomputable def fX7_clash_L1b (a1 : Int32) (B7 : gV → Int32 → Option (Int32 × gV)) (V5 : gV) (x6 : Int32) : Option (Int32 × gV) := if 99 < x6 then (gbi (fX7_error V5 2) fun (x9 : Int32) (V10 : gV) => some (x9, V10)) else (gbi (fX6_dueTwice V5 (0 + 61)) fun (x11 : Int32) (V12 : gV) => if x11 = 0 then (gbv (fX6_passDay V12 (0 + 61)) fun (V14 : gV) => B7 V14 ((x6 + 1))) else (if a1 = 0 then (some (x6, V12)) else (gbi (fJ6_numberOfTrailingZeros_0f7a4 V12 x11) fun (x16 : Int32) (V17 : gV) => some (x16, V17))))
noncomputable def fX7_clash_L1 (a1 : Int32) : Nat → gV → Int32 → Option (Int32 × gV)
  | 0 => fun _ _ => none
  | n + 1 => fX7_clash_L1b a1 (fX7_clash_L1 a1 n)
noncomputable def fX7_clash (V : gV) (a1 : Int32) : Option (Int32 × gV) := gbi (fX7_within V a1 0 1) fun (x1 : Int32) (V2 : gV) => if x1 = 0 then (gbi (fX7_error V2 1) fun (x18 : Int32) (V19 : gV) => some (x18, V19)) else (gbv (fX6_copyFrom V2 (0 + 61) (0 + 1)) fun (V4 : gV) => fX7_clash_L1 a1 gFu V4 0)
set_option maxHeartbeats 4000000 in
set_option maxRecDepth 100000 in
theorem uX7_clash (l : Launch) (G : gG) (hG : gIsX G) (V : gV) (a1 : Int32) : gMi l G yX7_clash cX7_clash 4 Jvm.ClassFile.FieldType.int (gR 5 188) [.ref (G.1 0), .int a1] V (fX7_clash V a1) := by
  unfold fX7_clash
  refine gM_i (by decide +kernel) rfl rfl (Nat.le_of_ble_eq_true rfl) (fun X rr VV C E => ?_)
  change gC cX7_clash 4 RX7 G X at C
  change gSm l (gR 5 188) 4 G X _ (rr, VV) V 0 [(0, .ref (G.1 0)), (1, .int a1)] []
  refine s_iload_n (q := 1) C 1 dX7_clash_0 rfl rfl rfl ?_
  refine s_iconst (q := 2) (v := 0) C dX7_clash_1 rfl (by decide) ?_
  refine s_iconst (q := 3) (v := 1) C dX7_clash_2 rfl (by decide) ?_
  refine s_Si (q := 6) (As := [.int a1, .int 0, .int 1]) (st := []) C (uX7_within l G hG V a1 0 1) ysX7_within mlX7_54 rfl rfl rfl rfl (gR_le (by decide) (by decide)) (Nat.le_of_ble_eq_true rfl) dX7_clash_3 rfl (fun x1 V2 => ?_)
  refine s_if_ne (tgt := 15) (q := 9) C dX7_clash_6 (by decide) rfl (fun c3 => ?_) (fun c3 => ?_)
  · refine s_aload_n (q := 10) C 0 dX7_clash_9 rfl rfl rfl ?_
    refine s_iconst (q := 11) (v := 1) C dX7_clash_10 rfl (by decide) ?_
    refine s_Vi (q := 14) (As := [.int 1]) (st := []) C (uX7_error l G hG V2 1) yvX7_error mlX7_58 (s70 hG) rfl rfl rfl rfl rfl rfl (gR_le (by decide) (by decide)) (Nat.le_of_ble_eq_true rfl) dX7_clash_11 rfl (fun x18 V19 => ?_)
    exact s_iret C E dX7_clash_14
  · refine s_aload_n (q := 16) C 0 dX7_clash_15 rfl rfl rfl ?_
    refine geX7_2 (q := 19) C (s70 hG) flX7_19 dX7_clash_16 rfl ?_
    refine s_aload_n (q := 20) C 0 dX7_clash_19 rfl rfl rfl ?_
    refine geX7_0 (q := 23) C (s70 hG) flX7_10 dX7_clash_20 rfl ?_
    refine s_Vv (q := 26) (As := [.ref (G.1 (0 + 1))]) (st := []) C (uX6_copyFrom l G hG V2 (0 + 61) (0 + 1) (qX7_2 hG (s70 hG)) (qX7_0 hG (s70 hG))) yvX6_copyFrom mlX7_218 (qX7_2 hG (s70 hG)) rfl rfl rfl rfl rfl rfl (gR_le (by decide) (by decide)) (Nat.le_of_ble_eq_true rfl) dX7_clash_23 rfl (fun V4 => ?_)
    refine s_iconst (q := 27) (v := 0) C dX7_clash_26 rfl (by decide) ?_
    refine s_istore_n (q := 28) (L' := [(2, .int 0), (0, .ref (G.1 0)), (1, .int a1)]) C dX7_clash_27 rfl rfl (by decide) rfl ?_
    have hL1 : ∀ (n : Nat) (V5 : gV) (x6 : Int32), gSm l (gR 5 188) 4 G X (fX7_clash_L1 a1 n V5 x6) (rr, VV) V5 28 [(0, .ref (G.1 0)), (1, .int a1), (2, .int x6)] [] := by
      intro n
      induction n with
      | zero => exact fun V5 x6 => s_none
      | succ n ih =>
        intro V5 x6
        show gSm l (gR 5 188) 4 G X (fX7_clash_L1b a1 (fX7_clash_L1 a1 n) V5 x6) (rr, VV) V5 28 [(0, .ref (G.1 0)), (1, .int a1), (2, .int x6)] []
        generalize fX7_clash_L1 a1 n = B7 at ih ⊢
        have hB7 := ih
        unfold fX7_clash_L1b
        refine s_iload_n (q := 29) C 2 dX7_clash_28 rfl rfl rfl ?_
        refine s_bipush (q := 31) (v := 99) C dX7_clash_29 rfl (by decide) ?_
        refine s_icmp_gt (tgt := 72) (q := 34) C dX7_clash_31 (by decide) rfl (fun c8 => ?_) (fun c8 => ?_)
        · refine s_aload_n (q := 73) C 0 dX7_clash_72 rfl rfl rfl ?_
          refine s_iconst (q := 74) (v := 2) C dX7_clash_73 rfl (by decide) ?_
          refine s_Vi (q := 77) (As := [.int 2]) (st := []) C (uX7_error l G hG V5 2) yvX7_error mlX7_58 (s70 hG) rfl rfl rfl rfl rfl rfl (gR_le (by decide) (by decide)) (Nat.le_of_ble_eq_true rfl) dX7_clash_74 rfl (fun x9 V10 => ?_)
          exact s_iret C E dX7_clash_77
        · refine s_aload_n (q := 35) C 0 dX7_clash_34 rfl rfl rfl ?_
          refine geX7_2 (q := 38) C (s70 hG) flX7_19 dX7_clash_35 rfl ?_
          refine s_Vi (q := 41) (As := []) (st := []) C (uX6_dueTwice l G hG V5 (0 + 61) (qX7_2 hG (s70 hG))) yvX6_dueTwice mlX7_215 (qX7_2 hG (s70 hG)) rfl rfl rfl rfl rfl rfl (gR_le (by decide) (by decide)) (Nat.le_of_ble_eq_true rfl) dX7_clash_38 rfl (fun x11 V12 => ?_)
          refine s_istore_n (q := 42) (L' := [(3, .int x11), (0, .ref (G.1 0)), (1, .int a1), (2, .int x6)]) C dX7_clash_41 rfl rfl (by decide) rfl ?_
          refine s_iload_n (q := 43) C 0 dX7_clash_42 rfl rfl rfl ?_
          refine s_if_eq (tgt := 59) (q := 46) C dX7_clash_43 (by decide) rfl (fun c13 => ?_) (fun c13 => ?_)
          · refine s_aload_n (q := 60) C 1 dX7_clash_59 rfl rfl rfl ?_
            refine geX7_2 (q := 63) C (s70 hG) flX7_19 dX7_clash_60 rfl ?_
            refine s_Vv (q := 66) (As := []) (st := []) C (uX6_passDay l G hG V12 (0 + 61) (qX7_2 hG (s70 hG))) yvX6_passDay mlX7_206 (qX7_2 hG (s70 hG)) rfl rfl rfl rfl rfl rfl (gR_le (by decide) (by decide)) (Nat.le_of_ble_eq_true rfl) dX7_clash_63 rfl (fun V14 => ?_)
            refine s_iinc (q := 69) (w := 1) (L' := [(2, .int (x6 + 1)), (3, .int x11), (0, .ref (G.1 0)), (1, .int a1)]) C 3 dX7_clash_66 rfl rfl (by decide) rfl (by decide) rfl ?_
            refine s_goto (q := 28) C dX7_clash_69 (by decide) ?_
            refine s_sub [2, 3, 0] rfl ?_
            exact hB7 V14 ((x6 + 1))
          · refine s_iload_n (q := 47) C 2 dX7_clash_46 rfl rfl rfl ?_
            refine s_if_ne (tgt := 54) (q := 50) C dX7_clash_47 (by decide) rfl (fun c15 => ?_) (fun c15 => ?_)
            · refine s_iload_n (q := 51) C 3 dX7_clash_50 rfl rfl rfl ?_
              refine s_goto (q := 58) C dX7_clash_51 (by decide) ?_
              exact s_iret C E dX7_clash_58
            · refine s_iload_n (q := 55) C 0 dX7_clash_54 rfl rfl rfl ?_
              refine s_Si (q := 58) (As := [.int x11]) (st := []) C (uJ6_numberOfTrailingZeros_0f7a4 l G hG V12 x11) ysJ6_numberOfTrailingZeros_0f7a4 mlX7_225 rfl rfl rfl rfl (gR_le (by decide) (by decide)) (Nat.le_of_ble_eq_true rfl) dX7_clash_55 rfl (fun x16 V17 => ?_)
              exact s_iret C E dX7_clash_58
    refine s_sub [1, 2, 0] rfl ?_
    exact hL1 gFu V4 0
noncomputable def fX7_staysAway_L1b (a1 : Int32) (a2 : Int32) (B5 : gV → Int32 → Option (Int32 × gV)) (V3 : gV) (x4 : Int32) : Option (Int32 × gV) := if a2 ≤ x4 then (some (1, V3)) else (gbi (fX6_cakesShowing V3 (0 + 61) a1) fun (x7 : Int32) (V8 : gV) => if x7 = 0 then (gbv (fX6_passDay V8 (0 + 61)) fun (V10 : gV) => B5 V10 ((x4 + 1))) else (some (0, V8)))
noncomputable def fX7_staysAway_L1 (a1 : Int32) (a2 : Int32) : Nat → gV → Int32 → Option (Int32 × gV)
  | 0 => fun _ _ => none
  | n + 1 => fX7_staysAway_L1b a1 a2 (fX7_staysAway_L1 a1 a2 n)
noncomputable def fX7_staysAway (V : gV) (a1 : Int32) (a2 : Int32) (a3 : Int32) : Option (Int32 × gV) := gbv (fX6_copyFrom V (0 + 61) (0 + 1)) fun (V1 : gV) => gbv (fX6_stillHands V1 (0 + 61) a3) fun (V2 : gV) => fX7_staysAway_L1 a1 a2 gFu V2 0
set_option maxHeartbeats 4000000 in
set_option maxRecDepth 100000 in
theorem uX7_staysAway (l : Launch) (G : gG) (hG : gIsX G) (V : gV) (a1 : Int32) (a2 : Int32) (a3 : Int32) : gMi l G yX7_staysAway cX7_staysAway 5 Jvm.ClassFile.FieldType.boolean (gR 5 188) [.ref (G.1 0), .int a1, .int a2, .int a3] V (fX7_staysAway V a1 a2 a3) := by
  unfold fX7_staysAway
  refine gM_i (by decide +kernel) rfl rfl (Nat.le_of_ble_eq_true rfl) (fun X rr VV C E => ?_)
  change gC cX7_staysAway 5 RX7 G X at C
  change gSm l (gR 5 188) 5 G X _ (rr, VV) V 0 [(0, .ref (G.1 0)), (1, .int a1), (2, .int a2), (3, .int a3)] []
  refine s_aload_n (q := 1) C 0 dX7_staysAway_0 rfl rfl rfl ?_
  refine geX7_2 (q := 4) C (s70 hG) flX7_19 dX7_staysAway_1 rfl ?_
  refine s_aload_n (q := 5) C 0 dX7_staysAway_4 rfl rfl rfl ?_
  refine geX7_0 (q := 8) C (s70 hG) flX7_10 dX7_staysAway_5 rfl ?_
  refine s_Vv (q := 11) (As := [.ref (G.1 (0 + 1))]) (st := []) C (uX6_copyFrom l G hG V (0 + 61) (0 + 1) (qX7_2 hG (s70 hG)) (qX7_0 hG (s70 hG))) yvX6_copyFrom mlX7_218 (qX7_2 hG (s70 hG)) rfl rfl rfl rfl rfl rfl (gR_le (by decide) (by decide)) (Nat.le_of_ble_eq_true rfl) dX7_staysAway_8 rfl (fun V1 => ?_)
  refine s_aload_n (q := 12) C 0 dX7_staysAway_11 rfl rfl rfl ?_
  refine geX7_2 (q := 15) C (s70 hG) flX7_19 dX7_staysAway_12 rfl ?_
  refine s_iload_n (q := 16) C 3 dX7_staysAway_15 rfl rfl rfl ?_
  refine s_Vv (q := 19) (As := [.int a3]) (st := []) C (uX6_stillHands l G hG V1 (0 + 61) a3 (qX7_2 hG (s70 hG))) yvX6_stillHands mlX7_330 (qX7_2 hG (s70 hG)) rfl rfl rfl rfl rfl rfl (gR_le (by decide) (by decide)) (Nat.le_of_ble_eq_true rfl) dX7_staysAway_16 rfl (fun V2 => ?_)
  refine s_iconst (q := 20) (v := 0) C dX7_staysAway_19 rfl (by decide) ?_
  refine s_istore (q := 22) (L' := [(4, .int 0), (0, .ref (G.1 0)), (1, .int a1), (2, .int a2), (3, .int a3)]) C dX7_staysAway_20 rfl (by decide) rfl ?_
  have hL1 : ∀ (n : Nat) (V3 : gV) (x4 : Int32), gSm l (gR 5 188) 5 G X (fX7_staysAway_L1 a1 a2 n V3 x4) (rr, VV) V3 22 [(0, .ref (G.1 0)), (1, .int a1), (2, .int a2), (4, .int x4)] [] := by
    intro n
    induction n with
    | zero => exact fun V3 x4 => s_none
    | succ n ih =>
      intro V3 x4
      show gSm l (gR 5 188) 5 G X (fX7_staysAway_L1b a1 a2 (fX7_staysAway_L1 a1 a2 n) V3 x4) (rr, VV) V3 22 [(0, .ref (G.1 0)), (1, .int a1), (2, .int a2), (4, .int x4)] []
      generalize fX7_staysAway_L1 a1 a2 n = B5 at ih ⊢
      have hB5 := ih
      unfold fX7_staysAway_L1b
      refine s_iload (q := 24) C 3 dX7_staysAway_22 rfl rfl ?_
      refine s_iload_n (q := 25) C 2 dX7_staysAway_24 rfl rfl rfl ?_
      refine s_icmp_ge (tgt := 54) (q := 28) C dX7_staysAway_25 (by decide) rfl (fun c6 => ?_) (fun c6 => ?_)
      · refine s_iconst (q := 55) (v := 1) C dX7_staysAway_54 rfl (by decide) ?_
        exact s_zret C E rfl dX7_staysAway_55
      · refine s_aload_n (q := 29) C 0 dX7_staysAway_28 rfl rfl rfl ?_
        refine geX7_2 (q := 32) C (s70 hG) flX7_19 dX7_staysAway_29 rfl ?_
        refine s_iload_n (q := 33) C 1 dX7_staysAway_32 rfl rfl rfl ?_
        refine s_Vi (q := 36) (As := [.int a1]) (st := []) C (uX6_cakesShowing l G hG V3 (0 + 61) a1 (qX7_2 hG (s70 hG))) yvX6_cakesShowing mlX7_252 (qX7_2 hG (s70 hG)) rfl rfl rfl rfl rfl rfl (gR_le (by decide) (by decide)) (Nat.le_of_ble_eq_true rfl) dX7_staysAway_33 rfl (fun x7 V8 => ?_)
        refine s_if_eq (tgt := 41) (q := 39) C dX7_staysAway_36 (by decide) rfl (fun c9 => ?_) (fun c9 => ?_)
        · refine s_aload_n (q := 42) C 0 dX7_staysAway_41 rfl rfl rfl ?_
          refine geX7_2 (q := 45) C (s70 hG) flX7_19 dX7_staysAway_42 rfl ?_
          refine s_Vv (q := 48) (As := []) (st := []) C (uX6_passDay l G hG V8 (0 + 61) (qX7_2 hG (s70 hG))) yvX6_passDay mlX7_206 (qX7_2 hG (s70 hG)) rfl rfl rfl rfl rfl rfl (gR_le (by decide) (by decide)) (Nat.le_of_ble_eq_true rfl) dX7_staysAway_45 rfl (fun V10 => ?_)
          refine s_iinc (q := 51) (w := 1) (L' := [(4, .int (x4 + 1)), (0, .ref (G.1 0)), (1, .int a1), (2, .int a2)]) C 3 dX7_staysAway_48 rfl rfl (by decide) rfl (by decide) rfl ?_
          refine s_goto (q := 22) C dX7_staysAway_51 (by decide) ?_
          refine s_sub [1, 2, 3, 0] rfl ?_
          exact hB5 V10 ((x4 + 1))
        · refine s_iconst (q := 40) (v := 0) C dX7_staysAway_39 rfl (by decide) ?_
          exact s_zret C E rfl dX7_staysAway_40
  refine s_sub [1, 2, 3, 0] rfl ?_
  exact hL1 gFu V2 0
noncomputable def fJ6_bitCount_0f7a4 (V : gV) (a0 : Int32) : Option (Int32 × gV) := glt (a0 - ((gus a0 1) &&& 1431655765)) fun (x1 : Int32) => glt ((x1 &&& 858993459) + ((gus x1 2) &&& 858993459)) fun (x2 : Int32) => glt ((x2 + (gus x2 4)) &&& 252645135) fun (x3 : Int32) => glt (x3 + (gus x3 8)) fun (x4 : Int32) => glt (x4 + (gus x4 16)) fun (x5 : Int32) => some ((x5 &&& 63), V)
set_option maxHeartbeats 4000000 in
set_option maxRecDepth 100000 in
theorem uJ6_bitCount_0f7a4 (l : Launch) (G : gG) (hG : gIsX G) (V : gV) (a0 : Int32) : gMi l G yJ6_bitCount_0f7a4 cJ6_bitCount_0f7a4 1 Jvm.ClassFile.FieldType.int (gR 0 0) [.int a0] V (fJ6_bitCount_0f7a4 V a0) := by
  unfold fJ6_bitCount_0f7a4
  refine gM_i (by decide +kernel) rfl rfl (Nat.le_of_ble_eq_true rfl) (fun X rr VV C E => ?_)
  change gC cJ6_bitCount_0f7a4 1 RJ6 G X at C
  change gSm l (gR 0 0) 1 G X _ (rr, VV) V 0 [(0, .int a0)] []
  refine s_iload_n (q := 1) C 0 dJ6_bitCount_0f7a4_0 rfl rfl rfl ?_
  refine s_iload_n (q := 2) C 0 dJ6_bitCount_0f7a4_1 rfl rfl rfl ?_
  refine s_iconst (q := 3) (v := 1) C dJ6_bitCount_0f7a4_2 rfl (by decide) ?_
  refine s_iushr (q := 4) C dJ6_bitCount_0f7a4_3 rfl ?_
  refine s_ldc_w (q := 7) (v := 1431655765) C dJ6_bitCount_0f7a4_4 rfl kJ6_265 ?_
  refine s_iand (q := 8) C dJ6_bitCount_0f7a4_7 rfl ?_
  refine s_isub (q := 9) C dJ6_bitCount_0f7a4_8 rfl ?_
  refine s_lt (fun x1 => ?_)
  refine s_istore_n (q := 10) (L' := [(0, .int x1)]) C dJ6_bitCount_0f7a4_9 rfl rfl (by decide) rfl ?_
  refine s_iload_n (q := 11) C 0 dJ6_bitCount_0f7a4_10 rfl rfl rfl ?_
  refine s_ldc_w (q := 14) (v := 858993459) C dJ6_bitCount_0f7a4_11 rfl kJ6_266 ?_
  refine s_iand (q := 15) C dJ6_bitCount_0f7a4_14 rfl ?_
  refine s_iload_n (q := 16) C 0 dJ6_bitCount_0f7a4_15 rfl rfl rfl ?_
  refine s_iconst (q := 17) (v := 2) C dJ6_bitCount_0f7a4_16 rfl (by decide) ?_
  refine s_iushr (q := 18) C dJ6_bitCount_0f7a4_17 rfl ?_
  refine s_ldc_w (q := 21) (v := 858993459) C dJ6_bitCount_0f7a4_18 rfl kJ6_266 ?_
  refine s_iand (q := 22) C dJ6_bitCount_0f7a4_21 rfl ?_
  refine s_iadd (q := 23) C dJ6_bitCount_0f7a4_22 rfl ?_
  refine s_lt (fun x2 => ?_)
  refine s_istore_n (q := 24) (L' := [(0, .int x2)]) C dJ6_bitCount_0f7a4_23 rfl rfl (by decide) rfl ?_
  refine s_iload_n (q := 25) C 0 dJ6_bitCount_0f7a4_24 rfl rfl rfl ?_
  refine s_iload_n (q := 26) C 0 dJ6_bitCount_0f7a4_25 rfl rfl rfl ?_
  refine s_iconst (q := 27) (v := 4) C dJ6_bitCount_0f7a4_26 rfl (by decide) ?_
  refine s_iushr (q := 28) C dJ6_bitCount_0f7a4_27 rfl ?_
  refine s_iadd (q := 29) C dJ6_bitCount_0f7a4_28 rfl ?_
  refine s_ldc_w (q := 32) (v := 252645135) C dJ6_bitCount_0f7a4_29 rfl kJ6_267 ?_
  refine s_iand (q := 33) C dJ6_bitCount_0f7a4_32 rfl ?_
  refine s_lt (fun x3 => ?_)
  refine s_istore_n (q := 34) (L' := [(0, .int x3)]) C dJ6_bitCount_0f7a4_33 rfl rfl (by decide) rfl ?_
  refine s_iload_n (q := 35) C 0 dJ6_bitCount_0f7a4_34 rfl rfl rfl ?_
  refine s_iload_n (q := 36) C 0 dJ6_bitCount_0f7a4_35 rfl rfl rfl ?_
  refine s_bipush (q := 38) (v := 8) C dJ6_bitCount_0f7a4_36 rfl (by decide) ?_
  refine s_iushr (q := 39) C dJ6_bitCount_0f7a4_38 rfl ?_
  refine s_iadd (q := 40) C dJ6_bitCount_0f7a4_39 rfl ?_
  refine s_lt (fun x4 => ?_)
  refine s_istore_n (q := 41) (L' := [(0, .int x4)]) C dJ6_bitCount_0f7a4_40 rfl rfl (by decide) rfl ?_
  refine s_iload_n (q := 42) C 0 dJ6_bitCount_0f7a4_41 rfl rfl rfl ?_
  refine s_iload_n (q := 43) C 0 dJ6_bitCount_0f7a4_42 rfl rfl rfl ?_
  refine s_bipush (q := 45) (v := 16) C dJ6_bitCount_0f7a4_43 rfl (by decide) ?_
  refine s_iushr (q := 46) C dJ6_bitCount_0f7a4_45 rfl ?_
  refine s_iadd (q := 47) C dJ6_bitCount_0f7a4_46 rfl ?_
  refine s_lt (fun x5 => ?_)
  refine s_istore_n (q := 48) (L' := [(0, .int x5)]) C dJ6_bitCount_0f7a4_47 rfl rfl (by decide) rfl ?_
  refine s_iload_n (q := 49) C 0 dJ6_bitCount_0f7a4_48 rfl rfl rfl ?_
  refine s_bipush (q := 51) (v := 63) C dJ6_bitCount_0f7a4_49 rfl (by decide) ?_
  refine s_iand (q := 52) C dJ6_bitCount_0f7a4_51 rfl ?_
  exact s_iret C E dJ6_bitCount_0f7a4_52
noncomputable def fX7_spares_L2b (a1 : Int32) (a2 : Int32) (x10 : Int32) (B11 : gV → Int32 → Option (Int32 × gV)) (B17 : gV → Int32 → Option (Int32 × gV)) (V15 : gV) (x16 : Int32) : Option (Int32 × gV) := if (1 <<< ((V15 (0 + 1) 8) &&& 31)) ≤ x16 then (B11 V15 ((x10 + 1))) else (gbi (fJ6_bitCount_0f7a4 V15 x16) fun (x19 : Int32) (V20 : gV) => if x19 = x10 then (gbi (fX7_staysAway V20 a1 a2 x16) fun (x22 : Int32) (V23 : gV) => if x22 = 0 then (B17 V23 ((x16 + 1))) else (some (x16, V23))) else (B17 V20 ((x16 + 1))))
noncomputable def fX7_spares_L2 (a1 : Int32) (a2 : Int32) (x10 : Int32) (B11 : gV → Int32 → Option (Int32 × gV)) : Nat → gV → Int32 → Option (Int32 × gV)
  | 0 => fun _ _ => none
  | n + 1 => fX7_spares_L2b a1 a2 x10 B11 (fX7_spares_L2 a1 a2 x10 B11 n)
noncomputable def fX7_spares_L1b (a1 : Int32) (a2 : Int32) (B11 : gV → Int32 → Option (Int32 × gV)) (V9 : gV) (x10 : Int32) : Option (Int32 × gV) := if (V9 (0 + 1) 8) < x10 then (gbi (fX7_error V9 2) fun (x13 : Int32) (V14 : gV) => some (x13, V14)) else (fX7_spares_L2 a1 a2 x10 B11 gFu V9 0)
noncomputable def fX7_spares_L1 (a1 : Int32) (a2 : Int32) : Nat → gV → Int32 → Option (Int32 × gV)
  | 0 => fun _ _ => none
  | n + 1 => fX7_spares_L1b a1 a2 (fX7_spares_L1 a1 a2 n)
noncomputable def fX7_spares (V : gV) (a1 : Int32) (a2 : Int32) : Option (Int32 × gV) := gbi (fX7_isGuest V a1) fun (x1 : Int32) (V2 : gV) => if x1 = 0 then (gbi (fX7_error V2 1) fun (x4 : Int32) (V5 : gV) => some (x4, V5)) else (gbi (fX7_within V2 a2 0 30) fun (x6 : Int32) (V7 : gV) => if x6 = 0 then (gbi (fX7_error V7 1) fun (x25 : Int32) (V26 : gV) => some (x25, V26)) else (fX7_spares_L1 a1 a2 gFu V7 0))
set_option maxHeartbeats 4000000 in
set_option maxRecDepth 100000 in
theorem uX7_spares (l : Launch) (G : gG) (hG : gIsX G) (V : gV) (a1 : Int32) (a2 : Int32) : gMi l G yX7_spares cX7_spares 5 Jvm.ClassFile.FieldType.int (gR 6 212) [.ref (G.1 0), .int a1, .int a2] V (fX7_spares V a1 a2) := by
  unfold fX7_spares
  refine gM_i (by decide +kernel) rfl rfl (Nat.le_of_ble_eq_true rfl) (fun X rr VV C E => ?_)
  change gC cX7_spares 5 RX7 G X at C
  change gSm l (gR 6 212) 5 G X _ (rr, VV) V 0 [(0, .ref (G.1 0)), (1, .int a1), (2, .int a2)] []
  refine s_iload_n (q := 1) C 1 dX7_spares_0 rfl rfl rfl ?_
  refine s_Si (q := 4) (As := [.int a1]) (st := []) C (uX7_isGuest l G hG V a1) ysX7_isGuest mlX7_209 rfl rfl rfl rfl (gR_le (by decide) (by decide)) (Nat.le_of_ble_eq_true rfl) dX7_spares_1 rfl (fun x1 V2 => ?_)
  refine s_if_eq (tgt := 17) (q := 7) C dX7_spares_4 (by decide) rfl (fun c3 => ?_) (fun c3 => ?_)
  · refine s_aload_n (q := 18) C 0 dX7_spares_17 rfl rfl rfl ?_
    refine s_iconst (q := 19) (v := 1) C dX7_spares_18 rfl (by decide) ?_
    refine s_Vi (q := 22) (As := [.int 1]) (st := []) C (uX7_error l G hG V2 1) yvX7_error mlX7_58 (s70 hG) rfl rfl rfl rfl rfl rfl (gR_le (by decide) (by decide)) (Nat.le_of_ble_eq_true rfl) dX7_spares_19 rfl (fun x4 V5 => ?_)
    exact s_iret C E dX7_spares_22
  · refine s_iload_n (q := 8) C 2 dX7_spares_7 rfl rfl rfl ?_
    refine s_iconst (q := 9) (v := 0) C dX7_spares_8 rfl (by decide) ?_
    refine s_bipush (q := 11) (v := 30) C dX7_spares_9 rfl (by decide) ?_
    refine s_Si (q := 14) (As := [.int a2, .int 0, .int 30]) (st := []) C (uX7_within l G hG V2 a2 0 30) ysX7_within mlX7_54 rfl rfl rfl rfl (gR_le (by decide) (by decide)) (Nat.le_of_ble_eq_true rfl) dX7_spares_11 rfl (fun x6 V7 => ?_)
    refine s_if_ne (tgt := 23) (q := 17) C dX7_spares_14 (by decide) rfl (fun c8 => ?_) (fun c8 => ?_)
    · refine s_aload_n (q := 18) C 0 dX7_spares_17 rfl rfl rfl ?_
      refine s_iconst (q := 19) (v := 1) C dX7_spares_18 rfl (by decide) ?_
      refine s_Vi (q := 22) (As := [.int 1]) (st := []) C (uX7_error l G hG V7 1) yvX7_error mlX7_58 (s70 hG) rfl rfl rfl rfl rfl rfl (gR_le (by decide) (by decide)) (Nat.le_of_ble_eq_true rfl) dX7_spares_19 rfl (fun x25 V26 => ?_)
      exact s_iret C E dX7_spares_22
    · refine s_iconst (q := 24) (v := 0) C dX7_spares_23 rfl (by decide) ?_
      refine s_istore_n (q := 25) (L' := [(3, .int 0), (0, .ref (G.1 0)), (1, .int a1), (2, .int a2)]) C dX7_spares_24 rfl rfl (by decide) rfl ?_
      have hL1 : ∀ (n : Nat) (V9 : gV) (x10 : Int32), gSm l (gR 6 212) 5 G X (fX7_spares_L1 a1 a2 n V9 x10) (rr, VV) V9 25 [(0, .ref (G.1 0)), (1, .int a1), (2, .int a2), (3, .int x10)] [] := by
        intro n
        induction n with
        | zero => exact fun V9 x10 => s_none
        | succ n ih =>
          intro V9 x10
          show gSm l (gR 6 212) 5 G X (fX7_spares_L1b a1 a2 (fX7_spares_L1 a1 a2 n) V9 x10) (rr, VV) V9 25 [(0, .ref (G.1 0)), (1, .int a1), (2, .int a2), (3, .int x10)] []
          generalize fX7_spares_L1 a1 a2 n = B11 at ih ⊢
          have hB11 := ih
          unfold fX7_spares_L1b
          refine s_iload_n (q := 26) C 3 dX7_spares_25 rfl rfl rfl ?_
          refine s_aload_n (q := 27) C 0 dX7_spares_26 rfl rfl rfl ?_
          refine geX7_0 (q := 30) C (s70 hG) flX7_10 dX7_spares_27 rfl ?_
          refine geX6_8 (q := 33) C (qX7_0 hG (s70 hG)) flX7_62 dX7_spares_30 rfl ?_
          refine s_icmp_gt (tgt := 88) (q := 36) C dX7_spares_33 (by decide) rfl (fun c12 => ?_) (fun c12 => ?_)
          · refine s_aload_n (q := 89) C 0 dX7_spares_88 rfl rfl rfl ?_
            refine s_iconst (q := 90) (v := 2) C dX7_spares_89 rfl (by decide) ?_
            refine s_Vi (q := 93) (As := [.int 2]) (st := []) C (uX7_error l G hG V9 2) yvX7_error mlX7_58 (s70 hG) rfl rfl rfl rfl rfl rfl (gR_le (by decide) (by decide)) (Nat.le_of_ble_eq_true rfl) dX7_spares_90 rfl (fun x13 V14 => ?_)
            exact s_iret C E dX7_spares_93
          · refine s_iconst (q := 37) (v := 0) C dX7_spares_36 rfl (by decide) ?_
            refine s_istore (q := 39) (L' := [(4, .int 0), (0, .ref (G.1 0)), (1, .int a1), (2, .int a2), (3, .int x10)]) C dX7_spares_37 rfl (by decide) rfl ?_
            have hL2 : ∀ (n : Nat) (V15 : gV) (x16 : Int32), gSm l (gR 6 212) 5 G X (fX7_spares_L2 a1 a2 x10 B11 n V15 x16) (rr, VV) V15 39 [(0, .ref (G.1 0)), (1, .int a1), (2, .int a2), (3, .int x10), (4, .int x16)] [] := by
              intro n
              induction n with
              | zero => exact fun V15 x16 => s_none
              | succ n ih =>
                intro V15 x16
                show gSm l (gR 6 212) 5 G X (fX7_spares_L2b a1 a2 x10 B11 (fX7_spares_L2 a1 a2 x10 B11 n) V15 x16) (rr, VV) V15 39 [(0, .ref (G.1 0)), (1, .int a1), (2, .int a2), (3, .int x10), (4, .int x16)] []
                generalize fX7_spares_L2 a1 a2 x10 B11 n = B17 at ih ⊢
                have hB17 := ih
                unfold fX7_spares_L2b
                refine s_iload (q := 41) C 4 dX7_spares_39 rfl rfl ?_
                refine s_iconst (q := 42) (v := 1) C dX7_spares_41 rfl (by decide) ?_
                refine s_aload_n (q := 43) C 0 dX7_spares_42 rfl rfl rfl ?_
                refine geX7_0 (q := 46) C (s70 hG) flX7_10 dX7_spares_43 rfl ?_
                refine geX6_8 (q := 49) C (qX7_0 hG (s70 hG)) flX7_62 dX7_spares_46 rfl ?_
                refine s_ishl (q := 50) C dX7_spares_49 rfl ?_
                refine s_icmp_ge (tgt := 82) (q := 53) C dX7_spares_50 (by decide) rfl (fun c18 => ?_) (fun c18 => ?_)
                · refine s_iinc (q := 85) (w := 1) (L' := [(3, .int (x10 + 1)), (0, .ref (G.1 0)), (1, .int a1), (2, .int a2), (4, .int x16)]) C 3 dX7_spares_82 rfl rfl (by decide) rfl (by decide) rfl ?_
                  refine s_goto (q := 25) C dX7_spares_85 (by decide) ?_
                  refine s_sub [1, 2, 3, 0] rfl ?_
                  exact hB11 V15 ((x10 + 1))
                · refine s_iload (q := 55) C 4 dX7_spares_53 rfl rfl ?_
                  refine s_Si (q := 58) (As := [.int x16]) (st := []) C (uJ6_bitCount_0f7a4 l G hG V15 x16) ysJ6_bitCount_0f7a4 mlX7_230 rfl rfl rfl rfl (gR_le (by decide) (by decide)) (Nat.le_of_ble_eq_true rfl) dX7_spares_55 rfl (fun x19 V20 => ?_)
                  refine s_iload_n (q := 59) C 3 dX7_spares_58 rfl rfl rfl ?_
                  refine s_icmp_ne (tgt := 76) (q := 62) C dX7_spares_59 (by decide) rfl (fun c21 => ?_) (fun c21 => ?_)
                  · refine s_aload_n (q := 63) C 0 dX7_spares_62 rfl rfl rfl ?_
                    refine s_iload_n (q := 64) C 1 dX7_spares_63 rfl rfl rfl ?_
                    refine s_iload_n (q := 65) C 2 dX7_spares_64 rfl rfl rfl ?_
                    refine s_iload (q := 67) C 4 dX7_spares_65 rfl rfl ?_
                    refine s_Vi (q := 70) (As := [.int a1, .int a2, .int x16]) (st := []) C (uX7_staysAway l G hG V20 a1 a2 x16) yvX7_staysAway mlX7_233 (s70 hG) rfl rfl rfl rfl rfl rfl (gR_le (by decide) (by decide)) (Nat.le_of_ble_eq_true rfl) dX7_spares_67 rfl (fun x22 V23 => ?_)
                    refine s_if_eq (tgt := 76) (q := 73) C dX7_spares_70 (by decide) rfl (fun c24 => ?_) (fun c24 => ?_)
                    · refine s_iinc (q := 79) (w := 1) (L' := [(4, .int (x16 + 1)), (0, .ref (G.1 0)), (1, .int a1), (2, .int a2), (3, .int x10)]) C 4 dX7_spares_76 rfl rfl (by decide) rfl (by decide) rfl ?_
                      refine s_goto (q := 39) C dX7_spares_79 (by decide) ?_
                      refine s_sub [1, 2, 3, 4, 0] rfl ?_
                      exact hB17 V23 ((x16 + 1))
                    · refine s_iload (q := 75) C 4 dX7_spares_73 rfl rfl ?_
                      exact s_iret C E dX7_spares_75
                  · refine s_iinc (q := 79) (w := 1) (L' := [(4, .int (x16 + 1)), (0, .ref (G.1 0)), (1, .int a1), (2, .int a2), (3, .int x10)]) C 4 dX7_spares_76 rfl rfl (by decide) rfl (by decide) rfl ?_
                    refine s_goto (q := 39) C dX7_spares_79 (by decide) ?_
                    refine s_sub [1, 2, 3, 4, 0] rfl ?_
                    exact hB17 V20 ((x16 + 1))
            refine s_sub [1, 2, 3, 4, 0] rfl ?_
            exact hL2 gFu V9 0
      refine s_sub [1, 2, 3, 0] rfl ?_
      exact hL1 gFu V7 0
noncomputable def fX7_hurry_L1b (a1 : Int32) (a2 : Int32) (a3 : Int32) (B16 : gV → Int32 → Option (Int32 × gV)) (V14 : gV) (x15 : Int32) : Option (Int32 × gV) := if 9 < x15 then (gbi (fX7_error V14 2) fun (x18 : Int32) (V19 : gV) => some (x18, V19)) else (gbv (fX6_copyFrom V14 (0 + 61) (0 + 1)) fun (V20 : gV) => gbr (fX6_houseAt V20 (0 + 61) a2) fun (t21 : Nat) (V22 : gV) => gpu V22 t21 0 ((V22 t21 0) + x15) fun (V24 : gV) => gbi (fX6_firstDayIn V24 (0 + 61) a1 a2 a3) fun (x25 : Int32) (V26 : gV) => if x25 < 0 then (B16 V26 ((x15 + 1))) else (some (x15, V26)))
noncomputable def fX7_hurry_L1 (a1 : Int32) (a2 : Int32) (a3 : Int32) : Nat → gV → Int32 → Option (Int32 × gV)
  | 0 => fun _ _ => none
  | n + 1 => fX7_hurry_L1b a1 a2 a3 (fX7_hurry_L1 a1 a2 a3 n)
noncomputable def fX7_hurry (V : gV) (a1 : Int32) (a2 : Int32) (a3 : Int32) : Option (Int32 × gV) := gbi (fX7_isGuest V a1) fun (x1 : Int32) (V2 : gV) => if x1 = 0 then (gbi (fX7_error V2 1) fun (x4 : Int32) (V5 : gV) => some (x4, V5)) else (gbi (fX7_isHouse V2 a2) fun (x6 : Int32) (V7 : gV) => if x6 = 0 then (gbi (fX7_error V7 1) fun (x9 : Int32) (V10 : gV) => some (x9, V10)) else (gbi (fX7_within V7 a3 0 30) fun (x11 : Int32) (V12 : gV) => if x11 = 0 then (gbi (fX7_error V12 1) fun (x28 : Int32) (V29 : gV) => some (x28, V29)) else (fX7_hurry_L1 a1 a2 a3 gFu V12 0)))
set_option maxHeartbeats 4000000 in
set_option maxRecDepth 100000 in
theorem uX7_hurry (l : Launch) (G : gG) (hG : gIsX G) (V : gV) (a1 : Int32) (a2 : Int32) (a3 : Int32) : gMi l G yX7_hurry cX7_hurry 5 Jvm.ClassFile.FieldType.int (gR 6 188) [.ref (G.1 0), .int a1, .int a2, .int a3] V (fX7_hurry V a1 a2 a3) := by
  unfold fX7_hurry
  refine gM_i (by decide +kernel) rfl rfl (Nat.le_of_ble_eq_true rfl) (fun X rr VV C E => ?_)
  change gC cX7_hurry 5 RX7 G X at C
  change gSm l (gR 6 188) 5 G X _ (rr, VV) V 0 [(0, .ref (G.1 0)), (1, .int a1), (2, .int a2), (3, .int a3)] []
  refine s_iload_n (q := 1) C 1 dX7_hurry_0 rfl rfl rfl ?_
  refine s_Si (q := 4) (As := [.int a1]) (st := []) C (uX7_isGuest l G hG V a1) ysX7_isGuest mlX7_209 rfl rfl rfl rfl (gR_le (by decide) (by decide)) (Nat.le_of_ble_eq_true rfl) dX7_hurry_1 rfl (fun x1 V2 => ?_)
  refine s_if_eq (tgt := 25) (q := 7) C dX7_hurry_4 (by decide) rfl (fun c3 => ?_) (fun c3 => ?_)
  · refine s_aload_n (q := 26) C 0 dX7_hurry_25 rfl rfl rfl ?_
    refine s_iconst (q := 27) (v := 1) C dX7_hurry_26 rfl (by decide) ?_
    refine s_Vi (q := 30) (As := [.int 1]) (st := []) C (uX7_error l G hG V2 1) yvX7_error mlX7_58 (s70 hG) rfl rfl rfl rfl rfl rfl (gR_le (by decide) (by decide)) (Nat.le_of_ble_eq_true rfl) dX7_hurry_27 rfl (fun x4 V5 => ?_)
    exact s_iret C E dX7_hurry_30
  · refine s_aload_n (q := 8) C 0 dX7_hurry_7 rfl rfl rfl ?_
    refine s_iload_n (q := 9) C 2 dX7_hurry_8 rfl rfl rfl ?_
    refine s_Vi (q := 12) (As := [.int a2]) (st := []) C (uX7_isHouse l G hG V2 a2) yvX7_isHouse mlX7_78 (s70 hG) rfl rfl rfl rfl rfl rfl (gR_le (by decide) (by decide)) (Nat.le_of_ble_eq_true rfl) dX7_hurry_9 rfl (fun x6 V7 => ?_)
    refine s_if_eq (tgt := 25) (q := 15) C dX7_hurry_12 (by decide) rfl (fun c8 => ?_) (fun c8 => ?_)
    · refine s_aload_n (q := 26) C 0 dX7_hurry_25 rfl rfl rfl ?_
      refine s_iconst (q := 27) (v := 1) C dX7_hurry_26 rfl (by decide) ?_
      refine s_Vi (q := 30) (As := [.int 1]) (st := []) C (uX7_error l G hG V7 1) yvX7_error mlX7_58 (s70 hG) rfl rfl rfl rfl rfl rfl (gR_le (by decide) (by decide)) (Nat.le_of_ble_eq_true rfl) dX7_hurry_27 rfl (fun x9 V10 => ?_)
      exact s_iret C E dX7_hurry_30
    · refine s_iload_n (q := 16) C 3 dX7_hurry_15 rfl rfl rfl ?_
      refine s_iconst (q := 17) (v := 0) C dX7_hurry_16 rfl (by decide) ?_
      refine s_bipush (q := 19) (v := 30) C dX7_hurry_17 rfl (by decide) ?_
      refine s_Si (q := 22) (As := [.int a3, .int 0, .int 30]) (st := []) C (uX7_within l G hG V7 a3 0 30) ysX7_within mlX7_54 rfl rfl rfl rfl (gR_le (by decide) (by decide)) (Nat.le_of_ble_eq_true rfl) dX7_hurry_19 rfl (fun x11 V12 => ?_)
      refine s_if_ne (tgt := 31) (q := 25) C dX7_hurry_22 (by decide) rfl (fun c13 => ?_) (fun c13 => ?_)
      · refine s_aload_n (q := 26) C 0 dX7_hurry_25 rfl rfl rfl ?_
        refine s_iconst (q := 27) (v := 1) C dX7_hurry_26 rfl (by decide) ?_
        refine s_Vi (q := 30) (As := [.int 1]) (st := []) C (uX7_error l G hG V12 1) yvX7_error mlX7_58 (s70 hG) rfl rfl rfl rfl rfl rfl (gR_le (by decide) (by decide)) (Nat.le_of_ble_eq_true rfl) dX7_hurry_27 rfl (fun x28 V29 => ?_)
        exact s_iret C E dX7_hurry_30
      · refine s_iconst (q := 32) (v := 0) C dX7_hurry_31 rfl (by decide) ?_
        refine s_istore (q := 34) (L' := [(4, .int 0), (0, .ref (G.1 0)), (1, .int a1), (2, .int a2), (3, .int a3)]) C dX7_hurry_32 rfl (by decide) rfl ?_
        have hL1 : ∀ (n : Nat) (V14 : gV) (x15 : Int32), gSm l (gR 6 188) 5 G X (fX7_hurry_L1 a1 a2 a3 n V14 x15) (rr, VV) V14 34 [(0, .ref (G.1 0)), (1, .int a1), (2, .int a2), (3, .int a3), (4, .int x15)] [] := by
          intro n
          induction n with
          | zero => exact fun V14 x15 => s_none
          | succ n ih =>
            intro V14 x15
            show gSm l (gR 6 188) 5 G X (fX7_hurry_L1b a1 a2 a3 (fX7_hurry_L1 a1 a2 a3 n) V14 x15) (rr, VV) V14 34 [(0, .ref (G.1 0)), (1, .int a1), (2, .int a2), (3, .int a3), (4, .int x15)] []
            generalize fX7_hurry_L1 a1 a2 a3 n = B16 at ih ⊢
            have hB16 := ih
            unfold fX7_hurry_L1b
            refine s_iload (q := 36) C 4 dX7_hurry_34 rfl rfl ?_
            refine s_bipush (q := 38) (v := 9) C dX7_hurry_36 rfl (by decide) ?_
            refine s_icmp_gt (tgt := 92) (q := 41) C dX7_hurry_38 (by decide) rfl (fun c17 => ?_) (fun c17 => ?_)
            · refine s_aload_n (q := 93) C 0 dX7_hurry_92 rfl rfl rfl ?_
              refine s_iconst (q := 94) (v := 2) C dX7_hurry_93 rfl (by decide) ?_
              refine s_Vi (q := 97) (As := [.int 2]) (st := []) C (uX7_error l G hG V14 2) yvX7_error mlX7_58 (s70 hG) rfl rfl rfl rfl rfl rfl (gR_le (by decide) (by decide)) (Nat.le_of_ble_eq_true rfl) dX7_hurry_94 rfl (fun x18 V19 => ?_)
              exact s_iret C E dX7_hurry_97
            · refine s_aload_n (q := 42) C 0 dX7_hurry_41 rfl rfl rfl ?_
              refine geX7_2 (q := 45) C (s70 hG) flX7_19 dX7_hurry_42 rfl ?_
              refine s_aload_n (q := 46) C 0 dX7_hurry_45 rfl rfl rfl ?_
              refine geX7_0 (q := 49) C (s70 hG) flX7_10 dX7_hurry_46 rfl ?_
              refine s_Vv (q := 52) (As := [.ref (G.1 (0 + 1))]) (st := []) C (uX6_copyFrom l G hG V14 (0 + 61) (0 + 1) (qX7_2 hG (s70 hG)) (qX7_0 hG (s70 hG))) yvX6_copyFrom mlX7_218 (qX7_2 hG (s70 hG)) rfl rfl rfl rfl rfl rfl (gR_le (by decide) (by decide)) (Nat.le_of_ble_eq_true rfl) dX7_hurry_49 rfl (fun V20 => ?_)
              refine s_aload_n (q := 53) C 0 dX7_hurry_52 rfl rfl rfl ?_
              refine geX7_2 (q := 56) C (s70 hG) flX7_19 dX7_hurry_53 rfl ?_
              refine s_iload_n (q := 57) C 2 dX7_hurry_56 rfl rfl rfl ?_
              refine s_Vr (q := 60) (As := [.int a2]) (st := []) C (uX6_houseAt l G hG V20 (0 + 61) a2 (qX7_2 hG (s70 hG))) yvX6_houseAt mlX7_66 (qX7_2 hG (s70 hG)) rfl rfl (fun t => G.2.2.1 t = kX1 t) (rX6_houseAt G hG V20 (0 + 61) a2 (qX7_2 hG (s70 hG))) rfl rfl rfl rfl (gR_le (by decide) (by decide)) (Nat.le_of_ble_eq_true rfl) dX7_hurry_57 rfl (fun t21 V22 h23 => ?_)
              refine s_dup (q := 61) C dX7_hurry_60 rfl rfl ?_
              refine geX1_0 (q := 64) C h23 flX7_70 dX7_hurry_61 rfl ?_
              refine s_iload (q := 66) C 4 dX7_hurry_64 rfl rfl ?_
              refine s_iadd (q := 67) C dX7_hurry_66 rfl ?_
              refine peX1_0 (q := 70) C h23 flX7_70 dX7_hurry_67 rfl (fun V24 => ?_)
              refine s_aload_n (q := 71) C 0 dX7_hurry_70 rfl rfl rfl ?_
              refine geX7_2 (q := 74) C (s70 hG) flX7_19 dX7_hurry_71 rfl ?_
              refine s_iload_n (q := 75) C 1 dX7_hurry_74 rfl rfl rfl ?_
              refine s_iload_n (q := 76) C 2 dX7_hurry_75 rfl rfl rfl ?_
              refine s_iload_n (q := 77) C 3 dX7_hurry_76 rfl rfl rfl ?_
              refine s_Vi (q := 80) (As := [.int a1, .int a2, .int a3]) (st := []) C (uX6_firstDayIn l G hG V24 (0 + 61) a1 a2 a3 (qX7_2 hG (s70 hG))) yvX6_firstDayIn mlX7_221 (qX7_2 hG (s70 hG)) rfl rfl rfl rfl rfl rfl (gR_le (by decide) (by decide)) (Nat.le_of_ble_eq_true rfl) dX7_hurry_77 rfl (fun x25 V26 => ?_)
              refine s_if_lt (tgt := 86) (q := 83) C dX7_hurry_80 (by decide) rfl (fun c27 => ?_) (fun c27 => ?_)
              · refine s_iinc (q := 89) (w := 1) (L' := [(4, .int (x15 + 1)), (0, .ref (G.1 0)), (1, .int a1), (2, .int a2), (3, .int a3)]) C 4 dX7_hurry_86 rfl rfl (by decide) rfl (by decide) rfl ?_
                refine s_goto (q := 34) C dX7_hurry_89 (by decide) ?_
                refine s_sub [1, 2, 3, 4, 0] rfl ?_
                exact hB16 V26 ((x15 + 1))
              · refine s_iload (q := 85) C 4 dX7_hurry_83 rfl rfl ?_
                exact s_iret C E dX7_hurry_85
        refine s_sub [1, 2, 3, 4, 0] rfl ?_
        exact hL1 gFu V12 0
noncomputable def fX7_isSheet (V : gV) (a0 : Int32) : Option (Int32 × gV) := gbi (fX7_within V a0 0 3) fun (x1 : Int32) (V2 : gV) => gzb x1 (some (x1, V2))
set_option maxHeartbeats 4000000 in
set_option maxRecDepth 100000 in
theorem uX7_isSheet (l : Launch) (G : gG) (hG : gIsX G) (V : gV) (a0 : Int32) : gMi l G yX7_isSheet cX7_isSheet 1 Jvm.ClassFile.FieldType.boolean (gR 1 22) [.int a0] V (fX7_isSheet V a0) := by
  unfold fX7_isSheet
  refine gM_i (by decide +kernel) rfl rfl (Nat.le_of_ble_eq_true rfl) (fun X rr VV C E => ?_)
  change gC cX7_isSheet 1 RX7 G X at C
  change gSm l (gR 1 22) 1 G X _ (rr, VV) V 0 [(0, .int a0)] []
  refine s_iload_n (q := 1) C 0 dX7_isSheet_0 rfl rfl rfl ?_
  refine s_iconst (q := 2) (v := 0) C dX7_isSheet_1 rfl (by decide) ?_
  refine s_iconst (q := 3) (v := 3) C dX7_isSheet_2 rfl (by decide) ?_
  refine s_Si (q := 6) (As := [.int a0, .int 0, .int 3]) (st := []) C (uX7_within l G hG V a0 0 3) ysX7_within mlX7_54 rfl rfl rfl rfl (gR_le (by decide) (by decide)) (Nat.le_of_ble_eq_true rfl) dX7_isSheet_3 rfl (fun x1 V2 => ?_)
  exact s_zret2 C E dX7_isSheet_6
noncomputable def fX7_sheetAt (V : gV) (a1 : Int32) : Option (Nat × gV) := if a1 < 0 then (some ((0 + 100), V)) else (if 4 ≤ a1 then (some ((0 + 100), V)) else (gar a1 4 <| gar a1 4 <| some ((0 + 104 + 2 * (a1).toNatClampNeg), V)))
set_option maxHeartbeats 4000000 in
set_option maxRecDepth 100000 in
theorem uX7_sheetAt (l : Launch) (G : gG) (hG : gIsX G) (V : gV) (a1 : Int32) : gMr l G yX7_sheetAt cX7_sheetAt 2 (Jvm.ClassFile.FieldType.object "SoapNames$Sheet") (gR 0 0) [.ref (G.1 0), .int a1] V (fX7_sheetAt V a1) := by
  unfold fX7_sheetAt
  refine gM_r (by decide +kernel) rfl rfl (Nat.le_of_ble_eq_true rfl) (fun X rr VV C E => ?_)
  change gC cX7_sheetAt 2 RX7 G X at C
  change gSm l (gR 0 0) 2 G X _ (rr, VV) V 0 [(0, .ref (G.1 0)), (1, .int a1)] []
  refine s_iload_n (q := 1) C 1 dX7_sheetAt_0 rfl rfl rfl ?_
  refine s_if_lt (tgt := 22) (q := 4) C dX7_sheetAt_1 (by decide) rfl (fun c1 => ?_) (fun c1 => ?_)
  · refine s_aload_n (q := 23) C 0 dX7_sheetAt_22 rfl rfl rfl ?_
    refine geX7_6 (q := 26) C (s70 hG) flX7_43 dX7_sheetAt_23 rfl ?_
    exact s_aret C (Or.inl ⟨_, rfl⟩) E dX7_sheetAt_26
  · refine s_iload_n (q := 5) C 1 dX7_sheetAt_4 rfl rfl rfl ?_
    refine s_aload_n (q := 6) C 0 dX7_sheetAt_5 rfl rfl rfl ?_
    refine geX7_5 (q := 9) C (s70 hG) flX7_38 dX7_sheetAt_6 rfl ?_
    refine s_alenr (q := 10) (v := 4) C (qX7_5 hG (s70 hG)) (by decide) dX7_sheetAt_9 rfl ?_
    refine s_icmp_ge (tgt := 22) (q := 13) C dX7_sheetAt_10 (by decide) rfl (fun c2 => ?_) (fun c2 => ?_)
    · refine s_aload_n (q := 23) C 0 dX7_sheetAt_22 rfl rfl rfl ?_
      refine geX7_6 (q := 26) C (s70 hG) flX7_43 dX7_sheetAt_23 rfl ?_
      exact s_aret C (Or.inl ⟨_, rfl⟩) E dX7_sheetAt_26
    · refine s_aload_n (q := 14) C 0 dX7_sheetAt_13 rfl rfl rfl ?_
      refine geX7_5 (q := 17) C (s70 hG) flX7_38 dX7_sheetAt_14 rfl ?_
      refine s_iload_n (q := 18) C 1 dX7_sheetAt_17 rfl rfl rfl ?_
      refine s_aald (q := 19) C (qX7_5 hG (s70 hG)) dX7_sheetAt_18 rfl (fun h3 => ?_)
      refine s_ifnn (q := 27) C dX7_sheetAt_19 (by decide) ?_
      refine s_aload_n (q := 28) C 0 dX7_sheetAt_27 rfl rfl rfl ?_
      refine geX7_5 (q := 31) C (s70 hG) flX7_38 dX7_sheetAt_28 rfl ?_
      refine s_iload_n (q := 32) C 1 dX7_sheetAt_31 rfl rfl rfl ?_
      refine s_aald (q := 33) C (qX7_5 hG (s70 hG)) dX7_sheetAt_32 rfl (fun h4 => ?_)
      exact s_aret C (Or.inl ⟨_, rfl⟩) E dX7_sheetAt_33
theorem rX7_sheetAt (G : gG) (hG : gIsX G) (V : gV) (a1 : Int32) : ∀ t V', fX7_sheetAt V a1 = some (t, V') → G.2.2.1 t = kX3 t := by
  intro t V' h
  unfold fX7_sheetAt gar at h
  have key : t = 0 + 100 ∨ ∃ i, i < 4 ∧ t = 0 + 104 + 2 * i := by
    split at h
    · cases h; exact Or.inl rfl
    · split at h
      · cases h; exact Or.inl rfl
      · split at h
        · cases h
        · rename_i q
          cases h
          exact Or.inr ⟨_, glt_of q, rfl⟩
  rcases key with rfl | ⟨i, hi, rfl⟩
  · exact qX7_6 hG (s70 hG)
  · exact eX7_5 hG (s70 hG) hi
noncomputable def fX7_fits_L1b (t4 : Nat) (B15 : gV → Int32 → Int32 → Option (Int32 × gV)) (V12 : gV) (x13 : Int32) (x14 : Int32) : Option (Int32 × gV) := if (V12 t4 2) ≤ x14 then (some (x13, V12)) else (if x13 = 0 then (some (x13, V12)) else (gbi (fX3_numberAt V12 t4 x14) fun (x18 : Int32) (V19 : gV) => gbi (fX6_cakesShowing V19 (0 + 61) x18) fun (x20 : Int32) (V21 : gV) => glt (x13 &&& x20) fun (x22 : Int32) => gbv (fX6_passDay V21 (0 + 61)) fun (V23 : gV) => B15 V23 x22 ((x14 + 1))))
noncomputable def fX7_fits_L1 (t4 : Nat) : Nat → gV → Int32 → Int32 → Option (Int32 × gV)
  | 0 => fun _ _ _ => none
  | n + 1 => fX7_fits_L1b t4 (fX7_fits_L1 t4 n)
noncomputable def fX7_fits (V : gV) (a1 : Int32) : Option (Int32 × gV) := gbi (fX7_isSheet V a1) fun (x1 : Int32) (V2 : gV) => if x1 = 0 then (gbi (fX7_error V2 1) fun (x26 : Int32) (V27 : gV) => some (x26, V27)) else (gbr (fX7_sheetAt V2 a1) fun (t4 : Nat) (V5 : gV) => gbi (fX3_isMissing V5 t4) fun (x7 : Int32) (V8 : gV) => if x7 = 0 then (gbv (fX6_copyFrom V8 (0 + 61) (0 + 1)) fun (V10 : gV) => glt ((1 <<< ((V10 (0 + 1) 9) &&& 31)) - 1) fun (x11 : Int32) => fX7_fits_L1 t4 gFu V10 x11 0) else (gbi (fX7_error V8 2) fun (x24 : Int32) (V25 : gV) => some (x24, V25)))
set_option maxHeartbeats 4000000 in
set_option maxRecDepth 100000 in
theorem uX7_fits (l : Launch) (G : gG) (hG : gIsX G) (V : gV) (a1 : Int32) : gMi l G yX7_fits cX7_fits 5 Jvm.ClassFile.FieldType.int (gR 5 188) [.ref (G.1 0), .int a1] V (fX7_fits V a1) := by
  unfold fX7_fits
  refine gM_i (by decide +kernel) rfl rfl (Nat.le_of_ble_eq_true rfl) (fun X rr VV C E => ?_)
  change gC cX7_fits 5 RX7 G X at C
  change gSm l (gR 5 188) 5 G X _ (rr, VV) V 0 [(0, .ref (G.1 0)), (1, .int a1)] []
  refine s_iload_n (q := 1) C 1 dX7_fits_0 rfl rfl rfl ?_
  refine s_Si (q := 4) (As := [.int a1]) (st := []) C (uX7_isSheet l G hG V a1) ysX7_isSheet mlX7_236 rfl rfl rfl rfl (gR_le (by decide) (by decide)) (Nat.le_of_ble_eq_true rfl) dX7_fits_1 rfl (fun x1 V2 => ?_)
  refine s_if_ne (tgt := 13) (q := 7) C dX7_fits_4 (by decide) rfl (fun c3 => ?_) (fun c3 => ?_)
  · refine s_aload_n (q := 8) C 0 dX7_fits_7 rfl rfl rfl ?_
    refine s_iconst (q := 9) (v := 1) C dX7_fits_8 rfl (by decide) ?_
    refine s_Vi (q := 12) (As := [.int 1]) (st := []) C (uX7_error l G hG V2 1) yvX7_error mlX7_58 (s70 hG) rfl rfl rfl rfl rfl rfl (gR_le (by decide) (by decide)) (Nat.le_of_ble_eq_true rfl) dX7_fits_9 rfl (fun x26 V27 => ?_)
    exact s_iret C E dX7_fits_12
  · refine s_aload_n (q := 14) C 0 dX7_fits_13 rfl rfl rfl ?_
    refine s_iload_n (q := 15) C 1 dX7_fits_14 rfl rfl rfl ?_
    refine s_Vr (q := 18) (As := [.int a1]) (st := []) C (uX7_sheetAt l G hG V2 a1) yvX7_sheetAt mlX7_239 (s70 hG) rfl rfl (fun t => G.2.2.1 t = kX3 t) (rX7_sheetAt G hG V2 a1) rfl rfl rfl rfl (gR_le (by decide) (by decide)) (Nat.le_of_ble_eq_true rfl) dX7_fits_15 rfl (fun t4 V5 h6 => ?_)
    refine s_astore_n (q := 19) (L' := [(2, .ref (G.1 t4)), (0, .ref (G.1 0)), (1, .int a1)]) C dX7_fits_18 rfl rfl (by decide) rfl ?_
    refine s_aload_n (q := 20) C 0 dX7_fits_19 rfl rfl rfl ?_
    refine s_Vi (q := 23) (As := []) (st := []) C (uX3_isMissing l G hG V5 t4 h6) yvX3_isMissing mlX7_243 h6 rfl rfl rfl rfl rfl rfl (gR_le (by decide) (by decide)) (Nat.le_of_ble_eq_true rfl) dX7_fits_20 rfl (fun x7 V8 => ?_)
    refine s_if_eq (tgt := 32) (q := 26) C dX7_fits_23 (by decide) rfl (fun c9 => ?_) (fun c9 => ?_)
    · refine s_aload_n (q := 33) C 1 dX7_fits_32 rfl rfl rfl ?_
      refine geX7_2 (q := 36) C (s70 hG) flX7_19 dX7_fits_33 rfl ?_
      refine s_aload_n (q := 37) C 1 dX7_fits_36 rfl rfl rfl ?_
      refine geX7_0 (q := 40) C (s70 hG) flX7_10 dX7_fits_37 rfl ?_
      refine s_Vv (q := 43) (As := [.ref (G.1 (0 + 1))]) (st := []) C (uX6_copyFrom l G hG V8 (0 + 61) (0 + 1) (qX7_2 hG (s70 hG)) (qX7_0 hG (s70 hG))) yvX6_copyFrom mlX7_218 (qX7_2 hG (s70 hG)) rfl rfl rfl rfl rfl rfl (gR_le (by decide) (by decide)) (Nat.le_of_ble_eq_true rfl) dX7_fits_40 rfl (fun V10 => ?_)
      refine s_iconst (q := 44) (v := 1) C dX7_fits_43 rfl (by decide) ?_
      refine s_aload_n (q := 45) C 1 dX7_fits_44 rfl rfl rfl ?_
      refine geX7_0 (q := 48) C (s70 hG) flX7_10 dX7_fits_45 rfl ?_
      refine geX6_9 (q := 51) C (qX7_0 hG (s70 hG)) flX7_91 dX7_fits_48 rfl ?_
      refine s_ishl (q := 52) C dX7_fits_51 rfl ?_
      refine s_iconst (q := 53) (v := 1) C dX7_fits_52 rfl (by decide) ?_
      refine s_isub (q := 54) C dX7_fits_53 rfl ?_
      refine s_lt (fun x11 => ?_)
      refine s_istore_n (q := 55) (L' := [(3, .int x11), (2, .ref (G.1 t4)), (0, .ref (G.1 0)), (1, .int a1)]) C dX7_fits_54 rfl rfl (by decide) rfl ?_
      refine s_iconst (q := 56) (v := 0) C dX7_fits_55 rfl (by decide) ?_
      refine s_istore (q := 58) (L' := [(4, .int 0), (3, .int x11), (2, .ref (G.1 t4)), (0, .ref (G.1 0)), (1, .int a1)]) C dX7_fits_56 rfl (by decide) rfl ?_
      have hL1 : ∀ (n : Nat) (V12 : gV) (x13 : Int32) (x14 : Int32), gSm l (gR 5 188) 5 G X (fX7_fits_L1 t4 n V12 x13 x14) (rr, VV) V12 58 [(0, .ref (G.1 0)), (2, .ref (G.1 t4)), (3, .int x13), (4, .int x14)] [] := by
        intro n
        induction n with
        | zero => exact fun V12 x13 x14 => s_none
        | succ n ih =>
          intro V12 x13 x14
          show gSm l (gR 5 188) 5 G X (fX7_fits_L1b t4 (fX7_fits_L1 t4 n) V12 x13 x14) (rr, VV) V12 58 [(0, .ref (G.1 0)), (2, .ref (G.1 t4)), (3, .int x13), (4, .int x14)] []
          generalize fX7_fits_L1 t4 n = B15 at ih ⊢
          have hB15 := ih
          unfold fX7_fits_L1b
          refine s_iload (q := 60) C 3 dX7_fits_58 rfl rfl ?_
          refine s_aload_n (q := 61) C 1 dX7_fits_60 rfl rfl rfl ?_
          refine geX3_2 (q := 64) C h6 flX7_246 dX7_fits_61 rfl ?_
          refine s_icmp_ge (tgt := 100) (q := 67) C dX7_fits_64 (by decide) rfl (fun c16 => ?_) (fun c16 => ?_)
          · refine s_iload_n (q := 101) C 2 dX7_fits_100 rfl rfl rfl ?_
            exact s_iret C E dX7_fits_101
          · refine s_iload_n (q := 68) C 2 dX7_fits_67 rfl rfl rfl ?_
            refine s_if_eq (tgt := 100) (q := 71) C dX7_fits_68 (by decide) rfl (fun c17 => ?_) (fun c17 => ?_)
            · refine s_iload_n (q := 101) C 2 dX7_fits_100 rfl rfl rfl ?_
              exact s_iret C E dX7_fits_101
            · refine s_iload_n (q := 72) C 2 dX7_fits_71 rfl rfl rfl ?_
              refine s_aload_n (q := 73) C 0 dX7_fits_72 rfl rfl rfl ?_
              refine geX7_2 (q := 76) C (s70 hG) flX7_19 dX7_fits_73 rfl ?_
              refine s_aload_n (q := 77) C 1 dX7_fits_76 rfl rfl rfl ?_
              refine s_iload (q := 79) C 3 dX7_fits_77 rfl rfl ?_
              refine s_Vi (q := 82) (As := [.int x14]) (st := [.ref (G.1 (0 + 61)), .int x13]) C (uX3_numberAt l G hG V12 t4 x14 h6) yvX3_numberAt mlX7_249 h6 rfl rfl rfl rfl rfl rfl (gR_le (by decide) (by decide)) (Nat.le_of_ble_eq_true rfl) dX7_fits_79 rfl (fun x18 V19 => ?_)
              refine s_Vi (q := 85) (As := [.int x18]) (st := [.int x13]) C (uX6_cakesShowing l G hG V19 (0 + 61) x18 (qX7_2 hG (s70 hG))) yvX6_cakesShowing mlX7_252 (qX7_2 hG (s70 hG)) rfl rfl rfl rfl rfl rfl (gR_le (by decide) (by decide)) (Nat.le_of_ble_eq_true rfl) dX7_fits_82 rfl (fun x20 V21 => ?_)
              refine s_iand (q := 86) C dX7_fits_85 rfl ?_
              refine s_lt (fun x22 => ?_)
              refine s_istore_n (q := 87) (L' := [(3, .int x22), (0, .ref (G.1 0)), (2, .ref (G.1 t4)), (4, .int x14)]) C dX7_fits_86 rfl rfl (by decide) rfl ?_
              refine s_aload_n (q := 88) C 1 dX7_fits_87 rfl rfl rfl ?_
              refine geX7_2 (q := 91) C (s70 hG) flX7_19 dX7_fits_88 rfl ?_
              refine s_Vv (q := 94) (As := []) (st := []) C (uX6_passDay l G hG V21 (0 + 61) (qX7_2 hG (s70 hG))) yvX6_passDay mlX7_206 (qX7_2 hG (s70 hG)) rfl rfl rfl rfl rfl rfl (gR_le (by decide) (by decide)) (Nat.le_of_ble_eq_true rfl) dX7_fits_91 rfl (fun V23 => ?_)
              refine s_iinc (q := 97) (w := 1) (L' := [(4, .int (x14 + 1)), (3, .int x22), (0, .ref (G.1 0)), (2, .ref (G.1 t4))]) C 3 dX7_fits_94 rfl rfl (by decide) rfl (by decide) rfl ?_
              refine s_goto (q := 58) C dX7_fits_97 (by decide) ?_
              refine s_sub [2, 3, 1, 0] rfl ?_
              exact hB15 V23 x22 ((x14 + 1))
      refine s_sub [3, 2, 1, 0] rfl ?_
      exact hL1 gFu V10 x11 0
    · refine s_aload_n (q := 27) C 1 dX7_fits_26 rfl rfl rfl ?_
      refine s_iconst (q := 28) (v := 2) C dX7_fits_27 rfl (by decide) ?_
      refine s_Vi (q := 31) (As := [.int 2]) (st := []) C (uX7_error l G hG V8 2) yvX7_error mlX7_58 (s70 hG) rfl rfl rfl rfl rfl rfl (gR_le (by decide) (by decide)) (Nat.le_of_ble_eq_true rfl) dX7_fits_28 rfl (fun x24 V25 => ?_)
      exact s_iret C E dX7_fits_31
noncomputable def fX7_howFar_L1b (a2 : Int32) (a3 : Int32) (a5 : Int32) (t23 : Nat) (x26 : Int32) (B32 : gV → Int32 → Int32 → Int32 → Option (Int32 × gV)) (V28 : gV) (x29 : Int32) (x30 : Int32) (x31 : Int32) : Option (Int32 × gV) := if 1000 ≤ x31 then (if a5 = 0 then (some (x29, V28)) else (if x29 = 0 then (gbi (fX7_error V28 2) fun (x36 : Int32) (V37 : gV) => some (x36, V37)) else (some (x30, V28)))) else (gbi (fX0_wouldShow V28 t23 x31 a2) fun (x38 : Int32) (V39 : gV) => if x38 = 0 then (B32 V39 x29 x30 ((x31 + 1))) else (gbi (fX0_wouldShow V39 t23 (x31 + x26) a3) fun (x41 : Int32) (V42 : gV) => if x41 = 0 then (B32 V42 x29 x30 ((x31 + 1))) else (if x29 = 0 then (B32 V42 ((x29 + 1)) x31 ((x31 + 1))) else (B32 V42 ((x29 + 1)) x30 ((x31 + 1))))))
noncomputable def fX7_howFar_L1 (a2 : Int32) (a3 : Int32) (a5 : Int32) (t23 : Nat) (x26 : Int32) : Nat → gV → Int32 → Int32 → Int32 → Option (Int32 × gV)
  | 0 => fun _ _ _ _ => none
  | n + 1 => fX7_howFar_L1b a2 a3 a5 t23 x26 (fX7_howFar_L1 a2 a3 a5 t23 x26 n)
noncomputable def fX7_howFar (V : gV) (a1 : Int32) (a2 : Int32) (a3 : Int32) (a4 : Int32) (a5 : Int32) : Option (Int32 × gV) := gbi (fX7_isCake V a1) fun (x1 : Int32) (V2 : gV) => if x1 = 0 then (gbi (fX7_error V2 1) fun (x4 : Int32) (V5 : gV) => some (x4, V5)) else (gbi (fX7_isGuestOrNobody V2 a2) fun (x6 : Int32) (V7 : gV) => if x6 = 0 then (gbi (fX7_error V7 1) fun (x9 : Int32) (V10 : gV) => some (x9, V10)) else (gbi (fX7_isGuestOrNobody V7 a3) fun (x11 : Int32) (V12 : gV) => if x11 = 0 then (gbi (fX7_error V12 1) fun (x47 : Int32) (V48 : gV) => some (x47, V48)) else (gbi (fX7_within V12 a4 0 20) fun (x14 : Int32) (V15 : gV) => if x14 = 0 then (gbi (fX7_error V15 1) fun (x17 : Int32) (V18 : gV) => some (x17, V18)) else (gbi (fX7_within V15 a5 0 1) fun (x19 : Int32) (V20 : gV) => if x19 = 0 then (gbi (fX7_error V20 1) fun (x45 : Int32) (V46 : gV) => some (x45, V46)) else (gbv (fX6_copyFrom V20 (0 + 61) (0 + 1)) fun (V22 : gV) => gbr (fX6_cakeAt V22 (0 + 61) a1) fun (t23 : Nat) (V24 : gV) => gbi (fX6_wearOfDays V24 (0 + 61) t23 a4) fun (x26 : Int32) (V27 : gV) => fX7_howFar_L1 a2 a3 a5 t23 x26 gFu V27 0 (-1) 0)))))
set_option maxHeartbeats 4000000 in
set_option maxRecDepth 100000 in
theorem uX7_howFar (l : Launch) (G : gG) (hG : gIsX G) (V : gV) (a1 : Int32) (a2 : Int32) (a3 : Int32) (a4 : Int32) (a5 : Int32) : gMi l G yX7_howFar cX7_howFar 11 Jvm.ClassFile.FieldType.int (gR 5 188) [.ref (G.1 0), .int a1, .int a2, .int a3, .int a4, .int a5] V (fX7_howFar V a1 a2 a3 a4 a5) := by
  unfold fX7_howFar
  refine gM_i (by decide +kernel) rfl rfl (Nat.le_of_ble_eq_true rfl) (fun X rr VV C E => ?_)
  change gC cX7_howFar 11 RX7 G X at C
  change gSm l (gR 5 188) 11 G X _ (rr, VV) V 0 [(0, .ref (G.1 0)), (1, .int a1), (2, .int a2), (3, .int a3), (4, .int a4), (5, .int a5)] []
  refine s_aload_n (q := 1) C 0 dX7_howFar_0 rfl rfl rfl ?_
  refine s_iload_n (q := 2) C 1 dX7_howFar_1 rfl rfl rfl ?_
  refine s_Vi (q := 5) (As := [.int a1]) (st := []) C (uX7_isCake l G hG V a1) yvX7_isCake mlX7_107 (s70 hG) rfl rfl rfl rfl rfl rfl (gR_le (by decide) (by decide)) (Nat.le_of_ble_eq_true rfl) dX7_howFar_2 rfl (fun x1 V2 => ?_)
  refine s_if_eq (tgt := 22) (q := 8) C dX7_howFar_5 (by decide) rfl (fun c3 => ?_) (fun c3 => ?_)
  · refine s_aload_n (q := 23) C 0 dX7_howFar_22 rfl rfl rfl ?_
    refine s_iconst (q := 24) (v := 1) C dX7_howFar_23 rfl (by decide) ?_
    refine s_Vi (q := 27) (As := [.int 1]) (st := []) C (uX7_error l G hG V2 1) yvX7_error mlX7_58 (s70 hG) rfl rfl rfl rfl rfl rfl (gR_le (by decide) (by decide)) (Nat.le_of_ble_eq_true rfl) dX7_howFar_24 rfl (fun x4 V5 => ?_)
    exact s_iret C E dX7_howFar_27
  · refine s_iload_n (q := 9) C 2 dX7_howFar_8 rfl rfl rfl ?_
    refine s_Si (q := 12) (As := [.int a2]) (st := []) C (uX7_isGuestOrNobody l G hG V2 a2) ysX7_isGuestOrNobody mlX7_140 rfl rfl rfl rfl (gR_le (by decide) (by decide)) (Nat.le_of_ble_eq_true rfl) dX7_howFar_9 rfl (fun x6 V7 => ?_)
    refine s_if_eq (tgt := 22) (q := 15) C dX7_howFar_12 (by decide) rfl (fun c8 => ?_) (fun c8 => ?_)
    · refine s_aload_n (q := 23) C 0 dX7_howFar_22 rfl rfl rfl ?_
      refine s_iconst (q := 24) (v := 1) C dX7_howFar_23 rfl (by decide) ?_
      refine s_Vi (q := 27) (As := [.int 1]) (st := []) C (uX7_error l G hG V7 1) yvX7_error mlX7_58 (s70 hG) rfl rfl rfl rfl rfl rfl (gR_le (by decide) (by decide)) (Nat.le_of_ble_eq_true rfl) dX7_howFar_24 rfl (fun x9 V10 => ?_)
      exact s_iret C E dX7_howFar_27
    · refine s_iload_n (q := 16) C 3 dX7_howFar_15 rfl rfl rfl ?_
      refine s_Si (q := 19) (As := [.int a3]) (st := []) C (uX7_isGuestOrNobody l G hG V7 a3) ysX7_isGuestOrNobody mlX7_140 rfl rfl rfl rfl (gR_le (by decide) (by decide)) (Nat.le_of_ble_eq_true rfl) dX7_howFar_16 rfl (fun x11 V12 => ?_)
      refine s_if_ne (tgt := 28) (q := 22) C dX7_howFar_19 (by decide) rfl (fun c13 => ?_) (fun c13 => ?_)
      · refine s_aload_n (q := 23) C 0 dX7_howFar_22 rfl rfl rfl ?_
        refine s_iconst (q := 24) (v := 1) C dX7_howFar_23 rfl (by decide) ?_
        refine s_Vi (q := 27) (As := [.int 1]) (st := []) C (uX7_error l G hG V12 1) yvX7_error mlX7_58 (s70 hG) rfl rfl rfl rfl rfl rfl (gR_le (by decide) (by decide)) (Nat.le_of_ble_eq_true rfl) dX7_howFar_24 rfl (fun x47 V48 => ?_)
        exact s_iret C E dX7_howFar_27
      · refine s_iload (q := 30) C 4 dX7_howFar_28 rfl rfl ?_
        refine s_iconst (q := 31) (v := 0) C dX7_howFar_30 rfl (by decide) ?_
        refine s_bipush (q := 33) (v := 20) C dX7_howFar_31 rfl (by decide) ?_
        refine s_Si (q := 36) (As := [.int a4, .int 0, .int 20]) (st := []) C (uX7_within l G hG V12 a4 0 20) ysX7_within mlX7_54 rfl rfl rfl rfl (gR_le (by decide) (by decide)) (Nat.le_of_ble_eq_true rfl) dX7_howFar_33 rfl (fun x14 V15 => ?_)
        refine s_if_eq (tgt := 49) (q := 39) C dX7_howFar_36 (by decide) rfl (fun c16 => ?_) (fun c16 => ?_)
        · refine s_aload_n (q := 50) C 0 dX7_howFar_49 rfl rfl rfl ?_
          refine s_iconst (q := 51) (v := 1) C dX7_howFar_50 rfl (by decide) ?_
          refine s_Vi (q := 54) (As := [.int 1]) (st := []) C (uX7_error l G hG V15 1) yvX7_error mlX7_58 (s70 hG) rfl rfl rfl rfl rfl rfl (gR_le (by decide) (by decide)) (Nat.le_of_ble_eq_true rfl) dX7_howFar_51 rfl (fun x17 V18 => ?_)
          exact s_iret C E dX7_howFar_54
        · refine s_iload (q := 41) C 5 dX7_howFar_39 rfl rfl ?_
          refine s_iconst (q := 42) (v := 0) C dX7_howFar_41 rfl (by decide) ?_
          refine s_iconst (q := 43) (v := 1) C dX7_howFar_42 rfl (by decide) ?_
          refine s_Si (q := 46) (As := [.int a5, .int 0, .int 1]) (st := []) C (uX7_within l G hG V15 a5 0 1) ysX7_within mlX7_54 rfl rfl rfl rfl (gR_le (by decide) (by decide)) (Nat.le_of_ble_eq_true rfl) dX7_howFar_43 rfl (fun x19 V20 => ?_)
          refine s_if_ne (tgt := 55) (q := 49) C dX7_howFar_46 (by decide) rfl (fun c21 => ?_) (fun c21 => ?_)
          · refine s_aload_n (q := 50) C 0 dX7_howFar_49 rfl rfl rfl ?_
            refine s_iconst (q := 51) (v := 1) C dX7_howFar_50 rfl (by decide) ?_
            refine s_Vi (q := 54) (As := [.int 1]) (st := []) C (uX7_error l G hG V20 1) yvX7_error mlX7_58 (s70 hG) rfl rfl rfl rfl rfl rfl (gR_le (by decide) (by decide)) (Nat.le_of_ble_eq_true rfl) dX7_howFar_51 rfl (fun x45 V46 => ?_)
            exact s_iret C E dX7_howFar_54
          · refine s_aload_n (q := 56) C 0 dX7_howFar_55 rfl rfl rfl ?_
            refine geX7_2 (q := 59) C (s70 hG) flX7_19 dX7_howFar_56 rfl ?_
            refine s_aload_n (q := 60) C 0 dX7_howFar_59 rfl rfl rfl ?_
            refine geX7_0 (q := 63) C (s70 hG) flX7_10 dX7_howFar_60 rfl ?_
            refine s_Vv (q := 66) (As := [.ref (G.1 (0 + 1))]) (st := []) C (uX6_copyFrom l G hG V20 (0 + 61) (0 + 1) (qX7_2 hG (s70 hG)) (qX7_0 hG (s70 hG))) yvX6_copyFrom mlX7_218 (qX7_2 hG (s70 hG)) rfl rfl rfl rfl rfl rfl (gR_le (by decide) (by decide)) (Nat.le_of_ble_eq_true rfl) dX7_howFar_63 rfl (fun V22 => ?_)
            refine s_aload_n (q := 67) C 0 dX7_howFar_66 rfl rfl rfl ?_
            refine geX7_2 (q := 70) C (s70 hG) flX7_19 dX7_howFar_67 rfl ?_
            refine s_iload_n (q := 71) C 1 dX7_howFar_70 rfl rfl rfl ?_
            refine s_Vr (q := 74) (As := [.int a1]) (st := []) C (uX6_cakeAt l G hG V22 (0 + 61) a1 (qX7_2 hG (s70 hG))) yvX6_cakeAt mlX7_94 (qX7_2 hG (s70 hG)) rfl rfl (fun t => G.2.2.1 t = kX0 t) (rX6_cakeAt G hG V22 (0 + 61) a1 (qX7_2 hG (s70 hG))) rfl rfl rfl rfl (gR_le (by decide) (by decide)) (Nat.le_of_ble_eq_true rfl) dX7_howFar_71 rfl (fun t23 V24 h25 => ?_)
            refine s_astore (q := 76) (L' := [(6, .ref (G.1 t23)), (0, .ref (G.1 0)), (1, .int a1), (2, .int a2), (3, .int a3), (4, .int a4), (5, .int a5)]) C dX7_howFar_74 rfl (by decide) rfl ?_
            refine s_aload_n (q := 77) C 1 dX7_howFar_76 rfl rfl rfl ?_
            refine geX7_2 (q := 80) C (s70 hG) flX7_19 dX7_howFar_77 rfl ?_
            refine s_aload (q := 82) C 0 dX7_howFar_80 rfl rfl ?_
            refine s_iload (q := 84) C 5 dX7_howFar_82 rfl rfl ?_
            refine s_Vi (q := 87) (As := [.ref (G.1 t23), .int a4]) (st := []) C (uX6_wearOfDays l G hG V24 (0 + 61) t23 a4 (qX7_2 hG (s70 hG)) h25) yvX6_wearOfDays mlX7_255 (qX7_2 hG (s70 hG)) rfl rfl rfl rfl rfl rfl (gR_le (by decide) (by decide)) (Nat.le_of_ble_eq_true rfl) dX7_howFar_84 rfl (fun x26 V27 => ?_)
            refine s_istore (q := 89) (L' := [(7, .int x26), (6, .ref (G.1 t23)), (0, .ref (G.1 0)), (1, .int a1), (2, .int a2), (3, .int a3), (4, .int a4), (5, .int a5)]) C dX7_howFar_87 rfl (by decide) rfl ?_
            refine s_iconst (q := 90) (v := 0) C dX7_howFar_89 rfl (by decide) ?_
            refine s_istore (q := 92) (L' := [(8, .int 0), (7, .int x26), (6, .ref (G.1 t23)), (0, .ref (G.1 0)), (1, .int a1), (2, .int a2), (3, .int a3), (4, .int a4), (5, .int a5)]) C dX7_howFar_90 rfl (by decide) rfl ?_
            refine s_iconst (q := 93) (v := (-1)) C dX7_howFar_92 rfl (by decide) ?_
            refine s_istore (q := 95) (L' := [(9, .int (-1)), (8, .int 0), (7, .int x26), (6, .ref (G.1 t23)), (0, .ref (G.1 0)), (1, .int a1), (2, .int a2), (3, .int a3), (4, .int a4), (5, .int a5)]) C dX7_howFar_93 rfl (by decide) rfl ?_
            refine s_iconst (q := 96) (v := 0) C dX7_howFar_95 rfl (by decide) ?_
            refine s_istore (q := 98) (L' := [(10, .int 0), (9, .int (-1)), (8, .int 0), (7, .int x26), (6, .ref (G.1 t23)), (0, .ref (G.1 0)), (1, .int a1), (2, .int a2), (3, .int a3), (4, .int a4), (5, .int a5)]) C dX7_howFar_96 rfl (by decide) rfl ?_
            have hL1 : ∀ (n : Nat) (V28 : gV) (x29 : Int32) (x30 : Int32) (x31 : Int32), gSm l (gR 5 188) 11 G X (fX7_howFar_L1 a2 a3 a5 t23 x26 n V28 x29 x30 x31) (rr, VV) V28 98 [(0, .ref (G.1 0)), (2, .int a2), (3, .int a3), (5, .int a5), (6, .ref (G.1 t23)), (7, .int x26), (8, .int x29), (9, .int x30), (10, .int x31)] [] := by
              intro n
              induction n with
              | zero => exact fun V28 x29 x30 x31 => s_none
              | succ n ih =>
                intro V28 x29 x30 x31
                show gSm l (gR 5 188) 11 G X (fX7_howFar_L1b a2 a3 a5 t23 x26 (fX7_howFar_L1 a2 a3 a5 t23 x26 n) V28 x29 x30 x31) (rr, VV) V28 98 [(0, .ref (G.1 0)), (2, .int a2), (3, .int a3), (5, .int a5), (6, .ref (G.1 t23)), (7, .int x26), (8, .int x29), (9, .int x30), (10, .int x31)] []
                generalize fX7_howFar_L1 a2 a3 a5 t23 x26 n = B32 at ih ⊢
                have hB32 := ih
                unfold fX7_howFar_L1b
                refine s_iload (q := 100) C 8 dX7_howFar_98 rfl rfl ?_
                refine s_sipush (q := 103) (v := 1000) C dX7_howFar_100 rfl (by decide) ?_
                refine s_icmp_ge (tgt := 154) (q := 106) C dX7_howFar_103 (by decide) rfl (fun c33 => ?_) (fun c33 => ?_)
                · refine s_iload (q := 156) C 3 dX7_howFar_154 rfl rfl ?_
                  refine s_if_ne (tgt := 162) (q := 159) C dX7_howFar_156 (by decide) rfl (fun c34 => ?_) (fun c34 => ?_)
                  · refine s_iload (q := 161) C 6 dX7_howFar_159 rfl rfl ?_
                    exact s_iret C E dX7_howFar_161
                  · refine s_iload (q := 164) C 6 dX7_howFar_162 rfl rfl ?_
                    refine s_if_ne (tgt := 175) (q := 167) C dX7_howFar_164 (by decide) rfl (fun c35 => ?_) (fun c35 => ?_)
                    · refine s_aload_n (q := 168) C 0 dX7_howFar_167 rfl rfl rfl ?_
                      refine s_iconst (q := 169) (v := 2) C dX7_howFar_168 rfl (by decide) ?_
                      refine s_Vi (q := 172) (As := [.int 2]) (st := []) C (uX7_error l G hG V28 2) yvX7_error mlX7_58 (s70 hG) rfl rfl rfl rfl rfl rfl (gR_le (by decide) (by decide)) (Nat.le_of_ble_eq_true rfl) dX7_howFar_169 rfl (fun x36 V37 => ?_)
                      refine s_goto (q := 177) C dX7_howFar_172 (by decide) ?_
                      exact s_iret C E dX7_howFar_177
                    · refine s_iload (q := 177) C 7 dX7_howFar_175 rfl rfl ?_
                      exact s_iret C E dX7_howFar_177
                · refine s_aload (q := 108) C 4 dX7_howFar_106 rfl rfl ?_
                  refine s_iload (q := 110) C 8 dX7_howFar_108 rfl rfl ?_
                  refine s_iload_n (q := 111) C 1 dX7_howFar_110 rfl rfl rfl ?_
                  refine s_Vi (q := 114) (As := [.int x31, .int a2]) (st := []) C (uX0_wouldShow l G hG V28 t23 x31 a2 h25) yvX0_wouldShow mlX7_259 h25 rfl rfl rfl rfl rfl rfl (gR_le (by decide) (by decide)) (Nat.le_of_ble_eq_true rfl) dX7_howFar_111 rfl (fun x38 V39 => ?_)
                  refine s_if_eq (tgt := 148) (q := 117) C dX7_howFar_114 (by decide) rfl (fun c40 => ?_) (fun c40 => ?_)
                  · refine s_iinc (q := 151) (w := 1) (L' := [(10, .int (x31 + 1)), (0, .ref (G.1 0)), (2, .int a2), (3, .int a3), (5, .int a5), (6, .ref (G.1 t23)), (7, .int x26), (8, .int x29), (9, .int x30)]) C 8 dX7_howFar_148 rfl rfl (by decide) rfl (by decide) rfl ?_
                    refine s_goto (q := 98) C dX7_howFar_151 (by decide) ?_
                    refine s_sub [1, 2, 3, 4, 5, 6, 7, 8, 0] rfl ?_
                    exact hB32 V39 x29 x30 ((x31 + 1))
                  · refine s_aload (q := 119) C 4 dX7_howFar_117 rfl rfl ?_
                    refine s_iload (q := 121) C 8 dX7_howFar_119 rfl rfl ?_
                    refine s_iload (q := 123) C 5 dX7_howFar_121 rfl rfl ?_
                    refine s_iadd (q := 124) C dX7_howFar_123 rfl ?_
                    refine s_iload_n (q := 125) C 2 dX7_howFar_124 rfl rfl rfl ?_
                    refine s_Vi (q := 128) (As := [.int (x31 + x26), .int a3]) (st := []) C (uX0_wouldShow l G hG V39 t23 (x31 + x26) a3 h25) yvX0_wouldShow mlX7_259 h25 rfl rfl rfl rfl rfl rfl (gR_le (by decide) (by decide)) (Nat.le_of_ble_eq_true rfl) dX7_howFar_125 rfl (fun x41 V42 => ?_)
                    refine s_if_eq (tgt := 148) (q := 131) C dX7_howFar_128 (by decide) rfl (fun c43 => ?_) (fun c43 => ?_)
                    · refine s_iinc (q := 151) (w := 1) (L' := [(10, .int (x31 + 1)), (0, .ref (G.1 0)), (2, .int a2), (3, .int a3), (5, .int a5), (6, .ref (G.1 t23)), (7, .int x26), (8, .int x29), (9, .int x30)]) C 8 dX7_howFar_148 rfl rfl (by decide) rfl (by decide) rfl ?_
                      refine s_goto (q := 98) C dX7_howFar_151 (by decide) ?_
                      refine s_sub [1, 2, 3, 4, 5, 6, 7, 8, 0] rfl ?_
                      exact hB32 V42 x29 x30 ((x31 + 1))
                    · refine s_iload (q := 133) C 6 dX7_howFar_131 rfl rfl ?_
                      refine s_if_ne (tgt := 141) (q := 136) C dX7_howFar_133 (by decide) rfl (fun c44 => ?_) (fun c44 => ?_)
                      · refine s_iload (q := 138) C 8 dX7_howFar_136 rfl rfl ?_
                        refine s_goto (q := 143) C dX7_howFar_138 (by decide) ?_
                        refine s_istore (q := 145) (L' := [(9, .int x31), (0, .ref (G.1 0)), (2, .int a2), (3, .int a3), (5, .int a5), (6, .ref (G.1 t23)), (7, .int x26), (8, .int x29), (10, .int x31)]) C dX7_howFar_143 rfl (by decide) rfl ?_
                        refine s_iinc (q := 148) (w := 1) (L' := [(8, .int (x29 + 1)), (9, .int x31), (0, .ref (G.1 0)), (2, .int a2), (3, .int a3), (5, .int a5), (6, .ref (G.1 t23)), (7, .int x26), (10, .int x31)]) C 7 dX7_howFar_145 rfl rfl (by decide) rfl (by decide) rfl ?_
                        refine s_iinc (q := 151) (w := 1) (L' := [(10, .int (x31 + 1)), (8, .int (x29 + 1)), (9, .int x31), (0, .ref (G.1 0)), (2, .int a2), (3, .int a3), (5, .int a5), (6, .ref (G.1 t23)), (7, .int x26)]) C 8 dX7_howFar_148 rfl rfl (by decide) rfl (by decide) rfl ?_
                        refine s_goto (q := 98) C dX7_howFar_151 (by decide) ?_
                        refine s_sub [3, 4, 5, 6, 7, 8, 1, 2, 0] rfl ?_
                        exact hB32 V42 ((x29 + 1)) x31 ((x31 + 1))
                      · refine s_iload (q := 143) C 7 dX7_howFar_141 rfl rfl ?_
                        refine s_istore (q := 145) (L' := [(9, .int x30), (0, .ref (G.1 0)), (2, .int a2), (3, .int a3), (5, .int a5), (6, .ref (G.1 t23)), (7, .int x26), (8, .int x29), (10, .int x31)]) C dX7_howFar_143 rfl (by decide) rfl ?_
                        refine s_iinc (q := 148) (w := 1) (L' := [(8, .int (x29 + 1)), (9, .int x30), (0, .ref (G.1 0)), (2, .int a2), (3, .int a3), (5, .int a5), (6, .ref (G.1 t23)), (7, .int x26), (10, .int x31)]) C 7 dX7_howFar_145 rfl rfl (by decide) rfl (by decide) rfl ?_
                        refine s_iinc (q := 151) (w := 1) (L' := [(10, .int (x31 + 1)), (8, .int (x29 + 1)), (9, .int x30), (0, .ref (G.1 0)), (2, .int a2), (3, .int a3), (5, .int a5), (6, .ref (G.1 t23)), (7, .int x26)]) C 8 dX7_howFar_148 rfl rfl (by decide) rfl (by decide) rfl ?_
                        refine s_goto (q := 98) C dX7_howFar_151 (by decide) ?_
                        refine s_sub [3, 4, 5, 6, 7, 8, 1, 2, 0] rfl ?_
                        exact hB32 V42 ((x29 + 1)) x30 ((x31 + 1))
            refine s_sub [5, 7, 8, 10, 4, 3, 2, 1, 0] rfl ?_
            exact hL1 gFu V27 0 (-1) 0
noncomputable def fX7_lendFrom_L1b (rc : Nat → gV → Int32 → Int32 → Int32 → Option (Int32 × gV)) (a1 : Int32) (a2 : Int32) (a3 : Int32) (B5 : gV → Int32 → Option (Int32 × gV)) (V3 : gV) (x4 : Int32) : Option (Int32 × gV) := if (V3 (0 + 1) 9) ≤ x4 then (some (0, V3)) else (gbr (fX6_cakeAt V3 (0 + 1) x4) fun (t7 : Nat) (V8 : gV) => gbi (fX0_shown V8 t7) fun (x10 : Int32) (V11 : gV) => gbi (fX7_guestBit V11 x10) fun (x12 : Int32) (V13 : gV) => if (a2 &&& (1 <<< (x4 &&& 31))) = 0 then (if (a3 &&& x12) = 0 then (gbv (fX7_setAt V13 (0 + 102) 4 a1 x4) fun (V16 : gV) => gbi (rc 0 V16 (a1 + 1) (a2 ||| (1 <<< (x4 &&& 31))) (a3 ||| x12)) fun (x17 : Int32) (V18 : gV) => if x17 = 0 then (B5 V18 ((x4 + 1))) else (some (1, V18))) else (B5 V13 ((x4 + 1)))) else (B5 V13 ((x4 + 1))))
noncomputable def fX7_lendFrom_L1 (rc : Nat → gV → Int32 → Int32 → Int32 → Option (Int32 × gV)) (a1 : Int32) (a2 : Int32) (a3 : Int32) : Nat → gV → Int32 → Option (Int32 × gV)
  | 0 => fun _ _ => none
  | n + 1 => fX7_lendFrom_L1b rc a1 a2 a3 (fX7_lendFrom_L1 rc a1 a2 a3 n)
noncomputable def fX7_lendFrom_B (rc : Nat → gV → Int32 → Int32 → Int32 → Option (Int32 × gV)) (V : gV) (a1 : Int32) (a2 : Int32) (a3 : Int32) : Option (Int32 × gV) := if (V (0 + 1) 8) ≤ a1 then (some (1, V)) else (if a1 < 4 then (fX7_lendFrom_L1 rc a1 a2 a3 gFu V 0) else (some (1, V)))
noncomputable def fleX7 : Nat → Nat → gV → Int32 → Int32 → Int32 → Option (Int32 × gV)
  | 0 => fun _ _ _ _ _ => none
  | d + 1 => fun t V a0 a1 a2 => match t with
    | _ => fX7_lendFrom_B (fleX7 d) V a0 a1 a2
set_option maxHeartbeats 8000000 in
set_option maxRecDepth 100000 in
theorem uleX7 (l : Launch) (G : gG) (hG : gIsX G) : ∀ (d : Nat), (∀ (V : gV) (a1 : Int32) (a2 : Int32) (a3 : Int32), gMi l G yX7_lendFrom cX7_lendFrom 6 Jvm.ClassFile.FieldType.boolean (gR (3 + 1 * d) (63 + 25 * d)) [.ref (G.1 0), .int a1, .int a2, .int a3] V (fleX7 d 0 V a1 a2 a3)) := by
  intro d
  induction d with
  | zero => exact by intros; intro _; intros; contradiction
  | succ d ih =>
    have hrc0 := ih
    intro V a1 a2 a3
    show gMi l G yX7_lendFrom cX7_lendFrom 6 Jvm.ClassFile.FieldType.boolean (gR (3 + 1 * (d + 1)) (63 + 25 * (d + 1))) [.ref (G.1 0), .int a1, .int a2, .int a3] V (fX7_lendFrom_B (fleX7 d) V a1 a2 a3)
    generalize fleX7 d = rc at hrc0 ⊢
    unfold fX7_lendFrom_B
    refine gM_i (by decide +kernel) rfl rfl (Nat.le_of_ble_eq_true rfl) (fun X rr VV C E => ?_)
    change gC cX7_lendFrom 6 RX7 G X at C
    change gSm l (gR (3 + 1 * (d + 1)) (63 + 25 * (d + 1))) 6 G X _ (rr, VV) V 0 [(0, .ref (G.1 0)), (1, .int a1), (2, .int a2), (3, .int a3)] []
    refine s_iload_n (q := 1) C 1 dX7_lendFrom_0 rfl rfl rfl ?_
    refine s_aload_n (q := 2) C 0 dX7_lendFrom_1 rfl rfl rfl ?_
    refine geX7_0 (q := 5) C (s70 hG) flX7_10 dX7_lendFrom_2 rfl ?_
    refine geX6_8 (q := 8) C (qX7_0 hG (s70 hG)) flX7_62 dX7_lendFrom_5 rfl ?_
    refine s_icmp_ge (tgt := 16) (q := 11) C dX7_lendFrom_8 (by decide) rfl (fun c1 => ?_) (fun c1 => ?_)
    · refine s_iconst (q := 17) (v := 1) C dX7_lendFrom_16 rfl (by decide) ?_
      exact s_zret C E rfl dX7_lendFrom_17
    · refine s_iload_n (q := 12) C 1 dX7_lendFrom_11 rfl rfl rfl ?_
      refine s_iconst (q := 13) (v := 4) C dX7_lendFrom_12 rfl (by decide) ?_
      refine s_icmp_lt (tgt := 18) (q := 16) C dX7_lendFrom_13 (by decide) rfl (fun c2 => ?_) (fun c2 => ?_)
      · refine s_iconst (q := 19) (v := 0) C dX7_lendFrom_18 rfl (by decide) ?_
        refine s_istore (q := 21) (L' := [(4, .int 0), (0, .ref (G.1 0)), (1, .int a1), (2, .int a2), (3, .int a3)]) C dX7_lendFrom_19 rfl (by decide) rfl ?_
        have hL1 : ∀ (n : Nat) (V3 : gV) (x4 : Int32), gSm l (gR (3 + 1 * (d + 1)) (63 + 25 * (d + 1))) 6 G X (fX7_lendFrom_L1 rc a1 a2 a3 n V3 x4) (rr, VV) V3 21 [(0, .ref (G.1 0)), (1, .int a1), (2, .int a2), (3, .int a3), (4, .int x4)] [] := by
          intro n
          induction n with
          | zero => exact fun V3 x4 => s_none
          | succ n ih =>
            intro V3 x4
            show gSm l (gR (3 + 1 * (d + 1)) (63 + 25 * (d + 1))) 6 G X (fX7_lendFrom_L1b rc a1 a2 a3 (fX7_lendFrom_L1 rc a1 a2 a3 n) V3 x4) (rr, VV) V3 21 [(0, .ref (G.1 0)), (1, .int a1), (2, .int a2), (3, .int a3), (4, .int x4)] []
            generalize fX7_lendFrom_L1 rc a1 a2 a3 n = B5 at ih ⊢
            have hB5 := ih
            unfold fX7_lendFrom_L1b
            refine s_iload (q := 23) C 4 dX7_lendFrom_21 rfl rfl ?_
            refine s_aload_n (q := 24) C 0 dX7_lendFrom_23 rfl rfl rfl ?_
            refine geX7_0 (q := 27) C (s70 hG) flX7_10 dX7_lendFrom_24 rfl ?_
            refine geX6_9 (q := 30) C (qX7_0 hG (s70 hG)) flX7_91 dX7_lendFrom_27 rfl ?_
            refine s_icmp_ge (tgt := 104) (q := 33) C dX7_lendFrom_30 (by decide) rfl (fun c6 => ?_) (fun c6 => ?_)
            · refine s_iconst (q := 105) (v := 0) C dX7_lendFrom_104 rfl (by decide) ?_
              exact s_zret C E rfl dX7_lendFrom_105
            · refine s_aload_n (q := 34) C 0 dX7_lendFrom_33 rfl rfl rfl ?_
              refine geX7_0 (q := 37) C (s70 hG) flX7_10 dX7_lendFrom_34 rfl ?_
              refine s_iload (q := 39) C 4 dX7_lendFrom_37 rfl rfl ?_
              refine s_Vr (q := 42) (As := [.int x4]) (st := []) C (uX6_cakeAt l G hG V3 (0 + 1) x4 (qX7_0 hG (s70 hG))) yvX6_cakeAt mlX7_94 (qX7_0 hG (s70 hG)) rfl rfl (fun t => G.2.2.1 t = kX0 t) (rX6_cakeAt G hG V3 (0 + 1) x4 (qX7_0 hG (s70 hG))) rfl rfl rfl rfl (gR_le (by omega) (by omega)) (Nat.le_of_ble_eq_true rfl) dX7_lendFrom_39 rfl (fun t7 V8 h9 => ?_)
              refine s_Vi (q := 45) (As := []) (st := []) C (uX0_shown l G hG V8 t7 h9) yvX0_shown mlX7_128 h9 rfl rfl rfl rfl rfl rfl (gR_le (by omega) (by omega)) (Nat.le_of_ble_eq_true rfl) dX7_lendFrom_42 rfl (fun x10 V11 => ?_)
              refine s_Si (q := 48) (As := [.int x10]) (st := []) C (uX7_guestBit l G hG V11 x10) ysX7_guestBit mlX7_333 rfl rfl rfl rfl (gR_le (by omega) (by omega)) (Nat.le_of_ble_eq_true rfl) dX7_lendFrom_45 rfl (fun x12 V13 => ?_)
              refine s_istore (q := 50) (L' := [(5, .int x12), (0, .ref (G.1 0)), (1, .int a1), (2, .int a2), (3, .int a3), (4, .int x4)]) C dX7_lendFrom_48 rfl (by decide) rfl ?_
              refine s_iload_n (q := 51) C 3 dX7_lendFrom_50 rfl rfl rfl ?_
              refine s_iconst (q := 52) (v := 1) C dX7_lendFrom_51 rfl (by decide) ?_
              refine s_iload (q := 54) C 5 dX7_lendFrom_52 rfl rfl ?_
              refine s_ishl (q := 55) C dX7_lendFrom_54 rfl ?_
              refine s_iand (q := 56) C dX7_lendFrom_55 rfl ?_
              refine s_if_ne (tgt := 98) (q := 59) C dX7_lendFrom_56 (by decide) rfl (fun c14 => ?_) (fun c14 => ?_)
              · refine s_iload_n (q := 60) C 4 dX7_lendFrom_59 rfl rfl rfl ?_
                refine s_iload (q := 62) C 0 dX7_lendFrom_60 rfl rfl ?_
                refine s_iand (q := 63) C dX7_lendFrom_62 rfl ?_
                refine s_if_ne (tgt := 98) (q := 66) C dX7_lendFrom_63 (by decide) rfl (fun c15 => ?_) (fun c15 => ?_)
                · refine s_aload_n (q := 67) C 1 dX7_lendFrom_66 rfl rfl rfl ?_
                  refine geX7_7 (q := 70) C (s70 hG) flX7_47 dX7_lendFrom_67 rfl ?_
                  refine s_iload_n (q := 71) C 2 dX7_lendFrom_70 rfl rfl rfl ?_
                  refine s_iload (q := 73) C 5 dX7_lendFrom_71 rfl rfl ?_
                  refine s_Sv (q := 76) (As := [.ref (G.1 (0 + 102)), .int a1, .int x4]) (st := []) C (uX7_setAt l G hG V13 (0 + 102) 4 a1 x4 (qX7_7 hG (s70 hG)) (mX7_7 hG (s70 hG))) ysX7_setAt mlX7_162 rfl rfl rfl rfl (gR_le (by omega) (by omega)) (Nat.le_of_ble_eq_true rfl) dX7_lendFrom_73 rfl (fun V16 => ?_)
                  refine s_aload_n (q := 77) C 1 dX7_lendFrom_76 rfl rfl rfl ?_
                  refine s_iload_n (q := 78) C 2 dX7_lendFrom_77 rfl rfl rfl ?_
                  refine s_iconst (q := 79) (v := 1) C dX7_lendFrom_78 rfl (by decide) ?_
                  refine s_iadd (q := 80) C dX7_lendFrom_79 rfl ?_
                  refine s_iload_n (q := 81) C 3 dX7_lendFrom_80 rfl rfl rfl ?_
                  refine s_iconst (q := 82) (v := 1) C dX7_lendFrom_81 rfl (by decide) ?_
                  refine s_iload (q := 84) C 5 dX7_lendFrom_82 rfl rfl ?_
                  refine s_ishl (q := 85) C dX7_lendFrom_84 rfl ?_
                  refine s_ior (q := 86) C dX7_lendFrom_85 rfl ?_
                  refine s_iload_n (q := 87) C 4 dX7_lendFrom_86 rfl rfl rfl ?_
                  refine s_iload (q := 89) C 0 dX7_lendFrom_87 rfl rfl ?_
                  refine s_ior (q := 90) C dX7_lendFrom_89 rfl ?_
                  refine s_Vi (q := 93) (As := [.int (a1 + 1), .int (a2 ||| (1 <<< (x4 &&& 31))), .int (a3 ||| x12)]) (st := []) C (hrc0 V16 (a1 + 1) (a2 ||| (1 <<< (x4 &&& 31))) (a3 ||| x12)) yvX7_lendFrom mlX7_263 (s70 hG) rfl rfl rfl rfl rfl rfl (gR_le (by omega) (by omega)) (Nat.le_of_ble_eq_true rfl) dX7_lendFrom_90 rfl (fun x17 V18 => ?_)
                  refine s_if_eq (tgt := 98) (q := 96) C dX7_lendFrom_93 (by decide) rfl (fun c19 => ?_) (fun c19 => ?_)
                  · refine s_iinc (q := 101) (w := 1) (L' := [(4, .int (x4 + 1)), (5, .int x12), (0, .ref (G.1 0)), (1, .int a1), (2, .int a2), (3, .int a3)]) C 5 dX7_lendFrom_98 rfl rfl (by decide) rfl (by decide) rfl ?_
                    refine s_goto (q := 21) C dX7_lendFrom_101 (by decide) ?_
                    refine s_sub [2, 3, 4, 5, 0] rfl ?_
                    exact hB5 V18 ((x4 + 1))
                  · refine s_iconst (q := 97) (v := 1) C dX7_lendFrom_96 rfl (by decide) ?_
                    exact s_zret C E rfl dX7_lendFrom_97
                · refine s_iinc (q := 101) (w := 1) (L' := [(4, .int (x4 + 1)), (5, .int x12), (0, .ref (G.1 0)), (1, .int a1), (2, .int a2), (3, .int a3)]) C 5 dX7_lendFrom_98 rfl rfl (by decide) rfl (by decide) rfl ?_
                  refine s_goto (q := 21) C dX7_lendFrom_101 (by decide) ?_
                  refine s_sub [2, 3, 4, 5, 0] rfl ?_
                  exact hB5 V13 ((x4 + 1))
              · refine s_iinc (q := 101) (w := 1) (L' := [(4, .int (x4 + 1)), (5, .int x12), (0, .ref (G.1 0)), (1, .int a1), (2, .int a2), (3, .int a3)]) C 5 dX7_lendFrom_98 rfl rfl (by decide) rfl (by decide) rfl ?_
                refine s_goto (q := 21) C dX7_lendFrom_101 (by decide) ?_
                refine s_sub [2, 3, 4, 5, 0] rfl ?_
                exact hB5 V13 ((x4 + 1))
        refine s_sub [1, 2, 3, 4, 0] rfl ?_
        exact hL1 gFu V 0
      · refine s_iconst (q := 17) (v := 1) C dX7_lendFrom_16 rfl (by decide) ?_
        exact s_zret C E rfl dX7_lendFrom_17
theorem uX7_lendFrom (l : Launch) (G : gG) (hG : gIsX G) (d : Nat) (V : gV) (a1 : Int32) (a2 : Int32) (a3 : Int32) : gMi l G yX7_lendFrom cX7_lendFrom 6 Jvm.ClassFile.FieldType.boolean (gR (3 + 1 * d) (63 + 25 * d)) [.ref (G.1 0), .int a1, .int a2, .int a3] V (fleX7 d 0 V a1 a2 a3) := (uleX7 l G hG d) V a1 a2 a3
noncomputable def fX7_lends (V : gV) (a1 : Int32) : Option (Int32 × gV) := gbi (fX7_isHouse V a1) fun (x1 : Int32) (V2 : gV) => if x1 = 0 then (gbi (fX7_error V2 1) fun (x11 : Int32) (V12 : gV) => some (x11, V12)) else (gbi (fleX7 8 0 V2 0 0 0) fun (x4 : Int32) (V5 : gV) => if x4 = 0 then (gbi (fX7_error V5 2) fun (x7 : Int32) (V8 : gV) => some (x7, V8)) else (gbi (fX7_at V5 (0 + 102) 4 a1) fun (x9 : Int32) (V10 : gV) => some (x9, V10)))
set_option maxHeartbeats 4000000 in
set_option maxRecDepth 100000 in
theorem uX7_lends (l : Launch) (G : gG) (hG : gIsX G) (V : gV) (a1 : Int32) : gMi l G yX7_lends cX7_lends 2 Jvm.ClassFile.FieldType.int (gR 12 288) [.ref (G.1 0), .int a1] V (fX7_lends V a1) := by
  unfold fX7_lends
  refine gM_i (by decide +kernel) rfl rfl (Nat.le_of_ble_eq_true rfl) (fun X rr VV C E => ?_)
  change gC cX7_lends 2 RX7 G X at C
  change gSm l (gR 12 288) 2 G X _ (rr, VV) V 0 [(0, .ref (G.1 0)), (1, .int a1)] []
  refine s_aload_n (q := 1) C 0 dX7_lends_0 rfl rfl rfl ?_
  refine s_iload_n (q := 2) C 1 dX7_lends_1 rfl rfl rfl ?_
  refine s_Vi (q := 5) (As := [.int a1]) (st := []) C (uX7_isHouse l G hG V a1) yvX7_isHouse mlX7_78 (s70 hG) rfl rfl rfl rfl rfl rfl (gR_le (by decide) (by decide)) (Nat.le_of_ble_eq_true rfl) dX7_lends_2 rfl (fun x1 V2 => ?_)
  refine s_if_ne (tgt := 14) (q := 8) C dX7_lends_5 (by decide) rfl (fun c3 => ?_) (fun c3 => ?_)
  · refine s_aload_n (q := 9) C 0 dX7_lends_8 rfl rfl rfl ?_
    refine s_iconst (q := 10) (v := 1) C dX7_lends_9 rfl (by decide) ?_
    refine s_Vi (q := 13) (As := [.int 1]) (st := []) C (uX7_error l G hG V2 1) yvX7_error mlX7_58 (s70 hG) rfl rfl rfl rfl rfl rfl (gR_le (by decide) (by decide)) (Nat.le_of_ble_eq_true rfl) dX7_lends_10 rfl (fun x11 V12 => ?_)
    exact s_iret C E dX7_lends_13
  · refine s_aload_n (q := 15) C 0 dX7_lends_14 rfl rfl rfl ?_
    refine s_iconst (q := 16) (v := 0) C dX7_lends_15 rfl (by decide) ?_
    refine s_iconst (q := 17) (v := 0) C dX7_lends_16 rfl (by decide) ?_
    refine s_iconst (q := 18) (v := 0) C dX7_lends_17 rfl (by decide) ?_
    refine s_Vi (q := 21) (As := [.int 0, .int 0, .int 0]) (st := []) C (uX7_lendFrom l G hG 8 V2 0 0 0) yvX7_lendFrom mlX7_263 (s70 hG) rfl rfl rfl rfl rfl rfl (gR_le (by decide) (by decide)) (Nat.le_of_ble_eq_true rfl) dX7_lends_18 rfl (fun x4 V5 => ?_)
    refine s_if_eq (tgt := 35) (q := 24) C dX7_lends_21 (by decide) rfl (fun c6 => ?_) (fun c6 => ?_)
    · refine s_aload_n (q := 36) C 0 dX7_lends_35 rfl rfl rfl ?_
      refine s_iconst (q := 37) (v := 2) C dX7_lends_36 rfl (by decide) ?_
      refine s_Vi (q := 40) (As := [.int 2]) (st := []) C (uX7_error l G hG V5 2) yvX7_error mlX7_58 (s70 hG) rfl rfl rfl rfl rfl rfl (gR_le (by decide) (by decide)) (Nat.le_of_ble_eq_true rfl) dX7_lends_37 rfl (fun x7 V8 => ?_)
      exact s_iret C E dX7_lends_40
    · refine s_aload_n (q := 25) C 0 dX7_lends_24 rfl rfl rfl ?_
      refine geX7_7 (q := 28) C (s70 hG) flX7_47 dX7_lends_25 rfl ?_
      refine s_iload_n (q := 29) C 1 dX7_lends_28 rfl rfl rfl ?_
      refine s_Si (q := 32) (As := [.ref (G.1 (0 + 102)), .int a1]) (st := []) C (uX7_at l G hG V5 (0 + 102) 4 a1 (qX7_7 hG (s70 hG))) ysX7_at mlX7_266 rfl rfl rfl rfl (gR_le (by decide) (by decide)) (Nat.le_of_ble_eq_true rfl) dX7_lends_29 rfl (fun x9 V10 => ?_)
      refine s_goto (q := 40) C dX7_lends_32 (by decide) ?_
      exact s_iret C E dX7_lends_40
noncomputable def fX7_partInLowestTerms_L1b (V : gV) (a0 : Int32) (a1 : Int32) (B2 : Int32 → Option (Int32 × gV)) (x1 : Int32) : Option (Int32 × gV) := if x1 ≤ 1 then (some (a1, V)) else (gdv x1 <| if (grm 10 x1) = 0 then (gdv x1 <| if (grm a0 x1) = 0 then (gdv x1 <| some ((a1 / x1), V)) else (B2 ((x1 + (-1))))) else (B2 ((x1 + (-1)))))
noncomputable def fX7_partInLowestTerms_L1 (V : gV) (a0 : Int32) (a1 : Int32) : Nat → Int32 → Option (Int32 × gV)
  | 0 => fun _ => none
  | n + 1 => fX7_partInLowestTerms_L1b V a0 a1 (fX7_partInLowestTerms_L1 V a0 a1 n)
noncomputable def fX7_partInLowestTerms (V : gV) (a0 : Int32) (a1 : Int32) : Option (Int32 × gV) := fX7_partInLowestTerms_L1 V a0 a1 gFu 10
set_option maxHeartbeats 4000000 in
set_option maxRecDepth 100000 in
theorem uX7_partInLowestTerms (l : Launch) (G : gG) (hG : gIsX G) (V : gV) (a0 : Int32) (a1 : Int32) : gMi l G yX7_partInLowestTerms cX7_partInLowestTerms 3 Jvm.ClassFile.FieldType.int (gR 0 0) [.int a0, .int a1] V (fX7_partInLowestTerms V a0 a1) := by
  unfold fX7_partInLowestTerms
  refine gM_i (by decide +kernel) rfl rfl (Nat.le_of_ble_eq_true rfl) (fun X rr VV C E => ?_)
  change gC cX7_partInLowestTerms 3 RX7 G X at C
  change gSm l (gR 0 0) 3 G X _ (rr, VV) V 0 [(0, .int a0), (1, .int a1)] []
  refine s_bipush (q := 2) (v := 10) C dX7_partInLowestTerms_0 rfl (by decide) ?_
  refine s_istore_n (q := 3) (L' := [(2, .int 10), (0, .int a0), (1, .int a1)]) C dX7_partInLowestTerms_2 rfl rfl (by decide) rfl ?_
  have hL1 : ∀ (n : Nat) (x1 : Int32), gSm l (gR 0 0) 3 G X (fX7_partInLowestTerms_L1 V a0 a1 n x1) (rr, VV) V 3 [(0, .int a0), (1, .int a1), (2, .int x1)] [] := by
    intro n
    induction n with
    | zero => exact fun x1 => s_none
    | succ n ih =>
      intro x1
      show gSm l (gR 0 0) 3 G X (fX7_partInLowestTerms_L1b V a0 a1 (fX7_partInLowestTerms_L1 V a0 a1 n) x1) (rr, VV) V 3 [(0, .int a0), (1, .int a1), (2, .int x1)] []
      generalize fX7_partInLowestTerms_L1 V a0 a1 n = B2 at ih ⊢
      have hB2 := ih
      unfold fX7_partInLowestTerms_L1b
      refine s_iload_n (q := 4) C 2 dX7_partInLowestTerms_3 rfl rfl rfl ?_
      refine s_iconst (q := 5) (v := 1) C dX7_partInLowestTerms_4 rfl (by decide) ?_
      refine s_icmp_le (tgt := 31) (q := 8) C dX7_partInLowestTerms_5 (by decide) rfl (fun c3 => ?_) (fun c3 => ?_)
      · refine s_iload_n (q := 32) C 1 dX7_partInLowestTerms_31 rfl rfl rfl ?_
        exact s_iret C E dX7_partInLowestTerms_32
      · refine s_bipush (q := 10) (v := 10) C dX7_partInLowestTerms_8 rfl (by decide) ?_
        refine s_iload_n (q := 11) C 2 dX7_partInLowestTerms_10 rfl rfl rfl ?_
        refine s_irem (q := 12) C dX7_partInLowestTerms_11 rfl ?_
        refine s_if_ne (tgt := 25) (q := 15) C dX7_partInLowestTerms_12 (by decide) rfl (fun c4 => ?_) (fun c4 => ?_)
        · refine s_iload_n (q := 16) C 0 dX7_partInLowestTerms_15 rfl rfl rfl ?_
          refine s_iload_n (q := 17) C 2 dX7_partInLowestTerms_16 rfl rfl rfl ?_
          refine s_irem (q := 18) C dX7_partInLowestTerms_17 rfl ?_
          refine s_if_ne (tgt := 25) (q := 21) C dX7_partInLowestTerms_18 (by decide) rfl (fun c5 => ?_) (fun c5 => ?_)
          · refine s_iload_n (q := 22) C 1 dX7_partInLowestTerms_21 rfl rfl rfl ?_
            refine s_iload_n (q := 23) C 2 dX7_partInLowestTerms_22 rfl rfl rfl ?_
            refine s_idiv (q := 24) C dX7_partInLowestTerms_23 rfl ?_
            exact s_iret C E dX7_partInLowestTerms_24
          · refine s_iinc (q := 28) (w := (-1)) (L' := [(2, .int (x1 + (-1))), (0, .int a0), (1, .int a1)]) C 2 dX7_partInLowestTerms_25 rfl rfl (by decide) rfl (by decide) rfl ?_
            refine s_goto (q := 3) C dX7_partInLowestTerms_28 (by decide) ?_
            refine s_sub [1, 2, 0] rfl ?_
            exact hB2 ((x1 + (-1)))
        · refine s_iinc (q := 28) (w := (-1)) (L' := [(2, .int (x1 + (-1))), (0, .int a0), (1, .int a1)]) C 2 dX7_partInLowestTerms_25 rfl rfl (by decide) rfl (by decide) rfl ?_
          refine s_goto (q := 3) C dX7_partInLowestTerms_28 (by decide) ?_
          refine s_sub [1, 2, 0] rfl ?_
          exact hB2 ((x1 + (-1)))
  refine s_sub [1, 2, 0] rfl ?_
  exact hL1 gFu 10

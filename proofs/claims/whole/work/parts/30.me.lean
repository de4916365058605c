noncomputable def fX8_worns_L1b (a1 : Int32) (B8 : gV → Int32 → Option (Int32 × gV)) (V6 : gV) (x7 : Int32) : Option (Int32 × gV) := gal V6 (0 + 7) a1 4 fun (x9 : Int32) => if x9 ≤ x7 then (some (x7, V6)) else (gbi (fX8_isCake V6 x7) fun (x11 : Int32) (V12 : gV) => if x11 = 0 then (some (x7, V12)) else (gal V12 (0 + 8) ((40 * a1) + x7) 160 fun (x14 : Int32) => gbi (fX8_in V12 x14 0 9999) fun (x15 : Int32) (V16 : gV) => if x15 = 0 then (some (x7, V16)) else (gal V16 (0 + 8) ((40 * a1) + x7) 160 fun (x18 : Int32) => gbv (fX8_gets V16 x7 4 x18) fun (V19 : gV) => B8 V19 ((x7 + 1)))))
noncomputable def fX8_worns_L1 (a1 : Int32) : Nat → gV → Int32 → Option (Int32 × gV)
  | 0 => fun _ _ => none
  | n + 1 => fX8_worns_L1b a1 (fX8_worns_L1 a1 n)
noncomputable def fX8_worns (V : gV) (a1 : Int32) : Option (Int32 × gV) := gbi (fX8_isSheet V a1) fun (x1 : Int32) (V2 : gV) => if x1 = 0 then (gbi (fX8_errs V2 (-1000000001)) fun (x22 : Int32) (V23 : gV) => some (x22, V23)) else (gal V2 (0 + 6) a1 4 fun (x4 : Int32) => if x4 = 0 then (gbi (fX8_errs V2 (-1000000002)) fun (x20 : Int32) (V21 : gV) => some (x20, V21)) else (fX8_worns_L1 a1 gFu V2 0))
set_option maxHeartbeats 4000000 in
set_option maxRecDepth 100000 in
theorem uX8_worns (l : Launch) (G : gG) (hG : gIsM G) (V : gV) (a1 : Int32) : gMi l G yX8_worns cX8_worns 3 Jvm.ClassFile.FieldType.int (gR 2 43) [.ref (G.1 0), .int a1] V (fX8_worns V a1) := by
  unfold fX8_worns
  refine gM_i (by decide +kernel) rfl rfl (Nat.le_of_ble_eq_true rfl) (fun X rr VV C E => ?_)
  change gC cX8_worns 3 RX8 G X at C
  change gSm l (gR 2 43) 3 G X _ (rr, VV) V 0 [(0, .ref (G.1 0)), (1, .int a1)] []
  refine s_iload_n (q := 1) C 1 dX8_worns_0 rfl rfl rfl ?_
  refine s_Si (q := 4) (As := [.int a1]) (st := []) C (uX8_isSheet l G hG V a1) ysX8_isSheet mlX8_209 rfl rfl rfl rfl (gR_le (by decide) (by decide)) (Nat.le_of_ble_eq_true rfl) dX8_worns_1 rfl (fun x1 V2 => ?_)
  refine s_if_ne (tgt := 14) (q := 7) C dX8_worns_4 (by decide) rfl (fun c3 => ?_) (fun c3 => ?_)
  · refine s_aload_n (q := 8) C 0 dX8_worns_7 rfl rfl rfl ?_
    refine s_ldc (q := 10) (v := (-1000000001)) C dX8_worns_8 rfl kX8_48 ?_
    refine s_Vi (q := 13) (As := [.int (-1000000001)]) (st := []) C (uX8_errs l G hG V2 (-1000000001)) yvX8_errs mlX8_49 (s80 hG) rfl rfl rfl rfl rfl rfl (gR_le (by decide) (by decide)) (Nat.le_of_ble_eq_true rfl) dX8_worns_10 rfl (fun x22 V23 => ?_)
    exact s_iret C E dX8_worns_13
  · refine s_aload_n (q := 15) C 0 dX8_worns_14 rfl rfl rfl ?_
    refine geX8_15 (q := 18) C (s80 hG) flX8_25 dX8_worns_15 rfl ?_
    refine s_iload_n (q := 19) C 1 dX8_worns_18 rfl rfl rfl ?_
    refine s_iald (q := 20) C (qX8_15 hG) dX8_worns_19 rfl (fun x4 => ?_)
    refine s_if_ne (tgt := 30) (q := 23) C dX8_worns_20 (by decide) rfl (fun c5 => ?_) (fun c5 => ?_)
    · refine s_aload_n (q := 24) C 0 dX8_worns_23 rfl rfl rfl ?_
      refine s_ldc (q := 26) (v := (-1000000002)) C dX8_worns_24 rfl kX8_199 ?_
      refine s_Vi (q := 29) (As := [.int (-1000000002)]) (st := []) C (uX8_errs l G hG V2 (-1000000002)) yvX8_errs mlX8_49 (s80 hG) rfl rfl rfl rfl rfl rfl (gR_le (by decide) (by decide)) (Nat.le_of_ble_eq_true rfl) dX8_worns_26 rfl (fun x20 V21 => ?_)
      exact s_iret C E dX8_worns_29
    · refine s_iconst (q := 31) (v := 0) C dX8_worns_30 rfl (by decide) ?_
      refine s_istore_n (q := 32) (L' := [(2, .int 0), (0, .ref (G.1 0)), (1, .int a1)]) C dX8_worns_31 rfl rfl (by decide) rfl ?_
      have hL1 : ∀ (n : Nat) (V6 : gV) (x7 : Int32), gSm l (gR 2 43) 3 G X (fX8_worns_L1 a1 n V6 x7) (rr, VV) V6 32 [(0, .ref (G.1 0)), (1, .int a1), (2, .int x7)] [] := by
        intro n
        induction n with
        | zero => exact fun V6 x7 => s_none
        | succ n ih =>
          intro V6 x7
          show gSm l (gR 2 43) 3 G X (fX8_worns_L1b a1 (fX8_worns_L1 a1 n) V6 x7) (rr, VV) V6 32 [(0, .ref (G.1 0)), (1, .int a1), (2, .int x7)] []
          generalize fX8_worns_L1 a1 n = B8 at ih ⊢
          have hB8 := ih
          unfold fX8_worns_L1b
          refine s_iload_n (q := 33) C 2 dX8_worns_32 rfl rfl rfl ?_
          refine s_aload_n (q := 34) C 0 dX8_worns_33 rfl rfl rfl ?_
          refine geX8_16 (q := 37) C (s80 hG) flX8_28 dX8_worns_34 rfl ?_
          refine s_iload_n (q := 38) C 1 dX8_worns_37 rfl rfl rfl ?_
          refine s_iald (q := 39) C (qX8_16 hG) dX8_worns_38 rfl (fun x9 => ?_)
          refine s_icmp_ge (tgt := 94) (q := 42) C dX8_worns_39 (by decide) rfl (fun c10 => ?_) (fun c10 => ?_)
          · refine s_iload_n (q := 95) C 2 dX8_worns_94 rfl rfl rfl ?_
            exact s_iret C E dX8_worns_95
          · refine s_aload_n (q := 43) C 0 dX8_worns_42 rfl rfl rfl ?_
            refine s_iload_n (q := 44) C 2 dX8_worns_43 rfl rfl rfl ?_
            refine s_Vi (q := 47) (As := [.int x7]) (st := []) C (uX8_isCake l G hG V6 x7) yvX8_isCake mlX8_78 (s80 hG) rfl rfl rfl rfl rfl rfl (gR_le (by decide) (by decide)) (Nat.le_of_ble_eq_true rfl) dX8_worns_44 rfl (fun x11 V12 => ?_)
            refine s_if_eq (tgt := 94) (q := 50) C dX8_worns_47 (by decide) rfl (fun c13 => ?_) (fun c13 => ?_)
            · refine s_iload_n (q := 95) C 2 dX8_worns_94 rfl rfl rfl ?_
              exact s_iret C E dX8_worns_95
            · refine s_aload_n (q := 51) C 0 dX8_worns_50 rfl rfl rfl ?_
              refine geX8_17 (q := 54) C (s80 hG) flX8_31 dX8_worns_51 rfl ?_
              refine s_bipush (q := 56) (v := 40) C dX8_worns_54 rfl (by decide) ?_
              refine s_iload_n (q := 57) C 1 dX8_worns_56 rfl rfl rfl ?_
              refine s_imul (q := 58) C dX8_worns_57 rfl ?_
              refine s_iload_n (q := 59) C 2 dX8_worns_58 rfl rfl rfl ?_
              refine s_iadd (q := 60) C dX8_worns_59 rfl ?_
              refine s_iald (q := 61) C (qX8_17 hG) dX8_worns_60 rfl (fun x14 => ?_)
              refine s_iconst (q := 62) (v := 0) C dX8_worns_61 rfl (by decide) ?_
              refine s_sipush (q := 65) (v := 9999) C dX8_worns_62 rfl (by decide) ?_
              refine s_Si (q := 68) (As := [.int x14, .int 0, .int 9999]) (st := []) C (uX8_in l G hG V12 x14 0 9999) ysX8_in mlX8_44 rfl rfl rfl rfl (gR_le (by decide) (by decide)) (Nat.le_of_ble_eq_true rfl) dX8_worns_65 rfl (fun x15 V16 => ?_)
              refine s_if_eq (tgt := 94) (q := 71) C dX8_worns_68 (by decide) rfl (fun c17 => ?_) (fun c17 => ?_)
              · refine s_iload_n (q := 95) C 2 dX8_worns_94 rfl rfl rfl ?_
                exact s_iret C E dX8_worns_95
              · refine s_aload_n (q := 72) C 0 dX8_worns_71 rfl rfl rfl ?_
                refine s_iload_n (q := 73) C 2 dX8_worns_72 rfl rfl rfl ?_
                refine s_iconst (q := 74) (v := 4) C dX8_worns_73 rfl (by decide) ?_
                refine s_aload_n (q := 75) C 0 dX8_worns_74 rfl rfl rfl ?_
                refine geX8_17 (q := 78) C (s80 hG) flX8_31 dX8_worns_75 rfl ?_
                refine s_bipush (q := 80) (v := 40) C dX8_worns_78 rfl (by decide) ?_
                refine s_iload_n (q := 81) C 1 dX8_worns_80 rfl rfl rfl ?_
                refine s_imul (q := 82) C dX8_worns_81 rfl ?_
                refine s_iload_n (q := 83) C 2 dX8_worns_82 rfl rfl rfl ?_
                refine s_iadd (q := 84) C dX8_worns_83 rfl ?_
                refine s_iald (q := 85) C (qX8_17 hG) dX8_worns_84 rfl (fun x18 => ?_)
                refine s_Vv (q := 88) (As := [.int x7, .int 4, .int x18]) (st := []) C (uX8_gets l G hG V16 x7 4 x18) yvX8_gets mlX8_74 (s80 hG) rfl rfl rfl rfl rfl rfl (gR_le (by decide) (by decide)) (Nat.le_of_ble_eq_true rfl) dX8_worns_85 rfl (fun V19 => ?_)
                refine s_iinc (q := 91) (w := 1) (L' := [(2, .int (x7 + 1)), (0, .ref (G.1 0)), (1, .int a1)]) C 2 dX8_worns_88 rfl rfl (by decide) rfl (by decide) rfl ?_
                refine s_goto (q := 32) C dX8_worns_91 (by decide) ?_
                refine s_sub [1, 2, 0] rfl ?_
                exact hB8 V19 ((x7 + 1))
      refine s_sub [1, 2, 0] rfl ?_
      exact hL1 gFu V2 0
noncomputable def fX8_judge_L1b (a1 : Int32) (B8 : gV → Int32 → Option (Int32 × gV)) (V6 : gV) (x7 : Int32) : Option (Int32 × gV) := gal V6 (0 + 1) 3 264 fun (x9 : Int32) => gjn (fun (V17 : gV) => gal V17 (0 + 1) 3 264 fun (x19 : Int32) => if x7 = x19 then (gal V17 (0 + 7) a1 4 fun (x21 : Int32) => if x7 = x21 then (some ((-1), V17)) else (some (x7, V17))) else (some (x7, V17))) fun J18 => if x9 ≤ x7 then (J18 V6) else (gal V6 (0 + 7) a1 4 fun (x24 : Int32) => if x24 ≤ x7 then (J18 V6) else (gal V6 (0 + 8) ((40 * a1) + x7) 160 fun (x26 : Int32) => gbi (fX8_shows V6 x7) fun (x27 : Int32) (V28 : gV) => if x26 = x27 then (B8 V28 ((x7 + 1))) else (J18 V28)))
noncomputable def fX8_judge_L1 (a1 : Int32) : Nat → gV → Int32 → Option (Int32 × gV)
  | 0 => fun _ _ => none
  | n + 1 => fX8_judge_L1b a1 (fX8_judge_L1 a1 n)
noncomputable def fX8_judge (V : gV) (a1 : Int32) : Option (Int32 × gV) := gbi (fX8_isSheet V a1) fun (x1 : Int32) (V2 : gV) => if x1 = 0 then (gbi (fX8_errs V2 (-1000000001)) fun (x32 : Int32) (V33 : gV) => some (x32, V33)) else (gal V2 (0 + 6) a1 4 fun (x4 : Int32) => if x4 = 0 then (gbi (fX8_errs V2 (-1000000002)) fun (x30 : Int32) (V31 : gV) => some (x30, V31)) else (fX8_judge_L1 a1 gFu V2 0))
set_option maxHeartbeats 4000000 in
set_option maxRecDepth 100000 in
theorem uX8_judge (l : Launch) (G : gG) (hG : gIsM G) (V : gV) (a1 : Int32) : gMi l G yX8_judge cX8_judge 3 Jvm.ClassFile.FieldType.int (gR 69 1644) [.ref (G.1 0), .int a1] V (fX8_judge V a1) := by
  unfold fX8_judge
  refine gM_i (by decide +kernel) rfl rfl (Nat.le_of_ble_eq_true rfl) (fun X rr VV C E => ?_)
  change gC cX8_judge 3 RX8 G X at C
  change gSm l (gR 69 1644) 3 G X _ (rr, VV) V 0 [(0, .ref (G.1 0)), (1, .int a1)] []
  refine s_iload_n (q := 1) C 1 dX8_judge_0 rfl rfl rfl ?_
  refine s_Si (q := 4) (As := [.int a1]) (st := []) C (uX8_isSheet l G hG V a1) ysX8_isSheet mlX8_209 rfl rfl rfl rfl (gR_le (by decide) (by decide)) (Nat.le_of_ble_eq_true rfl) dX8_judge_1 rfl (fun x1 V2 => ?_)
  refine s_if_ne (tgt := 14) (q := 7) C dX8_judge_4 (by decide) rfl (fun c3 => ?_) (fun c3 => ?_)
  · refine s_aload_n (q := 8) C 0 dX8_judge_7 rfl rfl rfl ?_
    refine s_ldc (q := 10) (v := (-1000000001)) C dX8_judge_8 rfl kX8_48 ?_
    refine s_Vi (q := 13) (As := [.int (-1000000001)]) (st := []) C (uX8_errs l G hG V2 (-1000000001)) yvX8_errs mlX8_49 (s80 hG) rfl rfl rfl rfl rfl rfl (gR_le (by decide) (by decide)) (Nat.le_of_ble_eq_true rfl) dX8_judge_10 rfl (fun x32 V33 => ?_)
    exact s_iret C E dX8_judge_13
  · refine s_aload_n (q := 15) C 0 dX8_judge_14 rfl rfl rfl ?_
    refine geX8_15 (q := 18) C (s80 hG) flX8_25 dX8_judge_15 rfl ?_
    refine s_iload_n (q := 19) C 1 dX8_judge_18 rfl rfl rfl ?_
    refine s_iald (q := 20) C (qX8_15 hG) dX8_judge_19 rfl (fun x4 => ?_)
    refine s_if_ne (tgt := 30) (q := 23) C dX8_judge_20 (by decide) rfl (fun c5 => ?_) (fun c5 => ?_)
    · refine s_aload_n (q := 24) C 0 dX8_judge_23 rfl rfl rfl ?_
      refine s_ldc (q := 26) (v := (-1000000002)) C dX8_judge_24 rfl kX8_199 ?_
      refine s_Vi (q := 29) (As := [.int (-1000000002)]) (st := []) C (uX8_errs l G hG V2 (-1000000002)) yvX8_errs mlX8_49 (s80 hG) rfl rfl rfl rfl rfl rfl (gR_le (by decide) (by decide)) (Nat.le_of_ble_eq_true rfl) dX8_judge_26 rfl (fun x30 V31 => ?_)
      exact s_iret C E dX8_judge_29
    · refine s_iconst (q := 31) (v := 0) C dX8_judge_30 rfl (by decide) ?_
      refine s_istore_n (q := 32) (L' := [(2, .int 0), (0, .ref (G.1 0)), (1, .int a1)]) C dX8_judge_31 rfl rfl (by decide) rfl ?_
      have hL1 : ∀ (n : Nat) (V6 : gV) (x7 : Int32), gSm l (gR 69 1644) 3 G X (fX8_judge_L1 a1 n V6 x7) (rr, VV) V6 32 [(0, .ref (G.1 0)), (1, .int a1), (2, .int x7)] [] := by
        intro n
        induction n with
        | zero => exact fun V6 x7 => s_none
        | succ n ih =>
          intro V6 x7
          show gSm l (gR 69 1644) 3 G X (fX8_judge_L1b a1 (fX8_judge_L1 a1 n) V6 x7) (rr, VV) V6 32 [(0, .ref (G.1 0)), (1, .int a1), (2, .int x7)] []
          generalize fX8_judge_L1 a1 n = B8 at ih ⊢
          have hB8 := ih
          unfold fX8_judge_L1b
          refine s_iload_n (q := 33) C 2 dX8_judge_32 rfl rfl rfl ?_
          refine s_aload_n (q := 34) C 0 dX8_judge_33 rfl rfl rfl ?_
          refine geX8_0 (q := 37) C (s80 hG) flX8_7 dX8_judge_34 rfl ?_
          refine s_iconst (q := 38) (v := 3) C dX8_judge_37 rfl (by decide) ?_
          refine s_iald (q := 39) C (qX8_0 hG) dX8_judge_38 rfl (fun x9 => ?_)
          refine s_jn (fun J18 => ∀ (V17 : gV), gSm l (gR 69 1644) 3 G X (J18 V17) (rr, VV) V17 77 [(0, .ref (G.1 0)), (1, .int a1), (2, .int x7)] []) ?_ (fun J18 hJ18 => ?_)
          · intro V17
            refine s_iload_n (q := 78) C 2 dX8_judge_77 rfl rfl rfl ?_
            refine s_aload_n (q := 79) C 0 dX8_judge_78 rfl rfl rfl ?_
            refine geX8_0 (q := 82) C (s80 hG) flX8_7 dX8_judge_79 rfl ?_
            refine s_iconst (q := 83) (v := 3) C dX8_judge_82 rfl (by decide) ?_
            refine s_iald (q := 84) C (qX8_0 hG) dX8_judge_83 rfl (fun x19 => ?_)
            refine s_icmp_ne (tgt := 101) (q := 87) C dX8_judge_84 (by decide) rfl (fun c20 => ?_) (fun c20 => ?_)
            · refine s_iload_n (q := 88) C 2 dX8_judge_87 rfl rfl rfl ?_
              refine s_aload_n (q := 89) C 0 dX8_judge_88 rfl rfl rfl ?_
              refine geX8_16 (q := 92) C (s80 hG) flX8_28 dX8_judge_89 rfl ?_
              refine s_iload_n (q := 93) C 1 dX8_judge_92 rfl rfl rfl ?_
              refine s_iald (q := 94) C (qX8_16 hG) dX8_judge_93 rfl (fun x21 => ?_)
              refine s_icmp_ne (tgt := 101) (q := 97) C dX8_judge_94 (by decide) rfl (fun c22 => ?_) (fun c22 => ?_)
              · refine s_iconst (q := 98) (v := (-1)) C dX8_judge_97 rfl (by decide) ?_
                refine s_goto (q := 102) C dX8_judge_98 (by decide) ?_
                exact s_iret C E dX8_judge_102
              · refine s_iload_n (q := 102) C 2 dX8_judge_101 rfl rfl rfl ?_
                exact s_iret C E dX8_judge_102
            · refine s_iload_n (q := 102) C 2 dX8_judge_101 rfl rfl rfl ?_
              exact s_iret C E dX8_judge_102
          · refine s_icmp_ge (tgt := 77) (q := 42) C dX8_judge_39 (by decide) rfl (fun c23 => ?_) (fun c23 => ?_)
            · refine s_sub [0, 1, 2] rfl ?_
              exact hJ18 V6
            · refine s_iload_n (q := 43) C 2 dX8_judge_42 rfl rfl rfl ?_
              refine s_aload_n (q := 44) C 0 dX8_judge_43 rfl rfl rfl ?_
              refine geX8_16 (q := 47) C (s80 hG) flX8_28 dX8_judge_44 rfl ?_
              refine s_iload_n (q := 48) C 1 dX8_judge_47 rfl rfl rfl ?_
              refine s_iald (q := 49) C (qX8_16 hG) dX8_judge_48 rfl (fun x24 => ?_)
              refine s_icmp_ge (tgt := 77) (q := 52) C dX8_judge_49 (by decide) rfl (fun c25 => ?_) (fun c25 => ?_)
              · refine s_sub [0, 1, 2] rfl ?_
                exact hJ18 V6
              · refine s_aload_n (q := 53) C 0 dX8_judge_52 rfl rfl rfl ?_
                refine geX8_17 (q := 56) C (s80 hG) flX8_31 dX8_judge_53 rfl ?_
                refine s_bipush (q := 58) (v := 40) C dX8_judge_56 rfl (by decide) ?_
                refine s_iload_n (q := 59) C 1 dX8_judge_58 rfl rfl rfl ?_
                refine s_imul (q := 60) C dX8_judge_59 rfl ?_
                refine s_iload_n (q := 61) C 2 dX8_judge_60 rfl rfl rfl ?_
                refine s_iadd (q := 62) C dX8_judge_61 rfl ?_
                refine s_iald (q := 63) C (qX8_17 hG) dX8_judge_62 rfl (fun x26 => ?_)
                refine s_aload_n (q := 64) C 0 dX8_judge_63 rfl rfl rfl ?_
                refine s_iload_n (q := 65) C 2 dX8_judge_64 rfl rfl rfl ?_
                refine s_Vi (q := 68) (As := [.int x7]) (st := [.int x26]) C (uX8_shows l G hG V6 x7) yvX8_shows mlX8_58 (s80 hG) rfl rfl rfl rfl rfl rfl (gR_le (by decide) (by decide)) (Nat.le_of_ble_eq_true rfl) dX8_judge_65 rfl (fun x27 V28 => ?_)
                refine s_icmp_ne (tgt := 77) (q := 71) C dX8_judge_68 (by decide) rfl (fun c29 => ?_) (fun c29 => ?_)
                · refine s_iinc (q := 74) (w := 1) (L' := [(2, .int (x7 + 1)), (0, .ref (G.1 0)), (1, .int a1)]) C 2 dX8_judge_71 rfl rfl (by decide) rfl (by decide) rfl ?_
                  refine s_goto (q := 32) C dX8_judge_74 (by decide) ?_
                  refine s_sub [1, 2, 0] rfl ?_
                  exact hB8 V28 ((x7 + 1))
                · refine s_sub [0, 1, 2] rfl ?_
                  exact hJ18 V28
      refine s_sub [1, 2, 0] rfl ?_
      exact hL1 gFu V2 0
noncomputable def fX8_image (V : gV)  : Option (Int32 × gV) := gbv (fX8_moveAll V (0 + 1) 264 (0 + 2) 264) fun (V1 : gV) => gpu V1 0 4 1 fun (V2 : gV) => gpu V2 0 5 ((V2 0 5) + 1) fun (V3 : gV) => some ((V3 0 5), V3)
set_option maxHeartbeats 4000000 in
set_option maxRecDepth 100000 in
theorem uX8_image (l : Launch) (G : gG) (hG : gIsM G) (V : gV)  : gMi l G yX8_image cX8_image 1 Jvm.ClassFile.FieldType.int (gR 1 23) [.ref (G.1 0)] V (fX8_image V) := by
  unfold fX8_image
  refine gM_i (by decide +kernel) rfl rfl (Nat.le_of_ble_eq_true rfl) (fun X rr VV C E => ?_)
  change gC cX8_image 1 RX8 G X at C
  change gSm l (gR 1 23) 1 G X _ (rr, VV) V 0 [(0, .ref (G.1 0))] []
  refine s_aload_n (q := 1) C 0 dX8_image_0 rfl rfl rfl ?_
  refine s_aload_n (q := 2) C 0 dX8_image_1 rfl rfl rfl ?_
  refine geX8_0 (q := 5) C (s80 hG) flX8_7 dX8_image_2 rfl ?_
  refine s_aload_n (q := 6) C 0 dX8_image_5 rfl rfl rfl ?_
  refine geX8_1 (q := 9) C (s80 hG) flX8_13 dX8_image_6 rfl ?_
  refine s_Vv (q := 12) (As := [.ref (G.1 (0 + 1)), .ref (G.1 (0 + 2))]) (st := []) C (uX8_moveAll l G hG V (0 + 1) 264 (0 + 2) 264 (qX8_0 hG) (qX8_1 hG) (mX8_1 hG)) yvX8_moveAll mlX8_171 (s80 hG) rfl rfl rfl rfl rfl rfl (gR_le (by decide) (by decide)) (Nat.le_of_ble_eq_true rfl) dX8_image_9 rfl (fun V1 => ?_)
  refine s_aload_n (q := 13) C 0 dX8_image_12 rfl rfl rfl ?_
  refine s_iconst (q := 14) (v := 1) C dX8_image_13 rfl (by decide) ?_
  refine peX8_4 (q := 17) C (s80 hG) flX8_248 (Or.inr rfl) dX8_image_14 rfl (fun V2 => ?_)
  refine s_aload_n (q := 18) C 0 dX8_image_17 rfl rfl rfl ?_
  refine s_dup (q := 19) C dX8_image_18 rfl rfl ?_
  refine geX8_5 (q := 22) C (s80 hG) flX8_251 dX8_image_19 rfl ?_
  refine s_iconst (q := 23) (v := 1) C dX8_image_22 rfl (by decide) ?_
  refine s_iadd (q := 24) C dX8_image_23 rfl ?_
  refine peX8_5 (q := 27) C (s80 hG) flX8_251 dX8_image_24 rfl (fun V3 => ?_)
  refine s_aload_n (q := 28) C 0 dX8_image_27 rfl rfl rfl ?_
  refine geX8_5 (q := 31) C (s80 hG) flX8_251 dX8_image_28 rfl ?_
  exact s_iret C E dX8_image_31
noncomputable def fX8_restore (V : gV)  : Option (Int32 × gV) := if (V 0 4) = 0 then (gbi (fX8_errs V (-1000000002)) fun (x4 : Int32) (V5 : gV) => some (x4, V5)) else (gbv (fX8_moveAll V (0 + 2) 264 (0 + 1) 264) fun (V2 : gV) => gal V2 (0 + 1) 0 264 fun (x3 : Int32) => some (x3, V2))
set_option maxHeartbeats 4000000 in
set_option maxRecDepth 100000 in
theorem uX8_restore (l : Launch) (G : gG) (hG : gIsM G) (V : gV)  : gMi l G yX8_restore cX8_restore 1 Jvm.ClassFile.FieldType.int (gR 1 23) [.ref (G.1 0)] V (fX8_restore V) := by
  unfold fX8_restore
  refine gM_i (by decide +kernel) rfl rfl (Nat.le_of_ble_eq_true rfl) (fun X rr VV C E => ?_)
  change gC cX8_restore 1 RX8 G X at C
  change gSm l (gR 1 23) 1 G X _ (rr, VV) V 0 [(0, .ref (G.1 0))] []
  refine s_aload_n (q := 1) C 0 dX8_restore_0 rfl rfl rfl ?_
  refine geX8_4 (q := 4) C (s80 hG) flX8_248 dX8_restore_1 rfl ?_
  refine s_if_ne (tgt := 14) (q := 7) C dX8_restore_4 (by decide) rfl (fun c1 => ?_) (fun c1 => ?_)
  · refine s_aload_n (q := 8) C 0 dX8_restore_7 rfl rfl rfl ?_
    refine s_ldc (q := 10) (v := (-1000000002)) C dX8_restore_8 rfl kX8_199 ?_
    refine s_Vi (q := 13) (As := [.int (-1000000002)]) (st := []) C (uX8_errs l G hG V (-1000000002)) yvX8_errs mlX8_49 (s80 hG) rfl rfl rfl rfl rfl rfl (gR_le (by decide) (by decide)) (Nat.le_of_ble_eq_true rfl) dX8_restore_10 rfl (fun x4 V5 => ?_)
    exact s_iret C E dX8_restore_13
  · refine s_aload_n (q := 15) C 0 dX8_restore_14 rfl rfl rfl ?_
    refine s_aload_n (q := 16) C 0 dX8_restore_15 rfl rfl rfl ?_
    refine geX8_1 (q := 19) C (s80 hG) flX8_13 dX8_restore_16 rfl ?_
    refine s_aload_n (q := 20) C 0 dX8_restore_19 rfl rfl rfl ?_
    refine geX8_0 (q := 23) C (s80 hG) flX8_7 dX8_restore_20 rfl ?_
    refine s_Vv (q := 26) (As := [.ref (G.1 (0 + 2)), .ref (G.1 (0 + 1))]) (st := []) C (uX8_moveAll l G hG V (0 + 2) 264 (0 + 1) 264 (qX8_1 hG) (qX8_0 hG) (mX8_0 hG)) yvX8_moveAll mlX8_171 (s80 hG) rfl rfl rfl rfl rfl rfl (gR_le (by decide) (by decide)) (Nat.le_of_ble_eq_true rfl) dX8_restore_23 rfl (fun V2 => ?_)
    refine s_aload_n (q := 27) C 0 dX8_restore_26 rfl rfl rfl ?_
    refine geX8_0 (q := 30) C (s80 hG) flX8_7 dX8_restore_27 rfl ?_
    refine s_iconst (q := 31) (v := 0) C dX8_restore_30 rfl (by decide) ?_
    refine s_iald (q := 32) C (qX8_0 hG) dX8_restore_31 rfl (fun x3 => ?_)
    exact s_iret C E dX8_restore_32
noncomputable def fX8_tell (V : gV) (a1 : Int32) : Option (Int32 × gV) := gal V (0 + 1) 5 264 fun (x1 : Int32) => if x1 = 20 then (gbi (fX8_errs V (-1000000004)) fun (x8 : Int32) (V9 : gV) => some (x8, V9)) else (gal V (0 + 1) 5 264 fun (x3 : Int32) => gas V (0 + 1) (144 + x3) 264 a1 fun (V4 : gV) => gal V4 (0 + 1) 5 264 fun (x5 : Int32) => gas V4 (0 + 1) 5 264 (x5 + 1) fun (V6 : gV) => gal V6 (0 + 1) 5 264 fun (x7 : Int32) => some (x7, V6))
set_option maxHeartbeats 4000000 in
set_option maxRecDepth 100000 in
theorem uX8_tell (l : Launch) (G : gG) (hG : gIsM G) (V : gV) (a1 : Int32) : gMi l G yX8_tell cX8_tell 2 Jvm.ClassFile.FieldType.int (gR 1 21) [.ref (G.1 0), .int a1] V (fX8_tell V a1) := by
  unfold fX8_tell
  refine gM_i (by decide +kernel) rfl rfl (Nat.le_of_ble_eq_true rfl) (fun X rr VV C E => ?_)
  change gC cX8_tell 2 RX8 G X at C
  change gSm l (gR 1 21) 2 G X _ (rr, VV) V 0 [(0, .ref (G.1 0)), (1, .int a1)] []
  refine s_aload_n (q := 1) C 0 dX8_tell_0 rfl rfl rfl ?_
  refine geX8_0 (q := 4) C (s80 hG) flX8_7 dX8_tell_1 rfl ?_
  refine s_iconst (q := 5) (v := 5) C dX8_tell_4 rfl (by decide) ?_
  refine s_iald (q := 6) C (qX8_0 hG) dX8_tell_5 rfl (fun x1 => ?_)
  refine s_bipush (q := 8) (v := 20) C dX8_tell_6 rfl (by decide) ?_
  refine s_icmp_ne (tgt := 18) (q := 11) C dX8_tell_8 (by decide) rfl (fun c2 => ?_) (fun c2 => ?_)
  · refine s_aload_n (q := 12) C 0 dX8_tell_11 rfl rfl rfl ?_
    refine s_ldc (q := 14) (v := (-1000000004)) C dX8_tell_12 rfl kX8_53 ?_
    refine s_Vi (q := 17) (As := [.int (-1000000004)]) (st := []) C (uX8_errs l G hG V (-1000000004)) yvX8_errs mlX8_49 (s80 hG) rfl rfl rfl rfl rfl rfl (gR_le (by decide) (by decide)) (Nat.le_of_ble_eq_true rfl) dX8_tell_14 rfl (fun x8 V9 => ?_)
    exact s_iret C E dX8_tell_17
  · refine s_aload_n (q := 19) C 0 dX8_tell_18 rfl rfl rfl ?_
    refine geX8_0 (q := 22) C (s80 hG) flX8_7 dX8_tell_19 rfl ?_
    refine s_sipush (q := 25) (v := 144) C dX8_tell_22 rfl (by decide) ?_
    refine s_aload_n (q := 26) C 0 dX8_tell_25 rfl rfl rfl ?_
    refine geX8_0 (q := 29) C (s80 hG) flX8_7 dX8_tell_26 rfl ?_
    refine s_iconst (q := 30) (v := 5) C dX8_tell_29 rfl (by decide) ?_
    refine s_iald (q := 31) C (qX8_0 hG) dX8_tell_30 rfl (fun x3 => ?_)
    refine s_iadd (q := 32) C dX8_tell_31 rfl ?_
    refine s_iload_n (q := 33) C 1 dX8_tell_32 rfl rfl rfl ?_
    refine s_iast (q := 34) C (qX8_0 hG) (mX8_0 hG) dX8_tell_33 rfl (fun V4 => ?_)
    refine s_aload_n (q := 35) C 0 dX8_tell_34 rfl rfl rfl ?_
    refine geX8_0 (q := 38) C (s80 hG) flX8_7 dX8_tell_35 rfl ?_
    refine s_iconst (q := 39) (v := 5) C dX8_tell_38 rfl (by decide) ?_
    refine s_dup2_11 (q := 40) C dX8_tell_39 rfl rfl rfl ?_
    refine s_iald (q := 41) C (qX8_0 hG) dX8_tell_40 rfl (fun x5 => ?_)
    refine s_iconst (q := 42) (v := 1) C dX8_tell_41 rfl (by decide) ?_
    refine s_iadd (q := 43) C dX8_tell_42 rfl ?_
    refine s_iast (q := 44) C (qX8_0 hG) (mX8_0 hG) dX8_tell_43 rfl (fun V6 => ?_)
    refine s_aload_n (q := 45) C 0 dX8_tell_44 rfl rfl rfl ?_
    refine geX8_0 (q := 48) C (s80 hG) flX8_7 dX8_tell_45 rfl ?_
    refine s_iconst (q := 49) (v := 5) C dX8_tell_48 rfl (by decide) ?_
    refine s_iald (q := 50) C (qX8_0 hG) dX8_tell_49 rfl (fun x7 => ?_)
    exact s_iret C E dX8_tell_50
noncomputable def fX8_check_L1b (x1 : Int32) (B7 : gV → Int32 → Int32 → Option (Int32 × gV)) (V4 : gV) (x5 : Int32) (x6 : Int32) : Option (Int32 × gV) := gjn (gbv (fX8_moveAll V4 (0 + 3) 264 (0 + 1) 264) fun (V22 : gV) => if x6 = 0 then (some ((1 + x5), V22)) else (some (0, V22))) fun J21 => if x1 ≤ x5 then (J21) else (if x6 = 0 then (J21) else (gbv (fX8_oneDay V4) fun (V26 : gV) => gbi (fX8_gone V26) fun (x27 : Int32) (V28 : gV) => gal V28 (0 + 1) (144 + x5) 264 fun (x29 : Int32) => gjn (fun (x31 : Int32) => if x31 = 0 then (glt (x5 + 0) fun (x34 : Int32) => B7 V28 x34 x31) else (glt (x5 + 1) fun (x35 : Int32) => B7 V28 x35 x31)) fun J32 => if x27 = x29 then (J32 1) else (J32 0)))
noncomputable def fX8_check_L1 (x1 : Int32) : Nat → gV → Int32 → Int32 → Option (Int32 × gV)
  | 0 => fun _ _ _ => none
  | n + 1 => fX8_check_L1b x1 (fX8_check_L1 x1 n)
noncomputable def fX8_check (V : gV)  : Option (Int32 × gV) := gal V (0 + 1) 5 264 fun (x1 : Int32) => gas V (0 + 1) 5 264 0 fun (V2 : gV) => gbv (fX8_moveAll V2 (0 + 1) 264 (0 + 3) 264) fun (V3 : gV) => fX8_check_L1 x1 gFu V3 0 1
set_option maxHeartbeats 4000000 in
set_option maxRecDepth 100000 in
theorem uX8_check (l : Launch) (G : gG) (hG : gIsM G) (V : gV)  : gMi l G yX8_check cX8_check 4 Jvm.ClassFile.FieldType.int (gR 70 1662) [.ref (G.1 0)] V (fX8_check V) := by
  unfold fX8_check
  refine gM_i (by decide +kernel) rfl rfl (Nat.le_of_ble_eq_true rfl) (fun X rr VV C E => ?_)
  change gC cX8_check 4 RX8 G X at C
  change gSm l (gR 70 1662) 4 G X _ (rr, VV) V 0 [(0, .ref (G.1 0))] []
  refine s_aload_n (q := 1) C 0 dX8_check_0 rfl rfl rfl ?_
  refine geX8_0 (q := 4) C (s80 hG) flX8_7 dX8_check_1 rfl ?_
  refine s_iconst (q := 5) (v := 5) C dX8_check_4 rfl (by decide) ?_
  refine s_iald (q := 6) C (qX8_0 hG) dX8_check_5 rfl (fun x1 => ?_)
  refine s_istore_n (q := 7) (L' := [(1, .int x1), (0, .ref (G.1 0))]) C dX8_check_6 rfl rfl (by decide) rfl ?_
  refine s_aload_n (q := 8) C 1 dX8_check_7 rfl rfl rfl ?_
  refine geX8_0 (q := 11) C (s80 hG) flX8_7 dX8_check_8 rfl ?_
  refine s_iconst (q := 12) (v := 5) C dX8_check_11 rfl (by decide) ?_
  refine s_iconst (q := 13) (v := 0) C dX8_check_12 rfl (by decide) ?_
  refine s_iast (q := 14) C (qX8_0 hG) (mX8_0 hG) dX8_check_13 rfl (fun V2 => ?_)
  refine s_aload_n (q := 15) C 1 dX8_check_14 rfl rfl rfl ?_
  refine s_aload_n (q := 16) C 1 dX8_check_15 rfl rfl rfl ?_
  refine geX8_0 (q := 19) C (s80 hG) flX8_7 dX8_check_16 rfl ?_
  refine s_aload_n (q := 20) C 1 dX8_check_19 rfl rfl rfl ?_
  refine geX8_2 (q := 23) C (s80 hG) flX8_16 dX8_check_20 rfl ?_
  refine s_Vv (q := 26) (As := [.ref (G.1 (0 + 1)), .ref (G.1 (0 + 3))]) (st := []) C (uX8_moveAll l G hG V2 (0 + 1) 264 (0 + 3) 264 (qX8_0 hG) (qX8_2 hG) (mX8_2 hG)) yvX8_moveAll mlX8_171 (s80 hG) rfl rfl rfl rfl rfl rfl (gR_le (by decide) (by decide)) (Nat.le_of_ble_eq_true rfl) dX8_check_23 rfl (fun V3 => ?_)
  refine s_iconst (q := 27) (v := 0) C dX8_check_26 rfl (by decide) ?_
  refine s_istore_n (q := 28) (L' := [(2, .int 0), (1, .int x1), (0, .ref (G.1 0))]) C dX8_check_27 rfl rfl (by decide) rfl ?_
  refine s_iconst (q := 29) (v := 1) C dX8_check_28 rfl (by decide) ?_
  refine s_istore_n (q := 30) (L' := [(3, .int 1), (2, .int 0), (1, .int x1), (0, .ref (G.1 0))]) C dX8_check_29 rfl rfl (by decide) rfl ?_
  have hL1 : ∀ (n : Nat) (V4 : gV) (x5 : Int32) (x6 : Int32), gSm l (gR 70 1662) 4 G X (fX8_check_L1 x1 n V4 x5 x6) (rr, VV) V4 30 [(0, .ref (G.1 0)), (1, .int x1), (2, .int x5), (3, .int x6)] [] := by
    intro n
    induction n with
    | zero => exact fun V4 x5 x6 => s_none
    | succ n ih =>
      intro V4 x5 x6
      show gSm l (gR 70 1662) 4 G X (fX8_check_L1b x1 (fX8_check_L1 x1 n) V4 x5 x6) (rr, VV) V4 30 [(0, .ref (G.1 0)), (1, .int x1), (2, .int x5), (3, .int x6)] []
      generalize fX8_check_L1 x1 n = B7 at ih ⊢
      have hB7 := ih
      unfold fX8_check_L1b
      refine s_iload_n (q := 31) C 2 dX8_check_30 rfl rfl rfl ?_
      refine s_iload_n (q := 32) C 1 dX8_check_31 rfl rfl rfl ?_
      refine s_jn (fun J21 => gSm l (gR 70 1662) 4 G X (J21) (rr, VV) V4 81 [(0, .ref (G.1 0)), (2, .int x5), (3, .int x6)] []) ?_ (fun J21 hJ21 => ?_)
      · refine s_aload_n (q := 82) C 0 dX8_check_81 rfl rfl rfl ?_
        refine s_aload_n (q := 83) C 0 dX8_check_82 rfl rfl rfl ?_
        refine geX8_2 (q := 86) C (s80 hG) flX8_16 dX8_check_83 rfl ?_
        refine s_aload_n (q := 87) C 0 dX8_check_86 rfl rfl rfl ?_
        refine geX8_0 (q := 90) C (s80 hG) flX8_7 dX8_check_87 rfl ?_
        refine s_Vv (q := 93) (As := [.ref (G.1 (0 + 3)), .ref (G.1 (0 + 1))]) (st := []) C (uX8_moveAll l G hG V4 (0 + 3) 264 (0 + 1) 264 (qX8_2 hG) (qX8_0 hG) (mX8_0 hG)) yvX8_moveAll mlX8_171 (s80 hG) rfl rfl rfl rfl rfl rfl (gR_le (by decide) (by decide)) (Nat.le_of_ble_eq_true rfl) dX8_check_90 rfl (fun V22 => ?_)
        refine s_iload_n (q := 94) C 2 dX8_check_93 rfl rfl rfl ?_
        refine s_if_eq (tgt := 101) (q := 97) C dX8_check_94 (by decide) rfl (fun c23 => ?_) (fun c23 => ?_)
        · refine s_iconst (q := 102) (v := 1) C dX8_check_101 rfl (by decide) ?_
          refine s_iload_n (q := 103) C 1 dX8_check_102 rfl rfl rfl ?_
          refine s_iadd (q := 104) C dX8_check_103 rfl ?_
          exact s_iret C E dX8_check_104
        · refine s_iconst (q := 98) (v := 0) C dX8_check_97 rfl (by decide) ?_
          refine s_goto (q := 104) C dX8_check_98 (by decide) ?_
          exact s_iret C E dX8_check_104
      · refine s_icmp_ge (tgt := 81) (q := 35) C dX8_check_32 (by decide) rfl (fun c24 => ?_) (fun c24 => ?_)
        · refine s_sub [0, 2, 3] rfl ?_
          exact hJ21
        · refine s_iload_n (q := 36) C 3 dX8_check_35 rfl rfl rfl ?_
          refine s_if_eq (tgt := 81) (q := 39) C dX8_check_36 (by decide) rfl (fun c25 => ?_) (fun c25 => ?_)
          · refine s_sub [0, 2, 3] rfl ?_
            exact hJ21
          · refine s_aload_n (q := 40) C 0 dX8_check_39 rfl rfl rfl ?_
            refine s_Vv (q := 43) (As := []) (st := []) C (uX8_oneDay l G hG V4) yvX8_oneDay mlX8_175 (s80 hG) rfl rfl rfl rfl rfl rfl (gR_le (by decide) (by decide)) (Nat.le_of_ble_eq_true rfl) dX8_check_40 rfl (fun V26 => ?_)
            refine s_aload_n (q := 44) C 0 dX8_check_43 rfl rfl rfl ?_
            refine s_Vi (q := 47) (As := []) (st := []) C (uX8_gone l G hG V26) yvX8_gone mlX8_182 (s80 hG) rfl rfl rfl rfl rfl rfl (gR_le (by decide) (by decide)) (Nat.le_of_ble_eq_true rfl) dX8_check_44 rfl (fun x27 V28 => ?_)
            refine s_aload_n (q := 48) C 0 dX8_check_47 rfl rfl rfl ?_
            refine geX8_0 (q := 51) C (s80 hG) flX8_7 dX8_check_48 rfl ?_
            refine s_sipush (q := 54) (v := 144) C dX8_check_51 rfl (by decide) ?_
            refine s_iload_n (q := 55) C 2 dX8_check_54 rfl rfl rfl ?_
            refine s_iadd (q := 56) C dX8_check_55 rfl ?_
            refine s_iald (q := 57) C (qX8_0 hG) dX8_check_56 rfl (fun x29 => ?_)
            refine s_jn (fun J32 => ∀ (x31 : Int32), gSm l (gR 70 1662) 4 G X (J32 x31) (rr, VV) V28 65 [(0, .ref (G.1 0)), (1, .int x1), (2, .int x5)] [.int x31]) ?_ (fun J32 hJ32 => ?_)
            · intro x31
              refine s_istore_n (q := 66) (L' := [(3, .int x31), (0, .ref (G.1 0)), (1, .int x1), (2, .int x5)]) C dX8_check_65 rfl rfl (by decide) rfl ?_
              refine s_iload_n (q := 67) C 3 dX8_check_66 rfl rfl rfl ?_
              refine s_iload_n (q := 68) C 0 dX8_check_67 rfl rfl rfl ?_
              refine s_if_eq (tgt := 75) (q := 71) C dX8_check_68 (by decide) rfl (fun c33 => ?_) (fun c33 => ?_)
              · refine s_iconst (q := 76) (v := 0) C dX8_check_75 rfl (by decide) ?_
                refine s_iadd (q := 77) C dX8_check_76 rfl ?_
                refine s_lt (fun x34 => ?_)
                refine s_istore_n (q := 78) (L' := [(2, .int x34), (3, .int x31), (0, .ref (G.1 0)), (1, .int x1)]) C dX8_check_77 rfl rfl (by decide) rfl ?_
                refine s_goto (q := 30) C dX8_check_78 (by decide) ?_
                refine s_sub [2, 3, 0, 1] rfl ?_
                exact hB7 V28 x34 x31
              · refine s_iconst (q := 72) (v := 1) C dX8_check_71 rfl (by decide) ?_
                refine s_goto (q := 76) C dX8_check_72 (by decide) ?_
                refine s_iadd (q := 77) C dX8_check_76 rfl ?_
                refine s_lt (fun x35 => ?_)
                refine s_istore_n (q := 78) (L' := [(2, .int x35), (3, .int x31), (0, .ref (G.1 0)), (1, .int x1)]) C dX8_check_77 rfl rfl (by decide) rfl ?_
                refine s_goto (q := 30) C dX8_check_78 (by decide) ?_
                refine s_sub [2, 3, 0, 1] rfl ?_
                exact hB7 V28 x35 x31
            · refine s_icmp_ne (tgt := 64) (q := 60) C dX8_check_57 (by decide) rfl (fun c36 => ?_) (fun c36 => ?_)
              · refine s_iconst (q := 61) (v := 1) C dX8_check_60 rfl (by decide) ?_
                refine s_goto (q := 65) C dX8_check_61 (by decide) ?_
                refine s_sub [0, 1, 2] rfl ?_
                exact hJ32 1
              · refine s_iconst (q := 65) (v := 0) C dX8_check_64 rfl (by decide) ?_
                refine s_sub [0, 1, 2] rfl ?_
                exact hJ32 0
  refine s_sub [3, 2, 1, 0] rfl ?_
  exact hL1 gFu V3 0 1
noncomputable def fX8_sumOf_L1b (V : gV) (a1 : Int32) (a2 : Int32) (a3 : Int32) (B3 : Int32 → Int32 → Option (Int32 × gV)) (x1 : Int32) (x2 : Int32) : Option (Int32 × gV) := if a3 ≤ x2 then (some (x1, V)) else (gal V (0 + 1) (a1 + (a2 * x2)) 264 fun (x5 : Int32) => glt (x1 + x5) fun (x6 : Int32) => B3 x6 ((x2 + 1)))
noncomputable def fX8_sumOf_L1 (V : gV) (a1 : Int32) (a2 : Int32) (a3 : Int32) : Nat → Int32 → Int32 → Option (Int32 × gV)
  | 0 => fun _ _ => none
  | n + 1 => fX8_sumOf_L1b V a1 a2 a3 (fX8_sumOf_L1 V a1 a2 a3 n)
noncomputable def fX8_sumOf (V : gV) (a1 : Int32) (a2 : Int32) (a3 : Int32) : Option (Int32 × gV) := fX8_sumOf_L1 V a1 a2 a3 gFu 0 0
set_option maxHeartbeats 4000000 in
set_option maxRecDepth 100000 in
theorem uX8_sumOf (l : Launch) (G : gG) (hG : gIsM G) (V : gV) (a1 : Int32) (a2 : Int32) (a3 : Int32) : gMi l G yX8_sumOf cX8_sumOf 6 Jvm.ClassFile.FieldType.int (gR 0 0) [.ref (G.1 0), .int a1, .int a2, .int a3] V (fX8_sumOf V a1 a2 a3) := by
  unfold fX8_sumOf
  refine gM_i (by decide +kernel) rfl rfl (Nat.le_of_ble_eq_true rfl) (fun X rr VV C E => ?_)
  change gC cX8_sumOf 6 RX8 G X at C
  change gSm l (gR 0 0) 6 G X _ (rr, VV) V 0 [(0, .ref (G.1 0)), (1, .int a1), (2, .int a2), (3, .int a3)] []
  refine s_iconst (q := 1) (v := 0) C dX8_sumOf_0 rfl (by decide) ?_
  refine s_istore (q := 3) (L' := [(4, .int 0), (0, .ref (G.1 0)), (1, .int a1), (2, .int a2), (3, .int a3)]) C dX8_sumOf_1 rfl (by decide) rfl ?_
  refine s_iconst (q := 4) (v := 0) C dX8_sumOf_3 rfl (by decide) ?_
  refine s_istore (q := 6) (L' := [(5, .int 0), (4, .int 0), (0, .ref (G.1 0)), (1, .int a1), (2, .int a2), (3, .int a3)]) C dX8_sumOf_4 rfl (by decide) rfl ?_
  have hL1 : ∀ (n : Nat) (x1 : Int32) (x2 : Int32), gSm l (gR 0 0) 6 G X (fX8_sumOf_L1 V a1 a2 a3 n x1 x2) (rr, VV) V 6 [(0, .ref (G.1 0)), (1, .int a1), (2, .int a2), (3, .int a3), (4, .int x1), (5, .int x2)] [] := by
    intro n
    induction n with
    | zero => exact fun x1 x2 => s_none
    | succ n ih =>
      intro x1 x2
      show gSm l (gR 0 0) 6 G X (fX8_sumOf_L1b V a1 a2 a3 (fX8_sumOf_L1 V a1 a2 a3 n) x1 x2) (rr, VV) V 6 [(0, .ref (G.1 0)), (1, .int a1), (2, .int a2), (3, .int a3), (4, .int x1), (5, .int x2)] []
      generalize fX8_sumOf_L1 V a1 a2 a3 n = B3 at ih ⊢
      have hB3 := ih
      unfold fX8_sumOf_L1b
      refine s_iload (q := 8) C 5 dX8_sumOf_6 rfl rfl ?_
      refine s_iload_n (q := 9) C 3 dX8_sumOf_8 rfl rfl rfl ?_
      refine s_icmp_ge (tgt := 34) (q := 12) C dX8_sumOf_9 (by decide) rfl (fun c4 => ?_) (fun c4 => ?_)
      · refine s_iload (q := 36) C 4 dX8_sumOf_34 rfl rfl ?_
        exact s_iret C E dX8_sumOf_36
      · refine s_iload (q := 14) C 4 dX8_sumOf_12 rfl rfl ?_
        refine s_aload_n (q := 15) C 0 dX8_sumOf_14 rfl rfl rfl ?_
        refine geX8_0 (q := 18) C (s80 hG) flX8_7 dX8_sumOf_15 rfl ?_
        refine s_iload_n (q := 19) C 1 dX8_sumOf_18 rfl rfl rfl ?_
        refine s_iload_n (q := 20) C 2 dX8_sumOf_19 rfl rfl rfl ?_
        refine s_iload (q := 22) C 5 dX8_sumOf_20 rfl rfl ?_
        refine s_imul (q := 23) C dX8_sumOf_22 rfl ?_
        refine s_iadd (q := 24) C dX8_sumOf_23 rfl ?_
        refine s_iald (q := 25) C (qX8_0 hG) dX8_sumOf_24 rfl (fun x5 => ?_)
        refine s_iadd (q := 26) C dX8_sumOf_25 rfl ?_
        refine s_lt (fun x6 => ?_)
        refine s_istore (q := 28) (L' := [(4, .int x6), (0, .ref (G.1 0)), (1, .int a1), (2, .int a2), (3, .int a3), (5, .int x2)]) C dX8_sumOf_26 rfl (by decide) rfl ?_
        refine s_iinc (q := 31) (w := 1) (L' := [(5, .int (x2 + 1)), (4, .int x6), (0, .ref (G.1 0)), (1, .int a1), (2, .int a2), (3, .int a3)]) C 5 dX8_sumOf_28 rfl rfl (by decide) rfl (by decide) rfl ?_
        refine s_goto (q := 6) C dX8_sumOf_31 (by decide) ?_
        refine s_sub [2, 3, 4, 5, 1, 0] rfl ?_
        exact hB3 x6 ((x2 + 1))
  refine s_sub [2, 3, 4, 5, 1, 0] rfl ?_
  exact hL1 gFu 0 0
noncomputable def fX8_count (V : gV) (a1 : Int32) : Option (Int32 × gV) := if a1 = 0 then (gal V (0 + 1) 2 264 fun (x2 : Int32) => some (x2, V)) else (if a1 = 1 then (gal V (0 + 1) 3 264 fun (x4 : Int32) => some (x4, V)) else (if a1 = 2 then (gal V (0 + 1) 0 264 fun (x6 : Int32) => some (x6, V)) else (if a1 = 3 then (gbi (fX8_gone V) fun (x8 : Int32) (V9 : gV) => some (x8, V9)) else (if a1 = 4 then (gal V (0 + 1) 2 264 fun (x11 : Int32) => gbi (fX8_sumOf V 8 2 x11) fun (x12 : Int32) (V13 : gV) => some (x12, V13)) else (if a1 = 5 then (gal V (0 + 1) 3 264 fun (x15 : Int32) => gbi (fX8_sumOf V 20 13 x15) fun (x16 : Int32) (V17 : gV) => some (x16, V17)) else (if a1 = 6 then (gal V (0 + 1) 4 264 fun (x19 : Int32) => some (x19, V)) else (if a1 = 7 then (gal V (0 + 1) 5 264 fun (x21 : Int32) => some (x21, V)) else (if a1 = 8 then (some ((V 0 21), V)) else (if a1 = 9 then (gal V (0 + 1) 1 264 fun (x24 : Int32) => some (x24, V)) else (gbi (fX8_errs V (-1000000001)) fun (x25 : Int32) (V26 : gV) => some (x25, V26)))))))))))
set_option maxHeartbeats 4000000 in
set_option maxRecDepth 100000 in
theorem uX8_count (l : Launch) (G : gG) (hG : gIsM G) (V : gV) (a1 : Int32) : gMi l G yX8_count cX8_count 2 Jvm.ClassFile.FieldType.int (gR 70 1662) [.ref (G.1 0), .int a1] V (fX8_count V a1) := by
  unfold fX8_count
  refine gM_i (by decide +kernel) rfl rfl (Nat.le_of_ble_eq_true rfl) (fun X rr VV C E => ?_)
  change gC cX8_count 2 RX8 G X at C
  change gSm l (gR 70 1662) 2 G X _ (rr, VV) V 0 [(0, .ref (G.1 0)), (1, .int a1)] []
  refine s_iload_n (q := 1) C 1 dX8_count_0 rfl rfl rfl ?_
  refine s_case (fun c1 => ?_) (fun c1 => ?_)
  · refine s_tin (q := 56) (off := 55) (c := 0) C c1 dX8_count_1 (by decide) (by decide) (by decide) (by decide) ?_
    refine s_aload_n (q := 57) C 0 dX8_count_56 rfl rfl rfl ?_
    refine geX8_0 (q := 60) C (s80 hG) flX8_7 dX8_count_57 rfl ?_
    refine s_iconst (q := 61) (v := 2) C dX8_count_60 rfl (by decide) ?_
    refine s_iald (q := 62) C (qX8_0 hG) dX8_count_61 rfl (fun x2 => ?_)
    exact s_iret C E dX8_count_62
  · refine s_case (fun c3 => ?_) (fun c3 => ?_)
    · refine s_tin (q := 63) (off := 62) (c := 1) C c3 dX8_count_1 (by decide) (by decide) (by decide) (by decide) ?_
      refine s_aload_n (q := 64) C 0 dX8_count_63 rfl rfl rfl ?_
      refine geX8_0 (q := 67) C (s80 hG) flX8_7 dX8_count_64 rfl ?_
      refine s_iconst (q := 68) (v := 3) C dX8_count_67 rfl (by decide) ?_
      refine s_iald (q := 69) C (qX8_0 hG) dX8_count_68 rfl (fun x4 => ?_)
      exact s_iret C E dX8_count_69
    · refine s_case (fun c5 => ?_) (fun c5 => ?_)
      · refine s_tin (q := 70) (off := 69) (c := 2) C c5 dX8_count_1 (by decide) (by decide) (by decide) (by decide) ?_
        refine s_aload_n (q := 71) C 0 dX8_count_70 rfl rfl rfl ?_
        refine geX8_0 (q := 74) C (s80 hG) flX8_7 dX8_count_71 rfl ?_
        refine s_iconst (q := 75) (v := 0) C dX8_count_74 rfl (by decide) ?_
        refine s_iald (q := 76) C (qX8_0 hG) dX8_count_75 rfl (fun x6 => ?_)
        exact s_iret C E dX8_count_76
      · refine s_case (fun c7 => ?_) (fun c7 => ?_)
        · refine s_tin (q := 77) (off := 76) (c := 3) C c7 dX8_count_1 (by decide) (by decide) (by decide) (by decide) ?_
          refine s_aload_n (q := 78) C 0 dX8_count_77 rfl rfl rfl ?_
          refine s_Vi (q := 81) (As := []) (st := []) C (uX8_gone l G hG V) yvX8_gone mlX8_182 (s80 hG) rfl rfl rfl rfl rfl rfl (gR_le (by decide) (by decide)) (Nat.le_of_ble_eq_true rfl) dX8_count_78 rfl (fun x8 V9 => ?_)
          exact s_iret C E dX8_count_81
        · refine s_case (fun c10 => ?_) (fun c10 => ?_)
          · refine s_tin (q := 82) (off := 81) (c := 4) C c10 dX8_count_1 (by decide) (by decide) (by decide) (by decide) ?_
            refine s_aload_n (q := 83) C 0 dX8_count_82 rfl rfl rfl ?_
            refine s_bipush (q := 85) (v := 8) C dX8_count_83 rfl (by decide) ?_
            refine s_iconst (q := 86) (v := 2) C dX8_count_85 rfl (by decide) ?_
            refine s_aload_n (q := 87) C 0 dX8_count_86 rfl rfl rfl ?_
            refine geX8_0 (q := 90) C (s80 hG) flX8_7 dX8_count_87 rfl ?_
            refine s_iconst (q := 91) (v := 2) C dX8_count_90 rfl (by decide) ?_
            refine s_iald (q := 92) C (qX8_0 hG) dX8_count_91 rfl (fun x11 => ?_)
            refine s_Vi (q := 95) (As := [.int 8, .int 2, .int x11]) (st := []) C (uX8_sumOf l G hG V 8 2 x11) yvX8_sumOf mlX8_254 (s80 hG) rfl rfl rfl rfl rfl rfl (gR_le (by decide) (by decide)) (Nat.le_of_ble_eq_true rfl) dX8_count_92 rfl (fun x12 V13 => ?_)
            exact s_iret C E dX8_count_95
          · refine s_case (fun c14 => ?_) (fun c14 => ?_)
            · refine s_tin (q := 96) (off := 95) (c := 5) C c14 dX8_count_1 (by decide) (by decide) (by decide) (by decide) ?_
              refine s_aload_n (q := 97) C 0 dX8_count_96 rfl rfl rfl ?_
              refine s_bipush (q := 99) (v := 20) C dX8_count_97 rfl (by decide) ?_
              refine s_bipush (q := 101) (v := 13) C dX8_count_99 rfl (by decide) ?_
              refine s_aload_n (q := 102) C 0 dX8_count_101 rfl rfl rfl ?_
              refine geX8_0 (q := 105) C (s80 hG) flX8_7 dX8_count_102 rfl ?_
              refine s_iconst (q := 106) (v := 3) C dX8_count_105 rfl (by decide) ?_
              refine s_iald (q := 107) C (qX8_0 hG) dX8_count_106 rfl (fun x15 => ?_)
              refine s_Vi (q := 110) (As := [.int 20, .int 13, .int x15]) (st := []) C (uX8_sumOf l G hG V 20 13 x15) yvX8_sumOf mlX8_254 (s80 hG) rfl rfl rfl rfl rfl rfl (gR_le (by decide) (by decide)) (Nat.le_of_ble_eq_true rfl) dX8_count_107 rfl (fun x16 V17 => ?_)
              exact s_iret C E dX8_count_110
            · refine s_case (fun c18 => ?_) (fun c18 => ?_)
              · refine s_tin (q := 111) (off := 110) (c := 6) C c18 dX8_count_1 (by decide) (by decide) (by decide) (by decide) ?_
                refine s_aload_n (q := 112) C 0 dX8_count_111 rfl rfl rfl ?_
                refine geX8_0 (q := 115) C (s80 hG) flX8_7 dX8_count_112 rfl ?_
                refine s_iconst (q := 116) (v := 4) C dX8_count_115 rfl (by decide) ?_
                refine s_iald (q := 117) C (qX8_0 hG) dX8_count_116 rfl (fun x19 => ?_)
                exact s_iret C E dX8_count_117
              · refine s_case (fun c20 => ?_) (fun c20 => ?_)
                · refine s_tin (q := 118) (off := 117) (c := 7) C c20 dX8_count_1 (by decide) (by decide) (by decide) (by decide) ?_
                  refine s_aload_n (q := 119) C 0 dX8_count_118 rfl rfl rfl ?_
                  refine geX8_0 (q := 122) C (s80 hG) flX8_7 dX8_count_119 rfl ?_
                  refine s_iconst (q := 123) (v := 5) C dX8_count_122 rfl (by decide) ?_
                  refine s_iald (q := 124) C (qX8_0 hG) dX8_count_123 rfl (fun x21 => ?_)
                  exact s_iret C E dX8_count_124
                · refine s_case (fun c22 => ?_) (fun c22 => ?_)
                  · refine s_tin (q := 125) (off := 124) (c := 8) C c22 dX8_count_1 (by decide) (by decide) (by decide) (by decide) ?_
                    refine s_aload_n (q := 126) C 0 dX8_count_125 rfl rfl rfl ?_
                    refine geX8_21 (q := 129) C (s80 hG) flX8_218 dX8_count_126 rfl ?_
                    exact s_iret C E dX8_count_129
                  · refine s_case (fun c23 => ?_) (fun c23 => ?_)
                    · refine s_tin (q := 130) (off := 129) (c := 9) C c23 dX8_count_1 (by decide) (by decide) (by decide) (by decide) ?_
                      refine s_aload_n (q := 131) C 0 dX8_count_130 rfl rfl rfl ?_
                      refine geX8_0 (q := 134) C (s80 hG) flX8_7 dX8_count_131 rfl ?_
                      refine s_iconst (q := 135) (v := 1) C dX8_count_134 rfl (by decide) ?_
                      refine s_iald (q := 136) C (qX8_0 hG) dX8_count_135 rfl (fun x24 => ?_)
                      exact s_iret C E dX8_count_136
                    · refine s_tout (q := 137) C dX8_count_1 (by have zc1 := lv_neT (k := 0) (a := 0) c1 (by decide); have zc3 := lv_neT (k := 1) (a := 1) c3 (by decide); have zc5 := lv_neT (k := 2) (a := 2) c5 (by decide); have zc7 := lv_neT (k := 3) (a := 3) c7 (by decide); have zc10 := lv_neT (k := 4) (a := 4) c10 (by decide); have zc14 := lv_neT (k := 5) (a := 5) c14 (by decide); have zc18 := lv_neT (k := 6) (a := 6) c18 (by decide); have zc20 := lv_neT (k := 7) (a := 7) c20 (by decide); have zc22 := lv_neT (k := 8) (a := 8) c22 (by decide); have zc23 := lv_neT (k := 9) (a := 9) c23 (by decide); omega) (by decide) ?_
                      refine s_aload_n (q := 138) C 0 dX8_count_137 rfl rfl rfl ?_
                      refine s_ldc (q := 140) (v := (-1000000001)) C dX8_count_138 rfl kX8_48 ?_
                      refine s_Vi (q := 143) (As := [.int (-1000000001)]) (st := []) C (uX8_errs l G hG V (-1000000001)) yvX8_errs mlX8_49 (s80 hG) rfl rfl rfl rfl rfl rfl (gR_le (by decide) (by decide)) (Nat.le_of_ble_eq_true rfl) dX8_count_140 rfl (fun x25 V26 => ?_)
                      exact s_iret C E dX8_count_143
noncomputable def fX8_told (V : gV) (a1 : Int32) : Option (Int32 × gV) := gbi (fX8_in V a1 1 5) fun (x1 : Int32) (V2 : gV) => if x1 = 0 then (gbi (fX8_errs V2 (-1000000001)) fun (x4 : Int32) (V5 : gV) => some (x4, V5)) else (gal V2 (0 + 5) a1 6 fun (x6 : Int32) => some (x6, V2))
set_option maxHeartbeats 4000000 in
set_option maxRecDepth 100000 in
theorem uX8_told (l : Launch) (G : gG) (hG : gIsM G) (V : gV) (a1 : Int32) : gMi l G yX8_told cX8_told 2 Jvm.ClassFile.FieldType.int (gR 1 22) [.ref (G.1 0), .int a1] V (fX8_told V a1) := by
  unfold fX8_told
  refine gM_i (by decide +kernel) rfl rfl (Nat.le_of_ble_eq_true rfl) (fun X rr VV C E => ?_)
  change gC cX8_told 2 RX8 G X at C
  change gSm l (gR 1 22) 2 G X _ (rr, VV) V 0 [(0, .ref (G.1 0)), (1, .int a1)] []
  refine s_iload_n (q := 1) C 1 dX8_told_0 rfl rfl rfl ?_
  refine s_iconst (q := 2) (v := 1) C dX8_told_1 rfl (by decide) ?_
  refine s_iconst (q := 3) (v := 5) C dX8_told_2 rfl (by decide) ?_
  refine s_Si (q := 6) (As := [.int a1, .int 1, .int 5]) (st := []) C (uX8_in l G hG V a1 1 5) ysX8_in mlX8_44 rfl rfl rfl rfl (gR_le (by decide) (by decide)) (Nat.le_of_ble_eq_true rfl) dX8_told_3 rfl (fun x1 V2 => ?_)
  refine s_if_eq (tgt := 18) (q := 9) C dX8_told_6 (by decide) rfl (fun c3 => ?_) (fun c3 => ?_)
  · refine s_aload_n (q := 19) C 0 dX8_told_18 rfl rfl rfl ?_
    refine s_ldc (q := 21) (v := (-1000000001)) C dX8_told_19 rfl kX8_48 ?_
    refine s_Vi (q := 24) (As := [.int (-1000000001)]) (st := []) C (uX8_errs l G hG V2 (-1000000001)) yvX8_errs mlX8_49 (s80 hG) rfl rfl rfl rfl rfl rfl (gR_le (by decide) (by decide)) (Nat.le_of_ble_eq_true rfl) dX8_told_21 rfl (fun x4 V5 => ?_)
    exact s_iret C E dX8_told_24
  · refine s_aload_n (q := 10) C 0 dX8_told_9 rfl rfl rfl ?_
    refine geX8_6 (q := 13) C (s80 hG) flX8_22 dX8_told_10 rfl ?_
    refine s_iload_n (q := 14) C 1 dX8_told_13 rfl rfl rfl ?_
    refine s_iald (q := 15) C (qX8_6 hG) dX8_told_14 rfl (fun x6 => ?_)
    refine s_goto (q := 24) C dX8_told_15 (by decide) ?_
    exact s_iret C E dX8_told_24

noncomputable def fX8_howFar_L1b (a1 : Int32) (a2 : Int32) (a3 : Int32) (a4 : Int32) (a5 : Int32) (B29 : gV → Int32 → Int32 → Int32 → Option (Int32 × gV)) (V25 : gV) (x26 : Int32) (x27 : Int32) (x28 : Int32) : Option (Int32 × gV) := if x28 < 0 then (gbv (fX8_moveAll V25 (0 + 3) 264 (0 + 1) 264) fun (V31 : gV) => gjn (if a5 = 0 then (some (x26, V31)) else (some (x27, V31))) fun J36 => if a5 = 1 then (if x26 = 0 then (gbi (fX8_errs V31 (-1000000002)) fun (x40 : Int32) (V41 : gV) => some (x40, V41)) else (J36)) else (J36)) else (gbv (fX8_gets V25 a1 4 x28) fun (V42 : gV) => gbi (fX8_shows V42 a1) fun (x43 : Int32) (V44 : gV) => if x43 = a2 then (gbv (fX8_passes V44 a4) fun (V46 : gV) => gbi (fX8_shows V46 a1) fun (x47 : Int32) (V48 : gV) => gjn (fun (x50 : Int32) (x51 : Int32) => gbv (fX8_moveAll V48 (0 + 3) 264 (0 + 1) 264) fun (V53 : gV) => B29 V53 x50 x51 ((x28 + (-1)))) fun J52 => if x47 = a3 then (J52 ((x26 + 1)) x28) else (J52 x26 x27)) else (B29 V44 x26 x27 ((x28 + (-1)))))
noncomputable def fX8_howFar_L1 (a1 : Int32) (a2 : Int32) (a3 : Int32) (a4 : Int32) (a5 : Int32) : Nat → gV → Int32 → Int32 → Int32 → Option (Int32 × gV)
  | 0 => fun _ _ _ _ => none
  | n + 1 => fX8_howFar_L1b a1 a2 a3 a4 a5 (fX8_howFar_L1 a1 a2 a3 a4 a5 n)
noncomputable def fX8_howFar (V : gV) (a1 : Int32) (a2 : Int32) (a3 : Int32) (a4 : Int32) (a5 : Int32) : Option (Int32 × gV) := gbi (fX8_isCake V a1) fun (x1 : Int32) (V2 : gV) => if x1 = 0 then (gbi (fX8_errs V2 (-1000000001)) fun (x4 : Int32) (V5 : gV) => some (x4, V5)) else (gbi (fX8_in V2 a2 (-1) 9) fun (x6 : Int32) (V7 : gV) => if x6 = 0 then (gbi (fX8_errs V7 (-1000000001)) fun (x9 : Int32) (V10 : gV) => some (x9, V10)) else (gbi (fX8_in V7 a3 (-1) 9) fun (x11 : Int32) (V12 : gV) => if x11 = 0 then (gbi (fX8_errs V12 (-1000000001)) fun (x14 : Int32) (V15 : gV) => some (x14, V15)) else (gbi (fX8_in V12 a4 0 20) fun (x16 : Int32) (V17 : gV) => if x16 = 0 then (gbi (fX8_errs V17 (-1000000001)) fun (x19 : Int32) (V20 : gV) => some (x19, V20)) else (gbi (fX8_in V17 a5 0 1) fun (x21 : Int32) (V22 : gV) => if x21 = 0 then (gbi (fX8_errs V22 (-1000000001)) fun (x55 : Int32) (V56 : gV) => some (x55, V56)) else (gbv (fX8_moveAll V22 (0 + 1) 264 (0 + 3) 264) fun (V24 : gV) => fX8_howFar_L1 a1 a2 a3 a4 a5 gFu V24 0 0 999)))))
set_option maxHeartbeats 4000000 in
set_option maxRecDepth 100000 in
theorem uX8_howFar (l : Launch) (G : gG) (hG : gIsM G) (V : gV) (a1 : Int32) (a2 : Int32) (a3 : Int32) (a4 : Int32) (a5 : Int32) : gMi l G yX8_howFar cX8_howFar 9 Jvm.ClassFile.FieldType.int (gR 71 1683) [.ref (G.1 0), .int a1, .int a2, .int a3, .int a4, .int a5] V (fX8_howFar V a1 a2 a3 a4 a5) := by
  unfold fX8_howFar
  refine gM_i (by decide +kernel) rfl rfl (Nat.le_of_ble_eq_true rfl) (fun X rr VV C E => ?_)
  change gC cX8_howFar 9 RX8 G X at C
  change gSm l (gR 71 1683) 9 G X _ (rr, VV) V 0 [(0, .ref (G.1 0)), (1, .int a1), (2, .int a2), (3, .int a3), (4, .int a4), (5, .int a5)] []
  refine s_aload_n (q := 1) C 0 dX8_howFar_0 rfl rfl rfl ?_
  refine s_iload_n (q := 2) C 1 dX8_howFar_1 rfl rfl rfl ?_
  refine s_Vi (q := 5) (As := [.int a1]) (st := []) C (uX8_isCake l G hG V a1) yvX8_isCake mlX8_78 (s80 hG) rfl rfl rfl rfl rfl rfl (gR_le (by decide) (by decide)) (Nat.le_of_ble_eq_true rfl) dX8_howFar_2 rfl (fun x1 V2 => ?_)
  refine s_if_eq (tgt := 49) (q := 8) C dX8_howFar_5 (by decide) rfl (fun c3 => ?_) (fun c3 => ?_)
  · refine s_aload_n (q := 50) C 0 dX8_howFar_49 rfl rfl rfl ?_
    refine s_ldc (q := 52) (v := (-1000000001)) C dX8_howFar_50 rfl kX8_48 ?_
    refine s_Vi (q := 55) (As := [.int (-1000000001)]) (st := []) C (uX8_errs l G hG V2 (-1000000001)) yvX8_errs mlX8_49 (s80 hG) rfl rfl rfl rfl rfl rfl (gR_le (by decide) (by decide)) (Nat.le_of_ble_eq_true rfl) dX8_howFar_52 rfl (fun x4 V5 => ?_)
    exact s_iret C E dX8_howFar_55
  · refine s_iload_n (q := 9) C 2 dX8_howFar_8 rfl rfl rfl ?_
    refine s_iconst (q := 10) (v := (-1)) C dX8_howFar_9 rfl (by decide) ?_
    refine s_bipush (q := 12) (v := 9) C dX8_howFar_10 rfl (by decide) ?_
    refine s_Si (q := 15) (As := [.int a2, .int (-1), .int 9]) (st := []) C (uX8_in l G hG V2 a2 (-1) 9) ysX8_in mlX8_44 rfl rfl rfl rfl (gR_le (by decide) (by decide)) (Nat.le_of_ble_eq_true rfl) dX8_howFar_12 rfl (fun x6 V7 => ?_)
    refine s_if_eq (tgt := 49) (q := 18) C dX8_howFar_15 (by decide) rfl (fun c8 => ?_) (fun c8 => ?_)
    · refine s_aload_n (q := 50) C 0 dX8_howFar_49 rfl rfl rfl ?_
      refine s_ldc (q := 52) (v := (-1000000001)) C dX8_howFar_50 rfl kX8_48 ?_
      refine s_Vi (q := 55) (As := [.int (-1000000001)]) (st := []) C (uX8_errs l G hG V7 (-1000000001)) yvX8_errs mlX8_49 (s80 hG) rfl rfl rfl rfl rfl rfl (gR_le (by decide) (by decide)) (Nat.le_of_ble_eq_true rfl) dX8_howFar_52 rfl (fun x9 V10 => ?_)
      exact s_iret C E dX8_howFar_55
    · refine s_iload_n (q := 19) C 3 dX8_howFar_18 rfl rfl rfl ?_
      refine s_iconst (q := 20) (v := (-1)) C dX8_howFar_19 rfl (by decide) ?_
      refine s_bipush (q := 22) (v := 9) C dX8_howFar_20 rfl (by decide) ?_
      refine s_Si (q := 25) (As := [.int a3, .int (-1), .int 9]) (st := []) C (uX8_in l G hG V7 a3 (-1) 9) ysX8_in mlX8_44 rfl rfl rfl rfl (gR_le (by decide) (by decide)) (Nat.le_of_ble_eq_true rfl) dX8_howFar_22 rfl (fun x11 V12 => ?_)
      refine s_if_eq (tgt := 49) (q := 28) C dX8_howFar_25 (by decide) rfl (fun c13 => ?_) (fun c13 => ?_)
      · refine s_aload_n (q := 50) C 0 dX8_howFar_49 rfl rfl rfl ?_
        refine s_ldc (q := 52) (v := (-1000000001)) C dX8_howFar_50 rfl kX8_48 ?_
        refine s_Vi (q := 55) (As := [.int (-1000000001)]) (st := []) C (uX8_errs l G hG V12 (-1000000001)) yvX8_errs mlX8_49 (s80 hG) rfl rfl rfl rfl rfl rfl (gR_le (by decide) (by decide)) (Nat.le_of_ble_eq_true rfl) dX8_howFar_52 rfl (fun x14 V15 => ?_)
        exact s_iret C E dX8_howFar_55
      · refine s_iload (q := 30) C 4 dX8_howFar_28 rfl rfl ?_
        refine s_iconst (q := 31) (v := 0) C dX8_howFar_30 rfl (by decide) ?_
        refine s_bipush (q := 33) (v := 20) C dX8_howFar_31 rfl (by decide) ?_
        refine s_Si (q := 36) (As := [.int a4, .int 0, .int 20]) (st := []) C (uX8_in l G hG V12 a4 0 20) ysX8_in mlX8_44 rfl rfl rfl rfl (gR_le (by decide) (by decide)) (Nat.le_of_ble_eq_true rfl) dX8_howFar_33 rfl (fun x16 V17 => ?_)
        refine s_if_eq (tgt := 49) (q := 39) C dX8_howFar_36 (by decide) rfl (fun c18 => ?_) (fun c18 => ?_)
        · refine s_aload_n (q := 50) C 0 dX8_howFar_49 rfl rfl rfl ?_
          refine s_ldc (q := 52) (v := (-1000000001)) C dX8_howFar_50 rfl kX8_48 ?_
          refine s_Vi (q := 55) (As := [.int (-1000000001)]) (st := []) C (uX8_errs l G hG V17 (-1000000001)) yvX8_errs mlX8_49 (s80 hG) rfl rfl rfl rfl rfl rfl (gR_le (by decide) (by decide)) (Nat.le_of_ble_eq_true rfl) dX8_howFar_52 rfl (fun x19 V20 => ?_)
          exact s_iret C E dX8_howFar_55
        · refine s_iload (q := 41) C 5 dX8_howFar_39 rfl rfl ?_
          refine s_iconst (q := 42) (v := 0) C dX8_howFar_41 rfl (by decide) ?_
          refine s_iconst (q := 43) (v := 1) C dX8_howFar_42 rfl (by decide) ?_
          refine s_Si (q := 46) (As := [.int a5, .int 0, .int 1]) (st := []) C (uX8_in l G hG V17 a5 0 1) ysX8_in mlX8_44 rfl rfl rfl rfl (gR_le (by decide) (by decide)) (Nat.le_of_ble_eq_true rfl) dX8_howFar_43 rfl (fun x21 V22 => ?_)
          refine s_if_ne (tgt := 56) (q := 49) C dX8_howFar_46 (by decide) rfl (fun c23 => ?_) (fun c23 => ?_)
          · refine s_aload_n (q := 50) C 0 dX8_howFar_49 rfl rfl rfl ?_
            refine s_ldc (q := 52) (v := (-1000000001)) C dX8_howFar_50 rfl kX8_48 ?_
            refine s_Vi (q := 55) (As := [.int (-1000000001)]) (st := []) C (uX8_errs l G hG V22 (-1000000001)) yvX8_errs mlX8_49 (s80 hG) rfl rfl rfl rfl rfl rfl (gR_le (by decide) (by decide)) (Nat.le_of_ble_eq_true rfl) dX8_howFar_52 rfl (fun x55 V56 => ?_)
            exact s_iret C E dX8_howFar_55
          · refine s_iconst (q := 57) (v := 0) C dX8_howFar_56 rfl (by decide) ?_
            refine s_istore (q := 59) (L' := [(6, .int 0), (0, .ref (G.1 0)), (1, .int a1), (2, .int a2), (3, .int a3), (4, .int a4), (5, .int a5)]) C dX8_howFar_57 rfl (by decide) rfl ?_
            refine s_iconst (q := 60) (v := 0) C dX8_howFar_59 rfl (by decide) ?_
            refine s_istore (q := 62) (L' := [(7, .int 0), (6, .int 0), (0, .ref (G.1 0)), (1, .int a1), (2, .int a2), (3, .int a3), (4, .int a4), (5, .int a5)]) C dX8_howFar_60 rfl (by decide) rfl ?_
            refine s_aload_n (q := 63) C 2 dX8_howFar_62 rfl rfl rfl ?_
            refine s_aload_n (q := 64) C 2 dX8_howFar_63 rfl rfl rfl ?_
            refine geX8_0 (q := 67) C (s80 hG) flX8_7 dX8_howFar_64 rfl ?_
            refine s_aload_n (q := 68) C 2 dX8_howFar_67 rfl rfl rfl ?_
            refine geX8_2 (q := 71) C (s80 hG) flX8_16 dX8_howFar_68 rfl ?_
            refine s_Vv (q := 74) (As := [.ref (G.1 (0 + 1)), .ref (G.1 (0 + 3))]) (st := []) C (uX8_moveAll l G hG V22 (0 + 1) 264 (0 + 3) 264 (qX8_0 hG) (qX8_2 hG) (mX8_2 hG)) yvX8_moveAll mlX8_171 (s80 hG) rfl rfl rfl rfl rfl rfl (gR_le (by decide) (by decide)) (Nat.le_of_ble_eq_true rfl) dX8_howFar_71 rfl (fun V24 => ?_)
            refine s_sipush (q := 77) (v := 999) C dX8_howFar_74 rfl (by decide) ?_
            refine s_istore (q := 79) (L' := [(8, .int 999), (7, .int 0), (6, .int 0), (0, .ref (G.1 0)), (1, .int a1), (2, .int a2), (3, .int a3), (4, .int a4), (5, .int a5)]) C dX8_howFar_77 rfl (by decide) rfl ?_
            have hL1 : ∀ (n : Nat) (V25 : gV) (x26 : Int32) (x27 : Int32) (x28 : Int32), gSm l (gR 71 1683) 9 G X (fX8_howFar_L1 a1 a2 a3 a4 a5 n V25 x26 x27 x28) (rr, VV) V25 79 [(0, .ref (G.1 0)), (1, .int a1), (2, .int a2), (3, .int a3), (4, .int a4), (5, .int a5), (6, .int x26), (7, .int x27), (8, .int x28)] [] := by
              intro n
              induction n with
              | zero => exact fun V25 x26 x27 x28 => s_none
              | succ n ih =>
                intro V25 x26 x27 x28
                show gSm l (gR 71 1683) 9 G X (fX8_howFar_L1b a1 a2 a3 a4 a5 (fX8_howFar_L1 a1 a2 a3 a4 a5 n) V25 x26 x27 x28) (rr, VV) V25 79 [(0, .ref (G.1 0)), (1, .int a1), (2, .int a2), (3, .int a3), (4, .int a4), (5, .int a5), (6, .int x26), (7, .int x27), (8, .int x28)] []
                generalize fX8_howFar_L1 a1 a2 a3 a4 a5 n = B29 at ih ⊢
                have hB29 := ih
                unfold fX8_howFar_L1b
                refine s_iload (q := 81) C 8 dX8_howFar_79 rfl rfl ?_
                refine s_if_lt (tgt := 141) (q := 84) C dX8_howFar_81 (by decide) rfl (fun c30 => ?_) (fun c30 => ?_)
                · refine s_aload_n (q := 142) C 0 dX8_howFar_141 rfl rfl rfl ?_
                  refine s_aload_n (q := 143) C 0 dX8_howFar_142 rfl rfl rfl ?_
                  refine geX8_2 (q := 146) C (s80 hG) flX8_16 dX8_howFar_143 rfl ?_
                  refine s_aload_n (q := 147) C 0 dX8_howFar_146 rfl rfl rfl ?_
                  refine geX8_0 (q := 150) C (s80 hG) flX8_7 dX8_howFar_147 rfl ?_
                  refine s_Vv (q := 153) (As := [.ref (G.1 (0 + 3)), .ref (G.1 (0 + 1))]) (st := []) C (uX8_moveAll l G hG V25 (0 + 3) 264 (0 + 1) 264 (qX8_2 hG) (qX8_0 hG) (mX8_0 hG)) yvX8_moveAll mlX8_171 (s80 hG) rfl rfl rfl rfl rfl rfl (gR_le (by decide) (by decide)) (Nat.le_of_ble_eq_true rfl) dX8_howFar_150 rfl (fun V31 => ?_)
                  refine s_iload (q := 155) C 5 dX8_howFar_153 rfl rfl ?_
                  refine s_iconst (q := 156) (v := 1) C dX8_howFar_155 rfl (by decide) ?_
                  refine s_jn (fun J36 => gSm l (gR 71 1683) 9 G X (J36) (rr, VV) V31 171 [(5, .int a5), (6, .int x26), (7, .int x27)] []) ?_ (fun J36 hJ36 => ?_)
                  · refine s_iload (q := 173) C 0 dX8_howFar_171 rfl rfl ?_
                    refine s_if_ne (tgt := 181) (q := 176) C dX8_howFar_173 (by decide) rfl (fun c37 => ?_) (fun c37 => ?_)
                    · refine s_iload (q := 178) C 1 dX8_howFar_176 rfl rfl ?_
                      refine s_goto (q := 183) C dX8_howFar_178 (by decide) ?_
                      exact s_iret C E dX8_howFar_183
                    · refine s_iload (q := 183) C 2 dX8_howFar_181 rfl rfl ?_
                      exact s_iret C E dX8_howFar_183
                  · refine s_icmp_ne (tgt := 171) (q := 159) C dX8_howFar_156 (by decide) rfl (fun c38 => ?_) (fun c38 => ?_)
                    · refine s_iload (q := 161) C 6 dX8_howFar_159 rfl rfl ?_
                      refine s_if_ne (tgt := 171) (q := 164) C dX8_howFar_161 (by decide) rfl (fun c39 => ?_) (fun c39 => ?_)
                      · refine s_aload_n (q := 165) C 0 dX8_howFar_164 rfl rfl rfl ?_
                        refine s_ldc (q := 167) (v := (-1000000002)) C dX8_howFar_165 rfl kX8_199 ?_
                        refine s_Vi (q := 170) (As := [.int (-1000000002)]) (st := []) C (uX8_errs l G hG V31 (-1000000002)) yvX8_errs mlX8_49 (s80 hG) rfl rfl rfl rfl rfl rfl (gR_le (by decide) (by decide)) (Nat.le_of_ble_eq_true rfl) dX8_howFar_167 rfl (fun x40 V41 => ?_)
                        exact s_iret C E dX8_howFar_170
                      · refine s_sub [5, 6, 7] rfl ?_
                        exact hJ36
                    · refine s_sub [5, 6, 7] rfl ?_
                      exact hJ36
                · refine s_aload_n (q := 85) C 0 dX8_howFar_84 rfl rfl rfl ?_
                  refine s_iload_n (q := 86) C 1 dX8_howFar_85 rfl rfl rfl ?_
                  refine s_iconst (q := 87) (v := 4) C dX8_howFar_86 rfl (by decide) ?_
                  refine s_iload (q := 89) C 8 dX8_howFar_87 rfl rfl ?_
                  refine s_Vv (q := 92) (As := [.int a1, .int 4, .int x28]) (st := []) C (uX8_gets l G hG V25 a1 4 x28) yvX8_gets mlX8_74 (s80 hG) rfl rfl rfl rfl rfl rfl (gR_le (by decide) (by decide)) (Nat.le_of_ble_eq_true rfl) dX8_howFar_89 rfl (fun V42 => ?_)
                  refine s_aload_n (q := 93) C 0 dX8_howFar_92 rfl rfl rfl ?_
                  refine s_iload_n (q := 94) C 1 dX8_howFar_93 rfl rfl rfl ?_
                  refine s_Vi (q := 97) (As := [.int a1]) (st := []) C (uX8_shows l G hG V42 a1) yvX8_shows mlX8_58 (s80 hG) rfl rfl rfl rfl rfl rfl (gR_le (by decide) (by decide)) (Nat.le_of_ble_eq_true rfl) dX8_howFar_94 rfl (fun x43 V44 => ?_)
                  refine s_iload_n (q := 98) C 2 dX8_howFar_97 rfl rfl rfl ?_
                  refine s_icmp_ne (tgt := 135) (q := 101) C dX8_howFar_98 (by decide) rfl (fun c45 => ?_) (fun c45 => ?_)
                  · refine s_aload_n (q := 102) C 0 dX8_howFar_101 rfl rfl rfl ?_
                    refine s_iload (q := 104) C 4 dX8_howFar_102 rfl rfl ?_
                    refine s_Vv (q := 107) (As := [.int a4]) (st := []) C (uX8_passes l G hG V44 a4) yvX8_passes mlX8_178 (s80 hG) rfl rfl rfl rfl rfl rfl (gR_le (by decide) (by decide)) (Nat.le_of_ble_eq_true rfl) dX8_howFar_104 rfl (fun V46 => ?_)
                    refine s_aload_n (q := 108) C 0 dX8_howFar_107 rfl rfl rfl ?_
                    refine s_iload_n (q := 109) C 1 dX8_howFar_108 rfl rfl rfl ?_
                    refine s_Vi (q := 112) (As := [.int a1]) (st := []) C (uX8_shows l G hG V46 a1) yvX8_shows mlX8_58 (s80 hG) rfl rfl rfl rfl rfl rfl (gR_le (by decide) (by decide)) (Nat.le_of_ble_eq_true rfl) dX8_howFar_109 rfl (fun x47 V48 => ?_)
                    refine s_iload_n (q := 113) C 3 dX8_howFar_112 rfl rfl rfl ?_
                    refine s_jn (fun J52 => ∀ (x50 : Int32) (x51 : Int32), gSm l (gR 71 1683) 9 G X (J52 x50 x51) (rr, VV) V48 123 [(0, .ref (G.1 0)), (1, .int a1), (2, .int a2), (3, .int a3), (4, .int a4), (5, .int a5), (6, .int x50), (7, .int x51), (8, .int x28)] []) ?_ (fun J52 hJ52 => ?_)
                    · intro x50 x51
                      refine s_aload_n (q := 124) C 0 dX8_howFar_123 rfl rfl rfl ?_
                      refine s_aload_n (q := 125) C 0 dX8_howFar_124 rfl rfl rfl ?_
                      refine geX8_2 (q := 128) C (s80 hG) flX8_16 dX8_howFar_125 rfl ?_
                      refine s_aload_n (q := 129) C 0 dX8_howFar_128 rfl rfl rfl ?_
                      refine geX8_0 (q := 132) C (s80 hG) flX8_7 dX8_howFar_129 rfl ?_
                      refine s_Vv (q := 135) (As := [.ref (G.1 (0 + 3)), .ref (G.1 (0 + 1))]) (st := []) C (uX8_moveAll l G hG V48 (0 + 3) 264 (0 + 1) 264 (qX8_2 hG) (qX8_0 hG) (mX8_0 hG)) yvX8_moveAll mlX8_171 (s80 hG) rfl rfl rfl rfl rfl rfl (gR_le (by decide) (by decide)) (Nat.le_of_ble_eq_true rfl) dX8_howFar_132 rfl (fun V53 => ?_)
                      refine s_iinc (q := 138) (w := (-1)) (L' := [(8, .int (x28 + (-1))), (0, .ref (G.1 0)), (1, .int a1), (2, .int a2), (3, .int a3), (4, .int a4), (5, .int a5), (6, .int x50), (7, .int x51)]) C 8 dX8_howFar_135 rfl rfl (by decide) rfl (by decide) rfl ?_
                      refine s_goto (q := 79) C dX8_howFar_138 (by decide) ?_
                      refine s_sub [1, 2, 3, 4, 5, 6, 7, 8, 0] rfl ?_
                      exact hB29 V53 x50 x51 ((x28 + (-1)))
                    · refine s_icmp_ne (tgt := 123) (q := 116) C dX8_howFar_113 (by decide) rfl (fun c54 => ?_) (fun c54 => ?_)
                      · refine s_iinc (q := 119) (w := 1) (L' := [(6, .int (x26 + 1)), (0, .ref (G.1 0)), (1, .int a1), (2, .int a2), (3, .int a3), (4, .int a4), (5, .int a5), (7, .int x27), (8, .int x28)]) C 6 dX8_howFar_116 rfl rfl (by decide) rfl (by decide) rfl ?_
                        refine s_iload (q := 121) C 8 dX8_howFar_119 rfl rfl ?_
                        refine s_istore (q := 123) (L' := [(7, .int x28), (6, .int (x26 + 1)), (0, .ref (G.1 0)), (1, .int a1), (2, .int a2), (3, .int a3), (4, .int a4), (5, .int a5), (8, .int x28)]) C dX8_howFar_121 rfl (by decide) rfl ?_
                        refine s_sub [2, 3, 4, 5, 6, 7, 1, 0, 8] rfl ?_
                        exact hJ52 ((x26 + 1)) x28
                      · refine s_sub [0, 1, 2, 3, 4, 5, 6, 7, 8] rfl ?_
                        exact hJ52 x26 x27
                  · refine s_iinc (q := 138) (w := (-1)) (L' := [(8, .int (x28 + (-1))), (0, .ref (G.1 0)), (1, .int a1), (2, .int a2), (3, .int a3), (4, .int a4), (5, .int a5), (6, .int x26), (7, .int x27)]) C 8 dX8_howFar_135 rfl rfl (by decide) rfl (by decide) rfl ?_
                    refine s_goto (q := 79) C dX8_howFar_138 (by decide) ?_
                    refine s_sub [1, 2, 3, 4, 5, 6, 7, 8, 0] rfl ?_
                    exact hB29 V44 x26 x27 ((x28 + (-1)))
            refine s_sub [3, 4, 5, 6, 7, 8, 2, 1, 0] rfl ?_
            exact hL1 gFu V24 0 0 999
noncomputable def fX8_isRow_L1b (B9 : gV → Int32 → Int32 → Int32 → Int32 → Int32 → Option (Int32 × gV)) (V3 : gV) (x4 : Int32) (x5 : Int32) (x6 : Int32) (x7 : Int32) (x8 : Int32) : Option (Int32 × gV) := if x8 < 0 then (gzb x7 (some (x7, V3))) else (gdv 6 <| glt (grm x4 6) fun (x11 : Int32) => gdv 6 <| glt (x4 / 6) fun (x12 : Int32) => gas V3 (0 + 10) x8 4 x11 fun (V13 : gV) => gbi (fX8_isCake V13 x11) fun (x14 : Int32) (V15 : gV) => gjn (fun (x19 : Int32) (V20 : gV) => gjn (fun (x58 : Int32) (V59 : gV) => glt (x5 ||| (1 <<< (x11 &&& 31))) fun (x61 : Int32) => if 0 ≤ x19 then (glt (x6 ||| (1 <<< (x19 &&& 31))) fun (x63 : Int32) => B9 V59 x12 x61 x63 x58 ((x8 + (-1)))) else (glt (x6 ||| 0) fun (x64 : Int32) => B9 V59 x12 x61 x64 x58 ((x8 + (-1))))) fun J60 => gjn (fun (V82 : gV) => J60 0 V82) fun J83 => if x7 = 0 then (J83 V20) else (gbi (fX8_isCake V20 x11) fun (x85 : Int32) (V86 : gV) => if x85 = 0 then (J83 V86) else (gbi (fX8_has V86 x5 x11) fun (x88 : Int32) (V89 : gV) => if x88 = 0 then (gjn (fun (V95 : gV) => J60 1 V95) fun J96 => if x19 < 0 then (J96 V89) else (gbi (fX8_has V89 x6 x19) fun (x98 : Int32) (V99 : gV) => if x98 = 0 then (J96 V99) else (J83 V99))) else (J83 V89)))) fun J21 => if x14 = 0 then (J21 (-1) V15) else (gbi (fX8_shows V15 x11) fun (x102 : Int32) (V103 : gV) => J21 x102 V103))
noncomputable def fX8_isRow_L1 : Nat → gV → Int32 → Int32 → Int32 → Int32 → Int32 → Option (Int32 × gV)
  | 0 => fun _ _ _ _ _ _ => none
  | n + 1 => fX8_isRow_L1b (fX8_isRow_L1 n)
noncomputable def fX8_isRow (V : gV) (a1 : Int32) : Option (Int32 × gV) := gal V (0 + 1) 2 264 fun (x1 : Int32) => glt (x1 - 1) fun (x2 : Int32) => fX8_isRow_L1 gFu V a1 0 0 1 x2
set_option maxHeartbeats 4000000 in
set_option maxRecDepth 100000 in
theorem uX8_isRow (l : Launch) (G : gG) (hG : gIsM G) (V : gV) (a1 : Int32) : gMi l G yX8_isRow cX8_isRow 9 Jvm.ClassFile.FieldType.boolean (gR 69 1644) [.ref (G.1 0), .int a1] V (fX8_isRow V a1) := by
  unfold fX8_isRow
  refine gM_i (by decide +kernel) rfl rfl (Nat.le_of_ble_eq_true rfl) (fun X rr VV C E => ?_)
  change gC cX8_isRow 9 RX8 G X at C
  change gSm l (gR 69 1644) 9 G X _ (rr, VV) V 0 [(0, .ref (G.1 0)), (1, .int a1)] []
  refine s_iload_n (q := 1) C 1 dX8_isRow_0 rfl rfl rfl ?_
  refine s_istore_n (q := 2) (L' := [(2, .int a1), (0, .ref (G.1 0)), (1, .int a1)]) C dX8_isRow_1 rfl rfl (by decide) rfl ?_
  refine s_iconst (q := 3) (v := 0) C dX8_isRow_2 rfl (by decide) ?_
  refine s_istore_n (q := 4) (L' := [(3, .int 0), (2, .int a1), (0, .ref (G.1 0)), (1, .int a1)]) C dX8_isRow_3 rfl rfl (by decide) rfl ?_
  refine s_iconst (q := 5) (v := 0) C dX8_isRow_4 rfl (by decide) ?_
  refine s_istore (q := 7) (L' := [(4, .int 0), (3, .int 0), (2, .int a1), (0, .ref (G.1 0)), (1, .int a1)]) C dX8_isRow_5 rfl (by decide) rfl ?_
  refine s_iconst (q := 8) (v := 1) C dX8_isRow_7 rfl (by decide) ?_
  refine s_istore (q := 10) (L' := [(5, .int 1), (4, .int 0), (3, .int 0), (2, .int a1), (0, .ref (G.1 0)), (1, .int a1)]) C dX8_isRow_8 rfl (by decide) rfl ?_
  refine s_aload_n (q := 11) C 4 dX8_isRow_10 rfl rfl rfl ?_
  refine geX8_0 (q := 14) C (s80 hG) flX8_7 dX8_isRow_11 rfl ?_
  refine s_iconst (q := 15) (v := 2) C dX8_isRow_14 rfl (by decide) ?_
  refine s_iald (q := 16) C (qX8_0 hG) dX8_isRow_15 rfl (fun x1 => ?_)
  refine s_iconst (q := 17) (v := 1) C dX8_isRow_16 rfl (by decide) ?_
  refine s_isub (q := 18) C dX8_isRow_17 rfl ?_
  refine s_lt (fun x2 => ?_)
  refine s_istore (q := 20) (L' := [(6, .int x2), (5, .int 1), (4, .int 0), (3, .int 0), (2, .int a1), (0, .ref (G.1 0)), (1, .int a1)]) C dX8_isRow_18 rfl (by decide) rfl ?_
  have hL1 : ∀ (n : Nat) (V3 : gV) (x4 : Int32) (x5 : Int32) (x6 : Int32) (x7 : Int32) (x8 : Int32), gSm l (gR 69 1644) 9 G X (fX8_isRow_L1 n V3 x4 x5 x6 x7 x8) (rr, VV) V3 20 [(0, .ref (G.1 0)), (2, .int x4), (3, .int x5), (4, .int x6), (5, .int x7), (6, .int x8)] [] := by
    intro n
    induction n with
    | zero => exact fun V3 x4 x5 x6 x7 x8 => s_none
    | succ n ih =>
      intro V3 x4 x5 x6 x7 x8
      show gSm l (gR 69 1644) 9 G X (fX8_isRow_L1b (fX8_isRow_L1 n) V3 x4 x5 x6 x7 x8) (rr, VV) V3 20 [(0, .ref (G.1 0)), (2, .int x4), (3, .int x5), (4, .int x6), (5, .int x7), (6, .int x8)] []
      generalize fX8_isRow_L1 n = B9 at ih ⊢
      have hB9 := ih
      unfold fX8_isRow_L1b
      refine s_iload (q := 22) C 5 dX8_isRow_20 rfl rfl ?_
      refine s_if_lt (tgt := 142) (q := 25) C dX8_isRow_22 (by decide) rfl (fun c10 => ?_) (fun c10 => ?_)
      · refine s_iload (q := 144) C 4 dX8_isRow_142 rfl rfl ?_
        exact s_zret2 C E dX8_isRow_144
      · refine s_iload_n (q := 26) C 1 dX8_isRow_25 rfl rfl rfl ?_
        refine s_bipush (q := 28) (v := 6) C dX8_isRow_26 rfl (by decide) ?_
        refine s_irem (q := 29) C dX8_isRow_28 rfl ?_
        refine s_lt (fun x11 => ?_)
        refine s_istore (q := 31) (L' := [(7, .int x11), (0, .ref (G.1 0)), (2, .int x4), (3, .int x5), (4, .int x6), (5, .int x7), (6, .int x8)]) C dX8_isRow_29 rfl (by decide) rfl ?_
        refine s_iload_n (q := 32) C 2 dX8_isRow_31 rfl rfl rfl ?_
        refine s_bipush (q := 34) (v := 6) C dX8_isRow_32 rfl (by decide) ?_
        refine s_idiv (q := 35) C dX8_isRow_34 rfl ?_
        refine s_lt (fun x12 => ?_)
        refine s_istore_n (q := 36) (L' := [(2, .int x12), (7, .int x11), (0, .ref (G.1 0)), (3, .int x5), (4, .int x6), (5, .int x7), (6, .int x8)]) C dX8_isRow_35 rfl rfl (by decide) rfl ?_
        refine s_aload_n (q := 37) C 2 dX8_isRow_36 rfl rfl rfl ?_
        refine geX8_19 (q := 40) C (s80 hG) flX8_37 dX8_isRow_37 rfl ?_
        refine s_iload (q := 42) C 6 dX8_isRow_40 rfl rfl ?_
        refine s_iload (q := 44) C 1 dX8_isRow_42 rfl rfl ?_
        refine s_iast (q := 45) C (qX8_19 hG) (mX8_19 hG) dX8_isRow_44 rfl (fun V13 => ?_)
        refine s_aload_n (q := 46) C 2 dX8_isRow_45 rfl rfl rfl ?_
        refine s_iload (q := 48) C 1 dX8_isRow_46 rfl rfl ?_
        refine s_Vi (q := 51) (As := [.int x11]) (st := []) C (uX8_isCake l G hG V13 x11) yvX8_isCake mlX8_78 (s80 hG) rfl rfl rfl rfl rfl rfl (gR_le (by decide) (by decide)) (Nat.le_of_ble_eq_true rfl) dX8_isRow_48 rfl (fun x14 V15 => ?_)
        refine s_jn (fun J21 => ∀ (x19 : Int32) (V20 : gV), gSm l (gR 69 1644) 9 G X (J21 x19 V20) (rr, VV) V20 64 [(0, .ref (G.1 0)), (2, .int x12), (3, .int x5), (4, .int x6), (5, .int x7), (6, .int x8), (7, .int x11)] [.int x19]) ?_ (fun J21 hJ21 => ?_)
        · intro x19 V20
          refine s_istore (q := 66) (L' := [(8, .int x19), (0, .ref (G.1 0)), (2, .int x12), (3, .int x5), (4, .int x6), (5, .int x7), (6, .int x8), (7, .int x11)]) C dX8_isRow_64 rfl (by decide) rfl ?_
          refine s_iload (q := 68) C 5 dX8_isRow_66 rfl rfl ?_
          refine s_jn (fun J60 => ∀ (x58 : Int32) (V59 : gV), gSm l (gR 69 1644) 9 G X (J60 x58 V59) (rr, VV) V59 109 [(0, .ref (G.1 0)), (2, .int x12), (3, .int x5), (4, .int x6), (6, .int x8), (7, .int x11), (8, .int x19)] [.int x58]) ?_ (fun J60 hJ60 => ?_)
          · intro x58 V59
            refine s_istore (q := 111) (L' := [(5, .int x58), (0, .ref (G.1 0)), (2, .int x12), (3, .int x5), (4, .int x6), (6, .int x8), (7, .int x11), (8, .int x19)]) C dX8_isRow_109 rfl (by decide) rfl ?_
            refine s_iload_n (q := 112) C 3 dX8_isRow_111 rfl rfl rfl ?_
            refine s_iconst (q := 113) (v := 1) C dX8_isRow_112 rfl (by decide) ?_
            refine s_iload (q := 115) C 6 dX8_isRow_113 rfl rfl ?_
            refine s_ishl (q := 116) C dX8_isRow_115 rfl ?_
            refine s_ior (q := 117) C dX8_isRow_116 rfl ?_
            refine s_lt (fun x61 => ?_)
            refine s_istore_n (q := 118) (L' := [(3, .int x61), (5, .int x58), (0, .ref (G.1 0)), (2, .int x12), (4, .int x6), (6, .int x8), (7, .int x11), (8, .int x19)]) C dX8_isRow_117 rfl rfl (by decide) rfl ?_
            refine s_iload (q := 120) C 4 dX8_isRow_118 rfl rfl ?_
            refine s_iload (q := 122) C 7 dX8_isRow_120 rfl rfl ?_
            refine s_if_ge (tgt := 129) (q := 125) C dX8_isRow_122 (by decide) rfl (fun c62 => ?_) (fun c62 => ?_)
            · refine s_iconst (q := 130) (v := 1) C dX8_isRow_129 rfl (by decide) ?_
              refine s_iload (q := 132) C 7 dX8_isRow_130 rfl rfl ?_
              refine s_ishl (q := 133) C dX8_isRow_132 rfl ?_
              refine s_ior (q := 134) C dX8_isRow_133 rfl ?_
              refine s_lt (fun x63 => ?_)
              refine s_istore (q := 136) (L' := [(4, .int x63), (3, .int x61), (5, .int x58), (0, .ref (G.1 0)), (2, .int x12), (6, .int x8), (7, .int x11), (8, .int x19)]) C dX8_isRow_134 rfl (by decide) rfl ?_
              refine s_iinc (q := 139) (w := (-1)) (L' := [(6, .int (x8 + (-1))), (4, .int x63), (3, .int x61), (5, .int x58), (0, .ref (G.1 0)), (2, .int x12), (7, .int x11), (8, .int x19)]) C 5 dX8_isRow_136 rfl rfl (by decide) rfl (by decide) rfl ?_
              refine s_goto (q := 20) C dX8_isRow_139 (by decide) ?_
              refine s_sub [4, 5, 2, 1, 3, 0] rfl ?_
              exact hB9 V59 x12 x61 x63 x58 ((x8 + (-1)))
            · refine s_iconst (q := 126) (v := 0) C dX8_isRow_125 rfl (by decide) ?_
              refine s_goto (q := 133) C dX8_isRow_126 (by decide) ?_
              refine s_ior (q := 134) C dX8_isRow_133 rfl ?_
              refine s_lt (fun x64 => ?_)
              refine s_istore (q := 136) (L' := [(4, .int x64), (3, .int x61), (5, .int x58), (0, .ref (G.1 0)), (2, .int x12), (6, .int x8), (7, .int x11), (8, .int x19)]) C dX8_isRow_134 rfl (by decide) rfl ?_
              refine s_iinc (q := 139) (w := (-1)) (L' := [(6, .int (x8 + (-1))), (4, .int x64), (3, .int x61), (5, .int x58), (0, .ref (G.1 0)), (2, .int x12), (7, .int x11), (8, .int x19)]) C 5 dX8_isRow_136 rfl rfl (by decide) rfl (by decide) rfl ?_
              refine s_goto (q := 20) C dX8_isRow_139 (by decide) ?_
              refine s_sub [4, 5, 2, 1, 3, 0] rfl ?_
              exact hB9 V59 x12 x61 x64 x58 ((x8 + (-1)))
          · refine s_jn (fun J83 => ∀ (V82 : gV), gSm l (gR 69 1644) 9 G X (J83 V82) (rr, VV) V82 108 [(0, .ref (G.1 0)), (2, .int x12), (3, .int x5), (4, .int x6), (6, .int x8), (7, .int x11), (8, .int x19)] []) ?_ (fun J83 hJ83 => ?_)
            · intro V82
              refine s_iconst (q := 109) (v := 0) C dX8_isRow_108 rfl (by decide) ?_
              refine s_sub [0, 1, 2, 3, 4, 5, 6] rfl ?_
              exact hJ60 0 V82
            · refine s_if_eq (tgt := 108) (q := 71) C dX8_isRow_68 (by decide) rfl (fun c84 => ?_) (fun c84 => ?_)
              · refine s_sub [1, 2, 3, 4, 6, 7, 0] rfl ?_
                exact hJ83 V20
              · refine s_aload_n (q := 72) C 1 dX8_isRow_71 rfl rfl rfl ?_
                refine s_iload (q := 74) C 7 dX8_isRow_72 rfl rfl ?_
                refine s_Vi (q := 77) (As := [.int x11]) (st := []) C (uX8_isCake l G hG V20 x11) yvX8_isCake mlX8_78 (s80 hG) rfl rfl rfl rfl rfl rfl (gR_le (by decide) (by decide)) (Nat.le_of_ble_eq_true rfl) dX8_isRow_74 rfl (fun x85 V86 => ?_)
                refine s_if_eq (tgt := 108) (q := 80) C dX8_isRow_77 (by decide) rfl (fun c87 => ?_) (fun c87 => ?_)
                · refine s_sub [1, 2, 3, 4, 6, 7, 0] rfl ?_
                  exact hJ83 V86
                · refine s_iload_n (q := 81) C 3 dX8_isRow_80 rfl rfl rfl ?_
                  refine s_iload (q := 83) C 7 dX8_isRow_81 rfl rfl ?_
                  refine s_Si (q := 86) (As := [.int x5, .int x11]) (st := []) C (uX8_has l G hG V86 x5 x11) ysX8_has mlX8_189 rfl rfl rfl rfl (gR_le (by decide) (by decide)) (Nat.le_of_ble_eq_true rfl) dX8_isRow_83 rfl (fun x88 V89 => ?_)
                  refine s_if_ne (tgt := 108) (q := 89) C dX8_isRow_86 (by decide) rfl (fun c90 => ?_) (fun c90 => ?_)
                  · refine s_iload (q := 91) C 0 dX8_isRow_89 rfl rfl ?_
                    refine s_jn (fun J96 => ∀ (V95 : gV), gSm l (gR 69 1644) 9 G X (J96 V95) (rr, VV) V95 104 [(0, .ref (G.1 0)), (2, .int x12), (3, .int x5), (4, .int x6), (6, .int x8), (7, .int x11), (8, .int x19)] []) ?_ (fun J96 hJ96 => ?_)
                    · intro V95
                      refine s_iconst (q := 105) (v := 1) C dX8_isRow_104 rfl (by decide) ?_
                      refine s_goto (q := 109) C dX8_isRow_105 (by decide) ?_
                      refine s_sub [0, 1, 2, 3, 4, 5, 6] rfl ?_
                      exact hJ60 1 V95
                    · refine s_if_lt (tgt := 104) (q := 94) C dX8_isRow_91 (by decide) rfl (fun c97 => ?_) (fun c97 => ?_)
                      · refine s_sub [1, 2, 3, 4, 6, 7, 0] rfl ?_
                        exact hJ96 V89
                      · refine s_iload (q := 96) C 4 dX8_isRow_94 rfl rfl ?_
                        refine s_iload (q := 98) C 0 dX8_isRow_96 rfl rfl ?_
                        refine s_Si (q := 101) (As := [.int x6, .int x19]) (st := []) C (uX8_has l G hG V89 x6 x19) ysX8_has mlX8_189 rfl rfl rfl rfl (gR_le (by decide) (by decide)) (Nat.le_of_ble_eq_true rfl) dX8_isRow_98 rfl (fun x98 V99 => ?_)
                        refine s_if_ne (tgt := 108) (q := 104) C dX8_isRow_101 (by decide) rfl (fun c100 => ?_) (fun c100 => ?_)
                        · refine s_sub [1, 2, 3, 4, 6, 7, 0] rfl ?_
                          exact hJ96 V99
                        · refine s_sub [1, 2, 3, 4, 6, 7, 0] rfl ?_
                          exact hJ83 V99
                  · refine s_sub [1, 2, 3, 4, 6, 7, 0] rfl ?_
                    exact hJ83 V89
        · refine s_if_eq (tgt := 63) (q := 54) C dX8_isRow_51 (by decide) rfl (fun c101 => ?_) (fun c101 => ?_)
          · refine s_iconst (q := 64) (v := (-1)) C dX8_isRow_63 rfl (by decide) ?_
            refine s_sub [2, 0, 3, 4, 5, 6, 1] rfl ?_
            exact hJ21 (-1) V15
          · refine s_aload_n (q := 55) C 2 dX8_isRow_54 rfl rfl rfl ?_
            refine s_iload (q := 57) C 1 dX8_isRow_55 rfl rfl ?_
            refine s_Vi (q := 60) (As := [.int x11]) (st := []) C (uX8_shows l G hG V15 x11) yvX8_shows mlX8_58 (s80 hG) rfl rfl rfl rfl rfl rfl (gR_le (by decide) (by decide)) (Nat.le_of_ble_eq_true rfl) dX8_isRow_57 rfl (fun x102 V103 => ?_)
            refine s_goto (q := 64) C dX8_isRow_60 (by decide) ?_
            refine s_sub [2, 0, 3, 4, 5, 6, 1] rfl ?_
            exact hJ21 x102 V103
  refine s_sub [5, 4, 3, 2, 1, 0] rfl ?_
  exact hL1 gFu V a1 0 0 1 x2
noncomputable def fX8_lends_L2b (a1 : Int32) (x4 : Int32) (B11 : gV → Int32 → Option (Int32 × gV)) (V9 : gV) (x10 : Int32) : Option (Int32 × gV) := gjn (fun (V16 : gV) => if x10 = x4 then (gbi (fX8_errs V16 (-1000000002)) fun (x20 : Int32) (V21 : gV) => some (x20, V21)) else (gal V16 (0 + 10) a1 4 fun (x19 : Int32) => some (x19, V16))) fun J17 => if x4 ≤ x10 then (J17 V9) else (gbi (fX8_isRow V9 x10) fun (x23 : Int32) (V24 : gV) => if x23 = 0 then (B11 V24 ((x10 + 1))) else (J17 V24))
noncomputable def fX8_lends_L2 (a1 : Int32) (x4 : Int32) : Nat → gV → Int32 → Option (Int32 × gV)
  | 0 => fun _ _ => none
  | n + 1 => fX8_lends_L2b a1 x4 (fX8_lends_L2 a1 x4 n)
noncomputable def fX8_lends_L1b (a1 : Int32) (V2 : gV) (B6 : Int32 → Int32 → Option (Int32 × gV)) (x4 : Int32) (x5 : Int32) : Option (Int32 × gV) := gal V2 (0 + 1) 2 264 fun (x7 : Int32) => if x7 ≤ x5 then (fX8_lends_L2 a1 x4 gFu V2 0) else (glt (x4 * 6) fun (x26 : Int32) => B6 x26 ((x5 + 1)))
noncomputable def fX8_lends_L1 (a1 : Int32) (V2 : gV) : Nat → Int32 → Int32 → Option (Int32 × gV)
  | 0 => fun _ _ => none
  | n + 1 => fX8_lends_L1b a1 V2 (fX8_lends_L1 a1 V2 n)
noncomputable def fX8_lends (V : gV) (a1 : Int32) : Option (Int32 × gV) := gbi (fX8_isHouse V a1) fun (x1 : Int32) (V2 : gV) => if x1 = 0 then (gbi (fX8_errs V2 (-1000000001)) fun (x27 : Int32) (V28 : gV) => some (x27, V28)) else (fX8_lends_L1 a1 V2 gFu 1 0)
set_option maxHeartbeats 4000000 in
set_option maxRecDepth 100000 in
theorem uX8_lends (l : Launch) (G : gG) (hG : gIsM G) (V : gV) (a1 : Int32) : gMi l G yX8_lends cX8_lends 4 Jvm.ClassFile.FieldType.int (gR 70 1672) [.ref (G.1 0), .int a1] V (fX8_lends V a1) := by
  unfold fX8_lends
  refine gM_i (by decide +kernel) rfl rfl (Nat.le_of_ble_eq_true rfl) (fun X rr VV C E => ?_)
  change gC cX8_lends 4 RX8 G X at C
  change gSm l (gR 70 1672) 4 G X _ (rr, VV) V 0 [(0, .ref (G.1 0)), (1, .int a1)] []
  refine s_aload_n (q := 1) C 0 dX8_lends_0 rfl rfl rfl ?_
  refine s_iload_n (q := 2) C 1 dX8_lends_1 rfl rfl rfl ?_
  refine s_Vi (q := 5) (As := [.int a1]) (st := []) C (uX8_isHouse l G hG V a1) yvX8_isHouse mlX8_61 (s80 hG) rfl rfl rfl rfl rfl rfl (gR_le (by decide) (by decide)) (Nat.le_of_ble_eq_true rfl) dX8_lends_2 rfl (fun x1 V2 => ?_)
  refine s_if_ne (tgt := 15) (q := 8) C dX8_lends_5 (by decide) rfl (fun c3 => ?_) (fun c3 => ?_)
  · refine s_aload_n (q := 9) C 0 dX8_lends_8 rfl rfl rfl ?_
    refine s_ldc (q := 11) (v := (-1000000001)) C dX8_lends_9 rfl kX8_48 ?_
    refine s_Vi (q := 14) (As := [.int (-1000000001)]) (st := []) C (uX8_errs l G hG V2 (-1000000001)) yvX8_errs mlX8_49 (s80 hG) rfl rfl rfl rfl rfl rfl (gR_le (by decide) (by decide)) (Nat.le_of_ble_eq_true rfl) dX8_lends_11 rfl (fun x27 V28 => ?_)
    exact s_iret C E dX8_lends_14
  · refine s_iconst (q := 16) (v := 1) C dX8_lends_15 rfl (by decide) ?_
    refine s_istore_n (q := 17) (L' := [(2, .int 1), (0, .ref (G.1 0)), (1, .int a1)]) C dX8_lends_16 rfl rfl (by decide) rfl ?_
    refine s_iconst (q := 18) (v := 0) C dX8_lends_17 rfl (by decide) ?_
    refine s_istore_n (q := 19) (L' := [(3, .int 0), (2, .int 1), (0, .ref (G.1 0)), (1, .int a1)]) C dX8_lends_18 rfl rfl (by decide) rfl ?_
    have hL1 : ∀ (n : Nat) (x4 : Int32) (x5 : Int32), gSm l (gR 70 1672) 4 G X (fX8_lends_L1 a1 V2 n x4 x5) (rr, VV) V2 19 [(0, .ref (G.1 0)), (1, .int a1), (2, .int x4), (3, .int x5)] [] := by
      intro n
      induction n with
      | zero => exact fun x4 x5 => s_none
      | succ n ih =>
        intro x4 x5
        show gSm l (gR 70 1672) 4 G X (fX8_lends_L1b a1 V2 (fX8_lends_L1 a1 V2 n) x4 x5) (rr, VV) V2 19 [(0, .ref (G.1 0)), (1, .int a1), (2, .int x4), (3, .int x5)] []
        generalize fX8_lends_L1 a1 V2 n = B6 at ih ⊢
        have hB6 := ih
        unfold fX8_lends_L1b
        refine s_iload_n (q := 20) C 3 dX8_lends_19 rfl rfl rfl ?_
        refine s_aload_n (q := 21) C 0 dX8_lends_20 rfl rfl rfl ?_
        refine geX8_0 (q := 24) C (s80 hG) flX8_7 dX8_lends_21 rfl ?_
        refine s_iconst (q := 25) (v := 2) C dX8_lends_24 rfl (by decide) ?_
        refine s_iald (q := 26) C (qX8_0 hG) dX8_lends_25 rfl (fun x7 => ?_)
        refine s_icmp_ge (tgt := 40) (q := 29) C dX8_lends_26 (by decide) rfl (fun c8 => ?_) (fun c8 => ?_)
        · refine s_iconst (q := 41) (v := 0) C dX8_lends_40 rfl (by decide) ?_
          refine s_istore_n (q := 42) (L' := [(3, .int 0), (0, .ref (G.1 0)), (1, .int a1), (2, .int x4)]) C dX8_lends_41 rfl rfl (by decide) rfl ?_
          have hL2 : ∀ (n : Nat) (V9 : gV) (x10 : Int32), gSm l (gR 70 1672) 4 G X (fX8_lends_L2 a1 x4 n V9 x10) (rr, VV) V9 42 [(0, .ref (G.1 0)), (1, .int a1), (2, .int x4), (3, .int x10)] [] := by
            intro n
            induction n with
            | zero => exact fun V9 x10 => s_none
            | succ n ih =>
              intro V9 x10
              show gSm l (gR 70 1672) 4 G X (fX8_lends_L2b a1 x4 (fX8_lends_L2 a1 x4 n) V9 x10) (rr, VV) V9 42 [(0, .ref (G.1 0)), (1, .int a1), (2, .int x4), (3, .int x10)] []
              generalize fX8_lends_L2 a1 x4 n = B11 at ih ⊢
              have hB11 := ih
              unfold fX8_lends_L2b
              refine s_iload_n (q := 43) C 3 dX8_lends_42 rfl rfl rfl ?_
              refine s_iload_n (q := 44) C 2 dX8_lends_43 rfl rfl rfl ?_
              refine s_jn (fun J17 => ∀ (V16 : gV), gSm l (gR 70 1672) 4 G X (J17 V16) (rr, VV) V16 61 [(0, .ref (G.1 0)), (1, .int a1), (2, .int x4), (3, .int x10)] []) ?_ (fun J17 hJ17 => ?_)
              · intro V16
                refine s_iload_n (q := 62) C 3 dX8_lends_61 rfl rfl rfl ?_
                refine s_iload_n (q := 63) C 2 dX8_lends_62 rfl rfl rfl ?_
                refine s_icmp_ne (tgt := 75) (q := 66) C dX8_lends_63 (by decide) rfl (fun c18 => ?_) (fun c18 => ?_)
                · refine s_aload_n (q := 67) C 0 dX8_lends_66 rfl rfl rfl ?_
                  refine s_ldc (q := 69) (v := (-1000000002)) C dX8_lends_67 rfl kX8_199 ?_
                  refine s_Vi (q := 72) (As := [.int (-1000000002)]) (st := []) C (uX8_errs l G hG V16 (-1000000002)) yvX8_errs mlX8_49 (s80 hG) rfl rfl rfl rfl rfl rfl (gR_le (by decide) (by decide)) (Nat.le_of_ble_eq_true rfl) dX8_lends_69 rfl (fun x20 V21 => ?_)
                  refine s_goto (q := 81) C dX8_lends_72 (by decide) ?_
                  exact s_iret C E dX8_lends_81
                · refine s_aload_n (q := 76) C 0 dX8_lends_75 rfl rfl rfl ?_
                  refine geX8_19 (q := 79) C (s80 hG) flX8_37 dX8_lends_76 rfl ?_
                  refine s_iload_n (q := 80) C 1 dX8_lends_79 rfl rfl rfl ?_
                  refine s_iald (q := 81) C (qX8_19 hG) dX8_lends_80 rfl (fun x19 => ?_)
                  exact s_iret C E dX8_lends_81
              · refine s_icmp_ge (tgt := 61) (q := 47) C dX8_lends_44 (by decide) rfl (fun c22 => ?_) (fun c22 => ?_)
                · refine s_sub [0, 1, 2, 3] rfl ?_
                  exact hJ17 V9
                · refine s_aload_n (q := 48) C 0 dX8_lends_47 rfl rfl rfl ?_
                  refine s_iload_n (q := 49) C 3 dX8_lends_48 rfl rfl rfl ?_
                  refine s_Vi (q := 52) (As := [.int x10]) (st := []) C (uX8_isRow l G hG V9 x10) yvX8_isRow mlX8_212 (s80 hG) rfl rfl rfl rfl rfl rfl (gR_le (by decide) (by decide)) (Nat.le_of_ble_eq_true rfl) dX8_lends_49 rfl (fun x23 V24 => ?_)
                  refine s_if_ne (tgt := 61) (q := 55) C dX8_lends_52 (by decide) rfl (fun c25 => ?_) (fun c25 => ?_)
                  · refine s_iinc (q := 58) (w := 1) (L' := [(3, .int (x10 + 1)), (0, .ref (G.1 0)), (1, .int a1), (2, .int x4)]) C 3 dX8_lends_55 rfl rfl (by decide) rfl (by decide) rfl ?_
                    refine s_goto (q := 42) C dX8_lends_58 (by decide) ?_
                    refine s_sub [1, 2, 3, 0] rfl ?_
                    exact hB11 V24 ((x10 + 1))
                  · refine s_sub [0, 1, 2, 3] rfl ?_
                    exact hJ17 V24
          refine s_sub [1, 2, 3, 0] rfl ?_
          exact hL2 gFu V2 0
        · refine s_iload_n (q := 30) C 2 dX8_lends_29 rfl rfl rfl ?_
          refine s_bipush (q := 32) (v := 6) C dX8_lends_30 rfl (by decide) ?_
          refine s_imul (q := 33) C dX8_lends_32 rfl ?_
          refine s_lt (fun x26 => ?_)
          refine s_istore_n (q := 34) (L' := [(2, .int x26), (0, .ref (G.1 0)), (1, .int a1), (3, .int x5)]) C dX8_lends_33 rfl rfl (by decide) rfl ?_
          refine s_iinc (q := 37) (w := 1) (L' := [(3, .int (x5 + 1)), (2, .int x26), (0, .ref (G.1 0)), (1, .int a1)]) C 3 dX8_lends_34 rfl rfl (by decide) rfl (by decide) rfl ?_
          refine s_goto (q := 19) C dX8_lends_37 (by decide) ?_
          refine s_sub [2, 3, 1, 0] rfl ?_
          exact hB6 x26 ((x5 + 1))
    refine s_sub [2, 3, 1, 0] rfl ?_
    exact hL1 gFu 1 0
noncomputable def fX8_divisor_L1b (V : gV) (B3 : Int32 → Int32 → Option (Int32 × gV)) (x1 : Int32) (x2 : Int32) : Option (Int32 × gV) := if x2 = 0 then (some (x1, V)) else (gdv x2 <| glt (grm x1 x2) fun (x5 : Int32) => B3 x2 x5)
noncomputable def fX8_divisor_L1 (V : gV) : Nat → Int32 → Int32 → Option (Int32 × gV)
  | 0 => fun _ _ => none
  | n + 1 => fX8_divisor_L1b V (fX8_divisor_L1 V n)
noncomputable def fX8_divisor (V : gV) (a0 : Int32) (a1 : Int32) : Option (Int32 × gV) := fX8_divisor_L1 V gFu a0 a1
set_option maxHeartbeats 4000000 in
set_option maxRecDepth 100000 in
theorem uX8_divisor (l : Launch) (G : gG) (hG : gIsM G) (V : gV) (a0 : Int32) (a1 : Int32) : gMi l G yX8_divisor cX8_divisor 5 Jvm.ClassFile.FieldType.int (gR 0 0) [.int a0, .int a1] V (fX8_divisor V a0 a1) := by
  unfold fX8_divisor
  refine gM_i (by decide +kernel) rfl rfl (Nat.le_of_ble_eq_true rfl) (fun X rr VV C E => ?_)
  change gC cX8_divisor 5 RX8 G X at C
  change gSm l (gR 0 0) 5 G X _ (rr, VV) V 0 [(0, .int a0), (1, .int a1)] []
  refine s_iload_n (q := 1) C 0 dX8_divisor_0 rfl rfl rfl ?_
  refine s_istore_n (q := 2) (L' := [(2, .int a0), (0, .int a0), (1, .int a1)]) C dX8_divisor_1 rfl rfl (by decide) rfl ?_
  refine s_iload_n (q := 3) C 2 dX8_divisor_2 rfl rfl rfl ?_
  refine s_istore_n (q := 4) (L' := [(3, .int a1), (2, .int a0), (0, .int a0), (1, .int a1)]) C dX8_divisor_3 rfl rfl (by decide) rfl ?_
  have hL1 : ∀ (n : Nat) (x1 : Int32) (x2 : Int32), gSm l (gR 0 0) 5 G X (fX8_divisor_L1 V n x1 x2) (rr, VV) V 4 [(2, .int x1), (3, .int x2)] [] := by
    intro n
    induction n with
    | zero => exact fun x1 x2 => s_none
    | succ n ih =>
      intro x1 x2
      show gSm l (gR 0 0) 5 G X (fX8_divisor_L1b V (fX8_divisor_L1 V n) x1 x2) (rr, VV) V 4 [(2, .int x1), (3, .int x2)] []
      generalize fX8_divisor_L1 V n = B3 at ih ⊢
      have hB3 := ih
      unfold fX8_divisor_L1b
      refine s_iload_n (q := 5) C 1 dX8_divisor_4 rfl rfl rfl ?_
      refine s_if_eq (tgt := 21) (q := 8) C dX8_divisor_5 (by decide) rfl (fun c4 => ?_) (fun c4 => ?_)
      · refine s_iload_n (q := 22) C 0 dX8_divisor_21 rfl rfl rfl ?_
        exact s_iret C E dX8_divisor_22
      · refine s_iload_n (q := 9) C 0 dX8_divisor_8 rfl rfl rfl ?_
        refine s_iload_n (q := 10) C 1 dX8_divisor_9 rfl rfl rfl ?_
        refine s_irem (q := 11) C dX8_divisor_10 rfl ?_
        refine s_lt (fun x5 => ?_)
        refine s_istore (q := 13) (L' := [(4, .int x5), (2, .int x1), (3, .int x2)]) C dX8_divisor_11 rfl (by decide) rfl ?_
        refine s_iload_n (q := 14) C 2 dX8_divisor_13 rfl rfl rfl ?_
        refine s_istore_n (q := 15) (L' := [(2, .int x2), (4, .int x5), (3, .int x2)]) C dX8_divisor_14 rfl rfl (by decide) rfl ?_
        refine s_iload (q := 17) C 1 dX8_divisor_15 rfl rfl ?_
        refine s_istore_n (q := 18) (L' := [(3, .int x5), (2, .int x2), (4, .int x5)]) C dX8_divisor_17 rfl rfl (by decide) rfl ?_
        refine s_goto (q := 4) C dX8_divisor_18 (by decide) ?_
        refine s_sub [1, 0] rfl ?_
        exact hB3 x2 x5
  refine s_sub [1, 0] rfl ?_
  exact hL1 gFu a0 a1
noncomputable def fX8_odds_L1b (a1 : Int32) (a2 : Int32) (a3 : Int32) (a4 : Int32) (B23 : gV → Int32 → Int32 → Option (Int32 × gV)) (V20 : gV) (x21 : Int32) (x22 : Int32) : Option (Int32 × gV) := if 9 < x22 then (gbi (fX8_divisor V20 x21 10) fun (x25 : Int32) (V26 : gV) => if a4 = 0 then (gdv x25 <| some ((x21 / x25), V26)) else (gdv x25 <| some ((10 / x25), V26))) else (gas V20 (0 + 1) ((8 + (2 * a2)) + 1) 264 x22 fun (V28 : gV) => gbv (fX8_passes V28 a3) fun (V29 : gV) => gbi (fX8_guestsIn V29 a2) fun (x30 : Int32) (V31 : gV) => gbi (fX8_has V31 x30 a1) fun (x32 : Int32) (V33 : gV) => gjn (fun (x35 : Int32) => glt (x21 + x35) fun (x37 : Int32) => gbv (fX8_moveAll V33 (0 + 3) 264 (0 + 1) 264) fun (V38 : gV) => B23 V38 x37 ((x22 + 1))) fun J36 => if x32 = 0 then (J36 0) else (J36 1))
noncomputable def fX8_odds_L1 (a1 : Int32) (a2 : Int32) (a3 : Int32) (a4 : Int32) : Nat → gV → Int32 → Int32 → Option (Int32 × gV)
  | 0 => fun _ _ _ => none
  | n + 1 => fX8_odds_L1b a1 a2 a3 a4 (fX8_odds_L1 a1 a2 a3 a4 n)
noncomputable def fX8_odds (V : gV) (a1 : Int32) (a2 : Int32) (a3 : Int32) (a4 : Int32) : Option (Int32 × gV) := gbi (fX8_isGuest V a1) fun (x1 : Int32) (V2 : gV) => if x1 = 0 then (gbi (fX8_errs V2 (-1000000001)) fun (x4 : Int32) (V5 : gV) => some (x4, V5)) else (gbi (fX8_isHouse V2 a2) fun (x6 : Int32) (V7 : gV) => if x6 = 0 then (gbi (fX8_errs V7 (-1000000001)) fun (x9 : Int32) (V10 : gV) => some (x9, V10)) else (gbi (fX8_in V7 a3 0 99) fun (x11 : Int32) (V12 : gV) => if x11 = 0 then (gbi (fX8_errs V12 (-1000000001)) fun (x14 : Int32) (V15 : gV) => some (x14, V15)) else (gbi (fX8_in V12 a4 0 1) fun (x16 : Int32) (V17 : gV) => if x16 = 0 then (gbi (fX8_errs V17 (-1000000001)) fun (x40 : Int32) (V41 : gV) => some (x40, V41)) else (gbv (fX8_moveAll V17 (0 + 1) 264 (0 + 3) 264) fun (V19 : gV) => fX8_odds_L1 a1 a2 a3 a4 gFu V19 0 0))))
set_option maxHeartbeats 4000000 in
set_option maxRecDepth 100000 in
theorem uX8_odds (l : Launch) (G : gG) (hG : gIsM G) (V : gV) (a1 : Int32) (a2 : Int32) (a3 : Int32) (a4 : Int32) : gMi l G yX8_odds cX8_odds 7 Jvm.ClassFile.FieldType.int (gR 71 1683) [.ref (G.1 0), .int a1, .int a2, .int a3, .int a4] V (fX8_odds V a1 a2 a3 a4) := by
  unfold fX8_odds
  refine gM_i (by decide +kernel) rfl rfl (Nat.le_of_ble_eq_true rfl) (fun X rr VV C E => ?_)
  change gC cX8_odds 7 RX8 G X at C
  change gSm l (gR 71 1683) 7 G X _ (rr, VV) V 0 [(0, .ref (G.1 0)), (1, .int a1), (2, .int a2), (3, .int a3), (4, .int a4)] []
  refine s_iload_n (q := 1) C 1 dX8_odds_0 rfl rfl rfl ?_
  refine s_Si (q := 4) (As := [.int a1]) (st := []) C (uX8_isGuest l G hG V a1) ysX8_isGuest mlX8_193 rfl rfl rfl rfl (gR_le (by decide) (by decide)) (Nat.le_of_ble_eq_true rfl) dX8_odds_1 rfl (fun x1 V2 => ?_)
  refine s_if_eq (tgt := 35) (q := 7) C dX8_odds_4 (by decide) rfl (fun c3 => ?_) (fun c3 => ?_)
  · refine s_aload_n (q := 36) C 0 dX8_odds_35 rfl rfl rfl ?_
    refine s_ldc (q := 38) (v := (-1000000001)) C dX8_odds_36 rfl kX8_48 ?_
    refine s_Vi (q := 41) (As := [.int (-1000000001)]) (st := []) C (uX8_errs l G hG V2 (-1000000001)) yvX8_errs mlX8_49 (s80 hG) rfl rfl rfl rfl rfl rfl (gR_le (by decide) (by decide)) (Nat.le_of_ble_eq_true rfl) dX8_odds_38 rfl (fun x4 V5 => ?_)
    exact s_iret C E dX8_odds_41
  · refine s_aload_n (q := 8) C 0 dX8_odds_7 rfl rfl rfl ?_
    refine s_iload_n (q := 9) C 2 dX8_odds_8 rfl rfl rfl ?_
    refine s_Vi (q := 12) (As := [.int a2]) (st := []) C (uX8_isHouse l G hG V2 a2) yvX8_isHouse mlX8_61 (s80 hG) rfl rfl rfl rfl rfl rfl (gR_le (by decide) (by decide)) (Nat.le_of_ble_eq_true rfl) dX8_odds_9 rfl (fun x6 V7 => ?_)
    refine s_if_eq (tgt := 35) (q := 15) C dX8_odds_12 (by decide) rfl (fun c8 => ?_) (fun c8 => ?_)
    · refine s_aload_n (q := 36) C 0 dX8_odds_35 rfl rfl rfl ?_
      refine s_ldc (q := 38) (v := (-1000000001)) C dX8_odds_36 rfl kX8_48 ?_
      refine s_Vi (q := 41) (As := [.int (-1000000001)]) (st := []) C (uX8_errs l G hG V7 (-1000000001)) yvX8_errs mlX8_49 (s80 hG) rfl rfl rfl rfl rfl rfl (gR_le (by decide) (by decide)) (Nat.le_of_ble_eq_true rfl) dX8_odds_38 rfl (fun x9 V10 => ?_)
      exact s_iret C E dX8_odds_41
    · refine s_iload_n (q := 16) C 3 dX8_odds_15 rfl rfl rfl ?_
      refine s_iconst (q := 17) (v := 0) C dX8_odds_16 rfl (by decide) ?_
      refine s_bipush (q := 19) (v := 99) C dX8_odds_17 rfl (by decide) ?_
      refine s_Si (q := 22) (As := [.int a3, .int 0, .int 99]) (st := []) C (uX8_in l G hG V7 a3 0 99) ysX8_in mlX8_44 rfl rfl rfl rfl (gR_le (by decide) (by decide)) (Nat.le_of_ble_eq_true rfl) dX8_odds_19 rfl (fun x11 V12 => ?_)
      refine s_if_eq (tgt := 35) (q := 25) C dX8_odds_22 (by decide) rfl (fun c13 => ?_) (fun c13 => ?_)
      · refine s_aload_n (q := 36) C 0 dX8_odds_35 rfl rfl rfl ?_
        refine s_ldc (q := 38) (v := (-1000000001)) C dX8_odds_36 rfl kX8_48 ?_
        refine s_Vi (q := 41) (As := [.int (-1000000001)]) (st := []) C (uX8_errs l G hG V12 (-1000000001)) yvX8_errs mlX8_49 (s80 hG) rfl rfl rfl rfl rfl rfl (gR_le (by decide) (by decide)) (Nat.le_of_ble_eq_true rfl) dX8_odds_38 rfl (fun x14 V15 => ?_)
        exact s_iret C E dX8_odds_41
      · refine s_iload (q := 27) C 4 dX8_odds_25 rfl rfl ?_
        refine s_iconst (q := 28) (v := 0) C dX8_odds_27 rfl (by decide) ?_
        refine s_iconst (q := 29) (v := 1) C dX8_odds_28 rfl (by decide) ?_
        refine s_Si (q := 32) (As := [.int a4, .int 0, .int 1]) (st := []) C (uX8_in l G hG V12 a4 0 1) ysX8_in mlX8_44 rfl rfl rfl rfl (gR_le (by decide) (by decide)) (Nat.le_of_ble_eq_true rfl) dX8_odds_29 rfl (fun x16 V17 => ?_)
        refine s_if_ne (tgt := 42) (q := 35) C dX8_odds_32 (by decide) rfl (fun c18 => ?_) (fun c18 => ?_)
        · refine s_aload_n (q := 36) C 0 dX8_odds_35 rfl rfl rfl ?_
          refine s_ldc (q := 38) (v := (-1000000001)) C dX8_odds_36 rfl kX8_48 ?_
          refine s_Vi (q := 41) (As := [.int (-1000000001)]) (st := []) C (uX8_errs l G hG V17 (-1000000001)) yvX8_errs mlX8_49 (s80 hG) rfl rfl rfl rfl rfl rfl (gR_le (by decide) (by decide)) (Nat.le_of_ble_eq_true rfl) dX8_odds_38 rfl (fun x40 V41 => ?_)
          exact s_iret C E dX8_odds_41
        · refine s_iconst (q := 43) (v := 0) C dX8_odds_42 rfl (by decide) ?_
          refine s_istore (q := 45) (L' := [(5, .int 0), (0, .ref (G.1 0)), (1, .int a1), (2, .int a2), (3, .int a3), (4, .int a4)]) C dX8_odds_43 rfl (by decide) rfl ?_
          refine s_aload_n (q := 46) C 1 dX8_odds_45 rfl rfl rfl ?_
          refine s_aload_n (q := 47) C 1 dX8_odds_46 rfl rfl rfl ?_
          refine geX8_0 (q := 50) C (s80 hG) flX8_7 dX8_odds_47 rfl ?_
          refine s_aload_n (q := 51) C 1 dX8_odds_50 rfl rfl rfl ?_
          refine geX8_2 (q := 54) C (s80 hG) flX8_16 dX8_odds_51 rfl ?_
          refine s_Vv (q := 57) (As := [.ref (G.1 (0 + 1)), .ref (G.1 (0 + 3))]) (st := []) C (uX8_moveAll l G hG V17 (0 + 1) 264 (0 + 3) 264 (qX8_0 hG) (qX8_2 hG) (mX8_2 hG)) yvX8_moveAll mlX8_171 (s80 hG) rfl rfl rfl rfl rfl rfl (gR_le (by decide) (by decide)) (Nat.le_of_ble_eq_true rfl) dX8_odds_54 rfl (fun V19 => ?_)
          refine s_iconst (q := 58) (v := 0) C dX8_odds_57 rfl (by decide) ?_
          refine s_istore (q := 60) (L' := [(6, .int 0), (5, .int 0), (0, .ref (G.1 0)), (1, .int a1), (2, .int a2), (3, .int a3), (4, .int a4)]) C dX8_odds_58 rfl (by decide) rfl ?_
          have hL1 : ∀ (n : Nat) (V20 : gV) (x21 : Int32) (x22 : Int32), gSm l (gR 71 1683) 7 G X (fX8_odds_L1 a1 a2 a3 a4 n V20 x21 x22) (rr, VV) V20 60 [(0, .ref (G.1 0)), (1, .int a1), (2, .int a2), (3, .int a3), (4, .int a4), (5, .int x21), (6, .int x22)] [] := by
            intro n
            induction n with
            | zero => exact fun V20 x21 x22 => s_none
            | succ n ih =>
              intro V20 x21 x22
              show gSm l (gR 71 1683) 7 G X (fX8_odds_L1b a1 a2 a3 a4 (fX8_odds_L1 a1 a2 a3 a4 n) V20 x21 x22) (rr, VV) V20 60 [(0, .ref (G.1 0)), (1, .int a1), (2, .int a2), (3, .int a3), (4, .int a4), (5, .int x21), (6, .int x22)] []
              generalize fX8_odds_L1 a1 a2 a3 a4 n = B23 at ih ⊢
              have hB23 := ih
              unfold fX8_odds_L1b
              refine s_iload (q := 62) C 6 dX8_odds_60 rfl rfl ?_
              refine s_bipush (q := 64) (v := 9) C dX8_odds_62 rfl (by decide) ?_
              refine s_icmp_gt (tgt := 127) (q := 67) C dX8_odds_64 (by decide) rfl (fun c24 => ?_) (fun c24 => ?_)
              · refine s_iload (q := 129) C 5 dX8_odds_127 rfl rfl ?_
                refine s_bipush (q := 131) (v := 10) C dX8_odds_129 rfl (by decide) ?_
                refine s_Si (q := 134) (As := [.int x21, .int 10]) (st := []) C (uX8_divisor l G hG V20 x21 10) ysX8_divisor mlX8_215 rfl rfl rfl rfl (gR_le (by decide) (by decide)) (Nat.le_of_ble_eq_true rfl) dX8_odds_131 rfl (fun x25 V26 => ?_)
                refine s_istore (q := 136) (L' := [(6, .int x25), (0, .ref (G.1 0)), (1, .int a1), (2, .int a2), (3, .int a3), (4, .int a4), (5, .int x21)]) C dX8_odds_134 rfl (by decide) rfl ?_
                refine s_iload (q := 138) C 5 dX8_odds_136 rfl rfl ?_
                refine s_if_ne (tgt := 149) (q := 141) C dX8_odds_138 (by decide) rfl (fun c27 => ?_) (fun c27 => ?_)
                · refine s_iload (q := 143) C 6 dX8_odds_141 rfl rfl ?_
                  refine s_iload (q := 145) C 0 dX8_odds_143 rfl rfl ?_
                  refine s_idiv (q := 146) C dX8_odds_145 rfl ?_
                  refine s_goto (q := 154) C dX8_odds_146 (by decide) ?_
                  exact s_iret C E dX8_odds_154
                · refine s_bipush (q := 151) (v := 10) C dX8_odds_149 rfl (by decide) ?_
                  refine s_iload (q := 153) C 0 dX8_odds_151 rfl rfl ?_
                  refine s_idiv (q := 154) C dX8_odds_153 rfl ?_
                  exact s_iret C E dX8_odds_154
              · refine s_aload_n (q := 68) C 0 dX8_odds_67 rfl rfl rfl ?_
                refine geX8_0 (q := 71) C (s80 hG) flX8_7 dX8_odds_68 rfl ?_
                refine s_bipush (q := 73) (v := 8) C dX8_odds_71 rfl (by decide) ?_
                refine s_iconst (q := 74) (v := 2) C dX8_odds_73 rfl (by decide) ?_
                refine s_iload_n (q := 75) C 2 dX8_odds_74 rfl rfl rfl ?_
                refine s_imul (q := 76) C dX8_odds_75 rfl ?_
                refine s_iadd (q := 77) C dX8_odds_76 rfl ?_
                refine s_iconst (q := 78) (v := 1) C dX8_odds_77 rfl (by decide) ?_
                refine s_iadd (q := 79) C dX8_odds_78 rfl ?_
                refine s_iload (q := 81) C 6 dX8_odds_79 rfl rfl ?_
                refine s_iast (q := 82) C (qX8_0 hG) (mX8_0 hG) dX8_odds_81 rfl (fun V28 => ?_)
                refine s_aload_n (q := 83) C 0 dX8_odds_82 rfl rfl rfl ?_
                refine s_iload_n (q := 84) C 3 dX8_odds_83 rfl rfl rfl ?_
                refine s_Vv (q := 87) (As := [.int a3]) (st := []) C (uX8_passes l G hG V28 a3) yvX8_passes mlX8_178 (s80 hG) rfl rfl rfl rfl rfl rfl (gR_le (by decide) (by decide)) (Nat.le_of_ble_eq_true rfl) dX8_odds_84 rfl (fun V29 => ?_)
                refine s_iload (q := 89) C 5 dX8_odds_87 rfl rfl ?_
                refine s_aload_n (q := 90) C 0 dX8_odds_89 rfl rfl rfl ?_
                refine s_iload_n (q := 91) C 2 dX8_odds_90 rfl rfl rfl ?_
                refine s_Vi (q := 94) (As := [.int a2]) (st := [.int x21]) C (uX8_guestsIn l G hG V29 a2) yvX8_guestsIn mlX8_68 (s80 hG) rfl rfl rfl rfl rfl rfl (gR_le (by decide) (by decide)) (Nat.le_of_ble_eq_true rfl) dX8_odds_91 rfl (fun x30 V31 => ?_)
                refine s_iload_n (q := 95) C 1 dX8_odds_94 rfl rfl rfl ?_
                refine s_Si (q := 98) (As := [.int x30, .int a1]) (st := [.int x21]) C (uX8_has l G hG V31 x30 a1) ysX8_has mlX8_189 rfl rfl rfl rfl (gR_le (by decide) (by decide)) (Nat.le_of_ble_eq_true rfl) dX8_odds_95 rfl (fun x32 V33 => ?_)
                refine s_jn (fun J36 => ∀ (x35 : Int32), gSm l (gR 71 1683) 7 G X (J36 x35) (rr, VV) V33 106 [(0, .ref (G.1 0)), (1, .int a1), (2, .int a2), (3, .int a3), (4, .int a4), (6, .int x22)] [.int x35, .int x21]) ?_ (fun J36 hJ36 => ?_)
                · intro x35
                  refine s_iadd (q := 107) C dX8_odds_106 rfl ?_
                  refine s_lt (fun x37 => ?_)
                  refine s_istore (q := 109) (L' := [(5, .int x37), (0, .ref (G.1 0)), (1, .int a1), (2, .int a2), (3, .int a3), (4, .int a4), (6, .int x22)]) C dX8_odds_107 rfl (by decide) rfl ?_
                  refine s_aload_n (q := 110) C 1 dX8_odds_109 rfl rfl rfl ?_
                  refine s_aload_n (q := 111) C 1 dX8_odds_110 rfl rfl rfl ?_
                  refine geX8_2 (q := 114) C (s80 hG) flX8_16 dX8_odds_111 rfl ?_
                  refine s_aload_n (q := 115) C 1 dX8_odds_114 rfl rfl rfl ?_
                  refine geX8_0 (q := 118) C (s80 hG) flX8_7 dX8_odds_115 rfl ?_
                  refine s_Vv (q := 121) (As := [.ref (G.1 (0 + 3)), .ref (G.1 (0 + 1))]) (st := []) C (uX8_moveAll l G hG V33 (0 + 3) 264 (0 + 1) 264 (qX8_2 hG) (qX8_0 hG) (mX8_0 hG)) yvX8_moveAll mlX8_171 (s80 hG) rfl rfl rfl rfl rfl rfl (gR_le (by decide) (by decide)) (Nat.le_of_ble_eq_true rfl) dX8_odds_118 rfl (fun V38 => ?_)
                  refine s_iinc (q := 124) (w := 1) (L' := [(6, .int (x22 + 1)), (5, .int x37), (0, .ref (G.1 0)), (1, .int a1), (2, .int a2), (3, .int a3), (4, .int a4)]) C 6 dX8_odds_121 rfl rfl (by decide) rfl (by decide) rfl ?_
                  refine s_goto (q := 60) C dX8_odds_124 (by decide) ?_
                  refine s_sub [2, 3, 4, 5, 6, 1, 0] rfl ?_
                  exact hB23 V38 x37 ((x22 + 1))
                · refine s_if_eq (tgt := 105) (q := 101) C dX8_odds_98 (by decide) rfl (fun c39 => ?_) (fun c39 => ?_)
                  · refine s_iconst (q := 106) (v := 0) C dX8_odds_105 rfl (by decide) ?_
                    refine s_sub [0, 1, 2, 3, 4, 6] rfl ?_
                    exact hJ36 0
                  · refine s_iconst (q := 102) (v := 1) C dX8_odds_101 rfl (by decide) ?_
                    refine s_goto (q := 106) C dX8_odds_102 (by decide) ?_
                    refine s_sub [0, 1, 2, 3, 4, 6] rfl ?_
                    exact hJ36 1
          refine s_sub [2, 3, 4, 5, 6, 1, 0] rfl ?_
          exact hL1 gFu V19 0 0
noncomputable def fX8_seed (V : gV) (a1 : Int32) : Option (Int32 × gV) := gal V (0 + 1) 1 264 fun (x1 : Int32) => gas V (0 + 1) 1 264 a1 fun (V2 : gV) => some (x1, V2)
set_option maxHeartbeats 4000000 in
set_option maxRecDepth 100000 in
theorem uX8_seed (l : Launch) (G : gG) (hG : gIsM G) (V : gV) (a1 : Int32) : gMi l G yX8_seed cX8_seed 3 Jvm.ClassFile.FieldType.int (gR 0 0) [.ref (G.1 0), .int a1] V (fX8_seed V a1) := by
  unfold fX8_seed
  refine gM_i (by decide +kernel) rfl rfl (Nat.le_of_ble_eq_true rfl) (fun X rr VV C E => ?_)
  change gC cX8_seed 3 RX8 G X at C
  change gSm l (gR 0 0) 3 G X _ (rr, VV) V 0 [(0, .ref (G.1 0)), (1, .int a1)] []
  refine s_aload_n (q := 1) C 0 dX8_seed_0 rfl rfl rfl ?_
  refine geX8_0 (q := 4) C (s80 hG) flX8_7 dX8_seed_1 rfl ?_
  refine s_iconst (q := 5) (v := 1) C dX8_seed_4 rfl (by decide) ?_
  refine s_iald (q := 6) C (qX8_0 hG) dX8_seed_5 rfl (fun x1 => ?_)
  refine s_istore_n (q := 7) (L' := [(2, .int x1), (0, .ref (G.1 0)), (1, .int a1)]) C dX8_seed_6 rfl rfl (by decide) rfl ?_
  refine s_aload_n (q := 8) C 1 dX8_seed_7 rfl rfl rfl ?_
  refine geX8_0 (q := 11) C (s80 hG) flX8_7 dX8_seed_8 rfl ?_
  refine s_iconst (q := 12) (v := 1) C dX8_seed_11 rfl (by decide) ?_
  refine s_iload_n (q := 13) C 2 dX8_seed_12 rfl rfl rfl ?_
  refine s_iast (q := 14) C (qX8_0 hG) (mX8_0 hG) dX8_seed_13 rfl (fun V2 => ?_)
  refine s_iload_n (q := 15) C 0 dX8_seed_14 rfl rfl rfl ?_
  exact s_iret C E dX8_seed_15
noncomputable def fX8_ran (V : gV) (a1 : Int32) : Option gV := if 40 ≤ (V 0 21) then (some V) else (gas V (0 + 11) (V 0 21) 40 a1 fun (V2 : gV) => gpu V2 0 21 ((V2 0 21) + 1) fun (V3 : gV) => some V3)
set_option maxHeartbeats 4000000 in
set_option maxRecDepth 100000 in
theorem uX8_ran (l : Launch) (G : gG) (hG : gIsM G) (V : gV) (a1 : Int32) : gMv l G yX8_ran cX8_ran 2 (gR 0 0) [.ref (G.1 0), .int a1] V (fX8_ran V a1) := by
  unfold fX8_ran
  refine gM_v (by decide +kernel) rfl rfl (Nat.le_of_ble_eq_true rfl) (fun X VV C E => ?_)
  change gC cX8_ran 2 RX8 G X at C
  change gSm l (gR 0 0) 2 G X _ VV V 0 [(0, .ref (G.1 0)), (1, .int a1)] []
  refine s_aload_n (q := 1) C 0 dX8_ran_0 rfl rfl rfl ?_
  refine geX8_21 (q := 4) C (s80 hG) flX8_218 dX8_ran_1 rfl ?_
  refine s_bipush (q := 6) (v := 40) C dX8_ran_4 rfl (by decide) ?_
  refine s_icmp_ge (tgt := 29) (q := 9) C dX8_ran_6 (by decide) rfl (fun c1 => ?_) (fun c1 => ?_)
  · exact s_vret C E dX8_ran_29
  · refine s_aload_n (q := 10) C 0 dX8_ran_9 rfl rfl rfl ?_
    refine geX8_20 (q := 13) C (s80 hG) flX8_40 dX8_ran_10 rfl ?_
    refine s_aload_n (q := 14) C 0 dX8_ran_13 rfl rfl rfl ?_
    refine geX8_21 (q := 17) C (s80 hG) flX8_218 dX8_ran_14 rfl ?_
    refine s_iload_n (q := 18) C 1 dX8_ran_17 rfl rfl rfl ?_
    refine s_iast (q := 19) C (qX8_20 hG) (mX8_20 hG) dX8_ran_18 rfl (fun V2 => ?_)
    refine s_aload_n (q := 20) C 0 dX8_ran_19 rfl rfl rfl ?_
    refine s_dup (q := 21) C dX8_ran_20 rfl rfl ?_
    refine geX8_21 (q := 24) C (s80 hG) flX8_218 dX8_ran_21 rfl ?_
    refine s_iconst (q := 25) (v := 1) C dX8_ran_24 rfl (by decide) ?_
    refine s_iadd (q := 26) C dX8_ran_25 rfl ?_
    refine peX8_21 (q := 29) C (s80 hG) flX8_218 dX8_ran_26 rfl (fun V3 => ?_)
    exact s_vret C E dX8_ran_29
noncomputable def fX8_lathersIn_B (rc : Nat → gV → Int32 → Int32 → Option (Int32 × gV)) (V : gV) (a1 : Int32) (a2 : Int32) : Option (Int32 × gV) := if a1 = 0 then (gbv (fX8_ran V 10) fun (V10 : gV) => some ((a2 + (V10 0 23)), V10)) else (if a1 = 1 then (gbv (fX8_ran V 20) fun (V7 : gV) => gbi (rc 0 V7 0 a2) fun (x8 : Int32) (V9 : gV) => some ((x8 * 3), V9)) else (gbi (fX8_above V a1) fun (x3 : Int32) (V4 : gV) => gbi (rc 0 V4 x3 a2) fun (x5 : Int32) (V6 : gV) => some (x5, V6)))
noncomputable def flaX8 : Nat → Nat → gV → Int32 → Int32 → Option (Int32 × gV)
  | 0 => fun _ _ _ _ => none
  | d + 1 => fun t V a0 a1 => match t with
    | _ => fX8_lathersIn_B (flaX8 d) V a0 a1
set_option maxHeartbeats 8000000 in
set_option maxRecDepth 100000 in
theorem ulaX8 (l : Launch) (G : gG) (hG : gIsM G) : ∀ (d : Nat), (∀ (V : gV) (a1 : Int32) (a2 : Int32), gMi l G yX8_lathersIn cX8_lathersIn 3 Jvm.ClassFile.FieldType.int (gR (1 + 1 * d) (21 + 22 * d)) [.ref (G.1 0), .int a1, .int a2] V (flaX8 d 0 V a1 a2)) := by
  intro d
  induction d with
  | zero => exact by intros; intro _; intros; contradiction
  | succ d ih =>
    have hrc0 := ih
    intro V a1 a2
    show gMi l G yX8_lathersIn cX8_lathersIn 3 Jvm.ClassFile.FieldType.int (gR (1 + 1 * (d + 1)) (21 + 22 * (d + 1))) [.ref (G.1 0), .int a1, .int a2] V (fX8_lathersIn_B (flaX8 d) V a1 a2)
    generalize flaX8 d = rc at hrc0 ⊢
    unfold fX8_lathersIn_B
    refine gM_i (by decide +kernel) rfl rfl (Nat.le_of_ble_eq_true rfl) (fun X rr VV C E => ?_)
    change gC cX8_lathersIn 3 RX8 G X at C
    change gSm l (gR (1 + 1 * (d + 1)) (21 + 22 * (d + 1))) 3 G X _ (rr, VV) V 0 [(0, .ref (G.1 0)), (1, .int a1), (2, .int a2)] []
    refine s_iload_n (q := 1) C 1 dX8_lathersIn_0 rfl rfl rfl ?_
    refine s_if_ne (tgt := 17) (q := 4) C dX8_lathersIn_1 (by decide) rfl (fun c1 => ?_) (fun c1 => ?_)
    · refine s_aload_n (q := 5) C 0 dX8_lathersIn_4 rfl rfl rfl ?_
      refine s_bipush (q := 7) (v := 10) C dX8_lathersIn_5 rfl (by decide) ?_
      refine s_Vv (q := 10) (As := [.int 10]) (st := []) C (uX8_ran l G hG V 10) yvX8_ran mlX8_221 (s80 hG) rfl rfl rfl rfl rfl rfl (gR_le (by omega) (by omega)) (Nat.le_of_ble_eq_true rfl) dX8_lathersIn_7 rfl (fun V10 => ?_)
      refine s_iload_n (q := 11) C 2 dX8_lathersIn_10 rfl rfl rfl ?_
      refine s_aload_n (q := 12) C 0 dX8_lathersIn_11 rfl rfl rfl ?_
      refine geX8_23 (q := 15) C (s80 hG) flX8_224 dX8_lathersIn_12 rfl ?_
      refine s_iadd (q := 16) C dX8_lathersIn_15 rfl ?_
      exact s_iret C E dX8_lathersIn_16
    · refine s_iload_n (q := 18) C 1 dX8_lathersIn_17 rfl rfl rfl ?_
      refine s_iconst (q := 19) (v := 1) C dX8_lathersIn_18 rfl (by decide) ?_
      refine s_icmp_ne (tgt := 37) (q := 22) C dX8_lathersIn_19 (by decide) rfl (fun c2 => ?_) (fun c2 => ?_)
      · refine s_aload_n (q := 23) C 0 dX8_lathersIn_22 rfl rfl rfl ?_
        refine s_bipush (q := 25) (v := 20) C dX8_lathersIn_23 rfl (by decide) ?_
        refine s_Vv (q := 28) (As := [.int 20]) (st := []) C (uX8_ran l G hG V 20) yvX8_ran mlX8_221 (s80 hG) rfl rfl rfl rfl rfl rfl (gR_le (by omega) (by omega)) (Nat.le_of_ble_eq_true rfl) dX8_lathersIn_25 rfl (fun V7 => ?_)
        refine s_aload_n (q := 29) C 0 dX8_lathersIn_28 rfl rfl rfl ?_
        refine s_iconst (q := 30) (v := 0) C dX8_lathersIn_29 rfl (by decide) ?_
        refine s_iload_n (q := 31) C 2 dX8_lathersIn_30 rfl rfl rfl ?_
        refine s_Vi (q := 34) (As := [.int 0, .int a2]) (st := []) C (hrc0 V7 0 a2) yvX8_lathersIn mlX8_227 (s80 hG) rfl rfl rfl rfl rfl rfl (gR_le (by omega) (by omega)) (Nat.le_of_ble_eq_true rfl) dX8_lathersIn_31 rfl (fun x8 V9 => ?_)
        refine s_iconst (q := 35) (v := 3) C dX8_lathersIn_34 rfl (by decide) ?_
        refine s_imul (q := 36) C dX8_lathersIn_35 rfl ?_
        exact s_iret C E dX8_lathersIn_36
      · refine s_aload_n (q := 38) C 0 dX8_lathersIn_37 rfl rfl rfl ?_
        refine s_iload_n (q := 39) C 1 dX8_lathersIn_38 rfl rfl rfl ?_
        refine s_Si (q := 42) (As := [.int a1]) (st := [.ref (G.1 0)]) C (uX8_above l G hG V a1) ysX8_above mlX8_94 rfl rfl rfl rfl (gR_le (by omega) (by omega)) (Nat.le_of_ble_eq_true rfl) dX8_lathersIn_39 rfl (fun x3 V4 => ?_)
        refine s_iload_n (q := 43) C 2 dX8_lathersIn_42 rfl rfl rfl ?_
        refine s_Vi (q := 46) (As := [.int x3, .int a2]) (st := []) C (hrc0 V4 x3 a2) yvX8_lathersIn mlX8_227 (s80 hG) rfl rfl rfl rfl rfl rfl (gR_le (by omega) (by omega)) (Nat.le_of_ble_eq_true rfl) dX8_lathersIn_43 rfl (fun x5 V6 => ?_)
        exact s_iret C E dX8_lathersIn_46
theorem uX8_lathersIn (l : Launch) (G : gG) (hG : gIsM G) (d : Nat) (V : gV) (a1 : Int32) (a2 : Int32) : gMi l G yX8_lathersIn cX8_lathersIn 3 Jvm.ClassFile.FieldType.int (gR (1 + 1 * d) (21 + 22 * d)) [.ref (G.1 0), .int a1, .int a2] V (flaX8 d 0 V a1 a2) := (ulaX8 l G hG d) V a1 a2
noncomputable def fX8_showsIn_B (rc : Nat → gV → Int32 → Int32 → Option (Int32 × gV)) (V : gV) (a1 : Int32) (a2 : Int32) : Option (Int32 × gV) := if a1 = 0 then (gbv (fX8_ran V 12) fun (V14 : gV) => some ((a2 - (V14 0 24)), V14)) else (if a1 = 3 then (gbv (fX8_ran V 40) fun (V11 : gV) => gbi (rc 0 V11 0 a2) fun (x12 : Int32) (V13 : gV) => some ((-x12), V13)) else (if a1 = 6 then (gbv (fX8_ran V 70) fun (V8 : gV) => gbi (rc 0 V8 3 a2) fun (x9 : Int32) (V10 : gV) => some ((x9 ^^^ (V10 0 23)), V10)) else (gbi (fX8_above V a1) fun (x4 : Int32) (V5 : gV) => gbi (rc 0 V5 x4 a2) fun (x6 : Int32) (V7 : gV) => some (x6, V7))))
noncomputable def fshX8 : Nat → Nat → gV → Int32 → Int32 → Option (Int32 × gV)
  | 0 => fun _ _ _ _ => none
  | d + 1 => fun t V a0 a1 => match t with
    | _ => fX8_showsIn_B (fshX8 d) V a0 a1
set_option maxHeartbeats 8000000 in
set_option maxRecDepth 100000 in
theorem ushX8 (l : Launch) (G : gG) (hG : gIsM G) : ∀ (d : Nat), (∀ (V : gV) (a1 : Int32) (a2 : Int32), gMi l G yX8_showsIn cX8_showsIn 3 Jvm.ClassFile.FieldType.int (gR (1 + 1 * d) (21 + 22 * d)) [.ref (G.1 0), .int a1, .int a2] V (fshX8 d 0 V a1 a2)) := by
  intro d
  induction d with
  | zero => exact by intros; intro _; intros; contradiction
  | succ d ih =>
    have hrc0 := ih
    intro V a1 a2
    show gMi l G yX8_showsIn cX8_showsIn 3 Jvm.ClassFile.FieldType.int (gR (1 + 1 * (d + 1)) (21 + 22 * (d + 1))) [.ref (G.1 0), .int a1, .int a2] V (fX8_showsIn_B (fshX8 d) V a1 a2)
    generalize fshX8 d = rc at hrc0 ⊢
    unfold fX8_showsIn_B
    refine gM_i (by decide +kernel) rfl rfl (Nat.le_of_ble_eq_true rfl) (fun X rr VV C E => ?_)
    change gC cX8_showsIn 3 RX8 G X at C
    change gSm l (gR (1 + 1 * (d + 1)) (21 + 22 * (d + 1))) 3 G X _ (rr, VV) V 0 [(0, .ref (G.1 0)), (1, .int a1), (2, .int a2)] []
    refine s_iload_n (q := 1) C 1 dX8_showsIn_0 rfl rfl rfl ?_
    refine s_if_ne (tgt := 17) (q := 4) C dX8_showsIn_1 (by decide) rfl (fun c1 => ?_) (fun c1 => ?_)
    · refine s_aload_n (q := 5) C 0 dX8_showsIn_4 rfl rfl rfl ?_
      refine s_bipush (q := 7) (v := 12) C dX8_showsIn_5 rfl (by decide) ?_
      refine s_Vv (q := 10) (As := [.int 12]) (st := []) C (uX8_ran l G hG V 12) yvX8_ran mlX8_221 (s80 hG) rfl rfl rfl rfl rfl rfl (gR_le (by omega) (by omega)) (Nat.le_of_ble_eq_true rfl) dX8_showsIn_7 rfl (fun V14 => ?_)
      refine s_iload_n (q := 11) C 2 dX8_showsIn_10 rfl rfl rfl ?_
      refine s_aload_n (q := 12) C 0 dX8_showsIn_11 rfl rfl rfl ?_
      refine geX8_24 (q := 15) C (s80 hG) flX8_230 dX8_showsIn_12 rfl ?_
      refine s_isub (q := 16) C dX8_showsIn_15 rfl ?_
      exact s_iret C E dX8_showsIn_16
    · refine s_iload_n (q := 18) C 1 dX8_showsIn_17 rfl rfl rfl ?_
      refine s_iconst (q := 19) (v := 3) C dX8_showsIn_18 rfl (by decide) ?_
      refine s_icmp_ne (tgt := 36) (q := 22) C dX8_showsIn_19 (by decide) rfl (fun c2 => ?_) (fun c2 => ?_)
      · refine s_aload_n (q := 23) C 0 dX8_showsIn_22 rfl rfl rfl ?_
        refine s_bipush (q := 25) (v := 40) C dX8_showsIn_23 rfl (by decide) ?_
        refine s_Vv (q := 28) (As := [.int 40]) (st := []) C (uX8_ran l G hG V 40) yvX8_ran mlX8_221 (s80 hG) rfl rfl rfl rfl rfl rfl (gR_le (by omega) (by omega)) (Nat.le_of_ble_eq_true rfl) dX8_showsIn_25 rfl (fun V11 => ?_)
        refine s_aload_n (q := 29) C 0 dX8_showsIn_28 rfl rfl rfl ?_
        refine s_iconst (q := 30) (v := 0) C dX8_showsIn_29 rfl (by decide) ?_
        refine s_iload_n (q := 31) C 2 dX8_showsIn_30 rfl rfl rfl ?_
        refine s_Vi (q := 34) (As := [.int 0, .int a2]) (st := []) C (hrc0 V11 0 a2) yvX8_showsIn mlX8_233 (s80 hG) rfl rfl rfl rfl rfl rfl (gR_le (by omega) (by omega)) (Nat.le_of_ble_eq_true rfl) dX8_showsIn_31 rfl (fun x12 V13 => ?_)
        refine s_ineg (q := 35) C dX8_showsIn_34 rfl ?_
        exact s_iret C E dX8_showsIn_35
      · refine s_iload_n (q := 37) C 1 dX8_showsIn_36 rfl rfl rfl ?_
        refine s_bipush (q := 39) (v := 6) C dX8_showsIn_37 rfl (by decide) ?_
        refine s_icmp_ne (tgt := 60) (q := 42) C dX8_showsIn_39 (by decide) rfl (fun c3 => ?_) (fun c3 => ?_)
        · refine s_aload_n (q := 43) C 0 dX8_showsIn_42 rfl rfl rfl ?_
          refine s_bipush (q := 45) (v := 70) C dX8_showsIn_43 rfl (by decide) ?_
          refine s_Vv (q := 48) (As := [.int 70]) (st := []) C (uX8_ran l G hG V 70) yvX8_ran mlX8_221 (s80 hG) rfl rfl rfl rfl rfl rfl (gR_le (by omega) (by omega)) (Nat.le_of_ble_eq_true rfl) dX8_showsIn_45 rfl (fun V8 => ?_)
          refine s_aload_n (q := 49) C 0 dX8_showsIn_48 rfl rfl rfl ?_
          refine s_iconst (q := 50) (v := 3) C dX8_showsIn_49 rfl (by decide) ?_
          refine s_iload_n (q := 51) C 2 dX8_showsIn_50 rfl rfl rfl ?_
          refine s_Vi (q := 54) (As := [.int 3, .int a2]) (st := []) C (hrc0 V8 3 a2) yvX8_showsIn mlX8_233 (s80 hG) rfl rfl rfl rfl rfl rfl (gR_le (by omega) (by omega)) (Nat.le_of_ble_eq_true rfl) dX8_showsIn_51 rfl (fun x9 V10 => ?_)
          refine s_aload_n (q := 55) C 0 dX8_showsIn_54 rfl rfl rfl ?_
          refine geX8_23 (q := 58) C (s80 hG) flX8_224 dX8_showsIn_55 rfl ?_
          refine s_ixor (q := 59) C dX8_showsIn_58 rfl ?_
          exact s_iret C E dX8_showsIn_59
        · refine s_aload_n (q := 61) C 0 dX8_showsIn_60 rfl rfl rfl ?_
          refine s_iload_n (q := 62) C 1 dX8_showsIn_61 rfl rfl rfl ?_
          refine s_Si (q := 65) (As := [.int a1]) (st := [.ref (G.1 0)]) C (uX8_above l G hG V a1) ysX8_above mlX8_94 rfl rfl rfl rfl (gR_le (by omega) (by omega)) (Nat.le_of_ble_eq_true rfl) dX8_showsIn_62 rfl (fun x4 V5 => ?_)
          refine s_iload_n (q := 66) C 2 dX8_showsIn_65 rfl rfl rfl ?_
          refine s_Vi (q := 69) (As := [.int x4, .int a2]) (st := []) C (hrc0 V5 x4 a2) yvX8_showsIn mlX8_233 (s80 hG) rfl rfl rfl rfl rfl rfl (gR_le (by omega) (by omega)) (Nat.le_of_ble_eq_true rfl) dX8_showsIn_66 rfl (fun x6 V7 => ?_)
          exact s_iret C E dX8_showsIn_69
theorem uX8_showsIn (l : Launch) (G : gG) (hG : gIsM G) (d : Nat) (V : gV) (a1 : Int32) (a2 : Int32) : gMi l G yX8_showsIn cX8_showsIn 3 Jvm.ClassFile.FieldType.int (gR (1 + 1 * d) (21 + 22 * d)) [.ref (G.1 0), .int a1, .int a2] V (fshX8 d 0 V a1 a2) := (ushX8 l G hG d) V a1 a2
noncomputable def fX8_wearsIn_B (rc : Nat → gV → Int32 → Int32 → Option (Int32 × gV)) (V : gV) (a1 : Int32) (a2 : Int32) : Option (Int32 × gV) := if a1 = 0 then (gbv (fX8_ran V 11) fun (V16 : gV) => gbi (flaX8 8 0 V16 (V16 0 22) a2) fun (x17 : Int32) (V18 : gV) => some ((x17 * 2), V18)) else (if a1 = 2 then (gbv (fX8_ran V 30) fun (V11 : gV) => gbi (rc 0 V11 0 a2) fun (x12 : Int32) (V13 : gV) => gbi (fshX8 8 0 V13 (V13 0 22) 1) fun (x14 : Int32) (V15 : gV) => some ((x12 - x14), V15)) else (if a1 = 5 then (gbv (fX8_ran V 60) fun (V8 : gV) => gbi (rc 0 V8 2 (a2 + 1)) fun (x9 : Int32) (V10 : gV) => some (x9, V10)) else (gbi (fX8_above V a1) fun (x4 : Int32) (V5 : gV) => gbi (rc 0 V5 x4 a2) fun (x6 : Int32) (V7 : gV) => some (x6, V7))))
noncomputable def fweX8 : Nat → Nat → gV → Int32 → Int32 → Option (Int32 × gV)
  | 0 => fun _ _ _ _ => none
  | d + 1 => fun t V a0 a1 => match t with
    | _ => fX8_wearsIn_B (fweX8 d) V a0 a1
set_option maxHeartbeats 8000000 in
set_option maxRecDepth 100000 in
theorem uweX8 (l : Launch) (G : gG) (hG : gIsM G) : ∀ (d : Nat), (∀ (V : gV) (a1 : Int32) (a2 : Int32), gMi l G yX8_wearsIn cX8_wearsIn 4 Jvm.ClassFile.FieldType.int (gR (10 + 1 * d) (219 + 23 * d)) [.ref (G.1 0), .int a1, .int a2] V (fweX8 d 0 V a1 a2)) := by
  intro d
  induction d with
  | zero => exact by intros; intro _; intros; contradiction
  | succ d ih =>
    have hrc0 := ih
    intro V a1 a2
    show gMi l G yX8_wearsIn cX8_wearsIn 4 Jvm.ClassFile.FieldType.int (gR (10 + 1 * (d + 1)) (219 + 23 * (d + 1))) [.ref (G.1 0), .int a1, .int a2] V (fX8_wearsIn_B (fweX8 d) V a1 a2)
    generalize fweX8 d = rc at hrc0 ⊢
    unfold fX8_wearsIn_B
    refine gM_i (by decide +kernel) rfl rfl (Nat.le_of_ble_eq_true rfl) (fun X rr VV C E => ?_)
    change gC cX8_wearsIn 4 RX8 G X at C
    change gSm l (gR (10 + 1 * (d + 1)) (219 + 23 * (d + 1))) 4 G X _ (rr, VV) V 0 [(0, .ref (G.1 0)), (1, .int a1), (2, .int a2)] []
    refine s_iload_n (q := 1) C 1 dX8_wearsIn_0 rfl rfl rfl ?_
    refine s_if_ne (tgt := 22) (q := 4) C dX8_wearsIn_1 (by decide) rfl (fun c1 => ?_) (fun c1 => ?_)
    · refine s_aload_n (q := 5) C 0 dX8_wearsIn_4 rfl rfl rfl ?_
      refine s_bipush (q := 7) (v := 11) C dX8_wearsIn_5 rfl (by decide) ?_
      refine s_Vv (q := 10) (As := [.int 11]) (st := []) C (uX8_ran l G hG V 11) yvX8_ran mlX8_221 (s80 hG) rfl rfl rfl rfl rfl rfl (gR_le (by omega) (by omega)) (Nat.le_of_ble_eq_true rfl) dX8_wearsIn_7 rfl (fun V16 => ?_)
      refine s_aload_n (q := 11) C 0 dX8_wearsIn_10 rfl rfl rfl ?_
      refine s_aload_n (q := 12) C 0 dX8_wearsIn_11 rfl rfl rfl ?_
      refine geX8_22 (q := 15) C (s80 hG) flX8_236 dX8_wearsIn_12 rfl ?_
      refine s_iload_n (q := 16) C 2 dX8_wearsIn_15 rfl rfl rfl ?_
      refine s_Vi (q := 19) (As := [.int (V16 0 22), .int a2]) (st := []) C (uX8_lathersIn l G hG 8 V16 (V16 0 22) a2) yvX8_lathersIn mlX8_227 (s80 hG) rfl rfl rfl rfl rfl rfl (gR_le (by omega) (by omega)) (Nat.le_of_ble_eq_true rfl) dX8_wearsIn_16 rfl (fun x17 V18 => ?_)
      refine s_iconst (q := 20) (v := 2) C dX8_wearsIn_19 rfl (by decide) ?_
      refine s_imul (q := 21) C dX8_wearsIn_20 rfl ?_
      exact s_iret C E dX8_wearsIn_21
    · refine s_iload_n (q := 23) C 1 dX8_wearsIn_22 rfl rfl rfl ?_
      refine s_iconst (q := 24) (v := 2) C dX8_wearsIn_23 rfl (by decide) ?_
      refine s_icmp_ne (tgt := 52) (q := 27) C dX8_wearsIn_24 (by decide) rfl (fun c2 => ?_) (fun c2 => ?_)
      · refine s_aload_n (q := 28) C 0 dX8_wearsIn_27 rfl rfl rfl ?_
        refine s_bipush (q := 30) (v := 30) C dX8_wearsIn_28 rfl (by decide) ?_
        refine s_Vv (q := 33) (As := [.int 30]) (st := []) C (uX8_ran l G hG V 30) yvX8_ran mlX8_221 (s80 hG) rfl rfl rfl rfl rfl rfl (gR_le (by omega) (by omega)) (Nat.le_of_ble_eq_true rfl) dX8_wearsIn_30 rfl (fun V11 => ?_)
        refine s_aload_n (q := 34) C 0 dX8_wearsIn_33 rfl rfl rfl ?_
        refine s_iconst (q := 35) (v := 0) C dX8_wearsIn_34 rfl (by decide) ?_
        refine s_iload_n (q := 36) C 2 dX8_wearsIn_35 rfl rfl rfl ?_
        refine s_Vi (q := 39) (As := [.int 0, .int a2]) (st := []) C (hrc0 V11 0 a2) yvX8_wearsIn mlX8_239 (s80 hG) rfl rfl rfl rfl rfl rfl (gR_le (by omega) (by omega)) (Nat.le_of_ble_eq_true rfl) dX8_wearsIn_36 rfl (fun x12 V13 => ?_)
        refine s_istore_n (q := 40) (L' := [(3, .int x12), (0, .ref (G.1 0)), (1, .int a1), (2, .int a2)]) C dX8_wearsIn_39 rfl rfl (by decide) rfl ?_
        refine s_iload_n (q := 41) C 0 dX8_wearsIn_40 rfl rfl rfl ?_
        refine s_aload_n (q := 42) C 1 dX8_wearsIn_41 rfl rfl rfl ?_
        refine s_aload_n (q := 43) C 1 dX8_wearsIn_42 rfl rfl rfl ?_
        refine geX8_22 (q := 46) C (s80 hG) flX8_236 dX8_wearsIn_43 rfl ?_
        refine s_iconst (q := 47) (v := 1) C dX8_wearsIn_46 rfl (by decide) ?_
        refine s_Vi (q := 50) (As := [.int (V13 0 22), .int 1]) (st := [.int x12]) C (uX8_showsIn l G hG 8 V13 (V13 0 22) 1) yvX8_showsIn mlX8_233 (s80 hG) rfl rfl rfl rfl rfl rfl (gR_le (by omega) (by omega)) (Nat.le_of_ble_eq_true rfl) dX8_wearsIn_47 rfl (fun x14 V15 => ?_)
        refine s_isub (q := 51) C dX8_wearsIn_50 rfl ?_
        exact s_iret C E dX8_wearsIn_51
      · refine s_iload_n (q := 53) C 1 dX8_wearsIn_52 rfl rfl rfl ?_
        refine s_iconst (q := 54) (v := 5) C dX8_wearsIn_53 rfl (by decide) ?_
        refine s_icmp_ne (tgt := 72) (q := 57) C dX8_wearsIn_54 (by decide) rfl (fun c3 => ?_) (fun c3 => ?_)
        · refine s_aload_n (q := 58) C 0 dX8_wearsIn_57 rfl rfl rfl ?_
          refine s_bipush (q := 60) (v := 60) C dX8_wearsIn_58 rfl (by decide) ?_
          refine s_Vv (q := 63) (As := [.int 60]) (st := []) C (uX8_ran l G hG V 60) yvX8_ran mlX8_221 (s80 hG) rfl rfl rfl rfl rfl rfl (gR_le (by omega) (by omega)) (Nat.le_of_ble_eq_true rfl) dX8_wearsIn_60 rfl (fun V8 => ?_)
          refine s_aload_n (q := 64) C 0 dX8_wearsIn_63 rfl rfl rfl ?_
          refine s_iconst (q := 65) (v := 2) C dX8_wearsIn_64 rfl (by decide) ?_
          refine s_iload_n (q := 66) C 2 dX8_wearsIn_65 rfl rfl rfl ?_
          refine s_iconst (q := 67) (v := 1) C dX8_wearsIn_66 rfl (by decide) ?_
          refine s_iadd (q := 68) C dX8_wearsIn_67 rfl ?_
          refine s_Vi (q := 71) (As := [.int 2, .int (a2 + 1)]) (st := []) C (hrc0 V8 2 (a2 + 1)) yvX8_wearsIn mlX8_239 (s80 hG) rfl rfl rfl rfl rfl rfl (gR_le (by omega) (by omega)) (Nat.le_of_ble_eq_true rfl) dX8_wearsIn_68 rfl (fun x9 V10 => ?_)
          exact s_iret C E dX8_wearsIn_71
        · refine s_aload_n (q := 73) C 0 dX8_wearsIn_72 rfl rfl rfl ?_
          refine s_iload_n (q := 74) C 1 dX8_wearsIn_73 rfl rfl rfl ?_
          refine s_Si (q := 77) (As := [.int a1]) (st := [.ref (G.1 0)]) C (uX8_above l G hG V a1) ysX8_above mlX8_94 rfl rfl rfl rfl (gR_le (by omega) (by omega)) (Nat.le_of_ble_eq_true rfl) dX8_wearsIn_74 rfl (fun x4 V5 => ?_)
          refine s_iload_n (q := 78) C 2 dX8_wearsIn_77 rfl rfl rfl ?_
          refine s_Vi (q := 81) (As := [.int x4, .int a2]) (st := []) C (hrc0 V5 x4 a2) yvX8_wearsIn mlX8_239 (s80 hG) rfl rfl rfl rfl rfl rfl (gR_le (by omega) (by omega)) (Nat.le_of_ble_eq_true rfl) dX8_wearsIn_78 rfl (fun x6 V7 => ?_)
          exact s_iret C E dX8_wearsIn_81
theorem uX8_wearsIn (l : Launch) (G : gG) (hG : gIsM G) (d : Nat) (V : gV) (a1 : Int32) (a2 : Int32) : gMi l G yX8_wearsIn cX8_wearsIn 4 Jvm.ClassFile.FieldType.int (gR (10 + 1 * d) (219 + 23 * d)) [.ref (G.1 0), .int a1, .int a2] V (fweX8 d 0 V a1 a2) := (uweX8 l G hG d) V a1 a2
noncomputable def fX8_slipsIn_B (rc : Nat → gV → Int32 → Int32 → Option (Int32 × gV)) (V : gV) (a1 : Int32) (a2 : Int32) : Option (Int32 × gV) := if a1 = 0 then (gbv (fX8_ran V 13) fun (V18 : gV) => gbi (fweX8 8 0 V18 (V18 0 22) a2) fun (x19 : Int32) (V20 : gV) => gbi (fshX8 8 0 V20 (V20 0 22) a2) fun (x21 : Int32) (V22 : gV) => some ((x19 ^^^ x21), V22)) else (if a1 = 4 then (gbv (fX8_ran V 50) fun (V13 : gV) => gbi (rc 0 V13 1 a2) fun (x14 : Int32) (V15 : gV) => gbi (flaX8 8 0 V15 (V15 0 22) 2) fun (x16 : Int32) (V17 : gV) => some ((x14 - x16), V17)) else (if a1 = 6 then (gbv (fX8_ran V 71) fun (V8 : gV) => gbi (fweX8 8 0 V8 (V8 0 22) a2) fun (x9 : Int32) (V10 : gV) => gbi (rc 0 V10 3 a2) fun (x11 : Int32) (V12 : gV) => some ((x9 - x11), V12)) else (gbi (fX8_above V a1) fun (x4 : Int32) (V5 : gV) => gbi (rc 0 V5 x4 a2) fun (x6 : Int32) (V7 : gV) => some (x6, V7))))
noncomputable def fslX8 : Nat → Nat → gV → Int32 → Int32 → Option (Int32 × gV)
  | 0 => fun _ _ _ _ => none
  | d + 1 => fun t V a0 a1 => match t with
    | _ => fX8_slipsIn_B (fslX8 d) V a0 a1
set_option maxHeartbeats 8000000 in
set_option maxRecDepth 100000 in
theorem uslX8 (l : Launch) (G : gG) (hG : gIsM G) : ∀ (d : Nat), (∀ (V : gV) (a1 : Int32) (a2 : Int32), gMi l G yX8_slipsIn cX8_slipsIn 4 Jvm.ClassFile.FieldType.int (gR (19 + 1 * d) (426 + 23 * d)) [.ref (G.1 0), .int a1, .int a2] V (fslX8 d 0 V a1 a2)) := by
  intro d
  induction d with
  | zero => exact by intros; intro _; intros; contradiction
  | succ d ih =>
    have hrc0 := ih
    intro V a1 a2
    show gMi l G yX8_slipsIn cX8_slipsIn 4 Jvm.ClassFile.FieldType.int (gR (19 + 1 * (d + 1)) (426 + 23 * (d + 1))) [.ref (G.1 0), .int a1, .int a2] V (fX8_slipsIn_B (fslX8 d) V a1 a2)
    generalize fslX8 d = rc at hrc0 ⊢
    unfold fX8_slipsIn_B
    refine gM_i (by decide +kernel) rfl rfl (Nat.le_of_ble_eq_true rfl) (fun X rr VV C E => ?_)
    change gC cX8_slipsIn 4 RX8 G X at C
    change gSm l (gR (19 + 1 * (d + 1)) (426 + 23 * (d + 1))) 4 G X _ (rr, VV) V 0 [(0, .ref (G.1 0)), (1, .int a1), (2, .int a2)] []
    refine s_iload_n (q := 1) C 1 dX8_slipsIn_0 rfl rfl rfl ?_
    refine s_if_ne (tgt := 32) (q := 4) C dX8_slipsIn_1 (by decide) rfl (fun c1 => ?_) (fun c1 => ?_)
    · refine s_aload_n (q := 5) C 0 dX8_slipsIn_4 rfl rfl rfl ?_
      refine s_bipush (q := 7) (v := 13) C dX8_slipsIn_5 rfl (by decide) ?_
      refine s_Vv (q := 10) (As := [.int 13]) (st := []) C (uX8_ran l G hG V 13) yvX8_ran mlX8_221 (s80 hG) rfl rfl rfl rfl rfl rfl (gR_le (by omega) (by omega)) (Nat.le_of_ble_eq_true rfl) dX8_slipsIn_7 rfl (fun V18 => ?_)
      refine s_aload_n (q := 11) C 0 dX8_slipsIn_10 rfl rfl rfl ?_
      refine s_aload_n (q := 12) C 0 dX8_slipsIn_11 rfl rfl rfl ?_
      refine geX8_22 (q := 15) C (s80 hG) flX8_236 dX8_slipsIn_12 rfl ?_
      refine s_iload_n (q := 16) C 2 dX8_slipsIn_15 rfl rfl rfl ?_
      refine s_Vi (q := 19) (As := [.int (V18 0 22), .int a2]) (st := []) C (uX8_wearsIn l G hG 8 V18 (V18 0 22) a2) yvX8_wearsIn mlX8_239 (s80 hG) rfl rfl rfl rfl rfl rfl (gR_le (by omega) (by omega)) (Nat.le_of_ble_eq_true rfl) dX8_slipsIn_16 rfl (fun x19 V20 => ?_)
      refine s_istore_n (q := 20) (L' := [(3, .int x19), (0, .ref (G.1 0)), (1, .int a1), (2, .int a2)]) C dX8_slipsIn_19 rfl rfl (by decide) rfl ?_
      refine s_iload_n (q := 21) C 0 dX8_slipsIn_20 rfl rfl rfl ?_
      refine s_aload_n (q := 22) C 1 dX8_slipsIn_21 rfl rfl rfl ?_
      refine s_aload_n (q := 23) C 1 dX8_slipsIn_22 rfl rfl rfl ?_
      refine geX8_22 (q := 26) C (s80 hG) flX8_236 dX8_slipsIn_23 rfl ?_
      refine s_iload_n (q := 27) C 3 dX8_slipsIn_26 rfl rfl rfl ?_
      refine s_Vi (q := 30) (As := [.int (V20 0 22), .int a2]) (st := [.int x19]) C (uX8_showsIn l G hG 8 V20 (V20 0 22) a2) yvX8_showsIn mlX8_233 (s80 hG) rfl rfl rfl rfl rfl rfl (gR_le (by omega) (by omega)) (Nat.le_of_ble_eq_true rfl) dX8_slipsIn_27 rfl (fun x21 V22 => ?_)
      refine s_ixor (q := 31) C dX8_slipsIn_30 rfl ?_
      exact s_iret C E dX8_slipsIn_31
    · refine s_iload_n (q := 33) C 1 dX8_slipsIn_32 rfl rfl rfl ?_
      refine s_iconst (q := 34) (v := 4) C dX8_slipsIn_33 rfl (by decide) ?_
      refine s_icmp_ne (tgt := 62) (q := 37) C dX8_slipsIn_34 (by decide) rfl (fun c2 => ?_) (fun c2 => ?_)
      · refine s_aload_n (q := 38) C 0 dX8_slipsIn_37 rfl rfl rfl ?_
        refine s_bipush (q := 40) (v := 50) C dX8_slipsIn_38 rfl (by decide) ?_
        refine s_Vv (q := 43) (As := [.int 50]) (st := []) C (uX8_ran l G hG V 50) yvX8_ran mlX8_221 (s80 hG) rfl rfl rfl rfl rfl rfl (gR_le (by omega) (by omega)) (Nat.le_of_ble_eq_true rfl) dX8_slipsIn_40 rfl (fun V13 => ?_)
        refine s_aload_n (q := 44) C 0 dX8_slipsIn_43 rfl rfl rfl ?_
        refine s_iconst (q := 45) (v := 1) C dX8_slipsIn_44 rfl (by decide) ?_
        refine s_iload_n (q := 46) C 2 dX8_slipsIn_45 rfl rfl rfl ?_
        refine s_Vi (q := 49) (As := [.int 1, .int a2]) (st := []) C (hrc0 V13 1 a2) yvX8_slipsIn mlX8_242 (s80 hG) rfl rfl rfl rfl rfl rfl (gR_le (by omega) (by omega)) (Nat.le_of_ble_eq_true rfl) dX8_slipsIn_46 rfl (fun x14 V15 => ?_)
        refine s_istore_n (q := 50) (L' := [(3, .int x14), (0, .ref (G.1 0)), (1, .int a1), (2, .int a2)]) C dX8_slipsIn_49 rfl rfl (by decide) rfl ?_
        refine s_iload_n (q := 51) C 0 dX8_slipsIn_50 rfl rfl rfl ?_
        refine s_aload_n (q := 52) C 1 dX8_slipsIn_51 rfl rfl rfl ?_
        refine s_aload_n (q := 53) C 1 dX8_slipsIn_52 rfl rfl rfl ?_
        refine geX8_22 (q := 56) C (s80 hG) flX8_236 dX8_slipsIn_53 rfl ?_
        refine s_iconst (q := 57) (v := 2) C dX8_slipsIn_56 rfl (by decide) ?_
        refine s_Vi (q := 60) (As := [.int (V15 0 22), .int 2]) (st := [.int x14]) C (uX8_lathersIn l G hG 8 V15 (V15 0 22) 2) yvX8_lathersIn mlX8_227 (s80 hG) rfl rfl rfl rfl rfl rfl (gR_le (by omega) (by omega)) (Nat.le_of_ble_eq_true rfl) dX8_slipsIn_57 rfl (fun x16 V17 => ?_)
        refine s_isub (q := 61) C dX8_slipsIn_60 rfl ?_
        exact s_iret C E dX8_slipsIn_61
      · refine s_iload_n (q := 63) C 1 dX8_slipsIn_62 rfl rfl rfl ?_
        refine s_bipush (q := 65) (v := 6) C dX8_slipsIn_63 rfl (by decide) ?_
        refine s_icmp_ne (tgt := 93) (q := 68) C dX8_slipsIn_65 (by decide) rfl (fun c3 => ?_) (fun c3 => ?_)
        · refine s_aload_n (q := 69) C 0 dX8_slipsIn_68 rfl rfl rfl ?_
          refine s_bipush (q := 71) (v := 71) C dX8_slipsIn_69 rfl (by decide) ?_
          refine s_Vv (q := 74) (As := [.int 71]) (st := []) C (uX8_ran l G hG V 71) yvX8_ran mlX8_221 (s80 hG) rfl rfl rfl rfl rfl rfl (gR_le (by omega) (by omega)) (Nat.le_of_ble_eq_true rfl) dX8_slipsIn_71 rfl (fun V8 => ?_)
          refine s_aload_n (q := 75) C 0 dX8_slipsIn_74 rfl rfl rfl ?_
          refine s_aload_n (q := 76) C 0 dX8_slipsIn_75 rfl rfl rfl ?_
          refine geX8_22 (q := 79) C (s80 hG) flX8_236 dX8_slipsIn_76 rfl ?_
          refine s_iload_n (q := 80) C 2 dX8_slipsIn_79 rfl rfl rfl ?_
          refine s_Vi (q := 83) (As := [.int (V8 0 22), .int a2]) (st := []) C (uX8_wearsIn l G hG 8 V8 (V8 0 22) a2) yvX8_wearsIn mlX8_239 (s80 hG) rfl rfl rfl rfl rfl rfl (gR_le (by omega) (by omega)) (Nat.le_of_ble_eq_true rfl) dX8_slipsIn_80 rfl (fun x9 V10 => ?_)
          refine s_istore_n (q := 84) (L' := [(3, .int x9), (0, .ref (G.1 0)), (1, .int a1), (2, .int a2)]) C dX8_slipsIn_83 rfl rfl (by decide) rfl ?_
          refine s_iload_n (q := 85) C 0 dX8_slipsIn_84 rfl rfl rfl ?_
          refine s_aload_n (q := 86) C 1 dX8_slipsIn_85 rfl rfl rfl ?_
          refine s_iconst (q := 87) (v := 3) C dX8_slipsIn_86 rfl (by decide) ?_
          refine s_iload_n (q := 88) C 3 dX8_slipsIn_87 rfl rfl rfl ?_
          refine s_Vi (q := 91) (As := [.int 3, .int a2]) (st := [.int x9]) C (hrc0 V10 3 a2) yvX8_slipsIn mlX8_242 (s80 hG) rfl rfl rfl rfl rfl rfl (gR_le (by omega) (by omega)) (Nat.le_of_ble_eq_true rfl) dX8_slipsIn_88 rfl (fun x11 V12 => ?_)
          refine s_isub (q := 92) C dX8_slipsIn_91 rfl ?_
          exact s_iret C E dX8_slipsIn_92
        · refine s_aload_n (q := 94) C 0 dX8_slipsIn_93 rfl rfl rfl ?_
          refine s_iload_n (q := 95) C 1 dX8_slipsIn_94 rfl rfl rfl ?_
          refine s_Si (q := 98) (As := [.int a1]) (st := [.ref (G.1 0)]) C (uX8_above l G hG V a1) ysX8_above mlX8_94 rfl rfl rfl rfl (gR_le (by omega) (by omega)) (Nat.le_of_ble_eq_true rfl) dX8_slipsIn_95 rfl (fun x4 V5 => ?_)
          refine s_iload_n (q := 99) C 2 dX8_slipsIn_98 rfl rfl rfl ?_
          refine s_Vi (q := 102) (As := [.int x4, .int a2]) (st := []) C (hrc0 V5 x4 a2) yvX8_slipsIn mlX8_242 (s80 hG) rfl rfl rfl rfl rfl rfl (gR_le (by omega) (by omega)) (Nat.le_of_ble_eq_true rfl) dX8_slipsIn_99 rfl (fun x6 V7 => ?_)
          exact s_iret C E dX8_slipsIn_102
theorem uX8_slipsIn (l : Launch) (G : gG) (hG : gIsM G) (d : Nat) (V : gV) (a1 : Int32) (a2 : Int32) : gMi l G yX8_slipsIn cX8_slipsIn 4 Jvm.ClassFile.FieldType.int (gR (19 + 1 * d) (426 + 23 * d)) [.ref (G.1 0), .int a1, .int a2] V (fslX8 d 0 V a1 a2) := (uslX8 l G hG d) V a1 a2
noncomputable def fX8_voice (V : gV) (a1 : Int32) (a2 : Int32) (a3 : Int32) : Option (Int32 × gV) := gbi (fX8_isCake V a1) fun (x1 : Int32) (V2 : gV) => if x1 = 0 then (gbi (fX8_errs V2 (-1000000001)) fun (x4 : Int32) (V5 : gV) => some (x4, V5)) else (gbi (fX8_in V2 a2 0 3) fun (x6 : Int32) (V7 : gV) => if x6 = 0 then (gbi (fX8_errs V7 (-1000000001)) fun (x28 : Int32) (V29 : gV) => some (x28, V29)) else (gpu V7 0 21 0 fun (V9 : gV) => gbi (fX8_its V9 a1 0) fun (x10 : Int32) (V11 : gV) => gpu V11 0 22 x10 fun (V12 : gV) => gpu V12 0 23 a1 fun (V13 : gV) => gbi (fX8_its V13 a1 1) fun (x14 : Int32) (V15 : gV) => gpu V15 0 24 x14 fun (V16 : gV) => if a2 = 0 then (gbi (flaX8 8 0 V16 (V16 0 22) a3) fun (x18 : Int32) (V19 : gV) => some (x18, V19)) else (if a2 = 1 then (gbi (fweX8 8 0 V16 (V16 0 22) a3) fun (x21 : Int32) (V22 : gV) => some (x21, V22)) else (if a2 = 2 then (gbi (fshX8 8 0 V16 (V16 0 22) a3) fun (x24 : Int32) (V25 : gV) => some (x24, V25)) else (gbi (fslX8 8 0 V16 (V16 0 22) a3) fun (x26 : Int32) (V27 : gV) => some (x26, V27))))))
set_option maxHeartbeats 4000000 in
set_option maxRecDepth 100000 in
theorem uX8_voice (l : Launch) (G : gG) (hG : gIsM G) (V : gV) (a1 : Int32) (a2 : Int32) (a3 : Int32) : gMi l G yX8_voice cX8_voice 4 Jvm.ClassFile.FieldType.int (gR 28 633) [.ref (G.1 0), .int a1, .int a2, .int a3] V (fX8_voice V a1 a2 a3) := by
  unfold fX8_voice
  refine gM_i (by decide +kernel) rfl rfl (Nat.le_of_ble_eq_true rfl) (fun X rr VV C E => ?_)
  change gC cX8_voice 4 RX8 G X at C
  change gSm l (gR 28 633) 4 G X _ (rr, VV) V 0 [(0, .ref (G.1 0)), (1, .int a1), (2, .int a2), (3, .int a3)] []
  refine s_aload_n (q := 1) C 0 dX8_voice_0 rfl rfl rfl ?_
  refine s_iload_n (q := 2) C 1 dX8_voice_1 rfl rfl rfl ?_
  refine s_Vi (q := 5) (As := [.int a1]) (st := []) C (uX8_isCake l G hG V a1) yvX8_isCake mlX8_78 (s80 hG) rfl rfl rfl rfl rfl rfl (gR_le (by decide) (by decide)) (Nat.le_of_ble_eq_true rfl) dX8_voice_2 rfl (fun x1 V2 => ?_)
  refine s_if_eq (tgt := 17) (q := 8) C dX8_voice_5 (by decide) rfl (fun c3 => ?_) (fun c3 => ?_)
  · refine s_aload_n (q := 18) C 0 dX8_voice_17 rfl rfl rfl ?_
    refine s_ldc (q := 20) (v := (-1000000001)) C dX8_voice_18 rfl kX8_48 ?_
    refine s_Vi (q := 23) (As := [.int (-1000000001)]) (st := []) C (uX8_errs l G hG V2 (-1000000001)) yvX8_errs mlX8_49 (s80 hG) rfl rfl rfl rfl rfl rfl (gR_le (by decide) (by decide)) (Nat.le_of_ble_eq_true rfl) dX8_voice_20 rfl (fun x4 V5 => ?_)
    exact s_iret C E dX8_voice_23
  · refine s_iload_n (q := 9) C 2 dX8_voice_8 rfl rfl rfl ?_
    refine s_iconst (q := 10) (v := 0) C dX8_voice_9 rfl (by decide) ?_
    refine s_iconst (q := 11) (v := 3) C dX8_voice_10 rfl (by decide) ?_
    refine s_Si (q := 14) (As := [.int a2, .int 0, .int 3]) (st := []) C (uX8_in l G hG V2 a2 0 3) ysX8_in mlX8_44 rfl rfl rfl rfl (gR_le (by decide) (by decide)) (Nat.le_of_ble_eq_true rfl) dX8_voice_11 rfl (fun x6 V7 => ?_)
    refine s_if_ne (tgt := 24) (q := 17) C dX8_voice_14 (by decide) rfl (fun c8 => ?_) (fun c8 => ?_)
    · refine s_aload_n (q := 18) C 0 dX8_voice_17 rfl rfl rfl ?_
      refine s_ldc (q := 20) (v := (-1000000001)) C dX8_voice_18 rfl kX8_48 ?_
      refine s_Vi (q := 23) (As := [.int (-1000000001)]) (st := []) C (uX8_errs l G hG V7 (-1000000001)) yvX8_errs mlX8_49 (s80 hG) rfl rfl rfl rfl rfl rfl (gR_le (by decide) (by decide)) (Nat.le_of_ble_eq_true rfl) dX8_voice_20 rfl (fun x28 V29 => ?_)
      exact s_iret C E dX8_voice_23
    · refine s_aload_n (q := 25) C 0 dX8_voice_24 rfl rfl rfl ?_
      refine s_iconst (q := 26) (v := 0) C dX8_voice_25 rfl (by decide) ?_
      refine peX8_21 (q := 29) C (s80 hG) flX8_218 dX8_voice_26 rfl (fun V9 => ?_)
      refine s_aload_n (q := 30) C 0 dX8_voice_29 rfl rfl rfl ?_
      refine s_aload_n (q := 31) C 0 dX8_voice_30 rfl rfl rfl ?_
      refine s_iload_n (q := 32) C 1 dX8_voice_31 rfl rfl rfl ?_
      refine s_iconst (q := 33) (v := 0) C dX8_voice_32 rfl (by decide) ?_
      refine s_Vi (q := 36) (As := [.int a1, .int 0]) (st := [.ref (G.1 0)]) C (uX8_its l G hG V9 a1 0) yvX8_its mlX8_54 (s80 hG) rfl rfl rfl rfl rfl rfl (gR_le (by decide) (by decide)) (Nat.le_of_ble_eq_true rfl) dX8_voice_33 rfl (fun x10 V11 => ?_)
      refine peX8_22 (q := 39) C (s80 hG) flX8_236 dX8_voice_36 rfl (fun V12 => ?_)
      refine s_aload_n (q := 40) C 0 dX8_voice_39 rfl rfl rfl ?_
      refine s_iload_n (q := 41) C 1 dX8_voice_40 rfl rfl rfl ?_
      refine peX8_23 (q := 44) C (s80 hG) flX8_224 dX8_voice_41 rfl (fun V13 => ?_)
      refine s_aload_n (q := 45) C 0 dX8_voice_44 rfl rfl rfl ?_
      refine s_aload_n (q := 46) C 0 dX8_voice_45 rfl rfl rfl ?_
      refine s_iload_n (q := 47) C 1 dX8_voice_46 rfl rfl rfl ?_
      refine s_iconst (q := 48) (v := 1) C dX8_voice_47 rfl (by decide) ?_
      refine s_Vi (q := 51) (As := [.int a1, .int 1]) (st := [.ref (G.1 0)]) C (uX8_its l G hG V13 a1 1) yvX8_its mlX8_54 (s80 hG) rfl rfl rfl rfl rfl rfl (gR_le (by decide) (by decide)) (Nat.le_of_ble_eq_true rfl) dX8_voice_48 rfl (fun x14 V15 => ?_)
      refine peX8_24 (q := 54) C (s80 hG) flX8_230 dX8_voice_51 rfl (fun V16 => ?_)
      refine s_iload_n (q := 55) C 2 dX8_voice_54 rfl rfl rfl ?_
      refine s_case (fun c17 => ?_) (fun c17 => ?_)
      · refine s_tin (q := 80) (off := 25) (c := 0) C c17 dX8_voice_55 (by decide) (by decide) (by decide) (by decide) ?_
        refine s_aload_n (q := 81) C 0 dX8_voice_80 rfl rfl rfl ?_
        refine s_aload_n (q := 82) C 0 dX8_voice_81 rfl rfl rfl ?_
        refine geX8_22 (q := 85) C (s80 hG) flX8_236 dX8_voice_82 rfl ?_
        refine s_iload_n (q := 86) C 3 dX8_voice_85 rfl rfl rfl ?_
        refine s_Vi (q := 89) (As := [.int (V16 0 22), .int a3]) (st := []) C (uX8_lathersIn l G hG 8 V16 (V16 0 22) a3) yvX8_lathersIn mlX8_227 (s80 hG) rfl rfl rfl rfl rfl rfl (gR_le (by decide) (by decide)) (Nat.le_of_ble_eq_true rfl) dX8_voice_86 rfl (fun x18 V19 => ?_)
        exact s_iret C E dX8_voice_89
      · refine s_case (fun c20 => ?_) (fun c20 => ?_)
        · refine s_tin (q := 90) (off := 35) (c := 1) C c20 dX8_voice_55 (by decide) (by decide) (by decide) (by decide) ?_
          refine s_aload_n (q := 91) C 0 dX8_voice_90 rfl rfl rfl ?_
          refine s_aload_n (q := 92) C 0 dX8_voice_91 rfl rfl rfl ?_
          refine geX8_22 (q := 95) C (s80 hG) flX8_236 dX8_voice_92 rfl ?_
          refine s_iload_n (q := 96) C 3 dX8_voice_95 rfl rfl rfl ?_
          refine s_Vi (q := 99) (As := [.int (V16 0 22), .int a3]) (st := []) C (uX8_wearsIn l G hG 8 V16 (V16 0 22) a3) yvX8_wearsIn mlX8_239 (s80 hG) rfl rfl rfl rfl rfl rfl (gR_le (by decide) (by decide)) (Nat.le_of_ble_eq_true rfl) dX8_voice_96 rfl (fun x21 V22 => ?_)
          exact s_iret C E dX8_voice_99
        · refine s_case (fun c23 => ?_) (fun c23 => ?_)
          · refine s_tin (q := 100) (off := 45) (c := 2) C c23 dX8_voice_55 (by decide) (by decide) (by decide) (by decide) ?_
            refine s_aload_n (q := 101) C 0 dX8_voice_100 rfl rfl rfl ?_
            refine s_aload_n (q := 102) C 0 dX8_voice_101 rfl rfl rfl ?_
            refine geX8_22 (q := 105) C (s80 hG) flX8_236 dX8_voice_102 rfl ?_
            refine s_iload_n (q := 106) C 3 dX8_voice_105 rfl rfl rfl ?_
            refine s_Vi (q := 109) (As := [.int (V16 0 22), .int a3]) (st := []) C (uX8_showsIn l G hG 8 V16 (V16 0 22) a3) yvX8_showsIn mlX8_233 (s80 hG) rfl rfl rfl rfl rfl rfl (gR_le (by decide) (by decide)) (Nat.le_of_ble_eq_true rfl) dX8_voice_106 rfl (fun x24 V25 => ?_)
            exact s_iret C E dX8_voice_109
          · refine s_tout (q := 110) C dX8_voice_55 (by have zc17 := lv_neT (k := 0) (a := 0) c17 (by decide); have zc20 := lv_neT (k := 1) (a := 1) c20 (by decide); have zc23 := lv_neT (k := 2) (a := 2) c23 (by decide); omega) (by decide) ?_
            refine s_aload_n (q := 111) C 0 dX8_voice_110 rfl rfl rfl ?_
            refine s_aload_n (q := 112) C 0 dX8_voice_111 rfl rfl rfl ?_
            refine geX8_22 (q := 115) C (s80 hG) flX8_236 dX8_voice_112 rfl ?_
            refine s_iload_n (q := 116) C 3 dX8_voice_115 rfl rfl rfl ?_
            refine s_Vi (q := 119) (As := [.int (V16 0 22), .int a3]) (st := []) C (uX8_slipsIn l G hG 8 V16 (V16 0 22) a3) yvX8_slipsIn mlX8_242 (s80 hG) rfl rfl rfl rfl rfl rfl (gR_le (by decide) (by decide)) (Nat.le_of_ble_eq_true rfl) dX8_voice_116 rfl (fun x26 V27 => ?_)
            exact s_iret C E dX8_voice_119
noncomputable def fX8_trace (V : gV) (a1 : Int32) : Option (Int32 × gV) := gbi (fX8_in V a1 0 ((V 0 21) - 1)) fun (x1 : Int32) (V2 : gV) => if x1 = 0 then (gbi (fX8_errs V2 (-1000000002)) fun (x4 : Int32) (V5 : gV) => some (x4, V5)) else (gal V2 (0 + 11) a1 40 fun (x6 : Int32) => some (x6, V2))
set_option maxHeartbeats 4000000 in
set_option maxRecDepth 100000 in
theorem uX8_trace (l : Launch) (G : gG) (hG : gIsM G) (V : gV) (a1 : Int32) : gMi l G yX8_trace cX8_trace 2 Jvm.ClassFile.FieldType.int (gR 1 22) [.ref (G.1 0), .int a1] V (fX8_trace V a1) := by
  unfold fX8_trace
  refine gM_i (by decide +kernel) rfl rfl (Nat.le_of_ble_eq_true rfl) (fun X rr VV C E => ?_)
  change gC cX8_trace 2 RX8 G X at C
  change gSm l (gR 1 22) 2 G X _ (rr, VV) V 0 [(0, .ref (G.1 0)), (1, .int a1)] []
  refine s_iload_n (q := 1) C 1 dX8_trace_0 rfl rfl rfl ?_
  refine s_iconst (q := 2) (v := 0) C dX8_trace_1 rfl (by decide) ?_
  refine s_aload_n (q := 3) C 0 dX8_trace_2 rfl rfl rfl ?_
  refine geX8_21 (q := 6) C (s80 hG) flX8_218 dX8_trace_3 rfl ?_
  refine s_iconst (q := 7) (v := 1) C dX8_trace_6 rfl (by decide) ?_
  refine s_isub (q := 8) C dX8_trace_7 rfl ?_
  refine s_Si (q := 11) (As := [.int a1, .int 0, .int ((V 0 21) - 1)]) (st := []) C (uX8_in l G hG V a1 0 ((V 0 21) - 1)) ysX8_in mlX8_44 rfl rfl rfl rfl (gR_le (by decide) (by decide)) (Nat.le_of_ble_eq_true rfl) dX8_trace_8 rfl (fun x1 V2 => ?_)
  refine s_if_eq (tgt := 23) (q := 14) C dX8_trace_11 (by decide) rfl (fun c3 => ?_) (fun c3 => ?_)
  · refine s_aload_n (q := 24) C 0 dX8_trace_23 rfl rfl rfl ?_
    refine s_ldc (q := 26) (v := (-1000000002)) C dX8_trace_24 rfl kX8_199 ?_
    refine s_Vi (q := 29) (As := [.int (-1000000002)]) (st := []) C (uX8_errs l G hG V2 (-1000000002)) yvX8_errs mlX8_49 (s80 hG) rfl rfl rfl rfl rfl rfl (gR_le (by decide) (by decide)) (Nat.le_of_ble_eq_true rfl) dX8_trace_26 rfl (fun x4 V5 => ?_)
    exact s_iret C E dX8_trace_29
  · refine s_aload_n (q := 15) C 0 dX8_trace_14 rfl rfl rfl ?_
    refine geX8_20 (q := 18) C (s80 hG) flX8_40 dX8_trace_15 rfl ?_
    refine s_iload_n (q := 19) C 1 dX8_trace_18 rfl rfl rfl ?_
    refine s_iald (q := 20) C (qX8_20 hG) dX8_trace_19 rfl (fun x6 => ?_)
    refine s_goto (q := 29) C dX8_trace_20 (by decide) ?_
    exact s_iret C E dX8_trace_29
noncomputable def fX8_narrow (V : gV) (a0 : Int32) (a1 : Int32) : Option (Int32 × gV) := if a0 = 8 then (some ((a1).toInt8.toInt32, V)) else (if a0 = 16 then (some ((a1).toInt16.toInt32, V)) else (some (a1, V)))
set_option maxHeartbeats 4000000 in
set_option maxRecDepth 100000 in
theorem uX8_narrow (l : Launch) (G : gG) (hG : gIsM G) (V : gV) (a0 : Int32) (a1 : Int32) : gMi l G yX8_narrow cX8_narrow 2 Jvm.ClassFile.FieldType.int (gR 0 0) [.int a0, .int a1] V (fX8_narrow V a0 a1) := by
  unfold fX8_narrow
  refine gM_i (by decide +kernel) rfl rfl (Nat.le_of_ble_eq_true rfl) (fun X rr VV C E => ?_)
  change gC cX8_narrow 2 RX8 G X at C
  change gSm l (gR 0 0) 2 G X _ (rr, VV) V 0 [(0, .int a0), (1, .int a1)] []
  refine s_iload_n (q := 1) C 0 dX8_narrow_0 rfl rfl rfl ?_
  refine s_bipush (q := 3) (v := 8) C dX8_narrow_1 rfl (by decide) ?_
  refine s_icmp_ne (tgt := 11) (q := 6) C dX8_narrow_3 (by decide) rfl (fun c1 => ?_) (fun c1 => ?_)
  · refine s_iload_n (q := 7) C 1 dX8_narrow_6 rfl rfl rfl ?_
    refine s_i2b (q := 8) C dX8_narrow_7 rfl ?_
    refine s_goto (q := 23) C dX8_narrow_8 (by decide) ?_
    exact s_iret C E dX8_narrow_23
  · refine s_iload_n (q := 12) C 0 dX8_narrow_11 rfl rfl rfl ?_
    refine s_bipush (q := 14) (v := 16) C dX8_narrow_12 rfl (by decide) ?_
    refine s_icmp_ne (tgt := 22) (q := 17) C dX8_narrow_14 (by decide) rfl (fun c2 => ?_) (fun c2 => ?_)
    · refine s_iload_n (q := 18) C 1 dX8_narrow_17 rfl rfl rfl ?_
      refine s_i2s (q := 19) C dX8_narrow_18 rfl ?_
      refine s_goto (q := 23) C dX8_narrow_19 (by decide) ?_
      exact s_iret C E dX8_narrow_23
    · refine s_iload_n (q := 23) C 1 dX8_narrow_22 rfl rfl rfl ?_
      exact s_iret C E dX8_narrow_23
noncomputable def fX8_sheet_L1b (a1 : Int32) (B28 : gV → Int32 → Option (Int32 × gV)) (V26 : gV) (x27 : Int32) : Option (Int32 × gV) := if 40 ≤ x27 then (some (1, V26)) else (gas V26 (0 + 8) ((40 * a1) + x27) 160 0 fun (V30 : gV) => B28 V30 ((x27 + 1)))
noncomputable def fX8_sheet_L1 (a1 : Int32) : Nat → gV → Int32 → Option (Int32 × gV)
  | 0 => fun _ _ => none
  | n + 1 => fX8_sheet_L1b a1 (fX8_sheet_L1 a1 n)
noncomputable def fX8_sheet_L2b (a1 : Int32) (B34 : gV → Int32 → Option (Int32 × gV)) (V32 : gV) (x33 : Int32) : Option (Int32 × gV) := if 40 ≤ x33 then (some (1, V32)) else (gas V32 (0 + 8) ((40 * a1) + x33) 160 0 fun (V36 : gV) => B34 V36 ((x33 + 1)))
noncomputable def fX8_sheet_L2 (a1 : Int32) : Nat → gV → Int32 → Option (Int32 × gV)
  | 0 => fun _ _ => none
  | n + 1 => fX8_sheet_L2b a1 (fX8_sheet_L2 a1 n)
noncomputable def fX8_sheet (V : gV) (a1 : Int32) (a2 : Int32) (a3 : Int32) : Option (Int32 × gV) := gbi (fX8_isSheet V a1) fun (x1 : Int32) (V2 : gV) => if x1 = 0 then (gbi (fX8_errs V2 (-1000000001)) fun (x4 : Int32) (V5 : gV) => some (x4, V5)) else (gjn (gjn (gjn (gas V2 (0 + 6) a1 4 a2 fun (V23 : gV) => if a2 = 0 then (gas V23 (0 + 7) a1 4 0 fun (V31 : gV) => fX8_sheet_L2 a1 gFu V31 0) else (gas V23 (0 + 7) a1 4 a3 fun (V25 : gV) => fX8_sheet_L1 a1 gFu V25 0)) fun J22 => if a2 = 0 then (J22) else (if a3 ≤ 40 then (J22) else (gbi (fX8_errs V2 (-1000000001)) fun (x39 : Int32) (V40 : gV) => some (x39, V40)))) fun J17 => if a2 = 0 then (J17) else (if 0 ≤ a3 then (J17) else (gbi (fX8_errs V2 (-1000000003)) fun (x43 : Int32) (V44 : gV) => some (x43, V44)))) fun J12 => if a2 = 0 then (J12) else (if a2 = 8 then (J12) else (if a2 = 16 then (J12) else (if a2 = 32 then (J12) else (gbi (fX8_errs V2 (-1000000001)) fun (x49 : Int32) (V50 : gV) => some (x49, V50))))))
set_option maxHeartbeats 4000000 in
set_option maxRecDepth 100000 in
theorem uX8_sheet (l : Launch) (G : gG) (hG : gIsM G) (V : gV) (a1 : Int32) (a2 : Int32) (a3 : Int32) : gMi l G yX8_sheet cX8_sheet 5 Jvm.ClassFile.FieldType.int (gR 2 42) [.ref (G.1 0), .int a1, .int a2, .int a3] V (fX8_sheet V a1 a2 a3) := by
  unfold fX8_sheet
  refine gM_i (by decide +kernel) rfl rfl (Nat.le_of_ble_eq_true rfl) (fun X rr VV C E => ?_)
  change gC cX8_sheet 5 RX8 G X at C
  change gSm l (gR 2 42) 5 G X _ (rr, VV) V 0 [(0, .ref (G.1 0)), (1, .int a1), (2, .int a2), (3, .int a3)] []
  refine s_iload_n (q := 1) C 1 dX8_sheet_0 rfl rfl rfl ?_
  refine s_Si (q := 4) (As := [.int a1]) (st := []) C (uX8_isSheet l G hG V a1) ysX8_isSheet mlX8_209 rfl rfl rfl rfl (gR_le (by decide) (by decide)) (Nat.le_of_ble_eq_true rfl) dX8_sheet_1 rfl (fun x1 V2 => ?_)
  refine s_if_eq (tgt := 29) (q := 7) C dX8_sheet_4 (by decide) rfl (fun c3 => ?_) (fun c3 => ?_)
  · refine s_aload_n (q := 30) C 0 dX8_sheet_29 rfl rfl rfl ?_
    refine s_ldc (q := 32) (v := (-1000000001)) C dX8_sheet_30 rfl kX8_48 ?_
    refine s_Vi (q := 35) (As := [.int (-1000000001)]) (st := []) C (uX8_errs l G hG V2 (-1000000001)) yvX8_errs mlX8_49 (s80 hG) rfl rfl rfl rfl rfl rfl (gR_le (by decide) (by decide)) (Nat.le_of_ble_eq_true rfl) dX8_sheet_32 rfl (fun x4 V5 => ?_)
    exact s_iret C E dX8_sheet_35
  · refine s_iload_n (q := 8) C 2 dX8_sheet_7 rfl rfl rfl ?_
    refine s_jn (fun J12 => gSm l (gR 2 42) 5 G X (J12) (rr, VV) V2 36 [(0, .ref (G.1 0)), (1, .int a1), (2, .int a2), (3, .int a3)] []) ?_ (fun J12 hJ12 => ?_)
    · refine s_iload_n (q := 37) C 2 dX8_sheet_36 rfl rfl rfl ?_
      refine s_jn (fun J17 => gSm l (gR 2 42) 5 G X (J17) (rr, VV) V2 51 [(0, .ref (G.1 0)), (1, .int a1), (2, .int a2), (3, .int a3)] []) ?_ (fun J17 hJ17 => ?_)
      · refine s_iload_n (q := 52) C 2 dX8_sheet_51 rfl rfl rfl ?_
        refine s_jn (fun J22 => gSm l (gR 2 42) 5 G X (J22) (rr, VV) V2 68 [(0, .ref (G.1 0)), (1, .int a1), (2, .int a2), (3, .int a3)] []) ?_ (fun J22 hJ22 => ?_)
        · refine s_aload_n (q := 69) C 0 dX8_sheet_68 rfl rfl rfl ?_
          refine geX8_15 (q := 72) C (s80 hG) flX8_25 dX8_sheet_69 rfl ?_
          refine s_iload_n (q := 73) C 1 dX8_sheet_72 rfl rfl rfl ?_
          refine s_iload_n (q := 74) C 2 dX8_sheet_73 rfl rfl rfl ?_
          refine s_iast (q := 75) C (qX8_15 hG) (mX8_15 hG) dX8_sheet_74 rfl (fun V23 => ?_)
          refine s_aload_n (q := 76) C 0 dX8_sheet_75 rfl rfl rfl ?_
          refine geX8_16 (q := 79) C (s80 hG) flX8_28 dX8_sheet_76 rfl ?_
          refine s_iload_n (q := 80) C 1 dX8_sheet_79 rfl rfl rfl ?_
          refine s_iload_n (q := 81) C 2 dX8_sheet_80 rfl rfl rfl ?_
          refine s_if_ne (tgt := 88) (q := 84) C dX8_sheet_81 (by decide) rfl (fun c24 => ?_) (fun c24 => ?_)
          · refine s_iconst (q := 85) (v := 0) C dX8_sheet_84 rfl (by decide) ?_
            refine s_goto (q := 89) C dX8_sheet_85 (by decide) ?_
            refine s_iast (q := 90) C (qX8_16 hG) (mX8_16 hG) dX8_sheet_89 rfl (fun V31 => ?_)
            refine s_iconst (q := 91) (v := 0) C dX8_sheet_90 rfl (by decide) ?_
            refine s_istore (q := 93) (L' := [(4, .int 0), (0, .ref (G.1 0)), (1, .int a1), (2, .int a2), (3, .int a3)]) C dX8_sheet_91 rfl (by decide) rfl ?_
            have hL2 : ∀ (n : Nat) (V32 : gV) (x33 : Int32), gSm l (gR 2 42) 5 G X (fX8_sheet_L2 a1 n V32 x33) (rr, VV) V32 93 [(0, .ref (G.1 0)), (1, .int a1), (4, .int x33)] [] := by
              intro n
              induction n with
              | zero => exact fun V32 x33 => s_none
              | succ n ih =>
                intro V32 x33
                show gSm l (gR 2 42) 5 G X (fX8_sheet_L2b a1 (fX8_sheet_L2 a1 n) V32 x33) (rr, VV) V32 93 [(0, .ref (G.1 0)), (1, .int a1), (4, .int x33)] []
                generalize fX8_sheet_L2 a1 n = B34 at ih ⊢
                have hB34 := ih
                unfold fX8_sheet_L2b
                refine s_iload (q := 95) C 2 dX8_sheet_93 rfl rfl ?_
                refine s_bipush (q := 97) (v := 40) C dX8_sheet_95 rfl (by decide) ?_
                refine s_icmp_ge (tgt := 119) (q := 100) C dX8_sheet_97 (by decide) rfl (fun c35 => ?_) (fun c35 => ?_)
                · refine s_iconst (q := 120) (v := 1) C dX8_sheet_119 rfl (by decide) ?_
                  exact s_iret C E dX8_sheet_120
                · refine s_aload_n (q := 101) C 0 dX8_sheet_100 rfl rfl rfl ?_
                  refine geX8_17 (q := 104) C (s80 hG) flX8_31 dX8_sheet_101 rfl ?_
                  refine s_bipush (q := 106) (v := 40) C dX8_sheet_104 rfl (by decide) ?_
                  refine s_iload_n (q := 107) C 1 dX8_sheet_106 rfl rfl rfl ?_
                  refine s_imul (q := 108) C dX8_sheet_107 rfl ?_
                  refine s_iload (q := 110) C 2 dX8_sheet_108 rfl rfl ?_
                  refine s_iadd (q := 111) C dX8_sheet_110 rfl ?_
                  refine s_iconst (q := 112) (v := 0) C dX8_sheet_111 rfl (by decide) ?_
                  refine s_iast (q := 113) C (qX8_17 hG) (mX8_17 hG) dX8_sheet_112 rfl (fun V36 => ?_)
                  refine s_iinc (q := 116) (w := 1) (L' := [(4, .int (x33 + 1)), (0, .ref (G.1 0)), (1, .int a1)]) C 2 dX8_sheet_113 rfl rfl (by decide) rfl (by decide) rfl ?_
                  refine s_goto (q := 93) C dX8_sheet_116 (by decide) ?_
                  refine s_sub [1, 2, 0] rfl ?_
                  exact hB34 V36 ((x33 + 1))
            refine s_sub [1, 2, 0] rfl ?_
            exact hL2 gFu V31 0
          · refine s_iload_n (q := 89) C 3 dX8_sheet_88 rfl rfl rfl ?_
            refine s_iast (q := 90) C (qX8_16 hG) (mX8_16 hG) dX8_sheet_89 rfl (fun V25 => ?_)
            refine s_iconst (q := 91) (v := 0) C dX8_sheet_90 rfl (by decide) ?_
            refine s_istore (q := 93) (L' := [(4, .int 0), (0, .ref (G.1 0)), (1, .int a1), (2, .int a2), (3, .int a3)]) C dX8_sheet_91 rfl (by decide) rfl ?_
            have hL1 : ∀ (n : Nat) (V26 : gV) (x27 : Int32), gSm l (gR 2 42) 5 G X (fX8_sheet_L1 a1 n V26 x27) (rr, VV) V26 93 [(0, .ref (G.1 0)), (1, .int a1), (4, .int x27)] [] := by
              intro n
              induction n with
              | zero => exact fun V26 x27 => s_none
              | succ n ih =>
                intro V26 x27
                show gSm l (gR 2 42) 5 G X (fX8_sheet_L1b a1 (fX8_sheet_L1 a1 n) V26 x27) (rr, VV) V26 93 [(0, .ref (G.1 0)), (1, .int a1), (4, .int x27)] []
                generalize fX8_sheet_L1 a1 n = B28 at ih ⊢
                have hB28 := ih
                unfold fX8_sheet_L1b
                refine s_iload (q := 95) C 2 dX8_sheet_93 rfl rfl ?_
                refine s_bipush (q := 97) (v := 40) C dX8_sheet_95 rfl (by decide) ?_
                refine s_icmp_ge (tgt := 119) (q := 100) C dX8_sheet_97 (by decide) rfl (fun c29 => ?_) (fun c29 => ?_)
                · refine s_iconst (q := 120) (v := 1) C dX8_sheet_119 rfl (by decide) ?_
                  exact s_iret C E dX8_sheet_120
                · refine s_aload_n (q := 101) C 0 dX8_sheet_100 rfl rfl rfl ?_
                  refine geX8_17 (q := 104) C (s80 hG) flX8_31 dX8_sheet_101 rfl ?_
                  refine s_bipush (q := 106) (v := 40) C dX8_sheet_104 rfl (by decide) ?_
                  refine s_iload_n (q := 107) C 1 dX8_sheet_106 rfl rfl rfl ?_
                  refine s_imul (q := 108) C dX8_sheet_107 rfl ?_
                  refine s_iload (q := 110) C 2 dX8_sheet_108 rfl rfl ?_
                  refine s_iadd (q := 111) C dX8_sheet_110 rfl ?_
                  refine s_iconst (q := 112) (v := 0) C dX8_sheet_111 rfl (by decide) ?_
                  refine s_iast (q := 113) C (qX8_17 hG) (mX8_17 hG) dX8_sheet_112 rfl (fun V30 => ?_)
                  refine s_iinc (q := 116) (w := 1) (L' := [(4, .int (x27 + 1)), (0, .ref (G.1 0)), (1, .int a1)]) C 2 dX8_sheet_113 rfl rfl (by decide) rfl (by decide) rfl ?_
                  refine s_goto (q := 93) C dX8_sheet_116 (by decide) ?_
                  refine s_sub [1, 2, 0] rfl ?_
                  exact hB28 V30 ((x27 + 1))
            refine s_sub [1, 2, 0] rfl ?_
            exact hL1 gFu V25 0
        · refine s_if_eq (tgt := 68) (q := 55) C dX8_sheet_52 (by decide) rfl (fun c37 => ?_) (fun c37 => ?_)
          · refine s_sub [0, 1, 2, 3] rfl ?_
            exact hJ22
          · refine s_iload_n (q := 56) C 3 dX8_sheet_55 rfl rfl rfl ?_
            refine s_bipush (q := 58) (v := 40) C dX8_sheet_56 rfl (by decide) ?_
            refine s_icmp_le (tgt := 68) (q := 61) C dX8_sheet_58 (by decide) rfl (fun c38 => ?_) (fun c38 => ?_)
            · refine s_sub [0, 1, 2, 3] rfl ?_
              exact hJ22
            · refine s_aload_n (q := 62) C 0 dX8_sheet_61 rfl rfl rfl ?_
              refine s_ldc (q := 64) (v := (-1000000001)) C dX8_sheet_62 rfl kX8_48 ?_
              refine s_Vi (q := 67) (As := [.int (-1000000001)]) (st := []) C (uX8_errs l G hG V2 (-1000000001)) yvX8_errs mlX8_49 (s80 hG) rfl rfl rfl rfl rfl rfl (gR_le (by decide) (by decide)) (Nat.le_of_ble_eq_true rfl) dX8_sheet_64 rfl (fun x39 V40 => ?_)
              exact s_iret C E dX8_sheet_67
      · refine s_if_eq (tgt := 51) (q := 40) C dX8_sheet_37 (by decide) rfl (fun c41 => ?_) (fun c41 => ?_)
        · refine s_sub [0, 1, 2, 3] rfl ?_
          exact hJ17
        · refine s_iload_n (q := 41) C 3 dX8_sheet_40 rfl rfl rfl ?_
          refine s_if_ge (tgt := 51) (q := 44) C dX8_sheet_41 (by decide) rfl (fun c42 => ?_) (fun c42 => ?_)
          · refine s_sub [0, 1, 2, 3] rfl ?_
            exact hJ17
          · refine s_aload_n (q := 45) C 0 dX8_sheet_44 rfl rfl rfl ?_
            refine s_ldc (q := 47) (v := (-1000000003)) C dX8_sheet_45 rfl kX8_90 ?_
            refine s_Vi (q := 50) (As := [.int (-1000000003)]) (st := []) C (uX8_errs l G hG V2 (-1000000003)) yvX8_errs mlX8_49 (s80 hG) rfl rfl rfl rfl rfl rfl (gR_le (by decide) (by decide)) (Nat.le_of_ble_eq_true rfl) dX8_sheet_47 rfl (fun x43 V44 => ?_)
            exact s_iret C E dX8_sheet_50
    · refine s_if_eq (tgt := 36) (q := 11) C dX8_sheet_8 (by decide) rfl (fun c45 => ?_) (fun c45 => ?_)
      · refine s_sub [0, 1, 2, 3] rfl ?_
        exact hJ12
      · refine s_iload_n (q := 12) C 2 dX8_sheet_11 rfl rfl rfl ?_
        refine s_bipush (q := 14) (v := 8) C dX8_sheet_12 rfl (by decide) ?_
        refine s_icmp_eq (tgt := 36) (q := 17) C dX8_sheet_14 (by decide) rfl (fun c46 => ?_) (fun c46 => ?_)
        · refine s_sub [0, 1, 2, 3] rfl ?_
          exact hJ12
        · refine s_iload_n (q := 18) C 2 dX8_sheet_17 rfl rfl rfl ?_
          refine s_bipush (q := 20) (v := 16) C dX8_sheet_18 rfl (by decide) ?_
          refine s_icmp_eq (tgt := 36) (q := 23) C dX8_sheet_20 (by decide) rfl (fun c47 => ?_) (fun c47 => ?_)
          · refine s_sub [0, 1, 2, 3] rfl ?_
            exact hJ12
          · refine s_iload_n (q := 24) C 2 dX8_sheet_23 rfl rfl rfl ?_
            refine s_bipush (q := 26) (v := 32) C dX8_sheet_24 rfl (by decide) ?_
            refine s_icmp_eq (tgt := 36) (q := 29) C dX8_sheet_26 (by decide) rfl (fun c48 => ?_) (fun c48 => ?_)
            · refine s_sub [0, 1, 2, 3] rfl ?_
              exact hJ12
            · refine s_aload_n (q := 30) C 0 dX8_sheet_29 rfl rfl rfl ?_
              refine s_ldc (q := 32) (v := (-1000000001)) C dX8_sheet_30 rfl kX8_48 ?_
              refine s_Vi (q := 35) (As := [.int (-1000000001)]) (st := []) C (uX8_errs l G hG V2 (-1000000001)) yvX8_errs mlX8_49 (s80 hG) rfl rfl rfl rfl rfl rfl (gR_le (by decide) (by decide)) (Nat.le_of_ble_eq_true rfl) dX8_sheet_32 rfl (fun x49 V50 => ?_)
              exact s_iret C E dX8_sheet_35
noncomputable def fX8_put (V : gV) (a1 : Int32) (a2 : Int32) (a3 : Int32) : Option (Int32 × gV) := gbi (fX8_isSheet V a1) fun (x1 : Int32) (V2 : gV) => if x1 = 0 then (gbi (fX8_errs V2 (-1000000001)) fun (x18 : Int32) (V19 : gV) => some (x18, V19)) else (gal V2 (0 + 6) a1 4 fun (x4 : Int32) => if x4 = 0 then (gbi (fX8_errs V2 (-1000000002)) fun (x16 : Int32) (V17 : gV) => some (x16, V17)) else (gal V2 (0 + 7) a1 4 fun (x6 : Int32) => gbi (fX8_in V2 a2 0 (x6 - 1)) fun (x7 : Int32) (V8 : gV) => if x7 = 0 then (gbi (fX8_errs V8 (-1000000001)) fun (x14 : Int32) (V15 : gV) => some (x14, V15)) else (gal V8 (0 + 6) a1 4 fun (x10 : Int32) => gbi (fX8_narrow V8 x10 a3) fun (x11 : Int32) (V12 : gV) => gas V12 (0 + 8) ((40 * a1) + a2) 160 x11 fun (V13 : gV) => some (1, V13))))
set_option maxHeartbeats 4000000 in
set_option maxRecDepth 100000 in
theorem uX8_put (l : Launch) (G : gG) (hG : gIsM G) (V : gV) (a1 : Int32) (a2 : Int32) (a3 : Int32) : gMi l G yX8_put cX8_put 4 Jvm.ClassFile.FieldType.int (gR 2 42) [.ref (G.1 0), .int a1, .int a2, .int a3] V (fX8_put V a1 a2 a3) := by
  unfold fX8_put
  refine gM_i (by decide +kernel) rfl rfl (Nat.le_of_ble_eq_true rfl) (fun X rr VV C E => ?_)
  change gC cX8_put 4 RX8 G X at C
  change gSm l (gR 2 42) 4 G X _ (rr, VV) V 0 [(0, .ref (G.1 0)), (1, .int a1), (2, .int a2), (3, .int a3)] []
  refine s_iload_n (q := 1) C 1 dX8_put_0 rfl rfl rfl ?_
  refine s_Si (q := 4) (As := [.int a1]) (st := []) C (uX8_isSheet l G hG V a1) ysX8_isSheet mlX8_209 rfl rfl rfl rfl (gR_le (by decide) (by decide)) (Nat.le_of_ble_eq_true rfl) dX8_put_1 rfl (fun x1 V2 => ?_)
  refine s_if_ne (tgt := 14) (q := 7) C dX8_put_4 (by decide) rfl (fun c3 => ?_) (fun c3 => ?_)
  · refine s_aload_n (q := 8) C 0 dX8_put_7 rfl rfl rfl ?_
    refine s_ldc (q := 10) (v := (-1000000001)) C dX8_put_8 rfl kX8_48 ?_
    refine s_Vi (q := 13) (As := [.int (-1000000001)]) (st := []) C (uX8_errs l G hG V2 (-1000000001)) yvX8_errs mlX8_49 (s80 hG) rfl rfl rfl rfl rfl rfl (gR_le (by decide) (by decide)) (Nat.le_of_ble_eq_true rfl) dX8_put_10 rfl (fun x18 V19 => ?_)
    exact s_iret C E dX8_put_13
  · refine s_aload_n (q := 15) C 0 dX8_put_14 rfl rfl rfl ?_
    refine geX8_15 (q := 18) C (s80 hG) flX8_25 dX8_put_15 rfl ?_
    refine s_iload_n (q := 19) C 1 dX8_put_18 rfl rfl rfl ?_
    refine s_iald (q := 20) C (qX8_15 hG) dX8_put_19 rfl (fun x4 => ?_)
    refine s_if_ne (tgt := 30) (q := 23) C dX8_put_20 (by decide) rfl (fun c5 => ?_) (fun c5 => ?_)
    · refine s_aload_n (q := 24) C 0 dX8_put_23 rfl rfl rfl ?_
      refine s_ldc (q := 26) (v := (-1000000002)) C dX8_put_24 rfl kX8_199 ?_
      refine s_Vi (q := 29) (As := [.int (-1000000002)]) (st := []) C (uX8_errs l G hG V2 (-1000000002)) yvX8_errs mlX8_49 (s80 hG) rfl rfl rfl rfl rfl rfl (gR_le (by decide) (by decide)) (Nat.le_of_ble_eq_true rfl) dX8_put_26 rfl (fun x16 V17 => ?_)
      exact s_iret C E dX8_put_29
    · refine s_iload_n (q := 31) C 2 dX8_put_30 rfl rfl rfl ?_
      refine s_iconst (q := 32) (v := 0) C dX8_put_31 rfl (by decide) ?_
      refine s_aload_n (q := 33) C 0 dX8_put_32 rfl rfl rfl ?_
      refine geX8_16 (q := 36) C (s80 hG) flX8_28 dX8_put_33 rfl ?_
      refine s_iload_n (q := 37) C 1 dX8_put_36 rfl rfl rfl ?_
      refine s_iald (q := 38) C (qX8_16 hG) dX8_put_37 rfl (fun x6 => ?_)
      refine s_iconst (q := 39) (v := 1) C dX8_put_38 rfl (by decide) ?_
      refine s_isub (q := 40) C dX8_put_39 rfl ?_
      refine s_Si (q := 43) (As := [.int a2, .int 0, .int (x6 - 1)]) (st := []) C (uX8_in l G hG V2 a2 0 (x6 - 1)) ysX8_in mlX8_44 rfl rfl rfl rfl (gR_le (by decide) (by decide)) (Nat.le_of_ble_eq_true rfl) dX8_put_40 rfl (fun x7 V8 => ?_)
      refine s_if_ne (tgt := 53) (q := 46) C dX8_put_43 (by decide) rfl (fun c9 => ?_) (fun c9 => ?_)
      · refine s_aload_n (q := 47) C 0 dX8_put_46 rfl rfl rfl ?_
        refine s_ldc (q := 49) (v := (-1000000001)) C dX8_put_47 rfl kX8_48 ?_
        refine s_Vi (q := 52) (As := [.int (-1000000001)]) (st := []) C (uX8_errs l G hG V8 (-1000000001)) yvX8_errs mlX8_49 (s80 hG) rfl rfl rfl rfl rfl rfl (gR_le (by decide) (by decide)) (Nat.le_of_ble_eq_true rfl) dX8_put_49 rfl (fun x14 V15 => ?_)
        exact s_iret C E dX8_put_52
      · refine s_aload_n (q := 54) C 0 dX8_put_53 rfl rfl rfl ?_
        refine geX8_17 (q := 57) C (s80 hG) flX8_31 dX8_put_54 rfl ?_
        refine s_bipush (q := 59) (v := 40) C dX8_put_57 rfl (by decide) ?_
        refine s_iload_n (q := 60) C 1 dX8_put_59 rfl rfl rfl ?_
        refine s_imul (q := 61) C dX8_put_60 rfl ?_
        refine s_iload_n (q := 62) C 2 dX8_put_61 rfl rfl rfl ?_
        refine s_iadd (q := 63) C dX8_put_62 rfl ?_
        refine s_aload_n (q := 64) C 0 dX8_put_63 rfl rfl rfl ?_
        refine geX8_15 (q := 67) C (s80 hG) flX8_25 dX8_put_64 rfl ?_
        refine s_iload_n (q := 68) C 1 dX8_put_67 rfl rfl rfl ?_
        refine s_iald (q := 69) C (qX8_15 hG) dX8_put_68 rfl (fun x10 => ?_)
        refine s_iload_n (q := 70) C 3 dX8_put_69 rfl rfl rfl ?_
        refine s_Si (q := 73) (As := [.int x10, .int a3]) (st := [.int ((40 * a1) + a2), .ref (G.1 (0 + 8))]) C (uX8_narrow l G hG V8 x10 a3) ysX8_narrow mlX8_245 rfl rfl rfl rfl (gR_le (by decide) (by decide)) (Nat.le_of_ble_eq_true rfl) dX8_put_70 rfl (fun x11 V12 => ?_)
        refine s_iast (q := 74) C (qX8_17 hG) (mX8_17 hG) dX8_put_73 rfl (fun V13 => ?_)
        refine s_iconst (q := 75) (v := 1) C dX8_put_74 rfl (by decide) ?_
        exact s_iret C E dX8_put_75
noncomputable def fX8_move_L2b (a3 : Int32) (a4 : Int32) (a5 : Int32) (B39 : gV → Int32 → Option (Int32 × gV)) (V37 : gV) (x38 : Int32) : Option (Int32 × gV) := if a5 ≤ x38 then (some (a5, V37)) else (gal V37 (0 + 9) x38 40 fun (x41 : Int32) => gas V37 (0 + 8) (((40 * a3) + a4) + x38) 160 x41 fun (V42 : gV) => B39 V42 ((x38 + 1)))
noncomputable def fX8_move_L2 (a3 : Int32) (a4 : Int32) (a5 : Int32) : Nat → gV → Int32 → Option (Int32 × gV)
  | 0 => fun _ _ => none
  | n + 1 => fX8_move_L2b a3 a4 a5 (fX8_move_L2 a3 a4 a5 n)
noncomputable def fX8_move_L1b (a1 : Int32) (a2 : Int32) (a3 : Int32) (a4 : Int32) (a5 : Int32) (B35 : gV → Int32 → Option (Int32 × gV)) (V33 : gV) (x34 : Int32) : Option (Int32 × gV) := if a5 ≤ x34 then (fX8_move_L2 a3 a4 a5 gFu V33 0) else (gal V33 (0 + 8) (((40 * a1) + a2) + x34) 160 fun (x43 : Int32) => gas V33 (0 + 9) x34 40 x43 fun (V44 : gV) => B35 V44 ((x34 + 1)))
noncomputable def fX8_move_L1 (a1 : Int32) (a2 : Int32) (a3 : Int32) (a4 : Int32) (a5 : Int32) : Nat → gV → Int32 → Option (Int32 × gV)
  | 0 => fun _ _ => none
  | n + 1 => fX8_move_L1b a1 a2 a3 a4 a5 (fX8_move_L1 a1 a2 a3 a4 a5 n)
noncomputable def fX8_move (V : gV) (a1 : Int32) (a2 : Int32) (a3 : Int32) (a4 : Int32) (a5 : Int32) : Option (Int32 × gV) := gbi (fX8_isSheet V a1) fun (x1 : Int32) (V2 : gV) => if x1 = 0 then (gbi (fX8_errs V2 (-1000000001)) fun (x4 : Int32) (V5 : gV) => some (x4, V5)) else (gbi (fX8_isSheet V2 a3) fun (x6 : Int32) (V7 : gV) => if x6 = 0 then (gbi (fX8_errs V7 (-1000000001)) fun (x51 : Int32) (V52 : gV) => some (x51, V52)) else (gal V7 (0 + 6) a1 4 fun (x9 : Int32) => if x9 = 0 then (gbi (fX8_errs V7 (-1000000002)) fun (x11 : Int32) (V12 : gV) => some (x11, V12)) else (gal V7 (0 + 6) a3 4 fun (x13 : Int32) => if x13 = 0 then (gbi (fX8_errs V7 (-1000000002)) fun (x49 : Int32) (V50 : gV) => some (x49, V50)) else (gal V7 (0 + 6) a1 4 fun (x15 : Int32) => gal V7 (0 + 6) a3 4 fun (x16 : Int32) => if x15 = x16 then (if a5 < 0 then (gbi (fX8_errs V7 (-1000000001)) fun (x19 : Int32) (V20 : gV) => some (x19, V20)) else (if a2 < 0 then (gbi (fX8_errs V7 (-1000000001)) fun (x22 : Int32) (V23 : gV) => some (x22, V23)) else (if a4 < 0 then (gbi (fX8_errs V7 (-1000000001)) fun (x25 : Int32) (V26 : gV) => some (x25, V26)) else (gal V7 (0 + 7) a1 4 fun (x27 : Int32) => if (x27 - a5) < a2 then (gbi (fX8_errs V7 (-1000000001)) fun (x29 : Int32) (V30 : gV) => some (x29, V30)) else (gal V7 (0 + 7) a3 4 fun (x31 : Int32) => if a4 ≤ (x31 - a5) then (fX8_move_L1 a1 a2 a3 a4 a5 gFu V7 0) else (gbi (fX8_errs V7 (-1000000001)) fun (x45 : Int32) (V46 : gV) => some (x45, V46))))))) else (gbi (fX8_errs V7 (-1000000005)) fun (x47 : Int32) (V48 : gV) => some (x47, V48))))))
set_option maxHeartbeats 4000000 in
set_option maxRecDepth 100000 in
theorem uX8_move (l : Launch) (G : gG) (hG : gIsM G) (V : gV) (a1 : Int32) (a2 : Int32) (a3 : Int32) (a4 : Int32) (a5 : Int32) : gMi l G yX8_move cX8_move 7 Jvm.ClassFile.FieldType.int (gR 2 42) [.ref (G.1 0), .int a1, .int a2, .int a3, .int a4, .int a5] V (fX8_move V a1 a2 a3 a4 a5) := by
  unfold fX8_move
  refine gM_i (by decide +kernel) rfl rfl (Nat.le_of_ble_eq_true rfl) (fun X rr VV C E => ?_)
  change gC cX8_move 7 RX8 G X at C
  change gSm l (gR 2 42) 7 G X _ (rr, VV) V 0 [(0, .ref (G.1 0)), (1, .int a1), (2, .int a2), (3, .int a3), (4, .int a4), (5, .int a5)] []
  refine s_iload_n (q := 1) C 1 dX8_move_0 rfl rfl rfl ?_
  refine s_Si (q := 4) (As := [.int a1]) (st := []) C (uX8_isSheet l G hG V a1) ysX8_isSheet mlX8_209 rfl rfl rfl rfl (gR_le (by decide) (by decide)) (Nat.le_of_ble_eq_true rfl) dX8_move_1 rfl (fun x1 V2 => ?_)
  refine s_if_eq (tgt := 14) (q := 7) C dX8_move_4 (by decide) rfl (fun c3 => ?_) (fun c3 => ?_)
  · refine s_aload_n (q := 15) C 0 dX8_move_14 rfl rfl rfl ?_
    refine s_ldc (q := 17) (v := (-1000000001)) C dX8_move_15 rfl kX8_48 ?_
    refine s_Vi (q := 20) (As := [.int (-1000000001)]) (st := []) C (uX8_errs l G hG V2 (-1000000001)) yvX8_errs mlX8_49 (s80 hG) rfl rfl rfl rfl rfl rfl (gR_le (by decide) (by decide)) (Nat.le_of_ble_eq_true rfl) dX8_move_17 rfl (fun x4 V5 => ?_)
    exact s_iret C E dX8_move_20
  · refine s_iload_n (q := 8) C 3 dX8_move_7 rfl rfl rfl ?_
    refine s_Si (q := 11) (As := [.int a3]) (st := []) C (uX8_isSheet l G hG V2 a3) ysX8_isSheet mlX8_209 rfl rfl rfl rfl (gR_le (by decide) (by decide)) (Nat.le_of_ble_eq_true rfl) dX8_move_8 rfl (fun x6 V7 => ?_)
    refine s_if_ne (tgt := 21) (q := 14) C dX8_move_11 (by decide) rfl (fun c8 => ?_) (fun c8 => ?_)
    · refine s_aload_n (q := 15) C 0 dX8_move_14 rfl rfl rfl ?_
      refine s_ldc (q := 17) (v := (-1000000001)) C dX8_move_15 rfl kX8_48 ?_
      refine s_Vi (q := 20) (As := [.int (-1000000001)]) (st := []) C (uX8_errs l G hG V7 (-1000000001)) yvX8_errs mlX8_49 (s80 hG) rfl rfl rfl rfl rfl rfl (gR_le (by decide) (by decide)) (Nat.le_of_ble_eq_true rfl) dX8_move_17 rfl (fun x51 V52 => ?_)
      exact s_iret C E dX8_move_20
    · refine s_aload_n (q := 22) C 0 dX8_move_21 rfl rfl rfl ?_
      refine geX8_15 (q := 25) C (s80 hG) flX8_25 dX8_move_22 rfl ?_
      refine s_iload_n (q := 26) C 1 dX8_move_25 rfl rfl rfl ?_
      refine s_iald (q := 27) C (qX8_15 hG) dX8_move_26 rfl (fun x9 => ?_)
      refine s_if_eq (tgt := 39) (q := 30) C dX8_move_27 (by decide) rfl (fun c10 => ?_) (fun c10 => ?_)
      · refine s_aload_n (q := 40) C 0 dX8_move_39 rfl rfl rfl ?_
        refine s_ldc (q := 42) (v := (-1000000002)) C dX8_move_40 rfl kX8_199 ?_
        refine s_Vi (q := 45) (As := [.int (-1000000002)]) (st := []) C (uX8_errs l G hG V7 (-1000000002)) yvX8_errs mlX8_49 (s80 hG) rfl rfl rfl rfl rfl rfl (gR_le (by decide) (by decide)) (Nat.le_of_ble_eq_true rfl) dX8_move_42 rfl (fun x11 V12 => ?_)
        exact s_iret C E dX8_move_45
      · refine s_aload_n (q := 31) C 0 dX8_move_30 rfl rfl rfl ?_
        refine geX8_15 (q := 34) C (s80 hG) flX8_25 dX8_move_31 rfl ?_
        refine s_iload_n (q := 35) C 3 dX8_move_34 rfl rfl rfl ?_
        refine s_iald (q := 36) C (qX8_15 hG) dX8_move_35 rfl (fun x13 => ?_)
        refine s_if_ne (tgt := 46) (q := 39) C dX8_move_36 (by decide) rfl (fun c14 => ?_) (fun c14 => ?_)
        · refine s_aload_n (q := 40) C 0 dX8_move_39 rfl rfl rfl ?_
          refine s_ldc (q := 42) (v := (-1000000002)) C dX8_move_40 rfl kX8_199 ?_
          refine s_Vi (q := 45) (As := [.int (-1000000002)]) (st := []) C (uX8_errs l G hG V7 (-1000000002)) yvX8_errs mlX8_49 (s80 hG) rfl rfl rfl rfl rfl rfl (gR_le (by decide) (by decide)) (Nat.le_of_ble_eq_true rfl) dX8_move_42 rfl (fun x49 V50 => ?_)
          exact s_iret C E dX8_move_45
        · refine s_aload_n (q := 47) C 0 dX8_move_46 rfl rfl rfl ?_
          refine geX8_15 (q := 50) C (s80 hG) flX8_25 dX8_move_47 rfl ?_
          refine s_iload_n (q := 51) C 1 dX8_move_50 rfl rfl rfl ?_
          refine s_iald (q := 52) C (qX8_15 hG) dX8_move_51 rfl (fun x15 => ?_)
          refine s_aload_n (q := 53) C 0 dX8_move_52 rfl rfl rfl ?_
          refine geX8_15 (q := 56) C (s80 hG) flX8_25 dX8_move_53 rfl ?_
          refine s_iload_n (q := 57) C 3 dX8_move_56 rfl rfl rfl ?_
          refine s_iald (q := 58) C (qX8_15 hG) dX8_move_57 rfl (fun x16 => ?_)
          refine s_icmp_eq (tgt := 68) (q := 61) C dX8_move_58 (by decide) rfl (fun c17 => ?_) (fun c17 => ?_)
          · refine s_iload (q := 70) C 5 dX8_move_68 rfl rfl ?_
            refine s_if_lt (tgt := 109) (q := 73) C dX8_move_70 (by decide) rfl (fun c18 => ?_) (fun c18 => ?_)
            · refine s_aload_n (q := 110) C 0 dX8_move_109 rfl rfl rfl ?_
              refine s_ldc (q := 112) (v := (-1000000001)) C dX8_move_110 rfl kX8_48 ?_
              refine s_Vi (q := 115) (As := [.int (-1000000001)]) (st := []) C (uX8_errs l G hG V7 (-1000000001)) yvX8_errs mlX8_49 (s80 hG) rfl rfl rfl rfl rfl rfl (gR_le (by decide) (by decide)) (Nat.le_of_ble_eq_true rfl) dX8_move_112 rfl (fun x19 V20 => ?_)
              exact s_iret C E dX8_move_115
            · refine s_iload_n (q := 74) C 2 dX8_move_73 rfl rfl rfl ?_
              refine s_if_lt (tgt := 109) (q := 77) C dX8_move_74 (by decide) rfl (fun c21 => ?_) (fun c21 => ?_)
              · refine s_aload_n (q := 110) C 0 dX8_move_109 rfl rfl rfl ?_
                refine s_ldc (q := 112) (v := (-1000000001)) C dX8_move_110 rfl kX8_48 ?_
                refine s_Vi (q := 115) (As := [.int (-1000000001)]) (st := []) C (uX8_errs l G hG V7 (-1000000001)) yvX8_errs mlX8_49 (s80 hG) rfl rfl rfl rfl rfl rfl (gR_le (by decide) (by decide)) (Nat.le_of_ble_eq_true rfl) dX8_move_112 rfl (fun x22 V23 => ?_)
                exact s_iret C E dX8_move_115
              · refine s_iload (q := 79) C 4 dX8_move_77 rfl rfl ?_
                refine s_if_lt (tgt := 109) (q := 82) C dX8_move_79 (by decide) rfl (fun c24 => ?_) (fun c24 => ?_)
                · refine s_aload_n (q := 110) C 0 dX8_move_109 rfl rfl rfl ?_
                  refine s_ldc (q := 112) (v := (-1000000001)) C dX8_move_110 rfl kX8_48 ?_
                  refine s_Vi (q := 115) (As := [.int (-1000000001)]) (st := []) C (uX8_errs l G hG V7 (-1000000001)) yvX8_errs mlX8_49 (s80 hG) rfl rfl rfl rfl rfl rfl (gR_le (by decide) (by decide)) (Nat.le_of_ble_eq_true rfl) dX8_move_112 rfl (fun x25 V26 => ?_)
                  exact s_iret C E dX8_move_115
                · refine s_iload_n (q := 83) C 2 dX8_move_82 rfl rfl rfl ?_
                  refine s_aload_n (q := 84) C 0 dX8_move_83 rfl rfl rfl ?_
                  refine geX8_16 (q := 87) C (s80 hG) flX8_28 dX8_move_84 rfl ?_
                  refine s_iload_n (q := 88) C 1 dX8_move_87 rfl rfl rfl ?_
                  refine s_iald (q := 89) C (qX8_16 hG) dX8_move_88 rfl (fun x27 => ?_)
                  refine s_iload (q := 91) C 5 dX8_move_89 rfl rfl ?_
                  refine s_isub (q := 92) C dX8_move_91 rfl ?_
                  refine s_icmp_gt (tgt := 109) (q := 95) C dX8_move_92 (by decide) rfl (fun c28 => ?_) (fun c28 => ?_)
                  · refine s_aload_n (q := 110) C 0 dX8_move_109 rfl rfl rfl ?_
                    refine s_ldc (q := 112) (v := (-1000000001)) C dX8_move_110 rfl kX8_48 ?_
                    refine s_Vi (q := 115) (As := [.int (-1000000001)]) (st := []) C (uX8_errs l G hG V7 (-1000000001)) yvX8_errs mlX8_49 (s80 hG) rfl rfl rfl rfl rfl rfl (gR_le (by decide) (by decide)) (Nat.le_of_ble_eq_true rfl) dX8_move_112 rfl (fun x29 V30 => ?_)
                    exact s_iret C E dX8_move_115
                  · refine s_iload (q := 97) C 4 dX8_move_95 rfl rfl ?_
                    refine s_aload_n (q := 98) C 0 dX8_move_97 rfl rfl rfl ?_
                    refine geX8_16 (q := 101) C (s80 hG) flX8_28 dX8_move_98 rfl ?_
                    refine s_iload_n (q := 102) C 3 dX8_move_101 rfl rfl rfl ?_
                    refine s_iald (q := 103) C (qX8_16 hG) dX8_move_102 rfl (fun x31 => ?_)
                    refine s_iload (q := 105) C 5 dX8_move_103 rfl rfl ?_
                    refine s_isub (q := 106) C dX8_move_105 rfl ?_
                    refine s_icmp_le (tgt := 116) (q := 109) C dX8_move_106 (by decide) rfl (fun c32 => ?_) (fun c32 => ?_)
                    · refine s_iconst (q := 117) (v := 0) C dX8_move_116 rfl (by decide) ?_
                      refine s_istore (q := 119) (L' := [(6, .int 0), (0, .ref (G.1 0)), (1, .int a1), (2, .int a2), (3, .int a3), (4, .int a4), (5, .int a5)]) C dX8_move_117 rfl (by decide) rfl ?_
                      have hL1 : ∀ (n : Nat) (V33 : gV) (x34 : Int32), gSm l (gR 2 42) 7 G X (fX8_move_L1 a1 a2 a3 a4 a5 n V33 x34) (rr, VV) V33 119 [(0, .ref (G.1 0)), (1, .int a1), (2, .int a2), (3, .int a3), (4, .int a4), (5, .int a5), (6, .int x34)] [] := by
                        intro n
                        induction n with
                        | zero => exact fun V33 x34 => s_none
                        | succ n ih =>
                          intro V33 x34
                          show gSm l (gR 2 42) 7 G X (fX8_move_L1b a1 a2 a3 a4 a5 (fX8_move_L1 a1 a2 a3 a4 a5 n) V33 x34) (rr, VV) V33 119 [(0, .ref (G.1 0)), (1, .int a1), (2, .int a2), (3, .int a3), (4, .int a4), (5, .int a5), (6, .int x34)] []
                          generalize fX8_move_L1 a1 a2 a3 a4 a5 n = B35 at ih ⊢
                          have hB35 := ih
                          unfold fX8_move_L1b
                          refine s_iload (q := 121) C 6 dX8_move_119 rfl rfl ?_
                          refine s_iload (q := 123) C 5 dX8_move_121 rfl rfl ?_
                          refine s_icmp_ge (tgt := 153) (q := 126) C dX8_move_123 (by decide) rfl (fun c36 => ?_) (fun c36 => ?_)
                          · refine s_iconst (q := 154) (v := 0) C dX8_move_153 rfl (by decide) ?_
                            refine s_istore (q := 156) (L' := [(6, .int 0), (0, .ref (G.1 0)), (1, .int a1), (2, .int a2), (3, .int a3), (4, .int a4), (5, .int a5)]) C dX8_move_154 rfl (by decide) rfl ?_
                            have hL2 : ∀ (n : Nat) (V37 : gV) (x38 : Int32), gSm l (gR 2 42) 7 G X (fX8_move_L2 a3 a4 a5 n V37 x38) (rr, VV) V37 156 [(0, .ref (G.1 0)), (3, .int a3), (4, .int a4), (5, .int a5), (6, .int x38)] [] := by
                              intro n
                              induction n with
                              | zero => exact fun V37 x38 => s_none
                              | succ n ih =>
                                intro V37 x38
                                show gSm l (gR 2 42) 7 G X (fX8_move_L2b a3 a4 a5 (fX8_move_L2 a3 a4 a5 n) V37 x38) (rr, VV) V37 156 [(0, .ref (G.1 0)), (3, .int a3), (4, .int a4), (5, .int a5), (6, .int x38)] []
                                generalize fX8_move_L2 a3 a4 a5 n = B39 at ih ⊢
                                have hB39 := ih
                                unfold fX8_move_L2b
                                refine s_iload (q := 158) C 4 dX8_move_156 rfl rfl ?_
                                refine s_iload (q := 160) C 3 dX8_move_158 rfl rfl ?_
                                refine s_icmp_ge (tgt := 191) (q := 163) C dX8_move_160 (by decide) rfl (fun c40 => ?_) (fun c40 => ?_)
                                · refine s_iload (q := 193) C 3 dX8_move_191 rfl rfl ?_
                                  exact s_iret C E dX8_move_193
                                · refine s_aload_n (q := 164) C 0 dX8_move_163 rfl rfl rfl ?_
                                  refine geX8_17 (q := 167) C (s80 hG) flX8_31 dX8_move_164 rfl ?_
                                  refine s_bipush (q := 169) (v := 40) C dX8_move_167 rfl (by decide) ?_
                                  refine s_iload_n (q := 170) C 1 dX8_move_169 rfl rfl rfl ?_
                                  refine s_imul (q := 171) C dX8_move_170 rfl ?_
                                  refine s_iload (q := 173) C 2 dX8_move_171 rfl rfl ?_
                                  refine s_iadd (q := 174) C dX8_move_173 rfl ?_
                                  refine s_iload (q := 176) C 4 dX8_move_174 rfl rfl ?_
                                  refine s_iadd (q := 177) C dX8_move_176 rfl ?_
                                  refine s_aload_n (q := 178) C 0 dX8_move_177 rfl rfl rfl ?_
                                  refine geX8_18 (q := 181) C (s80 hG) flX8_34 dX8_move_178 rfl ?_
                                  refine s_iload (q := 183) C 4 dX8_move_181 rfl rfl ?_
                                  refine s_iald (q := 184) C (qX8_18 hG) dX8_move_183 rfl (fun x41 => ?_)
                                  refine s_iast (q := 185) C (qX8_17 hG) (mX8_17 hG) dX8_move_184 rfl (fun V42 => ?_)
                                  refine s_iinc (q := 188) (w := 1) (L' := [(6, .int (x38 + 1)), (0, .ref (G.1 0)), (3, .int a3), (4, .int a4), (5, .int a5)]) C 4 dX8_move_185 rfl rfl (by decide) rfl (by decide) rfl ?_
                                  refine s_goto (q := 156) C dX8_move_188 (by decide) ?_
                                  refine s_sub [1, 2, 3, 4, 0] rfl ?_
                                  exact hB39 V42 ((x38 + 1))
                            refine s_sub [1, 4, 5, 6, 0] rfl ?_
                            exact hL2 gFu V33 0
                          · refine s_aload_n (q := 127) C 0 dX8_move_126 rfl rfl rfl ?_
                            refine geX8_18 (q := 130) C (s80 hG) flX8_34 dX8_move_127 rfl ?_
                            refine s_iload (q := 132) C 6 dX8_move_130 rfl rfl ?_
                            refine s_aload_n (q := 133) C 0 dX8_move_132 rfl rfl rfl ?_
                            refine geX8_17 (q := 136) C (s80 hG) flX8_31 dX8_move_133 rfl ?_
                            refine s_bipush (q := 138) (v := 40) C dX8_move_136 rfl (by decide) ?_
                            refine s_iload_n (q := 139) C 1 dX8_move_138 rfl rfl rfl ?_
                            refine s_imul (q := 140) C dX8_move_139 rfl ?_
                            refine s_iload_n (q := 141) C 2 dX8_move_140 rfl rfl rfl ?_
                            refine s_iadd (q := 142) C dX8_move_141 rfl ?_
                            refine s_iload (q := 144) C 6 dX8_move_142 rfl rfl ?_
                            refine s_iadd (q := 145) C dX8_move_144 rfl ?_
                            refine s_iald (q := 146) C (qX8_17 hG) dX8_move_145 rfl (fun x43 => ?_)
                            refine s_iast (q := 147) C (qX8_18 hG) (mX8_18 hG) dX8_move_146 rfl (fun V44 => ?_)
                            refine s_iinc (q := 150) (w := 1) (L' := [(6, .int (x34 + 1)), (0, .ref (G.1 0)), (1, .int a1), (2, .int a2), (3, .int a3), (4, .int a4), (5, .int a5)]) C 6 dX8_move_147 rfl rfl (by decide) rfl (by decide) rfl ?_
                            refine s_goto (q := 119) C dX8_move_150 (by decide) ?_
                            refine s_sub [1, 2, 3, 4, 5, 6, 0] rfl ?_
                            exact hB35 V44 ((x34 + 1))
                      refine s_sub [1, 2, 3, 4, 5, 6, 0] rfl ?_
                      exact hL1 gFu V7 0
                    · refine s_aload_n (q := 110) C 0 dX8_move_109 rfl rfl rfl ?_
                      refine s_ldc (q := 112) (v := (-1000000001)) C dX8_move_110 rfl kX8_48 ?_
                      refine s_Vi (q := 115) (As := [.int (-1000000001)]) (st := []) C (uX8_errs l G hG V7 (-1000000001)) yvX8_errs mlX8_49 (s80 hG) rfl rfl rfl rfl rfl rfl (gR_le (by decide) (by decide)) (Nat.le_of_ble_eq_true rfl) dX8_move_112 rfl (fun x45 V46 => ?_)
                      exact s_iret C E dX8_move_115
          · refine s_aload_n (q := 62) C 0 dX8_move_61 rfl rfl rfl ?_
            refine s_ldc (q := 64) (v := (-1000000005)) C dX8_move_62 rfl kX8_97 ?_
            refine s_Vi (q := 67) (As := [.int (-1000000005)]) (st := []) C (uX8_errs l G hG V7 (-1000000005)) yvX8_errs mlX8_49 (s80 hG) rfl rfl rfl rfl rfl rfl (gR_le (by decide) (by decide)) (Nat.le_of_ble_eq_true rfl) dX8_move_64 rfl (fun x47 V48 => ?_)
            exact s_iret C E dX8_move_67

noncomputable def fX8_lawOf (V : gV) (a1 : Int32) (a2 : Int32) (a3 : Int32) (a4 : Int32) : Option (Int32 × gV) := gjn (fun (x2 : Int32) => gal V (0 + 1) (6 + a1) 264 fun (x4 : Int32) => if x4 < 0 then (if a1 = 0 then (some (5, V)) else (gdv 3 <| gbi (fX8_held V (1 + (a2 / 3)) x2 99) fun (x7 : Int32) (V8 : gV) => some (x7, V8))) else (gbi (fX8_walks V a1 a2 a3 a4) fun (x9 : Int32) (V10 : gV) => gbi (fX8_held V10 x9 x2 99) fun (x11 : Int32) (V12 : gV) => some (x11, V12))) fun J3 => if a1 = 0 then (J3 1) else (J3 0)
set_option maxHeartbeats 4000000 in
set_option maxRecDepth 100000 in
theorem uX8_lawOf (l : Launch) (G : gG) (hG : gIsM G) (V : gV) (a1 : Int32) (a2 : Int32) (a3 : Int32) (a4 : Int32) : gMi l G yX8_lawOf cX8_lawOf 6 Jvm.ClassFile.FieldType.int (gR 65 1551) [.ref (G.1 0), .int a1, .int a2, .int a3, .int a4] V (fX8_lawOf V a1 a2 a3 a4) := by
  unfold fX8_lawOf
  refine gM_i (by decide +kernel) rfl rfl (Nat.le_of_ble_eq_true rfl) (fun X rr VV C E => ?_)
  change gC cX8_lawOf 6 RX8 G X at C
  change gSm l (gR 65 1551) 6 G X _ (rr, VV) V 0 [(0, .ref (G.1 0)), (1, .int a1), (2, .int a2), (3, .int a3), (4, .int a4)] []
  refine s_iload_n (q := 1) C 1 dX8_lawOf_0 rfl rfl rfl ?_
  refine s_jn (fun J3 => ∀ (x2 : Int32), gSm l (gR 65 1551) 6 G X (J3 x2) (rr, VV) V 9 [(0, .ref (G.1 0)), (1, .int a1), (2, .int a2), (3, .int a3), (4, .int a4)] [.int x2]) ?_ (fun J3 hJ3 => ?_)
  · intro x2
    refine s_istore (q := 11) (L' := [(5, .int x2), (0, .ref (G.1 0)), (1, .int a1), (2, .int a2), (3, .int a3), (4, .int a4)]) C dX8_lawOf_9 rfl (by decide) rfl ?_
    refine s_aload_n (q := 12) C 1 dX8_lawOf_11 rfl rfl rfl ?_
    refine geX8_0 (q := 15) C (s80 hG) flX8_7 dX8_lawOf_12 rfl ?_
    refine s_bipush (q := 17) (v := 6) C dX8_lawOf_15 rfl (by decide) ?_
    refine s_iload_n (q := 18) C 2 dX8_lawOf_17 rfl rfl rfl ?_
    refine s_iadd (q := 19) C dX8_lawOf_18 rfl ?_
    refine s_iald (q := 20) C (qX8_0 hG) dX8_lawOf_19 rfl (fun x4 => ?_)
    refine s_if_lt (tgt := 40) (q := 23) C dX8_lawOf_20 (by decide) rfl (fun c5 => ?_) (fun c5 => ?_)
    · refine s_iload_n (q := 41) C 2 dX8_lawOf_40 rfl rfl rfl ?_
      refine s_if_ne (tgt := 48) (q := 44) C dX8_lawOf_41 (by decide) rfl (fun c6 => ?_) (fun c6 => ?_)
      · refine s_iconst (q := 45) (v := 5) C dX8_lawOf_44 rfl (by decide) ?_
        refine s_goto (q := 60) C dX8_lawOf_45 (by decide) ?_
        exact s_iret C E dX8_lawOf_60
      · refine s_iconst (q := 49) (v := 1) C dX8_lawOf_48 rfl (by decide) ?_
        refine s_iload_n (q := 50) C 3 dX8_lawOf_49 rfl rfl rfl ?_
        refine s_iconst (q := 51) (v := 3) C dX8_lawOf_50 rfl (by decide) ?_
        refine s_idiv (q := 52) C dX8_lawOf_51 rfl ?_
        refine s_iadd (q := 53) C dX8_lawOf_52 rfl ?_
        refine s_iload (q := 55) C 0 dX8_lawOf_53 rfl rfl ?_
        refine s_bipush (q := 57) (v := 99) C dX8_lawOf_55 rfl (by decide) ?_
        refine s_Si (q := 60) (As := [.int (1 + (a2 / 3)), .int x2, .int 99]) (st := []) C (uX8_held l G hG V (1 + (a2 / 3)) x2 99) ysX8_held mlX8_162 rfl rfl rfl rfl (gR_le (by decide) (by decide)) (Nat.le_of_ble_eq_true rfl) dX8_lawOf_57 rfl (fun x7 V8 => ?_)
        exact s_iret C E dX8_lawOf_60
    · refine s_aload_n (q := 24) C 1 dX8_lawOf_23 rfl rfl rfl ?_
      refine s_iload_n (q := 25) C 2 dX8_lawOf_24 rfl rfl rfl ?_
      refine s_iload_n (q := 26) C 3 dX8_lawOf_25 rfl rfl rfl ?_
      refine s_iload_n (q := 27) C 4 dX8_lawOf_26 rfl rfl rfl ?_
      refine s_iload (q := 29) C 5 dX8_lawOf_27 rfl rfl ?_
      refine s_Vi (q := 32) (As := [.int a1, .int a2, .int a3, .int a4]) (st := []) C (uX8_walks l G hG V a1 a2 a3 a4) yvX8_walks mlX8_158 (s80 hG) rfl rfl rfl rfl rfl rfl (gR_le (by decide) (by decide)) (Nat.le_of_ble_eq_true rfl) dX8_lawOf_29 rfl (fun x9 V10 => ?_)
      refine s_iload (q := 34) C 0 dX8_lawOf_32 rfl rfl ?_
      refine s_bipush (q := 36) (v := 99) C dX8_lawOf_34 rfl (by decide) ?_
      refine s_Si (q := 39) (As := [.int x9, .int x2, .int 99]) (st := []) C (uX8_held l G hG V10 x9 x2 99) ysX8_held mlX8_162 rfl rfl rfl rfl (gR_le (by decide) (by decide)) (Nat.le_of_ble_eq_true rfl) dX8_lawOf_36 rfl (fun x11 V12 => ?_)
      exact s_iret C E dX8_lawOf_39
  · refine s_if_ne (tgt := 8) (q := 4) C dX8_lawOf_1 (by decide) rfl (fun c13 => ?_) (fun c13 => ?_)
    · refine s_iconst (q := 5) (v := 1) C dX8_lawOf_4 rfl (by decide) ?_
      refine s_goto (q := 9) C dX8_lawOf_5 (by decide) ?_
      refine s_sub [0, 1, 2, 3, 4] rfl ?_
      exact hJ3 1
    · refine s_iconst (q := 9) (v := 0) C dX8_lawOf_8 rfl (by decide) ?_
      refine s_sub [0, 1, 2, 3, 4] rfl ?_
      exact hJ3 0
noncomputable def fX8_thick (V : gV) (a1 : Int32) : Option (Int32 × gV) := gbi (fX8_its V a1 1) fun (x1 : Int32) (V2 : gV) => gbi (fX8_its V2 a1 0) fun (x3 : Int32) (V4 : gV) => gbi (fX8_its V4 a1 3) fun (x5 : Int32) (V6 : gV) => gbi (fX8_lawOf V6 0 x1 x3 x5) fun (x7 : Int32) (V8 : gV) => gbi (fX8_its V8 a1 0) fun (x9 : Int32) (V10 : gV) => if x9 = 1 then (gdv 2 <| some ((x7 + (x7 / 2)), V10)) else (if x9 = 2 then (if x7 ≤ 1 then (some (1, V10)) else (gdv 2 <| some ((x7 / 2), V10))) else (if x9 = 3 then (some (x7, V10)) else (if x9 = 4 then (gdv 2 <| gbi (fX8_its V10 a1 1) fun (x16 : Int32) (V17 : gV) => some (((x7 + (x7 / 2)) + x16), V17)) else (if x9 = 5 then (if x7 ≤ 1 then (some (1, V10)) else (gdv 2 <| some ((x7 / 2), V10))) else (some (x7, V10))))))
set_option maxHeartbeats 4000000 in
set_option maxRecDepth 100000 in
theorem uX8_thick (l : Launch) (G : gG) (hG : gIsM G) (V : gV) (a1 : Int32) : gMi l G yX8_thick cX8_thick 3 Jvm.ClassFile.FieldType.int (gR 66 1576) [.ref (G.1 0), .int a1] V (fX8_thick V a1) := by
  unfold fX8_thick
  refine gM_i (by decide +kernel) rfl rfl (Nat.le_of_ble_eq_true rfl) (fun X rr VV C E => ?_)
  change gC cX8_thick 3 RX8 G X at C
  change gSm l (gR 66 1576) 3 G X _ (rr, VV) V 0 [(0, .ref (G.1 0)), (1, .int a1)] []
  refine s_aload_n (q := 1) C 0 dX8_thick_0 rfl rfl rfl ?_
  refine s_iconst (q := 2) (v := 0) C dX8_thick_1 rfl (by decide) ?_
  refine s_aload_n (q := 3) C 0 dX8_thick_2 rfl rfl rfl ?_
  refine s_iload_n (q := 4) C 1 dX8_thick_3 rfl rfl rfl ?_
  refine s_iconst (q := 5) (v := 1) C dX8_thick_4 rfl (by decide) ?_
  refine s_Vi (q := 8) (As := [.int a1, .int 1]) (st := [.int 0, .ref (G.1 0)]) C (uX8_its l G hG V a1 1) yvX8_its mlX8_54 (s80 hG) rfl rfl rfl rfl rfl rfl (gR_le (by decide) (by decide)) (Nat.le_of_ble_eq_true rfl) dX8_thick_5 rfl (fun x1 V2 => ?_)
  refine s_aload_n (q := 9) C 0 dX8_thick_8 rfl rfl rfl ?_
  refine s_iload_n (q := 10) C 1 dX8_thick_9 rfl rfl rfl ?_
  refine s_iconst (q := 11) (v := 0) C dX8_thick_10 rfl (by decide) ?_
  refine s_Vi (q := 14) (As := [.int a1, .int 0]) (st := [.int x1, .int 0, .ref (G.1 0)]) C (uX8_its l G hG V2 a1 0) yvX8_its mlX8_54 (s80 hG) rfl rfl rfl rfl rfl rfl (gR_le (by decide) (by decide)) (Nat.le_of_ble_eq_true rfl) dX8_thick_11 rfl (fun x3 V4 => ?_)
  refine s_aload_n (q := 15) C 0 dX8_thick_14 rfl rfl rfl ?_
  refine s_iload_n (q := 16) C 1 dX8_thick_15 rfl rfl rfl ?_
  refine s_iconst (q := 17) (v := 3) C dX8_thick_16 rfl (by decide) ?_
  refine s_Vi (q := 20) (As := [.int a1, .int 3]) (st := [.int x3, .int x1, .int 0, .ref (G.1 0)]) C (uX8_its l G hG V4 a1 3) yvX8_its mlX8_54 (s80 hG) rfl rfl rfl rfl rfl rfl (gR_le (by decide) (by decide)) (Nat.le_of_ble_eq_true rfl) dX8_thick_17 rfl (fun x5 V6 => ?_)
  refine s_Vi (q := 23) (As := [.int 0, .int x1, .int x3, .int x5]) (st := []) C (uX8_lawOf l G hG V6 0 x1 x3 x5) yvX8_lawOf mlX8_166 (s80 hG) rfl rfl rfl rfl rfl rfl (gR_le (by decide) (by decide)) (Nat.le_of_ble_eq_true rfl) dX8_thick_20 rfl (fun x7 V8 => ?_)
  refine s_istore_n (q := 24) (L' := [(2, .int x7), (0, .ref (G.1 0)), (1, .int a1)]) C dX8_thick_23 rfl rfl (by decide) rfl ?_
  refine s_aload_n (q := 25) C 1 dX8_thick_24 rfl rfl rfl ?_
  refine s_iload_n (q := 26) C 2 dX8_thick_25 rfl rfl rfl ?_
  refine s_iconst (q := 27) (v := 0) C dX8_thick_26 rfl (by decide) ?_
  refine s_Vi (q := 30) (As := [.int a1, .int 0]) (st := []) C (uX8_its l G hG V8 a1 0) yvX8_its mlX8_54 (s80 hG) rfl rfl rfl rfl rfl rfl (gR_le (by decide) (by decide)) (Nat.le_of_ble_eq_true rfl) dX8_thick_27 rfl (fun x9 V10 => ?_)
  refine s_case (fun c11 => ?_) (fun c11 => ?_)
  · refine s_tin (q := 64) (off := 34) (c := 1) C c11 dX8_thick_30 (by decide) (by decide) (by decide) (by decide) ?_
    refine s_iload_n (q := 65) C 0 dX8_thick_64 rfl rfl rfl ?_
    refine s_iload_n (q := 66) C 0 dX8_thick_65 rfl rfl rfl ?_
    refine s_iconst (q := 67) (v := 2) C dX8_thick_66 rfl (by decide) ?_
    refine s_idiv (q := 68) C dX8_thick_67 rfl ?_
    refine s_iadd (q := 69) C dX8_thick_68 rfl ?_
    exact s_iret C E dX8_thick_69
  · refine s_case (fun c12 => ?_) (fun c12 => ?_)
    · refine s_tin (q := 83) (off := 53) (c := 2) C c12 dX8_thick_30 (by decide) (by decide) (by decide) (by decide) ?_
      refine s_iload_n (q := 84) C 0 dX8_thick_83 rfl rfl rfl ?_
      refine s_iconst (q := 85) (v := 1) C dX8_thick_84 rfl (by decide) ?_
      refine s_icmp_le (tgt := 94) (q := 88) C dX8_thick_85 (by decide) rfl (fun c13 => ?_) (fun c13 => ?_)
      · refine s_iconst (q := 95) (v := 1) C dX8_thick_94 rfl (by decide) ?_
        exact s_iret C E dX8_thick_95
      · refine s_iload_n (q := 89) C 0 dX8_thick_88 rfl rfl rfl ?_
        refine s_iconst (q := 90) (v := 2) C dX8_thick_89 rfl (by decide) ?_
        refine s_idiv (q := 91) C dX8_thick_90 rfl ?_
        refine s_goto (q := 95) C dX8_thick_91 (by decide) ?_
        exact s_iret C E dX8_thick_95
    · refine s_case (fun c14 => ?_) (fun c14 => ?_)
      · refine s_tin (q := 96) (off := 66) (c := 3) C c14 dX8_thick_30 (by decide) (by decide) (by decide) (by decide) ?_
        refine s_iload_n (q := 97) C 0 dX8_thick_96 rfl rfl rfl ?_
        exact s_iret C E dX8_thick_97
      · refine s_case (fun c15 => ?_) (fun c15 => ?_)
        · refine s_tin (q := 70) (off := 40) (c := 4) C c15 dX8_thick_30 (by decide) (by decide) (by decide) (by decide) ?_
          refine s_iload_n (q := 71) C 0 dX8_thick_70 rfl rfl rfl ?_
          refine s_iload_n (q := 72) C 0 dX8_thick_71 rfl rfl rfl ?_
          refine s_iconst (q := 73) (v := 2) C dX8_thick_72 rfl (by decide) ?_
          refine s_idiv (q := 74) C dX8_thick_73 rfl ?_
          refine s_iadd (q := 75) C dX8_thick_74 rfl ?_
          refine s_aload_n (q := 76) C 1 dX8_thick_75 rfl rfl rfl ?_
          refine s_iload_n (q := 77) C 2 dX8_thick_76 rfl rfl rfl ?_
          refine s_iconst (q := 78) (v := 1) C dX8_thick_77 rfl (by decide) ?_
          refine s_Vi (q := 81) (As := [.int a1, .int 1]) (st := [.int (x7 + (x7 / 2))]) C (uX8_its l G hG V10 a1 1) yvX8_its mlX8_54 (s80 hG) rfl rfl rfl rfl rfl rfl (gR_le (by decide) (by decide)) (Nat.le_of_ble_eq_true rfl) dX8_thick_78 rfl (fun x16 V17 => ?_)
          refine s_iadd (q := 82) C dX8_thick_81 rfl ?_
          exact s_iret C E dX8_thick_82
        · refine s_case (fun c18 => ?_) (fun c18 => ?_)
          · refine s_tin (q := 83) (off := 53) (c := 5) C c18 dX8_thick_30 (by decide) (by decide) (by decide) (by decide) ?_
            refine s_iload_n (q := 84) C 0 dX8_thick_83 rfl rfl rfl ?_
            refine s_iconst (q := 85) (v := 1) C dX8_thick_84 rfl (by decide) ?_
            refine s_icmp_le (tgt := 94) (q := 88) C dX8_thick_85 (by decide) rfl (fun c19 => ?_) (fun c19 => ?_)
            · refine s_iconst (q := 95) (v := 1) C dX8_thick_94 rfl (by decide) ?_
              exact s_iret C E dX8_thick_95
            · refine s_iload_n (q := 89) C 0 dX8_thick_88 rfl rfl rfl ?_
              refine s_iconst (q := 90) (v := 2) C dX8_thick_89 rfl (by decide) ?_
              refine s_idiv (q := 91) C dX8_thick_90 rfl ?_
              refine s_goto (q := 95) C dX8_thick_91 (by decide) ?_
              exact s_iret C E dX8_thick_95
          · refine s_tout (q := 96) C dX8_thick_30 (by have zc11 := lv_neT (k := 1) (a := 1) c11 (by decide); have zc12 := lv_neT (k := 2) (a := 2) c12 (by decide); have zc14 := lv_neT (k := 3) (a := 3) c14 (by decide); have zc15 := lv_neT (k := 4) (a := 4) c15 (by decide); have zc18 := lv_neT (k := 5) (a := 5) c18 (by decide); omega) (by decide) ?_
            refine s_iload_n (q := 97) C 0 dX8_thick_96 rfl rfl rfl ?_
            exact s_iret C E dX8_thick_97
noncomputable def fX8_out (V : gV) (a1 : Int32) : Option (Int32 × gV) := gbi (fX8_its V a1 4) fun (x1 : Int32) (V2 : gV) => gbi (fX8_thick V2 a1) fun (x3 : Int32) (V4 : gV) => gdv x3 <| some ((x1 / x3), V4)
set_option maxHeartbeats 4000000 in
set_option maxRecDepth 100000 in
theorem uX8_out (l : Launch) (G : gG) (hG : gIsM G) (V : gV) (a1 : Int32) : gMi l G yX8_out cX8_out 2 Jvm.ClassFile.FieldType.int (gR 67 1598) [.ref (G.1 0), .int a1] V (fX8_out V a1) := by
  unfold fX8_out
  refine gM_i (by decide +kernel) rfl rfl (Nat.le_of_ble_eq_true rfl) (fun X rr VV C E => ?_)
  change gC cX8_out 2 RX8 G X at C
  change gSm l (gR 67 1598) 2 G X _ (rr, VV) V 0 [(0, .ref (G.1 0)), (1, .int a1)] []
  refine s_aload_n (q := 1) C 0 dX8_out_0 rfl rfl rfl ?_
  refine s_iload_n (q := 2) C 1 dX8_out_1 rfl rfl rfl ?_
  refine s_iconst (q := 3) (v := 4) C dX8_out_2 rfl (by decide) ?_
  refine s_Vi (q := 6) (As := [.int a1, .int 4]) (st := []) C (uX8_its l G hG V a1 4) yvX8_its mlX8_54 (s80 hG) rfl rfl rfl rfl rfl rfl (gR_le (by decide) (by decide)) (Nat.le_of_ble_eq_true rfl) dX8_out_3 rfl (fun x1 V2 => ?_)
  refine s_aload_n (q := 7) C 0 dX8_out_6 rfl rfl rfl ?_
  refine s_iload_n (q := 8) C 1 dX8_out_7 rfl rfl rfl ?_
  refine s_Vi (q := 11) (As := [.int a1]) (st := [.int x1]) C (uX8_thick l G hG V2 a1) yvX8_thick mlX8_81 (s80 hG) rfl rfl rfl rfl rfl rfl (gR_le (by decide) (by decide)) (Nat.le_of_ble_eq_true rfl) dX8_out_8 rfl (fun x3 V4 => ?_)
  refine s_idiv (q := 12) C dX8_out_11 rfl ?_
  exact s_iret C E dX8_out_12
noncomputable def fX8_shows (V : gV) (a1 : Int32) : Option (Int32 × gV) := gbi (fX8_out V a1) fun (x1 : Int32) (V2 : gV) => gbi (fX8_its V2 a1 3) fun (x3 : Int32) (V4 : gV) => if x1 < x3 then (gbi (fX8_its V4 a1 0) fun (x6 : Int32) (V7 : gV) => gjn (gjn (fun (x21 : Int32) (V22 : gV) => gbi (fX8_its V22 a1 (5 + x21)) fun (x24 : Int32) (V25 : gV) => gjn (gbi (fX8_its V25 a1 1) fun (x29 : Int32) (V30 : gV) => if x24 = x29 then (some ((-1), V30)) else (some (x24, V30))) fun J28 => if x6 = 3 then (J28) else (if x6 = 6 then (J28) else (some (x24, V25)))) fun J23 => gjn (fun (V38 : gV) => J23 x1 V38) fun J39 => if x6 = 5 then (gbi (fX8_its V7 a1 3) fun (x41 : Int32) (V42 : gV) => if x41 ≤ (x1 + 1) then (J39 V42) else (J23 ((x1 + 1)) V42)) else (J39 V7)) fun J10 => if x6 = 6 then (if x1 < 3 then (J10) else (some ((-1), V7))) else (J10)) else (some ((-1), V4))
set_option maxHeartbeats 4000000 in
set_option maxRecDepth 100000 in
theorem uX8_shows (l : Launch) (G : gG) (hG : gIsM G) (V : gV) (a1 : Int32) : gMi l G yX8_shows cX8_shows 6 Jvm.ClassFile.FieldType.int (gR 68 1619) [.ref (G.1 0), .int a1] V (fX8_shows V a1) := by
  unfold fX8_shows
  refine gM_i (by decide +kernel) rfl rfl (Nat.le_of_ble_eq_true rfl) (fun X rr VV C E => ?_)
  change gC cX8_shows 6 RX8 G X at C
  change gSm l (gR 68 1619) 6 G X _ (rr, VV) V 0 [(0, .ref (G.1 0)), (1, .int a1)] []
  refine s_aload_n (q := 1) C 0 dX8_shows_0 rfl rfl rfl ?_
  refine s_iload_n (q := 2) C 1 dX8_shows_1 rfl rfl rfl ?_
  refine s_Vi (q := 5) (As := [.int a1]) (st := []) C (uX8_out l G hG V a1) yvX8_out mlX8_91 (s80 hG) rfl rfl rfl rfl rfl rfl (gR_le (by decide) (by decide)) (Nat.le_of_ble_eq_true rfl) dX8_shows_2 rfl (fun x1 V2 => ?_)
  refine s_istore_n (q := 6) (L' := [(2, .int x1), (0, .ref (G.1 0)), (1, .int a1)]) C dX8_shows_5 rfl rfl (by decide) rfl ?_
  refine s_iload_n (q := 7) C 0 dX8_shows_6 rfl rfl rfl ?_
  refine s_aload_n (q := 8) C 1 dX8_shows_7 rfl rfl rfl ?_
  refine s_iload_n (q := 9) C 2 dX8_shows_8 rfl rfl rfl ?_
  refine s_iconst (q := 10) (v := 3) C dX8_shows_9 rfl (by decide) ?_
  refine s_Vi (q := 13) (As := [.int a1, .int 3]) (st := [.int x1]) C (uX8_its l G hG V2 a1 3) yvX8_its mlX8_54 (s80 hG) rfl rfl rfl rfl rfl rfl (gR_le (by decide) (by decide)) (Nat.le_of_ble_eq_true rfl) dX8_shows_10 rfl (fun x3 V4 => ?_)
  refine s_icmp_lt (tgt := 18) (q := 16) C dX8_shows_13 (by decide) rfl (fun c5 => ?_) (fun c5 => ?_)
  · refine s_aload_n (q := 19) C 1 dX8_shows_18 rfl rfl rfl ?_
    refine s_iload_n (q := 20) C 2 dX8_shows_19 rfl rfl rfl ?_
    refine s_iconst (q := 21) (v := 0) C dX8_shows_20 rfl (by decide) ?_
    refine s_Vi (q := 24) (As := [.int a1, .int 0]) (st := []) C (uX8_its l G hG V4 a1 0) yvX8_its mlX8_54 (s80 hG) rfl rfl rfl rfl rfl rfl (gR_le (by decide) (by decide)) (Nat.le_of_ble_eq_true rfl) dX8_shows_21 rfl (fun x6 V7 => ?_)
    refine s_istore_n (q := 25) (L' := [(3, .int x6), (2, .int x1), (0, .ref (G.1 0)), (1, .int a1)]) C dX8_shows_24 rfl rfl (by decide) rfl ?_
    refine s_iload_n (q := 26) C 0 dX8_shows_25 rfl rfl rfl ?_
    refine s_bipush (q := 28) (v := 6) C dX8_shows_26 rfl (by decide) ?_
    refine s_jn (fun J10 => gSm l (gR 68 1619) 6 G X (J10) (rr, VV) V7 38 [(0, .ref (G.1 0)), (1, .int a1), (2, .int x1), (3, .int x6)] []) ?_ (fun J10 hJ10 => ?_)
    · refine s_iload_n (q := 39) C 3 dX8_shows_38 rfl rfl rfl ?_
      refine s_iconst (q := 40) (v := 5) C dX8_shows_39 rfl (by decide) ?_
      refine s_jn (fun J23 => ∀ (x21 : Int32) (V22 : gV), gSm l (gR 68 1619) 6 G X (J23 x21 V22) (rr, VV) V22 62 [(0, .ref (G.1 0)), (1, .int a1), (3, .int x6)] [.int x21]) ?_ (fun J23 hJ23 => ?_)
      · intro x21 V22
        refine s_istore (q := 64) (L' := [(4, .int x21), (0, .ref (G.1 0)), (1, .int a1), (3, .int x6)]) C dX8_shows_62 rfl (by decide) rfl ?_
        refine s_aload_n (q := 65) C 1 dX8_shows_64 rfl rfl rfl ?_
        refine s_iload_n (q := 66) C 2 dX8_shows_65 rfl rfl rfl ?_
        refine s_iconst (q := 67) (v := 5) C dX8_shows_66 rfl (by decide) ?_
        refine s_iload (q := 69) C 0 dX8_shows_67 rfl rfl ?_
        refine s_iadd (q := 70) C dX8_shows_69 rfl ?_
        refine s_Vi (q := 73) (As := [.int a1, .int (5 + x21)]) (st := []) C (uX8_its l G hG V22 a1 (5 + x21)) yvX8_its mlX8_54 (s80 hG) rfl rfl rfl rfl rfl rfl (gR_le (by decide) (by decide)) (Nat.le_of_ble_eq_true rfl) dX8_shows_70 rfl (fun x24 V25 => ?_)
        refine s_istore (q := 75) (L' := [(5, .int x24), (4, .int x21), (0, .ref (G.1 0)), (1, .int a1), (3, .int x6)]) C dX8_shows_73 rfl (by decide) rfl ?_
        refine s_iload_n (q := 76) C 4 dX8_shows_75 rfl rfl rfl ?_
        refine s_iconst (q := 77) (v := 3) C dX8_shows_76 rfl (by decide) ?_
        refine s_jn (fun J28 => gSm l (gR 68 1619) 6 G X (J28) (rr, VV) V25 86 [(0, .ref (G.1 0)), (1, .int a1), (5, .int x24)] []) ?_ (fun J28 hJ28 => ?_)
        · refine s_iload (q := 88) C 2 dX8_shows_86 rfl rfl ?_
          refine s_aload_n (q := 89) C 0 dX8_shows_88 rfl rfl rfl ?_
          refine s_iload_n (q := 90) C 1 dX8_shows_89 rfl rfl rfl ?_
          refine s_iconst (q := 91) (v := 1) C dX8_shows_90 rfl (by decide) ?_
          refine s_Vi (q := 94) (As := [.int a1, .int 1]) (st := [.int x24]) C (uX8_its l G hG V25 a1 1) yvX8_its mlX8_54 (s80 hG) rfl rfl rfl rfl rfl rfl (gR_le (by decide) (by decide)) (Nat.le_of_ble_eq_true rfl) dX8_shows_91 rfl (fun x29 V30 => ?_)
          refine s_icmp_ne (tgt := 101) (q := 97) C dX8_shows_94 (by decide) rfl (fun c31 => ?_) (fun c31 => ?_)
          · refine s_iconst (q := 98) (v := (-1)) C dX8_shows_97 rfl (by decide) ?_
            refine s_goto (q := 103) C dX8_shows_98 (by decide) ?_
            exact s_iret C E dX8_shows_103
          · refine s_iload (q := 103) C 2 dX8_shows_101 rfl rfl ?_
            exact s_iret C E dX8_shows_103
        · refine s_icmp_eq (tgt := 86) (q := 80) C dX8_shows_77 (by decide) rfl (fun c32 => ?_) (fun c32 => ?_)
          · refine s_sub [2, 3, 0] rfl ?_
            exact hJ28
          · refine s_iload_n (q := 81) C 4 dX8_shows_80 rfl rfl rfl ?_
            refine s_bipush (q := 83) (v := 6) C dX8_shows_81 rfl (by decide) ?_
            refine s_icmp_ne (tgt := 101) (q := 86) C dX8_shows_83 (by decide) rfl (fun c33 => ?_) (fun c33 => ?_)
            · refine s_sub [2, 3, 0] rfl ?_
              exact hJ28
            · refine s_iload (q := 103) C 0 dX8_shows_101 rfl rfl ?_
              exact s_iret C E dX8_shows_103
      · refine s_jn (fun J39 => ∀ (V38 : gV), gSm l (gR 68 1619) 6 G X (J39 V38) (rr, VV) V38 61 [(0, .ref (G.1 0)), (1, .int a1), (2, .int x1), (3, .int x6)] []) ?_ (fun J39 hJ39 => ?_)
        · intro V38
          refine s_iload_n (q := 62) C 2 dX8_shows_61 rfl rfl rfl ?_
          refine s_sub [0, 1, 3] rfl ?_
          exact hJ23 x1 V38
        · refine s_icmp_ne (tgt := 61) (q := 43) C dX8_shows_40 (by decide) rfl (fun c40 => ?_) (fun c40 => ?_)
          · refine s_iload_n (q := 44) C 2 dX8_shows_43 rfl rfl rfl ?_
            refine s_iconst (q := 45) (v := 1) C dX8_shows_44 rfl (by decide) ?_
            refine s_iadd (q := 46) C dX8_shows_45 rfl ?_
            refine s_aload_n (q := 47) C 0 dX8_shows_46 rfl rfl rfl ?_
            refine s_iload_n (q := 48) C 1 dX8_shows_47 rfl rfl rfl ?_
            refine s_iconst (q := 49) (v := 3) C dX8_shows_48 rfl (by decide) ?_
            refine s_Vi (q := 52) (As := [.int a1, .int 3]) (st := [.int (x1 + 1)]) C (uX8_its l G hG V7 a1 3) yvX8_its mlX8_54 (s80 hG) rfl rfl rfl rfl rfl rfl (gR_le (by decide) (by decide)) (Nat.le_of_ble_eq_true rfl) dX8_shows_49 rfl (fun x41 V42 => ?_)
            refine s_icmp_ge (tgt := 61) (q := 55) C dX8_shows_52 (by decide) rfl (fun c43 => ?_) (fun c43 => ?_)
            · refine s_sub [0, 1, 2, 3] rfl ?_
              exact hJ39 V42
            · refine s_iload_n (q := 56) C 2 dX8_shows_55 rfl rfl rfl ?_
              refine s_iconst (q := 57) (v := 1) C dX8_shows_56 rfl (by decide) ?_
              refine s_iadd (q := 58) C dX8_shows_57 rfl ?_
              refine s_goto (q := 62) C dX8_shows_58 (by decide) ?_
              refine s_sub [0, 1, 3] rfl ?_
              exact hJ23 ((x1 + 1)) V42
          · refine s_sub [0, 1, 2, 3] rfl ?_
            exact hJ39 V7
    · refine s_icmp_ne (tgt := 38) (q := 31) C dX8_shows_28 (by decide) rfl (fun c44 => ?_) (fun c44 => ?_)
      · refine s_iload_n (q := 32) C 1 dX8_shows_31 rfl rfl rfl ?_
        refine s_iconst (q := 33) (v := 3) C dX8_shows_32 rfl (by decide) ?_
        refine s_icmp_lt (tgt := 38) (q := 36) C dX8_shows_33 (by decide) rfl (fun c45 => ?_) (fun c45 => ?_)
        · refine s_sub [2, 3, 1, 0] rfl ?_
          exact hJ10
        · refine s_iconst (q := 37) (v := (-1)) C dX8_shows_36 rfl (by decide) ?_
          exact s_iret C E dX8_shows_37
      · refine s_sub [2, 3, 1, 0] rfl ?_
        exact hJ10
  · refine s_iconst (q := 17) (v := (-1)) C dX8_shows_16 rfl (by decide) ?_
    exact s_iret C E dX8_shows_17
noncomputable def fX8_guestsIn_L1b (a1 : Int32) (B4 : gV → Int32 → Int32 → Option (Int32 × gV)) (V1 : gV) (x2 : Int32) (x3 : Int32) : Option (Int32 × gV) := gal V1 (0 + 1) 3 264 fun (x5 : Int32) => if x5 ≤ x3 then (some (x2, V1)) else (gbi (fX8_shows V1 x3) fun (x7 : Int32) (V8 : gV) => gbi (fX8_its V8 x3 2) fun (x9 : Int32) (V10 : gV) => if x9 = a1 then (if x7 < 0 then (glt (x2 ||| 0) fun (x14 : Int32) => B4 V10 x14 ((x3 + 1))) else (glt (x2 ||| (1 <<< (x7 &&& 31))) fun (x15 : Int32) => B4 V10 x15 ((x3 + 1)))) else (glt (x2 ||| 0) fun (x12 : Int32) => B4 V10 x12 ((x3 + 1))))
noncomputable def fX8_guestsIn_L1 (a1 : Int32) : Nat → gV → Int32 → Int32 → Option (Int32 × gV)
  | 0 => fun _ _ _ => none
  | n + 1 => fX8_guestsIn_L1b a1 (fX8_guestsIn_L1 a1 n)
noncomputable def fX8_guestsIn (V : gV) (a1 : Int32) : Option (Int32 × gV) := fX8_guestsIn_L1 a1 gFu V 0 0
set_option maxHeartbeats 4000000 in
set_option maxRecDepth 100000 in
theorem uX8_guestsIn (l : Launch) (G : gG) (hG : gIsM G) (V : gV) (a1 : Int32) : gMi l G yX8_guestsIn cX8_guestsIn 5 Jvm.ClassFile.FieldType.int (gR 69 1644) [.ref (G.1 0), .int a1] V (fX8_guestsIn V a1) := by
  unfold fX8_guestsIn
  refine gM_i (by decide +kernel) rfl rfl (Nat.le_of_ble_eq_true rfl) (fun X rr VV C E => ?_)
  change gC cX8_guestsIn 5 RX8 G X at C
  change gSm l (gR 69 1644) 5 G X _ (rr, VV) V 0 [(0, .ref (G.1 0)), (1, .int a1)] []
  refine s_iconst (q := 1) (v := 0) C dX8_guestsIn_0 rfl (by decide) ?_
  refine s_istore_n (q := 2) (L' := [(2, .int 0), (0, .ref (G.1 0)), (1, .int a1)]) C dX8_guestsIn_1 rfl rfl (by decide) rfl ?_
  refine s_iconst (q := 3) (v := 0) C dX8_guestsIn_2 rfl (by decide) ?_
  refine s_istore_n (q := 4) (L' := [(3, .int 0), (2, .int 0), (0, .ref (G.1 0)), (1, .int a1)]) C dX8_guestsIn_3 rfl rfl (by decide) rfl ?_
  have hL1 : ∀ (n : Nat) (V1 : gV) (x2 : Int32) (x3 : Int32), gSm l (gR 69 1644) 5 G X (fX8_guestsIn_L1 a1 n V1 x2 x3) (rr, VV) V1 4 [(0, .ref (G.1 0)), (1, .int a1), (2, .int x2), (3, .int x3)] [] := by
    intro n
    induction n with
    | zero => exact fun V1 x2 x3 => s_none
    | succ n ih =>
      intro V1 x2 x3
      show gSm l (gR 69 1644) 5 G X (fX8_guestsIn_L1b a1 (fX8_guestsIn_L1 a1 n) V1 x2 x3) (rr, VV) V1 4 [(0, .ref (G.1 0)), (1, .int a1), (2, .int x2), (3, .int x3)] []
      generalize fX8_guestsIn_L1 a1 n = B4 at ih ⊢
      have hB4 := ih
      unfold fX8_guestsIn_L1b
      refine s_iload_n (q := 5) C 3 dX8_guestsIn_4 rfl rfl rfl ?_
      refine s_aload_n (q := 6) C 0 dX8_guestsIn_5 rfl rfl rfl ?_
      refine geX8_0 (q := 9) C (s80 hG) flX8_7 dX8_guestsIn_6 rfl ?_
      refine s_iconst (q := 10) (v := 3) C dX8_guestsIn_9 rfl (by decide) ?_
      refine s_iald (q := 11) C (qX8_0 hG) dX8_guestsIn_10 rfl (fun x5 => ?_)
      refine s_icmp_ge (tgt := 53) (q := 14) C dX8_guestsIn_11 (by decide) rfl (fun c6 => ?_) (fun c6 => ?_)
      · refine s_iload_n (q := 54) C 2 dX8_guestsIn_53 rfl rfl rfl ?_
        exact s_iret C E dX8_guestsIn_54
      · refine s_aload_n (q := 15) C 0 dX8_guestsIn_14 rfl rfl rfl ?_
        refine s_iload_n (q := 16) C 3 dX8_guestsIn_15 rfl rfl rfl ?_
        refine s_Vi (q := 19) (As := [.int x3]) (st := []) C (uX8_shows l G hG V1 x3) yvX8_shows mlX8_58 (s80 hG) rfl rfl rfl rfl rfl rfl (gR_le (by decide) (by decide)) (Nat.le_of_ble_eq_true rfl) dX8_guestsIn_16 rfl (fun x7 V8 => ?_)
        refine s_istore (q := 21) (L' := [(4, .int x7), (0, .ref (G.1 0)), (1, .int a1), (2, .int x2), (3, .int x3)]) C dX8_guestsIn_19 rfl (by decide) rfl ?_
        refine s_iload_n (q := 22) C 3 dX8_guestsIn_21 rfl rfl rfl ?_
        refine s_aload_n (q := 23) C 1 dX8_guestsIn_22 rfl rfl rfl ?_
        refine s_iload_n (q := 24) C 4 dX8_guestsIn_23 rfl rfl rfl ?_
        refine s_iconst (q := 25) (v := 2) C dX8_guestsIn_24 rfl (by decide) ?_
        refine s_Vi (q := 28) (As := [.int x3, .int 2]) (st := [.int x2]) C (uX8_its l G hG V8 x3 2) yvX8_its mlX8_54 (s80 hG) rfl rfl rfl rfl rfl rfl (gR_le (by decide) (by decide)) (Nat.le_of_ble_eq_true rfl) dX8_guestsIn_25 rfl (fun x9 V10 => ?_)
        refine s_iload_n (q := 29) C 2 dX8_guestsIn_28 rfl rfl rfl ?_
        refine s_icmp_ne (tgt := 44) (q := 32) C dX8_guestsIn_29 (by decide) rfl (fun c11 => ?_) (fun c11 => ?_)
        · refine s_iload (q := 34) C 0 dX8_guestsIn_32 rfl rfl ?_
          refine s_if_lt (tgt := 44) (q := 37) C dX8_guestsIn_34 (by decide) rfl (fun c13 => ?_) (fun c13 => ?_)
          · refine s_iconst (q := 45) (v := 0) C dX8_guestsIn_44 rfl (by decide) ?_
            refine s_ior (q := 46) C dX8_guestsIn_45 rfl ?_
            refine s_lt (fun x14 => ?_)
            refine s_istore_n (q := 47) (L' := [(2, .int x14), (4, .int x7), (0, .ref (G.1 0)), (1, .int a1), (3, .int x3)]) C dX8_guestsIn_46 rfl rfl (by decide) rfl ?_
            refine s_iinc (q := 50) (w := 1) (L' := [(3, .int (x3 + 1)), (2, .int x14), (4, .int x7), (0, .ref (G.1 0)), (1, .int a1)]) C 4 dX8_guestsIn_47 rfl rfl (by decide) rfl (by decide) rfl ?_
            refine s_goto (q := 4) C dX8_guestsIn_50 (by decide) ?_
            refine s_sub [3, 4, 1, 0] rfl ?_
            exact hB4 V10 x14 ((x3 + 1))
          · refine s_iconst (q := 38) (v := 1) C dX8_guestsIn_37 rfl (by decide) ?_
            refine s_iload (q := 40) C 0 dX8_guestsIn_38 rfl rfl ?_
            refine s_ishl (q := 41) C dX8_guestsIn_40 rfl ?_
            refine s_goto (q := 45) C dX8_guestsIn_41 (by decide) ?_
            refine s_ior (q := 46) C dX8_guestsIn_45 rfl ?_
            refine s_lt (fun x15 => ?_)
            refine s_istore_n (q := 47) (L' := [(2, .int x15), (4, .int x7), (0, .ref (G.1 0)), (1, .int a1), (3, .int x3)]) C dX8_guestsIn_46 rfl rfl (by decide) rfl ?_
            refine s_iinc (q := 50) (w := 1) (L' := [(3, .int (x3 + 1)), (2, .int x15), (4, .int x7), (0, .ref (G.1 0)), (1, .int a1)]) C 4 dX8_guestsIn_47 rfl rfl (by decide) rfl (by decide) rfl ?_
            refine s_goto (q := 4) C dX8_guestsIn_50 (by decide) ?_
            refine s_sub [3, 4, 1, 0] rfl ?_
            exact hB4 V10 x15 ((x3 + 1))
        · refine s_iconst (q := 45) (v := 0) C dX8_guestsIn_44 rfl (by decide) ?_
          refine s_ior (q := 46) C dX8_guestsIn_45 rfl ?_
          refine s_lt (fun x12 => ?_)
          refine s_istore_n (q := 47) (L' := [(2, .int x12), (4, .int x7), (0, .ref (G.1 0)), (1, .int a1), (3, .int x3)]) C dX8_guestsIn_46 rfl rfl (by decide) rfl ?_
          refine s_iinc (q := 50) (w := 1) (L' := [(3, .int (x3 + 1)), (2, .int x12), (4, .int x7), (0, .ref (G.1 0)), (1, .int a1)]) C 4 dX8_guestsIn_47 rfl rfl (by decide) rfl (by decide) rfl ?_
          refine s_goto (q := 4) C dX8_guestsIn_50 (by decide) ?_
          refine s_sub [3, 4, 1, 0] rfl ?_
          exact hB4 V10 x12 ((x3 + 1))
  refine s_sub [2, 3, 1, 0] rfl ?_
  exact hL1 gFu V 0 0
noncomputable def fX8_ofHouse (V : gV) (a1 : Int32) (a2 : Int32) : Option (Int32 × gV) := gbi (fX8_isHouse V a1) fun (x1 : Int32) (V2 : gV) => if x1 = 0 then (gbi (fX8_errs V2 (-1000000001)) fun (x4 : Int32) (V5 : gV) => some (x4, V5)) else (gbi (fX8_in V2 a2 0 3) fun (x6 : Int32) (V7 : gV) => if x6 = 0 then (gbi (fX8_errs V7 (-1000000001)) fun (x16 : Int32) (V17 : gV) => some (x16, V17)) else (if 2 ≤ a2 then (if a2 = 2 then (gbi (fX8_cakesIn V7 a1) fun (x13 : Int32) (V14 : gV) => some (x13, V14)) else (gbi (fX8_guestsIn V7 a1) fun (x11 : Int32) (V12 : gV) => some (x11, V12))) else (gal V7 (0 + 1) ((8 + (2 * a1)) + a2) 264 fun (x15 : Int32) => some (x15, V7))))
set_option maxHeartbeats 4000000 in
set_option maxRecDepth 100000 in
theorem uX8_ofHouse (l : Launch) (G : gG) (hG : gIsM G) (V : gV) (a1 : Int32) (a2 : Int32) : gMi l G yX8_ofHouse cX8_ofHouse 3 Jvm.ClassFile.FieldType.int (gR 70 1668) [.ref (G.1 0), .int a1, .int a2] V (fX8_ofHouse V a1 a2) := by
  unfold fX8_ofHouse
  refine gM_i (by decide +kernel) rfl rfl (Nat.le_of_ble_eq_true rfl) (fun X rr VV C E => ?_)
  change gC cX8_ofHouse 3 RX8 G X at C
  change gSm l (gR 70 1668) 3 G X _ (rr, VV) V 0 [(0, .ref (G.1 0)), (1, .int a1), (2, .int a2)] []
  refine s_aload_n (q := 1) C 0 dX8_ofHouse_0 rfl rfl rfl ?_
  refine s_iload_n (q := 2) C 1 dX8_ofHouse_1 rfl rfl rfl ?_
  refine s_Vi (q := 5) (As := [.int a1]) (st := []) C (uX8_isHouse l G hG V a1) yvX8_isHouse mlX8_61 (s80 hG) rfl rfl rfl rfl rfl rfl (gR_le (by decide) (by decide)) (Nat.le_of_ble_eq_true rfl) dX8_ofHouse_2 rfl (fun x1 V2 => ?_)
  refine s_if_eq (tgt := 17) (q := 8) C dX8_ofHouse_5 (by decide) rfl (fun c3 => ?_) (fun c3 => ?_)
  · refine s_aload_n (q := 18) C 0 dX8_ofHouse_17 rfl rfl rfl ?_
    refine s_ldc (q := 20) (v := (-1000000001)) C dX8_ofHouse_18 rfl kX8_48 ?_
    refine s_Vi (q := 23) (As := [.int (-1000000001)]) (st := []) C (uX8_errs l G hG V2 (-1000000001)) yvX8_errs mlX8_49 (s80 hG) rfl rfl rfl rfl rfl rfl (gR_le (by decide) (by decide)) (Nat.le_of_ble_eq_true rfl) dX8_ofHouse_20 rfl (fun x4 V5 => ?_)
    exact s_iret C E dX8_ofHouse_23
  · refine s_iload_n (q := 9) C 2 dX8_ofHouse_8 rfl rfl rfl ?_
    refine s_iconst (q := 10) (v := 0) C dX8_ofHouse_9 rfl (by decide) ?_
    refine s_iconst (q := 11) (v := 3) C dX8_ofHouse_10 rfl (by decide) ?_
    refine s_Si (q := 14) (As := [.int a2, .int 0, .int 3]) (st := []) C (uX8_in l G hG V2 a2 0 3) ysX8_in mlX8_44 rfl rfl rfl rfl (gR_le (by decide) (by decide)) (Nat.le_of_ble_eq_true rfl) dX8_ofHouse_11 rfl (fun x6 V7 => ?_)
    refine s_if_ne (tgt := 24) (q := 17) C dX8_ofHouse_14 (by decide) rfl (fun c8 => ?_) (fun c8 => ?_)
    · refine s_aload_n (q := 18) C 0 dX8_ofHouse_17 rfl rfl rfl ?_
      refine s_ldc (q := 20) (v := (-1000000001)) C dX8_ofHouse_18 rfl kX8_48 ?_
      refine s_Vi (q := 23) (As := [.int (-1000000001)]) (st := []) C (uX8_errs l G hG V7 (-1000000001)) yvX8_errs mlX8_49 (s80 hG) rfl rfl rfl rfl rfl rfl (gR_le (by decide) (by decide)) (Nat.le_of_ble_eq_true rfl) dX8_ofHouse_20 rfl (fun x16 V17 => ?_)
      exact s_iret C E dX8_ofHouse_23
    · refine s_iload_n (q := 25) C 2 dX8_ofHouse_24 rfl rfl rfl ?_
      refine s_iconst (q := 26) (v := 2) C dX8_ofHouse_25 rfl (by decide) ?_
      refine s_icmp_ge (tgt := 45) (q := 29) C dX8_ofHouse_26 (by decide) rfl (fun c9 => ?_) (fun c9 => ?_)
      · refine s_iload_n (q := 46) C 2 dX8_ofHouse_45 rfl rfl rfl ?_
        refine s_iconst (q := 47) (v := 2) C dX8_ofHouse_46 rfl (by decide) ?_
        refine s_icmp_ne (tgt := 58) (q := 50) C dX8_ofHouse_47 (by decide) rfl (fun c10 => ?_) (fun c10 => ?_)
        · refine s_aload_n (q := 51) C 0 dX8_ofHouse_50 rfl rfl rfl ?_
          refine s_iload_n (q := 52) C 1 dX8_ofHouse_51 rfl rfl rfl ?_
          refine s_Vi (q := 55) (As := [.int a1]) (st := []) C (uX8_cakesIn l G hG V7 a1) yvX8_cakesIn mlX8_65 (s80 hG) rfl rfl rfl rfl rfl rfl (gR_le (by decide) (by decide)) (Nat.le_of_ble_eq_true rfl) dX8_ofHouse_52 rfl (fun x13 V14 => ?_)
          refine s_goto (q := 63) C dX8_ofHouse_55 (by decide) ?_
          exact s_iret C E dX8_ofHouse_63
        · refine s_aload_n (q := 59) C 0 dX8_ofHouse_58 rfl rfl rfl ?_
          refine s_iload_n (q := 60) C 1 dX8_ofHouse_59 rfl rfl rfl ?_
          refine s_Vi (q := 63) (As := [.int a1]) (st := []) C (uX8_guestsIn l G hG V7 a1) yvX8_guestsIn mlX8_68 (s80 hG) rfl rfl rfl rfl rfl rfl (gR_le (by decide) (by decide)) (Nat.le_of_ble_eq_true rfl) dX8_ofHouse_60 rfl (fun x11 V12 => ?_)
          exact s_iret C E dX8_ofHouse_63
      · refine s_aload_n (q := 30) C 0 dX8_ofHouse_29 rfl rfl rfl ?_
        refine geX8_0 (q := 33) C (s80 hG) flX8_7 dX8_ofHouse_30 rfl ?_
        refine s_bipush (q := 35) (v := 8) C dX8_ofHouse_33 rfl (by decide) ?_
        refine s_iconst (q := 36) (v := 2) C dX8_ofHouse_35 rfl (by decide) ?_
        refine s_iload_n (q := 37) C 1 dX8_ofHouse_36 rfl rfl rfl ?_
        refine s_imul (q := 38) C dX8_ofHouse_37 rfl ?_
        refine s_iadd (q := 39) C dX8_ofHouse_38 rfl ?_
        refine s_iload_n (q := 40) C 2 dX8_ofHouse_39 rfl rfl rfl ?_
        refine s_iadd (q := 41) C dX8_ofHouse_40 rfl ?_
        refine s_iald (q := 42) C (qX8_0 hG) dX8_ofHouse_41 rfl (fun x15 => ?_)
        refine s_goto (q := 63) C dX8_ofHouse_42 (by decide) ?_
        exact s_iret C E dX8_ofHouse_63
noncomputable def fX8_change (V : gV) (a1 : Int32) (a2 : Int32) (a3 : Int32) : Option (Int32 × gV) := gbi (fX8_isHouse V a1) fun (x1 : Int32) (V2 : gV) => if x1 = 0 then (gbi (fX8_errs V2 (-1000000001)) fun (x4 : Int32) (V5 : gV) => some (x4, V5)) else (gbi (fX8_in V2 a2 0 1) fun (x6 : Int32) (V7 : gV) => if x6 = 0 then (gbi (fX8_errs V7 (-1000000001)) fun (x9 : Int32) (V10 : gV) => some (x9, V10)) else (gbi (fX8_in V7 a3 0 9) fun (x11 : Int32) (V12 : gV) => if x11 = 0 then (gbi (fX8_errs V12 (-1000000001)) fun (x14 : Int32) (V15 : gV) => some (x14, V15)) else (gbi (fX8_becomes V12 ((8 + (2 * a1)) + a2) a3) fun (x16 : Int32) (V17 : gV) => some (x16, V17))))
set_option maxHeartbeats 4000000 in
set_option maxRecDepth 100000 in
theorem uX8_change (l : Launch) (G : gG) (hG : gIsM G) (V : gV) (a1 : Int32) (a2 : Int32) (a3 : Int32) : gMi l G yX8_change cX8_change 4 Jvm.ClassFile.FieldType.int (gR 2 43) [.ref (G.1 0), .int a1, .int a2, .int a3] V (fX8_change V a1 a2 a3) := by
  unfold fX8_change
  refine gM_i (by decide +kernel) rfl rfl (Nat.le_of_ble_eq_true rfl) (fun X rr VV C E => ?_)
  change gC cX8_change 4 RX8 G X at C
  change gSm l (gR 2 43) 4 G X _ (rr, VV) V 0 [(0, .ref (G.1 0)), (1, .int a1), (2, .int a2), (3, .int a3)] []
  refine s_aload_n (q := 1) C 0 dX8_change_0 rfl rfl rfl ?_
  refine s_iload_n (q := 2) C 1 dX8_change_1 rfl rfl rfl ?_
  refine s_Vi (q := 5) (As := [.int a1]) (st := []) C (uX8_isHouse l G hG V a1) yvX8_isHouse mlX8_61 (s80 hG) rfl rfl rfl rfl rfl rfl (gR_le (by decide) (by decide)) (Nat.le_of_ble_eq_true rfl) dX8_change_2 rfl (fun x1 V2 => ?_)
  refine s_if_eq (tgt := 43) (q := 8) C dX8_change_5 (by decide) rfl (fun c3 => ?_) (fun c3 => ?_)
  · refine s_aload_n (q := 44) C 0 dX8_change_43 rfl rfl rfl ?_
    refine s_ldc (q := 46) (v := (-1000000001)) C dX8_change_44 rfl kX8_48 ?_
    refine s_Vi (q := 49) (As := [.int (-1000000001)]) (st := []) C (uX8_errs l G hG V2 (-1000000001)) yvX8_errs mlX8_49 (s80 hG) rfl rfl rfl rfl rfl rfl (gR_le (by decide) (by decide)) (Nat.le_of_ble_eq_true rfl) dX8_change_46 rfl (fun x4 V5 => ?_)
    exact s_iret C E dX8_change_49
  · refine s_iload_n (q := 9) C 2 dX8_change_8 rfl rfl rfl ?_
    refine s_iconst (q := 10) (v := 0) C dX8_change_9 rfl (by decide) ?_
    refine s_iconst (q := 11) (v := 1) C dX8_change_10 rfl (by decide) ?_
    refine s_Si (q := 14) (As := [.int a2, .int 0, .int 1]) (st := []) C (uX8_in l G hG V2 a2 0 1) ysX8_in mlX8_44 rfl rfl rfl rfl (gR_le (by decide) (by decide)) (Nat.le_of_ble_eq_true rfl) dX8_change_11 rfl (fun x6 V7 => ?_)
    refine s_if_eq (tgt := 43) (q := 17) C dX8_change_14 (by decide) rfl (fun c8 => ?_) (fun c8 => ?_)
    · refine s_aload_n (q := 44) C 0 dX8_change_43 rfl rfl rfl ?_
      refine s_ldc (q := 46) (v := (-1000000001)) C dX8_change_44 rfl kX8_48 ?_
      refine s_Vi (q := 49) (As := [.int (-1000000001)]) (st := []) C (uX8_errs l G hG V7 (-1000000001)) yvX8_errs mlX8_49 (s80 hG) rfl rfl rfl rfl rfl rfl (gR_le (by decide) (by decide)) (Nat.le_of_ble_eq_true rfl) dX8_change_46 rfl (fun x9 V10 => ?_)
      exact s_iret C E dX8_change_49
    · refine s_iload_n (q := 18) C 3 dX8_change_17 rfl rfl rfl ?_
      refine s_iconst (q := 19) (v := 0) C dX8_change_18 rfl (by decide) ?_
      refine s_bipush (q := 21) (v := 9) C dX8_change_19 rfl (by decide) ?_
      refine s_Si (q := 24) (As := [.int a3, .int 0, .int 9]) (st := []) C (uX8_in l G hG V7 a3 0 9) ysX8_in mlX8_44 rfl rfl rfl rfl (gR_le (by decide) (by decide)) (Nat.le_of_ble_eq_true rfl) dX8_change_21 rfl (fun x11 V12 => ?_)
      refine s_if_eq (tgt := 43) (q := 27) C dX8_change_24 (by decide) rfl (fun c13 => ?_) (fun c13 => ?_)
      · refine s_aload_n (q := 44) C 0 dX8_change_43 rfl rfl rfl ?_
        refine s_ldc (q := 46) (v := (-1000000001)) C dX8_change_44 rfl kX8_48 ?_
        refine s_Vi (q := 49) (As := [.int (-1000000001)]) (st := []) C (uX8_errs l G hG V12 (-1000000001)) yvX8_errs mlX8_49 (s80 hG) rfl rfl rfl rfl rfl rfl (gR_le (by decide) (by decide)) (Nat.le_of_ble_eq_true rfl) dX8_change_46 rfl (fun x14 V15 => ?_)
        exact s_iret C E dX8_change_49
      · refine s_aload_n (q := 28) C 0 dX8_change_27 rfl rfl rfl ?_
        refine s_bipush (q := 30) (v := 8) C dX8_change_28 rfl (by decide) ?_
        refine s_iconst (q := 31) (v := 2) C dX8_change_30 rfl (by decide) ?_
        refine s_iload_n (q := 32) C 1 dX8_change_31 rfl rfl rfl ?_
        refine s_imul (q := 33) C dX8_change_32 rfl ?_
        refine s_iadd (q := 34) C dX8_change_33 rfl ?_
        refine s_iload_n (q := 35) C 2 dX8_change_34 rfl rfl rfl ?_
        refine s_iadd (q := 36) C dX8_change_35 rfl ?_
        refine s_iload_n (q := 37) C 3 dX8_change_36 rfl rfl rfl ?_
        refine s_Vi (q := 40) (As := [.int ((8 + (2 * a1)) + a2), .int a3]) (st := []) C (uX8_becomes l G hG V12 ((8 + (2 * a1)) + a2) a3) yvX8_becomes mlX8_71 (s80 hG) rfl rfl rfl rfl rfl rfl (gR_le (by decide) (by decide)) (Nat.le_of_ble_eq_true rfl) dX8_change_37 rfl (fun x16 V17 => ?_)
        refine s_goto (q := 49) C dX8_change_40 (by decide) ?_
        exact s_iret C E dX8_change_49
noncomputable def fX8_cake (V : gV) (a1 : Int32) (a2 : Int32) : Option (Int32 × gV) := gbi (fX8_in V a1 0 69) fun (x1 : Int32) (V2 : gV) => if x1 = 0 then (gbi (fX8_errs V2 (-1000000001)) fun (x4 : Int32) (V5 : gV) => some (x4, V5)) else (gbi (fX8_isHouse V2 a2) fun (x6 : Int32) (V7 : gV) => if x6 = 0 then (gbi (fX8_errs V7 (-1000000001)) fun (x21 : Int32) (V22 : gV) => some (x21, V22)) else (gal V7 (0 + 1) 3 264 fun (x9 : Int32) => if x9 = 6 then (gbi (fX8_errs V7 (-1000000004)) fun (x19 : Int32) (V20 : gV) => some (x19, V20)) else (gal V7 (0 + 1) 3 264 fun (x11 : Int32) => gdv 10 <| gbv (fX8_gets V7 x11 0 (a1 / 10)) fun (V12 : gV) => gdv 10 <| gbv (fX8_gets V12 x11 1 (grm a1 10)) fun (V13 : gV) => gbv (fX8_gets V13 x11 2 a2) fun (V14 : gV) => gbv (fX8_gets V14 x11 3 0) fun (V15 : gV) => gbv (fX8_gets V15 x11 4 0) fun (V16 : gV) => gal V16 (0 + 1) 3 264 fun (x17 : Int32) => gas V16 (0 + 1) 3 264 (x17 + 1) fun (V18 : gV) => some (x11, V18))))
set_option maxHeartbeats 4000000 in
set_option maxRecDepth 100000 in
theorem uX8_cake (l : Launch) (G : gG) (hG : gIsM G) (V : gV) (a1 : Int32) (a2 : Int32) : gMi l G yX8_cake cX8_cake 4 Jvm.ClassFile.FieldType.int (gR 2 43) [.ref (G.1 0), .int a1, .int a2] V (fX8_cake V a1 a2) := by
  unfold fX8_cake
  refine gM_i (by decide +kernel) rfl rfl (Nat.le_of_ble_eq_true rfl) (fun X rr VV C E => ?_)
  change gC cX8_cake 4 RX8 G X at C
  change gSm l (gR 2 43) 4 G X _ (rr, VV) V 0 [(0, .ref (G.1 0)), (1, .int a1), (2, .int a2)] []
  refine s_iload_n (q := 1) C 1 dX8_cake_0 rfl rfl rfl ?_
  refine s_iconst (q := 2) (v := 0) C dX8_cake_1 rfl (by decide) ?_
  refine s_bipush (q := 4) (v := 69) C dX8_cake_2 rfl (by decide) ?_
  refine s_Si (q := 7) (As := [.int a1, .int 0, .int 69]) (st := []) C (uX8_in l G hG V a1 0 69) ysX8_in mlX8_44 rfl rfl rfl rfl (gR_le (by decide) (by decide)) (Nat.le_of_ble_eq_true rfl) dX8_cake_4 rfl (fun x1 V2 => ?_)
  refine s_if_eq (tgt := 18) (q := 10) C dX8_cake_7 (by decide) rfl (fun c3 => ?_) (fun c3 => ?_)
  · refine s_aload_n (q := 19) C 0 dX8_cake_18 rfl rfl rfl ?_
    refine s_ldc (q := 21) (v := (-1000000001)) C dX8_cake_19 rfl kX8_48 ?_
    refine s_Vi (q := 24) (As := [.int (-1000000001)]) (st := []) C (uX8_errs l G hG V2 (-1000000001)) yvX8_errs mlX8_49 (s80 hG) rfl rfl rfl rfl rfl rfl (gR_le (by decide) (by decide)) (Nat.le_of_ble_eq_true rfl) dX8_cake_21 rfl (fun x4 V5 => ?_)
    exact s_iret C E dX8_cake_24
  · refine s_aload_n (q := 11) C 0 dX8_cake_10 rfl rfl rfl ?_
    refine s_iload_n (q := 12) C 2 dX8_cake_11 rfl rfl rfl ?_
    refine s_Vi (q := 15) (As := [.int a2]) (st := []) C (uX8_isHouse l G hG V2 a2) yvX8_isHouse mlX8_61 (s80 hG) rfl rfl rfl rfl rfl rfl (gR_le (by decide) (by decide)) (Nat.le_of_ble_eq_true rfl) dX8_cake_12 rfl (fun x6 V7 => ?_)
    refine s_if_ne (tgt := 25) (q := 18) C dX8_cake_15 (by decide) rfl (fun c8 => ?_) (fun c8 => ?_)
    · refine s_aload_n (q := 19) C 0 dX8_cake_18 rfl rfl rfl ?_
      refine s_ldc (q := 21) (v := (-1000000001)) C dX8_cake_19 rfl kX8_48 ?_
      refine s_Vi (q := 24) (As := [.int (-1000000001)]) (st := []) C (uX8_errs l G hG V7 (-1000000001)) yvX8_errs mlX8_49 (s80 hG) rfl rfl rfl rfl rfl rfl (gR_le (by decide) (by decide)) (Nat.le_of_ble_eq_true rfl) dX8_cake_21 rfl (fun x21 V22 => ?_)
      exact s_iret C E dX8_cake_24
    · refine s_aload_n (q := 26) C 0 dX8_cake_25 rfl rfl rfl ?_
      refine geX8_0 (q := 29) C (s80 hG) flX8_7 dX8_cake_26 rfl ?_
      refine s_iconst (q := 30) (v := 3) C dX8_cake_29 rfl (by decide) ?_
      refine s_iald (q := 31) C (qX8_0 hG) dX8_cake_30 rfl (fun x9 => ?_)
      refine s_bipush (q := 33) (v := 6) C dX8_cake_31 rfl (by decide) ?_
      refine s_icmp_ne (tgt := 43) (q := 36) C dX8_cake_33 (by decide) rfl (fun c10 => ?_) (fun c10 => ?_)
      · refine s_aload_n (q := 37) C 0 dX8_cake_36 rfl rfl rfl ?_
        refine s_ldc (q := 39) (v := (-1000000004)) C dX8_cake_37 rfl kX8_53 ?_
        refine s_Vi (q := 42) (As := [.int (-1000000004)]) (st := []) C (uX8_errs l G hG V7 (-1000000004)) yvX8_errs mlX8_49 (s80 hG) rfl rfl rfl rfl rfl rfl (gR_le (by decide) (by decide)) (Nat.le_of_ble_eq_true rfl) dX8_cake_39 rfl (fun x19 V20 => ?_)
        exact s_iret C E dX8_cake_42
      · refine s_aload_n (q := 44) C 0 dX8_cake_43 rfl rfl rfl ?_
        refine geX8_0 (q := 47) C (s80 hG) flX8_7 dX8_cake_44 rfl ?_
        refine s_iconst (q := 48) (v := 3) C dX8_cake_47 rfl (by decide) ?_
        refine s_iald (q := 49) C (qX8_0 hG) dX8_cake_48 rfl (fun x11 => ?_)
        refine s_istore_n (q := 50) (L' := [(3, .int x11), (0, .ref (G.1 0)), (1, .int a1), (2, .int a2)]) C dX8_cake_49 rfl rfl (by decide) rfl ?_
        refine s_aload_n (q := 51) C 1 dX8_cake_50 rfl rfl rfl ?_
        refine s_iload_n (q := 52) C 0 dX8_cake_51 rfl rfl rfl ?_
        refine s_iconst (q := 53) (v := 0) C dX8_cake_52 rfl (by decide) ?_
        refine s_iload_n (q := 54) C 2 dX8_cake_53 rfl rfl rfl ?_
        refine s_bipush (q := 56) (v := 10) C dX8_cake_54 rfl (by decide) ?_
        refine s_idiv (q := 57) C dX8_cake_56 rfl ?_
        refine s_Vv (q := 60) (As := [.int x11, .int 0, .int (a1 / 10)]) (st := []) C (uX8_gets l G hG V7 x11 0 (a1 / 10)) yvX8_gets mlX8_74 (s80 hG) rfl rfl rfl rfl rfl rfl (gR_le (by decide) (by decide)) (Nat.le_of_ble_eq_true rfl) dX8_cake_57 rfl (fun V12 => ?_)
        refine s_aload_n (q := 61) C 1 dX8_cake_60 rfl rfl rfl ?_
        refine s_iload_n (q := 62) C 0 dX8_cake_61 rfl rfl rfl ?_
        refine s_iconst (q := 63) (v := 1) C dX8_cake_62 rfl (by decide) ?_
        refine s_iload_n (q := 64) C 2 dX8_cake_63 rfl rfl rfl ?_
        refine s_bipush (q := 66) (v := 10) C dX8_cake_64 rfl (by decide) ?_
        refine s_irem (q := 67) C dX8_cake_66 rfl ?_
        refine s_Vv (q := 70) (As := [.int x11, .int 1, .int (grm a1 10)]) (st := []) C (uX8_gets l G hG V12 x11 1 (grm a1 10)) yvX8_gets mlX8_74 (s80 hG) rfl rfl rfl rfl rfl rfl (gR_le (by decide) (by decide)) (Nat.le_of_ble_eq_true rfl) dX8_cake_67 rfl (fun V13 => ?_)
        refine s_aload_n (q := 71) C 1 dX8_cake_70 rfl rfl rfl ?_
        refine s_iload_n (q := 72) C 0 dX8_cake_71 rfl rfl rfl ?_
        refine s_iconst (q := 73) (v := 2) C dX8_cake_72 rfl (by decide) ?_
        refine s_iload_n (q := 74) C 3 dX8_cake_73 rfl rfl rfl ?_
        refine s_Vv (q := 77) (As := [.int x11, .int 2, .int a2]) (st := []) C (uX8_gets l G hG V13 x11 2 a2) yvX8_gets mlX8_74 (s80 hG) rfl rfl rfl rfl rfl rfl (gR_le (by decide) (by decide)) (Nat.le_of_ble_eq_true rfl) dX8_cake_74 rfl (fun V14 => ?_)
        refine s_aload_n (q := 78) C 1 dX8_cake_77 rfl rfl rfl ?_
        refine s_iload_n (q := 79) C 0 dX8_cake_78 rfl rfl rfl ?_
        refine s_iconst (q := 80) (v := 3) C dX8_cake_79 rfl (by decide) ?_
        refine s_iconst (q := 81) (v := 0) C dX8_cake_80 rfl (by decide) ?_
        refine s_Vv (q := 84) (As := [.int x11, .int 3, .int 0]) (st := []) C (uX8_gets l G hG V14 x11 3 0) yvX8_gets mlX8_74 (s80 hG) rfl rfl rfl rfl rfl rfl (gR_le (by decide) (by decide)) (Nat.le_of_ble_eq_true rfl) dX8_cake_81 rfl (fun V15 => ?_)
        refine s_aload_n (q := 85) C 1 dX8_cake_84 rfl rfl rfl ?_
        refine s_iload_n (q := 86) C 0 dX8_cake_85 rfl rfl rfl ?_
        refine s_iconst (q := 87) (v := 4) C dX8_cake_86 rfl (by decide) ?_
        refine s_iconst (q := 88) (v := 0) C dX8_cake_87 rfl (by decide) ?_
        refine s_Vv (q := 91) (As := [.int x11, .int 4, .int 0]) (st := []) C (uX8_gets l G hG V15 x11 4 0) yvX8_gets mlX8_74 (s80 hG) rfl rfl rfl rfl rfl rfl (gR_le (by decide) (by decide)) (Nat.le_of_ble_eq_true rfl) dX8_cake_88 rfl (fun V16 => ?_)
        refine s_aload_n (q := 92) C 1 dX8_cake_91 rfl rfl rfl ?_
        refine geX8_0 (q := 95) C (s80 hG) flX8_7 dX8_cake_92 rfl ?_
        refine s_iconst (q := 96) (v := 3) C dX8_cake_95 rfl (by decide) ?_
        refine s_dup2_11 (q := 97) C dX8_cake_96 rfl rfl rfl ?_
        refine s_iald (q := 98) C (qX8_0 hG) dX8_cake_97 rfl (fun x17 => ?_)
        refine s_iconst (q := 99) (v := 1) C dX8_cake_98 rfl (by decide) ?_
        refine s_iadd (q := 100) C dX8_cake_99 rfl ?_
        refine s_iast (q := 101) C (qX8_0 hG) (mX8_0 hG) dX8_cake_100 rfl (fun V18 => ?_)
        refine s_iload_n (q := 102) C 0 dX8_cake_101 rfl rfl rfl ?_
        exact s_iret C E dX8_cake_102
noncomputable def fX8_isGone (V : gV) (a1 : Int32) : Option (Int32 × gV) := gbi (fX8_out V a1) fun (x1 : Int32) (V2 : gV) => gbi (fX8_its V2 a1 3) fun (x3 : Int32) (V4 : gV) => if x1 < x3 then (some (0, V4)) else (some (1, V4))
set_option maxHeartbeats 4000000 in
set_option maxRecDepth 100000 in
theorem uX8_isGone (l : Launch) (G : gG) (hG : gIsM G) (V : gV) (a1 : Int32) : gMi l G yX8_isGone cX8_isGone 2 Jvm.ClassFile.FieldType.boolean (gR 68 1619) [.ref (G.1 0), .int a1] V (fX8_isGone V a1) := by
  unfold fX8_isGone
  refine gM_i (by decide +kernel) rfl rfl (Nat.le_of_ble_eq_true rfl) (fun X rr VV C E => ?_)
  change gC cX8_isGone 2 RX8 G X at C
  change gSm l (gR 68 1619) 2 G X _ (rr, VV) V 0 [(0, .ref (G.1 0)), (1, .int a1)] []
  refine s_aload_n (q := 1) C 0 dX8_isGone_0 rfl rfl rfl ?_
  refine s_iload_n (q := 2) C 1 dX8_isGone_1 rfl rfl rfl ?_
  refine s_Vi (q := 5) (As := [.int a1]) (st := []) C (uX8_out l G hG V a1) yvX8_out mlX8_91 (s80 hG) rfl rfl rfl rfl rfl rfl (gR_le (by decide) (by decide)) (Nat.le_of_ble_eq_true rfl) dX8_isGone_2 rfl (fun x1 V2 => ?_)
  refine s_aload_n (q := 6) C 0 dX8_isGone_5 rfl rfl rfl ?_
  refine s_iload_n (q := 7) C 1 dX8_isGone_6 rfl rfl rfl ?_
  refine s_iconst (q := 8) (v := 3) C dX8_isGone_7 rfl (by decide) ?_
  refine s_Vi (q := 11) (As := [.int a1, .int 3]) (st := [.int x1]) C (uX8_its l G hG V2 a1 3) yvX8_its mlX8_54 (s80 hG) rfl rfl rfl rfl rfl rfl (gR_le (by decide) (by decide)) (Nat.le_of_ble_eq_true rfl) dX8_isGone_8 rfl (fun x3 V4 => ?_)
  refine s_icmp_lt (tgt := 18) (q := 14) C dX8_isGone_11 (by decide) rfl (fun c5 => ?_) (fun c5 => ?_)
  · refine s_iconst (q := 19) (v := 0) C dX8_isGone_18 rfl (by decide) ?_
    exact s_zret C E rfl dX8_isGone_19
  · refine s_iconst (q := 15) (v := 1) C dX8_isGone_14 rfl (by decide) ?_
    refine s_goto (q := 19) C dX8_isGone_15 (by decide) ?_
    exact s_zret C E rfl dX8_isGone_19
noncomputable def fX8_wearsBy (V : gV) (a1 : Int32) : Option (Int32 × gV) := gbi (fX8_its V a1 2) fun (x1 : Int32) (V2 : gV) => glt (8 + (2 * x1)) fun (x3 : Int32) => gal V2 (0 + 1) x3 264 fun (x4 : Int32) => gal V2 (0 + 1) (x3 + 1) 264 fun (x5 : Int32) => gbi (fX8_its V2 a1 1) fun (x6 : Int32) (V7 : gV) => gal V7 (0 + 1) 0 264 fun (x8 : Int32) => gbi (fX8_lawOf V7 1 x5 x6 x8) fun (x9 : Int32) (V10 : gV) => glt (x4 * x9) fun (x11 : Int32) => gbi (fX8_its V10 a1 0) fun (x12 : Int32) (V13 : gV) => if x12 = 1 then (if x11 ≤ 0 then (some (0, V13)) else (some ((x11 - 1), V13))) else (if x12 = 2 then (some (x11, V13)) else (if x12 = 3 then (some (x11, V13)) else (if x12 = 4 then (if x11 ≤ 0 then (some (0, V13)) else (some ((x11 - 1), V13))) else (if x12 = 5 then (some ((x11 + 1), V13)) else (if x12 = 6 then (gdv 2 <| some ((x11 / 2), V13)) else (some (x11, V13)))))))
set_option maxHeartbeats 4000000 in
set_option maxRecDepth 100000 in
theorem uX8_wearsBy (l : Launch) (G : gG) (hG : gIsM G) (V : gV) (a1 : Int32) : gMi l G yX8_wearsBy cX8_wearsBy 4 Jvm.ClassFile.FieldType.int (gR 66 1576) [.ref (G.1 0), .int a1] V (fX8_wearsBy V a1) := by
  unfold fX8_wearsBy
  refine gM_i (by decide +kernel) rfl rfl (Nat.le_of_ble_eq_true rfl) (fun X rr VV C E => ?_)
  change gC cX8_wearsBy 4 RX8 G X at C
  change gSm l (gR 66 1576) 4 G X _ (rr, VV) V 0 [(0, .ref (G.1 0)), (1, .int a1)] []
  refine s_bipush (q := 2) (v := 8) C dX8_wearsBy_0 rfl (by decide) ?_
  refine s_iconst (q := 3) (v := 2) C dX8_wearsBy_2 rfl (by decide) ?_
  refine s_aload_n (q := 4) C 0 dX8_wearsBy_3 rfl rfl rfl ?_
  refine s_iload_n (q := 5) C 1 dX8_wearsBy_4 rfl rfl rfl ?_
  refine s_iconst (q := 6) (v := 2) C dX8_wearsBy_5 rfl (by decide) ?_
  refine s_Vi (q := 9) (As := [.int a1, .int 2]) (st := [.int 2, .int 8]) C (uX8_its l G hG V a1 2) yvX8_its mlX8_54 (s80 hG) rfl rfl rfl rfl rfl rfl (gR_le (by decide) (by decide)) (Nat.le_of_ble_eq_true rfl) dX8_wearsBy_6 rfl (fun x1 V2 => ?_)
  refine s_imul (q := 10) C dX8_wearsBy_9 rfl ?_
  refine s_iadd (q := 11) C dX8_wearsBy_10 rfl ?_
  refine s_lt (fun x3 => ?_)
  refine s_istore_n (q := 12) (L' := [(2, .int x3), (0, .ref (G.1 0)), (1, .int a1)]) C dX8_wearsBy_11 rfl rfl (by decide) rfl ?_
  refine s_aload_n (q := 13) C 1 dX8_wearsBy_12 rfl rfl rfl ?_
  refine geX8_0 (q := 16) C (s80 hG) flX8_7 dX8_wearsBy_13 rfl ?_
  refine s_iload_n (q := 17) C 0 dX8_wearsBy_16 rfl rfl rfl ?_
  refine s_iald (q := 18) C (qX8_0 hG) dX8_wearsBy_17 rfl (fun x4 => ?_)
  refine s_aload_n (q := 19) C 1 dX8_wearsBy_18 rfl rfl rfl ?_
  refine s_iconst (q := 20) (v := 1) C dX8_wearsBy_19 rfl (by decide) ?_
  refine s_aload_n (q := 21) C 1 dX8_wearsBy_20 rfl rfl rfl ?_
  refine geX8_0 (q := 24) C (s80 hG) flX8_7 dX8_wearsBy_21 rfl ?_
  refine s_iload_n (q := 25) C 0 dX8_wearsBy_24 rfl rfl rfl ?_
  refine s_iconst (q := 26) (v := 1) C dX8_wearsBy_25 rfl (by decide) ?_
  refine s_iadd (q := 27) C dX8_wearsBy_26 rfl ?_
  refine s_iald (q := 28) C (qX8_0 hG) dX8_wearsBy_27 rfl (fun x5 => ?_)
  refine s_aload_n (q := 29) C 1 dX8_wearsBy_28 rfl rfl rfl ?_
  refine s_iload_n (q := 30) C 2 dX8_wearsBy_29 rfl rfl rfl ?_
  refine s_iconst (q := 31) (v := 1) C dX8_wearsBy_30 rfl (by decide) ?_
  refine s_Vi (q := 34) (As := [.int a1, .int 1]) (st := [.int x5, .int 1, .ref (G.1 0), .int x4]) C (uX8_its l G hG V2 a1 1) yvX8_its mlX8_54 (s80 hG) rfl rfl rfl rfl rfl rfl (gR_le (by decide) (by decide)) (Nat.le_of_ble_eq_true rfl) dX8_wearsBy_31 rfl (fun x6 V7 => ?_)
  refine s_aload_n (q := 35) C 1 dX8_wearsBy_34 rfl rfl rfl ?_
  refine geX8_0 (q := 38) C (s80 hG) flX8_7 dX8_wearsBy_35 rfl ?_
  refine s_iconst (q := 39) (v := 0) C dX8_wearsBy_38 rfl (by decide) ?_
  refine s_iald (q := 40) C (qX8_0 hG) dX8_wearsBy_39 rfl (fun x8 => ?_)
  refine s_Vi (q := 43) (As := [.int 1, .int x5, .int x6, .int x8]) (st := [.int x4]) C (uX8_lawOf l G hG V7 1 x5 x6 x8) yvX8_lawOf mlX8_166 (s80 hG) rfl rfl rfl rfl rfl rfl (gR_le (by decide) (by decide)) (Nat.le_of_ble_eq_true rfl) dX8_wearsBy_40 rfl (fun x9 V10 => ?_)
  refine s_imul (q := 44) C dX8_wearsBy_43 rfl ?_
  refine s_lt (fun x11 => ?_)
  refine s_istore_n (q := 45) (L' := [(3, .int x11), (2, .int x3), (0, .ref (G.1 0)), (1, .int a1)]) C dX8_wearsBy_44 rfl rfl (by decide) rfl ?_
  refine s_aload_n (q := 46) C 2 dX8_wearsBy_45 rfl rfl rfl ?_
  refine s_iload_n (q := 47) C 3 dX8_wearsBy_46 rfl rfl rfl ?_
  refine s_iconst (q := 48) (v := 0) C dX8_wearsBy_47 rfl (by decide) ?_
  refine s_Vi (q := 51) (As := [.int a1, .int 0]) (st := []) C (uX8_its l G hG V10 a1 0) yvX8_its mlX8_54 (s80 hG) rfl rfl rfl rfl rfl rfl (gR_le (by decide) (by decide)) (Nat.le_of_ble_eq_true rfl) dX8_wearsBy_48 rfl (fun x12 V13 => ?_)
  refine s_case (fun c14 => ?_) (fun c14 => ?_)
  · refine s_tin (q := 88) (off := 37) (c := 1) C c14 dX8_wearsBy_51 (by decide) (by decide) (by decide) (by decide) ?_
    refine s_iload_n (q := 89) C 0 dX8_wearsBy_88 rfl rfl rfl ?_
    refine s_if_le (tgt := 98) (q := 92) C dX8_wearsBy_89 (by decide) rfl (fun c15 => ?_) (fun c15 => ?_)
    · refine s_iconst (q := 99) (v := 0) C dX8_wearsBy_98 rfl (by decide) ?_
      exact s_iret C E dX8_wearsBy_99
    · refine s_iload_n (q := 93) C 0 dX8_wearsBy_92 rfl rfl rfl ?_
      refine s_iconst (q := 94) (v := 1) C dX8_wearsBy_93 rfl (by decide) ?_
      refine s_isub (q := 95) C dX8_wearsBy_94 rfl ?_
      refine s_goto (q := 99) C dX8_wearsBy_95 (by decide) ?_
      exact s_iret C E dX8_wearsBy_99
  · refine s_case (fun c16 => ?_) (fun c16 => ?_)
    · refine s_tin (q := 108) (off := 57) (c := 2) C c16 dX8_wearsBy_51 (by decide) (by decide) (by decide) (by decide) ?_
      refine s_iload_n (q := 109) C 0 dX8_wearsBy_108 rfl rfl rfl ?_
      exact s_iret C E dX8_wearsBy_109
    · refine s_case (fun c17 => ?_) (fun c17 => ?_)
      · refine s_tin (q := 108) (off := 57) (c := 3) C c17 dX8_wearsBy_51 (by decide) (by decide) (by decide) (by decide) ?_
        refine s_iload_n (q := 109) C 0 dX8_wearsBy_108 rfl rfl rfl ?_
        exact s_iret C E dX8_wearsBy_109
      · refine s_case (fun c18 => ?_) (fun c18 => ?_)
        · refine s_tin (q := 88) (off := 37) (c := 4) C c18 dX8_wearsBy_51 (by decide) (by decide) (by decide) (by decide) ?_
          refine s_iload_n (q := 89) C 0 dX8_wearsBy_88 rfl rfl rfl ?_
          refine s_if_le (tgt := 98) (q := 92) C dX8_wearsBy_89 (by decide) rfl (fun c19 => ?_) (fun c19 => ?_)
          · refine s_iconst (q := 99) (v := 0) C dX8_wearsBy_98 rfl (by decide) ?_
            exact s_iret C E dX8_wearsBy_99
          · refine s_iload_n (q := 93) C 0 dX8_wearsBy_92 rfl rfl rfl ?_
            refine s_iconst (q := 94) (v := 1) C dX8_wearsBy_93 rfl (by decide) ?_
            refine s_isub (q := 95) C dX8_wearsBy_94 rfl ?_
            refine s_goto (q := 99) C dX8_wearsBy_95 (by decide) ?_
            exact s_iret C E dX8_wearsBy_99
        · refine s_case (fun c20 => ?_) (fun c20 => ?_)
          · refine s_tin (q := 100) (off := 49) (c := 5) C c20 dX8_wearsBy_51 (by decide) (by decide) (by decide) (by decide) ?_
            refine s_iload_n (q := 101) C 0 dX8_wearsBy_100 rfl rfl rfl ?_
            refine s_iconst (q := 102) (v := 1) C dX8_wearsBy_101 rfl (by decide) ?_
            refine s_iadd (q := 103) C dX8_wearsBy_102 rfl ?_
            exact s_iret C E dX8_wearsBy_103
          · refine s_case (fun c21 => ?_) (fun c21 => ?_)
            · refine s_tin (q := 104) (off := 53) (c := 6) C c21 dX8_wearsBy_51 (by decide) (by decide) (by decide) (by decide) ?_
              refine s_iload_n (q := 105) C 0 dX8_wearsBy_104 rfl rfl rfl ?_
              refine s_iconst (q := 106) (v := 2) C dX8_wearsBy_105 rfl (by decide) ?_
              refine s_idiv (q := 107) C dX8_wearsBy_106 rfl ?_
              exact s_iret C E dX8_wearsBy_107
            · refine s_tout (q := 108) C dX8_wearsBy_51 (by have zc14 := lv_neT (k := 1) (a := 1) c14 (by decide); have zc16 := lv_neT (k := 2) (a := 2) c16 (by decide); have zc17 := lv_neT (k := 3) (a := 3) c17 (by decide); have zc18 := lv_neT (k := 4) (a := 4) c18 (by decide); have zc20 := lv_neT (k := 5) (a := 5) c20 (by decide); have zc21 := lv_neT (k := 6) (a := 6) c21 (by decide); omega) (by decide) ?_
              refine s_iload_n (q := 109) C 0 dX8_wearsBy_108 rfl rfl rfl ?_
              exact s_iret C E dX8_wearsBy_109
noncomputable def fX8_ofCake (V : gV) (a1 : Int32) (a2 : Int32) : Option (Int32 × gV) := gbi (fX8_isCake V a1) fun (x1 : Int32) (V2 : gV) => if x1 = 0 then (gbi (fX8_errs V2 (-1000000001)) fun (x4 : Int32) (V5 : gV) => some (x4, V5)) else (gbi (fX8_in V2 a2 0 8) fun (x6 : Int32) (V7 : gV) => if x6 = 0 then (gbi (fX8_errs V7 (-1000000001)) fun (x27 : Int32) (V28 : gV) => some (x27, V28)) else (if a2 = 5 then (gbi (fX8_thick V7 a1) fun (x10 : Int32) (V11 : gV) => some (x10, V11)) else (if a2 = 6 then (gbi (fX8_shows V7 a1) fun (x13 : Int32) (V14 : gV) => some (x13, V14)) else (if a2 = 7 then (gbi (fX8_isGone V7 a1) fun (x16 : Int32) (V17 : gV) => if x16 = 0 then (some (0, V17)) else (some (1, V17))) else (if a2 = 8 then (gbi (fX8_isGone V7 a1) fun (x20 : Int32) (V21 : gV) => if x20 = 0 then (gbi (fX8_wearsBy V21 a1) fun (x23 : Int32) (V24 : gV) => some (x23, V24)) else (some (0, V21))) else (gbi (fX8_its V7 a1 a2) fun (x25 : Int32) (V26 : gV) => some (x25, V26)))))))
set_option maxHeartbeats 4000000 in
set_option maxRecDepth 100000 in
theorem uX8_ofCake (l : Launch) (G : gG) (hG : gIsM G) (V : gV) (a1 : Int32) (a2 : Int32) : gMi l G yX8_ofCake cX8_ofCake 3 Jvm.ClassFile.FieldType.int (gR 69 1644) [.ref (G.1 0), .int a1, .int a2] V (fX8_ofCake V a1 a2) := by
  unfold fX8_ofCake
  refine gM_i (by decide +kernel) rfl rfl (Nat.le_of_ble_eq_true rfl) (fun X rr VV C E => ?_)
  change gC cX8_ofCake 3 RX8 G X at C
  change gSm l (gR 69 1644) 3 G X _ (rr, VV) V 0 [(0, .ref (G.1 0)), (1, .int a1), (2, .int a2)] []
  refine s_aload_n (q := 1) C 0 dX8_ofCake_0 rfl rfl rfl ?_
  refine s_iload_n (q := 2) C 1 dX8_ofCake_1 rfl rfl rfl ?_
  refine s_Vi (q := 5) (As := [.int a1]) (st := []) C (uX8_isCake l G hG V a1) yvX8_isCake mlX8_78 (s80 hG) rfl rfl rfl rfl rfl rfl (gR_le (by decide) (by decide)) (Nat.le_of_ble_eq_true rfl) dX8_ofCake_2 rfl (fun x1 V2 => ?_)
  refine s_if_eq (tgt := 18) (q := 8) C dX8_ofCake_5 (by decide) rfl (fun c3 => ?_) (fun c3 => ?_)
  · refine s_aload_n (q := 19) C 0 dX8_ofCake_18 rfl rfl rfl ?_
    refine s_ldc (q := 21) (v := (-1000000001)) C dX8_ofCake_19 rfl kX8_48 ?_
    refine s_Vi (q := 24) (As := [.int (-1000000001)]) (st := []) C (uX8_errs l G hG V2 (-1000000001)) yvX8_errs mlX8_49 (s80 hG) rfl rfl rfl rfl rfl rfl (gR_le (by decide) (by decide)) (Nat.le_of_ble_eq_true rfl) dX8_ofCake_21 rfl (fun x4 V5 => ?_)
    exact s_iret C E dX8_ofCake_24
  · refine s_iload_n (q := 9) C 2 dX8_ofCake_8 rfl rfl rfl ?_
    refine s_iconst (q := 10) (v := 0) C dX8_ofCake_9 rfl (by decide) ?_
    refine s_bipush (q := 12) (v := 8) C dX8_ofCake_10 rfl (by decide) ?_
    refine s_Si (q := 15) (As := [.int a2, .int 0, .int 8]) (st := []) C (uX8_in l G hG V2 a2 0 8) ysX8_in mlX8_44 rfl rfl rfl rfl (gR_le (by decide) (by decide)) (Nat.le_of_ble_eq_true rfl) dX8_ofCake_12 rfl (fun x6 V7 => ?_)
    refine s_if_ne (tgt := 25) (q := 18) C dX8_ofCake_15 (by decide) rfl (fun c8 => ?_) (fun c8 => ?_)
    · refine s_aload_n (q := 19) C 0 dX8_ofCake_18 rfl rfl rfl ?_
      refine s_ldc (q := 21) (v := (-1000000001)) C dX8_ofCake_19 rfl kX8_48 ?_
      refine s_Vi (q := 24) (As := [.int (-1000000001)]) (st := []) C (uX8_errs l G hG V7 (-1000000001)) yvX8_errs mlX8_49 (s80 hG) rfl rfl rfl rfl rfl rfl (gR_le (by decide) (by decide)) (Nat.le_of_ble_eq_true rfl) dX8_ofCake_21 rfl (fun x27 V28 => ?_)
      exact s_iret C E dX8_ofCake_24
    · refine s_iload_n (q := 26) C 2 dX8_ofCake_25 rfl rfl rfl ?_
      refine s_case (fun c9 => ?_) (fun c9 => ?_)
      · refine s_tin (q := 56) (off := 30) (c := 5) C c9 dX8_ofCake_26 (by decide) (by decide) (by decide) (by decide) ?_
        refine s_aload_n (q := 57) C 0 dX8_ofCake_56 rfl rfl rfl ?_
        refine s_iload_n (q := 58) C 1 dX8_ofCake_57 rfl rfl rfl ?_
        refine s_Vi (q := 61) (As := [.int a1]) (st := []) C (uX8_thick l G hG V7 a1) yvX8_thick mlX8_81 (s80 hG) rfl rfl rfl rfl rfl rfl (gR_le (by decide) (by decide)) (Nat.le_of_ble_eq_true rfl) dX8_ofCake_58 rfl (fun x10 V11 => ?_)
        exact s_iret C E dX8_ofCake_61
      · refine s_case (fun c12 => ?_) (fun c12 => ?_)
        · refine s_tin (q := 62) (off := 36) (c := 6) C c12 dX8_ofCake_26 (by decide) (by decide) (by decide) (by decide) ?_
          refine s_aload_n (q := 63) C 0 dX8_ofCake_62 rfl rfl rfl ?_
          refine s_iload_n (q := 64) C 1 dX8_ofCake_63 rfl rfl rfl ?_
          refine s_Vi (q := 67) (As := [.int a1]) (st := []) C (uX8_shows l G hG V7 a1) yvX8_shows mlX8_58 (s80 hG) rfl rfl rfl rfl rfl rfl (gR_le (by decide) (by decide)) (Nat.le_of_ble_eq_true rfl) dX8_ofCake_64 rfl (fun x13 V14 => ?_)
          exact s_iret C E dX8_ofCake_67
        · refine s_case (fun c15 => ?_) (fun c15 => ?_)
          · refine s_tin (q := 68) (off := 42) (c := 7) C c15 dX8_ofCake_26 (by decide) (by decide) (by decide) (by decide) ?_
            refine s_aload_n (q := 69) C 0 dX8_ofCake_68 rfl rfl rfl ?_
            refine s_iload_n (q := 70) C 1 dX8_ofCake_69 rfl rfl rfl ?_
            refine s_Vi (q := 73) (As := [.int a1]) (st := []) C (uX8_isGone l G hG V7 a1) yvX8_isGone mlX8_84 (s80 hG) rfl rfl rfl rfl rfl rfl (gR_le (by decide) (by decide)) (Nat.le_of_ble_eq_true rfl) dX8_ofCake_70 rfl (fun x16 V17 => ?_)
            refine s_if_eq (tgt := 80) (q := 76) C dX8_ofCake_73 (by decide) rfl (fun c18 => ?_) (fun c18 => ?_)
            · refine s_iconst (q := 81) (v := 0) C dX8_ofCake_80 rfl (by decide) ?_
              exact s_iret C E dX8_ofCake_81
            · refine s_iconst (q := 77) (v := 1) C dX8_ofCake_76 rfl (by decide) ?_
              refine s_goto (q := 81) C dX8_ofCake_77 (by decide) ?_
              exact s_iret C E dX8_ofCake_81
          · refine s_case (fun c19 => ?_) (fun c19 => ?_)
            · refine s_tin (q := 82) (off := 56) (c := 8) C c19 dX8_ofCake_26 (by decide) (by decide) (by decide) (by decide) ?_
              refine s_aload_n (q := 83) C 0 dX8_ofCake_82 rfl rfl rfl ?_
              refine s_iload_n (q := 84) C 1 dX8_ofCake_83 rfl rfl rfl ?_
              refine s_Vi (q := 87) (As := [.int a1]) (st := []) C (uX8_isGone l G hG V7 a1) yvX8_isGone mlX8_84 (s80 hG) rfl rfl rfl rfl rfl rfl (gR_le (by decide) (by decide)) (Nat.le_of_ble_eq_true rfl) dX8_ofCake_84 rfl (fun x20 V21 => ?_)
              refine s_if_eq (tgt := 94) (q := 90) C dX8_ofCake_87 (by decide) rfl (fun c22 => ?_) (fun c22 => ?_)
              · refine s_aload_n (q := 95) C 0 dX8_ofCake_94 rfl rfl rfl ?_
                refine s_iload_n (q := 96) C 1 dX8_ofCake_95 rfl rfl rfl ?_
                refine s_Vi (q := 99) (As := [.int a1]) (st := []) C (uX8_wearsBy l G hG V21 a1) yvX8_wearsBy mlX8_87 (s80 hG) rfl rfl rfl rfl rfl rfl (gR_le (by decide) (by decide)) (Nat.le_of_ble_eq_true rfl) dX8_ofCake_96 rfl (fun x23 V24 => ?_)
                exact s_iret C E dX8_ofCake_99
              · refine s_iconst (q := 91) (v := 0) C dX8_ofCake_90 rfl (by decide) ?_
                refine s_goto (q := 99) C dX8_ofCake_91 (by decide) ?_
                exact s_iret C E dX8_ofCake_99
            · refine s_tout (q := 100) C dX8_ofCake_26 (by have zc9 := lv_neT (k := 5) (a := 5) c9 (by decide); have zc12 := lv_neT (k := 6) (a := 6) c12 (by decide); have zc15 := lv_neT (k := 7) (a := 7) c15 (by decide); have zc19 := lv_neT (k := 8) (a := 8) c19 (by decide); omega) (by decide) ?_
              refine s_aload_n (q := 101) C 0 dX8_ofCake_100 rfl rfl rfl ?_
              refine s_iload_n (q := 102) C 1 dX8_ofCake_101 rfl rfl rfl ?_
              refine s_iload_n (q := 103) C 2 dX8_ofCake_102 rfl rfl rfl ?_
              refine s_Vi (q := 106) (As := [.int a1, .int a2]) (st := []) C (uX8_its l G hG V7 a1 a2) yvX8_its mlX8_54 (s80 hG) rfl rfl rfl rfl rfl rfl (gR_le (by decide) (by decide)) (Nat.le_of_ble_eq_true rfl) dX8_ofCake_103 rfl (fun x25 V26 => ?_)
              exact s_iret C E dX8_ofCake_106
noncomputable def fX8_layer (V : gV) (a1 : Int32) (a2 : Int32) : Option (Int32 × gV) := gbi (fX8_isCake V a1) fun (x1 : Int32) (V2 : gV) => if x1 = 0 then (gbi (fX8_errs V2 (-1000000001)) fun (x4 : Int32) (V5 : gV) => some (x4, V5)) else (gbi (fX8_in V2 a2 (-1) 9) fun (x6 : Int32) (V7 : gV) => if x6 = 0 then (gbi (fX8_errs V7 (-1000000001)) fun (x16 : Int32) (V17 : gV) => some (x16, V17)) else (gbi (fX8_its V7 a1 3) fun (x9 : Int32) (V10 : gV) => if x9 = 8 then (gbi (fX8_errs V10 (-1000000004)) fun (x14 : Int32) (V15 : gV) => some (x14, V15)) else (gbv (fX8_gets V10 a1 (5 + x9) a2) fun (V12 : gV) => gbv (fX8_gets V12 a1 3 (x9 + 1)) fun (V13 : gV) => some ((x9 + 1), V13))))
set_option maxHeartbeats 4000000 in
set_option maxRecDepth 100000 in
theorem uX8_layer (l : Launch) (G : gG) (hG : gIsM G) (V : gV) (a1 : Int32) (a2 : Int32) : gMi l G yX8_layer cX8_layer 4 Jvm.ClassFile.FieldType.int (gR 2 43) [.ref (G.1 0), .int a1, .int a2] V (fX8_layer V a1 a2) := by
  unfold fX8_layer
  refine gM_i (by decide +kernel) rfl rfl (Nat.le_of_ble_eq_true rfl) (fun X rr VV C E => ?_)
  change gC cX8_layer 4 RX8 G X at C
  change gSm l (gR 2 43) 4 G X _ (rr, VV) V 0 [(0, .ref (G.1 0)), (1, .int a1), (2, .int a2)] []
  refine s_aload_n (q := 1) C 0 dX8_layer_0 rfl rfl rfl ?_
  refine s_iload_n (q := 2) C 1 dX8_layer_1 rfl rfl rfl ?_
  refine s_Vi (q := 5) (As := [.int a1]) (st := []) C (uX8_isCake l G hG V a1) yvX8_isCake mlX8_78 (s80 hG) rfl rfl rfl rfl rfl rfl (gR_le (by decide) (by decide)) (Nat.le_of_ble_eq_true rfl) dX8_layer_2 rfl (fun x1 V2 => ?_)
  refine s_if_eq (tgt := 18) (q := 8) C dX8_layer_5 (by decide) rfl (fun c3 => ?_) (fun c3 => ?_)
  · refine s_aload_n (q := 19) C 0 dX8_layer_18 rfl rfl rfl ?_
    refine s_ldc (q := 21) (v := (-1000000001)) C dX8_layer_19 rfl kX8_48 ?_
    refine s_Vi (q := 24) (As := [.int (-1000000001)]) (st := []) C (uX8_errs l G hG V2 (-1000000001)) yvX8_errs mlX8_49 (s80 hG) rfl rfl rfl rfl rfl rfl (gR_le (by decide) (by decide)) (Nat.le_of_ble_eq_true rfl) dX8_layer_21 rfl (fun x4 V5 => ?_)
    exact s_iret C E dX8_layer_24
  · refine s_iload_n (q := 9) C 2 dX8_layer_8 rfl rfl rfl ?_
    refine s_iconst (q := 10) (v := (-1)) C dX8_layer_9 rfl (by decide) ?_
    refine s_bipush (q := 12) (v := 9) C dX8_layer_10 rfl (by decide) ?_
    refine s_Si (q := 15) (As := [.int a2, .int (-1), .int 9]) (st := []) C (uX8_in l G hG V2 a2 (-1) 9) ysX8_in mlX8_44 rfl rfl rfl rfl (gR_le (by decide) (by decide)) (Nat.le_of_ble_eq_true rfl) dX8_layer_12 rfl (fun x6 V7 => ?_)
    refine s_if_ne (tgt := 25) (q := 18) C dX8_layer_15 (by decide) rfl (fun c8 => ?_) (fun c8 => ?_)
    · refine s_aload_n (q := 19) C 0 dX8_layer_18 rfl rfl rfl ?_
      refine s_ldc (q := 21) (v := (-1000000001)) C dX8_layer_19 rfl kX8_48 ?_
      refine s_Vi (q := 24) (As := [.int (-1000000001)]) (st := []) C (uX8_errs l G hG V7 (-1000000001)) yvX8_errs mlX8_49 (s80 hG) rfl rfl rfl rfl rfl rfl (gR_le (by decide) (by decide)) (Nat.le_of_ble_eq_true rfl) dX8_layer_21 rfl (fun x16 V17 => ?_)
      exact s_iret C E dX8_layer_24
    · refine s_aload_n (q := 26) C 0 dX8_layer_25 rfl rfl rfl ?_
      refine s_iload_n (q := 27) C 1 dX8_layer_26 rfl rfl rfl ?_
      refine s_iconst (q := 28) (v := 3) C dX8_layer_27 rfl (by decide) ?_
      refine s_Vi (q := 31) (As := [.int a1, .int 3]) (st := []) C (uX8_its l G hG V7 a1 3) yvX8_its mlX8_54 (s80 hG) rfl rfl rfl rfl rfl rfl (gR_le (by decide) (by decide)) (Nat.le_of_ble_eq_true rfl) dX8_layer_28 rfl (fun x9 V10 => ?_)
      refine s_istore_n (q := 32) (L' := [(3, .int x9), (0, .ref (G.1 0)), (1, .int a1), (2, .int a2)]) C dX8_layer_31 rfl rfl (by decide) rfl ?_
      refine s_iload_n (q := 33) C 0 dX8_layer_32 rfl rfl rfl ?_
      refine s_bipush (q := 35) (v := 8) C dX8_layer_33 rfl (by decide) ?_
      refine s_icmp_ne (tgt := 45) (q := 38) C dX8_layer_35 (by decide) rfl (fun c11 => ?_) (fun c11 => ?_)
      · refine s_aload_n (q := 39) C 1 dX8_layer_38 rfl rfl rfl ?_
        refine s_ldc (q := 41) (v := (-1000000004)) C dX8_layer_39 rfl kX8_53 ?_
        refine s_Vi (q := 44) (As := [.int (-1000000004)]) (st := []) C (uX8_errs l G hG V10 (-1000000004)) yvX8_errs mlX8_49 (s80 hG) rfl rfl rfl rfl rfl rfl (gR_le (by decide) (by decide)) (Nat.le_of_ble_eq_true rfl) dX8_layer_41 rfl (fun x14 V15 => ?_)
        exact s_iret C E dX8_layer_44
      · refine s_aload_n (q := 46) C 1 dX8_layer_45 rfl rfl rfl ?_
        refine s_iload_n (q := 47) C 2 dX8_layer_46 rfl rfl rfl ?_
        refine s_iconst (q := 48) (v := 5) C dX8_layer_47 rfl (by decide) ?_
        refine s_iload_n (q := 49) C 0 dX8_layer_48 rfl rfl rfl ?_
        refine s_iadd (q := 50) C dX8_layer_49 rfl ?_
        refine s_iload_n (q := 51) C 3 dX8_layer_50 rfl rfl rfl ?_
        refine s_Vv (q := 54) (As := [.int a1, .int (5 + x9), .int a2]) (st := []) C (uX8_gets l G hG V10 a1 (5 + x9) a2) yvX8_gets mlX8_74 (s80 hG) rfl rfl rfl rfl rfl rfl (gR_le (by decide) (by decide)) (Nat.le_of_ble_eq_true rfl) dX8_layer_51 rfl (fun V12 => ?_)
        refine s_aload_n (q := 55) C 1 dX8_layer_54 rfl rfl rfl ?_
        refine s_iload_n (q := 56) C 2 dX8_layer_55 rfl rfl rfl ?_
        refine s_iconst (q := 57) (v := 3) C dX8_layer_56 rfl (by decide) ?_
        refine s_iload_n (q := 58) C 0 dX8_layer_57 rfl rfl rfl ?_
        refine s_iconst (q := 59) (v := 1) C dX8_layer_58 rfl (by decide) ?_
        refine s_iadd (q := 60) C dX8_layer_59 rfl ?_
        refine s_Vv (q := 63) (As := [.int a1, .int 3, .int (x9 + 1)]) (st := []) C (uX8_gets l G hG V12 a1 3 (x9 + 1)) yvX8_gets mlX8_74 (s80 hG) rfl rfl rfl rfl rfl rfl (gR_le (by decide) (by decide)) (Nat.le_of_ble_eq_true rfl) dX8_layer_60 rfl (fun V13 => ?_)
        refine s_iload_n (q := 64) C 0 dX8_layer_63 rfl rfl rfl ?_
        refine s_iconst (q := 65) (v := 1) C dX8_layer_64 rfl (by decide) ?_
        refine s_iadd (q := 66) C dX8_layer_65 rfl ?_
        exact s_iret C E dX8_layer_66
noncomputable def fX8_named (V : gV) (a1 : Int32) (a2 : Int32) : Option (Int32 × gV) := gbi (fX8_isCake V a1) fun (x1 : Int32) (V2 : gV) => if x1 = 0 then (gbi (fX8_errs V2 (-1000000001)) fun (x4 : Int32) (V5 : gV) => some (x4, V5)) else (gbi (fX8_its V2 a1 3) fun (x6 : Int32) (V7 : gV) => gbi (fX8_in V7 a2 0 (x6 - 1)) fun (x8 : Int32) (V9 : gV) => if x8 = 0 then (gbi (fX8_errs V9 (-1000000001)) fun (x11 : Int32) (V12 : gV) => some (x11, V12)) else (gbi (fX8_its V9 a1 (5 + a2)) fun (x13 : Int32) (V14 : gV) => some (x13, V14)))
set_option maxHeartbeats 4000000 in
set_option maxRecDepth 100000 in
theorem uX8_named (l : Launch) (G : gG) (hG : gIsM G) (V : gV) (a1 : Int32) (a2 : Int32) : gMi l G yX8_named cX8_named 3 Jvm.ClassFile.FieldType.int (gR 2 43) [.ref (G.1 0), .int a1, .int a2] V (fX8_named V a1 a2) := by
  unfold fX8_named
  refine gM_i (by decide +kernel) rfl rfl (Nat.le_of_ble_eq_true rfl) (fun X rr VV C E => ?_)
  change gC cX8_named 3 RX8 G X at C
  change gSm l (gR 2 43) 3 G X _ (rr, VV) V 0 [(0, .ref (G.1 0)), (1, .int a1), (2, .int a2)] []
  refine s_aload_n (q := 1) C 0 dX8_named_0 rfl rfl rfl ?_
  refine s_iload_n (q := 2) C 1 dX8_named_1 rfl rfl rfl ?_
  refine s_Vi (q := 5) (As := [.int a1]) (st := []) C (uX8_isCake l G hG V a1) yvX8_isCake mlX8_78 (s80 hG) rfl rfl rfl rfl rfl rfl (gR_le (by decide) (by decide)) (Nat.le_of_ble_eq_true rfl) dX8_named_2 rfl (fun x1 V2 => ?_)
  refine s_if_eq (tgt := 35) (q := 8) C dX8_named_5 (by decide) rfl (fun c3 => ?_) (fun c3 => ?_)
  · refine s_aload_n (q := 36) C 0 dX8_named_35 rfl rfl rfl ?_
    refine s_ldc (q := 38) (v := (-1000000001)) C dX8_named_36 rfl kX8_48 ?_
    refine s_Vi (q := 41) (As := [.int (-1000000001)]) (st := []) C (uX8_errs l G hG V2 (-1000000001)) yvX8_errs mlX8_49 (s80 hG) rfl rfl rfl rfl rfl rfl (gR_le (by decide) (by decide)) (Nat.le_of_ble_eq_true rfl) dX8_named_38 rfl (fun x4 V5 => ?_)
    exact s_iret C E dX8_named_41
  · refine s_iload_n (q := 9) C 2 dX8_named_8 rfl rfl rfl ?_
    refine s_iconst (q := 10) (v := 0) C dX8_named_9 rfl (by decide) ?_
    refine s_aload_n (q := 11) C 0 dX8_named_10 rfl rfl rfl ?_
    refine s_iload_n (q := 12) C 1 dX8_named_11 rfl rfl rfl ?_
    refine s_iconst (q := 13) (v := 3) C dX8_named_12 rfl (by decide) ?_
    refine s_Vi (q := 16) (As := [.int a1, .int 3]) (st := [.int 0, .int a2]) C (uX8_its l G hG V2 a1 3) yvX8_its mlX8_54 (s80 hG) rfl rfl rfl rfl rfl rfl (gR_le (by decide) (by decide)) (Nat.le_of_ble_eq_true rfl) dX8_named_13 rfl (fun x6 V7 => ?_)
    refine s_iconst (q := 17) (v := 1) C dX8_named_16 rfl (by decide) ?_
    refine s_isub (q := 18) C dX8_named_17 rfl ?_
    refine s_Si (q := 21) (As := [.int a2, .int 0, .int (x6 - 1)]) (st := []) C (uX8_in l G hG V7 a2 0 (x6 - 1)) ysX8_in mlX8_44 rfl rfl rfl rfl (gR_le (by decide) (by decide)) (Nat.le_of_ble_eq_true rfl) dX8_named_18 rfl (fun x8 V9 => ?_)
    refine s_if_eq (tgt := 35) (q := 24) C dX8_named_21 (by decide) rfl (fun c10 => ?_) (fun c10 => ?_)
    · refine s_aload_n (q := 36) C 0 dX8_named_35 rfl rfl rfl ?_
      refine s_ldc (q := 38) (v := (-1000000001)) C dX8_named_36 rfl kX8_48 ?_
      refine s_Vi (q := 41) (As := [.int (-1000000001)]) (st := []) C (uX8_errs l G hG V9 (-1000000001)) yvX8_errs mlX8_49 (s80 hG) rfl rfl rfl rfl rfl rfl (gR_le (by decide) (by decide)) (Nat.le_of_ble_eq_true rfl) dX8_named_38 rfl (fun x11 V12 => ?_)
      exact s_iret C E dX8_named_41
    · refine s_aload_n (q := 25) C 0 dX8_named_24 rfl rfl rfl ?_
      refine s_iload_n (q := 26) C 1 dX8_named_25 rfl rfl rfl ?_
      refine s_iconst (q := 27) (v := 5) C dX8_named_26 rfl (by decide) ?_
      refine s_iload_n (q := 28) C 2 dX8_named_27 rfl rfl rfl ?_
      refine s_iadd (q := 29) C dX8_named_28 rfl ?_
      refine s_Vi (q := 32) (As := [.int a1, .int (5 + a2)]) (st := []) C (uX8_its l G hG V9 a1 (5 + a2)) yvX8_its mlX8_54 (s80 hG) rfl rfl rfl rfl rfl rfl (gR_le (by decide) (by decide)) (Nat.le_of_ble_eq_true rfl) dX8_named_29 rfl (fun x13 V14 => ?_)
      refine s_goto (q := 41) C dX8_named_32 (by decide) ?_
      exact s_iret C E dX8_named_41
noncomputable def fX8_shift (V : gV) (a1 : Int32) (a2 : Int32) (a3 : Int32) : Option (Int32 × gV) := gjn (fun (x14 : Int32) (V15 : gV) => gbi (fX8_isCake V15 a1) fun (x17 : Int32) (V18 : gV) => if x17 = 0 then (gbi (fX8_errs V18 (-1000000001)) fun (x20 : Int32) (V21 : gV) => some (x20, V21)) else (if x14 = 0 then (gbi (fX8_errs V18 (-1000000001)) fun (x23 : Int32) (V24 : gV) => some (x23, V24)) else (if a2 = 0 then (gbi (fX8_becomes V18 ((16 + (13 * a1)) + 2) a3) fun (x28 : Int32) (V29 : gV) => some (x28, V29)) else (gbi (fX8_becomes V18 ((16 + (13 * a1)) + 4) a3) fun (x26 : Int32) (V27 : gV) => some (x26, V27))))) fun J16 => if a2 = 0 then (gbi (fX8_isHouse V a3) fun (x41 : Int32) (V42 : gV) => J16 x41 V42) else (gjn (fun (V35 : gV) => J16 0 V35) fun J36 => if a2 = 1 then (gbi (fX8_in V a3 0 9999) fun (x38 : Int32) (V39 : gV) => if x38 = 0 then (J36 V39) else (J16 1 V39)) else (J36 V))
set_option maxHeartbeats 4000000 in
set_option maxRecDepth 100000 in
theorem uX8_shift (l : Launch) (G : gG) (hG : gIsM G) (V : gV) (a1 : Int32) (a2 : Int32) (a3 : Int32) : gMi l G yX8_shift cX8_shift 5 Jvm.ClassFile.FieldType.int (gR 2 43) [.ref (G.1 0), .int a1, .int a2, .int a3] V (fX8_shift V a1 a2 a3) := by
  unfold fX8_shift
  refine gM_i (by decide +kernel) rfl rfl (Nat.le_of_ble_eq_true rfl) (fun X rr VV C E => ?_)
  change gC cX8_shift 5 RX8 G X at C
  change gSm l (gR 2 43) 5 G X _ (rr, VV) V 0 [(0, .ref (G.1 0)), (1, .int a1), (2, .int a2), (3, .int a3)] []
  refine s_iload_n (q := 1) C 2 dX8_shift_0 rfl rfl rfl ?_
  refine s_jn (fun J16 => ∀ (x14 : Int32) (V15 : gV), gSm l (gR 2 43) 5 G X (J16 x14 V15) (rr, VV) V15 33 [(0, .ref (G.1 0)), (1, .int a1), (2, .int a2), (3, .int a3)] [.int x14]) ?_ (fun J16 hJ16 => ?_)
  · intro x14 V15
    refine s_istore (q := 35) (L' := [(4, .int x14), (0, .ref (G.1 0)), (1, .int a1), (2, .int a2), (3, .int a3)]) C dX8_shift_33 rfl (by decide) rfl ?_
    refine s_aload_n (q := 36) C 1 dX8_shift_35 rfl rfl rfl ?_
    refine s_iload_n (q := 37) C 2 dX8_shift_36 rfl rfl rfl ?_
    refine s_Vi (q := 40) (As := [.int a1]) (st := []) C (uX8_isCake l G hG V15 a1) yvX8_isCake mlX8_78 (s80 hG) rfl rfl rfl rfl rfl rfl (gR_le (by decide) (by decide)) (Nat.le_of_ble_eq_true rfl) dX8_shift_37 rfl (fun x17 V18 => ?_)
    refine s_if_eq (tgt := 73) (q := 43) C dX8_shift_40 (by decide) rfl (fun c19 => ?_) (fun c19 => ?_)
    · refine s_aload_n (q := 74) C 1 dX8_shift_73 rfl rfl rfl ?_
      refine s_ldc (q := 76) (v := (-1000000001)) C dX8_shift_74 rfl kX8_48 ?_
      refine s_Vi (q := 79) (As := [.int (-1000000001)]) (st := []) C (uX8_errs l G hG V18 (-1000000001)) yvX8_errs mlX8_49 (s80 hG) rfl rfl rfl rfl rfl rfl (gR_le (by decide) (by decide)) (Nat.le_of_ble_eq_true rfl) dX8_shift_76 rfl (fun x20 V21 => ?_)
      exact s_iret C E dX8_shift_79
    · refine s_iload (q := 45) C 0 dX8_shift_43 rfl rfl ?_
      refine s_if_eq (tgt := 73) (q := 48) C dX8_shift_45 (by decide) rfl (fun c22 => ?_) (fun c22 => ?_)
      · refine s_aload_n (q := 74) C 1 dX8_shift_73 rfl rfl rfl ?_
        refine s_ldc (q := 76) (v := (-1000000001)) C dX8_shift_74 rfl kX8_48 ?_
        refine s_Vi (q := 79) (As := [.int (-1000000001)]) (st := []) C (uX8_errs l G hG V18 (-1000000001)) yvX8_errs mlX8_49 (s80 hG) rfl rfl rfl rfl rfl rfl (gR_le (by decide) (by decide)) (Nat.le_of_ble_eq_true rfl) dX8_shift_76 rfl (fun x23 V24 => ?_)
        exact s_iret C E dX8_shift_79
      · refine s_aload_n (q := 49) C 1 dX8_shift_48 rfl rfl rfl ?_
        refine s_bipush (q := 51) (v := 16) C dX8_shift_49 rfl (by decide) ?_
        refine s_bipush (q := 53) (v := 13) C dX8_shift_51 rfl (by decide) ?_
        refine s_iload_n (q := 54) C 2 dX8_shift_53 rfl rfl rfl ?_
        refine s_imul (q := 55) C dX8_shift_54 rfl ?_
        refine s_iadd (q := 56) C dX8_shift_55 rfl ?_
        refine s_iload_n (q := 57) C 3 dX8_shift_56 rfl rfl rfl ?_
        refine s_if_ne (tgt := 64) (q := 60) C dX8_shift_57 (by decide) rfl (fun c25 => ?_) (fun c25 => ?_)
        · refine s_iconst (q := 61) (v := 2) C dX8_shift_60 rfl (by decide) ?_
          refine s_goto (q := 65) C dX8_shift_61 (by decide) ?_
          refine s_iadd (q := 66) C dX8_shift_65 rfl ?_
          refine s_iload_n (q := 67) C 4 dX8_shift_66 rfl rfl rfl ?_
          refine s_Vi (q := 70) (As := [.int ((16 + (13 * a1)) + 2), .int a3]) (st := []) C (uX8_becomes l G hG V18 ((16 + (13 * a1)) + 2) a3) yvX8_becomes mlX8_71 (s80 hG) rfl rfl rfl rfl rfl rfl (gR_le (by decide) (by decide)) (Nat.le_of_ble_eq_true rfl) dX8_shift_67 rfl (fun x28 V29 => ?_)
          refine s_goto (q := 79) C dX8_shift_70 (by decide) ?_
          exact s_iret C E dX8_shift_79
        · refine s_iconst (q := 65) (v := 4) C dX8_shift_64 rfl (by decide) ?_
          refine s_iadd (q := 66) C dX8_shift_65 rfl ?_
          refine s_iload_n (q := 67) C 4 dX8_shift_66 rfl rfl rfl ?_
          refine s_Vi (q := 70) (As := [.int ((16 + (13 * a1)) + 4), .int a3]) (st := []) C (uX8_becomes l G hG V18 ((16 + (13 * a1)) + 4) a3) yvX8_becomes mlX8_71 (s80 hG) rfl rfl rfl rfl rfl rfl (gR_le (by decide) (by decide)) (Nat.le_of_ble_eq_true rfl) dX8_shift_67 rfl (fun x26 V27 => ?_)
          refine s_goto (q := 79) C dX8_shift_70 (by decide) ?_
          exact s_iret C E dX8_shift_79
  · refine s_if_ne (tgt := 12) (q := 4) C dX8_shift_1 (by decide) rfl (fun c30 => ?_) (fun c30 => ?_)
    · refine s_aload_n (q := 5) C 0 dX8_shift_4 rfl rfl rfl ?_
      refine s_iload_n (q := 6) C 3 dX8_shift_5 rfl rfl rfl ?_
      refine s_Vi (q := 9) (As := [.int a3]) (st := []) C (uX8_isHouse l G hG V a3) yvX8_isHouse mlX8_61 (s80 hG) rfl rfl rfl rfl rfl rfl (gR_le (by decide) (by decide)) (Nat.le_of_ble_eq_true rfl) dX8_shift_6 rfl (fun x41 V42 => ?_)
      refine s_goto (q := 33) C dX8_shift_9 (by decide) ?_
      refine s_sub [0, 1, 2, 3] rfl ?_
      exact hJ16 x41 V42
    · refine s_iload_n (q := 13) C 2 dX8_shift_12 rfl rfl rfl ?_
      refine s_iconst (q := 14) (v := 1) C dX8_shift_13 rfl (by decide) ?_
      refine s_jn (fun J36 => ∀ (V35 : gV), gSm l (gR 2 43) 5 G X (J36 V35) (rr, VV) V35 32 [(0, .ref (G.1 0)), (1, .int a1), (2, .int a2), (3, .int a3)] []) ?_ (fun J36 hJ36 => ?_)
      · intro V35
        refine s_iconst (q := 33) (v := 0) C dX8_shift_32 rfl (by decide) ?_
        refine s_sub [0, 1, 2, 3] rfl ?_
        exact hJ16 0 V35
      · refine s_icmp_ne (tgt := 32) (q := 17) C dX8_shift_14 (by decide) rfl (fun c37 => ?_) (fun c37 => ?_)
        · refine s_iload_n (q := 18) C 3 dX8_shift_17 rfl rfl rfl ?_
          refine s_iconst (q := 19) (v := 0) C dX8_shift_18 rfl (by decide) ?_
          refine s_sipush (q := 22) (v := 9999) C dX8_shift_19 rfl (by decide) ?_
          refine s_Si (q := 25) (As := [.int a3, .int 0, .int 9999]) (st := []) C (uX8_in l G hG V a3 0 9999) ysX8_in mlX8_44 rfl rfl rfl rfl (gR_le (by decide) (by decide)) (Nat.le_of_ble_eq_true rfl) dX8_shift_22 rfl (fun x38 V39 => ?_)
          refine s_if_eq (tgt := 32) (q := 28) C dX8_shift_25 (by decide) rfl (fun c40 => ?_) (fun c40 => ?_)
          · refine s_sub [0, 1, 2, 3] rfl ?_
            exact hJ36 V39
          · refine s_iconst (q := 29) (v := 1) C dX8_shift_28 rfl (by decide) ?_
            refine s_goto (q := 33) C dX8_shift_29 (by decide) ?_
            refine s_sub [0, 1, 2, 3] rfl ?_
            exact hJ16 1 V39
        · refine s_sub [0, 1, 2, 3] rfl ?_
          exact hJ36 V
noncomputable def fX8_press_L1b (a1 : Int32) (a2 : Int32) (B20 : gV → Int32 → Int32 → Option (Int32 × gV)) (V17 : gV) (x18 : Int32) (x19 : Int32) : Option (Int32 × gV) := gbi (fX8_its V17 a1 3) fun (x21 : Int32) (V22 : gV) => if x21 ≤ x19 then (gbv (fX8_gets V22 a1 3 0) fun (V24 : gV) => some (x18, V24)) else (gbi (fX8_its V22 a2 3) fun (x25 : Int32) (V26 : gV) => if 8 ≤ x25 then (B20 V26 x18 ((x19 + 1))) else (gbi (fX8_its V26 a1 (5 + x19)) fun (x28 : Int32) (V29 : gV) => gbv (fX8_gets V29 a2 (5 + x25) x28) fun (V30 : gV) => gbv (fX8_gets V30 a2 3 (x25 + 1)) fun (V31 : gV) => B20 V31 ((x18 + 1)) ((x19 + 1))))
noncomputable def fX8_press_L1 (a1 : Int32) (a2 : Int32) : Nat → gV → Int32 → Int32 → Option (Int32 × gV)
  | 0 => fun _ _ _ => none
  | n + 1 => fX8_press_L1b a1 a2 (fX8_press_L1 a1 a2 n)
noncomputable def fX8_press (V : gV) (a1 : Int32) (a2 : Int32) : Option (Int32 × gV) := gbi (fX8_isCake V a1) fun (x1 : Int32) (V2 : gV) => if x1 = 0 then (gbi (fX8_errs V2 (-1000000001)) fun (x4 : Int32) (V5 : gV) => some (x4, V5)) else (gbi (fX8_isCake V2 a2) fun (x6 : Int32) (V7 : gV) => if x6 = 0 then (gbi (fX8_errs V7 (-1000000001)) fun (x9 : Int32) (V10 : gV) => some (x9, V10)) else (if a1 = a2 then (gbi (fX8_errs V7 (-1000000001)) fun (x34 : Int32) (V35 : gV) => some (x34, V35)) else (gbi (fX8_isGone V7 a1) fun (x12 : Int32) (V13 : gV) => if x12 = 0 then (gbi (fX8_out V13 a1) fun (x15 : Int32) (V16 : gV) => fX8_press_L1 a1 a2 gFu V16 0 x15) else (gbi (fX8_errs V13 (-1000000003)) fun (x32 : Int32) (V33 : gV) => some (x32, V33)))))
set_option maxHeartbeats 4000000 in
set_option maxRecDepth 100000 in
theorem uX8_press (l : Launch) (G : gG) (hG : gIsM G) (V : gV) (a1 : Int32) (a2 : Int32) : gMi l G yX8_press cX8_press 6 Jvm.ClassFile.FieldType.int (gR 69 1640) [.ref (G.1 0), .int a1, .int a2] V (fX8_press V a1 a2) := by
  unfold fX8_press
  refine gM_i (by decide +kernel) rfl rfl (Nat.le_of_ble_eq_true rfl) (fun X rr VV C E => ?_)
  change gC cX8_press 6 RX8 G X at C
  change gSm l (gR 69 1640) 6 G X _ (rr, VV) V 0 [(0, .ref (G.1 0)), (1, .int a1), (2, .int a2)] []
  refine s_aload_n (q := 1) C 0 dX8_press_0 rfl rfl rfl ?_
  refine s_iload_n (q := 2) C 1 dX8_press_1 rfl rfl rfl ?_
  refine s_Vi (q := 5) (As := [.int a1]) (st := []) C (uX8_isCake l G hG V a1) yvX8_isCake mlX8_78 (s80 hG) rfl rfl rfl rfl rfl rfl (gR_le (by decide) (by decide)) (Nat.le_of_ble_eq_true rfl) dX8_press_2 rfl (fun x1 V2 => ?_)
  refine s_if_eq (tgt := 21) (q := 8) C dX8_press_5 (by decide) rfl (fun c3 => ?_) (fun c3 => ?_)
  · refine s_aload_n (q := 22) C 0 dX8_press_21 rfl rfl rfl ?_
    refine s_ldc (q := 24) (v := (-1000000001)) C dX8_press_22 rfl kX8_48 ?_
    refine s_Vi (q := 27) (As := [.int (-1000000001)]) (st := []) C (uX8_errs l G hG V2 (-1000000001)) yvX8_errs mlX8_49 (s80 hG) rfl rfl rfl rfl rfl rfl (gR_le (by decide) (by decide)) (Nat.le_of_ble_eq_true rfl) dX8_press_24 rfl (fun x4 V5 => ?_)
    exact s_iret C E dX8_press_27
  · refine s_aload_n (q := 9) C 0 dX8_press_8 rfl rfl rfl ?_
    refine s_iload_n (q := 10) C 2 dX8_press_9 rfl rfl rfl ?_
    refine s_Vi (q := 13) (As := [.int a2]) (st := []) C (uX8_isCake l G hG V2 a2) yvX8_isCake mlX8_78 (s80 hG) rfl rfl rfl rfl rfl rfl (gR_le (by decide) (by decide)) (Nat.le_of_ble_eq_true rfl) dX8_press_10 rfl (fun x6 V7 => ?_)
    refine s_if_eq (tgt := 21) (q := 16) C dX8_press_13 (by decide) rfl (fun c8 => ?_) (fun c8 => ?_)
    · refine s_aload_n (q := 22) C 0 dX8_press_21 rfl rfl rfl ?_
      refine s_ldc (q := 24) (v := (-1000000001)) C dX8_press_22 rfl kX8_48 ?_
      refine s_Vi (q := 27) (As := [.int (-1000000001)]) (st := []) C (uX8_errs l G hG V7 (-1000000001)) yvX8_errs mlX8_49 (s80 hG) rfl rfl rfl rfl rfl rfl (gR_le (by decide) (by decide)) (Nat.le_of_ble_eq_true rfl) dX8_press_24 rfl (fun x9 V10 => ?_)
      exact s_iret C E dX8_press_27
    · refine s_iload_n (q := 17) C 1 dX8_press_16 rfl rfl rfl ?_
      refine s_iload_n (q := 18) C 2 dX8_press_17 rfl rfl rfl ?_
      refine s_icmp_ne (tgt := 28) (q := 21) C dX8_press_18 (by decide) rfl (fun c11 => ?_) (fun c11 => ?_)
      · refine s_aload_n (q := 22) C 0 dX8_press_21 rfl rfl rfl ?_
        refine s_ldc (q := 24) (v := (-1000000001)) C dX8_press_22 rfl kX8_48 ?_
        refine s_Vi (q := 27) (As := [.int (-1000000001)]) (st := []) C (uX8_errs l G hG V7 (-1000000001)) yvX8_errs mlX8_49 (s80 hG) rfl rfl rfl rfl rfl rfl (gR_le (by decide) (by decide)) (Nat.le_of_ble_eq_true rfl) dX8_press_24 rfl (fun x34 V35 => ?_)
        exact s_iret C E dX8_press_27
      · refine s_aload_n (q := 29) C 0 dX8_press_28 rfl rfl rfl ?_
        refine s_iload_n (q := 30) C 1 dX8_press_29 rfl rfl rfl ?_
        refine s_Vi (q := 33) (As := [.int a1]) (st := []) C (uX8_isGone l G hG V7 a1) yvX8_isGone mlX8_84 (s80 hG) rfl rfl rfl rfl rfl rfl (gR_le (by decide) (by decide)) (Nat.le_of_ble_eq_true rfl) dX8_press_30 rfl (fun x12 V13 => ?_)
        refine s_if_eq (tgt := 43) (q := 36) C dX8_press_33 (by decide) rfl (fun c14 => ?_) (fun c14 => ?_)
        · refine s_iconst (q := 44) (v := 0) C dX8_press_43 rfl (by decide) ?_
          refine s_istore_n (q := 45) (L' := [(3, .int 0), (0, .ref (G.1 0)), (1, .int a1), (2, .int a2)]) C dX8_press_44 rfl rfl (by decide) rfl ?_
          refine s_aload_n (q := 46) C 1 dX8_press_45 rfl rfl rfl ?_
          refine s_iload_n (q := 47) C 2 dX8_press_46 rfl rfl rfl ?_
          refine s_Vi (q := 50) (As := [.int a1]) (st := []) C (uX8_out l G hG V13 a1) yvX8_out mlX8_91 (s80 hG) rfl rfl rfl rfl rfl rfl (gR_le (by decide) (by decide)) (Nat.le_of_ble_eq_true rfl) dX8_press_47 rfl (fun x15 V16 => ?_)
          refine s_istore (q := 52) (L' := [(4, .int x15), (3, .int 0), (0, .ref (G.1 0)), (1, .int a1), (2, .int a2)]) C dX8_press_50 rfl (by decide) rfl ?_
          have hL1 : ∀ (n : Nat) (V17 : gV) (x18 : Int32) (x19 : Int32), gSm l (gR 69 1640) 6 G X (fX8_press_L1 a1 a2 n V17 x18 x19) (rr, VV) V17 52 [(0, .ref (G.1 0)), (1, .int a1), (2, .int a2), (3, .int x18), (4, .int x19)] [] := by
            intro n
            induction n with
            | zero => exact fun V17 x18 x19 => s_none
            | succ n ih =>
              intro V17 x18 x19
              show gSm l (gR 69 1640) 6 G X (fX8_press_L1b a1 a2 (fX8_press_L1 a1 a2 n) V17 x18 x19) (rr, VV) V17 52 [(0, .ref (G.1 0)), (1, .int a1), (2, .int a2), (3, .int x18), (4, .int x19)] []
              generalize fX8_press_L1 a1 a2 n = B20 at ih ⊢
              have hB20 := ih
              unfold fX8_press_L1b
              refine s_iload (q := 54) C 4 dX8_press_52 rfl rfl ?_
              refine s_aload_n (q := 55) C 0 dX8_press_54 rfl rfl rfl ?_
              refine s_iload_n (q := 56) C 1 dX8_press_55 rfl rfl rfl ?_
              refine s_iconst (q := 57) (v := 3) C dX8_press_56 rfl (by decide) ?_
              refine s_Vi (q := 60) (As := [.int a1, .int 3]) (st := [.int x19]) C (uX8_its l G hG V17 a1 3) yvX8_its mlX8_54 (s80 hG) rfl rfl rfl rfl rfl rfl (gR_le (by decide) (by decide)) (Nat.le_of_ble_eq_true rfl) dX8_press_57 rfl (fun x21 V22 => ?_)
              refine s_icmp_ge (tgt := 115) (q := 63) C dX8_press_60 (by decide) rfl (fun c23 => ?_) (fun c23 => ?_)
              · refine s_aload_n (q := 116) C 0 dX8_press_115 rfl rfl rfl ?_
                refine s_iload_n (q := 117) C 1 dX8_press_116 rfl rfl rfl ?_
                refine s_iconst (q := 118) (v := 3) C dX8_press_117 rfl (by decide) ?_
                refine s_iconst (q := 119) (v := 0) C dX8_press_118 rfl (by decide) ?_
                refine s_Vv (q := 122) (As := [.int a1, .int 3, .int 0]) (st := []) C (uX8_gets l G hG V22 a1 3 0) yvX8_gets mlX8_74 (s80 hG) rfl rfl rfl rfl rfl rfl (gR_le (by decide) (by decide)) (Nat.le_of_ble_eq_true rfl) dX8_press_119 rfl (fun V24 => ?_)
                refine s_iload_n (q := 123) C 3 dX8_press_122 rfl rfl rfl ?_
                exact s_iret C E dX8_press_123
              · refine s_aload_n (q := 64) C 0 dX8_press_63 rfl rfl rfl ?_
                refine s_iload_n (q := 65) C 2 dX8_press_64 rfl rfl rfl ?_
                refine s_iconst (q := 66) (v := 3) C dX8_press_65 rfl (by decide) ?_
                refine s_Vi (q := 69) (As := [.int a2, .int 3]) (st := []) C (uX8_its l G hG V22 a2 3) yvX8_its mlX8_54 (s80 hG) rfl rfl rfl rfl rfl rfl (gR_le (by decide) (by decide)) (Nat.le_of_ble_eq_true rfl) dX8_press_66 rfl (fun x25 V26 => ?_)
                refine s_istore (q := 71) (L' := [(5, .int x25), (0, .ref (G.1 0)), (1, .int a1), (2, .int a2), (3, .int x18), (4, .int x19)]) C dX8_press_69 rfl (by decide) rfl ?_
                refine s_iload (q := 73) C 0 dX8_press_71 rfl rfl ?_
                refine s_bipush (q := 75) (v := 8) C dX8_press_73 rfl (by decide) ?_
                refine s_icmp_ge (tgt := 109) (q := 78) C dX8_press_75 (by decide) rfl (fun c27 => ?_) (fun c27 => ?_)
                · refine s_iinc (q := 112) (w := 1) (L' := [(4, .int (x19 + 1)), (5, .int x25), (0, .ref (G.1 0)), (1, .int a1), (2, .int a2), (3, .int x18)]) C 5 dX8_press_109 rfl rfl (by decide) rfl (by decide) rfl ?_
                  refine s_goto (q := 52) C dX8_press_112 (by decide) ?_
                  refine s_sub [2, 3, 4, 5, 0] rfl ?_
                  exact hB20 V26 x18 ((x19 + 1))
                · refine s_aload_n (q := 79) C 1 dX8_press_78 rfl rfl rfl ?_
                  refine s_iload_n (q := 80) C 3 dX8_press_79 rfl rfl rfl ?_
                  refine s_iconst (q := 81) (v := 5) C dX8_press_80 rfl (by decide) ?_
                  refine s_iload (q := 83) C 0 dX8_press_81 rfl rfl ?_
                  refine s_iadd (q := 84) C dX8_press_83 rfl ?_
                  refine s_aload_n (q := 85) C 1 dX8_press_84 rfl rfl rfl ?_
                  refine s_iload_n (q := 86) C 2 dX8_press_85 rfl rfl rfl ?_
                  refine s_iconst (q := 87) (v := 5) C dX8_press_86 rfl (by decide) ?_
                  refine s_iload (q := 89) C 5 dX8_press_87 rfl rfl ?_
                  refine s_iadd (q := 90) C dX8_press_89 rfl ?_
                  refine s_Vi (q := 93) (As := [.int a1, .int (5 + x19)]) (st := [.int (5 + x25), .int a2, .ref (G.1 0)]) C (uX8_its l G hG V26 a1 (5 + x19)) yvX8_its mlX8_54 (s80 hG) rfl rfl rfl rfl rfl rfl (gR_le (by decide) (by decide)) (Nat.le_of_ble_eq_true rfl) dX8_press_90 rfl (fun x28 V29 => ?_)
                  refine s_Vv (q := 96) (As := [.int a2, .int (5 + x25), .int x28]) (st := []) C (uX8_gets l G hG V29 a2 (5 + x25) x28) yvX8_gets mlX8_74 (s80 hG) rfl rfl rfl rfl rfl rfl (gR_le (by decide) (by decide)) (Nat.le_of_ble_eq_true rfl) dX8_press_93 rfl (fun V30 => ?_)
                  refine s_aload_n (q := 97) C 1 dX8_press_96 rfl rfl rfl ?_
                  refine s_iload_n (q := 98) C 3 dX8_press_97 rfl rfl rfl ?_
                  refine s_iconst (q := 99) (v := 3) C dX8_press_98 rfl (by decide) ?_
                  refine s_iload (q := 101) C 0 dX8_press_99 rfl rfl ?_
                  refine s_iconst (q := 102) (v := 1) C dX8_press_101 rfl (by decide) ?_
                  refine s_iadd (q := 103) C dX8_press_102 rfl ?_
                  refine s_Vv (q := 106) (As := [.int a2, .int 3, .int (x25 + 1)]) (st := []) C (uX8_gets l G hG V30 a2 3 (x25 + 1)) yvX8_gets mlX8_74 (s80 hG) rfl rfl rfl rfl rfl rfl (gR_le (by decide) (by decide)) (Nat.le_of_ble_eq_true rfl) dX8_press_103 rfl (fun V31 => ?_)
                  refine s_iinc (q := 109) (w := 1) (L' := [(3, .int (x18 + 1)), (5, .int x25), (0, .ref (G.1 0)), (1, .int a1), (2, .int a2), (4, .int x19)]) C 4 dX8_press_106 rfl rfl (by decide) rfl (by decide) rfl ?_
                  refine s_iinc (q := 112) (w := 1) (L' := [(4, .int (x19 + 1)), (3, .int (x18 + 1)), (5, .int x25), (0, .ref (G.1 0)), (1, .int a1), (2, .int a2)]) C 5 dX8_press_109 rfl rfl (by decide) rfl (by decide) rfl ?_
                  refine s_goto (q := 52) C dX8_press_112 (by decide) ?_
                  refine s_sub [3, 4, 5, 1, 0] rfl ?_
                  exact hB20 V31 ((x18 + 1)) ((x19 + 1))
          refine s_sub [2, 3, 4, 1, 0] rfl ?_
          exact hL1 gFu V16 0 x15
        · refine s_aload_n (q := 37) C 0 dX8_press_36 rfl rfl rfl ?_
          refine s_ldc (q := 39) (v := (-1000000003)) C dX8_press_37 rfl kX8_90 ?_
          refine s_Vi (q := 42) (As := [.int (-1000000003)]) (st := []) C (uX8_errs l G hG V13 (-1000000003)) yvX8_errs mlX8_49 (s80 hG) rfl rfl rfl rfl rfl rfl (gR_le (by decide) (by decide)) (Nat.le_of_ble_eq_true rfl) dX8_press_39 rfl (fun x32 V33 => ?_)
          exact s_iret C E dX8_press_42
noncomputable def fX8_become (V : gV) (a1 : Int32) (a2 : Int32) : Option (Int32 × gV) := gbi (fX8_isCake V a1) fun (x1 : Int32) (V2 : gV) => if x1 = 0 then (gbi (fX8_errs V2 (-1000000001)) fun (x4 : Int32) (V5 : gV) => some (x4, V5)) else (gbi (fX8_in V2 a2 0 69) fun (x6 : Int32) (V7 : gV) => if x6 = 0 then (gbi (fX8_errs V7 (-1000000001)) fun (x12 : Int32) (V13 : gV) => some (x12, V13)) else (gdv 10 <| gbv (fX8_gets V7 a1 1 (grm a2 10)) fun (V9 : gV) => gdv 10 <| gbi (fX8_becomes V9 (16 + (13 * a1)) (a2 / 10)) fun (x10 : Int32) (V11 : gV) => some (x10, V11)))
set_option maxHeartbeats 4000000 in
set_option maxRecDepth 100000 in
theorem uX8_become (l : Launch) (G : gG) (hG : gIsM G) (V : gV) (a1 : Int32) (a2 : Int32) : gMi l G yX8_become cX8_become 3 Jvm.ClassFile.FieldType.int (gR 2 43) [.ref (G.1 0), .int a1, .int a2] V (fX8_become V a1 a2) := by
  unfold fX8_become
  refine gM_i (by decide +kernel) rfl rfl (Nat.le_of_ble_eq_true rfl) (fun X rr VV C E => ?_)
  change gC cX8_become 3 RX8 G X at C
  change gSm l (gR 2 43) 3 G X _ (rr, VV) V 0 [(0, .ref (G.1 0)), (1, .int a1), (2, .int a2)] []
  refine s_aload_n (q := 1) C 0 dX8_become_0 rfl rfl rfl ?_
  refine s_iload_n (q := 2) C 1 dX8_become_1 rfl rfl rfl ?_
  refine s_Vi (q := 5) (As := [.int a1]) (st := []) C (uX8_isCake l G hG V a1) yvX8_isCake mlX8_78 (s80 hG) rfl rfl rfl rfl rfl rfl (gR_le (by decide) (by decide)) (Nat.le_of_ble_eq_true rfl) dX8_become_2 rfl (fun x1 V2 => ?_)
  refine s_if_eq (tgt := 18) (q := 8) C dX8_become_5 (by decide) rfl (fun c3 => ?_) (fun c3 => ?_)
  · refine s_aload_n (q := 19) C 0 dX8_become_18 rfl rfl rfl ?_
    refine s_ldc (q := 21) (v := (-1000000001)) C dX8_become_19 rfl kX8_48 ?_
    refine s_Vi (q := 24) (As := [.int (-1000000001)]) (st := []) C (uX8_errs l G hG V2 (-1000000001)) yvX8_errs mlX8_49 (s80 hG) rfl rfl rfl rfl rfl rfl (gR_le (by decide) (by decide)) (Nat.le_of_ble_eq_true rfl) dX8_become_21 rfl (fun x4 V5 => ?_)
    exact s_iret C E dX8_become_24
  · refine s_iload_n (q := 9) C 2 dX8_become_8 rfl rfl rfl ?_
    refine s_iconst (q := 10) (v := 0) C dX8_become_9 rfl (by decide) ?_
    refine s_bipush (q := 12) (v := 69) C dX8_become_10 rfl (by decide) ?_
    refine s_Si (q := 15) (As := [.int a2, .int 0, .int 69]) (st := []) C (uX8_in l G hG V2 a2 0 69) ysX8_in mlX8_44 rfl rfl rfl rfl (gR_le (by decide) (by decide)) (Nat.le_of_ble_eq_true rfl) dX8_become_12 rfl (fun x6 V7 => ?_)
    refine s_if_ne (tgt := 25) (q := 18) C dX8_become_15 (by decide) rfl (fun c8 => ?_) (fun c8 => ?_)
    · refine s_aload_n (q := 19) C 0 dX8_become_18 rfl rfl rfl ?_
      refine s_ldc (q := 21) (v := (-1000000001)) C dX8_become_19 rfl kX8_48 ?_
      refine s_Vi (q := 24) (As := [.int (-1000000001)]) (st := []) C (uX8_errs l G hG V7 (-1000000001)) yvX8_errs mlX8_49 (s80 hG) rfl rfl rfl rfl rfl rfl (gR_le (by decide) (by decide)) (Nat.le_of_ble_eq_true rfl) dX8_become_21 rfl (fun x12 V13 => ?_)
      exact s_iret C E dX8_become_24
    · refine s_aload_n (q := 26) C 0 dX8_become_25 rfl rfl rfl ?_
      refine s_iload_n (q := 27) C 1 dX8_become_26 rfl rfl rfl ?_
      refine s_iconst (q := 28) (v := 1) C dX8_become_27 rfl (by decide) ?_
      refine s_iload_n (q := 29) C 2 dX8_become_28 rfl rfl rfl ?_
      refine s_bipush (q := 31) (v := 10) C dX8_become_29 rfl (by decide) ?_
      refine s_irem (q := 32) C dX8_become_31 rfl ?_
      refine s_Vv (q := 35) (As := [.int a1, .int 1, .int (grm a2 10)]) (st := []) C (uX8_gets l G hG V7 a1 1 (grm a2 10)) yvX8_gets mlX8_74 (s80 hG) rfl rfl rfl rfl rfl rfl (gR_le (by decide) (by decide)) (Nat.le_of_ble_eq_true rfl) dX8_become_32 rfl (fun V9 => ?_)
      refine s_aload_n (q := 36) C 0 dX8_become_35 rfl rfl rfl ?_
      refine s_bipush (q := 38) (v := 16) C dX8_become_36 rfl (by decide) ?_
      refine s_bipush (q := 40) (v := 13) C dX8_become_38 rfl (by decide) ?_
      refine s_iload_n (q := 41) C 1 dX8_become_40 rfl rfl rfl ?_
      refine s_imul (q := 42) C dX8_become_41 rfl ?_
      refine s_iadd (q := 43) C dX8_become_42 rfl ?_
      refine s_iload_n (q := 44) C 2 dX8_become_43 rfl rfl rfl ?_
      refine s_bipush (q := 46) (v := 10) C dX8_become_44 rfl (by decide) ?_
      refine s_idiv (q := 47) C dX8_become_46 rfl ?_
      refine s_Vi (q := 50) (As := [.int (16 + (13 * a1)), .int (a2 / 10)]) (st := []) C (uX8_becomes l G hG V9 (16 + (13 * a1)) (a2 / 10)) yvX8_becomes mlX8_71 (s80 hG) rfl rfl rfl rfl rfl rfl (gR_le (by decide) (by decide)) (Nat.le_of_ble_eq_true rfl) dX8_become_47 rfl (fun x10 V11 => ?_)
      exact s_iret C E dX8_become_50
noncomputable def fX8_above (V : gV) (a0 : Int32) : Option (Int32 × gV) := if a0 = 0 then (some ((-1), V)) else (if a0 ≤ 3 then (some (0, V)) else (some ((a0 - 3), V)))
set_option maxHeartbeats 4000000 in
set_option maxRecDepth 100000 in
theorem uX8_above (l : Launch) (G : gG) (hG : gIsM G) (V : gV) (a0 : Int32) : gMi l G yX8_above cX8_above 1 Jvm.ClassFile.FieldType.int (gR 0 0) [.int a0] V (fX8_above V a0) := by
  unfold fX8_above
  refine gM_i (by decide +kernel) rfl rfl (Nat.le_of_ble_eq_true rfl) (fun X rr VV C E => ?_)
  change gC cX8_above 1 RX8 G X at C
  change gSm l (gR 0 0) 1 G X _ (rr, VV) V 0 [(0, .int a0)] []
  refine s_iload_n (q := 1) C 0 dX8_above_0 rfl rfl rfl ?_
  refine s_if_ne (tgt := 8) (q := 4) C dX8_above_1 (by decide) rfl (fun c1 => ?_) (fun c1 => ?_)
  · refine s_iconst (q := 5) (v := (-1)) C dX8_above_4 rfl (by decide) ?_
    refine s_goto (q := 20) C dX8_above_5 (by decide) ?_
    exact s_iret C E dX8_above_20
  · refine s_iload_n (q := 9) C 0 dX8_above_8 rfl rfl rfl ?_
    refine s_iconst (q := 10) (v := 3) C dX8_above_9 rfl (by decide) ?_
    refine s_icmp_le (tgt := 19) (q := 13) C dX8_above_10 (by decide) rfl (fun c2 => ?_) (fun c2 => ?_)
    · refine s_iconst (q := 20) (v := 0) C dX8_above_19 rfl (by decide) ?_
      exact s_iret C E dX8_above_20
    · refine s_iload_n (q := 14) C 0 dX8_above_13 rfl rfl rfl ?_
      refine s_iconst (q := 15) (v := 3) C dX8_above_14 rfl (by decide) ?_
      refine s_isub (q := 16) C dX8_above_15 rfl ?_
      refine s_goto (q := 20) C dX8_above_16 (by decide) ?_
      exact s_iret C E dX8_above_20
noncomputable def fX8_as_L1b (a1 : Int32) (a2 : Int32) (B13 : gV → Int32 → Option (Int32 × gV)) (V11 : gV) (x12 : Int32) : Option (Int32 × gV) := gjn (if 0 ≤ x12 then (gbi (fX8_its V11 a1 1) fun (x20 : Int32) (V21 : gV) => some (x20, V21)) else (gbi (fX8_errs V11 (-1000000005)) fun (x22 : Int32) (V23 : gV) => some (x22, V23))) fun J18 => if x12 < 0 then (J18) else (if x12 = a2 then (J18) else (gbi (fX8_above V11 x12) fun (x26 : Int32) (V27 : gV) => B13 V27 x26))
noncomputable def fX8_as_L1 (a1 : Int32) (a2 : Int32) : Nat → gV → Int32 → Option (Int32 × gV)
  | 0 => fun _ _ => none
  | n + 1 => fX8_as_L1b a1 a2 (fX8_as_L1 a1 a2 n)
noncomputable def fX8_as (V : gV) (a1 : Int32) (a2 : Int32) : Option (Int32 × gV) := gbi (fX8_isCake V a1) fun (x1 : Int32) (V2 : gV) => if x1 = 0 then (gbi (fX8_errs V2 (-1000000001)) fun (x4 : Int32) (V5 : gV) => some (x4, V5)) else (gbi (fX8_in V2 a2 0 6) fun (x6 : Int32) (V7 : gV) => if x6 = 0 then (gbi (fX8_errs V7 (-1000000001)) fun (x28 : Int32) (V29 : gV) => some (x28, V29)) else (gbi (fX8_its V7 a1 0) fun (x9 : Int32) (V10 : gV) => fX8_as_L1 a1 a2 gFu V10 x9))
set_option maxHeartbeats 4000000 in
set_option maxRecDepth 100000 in
theorem uX8_as (l : Launch) (G : gG) (hG : gIsM G) (V : gV) (a1 : Int32) (a2 : Int32) : gMi l G yX8_as cX8_as 4 Jvm.ClassFile.FieldType.int (gR 2 43) [.ref (G.1 0), .int a1, .int a2] V (fX8_as V a1 a2) := by
  unfold fX8_as
  refine gM_i (by decide +kernel) rfl rfl (Nat.le_of_ble_eq_true rfl) (fun X rr VV C E => ?_)
  change gC cX8_as 4 RX8 G X at C
  change gSm l (gR 2 43) 4 G X _ (rr, VV) V 0 [(0, .ref (G.1 0)), (1, .int a1), (2, .int a2)] []
  refine s_aload_n (q := 1) C 0 dX8_as_0 rfl rfl rfl ?_
  refine s_iload_n (q := 2) C 1 dX8_as_1 rfl rfl rfl ?_
  refine s_Vi (q := 5) (As := [.int a1]) (st := []) C (uX8_isCake l G hG V a1) yvX8_isCake mlX8_78 (s80 hG) rfl rfl rfl rfl rfl rfl (gR_le (by decide) (by decide)) (Nat.le_of_ble_eq_true rfl) dX8_as_2 rfl (fun x1 V2 => ?_)
  refine s_if_eq (tgt := 18) (q := 8) C dX8_as_5 (by decide) rfl (fun c3 => ?_) (fun c3 => ?_)
  · refine s_aload_n (q := 19) C 0 dX8_as_18 rfl rfl rfl ?_
    refine s_ldc (q := 21) (v := (-1000000001)) C dX8_as_19 rfl kX8_48 ?_
    refine s_Vi (q := 24) (As := [.int (-1000000001)]) (st := []) C (uX8_errs l G hG V2 (-1000000001)) yvX8_errs mlX8_49 (s80 hG) rfl rfl rfl rfl rfl rfl (gR_le (by decide) (by decide)) (Nat.le_of_ble_eq_true rfl) dX8_as_21 rfl (fun x4 V5 => ?_)
    exact s_iret C E dX8_as_24
  · refine s_iload_n (q := 9) C 2 dX8_as_8 rfl rfl rfl ?_
    refine s_iconst (q := 10) (v := 0) C dX8_as_9 rfl (by decide) ?_
    refine s_bipush (q := 12) (v := 6) C dX8_as_10 rfl (by decide) ?_
    refine s_Si (q := 15) (As := [.int a2, .int 0, .int 6]) (st := []) C (uX8_in l G hG V2 a2 0 6) ysX8_in mlX8_44 rfl rfl rfl rfl (gR_le (by decide) (by decide)) (Nat.le_of_ble_eq_true rfl) dX8_as_12 rfl (fun x6 V7 => ?_)
    refine s_if_ne (tgt := 25) (q := 18) C dX8_as_15 (by decide) rfl (fun c8 => ?_) (fun c8 => ?_)
    · refine s_aload_n (q := 19) C 0 dX8_as_18 rfl rfl rfl ?_
      refine s_ldc (q := 21) (v := (-1000000001)) C dX8_as_19 rfl kX8_48 ?_
      refine s_Vi (q := 24) (As := [.int (-1000000001)]) (st := []) C (uX8_errs l G hG V7 (-1000000001)) yvX8_errs mlX8_49 (s80 hG) rfl rfl rfl rfl rfl rfl (gR_le (by decide) (by decide)) (Nat.le_of_ble_eq_true rfl) dX8_as_21 rfl (fun x28 V29 => ?_)
      exact s_iret C E dX8_as_24
    · refine s_aload_n (q := 26) C 0 dX8_as_25 rfl rfl rfl ?_
      refine s_iload_n (q := 27) C 1 dX8_as_26 rfl rfl rfl ?_
      refine s_iconst (q := 28) (v := 0) C dX8_as_27 rfl (by decide) ?_
      refine s_Vi (q := 31) (As := [.int a1, .int 0]) (st := []) C (uX8_its l G hG V7 a1 0) yvX8_its mlX8_54 (s80 hG) rfl rfl rfl rfl rfl rfl (gR_le (by decide) (by decide)) (Nat.le_of_ble_eq_true rfl) dX8_as_28 rfl (fun x9 V10 => ?_)
      refine s_istore_n (q := 32) (L' := [(3, .int x9), (0, .ref (G.1 0)), (1, .int a1), (2, .int a2)]) C dX8_as_31 rfl rfl (by decide) rfl ?_
      have hL1 : ∀ (n : Nat) (V11 : gV) (x12 : Int32), gSm l (gR 2 43) 4 G X (fX8_as_L1 a1 a2 n V11 x12) (rr, VV) V11 32 [(0, .ref (G.1 0)), (1, .int a1), (2, .int a2), (3, .int x12)] [] := by
        intro n
        induction n with
        | zero => exact fun V11 x12 => s_none
        | succ n ih =>
          intro V11 x12
          show gSm l (gR 2 43) 4 G X (fX8_as_L1b a1 a2 (fX8_as_L1 a1 a2 n) V11 x12) (rr, VV) V11 32 [(0, .ref (G.1 0)), (1, .int a1), (2, .int a2), (3, .int x12)] []
          generalize fX8_as_L1 a1 a2 n = B13 at ih ⊢
          have hB13 := ih
          unfold fX8_as_L1b
          refine s_iload_n (q := 33) C 3 dX8_as_32 rfl rfl rfl ?_
          refine s_jn (fun J18 => gSm l (gR 2 43) 4 G X (J18) (rr, VV) V11 49 [(0, .ref (G.1 0)), (1, .int a1), (3, .int x12)] []) ?_ (fun J18 hJ18 => ?_)
          · refine s_iload_n (q := 50) C 2 dX8_as_49 rfl rfl rfl ?_
            refine s_if_ge (tgt := 62) (q := 53) C dX8_as_50 (by decide) rfl (fun c19 => ?_) (fun c19 => ?_)
            · refine s_aload_n (q := 63) C 0 dX8_as_62 rfl rfl rfl ?_
              refine s_iload_n (q := 64) C 1 dX8_as_63 rfl rfl rfl ?_
              refine s_iconst (q := 65) (v := 1) C dX8_as_64 rfl (by decide) ?_
              refine s_Vi (q := 68) (As := [.int a1, .int 1]) (st := []) C (uX8_its l G hG V11 a1 1) yvX8_its mlX8_54 (s80 hG) rfl rfl rfl rfl rfl rfl (gR_le (by decide) (by decide)) (Nat.le_of_ble_eq_true rfl) dX8_as_65 rfl (fun x20 V21 => ?_)
              exact s_iret C E dX8_as_68
            · refine s_aload_n (q := 54) C 0 dX8_as_53 rfl rfl rfl ?_
              refine s_ldc (q := 56) (v := (-1000000005)) C dX8_as_54 rfl kX8_97 ?_
              refine s_Vi (q := 59) (As := [.int (-1000000005)]) (st := []) C (uX8_errs l G hG V11 (-1000000005)) yvX8_errs mlX8_49 (s80 hG) rfl rfl rfl rfl rfl rfl (gR_le (by decide) (by decide)) (Nat.le_of_ble_eq_true rfl) dX8_as_56 rfl (fun x22 V23 => ?_)
              refine s_goto (q := 68) C dX8_as_59 (by decide) ?_
              exact s_iret C E dX8_as_68
          · refine s_if_lt (tgt := 49) (q := 36) C dX8_as_33 (by decide) rfl (fun c24 => ?_) (fun c24 => ?_)
            · refine s_sub [0, 1, 3] rfl ?_
              exact hJ18
            · refine s_iload_n (q := 37) C 3 dX8_as_36 rfl rfl rfl ?_
              refine s_iload_n (q := 38) C 2 dX8_as_37 rfl rfl rfl ?_
              refine s_icmp_eq (tgt := 49) (q := 41) C dX8_as_38 (by decide) rfl (fun c25 => ?_) (fun c25 => ?_)
              · refine s_sub [0, 1, 3] rfl ?_
                exact hJ18
              · refine s_iload_n (q := 42) C 3 dX8_as_41 rfl rfl rfl ?_
                refine s_Si (q := 45) (As := [.int x12]) (st := []) C (uX8_above l G hG V11 x12) ysX8_above mlX8_94 rfl rfl rfl rfl (gR_le (by decide) (by decide)) (Nat.le_of_ble_eq_true rfl) dX8_as_42 rfl (fun x26 V27 => ?_)
                refine s_istore_n (q := 46) (L' := [(3, .int x26), (0, .ref (G.1 0)), (1, .int a1), (2, .int a2)]) C dX8_as_45 rfl rfl (by decide) rfl ?_
                refine s_goto (q := 32) C dX8_as_46 (by decide) ?_
                refine s_sub [1, 2, 3, 0] rfl ?_
                exact hB13 V27 x26
      refine s_sub [1, 2, 3, 0] rfl ?_
      exact hL1 gFu V10 x9
noncomputable def fX8_law (V : gV) (a1 : Int32) (a2 : Int32) (a3 : Int32) (a4 : Int32) : Option (Int32 × gV) := gbi (fX8_in V a1 0 1) fun (x1 : Int32) (V2 : gV) => if x1 = 0 then (gbi (fX8_errs V2 (-1000000001)) fun (x4 : Int32) (V5 : gV) => some (x4, V5)) else (gbi (fX8_lawOf V2 a1 a2 a3 a4) fun (x6 : Int32) (V7 : gV) => some (x6, V7))
set_option maxHeartbeats 4000000 in
set_option maxRecDepth 100000 in
theorem uX8_law (l : Launch) (G : gG) (hG : gIsM G) (V : gV) (a1 : Int32) (a2 : Int32) (a3 : Int32) (a4 : Int32) : gMi l G yX8_law cX8_law 5 Jvm.ClassFile.FieldType.int (gR 66 1576) [.ref (G.1 0), .int a1, .int a2, .int a3, .int a4] V (fX8_law V a1 a2 a3 a4) := by
  unfold fX8_law
  refine gM_i (by decide +kernel) rfl rfl (Nat.le_of_ble_eq_true rfl) (fun X rr VV C E => ?_)
  change gC cX8_law 5 RX8 G X at C
  change gSm l (gR 66 1576) 5 G X _ (rr, VV) V 0 [(0, .ref (G.1 0)), (1, .int a1), (2, .int a2), (3, .int a3), (4, .int a4)] []
  refine s_iload_n (q := 1) C 1 dX8_law_0 rfl rfl rfl ?_
  refine s_iconst (q := 2) (v := 0) C dX8_law_1 rfl (by decide) ?_
  refine s_iconst (q := 3) (v := 1) C dX8_law_2 rfl (by decide) ?_
  refine s_Si (q := 6) (As := [.int a1, .int 0, .int 1]) (st := []) C (uX8_in l G hG V a1 0 1) ysX8_in mlX8_44 rfl rfl rfl rfl (gR_le (by decide) (by decide)) (Nat.le_of_ble_eq_true rfl) dX8_law_3 rfl (fun x1 V2 => ?_)
  refine s_if_eq (tgt := 21) (q := 9) C dX8_law_6 (by decide) rfl (fun c3 => ?_) (fun c3 => ?_)
  · refine s_aload_n (q := 22) C 0 dX8_law_21 rfl rfl rfl ?_
    refine s_ldc (q := 24) (v := (-1000000001)) C dX8_law_22 rfl kX8_48 ?_
    refine s_Vi (q := 27) (As := [.int (-1000000001)]) (st := []) C (uX8_errs l G hG V2 (-1000000001)) yvX8_errs mlX8_49 (s80 hG) rfl rfl rfl rfl rfl rfl (gR_le (by decide) (by decide)) (Nat.le_of_ble_eq_true rfl) dX8_law_24 rfl (fun x4 V5 => ?_)
    exact s_iret C E dX8_law_27
  · refine s_aload_n (q := 10) C 0 dX8_law_9 rfl rfl rfl ?_
    refine s_iload_n (q := 11) C 1 dX8_law_10 rfl rfl rfl ?_
    refine s_iload_n (q := 12) C 2 dX8_law_11 rfl rfl rfl ?_
    refine s_iload_n (q := 13) C 3 dX8_law_12 rfl rfl rfl ?_
    refine s_iload (q := 15) C 4 dX8_law_13 rfl rfl ?_
    refine s_Vi (q := 18) (As := [.int a1, .int a2, .int a3, .int a4]) (st := []) C (uX8_lawOf l G hG V2 a1 a2 a3 a4) yvX8_lawOf mlX8_166 (s80 hG) rfl rfl rfl rfl rfl rfl (gR_le (by decide) (by decide)) (Nat.le_of_ble_eq_true rfl) dX8_law_15 rfl (fun x6 V7 => ?_)
    refine s_goto (q := 27) C dX8_law_18 (by decide) ?_
    exact s_iret C E dX8_law_27
noncomputable def fX8_feed_L1b (a1 : Int64) (a3 : Int32) (B8 : gV → Int32 → Option (Int32 × gV)) (V6 : gV) (x7 : Int32) : Option (Int32 × gV) := if a3 ≤ x7 then (gal V6 (0 + 1) 4 264 fun (x10 : Int32) => some (x10, V6)) else (gal V6 (0 + 1) 4 264 fun (x11 : Int32) => gas V6 (0 + 1) (94 + x11) 264 (((a1 >>> (((8 * x7)).toInt64 &&& 63)) &&& 255)).toInt32 fun (V12 : gV) => gal V12 (0 + 1) 4 264 fun (x13 : Int32) => gas V12 (0 + 1) 4 264 (x13 + 1) fun (V14 : gV) => B8 V14 ((x7 + 1)))
noncomputable def fX8_feed_L1 (a1 : Int64) (a3 : Int32) : Nat → gV → Int32 → Option (Int32 × gV)
  | 0 => fun _ _ => none
  | n + 1 => fX8_feed_L1b a1 a3 (fX8_feed_L1 a1 a3 n)
noncomputable def fX8_feed (V : gV) (a1 : Int64) (a3 : Int32) : Option (Int32 × gV) := gbi (fX8_in V a3 1 8) fun (x1 : Int32) (V2 : gV) => if x1 = 0 then (gbi (fX8_errs V2 (-1000000001)) fun (x17 : Int32) (V18 : gV) => some (x17, V18)) else (gal V2 (0 + 1) 4 264 fun (x4 : Int32) => if (x4 + a3) ≤ 50 then (fX8_feed_L1 a1 a3 gFu V2 0) else (gbi (fX8_errs V2 (-1000000004)) fun (x15 : Int32) (V16 : gV) => some (x15, V16)))
set_option maxHeartbeats 4000000 in
set_option maxRecDepth 100000 in
theorem uX8_feed (l : Launch) (G : gG) (hG : gIsM G) (V : gV) (a1 : Int64) (a3 : Int32) : gMi l G yX8_feed cX8_feed 5 Jvm.ClassFile.FieldType.int (gR 1 22) [.ref (G.1 0), .long a1, .int a3] V (fX8_feed V a1 a3) := by
  unfold fX8_feed
  refine gM_i (by decide +kernel) rfl rfl (Nat.le_of_ble_eq_true rfl) (fun X rr VV C E => ?_)
  change gC cX8_feed 5 RX8 G X at C
  change gSm l (gR 1 22) 5 G X _ (rr, VV) V 0 [(0, .ref (G.1 0)), (1, .long a1), (3, .int a3)] []
  refine s_iload_n (q := 1) C 2 dX8_feed_0 rfl rfl rfl ?_
  refine s_iconst (q := 2) (v := 1) C dX8_feed_1 rfl (by decide) ?_
  refine s_bipush (q := 4) (v := 8) C dX8_feed_2 rfl (by decide) ?_
  refine s_Si (q := 7) (As := [.int a3, .int 1, .int 8]) (st := []) C (uX8_in l G hG V a3 1 8) ysX8_in mlX8_44 rfl rfl rfl rfl (gR_le (by decide) (by decide)) (Nat.le_of_ble_eq_true rfl) dX8_feed_4 rfl (fun x1 V2 => ?_)
  refine s_if_ne (tgt := 17) (q := 10) C dX8_feed_7 (by decide) rfl (fun c3 => ?_) (fun c3 => ?_)
  · refine s_aload_n (q := 11) C 0 dX8_feed_10 rfl rfl rfl ?_
    refine s_ldc (q := 13) (v := (-1000000001)) C dX8_feed_11 rfl kX8_48 ?_
    refine s_Vi (q := 16) (As := [.int (-1000000001)]) (st := []) C (uX8_errs l G hG V2 (-1000000001)) yvX8_errs mlX8_49 (s80 hG) rfl rfl rfl rfl rfl rfl (gR_le (by decide) (by decide)) (Nat.le_of_ble_eq_true rfl) dX8_feed_13 rfl (fun x17 V18 => ?_)
    exact s_iret C E dX8_feed_16
  · refine s_aload_n (q := 18) C 0 dX8_feed_17 rfl rfl rfl ?_
    refine geX8_0 (q := 21) C (s80 hG) flX8_7 dX8_feed_18 rfl ?_
    refine s_iconst (q := 22) (v := 4) C dX8_feed_21 rfl (by decide) ?_
    refine s_iald (q := 23) C (qX8_0 hG) dX8_feed_22 rfl (fun x4 => ?_)
    refine s_iload_n (q := 24) C 2 dX8_feed_23 rfl rfl rfl ?_
    refine s_iadd (q := 25) C dX8_feed_24 rfl ?_
    refine s_bipush (q := 27) (v := 50) C dX8_feed_25 rfl (by decide) ?_
    refine s_icmp_le (tgt := 37) (q := 30) C dX8_feed_27 (by decide) rfl (fun c5 => ?_) (fun c5 => ?_)
    · refine s_iconst (q := 38) (v := 0) C dX8_feed_37 rfl (by decide) ?_
      refine s_istore (q := 40) (L' := [(4, .int 0), (0, .ref (G.1 0)), (1, .long a1), (3, .int a3)]) C dX8_feed_38 rfl (by decide) rfl ?_
      have hL1 : ∀ (n : Nat) (V6 : gV) (x7 : Int32), gSm l (gR 1 22) 5 G X (fX8_feed_L1 a1 a3 n V6 x7) (rr, VV) V6 40 [(0, .ref (G.1 0)), (1, .long a1), (3, .int a3), (4, .int x7)] [] := by
        intro n
        induction n with
        | zero => exact fun V6 x7 => s_none
        | succ n ih =>
          intro V6 x7
          show gSm l (gR 1 22) 5 G X (fX8_feed_L1b a1 a3 (fX8_feed_L1 a1 a3 n) V6 x7) (rr, VV) V6 40 [(0, .ref (G.1 0)), (1, .long a1), (3, .int a3), (4, .int x7)] []
          generalize fX8_feed_L1 a1 a3 n = B8 at ih ⊢
          have hB8 := ih
          unfold fX8_feed_L1b
          refine s_iload (q := 42) C 3 dX8_feed_40 rfl rfl ?_
          refine s_iload_n (q := 43) C 2 dX8_feed_42 rfl rfl rfl ?_
          refine s_icmp_ge (tgt := 88) (q := 46) C dX8_feed_43 (by decide) rfl (fun c9 => ?_) (fun c9 => ?_)
          · refine s_aload_n (q := 89) C 0 dX8_feed_88 rfl rfl rfl ?_
            refine geX8_0 (q := 92) C (s80 hG) flX8_7 dX8_feed_89 rfl ?_
            refine s_iconst (q := 93) (v := 4) C dX8_feed_92 rfl (by decide) ?_
            refine s_iald (q := 94) C (qX8_0 hG) dX8_feed_93 rfl (fun x10 => ?_)
            exact s_iret C E dX8_feed_94
          · refine s_aload_n (q := 47) C 0 dX8_feed_46 rfl rfl rfl ?_
            refine geX8_0 (q := 50) C (s80 hG) flX8_7 dX8_feed_47 rfl ?_
            refine s_bipush (q := 52) (v := 94) C dX8_feed_50 rfl (by decide) ?_
            refine s_aload_n (q := 53) C 0 dX8_feed_52 rfl rfl rfl ?_
            refine geX8_0 (q := 56) C (s80 hG) flX8_7 dX8_feed_53 rfl ?_
            refine s_iconst (q := 57) (v := 4) C dX8_feed_56 rfl (by decide) ?_
            refine s_iald (q := 58) C (qX8_0 hG) dX8_feed_57 rfl (fun x11 => ?_)
            refine s_iadd (q := 59) C dX8_feed_58 rfl ?_
            refine s_lload_n (q := 60) C 1 dX8_feed_59 rfl rfl rfl ?_
            refine s_bipush (q := 62) (v := 8) C dX8_feed_60 rfl (by decide) ?_
            refine s_iload (q := 64) C 3 dX8_feed_62 rfl rfl ?_
            refine s_imul (q := 65) C dX8_feed_64 rfl ?_
            refine s_lshr (q := 66) C dX8_feed_65 rfl ?_
            refine s_ldc2 (q := 69) (v := 255) C dX8_feed_66 rfl kX8_169 ?_
            refine s_land (q := 70) C dX8_feed_69 rfl ?_
            refine s_l2i (q := 71) C dX8_feed_70 rfl ?_
            refine s_iast (q := 72) C (qX8_0 hG) (mX8_0 hG) dX8_feed_71 rfl (fun V12 => ?_)
            refine s_aload_n (q := 73) C 0 dX8_feed_72 rfl rfl rfl ?_
            refine geX8_0 (q := 76) C (s80 hG) flX8_7 dX8_feed_73 rfl ?_
            refine s_iconst (q := 77) (v := 4) C dX8_feed_76 rfl (by decide) ?_
            refine s_dup2_11 (q := 78) C dX8_feed_77 rfl rfl rfl ?_
            refine s_iald (q := 79) C (qX8_0 hG) dX8_feed_78 rfl (fun x13 => ?_)
            refine s_iconst (q := 80) (v := 1) C dX8_feed_79 rfl (by decide) ?_
            refine s_iadd (q := 81) C dX8_feed_80 rfl ?_
            refine s_iast (q := 82) C (qX8_0 hG) (mX8_0 hG) dX8_feed_81 rfl (fun V14 => ?_)
            refine s_iinc (q := 85) (w := 1) (L' := [(4, .int (x7 + 1)), (0, .ref (G.1 0)), (1, .long a1), (3, .int a3)]) C 3 dX8_feed_82 rfl rfl (by decide) rfl (by decide) rfl ?_
            refine s_goto (q := 40) C dX8_feed_85 (by decide) ?_
            refine s_sub [1, 2, 3, 0] rfl ?_
            exact hB8 V14 ((x7 + 1))
      refine s_sub [1, 2, 3, 0] rfl ?_
      exact hL1 gFu V2 0
    · refine s_aload_n (q := 31) C 0 dX8_feed_30 rfl rfl rfl ?_
      refine s_ldc (q := 33) (v := (-1000000004)) C dX8_feed_31 rfl kX8_53 ?_
      refine s_Vi (q := 36) (As := [.int (-1000000004)]) (st := []) C (uX8_errs l G hG V2 (-1000000004)) yvX8_errs mlX8_49 (s80 hG) rfl rfl rfl rfl rfl rfl (gR_le (by decide) (by decide)) (Nat.le_of_ble_eq_true rfl) dX8_feed_33 rfl (fun x15 V16 => ?_)
      exact s_iret C E dX8_feed_36
noncomputable def fX8_text_L1b (a1 : Int32) (B7 : gV → Int32 → Option (Int32 × gV)) (V5 : gV) (x6 : Int32) : Option (Int32 × gV) := if 50 ≤ x6 then (gal V5 (0 + 1) 4 264 fun (x9 : Int32) => gas V5 (0 + 1) (6 + a1) 264 x9 fun (V10 : gV) => gbi (fX8_walks V10 a1 1 1 1) fun (x11 : Int32) (V12 : gV) => gjn (fun (x18 : Int32) => gjn (fun (V22 : gV) => gas V22 (0 + 1) 4 264 0 fun (V24 : gV) => if x18 = 0 then (some (((-10) - (V12 0 8)), V24)) else (some (1, V24))) fun J23 => if x18 = 0 then (gbv (fX8_moveAll V12 (0 + 4) 264 (0 + 1) 264) fun (V27 : gV) => J23 V27) else (J23 V12)) fun J19 => gjn (J19 0) fun J30 => if (V12 0 14) = 0 then (J30) else (if x11 = x11 then (J19 1) else (J30))) else (gal V5 (0 + 1) (94 + x6) 264 fun (x33 : Int32) => gas V5 (0 + 1) ((164 + (50 * a1)) + x6) 264 x33 fun (V34 : gV) => B7 V34 ((x6 + 1)))
noncomputable def fX8_text_L1 (a1 : Int32) : Nat → gV → Int32 → Option (Int32 × gV)
  | 0 => fun _ _ => none
  | n + 1 => fX8_text_L1b a1 (fX8_text_L1 a1 n)
noncomputable def fX8_text (V : gV) (a1 : Int32) : Option (Int32 × gV) := gbi (fX8_in V a1 0 1) fun (x1 : Int32) (V2 : gV) => if x1 = 0 then (gbi (fX8_errs V2 (-1000000001)) fun (x35 : Int32) (V36 : gV) => some (x35, V36)) else (gbv (fX8_moveAll V2 (0 + 1) 264 (0 + 4) 264) fun (V4 : gV) => fX8_text_L1 a1 gFu V4 0)
set_option maxHeartbeats 4000000 in
set_option maxRecDepth 100000 in
theorem uX8_text (l : Launch) (G : gG) (hG : gIsM G) (V : gV) (a1 : Int32) : gMi l G yX8_text cX8_text 5 Jvm.ClassFile.FieldType.int (gR 65 1551) [.ref (G.1 0), .int a1] V (fX8_text V a1) := by
  unfold fX8_text
  refine gM_i (by decide +kernel) rfl rfl (Nat.le_of_ble_eq_true rfl) (fun X rr VV C E => ?_)
  change gC cX8_text 5 RX8 G X at C
  change gSm l (gR 65 1551) 5 G X _ (rr, VV) V 0 [(0, .ref (G.1 0)), (1, .int a1)] []
  refine s_iload_n (q := 1) C 1 dX8_text_0 rfl rfl rfl ?_
  refine s_iconst (q := 2) (v := 0) C dX8_text_1 rfl (by decide) ?_
  refine s_iconst (q := 3) (v := 1) C dX8_text_2 rfl (by decide) ?_
  refine s_Si (q := 6) (As := [.int a1, .int 0, .int 1]) (st := []) C (uX8_in l G hG V a1 0 1) ysX8_in mlX8_44 rfl rfl rfl rfl (gR_le (by decide) (by decide)) (Nat.le_of_ble_eq_true rfl) dX8_text_3 rfl (fun x1 V2 => ?_)
  refine s_if_ne (tgt := 16) (q := 9) C dX8_text_6 (by decide) rfl (fun c3 => ?_) (fun c3 => ?_)
  · refine s_aload_n (q := 10) C 0 dX8_text_9 rfl rfl rfl ?_
    refine s_ldc (q := 12) (v := (-1000000001)) C dX8_text_10 rfl kX8_48 ?_
    refine s_Vi (q := 15) (As := [.int (-1000000001)]) (st := []) C (uX8_errs l G hG V2 (-1000000001)) yvX8_errs mlX8_49 (s80 hG) rfl rfl rfl rfl rfl rfl (gR_le (by decide) (by decide)) (Nat.le_of_ble_eq_true rfl) dX8_text_12 rfl (fun x35 V36 => ?_)
    exact s_iret C E dX8_text_15
  · refine s_aload_n (q := 17) C 0 dX8_text_16 rfl rfl rfl ?_
    refine s_aload_n (q := 18) C 0 dX8_text_17 rfl rfl rfl ?_
    refine geX8_0 (q := 21) C (s80 hG) flX8_7 dX8_text_18 rfl ?_
    refine s_aload_n (q := 22) C 0 dX8_text_21 rfl rfl rfl ?_
    refine geX8_3 (q := 25) C (s80 hG) flX8_19 dX8_text_22 rfl ?_
    refine s_Vv (q := 28) (As := [.ref (G.1 (0 + 1)), .ref (G.1 (0 + 4))]) (st := []) C (uX8_moveAll l G hG V2 (0 + 1) 264 (0 + 4) 264 (qX8_0 hG) (qX8_3 hG) (mX8_3 hG)) yvX8_moveAll mlX8_171 (s80 hG) rfl rfl rfl rfl rfl rfl (gR_le (by decide) (by decide)) (Nat.le_of_ble_eq_true rfl) dX8_text_25 rfl (fun V4 => ?_)
    refine s_iconst (q := 29) (v := 0) C dX8_text_28 rfl (by decide) ?_
    refine s_istore_n (q := 30) (L' := [(2, .int 0), (0, .ref (G.1 0)), (1, .int a1)]) C dX8_text_29 rfl rfl (by decide) rfl ?_
    have hL1 : ∀ (n : Nat) (V5 : gV) (x6 : Int32), gSm l (gR 65 1551) 5 G X (fX8_text_L1 a1 n V5 x6) (rr, VV) V5 30 [(0, .ref (G.1 0)), (1, .int a1), (2, .int x6)] [] := by
      intro n
      induction n with
      | zero => exact fun V5 x6 => s_none
      | succ n ih =>
        intro V5 x6
        show gSm l (gR 65 1551) 5 G X (fX8_text_L1b a1 (fX8_text_L1 a1 n) V5 x6) (rr, VV) V5 30 [(0, .ref (G.1 0)), (1, .int a1), (2, .int x6)] []
        generalize fX8_text_L1 a1 n = B7 at ih ⊢
        have hB7 := ih
        unfold fX8_text_L1b
        refine s_iload_n (q := 31) C 2 dX8_text_30 rfl rfl rfl ?_
        refine s_bipush (q := 33) (v := 50) C dX8_text_31 rfl (by decide) ?_
        refine s_icmp_ge (tgt := 66) (q := 36) C dX8_text_33 (by decide) rfl (fun c8 => ?_) (fun c8 => ?_)
        · refine s_aload_n (q := 67) C 0 dX8_text_66 rfl rfl rfl ?_
          refine geX8_0 (q := 70) C (s80 hG) flX8_7 dX8_text_67 rfl ?_
          refine s_bipush (q := 72) (v := 6) C dX8_text_70 rfl (by decide) ?_
          refine s_iload_n (q := 73) C 1 dX8_text_72 rfl rfl rfl ?_
          refine s_iadd (q := 74) C dX8_text_73 rfl ?_
          refine s_aload_n (q := 75) C 0 dX8_text_74 rfl rfl rfl ?_
          refine geX8_0 (q := 78) C (s80 hG) flX8_7 dX8_text_75 rfl ?_
          refine s_iconst (q := 79) (v := 4) C dX8_text_78 rfl (by decide) ?_
          refine s_iald (q := 80) C (qX8_0 hG) dX8_text_79 rfl (fun x9 => ?_)
          refine s_iast (q := 81) C (qX8_0 hG) (mX8_0 hG) dX8_text_80 rfl (fun V10 => ?_)
          refine s_aload_n (q := 82) C 0 dX8_text_81 rfl rfl rfl ?_
          refine s_iload_n (q := 83) C 1 dX8_text_82 rfl rfl rfl ?_
          refine s_iconst (q := 84) (v := 1) C dX8_text_83 rfl (by decide) ?_
          refine s_iconst (q := 85) (v := 1) C dX8_text_84 rfl (by decide) ?_
          refine s_iconst (q := 86) (v := 1) C dX8_text_85 rfl (by decide) ?_
          refine s_Vi (q := 89) (As := [.int a1, .int 1, .int 1, .int 1]) (st := []) C (uX8_walks l G hG V10 a1 1 1 1) yvX8_walks mlX8_158 (s80 hG) rfl rfl rfl rfl rfl rfl (gR_le (by decide) (by decide)) (Nat.le_of_ble_eq_true rfl) dX8_text_86 rfl (fun x11 V12 => ?_)
          refine s_istore_n (q := 90) (L' := [(2, .int x11), (0, .ref (G.1 0)), (1, .int a1)]) C dX8_text_89 rfl rfl (by decide) rfl ?_
          refine s_aload_n (q := 91) C 1 dX8_text_90 rfl rfl rfl ?_
          refine geX8_14 (q := 94) C (s80 hG) flX8_105 dX8_text_91 rfl ?_
          refine s_jn (fun J19 => ∀ (x18 : Int32), gSm l (gR 65 1551) 5 G X (J19 x18) (rr, VV) V12 107 [(0, .ref (G.1 0))] [.int x18]) ?_ (fun J19 hJ19 => ?_)
          · intro x18
            refine s_istore_n (q := 108) (L' := [(3, .int x18), (0, .ref (G.1 0))]) C dX8_text_107 rfl rfl (by decide) rfl ?_
            refine s_aload_n (q := 109) C 1 dX8_text_108 rfl rfl rfl ?_
            refine geX8_8 (q := 112) C (s80 hG) flX8_109 dX8_text_109 rfl ?_
            refine s_istore (q := 114) (L' := [(4, .int (V12 0 8)), (3, .int x18), (0, .ref (G.1 0))]) C dX8_text_112 rfl (by decide) rfl ?_
            refine s_iload_n (q := 115) C 1 dX8_text_114 rfl rfl rfl ?_
            refine s_jn (fun J23 => ∀ (V22 : gV), gSm l (gR 65 1551) 5 G X (J23 V22) (rr, VV) V22 130 [(0, .ref (G.1 0)), (3, .int x18), (4, .int (V12 0 8))] []) ?_ (fun J23 hJ23 => ?_)
            · intro V22
              refine s_aload_n (q := 131) C 0 dX8_text_130 rfl rfl rfl ?_
              refine geX8_0 (q := 134) C (s80 hG) flX8_7 dX8_text_131 rfl ?_
              refine s_iconst (q := 135) (v := 4) C dX8_text_134 rfl (by decide) ?_
              refine s_iconst (q := 136) (v := 0) C dX8_text_135 rfl (by decide) ?_
              refine s_iast (q := 137) C (qX8_0 hG) (mX8_0 hG) dX8_text_136 rfl (fun V24 => ?_)
              refine s_iload_n (q := 138) C 1 dX8_text_137 rfl rfl rfl ?_
              refine s_if_eq (tgt := 145) (q := 141) C dX8_text_138 (by decide) rfl (fun c25 => ?_) (fun c25 => ?_)
              · refine s_bipush (q := 147) (v := (-10)) C dX8_text_145 rfl (by decide) ?_
                refine s_iload (q := 149) C 2 dX8_text_147 rfl rfl ?_
                refine s_isub (q := 150) C dX8_text_149 rfl ?_
                exact s_iret C E dX8_text_150
              · refine s_iconst (q := 142) (v := 1) C dX8_text_141 rfl (by decide) ?_
                refine s_goto (q := 150) C dX8_text_142 (by decide) ?_
                exact s_iret C E dX8_text_150
            · refine s_if_ne (tgt := 130) (q := 118) C dX8_text_115 (by decide) rfl (fun c26 => ?_) (fun c26 => ?_)
              · refine s_aload_n (q := 119) C 2 dX8_text_118 rfl rfl rfl ?_
                refine s_aload_n (q := 120) C 2 dX8_text_119 rfl rfl rfl ?_
                refine geX8_3 (q := 123) C (s80 hG) flX8_19 dX8_text_120 rfl ?_
                refine s_aload_n (q := 124) C 2 dX8_text_123 rfl rfl rfl ?_
                refine geX8_0 (q := 127) C (s80 hG) flX8_7 dX8_text_124 rfl ?_
                refine s_Vv (q := 130) (As := [.ref (G.1 (0 + 4)), .ref (G.1 (0 + 1))]) (st := []) C (uX8_moveAll l G hG V12 (0 + 4) 264 (0 + 1) 264 (qX8_3 hG) (qX8_0 hG) (mX8_0 hG)) yvX8_moveAll mlX8_171 (s80 hG) rfl rfl rfl rfl rfl rfl (gR_le (by decide) (by decide)) (Nat.le_of_ble_eq_true rfl) dX8_text_127 rfl (fun V27 => ?_)
                refine s_sub [2, 1, 0] rfl ?_
                exact hJ23 V27
              · refine s_sub [2, 1, 0] rfl ?_
                exact hJ23 V12
          · refine s_jn (fun J30 => gSm l (gR 65 1551) 5 G X (J30) (rr, VV) V12 106 [(0, .ref (G.1 0))] []) ?_ (fun J30 hJ30 => ?_)
            · refine s_iconst (q := 107) (v := 0) C dX8_text_106 rfl (by decide) ?_
              refine s_sub [0] rfl ?_
              exact hJ19 0
            · refine s_if_eq (tgt := 106) (q := 97) C dX8_text_94 (by decide) rfl (fun c31 => ?_) (fun c31 => ?_)
              · refine s_sub [1] rfl ?_
                exact hJ30
              · refine s_iload_n (q := 98) C 0 dX8_text_97 rfl rfl rfl ?_
                refine s_iload_n (q := 99) C 0 dX8_text_98 rfl rfl rfl ?_
                refine s_icmp_ne (tgt := 106) (q := 102) C dX8_text_99 (by decide) rfl (fun c32 => ?_) (fun c32 => ?_)
                · refine s_iconst (q := 103) (v := 1) C dX8_text_102 rfl (by decide) ?_
                  refine s_goto (q := 107) C dX8_text_103 (by decide) ?_
                  refine s_sub [1] rfl ?_
                  exact hJ19 1
                · refine s_sub [1] rfl ?_
                  exact hJ30
        · refine s_aload_n (q := 37) C 0 dX8_text_36 rfl rfl rfl ?_
          refine geX8_0 (q := 40) C (s80 hG) flX8_7 dX8_text_37 rfl ?_
          refine s_sipush (q := 43) (v := 164) C dX8_text_40 rfl (by decide) ?_
          refine s_bipush (q := 45) (v := 50) C dX8_text_43 rfl (by decide) ?_
          refine s_iload_n (q := 46) C 1 dX8_text_45 rfl rfl rfl ?_
          refine s_imul (q := 47) C dX8_text_46 rfl ?_
          refine s_iadd (q := 48) C dX8_text_47 rfl ?_
          refine s_iload_n (q := 49) C 2 dX8_text_48 rfl rfl rfl ?_
          refine s_iadd (q := 50) C dX8_text_49 rfl ?_
          refine s_aload_n (q := 51) C 0 dX8_text_50 rfl rfl rfl ?_
          refine geX8_0 (q := 54) C (s80 hG) flX8_7 dX8_text_51 rfl ?_
          refine s_bipush (q := 56) (v := 94) C dX8_text_54 rfl (by decide) ?_
          refine s_iload_n (q := 57) C 2 dX8_text_56 rfl rfl rfl ?_
          refine s_iadd (q := 58) C dX8_text_57 rfl ?_
          refine s_iald (q := 59) C (qX8_0 hG) dX8_text_58 rfl (fun x33 => ?_)
          refine s_iast (q := 60) C (qX8_0 hG) (mX8_0 hG) dX8_text_59 rfl (fun V34 => ?_)
          refine s_iinc (q := 63) (w := 1) (L' := [(2, .int (x6 + 1)), (0, .ref (G.1 0)), (1, .int a1)]) C 2 dX8_text_60 rfl rfl (by decide) rfl (by decide) rfl ?_
          refine s_goto (q := 30) C dX8_text_63 (by decide) ?_
          refine s_sub [1, 2, 0] rfl ?_
          exact hB7 V34 ((x6 + 1))
    refine s_sub [1, 2, 0] rfl ?_
    exact hL1 gFu V4 0

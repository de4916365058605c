noncomputable def fX7_odds_L1b (a1 : Int32) (a2 : Int32) (a3 : Int32) (a4 : Int32) (B22 : gV → Int32 → Int32 → Option (Int32 × gV)) (V19 : gV) (x20 : Int32) (x21 : Int32) : Option (Int32 × gV) := if 9 < x21 then (if a4 = 0 then (gbi (fX7_partInLowestTerms V19 x20 x20) fun (x27 : Int32) (V28 : gV) => some (x27, V28)) else (gbi (fX7_partInLowestTerms V19 x20 10) fun (x25 : Int32) (V26 : gV) => some (x25, V26))) else (gbv (fX6_copyFrom V19 (0 + 61) (0 + 1)) fun (V29 : gV) => gbr (fX6_houseAt V29 (0 + 61) a2) fun (t30 : Nat) (V31 : gV) => gpu V31 t30 1 x21 fun (V33 : gV) => gbv (fX6_passDays V33 (0 + 61) a3) fun (V34 : gV) => gbi (fX6_isIn V34 (0 + 61) a1 a2) fun (x35 : Int32) (V36 : gV) => if x35 = 0 then (B22 V36 x20 ((x21 + 1))) else (B22 V36 ((x20 + 1)) ((x21 + 1))))
noncomputable def fX7_odds_L1 (a1 : Int32) (a2 : Int32) (a3 : Int32) (a4 : Int32) : Nat → gV → Int32 → Int32 → Option (Int32 × gV)
  | 0 => fun _ _ _ => none
  | n + 1 => fX7_odds_L1b a1 a2 a3 a4 (fX7_odds_L1 a1 a2 a3 a4 n)
noncomputable def fX7_odds (V : gV) (a1 : Int32) (a2 : Int32) (a3 : Int32) (a4 : Int32) : Option (Int32 × gV) := gbi (fX7_isGuest V a1) fun (x1 : Int32) (V2 : gV) => if x1 = 0 then (gbi (fX7_error V2 1) fun (x4 : Int32) (V5 : gV) => some (x4, V5)) else (gbi (fX7_isHouse V2 a2) fun (x6 : Int32) (V7 : gV) => if x6 = 0 then (gbi (fX7_error V7 1) fun (x9 : Int32) (V10 : gV) => some (x9, V10)) else (gbi (fX7_within V7 a3 0 99) fun (x11 : Int32) (V12 : gV) => if x11 = 0 then (gbi (fX7_error V12 1) fun (x14 : Int32) (V15 : gV) => some (x14, V15)) else (gbi (fX7_within V12 a4 0 1) fun (x16 : Int32) (V17 : gV) => if x16 = 0 then (gbi (fX7_error V17 1) fun (x38 : Int32) (V39 : gV) => some (x38, V39)) else (fX7_odds_L1 a1 a2 a3 a4 gFu V17 0 0))))
set_option maxHeartbeats 4000000 in
set_option maxRecDepth 100000 in
theorem uX7_odds (l : Launch) (G : gG) (hG : gIsX G) (V : gV) (a1 : Int32) (a2 : Int32) (a3 : Int32) (a4 : Int32) : gMi l G yX7_odds cX7_odds 7 Jvm.ClassFile.FieldType.int (gR 6 188) [.ref (G.1 0), .int a1, .int a2, .int a3, .int a4] V (fX7_odds V a1 a2 a3 a4) := by
  unfold fX7_odds
  refine gM_i (by decide +kernel) rfl rfl (Nat.le_of_ble_eq_true rfl) (fun X rr VV C E => ?_)
  change gC cX7_odds 7 RX7 G X at C
  change gSm l (gR 6 188) 7 G X _ (rr, VV) V 0 [(0, .ref (G.1 0)), (1, .int a1), (2, .int a2), (3, .int a3), (4, .int a4)] []
  refine s_iload_n (q := 1) C 1 dX7_odds_0 rfl rfl rfl ?_
  refine s_Si (q := 4) (As := [.int a1]) (st := []) C (uX7_isGuest l G hG V a1) ysX7_isGuest mlX7_209 rfl rfl rfl rfl (gR_le (by decide) (by decide)) (Nat.le_of_ble_eq_true rfl) dX7_odds_1 rfl (fun x1 V2 => ?_)
  refine s_if_eq (tgt := 35) (q := 7) C dX7_odds_4 (by decide) rfl (fun c3 => ?_) (fun c3 => ?_)
  · refine s_aload_n (q := 36) C 0 dX7_odds_35 rfl rfl rfl ?_
    refine s_iconst (q := 37) (v := 1) C dX7_odds_36 rfl (by decide) ?_
    refine s_Vi (q := 40) (As := [.int 1]) (st := []) C (uX7_error l G hG V2 1) yvX7_error mlX7_58 (s70 hG) rfl rfl rfl rfl rfl rfl (gR_le (by decide) (by decide)) (Nat.le_of_ble_eq_true rfl) dX7_odds_37 rfl (fun x4 V5 => ?_)
    exact s_iret C E dX7_odds_40
  · refine s_aload_n (q := 8) C 0 dX7_odds_7 rfl rfl rfl ?_
    refine s_iload_n (q := 9) C 2 dX7_odds_8 rfl rfl rfl ?_
    refine s_Vi (q := 12) (As := [.int a2]) (st := []) C (uX7_isHouse l G hG V2 a2) yvX7_isHouse mlX7_78 (s70 hG) rfl rfl rfl rfl rfl rfl (gR_le (by decide) (by decide)) (Nat.le_of_ble_eq_true rfl) dX7_odds_9 rfl (fun x6 V7 => ?_)
    refine s_if_eq (tgt := 35) (q := 15) C dX7_odds_12 (by decide) rfl (fun c8 => ?_) (fun c8 => ?_)
    · refine s_aload_n (q := 36) C 0 dX7_odds_35 rfl rfl rfl ?_
      refine s_iconst (q := 37) (v := 1) C dX7_odds_36 rfl (by decide) ?_
      refine s_Vi (q := 40) (As := [.int 1]) (st := []) C (uX7_error l G hG V7 1) yvX7_error mlX7_58 (s70 hG) rfl rfl rfl rfl rfl rfl (gR_le (by decide) (by decide)) (Nat.le_of_ble_eq_true rfl) dX7_odds_37 rfl (fun x9 V10 => ?_)
      exact s_iret C E dX7_odds_40
    · refine s_iload_n (q := 16) C 3 dX7_odds_15 rfl rfl rfl ?_
      refine s_iconst (q := 17) (v := 0) C dX7_odds_16 rfl (by decide) ?_
      refine s_bipush (q := 19) (v := 99) C dX7_odds_17 rfl (by decide) ?_
      refine s_Si (q := 22) (As := [.int a3, .int 0, .int 99]) (st := []) C (uX7_within l G hG V7 a3 0 99) ysX7_within mlX7_54 rfl rfl rfl rfl (gR_le (by decide) (by decide)) (Nat.le_of_ble_eq_true rfl) dX7_odds_19 rfl (fun x11 V12 => ?_)
      refine s_if_eq (tgt := 35) (q := 25) C dX7_odds_22 (by decide) rfl (fun c13 => ?_) (fun c13 => ?_)
      · refine s_aload_n (q := 36) C 0 dX7_odds_35 rfl rfl rfl ?_
        refine s_iconst (q := 37) (v := 1) C dX7_odds_36 rfl (by decide) ?_
        refine s_Vi (q := 40) (As := [.int 1]) (st := []) C (uX7_error l G hG V12 1) yvX7_error mlX7_58 (s70 hG) rfl rfl rfl rfl rfl rfl (gR_le (by decide) (by decide)) (Nat.le_of_ble_eq_true rfl) dX7_odds_37 rfl (fun x14 V15 => ?_)
        exact s_iret C E dX7_odds_40
      · refine s_iload (q := 27) C 4 dX7_odds_25 rfl rfl ?_
        refine s_iconst (q := 28) (v := 0) C dX7_odds_27 rfl (by decide) ?_
        refine s_iconst (q := 29) (v := 1) C dX7_odds_28 rfl (by decide) ?_
        refine s_Si (q := 32) (As := [.int a4, .int 0, .int 1]) (st := []) C (uX7_within l G hG V12 a4 0 1) ysX7_within mlX7_54 rfl rfl rfl rfl (gR_le (by decide) (by decide)) (Nat.le_of_ble_eq_true rfl) dX7_odds_29 rfl (fun x16 V17 => ?_)
        refine s_if_ne (tgt := 41) (q := 35) C dX7_odds_32 (by decide) rfl (fun c18 => ?_) (fun c18 => ?_)
        · refine s_aload_n (q := 36) C 0 dX7_odds_35 rfl rfl rfl ?_
          refine s_iconst (q := 37) (v := 1) C dX7_odds_36 rfl (by decide) ?_
          refine s_Vi (q := 40) (As := [.int 1]) (st := []) C (uX7_error l G hG V17 1) yvX7_error mlX7_58 (s70 hG) rfl rfl rfl rfl rfl rfl (gR_le (by decide) (by decide)) (Nat.le_of_ble_eq_true rfl) dX7_odds_37 rfl (fun x38 V39 => ?_)
          exact s_iret C E dX7_odds_40
        · refine s_iconst (q := 42) (v := 0) C dX7_odds_41 rfl (by decide) ?_
          refine s_istore (q := 44) (L' := [(5, .int 0), (0, .ref (G.1 0)), (1, .int a1), (2, .int a2), (3, .int a3), (4, .int a4)]) C dX7_odds_42 rfl (by decide) rfl ?_
          refine s_iconst (q := 45) (v := 0) C dX7_odds_44 rfl (by decide) ?_
          refine s_istore (q := 47) (L' := [(6, .int 0), (5, .int 0), (0, .ref (G.1 0)), (1, .int a1), (2, .int a2), (3, .int a3), (4, .int a4)]) C dX7_odds_45 rfl (by decide) rfl ?_
          have hL1 : ∀ (n : Nat) (V19 : gV) (x20 : Int32) (x21 : Int32), gSm l (gR 6 188) 7 G X (fX7_odds_L1 a1 a2 a3 a4 n V19 x20 x21) (rr, VV) V19 47 [(0, .ref (G.1 0)), (1, .int a1), (2, .int a2), (3, .int a3), (4, .int a4), (5, .int x20), (6, .int x21)] [] := by
            intro n
            induction n with
            | zero => exact fun V19 x20 x21 => s_none
            | succ n ih =>
              intro V19 x20 x21
              show gSm l (gR 6 188) 7 G X (fX7_odds_L1b a1 a2 a3 a4 (fX7_odds_L1 a1 a2 a3 a4 n) V19 x20 x21) (rr, VV) V19 47 [(0, .ref (G.1 0)), (1, .int a1), (2, .int a2), (3, .int a3), (4, .int a4), (5, .int x20), (6, .int x21)] []
              generalize fX7_odds_L1 a1 a2 a3 a4 n = B22 at ih ⊢
              have hB22 := ih
              unfold fX7_odds_L1b
              refine s_iload (q := 49) C 6 dX7_odds_47 rfl rfl ?_
              refine s_bipush (q := 51) (v := 9) C dX7_odds_49 rfl (by decide) ?_
              refine s_icmp_gt (tgt := 107) (q := 54) C dX7_odds_51 (by decide) rfl (fun c23 => ?_) (fun c23 => ?_)
              · refine s_iload (q := 109) C 5 dX7_odds_107 rfl rfl ?_
                refine s_iload (q := 111) C 4 dX7_odds_109 rfl rfl ?_
                refine s_if_ne (tgt := 119) (q := 114) C dX7_odds_111 (by decide) rfl (fun c24 => ?_) (fun c24 => ?_)
                · refine s_iload (q := 116) C 5 dX7_odds_114 rfl rfl ?_
                  refine s_goto (q := 121) C dX7_odds_116 (by decide) ?_
                  refine s_Si (q := 124) (As := [.int x20, .int x20]) (st := []) C (uX7_partInLowestTerms l G hG V19 x20 x20) ysX7_partInLowestTerms mlX7_273 rfl rfl rfl rfl (gR_le (by decide) (by decide)) (Nat.le_of_ble_eq_true rfl) dX7_odds_121 rfl (fun x27 V28 => ?_)
                  exact s_iret C E dX7_odds_124
                · refine s_bipush (q := 121) (v := 10) C dX7_odds_119 rfl (by decide) ?_
                  refine s_Si (q := 124) (As := [.int x20, .int 10]) (st := []) C (uX7_partInLowestTerms l G hG V19 x20 10) ysX7_partInLowestTerms mlX7_273 rfl rfl rfl rfl (gR_le (by decide) (by decide)) (Nat.le_of_ble_eq_true rfl) dX7_odds_121 rfl (fun x25 V26 => ?_)
                  exact s_iret C E dX7_odds_124
              · refine s_aload_n (q := 55) C 0 dX7_odds_54 rfl rfl rfl ?_
                refine geX7_2 (q := 58) C (s70 hG) flX7_19 dX7_odds_55 rfl ?_
                refine s_aload_n (q := 59) C 0 dX7_odds_58 rfl rfl rfl ?_
                refine geX7_0 (q := 62) C (s70 hG) flX7_10 dX7_odds_59 rfl ?_
                refine s_Vv (q := 65) (As := [.ref (G.1 (0 + 1))]) (st := []) C (uX6_copyFrom l G hG V19 (0 + 61) (0 + 1) (qX7_2 hG (s70 hG)) (qX7_0 hG (s70 hG))) yvX6_copyFrom mlX7_218 (qX7_2 hG (s70 hG)) rfl rfl rfl rfl rfl rfl (gR_le (by decide) (by decide)) (Nat.le_of_ble_eq_true rfl) dX7_odds_62 rfl (fun V29 => ?_)
                refine s_aload_n (q := 66) C 0 dX7_odds_65 rfl rfl rfl ?_
                refine geX7_2 (q := 69) C (s70 hG) flX7_19 dX7_odds_66 rfl ?_
                refine s_iload_n (q := 70) C 2 dX7_odds_69 rfl rfl rfl ?_
                refine s_Vr (q := 73) (As := [.int a2]) (st := []) C (uX6_houseAt l G hG V29 (0 + 61) a2 (qX7_2 hG (s70 hG))) yvX6_houseAt mlX7_66 (qX7_2 hG (s70 hG)) rfl rfl (fun t => G.2.2.1 t = kX1 t) (rX6_houseAt G hG V29 (0 + 61) a2 (qX7_2 hG (s70 hG))) rfl rfl rfl rfl (gR_le (by decide) (by decide)) (Nat.le_of_ble_eq_true rfl) dX7_odds_70 rfl (fun t30 V31 h32 => ?_)
                refine s_iload (q := 75) C 6 dX7_odds_73 rfl rfl ?_
                refine peX1_1 (q := 78) C h32 flX7_75 dX7_odds_75 rfl (fun V33 => ?_)
                refine s_aload_n (q := 79) C 0 dX7_odds_78 rfl rfl rfl ?_
                refine geX7_2 (q := 82) C (s70 hG) flX7_19 dX7_odds_79 rfl ?_
                refine s_iload_n (q := 83) C 3 dX7_odds_82 rfl rfl rfl ?_
                refine s_Vv (q := 86) (As := [.int a3]) (st := []) C (uX6_passDays l G hG V33 (0 + 61) a3 (qX7_2 hG (s70 hG))) yvX6_passDays mlX7_197 (qX7_2 hG (s70 hG)) rfl rfl rfl rfl rfl rfl (gR_le (by decide) (by decide)) (Nat.le_of_ble_eq_true rfl) dX7_odds_83 rfl (fun V34 => ?_)
                refine s_aload_n (q := 87) C 0 dX7_odds_86 rfl rfl rfl ?_
                refine geX7_2 (q := 90) C (s70 hG) flX7_19 dX7_odds_87 rfl ?_
                refine s_iload_n (q := 91) C 1 dX7_odds_90 rfl rfl rfl ?_
                refine s_iload_n (q := 92) C 2 dX7_odds_91 rfl rfl rfl ?_
                refine s_Vi (q := 95) (As := [.int a1, .int a2]) (st := []) C (uX6_isIn l G hG V34 (0 + 61) a1 a2 (qX7_2 hG (s70 hG))) yvX6_isIn mlX7_270 (qX7_2 hG (s70 hG)) rfl rfl rfl rfl rfl rfl (gR_le (by decide) (by decide)) (Nat.le_of_ble_eq_true rfl) dX7_odds_92 rfl (fun x35 V36 => ?_)
                refine s_if_eq (tgt := 101) (q := 98) C dX7_odds_95 (by decide) rfl (fun c37 => ?_) (fun c37 => ?_)
                · refine s_iinc (q := 104) (w := 1) (L' := [(6, .int (x21 + 1)), (0, .ref (G.1 0)), (1, .int a1), (2, .int a2), (3, .int a3), (4, .int a4), (5, .int x20)]) C 6 dX7_odds_101 rfl rfl (by decide) rfl (by decide) rfl ?_
                  refine s_goto (q := 47) C dX7_odds_104 (by decide) ?_
                  refine s_sub [1, 2, 3, 4, 5, 6, 0] rfl ?_
                  exact hB22 V36 x20 ((x21 + 1))
                · refine s_iinc (q := 101) (w := 1) (L' := [(5, .int (x20 + 1)), (0, .ref (G.1 0)), (1, .int a1), (2, .int a2), (3, .int a3), (4, .int a4), (6, .int x21)]) C 5 dX7_odds_98 rfl rfl (by decide) rfl (by decide) rfl ?_
                  refine s_iinc (q := 104) (w := 1) (L' := [(6, .int (x21 + 1)), (5, .int (x20 + 1)), (0, .ref (G.1 0)), (1, .int a1), (2, .int a2), (3, .int a3), (4, .int a4)]) C 6 dX7_odds_101 rfl rfl (by decide) rfl (by decide) rfl ?_
                  refine s_goto (q := 47) C dX7_odds_104 (by decide) ?_
                  refine s_sub [2, 3, 4, 5, 6, 1, 0] rfl ?_
                  exact hB22 V36 ((x20 + 1)) ((x21 + 1))
          refine s_sub [2, 3, 4, 5, 6, 1, 0] rfl ?_
          exact hL1 gFu V17 0 0
noncomputable def fX7_seed (V : gV) (a1 : Int32) : Option (Int32 × gV) := glt (V (0 + 1) 13) fun (x1 : Int32) => gpu V (0 + 1) 13 a1 fun (V2 : gV) => some (x1, V2)
set_option maxHeartbeats 4000000 in
set_option maxRecDepth 100000 in
theorem uX7_seed (l : Launch) (G : gG) (hG : gIsX G) (V : gV) (a1 : Int32) : gMi l G yX7_seed cX7_seed 3 Jvm.ClassFile.FieldType.int (gR 0 0) [.ref (G.1 0), .int a1] V (fX7_seed V a1) := by
  unfold fX7_seed
  refine gM_i (by decide +kernel) rfl rfl (Nat.le_of_ble_eq_true rfl) (fun X rr VV C E => ?_)
  change gC cX7_seed 3 RX7 G X at C
  change gSm l (gR 0 0) 3 G X _ (rr, VV) V 0 [(0, .ref (G.1 0)), (1, .int a1)] []
  refine s_aload_n (q := 1) C 0 dX7_seed_0 rfl rfl rfl ?_
  refine geX7_0 (q := 4) C (s70 hG) flX7_10 dX7_seed_1 rfl ?_
  refine geX6_13 (q := 7) C (qX7_0 hG (s70 hG)) flX7_277 dX7_seed_4 rfl ?_
  refine s_lt (fun x1 => ?_)
  refine s_istore_n (q := 8) (L' := [(2, .int x1), (0, .ref (G.1 0)), (1, .int a1)]) C dX7_seed_7 rfl rfl (by decide) rfl ?_
  refine s_aload_n (q := 9) C 1 dX7_seed_8 rfl rfl rfl ?_
  refine geX7_0 (q := 12) C (s70 hG) flX7_10 dX7_seed_9 rfl ?_
  refine s_iload_n (q := 13) C 2 dX7_seed_12 rfl rfl rfl ?_
  refine peX6_13 (q := 16) C (qX7_0 hG (s70 hG)) flX7_277 dX7_seed_13 rfl (fun V2 => ?_)
  refine s_iload_n (q := 17) C 0 dX7_seed_16 rfl rfl rfl ?_
  exact s_iret C E dX7_seed_17
noncomputable def fX7_voice (V : gV) (a1 : Int32) (a2 : Int32) (a3 : Int32) : Option (Int32 × gV) := gbi (fX7_isCake V a1) fun (x1 : Int32) (V2 : gV) => if x1 = 0 then (gbi (fX7_error V2 1) fun (x4 : Int32) (V5 : gV) => some (x4, V5)) else (gbi (fX7_within V2 a2 0 3) fun (x6 : Int32) (V7 : gV) => if x6 = 0 then (gbi (fX7_error V7 1) fun (x14 : Int32) (V15 : gV) => some (x14, V15)) else (gbr (fX6_cakeAt V7 (0 + 1) a1) fun (t9 : Nat) (V10 : gV) => gbi (fX5_speak V10 (0 + 97) a1 t9 a2 a3) fun (x12 : Int32) (V13 : gV) => some (x12, V13)))
set_option maxHeartbeats 4000000 in
set_option maxRecDepth 100000 in
theorem uX7_voice (l : Launch) (G : gG) (hG : gIsX G) (V : gV) (a1 : Int32) (a2 : Int32) (a3 : Int32) : gMi l G yX7_voice cX7_voice 4 Jvm.ClassFile.FieldType.int (gR 54 1496) [.ref (G.1 0), .int a1, .int a2, .int a3] V (fX7_voice V a1 a2 a3) := by
  unfold fX7_voice
  refine gM_i (by decide +kernel) rfl rfl (Nat.le_of_ble_eq_true rfl) (fun X rr VV C E => ?_)
  change gC cX7_voice 4 RX7 G X at C
  change gSm l (gR 54 1496) 4 G X _ (rr, VV) V 0 [(0, .ref (G.1 0)), (1, .int a1), (2, .int a2), (3, .int a3)] []
  refine s_aload_n (q := 1) C 0 dX7_voice_0 rfl rfl rfl ?_
  refine s_iload_n (q := 2) C 1 dX7_voice_1 rfl rfl rfl ?_
  refine s_Vi (q := 5) (As := [.int a1]) (st := []) C (uX7_isCake l G hG V a1) yvX7_isCake mlX7_107 (s70 hG) rfl rfl rfl rfl rfl rfl (gR_le (by decide) (by decide)) (Nat.le_of_ble_eq_true rfl) dX7_voice_2 rfl (fun x1 V2 => ?_)
  refine s_if_eq (tgt := 17) (q := 8) C dX7_voice_5 (by decide) rfl (fun c3 => ?_) (fun c3 => ?_)
  · refine s_aload_n (q := 18) C 0 dX7_voice_17 rfl rfl rfl ?_
    refine s_iconst (q := 19) (v := 1) C dX7_voice_18 rfl (by decide) ?_
    refine s_Vi (q := 22) (As := [.int 1]) (st := []) C (uX7_error l G hG V2 1) yvX7_error mlX7_58 (s70 hG) rfl rfl rfl rfl rfl rfl (gR_le (by decide) (by decide)) (Nat.le_of_ble_eq_true rfl) dX7_voice_19 rfl (fun x4 V5 => ?_)
    exact s_iret C E dX7_voice_22
  · refine s_iload_n (q := 9) C 2 dX7_voice_8 rfl rfl rfl ?_
    refine s_iconst (q := 10) (v := 0) C dX7_voice_9 rfl (by decide) ?_
    refine s_iconst (q := 11) (v := 3) C dX7_voice_10 rfl (by decide) ?_
    refine s_Si (q := 14) (As := [.int a2, .int 0, .int 3]) (st := []) C (uX7_within l G hG V2 a2 0 3) ysX7_within mlX7_54 rfl rfl rfl rfl (gR_le (by decide) (by decide)) (Nat.le_of_ble_eq_true rfl) dX7_voice_11 rfl (fun x6 V7 => ?_)
    refine s_if_ne (tgt := 23) (q := 17) C dX7_voice_14 (by decide) rfl (fun c8 => ?_) (fun c8 => ?_)
    · refine s_aload_n (q := 18) C 0 dX7_voice_17 rfl rfl rfl ?_
      refine s_iconst (q := 19) (v := 1) C dX7_voice_18 rfl (by decide) ?_
      refine s_Vi (q := 22) (As := [.int 1]) (st := []) C (uX7_error l G hG V7 1) yvX7_error mlX7_58 (s70 hG) rfl rfl rfl rfl rfl rfl (gR_le (by decide) (by decide)) (Nat.le_of_ble_eq_true rfl) dX7_voice_19 rfl (fun x14 V15 => ?_)
      exact s_iret C E dX7_voice_22
    · refine s_aload_n (q := 24) C 0 dX7_voice_23 rfl rfl rfl ?_
      refine geX7_4 (q := 27) C (s70 hG) flX7_32 dX7_voice_24 rfl ?_
      refine s_iload_n (q := 28) C 1 dX7_voice_27 rfl rfl rfl ?_
      refine s_aload_n (q := 29) C 0 dX7_voice_28 rfl rfl rfl ?_
      refine geX7_0 (q := 32) C (s70 hG) flX7_10 dX7_voice_29 rfl ?_
      refine s_iload_n (q := 33) C 1 dX7_voice_32 rfl rfl rfl ?_
      refine s_Vr (q := 36) (As := [.int a1]) (st := [.int a1, .ref (G.1 (0 + 97))]) C (uX6_cakeAt l G hG V7 (0 + 1) a1 (qX7_0 hG (s70 hG))) yvX6_cakeAt mlX7_94 (qX7_0 hG (s70 hG)) rfl rfl (fun t => G.2.2.1 t = kX0 t) (rX6_cakeAt G hG V7 (0 + 1) a1 (qX7_0 hG (s70 hG))) rfl rfl rfl rfl (gR_le (by decide) (by decide)) (Nat.le_of_ble_eq_true rfl) dX7_voice_33 rfl (fun t9 V10 h11 => ?_)
      refine s_iload_n (q := 37) C 2 dX7_voice_36 rfl rfl rfl ?_
      refine s_iload_n (q := 38) C 3 dX7_voice_37 rfl rfl rfl ?_
      refine s_Vi (q := 41) (As := [.int a1, .ref (G.1 t9), .int a2, .int a3]) (st := []) C (uX5_speak l G hG V10 (0 + 97) a1 t9 a2 a3 (qX7_4 hG (s70 hG)) h11) yvX5_speak mlX7_280 (qX7_4 hG (s70 hG)) rfl rfl rfl rfl rfl rfl (gR_le (by decide) (by decide)) (Nat.le_of_ble_eq_true rfl) dX7_voice_38 rfl (fun x12 V13 => ?_)
      exact s_iret C E dX7_voice_41
noncomputable def fX7_trace (V : gV) (a1 : Int32) : Option (Int32 × gV) := gbi (fX7_within V a1 0 ((V (0 + 97) 1) - 1)) fun (x1 : Int32) (V2 : gV) => if x1 = 0 then (gbi (fX7_error V2 2) fun (x4 : Int32) (V5 : gV) => some (x4, V5)) else (gbi (fX7_at V2 ((0 + 97) + 1) 40 a1) fun (x6 : Int32) (V7 : gV) => some (x6, V7))
set_option maxHeartbeats 4000000 in
set_option maxRecDepth 100000 in
theorem uX7_trace (l : Launch) (G : gG) (hG : gIsX G) (V : gV) (a1 : Int32) : gMi l G yX7_trace cX7_trace 2 Jvm.ClassFile.FieldType.int (gR 2 43) [.ref (G.1 0), .int a1] V (fX7_trace V a1) := by
  unfold fX7_trace
  refine gM_i (by decide +kernel) rfl rfl (Nat.le_of_ble_eq_true rfl) (fun X rr VV C E => ?_)
  change gC cX7_trace 2 RX7 G X at C
  change gSm l (gR 2 43) 2 G X _ (rr, VV) V 0 [(0, .ref (G.1 0)), (1, .int a1)] []
  refine s_iload_n (q := 1) C 1 dX7_trace_0 rfl rfl rfl ?_
  refine s_iconst (q := 2) (v := 0) C dX7_trace_1 rfl (by decide) ?_
  refine s_aload_n (q := 3) C 0 dX7_trace_2 rfl rfl rfl ?_
  refine geX7_4 (q := 6) C (s70 hG) flX7_32 dX7_trace_3 rfl ?_
  refine geX5_1 (q := 9) C (qX7_4 hG (s70 hG)) flX7_284 dX7_trace_6 rfl ?_
  refine s_iconst (q := 10) (v := 1) C dX7_trace_9 rfl (by decide) ?_
  refine s_isub (q := 11) C dX7_trace_10 rfl ?_
  refine s_Si (q := 14) (As := [.int a1, .int 0, .int ((V (0 + 97) 1) - 1)]) (st := []) C (uX7_within l G hG V a1 0 ((V (0 + 97) 1) - 1)) ysX7_within mlX7_54 rfl rfl rfl rfl (gR_le (by decide) (by decide)) (Nat.le_of_ble_eq_true rfl) dX7_trace_11 rfl (fun x1 V2 => ?_)
  refine s_if_eq (tgt := 31) (q := 17) C dX7_trace_14 (by decide) rfl (fun c3 => ?_) (fun c3 => ?_)
  · refine s_aload_n (q := 32) C 0 dX7_trace_31 rfl rfl rfl ?_
    refine s_iconst (q := 33) (v := 2) C dX7_trace_32 rfl (by decide) ?_
    refine s_Vi (q := 36) (As := [.int 2]) (st := []) C (uX7_error l G hG V2 2) yvX7_error mlX7_58 (s70 hG) rfl rfl rfl rfl rfl rfl (gR_le (by decide) (by decide)) (Nat.le_of_ble_eq_true rfl) dX7_trace_33 rfl (fun x4 V5 => ?_)
    exact s_iret C E dX7_trace_36
  · refine s_aload_n (q := 18) C 0 dX7_trace_17 rfl rfl rfl ?_
    refine geX7_4 (q := 21) C (s70 hG) flX7_32 dX7_trace_18 rfl ?_
    refine geX5_0 (q := 24) C (qX7_4 hG (s70 hG)) flX7_287 dX7_trace_21 rfl ?_
    refine s_iload_n (q := 25) C 1 dX7_trace_24 rfl rfl rfl ?_
    refine s_Si (q := 28) (As := [.ref (G.1 ((0 + 97) + 1)), .int a1]) (st := []) C (uX7_at l G hG V2 ((0 + 97) + 1) 40 a1 (qX5_0 hG (qX7_4 hG (s70 hG)))) ysX7_at mlX7_266 rfl rfl rfl rfl (gR_le (by decide) (by decide)) (Nat.le_of_ble_eq_true rfl) dX7_trace_25 rfl (fun x6 V7 => ?_)
    refine s_goto (q := 36) C dX7_trace_28 (by decide) ?_
    exact s_iret C E dX7_trace_36
noncomputable def fX7_sheet (V : gV) (a1 : Int32) (a2 : Int32) (a3 : Int32) : Option (Int32 × gV) := gbi (fX7_isSheet V a1) fun (x1 : Int32) (V2 : gV) => if x1 = 0 then (gbi (fX7_error V2 1) fun (x4 : Int32) (V5 : gV) => some (x4, V5)) else (gjn (gjn (gjn (gbr (fX7_sheetAt V2 a1) fun (t23 : Nat) (V24 : gV) => if a2 = 0 then (gbv (fX3_makeNew V24 t23 a2 0) fun (V28 : gV) => some (1, V28)) else (gbv (fX3_makeNew V24 t23 a2 a3) fun (V27 : gV) => some (1, V27))) fun J22 => if a2 = 0 then (J22) else (if a3 ≤ 40 then (J22) else (gbi (fX7_error V2 1) fun (x31 : Int32) (V32 : gV) => some (x31, V32)))) fun J17 => if a2 = 0 then (J17) else (if 0 ≤ a3 then (J17) else (gbi (fX7_error V2 3) fun (x35 : Int32) (V36 : gV) => some (x35, V36)))) fun J12 => if a2 = 0 then (J12) else (if a2 = 8 then (J12) else (if a2 = 16 then (J12) else (if a2 = 32 then (J12) else (gbi (fX7_error V2 1) fun (x41 : Int32) (V42 : gV) => some (x41, V42))))))
set_option maxHeartbeats 4000000 in
set_option maxRecDepth 100000 in
theorem uX7_sheet (l : Launch) (G : gG) (hG : gIsX G) (V : gV) (a1 : Int32) (a2 : Int32) (a3 : Int32) : gMi l G yX7_sheet cX7_sheet 4 Jvm.ClassFile.FieldType.int (gR 2 45) [.ref (G.1 0), .int a1, .int a2, .int a3] V (fX7_sheet V a1 a2 a3) := by
  unfold fX7_sheet
  refine gM_i (by decide +kernel) rfl rfl (Nat.le_of_ble_eq_true rfl) (fun X rr VV C E => ?_)
  change gC cX7_sheet 4 RX7 G X at C
  change gSm l (gR 2 45) 4 G X _ (rr, VV) V 0 [(0, .ref (G.1 0)), (1, .int a1), (2, .int a2), (3, .int a3)] []
  refine s_iload_n (q := 1) C 1 dX7_sheet_0 rfl rfl rfl ?_
  refine s_Si (q := 4) (As := [.int a1]) (st := []) C (uX7_isSheet l G hG V a1) ysX7_isSheet mlX7_236 rfl rfl rfl rfl (gR_le (by decide) (by decide)) (Nat.le_of_ble_eq_true rfl) dX7_sheet_1 rfl (fun x1 V2 => ?_)
  refine s_if_eq (tgt := 29) (q := 7) C dX7_sheet_4 (by decide) rfl (fun c3 => ?_) (fun c3 => ?_)
  · refine s_aload_n (q := 30) C 0 dX7_sheet_29 rfl rfl rfl ?_
    refine s_iconst (q := 31) (v := 1) C dX7_sheet_30 rfl (by decide) ?_
    refine s_Vi (q := 34) (As := [.int 1]) (st := []) C (uX7_error l G hG V2 1) yvX7_error mlX7_58 (s70 hG) rfl rfl rfl rfl rfl rfl (gR_le (by decide) (by decide)) (Nat.le_of_ble_eq_true rfl) dX7_sheet_31 rfl (fun x4 V5 => ?_)
    exact s_iret C E dX7_sheet_34
  · refine s_iload_n (q := 8) C 2 dX7_sheet_7 rfl rfl rfl ?_
    refine s_jn (fun J12 => gSm l (gR 2 45) 4 G X (J12) (rr, VV) V2 35 [(0, .ref (G.1 0)), (1, .int a1), (2, .int a2), (3, .int a3)] []) ?_ (fun J12 hJ12 => ?_)
    · refine s_iload_n (q := 36) C 2 dX7_sheet_35 rfl rfl rfl ?_
      refine s_jn (fun J17 => gSm l (gR 2 45) 4 G X (J17) (rr, VV) V2 49 [(0, .ref (G.1 0)), (1, .int a1), (2, .int a2), (3, .int a3)] []) ?_ (fun J17 hJ17 => ?_)
      · refine s_iload_n (q := 50) C 2 dX7_sheet_49 rfl rfl rfl ?_
        refine s_jn (fun J22 => gSm l (gR 2 45) 4 G X (J22) (rr, VV) V2 65 [(0, .ref (G.1 0)), (1, .int a1), (2, .int a2), (3, .int a3)] []) ?_ (fun J22 hJ22 => ?_)
        · refine s_aload_n (q := 66) C 0 dX7_sheet_65 rfl rfl rfl ?_
          refine s_iload_n (q := 67) C 1 dX7_sheet_66 rfl rfl rfl ?_
          refine s_Vr (q := 70) (As := [.int a1]) (st := []) C (uX7_sheetAt l G hG V2 a1) yvX7_sheetAt mlX7_239 (s70 hG) rfl rfl (fun t => G.2.2.1 t = kX3 t) (rX7_sheetAt G hG V2 a1) rfl rfl rfl rfl (gR_le (by decide) (by decide)) (Nat.le_of_ble_eq_true rfl) dX7_sheet_67 rfl (fun t23 V24 h25 => ?_)
          refine s_iload_n (q := 71) C 2 dX7_sheet_70 rfl rfl rfl ?_
          refine s_iload_n (q := 72) C 2 dX7_sheet_71 rfl rfl rfl ?_
          refine s_if_ne (tgt := 79) (q := 75) C dX7_sheet_72 (by decide) rfl (fun c26 => ?_) (fun c26 => ?_)
          · refine s_iconst (q := 76) (v := 0) C dX7_sheet_75 rfl (by decide) ?_
            refine s_goto (q := 80) C dX7_sheet_76 (by decide) ?_
            refine s_Vv (q := 83) (As := [.int a2, .int 0]) (st := []) C (uX3_makeNew l G hG V24 t23 a2 0 h25) yvX3_makeNew mlX7_290 h25 rfl rfl rfl rfl rfl rfl (gR_le (by decide) (by decide)) (Nat.le_of_ble_eq_true rfl) dX7_sheet_80 rfl (fun V28 => ?_)
            refine s_iconst (q := 84) (v := 1) C dX7_sheet_83 rfl (by decide) ?_
            exact s_iret C E dX7_sheet_84
          · refine s_iload_n (q := 80) C 3 dX7_sheet_79 rfl rfl rfl ?_
            refine s_Vv (q := 83) (As := [.int a2, .int a3]) (st := []) C (uX3_makeNew l G hG V24 t23 a2 a3 h25) yvX3_makeNew mlX7_290 h25 rfl rfl rfl rfl rfl rfl (gR_le (by decide) (by decide)) (Nat.le_of_ble_eq_true rfl) dX7_sheet_80 rfl (fun V27 => ?_)
            refine s_iconst (q := 84) (v := 1) C dX7_sheet_83 rfl (by decide) ?_
            exact s_iret C E dX7_sheet_84
        · refine s_if_eq (tgt := 65) (q := 53) C dX7_sheet_50 (by decide) rfl (fun c29 => ?_) (fun c29 => ?_)
          · refine s_sub [0, 1, 2, 3] rfl ?_
            exact hJ22
          · refine s_iload_n (q := 54) C 3 dX7_sheet_53 rfl rfl rfl ?_
            refine s_bipush (q := 56) (v := 40) C dX7_sheet_54 rfl (by decide) ?_
            refine s_icmp_le (tgt := 65) (q := 59) C dX7_sheet_56 (by decide) rfl (fun c30 => ?_) (fun c30 => ?_)
            · refine s_sub [0, 1, 2, 3] rfl ?_
              exact hJ22
            · refine s_aload_n (q := 60) C 0 dX7_sheet_59 rfl rfl rfl ?_
              refine s_iconst (q := 61) (v := 1) C dX7_sheet_60 rfl (by decide) ?_
              refine s_Vi (q := 64) (As := [.int 1]) (st := []) C (uX7_error l G hG V2 1) yvX7_error mlX7_58 (s70 hG) rfl rfl rfl rfl rfl rfl (gR_le (by decide) (by decide)) (Nat.le_of_ble_eq_true rfl) dX7_sheet_61 rfl (fun x31 V32 => ?_)
              exact s_iret C E dX7_sheet_64
      · refine s_if_eq (tgt := 49) (q := 39) C dX7_sheet_36 (by decide) rfl (fun c33 => ?_) (fun c33 => ?_)
        · refine s_sub [0, 1, 2, 3] rfl ?_
          exact hJ17
        · refine s_iload_n (q := 40) C 3 dX7_sheet_39 rfl rfl rfl ?_
          refine s_if_ge (tgt := 49) (q := 43) C dX7_sheet_40 (by decide) rfl (fun c34 => ?_) (fun c34 => ?_)
          · refine s_sub [0, 1, 2, 3] rfl ?_
            exact hJ17
          · refine s_aload_n (q := 44) C 0 dX7_sheet_43 rfl rfl rfl ?_
            refine s_iconst (q := 45) (v := 3) C dX7_sheet_44 rfl (by decide) ?_
            refine s_Vi (q := 48) (As := [.int 3]) (st := []) C (uX7_error l G hG V2 3) yvX7_error mlX7_58 (s70 hG) rfl rfl rfl rfl rfl rfl (gR_le (by decide) (by decide)) (Nat.le_of_ble_eq_true rfl) dX7_sheet_45 rfl (fun x35 V36 => ?_)
            exact s_iret C E dX7_sheet_48
    · refine s_if_eq (tgt := 35) (q := 11) C dX7_sheet_8 (by decide) rfl (fun c37 => ?_) (fun c37 => ?_)
      · refine s_sub [0, 1, 2, 3] rfl ?_
        exact hJ12
      · refine s_iload_n (q := 12) C 2 dX7_sheet_11 rfl rfl rfl ?_
        refine s_bipush (q := 14) (v := 8) C dX7_sheet_12 rfl (by decide) ?_
        refine s_icmp_eq (tgt := 35) (q := 17) C dX7_sheet_14 (by decide) rfl (fun c38 => ?_) (fun c38 => ?_)
        · refine s_sub [0, 1, 2, 3] rfl ?_
          exact hJ12
        · refine s_iload_n (q := 18) C 2 dX7_sheet_17 rfl rfl rfl ?_
          refine s_bipush (q := 20) (v := 16) C dX7_sheet_18 rfl (by decide) ?_
          refine s_icmp_eq (tgt := 35) (q := 23) C dX7_sheet_20 (by decide) rfl (fun c39 => ?_) (fun c39 => ?_)
          · refine s_sub [0, 1, 2, 3] rfl ?_
            exact hJ12
          · refine s_iload_n (q := 24) C 2 dX7_sheet_23 rfl rfl rfl ?_
            refine s_bipush (q := 26) (v := 32) C dX7_sheet_24 rfl (by decide) ?_
            refine s_icmp_eq (tgt := 35) (q := 29) C dX7_sheet_26 (by decide) rfl (fun c40 => ?_) (fun c40 => ?_)
            · refine s_sub [0, 1, 2, 3] rfl ?_
              exact hJ12
            · refine s_aload_n (q := 30) C 0 dX7_sheet_29 rfl rfl rfl ?_
              refine s_iconst (q := 31) (v := 1) C dX7_sheet_30 rfl (by decide) ?_
              refine s_Vi (q := 34) (As := [.int 1]) (st := []) C (uX7_error l G hG V2 1) yvX7_error mlX7_58 (s70 hG) rfl rfl rfl rfl rfl rfl (gR_le (by decide) (by decide)) (Nat.le_of_ble_eq_true rfl) dX7_sheet_31 rfl (fun x41 V42 => ?_)
              exact s_iret C E dX7_sheet_34
noncomputable def fX7_put (V : gV) (a1 : Int32) (a2 : Int32) (a3 : Int32) : Option (Int32 × gV) := gbi (fX7_isSheet V a1) fun (x1 : Int32) (V2 : gV) => if x1 = 0 then (gbi (fX7_error V2 1) fun (x18 : Int32) (V19 : gV) => some (x18, V19)) else (gbr (fX7_sheetAt V2 a1) fun (t4 : Nat) (V5 : gV) => gbi (fX3_isMissing V5 t4) fun (x7 : Int32) (V8 : gV) => if x7 = 0 then (gbi (fX7_within V8 a2 0 ((V8 t4 2) - 1)) fun (x10 : Int32) (V11 : gV) => if x10 = 0 then (gbi (fX7_error V11 1) fun (x14 : Int32) (V15 : gV) => some (x14, V15)) else (gbv (fX3_setNumber V11 t4 a2 a3) fun (V13 : gV) => some (1, V13))) else (gbi (fX7_error V8 2) fun (x16 : Int32) (V17 : gV) => some (x16, V17)))
set_option maxHeartbeats 4000000 in
set_option maxRecDepth 100000 in
theorem uX7_put (l : Launch) (G : gG) (hG : gIsX G) (V : gV) (a1 : Int32) (a2 : Int32) (a3 : Int32) : gMi l G yX7_put cX7_put 5 Jvm.ClassFile.FieldType.int (gR 2 44) [.ref (G.1 0), .int a1, .int a2, .int a3] V (fX7_put V a1 a2 a3) := by
  unfold fX7_put
  refine gM_i (by decide +kernel) rfl rfl (Nat.le_of_ble_eq_true rfl) (fun X rr VV C E => ?_)
  change gC cX7_put 5 RX7 G X at C
  change gSm l (gR 2 44) 5 G X _ (rr, VV) V 0 [(0, .ref (G.1 0)), (1, .int a1), (2, .int a2), (3, .int a3)] []
  refine s_iload_n (q := 1) C 1 dX7_put_0 rfl rfl rfl ?_
  refine s_Si (q := 4) (As := [.int a1]) (st := []) C (uX7_isSheet l G hG V a1) ysX7_isSheet mlX7_236 rfl rfl rfl rfl (gR_le (by decide) (by decide)) (Nat.le_of_ble_eq_true rfl) dX7_put_1 rfl (fun x1 V2 => ?_)
  refine s_if_ne (tgt := 13) (q := 7) C dX7_put_4 (by decide) rfl (fun c3 => ?_) (fun c3 => ?_)
  · refine s_aload_n (q := 8) C 0 dX7_put_7 rfl rfl rfl ?_
    refine s_iconst (q := 9) (v := 1) C dX7_put_8 rfl (by decide) ?_
    refine s_Vi (q := 12) (As := [.int 1]) (st := []) C (uX7_error l G hG V2 1) yvX7_error mlX7_58 (s70 hG) rfl rfl rfl rfl rfl rfl (gR_le (by decide) (by decide)) (Nat.le_of_ble_eq_true rfl) dX7_put_9 rfl (fun x18 V19 => ?_)
    exact s_iret C E dX7_put_12
  · refine s_aload_n (q := 14) C 0 dX7_put_13 rfl rfl rfl ?_
    refine s_iload_n (q := 15) C 1 dX7_put_14 rfl rfl rfl ?_
    refine s_Vr (q := 18) (As := [.int a1]) (st := []) C (uX7_sheetAt l G hG V2 a1) yvX7_sheetAt mlX7_239 (s70 hG) rfl rfl (fun t => G.2.2.1 t = kX3 t) (rX7_sheetAt G hG V2 a1) rfl rfl rfl rfl (gR_le (by decide) (by decide)) (Nat.le_of_ble_eq_true rfl) dX7_put_15 rfl (fun t4 V5 h6 => ?_)
    refine s_astore (q := 20) (L' := [(4, .ref (G.1 t4)), (0, .ref (G.1 0)), (1, .int a1), (2, .int a2), (3, .int a3)]) C dX7_put_18 rfl (by decide) rfl ?_
    refine s_aload (q := 22) C 0 dX7_put_20 rfl rfl ?_
    refine s_Vi (q := 25) (As := []) (st := []) C (uX3_isMissing l G hG V5 t4 h6) yvX3_isMissing mlX7_243 h6 rfl rfl rfl rfl rfl rfl (gR_le (by decide) (by decide)) (Nat.le_of_ble_eq_true rfl) dX7_put_22 rfl (fun x7 V8 => ?_)
    refine s_if_eq (tgt := 34) (q := 28) C dX7_put_25 (by decide) rfl (fun c9 => ?_) (fun c9 => ?_)
    · refine s_iload_n (q := 35) C 3 dX7_put_34 rfl rfl rfl ?_
      refine s_iconst (q := 36) (v := 0) C dX7_put_35 rfl (by decide) ?_
      refine s_aload (q := 38) C 0 dX7_put_36 rfl rfl ?_
      refine geX3_2 (q := 41) C h6 flX7_246 dX7_put_38 rfl ?_
      refine s_iconst (q := 42) (v := 1) C dX7_put_41 rfl (by decide) ?_
      refine s_isub (q := 43) C dX7_put_42 rfl ?_
      refine s_Si (q := 46) (As := [.int a2, .int 0, .int ((V8 t4 2) - 1)]) (st := []) C (uX7_within l G hG V8 a2 0 ((V8 t4 2) - 1)) ysX7_within mlX7_54 rfl rfl rfl rfl (gR_le (by decide) (by decide)) (Nat.le_of_ble_eq_true rfl) dX7_put_43 rfl (fun x10 V11 => ?_)
      refine s_if_ne (tgt := 55) (q := 49) C dX7_put_46 (by decide) rfl (fun c12 => ?_) (fun c12 => ?_)
      · refine s_aload_n (q := 50) C 1 dX7_put_49 rfl rfl rfl ?_
        refine s_iconst (q := 51) (v := 1) C dX7_put_50 rfl (by decide) ?_
        refine s_Vi (q := 54) (As := [.int 1]) (st := []) C (uX7_error l G hG V11 1) yvX7_error mlX7_58 (s70 hG) rfl rfl rfl rfl rfl rfl (gR_le (by decide) (by decide)) (Nat.le_of_ble_eq_true rfl) dX7_put_51 rfl (fun x14 V15 => ?_)
        exact s_iret C E dX7_put_54
      · refine s_aload (q := 57) C 0 dX7_put_55 rfl rfl ?_
        refine s_iload_n (q := 58) C 3 dX7_put_57 rfl rfl rfl ?_
        refine s_iload_n (q := 59) C 4 dX7_put_58 rfl rfl rfl ?_
        refine s_Vv (q := 62) (As := [.int a2, .int a3]) (st := []) C (uX3_setNumber l G hG V11 t4 a2 a3 h6) yvX3_setNumber mlX7_293 h6 rfl rfl rfl rfl rfl rfl (gR_le (by decide) (by decide)) (Nat.le_of_ble_eq_true rfl) dX7_put_59 rfl (fun V13 => ?_)
        refine s_iconst (q := 63) (v := 1) C dX7_put_62 rfl (by decide) ?_
        exact s_iret C E dX7_put_63
    · refine s_aload_n (q := 29) C 1 dX7_put_28 rfl rfl rfl ?_
      refine s_iconst (q := 30) (v := 2) C dX7_put_29 rfl (by decide) ?_
      refine s_Vi (q := 33) (As := [.int 2]) (st := []) C (uX7_error l G hG V8 2) yvX7_error mlX7_58 (s70 hG) rfl rfl rfl rfl rfl rfl (gR_le (by decide) (by decide)) (Nat.le_of_ble_eq_true rfl) dX7_put_30 rfl (fun x16 V17 => ?_)
      exact s_iret C E dX7_put_33
noncomputable def fX7_move (V : gV) (a1 : Int32) (a2 : Int32) (a3 : Int32) (a4 : Int32) (a5 : Int32) : Option (Int32 × gV) := gbi (fX7_isSheet V a1) fun (x1 : Int32) (V2 : gV) => if x1 = 0 then (gbi (fX7_error V2 1) fun (x4 : Int32) (V5 : gV) => some (x4, V5)) else (gbi (fX7_isSheet V2 a3) fun (x6 : Int32) (V7 : gV) => if x6 = 0 then (gbi (fX7_error V7 1) fun (x39 : Int32) (V40 : gV) => some (x39, V40)) else (gbr (fX7_sheetAt V7 a1) fun (t9 : Nat) (V10 : gV) => gbr (fX7_sheetAt V10 a3) fun (t12 : Nat) (V13 : gV) => gbi (fX3_isMissing V13 t9) fun (x15 : Int32) (V16 : gV) => if x15 = 0 then (gbi (fX3_isMissing V16 t12) fun (x20 : Int32) (V21 : gV) => if x20 = 0 then (if (V21 t9 1) = (V21 t12 1) then (gbi (fX3_hasPart V21 t9 a2 a5) fun (x24 : Int32) (V25 : gV) => if x24 = 0 then (gbi (fX7_error V25 1) fun (x27 : Int32) (V28 : gV) => some (x27, V28)) else (gbi (fX3_hasPart V25 t12 a4 a5) fun (x29 : Int32) (V30 : gV) => if x29 = 0 then (gbi (fX7_error V30 1) fun (x33 : Int32) (V34 : gV) => some (x33, V34)) else (gbv (fX7_copyPart V30 (t9 + 1) 40 a2 (t12 + 1) 40 a4 a5) fun (V32 : gV) => some (a5, V32)))) else (gbi (fX7_error V21 5) fun (x35 : Int32) (V36 : gV) => some (x35, V36))) else (gbi (fX7_error V21 2) fun (x37 : Int32) (V38 : gV) => some (x37, V38))) else (gbi (fX7_error V16 2) fun (x18 : Int32) (V19 : gV) => some (x18, V19))))
set_option maxHeartbeats 4000000 in
set_option maxRecDepth 100000 in
theorem uX7_move (l : Launch) (G : gG) (hG : gIsX G) (V : gV) (a1 : Int32) (a2 : Int32) (a3 : Int32) (a4 : Int32) (a5 : Int32) : gMi l G yX7_move cX7_move 8 Jvm.ClassFile.FieldType.int (gR 2 124) [.ref (G.1 0), .int a1, .int a2, .int a3, .int a4, .int a5] V (fX7_move V a1 a2 a3 a4 a5) := by
  unfold fX7_move
  refine gM_i (by decide +kernel) rfl rfl (Nat.le_of_ble_eq_true rfl) (fun X rr VV C E => ?_)
  change gC cX7_move 8 RX7 G X at C
  change gSm l (gR 2 124) 8 G X _ (rr, VV) V 0 [(0, .ref (G.1 0)), (1, .int a1), (2, .int a2), (3, .int a3), (4, .int a4), (5, .int a5)] []
  refine s_iload_n (q := 1) C 1 dX7_move_0 rfl rfl rfl ?_
  refine s_Si (q := 4) (As := [.int a1]) (st := []) C (uX7_isSheet l G hG V a1) ysX7_isSheet mlX7_236 rfl rfl rfl rfl (gR_le (by decide) (by decide)) (Nat.le_of_ble_eq_true rfl) dX7_move_1 rfl (fun x1 V2 => ?_)
  refine s_if_eq (tgt := 14) (q := 7) C dX7_move_4 (by decide) rfl (fun c3 => ?_) (fun c3 => ?_)
  · refine s_aload_n (q := 15) C 0 dX7_move_14 rfl rfl rfl ?_
    refine s_iconst (q := 16) (v := 1) C dX7_move_15 rfl (by decide) ?_
    refine s_Vi (q := 19) (As := [.int 1]) (st := []) C (uX7_error l G hG V2 1) yvX7_error mlX7_58 (s70 hG) rfl rfl rfl rfl rfl rfl (gR_le (by decide) (by decide)) (Nat.le_of_ble_eq_true rfl) dX7_move_16 rfl (fun x4 V5 => ?_)
    exact s_iret C E dX7_move_19
  · refine s_iload_n (q := 8) C 3 dX7_move_7 rfl rfl rfl ?_
    refine s_Si (q := 11) (As := [.int a3]) (st := []) C (uX7_isSheet l G hG V2 a3) ysX7_isSheet mlX7_236 rfl rfl rfl rfl (gR_le (by decide) (by decide)) (Nat.le_of_ble_eq_true rfl) dX7_move_8 rfl (fun x6 V7 => ?_)
    refine s_if_ne (tgt := 20) (q := 14) C dX7_move_11 (by decide) rfl (fun c8 => ?_) (fun c8 => ?_)
    · refine s_aload_n (q := 15) C 0 dX7_move_14 rfl rfl rfl ?_
      refine s_iconst (q := 16) (v := 1) C dX7_move_15 rfl (by decide) ?_
      refine s_Vi (q := 19) (As := [.int 1]) (st := []) C (uX7_error l G hG V7 1) yvX7_error mlX7_58 (s70 hG) rfl rfl rfl rfl rfl rfl (gR_le (by decide) (by decide)) (Nat.le_of_ble_eq_true rfl) dX7_move_16 rfl (fun x39 V40 => ?_)
      exact s_iret C E dX7_move_19
    · refine s_aload_n (q := 21) C 0 dX7_move_20 rfl rfl rfl ?_
      refine s_iload_n (q := 22) C 1 dX7_move_21 rfl rfl rfl ?_
      refine s_Vr (q := 25) (As := [.int a1]) (st := []) C (uX7_sheetAt l G hG V7 a1) yvX7_sheetAt mlX7_239 (s70 hG) rfl rfl (fun t => G.2.2.1 t = kX3 t) (rX7_sheetAt G hG V7 a1) rfl rfl rfl rfl (gR_le (by decide) (by decide)) (Nat.le_of_ble_eq_true rfl) dX7_move_22 rfl (fun t9 V10 h11 => ?_)
      refine s_astore (q := 27) (L' := [(6, .ref (G.1 t9)), (0, .ref (G.1 0)), (1, .int a1), (2, .int a2), (3, .int a3), (4, .int a4), (5, .int a5)]) C dX7_move_25 rfl (by decide) rfl ?_
      refine s_aload_n (q := 28) C 1 dX7_move_27 rfl rfl rfl ?_
      refine s_iload_n (q := 29) C 4 dX7_move_28 rfl rfl rfl ?_
      refine s_Vr (q := 32) (As := [.int a3]) (st := []) C (uX7_sheetAt l G hG V10 a3) yvX7_sheetAt mlX7_239 (s70 hG) rfl rfl (fun t => G.2.2.1 t = kX3 t) (rX7_sheetAt G hG V10 a3) rfl rfl rfl rfl (gR_le (by decide) (by decide)) (Nat.le_of_ble_eq_true rfl) dX7_move_29 rfl (fun t12 V13 h14 => ?_)
      refine s_astore (q := 34) (L' := [(7, .ref (G.1 t12)), (6, .ref (G.1 t9)), (0, .ref (G.1 0)), (1, .int a1), (2, .int a2), (3, .int a3), (4, .int a4), (5, .int a5)]) C dX7_move_32 rfl (by decide) rfl ?_
      refine s_aload (q := 36) C 1 dX7_move_34 rfl rfl ?_
      refine s_Vi (q := 39) (As := []) (st := []) C (uX3_isMissing l G hG V13 t9 h11) yvX3_isMissing mlX7_243 h11 rfl rfl rfl rfl rfl rfl (gR_le (by decide) (by decide)) (Nat.le_of_ble_eq_true rfl) dX7_move_36 rfl (fun x15 V16 => ?_)
      refine s_if_ne (tgt := 50) (q := 42) C dX7_move_39 (by decide) rfl (fun c17 => ?_) (fun c17 => ?_)
      · refine s_aload (q := 44) C 0 dX7_move_42 rfl rfl ?_
        refine s_Vi (q := 47) (As := []) (st := []) C (uX3_isMissing l G hG V16 t12 h14) yvX3_isMissing mlX7_243 h14 rfl rfl rfl rfl rfl rfl (gR_le (by decide) (by decide)) (Nat.le_of_ble_eq_true rfl) dX7_move_44 rfl (fun x20 V21 => ?_)
        refine s_if_eq (tgt := 56) (q := 50) C dX7_move_47 (by decide) rfl (fun c22 => ?_) (fun c22 => ?_)
        · refine s_aload (q := 58) C 1 dX7_move_56 rfl rfl ?_
          refine geX3_1 (q := 61) C h11 flX7_296 dX7_move_58 rfl ?_
          refine s_aload (q := 63) C 0 dX7_move_61 rfl rfl ?_
          refine geX3_1 (q := 66) C h14 flX7_296 dX7_move_63 rfl ?_
          refine s_icmp_eq (tgt := 75) (q := 69) C dX7_move_66 (by decide) rfl (fun c23 => ?_) (fun c23 => ?_)
          · refine s_aload (q := 77) C 1 dX7_move_75 rfl rfl ?_
            refine s_iload_n (q := 78) C 4 dX7_move_77 rfl rfl rfl ?_
            refine s_iload (q := 80) C 7 dX7_move_78 rfl rfl ?_
            refine s_Vi (q := 83) (As := [.int a2, .int a5]) (st := []) C (uX3_hasPart l G hG V21 t9 a2 a5 h11) yvX3_hasPart mlX7_299 h11 rfl rfl rfl rfl rfl rfl (gR_le (by decide) (by decide)) (Nat.le_of_ble_eq_true rfl) dX7_move_80 rfl (fun x24 V25 => ?_)
            refine s_if_eq (tgt := 98) (q := 86) C dX7_move_83 (by decide) rfl (fun c26 => ?_) (fun c26 => ?_)
            · refine s_aload_n (q := 99) C 2 dX7_move_98 rfl rfl rfl ?_
              refine s_iconst (q := 100) (v := 1) C dX7_move_99 rfl (by decide) ?_
              refine s_Vi (q := 103) (As := [.int 1]) (st := []) C (uX7_error l G hG V25 1) yvX7_error mlX7_58 (s70 hG) rfl rfl rfl rfl rfl rfl (gR_le (by decide) (by decide)) (Nat.le_of_ble_eq_true rfl) dX7_move_100 rfl (fun x27 V28 => ?_)
              exact s_iret C E dX7_move_103
            · refine s_aload (q := 88) C 0 dX7_move_86 rfl rfl ?_
              refine s_iload (q := 90) C 6 dX7_move_88 rfl rfl ?_
              refine s_iload (q := 92) C 7 dX7_move_90 rfl rfl ?_
              refine s_Vi (q := 95) (As := [.int a4, .int a5]) (st := []) C (uX3_hasPart l G hG V25 t12 a4 a5 h14) yvX3_hasPart mlX7_299 h14 rfl rfl rfl rfl rfl rfl (gR_le (by decide) (by decide)) (Nat.le_of_ble_eq_true rfl) dX7_move_92 rfl (fun x29 V30 => ?_)
              refine s_if_ne (tgt := 104) (q := 98) C dX7_move_95 (by decide) rfl (fun c31 => ?_) (fun c31 => ?_)
              · refine s_aload_n (q := 99) C 2 dX7_move_98 rfl rfl rfl ?_
                refine s_iconst (q := 100) (v := 1) C dX7_move_99 rfl (by decide) ?_
                refine s_Vi (q := 103) (As := [.int 1]) (st := []) C (uX7_error l G hG V30 1) yvX7_error mlX7_58 (s70 hG) rfl rfl rfl rfl rfl rfl (gR_le (by decide) (by decide)) (Nat.le_of_ble_eq_true rfl) dX7_move_100 rfl (fun x33 V34 => ?_)
                exact s_iret C E dX7_move_103
              · refine s_aload (q := 106) C 1 dX7_move_104 rfl rfl ?_
                refine geX3_0 (q := 109) C h11 flX7_302 dX7_move_106 rfl ?_
                refine s_iload_n (q := 110) C 4 dX7_move_109 rfl rfl rfl ?_
                refine s_aload (q := 112) C 0 dX7_move_110 rfl rfl ?_
                refine geX3_0 (q := 115) C h14 flX7_302 dX7_move_112 rfl ?_
                refine s_iload (q := 117) C 6 dX7_move_115 rfl rfl ?_
                refine s_iload (q := 119) C 7 dX7_move_117 rfl rfl ?_
                refine s_Sv (q := 122) (As := [.ref (G.1 (t9 + 1)), .int a2, .ref (G.1 (t12 + 1)), .int a4, .int a5]) (st := []) C (uX7_copyPart l G hG V30 (t9 + 1) 40 a2 (t12 + 1) 40 a4 a5 (qX3_0 hG h11) (qX3_0 hG h14) (mX3_0 hG h14)) ysX7_copyPart mlX7_305 rfl rfl rfl rfl (gR_le (by decide) (by decide)) (Nat.le_of_ble_eq_true rfl) dX7_move_119 rfl (fun V32 => ?_)
                refine s_iload (q := 124) C 7 dX7_move_122 rfl rfl ?_
                exact s_iret C E dX7_move_124
          · refine s_aload_n (q := 70) C 2 dX7_move_69 rfl rfl rfl ?_
            refine s_iconst (q := 71) (v := 5) C dX7_move_70 rfl (by decide) ?_
            refine s_Vi (q := 74) (As := [.int 5]) (st := []) C (uX7_error l G hG V21 5) yvX7_error mlX7_58 (s70 hG) rfl rfl rfl rfl rfl rfl (gR_le (by decide) (by decide)) (Nat.le_of_ble_eq_true rfl) dX7_move_71 rfl (fun x35 V36 => ?_)
            exact s_iret C E dX7_move_74
        · refine s_aload_n (q := 51) C 2 dX7_move_50 rfl rfl rfl ?_
          refine s_iconst (q := 52) (v := 2) C dX7_move_51 rfl (by decide) ?_
          refine s_Vi (q := 55) (As := [.int 2]) (st := []) C (uX7_error l G hG V21 2) yvX7_error mlX7_58 (s70 hG) rfl rfl rfl rfl rfl rfl (gR_le (by decide) (by decide)) (Nat.le_of_ble_eq_true rfl) dX7_move_52 rfl (fun x37 V38 => ?_)
          exact s_iret C E dX7_move_55
      · refine s_aload_n (q := 51) C 2 dX7_move_50 rfl rfl rfl ?_
        refine s_iconst (q := 52) (v := 2) C dX7_move_51 rfl (by decide) ?_
        refine s_Vi (q := 55) (As := [.int 2]) (st := []) C (uX7_error l G hG V16 2) yvX7_error mlX7_58 (s70 hG) rfl rfl rfl rfl rfl rfl (gR_le (by decide) (by decide)) (Nat.le_of_ble_eq_true rfl) dX7_move_52 rfl (fun x18 V19 => ?_)
        exact s_iret C E dX7_move_55
noncomputable def fX7_worns_L1b (t4 : Nat) (x10 : Int32) (B13 : gV → Int32 → Option (Int32 × gV)) (V11 : gV) (x12 : Int32) : Option (Int32 × gV) := if x10 ≤ x12 then (some (x10, V11)) else (gbi (fX3_numberAt V11 t4 x12) fun (x15 : Int32) (V16 : gV) => gbi (fX7_within V16 x15 0 9999) fun (x17 : Int32) (V18 : gV) => if x17 = 0 then (some (x12, V18)) else (gbr (fX6_cakeAt V18 (0 + 1) x12) fun (t20 : Nat) (V21 : gV) => gbi (fX3_numberAt V21 t4 x12) fun (x23 : Int32) (V24 : gV) => gpu V24 t20 5 x23 fun (V25 : gV) => B13 V25 ((x12 + 1))))
noncomputable def fX7_worns_L1 (t4 : Nat) (x10 : Int32) : Nat → gV → Int32 → Option (Int32 × gV)
  | 0 => fun _ _ => none
  | n + 1 => fX7_worns_L1b t4 x10 (fX7_worns_L1 t4 x10 n)
noncomputable def fX7_worns (V : gV) (a1 : Int32) : Option (Int32 × gV) := gbi (fX7_isSheet V a1) fun (x1 : Int32) (V2 : gV) => if x1 = 0 then (gbi (fX7_error V2 1) fun (x28 : Int32) (V29 : gV) => some (x28, V29)) else (gbr (fX7_sheetAt V2 a1) fun (t4 : Nat) (V5 : gV) => gbi (fX3_isMissing V5 t4) fun (x7 : Int32) (V8 : gV) => if x7 = 0 then (glt (gmn (V8 t4 2) (V8 (0 + 1) 9)) fun (x10 : Int32) => fX7_worns_L1 t4 x10 gFu V8 0) else (gbi (fX7_error V8 2) fun (x26 : Int32) (V27 : gV) => some (x26, V27)))
set_option maxHeartbeats 4000000 in
set_option maxRecDepth 100000 in
theorem uX7_worns (l : Launch) (G : gG) (hG : gIsX G) (V : gV) (a1 : Int32) : gMi l G yX7_worns cX7_worns 5 Jvm.ClassFile.FieldType.int (gR 2 43) [.ref (G.1 0), .int a1] V (fX7_worns V a1) := by
  unfold fX7_worns
  refine gM_i (by decide +kernel) rfl rfl (Nat.le_of_ble_eq_true rfl) (fun X rr VV C E => ?_)
  change gC cX7_worns 5 RX7 G X at C
  change gSm l (gR 2 43) 5 G X _ (rr, VV) V 0 [(0, .ref (G.1 0)), (1, .int a1)] []
  refine s_iload_n (q := 1) C 1 dX7_worns_0 rfl rfl rfl ?_
  refine s_Si (q := 4) (As := [.int a1]) (st := []) C (uX7_isSheet l G hG V a1) ysX7_isSheet mlX7_236 rfl rfl rfl rfl (gR_le (by decide) (by decide)) (Nat.le_of_ble_eq_true rfl) dX7_worns_1 rfl (fun x1 V2 => ?_)
  refine s_if_ne (tgt := 13) (q := 7) C dX7_worns_4 (by decide) rfl (fun c3 => ?_) (fun c3 => ?_)
  · refine s_aload_n (q := 8) C 0 dX7_worns_7 rfl rfl rfl ?_
    refine s_iconst (q := 9) (v := 1) C dX7_worns_8 rfl (by decide) ?_
    refine s_Vi (q := 12) (As := [.int 1]) (st := []) C (uX7_error l G hG V2 1) yvX7_error mlX7_58 (s70 hG) rfl rfl rfl rfl rfl rfl (gR_le (by decide) (by decide)) (Nat.le_of_ble_eq_true rfl) dX7_worns_9 rfl (fun x28 V29 => ?_)
    exact s_iret C E dX7_worns_12
  · refine s_aload_n (q := 14) C 0 dX7_worns_13 rfl rfl rfl ?_
    refine s_iload_n (q := 15) C 1 dX7_worns_14 rfl rfl rfl ?_
    refine s_Vr (q := 18) (As := [.int a1]) (st := []) C (uX7_sheetAt l G hG V2 a1) yvX7_sheetAt mlX7_239 (s70 hG) rfl rfl (fun t => G.2.2.1 t = kX3 t) (rX7_sheetAt G hG V2 a1) rfl rfl rfl rfl (gR_le (by decide) (by decide)) (Nat.le_of_ble_eq_true rfl) dX7_worns_15 rfl (fun t4 V5 h6 => ?_)
    refine s_astore_n (q := 19) (L' := [(2, .ref (G.1 t4)), (0, .ref (G.1 0)), (1, .int a1)]) C dX7_worns_18 rfl rfl (by decide) rfl ?_
    refine s_aload_n (q := 20) C 0 dX7_worns_19 rfl rfl rfl ?_
    refine s_Vi (q := 23) (As := []) (st := []) C (uX3_isMissing l G hG V5 t4 h6) yvX3_isMissing mlX7_243 h6 rfl rfl rfl rfl rfl rfl (gR_le (by decide) (by decide)) (Nat.le_of_ble_eq_true rfl) dX7_worns_20 rfl (fun x7 V8 => ?_)
    refine s_if_eq (tgt := 32) (q := 26) C dX7_worns_23 (by decide) rfl (fun c9 => ?_) (fun c9 => ?_)
    · refine s_aload_n (q := 33) C 0 dX7_worns_32 rfl rfl rfl ?_
      refine geX3_2 (q := 36) C h6 flX7_246 dX7_worns_33 rfl ?_
      refine s_aload_n (q := 37) C 1 dX7_worns_36 rfl rfl rfl ?_
      refine geX7_0 (q := 40) C (s70 hG) flX7_10 dX7_worns_37 rfl ?_
      refine geX6_9 (q := 43) C (qX7_0 hG (s70 hG)) flX7_91 dX7_worns_40 rfl ?_
      refine s_mmin (q := 46) C jlX7_309 jm_min_1 jm_init jm_min_2 ⟨by decide, Nat.le_of_ble_eq_true rfl⟩ dX7_worns_43 rfl ?_
      refine s_lt (fun x10 => ?_)
      refine s_istore_n (q := 47) (L' := [(3, .int x10), (2, .ref (G.1 t4)), (0, .ref (G.1 0)), (1, .int a1)]) C dX7_worns_46 rfl rfl (by decide) rfl ?_
      refine s_iconst (q := 48) (v := 0) C dX7_worns_47 rfl (by decide) ?_
      refine s_istore (q := 50) (L' := [(4, .int 0), (3, .int x10), (2, .ref (G.1 t4)), (0, .ref (G.1 0)), (1, .int a1)]) C dX7_worns_48 rfl (by decide) rfl ?_
      have hL1 : ∀ (n : Nat) (V11 : gV) (x12 : Int32), gSm l (gR 2 43) 5 G X (fX7_worns_L1 t4 x10 n V11 x12) (rr, VV) V11 50 [(0, .ref (G.1 0)), (2, .ref (G.1 t4)), (3, .int x10), (4, .int x12)] [] := by
        intro n
        induction n with
        | zero => exact fun V11 x12 => s_none
        | succ n ih =>
          intro V11 x12
          show gSm l (gR 2 43) 5 G X (fX7_worns_L1b t4 x10 (fX7_worns_L1 t4 x10 n) V11 x12) (rr, VV) V11 50 [(0, .ref (G.1 0)), (2, .ref (G.1 t4)), (3, .int x10), (4, .int x12)] []
          generalize fX7_worns_L1 t4 x10 n = B13 at ih ⊢
          have hB13 := ih
          unfold fX7_worns_L1b
          refine s_iload (q := 52) C 3 dX7_worns_50 rfl rfl ?_
          refine s_iload_n (q := 53) C 2 dX7_worns_52 rfl rfl rfl ?_
          refine s_icmp_ge (tgt := 99) (q := 56) C dX7_worns_53 (by decide) rfl (fun c14 => ?_) (fun c14 => ?_)
          · refine s_iload_n (q := 100) C 2 dX7_worns_99 rfl rfl rfl ?_
            exact s_iret C E dX7_worns_100
          · refine s_aload_n (q := 57) C 1 dX7_worns_56 rfl rfl rfl ?_
            refine s_iload (q := 59) C 3 dX7_worns_57 rfl rfl ?_
            refine s_Vi (q := 62) (As := [.int x12]) (st := []) C (uX3_numberAt l G hG V11 t4 x12 h6) yvX3_numberAt mlX7_249 h6 rfl rfl rfl rfl rfl rfl (gR_le (by decide) (by decide)) (Nat.le_of_ble_eq_true rfl) dX7_worns_59 rfl (fun x15 V16 => ?_)
            refine s_iconst (q := 63) (v := 0) C dX7_worns_62 rfl (by decide) ?_
            refine s_sipush (q := 66) (v := 9999) C dX7_worns_63 rfl (by decide) ?_
            refine s_Si (q := 69) (As := [.int x15, .int 0, .int 9999]) (st := []) C (uX7_within l G hG V16 x15 0 9999) ysX7_within mlX7_54 rfl rfl rfl rfl (gR_le (by decide) (by decide)) (Nat.le_of_ble_eq_true rfl) dX7_worns_66 rfl (fun x17 V18 => ?_)
            refine s_if_ne (tgt := 75) (q := 72) C dX7_worns_69 (by decide) rfl (fun c19 => ?_) (fun c19 => ?_)
            · refine s_iload (q := 74) C 3 dX7_worns_72 rfl rfl ?_
              exact s_iret C E dX7_worns_74
            · refine s_aload_n (q := 76) C 0 dX7_worns_75 rfl rfl rfl ?_
              refine geX7_0 (q := 79) C (s70 hG) flX7_10 dX7_worns_76 rfl ?_
              refine s_iload (q := 81) C 3 dX7_worns_79 rfl rfl ?_
              refine s_Vr (q := 84) (As := [.int x12]) (st := []) C (uX6_cakeAt l G hG V18 (0 + 1) x12 (qX7_0 hG (s70 hG))) yvX6_cakeAt mlX7_94 (qX7_0 hG (s70 hG)) rfl rfl (fun t => G.2.2.1 t = kX0 t) (rX6_cakeAt G hG V18 (0 + 1) x12 (qX7_0 hG (s70 hG))) rfl rfl rfl rfl (gR_le (by decide) (by decide)) (Nat.le_of_ble_eq_true rfl) dX7_worns_81 rfl (fun t20 V21 h22 => ?_)
              refine s_aload_n (q := 85) C 1 dX7_worns_84 rfl rfl rfl ?_
              refine s_iload (q := 87) C 3 dX7_worns_85 rfl rfl ?_
              refine s_Vi (q := 90) (As := [.int x12]) (st := [.ref (G.1 t20)]) C (uX3_numberAt l G hG V21 t4 x12 h6) yvX3_numberAt mlX7_249 h6 rfl rfl rfl rfl rfl rfl (gR_le (by decide) (by decide)) (Nat.le_of_ble_eq_true rfl) dX7_worns_87 rfl (fun x23 V24 => ?_)
              refine peX0_5 (q := 93) C h22 flX7_122 dX7_worns_90 rfl (fun V25 => ?_)
              refine s_iinc (q := 96) (w := 1) (L' := [(4, .int (x12 + 1)), (0, .ref (G.1 0)), (2, .ref (G.1 t4)), (3, .int x10)]) C 3 dX7_worns_93 rfl rfl (by decide) rfl (by decide) rfl ?_
              refine s_goto (q := 50) C dX7_worns_96 (by decide) ?_
              refine s_sub [1, 2, 3, 0] rfl ?_
              exact hB13 V25 ((x12 + 1))
      refine s_sub [3, 2, 1, 0] rfl ?_
      exact hL1 gFu V8 0
    · refine s_aload_n (q := 27) C 1 dX7_worns_26 rfl rfl rfl ?_
      refine s_iconst (q := 28) (v := 2) C dX7_worns_27 rfl (by decide) ?_
      refine s_Vi (q := 31) (As := [.int 2]) (st := []) C (uX7_error l G hG V8 2) yvX7_error mlX7_58 (s70 hG) rfl rfl rfl rfl rfl rfl (gR_le (by decide) (by decide)) (Nat.le_of_ble_eq_true rfl) dX7_worns_28 rfl (fun x26 V27 => ?_)
      exact s_iret C E dX7_worns_31
noncomputable def fX7_judge_L1b (t4 : Nat) (x10 : Int32) (B13 : gV → Int32 → Option (Int32 × gV)) (V11 : gV) (x12 : Int32) : Option (Int32 × gV) := if x10 ≤ x12 then (if (V11 t4 2) = (V11 (0 + 1) 9) then (some ((-1), V11)) else (some (x10, V11))) else (gbi (fX3_numberAt V11 t4 x12) fun (x16 : Int32) (V17 : gV) => gbr (fX6_cakeAt V17 (0 + 1) x12) fun (t18 : Nat) (V19 : gV) => gbi (fX0_shown V19 t18) fun (x21 : Int32) (V22 : gV) => if x16 = x21 then (B13 V22 ((x12 + 1))) else (some (x12, V22)))
noncomputable def fX7_judge_L1 (t4 : Nat) (x10 : Int32) : Nat → gV → Int32 → Option (Int32 × gV)
  | 0 => fun _ _ => none
  | n + 1 => fX7_judge_L1b t4 x10 (fX7_judge_L1 t4 x10 n)
noncomputable def fX7_judge (V : gV) (a1 : Int32) : Option (Int32 × gV) := gbi (fX7_isSheet V a1) fun (x1 : Int32) (V2 : gV) => if x1 = 0 then (gbi (fX7_error V2 1) fun (x26 : Int32) (V27 : gV) => some (x26, V27)) else (gbr (fX7_sheetAt V2 a1) fun (t4 : Nat) (V5 : gV) => gbi (fX3_isMissing V5 t4) fun (x7 : Int32) (V8 : gV) => if x7 = 0 then (glt (gmn (V8 t4 2) (V8 (0 + 1) 9)) fun (x10 : Int32) => fX7_judge_L1 t4 x10 gFu V8 0) else (gbi (fX7_error V8 2) fun (x24 : Int32) (V25 : gV) => some (x24, V25)))
set_option maxHeartbeats 4000000 in
set_option maxRecDepth 100000 in
theorem uX7_judge (l : Launch) (G : gG) (hG : gIsX G) (V : gV) (a1 : Int32) : gMi l G yX7_judge cX7_judge 5 Jvm.ClassFile.FieldType.int (gR 3 63) [.ref (G.1 0), .int a1] V (fX7_judge V a1) := by
  unfold fX7_judge
  refine gM_i (by decide +kernel) rfl rfl (Nat.le_of_ble_eq_true rfl) (fun X rr VV C E => ?_)
  change gC cX7_judge 5 RX7 G X at C
  change gSm l (gR 3 63) 5 G X _ (rr, VV) V 0 [(0, .ref (G.1 0)), (1, .int a1)] []
  refine s_iload_n (q := 1) C 1 dX7_judge_0 rfl rfl rfl ?_
  refine s_Si (q := 4) (As := [.int a1]) (st := []) C (uX7_isSheet l G hG V a1) ysX7_isSheet mlX7_236 rfl rfl rfl rfl (gR_le (by decide) (by decide)) (Nat.le_of_ble_eq_true rfl) dX7_judge_1 rfl (fun x1 V2 => ?_)
  refine s_if_ne (tgt := 13) (q := 7) C dX7_judge_4 (by decide) rfl (fun c3 => ?_) (fun c3 => ?_)
  · refine s_aload_n (q := 8) C 0 dX7_judge_7 rfl rfl rfl ?_
    refine s_iconst (q := 9) (v := 1) C dX7_judge_8 rfl (by decide) ?_
    refine s_Vi (q := 12) (As := [.int 1]) (st := []) C (uX7_error l G hG V2 1) yvX7_error mlX7_58 (s70 hG) rfl rfl rfl rfl rfl rfl (gR_le (by decide) (by decide)) (Nat.le_of_ble_eq_true rfl) dX7_judge_9 rfl (fun x26 V27 => ?_)
    exact s_iret C E dX7_judge_12
  · refine s_aload_n (q := 14) C 0 dX7_judge_13 rfl rfl rfl ?_
    refine s_iload_n (q := 15) C 1 dX7_judge_14 rfl rfl rfl ?_
    refine s_Vr (q := 18) (As := [.int a1]) (st := []) C (uX7_sheetAt l G hG V2 a1) yvX7_sheetAt mlX7_239 (s70 hG) rfl rfl (fun t => G.2.2.1 t = kX3 t) (rX7_sheetAt G hG V2 a1) rfl rfl rfl rfl (gR_le (by decide) (by decide)) (Nat.le_of_ble_eq_true rfl) dX7_judge_15 rfl (fun t4 V5 h6 => ?_)
    refine s_astore_n (q := 19) (L' := [(2, .ref (G.1 t4)), (0, .ref (G.1 0)), (1, .int a1)]) C dX7_judge_18 rfl rfl (by decide) rfl ?_
    refine s_aload_n (q := 20) C 0 dX7_judge_19 rfl rfl rfl ?_
    refine s_Vi (q := 23) (As := []) (st := []) C (uX3_isMissing l G hG V5 t4 h6) yvX3_isMissing mlX7_243 h6 rfl rfl rfl rfl rfl rfl (gR_le (by decide) (by decide)) (Nat.le_of_ble_eq_true rfl) dX7_judge_20 rfl (fun x7 V8 => ?_)
    refine s_if_eq (tgt := 32) (q := 26) C dX7_judge_23 (by decide) rfl (fun c9 => ?_) (fun c9 => ?_)
    · refine s_aload_n (q := 33) C 0 dX7_judge_32 rfl rfl rfl ?_
      refine geX3_2 (q := 36) C h6 flX7_246 dX7_judge_33 rfl ?_
      refine s_aload_n (q := 37) C 1 dX7_judge_36 rfl rfl rfl ?_
      refine geX7_0 (q := 40) C (s70 hG) flX7_10 dX7_judge_37 rfl ?_
      refine geX6_9 (q := 43) C (qX7_0 hG (s70 hG)) flX7_91 dX7_judge_40 rfl ?_
      refine s_mmin (q := 46) C jlX7_309 jm_min_1 jm_init jm_min_2 ⟨by decide, Nat.le_of_ble_eq_true rfl⟩ dX7_judge_43 rfl ?_
      refine s_lt (fun x10 => ?_)
      refine s_istore_n (q := 47) (L' := [(3, .int x10), (2, .ref (G.1 t4)), (0, .ref (G.1 0)), (1, .int a1)]) C dX7_judge_46 rfl rfl (by decide) rfl ?_
      refine s_iconst (q := 48) (v := 0) C dX7_judge_47 rfl (by decide) ?_
      refine s_istore (q := 50) (L' := [(4, .int 0), (3, .int x10), (2, .ref (G.1 t4)), (0, .ref (G.1 0)), (1, .int a1)]) C dX7_judge_48 rfl (by decide) rfl ?_
      have hL1 : ∀ (n : Nat) (V11 : gV) (x12 : Int32), gSm l (gR 3 63) 5 G X (fX7_judge_L1 t4 x10 n V11 x12) (rr, VV) V11 50 [(0, .ref (G.1 0)), (2, .ref (G.1 t4)), (3, .int x10), (4, .int x12)] [] := by
        intro n
        induction n with
        | zero => exact fun V11 x12 => s_none
        | succ n ih =>
          intro V11 x12
          show gSm l (gR 3 63) 5 G X (fX7_judge_L1b t4 x10 (fX7_judge_L1 t4 x10 n) V11 x12) (rr, VV) V11 50 [(0, .ref (G.1 0)), (2, .ref (G.1 t4)), (3, .int x10), (4, .int x12)] []
          generalize fX7_judge_L1 t4 x10 n = B13 at ih ⊢
          have hB13 := ih
          unfold fX7_judge_L1b
          refine s_iload (q := 52) C 3 dX7_judge_50 rfl rfl ?_
          refine s_iload_n (q := 53) C 2 dX7_judge_52 rfl rfl rfl ?_
          refine s_icmp_ge (tgt := 86) (q := 56) C dX7_judge_53 (by decide) rfl (fun c14 => ?_) (fun c14 => ?_)
          · refine s_aload_n (q := 87) C 1 dX7_judge_86 rfl rfl rfl ?_
            refine geX3_2 (q := 90) C h6 flX7_246 dX7_judge_87 rfl ?_
            refine s_aload_n (q := 91) C 0 dX7_judge_90 rfl rfl rfl ?_
            refine geX7_0 (q := 94) C (s70 hG) flX7_10 dX7_judge_91 rfl ?_
            refine geX6_9 (q := 97) C (qX7_0 hG (s70 hG)) flX7_91 dX7_judge_94 rfl ?_
            refine s_icmp_ne (tgt := 104) (q := 100) C dX7_judge_97 (by decide) rfl (fun c15 => ?_) (fun c15 => ?_)
            · refine s_iconst (q := 101) (v := (-1)) C dX7_judge_100 rfl (by decide) ?_
              refine s_goto (q := 105) C dX7_judge_101 (by decide) ?_
              exact s_iret C E dX7_judge_105
            · refine s_iload_n (q := 105) C 2 dX7_judge_104 rfl rfl rfl ?_
              exact s_iret C E dX7_judge_105
          · refine s_aload_n (q := 57) C 1 dX7_judge_56 rfl rfl rfl ?_
            refine s_iload (q := 59) C 3 dX7_judge_57 rfl rfl ?_
            refine s_Vi (q := 62) (As := [.int x12]) (st := []) C (uX3_numberAt l G hG V11 t4 x12 h6) yvX3_numberAt mlX7_249 h6 rfl rfl rfl rfl rfl rfl (gR_le (by decide) (by decide)) (Nat.le_of_ble_eq_true rfl) dX7_judge_59 rfl (fun x16 V17 => ?_)
            refine s_aload_n (q := 63) C 0 dX7_judge_62 rfl rfl rfl ?_
            refine geX7_0 (q := 66) C (s70 hG) flX7_10 dX7_judge_63 rfl ?_
            refine s_iload (q := 68) C 3 dX7_judge_66 rfl rfl ?_
            refine s_Vr (q := 71) (As := [.int x12]) (st := [.int x16]) C (uX6_cakeAt l G hG V17 (0 + 1) x12 (qX7_0 hG (s70 hG))) yvX6_cakeAt mlX7_94 (qX7_0 hG (s70 hG)) rfl rfl (fun t => G.2.2.1 t = kX0 t) (rX6_cakeAt G hG V17 (0 + 1) x12 (qX7_0 hG (s70 hG))) rfl rfl rfl rfl (gR_le (by decide) (by decide)) (Nat.le_of_ble_eq_true rfl) dX7_judge_68 rfl (fun t18 V19 h20 => ?_)
            refine s_Vi (q := 74) (As := []) (st := [.int x16]) C (uX0_shown l G hG V19 t18 h20) yvX0_shown mlX7_128 h20 rfl rfl rfl rfl rfl rfl (gR_le (by decide) (by decide)) (Nat.le_of_ble_eq_true rfl) dX7_judge_71 rfl (fun x21 V22 => ?_)
            refine s_icmp_eq (tgt := 80) (q := 77) C dX7_judge_74 (by decide) rfl (fun c23 => ?_) (fun c23 => ?_)
            · refine s_iinc (q := 83) (w := 1) (L' := [(4, .int (x12 + 1)), (0, .ref (G.1 0)), (2, .ref (G.1 t4)), (3, .int x10)]) C 3 dX7_judge_80 rfl rfl (by decide) rfl (by decide) rfl ?_
              refine s_goto (q := 50) C dX7_judge_83 (by decide) ?_
              refine s_sub [1, 2, 3, 0] rfl ?_
              exact hB13 V22 ((x12 + 1))
            · refine s_iload (q := 79) C 3 dX7_judge_77 rfl rfl ?_
              exact s_iret C E dX7_judge_79
      refine s_sub [3, 2, 1, 0] rfl ?_
      exact hL1 gFu V8 0
    · refine s_aload_n (q := 27) C 1 dX7_judge_26 rfl rfl rfl ?_
      refine s_iconst (q := 28) (v := 2) C dX7_judge_27 rfl (by decide) ?_
      refine s_Vi (q := 31) (As := [.int 2]) (st := []) C (uX7_error l G hG V8 2) yvX7_error mlX7_58 (s70 hG) rfl rfl rfl rfl rfl rfl (gR_le (by decide) (by decide)) (Nat.le_of_ble_eq_true rfl) dX7_judge_28 rfl (fun x24 V25 => ?_)
      exact s_iret C E dX7_judge_31
noncomputable def fX7_image (V : gV)  : Option (Int32 × gV) := gbv (fX6_copyFrom V (0 + 31) (0 + 1)) fun (V1 : gV) => gpu V1 0 9 ((V1 0 9) + 1) fun (V2 : gV) => some ((V2 0 9), V2)
set_option maxHeartbeats 4000000 in
set_option maxRecDepth 100000 in
theorem uX7_image (l : Launch) (G : gG) (hG : gIsX G) (V : gV)  : gMi l G yX7_image cX7_image 1 Jvm.ClassFile.FieldType.int (gR 5 188) [.ref (G.1 0)] V (fX7_image V) := by
  unfold fX7_image
  refine gM_i (by decide +kernel) rfl rfl (Nat.le_of_ble_eq_true rfl) (fun X rr VV C E => ?_)
  change gC cX7_image 1 RX7 G X at C
  change gSm l (gR 5 188) 1 G X _ (rr, VV) V 0 [(0, .ref (G.1 0))] []
  refine s_aload_n (q := 1) C 0 dX7_image_0 rfl rfl rfl ?_
  refine geX7_1 (q := 4) C (s70 hG) flX7_16 dX7_image_1 rfl ?_
  refine s_aload_n (q := 5) C 0 dX7_image_4 rfl rfl rfl ?_
  refine geX7_0 (q := 8) C (s70 hG) flX7_10 dX7_image_5 rfl ?_
  refine s_Vv (q := 11) (As := [.ref (G.1 (0 + 1))]) (st := []) C (uX6_copyFrom l G hG V (0 + 31) (0 + 1) (qX7_1 hG (s70 hG)) (qX7_0 hG (s70 hG))) yvX6_copyFrom mlX7_218 (qX7_1 hG (s70 hG)) rfl rfl rfl rfl rfl rfl (gR_le (by decide) (by decide)) (Nat.le_of_ble_eq_true rfl) dX7_image_8 rfl (fun V1 => ?_)
  refine s_aload_n (q := 12) C 0 dX7_image_11 rfl rfl rfl ?_
  refine s_dup (q := 13) C dX7_image_12 rfl rfl ?_
  refine geX7_9 (q := 16) C (s70 hG) flX7_314 dX7_image_13 rfl ?_
  refine s_iconst (q := 17) (v := 1) C dX7_image_16 rfl (by decide) ?_
  refine s_iadd (q := 18) C dX7_image_17 rfl ?_
  refine peX7_9 (q := 21) C (s70 hG) flX7_314 dX7_image_18 rfl (fun V2 => ?_)
  refine s_aload_n (q := 22) C 0 dX7_image_21 rfl rfl rfl ?_
  refine geX7_9 (q := 25) C (s70 hG) flX7_314 dX7_image_22 rfl ?_
  exact s_iret C E dX7_image_25
noncomputable def fX7_restore (V : gV)  : Option (Int32 × gV) := if (V 0 9) = 0 then (gbi (fX7_error V 2) fun (x3 : Int32) (V4 : gV) => some (x3, V4)) else (gbv (fX6_copyFrom V (0 + 1) (0 + 31)) fun (V2 : gV) => some ((V2 (0 + 1) 12), V2))
set_option maxHeartbeats 4000000 in
set_option maxRecDepth 100000 in
theorem uX7_restore (l : Launch) (G : gG) (hG : gIsX G) (V : gV)  : gMi l G yX7_restore cX7_restore 1 Jvm.ClassFile.FieldType.int (gR 5 188) [.ref (G.1 0)] V (fX7_restore V) := by
  unfold fX7_restore
  refine gM_i (by decide +kernel) rfl rfl (Nat.le_of_ble_eq_true rfl) (fun X rr VV C E => ?_)
  change gC cX7_restore 1 RX7 G X at C
  change gSm l (gR 5 188) 1 G X _ (rr, VV) V 0 [(0, .ref (G.1 0))] []
  refine s_aload_n (q := 1) C 0 dX7_restore_0 rfl rfl rfl ?_
  refine geX7_9 (q := 4) C (s70 hG) flX7_314 dX7_restore_1 rfl ?_
  refine s_if_ne (tgt := 13) (q := 7) C dX7_restore_4 (by decide) rfl (fun c1 => ?_) (fun c1 => ?_)
  · refine s_aload_n (q := 8) C 0 dX7_restore_7 rfl rfl rfl ?_
    refine s_iconst (q := 9) (v := 2) C dX7_restore_8 rfl (by decide) ?_
    refine s_Vi (q := 12) (As := [.int 2]) (st := []) C (uX7_error l G hG V 2) yvX7_error mlX7_58 (s70 hG) rfl rfl rfl rfl rfl rfl (gR_le (by decide) (by decide)) (Nat.le_of_ble_eq_true rfl) dX7_restore_9 rfl (fun x3 V4 => ?_)
    exact s_iret C E dX7_restore_12
  · refine s_aload_n (q := 14) C 0 dX7_restore_13 rfl rfl rfl ?_
    refine geX7_0 (q := 17) C (s70 hG) flX7_10 dX7_restore_14 rfl ?_
    refine s_aload_n (q := 18) C 0 dX7_restore_17 rfl rfl rfl ?_
    refine geX7_1 (q := 21) C (s70 hG) flX7_16 dX7_restore_18 rfl ?_
    refine s_Vv (q := 24) (As := [.ref (G.1 (0 + 31))]) (st := []) C (uX6_copyFrom l G hG V (0 + 1) (0 + 31) (qX7_0 hG (s70 hG)) (qX7_1 hG (s70 hG))) yvX6_copyFrom mlX7_218 (qX7_0 hG (s70 hG)) rfl rfl rfl rfl rfl rfl (gR_le (by decide) (by decide)) (Nat.le_of_ble_eq_true rfl) dX7_restore_21 rfl (fun V2 => ?_)
    refine s_aload_n (q := 25) C 0 dX7_restore_24 rfl rfl rfl ?_
    refine geX7_0 (q := 28) C (s70 hG) flX7_10 dX7_restore_25 rfl ?_
    refine geX6_12 (q := 31) C (qX7_0 hG (s70 hG)) flX7_194 dX7_restore_28 rfl ?_
    exact s_iret C E dX7_restore_31
noncomputable def fX7_tell (V : gV) (a1 : Int32) : Option (Int32 × gV) := if (V (0 + 1) 11) < 20 then (gbv (fX7_setAt V ((0 + 1) + 13) 20 (V (0 + 1) 11) a1) fun (V2 : gV) => gpu V2 (0 + 1) 11 ((V2 (0 + 1) 11) + 1) fun (V3 : gV) => some ((V3 (0 + 1) 11), V3)) else (gbi (fX7_error V 4) fun (x4 : Int32) (V5 : gV) => some (x4, V5))
set_option maxHeartbeats 4000000 in
set_option maxRecDepth 100000 in
theorem uX7_tell (l : Launch) (G : gG) (hG : gIsX G) (V : gV) (a1 : Int32) : gMi l G yX7_tell cX7_tell 2 Jvm.ClassFile.FieldType.int (gR 2 43) [.ref (G.1 0), .int a1] V (fX7_tell V a1) := by
  unfold fX7_tell
  refine gM_i (by decide +kernel) rfl rfl (Nat.le_of_ble_eq_true rfl) (fun X rr VV C E => ?_)
  change gC cX7_tell 2 RX7 G X at C
  change gSm l (gR 2 43) 2 G X _ (rr, VV) V 0 [(0, .ref (G.1 0)), (1, .int a1)] []
  refine s_aload_n (q := 1) C 0 dX7_tell_0 rfl rfl rfl ?_
  refine geX7_0 (q := 4) C (s70 hG) flX7_10 dX7_tell_1 rfl ?_
  refine geX6_11 (q := 7) C (qX7_0 hG (s70 hG)) flX7_317 dX7_tell_4 rfl ?_
  refine s_bipush (q := 9) (v := 20) C dX7_tell_7 rfl (by decide) ?_
  refine s_icmp_lt (tgt := 18) (q := 12) C dX7_tell_9 (by decide) rfl (fun c1 => ?_) (fun c1 => ?_)
  · refine s_aload_n (q := 19) C 0 dX7_tell_18 rfl rfl rfl ?_
    refine geX7_0 (q := 22) C (s70 hG) flX7_10 dX7_tell_19 rfl ?_
    refine geX6_7 (q := 25) C (qX7_0 hG (s70 hG)) flX7_320 dX7_tell_22 rfl ?_
    refine s_aload_n (q := 26) C 0 dX7_tell_25 rfl rfl rfl ?_
    refine geX7_0 (q := 29) C (s70 hG) flX7_10 dX7_tell_26 rfl ?_
    refine geX6_11 (q := 32) C (qX7_0 hG (s70 hG)) flX7_317 dX7_tell_29 rfl ?_
    refine s_iload_n (q := 33) C 1 dX7_tell_32 rfl rfl rfl ?_
    refine s_Sv (q := 36) (As := [.ref (G.1 ((0 + 1) + 13)), .int (V (0 + 1) 11), .int a1]) (st := []) C (uX7_setAt l G hG V ((0 + 1) + 13) 20 (V (0 + 1) 11) a1 (qX6_7 hG (qX7_0 hG (s70 hG))) (mX6_7 hG (qX7_0 hG (s70 hG)))) ysX7_setAt mlX7_162 rfl rfl rfl rfl (gR_le (by decide) (by decide)) (Nat.le_of_ble_eq_true rfl) dX7_tell_33 rfl (fun V2 => ?_)
    refine s_aload_n (q := 37) C 0 dX7_tell_36 rfl rfl rfl ?_
    refine geX7_0 (q := 40) C (s70 hG) flX7_10 dX7_tell_37 rfl ?_
    refine s_dup (q := 41) C dX7_tell_40 rfl rfl ?_
    refine geX6_11 (q := 44) C (qX7_0 hG (s70 hG)) flX7_317 dX7_tell_41 rfl ?_
    refine s_iconst (q := 45) (v := 1) C dX7_tell_44 rfl (by decide) ?_
    refine s_iadd (q := 46) C dX7_tell_45 rfl ?_
    refine peX6_11 (q := 49) C (qX7_0 hG (s70 hG)) flX7_317 dX7_tell_46 rfl (fun V3 => ?_)
    refine s_aload_n (q := 50) C 0 dX7_tell_49 rfl rfl rfl ?_
    refine geX7_0 (q := 53) C (s70 hG) flX7_10 dX7_tell_50 rfl ?_
    refine geX6_11 (q := 56) C (qX7_0 hG (s70 hG)) flX7_317 dX7_tell_53 rfl ?_
    exact s_iret C E dX7_tell_56
  · refine s_aload_n (q := 13) C 0 dX7_tell_12 rfl rfl rfl ?_
    refine s_iconst (q := 14) (v := 4) C dX7_tell_13 rfl (by decide) ?_
    refine s_Vi (q := 17) (As := [.int 4]) (st := []) C (uX7_error l G hG V 4) yvX7_error mlX7_58 (s70 hG) rfl rfl rfl rfl rfl rfl (gR_le (by decide) (by decide)) (Nat.le_of_ble_eq_true rfl) dX7_tell_14 rfl (fun x4 V5 => ?_)
    exact s_iret C E dX7_tell_17
noncomputable def fX7_check_L1b (B5 : gV → Int32 → Option (Int32 × gV)) (V3 : gV) (x4 : Int32) : Option (Int32 × gV) := if (V3 (0 + 61) 11) ≤ x4 then (some (0, V3)) else (gbv (fX6_passDay V3 (0 + 61)) fun (V7 : gV) => gbi (fX7_at V7 ((0 + 61) + 13) 20 x4) fun (x8 : Int32) (V9 : gV) => gbi (fX6_goneCakes V9 (0 + 61)) fun (x10 : Int32) (V11 : gV) => if x8 = x10 then (B5 V11 ((x4 + 1))) else (some ((1 + x4), V11)))
noncomputable def fX7_check_L1 : Nat → gV → Int32 → Option (Int32 × gV)
  | 0 => fun _ _ => none
  | n + 1 => fX7_check_L1b (fX7_check_L1 n)
noncomputable def fX7_check (V : gV)  : Option (Int32 × gV) := gbv (fX6_copyFrom V (0 + 61) (0 + 1)) fun (V1 : gV) => gpu V1 (0 + 1) 11 0 fun (V2 : gV) => fX7_check_L1 gFu V2 0
set_option maxHeartbeats 4000000 in
set_option maxRecDepth 100000 in
theorem uX7_check (l : Launch) (G : gG) (hG : gIsX G) (V : gV)  : gMi l G yX7_check cX7_check 2 Jvm.ClassFile.FieldType.int (gR 5 188) [.ref (G.1 0)] V (fX7_check V) := by
  unfold fX7_check
  refine gM_i (by decide +kernel) rfl rfl (Nat.le_of_ble_eq_true rfl) (fun X rr VV C E => ?_)
  change gC cX7_check 2 RX7 G X at C
  change gSm l (gR 5 188) 2 G X _ (rr, VV) V 0 [(0, .ref (G.1 0))] []
  refine s_aload_n (q := 1) C 0 dX7_check_0 rfl rfl rfl ?_
  refine geX7_2 (q := 4) C (s70 hG) flX7_19 dX7_check_1 rfl ?_
  refine s_aload_n (q := 5) C 0 dX7_check_4 rfl rfl rfl ?_
  refine geX7_0 (q := 8) C (s70 hG) flX7_10 dX7_check_5 rfl ?_
  refine s_Vv (q := 11) (As := [.ref (G.1 (0 + 1))]) (st := []) C (uX6_copyFrom l G hG V (0 + 61) (0 + 1) (qX7_2 hG (s70 hG)) (qX7_0 hG (s70 hG))) yvX6_copyFrom mlX7_218 (qX7_2 hG (s70 hG)) rfl rfl rfl rfl rfl rfl (gR_le (by decide) (by decide)) (Nat.le_of_ble_eq_true rfl) dX7_check_8 rfl (fun V1 => ?_)
  refine s_aload_n (q := 12) C 0 dX7_check_11 rfl rfl rfl ?_
  refine geX7_0 (q := 15) C (s70 hG) flX7_10 dX7_check_12 rfl ?_
  refine s_iconst (q := 16) (v := 0) C dX7_check_15 rfl (by decide) ?_
  refine peX6_11 (q := 19) C (qX7_0 hG (s70 hG)) flX7_317 dX7_check_16 rfl (fun V2 => ?_)
  refine s_iconst (q := 20) (v := 0) C dX7_check_19 rfl (by decide) ?_
  refine s_istore_n (q := 21) (L' := [(1, .int 0), (0, .ref (G.1 0))]) C dX7_check_20 rfl rfl (by decide) rfl ?_
  have hL1 : ∀ (n : Nat) (V3 : gV) (x4 : Int32), gSm l (gR 5 188) 2 G X (fX7_check_L1 n V3 x4) (rr, VV) V3 21 [(0, .ref (G.1 0)), (1, .int x4)] [] := by
    intro n
    induction n with
    | zero => exact fun V3 x4 => s_none
    | succ n ih =>
      intro V3 x4
      show gSm l (gR 5 188) 2 G X (fX7_check_L1b (fX7_check_L1 n) V3 x4) (rr, VV) V3 21 [(0, .ref (G.1 0)), (1, .int x4)] []
      generalize fX7_check_L1 n = B5 at ih ⊢
      have hB5 := ih
      unfold fX7_check_L1b
      refine s_iload_n (q := 22) C 1 dX7_check_21 rfl rfl rfl ?_
      refine s_aload_n (q := 23) C 0 dX7_check_22 rfl rfl rfl ?_
      refine geX7_2 (q := 26) C (s70 hG) flX7_19 dX7_check_23 rfl ?_
      refine geX6_11 (q := 29) C (qX7_2 hG (s70 hG)) flX7_317 dX7_check_26 rfl ?_
      refine s_icmp_ge (tgt := 70) (q := 32) C dX7_check_29 (by decide) rfl (fun c6 => ?_) (fun c6 => ?_)
      · refine s_iconst (q := 71) (v := 0) C dX7_check_70 rfl (by decide) ?_
        exact s_iret C E dX7_check_71
      · refine s_aload_n (q := 33) C 0 dX7_check_32 rfl rfl rfl ?_
        refine geX7_2 (q := 36) C (s70 hG) flX7_19 dX7_check_33 rfl ?_
        refine s_Vv (q := 39) (As := []) (st := []) C (uX6_passDay l G hG V3 (0 + 61) (qX7_2 hG (s70 hG))) yvX6_passDay mlX7_206 (qX7_2 hG (s70 hG)) rfl rfl rfl rfl rfl rfl (gR_le (by decide) (by decide)) (Nat.le_of_ble_eq_true rfl) dX7_check_36 rfl (fun V7 => ?_)
        refine s_aload_n (q := 40) C 0 dX7_check_39 rfl rfl rfl ?_
        refine geX7_2 (q := 43) C (s70 hG) flX7_19 dX7_check_40 rfl ?_
        refine geX6_7 (q := 46) C (qX7_2 hG (s70 hG)) flX7_320 dX7_check_43 rfl ?_
        refine s_iload_n (q := 47) C 1 dX7_check_46 rfl rfl rfl ?_
        refine s_Si (q := 50) (As := [.ref (G.1 ((0 + 61) + 13)), .int x4]) (st := []) C (uX7_at l G hG V7 ((0 + 61) + 13) 20 x4 (qX6_7 hG (qX7_2 hG (s70 hG)))) ysX7_at mlX7_266 rfl rfl rfl rfl (gR_le (by decide) (by decide)) (Nat.le_of_ble_eq_true rfl) dX7_check_47 rfl (fun x8 V9 => ?_)
        refine s_aload_n (q := 51) C 0 dX7_check_50 rfl rfl rfl ?_
        refine geX7_2 (q := 54) C (s70 hG) flX7_19 dX7_check_51 rfl ?_
        refine s_Vi (q := 57) (As := []) (st := [.int x8]) C (uX6_goneCakes l G hG V9 (0 + 61) (qX7_2 hG (s70 hG))) yvX6_goneCakes mlX7_200 (qX7_2 hG (s70 hG)) rfl rfl rfl rfl rfl rfl (gR_le (by decide) (by decide)) (Nat.le_of_ble_eq_true rfl) dX7_check_54 rfl (fun x10 V11 => ?_)
        refine s_icmp_eq (tgt := 64) (q := 60) C dX7_check_57 (by decide) rfl (fun c12 => ?_) (fun c12 => ?_)
        · refine s_iinc (q := 67) (w := 1) (L' := [(1, .int (x4 + 1)), (0, .ref (G.1 0))]) C 1 dX7_check_64 rfl rfl (by decide) rfl (by decide) rfl ?_
          refine s_goto (q := 21) C dX7_check_67 (by decide) ?_
          refine s_sub [1, 0] rfl ?_
          exact hB5 V11 ((x4 + 1))
        · refine s_iconst (q := 61) (v := 1) C dX7_check_60 rfl (by decide) ?_
          refine s_iload_n (q := 62) C 1 dX7_check_61 rfl rfl rfl ?_
          refine s_iadd (q := 63) C dX7_check_62 rfl ?_
          exact s_iret C E dX7_check_63
  refine s_sub [1, 0] rfl ?_
  exact hL1 gFu V2 0
noncomputable def fX7_count (V : gV) (a1 : Int32) : Option (Int32 × gV) := if a1 = 0 then (some ((V (0 + 1) 8), V)) else (if a1 = 1 then (some ((V (0 + 1) 9), V)) else (if a1 = 2 then (some ((V (0 + 1) 12), V)) else (if a1 = 3 then (gbi (fX6_goneCakes V (0 + 1)) fun (x5 : Int32) (V6 : gV) => some (x5, V6)) else (if a1 = 4 then (gbi (fX6_allHands V (0 + 1)) fun (x8 : Int32) (V9 : gV) => some (x8, V9)) else (if a1 = 5 then (gbi (fX6_allWorn V (0 + 1)) fun (x11 : Int32) (V12 : gV) => some (x11, V12)) else (if a1 = 6 then (some ((V (0 + 1) 10), V)) else (if a1 = 7 then (some ((V (0 + 1) 11), V)) else (if a1 = 8 then (some ((V (0 + 97) 1), V)) else (if a1 = 9 then (some ((V (0 + 1) 13), V)) else (gbi (fX7_error V 1) fun (x17 : Int32) (V18 : gV) => some (x17, V18)))))))))))
set_option maxHeartbeats 4000000 in
set_option maxRecDepth 100000 in
theorem uX7_count (l : Launch) (G : gG) (hG : gIsX G) (V : gV) (a1 : Int32) : gMi l G yX7_count cX7_count 2 Jvm.ClassFile.FieldType.int (gR 3 62) [.ref (G.1 0), .int a1] V (fX7_count V a1) := by
  unfold fX7_count
  refine gM_i (by decide +kernel) rfl rfl (Nat.le_of_ble_eq_true rfl) (fun X rr VV C E => ?_)
  change gC cX7_count 2 RX7 G X at C
  change gSm l (gR 3 62) 2 G X _ (rr, VV) V 0 [(0, .ref (G.1 0)), (1, .int a1)] []
  refine s_iload_n (q := 1) C 1 dX7_count_0 rfl rfl rfl ?_
  refine s_case (fun c1 => ?_) (fun c1 => ?_)
  · refine s_tin (q := 56) (off := 55) (c := 0) C c1 dX7_count_1 (by decide) (by decide) (by decide) (by decide) ?_
    refine s_aload_n (q := 57) C 0 dX7_count_56 rfl rfl rfl ?_
    refine geX7_0 (q := 60) C (s70 hG) flX7_10 dX7_count_57 rfl ?_
    refine geX6_8 (q := 63) C (qX7_0 hG (s70 hG)) flX7_62 dX7_count_60 rfl ?_
    exact s_iret C E dX7_count_63
  · refine s_case (fun c2 => ?_) (fun c2 => ?_)
    · refine s_tin (q := 64) (off := 63) (c := 1) C c2 dX7_count_1 (by decide) (by decide) (by decide) (by decide) ?_
      refine s_aload_n (q := 65) C 0 dX7_count_64 rfl rfl rfl ?_
      refine geX7_0 (q := 68) C (s70 hG) flX7_10 dX7_count_65 rfl ?_
      refine geX6_9 (q := 71) C (qX7_0 hG (s70 hG)) flX7_91 dX7_count_68 rfl ?_
      exact s_iret C E dX7_count_71
    · refine s_case (fun c3 => ?_) (fun c3 => ?_)
      · refine s_tin (q := 72) (off := 71) (c := 2) C c3 dX7_count_1 (by decide) (by decide) (by decide) (by decide) ?_
        refine s_aload_n (q := 73) C 0 dX7_count_72 rfl rfl rfl ?_
        refine geX7_0 (q := 76) C (s70 hG) flX7_10 dX7_count_73 rfl ?_
        refine geX6_12 (q := 79) C (qX7_0 hG (s70 hG)) flX7_194 dX7_count_76 rfl ?_
        exact s_iret C E dX7_count_79
      · refine s_case (fun c4 => ?_) (fun c4 => ?_)
        · refine s_tin (q := 80) (off := 79) (c := 3) C c4 dX7_count_1 (by decide) (by decide) (by decide) (by decide) ?_
          refine s_aload_n (q := 81) C 0 dX7_count_80 rfl rfl rfl ?_
          refine geX7_0 (q := 84) C (s70 hG) flX7_10 dX7_count_81 rfl ?_
          refine s_Vi (q := 87) (As := []) (st := []) C (uX6_goneCakes l G hG V (0 + 1) (qX7_0 hG (s70 hG))) yvX6_goneCakes mlX7_200 (qX7_0 hG (s70 hG)) rfl rfl rfl rfl rfl rfl (gR_le (by decide) (by decide)) (Nat.le_of_ble_eq_true rfl) dX7_count_84 rfl (fun x5 V6 => ?_)
          exact s_iret C E dX7_count_87
        · refine s_case (fun c7 => ?_) (fun c7 => ?_)
          · refine s_tin (q := 88) (off := 87) (c := 4) C c7 dX7_count_1 (by decide) (by decide) (by decide) (by decide) ?_
            refine s_aload_n (q := 89) C 0 dX7_count_88 rfl rfl rfl ?_
            refine geX7_0 (q := 92) C (s70 hG) flX7_10 dX7_count_89 rfl ?_
            refine s_Vi (q := 95) (As := []) (st := []) C (uX6_allHands l G hG V (0 + 1) (qX7_0 hG (s70 hG))) yvX6_allHands mlX7_323 (qX7_0 hG (s70 hG)) rfl rfl rfl rfl rfl rfl (gR_le (by decide) (by decide)) (Nat.le_of_ble_eq_true rfl) dX7_count_92 rfl (fun x8 V9 => ?_)
            exact s_iret C E dX7_count_95
          · refine s_case (fun c10 => ?_) (fun c10 => ?_)
            · refine s_tin (q := 96) (off := 95) (c := 5) C c10 dX7_count_1 (by decide) (by decide) (by decide) (by decide) ?_
              refine s_aload_n (q := 97) C 0 dX7_count_96 rfl rfl rfl ?_
              refine geX7_0 (q := 100) C (s70 hG) flX7_10 dX7_count_97 rfl ?_
              refine s_Vi (q := 103) (As := []) (st := []) C (uX6_allWorn l G hG V (0 + 1) (qX7_0 hG (s70 hG))) yvX6_allWorn mlX7_326 (qX7_0 hG (s70 hG)) rfl rfl rfl rfl rfl rfl (gR_le (by decide) (by decide)) (Nat.le_of_ble_eq_true rfl) dX7_count_100 rfl (fun x11 V12 => ?_)
              exact s_iret C E dX7_count_103
            · refine s_case (fun c13 => ?_) (fun c13 => ?_)
              · refine s_tin (q := 104) (off := 103) (c := 6) C c13 dX7_count_1 (by decide) (by decide) (by decide) (by decide) ?_
                refine s_aload_n (q := 105) C 0 dX7_count_104 rfl rfl rfl ?_
                refine geX7_0 (q := 108) C (s70 hG) flX7_10 dX7_count_105 rfl ?_
                refine geX6_10 (q := 111) C (qX7_0 hG (s70 hG)) flX7_156 dX7_count_108 rfl ?_
                exact s_iret C E dX7_count_111
              · refine s_case (fun c14 => ?_) (fun c14 => ?_)
                · refine s_tin (q := 112) (off := 111) (c := 7) C c14 dX7_count_1 (by decide) (by decide) (by decide) (by decide) ?_
                  refine s_aload_n (q := 113) C 0 dX7_count_112 rfl rfl rfl ?_
                  refine geX7_0 (q := 116) C (s70 hG) flX7_10 dX7_count_113 rfl ?_
                  refine geX6_11 (q := 119) C (qX7_0 hG (s70 hG)) flX7_317 dX7_count_116 rfl ?_
                  exact s_iret C E dX7_count_119
                · refine s_case (fun c15 => ?_) (fun c15 => ?_)
                  · refine s_tin (q := 120) (off := 119) (c := 8) C c15 dX7_count_1 (by decide) (by decide) (by decide) (by decide) ?_
                    refine s_aload_n (q := 121) C 0 dX7_count_120 rfl rfl rfl ?_
                    refine geX7_4 (q := 124) C (s70 hG) flX7_32 dX7_count_121 rfl ?_
                    refine geX5_1 (q := 127) C (qX7_4 hG (s70 hG)) flX7_284 dX7_count_124 rfl ?_
                    exact s_iret C E dX7_count_127
                  · refine s_case (fun c16 => ?_) (fun c16 => ?_)
                    · refine s_tin (q := 128) (off := 127) (c := 9) C c16 dX7_count_1 (by decide) (by decide) (by decide) (by decide) ?_
                      refine s_aload_n (q := 129) C 0 dX7_count_128 rfl rfl rfl ?_
                      refine geX7_0 (q := 132) C (s70 hG) flX7_10 dX7_count_129 rfl ?_
                      refine geX6_13 (q := 135) C (qX7_0 hG (s70 hG)) flX7_277 dX7_count_132 rfl ?_
                      exact s_iret C E dX7_count_135
                    · refine s_tout (q := 136) C dX7_count_1 (by have zc1 := lv_neT (k := 0) (a := 0) c1 (by decide); have zc2 := lv_neT (k := 1) (a := 1) c2 (by decide); have zc3 := lv_neT (k := 2) (a := 2) c3 (by decide); have zc4 := lv_neT (k := 3) (a := 3) c4 (by decide); have zc7 := lv_neT (k := 4) (a := 4) c7 (by decide); have zc10 := lv_neT (k := 5) (a := 5) c10 (by decide); have zc13 := lv_neT (k := 6) (a := 6) c13 (by decide); have zc14 := lv_neT (k := 7) (a := 7) c14 (by decide); have zc15 := lv_neT (k := 8) (a := 8) c15 (by decide); have zc16 := lv_neT (k := 9) (a := 9) c16 (by decide); omega) (by decide) ?_
                      refine s_aload_n (q := 137) C 0 dX7_count_136 rfl rfl rfl ?_
                      refine s_iconst (q := 138) (v := 1) C dX7_count_137 rfl (by decide) ?_
                      refine s_Vi (q := 141) (As := [.int 1]) (st := []) C (uX7_error l G hG V 1) yvX7_error mlX7_58 (s70 hG) rfl rfl rfl rfl rfl rfl (gR_le (by decide) (by decide)) (Nat.le_of_ble_eq_true rfl) dX7_count_138 rfl (fun x17 V18 => ?_)
                      exact s_iret C E dX7_count_141
noncomputable def fX7_told (V : gV) (a1 : Int32) : Option (Int32 × gV) := gbi (fX7_within V a1 1 5) fun (x1 : Int32) (V2 : gV) => if x1 = 0 then (gbi (fX7_error V2 1) fun (x4 : Int32) (V5 : gV) => some (x4, V5)) else (gbi (fX7_at V2 (0 + 103) 6 a1) fun (x6 : Int32) (V7 : gV) => some (x6, V7))
set_option maxHeartbeats 4000000 in
set_option maxRecDepth 100000 in
theorem uX7_told (l : Launch) (G : gG) (hG : gIsX G) (V : gV) (a1 : Int32) : gMi l G yX7_told cX7_told 2 Jvm.ClassFile.FieldType.int (gR 2 43) [.ref (G.1 0), .int a1] V (fX7_told V a1) := by
  unfold fX7_told
  refine gM_i (by decide +kernel) rfl rfl (Nat.le_of_ble_eq_true rfl) (fun X rr VV C E => ?_)
  change gC cX7_told 2 RX7 G X at C
  change gSm l (gR 2 43) 2 G X _ (rr, VV) V 0 [(0, .ref (G.1 0)), (1, .int a1)] []
  refine s_iload_n (q := 1) C 1 dX7_told_0 rfl rfl rfl ?_
  refine s_iconst (q := 2) (v := 1) C dX7_told_1 rfl (by decide) ?_
  refine s_iconst (q := 3) (v := 5) C dX7_told_2 rfl (by decide) ?_
  refine s_Si (q := 6) (As := [.int a1, .int 1, .int 5]) (st := []) C (uX7_within l G hG V a1 1 5) ysX7_within mlX7_54 rfl rfl rfl rfl (gR_le (by decide) (by decide)) (Nat.le_of_ble_eq_true rfl) dX7_told_3 rfl (fun x1 V2 => ?_)
  refine s_if_eq (tgt := 20) (q := 9) C dX7_told_6 (by decide) rfl (fun c3 => ?_) (fun c3 => ?_)
  · refine s_aload_n (q := 21) C 0 dX7_told_20 rfl rfl rfl ?_
    refine s_iconst (q := 22) (v := 1) C dX7_told_21 rfl (by decide) ?_
    refine s_Vi (q := 25) (As := [.int 1]) (st := []) C (uX7_error l G hG V2 1) yvX7_error mlX7_58 (s70 hG) rfl rfl rfl rfl rfl rfl (gR_le (by decide) (by decide)) (Nat.le_of_ble_eq_true rfl) dX7_told_22 rfl (fun x4 V5 => ?_)
    exact s_iret C E dX7_told_25
  · refine s_aload_n (q := 10) C 0 dX7_told_9 rfl rfl rfl ?_
    refine geX7_8 (q := 13) C (s70 hG) flX7_51 dX7_told_10 rfl ?_
    refine s_iload_n (q := 14) C 1 dX7_told_13 rfl rfl rfl ?_
    refine s_Si (q := 17) (As := [.ref (G.1 (0 + 103)), .int a1]) (st := []) C (uX7_at l G hG V2 (0 + 103) 6 a1 (qX7_8 hG (s70 hG))) ysX7_at mlX7_266 rfl rfl rfl rfl (gR_le (by decide) (by decide)) (Nat.le_of_ble_eq_true rfl) dX7_told_14 rfl (fun x6 V7 => ?_)
    refine s_goto (q := 25) C dX7_told_17 (by decide) ?_
    exact s_iret C E dX7_told_25

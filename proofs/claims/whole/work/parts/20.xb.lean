noncomputable def fX3_hasPart (V : gV) (c0 : Nat) (a1 : Int32) (a2 : Int32) : Option (Int32 × gV) := if a2 < 0 then (some (0, V)) else (if a1 < 0 then (some (0, V)) else (if ((V c0 2) - a1) < a2 then (some (0, V)) else (some (1, V))))
set_option maxHeartbeats 4000000 in
set_option maxRecDepth 100000 in
theorem uX3_hasPart (l : Launch) (G : gG) (hG : gIsX G) (V : gV) (c0 : Nat) (a1 : Int32) (a2 : Int32) (hs0 : G.2.2.1 c0 = kX3 c0) : gMi l G yX3_hasPart cX3_hasPart 3 Jvm.ClassFile.FieldType.boolean (gR 0 0) [.ref (G.1 c0), .int a1, .int a2] V (fX3_hasPart V c0 a1 a2) := by
  unfold fX3_hasPart
  refine gM_i (by decide +kernel) rfl rfl (Nat.le_of_ble_eq_true rfl) (fun X rr VV C E => ?_)
  change gC cX3_hasPart 3 RX3 G X at C
  change gSm l (gR 0 0) 3 G X _ (rr, VV) V 0 [(0, .ref (G.1 c0)), (1, .int a1), (2, .int a2)] []
  refine s_iload_n (q := 1) C 2 dX3_hasPart_0 rfl rfl rfl ?_
  refine s_if_lt (tgt := 22) (q := 4) C dX3_hasPart_1 (by decide) rfl (fun c1 => ?_) (fun c1 => ?_)
  · refine s_iconst (q := 23) (v := 0) C dX3_hasPart_22 rfl (by decide) ?_
    exact s_zret C E rfl dX3_hasPart_23
  · refine s_iload_n (q := 5) C 1 dX3_hasPart_4 rfl rfl rfl ?_
    refine s_if_lt (tgt := 22) (q := 8) C dX3_hasPart_5 (by decide) rfl (fun c2 => ?_) (fun c2 => ?_)
    · refine s_iconst (q := 23) (v := 0) C dX3_hasPart_22 rfl (by decide) ?_
      exact s_zret C E rfl dX3_hasPart_23
    · refine s_iload_n (q := 9) C 2 dX3_hasPart_8 rfl rfl rfl ?_
      refine s_aload_n (q := 10) C 0 dX3_hasPart_9 rfl rfl rfl ?_
      refine geX3_2 (q := 13) C hs0 flX3_19 dX3_hasPart_10 rfl ?_
      refine s_iload_n (q := 14) C 1 dX3_hasPart_13 rfl rfl rfl ?_
      refine s_isub (q := 15) C dX3_hasPart_14 rfl ?_
      refine s_icmp_gt (tgt := 22) (q := 18) C dX3_hasPart_15 (by decide) rfl (fun c3 => ?_) (fun c3 => ?_)
      · refine s_iconst (q := 23) (v := 0) C dX3_hasPart_22 rfl (by decide) ?_
        exact s_zret C E rfl dX3_hasPart_23
      · refine s_iconst (q := 19) (v := 1) C dX3_hasPart_18 rfl (by decide) ?_
        refine s_goto (q := 23) C dX3_hasPart_19 (by decide) ?_
        exact s_zret C E rfl dX3_hasPart_23
noncomputable def fX3_numberAt (V : gV) (c0 : Nat) (a1 : Int32) : Option (Int32 × gV) := gbi (fX7_at V (c0 + 1) 40 a1) fun (x1 : Int32) (V2 : gV) => some (x1, V2)
set_option maxHeartbeats 4000000 in
set_option maxRecDepth 100000 in
theorem uX3_numberAt (l : Launch) (G : gG) (hG : gIsX G) (V : gV) (c0 : Nat) (a1 : Int32) (hs0 : G.2.2.1 c0 = kX3 c0) : gMi l G yX3_numberAt cX3_numberAt 2 Jvm.ClassFile.FieldType.int (gR 1 21) [.ref (G.1 c0), .int a1] V (fX3_numberAt V c0 a1) := by
  unfold fX3_numberAt
  refine gM_i (by decide +kernel) rfl rfl (Nat.le_of_ble_eq_true rfl) (fun X rr VV C E => ?_)
  change gC cX3_numberAt 2 RX3 G X at C
  change gSm l (gR 1 21) 2 G X _ (rr, VV) V 0 [(0, .ref (G.1 c0)), (1, .int a1)] []
  refine s_aload_n (q := 1) C 0 dX3_numberAt_0 rfl rfl rfl ?_
  refine geX3_0 (q := 4) C hs0 flX3_9 dX3_numberAt_1 rfl ?_
  refine s_iload_n (q := 5) C 1 dX3_numberAt_4 rfl rfl rfl ?_
  refine s_Si (q := 8) (As := [.ref (G.1 (c0 + 1)), .int a1]) (st := []) C (uX7_at l G hG V (c0 + 1) 40 a1 (qX3_0 hG hs0)) ysX7_at mlX3_26 rfl rfl rfl rfl (gR_le (by decide) (by decide)) (Nat.le_of_ble_eq_true rfl) dX3_numberAt_5 rfl (fun x1 V2 => ?_)
  exact s_iret C E dX3_numberAt_8
noncomputable def fX3_setNumber (V : gV) (c0 : Nat) (a1 : Int32) (a2 : Int32) : Option gV := if (V c0 1) = 8 then (gbv (fX7_setAt V (c0 + 1) 40 a1 (a2).toInt8.toInt32) fun (V5 : gV) => some V5) else (if (V c0 1) = 16 then (gbv (fX7_setAt V (c0 + 1) 40 a1 (a2).toInt16.toInt32) fun (V4 : gV) => some V4) else (gbv (fX7_setAt V (c0 + 1) 40 a1 a2) fun (V3 : gV) => some V3))
set_option maxHeartbeats 4000000 in
set_option maxRecDepth 100000 in
theorem uX3_setNumber (l : Launch) (G : gG) (hG : gIsX G) (V : gV) (c0 : Nat) (a1 : Int32) (a2 : Int32) (hs0 : G.2.2.1 c0 = kX3 c0) : gMv l G yX3_setNumber cX3_setNumber 3 (gR 1 22) [.ref (G.1 c0), .int a1, .int a2] V (fX3_setNumber V c0 a1 a2) := by
  unfold fX3_setNumber
  refine gM_v (by decide +kernel) rfl rfl (Nat.le_of_ble_eq_true rfl) (fun X VV C E => ?_)
  change gC cX3_setNumber 3 RX3 G X at C
  change gSm l (gR 1 22) 3 G X _ VV V 0 [(0, .ref (G.1 c0)), (1, .int a1), (2, .int a2)] []
  refine s_aload_n (q := 1) C 0 dX3_setNumber_0 rfl rfl rfl ?_
  refine geX3_0 (q := 4) C hs0 flX3_9 dX3_setNumber_1 rfl ?_
  refine s_iload_n (q := 5) C 1 dX3_setNumber_4 rfl rfl rfl ?_
  refine s_aload_n (q := 6) C 0 dX3_setNumber_5 rfl rfl rfl ?_
  refine geX3_1 (q := 9) C hs0 flX3_15 dX3_setNumber_6 rfl ?_
  refine s_bipush (q := 11) (v := 8) C dX3_setNumber_9 rfl (by decide) ?_
  refine s_icmp_ne (tgt := 19) (q := 14) C dX3_setNumber_11 (by decide) rfl (fun c1 => ?_) (fun c1 => ?_)
  · refine s_iload_n (q := 15) C 2 dX3_setNumber_14 rfl rfl rfl ?_
    refine s_i2b (q := 16) C dX3_setNumber_15 rfl ?_
    refine s_goto (q := 34) C dX3_setNumber_16 (by decide) ?_
    refine s_Sv (q := 37) (As := [.ref (G.1 (c0 + 1)), .int a1, .int (a2).toInt8.toInt32]) (st := []) C (uX7_setAt l G hG V (c0 + 1) 40 a1 (a2).toInt8.toInt32 (qX3_0 hG hs0) (mX3_0 hG hs0)) ysX7_setAt mlX3_22 rfl rfl rfl rfl (gR_le (by decide) (by decide)) (Nat.le_of_ble_eq_true rfl) dX3_setNumber_34 rfl (fun V5 => ?_)
    exact s_vret C E dX3_setNumber_37
  · refine s_aload_n (q := 20) C 0 dX3_setNumber_19 rfl rfl rfl ?_
    refine geX3_1 (q := 23) C hs0 flX3_15 dX3_setNumber_20 rfl ?_
    refine s_bipush (q := 25) (v := 16) C dX3_setNumber_23 rfl (by decide) ?_
    refine s_icmp_ne (tgt := 33) (q := 28) C dX3_setNumber_25 (by decide) rfl (fun c2 => ?_) (fun c2 => ?_)
    · refine s_iload_n (q := 29) C 2 dX3_setNumber_28 rfl rfl rfl ?_
      refine s_i2s (q := 30) C dX3_setNumber_29 rfl ?_
      refine s_goto (q := 34) C dX3_setNumber_30 (by decide) ?_
      refine s_Sv (q := 37) (As := [.ref (G.1 (c0 + 1)), .int a1, .int (a2).toInt16.toInt32]) (st := []) C (uX7_setAt l G hG V (c0 + 1) 40 a1 (a2).toInt16.toInt32 (qX3_0 hG hs0) (mX3_0 hG hs0)) ysX7_setAt mlX3_22 rfl rfl rfl rfl (gR_le (by decide) (by decide)) (Nat.le_of_ble_eq_true rfl) dX3_setNumber_34 rfl (fun V4 => ?_)
      exact s_vret C E dX3_setNumber_37
    · refine s_iload_n (q := 34) C 2 dX3_setNumber_33 rfl rfl rfl ?_
      refine s_Sv (q := 37) (As := [.ref (G.1 (c0 + 1)), .int a1, .int a2]) (st := []) C (uX7_setAt l G hG V (c0 + 1) 40 a1 a2 (qX3_0 hG hs0) (mX3_0 hG hs0)) ysX7_setAt mlX3_22 rfl rfl rfl rfl (gR_le (by decide) (by decide)) (Nat.le_of_ble_eq_true rfl) dX3_setNumber_34 rfl (fun V3 => ?_)
      exact s_vret C E dX3_setNumber_37
noncomputable def fX4_isEmpty (V : gV) (c0 : Nat) : Option (Int32 × gV) := if (V c0 2) = 0 then (some (1, V)) else (some (0, V))
set_option maxHeartbeats 4000000 in
set_option maxRecDepth 100000 in
theorem uX4_isEmpty (l : Launch) (G : gG) (hG : gIsX G) (V : gV) (c0 : Nat) (hs0 : G.2.2.1 c0 = kX4 c0) : gMi l G yX4_isEmpty cX4_isEmpty 1 Jvm.ClassFile.FieldType.boolean (gR 0 0) [.ref (G.1 c0)] V (fX4_isEmpty V c0) := by
  unfold fX4_isEmpty
  refine gM_i (by decide +kernel) rfl rfl (Nat.le_of_ble_eq_true rfl) (fun X rr VV C E => ?_)
  change gC cX4_isEmpty 1 RX4 G X at C
  change gSm l (gR 0 0) 1 G X _ (rr, VV) V 0 [(0, .ref (G.1 c0))] []
  refine s_aload_n (q := 1) C 0 dX4_isEmpty_0 rfl rfl rfl ?_
  refine geX4_2 (q := 4) C hs0 flX4_18 dX4_isEmpty_1 rfl ?_
  refine s_if_ne (tgt := 11) (q := 7) C dX4_isEmpty_4 (by decide) rfl (fun c1 => ?_) (fun c1 => ?_)
  · refine s_iconst (q := 8) (v := 1) C dX4_isEmpty_7 rfl (by decide) ?_
    refine s_goto (q := 12) C dX4_isEmpty_8 (by decide) ?_
    exact s_zret C E rfl dX4_isEmpty_12
  · refine s_iconst (q := 12) (v := 0) C dX4_isEmpty_11 rfl (by decide) ?_
    exact s_zret C E rfl dX4_isEmpty_12
noncomputable def fX4_copyFrom (V : gV) (c0 : Nat) (c1 : Nat) : Option gV := gbv (fX7_copyRow V (c1 + 1) 50 (c0 + 1) 50) fun (V1 : gV) => gpu V1 c0 2 (V1 c1 2) fun (V2 : gV) => some V2
set_option maxHeartbeats 4000000 in
set_option maxRecDepth 100000 in
theorem uX4_copyFrom (l : Launch) (G : gG) (hG : gIsX G) (V : gV) (c0 : Nat) (c1 : Nat) (hs0 : G.2.2.1 c0 = kX4 c0) (hs1 : G.2.2.1 c1 = kX4 c1) : gMv l G yX4_copyFrom cX4_copyFrom 2 (gR 3 145) [.ref (G.1 c0), .ref (G.1 c1)] V (fX4_copyFrom V c0 c1) := by
  unfold fX4_copyFrom
  refine gM_v (by decide +kernel) rfl rfl (Nat.le_of_ble_eq_true rfl) (fun X VV C E => ?_)
  change gC cX4_copyFrom 2 RX4 G X at C
  change gSm l (gR 3 145) 2 G X _ VV V 0 [(0, .ref (G.1 c0)), (1, .ref (G.1 c1))] []
  refine s_aload_n (q := 1) C 1 dX4_copyFrom_0 rfl rfl rfl ?_
  refine geX4_0 (q := 4) C hs1 flX4_9 dX4_copyFrom_1 rfl ?_
  refine s_aload_n (q := 5) C 0 dX4_copyFrom_4 rfl rfl rfl ?_
  refine geX4_0 (q := 8) C hs0 flX4_9 dX4_copyFrom_5 rfl ?_
  refine s_Sv (q := 11) (As := [.ref (G.1 (c1 + 1)), .ref (G.1 (c0 + 1))]) (st := []) C (uX7_copyRow l G hG V (c1 + 1) 50 (c0 + 1) 50 (qX4_0 hG hs1) (qX4_0 hG hs0) (mX4_0 hG hs0)) ysX7_copyRow mlX4_26 rfl rfl rfl rfl (gR_le (by decide) (by decide)) (Nat.le_of_ble_eq_true rfl) dX4_copyFrom_8 rfl (fun V1 => ?_)
  refine s_aload_n (q := 12) C 0 dX4_copyFrom_11 rfl rfl rfl ?_
  refine s_aload_n (q := 13) C 1 dX4_copyFrom_12 rfl rfl rfl ?_
  refine geX4_2 (q := 16) C hs1 flX4_18 dX4_copyFrom_13 rfl ?_
  refine peX4_2 (q := 19) C hs0 flX4_18 dX4_copyFrom_16 rfl (fun V2 => ?_)
  exact s_vret C E dX4_copyFrom_19
noncomputable def fX4_joined (V : gV) (a0 : Int32) (a1 : Int32) (a2 : Int32) : Option (Int32 × gV) := if a0 = 38 then (if a1 = 0 then (some (0, V)) else (if a2 = 0 then (some (0, V)) else (some (1, V)))) else (if a0 = 42 then (some ((a1 * a2), V)) else (if a0 = 43 then (some ((a1 + a2), V)) else (if a0 = 45 then (some ((a1 - a2), V)) else (if a0 = 47 then (if a2 = 0 then (some (0, V)) else (gdv a2 <| some ((a1 / a2), V))) else (if a0 = 60 then (if a2 ≤ a1 then (some (0, V)) else (some (1, V))) else (if a0 = 61 then (if a1 = a2 then (some (1, V)) else (some (0, V))) else (if a0 = 62 then (if a1 ≤ a2 then (some (0, V)) else (some (1, V))) else (if a0 = 124 then (if a1 = 0 then (if a2 = 0 then (some (0, V)) else (some (1, V))) else (some (1, V))) else (if a2 = 0 then (some (0, V)) else (gdv a2 <| some ((grm a1 a2), V)))))))))))
set_option maxHeartbeats 4000000 in
set_option maxRecDepth 100000 in
theorem uX4_joined (l : Launch) (G : gG) (hG : gIsX G) (V : gV) (a0 : Int32) (a1 : Int32) (a2 : Int32) : gMi l G yX4_joined cX4_joined 3 Jvm.ClassFile.FieldType.int (gR 0 0) [.int a0, .int a1, .int a2] V (fX4_joined V a0 a1 a2) := by
  unfold fX4_joined
  refine gM_i (by decide +kernel) rfl rfl (Nat.le_of_ble_eq_true rfl) (fun X rr VV C E => ?_)
  change gC cX4_joined 3 RX4 G X at C
  change gSm l (gR 0 0) 3 G X _ (rr, VV) V 0 [(0, .int a0), (1, .int a1), (2, .int a2)] []
  refine s_iload_n (q := 1) C 0 dX4_joined_0 rfl rfl rfl ?_
  refine s_case (fun c1 => ?_) (fun c1 => ?_)
  · refine s_look (q := 98) (off := 97) C dX4_joined_1 (by decide) (by rw [c1]; decide) (by decide) ?_
    refine s_iload_n (q := 99) C 1 dX4_joined_98 rfl rfl rfl ?_
    refine s_if_eq (tgt := 110) (q := 102) C dX4_joined_99 (by decide) rfl (fun c2 => ?_) (fun c2 => ?_)
    · refine s_iconst (q := 111) (v := 0) C dX4_joined_110 rfl (by decide) ?_
      exact s_iret C E dX4_joined_111
    · refine s_iload_n (q := 103) C 2 dX4_joined_102 rfl rfl rfl ?_
      refine s_if_eq (tgt := 110) (q := 106) C dX4_joined_103 (by decide) rfl (fun c3 => ?_) (fun c3 => ?_)
      · refine s_iconst (q := 111) (v := 0) C dX4_joined_110 rfl (by decide) ?_
        exact s_iret C E dX4_joined_111
      · refine s_iconst (q := 107) (v := 1) C dX4_joined_106 rfl (by decide) ?_
        refine s_goto (q := 111) C dX4_joined_107 (by decide) ?_
        exact s_iret C E dX4_joined_111
  · refine s_case (fun c4 => ?_) (fun c4 => ?_)
    · refine s_look (q := 153) (off := 152) C dX4_joined_1 (by decide) (by rw [c4]; decide) (by decide) ?_
      refine s_iload_n (q := 154) C 1 dX4_joined_153 rfl rfl rfl ?_
      refine s_iload_n (q := 155) C 2 dX4_joined_154 rfl rfl rfl ?_
      refine s_imul (q := 156) C dX4_joined_155 rfl ?_
      exact s_iret C E dX4_joined_156
    · refine s_case (fun c5 => ?_) (fun c5 => ?_)
      · refine s_look (q := 145) (off := 144) C dX4_joined_1 (by decide) (by rw [c5]; decide) (by decide) ?_
        refine s_iload_n (q := 146) C 1 dX4_joined_145 rfl rfl rfl ?_
        refine s_iload_n (q := 147) C 2 dX4_joined_146 rfl rfl rfl ?_
        refine s_iadd (q := 148) C dX4_joined_147 rfl ?_
        exact s_iret C E dX4_joined_148
      · refine s_case (fun c6 => ?_) (fun c6 => ?_)
        · refine s_look (q := 149) (off := 148) C dX4_joined_1 (by decide) (by rw [c6]; decide) (by decide) ?_
          refine s_iload_n (q := 150) C 1 dX4_joined_149 rfl rfl rfl ?_
          refine s_iload_n (q := 151) C 2 dX4_joined_150 rfl rfl rfl ?_
          refine s_isub (q := 152) C dX4_joined_151 rfl ?_
          exact s_iret C E dX4_joined_152
        · refine s_case (fun c7 => ?_) (fun c7 => ?_)
          · refine s_look (q := 157) (off := 156) C dX4_joined_1 (by decide) (by rw [c7]; decide) (by decide) ?_
            refine s_iload_n (q := 158) C 2 dX4_joined_157 rfl rfl rfl ?_
            refine s_if_ne (tgt := 165) (q := 161) C dX4_joined_158 (by decide) rfl (fun c8 => ?_) (fun c8 => ?_)
            · refine s_iconst (q := 162) (v := 0) C dX4_joined_161 rfl (by decide) ?_
              refine s_goto (q := 168) C dX4_joined_162 (by decide) ?_
              exact s_iret C E dX4_joined_168
            · refine s_iload_n (q := 166) C 1 dX4_joined_165 rfl rfl rfl ?_
              refine s_iload_n (q := 167) C 2 dX4_joined_166 rfl rfl rfl ?_
              refine s_idiv (q := 168) C dX4_joined_167 rfl ?_
              exact s_iret C E dX4_joined_168
          · refine s_case (fun c9 => ?_) (fun c9 => ?_)
            · refine s_look (q := 112) (off := 111) C dX4_joined_1 (by decide) (by rw [c9]; decide) (by decide) ?_
              refine s_iload_n (q := 113) C 1 dX4_joined_112 rfl rfl rfl ?_
              refine s_iload_n (q := 114) C 2 dX4_joined_113 rfl rfl rfl ?_
              refine s_icmp_ge (tgt := 121) (q := 117) C dX4_joined_114 (by decide) rfl (fun c10 => ?_) (fun c10 => ?_)
              · refine s_iconst (q := 122) (v := 0) C dX4_joined_121 rfl (by decide) ?_
                exact s_iret C E dX4_joined_122
              · refine s_iconst (q := 118) (v := 1) C dX4_joined_117 rfl (by decide) ?_
                refine s_goto (q := 122) C dX4_joined_118 (by decide) ?_
                exact s_iret C E dX4_joined_122
            · refine s_case (fun c11 => ?_) (fun c11 => ?_)
              · refine s_look (q := 123) (off := 122) C dX4_joined_1 (by decide) (by rw [c11]; decide) (by decide) ?_
                refine s_iload_n (q := 124) C 1 dX4_joined_123 rfl rfl rfl ?_
                refine s_iload_n (q := 125) C 2 dX4_joined_124 rfl rfl rfl ?_
                refine s_icmp_ne (tgt := 132) (q := 128) C dX4_joined_125 (by decide) rfl (fun c12 => ?_) (fun c12 => ?_)
                · refine s_iconst (q := 129) (v := 1) C dX4_joined_128 rfl (by decide) ?_
                  refine s_goto (q := 133) C dX4_joined_129 (by decide) ?_
                  exact s_iret C E dX4_joined_133
                · refine s_iconst (q := 133) (v := 0) C dX4_joined_132 rfl (by decide) ?_
                  exact s_iret C E dX4_joined_133
              · refine s_case (fun c13 => ?_) (fun c13 => ?_)
                · refine s_look (q := 134) (off := 133) C dX4_joined_1 (by decide) (by rw [c13]; decide) (by decide) ?_
                  refine s_iload_n (q := 135) C 1 dX4_joined_134 rfl rfl rfl ?_
                  refine s_iload_n (q := 136) C 2 dX4_joined_135 rfl rfl rfl ?_
                  refine s_icmp_le (tgt := 143) (q := 139) C dX4_joined_136 (by decide) rfl (fun c14 => ?_) (fun c14 => ?_)
                  · refine s_iconst (q := 144) (v := 0) C dX4_joined_143 rfl (by decide) ?_
                    exact s_iret C E dX4_joined_144
                  · refine s_iconst (q := 140) (v := 1) C dX4_joined_139 rfl (by decide) ?_
                    refine s_goto (q := 144) C dX4_joined_140 (by decide) ?_
                    exact s_iret C E dX4_joined_144
                · refine s_case (fun c15 => ?_) (fun c15 => ?_)
                  · refine s_look (q := 84) (off := 83) C dX4_joined_1 (by decide) (by rw [c15]; decide) (by decide) ?_
                    refine s_iload_n (q := 85) C 1 dX4_joined_84 rfl rfl rfl ?_
                    refine s_if_ne (tgt := 92) (q := 88) C dX4_joined_85 (by decide) rfl (fun c16 => ?_) (fun c16 => ?_)
                    · refine s_iload_n (q := 89) C 2 dX4_joined_88 rfl rfl rfl ?_
                      refine s_if_eq (tgt := 96) (q := 92) C dX4_joined_89 (by decide) rfl (fun c17 => ?_) (fun c17 => ?_)
                      · refine s_iconst (q := 97) (v := 0) C dX4_joined_96 rfl (by decide) ?_
                        exact s_iret C E dX4_joined_97
                      · refine s_iconst (q := 93) (v := 1) C dX4_joined_92 rfl (by decide) ?_
                        refine s_goto (q := 97) C dX4_joined_93 (by decide) ?_
                        exact s_iret C E dX4_joined_97
                    · refine s_iconst (q := 93) (v := 1) C dX4_joined_92 rfl (by decide) ?_
                      refine s_goto (q := 97) C dX4_joined_93 (by decide) ?_
                      exact s_iret C E dX4_joined_97
                  · refine s_look (q := 169) (off := 168) C dX4_joined_1 (by decide) ((lv_osw c1 (by decide)).trans ((lv_osw c4 (by decide)).trans ((lv_osw c5 (by decide)).trans ((lv_osw c6 (by decide)).trans ((lv_osw c7 (by decide)).trans ((lv_osw c9 (by decide)).trans ((lv_osw c11 (by decide)).trans ((lv_osw c13 (by decide)).trans ((lv_osw c15 (by decide)).trans (rfl)))))))))) (by decide) ?_
                    refine s_iload_n (q := 170) C 2 dX4_joined_169 rfl rfl rfl ?_
                    refine s_if_ne (tgt := 177) (q := 173) C dX4_joined_170 (by decide) rfl (fun c18 => ?_) (fun c18 => ?_)
                    · refine s_iconst (q := 174) (v := 0) C dX4_joined_173 rfl (by decide) ?_
                      refine s_goto (q := 180) C dX4_joined_174 (by decide) ?_
                      exact s_iret C E dX4_joined_180
                    · refine s_iload_n (q := 178) C 1 dX4_joined_177 rfl rfl rfl ?_
                      refine s_iload_n (q := 179) C 2 dX4_joined_178 rfl rfl rfl ?_
                      refine s_irem (q := 180) C dX4_joined_179 rfl ?_
                      exact s_iret C E dX4_joined_180
noncomputable def fX4_valueWith_L1b (c0 : Nat) (a1 : Int32) (a2 : Int32) (a3 : Int32) (B4 : gV → Int32 → Int32 → Option (Int32 × gV)) (V1 : gV) (x2 : Int32) (x3 : Int32) : Option (Int32 × gV) := if (V1 c0 2) ≤ x3 then (gbi (fX7_at V1 (c0 + 2) 50 x2) fun (x6 : Int32) (V7 : gV) => some (x6, V7)) else (gbi (fX7_at V1 (c0 + 1) 50 x3) fun (x8 : Int32) (V9 : gV) => if x8 < (-3) then (if x8 = (-33) then (gbi (fX7_at V9 (c0 + 2) 50 x2) fun (x19 : Int32) (V20 : gV) => if x19 = 0 then (gbv (fX7_setAt V20 (c0 + 2) 50 x2 1) fun (V23 : gV) => B4 V23 x2 ((x3 + 1))) else (gbv (fX7_setAt V20 (c0 + 2) 50 x2 0) fun (V22 : gV) => B4 V22 x2 ((x3 + 1)))) else (gbi (fX7_at V9 (c0 + 2) 50 (x2 + (-1))) fun (x12 : Int32) (V13 : gV) => gbi (fX7_at V13 (c0 + 2) 50 ((x2 + (-1)) + 1)) fun (x14 : Int32) (V15 : gV) => gbi (fX4_joined V15 (-x8) x12 x14) fun (x16 : Int32) (V17 : gV) => gbv (fX7_setAt V17 (c0 + 2) 50 (x2 + (-1)) x16) fun (V18 : gV) => B4 V18 ((x2 + (-1))) ((x3 + 1)))) else (if x8 < 0 then (if x8 = (-1) then (gbv (fX7_setAt V9 (c0 + 2) 50 (x2 + 1) a1) fun (V29 : gV) => B4 V29 ((x2 + 1)) ((x3 + 1))) else (if x8 = (-2) then (gbv (fX7_setAt V9 (c0 + 2) 50 (x2 + 1) a2) fun (V28 : gV) => B4 V28 ((x2 + 1)) ((x3 + 1))) else (gbv (fX7_setAt V9 (c0 + 2) 50 (x2 + 1) a3) fun (V27 : gV) => B4 V27 ((x2 + 1)) ((x3 + 1))))) else (gbv (fX7_setAt V9 (c0 + 2) 50 (x2 + 1) x8) fun (V30 : gV) => B4 V30 ((x2 + 1)) ((x3 + 1)))))
noncomputable def fX4_valueWith_L1 (c0 : Nat) (a1 : Int32) (a2 : Int32) (a3 : Int32) : Nat → gV → Int32 → Int32 → Option (Int32 × gV)
  | 0 => fun _ _ _ => none
  | n + 1 => fX4_valueWith_L1b c0 a1 a2 a3 (fX4_valueWith_L1 c0 a1 a2 a3 n)
noncomputable def fX4_valueWith (V : gV) (c0 : Nat) (a1 : Int32) (a2 : Int32) (a3 : Int32) : Option (Int32 × gV) := fX4_valueWith_L1 c0 a1 a2 a3 gFu V (-1) 0
set_option maxHeartbeats 4000000 in
set_option maxRecDepth 100000 in
theorem uX4_valueWith (l : Launch) (G : gG) (hG : gIsX G) (V : gV) (c0 : Nat) (a1 : Int32) (a2 : Int32) (a3 : Int32) (hs0 : G.2.2.1 c0 = kX4 c0) : gMi l G yX4_valueWith cX4_valueWith 7 Jvm.ClassFile.FieldType.int (gR 1 22) [.ref (G.1 c0), .int a1, .int a2, .int a3] V (fX4_valueWith V c0 a1 a2 a3) := by
  unfold fX4_valueWith
  refine gM_i (by decide +kernel) rfl rfl (Nat.le_of_ble_eq_true rfl) (fun X rr VV C E => ?_)
  change gC cX4_valueWith 7 RX4 G X at C
  change gSm l (gR 1 22) 7 G X _ (rr, VV) V 0 [(0, .ref (G.1 c0)), (1, .int a1), (2, .int a2), (3, .int a3)] []
  refine s_iconst (q := 1) (v := (-1)) C dX4_valueWith_0 rfl (by decide) ?_
  refine s_istore (q := 3) (L' := [(4, .int (-1)), (0, .ref (G.1 c0)), (1, .int a1), (2, .int a2), (3, .int a3)]) C dX4_valueWith_1 rfl (by decide) rfl ?_
  refine s_iconst (q := 4) (v := 0) C dX4_valueWith_3 rfl (by decide) ?_
  refine s_istore (q := 6) (L' := [(5, .int 0), (4, .int (-1)), (0, .ref (G.1 c0)), (1, .int a1), (2, .int a2), (3, .int a3)]) C dX4_valueWith_4 rfl (by decide) rfl ?_
  have hL1 : ∀ (n : Nat) (V1 : gV) (x2 : Int32) (x3 : Int32), gSm l (gR 1 22) 7 G X (fX4_valueWith_L1 c0 a1 a2 a3 n V1 x2 x3) (rr, VV) V1 6 [(0, .ref (G.1 c0)), (1, .int a1), (2, .int a2), (3, .int a3), (4, .int x2), (5, .int x3)] [] := by
    intro n
    induction n with
    | zero => exact fun V1 x2 x3 => s_none
    | succ n ih =>
      intro V1 x2 x3
      show gSm l (gR 1 22) 7 G X (fX4_valueWith_L1b c0 a1 a2 a3 (fX4_valueWith_L1 c0 a1 a2 a3 n) V1 x2 x3) (rr, VV) V1 6 [(0, .ref (G.1 c0)), (1, .int a1), (2, .int a2), (3, .int a3), (4, .int x2), (5, .int x3)] []
      generalize fX4_valueWith_L1 c0 a1 a2 a3 n = B4 at ih ⊢
      have hB4 := ih
      unfold fX4_valueWith_L1b
      refine s_iload (q := 8) C 5 dX4_valueWith_6 rfl rfl ?_
      refine s_aload_n (q := 9) C 0 dX4_valueWith_8 rfl rfl rfl ?_
      refine geX4_2 (q := 12) C hs0 flX4_18 dX4_valueWith_9 rfl ?_
      refine s_icmp_ge (tgt := 160) (q := 15) C dX4_valueWith_12 (by decide) rfl (fun c5 => ?_) (fun c5 => ?_)
      · refine s_aload_n (q := 161) C 0 dX4_valueWith_160 rfl rfl rfl ?_
        refine geX4_1 (q := 164) C hs0 flX4_15 dX4_valueWith_161 rfl ?_
        refine s_iload (q := 166) C 4 dX4_valueWith_164 rfl rfl ?_
        refine s_Si (q := 169) (As := [.ref (G.1 (c0 + 2)), .int x2]) (st := []) C (uX7_at l G hG V1 (c0 + 2) 50 x2 (qX4_1 hG hs0)) ysX7_at mlX4_30 rfl rfl rfl rfl (gR_le (by decide) (by decide)) (Nat.le_of_ble_eq_true rfl) dX4_valueWith_166 rfl (fun x6 V7 => ?_)
        exact s_iret C E dX4_valueWith_169
      · refine s_aload_n (q := 16) C 0 dX4_valueWith_15 rfl rfl rfl ?_
        refine geX4_0 (q := 19) C hs0 flX4_9 dX4_valueWith_16 rfl ?_
        refine s_iload (q := 21) C 5 dX4_valueWith_19 rfl rfl ?_
        refine s_Si (q := 24) (As := [.ref (G.1 (c0 + 1)), .int x3]) (st := []) C (uX7_at l G hG V1 (c0 + 1) 50 x3 (qX4_0 hG hs0)) ysX7_at mlX4_30 rfl rfl rfl rfl (gR_le (by decide) (by decide)) (Nat.le_of_ble_eq_true rfl) dX4_valueWith_21 rfl (fun x8 V9 => ?_)
        refine s_istore (q := 26) (L' := [(6, .int x8), (0, .ref (G.1 c0)), (1, .int a1), (2, .int a2), (3, .int a3), (4, .int x2), (5, .int x3)]) C dX4_valueWith_24 rfl (by decide) rfl ?_
        refine s_iload (q := 28) C 0 dX4_valueWith_26 rfl rfl ?_
        refine s_bipush (q := 30) (v := (-3)) C dX4_valueWith_28 rfl (by decide) ?_
        refine s_icmp_lt (tgt := 80) (q := 33) C dX4_valueWith_30 (by decide) rfl (fun c10 => ?_) (fun c10 => ?_)
        · refine s_iload (q := 82) C 0 dX4_valueWith_80 rfl rfl ?_
          refine s_bipush (q := 84) (v := (-33)) C dX4_valueWith_82 rfl (by decide) ?_
          refine s_icmp_ne (tgt := 116) (q := 87) C dX4_valueWith_84 (by decide) rfl (fun c11 => ?_) (fun c11 => ?_)
          · refine s_aload_n (q := 88) C 1 dX4_valueWith_87 rfl rfl rfl ?_
            refine geX4_1 (q := 91) C hs0 flX4_15 dX4_valueWith_88 rfl ?_
            refine s_iload (q := 93) C 5 dX4_valueWith_91 rfl rfl ?_
            refine s_aload_n (q := 94) C 1 dX4_valueWith_93 rfl rfl rfl ?_
            refine geX4_1 (q := 97) C hs0 flX4_15 dX4_valueWith_94 rfl ?_
            refine s_iload (q := 99) C 5 dX4_valueWith_97 rfl rfl ?_
            refine s_Si (q := 102) (As := [.ref (G.1 (c0 + 2)), .int x2]) (st := [.int x2, .ref (G.1 (c0 + 2))]) C (uX7_at l G hG V9 (c0 + 2) 50 x2 (qX4_1 hG hs0)) ysX7_at mlX4_30 rfl rfl rfl rfl (gR_le (by decide) (by decide)) (Nat.le_of_ble_eq_true rfl) dX4_valueWith_99 rfl (fun x19 V20 => ?_)
            refine s_if_ne (tgt := 109) (q := 105) C dX4_valueWith_102 (by decide) rfl (fun c21 => ?_) (fun c21 => ?_)
            · refine s_iconst (q := 106) (v := 1) C dX4_valueWith_105 rfl (by decide) ?_
              refine s_goto (q := 110) C dX4_valueWith_106 (by decide) ?_
              refine s_Sv (q := 113) (As := [.ref (G.1 (c0 + 2)), .int x2, .int 1]) (st := []) C (uX7_setAt l G hG V20 (c0 + 2) 50 x2 1 (qX4_1 hG hs0) (mX4_1 hG hs0)) ysX7_setAt mlX4_22 rfl rfl rfl rfl (gR_le (by decide) (by decide)) (Nat.le_of_ble_eq_true rfl) dX4_valueWith_110 rfl (fun V23 => ?_)
              refine s_goto (q := 154) C dX4_valueWith_113 (by decide) ?_
              refine s_iinc (q := 157) (w := 1) (L' := [(5, .int (x3 + 1)), (6, .int x8), (0, .ref (G.1 c0)), (1, .int a1), (2, .int a2), (3, .int a3), (4, .int x2)]) C 6 dX4_valueWith_154 rfl rfl (by decide) rfl (by decide) rfl ?_
              refine s_goto (q := 6) C dX4_valueWith_157 (by decide) ?_
              refine s_sub [2, 3, 4, 5, 6, 0] rfl ?_
              exact hB4 V23 x2 ((x3 + 1))
            · refine s_iconst (q := 110) (v := 0) C dX4_valueWith_109 rfl (by decide) ?_
              refine s_Sv (q := 113) (As := [.ref (G.1 (c0 + 2)), .int x2, .int 0]) (st := []) C (uX7_setAt l G hG V20 (c0 + 2) 50 x2 0 (qX4_1 hG hs0) (mX4_1 hG hs0)) ysX7_setAt mlX4_22 rfl rfl rfl rfl (gR_le (by decide) (by decide)) (Nat.le_of_ble_eq_true rfl) dX4_valueWith_110 rfl (fun V22 => ?_)
              refine s_goto (q := 154) C dX4_valueWith_113 (by decide) ?_
              refine s_iinc (q := 157) (w := 1) (L' := [(5, .int (x3 + 1)), (6, .int x8), (0, .ref (G.1 c0)), (1, .int a1), (2, .int a2), (3, .int a3), (4, .int x2)]) C 6 dX4_valueWith_154 rfl rfl (by decide) rfl (by decide) rfl ?_
              refine s_goto (q := 6) C dX4_valueWith_157 (by decide) ?_
              refine s_sub [2, 3, 4, 5, 6, 0] rfl ?_
              exact hB4 V22 x2 ((x3 + 1))
          · refine s_iinc (q := 119) (w := (-1)) (L' := [(4, .int (x2 + (-1))), (6, .int x8), (0, .ref (G.1 c0)), (1, .int a1), (2, .int a2), (3, .int a3), (5, .int x3)]) C 5 dX4_valueWith_116 rfl rfl (by decide) rfl (by decide) rfl ?_
            refine s_aload_n (q := 120) C 2 dX4_valueWith_119 rfl rfl rfl ?_
            refine geX4_1 (q := 123) C hs0 flX4_15 dX4_valueWith_120 rfl ?_
            refine s_iload (q := 125) C 0 dX4_valueWith_123 rfl rfl ?_
            refine s_iload (q := 127) C 1 dX4_valueWith_125 rfl rfl ?_
            refine s_ineg (q := 128) C dX4_valueWith_127 rfl ?_
            refine s_aload_n (q := 129) C 2 dX4_valueWith_128 rfl rfl rfl ?_
            refine geX4_1 (q := 132) C hs0 flX4_15 dX4_valueWith_129 rfl ?_
            refine s_iload (q := 134) C 0 dX4_valueWith_132 rfl rfl ?_
            refine s_Si (q := 137) (As := [.ref (G.1 (c0 + 2)), .int (x2 + (-1))]) (st := [.int (-x8), .int (x2 + (-1)), .ref (G.1 (c0 + 2))]) C (uX7_at l G hG V9 (c0 + 2) 50 (x2 + (-1)) (qX4_1 hG hs0)) ysX7_at mlX4_30 rfl rfl rfl rfl (gR_le (by decide) (by decide)) (Nat.le_of_ble_eq_true rfl) dX4_valueWith_134 rfl (fun x12 V13 => ?_)
            refine s_aload_n (q := 138) C 2 dX4_valueWith_137 rfl rfl rfl ?_
            refine geX4_1 (q := 141) C hs0 flX4_15 dX4_valueWith_138 rfl ?_
            refine s_iload (q := 143) C 0 dX4_valueWith_141 rfl rfl ?_
            refine s_iconst (q := 144) (v := 1) C dX4_valueWith_143 rfl (by decide) ?_
            refine s_iadd (q := 145) C dX4_valueWith_144 rfl ?_
            refine s_Si (q := 148) (As := [.ref (G.1 (c0 + 2)), .int ((x2 + (-1)) + 1)]) (st := [.int x12, .int (-x8), .int (x2 + (-1)), .ref (G.1 (c0 + 2))]) C (uX7_at l G hG V13 (c0 + 2) 50 ((x2 + (-1)) + 1) (qX4_1 hG hs0)) ysX7_at mlX4_30 rfl rfl rfl rfl (gR_le (by decide) (by decide)) (Nat.le_of_ble_eq_true rfl) dX4_valueWith_145 rfl (fun x14 V15 => ?_)
            refine s_Si (q := 151) (As := [.int (-x8), .int x12, .int x14]) (st := [.int (x2 + (-1)), .ref (G.1 (c0 + 2))]) C (uX4_joined l G hG V15 (-x8) x12 x14) ysX4_joined mlX4_34 rfl rfl rfl rfl (gR_le (by decide) (by decide)) (Nat.le_of_ble_eq_true rfl) dX4_valueWith_148 rfl (fun x16 V17 => ?_)
            refine s_Sv (q := 154) (As := [.ref (G.1 (c0 + 2)), .int (x2 + (-1)), .int x16]) (st := []) C (uX7_setAt l G hG V17 (c0 + 2) 50 (x2 + (-1)) x16 (qX4_1 hG hs0) (mX4_1 hG hs0)) ysX7_setAt mlX4_22 rfl rfl rfl rfl (gR_le (by decide) (by decide)) (Nat.le_of_ble_eq_true rfl) dX4_valueWith_151 rfl (fun V18 => ?_)
            refine s_iinc (q := 157) (w := 1) (L' := [(5, .int (x3 + 1)), (4, .int (x2 + (-1))), (6, .int x8), (0, .ref (G.1 c0)), (1, .int a1), (2, .int a2), (3, .int a3)]) C 6 dX4_valueWith_154 rfl rfl (by decide) rfl (by decide) rfl ?_
            refine s_goto (q := 6) C dX4_valueWith_157 (by decide) ?_
            refine s_sub [3, 4, 5, 6, 1, 0] rfl ?_
            exact hB4 V18 ((x2 + (-1))) ((x3 + 1))
        · refine s_iinc (q := 36) (w := 1) (L' := [(4, .int (x2 + 1)), (6, .int x8), (0, .ref (G.1 c0)), (1, .int a1), (2, .int a2), (3, .int a3), (5, .int x3)]) C 5 dX4_valueWith_33 rfl rfl (by decide) rfl (by decide) rfl ?_
          refine s_aload_n (q := 37) C 2 dX4_valueWith_36 rfl rfl rfl ?_
          refine geX4_1 (q := 40) C hs0 flX4_15 dX4_valueWith_37 rfl ?_
          refine s_iload (q := 42) C 0 dX4_valueWith_40 rfl rfl ?_
          refine s_iload (q := 44) C 1 dX4_valueWith_42 rfl rfl ?_
          refine s_if_lt (tgt := 52) (q := 47) C dX4_valueWith_44 (by decide) rfl (fun c24 => ?_) (fun c24 => ?_)
          · refine s_iload (q := 54) C 1 dX4_valueWith_52 rfl rfl ?_
            refine s_iconst (q := 55) (v := (-1)) C dX4_valueWith_54 rfl (by decide) ?_
            refine s_icmp_ne (tgt := 62) (q := 58) C dX4_valueWith_55 (by decide) rfl (fun c25 => ?_) (fun c25 => ?_)
            · refine s_iload_n (q := 59) C 3 dX4_valueWith_58 rfl rfl rfl ?_
              refine s_goto (q := 74) C dX4_valueWith_59 (by decide) ?_
              refine s_Sv (q := 77) (As := [.ref (G.1 (c0 + 2)), .int (x2 + 1), .int a1]) (st := []) C (uX7_setAt l G hG V9 (c0 + 2) 50 (x2 + 1) a1 (qX4_1 hG hs0) (mX4_1 hG hs0)) ysX7_setAt mlX4_22 rfl rfl rfl rfl (gR_le (by decide) (by decide)) (Nat.le_of_ble_eq_true rfl) dX4_valueWith_74 rfl (fun V29 => ?_)
              refine s_goto (q := 154) C dX4_valueWith_77 (by decide) ?_
              refine s_iinc (q := 157) (w := 1) (L' := [(5, .int (x3 + 1)), (4, .int (x2 + 1)), (6, .int x8), (0, .ref (G.1 c0)), (1, .int a1), (2, .int a2), (3, .int a3)]) C 6 dX4_valueWith_154 rfl rfl (by decide) rfl (by decide) rfl ?_
              refine s_goto (q := 6) C dX4_valueWith_157 (by decide) ?_
              refine s_sub [3, 4, 5, 6, 1, 0] rfl ?_
              exact hB4 V29 ((x2 + 1)) ((x3 + 1))
            · refine s_iload (q := 64) C 1 dX4_valueWith_62 rfl rfl ?_
              refine s_bipush (q := 66) (v := (-2)) C dX4_valueWith_64 rfl (by decide) ?_
              refine s_icmp_ne (tgt := 73) (q := 69) C dX4_valueWith_66 (by decide) rfl (fun c26 => ?_) (fun c26 => ?_)
              · refine s_iload_n (q := 70) C 4 dX4_valueWith_69 rfl rfl rfl ?_
                refine s_goto (q := 74) C dX4_valueWith_70 (by decide) ?_
                refine s_Sv (q := 77) (As := [.ref (G.1 (c0 + 2)), .int (x2 + 1), .int a2]) (st := []) C (uX7_setAt l G hG V9 (c0 + 2) 50 (x2 + 1) a2 (qX4_1 hG hs0) (mX4_1 hG hs0)) ysX7_setAt mlX4_22 rfl rfl rfl rfl (gR_le (by decide) (by decide)) (Nat.le_of_ble_eq_true rfl) dX4_valueWith_74 rfl (fun V28 => ?_)
                refine s_goto (q := 154) C dX4_valueWith_77 (by decide) ?_
                refine s_iinc (q := 157) (w := 1) (L' := [(5, .int (x3 + 1)), (4, .int (x2 + 1)), (6, .int x8), (0, .ref (G.1 c0)), (1, .int a1), (2, .int a2), (3, .int a3)]) C 6 dX4_valueWith_154 rfl rfl (by decide) rfl (by decide) rfl ?_
                refine s_goto (q := 6) C dX4_valueWith_157 (by decide) ?_
                refine s_sub [3, 4, 5, 6, 1, 0] rfl ?_
                exact hB4 V28 ((x2 + 1)) ((x3 + 1))
              · refine s_iload_n (q := 74) C 5 dX4_valueWith_73 rfl rfl rfl ?_
                refine s_Sv (q := 77) (As := [.ref (G.1 (c0 + 2)), .int (x2 + 1), .int a3]) (st := []) C (uX7_setAt l G hG V9 (c0 + 2) 50 (x2 + 1) a3 (qX4_1 hG hs0) (mX4_1 hG hs0)) ysX7_setAt mlX4_22 rfl rfl rfl rfl (gR_le (by decide) (by decide)) (Nat.le_of_ble_eq_true rfl) dX4_valueWith_74 rfl (fun V27 => ?_)
                refine s_goto (q := 154) C dX4_valueWith_77 (by decide) ?_
                refine s_iinc (q := 157) (w := 1) (L' := [(5, .int (x3 + 1)), (4, .int (x2 + 1)), (6, .int x8), (0, .ref (G.1 c0)), (1, .int a1), (2, .int a2), (3, .int a3)]) C 6 dX4_valueWith_154 rfl rfl (by decide) rfl (by decide) rfl ?_
                refine s_goto (q := 6) C dX4_valueWith_157 (by decide) ?_
                refine s_sub [3, 4, 5, 6, 1, 0] rfl ?_
                exact hB4 V27 ((x2 + 1)) ((x3 + 1))
          · refine s_iload (q := 49) C 1 dX4_valueWith_47 rfl rfl ?_
            refine s_goto (q := 74) C dX4_valueWith_49 (by decide) ?_
            refine s_Sv (q := 77) (As := [.ref (G.1 (c0 + 2)), .int (x2 + 1), .int x8]) (st := []) C (uX7_setAt l G hG V9 (c0 + 2) 50 (x2 + 1) x8 (qX4_1 hG hs0) (mX4_1 hG hs0)) ysX7_setAt mlX4_22 rfl rfl rfl rfl (gR_le (by decide) (by decide)) (Nat.le_of_ble_eq_true rfl) dX4_valueWith_74 rfl (fun V30 => ?_)
            refine s_goto (q := 154) C dX4_valueWith_77 (by decide) ?_
            refine s_iinc (q := 157) (w := 1) (L' := [(5, .int (x3 + 1)), (4, .int (x2 + 1)), (6, .int x8), (0, .ref (G.1 c0)), (1, .int a1), (2, .int a2), (3, .int a3)]) C 6 dX4_valueWith_154 rfl rfl (by decide) rfl (by decide) rfl ?_
            refine s_goto (q := 6) C dX4_valueWith_157 (by decide) ?_
            refine s_sub [3, 4, 5, 6, 1, 0] rfl ?_
            exact hB4 V30 ((x2 + 1)) ((x3 + 1))
  refine s_sub [2, 3, 4, 5, 1, 0] rfl ?_
  exact hL1 gFu V (-1) 0
noncomputable def fX5_begin (V : gV) (c0 : Nat) (a1 : Int32) : Option gV := if 40 ≤ (V c0 1) then (some V) else (gbv (fX7_setAt V (c0 + 1) 40 (V c0 1) a1) fun (V2 : gV) => gpu V2 c0 1 ((V2 c0 1) + 1) fun (V3 : gV) => some V3)
set_option maxHeartbeats 4000000 in
set_option maxRecDepth 100000 in
theorem uX5_begin (l : Launch) (G : gG) (hG : gIsX G) (V : gV) (c0 : Nat) (a1 : Int32) (hs0 : G.2.2.1 c0 = kX5 c0) : gMv l G yX5_begin cX5_begin 2 (gR 1 22) [.ref (G.1 c0), .int a1] V (fX5_begin V c0 a1) := by
  unfold fX5_begin
  refine gM_v (by decide +kernel) rfl rfl (Nat.le_of_ble_eq_true rfl) (fun X VV C E => ?_)
  change gC cX5_begin 2 RX5 G X at C
  change gSm l (gR 1 22) 2 G X _ VV V 0 [(0, .ref (G.1 c0)), (1, .int a1)] []
  refine s_aload_n (q := 1) C 0 dX5_begin_0 rfl rfl rfl ?_
  refine geX5_1 (q := 4) C hs0 flX5_15 dX5_begin_1 rfl ?_
  refine s_bipush (q := 6) (v := 40) C dX5_begin_4 rfl (by decide) ?_
  refine s_icmp_ge (tgt := 31) (q := 9) C dX5_begin_6 (by decide) rfl (fun c1 => ?_) (fun c1 => ?_)
  · exact s_vret C E dX5_begin_31
  · refine s_aload_n (q := 10) C 0 dX5_begin_9 rfl rfl rfl ?_
    refine geX5_0 (q := 13) C hs0 flX5_9 dX5_begin_10 rfl ?_
    refine s_aload_n (q := 14) C 0 dX5_begin_13 rfl rfl rfl ?_
    refine geX5_1 (q := 17) C hs0 flX5_15 dX5_begin_14 rfl ?_
    refine s_iload_n (q := 18) C 1 dX5_begin_17 rfl rfl rfl ?_
    refine s_Sv (q := 21) (As := [.ref (G.1 (c0 + 1)), .int (V c0 1), .int a1]) (st := []) C (uX7_setAt l G hG V (c0 + 1) 40 (V c0 1) a1 (qX5_0 hG hs0) (mX5_0 hG hs0)) ysX7_setAt mlX5_46 rfl rfl rfl rfl (gR_le (by decide) (by decide)) (Nat.le_of_ble_eq_true rfl) dX5_begin_18 rfl (fun V2 => ?_)
    refine s_aload_n (q := 22) C 0 dX5_begin_21 rfl rfl rfl ?_
    refine s_dup (q := 23) C dX5_begin_22 rfl rfl ?_
    refine geX5_1 (q := 26) C hs0 flX5_15 dX5_begin_23 rfl ?_
    refine s_iconst (q := 27) (v := 1) C dX5_begin_26 rfl (by decide) ?_
    refine s_iadd (q := 28) C dX5_begin_27 rfl ?_
    refine peX5_1 (q := 31) C hs0 flX5_15 dX5_begin_28 rfl (fun V3 => ?_)
    exact s_vret C E dX5_begin_31
noncomputable def fX5_kindWithBody_L1b (a0 : Int32) (B4 : gV → Int32 → Int32 → Option (Int32 × gV)) (V1 : gV) (x2 : Int32) (x3 : Int32) : Option (Int32 × gV) := if 7 ≤ x3 then (some (x2, V1)) else (if x2 ≤ 0 then (some (x2, V1)) else (gbi (fX7_at V1 115 28 ((4 * x2) + a0)) fun (x7 : Int32) (V8 : gV) => if x7 = 0 then (gbi (fX7_at V8 112 7 x2) fun (x10 : Int32) (V11 : gV) => B4 V11 x10 ((x3 + 1))) else (some (x2, V8))))
noncomputable def fX5_kindWithBody_L1 (a0 : Int32) : Nat → gV → Int32 → Int32 → Option (Int32 × gV)
  | 0 => fun _ _ _ => none
  | n + 1 => fX5_kindWithBody_L1b a0 (fX5_kindWithBody_L1 a0 n)
noncomputable def fX5_kindWithBody (V : gV) (a0 : Int32) (a1 : Int32) : Option (Int32 × gV) := fX5_kindWithBody_L1 a0 gFu V a1 0
set_option maxHeartbeats 4000000 in
set_option maxRecDepth 100000 in
theorem uX5_kindWithBody (l : Launch) (G : gG) (hG : gIsX G) (V : gV) (a0 : Int32) (a1 : Int32) : gMi l G yX5_kindWithBody cX5_kindWithBody 4 Jvm.ClassFile.FieldType.int (gR 1 21) [.int a0, .int a1] V (fX5_kindWithBody V a0 a1) := by
  unfold fX5_kindWithBody
  refine gM_i (by decide +kernel) rfl rfl (Nat.le_of_ble_eq_true rfl) (fun X rr VV C E => ?_)
  change gC cX5_kindWithBody 4 RX5 G X at C
  change gSm l (gR 1 21) 4 G X _ (rr, VV) V 0 [(0, .int a0), (1, .int a1)] []
  refine s_iload_n (q := 1) C 1 dX5_kindWithBody_0 rfl rfl rfl ?_
  refine s_istore_n (q := 2) (L' := [(2, .int a1), (0, .int a0), (1, .int a1)]) C dX5_kindWithBody_1 rfl rfl (by decide) rfl ?_
  refine s_iconst (q := 3) (v := 0) C dX5_kindWithBody_2 rfl (by decide) ?_
  refine s_istore_n (q := 4) (L' := [(3, .int 0), (2, .int a1), (0, .int a0), (1, .int a1)]) C dX5_kindWithBody_3 rfl rfl (by decide) rfl ?_
  have hL1 : ∀ (n : Nat) (V1 : gV) (x2 : Int32) (x3 : Int32), gSm l (gR 1 21) 4 G X (fX5_kindWithBody_L1 a0 n V1 x2 x3) (rr, VV) V1 4 [(0, .int a0), (2, .int x2), (3, .int x3)] [] := by
    intro n
    induction n with
    | zero => exact fun V1 x2 x3 => s_none
    | succ n ih =>
      intro V1 x2 x3
      show gSm l (gR 1 21) 4 G X (fX5_kindWithBody_L1b a0 (fX5_kindWithBody_L1 a0 n) V1 x2 x3) (rr, VV) V1 4 [(0, .int a0), (2, .int x2), (3, .int x3)] []
      generalize fX5_kindWithBody_L1 a0 n = B4 at ih ⊢
      have hB4 := ih
      unfold fX5_kindWithBody_L1b
      refine s_iload_n (q := 5) C 2 dX5_kindWithBody_4 rfl rfl rfl ?_
      refine s_gets (q := 8) C (zX_112 hG) flX5_36 dX5_kindWithBody_5 rfl ?_
      refine s_alen (q := 9) (v := 7) C (zs_112 hG) (by decide) dX5_kindWithBody_8 rfl ?_
      refine s_icmp_ge (tgt := 44) (q := 12) C dX5_kindWithBody_9 (by decide) rfl (fun c5 => ?_) (fun c5 => ?_)
      · refine s_iload_n (q := 45) C 1 dX5_kindWithBody_44 rfl rfl rfl ?_
        exact s_iret C E dX5_kindWithBody_45
      · refine s_iload_n (q := 13) C 1 dX5_kindWithBody_12 rfl rfl rfl ?_
        refine s_if_le (tgt := 44) (q := 16) C dX5_kindWithBody_13 (by decide) rfl (fun c6 => ?_) (fun c6 => ?_)
        · refine s_iload_n (q := 45) C 1 dX5_kindWithBody_44 rfl rfl rfl ?_
          exact s_iret C E dX5_kindWithBody_45
        · refine s_gets (q := 19) C (zX_115 hG) flX5_39 dX5_kindWithBody_16 rfl ?_
          refine s_iconst (q := 20) (v := 4) C dX5_kindWithBody_19 rfl (by decide) ?_
          refine s_iload_n (q := 21) C 1 dX5_kindWithBody_20 rfl rfl rfl ?_
          refine s_imul (q := 22) C dX5_kindWithBody_21 rfl ?_
          refine s_iload_n (q := 23) C 0 dX5_kindWithBody_22 rfl rfl rfl ?_
          refine s_iadd (q := 24) C dX5_kindWithBody_23 rfl ?_
          refine s_Si (q := 27) (As := [.ref (G.1 115), .int ((4 * x2) + a0)]) (st := []) C (uX7_at l G hG V1 115 28 ((4 * x2) + a0) (zs_115 hG)) ysX7_at mlX5_42 rfl rfl rfl rfl (gR_le (by decide) (by decide)) (Nat.le_of_ble_eq_true rfl) dX5_kindWithBody_24 rfl (fun x7 V8 => ?_)
          refine s_if_ne (tgt := 44) (q := 30) C dX5_kindWithBody_27 (by decide) rfl (fun c9 => ?_) (fun c9 => ?_)
          · refine s_gets (q := 33) C (zX_112 hG) flX5_36 dX5_kindWithBody_30 rfl ?_
            refine s_iload_n (q := 34) C 1 dX5_kindWithBody_33 rfl rfl rfl ?_
            refine s_Si (q := 37) (As := [.ref (G.1 112), .int x2]) (st := []) C (uX7_at l G hG V8 112 7 x2 (zs_112 hG)) ysX7_at mlX5_42 rfl rfl rfl rfl (gR_le (by decide) (by decide)) (Nat.le_of_ble_eq_true rfl) dX5_kindWithBody_34 rfl (fun x10 V11 => ?_)
            refine s_istore_n (q := 38) (L' := [(2, .int x10), (0, .int a0), (3, .int x3)]) C dX5_kindWithBody_37 rfl rfl (by decide) rfl ?_
            refine s_iinc (q := 41) (w := 1) (L' := [(3, .int (x3 + 1)), (2, .int x10), (0, .int a0)]) C 2 dX5_kindWithBody_38 rfl rfl (by decide) rfl (by decide) rfl ?_
            refine s_goto (q := 4) C dX5_kindWithBody_41 (by decide) ?_
            refine s_sub [2, 1, 0] rfl ?_
            exact hB4 V11 x10 ((x3 + 1))
          · refine s_iload_n (q := 45) C 1 dX5_kindWithBody_44 rfl rfl rfl ?_
            exact s_iret C E dX5_kindWithBody_45
  refine s_sub [2, 1, 0] rfl ?_
  exact hL1 gFu V a1 0
noncomputable def fX5_said_B (rc : Nat → gV → Nat → Int32 → Int32 → Int32 → Int32 → Option (Int32 × gV)) (V : gV) (c0 : Nat) (a1 : Int32) (a2 : Int32) (a3 : Int32) (a4 : Int32) : Option (Int32 × gV) := if a4 ≤ 40 then (gbi (fX5_kindWithBody V a1 a2) fun (x2 : Int32) (V3 : gV) => gbi (fX7_at V3 112 7 x2) fun (x4 : Int32) (V5 : gV) => gbi (fX7_at V5 115 28 ((4 * x2) + a1)) fun (x6 : Int32) (V7 : gV) => glt (a4 + 1) fun (x8 : Int32) => gbv (fX5_begin V7 c0 x6) fun (V9 : gV) => if x6 = 10 then (some ((a3 + (V9 c0 2)), V9)) else (if x6 = 11 then (gbi (rc 0 V9 c0 0 (V9 c0 4) a3 x8) fun (x12 : Int32) (V13 : gV) => some ((x12 * 2), V13)) else (if x6 = 12 then (some ((a3 - (V9 c0 3)), V9)) else (if x6 = 13 then (gbi (rc 0 V9 c0 1 (V9 c0 4) a3 x8) fun (x16 : Int32) (V17 : gV) => gbi (rc 0 V17 c0 2 (V17 c0 4) a3 x8) fun (x18 : Int32) (V19 : gV) => some ((x16 ^^^ x18), V19)) else (if x6 = 20 then (gbi (rc 0 V9 c0 0 x4 a3 x8) fun (x21 : Int32) (V22 : gV) => some ((x21 * 3), V22)) else (if x6 = 30 then (gbi (rc 0 V9 c0 1 x4 a3 x8) fun (x24 : Int32) (V25 : gV) => gbi (rc 0 V25 c0 2 (V25 c0 4) 1 x8) fun (x26 : Int32) (V27 : gV) => some ((x24 - x26), V27)) else (if x6 = 40 then (gbi (rc 0 V9 c0 2 x4 a3 x8) fun (x29 : Int32) (V30 : gV) => some ((-x29), V30)) else (if x6 = 50 then (gbi (rc 0 V9 c0 3 x4 a3 x8) fun (x32 : Int32) (V33 : gV) => gbi (rc 0 V33 c0 0 (V33 c0 4) 2 x8) fun (x34 : Int32) (V35 : gV) => some ((x32 - x34), V35)) else (if x6 = 60 then (gbi (rc 0 V9 c0 1 x4 (a3 + 1) x8) fun (x37 : Int32) (V38 : gV) => some (x37, V38)) else (if x6 = 70 then (gbi (rc 0 V9 c0 2 x4 a3 x8) fun (x40 : Int32) (V41 : gV) => some ((x40 ^^^ (V41 c0 2)), V41)) else (if x6 = 71 then (gbi (rc 0 V9 c0 1 (V9 c0 4) a3 x8) fun (x43 : Int32) (V44 : gV) => gbi (rc 0 V44 c0 3 x4 a3 x8) fun (x45 : Int32) (V46 : gV) => some ((x43 - x45), V46)) else (some (0, V9))))))))))))) else (some (0, V))
noncomputable def fsaX5 : Nat → Nat → gV → Nat → Int32 → Int32 → Int32 → Int32 → Option (Int32 × gV)
  | 0 => fun _ _ _ _ _ _ _ => none
  | d + 1 => fun t V a0 a1 a2 a3 a4 => match t with
    | _ => fX5_said_B (fsaX5 d) V a0 a1 a2 a3 a4
set_option maxHeartbeats 8000000 in
set_option maxRecDepth 100000 in
theorem usaX5 (l : Launch) (G : gG) (hG : gIsX G) : ∀ (d : Nat), (∀ (V : gV) (c0 : Nat) (a1 : Int32) (a2 : Int32) (a3 : Int32) (a4 : Int32) (hs0 : G.2.2.1 c0 = kX5 c0), gMi l G yX5_said cX5_said 9 Jvm.ClassFile.FieldType.int (gR (2 + 1 * d) (44 + 28 * d)) [.ref (G.1 c0), .int a1, .int a2, .int a3, .int a4] V (fsaX5 d 0 V c0 a1 a2 a3 a4)) := by
  intro d
  induction d with
  | zero => exact by intros; intro _; intros; contradiction
  | succ d ih =>
    have hrc0 := ih
    intro V c0 a1 a2 a3 a4 hs0
    show gMi l G yX5_said cX5_said 9 Jvm.ClassFile.FieldType.int (gR (2 + 1 * (d + 1)) (44 + 28 * (d + 1))) [.ref (G.1 c0), .int a1, .int a2, .int a3, .int a4] V (fX5_said_B (fsaX5 d) V c0 a1 a2 a3 a4)
    generalize fsaX5 d = rc at hrc0 ⊢
    unfold fX5_said_B
    refine gM_i (by decide +kernel) rfl rfl (Nat.le_of_ble_eq_true rfl) (fun X rr VV C E => ?_)
    change gC cX5_said 9 RX5 G X at C
    change gSm l (gR (2 + 1 * (d + 1)) (44 + 28 * (d + 1))) 9 G X _ (rr, VV) V 0 [(0, .ref (G.1 c0)), (1, .int a1), (2, .int a2), (3, .int a3), (4, .int a4)] []
    refine s_iload (q := 2) C 4 dX5_said_0 rfl rfl ?_
    refine s_bipush (q := 4) (v := 40) C dX5_said_2 rfl (by decide) ?_
    refine s_icmp_le (tgt := 9) (q := 7) C dX5_said_4 (by decide) rfl (fun c1 => ?_) (fun c1 => ?_)
    · refine s_iload_n (q := 10) C 1 dX5_said_9 rfl rfl rfl ?_
      refine s_iload_n (q := 11) C 2 dX5_said_10 rfl rfl rfl ?_
      refine s_Si (q := 14) (As := [.int a1, .int a2]) (st := []) C (uX5_kindWithBody l G hG V a1 a2) ysX5_kindWithBody mlX5_50 rfl rfl rfl rfl (gR_le (by omega) (by omega)) (Nat.le_of_ble_eq_true rfl) dX5_said_11 rfl (fun x2 V3 => ?_)
      refine s_istore (q := 16) (L' := [(5, .int x2), (0, .ref (G.1 c0)), (1, .int a1), (2, .int a2), (3, .int a3), (4, .int a4)]) C dX5_said_14 rfl (by decide) rfl ?_
      refine s_gets (q := 19) C (zX_112 hG) flX5_36 dX5_said_16 rfl ?_
      refine s_iload (q := 21) C 0 dX5_said_19 rfl rfl ?_
      refine s_Si (q := 24) (As := [.ref (G.1 112), .int x2]) (st := []) C (uX7_at l G hG V3 112 7 x2 (zs_112 hG)) ysX7_at mlX5_42 rfl rfl rfl rfl (gR_le (by omega) (by omega)) (Nat.le_of_ble_eq_true rfl) dX5_said_21 rfl (fun x4 V5 => ?_)
      refine s_istore (q := 26) (L' := [(6, .int x4), (5, .int x2), (0, .ref (G.1 c0)), (1, .int a1), (2, .int a2), (3, .int a3), (4, .int a4)]) C dX5_said_24 rfl (by decide) rfl ?_
      refine s_gets (q := 29) C (zX_115 hG) flX5_39 dX5_said_26 rfl ?_
      refine s_iconst (q := 30) (v := 4) C dX5_said_29 rfl (by decide) ?_
      refine s_iload (q := 32) C 1 dX5_said_30 rfl rfl ?_
      refine s_imul (q := 33) C dX5_said_32 rfl ?_
      refine s_iload_n (q := 34) C 3 dX5_said_33 rfl rfl rfl ?_
      refine s_iadd (q := 35) C dX5_said_34 rfl ?_
      refine s_Si (q := 38) (As := [.ref (G.1 115), .int ((4 * x2) + a1)]) (st := []) C (uX7_at l G hG V5 115 28 ((4 * x2) + a1) (zs_115 hG)) ysX7_at mlX5_42 rfl rfl rfl rfl (gR_le (by omega) (by omega)) (Nat.le_of_ble_eq_true rfl) dX5_said_35 rfl (fun x6 V7 => ?_)
      refine s_istore (q := 40) (L' := [(7, .int x6), (6, .int x4), (5, .int x2), (0, .ref (G.1 c0)), (1, .int a1), (2, .int a2), (3, .int a3), (4, .int a4)]) C dX5_said_38 rfl (by decide) rfl ?_
      refine s_iload (q := 42) C 7 dX5_said_40 rfl rfl ?_
      refine s_iconst (q := 43) (v := 1) C dX5_said_42 rfl (by decide) ?_
      refine s_iadd (q := 44) C dX5_said_43 rfl ?_
      refine s_lt (fun x8 => ?_)
      refine s_istore (q := 46) (L' := [(8, .int x8), (7, .int x6), (6, .int x4), (5, .int x2), (0, .ref (G.1 c0)), (1, .int a1), (2, .int a2), (3, .int a3), (4, .int a4)]) C dX5_said_44 rfl (by decide) rfl ?_
      refine s_aload_n (q := 47) C 4 dX5_said_46 rfl rfl rfl ?_
      refine s_iload (q := 49) C 1 dX5_said_47 rfl rfl ?_
      refine s_Vv (q := 52) (As := [.int x6]) (st := []) C (uX5_begin l G hG V7 c0 x6 hs0) yvX5_begin mlX5_54 hs0 rfl rfl rfl rfl rfl rfl (gR_le (by omega) (by omega)) (Nat.le_of_ble_eq_true rfl) dX5_said_49 rfl (fun V9 => ?_)
      refine s_iload (q := 54) C 1 dX5_said_52 rfl rfl ?_
      refine s_case (fun c10 => ?_) (fun c10 => ?_)
      · refine s_look (q := 152) (off := 98) C dX5_said_54 (by decide) (by rw [c10]; decide) (by decide) ?_
        refine s_iload_n (q := 153) C 7 dX5_said_152 rfl rfl rfl ?_
        refine s_aload_n (q := 154) C 4 dX5_said_153 rfl rfl rfl ?_
        refine geX5_2 (q := 157) C hs0 flX5_19 dX5_said_154 rfl ?_
        refine s_iadd (q := 158) C dX5_said_157 rfl ?_
        exact s_iret C E dX5_said_158
      · refine s_case (fun c11 => ?_) (fun c11 => ?_)
        · refine s_look (q := 159) (off := 105) C dX5_said_54 (by decide) (by rw [c11]; decide) (by decide) ?_
          refine s_aload_n (q := 160) C 4 dX5_said_159 rfl rfl rfl ?_
          refine s_iconst (q := 161) (v := 0) C dX5_said_160 rfl (by decide) ?_
          refine s_aload_n (q := 162) C 4 dX5_said_161 rfl rfl rfl ?_
          refine geX5_4 (q := 165) C hs0 flX5_31 dX5_said_162 rfl ?_
          refine s_iload_n (q := 166) C 7 dX5_said_165 rfl rfl rfl ?_
          refine s_iload (q := 168) C 0 dX5_said_166 rfl rfl ?_
          refine s_Vi (q := 171) (As := [.int 0, .int (V9 c0 4), .int a3, .int x8]) (st := []) C (hrc0 V9 c0 0 (V9 c0 4) a3 x8 hs0) yvX5_said mlX5_32 hs0 rfl rfl rfl rfl rfl rfl (gR_le (by omega) (by omega)) (Nat.le_of_ble_eq_true rfl) dX5_said_168 rfl (fun x12 V13 => ?_)
          refine s_iconst (q := 172) (v := 2) C dX5_said_171 rfl (by decide) ?_
          refine s_imul (q := 173) C dX5_said_172 rfl ?_
          exact s_iret C E dX5_said_173
        · refine s_case (fun c14 => ?_) (fun c14 => ?_)
          · refine s_look (q := 174) (off := 120) C dX5_said_54 (by decide) (by rw [c14]; decide) (by decide) ?_
            refine s_iload_n (q := 175) C 7 dX5_said_174 rfl rfl rfl ?_
            refine s_aload_n (q := 176) C 4 dX5_said_175 rfl rfl rfl ?_
            refine geX5_3 (q := 179) C hs0 flX5_27 dX5_said_176 rfl ?_
            refine s_isub (q := 180) C dX5_said_179 rfl ?_
            exact s_iret C E dX5_said_180
          · refine s_case (fun c15 => ?_) (fun c15 => ?_)
            · refine s_look (q := 181) (off := 127) C dX5_said_54 (by decide) (by rw [c15]; decide) (by decide) ?_
              refine s_aload_n (q := 182) C 4 dX5_said_181 rfl rfl rfl ?_
              refine s_iconst (q := 183) (v := 1) C dX5_said_182 rfl (by decide) ?_
              refine s_aload_n (q := 184) C 4 dX5_said_183 rfl rfl rfl ?_
              refine geX5_4 (q := 187) C hs0 flX5_31 dX5_said_184 rfl ?_
              refine s_iload_n (q := 188) C 7 dX5_said_187 rfl rfl rfl ?_
              refine s_iload (q := 190) C 0 dX5_said_188 rfl rfl ?_
              refine s_Vi (q := 193) (As := [.int 1, .int (V9 c0 4), .int a3, .int x8]) (st := []) C (hrc0 V9 c0 1 (V9 c0 4) a3 x8 hs0) yvX5_said mlX5_32 hs0 rfl rfl rfl rfl rfl rfl (gR_le (by omega) (by omega)) (Nat.le_of_ble_eq_true rfl) dX5_said_190 rfl (fun x16 V17 => ?_)
              refine s_aload_n (q := 194) C 4 dX5_said_193 rfl rfl rfl ?_
              refine s_iconst (q := 195) (v := 2) C dX5_said_194 rfl (by decide) ?_
              refine s_aload_n (q := 196) C 4 dX5_said_195 rfl rfl rfl ?_
              refine geX5_4 (q := 199) C hs0 flX5_31 dX5_said_196 rfl ?_
              refine s_iload_n (q := 200) C 7 dX5_said_199 rfl rfl rfl ?_
              refine s_iload (q := 202) C 0 dX5_said_200 rfl rfl ?_
              refine s_Vi (q := 205) (As := [.int 2, .int (V17 c0 4), .int a3, .int x8]) (st := [.int x16]) C (hrc0 V17 c0 2 (V17 c0 4) a3 x8 hs0) yvX5_said mlX5_32 hs0 rfl rfl rfl rfl rfl rfl (gR_le (by omega) (by omega)) (Nat.le_of_ble_eq_true rfl) dX5_said_202 rfl (fun x18 V19 => ?_)
              refine s_ixor (q := 206) C dX5_said_205 rfl ?_
              exact s_iret C E dX5_said_206
            · refine s_case (fun c20 => ?_) (fun c20 => ?_)
              · refine s_look (q := 207) (off := 153) C dX5_said_54 (by decide) (by rw [c20]; decide) (by decide) ?_
                refine s_aload_n (q := 208) C 4 dX5_said_207 rfl rfl rfl ?_
                refine s_iconst (q := 209) (v := 0) C dX5_said_208 rfl (by decide) ?_
                refine s_iload (q := 211) C 2 dX5_said_209 rfl rfl ?_
                refine s_iload_n (q := 212) C 7 dX5_said_211 rfl rfl rfl ?_
                refine s_iload (q := 214) C 0 dX5_said_212 rfl rfl ?_
                refine s_Vi (q := 217) (As := [.int 0, .int x4, .int a3, .int x8]) (st := []) C (hrc0 V9 c0 0 x4 a3 x8 hs0) yvX5_said mlX5_32 hs0 rfl rfl rfl rfl rfl rfl (gR_le (by omega) (by omega)) (Nat.le_of_ble_eq_true rfl) dX5_said_214 rfl (fun x21 V22 => ?_)
                refine s_iconst (q := 218) (v := 3) C dX5_said_217 rfl (by decide) ?_
                refine s_imul (q := 219) C dX5_said_218 rfl ?_
                exact s_iret C E dX5_said_219
              · refine s_case (fun c23 => ?_) (fun c23 => ?_)
                · refine s_look (q := 220) (off := 166) C dX5_said_54 (by decide) (by rw [c23]; decide) (by decide) ?_
                  refine s_aload_n (q := 221) C 4 dX5_said_220 rfl rfl rfl ?_
                  refine s_iconst (q := 222) (v := 1) C dX5_said_221 rfl (by decide) ?_
                  refine s_iload (q := 224) C 2 dX5_said_222 rfl rfl ?_
                  refine s_iload_n (q := 225) C 7 dX5_said_224 rfl rfl rfl ?_
                  refine s_iload (q := 227) C 0 dX5_said_225 rfl rfl ?_
                  refine s_Vi (q := 230) (As := [.int 1, .int x4, .int a3, .int x8]) (st := []) C (hrc0 V9 c0 1 x4 a3 x8 hs0) yvX5_said mlX5_32 hs0 rfl rfl rfl rfl rfl rfl (gR_le (by omega) (by omega)) (Nat.le_of_ble_eq_true rfl) dX5_said_227 rfl (fun x24 V25 => ?_)
                  refine s_aload_n (q := 231) C 4 dX5_said_230 rfl rfl rfl ?_
                  refine s_iconst (q := 232) (v := 2) C dX5_said_231 rfl (by decide) ?_
                  refine s_aload_n (q := 233) C 4 dX5_said_232 rfl rfl rfl ?_
                  refine geX5_4 (q := 236) C hs0 flX5_31 dX5_said_233 rfl ?_
                  refine s_iconst (q := 237) (v := 1) C dX5_said_236 rfl (by decide) ?_
                  refine s_iload (q := 239) C 0 dX5_said_237 rfl rfl ?_
                  refine s_Vi (q := 242) (As := [.int 2, .int (V25 c0 4), .int 1, .int x8]) (st := [.int x24]) C (hrc0 V25 c0 2 (V25 c0 4) 1 x8 hs0) yvX5_said mlX5_32 hs0 rfl rfl rfl rfl rfl rfl (gR_le (by omega) (by omega)) (Nat.le_of_ble_eq_true rfl) dX5_said_239 rfl (fun x26 V27 => ?_)
                  refine s_isub (q := 243) C dX5_said_242 rfl ?_
                  exact s_iret C E dX5_said_243
                · refine s_case (fun c28 => ?_) (fun c28 => ?_)
                  · refine s_look (q := 244) (off := 190) C dX5_said_54 (by decide) (by rw [c28]; decide) (by decide) ?_
                    refine s_aload_n (q := 245) C 4 dX5_said_244 rfl rfl rfl ?_
                    refine s_iconst (q := 246) (v := 2) C dX5_said_245 rfl (by decide) ?_
                    refine s_iload (q := 248) C 2 dX5_said_246 rfl rfl ?_
                    refine s_iload_n (q := 249) C 7 dX5_said_248 rfl rfl rfl ?_
                    refine s_iload (q := 251) C 0 dX5_said_249 rfl rfl ?_
                    refine s_Vi (q := 254) (As := [.int 2, .int x4, .int a3, .int x8]) (st := []) C (hrc0 V9 c0 2 x4 a3 x8 hs0) yvX5_said mlX5_32 hs0 rfl rfl rfl rfl rfl rfl (gR_le (by omega) (by omega)) (Nat.le_of_ble_eq_true rfl) dX5_said_251 rfl (fun x29 V30 => ?_)
                    refine s_ineg (q := 255) C dX5_said_254 rfl ?_
                    exact s_iret C E dX5_said_255
                  · refine s_case (fun c31 => ?_) (fun c31 => ?_)
                    · refine s_look (q := 256) (off := 202) C dX5_said_54 (by decide) (by rw [c31]; decide) (by decide) ?_
                      refine s_aload_n (q := 257) C 4 dX5_said_256 rfl rfl rfl ?_
                      refine s_iconst (q := 258) (v := 3) C dX5_said_257 rfl (by decide) ?_
                      refine s_iload (q := 260) C 2 dX5_said_258 rfl rfl ?_
                      refine s_iload_n (q := 261) C 7 dX5_said_260 rfl rfl rfl ?_
                      refine s_iload (q := 263) C 0 dX5_said_261 rfl rfl ?_
                      refine s_Vi (q := 266) (As := [.int 3, .int x4, .int a3, .int x8]) (st := []) C (hrc0 V9 c0 3 x4 a3 x8 hs0) yvX5_said mlX5_32 hs0 rfl rfl rfl rfl rfl rfl (gR_le (by omega) (by omega)) (Nat.le_of_ble_eq_true rfl) dX5_said_263 rfl (fun x32 V33 => ?_)
                      refine s_aload_n (q := 267) C 4 dX5_said_266 rfl rfl rfl ?_
                      refine s_iconst (q := 268) (v := 0) C dX5_said_267 rfl (by decide) ?_
                      refine s_aload_n (q := 269) C 4 dX5_said_268 rfl rfl rfl ?_
                      refine geX5_4 (q := 272) C hs0 flX5_31 dX5_said_269 rfl ?_
                      refine s_iconst (q := 273) (v := 2) C dX5_said_272 rfl (by decide) ?_
                      refine s_iload (q := 275) C 0 dX5_said_273 rfl rfl ?_
                      refine s_Vi (q := 278) (As := [.int 0, .int (V33 c0 4), .int 2, .int x8]) (st := [.int x32]) C (hrc0 V33 c0 0 (V33 c0 4) 2 x8 hs0) yvX5_said mlX5_32 hs0 rfl rfl rfl rfl rfl rfl (gR_le (by omega) (by omega)) (Nat.le_of_ble_eq_true rfl) dX5_said_275 rfl (fun x34 V35 => ?_)
                      refine s_isub (q := 279) C dX5_said_278 rfl ?_
                      exact s_iret C E dX5_said_279
                    · refine s_case (fun c36 => ?_) (fun c36 => ?_)
                      · refine s_look (q := 280) (off := 226) C dX5_said_54 (by decide) (by rw [c36]; decide) (by decide) ?_
                        refine s_aload_n (q := 281) C 4 dX5_said_280 rfl rfl rfl ?_
                        refine s_iconst (q := 282) (v := 1) C dX5_said_281 rfl (by decide) ?_
                        refine s_iload (q := 284) C 2 dX5_said_282 rfl rfl ?_
                        refine s_iload_n (q := 285) C 7 dX5_said_284 rfl rfl rfl ?_
                        refine s_iconst (q := 286) (v := 1) C dX5_said_285 rfl (by decide) ?_
                        refine s_iadd (q := 287) C dX5_said_286 rfl ?_
                        refine s_iload (q := 289) C 0 dX5_said_287 rfl rfl ?_
                        refine s_Vi (q := 292) (As := [.int 1, .int x4, .int (a3 + 1), .int x8]) (st := []) C (hrc0 V9 c0 1 x4 (a3 + 1) x8 hs0) yvX5_said mlX5_32 hs0 rfl rfl rfl rfl rfl rfl (gR_le (by omega) (by omega)) (Nat.le_of_ble_eq_true rfl) dX5_said_289 rfl (fun x37 V38 => ?_)
                        exact s_iret C E dX5_said_292
                      · refine s_case (fun c39 => ?_) (fun c39 => ?_)
                        · refine s_look (q := 293) (off := 239) C dX5_said_54 (by decide) (by rw [c39]; decide) (by decide) ?_
                          refine s_aload_n (q := 294) C 4 dX5_said_293 rfl rfl rfl ?_
                          refine s_iconst (q := 295) (v := 2) C dX5_said_294 rfl (by decide) ?_
                          refine s_iload (q := 297) C 2 dX5_said_295 rfl rfl ?_
                          refine s_iload_n (q := 298) C 7 dX5_said_297 rfl rfl rfl ?_
                          refine s_iload (q := 300) C 0 dX5_said_298 rfl rfl ?_
                          refine s_Vi (q := 303) (As := [.int 2, .int x4, .int a3, .int x8]) (st := []) C (hrc0 V9 c0 2 x4 a3 x8 hs0) yvX5_said mlX5_32 hs0 rfl rfl rfl rfl rfl rfl (gR_le (by omega) (by omega)) (Nat.le_of_ble_eq_true rfl) dX5_said_300 rfl (fun x40 V41 => ?_)
                          refine s_aload_n (q := 304) C 4 dX5_said_303 rfl rfl rfl ?_
                          refine geX5_2 (q := 307) C hs0 flX5_19 dX5_said_304 rfl ?_
                          refine s_ixor (q := 308) C dX5_said_307 rfl ?_
                          exact s_iret C E dX5_said_308
                        · refine s_case (fun c42 => ?_) (fun c42 => ?_)
                          · refine s_look (q := 309) (off := 255) C dX5_said_54 (by decide) (by rw [c42]; decide) (by decide) ?_
                            refine s_aload_n (q := 310) C 4 dX5_said_309 rfl rfl rfl ?_
                            refine s_iconst (q := 311) (v := 1) C dX5_said_310 rfl (by decide) ?_
                            refine s_aload_n (q := 312) C 4 dX5_said_311 rfl rfl rfl ?_
                            refine geX5_4 (q := 315) C hs0 flX5_31 dX5_said_312 rfl ?_
                            refine s_iload_n (q := 316) C 7 dX5_said_315 rfl rfl rfl ?_
                            refine s_iload (q := 318) C 0 dX5_said_316 rfl rfl ?_
                            refine s_Vi (q := 321) (As := [.int 1, .int (V9 c0 4), .int a3, .int x8]) (st := []) C (hrc0 V9 c0 1 (V9 c0 4) a3 x8 hs0) yvX5_said mlX5_32 hs0 rfl rfl rfl rfl rfl rfl (gR_le (by omega) (by omega)) (Nat.le_of_ble_eq_true rfl) dX5_said_318 rfl (fun x43 V44 => ?_)
                            refine s_aload_n (q := 322) C 4 dX5_said_321 rfl rfl rfl ?_
                            refine s_iconst (q := 323) (v := 3) C dX5_said_322 rfl (by decide) ?_
                            refine s_iload (q := 325) C 2 dX5_said_323 rfl rfl ?_
                            refine s_iload_n (q := 326) C 7 dX5_said_325 rfl rfl rfl ?_
                            refine s_iload (q := 328) C 0 dX5_said_326 rfl rfl ?_
                            refine s_Vi (q := 331) (As := [.int 3, .int x4, .int a3, .int x8]) (st := [.int x43]) C (hrc0 V44 c0 3 x4 a3 x8 hs0) yvX5_said mlX5_32 hs0 rfl rfl rfl rfl rfl rfl (gR_le (by omega) (by omega)) (Nat.le_of_ble_eq_true rfl) dX5_said_328 rfl (fun x45 V46 => ?_)
                            refine s_isub (q := 332) C dX5_said_331 rfl ?_
                            exact s_iret C E dX5_said_332
                          · refine s_look (q := 333) (off := 279) C dX5_said_54 (by decide) ((lv_osw c10 (by decide)).trans ((lv_osw c11 (by decide)).trans ((lv_osw c14 (by decide)).trans ((lv_osw c15 (by decide)).trans ((lv_osw c20 (by decide)).trans ((lv_osw c23 (by decide)).trans ((lv_osw c28 (by decide)).trans ((lv_osw c31 (by decide)).trans ((lv_osw c36 (by decide)).trans ((lv_osw c39 (by decide)).trans ((lv_osw c42 (by decide)).trans (rfl)))))))))))) (by decide) ?_
                            refine s_iconst (q := 334) (v := 0) C dX5_said_333 rfl (by decide) ?_
                            exact s_iret C E dX5_said_334
    · refine s_iconst (q := 8) (v := 0) C dX5_said_7 rfl (by decide) ?_
      exact s_iret C E dX5_said_8
theorem uX5_said (l : Launch) (G : gG) (hG : gIsX G) (d : Nat) (V : gV) (c0 : Nat) (a1 : Int32) (a2 : Int32) (a3 : Int32) (a4 : Int32) (hs0 : G.2.2.1 c0 = kX5 c0) : gMi l G yX5_said cX5_said 9 Jvm.ClassFile.FieldType.int (gR (2 + 1 * d) (44 + 28 * d)) [.ref (G.1 c0), .int a1, .int a2, .int a3, .int a4] V (fsaX5 d 0 V c0 a1 a2 a3 a4) := (usaX5 l G hG d) V c0 a1 a2 a3 a4 hs0
noncomputable def fX5_speak (V : gV) (c0 : Nat) (a1 : Int32) (c2 : Nat) (a3 : Int32) (a4 : Int32) : Option (Int32 × gV) := gpu V c0 1 0 fun (V1 : gV) => gpu V1 c0 2 a1 fun (V2 : gV) => gpu V2 c0 3 (V2 c2 2) fun (V3 : gV) => gpu V3 c0 4 (V3 c2 1) fun (V4 : gV) => gbi (fsaX5 50 0 V4 c0 a3 (V4 c0 4) a4 0) fun (x5 : Int32) (V6 : gV) => some (x5, V6)
set_option maxHeartbeats 4000000 in
set_option maxRecDepth 100000 in
theorem uX5_speak (l : Launch) (G : gG) (hG : gIsX G) (V : gV) (c0 : Nat) (a1 : Int32) (c2 : Nat) (a3 : Int32) (a4 : Int32) (hs0 : G.2.2.1 c0 = kX5 c0) (hs2 : G.2.2.1 c2 = kX0 c2) : gMi l G yX5_speak cX5_speak 5 Jvm.ClassFile.FieldType.int (gR 53 1472) [.ref (G.1 c0), .int a1, .ref (G.1 c2), .int a3, .int a4] V (fX5_speak V c0 a1 c2 a3 a4) := by
  unfold fX5_speak
  refine gM_i (by decide +kernel) rfl rfl (Nat.le_of_ble_eq_true rfl) (fun X rr VV C E => ?_)
  change gC cX5_speak 5 RX5 G X at C
  change gSm l (gR 53 1472) 5 G X _ (rr, VV) V 0 [(0, .ref (G.1 c0)), (1, .int a1), (2, .ref (G.1 c2)), (3, .int a3), (4, .int a4)] []
  refine s_aload_n (q := 1) C 0 dX5_speak_0 rfl rfl rfl ?_
  refine s_iconst (q := 2) (v := 0) C dX5_speak_1 rfl (by decide) ?_
  refine peX5_1 (q := 5) C hs0 flX5_15 dX5_speak_2 rfl (fun V1 => ?_)
  refine s_aload_n (q := 6) C 0 dX5_speak_5 rfl rfl rfl ?_
  refine s_iload_n (q := 7) C 1 dX5_speak_6 rfl rfl rfl ?_
  refine peX5_2 (q := 10) C hs0 flX5_19 dX5_speak_7 rfl (fun V2 => ?_)
  refine s_aload_n (q := 11) C 0 dX5_speak_10 rfl rfl rfl ?_
  refine s_aload_n (q := 12) C 2 dX5_speak_11 rfl rfl rfl ?_
  refine geX0_2 (q := 15) C hs2 flX5_22 dX5_speak_12 rfl ?_
  refine peX5_3 (q := 18) C hs0 flX5_27 dX5_speak_15 rfl (fun V3 => ?_)
  refine s_aload_n (q := 19) C 0 dX5_speak_18 rfl rfl rfl ?_
  refine s_aload_n (q := 20) C 2 dX5_speak_19 rfl rfl rfl ?_
  refine geX0_1 (q := 23) C hs2 flX5_28 dX5_speak_20 rfl ?_
  refine peX5_4 (q := 26) C hs0 flX5_31 dX5_speak_23 rfl (fun V4 => ?_)
  refine s_aload_n (q := 27) C 0 dX5_speak_26 rfl rfl rfl ?_
  refine s_iload_n (q := 28) C 3 dX5_speak_27 rfl rfl rfl ?_
  refine s_aload_n (q := 29) C 0 dX5_speak_28 rfl rfl rfl ?_
  refine geX5_4 (q := 32) C hs0 flX5_31 dX5_speak_29 rfl ?_
  refine s_iload (q := 34) C 4 dX5_speak_32 rfl rfl ?_
  refine s_iconst (q := 35) (v := 0) C dX5_speak_34 rfl (by decide) ?_
  refine s_Vi (q := 38) (As := [.int a3, .int (V4 c0 4), .int a4, .int 0]) (st := []) C (uX5_said l G hG 50 V4 c0 a3 (V4 c0 4) a4 0 hs0) yvX5_said mlX5_32 hs0 rfl rfl rfl rfl rfl rfl (gR_le (by decide) (by decide)) (Nat.le_of_ble_eq_true rfl) dX5_speak_35 rfl (fun x5 V6 => ?_)
  exact s_iret C E dX5_speak_38
noncomputable def fX6_houseAt (V : gV) (c0 : Nat) (a1 : Int32) : Option (Nat × gV) := if a1 < 0 then (some ((c0 + 3), V)) else (if 4 ≤ a1 then (some ((c0 + 3), V)) else (gar a1 4 <| gar a1 4 <| some ((c0 + 14 + 1 * (a1).toNatClampNeg), V)))
set_option maxHeartbeats 4000000 in
set_option maxRecDepth 100000 in
theorem uX6_houseAt (l : Launch) (G : gG) (hG : gIsX G) (V : gV) (c0 : Nat) (a1 : Int32) (hs0 : G.2.2.1 c0 = kX6 c0) : gMr l G yX6_houseAt cX6_houseAt 2 (Jvm.ClassFile.FieldType.object "SoapNames$House") (gR 0 0) [.ref (G.1 c0), .int a1] V (fX6_houseAt V c0 a1) := by
  unfold fX6_houseAt
  refine gM_r (by decide +kernel) rfl rfl (Nat.le_of_ble_eq_true rfl) (fun X rr VV C E => ?_)
  change gC cX6_houseAt 2 RX6 G X at C
  change gSm l (gR 0 0) 2 G X _ (rr, VV) V 0 [(0, .ref (G.1 c0)), (1, .int a1)] []
  refine s_iload_n (q := 1) C 1 dX6_houseAt_0 rfl rfl rfl ?_
  refine s_if_lt (tgt := 22) (q := 4) C dX6_houseAt_1 (by decide) rfl (fun c1 => ?_) (fun c1 => ?_)
  · refine s_aload_n (q := 23) C 0 dX6_houseAt_22 rfl rfl rfl ?_
    refine geX6_2 (q := 26) C hs0 flX6_24 dX6_houseAt_23 rfl ?_
    exact s_aret C (Or.inl ⟨_, rfl⟩) E dX6_houseAt_26
  · refine s_iload_n (q := 5) C 1 dX6_houseAt_4 rfl rfl rfl ?_
    refine s_aload_n (q := 6) C 0 dX6_houseAt_5 rfl rfl rfl ?_
    refine geX6_0 (q := 9) C hs0 flX6_11 dX6_houseAt_6 rfl ?_
    refine s_alenr (q := 10) (v := 4) C (qX6_0 hG hs0) (by decide) dX6_houseAt_9 rfl ?_
    refine s_icmp_ge (tgt := 22) (q := 13) C dX6_houseAt_10 (by decide) rfl (fun c2 => ?_) (fun c2 => ?_)
    · refine s_aload_n (q := 23) C 0 dX6_houseAt_22 rfl rfl rfl ?_
      refine geX6_2 (q := 26) C hs0 flX6_24 dX6_houseAt_23 rfl ?_
      exact s_aret C (Or.inl ⟨_, rfl⟩) E dX6_houseAt_26
    · refine s_aload_n (q := 14) C 0 dX6_houseAt_13 rfl rfl rfl ?_
      refine geX6_0 (q := 17) C hs0 flX6_11 dX6_houseAt_14 rfl ?_
      refine s_iload_n (q := 18) C 1 dX6_houseAt_17 rfl rfl rfl ?_
      refine s_aald (q := 19) C (qX6_0 hG hs0) dX6_houseAt_18 rfl (fun h3 => ?_)
      refine s_ifnn (q := 27) C dX6_houseAt_19 (by decide) ?_
      refine s_aload_n (q := 28) C 0 dX6_houseAt_27 rfl rfl rfl ?_
      refine geX6_0 (q := 31) C hs0 flX6_11 dX6_houseAt_28 rfl ?_
      refine s_iload_n (q := 32) C 1 dX6_houseAt_31 rfl rfl rfl ?_
      refine s_aald (q := 33) C (qX6_0 hG hs0) dX6_houseAt_32 rfl (fun h4 => ?_)
      exact s_aret C (Or.inl ⟨_, rfl⟩) E dX6_houseAt_33
theorem rX6_houseAt (G : gG) (hG : gIsX G) (V : gV) (c0 : Nat) (a1 : Int32) (hs0 : G.2.2.1 c0 = kX6 c0) : ∀ t V', fX6_houseAt V c0 a1 = some (t, V') → G.2.2.1 t = kX1 t := by
  intro t V' h
  unfold fX6_houseAt gar at h
  have key : t = c0 + 3 ∨ ∃ i, i < 4 ∧ t = c0 + 14 + 1 * i := by
    split at h
    · cases h; exact Or.inl rfl
    · split at h
      · cases h; exact Or.inl rfl
      · split at h
        · cases h
        · rename_i q
          cases h
          exact Or.inr ⟨_, glt_of q, rfl⟩
  rcases key with rfl | ⟨i, hi, rfl⟩
  · exact qX6_2 hG hs0
  · exact eX6_0 hG hs0 hi
noncomputable def fX6_cakeAt (V : gV) (c0 : Nat) (a1 : Int32) : Option (Nat × gV) := if a1 < 0 then (some ((c0 + 4), V)) else (if 6 ≤ a1 then (some ((c0 + 4), V)) else (gar a1 6 <| gar a1 6 <| some ((c0 + 18 + 2 * (a1).toNatClampNeg), V)))
set_option maxHeartbeats 4000000 in
set_option maxRecDepth 100000 in
theorem uX6_cakeAt (l : Launch) (G : gG) (hG : gIsX G) (V : gV) (c0 : Nat) (a1 : Int32) (hs0 : G.2.2.1 c0 = kX6 c0) : gMr l G yX6_cakeAt cX6_cakeAt 2 (Jvm.ClassFile.FieldType.object "SoapNames$Cake") (gR 0 0) [.ref (G.1 c0), .int a1] V (fX6_cakeAt V c0 a1) := by
  unfold fX6_cakeAt
  refine gM_r (by decide +kernel) rfl rfl (Nat.le_of_ble_eq_true rfl) (fun X rr VV C E => ?_)
  change gC cX6_cakeAt 2 RX6 G X at C
  change gSm l (gR 0 0) 2 G X _ (rr, VV) V 0 [(0, .ref (G.1 c0)), (1, .int a1)] []
  refine s_iload_n (q := 1) C 1 dX6_cakeAt_0 rfl rfl rfl ?_
  refine s_if_lt (tgt := 22) (q := 4) C dX6_cakeAt_1 (by decide) rfl (fun c1 => ?_) (fun c1 => ?_)
  · refine s_aload_n (q := 23) C 0 dX6_cakeAt_22 rfl rfl rfl ?_
    refine geX6_3 (q := 26) C hs0 flX6_29 dX6_cakeAt_23 rfl ?_
    exact s_aret C (Or.inl ⟨_, rfl⟩) E dX6_cakeAt_26
  · refine s_iload_n (q := 5) C 1 dX6_cakeAt_4 rfl rfl rfl ?_
    refine s_aload_n (q := 6) C 0 dX6_cakeAt_5 rfl rfl rfl ?_
    refine geX6_1 (q := 9) C hs0 flX6_19 dX6_cakeAt_6 rfl ?_
    refine s_alenr (q := 10) (v := 6) C (qX6_1 hG hs0) (by decide) dX6_cakeAt_9 rfl ?_
    refine s_icmp_ge (tgt := 22) (q := 13) C dX6_cakeAt_10 (by decide) rfl (fun c2 => ?_) (fun c2 => ?_)
    · refine s_aload_n (q := 23) C 0 dX6_cakeAt_22 rfl rfl rfl ?_
      refine geX6_3 (q := 26) C hs0 flX6_29 dX6_cakeAt_23 rfl ?_
      exact s_aret C (Or.inl ⟨_, rfl⟩) E dX6_cakeAt_26
    · refine s_aload_n (q := 14) C 0 dX6_cakeAt_13 rfl rfl rfl ?_
      refine geX6_1 (q := 17) C hs0 flX6_19 dX6_cakeAt_14 rfl ?_
      refine s_iload_n (q := 18) C 1 dX6_cakeAt_17 rfl rfl rfl ?_
      refine s_aald (q := 19) C (qX6_1 hG hs0) dX6_cakeAt_18 rfl (fun h3 => ?_)
      refine s_ifnn (q := 27) C dX6_cakeAt_19 (by decide) ?_
      refine s_aload_n (q := 28) C 0 dX6_cakeAt_27 rfl rfl rfl ?_
      refine geX6_1 (q := 31) C hs0 flX6_19 dX6_cakeAt_28 rfl ?_
      refine s_iload_n (q := 32) C 1 dX6_cakeAt_31 rfl rfl rfl ?_
      refine s_aald (q := 33) C (qX6_1 hG hs0) dX6_cakeAt_32 rfl (fun h4 => ?_)
      exact s_aret C (Or.inl ⟨_, rfl⟩) E dX6_cakeAt_33
theorem rX6_cakeAt (G : gG) (hG : gIsX G) (V : gV) (c0 : Nat) (a1 : Int32) (hs0 : G.2.2.1 c0 = kX6 c0) : ∀ t V', fX6_cakeAt V c0 a1 = some (t, V') → G.2.2.1 t = kX0 t := by
  intro t V' h
  unfold fX6_cakeAt gar at h
  have key : t = c0 + 4 ∨ ∃ i, i < 6 ∧ t = c0 + 18 + 2 * i := by
    split at h
    · cases h; exact Or.inl rfl
    · split at h
      · cases h; exact Or.inl rfl
      · split at h
        · cases h
        · rename_i q
          cases h
          exact Or.inr ⟨_, glt_of q, rfl⟩
  rcases key with rfl | ⟨i, hi, rfl⟩
  · exact qX6_3 hG hs0
  · exact eX6_1 hG hs0 hi
noncomputable def fX6_textOf (V : gV) (c0 : Nat) (a1 : Int32) : Option (Nat × gV) := if a1 = 0 then (some ((c0 + 6), V)) else (some ((c0 + 9), V))
set_option maxHeartbeats 4000000 in
set_option maxRecDepth 100000 in
theorem uX6_textOf (l : Launch) (G : gG) (hG : gIsX G) (V : gV) (c0 : Nat) (a1 : Int32) (hs0 : G.2.2.1 c0 = kX6 c0) : gMr l G yX6_textOf cX6_textOf 2 (Jvm.ClassFile.FieldType.object "SoapNames$Text") (gR 0 0) [.ref (G.1 c0), .int a1] V (fX6_textOf V c0 a1) := by
  unfold fX6_textOf
  refine gM_r (by decide +kernel) rfl rfl (Nat.le_of_ble_eq_true rfl) (fun X rr VV C E => ?_)
  change gC cX6_textOf 2 RX6 G X at C
  change gSm l (gR 0 0) 2 G X _ (rr, VV) V 0 [(0, .ref (G.1 c0)), (1, .int a1)] []
  refine s_iload_n (q := 1) C 1 dX6_textOf_0 rfl rfl rfl ?_
  refine s_if_ne (tgt := 11) (q := 4) C dX6_textOf_1 (by decide) rfl (fun c1 => ?_) (fun c1 => ?_)
  · refine s_aload_n (q := 5) C 0 dX6_textOf_4 rfl rfl rfl ?_
    refine geX6_4 (q := 8) C hs0 flX6_36 dX6_textOf_5 rfl ?_
    refine s_goto (q := 15) C dX6_textOf_8 (by decide) ?_
    exact s_aret C (Or.inl ⟨_, rfl⟩) E dX6_textOf_15
  · refine s_aload_n (q := 12) C 0 dX6_textOf_11 rfl rfl rfl ?_
    refine geX6_5 (q := 15) C hs0 flX6_40 dX6_textOf_12 rfl ?_
    exact s_aret C (Or.inl ⟨_, rfl⟩) E dX6_textOf_15
theorem rX6_textOf (G : gG) (hG : gIsX G) (V : gV) (c0 : Nat) (a1 : Int32) (hs0 : G.2.2.1 c0 = kX6 c0) : ∀ t V', fX6_textOf V c0 a1 = some (t, V') → G.2.2.1 t = kX4 t := by
  intro t V' h
  unfold fX6_textOf at h
  split at h
  · cases h; exact qX6_4 hG hs0
  · cases h; exact qX6_5 hG hs0
noncomputable def fX6_copyFrom_L2b (c0 : Nat) (c1 : Nat) (B7 : gV → Int32 → Option gV) (V5 : gV) (x6 : Int32) : Option gV := if (V5 c1 9) ≤ x6 then (gbv (fX4_copyFrom V5 (c0 + 6) (c1 + 6)) fun (V9 : gV) => gbv (fX4_copyFrom V9 (c0 + 9) (c1 + 9)) fun (V10 : gV) => gbv (fX7_copyRow V10 (c1 + 12) 50 (c0 + 12) 50) fun (V11 : gV) => gbv (fX7_copyRow V11 (c1 + 13) 20 (c0 + 13) 20) fun (V12 : gV) => gpu V12 c0 8 (V12 c1 8) fun (V13 : gV) => gpu V13 c0 9 (V13 c1 9) fun (V14 : gV) => gpu V14 c0 10 (V14 c1 10) fun (V15 : gV) => gpu V15 c0 11 (V15 c1 11) fun (V16 : gV) => gpu V16 c0 12 (V16 c1 12) fun (V17 : gV) => gpu V17 c0 13 (V17 c1 13) fun (V18 : gV) => some V18) else (gbr (fX6_cakeAt V5 c0 x6) fun (t19 : Nat) (V20 : gV) => gbr (fX6_cakeAt V20 c1 x6) fun (t22 : Nat) (V23 : gV) => gbv (fX0_copyFrom V23 t19 t22) fun (V25 : gV) => B7 V25 ((x6 + 1)))
noncomputable def fX6_copyFrom_L2 (c0 : Nat) (c1 : Nat) : Nat → gV → Int32 → Option gV
  | 0 => fun _ _ => none
  | n + 1 => fX6_copyFrom_L2b c0 c1 (fX6_copyFrom_L2 c0 c1 n)
noncomputable def fX6_copyFrom_L1b (c0 : Nat) (c1 : Nat) (B3 : gV → Int32 → Option gV) (V1 : gV) (x2 : Int32) : Option gV := if (V1 c1 8) ≤ x2 then (fX6_copyFrom_L2 c0 c1 gFu V1 0) else (gbr (fX6_houseAt V1 c0 x2) fun (t26 : Nat) (V27 : gV) => gbr (fX6_houseAt V27 c1 x2) fun (t29 : Nat) (V30 : gV) => gbv (fX1_copyFrom V30 t26 t29) fun (V32 : gV) => B3 V32 ((x2 + 1)))
noncomputable def fX6_copyFrom_L1 (c0 : Nat) (c1 : Nat) : Nat → gV → Int32 → Option gV
  | 0 => fun _ _ => none
  | n + 1 => fX6_copyFrom_L1b c0 c1 (fX6_copyFrom_L1 c0 c1 n)
noncomputable def fX6_copyFrom (V : gV) (c0 : Nat) (c1 : Nat) : Option gV := fX6_copyFrom_L1 c0 c1 gFu V 0
set_option maxHeartbeats 4000000 in
set_option maxRecDepth 100000 in
theorem uX6_copyFrom (l : Launch) (G : gG) (hG : gIsX G) (V : gV) (c0 : Nat) (c1 : Nat) (hs0 : G.2.2.1 c0 = kX6 c0) (hs1 : G.2.2.1 c1 = kX6 c1) : gMv l G yX6_copyFrom cX6_copyFrom 3 (gR 4 166) [.ref (G.1 c0), .ref (G.1 c1)] V (fX6_copyFrom V c0 c1) := by
  unfold fX6_copyFrom
  refine gM_v (by decide +kernel) rfl rfl (Nat.le_of_ble_eq_true rfl) (fun X VV C E => ?_)
  change gC cX6_copyFrom 3 RX6 G X at C
  change gSm l (gR 4 166) 3 G X _ VV V 0 [(0, .ref (G.1 c0)), (1, .ref (G.1 c1))] []
  refine s_iconst (q := 1) (v := 0) C dX6_copyFrom_0 rfl (by decide) ?_
  refine s_istore_n (q := 2) (L' := [(2, .int 0), (0, .ref (G.1 c0)), (1, .ref (G.1 c1))]) C dX6_copyFrom_1 rfl rfl (by decide) rfl ?_
  have hL1 : ∀ (n : Nat) (V1 : gV) (x2 : Int32), gSm l (gR 4 166) 3 G X (fX6_copyFrom_L1 c0 c1 n V1 x2) VV V1 2 [(0, .ref (G.1 c0)), (1, .ref (G.1 c1)), (2, .int x2)] [] := by
    intro n
    induction n with
    | zero => exact fun V1 x2 => s_none
    | succ n ih =>
      intro V1 x2
      show gSm l (gR 4 166) 3 G X (fX6_copyFrom_L1b c0 c1 (fX6_copyFrom_L1 c0 c1 n) V1 x2) VV V1 2 [(0, .ref (G.1 c0)), (1, .ref (G.1 c1)), (2, .int x2)] []
      generalize fX6_copyFrom_L1 c0 c1 n = B3 at ih ⊢
      have hB3 := ih
      unfold fX6_copyFrom_L1b
      refine s_iload_n (q := 3) C 2 dX6_copyFrom_2 rfl rfl rfl ?_
      refine s_aload_n (q := 4) C 1 dX6_copyFrom_3 rfl rfl rfl ?_
      refine geX6_8 (q := 7) C hs1 flX6_54 dX6_copyFrom_4 rfl ?_
      refine s_icmp_ge (tgt := 29) (q := 10) C dX6_copyFrom_7 (by decide) rfl (fun c4 => ?_) (fun c4 => ?_)
      · refine s_iconst (q := 30) (v := 0) C dX6_copyFrom_29 rfl (by decide) ?_
        refine s_istore_n (q := 31) (L' := [(2, .int 0), (0, .ref (G.1 c0)), (1, .ref (G.1 c1))]) C dX6_copyFrom_30 rfl rfl (by decide) rfl ?_
        have hL2 : ∀ (n : Nat) (V5 : gV) (x6 : Int32), gSm l (gR 4 166) 3 G X (fX6_copyFrom_L2 c0 c1 n V5 x6) VV V5 31 [(0, .ref (G.1 c0)), (1, .ref (G.1 c1)), (2, .int x6)] [] := by
          intro n
          induction n with
          | zero => exact fun V5 x6 => s_none
          | succ n ih =>
            intro V5 x6
            show gSm l (gR 4 166) 3 G X (fX6_copyFrom_L2b c0 c1 (fX6_copyFrom_L2 c0 c1 n) V5 x6) VV V5 31 [(0, .ref (G.1 c0)), (1, .ref (G.1 c1)), (2, .int x6)] []
            generalize fX6_copyFrom_L2 c0 c1 n = B7 at ih ⊢
            have hB7 := ih
            unfold fX6_copyFrom_L2b
            refine s_iload_n (q := 32) C 2 dX6_copyFrom_31 rfl rfl rfl ?_
            refine s_aload_n (q := 33) C 1 dX6_copyFrom_32 rfl rfl rfl ?_
            refine geX6_9 (q := 36) C hs1 flX6_65 dX6_copyFrom_33 rfl ?_
            refine s_icmp_ge (tgt := 58) (q := 39) C dX6_copyFrom_36 (by decide) rfl (fun c8 => ?_) (fun c8 => ?_)
            · refine s_aload_n (q := 59) C 0 dX6_copyFrom_58 rfl rfl rfl ?_
              refine geX6_4 (q := 62) C hs0 flX6_36 dX6_copyFrom_59 rfl ?_
              refine s_aload_n (q := 63) C 1 dX6_copyFrom_62 rfl rfl rfl ?_
              refine geX6_4 (q := 66) C hs1 flX6_36 dX6_copyFrom_63 rfl ?_
              refine s_Vv (q := 69) (As := [.ref (G.1 (c1 + 6))]) (st := []) C (uX4_copyFrom l G hG V5 (c0 + 6) (c1 + 6) (qX6_4 hG hs0) (qX6_4 hG hs1)) yvX4_copyFrom mlX6_75 (qX6_4 hG hs0) rfl rfl rfl rfl rfl rfl (gR_le (by decide) (by decide)) (Nat.le_of_ble_eq_true rfl) dX6_copyFrom_66 rfl (fun V9 => ?_)
              refine s_aload_n (q := 70) C 0 dX6_copyFrom_69 rfl rfl rfl ?_
              refine geX6_5 (q := 73) C hs0 flX6_40 dX6_copyFrom_70 rfl ?_
              refine s_aload_n (q := 74) C 1 dX6_copyFrom_73 rfl rfl rfl ?_
              refine geX6_5 (q := 77) C hs1 flX6_40 dX6_copyFrom_74 rfl ?_
              refine s_Vv (q := 80) (As := [.ref (G.1 (c1 + 9))]) (st := []) C (uX4_copyFrom l G hG V9 (c0 + 9) (c1 + 9) (qX6_5 hG hs0) (qX6_5 hG hs1)) yvX4_copyFrom mlX6_75 (qX6_5 hG hs0) rfl rfl rfl rfl rfl rfl (gR_le (by decide) (by decide)) (Nat.le_of_ble_eq_true rfl) dX6_copyFrom_77 rfl (fun V10 => ?_)
              refine s_aload_n (q := 81) C 1 dX6_copyFrom_80 rfl rfl rfl ?_
              refine geX6_6 (q := 84) C hs1 flX6_43 dX6_copyFrom_81 rfl ?_
              refine s_aload_n (q := 85) C 0 dX6_copyFrom_84 rfl rfl rfl ?_
              refine geX6_6 (q := 88) C hs0 flX6_43 dX6_copyFrom_85 rfl ?_
              refine s_Sv (q := 91) (As := [.ref (G.1 (c1 + 12)), .ref (G.1 (c0 + 12))]) (st := []) C (uX7_copyRow l G hG V10 (c1 + 12) 50 (c0 + 12) 50 (qX6_6 hG hs1) (qX6_6 hG hs0) (mX6_6 hG hs0)) ysX7_copyRow mlX6_78 rfl rfl rfl rfl (gR_le (by decide) (by decide)) (Nat.le_of_ble_eq_true rfl) dX6_copyFrom_88 rfl (fun V11 => ?_)
              refine s_aload_n (q := 92) C 1 dX6_copyFrom_91 rfl rfl rfl ?_
              refine geX6_7 (q := 95) C hs1 flX6_47 dX6_copyFrom_92 rfl ?_
              refine s_aload_n (q := 96) C 0 dX6_copyFrom_95 rfl rfl rfl ?_
              refine geX6_7 (q := 99) C hs0 flX6_47 dX6_copyFrom_96 rfl ?_
              refine s_Sv (q := 102) (As := [.ref (G.1 (c1 + 13)), .ref (G.1 (c0 + 13))]) (st := []) C (uX7_copyRow l G hG V11 (c1 + 13) 20 (c0 + 13) 20 (qX6_7 hG hs1) (qX6_7 hG hs0) (mX6_7 hG hs0)) ysX7_copyRow mlX6_78 rfl rfl rfl rfl (gR_le (by decide) (by decide)) (Nat.le_of_ble_eq_true rfl) dX6_copyFrom_99 rfl (fun V12 => ?_)
              refine s_aload_n (q := 103) C 0 dX6_copyFrom_102 rfl rfl rfl ?_
              refine s_aload_n (q := 104) C 1 dX6_copyFrom_103 rfl rfl rfl ?_
              refine geX6_8 (q := 107) C hs1 flX6_54 dX6_copyFrom_104 rfl ?_
              refine peX6_8 (q := 110) C hs0 flX6_54 dX6_copyFrom_107 rfl (fun V13 => ?_)
              refine s_aload_n (q := 111) C 0 dX6_copyFrom_110 rfl rfl rfl ?_
              refine s_aload_n (q := 112) C 1 dX6_copyFrom_111 rfl rfl rfl ?_
              refine geX6_9 (q := 115) C hs1 flX6_65 dX6_copyFrom_112 rfl ?_
              refine peX6_9 (q := 118) C hs0 flX6_65 dX6_copyFrom_115 rfl (fun V14 => ?_)
              refine s_aload_n (q := 119) C 0 dX6_copyFrom_118 rfl rfl rfl ?_
              refine s_aload_n (q := 120) C 1 dX6_copyFrom_119 rfl rfl rfl ?_
              refine geX6_10 (q := 123) C hs1 flX6_82 dX6_copyFrom_120 rfl ?_
              refine peX6_10 (q := 126) C hs0 flX6_82 dX6_copyFrom_123 rfl (fun V15 => ?_)
              refine s_aload_n (q := 127) C 0 dX6_copyFrom_126 rfl rfl rfl ?_
              refine s_aload_n (q := 128) C 1 dX6_copyFrom_127 rfl rfl rfl ?_
              refine geX6_11 (q := 131) C hs1 flX6_85 dX6_copyFrom_128 rfl ?_
              refine peX6_11 (q := 134) C hs0 flX6_85 dX6_copyFrom_131 rfl (fun V16 => ?_)
              refine s_aload_n (q := 135) C 0 dX6_copyFrom_134 rfl rfl rfl ?_
              refine s_aload_n (q := 136) C 1 dX6_copyFrom_135 rfl rfl rfl ?_
              refine geX6_12 (q := 139) C hs1 flX6_88 dX6_copyFrom_136 rfl ?_
              refine peX6_12 (q := 142) C hs0 flX6_88 dX6_copyFrom_139 rfl (fun V17 => ?_)
              refine s_aload_n (q := 143) C 0 dX6_copyFrom_142 rfl rfl rfl ?_
              refine s_aload_n (q := 144) C 1 dX6_copyFrom_143 rfl rfl rfl ?_
              refine geX6_13 (q := 147) C hs1 flX6_50 dX6_copyFrom_144 rfl ?_
              refine peX6_13 (q := 150) C hs0 flX6_50 dX6_copyFrom_147 rfl (fun V18 => ?_)
              exact s_vret C E dX6_copyFrom_150
            · refine s_aload_n (q := 40) C 0 dX6_copyFrom_39 rfl rfl rfl ?_
              refine s_iload_n (q := 41) C 2 dX6_copyFrom_40 rfl rfl rfl ?_
              refine s_Vr (q := 44) (As := [.int x6]) (st := []) C (uX6_cakeAt l G hG V5 c0 x6 hs0) yvX6_cakeAt mlX6_68 hs0 rfl rfl (fun t => G.2.2.1 t = kX0 t) (rX6_cakeAt G hG V5 c0 x6 hs0) rfl rfl rfl rfl (gR_le (by decide) (by decide)) (Nat.le_of_ble_eq_true rfl) dX6_copyFrom_41 rfl (fun t19 V20 h21 => ?_)
              refine s_aload_n (q := 45) C 1 dX6_copyFrom_44 rfl rfl rfl ?_
              refine s_iload_n (q := 46) C 2 dX6_copyFrom_45 rfl rfl rfl ?_
              refine s_Vr (q := 49) (As := [.int x6]) (st := [.ref (G.1 t19)]) C (uX6_cakeAt l G hG V20 c1 x6 hs1) yvX6_cakeAt mlX6_68 hs1 rfl rfl (fun t => G.2.2.1 t = kX0 t) (rX6_cakeAt G hG V20 c1 x6 hs1) rfl rfl rfl rfl (gR_le (by decide) (by decide)) (Nat.le_of_ble_eq_true rfl) dX6_copyFrom_46 rfl (fun t22 V23 h24 => ?_)
              refine s_Vv (q := 52) (As := [.ref (G.1 t22)]) (st := []) C (uX0_copyFrom l G hG V23 t19 t22 h21 h24) yvX0_copyFrom mlX6_72 h21 rfl rfl rfl rfl rfl rfl (gR_le (by decide) (by decide)) (Nat.le_of_ble_eq_true rfl) dX6_copyFrom_49 rfl (fun V25 => ?_)
              refine s_iinc (q := 55) (w := 1) (L' := [(2, .int (x6 + 1)), (0, .ref (G.1 c0)), (1, .ref (G.1 c1))]) C 2 dX6_copyFrom_52 rfl rfl (by decide) rfl (by decide) rfl ?_
              refine s_goto (q := 31) C dX6_copyFrom_55 (by decide) ?_
              refine s_sub [1, 2, 0] rfl ?_
              exact hB7 V25 ((x6 + 1))
        refine s_sub [1, 2, 0] rfl ?_
        exact hL2 gFu V1 0
      · refine s_aload_n (q := 11) C 0 dX6_copyFrom_10 rfl rfl rfl ?_
        refine s_iload_n (q := 12) C 2 dX6_copyFrom_11 rfl rfl rfl ?_
        refine s_Vr (q := 15) (As := [.int x2]) (st := []) C (uX6_houseAt l G hG V1 c0 x2 hs0) yvX6_houseAt mlX6_57 hs0 rfl rfl (fun t => G.2.2.1 t = kX1 t) (rX6_houseAt G hG V1 c0 x2 hs0) rfl rfl rfl rfl (gR_le (by decide) (by decide)) (Nat.le_of_ble_eq_true rfl) dX6_copyFrom_12 rfl (fun t26 V27 h28 => ?_)
        refine s_aload_n (q := 16) C 1 dX6_copyFrom_15 rfl rfl rfl ?_
        refine s_iload_n (q := 17) C 2 dX6_copyFrom_16 rfl rfl rfl ?_
        refine s_Vr (q := 20) (As := [.int x2]) (st := [.ref (G.1 t26)]) C (uX6_houseAt l G hG V27 c1 x2 hs1) yvX6_houseAt mlX6_57 hs1 rfl rfl (fun t => G.2.2.1 t = kX1 t) (rX6_houseAt G hG V27 c1 x2 hs1) rfl rfl rfl rfl (gR_le (by decide) (by decide)) (Nat.le_of_ble_eq_true rfl) dX6_copyFrom_17 rfl (fun t29 V30 h31 => ?_)
        refine s_Vv (q := 23) (As := [.ref (G.1 t29)]) (st := []) C (uX1_copyFrom l G hG V30 t26 t29 h28 h31) yvX1_copyFrom mlX6_61 h28 rfl rfl rfl rfl rfl rfl (gR_le (by decide) (by decide)) (Nat.le_of_ble_eq_true rfl) dX6_copyFrom_20 rfl (fun V32 => ?_)
        refine s_iinc (q := 26) (w := 1) (L' := [(2, .int (x2 + 1)), (0, .ref (G.1 c0)), (1, .ref (G.1 c1))]) C 2 dX6_copyFrom_23 rfl rfl (by decide) rfl (by decide) rfl ?_
        refine s_goto (q := 2) C dX6_copyFrom_26 (by decide) ?_
        refine s_sub [1, 2, 0] rfl ?_
        exact hB3 V32 ((x2 + 1))
  refine s_sub [1, 2, 0] rfl ?_
  exact hL1 gFu V 0
noncomputable def fX6_given (V : gV) (c0 : Nat) (a1 : Int32) (a2 : Int32) (a3 : Int32) (a4 : Int32) : Option (Int32 × gV) := if a1 = 0 then (gbi (fX4_isEmpty V (c0 + 6)) fun (x11 : Int32) (V12 : gV) => if x11 = 0 then (gbi (fX4_valueWith V12 (c0 + 6) a2 a3 a4) fun (x14 : Int32) (V15 : gV) => gbi (fX7_held V15 x14 1 99) fun (x16 : Int32) (V17 : gV) => some (x16, V17)) else (gbi (fX7_held V12 5 1 99) fun (x18 : Int32) (V19 : gV) => some (x18, V19))) else (gbi (fX4_isEmpty V (c0 + 9)) fun (x2 : Int32) (V3 : gV) => if x2 = 0 then (gbi (fX4_valueWith V3 (c0 + 9) a2 a3 a4) fun (x5 : Int32) (V6 : gV) => gbi (fX7_held V6 x5 0 99) fun (x7 : Int32) (V8 : gV) => some (x7, V8)) else (gdv 3 <| gbi (fX7_held V3 (1 + (a2 / 3)) 0 99) fun (x9 : Int32) (V10 : gV) => some (x9, V10)))
set_option maxHeartbeats 4000000 in
set_option maxRecDepth 100000 in
theorem uX6_given (l : Launch) (G : gG) (hG : gIsX G) (V : gV) (c0 : Nat) (a1 : Int32) (a2 : Int32) (a3 : Int32) (a4 : Int32) (hs0 : G.2.2.1 c0 = kX6 c0) : gMi l G yX6_given cX6_given 5 Jvm.ClassFile.FieldType.int (gR 2 52) [.ref (G.1 c0), .int a1, .int a2, .int a3, .int a4] V (fX6_given V c0 a1 a2 a3 a4) := by
  unfold fX6_given
  refine gM_i (by decide +kernel) rfl rfl (Nat.le_of_ble_eq_true rfl) (fun X rr VV C E => ?_)
  change gC cX6_given 5 RX6 G X at C
  change gSm l (gR 2 52) 5 G X _ (rr, VV) V 0 [(0, .ref (G.1 c0)), (1, .int a1), (2, .int a2), (3, .int a3), (4, .int a4)] []
  refine s_iload_n (q := 1) C 1 dX6_given_0 rfl rfl rfl ?_
  refine s_if_ne (tgt := 36) (q := 4) C dX6_given_1 (by decide) rfl (fun c1 => ?_) (fun c1 => ?_)
  · refine s_aload_n (q := 5) C 0 dX6_given_4 rfl rfl rfl ?_
    refine geX6_4 (q := 8) C hs0 flX6_36 dX6_given_5 rfl ?_
    refine s_Vi (q := 11) (As := []) (st := []) C (uX4_isEmpty l G hG V (c0 + 6) (qX6_4 hG hs0)) yvX4_isEmpty mlX6_91 (qX6_4 hG hs0) rfl rfl rfl rfl rfl rfl (gR_le (by decide) (by decide)) (Nat.le_of_ble_eq_true rfl) dX6_given_8 rfl (fun x11 V12 => ?_)
    refine s_if_eq (tgt := 18) (q := 14) C dX6_given_11 (by decide) rfl (fun c13 => ?_) (fun c13 => ?_)
    · refine s_aload_n (q := 19) C 0 dX6_given_18 rfl rfl rfl ?_
      refine geX6_4 (q := 22) C hs0 flX6_36 dX6_given_19 rfl ?_
      refine s_iload_n (q := 23) C 2 dX6_given_22 rfl rfl rfl ?_
      refine s_iload_n (q := 24) C 3 dX6_given_23 rfl rfl rfl ?_
      refine s_iload (q := 26) C 4 dX6_given_24 rfl rfl ?_
      refine s_Vi (q := 29) (As := [.int a2, .int a3, .int a4]) (st := []) C (uX4_valueWith l G hG V12 (c0 + 6) a2 a3 a4 (qX6_4 hG hs0)) yvX4_valueWith mlX6_95 (qX6_4 hG hs0) rfl rfl rfl rfl rfl rfl (gR_le (by decide) (by decide)) (Nat.le_of_ble_eq_true rfl) dX6_given_26 rfl (fun x14 V15 => ?_)
      refine s_iconst (q := 30) (v := 1) C dX6_given_29 rfl (by decide) ?_
      refine s_bipush (q := 32) (v := 99) C dX6_given_30 rfl (by decide) ?_
      refine s_Si (q := 35) (As := [.int x14, .int 1, .int 99]) (st := []) C (uX7_held l G hG V15 x14 1 99) ysX7_held mlX6_99 rfl rfl rfl rfl (gR_le (by decide) (by decide)) (Nat.le_of_ble_eq_true rfl) dX6_given_32 rfl (fun x16 V17 => ?_)
      exact s_iret C E dX6_given_35
    · refine s_iconst (q := 15) (v := 5) C dX6_given_14 rfl (by decide) ?_
      refine s_goto (q := 29) C dX6_given_15 (by decide) ?_
      refine s_iconst (q := 30) (v := 1) C dX6_given_29 rfl (by decide) ?_
      refine s_bipush (q := 32) (v := 99) C dX6_given_30 rfl (by decide) ?_
      refine s_Si (q := 35) (As := [.int 5, .int 1, .int 99]) (st := []) C (uX7_held l G hG V12 5 1 99) ysX7_held mlX6_99 rfl rfl rfl rfl (gR_le (by decide) (by decide)) (Nat.le_of_ble_eq_true rfl) dX6_given_32 rfl (fun x18 V19 => ?_)
      exact s_iret C E dX6_given_35
  · refine s_aload_n (q := 37) C 0 dX6_given_36 rfl rfl rfl ?_
    refine geX6_5 (q := 40) C hs0 flX6_40 dX6_given_37 rfl ?_
    refine s_Vi (q := 43) (As := []) (st := []) C (uX4_isEmpty l G hG V (c0 + 9) (qX6_5 hG hs0)) yvX4_isEmpty mlX6_91 (qX6_5 hG hs0) rfl rfl rfl rfl rfl rfl (gR_le (by decide) (by decide)) (Nat.le_of_ble_eq_true rfl) dX6_given_40 rfl (fun x2 V3 => ?_)
    refine s_if_eq (tgt := 54) (q := 46) C dX6_given_43 (by decide) rfl (fun c4 => ?_) (fun c4 => ?_)
    · refine s_aload_n (q := 55) C 0 dX6_given_54 rfl rfl rfl ?_
      refine geX6_5 (q := 58) C hs0 flX6_40 dX6_given_55 rfl ?_
      refine s_iload_n (q := 59) C 2 dX6_given_58 rfl rfl rfl ?_
      refine s_iload_n (q := 60) C 3 dX6_given_59 rfl rfl rfl ?_
      refine s_iload (q := 62) C 4 dX6_given_60 rfl rfl ?_
      refine s_Vi (q := 65) (As := [.int a2, .int a3, .int a4]) (st := []) C (uX4_valueWith l G hG V3 (c0 + 9) a2 a3 a4 (qX6_5 hG hs0)) yvX4_valueWith mlX6_95 (qX6_5 hG hs0) rfl rfl rfl rfl rfl rfl (gR_le (by decide) (by decide)) (Nat.le_of_ble_eq_true rfl) dX6_given_62 rfl (fun x5 V6 => ?_)
      refine s_iconst (q := 66) (v := 0) C dX6_given_65 rfl (by decide) ?_
      refine s_bipush (q := 68) (v := 99) C dX6_given_66 rfl (by decide) ?_
      refine s_Si (q := 71) (As := [.int x5, .int 0, .int 99]) (st := []) C (uX7_held l G hG V6 x5 0 99) ysX7_held mlX6_99 rfl rfl rfl rfl (gR_le (by decide) (by decide)) (Nat.le_of_ble_eq_true rfl) dX6_given_68 rfl (fun x7 V8 => ?_)
      exact s_iret C E dX6_given_71
    · refine s_iconst (q := 47) (v := 1) C dX6_given_46 rfl (by decide) ?_
      refine s_iload_n (q := 48) C 2 dX6_given_47 rfl rfl rfl ?_
      refine s_iconst (q := 49) (v := 3) C dX6_given_48 rfl (by decide) ?_
      refine s_idiv (q := 50) C dX6_given_49 rfl ?_
      refine s_iadd (q := 51) C dX6_given_50 rfl ?_
      refine s_goto (q := 65) C dX6_given_51 (by decide) ?_
      refine s_iconst (q := 66) (v := 0) C dX6_given_65 rfl (by decide) ?_
      refine s_bipush (q := 68) (v := 99) C dX6_given_66 rfl (by decide) ?_
      refine s_Si (q := 71) (As := [.int (1 + (a2 / 3)), .int 0, .int 99]) (st := []) C (uX7_held l G hG V3 (1 + (a2 / 3)) 0 99) ysX7_held mlX6_99 rfl rfl rfl rfl (gR_le (by decide) (by decide)) (Nat.le_of_ble_eq_true rfl) dX6_given_68 rfl (fun x9 V10 => ?_)
      exact s_iret C E dX6_given_71
noncomputable def fX6_wearOf (V : gV) (c0 : Nat) (c1 : Nat) : Option (Int32 × gV) := gbr (fX6_houseAt V c0 (V c1 3)) fun (t1 : Nat) (V2 : gV) => gbi (fX6_given V2 c0 1 (V2 t1 1) (V2 c1 2) (V2 c0 12)) fun (x4 : Int32) (V5 : gV) => gbi (fX0_wearWith V5 c1 (V2 t1 0) x4) fun (x6 : Int32) (V7 : gV) => some (x6, V7)
set_option maxHeartbeats 4000000 in
set_option maxRecDepth 100000 in
theorem uX6_wearOf (l : Launch) (G : gG) (hG : gIsX G) (V : gV) (c0 : Nat) (c1 : Nat) (hs0 : G.2.2.1 c0 = kX6 c0) (hs1 : G.2.2.1 c1 = kX0 c1) : gMi l G yX6_wearOf cX6_wearOf 3 Jvm.ClassFile.FieldType.int (gR 3 76) [.ref (G.1 c0), .ref (G.1 c1)] V (fX6_wearOf V c0 c1) := by
  unfold fX6_wearOf
  refine gM_i (by decide +kernel) rfl rfl (Nat.le_of_ble_eq_true rfl) (fun X rr VV C E => ?_)
  change gC cX6_wearOf 3 RX6 G X at C
  change gSm l (gR 3 76) 3 G X _ (rr, VV) V 0 [(0, .ref (G.1 c0)), (1, .ref (G.1 c1))] []
  refine s_aload_n (q := 1) C 0 dX6_wearOf_0 rfl rfl rfl ?_
  refine s_aload_n (q := 2) C 1 dX6_wearOf_1 rfl rfl rfl ?_
  refine geX0_3 (q := 5) C hs1 flX6_102 dX6_wearOf_2 rfl ?_
  refine s_Vr (q := 8) (As := [.int (V c1 3)]) (st := []) C (uX6_houseAt l G hG V c0 (V c1 3) hs0) yvX6_houseAt mlX6_57 hs0 rfl rfl (fun t => G.2.2.1 t = kX1 t) (rX6_houseAt G hG V c0 (V c1 3) hs0) rfl rfl rfl rfl (gR_le (by decide) (by decide)) (Nat.le_of_ble_eq_true rfl) dX6_wearOf_5 rfl (fun t1 V2 h3 => ?_)
  refine s_astore_n (q := 9) (L' := [(2, .ref (G.1 t1)), (0, .ref (G.1 c0)), (1, .ref (G.1 c1))]) C dX6_wearOf_8 rfl rfl (by decide) rfl ?_
  refine s_aload_n (q := 10) C 2 dX6_wearOf_9 rfl rfl rfl ?_
  refine s_aload_n (q := 11) C 0 dX6_wearOf_10 rfl rfl rfl ?_
  refine geX1_0 (q := 14) C h3 flX6_105 dX6_wearOf_11 rfl ?_
  refine s_aload_n (q := 15) C 1 dX6_wearOf_14 rfl rfl rfl ?_
  refine s_iconst (q := 16) (v := 1) C dX6_wearOf_15 rfl (by decide) ?_
  refine s_aload_n (q := 17) C 0 dX6_wearOf_16 rfl rfl rfl ?_
  refine geX1_1 (q := 20) C h3 flX6_108 dX6_wearOf_17 rfl ?_
  refine s_aload_n (q := 21) C 2 dX6_wearOf_20 rfl rfl rfl ?_
  refine geX0_2 (q := 24) C hs1 flX6_111 dX6_wearOf_21 rfl ?_
  refine s_aload_n (q := 25) C 1 dX6_wearOf_24 rfl rfl rfl ?_
  refine geX6_12 (q := 28) C hs0 flX6_88 dX6_wearOf_25 rfl ?_
  refine s_Vi (q := 31) (As := [.int 1, .int (V2 t1 1), .int (V2 c1 2), .int (V2 c0 12)]) (st := [.int (V2 t1 0), .ref (G.1 c1)]) C (uX6_given l G hG V2 c0 1 (V2 t1 1) (V2 c1 2) (V2 c0 12) hs0) yvX6_given mlX6_114 hs0 rfl rfl rfl rfl rfl rfl (gR_le (by decide) (by decide)) (Nat.le_of_ble_eq_true rfl) dX6_wearOf_28 rfl (fun x4 V5 => ?_)
  refine s_Vi (q := 34) (As := [.int (V2 t1 0), .int x4]) (st := []) C (uX0_wearWith l G hG V5 c1 (V2 t1 0) x4 hs1) yvX0_wearWith mlX6_118 hs1 rfl rfl rfl rfl rfl rfl (gR_le (by decide) (by decide)) (Nat.le_of_ble_eq_true rfl) dX6_wearOf_31 rfl (fun x6 V7 => ?_)
  exact s_iret C E dX6_wearOf_34
noncomputable def fX6_measureCakes_L1b (c0 : Nat) (B3 : gV → Int32 → Option gV) (V1 : gV) (x2 : Int32) : Option gV := if (V1 c0 9) ≤ x2 then (some V1) else (gbr (fX6_cakeAt V1 c0 x2) fun (t5 : Nat) (V6 : gV) => gbi (fX6_given V6 c0 0 (V6 t5 2) (V6 t5 1) (V6 t5 4)) fun (x8 : Int32) (V9 : gV) => gbv (fX0_measure V9 t5 x8) fun (V10 : gV) => B3 V10 ((x2 + 1)))
noncomputable def fX6_measureCakes_L1 (c0 : Nat) : Nat → gV → Int32 → Option gV
  | 0 => fun _ _ => none
  | n + 1 => fX6_measureCakes_L1b c0 (fX6_measureCakes_L1 c0 n)
noncomputable def fX6_measureCakes (V : gV) (c0 : Nat) : Option gV := fX6_measureCakes_L1 c0 gFu V 0
set_option maxHeartbeats 4000000 in
set_option maxRecDepth 100000 in
theorem uX6_measureCakes (l : Launch) (G : gG) (hG : gIsX G) (V : gV) (c0 : Nat) (hs0 : G.2.2.1 c0 = kX6 c0) : gMv l G yX6_measureCakes cX6_measureCakes 3 (gR 3 76) [.ref (G.1 c0)] V (fX6_measureCakes V c0) := by
  unfold fX6_measureCakes
  refine gM_v (by decide +kernel) rfl rfl (Nat.le_of_ble_eq_true rfl) (fun X VV C E => ?_)
  change gC cX6_measureCakes 3 RX6 G X at C
  change gSm l (gR 3 76) 3 G X _ VV V 0 [(0, .ref (G.1 c0))] []
  refine s_iconst (q := 1) (v := 0) C dX6_measureCakes_0 rfl (by decide) ?_
  refine s_istore_n (q := 2) (L' := [(1, .int 0), (0, .ref (G.1 c0))]) C dX6_measureCakes_1 rfl rfl (by decide) rfl ?_
  have hL1 : ∀ (n : Nat) (V1 : gV) (x2 : Int32), gSm l (gR 3 76) 3 G X (fX6_measureCakes_L1 c0 n V1 x2) VV V1 2 [(0, .ref (G.1 c0)), (1, .int x2)] [] := by
    intro n
    induction n with
    | zero => exact fun V1 x2 => s_none
    | succ n ih =>
      intro V1 x2
      show gSm l (gR 3 76) 3 G X (fX6_measureCakes_L1b c0 (fX6_measureCakes_L1 c0 n) V1 x2) VV V1 2 [(0, .ref (G.1 c0)), (1, .int x2)] []
      generalize fX6_measureCakes_L1 c0 n = B3 at ih ⊢
      have hB3 := ih
      unfold fX6_measureCakes_L1b
      refine s_iload_n (q := 3) C 1 dX6_measureCakes_2 rfl rfl rfl ?_
      refine s_aload_n (q := 4) C 0 dX6_measureCakes_3 rfl rfl rfl ?_
      refine geX6_9 (q := 7) C hs0 flX6_65 dX6_measureCakes_4 rfl ?_
      refine s_icmp_ge (tgt := 43) (q := 10) C dX6_measureCakes_7 (by decide) rfl (fun c4 => ?_) (fun c4 => ?_)
      · exact s_vret C E dX6_measureCakes_43
      · refine s_aload_n (q := 11) C 0 dX6_measureCakes_10 rfl rfl rfl ?_
        refine s_iload_n (q := 12) C 1 dX6_measureCakes_11 rfl rfl rfl ?_
        refine s_Vr (q := 15) (As := [.int x2]) (st := []) C (uX6_cakeAt l G hG V1 c0 x2 hs0) yvX6_cakeAt mlX6_68 hs0 rfl rfl (fun t => G.2.2.1 t = kX0 t) (rX6_cakeAt G hG V1 c0 x2 hs0) rfl rfl rfl rfl (gR_le (by decide) (by decide)) (Nat.le_of_ble_eq_true rfl) dX6_measureCakes_12 rfl (fun t5 V6 h7 => ?_)
        refine s_astore_n (q := 16) (L' := [(2, .ref (G.1 t5)), (0, .ref (G.1 c0)), (1, .int x2)]) C dX6_measureCakes_15 rfl rfl (by decide) rfl ?_
        refine s_aload_n (q := 17) C 0 dX6_measureCakes_16 rfl rfl rfl ?_
        refine s_aload_n (q := 18) C 1 dX6_measureCakes_17 rfl rfl rfl ?_
        refine s_iconst (q := 19) (v := 0) C dX6_measureCakes_18 rfl (by decide) ?_
        refine s_aload_n (q := 20) C 0 dX6_measureCakes_19 rfl rfl rfl ?_
        refine geX0_2 (q := 23) C h7 flX6_111 dX6_measureCakes_20 rfl ?_
        refine s_aload_n (q := 24) C 0 dX6_measureCakes_23 rfl rfl rfl ?_
        refine geX0_1 (q := 27) C h7 flX6_122 dX6_measureCakes_24 rfl ?_
        refine s_aload_n (q := 28) C 0 dX6_measureCakes_27 rfl rfl rfl ?_
        refine geX0_4 (q := 31) C h7 flX6_125 dX6_measureCakes_28 rfl ?_
        refine s_Vi (q := 34) (As := [.int 0, .int (V6 t5 2), .int (V6 t5 1), .int (V6 t5 4)]) (st := [.ref (G.1 t5)]) C (uX6_given l G hG V6 c0 0 (V6 t5 2) (V6 t5 1) (V6 t5 4) hs0) yvX6_given mlX6_114 hs0 rfl rfl rfl rfl rfl rfl (gR_le (by decide) (by decide)) (Nat.le_of_ble_eq_true rfl) dX6_measureCakes_31 rfl (fun x8 V9 => ?_)
        refine s_Vv (q := 37) (As := [.int x8]) (st := []) C (uX0_measure l G hG V9 t5 x8 h7) yvX0_measure mlX6_128 h7 rfl rfl rfl rfl rfl rfl (gR_le (by decide) (by decide)) (Nat.le_of_ble_eq_true rfl) dX6_measureCakes_34 rfl (fun V10 => ?_)
        refine s_iinc (q := 40) (w := 1) (L' := [(1, .int (x2 + 1)), (2, .ref (G.1 t5)), (0, .ref (G.1 c0))]) C 2 dX6_measureCakes_37 rfl rfl (by decide) rfl (by decide) rfl ?_
        refine s_goto (q := 2) C dX6_measureCakes_40 (by decide) ?_
        refine s_sub [2, 0] rfl ?_
        exact hB3 V10 ((x2 + 1))
  refine s_sub [1, 0] rfl ?_
  exact hL1 gFu V 0
noncomputable def fX6_passDay_L1b (c0 : Nat) (B3 : gV → Int32 → Option gV) (V1 : gV) (x2 : Int32) : Option gV := if (V1 c0 9) ≤ x2 then (gpu V1 c0 12 ((V1 c0 12) + 1) fun (V5 : gV) => some V5) else (gbr (fX6_cakeAt V1 c0 x2) fun (t6 : Nat) (V7 : gV) => gbi (fX0_isGone V7 t6) fun (x9 : Int32) (V10 : gV) => if x9 = 0 then (gbi (fX6_wearOf V10 c0 t6) fun (x12 : Int32) (V13 : gV) => gbv (fX0_wearBy V13 t6 x12) fun (V14 : gV) => B3 V14 ((x2 + 1))) else (B3 V10 ((x2 + 1))))
noncomputable def fX6_passDay_L1 (c0 : Nat) : Nat → gV → Int32 → Option gV
  | 0 => fun _ _ => none
  | n + 1 => fX6_passDay_L1b c0 (fX6_passDay_L1 c0 n)
noncomputable def fX6_passDay (V : gV) (c0 : Nat) : Option gV := fX6_passDay_L1 c0 gFu V 0
set_option maxHeartbeats 4000000 in
set_option maxRecDepth 100000 in
theorem uX6_passDay (l : Launch) (G : gG) (hG : gIsX G) (V : gV) (c0 : Nat) (hs0 : G.2.2.1 c0 = kX6 c0) : gMv l G yX6_passDay cX6_passDay 3 (gR 4 98) [.ref (G.1 c0)] V (fX6_passDay V c0) := by
  unfold fX6_passDay
  refine gM_v (by decide +kernel) rfl rfl (Nat.le_of_ble_eq_true rfl) (fun X VV C E => ?_)
  change gC cX6_passDay 3 RX6 G X at C
  change gSm l (gR 4 98) 3 G X _ VV V 0 [(0, .ref (G.1 c0))] []
  refine s_iconst (q := 1) (v := 0) C dX6_passDay_0 rfl (by decide) ?_
  refine s_istore_n (q := 2) (L' := [(1, .int 0), (0, .ref (G.1 c0))]) C dX6_passDay_1 rfl rfl (by decide) rfl ?_
  have hL1 : ∀ (n : Nat) (V1 : gV) (x2 : Int32), gSm l (gR 4 98) 3 G X (fX6_passDay_L1 c0 n V1 x2) VV V1 2 [(0, .ref (G.1 c0)), (1, .int x2)] [] := by
    intro n
    induction n with
    | zero => exact fun V1 x2 => s_none
    | succ n ih =>
      intro V1 x2
      show gSm l (gR 4 98) 3 G X (fX6_passDay_L1b c0 (fX6_passDay_L1 c0 n) V1 x2) VV V1 2 [(0, .ref (G.1 c0)), (1, .int x2)] []
      generalize fX6_passDay_L1 c0 n = B3 at ih ⊢
      have hB3 := ih
      unfold fX6_passDay_L1b
      refine s_iload_n (q := 3) C 1 dX6_passDay_2 rfl rfl rfl ?_
      refine s_aload_n (q := 4) C 0 dX6_passDay_3 rfl rfl rfl ?_
      refine geX6_9 (q := 7) C hs0 flX6_65 dX6_passDay_4 rfl ?_
      refine s_icmp_ge (tgt := 38) (q := 10) C dX6_passDay_7 (by decide) rfl (fun c4 => ?_) (fun c4 => ?_)
      · refine s_aload_n (q := 39) C 0 dX6_passDay_38 rfl rfl rfl ?_
        refine s_dup (q := 40) C dX6_passDay_39 rfl rfl ?_
        refine geX6_12 (q := 43) C hs0 flX6_88 dX6_passDay_40 rfl ?_
        refine s_iconst (q := 44) (v := 1) C dX6_passDay_43 rfl (by decide) ?_
        refine s_iadd (q := 45) C dX6_passDay_44 rfl ?_
        refine peX6_12 (q := 48) C hs0 flX6_88 dX6_passDay_45 rfl (fun V5 => ?_)
        exact s_vret C E dX6_passDay_48
      · refine s_aload_n (q := 11) C 0 dX6_passDay_10 rfl rfl rfl ?_
        refine s_iload_n (q := 12) C 1 dX6_passDay_11 rfl rfl rfl ?_
        refine s_Vr (q := 15) (As := [.int x2]) (st := []) C (uX6_cakeAt l G hG V1 c0 x2 hs0) yvX6_cakeAt mlX6_68 hs0 rfl rfl (fun t => G.2.2.1 t = kX0 t) (rX6_cakeAt G hG V1 c0 x2 hs0) rfl rfl rfl rfl (gR_le (by decide) (by decide)) (Nat.le_of_ble_eq_true rfl) dX6_passDay_12 rfl (fun t6 V7 h8 => ?_)
        refine s_astore_n (q := 16) (L' := [(2, .ref (G.1 t6)), (0, .ref (G.1 c0)), (1, .int x2)]) C dX6_passDay_15 rfl rfl (by decide) rfl ?_
        refine s_aload_n (q := 17) C 0 dX6_passDay_16 rfl rfl rfl ?_
        refine s_Vi (q := 20) (As := []) (st := []) C (uX0_isGone l G hG V7 t6 h8) yvX0_isGone mlX6_132 h8 rfl rfl rfl rfl rfl rfl (gR_le (by decide) (by decide)) (Nat.le_of_ble_eq_true rfl) dX6_passDay_17 rfl (fun x9 V10 => ?_)
        refine s_if_ne (tgt := 32) (q := 23) C dX6_passDay_20 (by decide) rfl (fun c11 => ?_) (fun c11 => ?_)
        · refine s_aload_n (q := 24) C 0 dX6_passDay_23 rfl rfl rfl ?_
          refine s_aload_n (q := 25) C 1 dX6_passDay_24 rfl rfl rfl ?_
          refine s_aload_n (q := 26) C 0 dX6_passDay_25 rfl rfl rfl ?_
          refine s_Vi (q := 29) (As := [.ref (G.1 t6)]) (st := [.ref (G.1 t6)]) C (uX6_wearOf l G hG V10 c0 t6 hs0 h8) yvX6_wearOf mlX6_135 hs0 rfl rfl rfl rfl rfl rfl (gR_le (by decide) (by decide)) (Nat.le_of_ble_eq_true rfl) dX6_passDay_26 rfl (fun x12 V13 => ?_)
          refine s_Vv (q := 32) (As := [.int x12]) (st := []) C (uX0_wearBy l G hG V13 t6 x12 h8) yvX0_wearBy mlX6_139 h8 rfl rfl rfl rfl rfl rfl (gR_le (by decide) (by decide)) (Nat.le_of_ble_eq_true rfl) dX6_passDay_29 rfl (fun V14 => ?_)
          refine s_iinc (q := 35) (w := 1) (L' := [(1, .int (x2 + 1)), (2, .ref (G.1 t6)), (0, .ref (G.1 c0))]) C 2 dX6_passDay_32 rfl rfl (by decide) rfl (by decide) rfl ?_
          refine s_goto (q := 2) C dX6_passDay_35 (by decide) ?_
          refine s_sub [2, 0] rfl ?_
          exact hB3 V14 ((x2 + 1))
        · refine s_iinc (q := 35) (w := 1) (L' := [(1, .int (x2 + 1)), (2, .ref (G.1 t6)), (0, .ref (G.1 c0))]) C 2 dX6_passDay_32 rfl rfl (by decide) rfl (by decide) rfl ?_
          refine s_goto (q := 2) C dX6_passDay_35 (by decide) ?_
          refine s_sub [2, 0] rfl ?_
          exact hB3 V10 ((x2 + 1))
  refine s_sub [1, 0] rfl ?_
  exact hL1 gFu V 0
noncomputable def fX6_wearOfDays_L1b (c0 : Nat) (c1 : Nat) (a2 : Int32) (B4 : gV → Int32 → Int32 → Option (Int32 × gV)) (V1 : gV) (x2 : Int32) (x3 : Int32) : Option (Int32 × gV) := if a2 ≤ x3 then (some (x2, V1)) else (gbi (fX6_wearOf V1 c0 c1) fun (x6 : Int32) (V7 : gV) => glt (x2 + x6) fun (x8 : Int32) => gpu V7 c0 12 ((V7 c0 12) + 1) fun (V9 : gV) => B4 V9 x8 ((x3 + 1)))
noncomputable def fX6_wearOfDays_L1 (c0 : Nat) (c1 : Nat) (a2 : Int32) : Nat → gV → Int32 → Int32 → Option (Int32 × gV)
  | 0 => fun _ _ _ => none
  | n + 1 => fX6_wearOfDays_L1b c0 c1 a2 (fX6_wearOfDays_L1 c0 c1 a2 n)
noncomputable def fX6_wearOfDays (V : gV) (c0 : Nat) (c1 : Nat) (a2 : Int32) : Option (Int32 × gV) := fX6_wearOfDays_L1 c0 c1 a2 gFu V 0 0
set_option maxHeartbeats 4000000 in
set_option maxRecDepth 100000 in
theorem uX6_wearOfDays (l : Launch) (G : gG) (hG : gIsX G) (V : gV) (c0 : Nat) (c1 : Nat) (a2 : Int32) (hs0 : G.2.2.1 c0 = kX6 c0) (hs1 : G.2.2.1 c1 = kX0 c1) : gMi l G yX6_wearOfDays cX6_wearOfDays 5 Jvm.ClassFile.FieldType.int (gR 4 98) [.ref (G.1 c0), .ref (G.1 c1), .int a2] V (fX6_wearOfDays V c0 c1 a2) := by
  unfold fX6_wearOfDays
  refine gM_i (by decide +kernel) rfl rfl (Nat.le_of_ble_eq_true rfl) (fun X rr VV C E => ?_)
  change gC cX6_wearOfDays 5 RX6 G X at C
  change gSm l (gR 4 98) 5 G X _ (rr, VV) V 0 [(0, .ref (G.1 c0)), (1, .ref (G.1 c1)), (2, .int a2)] []
  refine s_iconst (q := 1) (v := 0) C dX6_wearOfDays_0 rfl (by decide) ?_
  refine s_istore_n (q := 2) (L' := [(3, .int 0), (0, .ref (G.1 c0)), (1, .ref (G.1 c1)), (2, .int a2)]) C dX6_wearOfDays_1 rfl rfl (by decide) rfl ?_
  refine s_iconst (q := 3) (v := 0) C dX6_wearOfDays_2 rfl (by decide) ?_
  refine s_istore (q := 5) (L' := [(4, .int 0), (3, .int 0), (0, .ref (G.1 c0)), (1, .ref (G.1 c1)), (2, .int a2)]) C dX6_wearOfDays_3 rfl (by decide) rfl ?_
  have hL1 : ∀ (n : Nat) (V1 : gV) (x2 : Int32) (x3 : Int32), gSm l (gR 4 98) 5 G X (fX6_wearOfDays_L1 c0 c1 a2 n V1 x2 x3) (rr, VV) V1 5 [(0, .ref (G.1 c0)), (1, .ref (G.1 c1)), (2, .int a2), (3, .int x2), (4, .int x3)] [] := by
    intro n
    induction n with
    | zero => exact fun V1 x2 x3 => s_none
    | succ n ih =>
      intro V1 x2 x3
      show gSm l (gR 4 98) 5 G X (fX6_wearOfDays_L1b c0 c1 a2 (fX6_wearOfDays_L1 c0 c1 a2 n) V1 x2 x3) (rr, VV) V1 5 [(0, .ref (G.1 c0)), (1, .ref (G.1 c1)), (2, .int a2), (3, .int x2), (4, .int x3)] []
      generalize fX6_wearOfDays_L1 c0 c1 a2 n = B4 at ih ⊢
      have hB4 := ih
      unfold fX6_wearOfDays_L1b
      refine s_iload (q := 7) C 4 dX6_wearOfDays_5 rfl rfl ?_
      refine s_iload_n (q := 8) C 2 dX6_wearOfDays_7 rfl rfl rfl ?_
      refine s_icmp_ge (tgt := 35) (q := 11) C dX6_wearOfDays_8 (by decide) rfl (fun c5 => ?_) (fun c5 => ?_)
      · refine s_iload_n (q := 36) C 3 dX6_wearOfDays_35 rfl rfl rfl ?_
        exact s_iret C E dX6_wearOfDays_36
      · refine s_iload_n (q := 12) C 3 dX6_wearOfDays_11 rfl rfl rfl ?_
        refine s_aload_n (q := 13) C 0 dX6_wearOfDays_12 rfl rfl rfl ?_
        refine s_aload_n (q := 14) C 1 dX6_wearOfDays_13 rfl rfl rfl ?_
        refine s_Vi (q := 17) (As := [.ref (G.1 c1)]) (st := [.int x2]) C (uX6_wearOf l G hG V1 c0 c1 hs0 hs1) yvX6_wearOf mlX6_135 hs0 rfl rfl rfl rfl rfl rfl (gR_le (by decide) (by decide)) (Nat.le_of_ble_eq_true rfl) dX6_wearOfDays_14 rfl (fun x6 V7 => ?_)
        refine s_iadd (q := 18) C dX6_wearOfDays_17 rfl ?_
        refine s_lt (fun x8 => ?_)
        refine s_istore_n (q := 19) (L' := [(3, .int x8), (0, .ref (G.1 c0)), (1, .ref (G.1 c1)), (2, .int a2), (4, .int x3)]) C dX6_wearOfDays_18 rfl rfl (by decide) rfl ?_
        refine s_aload_n (q := 20) C 1 dX6_wearOfDays_19 rfl rfl rfl ?_
        refine s_dup (q := 21) C dX6_wearOfDays_20 rfl rfl ?_
        refine geX6_12 (q := 24) C hs0 flX6_88 dX6_wearOfDays_21 rfl ?_
        refine s_iconst (q := 25) (v := 1) C dX6_wearOfDays_24 rfl (by decide) ?_
        refine s_iadd (q := 26) C dX6_wearOfDays_25 rfl ?_
        refine peX6_12 (q := 29) C hs0 flX6_88 dX6_wearOfDays_26 rfl (fun V9 => ?_)
        refine s_iinc (q := 32) (w := 1) (L' := [(4, .int (x3 + 1)), (3, .int x8), (0, .ref (G.1 c0)), (1, .ref (G.1 c1)), (2, .int a2)]) C 4 dX6_wearOfDays_29 rfl rfl (by decide) rfl (by decide) rfl ?_
        refine s_goto (q := 5) C dX6_wearOfDays_32 (by decide) ?_
        refine s_sub [2, 3, 4, 1, 0] rfl ?_
        exact hB4 V9 x8 ((x3 + 1))
  refine s_sub [2, 3, 4, 1, 0] rfl ?_
  exact hL1 gFu V 0 0
noncomputable def fX6_passDays_L1b (c0 : Nat) (a1 : Int32) (B3 : gV → Int32 → Option gV) (V1 : gV) (x2 : Int32) : Option gV := if a1 ≤ x2 then (some V1) else (gbv (fX6_passDay V1 c0) fun (V5 : gV) => B3 V5 ((x2 + 1)))
noncomputable def fX6_passDays_L1 (c0 : Nat) (a1 : Int32) : Nat → gV → Int32 → Option gV
  | 0 => fun _ _ => none
  | n + 1 => fX6_passDays_L1b c0 a1 (fX6_passDays_L1 c0 a1 n)
noncomputable def fX6_passDays (V : gV) (c0 : Nat) (a1 : Int32) : Option gV := fX6_passDays_L1 c0 a1 gFu V 0
set_option maxHeartbeats 4000000 in
set_option maxRecDepth 100000 in
theorem uX6_passDays (l : Launch) (G : gG) (hG : gIsX G) (V : gV) (c0 : Nat) (a1 : Int32) (hs0 : G.2.2.1 c0 = kX6 c0) : gMv l G yX6_passDays cX6_passDays 3 (gR 5 120) [.ref (G.1 c0), .int a1] V (fX6_passDays V c0 a1) := by
  unfold fX6_passDays
  refine gM_v (by decide +kernel) rfl rfl (Nat.le_of_ble_eq_true rfl) (fun X VV C E => ?_)
  change gC cX6_passDays 3 RX6 G X at C
  change gSm l (gR 5 120) 3 G X _ VV V 0 [(0, .ref (G.1 c0)), (1, .int a1)] []
  refine s_iconst (q := 1) (v := 0) C dX6_passDays_0 rfl (by decide) ?_
  refine s_istore_n (q := 2) (L' := [(2, .int 0), (0, .ref (G.1 c0)), (1, .int a1)]) C dX6_passDays_1 rfl rfl (by decide) rfl ?_
  have hL1 : ∀ (n : Nat) (V1 : gV) (x2 : Int32), gSm l (gR 5 120) 3 G X (fX6_passDays_L1 c0 a1 n V1 x2) VV V1 2 [(0, .ref (G.1 c0)), (1, .int a1), (2, .int x2)] [] := by
    intro n
    induction n with
    | zero => exact fun V1 x2 => s_none
    | succ n ih =>
      intro V1 x2
      show gSm l (gR 5 120) 3 G X (fX6_passDays_L1b c0 a1 (fX6_passDays_L1 c0 a1 n) V1 x2) VV V1 2 [(0, .ref (G.1 c0)), (1, .int a1), (2, .int x2)] []
      generalize fX6_passDays_L1 c0 a1 n = B3 at ih ⊢
      have hB3 := ih
      unfold fX6_passDays_L1b
      refine s_iload_n (q := 3) C 2 dX6_passDays_2 rfl rfl rfl ?_
      refine s_iload_n (q := 4) C 1 dX6_passDays_3 rfl rfl rfl ?_
      refine s_icmp_ge (tgt := 17) (q := 7) C dX6_passDays_4 (by decide) rfl (fun c4 => ?_) (fun c4 => ?_)
      · exact s_vret C E dX6_passDays_17
      · refine s_aload_n (q := 8) C 0 dX6_passDays_7 rfl rfl rfl ?_
        refine s_Vv (q := 11) (As := []) (st := []) C (uX6_passDay l G hG V1 c0 hs0) yvX6_passDay mlX6_142 hs0 rfl rfl rfl rfl rfl rfl (gR_le (by decide) (by decide)) (Nat.le_of_ble_eq_true rfl) dX6_passDays_8 rfl (fun V5 => ?_)
        refine s_iinc (q := 14) (w := 1) (L' := [(2, .int (x2 + 1)), (0, .ref (G.1 c0)), (1, .int a1)]) C 2 dX6_passDays_11 rfl rfl (by decide) rfl (by decide) rfl ?_
        refine s_goto (q := 2) C dX6_passDays_14 (by decide) ?_
        refine s_sub [1, 2, 0] rfl ?_
        exact hB3 V5 ((x2 + 1))
  refine s_sub [1, 2, 0] rfl ?_
  exact hL1 gFu V 0
noncomputable def fX6_draw (V : gV) (c0 : Nat) : Option (Int32 × gV) := gpu V c0 13 (((V c0 13) * 1103515245) + 12345) fun (V1 : gV) => some ((gus (V1 c0 13) 8), V1)
set_option maxHeartbeats 4000000 in
set_option maxRecDepth 100000 in
theorem uX6_draw (l : Launch) (G : gG) (hG : gIsX G) (V : gV) (c0 : Nat) (hs0 : G.2.2.1 c0 = kX6 c0) : gMi l G yX6_draw cX6_draw 1 Jvm.ClassFile.FieldType.int (gR 0 0) [.ref (G.1 c0)] V (fX6_draw V c0) := by
  unfold fX6_draw
  refine gM_i (by decide +kernel) rfl rfl (Nat.le_of_ble_eq_true rfl) (fun X rr VV C E => ?_)
  change gC cX6_draw 1 RX6 G X at C
  change gSm l (gR 0 0) 1 G X _ (rr, VV) V 0 [(0, .ref (G.1 c0))] []
  refine s_aload_n (q := 1) C 0 dX6_draw_0 rfl rfl rfl ?_
  refine s_aload_n (q := 2) C 0 dX6_draw_1 rfl rfl rfl ?_
  refine geX6_13 (q := 5) C hs0 flX6_50 dX6_draw_2 rfl ?_
  refine s_ldc (q := 7) (v := 1103515245) C dX6_draw_5 rfl kX6_145 ?_
  refine s_imul (q := 8) C dX6_draw_7 rfl ?_
  refine s_sipush (q := 11) (v := 12345) C dX6_draw_8 rfl (by decide) ?_
  refine s_iadd (q := 12) C dX6_draw_11 rfl ?_
  refine peX6_13 (q := 15) C hs0 flX6_50 dX6_draw_12 rfl (fun V1 => ?_)
  refine s_aload_n (q := 16) C 0 dX6_draw_15 rfl rfl rfl ?_
  refine geX6_13 (q := 19) C hs0 flX6_50 dX6_draw_16 rfl ?_
  refine s_bipush (q := 21) (v := 8) C dX6_draw_19 rfl (by decide) ?_
  refine s_iushr (q := 22) C dX6_draw_21 rfl ?_
  exact s_iret C E dX6_draw_22
noncomputable def fX6_drawHands (V : gV) (c0 : Nat) : Option gV := if (V c0 8) ≤ 0 then (some V) else (gbi (fX6_draw V c0) fun (x2 : Int32) (V3 : gV) => gdv (V3 c0 8) <| gbr (fX6_houseAt V3 c0 (grm x2 (V3 c0 8))) fun (t4 : Nat) (V5 : gV) => gbi (fX6_draw V5 c0) fun (x7 : Int32) (V8 : gV) => gdv 10 <| gpu V8 t4 0 (grm x7 10) fun (V9 : gV) => some V9)
set_option maxHeartbeats 4000000 in
set_option maxRecDepth 100000 in
theorem uX6_drawHands (l : Launch) (G : gG) (hG : gIsX G) (V : gV) (c0 : Nat) (hs0 : G.2.2.1 c0 = kX6 c0) : gMv l G yX6_drawHands cX6_drawHands 2 (gR 1 21) [.ref (G.1 c0)] V (fX6_drawHands V c0) := by
  unfold fX6_drawHands
  refine gM_v (by decide +kernel) rfl rfl (Nat.le_of_ble_eq_true rfl) (fun X VV C E => ?_)
  change gC cX6_drawHands 2 RX6 G X at C
  change gSm l (gR 1 21) 2 G X _ VV V 0 [(0, .ref (G.1 c0))] []
  refine s_aload_n (q := 1) C 0 dX6_drawHands_0 rfl rfl rfl ?_
  refine geX6_8 (q := 4) C hs0 flX6_54 dX6_drawHands_1 rfl ?_
  refine s_if_le (tgt := 32) (q := 7) C dX6_drawHands_4 (by decide) rfl (fun c1 => ?_) (fun c1 => ?_)
  · exact s_vret C E dX6_drawHands_32
  · refine s_aload_n (q := 8) C 0 dX6_drawHands_7 rfl rfl rfl ?_
    refine s_aload_n (q := 9) C 0 dX6_drawHands_8 rfl rfl rfl ?_
    refine s_Vi (q := 12) (As := []) (st := [.ref (G.1 c0)]) C (uX6_draw l G hG V c0 hs0) yvX6_draw mlX6_146 hs0 rfl rfl rfl rfl rfl rfl (gR_le (by decide) (by decide)) (Nat.le_of_ble_eq_true rfl) dX6_drawHands_9 rfl (fun x2 V3 => ?_)
    refine s_aload_n (q := 13) C 0 dX6_drawHands_12 rfl rfl rfl ?_
    refine geX6_8 (q := 16) C hs0 flX6_54 dX6_drawHands_13 rfl ?_
    refine s_irem (q := 17) C dX6_drawHands_16 rfl ?_
    refine s_Vr (q := 20) (As := [.int (grm x2 (V3 c0 8))]) (st := []) C (uX6_houseAt l G hG V3 c0 (grm x2 (V3 c0 8)) hs0) yvX6_houseAt mlX6_57 hs0 rfl rfl (fun t => G.2.2.1 t = kX1 t) (rX6_houseAt G hG V3 c0 (grm x2 (V3 c0 8)) hs0) rfl rfl rfl rfl (gR_le (by decide) (by decide)) (Nat.le_of_ble_eq_true rfl) dX6_drawHands_17 rfl (fun t4 V5 h6 => ?_)
    refine s_astore_n (q := 21) (L' := [(1, .ref (G.1 t4)), (0, .ref (G.1 c0))]) C dX6_drawHands_20 rfl rfl (by decide) rfl ?_
    refine s_aload_n (q := 22) C 0 dX6_drawHands_21 rfl rfl rfl ?_
    refine s_aload_n (q := 23) C 1 dX6_drawHands_22 rfl rfl rfl ?_
    refine s_Vi (q := 26) (As := []) (st := [.ref (G.1 t4)]) C (uX6_draw l G hG V5 c0 hs0) yvX6_draw mlX6_146 hs0 rfl rfl rfl rfl rfl rfl (gR_le (by decide) (by decide)) (Nat.le_of_ble_eq_true rfl) dX6_drawHands_23 rfl (fun x7 V8 => ?_)
    refine s_bipush (q := 28) (v := 10) C dX6_drawHands_26 rfl (by decide) ?_
    refine s_irem (q := 29) C dX6_drawHands_28 rfl ?_
    refine peX1_0 (q := 32) C h6 flX6_105 dX6_drawHands_29 rfl (fun V9 => ?_)
    exact s_vret C E dX6_drawHands_32
noncomputable def fX6_stillHands_L1b (c0 : Nat) (a1 : Int32) (B3 : gV → Int32 → Option gV) (V1 : gV) (x2 : Int32) : Option gV := if (V1 c0 8) ≤ x2 then (some V1) else (if (a1 &&& (1 <<< (x2 &&& 31))) = 0 then (B3 V1 ((x2 + 1))) else (gbr (fX6_houseAt V1 c0 x2) fun (t6 : Nat) (V7 : gV) => gpu V7 t6 0 0 fun (V9 : gV) => B3 V9 ((x2 + 1))))
noncomputable def fX6_stillHands_L1 (c0 : Nat) (a1 : Int32) : Nat → gV → Int32 → Option gV
  | 0 => fun _ _ => none
  | n + 1 => fX6_stillHands_L1b c0 a1 (fX6_stillHands_L1 c0 a1 n)
noncomputable def fX6_stillHands (V : gV) (c0 : Nat) (a1 : Int32) : Option gV := fX6_stillHands_L1 c0 a1 gFu V 0
set_option maxHeartbeats 4000000 in
set_option maxRecDepth 100000 in
theorem uX6_stillHands (l : Launch) (G : gG) (hG : gIsX G) (V : gV) (c0 : Nat) (a1 : Int32) (hs0 : G.2.2.1 c0 = kX6 c0) : gMv l G yX6_stillHands cX6_stillHands 3 (gR 1 21) [.ref (G.1 c0), .int a1] V (fX6_stillHands V c0 a1) := by
  unfold fX6_stillHands
  refine gM_v (by decide +kernel) rfl rfl (Nat.le_of_ble_eq_true rfl) (fun X VV C E => ?_)
  change gC cX6_stillHands 3 RX6 G X at C
  change gSm l (gR 1 21) 3 G X _ VV V 0 [(0, .ref (G.1 c0)), (1, .int a1)] []
  refine s_iconst (q := 1) (v := 0) C dX6_stillHands_0 rfl (by decide) ?_
  refine s_istore_n (q := 2) (L' := [(2, .int 0), (0, .ref (G.1 c0)), (1, .int a1)]) C dX6_stillHands_1 rfl rfl (by decide) rfl ?_
  have hL1 : ∀ (n : Nat) (V1 : gV) (x2 : Int32), gSm l (gR 1 21) 3 G X (fX6_stillHands_L1 c0 a1 n V1 x2) VV V1 2 [(0, .ref (G.1 c0)), (1, .int a1), (2, .int x2)] [] := by
    intro n
    induction n with
    | zero => exact fun V1 x2 => s_none
    | succ n ih =>
      intro V1 x2
      show gSm l (gR 1 21) 3 G X (fX6_stillHands_L1b c0 a1 (fX6_stillHands_L1 c0 a1 n) V1 x2) VV V1 2 [(0, .ref (G.1 c0)), (1, .int a1), (2, .int x2)] []
      generalize fX6_stillHands_L1 c0 a1 n = B3 at ih ⊢
      have hB3 := ih
      unfold fX6_stillHands_L1b
      refine s_iload_n (q := 3) C 2 dX6_stillHands_2 rfl rfl rfl ?_
      refine s_aload_n (q := 4) C 0 dX6_stillHands_3 rfl rfl rfl ?_
      refine geX6_8 (q := 7) C hs0 flX6_54 dX6_stillHands_4 rfl ?_
      refine s_icmp_ge (tgt := 33) (q := 10) C dX6_stillHands_7 (by decide) rfl (fun c4 => ?_) (fun c4 => ?_)
      · exact s_vret C E dX6_stillHands_33
      · refine s_iload_n (q := 11) C 1 dX6_stillHands_10 rfl rfl rfl ?_
        refine s_iconst (q := 12) (v := 1) C dX6_stillHands_11 rfl (by decide) ?_
        refine s_iload_n (q := 13) C 2 dX6_stillHands_12 rfl rfl rfl ?_
        refine s_ishl (q := 14) C dX6_stillHands_13 rfl ?_
        refine s_iand (q := 15) C dX6_stillHands_14 rfl ?_
        refine s_if_eq (tgt := 27) (q := 18) C dX6_stillHands_15 (by decide) rfl (fun c5 => ?_) (fun c5 => ?_)
        · refine s_iinc (q := 30) (w := 1) (L' := [(2, .int (x2 + 1)), (0, .ref (G.1 c0)), (1, .int a1)]) C 2 dX6_stillHands_27 rfl rfl (by decide) rfl (by decide) rfl ?_
          refine s_goto (q := 2) C dX6_stillHands_30 (by decide) ?_
          refine s_sub [1, 2, 0] rfl ?_
          exact hB3 V1 ((x2 + 1))
        · refine s_aload_n (q := 19) C 0 dX6_stillHands_18 rfl rfl rfl ?_
          refine s_iload_n (q := 20) C 2 dX6_stillHands_19 rfl rfl rfl ?_
          refine s_Vr (q := 23) (As := [.int x2]) (st := []) C (uX6_houseAt l G hG V1 c0 x2 hs0) yvX6_houseAt mlX6_57 hs0 rfl rfl (fun t => G.2.2.1 t = kX1 t) (rX6_houseAt G hG V1 c0 x2 hs0) rfl rfl rfl rfl (gR_le (by decide) (by decide)) (Nat.le_of_ble_eq_true rfl) dX6_stillHands_20 rfl (fun t6 V7 h8 => ?_)
          refine s_iconst (q := 24) (v := 0) C dX6_stillHands_23 rfl (by decide) ?_
          refine peX1_0 (q := 27) C h8 flX6_105 dX6_stillHands_24 rfl (fun V9 => ?_)
          refine s_iinc (q := 30) (w := 1) (L' := [(2, .int (x2 + 1)), (0, .ref (G.1 c0)), (1, .int a1)]) C 2 dX6_stillHands_27 rfl rfl (by decide) rfl (by decide) rfl ?_
          refine s_goto (q := 2) C dX6_stillHands_30 (by decide) ?_
          refine s_sub [1, 2, 0] rfl ?_
          exact hB3 V9 ((x2 + 1))
  refine s_sub [1, 2, 0] rfl ?_
  exact hL1 gFu V 0

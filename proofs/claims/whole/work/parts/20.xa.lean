noncomputable def fX0_makeNew (V : gV) (c0 : Nat) (a1 : Int32) (a2 : Int32) (a3 : Int32) : Option gV := gpu V c0 1 a1 fun (V1 : gV) => gpu V1 c0 2 a2 fun (V2 : gV) => gpu V2 c0 3 a3 fun (V3 : gV) => gpu V3 c0 4 0 fun (V4 : gV) => gpu V4 c0 5 0 fun (V5 : gV) => some V5
set_option maxHeartbeats 4000000 in
set_option maxRecDepth 100000 in
theorem uX0_makeNew (l : Launch) (G : gG) (hG : gIsX G) (V : gV) (c0 : Nat) (a1 : Int32) (a2 : Int32) (a3 : Int32) (hs0 : G.2.2.1 c0 = kX0 c0) : gMv l G yX0_makeNew cX0_makeNew 4 (gR 0 0) [.ref (G.1 c0), .int a1, .int a2, .int a3] V (fX0_makeNew V c0 a1 a2 a3) := by
  unfold fX0_makeNew
  refine gM_v (by decide +kernel) rfl rfl (Nat.le_of_ble_eq_true rfl) (fun X VV C E => ?_)
  change gC cX0_makeNew 4 RX0 G X at C
  change gSm l (gR 0 0) 4 G X _ VV V 0 [(0, .ref (G.1 c0)), (1, .int a1), (2, .int a2), (3, .int a3)] []
  refine s_aload_n (q := 1) C 0 dX0_makeNew_0 rfl rfl rfl ?_
  refine s_iload_n (q := 2) C 1 dX0_makeNew_1 rfl rfl rfl ?_
  refine peX0_1 (q := 5) C hs0 flX0_19 dX0_makeNew_2 rfl (fun V1 => ?_)
  refine s_aload_n (q := 6) C 0 dX0_makeNew_5 rfl rfl rfl ?_
  refine s_iload_n (q := 7) C 2 dX0_makeNew_6 rfl rfl rfl ?_
  refine peX0_2 (q := 10) C hs0 flX0_22 dX0_makeNew_7 rfl (fun V2 => ?_)
  refine s_aload_n (q := 11) C 0 dX0_makeNew_10 rfl rfl rfl ?_
  refine s_iload_n (q := 12) C 3 dX0_makeNew_11 rfl rfl rfl ?_
  refine peX0_3 (q := 15) C hs0 flX0_25 dX0_makeNew_12 rfl (fun V3 => ?_)
  refine s_aload_n (q := 16) C 0 dX0_makeNew_15 rfl rfl rfl ?_
  refine s_iconst (q := 17) (v := 0) C dX0_makeNew_16 rfl (by decide) ?_
  refine peX0_4 (q := 20) C hs0 flX0_28 dX0_makeNew_17 rfl (fun V4 => ?_)
  refine s_aload_n (q := 21) C 0 dX0_makeNew_20 rfl rfl rfl ?_
  refine s_iconst (q := 22) (v := 0) C dX0_makeNew_21 rfl (by decide) ?_
  refine peX0_5 (q := 25) C hs0 flX0_31 dX0_makeNew_22 rfl (fun V5 => ?_)
  exact s_vret C E dX0_makeNew_25
noncomputable def fX7_copyPart (V : gV) (c0 n0 : Nat) (a1 : Int32) (c2 n2 : Nat) (a3 : Int32) (a4 : Int32) : Option gV := if a4 < 0 then (some V) else (if a1 < 0 then (some V) else (if a3 < 0 then (some V) else (if ((Int32.ofNat n0) - a1) < a4 then (some V) else (if ((Int32.ofNat n2) - a3) < a4 then (some V) else (gcp V c0 n0 a1 c2 n2 a3 a4 fun (V6 : gV) => some V6)))))
set_option maxHeartbeats 4000000 in
set_option maxRecDepth 100000 in
theorem uX7_copyPart (l : Launch) (G : gG) (hG : gIsX G) (V : gV) (c0 n0 : Nat) (a1 : Int32) (c2 n2 : Nat) (a3 : Int32) (a4 : Int32) (hs0 : G.2.2.1 c0 = (some (.inl n0) : gK)) (hs2 : G.2.2.1 c2 = (some (.inl n2) : gK)) (hm2 : c2 < G.2.2.2.1) : gMv l G yX7_copyPart cX7_copyPart 5 (gR 1 100) [.ref (G.1 c0), .int a1, .ref (G.1 c2), .int a3, .int a4] V (fX7_copyPart V c0 n0 a1 c2 n2 a3 a4) := by
  unfold fX7_copyPart
  refine gM_v (by decide +kernel) rfl rfl (Nat.le_of_ble_eq_true rfl) (fun X VV C E => ?_)
  change gC cX7_copyPart 5 RX7 G X at C
  change gSm l (gR 1 100) 5 G X _ VV V 0 [(0, .ref (G.1 c0)), (1, .int a1), (2, .ref (G.1 c2)), (3, .int a3), (4, .int a4)] []
  refine s_iload (q := 2) C 4 dX7_copyPart_0 rfl rfl ?_
  refine s_if_lt (tgt := 40) (q := 5) C dX7_copyPart_2 (by decide) rfl (fun c1 => ?_) (fun c1 => ?_)
  · exact s_vret C E dX7_copyPart_40
  · refine s_iload_n (q := 6) C 1 dX7_copyPart_5 rfl rfl rfl ?_
    refine s_if_lt (tgt := 40) (q := 9) C dX7_copyPart_6 (by decide) rfl (fun c2 => ?_) (fun c2 => ?_)
    · exact s_vret C E dX7_copyPart_40
    · refine s_iload_n (q := 10) C 3 dX7_copyPart_9 rfl rfl rfl ?_
      refine s_if_lt (tgt := 40) (q := 13) C dX7_copyPart_10 (by decide) rfl (fun c3 => ?_) (fun c3 => ?_)
      · exact s_vret C E dX7_copyPart_40
      · refine s_iload (q := 15) C 4 dX7_copyPart_13 rfl rfl ?_
        refine s_aload_n (q := 16) C 0 dX7_copyPart_15 rfl rfl rfl ?_
        refine s_alen (q := 17) C hs0 rfl dX7_copyPart_16 rfl ?_
        refine s_iload_n (q := 18) C 1 dX7_copyPart_17 rfl rfl rfl ?_
        refine s_isub (q := 19) C dX7_copyPart_18 rfl ?_
        refine s_icmp_gt (tgt := 40) (q := 22) C dX7_copyPart_19 (by decide) rfl (fun c4 => ?_) (fun c4 => ?_)
        · exact s_vret C E dX7_copyPart_40
        · refine s_iload (q := 24) C 4 dX7_copyPart_22 rfl rfl ?_
          refine s_aload_n (q := 25) C 2 dX7_copyPart_24 rfl rfl rfl ?_
          refine s_alen (q := 26) C hs2 rfl dX7_copyPart_25 rfl ?_
          refine s_iload_n (q := 27) C 3 dX7_copyPart_26 rfl rfl rfl ?_
          refine s_isub (q := 28) C dX7_copyPart_27 rfl ?_
          refine s_icmp_gt (tgt := 40) (q := 31) C dX7_copyPart_28 (by decide) rfl (fun c5 => ?_) (fun c5 => ?_)
          · exact s_vret C E dX7_copyPart_40
          · refine s_aload_n (q := 32) C 0 dX7_copyPart_31 rfl rfl rfl ?_
            refine s_iload_n (q := 33) C 1 dX7_copyPart_32 rfl rfl rfl ?_
            refine s_aload_n (q := 34) C 2 dX7_copyPart_33 rfl rfl rfl ?_
            refine s_iload_n (q := 35) C 3 dX7_copyPart_34 rfl rfl rfl ?_
            refine s_iload (q := 37) C 4 dX7_copyPart_35 rfl rfl ?_
            refine s_copy (q := 40) C hs0 hs2 hm2 jlX7_339 js_1 js_2 js_init ⟨by decide, Nat.le_of_ble_eq_true rfl⟩ dX7_copyPart_37 rfl (fun V6 => ?_)
            exact s_vret C E dX7_copyPart_40
noncomputable def fX7_copyRow (V : gV) (c0 n0 : Nat) (c1 n1 : Nat) : Option gV := gbv (fX7_copyPart V c0 n0 0 c1 n1 0 (Int32.ofNat n0)) fun (V1 : gV) => some V1
set_option maxHeartbeats 4000000 in
set_option maxRecDepth 100000 in
theorem uX7_copyRow (l : Launch) (G : gG) (hG : gIsX G) (V : gV) (c0 n0 : Nat) (c1 n1 : Nat) (hs0 : G.2.2.1 c0 = (some (.inl n0) : gK)) (hs1 : G.2.2.1 c1 = (some (.inl n1) : gK)) (hm1 : c1 < G.2.2.2.1) : gMv l G yX7_copyRow cX7_copyRow 2 (gR 2 124) [.ref (G.1 c0), .ref (G.1 c1)] V (fX7_copyRow V c0 n0 c1 n1) := by
  unfold fX7_copyRow
  refine gM_v (by decide +kernel) rfl rfl (Nat.le_of_ble_eq_true rfl) (fun X VV C E => ?_)
  change gC cX7_copyRow 2 RX7 G X at C
  change gSm l (gR 2 124) 2 G X _ VV V 0 [(0, .ref (G.1 c0)), (1, .ref (G.1 c1))] []
  refine s_aload_n (q := 1) C 0 dX7_copyRow_0 rfl rfl rfl ?_
  refine s_iconst (q := 2) (v := 0) C dX7_copyRow_1 rfl (by decide) ?_
  refine s_aload_n (q := 3) C 1 dX7_copyRow_2 rfl rfl rfl ?_
  refine s_iconst (q := 4) (v := 0) C dX7_copyRow_3 rfl (by decide) ?_
  refine s_aload_n (q := 5) C 0 dX7_copyRow_4 rfl rfl rfl ?_
  refine s_alen (q := 6) C hs0 rfl dX7_copyRow_5 rfl ?_
  refine s_Sv (q := 9) (As := [.ref (G.1 c0), .int 0, .ref (G.1 c1), .int 0, .int (Int32.ofNat n0)]) (st := []) C (uX7_copyPart l G hG V c0 n0 0 c1 n1 0 (Int32.ofNat n0) hs0 hs1 hm1) ysX7_copyPart mlX7_305 rfl rfl rfl rfl (gR_le (by decide) (by decide)) (Nat.le_of_ble_eq_true rfl) dX7_copyRow_6 rfl (fun V1 => ?_)
  exact s_vret C E dX7_copyRow_9
noncomputable def fX0_copyFrom (V : gV) (c0 : Nat) (c1 : Nat) : Option gV := gbv (fX7_copyRow V (c1 + 1) 8 (c0 + 1) 8) fun (V1 : gV) => gpu V1 c0 1 (V1 c1 1) fun (V2 : gV) => gpu V2 c0 2 (V2 c1 2) fun (V3 : gV) => gpu V3 c0 3 (V3 c1 3) fun (V4 : gV) => gpu V4 c0 4 (V4 c1 4) fun (V5 : gV) => gpu V5 c0 5 (V5 c1 5) fun (V6 : gV) => gpu V6 c0 6 (V6 c1 6) fun (V7 : gV) => some V7
set_option maxHeartbeats 4000000 in
set_option maxRecDepth 100000 in
theorem uX0_copyFrom (l : Launch) (G : gG) (hG : gIsX G) (V : gV) (c0 : Nat) (c1 : Nat) (hs0 : G.2.2.1 c0 = kX0 c0) (hs1 : G.2.2.1 c1 = kX0 c1) : gMv l G yX0_copyFrom cX0_copyFrom 2 (gR 3 145) [.ref (G.1 c0), .ref (G.1 c1)] V (fX0_copyFrom V c0 c1) := by
  unfold fX0_copyFrom
  refine gM_v (by decide +kernel) rfl rfl (Nat.le_of_ble_eq_true rfl) (fun X VV C E => ?_)
  change gC cX0_copyFrom 2 RX0 G X at C
  change gSm l (gR 3 145) 2 G X _ VV V 0 [(0, .ref (G.1 c0)), (1, .ref (G.1 c1))] []
  refine s_aload_n (q := 1) C 1 dX0_copyFrom_0 rfl rfl rfl ?_
  refine geX0_0 (q := 4) C hs1 flX0_9 dX0_copyFrom_1 rfl ?_
  refine s_aload_n (q := 5) C 0 dX0_copyFrom_4 rfl rfl rfl ?_
  refine geX0_0 (q := 8) C hs0 flX0_9 dX0_copyFrom_5 rfl ?_
  refine s_Sv (q := 11) (As := [.ref (G.1 (c1 + 1)), .ref (G.1 (c0 + 1))]) (st := []) C (uX7_copyRow l G hG V (c1 + 1) 8 (c0 + 1) 8 (qX0_0 hG hs1) (qX0_0 hG hs0) (mX0_0 hG hs0)) ysX7_copyRow mlX0_34 rfl rfl rfl rfl (gR_le (by decide) (by decide)) (Nat.le_of_ble_eq_true rfl) dX0_copyFrom_8 rfl (fun V1 => ?_)
  refine s_aload_n (q := 12) C 0 dX0_copyFrom_11 rfl rfl rfl ?_
  refine s_aload_n (q := 13) C 1 dX0_copyFrom_12 rfl rfl rfl ?_
  refine geX0_1 (q := 16) C hs1 flX0_19 dX0_copyFrom_13 rfl ?_
  refine peX0_1 (q := 19) C hs0 flX0_19 dX0_copyFrom_16 rfl (fun V2 => ?_)
  refine s_aload_n (q := 20) C 0 dX0_copyFrom_19 rfl rfl rfl ?_
  refine s_aload_n (q := 21) C 1 dX0_copyFrom_20 rfl rfl rfl ?_
  refine geX0_2 (q := 24) C hs1 flX0_22 dX0_copyFrom_21 rfl ?_
  refine peX0_2 (q := 27) C hs0 flX0_22 dX0_copyFrom_24 rfl (fun V3 => ?_)
  refine s_aload_n (q := 28) C 0 dX0_copyFrom_27 rfl rfl rfl ?_
  refine s_aload_n (q := 29) C 1 dX0_copyFrom_28 rfl rfl rfl ?_
  refine geX0_3 (q := 32) C hs1 flX0_25 dX0_copyFrom_29 rfl ?_
  refine peX0_3 (q := 35) C hs0 flX0_25 dX0_copyFrom_32 rfl (fun V4 => ?_)
  refine s_aload_n (q := 36) C 0 dX0_copyFrom_35 rfl rfl rfl ?_
  refine s_aload_n (q := 37) C 1 dX0_copyFrom_36 rfl rfl rfl ?_
  refine geX0_4 (q := 40) C hs1 flX0_28 dX0_copyFrom_37 rfl ?_
  refine peX0_4 (q := 43) C hs0 flX0_28 dX0_copyFrom_40 rfl (fun V5 => ?_)
  refine s_aload_n (q := 44) C 0 dX0_copyFrom_43 rfl rfl rfl ?_
  refine s_aload_n (q := 45) C 1 dX0_copyFrom_44 rfl rfl rfl ?_
  refine geX0_5 (q := 48) C hs1 flX0_31 dX0_copyFrom_45 rfl ?_
  refine peX0_5 (q := 51) C hs0 flX0_31 dX0_copyFrom_48 rfl (fun V6 => ?_)
  refine s_aload_n (q := 52) C 0 dX0_copyFrom_51 rfl rfl rfl ?_
  refine s_aload_n (q := 53) C 1 dX0_copyFrom_52 rfl rfl rfl ?_
  refine geX0_6 (q := 56) C hs1 flX0_15 dX0_copyFrom_53 rfl ?_
  refine peX0_6 (q := 59) C hs0 flX0_15 dX0_copyFrom_56 rfl (fun V7 => ?_)
  exact s_vret C E dX0_copyFrom_59
noncomputable def fX7_setAt (V : gV) (c0 n0 : Nat) (a1 : Int32) (a2 : Int32) : Option gV := if a1 < 0 then (some V) else (if (Int32.ofNat n0) ≤ a1 then (some V) else (gas V c0 a1 n0 a2 fun (V3 : gV) => some V3))
set_option maxHeartbeats 4000000 in
set_option maxRecDepth 100000 in
theorem uX7_setAt (l : Launch) (G : gG) (hG : gIsX G) (V : gV) (c0 n0 : Nat) (a1 : Int32) (a2 : Int32) (hs0 : G.2.2.1 c0 = (some (.inl n0) : gK)) (hm0 : c0 < G.2.2.2.1) : gMv l G yX7_setAt cX7_setAt 3 (gR 0 0) [.ref (G.1 c0), .int a1, .int a2] V (fX7_setAt V c0 n0 a1 a2) := by
  unfold fX7_setAt
  refine gM_v (by decide +kernel) rfl rfl (Nat.le_of_ble_eq_true rfl) (fun X VV C E => ?_)
  change gC cX7_setAt 3 RX7 G X at C
  change gSm l (gR 0 0) 3 G X _ VV V 0 [(0, .ref (G.1 c0)), (1, .int a1), (2, .int a2)] []
  refine s_iload_n (q := 1) C 1 dX7_setAt_0 rfl rfl rfl ?_
  refine s_if_lt (tgt := 14) (q := 4) C dX7_setAt_1 (by decide) rfl (fun c1 => ?_) (fun c1 => ?_)
  · exact s_vret C E dX7_setAt_14
  · refine s_iload_n (q := 5) C 1 dX7_setAt_4 rfl rfl rfl ?_
    refine s_aload_n (q := 6) C 0 dX7_setAt_5 rfl rfl rfl ?_
    refine s_alen (q := 7) C hs0 rfl dX7_setAt_6 rfl ?_
    refine s_icmp_ge (tgt := 14) (q := 10) C dX7_setAt_7 (by decide) rfl (fun c2 => ?_) (fun c2 => ?_)
    · exact s_vret C E dX7_setAt_14
    · refine s_aload_n (q := 11) C 0 dX7_setAt_10 rfl rfl rfl ?_
      refine s_iload_n (q := 12) C 1 dX7_setAt_11 rfl rfl rfl ?_
      refine s_iload_n (q := 13) C 2 dX7_setAt_12 rfl rfl rfl ?_
      refine s_iast (q := 14) C hs0 hm0 dX7_setAt_13 rfl (fun V3 => ?_)
      exact s_vret C E dX7_setAt_14
noncomputable def fX0_addLayer (V : gV) (c0 : Nat) (a1 : Int32) : Option gV := if 8 ≤ (V c0 4) then (some V) else (gbv (fX7_setAt V (c0 + 1) 8 (V c0 4) a1) fun (V2 : gV) => gpu V2 c0 4 ((V2 c0 4) + 1) fun (V3 : gV) => some V3)
set_option maxHeartbeats 4000000 in
set_option maxRecDepth 100000 in
theorem uX0_addLayer (l : Launch) (G : gG) (hG : gIsX G) (V : gV) (c0 : Nat) (a1 : Int32) (hs0 : G.2.2.1 c0 = kX0 c0) : gMv l G yX0_addLayer cX0_addLayer 2 (gR 1 22) [.ref (G.1 c0), .int a1] V (fX0_addLayer V c0 a1) := by
  unfold fX0_addLayer
  refine gM_v (by decide +kernel) rfl rfl (Nat.le_of_ble_eq_true rfl) (fun X VV C E => ?_)
  change gC cX0_addLayer 2 RX0 G X at C
  change gSm l (gR 1 22) 2 G X _ VV V 0 [(0, .ref (G.1 c0)), (1, .int a1)] []
  refine s_aload_n (q := 1) C 0 dX0_addLayer_0 rfl rfl rfl ?_
  refine geX0_4 (q := 4) C hs0 flX0_28 dX0_addLayer_1 rfl ?_
  refine s_bipush (q := 6) (v := 8) C dX0_addLayer_4 rfl (by decide) ?_
  refine s_icmp_ge (tgt := 31) (q := 9) C dX0_addLayer_6 (by decide) rfl (fun c1 => ?_) (fun c1 => ?_)
  · exact s_vret C E dX0_addLayer_31
  · refine s_aload_n (q := 10) C 0 dX0_addLayer_9 rfl rfl rfl ?_
    refine geX0_0 (q := 13) C hs0 flX0_9 dX0_addLayer_10 rfl ?_
    refine s_aload_n (q := 14) C 0 dX0_addLayer_13 rfl rfl rfl ?_
    refine geX0_4 (q := 17) C hs0 flX0_28 dX0_addLayer_14 rfl ?_
    refine s_iload_n (q := 18) C 1 dX0_addLayer_17 rfl rfl rfl ?_
    refine s_Sv (q := 21) (As := [.ref (G.1 (c0 + 1)), .int (V c0 4), .int a1]) (st := []) C (uX7_setAt l G hG V (c0 + 1) 8 (V c0 4) a1 (qX0_0 hG hs0) (mX0_0 hG hs0)) ysX7_setAt mlX0_38 rfl rfl rfl rfl (gR_le (by decide) (by decide)) (Nat.le_of_ble_eq_true rfl) dX0_addLayer_18 rfl (fun V2 => ?_)
    refine s_aload_n (q := 22) C 0 dX0_addLayer_21 rfl rfl rfl ?_
    refine s_dup (q := 23) C dX0_addLayer_22 rfl rfl ?_
    refine geX0_4 (q := 26) C hs0 flX0_28 dX0_addLayer_23 rfl ?_
    refine s_iconst (q := 27) (v := 1) C dX0_addLayer_26 rfl (by decide) ?_
    refine s_iadd (q := 28) C dX0_addLayer_27 rfl ?_
    refine peX0_4 (q := 31) C hs0 flX0_28 dX0_addLayer_28 rfl (fun V3 => ?_)
    exact s_vret C E dX0_addLayer_31
noncomputable def fX7_at (V : gV) (c0 n0 : Nat) (a1 : Int32) : Option (Int32 × gV) := if a1 < 0 then (some (0, V)) else (if (Int32.ofNat n0) ≤ a1 then (some (0, V)) else (gal V c0 a1 n0 fun (x3 : Int32) => some (x3, V)))
set_option maxHeartbeats 4000000 in
set_option maxRecDepth 100000 in
theorem uX7_at (l : Launch) (G : gG) (hG : gIsX G) (V : gV) (c0 n0 : Nat) (a1 : Int32) (hs0 : G.2.2.1 c0 = (some (.inl n0) : gK)) : gMi l G yX7_at cX7_at 2 Jvm.ClassFile.FieldType.int (gR 0 0) [.ref (G.1 c0), .int a1] V (fX7_at V c0 n0 a1) := by
  unfold fX7_at
  refine gM_i (by decide +kernel) rfl rfl (Nat.le_of_ble_eq_true rfl) (fun X rr VV C E => ?_)
  change gC cX7_at 2 RX7 G X at C
  change gSm l (gR 0 0) 2 G X _ (rr, VV) V 0 [(0, .ref (G.1 c0)), (1, .int a1)] []
  refine s_iload_n (q := 1) C 1 dX7_at_0 rfl rfl rfl ?_
  refine s_if_lt (tgt := 16) (q := 4) C dX7_at_1 (by decide) rfl (fun c1 => ?_) (fun c1 => ?_)
  · refine s_iconst (q := 17) (v := 0) C dX7_at_16 rfl (by decide) ?_
    exact s_iret C E dX7_at_17
  · refine s_iload_n (q := 5) C 1 dX7_at_4 rfl rfl rfl ?_
    refine s_aload_n (q := 6) C 0 dX7_at_5 rfl rfl rfl ?_
    refine s_alen (q := 7) C hs0 rfl dX7_at_6 rfl ?_
    refine s_icmp_ge (tgt := 16) (q := 10) C dX7_at_7 (by decide) rfl (fun c2 => ?_) (fun c2 => ?_)
    · refine s_iconst (q := 17) (v := 0) C dX7_at_16 rfl (by decide) ?_
      exact s_iret C E dX7_at_17
    · refine s_aload_n (q := 11) C 0 dX7_at_10 rfl rfl rfl ?_
      refine s_iload_n (q := 12) C 1 dX7_at_11 rfl rfl rfl ?_
      refine s_iald (q := 13) C hs0 dX7_at_12 rfl (fun x3 => ?_)
      refine s_goto (q := 17) C dX7_at_13 (by decide) ?_
      exact s_iret C E dX7_at_17
noncomputable def fX0_nameOf (V : gV) (c0 : Nat) (a1 : Int32) : Option (Int32 × gV) := gbi (fX7_at V (c0 + 1) 8 a1) fun (x1 : Int32) (V2 : gV) => some (x1, V2)
set_option maxHeartbeats 4000000 in
set_option maxRecDepth 100000 in
theorem uX0_nameOf (l : Launch) (G : gG) (hG : gIsX G) (V : gV) (c0 : Nat) (a1 : Int32) (hs0 : G.2.2.1 c0 = kX0 c0) : gMi l G yX0_nameOf cX0_nameOf 2 Jvm.ClassFile.FieldType.int (gR 1 21) [.ref (G.1 c0), .int a1] V (fX0_nameOf V c0 a1) := by
  unfold fX0_nameOf
  refine gM_i (by decide +kernel) rfl rfl (Nat.le_of_ble_eq_true rfl) (fun X rr VV C E => ?_)
  change gC cX0_nameOf 2 RX0 G X at C
  change gSm l (gR 1 21) 2 G X _ (rr, VV) V 0 [(0, .ref (G.1 c0)), (1, .int a1)] []
  refine s_aload_n (q := 1) C 0 dX0_nameOf_0 rfl rfl rfl ?_
  refine geX0_0 (q := 4) C hs0 flX0_9 dX0_nameOf_1 rfl ?_
  refine s_iload_n (q := 5) C 1 dX0_nameOf_4 rfl rfl rfl ?_
  refine s_Si (q := 8) (As := [.ref (G.1 (c0 + 1)), .int a1]) (st := []) C (uX7_at l G hG V (c0 + 1) 8 a1 (qX0_0 hG hs0)) ysX7_at mlX0_42 rfl rfl rfl rfl (gR_le (by decide) (by decide)) (Nat.le_of_ble_eq_true rfl) dX0_nameOf_5 rfl (fun x1 V2 => ?_)
  exact s_iret C E dX0_nameOf_8
noncomputable def fX0_layerOut (V : gV) (c0 : Nat) : Option (Int32 × gV) := if 1 ≤ (V c0 6) then (gdv (V c0 6) <| some (((V c0 5) / (V c0 6)), V)) else (some ((V c0 4), V))
set_option maxHeartbeats 4000000 in
set_option maxRecDepth 100000 in
theorem uX0_layerOut (l : Launch) (G : gG) (hG : gIsX G) (V : gV) (c0 : Nat) (hs0 : G.2.2.1 c0 = kX0 c0) : gMi l G yX0_layerOut cX0_layerOut 1 Jvm.ClassFile.FieldType.int (gR 0 0) [.ref (G.1 c0)] V (fX0_layerOut V c0) := by
  unfold fX0_layerOut
  refine gM_i (by decide +kernel) rfl rfl (Nat.le_of_ble_eq_true rfl) (fun X rr VV C E => ?_)
  change gC cX0_layerOut 1 RX0 G X at C
  change gSm l (gR 0 0) 1 G X _ (rr, VV) V 0 [(0, .ref (G.1 c0))] []
  refine s_aload_n (q := 1) C 0 dX0_layerOut_0 rfl rfl rfl ?_
  refine geX0_6 (q := 4) C hs0 flX0_15 dX0_layerOut_1 rfl ?_
  refine s_iconst (q := 5) (v := 1) C dX0_layerOut_4 rfl (by decide) ?_
  refine s_icmp_ge (tgt := 15) (q := 8) C dX0_layerOut_5 (by decide) rfl (fun c1 => ?_) (fun c1 => ?_)
  · refine s_aload_n (q := 16) C 0 dX0_layerOut_15 rfl rfl rfl ?_
    refine geX0_5 (q := 19) C hs0 flX0_31 dX0_layerOut_16 rfl ?_
    refine s_aload_n (q := 20) C 0 dX0_layerOut_19 rfl rfl rfl ?_
    refine geX0_6 (q := 23) C hs0 flX0_15 dX0_layerOut_20 rfl ?_
    refine s_idiv (q := 24) C dX0_layerOut_23 rfl ?_
    exact s_iret C E dX0_layerOut_24
  · refine s_aload_n (q := 9) C 0 dX0_layerOut_8 rfl rfl rfl ?_
    refine geX0_4 (q := 12) C hs0 flX0_28 dX0_layerOut_9 rfl ?_
    refine s_goto (q := 24) C dX0_layerOut_12 (by decide) ?_
    exact s_iret C E dX0_layerOut_24
noncomputable def fX0_isGone (V : gV) (c0 : Nat) : Option (Int32 × gV) := gbi (fX0_layerOut V c0) fun (x1 : Int32) (V2 : gV) => if x1 < (V2 c0 4) then (some (0, V2)) else (some (1, V2))
set_option maxHeartbeats 4000000 in
set_option maxRecDepth 100000 in
theorem uX0_isGone (l : Launch) (G : gG) (hG : gIsX G) (V : gV) (c0 : Nat) (hs0 : G.2.2.1 c0 = kX0 c0) : gMi l G yX0_isGone cX0_isGone 1 Jvm.ClassFile.FieldType.boolean (gR 1 20) [.ref (G.1 c0)] V (fX0_isGone V c0) := by
  unfold fX0_isGone
  refine gM_i (by decide +kernel) rfl rfl (Nat.le_of_ble_eq_true rfl) (fun X rr VV C E => ?_)
  change gC cX0_isGone 1 RX0 G X at C
  change gSm l (gR 1 20) 1 G X _ (rr, VV) V 0 [(0, .ref (G.1 c0))] []
  refine s_aload_n (q := 1) C 0 dX0_isGone_0 rfl rfl rfl ?_
  refine s_Vi (q := 4) (As := []) (st := []) C (uX0_layerOut l G hG V c0 hs0) yvX0_layerOut mlX0_46 hs0 rfl rfl rfl rfl rfl rfl (gR_le (by decide) (by decide)) (Nat.le_of_ble_eq_true rfl) dX0_isGone_1 rfl (fun x1 V2 => ?_)
  refine s_aload_n (q := 5) C 0 dX0_isGone_4 rfl rfl rfl ?_
  refine geX0_4 (q := 8) C hs0 flX0_28 dX0_isGone_5 rfl ?_
  refine s_icmp_lt (tgt := 15) (q := 11) C dX0_isGone_8 (by decide) rfl (fun c3 => ?_) (fun c3 => ?_)
  · refine s_iconst (q := 16) (v := 0) C dX0_isGone_15 rfl (by decide) ?_
    exact s_zret C E rfl dX0_isGone_16
  · refine s_iconst (q := 12) (v := 1) C dX0_isGone_11 rfl (by decide) ?_
    refine s_goto (q := 16) C dX0_isGone_12 (by decide) ?_
    exact s_zret C E rfl dX0_isGone_16
noncomputable def fX0_isOfKind_L1b (a1 : Int32) (B4 : gV → Int32 → Int32 → Option (Int32 × gV)) (V1 : gV) (x2 : Int32) (x3 : Int32) : Option (Int32 × gV) := if 7 ≤ x3 then (some (0, V1)) else (if x2 < 0 then (some (0, V1)) else (if x2 = a1 then (some (1, V1)) else (gbi (fX7_at V1 112 7 x2) fun (x8 : Int32) (V9 : gV) => B4 V9 x8 ((x3 + 1)))))
noncomputable def fX0_isOfKind_L1 (a1 : Int32) : Nat → gV → Int32 → Int32 → Option (Int32 × gV)
  | 0 => fun _ _ _ => none
  | n + 1 => fX0_isOfKind_L1b a1 (fX0_isOfKind_L1 a1 n)
noncomputable def fX0_isOfKind (V : gV) (c0 : Nat) (a1 : Int32) : Option (Int32 × gV) := fX0_isOfKind_L1 a1 gFu V (V c0 1) 0
set_option maxHeartbeats 4000000 in
set_option maxRecDepth 100000 in
theorem uX0_isOfKind (l : Launch) (G : gG) (hG : gIsX G) (V : gV) (c0 : Nat) (a1 : Int32) (hs0 : G.2.2.1 c0 = kX0 c0) : gMi l G yX0_isOfKind cX0_isOfKind 4 Jvm.ClassFile.FieldType.boolean (gR 1 21) [.ref (G.1 c0), .int a1] V (fX0_isOfKind V c0 a1) := by
  unfold fX0_isOfKind
  refine gM_i (by decide +kernel) rfl rfl (Nat.le_of_ble_eq_true rfl) (fun X rr VV C E => ?_)
  change gC cX0_isOfKind 4 RX0 G X at C
  change gSm l (gR 1 21) 4 G X _ (rr, VV) V 0 [(0, .ref (G.1 c0)), (1, .int a1)] []
  refine s_aload_n (q := 1) C 0 dX0_isOfKind_0 rfl rfl rfl ?_
  refine geX0_1 (q := 4) C hs0 flX0_19 dX0_isOfKind_1 rfl ?_
  refine s_istore_n (q := 5) (L' := [(2, .int (V c0 1)), (0, .ref (G.1 c0)), (1, .int a1)]) C dX0_isOfKind_4 rfl rfl (by decide) rfl ?_
  refine s_iconst (q := 6) (v := 0) C dX0_isOfKind_5 rfl (by decide) ?_
  refine s_istore_n (q := 7) (L' := [(3, .int 0), (2, .int (V c0 1)), (0, .ref (G.1 c0)), (1, .int a1)]) C dX0_isOfKind_6 rfl rfl (by decide) rfl ?_
  have hL1 : ∀ (n : Nat) (V1 : gV) (x2 : Int32) (x3 : Int32), gSm l (gR 1 21) 4 G X (fX0_isOfKind_L1 a1 n V1 x2 x3) (rr, VV) V1 7 [(1, .int a1), (2, .int x2), (3, .int x3)] [] := by
    intro n
    induction n with
    | zero => exact fun V1 x2 x3 => s_none
    | succ n ih =>
      intro V1 x2 x3
      show gSm l (gR 1 21) 4 G X (fX0_isOfKind_L1b a1 (fX0_isOfKind_L1 a1 n) V1 x2 x3) (rr, VV) V1 7 [(1, .int a1), (2, .int x2), (3, .int x3)] []
      generalize fX0_isOfKind_L1 a1 n = B4 at ih ⊢
      have hB4 := ih
      unfold fX0_isOfKind_L1b
      refine s_iload_n (q := 8) C 2 dX0_isOfKind_7 rfl rfl rfl ?_
      refine s_gets (q := 11) C (zX_112 hG) flX0_50 dX0_isOfKind_8 rfl ?_
      refine s_alen (q := 12) (v := 7) C (zs_112 hG) (by decide) dX0_isOfKind_11 rfl ?_
      refine s_icmp_ge (tgt := 40) (q := 15) C dX0_isOfKind_12 (by decide) rfl (fun c5 => ?_) (fun c5 => ?_)
      · refine s_iconst (q := 41) (v := 0) C dX0_isOfKind_40 rfl (by decide) ?_
        exact s_zret C E rfl dX0_isOfKind_41
      · refine s_iload_n (q := 16) C 1 dX0_isOfKind_15 rfl rfl rfl ?_
        refine s_if_lt (tgt := 40) (q := 19) C dX0_isOfKind_16 (by decide) rfl (fun c6 => ?_) (fun c6 => ?_)
        · refine s_iconst (q := 41) (v := 0) C dX0_isOfKind_40 rfl (by decide) ?_
          exact s_zret C E rfl dX0_isOfKind_41
        · refine s_iload_n (q := 20) C 1 dX0_isOfKind_19 rfl rfl rfl ?_
          refine s_iload_n (q := 21) C 0 dX0_isOfKind_20 rfl rfl rfl ?_
          refine s_icmp_ne (tgt := 26) (q := 24) C dX0_isOfKind_21 (by decide) rfl (fun c7 => ?_) (fun c7 => ?_)
          · refine s_iconst (q := 25) (v := 1) C dX0_isOfKind_24 rfl (by decide) ?_
            exact s_zret C E rfl dX0_isOfKind_25
          · refine s_gets (q := 29) C (zX_112 hG) flX0_50 dX0_isOfKind_26 rfl ?_
            refine s_iload_n (q := 30) C 1 dX0_isOfKind_29 rfl rfl rfl ?_
            refine s_Si (q := 33) (As := [.ref (G.1 112), .int x2]) (st := []) C (uX7_at l G hG V1 112 7 x2 (zs_112 hG)) ysX7_at mlX0_42 rfl rfl rfl rfl (gR_le (by decide) (by decide)) (Nat.le_of_ble_eq_true rfl) dX0_isOfKind_30 rfl (fun x8 V9 => ?_)
            refine s_istore_n (q := 34) (L' := [(2, .int x8), (1, .int a1), (3, .int x3)]) C dX0_isOfKind_33 rfl rfl (by decide) rfl ?_
            refine s_iinc (q := 37) (w := 1) (L' := [(3, .int (x3 + 1)), (2, .int x8), (1, .int a1)]) C 2 dX0_isOfKind_34 rfl rfl (by decide) rfl (by decide) rfl ?_
            refine s_goto (q := 7) C dX0_isOfKind_37 (by decide) ?_
            refine s_sub [2, 1, 0] rfl ?_
            exact hB4 V9 x8 ((x3 + 1))
  refine s_sub [3, 1, 0] rfl ?_
  exact hL1 gFu V (V c0 1) 0
noncomputable def fX0_measure (V : gV) (c0 : Nat) (a1 : Int32) : Option gV := if (V c0 1) = 1 then (gdv 2 <| gpu V c0 6 (a1 + (a1 / 2)) fun (V2 : gV) => some V2) else (if (V c0 1) = 2 then (gdv 2 <| gpu V c0 6 (gmx 1 (a1 / 2)) fun (V4 : gV) => some V4) else (if (V c0 1) = 3 then (gpu V c0 6 a1 fun (V6 : gV) => some V6) else (if (V c0 1) = 4 then (gdv 2 <| gpu V c0 6 ((a1 + (a1 / 2)) + (V c0 2)) fun (V8 : gV) => some V8) else (if (V c0 1) = 5 then (gdv 2 <| gpu V c0 6 (gmx 1 (a1 / 2)) fun (V10 : gV) => some V10) else (gpu V c0 6 a1 fun (V11 : gV) => some V11)))))
set_option maxHeartbeats 4000000 in
set_option maxRecDepth 100000 in
theorem uX0_measure (l : Launch) (G : gG) (hG : gIsX G) (V : gV) (c0 : Nat) (a1 : Int32) (hs0 : G.2.2.1 c0 = kX0 c0) : gMv l G yX0_measure cX0_measure 2 (gR 1 30) [.ref (G.1 c0), .int a1] V (fX0_measure V c0 a1) := by
  unfold fX0_measure
  refine gM_v (by decide +kernel) rfl rfl (Nat.le_of_ble_eq_true rfl) (fun X VV C E => ?_)
  change gC cX0_measure 2 RX0 G X at C
  change gSm l (gR 1 30) 2 G X _ VV V 0 [(0, .ref (G.1 c0)), (1, .int a1)] []
  refine s_aload_n (q := 1) C 0 dX0_measure_0 rfl rfl rfl ?_
  refine geX0_1 (q := 4) C hs0 flX0_19 dX0_measure_1 rfl ?_
  refine s_case (fun c1 => ?_) (fun c1 => ?_)
  · refine s_tin (q := 40) (off := 36) (c := 1) C c1 dX0_measure_4 (by decide) (by decide) (by decide) (by decide) ?_
    refine s_aload_n (q := 41) C 0 dX0_measure_40 rfl rfl rfl ?_
    refine s_iload_n (q := 42) C 1 dX0_measure_41 rfl rfl rfl ?_
    refine s_iload_n (q := 43) C 1 dX0_measure_42 rfl rfl rfl ?_
    refine s_iconst (q := 44) (v := 2) C dX0_measure_43 rfl (by decide) ?_
    refine s_idiv (q := 45) C dX0_measure_44 rfl ?_
    refine s_iadd (q := 46) C dX0_measure_45 rfl ?_
    refine peX0_6 (q := 49) C hs0 flX0_15 dX0_measure_46 rfl (fun V2 => ?_)
    refine s_goto (q := 88) C dX0_measure_49 (by decide) ?_
    exact s_vret C E dX0_measure_88
  · refine s_case (fun c3 => ?_) (fun c3 => ?_)
    · refine s_tin (q := 69) (off := 65) (c := 2) C c3 dX0_measure_4 (by decide) (by decide) (by decide) (by decide) ?_
      refine s_aload_n (q := 70) C 0 dX0_measure_69 rfl rfl rfl ?_
      refine s_iconst (q := 71) (v := 1) C dX0_measure_70 rfl (by decide) ?_
      refine s_iload_n (q := 72) C 1 dX0_measure_71 rfl rfl rfl ?_
      refine s_iconst (q := 73) (v := 2) C dX0_measure_72 rfl (by decide) ?_
      refine s_idiv (q := 74) C dX0_measure_73 rfl ?_
      refine s_mmax (q := 77) C jlX0_53 jm_max_1 jm_init jm_max_2 ⟨by decide, Nat.le_of_ble_eq_true rfl⟩ dX0_measure_74 rfl ?_
      refine peX0_6 (q := 80) C hs0 flX0_15 dX0_measure_77 rfl (fun V4 => ?_)
      refine s_goto (q := 88) C dX0_measure_80 (by decide) ?_
      exact s_vret C E dX0_measure_88
    · refine s_case (fun c5 => ?_) (fun c5 => ?_)
      · refine s_tin (q := 83) (off := 79) (c := 3) C c5 dX0_measure_4 (by decide) (by decide) (by decide) (by decide) ?_
        refine s_aload_n (q := 84) C 0 dX0_measure_83 rfl rfl rfl ?_
        refine s_iload_n (q := 85) C 1 dX0_measure_84 rfl rfl rfl ?_
        refine peX0_6 (q := 88) C hs0 flX0_15 dX0_measure_85 rfl (fun V6 => ?_)
        exact s_vret C E dX0_measure_88
      · refine s_case (fun c7 => ?_) (fun c7 => ?_)
        · refine s_tin (q := 52) (off := 48) (c := 4) C c7 dX0_measure_4 (by decide) (by decide) (by decide) (by decide) ?_
          refine s_aload_n (q := 53) C 0 dX0_measure_52 rfl rfl rfl ?_
          refine s_iload_n (q := 54) C 1 dX0_measure_53 rfl rfl rfl ?_
          refine s_iload_n (q := 55) C 1 dX0_measure_54 rfl rfl rfl ?_
          refine s_iconst (q := 56) (v := 2) C dX0_measure_55 rfl (by decide) ?_
          refine s_idiv (q := 57) C dX0_measure_56 rfl ?_
          refine s_iadd (q := 58) C dX0_measure_57 rfl ?_
          refine s_aload_n (q := 59) C 0 dX0_measure_58 rfl rfl rfl ?_
          refine geX0_2 (q := 62) C hs0 flX0_22 dX0_measure_59 rfl ?_
          refine s_iadd (q := 63) C dX0_measure_62 rfl ?_
          refine peX0_6 (q := 66) C hs0 flX0_15 dX0_measure_63 rfl (fun V8 => ?_)
          refine s_goto (q := 88) C dX0_measure_66 (by decide) ?_
          exact s_vret C E dX0_measure_88
        · refine s_case (fun c9 => ?_) (fun c9 => ?_)
          · refine s_tin (q := 69) (off := 65) (c := 5) C c9 dX0_measure_4 (by decide) (by decide) (by decide) (by decide) ?_
            refine s_aload_n (q := 70) C 0 dX0_measure_69 rfl rfl rfl ?_
            refine s_iconst (q := 71) (v := 1) C dX0_measure_70 rfl (by decide) ?_
            refine s_iload_n (q := 72) C 1 dX0_measure_71 rfl rfl rfl ?_
            refine s_iconst (q := 73) (v := 2) C dX0_measure_72 rfl (by decide) ?_
            refine s_idiv (q := 74) C dX0_measure_73 rfl ?_
            refine s_mmax (q := 77) C jlX0_53 jm_max_1 jm_init jm_max_2 ⟨by decide, Nat.le_of_ble_eq_true rfl⟩ dX0_measure_74 rfl ?_
            refine peX0_6 (q := 80) C hs0 flX0_15 dX0_measure_77 rfl (fun V10 => ?_)
            refine s_goto (q := 88) C dX0_measure_80 (by decide) ?_
            exact s_vret C E dX0_measure_88
          · refine s_tout (q := 83) C dX0_measure_4 (by have zc1 := lv_neT (k := 1) (a := 1) c1 (by decide); have zc3 := lv_neT (k := 2) (a := 2) c3 (by decide); have zc5 := lv_neT (k := 3) (a := 3) c5 (by decide); have zc7 := lv_neT (k := 4) (a := 4) c7 (by decide); have zc9 := lv_neT (k := 5) (a := 5) c9 (by decide); omega) (by decide) ?_
            refine s_aload_n (q := 84) C 0 dX0_measure_83 rfl rfl rfl ?_
            refine s_iload_n (q := 85) C 1 dX0_measure_84 rfl rfl rfl ?_
            refine peX0_6 (q := 88) C hs0 flX0_15 dX0_measure_85 rfl (fun V11 => ?_)
            exact s_vret C E dX0_measure_88
noncomputable def fX0_unbribed (V : gV) (c0 : Nat) (a1 : Int32) : Option (Int32 × gV) := if a1 = (V c0 2) then (some ((-1), V)) else (some (a1, V))
set_option maxHeartbeats 4000000 in
set_option maxRecDepth 100000 in
theorem uX0_unbribed (l : Launch) (G : gG) (hG : gIsX G) (V : gV) (c0 : Nat) (a1 : Int32) (hs0 : G.2.2.1 c0 = kX0 c0) : gMi l G yX0_unbribed cX0_unbribed 2 Jvm.ClassFile.FieldType.int (gR 0 0) [.ref (G.1 c0), .int a1] V (fX0_unbribed V c0 a1) := by
  unfold fX0_unbribed
  refine gM_i (by decide +kernel) rfl rfl (Nat.le_of_ble_eq_true rfl) (fun X rr VV C E => ?_)
  change gC cX0_unbribed 2 RX0 G X at C
  change gSm l (gR 0 0) 2 G X _ (rr, VV) V 0 [(0, .ref (G.1 c0)), (1, .int a1)] []
  refine s_iload_n (q := 1) C 1 dX0_unbribed_0 rfl rfl rfl ?_
  refine s_aload_n (q := 2) C 0 dX0_unbribed_1 rfl rfl rfl ?_
  refine geX0_2 (q := 5) C hs0 flX0_22 dX0_unbribed_2 rfl ?_
  refine s_icmp_ne (tgt := 12) (q := 8) C dX0_unbribed_5 (by decide) rfl (fun c1 => ?_) (fun c1 => ?_)
  · refine s_iconst (q := 9) (v := (-1)) C dX0_unbribed_8 rfl (by decide) ?_
    refine s_goto (q := 13) C dX0_unbribed_9 (by decide) ?_
    exact s_iret C E dX0_unbribed_13
  · refine s_iload_n (q := 13) C 1 dX0_unbribed_12 rfl rfl rfl ?_
    exact s_iret C E dX0_unbribed_13
noncomputable def fX0_shown (V : gV) (c0 : Nat) : Option (Int32 × gV) := gbi (fX0_layerOut V c0) fun (x1 : Int32) (V2 : gV) => if x1 < (V2 c0 4) then (if (V2 c0 1) = 3 then (gbi (fX0_nameOf V2 c0 x1) fun (x5 : Int32) (V6 : gV) => gbi (fX0_unbribed V6 c0 x5) fun (x7 : Int32) (V8 : gV) => some (x7, V8)) else (if (V2 c0 1) = 4 then (gbi (fX0_nameOf V2 c0 x1) fun (x10 : Int32) (V11 : gV) => some (x10, V11)) else (if (V2 c0 1) = 5 then (gbi (fX0_nameOf V2 c0 (gmn (x1 + 1) ((V2 c0 4) - 1))) fun (x13 : Int32) (V14 : gV) => some (x13, V14)) else (if (V2 c0 1) = 6 then (if x1 < 3 then (gbi (fX0_nameOf V2 c0 x1) fun (x17 : Int32) (V18 : gV) => gbi (fX0_unbribed V18 c0 x17) fun (x19 : Int32) (V20 : gV) => some (x19, V20)) else (some ((-1), V2))) else (gbi (fX0_nameOf V2 c0 x1) fun (x21 : Int32) (V22 : gV) => some (x21, V22)))))) else (some ((-1), V2))
set_option maxHeartbeats 4000000 in
set_option maxRecDepth 100000 in
theorem uX0_shown (l : Launch) (G : gG) (hG : gIsX G) (V : gV) (c0 : Nat) (hs0 : G.2.2.1 c0 = kX0 c0) : gMi l G yX0_shown cX0_shown 2 Jvm.ClassFile.FieldType.int (gR 2 42) [.ref (G.1 c0)] V (fX0_shown V c0) := by
  unfold fX0_shown
  refine gM_i (by decide +kernel) rfl rfl (Nat.le_of_ble_eq_true rfl) (fun X rr VV C E => ?_)
  change gC cX0_shown 2 RX0 G X at C
  change gSm l (gR 2 42) 2 G X _ (rr, VV) V 0 [(0, .ref (G.1 c0))] []
  refine s_aload_n (q := 1) C 0 dX0_shown_0 rfl rfl rfl ?_
  refine s_Vi (q := 4) (As := []) (st := []) C (uX0_layerOut l G hG V c0 hs0) yvX0_layerOut mlX0_46 hs0 rfl rfl rfl rfl rfl rfl (gR_le (by decide) (by decide)) (Nat.le_of_ble_eq_true rfl) dX0_shown_1 rfl (fun x1 V2 => ?_)
  refine s_istore_n (q := 5) (L' := [(1, .int x1), (0, .ref (G.1 c0))]) C dX0_shown_4 rfl rfl (by decide) rfl ?_
  refine s_iload_n (q := 6) C 0 dX0_shown_5 rfl rfl rfl ?_
  refine s_aload_n (q := 7) C 1 dX0_shown_6 rfl rfl rfl ?_
  refine geX0_4 (q := 10) C hs0 flX0_28 dX0_shown_7 rfl ?_
  refine s_icmp_lt (tgt := 15) (q := 13) C dX0_shown_10 (by decide) rfl (fun c3 => ?_) (fun c3 => ?_)
  · refine s_aload_n (q := 16) C 1 dX0_shown_15 rfl rfl rfl ?_
    refine geX0_1 (q := 19) C hs0 flX0_19 dX0_shown_16 rfl ?_
    refine s_case (fun c4 => ?_) (fun c4 => ?_)
    · refine s_tin (q := 48) (off := 29) (c := 3) C c4 dX0_shown_19 (by decide) (by decide) (by decide) (by decide) ?_
      refine s_aload_n (q := 49) C 1 dX0_shown_48 rfl rfl rfl ?_
      refine s_aload_n (q := 50) C 1 dX0_shown_49 rfl rfl rfl ?_
      refine s_iload_n (q := 51) C 0 dX0_shown_50 rfl rfl rfl ?_
      refine s_Vi (q := 54) (As := [.int x1]) (st := [.ref (G.1 c0)]) C (uX0_nameOf l G hG V2 c0 x1 hs0) yvX0_nameOf mlX0_59 hs0 rfl rfl rfl rfl rfl rfl (gR_le (by decide) (by decide)) (Nat.le_of_ble_eq_true rfl) dX0_shown_51 rfl (fun x5 V6 => ?_)
      refine s_Vi (q := 57) (As := [.int x5]) (st := []) C (uX0_unbribed l G hG V6 c0 x5 hs0) yvX0_unbribed mlX0_63 hs0 rfl rfl rfl rfl rfl rfl (gR_le (by decide) (by decide)) (Nat.le_of_ble_eq_true rfl) dX0_shown_54 rfl (fun x7 V8 => ?_)
      exact s_iret C E dX0_shown_57
    · refine s_case (fun c9 => ?_) (fun c9 => ?_)
      · refine s_tin (q := 94) (off := 75) (c := 4) C c9 dX0_shown_19 (by decide) (by decide) (by decide) (by decide) ?_
        refine s_aload_n (q := 95) C 1 dX0_shown_94 rfl rfl rfl ?_
        refine s_iload_n (q := 96) C 0 dX0_shown_95 rfl rfl rfl ?_
        refine s_Vi (q := 99) (As := [.int x1]) (st := []) C (uX0_nameOf l G hG V2 c0 x1 hs0) yvX0_nameOf mlX0_59 hs0 rfl rfl rfl rfl rfl rfl (gR_le (by decide) (by decide)) (Nat.le_of_ble_eq_true rfl) dX0_shown_96 rfl (fun x10 V11 => ?_)
        exact s_iret C E dX0_shown_99
      · refine s_case (fun c12 => ?_) (fun c12 => ?_)
        · refine s_tin (q := 77) (off := 58) (c := 5) C c12 dX0_shown_19 (by decide) (by decide) (by decide) (by decide) ?_
          refine s_aload_n (q := 78) C 1 dX0_shown_77 rfl rfl rfl ?_
          refine s_iload_n (q := 79) C 0 dX0_shown_78 rfl rfl rfl ?_
          refine s_iconst (q := 80) (v := 1) C dX0_shown_79 rfl (by decide) ?_
          refine s_iadd (q := 81) C dX0_shown_80 rfl ?_
          refine s_aload_n (q := 82) C 1 dX0_shown_81 rfl rfl rfl ?_
          refine geX0_4 (q := 85) C hs0 flX0_28 dX0_shown_82 rfl ?_
          refine s_iconst (q := 86) (v := 1) C dX0_shown_85 rfl (by decide) ?_
          refine s_isub (q := 87) C dX0_shown_86 rfl ?_
          refine s_mmin (q := 90) C jlX0_66 jm_min_1 jm_init jm_min_2 ⟨by decide, Nat.le_of_ble_eq_true rfl⟩ dX0_shown_87 rfl ?_
          refine s_Vi (q := 93) (As := [.int (gmn (x1 + 1) ((V2 c0 4) - 1))]) (st := []) C (uX0_nameOf l G hG V2 c0 (gmn (x1 + 1) ((V2 c0 4) - 1)) hs0) yvX0_nameOf mlX0_59 hs0 rfl rfl rfl rfl rfl rfl (gR_le (by decide) (by decide)) (Nat.le_of_ble_eq_true rfl) dX0_shown_90 rfl (fun x13 V14 => ?_)
          exact s_iret C E dX0_shown_93
        · refine s_case (fun c15 => ?_) (fun c15 => ?_)
          · refine s_tin (q := 58) (off := 39) (c := 6) C c15 dX0_shown_19 (by decide) (by decide) (by decide) (by decide) ?_
            refine s_iload_n (q := 59) C 0 dX0_shown_58 rfl rfl rfl ?_
            refine s_iconst (q := 60) (v := 3) C dX0_shown_59 rfl (by decide) ?_
            refine s_icmp_lt (tgt := 67) (q := 63) C dX0_shown_60 (by decide) rfl (fun c16 => ?_) (fun c16 => ?_)
            · refine s_aload_n (q := 68) C 1 dX0_shown_67 rfl rfl rfl ?_
              refine s_aload_n (q := 69) C 1 dX0_shown_68 rfl rfl rfl ?_
              refine s_iload_n (q := 70) C 0 dX0_shown_69 rfl rfl rfl ?_
              refine s_Vi (q := 73) (As := [.int x1]) (st := [.ref (G.1 c0)]) C (uX0_nameOf l G hG V2 c0 x1 hs0) yvX0_nameOf mlX0_59 hs0 rfl rfl rfl rfl rfl rfl (gR_le (by decide) (by decide)) (Nat.le_of_ble_eq_true rfl) dX0_shown_70 rfl (fun x17 V18 => ?_)
              refine s_Vi (q := 76) (As := [.int x17]) (st := []) C (uX0_unbribed l G hG V18 c0 x17 hs0) yvX0_unbribed mlX0_63 hs0 rfl rfl rfl rfl rfl rfl (gR_le (by decide) (by decide)) (Nat.le_of_ble_eq_true rfl) dX0_shown_73 rfl (fun x19 V20 => ?_)
              exact s_iret C E dX0_shown_76
            · refine s_iconst (q := 64) (v := (-1)) C dX0_shown_63 rfl (by decide) ?_
              refine s_goto (q := 76) C dX0_shown_64 (by decide) ?_
              exact s_iret C E dX0_shown_76
          · refine s_tout (q := 94) C dX0_shown_19 (by have zc4 := lv_neT (k := 3) (a := 3) c4 (by decide); have zc9 := lv_neT (k := 4) (a := 4) c9 (by decide); have zc12 := lv_neT (k := 5) (a := 5) c12 (by decide); have zc15 := lv_neT (k := 6) (a := 6) c15 (by decide); omega) (by decide) ?_
            refine s_aload_n (q := 95) C 1 dX0_shown_94 rfl rfl rfl ?_
            refine s_iload_n (q := 96) C 0 dX0_shown_95 rfl rfl rfl ?_
            refine s_Vi (q := 99) (As := [.int x1]) (st := []) C (uX0_nameOf l G hG V2 c0 x1 hs0) yvX0_nameOf mlX0_59 hs0 rfl rfl rfl rfl rfl rfl (gR_le (by decide) (by decide)) (Nat.le_of_ble_eq_true rfl) dX0_shown_96 rfl (fun x21 V22 => ?_)
            exact s_iret C E dX0_shown_99
  · refine s_iconst (q := 14) (v := (-1)) C dX0_shown_13 rfl (by decide) ?_
    exact s_iret C E dX0_shown_14
noncomputable def fX0_wouldShow (V : gV) (c0 : Nat) (a1 : Int32) (a2 : Int32) : Option (Int32 × gV) := gpu V c0 5 a1 fun (V1 : gV) => gbi (fX0_shown V1 c0) fun (x2 : Int32) (V3 : gV) => if x2 = a2 then (some (1, V3)) else (some (0, V3))
set_option maxHeartbeats 4000000 in
set_option maxRecDepth 100000 in
theorem uX0_wouldShow (l : Launch) (G : gG) (hG : gIsX G) (V : gV) (c0 : Nat) (a1 : Int32) (a2 : Int32) (hs0 : G.2.2.1 c0 = kX0 c0) : gMi l G yX0_wouldShow cX0_wouldShow 3 Jvm.ClassFile.FieldType.boolean (gR 3 63) [.ref (G.1 c0), .int a1, .int a2] V (fX0_wouldShow V c0 a1 a2) := by
  unfold fX0_wouldShow
  refine gM_i (by decide +kernel) rfl rfl (Nat.le_of_ble_eq_true rfl) (fun X rr VV C E => ?_)
  change gC cX0_wouldShow 3 RX0 G X at C
  change gSm l (gR 3 63) 3 G X _ (rr, VV) V 0 [(0, .ref (G.1 c0)), (1, .int a1), (2, .int a2)] []
  refine s_aload_n (q := 1) C 0 dX0_wouldShow_0 rfl rfl rfl ?_
  refine s_iload_n (q := 2) C 1 dX0_wouldShow_1 rfl rfl rfl ?_
  refine peX0_5 (q := 5) C hs0 flX0_31 dX0_wouldShow_2 rfl (fun V1 => ?_)
  refine s_aload_n (q := 6) C 0 dX0_wouldShow_5 rfl rfl rfl ?_
  refine s_Vi (q := 9) (As := []) (st := []) C (uX0_shown l G hG V1 c0 hs0) yvX0_shown mlX0_69 hs0 rfl rfl rfl rfl rfl rfl (gR_le (by decide) (by decide)) (Nat.le_of_ble_eq_true rfl) dX0_wouldShow_6 rfl (fun x2 V3 => ?_)
  refine s_iload_n (q := 10) C 2 dX0_wouldShow_9 rfl rfl rfl ?_
  refine s_icmp_ne (tgt := 17) (q := 13) C dX0_wouldShow_10 (by decide) rfl (fun c4 => ?_) (fun c4 => ?_)
  · refine s_iconst (q := 14) (v := 1) C dX0_wouldShow_13 rfl (by decide) ?_
    refine s_goto (q := 18) C dX0_wouldShow_14 (by decide) ?_
    exact s_zret C E rfl dX0_wouldShow_18
  · refine s_iconst (q := 18) (v := 0) C dX0_wouldShow_17 rfl (by decide) ?_
    exact s_zret C E rfl dX0_wouldShow_18
noncomputable def fX0_wearWith (V : gV) (c0 : Nat) (a1 : Int32) (a2 : Int32) : Option (Int32 × gV) := if (V c0 1) = 1 then (some ((gmx 0 ((a1 * a2) - 1)), V)) else (if (V c0 1) = 2 then (some ((a1 * a2), V)) else (if (V c0 1) = 3 then (some ((a1 * a2), V)) else (if (V c0 1) = 4 then (some ((gmx 0 ((a1 * a2) - 1)), V)) else (if (V c0 1) = 5 then (some (((a1 * a2) + 1), V)) else (if (V c0 1) = 6 then (gdv 2 <| some (((a1 * a2) / 2), V)) else (some ((a1 * a2), V)))))))
set_option maxHeartbeats 4000000 in
set_option maxRecDepth 100000 in
theorem uX0_wearWith (l : Launch) (G : gG) (hG : gIsX G) (V : gV) (c0 : Nat) (a1 : Int32) (a2 : Int32) (hs0 : G.2.2.1 c0 = kX0 c0) : gMi l G yX0_wearWith cX0_wearWith 3 Jvm.ClassFile.FieldType.int (gR 1 30) [.ref (G.1 c0), .int a1, .int a2] V (fX0_wearWith V c0 a1 a2) := by
  unfold fX0_wearWith
  refine gM_i (by decide +kernel) rfl rfl (Nat.le_of_ble_eq_true rfl) (fun X rr VV C E => ?_)
  change gC cX0_wearWith 3 RX0 G X at C
  change gSm l (gR 1 30) 3 G X _ (rr, VV) V 0 [(0, .ref (G.1 c0)), (1, .int a1), (2, .int a2)] []
  refine s_aload_n (q := 1) C 0 dX0_wearWith_0 rfl rfl rfl ?_
  refine geX0_1 (q := 4) C hs0 flX0_19 dX0_wearWith_1 rfl ?_
  refine s_case (fun c1 => ?_) (fun c1 => ?_)
  · refine s_tin (q := 44) (off := 40) (c := 1) C c1 dX0_wearWith_4 (by decide) (by decide) (by decide) (by decide) ?_
    refine s_iconst (q := 45) (v := 0) C dX0_wearWith_44 rfl (by decide) ?_
    refine s_iload_n (q := 46) C 1 dX0_wearWith_45 rfl rfl rfl ?_
    refine s_iload_n (q := 47) C 2 dX0_wearWith_46 rfl rfl rfl ?_
    refine s_imul (q := 48) C dX0_wearWith_47 rfl ?_
    refine s_iconst (q := 49) (v := 1) C dX0_wearWith_48 rfl (by decide) ?_
    refine s_isub (q := 50) C dX0_wearWith_49 rfl ?_
    refine s_mmax (q := 53) C jlX0_53 jm_max_1 jm_init jm_max_2 ⟨by decide, Nat.le_of_ble_eq_true rfl⟩ dX0_wearWith_50 rfl ?_
    exact s_iret C E dX0_wearWith_53
  · refine s_case (fun c2 => ?_) (fun c2 => ?_)
    · refine s_tin (q := 66) (off := 62) (c := 2) C c2 dX0_wearWith_4 (by decide) (by decide) (by decide) (by decide) ?_
      refine s_iload_n (q := 67) C 1 dX0_wearWith_66 rfl rfl rfl ?_
      refine s_iload_n (q := 68) C 2 dX0_wearWith_67 rfl rfl rfl ?_
      refine s_imul (q := 69) C dX0_wearWith_68 rfl ?_
      exact s_iret C E dX0_wearWith_69
    · refine s_case (fun c3 => ?_) (fun c3 => ?_)
      · refine s_tin (q := 66) (off := 62) (c := 3) C c3 dX0_wearWith_4 (by decide) (by decide) (by decide) (by decide) ?_
        refine s_iload_n (q := 67) C 1 dX0_wearWith_66 rfl rfl rfl ?_
        refine s_iload_n (q := 68) C 2 dX0_wearWith_67 rfl rfl rfl ?_
        refine s_imul (q := 69) C dX0_wearWith_68 rfl ?_
        exact s_iret C E dX0_wearWith_69
      · refine s_case (fun c4 => ?_) (fun c4 => ?_)
        · refine s_tin (q := 44) (off := 40) (c := 4) C c4 dX0_wearWith_4 (by decide) (by decide) (by decide) (by decide) ?_
          refine s_iconst (q := 45) (v := 0) C dX0_wearWith_44 rfl (by decide) ?_
          refine s_iload_n (q := 46) C 1 dX0_wearWith_45 rfl rfl rfl ?_
          refine s_iload_n (q := 47) C 2 dX0_wearWith_46 rfl rfl rfl ?_
          refine s_imul (q := 48) C dX0_wearWith_47 rfl ?_
          refine s_iconst (q := 49) (v := 1) C dX0_wearWith_48 rfl (by decide) ?_
          refine s_isub (q := 50) C dX0_wearWith_49 rfl ?_
          refine s_mmax (q := 53) C jlX0_53 jm_max_1 jm_init jm_max_2 ⟨by decide, Nat.le_of_ble_eq_true rfl⟩ dX0_wearWith_50 rfl ?_
          exact s_iret C E dX0_wearWith_53
        · refine s_case (fun c5 => ?_) (fun c5 => ?_)
          · refine s_tin (q := 54) (off := 50) (c := 5) C c5 dX0_wearWith_4 (by decide) (by decide) (by decide) (by decide) ?_
            refine s_iload_n (q := 55) C 1 dX0_wearWith_54 rfl rfl rfl ?_
            refine s_iload_n (q := 56) C 2 dX0_wearWith_55 rfl rfl rfl ?_
            refine s_imul (q := 57) C dX0_wearWith_56 rfl ?_
            refine s_iconst (q := 58) (v := 1) C dX0_wearWith_57 rfl (by decide) ?_
            refine s_iadd (q := 59) C dX0_wearWith_58 rfl ?_
            exact s_iret C E dX0_wearWith_59
          · refine s_case (fun c6 => ?_) (fun c6 => ?_)
            · refine s_tin (q := 60) (off := 56) (c := 6) C c6 dX0_wearWith_4 (by decide) (by decide) (by decide) (by decide) ?_
              refine s_iload_n (q := 61) C 1 dX0_wearWith_60 rfl rfl rfl ?_
              refine s_iload_n (q := 62) C 2 dX0_wearWith_61 rfl rfl rfl ?_
              refine s_imul (q := 63) C dX0_wearWith_62 rfl ?_
              refine s_iconst (q := 64) (v := 2) C dX0_wearWith_63 rfl (by decide) ?_
              refine s_idiv (q := 65) C dX0_wearWith_64 rfl ?_
              exact s_iret C E dX0_wearWith_65
            · refine s_tout (q := 66) C dX0_wearWith_4 (by have zc1 := lv_neT (k := 1) (a := 1) c1 (by decide); have zc2 := lv_neT (k := 2) (a := 2) c2 (by decide); have zc3 := lv_neT (k := 3) (a := 3) c3 (by decide); have zc4 := lv_neT (k := 4) (a := 4) c4 (by decide); have zc5 := lv_neT (k := 5) (a := 5) c5 (by decide); have zc6 := lv_neT (k := 6) (a := 6) c6 (by decide); omega) (by decide) ?_
              refine s_iload_n (q := 67) C 1 dX0_wearWith_66 rfl rfl rfl ?_
              refine s_iload_n (q := 68) C 2 dX0_wearWith_67 rfl rfl rfl ?_
              refine s_imul (q := 69) C dX0_wearWith_68 rfl ?_
              exact s_iret C E dX0_wearWith_69
noncomputable def fX7_held (V : gV) (a0 : Int32) (a1 : Int32) (a2 : Int32) : Option (Int32 × gV) := some ((gmx a1 (gmn a2 a0)), V)
set_option maxHeartbeats 4000000 in
set_option maxRecDepth 100000 in
theorem uX7_held (l : Launch) (G : gG) (hG : gIsX G) (V : gV) (a0 : Int32) (a1 : Int32) (a2 : Int32) : gMi l G yX7_held cX7_held 3 Jvm.ClassFile.FieldType.int (gR 1 30) [.int a0, .int a1, .int a2] V (fX7_held V a0 a1 a2) := by
  unfold fX7_held
  refine gM_i (by decide +kernel) rfl rfl (Nat.le_of_ble_eq_true rfl) (fun X rr VV C E => ?_)
  change gC cX7_held 3 RX7 G X at C
  change gSm l (gR 1 30) 3 G X _ (rr, VV) V 0 [(0, .int a0), (1, .int a1), (2, .int a2)] []
  refine s_iload_n (q := 1) C 1 dX7_held_0 rfl rfl rfl ?_
  refine s_iload_n (q := 2) C 2 dX7_held_1 rfl rfl rfl ?_
  refine s_iload_n (q := 3) C 0 dX7_held_2 rfl rfl rfl ?_
  refine s_mmin (q := 6) C jlX7_309 jm_min_1 jm_init jm_min_2 ⟨by decide, Nat.le_of_ble_eq_true rfl⟩ dX7_held_3 rfl ?_
  refine s_mmax (q := 9) C jlX7_336 jm_max_1 jm_init jm_max_2 ⟨by decide, Nat.le_of_ble_eq_true rfl⟩ dX7_held_6 rfl ?_
  exact s_iret C E dX7_held_9
noncomputable def fX0_wearBy (V : gV) (c0 : Nat) (a1 : Int32) : Option gV := gbi (fX7_held V ((V c0 5) + a1) 0 9999) fun (x1 : Int32) (V2 : gV) => gpu V2 c0 5 x1 fun (V3 : gV) => some V3
set_option maxHeartbeats 4000000 in
set_option maxRecDepth 100000 in
theorem uX0_wearBy (l : Launch) (G : gG) (hG : gIsX G) (V : gV) (c0 : Nat) (a1 : Int32) (hs0 : G.2.2.1 c0 = kX0 c0) : gMv l G yX0_wearBy cX0_wearBy 2 (gR 2 52) [.ref (G.1 c0), .int a1] V (fX0_wearBy V c0 a1) := by
  unfold fX0_wearBy
  refine gM_v (by decide +kernel) rfl rfl (Nat.le_of_ble_eq_true rfl) (fun X VV C E => ?_)
  change gC cX0_wearBy 2 RX0 G X at C
  change gSm l (gR 2 52) 2 G X _ VV V 0 [(0, .ref (G.1 c0)), (1, .int a1)] []
  refine s_aload_n (q := 1) C 0 dX0_wearBy_0 rfl rfl rfl ?_
  refine s_aload_n (q := 2) C 0 dX0_wearBy_1 rfl rfl rfl ?_
  refine geX0_5 (q := 5) C hs0 flX0_31 dX0_wearBy_2 rfl ?_
  refine s_iload_n (q := 6) C 1 dX0_wearBy_5 rfl rfl rfl ?_
  refine s_iadd (q := 7) C dX0_wearBy_6 rfl ?_
  refine s_iconst (q := 8) (v := 0) C dX0_wearBy_7 rfl (by decide) ?_
  refine s_sipush (q := 11) (v := 9999) C dX0_wearBy_8 rfl (by decide) ?_
  refine s_Si (q := 14) (As := [.int ((V c0 5) + a1), .int 0, .int 9999]) (st := [.ref (G.1 c0)]) C (uX7_held l G hG V ((V c0 5) + a1) 0 9999) ysX7_held mlX0_72 rfl rfl rfl rfl (gR_le (by decide) (by decide)) (Nat.le_of_ble_eq_true rfl) dX0_wearBy_11 rfl (fun x1 V2 => ?_)
  refine peX0_5 (q := 17) C hs0 flX0_31 dX0_wearBy_14 rfl (fun V3 => ?_)
  exact s_vret C E dX0_wearBy_17
noncomputable def fX0_pressOnto_L1b (V : gV) (c0 : Nat) (c1 : Nat) (B5 : gV → Int32 → Option (Int32 × gV)) (V3 : gV) (x4 : Int32) : Option (Int32 × gV) := if (V3 c0 4) ≤ x4 then (gpu V3 c0 4 0 fun (V7 : gV) => some (((V7 c1 4) - (V c1 4)), V7)) else (gbi (fX0_nameOf V3 c0 x4) fun (x8 : Int32) (V9 : gV) => gbv (fX0_addLayer V9 c1 x8) fun (V10 : gV) => B5 V10 ((x4 + 1)))
noncomputable def fX0_pressOnto_L1 (V : gV) (c0 : Nat) (c1 : Nat) : Nat → gV → Int32 → Option (Int32 × gV)
  | 0 => fun _ _ => none
  | n + 1 => fX0_pressOnto_L1b V c0 c1 (fX0_pressOnto_L1 V c0 c1 n)
noncomputable def fX0_pressOnto (V : gV) (c0 : Nat) (c1 : Nat) : Option (Int32 × gV) := gbi (fX0_layerOut V c0) fun (x1 : Int32) (V2 : gV) => fX0_pressOnto_L1 V c0 c1 gFu V2 x1
set_option maxHeartbeats 4000000 in
set_option maxRecDepth 100000 in
theorem uX0_pressOnto (l : Launch) (G : gG) (hG : gIsX G) (V : gV) (c0 : Nat) (c1 : Nat) (hs0 : G.2.2.1 c0 = kX0 c0) (hs1 : G.2.2.1 c1 = kX0 c1) : gMi l G yX0_pressOnto cX0_pressOnto 4 Jvm.ClassFile.FieldType.int (gR 2 43) [.ref (G.1 c0), .ref (G.1 c1)] V (fX0_pressOnto V c0 c1) := by
  unfold fX0_pressOnto
  refine gM_i (by decide +kernel) rfl rfl (Nat.le_of_ble_eq_true rfl) (fun X rr VV C E => ?_)
  change gC cX0_pressOnto 4 RX0 G X at C
  change gSm l (gR 2 43) 4 G X _ (rr, VV) V 0 [(0, .ref (G.1 c0)), (1, .ref (G.1 c1))] []
  refine s_aload_n (q := 1) C 1 dX0_pressOnto_0 rfl rfl rfl ?_
  refine geX0_4 (q := 4) C hs1 flX0_28 dX0_pressOnto_1 rfl ?_
  refine s_istore_n (q := 5) (L' := [(2, .int (V c1 4)), (0, .ref (G.1 c0)), (1, .ref (G.1 c1))]) C dX0_pressOnto_4 rfl rfl (by decide) rfl ?_
  refine s_aload_n (q := 6) C 1 dX0_pressOnto_5 rfl rfl rfl ?_
  refine s_Vi (q := 9) (As := []) (st := []) C (uX0_layerOut l G hG V c0 hs0) yvX0_layerOut mlX0_46 hs0 rfl rfl rfl rfl rfl rfl (gR_le (by decide) (by decide)) (Nat.le_of_ble_eq_true rfl) dX0_pressOnto_6 rfl (fun x1 V2 => ?_)
  refine s_istore_n (q := 10) (L' := [(3, .int x1), (2, .int (V c1 4)), (0, .ref (G.1 c0)), (1, .ref (G.1 c1))]) C dX0_pressOnto_9 rfl rfl (by decide) rfl ?_
  have hL1 : ∀ (n : Nat) (V3 : gV) (x4 : Int32), gSm l (gR 2 43) 4 G X (fX0_pressOnto_L1 V c0 c1 n V3 x4) (rr, VV) V3 10 [(0, .ref (G.1 c0)), (1, .ref (G.1 c1)), (2, .int (V c1 4)), (3, .int x4)] [] := by
    intro n
    induction n with
    | zero => exact fun V3 x4 => s_none
    | succ n ih =>
      intro V3 x4
      show gSm l (gR 2 43) 4 G X (fX0_pressOnto_L1b V c0 c1 (fX0_pressOnto_L1 V c0 c1 n) V3 x4) (rr, VV) V3 10 [(0, .ref (G.1 c0)), (1, .ref (G.1 c1)), (2, .int (V c1 4)), (3, .int x4)] []
      generalize fX0_pressOnto_L1 V c0 c1 n = B5 at ih ⊢
      have hB5 := ih
      unfold fX0_pressOnto_L1b
      refine s_iload_n (q := 11) C 3 dX0_pressOnto_10 rfl rfl rfl ?_
      refine s_aload_n (q := 12) C 0 dX0_pressOnto_11 rfl rfl rfl ?_
      refine geX0_4 (q := 15) C hs0 flX0_28 dX0_pressOnto_12 rfl ?_
      refine s_icmp_ge (tgt := 33) (q := 18) C dX0_pressOnto_15 (by decide) rfl (fun c6 => ?_) (fun c6 => ?_)
      · refine s_aload_n (q := 34) C 0 dX0_pressOnto_33 rfl rfl rfl ?_
        refine s_iconst (q := 35) (v := 0) C dX0_pressOnto_34 rfl (by decide) ?_
        refine peX0_4 (q := 38) C hs0 flX0_28 dX0_pressOnto_35 rfl (fun V7 => ?_)
        refine s_aload_n (q := 39) C 1 dX0_pressOnto_38 rfl rfl rfl ?_
        refine geX0_4 (q := 42) C hs1 flX0_28 dX0_pressOnto_39 rfl ?_
        refine s_iload_n (q := 43) C 2 dX0_pressOnto_42 rfl rfl rfl ?_
        refine s_isub (q := 44) C dX0_pressOnto_43 rfl ?_
        exact s_iret C E dX0_pressOnto_44
      · refine s_aload_n (q := 19) C 1 dX0_pressOnto_18 rfl rfl rfl ?_
        refine s_aload_n (q := 20) C 0 dX0_pressOnto_19 rfl rfl rfl ?_
        refine s_iload_n (q := 21) C 3 dX0_pressOnto_20 rfl rfl rfl ?_
        refine s_Vi (q := 24) (As := [.int x4]) (st := [.ref (G.1 c1)]) C (uX0_nameOf l G hG V3 c0 x4 hs0) yvX0_nameOf mlX0_59 hs0 rfl rfl rfl rfl rfl rfl (gR_le (by decide) (by decide)) (Nat.le_of_ble_eq_true rfl) dX0_pressOnto_21 rfl (fun x8 V9 => ?_)
        refine s_Vv (q := 27) (As := [.int x8]) (st := []) C (uX0_addLayer l G hG V9 c1 x8 hs1) yvX0_addLayer mlX0_76 hs1 rfl rfl rfl rfl rfl rfl (gR_le (by decide) (by decide)) (Nat.le_of_ble_eq_true rfl) dX0_pressOnto_24 rfl (fun V10 => ?_)
        refine s_iinc (q := 30) (w := 1) (L' := [(3, .int (x4 + 1)), (0, .ref (G.1 c0)), (1, .ref (G.1 c1)), (2, .int (V c1 4))]) C 3 dX0_pressOnto_27 rfl rfl (by decide) rfl (by decide) rfl ?_
        refine s_goto (q := 10) C dX0_pressOnto_30 (by decide) ?_
        refine s_sub [1, 2, 3, 0] rfl ?_
        exact hB5 V10 ((x4 + 1))
  refine s_sub [2, 3, 1, 0] rfl ?_
  exact hL1 gFu V2 x1
noncomputable def fX1_copyFrom (V : gV) (c0 : Nat) (c1 : Nat) : Option gV := gpu V c0 0 (V c1 0) fun (V1 : gV) => gpu V1 c0 1 (V1 c1 1) fun (V2 : gV) => some V2
set_option maxHeartbeats 4000000 in
set_option maxRecDepth 100000 in
theorem uX1_copyFrom (l : Launch) (G : gG) (hG : gIsX G) (V : gV) (c0 : Nat) (c1 : Nat) (hs0 : G.2.2.1 c0 = kX1 c0) (hs1 : G.2.2.1 c1 = kX1 c1) : gMv l G yX1_copyFrom cX1_copyFrom 2 (gR 0 0) [.ref (G.1 c0), .ref (G.1 c1)] V (fX1_copyFrom V c0 c1) := by
  unfold fX1_copyFrom
  refine gM_v (by decide +kernel) rfl rfl (Nat.le_of_ble_eq_true rfl) (fun X VV C E => ?_)
  change gC cX1_copyFrom 2 RX1 G X at C
  change gSm l (gR 0 0) 2 G X _ VV V 0 [(0, .ref (G.1 c0)), (1, .ref (G.1 c1))] []
  refine s_aload_n (q := 1) C 0 dX1_copyFrom_0 rfl rfl rfl ?_
  refine s_aload_n (q := 2) C 1 dX1_copyFrom_1 rfl rfl rfl ?_
  refine geX1_0 (q := 5) C hs1 flX1_7 dX1_copyFrom_2 rfl ?_
  refine peX1_0 (q := 8) C hs0 flX1_7 dX1_copyFrom_5 rfl (fun V1 => ?_)
  refine s_aload_n (q := 9) C 0 dX1_copyFrom_8 rfl rfl rfl ?_
  refine s_aload_n (q := 10) C 1 dX1_copyFrom_9 rfl rfl rfl ?_
  refine geX1_1 (q := 13) C hs1 flX1_13 dX1_copyFrom_10 rfl ?_
  refine peX1_1 (q := 16) C hs0 flX1_13 dX1_copyFrom_13 rfl (fun V2 => ?_)
  exact s_vret C E dX1_copyFrom_16
noncomputable def fX2_failHere (V : gV) (c0 : Nat) : Option gV := if 0 ≤ (V c0 5) then (some V) else (gpu V c0 5 (V c0 4) fun (V2 : gV) => some V2)
set_option maxHeartbeats 4000000 in
set_option maxRecDepth 100000 in
theorem uX2_failHere (l : Launch) (G : gG) (hG : gIsX G) (V : gV) (c0 : Nat) (hs0 : G.2.2.1 c0 = kX2 c0) : gMv l G yX2_failHere cX2_failHere 1 (gR 0 0) [.ref (G.1 c0)] V (fX2_failHere V c0) := by
  unfold fX2_failHere
  refine gM_v (by decide +kernel) rfl rfl (Nat.le_of_ble_eq_true rfl) (fun X VV C E => ?_)
  change gC cX2_failHere 1 RX2 G X at C
  change gSm l (gR 0 0) 1 G X _ VV V 0 [(0, .ref (G.1 c0))] []
  refine s_aload_n (q := 1) C 0 dX2_failHere_0 rfl rfl rfl ?_
  refine geX2_5 (q := 4) C hs0 flX2_36 dX2_failHere_1 rfl ?_
  refine s_if_ge (tgt := 15) (q := 7) C dX2_failHere_4 (by decide) rfl (fun c1 => ?_) (fun c1 => ?_)
  · exact s_vret C E dX2_failHere_15
  · refine s_aload_n (q := 8) C 0 dX2_failHere_7 rfl rfl rfl ?_
    refine s_aload_n (q := 9) C 0 dX2_failHere_8 rfl rfl rfl ?_
    refine geX2_4 (q := 12) C hs0 flX2_33 dX2_failHere_9 rfl ?_
    refine peX2_5 (q := 15) C hs0 flX2_36 dX2_failHere_12 rfl (fun V2 => ?_)
    exact s_vret C E dX2_failHere_15
noncomputable def fX2_next (V : gV) (c0 : Nat) : Option (Int32 × gV) := if (V c0 3) ≤ (V c0 4) then (some ((-1), V)) else (gbi (fX7_at V (c0 + 4) 50 (V c0 4)) fun (x2 : Int32) (V3 : gV) => some (x2, V3))
set_option maxHeartbeats 4000000 in
set_option maxRecDepth 100000 in
theorem uX2_next (l : Launch) (G : gG) (hG : gIsX G) (V : gV) (c0 : Nat) (hs0 : G.2.2.1 c0 = kX2 c0) : gMi l G yX2_next cX2_next 1 Jvm.ClassFile.FieldType.int (gR 1 21) [.ref (G.1 c0)] V (fX2_next V c0) := by
  unfold fX2_next
  refine gM_i (by decide +kernel) rfl rfl (Nat.le_of_ble_eq_true rfl) (fun X rr VV C E => ?_)
  change gC cX2_next 1 RX2 G X at C
  change gSm l (gR 1 21) 1 G X _ (rr, VV) V 0 [(0, .ref (G.1 c0))] []
  refine s_aload_n (q := 1) C 0 dX2_next_0 rfl rfl rfl ?_
  refine geX2_4 (q := 4) C hs0 flX2_33 dX2_next_1 rfl ?_
  refine s_aload_n (q := 5) C 0 dX2_next_4 rfl rfl rfl ?_
  refine geX2_3 (q := 8) C hs0 flX2_29 dX2_next_5 rfl ?_
  refine s_icmp_ge (tgt := 25) (q := 11) C dX2_next_8 (by decide) rfl (fun c1 => ?_) (fun c1 => ?_)
  · refine s_iconst (q := 26) (v := (-1)) C dX2_next_25 rfl (by decide) ?_
    exact s_iret C E dX2_next_26
  · refine s_aload_n (q := 12) C 0 dX2_next_11 rfl rfl rfl ?_
    refine geX2_1 (q := 15) C hs0 flX2_18 dX2_next_12 rfl ?_
    refine s_aload_n (q := 16) C 0 dX2_next_15 rfl rfl rfl ?_
    refine geX2_4 (q := 19) C hs0 flX2_33 dX2_next_16 rfl ?_
    refine s_Si (q := 22) (As := [.ref (G.1 (c0 + 4)), .int (V c0 4)]) (st := []) C (uX7_at l G hG V (c0 + 4) 50 (V c0 4) (qX2_1 hG hs0)) ysX7_at mlX2_47 rfl rfl rfl rfl (gR_le (by decide) (by decide)) (Nat.le_of_ble_eq_true rfl) dX2_next_19 rfl (fun x2 V3 => ?_)
    refine s_goto (q := 26) C dX2_next_22 (by decide) ?_
    exact s_iret C E dX2_next_26
noncomputable def fX2_rankOf (V : gV) (a0 : Int32) : Option (Int32 × gV) := if a0 = 37 then (some (4, V)) else (if a0 = 38 then (some (1, V)) else (if a0 = 42 then (some (4, V)) else (if a0 = 43 then (some (3, V)) else (if a0 = 45 then (some (3, V)) else (if a0 = 47 then (some (4, V)) else (if a0 = 60 then (some (2, V)) else (if a0 = 61 then (some (2, V)) else (if a0 = 62 then (some (2, V)) else (if a0 = 124 then (some (0, V)) else (some ((-1), V)))))))))))
set_option maxHeartbeats 4000000 in
set_option maxRecDepth 100000 in
theorem uX2_rankOf (l : Launch) (G : gG) (hG : gIsX G) (V : gV) (a0 : Int32) : gMi l G yX2_rankOf cX2_rankOf 1 Jvm.ClassFile.FieldType.int (gR 0 0) [.int a0] V (fX2_rankOf V a0) := by
  unfold fX2_rankOf
  refine gM_i (by decide +kernel) rfl rfl (Nat.le_of_ble_eq_true rfl) (fun X rr VV C E => ?_)
  change gC cX2_rankOf 1 RX2 G X at C
  change gSm l (gR 0 0) 1 G X _ (rr, VV) V 0 [(0, .int a0)] []
  refine s_iload_n (q := 1) C 0 dX2_rankOf_0 rfl rfl rfl ?_
  refine s_case (fun c1 => ?_) (fun c1 => ?_)
  · refine s_look (q := 100) (off := 99) C dX2_rankOf_1 (by decide) (by rw [c1]; decide) (by decide) ?_
    refine s_iconst (q := 101) (v := 4) C dX2_rankOf_100 rfl (by decide) ?_
    exact s_iret C E dX2_rankOf_101
  · refine s_case (fun c2 => ?_) (fun c2 => ?_)
    · refine s_look (q := 94) (off := 93) C dX2_rankOf_1 (by decide) (by rw [c2]; decide) (by decide) ?_
      refine s_iconst (q := 95) (v := 1) C dX2_rankOf_94 rfl (by decide) ?_
      exact s_iret C E dX2_rankOf_95
    · refine s_case (fun c3 => ?_) (fun c3 => ?_)
      · refine s_look (q := 100) (off := 99) C dX2_rankOf_1 (by decide) (by rw [c3]; decide) (by decide) ?_
        refine s_iconst (q := 101) (v := 4) C dX2_rankOf_100 rfl (by decide) ?_
        exact s_iret C E dX2_rankOf_101
      · refine s_case (fun c4 => ?_) (fun c4 => ?_)
        · refine s_look (q := 98) (off := 97) C dX2_rankOf_1 (by decide) (by rw [c4]; decide) (by decide) ?_
          refine s_iconst (q := 99) (v := 3) C dX2_rankOf_98 rfl (by decide) ?_
          exact s_iret C E dX2_rankOf_99
        · refine s_case (fun c5 => ?_) (fun c5 => ?_)
          · refine s_look (q := 98) (off := 97) C dX2_rankOf_1 (by decide) (by rw [c5]; decide) (by decide) ?_
            refine s_iconst (q := 99) (v := 3) C dX2_rankOf_98 rfl (by decide) ?_
            exact s_iret C E dX2_rankOf_99
          · refine s_case (fun c6 => ?_) (fun c6 => ?_)
            · refine s_look (q := 100) (off := 99) C dX2_rankOf_1 (by decide) (by rw [c6]; decide) (by decide) ?_
              refine s_iconst (q := 101) (v := 4) C dX2_rankOf_100 rfl (by decide) ?_
              exact s_iret C E dX2_rankOf_101
            · refine s_case (fun c7 => ?_) (fun c7 => ?_)
              · refine s_look (q := 96) (off := 95) C dX2_rankOf_1 (by decide) (by rw [c7]; decide) (by decide) ?_
                refine s_iconst (q := 97) (v := 2) C dX2_rankOf_96 rfl (by decide) ?_
                exact s_iret C E dX2_rankOf_97
              · refine s_case (fun c8 => ?_) (fun c8 => ?_)
                · refine s_look (q := 96) (off := 95) C dX2_rankOf_1 (by decide) (by rw [c8]; decide) (by decide) ?_
                  refine s_iconst (q := 97) (v := 2) C dX2_rankOf_96 rfl (by decide) ?_
                  exact s_iret C E dX2_rankOf_97
                · refine s_case (fun c9 => ?_) (fun c9 => ?_)
                  · refine s_look (q := 96) (off := 95) C dX2_rankOf_1 (by decide) (by rw [c9]; decide) (by decide) ?_
                    refine s_iconst (q := 97) (v := 2) C dX2_rankOf_96 rfl (by decide) ?_
                    exact s_iret C E dX2_rankOf_97
                  · refine s_case (fun c10 => ?_) (fun c10 => ?_)
                    · refine s_look (q := 92) (off := 91) C dX2_rankOf_1 (by decide) (by rw [c10]; decide) (by decide) ?_
                      refine s_iconst (q := 93) (v := 0) C dX2_rankOf_92 rfl (by decide) ?_
                      exact s_iret C E dX2_rankOf_93
                    · refine s_look (q := 102) (off := 101) C dX2_rankOf_1 (by decide) ((lv_osw c1 (by decide)).trans ((lv_osw c2 (by decide)).trans ((lv_osw c3 (by decide)).trans ((lv_osw c4 (by decide)).trans ((lv_osw c5 (by decide)).trans ((lv_osw c6 (by decide)).trans ((lv_osw c7 (by decide)).trans ((lv_osw c8 (by decide)).trans ((lv_osw c9 (by decide)).trans ((lv_osw c10 (by decide)).trans (rfl))))))))))) (by decide) ?_
                      refine s_iconst (q := 103) (v := (-1)) C dX2_rankOf_102 rfl (by decide) ?_
                      exact s_iret C E dX2_rankOf_103
noncomputable def fX4_add (V : gV) (c0 : Nat) (a1 : Int32) : Option gV := gbv (fX7_setAt V (c0 + 1) 50 (V c0 2) a1) fun (V1 : gV) => gpu V1 c0 2 ((V1 c0 2) + 1) fun (V2 : gV) => some V2
set_option maxHeartbeats 4000000 in
set_option maxRecDepth 100000 in
theorem uX4_add (l : Launch) (G : gG) (hG : gIsX G) (V : gV) (c0 : Nat) (a1 : Int32) (hs0 : G.2.2.1 c0 = kX4 c0) : gMv l G yX4_add cX4_add 2 (gR 1 22) [.ref (G.1 c0), .int a1] V (fX4_add V c0 a1) := by
  unfold fX4_add
  refine gM_v (by decide +kernel) rfl rfl (Nat.le_of_ble_eq_true rfl) (fun X VV C E => ?_)
  change gC cX4_add 2 RX4 G X at C
  change gSm l (gR 1 22) 2 G X _ VV V 0 [(0, .ref (G.1 c0)), (1, .int a1)] []
  refine s_aload_n (q := 1) C 0 dX4_add_0 rfl rfl rfl ?_
  refine geX4_0 (q := 4) C hs0 flX4_9 dX4_add_1 rfl ?_
  refine s_aload_n (q := 5) C 0 dX4_add_4 rfl rfl rfl ?_
  refine geX4_2 (q := 8) C hs0 flX4_18 dX4_add_5 rfl ?_
  refine s_iload_n (q := 9) C 1 dX4_add_8 rfl rfl rfl ?_
  refine s_Sv (q := 12) (As := [.ref (G.1 (c0 + 1)), .int (V c0 2), .int a1]) (st := []) C (uX7_setAt l G hG V (c0 + 1) 50 (V c0 2) a1 (qX4_0 hG hs0) (mX4_0 hG hs0)) ysX7_setAt mlX4_22 rfl rfl rfl rfl (gR_le (by decide) (by decide)) (Nat.le_of_ble_eq_true rfl) dX4_add_9 rfl (fun V1 => ?_)
  refine s_aload_n (q := 13) C 0 dX4_add_12 rfl rfl rfl ?_
  refine s_dup (q := 14) C dX4_add_13 rfl rfl ?_
  refine geX4_2 (q := 17) C hs0 flX4_18 dX4_add_14 rfl ?_
  refine s_iconst (q := 18) (v := 1) C dX4_add_17 rfl (by decide) ?_
  refine s_iadd (q := 19) C dX4_add_18 rfl ?_
  refine peX4_2 (q := 22) C hs0 flX4_18 dX4_add_19 rfl (fun V2 => ?_)
  exact s_vret C E dX4_add_22
noncomputable def fX7_within (V : gV) (a0 : Int32) (a1 : Int32) (a2 : Int32) : Option (Int32 × gV) := if a0 < a1 then (some (0, V)) else (if a2 < a0 then (some (0, V)) else (some (1, V)))
set_option maxHeartbeats 4000000 in
set_option maxRecDepth 100000 in
theorem uX7_within (l : Launch) (G : gG) (hG : gIsX G) (V : gV) (a0 : Int32) (a1 : Int32) (a2 : Int32) : gMi l G yX7_within cX7_within 3 Jvm.ClassFile.FieldType.boolean (gR 0 0) [.int a0, .int a1, .int a2] V (fX7_within V a0 a1 a2) := by
  unfold fX7_within
  refine gM_i (by decide +kernel) rfl rfl (Nat.le_of_ble_eq_true rfl) (fun X rr VV C E => ?_)
  change gC cX7_within 3 RX7 G X at C
  change gSm l (gR 0 0) 3 G X _ (rr, VV) V 0 [(0, .int a0), (1, .int a1), (2, .int a2)] []
  refine s_iload_n (q := 1) C 0 dX7_within_0 rfl rfl rfl ?_
  refine s_iload_n (q := 2) C 1 dX7_within_1 rfl rfl rfl ?_
  refine s_icmp_lt (tgt := 14) (q := 5) C dX7_within_2 (by decide) rfl (fun c1 => ?_) (fun c1 => ?_)
  · refine s_iconst (q := 15) (v := 0) C dX7_within_14 rfl (by decide) ?_
    exact s_zret C E rfl dX7_within_15
  · refine s_iload_n (q := 6) C 0 dX7_within_5 rfl rfl rfl ?_
    refine s_iload_n (q := 7) C 2 dX7_within_6 rfl rfl rfl ?_
    refine s_icmp_gt (tgt := 14) (q := 10) C dX7_within_7 (by decide) rfl (fun c2 => ?_) (fun c2 => ?_)
    · refine s_iconst (q := 15) (v := 0) C dX7_within_14 rfl (by decide) ?_
      exact s_zret C E rfl dX7_within_15
    · refine s_iconst (q := 11) (v := 1) C dX7_within_10 rfl (by decide) ?_
      refine s_goto (q := 15) C dX7_within_11 (by decide) ?_
      exact s_zret C E rfl dX7_within_15
noncomputable def fX2_readName_L1b (c0 : Nat) (a1 : Int32) (B3 : gV → Int32 → Option gV) (V1 : gV) (x2 : Int32) : Option gV := if 3 ≤ x2 then (gbv (fX2_failHere V1 c0) fun (V5 : gV) => some V5) else (gbi (fX7_at V1 (c0 + 5) 3 x2) fun (x6 : Int32) (V7 : gV) => if x6 = a1 then (gbv (fX4_add V7 (c0 + 1) ((-1) - x2)) fun (V9 : gV) => gpu V9 c0 4 ((V9 c0 4) + 1) fun (V10 : gV) => some V10) else (B3 V7 ((x2 + 1))))
noncomputable def fX2_readName_L1 (c0 : Nat) (a1 : Int32) : Nat → gV → Int32 → Option gV
  | 0 => fun _ _ => none
  | n + 1 => fX2_readName_L1b c0 a1 (fX2_readName_L1 c0 a1 n)
noncomputable def fX2_readName (V : gV) (c0 : Nat) (a1 : Int32) : Option gV := fX2_readName_L1 c0 a1 gFu V 0
set_option maxHeartbeats 4000000 in
set_option maxRecDepth 100000 in
theorem uX2_readName (l : Launch) (G : gG) (hG : gIsX G) (V : gV) (c0 : Nat) (a1 : Int32) (hs0 : G.2.2.1 c0 = kX2 c0) : gMv l G yX2_readName cX2_readName 3 (gR 2 43) [.ref (G.1 c0), .int a1] V (fX2_readName V c0 a1) := by
  unfold fX2_readName
  refine gM_v (by decide +kernel) rfl rfl (Nat.le_of_ble_eq_true rfl) (fun X VV C E => ?_)
  change gC cX2_readName 3 RX2 G X at C
  change gSm l (gR 2 43) 3 G X _ VV V 0 [(0, .ref (G.1 c0)), (1, .int a1)] []
  refine s_iconst (q := 1) (v := 0) C dX2_readName_0 rfl (by decide) ?_
  refine s_istore_n (q := 2) (L' := [(2, .int 0), (0, .ref (G.1 c0)), (1, .int a1)]) C dX2_readName_1 rfl rfl (by decide) rfl ?_
  have hL1 : ∀ (n : Nat) (V1 : gV) (x2 : Int32), gSm l (gR 2 43) 3 G X (fX2_readName_L1 c0 a1 n V1 x2) VV V1 2 [(0, .ref (G.1 c0)), (1, .int a1), (2, .int x2)] [] := by
    intro n
    induction n with
    | zero => exact fun V1 x2 => s_none
    | succ n ih =>
      intro V1 x2
      show gSm l (gR 2 43) 3 G X (fX2_readName_L1b c0 a1 (fX2_readName_L1 c0 a1 n) V1 x2) VV V1 2 [(0, .ref (G.1 c0)), (1, .int a1), (2, .int x2)] []
      generalize fX2_readName_L1 c0 a1 n = B3 at ih ⊢
      have hB3 := ih
      unfold fX2_readName_L1b
      refine s_iload_n (q := 3) C 2 dX2_readName_2 rfl rfl rfl ?_
      refine s_aload_n (q := 4) C 0 dX2_readName_3 rfl rfl rfl ?_
      refine geX2_2 (q := 7) C hs0 flX2_22 dX2_readName_4 rfl ?_
      refine s_alen (q := 8) (v := 3) C (qX2_2 hG hs0) (by decide) dX2_readName_7 rfl ?_
      refine s_icmp_ge (tgt := 50) (q := 11) C dX2_readName_8 (by decide) rfl (fun c4 => ?_) (fun c4 => ?_)
      · refine s_aload_n (q := 51) C 0 dX2_readName_50 rfl rfl rfl ?_
        refine s_Vv (q := 54) (As := []) (st := []) C (uX2_failHere l G hG V1 c0 hs0) yvX2_failHere mlX2_44 hs0 rfl rfl rfl rfl rfl rfl (gR_le (by decide) (by decide)) (Nat.le_of_ble_eq_true rfl) dX2_readName_51 rfl (fun V5 => ?_)
        exact s_vret C E dX2_readName_54
      · refine s_aload_n (q := 12) C 0 dX2_readName_11 rfl rfl rfl ?_
        refine geX2_2 (q := 15) C hs0 flX2_22 dX2_readName_12 rfl ?_
        refine s_iload_n (q := 16) C 2 dX2_readName_15 rfl rfl rfl ?_
        refine s_Si (q := 19) (As := [.ref (G.1 (c0 + 5)), .int x2]) (st := []) C (uX7_at l G hG V1 (c0 + 5) 3 x2 (qX2_2 hG hs0)) ysX7_at mlX2_47 rfl rfl rfl rfl (gR_le (by decide) (by decide)) (Nat.le_of_ble_eq_true rfl) dX2_readName_16 rfl (fun x6 V7 => ?_)
        refine s_iload_n (q := 20) C 1 dX2_readName_19 rfl rfl rfl ?_
        refine s_icmp_ne (tgt := 44) (q := 23) C dX2_readName_20 (by decide) rfl (fun c8 => ?_) (fun c8 => ?_)
        · refine s_aload_n (q := 24) C 0 dX2_readName_23 rfl rfl rfl ?_
          refine geX2_0 (q := 27) C hs0 flX2_12 dX2_readName_24 rfl ?_
          refine s_iconst (q := 28) (v := (-1)) C dX2_readName_27 rfl (by decide) ?_
          refine s_iload_n (q := 29) C 2 dX2_readName_28 rfl rfl rfl ?_
          refine s_isub (q := 30) C dX2_readName_29 rfl ?_
          refine s_Vv (q := 33) (As := [.int ((-1) - x2)]) (st := []) C (uX4_add l G hG V7 (c0 + 1) ((-1) - x2) (qX2_0 hG hs0)) yvX4_add mlX2_63 (qX2_0 hG hs0) rfl rfl rfl rfl rfl rfl (gR_le (by decide) (by decide)) (Nat.le_of_ble_eq_true rfl) dX2_readName_30 rfl (fun V9 => ?_)
          refine s_aload_n (q := 34) C 0 dX2_readName_33 rfl rfl rfl ?_
          refine s_dup (q := 35) C dX2_readName_34 rfl rfl ?_
          refine geX2_4 (q := 38) C hs0 flX2_33 dX2_readName_35 rfl ?_
          refine s_iconst (q := 39) (v := 1) C dX2_readName_38 rfl (by decide) ?_
          refine s_iadd (q := 40) C dX2_readName_39 rfl ?_
          refine peX2_4 (q := 43) C hs0 flX2_33 dX2_readName_40 rfl (fun V10 => ?_)
          exact s_vret C E dX2_readName_43
        · refine s_iinc (q := 47) (w := 1) (L' := [(2, .int (x2 + 1)), (0, .ref (G.1 c0)), (1, .int a1)]) C 2 dX2_readName_44 rfl rfl (by decide) rfl (by decide) rfl ?_
          refine s_goto (q := 2) C dX2_readName_47 (by decide) ?_
          refine s_sub [1, 2, 0] rfl ?_
          exact hB3 V7 ((x2 + 1))
  refine s_sub [1, 2, 0] rfl ?_
  exact hL1 gFu V 0
noncomputable def fX2_readNumber_L1b (c0 : Nat) (B4 : gV → Int32 → Int32 → Option gV) (V1 : gV) (x2 : Int32) (x3 : Int32) : Option gV := if 4 ≤ x3 then (gbv (fX4_add V1 (c0 + 1) x2) fun (V6 : gV) => some V6) else (gbi (fX2_next V1 c0) fun (x7 : Int32) (V8 : gV) => gbi (fX7_within V8 x7 48 57) fun (x9 : Int32) (V10 : gV) => if x9 = 0 then (gbv (fX4_add V10 (c0 + 1) x2) fun (V12 : gV) => some V12) else (gbi (fX2_next V10 c0) fun (x13 : Int32) (V14 : gV) => glt (((10 * x2) + x13) - 48) fun (x15 : Int32) => gpu V14 c0 4 ((V14 c0 4) + 1) fun (V16 : gV) => B4 V16 x15 ((x3 + 1))))
noncomputable def fX2_readNumber_L1 (c0 : Nat) : Nat → gV → Int32 → Int32 → Option gV
  | 0 => fun _ _ _ => none
  | n + 1 => fX2_readNumber_L1b c0 (fX2_readNumber_L1 c0 n)
noncomputable def fX2_readNumber (V : gV) (c0 : Nat) : Option gV := fX2_readNumber_L1 c0 gFu V 0 0
set_option maxHeartbeats 4000000 in
set_option maxRecDepth 100000 in
theorem uX2_readNumber (l : Launch) (G : gG) (hG : gIsX G) (V : gV) (c0 : Nat) (hs0 : G.2.2.1 c0 = kX2 c0) : gMv l G yX2_readNumber cX2_readNumber 3 (gR 2 43) [.ref (G.1 c0)] V (fX2_readNumber V c0) := by
  unfold fX2_readNumber
  refine gM_v (by decide +kernel) rfl rfl (Nat.le_of_ble_eq_true rfl) (fun X VV C E => ?_)
  change gC cX2_readNumber 3 RX2 G X at C
  change gSm l (gR 2 43) 3 G X _ VV V 0 [(0, .ref (G.1 c0))] []
  refine s_iconst (q := 1) (v := 0) C dX2_readNumber_0 rfl (by decide) ?_
  refine s_istore_n (q := 2) (L' := [(1, .int 0), (0, .ref (G.1 c0))]) C dX2_readNumber_1 rfl rfl (by decide) rfl ?_
  refine s_iconst (q := 3) (v := 0) C dX2_readNumber_2 rfl (by decide) ?_
  refine s_istore_n (q := 4) (L' := [(2, .int 0), (1, .int 0), (0, .ref (G.1 c0))]) C dX2_readNumber_3 rfl rfl (by decide) rfl ?_
  have hL1 : ∀ (n : Nat) (V1 : gV) (x2 : Int32) (x3 : Int32), gSm l (gR 2 43) 3 G X (fX2_readNumber_L1 c0 n V1 x2 x3) VV V1 4 [(0, .ref (G.1 c0)), (1, .int x2), (2, .int x3)] [] := by
    intro n
    induction n with
    | zero => exact fun V1 x2 x3 => s_none
    | succ n ih =>
      intro V1 x2 x3
      show gSm l (gR 2 43) 3 G X (fX2_readNumber_L1b c0 (fX2_readNumber_L1 c0 n) V1 x2 x3) VV V1 4 [(0, .ref (G.1 c0)), (1, .int x2), (2, .int x3)] []
      generalize fX2_readNumber_L1 c0 n = B4 at ih ⊢
      have hB4 := ih
      unfold fX2_readNumber_L1b
      refine s_iload_n (q := 5) C 2 dX2_readNumber_4 rfl rfl rfl ?_
      refine s_iconst (q := 6) (v := 4) C dX2_readNumber_5 rfl (by decide) ?_
      refine s_icmp_ge (tgt := 52) (q := 9) C dX2_readNumber_6 (by decide) rfl (fun c5 => ?_) (fun c5 => ?_)
      · refine s_aload_n (q := 53) C 0 dX2_readNumber_52 rfl rfl rfl ?_
        refine geX2_0 (q := 56) C hs0 flX2_12 dX2_readNumber_53 rfl ?_
        refine s_iload_n (q := 57) C 1 dX2_readNumber_56 rfl rfl rfl ?_
        refine s_Vv (q := 60) (As := [.int x2]) (st := []) C (uX4_add l G hG V1 (c0 + 1) x2 (qX2_0 hG hs0)) yvX4_add mlX2_63 (qX2_0 hG hs0) rfl rfl rfl rfl rfl rfl (gR_le (by decide) (by decide)) (Nat.le_of_ble_eq_true rfl) dX2_readNumber_57 rfl (fun V6 => ?_)
        exact s_vret C E dX2_readNumber_60
      · refine s_aload_n (q := 10) C 0 dX2_readNumber_9 rfl rfl rfl ?_
        refine s_Vi (q := 13) (As := []) (st := []) C (uX2_next l G hG V1 c0 hs0) yvX2_next mlX2_55 hs0 rfl rfl rfl rfl rfl rfl (gR_le (by decide) (by decide)) (Nat.le_of_ble_eq_true rfl) dX2_readNumber_10 rfl (fun x7 V8 => ?_)
        refine s_bipush (q := 15) (v := 48) C dX2_readNumber_13 rfl (by decide) ?_
        refine s_bipush (q := 17) (v := 57) C dX2_readNumber_15 rfl (by decide) ?_
        refine s_Si (q := 20) (As := [.int x7, .int 48, .int 57]) (st := []) C (uX7_within l G hG V8 x7 48 57) ysX7_within mlX2_66 rfl rfl rfl rfl (gR_le (by decide) (by decide)) (Nat.le_of_ble_eq_true rfl) dX2_readNumber_17 rfl (fun x9 V10 => ?_)
        refine s_if_eq (tgt := 52) (q := 23) C dX2_readNumber_20 (by decide) rfl (fun c11 => ?_) (fun c11 => ?_)
        · refine s_aload_n (q := 53) C 0 dX2_readNumber_52 rfl rfl rfl ?_
          refine geX2_0 (q := 56) C hs0 flX2_12 dX2_readNumber_53 rfl ?_
          refine s_iload_n (q := 57) C 1 dX2_readNumber_56 rfl rfl rfl ?_
          refine s_Vv (q := 60) (As := [.int x2]) (st := []) C (uX4_add l G hG V10 (c0 + 1) x2 (qX2_0 hG hs0)) yvX4_add mlX2_63 (qX2_0 hG hs0) rfl rfl rfl rfl rfl rfl (gR_le (by decide) (by decide)) (Nat.le_of_ble_eq_true rfl) dX2_readNumber_57 rfl (fun V12 => ?_)
          exact s_vret C E dX2_readNumber_60
        · refine s_bipush (q := 25) (v := 10) C dX2_readNumber_23 rfl (by decide) ?_
          refine s_iload_n (q := 26) C 1 dX2_readNumber_25 rfl rfl rfl ?_
          refine s_imul (q := 27) C dX2_readNumber_26 rfl ?_
          refine s_aload_n (q := 28) C 0 dX2_readNumber_27 rfl rfl rfl ?_
          refine s_Vi (q := 31) (As := []) (st := [.int (10 * x2)]) C (uX2_next l G hG V10 c0 hs0) yvX2_next mlX2_55 hs0 rfl rfl rfl rfl rfl rfl (gR_le (by decide) (by decide)) (Nat.le_of_ble_eq_true rfl) dX2_readNumber_28 rfl (fun x13 V14 => ?_)
          refine s_iadd (q := 32) C dX2_readNumber_31 rfl ?_
          refine s_bipush (q := 34) (v := 48) C dX2_readNumber_32 rfl (by decide) ?_
          refine s_isub (q := 35) C dX2_readNumber_34 rfl ?_
          refine s_lt (fun x15 => ?_)
          refine s_istore_n (q := 36) (L' := [(1, .int x15), (0, .ref (G.1 c0)), (2, .int x3)]) C dX2_readNumber_35 rfl rfl (by decide) rfl ?_
          refine s_aload_n (q := 37) C 1 dX2_readNumber_36 rfl rfl rfl ?_
          refine s_dup (q := 38) C dX2_readNumber_37 rfl rfl ?_
          refine geX2_4 (q := 41) C hs0 flX2_33 dX2_readNumber_38 rfl ?_
          refine s_iconst (q := 42) (v := 1) C dX2_readNumber_41 rfl (by decide) ?_
          refine s_iadd (q := 43) C dX2_readNumber_42 rfl ?_
          refine peX2_4 (q := 46) C hs0 flX2_33 dX2_readNumber_43 rfl (fun V16 => ?_)
          refine s_iinc (q := 49) (w := 1) (L' := [(2, .int (x3 + 1)), (1, .int x15), (0, .ref (G.1 c0))]) C 2 dX2_readNumber_46 rfl rfl (by decide) rfl (by decide) rfl ?_
          refine s_goto (q := 4) C dX2_readNumber_49 (by decide) ?_
          refine s_sub [2, 1, 0] rfl ?_
          exact hB4 V16 x15 ((x3 + 1))
  refine s_sub [2, 1, 0] rfl ?_
  exact hL1 gFu V 0 0
noncomputable def fX2_readChain_L1b (rc : Nat → gV → Nat → Int32 → Int32 → Option gV) (c0 : Nat) (a1 : Int32) (a2 : Int32) (B6 : gV → Int32 → Option gV) (V4 : gV) (x5 : Int32) : Option gV := if 50 ≤ x5 then (some V4) else (if 0 ≤ (V4 c0 5) then (some V4) else (gbi (fX2_next V4 c0) fun (x9 : Int32) (V10 : gV) => gbi (fX2_rankOf V10 x9) fun (x11 : Int32) (V12 : gV) => if x11 = a1 then (gbi (fX2_next V12 c0) fun (x14 : Int32) (V15 : gV) => gpu V15 c0 4 ((V15 c0 4) + 1) fun (V16 : gV) => gbv (rc 0 V16 c0 (a1 + 1) a2) fun (V17 : gV) => gbv (fX4_add V17 (c0 + 1) (-x14)) fun (V18 : gV) => B6 V18 ((x5 + 1))) else (some V12)))
noncomputable def fX2_readChain_L1 (rc : Nat → gV → Nat → Int32 → Int32 → Option gV) (c0 : Nat) (a1 : Int32) (a2 : Int32) : Nat → gV → Int32 → Option gV
  | 0 => fun _ _ => none
  | n + 1 => fX2_readChain_L1b rc c0 a1 a2 (fX2_readChain_L1 rc c0 a1 a2 n)
noncomputable def fX2_readChain_L2b (rc : Nat → gV → Nat → Int32 → Int32 → Option gV) (c0 : Nat) (a1 : Int32) (a2 : Int32) (B21 : gV → Int32 → Option gV) (V19 : gV) (x20 : Int32) : Option gV := if 1 ≤ x20 then (some V19) else (if 0 ≤ (V19 c0 5) then (some V19) else (gbi (fX2_next V19 c0) fun (x24 : Int32) (V25 : gV) => gbi (fX2_rankOf V25 x24) fun (x26 : Int32) (V27 : gV) => if x26 = a1 then (gbi (fX2_next V27 c0) fun (x29 : Int32) (V30 : gV) => gpu V30 c0 4 ((V30 c0 4) + 1) fun (V31 : gV) => gbv (rc 0 V31 c0 (a1 + 1) a2) fun (V32 : gV) => gbv (fX4_add V32 (c0 + 1) (-x29)) fun (V33 : gV) => B21 V33 ((x20 + 1))) else (some V27)))
noncomputable def fX2_readChain_L2 (rc : Nat → gV → Nat → Int32 → Int32 → Option gV) (c0 : Nat) (a1 : Int32) (a2 : Int32) : Nat → gV → Int32 → Option gV
  | 0 => fun _ _ => none
  | n + 1 => fX2_readChain_L2b rc c0 a1 a2 (fX2_readChain_L2 rc c0 a1 a2 n)
noncomputable def fX2_readChain_B (rc : Nat → gV → Nat → Int32 → Int32 → Option gV) (V : gV) (c0 : Nat) (a1 : Int32) (a2 : Int32) : Option gV := if a1 ≤ 4 then (gbv (rc 0 V c0 (a1 + 1) a2) fun (V2 : gV) => if a1 = 2 then (fX2_readChain_L2 rc c0 a1 a2 gFu V2 0) else (fX2_readChain_L1 rc c0 a1 a2 gFu V2 0)) else (gbv (rc 1 V c0 a2 0) fun (V34 : gV) => some V34)
noncomputable def fX2_readOne_B (rc : Nat → gV → Nat → Int32 → Int32 → Option gV) (V : gV) (c0 : Nat) (a1 : Int32) : Option gV := gbi (fX2_next V c0) fun (x1 : Int32) (V2 : gV) => gbi (fX7_within V2 x1 48 57) fun (x3 : Int32) (V4 : gV) => if x3 = 0 then (gjn (gbv (rc 2 V4 c0 x1 (a1 + 1)) fun (V10 : gV) => some V10) fun J9 => if x1 = 33 then (J9) else (if x1 = 40 then (J9) else (gbv (fX2_readName V4 c0 x1) fun (V13 : gV) => some V13))) else (gbv (fX2_readNumber V4 c0) fun (V14 : gV) => some V14)
noncomputable def fX2_readOpened_B (rc : Nat → gV → Nat → Int32 → Int32 → Option gV) (V : gV) (c0 : Nat) (a1 : Int32) (a2 : Int32) : Option gV := if a2 ≤ 5 then (gpu V c0 4 ((V c0 4) + 1) fun (V2 : gV) => if a1 = 33 then (gbv (rc 1 V2 c0 a2 0) fun (V10 : gV) => gbv (fX4_add V10 (c0 + 1) (-a1)) fun (V11 : gV) => some V11) else (gbv (rc 0 V2 c0 0 a2) fun (V4 : gV) => gbi (fX2_next V4 c0) fun (x5 : Int32) (V6 : gV) => if x5 = 41 then (gpu V6 c0 4 ((V6 c0 4) + 1) fun (V9 : gV) => some V9) else (gbv (fX2_failHere V6 c0) fun (V8 : gV) => some V8))) else (gbv (fX2_failHere V c0) fun (V12 : gV) => some V12)
noncomputable def frdX2 : Nat → Nat → gV → Nat → Int32 → Int32 → Option gV
  | 0 => fun _ _ _ _ _ => none
  | d + 1 => fun t V a0 a1 a2 => match t with
    | 0 => fX2_readChain_B (frdX2 d) V a0 a1 a2
    | 1 => fX2_readOne_B (frdX2 d) V a0 a1
    | _ => fX2_readOpened_B (frdX2 d) V a0 a1 a2
set_option maxHeartbeats 8000000 in
set_option maxRecDepth 100000 in
theorem urdX2 (l : Launch) (G : gG) (hG : gIsX G) : ∀ (d : Nat), (∀ (V : gV) (c0 : Nat) (a1 : Int32) (a2 : Int32) (hs0 : G.2.2.1 c0 = kX2 c0), gMv l G yX2_readChain cX2_readChain 6 (gR (3 + 1 * d) (65 + 25 * d)) [.ref (G.1 c0), .int a1, .int a2] V (frdX2 d 0 V c0 a1 a2)) ∧ (∀ (V : gV) (c0 : Nat) (a1 : Int32) (hs0 : G.2.2.1 c0 = kX2 c0), gMv l G yX2_readOne cX2_readOne 3 (gR (3 + 1 * d) (65 + 25 * d)) [.ref (G.1 c0), .int a1] V (frdX2 d 1 V c0 a1 0)) ∧ (∀ (V : gV) (c0 : Nat) (a1 : Int32) (a2 : Int32) (hs0 : G.2.2.1 c0 = kX2 c0), gMv l G yX2_readOpened cX2_readOpened 3 (gR (3 + 1 * d) (65 + 25 * d)) [.ref (G.1 c0), .int a1, .int a2] V (frdX2 d 2 V c0 a1 a2)) := by
  intro d
  induction d with
  | zero => exact ⟨by intros; intro _; intros; contradiction, by intros; intro _; intros; contradiction, by intros; intro _; intros; contradiction⟩
  | succ d ih =>
    obtain ⟨hrc0, hrc1, hrc2⟩ := ih
    refine ⟨?_, ?_, ?_⟩
    · intro V c0 a1 a2 hs0
      show gMv l G yX2_readChain cX2_readChain 6 (gR (3 + 1 * (d + 1)) (65 + 25 * (d + 1))) [.ref (G.1 c0), .int a1, .int a2] V (fX2_readChain_B (frdX2 d) V c0 a1 a2)
      generalize frdX2 d = rc at hrc0 hrc1 hrc2 ⊢
      unfold fX2_readChain_B
      refine gM_v (by decide +kernel) rfl rfl (Nat.le_of_ble_eq_true rfl) (fun X VV C E => ?_)
      change gC cX2_readChain 6 RX2 G X at C
      change gSm l (gR (3 + 1 * (d + 1)) (65 + 25 * (d + 1))) 6 G X _ VV V 0 [(0, .ref (G.1 c0)), (1, .int a1), (2, .int a2)] []
      refine s_iload_n (q := 1) C 1 dX2_readChain_0 rfl rfl rfl ?_
      refine s_iconst (q := 2) (v := 4) C dX2_readChain_1 rfl (by decide) ?_
      refine s_icmp_le (tgt := 11) (q := 5) C dX2_readChain_2 (by decide) rfl (fun c1 => ?_) (fun c1 => ?_)
      · refine s_aload_n (q := 12) C 0 dX2_readChain_11 rfl rfl rfl ?_
        refine s_iload_n (q := 13) C 1 dX2_readChain_12 rfl rfl rfl ?_
        refine s_iconst (q := 14) (v := 1) C dX2_readChain_13 rfl (by decide) ?_
        refine s_iadd (q := 15) C dX2_readChain_14 rfl ?_
        refine s_iload_n (q := 16) C 2 dX2_readChain_15 rfl rfl rfl ?_
        refine s_Vv (q := 19) (As := [.int (a1 + 1), .int a2]) (st := []) C (hrc0 V c0 (a1 + 1) a2 hs0) yvX2_readChain mlX2_40 hs0 rfl rfl rfl rfl rfl rfl (gR_le (by omega) (by omega)) (Nat.le_of_ble_eq_true rfl) dX2_readChain_16 rfl (fun V2 => ?_)
        refine s_iload_n (q := 20) C 1 dX2_readChain_19 rfl rfl rfl ?_
        refine s_iconst (q := 21) (v := 2) C dX2_readChain_20 rfl (by decide) ?_
        refine s_icmp_ne (tgt := 28) (q := 24) C dX2_readChain_21 (by decide) rfl (fun c3 => ?_) (fun c3 => ?_)
        · refine s_iconst (q := 25) (v := 1) C dX2_readChain_24 rfl (by decide) ?_
          refine s_goto (q := 30) C dX2_readChain_25 (by decide) ?_
          refine s_istore_n (q := 31) (L' := [(3, .int 1), (0, .ref (G.1 c0)), (1, .int a1), (2, .int a2)]) C dX2_readChain_30 rfl rfl (by decide) rfl ?_
          refine s_iconst (q := 32) (v := 0) C dX2_readChain_31 rfl (by decide) ?_
          refine s_istore (q := 34) (L' := [(4, .int 0), (3, .int 1), (0, .ref (G.1 c0)), (1, .int a1), (2, .int a2)]) C dX2_readChain_32 rfl (by decide) rfl ?_
          have hL2 : ∀ (n : Nat) (V19 : gV) (x20 : Int32), gSm l (gR (3 + 1 * (d + 1)) (65 + 25 * (d + 1))) 6 G X (fX2_readChain_L2 rc c0 a1 a2 n V19 x20) VV V19 34 [(0, .ref (G.1 c0)), (1, .int a1), (2, .int a2), (3, .int 1), (4, .int x20)] [] := by
            intro n
            induction n with
            | zero => exact fun V19 x20 => s_none
            | succ n ih =>
              intro V19 x20
              show gSm l (gR (3 + 1 * (d + 1)) (65 + 25 * (d + 1))) 6 G X (fX2_readChain_L2b rc c0 a1 a2 (fX2_readChain_L2 rc c0 a1 a2 n) V19 x20) VV V19 34 [(0, .ref (G.1 c0)), (1, .int a1), (2, .int a2), (3, .int 1), (4, .int x20)] []
              generalize fX2_readChain_L2 rc c0 a1 a2 n = B21 at ih ⊢
              have hB21 := ih
              unfold fX2_readChain_L2b
              refine s_iload (q := 36) C 4 dX2_readChain_34 rfl rfl ?_
              refine s_iload_n (q := 37) C 3 dX2_readChain_36 rfl rfl rfl ?_
              refine s_icmp_ge (tgt := 98) (q := 40) C dX2_readChain_37 (by decide) rfl (fun c22 => ?_) (fun c22 => ?_)
              · exact s_vret C E dX2_readChain_98
              · refine s_aload_n (q := 41) C 0 dX2_readChain_40 rfl rfl rfl ?_
                refine geX2_5 (q := 44) C hs0 flX2_36 dX2_readChain_41 rfl ?_
                refine s_if_ge (tgt := 98) (q := 47) C dX2_readChain_44 (by decide) rfl (fun c23 => ?_) (fun c23 => ?_)
                · exact s_vret C E dX2_readChain_98
                · refine s_aload_n (q := 48) C 0 dX2_readChain_47 rfl rfl rfl ?_
                  refine s_Vi (q := 51) (As := []) (st := []) C (uX2_next l G hG V19 c0 hs0) yvX2_next mlX2_55 hs0 rfl rfl rfl rfl rfl rfl (gR_le (by omega) (by omega)) (Nat.le_of_ble_eq_true rfl) dX2_readChain_48 rfl (fun x24 V25 => ?_)
                  refine s_Si (q := 54) (As := [.int x24]) (st := []) C (uX2_rankOf l G hG V25 x24) ysX2_rankOf mlX2_59 rfl rfl rfl rfl (gR_le (by omega) (by omega)) (Nat.le_of_ble_eq_true rfl) dX2_readChain_51 rfl (fun x26 V27 => ?_)
                  refine s_iload_n (q := 55) C 1 dX2_readChain_54 rfl rfl rfl ?_
                  refine s_icmp_ne (tgt := 98) (q := 58) C dX2_readChain_55 (by decide) rfl (fun c28 => ?_) (fun c28 => ?_)
                  · refine s_aload_n (q := 59) C 0 dX2_readChain_58 rfl rfl rfl ?_
                    refine s_Vi (q := 62) (As := []) (st := []) C (uX2_next l G hG V27 c0 hs0) yvX2_next mlX2_55 hs0 rfl rfl rfl rfl rfl rfl (gR_le (by omega) (by omega)) (Nat.le_of_ble_eq_true rfl) dX2_readChain_59 rfl (fun x29 V30 => ?_)
                    refine s_istore (q := 64) (L' := [(5, .int x29), (0, .ref (G.1 c0)), (1, .int a1), (2, .int a2), (3, .int 1), (4, .int x20)]) C dX2_readChain_62 rfl (by decide) rfl ?_
                    refine s_aload_n (q := 65) C 1 dX2_readChain_64 rfl rfl rfl ?_
                    refine s_dup (q := 66) C dX2_readChain_65 rfl rfl ?_
                    refine geX2_4 (q := 69) C hs0 flX2_33 dX2_readChain_66 rfl ?_
                    refine s_iconst (q := 70) (v := 1) C dX2_readChain_69 rfl (by decide) ?_
                    refine s_iadd (q := 71) C dX2_readChain_70 rfl ?_
                    refine peX2_4 (q := 74) C hs0 flX2_33 dX2_readChain_71 rfl (fun V31 => ?_)
                    refine s_aload_n (q := 75) C 1 dX2_readChain_74 rfl rfl rfl ?_
                    refine s_iload_n (q := 76) C 2 dX2_readChain_75 rfl rfl rfl ?_
                    refine s_iconst (q := 77) (v := 1) C dX2_readChain_76 rfl (by decide) ?_
                    refine s_iadd (q := 78) C dX2_readChain_77 rfl ?_
                    refine s_iload_n (q := 79) C 3 dX2_readChain_78 rfl rfl rfl ?_
                    refine s_Vv (q := 82) (As := [.int (a1 + 1), .int a2]) (st := []) C (hrc0 V31 c0 (a1 + 1) a2 hs0) yvX2_readChain mlX2_40 hs0 rfl rfl rfl rfl rfl rfl (gR_le (by omega) (by omega)) (Nat.le_of_ble_eq_true rfl) dX2_readChain_79 rfl (fun V32 => ?_)
                    refine s_aload_n (q := 83) C 1 dX2_readChain_82 rfl rfl rfl ?_
                    refine geX2_0 (q := 86) C hs0 flX2_12 dX2_readChain_83 rfl ?_
                    refine s_iload (q := 88) C 0 dX2_readChain_86 rfl rfl ?_
                    refine s_ineg (q := 89) C dX2_readChain_88 rfl ?_
                    refine s_Vv (q := 92) (As := [.int (-x29)]) (st := []) C (uX4_add l G hG V32 (c0 + 1) (-x29) (qX2_0 hG hs0)) yvX4_add mlX2_63 (qX2_0 hG hs0) rfl rfl rfl rfl rfl rfl (gR_le (by omega) (by omega)) (Nat.le_of_ble_eq_true rfl) dX2_readChain_89 rfl (fun V33 => ?_)
                    refine s_iinc (q := 95) (w := 1) (L' := [(4, .int (x20 + 1)), (5, .int x29), (0, .ref (G.1 c0)), (1, .int a1), (2, .int a2), (3, .int 1)]) C 5 dX2_readChain_92 rfl rfl (by decide) rfl (by decide) rfl ?_
                    refine s_goto (q := 34) C dX2_readChain_95 (by decide) ?_
                    refine s_sub [2, 3, 4, 5, 0] rfl ?_
                    exact hB21 V33 ((x20 + 1))
                  · exact s_vret C E dX2_readChain_98
          refine s_sub [2, 3, 4, 1, 0] rfl ?_
          exact hL2 gFu V2 0
        · refine s_bipush (q := 30) (v := 50) C dX2_readChain_28 rfl (by decide) ?_
          refine s_istore_n (q := 31) (L' := [(3, .int 50), (0, .ref (G.1 c0)), (1, .int a1), (2, .int a2)]) C dX2_readChain_30 rfl rfl (by decide) rfl ?_
          refine s_iconst (q := 32) (v := 0) C dX2_readChain_31 rfl (by decide) ?_
          refine s_istore (q := 34) (L' := [(4, .int 0), (3, .int 50), (0, .ref (G.1 c0)), (1, .int a1), (2, .int a2)]) C dX2_readChain_32 rfl (by decide) rfl ?_
          have hL1 : ∀ (n : Nat) (V4 : gV) (x5 : Int32), gSm l (gR (3 + 1 * (d + 1)) (65 + 25 * (d + 1))) 6 G X (fX2_readChain_L1 rc c0 a1 a2 n V4 x5) VV V4 34 [(0, .ref (G.1 c0)), (1, .int a1), (2, .int a2), (3, .int 50), (4, .int x5)] [] := by
            intro n
            induction n with
            | zero => exact fun V4 x5 => s_none
            | succ n ih =>
              intro V4 x5
              show gSm l (gR (3 + 1 * (d + 1)) (65 + 25 * (d + 1))) 6 G X (fX2_readChain_L1b rc c0 a1 a2 (fX2_readChain_L1 rc c0 a1 a2 n) V4 x5) VV V4 34 [(0, .ref (G.1 c0)), (1, .int a1), (2, .int a2), (3, .int 50), (4, .int x5)] []
              generalize fX2_readChain_L1 rc c0 a1 a2 n = B6 at ih ⊢
              have hB6 := ih
              unfold fX2_readChain_L1b
              refine s_iload (q := 36) C 4 dX2_readChain_34 rfl rfl ?_
              refine s_iload_n (q := 37) C 3 dX2_readChain_36 rfl rfl rfl ?_
              refine s_icmp_ge (tgt := 98) (q := 40) C dX2_readChain_37 (by decide) rfl (fun c7 => ?_) (fun c7 => ?_)
              · exact s_vret C E dX2_readChain_98
              · refine s_aload_n (q := 41) C 0 dX2_readChain_40 rfl rfl rfl ?_
                refine geX2_5 (q := 44) C hs0 flX2_36 dX2_readChain_41 rfl ?_
                refine s_if_ge (tgt := 98) (q := 47) C dX2_readChain_44 (by decide) rfl (fun c8 => ?_) (fun c8 => ?_)
                · exact s_vret C E dX2_readChain_98
                · refine s_aload_n (q := 48) C 0 dX2_readChain_47 rfl rfl rfl ?_
                  refine s_Vi (q := 51) (As := []) (st := []) C (uX2_next l G hG V4 c0 hs0) yvX2_next mlX2_55 hs0 rfl rfl rfl rfl rfl rfl (gR_le (by omega) (by omega)) (Nat.le_of_ble_eq_true rfl) dX2_readChain_48 rfl (fun x9 V10 => ?_)
                  refine s_Si (q := 54) (As := [.int x9]) (st := []) C (uX2_rankOf l G hG V10 x9) ysX2_rankOf mlX2_59 rfl rfl rfl rfl (gR_le (by omega) (by omega)) (Nat.le_of_ble_eq_true rfl) dX2_readChain_51 rfl (fun x11 V12 => ?_)
                  refine s_iload_n (q := 55) C 1 dX2_readChain_54 rfl rfl rfl ?_
                  refine s_icmp_ne (tgt := 98) (q := 58) C dX2_readChain_55 (by decide) rfl (fun c13 => ?_) (fun c13 => ?_)
                  · refine s_aload_n (q := 59) C 0 dX2_readChain_58 rfl rfl rfl ?_
                    refine s_Vi (q := 62) (As := []) (st := []) C (uX2_next l G hG V12 c0 hs0) yvX2_next mlX2_55 hs0 rfl rfl rfl rfl rfl rfl (gR_le (by omega) (by omega)) (Nat.le_of_ble_eq_true rfl) dX2_readChain_59 rfl (fun x14 V15 => ?_)
                    refine s_istore (q := 64) (L' := [(5, .int x14), (0, .ref (G.1 c0)), (1, .int a1), (2, .int a2), (3, .int 50), (4, .int x5)]) C dX2_readChain_62 rfl (by decide) rfl ?_
                    refine s_aload_n (q := 65) C 1 dX2_readChain_64 rfl rfl rfl ?_
                    refine s_dup (q := 66) C dX2_readChain_65 rfl rfl ?_
                    refine geX2_4 (q := 69) C hs0 flX2_33 dX2_readChain_66 rfl ?_
                    refine s_iconst (q := 70) (v := 1) C dX2_readChain_69 rfl (by decide) ?_
                    refine s_iadd (q := 71) C dX2_readChain_70 rfl ?_
                    refine peX2_4 (q := 74) C hs0 flX2_33 dX2_readChain_71 rfl (fun V16 => ?_)
                    refine s_aload_n (q := 75) C 1 dX2_readChain_74 rfl rfl rfl ?_
                    refine s_iload_n (q := 76) C 2 dX2_readChain_75 rfl rfl rfl ?_
                    refine s_iconst (q := 77) (v := 1) C dX2_readChain_76 rfl (by decide) ?_
                    refine s_iadd (q := 78) C dX2_readChain_77 rfl ?_
                    refine s_iload_n (q := 79) C 3 dX2_readChain_78 rfl rfl rfl ?_
                    refine s_Vv (q := 82) (As := [.int (a1 + 1), .int a2]) (st := []) C (hrc0 V16 c0 (a1 + 1) a2 hs0) yvX2_readChain mlX2_40 hs0 rfl rfl rfl rfl rfl rfl (gR_le (by omega) (by omega)) (Nat.le_of_ble_eq_true rfl) dX2_readChain_79 rfl (fun V17 => ?_)
                    refine s_aload_n (q := 83) C 1 dX2_readChain_82 rfl rfl rfl ?_
                    refine geX2_0 (q := 86) C hs0 flX2_12 dX2_readChain_83 rfl ?_
                    refine s_iload (q := 88) C 0 dX2_readChain_86 rfl rfl ?_
                    refine s_ineg (q := 89) C dX2_readChain_88 rfl ?_
                    refine s_Vv (q := 92) (As := [.int (-x14)]) (st := []) C (uX4_add l G hG V17 (c0 + 1) (-x14) (qX2_0 hG hs0)) yvX4_add mlX2_63 (qX2_0 hG hs0) rfl rfl rfl rfl rfl rfl (gR_le (by omega) (by omega)) (Nat.le_of_ble_eq_true rfl) dX2_readChain_89 rfl (fun V18 => ?_)
                    refine s_iinc (q := 95) (w := 1) (L' := [(4, .int (x5 + 1)), (5, .int x14), (0, .ref (G.1 c0)), (1, .int a1), (2, .int a2), (3, .int 50)]) C 5 dX2_readChain_92 rfl rfl (by decide) rfl (by decide) rfl ?_
                    refine s_goto (q := 34) C dX2_readChain_95 (by decide) ?_
                    refine s_sub [2, 3, 4, 5, 0] rfl ?_
                    exact hB6 V18 ((x5 + 1))
                  · exact s_vret C E dX2_readChain_98
          refine s_sub [2, 3, 4, 1, 0] rfl ?_
          exact hL1 gFu V2 0
      · refine s_aload_n (q := 6) C 0 dX2_readChain_5 rfl rfl rfl ?_
        refine s_iload_n (q := 7) C 2 dX2_readChain_6 rfl rfl rfl ?_
        refine s_Vv (q := 10) (As := [.int a2]) (st := []) C (hrc1 V c0 a2 hs0) yvX2_readOne mlX2_51 hs0 rfl rfl rfl rfl rfl rfl (gR_le (by omega) (by omega)) (Nat.le_of_ble_eq_true rfl) dX2_readChain_7 rfl (fun V34 => ?_)
        exact s_vret C E dX2_readChain_10
    · intro V c0 a1 hs0
      show gMv l G yX2_readOne cX2_readOne 3 (gR (3 + 1 * (d + 1)) (65 + 25 * (d + 1))) [.ref (G.1 c0), .int a1] V (fX2_readOne_B (frdX2 d) V c0 a1)
      generalize frdX2 d = rc at hrc0 hrc1 hrc2 ⊢
      unfold fX2_readOne_B
      refine gM_v (by decide +kernel) rfl rfl (Nat.le_of_ble_eq_true rfl) (fun X VV C E => ?_)
      change gC cX2_readOne 3 RX2 G X at C
      change gSm l (gR (3 + 1 * (d + 1)) (65 + 25 * (d + 1))) 3 G X _ VV V 0 [(0, .ref (G.1 c0)), (1, .int a1)] []
      refine s_aload_n (q := 1) C 0 dX2_readOne_0 rfl rfl rfl ?_
      refine s_Vi (q := 4) (As := []) (st := []) C (uX2_next l G hG V c0 hs0) yvX2_next mlX2_55 hs0 rfl rfl rfl rfl rfl rfl (gR_le (by omega) (by omega)) (Nat.le_of_ble_eq_true rfl) dX2_readOne_1 rfl (fun x1 V2 => ?_)
      refine s_istore_n (q := 5) (L' := [(2, .int x1), (0, .ref (G.1 c0)), (1, .int a1)]) C dX2_readOne_4 rfl rfl (by decide) rfl ?_
      refine s_iload_n (q := 6) C 0 dX2_readOne_5 rfl rfl rfl ?_
      refine s_bipush (q := 8) (v := 48) C dX2_readOne_6 rfl (by decide) ?_
      refine s_bipush (q := 10) (v := 57) C dX2_readOne_8 rfl (by decide) ?_
      refine s_Si (q := 13) (As := [.int x1, .int 48, .int 57]) (st := []) C (uX7_within l G hG V2 x1 48 57) ysX7_within mlX2_66 rfl rfl rfl rfl (gR_le (by omega) (by omega)) (Nat.le_of_ble_eq_true rfl) dX2_readOne_10 rfl (fun x3 V4 => ?_)
      refine s_if_eq (tgt := 23) (q := 16) C dX2_readOne_13 (by decide) rfl (fun c5 => ?_) (fun c5 => ?_)
      · refine s_iload_n (q := 24) C 0 dX2_readOne_23 rfl rfl rfl ?_
        refine s_bipush (q := 26) (v := 33) C dX2_readOne_24 rfl (by decide) ?_
        refine s_jn (fun J9 => gSm l (gR (3 + 1 * (d + 1)) (65 + 25 * (d + 1))) 3 G X (J9) VV V4 35 [(0, .ref (G.1 c0)), (1, .int a1), (2, .int x1)] []) ?_ (fun J9 hJ9 => ?_)
        · refine s_aload_n (q := 36) C 0 dX2_readOne_35 rfl rfl rfl ?_
          refine s_iload_n (q := 37) C 2 dX2_readOne_36 rfl rfl rfl ?_
          refine s_iload_n (q := 38) C 1 dX2_readOne_37 rfl rfl rfl ?_
          refine s_iconst (q := 39) (v := 1) C dX2_readOne_38 rfl (by decide) ?_
          refine s_iadd (q := 40) C dX2_readOne_39 rfl ?_
          refine s_Vv (q := 43) (As := [.int x1, .int (a1 + 1)]) (st := []) C (hrc2 V4 c0 x1 (a1 + 1) hs0) yvX2_readOpened mlX2_73 hs0 rfl rfl rfl rfl rfl rfl (gR_le (by omega) (by omega)) (Nat.le_of_ble_eq_true rfl) dX2_readOne_40 rfl (fun V10 => ?_)
          refine s_goto (q := 51) C dX2_readOne_43 (by decide) ?_
          exact s_vret C E dX2_readOne_51
        · refine s_icmp_eq (tgt := 35) (q := 29) C dX2_readOne_26 (by decide) rfl (fun c11 => ?_) (fun c11 => ?_)
          · refine s_sub [1, 2, 0] rfl ?_
            exact hJ9
          · refine s_iload_n (q := 30) C 0 dX2_readOne_29 rfl rfl rfl ?_
            refine s_bipush (q := 32) (v := 40) C dX2_readOne_30 rfl (by decide) ?_
            refine s_icmp_ne (tgt := 46) (q := 35) C dX2_readOne_32 (by decide) rfl (fun c12 => ?_) (fun c12 => ?_)
            · refine s_sub [1, 2, 0] rfl ?_
              exact hJ9
            · refine s_aload_n (q := 47) C 1 dX2_readOne_46 rfl rfl rfl ?_
              refine s_iload_n (q := 48) C 0 dX2_readOne_47 rfl rfl rfl ?_
              refine s_Vv (q := 51) (As := [.int x1]) (st := []) C (uX2_readName l G hG V4 c0 x1 hs0) yvX2_readName mlX2_76 hs0 rfl rfl rfl rfl rfl rfl (gR_le (by omega) (by omega)) (Nat.le_of_ble_eq_true rfl) dX2_readOne_48 rfl (fun V13 => ?_)
              exact s_vret C E dX2_readOne_51
      · refine s_aload_n (q := 17) C 1 dX2_readOne_16 rfl rfl rfl ?_
        refine s_Vv (q := 20) (As := []) (st := []) C (uX2_readNumber l G hG V4 c0 hs0) yvX2_readNumber mlX2_70 hs0 rfl rfl rfl rfl rfl rfl (gR_le (by omega) (by omega)) (Nat.le_of_ble_eq_true rfl) dX2_readOne_17 rfl (fun V14 => ?_)
        refine s_goto (q := 51) C dX2_readOne_20 (by decide) ?_
        exact s_vret C E dX2_readOne_51
    · intro V c0 a1 a2 hs0
      show gMv l G yX2_readOpened cX2_readOpened 3 (gR (3 + 1 * (d + 1)) (65 + 25 * (d + 1))) [.ref (G.1 c0), .int a1, .int a2] V (fX2_readOpened_B (frdX2 d) V c0 a1 a2)
      generalize frdX2 d = rc at hrc0 hrc1 hrc2 ⊢
      unfold fX2_readOpened_B
      refine gM_v (by decide +kernel) rfl rfl (Nat.le_of_ble_eq_true rfl) (fun X VV C E => ?_)
      change gC cX2_readOpened 3 RX2 G X at C
      change gSm l (gR (3 + 1 * (d + 1)) (65 + 25 * (d + 1))) 3 G X _ VV V 0 [(0, .ref (G.1 c0)), (1, .int a1), (2, .int a2)] []
      refine s_iload_n (q := 1) C 2 dX2_readOpened_0 rfl rfl rfl ?_
      refine s_iconst (q := 2) (v := 5) C dX2_readOpened_1 rfl (by decide) ?_
      refine s_icmp_le (tgt := 10) (q := 5) C dX2_readOpened_2 (by decide) rfl (fun c1 => ?_) (fun c1 => ?_)
      · refine s_aload_n (q := 11) C 0 dX2_readOpened_10 rfl rfl rfl ?_
        refine s_dup (q := 12) C dX2_readOpened_11 rfl rfl ?_
        refine geX2_4 (q := 15) C hs0 flX2_33 dX2_readOpened_12 rfl ?_
        refine s_iconst (q := 16) (v := 1) C dX2_readOpened_15 rfl (by decide) ?_
        refine s_iadd (q := 17) C dX2_readOpened_16 rfl ?_
        refine peX2_4 (q := 20) C hs0 flX2_33 dX2_readOpened_17 rfl (fun V2 => ?_)
        refine s_iload_n (q := 21) C 1 dX2_readOpened_20 rfl rfl rfl ?_
        refine s_bipush (q := 23) (v := 33) C dX2_readOpened_21 rfl (by decide) ?_
        refine s_icmp_ne (tgt := 41) (q := 26) C dX2_readOpened_23 (by decide) rfl (fun c3 => ?_) (fun c3 => ?_)
        · refine s_aload_n (q := 27) C 0 dX2_readOpened_26 rfl rfl rfl ?_
          refine s_iload_n (q := 28) C 2 dX2_readOpened_27 rfl rfl rfl ?_
          refine s_Vv (q := 31) (As := [.int a2]) (st := []) C (hrc1 V2 c0 a2 hs0) yvX2_readOne mlX2_51 hs0 rfl rfl rfl rfl rfl rfl (gR_le (by omega) (by omega)) (Nat.le_of_ble_eq_true rfl) dX2_readOpened_28 rfl (fun V10 => ?_)
          refine s_aload_n (q := 32) C 0 dX2_readOpened_31 rfl rfl rfl ?_
          refine geX2_0 (q := 35) C hs0 flX2_12 dX2_readOpened_32 rfl ?_
          refine s_iload_n (q := 36) C 1 dX2_readOpened_35 rfl rfl rfl ?_
          refine s_ineg (q := 37) C dX2_readOpened_36 rfl ?_
          refine s_Vv (q := 40) (As := [.int (-a1)]) (st := []) C (uX4_add l G hG V10 (c0 + 1) (-a1) (qX2_0 hG hs0)) yvX4_add mlX2_63 (qX2_0 hG hs0) rfl rfl rfl rfl rfl rfl (gR_le (by omega) (by omega)) (Nat.le_of_ble_eq_true rfl) dX2_readOpened_37 rfl (fun V11 => ?_)
          exact s_vret C E dX2_readOpened_40
        · refine s_aload_n (q := 42) C 0 dX2_readOpened_41 rfl rfl rfl ?_
          refine s_iconst (q := 43) (v := 0) C dX2_readOpened_42 rfl (by decide) ?_
          refine s_iload_n (q := 44) C 2 dX2_readOpened_43 rfl rfl rfl ?_
          refine s_Vv (q := 47) (As := [.int 0, .int a2]) (st := []) C (hrc0 V2 c0 0 a2 hs0) yvX2_readChain mlX2_40 hs0 rfl rfl rfl rfl rfl rfl (gR_le (by omega) (by omega)) (Nat.le_of_ble_eq_true rfl) dX2_readOpened_44 rfl (fun V4 => ?_)
          refine s_aload_n (q := 48) C 0 dX2_readOpened_47 rfl rfl rfl ?_
          refine s_Vi (q := 51) (As := []) (st := []) C (uX2_next l G hG V4 c0 hs0) yvX2_next mlX2_55 hs0 rfl rfl rfl rfl rfl rfl (gR_le (by omega) (by omega)) (Nat.le_of_ble_eq_true rfl) dX2_readOpened_48 rfl (fun x5 V6 => ?_)
          refine s_bipush (q := 53) (v := 41) C dX2_readOpened_51 rfl (by decide) ?_
          refine s_icmp_ne (tgt := 69) (q := 56) C dX2_readOpened_53 (by decide) rfl (fun c7 => ?_) (fun c7 => ?_)
          · refine s_aload_n (q := 57) C 0 dX2_readOpened_56 rfl rfl rfl ?_
            refine s_dup (q := 58) C dX2_readOpened_57 rfl rfl ?_
            refine geX2_4 (q := 61) C hs0 flX2_33 dX2_readOpened_58 rfl ?_
            refine s_iconst (q := 62) (v := 1) C dX2_readOpened_61 rfl (by decide) ?_
            refine s_iadd (q := 63) C dX2_readOpened_62 rfl ?_
            refine peX2_4 (q := 66) C hs0 flX2_33 dX2_readOpened_63 rfl (fun V9 => ?_)
            refine s_goto (q := 73) C dX2_readOpened_66 (by decide) ?_
            exact s_vret C E dX2_readOpened_73
          · refine s_aload_n (q := 70) C 0 dX2_readOpened_69 rfl rfl rfl ?_
            refine s_Vv (q := 73) (As := []) (st := []) C (uX2_failHere l G hG V6 c0 hs0) yvX2_failHere mlX2_44 hs0 rfl rfl rfl rfl rfl rfl (gR_le (by omega) (by omega)) (Nat.le_of_ble_eq_true rfl) dX2_readOpened_70 rfl (fun V8 => ?_)
            exact s_vret C E dX2_readOpened_73
      · refine s_aload_n (q := 6) C 0 dX2_readOpened_5 rfl rfl rfl ?_
        refine s_Vv (q := 9) (As := []) (st := []) C (uX2_failHere l G hG V c0 hs0) yvX2_failHere mlX2_44 hs0 rfl rfl rfl rfl rfl rfl (gR_le (by omega) (by omega)) (Nat.le_of_ble_eq_true rfl) dX2_readOpened_6 rfl (fun V12 => ?_)
        exact s_vret C E dX2_readOpened_9
theorem uX2_readChain (l : Launch) (G : gG) (hG : gIsX G) (d : Nat) (V : gV) (c0 : Nat) (a1 : Int32) (a2 : Int32) (hs0 : G.2.2.1 c0 = kX2 c0) : gMv l G yX2_readChain cX2_readChain 6 (gR (3 + 1 * d) (65 + 25 * d)) [.ref (G.1 c0), .int a1, .int a2] V (frdX2 d 0 V c0 a1 a2) := (urdX2 l G hG d).1 V c0 a1 a2 hs0
theorem uX2_readOne (l : Launch) (G : gG) (hG : gIsX G) (d : Nat) (V : gV) (c0 : Nat) (a1 : Int32) (hs0 : G.2.2.1 c0 = kX2 c0) : gMv l G yX2_readOne cX2_readOne 3 (gR (3 + 1 * d) (65 + 25 * d)) [.ref (G.1 c0), .int a1] V (frdX2 d 1 V c0 a1 0) := (urdX2 l G hG d).2.1 V c0 a1 hs0
theorem uX2_readOpened (l : Launch) (G : gG) (hG : gIsX G) (d : Nat) (V : gV) (c0 : Nat) (a1 : Int32) (a2 : Int32) (hs0 : G.2.2.1 c0 = kX2 c0) : gMv l G yX2_readOpened cX2_readOpened 3 (gR (3 + 1 * d) (65 + 25 * d)) [.ref (G.1 c0), .int a1, .int a2] V (frdX2 d 2 V c0 a1 a2) := (urdX2 l G hG d).2.2 V c0 a1 a2 hs0
noncomputable def fX2_faultOf (V : gV) (c0 : Nat) (c1 n1 : Nat) (a2 : Int32) (c3 n3 : Nat) : Option (Int32 × gV) := gbv (fX7_copyRow V c1 n1 (c0 + 4) 50) fun (V1 : gV) => gbv (fX7_copyRow V1 c3 n3 (c0 + 5) 3) fun (V2 : gV) => gpu V2 c0 3 a2 fun (V3 : gV) => gpu V3 c0 4 0 fun (V4 : gV) => gpu V4 c0 5 (-1) fun (V5 : gV) => gpu V5 (c0 + 1) 2 0 fun (V6 : gV) => gbv (frdX2 60 0 V6 c0 0 0) fun (V7 : gV) => if (V7 c0 3) ≤ (V7 c0 4) then (some ((V7 c0 5), V7)) else (gbv (fX2_failHere V7 c0) fun (V9 : gV) => some ((V9 c0 5), V9))
set_option maxHeartbeats 4000000 in
set_option maxRecDepth 100000 in
theorem uX2_faultOf (l : Launch) (G : gG) (hG : gIsX G) (V : gV) (c0 : Nat) (c1 n1 : Nat) (a2 : Int32) (c3 n3 : Nat) (hs0 : G.2.2.1 c0 = kX2 c0) (hs1 : G.2.2.1 c1 = (some (.inl n1) : gK)) (hs3 : G.2.2.1 c3 = (some (.inl n3) : gK)) : gMi l G yX2_faultOf cX2_faultOf 4 Jvm.ClassFile.FieldType.int (gR 64 1590) [.ref (G.1 c0), .ref (G.1 c1), .int a2, .ref (G.1 c3)] V (fX2_faultOf V c0 c1 n1 a2 c3 n3) := by
  unfold fX2_faultOf
  refine gM_i (by decide +kernel) rfl rfl (Nat.le_of_ble_eq_true rfl) (fun X rr VV C E => ?_)
  change gC cX2_faultOf 4 RX2 G X at C
  change gSm l (gR 64 1590) 4 G X _ (rr, VV) V 0 [(0, .ref (G.1 c0)), (1, .ref (G.1 c1)), (2, .int a2), (3, .ref (G.1 c3))] []
  refine s_aload_n (q := 1) C 1 dX2_faultOf_0 rfl rfl rfl ?_
  refine s_aload_n (q := 2) C 0 dX2_faultOf_1 rfl rfl rfl ?_
  refine geX2_1 (q := 5) C hs0 flX2_18 dX2_faultOf_2 rfl ?_
  refine s_Sv (q := 8) (As := [.ref (G.1 c1), .ref (G.1 (c0 + 4))]) (st := []) C (uX7_copyRow l G hG V c1 n1 (c0 + 4) 50 hs1 (qX2_1 hG hs0) (mX2_1 hG hs0)) ysX7_copyRow mlX2_25 rfl rfl rfl rfl (gR_le (by decide) (by decide)) (Nat.le_of_ble_eq_true rfl) dX2_faultOf_5 rfl (fun V1 => ?_)
  refine s_aload_n (q := 9) C 3 dX2_faultOf_8 rfl rfl rfl ?_
  refine s_aload_n (q := 10) C 0 dX2_faultOf_9 rfl rfl rfl ?_
  refine geX2_2 (q := 13) C hs0 flX2_22 dX2_faultOf_10 rfl ?_
  refine s_Sv (q := 16) (As := [.ref (G.1 c3), .ref (G.1 (c0 + 5))]) (st := []) C (uX7_copyRow l G hG V1 c3 n3 (c0 + 5) 3 hs3 (qX2_2 hG hs0) (mX2_2 hG hs0)) ysX7_copyRow mlX2_25 rfl rfl rfl rfl (gR_le (by decide) (by decide)) (Nat.le_of_ble_eq_true rfl) dX2_faultOf_13 rfl (fun V2 => ?_)
  refine s_aload_n (q := 17) C 0 dX2_faultOf_16 rfl rfl rfl ?_
  refine s_iload_n (q := 18) C 2 dX2_faultOf_17 rfl rfl rfl ?_
  refine peX2_3 (q := 21) C hs0 flX2_29 dX2_faultOf_18 rfl (fun V3 => ?_)
  refine s_aload_n (q := 22) C 0 dX2_faultOf_21 rfl rfl rfl ?_
  refine s_iconst (q := 23) (v := 0) C dX2_faultOf_22 rfl (by decide) ?_
  refine peX2_4 (q := 26) C hs0 flX2_33 dX2_faultOf_23 rfl (fun V4 => ?_)
  refine s_aload_n (q := 27) C 0 dX2_faultOf_26 rfl rfl rfl ?_
  refine s_iconst (q := 28) (v := (-1)) C dX2_faultOf_27 rfl (by decide) ?_
  refine peX2_5 (q := 31) C hs0 flX2_36 dX2_faultOf_28 rfl (fun V5 => ?_)
  refine s_aload_n (q := 32) C 0 dX2_faultOf_31 rfl rfl rfl ?_
  refine geX2_0 (q := 35) C hs0 flX2_12 dX2_faultOf_32 rfl ?_
  refine s_iconst (q := 36) (v := 0) C dX2_faultOf_35 rfl (by decide) ?_
  refine peX4_2 (q := 39) C (qX2_0 hG hs0) flX2_39 dX2_faultOf_36 rfl (fun V6 => ?_)
  refine s_aload_n (q := 40) C 0 dX2_faultOf_39 rfl rfl rfl ?_
  refine s_iconst (q := 41) (v := 0) C dX2_faultOf_40 rfl (by decide) ?_
  refine s_iconst (q := 42) (v := 0) C dX2_faultOf_41 rfl (by decide) ?_
  refine s_Vv (q := 45) (As := [.int 0, .int 0]) (st := []) C (uX2_readChain l G hG 60 V6 c0 0 0 hs0) yvX2_readChain mlX2_40 hs0 rfl rfl rfl rfl rfl rfl (gR_le (by decide) (by decide)) (Nat.le_of_ble_eq_true rfl) dX2_faultOf_42 rfl (fun V7 => ?_)
  refine s_aload_n (q := 46) C 0 dX2_faultOf_45 rfl rfl rfl ?_
  refine geX2_4 (q := 49) C hs0 flX2_33 dX2_faultOf_46 rfl ?_
  refine s_aload_n (q := 50) C 0 dX2_faultOf_49 rfl rfl rfl ?_
  refine geX2_3 (q := 53) C hs0 flX2_29 dX2_faultOf_50 rfl ?_
  refine s_icmp_ge (tgt := 60) (q := 56) C dX2_faultOf_53 (by decide) rfl (fun c8 => ?_) (fun c8 => ?_)
  · refine s_aload_n (q := 61) C 0 dX2_faultOf_60 rfl rfl rfl ?_
    refine geX2_5 (q := 64) C hs0 flX2_36 dX2_faultOf_61 rfl ?_
    exact s_iret C E dX2_faultOf_64
  · refine s_aload_n (q := 57) C 0 dX2_faultOf_56 rfl rfl rfl ?_
    refine s_Vv (q := 60) (As := []) (st := []) C (uX2_failHere l G hG V7 c0 hs0) yvX2_failHere mlX2_44 hs0 rfl rfl rfl rfl rfl rfl (gR_le (by decide) (by decide)) (Nat.le_of_ble_eq_true rfl) dX2_faultOf_57 rfl (fun V9 => ?_)
    refine s_aload_n (q := 61) C 0 dX2_faultOf_60 rfl rfl rfl ?_
    refine geX2_5 (q := 64) C hs0 flX2_36 dX2_faultOf_61 rfl ?_
    exact s_iret C E dX2_faultOf_64
noncomputable def fX3_makeNew_L1b (c0 : Nat) (B5 : gV → Int32 → Option gV) (V3 : gV) (x4 : Int32) : Option gV := if 40 ≤ x4 then (some V3) else (gbv (fX7_setAt V3 (c0 + 1) 40 x4 0) fun (V7 : gV) => B5 V7 ((x4 + 1)))
noncomputable def fX3_makeNew_L1 (c0 : Nat) : Nat → gV → Int32 → Option gV
  | 0 => fun _ _ => none
  | n + 1 => fX3_makeNew_L1b c0 (fX3_makeNew_L1 c0 n)
noncomputable def fX3_makeNew (V : gV) (c0 : Nat) (a1 : Int32) (a2 : Int32) : Option gV := gpu V c0 1 a1 fun (V1 : gV) => gpu V1 c0 2 a2 fun (V2 : gV) => fX3_makeNew_L1 c0 gFu V2 0
set_option maxHeartbeats 4000000 in
set_option maxRecDepth 100000 in
theorem uX3_makeNew (l : Launch) (G : gG) (hG : gIsX G) (V : gV) (c0 : Nat) (a1 : Int32) (a2 : Int32) (hs0 : G.2.2.1 c0 = kX3 c0) : gMv l G yX3_makeNew cX3_makeNew 4 (gR 1 22) [.ref (G.1 c0), .int a1, .int a2] V (fX3_makeNew V c0 a1 a2) := by
  unfold fX3_makeNew
  refine gM_v (by decide +kernel) rfl rfl (Nat.le_of_ble_eq_true rfl) (fun X VV C E => ?_)
  change gC cX3_makeNew 4 RX3 G X at C
  change gSm l (gR 1 22) 4 G X _ VV V 0 [(0, .ref (G.1 c0)), (1, .int a1), (2, .int a2)] []
  refine s_aload_n (q := 1) C 0 dX3_makeNew_0 rfl rfl rfl ?_
  refine s_iload_n (q := 2) C 1 dX3_makeNew_1 rfl rfl rfl ?_
  refine peX3_1 (q := 5) C hs0 flX3_15 dX3_makeNew_2 rfl (fun V1 => ?_)
  refine s_aload_n (q := 6) C 0 dX3_makeNew_5 rfl rfl rfl ?_
  refine s_iload_n (q := 7) C 2 dX3_makeNew_6 rfl rfl rfl ?_
  refine peX3_2 (q := 10) C hs0 flX3_19 dX3_makeNew_7 rfl (fun V2 => ?_)
  refine s_iconst (q := 11) (v := 0) C dX3_makeNew_10 rfl (by decide) ?_
  refine s_istore_n (q := 12) (L' := [(3, .int 0), (0, .ref (G.1 c0)), (1, .int a1), (2, .int a2)]) C dX3_makeNew_11 rfl rfl (by decide) rfl ?_
  have hL1 : ∀ (n : Nat) (V3 : gV) (x4 : Int32), gSm l (gR 1 22) 4 G X (fX3_makeNew_L1 c0 n V3 x4) VV V3 12 [(0, .ref (G.1 c0)), (3, .int x4)] [] := by
    intro n
    induction n with
    | zero => exact fun V3 x4 => s_none
    | succ n ih =>
      intro V3 x4
      show gSm l (gR 1 22) 4 G X (fX3_makeNew_L1b c0 (fX3_makeNew_L1 c0 n) V3 x4) VV V3 12 [(0, .ref (G.1 c0)), (3, .int x4)] []
      generalize fX3_makeNew_L1 c0 n = B5 at ih ⊢
      have hB5 := ih
      unfold fX3_makeNew_L1b
      refine s_iload_n (q := 13) C 1 dX3_makeNew_12 rfl rfl rfl ?_
      refine s_aload_n (q := 14) C 0 dX3_makeNew_13 rfl rfl rfl ?_
      refine geX3_0 (q := 17) C hs0 flX3_9 dX3_makeNew_14 rfl ?_
      refine s_alen (q := 18) (v := 40) C (qX3_0 hG hs0) (by decide) dX3_makeNew_17 rfl ?_
      refine s_icmp_ge (tgt := 36) (q := 21) C dX3_makeNew_18 (by decide) rfl (fun c6 => ?_) (fun c6 => ?_)
      · exact s_vret C E dX3_makeNew_36
      · refine s_aload_n (q := 22) C 0 dX3_makeNew_21 rfl rfl rfl ?_
        refine geX3_0 (q := 25) C hs0 flX3_9 dX3_makeNew_22 rfl ?_
        refine s_iload_n (q := 26) C 1 dX3_makeNew_25 rfl rfl rfl ?_
        refine s_iconst (q := 27) (v := 0) C dX3_makeNew_26 rfl (by decide) ?_
        refine s_Sv (q := 30) (As := [.ref (G.1 (c0 + 1)), .int x4, .int 0]) (st := []) C (uX7_setAt l G hG V3 (c0 + 1) 40 x4 0 (qX3_0 hG hs0) (mX3_0 hG hs0)) ysX7_setAt mlX3_22 rfl rfl rfl rfl (gR_le (by decide) (by decide)) (Nat.le_of_ble_eq_true rfl) dX3_makeNew_27 rfl (fun V7 => ?_)
        refine s_iinc (q := 33) (w := 1) (L' := [(3, .int (x4 + 1)), (0, .ref (G.1 c0))]) C 1 dX3_makeNew_30 rfl rfl (by decide) rfl (by decide) rfl ?_
        refine s_goto (q := 12) C dX3_makeNew_33 (by decide) ?_
        refine s_sub [1, 0] rfl ?_
        exact hB5 V7 ((x4 + 1))
  refine s_sub [1, 0] rfl ?_
  exact hL1 gFu V2 0
noncomputable def fX3_isMissing (V : gV) (c0 : Nat) : Option (Int32 × gV) := if (V c0 1) = 0 then (some (1, V)) else (some (0, V))
set_option maxHeartbeats 4000000 in
set_option maxRecDepth 100000 in
theorem uX3_isMissing (l : Launch) (G : gG) (hG : gIsX G) (V : gV) (c0 : Nat) (hs0 : G.2.2.1 c0 = kX3 c0) : gMi l G yX3_isMissing cX3_isMissing 1 Jvm.ClassFile.FieldType.boolean (gR 0 0) [.ref (G.1 c0)] V (fX3_isMissing V c0) := by
  unfold fX3_isMissing
  refine gM_i (by decide +kernel) rfl rfl (Nat.le_of_ble_eq_true rfl) (fun X rr VV C E => ?_)
  change gC cX3_isMissing 1 RX3 G X at C
  change gSm l (gR 0 0) 1 G X _ (rr, VV) V 0 [(0, .ref (G.1 c0))] []
  refine s_aload_n (q := 1) C 0 dX3_isMissing_0 rfl rfl rfl ?_
  refine geX3_1 (q := 4) C hs0 flX3_15 dX3_isMissing_1 rfl ?_
  refine s_if_ne (tgt := 11) (q := 7) C dX3_isMissing_4 (by decide) rfl (fun c1 => ?_) (fun c1 => ?_)
  · refine s_iconst (q := 8) (v := 1) C dX3_isMissing_7 rfl (by decide) ?_
    refine s_goto (q := 12) C dX3_isMissing_8 (by decide) ?_
    exact s_zret C E rfl dX3_isMissing_12
  · refine s_iconst (q := 12) (v := 0) C dX3_isMissing_11 rfl (by decide) ?_
    exact s_zret C E rfl dX3_isMissing_12
